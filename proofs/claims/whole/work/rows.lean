section
-- ===== PART A: goes FIRST, ahead of the names: the tables' words, and 'selects' of the private methods out of them =====
/-- a private method of a class that the tables say can be made, by its rows of tables_1 -/
def lw_okq (q : MethodName × Nat) : Prop := (q.1.cls ≠ "java/lang/invoke/MethodHandle" ∧ q.1.cls ≠ "java/lang/invoke/VarHandle") ∧ Cond.instantiable q.1.cls q.2 ∈ tables_1 ∧ Cond.privateMethod q.1 ∈ tables_1 ∧ Cond.instanceMethod q.1 ∈ tables_1
theorem lw_p0 : lw_okq (⟨"java/util/ArrayList", "add", "(Ljava/lang/Object;[Ljava/lang/Object;I)V"⟩, 3) := ⟨⟨by decide +kernel, by decide +kernel⟩, List.mem_of_getElem? (i := 44) (by decide +kernel), List.mem_of_getElem? (i := 228) (by decide +kernel), List.mem_of_getElem? (i := 229) (by decide +kernel)⟩
theorem lw_p1 : lw_okq (⟨"java/util/ArrayList", "grow", "()[Ljava/lang/Object;"⟩, 3) := ⟨⟨by decide +kernel, by decide +kernel⟩, List.mem_of_getElem? (i := 44) (by decide +kernel), List.mem_of_getElem? (i := 232) (by decide +kernel), List.mem_of_getElem? (i := 233) (by decide +kernel)⟩
theorem lw_p2 : lw_okq (⟨"java/util/ArrayList", "grow", "(I)[Ljava/lang/Object;"⟩, 3) := ⟨⟨by decide +kernel, by decide +kernel⟩, List.mem_of_getElem? (i := 44) (by decide +kernel), List.mem_of_getElem? (i := 236) (by decide +kernel), List.mem_of_getElem? (i := 237) (by decide +kernel)⟩
theorem lw_p3 : lw_okq (⟨"PolicyTree", "settingsOfLast", "()I"⟩, 14) := ⟨⟨by decide +kernel, by decide +kernel⟩, List.mem_of_getElem? (i := 36) (by decide +kernel), List.mem_of_getElem? (i := 357) (by decide +kernel), List.mem_of_getElem? (i := 358) (by decide +kernel)⟩
theorem lw_p4 : lw_okq (⟨"PolicyTree", "countQuarrels", "(II)I"⟩, 14) := ⟨⟨by decide +kernel, by decide +kernel⟩, List.mem_of_getElem? (i := 36) (by decide +kernel), List.mem_of_getElem? (i := 365) (by decide +kernel), List.mem_of_getElem? (i := 366) (by decide +kernel)⟩
theorem lw_p5 : lw_okq (⟨"PolicyTree", "countLasting", "()I"⟩, 14) := ⟨⟨by decide +kernel, by decide +kernel⟩, List.mem_of_getElem? (i := 36) (by decide +kernel), List.mem_of_getElem? (i := 404) (by decide +kernel), List.mem_of_getElem? (i := 405) (by decide +kernel)⟩
theorem lw_p6 : lw_okq (⟨"java/lang/Throwable", "fillInStackTrace", "(I)Ljava/lang/Throwable;"⟩, 6) := ⟨⟨by decide +kernel, by decide +kernel⟩, List.mem_of_getElem? (i := 458) (by decide +kernel), List.mem_of_getElem? (i := 456) (by decide +kernel), List.mem_of_getElem? (i := 457) (by decide +kernel)⟩
theorem lw_p7 : lw_okq (⟨"PolicyTree", "countMoved", "(ILPolicyTree$Node;LPolicyTree$Node;)I"⟩, 14) := ⟨⟨by decide +kernel, by decide +kernel⟩, List.mem_of_getElem? (i := 36) (by decide +kernel), List.mem_of_getElem? (i := 525) (by decide +kernel), List.mem_of_getElem? (i := 526) (by decide +kernel)⟩
theorem lw_p8 : lw_okq (⟨"PolicyTree$Groups", "groupsAround", "(I)I"⟩, 3) := ⟨⟨by decide +kernel, by decide +kernel⟩, List.mem_of_getElem? (i := 70) (by decide +kernel), List.mem_of_getElem? (i := 533) (by decide +kernel), List.mem_of_getElem? (i := 534) (by decide +kernel)⟩
theorem lw_p9 : lw_okq (⟨"PolicyTree$Row", "topOfOpen", "()I"⟩, 4) := ⟨⟨by decide +kernel, by decide +kernel⟩, List.mem_of_getElem? (i := 136) (by decide +kernel), List.mem_of_getElem? (i := 558) (by decide +kernel), List.mem_of_getElem? (i := 559) (by decide +kernel)⟩
theorem lw_p10 : lw_okq (⟨"PolicyTree$Row", "addLinks", "(IZI)V"⟩, 4) := ⟨⟨by decide +kernel, by decide +kernel⟩, List.mem_of_getElem? (i := 136) (by decide +kernel), List.mem_of_getElem? (i := 565) (by decide +kernel), List.mem_of_getElem? (i := 566) (by decide +kernel)⟩
theorem lw_p11 : lw_okq (⟨"PolicyTree$Outcome", "take", "(LPolicyTree$Link;II)V"⟩, 3) := ⟨⟨by decide +kernel, by decide +kernel⟩, List.mem_of_getElem? (i := 183) (by decide +kernel), List.mem_of_getElem? (i := 629) (by decide +kernel), List.mem_of_getElem? (i := 630) (by decide +kernel)⟩
theorem lw_p12 : lw_okq (⟨"PolicyTree$Outcome", "has", "(I)Z"⟩, 3) := ⟨⟨by decide +kernel, by decide +kernel⟩, List.mem_of_getElem? (i := 183) (by decide +kernel), List.mem_of_getElem? (i := 633) (by decide +kernel), List.mem_of_getElem? (i := 634) (by decide +kernel)⟩
theorem lw_p13 : lw_okq (⟨"PolicyTree$FilterReader", "skipBlanks", "()V"⟩, 9) := ⟨⟨by decide +kernel, by decide +kernel⟩, List.mem_of_getElem? (i := 102) (by decide +kernel), List.mem_of_getElem? (i := 807) (by decide +kernel), List.mem_of_getElem? (i := 808) (by decide +kernel)⟩
theorem lw_p14 : lw_okq (⟨"PolicyTree$FilterReader", "readEither", "(I)V"⟩, 9) := ⟨⟨by decide +kernel, by decide +kernel⟩, List.mem_of_getElem? (i := 102) (by decide +kernel), List.mem_of_getElem? (i := 815) (by decide +kernel), List.mem_of_getElem? (i := 816) (by decide +kernel)⟩
theorem lw_p15 : lw_okq (⟨"PolicyTree$FilterReader", "readBoth", "(I)V"⟩, 9) := ⟨⟨by decide +kernel, by decide +kernel⟩, List.mem_of_getElem? (i := 102) (by decide +kernel), List.mem_of_getElem? (i := 819) (by decide +kernel), List.mem_of_getElem? (i := 820) (by decide +kernel)⟩
def lw_privs_1 : List (MethodName × Nat) := [(⟨"java/util/ArrayList", "add", "(Ljava/lang/Object;[Ljava/lang/Object;I)V"⟩, 3), (⟨"java/util/ArrayList", "grow", "()[Ljava/lang/Object;"⟩, 3), (⟨"java/util/ArrayList", "grow", "(I)[Ljava/lang/Object;"⟩, 3), (⟨"PolicyTree", "settingsOfLast", "()I"⟩, 14), (⟨"PolicyTree", "countQuarrels", "(II)I"⟩, 14), (⟨"PolicyTree", "countLasting", "()I"⟩, 14), (⟨"java/lang/Throwable", "fillInStackTrace", "(I)Ljava/lang/Throwable;"⟩, 6), (⟨"PolicyTree", "countMoved", "(ILPolicyTree$Node;LPolicyTree$Node;)I"⟩, 14), (⟨"PolicyTree$Groups", "groupsAround", "(I)I"⟩, 3), (⟨"PolicyTree$Row", "topOfOpen", "()I"⟩, 4), (⟨"PolicyTree$Row", "addLinks", "(IZI)V"⟩, 4), (⟨"PolicyTree$Outcome", "take", "(LPolicyTree$Link;II)V"⟩, 3), (⟨"PolicyTree$Outcome", "has", "(I)Z"⟩, 3), (⟨"PolicyTree$FilterReader", "skipBlanks", "()V"⟩, 9), (⟨"PolicyTree$FilterReader", "readEither", "(I)V"⟩, 9), (⟨"PolicyTree$FilterReader", "readBoth", "(I)V"⟩, 9)]
theorem lw_r1 : ∀ q ∈ lw_privs_1, lw_okq q := List.forall_mem_cons.mpr ⟨lw_p0, List.forall_mem_cons.mpr ⟨lw_p1, List.forall_mem_cons.mpr ⟨lw_p2, List.forall_mem_cons.mpr ⟨lw_p3, List.forall_mem_cons.mpr ⟨lw_p4, List.forall_mem_cons.mpr ⟨lw_p5, List.forall_mem_cons.mpr ⟨lw_p6, List.forall_mem_cons.mpr ⟨lw_p7, List.forall_mem_cons.mpr ⟨lw_p8, List.forall_mem_cons.mpr ⟨lw_p9, List.forall_mem_cons.mpr ⟨lw_p10, List.forall_mem_cons.mpr ⟨lw_p11, List.forall_mem_cons.mpr ⟨lw_p12, List.forall_mem_cons.mpr ⟨lw_p13, List.forall_mem_cons.mpr ⟨lw_p14, List.forall_mem_cons.mpr ⟨lw_p15, fun _ h => absurd h List.not_mem_nil⟩⟩⟩⟩⟩⟩⟩⟩⟩⟩⟩⟩⟩⟩⟩⟩
theorem lw_p16 : lw_okq (⟨"PolicyTree$FilterReader", "readOne", "(I)V"⟩, 9) := ⟨⟨by decide +kernel, by decide +kernel⟩, List.mem_of_getElem? (i := 102) (by decide +kernel), List.mem_of_getElem? (i := 823) (by decide +kernel), List.mem_of_getElem? (i := 824) (by decide +kernel)⟩
theorem lw_p17 : lw_okq (⟨"PolicyTree$FilterReader", "takesByte", "(C)Z"⟩, 9) := ⟨⟨by decide +kernel, by decide +kernel⟩, List.mem_of_getElem? (i := 102) (by decide +kernel), List.mem_of_getElem? (i := 827) (by decide +kernel), List.mem_of_getElem? (i := 828) (by decide +kernel)⟩
theorem lw_p18 : lw_okq (⟨"PolicyTree$FilterReader", "mayOpen", "(II)Z"⟩, 9) := ⟨⟨by decide +kernel, by decide +kernel⟩, List.mem_of_getElem? (i := 102) (by decide +kernel), List.mem_of_getElem? (i := 831) (by decide +kernel), List.mem_of_getElem? (i := 832) (by decide +kernel)⟩
theorem lw_p19 : lw_okq (⟨"PolicyTree$FilterReader", "blame", "(II)V"⟩, 9) := ⟨⟨by decide +kernel, by decide +kernel⟩, List.mem_of_getElem? (i := 102) (by decide +kernel), List.mem_of_getElem? (i := 835) (by decide +kernel), List.mem_of_getElem? (i := 836) (by decide +kernel)⟩
theorem lw_p20 : lw_okq (⟨"PolicyTree$FilterReader", "takesWord", "(Ljava/lang/String;)Z"⟩, 9) := ⟨⟨by decide +kernel, by decide +kernel⟩, List.mem_of_getElem? (i := 102) (by decide +kernel), List.mem_of_getElem? (i := 840) (by decide +kernel), List.mem_of_getElem? (i := 841) (by decide +kernel)⟩
theorem lw_p21 : lw_okq (⟨"PolicyTree$FilterReader", "addStep", "(II)V"⟩, 9) := ⟨⟨by decide +kernel, by decide +kernel⟩, List.mem_of_getElem? (i := 102) (by decide +kernel), List.mem_of_getElem? (i := 893) (by decide +kernel), List.mem_of_getElem? (i := 894) (by decide +kernel)⟩
theorem lw_p22 : lw_okq (⟨"PolicyTree$FilterReader", "readNumber", "(II)V"⟩, 9) := ⟨⟨by decide +kernel, by decide +kernel⟩, List.mem_of_getElem? (i := 102) (by decide +kernel), List.mem_of_getElem? (i := 898) (by decide +kernel), List.mem_of_getElem? (i := 899) (by decide +kernel)⟩
theorem lw_p23 : lw_okq (⟨"java/util/ArrayList", "rangeCheckForAdd", "(I)V"⟩, 3) := ⟨⟨by decide +kernel, by decide +kernel⟩, List.mem_of_getElem? (i := 44) (by decide +kernel), List.mem_of_getElem? (i := 984) (by decide +kernel), List.mem_of_getElem? (i := 985) (by decide +kernel)⟩
theorem lw_p24 : lw_okq (⟨"java/util/ArrayList", "outOfBoundsMsg", "(I)Ljava/lang/String;"⟩, 3) := ⟨⟨by decide +kernel, by decide +kernel⟩, List.mem_of_getElem? (i := 44) (by decide +kernel), List.mem_of_getElem? (i := 989) (by decide +kernel), List.mem_of_getElem? (i := 990) (by decide +kernel)⟩
theorem lw_p25 : lw_okq (⟨"java/util/ArrayList", "fastRemove", "([Ljava/lang/Object;I)V"⟩, 3) := ⟨⟨by decide +kernel, by decide +kernel⟩, List.mem_of_getElem? (i := 44) (by decide +kernel), List.mem_of_getElem? (i := 1216) (by decide +kernel), List.mem_of_getElem? (i := 1217) (by decide +kernel)⟩
theorem lw_p26 : lw_okq (⟨"PolicyTree", "findOutcome", "(II)V"⟩, 14) := ⟨⟨by decide +kernel, by decide +kernel⟩, List.mem_of_getElem? (i := 36) (by decide +kernel), List.mem_of_getElem? (i := 1227) (by decide +kernel), List.mem_of_getElem? (i := 1228) (by decide +kernel)⟩
theorem lw_p27 : lw_okq (⟨"PolicyTree", "isSameInLane", "(II)Z"⟩, 14) := ⟨⟨by decide +kernel, by decide +kernel⟩, List.mem_of_getElem? (i := 36) (by decide +kernel), List.mem_of_getElem? (i := 1283) (by decide +kernel), List.mem_of_getElem? (i := 1284) (by decide +kernel)⟩
theorem lw_p28 : lw_okq (⟨"PolicyTree", "listReach", "(LPolicyTree$Link;)I"⟩, 14) := ⟨⟨by decide +kernel, by decide +kernel⟩, List.mem_of_getElem? (i := 36) (by decide +kernel), List.mem_of_getElem? (i := 1294) (by decide +kernel), List.mem_of_getElem? (i := 1295) (by decide +kernel)⟩
theorem lw_p29 : lw_okq (⟨"PolicyTree", "addReach", "(LPolicyTree$Link;II)I"⟩, 14) := ⟨⟨by decide +kernel, by decide +kernel⟩, List.mem_of_getElem? (i := 36) (by decide +kernel), List.mem_of_getElem? (i := 1299) (by decide +kernel), List.mem_of_getElem? (i := 1300) (by decide +kernel)⟩
theorem lw_p30 : lw_okq (⟨"PolicyTree", "findQuarreller", "(III)I"⟩, 14) := ⟨⟨by decide +kernel, by decide +kernel⟩, List.mem_of_getElem? (i := 36) (by decide +kernel), List.mem_of_getElem? (i := 1318) (by decide +kernel), List.mem_of_getElem? (i := 1319) (by decide +kernel)⟩
theorem lw_p31 : lw_okq (⟨"PolicyTreeModel", "none", "(II)Z"⟩, 47) := ⟨⟨by decide +kernel, by decide +kernel⟩, List.mem_of_getElem? (i := 1322) (by decide +kernel), List.mem_of_getElem? (i := 1479) (by decide +kernel), List.mem_of_getElem? (i := 1480) (by decide +kernel)⟩
def lw_privs_2 : List (MethodName × Nat) := [(⟨"PolicyTree$FilterReader", "readOne", "(I)V"⟩, 9), (⟨"PolicyTree$FilterReader", "takesByte", "(C)Z"⟩, 9), (⟨"PolicyTree$FilterReader", "mayOpen", "(II)Z"⟩, 9), (⟨"PolicyTree$FilterReader", "blame", "(II)V"⟩, 9), (⟨"PolicyTree$FilterReader", "takesWord", "(Ljava/lang/String;)Z"⟩, 9), (⟨"PolicyTree$FilterReader", "addStep", "(II)V"⟩, 9), (⟨"PolicyTree$FilterReader", "readNumber", "(II)V"⟩, 9), (⟨"java/util/ArrayList", "rangeCheckForAdd", "(I)V"⟩, 3), (⟨"java/util/ArrayList", "outOfBoundsMsg", "(I)Ljava/lang/String;"⟩, 3), (⟨"java/util/ArrayList", "fastRemove", "([Ljava/lang/Object;I)V"⟩, 3), (⟨"PolicyTree", "findOutcome", "(II)V"⟩, 14), (⟨"PolicyTree", "isSameInLane", "(II)Z"⟩, 14), (⟨"PolicyTree", "listReach", "(LPolicyTree$Link;)I"⟩, 14), (⟨"PolicyTree", "addReach", "(LPolicyTree$Link;II)I"⟩, 14), (⟨"PolicyTree", "findQuarreller", "(III)I"⟩, 14), (⟨"PolicyTreeModel", "none", "(II)Z"⟩, 47)]
theorem lw_r2 : ∀ q ∈ lw_privs_2, lw_okq q := List.forall_mem_cons.mpr ⟨lw_p16, List.forall_mem_cons.mpr ⟨lw_p17, List.forall_mem_cons.mpr ⟨lw_p18, List.forall_mem_cons.mpr ⟨lw_p19, List.forall_mem_cons.mpr ⟨lw_p20, List.forall_mem_cons.mpr ⟨lw_p21, List.forall_mem_cons.mpr ⟨lw_p22, List.forall_mem_cons.mpr ⟨lw_p23, List.forall_mem_cons.mpr ⟨lw_p24, List.forall_mem_cons.mpr ⟨lw_p25, List.forall_mem_cons.mpr ⟨lw_p26, List.forall_mem_cons.mpr ⟨lw_p27, List.forall_mem_cons.mpr ⟨lw_p28, List.forall_mem_cons.mpr ⟨lw_p29, List.forall_mem_cons.mpr ⟨lw_p30, List.forall_mem_cons.mpr ⟨lw_p31, fun _ h => absurd h List.not_mem_nil⟩⟩⟩⟩⟩⟩⟩⟩⟩⟩⟩⟩⟩⟩⟩⟩
theorem lw_p32 : lw_okq (⟨"PolicyTreeModel", "bad", "(ZI)Z"⟩, 47) := ⟨⟨by decide +kernel, by decide +kernel⟩, List.mem_of_getElem? (i := 1322) (by decide +kernel), List.mem_of_getElem? (i := 1483) (by decide +kernel), List.mem_of_getElem? (i := 1484) (by decide +kernel)⟩
theorem lw_p33 : lw_okq (⟨"PolicyTreeModel", "allIn", "(I)I"⟩, 47) := ⟨⟨by decide +kernel, by decide +kernel⟩, List.mem_of_getElem? (i := 1322) (by decide +kernel), List.mem_of_getElem? (i := 1515) (by decide +kernel), List.mem_of_getElem? (i := 1516) (by decide +kernel)⟩
theorem lw_p34 : lw_okq (⟨"PolicyTreeModel", "tells", "(II)Z"⟩, 47) := ⟨⟨by decide +kernel, by decide +kernel⟩, List.mem_of_getElem? (i := 1322) (by decide +kernel), List.mem_of_getElem? (i := 1530) (by decide +kernel), List.mem_of_getElem? (i := 1531) (by decide +kernel)⟩
theorem lw_p35 : lw_okq (⟨"PolicyTreeModel", "blanks", "()V"⟩, 47) := ⟨⟨by decide +kernel, by decide +kernel⟩, List.mem_of_getElem? (i := 1322) (by decide +kernel), List.mem_of_getElem? (i := 1550) (by decide +kernel), List.mem_of_getElem? (i := 1551) (by decide +kernel)⟩
theorem lw_p36 : lw_okq (⟨"PolicyTreeModel", "byteAt", "(I)I"⟩, 47) := ⟨⟨by decide +kernel, by decide +kernel⟩, List.mem_of_getElem? (i := 1322) (by decide +kernel), List.mem_of_getElem? (i := 1554) (by decide +kernel), List.mem_of_getElem? (i := 1555) (by decide +kernel)⟩
theorem lw_p37 : lw_okq (⟨"PolicyTreeModel", "any", "()V"⟩, 47) := ⟨⟨by decide +kernel, by decide +kernel⟩, List.mem_of_getElem? (i := 1322) (by decide +kernel), List.mem_of_getElem? (i := 1558) (by decide +kernel), List.mem_of_getElem? (i := 1559) (by decide +kernel)⟩
theorem lw_p38 : lw_okq (⟨"PolicyTreeModel", "all", "()V"⟩, 47) := ⟨⟨by decide +kernel, by decide +kernel⟩, List.mem_of_getElem? (i := 1322) (by decide +kernel), List.mem_of_getElem? (i := 1562) (by decide +kernel), List.mem_of_getElem? (i := 1563) (by decide +kernel)⟩
theorem lw_p39 : lw_okq (⟨"PolicyTreeModel", "one", "()V"⟩, 47) := ⟨⟨by decide +kernel, by decide +kernel⟩, List.mem_of_getElem? (i := 1322) (by decide +kernel), List.mem_of_getElem? (i := 1566) (by decide +kernel), List.mem_of_getElem? (i := 1567) (by decide +kernel)⟩
theorem lw_p40 : lw_okq (⟨"PolicyTreeModel", "isWord", "(Ljava/lang/String;)Z"⟩, 47) := ⟨⟨by decide +kernel, by decide +kernel⟩, List.mem_of_getElem? (i := 1322) (by decide +kernel), List.mem_of_getElem? (i := 1571) (by decide +kernel), List.mem_of_getElem? (i := 1572) (by decide +kernel)⟩
theorem lw_p41 : lw_okq (⟨"PolicyTreeModel", "opens", "()Z"⟩, 47) := ⟨⟨by decide +kernel, by decide +kernel⟩, List.mem_of_getElem? (i := 1322) (by decide +kernel), List.mem_of_getElem? (i := 1577) (by decide +kernel), List.mem_of_getElem? (i := 1578) (by decide +kernel)⟩
theorem lw_p42 : lw_okq (⟨"PolicyTreeModel", "wrong", "(II)V"⟩, 47) := ⟨⟨by decide +kernel, by decide +kernel⟩, List.mem_of_getElem? (i := 1322) (by decide +kernel), List.mem_of_getElem? (i := 1581) (by decide +kernel), List.mem_of_getElem? (i := 1582) (by decide +kernel)⟩
theorem lw_p43 : lw_okq (⟨"PolicyTreeModel", "emits", "(I)V"⟩, 47) := ⟨⟨by decide +kernel, by decide +kernel⟩, List.mem_of_getElem? (i := 1322) (by decide +kernel), List.mem_of_getElem? (i := 1585) (by decide +kernel), List.mem_of_getElem? (i := 1586) (by decide +kernel)⟩
theorem lw_p44 : lw_okq (⟨"PolicyTreeModel", "eat", "(Ljava/lang/String;)Z"⟩, 47) := ⟨⟨by decide +kernel, by decide +kernel⟩, List.mem_of_getElem? (i := 1322) (by decide +kernel), List.mem_of_getElem? (i := 1590) (by decide +kernel), List.mem_of_getElem? (i := 1591) (by decide +kernel)⟩
theorem lw_p45 : lw_okq (⟨"PolicyTreeModel", "number", "(II)V"⟩, 47) := ⟨⟨by decide +kernel, by decide +kernel⟩, List.mem_of_getElem? (i := 1322) (by decide +kernel), List.mem_of_getElem? (i := 1594) (by decide +kernel), List.mem_of_getElem? (i := 1595) (by decide +kernel)⟩
theorem lw_p46 : lw_okq (⟨"PolicyTreeModel", "isAsked", "(II)Z"⟩, 47) := ⟨⟨by decide +kernel, by decide +kernel⟩, List.mem_of_getElem? (i := 1322) (by decide +kernel), List.mem_of_getElem? (i := 1614) (by decide +kernel), List.mem_of_getElem? (i := 1615) (by decide +kernel)⟩
theorem lw_p47 : lw_okq (⟨"PolicyTreeModel", "groupsAnew", "()V"⟩, 47) := ⟨⟨by decide +kernel, by decide +kernel⟩, List.mem_of_getElem? (i := 1322) (by decide +kernel), List.mem_of_getElem? (i := 1618) (by decide +kernel), List.mem_of_getElem? (i := 1619) (by decide +kernel)⟩
def lw_privs_3 : List (MethodName × Nat) := [(⟨"PolicyTreeModel", "bad", "(ZI)Z"⟩, 47), (⟨"PolicyTreeModel", "allIn", "(I)I"⟩, 47), (⟨"PolicyTreeModel", "tells", "(II)Z"⟩, 47), (⟨"PolicyTreeModel", "blanks", "()V"⟩, 47), (⟨"PolicyTreeModel", "byteAt", "(I)I"⟩, 47), (⟨"PolicyTreeModel", "any", "()V"⟩, 47), (⟨"PolicyTreeModel", "all", "()V"⟩, 47), (⟨"PolicyTreeModel", "one", "()V"⟩, 47), (⟨"PolicyTreeModel", "isWord", "(Ljava/lang/String;)Z"⟩, 47), (⟨"PolicyTreeModel", "opens", "()Z"⟩, 47), (⟨"PolicyTreeModel", "wrong", "(II)V"⟩, 47), (⟨"PolicyTreeModel", "emits", "(I)V"⟩, 47), (⟨"PolicyTreeModel", "eat", "(Ljava/lang/String;)Z"⟩, 47), (⟨"PolicyTreeModel", "number", "(II)V"⟩, 47), (⟨"PolicyTreeModel", "isAsked", "(II)Z"⟩, 47), (⟨"PolicyTreeModel", "groupsAnew", "()V"⟩, 47)]
theorem lw_r3 : ∀ q ∈ lw_privs_3, lw_okq q := List.forall_mem_cons.mpr ⟨lw_p32, List.forall_mem_cons.mpr ⟨lw_p33, List.forall_mem_cons.mpr ⟨lw_p34, List.forall_mem_cons.mpr ⟨lw_p35, List.forall_mem_cons.mpr ⟨lw_p36, List.forall_mem_cons.mpr ⟨lw_p37, List.forall_mem_cons.mpr ⟨lw_p38, List.forall_mem_cons.mpr ⟨lw_p39, List.forall_mem_cons.mpr ⟨lw_p40, List.forall_mem_cons.mpr ⟨lw_p41, List.forall_mem_cons.mpr ⟨lw_p42, List.forall_mem_cons.mpr ⟨lw_p43, List.forall_mem_cons.mpr ⟨lw_p44, List.forall_mem_cons.mpr ⟨lw_p45, List.forall_mem_cons.mpr ⟨lw_p46, List.forall_mem_cons.mpr ⟨lw_p47, fun _ h => absurd h List.not_mem_nil⟩⟩⟩⟩⟩⟩⟩⟩⟩⟩⟩⟩⟩⟩⟩⟩
theorem lw_p48 : lw_okq (⟨"PolicyTreeModel", "yesOf", "(I)I"⟩, 47) := ⟨⟨by decide +kernel, by decide +kernel⟩, List.mem_of_getElem? (i := 1322) (by decide +kernel), List.mem_of_getElem? (i := 1622) (by decide +kernel), List.mem_of_getElem? (i := 1623) (by decide +kernel)⟩
theorem lw_p49 : lw_okq (⟨"PolicyTreeModel", "makes", "(III)V"⟩, 47) := ⟨⟨by decide +kernel, by decide +kernel⟩, List.mem_of_getElem? (i := 1322) (by decide +kernel), List.mem_of_getElem? (i := 1626) (by decide +kernel), List.mem_of_getElem? (i := 1627) (by decide +kernel)⟩
theorem lw_p50 : lw_okq (⟨"PolicyTreeModel", "adds", "(IZIII)V"⟩, 47) := ⟨⟨by decide +kernel, by decide +kernel⟩, List.mem_of_getElem? (i := 1322) (by decide +kernel), List.mem_of_getElem? (i := 1630) (by decide +kernel), List.mem_of_getElem? (i := 1631) (by decide +kernel)⟩
theorem lw_p51 : lw_okq (⟨"PolicyTreeModel", "holds", "(III)Z"⟩, 47) := ⟨⟨by decide +kernel, by decide +kernel⟩, List.mem_of_getElem? (i := 1322) (by decide +kernel), List.mem_of_getElem? (i := 1634) (by decide +kernel), List.mem_of_getElem? (i := 1635) (by decide +kernel)⟩
theorem lw_p52 : lw_okq (⟨"PolicyTreeModel", "isBelow", "(II)Z"⟩, 47) := ⟨⟨by decide +kernel, by decide +kernel⟩, List.mem_of_getElem? (i := 1322) (by decide +kernel), List.mem_of_getElem? (i := 1638) (by decide +kernel), List.mem_of_getElem? (i := 1639) (by decide +kernel)⟩
theorem lw_p53 : lw_okq (⟨"PolicyTreeModel", "outcomes", "(I)V"⟩, 47) := ⟨⟨by decide +kernel, by decide +kernel⟩, List.mem_of_getElem? (i := 1322) (by decide +kernel), List.mem_of_getElem? (i := 1642) (by decide +kernel), List.mem_of_getElem? (i := 1643) (by decide +kernel)⟩
theorem lw_p54 : lw_okq (⟨"PolicyTreeModel", "valueOf", "(II)I"⟩, 47) := ⟨⟨by decide +kernel, by decide +kernel⟩, List.mem_of_getElem? (i := 1322) (by decide +kernel), List.mem_of_getElem? (i := 1646) (by decide +kernel), List.mem_of_getElem? (i := 1647) (by decide +kernel)⟩
theorem lw_p55 : lw_okq (⟨"PolicyTreeModel", "keepsThem", "()V"⟩, 47) := ⟨⟨by decide +kernel, by decide +kernel⟩, List.mem_of_getElem? (i := 1322) (by decide +kernel), List.mem_of_getElem? (i := 1666) (by decide +kernel), List.mem_of_getElem? (i := 1667) (by decide +kernel)⟩
theorem lw_p56 : lw_okq (⟨"PolicyTreeModel", "isAsKept", "()Z"⟩, 47) := ⟨⟨by decide +kernel, by decide +kernel⟩, List.mem_of_getElem? (i := 1322) (by decide +kernel), List.mem_of_getElem? (i := 1670) (by decide +kernel), List.mem_of_getElem? (i := 1671) (by decide +kernel)⟩
theorem lw_p57 : lw_okq (⟨"PolicyTreeModel", "reaches", "(II)I"⟩, 47) := ⟨⟨by decide +kernel, by decide +kernel⟩, List.mem_of_getElem? (i := 1322) (by decide +kernel), List.mem_of_getElem? (i := 1679) (by decide +kernel), List.mem_of_getElem? (i := 1680) (by decide +kernel)⟩
theorem lw_p58 : lw_okq (⟨"PolicyTreeModel", "looks", "(I)I"⟩, 47) := ⟨⟨by decide +kernel, by decide +kernel⟩, List.mem_of_getElem? (i := 1322) (by decide +kernel), List.mem_of_getElem? (i := 1695) (by decide +kernel), List.mem_of_getElem? (i := 1696) (by decide +kernel)⟩
theorem lw_p59 : lw_okq (⟨"PolicyTreeModel", "areUnlike", "(II)Z"⟩, 47) := ⟨⟨by decide +kernel, by decide +kernel⟩, List.mem_of_getElem? (i := 1322) (by decide +kernel), List.mem_of_getElem? (i := 1699) (by decide +kernel), List.mem_of_getElem? (i := 1700) (by decide +kernel)⟩
def lw_privs_4 : List (MethodName × Nat) := [(⟨"PolicyTreeModel", "yesOf", "(I)I"⟩, 47), (⟨"PolicyTreeModel", "makes", "(III)V"⟩, 47), (⟨"PolicyTreeModel", "adds", "(IZIII)V"⟩, 47), (⟨"PolicyTreeModel", "holds", "(III)Z"⟩, 47), (⟨"PolicyTreeModel", "isBelow", "(II)Z"⟩, 47), (⟨"PolicyTreeModel", "outcomes", "(I)V"⟩, 47), (⟨"PolicyTreeModel", "valueOf", "(II)I"⟩, 47), (⟨"PolicyTreeModel", "keepsThem", "()V"⟩, 47), (⟨"PolicyTreeModel", "isAsKept", "()Z"⟩, 47), (⟨"PolicyTreeModel", "reaches", "(II)I"⟩, 47), (⟨"PolicyTreeModel", "looks", "(I)I"⟩, 47), (⟨"PolicyTreeModel", "areUnlike", "(II)Z"⟩, 47)]
theorem lw_r4 : ∀ q ∈ lw_privs_4, lw_okq q := List.forall_mem_cons.mpr ⟨lw_p48, List.forall_mem_cons.mpr ⟨lw_p49, List.forall_mem_cons.mpr ⟨lw_p50, List.forall_mem_cons.mpr ⟨lw_p51, List.forall_mem_cons.mpr ⟨lw_p52, List.forall_mem_cons.mpr ⟨lw_p53, List.forall_mem_cons.mpr ⟨lw_p54, List.forall_mem_cons.mpr ⟨lw_p55, List.forall_mem_cons.mpr ⟨lw_p56, List.forall_mem_cons.mpr ⟨lw_p57, List.forall_mem_cons.mpr ⟨lw_p58, List.forall_mem_cons.mpr ⟨lw_p59, fun _ h => absurd h List.not_mem_nil⟩⟩⟩⟩⟩⟩⟩⟩⟩⟩⟩⟩
def lw_privs : List (MethodName × Nat) := lw_privs_1 ++ (lw_privs_2 ++ (lw_privs_3 ++ (lw_privs_4)))
def lw_tbl : List Cond := k2_sels lw_privs ++ tables_1
theorem lw_privs_ok : ∀ q ∈ lw_privs, lw_okq q := by
  show ∀ q ∈ lw_privs_1 ++ (lw_privs_2 ++ (lw_privs_3 ++ (lw_privs_4))), lw_okq q
  exact List.forall_mem_append.mpr ⟨lw_r1, List.forall_mem_append.mpr ⟨lw_r2, List.forall_mem_append.mpr ⟨lw_r3, lw_r4⟩⟩⟩
-- ===== end of PART A; then your names; then what follows =====
end
section
/-! ===== BEGIN words of one list among another's, by their places ===== -/
theorem goodIn_r {big : List Cond} (ws : List Cond) (ps : List Nat) (hp : ws = ps.filterMap (fun i => big[i]?)) (h : ws.all goodWord = true) : GoodIn big ws := by
  intro w hw
  have h1 := List.all_eq_true.mp h w hw
  rw [hp] at hw
  obtain ⟨i, -, hi⟩ := List.mem_filterMap.mp hw
  have hm : w ∈ big := by first | exact List.mem_of_getElem? hi | exact List.getElem?_mem hi
  exact ⟨hm, good_of_word h1⟩
theorem goodIn_app {big a b : List Cond} (ha : GoodIn big a) (hb : GoodIn big b) : GoodIn big (a ++ b) := fun w h => (List.mem_append.mp h).elim (ha w) (hb w)
theorem goodIn_ca {big a b : List Cond} {c : Cond} (ha : GoodIn big (c :: a)) (hb : GoodIn big b) : GoodIn big (c :: (a ++ b)) := fun w h => (List.mem_cons.mp h).elim (fun e => ha w (List.mem_cons.mpr (Or.inl e))) (fun h => (List.mem_append.mp h).elim (fun h => ha w (List.mem_cons.mpr (Or.inr h))) (hb w))
theorem goodIn_sub {big ws : List Cond} (hm : ∀ w ∈ ws, w ∈ big) (h : ws.all goodWord = true) : GoodIn big ws := fun w hw => ⟨hm w hw, good_of_word (List.all_eq_true.mp h w hw)⟩
/-! ===== END ===== -/

/-! ===== BEGIN printed: names, fields, word lists, decode rows ===== -/
def RX0 : String := "PolicyTree$Bundle"
def TX0 : u_T := fun k => match k with
  | 0 => ("PolicyTree$Bundle", "values", "[I", true)
  | _ => ("PolicyTree$Bundle", "told", "I", false)
def tyX0 : Nat → FieldType := fun k => match k with
  | 0 => .array .int
  | _ => .int
abbrev wsX00 : List Cond := u_ws RX0 TX0 2
theorem nmX0 : ∀ a, a < 2 → ∀ b, b < 2 → a ≠ b → (TX0 a).2.1 ≠ (TX0 b).2.1 := by decide +kernel
theorem tyX0_ok : ∀ k, k < 2 → parseFieldDescriptor (TX0 k).2.2.1 = some (tyX0 k) := by decide +kernel
abbrev cX0_init : ByteArray := prog_2_method_1_code
def yX0_init : MethodName := ⟨RX0, "<init>", "()V"⟩
abbrev cX0_toldSettings : ByteArray := prog_2_method_2_code
def yX0_toldSettings : MethodName := ⟨RX0, "toldSettings", "()I"⟩
abbrev cX0_tells : ByteArray := prog_2_method_3_code
def yX0_tells : MethodName := ⟨RX0, "tells", "(I)Z"⟩
abbrev cX0_valueOf : ByteArray := prog_2_method_4_code
def yX0_valueOf : MethodName := ⟨RX0, "valueOf", "(I)I"⟩
abbrev cX0_put : ByteArray := prog_2_method_5_code
def yX0_put : MethodName := ⟨RX0, "put", "(II)Z"⟩
abbrev cX0_drop : ByteArray := prog_2_method_6_code
def yX0_drop : MethodName := ⟨RX0, "drop", "(I)Z"⟩
abbrev cX0_differs : ByteArray := prog_2_method_7_code
def yX0_differs : MethodName := ⟨RX0, "differs", "(LPolicyTree$Bundle;I)Z"⟩
def RX1 : String := "PolicyTree$Filter"
def TX1 : u_T := fun k => match k with
  | _ => ("PolicyTree$Filter", "steps", "[I", true)
def tyX1 : Nat → FieldType := fun k => match k with
  | _ => .array .int
abbrev wsX10 : List Cond := u_ws RX1 TX1 1
theorem nmX1 : ∀ a, a < 1 → ∀ b, b < 1 → a ≠ b → (TX1 a).2.1 ≠ (TX1 b).2.1 := by decide +kernel
theorem tyX1_ok : ∀ k, k < 1 → parseFieldDescriptor (TX1 k).2.2.1 = some (tyX1 k) := by decide +kernel
abbrev cX1_init : ByteArray := prog_3_method_1_code
def yX1_init : MethodName := ⟨RX1, "<init>", "([I)V"⟩
abbrev cX1_mentionedFacts : ByteArray := prog_3_method_2_code
def yX1_mentionedFacts : MethodName := ⟨RX1, "mentionedFacts", "()I"⟩
abbrev cX1_weigh : ByteArray := prog_3_method_3_code
def yX1_weigh : MethodName := ⟨RX1, "weigh", "(LPolicyTree$Standing;)J"⟩
def RX2 : String := "PolicyTree$FilterReader"
def TX2 : u_T := fun k => match k with
  | 0 => ("PolicyTree$FilterReader", "tape", "LPolicyTree$Tape;", true)
  | 1 => ("PolicyTree$FilterReader", "length", "I", false)
  | 2 => ("PolicyTree$FilterReader", "groups", "I", false)
  | 3 => ("PolicyTree$FilterReader", "nodes", "I", false)
  | 4 => ("PolicyTree$FilterReader", "at", "I", false)
  | 5 => ("PolicyTree$FilterReader", "fault", "I", false)
  | 6 => ("PolicyTree$FilterReader", "faultPlace", "I", false)
  | 7 => ("PolicyTree$FilterReader", "steps", "[I", true)
  | _ => ("PolicyTree$FilterReader", "size", "I", false)
def tyX2 : Nat → FieldType := fun k => match k with
  | 0 => .object "PolicyTree$Tape"
  | 1 => .int
  | 2 => .int
  | 3 => .int
  | 4 => .int
  | 5 => .int
  | 6 => .int
  | 7 => .array .int
  | _ => .int
abbrev wsX20 : List Cond := u_ws RX2 TX2 9
theorem nmX2 : ∀ a, a < 9 → ∀ b, b < 9 → a ≠ b → (TX2 a).2.1 ≠ (TX2 b).2.1 := by decide +kernel
theorem tyX2_ok : ∀ k, k < 9 → parseFieldDescriptor (TX2 k).2.2.1 = some (tyX2 k) := by decide +kernel
abbrev cX2_init : ByteArray := prog_4_method_1_code
def yX2_init : MethodName := ⟨RX2, "<init>", "(LPolicyTree$Tape;)V"⟩
abbrev cX2_read : ByteArray := prog_4_method_2_code
def yX2_read : MethodName := ⟨RX2, "read", "(III)I"⟩
abbrev cX2_faultPlace : ByteArray := prog_4_method_3_code
def yX2_faultPlace : MethodName := ⟨RX2, "faultPlace", "()I"⟩
abbrev cX2_filter : ByteArray := prog_4_method_4_code
def yX2_filter : MethodName := ⟨RX2, "filter", "()LPolicyTree$Filter;"⟩
abbrev cX2_readEither : ByteArray := prog_4_method_5_code
def yX2_readEither : MethodName := ⟨RX2, "readEither", "(I)V"⟩
abbrev cX2_readBoth : ByteArray := prog_4_method_6_code
def yX2_readBoth : MethodName := ⟨RX2, "readBoth", "(I)V"⟩
abbrev cX2_readOne : ByteArray := prog_4_method_7_code
def yX2_readOne : MethodName := ⟨RX2, "readOne", "(I)V"⟩
abbrev cX2_mayOpen : ByteArray := prog_4_method_8_code
def yX2_mayOpen : MethodName := ⟨RX2, "mayOpen", "(II)Z"⟩
abbrev cX2_readNumber : ByteArray := prog_4_method_9_code
def yX2_readNumber : MethodName := ⟨RX2, "readNumber", "(II)V"⟩
abbrev cX2_skipBlanks : ByteArray := prog_4_method_10_code
def yX2_skipBlanks : MethodName := ⟨RX2, "skipBlanks", "()V"⟩
abbrev cX2_takesByte : ByteArray := prog_4_method_11_code
def yX2_takesByte : MethodName := ⟨RX2, "takesByte", "(C)Z"⟩
abbrev cX2_takesWord : ByteArray := prog_4_method_12_code
def yX2_takesWord : MethodName := ⟨RX2, "takesWord", "(Ljava/lang/String;)Z"⟩
abbrev cX2_isBetween : ByteArray := prog_4_method_13_code
def yX2_isBetween : MethodName := ⟨RX2, "isBetween", "(III)Z"⟩
abbrev cX2_addStep : ByteArray := prog_4_method_14_code
def yX2_addStep : MethodName := ⟨RX2, "addStep", "(II)V"⟩
abbrev cX2_blame : ByteArray := prog_4_method_15_code
def yX2_blame : MethodName := ⟨RX2, "blame", "(II)V"⟩
def RX3 : String := "PolicyTree$Groups"
def TX3 : u_T := fun k => match k with
  | 0 => ("PolicyTree$Groups", "machinesIn", "[J", true)
  | 1 => ("PolicyTree$Groups", "groupsIn", "[I", true)
  | _ => ("PolicyTree$Groups", "size", "I", false)
def tyX3 : Nat → FieldType := fun k => match k with
  | 0 => .array .long
  | 1 => .array .int
  | _ => .int
abbrev wsX30 : List Cond := u_ws RX3 TX3 3
theorem nmX3 : ∀ a, a < 3 → ∀ b, b < 3 → a ≠ b → (TX3 a).2.1 ≠ (TX3 b).2.1 := by decide +kernel
theorem tyX3_ok : ∀ k, k < 3 → parseFieldDescriptor (TX3 k).2.2.1 = some (tyX3 k) := by decide +kernel
abbrev cX3_init : ByteArray := prog_5_method_1_code
def yX3_init : MethodName := ⟨RX3, "<init>", "()V"⟩
abbrev cX3_size : ByteArray := prog_5_method_2_code
def yX3_size : MethodName := ⟨RX3, "size", "()I"⟩
abbrev cX3_add : ByteArray := prog_5_method_3_code
def yX3_add : MethodName := ⟨RX3, "add", "()I"⟩
abbrev cX3_putMachine : ByteArray := prog_5_method_4_code
def yX3_putMachine : MethodName := ⟨RX3, "putMachine", "(IIZ)Z"⟩
abbrev cX3_putGroup : ByteArray := prog_5_method_5_code
def yX3_putGroup : MethodName := ⟨RX3, "putGroup", "(IIZ)Z"⟩
abbrev cX3_groupsOf : ByteArray := prog_5_method_6_code
def yX3_groupsOf : MethodName := ⟨RX3, "groupsOf", "(I)I"⟩
abbrev cX3_groupsAround : ByteArray := prog_5_method_7_code
def yX3_groupsAround : MethodName := ⟨RX3, "groupsAround", "(I)I"⟩
def RX4 : String := "PolicyTree$Link"
def TX4 : u_T := fun k => match k with
  | 0 => ("PolicyTree$Link", "number", "I", true)
  | 1 => ("PolicyTree$Link", "node", "LPolicyTree$Node;", true)
  | 2 => ("PolicyTree$Link", "set", "LPolicyTree$Bundle;", true)
  | 3 => ("PolicyTree$Link", "order", "I", true)
  | 4 => ("PolicyTree$Link", "forced", "Z", true)
  | 5 => ("PolicyTree$Link", "filter", "LPolicyTree$Filter;", true)
  | _ => ("PolicyTree$Link", "ended", "Z", false)
def tyX4 : Nat → FieldType := fun k => match k with
  | 0 => .int
  | 1 => .object "PolicyTree$Node"
  | 2 => .object "PolicyTree$Bundle"
  | 3 => .int
  | 4 => .boolean
  | 5 => .object "PolicyTree$Filter"
  | _ => .boolean
abbrev wsX40 : List Cond := u_ws RX4 TX4 7
theorem nmX4 : ∀ a, a < 7 → ∀ b, b < 7 → a ≠ b → (TX4 a).2.1 ≠ (TX4 b).2.1 := by decide +kernel
theorem tyX4_ok : ∀ k, k < 7 → parseFieldDescriptor (TX4 k).2.2.1 = some (tyX4 k) := by decide +kernel
abbrev cX4_init : ByteArray := prog_6_method_1_code
def yX4_init : MethodName := ⟨RX4, "<init>", "(ILPolicyTree$Node;LPolicyTree$Bundle;IZLPolicyTree$Filter;)V"⟩
abbrev cX4_quarrelsWith : ByteArray := prog_6_method_2_code
def yX4_quarrelsWith : MethodName := ⟨RX4, "quarrelsWith", "(LPolicyTree$Link;I)Z"⟩
def RX5 : String := "PolicyTree$Machine"
def TX5 : u_T := fun k => match k with
  | 0 => ("PolicyTree$Machine", "node", "LPolicyTree$Node;", true)
  | 1 => ("PolicyTree$Machine", "known", "I", false)
  | _ => ("PolicyTree$Machine", "yes", "I", false)
def tyX5 : Nat → FieldType := fun k => match k with
  | 0 => .object "PolicyTree$Node"
  | 1 => .int
  | _ => .int
abbrev wsX50 : List Cond := u_ws RX5 TX5 3
theorem nmX5 : ∀ a, a < 3 → ∀ b, b < 3 → a ≠ b → (TX5 a).2.1 ≠ (TX5 b).2.1 := by decide +kernel
theorem tyX5_ok : ∀ k, k < 3 → parseFieldDescriptor (TX5 k).2.2.1 = some (tyX5 k) := by decide +kernel
abbrev cX5_init : ByteArray := prog_7_method_1_code
def yX5_init : MethodName := ⟨RX5, "<init>", "(LPolicyTree$Node;)V"⟩
abbrev cX5_knownFacts : ByteArray := prog_7_method_2_code
def yX5_knownFacts : MethodName := ⟨RX5, "knownFacts", "()I"⟩
abbrev cX5_yesFacts : ByteArray := prog_7_method_3_code
def yX5_yesFacts : MethodName := ⟨RX5, "yesFacts", "()I"⟩
abbrev cX5_factNow : ByteArray := prog_7_method_4_code
def yX5_factNow : MethodName := ⟨RX5, "factNow", "(I)I"⟩
abbrev cX5_learn : ByteArray := prog_7_method_5_code
def yX5_learn : MethodName := ⟨RX5, "learn", "(II)V"⟩
def RX6 : String := "PolicyTree$Node"
def TX6 : u_T := fun k => match k with
  | 0 => ("PolicyTree$Node", "number", "I", true)
  | 1 => ("PolicyTree$Node", "above", "LPolicyTree$Node;", false)
  | 2 => ("PolicyTree$Node", "blocked", "Z", false)
  | _ => ("PolicyTree$Node", "links", "Ljava/util/ArrayList;", true)
def tyX6 : Nat → FieldType := fun k => match k with
  | 0 => .int
  | 1 => .object "PolicyTree$Node"
  | 2 => .boolean
  | _ => .object "java/util/ArrayList"
abbrev wsX60 : List Cond := u_ws RX6 TX6 4
theorem nmX6 : ∀ a, a < 4 → ∀ b, b < 4 → a ≠ b → (TX6 a).2.1 ≠ (TX6 b).2.1 := by decide +kernel
theorem tyX6_ok : ∀ k, k < 4 → parseFieldDescriptor (TX6 k).2.2.1 = some (tyX6 k) := by decide +kernel
abbrev cX6_init : ByteArray := prog_8_method_1_code
def yX6_init : MethodName := ⟨RX6, "<init>", "(ILPolicyTree$Node;)V"⟩
abbrev cX6_isWithin : ByteArray := prog_8_method_2_code
def yX6_isWithin : MethodName := ⟨RX6, "isWithin", "(LPolicyTree$Node;)Z"⟩
abbrev cX6_size : ByteArray := prog_8_method_3_code
def yX6_size : MethodName := ⟨RX6, "size", "()I"⟩
abbrev cX6_linkAt : ByteArray := prog_8_method_4_code
def yX6_linkAt : MethodName := ⟨RX6, "linkAt", "(I)LPolicyTree$Link;"⟩
abbrev cX6_insert : ByteArray := prog_8_method_5_code
def yX6_insert : MethodName := ⟨RX6, "insert", "(LPolicyTree$Link;)V"⟩
abbrev cX6_remove : ByteArray := prog_8_method_6_code
def yX6_remove : MethodName := ⟨RX6, "remove", "(LPolicyTree$Link;)V"⟩
def RX7 : String := "PolicyTree$Outcome"
def TX7 : u_T := fun k => match k with
  | 0 => ("PolicyTree$Outcome", "values", "[I", true)
  | 1 => ("PolicyTree$Outcome", "size", "I", false)
  | _ => ("PolicyTree$Outcome", "link", "LPolicyTree$Link;", false)
def tyX7 : Nat → FieldType := fun k => match k with
  | 0 => .array .int
  | 1 => .int
  | _ => .object "PolicyTree$Link"
abbrev wsX70 : List Cond := u_ws RX7 TX7 3
theorem nmX7 : ∀ a, a < 3 → ∀ b, b < 3 → a ≠ b → (TX7 a).2.1 ≠ (TX7 b).2.1 := by decide +kernel
theorem tyX7_ok : ∀ k, k < 3 → parseFieldDescriptor (TX7 k).2.2.1 = some (tyX7 k) := by decide +kernel
abbrev cX7_init : ByteArray := prog_9_method_1_code
def yX7_init : MethodName := ⟨RX7, "<init>", "()V"⟩
abbrev cX7_read : ByteArray := prog_9_method_2_code
def yX7_read : MethodName := ⟨RX7, "read", "(LPolicyTree$Row;IIILPolicyTree$Link;)V"⟩
abbrev cX7_size : ByteArray := prog_9_method_3_code
def yX7_size : MethodName := ⟨RX7, "size", "()I"⟩
abbrev cX7_teller : ByteArray := prog_9_method_4_code
def yX7_teller : MethodName := ⟨RX7, "teller", "()LPolicyTree$Link;"⟩
abbrev cX7_valueAt : ByteArray := prog_9_method_5_code
def yX7_valueAt : MethodName := ⟨RX7, "valueAt", "(I)I"⟩
abbrev cX7_isSame : ByteArray := prog_9_method_6_code
def yX7_isSame : MethodName := ⟨RX7, "isSame", "(LPolicyTree$Outcome;)Z"⟩
abbrev cX7_take : ByteArray := prog_9_method_7_code
def yX7_take : MethodName := ⟨RX7, "take", "(LPolicyTree$Link;II)V"⟩
abbrev cX7_has : ByteArray := prog_9_method_8_code
def yX7_has : MethodName := ⟨RX7, "has", "(I)Z"⟩
def RX8 : String := "PolicyTree$Row"
def TX8 : u_T := fun k => match k with
  | 0 => ("PolicyTree$Row", "way", "Ljava/util/ArrayList;", true)
  | 1 => ("PolicyTree$Row", "links", "Ljava/util/ArrayList;", true)
  | 2 => ("PolicyTree$Row", "weights", "[J", true)
  | _ => ("PolicyTree$Row", "standing", "LPolicyTree$Standing;", true)
def tyX8 : Nat → FieldType := fun k => match k with
  | 0 => .object "java/util/ArrayList"
  | 1 => .object "java/util/ArrayList"
  | 2 => .array .long
  | _ => .object "PolicyTree$Standing"
abbrev wsX80 : List Cond := u_ws RX8 TX8 4
theorem nmX8 : ∀ a, a < 4 → ∀ b, b < 4 → a ≠ b → (TX8 a).2.1 ≠ (TX8 b).2.1 := by decide +kernel
theorem tyX8_ok : ∀ k, k < 4 → parseFieldDescriptor (TX8 k).2.2.1 = some (tyX8 k) := by decide +kernel
abbrev cX8_init : ByteArray := prog_10_method_1_code
def yX8_init : MethodName := ⟨RX8, "<init>", "()V"⟩
abbrev cX8_collect : ByteArray := prog_10_method_2_code
def yX8_collect : MethodName := ⟨RX8, "collect", "(LPolicyTree$Machine;II)V"⟩
abbrev cX8_weigh : ByteArray := prog_10_method_3_code
def yX8_weigh : MethodName := ⟨RX8, "weigh", "(I)V"⟩
abbrev cX8_size : ByteArray := prog_10_method_4_code
def yX8_size : MethodName := ⟨RX8, "size", "()I"⟩
abbrev cX8_linkAt : ByteArray := prog_10_method_5_code
def yX8_linkAt : MethodName := ⟨RX8, "linkAt", "(I)LPolicyTree$Link;"⟩
abbrev cX8_holds : ByteArray := prog_10_method_6_code
def yX8_holds : MethodName := ⟨RX8, "holds", "(II)Z"⟩
abbrev cX8_doubtedFacts : ByteArray := prog_10_method_7_code
def yX8_doubtedFacts : MethodName := ⟨RX8, "doubtedFacts", "()I"⟩
abbrev cX8_topOfOpen : ByteArray := prog_10_method_8_code
def yX8_topOfOpen : MethodName := ⟨RX8, "topOfOpen", "()I"⟩
abbrev cX8_addLinks : ByteArray := prog_10_method_9_code
def yX8_addLinks : MethodName := ⟨RX8, "addLinks", "(IZI)V"⟩
def RX9 : String := "PolicyTree$Standing"
def TX9 : u_T := fun k => match k with
  | 0 => ("PolicyTree$Standing", "stack", "[J", true)
  | 1 => ("PolicyTree$Standing", "facts", "[J", true)
  | 2 => ("PolicyTree$Standing", "known", "I", false)
  | 3 => ("PolicyTree$Standing", "yes", "I", false)
  | 4 => ("PolicyTree$Standing", "groups", "I", false)
  | _ => ("PolicyTree$Standing", "way", "J", false)
def tyX9 : Nat → FieldType := fun k => match k with
  | 0 => .array .long
  | 1 => .array .long
  | 2 => .int
  | 3 => .int
  | 4 => .int
  | _ => .long
abbrev wsX90 : List Cond := u_ws RX9 TX9 6
theorem nmX9 : ∀ a, a < 6 → ∀ b, b < 6 → a ≠ b → (TX9 a).2.1 ≠ (TX9 b).2.1 := by decide +kernel
theorem tyX9_ok : ∀ k, k < 6 → parseFieldDescriptor (TX9 k).2.2.1 = some (tyX9 k) := by decide +kernel
abbrev cX9_init : ByteArray := prog_11_method_1_code
def yX9_init : MethodName := ⟨RX9, "<init>", "()V"⟩
abbrev cX9_enter : ByteArray := prog_11_method_2_code
def yX9_enter : MethodName := ⟨RX9, "enter", "(LPolicyTree$Machine;IJ)V"⟩
abbrev cX9_guess : ByteArray := prog_11_method_3_code
def yX9_guess : MethodName := ⟨RX9, "guess", "(I)V"⟩
abbrev cX9_knownFacts : ByteArray := prog_11_method_4_code
def yX9_knownFacts : MethodName := ⟨RX9, "knownFacts", "()I"⟩
abbrev cX9_weighAtom : ByteArray := prog_11_method_5_code
def yX9_weighAtom : MethodName := ⟨RX9, "weighAtom", "(II)J"⟩
abbrev cX9_spread : ByteArray := prog_11_method_6_code
def yX9_spread : MethodName := ⟨RX9, "spread", "(Z)J"⟩
def RX10 : String := "PolicyTree$Tape"
def TX10 : u_T := fun k => match k with
  | 0 => ("PolicyTree$Tape", "bytes", "[B", true)
  | _ => ("PolicyTree$Tape", "size", "I", false)
def tyX10 : Nat → FieldType := fun k => match k with
  | 0 => .array .byte
  | _ => .int
abbrev wsX100 : List Cond := u_ws RX10 TX10 2
theorem nmX10 : ∀ a, a < 2 → ∀ b, b < 2 → a ≠ b → (TX10 a).2.1 ≠ (TX10 b).2.1 := by decide +kernel
theorem tyX10_ok : ∀ k, k < 2 → parseFieldDescriptor (TX10 k).2.2.1 = some (tyX10 k) := by decide +kernel
abbrev cX10_init : ByteArray := prog_12_method_1_code
def yX10_init : MethodName := ⟨RX10, "<init>", "()V"⟩
abbrev cX10_size : ByteArray := prog_12_method_2_code
def yX10_size : MethodName := ⟨RX10, "size", "()I"⟩
abbrev cX10_hasRoom : ByteArray := prog_12_method_3_code
def yX10_hasRoom : MethodName := ⟨RX10, "hasRoom", "(I)Z"⟩
abbrev cX10_addNumber : ByteArray := prog_12_method_4_code
def yX10_addNumber : MethodName := ⟨RX10, "addNumber", "(I)V"⟩
abbrev cX10_byteAt : ByteArray := prog_12_method_5_code
def yX10_byteAt : MethodName := ⟨RX10, "byteAt", "(I)I"⟩
abbrev cX10_clear : ByteArray := prog_12_method_6_code
def yX10_clear : MethodName := ⟨RX10, "clear", "()V"⟩
def RX11 : String := "PolicyTree"
def TX11 : u_T := fun k => match k with
  | 0 => ("PolicyTree", "nodes", "Ljava/util/ArrayList;", true)
  | 1 => ("PolicyTree", "machines", "Ljava/util/ArrayList;", true)
  | 2 => ("PolicyTree", "groups", "LPolicyTree$Groups;", true)
  | 3 => ("PolicyTree", "sets", "Ljava/util/ArrayList;", true)
  | 4 => ("PolicyTree", "links", "Ljava/util/ArrayList;", true)
  | 5 => ("PolicyTree", "laws", "[I", true)
  | 6 => ("PolicyTree", "tape", "LPolicyTree$Tape;", true)
  | 7 => ("PolicyTree", "reader", "LPolicyTree$FilterReader;", true)
  | 8 => ("PolicyTree", "faultPlace", "I", false)
  | 9 => ("PolicyTree", "row", "LPolicyTree$Row;", true)
  | 10 => ("PolicyTree", "otherRow", "LPolicyTree$Row;", true)
  | 11 => ("PolicyTree", "outcome", "LPolicyTree$Outcome;", true)
  | 12 => ("PolicyTree", "otherOutcome", "LPolicyTree$Outcome;", true)
  | _ => ("PolicyTree", "pairs", "[I", true)
def tyX11 : Nat → FieldType := fun k => match k with
  | 0 => .object "java/util/ArrayList"
  | 1 => .object "java/util/ArrayList"
  | 2 => .object "PolicyTree$Groups"
  | 3 => .object "java/util/ArrayList"
  | 4 => .object "java/util/ArrayList"
  | 5 => .array .int
  | 6 => .object "PolicyTree$Tape"
  | 7 => .object "PolicyTree$FilterReader"
  | 8 => .int
  | 9 => .object "PolicyTree$Row"
  | 10 => .object "PolicyTree$Row"
  | 11 => .object "PolicyTree$Outcome"
  | 12 => .object "PolicyTree$Outcome"
  | _ => .array .int
abbrev wsX110 : List Cond := u_ws RX11 TX11 14
theorem nmX11 : ∀ a, a < 14 → ∀ b, b < 14 → a ≠ b → (TX11 a).2.1 ≠ (TX11 b).2.1 := by decide +kernel
theorem tyX11_ok : ∀ k, k < 14 → parseFieldDescriptor (TX11 k).2.2.1 = some (tyX11 k) := by decide +kernel
abbrev cX11_init : ByteArray := prog_1_method_1_code
def yX11_init : MethodName := ⟨RX11, "<init>", "()V"⟩
abbrev cX11_node : ByteArray := prog_1_method_2_code
def yX11_node : MethodName := ⟨RX11, "node", "(I)I"⟩
abbrev cX11_block : ByteArray := prog_1_method_3_code
def yX11_block : MethodName := ⟨RX11, "block", "(IZ)Z"⟩
abbrev cX11_move : ByteArray := prog_1_method_4_code
def yX11_move : MethodName := ⟨RX11, "move", "(II)I"⟩
abbrev cX11_machine : ByteArray := prog_1_method_5_code
def yX11_machine : MethodName := ⟨RX11, "machine", "(I)I"⟩
abbrev cX11_fact : ByteArray := prog_1_method_6_code
def yX11_fact : MethodName := ⟨RX11, "fact", "(III)I"⟩
abbrev cX11_group : ByteArray := prog_1_method_7_code
def yX11_group : MethodName := ⟨RX11, "group", "()I"⟩
abbrev cX11_joins : ByteArray := prog_1_method_8_code
def yX11_joins : MethodName := ⟨RX11, "joins", "(IIZ)Z"⟩
abbrev cX11_within : ByteArray := prog_1_method_9_code
def yX11_within : MethodName := ⟨RX11, "within", "(IIZ)Z"⟩
abbrev cX11_member : ByteArray := prog_1_method_10_code
def yX11_member : MethodName := ⟨RX11, "member", "(II)Z"⟩
abbrev cX11_set : ByteArray := prog_1_method_11_code
def yX11_set : MethodName := ⟨RX11, "set", "()I"⟩
abbrev cX11_tell : ByteArray := prog_1_method_12_code
def yX11_tell : MethodName := ⟨RX11, "tell", "(III)Z"⟩
abbrev cX11_untell : ByteArray := prog_1_method_13_code
def yX11_untell : MethodName := ⟨RX11, "untell", "(II)Z"⟩
abbrev cX11_law : ByteArray := prog_1_method_14_code
def yX11_law : MethodName := ⟨RX11, "law", "(II)I"⟩
abbrev cX11_feed : ByteArray := prog_1_method_15_code
def yX11_feed : MethodName := ⟨RX11, "feed", "(IIIII)I"⟩
abbrev cX11_link : ByteArray := prog_1_method_16_code
def yX11_link : MethodName := ⟨RX11, "link", "(IIIZI)I"⟩
abbrev cX11_fault : ByteArray := prog_1_method_17_code
def yX11_fault : MethodName := ⟨RX11, "fault", "()I"⟩
abbrev cX11_end : ByteArray := prog_1_method_18_code
def yX11_end : MethodName := ⟨RX11, "end", "(I)Z"⟩
abbrev cX11_outcome : ByteArray := prog_1_method_19_code
def yX11_outcome : MethodName := ⟨RX11, "outcome", "(II)I"⟩
abbrev cX11_value : ByteArray := prog_1_method_20_code
def yX11_value : MethodName := ⟨RX11, "value", "(III)I"⟩
abbrev cX11_reason : ByteArray := prog_1_method_21_code
def yX11_reason : MethodName := ⟨RX11, "reason", "(II)I"⟩
abbrev cX11_beaten : ByteArray := prog_1_method_22_code
def yX11_beaten : MethodName := ⟨RX11, "beaten", "(III)I"⟩
abbrev cX11_sure : ByteArray := prog_1_method_23_code
def yX11_sure : MethodName := ⟨RX11, "sure", "(II)Z"⟩
abbrev cX11_reach : ByteArray := prog_1_method_24_code
def yX11_reach : MethodName := ⟨RX11, "reach", "(I)I"⟩
abbrev cX11_reached : ByteArray := prog_1_method_25_code
def yX11_reached : MethodName := ⟨RX11, "reached", "(III)I"⟩
abbrev cX11_quarrels : ByteArray := prog_1_method_26_code
def yX11_quarrels : MethodName := ⟨RX11, "quarrels", "()I"⟩
abbrev cX11_quarrel : ByteArray := prog_1_method_27_code
def yX11_quarrel : MethodName := ⟨RX11, "quarrel", "(II)I"⟩
abbrev cX11_count : ByteArray := prog_1_method_28_code
def yX11_count : MethodName := ⟨RX11, "count", "(I)I"⟩
abbrev cX11_needNumber : ByteArray := prog_1_method_29_code
def yX11_needNumber : MethodName := ⟨RX11, "needNumber", "(II)V"⟩
abbrev cX11_needChoice : ByteArray := prog_1_method_30_code
def yX11_needChoice : MethodName := ⟨RX11, "needChoice", "(II)V"⟩
abbrev cX11_needRoom : ByteArray := prog_1_method_31_code
def yX11_needRoom : MethodName := ⟨RX11, "needRoom", "(II)V"⟩
abbrev cX11_findOutcome : ByteArray := prog_1_method_32_code
def yX11_findOutcome : MethodName := ⟨RX11, "findOutcome", "(II)V"⟩
abbrev cX11_isSameInLane : ByteArray := prog_1_method_33_code
def yX11_isSameInLane : MethodName := ⟨RX11, "isSameInLane", "(II)Z"⟩
abbrev cX11_countMoved : ByteArray := prog_1_method_34_code
def yX11_countMoved : MethodName := ⟨RX11, "countMoved", "(ILPolicyTree$Node;LPolicyTree$Node;)I"⟩
abbrev cX11_listReach : ByteArray := prog_1_method_35_code
def yX11_listReach : MethodName := ⟨RX11, "listReach", "(LPolicyTree$Link;)I"⟩
abbrev cX11_addReach : ByteArray := prog_1_method_36_code
def yX11_addReach : MethodName := ⟨RX11, "addReach", "(LPolicyTree$Link;II)I"⟩
abbrev cX11_settingsOfLast : ByteArray := prog_1_method_37_code
def yX11_settingsOfLast : MethodName := ⟨RX11, "settingsOfLast", "()I"⟩
abbrev cX11_countQuarrels : ByteArray := prog_1_method_38_code
def yX11_countQuarrels : MethodName := ⟨RX11, "countQuarrels", "(II)I"⟩
abbrev cX11_findQuarreller : ByteArray := prog_1_method_39_code
def yX11_findQuarreller : MethodName := ⟨RX11, "findQuarreller", "(III)I"⟩
abbrev cX11_countLasting : ByteArray := prog_1_method_40_code
def yX11_countLasting : MethodName := ⟨RX11, "countLasting", "()I"⟩
def RX12 : String := "PolicyTreeModel"
def TX12 : u_T := fun k => match k with
  | 0 => ("PolicyTreeModel", "thrown", "I", false)
  | 1 => ("PolicyTreeModel", "above", "[I", true)
  | 2 => ("PolicyTreeModel", "isBlocked", "[Z", true)
  | 3 => ("PolicyTreeModel", "nodes", "I", false)
  | 4 => ("PolicyTreeModel", "nodeOf", "[I", true)
  | 5 => ("PolicyTreeModel", "facts", "[I", true)
  | 6 => ("PolicyTreeModel", "inGroups", "[I", true)
  | 7 => ("PolicyTreeModel", "machines", "I", false)
  | 8 => ("PolicyTreeModel", "within", "[I", true)
  | 9 => ("PolicyTreeModel", "groups", "I", false)
  | 10 => ("PolicyTreeModel", "told", "[I", true)
  | 11 => ("PolicyTreeModel", "values", "[I", true)
  | 12 => ("PolicyTreeModel", "sets", "I", false)
  | 13 => ("PolicyTreeModel", "laws", "[I", true)
  | 14 => ("PolicyTreeModel", "tape", "[B", true)
  | 15 => ("PolicyTreeModel", "taped", "I", false)
  | 16 => ("PolicyTreeModel", "size", "I", false)
  | 17 => ("PolicyTreeModel", "at", "I", false)
  | 18 => ("PolicyTreeModel", "fault", "I", false)
  | 19 => ("PolicyTreeModel", "place", "I", false)
  | 20 => ("PolicyTreeModel", "open", "I", false)
  | 21 => ("PolicyTreeModel", "code", "[I", false)
  | 22 => ("PolicyTreeModel", "codes", "I", false)
  | 23 => ("PolicyTreeModel", "pile", "[Z", true)
  | 24 => ("PolicyTreeModel", "linkNode", "[I", true)
  | 25 => ("PolicyTreeModel", "linkSet", "[I", true)
  | 26 => ("PolicyTreeModel", "linkOrder", "[I", true)
  | 27 => ("PolicyTreeModel", "isForced", "[Z", true)
  | 28 => ("PolicyTreeModel", "hasEnded", "[Z", true)
  | 29 => ("PolicyTreeModel", "from", "[I", true)
  | 30 => ("PolicyTreeModel", "to", "[I", true)
  | 31 => ("PolicyTreeModel", "sorted", "[I", true)
  | 32 => ("PolicyTreeModel", "links", "I", false)
  | 33 => ("PolicyTreeModel", "below", "[I", true)
  | 34 => ("PolicyTreeModel", "way", "[I", true)
  | 35 => ("PolicyTreeModel", "row", "[I", true)
  | 36 => ("PolicyTreeModel", "rows", "I", false)
  | 37 => ("PolicyTreeModel", "got", "[I", true)
  | 38 => ("PolicyTreeModel", "gots", "I", false)
  | 39 => ("PolicyTreeModel", "reason", "I", false)
  | 40 => ("PolicyTreeModel", "kept", "[I", true)
  | 41 => ("PolicyTreeModel", "keeps", "I", false)
  | 42 => ("PolicyTreeModel", "pairMachine", "I", false)
  | 43 => ("PolicyTreeModel", "pairSetting", "I", false)
  | 44 => ("PolicyTreeModel", "was", "[I", true)
  | 45 => ("PolicyTreeModel", "one", "I", false)
  | _ => ("PolicyTreeModel", "other", "I", false)
def tyX12 : Nat → FieldType := fun k => match k with
  | 0 => .int
  | 1 => .array .int
  | 2 => .array .boolean
  | 3 => .int
  | 4 => .array .int
  | 5 => .array .int
  | 6 => .array .int
  | 7 => .int
  | 8 => .array .int
  | 9 => .int
  | 10 => .array .int
  | 11 => .array .int
  | 12 => .int
  | 13 => .array .int
  | 14 => .array .byte
  | 15 => .int
  | 16 => .int
  | 17 => .int
  | 18 => .int
  | 19 => .int
  | 20 => .int
  | 21 => .array .int
  | 22 => .int
  | 23 => .array .boolean
  | 24 => .array .int
  | 25 => .array .int
  | 26 => .array .int
  | 27 => .array .boolean
  | 28 => .array .boolean
  | 29 => .array .int
  | 30 => .array .int
  | 31 => .array .int
  | 32 => .int
  | 33 => .array .int
  | 34 => .array .int
  | 35 => .array .int
  | 36 => .int
  | 37 => .array .int
  | 38 => .int
  | 39 => .int
  | 40 => .array .int
  | 41 => .int
  | 42 => .int
  | 43 => .int
  | 44 => .array .int
  | 45 => .int
  | _ => .int
abbrev wsX120 : List Cond := u_ws RX12 TX12 47
theorem nmX12 : ∀ a, a < 47 → ∀ b, b < 47 → a ≠ b → (TX12 a).2.1 ≠ (TX12 b).2.1 := by decide +kernel
theorem tyX12_ok : ∀ k, k < 47 → parseFieldDescriptor (TX12 k).2.2.1 = some (tyX12 k) := by decide +kernel
abbrev cX12_init : ByteArray := prog_14_method_1_code
def yX12_init : MethodName := ⟨RX12, "<init>", "()V"⟩
abbrev cX12_thrown : ByteArray := prog_14_method_2_code
def yX12_thrown : MethodName := ⟨RX12, "thrown", "()I"⟩
abbrev cX12_bad : ByteArray := prog_14_method_3_code
def yX12_bad : MethodName := ⟨RX12, "bad", "(ZI)Z"⟩
abbrev cX12_none : ByteArray := prog_14_method_4_code
def yX12_none : MethodName := ⟨RX12, "none", "(II)Z"⟩
abbrev cX12_node : ByteArray := prog_14_method_5_code
def yX12_node : MethodName := ⟨RX12, "node", "(I)I"⟩
abbrev cX12_block : ByteArray := prog_14_method_6_code
def yX12_block : MethodName := ⟨RX12, "block", "(IZ)Z"⟩
abbrev cX12_isBelow : ByteArray := prog_14_method_7_code
def yX12_isBelow : MethodName := ⟨RX12, "isBelow", "(II)Z"⟩
abbrev cX12_machine : ByteArray := prog_14_method_8_code
def yX12_machine : MethodName := ⟨RX12, "machine", "(I)I"⟩
abbrev cX12_fact : ByteArray := prog_14_method_9_code
def yX12_fact : MethodName := ⟨RX12, "fact", "(III)I"⟩
abbrev cX12_group : ByteArray := prog_14_method_10_code
def yX12_group : MethodName := ⟨RX12, "group", "()I"⟩
abbrev cX12_joins : ByteArray := prog_14_method_11_code
def yX12_joins : MethodName := ⟨RX12, "joins", "(IIZ)Z"⟩
abbrev cX12_within : ByteArray := prog_14_method_12_code
def yX12_within : MethodName := ⟨RX12, "within", "(IIZ)Z"⟩
abbrev cX12_allIn : ByteArray := prog_14_method_13_code
def yX12_allIn : MethodName := ⟨RX12, "allIn", "(I)I"⟩
abbrev cX12_member : ByteArray := prog_14_method_14_code
def yX12_member : MethodName := ⟨RX12, "member", "(II)Z"⟩
abbrev cX12_set : ByteArray := prog_14_method_15_code
def yX12_set : MethodName := ⟨RX12, "set", "()I"⟩
abbrev cX12_isSetting : ByteArray := prog_14_method_16_code
def yX12_isSetting : MethodName := ⟨RX12, "isSetting", "(I)Z"⟩
abbrev cX12_tells : ByteArray := prog_14_method_17_code
def yX12_tells : MethodName := ⟨RX12, "tells", "(II)Z"⟩
abbrev cX12_tell : ByteArray := prog_14_method_18_code
def yX12_tell : MethodName := ⟨RX12, "tell", "(III)Z"⟩
abbrev cX12_untell : ByteArray := prog_14_method_19_code
def yX12_untell : MethodName := ⟨RX12, "untell", "(II)Z"⟩
abbrev cX12_law : ByteArray := prog_14_method_20_code
def yX12_law : MethodName := ⟨RX12, "law", "(II)I"⟩
abbrev cX12_feed : ByteArray := prog_14_method_21_code
def yX12_feed : MethodName := ⟨RX12, "feed", "(IIIII)I"⟩
abbrev cX12_byteAt : ByteArray := prog_14_method_22_code
def yX12_byteAt : MethodName := ⟨RX12, "byteAt", "(I)I"⟩
abbrev cX12_blanks : ByteArray := prog_14_method_23_code
def yX12_blanks : MethodName := ⟨RX12, "blanks", "()V"⟩
abbrev cX12_wrong : ByteArray := prog_14_method_24_code
def yX12_wrong : MethodName := ⟨RX12, "wrong", "(II)V"⟩
abbrev cX12_isWord : ByteArray := prog_14_method_25_code
def yX12_isWord : MethodName := ⟨RX12, "isWord", "(Ljava/lang/String;)Z"⟩
abbrev cX12_eat : ByteArray := prog_14_method_26_code
def yX12_eat : MethodName := ⟨RX12, "eat", "(Ljava/lang/String;)Z"⟩
abbrev cX12_emits : ByteArray := prog_14_method_27_code
def yX12_emits : MethodName := ⟨RX12, "emits", "(I)V"⟩
abbrev cX12_any : ByteArray := prog_14_method_28_code
def yX12_any : MethodName := ⟨RX12, "any", "()V"⟩
abbrev cX12_all : ByteArray := prog_14_method_29_code
def yX12_all : MethodName := ⟨RX12, "all", "()V"⟩
abbrev cX12_opens : ByteArray := prog_14_method_30_code
def yX12_opens : MethodName := ⟨RX12, "opens", "()Z"⟩
abbrev cX12_one : ByteArray := prog_14_method_31_code
def yX12_one : MethodName := ⟨RX12, "one", "()V"⟩
abbrev cX12_number : ByteArray := prog_14_method_32_code
def yX12_number : MethodName := ⟨RX12, "number", "(II)V"⟩
abbrev cX12_link : ByteArray := prog_14_method_33_code
def yX12_link : MethodName := ⟨RX12, "link", "(IIIZI)I"⟩
abbrev cX12_fault : ByteArray := prog_14_method_34_code
def yX12_fault : MethodName := ⟨RX12, "fault", "()I"⟩
abbrev cX12_end : ByteArray := prog_14_method_35_code
def yX12_end : MethodName := ⟨RX12, "end", "(I)Z"⟩
abbrev cX12_holds : ByteArray := prog_14_method_36_code
def yX12_holds : MethodName := ⟨RX12, "holds", "(III)Z"⟩
abbrev cX12_groupsAnew : ByteArray := prog_14_method_37_code
def yX12_groupsAnew : MethodName := ⟨RX12, "groupsAnew", "()V"⟩
abbrev cX12_yesOf : ByteArray := prog_14_method_38_code
def yX12_yesOf : MethodName := ⟨RX12, "yesOf", "(I)I"⟩
abbrev cX12_adds : ByteArray := prog_14_method_39_code
def yX12_adds : MethodName := ⟨RX12, "adds", "(IZIII)V"⟩
abbrev cX12_makes : ByteArray := prog_14_method_40_code
def yX12_makes : MethodName := ⟨RX12, "makes", "(III)V"⟩
abbrev cX12_valueOf : ByteArray := prog_14_method_41_code
def yX12_valueOf : MethodName := ⟨RX12, "valueOf", "(II)I"⟩
abbrev cX12_outcomes : ByteArray := prog_14_method_42_code
def yX12_outcomes : MethodName := ⟨RX12, "outcomes", "(I)V"⟩
abbrev cX12_isAsked : ByteArray := prog_14_method_43_code
def yX12_isAsked : MethodName := ⟨RX12, "isAsked", "(II)Z"⟩
abbrev cX12_outcome : ByteArray := prog_14_method_44_code
def yX12_outcome : MethodName := ⟨RX12, "outcome", "(II)I"⟩
abbrev cX12_value : ByteArray := prog_14_method_45_code
def yX12_value : MethodName := ⟨RX12, "value", "(III)I"⟩
abbrev cX12_reason : ByteArray := prog_14_method_46_code
def yX12_reason : MethodName := ⟨RX12, "reason", "(II)I"⟩
abbrev cX12_beaten : ByteArray := prog_14_method_47_code
def yX12_beaten : MethodName := ⟨RX12, "beaten", "(III)I"⟩
abbrev cX12_keepsThem : ByteArray := prog_14_method_48_code
def yX12_keepsThem : MethodName := ⟨RX12, "keepsThem", "()V"⟩
abbrev cX12_isAsKept : ByteArray := prog_14_method_49_code
def yX12_isAsKept : MethodName := ⟨RX12, "isAsKept", "()Z"⟩
abbrev cX12_sure : ByteArray := prog_14_method_50_code
def yX12_sure : MethodName := ⟨RX12, "sure", "(II)Z"⟩
abbrev cX12_reaches : ByteArray := prog_14_method_51_code
def yX12_reaches : MethodName := ⟨RX12, "reaches", "(II)I"⟩
abbrev cX12_reach : ByteArray := prog_14_method_52_code
def yX12_reach : MethodName := ⟨RX12, "reach", "(I)I"⟩
abbrev cX12_reached : ByteArray := prog_14_method_53_code
def yX12_reached : MethodName := ⟨RX12, "reached", "(III)I"⟩
abbrev cX12_move : ByteArray := prog_14_method_54_code
def yX12_move : MethodName := ⟨RX12, "move", "(II)I"⟩
abbrev cX12_areUnlike : ByteArray := prog_14_method_55_code
def yX12_areUnlike : MethodName := ⟨RX12, "areUnlike", "(II)Z"⟩
abbrev cX12_looks : ByteArray := prog_14_method_56_code
def yX12_looks : MethodName := ⟨RX12, "looks", "(I)I"⟩
abbrev cX12_quarrels : ByteArray := prog_14_method_57_code
def yX12_quarrels : MethodName := ⟨RX12, "quarrels", "()I"⟩
abbrev cX12_quarrel : ByteArray := prog_14_method_58_code
def yX12_quarrel : MethodName := ⟨RX12, "quarrel", "(II)I"⟩
abbrev cX12_count : ByteArray := prog_14_method_59_code
def yX12_count : MethodName := ⟨RX12, "count", "(I)I"⟩
def RJx145de : String := "java/io/Serializable"
def TJx145de : u_T := fun k => match k with
  | _ => ("", "", "", false)
def tyJx145de : Nat → FieldType := fun k => match k with
  | _ => .int
abbrev wsJx145de0 : List Cond := u_ws RJx145de TJx145de 0
theorem nmJx145de : ∀ a, a < 0 → ∀ b, b < 0 → a ≠ b → (TJx145de a).2.1 ≠ (TJx145de b).2.1 := by decide +kernel
theorem tyJx145de_ok : ∀ k, k < 0 → parseFieldDescriptor (TJx145de k).2.2.1 = some (tyJx145de k) := by decide +kernel
def RJ5 : String := "java/lang/AbstractStringBuilder"
def TJ5 : u_T := fun k => match k with
  | _ => ("", "", "", false)
def tyJ5 : Nat → FieldType := fun k => match k with
  | _ => .int
abbrev wsJ50 : List Cond := u_ws RJ5 TJ5 0
theorem nmJ5 : ∀ a, a < 0 → ∀ b, b < 0 → a ≠ b → (TJ5 a).2.1 ≠ (TJ5 b).2.1 := by decide +kernel
theorem tyJ5_ok : ∀ k, k < 0 → parseFieldDescriptor (TJ5 k).2.2.1 = some (tyJ5 k) := by decide +kernel
abbrev cJ5_init_d00df : ByteArray := prog_16_method_2_code
def yJ5_init_d00df : MethodName := ⟨RJ5, "<init>", "(I)V"⟩
abbrev cJ5_length_8abf5 : ByteArray := prog_16_method_6_code
def yJ5_length_8abf5 : MethodName := ⟨RJ5, "length", "()I"⟩
abbrev cJ5_ensureCapacityInternal_d00df : ByteArray := prog_16_method_9_code
def yJ5_ensureCapacityInternal_d00df : MethodName := ⟨RJ5, "ensureCapacityInternal", "(I)V"⟩
abbrev cJ5_newCapacity_0f7a4 : ByteArray := prog_16_method_10_code
def yJ5_newCapacity_0f7a4 : MethodName := ⟨RJ5, "newCapacity", "(I)I"⟩
abbrev cJ5_inflate_da8c8 : ByteArray := prog_16_method_11_code
def yJ5_inflate_da8c8 : MethodName := ⟨RJ5, "inflate", "()V"⟩
abbrev cJ5_append_cf1ce : ByteArray := prog_16_method_22_code
def yJ5_append_cf1ce : MethodName := ⟨RJ5, "append", "(Ljava/lang/String;)Ljava/lang/AbstractStringBuilder;"⟩
abbrev cJ5_appendNull_278bc : ByteArray := prog_16_method_26_code
def yJ5_appendNull_278bc : MethodName := ⟨RJ5, "appendNull", "()Ljava/lang/AbstractStringBuilder;"⟩
abbrev cJ5_append_c97b9 : ByteArray := prog_16_method_32_code
def yJ5_append_c97b9 : MethodName := ⟨RJ5, "append", "(I)Ljava/lang/AbstractStringBuilder;"⟩
abbrev cJ5_getValue_6d5f1 : ByteArray := prog_16_method_64_code
def yJ5_getValue_6d5f1 : MethodName := ⟨RJ5, "getValue", "()[B"⟩
abbrev cJ5_isLatin1_aae02 : ByteArray := prog_16_method_68_code
def yJ5_isLatin1_aae02 : MethodName := ⟨RJ5, "isLatin1", "()Z"⟩
abbrev cJ5_inflateIfNeededFor_a7421 : ByteArray := prog_16_method_71_code
def yJ5_inflateIfNeededFor_a7421 : MethodName := ⟨RJ5, "inflateIfNeededFor", "(Ljava/lang/String;)V"⟩
abbrev cJ5_putStringAt_47b60 : ByteArray := prog_16_method_73_code
def yJ5_putStringAt_47b60 : MethodName := ⟨RJ5, "putStringAt", "(ILjava/lang/String;)V"⟩
def RJx8e188 : String := "java/lang/Cloneable"
def TJx8e188 : u_T := fun k => match k with
  | _ => ("", "", "", false)
def tyJx8e188 : Nat → FieldType := fun k => match k with
  | _ => .int
abbrev wsJx8e1880 : List Cond := u_ws RJx8e188 TJx8e188 0
theorem nmJx8e188 : ∀ a, a < 0 → ∀ b, b < 0 → a ≠ b → (TJx8e188 a).2.1 ≠ (TJx8e188 b).2.1 := by decide +kernel
theorem tyJx8e188_ok : ∀ k, k < 0 → parseFieldDescriptor (TJx8e188 k).2.2.1 = some (tyJx8e188 k) := by decide +kernel
def RJ6 : String := "java/lang/Integer"
def TJ6 : u_T := fun k => match k with
  | _ => ("", "", "", false)
def tyJ6 : Nat → FieldType := fun k => match k with
  | _ => .int
abbrev wsJ60 : List Cond := u_ws RJ6 TJ6 0
theorem nmJ6 : ∀ a, a < 0 → ∀ b, b < 0 → a ≠ b → (TJ6 a).2.1 ≠ (TJ6 b).2.1 := by decide +kernel
theorem tyJ6_ok : ∀ k, k < 0 → parseFieldDescriptor (TJ6 k).2.2.1 = some (tyJ6 k) := by decide +kernel
abbrev cJ6_getChars_ba4f3 : ByteArray := prog_22_method_12_code
def yJ6_getChars_ba4f3 : MethodName := ⟨RJ6, "getChars", "(II[B)I"⟩
abbrev cJ6_stringSize_0f7a4 : ByteArray := prog_22_method_13_code
def yJ6_stringSize_0f7a4 : MethodName := ⟨RJ6, "stringSize", "(I)I"⟩
def RJxab1ab : String := "java/lang/Iterable"
def TJxab1ab : u_T := fun k => match k with
  | _ => ("", "", "", false)
def tyJxab1ab : Nat → FieldType := fun k => match k with
  | _ => .int
abbrev wsJxab1ab0 : List Cond := u_ws RJxab1ab TJxab1ab 0
theorem nmJxab1ab : ∀ a, a < 0 → ∀ b, b < 0 → a ≠ b → (TJxab1ab a).2.1 ≠ (TJxab1ab b).2.1 := by decide +kernel
theorem tyJxab1ab_ok : ∀ k, k < 0 → parseFieldDescriptor (TJxab1ab k).2.2.1 = some (tyJxab1ab k) := by decide +kernel
def RJ9 : String := "java/lang/Math"
def TJ9 : u_T := fun k => match k with
  | _ => ("", "", "", false)
def tyJ9 : Nat → FieldType := fun k => match k with
  | _ => .int
abbrev wsJ90 : List Cond := u_ws RJ9 TJ9 0
theorem nmJ9 : ∀ a, a < 0 → ∀ b, b < 0 → a ≠ b → (TJ9 a).2.1 ≠ (TJ9 b).2.1 := by decide +kernel
theorem tyJ9_ok : ∀ k, k < 0 → parseFieldDescriptor (TJ9 k).2.2.1 = some (tyJ9 k) := by decide +kernel
abbrev cJ9_max_7cf53 : ByteArray := prog_24_method_65_code
def yJ9_max_7cf53 : MethodName := ⟨RJ9, "max", "(II)I"⟩
abbrev cJ9_min_7cf53 : ByteArray := prog_24_method_69_code
def yJ9_min_7cf53 : MethodName := ⟨RJ9, "min", "(II)I"⟩
def RJ0 : String := "java/lang/String"
def TJ0 : u_T := fun k => match k with
  | 0 => ("java/lang/String", "value", "[B", true)
  | 1 => ("java/lang/String", "coder", "B", true)
  | 2 => ("java/lang/String", "hash", "I", false)
  | _ => ("java/lang/String", "hashIsZero", "Z", false)
def tyJ0 : Nat → FieldType := fun k => match k with
  | 0 => .array .byte
  | 1 => .byte
  | 2 => .int
  | _ => .boolean
abbrev wsJ00 : List Cond := u_ws RJ0 TJ0 4
theorem nmJ0 : ∀ a, a < 4 → ∀ b, b < 4 → a ≠ b → (TJ0 a).2.1 ≠ (TJ0 b).2.1 := by decide +kernel
theorem tyJ0_ok : ∀ k, k < 4 → parseFieldDescriptor (TJ0 k).2.2.1 = some (tyJ0 k) := by decide +kernel
abbrev cJ0_init_81219 : ByteArray := prog_26_method_53_code
def yJ0_init_81219 : MethodName := ⟨RJ0, "<init>", "(Ljava/lang/StringBuilder;)V"⟩
abbrev cJ0_length_8abf5 : ByteArray := prog_26_method_54_code
def yJ0_length_8abf5 : MethodName := ⟨RJ0, "length", "()I"⟩
abbrev cJ0_charAt_5068e : ByteArray := prog_26_method_56_code
def yJ0_charAt_5068e : MethodName := ⟨RJ0, "charAt", "(I)C"⟩
abbrev cJ0_getBytes_840e7 : ByteArray := prog_26_method_147_code
def yJ0_getBytes_840e7 : MethodName := ⟨RJ0, "getBytes", "([BIB)V"⟩
abbrev cJ0_init_db425 : ByteArray := prog_26_method_150_code
def yJ0_init_db425 : MethodName := ⟨RJ0, "<init>", "(Ljava/lang/AbstractStringBuilder;Ljava/lang/Void;)V"⟩
abbrev cJ0_coder_7d493 : ByteArray := prog_26_method_152_code
def yJ0_coder_7d493 : MethodName := ⟨RJ0, "coder", "()B"⟩
abbrev cJ0_isLatin1_aae02 : ByteArray := prog_26_method_154_code
def yJ0_isLatin1_aae02 : MethodName := ⟨RJ0, "isLatin1", "()Z"⟩
abbrev cJ0_checkIndex_df160 : ByteArray := prog_26_method_155_code
def yJ0_checkIndex_df160 : MethodName := ⟨RJ0, "checkIndex", "(II)V"⟩
abbrev cJ0_checkBoundsOffCount_cabcc : ByteArray := prog_26_method_157_code
def yJ0_checkBoundsOffCount_cabcc : MethodName := ⟨RJ0, "checkBoundsOffCount", "(III)I"⟩
abbrev cJ0_checkBoundsBeginEnd_23922 : ByteArray := prog_26_method_158_code
def yJ0_checkBoundsBeginEnd_23922 : MethodName := ⟨RJ0, "checkBoundsBeginEnd", "(III)V"⟩
def RJ4 : String := "java/lang/StringBuilder"
def TJ4 : u_T := fun k => match k with
  | 0 => ("java/lang/AbstractStringBuilder", "value", "[B", false)
  | 1 => ("java/lang/AbstractStringBuilder", "coder", "B", false)
  | 2 => ("java/lang/AbstractStringBuilder", "maybeLatin1", "Z", false)
  | _ => ("java/lang/AbstractStringBuilder", "count", "I", false)
def tyJ4 : Nat → FieldType := fun k => match k with
  | 0 => .array .byte
  | 1 => .byte
  | 2 => .boolean
  | _ => .int
abbrev wsJ40 : List Cond := u_ws RJ4 TJ4 4
theorem nmJ4 : ∀ a, a < 4 → ∀ b, b < 4 → a ≠ b → (TJ4 a).2.1 ≠ (TJ4 b).2.1 := by decide +kernel
theorem tyJ4_ok : ∀ k, k < 4 → parseFieldDescriptor (TJ4 k).2.2.1 = some (tyJ4 k) := by decide +kernel
abbrev cJ4_init_da8c8 : ByteArray := prog_27_method_1_code
def yJ4_init_da8c8 : MethodName := ⟨RJ4, "<init>", "()V"⟩
abbrev cJ4_append_15ec4 : ByteArray := prog_27_method_7_code
def yJ4_append_15ec4 : MethodName := ⟨RJ4, "append", "(Ljava/lang/String;)Ljava/lang/StringBuilder;"⟩
abbrev cJ4_append_bf812 : ByteArray := prog_27_method_15_code
def yJ4_append_bf812 : MethodName := ⟨RJ4, "append", "(I)Ljava/lang/StringBuilder;"⟩
abbrev cJ4_toString_0e30d : ByteArray := prog_27_method_42_code
def yJ4_toString_0e30d : MethodName := ⟨RJ4, "toString", "()Ljava/lang/String;"⟩
abbrev cJ4_length_8abf5 : ByteArray := prog_27_method_93_code
def yJ4_length_8abf5 : MethodName := ⟨RJ4, "length", "()I"⟩
def RJ1 : String := "java/lang/StringLatin1"
def TJ1 : u_T := fun k => match k with
  | _ => ("", "", "", false)
def tyJ1 : Nat → FieldType := fun k => match k with
  | _ => .int
abbrev wsJ10 : List Cond := u_ws RJ1 TJ1 0
theorem nmJ1 : ∀ a, a < 0 → ∀ b, b < 0 → a ≠ b → (TJ1 a).2.1 ≠ (TJ1 b).2.1 := by decide +kernel
theorem tyJ1_ok : ∀ k, k < 0 → parseFieldDescriptor (TJ1 k).2.2.1 = some (tyJ1 k) := by decide +kernel
abbrev cJ1_charAt_3b067 : ByteArray := prog_28_method_2_code
def yJ1_charAt_3b067 : MethodName := ⟨RJ1, "charAt", "([BI)C"⟩
abbrev cJ1_inflate_0e8fd : ByteArray := prog_28_method_50_code
def yJ1_inflate_0e8fd : MethodName := ⟨RJ1, "inflate", "([BI[BII)V"⟩
def RJ2 : String := "java/lang/StringUTF16"
def TJ2 : u_T := fun k => match k with
  | _ => ("", "", "", false)
def tyJ2 : Nat → FieldType := fun k => match k with
  | _ => .int
abbrev wsJ20 : List Cond := u_ws RJ2 TJ2 0
theorem nmJ2 : ∀ a, a < 0 → ∀ b, b < 0 → a ≠ b → (TJ2 a).2.1 ≠ (TJ2 b).2.1 := by decide +kernel
theorem tyJ2_ok : ∀ k, k < 0 → parseFieldDescriptor (TJ2 k).2.2.1 = some (tyJ2 k) := by decide +kernel
abbrev cJ2_newBytesFor_77867 : ByteArray := prog_29_method_2_code
def yJ2_newBytesFor_77867 : MethodName := ⟨RJ2, "newBytesFor", "(I)[B"⟩
abbrev cJ2_newBytesLength_0f7a4 : ByteArray := prog_29_method_3_code
def yJ2_newBytesLength_0f7a4 : MethodName := ⟨RJ2, "newBytesLength", "(I)I"⟩
abbrev cJ2_putChar_b72d1 : ByteArray := prog_29_method_4_code
def yJ2_putChar_b72d1 : MethodName := ⟨RJ2, "putChar", "([BII)V"⟩
abbrev cJ2_getChar_3b067 : ByteArray := prog_29_method_5_code
def yJ2_getChar_3b067 : MethodName := ⟨RJ2, "getChar", "([BI)C"⟩
abbrev cJ2_length_9d52b : ByteArray := prog_29_method_6_code
def yJ2_length_9d52b : MethodName := ⟨RJ2, "length", "([B)I"⟩
abbrev cJ2_coderFromArrayLen_85cad : ByteArray := prog_29_method_15_code
def yJ2_coderFromArrayLen_85cad : MethodName := ⟨RJ2, "coderFromArrayLen", "([BI)B"⟩
abbrev cJ2_compress_39247 : ByteArray := prog_29_method_17_code
def yJ2_compress_39247 : MethodName := ⟨RJ2, "compress", "([BII)[B"⟩
abbrev cJ2_compress_5af95 : ByteArray := prog_29_method_22_code
def yJ2_compress_5af95 : MethodName := ⟨RJ2, "compress", "([BI[BII)I"⟩
abbrev cJ2_getChars_46870 : ByteArray := prog_29_method_77_code
def yJ2_getChars_46870 : MethodName := ⟨RJ2, "getChars", "(III[B)I"⟩
abbrev cJ2_putCharsAt_cd4e5 : ByteArray := prog_29_method_81_code
def yJ2_putCharsAt_cd4e5 : MethodName := ⟨RJ2, "putCharsAt", "([BICCCC)I"⟩
abbrev cJ2_charAt_3b067 : ByteArray := prog_29_method_83_code
def yJ2_charAt_3b067 : MethodName := ⟨RJ2, "charAt", "([BI)C"⟩
abbrev cJ2_inflate_0e8fd : ByteArray := prog_29_method_86_code
def yJ2_inflate_0e8fd : MethodName := ⟨RJ2, "inflate", "([BI[BII)V"⟩
abbrev cJ2_getChars_ba4f3 : ByteArray := prog_29_method_89_code
def yJ2_getChars_ba4f3 : MethodName := ⟨RJ2, "getChars", "(II[B)I"⟩
abbrev cJ2_checkIndex_2214a : ByteArray := prog_29_method_91_code
def yJ2_checkIndex_2214a : MethodName := ⟨RJ2, "checkIndex", "(I[B)V"⟩
abbrev cJ2_checkBoundsBeginEnd_d044e : ByteArray := prog_29_method_93_code
def yJ2_checkBoundsBeginEnd_d044e : MethodName := ⟨RJ2, "checkBoundsBeginEnd", "(II[B)V"⟩
abbrev cJ2_checkBoundsOffCount_d044e : ByteArray := prog_29_method_94_code
def yJ2_checkBoundsOffCount_d044e : MethodName := ⟨RJ2, "checkBoundsOffCount", "(II[B)V"⟩
def RJ10 : String := "java/lang/System"
def TJ10 : u_T := fun k => match k with
  | _ => ("", "", "", false)
def tyJ10 : Nat → FieldType := fun k => match k with
  | _ => .int
abbrev wsJ100 : List Cond := u_ws RJ10 TJ10 0
theorem nmJ10 : ∀ a, a < 0 → ∀ b, b < 0 → a ≠ b → (TJ10 a).2.1 ≠ (TJ10 b).2.1 := by decide +kernel
theorem tyJ10_ok : ∀ k, k < 0 → parseFieldDescriptor (TJ10 k).2.2.1 = some (tyJ10 k) := by decide +kernel
def RJxa1e45 : String := "java/util/AbstractCollection"
def TJxa1e45 : u_T := fun k => match k with
  | _ => ("", "", "", false)
def tyJxa1e45 : Nat → FieldType := fun k => match k with
  | _ => .int
abbrev wsJxa1e450 : List Cond := u_ws RJxa1e45 TJxa1e45 0
theorem nmJxa1e45 : ∀ a, a < 0 → ∀ b, b < 0 → a ≠ b → (TJxa1e45 a).2.1 ≠ (TJxa1e45 b).2.1 := by decide +kernel
theorem tyJxa1e45_ok : ∀ k, k < 0 → parseFieldDescriptor (TJxa1e45 k).2.2.1 = some (tyJxa1e45 k) := by decide +kernel
abbrev cJxa1e45_init_da8c8 : ByteArray := prog_32_method_1_code
def yJxa1e45_init_da8c8 : MethodName := ⟨RJxa1e45, "<init>", "()V"⟩
def RJxc12de : String := "java/util/AbstractList"
def TJxc12de : u_T := fun k => match k with
  | _ => ("", "", "", false)
def tyJxc12de : Nat → FieldType := fun k => match k with
  | _ => .int
abbrev wsJxc12de0 : List Cond := u_ws RJxc12de TJxc12de 0
theorem nmJxc12de : ∀ a, a < 0 → ∀ b, b < 0 → a ≠ b → (TJxc12de a).2.1 ≠ (TJxc12de b).2.1 := by decide +kernel
theorem tyJxc12de_ok : ∀ k, k < 0 → parseFieldDescriptor (TJxc12de k).2.2.1 = some (tyJxc12de k) := by decide +kernel
abbrev cJxc12de_init_da8c8 : ByteArray := prog_33_method_1_code
def yJxc12de_init_da8c8 : MethodName := ⟨RJxc12de, "<init>", "()V"⟩
def RJx4a65c : String := "java/util/ArrayList"
def TJx4a65c : u_T := fun k => match k with
  | 0 => ("java/util/AbstractList", "modCount", "I", false)
  | 1 => ("java/util/ArrayList", "elementData", "[Ljava/lang/Object;", false)
  | _ => ("java/util/ArrayList", "size", "I", false)
def tyJx4a65c : Nat → FieldType := fun k => match k with
  | 0 => .int
  | 1 => .array (.object "java/lang/Object")
  | _ => .int
abbrev wsJx4a65c0 : List Cond := u_ws RJx4a65c TJx4a65c 3
theorem nmJx4a65c : ∀ a, a < 3 → ∀ b, b < 3 → a ≠ b → (TJx4a65c a).2.1 ≠ (TJx4a65c b).2.1 := by decide +kernel
theorem tyJx4a65c_ok : ∀ k, k < 3 → parseFieldDescriptor (TJx4a65c k).2.2.1 = some (tyJx4a65c k) := by decide +kernel
abbrev cJx4a65c_init_da8c8 : ByteArray := prog_34_method_2_code
def yJx4a65c_init_da8c8 : MethodName := ⟨RJx4a65c, "<init>", "()V"⟩
abbrev cJx4a65c_grow_92f84 : ByteArray := prog_34_method_6_code
def yJx4a65c_grow_92f84 : MethodName := ⟨RJx4a65c, "grow", "(I)[Ljava/lang/Object;"⟩
abbrev cJx4a65c_grow_d5877 : ByteArray := prog_34_method_7_code
def yJx4a65c_grow_d5877 : MethodName := ⟨RJx4a65c, "grow", "()[Ljava/lang/Object;"⟩
abbrev cJx4a65c_size_8abf5 : ByteArray := prog_34_method_8_code
def yJx4a65c_size_8abf5 : MethodName := ⟨RJx4a65c, "size", "()I"⟩
abbrev cJx4a65c_elementData_915e3 : ByteArray := prog_34_method_18_code
def yJx4a65c_elementData_915e3 : MethodName := ⟨RJx4a65c, "elementData", "(I)Ljava/lang/Object;"⟩
abbrev cJx4a65c_get_915e3 : ByteArray := prog_34_method_20_code
def yJx4a65c_get_915e3 : MethodName := ⟨RJx4a65c, "get", "(I)Ljava/lang/Object;"⟩
abbrev cJx4a65c_add_72be8 : ByteArray := prog_34_method_24_code
def yJx4a65c_add_72be8 : MethodName := ⟨RJx4a65c, "add", "(Ljava/lang/Object;[Ljava/lang/Object;I)V"⟩
abbrev cJx4a65c_add_9ea2d : ByteArray := prog_34_method_25_code
def yJx4a65c_add_9ea2d : MethodName := ⟨RJx4a65c, "add", "(Ljava/lang/Object;)Z"⟩
abbrev cJx4a65c_add_7a177 : ByteArray := prog_34_method_26_code
def yJx4a65c_add_7a177 : MethodName := ⟨RJx4a65c, "add", "(ILjava/lang/Object;)V"⟩
abbrev cJx4a65c_remove_915e3 : ByteArray := prog_34_method_29_code
def yJx4a65c_remove_915e3 : MethodName := ⟨RJx4a65c, "remove", "(I)Ljava/lang/Object;"⟩
abbrev cJx4a65c_fastRemove_b59b0 : ByteArray := prog_34_method_39_code
def yJx4a65c_fastRemove_b59b0 : MethodName := ⟨RJx4a65c, "fastRemove", "([Ljava/lang/Object;I)V"⟩
abbrev cJx4a65c_clear_da8c8 : ByteArray := prog_34_method_40_code
def yJx4a65c_clear_da8c8 : MethodName := ⟨RJx4a65c, "clear", "()V"⟩
abbrev cJx4a65c_rangeCheckForAdd_d00df : ByteArray := prog_34_method_45_code
def yJx4a65c_rangeCheckForAdd_d00df : MethodName := ⟨RJx4a65c, "rangeCheckForAdd", "(I)V"⟩
abbrev cJx4a65c_outOfBoundsMsg_b52d3 : ByteArray := prog_34_method_46_code
def yJx4a65c_outOfBoundsMsg_b52d3 : MethodName := ⟨RJx4a65c, "outOfBoundsMsg", "(I)Ljava/lang/String;"⟩
def RJ7 : String := "java/util/Arrays"
def TJ7 : u_T := fun k => match k with
  | _ => ("", "", "", false)
def tyJ7 : Nat → FieldType := fun k => match k with
  | _ => .int
abbrev wsJ70 : List Cond := u_ws RJ7 TJ7 0
theorem nmJ7 : ∀ a, a < 0 → ∀ b, b < 0 → a ≠ b → (TJ7 a).2.1 ≠ (TJ7 b).2.1 := by decide +kernel
theorem tyJ7_ok : ∀ k, k < 0 → parseFieldDescriptor (TJ7 k).2.2.1 = some (tyJ7 k) := by decide +kernel
abbrev cJ7_copyOf_1904c : ByteArray := prog_35_method_119_code
def yJ7_copyOf_1904c : MethodName := ⟨RJ7, "copyOf", "([Ljava/lang/Object;I)[Ljava/lang/Object;"⟩
abbrev cJ7_copyOf_6403c : ByteArray := prog_35_method_120_code
def yJ7_copyOf_6403c : MethodName := ⟨RJ7, "copyOf", "([Ljava/lang/Object;ILjava/lang/Class;)[Ljava/lang/Object;"⟩
abbrev cJ7_copyOf_9075b : ByteArray := prog_35_method_121_code
def yJ7_copyOf_9075b : MethodName := ⟨RJ7, "copyOf", "([BI)[B"⟩
abbrev cJ7_copyOf_59c91 : ByteArray := prog_35_method_123_code
def yJ7_copyOf_59c91 : MethodName := ⟨RJ7, "copyOf", "([II)[I"⟩
abbrev cJ7_checkLength_df160 : ByteArray := prog_35_method_131_code
def yJ7_checkLength_df160 : MethodName := ⟨RJ7, "checkLength", "(II)V"⟩
abbrev cJ7_copyOfRange_39247 : ByteArray := prog_35_method_132_code
def yJ7_copyOfRange_39247 : MethodName := ⟨RJ7, "copyOfRange", "([BII)[B"⟩
abbrev cJ7_copyOfRangeByte_39247 : ByteArray := prog_35_method_133_code
def yJ7_copyOfRangeByte_39247 : MethodName := ⟨RJ7, "copyOfRangeByte", "([BII)[B"⟩
def RJx5ef63 : String := "java/util/Collection"
def TJx5ef63 : u_T := fun k => match k with
  | _ => ("", "", "", false)
def tyJx5ef63 : Nat → FieldType := fun k => match k with
  | _ => .int
abbrev wsJx5ef630 : List Cond := u_ws RJx5ef63 TJx5ef63 0
theorem nmJx5ef63 : ∀ a, a < 0 → ∀ b, b < 0 → a ≠ b → (TJx5ef63 a).2.1 ≠ (TJx5ef63 b).2.1 := by decide +kernel
theorem tyJx5ef63_ok : ∀ k, k < 0 → parseFieldDescriptor (TJx5ef63 k).2.2.1 = some (tyJx5ef63 k) := by decide +kernel
def RJxbd725 : String := "java/util/List"
def TJxbd725 : u_T := fun k => match k with
  | _ => ("", "", "", false)
def tyJxbd725 : Nat → FieldType := fun k => match k with
  | _ => .int
abbrev wsJxbd7250 : List Cond := u_ws RJxbd725 TJxbd725 0
theorem nmJxbd725 : ∀ a, a < 0 → ∀ b, b < 0 → a ≠ b → (TJxbd725 a).2.1 ≠ (TJxbd725 b).2.1 := by decide +kernel
theorem tyJxbd725_ok : ∀ k, k < 0 → parseFieldDescriptor (TJxbd725 k).2.2.1 = some (tyJxbd725 k) := by decide +kernel
def RJ15 : String := "java/util/Objects"
def TJ15 : u_T := fun k => match k with
  | _ => ("", "", "", false)
def tyJ15 : Nat → FieldType := fun k => match k with
  | _ => .int
abbrev wsJ150 : List Cond := u_ws RJ15 TJ15 0
theorem nmJ15 : ∀ a, a < 0 → ∀ b, b < 0 → a ≠ b → (TJ15 a).2.1 ≠ (TJ15 b).2.1 := by decide +kernel
theorem tyJ15_ok : ∀ k, k < 0 → parseFieldDescriptor (TJ15 k).2.2.1 = some (tyJ15 k) := by decide +kernel
abbrev cJ15_checkIndex_7cf53 : ByteArray := prog_38_method_17_code
def yJ15_checkIndex_7cf53 : MethodName := ⟨RJ15, "checkIndex", "(II)I"⟩
def RJxf0a74 : String := "java/util/RandomAccess"
def TJxf0a74 : u_T := fun k => match k with
  | _ => ("", "", "", false)
def tyJxf0a74 : Nat → FieldType := fun k => match k with
  | _ => .int
abbrev wsJxf0a740 : List Cond := u_ws RJxf0a74 TJxf0a74 0
theorem nmJxf0a74 : ∀ a, a < 0 → ∀ b, b < 0 → a ≠ b → (TJxf0a74 a).2.1 ≠ (TJxf0a74 b).2.1 := by decide +kernel
theorem tyJxf0a74_ok : ∀ k, k < 0 → parseFieldDescriptor (TJxf0a74 k).2.2.1 = some (tyJxf0a74 k) := by decide +kernel
def RJxa66e6 : String := "java/util/SequencedCollection"
def TJxa66e6 : u_T := fun k => match k with
  | _ => ("", "", "", false)
def tyJxa66e6 : Nat → FieldType := fun k => match k with
  | _ => .int
abbrev wsJxa66e60 : List Cond := u_ws RJxa66e6 TJxa66e6 0
theorem nmJxa66e6 : ∀ a, a < 0 → ∀ b, b < 0 → a ≠ b → (TJxa66e6 a).2.1 ≠ (TJxa66e6 b).2.1 := by decide +kernel
theorem tyJxa66e6_ok : ∀ k, k < 0 → parseFieldDescriptor (TJxa66e6 k).2.2.1 = some (tyJxa66e6 k) := by decide +kernel
def RJ8 : String := "jdk/internal/util/ArraysSupport"
def TJ8 : u_T := fun k => match k with
  | _ => ("", "", "", false)
def tyJ8 : Nat → FieldType := fun k => match k with
  | _ => .int
abbrev wsJ80 : List Cond := u_ws RJ8 TJ8 0
theorem nmJ8 : ∀ a, a < 0 → ∀ b, b < 0 → a ≠ b → (TJ8 a).2.1 ≠ (TJ8 b).2.1 := by decide +kernel
theorem tyJ8_ok : ∀ k, k < 0 → parseFieldDescriptor (TJ8 k).2.2.1 = some (tyJ8 k) := by decide +kernel
abbrev cJ8_newLength_cabcc : ByteArray := prog_41_method_27_code
def yJ8_newLength_cabcc : MethodName := ⟨RJ8, "newLength", "(III)I"⟩
abbrev cJ8_hugeLength_7cf53 : ByteArray := prog_41_method_28_code
def yJ8_hugeLength_7cf53 : MethodName := ⟨RJ8, "hugeLength", "(II)I"⟩
def RJ3 : String := "jdk/internal/util/Preconditions"
def TJ3 : u_T := fun k => match k with
  | _ => ("", "", "", false)
def tyJ3 : Nat → FieldType := fun k => match k with
  | _ => .int
abbrev wsJ30 : List Cond := u_ws RJ3 TJ3 0
theorem nmJ3 : ∀ a, a < 0 → ∀ b, b < 0 → a ≠ b → (TJ3 a).2.1 ≠ (TJ3 b).2.1 := by decide +kernel
theorem tyJ3_ok : ∀ k, k < 0 → parseFieldDescriptor (TJ3 k).2.2.1 = some (tyJ3 k) := by decide +kernel
abbrev cJ3_checkIndex_8e157 : ByteArray := prog_42_method_11_code
def yJ3_checkIndex_8e157 : MethodName := ⟨RJ3, "checkIndex", "(IILjava/util/function/BiFunction;)I"⟩
abbrev cJ3_checkFromToIndex_8c36e : ByteArray := prog_42_method_12_code
def yJ3_checkFromToIndex_8c36e : MethodName := ⟨RJ3, "checkFromToIndex", "(IIILjava/util/function/BiFunction;)I"⟩
abbrev cJ3_checkFromIndexSize_8c36e : ByteArray := prog_42_method_13_code
def yJ3_checkFromIndexSize_8c36e : MethodName := ⟨RJ3, "checkFromIndexSize", "(IIILjava/util/function/BiFunction;)I"⟩
def RL : String := "PolicyTreeLaw"
abbrev cL_node : ByteArray := method_3_code
def yL_node : MethodName := ⟨RL, "node", "(LPolicyTree;I[J)I"⟩
abbrev cL_block : ByteArray := method_4_code
def yL_block : MethodName := ⟨RL, "block", "(LPolicyTree;IZ[J)I"⟩
abbrev cL_move : ByteArray := method_5_code
def yL_move : MethodName := ⟨RL, "move", "(LPolicyTree;II[J)I"⟩
abbrev cL_machine : ByteArray := method_6_code
def yL_machine : MethodName := ⟨RL, "machine", "(LPolicyTree;I[J)I"⟩
abbrev cL_fact : ByteArray := method_7_code
def yL_fact : MethodName := ⟨RL, "fact", "(LPolicyTree;III[J)I"⟩
abbrev cL_group : ByteArray := method_8_code
def yL_group : MethodName := ⟨RL, "group", "(LPolicyTree;[J)I"⟩
abbrev cL_joins : ByteArray := method_9_code
def yL_joins : MethodName := ⟨RL, "joins", "(LPolicyTree;IIZ[J)I"⟩
abbrev cL_within : ByteArray := method_10_code
def yL_within : MethodName := ⟨RL, "within", "(LPolicyTree;IIZ[J)I"⟩
abbrev cL_member : ByteArray := method_11_code
def yL_member : MethodName := ⟨RL, "member", "(LPolicyTree;II[J)I"⟩
abbrev cL_set : ByteArray := method_12_code
def yL_set : MethodName := ⟨RL, "set", "(LPolicyTree;[J)I"⟩
abbrev cL_tell : ByteArray := method_13_code
def yL_tell : MethodName := ⟨RL, "tell", "(LPolicyTree;III[J)I"⟩
abbrev cL_untell : ByteArray := method_14_code
def yL_untell : MethodName := ⟨RL, "untell", "(LPolicyTree;II[J)I"⟩
abbrev cL_law : ByteArray := method_15_code
def yL_law : MethodName := ⟨RL, "law", "(LPolicyTree;II[J)I"⟩
abbrev cL_link : ByteArray := method_16_code
def yL_link : MethodName := ⟨RL, "link", "(LPolicyTree;IIIZI[J)I"⟩
abbrev cL_end : ByteArray := method_17_code
def yL_end : MethodName := ⟨RL, "end", "(LPolicyTree;I[J)I"⟩
abbrev cL_outcome : ByteArray := method_18_code
def yL_outcome : MethodName := ⟨RL, "outcome", "(LPolicyTree;II[J)I"⟩
abbrev cL_value : ByteArray := method_19_code
def yL_value : MethodName := ⟨RL, "value", "(LPolicyTree;III[J)I"⟩
abbrev cL_reason : ByteArray := method_20_code
def yL_reason : MethodName := ⟨RL, "reason", "(LPolicyTree;II[J)I"⟩
abbrev cL_beaten : ByteArray := method_21_code
def yL_beaten : MethodName := ⟨RL, "beaten", "(LPolicyTree;III[J)I"⟩
abbrev cL_sure : ByteArray := method_22_code
def yL_sure : MethodName := ⟨RL, "sure", "(LPolicyTree;II[J)I"⟩
abbrev cL_reach : ByteArray := method_23_code
def yL_reach : MethodName := ⟨RL, "reach", "(LPolicyTree;I[J)I"⟩
abbrev cL_reached : ByteArray := method_24_code
def yL_reached : MethodName := ⟨RL, "reached", "(LPolicyTree;III[J)I"⟩
abbrev cL_quarrel : ByteArray := method_25_code
def yL_quarrel : MethodName := ⟨RL, "quarrel", "(LPolicyTree;II[J)I"⟩
abbrev cL_law_ : ByteArray := code
def yL_law_ : MethodName := ⟨RL, "law", "([I)Z"⟩
abbrev vwCl : List vw_C := [(RJ0, TJ0, 4), (RJ4, TJ4, 4), (RJx4a65c, TJx4a65c, 3), (RX0, TX0, 2), (RX1, TX1, 1), (RX2, TX2, 9), (RX3, TX3, 3), (RX4, TX4, 7), (RX5, TX5, 3), (RX6, TX6, 4), (RX7, TX7, 3), (RX8, TX8, 4), (RX9, TX9, 6), (RX10, TX10, 2), (RX11, TX11, 14), (RX12, TX12, 47)]
end
section
/-! ===== the one list of words that every method's contract has: the good ones of the law's own tables ===== -/
def TB : List Cond := lw_tbl.filter goodWord
theorem tb_in {w : Cond} (h : w ∈ lw_tbl) (g : goodWord w = true) : w ∈ TB := List.mem_filter.mpr ⟨h, g⟩
theorem tb_good : ∀ w ∈ TB, w ∈ lw_tbl ∧ goodWord w = true := fun w h => List.mem_filter.mp h
/-- a method's words: its code, and that list -/
theorem tb_call {y : MethodName} {cc : ByteArray} {n : Nat} {r : Option FieldType} (h : Cond.code y cc n r ∈ TB) : GoodIn TB (Cond.code y cc n r :: TB) := by
  intro w hw
  rcases List.mem_cons.mp hw with rfl | hw
  · exact ⟨h, good_of_word (tb_good _ h).2⟩
  · exact ⟨hw, good_of_word (tb_good _ hw).2⟩
theorem tbk_1 {w : Cond} (h : w ∈ tables_1_1) (g : goodWord w = true) : w ∈ TB := tb_in (List.mem_append_right _ (by show w ∈ tables_1; exact List.mem_append_left _ h)) g
theorem tbk_2 {w : Cond} (h : w ∈ tables_1_2) (g : goodWord w = true) : w ∈ TB := tb_in (List.mem_append_right _ (by show w ∈ tables_1; exact List.mem_append_right _ (List.mem_append_left _ h))) g
theorem tbk_3 {w : Cond} (h : w ∈ tables_1_3) (g : goodWord w = true) : w ∈ TB := tb_in (List.mem_append_right _ (by show w ∈ tables_1; exact List.mem_append_right _ (List.mem_append_right _ (List.mem_append_left _ h)))) g
theorem tbk_4 {w : Cond} (h : w ∈ tables_1_4) (g : goodWord w = true) : w ∈ TB := tb_in (List.mem_append_right _ (by show w ∈ tables_1; exact List.mem_append_right _ (List.mem_append_right _ (List.mem_append_right _ (List.mem_append_left _ h))))) g
theorem tbk_5 {w : Cond} (h : w ∈ tables_1_5) (g : goodWord w = true) : w ∈ TB := tb_in (List.mem_append_right _ (by show w ∈ tables_1; exact List.mem_append_right _ (List.mem_append_right _ (List.mem_append_right _ (List.mem_append_right _ (List.mem_append_left _ h)))))) g
theorem tbk_6 {w : Cond} (h : w ∈ tables_1_6) (g : goodWord w = true) : w ∈ TB := tb_in (List.mem_append_right _ (by show w ∈ tables_1; exact List.mem_append_right _ (List.mem_append_right _ (List.mem_append_right _ (List.mem_append_right _ (List.mem_append_right _ (List.mem_append_left _ h))))))) g
theorem tbk_7 {w : Cond} (h : w ∈ tables_1_7) (g : goodWord w = true) : w ∈ TB := tb_in (List.mem_append_right _ (by show w ∈ tables_1; exact List.mem_append_right _ (List.mem_append_right _ (List.mem_append_right _ (List.mem_append_right _ (List.mem_append_right _ (List.mem_append_right _ (List.mem_append_left _ h)))))))) g
theorem tbk_8 {w : Cond} (h : w ∈ tables_1_8) (g : goodWord w = true) : w ∈ TB := tb_in (List.mem_append_right _ (by show w ∈ tables_1; exact List.mem_append_right _ (List.mem_append_right _ (List.mem_append_right _ (List.mem_append_right _ (List.mem_append_right _ (List.mem_append_right _ (List.mem_append_right _ (h))))))))) g
theorem wd_1_0 : (Jvm.Cond.initialized "PolicyTreeLaw") ∈ TB := tbk_1 (List.mem_of_getElem? (i := 0) rfl) rfl
theorem wd_1_1 : (Jvm.Cond.initialized "PolicyTree") ∈ TB := tbk_1 (List.mem_of_getElem? (i := 1) rfl) rfl
theorem wd_1_2 : (Jvm.Cond.initialized "java/util/AbstractCollection") ∈ TB := tbk_1 (List.mem_of_getElem? (i := 2) rfl) rfl
theorem wd_1_3 : (Jvm.Cond.initialized "java/util/AbstractList") ∈ TB := tbk_1 (List.mem_of_getElem? (i := 3) rfl) rfl
theorem wd_1_4 : (Jvm.Cond.initialized "java/util/ArrayList") ∈ TB := tbk_1 (List.mem_of_getElem? (i := 4) rfl) rfl
theorem wd_1_5 : (Jvm.Cond.initialized "PolicyTree$Groups") ∈ TB := tbk_1 (List.mem_of_getElem? (i := 5) rfl) rfl
theorem wd_1_6 : (Jvm.Cond.initialized "PolicyTree$Tape") ∈ TB := tbk_1 (List.mem_of_getElem? (i := 6) rfl) rfl
theorem wd_1_7 : (Jvm.Cond.initialized "PolicyTree$FilterReader") ∈ TB := tbk_1 (List.mem_of_getElem? (i := 7) rfl) rfl
theorem wd_1_8 : (Jvm.Cond.initialized "PolicyTree$Row") ∈ TB := tbk_1 (List.mem_of_getElem? (i := 8) rfl) rfl
theorem wd_1_9 : (Jvm.Cond.initialized "PolicyTree$Standing") ∈ TB := tbk_1 (List.mem_of_getElem? (i := 9) rfl) rfl
theorem wd_1_10 : (Jvm.Cond.initialized "PolicyTree$Outcome") ∈ TB := tbk_1 (List.mem_of_getElem? (i := 10) rfl) rfl
theorem wd_1_11 : (Jvm.Cond.initialized "PolicyTree$Node") ∈ TB := tbk_1 (List.mem_of_getElem? (i := 11) rfl) rfl
theorem wd_1_12 : (Jvm.Cond.initialized "jdk/internal/util/ArraysSupport") ∈ TB := tbk_1 (List.mem_of_getElem? (i := 12) rfl) rfl
theorem wd_1_13 : (Jvm.Cond.initialized "java/lang/Math") ∈ TB := tbk_1 (List.mem_of_getElem? (i := 13) rfl) rfl
theorem wd_1_14 : (Jvm.Cond.initialized "java/util/Arrays") ∈ TB := tbk_1 (List.mem_of_getElem? (i := 14) rfl) rfl
theorem wd_1_15 : (Jvm.Cond.initialized "java/lang/System") ∈ TB := tbk_1 (List.mem_of_getElem? (i := 15) rfl) rfl
theorem wd_1_16 : (Jvm.Cond.initialized "PolicyTreeModel") ∈ TB := tbk_1 (List.mem_of_getElem? (i := 16) rfl) rfl
theorem wd_1_17 : (Jvm.Cond.initialized "java/lang/Throwable") ∈ TB := tbk_1 (List.mem_of_getElem? (i := 17) rfl) rfl
theorem wd_1_18 : (Jvm.Cond.initialized "java/lang/Exception") ∈ TB := tbk_1 (List.mem_of_getElem? (i := 18) rfl) rfl
theorem wd_1_19 : (Jvm.Cond.initialized "java/lang/RuntimeException") ∈ TB := tbk_1 (List.mem_of_getElem? (i := 19) rfl) rfl
theorem wd_1_20 : (Jvm.Cond.initialized "java/lang/IndexOutOfBoundsException") ∈ TB := tbk_1 (List.mem_of_getElem? (i := 20) rfl) rfl
theorem wd_1_21 : (Jvm.Cond.initialized "java/lang/IllegalStateException") ∈ TB := tbk_1 (List.mem_of_getElem? (i := 21) rfl) rfl
theorem wd_1_22 : (Jvm.Cond.initialized "java/util/Objects") ∈ TB := tbk_1 (List.mem_of_getElem? (i := 22) rfl) rfl
theorem wd_1_23 : (Jvm.Cond.initialized "jdk/internal/util/Preconditions") ∈ TB := tbk_1 (List.mem_of_getElem? (i := 23) rfl) rfl
theorem wd_1_24 : (Jvm.Cond.initialized "PolicyTree$Machine") ∈ TB := tbk_1 (List.mem_of_getElem? (i := 24) rfl) rfl
theorem wd_1_25 : (Jvm.Cond.initialized "java/lang/IllegalArgumentException") ∈ TB := tbk_1 (List.mem_of_getElem? (i := 25) rfl) rfl
theorem wd_1_26 : (Jvm.Cond.initialized "PolicyTree$Bundle") ∈ TB := tbk_1 (List.mem_of_getElem? (i := 26) rfl) rfl
theorem wd_1_27 : (Jvm.Cond.initialized "java/lang/String") ∈ TB := tbk_1 (List.mem_of_getElem? (i := 27) rfl) rfl
theorem wd_1_28 : (Jvm.Cond.initialized "java/lang/StringLatin1") ∈ TB := tbk_1 (List.mem_of_getElem? (i := 28) rfl) rfl
theorem wd_1_29 : (Jvm.Cond.initialized "java/lang/StringUTF16") ∈ TB := tbk_1 (List.mem_of_getElem? (i := 29) rfl) rfl
theorem wd_1_30 : (Jvm.Cond.initialized "PolicyTree$Link") ∈ TB := tbk_1 (List.mem_of_getElem? (i := 30) rfl) rfl
theorem wd_1_31 : (Jvm.Cond.initialized "PolicyTree$Filter") ∈ TB := tbk_1 (List.mem_of_getElem? (i := 31) rfl) rfl
theorem wd_1_32 : (Jvm.Cond.initialized "java/lang/AbstractStringBuilder") ∈ TB := tbk_1 (List.mem_of_getElem? (i := 32) rfl) rfl
theorem wd_1_33 : (Jvm.Cond.initialized "java/lang/StringBuilder") ∈ TB := tbk_1 (List.mem_of_getElem? (i := 33) rfl) rfl
theorem wd_1_34 : (Jvm.Cond.initialized "java/lang/Integer") ∈ TB := tbk_1 (List.mem_of_getElem? (i := 34) rfl) rfl
theorem wd_1_35 : (Jvm.Cond.classLink "PolicyTreeLaw" (8 : Nat) "PolicyTree") ∈ TB := tbk_1 (List.mem_of_getElem? (i := 35) rfl) rfl
theorem wd_1_36 : (Jvm.Cond.instantiable "PolicyTree" (14 : Nat)) ∈ TB := tbk_1 (List.mem_of_getElem? (i := 36) rfl) rfl
theorem wd_1_37 : (Jvm.Cond.methodLink "PolicyTreeLaw" (94 : Nat) ({ cls := "PolicyTree", name := "<init>", desc := "()V" } : Jvm.MethodName)) ∈ TB := tbk_1 (List.mem_of_getElem? (i := 37) rfl) rfl
theorem wd_1_38 : (Jvm.Cond.instanceMethod ({ cls := "PolicyTree", name := "<init>", desc := "()V" } : Jvm.MethodName)) ∈ TB := tbk_1 (List.mem_of_getElem? (i := 38) rfl) rfl
theorem wd_1_39 : (Jvm.Cond.code ({ cls := "PolicyTree", name := "<init>", desc := "()V" } : Jvm.MethodName) prog_1_method_1_code (1 : Nat) (Option.none : Option Jvm.ClassFile.FieldType)) ∈ TB := tbk_1 (List.mem_of_getElem? (i := 39) rfl) rfl
theorem wd_1_40 : (Jvm.Cond.methodLink "PolicyTree" (1 : Nat) ({ cls := "java/lang/Object", name := "<init>", desc := "()V" } : Jvm.MethodName)) ∈ TB := tbk_1 (List.mem_of_getElem? (i := 40) rfl) rfl
theorem wd_1_41 : (Jvm.Cond.instanceMethod ({ cls := "java/lang/Object", name := "<init>", desc := "()V" } : Jvm.MethodName)) ∈ TB := tbk_1 (List.mem_of_getElem? (i := 41) rfl) rfl
theorem wd_1_42 : (Jvm.Cond.code ({ cls := "java/lang/Object", name := "<init>", desc := "()V" } : Jvm.MethodName) object_method_1_code (1 : Nat) (Option.none : Option Jvm.ClassFile.FieldType)) ∈ TB := tbk_1 (List.mem_of_getElem? (i := 42) rfl) rfl
theorem wd_1_43 : (Jvm.Cond.classLink "PolicyTree" (7 : Nat) "java/util/ArrayList") ∈ TB := tbk_1 (List.mem_of_getElem? (i := 43) rfl) rfl
theorem wd_1_44 : (Jvm.Cond.instantiable "java/util/ArrayList" (3 : Nat)) ∈ TB := tbk_1 (List.mem_of_getElem? (i := 44) rfl) rfl
theorem wd_1_45 : (Jvm.Cond.methodLink "PolicyTree" (9 : Nat) ({ cls := "java/util/ArrayList", name := "<init>", desc := "()V" } : Jvm.MethodName)) ∈ TB := tbk_1 (List.mem_of_getElem? (i := 45) rfl) rfl
theorem wd_1_46 : (Jvm.Cond.instanceMethod ({ cls := "java/util/ArrayList", name := "<init>", desc := "()V" } : Jvm.MethodName)) ∈ TB := tbk_1 (List.mem_of_getElem? (i := 46) rfl) rfl
theorem wd_1_47 : (Jvm.Cond.code ({ cls := "java/util/ArrayList", name := "<init>", desc := "()V" } : Jvm.MethodName) prog_34_method_2_code (1 : Nat) (Option.none : Option Jvm.ClassFile.FieldType)) ∈ TB := tbk_1 (List.mem_of_getElem? (i := 47) rfl) rfl
theorem wd_1_48 : (Jvm.Cond.methodLink "java/util/ArrayList" (1 : Nat) ({ cls := "java/util/AbstractList", name := "<init>", desc := "()V" } : Jvm.MethodName)) ∈ TB := tbk_1 (List.mem_of_getElem? (i := 48) rfl) rfl
theorem wd_1_49 : (Jvm.Cond.instanceMethod ({ cls := "java/util/AbstractList", name := "<init>", desc := "()V" } : Jvm.MethodName)) ∈ TB := tbk_1 (List.mem_of_getElem? (i := 49) rfl) rfl
theorem wd_1_50 : (Jvm.Cond.code ({ cls := "java/util/AbstractList", name := "<init>", desc := "()V" } : Jvm.MethodName) prog_33_method_1_code (1 : Nat) (Option.none : Option Jvm.ClassFile.FieldType)) ∈ TB := tbk_1 (List.mem_of_getElem? (i := 50) rfl) rfl
theorem wd_1_51 : (Jvm.Cond.methodLink "java/util/AbstractList" (1 : Nat) ({ cls := "java/util/AbstractCollection", name := "<init>", desc := "()V" } : Jvm.MethodName)) ∈ TB := tbk_1 (List.mem_of_getElem? (i := 51) rfl) rfl
theorem wd_1_52 : (Jvm.Cond.instanceMethod ({ cls := "java/util/AbstractCollection", name := "<init>", desc := "()V" } : Jvm.MethodName)) ∈ TB := tbk_1 (List.mem_of_getElem? (i := 52) rfl) rfl
theorem wd_1_53 : (Jvm.Cond.code ({ cls := "java/util/AbstractCollection", name := "<init>", desc := "()V" } : Jvm.MethodName) prog_32_method_1_code (1 : Nat) (Option.none : Option Jvm.ClassFile.FieldType)) ∈ TB := tbk_1 (List.mem_of_getElem? (i := 53) rfl) rfl
theorem wd_1_54 : (Jvm.Cond.methodLink "java/util/AbstractCollection" (1 : Nat) ({ cls := "java/lang/Object", name := "<init>", desc := "()V" } : Jvm.MethodName)) ∈ TB := tbk_1 (List.mem_of_getElem? (i := 54) rfl) rfl
theorem wd_1_55 : (Jvm.Cond.fieldLink "java/util/ArrayList" (39 : Nat) "java/util/ArrayList" "DEFAULTCAPACITY_EMPTY_ELEMENTDATA" "[Ljava/lang/Object;") ∈ TB := tbk_1 (List.mem_of_getElem? (i := 55) rfl) rfl
theorem wd_1_57 : (Jvm.Cond.fieldLink "java/util/ArrayList" (9 : Nat) "java/util/ArrayList" "elementData" "[Ljava/lang/Object;") ∈ TB := tbk_1 (List.mem_of_getElem? (i := 57) rfl) rfl
theorem wd_1_58 : (Jvm.Cond.fieldLink "java/util/ArrayList" (48 : Nat) "java/util/ArrayList" "size" "I") ∈ TB := tbk_1 (List.mem_of_getElem? (i := 58) rfl) rfl
theorem wd_1_59 : (Jvm.Cond.fieldLink "java/util/AbstractList" (7 : Nat) "java/util/AbstractList" "modCount" "I") ∈ TB := tbk_1 (List.mem_of_getElem? (i := 59) rfl) rfl
theorem wd_1_60 : (Jvm.Cond.fieldLink "java/util/ArrayList" (63 : Nat) "java/util/ArrayList" "modCount" "I") ∈ TB := tbk_1 (List.mem_of_getElem? (i := 60) rfl) rfl
theorem wd_1_61 : (Jvm.Cond.sameField "java/util/ArrayList" "java/util/AbstractList" "modCount" "I") ∈ TB := tbk_1 (List.mem_of_getElem? (i := 61) rfl) rfl
theorem wd_1_62 : (Jvm.Cond.lays "java/util/ArrayList" "java/util/ArrayList" "elementData" "[Ljava/lang/Object;") ∈ TB := tbk_1 (List.mem_of_getElem? (i := 62) rfl) rfl
theorem wd_1_64 : (Jvm.Cond.lays "java/util/ArrayList" "java/util/ArrayList" "size" "I") ∈ TB := tbk_1 (List.mem_of_getElem? (i := 64) rfl) rfl
theorem wd_1_66 : (Jvm.Cond.lays "java/util/ArrayList" "java/util/AbstractList" "modCount" "I") ∈ TB := tbk_1 (List.mem_of_getElem? (i := 66) rfl) rfl
theorem wd_1_69 : (Jvm.Cond.classLink "PolicyTree" (19 : Nat) "PolicyTree$Groups") ∈ TB := tbk_1 (List.mem_of_getElem? (i := 69) rfl) rfl
theorem wd_1_70 : (Jvm.Cond.instantiable "PolicyTree$Groups" (3 : Nat)) ∈ TB := tbk_1 (List.mem_of_getElem? (i := 70) rfl) rfl
theorem wd_1_72 : (Jvm.Cond.instanceMethod ({ cls := "PolicyTree$Groups", name := "<init>", desc := "()V" } : Jvm.MethodName)) ∈ TB := tbk_1 (List.mem_of_getElem? (i := 72) rfl) rfl
theorem wd_1_73 : (Jvm.Cond.code ({ cls := "PolicyTree$Groups", name := "<init>", desc := "()V" } : Jvm.MethodName) prog_5_method_1_code (1 : Nat) (Option.none : Option Jvm.ClassFile.FieldType)) ∈ TB := tbk_1 (List.mem_of_getElem? (i := 73) rfl) rfl
theorem wd_1_74 : (Jvm.Cond.methodLink "PolicyTree$Groups" (3 : Nat) ({ cls := "java/lang/Object", name := "<init>", desc := "()V" } : Jvm.MethodName)) ∈ TB := tbk_1 (List.mem_of_getElem? (i := 74) rfl) rfl
theorem wd_1_75 : (Jvm.Cond.fieldLink "PolicyTree$Groups" (9 : Nat) "PolicyTree$Groups" "machinesIn" "[J") ∈ TB := tbk_1 (List.mem_of_getElem? (i := 75) rfl) rfl
theorem wd_1_76 : (Jvm.Cond.fieldLink "PolicyTree$Groups" (15 : Nat) "PolicyTree$Groups" "groupsIn" "[I") ∈ TB := tbk_1 (List.mem_of_getElem? (i := 76) rfl) rfl
theorem wd_1_77 : (Jvm.Cond.fieldLink "PolicyTree$Groups" (19 : Nat) "PolicyTree$Groups" "size" "I") ∈ TB := tbk_1 (List.mem_of_getElem? (i := 77) rfl) rfl
theorem wd_1_78 : (Jvm.Cond.laysFinal "PolicyTree$Groups" "PolicyTree$Groups" "machinesIn" "[J") ∈ TB := tbk_1 (List.mem_of_getElem? (i := 78) rfl) rfl
theorem wd_1_80 : (Jvm.Cond.laysFinal "PolicyTree$Groups" "PolicyTree$Groups" "groupsIn" "[I") ∈ TB := tbk_1 (List.mem_of_getElem? (i := 80) rfl) rfl
theorem wd_1_82 : (Jvm.Cond.lays "PolicyTree$Groups" "PolicyTree$Groups" "size" "I") ∈ TB := tbk_1 (List.mem_of_getElem? (i := 82) rfl) rfl
theorem wd_1_85 : (Jvm.Cond.arrayClass Jvm.ClassFile.FieldType.long) ∈ TB := tbk_1 (List.mem_of_getElem? (i := 85) rfl) rfl
theorem wd_1_86 : (Jvm.Cond.arrayClass Jvm.ClassFile.FieldType.int) ∈ TB := tbk_1 (List.mem_of_getElem? (i := 86) rfl) rfl
theorem wd_1_87 : (Jvm.Cond.classLink "PolicyTree" (36 : Nat) "PolicyTree$Tape") ∈ TB := tbk_1 (List.mem_of_getElem? (i := 87) rfl) rfl
theorem wd_1_88 : (Jvm.Cond.instantiable "PolicyTree$Tape" (2 : Nat)) ∈ TB := tbk_1 (List.mem_of_getElem? (i := 88) rfl) rfl
theorem wd_1_90 : (Jvm.Cond.instanceMethod ({ cls := "PolicyTree$Tape", name := "<init>", desc := "()V" } : Jvm.MethodName)) ∈ TB := tbk_1 (List.mem_of_getElem? (i := 90) rfl) rfl
theorem wd_1_91 : (Jvm.Cond.code ({ cls := "PolicyTree$Tape", name := "<init>", desc := "()V" } : Jvm.MethodName) prog_12_method_1_code (1 : Nat) (Option.none : Option Jvm.ClassFile.FieldType)) ∈ TB := tbk_1 (List.mem_of_getElem? (i := 91) rfl) rfl
theorem wd_1_92 : (Jvm.Cond.methodLink "PolicyTree$Tape" (3 : Nat) ({ cls := "java/lang/Object", name := "<init>", desc := "()V" } : Jvm.MethodName)) ∈ TB := tbk_1 (List.mem_of_getElem? (i := 92) rfl) rfl
theorem wd_1_93 : (Jvm.Cond.fieldLink "PolicyTree$Tape" (11 : Nat) "PolicyTree$Tape" "bytes" "[B") ∈ TB := tbk_1 (List.mem_of_getElem? (i := 93) rfl) rfl
theorem wd_1_94 : (Jvm.Cond.fieldLink "PolicyTree$Tape" (15 : Nat) "PolicyTree$Tape" "size" "I") ∈ TB := tbk_1 (List.mem_of_getElem? (i := 94) rfl) rfl
theorem wd_1_95 : (Jvm.Cond.laysFinal "PolicyTree$Tape" "PolicyTree$Tape" "bytes" "[B") ∈ TB := tbk_1 (List.mem_of_getElem? (i := 95) rfl) rfl
theorem wd_1_97 : (Jvm.Cond.lays "PolicyTree$Tape" "PolicyTree$Tape" "size" "I") ∈ TB := tbk_1 (List.mem_of_getElem? (i := 97) rfl) rfl
theorem wd_1_100 : (Jvm.Cond.arrayClass Jvm.ClassFile.FieldType.byte) ∈ TB := tbk_1 (List.mem_of_getElem? (i := 100) rfl) rfl
theorem wd_1_101 : (Jvm.Cond.classLink "PolicyTree" (43 : Nat) "PolicyTree$FilterReader") ∈ TB := tbk_1 (List.mem_of_getElem? (i := 101) rfl) rfl
theorem wd_1_102 : (Jvm.Cond.instantiable "PolicyTree$FilterReader" (9 : Nat)) ∈ TB := tbk_1 (List.mem_of_getElem? (i := 102) rfl) rfl
theorem wd_1_103 : (Jvm.Cond.methodLink "PolicyTree" (45 : Nat) ({ cls := "PolicyTree$FilterReader", name := "<init>", desc := "(LPolicyTree$Tape;)V" } : Jvm.MethodName)) ∈ TB := tbk_1 (List.mem_of_getElem? (i := 103) rfl) rfl
theorem wd_1_104 : (Jvm.Cond.instanceMethod ({ cls := "PolicyTree$FilterReader", name := "<init>", desc := "(LPolicyTree$Tape;)V" } : Jvm.MethodName)) ∈ TB := tbk_1 (List.mem_of_getElem? (i := 104) rfl) rfl
theorem wd_1_105 : (Jvm.Cond.code ({ cls := "PolicyTree$FilterReader", name := "<init>", desc := "(LPolicyTree$Tape;)V" } : Jvm.MethodName) prog_4_method_1_code (2 : Nat) (Option.none : Option Jvm.ClassFile.FieldType)) ∈ TB := tbk_1 (List.mem_of_getElem? (i := 105) rfl) rfl
theorem wd_1_106 : (Jvm.Cond.methodLink "PolicyTree$FilterReader" (3 : Nat) ({ cls := "java/lang/Object", name := "<init>", desc := "()V" } : Jvm.MethodName)) ∈ TB := tbk_1 (List.mem_of_getElem? (i := 106) rfl) rfl
theorem wd_1_107 : (Jvm.Cond.fieldLink "PolicyTree$FilterReader" (17 : Nat) "PolicyTree$FilterReader" "tape" "LPolicyTree$Tape;") ∈ TB := tbk_1 (List.mem_of_getElem? (i := 107) rfl) rfl
theorem wd_1_108 : (Jvm.Cond.fieldLink "PolicyTree$FilterReader" (21 : Nat) "PolicyTree$FilterReader" "length" "I") ∈ TB := tbk_1 (List.mem_of_getElem? (i := 108) rfl) rfl
theorem wd_1_109 : (Jvm.Cond.fieldLink "PolicyTree$FilterReader" (25 : Nat) "PolicyTree$FilterReader" "groups" "I") ∈ TB := tbk_1 (List.mem_of_getElem? (i := 109) rfl) rfl
theorem wd_1_110 : (Jvm.Cond.fieldLink "PolicyTree$FilterReader" (28 : Nat) "PolicyTree$FilterReader" "nodes" "I") ∈ TB := tbk_1 (List.mem_of_getElem? (i := 110) rfl) rfl
theorem wd_1_111 : (Jvm.Cond.fieldLink "PolicyTree$FilterReader" (31 : Nat) "PolicyTree$FilterReader" "at" "I") ∈ TB := tbk_1 (List.mem_of_getElem? (i := 111) rfl) rfl
theorem wd_1_112 : (Jvm.Cond.fieldLink "PolicyTree$FilterReader" (34 : Nat) "PolicyTree$FilterReader" "fault" "I") ∈ TB := tbk_1 (List.mem_of_getElem? (i := 112) rfl) rfl
theorem wd_1_113 : (Jvm.Cond.fieldLink "PolicyTree$FilterReader" (37 : Nat) "PolicyTree$FilterReader" "faultPlace" "I") ∈ TB := tbk_1 (List.mem_of_getElem? (i := 113) rfl) rfl
theorem wd_1_114 : (Jvm.Cond.fieldLink "PolicyTree$FilterReader" (11 : Nat) "PolicyTree$FilterReader" "steps" "[I") ∈ TB := tbk_1 (List.mem_of_getElem? (i := 114) rfl) rfl
theorem wd_1_115 : (Jvm.Cond.fieldLink "PolicyTree$FilterReader" (40 : Nat) "PolicyTree$FilterReader" "size" "I") ∈ TB := tbk_1 (List.mem_of_getElem? (i := 115) rfl) rfl
theorem wd_1_116 : (Jvm.Cond.laysFinal "PolicyTree$FilterReader" "PolicyTree$FilterReader" "tape" "LPolicyTree$Tape;") ∈ TB := tbk_1 (List.mem_of_getElem? (i := 116) rfl) rfl
theorem wd_1_118 : (Jvm.Cond.lays "PolicyTree$FilterReader" "PolicyTree$FilterReader" "length" "I") ∈ TB := tbk_1 (List.mem_of_getElem? (i := 118) rfl) rfl
theorem wd_1_120 : (Jvm.Cond.lays "PolicyTree$FilterReader" "PolicyTree$FilterReader" "groups" "I") ∈ TB := tbk_1 (List.mem_of_getElem? (i := 120) rfl) rfl
theorem wd_1_122 : (Jvm.Cond.lays "PolicyTree$FilterReader" "PolicyTree$FilterReader" "nodes" "I") ∈ TB := tbk_1 (List.mem_of_getElem? (i := 122) rfl) rfl
theorem wd_1_124 : (Jvm.Cond.lays "PolicyTree$FilterReader" "PolicyTree$FilterReader" "at" "I") ∈ TB := tbk_1 (List.mem_of_getElem? (i := 124) rfl) rfl
theorem wd_1_126 : (Jvm.Cond.lays "PolicyTree$FilterReader" "PolicyTree$FilterReader" "fault" "I") ∈ TB := tbk_1 (List.mem_of_getElem? (i := 126) rfl) rfl
theorem wd_1_128 : (Jvm.Cond.lays "PolicyTree$FilterReader" "PolicyTree$FilterReader" "faultPlace" "I") ∈ TB := tbk_1 (List.mem_of_getElem? (i := 128) rfl) rfl
theorem wd_1_130 : (Jvm.Cond.laysFinal "PolicyTree$FilterReader" "PolicyTree$FilterReader" "steps" "[I") ∈ TB := tbk_1 (List.mem_of_getElem? (i := 130) rfl) rfl
theorem wd_1_132 : (Jvm.Cond.lays "PolicyTree$FilterReader" "PolicyTree$FilterReader" "size" "I") ∈ TB := tbk_1 (List.mem_of_getElem? (i := 132) rfl) rfl
theorem wd_1_135 : (Jvm.Cond.classLink "PolicyTree" (56 : Nat) "PolicyTree$Row") ∈ TB := tbk_1 (List.mem_of_getElem? (i := 135) rfl) rfl
theorem wd_1_136 : (Jvm.Cond.instantiable "PolicyTree$Row" (4 : Nat)) ∈ TB := tbk_1 (List.mem_of_getElem? (i := 136) rfl) rfl
theorem wd_1_138 : (Jvm.Cond.instanceMethod ({ cls := "PolicyTree$Row", name := "<init>", desc := "()V" } : Jvm.MethodName)) ∈ TB := tbk_1 (List.mem_of_getElem? (i := 138) rfl) rfl
theorem wd_1_139 : (Jvm.Cond.code ({ cls := "PolicyTree$Row", name := "<init>", desc := "()V" } : Jvm.MethodName) prog_10_method_1_code (1 : Nat) (Option.none : Option Jvm.ClassFile.FieldType)) ∈ TB := tbk_1 (List.mem_of_getElem? (i := 139) rfl) rfl
theorem wd_1_140 : (Jvm.Cond.methodLink "PolicyTree$Row" (3 : Nat) ({ cls := "java/lang/Object", name := "<init>", desc := "()V" } : Jvm.MethodName)) ∈ TB := tbk_1 (List.mem_of_getElem? (i := 140) rfl) rfl
theorem wd_1_141 : (Jvm.Cond.classLink "PolicyTree$Row" (9 : Nat) "java/util/ArrayList") ∈ TB := tbk_1 (List.mem_of_getElem? (i := 141) rfl) rfl
theorem wd_1_142 : (Jvm.Cond.methodLink "PolicyTree$Row" (11 : Nat) ({ cls := "java/util/ArrayList", name := "<init>", desc := "()V" } : Jvm.MethodName)) ∈ TB := tbk_1 (List.mem_of_getElem? (i := 142) rfl) rfl
theorem wd_1_143 : (Jvm.Cond.classLink "PolicyTree$Row" (25 : Nat) "PolicyTree$Standing") ∈ TB := tbk_1 (List.mem_of_getElem? (i := 143) rfl) rfl
theorem wd_1_144 : (Jvm.Cond.instantiable "PolicyTree$Standing" (6 : Nat)) ∈ TB := tbk_1 (List.mem_of_getElem? (i := 144) rfl) rfl
theorem wd_1_146 : (Jvm.Cond.instanceMethod ({ cls := "PolicyTree$Standing", name := "<init>", desc := "()V" } : Jvm.MethodName)) ∈ TB := tbk_1 (List.mem_of_getElem? (i := 146) rfl) rfl
theorem wd_1_147 : (Jvm.Cond.code ({ cls := "PolicyTree$Standing", name := "<init>", desc := "()V" } : Jvm.MethodName) prog_11_method_1_code (1 : Nat) (Option.none : Option Jvm.ClassFile.FieldType)) ∈ TB := tbk_1 (List.mem_of_getElem? (i := 147) rfl) rfl
theorem wd_1_148 : (Jvm.Cond.methodLink "PolicyTree$Standing" (3 : Nat) ({ cls := "java/lang/Object", name := "<init>", desc := "()V" } : Jvm.MethodName)) ∈ TB := tbk_1 (List.mem_of_getElem? (i := 148) rfl) rfl
theorem wd_1_149 : (Jvm.Cond.fieldLink "PolicyTree$Standing" (11 : Nat) "PolicyTree$Standing" "stack" "[J") ∈ TB := tbk_1 (List.mem_of_getElem? (i := 149) rfl) rfl
theorem wd_1_150 : (Jvm.Cond.fieldLink "PolicyTree$Filter" (13 : Nat) "PolicyTree$Standing" "stack" "[J") ∈ TB := tbk_1 (List.mem_of_getElem? (i := 150) rfl) rfl
theorem wd_1_151 : (Jvm.Cond.fieldLink "PolicyTree$Standing" (15 : Nat) "PolicyTree$Standing" "facts" "[J") ∈ TB := tbk_1 (List.mem_of_getElem? (i := 151) rfl) rfl
theorem wd_1_152 : (Jvm.Cond.fieldLink "PolicyTree$Standing" (24 : Nat) "PolicyTree$Standing" "known" "I") ∈ TB := tbk_1 (List.mem_of_getElem? (i := 152) rfl) rfl
theorem wd_1_153 : (Jvm.Cond.fieldLink "PolicyTree$Standing" (31 : Nat) "PolicyTree$Standing" "yes" "I") ∈ TB := tbk_1 (List.mem_of_getElem? (i := 153) rfl) rfl
theorem wd_1_154 : (Jvm.Cond.fieldLink "PolicyTree$Standing" (34 : Nat) "PolicyTree$Standing" "groups" "I") ∈ TB := tbk_1 (List.mem_of_getElem? (i := 154) rfl) rfl
theorem wd_1_155 : (Jvm.Cond.fieldLink "PolicyTree$Standing" (37 : Nat) "PolicyTree$Standing" "way" "J") ∈ TB := tbk_1 (List.mem_of_getElem? (i := 155) rfl) rfl
theorem wd_1_156 : (Jvm.Cond.laysFinal "PolicyTree$Standing" "PolicyTree$Standing" "stack" "[J") ∈ TB := tbk_1 (List.mem_of_getElem? (i := 156) rfl) rfl
theorem wd_1_158 : (Jvm.Cond.laysFinal "PolicyTree$Standing" "PolicyTree$Standing" "facts" "[J") ∈ TB := tbk_1 (List.mem_of_getElem? (i := 158) rfl) rfl
theorem wd_1_160 : (Jvm.Cond.lays "PolicyTree$Standing" "PolicyTree$Standing" "known" "I") ∈ TB := tbk_1 (List.mem_of_getElem? (i := 160) rfl) rfl
theorem wd_1_162 : (Jvm.Cond.lays "PolicyTree$Standing" "PolicyTree$Standing" "yes" "I") ∈ TB := tbk_1 (List.mem_of_getElem? (i := 162) rfl) rfl
theorem wd_1_164 : (Jvm.Cond.lays "PolicyTree$Standing" "PolicyTree$Standing" "groups" "I") ∈ TB := tbk_1 (List.mem_of_getElem? (i := 164) rfl) rfl
theorem wd_1_166 : (Jvm.Cond.lays "PolicyTree$Standing" "PolicyTree$Standing" "way" "J") ∈ TB := tbk_1 (List.mem_of_getElem? (i := 166) rfl) rfl
theorem wd_1_169 : (Jvm.Cond.fieldLink "PolicyTree$Row" (12 : Nat) "PolicyTree$Row" "way" "Ljava/util/ArrayList;") ∈ TB := tbk_1 (List.mem_of_getElem? (i := 169) rfl) rfl
theorem wd_1_170 : (Jvm.Cond.fieldLink "PolicyTree$Row" (18 : Nat) "PolicyTree$Row" "links" "Ljava/util/ArrayList;") ∈ TB := tbk_1 (List.mem_of_getElem? (i := 170) rfl) rfl
theorem wd_1_171 : (Jvm.Cond.fieldLink "PolicyTree$Row" (21 : Nat) "PolicyTree$Row" "weights" "[J") ∈ TB := tbk_1 (List.mem_of_getElem? (i := 171) rfl) rfl
theorem wd_1_172 : (Jvm.Cond.fieldLink "PolicyTree$Row" (28 : Nat) "PolicyTree$Row" "standing" "LPolicyTree$Standing;") ∈ TB := tbk_1 (List.mem_of_getElem? (i := 172) rfl) rfl
theorem wd_1_173 : (Jvm.Cond.laysFinal "PolicyTree$Row" "PolicyTree$Row" "way" "Ljava/util/ArrayList;") ∈ TB := tbk_1 (List.mem_of_getElem? (i := 173) rfl) rfl
theorem wd_1_175 : (Jvm.Cond.laysFinal "PolicyTree$Row" "PolicyTree$Row" "links" "Ljava/util/ArrayList;") ∈ TB := tbk_1 (List.mem_of_getElem? (i := 175) rfl) rfl
theorem wd_1_177 : (Jvm.Cond.laysFinal "PolicyTree$Row" "PolicyTree$Row" "weights" "[J") ∈ TB := tbk_1 (List.mem_of_getElem? (i := 177) rfl) rfl
theorem wd_1_179 : (Jvm.Cond.laysFinal "PolicyTree$Row" "PolicyTree$Row" "standing" "LPolicyTree$Standing;") ∈ TB := tbk_1 (List.mem_of_getElem? (i := 179) rfl) rfl
theorem wd_1_182 : (Jvm.Cond.classLink "PolicyTree" (66 : Nat) "PolicyTree$Outcome") ∈ TB := tbk_1 (List.mem_of_getElem? (i := 182) rfl) rfl
theorem wd_1_183 : (Jvm.Cond.instantiable "PolicyTree$Outcome" (3 : Nat)) ∈ TB := tbk_1 (List.mem_of_getElem? (i := 183) rfl) rfl
theorem wd_1_185 : (Jvm.Cond.instanceMethod ({ cls := "PolicyTree$Outcome", name := "<init>", desc := "()V" } : Jvm.MethodName)) ∈ TB := tbk_1 (List.mem_of_getElem? (i := 185) rfl) rfl
theorem wd_1_186 : (Jvm.Cond.code ({ cls := "PolicyTree$Outcome", name := "<init>", desc := "()V" } : Jvm.MethodName) prog_9_method_1_code (1 : Nat) (Option.none : Option Jvm.ClassFile.FieldType)) ∈ TB := tbk_1 (List.mem_of_getElem? (i := 186) rfl) rfl
theorem wd_1_187 : (Jvm.Cond.methodLink "PolicyTree$Outcome" (3 : Nat) ({ cls := "java/lang/Object", name := "<init>", desc := "()V" } : Jvm.MethodName)) ∈ TB := tbk_1 (List.mem_of_getElem? (i := 187) rfl) rfl
theorem wd_1_188 : (Jvm.Cond.fieldLink "PolicyTree$Outcome" (9 : Nat) "PolicyTree$Outcome" "values" "[I") ∈ TB := tbk_1 (List.mem_of_getElem? (i := 188) rfl) rfl
theorem wd_1_189 : (Jvm.Cond.fieldLink "PolicyTree$Outcome" (15 : Nat) "PolicyTree$Outcome" "size" "I") ∈ TB := tbk_1 (List.mem_of_getElem? (i := 189) rfl) rfl
theorem wd_1_190 : (Jvm.Cond.fieldLink "PolicyTree$Outcome" (19 : Nat) "PolicyTree$Outcome" "link" "LPolicyTree$Link;") ∈ TB := tbk_1 (List.mem_of_getElem? (i := 190) rfl) rfl
theorem wd_1_191 : (Jvm.Cond.laysFinal "PolicyTree$Outcome" "PolicyTree$Outcome" "values" "[I") ∈ TB := tbk_1 (List.mem_of_getElem? (i := 191) rfl) rfl
theorem wd_1_193 : (Jvm.Cond.lays "PolicyTree$Outcome" "PolicyTree$Outcome" "size" "I") ∈ TB := tbk_1 (List.mem_of_getElem? (i := 193) rfl) rfl
theorem wd_1_195 : (Jvm.Cond.lays "PolicyTree$Outcome" "PolicyTree$Outcome" "link" "LPolicyTree$Link;") ∈ TB := tbk_1 (List.mem_of_getElem? (i := 195) rfl) rfl
theorem wd_1_198 : (Jvm.Cond.classLink "PolicyTree" (79 : Nat) "PolicyTree$Node") ∈ TB := tbk_1 (List.mem_of_getElem? (i := 198) rfl) rfl
theorem wd_1_199 : (Jvm.Cond.instantiable "PolicyTree$Node" (4 : Nat)) ∈ TB := tbk_1 (List.mem_of_getElem? (i := 199) rfl) rfl
theorem wd_1_200 : (Jvm.Cond.methodLink "PolicyTree" (81 : Nat) ({ cls := "PolicyTree$Node", name := "<init>", desc := "(ILPolicyTree$Node;)V" } : Jvm.MethodName)) ∈ TB := tbk_1 (List.mem_of_getElem? (i := 200) rfl) rfl
theorem wd_1_201 : (Jvm.Cond.instanceMethod ({ cls := "PolicyTree$Node", name := "<init>", desc := "(ILPolicyTree$Node;)V" } : Jvm.MethodName)) ∈ TB := tbk_1 (List.mem_of_getElem? (i := 201) rfl) rfl
theorem wd_1_202 : (Jvm.Cond.code ({ cls := "PolicyTree$Node", name := "<init>", desc := "(ILPolicyTree$Node;)V" } : Jvm.MethodName) prog_8_method_1_code (3 : Nat) (Option.none : Option Jvm.ClassFile.FieldType)) ∈ TB := tbk_1 (List.mem_of_getElem? (i := 202) rfl) rfl
theorem wd_1_203 : (Jvm.Cond.methodLink "PolicyTree$Node" (1 : Nat) ({ cls := "java/lang/Object", name := "<init>", desc := "()V" } : Jvm.MethodName)) ∈ TB := tbk_1 (List.mem_of_getElem? (i := 203) rfl) rfl
theorem wd_1_204 : (Jvm.Cond.classLink "PolicyTree$Node" (7 : Nat) "java/util/ArrayList") ∈ TB := tbk_1 (List.mem_of_getElem? (i := 204) rfl) rfl
theorem wd_1_205 : (Jvm.Cond.methodLink "PolicyTree$Node" (9 : Nat) ({ cls := "java/util/ArrayList", name := "<init>", desc := "()V" } : Jvm.MethodName)) ∈ TB := tbk_1 (List.mem_of_getElem? (i := 205) rfl) rfl
theorem wd_1_206 : (Jvm.Cond.fieldLink "PolicyTree$Node" (16 : Nat) "PolicyTree$Node" "number" "I") ∈ TB := tbk_1 (List.mem_of_getElem? (i := 206) rfl) rfl
theorem wd_1_207 : (Jvm.Cond.fieldLink "PolicyTree$Row" (45 : Nat) "PolicyTree$Node" "number" "I") ∈ TB := tbk_1 (List.mem_of_getElem? (i := 207) rfl) rfl
theorem wd_1_208 : (Jvm.Cond.fieldLink "PolicyTree$Node" (20 : Nat) "PolicyTree$Node" "above" "LPolicyTree$Node;") ∈ TB := tbk_1 (List.mem_of_getElem? (i := 208) rfl) rfl
theorem wd_1_209 : (Jvm.Cond.fieldLink "PolicyTree$Row" (51 : Nat) "PolicyTree$Node" "above" "LPolicyTree$Node;") ∈ TB := tbk_1 (List.mem_of_getElem? (i := 209) rfl) rfl
theorem wd_1_210 : (Jvm.Cond.fieldLink "PolicyTree" (121 : Nat) "PolicyTree$Node" "above" "LPolicyTree$Node;") ∈ TB := tbk_1 (List.mem_of_getElem? (i := 210) rfl) rfl
theorem wd_1_211 : (Jvm.Cond.fieldLink "PolicyTree" (103 : Nat) "PolicyTree$Node" "blocked" "Z") ∈ TB := tbk_1 (List.mem_of_getElem? (i := 211) rfl) rfl
theorem wd_1_212 : (Jvm.Cond.fieldLink "PolicyTree$Row" (95 : Nat) "PolicyTree$Node" "blocked" "Z") ∈ TB := tbk_1 (List.mem_of_getElem? (i := 212) rfl) rfl
theorem wd_1_213 : (Jvm.Cond.fieldLink "PolicyTree$Node" (10 : Nat) "PolicyTree$Node" "links" "Ljava/util/ArrayList;") ∈ TB := tbk_1 (List.mem_of_getElem? (i := 213) rfl) rfl
theorem wd_1_214 : (Jvm.Cond.laysFinal "PolicyTree$Node" "PolicyTree$Node" "number" "I") ∈ TB := tbk_1 (List.mem_of_getElem? (i := 214) rfl) rfl
theorem wd_1_216 : (Jvm.Cond.lays "PolicyTree$Node" "PolicyTree$Node" "above" "LPolicyTree$Node;") ∈ TB := tbk_1 (List.mem_of_getElem? (i := 216) rfl) rfl
theorem wd_1_218 : (Jvm.Cond.lays "PolicyTree$Node" "PolicyTree$Node" "blocked" "Z") ∈ TB := tbk_1 (List.mem_of_getElem? (i := 218) rfl) rfl
theorem wd_1_220 : (Jvm.Cond.laysFinal "PolicyTree$Node" "PolicyTree$Node" "links" "Ljava/util/ArrayList;") ∈ TB := tbk_1 (List.mem_of_getElem? (i := 220) rfl) rfl
theorem wd_1_223 : (Jvm.Cond.methodLink "PolicyTree" (84 : Nat) ({ cls := "java/util/ArrayList", name := "add", desc := "(Ljava/lang/Object;)Z" } : Jvm.MethodName)) ∈ TB := tbk_1 (List.mem_of_getElem? (i := 223) rfl) rfl
theorem wd_1_224 : (Jvm.Cond.instanceMethod ({ cls := "java/util/ArrayList", name := "add", desc := "(Ljava/lang/Object;)Z" } : Jvm.MethodName)) ∈ TB := tbk_1 (List.mem_of_getElem? (i := 224) rfl) rfl
theorem wd_1_225 : (Jvm.Cond.selects "java/util/ArrayList" ({ cls := "java/util/ArrayList", name := "add", desc := "(Ljava/lang/Object;)Z" } : Jvm.MethodName) ({ cls := "java/util/ArrayList", name := "add", desc := "(Ljava/lang/Object;)Z" } : Jvm.MethodName)) ∈ TB := tbk_1 (List.mem_of_getElem? (i := 225) rfl) rfl
theorem wd_1_226 : (Jvm.Cond.code ({ cls := "java/util/ArrayList", name := "add", desc := "(Ljava/lang/Object;)Z" } : Jvm.MethodName) prog_34_method_25_code (2 : Nat) (Option.some Jvm.ClassFile.FieldType.boolean)) ∈ TB := tbk_1 (List.mem_of_getElem? (i := 226) rfl) rfl
theorem wd_1_227 : (Jvm.Cond.methodLink "java/util/ArrayList" (131 : Nat) ({ cls := "java/util/ArrayList", name := "add", desc := "(Ljava/lang/Object;[Ljava/lang/Object;I)V" } : Jvm.MethodName)) ∈ TB := tbk_1 (List.mem_of_getElem? (i := 227) rfl) rfl
theorem wd_1_229 : (Jvm.Cond.instanceMethod ({ cls := "java/util/ArrayList", name := "add", desc := "(Ljava/lang/Object;[Ljava/lang/Object;I)V" } : Jvm.MethodName)) ∈ TB := tbk_1 (List.mem_of_getElem? (i := 229) rfl) rfl
theorem wd_1_230 : (Jvm.Cond.code ({ cls := "java/util/ArrayList", name := "add", desc := "(Ljava/lang/Object;[Ljava/lang/Object;I)V" } : Jvm.MethodName) prog_34_method_24_code (4 : Nat) (Option.none : Option Jvm.ClassFile.FieldType)) ∈ TB := tbk_1 (List.mem_of_getElem? (i := 230) rfl) rfl
theorem wd_1_231 : (Jvm.Cond.methodLink "java/util/ArrayList" (129 : Nat) ({ cls := "java/util/ArrayList", name := "grow", desc := "()[Ljava/lang/Object;" } : Jvm.MethodName)) ∈ TB := tbk_1 (List.mem_of_getElem? (i := 231) rfl) rfl
theorem wd_1_233 : (Jvm.Cond.instanceMethod ({ cls := "java/util/ArrayList", name := "grow", desc := "()[Ljava/lang/Object;" } : Jvm.MethodName)) ∈ TB := tbk_1 (List.mem_of_getElem? (i := 233) rfl) rfl
theorem wd_1_234 : (Jvm.Cond.code ({ cls := "java/util/ArrayList", name := "grow", desc := "()[Ljava/lang/Object;" } : Jvm.MethodName) prog_34_method_7_code (1 : Nat) (Option.some (Jvm.ClassFile.FieldType.array (Jvm.ClassFile.FieldType.object "java/lang/Object")))) ∈ TB := tbk_1 (List.mem_of_getElem? (i := 234) rfl) rfl
theorem wd_1_235 : (Jvm.Cond.methodLink "java/util/ArrayList" (69 : Nat) ({ cls := "java/util/ArrayList", name := "grow", desc := "(I)[Ljava/lang/Object;" } : Jvm.MethodName)) ∈ TB := tbk_1 (List.mem_of_getElem? (i := 235) rfl) rfl
theorem wd_1_237 : (Jvm.Cond.instanceMethod ({ cls := "java/util/ArrayList", name := "grow", desc := "(I)[Ljava/lang/Object;" } : Jvm.MethodName)) ∈ TB := tbk_1 (List.mem_of_getElem? (i := 237) rfl) rfl
theorem wd_1_238 : (Jvm.Cond.code ({ cls := "java/util/ArrayList", name := "grow", desc := "(I)[Ljava/lang/Object;" } : Jvm.MethodName) prog_34_method_6_code (4 : Nat) (Option.some (Jvm.ClassFile.FieldType.array (Jvm.ClassFile.FieldType.object "java/lang/Object")))) ∈ TB := tbk_1 (List.mem_of_getElem? (i := 238) rfl) rfl
theorem wd_1_239 : (Jvm.Cond.methodLink "java/util/ArrayList" (73 : Nat) ({ cls := "jdk/internal/util/ArraysSupport", name := "newLength", desc := "(III)I" } : Jvm.MethodName)) ∈ TB := tbk_1 (List.mem_of_getElem? (i := 239) rfl) rfl
theorem wd_2_0 : (Jvm.Cond.static ({ cls := "jdk/internal/util/ArraysSupport", name := "newLength", desc := "(III)I" } : Jvm.MethodName)) ∈ TB := tbk_2 (List.mem_of_getElem? (i := 0) rfl) rfl
theorem wd_2_1 : (Jvm.Cond.code ({ cls := "jdk/internal/util/ArraysSupport", name := "newLength", desc := "(III)I" } : Jvm.MethodName) prog_41_method_27_code (4 : Nat) (Option.some Jvm.ClassFile.FieldType.int)) ∈ TB := tbk_2 (List.mem_of_getElem? (i := 1) rfl) rfl
theorem wd_2_2 : (Jvm.Cond.methodLink "jdk/internal/util/ArraysSupport" (194 : Nat) ({ cls := "java/lang/Math", name := "max", desc := "(II)I" } : Jvm.MethodName)) ∈ TB := tbk_2 (List.mem_of_getElem? (i := 2) rfl) rfl
theorem wd_2_3 : (Jvm.Cond.static ({ cls := "java/lang/Math", name := "max", desc := "(II)I" } : Jvm.MethodName)) ∈ TB := tbk_2 (List.mem_of_getElem? (i := 3) rfl) rfl
theorem wd_2_4 : (Jvm.Cond.code ({ cls := "java/lang/Math", name := "max", desc := "(II)I" } : Jvm.MethodName) prog_24_method_65_code (2 : Nat) (Option.some Jvm.ClassFile.FieldType.int)) ∈ TB := tbk_2 (List.mem_of_getElem? (i := 4) rfl) rfl
theorem wd_2_5 : (Jvm.Cond.constant "jdk/internal/util/ArraysSupport" (200 : Nat) (2147483639 : Int32)) ∈ TB := tbk_2 (List.mem_of_getElem? (i := 5) rfl) rfl
theorem wd_2_6 : (Jvm.Cond.methodLink "jdk/internal/util/ArraysSupport" (201 : Nat) ({ cls := "jdk/internal/util/ArraysSupport", name := "hugeLength", desc := "(II)I" } : Jvm.MethodName)) ∈ TB := tbk_2 (List.mem_of_getElem? (i := 6) rfl) rfl
theorem wd_2_7 : (Jvm.Cond.static ({ cls := "jdk/internal/util/ArraysSupport", name := "hugeLength", desc := "(II)I" } : Jvm.MethodName)) ∈ TB := tbk_2 (List.mem_of_getElem? (i := 7) rfl) rfl
theorem wd_2_8 : (Jvm.Cond.code ({ cls := "jdk/internal/util/ArraysSupport", name := "hugeLength", desc := "(II)I" } : Jvm.MethodName) prog_41_method_28_code (3 : Nat) (Option.some Jvm.ClassFile.FieldType.int)) ∈ TB := tbk_2 (List.mem_of_getElem? (i := 8) rfl) rfl
theorem wd_2_9 : (Jvm.Cond.methodLink "java/util/ArrayList" (66 : Nat) ({ cls := "java/util/Arrays", name := "copyOf", desc := "([Ljava/lang/Object;I)[Ljava/lang/Object;" } : Jvm.MethodName)) ∈ TB := tbk_2 (List.mem_of_getElem? (i := 9) rfl) rfl
theorem wd_2_10 : (Jvm.Cond.static ({ cls := "java/util/Arrays", name := "copyOf", desc := "([Ljava/lang/Object;I)[Ljava/lang/Object;" } : Jvm.MethodName)) ∈ TB := tbk_2 (List.mem_of_getElem? (i := 10) rfl) rfl
theorem wd_2_11 : (Jvm.Cond.code ({ cls := "java/util/Arrays", name := "copyOf", desc := "([Ljava/lang/Object;I)[Ljava/lang/Object;" } : Jvm.MethodName) prog_35_method_119_code (2 : Nat) (Option.some (Jvm.ClassFile.FieldType.array (Jvm.ClassFile.FieldType.object "java/lang/Object")))) ∈ TB := tbk_2 (List.mem_of_getElem? (i := 11) rfl) rfl
theorem wd_2_12 : (Jvm.Cond.methodLink "java/util/Arrays" (86 : Nat) ({ cls := "java/lang/Object", name := "getClass", desc := "()Ljava/lang/Class;" } : Jvm.MethodName)) ∈ TB := tbk_2 (List.mem_of_getElem? (i := 12) rfl) rfl
theorem wd_2_13 : (Jvm.Cond.instanceMethod ({ cls := "java/lang/Object", name := "getClass", desc := "()Ljava/lang/Class;" } : Jvm.MethodName)) ∈ TB := tbk_2 (List.mem_of_getElem? (i := 13) rfl) rfl
theorem wd_2_14 : (Jvm.Cond.sameMethod "java/lang/Object" "java/lang/Object" "getClass" "()Ljava/lang/Class;") ∈ TB := tbk_2 (List.mem_of_getElem? (i := 14) rfl) rfl
theorem wd_2_15 : (Jvm.Cond.selects "PolicyTree" ({ cls := "java/lang/Object", name := "getClass", desc := "()Ljava/lang/Class;" } : Jvm.MethodName) ({ cls := "java/lang/Object", name := "getClass", desc := "()Ljava/lang/Class;" } : Jvm.MethodName)) ∈ TB := tbk_2 (List.mem_of_getElem? (i := 15) rfl) rfl
theorem wd_2_16 : (Jvm.Cond.selects "PolicyTree$Bundle" ({ cls := "java/lang/Object", name := "getClass", desc := "()Ljava/lang/Class;" } : Jvm.MethodName) ({ cls := "java/lang/Object", name := "getClass", desc := "()Ljava/lang/Class;" } : Jvm.MethodName)) ∈ TB := tbk_2 (List.mem_of_getElem? (i := 16) rfl) rfl
theorem wd_2_17 : (Jvm.Cond.selects "PolicyTree$Filter" ({ cls := "java/lang/Object", name := "getClass", desc := "()Ljava/lang/Class;" } : Jvm.MethodName) ({ cls := "java/lang/Object", name := "getClass", desc := "()Ljava/lang/Class;" } : Jvm.MethodName)) ∈ TB := tbk_2 (List.mem_of_getElem? (i := 17) rfl) rfl
theorem wd_2_18 : (Jvm.Cond.selects "PolicyTree$FilterReader" ({ cls := "java/lang/Object", name := "getClass", desc := "()Ljava/lang/Class;" } : Jvm.MethodName) ({ cls := "java/lang/Object", name := "getClass", desc := "()Ljava/lang/Class;" } : Jvm.MethodName)) ∈ TB := tbk_2 (List.mem_of_getElem? (i := 18) rfl) rfl
theorem wd_2_19 : (Jvm.Cond.selects "PolicyTree$Groups" ({ cls := "java/lang/Object", name := "getClass", desc := "()Ljava/lang/Class;" } : Jvm.MethodName) ({ cls := "java/lang/Object", name := "getClass", desc := "()Ljava/lang/Class;" } : Jvm.MethodName)) ∈ TB := tbk_2 (List.mem_of_getElem? (i := 19) rfl) rfl
theorem wd_2_20 : (Jvm.Cond.selects "PolicyTree$Link" ({ cls := "java/lang/Object", name := "getClass", desc := "()Ljava/lang/Class;" } : Jvm.MethodName) ({ cls := "java/lang/Object", name := "getClass", desc := "()Ljava/lang/Class;" } : Jvm.MethodName)) ∈ TB := tbk_2 (List.mem_of_getElem? (i := 20) rfl) rfl
theorem wd_2_21 : (Jvm.Cond.selects "PolicyTree$Machine" ({ cls := "java/lang/Object", name := "getClass", desc := "()Ljava/lang/Class;" } : Jvm.MethodName) ({ cls := "java/lang/Object", name := "getClass", desc := "()Ljava/lang/Class;" } : Jvm.MethodName)) ∈ TB := tbk_2 (List.mem_of_getElem? (i := 21) rfl) rfl
theorem wd_2_22 : (Jvm.Cond.selects "PolicyTree$Node" ({ cls := "java/lang/Object", name := "getClass", desc := "()Ljava/lang/Class;" } : Jvm.MethodName) ({ cls := "java/lang/Object", name := "getClass", desc := "()Ljava/lang/Class;" } : Jvm.MethodName)) ∈ TB := tbk_2 (List.mem_of_getElem? (i := 22) rfl) rfl
theorem wd_2_23 : (Jvm.Cond.selects "PolicyTree$Outcome" ({ cls := "java/lang/Object", name := "getClass", desc := "()Ljava/lang/Class;" } : Jvm.MethodName) ({ cls := "java/lang/Object", name := "getClass", desc := "()Ljava/lang/Class;" } : Jvm.MethodName)) ∈ TB := tbk_2 (List.mem_of_getElem? (i := 23) rfl) rfl
theorem wd_2_24 : (Jvm.Cond.selects "PolicyTree$Row" ({ cls := "java/lang/Object", name := "getClass", desc := "()Ljava/lang/Class;" } : Jvm.MethodName) ({ cls := "java/lang/Object", name := "getClass", desc := "()Ljava/lang/Class;" } : Jvm.MethodName)) ∈ TB := tbk_2 (List.mem_of_getElem? (i := 24) rfl) rfl
theorem wd_2_25 : (Jvm.Cond.selects "PolicyTree$Standing" ({ cls := "java/lang/Object", name := "getClass", desc := "()Ljava/lang/Class;" } : Jvm.MethodName) ({ cls := "java/lang/Object", name := "getClass", desc := "()Ljava/lang/Class;" } : Jvm.MethodName)) ∈ TB := tbk_2 (List.mem_of_getElem? (i := 25) rfl) rfl
theorem wd_2_26 : (Jvm.Cond.selects "PolicyTree$Tape" ({ cls := "java/lang/Object", name := "getClass", desc := "()Ljava/lang/Class;" } : Jvm.MethodName) ({ cls := "java/lang/Object", name := "getClass", desc := "()Ljava/lang/Class;" } : Jvm.MethodName)) ∈ TB := tbk_2 (List.mem_of_getElem? (i := 26) rfl) rfl
theorem wd_2_27 : (Jvm.Cond.selects "PolicyTreeModel" ({ cls := "java/lang/Object", name := "getClass", desc := "()Ljava/lang/Class;" } : Jvm.MethodName) ({ cls := "java/lang/Object", name := "getClass", desc := "()Ljava/lang/Class;" } : Jvm.MethodName)) ∈ TB := tbk_2 (List.mem_of_getElem? (i := 27) rfl) rfl
theorem wd_2_28 : (Jvm.Cond.selects "java/lang/IllegalArgumentException" ({ cls := "java/lang/Object", name := "getClass", desc := "()Ljava/lang/Class;" } : Jvm.MethodName) ({ cls := "java/lang/Object", name := "getClass", desc := "()Ljava/lang/Class;" } : Jvm.MethodName)) ∈ TB := tbk_2 (List.mem_of_getElem? (i := 28) rfl) rfl
theorem wd_2_29 : (Jvm.Cond.selects "java/lang/IllegalStateException" ({ cls := "java/lang/Object", name := "getClass", desc := "()Ljava/lang/Class;" } : Jvm.MethodName) ({ cls := "java/lang/Object", name := "getClass", desc := "()Ljava/lang/Class;" } : Jvm.MethodName)) ∈ TB := tbk_2 (List.mem_of_getElem? (i := 29) rfl) rfl
theorem wd_2_30 : (Jvm.Cond.selects "java/lang/IndexOutOfBoundsException" ({ cls := "java/lang/Object", name := "getClass", desc := "()Ljava/lang/Class;" } : Jvm.MethodName) ({ cls := "java/lang/Object", name := "getClass", desc := "()Ljava/lang/Class;" } : Jvm.MethodName)) ∈ TB := tbk_2 (List.mem_of_getElem? (i := 30) rfl) rfl
theorem wd_2_31 : (Jvm.Cond.selects "java/lang/String" ({ cls := "java/lang/Object", name := "getClass", desc := "()Ljava/lang/Class;" } : Jvm.MethodName) ({ cls := "java/lang/Object", name := "getClass", desc := "()Ljava/lang/Class;" } : Jvm.MethodName)) ∈ TB := tbk_2 (List.mem_of_getElem? (i := 31) rfl) rfl
theorem wd_2_32 : (Jvm.Cond.selects "java/lang/StringBuilder" ({ cls := "java/lang/Object", name := "getClass", desc := "()Ljava/lang/Class;" } : Jvm.MethodName) ({ cls := "java/lang/Object", name := "getClass", desc := "()Ljava/lang/Class;" } : Jvm.MethodName)) ∈ TB := tbk_2 (List.mem_of_getElem? (i := 32) rfl) rfl
theorem wd_2_33 : (Jvm.Cond.selects "java/util/ArrayList" ({ cls := "java/lang/Object", name := "getClass", desc := "()Ljava/lang/Class;" } : Jvm.MethodName) ({ cls := "java/lang/Object", name := "getClass", desc := "()Ljava/lang/Class;" } : Jvm.MethodName)) ∈ TB := tbk_2 (List.mem_of_getElem? (i := 33) rfl) rfl
theorem wd_2_35 : (Jvm.Cond.methodLink "java/util/Arrays" (300 : Nat) ({ cls := "java/util/Arrays", name := "copyOf", desc := "([Ljava/lang/Object;ILjava/lang/Class;)[Ljava/lang/Object;" } : Jvm.MethodName)) ∈ TB := tbk_2 (List.mem_of_getElem? (i := 35) rfl) rfl
theorem wd_2_36 : (Jvm.Cond.static ({ cls := "java/util/Arrays", name := "copyOf", desc := "([Ljava/lang/Object;ILjava/lang/Class;)[Ljava/lang/Object;" } : Jvm.MethodName)) ∈ TB := tbk_2 (List.mem_of_getElem? (i := 36) rfl) rfl
theorem wd_2_37 : (Jvm.Cond.code ({ cls := "java/util/Arrays", name := "copyOf", desc := "([Ljava/lang/Object;ILjava/lang/Class;)[Ljava/lang/Object;" } : Jvm.MethodName) prog_35_method_120_code (4 : Nat) (Option.some (Jvm.ClassFile.FieldType.array (Jvm.ClassFile.FieldType.object "java/lang/Object")))) ∈ TB := tbk_2 (List.mem_of_getElem? (i := 37) rfl) rfl
theorem wd_2_38 : (Jvm.Cond.classLink "java/util/Arrays" (110 : Nat) "[Ljava/lang/Object;") ∈ TB := tbk_2 (List.mem_of_getElem? (i := 38) rfl) rfl
theorem wd_2_40 : (Jvm.Cond.classLink "java/util/Arrays" (2 : Nat) "java/lang/Object") ∈ TB := tbk_2 (List.mem_of_getElem? (i := 40) rfl) rfl
theorem wd_2_41 : (Jvm.Cond.methodLink "java/util/Arrays" (304 : Nat) ({ cls := "java/lang/Math", name := "min", desc := "(II)I" } : Jvm.MethodName)) ∈ TB := tbk_2 (List.mem_of_getElem? (i := 41) rfl) rfl
theorem wd_2_42 : (Jvm.Cond.static ({ cls := "java/lang/Math", name := "min", desc := "(II)I" } : Jvm.MethodName)) ∈ TB := tbk_2 (List.mem_of_getElem? (i := 42) rfl) rfl
theorem wd_2_43 : (Jvm.Cond.code ({ cls := "java/lang/Math", name := "min", desc := "(II)I" } : Jvm.MethodName) prog_24_method_69_code (2 : Nat) (Option.some Jvm.ClassFile.FieldType.int)) ∈ TB := tbk_2 (List.mem_of_getElem? (i := 43) rfl) rfl
theorem wd_2_44 : (Jvm.Cond.methodLink "java/util/Arrays" (150 : Nat) ({ cls := "java/lang/System", name := "arraycopy", desc := "(Ljava/lang/Object;ILjava/lang/Object;II)V" } : Jvm.MethodName)) ∈ TB := tbk_2 (List.mem_of_getElem? (i := 44) rfl) rfl
theorem wd_2_45 : (Jvm.Cond.static ({ cls := "java/lang/System", name := "arraycopy", desc := "(Ljava/lang/Object;ILjava/lang/Object;II)V" } : Jvm.MethodName)) ∈ TB := tbk_2 (List.mem_of_getElem? (i := 45) rfl) rfl
theorem wd_2_47 : (Jvm.Cond.methodLink "java/util/ArrayList" (79 : Nat) ({ cls := "java/lang/Math", name := "max", desc := "(II)I" } : Jvm.MethodName)) ∈ TB := tbk_2 (List.mem_of_getElem? (i := 47) rfl) rfl
theorem wd_2_48 : (Jvm.Cond.classLink "java/util/ArrayList" (7 : Nat) "java/lang/Object") ∈ TB := tbk_2 (List.mem_of_getElem? (i := 48) rfl) rfl
theorem wd_2_49 : (Jvm.Cond.fieldLink "PolicyTree" (10 : Nat) "PolicyTree" "nodes" "Ljava/util/ArrayList;") ∈ TB := tbk_2 (List.mem_of_getElem? (i := 49) rfl) rfl
theorem wd_2_50 : (Jvm.Cond.fieldLink "PolicyTree" (16 : Nat) "PolicyTree" "machines" "Ljava/util/ArrayList;") ∈ TB := tbk_2 (List.mem_of_getElem? (i := 50) rfl) rfl
theorem wd_2_51 : (Jvm.Cond.fieldLink "PolicyTree" (22 : Nat) "PolicyTree" "groups" "LPolicyTree$Groups;") ∈ TB := tbk_2 (List.mem_of_getElem? (i := 51) rfl) rfl
theorem wd_2_52 : (Jvm.Cond.fieldLink "PolicyTree" (26 : Nat) "PolicyTree" "sets" "Ljava/util/ArrayList;") ∈ TB := tbk_2 (List.mem_of_getElem? (i := 52) rfl) rfl
theorem wd_2_53 : (Jvm.Cond.fieldLink "PolicyTree" (29 : Nat) "PolicyTree" "links" "Ljava/util/ArrayList;") ∈ TB := tbk_2 (List.mem_of_getElem? (i := 53) rfl) rfl
theorem wd_2_54 : (Jvm.Cond.fieldLink "PolicyTree" (32 : Nat) "PolicyTree" "laws" "[I") ∈ TB := tbk_2 (List.mem_of_getElem? (i := 54) rfl) rfl
theorem wd_2_55 : (Jvm.Cond.fieldLink "PolicyTree" (39 : Nat) "PolicyTree" "tape" "LPolicyTree$Tape;") ∈ TB := tbk_2 (List.mem_of_getElem? (i := 55) rfl) rfl
theorem wd_2_56 : (Jvm.Cond.fieldLink "PolicyTree" (48 : Nat) "PolicyTree" "reader" "LPolicyTree$FilterReader;") ∈ TB := tbk_2 (List.mem_of_getElem? (i := 56) rfl) rfl
theorem wd_2_57 : (Jvm.Cond.fieldLink "PolicyTree" (52 : Nat) "PolicyTree" "faultPlace" "I") ∈ TB := tbk_2 (List.mem_of_getElem? (i := 57) rfl) rfl
theorem wd_2_58 : (Jvm.Cond.fieldLink "PolicyTree" (59 : Nat) "PolicyTree" "row" "LPolicyTree$Row;") ∈ TB := tbk_2 (List.mem_of_getElem? (i := 58) rfl) rfl
theorem wd_2_59 : (Jvm.Cond.fieldLink "PolicyTree" (63 : Nat) "PolicyTree" "otherRow" "LPolicyTree$Row;") ∈ TB := tbk_2 (List.mem_of_getElem? (i := 59) rfl) rfl
theorem wd_2_60 : (Jvm.Cond.fieldLink "PolicyTree" (69 : Nat) "PolicyTree" "outcome" "LPolicyTree$Outcome;") ∈ TB := tbk_2 (List.mem_of_getElem? (i := 60) rfl) rfl
theorem wd_2_61 : (Jvm.Cond.fieldLink "PolicyTree" (73 : Nat) "PolicyTree" "otherOutcome" "LPolicyTree$Outcome;") ∈ TB := tbk_2 (List.mem_of_getElem? (i := 61) rfl) rfl
theorem wd_2_62 : (Jvm.Cond.fieldLink "PolicyTree" (76 : Nat) "PolicyTree" "pairs" "[I") ∈ TB := tbk_2 (List.mem_of_getElem? (i := 62) rfl) rfl
theorem wd_2_63 : (Jvm.Cond.laysFinal "PolicyTree" "PolicyTree" "nodes" "Ljava/util/ArrayList;") ∈ TB := tbk_2 (List.mem_of_getElem? (i := 63) rfl) rfl
theorem wd_2_65 : (Jvm.Cond.laysFinal "PolicyTree" "PolicyTree" "machines" "Ljava/util/ArrayList;") ∈ TB := tbk_2 (List.mem_of_getElem? (i := 65) rfl) rfl
theorem wd_2_67 : (Jvm.Cond.laysFinal "PolicyTree" "PolicyTree" "groups" "LPolicyTree$Groups;") ∈ TB := tbk_2 (List.mem_of_getElem? (i := 67) rfl) rfl
theorem wd_2_69 : (Jvm.Cond.laysFinal "PolicyTree" "PolicyTree" "sets" "Ljava/util/ArrayList;") ∈ TB := tbk_2 (List.mem_of_getElem? (i := 69) rfl) rfl
theorem wd_2_71 : (Jvm.Cond.laysFinal "PolicyTree" "PolicyTree" "links" "Ljava/util/ArrayList;") ∈ TB := tbk_2 (List.mem_of_getElem? (i := 71) rfl) rfl
theorem wd_2_73 : (Jvm.Cond.laysFinal "PolicyTree" "PolicyTree" "laws" "[I") ∈ TB := tbk_2 (List.mem_of_getElem? (i := 73) rfl) rfl
theorem wd_2_75 : (Jvm.Cond.laysFinal "PolicyTree" "PolicyTree" "tape" "LPolicyTree$Tape;") ∈ TB := tbk_2 (List.mem_of_getElem? (i := 75) rfl) rfl
theorem wd_2_77 : (Jvm.Cond.laysFinal "PolicyTree" "PolicyTree" "reader" "LPolicyTree$FilterReader;") ∈ TB := tbk_2 (List.mem_of_getElem? (i := 77) rfl) rfl
theorem wd_2_79 : (Jvm.Cond.lays "PolicyTree" "PolicyTree" "faultPlace" "I") ∈ TB := tbk_2 (List.mem_of_getElem? (i := 79) rfl) rfl
theorem wd_2_81 : (Jvm.Cond.laysFinal "PolicyTree" "PolicyTree" "row" "LPolicyTree$Row;") ∈ TB := tbk_2 (List.mem_of_getElem? (i := 81) rfl) rfl
theorem wd_2_83 : (Jvm.Cond.laysFinal "PolicyTree" "PolicyTree" "otherRow" "LPolicyTree$Row;") ∈ TB := tbk_2 (List.mem_of_getElem? (i := 83) rfl) rfl
theorem wd_2_85 : (Jvm.Cond.laysFinal "PolicyTree" "PolicyTree" "outcome" "LPolicyTree$Outcome;") ∈ TB := tbk_2 (List.mem_of_getElem? (i := 85) rfl) rfl
theorem wd_2_87 : (Jvm.Cond.laysFinal "PolicyTree" "PolicyTree" "otherOutcome" "LPolicyTree$Outcome;") ∈ TB := tbk_2 (List.mem_of_getElem? (i := 87) rfl) rfl
theorem wd_2_89 : (Jvm.Cond.laysFinal "PolicyTree" "PolicyTree" "pairs" "[I") ∈ TB := tbk_2 (List.mem_of_getElem? (i := 89) rfl) rfl
theorem wd_2_92 : (Jvm.Cond.methodLink "PolicyTreeLaw" (148 : Nat) ({ cls := "PolicyTree", name := "feed", desc := "(IIIII)I" } : Jvm.MethodName)) ∈ TB := tbk_2 (List.mem_of_getElem? (i := 92) rfl) rfl
theorem wd_2_93 : (Jvm.Cond.instanceMethod ({ cls := "PolicyTree", name := "feed", desc := "(IIIII)I" } : Jvm.MethodName)) ∈ TB := tbk_2 (List.mem_of_getElem? (i := 93) rfl) rfl
theorem wd_2_94 : (Jvm.Cond.selects "PolicyTree" ({ cls := "PolicyTree", name := "feed", desc := "(IIIII)I" } : Jvm.MethodName) ({ cls := "PolicyTree", name := "feed", desc := "(IIIII)I" } : Jvm.MethodName)) ∈ TB := tbk_2 (List.mem_of_getElem? (i := 94) rfl) rfl
theorem wd_2_95 : (Jvm.Cond.code ({ cls := "PolicyTree", name := "feed", desc := "(IIIII)I" } : Jvm.MethodName) prog_1_method_15_code (6 : Nat) (Option.some Jvm.ClassFile.FieldType.int)) ∈ TB := tbk_2 (List.mem_of_getElem? (i := 95) rfl) rfl
theorem wd_2_96 : (Jvm.Cond.methodLink "PolicyTree" (168 : Nat) ({ cls := "PolicyTree$Tape", name := "hasRoom", desc := "(I)Z" } : Jvm.MethodName)) ∈ TB := tbk_2 (List.mem_of_getElem? (i := 96) rfl) rfl
theorem wd_2_97 : (Jvm.Cond.instanceMethod ({ cls := "PolicyTree$Tape", name := "hasRoom", desc := "(I)Z" } : Jvm.MethodName)) ∈ TB := tbk_2 (List.mem_of_getElem? (i := 97) rfl) rfl
theorem wd_2_98 : (Jvm.Cond.selects "PolicyTree$Tape" ({ cls := "PolicyTree$Tape", name := "hasRoom", desc := "(I)Z" } : Jvm.MethodName) ({ cls := "PolicyTree$Tape", name := "hasRoom", desc := "(I)Z" } : Jvm.MethodName)) ∈ TB := tbk_2 (List.mem_of_getElem? (i := 98) rfl) rfl
theorem wd_2_99 : (Jvm.Cond.code ({ cls := "PolicyTree$Tape", name := "hasRoom", desc := "(I)Z" } : Jvm.MethodName) prog_12_method_3_code (2 : Nat) (Option.some Jvm.ClassFile.FieldType.boolean)) ∈ TB := tbk_2 (List.mem_of_getElem? (i := 99) rfl) rfl
theorem wd_2_100 : (Jvm.Cond.methodLink "PolicyTree" (171 : Nat) ({ cls := "PolicyTree$Tape", name := "addNumber", desc := "(I)V" } : Jvm.MethodName)) ∈ TB := tbk_2 (List.mem_of_getElem? (i := 100) rfl) rfl
theorem wd_2_101 : (Jvm.Cond.instanceMethod ({ cls := "PolicyTree$Tape", name := "addNumber", desc := "(I)V" } : Jvm.MethodName)) ∈ TB := tbk_2 (List.mem_of_getElem? (i := 101) rfl) rfl
theorem wd_2_102 : (Jvm.Cond.selects "PolicyTree$Tape" ({ cls := "PolicyTree$Tape", name := "addNumber", desc := "(I)V" } : Jvm.MethodName) ({ cls := "PolicyTree$Tape", name := "addNumber", desc := "(I)V" } : Jvm.MethodName)) ∈ TB := tbk_2 (List.mem_of_getElem? (i := 102) rfl) rfl
theorem wd_2_103 : (Jvm.Cond.code ({ cls := "PolicyTree$Tape", name := "addNumber", desc := "(I)V" } : Jvm.MethodName) prog_12_method_4_code (3 : Nat) (Option.none : Option Jvm.ClassFile.FieldType)) ∈ TB := tbk_2 (List.mem_of_getElem? (i := 103) rfl) rfl
theorem wd_2_104 : (Jvm.Cond.methodLink "PolicyTree" (175 : Nat) ({ cls := "PolicyTree$Tape", name := "size", desc := "()I" } : Jvm.MethodName)) ∈ TB := tbk_2 (List.mem_of_getElem? (i := 104) rfl) rfl
theorem wd_2_105 : (Jvm.Cond.instanceMethod ({ cls := "PolicyTree$Tape", name := "size", desc := "()I" } : Jvm.MethodName)) ∈ TB := tbk_2 (List.mem_of_getElem? (i := 105) rfl) rfl
theorem wd_2_106 : (Jvm.Cond.selects "PolicyTree$Tape" ({ cls := "PolicyTree$Tape", name := "size", desc := "()I" } : Jvm.MethodName) ({ cls := "PolicyTree$Tape", name := "size", desc := "()I" } : Jvm.MethodName)) ∈ TB := tbk_2 (List.mem_of_getElem? (i := 106) rfl) rfl
theorem wd_2_107 : (Jvm.Cond.code ({ cls := "PolicyTree$Tape", name := "size", desc := "()I" } : Jvm.MethodName) prog_12_method_2_code (1 : Nat) (Option.some Jvm.ClassFile.FieldType.int)) ∈ TB := tbk_2 (List.mem_of_getElem? (i := 107) rfl) rfl
theorem wd_2_108 : (Jvm.Cond.methodLink "PolicyTreeLaw" (157 : Nat) ({ cls := "PolicyTree", name := "fault", desc := "()I" } : Jvm.MethodName)) ∈ TB := tbk_2 (List.mem_of_getElem? (i := 108) rfl) rfl
theorem wd_2_109 : (Jvm.Cond.instanceMethod ({ cls := "PolicyTree", name := "fault", desc := "()I" } : Jvm.MethodName)) ∈ TB := tbk_2 (List.mem_of_getElem? (i := 109) rfl) rfl
theorem wd_2_110 : (Jvm.Cond.selects "PolicyTree" ({ cls := "PolicyTree", name := "fault", desc := "()I" } : Jvm.MethodName) ({ cls := "PolicyTree", name := "fault", desc := "()I" } : Jvm.MethodName)) ∈ TB := tbk_2 (List.mem_of_getElem? (i := 110) rfl) rfl
theorem wd_2_111 : (Jvm.Cond.code ({ cls := "PolicyTree", name := "fault", desc := "()I" } : Jvm.MethodName) prog_1_method_17_code (1 : Nat) (Option.some Jvm.ClassFile.FieldType.int)) ∈ TB := tbk_2 (List.mem_of_getElem? (i := 111) rfl) rfl
theorem wd_2_112 : (Jvm.Cond.methodLink "PolicyTreeLaw" (185 : Nat) ({ cls := "PolicyTree", name := "quarrels", desc := "()I" } : Jvm.MethodName)) ∈ TB := tbk_2 (List.mem_of_getElem? (i := 112) rfl) rfl
theorem wd_2_113 : (Jvm.Cond.instanceMethod ({ cls := "PolicyTree", name := "quarrels", desc := "()I" } : Jvm.MethodName)) ∈ TB := tbk_2 (List.mem_of_getElem? (i := 113) rfl) rfl
theorem wd_2_114 : (Jvm.Cond.selects "PolicyTree" ({ cls := "PolicyTree", name := "quarrels", desc := "()I" } : Jvm.MethodName) ({ cls := "PolicyTree", name := "quarrels", desc := "()I" } : Jvm.MethodName)) ∈ TB := tbk_2 (List.mem_of_getElem? (i := 114) rfl) rfl
theorem wd_2_115 : (Jvm.Cond.code ({ cls := "PolicyTree", name := "quarrels", desc := "()I" } : Jvm.MethodName) prog_1_method_26_code (4 : Nat) (Option.some Jvm.ClassFile.FieldType.int)) ∈ TB := tbk_2 (List.mem_of_getElem? (i := 115) rfl) rfl
theorem wd_2_116 : (Jvm.Cond.methodLink "PolicyTree" (242 : Nat) ({ cls := "PolicyTree", name := "settingsOfLast", desc := "()I" } : Jvm.MethodName)) ∈ TB := tbk_2 (List.mem_of_getElem? (i := 116) rfl) rfl
theorem wd_2_118 : (Jvm.Cond.instanceMethod ({ cls := "PolicyTree", name := "settingsOfLast", desc := "()I" } : Jvm.MethodName)) ∈ TB := tbk_2 (List.mem_of_getElem? (i := 118) rfl) rfl
theorem wd_2_119 : (Jvm.Cond.code ({ cls := "PolicyTree", name := "settingsOfLast", desc := "()I" } : Jvm.MethodName) prog_1_method_37_code (3 : Nat) (Option.some Jvm.ClassFile.FieldType.int)) ∈ TB := tbk_2 (List.mem_of_getElem? (i := 119) rfl) rfl
theorem wd_2_120 : (Jvm.Cond.methodLink "PolicyTree" (88 : Nat) ({ cls := "java/util/ArrayList", name := "size", desc := "()I" } : Jvm.MethodName)) ∈ TB := tbk_2 (List.mem_of_getElem? (i := 120) rfl) rfl
theorem wd_2_121 : (Jvm.Cond.instanceMethod ({ cls := "java/util/ArrayList", name := "size", desc := "()I" } : Jvm.MethodName)) ∈ TB := tbk_2 (List.mem_of_getElem? (i := 121) rfl) rfl
theorem wd_2_122 : (Jvm.Cond.selects "java/util/ArrayList" ({ cls := "java/util/ArrayList", name := "size", desc := "()I" } : Jvm.MethodName) ({ cls := "java/util/ArrayList", name := "size", desc := "()I" } : Jvm.MethodName)) ∈ TB := tbk_2 (List.mem_of_getElem? (i := 122) rfl) rfl
theorem wd_2_123 : (Jvm.Cond.code ({ cls := "java/util/ArrayList", name := "size", desc := "()I" } : Jvm.MethodName) prog_34_method_8_code (1 : Nat) (Option.some Jvm.ClassFile.FieldType.int)) ∈ TB := tbk_2 (List.mem_of_getElem? (i := 123) rfl) rfl
theorem wd_2_124 : (Jvm.Cond.methodLink "PolicyTree" (245 : Nat) ({ cls := "PolicyTree", name := "countQuarrels", desc := "(II)I" } : Jvm.MethodName)) ∈ TB := tbk_2 (List.mem_of_getElem? (i := 124) rfl) rfl
theorem wd_2_126 : (Jvm.Cond.instanceMethod ({ cls := "PolicyTree", name := "countQuarrels", desc := "(II)I" } : Jvm.MethodName)) ∈ TB := tbk_2 (List.mem_of_getElem? (i := 126) rfl) rfl
theorem wd_2_127 : (Jvm.Cond.code ({ cls := "PolicyTree", name := "countQuarrels", desc := "(II)I" } : Jvm.MethodName) prog_1_method_38_code (6 : Nat) (Option.some Jvm.ClassFile.FieldType.int)) ∈ TB := tbk_2 (List.mem_of_getElem? (i := 127) rfl) rfl
theorem wd_2_128 : (Jvm.Cond.methodLink "PolicyTree" (99 : Nat) ({ cls := "java/util/ArrayList", name := "get", desc := "(I)Ljava/lang/Object;" } : Jvm.MethodName)) ∈ TB := tbk_2 (List.mem_of_getElem? (i := 128) rfl) rfl
theorem wd_2_129 : (Jvm.Cond.instanceMethod ({ cls := "java/util/ArrayList", name := "get", desc := "(I)Ljava/lang/Object;" } : Jvm.MethodName)) ∈ TB := tbk_2 (List.mem_of_getElem? (i := 129) rfl) rfl
theorem wd_2_130 : (Jvm.Cond.selects "java/util/ArrayList" ({ cls := "java/util/ArrayList", name := "get", desc := "(I)Ljava/lang/Object;" } : Jvm.MethodName) ({ cls := "java/util/ArrayList", name := "get", desc := "(I)Ljava/lang/Object;" } : Jvm.MethodName)) ∈ TB := tbk_2 (List.mem_of_getElem? (i := 130) rfl) rfl
theorem wd_2_131 : (Jvm.Cond.code ({ cls := "java/util/ArrayList", name := "get", desc := "(I)Ljava/lang/Object;" } : Jvm.MethodName) prog_34_method_20_code (2 : Nat) (Option.some (Jvm.ClassFile.FieldType.object "java/lang/Object"))) ∈ TB := tbk_2 (List.mem_of_getElem? (i := 131) rfl) rfl
theorem wd_2_132 : (Jvm.Cond.methodLink "java/util/ArrayList" (118 : Nat) ({ cls := "java/util/Objects", name := "checkIndex", desc := "(II)I" } : Jvm.MethodName)) ∈ TB := tbk_2 (List.mem_of_getElem? (i := 132) rfl) rfl
theorem wd_2_133 : (Jvm.Cond.static ({ cls := "java/util/Objects", name := "checkIndex", desc := "(II)I" } : Jvm.MethodName)) ∈ TB := tbk_2 (List.mem_of_getElem? (i := 133) rfl) rfl
theorem wd_2_134 : (Jvm.Cond.code ({ cls := "java/util/Objects", name := "checkIndex", desc := "(II)I" } : Jvm.MethodName) prog_38_method_17_code (2 : Nat) (Option.some Jvm.ClassFile.FieldType.int)) ∈ TB := tbk_2 (List.mem_of_getElem? (i := 134) rfl) rfl
theorem wd_2_135 : (Jvm.Cond.methodLink "java/util/Objects" (105 : Nat) ({ cls := "jdk/internal/util/Preconditions", name := "checkIndex", desc := "(IILjava/util/function/BiFunction;)I" } : Jvm.MethodName)) ∈ TB := tbk_2 (List.mem_of_getElem? (i := 135) rfl) rfl
theorem wd_2_136 : (Jvm.Cond.static ({ cls := "jdk/internal/util/Preconditions", name := "checkIndex", desc := "(IILjava/util/function/BiFunction;)I" } : Jvm.MethodName)) ∈ TB := tbk_2 (List.mem_of_getElem? (i := 136) rfl) rfl
theorem wd_2_137 : (Jvm.Cond.code ({ cls := "jdk/internal/util/Preconditions", name := "checkIndex", desc := "(IILjava/util/function/BiFunction;)I" } : Jvm.MethodName) prog_42_method_11_code (3 : Nat) (Option.some Jvm.ClassFile.FieldType.int)) ∈ TB := tbk_2 (List.mem_of_getElem? (i := 137) rfl) rfl
theorem wd_2_138 : (Jvm.Cond.methodLink "java/util/ArrayList" (123 : Nat) ({ cls := "java/util/ArrayList", name := "elementData", desc := "(I)Ljava/lang/Object;" } : Jvm.MethodName)) ∈ TB := tbk_2 (List.mem_of_getElem? (i := 138) rfl) rfl
theorem wd_2_139 : (Jvm.Cond.instanceMethod ({ cls := "java/util/ArrayList", name := "elementData", desc := "(I)Ljava/lang/Object;" } : Jvm.MethodName)) ∈ TB := tbk_2 (List.mem_of_getElem? (i := 139) rfl) rfl
theorem wd_2_140 : (Jvm.Cond.selects "java/util/ArrayList" ({ cls := "java/util/ArrayList", name := "elementData", desc := "(I)Ljava/lang/Object;" } : Jvm.MethodName) ({ cls := "java/util/ArrayList", name := "elementData", desc := "(I)Ljava/lang/Object;" } : Jvm.MethodName)) ∈ TB := tbk_2 (List.mem_of_getElem? (i := 140) rfl) rfl
theorem wd_2_141 : (Jvm.Cond.code ({ cls := "java/util/ArrayList", name := "elementData", desc := "(I)Ljava/lang/Object;" } : Jvm.MethodName) prog_34_method_18_code (2 : Nat) (Option.some (Jvm.ClassFile.FieldType.object "java/lang/Object"))) ∈ TB := tbk_2 (List.mem_of_getElem? (i := 141) rfl) rfl
theorem wd_2_142 : (Jvm.Cond.classLink "PolicyTree" (185 : Nat) "PolicyTree$Link") ∈ TB := tbk_2 (List.mem_of_getElem? (i := 142) rfl) rfl
theorem wd_2_143 : (Jvm.Cond.methodLink "PolicyTree" (292 : Nat) ({ cls := "PolicyTree$Link", name := "quarrelsWith", desc := "(LPolicyTree$Link;I)Z" } : Jvm.MethodName)) ∈ TB := tbk_2 (List.mem_of_getElem? (i := 143) rfl) rfl
theorem wd_2_144 : (Jvm.Cond.instanceMethod ({ cls := "PolicyTree$Link", name := "quarrelsWith", desc := "(LPolicyTree$Link;I)Z" } : Jvm.MethodName)) ∈ TB := tbk_2 (List.mem_of_getElem? (i := 144) rfl) rfl
theorem wd_2_145 : (Jvm.Cond.selects "PolicyTree$Link" ({ cls := "PolicyTree$Link", name := "quarrelsWith", desc := "(LPolicyTree$Link;I)Z" } : Jvm.MethodName) ({ cls := "PolicyTree$Link", name := "quarrelsWith", desc := "(LPolicyTree$Link;I)Z" } : Jvm.MethodName)) ∈ TB := tbk_2 (List.mem_of_getElem? (i := 145) rfl) rfl
theorem wd_2_146 : (Jvm.Cond.code ({ cls := "PolicyTree$Link", name := "quarrelsWith", desc := "(LPolicyTree$Link;I)Z" } : Jvm.MethodName) prog_6_method_2_code (3 : Nat) (Option.some Jvm.ClassFile.FieldType.boolean)) ∈ TB := tbk_2 (List.mem_of_getElem? (i := 146) rfl) rfl
theorem wd_2_147 : (Jvm.Cond.methodLink "PolicyTree$Link" (35 : Nat) ({ cls := "PolicyTree$Bundle", name := "differs", desc := "(LPolicyTree$Bundle;I)Z" } : Jvm.MethodName)) ∈ TB := tbk_2 (List.mem_of_getElem? (i := 147) rfl) rfl
theorem wd_2_148 : (Jvm.Cond.instanceMethod ({ cls := "PolicyTree$Bundle", name := "differs", desc := "(LPolicyTree$Bundle;I)Z" } : Jvm.MethodName)) ∈ TB := tbk_2 (List.mem_of_getElem? (i := 148) rfl) rfl
theorem wd_2_149 : (Jvm.Cond.selects "PolicyTree$Bundle" ({ cls := "PolicyTree$Bundle", name := "differs", desc := "(LPolicyTree$Bundle;I)Z" } : Jvm.MethodName) ({ cls := "PolicyTree$Bundle", name := "differs", desc := "(LPolicyTree$Bundle;I)Z" } : Jvm.MethodName)) ∈ TB := tbk_2 (List.mem_of_getElem? (i := 149) rfl) rfl
theorem wd_2_150 : (Jvm.Cond.code ({ cls := "PolicyTree$Bundle", name := "differs", desc := "(LPolicyTree$Bundle;I)Z" } : Jvm.MethodName) prog_2_method_7_code (5 : Nat) (Option.some Jvm.ClassFile.FieldType.boolean)) ∈ TB := tbk_2 (List.mem_of_getElem? (i := 150) rfl) rfl
theorem wd_2_151 : (Jvm.Cond.methodLink "PolicyTree$Bundle" (23 : Nat) ({ cls := "PolicyTree$Bundle", name := "valueOf", desc := "(I)I" } : Jvm.MethodName)) ∈ TB := tbk_2 (List.mem_of_getElem? (i := 151) rfl) rfl
theorem wd_2_152 : (Jvm.Cond.instanceMethod ({ cls := "PolicyTree$Bundle", name := "valueOf", desc := "(I)I" } : Jvm.MethodName)) ∈ TB := tbk_2 (List.mem_of_getElem? (i := 152) rfl) rfl
theorem wd_2_153 : (Jvm.Cond.selects "PolicyTree$Bundle" ({ cls := "PolicyTree$Bundle", name := "valueOf", desc := "(I)I" } : Jvm.MethodName) ({ cls := "PolicyTree$Bundle", name := "valueOf", desc := "(I)I" } : Jvm.MethodName)) ∈ TB := tbk_2 (List.mem_of_getElem? (i := 153) rfl) rfl
theorem wd_2_154 : (Jvm.Cond.code ({ cls := "PolicyTree$Bundle", name := "valueOf", desc := "(I)I" } : Jvm.MethodName) prog_2_method_4_code (2 : Nat) (Option.some Jvm.ClassFile.FieldType.int)) ∈ TB := tbk_2 (List.mem_of_getElem? (i := 154) rfl) rfl
theorem wd_2_155 : (Jvm.Cond.methodLink "PolicyTreeLaw" (192 : Nat) ({ cls := "PolicyTree", name := "count", desc := "(I)I" } : Jvm.MethodName)) ∈ TB := tbk_2 (List.mem_of_getElem? (i := 155) rfl) rfl
theorem wd_2_156 : (Jvm.Cond.instanceMethod ({ cls := "PolicyTree", name := "count", desc := "(I)I" } : Jvm.MethodName)) ∈ TB := tbk_2 (List.mem_of_getElem? (i := 156) rfl) rfl
theorem wd_2_157 : (Jvm.Cond.selects "PolicyTree" ({ cls := "PolicyTree", name := "count", desc := "(I)I" } : Jvm.MethodName) ({ cls := "PolicyTree", name := "count", desc := "(I)I" } : Jvm.MethodName)) ∈ TB := tbk_2 (List.mem_of_getElem? (i := 157) rfl) rfl
theorem wd_2_158 : (Jvm.Cond.code ({ cls := "PolicyTree", name := "count", desc := "(I)I" } : Jvm.MethodName) prog_1_method_28_code (2 : Nat) (Option.some Jvm.ClassFile.FieldType.int)) ∈ TB := tbk_2 (List.mem_of_getElem? (i := 158) rfl) rfl
theorem wd_2_159 : (Jvm.Cond.methodLink "PolicyTree" (144 : Nat) ({ cls := "PolicyTree$Groups", name := "size", desc := "()I" } : Jvm.MethodName)) ∈ TB := tbk_2 (List.mem_of_getElem? (i := 159) rfl) rfl
theorem wd_2_160 : (Jvm.Cond.instanceMethod ({ cls := "PolicyTree$Groups", name := "size", desc := "()I" } : Jvm.MethodName)) ∈ TB := tbk_2 (List.mem_of_getElem? (i := 160) rfl) rfl
theorem wd_2_161 : (Jvm.Cond.selects "PolicyTree$Groups" ({ cls := "PolicyTree$Groups", name := "size", desc := "()I" } : Jvm.MethodName) ({ cls := "PolicyTree$Groups", name := "size", desc := "()I" } : Jvm.MethodName)) ∈ TB := tbk_2 (List.mem_of_getElem? (i := 161) rfl) rfl
theorem wd_2_162 : (Jvm.Cond.code ({ cls := "PolicyTree$Groups", name := "size", desc := "()I" } : Jvm.MethodName) prog_5_method_2_code (1 : Nat) (Option.some Jvm.ClassFile.FieldType.int)) ∈ TB := tbk_2 (List.mem_of_getElem? (i := 162) rfl) rfl
theorem wd_2_163 : (Jvm.Cond.methodLink "PolicyTree" (252 : Nat) ({ cls := "PolicyTree", name := "countLasting", desc := "()I" } : Jvm.MethodName)) ∈ TB := tbk_2 (List.mem_of_getElem? (i := 163) rfl) rfl
theorem wd_2_165 : (Jvm.Cond.instanceMethod ({ cls := "PolicyTree", name := "countLasting", desc := "()I" } : Jvm.MethodName)) ∈ TB := tbk_2 (List.mem_of_getElem? (i := 165) rfl) rfl
theorem wd_2_166 : (Jvm.Cond.code ({ cls := "PolicyTree", name := "countLasting", desc := "()I" } : Jvm.MethodName) prog_1_method_40_code (3 : Nat) (Option.some Jvm.ClassFile.FieldType.int)) ∈ TB := tbk_2 (List.mem_of_getElem? (i := 166) rfl) rfl
theorem wd_2_167 : (Jvm.Cond.methodLink "PolicyTreeLaw" (98 : Nat) ({ cls := "PolicyTreeLaw", name := "node", desc := "(LPolicyTree;I[J)I" } : Jvm.MethodName)) ∈ TB := tbk_2 (List.mem_of_getElem? (i := 167) rfl) rfl
theorem wd_2_168 : (Jvm.Cond.static ({ cls := "PolicyTreeLaw", name := "node", desc := "(LPolicyTree;I[J)I" } : Jvm.MethodName)) ∈ TB := tbk_2 (List.mem_of_getElem? (i := 168) rfl) rfl
theorem wd_2_169 : (Jvm.Cond.codeWith ({ cls := "PolicyTreeLaw", name := "node", desc := "(LPolicyTree;I[J)I" } : Jvm.MethodName) method_3_code (4 : Nat) (Option.some Jvm.ClassFile.FieldType.int) [((0 : Nat), (9 : Nat), (12 : Nat), (13 : Nat)), ((0 : Nat), (9 : Nat), (15 : Nat), (15 : Nat))]) ∈ TB := tbk_2 (List.mem_of_getElem? (i := 169) rfl) rfl
theorem wd_2_170 : (Jvm.Cond.classLink "PolicyTreeLaw" (13 : Nat) "java/lang/IndexOutOfBoundsException") ∈ TB := tbk_2 (List.mem_of_getElem? (i := 170) rfl) rfl
theorem wd_2_171 : (Jvm.Cond.classLink "PolicyTreeLaw" (15 : Nat) "java/lang/IllegalStateException") ∈ TB := tbk_2 (List.mem_of_getElem? (i := 171) rfl) rfl
theorem wd_2_172 : (Jvm.Cond.methodLink "PolicyTreeLaw" (7 : Nat) ({ cls := "PolicyTree", name := "node", desc := "(I)I" } : Jvm.MethodName)) ∈ TB := tbk_2 (List.mem_of_getElem? (i := 172) rfl) rfl
theorem wd_2_173 : (Jvm.Cond.instanceMethod ({ cls := "PolicyTree", name := "node", desc := "(I)I" } : Jvm.MethodName)) ∈ TB := tbk_2 (List.mem_of_getElem? (i := 173) rfl) rfl
theorem wd_2_174 : (Jvm.Cond.selects "PolicyTree" ({ cls := "PolicyTree", name := "node", desc := "(I)I" } : Jvm.MethodName) ({ cls := "PolicyTree", name := "node", desc := "(I)I" } : Jvm.MethodName)) ∈ TB := tbk_2 (List.mem_of_getElem? (i := 174) rfl) rfl
theorem wd_2_175 : (Jvm.Cond.code ({ cls := "PolicyTree", name := "node", desc := "(I)I" } : Jvm.MethodName) prog_1_method_2_code (2 : Nat) (Option.some Jvm.ClassFile.FieldType.int)) ∈ TB := tbk_2 (List.mem_of_getElem? (i := 175) rfl) rfl
theorem wd_2_176 : (Jvm.Cond.methodLink "PolicyTree" (92 : Nat) ({ cls := "PolicyTree", name := "needNumber", desc := "(II)V" } : Jvm.MethodName)) ∈ TB := tbk_2 (List.mem_of_getElem? (i := 176) rfl) rfl
theorem wd_2_177 : (Jvm.Cond.static ({ cls := "PolicyTree", name := "needNumber", desc := "(II)V" } : Jvm.MethodName)) ∈ TB := tbk_2 (List.mem_of_getElem? (i := 177) rfl) rfl
theorem wd_2_178 : (Jvm.Cond.code ({ cls := "PolicyTree", name := "needNumber", desc := "(II)V" } : Jvm.MethodName) prog_1_method_29_code (2 : Nat) (Option.none : Option Jvm.ClassFile.FieldType)) ∈ TB := tbk_2 (List.mem_of_getElem? (i := 178) rfl) rfl
theorem wd_2_179 : (Jvm.Cond.classLink "PolicyTree" (255 : Nat) "java/lang/IndexOutOfBoundsException") ∈ TB := tbk_2 (List.mem_of_getElem? (i := 179) rfl) rfl
theorem wd_2_180 : (Jvm.Cond.instantiable "java/lang/IndexOutOfBoundsException" (6 : Nat)) ∈ TB := tbk_2 (List.mem_of_getElem? (i := 180) rfl) rfl
theorem wd_2_188 : (Jvm.Cond.selects "java/lang/IndexOutOfBoundsException" ({ cls := "java/lang/Throwable", name := "fillInStackTrace", desc := "(I)Ljava/lang/Throwable;" } : Jvm.MethodName) ({ cls := "java/lang/Throwable", name := "fillInStackTrace", desc := "(I)Ljava/lang/Throwable;" } : Jvm.MethodName)) ∈ TB := tbk_2 (List.mem_of_getElem? (i := 188) rfl) rfl
theorem wd_2_189 : (Jvm.Cond.selects "java/lang/IndexOutOfBoundsException" ({ cls := "java/lang/Throwable", name := "fillInStackTrace", desc := "()Ljava/lang/Throwable;" } : Jvm.MethodName) ({ cls := "java/lang/Throwable", name := "fillInStackTrace", desc := "()Ljava/lang/Throwable;" } : Jvm.MethodName)) ∈ TB := tbk_2 (List.mem_of_getElem? (i := 189) rfl) rfl
theorem wd_2_190 : (Jvm.Cond.lays "java/lang/IndexOutOfBoundsException" "java/lang/Throwable" "cause" "Ljava/lang/Throwable;") ∈ TB := tbk_2 (List.mem_of_getElem? (i := 190) rfl) rfl
theorem wd_2_191 : (Jvm.Cond.lays "java/lang/Throwable" "java/lang/Throwable" "cause" "Ljava/lang/Throwable;") ∈ TB := tbk_2 (List.mem_of_getElem? (i := 191) rfl) rfl
theorem wd_2_192 : (Jvm.Cond.lays "java/lang/IndexOutOfBoundsException" "java/lang/Throwable" "stackTrace" "[Ljava/lang/StackTraceElement;") ∈ TB := tbk_2 (List.mem_of_getElem? (i := 192) rfl) rfl
theorem wd_2_193 : (Jvm.Cond.lays "java/lang/Throwable" "java/lang/Throwable" "stackTrace" "[Ljava/lang/StackTraceElement;") ∈ TB := tbk_2 (List.mem_of_getElem? (i := 193) rfl) rfl
theorem wd_2_194 : (Jvm.Cond.lays "java/lang/IndexOutOfBoundsException" "java/lang/Throwable" "suppressedExceptions" "Ljava/util/List;") ∈ TB := tbk_2 (List.mem_of_getElem? (i := 194) rfl) rfl
theorem wd_2_195 : (Jvm.Cond.lays "java/lang/Throwable" "java/lang/Throwable" "suppressedExceptions" "Ljava/util/List;") ∈ TB := tbk_2 (List.mem_of_getElem? (i := 195) rfl) rfl
theorem wd_2_196 : (Jvm.Cond.lays "java/lang/IndexOutOfBoundsException" "java/lang/Throwable" "detailMessage" "Ljava/lang/String;") ∈ TB := tbk_2 (List.mem_of_getElem? (i := 196) rfl) rfl
theorem wd_2_197 : (Jvm.Cond.lays "java/lang/Throwable" "java/lang/Throwable" "detailMessage" "Ljava/lang/String;") ∈ TB := tbk_2 (List.mem_of_getElem? (i := 197) rfl) rfl
theorem wd_2_198 : (Jvm.Cond.lays "java/lang/IndexOutOfBoundsException" "java/lang/Throwable" "backtrace" "Ljava/lang/Object;") ∈ TB := tbk_2 (List.mem_of_getElem? (i := 198) rfl) rfl
theorem wd_2_199 : (Jvm.Cond.lays "java/lang/Throwable" "java/lang/Throwable" "backtrace" "Ljava/lang/Object;") ∈ TB := tbk_2 (List.mem_of_getElem? (i := 199) rfl) rfl
theorem wd_2_200 : (Jvm.Cond.fieldLink "java/lang/Throwable" (198 : Nat) "java/lang/Throwable" "backtrace" "Ljava/lang/Object;") ∈ TB := tbk_2 (List.mem_of_getElem? (i := 200) rfl) rfl
theorem wd_2_202 : (Jvm.Cond.instanceMethod ({ cls := "java/lang/Throwable", name := "<init>", desc := "()V" } : Jvm.MethodName)) ∈ TB := tbk_2 (List.mem_of_getElem? (i := 202) rfl) rfl
theorem wd_2_203 : (Jvm.Cond.code ({ cls := "java/lang/Throwable", name := "<init>", desc := "()V" } : Jvm.MethodName) prog_31_method_1_code (1 : Nat) (Option.none : Option Jvm.ClassFile.FieldType)) ∈ TB := tbk_2 (List.mem_of_getElem? (i := 203) rfl) rfl
theorem wd_2_204 : (Jvm.Cond.methodLink "java/lang/Throwable" (1 : Nat) ({ cls := "java/lang/Object", name := "<init>", desc := "()V" } : Jvm.MethodName)) ∈ TB := tbk_2 (List.mem_of_getElem? (i := 204) rfl) rfl
theorem wd_2_205 : (Jvm.Cond.fieldLink "java/lang/Throwable" (13 : Nat) "java/lang/Throwable" "UNASSIGNED_STACK" "[Ljava/lang/StackTraceElement;") ∈ TB := tbk_2 (List.mem_of_getElem? (i := 205) rfl) rfl
theorem wd_2_207 : (Jvm.Cond.fieldLink "java/lang/Throwable" (20 : Nat) "java/lang/Throwable" "SUPPRESSED_SENTINEL" "Ljava/util/List;") ∈ TB := tbk_2 (List.mem_of_getElem? (i := 207) rfl) rfl
theorem wd_2_209 : (Jvm.Cond.methodLink "java/lang/Throwable" (27 : Nat) ({ cls := "java/lang/Throwable", name := "fillInStackTrace", desc := "()Ljava/lang/Throwable;" } : Jvm.MethodName)) ∈ TB := tbk_2 (List.mem_of_getElem? (i := 209) rfl) rfl
theorem wd_2_210 : (Jvm.Cond.instanceMethod ({ cls := "java/lang/Throwable", name := "fillInStackTrace", desc := "()Ljava/lang/Throwable;" } : Jvm.MethodName)) ∈ TB := tbk_2 (List.mem_of_getElem? (i := 210) rfl) rfl
theorem wd_2_211 : (Jvm.Cond.sameMethod "java/lang/Throwable" "java/lang/Throwable" "fillInStackTrace" "()Ljava/lang/Throwable;") ∈ TB := tbk_2 (List.mem_of_getElem? (i := 211) rfl) rfl
theorem wd_2_212 : (Jvm.Cond.selects "java/lang/IllegalArgumentException" ({ cls := "java/lang/Throwable", name := "fillInStackTrace", desc := "()Ljava/lang/Throwable;" } : Jvm.MethodName) ({ cls := "java/lang/Throwable", name := "fillInStackTrace", desc := "()Ljava/lang/Throwable;" } : Jvm.MethodName)) ∈ TB := tbk_2 (List.mem_of_getElem? (i := 212) rfl) rfl
theorem wd_2_213 : (Jvm.Cond.selects "java/lang/IllegalStateException" ({ cls := "java/lang/Throwable", name := "fillInStackTrace", desc := "()Ljava/lang/Throwable;" } : Jvm.MethodName) ({ cls := "java/lang/Throwable", name := "fillInStackTrace", desc := "()Ljava/lang/Throwable;" } : Jvm.MethodName)) ∈ TB := tbk_2 (List.mem_of_getElem? (i := 213) rfl) rfl
theorem wd_2_215 : (Jvm.Cond.methodLink "java/lang/Throwable" (202 : Nat) ({ cls := "java/lang/Throwable", name := "fillInStackTrace", desc := "(I)Ljava/lang/Throwable;" } : Jvm.MethodName)) ∈ TB := tbk_2 (List.mem_of_getElem? (i := 215) rfl) rfl
theorem wd_2_217 : (Jvm.Cond.instanceMethod ({ cls := "java/lang/Throwable", name := "fillInStackTrace", desc := "(I)Ljava/lang/Throwable;" } : Jvm.MethodName)) ∈ TB := tbk_2 (List.mem_of_getElem? (i := 217) rfl) rfl
theorem wd_2_218 : (Jvm.Cond.instantiable "java/lang/Throwable" (6 : Nat)) ∈ TB := tbk_2 (List.mem_of_getElem? (i := 218) rfl) rfl
theorem wd_2_221 : (Jvm.Cond.methodLink "PolicyTree" (259 : Nat) ({ cls := "java/lang/IndexOutOfBoundsException", name := "<init>", desc := "(Ljava/lang/String;)V" } : Jvm.MethodName)) ∈ TB := tbk_2 (List.mem_of_getElem? (i := 221) rfl) rfl
theorem wd_2_222 : (Jvm.Cond.instanceMethod ({ cls := "java/lang/IndexOutOfBoundsException", name := "<init>", desc := "(Ljava/lang/String;)V" } : Jvm.MethodName)) ∈ TB := tbk_2 (List.mem_of_getElem? (i := 222) rfl) rfl
theorem wd_2_223 : (Jvm.Cond.code ({ cls := "java/lang/IndexOutOfBoundsException", name := "<init>", desc := "(Ljava/lang/String;)V" } : Jvm.MethodName) prog_21_method_2_code (2 : Nat) (Option.none : Option Jvm.ClassFile.FieldType)) ∈ TB := tbk_2 (List.mem_of_getElem? (i := 223) rfl) rfl
theorem wd_2_224 : (Jvm.Cond.methodLink "java/lang/IndexOutOfBoundsException" (7 : Nat) ({ cls := "java/lang/RuntimeException", name := "<init>", desc := "(Ljava/lang/String;)V" } : Jvm.MethodName)) ∈ TB := tbk_2 (List.mem_of_getElem? (i := 224) rfl) rfl
theorem wd_2_225 : (Jvm.Cond.instanceMethod ({ cls := "java/lang/RuntimeException", name := "<init>", desc := "(Ljava/lang/String;)V" } : Jvm.MethodName)) ∈ TB := tbk_2 (List.mem_of_getElem? (i := 225) rfl) rfl
theorem wd_2_226 : (Jvm.Cond.code ({ cls := "java/lang/RuntimeException", name := "<init>", desc := "(Ljava/lang/String;)V" } : Jvm.MethodName) prog_25_method_2_code (2 : Nat) (Option.none : Option Jvm.ClassFile.FieldType)) ∈ TB := tbk_2 (List.mem_of_getElem? (i := 226) rfl) rfl
theorem wd_2_227 : (Jvm.Cond.methodLink "java/lang/RuntimeException" (7 : Nat) ({ cls := "java/lang/Exception", name := "<init>", desc := "(Ljava/lang/String;)V" } : Jvm.MethodName)) ∈ TB := tbk_2 (List.mem_of_getElem? (i := 227) rfl) rfl
theorem wd_2_228 : (Jvm.Cond.instanceMethod ({ cls := "java/lang/Exception", name := "<init>", desc := "(Ljava/lang/String;)V" } : Jvm.MethodName)) ∈ TB := tbk_2 (List.mem_of_getElem? (i := 228) rfl) rfl
theorem wd_2_229 : (Jvm.Cond.code ({ cls := "java/lang/Exception", name := "<init>", desc := "(Ljava/lang/String;)V" } : Jvm.MethodName) prog_18_method_2_code (2 : Nat) (Option.none : Option Jvm.ClassFile.FieldType)) ∈ TB := tbk_2 (List.mem_of_getElem? (i := 229) rfl) rfl
theorem wd_2_230 : (Jvm.Cond.methodLink "java/lang/Exception" (7 : Nat) ({ cls := "java/lang/Throwable", name := "<init>", desc := "(Ljava/lang/String;)V" } : Jvm.MethodName)) ∈ TB := tbk_2 (List.mem_of_getElem? (i := 230) rfl) rfl
theorem wd_2_231 : (Jvm.Cond.instanceMethod ({ cls := "java/lang/Throwable", name := "<init>", desc := "(Ljava/lang/String;)V" } : Jvm.MethodName)) ∈ TB := tbk_2 (List.mem_of_getElem? (i := 231) rfl) rfl
theorem wd_2_232 : (Jvm.Cond.code ({ cls := "java/lang/Throwable", name := "<init>", desc := "(Ljava/lang/String;)V" } : Jvm.MethodName) prog_31_method_2_code (2 : Nat) (Option.none : Option Jvm.ClassFile.FieldType)) ∈ TB := tbk_2 (List.mem_of_getElem? (i := 232) rfl) rfl
theorem wd_2_234 : (Jvm.Cond.fieldLink "java/lang/Throwable" (31 : Nat) "java/lang/Throwable" "detailMessage" "Ljava/lang/String;") ∈ TB := tbk_2 (List.mem_of_getElem? (i := 234) rfl) rfl
theorem wd_2_235 : (Jvm.Cond.fieldLink "java/lang/Throwable" (7 : Nat) "java/lang/Throwable" "cause" "Ljava/lang/Throwable;") ∈ TB := tbk_2 (List.mem_of_getElem? (i := 235) rfl) rfl
theorem wd_2_236 : (Jvm.Cond.fieldLink "java/lang/Throwable" (17 : Nat) "java/lang/Throwable" "stackTrace" "[Ljava/lang/StackTraceElement;") ∈ TB := tbk_2 (List.mem_of_getElem? (i := 236) rfl) rfl
theorem wd_2_237 : (Jvm.Cond.fieldLink "java/lang/Throwable" (24 : Nat) "java/lang/Throwable" "suppressedExceptions" "Ljava/util/List;") ∈ TB := tbk_2 (List.mem_of_getElem? (i := 237) rfl) rfl
theorem wd_3_2 : (Jvm.Cond.lays "java/lang/IndexOutOfBoundsException" "java/lang/Throwable" "depth" "I") ∈ TB := tbk_3 (List.mem_of_getElem? (i := 2) rfl) rfl
theorem wd_3_6 : (Jvm.Cond.methodLink "PolicyTree" (96 : Nat) ({ cls := "PolicyTree", name := "needRoom", desc := "(II)V" } : Jvm.MethodName)) ∈ TB := tbk_3 (List.mem_of_getElem? (i := 6) rfl) rfl
theorem wd_3_7 : (Jvm.Cond.static ({ cls := "PolicyTree", name := "needRoom", desc := "(II)V" } : Jvm.MethodName)) ∈ TB := tbk_3 (List.mem_of_getElem? (i := 7) rfl) rfl
theorem wd_3_8 : (Jvm.Cond.code ({ cls := "PolicyTree", name := "needRoom", desc := "(II)V" } : Jvm.MethodName) prog_1_method_31_code (2 : Nat) (Option.none : Option Jvm.ClassFile.FieldType)) ∈ TB := tbk_3 (List.mem_of_getElem? (i := 8) rfl) rfl
theorem wd_3_9 : (Jvm.Cond.classLink "PolicyTree" (262 : Nat) "java/lang/IllegalStateException") ∈ TB := tbk_3 (List.mem_of_getElem? (i := 9) rfl) rfl
theorem wd_3_10 : (Jvm.Cond.instantiable "java/lang/IllegalStateException" (6 : Nat)) ∈ TB := tbk_3 (List.mem_of_getElem? (i := 10) rfl) rfl
theorem wd_3_12 : (Jvm.Cond.selects "java/lang/IllegalStateException" ({ cls := "java/lang/Throwable", name := "fillInStackTrace", desc := "(I)Ljava/lang/Throwable;" } : Jvm.MethodName) ({ cls := "java/lang/Throwable", name := "fillInStackTrace", desc := "(I)Ljava/lang/Throwable;" } : Jvm.MethodName)) ∈ TB := tbk_3 (List.mem_of_getElem? (i := 12) rfl) rfl
theorem wd_3_13 : (Jvm.Cond.lays "java/lang/IllegalStateException" "java/lang/Throwable" "cause" "Ljava/lang/Throwable;") ∈ TB := tbk_3 (List.mem_of_getElem? (i := 13) rfl) rfl
theorem wd_3_14 : (Jvm.Cond.lays "java/lang/IllegalStateException" "java/lang/Throwable" "stackTrace" "[Ljava/lang/StackTraceElement;") ∈ TB := tbk_3 (List.mem_of_getElem? (i := 14) rfl) rfl
theorem wd_3_15 : (Jvm.Cond.lays "java/lang/IllegalStateException" "java/lang/Throwable" "suppressedExceptions" "Ljava/util/List;") ∈ TB := tbk_3 (List.mem_of_getElem? (i := 15) rfl) rfl
theorem wd_3_16 : (Jvm.Cond.lays "java/lang/IllegalStateException" "java/lang/Throwable" "detailMessage" "Ljava/lang/String;") ∈ TB := tbk_3 (List.mem_of_getElem? (i := 16) rfl) rfl
theorem wd_3_17 : (Jvm.Cond.lays "java/lang/IllegalStateException" "java/lang/Throwable" "backtrace" "Ljava/lang/Object;") ∈ TB := tbk_3 (List.mem_of_getElem? (i := 17) rfl) rfl
theorem wd_3_19 : (Jvm.Cond.methodLink "PolicyTree" (266 : Nat) ({ cls := "java/lang/IllegalStateException", name := "<init>", desc := "(Ljava/lang/String;)V" } : Jvm.MethodName)) ∈ TB := tbk_3 (List.mem_of_getElem? (i := 19) rfl) rfl
theorem wd_3_20 : (Jvm.Cond.instanceMethod ({ cls := "java/lang/IllegalStateException", name := "<init>", desc := "(Ljava/lang/String;)V" } : Jvm.MethodName)) ∈ TB := tbk_3 (List.mem_of_getElem? (i := 20) rfl) rfl
theorem wd_3_21 : (Jvm.Cond.code ({ cls := "java/lang/IllegalStateException", name := "<init>", desc := "(Ljava/lang/String;)V" } : Jvm.MethodName) prog_20_method_2_code (2 : Nat) (Option.none : Option Jvm.ClassFile.FieldType)) ∈ TB := tbk_3 (List.mem_of_getElem? (i := 21) rfl) rfl
theorem wd_3_22 : (Jvm.Cond.methodLink "java/lang/IllegalStateException" (7 : Nat) ({ cls := "java/lang/RuntimeException", name := "<init>", desc := "(Ljava/lang/String;)V" } : Jvm.MethodName)) ∈ TB := tbk_3 (List.mem_of_getElem? (i := 22) rfl) rfl
theorem wd_3_23 : (Jvm.Cond.lays "java/lang/IllegalStateException" "java/lang/Throwable" "depth" "I") ∈ TB := tbk_3 (List.mem_of_getElem? (i := 23) rfl) rfl
theorem wd_3_25 : (Jvm.Cond.methodLink "PolicyTreeLaw" (107 : Nat) ({ cls := "PolicyTreeLaw", name := "block", desc := "(LPolicyTree;IZ[J)I" } : Jvm.MethodName)) ∈ TB := tbk_3 (List.mem_of_getElem? (i := 25) rfl) rfl
theorem wd_3_26 : (Jvm.Cond.static ({ cls := "PolicyTreeLaw", name := "block", desc := "(LPolicyTree;IZ[J)I" } : Jvm.MethodName)) ∈ TB := tbk_3 (List.mem_of_getElem? (i := 26) rfl) rfl
theorem wd_3_27 : (Jvm.Cond.codeWith ({ cls := "PolicyTreeLaw", name := "block", desc := "(LPolicyTree;IZ[J)I" } : Jvm.MethodName) method_4_code (5 : Nat) (Option.some Jvm.ClassFile.FieldType.int) [((0 : Nat), (17 : Nat), (20 : Nat), (13 : Nat))]) ∈ TB := tbk_3 (List.mem_of_getElem? (i := 27) rfl) rfl
theorem wd_3_28 : (Jvm.Cond.methodLink "PolicyTreeLaw" (17 : Nat) ({ cls := "PolicyTree", name := "block", desc := "(IZ)Z" } : Jvm.MethodName)) ∈ TB := tbk_3 (List.mem_of_getElem? (i := 28) rfl) rfl
theorem wd_3_29 : (Jvm.Cond.instanceMethod ({ cls := "PolicyTree", name := "block", desc := "(IZ)Z" } : Jvm.MethodName)) ∈ TB := tbk_3 (List.mem_of_getElem? (i := 29) rfl) rfl
theorem wd_3_30 : (Jvm.Cond.selects "PolicyTree" ({ cls := "PolicyTree", name := "block", desc := "(IZ)Z" } : Jvm.MethodName) ({ cls := "PolicyTree", name := "block", desc := "(IZ)Z" } : Jvm.MethodName)) ∈ TB := tbk_3 (List.mem_of_getElem? (i := 30) rfl) rfl
theorem wd_3_31 : (Jvm.Cond.code ({ cls := "PolicyTree", name := "block", desc := "(IZ)Z" } : Jvm.MethodName) prog_1_method_3_code (5 : Nat) (Option.some Jvm.ClassFile.FieldType.boolean)) ∈ TB := tbk_3 (List.mem_of_getElem? (i := 31) rfl) rfl
theorem wd_3_32 : (Jvm.Cond.methodLink "PolicyTreeLaw" (111 : Nat) ({ cls := "PolicyTreeLaw", name := "move", desc := "(LPolicyTree;II[J)I" } : Jvm.MethodName)) ∈ TB := tbk_3 (List.mem_of_getElem? (i := 32) rfl) rfl
theorem wd_3_33 : (Jvm.Cond.static ({ cls := "PolicyTreeLaw", name := "move", desc := "(LPolicyTree;II[J)I" } : Jvm.MethodName)) ∈ TB := tbk_3 (List.mem_of_getElem? (i := 33) rfl) rfl
theorem wd_3_34 : (Jvm.Cond.codeWith ({ cls := "PolicyTreeLaw", name := "move", desc := "(LPolicyTree;II[J)I" } : Jvm.MethodName) method_5_code (5 : Nat) (Option.some Jvm.ClassFile.FieldType.int) [((0 : Nat), (10 : Nat), (13 : Nat), (13 : Nat))]) ∈ TB := tbk_3 (List.mem_of_getElem? (i := 34) rfl) rfl
theorem wd_3_35 : (Jvm.Cond.methodLink "PolicyTreeLaw" (21 : Nat) ({ cls := "PolicyTree", name := "move", desc := "(II)I" } : Jvm.MethodName)) ∈ TB := tbk_3 (List.mem_of_getElem? (i := 35) rfl) rfl
theorem wd_3_36 : (Jvm.Cond.instanceMethod ({ cls := "PolicyTree", name := "move", desc := "(II)I" } : Jvm.MethodName)) ∈ TB := tbk_3 (List.mem_of_getElem? (i := 36) rfl) rfl
theorem wd_3_37 : (Jvm.Cond.selects "PolicyTree" ({ cls := "PolicyTree", name := "move", desc := "(II)I" } : Jvm.MethodName) ({ cls := "PolicyTree", name := "move", desc := "(II)I" } : Jvm.MethodName)) ∈ TB := tbk_3 (List.mem_of_getElem? (i := 37) rfl) rfl
theorem wd_3_38 : (Jvm.Cond.code ({ cls := "PolicyTree", name := "move", desc := "(II)I" } : Jvm.MethodName) prog_1_method_4_code (7 : Nat) (Option.some Jvm.ClassFile.FieldType.int)) ∈ TB := tbk_3 (List.mem_of_getElem? (i := 38) rfl) rfl
theorem wd_3_39 : (Jvm.Cond.methodLink "PolicyTree" (107 : Nat) ({ cls := "PolicyTree$Node", name := "isWithin", desc := "(LPolicyTree$Node;)Z" } : Jvm.MethodName)) ∈ TB := tbk_3 (List.mem_of_getElem? (i := 39) rfl) rfl
theorem wd_3_40 : (Jvm.Cond.instanceMethod ({ cls := "PolicyTree$Node", name := "isWithin", desc := "(LPolicyTree$Node;)Z" } : Jvm.MethodName)) ∈ TB := tbk_3 (List.mem_of_getElem? (i := 40) rfl) rfl
theorem wd_3_41 : (Jvm.Cond.selects "PolicyTree$Node" ({ cls := "PolicyTree$Node", name := "isWithin", desc := "(LPolicyTree$Node;)Z" } : Jvm.MethodName) ({ cls := "PolicyTree$Node", name := "isWithin", desc := "(LPolicyTree$Node;)Z" } : Jvm.MethodName)) ∈ TB := tbk_3 (List.mem_of_getElem? (i := 41) rfl) rfl
theorem wd_3_42 : (Jvm.Cond.code ({ cls := "PolicyTree$Node", name := "isWithin", desc := "(LPolicyTree$Node;)Z" } : Jvm.MethodName) prog_8_method_2_code (3 : Nat) (Option.some Jvm.ClassFile.FieldType.boolean)) ∈ TB := tbk_3 (List.mem_of_getElem? (i := 42) rfl) rfl
theorem wd_3_43 : (Jvm.Cond.classLink "PolicyTree" (111 : Nat) "PolicyTree$Machine") ∈ TB := tbk_3 (List.mem_of_getElem? (i := 43) rfl) rfl
theorem wd_3_44 : (Jvm.Cond.methodLink "PolicyTree" (117 : Nat) ({ cls := "PolicyTree", name := "countMoved", desc := "(ILPolicyTree$Node;LPolicyTree$Node;)I" } : Jvm.MethodName)) ∈ TB := tbk_3 (List.mem_of_getElem? (i := 44) rfl) rfl
theorem wd_3_46 : (Jvm.Cond.instanceMethod ({ cls := "PolicyTree", name := "countMoved", desc := "(ILPolicyTree$Node;LPolicyTree$Node;)I" } : Jvm.MethodName)) ∈ TB := tbk_3 (List.mem_of_getElem? (i := 46) rfl) rfl
theorem wd_3_47 : (Jvm.Cond.code ({ cls := "PolicyTree", name := "countMoved", desc := "(ILPolicyTree$Node;LPolicyTree$Node;)I" } : Jvm.MethodName) prog_1_method_34_code (9 : Nat) (Option.some Jvm.ClassFile.FieldType.int)) ∈ TB := tbk_3 (List.mem_of_getElem? (i := 47) rfl) rfl
theorem wd_3_48 : (Jvm.Cond.methodLink "PolicyTree" (154 : Nat) ({ cls := "PolicyTree$Groups", name := "groupsOf", desc := "(I)I" } : Jvm.MethodName)) ∈ TB := tbk_3 (List.mem_of_getElem? (i := 48) rfl) rfl
theorem wd_3_49 : (Jvm.Cond.instanceMethod ({ cls := "PolicyTree$Groups", name := "groupsOf", desc := "(I)I" } : Jvm.MethodName)) ∈ TB := tbk_3 (List.mem_of_getElem? (i := 49) rfl) rfl
theorem wd_3_50 : (Jvm.Cond.selects "PolicyTree$Groups" ({ cls := "PolicyTree$Groups", name := "groupsOf", desc := "(I)I" } : Jvm.MethodName) ({ cls := "PolicyTree$Groups", name := "groupsOf", desc := "(I)I" } : Jvm.MethodName)) ∈ TB := tbk_3 (List.mem_of_getElem? (i := 50) rfl) rfl
theorem wd_3_51 : (Jvm.Cond.code ({ cls := "PolicyTree$Groups", name := "groupsOf", desc := "(I)I" } : Jvm.MethodName) prog_5_method_6_code (5 : Nat) (Option.some Jvm.ClassFile.FieldType.int)) ∈ TB := tbk_3 (List.mem_of_getElem? (i := 51) rfl) rfl
theorem wd_3_52 : (Jvm.Cond.methodLink "PolicyTree$Groups" (25 : Nat) ({ cls := "PolicyTree$Groups", name := "groupsAround", desc := "(I)I" } : Jvm.MethodName)) ∈ TB := tbk_3 (List.mem_of_getElem? (i := 52) rfl) rfl
theorem wd_3_54 : (Jvm.Cond.instanceMethod ({ cls := "PolicyTree$Groups", name := "groupsAround", desc := "(I)I" } : Jvm.MethodName)) ∈ TB := tbk_3 (List.mem_of_getElem? (i := 54) rfl) rfl
theorem wd_3_55 : (Jvm.Cond.code ({ cls := "PolicyTree$Groups", name := "groupsAround", desc := "(I)I" } : Jvm.MethodName) prog_5_method_7_code (4 : Nat) (Option.some Jvm.ClassFile.FieldType.int)) ∈ TB := tbk_3 (List.mem_of_getElem? (i := 55) rfl) rfl
theorem wd_3_56 : (Jvm.Cond.methodLink "PolicyTree" (267 : Nat) ({ cls := "PolicyTree$Row", name := "collect", desc := "(LPolicyTree$Machine;II)V" } : Jvm.MethodName)) ∈ TB := tbk_3 (List.mem_of_getElem? (i := 56) rfl) rfl
theorem wd_3_57 : (Jvm.Cond.instanceMethod ({ cls := "PolicyTree$Row", name := "collect", desc := "(LPolicyTree$Machine;II)V" } : Jvm.MethodName)) ∈ TB := tbk_3 (List.mem_of_getElem? (i := 57) rfl) rfl
theorem wd_3_58 : (Jvm.Cond.selects "PolicyTree$Row" ({ cls := "PolicyTree$Row", name := "collect", desc := "(LPolicyTree$Machine;II)V" } : Jvm.MethodName) ({ cls := "PolicyTree$Row", name := "collect", desc := "(LPolicyTree$Machine;II)V" } : Jvm.MethodName)) ∈ TB := tbk_3 (List.mem_of_getElem? (i := 58) rfl) rfl
theorem wd_3_59 : (Jvm.Cond.code ({ cls := "PolicyTree$Row", name := "collect", desc := "(LPolicyTree$Machine;II)V" } : Jvm.MethodName) prog_10_method_2_code (7 : Nat) (Option.none : Option Jvm.ClassFile.FieldType)) ∈ TB := tbk_3 (List.mem_of_getElem? (i := 59) rfl) rfl
theorem wd_3_60 : (Jvm.Cond.methodLink "PolicyTree$Row" (32 : Nat) ({ cls := "java/util/ArrayList", name := "clear", desc := "()V" } : Jvm.MethodName)) ∈ TB := tbk_3 (List.mem_of_getElem? (i := 60) rfl) rfl
theorem wd_3_61 : (Jvm.Cond.instanceMethod ({ cls := "java/util/ArrayList", name := "clear", desc := "()V" } : Jvm.MethodName)) ∈ TB := tbk_3 (List.mem_of_getElem? (i := 61) rfl) rfl
theorem wd_3_62 : (Jvm.Cond.selects "java/util/ArrayList" ({ cls := "java/util/ArrayList", name := "clear", desc := "()V" } : Jvm.MethodName) ({ cls := "java/util/ArrayList", name := "clear", desc := "()V" } : Jvm.MethodName)) ∈ TB := tbk_3 (List.mem_of_getElem? (i := 62) rfl) rfl
theorem wd_3_63 : (Jvm.Cond.code ({ cls := "java/util/ArrayList", name := "clear", desc := "()V" } : Jvm.MethodName) prog_34_method_40_code (4 : Nat) (Option.none : Option Jvm.ClassFile.FieldType)) ∈ TB := tbk_3 (List.mem_of_getElem? (i := 63) rfl) rfl
theorem wd_3_64 : (Jvm.Cond.methodLink "PolicyTree$Row" (41 : Nat) ({ cls := "java/util/ArrayList", name := "add", desc := "(Ljava/lang/Object;)Z" } : Jvm.MethodName)) ∈ TB := tbk_3 (List.mem_of_getElem? (i := 64) rfl) rfl
theorem wd_3_65 : (Jvm.Cond.methodLink "PolicyTree$Row" (54 : Nat) ({ cls := "PolicyTree$Standing", name := "enter", desc := "(LPolicyTree$Machine;IJ)V" } : Jvm.MethodName)) ∈ TB := tbk_3 (List.mem_of_getElem? (i := 65) rfl) rfl
theorem wd_3_66 : (Jvm.Cond.instanceMethod ({ cls := "PolicyTree$Standing", name := "enter", desc := "(LPolicyTree$Machine;IJ)V" } : Jvm.MethodName)) ∈ TB := tbk_3 (List.mem_of_getElem? (i := 66) rfl) rfl
theorem wd_3_67 : (Jvm.Cond.selects "PolicyTree$Standing" ({ cls := "PolicyTree$Standing", name := "enter", desc := "(LPolicyTree$Machine;IJ)V" } : Jvm.MethodName) ({ cls := "PolicyTree$Standing", name := "enter", desc := "(LPolicyTree$Machine;IJ)V" } : Jvm.MethodName)) ∈ TB := tbk_3 (List.mem_of_getElem? (i := 67) rfl) rfl
theorem wd_3_68 : (Jvm.Cond.code ({ cls := "PolicyTree$Standing", name := "enter", desc := "(LPolicyTree$Machine;IJ)V" } : Jvm.MethodName) prog_11_method_2_code (5 : Nat) (Option.none : Option Jvm.ClassFile.FieldType)) ∈ TB := tbk_3 (List.mem_of_getElem? (i := 68) rfl) rfl
theorem wd_3_69 : (Jvm.Cond.methodLink "PolicyTree$Standing" (18 : Nat) ({ cls := "PolicyTree$Machine", name := "knownFacts", desc := "()I" } : Jvm.MethodName)) ∈ TB := tbk_3 (List.mem_of_getElem? (i := 69) rfl) rfl
theorem wd_3_70 : (Jvm.Cond.instanceMethod ({ cls := "PolicyTree$Machine", name := "knownFacts", desc := "()I" } : Jvm.MethodName)) ∈ TB := tbk_3 (List.mem_of_getElem? (i := 70) rfl) rfl
theorem wd_3_71 : (Jvm.Cond.selects "PolicyTree$Machine" ({ cls := "PolicyTree$Machine", name := "knownFacts", desc := "()I" } : Jvm.MethodName) ({ cls := "PolicyTree$Machine", name := "knownFacts", desc := "()I" } : Jvm.MethodName)) ∈ TB := tbk_3 (List.mem_of_getElem? (i := 71) rfl) rfl
theorem wd_3_72 : (Jvm.Cond.code ({ cls := "PolicyTree$Machine", name := "knownFacts", desc := "()I" } : Jvm.MethodName) prog_7_method_2_code (1 : Nat) (Option.some Jvm.ClassFile.FieldType.int)) ∈ TB := tbk_3 (List.mem_of_getElem? (i := 72) rfl) rfl
theorem wd_3_73 : (Jvm.Cond.methodLink "PolicyTree$Standing" (28 : Nat) ({ cls := "PolicyTree$Machine", name := "yesFacts", desc := "()I" } : Jvm.MethodName)) ∈ TB := tbk_3 (List.mem_of_getElem? (i := 73) rfl) rfl
theorem wd_3_74 : (Jvm.Cond.instanceMethod ({ cls := "PolicyTree$Machine", name := "yesFacts", desc := "()I" } : Jvm.MethodName)) ∈ TB := tbk_3 (List.mem_of_getElem? (i := 74) rfl) rfl
theorem wd_3_75 : (Jvm.Cond.selects "PolicyTree$Machine" ({ cls := "PolicyTree$Machine", name := "yesFacts", desc := "()I" } : Jvm.MethodName) ({ cls := "PolicyTree$Machine", name := "yesFacts", desc := "()I" } : Jvm.MethodName)) ∈ TB := tbk_3 (List.mem_of_getElem? (i := 75) rfl) rfl
theorem wd_3_76 : (Jvm.Cond.code ({ cls := "PolicyTree$Machine", name := "yesFacts", desc := "()I" } : Jvm.MethodName) prog_7_method_3_code (1 : Nat) (Option.some Jvm.ClassFile.FieldType.int)) ∈ TB := tbk_3 (List.mem_of_getElem? (i := 76) rfl) rfl
theorem wd_3_77 : (Jvm.Cond.methodLink "PolicyTree$Row" (58 : Nat) ({ cls := "PolicyTree$Row", name := "topOfOpen", desc := "()I" } : Jvm.MethodName)) ∈ TB := tbk_3 (List.mem_of_getElem? (i := 77) rfl) rfl
theorem wd_3_79 : (Jvm.Cond.instanceMethod ({ cls := "PolicyTree$Row", name := "topOfOpen", desc := "()I" } : Jvm.MethodName)) ∈ TB := tbk_3 (List.mem_of_getElem? (i := 79) rfl) rfl
theorem wd_3_80 : (Jvm.Cond.code ({ cls := "PolicyTree$Row", name := "topOfOpen", desc := "()I" } : Jvm.MethodName) prog_10_method_8_code (2 : Nat) (Option.some Jvm.ClassFile.FieldType.int)) ∈ TB := tbk_3 (List.mem_of_getElem? (i := 80) rfl) rfl
theorem wd_3_81 : (Jvm.Cond.methodLink "PolicyTree$Row" (66 : Nat) ({ cls := "java/util/ArrayList", name := "size", desc := "()I" } : Jvm.MethodName)) ∈ TB := tbk_3 (List.mem_of_getElem? (i := 81) rfl) rfl
theorem wd_3_82 : (Jvm.Cond.methodLink "PolicyTree$Row" (73 : Nat) ({ cls := "java/util/ArrayList", name := "get", desc := "(I)Ljava/lang/Object;" } : Jvm.MethodName)) ∈ TB := tbk_3 (List.mem_of_getElem? (i := 82) rfl) rfl
theorem wd_3_83 : (Jvm.Cond.classLink "PolicyTree$Row" (46 : Nat) "PolicyTree$Node") ∈ TB := tbk_3 (List.mem_of_getElem? (i := 83) rfl) rfl
theorem wd_3_84 : (Jvm.Cond.methodLink "PolicyTree$Row" (62 : Nat) ({ cls := "PolicyTree$Row", name := "addLinks", desc := "(IZI)V" } : Jvm.MethodName)) ∈ TB := tbk_3 (List.mem_of_getElem? (i := 84) rfl) rfl
theorem wd_3_86 : (Jvm.Cond.instanceMethod ({ cls := "PolicyTree$Row", name := "addLinks", desc := "(IZI)V" } : Jvm.MethodName)) ∈ TB := tbk_3 (List.mem_of_getElem? (i := 86) rfl) rfl
theorem wd_3_87 : (Jvm.Cond.code ({ cls := "PolicyTree$Row", name := "addLinks", desc := "(IZI)V" } : Jvm.MethodName) prog_10_method_9_code (7 : Nat) (Option.none : Option Jvm.ClassFile.FieldType)) ∈ TB := tbk_3 (List.mem_of_getElem? (i := 87) rfl) rfl
theorem wd_3_88 : (Jvm.Cond.methodLink "PolicyTree$Row" (99 : Nat) ({ cls := "PolicyTree$Node", name := "size", desc := "()I" } : Jvm.MethodName)) ∈ TB := tbk_3 (List.mem_of_getElem? (i := 88) rfl) rfl
theorem wd_3_89 : (Jvm.Cond.instanceMethod ({ cls := "PolicyTree$Node", name := "size", desc := "()I" } : Jvm.MethodName)) ∈ TB := tbk_3 (List.mem_of_getElem? (i := 89) rfl) rfl
theorem wd_3_90 : (Jvm.Cond.selects "PolicyTree$Node" ({ cls := "PolicyTree$Node", name := "size", desc := "()I" } : Jvm.MethodName) ({ cls := "PolicyTree$Node", name := "size", desc := "()I" } : Jvm.MethodName)) ∈ TB := tbk_3 (List.mem_of_getElem? (i := 90) rfl) rfl
theorem wd_3_91 : (Jvm.Cond.code ({ cls := "PolicyTree$Node", name := "size", desc := "()I" } : Jvm.MethodName) prog_8_method_3_code (1 : Nat) (Option.some Jvm.ClassFile.FieldType.int)) ∈ TB := tbk_3 (List.mem_of_getElem? (i := 91) rfl) rfl
theorem wd_3_92 : (Jvm.Cond.methodLink "PolicyTree$Node" (24 : Nat) ({ cls := "java/util/ArrayList", name := "size", desc := "()I" } : Jvm.MethodName)) ∈ TB := tbk_3 (List.mem_of_getElem? (i := 92) rfl) rfl
theorem wd_3_93 : (Jvm.Cond.methodLink "PolicyTree$Row" (100 : Nat) ({ cls := "PolicyTree$Node", name := "linkAt", desc := "(I)LPolicyTree$Link;" } : Jvm.MethodName)) ∈ TB := tbk_3 (List.mem_of_getElem? (i := 93) rfl) rfl
theorem wd_3_94 : (Jvm.Cond.instanceMethod ({ cls := "PolicyTree$Node", name := "linkAt", desc := "(I)LPolicyTree$Link;" } : Jvm.MethodName)) ∈ TB := tbk_3 (List.mem_of_getElem? (i := 94) rfl) rfl
theorem wd_3_95 : (Jvm.Cond.selects "PolicyTree$Node" ({ cls := "PolicyTree$Node", name := "linkAt", desc := "(I)LPolicyTree$Link;" } : Jvm.MethodName) ({ cls := "PolicyTree$Node", name := "linkAt", desc := "(I)LPolicyTree$Link;" } : Jvm.MethodName)) ∈ TB := tbk_3 (List.mem_of_getElem? (i := 95) rfl) rfl
theorem wd_3_96 : (Jvm.Cond.code ({ cls := "PolicyTree$Node", name := "linkAt", desc := "(I)LPolicyTree$Link;" } : Jvm.MethodName) prog_8_method_4_code (2 : Nat) (Option.some (Jvm.ClassFile.FieldType.object "PolicyTree$Link"))) ∈ TB := tbk_3 (List.mem_of_getElem? (i := 96) rfl) rfl
theorem wd_3_97 : (Jvm.Cond.methodLink "PolicyTree$Node" (28 : Nat) ({ cls := "java/util/ArrayList", name := "get", desc := "(I)Ljava/lang/Object;" } : Jvm.MethodName)) ∈ TB := tbk_3 (List.mem_of_getElem? (i := 97) rfl) rfl
theorem wd_3_98 : (Jvm.Cond.classLink "PolicyTree$Node" (32 : Nat) "PolicyTree$Link") ∈ TB := tbk_3 (List.mem_of_getElem? (i := 98) rfl) rfl
theorem wd_3_99 : (Jvm.Cond.methodLink "PolicyTree$Row" (111 : Nat) ({ cls := "PolicyTree$Bundle", name := "toldSettings", desc := "()I" } : Jvm.MethodName)) ∈ TB := tbk_3 (List.mem_of_getElem? (i := 99) rfl) rfl
theorem wd_3_100 : (Jvm.Cond.instanceMethod ({ cls := "PolicyTree$Bundle", name := "toldSettings", desc := "()I" } : Jvm.MethodName)) ∈ TB := tbk_3 (List.mem_of_getElem? (i := 100) rfl) rfl
theorem wd_3_101 : (Jvm.Cond.selects "PolicyTree$Bundle" ({ cls := "PolicyTree$Bundle", name := "toldSettings", desc := "()I" } : Jvm.MethodName) ({ cls := "PolicyTree$Bundle", name := "toldSettings", desc := "()I" } : Jvm.MethodName)) ∈ TB := tbk_3 (List.mem_of_getElem? (i := 101) rfl) rfl
theorem wd_3_102 : (Jvm.Cond.code ({ cls := "PolicyTree$Bundle", name := "toldSettings", desc := "()I" } : Jvm.MethodName) prog_2_method_2_code (1 : Nat) (Option.some Jvm.ClassFile.FieldType.int)) ∈ TB := tbk_3 (List.mem_of_getElem? (i := 102) rfl) rfl
theorem wd_3_103 : (Jvm.Cond.methodLink "PolicyTree" (232 : Nat) ({ cls := "PolicyTree$Row", name := "weigh", desc := "(I)V" } : Jvm.MethodName)) ∈ TB := tbk_3 (List.mem_of_getElem? (i := 103) rfl) rfl
theorem wd_3_104 : (Jvm.Cond.instanceMethod ({ cls := "PolicyTree$Row", name := "weigh", desc := "(I)V" } : Jvm.MethodName)) ∈ TB := tbk_3 (List.mem_of_getElem? (i := 104) rfl) rfl
theorem wd_3_105 : (Jvm.Cond.selects "PolicyTree$Row" ({ cls := "PolicyTree$Row", name := "weigh", desc := "(I)V" } : Jvm.MethodName) ({ cls := "PolicyTree$Row", name := "weigh", desc := "(I)V" } : Jvm.MethodName)) ∈ TB := tbk_3 (List.mem_of_getElem? (i := 105) rfl) rfl
theorem wd_3_106 : (Jvm.Cond.code ({ cls := "PolicyTree$Row", name := "weigh", desc := "(I)V" } : Jvm.MethodName) prog_10_method_3_code (3 : Nat) (Option.none : Option Jvm.ClassFile.FieldType)) ∈ TB := tbk_3 (List.mem_of_getElem? (i := 106) rfl) rfl
theorem wd_3_107 : (Jvm.Cond.methodLink "PolicyTree$Row" (69 : Nat) ({ cls := "PolicyTree$Standing", name := "guess", desc := "(I)V" } : Jvm.MethodName)) ∈ TB := tbk_3 (List.mem_of_getElem? (i := 107) rfl) rfl
theorem wd_3_108 : (Jvm.Cond.instanceMethod ({ cls := "PolicyTree$Standing", name := "guess", desc := "(I)V" } : Jvm.MethodName)) ∈ TB := tbk_3 (List.mem_of_getElem? (i := 108) rfl) rfl
theorem wd_3_109 : (Jvm.Cond.selects "PolicyTree$Standing" ({ cls := "PolicyTree$Standing", name := "guess", desc := "(I)V" } : Jvm.MethodName) ({ cls := "PolicyTree$Standing", name := "guess", desc := "(I)V" } : Jvm.MethodName)) ∈ TB := tbk_3 (List.mem_of_getElem? (i := 109) rfl) rfl
theorem wd_3_110 : (Jvm.Cond.code ({ cls := "PolicyTree$Standing", name := "guess", desc := "(I)V" } : Jvm.MethodName) prog_11_method_3_code (3 : Nat) (Option.none : Option Jvm.ClassFile.FieldType)) ∈ TB := tbk_3 (List.mem_of_getElem? (i := 110) rfl) rfl
theorem wd_3_111 : (Jvm.Cond.methodLink "PolicyTree$Standing" (41 : Nat) ({ cls := "PolicyTree$Standing", name := "spread", desc := "(Z)J" } : Jvm.MethodName)) ∈ TB := tbk_3 (List.mem_of_getElem? (i := 111) rfl) rfl
theorem wd_3_112 : (Jvm.Cond.static ({ cls := "PolicyTree$Standing", name := "spread", desc := "(Z)J" } : Jvm.MethodName)) ∈ TB := tbk_3 (List.mem_of_getElem? (i := 112) rfl) rfl
theorem wd_3_113 : (Jvm.Cond.code ({ cls := "PolicyTree$Standing", name := "spread", desc := "(Z)J" } : Jvm.MethodName) prog_11_method_6_code (1 : Nat) (Option.some Jvm.ClassFile.FieldType.long)) ∈ TB := tbk_3 (List.mem_of_getElem? (i := 113) rfl) rfl
theorem wd_3_114 : (Jvm.Cond.constantLong "PolicyTree$Standing" (50 : Nat) (-1 : Int64)) ∈ TB := tbk_3 (List.mem_of_getElem? (i := 114) rfl) rfl
theorem wd_3_115 : (Jvm.Cond.fieldLink "PolicyTree$Standing" (45 : Nat) "PolicyTree$Standing" "GUESSES" "[J") ∈ TB := tbk_3 (List.mem_of_getElem? (i := 115) rfl) rfl
theorem wd_3_117 : (Jvm.Cond.classLink "PolicyTree$Row" (77 : Nat) "PolicyTree$Link") ∈ TB := tbk_3 (List.mem_of_getElem? (i := 117) rfl) rfl
theorem wd_3_118 : (Jvm.Cond.methodLink "PolicyTree$Row" (83 : Nat) ({ cls := "PolicyTree$Filter", name := "weigh", desc := "(LPolicyTree$Standing;)J" } : Jvm.MethodName)) ∈ TB := tbk_3 (List.mem_of_getElem? (i := 118) rfl) rfl
theorem wd_3_119 : (Jvm.Cond.instanceMethod ({ cls := "PolicyTree$Filter", name := "weigh", desc := "(LPolicyTree$Standing;)J" } : Jvm.MethodName)) ∈ TB := tbk_3 (List.mem_of_getElem? (i := 119) rfl) rfl
theorem wd_3_120 : (Jvm.Cond.selects "PolicyTree$Filter" ({ cls := "PolicyTree$Filter", name := "weigh", desc := "(LPolicyTree$Standing;)J" } : Jvm.MethodName) ({ cls := "PolicyTree$Filter", name := "weigh", desc := "(LPolicyTree$Standing;)J" } : Jvm.MethodName)) ∈ TB := tbk_3 (List.mem_of_getElem? (i := 120) rfl) rfl
theorem wd_3_121 : (Jvm.Cond.code ({ cls := "PolicyTree$Filter", name := "weigh", desc := "(LPolicyTree$Standing;)J" } : Jvm.MethodName) prog_3_method_3_code (8 : Nat) (Option.some Jvm.ClassFile.FieldType.long)) ∈ TB := tbk_3 (List.mem_of_getElem? (i := 121) rfl) rfl
theorem wd_3_122 : (Jvm.Cond.methodLink "PolicyTree$Filter" (19 : Nat) ({ cls := "PolicyTree$Standing", name := "weighAtom", desc := "(II)J" } : Jvm.MethodName)) ∈ TB := tbk_3 (List.mem_of_getElem? (i := 122) rfl) rfl
theorem wd_3_123 : (Jvm.Cond.instanceMethod ({ cls := "PolicyTree$Standing", name := "weighAtom", desc := "(II)J" } : Jvm.MethodName)) ∈ TB := tbk_3 (List.mem_of_getElem? (i := 123) rfl) rfl
theorem wd_3_124 : (Jvm.Cond.selects "PolicyTree$Standing" ({ cls := "PolicyTree$Standing", name := "weighAtom", desc := "(II)J" } : Jvm.MethodName) ({ cls := "PolicyTree$Standing", name := "weighAtom", desc := "(II)J" } : Jvm.MethodName)) ∈ TB := tbk_3 (List.mem_of_getElem? (i := 124) rfl) rfl
theorem wd_3_125 : (Jvm.Cond.code ({ cls := "PolicyTree$Standing", name := "weighAtom", desc := "(II)J" } : Jvm.MethodName) prog_11_method_5_code (3 : Nat) (Option.some Jvm.ClassFile.FieldType.long)) ∈ TB := tbk_3 (List.mem_of_getElem? (i := 125) rfl) rfl
theorem wd_3_126 : (Jvm.Cond.constantLong "PolicyTree$Filter" (23 : Nat) (-1 : Int64)) ∈ TB := tbk_3 (List.mem_of_getElem? (i := 126) rfl) rfl
theorem wd_3_127 : (Jvm.Cond.methodLink "PolicyTree" (271 : Nat) ({ cls := "PolicyTree$Outcome", name := "read", desc := "(LPolicyTree$Row;IIILPolicyTree$Link;)V" } : Jvm.MethodName)) ∈ TB := tbk_3 (List.mem_of_getElem? (i := 127) rfl) rfl
theorem wd_3_128 : (Jvm.Cond.instanceMethod ({ cls := "PolicyTree$Outcome", name := "read", desc := "(LPolicyTree$Row;IIILPolicyTree$Link;)V" } : Jvm.MethodName)) ∈ TB := tbk_3 (List.mem_of_getElem? (i := 128) rfl) rfl
theorem wd_3_129 : (Jvm.Cond.selects "PolicyTree$Outcome" ({ cls := "PolicyTree$Outcome", name := "read", desc := "(LPolicyTree$Row;IIILPolicyTree$Link;)V" } : Jvm.MethodName) ({ cls := "PolicyTree$Outcome", name := "read", desc := "(LPolicyTree$Row;IIILPolicyTree$Link;)V" } : Jvm.MethodName)) ∈ TB := tbk_3 (List.mem_of_getElem? (i := 129) rfl) rfl
theorem wd_3_130 : (Jvm.Cond.code ({ cls := "PolicyTree$Outcome", name := "read", desc := "(LPolicyTree$Row;IIILPolicyTree$Link;)V" } : Jvm.MethodName) prog_9_method_2_code (8 : Nat) (Option.none : Option Jvm.ClassFile.FieldType)) ∈ TB := tbk_3 (List.mem_of_getElem? (i := 130) rfl) rfl
theorem wd_3_131 : (Jvm.Cond.methodLink "PolicyTree$Outcome" (23 : Nat) ({ cls := "PolicyTree$Row", name := "size", desc := "()I" } : Jvm.MethodName)) ∈ TB := tbk_3 (List.mem_of_getElem? (i := 131) rfl) rfl
theorem wd_3_132 : (Jvm.Cond.instanceMethod ({ cls := "PolicyTree$Row", name := "size", desc := "()I" } : Jvm.MethodName)) ∈ TB := tbk_3 (List.mem_of_getElem? (i := 132) rfl) rfl
theorem wd_3_133 : (Jvm.Cond.selects "PolicyTree$Row" ({ cls := "PolicyTree$Row", name := "size", desc := "()I" } : Jvm.MethodName) ({ cls := "PolicyTree$Row", name := "size", desc := "()I" } : Jvm.MethodName)) ∈ TB := tbk_3 (List.mem_of_getElem? (i := 133) rfl) rfl
theorem wd_3_134 : (Jvm.Cond.code ({ cls := "PolicyTree$Row", name := "size", desc := "()I" } : Jvm.MethodName) prog_10_method_4_code (1 : Nat) (Option.some Jvm.ClassFile.FieldType.int)) ∈ TB := tbk_3 (List.mem_of_getElem? (i := 134) rfl) rfl
theorem wd_3_135 : (Jvm.Cond.methodLink "PolicyTree$Outcome" (28 : Nat) ({ cls := "PolicyTree$Row", name := "linkAt", desc := "(I)LPolicyTree$Link;" } : Jvm.MethodName)) ∈ TB := tbk_3 (List.mem_of_getElem? (i := 135) rfl) rfl
theorem wd_3_136 : (Jvm.Cond.instanceMethod ({ cls := "PolicyTree$Row", name := "linkAt", desc := "(I)LPolicyTree$Link;" } : Jvm.MethodName)) ∈ TB := tbk_3 (List.mem_of_getElem? (i := 136) rfl) rfl
theorem wd_3_137 : (Jvm.Cond.selects "PolicyTree$Row" ({ cls := "PolicyTree$Row", name := "linkAt", desc := "(I)LPolicyTree$Link;" } : Jvm.MethodName) ({ cls := "PolicyTree$Row", name := "linkAt", desc := "(I)LPolicyTree$Link;" } : Jvm.MethodName)) ∈ TB := tbk_3 (List.mem_of_getElem? (i := 137) rfl) rfl
theorem wd_3_138 : (Jvm.Cond.code ({ cls := "PolicyTree$Row", name := "linkAt", desc := "(I)LPolicyTree$Link;" } : Jvm.MethodName) prog_10_method_5_code (2 : Nat) (Option.some (Jvm.ClassFile.FieldType.object "PolicyTree$Link"))) ∈ TB := tbk_3 (List.mem_of_getElem? (i := 138) rfl) rfl
theorem wd_3_139 : (Jvm.Cond.methodLink "PolicyTree$Outcome" (32 : Nat) ({ cls := "PolicyTree$Row", name := "holds", desc := "(II)Z" } : Jvm.MethodName)) ∈ TB := tbk_3 (List.mem_of_getElem? (i := 139) rfl) rfl
theorem wd_3_140 : (Jvm.Cond.instanceMethod ({ cls := "PolicyTree$Row", name := "holds", desc := "(II)Z" } : Jvm.MethodName)) ∈ TB := tbk_3 (List.mem_of_getElem? (i := 140) rfl) rfl
theorem wd_3_141 : (Jvm.Cond.selects "PolicyTree$Row" ({ cls := "PolicyTree$Row", name := "holds", desc := "(II)Z" } : Jvm.MethodName) ({ cls := "PolicyTree$Row", name := "holds", desc := "(II)Z" } : Jvm.MethodName)) ∈ TB := tbk_3 (List.mem_of_getElem? (i := 141) rfl) rfl
theorem wd_3_142 : (Jvm.Cond.code ({ cls := "PolicyTree$Row", name := "holds", desc := "(II)Z" } : Jvm.MethodName) prog_10_method_6_code (3 : Nat) (Option.some Jvm.ClassFile.FieldType.boolean)) ∈ TB := tbk_3 (List.mem_of_getElem? (i := 142) rfl) rfl
theorem wd_3_143 : (Jvm.Cond.methodLink "PolicyTree$Outcome" (42 : Nat) ({ cls := "PolicyTree$Bundle", name := "tells", desc := "(I)Z" } : Jvm.MethodName)) ∈ TB := tbk_3 (List.mem_of_getElem? (i := 143) rfl) rfl
theorem wd_3_144 : (Jvm.Cond.instanceMethod ({ cls := "PolicyTree$Bundle", name := "tells", desc := "(I)Z" } : Jvm.MethodName)) ∈ TB := tbk_3 (List.mem_of_getElem? (i := 144) rfl) rfl
theorem wd_3_145 : (Jvm.Cond.selects "PolicyTree$Bundle" ({ cls := "PolicyTree$Bundle", name := "tells", desc := "(I)Z" } : Jvm.MethodName) ({ cls := "PolicyTree$Bundle", name := "tells", desc := "(I)Z" } : Jvm.MethodName)) ∈ TB := tbk_3 (List.mem_of_getElem? (i := 145) rfl) rfl
theorem wd_3_146 : (Jvm.Cond.code ({ cls := "PolicyTree$Bundle", name := "tells", desc := "(I)Z" } : Jvm.MethodName) prog_2_method_3_code (2 : Nat) (Option.some Jvm.ClassFile.FieldType.boolean)) ∈ TB := tbk_3 (List.mem_of_getElem? (i := 146) rfl) rfl
theorem wd_3_147 : (Jvm.Cond.methodLink "PolicyTree$Outcome" (48 : Nat) ({ cls := "PolicyTree$Bundle", name := "valueOf", desc := "(I)I" } : Jvm.MethodName)) ∈ TB := tbk_3 (List.mem_of_getElem? (i := 147) rfl) rfl
theorem wd_3_148 : (Jvm.Cond.methodLink "PolicyTree$Outcome" (52 : Nat) ({ cls := "PolicyTree$Outcome", name := "take", desc := "(LPolicyTree$Link;II)V" } : Jvm.MethodName)) ∈ TB := tbk_3 (List.mem_of_getElem? (i := 148) rfl) rfl
theorem wd_3_150 : (Jvm.Cond.instanceMethod ({ cls := "PolicyTree$Outcome", name := "take", desc := "(LPolicyTree$Link;II)V" } : Jvm.MethodName)) ∈ TB := tbk_3 (List.mem_of_getElem? (i := 150) rfl) rfl
theorem wd_3_151 : (Jvm.Cond.code ({ cls := "PolicyTree$Outcome", name := "take", desc := "(LPolicyTree$Link;II)V" } : Jvm.MethodName) prog_9_method_7_code (4 : Nat) (Option.none : Option Jvm.ClassFile.FieldType)) ∈ TB := tbk_3 (List.mem_of_getElem? (i := 151) rfl) rfl
theorem wd_3_152 : (Jvm.Cond.methodLink "PolicyTree$Outcome" (59 : Nat) ({ cls := "PolicyTree$Outcome", name := "has", desc := "(I)Z" } : Jvm.MethodName)) ∈ TB := tbk_3 (List.mem_of_getElem? (i := 152) rfl) rfl
theorem wd_3_154 : (Jvm.Cond.instanceMethod ({ cls := "PolicyTree$Outcome", name := "has", desc := "(I)Z" } : Jvm.MethodName)) ∈ TB := tbk_3 (List.mem_of_getElem? (i := 154) rfl) rfl
theorem wd_3_155 : (Jvm.Cond.code ({ cls := "PolicyTree$Outcome", name := "has", desc := "(I)Z" } : Jvm.MethodName) prog_9_method_8_code (3 : Nat) (Option.some Jvm.ClassFile.FieldType.boolean)) ∈ TB := tbk_3 (List.mem_of_getElem? (i := 155) rfl) rfl
theorem wd_3_156 : (Jvm.Cond.methodLink "PolicyTree$Outcome" (56 : Nat) ({ cls := "PolicyTree$Outcome", name := "valueAt", desc := "(I)I" } : Jvm.MethodName)) ∈ TB := tbk_3 (List.mem_of_getElem? (i := 156) rfl) rfl
theorem wd_3_157 : (Jvm.Cond.instanceMethod ({ cls := "PolicyTree$Outcome", name := "valueAt", desc := "(I)I" } : Jvm.MethodName)) ∈ TB := tbk_3 (List.mem_of_getElem? (i := 157) rfl) rfl
theorem wd_3_158 : (Jvm.Cond.selects "PolicyTree$Outcome" ({ cls := "PolicyTree$Outcome", name := "valueAt", desc := "(I)I" } : Jvm.MethodName) ({ cls := "PolicyTree$Outcome", name := "valueAt", desc := "(I)I" } : Jvm.MethodName)) ∈ TB := tbk_3 (List.mem_of_getElem? (i := 158) rfl) rfl
theorem wd_3_159 : (Jvm.Cond.code ({ cls := "PolicyTree$Outcome", name := "valueAt", desc := "(I)I" } : Jvm.MethodName) prog_9_method_5_code (2 : Nat) (Option.some Jvm.ClassFile.FieldType.int)) ∈ TB := tbk_3 (List.mem_of_getElem? (i := 159) rfl) rfl
theorem wd_3_160 : (Jvm.Cond.methodLink "PolicyTree" (274 : Nat) ({ cls := "PolicyTree$Outcome", name := "isSame", desc := "(LPolicyTree$Outcome;)Z" } : Jvm.MethodName)) ∈ TB := tbk_3 (List.mem_of_getElem? (i := 160) rfl) rfl
theorem wd_3_161 : (Jvm.Cond.instanceMethod ({ cls := "PolicyTree$Outcome", name := "isSame", desc := "(LPolicyTree$Outcome;)Z" } : Jvm.MethodName)) ∈ TB := tbk_3 (List.mem_of_getElem? (i := 161) rfl) rfl
theorem wd_3_162 : (Jvm.Cond.selects "PolicyTree$Outcome" ({ cls := "PolicyTree$Outcome", name := "isSame", desc := "(LPolicyTree$Outcome;)Z" } : Jvm.MethodName) ({ cls := "PolicyTree$Outcome", name := "isSame", desc := "(LPolicyTree$Outcome;)Z" } : Jvm.MethodName)) ∈ TB := tbk_3 (List.mem_of_getElem? (i := 162) rfl) rfl
theorem wd_3_163 : (Jvm.Cond.code ({ cls := "PolicyTree$Outcome", name := "isSame", desc := "(LPolicyTree$Outcome;)Z" } : Jvm.MethodName) prog_9_method_6_code (3 : Nat) (Option.some Jvm.ClassFile.FieldType.boolean)) ∈ TB := tbk_3 (List.mem_of_getElem? (i := 163) rfl) rfl
theorem wd_3_164 : (Jvm.Cond.methodLink "PolicyTreeLaw" (115 : Nat) ({ cls := "PolicyTreeLaw", name := "machine", desc := "(LPolicyTree;I[J)I" } : Jvm.MethodName)) ∈ TB := tbk_3 (List.mem_of_getElem? (i := 164) rfl) rfl
theorem wd_3_165 : (Jvm.Cond.static ({ cls := "PolicyTreeLaw", name := "machine", desc := "(LPolicyTree;I[J)I" } : Jvm.MethodName)) ∈ TB := tbk_3 (List.mem_of_getElem? (i := 165) rfl) rfl
theorem wd_3_166 : (Jvm.Cond.codeWith ({ cls := "PolicyTreeLaw", name := "machine", desc := "(LPolicyTree;I[J)I" } : Jvm.MethodName) method_6_code (4 : Nat) (Option.some Jvm.ClassFile.FieldType.int) [((0 : Nat), (9 : Nat), (12 : Nat), (13 : Nat)), ((0 : Nat), (9 : Nat), (15 : Nat), (15 : Nat))]) ∈ TB := tbk_3 (List.mem_of_getElem? (i := 166) rfl) rfl
theorem wd_3_167 : (Jvm.Cond.methodLink "PolicyTreeLaw" (25 : Nat) ({ cls := "PolicyTree", name := "machine", desc := "(I)I" } : Jvm.MethodName)) ∈ TB := tbk_3 (List.mem_of_getElem? (i := 167) rfl) rfl
theorem wd_3_168 : (Jvm.Cond.instanceMethod ({ cls := "PolicyTree", name := "machine", desc := "(I)I" } : Jvm.MethodName)) ∈ TB := tbk_3 (List.mem_of_getElem? (i := 168) rfl) rfl
theorem wd_3_169 : (Jvm.Cond.selects "PolicyTree" ({ cls := "PolicyTree", name := "machine", desc := "(I)I" } : Jvm.MethodName) ({ cls := "PolicyTree", name := "machine", desc := "(I)I" } : Jvm.MethodName)) ∈ TB := tbk_3 (List.mem_of_getElem? (i := 169) rfl) rfl
theorem wd_3_170 : (Jvm.Cond.code ({ cls := "PolicyTree", name := "machine", desc := "(I)I" } : Jvm.MethodName) prog_1_method_5_code (2 : Nat) (Option.some Jvm.ClassFile.FieldType.int)) ∈ TB := tbk_3 (List.mem_of_getElem? (i := 170) rfl) rfl
theorem wd_3_171 : (Jvm.Cond.instantiable "PolicyTree$Machine" (3 : Nat)) ∈ TB := tbk_3 (List.mem_of_getElem? (i := 171) rfl) rfl
theorem wd_3_172 : (Jvm.Cond.methodLink "PolicyTree" (124 : Nat) ({ cls := "PolicyTree$Machine", name := "<init>", desc := "(LPolicyTree$Node;)V" } : Jvm.MethodName)) ∈ TB := tbk_3 (List.mem_of_getElem? (i := 172) rfl) rfl
theorem wd_3_173 : (Jvm.Cond.instanceMethod ({ cls := "PolicyTree$Machine", name := "<init>", desc := "(LPolicyTree$Node;)V" } : Jvm.MethodName)) ∈ TB := tbk_3 (List.mem_of_getElem? (i := 173) rfl) rfl
theorem wd_3_174 : (Jvm.Cond.code ({ cls := "PolicyTree$Machine", name := "<init>", desc := "(LPolicyTree$Node;)V" } : Jvm.MethodName) prog_7_method_1_code (2 : Nat) (Option.none : Option Jvm.ClassFile.FieldType)) ∈ TB := tbk_3 (List.mem_of_getElem? (i := 174) rfl) rfl
theorem wd_3_175 : (Jvm.Cond.methodLink "PolicyTree$Machine" (1 : Nat) ({ cls := "java/lang/Object", name := "<init>", desc := "()V" } : Jvm.MethodName)) ∈ TB := tbk_3 (List.mem_of_getElem? (i := 175) rfl) rfl
theorem wd_3_176 : (Jvm.Cond.fieldLink "PolicyTree$Machine" (7 : Nat) "PolicyTree$Machine" "node" "LPolicyTree$Node;") ∈ TB := tbk_3 (List.mem_of_getElem? (i := 176) rfl) rfl
theorem wd_3_177 : (Jvm.Cond.fieldLink "PolicyTree$Row" (35 : Nat) "PolicyTree$Machine" "node" "LPolicyTree$Node;") ∈ TB := tbk_3 (List.mem_of_getElem? (i := 177) rfl) rfl
theorem wd_3_178 : (Jvm.Cond.fieldLink "PolicyTree" (113 : Nat) "PolicyTree$Machine" "node" "LPolicyTree$Node;") ∈ TB := tbk_3 (List.mem_of_getElem? (i := 178) rfl) rfl
theorem wd_3_179 : (Jvm.Cond.fieldLink "PolicyTree$Machine" (13 : Nat) "PolicyTree$Machine" "known" "I") ∈ TB := tbk_3 (List.mem_of_getElem? (i := 179) rfl) rfl
theorem wd_3_180 : (Jvm.Cond.fieldLink "PolicyTree$Machine" (17 : Nat) "PolicyTree$Machine" "yes" "I") ∈ TB := tbk_3 (List.mem_of_getElem? (i := 180) rfl) rfl
theorem wd_3_181 : (Jvm.Cond.laysFinal "PolicyTree$Machine" "PolicyTree$Machine" "node" "LPolicyTree$Node;") ∈ TB := tbk_3 (List.mem_of_getElem? (i := 181) rfl) rfl
theorem wd_3_183 : (Jvm.Cond.lays "PolicyTree$Machine" "PolicyTree$Machine" "known" "I") ∈ TB := tbk_3 (List.mem_of_getElem? (i := 183) rfl) rfl
theorem wd_3_185 : (Jvm.Cond.lays "PolicyTree$Machine" "PolicyTree$Machine" "yes" "I") ∈ TB := tbk_3 (List.mem_of_getElem? (i := 185) rfl) rfl
theorem wd_3_188 : (Jvm.Cond.methodLink "PolicyTreeLaw" (118 : Nat) ({ cls := "PolicyTreeLaw", name := "fact", desc := "(LPolicyTree;III[J)I" } : Jvm.MethodName)) ∈ TB := tbk_3 (List.mem_of_getElem? (i := 188) rfl) rfl
theorem wd_3_189 : (Jvm.Cond.static ({ cls := "PolicyTreeLaw", name := "fact", desc := "(LPolicyTree;III[J)I" } : Jvm.MethodName)) ∈ TB := tbk_3 (List.mem_of_getElem? (i := 189) rfl) rfl
theorem wd_3_190 : (Jvm.Cond.codeWith ({ cls := "PolicyTreeLaw", name := "fact", desc := "(LPolicyTree;III[J)I" } : Jvm.MethodName) method_7_code (6 : Nat) (Option.some Jvm.ClassFile.FieldType.int) [((0 : Nat), (12 : Nat), (15 : Nat), (13 : Nat)), ((0 : Nat), (12 : Nat), (19 : Nat), (32 : Nat))]) ∈ TB := tbk_3 (List.mem_of_getElem? (i := 190) rfl) rfl
theorem wd_3_191 : (Jvm.Cond.classLink "PolicyTreeLaw" (32 : Nat) "java/lang/IllegalArgumentException") ∈ TB := tbk_3 (List.mem_of_getElem? (i := 191) rfl) rfl
theorem wd_3_192 : (Jvm.Cond.methodLink "PolicyTreeLaw" (28 : Nat) ({ cls := "PolicyTree", name := "fact", desc := "(III)I" } : Jvm.MethodName)) ∈ TB := tbk_3 (List.mem_of_getElem? (i := 192) rfl) rfl
theorem wd_3_193 : (Jvm.Cond.instanceMethod ({ cls := "PolicyTree", name := "fact", desc := "(III)I" } : Jvm.MethodName)) ∈ TB := tbk_3 (List.mem_of_getElem? (i := 193) rfl) rfl
theorem wd_3_194 : (Jvm.Cond.selects "PolicyTree" ({ cls := "PolicyTree", name := "fact", desc := "(III)I" } : Jvm.MethodName) ({ cls := "PolicyTree", name := "fact", desc := "(III)I" } : Jvm.MethodName)) ∈ TB := tbk_3 (List.mem_of_getElem? (i := 194) rfl) rfl
theorem wd_3_195 : (Jvm.Cond.code ({ cls := "PolicyTree", name := "fact", desc := "(III)I" } : Jvm.MethodName) prog_1_method_6_code (6 : Nat) (Option.some Jvm.ClassFile.FieldType.int)) ∈ TB := tbk_3 (List.mem_of_getElem? (i := 195) rfl) rfl
theorem wd_3_196 : (Jvm.Cond.methodLink "PolicyTree" (127 : Nat) ({ cls := "PolicyTree", name := "needChoice", desc := "(II)V" } : Jvm.MethodName)) ∈ TB := tbk_3 (List.mem_of_getElem? (i := 196) rfl) rfl
theorem wd_3_197 : (Jvm.Cond.static ({ cls := "PolicyTree", name := "needChoice", desc := "(II)V" } : Jvm.MethodName)) ∈ TB := tbk_3 (List.mem_of_getElem? (i := 197) rfl) rfl
theorem wd_3_198 : (Jvm.Cond.code ({ cls := "PolicyTree", name := "needChoice", desc := "(II)V" } : Jvm.MethodName) prog_1_method_30_code (2 : Nat) (Option.none : Option Jvm.ClassFile.FieldType)) ∈ TB := tbk_3 (List.mem_of_getElem? (i := 198) rfl) rfl
theorem wd_3_199 : (Jvm.Cond.classLink "PolicyTree" (130 : Nat) "java/lang/IllegalArgumentException") ∈ TB := tbk_3 (List.mem_of_getElem? (i := 199) rfl) rfl
theorem wd_3_200 : (Jvm.Cond.instantiable "java/lang/IllegalArgumentException" (6 : Nat)) ∈ TB := tbk_3 (List.mem_of_getElem? (i := 200) rfl) rfl
theorem wd_3_202 : (Jvm.Cond.selects "java/lang/IllegalArgumentException" ({ cls := "java/lang/Throwable", name := "fillInStackTrace", desc := "(I)Ljava/lang/Throwable;" } : Jvm.MethodName) ({ cls := "java/lang/Throwable", name := "fillInStackTrace", desc := "(I)Ljava/lang/Throwable;" } : Jvm.MethodName)) ∈ TB := tbk_3 (List.mem_of_getElem? (i := 202) rfl) rfl
theorem wd_3_203 : (Jvm.Cond.lays "java/lang/IllegalArgumentException" "java/lang/Throwable" "cause" "Ljava/lang/Throwable;") ∈ TB := tbk_3 (List.mem_of_getElem? (i := 203) rfl) rfl
theorem wd_3_204 : (Jvm.Cond.lays "java/lang/IllegalArgumentException" "java/lang/Throwable" "stackTrace" "[Ljava/lang/StackTraceElement;") ∈ TB := tbk_3 (List.mem_of_getElem? (i := 204) rfl) rfl
theorem wd_3_205 : (Jvm.Cond.lays "java/lang/IllegalArgumentException" "java/lang/Throwable" "suppressedExceptions" "Ljava/util/List;") ∈ TB := tbk_3 (List.mem_of_getElem? (i := 205) rfl) rfl
theorem wd_3_206 : (Jvm.Cond.lays "java/lang/IllegalArgumentException" "java/lang/Throwable" "detailMessage" "Ljava/lang/String;") ∈ TB := tbk_3 (List.mem_of_getElem? (i := 206) rfl) rfl
theorem wd_3_207 : (Jvm.Cond.lays "java/lang/IllegalArgumentException" "java/lang/Throwable" "backtrace" "Ljava/lang/Object;") ∈ TB := tbk_3 (List.mem_of_getElem? (i := 207) rfl) rfl
theorem wd_3_209 : (Jvm.Cond.methodLink "PolicyTree" (134 : Nat) ({ cls := "java/lang/IllegalArgumentException", name := "<init>", desc := "(Ljava/lang/String;)V" } : Jvm.MethodName)) ∈ TB := tbk_3 (List.mem_of_getElem? (i := 209) rfl) rfl
theorem wd_3_210 : (Jvm.Cond.instanceMethod ({ cls := "java/lang/IllegalArgumentException", name := "<init>", desc := "(Ljava/lang/String;)V" } : Jvm.MethodName)) ∈ TB := tbk_3 (List.mem_of_getElem? (i := 210) rfl) rfl
theorem wd_3_211 : (Jvm.Cond.code ({ cls := "java/lang/IllegalArgumentException", name := "<init>", desc := "(Ljava/lang/String;)V" } : Jvm.MethodName) prog_19_method_2_code (2 : Nat) (Option.none : Option Jvm.ClassFile.FieldType)) ∈ TB := tbk_3 (List.mem_of_getElem? (i := 211) rfl) rfl
theorem wd_3_212 : (Jvm.Cond.methodLink "java/lang/IllegalArgumentException" (7 : Nat) ({ cls := "java/lang/RuntimeException", name := "<init>", desc := "(Ljava/lang/String;)V" } : Jvm.MethodName)) ∈ TB := tbk_3 (List.mem_of_getElem? (i := 212) rfl) rfl
theorem wd_3_213 : (Jvm.Cond.lays "java/lang/IllegalArgumentException" "java/lang/Throwable" "depth" "I") ∈ TB := tbk_3 (List.mem_of_getElem? (i := 213) rfl) rfl
theorem wd_3_216 : (Jvm.Cond.methodLink "PolicyTree" (137 : Nat) ({ cls := "PolicyTree$Machine", name := "factNow", desc := "(I)I" } : Jvm.MethodName)) ∈ TB := tbk_3 (List.mem_of_getElem? (i := 216) rfl) rfl
theorem wd_3_217 : (Jvm.Cond.instanceMethod ({ cls := "PolicyTree$Machine", name := "factNow", desc := "(I)I" } : Jvm.MethodName)) ∈ TB := tbk_3 (List.mem_of_getElem? (i := 217) rfl) rfl
theorem wd_3_218 : (Jvm.Cond.selects "PolicyTree$Machine" ({ cls := "PolicyTree$Machine", name := "factNow", desc := "(I)I" } : Jvm.MethodName) ({ cls := "PolicyTree$Machine", name := "factNow", desc := "(I)I" } : Jvm.MethodName)) ∈ TB := tbk_3 (List.mem_of_getElem? (i := 218) rfl) rfl
theorem wd_3_219 : (Jvm.Cond.code ({ cls := "PolicyTree$Machine", name := "factNow", desc := "(I)I" } : Jvm.MethodName) prog_7_method_4_code (2 : Nat) (Option.some Jvm.ClassFile.FieldType.int)) ∈ TB := tbk_3 (List.mem_of_getElem? (i := 219) rfl) rfl
theorem wd_3_220 : (Jvm.Cond.methodLink "PolicyTree" (141 : Nat) ({ cls := "PolicyTree$Machine", name := "learn", desc := "(II)V" } : Jvm.MethodName)) ∈ TB := tbk_3 (List.mem_of_getElem? (i := 220) rfl) rfl
theorem wd_3_221 : (Jvm.Cond.instanceMethod ({ cls := "PolicyTree$Machine", name := "learn", desc := "(II)V" } : Jvm.MethodName)) ∈ TB := tbk_3 (List.mem_of_getElem? (i := 221) rfl) rfl
theorem wd_3_222 : (Jvm.Cond.selects "PolicyTree$Machine" ({ cls := "PolicyTree$Machine", name := "learn", desc := "(II)V" } : Jvm.MethodName) ({ cls := "PolicyTree$Machine", name := "learn", desc := "(II)V" } : Jvm.MethodName)) ∈ TB := tbk_3 (List.mem_of_getElem? (i := 222) rfl) rfl
theorem wd_3_223 : (Jvm.Cond.code ({ cls := "PolicyTree$Machine", name := "learn", desc := "(II)V" } : Jvm.MethodName) prog_7_method_5_code (4 : Nat) (Option.none : Option Jvm.ClassFile.FieldType)) ∈ TB := tbk_3 (List.mem_of_getElem? (i := 223) rfl) rfl
theorem wd_3_224 : (Jvm.Cond.methodLink "PolicyTreeLaw" (122 : Nat) ({ cls := "PolicyTreeLaw", name := "group", desc := "(LPolicyTree;[J)I" } : Jvm.MethodName)) ∈ TB := tbk_3 (List.mem_of_getElem? (i := 224) rfl) rfl
theorem wd_3_225 : (Jvm.Cond.static ({ cls := "PolicyTreeLaw", name := "group", desc := "(LPolicyTree;[J)I" } : Jvm.MethodName)) ∈ TB := tbk_3 (List.mem_of_getElem? (i := 225) rfl) rfl
theorem wd_3_226 : (Jvm.Cond.codeWith ({ cls := "PolicyTreeLaw", name := "group", desc := "(LPolicyTree;[J)I" } : Jvm.MethodName) method_8_code (3 : Nat) (Option.some Jvm.ClassFile.FieldType.int) [((0 : Nat), (8 : Nat), (11 : Nat), (15 : Nat))]) ∈ TB := tbk_3 (List.mem_of_getElem? (i := 226) rfl) rfl
theorem wd_3_227 : (Jvm.Cond.methodLink "PolicyTreeLaw" (34 : Nat) ({ cls := "PolicyTree", name := "group", desc := "()I" } : Jvm.MethodName)) ∈ TB := tbk_3 (List.mem_of_getElem? (i := 227) rfl) rfl
theorem wd_3_228 : (Jvm.Cond.instanceMethod ({ cls := "PolicyTree", name := "group", desc := "()I" } : Jvm.MethodName)) ∈ TB := tbk_3 (List.mem_of_getElem? (i := 228) rfl) rfl
theorem wd_3_229 : (Jvm.Cond.selects "PolicyTree" ({ cls := "PolicyTree", name := "group", desc := "()I" } : Jvm.MethodName) ({ cls := "PolicyTree", name := "group", desc := "()I" } : Jvm.MethodName)) ∈ TB := tbk_3 (List.mem_of_getElem? (i := 229) rfl) rfl
theorem wd_3_230 : (Jvm.Cond.code ({ cls := "PolicyTree", name := "group", desc := "()I" } : Jvm.MethodName) prog_1_method_7_code (1 : Nat) (Option.some Jvm.ClassFile.FieldType.int)) ∈ TB := tbk_3 (List.mem_of_getElem? (i := 230) rfl) rfl
theorem wd_3_231 : (Jvm.Cond.methodLink "PolicyTree" (145 : Nat) ({ cls := "PolicyTree$Groups", name := "add", desc := "()I" } : Jvm.MethodName)) ∈ TB := tbk_3 (List.mem_of_getElem? (i := 231) rfl) rfl
theorem wd_3_232 : (Jvm.Cond.instanceMethod ({ cls := "PolicyTree$Groups", name := "add", desc := "()I" } : Jvm.MethodName)) ∈ TB := tbk_3 (List.mem_of_getElem? (i := 232) rfl) rfl
theorem wd_3_233 : (Jvm.Cond.selects "PolicyTree$Groups" ({ cls := "PolicyTree$Groups", name := "add", desc := "()I" } : Jvm.MethodName) ({ cls := "PolicyTree$Groups", name := "add", desc := "()I" } : Jvm.MethodName)) ∈ TB := tbk_3 (List.mem_of_getElem? (i := 233) rfl) rfl
theorem wd_3_234 : (Jvm.Cond.code ({ cls := "PolicyTree$Groups", name := "add", desc := "()I" } : Jvm.MethodName) prog_5_method_3_code (1 : Nat) (Option.some Jvm.ClassFile.FieldType.int)) ∈ TB := tbk_3 (List.mem_of_getElem? (i := 234) rfl) rfl
theorem wd_3_235 : (Jvm.Cond.methodLink "PolicyTreeLaw" (126 : Nat) ({ cls := "PolicyTreeLaw", name := "joins", desc := "(LPolicyTree;IIZ[J)I" } : Jvm.MethodName)) ∈ TB := tbk_3 (List.mem_of_getElem? (i := 235) rfl) rfl
theorem wd_3_236 : (Jvm.Cond.static ({ cls := "PolicyTreeLaw", name := "joins", desc := "(LPolicyTree;IIZ[J)I" } : Jvm.MethodName)) ∈ TB := tbk_3 (List.mem_of_getElem? (i := 236) rfl) rfl
theorem wd_3_237 : (Jvm.Cond.codeWith ({ cls := "PolicyTreeLaw", name := "joins", desc := "(LPolicyTree;IIZ[J)I" } : Jvm.MethodName) method_9_code (6 : Nat) (Option.some Jvm.ClassFile.FieldType.int) [((0 : Nat), (19 : Nat), (22 : Nat), (13 : Nat))]) ∈ TB := tbk_3 (List.mem_of_getElem? (i := 237) rfl) rfl
theorem wd_3_238 : (Jvm.Cond.methodLink "PolicyTreeLaw" (38 : Nat) ({ cls := "PolicyTree", name := "joins", desc := "(IIZ)Z" } : Jvm.MethodName)) ∈ TB := tbk_3 (List.mem_of_getElem? (i := 238) rfl) rfl
theorem wd_3_239 : (Jvm.Cond.instanceMethod ({ cls := "PolicyTree", name := "joins", desc := "(IIZ)Z" } : Jvm.MethodName)) ∈ TB := tbk_3 (List.mem_of_getElem? (i := 239) rfl) rfl
theorem wd_4_0 : (Jvm.Cond.selects "PolicyTree" ({ cls := "PolicyTree", name := "joins", desc := "(IIZ)Z" } : Jvm.MethodName) ({ cls := "PolicyTree", name := "joins", desc := "(IIZ)Z" } : Jvm.MethodName)) ∈ TB := tbk_4 (List.mem_of_getElem? (i := 0) rfl) rfl
theorem wd_4_1 : (Jvm.Cond.code ({ cls := "PolicyTree", name := "joins", desc := "(IIZ)Z" } : Jvm.MethodName) prog_1_method_8_code (4 : Nat) (Option.some Jvm.ClassFile.FieldType.boolean)) ∈ TB := tbk_4 (List.mem_of_getElem? (i := 1) rfl) rfl
theorem wd_4_2 : (Jvm.Cond.methodLink "PolicyTree" (147 : Nat) ({ cls := "PolicyTree$Groups", name := "putMachine", desc := "(IIZ)Z" } : Jvm.MethodName)) ∈ TB := tbk_4 (List.mem_of_getElem? (i := 2) rfl) rfl
theorem wd_4_3 : (Jvm.Cond.instanceMethod ({ cls := "PolicyTree$Groups", name := "putMachine", desc := "(IIZ)Z" } : Jvm.MethodName)) ∈ TB := tbk_4 (List.mem_of_getElem? (i := 3) rfl) rfl
theorem wd_4_4 : (Jvm.Cond.selects "PolicyTree$Groups" ({ cls := "PolicyTree$Groups", name := "putMachine", desc := "(IIZ)Z" } : Jvm.MethodName) ({ cls := "PolicyTree$Groups", name := "putMachine", desc := "(IIZ)Z" } : Jvm.MethodName)) ∈ TB := tbk_4 (List.mem_of_getElem? (i := 4) rfl) rfl
theorem wd_4_5 : (Jvm.Cond.code ({ cls := "PolicyTree$Groups", name := "putMachine", desc := "(IIZ)Z" } : Jvm.MethodName) prog_5_method_4_code (7 : Nat) (Option.some Jvm.ClassFile.FieldType.boolean)) ∈ TB := tbk_4 (List.mem_of_getElem? (i := 5) rfl) rfl
theorem wd_4_6 : (Jvm.Cond.constantLong "PolicyTree$Groups" (23 : Nat) (-1 : Int64)) ∈ TB := tbk_4 (List.mem_of_getElem? (i := 6) rfl) rfl
theorem wd_4_7 : (Jvm.Cond.methodLink "PolicyTreeLaw" (130 : Nat) ({ cls := "PolicyTreeLaw", name := "within", desc := "(LPolicyTree;IIZ[J)I" } : Jvm.MethodName)) ∈ TB := tbk_4 (List.mem_of_getElem? (i := 7) rfl) rfl
theorem wd_4_8 : (Jvm.Cond.static ({ cls := "PolicyTreeLaw", name := "within", desc := "(LPolicyTree;IIZ[J)I" } : Jvm.MethodName)) ∈ TB := tbk_4 (List.mem_of_getElem? (i := 8) rfl) rfl
theorem wd_4_9 : (Jvm.Cond.codeWith ({ cls := "PolicyTreeLaw", name := "within", desc := "(LPolicyTree;IIZ[J)I" } : Jvm.MethodName) method_10_code (6 : Nat) (Option.some Jvm.ClassFile.FieldType.int) [((0 : Nat), (19 : Nat), (22 : Nat), (13 : Nat))]) ∈ TB := tbk_4 (List.mem_of_getElem? (i := 9) rfl) rfl
theorem wd_4_10 : (Jvm.Cond.methodLink "PolicyTreeLaw" (42 : Nat) ({ cls := "PolicyTree", name := "within", desc := "(IIZ)Z" } : Jvm.MethodName)) ∈ TB := tbk_4 (List.mem_of_getElem? (i := 10) rfl) rfl
theorem wd_4_11 : (Jvm.Cond.instanceMethod ({ cls := "PolicyTree", name := "within", desc := "(IIZ)Z" } : Jvm.MethodName)) ∈ TB := tbk_4 (List.mem_of_getElem? (i := 11) rfl) rfl
theorem wd_4_12 : (Jvm.Cond.selects "PolicyTree" ({ cls := "PolicyTree", name := "within", desc := "(IIZ)Z" } : Jvm.MethodName) ({ cls := "PolicyTree", name := "within", desc := "(IIZ)Z" } : Jvm.MethodName)) ∈ TB := tbk_4 (List.mem_of_getElem? (i := 12) rfl) rfl
theorem wd_4_13 : (Jvm.Cond.code ({ cls := "PolicyTree", name := "within", desc := "(IIZ)Z" } : Jvm.MethodName) prog_1_method_9_code (4 : Nat) (Option.some Jvm.ClassFile.FieldType.boolean)) ∈ TB := tbk_4 (List.mem_of_getElem? (i := 13) rfl) rfl
theorem wd_4_14 : (Jvm.Cond.methodLink "PolicyTree" (151 : Nat) ({ cls := "PolicyTree$Groups", name := "putGroup", desc := "(IIZ)Z" } : Jvm.MethodName)) ∈ TB := tbk_4 (List.mem_of_getElem? (i := 14) rfl) rfl
theorem wd_4_15 : (Jvm.Cond.instanceMethod ({ cls := "PolicyTree$Groups", name := "putGroup", desc := "(IIZ)Z" } : Jvm.MethodName)) ∈ TB := tbk_4 (List.mem_of_getElem? (i := 15) rfl) rfl
theorem wd_4_16 : (Jvm.Cond.selects "PolicyTree$Groups" ({ cls := "PolicyTree$Groups", name := "putGroup", desc := "(IIZ)Z" } : Jvm.MethodName) ({ cls := "PolicyTree$Groups", name := "putGroup", desc := "(IIZ)Z" } : Jvm.MethodName)) ∈ TB := tbk_4 (List.mem_of_getElem? (i := 16) rfl) rfl
theorem wd_4_17 : (Jvm.Cond.code ({ cls := "PolicyTree$Groups", name := "putGroup", desc := "(IIZ)Z" } : Jvm.MethodName) prog_5_method_5_code (6 : Nat) (Option.some Jvm.ClassFile.FieldType.boolean)) ∈ TB := tbk_4 (List.mem_of_getElem? (i := 17) rfl) rfl
theorem wd_4_18 : (Jvm.Cond.methodLink "PolicyTreeLaw" (133 : Nat) ({ cls := "PolicyTreeLaw", name := "member", desc := "(LPolicyTree;II[J)I" } : Jvm.MethodName)) ∈ TB := tbk_4 (List.mem_of_getElem? (i := 18) rfl) rfl
theorem wd_4_19 : (Jvm.Cond.static ({ cls := "PolicyTreeLaw", name := "member", desc := "(LPolicyTree;II[J)I" } : Jvm.MethodName)) ∈ TB := tbk_4 (List.mem_of_getElem? (i := 19) rfl) rfl
theorem wd_4_20 : (Jvm.Cond.codeWith ({ cls := "PolicyTreeLaw", name := "member", desc := "(LPolicyTree;II[J)I" } : Jvm.MethodName) method_11_code (5 : Nat) (Option.some Jvm.ClassFile.FieldType.int) [((0 : Nat), (17 : Nat), (20 : Nat), (13 : Nat))]) ∈ TB := tbk_4 (List.mem_of_getElem? (i := 20) rfl) rfl
theorem wd_4_21 : (Jvm.Cond.methodLink "PolicyTreeLaw" (45 : Nat) ({ cls := "PolicyTree", name := "member", desc := "(II)Z" } : Jvm.MethodName)) ∈ TB := tbk_4 (List.mem_of_getElem? (i := 21) rfl) rfl
theorem wd_4_22 : (Jvm.Cond.instanceMethod ({ cls := "PolicyTree", name := "member", desc := "(II)Z" } : Jvm.MethodName)) ∈ TB := tbk_4 (List.mem_of_getElem? (i := 22) rfl) rfl
theorem wd_4_23 : (Jvm.Cond.selects "PolicyTree" ({ cls := "PolicyTree", name := "member", desc := "(II)Z" } : Jvm.MethodName) ({ cls := "PolicyTree", name := "member", desc := "(II)Z" } : Jvm.MethodName)) ∈ TB := tbk_4 (List.mem_of_getElem? (i := 23) rfl) rfl
theorem wd_4_24 : (Jvm.Cond.code ({ cls := "PolicyTree", name := "member", desc := "(II)Z" } : Jvm.MethodName) prog_1_method_10_code (3 : Nat) (Option.some Jvm.ClassFile.FieldType.boolean)) ∈ TB := tbk_4 (List.mem_of_getElem? (i := 24) rfl) rfl
theorem wd_4_25 : (Jvm.Cond.methodLink "PolicyTreeLaw" (136 : Nat) ({ cls := "PolicyTreeLaw", name := "set", desc := "(LPolicyTree;[J)I" } : Jvm.MethodName)) ∈ TB := tbk_4 (List.mem_of_getElem? (i := 25) rfl) rfl
theorem wd_4_26 : (Jvm.Cond.static ({ cls := "PolicyTreeLaw", name := "set", desc := "(LPolicyTree;[J)I" } : Jvm.MethodName)) ∈ TB := tbk_4 (List.mem_of_getElem? (i := 26) rfl) rfl
theorem wd_4_27 : (Jvm.Cond.codeWith ({ cls := "PolicyTreeLaw", name := "set", desc := "(LPolicyTree;[J)I" } : Jvm.MethodName) method_12_code (3 : Nat) (Option.some Jvm.ClassFile.FieldType.int) [((0 : Nat), (8 : Nat), (11 : Nat), (15 : Nat))]) ∈ TB := tbk_4 (List.mem_of_getElem? (i := 27) rfl) rfl
theorem wd_4_28 : (Jvm.Cond.methodLink "PolicyTreeLaw" (49 : Nat) ({ cls := "PolicyTree", name := "set", desc := "()I" } : Jvm.MethodName)) ∈ TB := tbk_4 (List.mem_of_getElem? (i := 28) rfl) rfl
theorem wd_4_29 : (Jvm.Cond.instanceMethod ({ cls := "PolicyTree", name := "set", desc := "()I" } : Jvm.MethodName)) ∈ TB := tbk_4 (List.mem_of_getElem? (i := 29) rfl) rfl
theorem wd_4_30 : (Jvm.Cond.selects "PolicyTree" ({ cls := "PolicyTree", name := "set", desc := "()I" } : Jvm.MethodName) ({ cls := "PolicyTree", name := "set", desc := "()I" } : Jvm.MethodName)) ∈ TB := tbk_4 (List.mem_of_getElem? (i := 30) rfl) rfl
theorem wd_4_31 : (Jvm.Cond.code ({ cls := "PolicyTree", name := "set", desc := "()I" } : Jvm.MethodName) prog_1_method_11_code (1 : Nat) (Option.some Jvm.ClassFile.FieldType.int)) ∈ TB := tbk_4 (List.mem_of_getElem? (i := 31) rfl) rfl
theorem wd_4_32 : (Jvm.Cond.classLink "PolicyTree" (157 : Nat) "PolicyTree$Bundle") ∈ TB := tbk_4 (List.mem_of_getElem? (i := 32) rfl) rfl
theorem wd_4_33 : (Jvm.Cond.instantiable "PolicyTree$Bundle" (2 : Nat)) ∈ TB := tbk_4 (List.mem_of_getElem? (i := 33) rfl) rfl
theorem wd_4_35 : (Jvm.Cond.instanceMethod ({ cls := "PolicyTree$Bundle", name := "<init>", desc := "()V" } : Jvm.MethodName)) ∈ TB := tbk_4 (List.mem_of_getElem? (i := 35) rfl) rfl
theorem wd_4_36 : (Jvm.Cond.code ({ cls := "PolicyTree$Bundle", name := "<init>", desc := "()V" } : Jvm.MethodName) prog_2_method_1_code (1 : Nat) (Option.none : Option Jvm.ClassFile.FieldType)) ∈ TB := tbk_4 (List.mem_of_getElem? (i := 36) rfl) rfl
theorem wd_4_37 : (Jvm.Cond.methodLink "PolicyTree$Bundle" (3 : Nat) ({ cls := "java/lang/Object", name := "<init>", desc := "()V" } : Jvm.MethodName)) ∈ TB := tbk_4 (List.mem_of_getElem? (i := 37) rfl) rfl
theorem wd_4_38 : (Jvm.Cond.fieldLink "PolicyTree$Bundle" (9 : Nat) "PolicyTree$Bundle" "values" "[I") ∈ TB := tbk_4 (List.mem_of_getElem? (i := 38) rfl) rfl
theorem wd_4_39 : (Jvm.Cond.fieldLink "PolicyTree$Bundle" (15 : Nat) "PolicyTree$Bundle" "told" "I") ∈ TB := tbk_4 (List.mem_of_getElem? (i := 39) rfl) rfl
theorem wd_4_40 : (Jvm.Cond.laysFinal "PolicyTree$Bundle" "PolicyTree$Bundle" "values" "[I") ∈ TB := tbk_4 (List.mem_of_getElem? (i := 40) rfl) rfl
theorem wd_4_42 : (Jvm.Cond.lays "PolicyTree$Bundle" "PolicyTree$Bundle" "told" "I") ∈ TB := tbk_4 (List.mem_of_getElem? (i := 42) rfl) rfl
theorem wd_4_45 : (Jvm.Cond.methodLink "PolicyTreeLaw" (139 : Nat) ({ cls := "PolicyTreeLaw", name := "tell", desc := "(LPolicyTree;III[J)I" } : Jvm.MethodName)) ∈ TB := tbk_4 (List.mem_of_getElem? (i := 45) rfl) rfl
theorem wd_4_46 : (Jvm.Cond.static ({ cls := "PolicyTreeLaw", name := "tell", desc := "(LPolicyTree;III[J)I" } : Jvm.MethodName)) ∈ TB := tbk_4 (List.mem_of_getElem? (i := 46) rfl) rfl
theorem wd_4_47 : (Jvm.Cond.codeWith ({ cls := "PolicyTreeLaw", name := "tell", desc := "(LPolicyTree;III[J)I" } : Jvm.MethodName) method_13_code (6 : Nat) (Option.some Jvm.ClassFile.FieldType.int) [((0 : Nat), (19 : Nat), (22 : Nat), (13 : Nat)), ((0 : Nat), (19 : Nat), (26 : Nat), (32 : Nat))]) ∈ TB := tbk_4 (List.mem_of_getElem? (i := 47) rfl) rfl
theorem wd_4_48 : (Jvm.Cond.methodLink "PolicyTreeLaw" (52 : Nat) ({ cls := "PolicyTree", name := "tell", desc := "(III)Z" } : Jvm.MethodName)) ∈ TB := tbk_4 (List.mem_of_getElem? (i := 48) rfl) rfl
theorem wd_4_49 : (Jvm.Cond.instanceMethod ({ cls := "PolicyTree", name := "tell", desc := "(III)Z" } : Jvm.MethodName)) ∈ TB := tbk_4 (List.mem_of_getElem? (i := 49) rfl) rfl
theorem wd_4_50 : (Jvm.Cond.selects "PolicyTree" ({ cls := "PolicyTree", name := "tell", desc := "(III)Z" } : Jvm.MethodName) ({ cls := "PolicyTree", name := "tell", desc := "(III)Z" } : Jvm.MethodName)) ∈ TB := tbk_4 (List.mem_of_getElem? (i := 50) rfl) rfl
theorem wd_4_51 : (Jvm.Cond.code ({ cls := "PolicyTree", name := "tell", desc := "(III)Z" } : Jvm.MethodName) prog_1_method_12_code (4 : Nat) (Option.some Jvm.ClassFile.FieldType.boolean)) ∈ TB := tbk_4 (List.mem_of_getElem? (i := 51) rfl) rfl
theorem wd_4_52 : (Jvm.Cond.methodLink "PolicyTree" (160 : Nat) ({ cls := "PolicyTree$Bundle", name := "put", desc := "(II)Z" } : Jvm.MethodName)) ∈ TB := tbk_4 (List.mem_of_getElem? (i := 52) rfl) rfl
theorem wd_4_53 : (Jvm.Cond.instanceMethod ({ cls := "PolicyTree$Bundle", name := "put", desc := "(II)Z" } : Jvm.MethodName)) ∈ TB := tbk_4 (List.mem_of_getElem? (i := 53) rfl) rfl
theorem wd_4_54 : (Jvm.Cond.selects "PolicyTree$Bundle" ({ cls := "PolicyTree$Bundle", name := "put", desc := "(II)Z" } : Jvm.MethodName) ({ cls := "PolicyTree$Bundle", name := "put", desc := "(II)Z" } : Jvm.MethodName)) ∈ TB := tbk_4 (List.mem_of_getElem? (i := 54) rfl) rfl
theorem wd_4_55 : (Jvm.Cond.code ({ cls := "PolicyTree$Bundle", name := "put", desc := "(II)Z" } : Jvm.MethodName) prog_2_method_5_code (3 : Nat) (Option.some Jvm.ClassFile.FieldType.boolean)) ∈ TB := tbk_4 (List.mem_of_getElem? (i := 55) rfl) rfl
theorem wd_4_56 : (Jvm.Cond.methodLink "PolicyTree$Bundle" (19 : Nat) ({ cls := "PolicyTree$Bundle", name := "tells", desc := "(I)Z" } : Jvm.MethodName)) ∈ TB := tbk_4 (List.mem_of_getElem? (i := 56) rfl) rfl
theorem wd_4_57 : (Jvm.Cond.methodLink "PolicyTreeLaw" (142 : Nat) ({ cls := "PolicyTreeLaw", name := "untell", desc := "(LPolicyTree;II[J)I" } : Jvm.MethodName)) ∈ TB := tbk_4 (List.mem_of_getElem? (i := 57) rfl) rfl
theorem wd_4_58 : (Jvm.Cond.static ({ cls := "PolicyTreeLaw", name := "untell", desc := "(LPolicyTree;II[J)I" } : Jvm.MethodName)) ∈ TB := tbk_4 (List.mem_of_getElem? (i := 58) rfl) rfl
theorem wd_4_59 : (Jvm.Cond.codeWith ({ cls := "PolicyTreeLaw", name := "untell", desc := "(LPolicyTree;II[J)I" } : Jvm.MethodName) method_14_code (5 : Nat) (Option.some Jvm.ClassFile.FieldType.int) [((0 : Nat), (17 : Nat), (20 : Nat), (13 : Nat)), ((0 : Nat), (17 : Nat), (24 : Nat), (32 : Nat))]) ∈ TB := tbk_4 (List.mem_of_getElem? (i := 59) rfl) rfl
theorem wd_4_60 : (Jvm.Cond.methodLink "PolicyTreeLaw" (56 : Nat) ({ cls := "PolicyTree", name := "untell", desc := "(II)Z" } : Jvm.MethodName)) ∈ TB := tbk_4 (List.mem_of_getElem? (i := 60) rfl) rfl
theorem wd_4_61 : (Jvm.Cond.instanceMethod ({ cls := "PolicyTree", name := "untell", desc := "(II)Z" } : Jvm.MethodName)) ∈ TB := tbk_4 (List.mem_of_getElem? (i := 61) rfl) rfl
theorem wd_4_62 : (Jvm.Cond.selects "PolicyTree" ({ cls := "PolicyTree", name := "untell", desc := "(II)Z" } : Jvm.MethodName) ({ cls := "PolicyTree", name := "untell", desc := "(II)Z" } : Jvm.MethodName)) ∈ TB := tbk_4 (List.mem_of_getElem? (i := 62) rfl) rfl
theorem wd_4_63 : (Jvm.Cond.code ({ cls := "PolicyTree", name := "untell", desc := "(II)Z" } : Jvm.MethodName) prog_1_method_13_code (3 : Nat) (Option.some Jvm.ClassFile.FieldType.boolean)) ∈ TB := tbk_4 (List.mem_of_getElem? (i := 63) rfl) rfl
theorem wd_4_64 : (Jvm.Cond.methodLink "PolicyTree" (164 : Nat) ({ cls := "PolicyTree$Bundle", name := "drop", desc := "(I)Z" } : Jvm.MethodName)) ∈ TB := tbk_4 (List.mem_of_getElem? (i := 64) rfl) rfl
theorem wd_4_65 : (Jvm.Cond.instanceMethod ({ cls := "PolicyTree$Bundle", name := "drop", desc := "(I)Z" } : Jvm.MethodName)) ∈ TB := tbk_4 (List.mem_of_getElem? (i := 65) rfl) rfl
theorem wd_4_66 : (Jvm.Cond.selects "PolicyTree$Bundle" ({ cls := "PolicyTree$Bundle", name := "drop", desc := "(I)Z" } : Jvm.MethodName) ({ cls := "PolicyTree$Bundle", name := "drop", desc := "(I)Z" } : Jvm.MethodName)) ∈ TB := tbk_4 (List.mem_of_getElem? (i := 66) rfl) rfl
theorem wd_4_67 : (Jvm.Cond.code ({ cls := "PolicyTree$Bundle", name := "drop", desc := "(I)Z" } : Jvm.MethodName) prog_2_method_6_code (3 : Nat) (Option.some Jvm.ClassFile.FieldType.boolean)) ∈ TB := tbk_4 (List.mem_of_getElem? (i := 67) rfl) rfl
theorem wd_4_68 : (Jvm.Cond.methodLink "PolicyTreeLaw" (145 : Nat) ({ cls := "PolicyTreeLaw", name := "law", desc := "(LPolicyTree;II[J)I" } : Jvm.MethodName)) ∈ TB := tbk_4 (List.mem_of_getElem? (i := 68) rfl) rfl
theorem wd_4_69 : (Jvm.Cond.static ({ cls := "PolicyTreeLaw", name := "law", desc := "(LPolicyTree;II[J)I" } : Jvm.MethodName)) ∈ TB := tbk_4 (List.mem_of_getElem? (i := 69) rfl) rfl
theorem wd_4_70 : (Jvm.Cond.codeWith ({ cls := "PolicyTreeLaw", name := "law", desc := "(LPolicyTree;II[J)I" } : Jvm.MethodName) method_15_code (5 : Nat) (Option.some Jvm.ClassFile.FieldType.int) [((0 : Nat), (10 : Nat), (13 : Nat), (32 : Nat))]) ∈ TB := tbk_4 (List.mem_of_getElem? (i := 70) rfl) rfl
theorem wd_4_71 : (Jvm.Cond.methodLink "PolicyTreeLaw" (59 : Nat) ({ cls := "PolicyTree", name := "law", desc := "(II)I" } : Jvm.MethodName)) ∈ TB := tbk_4 (List.mem_of_getElem? (i := 71) rfl) rfl
theorem wd_4_72 : (Jvm.Cond.instanceMethod ({ cls := "PolicyTree", name := "law", desc := "(II)I" } : Jvm.MethodName)) ∈ TB := tbk_4 (List.mem_of_getElem? (i := 72) rfl) rfl
theorem wd_4_73 : (Jvm.Cond.selects "PolicyTree" ({ cls := "PolicyTree", name := "law", desc := "(II)I" } : Jvm.MethodName) ({ cls := "PolicyTree", name := "law", desc := "(II)I" } : Jvm.MethodName)) ∈ TB := tbk_4 (List.mem_of_getElem? (i := 73) rfl) rfl
theorem wd_4_74 : (Jvm.Cond.code ({ cls := "PolicyTree", name := "law", desc := "(II)I" } : Jvm.MethodName) prog_1_method_14_code (4 : Nat) (Option.some Jvm.ClassFile.FieldType.int)) ∈ TB := tbk_4 (List.mem_of_getElem? (i := 74) rfl) rfl
theorem wd_4_75 : (Jvm.Cond.methodLink "PolicyTreeLaw" (153 : Nat) ({ cls := "PolicyTreeLaw", name := "link", desc := "(LPolicyTree;IIIZI[J)I" } : Jvm.MethodName)) ∈ TB := tbk_4 (List.mem_of_getElem? (i := 75) rfl) rfl
theorem wd_4_76 : (Jvm.Cond.static ({ cls := "PolicyTreeLaw", name := "link", desc := "(LPolicyTree;IIIZI[J)I" } : Jvm.MethodName)) ∈ TB := tbk_4 (List.mem_of_getElem? (i := 76) rfl) rfl
theorem wd_4_77 : (Jvm.Cond.codeWith ({ cls := "PolicyTreeLaw", name := "link", desc := "(LPolicyTree;IIIZI[J)I" } : Jvm.MethodName) method_16_code (8 : Nat) (Option.some Jvm.ClassFile.FieldType.int) [((0 : Nat), (16 : Nat), (19 : Nat), (13 : Nat)), ((0 : Nat), (16 : Nat), (23 : Nat), (32 : Nat)), ((0 : Nat), (16 : Nat), (27 : Nat), (15 : Nat))]) ∈ TB := tbk_4 (List.mem_of_getElem? (i := 77) rfl) rfl
theorem wd_4_78 : (Jvm.Cond.methodLink "PolicyTreeLaw" (62 : Nat) ({ cls := "PolicyTree", name := "link", desc := "(IIIZI)I" } : Jvm.MethodName)) ∈ TB := tbk_4 (List.mem_of_getElem? (i := 78) rfl) rfl
theorem wd_4_79 : (Jvm.Cond.instanceMethod ({ cls := "PolicyTree", name := "link", desc := "(IIIZI)I" } : Jvm.MethodName)) ∈ TB := tbk_4 (List.mem_of_getElem? (i := 79) rfl) rfl
theorem wd_4_80 : (Jvm.Cond.selects "PolicyTree" ({ cls := "PolicyTree", name := "link", desc := "(IIIZI)I" } : Jvm.MethodName) ({ cls := "PolicyTree", name := "link", desc := "(IIIZI)I" } : Jvm.MethodName)) ∈ TB := tbk_4 (List.mem_of_getElem? (i := 80) rfl) rfl
theorem wd_4_81 : (Jvm.Cond.code ({ cls := "PolicyTree", name := "link", desc := "(IIIZI)I" } : Jvm.MethodName) prog_1_method_16_code (9 : Nat) (Option.some Jvm.ClassFile.FieldType.int)) ∈ TB := tbk_4 (List.mem_of_getElem? (i := 81) rfl) rfl
theorem wd_4_82 : (Jvm.Cond.methodLink "PolicyTree" (176 : Nat) ({ cls := "PolicyTree$FilterReader", name := "read", desc := "(III)I" } : Jvm.MethodName)) ∈ TB := tbk_4 (List.mem_of_getElem? (i := 82) rfl) rfl
theorem wd_4_83 : (Jvm.Cond.instanceMethod ({ cls := "PolicyTree$FilterReader", name := "read", desc := "(III)I" } : Jvm.MethodName)) ∈ TB := tbk_4 (List.mem_of_getElem? (i := 83) rfl) rfl
theorem wd_4_84 : (Jvm.Cond.selects "PolicyTree$FilterReader" ({ cls := "PolicyTree$FilterReader", name := "read", desc := "(III)I" } : Jvm.MethodName) ({ cls := "PolicyTree$FilterReader", name := "read", desc := "(III)I" } : Jvm.MethodName)) ∈ TB := tbk_4 (List.mem_of_getElem? (i := 84) rfl) rfl
theorem wd_4_85 : (Jvm.Cond.code ({ cls := "PolicyTree$FilterReader", name := "read", desc := "(III)I" } : Jvm.MethodName) prog_4_method_2_code (4 : Nat) (Option.some Jvm.ClassFile.FieldType.int)) ∈ TB := tbk_4 (List.mem_of_getElem? (i := 85) rfl) rfl
theorem wd_4_86 : (Jvm.Cond.methodLink "PolicyTree$FilterReader" (43 : Nat) ({ cls := "PolicyTree$FilterReader", name := "skipBlanks", desc := "()V" } : Jvm.MethodName)) ∈ TB := tbk_4 (List.mem_of_getElem? (i := 86) rfl) rfl
theorem wd_4_88 : (Jvm.Cond.instanceMethod ({ cls := "PolicyTree$FilterReader", name := "skipBlanks", desc := "()V" } : Jvm.MethodName)) ∈ TB := tbk_4 (List.mem_of_getElem? (i := 88) rfl) rfl
theorem wd_4_89 : (Jvm.Cond.code ({ cls := "PolicyTree$FilterReader", name := "skipBlanks", desc := "()V" } : Jvm.MethodName) prog_4_method_10_code (1 : Nat) (Option.none : Option Jvm.ClassFile.FieldType)) ∈ TB := tbk_4 (List.mem_of_getElem? (i := 89) rfl) rfl
theorem wd_4_90 : (Jvm.Cond.methodLink "PolicyTree$FilterReader" (107 : Nat) ({ cls := "PolicyTree$Tape", name := "byteAt", desc := "(I)I" } : Jvm.MethodName)) ∈ TB := tbk_4 (List.mem_of_getElem? (i := 90) rfl) rfl
theorem wd_4_91 : (Jvm.Cond.instanceMethod ({ cls := "PolicyTree$Tape", name := "byteAt", desc := "(I)I" } : Jvm.MethodName)) ∈ TB := tbk_4 (List.mem_of_getElem? (i := 91) rfl) rfl
theorem wd_4_92 : (Jvm.Cond.selects "PolicyTree$Tape" ({ cls := "PolicyTree$Tape", name := "byteAt", desc := "(I)I" } : Jvm.MethodName) ({ cls := "PolicyTree$Tape", name := "byteAt", desc := "(I)I" } : Jvm.MethodName)) ∈ TB := tbk_4 (List.mem_of_getElem? (i := 92) rfl) rfl
theorem wd_4_93 : (Jvm.Cond.code ({ cls := "PolicyTree$Tape", name := "byteAt", desc := "(I)I" } : Jvm.MethodName) prog_12_method_5_code (2 : Nat) (Option.some Jvm.ClassFile.FieldType.int)) ∈ TB := tbk_4 (List.mem_of_getElem? (i := 93) rfl) rfl
theorem wd_4_94 : (Jvm.Cond.methodLink "PolicyTree$FilterReader" (46 : Nat) ({ cls := "PolicyTree$FilterReader", name := "readEither", desc := "(I)V" } : Jvm.MethodName)) ∈ TB := tbk_4 (List.mem_of_getElem? (i := 94) rfl) rfl
theorem wd_4_96 : (Jvm.Cond.instanceMethod ({ cls := "PolicyTree$FilterReader", name := "readEither", desc := "(I)V" } : Jvm.MethodName)) ∈ TB := tbk_4 (List.mem_of_getElem? (i := 96) rfl) rfl
theorem wd_4_97 : (Jvm.Cond.code ({ cls := "PolicyTree$FilterReader", name := "readEither", desc := "(I)V" } : Jvm.MethodName) prog_4_method_5_code (3 : Nat) (Option.none : Option Jvm.ClassFile.FieldType)) ∈ TB := tbk_4 (List.mem_of_getElem? (i := 97) rfl) rfl
theorem wd_4_98 : (Jvm.Cond.methodLink "PolicyTree$FilterReader" (71 : Nat) ({ cls := "PolicyTree$FilterReader", name := "readBoth", desc := "(I)V" } : Jvm.MethodName)) ∈ TB := tbk_4 (List.mem_of_getElem? (i := 98) rfl) rfl
theorem wd_4_100 : (Jvm.Cond.instanceMethod ({ cls := "PolicyTree$FilterReader", name := "readBoth", desc := "(I)V" } : Jvm.MethodName)) ∈ TB := tbk_4 (List.mem_of_getElem? (i := 100) rfl) rfl
theorem wd_4_101 : (Jvm.Cond.code ({ cls := "PolicyTree$FilterReader", name := "readBoth", desc := "(I)V" } : Jvm.MethodName) prog_4_method_6_code (3 : Nat) (Option.none : Option Jvm.ClassFile.FieldType)) ∈ TB := tbk_4 (List.mem_of_getElem? (i := 101) rfl) rfl
theorem wd_4_102 : (Jvm.Cond.methodLink "PolicyTree$FilterReader" (83 : Nat) ({ cls := "PolicyTree$FilterReader", name := "readOne", desc := "(I)V" } : Jvm.MethodName)) ∈ TB := tbk_4 (List.mem_of_getElem? (i := 102) rfl) rfl
theorem wd_4_104 : (Jvm.Cond.instanceMethod ({ cls := "PolicyTree$FilterReader", name := "readOne", desc := "(I)V" } : Jvm.MethodName)) ∈ TB := tbk_4 (List.mem_of_getElem? (i := 104) rfl) rfl
theorem wd_4_105 : (Jvm.Cond.code ({ cls := "PolicyTree$FilterReader", name := "readOne", desc := "(I)V" } : Jvm.MethodName) prog_4_method_7_code (3 : Nat) (Option.none : Option Jvm.ClassFile.FieldType)) ∈ TB := tbk_4 (List.mem_of_getElem? (i := 105) rfl) rfl
theorem wd_4_106 : (Jvm.Cond.methodLink "PolicyTree$FilterReader" (88 : Nat) ({ cls := "PolicyTree$FilterReader", name := "takesByte", desc := "(C)Z" } : Jvm.MethodName)) ∈ TB := tbk_4 (List.mem_of_getElem? (i := 106) rfl) rfl
theorem wd_4_108 : (Jvm.Cond.instanceMethod ({ cls := "PolicyTree$FilterReader", name := "takesByte", desc := "(C)Z" } : Jvm.MethodName)) ∈ TB := tbk_4 (List.mem_of_getElem? (i := 108) rfl) rfl
theorem wd_4_109 : (Jvm.Cond.code ({ cls := "PolicyTree$FilterReader", name := "takesByte", desc := "(C)Z" } : Jvm.MethodName) prog_4_method_11_code (2 : Nat) (Option.some Jvm.ClassFile.FieldType.boolean)) ∈ TB := tbk_4 (List.mem_of_getElem? (i := 109) rfl) rfl
theorem wd_4_110 : (Jvm.Cond.methodLink "PolicyTree$FilterReader" (92 : Nat) ({ cls := "PolicyTree$FilterReader", name := "mayOpen", desc := "(II)Z" } : Jvm.MethodName)) ∈ TB := tbk_4 (List.mem_of_getElem? (i := 110) rfl) rfl
theorem wd_4_112 : (Jvm.Cond.instanceMethod ({ cls := "PolicyTree$FilterReader", name := "mayOpen", desc := "(II)Z" } : Jvm.MethodName)) ∈ TB := tbk_4 (List.mem_of_getElem? (i := 112) rfl) rfl
theorem wd_4_113 : (Jvm.Cond.code ({ cls := "PolicyTree$FilterReader", name := "mayOpen", desc := "(II)Z" } : Jvm.MethodName) prog_4_method_8_code (3 : Nat) (Option.some Jvm.ClassFile.FieldType.boolean)) ∈ TB := tbk_4 (List.mem_of_getElem? (i := 113) rfl) rfl
theorem wd_4_114 : (Jvm.Cond.methodLink "PolicyTree$FilterReader" (50 : Nat) ({ cls := "PolicyTree$FilterReader", name := "blame", desc := "(II)V" } : Jvm.MethodName)) ∈ TB := tbk_4 (List.mem_of_getElem? (i := 114) rfl) rfl
theorem wd_4_116 : (Jvm.Cond.instanceMethod ({ cls := "PolicyTree$FilterReader", name := "blame", desc := "(II)V" } : Jvm.MethodName)) ∈ TB := tbk_4 (List.mem_of_getElem? (i := 116) rfl) rfl
theorem wd_4_117 : (Jvm.Cond.code ({ cls := "PolicyTree$FilterReader", name := "blame", desc := "(II)V" } : Jvm.MethodName) prog_4_method_15_code (3 : Nat) (Option.none : Option Jvm.ClassFile.FieldType)) ∈ TB := tbk_4 (List.mem_of_getElem? (i := 117) rfl) rfl
theorem wd_4_119 : (Jvm.Cond.methodLink "PolicyTree$FilterReader" (76 : Nat) ({ cls := "PolicyTree$FilterReader", name := "takesWord", desc := "(Ljava/lang/String;)Z" } : Jvm.MethodName)) ∈ TB := tbk_4 (List.mem_of_getElem? (i := 119) rfl) rfl
theorem wd_4_121 : (Jvm.Cond.instanceMethod ({ cls := "PolicyTree$FilterReader", name := "takesWord", desc := "(Ljava/lang/String;)Z" } : Jvm.MethodName)) ∈ TB := tbk_4 (List.mem_of_getElem? (i := 121) rfl) rfl
theorem wd_4_122 : (Jvm.Cond.code ({ cls := "PolicyTree$FilterReader", name := "takesWord", desc := "(Ljava/lang/String;)Z" } : Jvm.MethodName) prog_4_method_12_code (4 : Nat) (Option.some Jvm.ClassFile.FieldType.boolean)) ∈ TB := tbk_4 (List.mem_of_getElem? (i := 122) rfl) rfl
theorem wd_4_123 : (Jvm.Cond.methodLink "PolicyTree$FilterReader" (111 : Nat) ({ cls := "PolicyTree$FilterReader", name := "isBetween", desc := "(III)Z" } : Jvm.MethodName)) ∈ TB := tbk_4 (List.mem_of_getElem? (i := 123) rfl) rfl
theorem wd_4_124 : (Jvm.Cond.static ({ cls := "PolicyTree$FilterReader", name := "isBetween", desc := "(III)Z" } : Jvm.MethodName)) ∈ TB := tbk_4 (List.mem_of_getElem? (i := 124) rfl) rfl
theorem wd_4_125 : (Jvm.Cond.code ({ cls := "PolicyTree$FilterReader", name := "isBetween", desc := "(III)Z" } : Jvm.MethodName) prog_4_method_13_code (3 : Nat) (Option.some Jvm.ClassFile.FieldType.boolean)) ∈ TB := tbk_4 (List.mem_of_getElem? (i := 125) rfl) rfl
theorem wd_4_126 : (Jvm.Cond.methodLink "PolicyTree$FilterReader" (118 : Nat) ({ cls := "java/lang/String", name := "length", desc := "()I" } : Jvm.MethodName)) ∈ TB := tbk_4 (List.mem_of_getElem? (i := 126) rfl) rfl
theorem wd_4_127 : (Jvm.Cond.instanceMethod ({ cls := "java/lang/String", name := "length", desc := "()I" } : Jvm.MethodName)) ∈ TB := tbk_4 (List.mem_of_getElem? (i := 127) rfl) rfl
theorem wd_4_128 : (Jvm.Cond.selects "java/lang/String" ({ cls := "java/lang/String", name := "length", desc := "()I" } : Jvm.MethodName) ({ cls := "java/lang/String", name := "length", desc := "()I" } : Jvm.MethodName)) ∈ TB := tbk_4 (List.mem_of_getElem? (i := 128) rfl) rfl
theorem wd_4_129 : (Jvm.Cond.code ({ cls := "java/lang/String", name := "length", desc := "()I" } : Jvm.MethodName) prog_26_method_54_code (1 : Nat) (Option.some Jvm.ClassFile.FieldType.int)) ∈ TB := tbk_4 (List.mem_of_getElem? (i := 129) rfl) rfl
theorem wd_4_130 : (Jvm.Cond.methodLink "java/lang/String" (335 : Nat) ({ cls := "java/lang/String", name := "coder", desc := "()B" } : Jvm.MethodName)) ∈ TB := tbk_4 (List.mem_of_getElem? (i := 130) rfl) rfl
theorem wd_4_131 : (Jvm.Cond.instanceMethod ({ cls := "java/lang/String", name := "coder", desc := "()B" } : Jvm.MethodName)) ∈ TB := tbk_4 (List.mem_of_getElem? (i := 131) rfl) rfl
theorem wd_4_132 : (Jvm.Cond.selects "java/lang/String" ({ cls := "java/lang/String", name := "coder", desc := "()B" } : Jvm.MethodName) ({ cls := "java/lang/String", name := "coder", desc := "()B" } : Jvm.MethodName)) ∈ TB := tbk_4 (List.mem_of_getElem? (i := 132) rfl) rfl
theorem wd_4_133 : (Jvm.Cond.code ({ cls := "java/lang/String", name := "coder", desc := "()B" } : Jvm.MethodName) prog_26_method_152_code (1 : Nat) (Option.some Jvm.ClassFile.FieldType.byte)) ∈ TB := tbk_4 (List.mem_of_getElem? (i := 133) rfl) rfl
theorem wd_4_134 : (Jvm.Cond.fieldLink "java/lang/String" (38 : Nat) "java/lang/String" "COMPACT_STRINGS" "Z") ∈ TB := tbk_4 (List.mem_of_getElem? (i := 134) rfl) rfl
theorem wd_4_136 : (Jvm.Cond.methodLink "PolicyTree$FilterReader" (123 : Nat) ({ cls := "java/lang/String", name := "charAt", desc := "(I)C" } : Jvm.MethodName)) ∈ TB := tbk_4 (List.mem_of_getElem? (i := 136) rfl) rfl
theorem wd_4_137 : (Jvm.Cond.instanceMethod ({ cls := "java/lang/String", name := "charAt", desc := "(I)C" } : Jvm.MethodName)) ∈ TB := tbk_4 (List.mem_of_getElem? (i := 137) rfl) rfl
theorem wd_4_138 : (Jvm.Cond.selects "java/lang/String" ({ cls := "java/lang/String", name := "charAt", desc := "(I)C" } : Jvm.MethodName) ({ cls := "java/lang/String", name := "charAt", desc := "(I)C" } : Jvm.MethodName)) ∈ TB := tbk_4 (List.mem_of_getElem? (i := 138) rfl) rfl
theorem wd_4_139 : (Jvm.Cond.code ({ cls := "java/lang/String", name := "charAt", desc := "(I)C" } : Jvm.MethodName) prog_26_method_56_code (2 : Nat) (Option.some Jvm.ClassFile.FieldType.char)) ∈ TB := tbk_4 (List.mem_of_getElem? (i := 139) rfl) rfl
theorem wd_4_140 : (Jvm.Cond.methodLink "java/lang/String" (492 : Nat) ({ cls := "java/lang/String", name := "isLatin1", desc := "()Z" } : Jvm.MethodName)) ∈ TB := tbk_4 (List.mem_of_getElem? (i := 140) rfl) rfl
theorem wd_4_141 : (Jvm.Cond.instanceMethod ({ cls := "java/lang/String", name := "isLatin1", desc := "()Z" } : Jvm.MethodName)) ∈ TB := tbk_4 (List.mem_of_getElem? (i := 141) rfl) rfl
theorem wd_4_142 : (Jvm.Cond.selects "java/lang/String" ({ cls := "java/lang/String", name := "isLatin1", desc := "()Z" } : Jvm.MethodName) ({ cls := "java/lang/String", name := "isLatin1", desc := "()Z" } : Jvm.MethodName)) ∈ TB := tbk_4 (List.mem_of_getElem? (i := 142) rfl) rfl
theorem wd_4_143 : (Jvm.Cond.code ({ cls := "java/lang/String", name := "isLatin1", desc := "()Z" } : Jvm.MethodName) prog_26_method_154_code (1 : Nat) (Option.some Jvm.ClassFile.FieldType.boolean)) ∈ TB := tbk_4 (List.mem_of_getElem? (i := 143) rfl) rfl
theorem wd_4_144 : (Jvm.Cond.methodLink "java/lang/String" (495 : Nat) ({ cls := "java/lang/StringLatin1", name := "charAt", desc := "([BI)C" } : Jvm.MethodName)) ∈ TB := tbk_4 (List.mem_of_getElem? (i := 144) rfl) rfl
theorem wd_4_145 : (Jvm.Cond.static ({ cls := "java/lang/StringLatin1", name := "charAt", desc := "([BI)C" } : Jvm.MethodName)) ∈ TB := tbk_4 (List.mem_of_getElem? (i := 145) rfl) rfl
theorem wd_4_146 : (Jvm.Cond.code ({ cls := "java/lang/StringLatin1", name := "charAt", desc := "([BI)C" } : Jvm.MethodName) prog_28_method_2_code (2 : Nat) (Option.some Jvm.ClassFile.FieldType.char)) ∈ TB := tbk_4 (List.mem_of_getElem? (i := 146) rfl) rfl
theorem wd_4_147 : (Jvm.Cond.methodLink "java/lang/StringLatin1" (9 : Nat) ({ cls := "java/lang/String", name := "checkIndex", desc := "(II)V" } : Jvm.MethodName)) ∈ TB := tbk_4 (List.mem_of_getElem? (i := 147) rfl) rfl
theorem wd_4_148 : (Jvm.Cond.static ({ cls := "java/lang/String", name := "checkIndex", desc := "(II)V" } : Jvm.MethodName)) ∈ TB := tbk_4 (List.mem_of_getElem? (i := 148) rfl) rfl
theorem wd_4_149 : (Jvm.Cond.code ({ cls := "java/lang/String", name := "checkIndex", desc := "(II)V" } : Jvm.MethodName) prog_26_method_155_code (2 : Nat) (Option.none : Option Jvm.ClassFile.FieldType)) ∈ TB := tbk_4 (List.mem_of_getElem? (i := 149) rfl) rfl
theorem wd_4_150 : (Jvm.Cond.fieldLink "java/lang/String" (1053 : Nat) "jdk/internal/util/Preconditions" "SIOOBE_FORMATTER" "Ljava/util/function/BiFunction;") ∈ TB := tbk_4 (List.mem_of_getElem? (i := 150) rfl) rfl
theorem wd_4_152 : (Jvm.Cond.methodLink "java/lang/String" (1059 : Nat) ({ cls := "jdk/internal/util/Preconditions", name := "checkIndex", desc := "(IILjava/util/function/BiFunction;)I" } : Jvm.MethodName)) ∈ TB := tbk_4 (List.mem_of_getElem? (i := 152) rfl) rfl
theorem wd_4_153 : (Jvm.Cond.methodLink "java/lang/String" (498 : Nat) ({ cls := "java/lang/StringUTF16", name := "charAt", desc := "([BI)C" } : Jvm.MethodName)) ∈ TB := tbk_4 (List.mem_of_getElem? (i := 153) rfl) rfl
theorem wd_4_154 : (Jvm.Cond.static ({ cls := "java/lang/StringUTF16", name := "charAt", desc := "([BI)C" } : Jvm.MethodName)) ∈ TB := tbk_4 (List.mem_of_getElem? (i := 154) rfl) rfl
theorem wd_4_155 : (Jvm.Cond.code ({ cls := "java/lang/StringUTF16", name := "charAt", desc := "([BI)C" } : Jvm.MethodName) prog_29_method_83_code (2 : Nat) (Option.some Jvm.ClassFile.FieldType.char)) ∈ TB := tbk_4 (List.mem_of_getElem? (i := 155) rfl) rfl
theorem wd_4_156 : (Jvm.Cond.methodLink "java/lang/StringUTF16" (67 : Nat) ({ cls := "java/lang/StringUTF16", name := "checkIndex", desc := "(I[B)V" } : Jvm.MethodName)) ∈ TB := tbk_4 (List.mem_of_getElem? (i := 156) rfl) rfl
theorem wd_4_157 : (Jvm.Cond.static ({ cls := "java/lang/StringUTF16", name := "checkIndex", desc := "(I[B)V" } : Jvm.MethodName)) ∈ TB := tbk_4 (List.mem_of_getElem? (i := 157) rfl) rfl
theorem wd_4_158 : (Jvm.Cond.code ({ cls := "java/lang/StringUTF16", name := "checkIndex", desc := "(I[B)V" } : Jvm.MethodName) prog_29_method_91_code (2 : Nat) (Option.none : Option Jvm.ClassFile.FieldType)) ∈ TB := tbk_4 (List.mem_of_getElem? (i := 158) rfl) rfl
theorem wd_4_159 : (Jvm.Cond.methodLink "java/lang/StringUTF16" (48 : Nat) ({ cls := "java/lang/StringUTF16", name := "length", desc := "([B)I" } : Jvm.MethodName)) ∈ TB := tbk_4 (List.mem_of_getElem? (i := 159) rfl) rfl
theorem wd_4_160 : (Jvm.Cond.static ({ cls := "java/lang/StringUTF16", name := "length", desc := "([B)I" } : Jvm.MethodName)) ∈ TB := tbk_4 (List.mem_of_getElem? (i := 160) rfl) rfl
theorem wd_4_161 : (Jvm.Cond.code ({ cls := "java/lang/StringUTF16", name := "length", desc := "([B)I" } : Jvm.MethodName) prog_29_method_6_code (1 : Nat) (Option.some Jvm.ClassFile.FieldType.int)) ∈ TB := tbk_4 (List.mem_of_getElem? (i := 161) rfl) rfl
theorem wd_4_162 : (Jvm.Cond.methodLink "java/lang/StringUTF16" (414 : Nat) ({ cls := "java/lang/String", name := "checkIndex", desc := "(II)V" } : Jvm.MethodName)) ∈ TB := tbk_4 (List.mem_of_getElem? (i := 162) rfl) rfl
theorem wd_4_163 : (Jvm.Cond.methodLink "java/lang/StringUTF16" (71 : Nat) ({ cls := "java/lang/StringUTF16", name := "getChar", desc := "([BI)C" } : Jvm.MethodName)) ∈ TB := tbk_4 (List.mem_of_getElem? (i := 163) rfl) rfl
theorem wd_4_164 : (Jvm.Cond.static ({ cls := "java/lang/StringUTF16", name := "getChar", desc := "([BI)C" } : Jvm.MethodName)) ∈ TB := tbk_4 (List.mem_of_getElem? (i := 164) rfl) rfl
theorem wd_4_165 : (Jvm.Cond.code ({ cls := "java/lang/StringUTF16", name := "getChar", desc := "([BI)C" } : Jvm.MethodName) prog_29_method_5_code (2 : Nat) (Option.some Jvm.ClassFile.FieldType.char)) ∈ TB := tbk_4 (List.mem_of_getElem? (i := 165) rfl) rfl
theorem wd_4_166 : (Jvm.Cond.fieldLink "java/lang/StringUTF16" (44 : Nat) "java/lang/StringUTF16" "$assertionsDisabled" "Z") ∈ TB := tbk_4 (List.mem_of_getElem? (i := 166) rfl) rfl
theorem wd_4_168 : (Jvm.Cond.fieldLink "java/lang/StringUTF16" (59 : Nat) "java/lang/StringUTF16" "HI_BYTE_SHIFT" "I") ∈ TB := tbk_4 (List.mem_of_getElem? (i := 168) rfl) rfl
theorem wd_4_170 : (Jvm.Cond.fieldLink "java/lang/StringUTF16" (63 : Nat) "java/lang/StringUTF16" "LO_BYTE_SHIFT" "I") ∈ TB := tbk_4 (List.mem_of_getElem? (i := 170) rfl) rfl
theorem wd_4_172 : (Jvm.Cond.methodLink "PolicyTree$FilterReader" (80 : Nat) ({ cls := "PolicyTree$FilterReader", name := "addStep", desc := "(II)V" } : Jvm.MethodName)) ∈ TB := tbk_4 (List.mem_of_getElem? (i := 172) rfl) rfl
theorem wd_4_174 : (Jvm.Cond.instanceMethod ({ cls := "PolicyTree$FilterReader", name := "addStep", desc := "(II)V" } : Jvm.MethodName)) ∈ TB := tbk_4 (List.mem_of_getElem? (i := 174) rfl) rfl
theorem wd_4_175 : (Jvm.Cond.code ({ cls := "PolicyTree$FilterReader", name := "addStep", desc := "(II)V" } : Jvm.MethodName) prog_4_method_14_code (3 : Nat) (Option.none : Option Jvm.ClassFile.FieldType)) ∈ TB := tbk_4 (List.mem_of_getElem? (i := 175) rfl) rfl
theorem wd_4_177 : (Jvm.Cond.methodLink "PolicyTree$FilterReader" (100 : Nat) ({ cls := "PolicyTree$FilterReader", name := "readNumber", desc := "(II)V" } : Jvm.MethodName)) ∈ TB := tbk_4 (List.mem_of_getElem? (i := 177) rfl) rfl
theorem wd_4_179 : (Jvm.Cond.instanceMethod ({ cls := "PolicyTree$FilterReader", name := "readNumber", desc := "(II)V" } : Jvm.MethodName)) ∈ TB := tbk_4 (List.mem_of_getElem? (i := 179) rfl) rfl
theorem wd_4_180 : (Jvm.Cond.code ({ cls := "PolicyTree$FilterReader", name := "readNumber", desc := "(II)V" } : Jvm.MethodName) prog_4_method_9_code (5 : Nat) (Option.none : Option Jvm.ClassFile.FieldType)) ∈ TB := tbk_4 (List.mem_of_getElem? (i := 180) rfl) rfl
theorem wd_4_181 : (Jvm.Cond.methodLink "PolicyTree$FilterReader" (115 : Nat) ({ cls := "java/lang/Math", name := "min", desc := "(II)I" } : Jvm.MethodName)) ∈ TB := tbk_4 (List.mem_of_getElem? (i := 181) rfl) rfl
theorem wd_4_186 : (Jvm.Cond.methodLink "PolicyTree" (180 : Nat) ({ cls := "PolicyTree$Tape", name := "clear", desc := "()V" } : Jvm.MethodName)) ∈ TB := tbk_4 (List.mem_of_getElem? (i := 186) rfl) rfl
theorem wd_4_187 : (Jvm.Cond.instanceMethod ({ cls := "PolicyTree$Tape", name := "clear", desc := "()V" } : Jvm.MethodName)) ∈ TB := tbk_4 (List.mem_of_getElem? (i := 187) rfl) rfl
theorem wd_4_188 : (Jvm.Cond.selects "PolicyTree$Tape" ({ cls := "PolicyTree$Tape", name := "clear", desc := "()V" } : Jvm.MethodName) ({ cls := "PolicyTree$Tape", name := "clear", desc := "()V" } : Jvm.MethodName)) ∈ TB := tbk_4 (List.mem_of_getElem? (i := 188) rfl) rfl
theorem wd_4_189 : (Jvm.Cond.code ({ cls := "PolicyTree$Tape", name := "clear", desc := "()V" } : Jvm.MethodName) prog_12_method_6_code (1 : Nat) (Option.none : Option Jvm.ClassFile.FieldType)) ∈ TB := tbk_4 (List.mem_of_getElem? (i := 189) rfl) rfl
theorem wd_4_190 : (Jvm.Cond.methodLink "PolicyTree" (183 : Nat) ({ cls := "PolicyTree$FilterReader", name := "faultPlace", desc := "()I" } : Jvm.MethodName)) ∈ TB := tbk_4 (List.mem_of_getElem? (i := 190) rfl) rfl
theorem wd_4_191 : (Jvm.Cond.instanceMethod ({ cls := "PolicyTree$FilterReader", name := "faultPlace", desc := "()I" } : Jvm.MethodName)) ∈ TB := tbk_4 (List.mem_of_getElem? (i := 191) rfl) rfl
theorem wd_4_192 : (Jvm.Cond.selects "PolicyTree$FilterReader" ({ cls := "PolicyTree$FilterReader", name := "faultPlace", desc := "()I" } : Jvm.MethodName) ({ cls := "PolicyTree$FilterReader", name := "faultPlace", desc := "()I" } : Jvm.MethodName)) ∈ TB := tbk_4 (List.mem_of_getElem? (i := 192) rfl) rfl
theorem wd_4_193 : (Jvm.Cond.code ({ cls := "PolicyTree$FilterReader", name := "faultPlace", desc := "()I" } : Jvm.MethodName) prog_4_method_3_code (1 : Nat) (Option.some Jvm.ClassFile.FieldType.int)) ∈ TB := tbk_4 (List.mem_of_getElem? (i := 193) rfl) rfl
theorem wd_4_194 : (Jvm.Cond.instantiable "PolicyTree$Link" (7 : Nat)) ∈ TB := tbk_4 (List.mem_of_getElem? (i := 194) rfl) rfl
theorem wd_4_195 : (Jvm.Cond.methodLink "PolicyTree" (187 : Nat) ({ cls := "PolicyTree$FilterReader", name := "filter", desc := "()LPolicyTree$Filter;" } : Jvm.MethodName)) ∈ TB := tbk_4 (List.mem_of_getElem? (i := 195) rfl) rfl
theorem wd_4_196 : (Jvm.Cond.instanceMethod ({ cls := "PolicyTree$FilterReader", name := "filter", desc := "()LPolicyTree$Filter;" } : Jvm.MethodName)) ∈ TB := tbk_4 (List.mem_of_getElem? (i := 196) rfl) rfl
theorem wd_4_197 : (Jvm.Cond.selects "PolicyTree$FilterReader" ({ cls := "PolicyTree$FilterReader", name := "filter", desc := "()LPolicyTree$Filter;" } : Jvm.MethodName) ({ cls := "PolicyTree$FilterReader", name := "filter", desc := "()LPolicyTree$Filter;" } : Jvm.MethodName)) ∈ TB := tbk_4 (List.mem_of_getElem? (i := 197) rfl) rfl
theorem wd_4_198 : (Jvm.Cond.code ({ cls := "PolicyTree$FilterReader", name := "filter", desc := "()LPolicyTree$Filter;" } : Jvm.MethodName) prog_4_method_4_code (1 : Nat) (Option.some (Jvm.ClassFile.FieldType.object "PolicyTree$Filter"))) ∈ TB := tbk_4 (List.mem_of_getElem? (i := 198) rfl) rfl
theorem wd_4_199 : (Jvm.Cond.classLink "PolicyTree$FilterReader" (54 : Nat) "PolicyTree$Filter") ∈ TB := tbk_4 (List.mem_of_getElem? (i := 199) rfl) rfl
theorem wd_4_200 : (Jvm.Cond.instantiable "PolicyTree$Filter" (1 : Nat)) ∈ TB := tbk_4 (List.mem_of_getElem? (i := 200) rfl) rfl
theorem wd_4_201 : (Jvm.Cond.methodLink "PolicyTree$FilterReader" (56 : Nat) ({ cls := "java/lang/Math", name := "max", desc := "(II)I" } : Jvm.MethodName)) ∈ TB := tbk_4 (List.mem_of_getElem? (i := 201) rfl) rfl
theorem wd_4_202 : (Jvm.Cond.methodLink "PolicyTree$FilterReader" (62 : Nat) ({ cls := "java/util/Arrays", name := "copyOf", desc := "([II)[I" } : Jvm.MethodName)) ∈ TB := tbk_4 (List.mem_of_getElem? (i := 202) rfl) rfl
theorem wd_4_203 : (Jvm.Cond.static ({ cls := "java/util/Arrays", name := "copyOf", desc := "([II)[I" } : Jvm.MethodName)) ∈ TB := tbk_4 (List.mem_of_getElem? (i := 203) rfl) rfl
theorem wd_4_204 : (Jvm.Cond.code ({ cls := "java/util/Arrays", name := "copyOf", desc := "([II)[I" } : Jvm.MethodName) prog_35_method_123_code (3 : Nat) (Option.some (Jvm.ClassFile.FieldType.array Jvm.ClassFile.FieldType.int))) ∈ TB := tbk_4 (List.mem_of_getElem? (i := 204) rfl) rfl
theorem wd_4_205 : (Jvm.Cond.methodLink "java/util/Arrays" (316 : Nat) ({ cls := "[I", name := "clone", desc := "()Ljava/lang/Object;" } : Jvm.MethodName)) ∈ TB := tbk_4 (List.mem_of_getElem? (i := 205) rfl) rfl
theorem wd_4_206 : (Jvm.Cond.sameMethod "[I" "java/lang/Object" "clone" "()Ljava/lang/Object;") ∈ TB := tbk_4 (List.mem_of_getElem? (i := 206) rfl) rfl
theorem wd_4_208 : (Jvm.Cond.instanceMethod ({ cls := "java/lang/Object", name := "clone", desc := "()Ljava/lang/Object;" } : Jvm.MethodName)) ∈ TB := tbk_4 (List.mem_of_getElem? (i := 208) rfl) rfl
theorem wd_4_209 : (Jvm.Cond.selects "[I" ({ cls := "[I", name := "clone", desc := "()Ljava/lang/Object;" } : Jvm.MethodName) ({ cls := "java/lang/Object", name := "clone", desc := "()Ljava/lang/Object;" } : Jvm.MethodName)) ∈ TB := tbk_4 (List.mem_of_getElem? (i := 209) rfl) rfl
theorem wd_4_211 : (Jvm.Cond.classLink "java/util/Arrays" (317 : Nat) "[I") ∈ TB := tbk_4 (List.mem_of_getElem? (i := 211) rfl) rfl
theorem wd_4_212 : (Jvm.Cond.methodLink "PolicyTree$FilterReader" (68 : Nat) ({ cls := "PolicyTree$Filter", name := "<init>", desc := "([I)V" } : Jvm.MethodName)) ∈ TB := tbk_4 (List.mem_of_getElem? (i := 212) rfl) rfl
theorem wd_4_213 : (Jvm.Cond.instanceMethod ({ cls := "PolicyTree$Filter", name := "<init>", desc := "([I)V" } : Jvm.MethodName)) ∈ TB := tbk_4 (List.mem_of_getElem? (i := 213) rfl) rfl
theorem wd_4_214 : (Jvm.Cond.code ({ cls := "PolicyTree$Filter", name := "<init>", desc := "([I)V" } : Jvm.MethodName) prog_3_method_1_code (2 : Nat) (Option.none : Option Jvm.ClassFile.FieldType)) ∈ TB := tbk_4 (List.mem_of_getElem? (i := 214) rfl) rfl
theorem wd_4_215 : (Jvm.Cond.methodLink "PolicyTree$Filter" (1 : Nat) ({ cls := "java/lang/Object", name := "<init>", desc := "()V" } : Jvm.MethodName)) ∈ TB := tbk_4 (List.mem_of_getElem? (i := 215) rfl) rfl
theorem wd_4_216 : (Jvm.Cond.fieldLink "PolicyTree$Filter" (7 : Nat) "PolicyTree$Filter" "steps" "[I") ∈ TB := tbk_4 (List.mem_of_getElem? (i := 216) rfl) rfl
theorem wd_4_217 : (Jvm.Cond.laysFinal "PolicyTree$Filter" "PolicyTree$Filter" "steps" "[I") ∈ TB := tbk_4 (List.mem_of_getElem? (i := 217) rfl) rfl
theorem wd_4_220 : (Jvm.Cond.methodLink "PolicyTree" (191 : Nat) ({ cls := "PolicyTree$Link", name := "<init>", desc := "(ILPolicyTree$Node;LPolicyTree$Bundle;IZLPolicyTree$Filter;)V" } : Jvm.MethodName)) ∈ TB := tbk_4 (List.mem_of_getElem? (i := 220) rfl) rfl
theorem wd_4_221 : (Jvm.Cond.instanceMethod ({ cls := "PolicyTree$Link", name := "<init>", desc := "(ILPolicyTree$Node;LPolicyTree$Bundle;IZLPolicyTree$Filter;)V" } : Jvm.MethodName)) ∈ TB := tbk_4 (List.mem_of_getElem? (i := 221) rfl) rfl
theorem wd_4_222 : (Jvm.Cond.code ({ cls := "PolicyTree$Link", name := "<init>", desc := "(ILPolicyTree$Node;LPolicyTree$Bundle;IZLPolicyTree$Filter;)V" } : Jvm.MethodName) prog_6_method_1_code (7 : Nat) (Option.none : Option Jvm.ClassFile.FieldType)) ∈ TB := tbk_4 (List.mem_of_getElem? (i := 222) rfl) rfl
theorem wd_4_223 : (Jvm.Cond.methodLink "PolicyTree$Link" (1 : Nat) ({ cls := "java/lang/Object", name := "<init>", desc := "()V" } : Jvm.MethodName)) ∈ TB := tbk_4 (List.mem_of_getElem? (i := 223) rfl) rfl
theorem wd_4_224 : (Jvm.Cond.fieldLink "PolicyTree$Link" (7 : Nat) "PolicyTree$Link" "number" "I") ∈ TB := tbk_4 (List.mem_of_getElem? (i := 224) rfl) rfl
theorem wd_4_225 : (Jvm.Cond.fieldLink "PolicyTree" (198 : Nat) "PolicyTree$Link" "number" "I") ∈ TB := tbk_4 (List.mem_of_getElem? (i := 225) rfl) rfl
theorem wd_4_226 : (Jvm.Cond.fieldLink "PolicyTree$Link" (13 : Nat) "PolicyTree$Link" "node" "LPolicyTree$Node;") ∈ TB := tbk_4 (List.mem_of_getElem? (i := 226) rfl) rfl
theorem wd_4_227 : (Jvm.Cond.fieldLink "PolicyTree" (204 : Nat) "PolicyTree$Link" "node" "LPolicyTree$Node;") ∈ TB := tbk_4 (List.mem_of_getElem? (i := 227) rfl) rfl
theorem wd_4_228 : (Jvm.Cond.fieldLink "PolicyTree$Link" (17 : Nat) "PolicyTree$Link" "set" "LPolicyTree$Bundle;") ∈ TB := tbk_4 (List.mem_of_getElem? (i := 228) rfl) rfl
theorem wd_4_229 : (Jvm.Cond.fieldLink "PolicyTree$Outcome" (36 : Nat) "PolicyTree$Link" "set" "LPolicyTree$Bundle;") ∈ TB := tbk_4 (List.mem_of_getElem? (i := 229) rfl) rfl
theorem wd_4_230 : (Jvm.Cond.fieldLink "PolicyTree$Row" (107 : Nat) "PolicyTree$Link" "set" "LPolicyTree$Bundle;") ∈ TB := tbk_4 (List.mem_of_getElem? (i := 230) rfl) rfl
theorem wd_4_231 : (Jvm.Cond.fieldLink "PolicyTree" (278 : Nat) "PolicyTree$Link" "set" "LPolicyTree$Bundle;") ∈ TB := tbk_4 (List.mem_of_getElem? (i := 231) rfl) rfl
theorem wd_4_232 : (Jvm.Cond.fieldLink "PolicyTree$Link" (21 : Nat) "PolicyTree$Link" "order" "I") ∈ TB := tbk_4 (List.mem_of_getElem? (i := 232) rfl) rfl
theorem wd_4_233 : (Jvm.Cond.fieldLink "PolicyTree$Node" (34 : Nat) "PolicyTree$Link" "order" "I") ∈ TB := tbk_4 (List.mem_of_getElem? (i := 233) rfl) rfl
theorem wd_4_234 : (Jvm.Cond.fieldLink "PolicyTree$Link" (24 : Nat) "PolicyTree$Link" "forced" "Z") ∈ TB := tbk_4 (List.mem_of_getElem? (i := 234) rfl) rfl
theorem wd_4_235 : (Jvm.Cond.fieldLink "PolicyTree$Row" (104 : Nat) "PolicyTree$Link" "forced" "Z") ∈ TB := tbk_4 (List.mem_of_getElem? (i := 235) rfl) rfl
theorem wd_4_236 : (Jvm.Cond.fieldLink "PolicyTree$Link" (28 : Nat) "PolicyTree$Link" "filter" "LPolicyTree$Filter;") ∈ TB := tbk_4 (List.mem_of_getElem? (i := 236) rfl) rfl
theorem wd_4_237 : (Jvm.Cond.fieldLink "PolicyTree$Row" (79 : Nat) "PolicyTree$Link" "filter" "LPolicyTree$Filter;") ∈ TB := tbk_4 (List.mem_of_getElem? (i := 237) rfl) rfl
theorem wd_4_238 : (Jvm.Cond.fieldLink "PolicyTree$Link" (32 : Nat) "PolicyTree$Link" "ended" "Z") ∈ TB := tbk_4 (List.mem_of_getElem? (i := 238) rfl) rfl
theorem wd_4_239 : (Jvm.Cond.fieldLink "PolicyTree" (201 : Nat) "PolicyTree$Link" "ended" "Z") ∈ TB := tbk_4 (List.mem_of_getElem? (i := 239) rfl) rfl
theorem wd_5_0 : (Jvm.Cond.laysFinal "PolicyTree$Link" "PolicyTree$Link" "number" "I") ∈ TB := tbk_5 (List.mem_of_getElem? (i := 0) rfl) rfl
theorem wd_5_2 : (Jvm.Cond.laysFinal "PolicyTree$Link" "PolicyTree$Link" "node" "LPolicyTree$Node;") ∈ TB := tbk_5 (List.mem_of_getElem? (i := 2) rfl) rfl
theorem wd_5_4 : (Jvm.Cond.laysFinal "PolicyTree$Link" "PolicyTree$Link" "set" "LPolicyTree$Bundle;") ∈ TB := tbk_5 (List.mem_of_getElem? (i := 4) rfl) rfl
theorem wd_5_6 : (Jvm.Cond.laysFinal "PolicyTree$Link" "PolicyTree$Link" "order" "I") ∈ TB := tbk_5 (List.mem_of_getElem? (i := 6) rfl) rfl
theorem wd_5_8 : (Jvm.Cond.laysFinal "PolicyTree$Link" "PolicyTree$Link" "forced" "Z") ∈ TB := tbk_5 (List.mem_of_getElem? (i := 8) rfl) rfl
theorem wd_5_10 : (Jvm.Cond.laysFinal "PolicyTree$Link" "PolicyTree$Link" "filter" "LPolicyTree$Filter;") ∈ TB := tbk_5 (List.mem_of_getElem? (i := 10) rfl) rfl
theorem wd_5_12 : (Jvm.Cond.lays "PolicyTree$Link" "PolicyTree$Link" "ended" "Z") ∈ TB := tbk_5 (List.mem_of_getElem? (i := 12) rfl) rfl
theorem wd_5_15 : (Jvm.Cond.methodLink "PolicyTree" (194 : Nat) ({ cls := "PolicyTree$Node", name := "insert", desc := "(LPolicyTree$Link;)V" } : Jvm.MethodName)) ∈ TB := tbk_5 (List.mem_of_getElem? (i := 15) rfl) rfl
theorem wd_5_16 : (Jvm.Cond.instanceMethod ({ cls := "PolicyTree$Node", name := "insert", desc := "(LPolicyTree$Link;)V" } : Jvm.MethodName)) ∈ TB := tbk_5 (List.mem_of_getElem? (i := 16) rfl) rfl
theorem wd_5_17 : (Jvm.Cond.selects "PolicyTree$Node" ({ cls := "PolicyTree$Node", name := "insert", desc := "(LPolicyTree$Link;)V" } : Jvm.MethodName) ({ cls := "PolicyTree$Node", name := "insert", desc := "(LPolicyTree$Link;)V" } : Jvm.MethodName)) ∈ TB := tbk_5 (List.mem_of_getElem? (i := 17) rfl) rfl
theorem wd_5_18 : (Jvm.Cond.code ({ cls := "PolicyTree$Node", name := "insert", desc := "(LPolicyTree$Link;)V" } : Jvm.MethodName) prog_8_method_5_code (4 : Nat) (Option.none : Option Jvm.ClassFile.FieldType)) ∈ TB := tbk_5 (List.mem_of_getElem? (i := 18) rfl) rfl
theorem wd_5_19 : (Jvm.Cond.methodLink "PolicyTree$Node" (37 : Nat) ({ cls := "java/util/ArrayList", name := "add", desc := "(ILjava/lang/Object;)V" } : Jvm.MethodName)) ∈ TB := tbk_5 (List.mem_of_getElem? (i := 19) rfl) rfl
theorem wd_5_20 : (Jvm.Cond.instanceMethod ({ cls := "java/util/ArrayList", name := "add", desc := "(ILjava/lang/Object;)V" } : Jvm.MethodName)) ∈ TB := tbk_5 (List.mem_of_getElem? (i := 20) rfl) rfl
theorem wd_5_21 : (Jvm.Cond.selects "java/util/ArrayList" ({ cls := "java/util/ArrayList", name := "add", desc := "(ILjava/lang/Object;)V" } : Jvm.MethodName) ({ cls := "java/util/ArrayList", name := "add", desc := "(ILjava/lang/Object;)V" } : Jvm.MethodName)) ∈ TB := tbk_5 (List.mem_of_getElem? (i := 21) rfl) rfl
theorem wd_5_22 : (Jvm.Cond.code ({ cls := "java/util/ArrayList", name := "add", desc := "(ILjava/lang/Object;)V" } : Jvm.MethodName) prog_34_method_26_code (5 : Nat) (Option.none : Option Jvm.ClassFile.FieldType)) ∈ TB := tbk_5 (List.mem_of_getElem? (i := 22) rfl) rfl
theorem wd_5_23 : (Jvm.Cond.methodLink "java/util/ArrayList" (135 : Nat) ({ cls := "java/util/ArrayList", name := "rangeCheckForAdd", desc := "(I)V" } : Jvm.MethodName)) ∈ TB := tbk_5 (List.mem_of_getElem? (i := 23) rfl) rfl
theorem wd_5_25 : (Jvm.Cond.instanceMethod ({ cls := "java/util/ArrayList", name := "rangeCheckForAdd", desc := "(I)V" } : Jvm.MethodName)) ∈ TB := tbk_5 (List.mem_of_getElem? (i := 25) rfl) rfl
theorem wd_5_26 : (Jvm.Cond.code ({ cls := "java/util/ArrayList", name := "rangeCheckForAdd", desc := "(I)V" } : Jvm.MethodName) prog_34_method_45_code (2 : Nat) (Option.none : Option Jvm.ClassFile.FieldType)) ∈ TB := tbk_5 (List.mem_of_getElem? (i := 26) rfl) rfl
theorem wd_5_27 : (Jvm.Cond.classLink "java/util/ArrayList" (187 : Nat) "java/lang/IndexOutOfBoundsException") ∈ TB := tbk_5 (List.mem_of_getElem? (i := 27) rfl) rfl
theorem wd_5_28 : (Jvm.Cond.methodLink "java/util/ArrayList" (198 : Nat) ({ cls := "java/util/ArrayList", name := "outOfBoundsMsg", desc := "(I)Ljava/lang/String;" } : Jvm.MethodName)) ∈ TB := tbk_5 (List.mem_of_getElem? (i := 28) rfl) rfl
theorem wd_5_30 : (Jvm.Cond.instanceMethod ({ cls := "java/util/ArrayList", name := "outOfBoundsMsg", desc := "(I)Ljava/lang/String;" } : Jvm.MethodName)) ∈ TB := tbk_5 (List.mem_of_getElem? (i := 30) rfl) rfl
theorem wd_5_31 : (Jvm.Cond.code ({ cls := "java/util/ArrayList", name := "outOfBoundsMsg", desc := "(I)Ljava/lang/String;" } : Jvm.MethodName) prog_34_method_46_code (2 : Nat) (Option.some (Jvm.ClassFile.FieldType.object "java/lang/String"))) ∈ TB := tbk_5 (List.mem_of_getElem? (i := 31) rfl) rfl
theorem wd_5_32 : (Jvm.Cond.classLink "java/util/ArrayList" (20 : Nat) "java/lang/StringBuilder") ∈ TB := tbk_5 (List.mem_of_getElem? (i := 32) rfl) rfl
theorem wd_5_33 : (Jvm.Cond.instantiable "java/lang/StringBuilder" (4 : Nat)) ∈ TB := tbk_5 (List.mem_of_getElem? (i := 33) rfl) rfl
theorem wd_5_34 : (Jvm.Cond.methodLink "java/util/ArrayList" (22 : Nat) ({ cls := "java/lang/StringBuilder", name := "<init>", desc := "()V" } : Jvm.MethodName)) ∈ TB := tbk_5 (List.mem_of_getElem? (i := 34) rfl) rfl
theorem wd_5_35 : (Jvm.Cond.instanceMethod ({ cls := "java/lang/StringBuilder", name := "<init>", desc := "()V" } : Jvm.MethodName)) ∈ TB := tbk_5 (List.mem_of_getElem? (i := 35) rfl) rfl
theorem wd_5_36 : (Jvm.Cond.code ({ cls := "java/lang/StringBuilder", name := "<init>", desc := "()V" } : Jvm.MethodName) prog_27_method_1_code (1 : Nat) (Option.none : Option Jvm.ClassFile.FieldType)) ∈ TB := tbk_5 (List.mem_of_getElem? (i := 36) rfl) rfl
theorem wd_5_37 : (Jvm.Cond.methodLink "java/lang/StringBuilder" (1 : Nat) ({ cls := "java/lang/AbstractStringBuilder", name := "<init>", desc := "(I)V" } : Jvm.MethodName)) ∈ TB := tbk_5 (List.mem_of_getElem? (i := 37) rfl) rfl
theorem wd_5_38 : (Jvm.Cond.instanceMethod ({ cls := "java/lang/AbstractStringBuilder", name := "<init>", desc := "(I)V" } : Jvm.MethodName)) ∈ TB := tbk_5 (List.mem_of_getElem? (i := 38) rfl) rfl
theorem wd_5_39 : (Jvm.Cond.code ({ cls := "java/lang/AbstractStringBuilder", name := "<init>", desc := "(I)V" } : Jvm.MethodName) prog_16_method_2_code (2 : Nat) (Option.none : Option Jvm.ClassFile.FieldType)) ∈ TB := tbk_5 (List.mem_of_getElem? (i := 39) rfl) rfl
theorem wd_5_40 : (Jvm.Cond.methodLink "java/lang/AbstractStringBuilder" (3 : Nat) ({ cls := "java/lang/Object", name := "<init>", desc := "()V" } : Jvm.MethodName)) ∈ TB := tbk_5 (List.mem_of_getElem? (i := 40) rfl) rfl
theorem wd_5_41 : (Jvm.Cond.fieldLink "java/lang/AbstractStringBuilder" (18 : Nat) "java/lang/String" "COMPACT_STRINGS" "Z") ∈ TB := tbk_5 (List.mem_of_getElem? (i := 41) rfl) rfl
theorem wd_5_42 : (Jvm.Cond.methodLink "java/lang/AbstractStringBuilder" (26 : Nat) ({ cls := "java/lang/StringUTF16", name := "newBytesFor", desc := "(I)[B" } : Jvm.MethodName)) ∈ TB := tbk_5 (List.mem_of_getElem? (i := 42) rfl) rfl
theorem wd_5_43 : (Jvm.Cond.static ({ cls := "java/lang/StringUTF16", name := "newBytesFor", desc := "(I)[B" } : Jvm.MethodName)) ∈ TB := tbk_5 (List.mem_of_getElem? (i := 43) rfl) rfl
theorem wd_5_44 : (Jvm.Cond.code ({ cls := "java/lang/StringUTF16", name := "newBytesFor", desc := "(I)[B" } : Jvm.MethodName) prog_29_method_2_code (1 : Nat) (Option.some (Jvm.ClassFile.FieldType.array Jvm.ClassFile.FieldType.byte))) ∈ TB := tbk_5 (List.mem_of_getElem? (i := 44) rfl) rfl
theorem wd_5_45 : (Jvm.Cond.methodLink "java/lang/StringUTF16" (11 : Nat) ({ cls := "java/lang/StringUTF16", name := "newBytesLength", desc := "(I)I" } : Jvm.MethodName)) ∈ TB := tbk_5 (List.mem_of_getElem? (i := 45) rfl) rfl
theorem wd_5_46 : (Jvm.Cond.static ({ cls := "java/lang/StringUTF16", name := "newBytesLength", desc := "(I)I" } : Jvm.MethodName)) ∈ TB := tbk_5 (List.mem_of_getElem? (i := 46) rfl) rfl
theorem wd_5_47 : (Jvm.Cond.code ({ cls := "java/lang/StringUTF16", name := "newBytesLength", desc := "(I)I" } : Jvm.MethodName) prog_29_method_3_code (1 : Nat) (Option.some Jvm.ClassFile.FieldType.int)) ∈ TB := tbk_5 (List.mem_of_getElem? (i := 47) rfl) rfl
theorem wd_5_48 : (Jvm.Cond.constant "java/lang/StringUTF16" (20 : Nat) (1073741823 : Int32)) ∈ TB := tbk_5 (List.mem_of_getElem? (i := 48) rfl) rfl
theorem wd_5_49 : (Jvm.Cond.fieldLink "java/lang/AbstractStringBuilder" (15 : Nat) "java/lang/AbstractStringBuilder" "value" "[B") ∈ TB := tbk_5 (List.mem_of_getElem? (i := 49) rfl) rfl
theorem wd_5_50 : (Jvm.Cond.fieldLink "java/lang/AbstractStringBuilder" (22 : Nat) "java/lang/AbstractStringBuilder" "coder" "B") ∈ TB := tbk_5 (List.mem_of_getElem? (i := 50) rfl) rfl
theorem wd_5_51 : (Jvm.Cond.fieldLink "java/lang/String" (1048 : Nat) "java/lang/AbstractStringBuilder" "maybeLatin1" "Z") ∈ TB := tbk_5 (List.mem_of_getElem? (i := 51) rfl) rfl
theorem wd_5_52 : (Jvm.Cond.fieldLink "java/lang/AbstractStringBuilder" (79 : Nat) "java/lang/AbstractStringBuilder" "count" "I") ∈ TB := tbk_5 (List.mem_of_getElem? (i := 52) rfl) rfl
theorem wd_5_53 : (Jvm.Cond.lays "java/lang/StringBuilder" "java/lang/AbstractStringBuilder" "value" "[B") ∈ TB := tbk_5 (List.mem_of_getElem? (i := 53) rfl) rfl
theorem wd_5_55 : (Jvm.Cond.lays "java/lang/StringBuilder" "java/lang/AbstractStringBuilder" "coder" "B") ∈ TB := tbk_5 (List.mem_of_getElem? (i := 55) rfl) rfl
theorem wd_5_57 : (Jvm.Cond.lays "java/lang/StringBuilder" "java/lang/AbstractStringBuilder" "maybeLatin1" "Z") ∈ TB := tbk_5 (List.mem_of_getElem? (i := 57) rfl) rfl
theorem wd_5_59 : (Jvm.Cond.lays "java/lang/StringBuilder" "java/lang/AbstractStringBuilder" "count" "I") ∈ TB := tbk_5 (List.mem_of_getElem? (i := 59) rfl) rfl
theorem wd_5_63 : (Jvm.Cond.methodLink "java/util/ArrayList" (25 : Nat) ({ cls := "java/lang/StringBuilder", name := "append", desc := "(Ljava/lang/String;)Ljava/lang/StringBuilder;" } : Jvm.MethodName)) ∈ TB := tbk_5 (List.mem_of_getElem? (i := 63) rfl) rfl
theorem wd_5_64 : (Jvm.Cond.instanceMethod ({ cls := "java/lang/StringBuilder", name := "append", desc := "(Ljava/lang/String;)Ljava/lang/StringBuilder;" } : Jvm.MethodName)) ∈ TB := tbk_5 (List.mem_of_getElem? (i := 64) rfl) rfl
theorem wd_5_65 : (Jvm.Cond.selects "java/lang/StringBuilder" ({ cls := "java/lang/StringBuilder", name := "append", desc := "(Ljava/lang/String;)Ljava/lang/StringBuilder;" } : Jvm.MethodName) ({ cls := "java/lang/StringBuilder", name := "append", desc := "(Ljava/lang/String;)Ljava/lang/StringBuilder;" } : Jvm.MethodName)) ∈ TB := tbk_5 (List.mem_of_getElem? (i := 65) rfl) rfl
theorem wd_5_66 : (Jvm.Cond.code ({ cls := "java/lang/StringBuilder", name := "append", desc := "(Ljava/lang/String;)Ljava/lang/StringBuilder;" } : Jvm.MethodName) prog_27_method_7_code (2 : Nat) (Option.some (Jvm.ClassFile.FieldType.object "java/lang/StringBuilder"))) ∈ TB := tbk_5 (List.mem_of_getElem? (i := 66) rfl) rfl
theorem wd_5_67 : (Jvm.Cond.methodLink "java/lang/StringBuilder" (29 : Nat) ({ cls := "java/lang/AbstractStringBuilder", name := "append", desc := "(Ljava/lang/String;)Ljava/lang/AbstractStringBuilder;" } : Jvm.MethodName)) ∈ TB := tbk_5 (List.mem_of_getElem? (i := 67) rfl) rfl
theorem wd_5_68 : (Jvm.Cond.instanceMethod ({ cls := "java/lang/AbstractStringBuilder", name := "append", desc := "(Ljava/lang/String;)Ljava/lang/AbstractStringBuilder;" } : Jvm.MethodName)) ∈ TB := tbk_5 (List.mem_of_getElem? (i := 68) rfl) rfl
theorem wd_5_69 : (Jvm.Cond.code ({ cls := "java/lang/AbstractStringBuilder", name := "append", desc := "(Ljava/lang/String;)Ljava/lang/AbstractStringBuilder;" } : Jvm.MethodName) prog_16_method_22_code (3 : Nat) (Option.some (Jvm.ClassFile.FieldType.object "java/lang/AbstractStringBuilder"))) ∈ TB := tbk_5 (List.mem_of_getElem? (i := 69) rfl) rfl
theorem wd_5_70 : (Jvm.Cond.methodLink "java/lang/AbstractStringBuilder" (204 : Nat) ({ cls := "java/lang/AbstractStringBuilder", name := "appendNull", desc := "()Ljava/lang/AbstractStringBuilder;" } : Jvm.MethodName)) ∈ TB := tbk_5 (List.mem_of_getElem? (i := 70) rfl) rfl
theorem wd_5_72 : (Jvm.Cond.instanceMethod ({ cls := "java/lang/AbstractStringBuilder", name := "appendNull", desc := "()Ljava/lang/AbstractStringBuilder;" } : Jvm.MethodName)) ∈ TB := tbk_5 (List.mem_of_getElem? (i := 72) rfl) rfl
theorem wd_5_73 : (Jvm.Cond.code ({ cls := "java/lang/AbstractStringBuilder", name := "appendNull", desc := "()Ljava/lang/AbstractStringBuilder;" } : Jvm.MethodName) prog_16_method_26_code (3 : Nat) (Option.some (Jvm.ClassFile.FieldType.object "java/lang/AbstractStringBuilder"))) ∈ TB := tbk_5 (List.mem_of_getElem? (i := 73) rfl) rfl
theorem wd_5_74 : (Jvm.Cond.methodLink "java/lang/AbstractStringBuilder" (100 : Nat) ({ cls := "java/lang/AbstractStringBuilder", name := "ensureCapacityInternal", desc := "(I)V" } : Jvm.MethodName)) ∈ TB := tbk_5 (List.mem_of_getElem? (i := 74) rfl) rfl
theorem wd_5_76 : (Jvm.Cond.instanceMethod ({ cls := "java/lang/AbstractStringBuilder", name := "ensureCapacityInternal", desc := "(I)V" } : Jvm.MethodName)) ∈ TB := tbk_5 (List.mem_of_getElem? (i := 76) rfl) rfl
theorem wd_5_77 : (Jvm.Cond.code ({ cls := "java/lang/AbstractStringBuilder", name := "ensureCapacityInternal", desc := "(I)V" } : Jvm.MethodName) prog_16_method_9_code (3 : Nat) (Option.none : Option Jvm.ClassFile.FieldType)) ∈ TB := tbk_5 (List.mem_of_getElem? (i := 77) rfl) rfl
theorem wd_5_78 : (Jvm.Cond.methodLink "java/lang/AbstractStringBuilder" (104 : Nat) ({ cls := "java/lang/AbstractStringBuilder", name := "newCapacity", desc := "(I)I" } : Jvm.MethodName)) ∈ TB := tbk_5 (List.mem_of_getElem? (i := 78) rfl) rfl
theorem wd_5_80 : (Jvm.Cond.instanceMethod ({ cls := "java/lang/AbstractStringBuilder", name := "newCapacity", desc := "(I)I" } : Jvm.MethodName)) ∈ TB := tbk_5 (List.mem_of_getElem? (i := 80) rfl) rfl
theorem wd_5_81 : (Jvm.Cond.code ({ cls := "java/lang/AbstractStringBuilder", name := "newCapacity", desc := "(I)I" } : Jvm.MethodName) prog_16_method_10_code (6 : Nat) (Option.some Jvm.ClassFile.FieldType.int)) ∈ TB := tbk_5 (List.mem_of_getElem? (i := 81) rfl) rfl
theorem wd_5_82 : (Jvm.Cond.methodLink "java/lang/AbstractStringBuilder" (114 : Nat) ({ cls := "jdk/internal/util/ArraysSupport", name := "newLength", desc := "(III)I" } : Jvm.MethodName)) ∈ TB := tbk_5 (List.mem_of_getElem? (i := 82) rfl) rfl
theorem wd_5_83 : (Jvm.Cond.constant "java/lang/AbstractStringBuilder" (39 : Nat) (2147483647 : Int32)) ∈ TB := tbk_5 (List.mem_of_getElem? (i := 83) rfl) rfl
theorem wd_5_84 : (Jvm.Cond.methodLink "java/lang/AbstractStringBuilder" (108 : Nat) ({ cls := "java/util/Arrays", name := "copyOf", desc := "([BI)[B" } : Jvm.MethodName)) ∈ TB := tbk_5 (List.mem_of_getElem? (i := 84) rfl) rfl
theorem wd_5_85 : (Jvm.Cond.static ({ cls := "java/util/Arrays", name := "copyOf", desc := "([BI)[B" } : Jvm.MethodName)) ∈ TB := tbk_5 (List.mem_of_getElem? (i := 85) rfl) rfl
theorem wd_5_86 : (Jvm.Cond.code ({ cls := "java/util/Arrays", name := "copyOf", desc := "([BI)[B" } : Jvm.MethodName) prog_35_method_121_code (3 : Nat) (Option.some (Jvm.ClassFile.FieldType.array Jvm.ClassFile.FieldType.byte))) ∈ TB := tbk_5 (List.mem_of_getElem? (i := 86) rfl) rfl
theorem wd_5_87 : (Jvm.Cond.methodLink "java/util/Arrays" (310 : Nat) ({ cls := "[B", name := "clone", desc := "()Ljava/lang/Object;" } : Jvm.MethodName)) ∈ TB := tbk_5 (List.mem_of_getElem? (i := 87) rfl) rfl
theorem wd_5_88 : (Jvm.Cond.sameMethod "[B" "java/lang/Object" "clone" "()Ljava/lang/Object;") ∈ TB := tbk_5 (List.mem_of_getElem? (i := 88) rfl) rfl
theorem wd_5_89 : (Jvm.Cond.selects "[B" ({ cls := "[B", name := "clone", desc := "()Ljava/lang/Object;" } : Jvm.MethodName) ({ cls := "java/lang/Object", name := "clone", desc := "()Ljava/lang/Object;" } : Jvm.MethodName)) ∈ TB := tbk_5 (List.mem_of_getElem? (i := 89) rfl) rfl
theorem wd_5_91 : (Jvm.Cond.classLink "java/util/Arrays" (311 : Nat) "[B") ∈ TB := tbk_5 (List.mem_of_getElem? (i := 91) rfl) rfl
theorem wd_5_92 : (Jvm.Cond.methodLink "java/lang/AbstractStringBuilder" (83 : Nat) ({ cls := "java/lang/AbstractStringBuilder", name := "isLatin1", desc := "()Z" } : Jvm.MethodName)) ∈ TB := tbk_5 (List.mem_of_getElem? (i := 92) rfl) rfl
theorem wd_5_93 : (Jvm.Cond.instanceMethod ({ cls := "java/lang/AbstractStringBuilder", name := "isLatin1", desc := "()Z" } : Jvm.MethodName)) ∈ TB := tbk_5 (List.mem_of_getElem? (i := 93) rfl) rfl
theorem wd_5_94 : (Jvm.Cond.sameMethod "java/lang/AbstractStringBuilder" "java/lang/AbstractStringBuilder" "isLatin1" "()Z") ∈ TB := tbk_5 (List.mem_of_getElem? (i := 94) rfl) rfl
theorem wd_5_95 : (Jvm.Cond.selects "java/lang/StringBuilder" ({ cls := "java/lang/AbstractStringBuilder", name := "isLatin1", desc := "()Z" } : Jvm.MethodName) ({ cls := "java/lang/AbstractStringBuilder", name := "isLatin1", desc := "()Z" } : Jvm.MethodName)) ∈ TB := tbk_5 (List.mem_of_getElem? (i := 95) rfl) rfl
theorem wd_5_96 : (Jvm.Cond.code ({ cls := "java/lang/AbstractStringBuilder", name := "isLatin1", desc := "()Z" } : Jvm.MethodName) prog_16_method_68_code (1 : Nat) (Option.some Jvm.ClassFile.FieldType.boolean)) ∈ TB := tbk_5 (List.mem_of_getElem? (i := 96) rfl) rfl
theorem wd_5_97 : (Jvm.Cond.methodLink "java/lang/AbstractStringBuilder" (226 : Nat) ({ cls := "java/lang/StringUTF16", name := "putCharsAt", desc := "([BICCCC)I" } : Jvm.MethodName)) ∈ TB := tbk_5 (List.mem_of_getElem? (i := 97) rfl) rfl
theorem wd_5_98 : (Jvm.Cond.static ({ cls := "java/lang/StringUTF16", name := "putCharsAt", desc := "([BICCCC)I" } : Jvm.MethodName)) ∈ TB := tbk_5 (List.mem_of_getElem? (i := 98) rfl) rfl
theorem wd_5_99 : (Jvm.Cond.code ({ cls := "java/lang/StringUTF16", name := "putCharsAt", desc := "([BICCCC)I" } : Jvm.MethodName) prog_29_method_81_code (7 : Nat) (Option.some Jvm.ClassFile.FieldType.int)) ∈ TB := tbk_5 (List.mem_of_getElem? (i := 99) rfl) rfl
theorem wd_5_100 : (Jvm.Cond.methodLink "java/lang/StringUTF16" (96 : Nat) ({ cls := "java/lang/StringUTF16", name := "checkBoundsBeginEnd", desc := "(II[B)V" } : Jvm.MethodName)) ∈ TB := tbk_5 (List.mem_of_getElem? (i := 100) rfl) rfl
theorem wd_5_101 : (Jvm.Cond.static ({ cls := "java/lang/StringUTF16", name := "checkBoundsBeginEnd", desc := "(II[B)V" } : Jvm.MethodName)) ∈ TB := tbk_5 (List.mem_of_getElem? (i := 101) rfl) rfl
theorem wd_5_102 : (Jvm.Cond.code ({ cls := "java/lang/StringUTF16", name := "checkBoundsBeginEnd", desc := "(II[B)V" } : Jvm.MethodName) prog_29_method_93_code (3 : Nat) (Option.none : Option Jvm.ClassFile.FieldType)) ∈ TB := tbk_5 (List.mem_of_getElem? (i := 102) rfl) rfl
theorem wd_5_103 : (Jvm.Cond.methodLink "java/lang/StringUTF16" (241 : Nat) ({ cls := "java/lang/String", name := "checkBoundsBeginEnd", desc := "(III)V" } : Jvm.MethodName)) ∈ TB := tbk_5 (List.mem_of_getElem? (i := 103) rfl) rfl
theorem wd_5_104 : (Jvm.Cond.static ({ cls := "java/lang/String", name := "checkBoundsBeginEnd", desc := "(III)V" } : Jvm.MethodName)) ∈ TB := tbk_5 (List.mem_of_getElem? (i := 104) rfl) rfl
theorem wd_5_105 : (Jvm.Cond.code ({ cls := "java/lang/String", name := "checkBoundsBeginEnd", desc := "(III)V" } : Jvm.MethodName) prog_26_method_158_code (3 : Nat) (Option.none : Option Jvm.ClassFile.FieldType)) ∈ TB := tbk_5 (List.mem_of_getElem? (i := 105) rfl) rfl
theorem wd_5_106 : (Jvm.Cond.methodLink "java/lang/String" (1062 : Nat) ({ cls := "jdk/internal/util/Preconditions", name := "checkFromToIndex", desc := "(IIILjava/util/function/BiFunction;)I" } : Jvm.MethodName)) ∈ TB := tbk_5 (List.mem_of_getElem? (i := 106) rfl) rfl
theorem wd_5_107 : (Jvm.Cond.static ({ cls := "jdk/internal/util/Preconditions", name := "checkFromToIndex", desc := "(IIILjava/util/function/BiFunction;)I" } : Jvm.MethodName)) ∈ TB := tbk_5 (List.mem_of_getElem? (i := 107) rfl) rfl
theorem wd_5_108 : (Jvm.Cond.code ({ cls := "jdk/internal/util/Preconditions", name := "checkFromToIndex", desc := "(IIILjava/util/function/BiFunction;)I" } : Jvm.MethodName) prog_42_method_12_code (4 : Nat) (Option.some Jvm.ClassFile.FieldType.int)) ∈ TB := tbk_5 (List.mem_of_getElem? (i := 108) rfl) rfl
theorem wd_5_109 : (Jvm.Cond.methodLink "java/lang/StringUTF16" (111 : Nat) ({ cls := "java/lang/StringUTF16", name := "putChar", desc := "([BII)V" } : Jvm.MethodName)) ∈ TB := tbk_5 (List.mem_of_getElem? (i := 109) rfl) rfl
theorem wd_5_110 : (Jvm.Cond.static ({ cls := "java/lang/StringUTF16", name := "putChar", desc := "([BII)V" } : Jvm.MethodName)) ∈ TB := tbk_5 (List.mem_of_getElem? (i := 110) rfl) rfl
theorem wd_5_111 : (Jvm.Cond.code ({ cls := "java/lang/StringUTF16", name := "putChar", desc := "([BII)V" } : Jvm.MethodName) prog_29_method_4_code (3 : Nat) (Option.none : Option Jvm.ClassFile.FieldType)) ∈ TB := tbk_5 (List.mem_of_getElem? (i := 111) rfl) rfl
theorem wd_5_112 : (Jvm.Cond.methodLink "java/lang/AbstractStringBuilder" (32 : Nat) ({ cls := "java/lang/String", name := "length", desc := "()I" } : Jvm.MethodName)) ∈ TB := tbk_5 (List.mem_of_getElem? (i := 112) rfl) rfl
theorem wd_5_113 : (Jvm.Cond.methodLink "java/lang/AbstractStringBuilder" (208 : Nat) ({ cls := "java/lang/AbstractStringBuilder", name := "putStringAt", desc := "(ILjava/lang/String;)V" } : Jvm.MethodName)) ∈ TB := tbk_5 (List.mem_of_getElem? (i := 113) rfl) rfl
theorem wd_5_115 : (Jvm.Cond.instanceMethod ({ cls := "java/lang/AbstractStringBuilder", name := "putStringAt", desc := "(ILjava/lang/String;)V" } : Jvm.MethodName)) ∈ TB := tbk_5 (List.mem_of_getElem? (i := 115) rfl) rfl
theorem wd_5_116 : (Jvm.Cond.code ({ cls := "java/lang/AbstractStringBuilder", name := "putStringAt", desc := "(ILjava/lang/String;)V" } : Jvm.MethodName) prog_16_method_73_code (3 : Nat) (Option.none : Option Jvm.ClassFile.FieldType)) ∈ TB := tbk_5 (List.mem_of_getElem? (i := 116) rfl) rfl
theorem wd_5_117 : (Jvm.Cond.methodLink "java/lang/AbstractStringBuilder" (397 : Nat) ({ cls := "java/lang/AbstractStringBuilder", name := "inflateIfNeededFor", desc := "(Ljava/lang/String;)V" } : Jvm.MethodName)) ∈ TB := tbk_5 (List.mem_of_getElem? (i := 117) rfl) rfl
theorem wd_5_119 : (Jvm.Cond.instanceMethod ({ cls := "java/lang/AbstractStringBuilder", name := "inflateIfNeededFor", desc := "(Ljava/lang/String;)V" } : Jvm.MethodName)) ∈ TB := tbk_5 (List.mem_of_getElem? (i := 119) rfl) rfl
theorem wd_5_120 : (Jvm.Cond.code ({ cls := "java/lang/AbstractStringBuilder", name := "inflateIfNeededFor", desc := "(Ljava/lang/String;)V" } : Jvm.MethodName) prog_16_method_71_code (2 : Nat) (Option.none : Option Jvm.ClassFile.FieldType)) ∈ TB := tbk_5 (List.mem_of_getElem? (i := 120) rfl) rfl
theorem wd_5_121 : (Jvm.Cond.methodLink "java/lang/AbstractStringBuilder" (40 : Nat) ({ cls := "java/lang/String", name := "coder", desc := "()B" } : Jvm.MethodName)) ∈ TB := tbk_5 (List.mem_of_getElem? (i := 121) rfl) rfl
theorem wd_5_122 : (Jvm.Cond.methodLink "java/lang/AbstractStringBuilder" (195 : Nat) ({ cls := "java/lang/AbstractStringBuilder", name := "inflate", desc := "()V" } : Jvm.MethodName)) ∈ TB := tbk_5 (List.mem_of_getElem? (i := 122) rfl) rfl
theorem wd_5_124 : (Jvm.Cond.instanceMethod ({ cls := "java/lang/AbstractStringBuilder", name := "inflate", desc := "()V" } : Jvm.MethodName)) ∈ TB := tbk_5 (List.mem_of_getElem? (i := 124) rfl) rfl
theorem wd_5_125 : (Jvm.Cond.code ({ cls := "java/lang/AbstractStringBuilder", name := "inflate", desc := "()V" } : Jvm.MethodName) prog_16_method_11_code (2 : Nat) (Option.none : Option Jvm.ClassFile.FieldType)) ∈ TB := tbk_5 (List.mem_of_getElem? (i := 125) rfl) rfl
theorem wd_5_126 : (Jvm.Cond.methodLink "java/lang/AbstractStringBuilder" (125 : Nat) ({ cls := "java/lang/StringLatin1", name := "inflate", desc := "([BI[BII)V" } : Jvm.MethodName)) ∈ TB := tbk_5 (List.mem_of_getElem? (i := 126) rfl) rfl
theorem wd_5_127 : (Jvm.Cond.static ({ cls := "java/lang/StringLatin1", name := "inflate", desc := "([BI[BII)V" } : Jvm.MethodName)) ∈ TB := tbk_5 (List.mem_of_getElem? (i := 127) rfl) rfl
theorem wd_5_128 : (Jvm.Cond.code ({ cls := "java/lang/StringLatin1", name := "inflate", desc := "([BI[BII)V" } : Jvm.MethodName) prog_28_method_50_code (5 : Nat) (Option.none : Option Jvm.ClassFile.FieldType)) ∈ TB := tbk_5 (List.mem_of_getElem? (i := 128) rfl) rfl
theorem wd_5_129 : (Jvm.Cond.methodLink "java/lang/StringLatin1" (240 : Nat) ({ cls := "java/lang/StringUTF16", name := "inflate", desc := "([BI[BII)V" } : Jvm.MethodName)) ∈ TB := tbk_5 (List.mem_of_getElem? (i := 129) rfl) rfl
theorem wd_5_130 : (Jvm.Cond.static ({ cls := "java/lang/StringUTF16", name := "inflate", desc := "([BI[BII)V" } : Jvm.MethodName)) ∈ TB := tbk_5 (List.mem_of_getElem? (i := 130) rfl) rfl
theorem wd_5_131 : (Jvm.Cond.code ({ cls := "java/lang/StringUTF16", name := "inflate", desc := "([BI[BII)V" } : Jvm.MethodName) prog_29_method_86_code (6 : Nat) (Option.none : Option Jvm.ClassFile.FieldType)) ∈ TB := tbk_5 (List.mem_of_getElem? (i := 131) rfl) rfl
theorem wd_5_132 : (Jvm.Cond.methodLink "java/lang/StringUTF16" (173 : Nat) ({ cls := "java/lang/StringUTF16", name := "checkBoundsOffCount", desc := "(II[B)V" } : Jvm.MethodName)) ∈ TB := tbk_5 (List.mem_of_getElem? (i := 132) rfl) rfl
theorem wd_5_133 : (Jvm.Cond.static ({ cls := "java/lang/StringUTF16", name := "checkBoundsOffCount", desc := "(II[B)V" } : Jvm.MethodName)) ∈ TB := tbk_5 (List.mem_of_getElem? (i := 133) rfl) rfl
theorem wd_5_134 : (Jvm.Cond.code ({ cls := "java/lang/StringUTF16", name := "checkBoundsOffCount", desc := "(II[B)V" } : Jvm.MethodName) prog_29_method_94_code (3 : Nat) (Option.none : Option Jvm.ClassFile.FieldType)) ∈ TB := tbk_5 (List.mem_of_getElem? (i := 134) rfl) rfl
theorem wd_5_135 : (Jvm.Cond.methodLink "java/lang/StringUTF16" (419 : Nat) ({ cls := "java/lang/String", name := "checkBoundsOffCount", desc := "(III)I" } : Jvm.MethodName)) ∈ TB := tbk_5 (List.mem_of_getElem? (i := 135) rfl) rfl
theorem wd_5_136 : (Jvm.Cond.static ({ cls := "java/lang/String", name := "checkBoundsOffCount", desc := "(III)I" } : Jvm.MethodName)) ∈ TB := tbk_5 (List.mem_of_getElem? (i := 136) rfl) rfl
theorem wd_5_137 : (Jvm.Cond.code ({ cls := "java/lang/String", name := "checkBoundsOffCount", desc := "(III)I" } : Jvm.MethodName) prog_26_method_157_code (3 : Nat) (Option.some Jvm.ClassFile.FieldType.int)) ∈ TB := tbk_5 (List.mem_of_getElem? (i := 137) rfl) rfl
theorem wd_5_138 : (Jvm.Cond.methodLink "java/lang/String" (1065 : Nat) ({ cls := "jdk/internal/util/Preconditions", name := "checkFromIndexSize", desc := "(IIILjava/util/function/BiFunction;)I" } : Jvm.MethodName)) ∈ TB := tbk_5 (List.mem_of_getElem? (i := 138) rfl) rfl
theorem wd_5_139 : (Jvm.Cond.static ({ cls := "jdk/internal/util/Preconditions", name := "checkFromIndexSize", desc := "(IIILjava/util/function/BiFunction;)I" } : Jvm.MethodName)) ∈ TB := tbk_5 (List.mem_of_getElem? (i := 139) rfl) rfl
theorem wd_5_140 : (Jvm.Cond.code ({ cls := "jdk/internal/util/Preconditions", name := "checkFromIndexSize", desc := "(IIILjava/util/function/BiFunction;)I" } : Jvm.MethodName) prog_42_method_13_code (4 : Nat) (Option.some Jvm.ClassFile.FieldType.int)) ∈ TB := tbk_5 (List.mem_of_getElem? (i := 140) rfl) rfl
theorem wd_5_141 : (Jvm.Cond.methodLink "java/lang/AbstractStringBuilder" (399 : Nat) ({ cls := "java/lang/String", name := "getBytes", desc := "([BIB)V" } : Jvm.MethodName)) ∈ TB := tbk_5 (List.mem_of_getElem? (i := 141) rfl) rfl
theorem wd_5_142 : (Jvm.Cond.instanceMethod ({ cls := "java/lang/String", name := "getBytes", desc := "([BIB)V" } : Jvm.MethodName)) ∈ TB := tbk_5 (List.mem_of_getElem? (i := 142) rfl) rfl
theorem wd_5_143 : (Jvm.Cond.selects "java/lang/String" ({ cls := "java/lang/String", name := "getBytes", desc := "([BIB)V" } : Jvm.MethodName) ({ cls := "java/lang/String", name := "getBytes", desc := "([BIB)V" } : Jvm.MethodName)) ∈ TB := tbk_5 (List.mem_of_getElem? (i := 143) rfl) rfl
theorem wd_5_144 : (Jvm.Cond.code ({ cls := "java/lang/String", name := "getBytes", desc := "([BIB)V" } : Jvm.MethodName) prog_26_method_147_code (4 : Nat) (Option.none : Option Jvm.ClassFile.FieldType)) ∈ TB := tbk_5 (List.mem_of_getElem? (i := 144) rfl) rfl
theorem wd_5_145 : (Jvm.Cond.methodLink "java/lang/String" (212 : Nat) ({ cls := "java/lang/System", name := "arraycopy", desc := "(Ljava/lang/Object;ILjava/lang/Object;II)V" } : Jvm.MethodName)) ∈ TB := tbk_5 (List.mem_of_getElem? (i := 145) rfl) rfl
theorem wd_5_146 : (Jvm.Cond.methodLink "java/lang/String" (106 : Nat) ({ cls := "java/lang/StringLatin1", name := "inflate", desc := "([BI[BII)V" } : Jvm.MethodName)) ∈ TB := tbk_5 (List.mem_of_getElem? (i := 146) rfl) rfl
theorem wd_5_147 : (Jvm.Cond.methodLink "java/util/ArrayList" (29 : Nat) ({ cls := "java/lang/StringBuilder", name := "append", desc := "(I)Ljava/lang/StringBuilder;" } : Jvm.MethodName)) ∈ TB := tbk_5 (List.mem_of_getElem? (i := 147) rfl) rfl
theorem wd_5_148 : (Jvm.Cond.instanceMethod ({ cls := "java/lang/StringBuilder", name := "append", desc := "(I)Ljava/lang/StringBuilder;" } : Jvm.MethodName)) ∈ TB := tbk_5 (List.mem_of_getElem? (i := 148) rfl) rfl
theorem wd_5_149 : (Jvm.Cond.selects "java/lang/StringBuilder" ({ cls := "java/lang/StringBuilder", name := "append", desc := "(I)Ljava/lang/StringBuilder;" } : Jvm.MethodName) ({ cls := "java/lang/StringBuilder", name := "append", desc := "(I)Ljava/lang/StringBuilder;" } : Jvm.MethodName)) ∈ TB := tbk_5 (List.mem_of_getElem? (i := 149) rfl) rfl
theorem wd_5_150 : (Jvm.Cond.code ({ cls := "java/lang/StringBuilder", name := "append", desc := "(I)Ljava/lang/StringBuilder;" } : Jvm.MethodName) prog_27_method_15_code (2 : Nat) (Option.some (Jvm.ClassFile.FieldType.object "java/lang/StringBuilder"))) ∈ TB := tbk_5 (List.mem_of_getElem? (i := 150) rfl) rfl
theorem wd_5_151 : (Jvm.Cond.methodLink "java/lang/StringBuilder" (53 : Nat) ({ cls := "java/lang/AbstractStringBuilder", name := "append", desc := "(I)Ljava/lang/AbstractStringBuilder;" } : Jvm.MethodName)) ∈ TB := tbk_5 (List.mem_of_getElem? (i := 151) rfl) rfl
theorem wd_5_152 : (Jvm.Cond.instanceMethod ({ cls := "java/lang/AbstractStringBuilder", name := "append", desc := "(I)Ljava/lang/AbstractStringBuilder;" } : Jvm.MethodName)) ∈ TB := tbk_5 (List.mem_of_getElem? (i := 152) rfl) rfl
theorem wd_5_153 : (Jvm.Cond.code ({ cls := "java/lang/AbstractStringBuilder", name := "append", desc := "(I)Ljava/lang/AbstractStringBuilder;" } : Jvm.MethodName) prog_16_method_32_code (4 : Nat) (Option.some (Jvm.ClassFile.FieldType.object "java/lang/AbstractStringBuilder"))) ∈ TB := tbk_5 (List.mem_of_getElem? (i := 153) rfl) rfl
theorem wd_5_154 : (Jvm.Cond.methodLink "java/lang/AbstractStringBuilder" (245 : Nat) ({ cls := "java/lang/Integer", name := "stringSize", desc := "(I)I" } : Jvm.MethodName)) ∈ TB := tbk_5 (List.mem_of_getElem? (i := 154) rfl) rfl
theorem wd_5_155 : (Jvm.Cond.static ({ cls := "java/lang/Integer", name := "stringSize", desc := "(I)I" } : Jvm.MethodName)) ∈ TB := tbk_5 (List.mem_of_getElem? (i := 155) rfl) rfl
theorem wd_5_156 : (Jvm.Cond.code ({ cls := "java/lang/Integer", name := "stringSize", desc := "(I)I" } : Jvm.MethodName) prog_22_method_13_code (4 : Nat) (Option.some Jvm.ClassFile.FieldType.int)) ∈ TB := tbk_5 (List.mem_of_getElem? (i := 156) rfl) rfl
theorem wd_5_157 : (Jvm.Cond.methodLink "java/lang/AbstractStringBuilder" (248 : Nat) ({ cls := "java/lang/Integer", name := "getChars", desc := "(II[B)I" } : Jvm.MethodName)) ∈ TB := tbk_5 (List.mem_of_getElem? (i := 157) rfl) rfl
theorem wd_5_158 : (Jvm.Cond.static ({ cls := "java/lang/Integer", name := "getChars", desc := "(II[B)I" } : Jvm.MethodName)) ∈ TB := tbk_5 (List.mem_of_getElem? (i := 158) rfl) rfl
theorem wd_5_159 : (Jvm.Cond.code ({ cls := "java/lang/Integer", name := "getChars", desc := "(II[B)I" } : Jvm.MethodName) prog_22_method_12_code (7 : Nat) (Option.some Jvm.ClassFile.FieldType.int)) ∈ TB := tbk_5 (List.mem_of_getElem? (i := 159) rfl) rfl
theorem wd_5_160 : (Jvm.Cond.fieldLink "java/lang/Integer" (83 : Nat) "java/lang/Integer" "DigitOnes" "[B") ∈ TB := tbk_5 (List.mem_of_getElem? (i := 160) rfl) rfl
theorem wd_5_162 : (Jvm.Cond.fieldLink "java/lang/Integer" (87 : Nat) "java/lang/Integer" "DigitTens" "[B") ∈ TB := tbk_5 (List.mem_of_getElem? (i := 162) rfl) rfl
theorem wd_5_164 : (Jvm.Cond.methodLink "java/lang/AbstractStringBuilder" (251 : Nat) ({ cls := "java/lang/StringUTF16", name := "getChars", desc := "(III[B)I" } : Jvm.MethodName)) ∈ TB := tbk_5 (List.mem_of_getElem? (i := 164) rfl) rfl
theorem wd_5_165 : (Jvm.Cond.static ({ cls := "java/lang/StringUTF16", name := "getChars", desc := "(III[B)I" } : Jvm.MethodName)) ∈ TB := tbk_5 (List.mem_of_getElem? (i := 165) rfl) rfl
theorem wd_5_166 : (Jvm.Cond.code ({ cls := "java/lang/StringUTF16", name := "getChars", desc := "(III[B)I" } : Jvm.MethodName) prog_29_method_77_code (5 : Nat) (Option.some Jvm.ClassFile.FieldType.int)) ∈ TB := tbk_5 (List.mem_of_getElem? (i := 166) rfl) rfl
theorem wd_5_167 : (Jvm.Cond.methodLink "java/lang/StringUTF16" (393 : Nat) ({ cls := "java/lang/StringUTF16", name := "getChars", desc := "(II[B)I" } : Jvm.MethodName)) ∈ TB := tbk_5 (List.mem_of_getElem? (i := 167) rfl) rfl
theorem wd_5_168 : (Jvm.Cond.static ({ cls := "java/lang/StringUTF16", name := "getChars", desc := "(II[B)I" } : Jvm.MethodName)) ∈ TB := tbk_5 (List.mem_of_getElem? (i := 168) rfl) rfl
theorem wd_5_169 : (Jvm.Cond.code ({ cls := "java/lang/StringUTF16", name := "getChars", desc := "(II[B)I" } : Jvm.MethodName) prog_29_method_89_code (7 : Nat) (Option.some Jvm.ClassFile.FieldType.int)) ∈ TB := tbk_5 (List.mem_of_getElem? (i := 169) rfl) rfl
theorem wd_5_170 : (Jvm.Cond.fieldLink "java/lang/StringUTF16" (403 : Nat) "java/lang/Integer" "DigitOnes" "[B") ∈ TB := tbk_5 (List.mem_of_getElem? (i := 170) rfl) rfl
theorem wd_5_171 : (Jvm.Cond.fieldLink "java/lang/StringUTF16" (407 : Nat) "java/lang/Integer" "DigitTens" "[B") ∈ TB := tbk_5 (List.mem_of_getElem? (i := 171) rfl) rfl
theorem wd_5_173 : (Jvm.Cond.methodLink "java/util/ArrayList" (32 : Nat) ({ cls := "java/lang/StringBuilder", name := "toString", desc := "()Ljava/lang/String;" } : Jvm.MethodName)) ∈ TB := tbk_5 (List.mem_of_getElem? (i := 173) rfl) rfl
theorem wd_5_174 : (Jvm.Cond.instanceMethod ({ cls := "java/lang/StringBuilder", name := "toString", desc := "()Ljava/lang/String;" } : Jvm.MethodName)) ∈ TB := tbk_5 (List.mem_of_getElem? (i := 174) rfl) rfl
theorem wd_5_175 : (Jvm.Cond.selects "java/lang/StringBuilder" ({ cls := "java/lang/StringBuilder", name := "toString", desc := "()Ljava/lang/String;" } : Jvm.MethodName) ({ cls := "java/lang/StringBuilder", name := "toString", desc := "()Ljava/lang/String;" } : Jvm.MethodName)) ∈ TB := tbk_5 (List.mem_of_getElem? (i := 175) rfl) rfl
theorem wd_5_176 : (Jvm.Cond.code ({ cls := "java/lang/StringBuilder", name := "toString", desc := "()Ljava/lang/String;" } : Jvm.MethodName) prog_27_method_42_code (1 : Nat) (Option.some (Jvm.ClassFile.FieldType.object "java/lang/String"))) ∈ TB := tbk_5 (List.mem_of_getElem? (i := 176) rfl) rfl
theorem wd_5_177 : (Jvm.Cond.classLink "java/lang/StringBuilder" (18 : Nat) "java/lang/String") ∈ TB := tbk_5 (List.mem_of_getElem? (i := 177) rfl) rfl
theorem wd_5_178 : (Jvm.Cond.instantiable "java/lang/String" (4 : Nat)) ∈ TB := tbk_5 (List.mem_of_getElem? (i := 178) rfl) rfl
theorem wd_5_179 : (Jvm.Cond.methodLink "java/lang/StringBuilder" (137 : Nat) ({ cls := "java/lang/String", name := "<init>", desc := "(Ljava/lang/StringBuilder;)V" } : Jvm.MethodName)) ∈ TB := tbk_5 (List.mem_of_getElem? (i := 179) rfl) rfl
theorem wd_5_180 : (Jvm.Cond.instanceMethod ({ cls := "java/lang/String", name := "<init>", desc := "(Ljava/lang/StringBuilder;)V" } : Jvm.MethodName)) ∈ TB := tbk_5 (List.mem_of_getElem? (i := 180) rfl) rfl
theorem wd_5_181 : (Jvm.Cond.code ({ cls := "java/lang/String", name := "<init>", desc := "(Ljava/lang/StringBuilder;)V" } : Jvm.MethodName) prog_26_method_53_code (2 : Nat) (Option.none : Option Jvm.ClassFile.FieldType)) ∈ TB := tbk_5 (List.mem_of_getElem? (i := 181) rfl) rfl
theorem wd_5_182 : (Jvm.Cond.methodLink "java/lang/String" (489 : Nat) ({ cls := "java/lang/String", name := "<init>", desc := "(Ljava/lang/AbstractStringBuilder;Ljava/lang/Void;)V" } : Jvm.MethodName)) ∈ TB := tbk_5 (List.mem_of_getElem? (i := 182) rfl) rfl
theorem wd_5_183 : (Jvm.Cond.instanceMethod ({ cls := "java/lang/String", name := "<init>", desc := "(Ljava/lang/AbstractStringBuilder;Ljava/lang/Void;)V" } : Jvm.MethodName)) ∈ TB := tbk_5 (List.mem_of_getElem? (i := 183) rfl) rfl
theorem wd_5_184 : (Jvm.Cond.code ({ cls := "java/lang/String", name := "<init>", desc := "(Ljava/lang/AbstractStringBuilder;Ljava/lang/Void;)V" } : Jvm.MethodName) prog_26_method_150_code (5 : Nat) (Option.none : Option Jvm.ClassFile.FieldType)) ∈ TB := tbk_5 (List.mem_of_getElem? (i := 184) rfl) rfl
theorem wd_5_185 : (Jvm.Cond.methodLink "java/lang/String" (1 : Nat) ({ cls := "java/lang/Object", name := "<init>", desc := "()V" } : Jvm.MethodName)) ∈ TB := tbk_5 (List.mem_of_getElem? (i := 185) rfl) rfl
theorem wd_5_186 : (Jvm.Cond.methodLink "java/lang/String" (552 : Nat) ({ cls := "java/lang/AbstractStringBuilder", name := "getValue", desc := "()[B" } : Jvm.MethodName)) ∈ TB := tbk_5 (List.mem_of_getElem? (i := 186) rfl) rfl
theorem wd_5_187 : (Jvm.Cond.instanceMethod ({ cls := "java/lang/AbstractStringBuilder", name := "getValue", desc := "()[B" } : Jvm.MethodName)) ∈ TB := tbk_5 (List.mem_of_getElem? (i := 187) rfl) rfl
theorem wd_5_188 : (Jvm.Cond.sameMethod "java/lang/AbstractStringBuilder" "java/lang/AbstractStringBuilder" "getValue" "()[B") ∈ TB := tbk_5 (List.mem_of_getElem? (i := 188) rfl) rfl
theorem wd_5_189 : (Jvm.Cond.selects "java/lang/StringBuilder" ({ cls := "java/lang/AbstractStringBuilder", name := "getValue", desc := "()[B" } : Jvm.MethodName) ({ cls := "java/lang/AbstractStringBuilder", name := "getValue", desc := "()[B" } : Jvm.MethodName)) ∈ TB := tbk_5 (List.mem_of_getElem? (i := 189) rfl) rfl
theorem wd_5_190 : (Jvm.Cond.code ({ cls := "java/lang/AbstractStringBuilder", name := "getValue", desc := "()[B" } : Jvm.MethodName) prog_16_method_64_code (1 : Nat) (Option.some (Jvm.ClassFile.FieldType.array Jvm.ClassFile.FieldType.byte))) ∈ TB := tbk_5 (List.mem_of_getElem? (i := 190) rfl) rfl
theorem wd_5_191 : (Jvm.Cond.methodLink "java/lang/String" (549 : Nat) ({ cls := "java/lang/AbstractStringBuilder", name := "length", desc := "()I" } : Jvm.MethodName)) ∈ TB := tbk_5 (List.mem_of_getElem? (i := 191) rfl) rfl
theorem wd_5_192 : (Jvm.Cond.instanceMethod ({ cls := "java/lang/AbstractStringBuilder", name := "length", desc := "()I" } : Jvm.MethodName)) ∈ TB := tbk_5 (List.mem_of_getElem? (i := 192) rfl) rfl
theorem wd_5_193 : (Jvm.Cond.sameMethod "java/lang/AbstractStringBuilder" "java/lang/AbstractStringBuilder" "length" "()I") ∈ TB := tbk_5 (List.mem_of_getElem? (i := 193) rfl) rfl
theorem wd_5_194 : (Jvm.Cond.selects "java/lang/StringBuilder" ({ cls := "java/lang/AbstractStringBuilder", name := "length", desc := "()I" } : Jvm.MethodName) ({ cls := "java/lang/StringBuilder", name := "length", desc := "()I" } : Jvm.MethodName)) ∈ TB := tbk_5 (List.mem_of_getElem? (i := 194) rfl) rfl
theorem wd_5_195 : (Jvm.Cond.instanceMethod ({ cls := "java/lang/StringBuilder", name := "length", desc := "()I" } : Jvm.MethodName)) ∈ TB := tbk_5 (List.mem_of_getElem? (i := 195) rfl) rfl
theorem wd_5_196 : (Jvm.Cond.code ({ cls := "java/lang/StringBuilder", name := "length", desc := "()I" } : Jvm.MethodName) prog_27_method_93_code (1 : Nat) (Option.some Jvm.ClassFile.FieldType.int)) ∈ TB := tbk_5 (List.mem_of_getElem? (i := 196) rfl) rfl
theorem wd_5_197 : (Jvm.Cond.methodLink "java/lang/StringBuilder" (343 : Nat) ({ cls := "java/lang/AbstractStringBuilder", name := "length", desc := "()I" } : Jvm.MethodName)) ∈ TB := tbk_5 (List.mem_of_getElem? (i := 197) rfl) rfl
theorem wd_5_198 : (Jvm.Cond.code ({ cls := "java/lang/AbstractStringBuilder", name := "length", desc := "()I" } : Jvm.MethodName) prog_16_method_6_code (1 : Nat) (Option.some Jvm.ClassFile.FieldType.int)) ∈ TB := tbk_5 (List.mem_of_getElem? (i := 198) rfl) rfl
theorem wd_5_199 : (Jvm.Cond.methodLink "java/lang/String" (1047 : Nat) ({ cls := "java/lang/AbstractStringBuilder", name := "isLatin1", desc := "()Z" } : Jvm.MethodName)) ∈ TB := tbk_5 (List.mem_of_getElem? (i := 199) rfl) rfl
theorem wd_5_200 : (Jvm.Cond.methodLink "java/lang/String" (54 : Nat) ({ cls := "java/util/Arrays", name := "copyOfRange", desc := "([BII)[B" } : Jvm.MethodName)) ∈ TB := tbk_5 (List.mem_of_getElem? (i := 200) rfl) rfl
theorem wd_5_201 : (Jvm.Cond.static ({ cls := "java/util/Arrays", name := "copyOfRange", desc := "([BII)[B" } : Jvm.MethodName)) ∈ TB := tbk_5 (List.mem_of_getElem? (i := 201) rfl) rfl
theorem wd_5_202 : (Jvm.Cond.code ({ cls := "java/util/Arrays", name := "copyOfRange", desc := "([BII)[B" } : Jvm.MethodName) prog_35_method_132_code (3 : Nat) (Option.some (Jvm.ClassFile.FieldType.array Jvm.ClassFile.FieldType.byte))) ∈ TB := tbk_5 (List.mem_of_getElem? (i := 202) rfl) rfl
theorem wd_5_203 : (Jvm.Cond.methodLink "java/util/Arrays" (339 : Nat) ({ cls := "java/util/Arrays", name := "copyOfRangeByte", desc := "([BII)[B" } : Jvm.MethodName)) ∈ TB := tbk_5 (List.mem_of_getElem? (i := 203) rfl) rfl
theorem wd_5_204 : (Jvm.Cond.static ({ cls := "java/util/Arrays", name := "copyOfRangeByte", desc := "([BII)[B" } : Jvm.MethodName)) ∈ TB := tbk_5 (List.mem_of_getElem? (i := 204) rfl) rfl
theorem wd_5_205 : (Jvm.Cond.code ({ cls := "java/util/Arrays", name := "copyOfRangeByte", desc := "([BII)[B" } : Jvm.MethodName) prog_35_method_133_code (5 : Nat) (Option.some (Jvm.ClassFile.FieldType.array Jvm.ClassFile.FieldType.byte))) ∈ TB := tbk_5 (List.mem_of_getElem? (i := 205) rfl) rfl
theorem wd_5_206 : (Jvm.Cond.methodLink "java/util/Arrays" (343 : Nat) ({ cls := "java/util/Arrays", name := "checkLength", desc := "(II)V" } : Jvm.MethodName)) ∈ TB := tbk_5 (List.mem_of_getElem? (i := 206) rfl) rfl
theorem wd_5_207 : (Jvm.Cond.static ({ cls := "java/util/Arrays", name := "checkLength", desc := "(II)V" } : Jvm.MethodName)) ∈ TB := tbk_5 (List.mem_of_getElem? (i := 207) rfl) rfl
theorem wd_5_208 : (Jvm.Cond.code ({ cls := "java/util/Arrays", name := "checkLength", desc := "(II)V" } : Jvm.MethodName) prog_35_method_131_code (2 : Nat) (Option.none : Option Jvm.ClassFile.FieldType)) ∈ TB := tbk_5 (List.mem_of_getElem? (i := 208) rfl) rfl
theorem wd_5_209 : (Jvm.Cond.classLink "java/util/Arrays" (43 : Nat) "java/lang/IllegalArgumentException") ∈ TB := tbk_5 (List.mem_of_getElem? (i := 209) rfl) rfl
theorem wd_5_210 : (Jvm.Cond.classLink "java/util/Arrays" (45 : Nat) "java/lang/StringBuilder") ∈ TB := tbk_5 (List.mem_of_getElem? (i := 210) rfl) rfl
theorem wd_5_211 : (Jvm.Cond.methodLink "java/util/Arrays" (47 : Nat) ({ cls := "java/lang/StringBuilder", name := "<init>", desc := "()V" } : Jvm.MethodName)) ∈ TB := tbk_5 (List.mem_of_getElem? (i := 211) rfl) rfl
theorem wd_5_212 : (Jvm.Cond.methodLink "java/util/Arrays" (54 : Nat) ({ cls := "java/lang/StringBuilder", name := "append", desc := "(I)Ljava/lang/StringBuilder;" } : Jvm.MethodName)) ∈ TB := tbk_5 (List.mem_of_getElem? (i := 212) rfl) rfl
theorem wd_5_214 : (Jvm.Cond.methodLink "java/util/Arrays" (50 : Nat) ({ cls := "java/lang/StringBuilder", name := "append", desc := "(Ljava/lang/String;)Ljava/lang/StringBuilder;" } : Jvm.MethodName)) ∈ TB := tbk_5 (List.mem_of_getElem? (i := 214) rfl) rfl
theorem wd_5_215 : (Jvm.Cond.methodLink "java/util/Arrays" (61 : Nat) ({ cls := "java/lang/StringBuilder", name := "toString", desc := "()Ljava/lang/String;" } : Jvm.MethodName)) ∈ TB := tbk_5 (List.mem_of_getElem? (i := 215) rfl) rfl
theorem wd_5_216 : (Jvm.Cond.methodLink "java/util/Arrays" (65 : Nat) ({ cls := "java/lang/IllegalArgumentException", name := "<init>", desc := "(Ljava/lang/String;)V" } : Jvm.MethodName)) ∈ TB := tbk_5 (List.mem_of_getElem? (i := 216) rfl) rfl
theorem wd_5_217 : (Jvm.Cond.methodLink "java/lang/String" (1051 : Nat) ({ cls := "java/lang/StringUTF16", name := "compress", desc := "([BII)[B" } : Jvm.MethodName)) ∈ TB := tbk_5 (List.mem_of_getElem? (i := 217) rfl) rfl
theorem wd_5_218 : (Jvm.Cond.static ({ cls := "java/lang/StringUTF16", name := "compress", desc := "([BII)[B" } : Jvm.MethodName)) ∈ TB := tbk_5 (List.mem_of_getElem? (i := 218) rfl) rfl
theorem wd_5_219 : (Jvm.Cond.code ({ cls := "java/lang/StringUTF16", name := "compress", desc := "([BII)[B" } : Jvm.MethodName) prog_29_method_17_code (6 : Nat) (Option.some (Jvm.ClassFile.FieldType.array Jvm.ClassFile.FieldType.byte))) ∈ TB := tbk_5 (List.mem_of_getElem? (i := 219) rfl) rfl
theorem wd_5_220 : (Jvm.Cond.methodLink "java/lang/StringUTF16" (123 : Nat) ({ cls := "java/lang/StringUTF16", name := "compress", desc := "([BI[BII)I" } : Jvm.MethodName)) ∈ TB := tbk_5 (List.mem_of_getElem? (i := 220) rfl) rfl
theorem wd_5_221 : (Jvm.Cond.static ({ cls := "java/lang/StringUTF16", name := "compress", desc := "([BI[BII)I" } : Jvm.MethodName)) ∈ TB := tbk_5 (List.mem_of_getElem? (i := 221) rfl) rfl
theorem wd_5_222 : (Jvm.Cond.code ({ cls := "java/lang/StringUTF16", name := "compress", desc := "([BI[BII)I" } : Jvm.MethodName) prog_29_method_22_code (7 : Nat) (Option.some Jvm.ClassFile.FieldType.int)) ∈ TB := tbk_5 (List.mem_of_getElem? (i := 222) rfl) rfl
theorem wd_5_223 : (Jvm.Cond.methodLink "java/lang/StringUTF16" (126 : Nat) ({ cls := "java/util/Arrays", name := "copyOfRange", desc := "([BII)[B" } : Jvm.MethodName)) ∈ TB := tbk_5 (List.mem_of_getElem? (i := 223) rfl) rfl
theorem wd_5_224 : (Jvm.Cond.methodLink "java/lang/String" (47 : Nat) ({ cls := "java/lang/StringUTF16", name := "coderFromArrayLen", desc := "([BI)B" } : Jvm.MethodName)) ∈ TB := tbk_5 (List.mem_of_getElem? (i := 224) rfl) rfl
theorem wd_5_225 : (Jvm.Cond.static ({ cls := "java/lang/StringUTF16", name := "coderFromArrayLen", desc := "([BI)B" } : Jvm.MethodName)) ∈ TB := tbk_5 (List.mem_of_getElem? (i := 225) rfl) rfl
theorem wd_5_226 : (Jvm.Cond.code ({ cls := "java/lang/StringUTF16", name := "coderFromArrayLen", desc := "([BI)B" } : Jvm.MethodName) prog_29_method_15_code (2 : Nat) (Option.some Jvm.ClassFile.FieldType.byte)) ∈ TB := tbk_5 (List.mem_of_getElem? (i := 226) rfl) rfl
theorem wd_5_227 : (Jvm.Cond.fieldLink "java/lang/String" (9 : Nat) "java/lang/String" "value" "[B") ∈ TB := tbk_5 (List.mem_of_getElem? (i := 227) rfl) rfl
theorem wd_5_228 : (Jvm.Cond.fieldLink "java/lang/String" (15 : Nat) "java/lang/String" "coder" "B") ∈ TB := tbk_5 (List.mem_of_getElem? (i := 228) rfl) rfl
theorem wd_5_229 : (Jvm.Cond.laysFinal "java/lang/String" "java/lang/String" "value" "[B") ∈ TB := tbk_5 (List.mem_of_getElem? (i := 229) rfl) rfl
theorem wd_5_231 : (Jvm.Cond.laysFinal "java/lang/String" "java/lang/String" "coder" "B") ∈ TB := tbk_5 (List.mem_of_getElem? (i := 231) rfl) rfl
theorem wd_5_233 : (Jvm.Cond.lays "java/lang/String" "java/lang/String" "hash" "I") ∈ TB := tbk_5 (List.mem_of_getElem? (i := 233) rfl) rfl
theorem wd_5_235 : (Jvm.Cond.lays "java/lang/String" "java/lang/String" "hashIsZero" "Z") ∈ TB := tbk_5 (List.mem_of_getElem? (i := 235) rfl) rfl
theorem wd_5_238 : (Jvm.Cond.methodLink "java/util/ArrayList" (193 : Nat) ({ cls := "java/lang/IndexOutOfBoundsException", name := "<init>", desc := "(Ljava/lang/String;)V" } : Jvm.MethodName)) ∈ TB := tbk_5 (List.mem_of_getElem? (i := 238) rfl) rfl
theorem wd_5_239 : (Jvm.Cond.methodLink "java/util/ArrayList" (112 : Nat) ({ cls := "java/lang/System", name := "arraycopy", desc := "(Ljava/lang/Object;ILjava/lang/Object;II)V" } : Jvm.MethodName)) ∈ TB := tbk_5 (List.mem_of_getElem? (i := 239) rfl) rfl
theorem wd_6_0 : (Jvm.Cond.methodLink "PolicyTreeLaw" (161 : Nat) ({ cls := "PolicyTreeLaw", name := "end", desc := "(LPolicyTree;I[J)I" } : Jvm.MethodName)) ∈ TB := tbk_6 (List.mem_of_getElem? (i := 0) rfl) rfl
theorem wd_6_1 : (Jvm.Cond.static ({ cls := "PolicyTreeLaw", name := "end", desc := "(LPolicyTree;I[J)I" } : Jvm.MethodName)) ∈ TB := tbk_6 (List.mem_of_getElem? (i := 1) rfl) rfl
theorem wd_6_2 : (Jvm.Cond.codeWith ({ cls := "PolicyTreeLaw", name := "end", desc := "(LPolicyTree;I[J)I" } : Jvm.MethodName) method_17_code (4 : Nat) (Option.some Jvm.ClassFile.FieldType.int) [((0 : Nat), (16 : Nat), (19 : Nat), (13 : Nat))]) ∈ TB := tbk_6 (List.mem_of_getElem? (i := 2) rfl) rfl
theorem wd_6_3 : (Jvm.Cond.methodLink "PolicyTreeLaw" (66 : Nat) ({ cls := "PolicyTree", name := "end", desc := "(I)Z" } : Jvm.MethodName)) ∈ TB := tbk_6 (List.mem_of_getElem? (i := 3) rfl) rfl
theorem wd_6_4 : (Jvm.Cond.instanceMethod ({ cls := "PolicyTree", name := "end", desc := "(I)Z" } : Jvm.MethodName)) ∈ TB := tbk_6 (List.mem_of_getElem? (i := 4) rfl) rfl
theorem wd_6_5 : (Jvm.Cond.selects "PolicyTree" ({ cls := "PolicyTree", name := "end", desc := "(I)Z" } : Jvm.MethodName) ({ cls := "PolicyTree", name := "end", desc := "(I)Z" } : Jvm.MethodName)) ∈ TB := tbk_6 (List.mem_of_getElem? (i := 5) rfl) rfl
theorem wd_6_6 : (Jvm.Cond.code ({ cls := "PolicyTree", name := "end", desc := "(I)Z" } : Jvm.MethodName) prog_1_method_18_code (3 : Nat) (Option.some Jvm.ClassFile.FieldType.boolean)) ∈ TB := tbk_6 (List.mem_of_getElem? (i := 6) rfl) rfl
theorem wd_6_7 : (Jvm.Cond.methodLink "PolicyTree" (205 : Nat) ({ cls := "PolicyTree$Node", name := "remove", desc := "(LPolicyTree$Link;)V" } : Jvm.MethodName)) ∈ TB := tbk_6 (List.mem_of_getElem? (i := 7) rfl) rfl
theorem wd_6_8 : (Jvm.Cond.instanceMethod ({ cls := "PolicyTree$Node", name := "remove", desc := "(LPolicyTree$Link;)V" } : Jvm.MethodName)) ∈ TB := tbk_6 (List.mem_of_getElem? (i := 8) rfl) rfl
theorem wd_6_9 : (Jvm.Cond.selects "PolicyTree$Node" ({ cls := "PolicyTree$Node", name := "remove", desc := "(LPolicyTree$Link;)V" } : Jvm.MethodName) ({ cls := "PolicyTree$Node", name := "remove", desc := "(LPolicyTree$Link;)V" } : Jvm.MethodName)) ∈ TB := tbk_6 (List.mem_of_getElem? (i := 9) rfl) rfl
theorem wd_6_10 : (Jvm.Cond.code ({ cls := "PolicyTree$Node", name := "remove", desc := "(LPolicyTree$Link;)V" } : Jvm.MethodName) prog_8_method_6_code (3 : Nat) (Option.none : Option Jvm.ClassFile.FieldType)) ∈ TB := tbk_6 (List.mem_of_getElem? (i := 10) rfl) rfl
theorem wd_6_11 : (Jvm.Cond.methodLink "PolicyTree$Node" (41 : Nat) ({ cls := "java/util/ArrayList", name := "remove", desc := "(I)Ljava/lang/Object;" } : Jvm.MethodName)) ∈ TB := tbk_6 (List.mem_of_getElem? (i := 11) rfl) rfl
theorem wd_6_12 : (Jvm.Cond.instanceMethod ({ cls := "java/util/ArrayList", name := "remove", desc := "(I)Ljava/lang/Object;" } : Jvm.MethodName)) ∈ TB := tbk_6 (List.mem_of_getElem? (i := 12) rfl) rfl
theorem wd_6_13 : (Jvm.Cond.selects "java/util/ArrayList" ({ cls := "java/util/ArrayList", name := "remove", desc := "(I)Ljava/lang/Object;" } : Jvm.MethodName) ({ cls := "java/util/ArrayList", name := "remove", desc := "(I)Ljava/lang/Object;" } : Jvm.MethodName)) ∈ TB := tbk_6 (List.mem_of_getElem? (i := 13) rfl) rfl
theorem wd_6_14 : (Jvm.Cond.code ({ cls := "java/util/ArrayList", name := "remove", desc := "(I)Ljava/lang/Object;" } : Jvm.MethodName) prog_34_method_29_code (4 : Nat) (Option.some (Jvm.ClassFile.FieldType.object "java/lang/Object"))) ∈ TB := tbk_6 (List.mem_of_getElem? (i := 14) rfl) rfl
theorem wd_6_15 : (Jvm.Cond.methodLink "java/util/ArrayList" (144 : Nat) ({ cls := "java/util/ArrayList", name := "fastRemove", desc := "([Ljava/lang/Object;I)V" } : Jvm.MethodName)) ∈ TB := tbk_6 (List.mem_of_getElem? (i := 15) rfl) rfl
theorem wd_6_17 : (Jvm.Cond.instanceMethod ({ cls := "java/util/ArrayList", name := "fastRemove", desc := "([Ljava/lang/Object;I)V" } : Jvm.MethodName)) ∈ TB := tbk_6 (List.mem_of_getElem? (i := 17) rfl) rfl
theorem wd_6_18 : (Jvm.Cond.code ({ cls := "java/util/ArrayList", name := "fastRemove", desc := "([Ljava/lang/Object;I)V" } : Jvm.MethodName) prog_34_method_39_code (4 : Nat) (Option.none : Option Jvm.ClassFile.FieldType)) ∈ TB := tbk_6 (List.mem_of_getElem? (i := 18) rfl) rfl
theorem wd_6_19 : (Jvm.Cond.methodLink "PolicyTreeLaw" (164 : Nat) ({ cls := "PolicyTreeLaw", name := "outcome", desc := "(LPolicyTree;II[J)I" } : Jvm.MethodName)) ∈ TB := tbk_6 (List.mem_of_getElem? (i := 19) rfl) rfl
theorem wd_6_20 : (Jvm.Cond.static ({ cls := "PolicyTreeLaw", name := "outcome", desc := "(LPolicyTree;II[J)I" } : Jvm.MethodName)) ∈ TB := tbk_6 (List.mem_of_getElem? (i := 20) rfl) rfl
theorem wd_6_21 : (Jvm.Cond.codeWith ({ cls := "PolicyTreeLaw", name := "outcome", desc := "(LPolicyTree;II[J)I" } : Jvm.MethodName) method_18_code (5 : Nat) (Option.some Jvm.ClassFile.FieldType.int) [((0 : Nat), (10 : Nat), (13 : Nat), (13 : Nat)), ((0 : Nat), (10 : Nat), (17 : Nat), (32 : Nat))]) ∈ TB := tbk_6 (List.mem_of_getElem? (i := 21) rfl) rfl
theorem wd_6_22 : (Jvm.Cond.methodLink "PolicyTreeLaw" (70 : Nat) ({ cls := "PolicyTree", name := "outcome", desc := "(II)I" } : Jvm.MethodName)) ∈ TB := tbk_6 (List.mem_of_getElem? (i := 22) rfl) rfl
theorem wd_6_23 : (Jvm.Cond.instanceMethod ({ cls := "PolicyTree", name := "outcome", desc := "(II)I" } : Jvm.MethodName)) ∈ TB := tbk_6 (List.mem_of_getElem? (i := 23) rfl) rfl
theorem wd_6_24 : (Jvm.Cond.selects "PolicyTree" ({ cls := "PolicyTree", name := "outcome", desc := "(II)I" } : Jvm.MethodName) ({ cls := "PolicyTree", name := "outcome", desc := "(II)I" } : Jvm.MethodName)) ∈ TB := tbk_6 (List.mem_of_getElem? (i := 24) rfl) rfl
theorem wd_6_25 : (Jvm.Cond.code ({ cls := "PolicyTree", name := "outcome", desc := "(II)I" } : Jvm.MethodName) prog_1_method_19_code (3 : Nat) (Option.some Jvm.ClassFile.FieldType.int)) ∈ TB := tbk_6 (List.mem_of_getElem? (i := 25) rfl) rfl
theorem wd_6_26 : (Jvm.Cond.methodLink "PolicyTree" (208 : Nat) ({ cls := "PolicyTree", name := "findOutcome", desc := "(II)V" } : Jvm.MethodName)) ∈ TB := tbk_6 (List.mem_of_getElem? (i := 26) rfl) rfl
theorem wd_6_28 : (Jvm.Cond.instanceMethod ({ cls := "PolicyTree", name := "findOutcome", desc := "(II)V" } : Jvm.MethodName)) ∈ TB := tbk_6 (List.mem_of_getElem? (i := 28) rfl) rfl
theorem wd_6_29 : (Jvm.Cond.code ({ cls := "PolicyTree", name := "findOutcome", desc := "(II)V" } : Jvm.MethodName) prog_1_method_32_code (3 : Nat) (Option.none : Option Jvm.ClassFile.FieldType)) ∈ TB := tbk_6 (List.mem_of_getElem? (i := 29) rfl) rfl
theorem wd_6_30 : (Jvm.Cond.methodLink "PolicyTree" (211 : Nat) ({ cls := "PolicyTree$Outcome", name := "size", desc := "()I" } : Jvm.MethodName)) ∈ TB := tbk_6 (List.mem_of_getElem? (i := 30) rfl) rfl
theorem wd_6_31 : (Jvm.Cond.instanceMethod ({ cls := "PolicyTree$Outcome", name := "size", desc := "()I" } : Jvm.MethodName)) ∈ TB := tbk_6 (List.mem_of_getElem? (i := 31) rfl) rfl
theorem wd_6_32 : (Jvm.Cond.selects "PolicyTree$Outcome" ({ cls := "PolicyTree$Outcome", name := "size", desc := "()I" } : Jvm.MethodName) ({ cls := "PolicyTree$Outcome", name := "size", desc := "()I" } : Jvm.MethodName)) ∈ TB := tbk_6 (List.mem_of_getElem? (i := 32) rfl) rfl
theorem wd_6_33 : (Jvm.Cond.code ({ cls := "PolicyTree$Outcome", name := "size", desc := "()I" } : Jvm.MethodName) prog_9_method_3_code (1 : Nat) (Option.some Jvm.ClassFile.FieldType.int)) ∈ TB := tbk_6 (List.mem_of_getElem? (i := 33) rfl) rfl
theorem wd_6_34 : (Jvm.Cond.methodLink "PolicyTreeLaw" (167 : Nat) ({ cls := "PolicyTreeLaw", name := "value", desc := "(LPolicyTree;III[J)I" } : Jvm.MethodName)) ∈ TB := tbk_6 (List.mem_of_getElem? (i := 34) rfl) rfl
theorem wd_6_35 : (Jvm.Cond.static ({ cls := "PolicyTreeLaw", name := "value", desc := "(LPolicyTree;III[J)I" } : Jvm.MethodName)) ∈ TB := tbk_6 (List.mem_of_getElem? (i := 35) rfl) rfl
theorem wd_6_36 : (Jvm.Cond.codeWith ({ cls := "PolicyTreeLaw", name := "value", desc := "(LPolicyTree;III[J)I" } : Jvm.MethodName) method_19_code (6 : Nat) (Option.some Jvm.ClassFile.FieldType.int) [((0 : Nat), (12 : Nat), (15 : Nat), (13 : Nat)), ((0 : Nat), (12 : Nat), (19 : Nat), (32 : Nat))]) ∈ TB := tbk_6 (List.mem_of_getElem? (i := 36) rfl) rfl
theorem wd_6_37 : (Jvm.Cond.methodLink "PolicyTreeLaw" (73 : Nat) ({ cls := "PolicyTree", name := "value", desc := "(III)I" } : Jvm.MethodName)) ∈ TB := tbk_6 (List.mem_of_getElem? (i := 37) rfl) rfl
theorem wd_6_38 : (Jvm.Cond.instanceMethod ({ cls := "PolicyTree", name := "value", desc := "(III)I" } : Jvm.MethodName)) ∈ TB := tbk_6 (List.mem_of_getElem? (i := 38) rfl) rfl
theorem wd_6_39 : (Jvm.Cond.selects "PolicyTree" ({ cls := "PolicyTree", name := "value", desc := "(III)I" } : Jvm.MethodName) ({ cls := "PolicyTree", name := "value", desc := "(III)I" } : Jvm.MethodName)) ∈ TB := tbk_6 (List.mem_of_getElem? (i := 39) rfl) rfl
theorem wd_6_40 : (Jvm.Cond.code ({ cls := "PolicyTree", name := "value", desc := "(III)I" } : Jvm.MethodName) prog_1_method_20_code (4 : Nat) (Option.some Jvm.ClassFile.FieldType.int)) ∈ TB := tbk_6 (List.mem_of_getElem? (i := 40) rfl) rfl
theorem wd_6_41 : (Jvm.Cond.methodLink "PolicyTree" (212 : Nat) ({ cls := "PolicyTree$Outcome", name := "valueAt", desc := "(I)I" } : Jvm.MethodName)) ∈ TB := tbk_6 (List.mem_of_getElem? (i := 41) rfl) rfl
theorem wd_6_42 : (Jvm.Cond.methodLink "PolicyTreeLaw" (170 : Nat) ({ cls := "PolicyTreeLaw", name := "reason", desc := "(LPolicyTree;II[J)I" } : Jvm.MethodName)) ∈ TB := tbk_6 (List.mem_of_getElem? (i := 42) rfl) rfl
theorem wd_6_43 : (Jvm.Cond.static ({ cls := "PolicyTreeLaw", name := "reason", desc := "(LPolicyTree;II[J)I" } : Jvm.MethodName)) ∈ TB := tbk_6 (List.mem_of_getElem? (i := 43) rfl) rfl
theorem wd_6_44 : (Jvm.Cond.codeWith ({ cls := "PolicyTreeLaw", name := "reason", desc := "(LPolicyTree;II[J)I" } : Jvm.MethodName) method_20_code (5 : Nat) (Option.some Jvm.ClassFile.FieldType.int) [((0 : Nat), (10 : Nat), (13 : Nat), (13 : Nat)), ((0 : Nat), (10 : Nat), (17 : Nat), (32 : Nat))]) ∈ TB := tbk_6 (List.mem_of_getElem? (i := 44) rfl) rfl
theorem wd_6_45 : (Jvm.Cond.methodLink "PolicyTreeLaw" (76 : Nat) ({ cls := "PolicyTree", name := "reason", desc := "(II)I" } : Jvm.MethodName)) ∈ TB := tbk_6 (List.mem_of_getElem? (i := 45) rfl) rfl
theorem wd_6_46 : (Jvm.Cond.instanceMethod ({ cls := "PolicyTree", name := "reason", desc := "(II)I" } : Jvm.MethodName)) ∈ TB := tbk_6 (List.mem_of_getElem? (i := 46) rfl) rfl
theorem wd_6_47 : (Jvm.Cond.selects "PolicyTree" ({ cls := "PolicyTree", name := "reason", desc := "(II)I" } : Jvm.MethodName) ({ cls := "PolicyTree", name := "reason", desc := "(II)I" } : Jvm.MethodName)) ∈ TB := tbk_6 (List.mem_of_getElem? (i := 47) rfl) rfl
theorem wd_6_48 : (Jvm.Cond.code ({ cls := "PolicyTree", name := "reason", desc := "(II)I" } : Jvm.MethodName) prog_1_method_21_code (4 : Nat) (Option.some Jvm.ClassFile.FieldType.int)) ∈ TB := tbk_6 (List.mem_of_getElem? (i := 48) rfl) rfl
theorem wd_6_49 : (Jvm.Cond.methodLink "PolicyTree" (215 : Nat) ({ cls := "PolicyTree$Outcome", name := "teller", desc := "()LPolicyTree$Link;" } : Jvm.MethodName)) ∈ TB := tbk_6 (List.mem_of_getElem? (i := 49) rfl) rfl
theorem wd_6_50 : (Jvm.Cond.instanceMethod ({ cls := "PolicyTree$Outcome", name := "teller", desc := "()LPolicyTree$Link;" } : Jvm.MethodName)) ∈ TB := tbk_6 (List.mem_of_getElem? (i := 50) rfl) rfl
theorem wd_6_51 : (Jvm.Cond.selects "PolicyTree$Outcome" ({ cls := "PolicyTree$Outcome", name := "teller", desc := "()LPolicyTree$Link;" } : Jvm.MethodName) ({ cls := "PolicyTree$Outcome", name := "teller", desc := "()LPolicyTree$Link;" } : Jvm.MethodName)) ∈ TB := tbk_6 (List.mem_of_getElem? (i := 51) rfl) rfl
theorem wd_6_52 : (Jvm.Cond.code ({ cls := "PolicyTree$Outcome", name := "teller", desc := "()LPolicyTree$Link;" } : Jvm.MethodName) prog_9_method_4_code (1 : Nat) (Option.some (Jvm.ClassFile.FieldType.object "PolicyTree$Link"))) ∈ TB := tbk_6 (List.mem_of_getElem? (i := 52) rfl) rfl
theorem wd_6_53 : (Jvm.Cond.methodLink "PolicyTreeLaw" (173 : Nat) ({ cls := "PolicyTreeLaw", name := "beaten", desc := "(LPolicyTree;III[J)I" } : Jvm.MethodName)) ∈ TB := tbk_6 (List.mem_of_getElem? (i := 53) rfl) rfl
theorem wd_6_54 : (Jvm.Cond.static ({ cls := "PolicyTreeLaw", name := "beaten", desc := "(LPolicyTree;III[J)I" } : Jvm.MethodName)) ∈ TB := tbk_6 (List.mem_of_getElem? (i := 54) rfl) rfl
theorem wd_6_55 : (Jvm.Cond.codeWith ({ cls := "PolicyTreeLaw", name := "beaten", desc := "(LPolicyTree;III[J)I" } : Jvm.MethodName) method_21_code (6 : Nat) (Option.some Jvm.ClassFile.FieldType.int) [((0 : Nat), (12 : Nat), (15 : Nat), (13 : Nat)), ((0 : Nat), (12 : Nat), (19 : Nat), (32 : Nat))]) ∈ TB := tbk_6 (List.mem_of_getElem? (i := 55) rfl) rfl
theorem wd_6_56 : (Jvm.Cond.methodLink "PolicyTreeLaw" (79 : Nat) ({ cls := "PolicyTree", name := "beaten", desc := "(III)I" } : Jvm.MethodName)) ∈ TB := tbk_6 (List.mem_of_getElem? (i := 56) rfl) rfl
theorem wd_6_57 : (Jvm.Cond.instanceMethod ({ cls := "PolicyTree", name := "beaten", desc := "(III)I" } : Jvm.MethodName)) ∈ TB := tbk_6 (List.mem_of_getElem? (i := 57) rfl) rfl
theorem wd_6_58 : (Jvm.Cond.selects "PolicyTree" ({ cls := "PolicyTree", name := "beaten", desc := "(III)I" } : Jvm.MethodName) ({ cls := "PolicyTree", name := "beaten", desc := "(III)I" } : Jvm.MethodName)) ∈ TB := tbk_6 (List.mem_of_getElem? (i := 58) rfl) rfl
theorem wd_6_59 : (Jvm.Cond.code ({ cls := "PolicyTree", name := "beaten", desc := "(III)I" } : Jvm.MethodName) prog_1_method_22_code (7 : Nat) (Option.some Jvm.ClassFile.FieldType.int)) ∈ TB := tbk_6 (List.mem_of_getElem? (i := 59) rfl) rfl
theorem wd_6_60 : (Jvm.Cond.methodLink "PolicyTree" (219 : Nat) ({ cls := "PolicyTree$Row", name := "size", desc := "()I" } : Jvm.MethodName)) ∈ TB := tbk_6 (List.mem_of_getElem? (i := 60) rfl) rfl
theorem wd_6_61 : (Jvm.Cond.methodLink "PolicyTree" (220 : Nat) ({ cls := "PolicyTree$Row", name := "linkAt", desc := "(I)LPolicyTree$Link;" } : Jvm.MethodName)) ∈ TB := tbk_6 (List.mem_of_getElem? (i := 61) rfl) rfl
theorem wd_6_62 : (Jvm.Cond.methodLink "PolicyTree" (224 : Nat) ({ cls := "PolicyTree$Row", name := "holds", desc := "(II)Z" } : Jvm.MethodName)) ∈ TB := tbk_6 (List.mem_of_getElem? (i := 62) rfl) rfl
theorem wd_6_63 : (Jvm.Cond.methodLink "PolicyTreeLaw" (176 : Nat) ({ cls := "PolicyTreeLaw", name := "sure", desc := "(LPolicyTree;II[J)I" } : Jvm.MethodName)) ∈ TB := tbk_6 (List.mem_of_getElem? (i := 63) rfl) rfl
theorem wd_6_64 : (Jvm.Cond.static ({ cls := "PolicyTreeLaw", name := "sure", desc := "(LPolicyTree;II[J)I" } : Jvm.MethodName)) ∈ TB := tbk_6 (List.mem_of_getElem? (i := 64) rfl) rfl
theorem wd_6_65 : (Jvm.Cond.codeWith ({ cls := "PolicyTreeLaw", name := "sure", desc := "(LPolicyTree;II[J)I" } : Jvm.MethodName) method_22_code (5 : Nat) (Option.some Jvm.ClassFile.FieldType.int) [((0 : Nat), (17 : Nat), (20 : Nat), (13 : Nat)), ((0 : Nat), (17 : Nat), (24 : Nat), (32 : Nat))]) ∈ TB := tbk_6 (List.mem_of_getElem? (i := 65) rfl) rfl
theorem wd_6_66 : (Jvm.Cond.methodLink "PolicyTreeLaw" (82 : Nat) ({ cls := "PolicyTree", name := "sure", desc := "(II)Z" } : Jvm.MethodName)) ∈ TB := tbk_6 (List.mem_of_getElem? (i := 66) rfl) rfl
theorem wd_6_67 : (Jvm.Cond.instanceMethod ({ cls := "PolicyTree", name := "sure", desc := "(II)Z" } : Jvm.MethodName)) ∈ TB := tbk_6 (List.mem_of_getElem? (i := 67) rfl) rfl
theorem wd_6_68 : (Jvm.Cond.selects "PolicyTree" ({ cls := "PolicyTree", name := "sure", desc := "(II)Z" } : Jvm.MethodName) ({ cls := "PolicyTree", name := "sure", desc := "(II)Z" } : Jvm.MethodName)) ∈ TB := tbk_6 (List.mem_of_getElem? (i := 68) rfl) rfl
theorem wd_6_69 : (Jvm.Cond.code ({ cls := "PolicyTree", name := "sure", desc := "(II)Z" } : Jvm.MethodName) prog_1_method_23_code (5 : Nat) (Option.some Jvm.ClassFile.FieldType.boolean)) ∈ TB := tbk_6 (List.mem_of_getElem? (i := 69) rfl) rfl
theorem wd_6_70 : (Jvm.Cond.methodLink "PolicyTree" (227 : Nat) ({ cls := "PolicyTree$Row", name := "doubtedFacts", desc := "()I" } : Jvm.MethodName)) ∈ TB := tbk_6 (List.mem_of_getElem? (i := 70) rfl) rfl
theorem wd_6_71 : (Jvm.Cond.instanceMethod ({ cls := "PolicyTree$Row", name := "doubtedFacts", desc := "()I" } : Jvm.MethodName)) ∈ TB := tbk_6 (List.mem_of_getElem? (i := 71) rfl) rfl
theorem wd_6_72 : (Jvm.Cond.selects "PolicyTree$Row" ({ cls := "PolicyTree$Row", name := "doubtedFacts", desc := "()I" } : Jvm.MethodName) ({ cls := "PolicyTree$Row", name := "doubtedFacts", desc := "()I" } : Jvm.MethodName)) ∈ TB := tbk_6 (List.mem_of_getElem? (i := 72) rfl) rfl
theorem wd_6_73 : (Jvm.Cond.code ({ cls := "PolicyTree$Row", name := "doubtedFacts", desc := "()I" } : Jvm.MethodName) prog_10_method_7_code (3 : Nat) (Option.some Jvm.ClassFile.FieldType.int)) ∈ TB := tbk_6 (List.mem_of_getElem? (i := 73) rfl) rfl
theorem wd_6_74 : (Jvm.Cond.methodLink "PolicyTree$Row" (89 : Nat) ({ cls := "PolicyTree$Filter", name := "mentionedFacts", desc := "()I" } : Jvm.MethodName)) ∈ TB := tbk_6 (List.mem_of_getElem? (i := 74) rfl) rfl
theorem wd_6_75 : (Jvm.Cond.instanceMethod ({ cls := "PolicyTree$Filter", name := "mentionedFacts", desc := "()I" } : Jvm.MethodName)) ∈ TB := tbk_6 (List.mem_of_getElem? (i := 75) rfl) rfl
theorem wd_6_76 : (Jvm.Cond.selects "PolicyTree$Filter" ({ cls := "PolicyTree$Filter", name := "mentionedFacts", desc := "()I" } : Jvm.MethodName) ({ cls := "PolicyTree$Filter", name := "mentionedFacts", desc := "()I" } : Jvm.MethodName)) ∈ TB := tbk_6 (List.mem_of_getElem? (i := 76) rfl) rfl
theorem wd_6_77 : (Jvm.Cond.code ({ cls := "PolicyTree$Filter", name := "mentionedFacts", desc := "()I" } : Jvm.MethodName) prog_3_method_2_code (3 : Nat) (Option.some Jvm.ClassFile.FieldType.int)) ∈ TB := tbk_6 (List.mem_of_getElem? (i := 77) rfl) rfl
theorem wd_6_78 : (Jvm.Cond.methodLink "PolicyTree$Row" (92 : Nat) ({ cls := "PolicyTree$Standing", name := "knownFacts", desc := "()I" } : Jvm.MethodName)) ∈ TB := tbk_6 (List.mem_of_getElem? (i := 78) rfl) rfl
theorem wd_6_79 : (Jvm.Cond.instanceMethod ({ cls := "PolicyTree$Standing", name := "knownFacts", desc := "()I" } : Jvm.MethodName)) ∈ TB := tbk_6 (List.mem_of_getElem? (i := 79) rfl) rfl
theorem wd_6_80 : (Jvm.Cond.selects "PolicyTree$Standing" ({ cls := "PolicyTree$Standing", name := "knownFacts", desc := "()I" } : Jvm.MethodName) ({ cls := "PolicyTree$Standing", name := "knownFacts", desc := "()I" } : Jvm.MethodName)) ∈ TB := tbk_6 (List.mem_of_getElem? (i := 80) rfl) rfl
theorem wd_6_81 : (Jvm.Cond.code ({ cls := "PolicyTree$Standing", name := "knownFacts", desc := "()I" } : Jvm.MethodName) prog_11_method_4_code (1 : Nat) (Option.some Jvm.ClassFile.FieldType.int)) ∈ TB := tbk_6 (List.mem_of_getElem? (i := 81) rfl) rfl
theorem wd_6_82 : (Jvm.Cond.methodLink "PolicyTree" (235 : Nat) ({ cls := "PolicyTree", name := "isSameInLane", desc := "(II)Z" } : Jvm.MethodName)) ∈ TB := tbk_6 (List.mem_of_getElem? (i := 82) rfl) rfl
theorem wd_6_84 : (Jvm.Cond.instanceMethod ({ cls := "PolicyTree", name := "isSameInLane", desc := "(II)Z" } : Jvm.MethodName)) ∈ TB := tbk_6 (List.mem_of_getElem? (i := 84) rfl) rfl
theorem wd_6_85 : (Jvm.Cond.code ({ cls := "PolicyTree", name := "isSameInLane", desc := "(II)Z" } : Jvm.MethodName) prog_1_method_33_code (4 : Nat) (Option.some Jvm.ClassFile.FieldType.boolean)) ∈ TB := tbk_6 (List.mem_of_getElem? (i := 85) rfl) rfl
theorem wd_6_86 : (Jvm.Cond.methodLink "PolicyTreeLaw" (179 : Nat) ({ cls := "PolicyTreeLaw", name := "reach", desc := "(LPolicyTree;I[J)I" } : Jvm.MethodName)) ∈ TB := tbk_6 (List.mem_of_getElem? (i := 86) rfl) rfl
theorem wd_6_87 : (Jvm.Cond.static ({ cls := "PolicyTreeLaw", name := "reach", desc := "(LPolicyTree;I[J)I" } : Jvm.MethodName)) ∈ TB := tbk_6 (List.mem_of_getElem? (i := 87) rfl) rfl
theorem wd_6_88 : (Jvm.Cond.codeWith ({ cls := "PolicyTreeLaw", name := "reach", desc := "(LPolicyTree;I[J)I" } : Jvm.MethodName) method_23_code (4 : Nat) (Option.some Jvm.ClassFile.FieldType.int) [((0 : Nat), (9 : Nat), (12 : Nat), (13 : Nat))]) ∈ TB := tbk_6 (List.mem_of_getElem? (i := 88) rfl) rfl
theorem wd_6_89 : (Jvm.Cond.methodLink "PolicyTreeLaw" (85 : Nat) ({ cls := "PolicyTree", name := "reach", desc := "(I)I" } : Jvm.MethodName)) ∈ TB := tbk_6 (List.mem_of_getElem? (i := 89) rfl) rfl
theorem wd_6_90 : (Jvm.Cond.instanceMethod ({ cls := "PolicyTree", name := "reach", desc := "(I)I" } : Jvm.MethodName)) ∈ TB := tbk_6 (List.mem_of_getElem? (i := 90) rfl) rfl
theorem wd_6_91 : (Jvm.Cond.selects "PolicyTree" ({ cls := "PolicyTree", name := "reach", desc := "(I)I" } : Jvm.MethodName) ({ cls := "PolicyTree", name := "reach", desc := "(I)I" } : Jvm.MethodName)) ∈ TB := tbk_6 (List.mem_of_getElem? (i := 91) rfl) rfl
theorem wd_6_92 : (Jvm.Cond.code ({ cls := "PolicyTree", name := "reach", desc := "(I)I" } : Jvm.MethodName) prog_1_method_24_code (2 : Nat) (Option.some Jvm.ClassFile.FieldType.int)) ∈ TB := tbk_6 (List.mem_of_getElem? (i := 92) rfl) rfl
theorem wd_6_93 : (Jvm.Cond.methodLink "PolicyTree" (238 : Nat) ({ cls := "PolicyTree", name := "listReach", desc := "(LPolicyTree$Link;)I" } : Jvm.MethodName)) ∈ TB := tbk_6 (List.mem_of_getElem? (i := 93) rfl) rfl
theorem wd_6_95 : (Jvm.Cond.instanceMethod ({ cls := "PolicyTree", name := "listReach", desc := "(LPolicyTree$Link;)I" } : Jvm.MethodName)) ∈ TB := tbk_6 (List.mem_of_getElem? (i := 95) rfl) rfl
theorem wd_6_96 : (Jvm.Cond.code ({ cls := "PolicyTree", name := "listReach", desc := "(LPolicyTree$Link;)I" } : Jvm.MethodName) prog_1_method_35_code (5 : Nat) (Option.some Jvm.ClassFile.FieldType.int)) ∈ TB := tbk_6 (List.mem_of_getElem? (i := 96) rfl) rfl
theorem wd_6_97 : (Jvm.Cond.methodLink "PolicyTree" (282 : Nat) ({ cls := "PolicyTree$Bundle", name := "toldSettings", desc := "()I" } : Jvm.MethodName)) ∈ TB := tbk_6 (List.mem_of_getElem? (i := 97) rfl) rfl
theorem wd_6_98 : (Jvm.Cond.methodLink "PolicyTree" (285 : Nat) ({ cls := "PolicyTree", name := "addReach", desc := "(LPolicyTree$Link;II)I" } : Jvm.MethodName)) ∈ TB := tbk_6 (List.mem_of_getElem? (i := 98) rfl) rfl
theorem wd_6_100 : (Jvm.Cond.instanceMethod ({ cls := "PolicyTree", name := "addReach", desc := "(LPolicyTree$Link;II)I" } : Jvm.MethodName)) ∈ TB := tbk_6 (List.mem_of_getElem? (i := 100) rfl) rfl
theorem wd_6_101 : (Jvm.Cond.code ({ cls := "PolicyTree", name := "addReach", desc := "(LPolicyTree$Link;II)I" } : Jvm.MethodName) prog_1_method_36_code (6 : Nat) (Option.some Jvm.ClassFile.FieldType.int)) ∈ TB := tbk_6 (List.mem_of_getElem? (i := 101) rfl) rfl
theorem wd_6_102 : (Jvm.Cond.methodLink "PolicyTree" (289 : Nat) ({ cls := "PolicyTree$Bundle", name := "tells", desc := "(I)Z" } : Jvm.MethodName)) ∈ TB := tbk_6 (List.mem_of_getElem? (i := 102) rfl) rfl
theorem wd_6_103 : (Jvm.Cond.methodLink "PolicyTreeLaw" (182 : Nat) ({ cls := "PolicyTreeLaw", name := "reached", desc := "(LPolicyTree;III[J)I" } : Jvm.MethodName)) ∈ TB := tbk_6 (List.mem_of_getElem? (i := 103) rfl) rfl
theorem wd_6_104 : (Jvm.Cond.static ({ cls := "PolicyTreeLaw", name := "reached", desc := "(LPolicyTree;III[J)I" } : Jvm.MethodName)) ∈ TB := tbk_6 (List.mem_of_getElem? (i := 104) rfl) rfl
theorem wd_6_105 : (Jvm.Cond.codeWith ({ cls := "PolicyTreeLaw", name := "reached", desc := "(LPolicyTree;III[J)I" } : Jvm.MethodName) method_24_code (6 : Nat) (Option.some Jvm.ClassFile.FieldType.int) [((0 : Nat), (12 : Nat), (15 : Nat), (13 : Nat)), ((0 : Nat), (12 : Nat), (19 : Nat), (32 : Nat))]) ∈ TB := tbk_6 (List.mem_of_getElem? (i := 105) rfl) rfl
theorem wd_6_106 : (Jvm.Cond.methodLink "PolicyTreeLaw" (88 : Nat) ({ cls := "PolicyTree", name := "reached", desc := "(III)I" } : Jvm.MethodName)) ∈ TB := tbk_6 (List.mem_of_getElem? (i := 106) rfl) rfl
theorem wd_6_107 : (Jvm.Cond.instanceMethod ({ cls := "PolicyTree", name := "reached", desc := "(III)I" } : Jvm.MethodName)) ∈ TB := tbk_6 (List.mem_of_getElem? (i := 107) rfl) rfl
theorem wd_6_108 : (Jvm.Cond.selects "PolicyTree" ({ cls := "PolicyTree", name := "reached", desc := "(III)I" } : Jvm.MethodName) ({ cls := "PolicyTree", name := "reached", desc := "(III)I" } : Jvm.MethodName)) ∈ TB := tbk_6 (List.mem_of_getElem? (i := 108) rfl) rfl
theorem wd_6_109 : (Jvm.Cond.code ({ cls := "PolicyTree", name := "reached", desc := "(III)I" } : Jvm.MethodName) prog_1_method_25_code (5 : Nat) (Option.some Jvm.ClassFile.FieldType.int)) ∈ TB := tbk_6 (List.mem_of_getElem? (i := 109) rfl) rfl
theorem wd_6_110 : (Jvm.Cond.methodLink "PolicyTreeLaw" (189 : Nat) ({ cls := "PolicyTreeLaw", name := "quarrel", desc := "(LPolicyTree;II[J)I" } : Jvm.MethodName)) ∈ TB := tbk_6 (List.mem_of_getElem? (i := 110) rfl) rfl
theorem wd_6_111 : (Jvm.Cond.static ({ cls := "PolicyTreeLaw", name := "quarrel", desc := "(LPolicyTree;II[J)I" } : Jvm.MethodName)) ∈ TB := tbk_6 (List.mem_of_getElem? (i := 111) rfl) rfl
theorem wd_6_112 : (Jvm.Cond.codeWith ({ cls := "PolicyTreeLaw", name := "quarrel", desc := "(LPolicyTree;II[J)I" } : Jvm.MethodName) method_25_code (5 : Nat) (Option.some Jvm.ClassFile.FieldType.int) [((0 : Nat), (10 : Nat), (13 : Nat), (32 : Nat))]) ∈ TB := tbk_6 (List.mem_of_getElem? (i := 112) rfl) rfl
theorem wd_6_113 : (Jvm.Cond.methodLink "PolicyTreeLaw" (91 : Nat) ({ cls := "PolicyTree", name := "quarrel", desc := "(II)I" } : Jvm.MethodName)) ∈ TB := tbk_6 (List.mem_of_getElem? (i := 113) rfl) rfl
theorem wd_6_114 : (Jvm.Cond.instanceMethod ({ cls := "PolicyTree", name := "quarrel", desc := "(II)I" } : Jvm.MethodName)) ∈ TB := tbk_6 (List.mem_of_getElem? (i := 114) rfl) rfl
theorem wd_6_115 : (Jvm.Cond.selects "PolicyTree" ({ cls := "PolicyTree", name := "quarrel", desc := "(II)I" } : Jvm.MethodName) ({ cls := "PolicyTree", name := "quarrel", desc := "(II)I" } : Jvm.MethodName)) ∈ TB := tbk_6 (List.mem_of_getElem? (i := 115) rfl) rfl
theorem wd_6_116 : (Jvm.Cond.code ({ cls := "PolicyTree", name := "quarrel", desc := "(II)I" } : Jvm.MethodName) prog_1_method_27_code (7 : Nat) (Option.some Jvm.ClassFile.FieldType.int)) ∈ TB := tbk_6 (List.mem_of_getElem? (i := 116) rfl) rfl
theorem wd_6_117 : (Jvm.Cond.methodLink "PolicyTree" (249 : Nat) ({ cls := "PolicyTree", name := "findQuarreller", desc := "(III)I" } : Jvm.MethodName)) ∈ TB := tbk_6 (List.mem_of_getElem? (i := 117) rfl) rfl
theorem wd_6_119 : (Jvm.Cond.instanceMethod ({ cls := "PolicyTree", name := "findQuarreller", desc := "(III)I" } : Jvm.MethodName)) ∈ TB := tbk_6 (List.mem_of_getElem? (i := 119) rfl) rfl
theorem wd_6_120 : (Jvm.Cond.code ({ cls := "PolicyTree", name := "findQuarreller", desc := "(III)I" } : Jvm.MethodName) prog_1_method_39_code (7 : Nat) (Option.some Jvm.ClassFile.FieldType.int)) ∈ TB := tbk_6 (List.mem_of_getElem? (i := 120) rfl) rfl
theorem wd_6_121 : (Jvm.Cond.classLink "PolicyTreeLaw" (95 : Nat) "PolicyTreeModel") ∈ TB := tbk_6 (List.mem_of_getElem? (i := 121) rfl) rfl
theorem wd_6_122 : (Jvm.Cond.instantiable "PolicyTreeModel" (47 : Nat)) ∈ TB := tbk_6 (List.mem_of_getElem? (i := 122) rfl) rfl
theorem wd_6_123 : (Jvm.Cond.methodLink "PolicyTreeLaw" (97 : Nat) ({ cls := "PolicyTreeModel", name := "<init>", desc := "()V" } : Jvm.MethodName)) ∈ TB := tbk_6 (List.mem_of_getElem? (i := 123) rfl) rfl
theorem wd_6_124 : (Jvm.Cond.instanceMethod ({ cls := "PolicyTreeModel", name := "<init>", desc := "()V" } : Jvm.MethodName)) ∈ TB := tbk_6 (List.mem_of_getElem? (i := 124) rfl) rfl
theorem wd_6_125 : (Jvm.Cond.code ({ cls := "PolicyTreeModel", name := "<init>", desc := "()V" } : Jvm.MethodName) prog_14_method_1_code (1 : Nat) (Option.none : Option Jvm.ClassFile.FieldType)) ∈ TB := tbk_6 (List.mem_of_getElem? (i := 125) rfl) rfl
theorem wd_6_126 : (Jvm.Cond.methodLink "PolicyTreeModel" (1 : Nat) ({ cls := "java/lang/Object", name := "<init>", desc := "()V" } : Jvm.MethodName)) ∈ TB := tbk_6 (List.mem_of_getElem? (i := 126) rfl) rfl
theorem wd_6_127 : (Jvm.Cond.fieldLink "PolicyTreeModel" (97 : Nat) "PolicyTreeModel" "thrown" "I") ∈ TB := tbk_6 (List.mem_of_getElem? (i := 127) rfl) rfl
theorem wd_6_128 : (Jvm.Cond.fieldLink "PolicyTreeModel" (9 : Nat) "PolicyTreeModel" "above" "[I") ∈ TB := tbk_6 (List.mem_of_getElem? (i := 128) rfl) rfl
theorem wd_6_129 : (Jvm.Cond.fieldLink "PolicyTreeModel" (13 : Nat) "PolicyTreeModel" "isBlocked" "[Z") ∈ TB := tbk_6 (List.mem_of_getElem? (i := 129) rfl) rfl
theorem wd_6_130 : (Jvm.Cond.fieldLink "PolicyTreeModel" (94 : Nat) "PolicyTreeModel" "nodes" "I") ∈ TB := tbk_6 (List.mem_of_getElem? (i := 130) rfl) rfl
theorem wd_6_131 : (Jvm.Cond.fieldLink "PolicyTreeModel" (17 : Nat) "PolicyTreeModel" "nodeOf" "[I") ∈ TB := tbk_6 (List.mem_of_getElem? (i := 131) rfl) rfl
theorem wd_6_132 : (Jvm.Cond.fieldLink "PolicyTreeModel" (20 : Nat) "PolicyTreeModel" "facts" "[I") ∈ TB := tbk_6 (List.mem_of_getElem? (i := 132) rfl) rfl
theorem wd_6_133 : (Jvm.Cond.fieldLink "PolicyTreeModel" (23 : Nat) "PolicyTreeModel" "inGroups" "[I") ∈ TB := tbk_6 (List.mem_of_getElem? (i := 133) rfl) rfl
theorem wd_6_134 : (Jvm.Cond.fieldLink "PolicyTreeModel" (108 : Nat) "PolicyTreeModel" "machines" "I") ∈ TB := tbk_6 (List.mem_of_getElem? (i := 134) rfl) rfl
theorem wd_6_135 : (Jvm.Cond.fieldLink "PolicyTreeModel" (26 : Nat) "PolicyTreeModel" "within" "[I") ∈ TB := tbk_6 (List.mem_of_getElem? (i := 135) rfl) rfl
theorem wd_6_136 : (Jvm.Cond.fieldLink "PolicyTreeModel" (111 : Nat) "PolicyTreeModel" "groups" "I") ∈ TB := tbk_6 (List.mem_of_getElem? (i := 136) rfl) rfl
theorem wd_6_137 : (Jvm.Cond.fieldLink "PolicyTreeModel" (29 : Nat) "PolicyTreeModel" "told" "[I") ∈ TB := tbk_6 (List.mem_of_getElem? (i := 137) rfl) rfl
theorem wd_6_138 : (Jvm.Cond.fieldLink "PolicyTreeModel" (32 : Nat) "PolicyTreeModel" "values" "[I") ∈ TB := tbk_6 (List.mem_of_getElem? (i := 138) rfl) rfl
theorem wd_6_139 : (Jvm.Cond.fieldLink "PolicyTreeModel" (118 : Nat) "PolicyTreeModel" "sets" "I") ∈ TB := tbk_6 (List.mem_of_getElem? (i := 139) rfl) rfl
theorem wd_6_140 : (Jvm.Cond.fieldLink "PolicyTreeModel" (35 : Nat) "PolicyTreeModel" "laws" "[I") ∈ TB := tbk_6 (List.mem_of_getElem? (i := 140) rfl) rfl
theorem wd_6_141 : (Jvm.Cond.fieldLink "PolicyTreeModel" (38 : Nat) "PolicyTreeModel" "tape" "[B") ∈ TB := tbk_6 (List.mem_of_getElem? (i := 141) rfl) rfl
theorem wd_6_142 : (Jvm.Cond.fieldLink "PolicyTreeModel" (128 : Nat) "PolicyTreeModel" "taped" "I") ∈ TB := tbk_6 (List.mem_of_getElem? (i := 142) rfl) rfl
theorem wd_6_143 : (Jvm.Cond.fieldLink "PolicyTreeModel" (131 : Nat) "PolicyTreeModel" "size" "I") ∈ TB := tbk_6 (List.mem_of_getElem? (i := 143) rfl) rfl
theorem wd_6_144 : (Jvm.Cond.fieldLink "PolicyTreeModel" (134 : Nat) "PolicyTreeModel" "at" "I") ∈ TB := tbk_6 (List.mem_of_getElem? (i := 144) rfl) rfl
theorem wd_6_145 : (Jvm.Cond.fieldLink "PolicyTreeModel" (140 : Nat) "PolicyTreeModel" "fault" "I") ∈ TB := tbk_6 (List.mem_of_getElem? (i := 145) rfl) rfl
theorem wd_6_146 : (Jvm.Cond.fieldLink "PolicyTreeModel" (42 : Nat) "PolicyTreeModel" "place" "I") ∈ TB := tbk_6 (List.mem_of_getElem? (i := 146) rfl) rfl
theorem wd_6_147 : (Jvm.Cond.fieldLink "PolicyTreeModel" (180 : Nat) "PolicyTreeModel" "open" "I") ∈ TB := tbk_6 (List.mem_of_getElem? (i := 147) rfl) rfl
theorem wd_6_148 : (Jvm.Cond.fieldLink "PolicyTreeModel" (46 : Nat) "PolicyTreeModel" "code" "[I") ∈ TB := tbk_6 (List.mem_of_getElem? (i := 148) rfl) rfl
theorem wd_6_149 : (Jvm.Cond.fieldLink "PolicyTreeModel" (160 : Nat) "PolicyTreeModel" "codes" "I") ∈ TB := tbk_6 (List.mem_of_getElem? (i := 149) rfl) rfl
theorem wd_6_150 : (Jvm.Cond.fieldLink "PolicyTreeModel" (49 : Nat) "PolicyTreeModel" "pile" "[Z") ∈ TB := tbk_6 (List.mem_of_getElem? (i := 150) rfl) rfl
theorem wd_6_151 : (Jvm.Cond.fieldLink "PolicyTreeModel" (52 : Nat) "PolicyTreeModel" "linkNode" "[I") ∈ TB := tbk_6 (List.mem_of_getElem? (i := 151) rfl) rfl
theorem wd_6_152 : (Jvm.Cond.fieldLink "PolicyTreeModel" (55 : Nat) "PolicyTreeModel" "linkSet" "[I") ∈ TB := tbk_6 (List.mem_of_getElem? (i := 152) rfl) rfl
theorem wd_6_153 : (Jvm.Cond.fieldLink "PolicyTreeModel" (58 : Nat) "PolicyTreeModel" "linkOrder" "[I") ∈ TB := tbk_6 (List.mem_of_getElem? (i := 153) rfl) rfl
theorem wd_6_154 : (Jvm.Cond.fieldLink "PolicyTreeModel" (61 : Nat) "PolicyTreeModel" "isForced" "[Z") ∈ TB := tbk_6 (List.mem_of_getElem? (i := 154) rfl) rfl
theorem wd_6_155 : (Jvm.Cond.fieldLink "PolicyTreeModel" (64 : Nat) "PolicyTreeModel" "hasEnded" "[Z") ∈ TB := tbk_6 (List.mem_of_getElem? (i := 155) rfl) rfl
theorem wd_6_156 : (Jvm.Cond.fieldLink "PolicyTreeModel" (67 : Nat) "PolicyTreeModel" "from" "[I") ∈ TB := tbk_6 (List.mem_of_getElem? (i := 156) rfl) rfl
theorem wd_6_157 : (Jvm.Cond.fieldLink "PolicyTreeModel" (70 : Nat) "PolicyTreeModel" "to" "[I") ∈ TB := tbk_6 (List.mem_of_getElem? (i := 157) rfl) rfl
theorem wd_6_158 : (Jvm.Cond.fieldLink "PolicyTreeModel" (73 : Nat) "PolicyTreeModel" "sorted" "[I") ∈ TB := tbk_6 (List.mem_of_getElem? (i := 158) rfl) rfl
theorem wd_6_159 : (Jvm.Cond.fieldLink "PolicyTreeModel" (205 : Nat) "PolicyTreeModel" "links" "I") ∈ TB := tbk_6 (List.mem_of_getElem? (i := 159) rfl) rfl
theorem wd_6_160 : (Jvm.Cond.fieldLink "PolicyTreeModel" (76 : Nat) "PolicyTreeModel" "below" "[I") ∈ TB := tbk_6 (List.mem_of_getElem? (i := 160) rfl) rfl
theorem wd_6_161 : (Jvm.Cond.fieldLink "PolicyTreeModel" (79 : Nat) "PolicyTreeModel" "way" "[I") ∈ TB := tbk_6 (List.mem_of_getElem? (i := 161) rfl) rfl
theorem wd_6_162 : (Jvm.Cond.fieldLink "PolicyTreeModel" (82 : Nat) "PolicyTreeModel" "row" "[I") ∈ TB := tbk_6 (List.mem_of_getElem? (i := 162) rfl) rfl
theorem wd_6_163 : (Jvm.Cond.fieldLink "PolicyTreeModel" (215 : Nat) "PolicyTreeModel" "rows" "I") ∈ TB := tbk_6 (List.mem_of_getElem? (i := 163) rfl) rfl
theorem wd_6_164 : (Jvm.Cond.fieldLink "PolicyTreeModel" (85 : Nat) "PolicyTreeModel" "got" "[I") ∈ TB := tbk_6 (List.mem_of_getElem? (i := 164) rfl) rfl
theorem wd_6_165 : (Jvm.Cond.fieldLink "PolicyTreeModel" (222 : Nat) "PolicyTreeModel" "gots" "I") ∈ TB := tbk_6 (List.mem_of_getElem? (i := 165) rfl) rfl
theorem wd_6_166 : (Jvm.Cond.fieldLink "PolicyTreeModel" (225 : Nat) "PolicyTreeModel" "reason" "I") ∈ TB := tbk_6 (List.mem_of_getElem? (i := 166) rfl) rfl
theorem wd_6_167 : (Jvm.Cond.fieldLink "PolicyTreeModel" (88 : Nat) "PolicyTreeModel" "kept" "[I") ∈ TB := tbk_6 (List.mem_of_getElem? (i := 167) rfl) rfl
theorem wd_6_168 : (Jvm.Cond.fieldLink "PolicyTreeModel" (248 : Nat) "PolicyTreeModel" "keeps" "I") ∈ TB := tbk_6 (List.mem_of_getElem? (i := 168) rfl) rfl
theorem wd_6_169 : (Jvm.Cond.fieldLink "PolicyTreeModel" (257 : Nat) "PolicyTreeModel" "pairMachine" "I") ∈ TB := tbk_6 (List.mem_of_getElem? (i := 169) rfl) rfl
theorem wd_6_170 : (Jvm.Cond.fieldLink "PolicyTreeModel" (260 : Nat) "PolicyTreeModel" "pairSetting" "I") ∈ TB := tbk_6 (List.mem_of_getElem? (i := 170) rfl) rfl
theorem wd_6_171 : (Jvm.Cond.fieldLink "PolicyTreeModel" (91 : Nat) "PolicyTreeModel" "was" "[I") ∈ TB := tbk_6 (List.mem_of_getElem? (i := 171) rfl) rfl
theorem wd_6_172 : (Jvm.Cond.fieldLink "PolicyTreeModel" (270 : Nat) "PolicyTreeModel" "one" "I") ∈ TB := tbk_6 (List.mem_of_getElem? (i := 172) rfl) rfl
theorem wd_6_173 : (Jvm.Cond.fieldLink "PolicyTreeModel" (272 : Nat) "PolicyTreeModel" "other" "I") ∈ TB := tbk_6 (List.mem_of_getElem? (i := 173) rfl) rfl
theorem wd_6_174 : (Jvm.Cond.lays "PolicyTreeModel" "PolicyTreeModel" "thrown" "I") ∈ TB := tbk_6 (List.mem_of_getElem? (i := 174) rfl) rfl
theorem wd_6_176 : (Jvm.Cond.laysFinal "PolicyTreeModel" "PolicyTreeModel" "above" "[I") ∈ TB := tbk_6 (List.mem_of_getElem? (i := 176) rfl) rfl
theorem wd_6_178 : (Jvm.Cond.laysFinal "PolicyTreeModel" "PolicyTreeModel" "isBlocked" "[Z") ∈ TB := tbk_6 (List.mem_of_getElem? (i := 178) rfl) rfl
theorem wd_6_180 : (Jvm.Cond.lays "PolicyTreeModel" "PolicyTreeModel" "nodes" "I") ∈ TB := tbk_6 (List.mem_of_getElem? (i := 180) rfl) rfl
theorem wd_6_182 : (Jvm.Cond.laysFinal "PolicyTreeModel" "PolicyTreeModel" "nodeOf" "[I") ∈ TB := tbk_6 (List.mem_of_getElem? (i := 182) rfl) rfl
theorem wd_6_184 : (Jvm.Cond.laysFinal "PolicyTreeModel" "PolicyTreeModel" "facts" "[I") ∈ TB := tbk_6 (List.mem_of_getElem? (i := 184) rfl) rfl
theorem wd_6_186 : (Jvm.Cond.laysFinal "PolicyTreeModel" "PolicyTreeModel" "inGroups" "[I") ∈ TB := tbk_6 (List.mem_of_getElem? (i := 186) rfl) rfl
theorem wd_6_188 : (Jvm.Cond.lays "PolicyTreeModel" "PolicyTreeModel" "machines" "I") ∈ TB := tbk_6 (List.mem_of_getElem? (i := 188) rfl) rfl
theorem wd_6_190 : (Jvm.Cond.laysFinal "PolicyTreeModel" "PolicyTreeModel" "within" "[I") ∈ TB := tbk_6 (List.mem_of_getElem? (i := 190) rfl) rfl
theorem wd_6_192 : (Jvm.Cond.lays "PolicyTreeModel" "PolicyTreeModel" "groups" "I") ∈ TB := tbk_6 (List.mem_of_getElem? (i := 192) rfl) rfl
theorem wd_6_194 : (Jvm.Cond.laysFinal "PolicyTreeModel" "PolicyTreeModel" "told" "[I") ∈ TB := tbk_6 (List.mem_of_getElem? (i := 194) rfl) rfl
theorem wd_6_196 : (Jvm.Cond.laysFinal "PolicyTreeModel" "PolicyTreeModel" "values" "[I") ∈ TB := tbk_6 (List.mem_of_getElem? (i := 196) rfl) rfl
theorem wd_6_198 : (Jvm.Cond.lays "PolicyTreeModel" "PolicyTreeModel" "sets" "I") ∈ TB := tbk_6 (List.mem_of_getElem? (i := 198) rfl) rfl
theorem wd_6_200 : (Jvm.Cond.laysFinal "PolicyTreeModel" "PolicyTreeModel" "laws" "[I") ∈ TB := tbk_6 (List.mem_of_getElem? (i := 200) rfl) rfl
theorem wd_6_202 : (Jvm.Cond.laysFinal "PolicyTreeModel" "PolicyTreeModel" "tape" "[B") ∈ TB := tbk_6 (List.mem_of_getElem? (i := 202) rfl) rfl
theorem wd_6_204 : (Jvm.Cond.lays "PolicyTreeModel" "PolicyTreeModel" "taped" "I") ∈ TB := tbk_6 (List.mem_of_getElem? (i := 204) rfl) rfl
theorem wd_6_206 : (Jvm.Cond.lays "PolicyTreeModel" "PolicyTreeModel" "size" "I") ∈ TB := tbk_6 (List.mem_of_getElem? (i := 206) rfl) rfl
theorem wd_6_208 : (Jvm.Cond.lays "PolicyTreeModel" "PolicyTreeModel" "at" "I") ∈ TB := tbk_6 (List.mem_of_getElem? (i := 208) rfl) rfl
theorem wd_6_210 : (Jvm.Cond.lays "PolicyTreeModel" "PolicyTreeModel" "fault" "I") ∈ TB := tbk_6 (List.mem_of_getElem? (i := 210) rfl) rfl
theorem wd_6_212 : (Jvm.Cond.lays "PolicyTreeModel" "PolicyTreeModel" "place" "I") ∈ TB := tbk_6 (List.mem_of_getElem? (i := 212) rfl) rfl
theorem wd_6_214 : (Jvm.Cond.lays "PolicyTreeModel" "PolicyTreeModel" "open" "I") ∈ TB := tbk_6 (List.mem_of_getElem? (i := 214) rfl) rfl
theorem wd_6_216 : (Jvm.Cond.lays "PolicyTreeModel" "PolicyTreeModel" "code" "[I") ∈ TB := tbk_6 (List.mem_of_getElem? (i := 216) rfl) rfl
theorem wd_6_218 : (Jvm.Cond.lays "PolicyTreeModel" "PolicyTreeModel" "codes" "I") ∈ TB := tbk_6 (List.mem_of_getElem? (i := 218) rfl) rfl
theorem wd_6_220 : (Jvm.Cond.laysFinal "PolicyTreeModel" "PolicyTreeModel" "pile" "[Z") ∈ TB := tbk_6 (List.mem_of_getElem? (i := 220) rfl) rfl
theorem wd_6_222 : (Jvm.Cond.laysFinal "PolicyTreeModel" "PolicyTreeModel" "linkNode" "[I") ∈ TB := tbk_6 (List.mem_of_getElem? (i := 222) rfl) rfl
theorem wd_6_224 : (Jvm.Cond.laysFinal "PolicyTreeModel" "PolicyTreeModel" "linkSet" "[I") ∈ TB := tbk_6 (List.mem_of_getElem? (i := 224) rfl) rfl
theorem wd_6_226 : (Jvm.Cond.laysFinal "PolicyTreeModel" "PolicyTreeModel" "linkOrder" "[I") ∈ TB := tbk_6 (List.mem_of_getElem? (i := 226) rfl) rfl
theorem wd_6_228 : (Jvm.Cond.laysFinal "PolicyTreeModel" "PolicyTreeModel" "isForced" "[Z") ∈ TB := tbk_6 (List.mem_of_getElem? (i := 228) rfl) rfl
theorem wd_6_230 : (Jvm.Cond.laysFinal "PolicyTreeModel" "PolicyTreeModel" "hasEnded" "[Z") ∈ TB := tbk_6 (List.mem_of_getElem? (i := 230) rfl) rfl
theorem wd_6_232 : (Jvm.Cond.laysFinal "PolicyTreeModel" "PolicyTreeModel" "from" "[I") ∈ TB := tbk_6 (List.mem_of_getElem? (i := 232) rfl) rfl
theorem wd_6_234 : (Jvm.Cond.laysFinal "PolicyTreeModel" "PolicyTreeModel" "to" "[I") ∈ TB := tbk_6 (List.mem_of_getElem? (i := 234) rfl) rfl
theorem wd_6_236 : (Jvm.Cond.laysFinal "PolicyTreeModel" "PolicyTreeModel" "sorted" "[I") ∈ TB := tbk_6 (List.mem_of_getElem? (i := 236) rfl) rfl
theorem wd_6_238 : (Jvm.Cond.lays "PolicyTreeModel" "PolicyTreeModel" "links" "I") ∈ TB := tbk_6 (List.mem_of_getElem? (i := 238) rfl) rfl
theorem wd_7_0 : (Jvm.Cond.laysFinal "PolicyTreeModel" "PolicyTreeModel" "below" "[I") ∈ TB := tbk_7 (List.mem_of_getElem? (i := 0) rfl) rfl
theorem wd_7_2 : (Jvm.Cond.laysFinal "PolicyTreeModel" "PolicyTreeModel" "way" "[I") ∈ TB := tbk_7 (List.mem_of_getElem? (i := 2) rfl) rfl
theorem wd_7_4 : (Jvm.Cond.laysFinal "PolicyTreeModel" "PolicyTreeModel" "row" "[I") ∈ TB := tbk_7 (List.mem_of_getElem? (i := 4) rfl) rfl
theorem wd_7_6 : (Jvm.Cond.lays "PolicyTreeModel" "PolicyTreeModel" "rows" "I") ∈ TB := tbk_7 (List.mem_of_getElem? (i := 6) rfl) rfl
theorem wd_7_8 : (Jvm.Cond.laysFinal "PolicyTreeModel" "PolicyTreeModel" "got" "[I") ∈ TB := tbk_7 (List.mem_of_getElem? (i := 8) rfl) rfl
theorem wd_7_10 : (Jvm.Cond.lays "PolicyTreeModel" "PolicyTreeModel" "gots" "I") ∈ TB := tbk_7 (List.mem_of_getElem? (i := 10) rfl) rfl
theorem wd_7_12 : (Jvm.Cond.lays "PolicyTreeModel" "PolicyTreeModel" "reason" "I") ∈ TB := tbk_7 (List.mem_of_getElem? (i := 12) rfl) rfl
theorem wd_7_14 : (Jvm.Cond.laysFinal "PolicyTreeModel" "PolicyTreeModel" "kept" "[I") ∈ TB := tbk_7 (List.mem_of_getElem? (i := 14) rfl) rfl
theorem wd_7_16 : (Jvm.Cond.lays "PolicyTreeModel" "PolicyTreeModel" "keeps" "I") ∈ TB := tbk_7 (List.mem_of_getElem? (i := 16) rfl) rfl
theorem wd_7_18 : (Jvm.Cond.lays "PolicyTreeModel" "PolicyTreeModel" "pairMachine" "I") ∈ TB := tbk_7 (List.mem_of_getElem? (i := 18) rfl) rfl
theorem wd_7_20 : (Jvm.Cond.lays "PolicyTreeModel" "PolicyTreeModel" "pairSetting" "I") ∈ TB := tbk_7 (List.mem_of_getElem? (i := 20) rfl) rfl
theorem wd_7_22 : (Jvm.Cond.laysFinal "PolicyTreeModel" "PolicyTreeModel" "was" "[I") ∈ TB := tbk_7 (List.mem_of_getElem? (i := 22) rfl) rfl
theorem wd_7_24 : (Jvm.Cond.lays "PolicyTreeModel" "PolicyTreeModel" "one" "I") ∈ TB := tbk_7 (List.mem_of_getElem? (i := 24) rfl) rfl
theorem wd_7_26 : (Jvm.Cond.lays "PolicyTreeModel" "PolicyTreeModel" "other" "I") ∈ TB := tbk_7 (List.mem_of_getElem? (i := 26) rfl) rfl
theorem wd_7_29 : (Jvm.Cond.arrayClass Jvm.ClassFile.FieldType.boolean) ∈ TB := tbk_7 (List.mem_of_getElem? (i := 29) rfl) rfl
theorem wd_7_30 : (Jvm.Cond.methodLink "PolicyTreeLaw" (104 : Nat) ({ cls := "PolicyTreeModel", name := "thrown", desc := "()I" } : Jvm.MethodName)) ∈ TB := tbk_7 (List.mem_of_getElem? (i := 30) rfl) rfl
theorem wd_7_31 : (Jvm.Cond.instanceMethod ({ cls := "PolicyTreeModel", name := "thrown", desc := "()I" } : Jvm.MethodName)) ∈ TB := tbk_7 (List.mem_of_getElem? (i := 31) rfl) rfl
theorem wd_7_32 : (Jvm.Cond.selects "PolicyTreeModel" ({ cls := "PolicyTreeModel", name := "thrown", desc := "()I" } : Jvm.MethodName) ({ cls := "PolicyTreeModel", name := "thrown", desc := "()I" } : Jvm.MethodName)) ∈ TB := tbk_7 (List.mem_of_getElem? (i := 32) rfl) rfl
theorem wd_7_33 : (Jvm.Cond.code ({ cls := "PolicyTreeModel", name := "thrown", desc := "()I" } : Jvm.MethodName) prog_14_method_2_code (1 : Nat) (Option.some Jvm.ClassFile.FieldType.int)) ∈ TB := tbk_7 (List.mem_of_getElem? (i := 33) rfl) rfl
theorem wd_7_34 : (Jvm.Cond.methodLink "PolicyTreeLaw" (103 : Nat) ({ cls := "PolicyTreeModel", name := "node", desc := "(I)I" } : Jvm.MethodName)) ∈ TB := tbk_7 (List.mem_of_getElem? (i := 34) rfl) rfl
theorem wd_7_35 : (Jvm.Cond.instanceMethod ({ cls := "PolicyTreeModel", name := "node", desc := "(I)I" } : Jvm.MethodName)) ∈ TB := tbk_7 (List.mem_of_getElem? (i := 35) rfl) rfl
theorem wd_7_36 : (Jvm.Cond.selects "PolicyTreeModel" ({ cls := "PolicyTreeModel", name := "node", desc := "(I)I" } : Jvm.MethodName) ({ cls := "PolicyTreeModel", name := "node", desc := "(I)I" } : Jvm.MethodName)) ∈ TB := tbk_7 (List.mem_of_getElem? (i := 36) rfl) rfl
theorem wd_7_37 : (Jvm.Cond.code ({ cls := "PolicyTreeModel", name := "node", desc := "(I)I" } : Jvm.MethodName) prog_14_method_5_code (2 : Nat) (Option.some Jvm.ClassFile.FieldType.int)) ∈ TB := tbk_7 (List.mem_of_getElem? (i := 37) rfl) rfl
theorem wd_7_38 : (Jvm.Cond.methodLink "PolicyTreeModel" (100 : Nat) ({ cls := "PolicyTreeModel", name := "none", desc := "(II)Z" } : Jvm.MethodName)) ∈ TB := tbk_7 (List.mem_of_getElem? (i := 38) rfl) rfl
theorem wd_7_40 : (Jvm.Cond.instanceMethod ({ cls := "PolicyTreeModel", name := "none", desc := "(II)Z" } : Jvm.MethodName)) ∈ TB := tbk_7 (List.mem_of_getElem? (i := 40) rfl) rfl
theorem wd_7_41 : (Jvm.Cond.code ({ cls := "PolicyTreeModel", name := "none", desc := "(II)Z" } : Jvm.MethodName) prog_14_method_4_code (3 : Nat) (Option.some Jvm.ClassFile.FieldType.boolean)) ∈ TB := tbk_7 (List.mem_of_getElem? (i := 41) rfl) rfl
theorem wd_7_42 : (Jvm.Cond.methodLink "PolicyTreeModel" (104 : Nat) ({ cls := "PolicyTreeModel", name := "bad", desc := "(ZI)Z" } : Jvm.MethodName)) ∈ TB := tbk_7 (List.mem_of_getElem? (i := 42) rfl) rfl
theorem wd_7_44 : (Jvm.Cond.instanceMethod ({ cls := "PolicyTreeModel", name := "bad", desc := "(ZI)Z" } : Jvm.MethodName)) ∈ TB := tbk_7 (List.mem_of_getElem? (i := 44) rfl) rfl
theorem wd_7_45 : (Jvm.Cond.code ({ cls := "PolicyTreeModel", name := "bad", desc := "(ZI)Z" } : Jvm.MethodName) prog_14_method_3_code (3 : Nat) (Option.some Jvm.ClassFile.FieldType.boolean)) ∈ TB := tbk_7 (List.mem_of_getElem? (i := 45) rfl) rfl
theorem wd_7_46 : (Jvm.Cond.methodLink "PolicyTreeLaw" (110 : Nat) ({ cls := "PolicyTreeModel", name := "block", desc := "(IZ)Z" } : Jvm.MethodName)) ∈ TB := tbk_7 (List.mem_of_getElem? (i := 46) rfl) rfl
theorem wd_7_47 : (Jvm.Cond.instanceMethod ({ cls := "PolicyTreeModel", name := "block", desc := "(IZ)Z" } : Jvm.MethodName)) ∈ TB := tbk_7 (List.mem_of_getElem? (i := 47) rfl) rfl
theorem wd_7_48 : (Jvm.Cond.selects "PolicyTreeModel" ({ cls := "PolicyTreeModel", name := "block", desc := "(IZ)Z" } : Jvm.MethodName) ({ cls := "PolicyTreeModel", name := "block", desc := "(IZ)Z" } : Jvm.MethodName)) ∈ TB := tbk_7 (List.mem_of_getElem? (i := 48) rfl) rfl
theorem wd_7_49 : (Jvm.Cond.code ({ cls := "PolicyTreeModel", name := "block", desc := "(IZ)Z" } : Jvm.MethodName) prog_14_method_6_code (4 : Nat) (Option.some Jvm.ClassFile.FieldType.boolean)) ∈ TB := tbk_7 (List.mem_of_getElem? (i := 49) rfl) rfl
theorem wd_7_50 : (Jvm.Cond.methodLink "PolicyTreeLaw" (117 : Nat) ({ cls := "PolicyTreeModel", name := "machine", desc := "(I)I" } : Jvm.MethodName)) ∈ TB := tbk_7 (List.mem_of_getElem? (i := 50) rfl) rfl
theorem wd_7_51 : (Jvm.Cond.instanceMethod ({ cls := "PolicyTreeModel", name := "machine", desc := "(I)I" } : Jvm.MethodName)) ∈ TB := tbk_7 (List.mem_of_getElem? (i := 51) rfl) rfl
theorem wd_7_52 : (Jvm.Cond.selects "PolicyTreeModel" ({ cls := "PolicyTreeModel", name := "machine", desc := "(I)I" } : Jvm.MethodName) ({ cls := "PolicyTreeModel", name := "machine", desc := "(I)I" } : Jvm.MethodName)) ∈ TB := tbk_7 (List.mem_of_getElem? (i := 52) rfl) rfl
theorem wd_7_53 : (Jvm.Cond.code ({ cls := "PolicyTreeModel", name := "machine", desc := "(I)I" } : Jvm.MethodName) prog_14_method_8_code (3 : Nat) (Option.some Jvm.ClassFile.FieldType.int)) ∈ TB := tbk_7 (List.mem_of_getElem? (i := 53) rfl) rfl
theorem wd_7_54 : (Jvm.Cond.methodLink "PolicyTreeLaw" (121 : Nat) ({ cls := "PolicyTreeModel", name := "fact", desc := "(III)I" } : Jvm.MethodName)) ∈ TB := tbk_7 (List.mem_of_getElem? (i := 54) rfl) rfl
theorem wd_7_55 : (Jvm.Cond.instanceMethod ({ cls := "PolicyTreeModel", name := "fact", desc := "(III)I" } : Jvm.MethodName)) ∈ TB := tbk_7 (List.mem_of_getElem? (i := 55) rfl) rfl
theorem wd_7_56 : (Jvm.Cond.selects "PolicyTreeModel" ({ cls := "PolicyTreeModel", name := "fact", desc := "(III)I" } : Jvm.MethodName) ({ cls := "PolicyTreeModel", name := "fact", desc := "(III)I" } : Jvm.MethodName)) ∈ TB := tbk_7 (List.mem_of_getElem? (i := 56) rfl) rfl
theorem wd_7_57 : (Jvm.Cond.code ({ cls := "PolicyTreeModel", name := "fact", desc := "(III)I" } : Jvm.MethodName) prog_14_method_9_code (5 : Nat) (Option.some Jvm.ClassFile.FieldType.int)) ∈ TB := tbk_7 (List.mem_of_getElem? (i := 57) rfl) rfl
theorem wd_7_58 : (Jvm.Cond.methodLink "PolicyTreeLaw" (125 : Nat) ({ cls := "PolicyTreeModel", name := "group", desc := "()I" } : Jvm.MethodName)) ∈ TB := tbk_7 (List.mem_of_getElem? (i := 58) rfl) rfl
theorem wd_7_59 : (Jvm.Cond.instanceMethod ({ cls := "PolicyTreeModel", name := "group", desc := "()I" } : Jvm.MethodName)) ∈ TB := tbk_7 (List.mem_of_getElem? (i := 59) rfl) rfl
theorem wd_7_60 : (Jvm.Cond.selects "PolicyTreeModel" ({ cls := "PolicyTreeModel", name := "group", desc := "()I" } : Jvm.MethodName) ({ cls := "PolicyTreeModel", name := "group", desc := "()I" } : Jvm.MethodName)) ∈ TB := tbk_7 (List.mem_of_getElem? (i := 60) rfl) rfl
theorem wd_7_61 : (Jvm.Cond.code ({ cls := "PolicyTreeModel", name := "group", desc := "()I" } : Jvm.MethodName) prog_14_method_10_code (1 : Nat) (Option.some Jvm.ClassFile.FieldType.int)) ∈ TB := tbk_7 (List.mem_of_getElem? (i := 61) rfl) rfl
theorem wd_7_62 : (Jvm.Cond.methodLink "PolicyTreeLaw" (129 : Nat) ({ cls := "PolicyTreeModel", name := "joins", desc := "(IIZ)Z" } : Jvm.MethodName)) ∈ TB := tbk_7 (List.mem_of_getElem? (i := 62) rfl) rfl
theorem wd_7_63 : (Jvm.Cond.instanceMethod ({ cls := "PolicyTreeModel", name := "joins", desc := "(IIZ)Z" } : Jvm.MethodName)) ∈ TB := tbk_7 (List.mem_of_getElem? (i := 63) rfl) rfl
theorem wd_7_64 : (Jvm.Cond.selects "PolicyTreeModel" ({ cls := "PolicyTreeModel", name := "joins", desc := "(IIZ)Z" } : Jvm.MethodName) ({ cls := "PolicyTreeModel", name := "joins", desc := "(IIZ)Z" } : Jvm.MethodName)) ∈ TB := tbk_7 (List.mem_of_getElem? (i := 64) rfl) rfl
theorem wd_7_65 : (Jvm.Cond.code ({ cls := "PolicyTreeModel", name := "joins", desc := "(IIZ)Z" } : Jvm.MethodName) prog_14_method_11_code (5 : Nat) (Option.some Jvm.ClassFile.FieldType.boolean)) ∈ TB := tbk_7 (List.mem_of_getElem? (i := 65) rfl) rfl
theorem wd_7_66 : (Jvm.Cond.methodLink "PolicyTreeLaw" (132 : Nat) ({ cls := "PolicyTreeModel", name := "within", desc := "(IIZ)Z" } : Jvm.MethodName)) ∈ TB := tbk_7 (List.mem_of_getElem? (i := 66) rfl) rfl
theorem wd_7_67 : (Jvm.Cond.instanceMethod ({ cls := "PolicyTreeModel", name := "within", desc := "(IIZ)Z" } : Jvm.MethodName)) ∈ TB := tbk_7 (List.mem_of_getElem? (i := 67) rfl) rfl
theorem wd_7_68 : (Jvm.Cond.selects "PolicyTreeModel" ({ cls := "PolicyTreeModel", name := "within", desc := "(IIZ)Z" } : Jvm.MethodName) ({ cls := "PolicyTreeModel", name := "within", desc := "(IIZ)Z" } : Jvm.MethodName)) ∈ TB := tbk_7 (List.mem_of_getElem? (i := 68) rfl) rfl
theorem wd_7_69 : (Jvm.Cond.code ({ cls := "PolicyTreeModel", name := "within", desc := "(IIZ)Z" } : Jvm.MethodName) prog_14_method_12_code (5 : Nat) (Option.some Jvm.ClassFile.FieldType.boolean)) ∈ TB := tbk_7 (List.mem_of_getElem? (i := 69) rfl) rfl
theorem wd_7_70 : (Jvm.Cond.methodLink "PolicyTreeLaw" (135 : Nat) ({ cls := "PolicyTreeModel", name := "member", desc := "(II)Z" } : Jvm.MethodName)) ∈ TB := tbk_7 (List.mem_of_getElem? (i := 70) rfl) rfl
theorem wd_7_71 : (Jvm.Cond.instanceMethod ({ cls := "PolicyTreeModel", name := "member", desc := "(II)Z" } : Jvm.MethodName)) ∈ TB := tbk_7 (List.mem_of_getElem? (i := 71) rfl) rfl
theorem wd_7_72 : (Jvm.Cond.selects "PolicyTreeModel" ({ cls := "PolicyTreeModel", name := "member", desc := "(II)Z" } : Jvm.MethodName) ({ cls := "PolicyTreeModel", name := "member", desc := "(II)Z" } : Jvm.MethodName)) ∈ TB := tbk_7 (List.mem_of_getElem? (i := 72) rfl) rfl
theorem wd_7_73 : (Jvm.Cond.code ({ cls := "PolicyTreeModel", name := "member", desc := "(II)Z" } : Jvm.MethodName) prog_14_method_14_code (3 : Nat) (Option.some Jvm.ClassFile.FieldType.boolean)) ∈ TB := tbk_7 (List.mem_of_getElem? (i := 73) rfl) rfl
theorem wd_7_74 : (Jvm.Cond.methodLink "PolicyTreeModel" (114 : Nat) ({ cls := "PolicyTreeModel", name := "allIn", desc := "(I)I" } : Jvm.MethodName)) ∈ TB := tbk_7 (List.mem_of_getElem? (i := 74) rfl) rfl
theorem wd_7_76 : (Jvm.Cond.instanceMethod ({ cls := "PolicyTreeModel", name := "allIn", desc := "(I)I" } : Jvm.MethodName)) ∈ TB := tbk_7 (List.mem_of_getElem? (i := 76) rfl) rfl
theorem wd_7_77 : (Jvm.Cond.code ({ cls := "PolicyTreeModel", name := "allIn", desc := "(I)I" } : Jvm.MethodName) prog_14_method_13_code (5 : Nat) (Option.some Jvm.ClassFile.FieldType.int)) ∈ TB := tbk_7 (List.mem_of_getElem? (i := 77) rfl) rfl
theorem wd_7_78 : (Jvm.Cond.methodLink "PolicyTreeLaw" (138 : Nat) ({ cls := "PolicyTreeModel", name := "set", desc := "()I" } : Jvm.MethodName)) ∈ TB := tbk_7 (List.mem_of_getElem? (i := 78) rfl) rfl
theorem wd_7_79 : (Jvm.Cond.instanceMethod ({ cls := "PolicyTreeModel", name := "set", desc := "()I" } : Jvm.MethodName)) ∈ TB := tbk_7 (List.mem_of_getElem? (i := 79) rfl) rfl
theorem wd_7_80 : (Jvm.Cond.selects "PolicyTreeModel" ({ cls := "PolicyTreeModel", name := "set", desc := "()I" } : Jvm.MethodName) ({ cls := "PolicyTreeModel", name := "set", desc := "()I" } : Jvm.MethodName)) ∈ TB := tbk_7 (List.mem_of_getElem? (i := 80) rfl) rfl
theorem wd_7_81 : (Jvm.Cond.code ({ cls := "PolicyTreeModel", name := "set", desc := "()I" } : Jvm.MethodName) prog_14_method_15_code (1 : Nat) (Option.some Jvm.ClassFile.FieldType.int)) ∈ TB := tbk_7 (List.mem_of_getElem? (i := 81) rfl) rfl
theorem wd_7_82 : (Jvm.Cond.methodLink "PolicyTreeLaw" (141 : Nat) ({ cls := "PolicyTreeModel", name := "tell", desc := "(III)Z" } : Jvm.MethodName)) ∈ TB := tbk_7 (List.mem_of_getElem? (i := 82) rfl) rfl
theorem wd_7_83 : (Jvm.Cond.instanceMethod ({ cls := "PolicyTreeModel", name := "tell", desc := "(III)Z" } : Jvm.MethodName)) ∈ TB := tbk_7 (List.mem_of_getElem? (i := 83) rfl) rfl
theorem wd_7_84 : (Jvm.Cond.selects "PolicyTreeModel" ({ cls := "PolicyTreeModel", name := "tell", desc := "(III)Z" } : Jvm.MethodName) ({ cls := "PolicyTreeModel", name := "tell", desc := "(III)Z" } : Jvm.MethodName)) ∈ TB := tbk_7 (List.mem_of_getElem? (i := 84) rfl) rfl
theorem wd_7_85 : (Jvm.Cond.code ({ cls := "PolicyTreeModel", name := "tell", desc := "(III)Z" } : Jvm.MethodName) prog_14_method_18_code (5 : Nat) (Option.some Jvm.ClassFile.FieldType.boolean)) ∈ TB := tbk_7 (List.mem_of_getElem? (i := 85) rfl) rfl
theorem wd_7_86 : (Jvm.Cond.methodLink "PolicyTreeModel" (121 : Nat) ({ cls := "PolicyTreeModel", name := "isSetting", desc := "(I)Z" } : Jvm.MethodName)) ∈ TB := tbk_7 (List.mem_of_getElem? (i := 86) rfl) rfl
theorem wd_7_87 : (Jvm.Cond.static ({ cls := "PolicyTreeModel", name := "isSetting", desc := "(I)Z" } : Jvm.MethodName)) ∈ TB := tbk_7 (List.mem_of_getElem? (i := 87) rfl) rfl
theorem wd_7_88 : (Jvm.Cond.code ({ cls := "PolicyTreeModel", name := "isSetting", desc := "(I)Z" } : Jvm.MethodName) prog_14_method_16_code (1 : Nat) (Option.some Jvm.ClassFile.FieldType.boolean)) ∈ TB := tbk_7 (List.mem_of_getElem? (i := 88) rfl) rfl
theorem wd_7_89 : (Jvm.Cond.methodLink "PolicyTreeModel" (125 : Nat) ({ cls := "PolicyTreeModel", name := "tells", desc := "(II)Z" } : Jvm.MethodName)) ∈ TB := tbk_7 (List.mem_of_getElem? (i := 89) rfl) rfl
theorem wd_7_91 : (Jvm.Cond.instanceMethod ({ cls := "PolicyTreeModel", name := "tells", desc := "(II)Z" } : Jvm.MethodName)) ∈ TB := tbk_7 (List.mem_of_getElem? (i := 91) rfl) rfl
theorem wd_7_92 : (Jvm.Cond.code ({ cls := "PolicyTreeModel", name := "tells", desc := "(II)Z" } : Jvm.MethodName) prog_14_method_17_code (3 : Nat) (Option.some Jvm.ClassFile.FieldType.boolean)) ∈ TB := tbk_7 (List.mem_of_getElem? (i := 92) rfl) rfl
theorem wd_7_93 : (Jvm.Cond.methodLink "PolicyTreeLaw" (144 : Nat) ({ cls := "PolicyTreeModel", name := "untell", desc := "(II)Z" } : Jvm.MethodName)) ∈ TB := tbk_7 (List.mem_of_getElem? (i := 93) rfl) rfl
theorem wd_7_94 : (Jvm.Cond.instanceMethod ({ cls := "PolicyTreeModel", name := "untell", desc := "(II)Z" } : Jvm.MethodName)) ∈ TB := tbk_7 (List.mem_of_getElem? (i := 94) rfl) rfl
theorem wd_7_95 : (Jvm.Cond.selects "PolicyTreeModel" ({ cls := "PolicyTreeModel", name := "untell", desc := "(II)Z" } : Jvm.MethodName) ({ cls := "PolicyTreeModel", name := "untell", desc := "(II)Z" } : Jvm.MethodName)) ∈ TB := tbk_7 (List.mem_of_getElem? (i := 95) rfl) rfl
theorem wd_7_96 : (Jvm.Cond.code ({ cls := "PolicyTreeModel", name := "untell", desc := "(II)Z" } : Jvm.MethodName) prog_14_method_19_code (4 : Nat) (Option.some Jvm.ClassFile.FieldType.boolean)) ∈ TB := tbk_7 (List.mem_of_getElem? (i := 96) rfl) rfl
theorem wd_7_97 : (Jvm.Cond.methodLink "PolicyTreeLaw" (147 : Nat) ({ cls := "PolicyTreeModel", name := "law", desc := "(II)I" } : Jvm.MethodName)) ∈ TB := tbk_7 (List.mem_of_getElem? (i := 97) rfl) rfl
theorem wd_7_98 : (Jvm.Cond.instanceMethod ({ cls := "PolicyTreeModel", name := "law", desc := "(II)I" } : Jvm.MethodName)) ∈ TB := tbk_7 (List.mem_of_getElem? (i := 98) rfl) rfl
theorem wd_7_99 : (Jvm.Cond.selects "PolicyTreeModel" ({ cls := "PolicyTreeModel", name := "law", desc := "(II)I" } : Jvm.MethodName) ({ cls := "PolicyTreeModel", name := "law", desc := "(II)I" } : Jvm.MethodName)) ∈ TB := tbk_7 (List.mem_of_getElem? (i := 99) rfl) rfl
theorem wd_7_100 : (Jvm.Cond.code ({ cls := "PolicyTreeModel", name := "law", desc := "(II)I" } : Jvm.MethodName) prog_14_method_20_code (4 : Nat) (Option.some Jvm.ClassFile.FieldType.int)) ∈ TB := tbk_7 (List.mem_of_getElem? (i := 100) rfl) rfl
theorem wd_7_101 : (Jvm.Cond.methodLink "PolicyTreeLaw" (152 : Nat) ({ cls := "PolicyTreeModel", name := "feed", desc := "(IIIII)I" } : Jvm.MethodName)) ∈ TB := tbk_7 (List.mem_of_getElem? (i := 101) rfl) rfl
theorem wd_7_102 : (Jvm.Cond.instanceMethod ({ cls := "PolicyTreeModel", name := "feed", desc := "(IIIII)I" } : Jvm.MethodName)) ∈ TB := tbk_7 (List.mem_of_getElem? (i := 102) rfl) rfl
theorem wd_7_103 : (Jvm.Cond.selects "PolicyTreeModel" ({ cls := "PolicyTreeModel", name := "feed", desc := "(IIIII)I" } : Jvm.MethodName) ({ cls := "PolicyTreeModel", name := "feed", desc := "(IIIII)I" } : Jvm.MethodName)) ∈ TB := tbk_7 (List.mem_of_getElem? (i := 103) rfl) rfl
theorem wd_7_104 : (Jvm.Cond.code ({ cls := "PolicyTreeModel", name := "feed", desc := "(IIIII)I" } : Jvm.MethodName) prog_14_method_21_code (9 : Nat) (Option.some Jvm.ClassFile.FieldType.int)) ∈ TB := tbk_7 (List.mem_of_getElem? (i := 104) rfl) rfl
theorem wd_7_105 : (Jvm.Cond.methodLink "PolicyTreeLaw" (156 : Nat) ({ cls := "PolicyTreeModel", name := "link", desc := "(IIIZI)I" } : Jvm.MethodName)) ∈ TB := tbk_7 (List.mem_of_getElem? (i := 105) rfl) rfl
theorem wd_7_106 : (Jvm.Cond.instanceMethod ({ cls := "PolicyTreeModel", name := "link", desc := "(IIIZI)I" } : Jvm.MethodName)) ∈ TB := tbk_7 (List.mem_of_getElem? (i := 106) rfl) rfl
theorem wd_7_107 : (Jvm.Cond.selects "PolicyTreeModel" ({ cls := "PolicyTreeModel", name := "link", desc := "(IIIZI)I" } : Jvm.MethodName) ({ cls := "PolicyTreeModel", name := "link", desc := "(IIIZI)I" } : Jvm.MethodName)) ∈ TB := tbk_7 (List.mem_of_getElem? (i := 107) rfl) rfl
theorem wd_7_108 : (Jvm.Cond.code ({ cls := "PolicyTreeModel", name := "link", desc := "(IIIZI)I" } : Jvm.MethodName) prog_14_method_33_code (8 : Nat) (Option.some Jvm.ClassFile.FieldType.int)) ∈ TB := tbk_7 (List.mem_of_getElem? (i := 108) rfl) rfl
theorem wd_7_109 : (Jvm.Cond.methodLink "PolicyTreeModel" (143 : Nat) ({ cls := "PolicyTreeModel", name := "blanks", desc := "()V" } : Jvm.MethodName)) ∈ TB := tbk_7 (List.mem_of_getElem? (i := 109) rfl) rfl
theorem wd_7_111 : (Jvm.Cond.instanceMethod ({ cls := "PolicyTreeModel", name := "blanks", desc := "()V" } : Jvm.MethodName)) ∈ TB := tbk_7 (List.mem_of_getElem? (i := 111) rfl) rfl
theorem wd_7_112 : (Jvm.Cond.code ({ cls := "PolicyTreeModel", name := "blanks", desc := "()V" } : Jvm.MethodName) prog_14_method_23_code (1 : Nat) (Option.none : Option Jvm.ClassFile.FieldType)) ∈ TB := tbk_7 (List.mem_of_getElem? (i := 112) rfl) rfl
theorem wd_7_113 : (Jvm.Cond.methodLink "PolicyTreeModel" (137 : Nat) ({ cls := "PolicyTreeModel", name := "byteAt", desc := "(I)I" } : Jvm.MethodName)) ∈ TB := tbk_7 (List.mem_of_getElem? (i := 113) rfl) rfl
theorem wd_7_115 : (Jvm.Cond.instanceMethod ({ cls := "PolicyTreeModel", name := "byteAt", desc := "(I)I" } : Jvm.MethodName)) ∈ TB := tbk_7 (List.mem_of_getElem? (i := 115) rfl) rfl
theorem wd_7_116 : (Jvm.Cond.code ({ cls := "PolicyTreeModel", name := "byteAt", desc := "(I)I" } : Jvm.MethodName) prog_14_method_22_code (2 : Nat) (Option.some Jvm.ClassFile.FieldType.int)) ∈ TB := tbk_7 (List.mem_of_getElem? (i := 116) rfl) rfl
theorem wd_7_117 : (Jvm.Cond.methodLink "PolicyTreeModel" (193 : Nat) ({ cls := "PolicyTreeModel", name := "any", desc := "()V" } : Jvm.MethodName)) ∈ TB := tbk_7 (List.mem_of_getElem? (i := 117) rfl) rfl
theorem wd_7_119 : (Jvm.Cond.instanceMethod ({ cls := "PolicyTreeModel", name := "any", desc := "()V" } : Jvm.MethodName)) ∈ TB := tbk_7 (List.mem_of_getElem? (i := 119) rfl) rfl
theorem wd_7_120 : (Jvm.Cond.code ({ cls := "PolicyTreeModel", name := "any", desc := "()V" } : Jvm.MethodName) prog_14_method_28_code (1 : Nat) (Option.none : Option Jvm.ClassFile.FieldType)) ∈ TB := tbk_7 (List.mem_of_getElem? (i := 120) rfl) rfl
theorem wd_7_121 : (Jvm.Cond.methodLink "PolicyTreeModel" (163 : Nat) ({ cls := "PolicyTreeModel", name := "all", desc := "()V" } : Jvm.MethodName)) ∈ TB := tbk_7 (List.mem_of_getElem? (i := 121) rfl) rfl
theorem wd_7_123 : (Jvm.Cond.instanceMethod ({ cls := "PolicyTreeModel", name := "all", desc := "()V" } : Jvm.MethodName)) ∈ TB := tbk_7 (List.mem_of_getElem? (i := 123) rfl) rfl
theorem wd_7_124 : (Jvm.Cond.code ({ cls := "PolicyTreeModel", name := "all", desc := "()V" } : Jvm.MethodName) prog_14_method_29_code (1 : Nat) (Option.none : Option Jvm.ClassFile.FieldType)) ∈ TB := tbk_7 (List.mem_of_getElem? (i := 124) rfl) rfl
theorem wd_7_125 : (Jvm.Cond.methodLink "PolicyTreeModel" (175 : Nat) ({ cls := "PolicyTreeModel", name := "one", desc := "()V" } : Jvm.MethodName)) ∈ TB := tbk_7 (List.mem_of_getElem? (i := 125) rfl) rfl
theorem wd_7_127 : (Jvm.Cond.instanceMethod ({ cls := "PolicyTreeModel", name := "one", desc := "()V" } : Jvm.MethodName)) ∈ TB := tbk_7 (List.mem_of_getElem? (i := 127) rfl) rfl
theorem wd_7_128 : (Jvm.Cond.code ({ cls := "PolicyTreeModel", name := "one", desc := "()V" } : Jvm.MethodName) prog_14_method_31_code (1 : Nat) (Option.none : Option Jvm.ClassFile.FieldType)) ∈ TB := tbk_7 (List.mem_of_getElem? (i := 128) rfl) rfl
theorem wd_7_130 : (Jvm.Cond.methodLink "PolicyTreeModel" (156 : Nat) ({ cls := "PolicyTreeModel", name := "isWord", desc := "(Ljava/lang/String;)Z" } : Jvm.MethodName)) ∈ TB := tbk_7 (List.mem_of_getElem? (i := 130) rfl) rfl
theorem wd_7_132 : (Jvm.Cond.instanceMethod ({ cls := "PolicyTreeModel", name := "isWord", desc := "(Ljava/lang/String;)Z" } : Jvm.MethodName)) ∈ TB := tbk_7 (List.mem_of_getElem? (i := 132) rfl) rfl
theorem wd_7_133 : (Jvm.Cond.code ({ cls := "PolicyTreeModel", name := "isWord", desc := "(Ljava/lang/String;)Z" } : Jvm.MethodName) prog_14_method_25_code (3 : Nat) (Option.some Jvm.ClassFile.FieldType.boolean)) ∈ TB := tbk_7 (List.mem_of_getElem? (i := 133) rfl) rfl
theorem wd_7_134 : (Jvm.Cond.methodLink "PolicyTreeModel" (146 : Nat) ({ cls := "java/lang/String", name := "length", desc := "()I" } : Jvm.MethodName)) ∈ TB := tbk_7 (List.mem_of_getElem? (i := 134) rfl) rfl
theorem wd_7_135 : (Jvm.Cond.methodLink "PolicyTreeModel" (152 : Nat) ({ cls := "java/lang/String", name := "charAt", desc := "(I)C" } : Jvm.MethodName)) ∈ TB := tbk_7 (List.mem_of_getElem? (i := 135) rfl) rfl
theorem wd_7_136 : (Jvm.Cond.methodLink "PolicyTreeModel" (189 : Nat) ({ cls := "PolicyTreeModel", name := "opens", desc := "()Z" } : Jvm.MethodName)) ∈ TB := tbk_7 (List.mem_of_getElem? (i := 136) rfl) rfl
theorem wd_7_138 : (Jvm.Cond.instanceMethod ({ cls := "PolicyTreeModel", name := "opens", desc := "()Z" } : Jvm.MethodName)) ∈ TB := tbk_7 (List.mem_of_getElem? (i := 138) rfl) rfl
theorem wd_7_139 : (Jvm.Cond.code ({ cls := "PolicyTreeModel", name := "opens", desc := "()Z" } : Jvm.MethodName) prog_14_method_30_code (1 : Nat) (Option.some Jvm.ClassFile.FieldType.boolean)) ∈ TB := tbk_7 (List.mem_of_getElem? (i := 139) rfl) rfl
theorem wd_7_140 : (Jvm.Cond.methodLink "PolicyTreeModel" (183 : Nat) ({ cls := "PolicyTreeModel", name := "wrong", desc := "(II)V" } : Jvm.MethodName)) ∈ TB := tbk_7 (List.mem_of_getElem? (i := 140) rfl) rfl
theorem wd_7_142 : (Jvm.Cond.instanceMethod ({ cls := "PolicyTreeModel", name := "wrong", desc := "(II)V" } : Jvm.MethodName)) ∈ TB := tbk_7 (List.mem_of_getElem? (i := 142) rfl) rfl
theorem wd_7_143 : (Jvm.Cond.code ({ cls := "PolicyTreeModel", name := "wrong", desc := "(II)V" } : Jvm.MethodName) prog_14_method_24_code (3 : Nat) (Option.none : Option Jvm.ClassFile.FieldType)) ∈ TB := tbk_7 (List.mem_of_getElem? (i := 143) rfl) rfl
theorem wd_7_144 : (Jvm.Cond.methodLink "PolicyTreeModel" (171 : Nat) ({ cls := "PolicyTreeModel", name := "emits", desc := "(I)V" } : Jvm.MethodName)) ∈ TB := tbk_7 (List.mem_of_getElem? (i := 144) rfl) rfl
theorem wd_7_146 : (Jvm.Cond.instanceMethod ({ cls := "PolicyTreeModel", name := "emits", desc := "(I)V" } : Jvm.MethodName)) ∈ TB := tbk_7 (List.mem_of_getElem? (i := 146) rfl) rfl
theorem wd_7_147 : (Jvm.Cond.code ({ cls := "PolicyTreeModel", name := "emits", desc := "(I)V" } : Jvm.MethodName) prog_14_method_27_code (4 : Nat) (Option.none : Option Jvm.ClassFile.FieldType)) ∈ TB := tbk_7 (List.mem_of_getElem? (i := 147) rfl) rfl
theorem wd_7_149 : (Jvm.Cond.methodLink "PolicyTreeModel" (168 : Nat) ({ cls := "PolicyTreeModel", name := "eat", desc := "(Ljava/lang/String;)Z" } : Jvm.MethodName)) ∈ TB := tbk_7 (List.mem_of_getElem? (i := 149) rfl) rfl
theorem wd_7_151 : (Jvm.Cond.instanceMethod ({ cls := "PolicyTreeModel", name := "eat", desc := "(Ljava/lang/String;)Z" } : Jvm.MethodName)) ∈ TB := tbk_7 (List.mem_of_getElem? (i := 151) rfl) rfl
theorem wd_7_152 : (Jvm.Cond.code ({ cls := "PolicyTreeModel", name := "eat", desc := "(Ljava/lang/String;)Z" } : Jvm.MethodName) prog_14_method_26_code (3 : Nat) (Option.some Jvm.ClassFile.FieldType.boolean)) ∈ TB := tbk_7 (List.mem_of_getElem? (i := 152) rfl) rfl
theorem wd_7_153 : (Jvm.Cond.methodLink "PolicyTreeModel" (198 : Nat) ({ cls := "PolicyTreeModel", name := "number", desc := "(II)V" } : Jvm.MethodName)) ∈ TB := tbk_7 (List.mem_of_getElem? (i := 153) rfl) rfl
theorem wd_7_155 : (Jvm.Cond.instanceMethod ({ cls := "PolicyTreeModel", name := "number", desc := "(II)V" } : Jvm.MethodName)) ∈ TB := tbk_7 (List.mem_of_getElem? (i := 155) rfl) rfl
theorem wd_7_156 : (Jvm.Cond.code ({ cls := "PolicyTreeModel", name := "number", desc := "(II)V" } : Jvm.MethodName) prog_14_method_32_code (5 : Nat) (Option.none : Option Jvm.ClassFile.FieldType)) ∈ TB := tbk_7 (List.mem_of_getElem? (i := 156) rfl) rfl
theorem wd_7_161 : (Jvm.Cond.methodLink "PolicyTreeLaw" (160 : Nat) ({ cls := "PolicyTreeModel", name := "fault", desc := "()I" } : Jvm.MethodName)) ∈ TB := tbk_7 (List.mem_of_getElem? (i := 161) rfl) rfl
theorem wd_7_162 : (Jvm.Cond.instanceMethod ({ cls := "PolicyTreeModel", name := "fault", desc := "()I" } : Jvm.MethodName)) ∈ TB := tbk_7 (List.mem_of_getElem? (i := 162) rfl) rfl
theorem wd_7_163 : (Jvm.Cond.selects "PolicyTreeModel" ({ cls := "PolicyTreeModel", name := "fault", desc := "()I" } : Jvm.MethodName) ({ cls := "PolicyTreeModel", name := "fault", desc := "()I" } : Jvm.MethodName)) ∈ TB := tbk_7 (List.mem_of_getElem? (i := 163) rfl) rfl
theorem wd_7_164 : (Jvm.Cond.code ({ cls := "PolicyTreeModel", name := "fault", desc := "()I" } : Jvm.MethodName) prog_14_method_34_code (1 : Nat) (Option.some Jvm.ClassFile.FieldType.int)) ∈ TB := tbk_7 (List.mem_of_getElem? (i := 164) rfl) rfl
theorem wd_7_165 : (Jvm.Cond.methodLink "PolicyTreeLaw" (163 : Nat) ({ cls := "PolicyTreeModel", name := "end", desc := "(I)Z" } : Jvm.MethodName)) ∈ TB := tbk_7 (List.mem_of_getElem? (i := 165) rfl) rfl
theorem wd_7_166 : (Jvm.Cond.instanceMethod ({ cls := "PolicyTreeModel", name := "end", desc := "(I)Z" } : Jvm.MethodName)) ∈ TB := tbk_7 (List.mem_of_getElem? (i := 166) rfl) rfl
theorem wd_7_167 : (Jvm.Cond.selects "PolicyTreeModel" ({ cls := "PolicyTreeModel", name := "end", desc := "(I)Z" } : Jvm.MethodName) ({ cls := "PolicyTreeModel", name := "end", desc := "(I)Z" } : Jvm.MethodName)) ∈ TB := tbk_7 (List.mem_of_getElem? (i := 167) rfl) rfl
theorem wd_7_168 : (Jvm.Cond.code ({ cls := "PolicyTreeModel", name := "end", desc := "(I)Z" } : Jvm.MethodName) prog_14_method_35_code (3 : Nat) (Option.some Jvm.ClassFile.FieldType.boolean)) ∈ TB := tbk_7 (List.mem_of_getElem? (i := 168) rfl) rfl
theorem wd_7_169 : (Jvm.Cond.methodLink "PolicyTreeLaw" (166 : Nat) ({ cls := "PolicyTreeModel", name := "outcome", desc := "(II)I" } : Jvm.MethodName)) ∈ TB := tbk_7 (List.mem_of_getElem? (i := 169) rfl) rfl
theorem wd_7_170 : (Jvm.Cond.instanceMethod ({ cls := "PolicyTreeModel", name := "outcome", desc := "(II)I" } : Jvm.MethodName)) ∈ TB := tbk_7 (List.mem_of_getElem? (i := 170) rfl) rfl
theorem wd_7_171 : (Jvm.Cond.selects "PolicyTreeModel" ({ cls := "PolicyTreeModel", name := "outcome", desc := "(II)I" } : Jvm.MethodName) ({ cls := "PolicyTreeModel", name := "outcome", desc := "(II)I" } : Jvm.MethodName)) ∈ TB := tbk_7 (List.mem_of_getElem? (i := 171) rfl) rfl
theorem wd_7_172 : (Jvm.Cond.code ({ cls := "PolicyTreeModel", name := "outcome", desc := "(II)I" } : Jvm.MethodName) prog_14_method_44_code (3 : Nat) (Option.some Jvm.ClassFile.FieldType.int)) ∈ TB := tbk_7 (List.mem_of_getElem? (i := 172) rfl) rfl
theorem wd_7_173 : (Jvm.Cond.methodLink "PolicyTreeModel" (245 : Nat) ({ cls := "PolicyTreeModel", name := "isAsked", desc := "(II)Z" } : Jvm.MethodName)) ∈ TB := tbk_7 (List.mem_of_getElem? (i := 173) rfl) rfl
theorem wd_7_175 : (Jvm.Cond.instanceMethod ({ cls := "PolicyTreeModel", name := "isAsked", desc := "(II)Z" } : Jvm.MethodName)) ∈ TB := tbk_7 (List.mem_of_getElem? (i := 175) rfl) rfl
theorem wd_7_176 : (Jvm.Cond.code ({ cls := "PolicyTreeModel", name := "isAsked", desc := "(II)Z" } : Jvm.MethodName) prog_14_method_43_code (3 : Nat) (Option.some Jvm.ClassFile.FieldType.boolean)) ∈ TB := tbk_7 (List.mem_of_getElem? (i := 176) rfl) rfl
theorem wd_7_177 : (Jvm.Cond.methodLink "PolicyTreeModel" (232 : Nat) ({ cls := "PolicyTreeModel", name := "groupsAnew", desc := "()V" } : Jvm.MethodName)) ∈ TB := tbk_7 (List.mem_of_getElem? (i := 177) rfl) rfl
theorem wd_7_179 : (Jvm.Cond.instanceMethod ({ cls := "PolicyTreeModel", name := "groupsAnew", desc := "()V" } : Jvm.MethodName)) ∈ TB := tbk_7 (List.mem_of_getElem? (i := 179) rfl) rfl
theorem wd_7_180 : (Jvm.Cond.code ({ cls := "PolicyTreeModel", name := "groupsAnew", desc := "()V" } : Jvm.MethodName) prog_14_method_37_code (2 : Nat) (Option.none : Option Jvm.ClassFile.FieldType)) ∈ TB := tbk_7 (List.mem_of_getElem? (i := 180) rfl) rfl
theorem wd_7_181 : (Jvm.Cond.methodLink "PolicyTreeModel" (235 : Nat) ({ cls := "PolicyTreeModel", name := "yesOf", desc := "(I)I" } : Jvm.MethodName)) ∈ TB := tbk_7 (List.mem_of_getElem? (i := 181) rfl) rfl
theorem wd_7_183 : (Jvm.Cond.instanceMethod ({ cls := "PolicyTreeModel", name := "yesOf", desc := "(I)I" } : Jvm.MethodName)) ∈ TB := tbk_7 (List.mem_of_getElem? (i := 183) rfl) rfl
theorem wd_7_184 : (Jvm.Cond.code ({ cls := "PolicyTreeModel", name := "yesOf", desc := "(I)I" } : Jvm.MethodName) prog_14_method_38_code (4 : Nat) (Option.some Jvm.ClassFile.FieldType.int)) ∈ TB := tbk_7 (List.mem_of_getElem? (i := 184) rfl) rfl
theorem wd_7_185 : (Jvm.Cond.methodLink "PolicyTreeModel" (238 : Nat) ({ cls := "PolicyTreeModel", name := "makes", desc := "(III)V" } : Jvm.MethodName)) ∈ TB := tbk_7 (List.mem_of_getElem? (i := 185) rfl) rfl
theorem wd_7_187 : (Jvm.Cond.instanceMethod ({ cls := "PolicyTreeModel", name := "makes", desc := "(III)V" } : Jvm.MethodName)) ∈ TB := tbk_7 (List.mem_of_getElem? (i := 187) rfl) rfl
theorem wd_7_188 : (Jvm.Cond.code ({ cls := "PolicyTreeModel", name := "makes", desc := "(III)V" } : Jvm.MethodName) prog_14_method_40_code (7 : Nat) (Option.none : Option Jvm.ClassFile.FieldType)) ∈ TB := tbk_7 (List.mem_of_getElem? (i := 188) rfl) rfl
theorem wd_7_189 : (Jvm.Cond.methodLink "PolicyTreeModel" (218 : Nat) ({ cls := "PolicyTreeModel", name := "adds", desc := "(IZIII)V" } : Jvm.MethodName)) ∈ TB := tbk_7 (List.mem_of_getElem? (i := 189) rfl) rfl
theorem wd_7_191 : (Jvm.Cond.instanceMethod ({ cls := "PolicyTreeModel", name := "adds", desc := "(IZIII)V" } : Jvm.MethodName)) ∈ TB := tbk_7 (List.mem_of_getElem? (i := 191) rfl) rfl
theorem wd_7_192 : (Jvm.Cond.code ({ cls := "PolicyTreeModel", name := "adds", desc := "(IZIII)V" } : Jvm.MethodName) prog_14_method_39_code (8 : Nat) (Option.none : Option Jvm.ClassFile.FieldType)) ∈ TB := tbk_7 (List.mem_of_getElem? (i := 192) rfl) rfl
theorem wd_7_193 : (Jvm.Cond.methodLink "PolicyTreeModel" (211 : Nat) ({ cls := "PolicyTreeModel", name := "holds", desc := "(III)Z" } : Jvm.MethodName)) ∈ TB := tbk_7 (List.mem_of_getElem? (i := 193) rfl) rfl
theorem wd_7_195 : (Jvm.Cond.instanceMethod ({ cls := "PolicyTreeModel", name := "holds", desc := "(III)Z" } : Jvm.MethodName)) ∈ TB := tbk_7 (List.mem_of_getElem? (i := 195) rfl) rfl
theorem wd_7_196 : (Jvm.Cond.code ({ cls := "PolicyTreeModel", name := "holds", desc := "(III)Z" } : Jvm.MethodName) prog_14_method_36_code (8 : Nat) (Option.some Jvm.ClassFile.FieldType.boolean)) ∈ TB := tbk_7 (List.mem_of_getElem? (i := 196) rfl) rfl
theorem wd_7_197 : (Jvm.Cond.methodLink "PolicyTreeModel" (208 : Nat) ({ cls := "PolicyTreeModel", name := "isBelow", desc := "(II)Z" } : Jvm.MethodName)) ∈ TB := tbk_7 (List.mem_of_getElem? (i := 197) rfl) rfl
theorem wd_7_199 : (Jvm.Cond.instanceMethod ({ cls := "PolicyTreeModel", name := "isBelow", desc := "(II)Z" } : Jvm.MethodName)) ∈ TB := tbk_7 (List.mem_of_getElem? (i := 199) rfl) rfl
theorem wd_7_200 : (Jvm.Cond.code ({ cls := "PolicyTreeModel", name := "isBelow", desc := "(II)Z" } : Jvm.MethodName) prog_14_method_7_code (4 : Nat) (Option.some Jvm.ClassFile.FieldType.boolean)) ∈ TB := tbk_7 (List.mem_of_getElem? (i := 200) rfl) rfl
theorem wd_7_201 : (Jvm.Cond.methodLink "PolicyTreeModel" (242 : Nat) ({ cls := "PolicyTreeModel", name := "outcomes", desc := "(I)V" } : Jvm.MethodName)) ∈ TB := tbk_7 (List.mem_of_getElem? (i := 201) rfl) rfl
theorem wd_7_203 : (Jvm.Cond.instanceMethod ({ cls := "PolicyTreeModel", name := "outcomes", desc := "(I)V" } : Jvm.MethodName)) ∈ TB := tbk_7 (List.mem_of_getElem? (i := 203) rfl) rfl
theorem wd_7_204 : (Jvm.Cond.code ({ cls := "PolicyTreeModel", name := "outcomes", desc := "(I)V" } : Jvm.MethodName) prog_14_method_42_code (6 : Nat) (Option.none : Option Jvm.ClassFile.FieldType)) ∈ TB := tbk_7 (List.mem_of_getElem? (i := 204) rfl) rfl
theorem wd_7_205 : (Jvm.Cond.methodLink "PolicyTreeModel" (228 : Nat) ({ cls := "PolicyTreeModel", name := "valueOf", desc := "(II)I" } : Jvm.MethodName)) ∈ TB := tbk_7 (List.mem_of_getElem? (i := 205) rfl) rfl
theorem wd_7_207 : (Jvm.Cond.instanceMethod ({ cls := "PolicyTreeModel", name := "valueOf", desc := "(II)I" } : Jvm.MethodName)) ∈ TB := tbk_7 (List.mem_of_getElem? (i := 207) rfl) rfl
theorem wd_7_208 : (Jvm.Cond.code ({ cls := "PolicyTreeModel", name := "valueOf", desc := "(II)I" } : Jvm.MethodName) prog_14_method_41_code (3 : Nat) (Option.some Jvm.ClassFile.FieldType.int)) ∈ TB := tbk_7 (List.mem_of_getElem? (i := 208) rfl) rfl
theorem wd_7_209 : (Jvm.Cond.methodLink "PolicyTreeLaw" (169 : Nat) ({ cls := "PolicyTreeModel", name := "value", desc := "(III)I" } : Jvm.MethodName)) ∈ TB := tbk_7 (List.mem_of_getElem? (i := 209) rfl) rfl
theorem wd_7_210 : (Jvm.Cond.instanceMethod ({ cls := "PolicyTreeModel", name := "value", desc := "(III)I" } : Jvm.MethodName)) ∈ TB := tbk_7 (List.mem_of_getElem? (i := 210) rfl) rfl
theorem wd_7_211 : (Jvm.Cond.selects "PolicyTreeModel" ({ cls := "PolicyTreeModel", name := "value", desc := "(III)I" } : Jvm.MethodName) ({ cls := "PolicyTreeModel", name := "value", desc := "(III)I" } : Jvm.MethodName)) ∈ TB := tbk_7 (List.mem_of_getElem? (i := 211) rfl) rfl
theorem wd_7_212 : (Jvm.Cond.code ({ cls := "PolicyTreeModel", name := "value", desc := "(III)I" } : Jvm.MethodName) prog_14_method_45_code (4 : Nat) (Option.some Jvm.ClassFile.FieldType.int)) ∈ TB := tbk_7 (List.mem_of_getElem? (i := 212) rfl) rfl
theorem wd_7_213 : (Jvm.Cond.methodLink "PolicyTreeLaw" (172 : Nat) ({ cls := "PolicyTreeModel", name := "reason", desc := "(II)I" } : Jvm.MethodName)) ∈ TB := tbk_7 (List.mem_of_getElem? (i := 213) rfl) rfl
theorem wd_7_214 : (Jvm.Cond.instanceMethod ({ cls := "PolicyTreeModel", name := "reason", desc := "(II)I" } : Jvm.MethodName)) ∈ TB := tbk_7 (List.mem_of_getElem? (i := 214) rfl) rfl
theorem wd_7_215 : (Jvm.Cond.selects "PolicyTreeModel" ({ cls := "PolicyTreeModel", name := "reason", desc := "(II)I" } : Jvm.MethodName) ({ cls := "PolicyTreeModel", name := "reason", desc := "(II)I" } : Jvm.MethodName)) ∈ TB := tbk_7 (List.mem_of_getElem? (i := 215) rfl) rfl
theorem wd_7_216 : (Jvm.Cond.code ({ cls := "PolicyTreeModel", name := "reason", desc := "(II)I" } : Jvm.MethodName) prog_14_method_46_code (3 : Nat) (Option.some Jvm.ClassFile.FieldType.int)) ∈ TB := tbk_7 (List.mem_of_getElem? (i := 216) rfl) rfl
theorem wd_7_217 : (Jvm.Cond.methodLink "PolicyTreeLaw" (175 : Nat) ({ cls := "PolicyTreeModel", name := "beaten", desc := "(III)I" } : Jvm.MethodName)) ∈ TB := tbk_7 (List.mem_of_getElem? (i := 217) rfl) rfl
theorem wd_7_218 : (Jvm.Cond.instanceMethod ({ cls := "PolicyTreeModel", name := "beaten", desc := "(III)I" } : Jvm.MethodName)) ∈ TB := tbk_7 (List.mem_of_getElem? (i := 218) rfl) rfl
theorem wd_7_219 : (Jvm.Cond.selects "PolicyTreeModel" ({ cls := "PolicyTreeModel", name := "beaten", desc := "(III)I" } : Jvm.MethodName) ({ cls := "PolicyTreeModel", name := "beaten", desc := "(III)I" } : Jvm.MethodName)) ∈ TB := tbk_7 (List.mem_of_getElem? (i := 219) rfl) rfl
theorem wd_7_220 : (Jvm.Cond.code ({ cls := "PolicyTreeModel", name := "beaten", desc := "(III)I" } : Jvm.MethodName) prog_14_method_47_code (6 : Nat) (Option.some Jvm.ClassFile.FieldType.int)) ∈ TB := tbk_7 (List.mem_of_getElem? (i := 220) rfl) rfl
theorem wd_7_221 : (Jvm.Cond.methodLink "PolicyTreeLaw" (178 : Nat) ({ cls := "PolicyTreeModel", name := "sure", desc := "(II)Z" } : Jvm.MethodName)) ∈ TB := tbk_7 (List.mem_of_getElem? (i := 221) rfl) rfl
theorem wd_7_222 : (Jvm.Cond.instanceMethod ({ cls := "PolicyTreeModel", name := "sure", desc := "(II)Z" } : Jvm.MethodName)) ∈ TB := tbk_7 (List.mem_of_getElem? (i := 222) rfl) rfl
theorem wd_7_223 : (Jvm.Cond.selects "PolicyTreeModel" ({ cls := "PolicyTreeModel", name := "sure", desc := "(II)Z" } : Jvm.MethodName) ({ cls := "PolicyTreeModel", name := "sure", desc := "(II)Z" } : Jvm.MethodName)) ∈ TB := tbk_7 (List.mem_of_getElem? (i := 223) rfl) rfl
theorem wd_7_224 : (Jvm.Cond.code ({ cls := "PolicyTreeModel", name := "sure", desc := "(II)Z" } : Jvm.MethodName) prog_14_method_50_code (6 : Nat) (Option.some Jvm.ClassFile.FieldType.boolean)) ∈ TB := tbk_7 (List.mem_of_getElem? (i := 224) rfl) rfl
theorem wd_7_225 : (Jvm.Cond.methodLink "PolicyTreeModel" (251 : Nat) ({ cls := "PolicyTreeModel", name := "keepsThem", desc := "()V" } : Jvm.MethodName)) ∈ TB := tbk_7 (List.mem_of_getElem? (i := 225) rfl) rfl
theorem wd_7_227 : (Jvm.Cond.instanceMethod ({ cls := "PolicyTreeModel", name := "keepsThem", desc := "()V" } : Jvm.MethodName)) ∈ TB := tbk_7 (List.mem_of_getElem? (i := 227) rfl) rfl
theorem wd_7_228 : (Jvm.Cond.code ({ cls := "PolicyTreeModel", name := "keepsThem", desc := "()V" } : Jvm.MethodName) prog_14_method_48_code (2 : Nat) (Option.none : Option Jvm.ClassFile.FieldType)) ∈ TB := tbk_7 (List.mem_of_getElem? (i := 228) rfl) rfl
theorem wd_7_229 : (Jvm.Cond.methodLink "PolicyTreeModel" (254 : Nat) ({ cls := "PolicyTreeModel", name := "isAsKept", desc := "()Z" } : Jvm.MethodName)) ∈ TB := tbk_7 (List.mem_of_getElem? (i := 229) rfl) rfl
theorem wd_7_231 : (Jvm.Cond.instanceMethod ({ cls := "PolicyTreeModel", name := "isAsKept", desc := "()Z" } : Jvm.MethodName)) ∈ TB := tbk_7 (List.mem_of_getElem? (i := 231) rfl) rfl
theorem wd_7_232 : (Jvm.Cond.code ({ cls := "PolicyTreeModel", name := "isAsKept", desc := "()Z" } : Jvm.MethodName) prog_14_method_49_code (3 : Nat) (Option.some Jvm.ClassFile.FieldType.boolean)) ∈ TB := tbk_7 (List.mem_of_getElem? (i := 232) rfl) rfl
theorem wd_7_233 : (Jvm.Cond.methodLink "PolicyTreeLaw" (181 : Nat) ({ cls := "PolicyTreeModel", name := "reach", desc := "(I)I" } : Jvm.MethodName)) ∈ TB := tbk_7 (List.mem_of_getElem? (i := 233) rfl) rfl
theorem wd_7_234 : (Jvm.Cond.instanceMethod ({ cls := "PolicyTreeModel", name := "reach", desc := "(I)I" } : Jvm.MethodName)) ∈ TB := tbk_7 (List.mem_of_getElem? (i := 234) rfl) rfl
theorem wd_7_235 : (Jvm.Cond.selects "PolicyTreeModel" ({ cls := "PolicyTreeModel", name := "reach", desc := "(I)I" } : Jvm.MethodName) ({ cls := "PolicyTreeModel", name := "reach", desc := "(I)I" } : Jvm.MethodName)) ∈ TB := tbk_7 (List.mem_of_getElem? (i := 235) rfl) rfl
theorem wd_7_236 : (Jvm.Cond.code ({ cls := "PolicyTreeModel", name := "reach", desc := "(I)I" } : Jvm.MethodName) prog_14_method_52_code (2 : Nat) (Option.some Jvm.ClassFile.FieldType.int)) ∈ TB := tbk_7 (List.mem_of_getElem? (i := 236) rfl) rfl
theorem wd_7_237 : (Jvm.Cond.constant "PolicyTreeModel" (263 : Nat) (100000 : Int32)) ∈ TB := tbk_7 (List.mem_of_getElem? (i := 237) rfl) rfl
theorem wd_7_238 : (Jvm.Cond.methodLink "PolicyTreeModel" (264 : Nat) ({ cls := "PolicyTreeModel", name := "reaches", desc := "(II)I" } : Jvm.MethodName)) ∈ TB := tbk_7 (List.mem_of_getElem? (i := 238) rfl) rfl
theorem wd_8_0 : (Jvm.Cond.instanceMethod ({ cls := "PolicyTreeModel", name := "reaches", desc := "(II)I" } : Jvm.MethodName)) ∈ TB := tbk_8 (List.mem_of_getElem? (i := 0) rfl) rfl
theorem wd_8_1 : (Jvm.Cond.code ({ cls := "PolicyTreeModel", name := "reaches", desc := "(II)I" } : Jvm.MethodName) prog_14_method_51_code (7 : Nat) (Option.some Jvm.ClassFile.FieldType.int)) ∈ TB := tbk_8 (List.mem_of_getElem? (i := 1) rfl) rfl
theorem wd_8_2 : (Jvm.Cond.methodLink "PolicyTreeLaw" (184 : Nat) ({ cls := "PolicyTreeModel", name := "reached", desc := "(III)I" } : Jvm.MethodName)) ∈ TB := tbk_8 (List.mem_of_getElem? (i := 2) rfl) rfl
theorem wd_8_3 : (Jvm.Cond.instanceMethod ({ cls := "PolicyTreeModel", name := "reached", desc := "(III)I" } : Jvm.MethodName)) ∈ TB := tbk_8 (List.mem_of_getElem? (i := 3) rfl) rfl
theorem wd_8_4 : (Jvm.Cond.selects "PolicyTreeModel" ({ cls := "PolicyTreeModel", name := "reached", desc := "(III)I" } : Jvm.MethodName) ({ cls := "PolicyTreeModel", name := "reached", desc := "(III)I" } : Jvm.MethodName)) ∈ TB := tbk_8 (List.mem_of_getElem? (i := 4) rfl) rfl
theorem wd_8_5 : (Jvm.Cond.code ({ cls := "PolicyTreeModel", name := "reached", desc := "(III)I" } : Jvm.MethodName) prog_14_method_53_code (4 : Nat) (Option.some Jvm.ClassFile.FieldType.int)) ∈ TB := tbk_8 (List.mem_of_getElem? (i := 5) rfl) rfl
theorem wd_8_6 : (Jvm.Cond.methodLink "PolicyTreeLaw" (114 : Nat) ({ cls := "PolicyTreeModel", name := "move", desc := "(II)I" } : Jvm.MethodName)) ∈ TB := tbk_8 (List.mem_of_getElem? (i := 6) rfl) rfl
theorem wd_8_7 : (Jvm.Cond.instanceMethod ({ cls := "PolicyTreeModel", name := "move", desc := "(II)I" } : Jvm.MethodName)) ∈ TB := tbk_8 (List.mem_of_getElem? (i := 7) rfl) rfl
theorem wd_8_8 : (Jvm.Cond.selects "PolicyTreeModel" ({ cls := "PolicyTreeModel", name := "move", desc := "(II)I" } : Jvm.MethodName) ({ cls := "PolicyTreeModel", name := "move", desc := "(II)I" } : Jvm.MethodName)) ∈ TB := tbk_8 (List.mem_of_getElem? (i := 8) rfl) rfl
theorem wd_8_9 : (Jvm.Cond.code ({ cls := "PolicyTreeModel", name := "move", desc := "(II)I" } : Jvm.MethodName) prog_14_method_54_code (9 : Nat) (Option.some Jvm.ClassFile.FieldType.int)) ∈ TB := tbk_8 (List.mem_of_getElem? (i := 9) rfl) rfl
theorem wd_8_10 : (Jvm.Cond.methodLink "PolicyTreeLaw" (188 : Nat) ({ cls := "PolicyTreeModel", name := "quarrels", desc := "()I" } : Jvm.MethodName)) ∈ TB := tbk_8 (List.mem_of_getElem? (i := 10) rfl) rfl
theorem wd_8_11 : (Jvm.Cond.instanceMethod ({ cls := "PolicyTreeModel", name := "quarrels", desc := "()I" } : Jvm.MethodName)) ∈ TB := tbk_8 (List.mem_of_getElem? (i := 11) rfl) rfl
theorem wd_8_12 : (Jvm.Cond.selects "PolicyTreeModel" ({ cls := "PolicyTreeModel", name := "quarrels", desc := "()I" } : Jvm.MethodName) ({ cls := "PolicyTreeModel", name := "quarrels", desc := "()I" } : Jvm.MethodName)) ∈ TB := tbk_8 (List.mem_of_getElem? (i := 12) rfl) rfl
theorem wd_8_13 : (Jvm.Cond.code ({ cls := "PolicyTreeModel", name := "quarrels", desc := "()I" } : Jvm.MethodName) prog_14_method_57_code (1 : Nat) (Option.some Jvm.ClassFile.FieldType.int)) ∈ TB := tbk_8 (List.mem_of_getElem? (i := 13) rfl) rfl
theorem wd_8_14 : (Jvm.Cond.methodLink "PolicyTreeModel" (275 : Nat) ({ cls := "PolicyTreeModel", name := "looks", desc := "(I)I" } : Jvm.MethodName)) ∈ TB := tbk_8 (List.mem_of_getElem? (i := 14) rfl) rfl
theorem wd_8_16 : (Jvm.Cond.instanceMethod ({ cls := "PolicyTreeModel", name := "looks", desc := "(I)I" } : Jvm.MethodName)) ∈ TB := tbk_8 (List.mem_of_getElem? (i := 16) rfl) rfl
theorem wd_8_17 : (Jvm.Cond.code ({ cls := "PolicyTreeModel", name := "looks", desc := "(I)I" } : Jvm.MethodName) prog_14_method_56_code (5 : Nat) (Option.some Jvm.ClassFile.FieldType.int)) ∈ TB := tbk_8 (List.mem_of_getElem? (i := 17) rfl) rfl
theorem wd_8_18 : (Jvm.Cond.methodLink "PolicyTreeModel" (267 : Nat) ({ cls := "PolicyTreeModel", name := "areUnlike", desc := "(II)Z" } : Jvm.MethodName)) ∈ TB := tbk_8 (List.mem_of_getElem? (i := 18) rfl) rfl
theorem wd_8_20 : (Jvm.Cond.instanceMethod ({ cls := "PolicyTreeModel", name := "areUnlike", desc := "(II)Z" } : Jvm.MethodName)) ∈ TB := tbk_8 (List.mem_of_getElem? (i := 20) rfl) rfl
theorem wd_8_21 : (Jvm.Cond.code ({ cls := "PolicyTreeModel", name := "areUnlike", desc := "(II)Z" } : Jvm.MethodName) prog_14_method_55_code (4 : Nat) (Option.some Jvm.ClassFile.FieldType.boolean)) ∈ TB := tbk_8 (List.mem_of_getElem? (i := 21) rfl) rfl
theorem wd_8_22 : (Jvm.Cond.methodLink "PolicyTreeLaw" (191 : Nat) ({ cls := "PolicyTreeModel", name := "quarrel", desc := "(II)I" } : Jvm.MethodName)) ∈ TB := tbk_8 (List.mem_of_getElem? (i := 22) rfl) rfl
theorem wd_8_23 : (Jvm.Cond.instanceMethod ({ cls := "PolicyTreeModel", name := "quarrel", desc := "(II)I" } : Jvm.MethodName)) ∈ TB := tbk_8 (List.mem_of_getElem? (i := 23) rfl) rfl
theorem wd_8_24 : (Jvm.Cond.selects "PolicyTreeModel" ({ cls := "PolicyTreeModel", name := "quarrel", desc := "(II)I" } : Jvm.MethodName) ({ cls := "PolicyTreeModel", name := "quarrel", desc := "(II)I" } : Jvm.MethodName)) ∈ TB := tbk_8 (List.mem_of_getElem? (i := 24) rfl) rfl
theorem wd_8_25 : (Jvm.Cond.code ({ cls := "PolicyTreeModel", name := "quarrel", desc := "(II)I" } : Jvm.MethodName) prog_14_method_58_code (3 : Nat) (Option.some Jvm.ClassFile.FieldType.int)) ∈ TB := tbk_8 (List.mem_of_getElem? (i := 25) rfl) rfl
theorem wd_8_26 : (Jvm.Cond.methodLink "PolicyTreeLaw" (195 : Nat) ({ cls := "PolicyTreeModel", name := "count", desc := "(I)I" } : Jvm.MethodName)) ∈ TB := tbk_8 (List.mem_of_getElem? (i := 26) rfl) rfl
theorem wd_8_27 : (Jvm.Cond.instanceMethod ({ cls := "PolicyTreeModel", name := "count", desc := "(I)I" } : Jvm.MethodName)) ∈ TB := tbk_8 (List.mem_of_getElem? (i := 27) rfl) rfl
theorem wd_8_28 : (Jvm.Cond.selects "PolicyTreeModel" ({ cls := "PolicyTreeModel", name := "count", desc := "(I)I" } : Jvm.MethodName) ({ cls := "PolicyTreeModel", name := "count", desc := "(I)I" } : Jvm.MethodName)) ∈ TB := tbk_8 (List.mem_of_getElem? (i := 28) rfl) rfl
theorem wd_8_29 : (Jvm.Cond.code ({ cls := "PolicyTreeModel", name := "count", desc := "(I)I" } : Jvm.MethodName) prog_14_method_59_code (4 : Nat) (Option.some Jvm.ClassFile.FieldType.int)) ∈ TB := tbk_8 (List.mem_of_getElem? (i := 29) rfl) rfl
theorem wd_8_30 : (Jvm.Cond.sameMethod "java/lang/Throwable" "java/lang/Throwable" "fillInStackTrace" "(I)Ljava/lang/Throwable;") ∈ TB := tbk_8 (List.mem_of_getElem? (i := 30) rfl) rfl
theorem wd_8_31 : (Jvm.Cond.sameMethod "java/lang/AbstractStringBuilder" "java/lang/AbstractStringBuilder" "append" "(Ljava/lang/String;)Ljava/lang/AbstractStringBuilder;") ∈ TB := tbk_8 (List.mem_of_getElem? (i := 31) rfl) rfl
theorem wd_8_32 : (Jvm.Cond.sameMethod "java/lang/AbstractStringBuilder" "java/lang/AbstractStringBuilder" "appendNull" "()Ljava/lang/AbstractStringBuilder;") ∈ TB := tbk_8 (List.mem_of_getElem? (i := 32) rfl) rfl
theorem wd_8_33 : (Jvm.Cond.sameMethod "java/lang/AbstractStringBuilder" "java/lang/AbstractStringBuilder" "ensureCapacityInternal" "(I)V") ∈ TB := tbk_8 (List.mem_of_getElem? (i := 33) rfl) rfl
theorem wd_8_34 : (Jvm.Cond.sameMethod "java/lang/AbstractStringBuilder" "java/lang/AbstractStringBuilder" "newCapacity" "(I)I") ∈ TB := tbk_8 (List.mem_of_getElem? (i := 34) rfl) rfl
theorem wd_8_35 : (Jvm.Cond.sameMethod "java/lang/AbstractStringBuilder" "java/lang/AbstractStringBuilder" "putStringAt" "(ILjava/lang/String;)V") ∈ TB := tbk_8 (List.mem_of_getElem? (i := 35) rfl) rfl
theorem wd_8_36 : (Jvm.Cond.sameMethod "java/lang/AbstractStringBuilder" "java/lang/AbstractStringBuilder" "inflateIfNeededFor" "(Ljava/lang/String;)V") ∈ TB := tbk_8 (List.mem_of_getElem? (i := 36) rfl) rfl
theorem wd_8_37 : (Jvm.Cond.sameMethod "java/lang/AbstractStringBuilder" "java/lang/AbstractStringBuilder" "inflate" "()V") ∈ TB := tbk_8 (List.mem_of_getElem? (i := 37) rfl) rfl
theorem wd_8_38 : (Jvm.Cond.sameMethod "java/lang/AbstractStringBuilder" "java/lang/AbstractStringBuilder" "append" "(I)Ljava/lang/AbstractStringBuilder;") ∈ TB := tbk_8 (List.mem_of_getElem? (i := 38) rfl) rfl
theorem wd_8_59 : (Jvm.Cond.sameMethod "[Ljava/lang/Object;" "java/lang/Object" "getClass" "()Ljava/lang/Class;") ∈ TB := tbk_8 (List.mem_of_getElem? (i := 59) rfl) rfl
theorem wd_8_60 : (Jvm.Cond.selects "[Ljava/lang/Object;" ({ cls := "java/lang/Object", name := "getClass", desc := "()Ljava/lang/Class;" } : Jvm.MethodName) ({ cls := "java/lang/Object", name := "getClass", desc := "()Ljava/lang/Class;" } : Jvm.MethodName)) ∈ TB := tbk_8 (List.mem_of_getElem? (i := 60) rfl) rfl
theorem tbp_1 {q : MethodName × Nat} (h : q ∈ lw_privs_1) (g : goodWord (Cond.selects q.1.cls q.1 q.1) = true) : Cond.selects q.1.cls q.1 q.1 ∈ TB := tb_in (List.mem_append_left _ (List.mem_map.mpr ⟨q, by show q ∈ lw_privs; exact List.mem_append_left _ h, rfl⟩)) g
theorem wp_1_0 : Cond.selects "java/util/ArrayList" ⟨"java/util/ArrayList", "add", "(Ljava/lang/Object;[Ljava/lang/Object;I)V"⟩ ⟨"java/util/ArrayList", "add", "(Ljava/lang/Object;[Ljava/lang/Object;I)V"⟩ ∈ TB := tbp_1 (q := (⟨"java/util/ArrayList", "add", "(Ljava/lang/Object;[Ljava/lang/Object;I)V"⟩, 3)) (List.mem_of_getElem? (i := 0) rfl) rfl
theorem wp_1_1 : Cond.selects "java/util/ArrayList" ⟨"java/util/ArrayList", "grow", "()[Ljava/lang/Object;"⟩ ⟨"java/util/ArrayList", "grow", "()[Ljava/lang/Object;"⟩ ∈ TB := tbp_1 (q := (⟨"java/util/ArrayList", "grow", "()[Ljava/lang/Object;"⟩, 3)) (List.mem_of_getElem? (i := 1) rfl) rfl
theorem wp_1_2 : Cond.selects "java/util/ArrayList" ⟨"java/util/ArrayList", "grow", "(I)[Ljava/lang/Object;"⟩ ⟨"java/util/ArrayList", "grow", "(I)[Ljava/lang/Object;"⟩ ∈ TB := tbp_1 (q := (⟨"java/util/ArrayList", "grow", "(I)[Ljava/lang/Object;"⟩, 3)) (List.mem_of_getElem? (i := 2) rfl) rfl
theorem wp_1_3 : Cond.selects "PolicyTree" ⟨"PolicyTree", "settingsOfLast", "()I"⟩ ⟨"PolicyTree", "settingsOfLast", "()I"⟩ ∈ TB := tbp_1 (q := (⟨"PolicyTree", "settingsOfLast", "()I"⟩, 14)) (List.mem_of_getElem? (i := 3) rfl) rfl
theorem wp_1_4 : Cond.selects "PolicyTree" ⟨"PolicyTree", "countQuarrels", "(II)I"⟩ ⟨"PolicyTree", "countQuarrels", "(II)I"⟩ ∈ TB := tbp_1 (q := (⟨"PolicyTree", "countQuarrels", "(II)I"⟩, 14)) (List.mem_of_getElem? (i := 4) rfl) rfl
theorem wp_1_5 : Cond.selects "PolicyTree" ⟨"PolicyTree", "countLasting", "()I"⟩ ⟨"PolicyTree", "countLasting", "()I"⟩ ∈ TB := tbp_1 (q := (⟨"PolicyTree", "countLasting", "()I"⟩, 14)) (List.mem_of_getElem? (i := 5) rfl) rfl
theorem wp_1_6 : Cond.selects "java/lang/Throwable" ⟨"java/lang/Throwable", "fillInStackTrace", "(I)Ljava/lang/Throwable;"⟩ ⟨"java/lang/Throwable", "fillInStackTrace", "(I)Ljava/lang/Throwable;"⟩ ∈ TB := tbp_1 (q := (⟨"java/lang/Throwable", "fillInStackTrace", "(I)Ljava/lang/Throwable;"⟩, 6)) (List.mem_of_getElem? (i := 6) rfl) rfl
theorem wp_1_7 : Cond.selects "PolicyTree" ⟨"PolicyTree", "countMoved", "(ILPolicyTree$Node;LPolicyTree$Node;)I"⟩ ⟨"PolicyTree", "countMoved", "(ILPolicyTree$Node;LPolicyTree$Node;)I"⟩ ∈ TB := tbp_1 (q := (⟨"PolicyTree", "countMoved", "(ILPolicyTree$Node;LPolicyTree$Node;)I"⟩, 14)) (List.mem_of_getElem? (i := 7) rfl) rfl
theorem wp_1_8 : Cond.selects "PolicyTree$Groups" ⟨"PolicyTree$Groups", "groupsAround", "(I)I"⟩ ⟨"PolicyTree$Groups", "groupsAround", "(I)I"⟩ ∈ TB := tbp_1 (q := (⟨"PolicyTree$Groups", "groupsAround", "(I)I"⟩, 3)) (List.mem_of_getElem? (i := 8) rfl) rfl
theorem wp_1_9 : Cond.selects "PolicyTree$Row" ⟨"PolicyTree$Row", "topOfOpen", "()I"⟩ ⟨"PolicyTree$Row", "topOfOpen", "()I"⟩ ∈ TB := tbp_1 (q := (⟨"PolicyTree$Row", "topOfOpen", "()I"⟩, 4)) (List.mem_of_getElem? (i := 9) rfl) rfl
theorem wp_1_10 : Cond.selects "PolicyTree$Row" ⟨"PolicyTree$Row", "addLinks", "(IZI)V"⟩ ⟨"PolicyTree$Row", "addLinks", "(IZI)V"⟩ ∈ TB := tbp_1 (q := (⟨"PolicyTree$Row", "addLinks", "(IZI)V"⟩, 4)) (List.mem_of_getElem? (i := 10) rfl) rfl
theorem wp_1_11 : Cond.selects "PolicyTree$Outcome" ⟨"PolicyTree$Outcome", "take", "(LPolicyTree$Link;II)V"⟩ ⟨"PolicyTree$Outcome", "take", "(LPolicyTree$Link;II)V"⟩ ∈ TB := tbp_1 (q := (⟨"PolicyTree$Outcome", "take", "(LPolicyTree$Link;II)V"⟩, 3)) (List.mem_of_getElem? (i := 11) rfl) rfl
theorem wp_1_12 : Cond.selects "PolicyTree$Outcome" ⟨"PolicyTree$Outcome", "has", "(I)Z"⟩ ⟨"PolicyTree$Outcome", "has", "(I)Z"⟩ ∈ TB := tbp_1 (q := (⟨"PolicyTree$Outcome", "has", "(I)Z"⟩, 3)) (List.mem_of_getElem? (i := 12) rfl) rfl
theorem wp_1_13 : Cond.selects "PolicyTree$FilterReader" ⟨"PolicyTree$FilterReader", "skipBlanks", "()V"⟩ ⟨"PolicyTree$FilterReader", "skipBlanks", "()V"⟩ ∈ TB := tbp_1 (q := (⟨"PolicyTree$FilterReader", "skipBlanks", "()V"⟩, 9)) (List.mem_of_getElem? (i := 13) rfl) rfl
theorem wp_1_14 : Cond.selects "PolicyTree$FilterReader" ⟨"PolicyTree$FilterReader", "readEither", "(I)V"⟩ ⟨"PolicyTree$FilterReader", "readEither", "(I)V"⟩ ∈ TB := tbp_1 (q := (⟨"PolicyTree$FilterReader", "readEither", "(I)V"⟩, 9)) (List.mem_of_getElem? (i := 14) rfl) rfl
theorem wp_1_15 : Cond.selects "PolicyTree$FilterReader" ⟨"PolicyTree$FilterReader", "readBoth", "(I)V"⟩ ⟨"PolicyTree$FilterReader", "readBoth", "(I)V"⟩ ∈ TB := tbp_1 (q := (⟨"PolicyTree$FilterReader", "readBoth", "(I)V"⟩, 9)) (List.mem_of_getElem? (i := 15) rfl) rfl
theorem tbp_2 {q : MethodName × Nat} (h : q ∈ lw_privs_2) (g : goodWord (Cond.selects q.1.cls q.1 q.1) = true) : Cond.selects q.1.cls q.1 q.1 ∈ TB := tb_in (List.mem_append_left _ (List.mem_map.mpr ⟨q, by show q ∈ lw_privs; exact List.mem_append_right _ (List.mem_append_left _ h), rfl⟩)) g
theorem wp_2_0 : Cond.selects "PolicyTree$FilterReader" ⟨"PolicyTree$FilterReader", "readOne", "(I)V"⟩ ⟨"PolicyTree$FilterReader", "readOne", "(I)V"⟩ ∈ TB := tbp_2 (q := (⟨"PolicyTree$FilterReader", "readOne", "(I)V"⟩, 9)) (List.mem_of_getElem? (i := 0) rfl) rfl
theorem wp_2_1 : Cond.selects "PolicyTree$FilterReader" ⟨"PolicyTree$FilterReader", "takesByte", "(C)Z"⟩ ⟨"PolicyTree$FilterReader", "takesByte", "(C)Z"⟩ ∈ TB := tbp_2 (q := (⟨"PolicyTree$FilterReader", "takesByte", "(C)Z"⟩, 9)) (List.mem_of_getElem? (i := 1) rfl) rfl
theorem wp_2_2 : Cond.selects "PolicyTree$FilterReader" ⟨"PolicyTree$FilterReader", "mayOpen", "(II)Z"⟩ ⟨"PolicyTree$FilterReader", "mayOpen", "(II)Z"⟩ ∈ TB := tbp_2 (q := (⟨"PolicyTree$FilterReader", "mayOpen", "(II)Z"⟩, 9)) (List.mem_of_getElem? (i := 2) rfl) rfl
theorem wp_2_3 : Cond.selects "PolicyTree$FilterReader" ⟨"PolicyTree$FilterReader", "blame", "(II)V"⟩ ⟨"PolicyTree$FilterReader", "blame", "(II)V"⟩ ∈ TB := tbp_2 (q := (⟨"PolicyTree$FilterReader", "blame", "(II)V"⟩, 9)) (List.mem_of_getElem? (i := 3) rfl) rfl
theorem wp_2_4 : Cond.selects "PolicyTree$FilterReader" ⟨"PolicyTree$FilterReader", "takesWord", "(Ljava/lang/String;)Z"⟩ ⟨"PolicyTree$FilterReader", "takesWord", "(Ljava/lang/String;)Z"⟩ ∈ TB := tbp_2 (q := (⟨"PolicyTree$FilterReader", "takesWord", "(Ljava/lang/String;)Z"⟩, 9)) (List.mem_of_getElem? (i := 4) rfl) rfl
theorem wp_2_5 : Cond.selects "PolicyTree$FilterReader" ⟨"PolicyTree$FilterReader", "addStep", "(II)V"⟩ ⟨"PolicyTree$FilterReader", "addStep", "(II)V"⟩ ∈ TB := tbp_2 (q := (⟨"PolicyTree$FilterReader", "addStep", "(II)V"⟩, 9)) (List.mem_of_getElem? (i := 5) rfl) rfl
theorem wp_2_6 : Cond.selects "PolicyTree$FilterReader" ⟨"PolicyTree$FilterReader", "readNumber", "(II)V"⟩ ⟨"PolicyTree$FilterReader", "readNumber", "(II)V"⟩ ∈ TB := tbp_2 (q := (⟨"PolicyTree$FilterReader", "readNumber", "(II)V"⟩, 9)) (List.mem_of_getElem? (i := 6) rfl) rfl
theorem wp_2_7 : Cond.selects "java/util/ArrayList" ⟨"java/util/ArrayList", "rangeCheckForAdd", "(I)V"⟩ ⟨"java/util/ArrayList", "rangeCheckForAdd", "(I)V"⟩ ∈ TB := tbp_2 (q := (⟨"java/util/ArrayList", "rangeCheckForAdd", "(I)V"⟩, 3)) (List.mem_of_getElem? (i := 7) rfl) rfl
theorem wp_2_8 : Cond.selects "java/util/ArrayList" ⟨"java/util/ArrayList", "outOfBoundsMsg", "(I)Ljava/lang/String;"⟩ ⟨"java/util/ArrayList", "outOfBoundsMsg", "(I)Ljava/lang/String;"⟩ ∈ TB := tbp_2 (q := (⟨"java/util/ArrayList", "outOfBoundsMsg", "(I)Ljava/lang/String;"⟩, 3)) (List.mem_of_getElem? (i := 8) rfl) rfl
theorem wp_2_9 : Cond.selects "java/util/ArrayList" ⟨"java/util/ArrayList", "fastRemove", "([Ljava/lang/Object;I)V"⟩ ⟨"java/util/ArrayList", "fastRemove", "([Ljava/lang/Object;I)V"⟩ ∈ TB := tbp_2 (q := (⟨"java/util/ArrayList", "fastRemove", "([Ljava/lang/Object;I)V"⟩, 3)) (List.mem_of_getElem? (i := 9) rfl) rfl
theorem wp_2_10 : Cond.selects "PolicyTree" ⟨"PolicyTree", "findOutcome", "(II)V"⟩ ⟨"PolicyTree", "findOutcome", "(II)V"⟩ ∈ TB := tbp_2 (q := (⟨"PolicyTree", "findOutcome", "(II)V"⟩, 14)) (List.mem_of_getElem? (i := 10) rfl) rfl
theorem wp_2_11 : Cond.selects "PolicyTree" ⟨"PolicyTree", "isSameInLane", "(II)Z"⟩ ⟨"PolicyTree", "isSameInLane", "(II)Z"⟩ ∈ TB := tbp_2 (q := (⟨"PolicyTree", "isSameInLane", "(II)Z"⟩, 14)) (List.mem_of_getElem? (i := 11) rfl) rfl
theorem wp_2_12 : Cond.selects "PolicyTree" ⟨"PolicyTree", "listReach", "(LPolicyTree$Link;)I"⟩ ⟨"PolicyTree", "listReach", "(LPolicyTree$Link;)I"⟩ ∈ TB := tbp_2 (q := (⟨"PolicyTree", "listReach", "(LPolicyTree$Link;)I"⟩, 14)) (List.mem_of_getElem? (i := 12) rfl) rfl
theorem wp_2_13 : Cond.selects "PolicyTree" ⟨"PolicyTree", "addReach", "(LPolicyTree$Link;II)I"⟩ ⟨"PolicyTree", "addReach", "(LPolicyTree$Link;II)I"⟩ ∈ TB := tbp_2 (q := (⟨"PolicyTree", "addReach", "(LPolicyTree$Link;II)I"⟩, 14)) (List.mem_of_getElem? (i := 13) rfl) rfl
theorem wp_2_14 : Cond.selects "PolicyTree" ⟨"PolicyTree", "findQuarreller", "(III)I"⟩ ⟨"PolicyTree", "findQuarreller", "(III)I"⟩ ∈ TB := tbp_2 (q := (⟨"PolicyTree", "findQuarreller", "(III)I"⟩, 14)) (List.mem_of_getElem? (i := 14) rfl) rfl
theorem wp_2_15 : Cond.selects "PolicyTreeModel" ⟨"PolicyTreeModel", "none", "(II)Z"⟩ ⟨"PolicyTreeModel", "none", "(II)Z"⟩ ∈ TB := tbp_2 (q := (⟨"PolicyTreeModel", "none", "(II)Z"⟩, 47)) (List.mem_of_getElem? (i := 15) rfl) rfl
theorem tbp_3 {q : MethodName × Nat} (h : q ∈ lw_privs_3) (g : goodWord (Cond.selects q.1.cls q.1 q.1) = true) : Cond.selects q.1.cls q.1 q.1 ∈ TB := tb_in (List.mem_append_left _ (List.mem_map.mpr ⟨q, by show q ∈ lw_privs; exact List.mem_append_right _ (List.mem_append_right _ (List.mem_append_left _ h)), rfl⟩)) g
theorem wp_3_0 : Cond.selects "PolicyTreeModel" ⟨"PolicyTreeModel", "bad", "(ZI)Z"⟩ ⟨"PolicyTreeModel", "bad", "(ZI)Z"⟩ ∈ TB := tbp_3 (q := (⟨"PolicyTreeModel", "bad", "(ZI)Z"⟩, 47)) (List.mem_of_getElem? (i := 0) rfl) rfl
theorem wp_3_1 : Cond.selects "PolicyTreeModel" ⟨"PolicyTreeModel", "allIn", "(I)I"⟩ ⟨"PolicyTreeModel", "allIn", "(I)I"⟩ ∈ TB := tbp_3 (q := (⟨"PolicyTreeModel", "allIn", "(I)I"⟩, 47)) (List.mem_of_getElem? (i := 1) rfl) rfl
theorem wp_3_2 : Cond.selects "PolicyTreeModel" ⟨"PolicyTreeModel", "tells", "(II)Z"⟩ ⟨"PolicyTreeModel", "tells", "(II)Z"⟩ ∈ TB := tbp_3 (q := (⟨"PolicyTreeModel", "tells", "(II)Z"⟩, 47)) (List.mem_of_getElem? (i := 2) rfl) rfl
theorem wp_3_3 : Cond.selects "PolicyTreeModel" ⟨"PolicyTreeModel", "blanks", "()V"⟩ ⟨"PolicyTreeModel", "blanks", "()V"⟩ ∈ TB := tbp_3 (q := (⟨"PolicyTreeModel", "blanks", "()V"⟩, 47)) (List.mem_of_getElem? (i := 3) rfl) rfl
theorem wp_3_4 : Cond.selects "PolicyTreeModel" ⟨"PolicyTreeModel", "byteAt", "(I)I"⟩ ⟨"PolicyTreeModel", "byteAt", "(I)I"⟩ ∈ TB := tbp_3 (q := (⟨"PolicyTreeModel", "byteAt", "(I)I"⟩, 47)) (List.mem_of_getElem? (i := 4) rfl) rfl
theorem wp_3_5 : Cond.selects "PolicyTreeModel" ⟨"PolicyTreeModel", "any", "()V"⟩ ⟨"PolicyTreeModel", "any", "()V"⟩ ∈ TB := tbp_3 (q := (⟨"PolicyTreeModel", "any", "()V"⟩, 47)) (List.mem_of_getElem? (i := 5) rfl) rfl
theorem wp_3_6 : Cond.selects "PolicyTreeModel" ⟨"PolicyTreeModel", "all", "()V"⟩ ⟨"PolicyTreeModel", "all", "()V"⟩ ∈ TB := tbp_3 (q := (⟨"PolicyTreeModel", "all", "()V"⟩, 47)) (List.mem_of_getElem? (i := 6) rfl) rfl
theorem wp_3_7 : Cond.selects "PolicyTreeModel" ⟨"PolicyTreeModel", "one", "()V"⟩ ⟨"PolicyTreeModel", "one", "()V"⟩ ∈ TB := tbp_3 (q := (⟨"PolicyTreeModel", "one", "()V"⟩, 47)) (List.mem_of_getElem? (i := 7) rfl) rfl
theorem wp_3_8 : Cond.selects "PolicyTreeModel" ⟨"PolicyTreeModel", "isWord", "(Ljava/lang/String;)Z"⟩ ⟨"PolicyTreeModel", "isWord", "(Ljava/lang/String;)Z"⟩ ∈ TB := tbp_3 (q := (⟨"PolicyTreeModel", "isWord", "(Ljava/lang/String;)Z"⟩, 47)) (List.mem_of_getElem? (i := 8) rfl) rfl
theorem wp_3_9 : Cond.selects "PolicyTreeModel" ⟨"PolicyTreeModel", "opens", "()Z"⟩ ⟨"PolicyTreeModel", "opens", "()Z"⟩ ∈ TB := tbp_3 (q := (⟨"PolicyTreeModel", "opens", "()Z"⟩, 47)) (List.mem_of_getElem? (i := 9) rfl) rfl
theorem wp_3_10 : Cond.selects "PolicyTreeModel" ⟨"PolicyTreeModel", "wrong", "(II)V"⟩ ⟨"PolicyTreeModel", "wrong", "(II)V"⟩ ∈ TB := tbp_3 (q := (⟨"PolicyTreeModel", "wrong", "(II)V"⟩, 47)) (List.mem_of_getElem? (i := 10) rfl) rfl
theorem wp_3_11 : Cond.selects "PolicyTreeModel" ⟨"PolicyTreeModel", "emits", "(I)V"⟩ ⟨"PolicyTreeModel", "emits", "(I)V"⟩ ∈ TB := tbp_3 (q := (⟨"PolicyTreeModel", "emits", "(I)V"⟩, 47)) (List.mem_of_getElem? (i := 11) rfl) rfl
theorem wp_3_12 : Cond.selects "PolicyTreeModel" ⟨"PolicyTreeModel", "eat", "(Ljava/lang/String;)Z"⟩ ⟨"PolicyTreeModel", "eat", "(Ljava/lang/String;)Z"⟩ ∈ TB := tbp_3 (q := (⟨"PolicyTreeModel", "eat", "(Ljava/lang/String;)Z"⟩, 47)) (List.mem_of_getElem? (i := 12) rfl) rfl
theorem wp_3_13 : Cond.selects "PolicyTreeModel" ⟨"PolicyTreeModel", "number", "(II)V"⟩ ⟨"PolicyTreeModel", "number", "(II)V"⟩ ∈ TB := tbp_3 (q := (⟨"PolicyTreeModel", "number", "(II)V"⟩, 47)) (List.mem_of_getElem? (i := 13) rfl) rfl
theorem wp_3_14 : Cond.selects "PolicyTreeModel" ⟨"PolicyTreeModel", "isAsked", "(II)Z"⟩ ⟨"PolicyTreeModel", "isAsked", "(II)Z"⟩ ∈ TB := tbp_3 (q := (⟨"PolicyTreeModel", "isAsked", "(II)Z"⟩, 47)) (List.mem_of_getElem? (i := 14) rfl) rfl
theorem wp_3_15 : Cond.selects "PolicyTreeModel" ⟨"PolicyTreeModel", "groupsAnew", "()V"⟩ ⟨"PolicyTreeModel", "groupsAnew", "()V"⟩ ∈ TB := tbp_3 (q := (⟨"PolicyTreeModel", "groupsAnew", "()V"⟩, 47)) (List.mem_of_getElem? (i := 15) rfl) rfl
theorem tbp_4 {q : MethodName × Nat} (h : q ∈ lw_privs_4) (g : goodWord (Cond.selects q.1.cls q.1 q.1) = true) : Cond.selects q.1.cls q.1 q.1 ∈ TB := tb_in (List.mem_append_left _ (List.mem_map.mpr ⟨q, by show q ∈ lw_privs; exact List.mem_append_right _ (List.mem_append_right _ (List.mem_append_right _ (h))), rfl⟩)) g
theorem wp_4_0 : Cond.selects "PolicyTreeModel" ⟨"PolicyTreeModel", "yesOf", "(I)I"⟩ ⟨"PolicyTreeModel", "yesOf", "(I)I"⟩ ∈ TB := tbp_4 (q := (⟨"PolicyTreeModel", "yesOf", "(I)I"⟩, 47)) (List.mem_of_getElem? (i := 0) rfl) rfl
theorem wp_4_1 : Cond.selects "PolicyTreeModel" ⟨"PolicyTreeModel", "makes", "(III)V"⟩ ⟨"PolicyTreeModel", "makes", "(III)V"⟩ ∈ TB := tbp_4 (q := (⟨"PolicyTreeModel", "makes", "(III)V"⟩, 47)) (List.mem_of_getElem? (i := 1) rfl) rfl
theorem wp_4_2 : Cond.selects "PolicyTreeModel" ⟨"PolicyTreeModel", "adds", "(IZIII)V"⟩ ⟨"PolicyTreeModel", "adds", "(IZIII)V"⟩ ∈ TB := tbp_4 (q := (⟨"PolicyTreeModel", "adds", "(IZIII)V"⟩, 47)) (List.mem_of_getElem? (i := 2) rfl) rfl
theorem wp_4_3 : Cond.selects "PolicyTreeModel" ⟨"PolicyTreeModel", "holds", "(III)Z"⟩ ⟨"PolicyTreeModel", "holds", "(III)Z"⟩ ∈ TB := tbp_4 (q := (⟨"PolicyTreeModel", "holds", "(III)Z"⟩, 47)) (List.mem_of_getElem? (i := 3) rfl) rfl
theorem wp_4_4 : Cond.selects "PolicyTreeModel" ⟨"PolicyTreeModel", "isBelow", "(II)Z"⟩ ⟨"PolicyTreeModel", "isBelow", "(II)Z"⟩ ∈ TB := tbp_4 (q := (⟨"PolicyTreeModel", "isBelow", "(II)Z"⟩, 47)) (List.mem_of_getElem? (i := 4) rfl) rfl
theorem wp_4_5 : Cond.selects "PolicyTreeModel" ⟨"PolicyTreeModel", "outcomes", "(I)V"⟩ ⟨"PolicyTreeModel", "outcomes", "(I)V"⟩ ∈ TB := tbp_4 (q := (⟨"PolicyTreeModel", "outcomes", "(I)V"⟩, 47)) (List.mem_of_getElem? (i := 5) rfl) rfl
theorem wp_4_6 : Cond.selects "PolicyTreeModel" ⟨"PolicyTreeModel", "valueOf", "(II)I"⟩ ⟨"PolicyTreeModel", "valueOf", "(II)I"⟩ ∈ TB := tbp_4 (q := (⟨"PolicyTreeModel", "valueOf", "(II)I"⟩, 47)) (List.mem_of_getElem? (i := 6) rfl) rfl
theorem wp_4_7 : Cond.selects "PolicyTreeModel" ⟨"PolicyTreeModel", "keepsThem", "()V"⟩ ⟨"PolicyTreeModel", "keepsThem", "()V"⟩ ∈ TB := tbp_4 (q := (⟨"PolicyTreeModel", "keepsThem", "()V"⟩, 47)) (List.mem_of_getElem? (i := 7) rfl) rfl
theorem wp_4_8 : Cond.selects "PolicyTreeModel" ⟨"PolicyTreeModel", "isAsKept", "()Z"⟩ ⟨"PolicyTreeModel", "isAsKept", "()Z"⟩ ∈ TB := tbp_4 (q := (⟨"PolicyTreeModel", "isAsKept", "()Z"⟩, 47)) (List.mem_of_getElem? (i := 8) rfl) rfl
theorem wp_4_9 : Cond.selects "PolicyTreeModel" ⟨"PolicyTreeModel", "reaches", "(II)I"⟩ ⟨"PolicyTreeModel", "reaches", "(II)I"⟩ ∈ TB := tbp_4 (q := (⟨"PolicyTreeModel", "reaches", "(II)I"⟩, 47)) (List.mem_of_getElem? (i := 9) rfl) rfl
theorem wp_4_10 : Cond.selects "PolicyTreeModel" ⟨"PolicyTreeModel", "looks", "(I)I"⟩ ⟨"PolicyTreeModel", "looks", "(I)I"⟩ ∈ TB := tbp_4 (q := (⟨"PolicyTreeModel", "looks", "(I)I"⟩, 47)) (List.mem_of_getElem? (i := 10) rfl) rfl
theorem wp_4_11 : Cond.selects "PolicyTreeModel" ⟨"PolicyTreeModel", "areUnlike", "(II)Z"⟩ ⟨"PolicyTreeModel", "areUnlike", "(II)Z"⟩ ∈ TB := tbp_4 (q := (⟨"PolicyTreeModel", "areUnlike", "(II)Z"⟩, 47)) (List.mem_of_getElem? (i := 11) rfl) rfl
end
section
/-! ===== the functional heap: what each address holds; how many cells there are; programs over it, with what they make ===== -/
/-- an object (its class's number in vwCl, its fields) or an array (its kind: 0 byte, 1 int, 2 long, 3 boolean, 4 Object; from 10 on: not to be written) -/
abbrev Ce : Type := (Nat × List Value) ⊕ (Nat × vp_A)
abbrev Hs : Type := (Nat → Option Ce) × Nat
abbrev Mo (α : Type) : Type := Hs → Option (α × Hs × Nat × Nat)
def mp {α : Type} (a : α) : Mo α := fun h => some (a, h, 0, 0)
def mf {α : Type} : Mo α := fun _ => none
def mb {α β : Type} (x : Mo α) (f : α → Mo β) : Mo β := fun h => match x h with
  | none => none
  | some (a, h1, c, n) => match f a h1 with
    | none => none
    | some (b, h2, c2, n2) => some (b, h2, c + c2, n + n2)
theorem mb_some {α β : Type} {x : Mo α} {f : α → Mo β} {h h2 : Hs} {b : β} {c n : Nat} (e : mb x f h = some (b, h2, c, n)) : ∃ a h1 c1 n1 c2 n2, x h = some (a, h1, c1, n1) ∧ f a h1 = some (b, h2, c2, n2) ∧ c = c1 + c2 ∧ n = n1 + n2 := by
  unfold mb at e
  split at e
  · cases e
  · rename_i a h1 c1 n1 e1
    split at e
    · cases e
    · rename_i b' h2' c2 n2 e2
      cases e
      exact ⟨a, h1, c1, n1, c2, n2, e1, e2, rfl, rfl⟩
/-- the object r, of class ci -/
def ob (ci : Nat) (r : Option Nat) (h : Hs) : Option (Nat × List Value) := match r with
  | none => none
  | some a => match h.1 a with
    | some (.inl (c, fs)) => if c = ci then some (a, fs) else none
    | _ => none
def gI (ci k : Nat) (r : Option Nat) : Mo Int32 := fun h => match ob ci r h with
  | none => none
  | some (_, fs) => match fs[k]? with
    | some (.int x) => some (x, h, 0, 0)
    | _ => none
def gL (ci k : Nat) (r : Option Nat) : Mo Int64 := fun h => match ob ci r h with
  | none => none
  | some (_, fs) => match fs[k]? with
    | some (.long x) => some (x, h, 0, 0)
    | _ => none
def gR (ci k : Nat) (r : Option Nat) : Mo (Option Nat) := fun h => match ob ci r h with
  | none => none
  | some (_, fs) => match fs[k]? with
    | some (.ref a) => some (some a, h, 0, 0)
    | some .null => some (none, h, 0, 0)
    | _ => none
/-- a field is written: of a class whose objects may be written -/
def pV (ci k : Nat) (r : Option Nat) (v : Value) : Mo Unit := fun h => match ob ci r h with
  | none => none
  | some (a, fs) => if k < fs.length ∧ ci ≠ 0 then some ((), (va_up h.1 a (some (.inl (ci, fs.set k v))), h.2), 0, 0) else none
/-- a receiver: an object of class ci -/
def mo {α : Type} (ci : Nat) (r : Option Nat) (x : Mo α) : Mo α := fun h => match ob ci r h with
  | none => none
  | some _ => x h
/-- arrays -/
def ar (t : Nat) (r : Option Nat) (h : Hs) : Option (Nat × Nat × vp_A) := match r with
  | none => none
  | some a => match h.1 a with
    | some (.inr (u, x)) => if u % 10 = t then some (a, u, x) else none
    | _ => none
def aI (t : Nat) (r : Option Nat) (i : Int32) : Mo Int32 := fun h => match ar t r h with
  | some (_, _, (n, .inl f)) => if i < 0 ∨ n ≤ i.toNatClampNeg then none else some (f i.toNatClampNeg, h, 0, 0)
  | _ => none
def aL (r : Option Nat) (i : Int32) : Mo Int64 := fun h => match ar 2 r h with
  | some (_, _, (n, .inr (.inl f))) => if i < 0 ∨ n ≤ i.toNatClampNeg then none else some (f i.toNatClampNeg, h, 0, 0)
  | _ => none
def aR (r : Option Nat) (i : Int32) : Mo (Option Nat) := fun h => match ar 4 r h with
  | some (_, _, (n, .inr (.inr (.inr (.inr f))))) => if i < 0 ∨ n ≤ i.toNatClampNeg then none else some (f i.toNatClampNeg, h, 0, 0)
  | _ => none
def aN (t : Nat) (r : Option Nat) : Mo Int32 := fun h => match ar t r h with
  | some (_, _, (n, _)) => some (Int32.ofNat n, h, 0, 0)
  | _ => none
/-- what an array of kind t keeps of an int -/
def kp (t : Nat) (x : Int32) : Int32 := if t = 0 then vp_nar .byte x else if t = 3 then x &&& 1 else x
def sI (t : Nat) (r : Option Nat) (i x : Int32) : Mo Unit := fun h => match ar t r h with
  | some (a, u, (n, .inl f)) => if i < 0 ∨ n ≤ i.toNatClampNeg ∨ u ≠ t then none else some ((), (va_up h.1 a (some (.inr (t, (n, .inl (upd f i.toNatClampNeg (kp t x)))))), h.2), 0, 0)
  | _ => none
def sL (r : Option Nat) (i : Int32) (x : Int64) : Mo Unit := fun h => match ar 2 r h with
  | some (a, u, (n, .inr (.inl f))) => if i < 0 ∨ n ≤ i.toNatClampNeg ∨ u ≠ 2 then none else some ((), (va_up h.1 a (some (.inr (2, (n, .inr (.inl (vp_updL f i.toNatClampNeg x)))))), h.2), 0, 0)
  | _ => none
/-- a reference is stored: null, or an object of a class of vwCl -/
def sR (r : Option Nat) (i : Int32) (v : Option Nat) : Mo Unit := fun h => match ar 4 r h with
  | some (a, u, (n, .inr (.inr (.inr (.inr f))))) => if i < 0 ∨ n ≤ i.toNatClampNeg ∨ u ≠ 4 then none else
    match v with
    | none => some ((), (va_up h.1 a (some (.inr (4, (n, .inr (.inr (.inr (.inr (va_up f i.toNatClampNeg none)))))))), h.2), 0, 0)
    | some b => match h.1 b with
      | some (.inl _) => some ((), (va_up h.1 a (some (.inr (4, (n, .inr (.inr (.inr (.inr (va_up f i.toNatClampNeg (some b))))))))), h.2), 0, 0)
      | _ => none
  | _ => none
def nO (ci : Nat) (fs : List Value) : Mo (Option Nat) := fun h => some (some h.2, (va_up h.1 h.2 (some (.inl (ci, fs))), h.2 + 1), 1, fs.length)
/-- a fresh array's contents -/
def z0 (t : Nat) : ((Nat → Int32) ⊕ (Nat → Int64) ⊕ (Nat → UInt32) ⊕ (Nat → UInt64) ⊕ (Nat → Option Nat)) := if t = 2 then .inr (.inl (fun _ => 0)) else if t = 4 then .inr (.inr (.inr (.inr (fun _ => none)))) else .inl (fun _ => 0)
def nA (t : Nat) (i : Int32) : Mo (Option Nat) := fun h => if i < 0 ∨ 1000000 < i.toNatClampNeg then none else some (some h.2, (va_up h.1 h.2 (some (.inr (t, (i.toNatClampNeg, z0 t)))), h.2 + 1), 1, i.toNatClampNeg)
/-! ===== the heap of the machine ===== -/
def ce_e (cy : Nat → ClassId) (x : Ce) : va_E := match x with
  | .inl o => .inr o
  | .inr a => .inl (cy (a.1 % 10), a.2)
def ce_w (x : Ce) : Bool := match x with
  | .inl o => decide (o.1 ≠ 0)
  | .inr a => decide (a.1 < 10)
abbrev tysA (cy : Nat → ClassId) : List (ClassId × FieldType) := [(cy 0, .byte), (cy 1, .int), (cy 2, .long), (cy 3, .boolean), (cy 4, .object "java/lang/Object")]
def HW (D : va_G) (cy : Nat → ClassId) (A : Nat → Prop) (h : Hs) (H : Heap) : Prop := H.size = h.2 ∧ ∀ (q : Nat) (x : Ce), h.1 q = some x → va_at D vwCl (q, ce_e cy x) H ∧ (ce_w x = true → A q)
theorem HW.put {D : va_G} {cy : Nat → ClassId} {A : Nat → Prop} {h : Hs} {H H1 : Heap} {a : Nat} {y : Ce} (w : HW D cy A h H) (ha : A a) (e : va_at D vwCl (a, ce_e cy y) H1) (z : H1.size = H.size) (oq : ∀ q, q ≠ a → H1[q]? = H[q]?) : HW D cy A (va_up h.1 a (some y), h.2) H1 := by
  refine ⟨z.trans w.1, fun q x hq => ?_⟩
  by_cases hqa : q = a
  · subst hqa
    rw [show (va_up h.1 q (some y), h.2).1 q = some y from va_up_self ..] at hq
    cases hq
    exact ⟨e, fun _ => ha⟩
  · rw [show (va_up h.1 a (some y), h.2).1 q = h.1 q from va_up_ne _ _ hqa] at hq
    exact ⟨(w.2 q x hq).1.kept (oq q hqa), (w.2 q x hq).2⟩
theorem HW.push {D : va_G} {cy : Nat → ClassId} {A : Nat → Prop} {h : Hs} {H H1 : Heap} {y : Ce} (w : HW D cy A h H) (ha : A H.size) (e : va_at D vwCl (H.size, ce_e cy y) H1) (z : H1.size = H.size + 1) (oq : ∀ q, q < H.size → H1[q]? = H[q]?) : HW D cy A (va_up h.1 h.2 (some y), h.2 + 1) H1 := by
  have hz := w.1
  refine ⟨by rw [z, hz], fun q x hq => ?_⟩
  by_cases hqa : q = h.2
  · subst hqa
    rw [show (va_up h.1 h.2 (some y), h.2 + 1).1 h.2 = some y from va_up_self ..] at hq
    cases hq
    rw [← hz]
    exact ⟨e, fun _ => ha⟩
  · rw [show (va_up h.1 h.2 (some y), h.2 + 1).1 q = h.1 q from va_up_ne _ _ hqa] at hq
    exact ⟨(w.2 q x hq).1.kept (oq q (w.2 q x hq).1.lt), (w.2 q x hq).2⟩
/-! ===== what stays as it was: words of the tables that aren't good ones, static fields, texts ===== -/
def nwOk : Cond → Bool
  | .methodLinkNest .. => true
  | .castable .. => true
  | _ => false
theorem nw_warm {w : Cond} (hw : nwOk w = true) {s U : State} (hW : s.WarmedH U.vm) (h : va_Nw w s) : va_Nw w U := by
  unfold nwOk at hw
  split at hw
  · exact va_Nw.warmM hW h
  · exact va_Nw.warmC hW h
  · cases hw
def nwL : List Cond := [.methodLinkNest "PolicyTree" 21 ⟨"PolicyTree$Groups", "<init>", "()V"⟩ "PolicyTree", .methodLinkNest "PolicyTree" 38 ⟨"PolicyTree$Tape", "<init>", "()V"⟩ "PolicyTree", .methodLinkNest "PolicyTree" 58 ⟨"PolicyTree$Row", "<init>", "()V"⟩ "PolicyTree", .methodLinkNest "PolicyTree$Row" 27 ⟨"PolicyTree$Standing", "<init>", "()V"⟩ "PolicyTree", .methodLinkNest "PolicyTree" 68 ⟨"PolicyTree$Outcome", "<init>", "()V"⟩ "PolicyTree", .methodLinkNest "PolicyTree" 159 ⟨"PolicyTree$Bundle", "<init>", "()V"⟩ "PolicyTree", .castable "java/lang/String" "java/lang/Object", .castable "java/lang/StringBuilder" "java/lang/Object", .castable "java/util/ArrayList" "java/lang/Object", .castable "PolicyTree$Bundle" "java/lang/Object", .castable "PolicyTree$Filter" "java/lang/Object", .castable "PolicyTree$FilterReader" "java/lang/Object", .castable "PolicyTree$Groups" "java/lang/Object", .castable "PolicyTree$Link" "java/lang/Object", .castable "PolicyTree$Machine" "java/lang/Object", .castable "PolicyTree$Node" "java/lang/Object", .castable "PolicyTree$Outcome" "java/lang/Object", .castable "PolicyTree$Row" "java/lang/Object", .castable "PolicyTree$Standing" "java/lang/Object", .castable "PolicyTree$Tape" "java/lang/Object", .castable "PolicyTree" "java/lang/Object", .castable "PolicyTreeModel" "java/lang/Object"]
theorem nwL_ok : ∀ w ∈ nwL, nwOk w = true := by decide
/-- what the guesses are -/
def gu (j : Nat) : Int64 := [-6148914691236517206, -3689348814741910324, -1085102592571150096, -71777214294589696, -281470681808896, -4294967296].getD j 0
/-- the six words, their lengths and bytes -/
def wLen : List Nat := [3, 5, 4, 4, 3, 2]
def wByt : List (List Int32) := [[110, 111, 116], [103, 114, 111, 117, 112], [102, 97, 99, 116], [110, 111, 100, 101], [97, 110, 100], [111, 114]]
/-- where the texts stand: class, entry, text, its number -/
def wRef : List (String × Nat × String × Nat) := [("PolicyTree$FilterReader", 96, "not", 0), ("PolicyTree$FilterReader", 98, "group", 1), ("PolicyTree$FilterReader", 103, "fact", 2), ("PolicyTree$FilterReader", 105, "node", 3), ("PolicyTree$FilterReader", 86, "and", 4), ("PolicyTree$FilterReader", 74, "or", 5), ("PolicyTreeModel", 187, "not", 0), ("PolicyTreeModel", 196, "group", 1), ("PolicyTreeModel", 201, "fact", 2), ("PolicyTreeModel", 203, "node", 3), ("PolicyTreeModel", 178, "and", 4), ("PolicyTreeModel", 166, "or", 5), ("PolicyTree", 257, "none has this number", 30), ("PolicyTree", 264, "there are as many as may be", 31), ("PolicyTree", 260, "no such choice", 32), ("PolicyTree", 132, "a fact is 1, 0 or -1", 33)]
/-- a reference of which nothing more is known -/
def zF (Z : Nat → Nat) : Option Nat := if Z 4 = 0 then none else some (Z 3)
/-- Z 0: the empty list's array; Z 1: the guesses; Z 2: the class object of Object[]; Z 10 ..: texts; Z 50 ..: their bytes -/
def ZS (Z : Nat → Nat) (A : Nat → Prop) (U : State) (H : Heap) : Prop :=
  (∀ w ∈ nwL, va_Nw w U) ∧
  (va_Z "java/util/ArrayList" "DEFAULTCAPACITY_EMPTY_ELEMENTDATA" "[Ljava/lang/Object;" (.ref (Z 0)) A U H ∧ va_T (.object "java/lang/Object") (Z 0) 0 (fun _ => .null) A U H) ∧
  (va_Z "PolicyTree$Standing" "GUESSES" "[J" (.ref (Z 1)) A U H ∧ va_T .long (Z 1) 6 (fun j => .long (gu j)) A U H) ∧
  (va_Mi "[Ljava/lang/Object;" (Z 2) U ∧ va_Dc U ∧ va_AO "java/lang/Object" U) ∧
  (va_Z "java/lang/String" "COMPACT_STRINGS" "Z" (.int 1) A U H ∧ vk_S 6 wLen wByt (fun i => Z (10 + i)) (fun i => Z (50 + i)) A U H) ∧
  (∀ x ∈ wRef, vk_R x.1 x.2.1 x.2.2.1 (Z (10 + x.2.2.2)) U) ∧
  va_Z "jdk/internal/util/Preconditions" "SIOOBE_FORMATTER" "Ljava/util/function/BiFunction;" (va_rf (zF Z)) A U H
theorem ZS.moved {Z : Nat → Nat} {A : Nat → Prop} {s U : State} {H : Heap} (hW : s.WarmedH U.vm) (h : ZS Z A s H) : ZS Z A U H := by
  obtain ⟨h1, ⟨h2, h3⟩, ⟨h4, h5⟩, ⟨h6, h7, h8⟩, ⟨h9, h10⟩, h11, h12⟩ := h
  have ha := hW.alike
  exact ⟨fun w hw => nw_warm (nwL_ok w hw) hW (h1 w hw), ⟨h2.moved ha, h3.moved ha⟩, ⟨h4.moved ha, h5.moved ha⟩, ⟨h6.moved ha, h7.moved ha, h8.moved ha⟩, ⟨h9.moved ha, h10.moved ha⟩, fun x hx => (h11 x hx).warm hW, h12.moved ha⟩
theorem ZS.kept {Z : Nat → Nat} {A : Nat → Prop} {U : State} {H H1 : Heap} (h : ZS Z A U H) (hq : ∀ a : Nat, a < H.size → ¬ A a → H1[a]? = H[a]?) : ZS Z A U H1 := by
  obtain ⟨h1, ⟨h2, h3⟩, ⟨h4, h5⟩, ⟨h6, h7, h8⟩, ⟨h9, h10⟩, h11, h12⟩ := h
  exact ⟨h1, ⟨h2.kept hq, h3.kept hq⟩, ⟨h4.kept hq, h5.kept hq⟩, ⟨h6, h7, h8⟩, ⟨h9.kept hq, h10.kept hq⟩, h11, h12.kept hq⟩
/-! ===== the judgement ===== -/
/-- where a walk is: program, launch, environment, room, state, method, arguments, frames below, its method and code; the tables' numbers; which cells are ours -/
abbrev Cg : Type := Program × Launch × Env × Room × State × MethodId × Array Value × List Frame × Method × Code × va_G × (Nat → ClassId) × (Nat → Prop) × (Nat → Nat)
def Cx (X : Cg) (cc : ByteArray) (own : String) (nL : Nat) : Prop := match X with
  | (p, _, _, _, s, m, args, _, meth, c, D, cy, A, Z) => p.tables.exec = Jvm.exec ∧ c.code = cc ∧ c.maxLocals = nL ∧ s.vm.findClass own = some m.cls ∧ (∀ w ∈ TB, w.before args s = true) ∧ va_K D vwCl (tysA cy) s ∧ (∀ q, s.heap.size ≤ q → A q) ∧ meth.locks = false ∧ ZS Z A s s.heap
def Sim {α : Type} (X : Cg) (nL : Nat) (Fi : α → Hs → State → Prop) (pc : Nat) (lv : List (Nat × Value)) (st : List Value) (k : Mo α) : Prop := match X with
  | (p, l, e, R, s, m, args, below, meth, c, D, cy, A, _) => ∀ (h : Hs) (r : α) (h' : Hs) (c0 n0 c1 n1 : Nat), k h = some (r, h', c1, n1) → c0 + c1 = R.cells → n0 + n1 = R.slots → ∀ (H : Heap) (locs : List Loc) (ls : Array Slot), HW D cy A h H → va_S A s.heap H locs → lv_has ls nL lv → W p l e R s m args below meth c H locs c0 n0 (Fi r h') (F0 m pc ls st)
theorem rf_cat (r : Option Nat) : (va_rf r).category = 1 := by cases r <;> rfl
section LY
variable {α : Type} {X : Cg} {nL : Nat} {Fi : α → Hs → State → Prop} {pc : Nat} {lv : List (Nat × Value)} {st : List Value} {k : Mo α} {cc : ByteArray} {own : String}
theorem sm_iconst (cx : Cx X cc own nL) {n : Int} {v : Int32} (hd : decode cc pc = .ok (.iconst n, 1)) (hv : Int32.ofInt n = v) (kk : Sim X nL Fi (pc + 1) lv (.int v :: st) k) : Sim X nL Fi pc lv st k := by
  obtain ⟨p, l, e, R, s, m, args, below, meth, c, D, cy, A, Z⟩ := X
  obtain ⟨hx, hb, hml, hown, hts, hK, hA, hlk, hz⟩ := cx
  intro h r h' c0 n0 c1 n1 hk e1 e2 H locs ls hH hS hl
  exact lv_iconst hx hb hd hv (kk h r h' c0 n0 c1 n1 hk e1 e2 H locs ls hH hS hl)
theorem sm_bipush (cx : Cx X cc own nL) {n : Int} {v : Int32} (hd : decode cc pc = .ok (.bipush n, 2)) (hv : (Int8.ofInt n).toInt32 = v) (kk : Sim X nL Fi (pc + 2) lv (.int v :: st) k) : Sim X nL Fi pc lv st k := by
  obtain ⟨p, l, e, R, s, m, args, below, meth, c, D, cy, A, Z⟩ := X
  obtain ⟨hx, hb, hml, hown, hts, hK, hA, hlk, hz⟩ := cx
  intro h r h' c0 n0 c1 n1 hk e1 e2 H locs ls hH hS hl
  exact lv_bipush hx hb hd hv (kk h r h' c0 n0 c1 n1 hk e1 e2 H locs ls hH hS hl)
theorem sm_sipush (cx : Cx X cc own nL) {n : Int} {v : Int32} (hd : decode cc pc = .ok (.sipush n, 3)) (hv : (Int16.ofInt n).toInt32 = v) (kk : Sim X nL Fi (pc + 3) lv (.int v :: st) k) : Sim X nL Fi pc lv st k := by
  obtain ⟨p, l, e, R, s, m, args, below, meth, c, D, cy, A, Z⟩ := X
  obtain ⟨hx, hb, hml, hown, hts, hK, hA, hlk, hz⟩ := cx
  intro h r h' c0 n0 c1 n1 hk e1 e2 H locs ls hH hS hl
  exact lv_sipush hx hb hd hv (kk h r h' c0 n0 c1 n1 hk e1 e2 H locs ls hH hS hl)
theorem sm_lconst (cx : Cx X cc own nL) {n : Fin 2} {v : Int64} (hd : decode cc pc = .ok (.lconst n, 1)) (hv : Int64.ofNat (n : Nat) = v) (kk : Sim X nL Fi (pc + 1) lv (.long v :: st) k) : Sim X nL Fi pc lv st k := by
  obtain ⟨p, l, e, R, s, m, args, below, meth, c, D, cy, A, Z⟩ := X
  obtain ⟨hx, hb, hml, hown, hts, hK, hA, hlk, hz⟩ := cx
  intro h r h' c0 n0 c1 n1 hk e1 e2 H locs ls hH hS hl
  exact lv_lconst hx hb hd hv (kk h r h' c0 n0 c1 n1 hk e1 e2 H locs ls hH hS hl)
theorem sm_ldc (cx : Cx X cc own nL) {i : Nat} {v : Int32} (hd : decode cc pc = .ok (.ldc i, 2)) (hw : Cond.constant own i v ∈ TB) (kk : Sim X nL Fi (pc + 2) lv (.int v :: st) k) : Sim X nL Fi pc lv st k := by
  obtain ⟨p, l, e, R, s, m, args, below, meth, c, D, cy, A, Z⟩ := X
  obtain ⟨hx, hb, hml, hown, hts, hK, hA, hlk, hz⟩ := cx
  intro h r h' c0 n0 c1 n1 hk e1 e2 H locs ls hH hS hl
  exact lv_ldc hx hb hown (hts _ hw) hd (kk h r h' c0 n0 c1 n1 hk e1 e2 H locs ls hH hS hl)
theorem sm_ldcw (cx : Cx X cc own nL) {i : Nat} {v : Int32} (hd : decode cc pc = .ok (.ldc_w i, 3)) (hw : Cond.constant own i v ∈ TB) (kk : Sim X nL Fi (pc + 3) lv (.int v :: st) k) : Sim X nL Fi pc lv st k := by
  obtain ⟨p, l, e, R, s, m, args, below, meth, c, D, cy, A, Z⟩ := X
  obtain ⟨hx, hb, hml, hown, hts, hK, hA, hlk, hz⟩ := cx
  intro h r h' c0 n0 c1 n1 hk e1 e2 H locs ls hH hS hl
  exact lv_ldcw hx hb hown (hts _ hw) hd (kk h r h' c0 n0 c1 n1 hk e1 e2 H locs ls hH hS hl)
theorem sm_ldc2 (cx : Cx X cc own nL) {i : Nat} {v : Int64} (hd : decode cc pc = .ok (.ldc2_w i, 3)) (hw : Cond.constantLong own i v ∈ TB) (kk : Sim X nL Fi (pc + 3) lv (.long v :: st) k) : Sim X nL Fi pc lv st k := by
  obtain ⟨p, l, e, R, s, m, args, below, meth, c, D, cy, A, Z⟩ := X
  obtain ⟨hx, hb, hml, hown, hts, hK, hA, hlk, hz⟩ := cx
  intro h r h' c0 n0 c1 n1 hk e1 e2 H locs ls hH hS hl
  exact lv_ldc2 hx hb hown (hts _ hw) hd (kk h r h' c0 n0 c1 n1 hk e1 e2 H locs ls hH hS hl)
theorem sm_null (cx : Cx X cc own nL) (hd : decode cc pc = .ok (.aconst_null, 1)) (kk : Sim X nL Fi (pc + 1) lv (va_rf none :: st) k) : Sim X nL Fi pc lv st k := by
  obtain ⟨p, l, e, R, s, m, args, below, meth, c, D, cy, A, Z⟩ := X
  obtain ⟨hx, hb, hml, hown, hts, hK, hA, hlk, hz⟩ := cx
  intro h r h' c0 n0 c1 n1 hk e1 e2 H locs ls hH hS hl
  exact lv_null hx hb hd (kk h r h' c0 n0 c1 n1 hk e1 e2 H locs ls hH hS hl)
theorem sm_iload_n (cx : Cx X cc own nL) {j : Fin 4} {i : Nat} {x : Int32} (q : Nat) (hd : decode cc pc = .ok (.iload_n j, 1)) (hi : (j : Nat) = i) (hq : lv[q]? = some (i, .int x)) (kk : Sim X nL Fi (pc + 1) lv (.int x :: st) k) : Sim X nL Fi pc lv st k := by
  obtain ⟨p, l, e, R, s, m, args, below, meth, c, D, cy, A, Z⟩ := X
  obtain ⟨hx, hb, hml, hown, hts, hK, hA, hlk, hz⟩ := cx
  intro h r h' c0 n0 c1 n1 hk e1 e2 H locs ls hH hS hl
  exact lv_iload_n hx hb hd hi (lv_at hl q hq) (kk h r h' c0 n0 c1 n1 hk e1 e2 H locs ls hH hS hl)
theorem sm_iload (cx : Cx X cc own nL) {i : Nat} {x : Int32} (q : Nat) (hd : decode cc pc = .ok (.iload i, 2)) (hq : lv[q]? = some (i, .int x)) (kk : Sim X nL Fi (pc + 2) lv (.int x :: st) k) : Sim X nL Fi pc lv st k := by
  obtain ⟨p, l, e, R, s, m, args, below, meth, c, D, cy, A, Z⟩ := X
  obtain ⟨hx, hb, hml, hown, hts, hK, hA, hlk, hz⟩ := cx
  intro h r h' c0 n0 c1 n1 hk e1 e2 H locs ls hH hS hl
  exact lv_iload hx hb hd (lv_at hl q hq) (kk h r h' c0 n0 c1 n1 hk e1 e2 H locs ls hH hS hl)
theorem sm_lload_n (cx : Cx X cc own nL) {j : Fin 4} {i : Nat} {x : Int64} (q : Nat) (hd : decode cc pc = .ok (.lload_n j, 1)) (hi : (j : Nat) = i) (hq : lv[q]? = some (i, .long x)) (kk : Sim X nL Fi (pc + 1) lv (.long x :: st) k) : Sim X nL Fi pc lv st k := by
  obtain ⟨p, l, e, R, s, m, args, below, meth, c, D, cy, A, Z⟩ := X
  obtain ⟨hx, hb, hml, hown, hts, hK, hA, hlk, hz⟩ := cx
  intro h r h' c0 n0 c1 n1 hk e1 e2 H locs ls hH hS hl
  exact lv_lload_n hx hb hd hi (lv_at hl q hq) (kk h r h' c0 n0 c1 n1 hk e1 e2 H locs ls hH hS hl)
theorem sm_lload (cx : Cx X cc own nL) {i : Nat} {x : Int64} (q : Nat) (hd : decode cc pc = .ok (.lload i, 2)) (hq : lv[q]? = some (i, .long x)) (kk : Sim X nL Fi (pc + 2) lv (.long x :: st) k) : Sim X nL Fi pc lv st k := by
  obtain ⟨p, l, e, R, s, m, args, below, meth, c, D, cy, A, Z⟩ := X
  obtain ⟨hx, hb, hml, hown, hts, hK, hA, hlk, hz⟩ := cx
  intro h r h' c0 n0 c1 n1 hk e1 e2 H locs ls hH hS hl
  exact lv_lload hx hb hd (lv_at hl q hq) (kk h r h' c0 n0 c1 n1 hk e1 e2 H locs ls hH hS hl)
theorem sm_aload_n (cx : Cx X cc own nL) {j : Fin 4} {i : Nat} {x : Option Nat} (q : Nat) (hd : decode cc pc = .ok (.aload_n j, 1)) (hi : (j : Nat) = i) (hq : lv[q]? = some (i, va_rf x)) (kk : Sim X nL Fi (pc + 1) lv (va_rf x :: st) k) : Sim X nL Fi pc lv st k := by
  obtain ⟨p, l, e, R, s, m, args, below, meth, c, D, cy, A, Z⟩ := X
  obtain ⟨hx, hb, hml, hown, hts, hK, hA, hlk, hz⟩ := cx
  intro h r h' c0 n0 c1 n1 hk e1 e2 H locs ls hH hS hl
  have hr := kk h r h' c0 n0 c1 n1 hk e1 e2 H locs ls hH hS hl
  cases x with
  | none => exact lv_aload_nN hx hb hd hi (lv_at hl q hq) hr
  | some a => exact lv_aload_n hx hb hd hi (lv_at hl q hq) hr
theorem sm_aload (cx : Cx X cc own nL) {i : Nat} {x : Option Nat} (q : Nat) (hd : decode cc pc = .ok (.aload i, 2)) (hq : lv[q]? = some (i, va_rf x)) (kk : Sim X nL Fi (pc + 2) lv (va_rf x :: st) k) : Sim X nL Fi pc lv st k := by
  obtain ⟨p, l, e, R, s, m, args, below, meth, c, D, cy, A, Z⟩ := X
  obtain ⟨hx, hb, hml, hown, hts, hK, hA, hlk, hz⟩ := cx
  intro h r h' c0 n0 c1 n1 hk e1 e2 H locs ls hH hS hl
  have hr := kk h r h' c0 n0 c1 n1 hk e1 e2 H locs ls hH hS hl
  cases x with
  | none => exact lv_aloadN hx hb hd (lv_at hl q hq) hr
  | some a => exact lv_aload hx hb hd (lv_at hl q hq) hr
theorem nc0 : ∀ q ∈ ([] : List (Nat × Value)), q.2.category = 1 := fun _ h => nomatch h
theorem nc1 {i : Nat} {v : Value} (h : v.category = 1) : ∀ q ∈ [(i, v)], q.2.category = 1 := fun q hq => by
  rw [List.mem_singleton.mp hq]; exact h
theorem cat_le (st : List Value) (h : st.length ≤ 4) : (st.map fun v => v.category).sum ≤ 8 := by
  have key : ∀ st : List Value, (st.map fun v => v.category).sum ≤ 2 * st.length := by
    intro st
    induction st with
    | nil => simp
    | cons v t ih =>
      have := lv_cat v
      simp only [List.map_cons, List.sum_cons, List.length_cons]
      omega
  have := key st
  omega
theorem flt1 {i : Nat} {lv pv : List (Nat × Value)} (hp : lv.filter (fun q => q.1 + 1 == i) = pv) (hc : ∀ q ∈ pv, q.2.category = 1) : lv.filter (fun q => !(q.1 == i) && !(q.1 + 1 == i && q.2.category == 2)) = lv.filter (fun q => !(q.1 == i)) := by
  apply List.filter_congr
  intro q hq
  by_cases h : q.1 + 1 = i
  · have := hc q (by rw [← hp]; exact List.mem_filter.mpr ⟨hq, by simp [h]⟩)
    simp [this]
  · simp [h]
theorem flt2 {i : Nat} {lv pv : List (Nat × Value)} (hp : lv.filter (fun q => q.1 + 1 == i) = pv) (hc : ∀ q ∈ pv, q.2.category = 1) : lv.filter (fun q => !(q.1 == i) && (!(q.1 == i + 1) && !(q.1 + 1 == i && q.2.category == 2))) = lv.filter (fun q => !(q.1 == i) && !(q.1 == i + 1)) := by
  apply List.filter_congr
  intro q hq
  by_cases h : q.1 + 1 = i
  · have := hc q (by rw [← hp]; exact List.mem_filter.mpr ⟨hq, by simp [h]⟩)
    simp [this]
  · have hb : (q.1 + 1 == i) = false := beq_eq_false_iff_ne.mpr h
    rw [hb]
    simp
theorem sm_istore_n (cx : Cx X cc own nL) {j : Fin 4} {i : Nat} {x : Int32} (lv' : List (Nat × Value)) {pv : List (Nat × Value)} (hd : decode cc pc = .ok (.istore_n j, 1)) (hi : (j : Nat) = i) (hn : i < nL) (hp : lv.filter (fun q => q.1 + 1 == i) = pv) (hpc : ∀ q ∈ pv, q.2.category = 1) (hl' : (i, Value.int x) :: lv.filter (fun q => !(q.1 == i)) = lv') (kk : Sim X nL Fi (pc + 1) lv' st k) : Sim X nL Fi pc lv (Value.int x :: st) k := by
  obtain ⟨p, l, e, R, s, m, args, below, meth, c, D, cy, A, Z⟩ := X
  obtain ⟨hx, hb, hml, hown, hts, hK, hA, hlk, hz⟩ := cx
  intro h r h' c0 n0 c1 n1 hk e1 e2 H locs ls hH hS hl
  rw [← flt1 hp hpc] at hl'
  exact lv_istore_n hx hb hd hi hl hn hl' (fun ls hl => kk h r h' c0 n0 c1 n1 hk e1 e2 H locs ls hH hS hl)
theorem sm_istore (cx : Cx X cc own nL) {i : Nat} {x : Int32} (lv' : List (Nat × Value)) {pv : List (Nat × Value)} (hd : decode cc pc = .ok (.istore i, 2)) (hn : i < nL) (hp : lv.filter (fun q => q.1 + 1 == i) = pv) (hpc : ∀ q ∈ pv, q.2.category = 1) (hl' : (i, Value.int x) :: lv.filter (fun q => !(q.1 == i)) = lv') (kk : Sim X nL Fi (pc + 2) lv' st k) : Sim X nL Fi pc lv (Value.int x :: st) k := by
  obtain ⟨p, l, e, R, s, m, args, below, meth, c, D, cy, A, Z⟩ := X
  obtain ⟨hx, hb, hml, hown, hts, hK, hA, hlk, hz⟩ := cx
  intro h r h' c0 n0 c1 n1 hk e1 e2 H locs ls hH hS hl
  rw [← flt1 hp hpc] at hl'
  exact lv_istore hx hb hd hl hn hl' (fun ls hl => kk h r h' c0 n0 c1 n1 hk e1 e2 H locs ls hH hS hl)
theorem sm_lstore_n (cx : Cx X cc own nL) {j : Fin 4} {i : Nat} {x : Int64} (lv' : List (Nat × Value)) {pv : List (Nat × Value)} (hd : decode cc pc = .ok (.lstore_n j, 1)) (hi : (j : Nat) = i) (hn : i + 1 < nL) (hp : lv.filter (fun q => q.1 + 1 == i) = pv) (hpc : ∀ q ∈ pv, q.2.category = 1) (hl' : (i, Value.long x) :: lv.filter (fun q => !(q.1 == i) && !(q.1 == i + 1)) = lv') (kk : Sim X nL Fi (pc + 1) lv' st k) : Sim X nL Fi pc lv (Value.long x :: st) k := by
  obtain ⟨p, l, e, R, s, m, args, below, meth, c, D, cy, A, Z⟩ := X
  obtain ⟨hx, hb, hml, hown, hts, hK, hA, hlk, hz⟩ := cx
  intro h r h' c0 n0 c1 n1 hk e1 e2 H locs ls hH hS hl
  rw [← flt2 hp hpc] at hl'
  exact lv_lstore_n hx hb hd hi hl hn hl' (fun ls hl => kk h r h' c0 n0 c1 n1 hk e1 e2 H locs ls hH hS hl)
theorem sm_lstore (cx : Cx X cc own nL) {i : Nat} {x : Int64} (lv' : List (Nat × Value)) {pv : List (Nat × Value)} (hd : decode cc pc = .ok (.lstore i, 2)) (hn : i + 1 < nL) (hp : lv.filter (fun q => q.1 + 1 == i) = pv) (hpc : ∀ q ∈ pv, q.2.category = 1) (hl' : (i, Value.long x) :: lv.filter (fun q => !(q.1 == i) && !(q.1 == i + 1)) = lv') (kk : Sim X nL Fi (pc + 2) lv' st k) : Sim X nL Fi pc lv (Value.long x :: st) k := by
  obtain ⟨p, l, e, R, s, m, args, below, meth, c, D, cy, A, Z⟩ := X
  obtain ⟨hx, hb, hml, hown, hts, hK, hA, hlk, hz⟩ := cx
  intro h r h' c0 n0 c1 n1 hk e1 e2 H locs ls hH hS hl
  rw [← flt2 hp hpc] at hl'
  exact lv_lstore hx hb hd hl hn hl' (fun ls hl => kk h r h' c0 n0 c1 n1 hk e1 e2 H locs ls hH hS hl)
theorem sm_astore_n (cx : Cx X cc own nL) {j : Fin 4} {i : Nat} {x : Option Nat} (lv' : List (Nat × Value)) {pv : List (Nat × Value)} (hd : decode cc pc = .ok (.astore_n j, 1)) (hi : (j : Nat) = i) (hn : i < nL) (hp : lv.filter (fun q => q.1 + 1 == i) = pv) (hpc : ∀ q ∈ pv, q.2.category = 1) (hl' : (i, va_rf x) :: lv.filter (fun q => !(q.1 == i)) = lv') (kk : Sim X nL Fi (pc + 1) lv' st k) : Sim X nL Fi pc lv (va_rf x :: st) k := by
  obtain ⟨p, l, e, R, s, m, args, below, meth, c, D, cy, A, Z⟩ := X
  obtain ⟨hx, hb, hml, hown, hts, hK, hA, hlk, hz⟩ := cx
  intro h r h' c0 n0 c1 n1 hk e1 e2 H locs ls hH hS hl
  rw [← flt1 hp hpc] at hl'
  cases x with
  | none => exact lv_astore_nN hx hb hd hi hl hn hl' (fun ls hl => kk h r h' c0 n0 c1 n1 hk e1 e2 H locs ls hH hS hl)
  | some a => exact lv_astore_n hx hb hd hi hl hn hl' (fun ls hl => kk h r h' c0 n0 c1 n1 hk e1 e2 H locs ls hH hS hl)
theorem sm_astore (cx : Cx X cc own nL) {i : Nat} {x : Option Nat} (lv' : List (Nat × Value)) {pv : List (Nat × Value)} (hd : decode cc pc = .ok (.astore i, 2)) (hn : i < nL) (hp : lv.filter (fun q => q.1 + 1 == i) = pv) (hpc : ∀ q ∈ pv, q.2.category = 1) (hl' : (i, va_rf x) :: lv.filter (fun q => !(q.1 == i)) = lv') (kk : Sim X nL Fi (pc + 2) lv' st k) : Sim X nL Fi pc lv (va_rf x :: st) k := by
  obtain ⟨p, l, e, R, s, m, args, below, meth, c, D, cy, A, Z⟩ := X
  obtain ⟨hx, hb, hml, hown, hts, hK, hA, hlk, hz⟩ := cx
  intro h r h' c0 n0 c1 n1 hk e1 e2 H locs ls hH hS hl
  rw [← flt1 hp hpc] at hl'
  cases x with
  | none => exact lv_astoreN hx hb hd hl hn hl' (fun ls hl => kk h r h' c0 n0 c1 n1 hk e1 e2 H locs ls hH hS hl)
  | some a => exact lv_astore hx hb hd hl hn hl' (fun ls hl => kk h r h' c0 n0 c1 n1 hk e1 e2 H locs ls hH hS hl)
theorem sm_iinc (cx : Cx X cc own nL) {i : Nat} {n : Int} {x v : Int32} (q : Nat) (lv' : List (Nat × Value)) {pv : List (Nat × Value)} (hd : decode cc pc = .ok (.iinc i n, 3)) (hq : lv[q]? = some (i, .int x)) (hv : x + Int32.ofInt n = v) (hn : i < nL) (hp : lv.filter (fun q => q.1 + 1 == i) = pv) (hpc : ∀ q ∈ pv, q.2.category = 1) (hl' : (i, Value.int v) :: lv.filter (fun q => !(q.1 == i)) = lv') (kk : Sim X nL Fi (pc + 3) lv' st k) : Sim X nL Fi pc lv st k := by
  obtain ⟨p, l, e, R, s, m, args, below, meth, c, D, cy, A, Z⟩ := X
  obtain ⟨hx, hb, hml, hown, hts, hK, hA, hlk, hz⟩ := cx
  intro h r h' c0 n0 c1 n1 hk e1 e2 H locs ls hH hS hl
  rw [← flt1 hp hpc] at hl'
  exact lv_iinc hx hb hd hl hq hv hn hl' (fun ls hl => kk h r h' c0 n0 c1 n1 hk e1 e2 H locs ls hH hS hl)
theorem sm_iadd (cx : Cx X cc own nL) {x y : Int32} (hd : decode cc pc = .ok (.iadd, 1)) (kk : Sim X nL Fi (pc + 1) lv (.int (x + y) :: st) k) : Sim X nL Fi pc lv (.int y :: .int x :: st) k := by
  obtain ⟨p, l, e, R, s, m, args, below, meth, c, D, cy, A, Z⟩ := X
  obtain ⟨hx, hb, hml, hown, hts, hK, hA, hlk, hz⟩ := cx
  intro h r h' c0 n0 c1 n1 hk e1 e2 H locs ls hH hS hl
  exact lv_iadd hx hb hd (kk h r h' c0 n0 c1 n1 hk e1 e2 H locs ls hH hS hl)
theorem sm_isub (cx : Cx X cc own nL) {x y : Int32} (hd : decode cc pc = .ok (.isub, 1)) (kk : Sim X nL Fi (pc + 1) lv (.int (x - y) :: st) k) : Sim X nL Fi pc lv (.int y :: .int x :: st) k := by
  obtain ⟨p, l, e, R, s, m, args, below, meth, c, D, cy, A, Z⟩ := X
  obtain ⟨hx, hb, hml, hown, hts, hK, hA, hlk, hz⟩ := cx
  intro h r h' c0 n0 c1 n1 hk e1 e2 H locs ls hH hS hl
  exact lv_isub hx hb hd (kk h r h' c0 n0 c1 n1 hk e1 e2 H locs ls hH hS hl)
theorem sm_imul (cx : Cx X cc own nL) {x y : Int32} (hd : decode cc pc = .ok (.imul, 1)) (kk : Sim X nL Fi (pc + 1) lv (.int (x * y) :: st) k) : Sim X nL Fi pc lv (.int y :: .int x :: st) k := by
  obtain ⟨p, l, e, R, s, m, args, below, meth, c, D, cy, A, Z⟩ := X
  obtain ⟨hx, hb, hml, hown, hts, hK, hA, hlk, hz⟩ := cx
  intro h r h' c0 n0 c1 n1 hk e1 e2 H locs ls hH hS hl
  exact lv_imul hx hb hd (kk h r h' c0 n0 c1 n1 hk e1 e2 H locs ls hH hS hl)
theorem sm_iand (cx : Cx X cc own nL) {x y : Int32} (hd : decode cc pc = .ok (.iand, 1)) (kk : Sim X nL Fi (pc + 1) lv (.int (x &&& y) :: st) k) : Sim X nL Fi pc lv (.int y :: .int x :: st) k := by
  obtain ⟨p, l, e, R, s, m, args, below, meth, c, D, cy, A, Z⟩ := X
  obtain ⟨hx, hb, hml, hown, hts, hK, hA, hlk, hz⟩ := cx
  intro h r h' c0 n0 c1 n1 hk e1 e2 H locs ls hH hS hl
  exact lv_iand hx hb hd (kk h r h' c0 n0 c1 n1 hk e1 e2 H locs ls hH hS hl)
theorem sm_ior (cx : Cx X cc own nL) {x y : Int32} (hd : decode cc pc = .ok (.ior, 1)) (kk : Sim X nL Fi (pc + 1) lv (.int (x ||| y) :: st) k) : Sim X nL Fi pc lv (.int y :: .int x :: st) k := by
  obtain ⟨p, l, e, R, s, m, args, below, meth, c, D, cy, A, Z⟩ := X
  obtain ⟨hx, hb, hml, hown, hts, hK, hA, hlk, hz⟩ := cx
  intro h r h' c0 n0 c1 n1 hk e1 e2 H locs ls hH hS hl
  exact lv_ior hx hb hd (kk h r h' c0 n0 c1 n1 hk e1 e2 H locs ls hH hS hl)
theorem sm_ixor (cx : Cx X cc own nL) {x y : Int32} (hd : decode cc pc = .ok (.ixor, 1)) (kk : Sim X nL Fi (pc + 1) lv (.int (x ^^^ y) :: st) k) : Sim X nL Fi pc lv (.int y :: .int x :: st) k := by
  obtain ⟨p, l, e, R, s, m, args, below, meth, c, D, cy, A, Z⟩ := X
  obtain ⟨hx, hb, hml, hown, hts, hK, hA, hlk, hz⟩ := cx
  intro h r h' c0 n0 c1 n1 hk e1 e2 H locs ls hH hS hl
  exact lv_ixor hx hb hd (kk h r h' c0 n0 c1 n1 hk e1 e2 H locs ls hH hS hl)
theorem sm_ladd (cx : Cx X cc own nL) {x y : Int64} (hd : decode cc pc = .ok (.ladd, 1)) (kk : Sim X nL Fi (pc + 1) lv (.long (x + y) :: st) k) : Sim X nL Fi pc lv (.long y :: .long x :: st) k := by
  obtain ⟨p, l, e, R, s, m, args, below, meth, c, D, cy, A, Z⟩ := X
  obtain ⟨hx, hb, hml, hown, hts, hK, hA, hlk, hz⟩ := cx
  intro h r h' c0 n0 c1 n1 hk e1 e2 H locs ls hH hS hl
  exact lv_ladd hx hb hd (kk h r h' c0 n0 c1 n1 hk e1 e2 H locs ls hH hS hl)
theorem sm_lsub (cx : Cx X cc own nL) {x y : Int64} (hd : decode cc pc = .ok (.lsub, 1)) (kk : Sim X nL Fi (pc + 1) lv (.long (x - y) :: st) k) : Sim X nL Fi pc lv (.long y :: .long x :: st) k := by
  obtain ⟨p, l, e, R, s, m, args, below, meth, c, D, cy, A, Z⟩ := X
  obtain ⟨hx, hb, hml, hown, hts, hK, hA, hlk, hz⟩ := cx
  intro h r h' c0 n0 c1 n1 hk e1 e2 H locs ls hH hS hl
  exact lv_lsub hx hb hd (kk h r h' c0 n0 c1 n1 hk e1 e2 H locs ls hH hS hl)
theorem sm_lmul (cx : Cx X cc own nL) {x y : Int64} (hd : decode cc pc = .ok (.lmul, 1)) (kk : Sim X nL Fi (pc + 1) lv (.long (x * y) :: st) k) : Sim X nL Fi pc lv (.long y :: .long x :: st) k := by
  obtain ⟨p, l, e, R, s, m, args, below, meth, c, D, cy, A, Z⟩ := X
  obtain ⟨hx, hb, hml, hown, hts, hK, hA, hlk, hz⟩ := cx
  intro h r h' c0 n0 c1 n1 hk e1 e2 H locs ls hH hS hl
  exact lv_lmul hx hb hd (kk h r h' c0 n0 c1 n1 hk e1 e2 H locs ls hH hS hl)
theorem sm_land (cx : Cx X cc own nL) {x y : Int64} (hd : decode cc pc = .ok (.land, 1)) (kk : Sim X nL Fi (pc + 1) lv (.long (x &&& y) :: st) k) : Sim X nL Fi pc lv (.long y :: .long x :: st) k := by
  obtain ⟨p, l, e, R, s, m, args, below, meth, c, D, cy, A, Z⟩ := X
  obtain ⟨hx, hb, hml, hown, hts, hK, hA, hlk, hz⟩ := cx
  intro h r h' c0 n0 c1 n1 hk e1 e2 H locs ls hH hS hl
  exact lv_land hx hb hd (kk h r h' c0 n0 c1 n1 hk e1 e2 H locs ls hH hS hl)
theorem sm_lor (cx : Cx X cc own nL) {x y : Int64} (hd : decode cc pc = .ok (.lor, 1)) (kk : Sim X nL Fi (pc + 1) lv (.long (x ||| y) :: st) k) : Sim X nL Fi pc lv (.long y :: .long x :: st) k := by
  obtain ⟨p, l, e, R, s, m, args, below, meth, c, D, cy, A, Z⟩ := X
  obtain ⟨hx, hb, hml, hown, hts, hK, hA, hlk, hz⟩ := cx
  intro h r h' c0 n0 c1 n1 hk e1 e2 H locs ls hH hS hl
  exact lv_lor hx hb hd (kk h r h' c0 n0 c1 n1 hk e1 e2 H locs ls hH hS hl)
theorem sm_lxor (cx : Cx X cc own nL) {x y : Int64} (hd : decode cc pc = .ok (.lxor, 1)) (kk : Sim X nL Fi (pc + 1) lv (.long (x ^^^ y) :: st) k) : Sim X nL Fi pc lv (.long y :: .long x :: st) k := by
  obtain ⟨p, l, e, R, s, m, args, below, meth, c, D, cy, A, Z⟩ := X
  obtain ⟨hx, hb, hml, hown, hts, hK, hA, hlk, hz⟩ := cx
  intro h r h' c0 n0 c1 n1 hk e1 e2 H locs ls hH hS hl
  exact lv_lxor hx hb hd (kk h r h' c0 n0 c1 n1 hk e1 e2 H locs ls hH hS hl)
theorem sm_idiv (cx : Cx X cc own nL) {x y : Int32} (hd : decode cc pc = .ok (.idiv, 1)) (hne : ¬ y = 0) (kk : Sim X nL Fi (pc + 1) lv (.int (x / y) :: st) k) : Sim X nL Fi pc lv (.int y :: .int x :: st) k := by
  obtain ⟨p, l, e, R, s, m, args, below, meth, c, D, cy, A, Z⟩ := X
  obtain ⟨hx, hb, hml, hown, hts, hK, hA, hlk, hz⟩ := cx
  intro h r h' c0 n0 c1 n1 hk e1 e2 H locs ls hH hS hl
  exact lv_idiv hx hb hd hne (kk h r h' c0 n0 c1 n1 hk e1 e2 H locs ls hH hS hl)
theorem sm_irem (cx : Cx X cc own nL) {x y : Int32} (hd : decode cc pc = .ok (.irem, 1)) (hne : ¬ y = 0) (kk : Sim X nL Fi (pc + 1) lv (.int (x - x / y * y) :: st) k) : Sim X nL Fi pc lv (.int y :: .int x :: st) k := by
  obtain ⟨p, l, e, R, s, m, args, below, meth, c, D, cy, A, Z⟩ := X
  obtain ⟨hx, hb, hml, hown, hts, hK, hA, hlk, hz⟩ := cx
  intro h r h' c0 n0 c1 n1 hk e1 e2 H locs ls hH hS hl
  exact lv_irem hx hb hd hne (kk h r h' c0 n0 c1 n1 hk e1 e2 H locs ls hH hS hl)
theorem sm_ineg (cx : Cx X cc own nL) {x : Int32} (hd : decode cc pc = .ok (.ineg, 1)) (kk : Sim X nL Fi (pc + 1) lv (.int (-x) :: st) k) : Sim X nL Fi pc lv (.int x :: st) k := by
  obtain ⟨p, l, e, R, s, m, args, below, meth, c, D, cy, A, Z⟩ := X
  obtain ⟨hx, hb, hml, hown, hts, hK, hA, hlk, hz⟩ := cx
  intro h r h' c0 n0 c1 n1 hk e1 e2 H locs ls hH hS hl
  exact lv_ineg hx hb hd (kk h r h' c0 n0 c1 n1 hk e1 e2 H locs ls hH hS hl)
def jSh (x y : Int32) : Int32 := (x.toUInt32 >>> (y.toUInt32 &&& Int32.toUInt32 31)).toInt32
def jSL (x : Int64) (y : Int32) : Int64 := (x.toUInt64 >>> (y.toInt64.toUInt64 &&& Int64.toUInt64 63)).toInt64
def jLL (x : Int64) (y : Int32) : Int64 := x <<< (y.toInt64 &&& 63)
theorem sm_ishl (cx : Cx X cc own nL) {x y : Int32} (hd : decode cc pc = .ok (.ishl, 1)) (kk : Sim X nL Fi (pc + 1) lv (.int (x <<< (y &&& 31)) :: st) k) : Sim X nL Fi pc lv (.int y :: .int x :: st) k := by
  obtain ⟨p, l, e, R, s, m, args, below, meth, c, D, cy, A, Z⟩ := X
  obtain ⟨hx, hb, hml, hown, hts, hK, hA, hlk, hz⟩ := cx
  intro h r h' c0 n0 c1 n1 hk e1 e2 H locs ls hH hS hl
  exact lv_ishl hx hb hd (kk h r h' c0 n0 c1 n1 hk e1 e2 H locs ls hH hS hl)
theorem sm_ishr (cx : Cx X cc own nL) {x y : Int32} (hd : decode cc pc = .ok (.ishr, 1)) (kk : Sim X nL Fi (pc + 1) lv (.int (x >>> (y &&& 31)) :: st) k) : Sim X nL Fi pc lv (.int y :: .int x :: st) k := by
  obtain ⟨p, l, e, R, s, m, args, below, meth, c, D, cy, A, Z⟩ := X
  obtain ⟨hx, hb, hml, hown, hts, hK, hA, hlk, hz⟩ := cx
  intro h r h' c0 n0 c1 n1 hk e1 e2 H locs ls hH hS hl
  exact lv_ishr hx hb hd (kk h r h' c0 n0 c1 n1 hk e1 e2 H locs ls hH hS hl)
theorem sm_iushr (cx : Cx X cc own nL) {x y : Int32} (hd : decode cc pc = .ok (.iushr, 1)) (kk : Sim X nL Fi (pc + 1) lv (.int (jSh x y) :: st) k) : Sim X nL Fi pc lv (.int y :: .int x :: st) k := by
  obtain ⟨p, l, e, R, s, m, args, below, meth, c, D, cy, A, Z⟩ := X
  obtain ⟨hx, hb, hml, hown, hts, hK, hA, hlk, hz⟩ := cx
  intro h r h' c0 n0 c1 n1 hk e1 e2 H locs ls hH hS hl
  exact lv_iushr hx hb hd rfl (kk h r h' c0 n0 c1 n1 hk e1 e2 H locs ls hH hS hl)
theorem sm_lushr (cx : Cx X cc own nL) {x : Int64} {y : Int32} (hd : decode cc pc = .ok (.lushr, 1)) (kk : Sim X nL Fi (pc + 1) lv (.long (jSL x y) :: st) k) : Sim X nL Fi pc lv (.int y :: .long x :: st) k := by
  obtain ⟨p, l, e, R, s, m, args, below, meth, c, D, cy, A, Z⟩ := X
  obtain ⟨hx, hb, hml, hown, hts, hK, hA, hlk, hz⟩ := cx
  intro h r h' c0 n0 c1 n1 hk e1 e2 H locs ls hH hS hl
  exact lv_lushr hx hb hd rfl (kk h r h' c0 n0 c1 n1 hk e1 e2 H locs ls hH hS hl)
theorem sm_lshl (cx : Cx X cc own nL) {x : Int64} {y : Int32} (hd : decode cc pc = .ok (.lshl, 1)) (kk : Sim X nL Fi (pc + 1) lv (.long (jLL x y) :: st) k) : Sim X nL Fi pc lv (.int y :: .long x :: st) k := by
  obtain ⟨p, l, e, R, s, m, args, below, meth, c, D, cy, A, Z⟩ := X
  obtain ⟨hx, hb, hml, hown, hts, hK, hA, hlk, hz⟩ := cx
  intro h r h' c0 n0 c1 n1 hk e1 e2 H locs ls hH hS hl
  exact lv_lshl hx hb hd rfl (kk h r h' c0 n0 c1 n1 hk e1 e2 H locs ls hH hS hl)
theorem sm_i2l (cx : Cx X cc own nL) {x : Int32} (hd : decode cc pc = .ok (.i2l, 1)) (kk : Sim X nL Fi (pc + 1) lv (.long x.toInt64 :: st) k) : Sim X nL Fi pc lv (.int x :: st) k := by
  obtain ⟨p, l, e, R, s, m, args, below, meth, c, D, cy, A, Z⟩ := X
  obtain ⟨hx, hb, hml, hown, hts, hK, hA, hlk, hz⟩ := cx
  intro h r h' c0 n0 c1 n1 hk e1 e2 H locs ls hH hS hl
  exact lv_i2l hx hb hd rfl (kk h r h' c0 n0 c1 n1 hk e1 e2 H locs ls hH hS hl)
theorem sm_l2i (cx : Cx X cc own nL) {x : Int64} (hd : decode cc pc = .ok (.l2i, 1)) (kk : Sim X nL Fi (pc + 1) lv (.int x.toInt32 :: st) k) : Sim X nL Fi pc lv (.long x :: st) k := by
  obtain ⟨p, l, e, R, s, m, args, below, meth, c, D, cy, A, Z⟩ := X
  obtain ⟨hx, hb, hml, hown, hts, hK, hA, hlk, hz⟩ := cx
  intro h r h' c0 n0 c1 n1 hk e1 e2 H locs ls hH hS hl
  exact lv_l2i hx hb hd rfl (kk h r h' c0 n0 c1 n1 hk e1 e2 H locs ls hH hS hl)
theorem sm_i2b (cx : Cx X cc own nL) {x : Int32} (hd : decode cc pc = .ok (.i2b, 1)) (kk : Sim X nL Fi (pc + 1) lv (.int x.toInt8.toInt32 :: st) k) : Sim X nL Fi pc lv (.int x :: st) k := by
  obtain ⟨p, l, e, R, s, m, args, below, meth, c, D, cy, A, Z⟩ := X
  obtain ⟨hx, hb, hml, hown, hts, hK, hA, hlk, hz⟩ := cx
  intro h r h' c0 n0 c1 n1 hk e1 e2 H locs ls hH hS hl
  exact lv_i2b hx hb hd rfl (kk h r h' c0 n0 c1 n1 hk e1 e2 H locs ls hH hS hl)
theorem sm_i2c (cx : Cx X cc own nL) {x : Int32} (hd : decode cc pc = .ok (.i2c, 1)) (kk : Sim X nL Fi (pc + 1) lv (.int (x.toUInt32 % 65536).toInt32 :: st) k) : Sim X nL Fi pc lv (.int x :: st) k := by
  obtain ⟨p, l, e, R, s, m, args, below, meth, c, D, cy, A, Z⟩ := X
  obtain ⟨hx, hb, hml, hown, hts, hK, hA, hlk, hz⟩ := cx
  intro h r h' c0 n0 c1 n1 hk e1 e2 H locs ls hH hS hl
  exact lv_i2c hx hb hd rfl (kk h r h' c0 n0 c1 n1 hk e1 e2 H locs ls hH hS hl)
theorem sm_lcmp (cx : Cx X cc own nL) {x y : Int64} (hd : decode cc pc = .ok (.lcmp, 1)) (kk : Sim X nL Fi (pc + 1) lv (.int (lg_cmp x y) :: st) k) : Sim X nL Fi pc lv (.long y :: .long x :: st) k := by
  obtain ⟨p, l, e, R, s, m, args, below, meth, c, D, cy, A, Z⟩ := X
  obtain ⟨hx, hb, hml, hown, hts, hK, hA, hlk, hz⟩ := cx
  intro h r h' c0 n0 c1 n1 hk e1 e2 H locs ls hH hS hl
  exact W.lcmp hx hb hd (kk h r h' c0 n0 c1 n1 hk e1 e2 H locs ls hH hS hl)
theorem sm_dup (cx : Cx X cc own nL) {v : Value} (hd : decode cc pc = .ok (.dup, 1)) (hc : v.category = 1) (kk : Sim X nL Fi (pc + 1) lv (v :: v :: st) k) : Sim X nL Fi pc lv (v :: st) k := by
  obtain ⟨p, l, e, R, s, m, args, below, meth, c, D, cy, A, Z⟩ := X
  obtain ⟨hx, hb, hml, hown, hts, hK, hA, hlk, hz⟩ := cx
  intro h r h' c0 n0 c1 n1 hk e1 e2 H locs ls hH hS hl
  exact lv_dup hx hb hd hc (kk h r h' c0 n0 c1 n1 hk e1 e2 H locs ls hH hS hl)
theorem sm_pop (cx : Cx X cc own nL) {v : Value} (hd : decode cc pc = .ok (.pop, 1)) (hc : v.category = 1) (kk : Sim X nL Fi (pc + 1) lv st k) : Sim X nL Fi pc lv (v :: st) k := by
  obtain ⟨p, l, e, R, s, m, args, below, meth, c, D, cy, A, Z⟩ := X
  obtain ⟨hx, hb, hml, hown, hts, hK, hA, hlk, hz⟩ := cx
  intro h r h' c0 n0 c1 n1 hk e1 e2 H locs ls hH hS hl
  exact lv_pop hx hb hd hc (kk h r h' c0 n0 c1 n1 hk e1 e2 H locs ls hH hS hl)
theorem sm_dupx1 (cx : Cx X cc own nL) {v w : Value} (hd : decode cc pc = .ok (.dup_x1, 1)) (hc : v.category = 1) (hw : w.category = 1) (kk : Sim X nL Fi (pc + 1) lv (v :: w :: v :: st) k) : Sim X nL Fi pc lv (v :: w :: st) k := by
  obtain ⟨p, l, e, R, s, m, args, below, meth, c, D, cy, A, Z⟩ := X
  obtain ⟨hx, hb, hml, hown, hts, hK, hA, hlk, hz⟩ := cx
  intro h r h' c0 n0 c1 n1 hk e1 e2 H locs ls hH hS hl
  exact lv_dup_x1 hx hb hd hc hw (kk h r h' c0 n0 c1 n1 hk e1 e2 H locs ls hH hS hl)
theorem sm_dup2 (cx : Cx X cc own nL) {v w : Value} (hd : decode cc pc = .ok (.dup2, 1)) (hc : v.category = 1) (hw : w.category = 1) (kk : Sim X nL Fi (pc + 1) lv (v :: w :: v :: w :: st) k) : Sim X nL Fi pc lv (v :: w :: st) k := by
  obtain ⟨p, l, e, R, s, m, args, below, meth, c, D, cy, A, Z⟩ := X
  obtain ⟨hx, hb, hml, hown, hts, hK, hA, hlk, hz⟩ := cx
  intro h r h' c0 n0 c1 n1 hk e1 e2 H locs ls hH hS hl
  exact lv_dup2_11 hx hb hd hc hw (kk h r h' c0 n0 c1 n1 hk e1 e2 H locs ls hH hS hl)
theorem sm_goto (cx : Cx X cc own nL) {off : Int} {tgt : Nat} (hd : decode cc pc = .ok (.goto off, 3)) (ht : (pc : Int) + off = (tgt : Int)) (kk : Sim X nL Fi tgt lv st k) : Sim X nL Fi pc lv st k := by
  obtain ⟨p, l, e, R, s, m, args, below, meth, c, D, cy, A, Z⟩ := X
  obtain ⟨hx, hb, hml, hown, hts, hK, hA, hlk, hz⟩ := cx
  intro h r h' c0 n0 c1 n1 hk e1 e2 H locs ls hH hS hl
  exact lv_goto hx hb hd ht (kk h r h' c0 n0 c1 n1 hk e1 e2 H locs ls hH hS hl)
/-- fewer locals are spoken of -/
theorem sm_lv (ks : List Nat) {lv' : List (Nat × Value)} (hp : lv_pick lv ks = lv') (kk : Sim X nL Fi pc lv' st k) : Sim X nL Fi pc lv st k := by
  obtain ⟨p, l, e, R, s, m, args, below, meth, c, D, cy, A, Z⟩ := X
  intro h r h' c0 n0 c1 n1 hk e1 e2 H locs ls hH hS hl
  exact kk h r h' c0 n0 c1 n1 hk e1 e2 H locs ls hH hS (lv_sub hl ks hp)
theorem sm_mf : Sim X nL Fi pc lv st mf := by
  obtain ⟨p, l, e, R, s, m, args, below, meth, c, D, cy, A, Z⟩ := X
  intro h r h' c0 n0 c1 n1 hk
  cases hk
theorem sm_eq {k' : Mo α} (he : k = k') (kk : Sim X nL Fi pc lv st k') : Sim X nL Fi pc lv st k := he ▸ kk
theorem sm_if_ne (cx : Cx X cc own nL) {x : Int32} {off : Int} {tgt : Nat} {k1 k2 : Mo α} (hd : decode cc pc = .ok (.ifCond .ne off, 3)) (ht : (pc : Int) + off = (tgt : Int)) (kt : Sim X nL Fi tgt lv st k2) (kf : Sim X nL Fi (pc + 3) lv st k1) : Sim X nL Fi pc lv (.int x :: st) (if x = 0 then k1 else k2) := by
  obtain ⟨p, l, e, R, s, m, args, below, meth, c, D, cy, A, Z⟩ := X
  obtain ⟨hx, hb, hml, hown, hts, hK, hA, hlk, hz⟩ := cx
  intro h r h' c0 n0 c1 n1 hk e1 e2 H locs ls hH hS hl
  refine lv_if_ne hx hb hd ht (fun hc => ?_) (fun hc => ?_)
  · rw [if_neg hc] at hk
    exact kt h r h' c0 n0 c1 n1 hk e1 e2 H locs ls hH hS hl
  · first | rw [if_pos hc] at hk | rw [if_pos (Decidable.not_not.mp hc)] at hk
    exact kf h r h' c0 n0 c1 n1 hk e1 e2 H locs ls hH hS hl
theorem sm_icmp_ne (cx : Cx X cc own nL) {x y : Int32} {off : Int} {tgt : Nat} {k1 k2 : Mo α} (hd : decode cc pc = .ok (.if_icmp .ne off, 3)) (ht : (pc : Int) + off = (tgt : Int)) (kt : Sim X nL Fi tgt lv st k2) (kf : Sim X nL Fi (pc + 3) lv st k1) : Sim X nL Fi pc lv (.int y :: .int x :: st) (if x = y then k1 else k2) := by
  obtain ⟨p, l, e, R, s, m, args, below, meth, c, D, cy, A, Z⟩ := X
  obtain ⟨hx, hb, hml, hown, hts, hK, hA, hlk, hz⟩ := cx
  intro h r h' c0 n0 c1 n1 hk e1 e2 H locs ls hH hS hl
  refine lv_icmp_ne hx hb hd ht (fun hc => ?_) (fun hc => ?_)
  · rw [if_neg hc] at hk
    exact kt h r h' c0 n0 c1 n1 hk e1 e2 H locs ls hH hS hl
  · first | rw [if_pos hc] at hk | rw [if_pos (Decidable.not_not.mp hc)] at hk
    exact kf h r h' c0 n0 c1 n1 hk e1 e2 H locs ls hH hS hl
theorem sm_acmp_ne (cx : Cx X cc own nL) {x y : Option Nat} {off : Int} {tgt : Nat} {k1 k2 : Mo α} (hd : decode cc pc = .ok (.if_acmp .ne off, 3)) (ht : (pc : Int) + off = (tgt : Int)) (kt : Sim X nL Fi tgt lv st k2) (kf : Sim X nL Fi (pc + 3) lv st k1) : Sim X nL Fi pc lv (va_rf y :: va_rf x :: st) (if x = y then k1 else k2) := by
  obtain ⟨p, l, e, R, s, m, args, below, meth, c, D, cy, A, Z⟩ := X
  obtain ⟨hx, hb, hml, hown, hts, hK, hA, hlk, hz⟩ := cx
  intro h r h' c0 n0 c1 n1 hk e1 e2 H locs ls hH hS hl
  refine lv_acmp_ne hx hb hd ht (fun hc => ?_) (fun hc => ?_)
  · rw [if_neg hc] at hk
    exact kt h r h' c0 n0 c1 n1 hk e1 e2 H locs ls hH hS hl
  · first | rw [if_pos hc] at hk | rw [if_pos (Decidable.not_not.mp hc)] at hk
    exact kf h r h' c0 n0 c1 n1 hk e1 e2 H locs ls hH hS hl
theorem sm_if_eq (cx : Cx X cc own nL) {x : Int32} {off : Int} {tgt : Nat} {k1 k2 : Mo α} (hd : decode cc pc = .ok (.ifCond .eq off, 3)) (ht : (pc : Int) + off = (tgt : Int)) (kt : Sim X nL Fi tgt lv st k1) (kf : Sim X nL Fi (pc + 3) lv st k2) : Sim X nL Fi pc lv (.int x :: st) (if x = 0 then k1 else k2) := by
  obtain ⟨p, l, e, R, s, m, args, below, meth, c, D, cy, A, Z⟩ := X
  obtain ⟨hx, hb, hml, hown, hts, hK, hA, hlk, hz⟩ := cx
  intro h r h' c0 n0 c1 n1 hk e1 e2 H locs ls hH hS hl
  refine lv_if_eq hx hb hd ht (fun hc => ?_) (fun hc => ?_)
  · first | rw [if_pos hc] at hk | rw [if_neg hc] at hk
    exact kt h r h' c0 n0 c1 n1 hk e1 e2 H locs ls hH hS hl
  · first | rw [if_neg hc] at hk | rw [if_pos hc] at hk
    exact kf h r h' c0 n0 c1 n1 hk e1 e2 H locs ls hH hS hl
theorem sm_icmp_eq (cx : Cx X cc own nL) {x y : Int32} {off : Int} {tgt : Nat} {k1 k2 : Mo α} (hd : decode cc pc = .ok (.if_icmp .eq off, 3)) (ht : (pc : Int) + off = (tgt : Int)) (kt : Sim X nL Fi tgt lv st k1) (kf : Sim X nL Fi (pc + 3) lv st k2) : Sim X nL Fi pc lv (.int y :: .int x :: st) (if x = y then k1 else k2) := by
  obtain ⟨p, l, e, R, s, m, args, below, meth, c, D, cy, A, Z⟩ := X
  obtain ⟨hx, hb, hml, hown, hts, hK, hA, hlk, hz⟩ := cx
  intro h r h' c0 n0 c1 n1 hk e1 e2 H locs ls hH hS hl
  refine lv_icmp_eq hx hb hd ht (fun hc => ?_) (fun hc => ?_)
  · first | rw [if_pos hc] at hk | rw [if_neg hc] at hk
    exact kt h r h' c0 n0 c1 n1 hk e1 e2 H locs ls hH hS hl
  · first | rw [if_neg hc] at hk | rw [if_pos hc] at hk
    exact kf h r h' c0 n0 c1 n1 hk e1 e2 H locs ls hH hS hl
theorem sm_if_lt (cx : Cx X cc own nL) {x : Int32} {off : Int} {tgt : Nat} {k1 k2 : Mo α} (hd : decode cc pc = .ok (.ifCond .lt off, 3)) (ht : (pc : Int) + off = (tgt : Int)) (kt : Sim X nL Fi tgt lv st k1) (kf : Sim X nL Fi (pc + 3) lv st k2) : Sim X nL Fi pc lv (.int x :: st) (if x < 0 then k1 else k2) := by
  obtain ⟨p, l, e, R, s, m, args, below, meth, c, D, cy, A, Z⟩ := X
  obtain ⟨hx, hb, hml, hown, hts, hK, hA, hlk, hz⟩ := cx
  intro h r h' c0 n0 c1 n1 hk e1 e2 H locs ls hH hS hl
  refine lv_if_lt hx hb hd ht (fun hc => ?_) (fun hc => ?_)
  · first | rw [if_pos hc] at hk | rw [if_neg hc] at hk
    exact kt h r h' c0 n0 c1 n1 hk e1 e2 H locs ls hH hS hl
  · first | rw [if_neg hc] at hk | rw [if_pos hc] at hk
    exact kf h r h' c0 n0 c1 n1 hk e1 e2 H locs ls hH hS hl
theorem sm_icmp_lt (cx : Cx X cc own nL) {x y : Int32} {off : Int} {tgt : Nat} {k1 k2 : Mo α} (hd : decode cc pc = .ok (.if_icmp .lt off, 3)) (ht : (pc : Int) + off = (tgt : Int)) (kt : Sim X nL Fi tgt lv st k1) (kf : Sim X nL Fi (pc + 3) lv st k2) : Sim X nL Fi pc lv (.int y :: .int x :: st) (if x < y then k1 else k2) := by
  obtain ⟨p, l, e, R, s, m, args, below, meth, c, D, cy, A, Z⟩ := X
  obtain ⟨hx, hb, hml, hown, hts, hK, hA, hlk, hz⟩ := cx
  intro h r h' c0 n0 c1 n1 hk e1 e2 H locs ls hH hS hl
  refine lv_icmp_lt hx hb hd ht (fun hc => ?_) (fun hc => ?_)
  · first | rw [if_pos hc] at hk | rw [if_neg hc] at hk
    exact kt h r h' c0 n0 c1 n1 hk e1 e2 H locs ls hH hS hl
  · first | rw [if_neg hc] at hk | rw [if_pos hc] at hk
    exact kf h r h' c0 n0 c1 n1 hk e1 e2 H locs ls hH hS hl
theorem sm_if_ge (cx : Cx X cc own nL) {x : Int32} {off : Int} {tgt : Nat} {k1 k2 : Mo α} (hd : decode cc pc = .ok (.ifCond .ge off, 3)) (ht : (pc : Int) + off = (tgt : Int)) (kt : Sim X nL Fi tgt lv st k1) (kf : Sim X nL Fi (pc + 3) lv st k2) : Sim X nL Fi pc lv (.int x :: st) (if 0 ≤ x then k1 else k2) := by
  obtain ⟨p, l, e, R, s, m, args, below, meth, c, D, cy, A, Z⟩ := X
  obtain ⟨hx, hb, hml, hown, hts, hK, hA, hlk, hz⟩ := cx
  intro h r h' c0 n0 c1 n1 hk e1 e2 H locs ls hH hS hl
  refine lv_if_ge hx hb hd ht (fun hc => ?_) (fun hc => ?_)
  · first | rw [if_pos hc] at hk | rw [if_neg hc] at hk
    exact kt h r h' c0 n0 c1 n1 hk e1 e2 H locs ls hH hS hl
  · first | rw [if_neg hc] at hk | rw [if_pos hc] at hk
    exact kf h r h' c0 n0 c1 n1 hk e1 e2 H locs ls hH hS hl
theorem sm_icmp_ge (cx : Cx X cc own nL) {x y : Int32} {off : Int} {tgt : Nat} {k1 k2 : Mo α} (hd : decode cc pc = .ok (.if_icmp .ge off, 3)) (ht : (pc : Int) + off = (tgt : Int)) (kt : Sim X nL Fi tgt lv st k1) (kf : Sim X nL Fi (pc + 3) lv st k2) : Sim X nL Fi pc lv (.int y :: .int x :: st) (if y ≤ x then k1 else k2) := by
  obtain ⟨p, l, e, R, s, m, args, below, meth, c, D, cy, A, Z⟩ := X
  obtain ⟨hx, hb, hml, hown, hts, hK, hA, hlk, hz⟩ := cx
  intro h r h' c0 n0 c1 n1 hk e1 e2 H locs ls hH hS hl
  refine lv_icmp_ge hx hb hd ht (fun hc => ?_) (fun hc => ?_)
  · first | rw [if_pos hc] at hk | rw [if_neg hc] at hk
    exact kt h r h' c0 n0 c1 n1 hk e1 e2 H locs ls hH hS hl
  · first | rw [if_neg hc] at hk | rw [if_pos hc] at hk
    exact kf h r h' c0 n0 c1 n1 hk e1 e2 H locs ls hH hS hl
theorem sm_if_gt (cx : Cx X cc own nL) {x : Int32} {off : Int} {tgt : Nat} {k1 k2 : Mo α} (hd : decode cc pc = .ok (.ifCond .gt off, 3)) (ht : (pc : Int) + off = (tgt : Int)) (kt : Sim X nL Fi tgt lv st k1) (kf : Sim X nL Fi (pc + 3) lv st k2) : Sim X nL Fi pc lv (.int x :: st) (if 0 < x then k1 else k2) := by
  obtain ⟨p, l, e, R, s, m, args, below, meth, c, D, cy, A, Z⟩ := X
  obtain ⟨hx, hb, hml, hown, hts, hK, hA, hlk, hz⟩ := cx
  intro h r h' c0 n0 c1 n1 hk e1 e2 H locs ls hH hS hl
  refine lv_if_gt hx hb hd ht (fun hc => ?_) (fun hc => ?_)
  · first | rw [if_pos hc] at hk | rw [if_neg hc] at hk
    exact kt h r h' c0 n0 c1 n1 hk e1 e2 H locs ls hH hS hl
  · first | rw [if_neg hc] at hk | rw [if_pos hc] at hk
    exact kf h r h' c0 n0 c1 n1 hk e1 e2 H locs ls hH hS hl
theorem sm_icmp_gt (cx : Cx X cc own nL) {x y : Int32} {off : Int} {tgt : Nat} {k1 k2 : Mo α} (hd : decode cc pc = .ok (.if_icmp .gt off, 3)) (ht : (pc : Int) + off = (tgt : Int)) (kt : Sim X nL Fi tgt lv st k1) (kf : Sim X nL Fi (pc + 3) lv st k2) : Sim X nL Fi pc lv (.int y :: .int x :: st) (if y < x then k1 else k2) := by
  obtain ⟨p, l, e, R, s, m, args, below, meth, c, D, cy, A, Z⟩ := X
  obtain ⟨hx, hb, hml, hown, hts, hK, hA, hlk, hz⟩ := cx
  intro h r h' c0 n0 c1 n1 hk e1 e2 H locs ls hH hS hl
  refine lv_icmp_gt hx hb hd ht (fun hc => ?_) (fun hc => ?_)
  · first | rw [if_pos hc] at hk | rw [if_neg hc] at hk
    exact kt h r h' c0 n0 c1 n1 hk e1 e2 H locs ls hH hS hl
  · first | rw [if_neg hc] at hk | rw [if_pos hc] at hk
    exact kf h r h' c0 n0 c1 n1 hk e1 e2 H locs ls hH hS hl
theorem sm_if_le (cx : Cx X cc own nL) {x : Int32} {off : Int} {tgt : Nat} {k1 k2 : Mo α} (hd : decode cc pc = .ok (.ifCond .le off, 3)) (ht : (pc : Int) + off = (tgt : Int)) (kt : Sim X nL Fi tgt lv st k1) (kf : Sim X nL Fi (pc + 3) lv st k2) : Sim X nL Fi pc lv (.int x :: st) (if x ≤ 0 then k1 else k2) := by
  obtain ⟨p, l, e, R, s, m, args, below, meth, c, D, cy, A, Z⟩ := X
  obtain ⟨hx, hb, hml, hown, hts, hK, hA, hlk, hz⟩ := cx
  intro h r h' c0 n0 c1 n1 hk e1 e2 H locs ls hH hS hl
  refine lv_if_le hx hb hd ht (fun hc => ?_) (fun hc => ?_)
  · first | rw [if_pos hc] at hk | rw [if_neg hc] at hk
    exact kt h r h' c0 n0 c1 n1 hk e1 e2 H locs ls hH hS hl
  · first | rw [if_neg hc] at hk | rw [if_pos hc] at hk
    exact kf h r h' c0 n0 c1 n1 hk e1 e2 H locs ls hH hS hl
theorem sm_icmp_le (cx : Cx X cc own nL) {x y : Int32} {off : Int} {tgt : Nat} {k1 k2 : Mo α} (hd : decode cc pc = .ok (.if_icmp .le off, 3)) (ht : (pc : Int) + off = (tgt : Int)) (kt : Sim X nL Fi tgt lv st k1) (kf : Sim X nL Fi (pc + 3) lv st k2) : Sim X nL Fi pc lv (.int y :: .int x :: st) (if x ≤ y then k1 else k2) := by
  obtain ⟨p, l, e, R, s, m, args, below, meth, c, D, cy, A, Z⟩ := X
  obtain ⟨hx, hb, hml, hown, hts, hK, hA, hlk, hz⟩ := cx
  intro h r h' c0 n0 c1 n1 hk e1 e2 H locs ls hH hS hl
  refine lv_icmp_le hx hb hd ht (fun hc => ?_) (fun hc => ?_)
  · first | rw [if_pos hc] at hk | rw [if_neg hc] at hk
    exact kt h r h' c0 n0 c1 n1 hk e1 e2 H locs ls hH hS hl
  · first | rw [if_neg hc] at hk | rw [if_pos hc] at hk
    exact kf h r h' c0 n0 c1 n1 hk e1 e2 H locs ls hH hS hl
theorem sm_acmp_eq (cx : Cx X cc own nL) {x y : Option Nat} {off : Int} {tgt : Nat} {k1 k2 : Mo α} (hd : decode cc pc = .ok (.if_acmp .eq off, 3)) (ht : (pc : Int) + off = (tgt : Int)) (kt : Sim X nL Fi tgt lv st k1) (kf : Sim X nL Fi (pc + 3) lv st k2) : Sim X nL Fi pc lv (va_rf y :: va_rf x :: st) (if x = y then k1 else k2) := by
  obtain ⟨p, l, e, R, s, m, args, below, meth, c, D, cy, A, Z⟩ := X
  obtain ⟨hx, hb, hml, hown, hts, hK, hA, hlk, hz⟩ := cx
  intro h r h' c0 n0 c1 n1 hk e1 e2 H locs ls hH hS hl
  refine lv_acmp_eq hx hb hd ht (fun hc => ?_) (fun hc => ?_)
  · first | rw [if_pos hc] at hk | rw [if_neg hc] at hk
    exact kt h r h' c0 n0 c1 n1 hk e1 e2 H locs ls hH hS hl
  · first | rw [if_neg hc] at hk | rw [if_pos hc] at hk
    exact kf h r h' c0 n0 c1 n1 hk e1 e2 H locs ls hH hS hl
theorem sm_ifnull (cx : Cx X cc own nL) {x : Option Nat} {off : Int} {tgt : Nat} {k1 k2 : Mo α} (hd : decode cc pc = .ok (.ifnull off, 3)) (ht : (pc : Int) + off = (tgt : Int)) (kt : Sim X nL Fi tgt lv st k1) (kf : Sim X nL Fi (pc + 3) lv st k2) : Sim X nL Fi pc lv (va_rf x :: st) (if x = none then k1 else k2) := by
  obtain ⟨p, l, e, R, s, m, args, below, meth, c, D, cy, A, Z⟩ := X
  obtain ⟨hx, hb, hml, hown, hts, hK, hA, hlk, hz⟩ := cx
  intro h r h' c0 n0 c1 n1 hk e1 e2 H locs ls hH hS hl
  cases x with
  | none => rw [if_pos rfl] at hk; exact lv_ifnullN hx hb hd ht (kt h r h' c0 n0 c1 n1 hk e1 e2 H locs ls hH hS hl)
  | some a => rw [if_neg (by simp)] at hk; exact lv_ifnull hx hb hd (kf h r h' c0 n0 c1 n1 hk e1 e2 H locs ls hH hS hl)
theorem sm_ifnonnull (cx : Cx X cc own nL) {x : Option Nat} {off : Int} {tgt : Nat} {k1 k2 : Mo α} (hd : decode cc pc = .ok (.ifnonnull off, 3)) (ht : (pc : Int) + off = (tgt : Int)) (kt : Sim X nL Fi tgt lv st k2) (kf : Sim X nL Fi (pc + 3) lv st k1) : Sim X nL Fi pc lv (va_rf x :: st) (if x = none then k1 else k2) := by
  obtain ⟨p, l, e, R, s, m, args, below, meth, c, D, cy, A, Z⟩ := X
  obtain ⟨hx, hb, hml, hown, hts, hK, hA, hlk, hz⟩ := cx
  intro h r h' c0 n0 c1 n1 hk e1 e2 H locs ls hH hS hl
  cases x with
  | none => rw [if_pos rfl] at hk; exact lv_ifnonnullN hx hb hd (kf h r h' c0 n0 c1 n1 hk e1 e2 H locs ls hH hS hl)
  | some a => rw [if_neg (by simp)] at hk; exact lv_ifnonnull hx hb hd ht (kt h r h' c0 n0 c1 n1 hk e1 e2 H locs ls hH hS hl)
end LY
end
section
/-! ===== rows that touch the heap ===== -/
theorem one_P {D : va_G} {cl : List vw_C} {q : Nat × va_E} {H : Heap} (h : va_at D cl q H) : va_P D cl [q] H := by
  intro k x hk
  cases k with
  | zero => cases hk; exact h
  | succ k => simp at hk
theorem ob_some {ci : Nat} {r : Option Nat} {h : Hs} {a : Nat} {fs : List Value} (e : ob ci r h = some (a, fs)) : r = some a ∧ h.1 a = some (.inl (ci, fs)) := by
  unfold ob at e
  split at e
  · cases e
  · rename_i a'
    split at e
    · rename_i c' fs' e'
      split at e
      · rename_i hc
        subst hc
        cases e
        exact ⟨rfl, e'⟩
      · cases e
    · cases e
theorem gI_some {ci k : Nat} {r : Option Nat} {h h1 : Hs} {v : Int32} {c n : Nat} (e : gI ci k r h = some (v, h1, c, n)) : ∃ a fs, r = some a ∧ h.1 a = some (.inl (ci, fs)) ∧ fs[k]? = some (.int v) ∧ h1 = h ∧ c = 0 ∧ n = 0 := by
  unfold gI at e
  split at e
  · cases e
  · rename_i a fs e0
    obtain ⟨q1, q2⟩ := ob_some e0
    split at e
    · rename_i x ex
      cases e
      exact ⟨a, fs, q1, q2, ex, rfl, rfl, rfl⟩
    · cases e
theorem gL_some {ci k : Nat} {r : Option Nat} {h h1 : Hs} {v : Int64} {c n : Nat} (e : gL ci k r h = some (v, h1, c, n)) : ∃ a fs, r = some a ∧ h.1 a = some (.inl (ci, fs)) ∧ fs[k]? = some (.long v) ∧ h1 = h ∧ c = 0 ∧ n = 0 := by
  unfold gL at e
  split at e
  · cases e
  · rename_i a fs e0
    obtain ⟨q1, q2⟩ := ob_some e0
    split at e
    · rename_i x ex
      cases e
      exact ⟨a, fs, q1, q2, ex, rfl, rfl, rfl⟩
    · cases e
theorem gR_some {ci k : Nat} {r : Option Nat} {h h1 : Hs} {v : Option Nat} {c n : Nat} (e : gR ci k r h = some (v, h1, c, n)) : ∃ a fs, r = some a ∧ h.1 a = some (.inl (ci, fs)) ∧ fs[k]? = some (va_rf v) ∧ h1 = h ∧ c = 0 ∧ n = 0 := by
  unfold gR at e
  split at e
  · cases e
  · rename_i a fs e0
    obtain ⟨q1, q2⟩ := ob_some e0
    split at e
    · rename_i x ex
      cases e
      exact ⟨a, fs, q1, q2, ex, rfl, rfl, rfl⟩
    · rename_i ex
      cases e
      exact ⟨a, fs, q1, q2, ex, rfl, rfl, rfl⟩
    · cases e
theorem pV_some {ci k : Nat} {r : Option Nat} {x : Value} {h h1 : Hs} {v : Unit} {c n : Nat} (e : pV ci k r x h = some (v, h1, c, n)) : ∃ a fs, r = some a ∧ h.1 a = some (.inl (ci, fs)) ∧ k < fs.length ∧ ci ≠ 0 ∧ h1 = (va_up h.1 a (some (.inl (ci, fs.set k x))), h.2) ∧ c = 0 ∧ n = 0 := by
  unfold pV at e
  split at e
  · cases e
  · rename_i a fs e0
    obtain ⟨q1, q2⟩ := ob_some e0
    split at e
    · rename_i hc
      cases e
      exact ⟨a, fs, q1, q2, hc.1, hc.2, rfl, rfl, rfl⟩
    · cases e
theorem mo_some {α : Type} {ci : Nat} {r : Option Nat} {f : Mo α} {h : Hs} {y : α × Hs × Nat × Nat} (e : mo ci r f h = some y) : ∃ a fs, r = some a ∧ h.1 a = some (.inl (ci, fs)) ∧ f h = some y := by
  unfold mo at e
  split at e
  · cases e
  · rename_i z e0
    obtain ⟨a, fs⟩ := z
    obtain ⟨q1, q2⟩ := ob_some e0
    exact ⟨a, fs, q1, q2, e⟩
theorem ar_some {t : Nat} {r : Option Nat} {h : Hs} {a u : Nat} {x : vp_A} (e : ar t r h = some (a, u, x)) : r = some a ∧ h.1 a = some (.inr (u, x)) ∧ u % 10 = t := by
  unfold ar at e
  split at e
  · cases e
  · split at e
    · rename_i u' x' e'
      split at e
      · rename_i hc
        cases e
        exact ⟨rfl, e', hc⟩
      · cases e
    · cases e
theorem aI_some {t : Nat} {r : Option Nat} {i : Int32} {h h1 : Hs} {v : Int32} {c n : Nat} (e : aI t r i h = some (v, h1, c, n)) : ∃ a u N f, r = some a ∧ h.1 a = some (.inr (u, (N, .inl f))) ∧ u % 10 = t ∧ vp_in i N ∧ v = f i.toNatClampNeg ∧ h1 = h ∧ c = 0 ∧ n = 0 := by
  unfold aI at e
  split at e
  · rename_i a u N f e0
    obtain ⟨q1, q2, q3⟩ := ar_some e0
    split at e
    · cases e
    · rename_i hc
      cases e
      exact ⟨a, u, N, f, q1, q2, q3, hc, rfl, rfl, rfl, rfl⟩
  · cases e
theorem aL_some {r : Option Nat} {i : Int32} {h h1 : Hs} {v : Int64} {c n : Nat} (e : aL r i h = some (v, h1, c, n)) : ∃ a u N f, r = some a ∧ h.1 a = some (.inr (u, (N, .inr (.inl f)))) ∧ u % 10 = 2 ∧ vp_in i N ∧ v = f i.toNatClampNeg ∧ h1 = h ∧ c = 0 ∧ n = 0 := by
  unfold aL at e
  split at e
  · rename_i a u N f e0
    obtain ⟨q1, q2, q3⟩ := ar_some e0
    split at e
    · cases e
    · rename_i hc
      cases e
      exact ⟨a, u, N, f, q1, q2, q3, hc, rfl, rfl, rfl, rfl⟩
  · cases e
theorem aR_some {r : Option Nat} {i : Int32} {h h1 : Hs} {v : Option Nat} {c n : Nat} (e : aR r i h = some (v, h1, c, n)) : ∃ a u N f, r = some a ∧ h.1 a = some (.inr (u, (N, .inr (.inr (.inr (.inr f)))))) ∧ u % 10 = 4 ∧ vp_in i N ∧ v = f i.toNatClampNeg ∧ h1 = h ∧ c = 0 ∧ n = 0 := by
  unfold aR at e
  split at e
  · rename_i a u N f e0
    obtain ⟨q1, q2, q3⟩ := ar_some e0
    split at e
    · cases e
    · rename_i hc
      cases e
      exact ⟨a, u, N, f, q1, q2, q3, hc, rfl, rfl, rfl, rfl⟩
  · cases e
theorem aN_some {t : Nat} {r : Option Nat} {h h1 : Hs} {v : Int32} {c n : Nat} (e : aN t r h = some (v, h1, c, n)) : ∃ a u x, r = some a ∧ h.1 a = some (.inr (u, x)) ∧ u % 10 = t ∧ v = Int32.ofNat x.1 ∧ h1 = h ∧ c = 0 ∧ n = 0 := by
  unfold aN at e
  split at e
  · rename_i a u N f e0
    obtain ⟨q1, q2, q3⟩ := ar_some e0
    cases e
    exact ⟨a, u, (N, f), q1, q2, q3, rfl, rfl, rfl, rfl⟩
  · cases e
theorem sI_some {t : Nat} {r : Option Nat} {i x : Int32} {h h1 : Hs} {v : Unit} {c n : Nat} (e : sI t r i x h = some (v, h1, c, n)) : ∃ a N f, r = some a ∧ h.1 a = some (.inr (t, (N, .inl f))) ∧ t % 10 = t ∧ vp_in i N ∧ h1 = (va_up h.1 a (some (.inr (t, (N, .inl (upd f i.toNatClampNeg (kp t x)))))), h.2) ∧ c = 0 ∧ n = 0 := by
  unfold sI at e
  split at e
  · rename_i a u N f e0
    obtain ⟨q1, q2, q3⟩ := ar_some e0
    split at e
    · cases e
    · rename_i hc
      have hu : u = t := Decidable.byContradiction fun z => hc (Or.inr (Or.inr z))
      subst hu
      cases e
      exact ⟨a, N, f, q1, q2, q3, fun z => hc (z.elim Or.inl (fun z => Or.inr (Or.inl z))), rfl, rfl, rfl⟩
  · cases e
theorem sL_some {r : Option Nat} {i : Int32} {x : Int64} {h h1 : Hs} {v : Unit} {c n : Nat} (e : sL r i x h = some (v, h1, c, n)) : ∃ a N f, r = some a ∧ h.1 a = some (.inr (2, (N, .inr (.inl f)))) ∧ vp_in i N ∧ h1 = (va_up h.1 a (some (.inr (2, (N, .inr (.inl (vp_updL f i.toNatClampNeg x)))))), h.2) ∧ c = 0 ∧ n = 0 := by
  unfold sL at e
  split at e
  · rename_i a u N f e0
    obtain ⟨q1, q2, q3⟩ := ar_some e0
    split at e
    · cases e
    · rename_i hc
      have hu : u = 2 := Decidable.byContradiction fun z => hc (Or.inr (Or.inr z))
      subst hu
      cases e
      exact ⟨a, N, f, q1, q2, fun z => hc (z.elim Or.inl (fun z => Or.inr (Or.inl z))), rfl, rfl, rfl⟩
  · cases e
theorem sR_some {r : Option Nat} {i : Int32} {x : Option Nat} {h h1 : Hs} {v : Unit} {c n : Nat} (e : sR r i x h = some (v, h1, c, n)) : ∃ a N f, r = some a ∧ h.1 a = some (.inr (4, (N, .inr (.inr (.inr (.inr f)))))) ∧ vp_in i N ∧ (∀ b, x = some b → ∃ o, h.1 b = some (.inl o)) ∧ h1 = (va_up h.1 a (some (.inr (4, (N, .inr (.inr (.inr (.inr (va_up f i.toNatClampNeg x)))))))), h.2) ∧ c = 0 ∧ n = 0 := by
  unfold sR at e
  split at e
  · rename_i a u N f e0
    obtain ⟨q1, q2, q3⟩ := ar_some e0
    split at e
    · cases e
    · rename_i hc
      have hu : u = 4 := Decidable.byContradiction fun z => hc (Or.inr (Or.inr z))
      subst hu
      have hv : vp_in i N := fun z => hc (z.elim Or.inl (fun z => Or.inr (Or.inl z)))
      split at e
      · cases e
        exact ⟨a, N, f, q1, q2, hv, fun b hb => (by cases hb), rfl, rfl, rfl⟩
      · split at e
        · rename_i b o e1
          cases e
          exact ⟨a, N, f, q1, q2, hv, fun b' hb => (by cases hb; exact ⟨_, e1⟩), rfl, rfl, rfl⟩
        · cases e
  · cases e
/-- all that is fixed of a field's use: by which class, entry, of which class and place; its type; whether it is final -/
def FldOk (own : String) (i ci k : Nat) (ty : FieldType) (fin dc : Bool) : Prop := ∃ (C : String) (T : u_T) (N : Nat) (ref : String) (ty0 : Nat → FieldType), vwCl[ci]? = some (C, T, N) ∧ k < N ∧ (∀ w ∈ u_ws C T N, w ∈ TB) ∧ (∀ k, k < N → parseFieldDescriptor (T k).2.2.1 = some (ty0 k)) ∧ (∀ a, a < N → ∀ b, b < N → a ≠ b → (T a).2.1 ≠ (T b).2.1) ∧ Cond.fieldLink own i ref (T k).2.1 (T k).2.2.1 ∈ TB ∧ ((T k).1 = ref ∨ Cond.sameField ref (T k).1 (T k).2.1 (T k).2.2.1 ∈ TB) ∧ parseFieldDescriptor (T k).2.2.1 = some ty ∧ (T k).2.2.2 = fin ∧ (dc = true → (T k).1 = own)
section LH
variable {α : Type} {X : Cg} {nL : Nat} {Fi : α → Hs → State → Prop} {pc : Nat} {lv : List (Nat × Value)} {st : List Value} {k : Mo α} {cc : ByteArray} {own : String}
theorem hs_same {own : String} {i ci k : Nat} {ty : FieldType} {fin : Bool} {args : Array Value} {s : State} {ref : String} {T : u_T} (hts : ∀ w ∈ TB, w.before args s = true) (h : (T k).1 = ref ∨ Cond.sameField ref (T k).1 (T k).2.1 (T k).2.2.1 ∈ TB) : ∀ x, s.fieldFound? (T k).1 (T k).2.1 (T k).2.2.1 = some x → s.fieldFound? ref (T k).2.1 (T k).2.2.1 = some x := by
  intro x hx
  rcases h with h | h
  · rw [← h]; exact hx
  · exact u_same (hts _ h) x hx
/-- getfield, whatever the value -/
theorem sm_getV (cx : Cx X cc own nL) {i ci j : Nat} {ty : FieldType} {fin dc : Bool} {β : Type} {g : Mo β} {v : β → Value} {r : Option Nat} {K : β → Mo α} (hF : FldOk own i ci j ty fin dc) (hg : ∀ (h h1 : Hs) (b : β) (c n : Nat), g h = some (b, h1, c, n) → ∃ a fs, r = some a ∧ h.1 a = some (.inl (ci, fs)) ∧ fs[j]? = some (v b) ∧ h1 = h ∧ c = 0 ∧ n = 0) (hd : decode cc pc = .ok (.getfield i, 3)) (kk : ∀ b, Sim X nL Fi (pc + 3) lv (v b :: st) (K b)) : Sim X nL Fi pc lv (va_rf r :: st) (mb g K) := by
  obtain ⟨p, l, e, R, s, m, args, below, meth, c, D, cy, A, Z⟩ := X
  obtain ⟨hx, hb, hml, hown, hts, hK, hA, hlk, hz⟩ := cx
  intro h z h' c0 n0 c1 n1 hk e1 e2 H locs ls hH hS hl
  obtain ⟨b, h1, ca, na, cb, nb, k1, k2, rfl, rfl⟩ := mb_some hk
  obtain ⟨a, fs, rfl, ha, hv, rfl, rfl, rfl⟩ := hg _ _ _ _ _ k1
  obtain ⟨C, T, N, ref, ty0, f1, f2, f3, f4, f5, f6, f7, f8, f9, f10⟩ := hF
  refine va_get (C := C) (T := T) (N := N) (ref := ref) hx hb hts f3 hown hK (one_P (hH.2 a _ ha).1) 0 rfl f1 j f2 (hts _ f6) (hs_same (own := own) (i := i) (ci := ci) (ty := ty) (fin := fin) hts f7) hv hd ?_
  exact kk b h1 z h' c0 n0 cb nb k2 (by omega) (by omega) H locs ls hH hS hl
theorem sm_getI (cx : Cx X cc own nL) {i ci j : Nat} {ty : FieldType} {fin dc : Bool} {r : Option Nat} {K : Int32 → Mo α} (hF : FldOk own i ci j ty fin dc) (hd : decode cc pc = .ok (.getfield i, 3)) (kk : ∀ b, Sim X nL Fi (pc + 3) lv (.int b :: st) (K b)) : Sim X nL Fi pc lv (va_rf r :: st) (mb (gI ci j r) K) := sm_getV (v := fun b => .int b) cx hF (fun _ _ _ _ _ => gI_some) hd kk
theorem sm_getL (cx : Cx X cc own nL) {i ci j : Nat} {ty : FieldType} {fin dc : Bool} {r : Option Nat} {K : Int64 → Mo α} (hF : FldOk own i ci j ty fin dc) (hd : decode cc pc = .ok (.getfield i, 3)) (kk : ∀ b, Sim X nL Fi (pc + 3) lv (.long b :: st) (K b)) : Sim X nL Fi pc lv (va_rf r :: st) (mb (gL ci j r) K) := sm_getV (v := fun b => .long b) cx hF (fun _ _ _ _ _ => gL_some) hd kk
theorem sm_getR (cx : Cx X cc own nL) {i ci j : Nat} {ty : FieldType} {fin dc : Bool} {r : Option Nat} {K : Option Nat → Mo α} (hF : FldOk own i ci j ty fin dc) (hd : decode cc pc = .ok (.getfield i, 3)) (kk : ∀ b, Sim X nL Fi (pc + 3) lv (va_rf b :: st) (K b)) : Sim X nL Fi pc lv (va_rf r :: st) (mb (gR ci j r) K) := sm_getV (v := fun b => va_rf b) cx hF (fun _ _ _ _ _ => gR_some) hd kk
/-- putfield -/
theorem sm_putV (cx : Cx X cc own nL) {i ci j : Nat} {ty : FieldType} {dc : Bool} {v : Value} {r : Option Nat} {K : Mo α} (hF : FldOk own i ci j ty false dc) (hn : narrow ty v = v) (hfit : fits ty v = true) (hd : decode cc pc = .ok (.putfield i, 3)) (kk : Sim X nL Fi (pc + 3) lv st K) : Sim X nL Fi pc lv (v :: va_rf r :: st) (mb (pV ci j r v) (fun _ => K)) := by
  obtain ⟨p, l, e, R, s, m, args, below, meth, c, D, cy, A, Z⟩ := X
  obtain ⟨hx, hb, hml, hown, hts, hK, hA, hlk, hz⟩ := cx
  intro h z h' c0 n0 c1 n1 hk e1 e2 H locs ls hH hS hl
  obtain ⟨b, h1, ca, na, cb, nb, k1, k2, rfl, rfl⟩ := mb_some hk
  obtain ⟨a, fs, rfl, ha, hlen, hci, rfl, rfl, rfl⟩ := pV_some k1
  obtain ⟨C, T, N, ref, ty0, f1, f2, f3, f4, f5, f6, f7, f8, f9, f10⟩ := hF
  have hap := va_apart (own := own) hts f3 ty0 f4 f5 hK f1
  obtain ⟨⟨r', h1', cell, q1, q2, q3, q4⟩, hwr⟩ := hH.2 a _ ha
  have hr : r' = (C, T, N) := Option.some.inj (h1'.symm.trans f1)
  subst hr
  have hAa : A a := hwr (decide_eq_true hci)
  obtain ⟨hSl, hfc, kC, hkC, hkind⟩ := hK.1 ci _ f1
  obtain ⟨cf, kf, fi, f, hi, hsl⟩ := hSl j f2
  have hlay := hts _ (f3 _ (u_in_lay f2))
  unfold u_lay at hlay
  rw [if_neg (by rw [f9]; decide)] at hlay
  have hst := (u_facts hfc hkC (u_lays hts f3 f2) hi).1
  have h6 := u_store hfc hkC hkind hlay hi f8 hn hfit
  refine W.putK hx hb (f := f) ⟨hown, hts _ f6, ⟨_, _, _, hs_same (own := own) (i := i) (ci := ci) (ty := ty) (fin := false) hts f7 _ hi⟩, hst⟩ (by rw [q2]; exact h6) q1 q3 (by rw [hsl]; exact k2_hasslot (q4 j f2)) rfl rfl hd fun H' e3 e4 e5 => ?_
  rw [hsl] at e3 ⊢
  exact kk _ z h' c0 n0 cb nb k2 (by omega) (by omega) H' _ ls (hH.put hAa ⟨_, f1, t_OB.to (V := updV (vp_V fs) j v) ⟨_, e3, q2, q3, t_set q4 hap f2 v⟩ (fun q _ => vp_updV_set hlen v q)⟩ e4 e5) (hS.put e4 e5 hAa) hl
theorem sm_putF (cx : Cx X cc own nL) (hin : X.2.2.2.2.2.2.2.2.1.name = "<init>") {i ci j : Nat} {ty : FieldType} {v : Value} {r : Option Nat} {K : Mo α} (hF : FldOk own i ci j ty true true) (hn : narrow ty v = v) (hfit : fits ty v = true) (hd : decode cc pc = .ok (.putfield i, 3)) (kk : Sim X nL Fi (pc + 3) lv st K) : Sim X nL Fi pc lv (v :: va_rf r :: st) (mb (pV ci j r v) (fun _ => K)) := by
  obtain ⟨p, l, e, R, s, m, args, below, meth, c, D, cy, A, Z⟩ := X
  obtain ⟨hx, hb, hml, hown, hts, hK, hA, hlk, hz⟩ := cx
  intro h z h' c0 n0 c1 n1 hk e1 e2 H locs ls hH hS hl
  obtain ⟨b, h1, ca, na, cb, nb, k1, k2, rfl, rfl⟩ := mb_some hk
  obtain ⟨a, fs, rfl, ha, hlen, hci, rfl, rfl, rfl⟩ := pV_some k1
  obtain ⟨C, T, N, ref, ty0, f1, f2, f3, f4, f5, f6, f7, f8, f9, f10⟩ := hF
  have hap := va_apart (own := own) hts f3 ty0 f4 f5 hK f1
  obtain ⟨⟨r', h1', cell, q1, q2, q3, q4⟩, hwr⟩ := hH.2 a _ ha
  have hr : r' = (C, T, N) := Option.some.inj (h1'.symm.trans f1)
  subst hr
  have hAa : A a := hwr (decide_eq_true hci)
  obtain ⟨hSl, hfc, kC, hkC, hkind⟩ := hK.1 ci _ f1
  obtain ⟨cf, kf, fi, f, hi, hsl⟩ := hSl j f2
  have hlay := hts _ (f3 _ (u_in_lay f2))
  unfold u_lay at hlay
  rw [if_pos f9] at hlay
  have hst := (u_facts hfc hkC (u_lays hts f3 f2) hi).1
  have hcf : m.cls = cf := by
    obtain ⟨_, _, c', _, _, _, -, -, hf', -, -, -, hown2, -⟩ := Cond.laysFinal_spec hlay
    have e1 : c' = cf := by have := hi.symm.trans hf'; simp at this; exact this.1.symm
    rw [f10 rfl] at hown2
    rw [← e1]; exact Option.some.inj (hown.symm.trans hown2)
  have h6 := u_fits hfc hkC hkind (Or.inr hlay) hi f8 hn hfit
  refine W.putFinK hx hb hown (hts _ f6) (hs_same (own := own) (i := i) (ci := ci) (ty := ty) (fin := true) hts f7 _ hi) hst hcf hin (by rw [q2]; exact h6) q1 q3 (by rw [hsl]; exact k2_hasslot (q4 j f2)) rfl rfl hd fun H' e3 e4 e5 => ?_
  rw [hsl] at e3 ⊢
  exact kk _ z h' c0 n0 cb nb k2 (by omega) (by omega) H' _ ls (hH.put hAa ⟨_, f1, t_OB.to (V := updV (vp_V fs) j v) ⟨_, e3, q2, q3, t_set q4 hap f2 v⟩ (fun q _ => vp_updV_set hlen v q)⟩ e4 e5) (hS.put e4 e5 hAa) hl
end LH
end
section
/-! ===== arrays, new cells, casts ===== -/
theorem kp_byte (x : Int32) : kp 0 x = vp_nar .byte x := rfl
theorem kp_int (x : Int32) : kp 1 x = x := rfl
theorem kp_bool (x : Int32) : kp 3 x = x &&& 1 := rfl
theorem nr_rf {C : String} (r : Option Nat) : narrow (.object C) (va_rf r) = va_rf r := by cases r <;> rfl
theorem ft_rf {C : String} (r : Option Nat) : fits (.object C) (va_rf r) = true := by cases r <;> rfl
theorem nr_ra {t : FieldType} (r : Option Nat) : narrow (.array t) (va_rf r) = va_rf r := by cases r <;> rfl
theorem ft_ra {t : FieldType} (r : Option Nat) : fits (.array t) (va_rf r) = true := by cases r <;> rfl
/-- a truth value is written into a field -/
def pZ (ci k : Nat) (r : Option Nat) (x : Int32) : Mo Unit := if x = 0 ∨ x = 1 then pV ci k r (.int x) else mf
def ck (ci : Nat) (r : Option Nat) : Mo Unit := fun h => match r with
  | none => some ((), h, 0, 0)
  | some _ => match ob ci r h with
    | none => none
    | some _ => some ((), h, 0, 0)
section LC
variable {α : Type} {X : Cg} {nL : Nat} {Fi : α → Hs → State → Prop} {pc : Nat} {lv : List (Nat × Value)} {st : List Value} {k : Mo α} {cc : ByteArray} {own : String}
theorem sm_putZ (cx : Cx X cc own nL) {i ci j : Nat} {x : Int32} {dc : Bool} {r : Option Nat} {K : Mo α} (hF : FldOk own i ci j .boolean false dc) (hd : decode cc pc = .ok (.putfield i, 3)) (kk : Sim X nL Fi (pc + 3) lv st K) : Sim X nL Fi pc lv (.int x :: va_rf r :: st) (mb (pZ ci j r x) (fun _ => K)) := by
  by_cases hx : x = 0 ∨ x = 1
  · rw [show pZ ci j r x = pV ci j r (.int x) from if_pos hx]
    rcases hx with rfl | rfl
    · exact sm_putV cx hF rfl rfl hd kk
    · exact sm_putV cx hF rfl rfl hd kk
  · rw [show pZ ci j r x = mf from if_neg hx]
    obtain ⟨p, l, e, R, s, m, args, below, meth, c, D, cy, A, Z⟩ := X
    intro h z h' c0 n0 c1 n1 hk
    cases hk
theorem sm_putFZ (cx : Cx X cc own nL) (hin : X.2.2.2.2.2.2.2.2.1.name = "<init>") {i ci j : Nat} {x : Int32} {r : Option Nat} {K : Mo α} (hF : FldOk own i ci j .boolean true true) (hd : decode cc pc = .ok (.putfield i, 3)) (kk : Sim X nL Fi (pc + 3) lv st K) : Sim X nL Fi pc lv (.int x :: va_rf r :: st) (mb (pZ ci j r x) (fun _ => K)) := by
  by_cases hx : x = 0 ∨ x = 1
  · rw [show pZ ci j r x = pV ci j r (.int x) from if_pos hx]
    rcases hx with rfl | rfl
    · exact sm_putF cx hin hF rfl rfl hd kk
    · exact sm_putF cx hin hF rfl rfl hd kk
  · rw [show pZ ci j r x = mf from if_neg hx]
    obtain ⟨p, l, e, R, s, m, args, below, meth, c, D, cy, A, Z⟩ := X
    intro h z h' c0 n0 c1 n1 hk
    cases hk
theorem hs_u (cy : Nat → ClassId) {u t : Nat} (h : u % 10 = t) (x : vp_A) : ce_e cy (.inr (u, x)) = .inl (cy t, x) := by rw [← h]; rfl
theorem sm_iald (cx : Cx X cc own nL) {r : Option Nat} {i : Int32} {K : Int32 → Mo α} (hd : decode cc pc = .ok (.iaload, 1)) (kk : ∀ b, Sim X nL Fi (pc + 1) lv (.int b :: st) (K b)) : Sim X nL Fi pc lv (.int i :: va_rf r :: st) (mb (aI 1 r i) K) := by
  obtain ⟨p, l, e, R, s, m, args, below, meth, c, D, cy, A, Z⟩ := X
  obtain ⟨hx, hb, hml, hown, hts, hK, hA, hlk, hz⟩ := cx
  intro h z h' c0 n0 c1 n1 hk e1 e2 H locs ls hH hS hl
  obtain ⟨b, h1, ca, na, cb, nb, k1, k2, rfl, rfl⟩ := mb_some hk
  obtain ⟨a, u, N, f, rfl, ha, hu, hin, rfl, rfl, rfl, rfl⟩ := aI_some k1
  have hP := (hH.2 a _ ha).1
  rw [hs_u cy hu] at hP
  refine va_iald hx hb hK (one_P hP) 0 1 rfl rfl hin hd ?_
  exact kk _ h1 z h' c0 n0 cb nb k2 (by omega) (by omega) H locs ls hH hS hl
theorem sm_bald (cx : Cx X cc own nL) {r : Option Nat} {i : Int32} {K : Int32 → Mo α} (hd : decode cc pc = .ok (.baload, 1)) (kk : ∀ b, Sim X nL Fi (pc + 1) lv (.int b :: st) (K b)) : Sim X nL Fi pc lv (.int i :: va_rf r :: st) (mb (aI 0 r i) K) := by
  obtain ⟨p, l, e, R, s, m, args, below, meth, c, D, cy, A, Z⟩ := X
  obtain ⟨hx, hb, hml, hown, hts, hK, hA, hlk, hz⟩ := cx
  intro h z h' c0 n0 c1 n1 hk e1 e2 H locs ls hH hS hl
  obtain ⟨b, h1, ca, na, cb, nb, k1, k2, rfl, rfl⟩ := mb_some hk
  obtain ⟨a, u, N, f, rfl, ha, hu, hin, rfl, rfl, rfl, rfl⟩ := aI_some k1
  have hP := (hH.2 a _ ha).1
  rw [hs_u cy hu] at hP
  refine va_bald hx hb hK (one_P hP) 0 0 rfl rfl hin hd ?_
  exact kk _ h1 z h' c0 n0 cb nb k2 (by omega) (by omega) H locs ls hH hS hl
theorem sm_zald (cx : Cx X cc own nL) {r : Option Nat} {i : Int32} {K : Int32 → Mo α} (hd : decode cc pc = .ok (.baload, 1)) (kk : ∀ b, Sim X nL Fi (pc + 1) lv (.int b :: st) (K b)) : Sim X nL Fi pc lv (.int i :: va_rf r :: st) (mb (aI 3 r i) K) := by
  obtain ⟨p, l, e, R, s, m, args, below, meth, c, D, cy, A, Z⟩ := X
  obtain ⟨hx, hb, hml, hown, hts, hK, hA, hlk, hz⟩ := cx
  intro h z h' c0 n0 c1 n1 hk e1 e2 H locs ls hH hS hl
  obtain ⟨b, h1, ca, na, cb, nb, k1, k2, rfl, rfl⟩ := mb_some hk
  obtain ⟨a, u, N, f, rfl, ha, hu, hin, rfl, rfl, rfl, rfl⟩ := aI_some k1
  have hP := (hH.2 a _ ha).1
  rw [hs_u cy hu] at hP
  refine va_zald hx hb hK (one_P hP) 0 3 rfl rfl hin hd ?_
  exact kk _ h1 z h' c0 n0 cb nb k2 (by omega) (by omega) H locs ls hH hS hl
theorem sm_lald (cx : Cx X cc own nL) {r : Option Nat} {i : Int32} {K : Int64 → Mo α} (hd : decode cc pc = .ok (.laload, 1)) (kk : ∀ b, Sim X nL Fi (pc + 1) lv (.long b :: st) (K b)) : Sim X nL Fi pc lv (.int i :: va_rf r :: st) (mb (aL r i) K) := by
  obtain ⟨p, l, e, R, s, m, args, below, meth, c, D, cy, A, Z⟩ := X
  obtain ⟨hx, hb, hml, hown, hts, hK, hA, hlk, hz⟩ := cx
  intro h z h' c0 n0 c1 n1 hk e1 e2 H locs ls hH hS hl
  obtain ⟨b, h1, ca, na, cb, nb, k1, k2, rfl, rfl⟩ := mb_some hk
  obtain ⟨a, u, N, f, rfl, ha, hu, hin, rfl, rfl, rfl, rfl⟩ := aL_some k1
  have hP := (hH.2 a _ ha).1
  rw [hs_u cy hu] at hP
  refine va_lald hx hb hK (one_P hP) 0 2 rfl rfl hin hd ?_
  exact kk _ h1 z h' c0 n0 cb nb k2 (by omega) (by omega) H locs ls hH hS hl
theorem sm_aald (cx : Cx X cc own nL) {r : Option Nat} {i : Int32} {K : Option Nat → Mo α} (hd : decode cc pc = .ok (.aaload, 1)) (kk : ∀ b, Sim X nL Fi (pc + 1) lv (va_rf b :: st) (K b)) : Sim X nL Fi pc lv (.int i :: va_rf r :: st) (mb (aR r i) K) := by
  obtain ⟨p, l, e, R, s, m, args, below, meth, c, D, cy, A, Z⟩ := X
  obtain ⟨hx, hb, hml, hown, hts, hK, hA, hlk, hz⟩ := cx
  intro h z h' c0 n0 c1 n1 hk e1 e2 H locs ls hH hS hl
  obtain ⟨b, h1, ca, na, cb, nb, k1, k2, rfl, rfl⟩ := mb_some hk
  obtain ⟨a, u, N, f, rfl, ha, hu, hin, rfl, rfl, rfl, rfl⟩ := aR_some k1
  have hP := (hH.2 a _ ha).1
  rw [hs_u cy hu] at hP
  refine va_aldq (C := "java/lang/Object") hx hb hK (one_P hP) 0 4 rfl rfl hin hd ?_
  exact kk _ h1 z h' c0 n0 cb nb k2 (by omega) (by omega) H locs ls hH hS hl
theorem tys_at (cy : Nat → ClassId) {t : Nat} (h : t < 5) : ∃ ty, (tysA cy)[t]? = some (cy t, ty) := by
  match t, h with
  | 0, _ => exact ⟨_, rfl⟩
  | 1, _ => exact ⟨_, rfl⟩
  | 2, _ => exact ⟨_, rfl⟩
  | 3, _ => exact ⟨_, rfl⟩
  | 4, _ => exact ⟨_, rfl⟩
theorem sm_alen (cx : Cx X cc own nL) (t : Nat) (ht : t < 5) {r : Option Nat} {K : Int32 → Mo α} (hd : decode cc pc = .ok (.arraylength, 1)) (kk : ∀ b, Sim X nL Fi (pc + 1) lv (.int b :: st) (K b)) : Sim X nL Fi pc lv (va_rf r :: st) (mb (aN t r) K) := by
  obtain ⟨p, l, e, R, s, m, args, below, meth, c, D, cy, A, Z⟩ := X
  obtain ⟨hx, hb, hml, hown, hts, hK, hA, hlk, hz⟩ := cx
  intro h z h' c0 n0 c1 n1 hk e1 e2 H locs ls hH hS hl
  obtain ⟨b, h1, ca, na, cb, nb, k1, k2, rfl, rfl⟩ := mb_some hk
  obtain ⟨a, u, x, rfl, ha, hu, rfl, rfl, rfl, rfl⟩ := aN_some k1
  have hP := (hH.2 a _ ha).1
  rw [hs_u cy hu] at hP
  obtain ⟨ty, hty⟩ := tys_at cy ht
  refine va_alen hx hb hK (one_P hP) 0 t rfl hty rfl hd ?_
  exact kk _ h1 z h' c0 n0 cb nb k2 (by omega) (by omega) H locs ls hH hS hl
theorem arr_put {cA : ClassId} {N : Nat} {f : Nat → Int32} {i : Nat} {x : Int32} : (arrV cA N (fun j => .int (f j))).setSlot i (.int x) = arrV cA N (fun j => .int (upd f i x j)) := by
  rw [arrV_store]
  congr 1
  funext q
  by_cases hq : q = i
  · subst hq; simp [updV, upd]
  · simp [updV, upd, hq]
theorem sm_iast (cx : Cx X cc own nL) {r : Option Nat} {i x : Int32} {K : Mo α} (hd : decode cc pc = .ok (.iastore, 1)) (kk : Sim X nL Fi (pc + 1) lv st K) : Sim X nL Fi pc lv (.int x :: .int i :: va_rf r :: st) (mb (sI 1 r i x) (fun _ => K)) := by
  obtain ⟨p, l, e, R, s, m, args, below, meth, c, D, cy, A, Z⟩ := X
  obtain ⟨hx, hb, hml, hown, hts, hK, hA, hlk, hz⟩ := cx
  intro h z h' c0 n0 c1 n1 hk e1 e2 H locs ls hH hS hl
  obtain ⟨b, h1, ca, na, cb, nb, k1, k2, rfl, rfl⟩ := mb_some hk
  obtain ⟨a, N, f, rfl, ha, hu, hin, rfl, rfl, rfl⟩ := sI_some k1
  obtain ⟨hP, hw⟩ := hH.2 a _ ha
  have hAa : A a := hw rfl
  refine W.iast hx hb hP ((hK.2 1 _ rfl).1 N (fun j => .int (f j))) (fun q => by cases q) (by show ¬ (i < 0 ∨ (arrV _ _ _).slots.size ≤ _); rw [arrV_size]; exact hin) rfl rfl hd fun H1 e3 e4 e5 => ?_
  refine kk _ z h' c0 n0 cb nb k2 (by omega) (by omega) H1 _ ls (hH.put hAa ?_ e4 e5) (hS.put e4 e5 hAa) hl
  show H1[a]? = some (vp_cell _ _)
  rw [e3, vp_cell_i, vp_cell_i, arr_put, kp_int]
theorem sm_bast (cx : Cx X cc own nL) {r : Option Nat} {i x : Int32} {K : Mo α} (hd : decode cc pc = .ok (.bastore, 1)) (kk : Sim X nL Fi (pc + 1) lv st K) : Sim X nL Fi pc lv (.int x :: .int i :: va_rf r :: st) (mb (sI 0 r i x) (fun _ => K)) := by
  obtain ⟨p, l, e, R, s, m, args, below, meth, c, D, cy, A, Z⟩ := X
  obtain ⟨hx, hb, hml, hown, hts, hK, hA, hlk, hz⟩ := cx
  intro h z h' c0 n0 c1 n1 hk e1 e2 H locs ls hH hS hl
  obtain ⟨b, h1, ca, na, cb, nb, k1, k2, rfl, rfl⟩ := mb_some hk
  obtain ⟨a, N, f, rfl, ha, hu, hin, rfl, rfl, rfl⟩ := sI_some k1
  obtain ⟨hP, hw⟩ := hH.2 a _ ha
  have hAa : A a := hw rfl
  refine W.bast hx hb hP ((hK.2 0 _ rfl).1 N (fun j => .int (f j))) (fun q => by cases q) (by show ¬ (i < 0 ∨ (arrV _ _ _).slots.size ≤ _); rw [arrV_size]; exact hin) rfl rfl hd fun H1 e3 e4 e5 => ?_
  refine kk _ z h' c0 n0 cb nb k2 (by omega) (by omega) H1 _ ls (hH.put hAa ?_ e4 e5) (hS.put e4 e5 hAa) hl
  show H1[a]? = some (vp_cell _ _)
  rw [e3, vp_cell_i, vp_cell_i, kp_byte, ← arr_put]
  rfl
theorem sm_zast (cx : Cx X cc own nL) {r : Option Nat} {i x : Int32} {K : Mo α} (hd : decode cc pc = .ok (.bastore, 1)) (kk : Sim X nL Fi (pc + 1) lv st K) : Sim X nL Fi pc lv (.int x :: .int i :: va_rf r :: st) (mb (sI 3 r i x) (fun _ => K)) := by
  obtain ⟨p, l, e, R, s, m, args, below, meth, c, D, cy, A, Z⟩ := X
  obtain ⟨hx, hb, hml, hown, hts, hK, hA, hlk, hz⟩ := cx
  intro h z h' c0 n0 c1 n1 hk e1 e2 H locs ls hH hS hl
  obtain ⟨b, h1, ca, na, cb, nb, k1, k2, rfl, rfl⟩ := mb_some hk
  obtain ⟨a, N, f, rfl, ha, hu, hin, rfl, rfl, rfl⟩ := sI_some k1
  obtain ⟨hP, hw⟩ := hH.2 a _ ha
  have hAa : A a := hw rfl
  refine W.zast hx hb hP ((hK.2 3 _ rfl).1 N (fun j => .int (f j))) (fun q => by cases q) (by show ¬ (i < 0 ∨ (arrV _ _ _).slots.size ≤ _); rw [arrV_size]; exact hin) rfl rfl hd fun H1 e3 e4 e5 => ?_
  refine kk _ z h' c0 n0 cb nb k2 (by omega) (by omega) H1 _ ls (hH.put hAa ?_ e4 e5) (hS.put e4 e5 hAa) hl
  show H1[a]? = some (vp_cell _ _)
  rw [e3, vp_cell_i, vp_cell_i, kp_bool, ← arr_put]
  rfl
theorem sm_last (cx : Cx X cc own nL) {r : Option Nat} {i : Int32} {x : Int64} {K : Mo α} (hd : decode cc pc = .ok (.lastore, 1)) (kk : Sim X nL Fi (pc + 1) lv st K) : Sim X nL Fi pc lv (.long x :: .int i :: va_rf r :: st) (mb (sL r i x) (fun _ => K)) := by
  obtain ⟨p, l, e, R, s, m, args, below, meth, c, D, cy, A, Z⟩ := X
  obtain ⟨hx, hb, hml, hown, hts, hK, hA, hlk, hz⟩ := cx
  intro h z h' c0 n0 c1 n1 hk e1 e2 H locs ls hH hS hl
  obtain ⟨b, h1, ca, na, cb, nb, k1, k2, rfl, rfl⟩ := mb_some hk
  obtain ⟨a, N, f, rfl, ha, hin, rfl, rfl, rfl⟩ := sL_some k1
  obtain ⟨hP, hw⟩ := hH.2 a _ ha
  have hAa : A a := hw rfl
  refine W.last hx hb hP ((hK.2 2 _ rfl).1 N (fun j => .long (f j))) (fun q => by cases q) (by show ¬ (i < 0 ∨ (arrV _ _ _).slots.size ≤ _); rw [arrV_size]; exact hin) rfl rfl hd fun H1 e3 e4 e5 => ?_
  refine kk _ z h' c0 n0 cb nb k2 (by omega) (by omega) H1 _ ls (hH.put hAa ?_ e4 e5) (hS.put e4 e5 hAa) hl
  show H1[a]? = some (vp_cell _ _)
  rw [e3, vp_cell_l, vp_cell_l, arrV_store]
  congr 2
  funext q
  by_cases hq : q = i.toNatClampNeg
  · subst hq; simp [updV, vp_updL]
  · simp [updV, vp_updL, hq]
/-- what is fixed of a 'new' -/
def NewOk (own : String) (i ci : Nat) (fs : List Value) : Prop := ∃ (C : String) (T : u_T) (ty : Nat → FieldType), vwCl[ci]? = some (C, T, fs.length) ∧ (∀ w ∈ u_ws C T fs.length, w ∈ TB) ∧ (∀ k, k < fs.length → parseFieldDescriptor (T k).2.2.1 = some (ty k)) ∧ Cond.classLink own i C ∈ TB ∧ Cond.instantiable C fs.length ∈ TB ∧ Cond.initialized C ∈ TB ∧ (∀ j, j < fs.length → defaultValue (ty j) = vp_V fs j)
theorem sm_new (cx : Cx X cc own nL) {i ci : Nat} {fs : List Value} {K : Option Nat → Mo α} (hN : NewOk own i ci fs) (hd : decode cc pc = .ok (.new i, 3)) (kk : ∀ b, Sim X nL Fi (pc + 3) lv (va_rf b :: st) (K b)) : Sim X nL Fi pc lv st (mb (nO ci fs) K) := by
  obtain ⟨p, l, e, R, s, m, args, below, meth, c, D, cy, A, Z⟩ := X
  obtain ⟨hx, hb, hml, hown, hts, hK, hA, hlk, hz⟩ := cx
  intro h z h' c0 n0 c1 n1 hk e1 e2 H locs ls hH hS hl
  obtain ⟨b, h1, ca, na, cb, nb, k1, k2, rfl, rfl⟩ := mb_some hk
  cases k1
  obtain ⟨C, T, ty, f1, f2, f3, f4, f5, f6, f7⟩ := hN
  have hKn := hK.1 ci _ f1
  have hz := hH.1
  refine W.newcK hx hb hown (hts _ f4) (hts _ f5) (hts _ f6) rfl hd (by omega) (by omega) hKn.2.1 rfl fun H1 kC hkC e3 e4 e5 => ?_
  refine W.eq (g2 := F0 m (pc + 3) ls (va_rf (some h.2) :: st)) (by rw [← hz]; rfl) ?_
  refine kk _ _ z h' (c0 + 1) (n0 + fs.length) cb nb k2 (by omega) (by omega) H1 locs ls (hH.push (hA _ hS.1) ?_ e4 e5) ?_ hl
  · exact ⟨_, f1, (u_born ty hts f2 hKn hkC e3 f3).to f7⟩
  · exact ⟨Nat.le_trans hS.1 (by omega), fun x h1 h2 => (e5 x (Nat.lt_of_lt_of_le h1 hS.1)).trans (hS.2.1 x h1 h2), hS.2.2⟩
/-- a new array of kind t -/
def atyp (t : Nat) : ArrayType := if t = 0 then .byte else if t = 1 then .int else if t = 2 then .long else .boolean
theorem sm_newa (cx : Cx X cc own nL) (t : Nat) {at0 : ArrayType} {ty : FieldType} {i : Int32} {K : Option Nat → Mo α} (hty : newarray.typeOf at0 = ty) (htys : ∀ cy : Nat → ClassId, (tysA cy)[t]? = some (cy t, ty)) (ht : t % 10 = t) (hcell : ∀ (cA : ClassId) (N : Nat), vp_cell cA (N, z0 t) = arrV cA N (fun _ => defaultValue ty)) (hnm : ∀ (s : State) (cA : ClassId), va_RA s cA ty → s.vm.findClass ("[" ++ ty.toString) = some cA) (hby : componentBytes ty ≤ 8) (hw : Cond.arrayClass (newarray.typeOf at0) ∈ TB) (hd : decode cc pc = .ok (.newarray at0, 2)) (kk : ∀ b, Sim X nL Fi (pc + 2) lv (va_rf b :: st) (K b)) : Sim X nL Fi pc lv (.int i :: st) (mb (nA t i) K) := by
  obtain ⟨p, l, e, R, s, m, args, below, meth, c, D, cy, A, Z⟩ := X
  obtain ⟨hx, hb, hml, hown, hts, hK, hA, hlk, hz⟩ := cx
  intro h z h' c0 n0 c1 n1 hk e1 e2 H locs ls hH hS hl
  obtain ⟨b, h1, ca, na, cb, nb, k1, k2, rfl, rfl⟩ := mb_some hk
  unfold nA at k1
  split at k1
  · cases k1
  · rename_i hc
    cases k1
    have hz := hH.1
    have hn : ¬ i < 0 := fun q => hc (Or.inl q)
    have hlim : i.toNatClampNeg ≤ 1000000 := Nat.not_lt.mp fun q => hc (Or.inr q)
    subst hty
    refine va_newaK hx hb (hts _ hw) rfl hd rfl hn rfl (Nat.le_trans (Nat.mul_le_mul hlim hby) (by decide)) (by omega) (by omega) rfl fun H1 cA e3 e4 e5 hAr hNm => ?_
    have hcA : cA = cy t := Option.some.inj (hNm.symm.trans (hnm s (cy t) (hK.2 t _ (htys cy)).2))
    subst hcA
    refine W.eq (g2 := F0 m (pc + 2) ls (va_rf (some h.2) :: st)) (by rw [← hz]; rfl) ?_
    refine kk _ _ z h' (c0 + 1) (n0 + i.toNatClampNeg) cb nb k2 (by omega) (by omega) H1 locs ls (hH.push (hA _ hS.1) ?_ e4 e5) ?_ hl
    · rw [hs_u cy ht]
      show H1[H.size]? = some (vp_cell _ _)
      rw [hcell]
      exact e3
    · exact ⟨Nat.le_trans hS.1 (by omega), fun x h1 h2 => (e5 x (Nat.lt_of_lt_of_le h1 hS.1)).trans (hS.2.1 x h1 h2), hS.2.2⟩
end LC
end
section
/-! ===== contracts, calls, returns ===== -/
def vI (x : Int32) : Option Value := some (.int x)
def vL (x : Int64) : Option Value := some (.long x)
def vR (x : Option Nat) : Option Value := some (va_rf x)
def vV (_ : Unit) : Option Value := none
abbrev xR (X : Cg) : Room := X.2.2.2.1
abbrev xM (X : Cg) : Method := X.2.2.2.2.2.2.2.2.1
abbrev xZ (X : Cg) : Nat → Nat := X.2.2.2.2.2.2.2.2.2.2.2.2.2
def PreU (D : va_G) (cy : Nat → ClassId) (A : Nat → Prop) (Z : Nat → Nat) (h : Hs) (U : State) : Prop := HW D cy A h U.heap ∧ va_K D vwCl (tysA cy) U ∧ (∀ q, U.heap.size ≤ q → A q) ∧ ZS Z A U U.heap
def QvC (D : va_G) (cy : Nat → ClassId) (A : Nat → Prop) (v : Option Value) (h' : Hs) : Array Value → State → Outcome → State → Prop := fun _ st o t => o = .returned v ∧ HW D cy A h' t.heap ∧ va_F A st t
/-- a method's contract: what its program does, the method does -/
def Ct {β : Type} (y : MethodName) (cc : ByteArray) (maxL : Nat) (ret : Option FieldType) (fr lo : Nat) (Z : Nat → Nat) (av : List Value) (toV : β → Option Value) (f : Mo β) : Prop :=
  ∀ (l : Launch) (D : va_G) (cy : Nat → ClassId) (A : Nat → Prop) (h : Hs) (r : β) (h' : Hs) (c n : Nat), f h = some (r, h', c, n) → Met l y (.code y cc maxL ret :: TB) { frames := fr, cells := c, slots := n, locals := lo } (va_Pc av (PreU D cy A Z h)) (QvC D cy A (toV r) h') c n A
def FiM {β : Type} (X : Cg) (toV : β → Option Value) : β → Hs → State → Prop := match X with
  | (_, _, _, R, s, _, args, below, _, _, D, cy, A, _) => fun r h' => MQ below (QvC D cy A (toV r) h') args s R.cells R.slots A
theorem ct_of {β : Type} {y : MethodName} {cc : ByteArray} {maxL : Nat} {ret : Option FieldType} {fr lo : Nat} {Z : Nat → Nat} {av : List Value} {lv0 : List (Nat × Value)} {toV : β → Option Value} {f : Mo β} (hy : plainName y.cls = true) (hlen : (lg_sl av).length ≤ maxL) (hlv : lv_args 0 av = lv0)
    (hs : ∀ X : Cg, Cx X cc y.cls maxL → xZ X = Z → (xR X).frames = fr → (xR X).locals = lo → (xM X).sig.returnType = ret → (xM X).name = y.name → Sim X maxL (FiM X toV) 0 lv0 [] f) : Ct y cc maxL ret fr lo Z av toV f := by
  intro l D cy A h r h' c n hf
  refine Met.ofW (cc := cc) (maxL := maxL) (ret := ret) hy rfl ?_
  intro p e s m args below meth c' s₁ B hml hv
  obtain ⟨rfl, hH, hK, hA, hz⟩ := hv
  have hts : ∀ w ∈ TB, w.before av.toArray s = true := fun w hw => atoms_spec (ws := Cond.code y cc maxL ret :: TB) B.pre w (List.mem_cons_of_mem _ hw)
  have hown : s.vm.findClass y.cls = some m.cls := findClass_of_methodNamed B.named
  have hin : meth.name = y.name := (name_of_methodNamed B.named B.method).1
  have hl := lv_entry av (n := maxL) hlen
  rw [hlv] at hl
  rw [lg_entry_eq]
  exact hs (p, l, e, { frames := fr, cells := c, slots := n, locals := lo }, s, m, av.toArray, below, meth, c', D, cy, A, Z) ⟨B.exec, B.bytes, hml, hown, hts, hK, hA, B.notSynchronized, hz⟩ rfl rfl rfl B.returns hin h r h' 0 0 c n hf (Nat.zero_add c) (Nat.zero_add n) s.heap [] _ hH va_S.rf hl
theorem fb_pre {av : List Value} {D : va_G} {cy : Nat → ClassId} {A : Nat → Prop} {Z : Nat → Nat} {h : Hs} : FrameBlind (va_Pc av (PreU D cy A Z h)) := by
  intro a U g mk q
  obtain ⟨q0, q1, q2, q3, q4⟩ := q
  exact ⟨q0, q1, va_K.moved (u := U) (U := U.calling g mk a) (Vm.Alike.refl U.vm) q2, q3, ZS.moved (s := U) (U := U.calling g mk a) (State.WarmedH.refl U) q4⟩
theorem wd_V {own C : String} {i maxL : Nat} {y : MethodName} {bytes : ByteArray} {ret : Option FieldType} (h1 : Cond.methodLink own i y ∈ TB) (h2 : Cond.instanceMethod y ∈ TB) (h3 : Cond.selects C y y ∈ TB) (h4 : Cond.initialized C ∈ TB) (h5 : Cond.code y bytes maxL ret ∈ TB) : GoodIn TB (wsV own i C y (Cond.code y bytes maxL ret :: TB)) := by
  intro w hw
  have g : ∀ w ∈ TB, w ∈ TB ∧ ((w.onTables && w.keeps) = true ∨ ∃ ty, w = .arrayClass ty) := fun w h => ⟨h, good_of_word (tb_good _ h).2⟩
  rcases List.mem_append.mp hw with hw | hw
  · rcases List.mem_cons.mp hw with rfl | hw
    · exact g _ h1
    rcases List.mem_cons.mp hw with rfl | hw
    · exact g _ h2
    rcases List.mem_cons.mp hw with rfl | hw
    · exact g _ h3
    rcases List.mem_cons.mp hw with rfl | hw
    · exact g _ h4
    cases hw
  · exact tb_call h5 w hw
theorem wd_S {own : String} {i maxL : Nat} {y : MethodName} {bytes : ByteArray} {ret : Option FieldType} (h1 : Cond.methodLink own i y ∈ TB) (h2 : Cond.static y ∈ TB) (h4 : Cond.initialized y.cls ∈ TB) (h5 : Cond.code y bytes maxL ret ∈ TB) : GoodIn TB (va_wsS own i y (Cond.code y bytes maxL ret :: TB)) := by
  intro w hw
  have g : ∀ w ∈ TB, w ∈ TB ∧ ((w.onTables && w.keeps) = true ∨ ∃ ty, w = .arrayClass ty) := fun w h => ⟨h, good_of_word (tb_good _ h).2⟩
  rcases List.mem_append.mp hw with hw | hw
  · rcases List.mem_cons.mp hw with rfl | hw
    · exact g _ h1
    rcases List.mem_cons.mp hw with rfl | hw
    · exact g _ h2
    rcases List.mem_cons.mp hw with rfl | hw
    · exact g _ h4
    cases hw
  · exact tb_call h5 w hw
/-- what is fixed of a call -/
def CalV (own : String) (i : Nat) (C : String) (y : MethodName) (bytes : ByteArray) (maxL : Nat) (ret : Option FieldType) (n : Nat) : Prop := GoodIn TB (wsV own i C y (Cond.code y bytes maxL ret :: TB)) ∧ y.cls = C ∧ y.cls ≠ "java/lang/invoke/MethodHandle" ∧ y.cls ≠ "java/lang/invoke/VarHandle" ∧ (parseMethodDescriptor y.desc).map (fun d => d.parameters.length) = some n
def CalS (own : String) (i : Nat) (y : MethodName) (bytes : ByteArray) (maxL : Nat) (ret : Option FieldType) (n : Nat) : Prop := GoodIn TB (va_wsS own i y (Cond.code y bytes maxL ret :: TB)) ∧ y.cls ≠ "java/lang/invoke/MethodHandle" ∧ y.cls ≠ "java/lang/invoke/VarHandle" ∧ (parseMethodDescriptor y.desc).map (fun d => d.parameters.length) = some n
def CalI (own : String) (i : Nat) (y : MethodName) (bytes : ByteArray) (maxL : Nat) (n : Nat) : Prop := (Cond.initialized y.cls ∈ TB ∧ Cond.instanceMethod y ∈ TB ∧ Cond.code y bytes maxL none ∈ TB) ∧ (Cond.methodLink own i y ∈ TB ∨ ∃ host, Cond.methodLinkNest own i y host ∈ nwL) ∧ y.name = "<init>" ∧ y.cls ≠ "java/lang/invoke/MethodHandle" ∧ y.cls ≠ "java/lang/invoke/VarHandle" ∧ (parseMethodDescriptor y.desc).map (fun d => d.parameters.length) = some n
section LD
variable {α : Type} {X : Cg} {nL : Nat} {Fi : α → Hs → State → Prop} {pc : Nat} {lv : List (Nat × Value)} {st stk : List Value} {k : Mo α} {cc : ByteArray} {own : String}
/-- behind a call -/
theorem cg_back {p : Program} {l : Launch} {e : Env} {R : Room} {s : State} {m : MethodId} {args : Array Value} {below : List Frame} {meth : Method} {c : Code} {H : Heap} {locs : List Loc} {cells slots mc ms : Nat} {Q : State → Prop} {D : va_G} {cy : Nat → ClassId} {A : Nat → Prop} {ls : Array Slot} {v : Option Value} {h1 : Hs} {a : Array Value}
    (hr : va_Run p l e R s m args below meth c H locs cells slots mc ms (F0 m pc ls stk) st (QvC D cy A v h1 a) A) (hS : va_S A s.heap H locs)
    (kk : ∀ (H1 : Heap) (locs1 : List Loc), HW D cy A h1 H1 → va_S A s.heap H1 locs1 → W p l e R s m args below meth c H1 locs1 (cells + mc) (slots + ms) Q (F0 m (pc + 3) ls (v.toList ++ st))) : W p l e R s m args below meth c H locs cells slots Q (F0 m pc ls stk) := by
  intro T hT X
  obtain ⟨v', st₀, t, T', L, h0, X', hL, e1, e2, ⟨hv, hp, hz, hk⟩, stp⟩ := hr T hT X
  cases hv
  rw [h0] at hz hk
  obtain ⟨t2, a1, b1⟩ := kk T'.heap (locs ++ L) (by rw [e1]; exact hp)
    ⟨Nat.le_trans hS.1 (by rw [e1]; exact hz), fun q h1 h2 => by rw [e1, hk q (Nat.lt_of_lt_of_le h1 hS.1) h2]; exact hS.2.1 q h1 h2, fun q hq => by
      rcases List.mem_append.mp hq with h | h
      · exact hS.2.2 q h
      · exact hL q h⟩ T' rfl X'
  exact ⟨t2, stp t2 a1, b1⟩
theorem pre_at {D : va_G} {cy : Nat → ClassId} {A : Nat → Prop} {Z : Nat → Nat} {h : Hs} {s U : State} {H : Heap} {locs : List Loc} (hK : va_K D vwCl (tysA cy) s) (hA : ∀ q, s.heap.size ≤ q → A q) (hz : ZS Z A s s.heap) (hS : va_S A s.heap H locs) (hH : HW D cy A h H) (hU : U.heap = H) (hW : s.WarmedH U.vm) : PreU D cy A Z h U := by
  subst hU
  exact ⟨hH, va_K.moved hW.alike hK, fun q hq => hA q (Nat.le_trans hS.1 hq), ZS.moved hW (hz.kept hS.2.1)⟩
theorem sm_callV {β : Type} (cx : Cx X cc own nL) {i ci : Nat} {C : String} {T : u_T} {N : Nat} {y : MethodName} {bytes : ByteArray} {maxL : Nat} {ret : Option FieldType} {fr lo : Nat} (As : List Value) {r : Option Nat} {toV : β → Option Value} {f : Mo β} {K : β → Mo α} (hc : vwCl[ci]? = some (C, T, N)) (hW : CalV own i C y bytes maxL ret As.length)
    (hM : ∀ a, r = some a → Ct y bytes maxL ret fr lo (xZ X) (.ref a :: As) toV f) (hfr : fr + 1 ≤ (xR X).frames) (hlo : 8 + (maxL + 11) + lo ≤ (xR X).locals) (hst : stk = As.reverse ++ va_rf r :: st) (hcat : (st.map fun v => v.category).sum ≤ 8) (hd : decode cc pc = .ok (.invokevirtual i, 3)) (kk : ∀ b, Sim X nL Fi (pc + 3) lv ((toV b).toList ++ st) (K b)) : Sim X nL Fi pc lv stk (mb (mo ci r f) K) := by
  obtain ⟨p, l, e, R, s, m, args, below, meth, c, D, cy, A, Z⟩ := X
  obtain ⟨hx, hb, hml, hown, hts, hK, hA, hlk, hz⟩ := cx
  intro h z h' c0 n0 c1 n1 hk e1 e2 H locs ls hH hS hl
  obtain ⟨b, h1, ca, na, cb, nb, k1, k2, rfl, rfl⟩ := mb_some hk
  obtain ⟨a, fs, rfl, ha, kf⟩ := mo_some k1
  have M := hM a rfl l D cy A h b h1 ca na kf
  have hP := one_P (hH.2 a _ ha).1
  refine cg_back (mc := ca) (ms := na) (va_runV (As := As) (rest := st) (C := C) ⟨hx, hb, hml, hown, hts⟩ M (cwV As.length hts hW.1 rfl rfl rfl hW.2 ⟨hfr, hlo⟩) ⟨fb_pre, va_recv hK hP (q := (C, T, N)) (ci := ci) (q0 := 0) hc rfl, fun U hU hWm => ⟨rfl, pre_at hK hA hz hS hH hU hWm⟩⟩ rfl rfl hl.1 hst (lv_room hcat) hd ⟨by omega, by omega⟩) hS (fun H1 locs1 hH1 hS1 => ?_)
  exact kk b h1 z h' (c0 + ca) (n0 + na) cb nb k2 (by omega) (by omega) H1 locs1 ls hH1 hS1 hl
theorem sm_callS {β : Type} (cx : Cx X cc own nL) {i : Nat} {y : MethodName} {bytes : ByteArray} {maxL : Nat} {ret : Option FieldType} {fr lo : Nat} (As : List Value) {toV : β → Option Value} {f : Mo β} {K : β → Mo α} (hW : CalS own i y bytes maxL ret As.length)
    (hM : Ct y bytes maxL ret fr lo (xZ X) As toV f) (hfr : fr + 1 ≤ (xR X).frames) (hlo : 8 + (maxL + 11) + lo ≤ (xR X).locals) (hst : stk = As.reverse ++ st) (hcat : (st.map fun v => v.category).sum ≤ 8) (hd : decode cc pc = .ok (.invokestatic i, 3)) (kk : ∀ b, Sim X nL Fi (pc + 3) lv ((toV b).toList ++ st) (K b)) : Sim X nL Fi pc lv stk (mb f K) := by
  obtain ⟨p, l, e, R, s, m, args, below, meth, c, D, cy, A, Z⟩ := X
  obtain ⟨hx, hb, hml, hown, hts, hK, hA, hlk, hz⟩ := cx
  intro h z h' c0 n0 c1 n1 hk e1 e2 H locs ls hH hS hl
  obtain ⟨b, h1, ca, na, cb, nb, k1, k2, rfl, rfl⟩ := mb_some hk
  have M := hM l D cy A h b h1 ca na k1
  refine cg_back (mc := ca) (ms := na) (va_runS (As := As) (rest := st) ⟨hx, hb, hml, hown, hts⟩ M (va_cwS As.length hts hW.1 rfl rfl rfl hW.2 ⟨hfr, hlo⟩) ⟨fb_pre, fun U hU hWm => ⟨rfl, pre_at hK hA hz hS hH hU hWm⟩⟩ rfl rfl hl.1 hst (lv_room hcat) hd ⟨by omega, by omega⟩) hS (fun H1 locs1 hH1 hS1 => ?_)
  exact kk b h1 z h' (c0 + ca) (n0 + na) cb nb k2 (by omega) (by omega) H1 locs1 ls hH1 hS1 hl
theorem sm_callI {β : Type} (cx : Cx X cc own nL) {i ci : Nat} {y : MethodName} {bytes : ByteArray} {maxL : Nat} {fr lo : Nat} (As : List Value) {r : Option Nat} {toV : β → Option Value} {f : Mo β} {K : β → Mo α} (hW : CalI own i y bytes maxL As.length)
    (hM : ∀ a, r = some a → Ct y bytes maxL none fr lo (xZ X) (.ref a :: As) toV f) (hfr : fr + 1 ≤ (xR X).frames) (hlo : 8 + (maxL + 11) + lo ≤ (xR X).locals) (hst : stk = As.reverse ++ va_rf r :: st) (hcat : (st.map fun v => v.category).sum ≤ 8) (hd : decode cc pc = .ok (.invokespecial i, 3)) (kk : ∀ b, Sim X nL Fi (pc + 3) lv ((toV b).toList ++ st) (K b)) : Sim X nL Fi pc lv stk (mb (mo ci r f) K) := by
  obtain ⟨p, l, e, R, s, m, args, below, meth, c, D, cy, A, Z⟩ := X
  obtain ⟨hx, hb, hml, hown, hts, hK, hA, hlk, hz⟩ := cx
  intro h z h' c0 n0 c1 n1 hk e1 e2 H locs ls hH hS hl
  obtain ⟨b, h1, ca, na, cb, nb, k1, k2, rfl, rfl⟩ := mb_some hk
  obtain ⟨a, fs, rfl, ha, kf⟩ := mo_some k1
  have M := hM a rfl l D cy A h b h1 ca na kf
  obtain ⟨⟨w1, w2, w3⟩, w4, w5⟩ := hW
  have go : va_Run p l e R s m args below meth c H locs c0 n0 ca na (F0 m pc ls stk) st (QvC D cy A (toV b) h1 (Value.ref a :: As).toArray) A := by
    rcases w4 with w4 | ⟨host, w4⟩
    · exact va_runI (As := As) (rest := st) ⟨hx, hb, hml, hown, hts⟩ M (cwI As.length hts (tb_call w3) rfl rfl rfl (hts _ w1) (hts _ w4) (hts _ w2) w5.1 w5.2 ⟨hfr, hlo⟩) ⟨fb_pre, fun U hU hWm => ⟨rfl, pre_at hK hA hz hS hH hU hWm⟩⟩ rfl rfl hl.1 hst (lv_room hcat) hd ⟨by omega, by omega⟩
    · exact va_runIN (As := As) (rest := st) ⟨hx, hb, hml, hown, hts⟩ M ⟨va_cnB As.length hts (tb_call w3) rfl rfl rfl (hz.1 _ w4) (hts _ w1) w5.2 ⟨hfr, hlo⟩, w5.1, hts _ w2⟩ ⟨fb_pre, fun U hU hWm => ⟨rfl, pre_at hK hA hz hS hH hU hWm⟩⟩ rfl rfl hl.1 hst (lv_room hcat) hd ⟨by omega, by omega⟩
  refine cg_back (mc := ca) (ms := na) go hS (fun H1 locs1 hH1 hS1 => ?_)
  exact kk b h1 z h' (c0 + ca) (n0 + na) cb nb k2 (by omega) (by omega) H1 locs1 ls hH1 hS1 hl
/-- Object.<init> -/
theorem sm_obj (cx : Cx X cc own nL) {i : Nat} {r : Option Nat} {ci : Nat} {K : Mo α} (h1 : Cond.methodLink own i objectInit ∈ TB) (h2 : Cond.instanceMethod objectInit ∈ TB) (h3 : Cond.code objectInit ⟨#[0xb1]⟩ 1 none ∈ TB) (hfr : 1 ≤ (xR X).frames) (hlo : 12 ≤ (xR X).locals) (hd : decode cc pc = .ok (.invokespecial i, 3)) (hst : st = []) (kk : Sim X nL Fi (pc + 3) lv [] K) : Sim X nL Fi pc lv (va_rf r :: st) (mb (mo ci r (mp ())) (fun _ => K)) := by
  subst hst
  obtain ⟨p, l, e, R, s, m, args, below, meth, c, D, cy, A, Z⟩ := X
  obtain ⟨hx, hb, hml, hown, hts, hK, hA, hlk, hz⟩ := cx
  intro h z h' c0 n0 c1 n1 hk e1 e2 H locs ls hH hS hl
  obtain ⟨b, h1', ca, na, cb, nb, k1, k2, rfl, rfl⟩ := mb_some hk
  obtain ⟨a, fs, rfl, ha, kf⟩ := mo_some k1
  cases kf
  refine W.objInit hx hb hown (hts _ h1) (hts _ h2) (hts _ h3) rfl (by rw [hml]; exact hl.1) rfl hd hfr hlo ?_
  exact kk _ z h' c0 n0 cb nb k2 (by omega) (by omega) H locs ls hH hS hl
theorem sm_iret (cx : Cx X cc own nL) {v : Int32} (hr : (xM X).sig.returnType = some .int) (hd : decode cc pc = .ok (.ireturn, 1)) : Sim X nL (FiM X vI) pc lv [.int v] (mp v) := by
  obtain ⟨p, l, e, R, s, m, args, below, meth, c, D, cy, A, Z⟩ := X
  obtain ⟨hx, hb, hml, hown, hts, hK, hA, hlk, hz⟩ := cx
  intro h z h' c0 n0 c1 n1 hk e1 e2 H locs ls hH hS hl
  cases hk
  rw [Nat.add_zero] at e1 e2
  subst e1; subst e2
  exact W.iret hx hb hr (fun t ht hW => ⟨rfl, by rw [ht]; exact hH, hS.F ht⟩) hS.2.2 hd
/-- a truth value, a byte, a char: what the type keeps is what is there -/
def rz (ty : FieldType) (v : Int32) : Mo Int32 := if narrow ty (.int v) = .int v then mp v else mf
theorem sm_zret (cx : Cx X cc own nL) {v : Int32} {ty : FieldType} (hr : (xM X).sig.returnType = some ty) (hd : decode cc pc = .ok (.ireturn, 1)) : Sim X nL (FiM X vI) pc lv [.int v] (rz ty v) := by
  unfold rz
  split
  · rename_i hn
    obtain ⟨p, l, e, R, s, m, args, below, meth, c, D, cy, A, Z⟩ := X
    obtain ⟨hx, hb, hml, hown, hts, hK, hA, hlk, hz⟩ := cx
    intro h z h' c0 n0 c1 n1 hk e1 e2 H locs ls hH hS hl
    cases hk
    rw [Nat.add_zero] at e1 e2
    subst e1; subst e2
    exact W.zret hx hb hr hn (fun t ht hW => ⟨rfl, by rw [ht]; exact hH, hS.F ht⟩) hS.2.2 hd
  · exact sm_mf
theorem sm_lret (cx : Cx X cc own nL) {v : Int64} (hr : (xM X).sig.returnType = some .long) (hd : decode cc pc = .ok (.lreturn, 1)) : Sim X nL (FiM X vL) pc lv [.long v] (mp v) := by
  obtain ⟨p, l, e, R, s, m, args, below, meth, c, D, cy, A, Z⟩ := X
  obtain ⟨hx, hb, hml, hown, hts, hK, hA, hlk, hz⟩ := cx
  intro h z h' c0 n0 c1 n1 hk e1 e2 H locs ls hH hS hl
  cases hk
  rw [Nat.add_zero] at e1 e2
  subst e1; subst e2
  exact W.lret hx hb hr (fun t ht hW => ⟨rfl, by rw [ht]; exact hH, hS.F ht⟩) hS.2.2 hd
theorem sm_vret (cx : Cx X cc own nL) (hr : (xM X).sig.returnType = none) (hd : decode cc pc = .ok (.return_, 1)) : Sim X nL (FiM X vV) pc lv [] (mp ()) := by
  obtain ⟨p, l, e, R, s, m, args, below, meth, c, D, cy, A, Z⟩ := X
  obtain ⟨hx, hb, hml, hown, hts, hK, hA, hlk, hz⟩ := cx
  intro h z h' c0 n0 c1 n1 hk e1 e2 H locs ls hH hS hl
  cases hk
  rw [Nat.add_zero] at e1 e2
  subst e1; subst e2
  exact W.vret hx hb hr (fun t ht hW => ⟨rfl, by rw [ht]; exact hH, hS.F ht⟩) hS.2.2 hd
theorem sm_aret (cx : Cx X cc own nL) {v : Option Nat} {rt : FieldType} (hr : (xM X).sig.returnType = some rt) (hrt : (∃ n, rt = .object n) ∨ ∃ t, rt = .array t) (hd : decode cc pc = .ok (.areturn, 1)) : Sim X nL (FiM X vR) pc lv [va_rf v] (mp v) := by
  obtain ⟨p, l, e, R, s, m, args, below, meth, c, D, cy, A, Z⟩ := X
  obtain ⟨hx, hb, hml, hown, hts, hK, hA, hlk, hz⟩ := cx
  intro h z h' c0 n0 c1 n1 hk e1 e2 H locs ls hH hS hl
  cases hk
  rw [Nat.add_zero] at e1 e2
  subst e1; subst e2
  refine W.aret hx hb hr hrt ?_ (fun t ht hW => ⟨rfl, by rw [ht]; exact hH, hS.F ht⟩) hS.2.2 hd
  cases v with
  | none => exact Or.inl rfl
  | some a => exact Or.inr ⟨a, rfl⟩
end LD
end
section
/-! ===== static fields, texts, casts, arrays of references ===== -/
/-- which of the six words (b = 10) or of their byte arrays (b = 50) -/
def wIx (Z : Nat → Nat) (b : Nat) (r : Option Nat) : Option Nat := (List.range 6).find? (fun i => decide (r = some (Z (b + i))))
theorem wIx_some {Z : Nat → Nat} {b : Nat} {r : Option Nat} {i : Nat} (h : wIx Z b r = some i) : i < 6 ∧ r = some (Z (b + i)) := by
  have h1 := List.find?_some h
  have h2 := List.mem_of_find?_eq_some h
  exact ⟨List.mem_range.mp h2, of_decide_eq_true h1⟩
/-- String.value, String.coder of a word; its bytes' length; a byte -/
def gSv (Z : Nat → Nat) (r : Option Nat) : Mo (Option Nat) := fun h => match wIx Z 10 r with
  | some i => some (some (Z (50 + i)), h, 0, 0)
  | none => none
def gSc (Z : Nat → Nat) (r : Option Nat) : Mo Int32 := fun h => match wIx Z 10 r with
  | some _ => some (0, h, 0, 0)
  | none => none
def aSn (Z : Nat → Nat) (r : Option Nat) : Mo Int32 := fun h => match wIx Z 50 r with
  | some i => some (Int32.ofNat (wLen.getD i 0), h, 0, 0)
  | none => none
def aSb (Z : Nat → Nat) (r : Option Nat) (j : Int32) : Mo Int32 := fun h => match wIx Z 50 r with
  | some i => if j < 0 ∨ wLen.getD i 0 ≤ j.toNatClampNeg then none else some ((wByt.getD i []).getD j.toNatClampNeg 0, h, 0, 0)
  | none => none
/-- a receiver that is a word -/
def moS {α : Type} (Z : Nat → Nat) (r : Option Nat) (x : Mo α) : Mo α := fun h => match wIx Z 10 r with
  | some _ => x h
  | none => none
/-- the guesses -/
def aG (r : Option Nat) (Z : Nat → Nat) (j : Int32) : Mo Int64 := fun h => if r = some (Z 1) then (if j < 0 ∨ 6 ≤ j.toNatClampNeg then none else some (gu j.toNatClampNeg, h, 0, 0)) else none
def aGn (r : Option Nat) (Z : Nat → Nat) : Mo Int32 := fun h => if r = some (Z 1) then some (6, h, 0, 0) else none
/-- the length of an array of references: the empty list's own is one, too -/
def aNq (Z : Nat → Nat) (r : Option Nat) : Mo Int32 := fun h => if r = some (Z 0) then some (0, h, 0, 0) else aN 4 r h
section LS
variable {α : Type} {X : Cg} {nL : Nat} {Fi : α → Hs → State → Prop} {pc : Nat} {lv : List (Nat × Value)} {st stk : List Value} {k : Mo α} {cc : ByteArray} {own : String}
theorem sm_gsE (cx : Cx X cc own nL) {i : Nat} (hw : Cond.fieldLink own i "java/util/ArrayList" "DEFAULTCAPACITY_EMPTY_ELEMENTDATA" "[Ljava/lang/Object;" ∈ TB) (hd : decode cc pc = .ok (.getstatic i, 3)) (kk : Sim X nL Fi (pc + 3) lv (va_rf (some (xZ X 0)) :: st) k) : Sim X nL Fi pc lv st k := by
  obtain ⟨p, l, e, R, s, m, args, below, meth, c, D, cy, A, Z⟩ := X
  obtain ⟨hx, hb, hml, hown, hts, hK, hA, hlk, hz⟩ := cx
  intro h z h' c0 n0 c1 n1 hk e1 e2 H locs ls hH hS hl
  exact va_gets hx hb hz.2.1.1 hS hown (hts _ hw) (fun _ h9 => h9) hd (kk h z h' c0 n0 c1 n1 hk e1 e2 H locs ls hH hS hl)
theorem sm_gsG (cx : Cx X cc own nL) {i : Nat} (hw : Cond.fieldLink own i "PolicyTree$Standing" "GUESSES" "[J" ∈ TB) (hd : decode cc pc = .ok (.getstatic i, 3)) (kk : Sim X nL Fi (pc + 3) lv (va_rf (some (xZ X 1)) :: st) k) : Sim X nL Fi pc lv st k := by
  obtain ⟨p, l, e, R, s, m, args, below, meth, c, D, cy, A, Z⟩ := X
  obtain ⟨hx, hb, hml, hown, hts, hK, hA, hlk, hz⟩ := cx
  intro h z h' c0 n0 c1 n1 hk e1 e2 H locs ls hH hS hl
  exact va_gets hx hb hz.2.2.1.1 hS hown (hts _ hw) (fun _ h9 => h9) hd (kk h z h' c0 n0 c1 n1 hk e1 e2 H locs ls hH hS hl)
theorem sm_gsC (cx : Cx X cc own nL) {i : Nat} (hw : Cond.fieldLink own i "java/lang/String" "COMPACT_STRINGS" "Z" ∈ TB) (hd : decode cc pc = .ok (.getstatic i, 3)) (kk : Sim X nL Fi (pc + 3) lv (.int 1 :: st) k) : Sim X nL Fi pc lv st k := by
  obtain ⟨p, l, e, R, s, m, args, below, meth, c, D, cy, A, Z⟩ := X
  obtain ⟨hx, hb, hml, hown, hts, hK, hA, hlk, hz⟩ := cx
  intro h z h' c0 n0 c1 n1 hk e1 e2 H locs ls hH hS hl
  exact va_gets hx hb hz.2.2.2.2.1.1 hS hown (hts _ hw) (fun _ h9 => h9) hd (kk h z h' c0 n0 c1 n1 hk e1 e2 H locs ls hH hS hl)
theorem sm_gsF (cx : Cx X cc own nL) {i : Nat} (hw : Cond.fieldLink own i "jdk/internal/util/Preconditions" "SIOOBE_FORMATTER" "Ljava/util/function/BiFunction;" ∈ TB) (hd : decode cc pc = .ok (.getstatic i, 3)) (kk : Sim X nL Fi (pc + 3) lv (va_rf (zF (xZ X)) :: st) k) : Sim X nL Fi pc lv st k := by
  obtain ⟨p, l, e, R, s, m, args, below, meth, c, D, cy, A, Z⟩ := X
  obtain ⟨hx, hb, hml, hown, hts, hK, hA, hlk, hz⟩ := cx
  intro h z h' c0 n0 c1 n1 hk e1 e2 H locs ls hH hS hl
  exact va_gets hx hb hz.2.2.2.2.2.2 hS hown (hts _ hw) (fun _ h9 => h9) hd (kk h z h' c0 n0 c1 n1 hk e1 e2 H locs ls hH hS hl)
theorem sm_ldcS (cx : Cx X cc own nL) {i : Nat} (x : String × Nat × String × Nat) (hm : x ∈ wRef) (ho : x.1 = own) (hi : x.2.1 = i) (hd : decode cc pc = .ok (.ldc i, 2)) (kk : Sim X nL Fi (pc + 2) lv (va_rf (some (xZ X (10 + x.2.2.2))) :: st) k) : Sim X nL Fi pc lv st k := by
  subst ho
  subst hi
  obtain ⟨p, l, e, R, s, m, args, below, meth, c, D, cy, A, Z⟩ := X
  obtain ⟨hx, hb, hml, hown, hts, hK, hA, hlk, hz⟩ := cx
  intro h z h' c0 n0 c1 n1 hk e1 e2 H locs ls hH hS hl
  exact va_ldcS hx hb hown (hz.2.2.2.2.2.1 x hm) hd (kk h z h' c0 n0 c1 n1 hk e1 e2 H locs ls hH hS hl)
theorem sm_gSv (cx : Cx X cc own nL) {i : Nat} {r : Option Nat} {K : Option Nat → Mo α} (hw : Cond.fieldLink own i "java/lang/String" "value" "[B" ∈ TB) (hd : decode cc pc = .ok (.getfield i, 3)) (kk : ∀ b, Sim X nL Fi (pc + 3) lv (va_rf b :: st) (K b)) : Sim X nL Fi pc lv (va_rf r :: st) (mb (gSv (xZ X) r) K) := by
  obtain ⟨p, l, e, R, s, m, args, below, meth, c, D, cy, A, Z⟩ := X
  obtain ⟨hx, hb, hml, hown, hts, hK, hA, hlk, hz⟩ := cx
  intro h z h' c0 n0 c1 n1 hk e1 e2 H locs ls hH hS hl
  obtain ⟨b, h1, ca, na, cb, nb, k1, k2, rfl, rfl⟩ := mb_some hk
  unfold gSv at k1
  split at k1
  · rename_i j hj
    cases k1
    obtain ⟨hj6, rfl⟩ := wIx_some hj
    refine vk_getf hx hb (hz.2.2.2.2.1.2.1 j hj6).2.2.1 hS hown (hts _ hw) (fun _ h9 => h9) hd ?_
    exact kk _ h z h' c0 n0 cb nb k2 (by omega) (by omega) H locs ls hH hS hl
  · cases k1
theorem sm_gSc (cx : Cx X cc own nL) {i : Nat} {r : Option Nat} {K : Int32 → Mo α} (hw : Cond.fieldLink own i "java/lang/String" "coder" "B" ∈ TB) (hd : decode cc pc = .ok (.getfield i, 3)) (kk : ∀ b, Sim X nL Fi (pc + 3) lv (.int b :: st) (K b)) : Sim X nL Fi pc lv (va_rf r :: st) (mb (gSc (xZ X) r) K) := by
  obtain ⟨p, l, e, R, s, m, args, below, meth, c, D, cy, A, Z⟩ := X
  obtain ⟨hx, hb, hml, hown, hts, hK, hA, hlk, hz⟩ := cx
  intro h z h' c0 n0 c1 n1 hk e1 e2 H locs ls hH hS hl
  obtain ⟨b, h1, ca, na, cb, nb, k1, k2, rfl, rfl⟩ := mb_some hk
  unfold gSc at k1
  split at k1
  · rename_i j hj
    cases k1
    obtain ⟨hj6, rfl⟩ := wIx_some hj
    refine vk_getf hx hb (hz.2.2.2.2.1.2.1 j hj6).2.1 hS hown (hts _ hw) (fun _ h9 => h9) hd ?_
    exact kk _ h z h' c0 n0 cb nb k2 (by omega) (by omega) H locs ls hH hS hl
  · cases k1
theorem sm_aSn (cx : Cx X cc own nL) {r : Option Nat} {K : Int32 → Mo α} (hd : decode cc pc = .ok (.arraylength, 1)) (kk : ∀ b, Sim X nL Fi (pc + 1) lv (.int b :: st) (K b)) : Sim X nL Fi pc lv (va_rf r :: st) (mb (aSn (xZ X) r) K) := by
  obtain ⟨p, l, e, R, s, m, args, below, meth, c, D, cy, A, Z⟩ := X
  obtain ⟨hx, hb, hml, hown, hts, hK, hA, hlk, hz⟩ := cx
  intro h z h' c0 n0 c1 n1 hk e1 e2 H locs ls hH hS hl
  obtain ⟨b, h1, ca, na, cb, nb, k1, k2, rfl, rfl⟩ := mb_some hk
  unfold aSn at k1
  split at k1
  · rename_i j hj
    cases k1
    obtain ⟨hj6, rfl⟩ := wIx_some hj
    refine va_tlen hx hb (hz.2.2.2.2.1.2.1 j hj6).2.2.2 hS rfl hd ?_
    exact kk _ h z h' c0 n0 cb nb k2 (by omega) (by omega) H locs ls hH hS hl
  · cases k1
theorem sm_aSb (cx : Cx X cc own nL) {r : Option Nat} {i : Int32} {K : Int32 → Mo α} (hd : decode cc pc = .ok (.baload, 1)) (kk : ∀ b, Sim X nL Fi (pc + 1) lv (.int b :: st) (K b)) : Sim X nL Fi pc lv (.int i :: va_rf r :: st) (mb (aSb (xZ X) r i) K) := by
  obtain ⟨p, l, e, R, s, m, args, below, meth, c, D, cy, A, Z⟩ := X
  obtain ⟨hx, hb, hml, hown, hts, hK, hA, hlk, hz⟩ := cx
  intro h z h' c0 n0 c1 n1 hk e1 e2 H locs ls hH hS hl
  obtain ⟨b, h1, ca, na, cb, nb, k1, k2, rfl, rfl⟩ := mb_some hk
  unfold aSb at k1
  split at k1
  · rename_i j hj
    split at k1
    · cases k1
    · rename_i hin
      cases k1
      obtain ⟨hj6, rfl⟩ := wIx_some hj
      refine va_tb hx hb (hz.2.2.2.2.1.2.1 j hj6).2.2.2 hS hin rfl hd ?_
      exact kk _ h z h' c0 n0 cb nb k2 (by omega) (by omega) H locs ls hH hS hl
  · cases k1
theorem sm_aG (cx : Cx X cc own nL) {r : Option Nat} {i : Int32} {K : Int64 → Mo α} (hd : decode cc pc = .ok (.laload, 1)) (kk : ∀ b, Sim X nL Fi (pc + 1) lv (.long b :: st) (K b)) : Sim X nL Fi pc lv (.int i :: va_rf r :: st) (mb (aG r (xZ X) i) K) := by
  obtain ⟨p, l, e, R, s, m, args, below, meth, c, D, cy, A, Z⟩ := X
  obtain ⟨hx, hb, hml, hown, hts, hK, hA, hlk, hz⟩ := cx
  intro h z h' c0 n0 c1 n1 hk e1 e2 H locs ls hH hS hl
  obtain ⟨b, h1, ca, na, cb, nb, k1, k2, rfl, rfl⟩ := mb_some hk
  unfold aG at k1
  split at k1
  · rename_i hr
    subst hr
    split at k1
    · cases k1
    · rename_i hin
      cases k1
      refine va_tl hx hb hz.2.2.1.2 hS hin rfl hd ?_
      exact kk _ h z h' c0 n0 cb nb k2 (by omega) (by omega) H locs ls hH hS hl
  · cases k1
theorem sm_aGn (cx : Cx X cc own nL) {r : Option Nat} {K : Int32 → Mo α} (hd : decode cc pc = .ok (.arraylength, 1)) (kk : ∀ b, Sim X nL Fi (pc + 1) lv (.int b :: st) (K b)) : Sim X nL Fi pc lv (va_rf r :: st) (mb (aGn r (xZ X)) K) := by
  obtain ⟨p, l, e, R, s, m, args, below, meth, c, D, cy, A, Z⟩ := X
  obtain ⟨hx, hb, hml, hown, hts, hK, hA, hlk, hz⟩ := cx
  intro h z h' c0 n0 c1 n1 hk e1 e2 H locs ls hH hS hl
  obtain ⟨b, h1, ca, na, cb, nb, k1, k2, rfl, rfl⟩ := mb_some hk
  unfold aGn at k1
  split at k1
  · rename_i hr
    subst hr
    cases k1
    refine va_tlen hx hb hz.2.2.1.2 hS (v := 6) (by decide) hd ?_
    exact kk _ h z h' c0 n0 cb nb k2 (by omega) (by omega) H locs ls hH hS hl
  · cases k1
theorem sm_aNq (cx : Cx X cc own nL) {r : Option Nat} {K : Int32 → Mo α} (hd : decode cc pc = .ok (.arraylength, 1)) (kk : ∀ b, Sim X nL Fi (pc + 1) lv (.int b :: st) (K b)) : Sim X nL Fi pc lv (va_rf r :: st) (mb (aNq (xZ X) r) K) := by
  by_cases hr : r = some (xZ X 0)
  · obtain ⟨p, l, e, R, s, m, args, below, meth, c, D, cy, A, Z⟩ := X
    obtain ⟨hx, hb, hml, hown, hts, hK, hA, hlk, hz⟩ := cx
    intro h z h' c0 n0 c1 n1 hk e1 e2 H locs ls hH hS hl
    obtain ⟨b, h1, ca, na, cb, nb, k1, k2, rfl, rfl⟩ := mb_some hk
    unfold aNq at k1
    rw [if_pos hr] at k1
    subst hr
    cases k1
    refine va_tlen hx hb hz.2.1.2 hS (v := 0) (by decide) hd ?_
    exact kk _ h z h' c0 n0 cb nb k2 (by omega) (by omega) H locs ls hH hS hl
  · have e : aNq (xZ X) r = aN 4 r := by
      funext h
      unfold aNq
      rw [if_neg hr]
    rw [e]
    exact sm_alen cx 4 (by decide) hd kk
theorem ck_some {ci : Nat} {r : Option Nat} {h h1 : Hs} {v : Unit} {c n : Nat} (e : ck ci r h = some (v, h1, c, n)) : h1 = h ∧ c = 0 ∧ n = 0 ∧ ∀ a, r = some a → ∃ fs, h.1 a = some (.inl (ci, fs)) := by
  unfold ck at e
  split at e
  · cases e
    exact ⟨rfl, rfl, rfl, fun a ha => by cases ha⟩
  · split at e
    · cases e
    · rename_i z e0
      cases e
      obtain ⟨a', fs⟩ := z
      obtain ⟨q1, q2⟩ := ob_some e0
      exact ⟨rfl, rfl, rfl, fun a ha => by cases q1; cases ha; exact ⟨fs, q2⟩⟩
theorem sm_ck (cx : Cx X cc own nL) {i ci : Nat} {C : String} {T : u_T} {N : Nat} {r : Option Nat} {K : Mo α} (hc : vwCl[ci]? = some (C, T, N)) (hw : Cond.classLink own i C ∈ TB) (hd : decode cc pc = .ok (.checkcast i, 3)) (kk : Sim X nL Fi (pc + 3) lv (va_rf r :: st) K) : Sim X nL Fi pc lv (va_rf r :: st) (mb (ck ci r) (fun _ => K)) := by
  obtain ⟨p, l, e, R, s, m, args, below, meth, c, D, cy, A, Z⟩ := X
  obtain ⟨hx, hb, hml, hown, hts, hK, hA, hlk, hz⟩ := cx
  intro h z h' c0 n0 c1 n1 hk e1 e2 H locs ls hH hS hl
  obtain ⟨b, h1, ca, na, cb, nb, k1, k2, rfl, rfl⟩ := mb_some hk
  obtain ⟨rfl, rfl, rfl, ha⟩ := ck_some k1
  have go := kk h1 z h' c0 n0 cb nb k2 (by omega) (by omega) H locs ls hH hS hl
  cases r with
  | none => exact lv_castN hx hb hd go
  | some a =>
    obtain ⟨fs, hf⟩ := ha a rfl
    exact va_castE hx hb hown (hts _ hw) (va_recv hK (one_P (hH.2 a _ hf).1) (q := (C, T, N)) (ci := ci) (q0 := 0) hc rfl) hd go
theorem cast_all : ∀ (ci : Nat) (r : vw_C), vwCl[ci]? = some r → Cond.castable r.1 "java/lang/Object" ∈ nwL := by
  intro ci r h
  have hlt : ci < 16 := (List.getElem?_eq_some_iff.mp h).1
  have key : ∀ i : Nat, i < 16 → ∀ r : vw_C, vwCl[i]? = some r → Cond.castable r.1 "java/lang/Object" ∈ nwL := by
    intro i hi r hr
    match i, hi, hr with
    | 0, _, hr => cases hr; exact List.mem_of_getElem? (i := 6) rfl
    | 1, _, hr => cases hr; exact List.mem_of_getElem? (i := 7) rfl
    | 2, _, hr => cases hr; exact List.mem_of_getElem? (i := 8) rfl
    | 3, _, hr => cases hr; exact List.mem_of_getElem? (i := 9) rfl
    | 4, _, hr => cases hr; exact List.mem_of_getElem? (i := 10) rfl
    | 5, _, hr => cases hr; exact List.mem_of_getElem? (i := 11) rfl
    | 6, _, hr => cases hr; exact List.mem_of_getElem? (i := 12) rfl
    | 7, _, hr => cases hr; exact List.mem_of_getElem? (i := 13) rfl
    | 8, _, hr => cases hr; exact List.mem_of_getElem? (i := 14) rfl
    | 9, _, hr => cases hr; exact List.mem_of_getElem? (i := 15) rfl
    | 10, _, hr => cases hr; exact List.mem_of_getElem? (i := 16) rfl
    | 11, _, hr => cases hr; exact List.mem_of_getElem? (i := 17) rfl
    | 12, _, hr => cases hr; exact List.mem_of_getElem? (i := 18) rfl
    | 13, _, hr => cases hr; exact List.mem_of_getElem? (i := 19) rfl
    | 14, _, hr => cases hr; exact List.mem_of_getElem? (i := 20) rfl
    | 15, _, hr => cases hr; exact List.mem_of_getElem? (i := 21) rfl
  exact key ci hlt r h
theorem sm_aast (cx : Cx X cc own nL) {r x : Option Nat} {i : Int32} {K : Mo α} (hd : decode cc pc = .ok (.aastore, 1)) (kk : Sim X nL Fi (pc + 1) lv st K) : Sim X nL Fi pc lv (va_rf x :: .int i :: va_rf r :: st) (mb (sR r i x) (fun _ => K)) := by
  obtain ⟨p, l, e, R, s, m, args, below, meth, c, D, cy, A, Z⟩ := X
  obtain ⟨hx, hb, hml, hown, hts, hK, hA, hlk, hz⟩ := cx
  intro h z h' c0 n0 c1 n1 hk e1 e2 H locs ls hH hS hl
  obtain ⟨b, h1, ca, na, cb, nb, k1, k2, rfl, rfl⟩ := mb_some hk
  obtain ⟨a, N, f, rfl, ha, hin, hv, rfl, rfl, rfl⟩ := sR_some k1
  obtain ⟨hP, hw⟩ := hH.2 a _ ha
  have hAa : A a := hw rfl
  have hlt : i.toNatClampNeg < N := Nat.not_le.mp fun q => hin (Or.inr q)
  have h0 : ¬ i < 0 := fun q => hin (Or.inl q)
  cases x with
  | none =>
    refine va_WaastN (C := "java/lang/Object") hx hb hP ((hK.2 4 _ rfl).1 N (fun j => va_rf (f j))) (fun h => by cases h) (by show ¬ (i < 0 ∨ (arrV _ _ _).slots.size ≤ _); rw [arrV_size]; exact hin) rfl rfl hd fun H1 e3 e4 e5 => ?_
    refine kk _ z h' c0 n0 cb nb k2 (by omega) (by omega) H1 _ ls (hH.put hAa ?_ e4 e5) (hS.put e4 e5 hAa) hl
    show H1[a]? = some (vp_cell _ _)
    rw [e3, vp_cell_q, vp_cell_q, arrV_store]
    congr 2
    funext q
    by_cases hq : q = i.toNatClampNeg
    · subst hq; simp [updV, va_up, va_rf]
    · simp [updV, va_up, hq]
  | some v =>
    obtain ⟨⟨ci, vs⟩, hvo⟩ := hv v rfl
    obtain ⟨r', hr', cellV, g1, g2, g3, -⟩ := (hH.2 v _ hvo).1
    have hcls := (hK.1 ci r' hr').2
    obtain ⟨kA, comp, q1, q2, q3, -⟩ := (hK.2 4 _ rfl).2
    obtain ⟨kE, hkE, -⟩ := Vm.findClass_spec q3
    obtain ⟨c0', t1, f1, f2, f3⟩ := Cond.castable_spec (va_Nw.use (A := args) rfl (hz.1 _ (cast_all ci r' hr')))
    cases hcls.1.symm.trans f1
    cases q3.symm.trans f2
    obtain ⟨kC, hkC, -⟩ := hcls.2
    refine W.aast hx hb hP (fun q h => by cases h) (fun h => by cases h) q1 q2 rfl hkE ⟨h0, by show _ < (arrV _ _ _).slots.size; rw [arrV_size]; exact hlt⟩ g1 (fun q h => by rw [g3] at h; cases h) (by rw [g2]; exact hkC) (by rw [g2]; exact f3) rfl rfl hd fun H1 e3 e4 e5 => ?_
    refine kk _ z h' c0 n0 cb nb k2 (by omega) (by omega) H1 _ ls (hH.put hAa ?_ e4 e5) (hS.put e4 e5 hAa) hl
    show H1[a]? = some (vp_cell _ _)
    rw [e3, vp_cell_q, vp_cell_q, arrV_store]
    congr 2
    funext q
    by_cases hq : q = i.toNatClampNeg
    · subst hq; simp [updV, va_up, va_rf]
    · simp [updV, va_up, hq]
theorem sm_anew (cx : Cx X cc own nL) {j : Nat} {i : Int32} {K : Option Nat → Mo α} (hw : Cond.classLink own j "java/lang/Object" ∈ TB) (hd : decode cc pc = .ok (.anewarray j, 3)) (kk : ∀ b, Sim X nL Fi (pc + 3) lv (va_rf b :: st) (K b)) : Sim X nL Fi pc lv (.int i :: st) (mb (nA 4 i) K) := by
  obtain ⟨p, l, e, R, s, m, args, below, meth, c, D, cy, A, Z⟩ := X
  obtain ⟨hx, hb, hml, hown, hts, hK, hA, hlk, hz⟩ := cx
  intro h z h' c0 n0 c1 n1 hk e1 e2 H locs ls hH hS hl
  obtain ⟨b, h1, ca, na, cb, nb, k1, k2, rfl, rfl⟩ := mb_some hk
  unfold nA at k1
  split at k1
  · cases k1
  · rename_i hc
    cases k1
    have hzz := hH.1
    have hn : ¬ i < 0 := fun q => hc (Or.inl q)
    have hlim : i.toNatClampNeg ≤ 1000000 := Nat.not_lt.mp fun q => hc (Or.inr q)
    refine W.anew hx hb hown (hts _ hw) (va_AO.use hz.2.2.2.1.2.2) rfl hd rfl hn (by omega) (by omega) (by omega) fun cA kA comp f1 f2 f3 f4 => ?_
    generalize hH1 : H.push ({ cls := cA, slots := Array.replicate i.toNatClampNeg .null, vm := .none } : Cell) = H1
    have z1 : H1.size = H.size + 1 := by rw [← hH1, Array.size_push]
    have e3 : H1[H.size]? = some (arrV cA i.toNatClampNeg (fun _ => .null)) := by rw [← hH1, Array.getElem?_push_size, ← arrV_new]
    have o1 : ∀ q : Nat, q < H.size → H1[q]? = H[q]? := fun q hq => by rw [← hH1, Array.getElem?_push, if_neg (Nat.ne_of_lt hq)]
    obtain ⟨kA', comp', r1, r2, r3, r4⟩ := (hK.2 4 _ rfl).2
    have hcA : cA = cy 4 := Option.some.inj (f1.symm.trans r4)
    subst hcA
    refine W.eq (g2 := F0 m (pc + 3) ls (va_rf (some h.2) :: st)) (by rw [← hzz]; rfl) ?_
    refine kk _ _ z h' (c0 + 1) (n0 + i.toNatClampNeg) cb nb k2 (by omega) (by omega) H1 locs ls (hH.push (hA _ hS.1) ?_ z1 o1) ?_ hl
    · show H1[H.size]? = some (vp_cell _ _)
      exact e3
    · exact ⟨Nat.le_trans hS.1 (by omega), fun x h1 h2 => (o1 x (Nat.lt_of_lt_of_le h1 hS.1)).trans (hS.2.1 x h1 h2), hS.2.2⟩
/-- Math.max, Math.min -/
def jMx (x y : Int32) : Int32 := if x < y then y else x
theorem sm_mmax (cx : Cx X cc own nL) {i : Nat} {x y : Int32} (h1 : Cond.methodLink own i Lib.Math.max.name ∈ TB) (h2 : Cond.static Lib.Math.max.name ∈ TB) (h3 : Cond.initialized "java/lang/Math" ∈ TB) (h4 : Cond.code Lib.Math.max.name Lib.Math.max.code 2 (some .int) ∈ TB) (hfr : 1 ≤ (xR X).frames) (hlo : (st.map fun v => v.category).sum + 13 ≤ (xR X).locals) (hd : decode cc pc = .ok (.invokestatic i, 3)) (kk : Sim X nL Fi (pc + 3) lv (.int (jMx x y) :: st) k) : Sim X nL Fi pc lv (.int y :: .int x :: st) k := by
  obtain ⟨p, l, e, R, s, m, args, below, meth, c, D, cy, A, Z⟩ := X
  obtain ⟨hx, hb, hml, hown, hts, hK, hA, hlk, hz⟩ := cx
  intro h z h' c0 n0 c1 n1 hk e1 e2 H locs ls hH hS hl
  have w1 : c0 ≤ R.cells := by omega
  have w2 : n0 ≤ R.slots := by omega
  exact va_mmax hx hb (hml.trans hl.1.symm) hown (hts _ h1) (hts _ h2) (hts _ h3) (hts _ h4) hfr hlo w1 w2 hd (kk h z h' c0 n0 c1 n1 hk e1 e2 H locs ls hH hS hl)
def jMn (x y : Int32) : Int32 := if y < x then y else x
theorem sm_mmin (cx : Cx X cc own nL) {i : Nat} {x y : Int32} (h1 : Cond.methodLink own i Lib.Math.min.name ∈ TB) (h2 : Cond.static Lib.Math.min.name ∈ TB) (h3 : Cond.initialized "java/lang/Math" ∈ TB) (h4 : Cond.code Lib.Math.min.name Lib.Math.min.code 2 (some .int) ∈ TB) (hfr : 1 ≤ (xR X).frames) (hlo : (st.map fun v => v.category).sum + 13 ≤ (xR X).locals) (hd : decode cc pc = .ok (.invokestatic i, 3)) (kk : Sim X nL Fi (pc + 3) lv (.int (jMn x y) :: st) k) : Sim X nL Fi pc lv (.int y :: .int x :: st) k := by
  obtain ⟨p, l, e, R, s, m, args, below, meth, c, D, cy, A, Z⟩ := X
  obtain ⟨hx, hb, hml, hown, hts, hK, hA, hlk, hz⟩ := cx
  intro h z h' c0 n0 c1 n1 hk e1 e2 H locs ls hH hS hl
  have w1 : c0 ≤ R.cells := by omega
  have w2 : n0 ≤ R.slots := by omega
  exact va_mmin hx hb (hml.trans hl.1.symm) hown (hts _ h1) (hts _ h2) (hts _ h3) (hts _ h4) hfr hlo w1 w2 hd (kk h z h' c0 n0 c1 n1 hk e1 e2 H locs ls hH hS hl)
end LS
end
section
/-! ===== more rows ===== -/
/-- as often as any loop here goes round, and more -/
def fuL : Nat := 100000
theorem ct_i (x : Int32) : (Value.int x).category = 1 := rfl
theorem ct_l (x : Int64) : (Value.long x).category = 2 := rfl
theorem ct_r (x : Nat) : (Value.ref x).category = 1 := rfl
section LM
variable {α : Type} {X : Cg} {nL : Nat} {Fi : α → Hs → State → Prop} {pc : Nat} {lv : List (Nat × Value)} {st stk : List Value} {k : Mo α} {cc : ByteArray} {own : String}
theorem sm_newa0 (cx : Cx X cc own nL) {i : Int32} {K : Option Nat → Mo α} (hd : decode cc pc = .ok (.newarray .byte, 2)) (kk : ∀ b, Sim X nL Fi (pc + 2) lv (va_rf b :: st) (K b)) : Sim X nL Fi pc lv (.int i :: st) (mb (nA 0 i) K) := sm_newa cx 0 (at0 := .byte) (ty := .byte) rfl (fun _ => rfl) rfl (fun _ _ => rfl) (fun _ _ h => h) (by decide) wd_1_100 hd kk
theorem sm_newa1 (cx : Cx X cc own nL) {i : Int32} {K : Option Nat → Mo α} (hd : decode cc pc = .ok (.newarray .int, 2)) (kk : ∀ b, Sim X nL Fi (pc + 2) lv (va_rf b :: st) (K b)) : Sim X nL Fi pc lv (.int i :: st) (mb (nA 1 i) K) := sm_newa cx 1 (at0 := .int) (ty := .int) rfl (fun _ => rfl) rfl (fun _ _ => rfl) (fun _ _ h => h) (by decide) wd_1_86 hd kk
theorem sm_newa2 (cx : Cx X cc own nL) {i : Int32} {K : Option Nat → Mo α} (hd : decode cc pc = .ok (.newarray .long, 2)) (kk : ∀ b, Sim X nL Fi (pc + 2) lv (va_rf b :: st) (K b)) : Sim X nL Fi pc lv (.int i :: st) (mb (nA 2 i) K) := sm_newa cx 2 (at0 := .long) (ty := .long) rfl (fun _ => rfl) rfl (fun _ _ => rfl) (fun _ _ h => h) (by decide) wd_1_85 hd kk
theorem sm_newa3 (cx : Cx X cc own nL) {i : Int32} {K : Option Nat → Mo α} (hd : decode cc pc = .ok (.newarray .boolean, 2)) (kk : ∀ b, Sim X nL Fi (pc + 2) lv (va_rf b :: st) (K b)) : Sim X nL Fi pc lv (.int i :: st) (mb (nA 3 i) K) := sm_newa cx 3 (at0 := .boolean) (ty := .boolean) rfl (fun _ => rfl) rfl (fun _ _ => rfl) (fun _ _ h => h) (by decide) wd_7_29 hd kk
theorem moS_some {Z : Nat → Nat} {r : Option Nat} {x : Mo α} {h : Hs} {y : α × Hs × Nat × Nat} (e : moS Z r x h = some y) : ∃ i, i < 6 ∧ r = some (Z (10 + i)) ∧ x h = some y := by
  unfold moS at e
  split at e
  · rename_i i hi
    obtain ⟨q1, q2⟩ := wIx_some hi
    exact ⟨i, q1, q2, e⟩
  · cases e
/-- a call on a word -/
theorem sm_callW {β : Type} (cx : Cx X cc own nL) {i : Nat} {y : MethodName} {bytes : ByteArray} {maxL : Nat} {ret : Option FieldType} {fr lo : Nat} (As : List Value) {r : Option Nat} {toV : β → Option Value} {f : Mo β} {K : β → Mo α} (hW : CalV own i "java/lang/String" y bytes maxL ret As.length)
    (hM : ∀ a, r = some a → Ct y bytes maxL ret fr lo (xZ X) (.ref a :: As) toV f) (hfr : fr + 1 ≤ (xR X).frames) (hlo : 8 + (maxL + 11) + lo ≤ (xR X).locals) (hst : stk = As.reverse ++ va_rf r :: st) (hcat : (st.map fun v => v.category).sum ≤ 8) (hd : decode cc pc = .ok (.invokevirtual i, 3)) (kk : ∀ b, Sim X nL Fi (pc + 3) lv ((toV b).toList ++ st) (K b)) : Sim X nL Fi pc lv stk (mb (moS (xZ X) r f) K) := by
  obtain ⟨p, l, e, R, s, m, args, below, meth, c, D, cy, A, Z⟩ := X
  obtain ⟨hx, hb, hml, hown, hts, hK, hA, hlk, hz⟩ := cx
  intro h z h' c0 n0 c1 n1 hk e1 e2 H locs ls hH hS hl
  obtain ⟨b, h1, ca, na, cb, nb, k1, k2, rfl, rfl⟩ := mb_some hk
  obtain ⟨j, hj, rfl, kf⟩ := moS_some k1
  have M := hM _ rfl l D cy A h b h1 ca na kf
  refine cg_back (mc := ca) (ms := na) (va_runV (As := As) (rest := st) (C := "java/lang/String") ⟨hx, hb, hml, hown, hts⟩ M (cwV As.length hts hW.1 rfl rfl rfl hW.2 ⟨hfr, hlo⟩) ⟨fb_pre, vk_recv hz.2.2.2.2.1.2 hj hS, fun U hU hWm => ⟨rfl, pre_at hK hA hz hS hH hU hWm⟩⟩ rfl rfl hl.1 hst (lv_room hcat) hd ⟨by omega, by omega⟩) hS (fun H1 locs1 hH1 hS1 => ?_)
  exact kk b h1 z h' (c0 + ca) (n0 + na) cb nb k2 (by omega) (by omega) H1 locs1 ls hH1 hS1 hl
theorem sm_ext {k1 k2 : Mo α} (h : k1 = k2) (kk : Sim X nL Fi pc lv st k1) : Sim X nL Fi pc lv st k2 := h ▸ kk
theorem sm_tin (cx : Cx X cc own nL) {dflt lo hi : Int} {offs : Array Int} {len : Nat} {x : Int32} {off : Int} {tgt : Nat} (hd : decode cc pc = .ok (.tableswitch dflt lo hi offs, len)) (h1 : ¬ x.toInt < lo) (h2 : ¬ hi < x.toInt) (ho : offs[(x.toInt - lo).toNat]? = some off) (ht : (pc : Int) + off = (tgt : Int)) (kk : Sim X nL Fi tgt lv st k) : Sim X nL Fi pc lv (.int x :: st) k := by
  obtain ⟨p, l, e, R, s, m, args, below, meth, c, D, cy, A, Z⟩ := X
  obtain ⟨hx, hb, hml, hown, hts, hK, hA, hlk, hz⟩ := cx
  intro h z h' c0 n0 c1 n1 hk e1 e2 H locs ls hH hS hl
  exact lv_tableIn hx hb hd h1 h2 ho ht (kk h z h' c0 n0 c1 n1 hk e1 e2 H locs ls hH hS hl)
theorem sm_tout (cx : Cx X cc own nL) {dflt lo hi : Int} {offs : Array Int} {len : Nat} {x : Int32} {tgt : Nat} (hd : decode cc pc = .ok (.tableswitch dflt lo hi offs, len)) (h1 : x.toInt < lo ∨ hi < x.toInt) (ht : (pc : Int) + dflt = (tgt : Int)) (kk : Sim X nL Fi tgt lv st k) : Sim X nL Fi pc lv (.int x :: st) k := by
  obtain ⟨p, l, e, R, s, m, args, below, meth, c, D, cy, A, Z⟩ := X
  obtain ⟨hx, hb, hml, hown, hts, hK, hA, hlk, hz⟩ := cx
  intro h z h' c0 n0 c1 n1 hk e1 e2 H locs ls hH hS hl
  exact lv_tableOut hx hb hd h1 ht (kk h z h' c0 n0 c1 n1 hk e1 e2 H locs ls hH hS hl)
theorem sm_tsw7 (cx : Cx X cc own nL) {x : Int32} {dflt o0 o1 o2 o3 o4 o5 o6 : Int} {len td : Nat} {t0 : Nat} {t1 : Nat} {t2 : Nat} {t3 : Nat} {t4 : Nat} {t5 : Nat} {t6 : Nat} {k0 k1 k2 k3 k4 k5 k6 kd : Mo α} (hd : decode cc pc = .ok (.tableswitch dflt 0 6 #[o0, o1, o2, o3, o4, o5, o6], len)) (h0 : (pc : Int) + o0 = (t0 : Int)) (h1 : (pc : Int) + o1 = (t1 : Int)) (h2 : (pc : Int) + o2 = (t2 : Int)) (h3 : (pc : Int) + o3 = (t3 : Int)) (h4 : (pc : Int) + o4 = (t4 : Int)) (h5 : (pc : Int) + o5 = (t5 : Int)) (h6 : (pc : Int) + o6 = (t6 : Int)) (hdd : (pc : Int) + dflt = (td : Int)) (q0 : Sim X nL Fi t0 lv st k0) (q1 : Sim X nL Fi t1 lv st k1) (q2 : Sim X nL Fi t2 lv st k2) (q3 : Sim X nL Fi t3 lv st k3) (q4 : Sim X nL Fi t4 lv st k4) (q5 : Sim X nL Fi t5 lv st k5) (q6 : Sim X nL Fi t6 lv st k6) (qd : Sim X nL Fi td lv st kd) : Sim X nL Fi pc lv (.int x :: st) (if x = 0 then k0 else (if x = 1 then k1 else (if x = 2 then k2 else (if x = 3 then k3 else (if x = 4 then k4 else (if x = 5 then k5 else (if x = 6 then k6 else kd))))))) := by
  by_cases c0 : x = 0
  · subst c0
    rw [if_pos rfl]
    exact sm_tin cx hd (by decide) (by decide) rfl h0 q0
  rw [if_neg c0]
  by_cases c1 : x = 1
  · subst c1
    rw [if_pos rfl]
    exact sm_tin cx hd (by decide) (by decide) rfl h1 q1
  rw [if_neg c1]
  by_cases c2 : x = 2
  · subst c2
    rw [if_pos rfl]
    exact sm_tin cx hd (by decide) (by decide) rfl h2 q2
  rw [if_neg c2]
  by_cases c3 : x = 3
  · subst c3
    rw [if_pos rfl]
    exact sm_tin cx hd (by decide) (by decide) rfl h3 q3
  rw [if_neg c3]
  by_cases c4 : x = 4
  · subst c4
    rw [if_pos rfl]
    exact sm_tin cx hd (by decide) (by decide) rfl h4 q4
  rw [if_neg c4]
  by_cases c5 : x = 5
  · subst c5
    rw [if_pos rfl]
    exact sm_tin cx hd (by decide) (by decide) rfl h5 q5
  rw [if_neg c5]
  by_cases c6 : x = 6
  · subst c6
    rw [if_pos rfl]
    exact sm_tin cx hd (by decide) (by decide) rfl h6 q6
  rw [if_neg c6]
  refine sm_tout cx hd ?_ hdd qd
  have key : ∀ n : Int32, ∀ m : Int, n.toInt = m → ¬ x = n → x.toInt ≠ m := fun n m e hne he => hne (Int32.toInt_inj.mp (he.trans e.symm))
  have g0 := key 0 0 (by decide) c0
  have g1 := key 1 1 (by decide) c1
  have g2 := key 2 2 (by decide) c2
  have g3 := key 3 3 (by decide) c3
  have g4 := key 4 4 (by decide) c4
  have g5 := key 5 5 (by decide) c5
  have g6 := key 6 6 (by decide) c6
  omega
end LM
end
section
theorem cv_J0_335 : CalV RJ0 335 RJ0 yJ0_coder_7d493 cJ0_coder_7d493 1 (some .byte) 0 := ⟨wd_V wd_4_130 wd_4_131 wd_4_132 wd_1_27 wd_4_133, rfl, by decide +kernel, by decide +kernel, by decide +kernel⟩
theorem cs_J0_1059 : CalS RJ0 1059 yJ3_checkIndex_8e157 cJ3_checkIndex_8e157 3 (some .int) 3 := ⟨wd_S wd_4_152 wd_2_136 wd_1_23 wd_2_137, by decide +kernel, by decide +kernel, by decide +kernel⟩
theorem cs_J1_9 : CalS RJ1 9 yJ0_checkIndex_df160 cJ0_checkIndex_df160 2 none 2 := ⟨wd_S wd_4_147 wd_4_148 wd_1_27 wd_4_149, by decide +kernel, by decide +kernel, by decide +kernel⟩
theorem cv_J0_492 : CalV RJ0 492 RJ0 yJ0_isLatin1_aae02 cJ0_isLatin1_aae02 1 (some .boolean) 0 := ⟨wd_V wd_4_140 wd_4_141 wd_4_142 wd_1_27 wd_4_143, rfl, by decide +kernel, by decide +kernel, by decide +kernel⟩
theorem cs_J0_495 : CalS RJ0 495 yJ1_charAt_3b067 cJ1_charAt_3b067 2 (some .char) 2 := ⟨wd_S wd_4_144 wd_4_145 wd_1_28 wd_4_146, by decide +kernel, by decide +kernel, by decide +kernel⟩
/-! java/lang/String.coder()B -/
theorem dJ0_coder_7d493_0 : decode cJ0_coder_7d493 0 = .ok (.getstatic 38, 3) := by decide +kernel
theorem dJ0_coder_7d493_3 : decode cJ0_coder_7d493 3 = .ok (.ifCond .eq 10, 3) := by decide +kernel
theorem dJ0_coder_7d493_6 : decode cJ0_coder_7d493 6 = .ok (.aload_n 0, 1) := by decide +kernel
theorem dJ0_coder_7d493_7 : decode cJ0_coder_7d493 7 = .ok (.getfield 15, 3) := by decide +kernel
theorem dJ0_coder_7d493_10 : decode cJ0_coder_7d493 10 = .ok (.goto 4, 3) := by decide +kernel
theorem dJ0_coder_7d493_13 : decode cJ0_coder_7d493 13 = .ok (.iconst 1, 1) := by decide +kernel
theorem dJ0_coder_7d493_14 : decode cJ0_coder_7d493 14 = .ok (.ireturn, 1) := by decide +kernel
def f_J0_coder_7d493_14 (Z : Nat → Nat) (sx0 : Int32) : Mo Int32 := rz .byte sx0
set_option maxRecDepth 100000 in
set_option maxHeartbeats 4000000 in
theorem s_J0_coder_7d493_14 {X : Cg} (cx : Cx X cJ0_coder_7d493 RJ0 1) (hfr : 0 ≤ (xR X).frames) (hlo : 0 ≤ (xR X).locals) (hr : (xM X).sig.returnType = (some .byte)) (sx0 : Int32) : Sim X 1 (FiM X vI) 14 [] [.int sx0] (f_J0_coder_7d493_14 (xZ X) sx0) := by
  unfold f_J0_coder_7d493_14
  exact sm_zret cx hr dJ0_coder_7d493_14
def f_J0_coder_7d493 (Z : Nat → Nat) (r0 : Option Nat) : Mo Int32 := (if (1 : Int32) = 0 then f_J0_coder_7d493_14 Z (1 : Int32) else mb (gSc Z r0) (fun v7 => f_J0_coder_7d493_14 Z v7))
set_option maxRecDepth 100000 in
set_option maxHeartbeats 4000000 in
theorem s_J0_coder_7d493 {X : Cg} (cx : Cx X cJ0_coder_7d493 RJ0 1) (hfr : 0 ≤ (xR X).frames) (hlo : 0 ≤ (xR X).locals) (hr : (xM X).sig.returnType = (some .byte)) (r0 : Option Nat) : Sim X 1 (FiM X vI) 0 [(0, va_rf r0)] [] (f_J0_coder_7d493 (xZ X) r0) := by
  unfold f_J0_coder_7d493
  refine sm_gsC cx wd_4_134 dJ0_coder_7d493_0 ?_
  refine sm_if_eq (tgt := 13) cx dJ0_coder_7d493_3 (by decide) ?_ ?_
  · refine sm_iconst (v := 1) cx dJ0_coder_7d493_13 (by decide) ?_
    exact sm_lv [] rfl (s_J0_coder_7d493_14 cx hfr hlo hr (1 : Int32))
  · refine sm_aload_n cx 0 dJ0_coder_7d493_6 rfl rfl ?_
    refine sm_gSc cx wd_5_228 dJ0_coder_7d493_7 (fun v7 => ?_)
    refine sm_goto (tgt := 14) cx dJ0_coder_7d493_10 (by decide) ?_
    exact sm_lv [] rfl (s_J0_coder_7d493_14 cx hfr hlo hr v7)
set_option maxRecDepth 100000 in
set_option maxHeartbeats 4000000 in
theorem ct_J0_coder_7d493 (Z : Nat → Nat) {r0 : Option Nat} (a0 : Nat) (h0 : r0 = some a0) : Ct yJ0_coder_7d493 cJ0_coder_7d493 1 (some .byte) 0 0 Z [.ref a0] vI (f_J0_coder_7d493 Z r0) := by
  subst h0
  refine ct_of (lv0 := [(0, va_rf (some a0))]) (by decide +kernel) (by simp [lg_sl, ct_i, ct_l, ct_r, rf_cat]) (by show _ = ([(0, Value.ref a0)] : List (Nat × Value)); simp [lv_args, ct_i, ct_l, ct_r, rf_cat]) (fun X cx hZ hfr hlo hr hin => ?_)
  subst hZ
  exact s_J0_coder_7d493 cx (Nat.le_of_eq hfr.symm) (Nat.le_of_eq hlo.symm) hr (some a0)
/-! java/lang/String.isLatin1()Z -/
theorem dJ0_isLatin1_aae02_0 : decode cJ0_isLatin1_aae02 0 = .ok (.getstatic 38, 3) := by decide +kernel
theorem dJ0_isLatin1_aae02_3 : decode cJ0_isLatin1_aae02 3 = .ok (.ifCond .eq 14, 3) := by decide +kernel
theorem dJ0_isLatin1_aae02_6 : decode cJ0_isLatin1_aae02 6 = .ok (.aload_n 0, 1) := by decide +kernel
theorem dJ0_isLatin1_aae02_7 : decode cJ0_isLatin1_aae02 7 = .ok (.getfield 15, 3) := by decide +kernel
theorem dJ0_isLatin1_aae02_10 : decode cJ0_isLatin1_aae02 10 = .ok (.ifCond .ne 7, 3) := by decide +kernel
theorem dJ0_isLatin1_aae02_13 : decode cJ0_isLatin1_aae02 13 = .ok (.iconst 1, 1) := by decide +kernel
theorem dJ0_isLatin1_aae02_14 : decode cJ0_isLatin1_aae02 14 = .ok (.goto 4, 3) := by decide +kernel
theorem dJ0_isLatin1_aae02_17 : decode cJ0_isLatin1_aae02 17 = .ok (.iconst 0, 1) := by decide +kernel
theorem dJ0_isLatin1_aae02_18 : decode cJ0_isLatin1_aae02 18 = .ok (.ireturn, 1) := by decide +kernel
def f_J0_isLatin1_aae02_18 (Z : Nat → Nat) (sx0 : Int32) : Mo Int32 := rz .boolean sx0
set_option maxRecDepth 100000 in
set_option maxHeartbeats 4000000 in
theorem s_J0_isLatin1_aae02_18 {X : Cg} (cx : Cx X cJ0_isLatin1_aae02 RJ0 1) (hfr : 0 ≤ (xR X).frames) (hlo : 0 ≤ (xR X).locals) (hr : (xM X).sig.returnType = (some .boolean)) (sx0 : Int32) : Sim X 1 (FiM X vI) 18 [] [.int sx0] (f_J0_isLatin1_aae02_18 (xZ X) sx0) := by
  unfold f_J0_isLatin1_aae02_18
  exact sm_zret cx hr dJ0_isLatin1_aae02_18
def f_J0_isLatin1_aae02_17 (Z : Nat → Nat) : Mo Int32 := f_J0_isLatin1_aae02_18 Z (0 : Int32)
set_option maxRecDepth 100000 in
set_option maxHeartbeats 4000000 in
theorem s_J0_isLatin1_aae02_17 {X : Cg} (cx : Cx X cJ0_isLatin1_aae02 RJ0 1) (hfr : 0 ≤ (xR X).frames) (hlo : 0 ≤ (xR X).locals) (hr : (xM X).sig.returnType = (some .boolean)) : Sim X 1 (FiM X vI) 17 [] [] (f_J0_isLatin1_aae02_17 (xZ X)) := by
  unfold f_J0_isLatin1_aae02_17
  refine sm_iconst (v := 0) cx dJ0_isLatin1_aae02_17 (by decide) ?_
  exact sm_lv [] rfl (s_J0_isLatin1_aae02_18 cx hfr hlo hr (0 : Int32))
def f_J0_isLatin1_aae02 (Z : Nat → Nat) (r0 : Option Nat) : Mo Int32 := (if (1 : Int32) = 0 then f_J0_isLatin1_aae02_17 Z else mb (gSc Z r0) (fun v7 => (if v7 = 0 then f_J0_isLatin1_aae02_18 Z (1 : Int32) else f_J0_isLatin1_aae02_17 Z)))
set_option maxRecDepth 100000 in
set_option maxHeartbeats 4000000 in
theorem s_J0_isLatin1_aae02 {X : Cg} (cx : Cx X cJ0_isLatin1_aae02 RJ0 1) (hfr : 0 ≤ (xR X).frames) (hlo : 0 ≤ (xR X).locals) (hr : (xM X).sig.returnType = (some .boolean)) (r0 : Option Nat) : Sim X 1 (FiM X vI) 0 [(0, va_rf r0)] [] (f_J0_isLatin1_aae02 (xZ X) r0) := by
  unfold f_J0_isLatin1_aae02
  refine sm_gsC cx wd_4_134 dJ0_isLatin1_aae02_0 ?_
  refine sm_if_eq (tgt := 17) cx dJ0_isLatin1_aae02_3 (by decide) ?_ ?_
  · exact sm_lv [] rfl (s_J0_isLatin1_aae02_17 cx hfr hlo hr)
  · refine sm_aload_n cx 0 dJ0_isLatin1_aae02_6 rfl rfl ?_
    refine sm_gSc cx wd_5_228 dJ0_isLatin1_aae02_7 (fun v7 => ?_)
    refine sm_if_ne (tgt := 17) cx dJ0_isLatin1_aae02_10 (by decide) ?_ ?_
    · exact sm_lv [] rfl (s_J0_isLatin1_aae02_17 cx hfr hlo hr)
    · refine sm_iconst (v := 1) cx dJ0_isLatin1_aae02_13 (by decide) ?_
      refine sm_goto (tgt := 18) cx dJ0_isLatin1_aae02_14 (by decide) ?_
      exact sm_lv [] rfl (s_J0_isLatin1_aae02_18 cx hfr hlo hr (1 : Int32))
set_option maxRecDepth 100000 in
set_option maxHeartbeats 4000000 in
theorem ct_J0_isLatin1_aae02 (Z : Nat → Nat) {r0 : Option Nat} (a0 : Nat) (h0 : r0 = some a0) : Ct yJ0_isLatin1_aae02 cJ0_isLatin1_aae02 1 (some .boolean) 0 0 Z [.ref a0] vI (f_J0_isLatin1_aae02 Z r0) := by
  subst h0
  refine ct_of (lv0 := [(0, va_rf (some a0))]) (by decide +kernel) (by simp [lg_sl, ct_i, ct_l, ct_r, rf_cat]) (by show _ = ([(0, Value.ref a0)] : List (Nat × Value)); simp [lv_args, ct_i, ct_l, ct_r, rf_cat]) (fun X cx hZ hfr hlo hr hin => ?_)
  subst hZ
  exact s_J0_isLatin1_aae02 cx (Nat.le_of_eq hfr.symm) (Nat.le_of_eq hlo.symm) hr (some a0)
/-! java/lang/String.length()I -/
theorem dJ0_length_8abf5_0 : decode cJ0_length_8abf5 0 = .ok (.aload_n 0, 1) := by decide +kernel
theorem dJ0_length_8abf5_1 : decode cJ0_length_8abf5 1 = .ok (.getfield 9, 3) := by decide +kernel
theorem dJ0_length_8abf5_4 : decode cJ0_length_8abf5 4 = .ok (.arraylength, 1) := by decide +kernel
theorem dJ0_length_8abf5_5 : decode cJ0_length_8abf5 5 = .ok (.aload_n 0, 1) := by decide +kernel
theorem dJ0_length_8abf5_6 : decode cJ0_length_8abf5 6 = .ok (.invokevirtual 335, 3) := by decide +kernel
theorem dJ0_length_8abf5_9 : decode cJ0_length_8abf5 9 = .ok (.ishr, 1) := by decide +kernel
theorem dJ0_length_8abf5_10 : decode cJ0_length_8abf5 10 = .ok (.ireturn, 1) := by decide +kernel
def f_J0_length_8abf5 (Z : Nat → Nat) (r0 : Option Nat) : Mo Int32 := mb (gSv Z r0) (fun v1 => mb (aSn Z v1) (fun v4 => mb (moS Z r0 (f_J0_coder_7d493 Z r0)) (fun v6 => mp (v4 >>> (v6 &&& 31)))))
set_option maxRecDepth 100000 in
set_option maxHeartbeats 4000000 in
theorem s_J0_length_8abf5 {X : Cg} (cx : Cx X cJ0_length_8abf5 RJ0 1) (hfr : 1 ≤ (xR X).frames) (hlo : 20 ≤ (xR X).locals) (hr : (xM X).sig.returnType = (some .int)) (r0 : Option Nat) : Sim X 1 (FiM X vI) 0 [(0, va_rf r0)] [] (f_J0_length_8abf5 (xZ X) r0) := by
  unfold f_J0_length_8abf5
  refine sm_aload_n cx 0 dJ0_length_8abf5_0 rfl rfl ?_
  refine sm_gSv cx wd_5_227 dJ0_length_8abf5_1 (fun v1 => ?_)
  refine sm_aSn cx dJ0_length_8abf5_4 (fun v4 => ?_)
  refine sm_aload_n cx 0 dJ0_length_8abf5_5 rfl rfl ?_
  refine sm_callW (toV := vI) cx [] cv_J0_335 (fun a h => ct_J0_coder_7d493 (xZ X) a h) (Nat.le_trans (by decide) hfr) (Nat.le_trans (by decide) hlo) rfl (cat_le _ (Nat.le_of_ble_eq_true rfl)) dJ0_length_8abf5_6 (fun v6 => ?_)
  refine sm_ishr cx dJ0_length_8abf5_9 ?_
  exact sm_iret cx hr dJ0_length_8abf5_10
set_option maxRecDepth 100000 in
set_option maxHeartbeats 4000000 in
theorem ct_J0_length_8abf5 (Z : Nat → Nat) {r0 : Option Nat} (a0 : Nat) (h0 : r0 = some a0) : Ct yJ0_length_8abf5 cJ0_length_8abf5 1 (some .int) 1 20 Z [.ref a0] vI (f_J0_length_8abf5 Z r0) := by
  subst h0
  refine ct_of (lv0 := [(0, va_rf (some a0))]) (by decide +kernel) (by simp [lg_sl, ct_i, ct_l, ct_r, rf_cat]) (by show _ = ([(0, Value.ref a0)] : List (Nat × Value)); simp [lv_args, ct_i, ct_l, ct_r, rf_cat]) (fun X cx hZ hfr hlo hr hin => ?_)
  subst hZ
  exact s_J0_length_8abf5 cx (Nat.le_of_eq hfr.symm) (Nat.le_of_eq hlo.symm) hr (some a0)
/-! jdk/internal/util/Preconditions.checkIndex(IILjava/util/function/BiFunction;)I -/
theorem dJ3_checkIndex_8e157_0 : decode cJ3_checkIndex_8e157 0 = .ok (.iload_n 0, 1) := by decide +kernel
theorem dJ3_checkIndex_8e157_1 : decode cJ3_checkIndex_8e157 1 = .ok (.ifCond .lt 8, 3) := by decide +kernel
theorem dJ3_checkIndex_8e157_4 : decode cJ3_checkIndex_8e157 4 = .ok (.iload_n 0, 1) := by decide +kernel
theorem dJ3_checkIndex_8e157_5 : decode cJ3_checkIndex_8e157 5 = .ok (.iload_n 1, 1) := by decide +kernel
theorem dJ3_checkIndex_8e157_6 : decode cJ3_checkIndex_8e157 6 = .ok (.if_icmp .lt 10, 3) := by decide +kernel
theorem dJ3_checkIndex_8e157_9 : decode cJ3_checkIndex_8e157 9 = .ok (.aload_n 2, 1) := by decide +kernel
theorem dJ3_checkIndex_8e157_10 : decode cJ3_checkIndex_8e157 10 = .ok (.iload_n 0, 1) := by decide +kernel
theorem dJ3_checkIndex_8e157_11 : decode cJ3_checkIndex_8e157 11 = .ok (.iload_n 1, 1) := by decide +kernel
theorem dJ3_checkIndex_8e157_12 : decode cJ3_checkIndex_8e157 12 = .ok (.invokestatic 95, 3) := by decide +kernel
theorem dJ3_checkIndex_8e157_15 : decode cJ3_checkIndex_8e157 15 = .ok (.athrow, 1) := by decide +kernel
theorem dJ3_checkIndex_8e157_16 : decode cJ3_checkIndex_8e157 16 = .ok (.iload_n 0, 1) := by decide +kernel
theorem dJ3_checkIndex_8e157_17 : decode cJ3_checkIndex_8e157 17 = .ok (.ireturn, 1) := by decide +kernel
def f_J3_checkIndex_8e157_9 (x0 : Int32) (x1 : Int32) (r2 : Option Nat) : Mo Int32 := mf
set_option maxRecDepth 100000 in
set_option maxHeartbeats 4000000 in
theorem s_J3_checkIndex_8e157_9 {X : Cg} (cx : Cx X cJ3_checkIndex_8e157 RJ3 3) (hfr : 0 ≤ (xR X).frames) (hlo : 0 ≤ (xR X).locals) (hr : (xM X).sig.returnType = (some .int)) (x0 : Int32) (x1 : Int32) (r2 : Option Nat) : Sim X 3 (FiM X vI) 9 [(0, .int x0), (1, .int x1), (2, va_rf r2)] [] (f_J3_checkIndex_8e157_9 x0 x1 r2) := by
  unfold f_J3_checkIndex_8e157_9
  refine sm_aload_n cx 2 dJ3_checkIndex_8e157_9 rfl rfl ?_
  refine sm_iload_n cx 0 dJ3_checkIndex_8e157_10 rfl rfl ?_
  refine sm_iload_n cx 1 dJ3_checkIndex_8e157_11 rfl rfl ?_
  exact sm_mf
def f_J3_checkIndex_8e157 (x0 : Int32) (x1 : Int32) (r2 : Option Nat) : Mo Int32 := (if x0 < 0 then f_J3_checkIndex_8e157_9 x0 x1 r2 else (if x0 < x1 then mp x0 else f_J3_checkIndex_8e157_9 x0 x1 r2))
set_option maxRecDepth 100000 in
set_option maxHeartbeats 4000000 in
theorem s_J3_checkIndex_8e157 {X : Cg} (cx : Cx X cJ3_checkIndex_8e157 RJ3 3) (hfr : 0 ≤ (xR X).frames) (hlo : 0 ≤ (xR X).locals) (hr : (xM X).sig.returnType = (some .int)) (x0 : Int32) (x1 : Int32) (r2 : Option Nat) : Sim X 3 (FiM X vI) 0 [(0, .int x0), (1, .int x1), (2, va_rf r2)] [] (f_J3_checkIndex_8e157 x0 x1 r2) := by
  unfold f_J3_checkIndex_8e157
  refine sm_iload_n cx 0 dJ3_checkIndex_8e157_0 rfl rfl ?_
  refine sm_if_lt (tgt := 9) cx dJ3_checkIndex_8e157_1 (by decide) ?_ ?_
  · exact sm_lv [0, 1, 2] rfl (s_J3_checkIndex_8e157_9 cx hfr hlo hr x0 x1 r2)
  · refine sm_iload_n cx 0 dJ3_checkIndex_8e157_4 rfl rfl ?_
    refine sm_iload_n cx 1 dJ3_checkIndex_8e157_5 rfl rfl ?_
    refine sm_icmp_lt (tgt := 16) cx dJ3_checkIndex_8e157_6 (by decide) ?_ ?_
    · refine sm_iload_n cx 0 dJ3_checkIndex_8e157_16 rfl rfl ?_
      exact sm_iret cx hr dJ3_checkIndex_8e157_17
    · exact sm_lv [0, 1, 2] rfl (s_J3_checkIndex_8e157_9 cx hfr hlo hr x0 x1 r2)
set_option maxRecDepth 100000 in
set_option maxHeartbeats 4000000 in
theorem ct_J3_checkIndex_8e157 (Z : Nat → Nat) (x0 : Int32) (x1 : Int32) (r2 : Option Nat) : Ct yJ3_checkIndex_8e157 cJ3_checkIndex_8e157 3 (some .int) 0 0 Z [.int x0, .int x1, va_rf r2] vI (f_J3_checkIndex_8e157 x0 x1 r2) := by
  refine ct_of (lv0 := [(0, .int x0), (1, .int x1), (2, va_rf r2)]) (by decide +kernel) (by simp [lg_sl, ct_i, ct_l, ct_r, rf_cat]) (by show _ = ([(0, .int x0), (1, .int x1), (2, va_rf r2)] : List (Nat × Value)); simp [lv_args, ct_i, ct_l, ct_r, rf_cat]) (fun X cx hZ hfr hlo hr hin => ?_)
  subst hZ
  exact s_J3_checkIndex_8e157 cx (Nat.le_of_eq hfr.symm) (Nat.le_of_eq hlo.symm) hr x0 x1 r2
/-! java/lang/String.checkIndex(II)V -/
theorem dJ0_checkIndex_df160_0 : decode cJ0_checkIndex_df160 0 = .ok (.iload_n 0, 1) := by decide +kernel
theorem dJ0_checkIndex_df160_1 : decode cJ0_checkIndex_df160 1 = .ok (.iload_n 1, 1) := by decide +kernel
theorem dJ0_checkIndex_df160_2 : decode cJ0_checkIndex_df160 2 = .ok (.getstatic 1053, 3) := by decide +kernel
theorem dJ0_checkIndex_df160_5 : decode cJ0_checkIndex_df160 5 = .ok (.invokestatic 1059, 3) := by decide +kernel
theorem dJ0_checkIndex_df160_8 : decode cJ0_checkIndex_df160 8 = .ok (.pop, 1) := by decide +kernel
theorem dJ0_checkIndex_df160_9 : decode cJ0_checkIndex_df160 9 = .ok (.return_, 1) := by decide +kernel
def f_J0_checkIndex_df160 (Z : Nat → Nat) (x0 : Int32) (x1 : Int32) : Mo Unit := mb (f_J3_checkIndex_8e157 x0 x1 (zF Z)) (fun v5 => mp ())
set_option maxRecDepth 100000 in
set_option maxHeartbeats 4000000 in
theorem s_J0_checkIndex_df160 {X : Cg} (cx : Cx X cJ0_checkIndex_df160 RJ0 2) (hfr : 1 ≤ (xR X).frames) (hlo : 22 ≤ (xR X).locals) (hr : (xM X).sig.returnType = none) (x0 : Int32) (x1 : Int32) : Sim X 2 (FiM X vV) 0 [(0, .int x0), (1, .int x1)] [] (f_J0_checkIndex_df160 (xZ X) x0 x1) := by
  unfold f_J0_checkIndex_df160
  refine sm_iload_n cx 0 dJ0_checkIndex_df160_0 rfl rfl ?_
  refine sm_iload_n cx 1 dJ0_checkIndex_df160_1 rfl rfl ?_
  refine sm_gsF cx wd_4_150 dJ0_checkIndex_df160_2 ?_
  refine sm_callS (toV := vI) cx [.int x0, .int x1, va_rf (zF (xZ X))] cs_J0_1059 (ct_J3_checkIndex_8e157 (xZ X) x0 x1 (zF (xZ X))) (Nat.le_trans (by decide) hfr) (Nat.le_trans (by decide) hlo) rfl (cat_le _ (Nat.le_of_ble_eq_true rfl)) dJ0_checkIndex_df160_5 (fun v5 => ?_)
  refine sm_pop cx dJ0_checkIndex_df160_8 rfl ?_
  exact sm_vret cx hr dJ0_checkIndex_df160_9
set_option maxRecDepth 100000 in
set_option maxHeartbeats 4000000 in
theorem ct_J0_checkIndex_df160 (Z : Nat → Nat) (x0 : Int32) (x1 : Int32) : Ct yJ0_checkIndex_df160 cJ0_checkIndex_df160 2 none 1 22 Z [.int x0, .int x1] vV (f_J0_checkIndex_df160 Z x0 x1) := by
  refine ct_of (lv0 := [(0, .int x0), (1, .int x1)]) (by decide +kernel) (by simp [lg_sl, ct_i, ct_l, ct_r, rf_cat]) (by show _ = ([(0, .int x0), (1, .int x1)] : List (Nat × Value)); simp [lv_args, ct_i, ct_l, ct_r, rf_cat]) (fun X cx hZ hfr hlo hr hin => ?_)
  subst hZ
  exact s_J0_checkIndex_df160 cx (Nat.le_of_eq hfr.symm) (Nat.le_of_eq hlo.symm) hr x0 x1
/-! java/lang/StringLatin1.charAt([BI)C -/
theorem dJ1_charAt_3b067_0 : decode cJ1_charAt_3b067 0 = .ok (.iload_n 1, 1) := by decide +kernel
theorem dJ1_charAt_3b067_1 : decode cJ1_charAt_3b067 1 = .ok (.aload_n 0, 1) := by decide +kernel
theorem dJ1_charAt_3b067_2 : decode cJ1_charAt_3b067 2 = .ok (.arraylength, 1) := by decide +kernel
theorem dJ1_charAt_3b067_3 : decode cJ1_charAt_3b067 3 = .ok (.invokestatic 9, 3) := by decide +kernel
theorem dJ1_charAt_3b067_6 : decode cJ1_charAt_3b067 6 = .ok (.aload_n 0, 1) := by decide +kernel
theorem dJ1_charAt_3b067_7 : decode cJ1_charAt_3b067 7 = .ok (.iload_n 1, 1) := by decide +kernel
theorem dJ1_charAt_3b067_8 : decode cJ1_charAt_3b067 8 = .ok (.baload, 1) := by decide +kernel
theorem dJ1_charAt_3b067_9 : decode cJ1_charAt_3b067 9 = .ok (.sipush 255, 3) := by decide +kernel
theorem dJ1_charAt_3b067_12 : decode cJ1_charAt_3b067 12 = .ok (.iand, 1) := by decide +kernel
theorem dJ1_charAt_3b067_13 : decode cJ1_charAt_3b067 13 = .ok (.i2c, 1) := by decide +kernel
theorem dJ1_charAt_3b067_14 : decode cJ1_charAt_3b067 14 = .ok (.ireturn, 1) := by decide +kernel
def f_J1_charAt_3b067 (Z : Nat → Nat) (r0 : Option Nat) (x1 : Int32) : Mo Int32 := mb (aSn Z r0) (fun v2 => mb (f_J0_checkIndex_df160 Z x1 v2) (fun _ => mb (aSb Z r0 x1) (fun v8 => rz .char (UInt32.toInt32 (Int32.toUInt32 (v8 &&& (255 : Int32)) % 65536)))))
set_option maxRecDepth 100000 in
set_option maxHeartbeats 4000000 in
theorem s_J1_charAt_3b067 {X : Cg} (cx : Cx X cJ1_charAt_3b067 RJ1 2) (hfr : 2 ≤ (xR X).frames) (hlo : 43 ≤ (xR X).locals) (hr : (xM X).sig.returnType = (some .char)) (r0 : Option Nat) (x1 : Int32) : Sim X 2 (FiM X vI) 0 [(0, va_rf r0), (1, .int x1)] [] (f_J1_charAt_3b067 (xZ X) r0 x1) := by
  unfold f_J1_charAt_3b067
  refine sm_iload_n cx 1 dJ1_charAt_3b067_0 rfl rfl ?_
  refine sm_aload_n cx 0 dJ1_charAt_3b067_1 rfl rfl ?_
  refine sm_aSn cx dJ1_charAt_3b067_2 (fun v2 => ?_)
  refine sm_callS (toV := vV) cx [.int x1, .int v2] cs_J1_9 (ct_J0_checkIndex_df160 (xZ X) x1 v2) (Nat.le_trans (by decide) hfr) (Nat.le_trans (by decide) hlo) rfl (cat_le _ (Nat.le_of_ble_eq_true rfl)) dJ1_charAt_3b067_3 (fun _ => ?_)
  refine sm_aload_n cx 0 dJ1_charAt_3b067_6 rfl rfl ?_
  refine sm_iload_n cx 1 dJ1_charAt_3b067_7 rfl rfl ?_
  refine sm_aSb cx dJ1_charAt_3b067_8 (fun v8 => ?_)
  refine sm_sipush (v := 255) cx dJ1_charAt_3b067_9 (by decide) ?_
  refine sm_iand cx dJ1_charAt_3b067_12 ?_
  refine sm_i2c cx dJ1_charAt_3b067_13 ?_
  exact sm_zret cx hr dJ1_charAt_3b067_14
set_option maxRecDepth 100000 in
set_option maxHeartbeats 4000000 in
theorem ct_J1_charAt_3b067 (Z : Nat → Nat) (r0 : Option Nat) (x1 : Int32) : Ct yJ1_charAt_3b067 cJ1_charAt_3b067 2 (some .char) 2 43 Z [va_rf r0, .int x1] vI (f_J1_charAt_3b067 Z r0 x1) := by
  refine ct_of (lv0 := [(0, va_rf r0), (1, .int x1)]) (by decide +kernel) (by simp [lg_sl, ct_i, ct_l, ct_r, rf_cat]) (by show _ = ([(0, va_rf r0), (1, .int x1)] : List (Nat × Value)); simp [lv_args, ct_i, ct_l, ct_r, rf_cat]) (fun X cx hZ hfr hlo hr hin => ?_)
  subst hZ
  exact s_J1_charAt_3b067 cx (Nat.le_of_eq hfr.symm) (Nat.le_of_eq hlo.symm) hr r0 x1
/-! java/lang/String.charAt(I)C -/
theorem dJ0_charAt_5068e_0 : decode cJ0_charAt_5068e 0 = .ok (.aload_n 0, 1) := by decide +kernel
theorem dJ0_charAt_5068e_1 : decode cJ0_charAt_5068e 1 = .ok (.invokevirtual 492, 3) := by decide +kernel
theorem dJ0_charAt_5068e_4 : decode cJ0_charAt_5068e 4 = .ok (.ifCond .eq 12, 3) := by decide +kernel
theorem dJ0_charAt_5068e_7 : decode cJ0_charAt_5068e 7 = .ok (.aload_n 0, 1) := by decide +kernel
theorem dJ0_charAt_5068e_8 : decode cJ0_charAt_5068e 8 = .ok (.getfield 9, 3) := by decide +kernel
theorem dJ0_charAt_5068e_11 : decode cJ0_charAt_5068e 11 = .ok (.iload_n 1, 1) := by decide +kernel
theorem dJ0_charAt_5068e_12 : decode cJ0_charAt_5068e 12 = .ok (.invokestatic 495, 3) := by decide +kernel
theorem dJ0_charAt_5068e_15 : decode cJ0_charAt_5068e 15 = .ok (.ireturn, 1) := by decide +kernel
theorem dJ0_charAt_5068e_16 : decode cJ0_charAt_5068e 16 = .ok (.aload_n 0, 1) := by decide +kernel
theorem dJ0_charAt_5068e_17 : decode cJ0_charAt_5068e 17 = .ok (.getfield 9, 3) := by decide +kernel
theorem dJ0_charAt_5068e_20 : decode cJ0_charAt_5068e 20 = .ok (.iload_n 1, 1) := by decide +kernel
theorem dJ0_charAt_5068e_21 : decode cJ0_charAt_5068e 21 = .ok (.invokestatic 498, 3) := by decide +kernel
theorem dJ0_charAt_5068e_24 : decode cJ0_charAt_5068e 24 = .ok (.ireturn, 1) := by decide +kernel
def f_J0_charAt_5068e (Z : Nat → Nat) (r0 : Option Nat) (x1 : Int32) : Mo Int32 := mb (moS Z r0 (f_J0_isLatin1_aae02 Z r0)) (fun v1 => (if v1 = 0 then mb (gSv Z r0) (fun v17 => mf) else mb (gSv Z r0) (fun v8 => mb (f_J1_charAt_3b067 Z v8 x1) (fun v12 => rz .char v12))))
set_option maxRecDepth 100000 in
set_option maxHeartbeats 4000000 in
theorem s_J0_charAt_5068e {X : Cg} (cx : Cx X cJ0_charAt_5068e RJ0 2) (hfr : 3 ≤ (xR X).frames) (hlo : 64 ≤ (xR X).locals) (hr : (xM X).sig.returnType = (some .char)) (r0 : Option Nat) (x1 : Int32) : Sim X 2 (FiM X vI) 0 [(0, va_rf r0), (1, .int x1)] [] (f_J0_charAt_5068e (xZ X) r0 x1) := by
  unfold f_J0_charAt_5068e
  refine sm_aload_n cx 0 dJ0_charAt_5068e_0 rfl rfl ?_
  refine sm_callW (toV := vI) cx [] cv_J0_492 (fun a h => ct_J0_isLatin1_aae02 (xZ X) a h) (Nat.le_trans (by decide) hfr) (Nat.le_trans (by decide) hlo) rfl (cat_le _ (Nat.le_of_ble_eq_true rfl)) dJ0_charAt_5068e_1 (fun v1 => ?_)
  refine sm_if_eq (tgt := 16) cx dJ0_charAt_5068e_4 (by decide) ?_ ?_
  · refine sm_aload_n cx 0 dJ0_charAt_5068e_16 rfl rfl ?_
    refine sm_gSv cx wd_5_227 dJ0_charAt_5068e_17 (fun v17 => ?_)
    refine sm_iload_n cx 1 dJ0_charAt_5068e_20 rfl rfl ?_
    exact sm_mf
  · refine sm_aload_n cx 0 dJ0_charAt_5068e_7 rfl rfl ?_
    refine sm_gSv cx wd_5_227 dJ0_charAt_5068e_8 (fun v8 => ?_)
    refine sm_iload_n cx 1 dJ0_charAt_5068e_11 rfl rfl ?_
    refine sm_callS (toV := vI) cx [va_rf v8, .int x1] cs_J0_495 (ct_J1_charAt_3b067 (xZ X) v8 x1) (Nat.le_trans (by decide) hfr) (Nat.le_trans (by decide) hlo) rfl (cat_le _ (Nat.le_of_ble_eq_true rfl)) dJ0_charAt_5068e_12 (fun v12 => ?_)
    exact sm_zret cx hr dJ0_charAt_5068e_15
set_option maxRecDepth 100000 in
set_option maxHeartbeats 4000000 in
theorem ct_J0_charAt_5068e (Z : Nat → Nat) {r0 : Option Nat} (a0 : Nat) (h0 : r0 = some a0) (x1 : Int32) : Ct yJ0_charAt_5068e cJ0_charAt_5068e 2 (some .char) 3 64 Z [.ref a0, .int x1] vI (f_J0_charAt_5068e Z r0 x1) := by
  subst h0
  refine ct_of (lv0 := [(0, va_rf (some a0)), (1, .int x1)]) (by decide +kernel) (by simp [lg_sl, ct_i, ct_l, ct_r, rf_cat]) (by show _ = ([(0, Value.ref a0), (1, .int x1)] : List (Nat × Value)); simp [lv_args, ct_i, ct_l, ct_r, rf_cat]) (fun X cx hZ hfr hlo hr hin => ?_)
  subst hZ
  exact s_J0_charAt_5068e cx (Nat.le_of_eq hfr.symm) (Nat.le_of_eq hlo.symm) hr (some a0) x1
end
section
theorem inT_X12 : ∀ w ∈ u_ws RX12 TX12 47, w ∈ TB := by
  intro w h
  obtain ⟨k, hk, rfl⟩ := List.mem_map.mp h
  have hk := List.mem_range.mp hk
  match k, hk with
  | 0, _ => exact wd_6_174
  | 1, _ => exact wd_6_176
  | 2, _ => exact wd_6_178
  | 3, _ => exact wd_6_180
  | 4, _ => exact wd_6_182
  | 5, _ => exact wd_6_184
  | 6, _ => exact wd_6_186
  | 7, _ => exact wd_6_188
  | 8, _ => exact wd_6_190
  | 9, _ => exact wd_6_192
  | 10, _ => exact wd_6_194
  | 11, _ => exact wd_6_196
  | 12, _ => exact wd_6_198
  | 13, _ => exact wd_6_200
  | 14, _ => exact wd_6_202
  | 15, _ => exact wd_6_204
  | 16, _ => exact wd_6_206
  | 17, _ => exact wd_6_208
  | 18, _ => exact wd_6_210
  | 19, _ => exact wd_6_212
  | 20, _ => exact wd_6_214
  | 21, _ => exact wd_6_216
  | 22, _ => exact wd_6_218
  | 23, _ => exact wd_6_220
  | 24, _ => exact wd_6_222
  | 25, _ => exact wd_6_224
  | 26, _ => exact wd_6_226
  | 27, _ => exact wd_6_228
  | 28, _ => exact wd_6_230
  | 29, _ => exact wd_6_232
  | 30, _ => exact wd_6_234
  | 31, _ => exact wd_6_236
  | 32, _ => exact wd_6_238
  | 33, _ => exact wd_7_0
  | 34, _ => exact wd_7_2
  | 35, _ => exact wd_7_4
  | 36, _ => exact wd_7_6
  | 37, _ => exact wd_7_8
  | 38, _ => exact wd_7_10
  | 39, _ => exact wd_7_12
  | 40, _ => exact wd_7_14
  | 41, _ => exact wd_7_16
  | 42, _ => exact wd_7_18
  | 43, _ => exact wd_7_20
  | 44, _ => exact wd_7_22
  | 45, _ => exact wd_7_24
  | 46, _ => exact wd_7_26
  | k + 47, hk => exact absurd hk (by omega)
theorem fl_X12_9 : FldOk RX12 9 15 1 (.array .int) true true := ⟨RX12, TX12, 47, "PolicyTreeModel", tyX12, rfl, by decide, inT_X12, tyX12_ok, nmX12, wd_6_128, Or.inl rfl, tyX12_ok 1 (by decide), rfl, fun _ => rfl⟩
theorem fl_X12_13 : FldOk RX12 13 15 2 (.array .boolean) true true := ⟨RX12, TX12, 47, "PolicyTreeModel", tyX12, rfl, by decide, inT_X12, tyX12_ok, nmX12, wd_6_129, Or.inl rfl, tyX12_ok 2 (by decide), rfl, fun _ => rfl⟩
theorem fl_X12_17 : FldOk RX12 17 15 4 (.array .int) true true := ⟨RX12, TX12, 47, "PolicyTreeModel", tyX12, rfl, by decide, inT_X12, tyX12_ok, nmX12, wd_6_131, Or.inl rfl, tyX12_ok 4 (by decide), rfl, fun _ => rfl⟩
theorem fl_X12_20 : FldOk RX12 20 15 5 (.array .int) true true := ⟨RX12, TX12, 47, "PolicyTreeModel", tyX12, rfl, by decide, inT_X12, tyX12_ok, nmX12, wd_6_132, Or.inl rfl, tyX12_ok 5 (by decide), rfl, fun _ => rfl⟩
theorem fl_X12_23 : FldOk RX12 23 15 6 (.array .int) true true := ⟨RX12, TX12, 47, "PolicyTreeModel", tyX12, rfl, by decide, inT_X12, tyX12_ok, nmX12, wd_6_133, Or.inl rfl, tyX12_ok 6 (by decide), rfl, fun _ => rfl⟩
theorem fl_X12_26 : FldOk RX12 26 15 8 (.array .int) true true := ⟨RX12, TX12, 47, "PolicyTreeModel", tyX12, rfl, by decide, inT_X12, tyX12_ok, nmX12, wd_6_135, Or.inl rfl, tyX12_ok 8 (by decide), rfl, fun _ => rfl⟩
theorem fl_X12_29 : FldOk RX12 29 15 10 (.array .int) true true := ⟨RX12, TX12, 47, "PolicyTreeModel", tyX12, rfl, by decide, inT_X12, tyX12_ok, nmX12, wd_6_137, Or.inl rfl, tyX12_ok 10 (by decide), rfl, fun _ => rfl⟩
theorem fl_X12_32 : FldOk RX12 32 15 11 (.array .int) true true := ⟨RX12, TX12, 47, "PolicyTreeModel", tyX12, rfl, by decide, inT_X12, tyX12_ok, nmX12, wd_6_138, Or.inl rfl, tyX12_ok 11 (by decide), rfl, fun _ => rfl⟩
theorem fl_X12_35 : FldOk RX12 35 15 13 (.array .int) true true := ⟨RX12, TX12, 47, "PolicyTreeModel", tyX12, rfl, by decide, inT_X12, tyX12_ok, nmX12, wd_6_140, Or.inl rfl, tyX12_ok 13 (by decide), rfl, fun _ => rfl⟩
theorem fl_X12_38 : FldOk RX12 38 15 14 (.array .byte) true true := ⟨RX12, TX12, 47, "PolicyTreeModel", tyX12, rfl, by decide, inT_X12, tyX12_ok, nmX12, wd_6_141, Or.inl rfl, tyX12_ok 14 (by decide), rfl, fun _ => rfl⟩
theorem fl_X12_42 : FldOk RX12 42 15 19 .int false true := ⟨RX12, TX12, 47, "PolicyTreeModel", tyX12, rfl, by decide, inT_X12, tyX12_ok, nmX12, wd_6_146, Or.inl rfl, tyX12_ok 19 (by decide), rfl, fun _ => rfl⟩
theorem fl_X12_46 : FldOk RX12 46 15 21 (.array .int) false true := ⟨RX12, TX12, 47, "PolicyTreeModel", tyX12, rfl, by decide, inT_X12, tyX12_ok, nmX12, wd_6_148, Or.inl rfl, tyX12_ok 21 (by decide), rfl, fun _ => rfl⟩
theorem fl_X12_49 : FldOk RX12 49 15 23 (.array .boolean) true true := ⟨RX12, TX12, 47, "PolicyTreeModel", tyX12, rfl, by decide, inT_X12, tyX12_ok, nmX12, wd_6_150, Or.inl rfl, tyX12_ok 23 (by decide), rfl, fun _ => rfl⟩
theorem fl_X12_52 : FldOk RX12 52 15 24 (.array .int) true true := ⟨RX12, TX12, 47, "PolicyTreeModel", tyX12, rfl, by decide, inT_X12, tyX12_ok, nmX12, wd_6_151, Or.inl rfl, tyX12_ok 24 (by decide), rfl, fun _ => rfl⟩
theorem fl_X12_55 : FldOk RX12 55 15 25 (.array .int) true true := ⟨RX12, TX12, 47, "PolicyTreeModel", tyX12, rfl, by decide, inT_X12, tyX12_ok, nmX12, wd_6_152, Or.inl rfl, tyX12_ok 25 (by decide), rfl, fun _ => rfl⟩
theorem fl_X12_58 : FldOk RX12 58 15 26 (.array .int) true true := ⟨RX12, TX12, 47, "PolicyTreeModel", tyX12, rfl, by decide, inT_X12, tyX12_ok, nmX12, wd_6_153, Or.inl rfl, tyX12_ok 26 (by decide), rfl, fun _ => rfl⟩
theorem fl_X12_61 : FldOk RX12 61 15 27 (.array .boolean) true true := ⟨RX12, TX12, 47, "PolicyTreeModel", tyX12, rfl, by decide, inT_X12, tyX12_ok, nmX12, wd_6_154, Or.inl rfl, tyX12_ok 27 (by decide), rfl, fun _ => rfl⟩
theorem fl_X12_64 : FldOk RX12 64 15 28 (.array .boolean) true true := ⟨RX12, TX12, 47, "PolicyTreeModel", tyX12, rfl, by decide, inT_X12, tyX12_ok, nmX12, wd_6_155, Or.inl rfl, tyX12_ok 28 (by decide), rfl, fun _ => rfl⟩
theorem fl_X12_67 : FldOk RX12 67 15 29 (.array .int) true true := ⟨RX12, TX12, 47, "PolicyTreeModel", tyX12, rfl, by decide, inT_X12, tyX12_ok, nmX12, wd_6_156, Or.inl rfl, tyX12_ok 29 (by decide), rfl, fun _ => rfl⟩
theorem fl_X12_70 : FldOk RX12 70 15 30 (.array .int) true true := ⟨RX12, TX12, 47, "PolicyTreeModel", tyX12, rfl, by decide, inT_X12, tyX12_ok, nmX12, wd_6_157, Or.inl rfl, tyX12_ok 30 (by decide), rfl, fun _ => rfl⟩
theorem fl_X12_73 : FldOk RX12 73 15 31 (.array .int) true true := ⟨RX12, TX12, 47, "PolicyTreeModel", tyX12, rfl, by decide, inT_X12, tyX12_ok, nmX12, wd_6_158, Or.inl rfl, tyX12_ok 31 (by decide), rfl, fun _ => rfl⟩
theorem fl_X12_76 : FldOk RX12 76 15 33 (.array .int) true true := ⟨RX12, TX12, 47, "PolicyTreeModel", tyX12, rfl, by decide, inT_X12, tyX12_ok, nmX12, wd_6_160, Or.inl rfl, tyX12_ok 33 (by decide), rfl, fun _ => rfl⟩
theorem fl_X12_79 : FldOk RX12 79 15 34 (.array .int) true true := ⟨RX12, TX12, 47, "PolicyTreeModel", tyX12, rfl, by decide, inT_X12, tyX12_ok, nmX12, wd_6_161, Or.inl rfl, tyX12_ok 34 (by decide), rfl, fun _ => rfl⟩
theorem fl_X12_82 : FldOk RX12 82 15 35 (.array .int) true true := ⟨RX12, TX12, 47, "PolicyTreeModel", tyX12, rfl, by decide, inT_X12, tyX12_ok, nmX12, wd_6_162, Or.inl rfl, tyX12_ok 35 (by decide), rfl, fun _ => rfl⟩
theorem fl_X12_85 : FldOk RX12 85 15 37 (.array .int) true true := ⟨RX12, TX12, 47, "PolicyTreeModel", tyX12, rfl, by decide, inT_X12, tyX12_ok, nmX12, wd_6_164, Or.inl rfl, tyX12_ok 37 (by decide), rfl, fun _ => rfl⟩
theorem fl_X12_88 : FldOk RX12 88 15 40 (.array .int) true true := ⟨RX12, TX12, 47, "PolicyTreeModel", tyX12, rfl, by decide, inT_X12, tyX12_ok, nmX12, wd_6_167, Or.inl rfl, tyX12_ok 40 (by decide), rfl, fun _ => rfl⟩
theorem fl_X12_91 : FldOk RX12 91 15 44 (.array .int) true true := ⟨RX12, TX12, 47, "PolicyTreeModel", tyX12, rfl, by decide, inT_X12, tyX12_ok, nmX12, wd_6_171, Or.inl rfl, tyX12_ok 44 (by decide), rfl, fun _ => rfl⟩
theorem fl_X12_94 : FldOk RX12 94 15 3 .int false true := ⟨RX12, TX12, 47, "PolicyTreeModel", tyX12, rfl, by decide, inT_X12, tyX12_ok, nmX12, wd_6_130, Or.inl rfl, tyX12_ok 3 (by decide), rfl, fun _ => rfl⟩
theorem fl_X12_97 : FldOk RX12 97 15 0 .int false true := ⟨RX12, TX12, 47, "PolicyTreeModel", tyX12, rfl, by decide, inT_X12, tyX12_ok, nmX12, wd_6_127, Or.inl rfl, tyX12_ok 0 (by decide), rfl, fun _ => rfl⟩
theorem fl_X12_108 : FldOk RX12 108 15 7 .int false true := ⟨RX12, TX12, 47, "PolicyTreeModel", tyX12, rfl, by decide, inT_X12, tyX12_ok, nmX12, wd_6_134, Or.inl rfl, tyX12_ok 7 (by decide), rfl, fun _ => rfl⟩
theorem fl_X12_111 : FldOk RX12 111 15 9 .int false true := ⟨RX12, TX12, 47, "PolicyTreeModel", tyX12, rfl, by decide, inT_X12, tyX12_ok, nmX12, wd_6_136, Or.inl rfl, tyX12_ok 9 (by decide), rfl, fun _ => rfl⟩
theorem fl_X12_118 : FldOk RX12 118 15 12 .int false true := ⟨RX12, TX12, 47, "PolicyTreeModel", tyX12, rfl, by decide, inT_X12, tyX12_ok, nmX12, wd_6_139, Or.inl rfl, tyX12_ok 12 (by decide), rfl, fun _ => rfl⟩
theorem fl_X12_128 : FldOk RX12 128 15 15 .int false true := ⟨RX12, TX12, 47, "PolicyTreeModel", tyX12, rfl, by decide, inT_X12, tyX12_ok, nmX12, wd_6_142, Or.inl rfl, tyX12_ok 15 (by decide), rfl, fun _ => rfl⟩
theorem cv_X12_104 : CalV RX12 104 RX12 yX12_bad cX12_bad 3 (some .boolean) 2 := ⟨wd_V wd_7_42 wd_7_44 wp_3_0 wd_1_16 wd_7_45, rfl, by decide +kernel, by decide +kernel, by decide +kernel⟩
theorem cv_X12_100 : CalV RX12 100 RX12 yX12_none cX12_none 3 (some .boolean) 2 := ⟨wd_V wd_7_38 wd_7_40 wp_2_15 wd_1_16 wd_7_41, rfl, by decide +kernel, by decide +kernel, by decide +kernel⟩
theorem cv_X12_114 : CalV RX12 114 RX12 yX12_allIn cX12_allIn 5 (some .int) 1 := ⟨wd_V wd_7_74 wd_7_76 wp_3_1 wd_1_16 wd_7_77, rfl, by decide +kernel, by decide +kernel, by decide +kernel⟩
theorem cv_X12_125 : CalV RX12 125 RX12 yX12_tells cX12_tells 3 (some .boolean) 2 := ⟨wd_V wd_7_89 wd_7_91 wp_3_2 wd_1_16 wd_7_92, rfl, by decide +kernel, by decide +kernel, by decide +kernel⟩
theorem cs_X12_121 : CalS RX12 121 yX12_isSetting cX12_isSetting 1 (some .boolean) 1 := ⟨wd_S wd_7_86 wd_7_87 wd_1_16 wd_7_88, by decide +kernel, by decide +kernel, by decide +kernel⟩
/-! PolicyTreeModel.<init>()V -/
theorem dX12_init_0 : decode cX12_init 0 = .ok (.aload_n 0, 1) := by decide +kernel
theorem dX12_init_1 : decode cX12_init 1 = .ok (.invokespecial 1, 3) := by decide +kernel
theorem dX12_init_4 : decode cX12_init 4 = .ok (.aload_n 0, 1) := by decide +kernel
theorem dX12_init_5 : decode cX12_init 5 = .ok (.bipush 60, 2) := by decide +kernel
theorem dX12_init_7 : decode cX12_init 7 = .ok (.newarray .int, 2) := by decide +kernel
theorem dX12_init_9 : decode cX12_init 9 = .ok (.putfield 9, 3) := by decide +kernel
theorem dX12_init_12 : decode cX12_init 12 = .ok (.aload_n 0, 1) := by decide +kernel
theorem dX12_init_13 : decode cX12_init 13 = .ok (.bipush 60, 2) := by decide +kernel
theorem dX12_init_15 : decode cX12_init 15 = .ok (.newarray .boolean, 2) := by decide +kernel
theorem dX12_init_17 : decode cX12_init 17 = .ok (.putfield 13, 3) := by decide +kernel
theorem dX12_init_20 : decode cX12_init 20 = .ok (.aload_n 0, 1) := by decide +kernel
theorem dX12_init_21 : decode cX12_init 21 = .ok (.bipush 60, 2) := by decide +kernel
theorem dX12_init_23 : decode cX12_init 23 = .ok (.newarray .int, 2) := by decide +kernel
theorem dX12_init_25 : decode cX12_init 25 = .ok (.putfield 17, 3) := by decide +kernel
theorem dX12_init_28 : decode cX12_init 28 = .ok (.aload_n 0, 1) := by decide +kernel
theorem dX12_init_29 : decode cX12_init 29 = .ok (.sipush 480, 3) := by decide +kernel
theorem dX12_init_32 : decode cX12_init 32 = .ok (.newarray .int, 2) := by decide +kernel
theorem dX12_init_34 : decode cX12_init 34 = .ok (.putfield 20, 3) := by decide +kernel
theorem dX12_init_37 : decode cX12_init 37 = .ok (.aload_n 0, 1) := by decide +kernel
theorem dX12_init_38 : decode cX12_init 38 = .ok (.bipush 60, 2) := by decide +kernel
theorem dX12_init_40 : decode cX12_init 40 = .ok (.newarray .int, 2) := by decide +kernel
theorem dX12_init_42 : decode cX12_init 42 = .ok (.putfield 23, 3) := by decide +kernel
theorem dX12_init_45 : decode cX12_init 45 = .ok (.aload_n 0, 1) := by decide +kernel
theorem dX12_init_46 : decode cX12_init 46 = .ok (.bipush 20, 2) := by decide +kernel
theorem dX12_init_48 : decode cX12_init 48 = .ok (.newarray .int, 2) := by decide +kernel
theorem dX12_init_50 : decode cX12_init 50 = .ok (.putfield 26, 3) := by decide +kernel
theorem dX12_init_53 : decode cX12_init 53 = .ok (.aload_n 0, 1) := by decide +kernel
theorem dX12_init_54 : decode cX12_init 54 = .ok (.bipush 40, 2) := by decide +kernel
theorem dX12_init_56 : decode cX12_init 56 = .ok (.newarray .int, 2) := by decide +kernel
theorem dX12_init_58 : decode cX12_init 58 = .ok (.putfield 29, 3) := by decide +kernel
theorem dX12_init_61 : decode cX12_init 61 = .ok (.aload_n 0, 1) := by decide +kernel
theorem dX12_init_62 : decode cX12_init 62 = .ok (.sipush 480, 3) := by decide +kernel
theorem dX12_init_65 : decode cX12_init 65 = .ok (.newarray .int, 2) := by decide +kernel
theorem dX12_init_67 : decode cX12_init 67 = .ok (.putfield 32, 3) := by decide +kernel
theorem dX12_init_70 : decode cX12_init 70 = .ok (.aload_n 0, 1) := by decide +kernel
theorem dX12_init_71 : decode cX12_init 71 = .ok (.bipush 12, 2) := by decide +kernel
theorem dX12_init_73 : decode cX12_init 73 = .ok (.newarray .int, 2) := by decide +kernel
theorem dX12_init_75 : decode cX12_init 75 = .ok (.putfield 35, 3) := by decide +kernel
theorem dX12_init_78 : decode cX12_init 78 = .ok (.aload_n 0, 1) := by decide +kernel
theorem dX12_init_79 : decode cX12_init 79 = .ok (.sipush 200, 3) := by decide +kernel
theorem dX12_init_82 : decode cX12_init 82 = .ok (.newarray .byte, 2) := by decide +kernel
theorem dX12_init_84 : decode cX12_init 84 = .ok (.putfield 38, 3) := by decide +kernel
theorem dX12_init_87 : decode cX12_init 87 = .ok (.aload_n 0, 1) := by decide +kernel
theorem dX12_init_88 : decode cX12_init 88 = .ok (.iconst (-1), 1) := by decide +kernel
theorem dX12_init_89 : decode cX12_init 89 = .ok (.putfield 42, 3) := by decide +kernel
theorem dX12_init_92 : decode cX12_init 92 = .ok (.aload_n 0, 1) := by decide +kernel
theorem dX12_init_93 : decode cX12_init 93 = .ok (.sipush 256, 3) := by decide +kernel
theorem dX12_init_96 : decode cX12_init 96 = .ok (.newarray .int, 2) := by decide +kernel
theorem dX12_init_98 : decode cX12_init 98 = .ok (.putfield 46, 3) := by decide +kernel
theorem dX12_init_101 : decode cX12_init 101 = .ok (.aload_n 0, 1) := by decide +kernel
theorem dX12_init_102 : decode cX12_init 102 = .ok (.bipush 64, 2) := by decide +kernel
theorem dX12_init_104 : decode cX12_init 104 = .ok (.newarray .boolean, 2) := by decide +kernel
theorem dX12_init_106 : decode cX12_init 106 = .ok (.putfield 49, 3) := by decide +kernel
theorem dX12_init_109 : decode cX12_init 109 = .ok (.aload_n 0, 1) := by decide +kernel
theorem dX12_init_110 : decode cX12_init 110 = .ok (.bipush 100, 2) := by decide +kernel
theorem dX12_init_112 : decode cX12_init 112 = .ok (.newarray .int, 2) := by decide +kernel
theorem dX12_init_114 : decode cX12_init 114 = .ok (.putfield 52, 3) := by decide +kernel
theorem dX12_init_117 : decode cX12_init 117 = .ok (.aload_n 0, 1) := by decide +kernel
theorem dX12_init_118 : decode cX12_init 118 = .ok (.bipush 100, 2) := by decide +kernel
theorem dX12_init_120 : decode cX12_init 120 = .ok (.newarray .int, 2) := by decide +kernel
theorem dX12_init_122 : decode cX12_init 122 = .ok (.putfield 55, 3) := by decide +kernel
theorem dX12_init_125 : decode cX12_init 125 = .ok (.aload_n 0, 1) := by decide +kernel
theorem dX12_init_126 : decode cX12_init 126 = .ok (.bipush 100, 2) := by decide +kernel
theorem dX12_init_128 : decode cX12_init 128 = .ok (.newarray .int, 2) := by decide +kernel
theorem dX12_init_130 : decode cX12_init 130 = .ok (.putfield 58, 3) := by decide +kernel
theorem dX12_init_133 : decode cX12_init 133 = .ok (.aload_n 0, 1) := by decide +kernel
theorem dX12_init_134 : decode cX12_init 134 = .ok (.bipush 100, 2) := by decide +kernel
theorem dX12_init_136 : decode cX12_init 136 = .ok (.newarray .boolean, 2) := by decide +kernel
theorem dX12_init_138 : decode cX12_init 138 = .ok (.putfield 61, 3) := by decide +kernel
theorem dX12_init_141 : decode cX12_init 141 = .ok (.aload_n 0, 1) := by decide +kernel
theorem dX12_init_142 : decode cX12_init 142 = .ok (.bipush 100, 2) := by decide +kernel
theorem dX12_init_144 : decode cX12_init 144 = .ok (.newarray .boolean, 2) := by decide +kernel
theorem dX12_init_146 : decode cX12_init 146 = .ok (.putfield 64, 3) := by decide +kernel
theorem dX12_init_149 : decode cX12_init 149 = .ok (.aload_n 0, 1) := by decide +kernel
theorem dX12_init_150 : decode cX12_init 150 = .ok (.bipush 100, 2) := by decide +kernel
theorem dX12_init_152 : decode cX12_init 152 = .ok (.newarray .int, 2) := by decide +kernel
theorem dX12_init_154 : decode cX12_init 154 = .ok (.putfield 67, 3) := by decide +kernel
theorem dX12_init_157 : decode cX12_init 157 = .ok (.aload_n 0, 1) := by decide +kernel
theorem dX12_init_158 : decode cX12_init 158 = .ok (.bipush 100, 2) := by decide +kernel
theorem dX12_init_160 : decode cX12_init 160 = .ok (.newarray .int, 2) := by decide +kernel
theorem dX12_init_162 : decode cX12_init 162 = .ok (.putfield 70, 3) := by decide +kernel
theorem dX12_init_165 : decode cX12_init 165 = .ok (.aload_n 0, 1) := by decide +kernel
theorem dX12_init_166 : decode cX12_init 166 = .ok (.bipush 100, 2) := by decide +kernel
theorem dX12_init_168 : decode cX12_init 168 = .ok (.newarray .int, 2) := by decide +kernel
theorem dX12_init_170 : decode cX12_init 170 = .ok (.putfield 73, 3) := by decide +kernel
theorem dX12_init_173 : decode cX12_init 173 = .ok (.aload_n 0, 1) := by decide +kernel
theorem dX12_init_174 : decode cX12_init 174 = .ok (.bipush 20, 2) := by decide +kernel
theorem dX12_init_176 : decode cX12_init 176 = .ok (.newarray .int, 2) := by decide +kernel
theorem dX12_init_178 : decode cX12_init 178 = .ok (.putfield 76, 3) := by decide +kernel
theorem dX12_init_181 : decode cX12_init 181 = .ok (.aload_n 0, 1) := by decide +kernel
theorem dX12_init_182 : decode cX12_init 182 = .ok (.bipush 60, 2) := by decide +kernel
theorem dX12_init_184 : decode cX12_init 184 = .ok (.newarray .int, 2) := by decide +kernel
theorem dX12_init_186 : decode cX12_init 186 = .ok (.putfield 79, 3) := by decide +kernel
theorem dX12_init_189 : decode cX12_init 189 = .ok (.aload_n 0, 1) := by decide +kernel
theorem dX12_init_190 : decode cX12_init 190 = .ok (.bipush 100, 2) := by decide +kernel
theorem dX12_init_192 : decode cX12_init 192 = .ok (.newarray .int, 2) := by decide +kernel
theorem dX12_init_194 : decode cX12_init 194 = .ok (.putfield 82, 3) := by decide +kernel
theorem dX12_init_197 : decode cX12_init 197 = .ok (.aload_n 0, 1) := by decide +kernel
theorem dX12_init_198 : decode cX12_init 198 = .ok (.bipush 100, 2) := by decide +kernel
theorem dX12_init_200 : decode cX12_init 200 = .ok (.newarray .int, 2) := by decide +kernel
theorem dX12_init_202 : decode cX12_init 202 = .ok (.putfield 85, 3) := by decide +kernel
theorem dX12_init_205 : decode cX12_init 205 = .ok (.aload_n 0, 1) := by decide +kernel
theorem dX12_init_206 : decode cX12_init 206 = .ok (.bipush 100, 2) := by decide +kernel
theorem dX12_init_208 : decode cX12_init 208 = .ok (.newarray .int, 2) := by decide +kernel
theorem dX12_init_210 : decode cX12_init 210 = .ok (.putfield 88, 3) := by decide +kernel
theorem dX12_init_213 : decode cX12_init 213 = .ok (.aload_n 0, 1) := by decide +kernel
theorem dX12_init_214 : decode cX12_init 214 = .ok (.sipush 29520, 3) := by decide +kernel
theorem dX12_init_217 : decode cX12_init 217 = .ok (.newarray .int, 2) := by decide +kernel
theorem dX12_init_219 : decode cX12_init 219 = .ok (.putfield 91, 3) := by decide +kernel
theorem dX12_init_222 : decode cX12_init 222 = .ok (.aload_n 0, 1) := by decide +kernel
theorem dX12_init_223 : decode cX12_init 223 = .ok (.getfield 9, 3) := by decide +kernel
theorem dX12_init_226 : decode cX12_init 226 = .ok (.iconst 0, 1) := by decide +kernel
theorem dX12_init_227 : decode cX12_init 227 = .ok (.iconst (-1), 1) := by decide +kernel
theorem dX12_init_228 : decode cX12_init 228 = .ok (.iastore, 1) := by decide +kernel
theorem dX12_init_229 : decode cX12_init 229 = .ok (.aload_n 0, 1) := by decide +kernel
theorem dX12_init_230 : decode cX12_init 230 = .ok (.iconst 1, 1) := by decide +kernel
theorem dX12_init_231 : decode cX12_init 231 = .ok (.putfield 94, 3) := by decide +kernel
theorem dX12_init_234 : decode cX12_init 234 = .ok (.return_, 1) := by decide +kernel
def f_X12_init (r0 : Option Nat) : Mo Unit := mb (mo 15 r0 (mp ())) (fun _ => mb (nA 1 (60 : Int32)) (fun v7 => mb (pV 15 1 r0 (va_rf v7)) (fun _ => mb (nA 3 (60 : Int32)) (fun v15 => mb (pV 15 2 r0 (va_rf v15)) (fun _ => mb (nA 1 (60 : Int32)) (fun v23 => mb (pV 15 4 r0 (va_rf v23)) (fun _ => mb (nA 1 (480 : Int32)) (fun v32 => mb (pV 15 5 r0 (va_rf v32)) (fun _ => mb (nA 1 (60 : Int32)) (fun v40 => mb (pV 15 6 r0 (va_rf v40)) (fun _ => mb (nA 1 (20 : Int32)) (fun v48 => mb (pV 15 8 r0 (va_rf v48)) (fun _ => mb (nA 1 (40 : Int32)) (fun v56 => mb (pV 15 10 r0 (va_rf v56)) (fun _ => mb (nA 1 (480 : Int32)) (fun v65 => mb (pV 15 11 r0 (va_rf v65)) (fun _ => mb (nA 1 (12 : Int32)) (fun v73 => mb (pV 15 13 r0 (va_rf v73)) (fun _ => mb (nA 0 (200 : Int32)) (fun v82 => mb (pV 15 14 r0 (va_rf v82)) (fun _ => mb (pV 15 19 r0 (.int (-1 : Int32))) (fun _ => mb (nA 1 (256 : Int32)) (fun v96 => mb (pV 15 21 r0 (va_rf v96)) (fun _ => mb (nA 3 (64 : Int32)) (fun v104 => mb (pV 15 23 r0 (va_rf v104)) (fun _ => mb (nA 1 (100 : Int32)) (fun v112 => mb (pV 15 24 r0 (va_rf v112)) (fun _ => mb (nA 1 (100 : Int32)) (fun v120 => mb (pV 15 25 r0 (va_rf v120)) (fun _ => mb (nA 1 (100 : Int32)) (fun v128 => mb (pV 15 26 r0 (va_rf v128)) (fun _ => mb (nA 3 (100 : Int32)) (fun v136 => mb (pV 15 27 r0 (va_rf v136)) (fun _ => mb (nA 3 (100 : Int32)) (fun v144 => mb (pV 15 28 r0 (va_rf v144)) (fun _ => mb (nA 1 (100 : Int32)) (fun v152 => mb (pV 15 29 r0 (va_rf v152)) (fun _ => mb (nA 1 (100 : Int32)) (fun v160 => mb (pV 15 30 r0 (va_rf v160)) (fun _ => mb (nA 1 (100 : Int32)) (fun v168 => mb (pV 15 31 r0 (va_rf v168)) (fun _ => mb (nA 1 (20 : Int32)) (fun v176 => mb (pV 15 33 r0 (va_rf v176)) (fun _ => mb (nA 1 (60 : Int32)) (fun v184 => mb (pV 15 34 r0 (va_rf v184)) (fun _ => mb (nA 1 (100 : Int32)) (fun v192 => mb (pV 15 35 r0 (va_rf v192)) (fun _ => mb (nA 1 (100 : Int32)) (fun v200 => mb (pV 15 37 r0 (va_rf v200)) (fun _ => mb (nA 1 (100 : Int32)) (fun v208 => mb (pV 15 40 r0 (va_rf v208)) (fun _ => mb (nA 1 (29520 : Int32)) (fun v217 => mb (pV 15 44 r0 (va_rf v217)) (fun _ => mb (gR 15 1 r0) (fun v223 => mb (sI 1 v223 (0 : Int32) (-1 : Int32)) (fun _ => mb (pV 15 3 r0 (.int (1 : Int32))) (fun _ => mp ())))))))))))))))))))))))))))))))))))))))))))))))))))))))))
set_option maxRecDepth 100000 in
set_option maxHeartbeats 4000000 in
theorem s_X12_init {X : Cg} (cx : Cx X cX12_init RX12 1) (hfr : 1 ≤ (xR X).frames) (hlo : 12 ≤ (xR X).locals) (hr : (xM X).sig.returnType = none) (hin : (xM X).name = "<init>") (r0 : Option Nat) : Sim X 1 (FiM X vV) 0 [(0, va_rf r0)] [] (f_X12_init r0) := by
  unfold f_X12_init
  refine sm_aload_n cx 0 dX12_init_0 rfl rfl ?_
  refine sm_obj (ci := 15) cx wd_6_126 wd_1_41 wd_1_42 (Nat.le_trans (by decide) hfr) (Nat.le_trans (by decide) hlo) dX12_init_1 rfl ?_
  refine sm_aload_n cx 0 dX12_init_4 rfl rfl ?_
  refine sm_bipush (v := 60) cx dX12_init_5 (by decide) ?_
  refine sm_newa1 cx dX12_init_7 (fun v7 => ?_)
  refine sm_putF cx hin fl_X12_9 (nr_ra _) (ft_ra _) dX12_init_9 ?_
  refine sm_aload_n cx 0 dX12_init_12 rfl rfl ?_
  refine sm_bipush (v := 60) cx dX12_init_13 (by decide) ?_
  refine sm_newa3 cx dX12_init_15 (fun v15 => ?_)
  refine sm_putF cx hin fl_X12_13 (nr_ra _) (ft_ra _) dX12_init_17 ?_
  refine sm_aload_n cx 0 dX12_init_20 rfl rfl ?_
  refine sm_bipush (v := 60) cx dX12_init_21 (by decide) ?_
  refine sm_newa1 cx dX12_init_23 (fun v23 => ?_)
  refine sm_putF cx hin fl_X12_17 (nr_ra _) (ft_ra _) dX12_init_25 ?_
  refine sm_aload_n cx 0 dX12_init_28 rfl rfl ?_
  refine sm_sipush (v := 480) cx dX12_init_29 (by decide) ?_
  refine sm_newa1 cx dX12_init_32 (fun v32 => ?_)
  refine sm_putF cx hin fl_X12_20 (nr_ra _) (ft_ra _) dX12_init_34 ?_
  refine sm_aload_n cx 0 dX12_init_37 rfl rfl ?_
  refine sm_bipush (v := 60) cx dX12_init_38 (by decide) ?_
  refine sm_newa1 cx dX12_init_40 (fun v40 => ?_)
  refine sm_putF cx hin fl_X12_23 (nr_ra _) (ft_ra _) dX12_init_42 ?_
  refine sm_aload_n cx 0 dX12_init_45 rfl rfl ?_
  refine sm_bipush (v := 20) cx dX12_init_46 (by decide) ?_
  refine sm_newa1 cx dX12_init_48 (fun v48 => ?_)
  refine sm_putF cx hin fl_X12_26 (nr_ra _) (ft_ra _) dX12_init_50 ?_
  refine sm_aload_n cx 0 dX12_init_53 rfl rfl ?_
  refine sm_bipush (v := 40) cx dX12_init_54 (by decide) ?_
  refine sm_newa1 cx dX12_init_56 (fun v56 => ?_)
  refine sm_putF cx hin fl_X12_29 (nr_ra _) (ft_ra _) dX12_init_58 ?_
  refine sm_aload_n cx 0 dX12_init_61 rfl rfl ?_
  refine sm_sipush (v := 480) cx dX12_init_62 (by decide) ?_
  refine sm_newa1 cx dX12_init_65 (fun v65 => ?_)
  refine sm_putF cx hin fl_X12_32 (nr_ra _) (ft_ra _) dX12_init_67 ?_
  refine sm_aload_n cx 0 dX12_init_70 rfl rfl ?_
  refine sm_bipush (v := 12) cx dX12_init_71 (by decide) ?_
  refine sm_newa1 cx dX12_init_73 (fun v73 => ?_)
  refine sm_putF cx hin fl_X12_35 (nr_ra _) (ft_ra _) dX12_init_75 ?_
  refine sm_aload_n cx 0 dX12_init_78 rfl rfl ?_
  refine sm_sipush (v := 200) cx dX12_init_79 (by decide) ?_
  refine sm_newa0 cx dX12_init_82 (fun v82 => ?_)
  refine sm_putF cx hin fl_X12_38 (nr_ra _) (ft_ra _) dX12_init_84 ?_
  refine sm_aload_n cx 0 dX12_init_87 rfl rfl ?_
  refine sm_iconst (v := -1) cx dX12_init_88 (by decide) ?_
  refine sm_putV cx fl_X12_42 rfl rfl dX12_init_89 ?_
  refine sm_aload_n cx 0 dX12_init_92 rfl rfl ?_
  refine sm_sipush (v := 256) cx dX12_init_93 (by decide) ?_
  refine sm_newa1 cx dX12_init_96 (fun v96 => ?_)
  refine sm_putV cx fl_X12_46 (nr_ra _) (ft_ra _) dX12_init_98 ?_
  refine sm_aload_n cx 0 dX12_init_101 rfl rfl ?_
  refine sm_bipush (v := 64) cx dX12_init_102 (by decide) ?_
  refine sm_newa3 cx dX12_init_104 (fun v104 => ?_)
  refine sm_putF cx hin fl_X12_49 (nr_ra _) (ft_ra _) dX12_init_106 ?_
  refine sm_aload_n cx 0 dX12_init_109 rfl rfl ?_
  refine sm_bipush (v := 100) cx dX12_init_110 (by decide) ?_
  refine sm_newa1 cx dX12_init_112 (fun v112 => ?_)
  refine sm_putF cx hin fl_X12_52 (nr_ra _) (ft_ra _) dX12_init_114 ?_
  refine sm_aload_n cx 0 dX12_init_117 rfl rfl ?_
  refine sm_bipush (v := 100) cx dX12_init_118 (by decide) ?_
  refine sm_newa1 cx dX12_init_120 (fun v120 => ?_)
  refine sm_putF cx hin fl_X12_55 (nr_ra _) (ft_ra _) dX12_init_122 ?_
  refine sm_aload_n cx 0 dX12_init_125 rfl rfl ?_
  refine sm_bipush (v := 100) cx dX12_init_126 (by decide) ?_
  refine sm_newa1 cx dX12_init_128 (fun v128 => ?_)
  refine sm_putF cx hin fl_X12_58 (nr_ra _) (ft_ra _) dX12_init_130 ?_
  refine sm_aload_n cx 0 dX12_init_133 rfl rfl ?_
  refine sm_bipush (v := 100) cx dX12_init_134 (by decide) ?_
  refine sm_newa3 cx dX12_init_136 (fun v136 => ?_)
  refine sm_putF cx hin fl_X12_61 (nr_ra _) (ft_ra _) dX12_init_138 ?_
  refine sm_aload_n cx 0 dX12_init_141 rfl rfl ?_
  refine sm_bipush (v := 100) cx dX12_init_142 (by decide) ?_
  refine sm_newa3 cx dX12_init_144 (fun v144 => ?_)
  refine sm_putF cx hin fl_X12_64 (nr_ra _) (ft_ra _) dX12_init_146 ?_
  refine sm_aload_n cx 0 dX12_init_149 rfl rfl ?_
  refine sm_bipush (v := 100) cx dX12_init_150 (by decide) ?_
  refine sm_newa1 cx dX12_init_152 (fun v152 => ?_)
  refine sm_putF cx hin fl_X12_67 (nr_ra _) (ft_ra _) dX12_init_154 ?_
  refine sm_aload_n cx 0 dX12_init_157 rfl rfl ?_
  refine sm_bipush (v := 100) cx dX12_init_158 (by decide) ?_
  refine sm_newa1 cx dX12_init_160 (fun v160 => ?_)
  refine sm_putF cx hin fl_X12_70 (nr_ra _) (ft_ra _) dX12_init_162 ?_
  refine sm_aload_n cx 0 dX12_init_165 rfl rfl ?_
  refine sm_bipush (v := 100) cx dX12_init_166 (by decide) ?_
  refine sm_newa1 cx dX12_init_168 (fun v168 => ?_)
  refine sm_putF cx hin fl_X12_73 (nr_ra _) (ft_ra _) dX12_init_170 ?_
  refine sm_aload_n cx 0 dX12_init_173 rfl rfl ?_
  refine sm_bipush (v := 20) cx dX12_init_174 (by decide) ?_
  refine sm_newa1 cx dX12_init_176 (fun v176 => ?_)
  refine sm_putF cx hin fl_X12_76 (nr_ra _) (ft_ra _) dX12_init_178 ?_
  refine sm_aload_n cx 0 dX12_init_181 rfl rfl ?_
  refine sm_bipush (v := 60) cx dX12_init_182 (by decide) ?_
  refine sm_newa1 cx dX12_init_184 (fun v184 => ?_)
  refine sm_putF cx hin fl_X12_79 (nr_ra _) (ft_ra _) dX12_init_186 ?_
  refine sm_aload_n cx 0 dX12_init_189 rfl rfl ?_
  refine sm_bipush (v := 100) cx dX12_init_190 (by decide) ?_
  refine sm_newa1 cx dX12_init_192 (fun v192 => ?_)
  refine sm_putF cx hin fl_X12_82 (nr_ra _) (ft_ra _) dX12_init_194 ?_
  refine sm_aload_n cx 0 dX12_init_197 rfl rfl ?_
  refine sm_bipush (v := 100) cx dX12_init_198 (by decide) ?_
  refine sm_newa1 cx dX12_init_200 (fun v200 => ?_)
  refine sm_putF cx hin fl_X12_85 (nr_ra _) (ft_ra _) dX12_init_202 ?_
  refine sm_aload_n cx 0 dX12_init_205 rfl rfl ?_
  refine sm_bipush (v := 100) cx dX12_init_206 (by decide) ?_
  refine sm_newa1 cx dX12_init_208 (fun v208 => ?_)
  refine sm_putF cx hin fl_X12_88 (nr_ra _) (ft_ra _) dX12_init_210 ?_
  refine sm_aload_n cx 0 dX12_init_213 rfl rfl ?_
  refine sm_sipush (v := 29520) cx dX12_init_214 (by decide) ?_
  refine sm_newa1 cx dX12_init_217 (fun v217 => ?_)
  refine sm_putF cx hin fl_X12_91 (nr_ra _) (ft_ra _) dX12_init_219 ?_
  refine sm_aload_n cx 0 dX12_init_222 rfl rfl ?_
  refine sm_getR cx fl_X12_9 dX12_init_223 (fun v223 => ?_)
  refine sm_iconst (v := 0) cx dX12_init_226 (by decide) ?_
  refine sm_iconst (v := -1) cx dX12_init_227 (by decide) ?_
  refine sm_iast cx dX12_init_228 ?_
  refine sm_aload_n cx 0 dX12_init_229 rfl rfl ?_
  refine sm_iconst (v := 1) cx dX12_init_230 (by decide) ?_
  refine sm_putV cx fl_X12_94 rfl rfl dX12_init_231 ?_
  exact sm_vret cx hr dX12_init_234
set_option maxRecDepth 100000 in
set_option maxHeartbeats 4000000 in
theorem ct_X12_init (Z : Nat → Nat) {r0 : Option Nat} (a0 : Nat) (h0 : r0 = some a0) : Ct yX12_init cX12_init 1 none 1 12 Z [.ref a0] vV (f_X12_init r0) := by
  subst h0
  refine ct_of (lv0 := [(0, va_rf (some a0))]) (by decide +kernel) (by simp [lg_sl, ct_i, ct_l, ct_r, rf_cat]) (by show _ = ([(0, Value.ref a0)] : List (Nat × Value)); simp [lv_args, ct_i, ct_l, ct_r, rf_cat]) (fun X cx hZ hfr hlo hr hin => ?_)
  subst hZ
  exact s_X12_init cx (Nat.le_of_eq hfr.symm) (Nat.le_of_eq hlo.symm) hr hin (some a0)
/-! PolicyTreeModel.thrown()I -/
theorem dX12_thrown_0 : decode cX12_thrown 0 = .ok (.aload_n 0, 1) := by decide +kernel
theorem dX12_thrown_1 : decode cX12_thrown 1 = .ok (.getfield 97, 3) := by decide +kernel
theorem dX12_thrown_4 : decode cX12_thrown 4 = .ok (.ireturn, 1) := by decide +kernel
def f_X12_thrown (r0 : Option Nat) : Mo Int32 := mb (gI 15 0 r0) (fun v1 => mp v1)
set_option maxRecDepth 100000 in
set_option maxHeartbeats 4000000 in
theorem s_X12_thrown {X : Cg} (cx : Cx X cX12_thrown RX12 1) (hfr : 0 ≤ (xR X).frames) (hlo : 0 ≤ (xR X).locals) (hr : (xM X).sig.returnType = (some .int)) (r0 : Option Nat) : Sim X 1 (FiM X vI) 0 [(0, va_rf r0)] [] (f_X12_thrown r0) := by
  unfold f_X12_thrown
  refine sm_aload_n cx 0 dX12_thrown_0 rfl rfl ?_
  refine sm_getI cx fl_X12_97 dX12_thrown_1 (fun v1 => ?_)
  exact sm_iret cx hr dX12_thrown_4
set_option maxRecDepth 100000 in
set_option maxHeartbeats 4000000 in
theorem ct_X12_thrown (Z : Nat → Nat) {r0 : Option Nat} (a0 : Nat) (h0 : r0 = some a0) : Ct yX12_thrown cX12_thrown 1 (some .int) 0 0 Z [.ref a0] vI (f_X12_thrown r0) := by
  subst h0
  refine ct_of (lv0 := [(0, va_rf (some a0))]) (by decide +kernel) (by simp [lg_sl, ct_i, ct_l, ct_r, rf_cat]) (by show _ = ([(0, Value.ref a0)] : List (Nat × Value)); simp [lv_args, ct_i, ct_l, ct_r, rf_cat]) (fun X cx hZ hfr hlo hr hin => ?_)
  subst hZ
  exact s_X12_thrown cx (Nat.le_of_eq hfr.symm) (Nat.le_of_eq hlo.symm) hr (some a0)
/-! PolicyTreeModel.bad(ZI)Z -/
theorem dX12_bad_0 : decode cX12_bad 0 = .ok (.iload_n 1, 1) := by decide +kernel
theorem dX12_bad_1 : decode cX12_bad 1 = .ok (.ifCond .eq 8, 3) := by decide +kernel
theorem dX12_bad_4 : decode cX12_bad 4 = .ok (.aload_n 0, 1) := by decide +kernel
theorem dX12_bad_5 : decode cX12_bad 5 = .ok (.iload_n 2, 1) := by decide +kernel
theorem dX12_bad_6 : decode cX12_bad 6 = .ok (.putfield 97, 3) := by decide +kernel
theorem dX12_bad_9 : decode cX12_bad 9 = .ok (.iload_n 1, 1) := by decide +kernel
theorem dX12_bad_10 : decode cX12_bad 10 = .ok (.ireturn, 1) := by decide +kernel
def f_X12_bad_9 (x1 : Int32) : Mo Int32 := rz .boolean x1
set_option maxRecDepth 100000 in
set_option maxHeartbeats 4000000 in
theorem s_X12_bad_9 {X : Cg} (cx : Cx X cX12_bad RX12 3) (hfr : 0 ≤ (xR X).frames) (hlo : 0 ≤ (xR X).locals) (hr : (xM X).sig.returnType = (some .boolean)) (x1 : Int32) : Sim X 3 (FiM X vI) 9 [(1, .int x1)] [] (f_X12_bad_9 x1) := by
  unfold f_X12_bad_9
  refine sm_iload_n cx 0 dX12_bad_9 rfl rfl ?_
  exact sm_zret cx hr dX12_bad_10
def f_X12_bad (r0 : Option Nat) (x1 : Int32) (x2 : Int32) : Mo Int32 := (if x1 = 0 then f_X12_bad_9 x1 else mb (pV 15 0 r0 (.int x2)) (fun _ => f_X12_bad_9 x1))
set_option maxRecDepth 100000 in
set_option maxHeartbeats 4000000 in
theorem s_X12_bad {X : Cg} (cx : Cx X cX12_bad RX12 3) (hfr : 0 ≤ (xR X).frames) (hlo : 0 ≤ (xR X).locals) (hr : (xM X).sig.returnType = (some .boolean)) (r0 : Option Nat) (x1 : Int32) (x2 : Int32) : Sim X 3 (FiM X vI) 0 [(0, va_rf r0), (1, .int x1), (2, .int x2)] [] (f_X12_bad r0 x1 x2) := by
  unfold f_X12_bad
  refine sm_iload_n cx 1 dX12_bad_0 rfl rfl ?_
  refine sm_if_eq (tgt := 9) cx dX12_bad_1 (by decide) ?_ ?_
  · exact sm_lv [1] rfl (s_X12_bad_9 cx hfr hlo hr x1)
  · refine sm_aload_n cx 0 dX12_bad_4 rfl rfl ?_
    refine sm_iload_n cx 2 dX12_bad_5 rfl rfl ?_
    refine sm_putV cx fl_X12_97 rfl rfl dX12_bad_6 ?_
    exact sm_lv [1] rfl (s_X12_bad_9 cx hfr hlo hr x1)
set_option maxRecDepth 100000 in
set_option maxHeartbeats 4000000 in
theorem ct_X12_bad (Z : Nat → Nat) {r0 : Option Nat} (a0 : Nat) (h0 : r0 = some a0) (x1 : Int32) (x2 : Int32) : Ct yX12_bad cX12_bad 3 (some .boolean) 0 0 Z [.ref a0, .int x1, .int x2] vI (f_X12_bad r0 x1 x2) := by
  subst h0
  refine ct_of (lv0 := [(0, va_rf (some a0)), (1, .int x1), (2, .int x2)]) (by decide +kernel) (by simp [lg_sl, ct_i, ct_l, ct_r, rf_cat]) (by show _ = ([(0, Value.ref a0), (1, .int x1), (2, .int x2)] : List (Nat × Value)); simp [lv_args, ct_i, ct_l, ct_r, rf_cat]) (fun X cx hZ hfr hlo hr hin => ?_)
  subst hZ
  exact s_X12_bad cx (Nat.le_of_eq hfr.symm) (Nat.le_of_eq hlo.symm) hr (some a0) x1 x2
/-! PolicyTreeModel.none(II)Z -/
theorem dX12_none_0 : decode cX12_none 0 = .ok (.iload_n 1, 1) := by decide +kernel
theorem dX12_none_1 : decode cX12_none 1 = .ok (.ifCond .lt 8, 3) := by decide +kernel
theorem dX12_none_4 : decode cX12_none 4 = .ok (.iload_n 1, 1) := by decide +kernel
theorem dX12_none_5 : decode cX12_none 5 = .ok (.iload_n 2, 1) := by decide +kernel
theorem dX12_none_6 : decode cX12_none 6 = .ok (.if_icmp .lt 8, 3) := by decide +kernel
theorem dX12_none_9 : decode cX12_none 9 = .ok (.aload_n 0, 1) := by decide +kernel
theorem dX12_none_10 : decode cX12_none 10 = .ok (.iconst 1, 1) := by decide +kernel
theorem dX12_none_11 : decode cX12_none 11 = .ok (.putfield 97, 3) := by decide +kernel
theorem dX12_none_14 : decode cX12_none 14 = .ok (.aload_n 0, 1) := by decide +kernel
theorem dX12_none_15 : decode cX12_none 15 = .ok (.getfield 97, 3) := by decide +kernel
theorem dX12_none_18 : decode cX12_none 18 = .ok (.ifCond .le 7, 3) := by decide +kernel
theorem dX12_none_21 : decode cX12_none 21 = .ok (.iconst 1, 1) := by decide +kernel
theorem dX12_none_22 : decode cX12_none 22 = .ok (.goto 4, 3) := by decide +kernel
theorem dX12_none_25 : decode cX12_none 25 = .ok (.iconst 0, 1) := by decide +kernel
theorem dX12_none_26 : decode cX12_none 26 = .ok (.ireturn, 1) := by decide +kernel
def f_X12_none_26 (sx0 : Int32) : Mo Int32 := rz .boolean sx0
set_option maxRecDepth 100000 in
set_option maxHeartbeats 4000000 in
theorem s_X12_none_26 {X : Cg} (cx : Cx X cX12_none RX12 3) (hfr : 0 ≤ (xR X).frames) (hlo : 0 ≤ (xR X).locals) (hr : (xM X).sig.returnType = (some .boolean)) (sx0 : Int32) : Sim X 3 (FiM X vI) 26 [] [.int sx0] (f_X12_none_26 sx0) := by
  unfold f_X12_none_26
  exact sm_zret cx hr dX12_none_26
def f_X12_none_14 (r0 : Option Nat) : Mo Int32 := mb (gI 15 0 r0) (fun v15 => (if v15 ≤ 0 then f_X12_none_26 (0 : Int32) else f_X12_none_26 (1 : Int32)))
set_option maxRecDepth 100000 in
set_option maxHeartbeats 4000000 in
theorem s_X12_none_14 {X : Cg} (cx : Cx X cX12_none RX12 3) (hfr : 0 ≤ (xR X).frames) (hlo : 0 ≤ (xR X).locals) (hr : (xM X).sig.returnType = (some .boolean)) (r0 : Option Nat) : Sim X 3 (FiM X vI) 14 [(0, va_rf r0)] [] (f_X12_none_14 r0) := by
  unfold f_X12_none_14
  refine sm_aload_n cx 0 dX12_none_14 rfl rfl ?_
  refine sm_getI cx fl_X12_97 dX12_none_15 (fun v15 => ?_)
  refine sm_if_le (tgt := 25) cx dX12_none_18 (by decide) ?_ ?_
  · refine sm_iconst (v := 0) cx dX12_none_25 (by decide) ?_
    exact sm_lv [] rfl (s_X12_none_26 cx hfr hlo hr (0 : Int32))
  · refine sm_iconst (v := 1) cx dX12_none_21 (by decide) ?_
    refine sm_goto (tgt := 26) cx dX12_none_22 (by decide) ?_
    exact sm_lv [] rfl (s_X12_none_26 cx hfr hlo hr (1 : Int32))
def f_X12_none_9 (r0 : Option Nat) : Mo Int32 := mb (pV 15 0 r0 (.int (1 : Int32))) (fun _ => f_X12_none_14 r0)
set_option maxRecDepth 100000 in
set_option maxHeartbeats 4000000 in
theorem s_X12_none_9 {X : Cg} (cx : Cx X cX12_none RX12 3) (hfr : 0 ≤ (xR X).frames) (hlo : 0 ≤ (xR X).locals) (hr : (xM X).sig.returnType = (some .boolean)) (r0 : Option Nat) : Sim X 3 (FiM X vI) 9 [(0, va_rf r0)] [] (f_X12_none_9 r0) := by
  unfold f_X12_none_9
  refine sm_aload_n cx 0 dX12_none_9 rfl rfl ?_
  refine sm_iconst (v := 1) cx dX12_none_10 (by decide) ?_
  refine sm_putV cx fl_X12_97 rfl rfl dX12_none_11 ?_
  exact sm_lv [0] rfl (s_X12_none_14 cx hfr hlo hr r0)
def f_X12_none (r0 : Option Nat) (x1 : Int32) (x2 : Int32) : Mo Int32 := (if x1 < 0 then f_X12_none_9 r0 else (if x1 < x2 then f_X12_none_14 r0 else f_X12_none_9 r0))
set_option maxRecDepth 100000 in
set_option maxHeartbeats 4000000 in
theorem s_X12_none {X : Cg} (cx : Cx X cX12_none RX12 3) (hfr : 0 ≤ (xR X).frames) (hlo : 0 ≤ (xR X).locals) (hr : (xM X).sig.returnType = (some .boolean)) (r0 : Option Nat) (x1 : Int32) (x2 : Int32) : Sim X 3 (FiM X vI) 0 [(0, va_rf r0), (1, .int x1), (2, .int x2)] [] (f_X12_none r0 x1 x2) := by
  unfold f_X12_none
  refine sm_iload_n cx 1 dX12_none_0 rfl rfl ?_
  refine sm_if_lt (tgt := 9) cx dX12_none_1 (by decide) ?_ ?_
  · exact sm_lv [0] rfl (s_X12_none_9 cx hfr hlo hr r0)
  · refine sm_iload_n cx 1 dX12_none_4 rfl rfl ?_
    refine sm_iload_n cx 2 dX12_none_5 rfl rfl ?_
    refine sm_icmp_lt (tgt := 14) cx dX12_none_6 (by decide) ?_ ?_
    · exact sm_lv [0] rfl (s_X12_none_14 cx hfr hlo hr r0)
    · exact sm_lv [0] rfl (s_X12_none_9 cx hfr hlo hr r0)
set_option maxRecDepth 100000 in
set_option maxHeartbeats 4000000 in
theorem ct_X12_none (Z : Nat → Nat) {r0 : Option Nat} (a0 : Nat) (h0 : r0 = some a0) (x1 : Int32) (x2 : Int32) : Ct yX12_none cX12_none 3 (some .boolean) 0 0 Z [.ref a0, .int x1, .int x2] vI (f_X12_none r0 x1 x2) := by
  subst h0
  refine ct_of (lv0 := [(0, va_rf (some a0)), (1, .int x1), (2, .int x2)]) (by decide +kernel) (by simp [lg_sl, ct_i, ct_l, ct_r, rf_cat]) (by show _ = ([(0, Value.ref a0), (1, .int x1), (2, .int x2)] : List (Nat × Value)); simp [lv_args, ct_i, ct_l, ct_r, rf_cat]) (fun X cx hZ hfr hlo hr hin => ?_)
  subst hZ
  exact s_X12_none cx (Nat.le_of_eq hfr.symm) (Nat.le_of_eq hlo.symm) hr (some a0) x1 x2
/-! PolicyTreeModel.node(I)I -/
theorem dX12_node_0 : decode cX12_node 0 = .ok (.aload_n 0, 1) := by decide +kernel
theorem dX12_node_1 : decode cX12_node 1 = .ok (.iconst 0, 1) := by decide +kernel
theorem dX12_node_2 : decode cX12_node 2 = .ok (.putfield 97, 3) := by decide +kernel
theorem dX12_node_5 : decode cX12_node 5 = .ok (.aload_n 0, 1) := by decide +kernel
theorem dX12_node_6 : decode cX12_node 6 = .ok (.iload_n 1, 1) := by decide +kernel
theorem dX12_node_7 : decode cX12_node 7 = .ok (.aload_n 0, 1) := by decide +kernel
theorem dX12_node_8 : decode cX12_node 8 = .ok (.getfield 94, 3) := by decide +kernel
theorem dX12_node_11 : decode cX12_node 11 = .ok (.invokevirtual 100, 3) := by decide +kernel
theorem dX12_node_14 : decode cX12_node 14 = .ok (.ifCond .ne 25, 3) := by decide +kernel
theorem dX12_node_17 : decode cX12_node 17 = .ok (.aload_n 0, 1) := by decide +kernel
theorem dX12_node_18 : decode cX12_node 18 = .ok (.aload_n 0, 1) := by decide +kernel
theorem dX12_node_19 : decode cX12_node 19 = .ok (.getfield 94, 3) := by decide +kernel
theorem dX12_node_22 : decode cX12_node 22 = .ok (.bipush 60, 2) := by decide +kernel
theorem dX12_node_24 : decode cX12_node 24 = .ok (.if_icmp .ne 7, 3) := by decide +kernel
theorem dX12_node_27 : decode cX12_node 27 = .ok (.iconst 1, 1) := by decide +kernel
theorem dX12_node_28 : decode cX12_node 28 = .ok (.goto 4, 3) := by decide +kernel
theorem dX12_node_31 : decode cX12_node 31 = .ok (.iconst 0, 1) := by decide +kernel
theorem dX12_node_32 : decode cX12_node 32 = .ok (.iconst 2, 1) := by decide +kernel
theorem dX12_node_33 : decode cX12_node 33 = .ok (.invokevirtual 104, 3) := by decide +kernel
theorem dX12_node_36 : decode cX12_node 36 = .ok (.ifCond .eq 5, 3) := by decide +kernel
theorem dX12_node_39 : decode cX12_node 39 = .ok (.iconst 0, 1) := by decide +kernel
theorem dX12_node_40 : decode cX12_node 40 = .ok (.ireturn, 1) := by decide +kernel
theorem dX12_node_41 : decode cX12_node 41 = .ok (.aload_n 0, 1) := by decide +kernel
theorem dX12_node_42 : decode cX12_node 42 = .ok (.getfield 9, 3) := by decide +kernel
theorem dX12_node_45 : decode cX12_node 45 = .ok (.aload_n 0, 1) := by decide +kernel
theorem dX12_node_46 : decode cX12_node 46 = .ok (.getfield 94, 3) := by decide +kernel
theorem dX12_node_49 : decode cX12_node 49 = .ok (.iload_n 1, 1) := by decide +kernel
theorem dX12_node_50 : decode cX12_node 50 = .ok (.iastore, 1) := by decide +kernel
theorem dX12_node_51 : decode cX12_node 51 = .ok (.aload_n 0, 1) := by decide +kernel
theorem dX12_node_52 : decode cX12_node 52 = .ok (.dup, 1) := by decide +kernel
theorem dX12_node_53 : decode cX12_node 53 = .ok (.getfield 94, 3) := by decide +kernel
theorem dX12_node_56 : decode cX12_node 56 = .ok (.iconst 1, 1) := by decide +kernel
theorem dX12_node_57 : decode cX12_node 57 = .ok (.iadd, 1) := by decide +kernel
theorem dX12_node_58 : decode cX12_node 58 = .ok (.putfield 94, 3) := by decide +kernel
theorem dX12_node_61 : decode cX12_node 61 = .ok (.aload_n 0, 1) := by decide +kernel
theorem dX12_node_62 : decode cX12_node 62 = .ok (.getfield 94, 3) := by decide +kernel
theorem dX12_node_65 : decode cX12_node 65 = .ok (.iconst 1, 1) := by decide +kernel
theorem dX12_node_66 : decode cX12_node 66 = .ok (.isub, 1) := by decide +kernel
theorem dX12_node_67 : decode cX12_node 67 = .ok (.ireturn, 1) := by decide +kernel
def f_X12_node_39 : Mo Int32 := mp (0 : Int32)
set_option maxRecDepth 100000 in
set_option maxHeartbeats 4000000 in
theorem s_X12_node_39 {X : Cg} (cx : Cx X cX12_node RX12 2) (hfr : 1 ≤ (xR X).frames) (hlo : 22 ≤ (xR X).locals) (hr : (xM X).sig.returnType = (some .int)) : Sim X 2 (FiM X vI) 39 [] [] (f_X12_node_39) := by
  unfold f_X12_node_39
  refine sm_iconst (v := 0) cx dX12_node_39 (by decide) ?_
  exact sm_iret cx hr dX12_node_40
def f_X12_node_32 (r0 : Option Nat) (x1 : Int32) (sr0 : Option Nat) (sx1 : Int32) : Mo Int32 := mb (mo 15 sr0 (f_X12_bad sr0 sx1 (2 : Int32))) (fun v33 => (if v33 = 0 then mb (gR 15 1 r0) (fun v42 => mb (gI 15 3 r0) (fun v46 => mb (sI 1 v42 v46 x1) (fun _ => mb (gI 15 3 r0) (fun v53 => mb (pV 15 3 r0 (.int (v53 + (1 : Int32)))) (fun _ => mb (gI 15 3 r0) (fun v62 => mp (v62 - (1 : Int32)))))))) else f_X12_node_39))
set_option maxRecDepth 100000 in
set_option maxHeartbeats 4000000 in
theorem s_X12_node_32 {X : Cg} (cx : Cx X cX12_node RX12 2) (hfr : 1 ≤ (xR X).frames) (hlo : 22 ≤ (xR X).locals) (hr : (xM X).sig.returnType = (some .int)) (r0 : Option Nat) (x1 : Int32) (sr0 : Option Nat) (sx1 : Int32) : Sim X 2 (FiM X vI) 32 [(0, va_rf r0), (1, .int x1)] [.int sx1, va_rf sr0] (f_X12_node_32 r0 x1 sr0 sx1) := by
  unfold f_X12_node_32
  refine sm_iconst (v := 2) cx dX12_node_32 (by decide) ?_
  refine sm_callV (T := TX12) (N := 47) (toV := vI) cx [.int sx1, .int (2 : Int32)] rfl cv_X12_104 (fun a h => ct_X12_bad (xZ X) a h sx1 (2 : Int32)) (Nat.le_trans (by decide) hfr) (Nat.le_trans (by decide) hlo) rfl (cat_le _ (Nat.le_of_ble_eq_true rfl)) dX12_node_33 (fun v33 => ?_)
  refine sm_if_eq (tgt := 41) cx dX12_node_36 (by decide) ?_ ?_
  · refine sm_aload_n cx 0 dX12_node_41 rfl rfl ?_
    refine sm_getR cx fl_X12_9 dX12_node_42 (fun v42 => ?_)
    refine sm_aload_n cx 0 dX12_node_45 rfl rfl ?_
    refine sm_getI cx fl_X12_94 dX12_node_46 (fun v46 => ?_)
    refine sm_iload_n cx 1 dX12_node_49 rfl rfl ?_
    refine sm_iast cx dX12_node_50 ?_
    refine sm_aload_n cx 0 dX12_node_51 rfl rfl ?_
    refine sm_dup cx dX12_node_52 (rf_cat _) ?_
    refine sm_getI cx fl_X12_94 dX12_node_53 (fun v53 => ?_)
    refine sm_iconst (v := 1) cx dX12_node_56 (by decide) ?_
    refine sm_iadd cx dX12_node_57 ?_
    refine sm_putV cx fl_X12_94 rfl rfl dX12_node_58 ?_
    refine sm_aload_n cx 0 dX12_node_61 rfl rfl ?_
    refine sm_getI cx fl_X12_94 dX12_node_62 (fun v62 => ?_)
    refine sm_iconst (v := 1) cx dX12_node_65 (by decide) ?_
    refine sm_isub cx dX12_node_66 ?_
    exact sm_iret cx hr dX12_node_67
  · exact sm_lv [] rfl (s_X12_node_39 cx hfr hlo hr)
def f_X12_node (r0 : Option Nat) (x1 : Int32) : Mo Int32 := mb (pV 15 0 r0 (.int (0 : Int32))) (fun _ => mb (gI 15 3 r0) (fun v8 => mb (mo 15 r0 (f_X12_none r0 x1 v8)) (fun v11 => (if v11 = 0 then mb (gI 15 3 r0) (fun v19 => (if v19 = (60 : Int32) then f_X12_node_32 r0 x1 r0 (1 : Int32) else f_X12_node_32 r0 x1 r0 (0 : Int32))) else f_X12_node_39))))
set_option maxRecDepth 100000 in
set_option maxHeartbeats 4000000 in
theorem s_X12_node {X : Cg} (cx : Cx X cX12_node RX12 2) (hfr : 1 ≤ (xR X).frames) (hlo : 22 ≤ (xR X).locals) (hr : (xM X).sig.returnType = (some .int)) (r0 : Option Nat) (x1 : Int32) : Sim X 2 (FiM X vI) 0 [(0, va_rf r0), (1, .int x1)] [] (f_X12_node r0 x1) := by
  unfold f_X12_node
  refine sm_aload_n cx 0 dX12_node_0 rfl rfl ?_
  refine sm_iconst (v := 0) cx dX12_node_1 (by decide) ?_
  refine sm_putV cx fl_X12_97 rfl rfl dX12_node_2 ?_
  refine sm_aload_n cx 0 dX12_node_5 rfl rfl ?_
  refine sm_iload_n cx 1 dX12_node_6 rfl rfl ?_
  refine sm_aload_n cx 0 dX12_node_7 rfl rfl ?_
  refine sm_getI cx fl_X12_94 dX12_node_8 (fun v8 => ?_)
  refine sm_callV (T := TX12) (N := 47) (toV := vI) cx [.int x1, .int v8] rfl cv_X12_100 (fun a h => ct_X12_none (xZ X) a h x1 v8) (Nat.le_trans (by decide) hfr) (Nat.le_trans (by decide) hlo) rfl (cat_le _ (Nat.le_of_ble_eq_true rfl)) dX12_node_11 (fun v11 => ?_)
  refine sm_if_ne (tgt := 39) cx dX12_node_14 (by decide) ?_ ?_
  · exact sm_lv [] rfl (s_X12_node_39 cx hfr hlo hr)
  · refine sm_aload_n cx 0 dX12_node_17 rfl rfl ?_
    refine sm_aload_n cx 0 dX12_node_18 rfl rfl ?_
    refine sm_getI cx fl_X12_94 dX12_node_19 (fun v19 => ?_)
    refine sm_bipush (v := 60) cx dX12_node_22 (by decide) ?_
    refine sm_icmp_ne (tgt := 31) cx dX12_node_24 (by decide) ?_ ?_
    · refine sm_iconst (v := 0) cx dX12_node_31 (by decide) ?_
      exact sm_lv [0, 1] rfl (s_X12_node_32 cx hfr hlo hr r0 x1 r0 (0 : Int32))
    · refine sm_iconst (v := 1) cx dX12_node_27 (by decide) ?_
      refine sm_goto (tgt := 32) cx dX12_node_28 (by decide) ?_
      exact sm_lv [0, 1] rfl (s_X12_node_32 cx hfr hlo hr r0 x1 r0 (1 : Int32))
set_option maxRecDepth 100000 in
set_option maxHeartbeats 4000000 in
theorem ct_X12_node (Z : Nat → Nat) {r0 : Option Nat} (a0 : Nat) (h0 : r0 = some a0) (x1 : Int32) : Ct yX12_node cX12_node 2 (some .int) 1 22 Z [.ref a0, .int x1] vI (f_X12_node r0 x1) := by
  subst h0
  refine ct_of (lv0 := [(0, va_rf (some a0)), (1, .int x1)]) (by decide +kernel) (by simp [lg_sl, ct_i, ct_l, ct_r, rf_cat]) (by show _ = ([(0, Value.ref a0), (1, .int x1)] : List (Nat × Value)); simp [lv_args, ct_i, ct_l, ct_r, rf_cat]) (fun X cx hZ hfr hlo hr hin => ?_)
  subst hZ
  exact s_X12_node cx (Nat.le_of_eq hfr.symm) (Nat.le_of_eq hlo.symm) hr (some a0) x1
/-! PolicyTreeModel.block(IZ)Z -/
theorem dX12_block_0 : decode cX12_block 0 = .ok (.aload_n 0, 1) := by decide +kernel
theorem dX12_block_1 : decode cX12_block 1 = .ok (.iconst 0, 1) := by decide +kernel
theorem dX12_block_2 : decode cX12_block 2 = .ok (.putfield 97, 3) := by decide +kernel
theorem dX12_block_5 : decode cX12_block 5 = .ok (.aload_n 0, 1) := by decide +kernel
theorem dX12_block_6 : decode cX12_block 6 = .ok (.iload_n 1, 1) := by decide +kernel
theorem dX12_block_7 : decode cX12_block 7 = .ok (.aload_n 0, 1) := by decide +kernel
theorem dX12_block_8 : decode cX12_block 8 = .ok (.getfield 94, 3) := by decide +kernel
theorem dX12_block_11 : decode cX12_block 11 = .ok (.invokevirtual 100, 3) := by decide +kernel
theorem dX12_block_14 : decode cX12_block 14 = .ok (.ifCond .eq 5, 3) := by decide +kernel
theorem dX12_block_17 : decode cX12_block 17 = .ok (.iconst 0, 1) := by decide +kernel
theorem dX12_block_18 : decode cX12_block 18 = .ok (.ireturn, 1) := by decide +kernel
theorem dX12_block_19 : decode cX12_block 19 = .ok (.aload_n 0, 1) := by decide +kernel
theorem dX12_block_20 : decode cX12_block 20 = .ok (.getfield 13, 3) := by decide +kernel
theorem dX12_block_23 : decode cX12_block 23 = .ok (.iload_n 1, 1) := by decide +kernel
theorem dX12_block_24 : decode cX12_block 24 = .ok (.baload, 1) := by decide +kernel
theorem dX12_block_25 : decode cX12_block 25 = .ok (.istore_n 3, 1) := by decide +kernel
theorem dX12_block_26 : decode cX12_block 26 = .ok (.aload_n 0, 1) := by decide +kernel
theorem dX12_block_27 : decode cX12_block 27 = .ok (.getfield 13, 3) := by decide +kernel
theorem dX12_block_30 : decode cX12_block 30 = .ok (.iload_n 1, 1) := by decide +kernel
theorem dX12_block_31 : decode cX12_block 31 = .ok (.iload_n 2, 1) := by decide +kernel
theorem dX12_block_32 : decode cX12_block 32 = .ok (.bastore, 1) := by decide +kernel
theorem dX12_block_33 : decode cX12_block 33 = .ok (.iload_n 3, 1) := by decide +kernel
theorem dX12_block_34 : decode cX12_block 34 = .ok (.ireturn, 1) := by decide +kernel
def f_X12_block (r0 : Option Nat) (x1 : Int32) (x2 : Int32) : Mo Int32 := mb (pV 15 0 r0 (.int (0 : Int32))) (fun _ => mb (gI 15 3 r0) (fun v8 => mb (mo 15 r0 (f_X12_none r0 x1 v8)) (fun v11 => (if v11 = 0 then mb (gR 15 2 r0) (fun v20 => mb (aI 3 v20 x1) (fun v24 => mb (gR 15 2 r0) (fun v27 => mb (sI 3 v27 x1 x2) (fun _ => rz .boolean v24)))) else rz .boolean (0 : Int32)))))
set_option maxRecDepth 100000 in
set_option maxHeartbeats 4000000 in
theorem s_X12_block {X : Cg} (cx : Cx X cX12_block RX12 4) (hfr : 1 ≤ (xR X).frames) (hlo : 22 ≤ (xR X).locals) (hr : (xM X).sig.returnType = (some .boolean)) (r0 : Option Nat) (x1 : Int32) (x2 : Int32) : Sim X 4 (FiM X vI) 0 [(0, va_rf r0), (1, .int x1), (2, .int x2)] [] (f_X12_block r0 x1 x2) := by
  unfold f_X12_block
  refine sm_aload_n cx 0 dX12_block_0 rfl rfl ?_
  refine sm_iconst (v := 0) cx dX12_block_1 (by decide) ?_
  refine sm_putV cx fl_X12_97 rfl rfl dX12_block_2 ?_
  refine sm_aload_n cx 0 dX12_block_5 rfl rfl ?_
  refine sm_iload_n cx 1 dX12_block_6 rfl rfl ?_
  refine sm_aload_n cx 0 dX12_block_7 rfl rfl ?_
  refine sm_getI cx fl_X12_94 dX12_block_8 (fun v8 => ?_)
  refine sm_callV (T := TX12) (N := 47) (toV := vI) cx [.int x1, .int v8] rfl cv_X12_100 (fun a h => ct_X12_none (xZ X) a h x1 v8) (Nat.le_trans (by decide) hfr) (Nat.le_trans (by decide) hlo) rfl (cat_le _ (Nat.le_of_ble_eq_true rfl)) dX12_block_11 (fun v11 => ?_)
  refine sm_if_eq (tgt := 19) cx dX12_block_14 (by decide) ?_ ?_
  · refine sm_aload_n cx 0 dX12_block_19 rfl rfl ?_
    refine sm_getR cx fl_X12_13 dX12_block_20 (fun v20 => ?_)
    refine sm_iload_n cx 1 dX12_block_23 rfl rfl ?_
    refine sm_zald cx dX12_block_24 (fun v24 => ?_)
    refine sm_istore_n cx [(3, .int v24), (0, va_rf r0), (1, .int x1), (2, .int x2)] dX12_block_25 rfl (by decide) rfl (nc1 rfl) rfl ?_
    refine sm_aload_n cx 1 dX12_block_26 rfl rfl ?_
    refine sm_getR cx fl_X12_13 dX12_block_27 (fun v27 => ?_)
    refine sm_iload_n cx 2 dX12_block_30 rfl rfl ?_
    refine sm_iload_n cx 3 dX12_block_31 rfl rfl ?_
    refine sm_zast cx dX12_block_32 ?_
    refine sm_iload_n cx 0 dX12_block_33 rfl rfl ?_
    exact sm_zret cx hr dX12_block_34
  · refine sm_iconst (v := 0) cx dX12_block_17 (by decide) ?_
    exact sm_zret cx hr dX12_block_18
set_option maxRecDepth 100000 in
set_option maxHeartbeats 4000000 in
theorem ct_X12_block (Z : Nat → Nat) {r0 : Option Nat} (a0 : Nat) (h0 : r0 = some a0) (x1 : Int32) (x2 : Int32) : Ct yX12_block cX12_block 4 (some .boolean) 1 22 Z [.ref a0, .int x1, .int x2] vI (f_X12_block r0 x1 x2) := by
  subst h0
  refine ct_of (lv0 := [(0, va_rf (some a0)), (1, .int x1), (2, .int x2)]) (by decide +kernel) (by simp [lg_sl, ct_i, ct_l, ct_r, rf_cat]) (by show _ = ([(0, Value.ref a0), (1, .int x1), (2, .int x2)] : List (Nat × Value)); simp [lv_args, ct_i, ct_l, ct_r, rf_cat]) (fun X cx hZ hfr hlo hr hin => ?_)
  subst hZ
  exact s_X12_block cx (Nat.le_of_eq hfr.symm) (Nat.le_of_eq hlo.symm) hr (some a0) x1 x2
/-! PolicyTreeModel.isBelow(II)Z -/
theorem dX12_isBelow_0 : decode cX12_isBelow 0 = .ok (.iload_n 1, 1) := by decide +kernel
theorem dX12_isBelow_1 : decode cX12_isBelow 1 = .ok (.istore_n 3, 1) := by decide +kernel
theorem dX12_isBelow_2 : decode cX12_isBelow 2 = .ok (.iload_n 3, 1) := by decide +kernel
theorem dX12_isBelow_3 : decode cX12_isBelow 3 = .ok (.ifCond .lt 18, 3) := by decide +kernel
theorem dX12_isBelow_6 : decode cX12_isBelow 6 = .ok (.iload_n 3, 1) := by decide +kernel
theorem dX12_isBelow_7 : decode cX12_isBelow 7 = .ok (.iload_n 2, 1) := by decide +kernel
theorem dX12_isBelow_8 : decode cX12_isBelow 8 = .ok (.if_icmp .eq 13, 3) := by decide +kernel
theorem dX12_isBelow_11 : decode cX12_isBelow 11 = .ok (.aload_n 0, 1) := by decide +kernel
theorem dX12_isBelow_12 : decode cX12_isBelow 12 = .ok (.getfield 9, 3) := by decide +kernel
theorem dX12_isBelow_15 : decode cX12_isBelow 15 = .ok (.iload_n 3, 1) := by decide +kernel
theorem dX12_isBelow_16 : decode cX12_isBelow 16 = .ok (.iaload, 1) := by decide +kernel
theorem dX12_isBelow_17 : decode cX12_isBelow 17 = .ok (.istore_n 3, 1) := by decide +kernel
theorem dX12_isBelow_18 : decode cX12_isBelow 18 = .ok (.goto (-16), 3) := by decide +kernel
theorem dX12_isBelow_21 : decode cX12_isBelow 21 = .ok (.iload_n 3, 1) := by decide +kernel
theorem dX12_isBelow_22 : decode cX12_isBelow 22 = .ok (.ifCond .lt 7, 3) := by decide +kernel
theorem dX12_isBelow_25 : decode cX12_isBelow 25 = .ok (.iconst 1, 1) := by decide +kernel
theorem dX12_isBelow_26 : decode cX12_isBelow 26 = .ok (.goto 4, 3) := by decide +kernel
theorem dX12_isBelow_29 : decode cX12_isBelow 29 = .ok (.iconst 0, 1) := by decide +kernel
theorem dX12_isBelow_30 : decode cX12_isBelow 30 = .ok (.ireturn, 1) := by decide +kernel
def f_X12_isBelow_30 (sx0 : Int32) : Mo Int32 := rz .boolean sx0
set_option maxRecDepth 100000 in
set_option maxHeartbeats 4000000 in
theorem s_X12_isBelow_30 {X : Cg} (cx : Cx X cX12_isBelow RX12 4) (hfr : 0 ≤ (xR X).frames) (hlo : 0 ≤ (xR X).locals) (hr : (xM X).sig.returnType = (some .boolean)) (sx0 : Int32) : Sim X 4 (FiM X vI) 30 [] [.int sx0] (f_X12_isBelow_30 sx0) := by
  unfold f_X12_isBelow_30
  exact sm_zret cx hr dX12_isBelow_30
def f_X12_isBelow_21 (x3 : Int32) : Mo Int32 := (if x3 < 0 then f_X12_isBelow_30 (0 : Int32) else f_X12_isBelow_30 (1 : Int32))
set_option maxRecDepth 100000 in
set_option maxHeartbeats 4000000 in
theorem s_X12_isBelow_21 {X : Cg} (cx : Cx X cX12_isBelow RX12 4) (hfr : 0 ≤ (xR X).frames) (hlo : 0 ≤ (xR X).locals) (hr : (xM X).sig.returnType = (some .boolean)) (x3 : Int32) : Sim X 4 (FiM X vI) 21 [(3, .int x3)] [] (f_X12_isBelow_21 x3) := by
  unfold f_X12_isBelow_21
  refine sm_iload_n cx 0 dX12_isBelow_21 rfl rfl ?_
  refine sm_if_lt (tgt := 29) cx dX12_isBelow_22 (by decide) ?_ ?_
  · refine sm_iconst (v := 0) cx dX12_isBelow_29 (by decide) ?_
    exact sm_lv [] rfl (s_X12_isBelow_30 cx hfr hlo hr (0 : Int32))
  · refine sm_iconst (v := 1) cx dX12_isBelow_25 (by decide) ?_
    refine sm_goto (tgt := 30) cx dX12_isBelow_26 (by decide) ?_
    exact sm_lv [] rfl (s_X12_isBelow_30 cx hfr hlo hr (1 : Int32))
def f_X12_isBelow_2 (r0 : Option Nat) (x2 : Int32) : Nat → Int32 → Mo Int32
  | 0, _ => mf
  | n + 1, x3 => (if x3 < 0 then f_X12_isBelow_21 x3 else (if x3 = x2 then f_X12_isBelow_21 x3 else mb (gR 15 1 r0) (fun v12 => mb (aI 1 v12 x3) (fun v16 => (f_X12_isBelow_2 r0 x2 n) v16))))
set_option maxRecDepth 100000 in
set_option maxHeartbeats 4000000 in
theorem s_X12_isBelow_2 {X : Cg} (cx : Cx X cX12_isBelow RX12 4) (hfr : 0 ≤ (xR X).frames) (hlo : 0 ≤ (xR X).locals) (hr : (xM X).sig.returnType = (some .boolean)) (r0 : Option Nat) (x2 : Int32) : ∀ (n : Nat) (x3 : Int32), Sim X 4 (FiM X vI) 2 [(0, va_rf r0), (2, .int x2), (3, .int x3)] [] (f_X12_isBelow_2 r0 x2 n x3) := by
  intro n
  induction n with
  | zero =>
    intro _
    exact sm_mf
  | succ n ih =>
    intro x3
    rw [f_X12_isBelow_2]
    refine sm_iload_n cx 2 dX12_isBelow_2 rfl rfl ?_
    refine sm_if_lt (tgt := 21) cx dX12_isBelow_3 (by decide) ?_ ?_
    · exact sm_lv [2] rfl (s_X12_isBelow_21 cx hfr hlo hr x3)
    · refine sm_iload_n cx 2 dX12_isBelow_6 rfl rfl ?_
      refine sm_iload_n cx 1 dX12_isBelow_7 rfl rfl ?_
      refine sm_icmp_eq (tgt := 21) cx dX12_isBelow_8 (by decide) ?_ ?_
      · exact sm_lv [2] rfl (s_X12_isBelow_21 cx hfr hlo hr x3)
      · refine sm_aload_n cx 0 dX12_isBelow_11 rfl rfl ?_
        refine sm_getR cx fl_X12_9 dX12_isBelow_12 (fun v12 => ?_)
        refine sm_iload_n cx 2 dX12_isBelow_15 rfl rfl ?_
        refine sm_iald cx dX12_isBelow_16 (fun v16 => ?_)
        refine sm_istore_n cx [(3, .int v16), (0, va_rf r0), (2, .int x2)] dX12_isBelow_17 rfl (by decide) rfl (nc1 rfl) rfl ?_
        refine sm_goto (tgt := 2) cx dX12_isBelow_18 (by decide) ?_
        exact sm_lv [1, 2, 0] rfl (ih v16)
def f_X12_isBelow (r0 : Option Nat) (x1 : Int32) (x2 : Int32) : Mo Int32 := f_X12_isBelow_2 r0 x2 fuL x1
set_option maxRecDepth 100000 in
set_option maxHeartbeats 4000000 in
theorem s_X12_isBelow {X : Cg} (cx : Cx X cX12_isBelow RX12 4) (hfr : 0 ≤ (xR X).frames) (hlo : 0 ≤ (xR X).locals) (hr : (xM X).sig.returnType = (some .boolean)) (r0 : Option Nat) (x1 : Int32) (x2 : Int32) : Sim X 4 (FiM X vI) 0 [(0, va_rf r0), (1, .int x1), (2, .int x2)] [] (f_X12_isBelow r0 x1 x2) := by
  unfold f_X12_isBelow
  refine sm_iload_n cx 1 dX12_isBelow_0 rfl rfl ?_
  refine sm_istore_n cx [(3, .int x1), (0, va_rf r0), (1, .int x1), (2, .int x2)] dX12_isBelow_1 rfl (by decide) rfl (nc1 rfl) rfl ?_
  exact sm_lv [1, 3, 0] rfl (s_X12_isBelow_2 cx hfr hlo hr r0 x2 fuL x1)
set_option maxRecDepth 100000 in
set_option maxHeartbeats 4000000 in
theorem ct_X12_isBelow (Z : Nat → Nat) {r0 : Option Nat} (a0 : Nat) (h0 : r0 = some a0) (x1 : Int32) (x2 : Int32) : Ct yX12_isBelow cX12_isBelow 4 (some .boolean) 0 0 Z [.ref a0, .int x1, .int x2] vI (f_X12_isBelow r0 x1 x2) := by
  subst h0
  refine ct_of (lv0 := [(0, va_rf (some a0)), (1, .int x1), (2, .int x2)]) (by decide +kernel) (by simp [lg_sl, ct_i, ct_l, ct_r, rf_cat]) (by show _ = ([(0, Value.ref a0), (1, .int x1), (2, .int x2)] : List (Nat × Value)); simp [lv_args, ct_i, ct_l, ct_r, rf_cat]) (fun X cx hZ hfr hlo hr hin => ?_)
  subst hZ
  exact s_X12_isBelow cx (Nat.le_of_eq hfr.symm) (Nat.le_of_eq hlo.symm) hr (some a0) x1 x2
/-! PolicyTreeModel.machine(I)I -/
theorem dX12_machine_0 : decode cX12_machine 0 = .ok (.aload_n 0, 1) := by decide +kernel
theorem dX12_machine_1 : decode cX12_machine 1 = .ok (.iconst 0, 1) := by decide +kernel
theorem dX12_machine_2 : decode cX12_machine 2 = .ok (.putfield 97, 3) := by decide +kernel
theorem dX12_machine_5 : decode cX12_machine 5 = .ok (.aload_n 0, 1) := by decide +kernel
theorem dX12_machine_6 : decode cX12_machine 6 = .ok (.iload_n 1, 1) := by decide +kernel
theorem dX12_machine_7 : decode cX12_machine 7 = .ok (.aload_n 0, 1) := by decide +kernel
theorem dX12_machine_8 : decode cX12_machine 8 = .ok (.getfield 94, 3) := by decide +kernel
theorem dX12_machine_11 : decode cX12_machine 11 = .ok (.invokevirtual 100, 3) := by decide +kernel
theorem dX12_machine_14 : decode cX12_machine 14 = .ok (.ifCond .ne 25, 3) := by decide +kernel
theorem dX12_machine_17 : decode cX12_machine 17 = .ok (.aload_n 0, 1) := by decide +kernel
theorem dX12_machine_18 : decode cX12_machine 18 = .ok (.aload_n 0, 1) := by decide +kernel
theorem dX12_machine_19 : decode cX12_machine 19 = .ok (.getfield 108, 3) := by decide +kernel
theorem dX12_machine_22 : decode cX12_machine 22 = .ok (.bipush 60, 2) := by decide +kernel
theorem dX12_machine_24 : decode cX12_machine 24 = .ok (.if_icmp .ne 7, 3) := by decide +kernel
theorem dX12_machine_27 : decode cX12_machine 27 = .ok (.iconst 1, 1) := by decide +kernel
theorem dX12_machine_28 : decode cX12_machine 28 = .ok (.goto 4, 3) := by decide +kernel
theorem dX12_machine_31 : decode cX12_machine 31 = .ok (.iconst 0, 1) := by decide +kernel
theorem dX12_machine_32 : decode cX12_machine 32 = .ok (.iconst 2, 1) := by decide +kernel
theorem dX12_machine_33 : decode cX12_machine 33 = .ok (.invokevirtual 104, 3) := by decide +kernel
theorem dX12_machine_36 : decode cX12_machine 36 = .ok (.ifCond .eq 5, 3) := by decide +kernel
theorem dX12_machine_39 : decode cX12_machine 39 = .ok (.iconst 0, 1) := by decide +kernel
theorem dX12_machine_40 : decode cX12_machine 40 = .ok (.ireturn, 1) := by decide +kernel
theorem dX12_machine_41 : decode cX12_machine 41 = .ok (.aload_n 0, 1) := by decide +kernel
theorem dX12_machine_42 : decode cX12_machine 42 = .ok (.getfield 17, 3) := by decide +kernel
theorem dX12_machine_45 : decode cX12_machine 45 = .ok (.aload_n 0, 1) := by decide +kernel
theorem dX12_machine_46 : decode cX12_machine 46 = .ok (.getfield 108, 3) := by decide +kernel
theorem dX12_machine_49 : decode cX12_machine 49 = .ok (.iload_n 1, 1) := by decide +kernel
theorem dX12_machine_50 : decode cX12_machine 50 = .ok (.iastore, 1) := by decide +kernel
theorem dX12_machine_51 : decode cX12_machine 51 = .ok (.iconst 0, 1) := by decide +kernel
theorem dX12_machine_52 : decode cX12_machine 52 = .ok (.istore_n 2, 1) := by decide +kernel
theorem dX12_machine_53 : decode cX12_machine 53 = .ok (.iload_n 2, 1) := by decide +kernel
theorem dX12_machine_54 : decode cX12_machine 54 = .ok (.bipush 8, 2) := by decide +kernel
theorem dX12_machine_56 : decode cX12_machine 56 = .ok (.if_icmp .ge 24, 3) := by decide +kernel
theorem dX12_machine_59 : decode cX12_machine 59 = .ok (.aload_n 0, 1) := by decide +kernel
theorem dX12_machine_60 : decode cX12_machine 60 = .ok (.getfield 20, 3) := by decide +kernel
theorem dX12_machine_63 : decode cX12_machine 63 = .ok (.bipush 8, 2) := by decide +kernel
theorem dX12_machine_65 : decode cX12_machine 65 = .ok (.aload_n 0, 1) := by decide +kernel
theorem dX12_machine_66 : decode cX12_machine 66 = .ok (.getfield 108, 3) := by decide +kernel
theorem dX12_machine_69 : decode cX12_machine 69 = .ok (.imul, 1) := by decide +kernel
theorem dX12_machine_70 : decode cX12_machine 70 = .ok (.iload_n 2, 1) := by decide +kernel
theorem dX12_machine_71 : decode cX12_machine 71 = .ok (.iadd, 1) := by decide +kernel
theorem dX12_machine_72 : decode cX12_machine 72 = .ok (.iconst (-1), 1) := by decide +kernel
theorem dX12_machine_73 : decode cX12_machine 73 = .ok (.iastore, 1) := by decide +kernel
theorem dX12_machine_74 : decode cX12_machine 74 = .ok (.iinc 2 1, 3) := by decide +kernel
theorem dX12_machine_77 : decode cX12_machine 77 = .ok (.goto (-24), 3) := by decide +kernel
theorem dX12_machine_80 : decode cX12_machine 80 = .ok (.aload_n 0, 1) := by decide +kernel
theorem dX12_machine_81 : decode cX12_machine 81 = .ok (.dup, 1) := by decide +kernel
theorem dX12_machine_82 : decode cX12_machine 82 = .ok (.getfield 108, 3) := by decide +kernel
theorem dX12_machine_85 : decode cX12_machine 85 = .ok (.iconst 1, 1) := by decide +kernel
theorem dX12_machine_86 : decode cX12_machine 86 = .ok (.iadd, 1) := by decide +kernel
theorem dX12_machine_87 : decode cX12_machine 87 = .ok (.putfield 108, 3) := by decide +kernel
theorem dX12_machine_90 : decode cX12_machine 90 = .ok (.aload_n 0, 1) := by decide +kernel
theorem dX12_machine_91 : decode cX12_machine 91 = .ok (.getfield 108, 3) := by decide +kernel
theorem dX12_machine_94 : decode cX12_machine 94 = .ok (.iconst 1, 1) := by decide +kernel
theorem dX12_machine_95 : decode cX12_machine 95 = .ok (.isub, 1) := by decide +kernel
theorem dX12_machine_96 : decode cX12_machine 96 = .ok (.ireturn, 1) := by decide +kernel
def f_X12_machine_39 : Mo Int32 := mp (0 : Int32)
set_option maxRecDepth 100000 in
set_option maxHeartbeats 4000000 in
theorem s_X12_machine_39 {X : Cg} (cx : Cx X cX12_machine RX12 3) (hfr : 1 ≤ (xR X).frames) (hlo : 22 ≤ (xR X).locals) (hr : (xM X).sig.returnType = (some .int)) : Sim X 3 (FiM X vI) 39 [] [] (f_X12_machine_39) := by
  unfold f_X12_machine_39
  refine sm_iconst (v := 0) cx dX12_machine_39 (by decide) ?_
  exact sm_iret cx hr dX12_machine_40
def f_X12_machine_53 (r0 : Option Nat) : Nat → Int32 → Mo Int32
  | 0, _ => mf
  | n + 1, x2 => (if (8 : Int32) ≤ x2 then mb (gI 15 7 r0) (fun v82 => mb (pV 15 7 r0 (.int (v82 + (1 : Int32)))) (fun _ => mb (gI 15 7 r0) (fun v91 => mp (v91 - (1 : Int32))))) else mb (gR 15 5 r0) (fun v60 => mb (gI 15 7 r0) (fun v66 => mb (sI 1 v60 (((8 : Int32) * v66) + x2) (-1 : Int32)) (fun _ => (f_X12_machine_53 r0 n) (x2 + 1)))))
set_option maxRecDepth 100000 in
set_option maxHeartbeats 4000000 in
theorem s_X12_machine_53 {X : Cg} (cx : Cx X cX12_machine RX12 3) (hfr : 1 ≤ (xR X).frames) (hlo : 22 ≤ (xR X).locals) (hr : (xM X).sig.returnType = (some .int)) (r0 : Option Nat) : ∀ (n : Nat) (x2 : Int32), Sim X 3 (FiM X vI) 53 [(0, va_rf r0), (2, .int x2)] [] (f_X12_machine_53 r0 n x2) := by
  intro n
  induction n with
  | zero =>
    intro _
    exact sm_mf
  | succ n ih =>
    intro x2
    rw [f_X12_machine_53]
    refine sm_iload_n cx 1 dX12_machine_53 rfl rfl ?_
    refine sm_bipush (v := 8) cx dX12_machine_54 (by decide) ?_
    refine sm_icmp_ge (tgt := 80) cx dX12_machine_56 (by decide) ?_ ?_
    · refine sm_aload_n cx 0 dX12_machine_80 rfl rfl ?_
      refine sm_dup cx dX12_machine_81 (rf_cat _) ?_
      refine sm_getI cx fl_X12_108 dX12_machine_82 (fun v82 => ?_)
      refine sm_iconst (v := 1) cx dX12_machine_85 (by decide) ?_
      refine sm_iadd cx dX12_machine_86 ?_
      refine sm_putV cx fl_X12_108 rfl rfl dX12_machine_87 ?_
      refine sm_aload_n cx 0 dX12_machine_90 rfl rfl ?_
      refine sm_getI cx fl_X12_108 dX12_machine_91 (fun v91 => ?_)
      refine sm_iconst (v := 1) cx dX12_machine_94 (by decide) ?_
      refine sm_isub cx dX12_machine_95 ?_
      exact sm_iret cx hr dX12_machine_96
    · refine sm_aload_n cx 0 dX12_machine_59 rfl rfl ?_
      refine sm_getR cx fl_X12_20 dX12_machine_60 (fun v60 => ?_)
      refine sm_bipush (v := 8) cx dX12_machine_63 (by decide) ?_
      refine sm_aload_n cx 0 dX12_machine_65 rfl rfl ?_
      refine sm_getI cx fl_X12_108 dX12_machine_66 (fun v66 => ?_)
      refine sm_imul cx dX12_machine_69 ?_
      refine sm_iload_n cx 1 dX12_machine_70 rfl rfl ?_
      refine sm_iadd cx dX12_machine_71 ?_
      refine sm_iconst (v := -1) cx dX12_machine_72 (by decide) ?_
      refine sm_iast cx dX12_machine_73 ?_
      refine sm_iinc cx 1 [(2, .int (x2 + 1)), (0, va_rf r0)] dX12_machine_74 rfl rfl (by decide) rfl nc0 rfl ?_
      refine sm_goto (tgt := 53) cx dX12_machine_77 (by decide) ?_
      exact sm_lv [1, 0] rfl (ih (x2 + 1))
def f_X12_machine_32 (r0 : Option Nat) (x1 : Int32) (sr0 : Option Nat) (sx1 : Int32) : Mo Int32 := mb (mo 15 sr0 (f_X12_bad sr0 sx1 (2 : Int32))) (fun v33 => (if v33 = 0 then mb (gR 15 4 r0) (fun v42 => mb (gI 15 7 r0) (fun v46 => mb (sI 1 v42 v46 x1) (fun _ => f_X12_machine_53 r0 fuL (0 : Int32)))) else f_X12_machine_39))
set_option maxRecDepth 100000 in
set_option maxHeartbeats 4000000 in
theorem s_X12_machine_32 {X : Cg} (cx : Cx X cX12_machine RX12 3) (hfr : 1 ≤ (xR X).frames) (hlo : 22 ≤ (xR X).locals) (hr : (xM X).sig.returnType = (some .int)) (r0 : Option Nat) (x1 : Int32) (sr0 : Option Nat) (sx1 : Int32) : Sim X 3 (FiM X vI) 32 [(0, va_rf r0), (1, .int x1)] [.int sx1, va_rf sr0] (f_X12_machine_32 r0 x1 sr0 sx1) := by
  unfold f_X12_machine_32
  refine sm_iconst (v := 2) cx dX12_machine_32 (by decide) ?_
  refine sm_callV (T := TX12) (N := 47) (toV := vI) cx [.int sx1, .int (2 : Int32)] rfl cv_X12_104 (fun a h => ct_X12_bad (xZ X) a h sx1 (2 : Int32)) (Nat.le_trans (by decide) hfr) (Nat.le_trans (by decide) hlo) rfl (cat_le _ (Nat.le_of_ble_eq_true rfl)) dX12_machine_33 (fun v33 => ?_)
  refine sm_if_eq (tgt := 41) cx dX12_machine_36 (by decide) ?_ ?_
  · refine sm_aload_n cx 0 dX12_machine_41 rfl rfl ?_
    refine sm_getR cx fl_X12_17 dX12_machine_42 (fun v42 => ?_)
    refine sm_aload_n cx 0 dX12_machine_45 rfl rfl ?_
    refine sm_getI cx fl_X12_108 dX12_machine_46 (fun v46 => ?_)
    refine sm_iload_n cx 1 dX12_machine_49 rfl rfl ?_
    refine sm_iast cx dX12_machine_50 ?_
    refine sm_iconst (v := 0) cx dX12_machine_51 (by decide) ?_
    refine sm_istore_n cx [(2, .int (0 : Int32)), (0, va_rf r0), (1, .int x1)] dX12_machine_52 rfl (by decide) rfl (nc1 rfl) rfl ?_
    exact sm_lv [1, 0] rfl (s_X12_machine_53 cx hfr hlo hr r0 fuL (0 : Int32))
  · exact sm_lv [] rfl (s_X12_machine_39 cx hfr hlo hr)
def f_X12_machine (r0 : Option Nat) (x1 : Int32) : Mo Int32 := mb (pV 15 0 r0 (.int (0 : Int32))) (fun _ => mb (gI 15 3 r0) (fun v8 => mb (mo 15 r0 (f_X12_none r0 x1 v8)) (fun v11 => (if v11 = 0 then mb (gI 15 7 r0) (fun v19 => (if v19 = (60 : Int32) then f_X12_machine_32 r0 x1 r0 (1 : Int32) else f_X12_machine_32 r0 x1 r0 (0 : Int32))) else f_X12_machine_39))))
set_option maxRecDepth 100000 in
set_option maxHeartbeats 4000000 in
theorem s_X12_machine {X : Cg} (cx : Cx X cX12_machine RX12 3) (hfr : 1 ≤ (xR X).frames) (hlo : 22 ≤ (xR X).locals) (hr : (xM X).sig.returnType = (some .int)) (r0 : Option Nat) (x1 : Int32) : Sim X 3 (FiM X vI) 0 [(0, va_rf r0), (1, .int x1)] [] (f_X12_machine r0 x1) := by
  unfold f_X12_machine
  refine sm_aload_n cx 0 dX12_machine_0 rfl rfl ?_
  refine sm_iconst (v := 0) cx dX12_machine_1 (by decide) ?_
  refine sm_putV cx fl_X12_97 rfl rfl dX12_machine_2 ?_
  refine sm_aload_n cx 0 dX12_machine_5 rfl rfl ?_
  refine sm_iload_n cx 1 dX12_machine_6 rfl rfl ?_
  refine sm_aload_n cx 0 dX12_machine_7 rfl rfl ?_
  refine sm_getI cx fl_X12_94 dX12_machine_8 (fun v8 => ?_)
  refine sm_callV (T := TX12) (N := 47) (toV := vI) cx [.int x1, .int v8] rfl cv_X12_100 (fun a h => ct_X12_none (xZ X) a h x1 v8) (Nat.le_trans (by decide) hfr) (Nat.le_trans (by decide) hlo) rfl (cat_le _ (Nat.le_of_ble_eq_true rfl)) dX12_machine_11 (fun v11 => ?_)
  refine sm_if_ne (tgt := 39) cx dX12_machine_14 (by decide) ?_ ?_
  · exact sm_lv [] rfl (s_X12_machine_39 cx hfr hlo hr)
  · refine sm_aload_n cx 0 dX12_machine_17 rfl rfl ?_
    refine sm_aload_n cx 0 dX12_machine_18 rfl rfl ?_
    refine sm_getI cx fl_X12_108 dX12_machine_19 (fun v19 => ?_)
    refine sm_bipush (v := 60) cx dX12_machine_22 (by decide) ?_
    refine sm_icmp_ne (tgt := 31) cx dX12_machine_24 (by decide) ?_ ?_
    · refine sm_iconst (v := 0) cx dX12_machine_31 (by decide) ?_
      exact sm_lv [0, 1] rfl (s_X12_machine_32 cx hfr hlo hr r0 x1 r0 (0 : Int32))
    · refine sm_iconst (v := 1) cx dX12_machine_27 (by decide) ?_
      refine sm_goto (tgt := 32) cx dX12_machine_28 (by decide) ?_
      exact sm_lv [0, 1] rfl (s_X12_machine_32 cx hfr hlo hr r0 x1 r0 (1 : Int32))
set_option maxRecDepth 100000 in
set_option maxHeartbeats 4000000 in
theorem ct_X12_machine (Z : Nat → Nat) {r0 : Option Nat} (a0 : Nat) (h0 : r0 = some a0) (x1 : Int32) : Ct yX12_machine cX12_machine 3 (some .int) 1 22 Z [.ref a0, .int x1] vI (f_X12_machine r0 x1) := by
  subst h0
  refine ct_of (lv0 := [(0, va_rf (some a0)), (1, .int x1)]) (by decide +kernel) (by simp [lg_sl, ct_i, ct_l, ct_r, rf_cat]) (by show _ = ([(0, Value.ref a0), (1, .int x1)] : List (Nat × Value)); simp [lv_args, ct_i, ct_l, ct_r, rf_cat]) (fun X cx hZ hfr hlo hr hin => ?_)
  subst hZ
  exact s_X12_machine cx (Nat.le_of_eq hfr.symm) (Nat.le_of_eq hlo.symm) hr (some a0) x1
/-! PolicyTreeModel.fact(III)I -/
theorem dX12_fact_0 : decode cX12_fact 0 = .ok (.aload_n 0, 1) := by decide +kernel
theorem dX12_fact_1 : decode cX12_fact 1 = .ok (.iconst 0, 1) := by decide +kernel
theorem dX12_fact_2 : decode cX12_fact 2 = .ok (.putfield 97, 3) := by decide +kernel
theorem dX12_fact_5 : decode cX12_fact 5 = .ok (.aload_n 0, 1) := by decide +kernel
theorem dX12_fact_6 : decode cX12_fact 6 = .ok (.iload_n 1, 1) := by decide +kernel
theorem dX12_fact_7 : decode cX12_fact 7 = .ok (.aload_n 0, 1) := by decide +kernel
theorem dX12_fact_8 : decode cX12_fact 8 = .ok (.getfield 108, 3) := by decide +kernel
theorem dX12_fact_11 : decode cX12_fact 11 = .ok (.invokevirtual 100, 3) := by decide +kernel
theorem dX12_fact_14 : decode cX12_fact 14 = .ok (.ifCond .ne 36, 3) := by decide +kernel
theorem dX12_fact_17 : decode cX12_fact 17 = .ok (.aload_n 0, 1) := by decide +kernel
theorem dX12_fact_18 : decode cX12_fact 18 = .ok (.iload_n 2, 1) := by decide +kernel
theorem dX12_fact_19 : decode cX12_fact 19 = .ok (.ifCond .lt 19, 3) := by decide +kernel
theorem dX12_fact_22 : decode cX12_fact 22 = .ok (.iload_n 2, 1) := by decide +kernel
theorem dX12_fact_23 : decode cX12_fact 23 = .ok (.bipush 8, 2) := by decide +kernel
theorem dX12_fact_25 : decode cX12_fact 25 = .ok (.if_icmp .ge 13, 3) := by decide +kernel
theorem dX12_fact_28 : decode cX12_fact 28 = .ok (.iload_n 3, 1) := by decide +kernel
theorem dX12_fact_29 : decode cX12_fact 29 = .ok (.iconst (-1), 1) := by decide +kernel
theorem dX12_fact_30 : decode cX12_fact 30 = .ok (.if_icmp .lt 8, 3) := by decide +kernel
theorem dX12_fact_33 : decode cX12_fact 33 = .ok (.iload_n 3, 1) := by decide +kernel
theorem dX12_fact_34 : decode cX12_fact 34 = .ok (.iconst 1, 1) := by decide +kernel
theorem dX12_fact_35 : decode cX12_fact 35 = .ok (.if_icmp .le 7, 3) := by decide +kernel
theorem dX12_fact_38 : decode cX12_fact 38 = .ok (.iconst 1, 1) := by decide +kernel
theorem dX12_fact_39 : decode cX12_fact 39 = .ok (.goto 4, 3) := by decide +kernel
theorem dX12_fact_42 : decode cX12_fact 42 = .ok (.iconst 0, 1) := by decide +kernel
theorem dX12_fact_43 : decode cX12_fact 43 = .ok (.iconst 2, 1) := by decide +kernel
theorem dX12_fact_44 : decode cX12_fact 44 = .ok (.invokevirtual 104, 3) := by decide +kernel
theorem dX12_fact_47 : decode cX12_fact 47 = .ok (.ifCond .eq 5, 3) := by decide +kernel
theorem dX12_fact_50 : decode cX12_fact 50 = .ok (.iconst 0, 1) := by decide +kernel
theorem dX12_fact_51 : decode cX12_fact 51 = .ok (.ireturn, 1) := by decide +kernel
theorem dX12_fact_52 : decode cX12_fact 52 = .ok (.aload_n 0, 1) := by decide +kernel
theorem dX12_fact_53 : decode cX12_fact 53 = .ok (.getfield 20, 3) := by decide +kernel
theorem dX12_fact_56 : decode cX12_fact 56 = .ok (.bipush 8, 2) := by decide +kernel
theorem dX12_fact_58 : decode cX12_fact 58 = .ok (.iload_n 1, 1) := by decide +kernel
theorem dX12_fact_59 : decode cX12_fact 59 = .ok (.imul, 1) := by decide +kernel
theorem dX12_fact_60 : decode cX12_fact 60 = .ok (.iload_n 2, 1) := by decide +kernel
theorem dX12_fact_61 : decode cX12_fact 61 = .ok (.iadd, 1) := by decide +kernel
theorem dX12_fact_62 : decode cX12_fact 62 = .ok (.iaload, 1) := by decide +kernel
theorem dX12_fact_63 : decode cX12_fact 63 = .ok (.istore 4, 2) := by decide +kernel
theorem dX12_fact_65 : decode cX12_fact 65 = .ok (.aload_n 0, 1) := by decide +kernel
theorem dX12_fact_66 : decode cX12_fact 66 = .ok (.getfield 20, 3) := by decide +kernel
theorem dX12_fact_69 : decode cX12_fact 69 = .ok (.bipush 8, 2) := by decide +kernel
theorem dX12_fact_71 : decode cX12_fact 71 = .ok (.iload_n 1, 1) := by decide +kernel
theorem dX12_fact_72 : decode cX12_fact 72 = .ok (.imul, 1) := by decide +kernel
theorem dX12_fact_73 : decode cX12_fact 73 = .ok (.iload_n 2, 1) := by decide +kernel
theorem dX12_fact_74 : decode cX12_fact 74 = .ok (.iadd, 1) := by decide +kernel
theorem dX12_fact_75 : decode cX12_fact 75 = .ok (.iload_n 3, 1) := by decide +kernel
theorem dX12_fact_76 : decode cX12_fact 76 = .ok (.iastore, 1) := by decide +kernel
theorem dX12_fact_77 : decode cX12_fact 77 = .ok (.iload 4, 2) := by decide +kernel
theorem dX12_fact_79 : decode cX12_fact 79 = .ok (.ireturn, 1) := by decide +kernel
def f_X12_fact_50 : Mo Int32 := mp (0 : Int32)
set_option maxRecDepth 100000 in
set_option maxHeartbeats 4000000 in
theorem s_X12_fact_50 {X : Cg} (cx : Cx X cX12_fact RX12 5) (hfr : 1 ≤ (xR X).frames) (hlo : 22 ≤ (xR X).locals) (hr : (xM X).sig.returnType = (some .int)) : Sim X 5 (FiM X vI) 50 [] [] (f_X12_fact_50) := by
  unfold f_X12_fact_50
  refine sm_iconst (v := 0) cx dX12_fact_50 (by decide) ?_
  exact sm_iret cx hr dX12_fact_51
def f_X12_fact_43 (r0 : Option Nat) (x1 : Int32) (x2 : Int32) (x3 : Int32) (sr0 : Option Nat) (sx1 : Int32) : Mo Int32 := mb (mo 15 sr0 (f_X12_bad sr0 sx1 (2 : Int32))) (fun v44 => (if v44 = 0 then mb (gR 15 5 r0) (fun v53 => mb (aI 1 v53 (((8 : Int32) * x1) + x2)) (fun v62 => mb (gR 15 5 r0) (fun v66 => mb (sI 1 v66 (((8 : Int32) * x1) + x2) x3) (fun _ => mp v62)))) else f_X12_fact_50))
set_option maxRecDepth 100000 in
set_option maxHeartbeats 4000000 in
theorem s_X12_fact_43 {X : Cg} (cx : Cx X cX12_fact RX12 5) (hfr : 1 ≤ (xR X).frames) (hlo : 22 ≤ (xR X).locals) (hr : (xM X).sig.returnType = (some .int)) (r0 : Option Nat) (x1 : Int32) (x2 : Int32) (x3 : Int32) (sr0 : Option Nat) (sx1 : Int32) : Sim X 5 (FiM X vI) 43 [(0, va_rf r0), (1, .int x1), (2, .int x2), (3, .int x3)] [.int sx1, va_rf sr0] (f_X12_fact_43 r0 x1 x2 x3 sr0 sx1) := by
  unfold f_X12_fact_43
  refine sm_iconst (v := 2) cx dX12_fact_43 (by decide) ?_
  refine sm_callV (T := TX12) (N := 47) (toV := vI) cx [.int sx1, .int (2 : Int32)] rfl cv_X12_104 (fun a h => ct_X12_bad (xZ X) a h sx1 (2 : Int32)) (Nat.le_trans (by decide) hfr) (Nat.le_trans (by decide) hlo) rfl (cat_le _ (Nat.le_of_ble_eq_true rfl)) dX12_fact_44 (fun v44 => ?_)
  refine sm_if_eq (tgt := 52) cx dX12_fact_47 (by decide) ?_ ?_
  · refine sm_aload_n cx 0 dX12_fact_52 rfl rfl ?_
    refine sm_getR cx fl_X12_20 dX12_fact_53 (fun v53 => ?_)
    refine sm_bipush (v := 8) cx dX12_fact_56 (by decide) ?_
    refine sm_iload_n cx 1 dX12_fact_58 rfl rfl ?_
    refine sm_imul cx dX12_fact_59 ?_
    refine sm_iload_n cx 2 dX12_fact_60 rfl rfl ?_
    refine sm_iadd cx dX12_fact_61 ?_
    refine sm_iald cx dX12_fact_62 (fun v62 => ?_)
    refine sm_istore cx [(4, .int v62), (0, va_rf r0), (1, .int x1), (2, .int x2), (3, .int x3)] dX12_fact_63 (by decide) rfl (nc1 rfl) rfl ?_
    refine sm_aload_n cx 1 dX12_fact_65 rfl rfl ?_
    refine sm_getR cx fl_X12_20 dX12_fact_66 (fun v66 => ?_)
    refine sm_bipush (v := 8) cx dX12_fact_69 (by decide) ?_
    refine sm_iload_n cx 2 dX12_fact_71 rfl rfl ?_
    refine sm_imul cx dX12_fact_72 ?_
    refine sm_iload_n cx 3 dX12_fact_73 rfl rfl ?_
    refine sm_iadd cx dX12_fact_74 ?_
    refine sm_iload_n cx 4 dX12_fact_75 rfl rfl ?_
    refine sm_iast cx dX12_fact_76 ?_
    refine sm_iload cx 0 dX12_fact_77 rfl ?_
    exact sm_iret cx hr dX12_fact_79
  · exact sm_lv [] rfl (s_X12_fact_50 cx hfr hlo hr)
def f_X12_fact_38 (r0 : Option Nat) (x1 : Int32) (x2 : Int32) (x3 : Int32) (sr0 : Option Nat) : Mo Int32 := f_X12_fact_43 r0 x1 x2 x3 sr0 (1 : Int32)
set_option maxRecDepth 100000 in
set_option maxHeartbeats 4000000 in
theorem s_X12_fact_38 {X : Cg} (cx : Cx X cX12_fact RX12 5) (hfr : 1 ≤ (xR X).frames) (hlo : 22 ≤ (xR X).locals) (hr : (xM X).sig.returnType = (some .int)) (r0 : Option Nat) (x1 : Int32) (x2 : Int32) (x3 : Int32) (sr0 : Option Nat) : Sim X 5 (FiM X vI) 38 [(0, va_rf r0), (1, .int x1), (2, .int x2), (3, .int x3)] [va_rf sr0] (f_X12_fact_38 r0 x1 x2 x3 sr0) := by
  unfold f_X12_fact_38
  refine sm_iconst (v := 1) cx dX12_fact_38 (by decide) ?_
  refine sm_goto (tgt := 43) cx dX12_fact_39 (by decide) ?_
  exact sm_lv [0, 1, 2, 3] rfl (s_X12_fact_43 cx hfr hlo hr r0 x1 x2 x3 sr0 (1 : Int32))
def f_X12_fact (r0 : Option Nat) (x1 : Int32) (x2 : Int32) (x3 : Int32) : Mo Int32 := mb (pV 15 0 r0 (.int (0 : Int32))) (fun _ => mb (gI 15 7 r0) (fun v8 => mb (mo 15 r0 (f_X12_none r0 x1 v8)) (fun v11 => (if v11 = 0 then (if x2 < 0 then f_X12_fact_38 r0 x1 x2 x3 r0 else (if (8 : Int32) ≤ x2 then f_X12_fact_38 r0 x1 x2 x3 r0 else (if x3 < (-1 : Int32) then f_X12_fact_38 r0 x1 x2 x3 r0 else (if x3 ≤ (1 : Int32) then f_X12_fact_43 r0 x1 x2 x3 r0 (0 : Int32) else f_X12_fact_38 r0 x1 x2 x3 r0)))) else f_X12_fact_50))))
set_option maxRecDepth 100000 in
set_option maxHeartbeats 4000000 in
theorem s_X12_fact {X : Cg} (cx : Cx X cX12_fact RX12 5) (hfr : 1 ≤ (xR X).frames) (hlo : 22 ≤ (xR X).locals) (hr : (xM X).sig.returnType = (some .int)) (r0 : Option Nat) (x1 : Int32) (x2 : Int32) (x3 : Int32) : Sim X 5 (FiM X vI) 0 [(0, va_rf r0), (1, .int x1), (2, .int x2), (3, .int x3)] [] (f_X12_fact r0 x1 x2 x3) := by
  unfold f_X12_fact
  refine sm_aload_n cx 0 dX12_fact_0 rfl rfl ?_
  refine sm_iconst (v := 0) cx dX12_fact_1 (by decide) ?_
  refine sm_putV cx fl_X12_97 rfl rfl dX12_fact_2 ?_
  refine sm_aload_n cx 0 dX12_fact_5 rfl rfl ?_
  refine sm_iload_n cx 1 dX12_fact_6 rfl rfl ?_
  refine sm_aload_n cx 0 dX12_fact_7 rfl rfl ?_
  refine sm_getI cx fl_X12_108 dX12_fact_8 (fun v8 => ?_)
  refine sm_callV (T := TX12) (N := 47) (toV := vI) cx [.int x1, .int v8] rfl cv_X12_100 (fun a h => ct_X12_none (xZ X) a h x1 v8) (Nat.le_trans (by decide) hfr) (Nat.le_trans (by decide) hlo) rfl (cat_le _ (Nat.le_of_ble_eq_true rfl)) dX12_fact_11 (fun v11 => ?_)
  refine sm_if_ne (tgt := 50) cx dX12_fact_14 (by decide) ?_ ?_
  · exact sm_lv [] rfl (s_X12_fact_50 cx hfr hlo hr)
  · refine sm_aload_n cx 0 dX12_fact_17 rfl rfl ?_
    refine sm_iload_n cx 2 dX12_fact_18 rfl rfl ?_
    refine sm_if_lt (tgt := 38) cx dX12_fact_19 (by decide) ?_ ?_
    · exact sm_lv [0, 1, 2, 3] rfl (s_X12_fact_38 cx hfr hlo hr r0 x1 x2 x3 r0)
    · refine sm_iload_n cx 2 dX12_fact_22 rfl rfl ?_
      refine sm_bipush (v := 8) cx dX12_fact_23 (by decide) ?_
      refine sm_icmp_ge (tgt := 38) cx dX12_fact_25 (by decide) ?_ ?_
      · exact sm_lv [0, 1, 2, 3] rfl (s_X12_fact_38 cx hfr hlo hr r0 x1 x2 x3 r0)
      · refine sm_iload_n cx 3 dX12_fact_28 rfl rfl ?_
        refine sm_iconst (v := -1) cx dX12_fact_29 (by decide) ?_
        refine sm_icmp_lt (tgt := 38) cx dX12_fact_30 (by decide) ?_ ?_
        · exact sm_lv [0, 1, 2, 3] rfl (s_X12_fact_38 cx hfr hlo hr r0 x1 x2 x3 r0)
        · refine sm_iload_n cx 3 dX12_fact_33 rfl rfl ?_
          refine sm_iconst (v := 1) cx dX12_fact_34 (by decide) ?_
          refine sm_icmp_le (tgt := 42) cx dX12_fact_35 (by decide) ?_ ?_
          · refine sm_iconst (v := 0) cx dX12_fact_42 (by decide) ?_
            exact sm_lv [0, 1, 2, 3] rfl (s_X12_fact_43 cx hfr hlo hr r0 x1 x2 x3 r0 (0 : Int32))
          · exact sm_lv [0, 1, 2, 3] rfl (s_X12_fact_38 cx hfr hlo hr r0 x1 x2 x3 r0)
set_option maxRecDepth 100000 in
set_option maxHeartbeats 4000000 in
theorem ct_X12_fact (Z : Nat → Nat) {r0 : Option Nat} (a0 : Nat) (h0 : r0 = some a0) (x1 : Int32) (x2 : Int32) (x3 : Int32) : Ct yX12_fact cX12_fact 5 (some .int) 1 22 Z [.ref a0, .int x1, .int x2, .int x3] vI (f_X12_fact r0 x1 x2 x3) := by
  subst h0
  refine ct_of (lv0 := [(0, va_rf (some a0)), (1, .int x1), (2, .int x2), (3, .int x3)]) (by decide +kernel) (by simp [lg_sl, ct_i, ct_l, ct_r, rf_cat]) (by show _ = ([(0, Value.ref a0), (1, .int x1), (2, .int x2), (3, .int x3)] : List (Nat × Value)); simp [lv_args, ct_i, ct_l, ct_r, rf_cat]) (fun X cx hZ hfr hlo hr hin => ?_)
  subst hZ
  exact s_X12_fact cx (Nat.le_of_eq hfr.symm) (Nat.le_of_eq hlo.symm) hr (some a0) x1 x2 x3
/-! PolicyTreeModel.group()I -/
theorem dX12_group_0 : decode cX12_group 0 = .ok (.aload_n 0, 1) := by decide +kernel
theorem dX12_group_1 : decode cX12_group 1 = .ok (.iconst 0, 1) := by decide +kernel
theorem dX12_group_2 : decode cX12_group 2 = .ok (.putfield 97, 3) := by decide +kernel
theorem dX12_group_5 : decode cX12_group 5 = .ok (.aload_n 0, 1) := by decide +kernel
theorem dX12_group_6 : decode cX12_group 6 = .ok (.aload_n 0, 1) := by decide +kernel
theorem dX12_group_7 : decode cX12_group 7 = .ok (.getfield 111, 3) := by decide +kernel
theorem dX12_group_10 : decode cX12_group 10 = .ok (.bipush 20, 2) := by decide +kernel
theorem dX12_group_12 : decode cX12_group 12 = .ok (.if_icmp .ne 7, 3) := by decide +kernel
theorem dX12_group_15 : decode cX12_group 15 = .ok (.iconst 1, 1) := by decide +kernel
theorem dX12_group_16 : decode cX12_group 16 = .ok (.goto 4, 3) := by decide +kernel
theorem dX12_group_19 : decode cX12_group 19 = .ok (.iconst 0, 1) := by decide +kernel
theorem dX12_group_20 : decode cX12_group 20 = .ok (.iconst 1, 1) := by decide +kernel
theorem dX12_group_21 : decode cX12_group 21 = .ok (.invokevirtual 104, 3) := by decide +kernel
theorem dX12_group_24 : decode cX12_group 24 = .ok (.ifCond .eq 5, 3) := by decide +kernel
theorem dX12_group_27 : decode cX12_group 27 = .ok (.iconst 0, 1) := by decide +kernel
theorem dX12_group_28 : decode cX12_group 28 = .ok (.ireturn, 1) := by decide +kernel
theorem dX12_group_29 : decode cX12_group 29 = .ok (.aload_n 0, 1) := by decide +kernel
theorem dX12_group_30 : decode cX12_group 30 = .ok (.dup, 1) := by decide +kernel
theorem dX12_group_31 : decode cX12_group 31 = .ok (.getfield 111, 3) := by decide +kernel
theorem dX12_group_34 : decode cX12_group 34 = .ok (.iconst 1, 1) := by decide +kernel
theorem dX12_group_35 : decode cX12_group 35 = .ok (.iadd, 1) := by decide +kernel
theorem dX12_group_36 : decode cX12_group 36 = .ok (.putfield 111, 3) := by decide +kernel
theorem dX12_group_39 : decode cX12_group 39 = .ok (.aload_n 0, 1) := by decide +kernel
theorem dX12_group_40 : decode cX12_group 40 = .ok (.getfield 111, 3) := by decide +kernel
theorem dX12_group_43 : decode cX12_group 43 = .ok (.iconst 1, 1) := by decide +kernel
theorem dX12_group_44 : decode cX12_group 44 = .ok (.isub, 1) := by decide +kernel
theorem dX12_group_45 : decode cX12_group 45 = .ok (.ireturn, 1) := by decide +kernel
def f_X12_group_20 (r0 : Option Nat) (sr0 : Option Nat) (sx1 : Int32) : Mo Int32 := mb (mo 15 sr0 (f_X12_bad sr0 sx1 (1 : Int32))) (fun v21 => (if v21 = 0 then mb (gI 15 9 r0) (fun v31 => mb (pV 15 9 r0 (.int (v31 + (1 : Int32)))) (fun _ => mb (gI 15 9 r0) (fun v40 => mp (v40 - (1 : Int32))))) else mp (0 : Int32)))
set_option maxRecDepth 100000 in
set_option maxHeartbeats 4000000 in
theorem s_X12_group_20 {X : Cg} (cx : Cx X cX12_group RX12 1) (hfr : 1 ≤ (xR X).frames) (hlo : 22 ≤ (xR X).locals) (hr : (xM X).sig.returnType = (some .int)) (r0 : Option Nat) (sr0 : Option Nat) (sx1 : Int32) : Sim X 1 (FiM X vI) 20 [(0, va_rf r0)] [.int sx1, va_rf sr0] (f_X12_group_20 r0 sr0 sx1) := by
  unfold f_X12_group_20
  refine sm_iconst (v := 1) cx dX12_group_20 (by decide) ?_
  refine sm_callV (T := TX12) (N := 47) (toV := vI) cx [.int sx1, .int (1 : Int32)] rfl cv_X12_104 (fun a h => ct_X12_bad (xZ X) a h sx1 (1 : Int32)) (Nat.le_trans (by decide) hfr) (Nat.le_trans (by decide) hlo) rfl (cat_le _ (Nat.le_of_ble_eq_true rfl)) dX12_group_21 (fun v21 => ?_)
  refine sm_if_eq (tgt := 29) cx dX12_group_24 (by decide) ?_ ?_
  · refine sm_aload_n cx 0 dX12_group_29 rfl rfl ?_
    refine sm_dup cx dX12_group_30 (rf_cat _) ?_
    refine sm_getI cx fl_X12_111 dX12_group_31 (fun v31 => ?_)
    refine sm_iconst (v := 1) cx dX12_group_34 (by decide) ?_
    refine sm_iadd cx dX12_group_35 ?_
    refine sm_putV cx fl_X12_111 rfl rfl dX12_group_36 ?_
    refine sm_aload_n cx 0 dX12_group_39 rfl rfl ?_
    refine sm_getI cx fl_X12_111 dX12_group_40 (fun v40 => ?_)
    refine sm_iconst (v := 1) cx dX12_group_43 (by decide) ?_
    refine sm_isub cx dX12_group_44 ?_
    exact sm_iret cx hr dX12_group_45
  · refine sm_iconst (v := 0) cx dX12_group_27 (by decide) ?_
    exact sm_iret cx hr dX12_group_28
def f_X12_group (r0 : Option Nat) : Mo Int32 := mb (pV 15 0 r0 (.int (0 : Int32))) (fun _ => mb (gI 15 9 r0) (fun v7 => (if v7 = (20 : Int32) then f_X12_group_20 r0 r0 (1 : Int32) else f_X12_group_20 r0 r0 (0 : Int32))))
set_option maxRecDepth 100000 in
set_option maxHeartbeats 4000000 in
theorem s_X12_group {X : Cg} (cx : Cx X cX12_group RX12 1) (hfr : 1 ≤ (xR X).frames) (hlo : 22 ≤ (xR X).locals) (hr : (xM X).sig.returnType = (some .int)) (r0 : Option Nat) : Sim X 1 (FiM X vI) 0 [(0, va_rf r0)] [] (f_X12_group r0) := by
  unfold f_X12_group
  refine sm_aload_n cx 0 dX12_group_0 rfl rfl ?_
  refine sm_iconst (v := 0) cx dX12_group_1 (by decide) ?_
  refine sm_putV cx fl_X12_97 rfl rfl dX12_group_2 ?_
  refine sm_aload_n cx 0 dX12_group_5 rfl rfl ?_
  refine sm_aload_n cx 0 dX12_group_6 rfl rfl ?_
  refine sm_getI cx fl_X12_111 dX12_group_7 (fun v7 => ?_)
  refine sm_bipush (v := 20) cx dX12_group_10 (by decide) ?_
  refine sm_icmp_ne (tgt := 19) cx dX12_group_12 (by decide) ?_ ?_
  · refine sm_iconst (v := 0) cx dX12_group_19 (by decide) ?_
    exact sm_lv [0] rfl (s_X12_group_20 cx hfr hlo hr r0 r0 (0 : Int32))
  · refine sm_iconst (v := 1) cx dX12_group_15 (by decide) ?_
    refine sm_goto (tgt := 20) cx dX12_group_16 (by decide) ?_
    exact sm_lv [0] rfl (s_X12_group_20 cx hfr hlo hr r0 r0 (1 : Int32))
set_option maxRecDepth 100000 in
set_option maxHeartbeats 4000000 in
theorem ct_X12_group (Z : Nat → Nat) {r0 : Option Nat} (a0 : Nat) (h0 : r0 = some a0) : Ct yX12_group cX12_group 1 (some .int) 1 22 Z [.ref a0] vI (f_X12_group r0) := by
  subst h0
  refine ct_of (lv0 := [(0, va_rf (some a0))]) (by decide +kernel) (by simp [lg_sl, ct_i, ct_l, ct_r, rf_cat]) (by show _ = ([(0, Value.ref a0)] : List (Nat × Value)); simp [lv_args, ct_i, ct_l, ct_r, rf_cat]) (fun X cx hZ hfr hlo hr hin => ?_)
  subst hZ
  exact s_X12_group cx (Nat.le_of_eq hfr.symm) (Nat.le_of_eq hlo.symm) hr (some a0)
/-! PolicyTreeModel.joins(IIZ)Z -/
theorem dX12_joins_0 : decode cX12_joins 0 = .ok (.aload_n 0, 1) := by decide +kernel
theorem dX12_joins_1 : decode cX12_joins 1 = .ok (.iconst 0, 1) := by decide +kernel
theorem dX12_joins_2 : decode cX12_joins 2 = .ok (.putfield 97, 3) := by decide +kernel
theorem dX12_joins_5 : decode cX12_joins 5 = .ok (.aload_n 0, 1) := by decide +kernel
theorem dX12_joins_6 : decode cX12_joins 6 = .ok (.iload_n 1, 1) := by decide +kernel
theorem dX12_joins_7 : decode cX12_joins 7 = .ok (.aload_n 0, 1) := by decide +kernel
theorem dX12_joins_8 : decode cX12_joins 8 = .ok (.getfield 111, 3) := by decide +kernel
theorem dX12_joins_11 : decode cX12_joins 11 = .ok (.invokevirtual 100, 3) := by decide +kernel
theorem dX12_joins_14 : decode cX12_joins 14 = .ok (.ifCond .ne 15, 3) := by decide +kernel
theorem dX12_joins_17 : decode cX12_joins 17 = .ok (.aload_n 0, 1) := by decide +kernel
theorem dX12_joins_18 : decode cX12_joins 18 = .ok (.iload_n 2, 1) := by decide +kernel
theorem dX12_joins_19 : decode cX12_joins 19 = .ok (.aload_n 0, 1) := by decide +kernel
theorem dX12_joins_20 : decode cX12_joins 20 = .ok (.getfield 108, 3) := by decide +kernel
theorem dX12_joins_23 : decode cX12_joins 23 = .ok (.invokevirtual 100, 3) := by decide +kernel
theorem dX12_joins_26 : decode cX12_joins 26 = .ok (.ifCond .eq 5, 3) := by decide +kernel
theorem dX12_joins_29 : decode cX12_joins 29 = .ok (.iconst 0, 1) := by decide +kernel
theorem dX12_joins_30 : decode cX12_joins 30 = .ok (.ireturn, 1) := by decide +kernel
theorem dX12_joins_31 : decode cX12_joins 31 = .ok (.aload_n 0, 1) := by decide +kernel
theorem dX12_joins_32 : decode cX12_joins 32 = .ok (.getfield 23, 3) := by decide +kernel
theorem dX12_joins_35 : decode cX12_joins 35 = .ok (.iload_n 2, 1) := by decide +kernel
theorem dX12_joins_36 : decode cX12_joins 36 = .ok (.iaload, 1) := by decide +kernel
theorem dX12_joins_37 : decode cX12_joins 37 = .ok (.iload_n 1, 1) := by decide +kernel
theorem dX12_joins_38 : decode cX12_joins 38 = .ok (.ishr, 1) := by decide +kernel
theorem dX12_joins_39 : decode cX12_joins 39 = .ok (.iconst 1, 1) := by decide +kernel
theorem dX12_joins_40 : decode cX12_joins 40 = .ok (.iand, 1) := by decide +kernel
theorem dX12_joins_41 : decode cX12_joins 41 = .ok (.iconst 1, 1) := by decide +kernel
theorem dX12_joins_42 : decode cX12_joins 42 = .ok (.if_icmp .ne 7, 3) := by decide +kernel
theorem dX12_joins_45 : decode cX12_joins 45 = .ok (.iconst 1, 1) := by decide +kernel
theorem dX12_joins_46 : decode cX12_joins 46 = .ok (.goto 4, 3) := by decide +kernel
theorem dX12_joins_49 : decode cX12_joins 49 = .ok (.iconst 0, 1) := by decide +kernel
theorem dX12_joins_50 : decode cX12_joins 50 = .ok (.istore 4, 2) := by decide +kernel
theorem dX12_joins_52 : decode cX12_joins 52 = .ok (.iload 4, 2) := by decide +kernel
theorem dX12_joins_54 : decode cX12_joins 54 = .ok (.iload_n 3, 1) := by decide +kernel
theorem dX12_joins_55 : decode cX12_joins 55 = .ok (.if_icmp .eq 15, 3) := by decide +kernel
theorem dX12_joins_58 : decode cX12_joins 58 = .ok (.aload_n 0, 1) := by decide +kernel
theorem dX12_joins_59 : decode cX12_joins 59 = .ok (.getfield 23, 3) := by decide +kernel
theorem dX12_joins_62 : decode cX12_joins 62 = .ok (.iload_n 2, 1) := by decide +kernel
theorem dX12_joins_63 : decode cX12_joins 63 = .ok (.dup2, 1) := by decide +kernel
theorem dX12_joins_64 : decode cX12_joins 64 = .ok (.iaload, 1) := by decide +kernel
theorem dX12_joins_65 : decode cX12_joins 65 = .ok (.iconst 1, 1) := by decide +kernel
theorem dX12_joins_66 : decode cX12_joins 66 = .ok (.iload_n 1, 1) := by decide +kernel
theorem dX12_joins_67 : decode cX12_joins 67 = .ok (.ishl, 1) := by decide +kernel
theorem dX12_joins_68 : decode cX12_joins 68 = .ok (.ixor, 1) := by decide +kernel
theorem dX12_joins_69 : decode cX12_joins 69 = .ok (.iastore, 1) := by decide +kernel
theorem dX12_joins_70 : decode cX12_joins 70 = .ok (.iload 4, 2) := by decide +kernel
theorem dX12_joins_72 : decode cX12_joins 72 = .ok (.ireturn, 1) := by decide +kernel
def f_X12_joins_29 : Mo Int32 := rz .boolean (0 : Int32)
set_option maxRecDepth 100000 in
set_option maxHeartbeats 4000000 in
theorem s_X12_joins_29 {X : Cg} (cx : Cx X cX12_joins RX12 5) (hfr : 1 ≤ (xR X).frames) (hlo : 22 ≤ (xR X).locals) (hr : (xM X).sig.returnType = (some .boolean)) : Sim X 5 (FiM X vI) 29 [] [] (f_X12_joins_29) := by
  unfold f_X12_joins_29
  refine sm_iconst (v := 0) cx dX12_joins_29 (by decide) ?_
  exact sm_zret cx hr dX12_joins_30
def f_X12_joins_70 (x4 : Int32) : Mo Int32 := rz .boolean x4
set_option maxRecDepth 100000 in
set_option maxHeartbeats 4000000 in
theorem s_X12_joins_70 {X : Cg} (cx : Cx X cX12_joins RX12 5) (hfr : 1 ≤ (xR X).frames) (hlo : 22 ≤ (xR X).locals) (hr : (xM X).sig.returnType = (some .boolean)) (x4 : Int32) : Sim X 5 (FiM X vI) 70 [(4, .int x4)] [] (f_X12_joins_70 x4) := by
  unfold f_X12_joins_70
  refine sm_iload cx 0 dX12_joins_70 rfl ?_
  exact sm_zret cx hr dX12_joins_72
def f_X12_joins_50 (r0 : Option Nat) (x1 : Int32) (x2 : Int32) (x3 : Int32) (sx0 : Int32) : Mo Int32 := (if sx0 = x3 then f_X12_joins_70 sx0 else mb (gR 15 6 r0) (fun v59 => mb (aI 1 v59 x2) (fun v64 => mb (sI 1 v59 x2 (v64 ^^^ ((1 : Int32) <<< (x1 &&& 31)))) (fun _ => f_X12_joins_70 sx0))))
set_option maxRecDepth 100000 in
set_option maxHeartbeats 4000000 in
theorem s_X12_joins_50 {X : Cg} (cx : Cx X cX12_joins RX12 5) (hfr : 1 ≤ (xR X).frames) (hlo : 22 ≤ (xR X).locals) (hr : (xM X).sig.returnType = (some .boolean)) (r0 : Option Nat) (x1 : Int32) (x2 : Int32) (x3 : Int32) (sx0 : Int32) : Sim X 5 (FiM X vI) 50 [(0, va_rf r0), (1, .int x1), (2, .int x2), (3, .int x3)] [.int sx0] (f_X12_joins_50 r0 x1 x2 x3 sx0) := by
  unfold f_X12_joins_50
  refine sm_istore cx [(4, .int sx0), (0, va_rf r0), (1, .int x1), (2, .int x2), (3, .int x3)] dX12_joins_50 (by decide) rfl (nc1 rfl) rfl ?_
  refine sm_iload cx 0 dX12_joins_52 rfl ?_
  refine sm_iload_n cx 4 dX12_joins_54 rfl rfl ?_
  refine sm_icmp_eq (tgt := 70) cx dX12_joins_55 (by decide) ?_ ?_
  · exact sm_lv [0] rfl (s_X12_joins_70 cx hfr hlo hr sx0)
  · refine sm_aload_n cx 1 dX12_joins_58 rfl rfl ?_
    refine sm_getR cx fl_X12_23 dX12_joins_59 (fun v59 => ?_)
    refine sm_iload_n cx 3 dX12_joins_62 rfl rfl ?_
    refine sm_dup2 cx dX12_joins_63 rfl (rf_cat _) ?_
    refine sm_iald cx dX12_joins_64 (fun v64 => ?_)
    refine sm_iconst (v := 1) cx dX12_joins_65 (by decide) ?_
    refine sm_iload_n cx 2 dX12_joins_66 rfl rfl ?_
    refine sm_ishl cx dX12_joins_67 ?_
    refine sm_ixor cx dX12_joins_68 ?_
    refine sm_iast cx dX12_joins_69 ?_
    exact sm_lv [0] rfl (s_X12_joins_70 cx hfr hlo hr sx0)
def f_X12_joins (r0 : Option Nat) (x1 : Int32) (x2 : Int32) (x3 : Int32) : Mo Int32 := mb (pV 15 0 r0 (.int (0 : Int32))) (fun _ => mb (gI 15 9 r0) (fun v8 => mb (mo 15 r0 (f_X12_none r0 x1 v8)) (fun v11 => (if v11 = 0 then mb (gI 15 7 r0) (fun v20 => mb (mo 15 r0 (f_X12_none r0 x2 v20)) (fun v23 => (if v23 = 0 then mb (gR 15 6 r0) (fun v32 => mb (aI 1 v32 x2) (fun v36 => (if ((v36 >>> (x1 &&& 31)) &&& (1 : Int32)) = (1 : Int32) then f_X12_joins_50 r0 x1 x2 x3 (1 : Int32) else f_X12_joins_50 r0 x1 x2 x3 (0 : Int32)))) else f_X12_joins_29))) else f_X12_joins_29))))
set_option maxRecDepth 100000 in
set_option maxHeartbeats 4000000 in
theorem s_X12_joins {X : Cg} (cx : Cx X cX12_joins RX12 5) (hfr : 1 ≤ (xR X).frames) (hlo : 22 ≤ (xR X).locals) (hr : (xM X).sig.returnType = (some .boolean)) (r0 : Option Nat) (x1 : Int32) (x2 : Int32) (x3 : Int32) : Sim X 5 (FiM X vI) 0 [(0, va_rf r0), (1, .int x1), (2, .int x2), (3, .int x3)] [] (f_X12_joins r0 x1 x2 x3) := by
  unfold f_X12_joins
  refine sm_aload_n cx 0 dX12_joins_0 rfl rfl ?_
  refine sm_iconst (v := 0) cx dX12_joins_1 (by decide) ?_
  refine sm_putV cx fl_X12_97 rfl rfl dX12_joins_2 ?_
  refine sm_aload_n cx 0 dX12_joins_5 rfl rfl ?_
  refine sm_iload_n cx 1 dX12_joins_6 rfl rfl ?_
  refine sm_aload_n cx 0 dX12_joins_7 rfl rfl ?_
  refine sm_getI cx fl_X12_111 dX12_joins_8 (fun v8 => ?_)
  refine sm_callV (T := TX12) (N := 47) (toV := vI) cx [.int x1, .int v8] rfl cv_X12_100 (fun a h => ct_X12_none (xZ X) a h x1 v8) (Nat.le_trans (by decide) hfr) (Nat.le_trans (by decide) hlo) rfl (cat_le _ (Nat.le_of_ble_eq_true rfl)) dX12_joins_11 (fun v11 => ?_)
  refine sm_if_ne (tgt := 29) cx dX12_joins_14 (by decide) ?_ ?_
  · exact sm_lv [] rfl (s_X12_joins_29 cx hfr hlo hr)
  · refine sm_aload_n cx 0 dX12_joins_17 rfl rfl ?_
    refine sm_iload_n cx 2 dX12_joins_18 rfl rfl ?_
    refine sm_aload_n cx 0 dX12_joins_19 rfl rfl ?_
    refine sm_getI cx fl_X12_108 dX12_joins_20 (fun v20 => ?_)
    refine sm_callV (T := TX12) (N := 47) (toV := vI) cx [.int x2, .int v20] rfl cv_X12_100 (fun a h => ct_X12_none (xZ X) a h x2 v20) (Nat.le_trans (by decide) hfr) (Nat.le_trans (by decide) hlo) rfl (cat_le _ (Nat.le_of_ble_eq_true rfl)) dX12_joins_23 (fun v23 => ?_)
    refine sm_if_eq (tgt := 31) cx dX12_joins_26 (by decide) ?_ ?_
    · refine sm_aload_n cx 0 dX12_joins_31 rfl rfl ?_
      refine sm_getR cx fl_X12_23 dX12_joins_32 (fun v32 => ?_)
      refine sm_iload_n cx 2 dX12_joins_35 rfl rfl ?_
      refine sm_iald cx dX12_joins_36 (fun v36 => ?_)
      refine sm_iload_n cx 1 dX12_joins_37 rfl rfl ?_
      refine sm_ishr cx dX12_joins_38 ?_
      refine sm_iconst (v := 1) cx dX12_joins_39 (by decide) ?_
      refine sm_iand cx dX12_joins_40 ?_
      refine sm_iconst (v := 1) cx dX12_joins_41 (by decide) ?_
      refine sm_icmp_ne (tgt := 49) cx dX12_joins_42 (by decide) ?_ ?_
      · refine sm_iconst (v := 0) cx dX12_joins_49 (by decide) ?_
        exact sm_lv [0, 1, 2, 3] rfl (s_X12_joins_50 cx hfr hlo hr r0 x1 x2 x3 (0 : Int32))
      · refine sm_iconst (v := 1) cx dX12_joins_45 (by decide) ?_
        refine sm_goto (tgt := 50) cx dX12_joins_46 (by decide) ?_
        exact sm_lv [0, 1, 2, 3] rfl (s_X12_joins_50 cx hfr hlo hr r0 x1 x2 x3 (1 : Int32))
    · exact sm_lv [] rfl (s_X12_joins_29 cx hfr hlo hr)
set_option maxRecDepth 100000 in
set_option maxHeartbeats 4000000 in
theorem ct_X12_joins (Z : Nat → Nat) {r0 : Option Nat} (a0 : Nat) (h0 : r0 = some a0) (x1 : Int32) (x2 : Int32) (x3 : Int32) : Ct yX12_joins cX12_joins 5 (some .boolean) 1 22 Z [.ref a0, .int x1, .int x2, .int x3] vI (f_X12_joins r0 x1 x2 x3) := by
  subst h0
  refine ct_of (lv0 := [(0, va_rf (some a0)), (1, .int x1), (2, .int x2), (3, .int x3)]) (by decide +kernel) (by simp [lg_sl, ct_i, ct_l, ct_r, rf_cat]) (by show _ = ([(0, Value.ref a0), (1, .int x1), (2, .int x2), (3, .int x3)] : List (Nat × Value)); simp [lv_args, ct_i, ct_l, ct_r, rf_cat]) (fun X cx hZ hfr hlo hr hin => ?_)
  subst hZ
  exact s_X12_joins cx (Nat.le_of_eq hfr.symm) (Nat.le_of_eq hlo.symm) hr (some a0) x1 x2 x3
/-! PolicyTreeModel.within(IIZ)Z -/
theorem dX12_within_0 : decode cX12_within 0 = .ok (.aload_n 0, 1) := by decide +kernel
theorem dX12_within_1 : decode cX12_within 1 = .ok (.iconst 0, 1) := by decide +kernel
theorem dX12_within_2 : decode cX12_within 2 = .ok (.putfield 97, 3) := by decide +kernel
theorem dX12_within_5 : decode cX12_within 5 = .ok (.aload_n 0, 1) := by decide +kernel
theorem dX12_within_6 : decode cX12_within 6 = .ok (.iload_n 1, 1) := by decide +kernel
theorem dX12_within_7 : decode cX12_within 7 = .ok (.aload_n 0, 1) := by decide +kernel
theorem dX12_within_8 : decode cX12_within 8 = .ok (.getfield 111, 3) := by decide +kernel
theorem dX12_within_11 : decode cX12_within 11 = .ok (.invokevirtual 100, 3) := by decide +kernel
theorem dX12_within_14 : decode cX12_within 14 = .ok (.ifCond .ne 15, 3) := by decide +kernel
theorem dX12_within_17 : decode cX12_within 17 = .ok (.aload_n 0, 1) := by decide +kernel
theorem dX12_within_18 : decode cX12_within 18 = .ok (.iload_n 2, 1) := by decide +kernel
theorem dX12_within_19 : decode cX12_within 19 = .ok (.aload_n 0, 1) := by decide +kernel
theorem dX12_within_20 : decode cX12_within 20 = .ok (.getfield 111, 3) := by decide +kernel
theorem dX12_within_23 : decode cX12_within 23 = .ok (.invokevirtual 100, 3) := by decide +kernel
theorem dX12_within_26 : decode cX12_within 26 = .ok (.ifCond .eq 5, 3) := by decide +kernel
theorem dX12_within_29 : decode cX12_within 29 = .ok (.iconst 0, 1) := by decide +kernel
theorem dX12_within_30 : decode cX12_within 30 = .ok (.ireturn, 1) := by decide +kernel
theorem dX12_within_31 : decode cX12_within 31 = .ok (.aload_n 0, 1) := by decide +kernel
theorem dX12_within_32 : decode cX12_within 32 = .ok (.getfield 26, 3) := by decide +kernel
theorem dX12_within_35 : decode cX12_within 35 = .ok (.iload_n 1, 1) := by decide +kernel
theorem dX12_within_36 : decode cX12_within 36 = .ok (.iaload, 1) := by decide +kernel
theorem dX12_within_37 : decode cX12_within 37 = .ok (.iload_n 2, 1) := by decide +kernel
theorem dX12_within_38 : decode cX12_within 38 = .ok (.ishr, 1) := by decide +kernel
theorem dX12_within_39 : decode cX12_within 39 = .ok (.iconst 1, 1) := by decide +kernel
theorem dX12_within_40 : decode cX12_within 40 = .ok (.iand, 1) := by decide +kernel
theorem dX12_within_41 : decode cX12_within 41 = .ok (.iconst 1, 1) := by decide +kernel
theorem dX12_within_42 : decode cX12_within 42 = .ok (.if_icmp .ne 7, 3) := by decide +kernel
theorem dX12_within_45 : decode cX12_within 45 = .ok (.iconst 1, 1) := by decide +kernel
theorem dX12_within_46 : decode cX12_within 46 = .ok (.goto 4, 3) := by decide +kernel
theorem dX12_within_49 : decode cX12_within 49 = .ok (.iconst 0, 1) := by decide +kernel
theorem dX12_within_50 : decode cX12_within 50 = .ok (.istore 4, 2) := by decide +kernel
theorem dX12_within_52 : decode cX12_within 52 = .ok (.iload 4, 2) := by decide +kernel
theorem dX12_within_54 : decode cX12_within 54 = .ok (.iload_n 3, 1) := by decide +kernel
theorem dX12_within_55 : decode cX12_within 55 = .ok (.if_icmp .eq 15, 3) := by decide +kernel
theorem dX12_within_58 : decode cX12_within 58 = .ok (.aload_n 0, 1) := by decide +kernel
theorem dX12_within_59 : decode cX12_within 59 = .ok (.getfield 26, 3) := by decide +kernel
theorem dX12_within_62 : decode cX12_within 62 = .ok (.iload_n 1, 1) := by decide +kernel
theorem dX12_within_63 : decode cX12_within 63 = .ok (.dup2, 1) := by decide +kernel
theorem dX12_within_64 : decode cX12_within 64 = .ok (.iaload, 1) := by decide +kernel
theorem dX12_within_65 : decode cX12_within 65 = .ok (.iconst 1, 1) := by decide +kernel
theorem dX12_within_66 : decode cX12_within 66 = .ok (.iload_n 2, 1) := by decide +kernel
theorem dX12_within_67 : decode cX12_within 67 = .ok (.ishl, 1) := by decide +kernel
theorem dX12_within_68 : decode cX12_within 68 = .ok (.ixor, 1) := by decide +kernel
theorem dX12_within_69 : decode cX12_within 69 = .ok (.iastore, 1) := by decide +kernel
theorem dX12_within_70 : decode cX12_within 70 = .ok (.iload 4, 2) := by decide +kernel
theorem dX12_within_72 : decode cX12_within 72 = .ok (.ireturn, 1) := by decide +kernel
def f_X12_within_29 : Mo Int32 := rz .boolean (0 : Int32)
set_option maxRecDepth 100000 in
set_option maxHeartbeats 4000000 in
theorem s_X12_within_29 {X : Cg} (cx : Cx X cX12_within RX12 5) (hfr : 1 ≤ (xR X).frames) (hlo : 22 ≤ (xR X).locals) (hr : (xM X).sig.returnType = (some .boolean)) : Sim X 5 (FiM X vI) 29 [] [] (f_X12_within_29) := by
  unfold f_X12_within_29
  refine sm_iconst (v := 0) cx dX12_within_29 (by decide) ?_
  exact sm_zret cx hr dX12_within_30
def f_X12_within_70 (x4 : Int32) : Mo Int32 := rz .boolean x4
set_option maxRecDepth 100000 in
set_option maxHeartbeats 4000000 in
theorem s_X12_within_70 {X : Cg} (cx : Cx X cX12_within RX12 5) (hfr : 1 ≤ (xR X).frames) (hlo : 22 ≤ (xR X).locals) (hr : (xM X).sig.returnType = (some .boolean)) (x4 : Int32) : Sim X 5 (FiM X vI) 70 [(4, .int x4)] [] (f_X12_within_70 x4) := by
  unfold f_X12_within_70
  refine sm_iload cx 0 dX12_within_70 rfl ?_
  exact sm_zret cx hr dX12_within_72
def f_X12_within_50 (r0 : Option Nat) (x1 : Int32) (x2 : Int32) (x3 : Int32) (sx0 : Int32) : Mo Int32 := (if sx0 = x3 then f_X12_within_70 sx0 else mb (gR 15 8 r0) (fun v59 => mb (aI 1 v59 x1) (fun v64 => mb (sI 1 v59 x1 (v64 ^^^ ((1 : Int32) <<< (x2 &&& 31)))) (fun _ => f_X12_within_70 sx0))))
set_option maxRecDepth 100000 in
set_option maxHeartbeats 4000000 in
theorem s_X12_within_50 {X : Cg} (cx : Cx X cX12_within RX12 5) (hfr : 1 ≤ (xR X).frames) (hlo : 22 ≤ (xR X).locals) (hr : (xM X).sig.returnType = (some .boolean)) (r0 : Option Nat) (x1 : Int32) (x2 : Int32) (x3 : Int32) (sx0 : Int32) : Sim X 5 (FiM X vI) 50 [(0, va_rf r0), (1, .int x1), (2, .int x2), (3, .int x3)] [.int sx0] (f_X12_within_50 r0 x1 x2 x3 sx0) := by
  unfold f_X12_within_50
  refine sm_istore cx [(4, .int sx0), (0, va_rf r0), (1, .int x1), (2, .int x2), (3, .int x3)] dX12_within_50 (by decide) rfl (nc1 rfl) rfl ?_
  refine sm_iload cx 0 dX12_within_52 rfl ?_
  refine sm_iload_n cx 4 dX12_within_54 rfl rfl ?_
  refine sm_icmp_eq (tgt := 70) cx dX12_within_55 (by decide) ?_ ?_
  · exact sm_lv [0] rfl (s_X12_within_70 cx hfr hlo hr sx0)
  · refine sm_aload_n cx 1 dX12_within_58 rfl rfl ?_
    refine sm_getR cx fl_X12_26 dX12_within_59 (fun v59 => ?_)
    refine sm_iload_n cx 2 dX12_within_62 rfl rfl ?_
    refine sm_dup2 cx dX12_within_63 rfl (rf_cat _) ?_
    refine sm_iald cx dX12_within_64 (fun v64 => ?_)
    refine sm_iconst (v := 1) cx dX12_within_65 (by decide) ?_
    refine sm_iload_n cx 3 dX12_within_66 rfl rfl ?_
    refine sm_ishl cx dX12_within_67 ?_
    refine sm_ixor cx dX12_within_68 ?_
    refine sm_iast cx dX12_within_69 ?_
    exact sm_lv [0] rfl (s_X12_within_70 cx hfr hlo hr sx0)
def f_X12_within (r0 : Option Nat) (x1 : Int32) (x2 : Int32) (x3 : Int32) : Mo Int32 := mb (pV 15 0 r0 (.int (0 : Int32))) (fun _ => mb (gI 15 9 r0) (fun v8 => mb (mo 15 r0 (f_X12_none r0 x1 v8)) (fun v11 => (if v11 = 0 then mb (gI 15 9 r0) (fun v20 => mb (mo 15 r0 (f_X12_none r0 x2 v20)) (fun v23 => (if v23 = 0 then mb (gR 15 8 r0) (fun v32 => mb (aI 1 v32 x1) (fun v36 => (if ((v36 >>> (x2 &&& 31)) &&& (1 : Int32)) = (1 : Int32) then f_X12_within_50 r0 x1 x2 x3 (1 : Int32) else f_X12_within_50 r0 x1 x2 x3 (0 : Int32)))) else f_X12_within_29))) else f_X12_within_29))))
set_option maxRecDepth 100000 in
set_option maxHeartbeats 4000000 in
theorem s_X12_within {X : Cg} (cx : Cx X cX12_within RX12 5) (hfr : 1 ≤ (xR X).frames) (hlo : 22 ≤ (xR X).locals) (hr : (xM X).sig.returnType = (some .boolean)) (r0 : Option Nat) (x1 : Int32) (x2 : Int32) (x3 : Int32) : Sim X 5 (FiM X vI) 0 [(0, va_rf r0), (1, .int x1), (2, .int x2), (3, .int x3)] [] (f_X12_within r0 x1 x2 x3) := by
  unfold f_X12_within
  refine sm_aload_n cx 0 dX12_within_0 rfl rfl ?_
  refine sm_iconst (v := 0) cx dX12_within_1 (by decide) ?_
  refine sm_putV cx fl_X12_97 rfl rfl dX12_within_2 ?_
  refine sm_aload_n cx 0 dX12_within_5 rfl rfl ?_
  refine sm_iload_n cx 1 dX12_within_6 rfl rfl ?_
  refine sm_aload_n cx 0 dX12_within_7 rfl rfl ?_
  refine sm_getI cx fl_X12_111 dX12_within_8 (fun v8 => ?_)
  refine sm_callV (T := TX12) (N := 47) (toV := vI) cx [.int x1, .int v8] rfl cv_X12_100 (fun a h => ct_X12_none (xZ X) a h x1 v8) (Nat.le_trans (by decide) hfr) (Nat.le_trans (by decide) hlo) rfl (cat_le _ (Nat.le_of_ble_eq_true rfl)) dX12_within_11 (fun v11 => ?_)
  refine sm_if_ne (tgt := 29) cx dX12_within_14 (by decide) ?_ ?_
  · exact sm_lv [] rfl (s_X12_within_29 cx hfr hlo hr)
  · refine sm_aload_n cx 0 dX12_within_17 rfl rfl ?_
    refine sm_iload_n cx 2 dX12_within_18 rfl rfl ?_
    refine sm_aload_n cx 0 dX12_within_19 rfl rfl ?_
    refine sm_getI cx fl_X12_111 dX12_within_20 (fun v20 => ?_)
    refine sm_callV (T := TX12) (N := 47) (toV := vI) cx [.int x2, .int v20] rfl cv_X12_100 (fun a h => ct_X12_none (xZ X) a h x2 v20) (Nat.le_trans (by decide) hfr) (Nat.le_trans (by decide) hlo) rfl (cat_le _ (Nat.le_of_ble_eq_true rfl)) dX12_within_23 (fun v23 => ?_)
    refine sm_if_eq (tgt := 31) cx dX12_within_26 (by decide) ?_ ?_
    · refine sm_aload_n cx 0 dX12_within_31 rfl rfl ?_
      refine sm_getR cx fl_X12_26 dX12_within_32 (fun v32 => ?_)
      refine sm_iload_n cx 1 dX12_within_35 rfl rfl ?_
      refine sm_iald cx dX12_within_36 (fun v36 => ?_)
      refine sm_iload_n cx 2 dX12_within_37 rfl rfl ?_
      refine sm_ishr cx dX12_within_38 ?_
      refine sm_iconst (v := 1) cx dX12_within_39 (by decide) ?_
      refine sm_iand cx dX12_within_40 ?_
      refine sm_iconst (v := 1) cx dX12_within_41 (by decide) ?_
      refine sm_icmp_ne (tgt := 49) cx dX12_within_42 (by decide) ?_ ?_
      · refine sm_iconst (v := 0) cx dX12_within_49 (by decide) ?_
        exact sm_lv [0, 1, 2, 3] rfl (s_X12_within_50 cx hfr hlo hr r0 x1 x2 x3 (0 : Int32))
      · refine sm_iconst (v := 1) cx dX12_within_45 (by decide) ?_
        refine sm_goto (tgt := 50) cx dX12_within_46 (by decide) ?_
        exact sm_lv [0, 1, 2, 3] rfl (s_X12_within_50 cx hfr hlo hr r0 x1 x2 x3 (1 : Int32))
    · exact sm_lv [] rfl (s_X12_within_29 cx hfr hlo hr)
set_option maxRecDepth 100000 in
set_option maxHeartbeats 4000000 in
theorem ct_X12_within (Z : Nat → Nat) {r0 : Option Nat} (a0 : Nat) (h0 : r0 = some a0) (x1 : Int32) (x2 : Int32) (x3 : Int32) : Ct yX12_within cX12_within 5 (some .boolean) 1 22 Z [.ref a0, .int x1, .int x2, .int x3] vI (f_X12_within r0 x1 x2 x3) := by
  subst h0
  refine ct_of (lv0 := [(0, va_rf (some a0)), (1, .int x1), (2, .int x2), (3, .int x3)]) (by decide +kernel) (by simp [lg_sl, ct_i, ct_l, ct_r, rf_cat]) (by show _ = ([(0, Value.ref a0), (1, .int x1), (2, .int x2), (3, .int x3)] : List (Nat × Value)); simp [lv_args, ct_i, ct_l, ct_r, rf_cat]) (fun X cx hZ hfr hlo hr hin => ?_)
  subst hZ
  exact s_X12_within cx (Nat.le_of_eq hfr.symm) (Nat.le_of_eq hlo.symm) hr (some a0) x1 x2 x3
/-! PolicyTreeModel.allIn(I)I -/
theorem dX12_allIn_0 : decode cX12_allIn 0 = .ok (.iconst 1, 1) := by decide +kernel
theorem dX12_allIn_1 : decode cX12_allIn 1 = .ok (.iload_n 1, 1) := by decide +kernel
theorem dX12_allIn_2 : decode cX12_allIn 2 = .ok (.ishl, 1) := by decide +kernel
theorem dX12_allIn_3 : decode cX12_allIn 3 = .ok (.istore_n 2, 1) := by decide +kernel
theorem dX12_allIn_4 : decode cX12_allIn 4 = .ok (.iconst 0, 1) := by decide +kernel
theorem dX12_allIn_5 : decode cX12_allIn 5 = .ok (.istore_n 3, 1) := by decide +kernel
theorem dX12_allIn_6 : decode cX12_allIn 6 = .ok (.iload_n 2, 1) := by decide +kernel
theorem dX12_allIn_7 : decode cX12_allIn 7 = .ok (.iload_n 3, 1) := by decide +kernel
theorem dX12_allIn_8 : decode cX12_allIn 8 = .ok (.if_icmp .eq 46, 3) := by decide +kernel
theorem dX12_allIn_11 : decode cX12_allIn 11 = .ok (.iload_n 2, 1) := by decide +kernel
theorem dX12_allIn_12 : decode cX12_allIn 12 = .ok (.istore_n 3, 1) := by decide +kernel
theorem dX12_allIn_13 : decode cX12_allIn 13 = .ok (.iconst 0, 1) := by decide +kernel
theorem dX12_allIn_14 : decode cX12_allIn 14 = .ok (.istore 4, 2) := by decide +kernel
theorem dX12_allIn_16 : decode cX12_allIn 16 = .ok (.iload 4, 2) := by decide +kernel
theorem dX12_allIn_18 : decode cX12_allIn 18 = .ok (.aload_n 0, 1) := by decide +kernel
theorem dX12_allIn_19 : decode cX12_allIn 19 = .ok (.getfield 111, 3) := by decide +kernel
theorem dX12_allIn_22 : decode cX12_allIn 22 = .ok (.if_icmp .ge 29, 3) := by decide +kernel
theorem dX12_allIn_25 : decode cX12_allIn 25 = .ok (.iload_n 3, 1) := by decide +kernel
theorem dX12_allIn_26 : decode cX12_allIn 26 = .ok (.iload 4, 2) := by decide +kernel
theorem dX12_allIn_28 : decode cX12_allIn 28 = .ok (.ishr, 1) := by decide +kernel
theorem dX12_allIn_29 : decode cX12_allIn 29 = .ok (.iconst 1, 1) := by decide +kernel
theorem dX12_allIn_30 : decode cX12_allIn 30 = .ok (.iand, 1) := by decide +kernel
theorem dX12_allIn_31 : decode cX12_allIn 31 = .ok (.iconst 1, 1) := by decide +kernel
theorem dX12_allIn_32 : decode cX12_allIn 32 = .ok (.if_icmp .ne 13, 3) := by decide +kernel
theorem dX12_allIn_35 : decode cX12_allIn 35 = .ok (.iload_n 2, 1) := by decide +kernel
theorem dX12_allIn_36 : decode cX12_allIn 36 = .ok (.aload_n 0, 1) := by decide +kernel
theorem dX12_allIn_37 : decode cX12_allIn 37 = .ok (.getfield 26, 3) := by decide +kernel
theorem dX12_allIn_40 : decode cX12_allIn 40 = .ok (.iload 4, 2) := by decide +kernel
theorem dX12_allIn_42 : decode cX12_allIn 42 = .ok (.iaload, 1) := by decide +kernel
theorem dX12_allIn_43 : decode cX12_allIn 43 = .ok (.ior, 1) := by decide +kernel
theorem dX12_allIn_44 : decode cX12_allIn 44 = .ok (.istore_n 2, 1) := by decide +kernel
theorem dX12_allIn_45 : decode cX12_allIn 45 = .ok (.iinc 4 1, 3) := by decide +kernel
theorem dX12_allIn_48 : decode cX12_allIn 48 = .ok (.goto (-32), 3) := by decide +kernel
theorem dX12_allIn_51 : decode cX12_allIn 51 = .ok (.goto (-45), 3) := by decide +kernel
theorem dX12_allIn_54 : decode cX12_allIn 54 = .ok (.iload_n 2, 1) := by decide +kernel
theorem dX12_allIn_55 : decode cX12_allIn 55 = .ok (.ireturn, 1) := by decide +kernel
def f_X12_allIn_45 (k6 : Int32 → Int32 → Mo Int32) (k16 : Int32 → Int32 → Mo Int32) (r0 : Option Nat) (x2 : Int32) (x3 : Int32) (x4 : Int32) : Mo Int32 := k16 x2 (x4 + 1)
set_option maxRecDepth 100000 in
set_option maxHeartbeats 4000000 in
theorem s_X12_allIn_45 {X : Cg} (cx : Cx X cX12_allIn RX12 5) (hfr : 0 ≤ (xR X).frames) (hlo : 0 ≤ (xR X).locals) (hr : (xM X).sig.returnType = (some .int)) (r0 : Option Nat) (x2 : Int32) (x3 : Int32) (x4 : Int32) {k6 : Int32 → Int32 → Mo Int32} (hk6 : ∀ (x2 : Int32) (x3 : Int32), Sim X 5 (FiM X vI) 6 [(0, va_rf r0), (2, .int x2), (3, .int x3)] [] (k6 x2 x3)) {k16 : Int32 → Int32 → Mo Int32} (hk16 : ∀ (x2 : Int32) (x4 : Int32), Sim X 5 (FiM X vI) 16 [(0, va_rf r0), (2, .int x2), (3, .int x3), (4, .int x4)] [] (k16 x2 x4)) : Sim X 5 (FiM X vI) 45 [(0, va_rf r0), (2, .int x2), (3, .int x3), (4, .int x4)] [] (f_X12_allIn_45 k6 k16 r0 x2 x3 x4) := by
  unfold f_X12_allIn_45
  refine sm_iinc cx 3 [(4, .int (x4 + 1)), (0, va_rf r0), (2, .int x2), (3, .int x3)] dX12_allIn_45 rfl rfl (by decide) rfl (nc1 rfl) rfl ?_
  refine sm_goto (tgt := 16) cx dX12_allIn_48 (by decide) ?_
  exact sm_lv [1, 2, 3, 0] rfl (hk16 x2 (x4 + 1))
def f_X12_allIn_16 (k6 : Int32 → Int32 → Mo Int32) (r0 : Option Nat) (x3 : Int32) : Nat → Int32 → Int32 → Mo Int32
  | 0, _, _ => mf
  | n + 1, x2, x4 => mb (gI 15 9 r0) (fun v19 => (if v19 ≤ x4 then k6 x2 x3 else (if ((x3 >>> (x4 &&& 31)) &&& (1 : Int32)) = (1 : Int32) then mb (gR 15 8 r0) (fun v37 => mb (aI 1 v37 x4) (fun v42 => f_X12_allIn_45 k6 (f_X12_allIn_16 k6 r0 x3 n) r0 (x2 ||| v42) x3 x4)) else f_X12_allIn_45 k6 (f_X12_allIn_16 k6 r0 x3 n) r0 x2 x3 x4)))
set_option maxRecDepth 100000 in
set_option maxHeartbeats 4000000 in
theorem s_X12_allIn_16 {X : Cg} (cx : Cx X cX12_allIn RX12 5) (hfr : 0 ≤ (xR X).frames) (hlo : 0 ≤ (xR X).locals) (hr : (xM X).sig.returnType = (some .int)) (r0 : Option Nat) (x3 : Int32) {k6 : Int32 → Int32 → Mo Int32} (hk6 : ∀ (x2 : Int32) (x3 : Int32), Sim X 5 (FiM X vI) 6 [(0, va_rf r0), (2, .int x2), (3, .int x3)] [] (k6 x2 x3)) : ∀ (n : Nat) (x2 : Int32) (x4 : Int32), Sim X 5 (FiM X vI) 16 [(0, va_rf r0), (2, .int x2), (3, .int x3), (4, .int x4)] [] (f_X12_allIn_16 k6 r0 x3 n x2 x4) := by
  intro n
  induction n with
  | zero =>
    intro _ _
    exact sm_mf
  | succ n ih =>
    intro x2 x4
    rw [f_X12_allIn_16]
    refine sm_iload cx 3 dX12_allIn_16 rfl ?_
    refine sm_aload_n cx 0 dX12_allIn_18 rfl rfl ?_
    refine sm_getI cx fl_X12_111 dX12_allIn_19 (fun v19 => ?_)
    refine sm_icmp_ge (tgt := 51) cx dX12_allIn_22 (by decide) ?_ ?_
    · refine sm_goto (tgt := 6) cx dX12_allIn_51 (by decide) ?_
      exact sm_lv [0, 1, 2] rfl (hk6 x2 x3)
    · refine sm_iload_n cx 2 dX12_allIn_25 rfl rfl ?_
      refine sm_iload cx 3 dX12_allIn_26 rfl ?_
      refine sm_ishr cx dX12_allIn_28 ?_
      refine sm_iconst (v := 1) cx dX12_allIn_29 (by decide) ?_
      refine sm_iand cx dX12_allIn_30 ?_
      refine sm_iconst (v := 1) cx dX12_allIn_31 (by decide) ?_
      refine sm_icmp_ne (tgt := 45) cx dX12_allIn_32 (by decide) ?_ ?_
      · exact sm_lv [0, 1, 2, 3] rfl (s_X12_allIn_45 cx hfr hlo hr r0 x2 x3 x4 hk6 ih)
      · refine sm_iload_n cx 1 dX12_allIn_35 rfl rfl ?_
        refine sm_aload_n cx 0 dX12_allIn_36 rfl rfl ?_
        refine sm_getR cx fl_X12_26 dX12_allIn_37 (fun v37 => ?_)
        refine sm_iload cx 3 dX12_allIn_40 rfl ?_
        refine sm_iald cx dX12_allIn_42 (fun v42 => ?_)
        refine sm_ior cx dX12_allIn_43 ?_
        refine sm_istore_n cx [(2, .int (x2 ||| v42)), (0, va_rf r0), (3, .int x3), (4, .int x4)] dX12_allIn_44 rfl (by decide) rfl nc0 rfl ?_
        exact sm_lv [1, 0, 2, 3] rfl (s_X12_allIn_45 cx hfr hlo hr r0 (x2 ||| v42) x3 x4 hk6 ih)
def f_X12_allIn_6 (r0 : Option Nat) : Nat → Int32 → Int32 → Mo Int32
  | 0, _, _ => mf
  | n + 1, x2, x3 => (if x2 = x3 then mp x2 else f_X12_allIn_16 (f_X12_allIn_6 r0 n) r0 x2 fuL x2 (0 : Int32))
set_option maxRecDepth 100000 in
set_option maxHeartbeats 4000000 in
theorem s_X12_allIn_6 {X : Cg} (cx : Cx X cX12_allIn RX12 5) (hfr : 0 ≤ (xR X).frames) (hlo : 0 ≤ (xR X).locals) (hr : (xM X).sig.returnType = (some .int)) (r0 : Option Nat) : ∀ (n : Nat) (x2 : Int32) (x3 : Int32), Sim X 5 (FiM X vI) 6 [(0, va_rf r0), (2, .int x2), (3, .int x3)] [] (f_X12_allIn_6 r0 n x2 x3) := by
  intro n
  induction n with
  | zero =>
    intro _ _
    exact sm_mf
  | succ n ih =>
    intro x2 x3
    rw [f_X12_allIn_6]
    refine sm_iload_n cx 1 dX12_allIn_6 rfl rfl ?_
    refine sm_iload_n cx 2 dX12_allIn_7 rfl rfl ?_
    refine sm_icmp_eq (tgt := 54) cx dX12_allIn_8 (by decide) ?_ ?_
    · refine sm_iload_n cx 1 dX12_allIn_54 rfl rfl ?_
      exact sm_iret cx hr dX12_allIn_55
    · refine sm_iload_n cx 1 dX12_allIn_11 rfl rfl ?_
      refine sm_istore_n cx [(3, .int x2), (0, va_rf r0), (2, .int x2)] dX12_allIn_12 rfl (by decide) rfl (nc1 rfl) rfl ?_
      refine sm_iconst (v := 0) cx dX12_allIn_13 (by decide) ?_
      refine sm_istore cx [(4, .int (0 : Int32)), (3, .int x2), (0, va_rf r0), (2, .int x2)] dX12_allIn_14 (by decide) rfl (nc1 rfl) rfl ?_
      exact sm_lv [2, 3, 1, 0] rfl (s_X12_allIn_16 cx hfr hlo hr r0 x2 ih fuL x2 (0 : Int32))
def f_X12_allIn (r0 : Option Nat) (x1 : Int32) : Mo Int32 := f_X12_allIn_6 r0 fuL ((1 : Int32) <<< (x1 &&& 31)) (0 : Int32)
set_option maxRecDepth 100000 in
set_option maxHeartbeats 4000000 in
theorem s_X12_allIn {X : Cg} (cx : Cx X cX12_allIn RX12 5) (hfr : 0 ≤ (xR X).frames) (hlo : 0 ≤ (xR X).locals) (hr : (xM X).sig.returnType = (some .int)) (r0 : Option Nat) (x1 : Int32) : Sim X 5 (FiM X vI) 0 [(0, va_rf r0), (1, .int x1)] [] (f_X12_allIn r0 x1) := by
  unfold f_X12_allIn
  refine sm_iconst (v := 1) cx dX12_allIn_0 (by decide) ?_
  refine sm_iload_n cx 1 dX12_allIn_1 rfl rfl ?_
  refine sm_ishl cx dX12_allIn_2 ?_
  refine sm_istore_n cx [(2, .int ((1 : Int32) <<< (x1 &&& 31))), (0, va_rf r0), (1, .int x1)] dX12_allIn_3 rfl (by decide) rfl (nc1 rfl) rfl ?_
  refine sm_iconst (v := 0) cx dX12_allIn_4 (by decide) ?_
  refine sm_istore_n cx [(3, .int (0 : Int32)), (2, .int ((1 : Int32) <<< (x1 &&& 31))), (0, va_rf r0), (1, .int x1)] dX12_allIn_5 rfl (by decide) rfl (nc1 rfl) rfl ?_
  exact sm_lv [2, 1, 0] rfl (s_X12_allIn_6 cx hfr hlo hr r0 fuL ((1 : Int32) <<< (x1 &&& 31)) (0 : Int32))
set_option maxRecDepth 100000 in
set_option maxHeartbeats 4000000 in
theorem ct_X12_allIn (Z : Nat → Nat) {r0 : Option Nat} (a0 : Nat) (h0 : r0 = some a0) (x1 : Int32) : Ct yX12_allIn cX12_allIn 5 (some .int) 0 0 Z [.ref a0, .int x1] vI (f_X12_allIn r0 x1) := by
  subst h0
  refine ct_of (lv0 := [(0, va_rf (some a0)), (1, .int x1)]) (by decide +kernel) (by simp [lg_sl, ct_i, ct_l, ct_r, rf_cat]) (by show _ = ([(0, Value.ref a0), (1, .int x1)] : List (Nat × Value)); simp [lv_args, ct_i, ct_l, ct_r, rf_cat]) (fun X cx hZ hfr hlo hr hin => ?_)
  subst hZ
  exact s_X12_allIn cx (Nat.le_of_eq hfr.symm) (Nat.le_of_eq hlo.symm) hr (some a0) x1
/-! PolicyTreeModel.member(II)Z -/
theorem dX12_member_0 : decode cX12_member 0 = .ok (.aload_n 0, 1) := by decide +kernel
theorem dX12_member_1 : decode cX12_member 1 = .ok (.iconst 0, 1) := by decide +kernel
theorem dX12_member_2 : decode cX12_member 2 = .ok (.putfield 97, 3) := by decide +kernel
theorem dX12_member_5 : decode cX12_member 5 = .ok (.aload_n 0, 1) := by decide +kernel
theorem dX12_member_6 : decode cX12_member 6 = .ok (.iload_n 1, 1) := by decide +kernel
theorem dX12_member_7 : decode cX12_member 7 = .ok (.aload_n 0, 1) := by decide +kernel
theorem dX12_member_8 : decode cX12_member 8 = .ok (.getfield 111, 3) := by decide +kernel
theorem dX12_member_11 : decode cX12_member 11 = .ok (.invokevirtual 100, 3) := by decide +kernel
theorem dX12_member_14 : decode cX12_member 14 = .ok (.ifCond .ne 15, 3) := by decide +kernel
theorem dX12_member_17 : decode cX12_member 17 = .ok (.aload_n 0, 1) := by decide +kernel
theorem dX12_member_18 : decode cX12_member 18 = .ok (.iload_n 2, 1) := by decide +kernel
theorem dX12_member_19 : decode cX12_member 19 = .ok (.aload_n 0, 1) := by decide +kernel
theorem dX12_member_20 : decode cX12_member 20 = .ok (.getfield 108, 3) := by decide +kernel
theorem dX12_member_23 : decode cX12_member 23 = .ok (.invokevirtual 100, 3) := by decide +kernel
theorem dX12_member_26 : decode cX12_member 26 = .ok (.ifCond .eq 5, 3) := by decide +kernel
theorem dX12_member_29 : decode cX12_member 29 = .ok (.iconst 0, 1) := by decide +kernel
theorem dX12_member_30 : decode cX12_member 30 = .ok (.ireturn, 1) := by decide +kernel
theorem dX12_member_31 : decode cX12_member 31 = .ok (.aload_n 0, 1) := by decide +kernel
theorem dX12_member_32 : decode cX12_member 32 = .ok (.iload_n 1, 1) := by decide +kernel
theorem dX12_member_33 : decode cX12_member 33 = .ok (.invokevirtual 114, 3) := by decide +kernel
theorem dX12_member_36 : decode cX12_member 36 = .ok (.aload_n 0, 1) := by decide +kernel
theorem dX12_member_37 : decode cX12_member 37 = .ok (.getfield 23, 3) := by decide +kernel
theorem dX12_member_40 : decode cX12_member 40 = .ok (.iload_n 2, 1) := by decide +kernel
theorem dX12_member_41 : decode cX12_member 41 = .ok (.iaload, 1) := by decide +kernel
theorem dX12_member_42 : decode cX12_member 42 = .ok (.iand, 1) := by decide +kernel
theorem dX12_member_43 : decode cX12_member 43 = .ok (.ifCond .eq 7, 3) := by decide +kernel
theorem dX12_member_46 : decode cX12_member 46 = .ok (.iconst 1, 1) := by decide +kernel
theorem dX12_member_47 : decode cX12_member 47 = .ok (.goto 4, 3) := by decide +kernel
theorem dX12_member_50 : decode cX12_member 50 = .ok (.iconst 0, 1) := by decide +kernel
theorem dX12_member_51 : decode cX12_member 51 = .ok (.ireturn, 1) := by decide +kernel
def f_X12_member_29 : Mo Int32 := rz .boolean (0 : Int32)
set_option maxRecDepth 100000 in
set_option maxHeartbeats 4000000 in
theorem s_X12_member_29 {X : Cg} (cx : Cx X cX12_member RX12 3) (hfr : 1 ≤ (xR X).frames) (hlo : 24 ≤ (xR X).locals) (hr : (xM X).sig.returnType = (some .boolean)) : Sim X 3 (FiM X vI) 29 [] [] (f_X12_member_29) := by
  unfold f_X12_member_29
  refine sm_iconst (v := 0) cx dX12_member_29 (by decide) ?_
  exact sm_zret cx hr dX12_member_30
def f_X12_member_51 (sx0 : Int32) : Mo Int32 := rz .boolean sx0
set_option maxRecDepth 100000 in
set_option maxHeartbeats 4000000 in
theorem s_X12_member_51 {X : Cg} (cx : Cx X cX12_member RX12 3) (hfr : 1 ≤ (xR X).frames) (hlo : 24 ≤ (xR X).locals) (hr : (xM X).sig.returnType = (some .boolean)) (sx0 : Int32) : Sim X 3 (FiM X vI) 51 [] [.int sx0] (f_X12_member_51 sx0) := by
  unfold f_X12_member_51
  exact sm_zret cx hr dX12_member_51
def f_X12_member (r0 : Option Nat) (x1 : Int32) (x2 : Int32) : Mo Int32 := mb (pV 15 0 r0 (.int (0 : Int32))) (fun _ => mb (gI 15 9 r0) (fun v8 => mb (mo 15 r0 (f_X12_none r0 x1 v8)) (fun v11 => (if v11 = 0 then mb (gI 15 7 r0) (fun v20 => mb (mo 15 r0 (f_X12_none r0 x2 v20)) (fun v23 => (if v23 = 0 then mb (mo 15 r0 (f_X12_allIn r0 x1)) (fun v33 => mb (gR 15 6 r0) (fun v37 => mb (aI 1 v37 x2) (fun v41 => (if (v33 &&& v41) = 0 then f_X12_member_51 (0 : Int32) else f_X12_member_51 (1 : Int32))))) else f_X12_member_29))) else f_X12_member_29))))
set_option maxRecDepth 100000 in
set_option maxHeartbeats 4000000 in
theorem s_X12_member {X : Cg} (cx : Cx X cX12_member RX12 3) (hfr : 1 ≤ (xR X).frames) (hlo : 24 ≤ (xR X).locals) (hr : (xM X).sig.returnType = (some .boolean)) (r0 : Option Nat) (x1 : Int32) (x2 : Int32) : Sim X 3 (FiM X vI) 0 [(0, va_rf r0), (1, .int x1), (2, .int x2)] [] (f_X12_member r0 x1 x2) := by
  unfold f_X12_member
  refine sm_aload_n cx 0 dX12_member_0 rfl rfl ?_
  refine sm_iconst (v := 0) cx dX12_member_1 (by decide) ?_
  refine sm_putV cx fl_X12_97 rfl rfl dX12_member_2 ?_
  refine sm_aload_n cx 0 dX12_member_5 rfl rfl ?_
  refine sm_iload_n cx 1 dX12_member_6 rfl rfl ?_
  refine sm_aload_n cx 0 dX12_member_7 rfl rfl ?_
  refine sm_getI cx fl_X12_111 dX12_member_8 (fun v8 => ?_)
  refine sm_callV (T := TX12) (N := 47) (toV := vI) cx [.int x1, .int v8] rfl cv_X12_100 (fun a h => ct_X12_none (xZ X) a h x1 v8) (Nat.le_trans (by decide) hfr) (Nat.le_trans (by decide) hlo) rfl (cat_le _ (Nat.le_of_ble_eq_true rfl)) dX12_member_11 (fun v11 => ?_)
  refine sm_if_ne (tgt := 29) cx dX12_member_14 (by decide) ?_ ?_
  · exact sm_lv [] rfl (s_X12_member_29 cx hfr hlo hr)
  · refine sm_aload_n cx 0 dX12_member_17 rfl rfl ?_
    refine sm_iload_n cx 2 dX12_member_18 rfl rfl ?_
    refine sm_aload_n cx 0 dX12_member_19 rfl rfl ?_
    refine sm_getI cx fl_X12_108 dX12_member_20 (fun v20 => ?_)
    refine sm_callV (T := TX12) (N := 47) (toV := vI) cx [.int x2, .int v20] rfl cv_X12_100 (fun a h => ct_X12_none (xZ X) a h x2 v20) (Nat.le_trans (by decide) hfr) (Nat.le_trans (by decide) hlo) rfl (cat_le _ (Nat.le_of_ble_eq_true rfl)) dX12_member_23 (fun v23 => ?_)
    refine sm_if_eq (tgt := 31) cx dX12_member_26 (by decide) ?_ ?_
    · refine sm_aload_n cx 0 dX12_member_31 rfl rfl ?_
      refine sm_iload_n cx 1 dX12_member_32 rfl rfl ?_
      refine sm_callV (T := TX12) (N := 47) (toV := vI) cx [.int x1] rfl cv_X12_114 (fun a h => ct_X12_allIn (xZ X) a h x1) (Nat.le_trans (by decide) hfr) (Nat.le_trans (by decide) hlo) rfl (cat_le _ (Nat.le_of_ble_eq_true rfl)) dX12_member_33 (fun v33 => ?_)
      refine sm_aload_n cx 0 dX12_member_36 rfl rfl ?_
      refine sm_getR cx fl_X12_23 dX12_member_37 (fun v37 => ?_)
      refine sm_iload_n cx 2 dX12_member_40 rfl rfl ?_
      refine sm_iald cx dX12_member_41 (fun v41 => ?_)
      refine sm_iand cx dX12_member_42 ?_
      refine sm_if_eq (tgt := 50) cx dX12_member_43 (by decide) ?_ ?_
      · refine sm_iconst (v := 0) cx dX12_member_50 (by decide) ?_
        exact sm_lv [] rfl (s_X12_member_51 cx hfr hlo hr (0 : Int32))
      · refine sm_iconst (v := 1) cx dX12_member_46 (by decide) ?_
        refine sm_goto (tgt := 51) cx dX12_member_47 (by decide) ?_
        exact sm_lv [] rfl (s_X12_member_51 cx hfr hlo hr (1 : Int32))
    · exact sm_lv [] rfl (s_X12_member_29 cx hfr hlo hr)
set_option maxRecDepth 100000 in
set_option maxHeartbeats 4000000 in
theorem ct_X12_member (Z : Nat → Nat) {r0 : Option Nat} (a0 : Nat) (h0 : r0 = some a0) (x1 : Int32) (x2 : Int32) : Ct yX12_member cX12_member 3 (some .boolean) 1 24 Z [.ref a0, .int x1, .int x2] vI (f_X12_member r0 x1 x2) := by
  subst h0
  refine ct_of (lv0 := [(0, va_rf (some a0)), (1, .int x1), (2, .int x2)]) (by decide +kernel) (by simp [lg_sl, ct_i, ct_l, ct_r, rf_cat]) (by show _ = ([(0, Value.ref a0), (1, .int x1), (2, .int x2)] : List (Nat × Value)); simp [lv_args, ct_i, ct_l, ct_r, rf_cat]) (fun X cx hZ hfr hlo hr hin => ?_)
  subst hZ
  exact s_X12_member cx (Nat.le_of_eq hfr.symm) (Nat.le_of_eq hlo.symm) hr (some a0) x1 x2
/-! PolicyTreeModel.set()I -/
theorem dX12_set_0 : decode cX12_set 0 = .ok (.aload_n 0, 1) := by decide +kernel
theorem dX12_set_1 : decode cX12_set 1 = .ok (.iconst 0, 1) := by decide +kernel
theorem dX12_set_2 : decode cX12_set 2 = .ok (.putfield 97, 3) := by decide +kernel
theorem dX12_set_5 : decode cX12_set 5 = .ok (.aload_n 0, 1) := by decide +kernel
theorem dX12_set_6 : decode cX12_set 6 = .ok (.aload_n 0, 1) := by decide +kernel
theorem dX12_set_7 : decode cX12_set 7 = .ok (.getfield 118, 3) := by decide +kernel
theorem dX12_set_10 : decode cX12_set 10 = .ok (.bipush 40, 2) := by decide +kernel
theorem dX12_set_12 : decode cX12_set 12 = .ok (.if_icmp .ne 7, 3) := by decide +kernel
theorem dX12_set_15 : decode cX12_set 15 = .ok (.iconst 1, 1) := by decide +kernel
theorem dX12_set_16 : decode cX12_set 16 = .ok (.goto 4, 3) := by decide +kernel
theorem dX12_set_19 : decode cX12_set 19 = .ok (.iconst 0, 1) := by decide +kernel
theorem dX12_set_20 : decode cX12_set 20 = .ok (.iconst 1, 1) := by decide +kernel
theorem dX12_set_21 : decode cX12_set 21 = .ok (.invokevirtual 104, 3) := by decide +kernel
theorem dX12_set_24 : decode cX12_set 24 = .ok (.ifCond .eq 5, 3) := by decide +kernel
theorem dX12_set_27 : decode cX12_set 27 = .ok (.iconst 0, 1) := by decide +kernel
theorem dX12_set_28 : decode cX12_set 28 = .ok (.ireturn, 1) := by decide +kernel
theorem dX12_set_29 : decode cX12_set 29 = .ok (.aload_n 0, 1) := by decide +kernel
theorem dX12_set_30 : decode cX12_set 30 = .ok (.dup, 1) := by decide +kernel
theorem dX12_set_31 : decode cX12_set 31 = .ok (.getfield 118, 3) := by decide +kernel
theorem dX12_set_34 : decode cX12_set 34 = .ok (.iconst 1, 1) := by decide +kernel
theorem dX12_set_35 : decode cX12_set 35 = .ok (.iadd, 1) := by decide +kernel
theorem dX12_set_36 : decode cX12_set 36 = .ok (.putfield 118, 3) := by decide +kernel
theorem dX12_set_39 : decode cX12_set 39 = .ok (.aload_n 0, 1) := by decide +kernel
theorem dX12_set_40 : decode cX12_set 40 = .ok (.getfield 118, 3) := by decide +kernel
theorem dX12_set_43 : decode cX12_set 43 = .ok (.iconst 1, 1) := by decide +kernel
theorem dX12_set_44 : decode cX12_set 44 = .ok (.isub, 1) := by decide +kernel
theorem dX12_set_45 : decode cX12_set 45 = .ok (.ireturn, 1) := by decide +kernel
def f_X12_set_20 (r0 : Option Nat) (sr0 : Option Nat) (sx1 : Int32) : Mo Int32 := mb (mo 15 sr0 (f_X12_bad sr0 sx1 (1 : Int32))) (fun v21 => (if v21 = 0 then mb (gI 15 12 r0) (fun v31 => mb (pV 15 12 r0 (.int (v31 + (1 : Int32)))) (fun _ => mb (gI 15 12 r0) (fun v40 => mp (v40 - (1 : Int32))))) else mp (0 : Int32)))
set_option maxRecDepth 100000 in
set_option maxHeartbeats 4000000 in
theorem s_X12_set_20 {X : Cg} (cx : Cx X cX12_set RX12 1) (hfr : 1 ≤ (xR X).frames) (hlo : 22 ≤ (xR X).locals) (hr : (xM X).sig.returnType = (some .int)) (r0 : Option Nat) (sr0 : Option Nat) (sx1 : Int32) : Sim X 1 (FiM X vI) 20 [(0, va_rf r0)] [.int sx1, va_rf sr0] (f_X12_set_20 r0 sr0 sx1) := by
  unfold f_X12_set_20
  refine sm_iconst (v := 1) cx dX12_set_20 (by decide) ?_
  refine sm_callV (T := TX12) (N := 47) (toV := vI) cx [.int sx1, .int (1 : Int32)] rfl cv_X12_104 (fun a h => ct_X12_bad (xZ X) a h sx1 (1 : Int32)) (Nat.le_trans (by decide) hfr) (Nat.le_trans (by decide) hlo) rfl (cat_le _ (Nat.le_of_ble_eq_true rfl)) dX12_set_21 (fun v21 => ?_)
  refine sm_if_eq (tgt := 29) cx dX12_set_24 (by decide) ?_ ?_
  · refine sm_aload_n cx 0 dX12_set_29 rfl rfl ?_
    refine sm_dup cx dX12_set_30 (rf_cat _) ?_
    refine sm_getI cx fl_X12_118 dX12_set_31 (fun v31 => ?_)
    refine sm_iconst (v := 1) cx dX12_set_34 (by decide) ?_
    refine sm_iadd cx dX12_set_35 ?_
    refine sm_putV cx fl_X12_118 rfl rfl dX12_set_36 ?_
    refine sm_aload_n cx 0 dX12_set_39 rfl rfl ?_
    refine sm_getI cx fl_X12_118 dX12_set_40 (fun v40 => ?_)
    refine sm_iconst (v := 1) cx dX12_set_43 (by decide) ?_
    refine sm_isub cx dX12_set_44 ?_
    exact sm_iret cx hr dX12_set_45
  · refine sm_iconst (v := 0) cx dX12_set_27 (by decide) ?_
    exact sm_iret cx hr dX12_set_28
def f_X12_set (r0 : Option Nat) : Mo Int32 := mb (pV 15 0 r0 (.int (0 : Int32))) (fun _ => mb (gI 15 12 r0) (fun v7 => (if v7 = (40 : Int32) then f_X12_set_20 r0 r0 (1 : Int32) else f_X12_set_20 r0 r0 (0 : Int32))))
set_option maxRecDepth 100000 in
set_option maxHeartbeats 4000000 in
theorem s_X12_set {X : Cg} (cx : Cx X cX12_set RX12 1) (hfr : 1 ≤ (xR X).frames) (hlo : 22 ≤ (xR X).locals) (hr : (xM X).sig.returnType = (some .int)) (r0 : Option Nat) : Sim X 1 (FiM X vI) 0 [(0, va_rf r0)] [] (f_X12_set r0) := by
  unfold f_X12_set
  refine sm_aload_n cx 0 dX12_set_0 rfl rfl ?_
  refine sm_iconst (v := 0) cx dX12_set_1 (by decide) ?_
  refine sm_putV cx fl_X12_97 rfl rfl dX12_set_2 ?_
  refine sm_aload_n cx 0 dX12_set_5 rfl rfl ?_
  refine sm_aload_n cx 0 dX12_set_6 rfl rfl ?_
  refine sm_getI cx fl_X12_118 dX12_set_7 (fun v7 => ?_)
  refine sm_bipush (v := 40) cx dX12_set_10 (by decide) ?_
  refine sm_icmp_ne (tgt := 19) cx dX12_set_12 (by decide) ?_ ?_
  · refine sm_iconst (v := 0) cx dX12_set_19 (by decide) ?_
    exact sm_lv [0] rfl (s_X12_set_20 cx hfr hlo hr r0 r0 (0 : Int32))
  · refine sm_iconst (v := 1) cx dX12_set_15 (by decide) ?_
    refine sm_goto (tgt := 20) cx dX12_set_16 (by decide) ?_
    exact sm_lv [0] rfl (s_X12_set_20 cx hfr hlo hr r0 r0 (1 : Int32))
set_option maxRecDepth 100000 in
set_option maxHeartbeats 4000000 in
theorem ct_X12_set (Z : Nat → Nat) {r0 : Option Nat} (a0 : Nat) (h0 : r0 = some a0) : Ct yX12_set cX12_set 1 (some .int) 1 22 Z [.ref a0] vI (f_X12_set r0) := by
  subst h0
  refine ct_of (lv0 := [(0, va_rf (some a0))]) (by decide +kernel) (by simp [lg_sl, ct_i, ct_l, ct_r, rf_cat]) (by show _ = ([(0, Value.ref a0)] : List (Nat × Value)); simp [lv_args, ct_i, ct_l, ct_r, rf_cat]) (fun X cx hZ hfr hlo hr hin => ?_)
  subst hZ
  exact s_X12_set cx (Nat.le_of_eq hfr.symm) (Nat.le_of_eq hlo.symm) hr (some a0)
/-! PolicyTreeModel.isSetting(I)Z -/
theorem dX12_isSetting_0 : decode cX12_isSetting 0 = .ok (.iload_n 0, 1) := by decide +kernel
theorem dX12_isSetting_1 : decode cX12_isSetting 1 = .ok (.ifCond .lt 13, 3) := by decide +kernel
theorem dX12_isSetting_4 : decode cX12_isSetting 4 = .ok (.iload_n 0, 1) := by decide +kernel
theorem dX12_isSetting_5 : decode cX12_isSetting 5 = .ok (.bipush 12, 2) := by decide +kernel
theorem dX12_isSetting_7 : decode cX12_isSetting 7 = .ok (.if_icmp .ge 7, 3) := by decide +kernel
theorem dX12_isSetting_10 : decode cX12_isSetting 10 = .ok (.iconst 1, 1) := by decide +kernel
theorem dX12_isSetting_11 : decode cX12_isSetting 11 = .ok (.goto 4, 3) := by decide +kernel
theorem dX12_isSetting_14 : decode cX12_isSetting 14 = .ok (.iconst 0, 1) := by decide +kernel
theorem dX12_isSetting_15 : decode cX12_isSetting 15 = .ok (.ireturn, 1) := by decide +kernel
def f_X12_isSetting_15 (sx0 : Int32) : Mo Int32 := rz .boolean sx0
set_option maxRecDepth 100000 in
set_option maxHeartbeats 4000000 in
theorem s_X12_isSetting_15 {X : Cg} (cx : Cx X cX12_isSetting RX12 1) (hfr : 0 ≤ (xR X).frames) (hlo : 0 ≤ (xR X).locals) (hr : (xM X).sig.returnType = (some .boolean)) (sx0 : Int32) : Sim X 1 (FiM X vI) 15 [] [.int sx0] (f_X12_isSetting_15 sx0) := by
  unfold f_X12_isSetting_15
  exact sm_zret cx hr dX12_isSetting_15
def f_X12_isSetting_14 : Mo Int32 := f_X12_isSetting_15 (0 : Int32)
set_option maxRecDepth 100000 in
set_option maxHeartbeats 4000000 in
theorem s_X12_isSetting_14 {X : Cg} (cx : Cx X cX12_isSetting RX12 1) (hfr : 0 ≤ (xR X).frames) (hlo : 0 ≤ (xR X).locals) (hr : (xM X).sig.returnType = (some .boolean)) : Sim X 1 (FiM X vI) 14 [] [] (f_X12_isSetting_14) := by
  unfold f_X12_isSetting_14
  refine sm_iconst (v := 0) cx dX12_isSetting_14 (by decide) ?_
  exact sm_lv [] rfl (s_X12_isSetting_15 cx hfr hlo hr (0 : Int32))
def f_X12_isSetting (x0 : Int32) : Mo Int32 := (if x0 < 0 then f_X12_isSetting_14 else (if (12 : Int32) ≤ x0 then f_X12_isSetting_14 else f_X12_isSetting_15 (1 : Int32)))
set_option maxRecDepth 100000 in
set_option maxHeartbeats 4000000 in
theorem s_X12_isSetting {X : Cg} (cx : Cx X cX12_isSetting RX12 1) (hfr : 0 ≤ (xR X).frames) (hlo : 0 ≤ (xR X).locals) (hr : (xM X).sig.returnType = (some .boolean)) (x0 : Int32) : Sim X 1 (FiM X vI) 0 [(0, .int x0)] [] (f_X12_isSetting x0) := by
  unfold f_X12_isSetting
  refine sm_iload_n cx 0 dX12_isSetting_0 rfl rfl ?_
  refine sm_if_lt (tgt := 14) cx dX12_isSetting_1 (by decide) ?_ ?_
  · exact sm_lv [] rfl (s_X12_isSetting_14 cx hfr hlo hr)
  · refine sm_iload_n cx 0 dX12_isSetting_4 rfl rfl ?_
    refine sm_bipush (v := 12) cx dX12_isSetting_5 (by decide) ?_
    refine sm_icmp_ge (tgt := 14) cx dX12_isSetting_7 (by decide) ?_ ?_
    · exact sm_lv [] rfl (s_X12_isSetting_14 cx hfr hlo hr)
    · refine sm_iconst (v := 1) cx dX12_isSetting_10 (by decide) ?_
      refine sm_goto (tgt := 15) cx dX12_isSetting_11 (by decide) ?_
      exact sm_lv [] rfl (s_X12_isSetting_15 cx hfr hlo hr (1 : Int32))
set_option maxRecDepth 100000 in
set_option maxHeartbeats 4000000 in
theorem ct_X12_isSetting (Z : Nat → Nat) (x0 : Int32) : Ct yX12_isSetting cX12_isSetting 1 (some .boolean) 0 0 Z [.int x0] vI (f_X12_isSetting x0) := by
  refine ct_of (lv0 := [(0, .int x0)]) (by decide +kernel) (by simp [lg_sl, ct_i, ct_l, ct_r, rf_cat]) (by show _ = ([(0, .int x0)] : List (Nat × Value)); simp [lv_args, ct_i, ct_l, ct_r, rf_cat]) (fun X cx hZ hfr hlo hr hin => ?_)
  subst hZ
  exact s_X12_isSetting cx (Nat.le_of_eq hfr.symm) (Nat.le_of_eq hlo.symm) hr x0
/-! PolicyTreeModel.tells(II)Z -/
theorem dX12_tells_0 : decode cX12_tells 0 = .ok (.aload_n 0, 1) := by decide +kernel
theorem dX12_tells_1 : decode cX12_tells 1 = .ok (.getfield 29, 3) := by decide +kernel
theorem dX12_tells_4 : decode cX12_tells 4 = .ok (.iload_n 1, 1) := by decide +kernel
theorem dX12_tells_5 : decode cX12_tells 5 = .ok (.iaload, 1) := by decide +kernel
theorem dX12_tells_6 : decode cX12_tells 6 = .ok (.iload_n 2, 1) := by decide +kernel
theorem dX12_tells_7 : decode cX12_tells 7 = .ok (.ishr, 1) := by decide +kernel
theorem dX12_tells_8 : decode cX12_tells 8 = .ok (.iconst 1, 1) := by decide +kernel
theorem dX12_tells_9 : decode cX12_tells 9 = .ok (.iand, 1) := by decide +kernel
theorem dX12_tells_10 : decode cX12_tells 10 = .ok (.iconst 1, 1) := by decide +kernel
theorem dX12_tells_11 : decode cX12_tells 11 = .ok (.if_icmp .ne 7, 3) := by decide +kernel
theorem dX12_tells_14 : decode cX12_tells 14 = .ok (.iconst 1, 1) := by decide +kernel
theorem dX12_tells_15 : decode cX12_tells 15 = .ok (.goto 4, 3) := by decide +kernel
theorem dX12_tells_18 : decode cX12_tells 18 = .ok (.iconst 0, 1) := by decide +kernel
theorem dX12_tells_19 : decode cX12_tells 19 = .ok (.ireturn, 1) := by decide +kernel
def f_X12_tells_19 (sx0 : Int32) : Mo Int32 := rz .boolean sx0
set_option maxRecDepth 100000 in
set_option maxHeartbeats 4000000 in
theorem s_X12_tells_19 {X : Cg} (cx : Cx X cX12_tells RX12 3) (hfr : 0 ≤ (xR X).frames) (hlo : 0 ≤ (xR X).locals) (hr : (xM X).sig.returnType = (some .boolean)) (sx0 : Int32) : Sim X 3 (FiM X vI) 19 [] [.int sx0] (f_X12_tells_19 sx0) := by
  unfold f_X12_tells_19
  exact sm_zret cx hr dX12_tells_19
def f_X12_tells (r0 : Option Nat) (x1 : Int32) (x2 : Int32) : Mo Int32 := mb (gR 15 10 r0) (fun v1 => mb (aI 1 v1 x1) (fun v5 => (if ((v5 >>> (x2 &&& 31)) &&& (1 : Int32)) = (1 : Int32) then f_X12_tells_19 (1 : Int32) else f_X12_tells_19 (0 : Int32))))
set_option maxRecDepth 100000 in
set_option maxHeartbeats 4000000 in
theorem s_X12_tells {X : Cg} (cx : Cx X cX12_tells RX12 3) (hfr : 0 ≤ (xR X).frames) (hlo : 0 ≤ (xR X).locals) (hr : (xM X).sig.returnType = (some .boolean)) (r0 : Option Nat) (x1 : Int32) (x2 : Int32) : Sim X 3 (FiM X vI) 0 [(0, va_rf r0), (1, .int x1), (2, .int x2)] [] (f_X12_tells r0 x1 x2) := by
  unfold f_X12_tells
  refine sm_aload_n cx 0 dX12_tells_0 rfl rfl ?_
  refine sm_getR cx fl_X12_29 dX12_tells_1 (fun v1 => ?_)
  refine sm_iload_n cx 1 dX12_tells_4 rfl rfl ?_
  refine sm_iald cx dX12_tells_5 (fun v5 => ?_)
  refine sm_iload_n cx 2 dX12_tells_6 rfl rfl ?_
  refine sm_ishr cx dX12_tells_7 ?_
  refine sm_iconst (v := 1) cx dX12_tells_8 (by decide) ?_
  refine sm_iand cx dX12_tells_9 ?_
  refine sm_iconst (v := 1) cx dX12_tells_10 (by decide) ?_
  refine sm_icmp_ne (tgt := 18) cx dX12_tells_11 (by decide) ?_ ?_
  · refine sm_iconst (v := 0) cx dX12_tells_18 (by decide) ?_
    exact sm_lv [] rfl (s_X12_tells_19 cx hfr hlo hr (0 : Int32))
  · refine sm_iconst (v := 1) cx dX12_tells_14 (by decide) ?_
    refine sm_goto (tgt := 19) cx dX12_tells_15 (by decide) ?_
    exact sm_lv [] rfl (s_X12_tells_19 cx hfr hlo hr (1 : Int32))
set_option maxRecDepth 100000 in
set_option maxHeartbeats 4000000 in
theorem ct_X12_tells (Z : Nat → Nat) {r0 : Option Nat} (a0 : Nat) (h0 : r0 = some a0) (x1 : Int32) (x2 : Int32) : Ct yX12_tells cX12_tells 3 (some .boolean) 0 0 Z [.ref a0, .int x1, .int x2] vI (f_X12_tells r0 x1 x2) := by
  subst h0
  refine ct_of (lv0 := [(0, va_rf (some a0)), (1, .int x1), (2, .int x2)]) (by decide +kernel) (by simp [lg_sl, ct_i, ct_l, ct_r, rf_cat]) (by show _ = ([(0, Value.ref a0), (1, .int x1), (2, .int x2)] : List (Nat × Value)); simp [lv_args, ct_i, ct_l, ct_r, rf_cat]) (fun X cx hZ hfr hlo hr hin => ?_)
  subst hZ
  exact s_X12_tells cx (Nat.le_of_eq hfr.symm) (Nat.le_of_eq hlo.symm) hr (some a0) x1 x2
/-! PolicyTreeModel.tell(III)Z -/
theorem dX12_tell_0 : decode cX12_tell 0 = .ok (.aload_n 0, 1) := by decide +kernel
theorem dX12_tell_1 : decode cX12_tell 1 = .ok (.iconst 0, 1) := by decide +kernel
theorem dX12_tell_2 : decode cX12_tell 2 = .ok (.putfield 97, 3) := by decide +kernel
theorem dX12_tell_5 : decode cX12_tell 5 = .ok (.aload_n 0, 1) := by decide +kernel
theorem dX12_tell_6 : decode cX12_tell 6 = .ok (.iload_n 1, 1) := by decide +kernel
theorem dX12_tell_7 : decode cX12_tell 7 = .ok (.aload_n 0, 1) := by decide +kernel
theorem dX12_tell_8 : decode cX12_tell 8 = .ok (.getfield 118, 3) := by decide +kernel
theorem dX12_tell_11 : decode cX12_tell 11 = .ok (.invokevirtual 100, 3) := by decide +kernel
theorem dX12_tell_14 : decode cX12_tell 14 = .ok (.ifCond .ne 23, 3) := by decide +kernel
theorem dX12_tell_17 : decode cX12_tell 17 = .ok (.aload_n 0, 1) := by decide +kernel
theorem dX12_tell_18 : decode cX12_tell 18 = .ok (.iload_n 2, 1) := by decide +kernel
theorem dX12_tell_19 : decode cX12_tell 19 = .ok (.invokestatic 121, 3) := by decide +kernel
theorem dX12_tell_22 : decode cX12_tell 22 = .ok (.ifCond .ne 7, 3) := by decide +kernel
theorem dX12_tell_25 : decode cX12_tell 25 = .ok (.iconst 1, 1) := by decide +kernel
theorem dX12_tell_26 : decode cX12_tell 26 = .ok (.goto 4, 3) := by decide +kernel
theorem dX12_tell_29 : decode cX12_tell 29 = .ok (.iconst 0, 1) := by decide +kernel
theorem dX12_tell_30 : decode cX12_tell 30 = .ok (.iconst 2, 1) := by decide +kernel
theorem dX12_tell_31 : decode cX12_tell 31 = .ok (.invokevirtual 104, 3) := by decide +kernel
theorem dX12_tell_34 : decode cX12_tell 34 = .ok (.ifCond .eq 5, 3) := by decide +kernel
theorem dX12_tell_37 : decode cX12_tell 37 = .ok (.iconst 0, 1) := by decide +kernel
theorem dX12_tell_38 : decode cX12_tell 38 = .ok (.ireturn, 1) := by decide +kernel
theorem dX12_tell_39 : decode cX12_tell 39 = .ok (.aload_n 0, 1) := by decide +kernel
theorem dX12_tell_40 : decode cX12_tell 40 = .ok (.iload_n 1, 1) := by decide +kernel
theorem dX12_tell_41 : decode cX12_tell 41 = .ok (.iload_n 2, 1) := by decide +kernel
theorem dX12_tell_42 : decode cX12_tell 42 = .ok (.invokevirtual 125, 3) := by decide +kernel
theorem dX12_tell_45 : decode cX12_tell 45 = .ok (.ifCond .eq 18, 3) := by decide +kernel
theorem dX12_tell_48 : decode cX12_tell 48 = .ok (.aload_n 0, 1) := by decide +kernel
theorem dX12_tell_49 : decode cX12_tell 49 = .ok (.getfield 32, 3) := by decide +kernel
theorem dX12_tell_52 : decode cX12_tell 52 = .ok (.bipush 12, 2) := by decide +kernel
theorem dX12_tell_54 : decode cX12_tell 54 = .ok (.iload_n 1, 1) := by decide +kernel
theorem dX12_tell_55 : decode cX12_tell 55 = .ok (.imul, 1) := by decide +kernel
theorem dX12_tell_56 : decode cX12_tell 56 = .ok (.iload_n 2, 1) := by decide +kernel
theorem dX12_tell_57 : decode cX12_tell 57 = .ok (.iadd, 1) := by decide +kernel
theorem dX12_tell_58 : decode cX12_tell 58 = .ok (.iaload, 1) := by decide +kernel
theorem dX12_tell_59 : decode cX12_tell 59 = .ok (.iload_n 3, 1) := by decide +kernel
theorem dX12_tell_60 : decode cX12_tell 60 = .ok (.if_icmp .eq 7, 3) := by decide +kernel
theorem dX12_tell_63 : decode cX12_tell 63 = .ok (.iconst 1, 1) := by decide +kernel
theorem dX12_tell_64 : decode cX12_tell 64 = .ok (.goto 4, 3) := by decide +kernel
theorem dX12_tell_67 : decode cX12_tell 67 = .ok (.iconst 0, 1) := by decide +kernel
theorem dX12_tell_68 : decode cX12_tell 68 = .ok (.istore 4, 2) := by decide +kernel
theorem dX12_tell_70 : decode cX12_tell 70 = .ok (.aload_n 0, 1) := by decide +kernel
theorem dX12_tell_71 : decode cX12_tell 71 = .ok (.getfield 29, 3) := by decide +kernel
theorem dX12_tell_74 : decode cX12_tell 74 = .ok (.iload_n 1, 1) := by decide +kernel
theorem dX12_tell_75 : decode cX12_tell 75 = .ok (.dup2, 1) := by decide +kernel
theorem dX12_tell_76 : decode cX12_tell 76 = .ok (.iaload, 1) := by decide +kernel
theorem dX12_tell_77 : decode cX12_tell 77 = .ok (.iconst 1, 1) := by decide +kernel
theorem dX12_tell_78 : decode cX12_tell 78 = .ok (.iload_n 2, 1) := by decide +kernel
theorem dX12_tell_79 : decode cX12_tell 79 = .ok (.ishl, 1) := by decide +kernel
theorem dX12_tell_80 : decode cX12_tell 80 = .ok (.ior, 1) := by decide +kernel
theorem dX12_tell_81 : decode cX12_tell 81 = .ok (.iastore, 1) := by decide +kernel
theorem dX12_tell_82 : decode cX12_tell 82 = .ok (.aload_n 0, 1) := by decide +kernel
theorem dX12_tell_83 : decode cX12_tell 83 = .ok (.getfield 32, 3) := by decide +kernel
theorem dX12_tell_86 : decode cX12_tell 86 = .ok (.bipush 12, 2) := by decide +kernel
theorem dX12_tell_88 : decode cX12_tell 88 = .ok (.iload_n 1, 1) := by decide +kernel
theorem dX12_tell_89 : decode cX12_tell 89 = .ok (.imul, 1) := by decide +kernel
theorem dX12_tell_90 : decode cX12_tell 90 = .ok (.iload_n 2, 1) := by decide +kernel
theorem dX12_tell_91 : decode cX12_tell 91 = .ok (.iadd, 1) := by decide +kernel
theorem dX12_tell_92 : decode cX12_tell 92 = .ok (.iload_n 3, 1) := by decide +kernel
theorem dX12_tell_93 : decode cX12_tell 93 = .ok (.iastore, 1) := by decide +kernel
theorem dX12_tell_94 : decode cX12_tell 94 = .ok (.iload 4, 2) := by decide +kernel
theorem dX12_tell_96 : decode cX12_tell 96 = .ok (.ireturn, 1) := by decide +kernel
def f_X12_tell_37 : Mo Int32 := rz .boolean (0 : Int32)
set_option maxRecDepth 100000 in
set_option maxHeartbeats 4000000 in
theorem s_X12_tell_37 {X : Cg} (cx : Cx X cX12_tell RX12 5) (hfr : 1 ≤ (xR X).frames) (hlo : 22 ≤ (xR X).locals) (hr : (xM X).sig.returnType = (some .boolean)) : Sim X 5 (FiM X vI) 37 [] [] (f_X12_tell_37) := by
  unfold f_X12_tell_37
  refine sm_iconst (v := 0) cx dX12_tell_37 (by decide) ?_
  exact sm_zret cx hr dX12_tell_38
def f_X12_tell_68 (r0 : Option Nat) (x1 : Int32) (x2 : Int32) (x3 : Int32) (sx0 : Int32) : Mo Int32 := mb (gR 15 10 r0) (fun v71 => mb (aI 1 v71 x1) (fun v76 => mb (sI 1 v71 x1 (v76 ||| ((1 : Int32) <<< (x2 &&& 31)))) (fun _ => mb (gR 15 11 r0) (fun v83 => mb (sI 1 v83 (((12 : Int32) * x1) + x2) x3) (fun _ => rz .boolean sx0)))))
set_option maxRecDepth 100000 in
set_option maxHeartbeats 4000000 in
theorem s_X12_tell_68 {X : Cg} (cx : Cx X cX12_tell RX12 5) (hfr : 1 ≤ (xR X).frames) (hlo : 22 ≤ (xR X).locals) (hr : (xM X).sig.returnType = (some .boolean)) (r0 : Option Nat) (x1 : Int32) (x2 : Int32) (x3 : Int32) (sx0 : Int32) : Sim X 5 (FiM X vI) 68 [(0, va_rf r0), (1, .int x1), (2, .int x2), (3, .int x3)] [.int sx0] (f_X12_tell_68 r0 x1 x2 x3 sx0) := by
  unfold f_X12_tell_68
  refine sm_istore cx [(4, .int sx0), (0, va_rf r0), (1, .int x1), (2, .int x2), (3, .int x3)] dX12_tell_68 (by decide) rfl (nc1 rfl) rfl ?_
  refine sm_aload_n cx 1 dX12_tell_70 rfl rfl ?_
  refine sm_getR cx fl_X12_29 dX12_tell_71 (fun v71 => ?_)
  refine sm_iload_n cx 2 dX12_tell_74 rfl rfl ?_
  refine sm_dup2 cx dX12_tell_75 rfl (rf_cat _) ?_
  refine sm_iald cx dX12_tell_76 (fun v76 => ?_)
  refine sm_iconst (v := 1) cx dX12_tell_77 (by decide) ?_
  refine sm_iload_n cx 3 dX12_tell_78 rfl rfl ?_
  refine sm_ishl cx dX12_tell_79 ?_
  refine sm_ior cx dX12_tell_80 ?_
  refine sm_iast cx dX12_tell_81 ?_
  refine sm_aload_n cx 1 dX12_tell_82 rfl rfl ?_
  refine sm_getR cx fl_X12_32 dX12_tell_83 (fun v83 => ?_)
  refine sm_bipush (v := 12) cx dX12_tell_86 (by decide) ?_
  refine sm_iload_n cx 2 dX12_tell_88 rfl rfl ?_
  refine sm_imul cx dX12_tell_89 ?_
  refine sm_iload_n cx 3 dX12_tell_90 rfl rfl ?_
  refine sm_iadd cx dX12_tell_91 ?_
  refine sm_iload_n cx 4 dX12_tell_92 rfl rfl ?_
  refine sm_iast cx dX12_tell_93 ?_
  refine sm_iload cx 0 dX12_tell_94 rfl ?_
  exact sm_zret cx hr dX12_tell_96
def f_X12_tell_63 (r0 : Option Nat) (x1 : Int32) (x2 : Int32) (x3 : Int32) : Mo Int32 := f_X12_tell_68 r0 x1 x2 x3 (1 : Int32)
set_option maxRecDepth 100000 in
set_option maxHeartbeats 4000000 in
theorem s_X12_tell_63 {X : Cg} (cx : Cx X cX12_tell RX12 5) (hfr : 1 ≤ (xR X).frames) (hlo : 22 ≤ (xR X).locals) (hr : (xM X).sig.returnType = (some .boolean)) (r0 : Option Nat) (x1 : Int32) (x2 : Int32) (x3 : Int32) : Sim X 5 (FiM X vI) 63 [(0, va_rf r0), (1, .int x1), (2, .int x2), (3, .int x3)] [] (f_X12_tell_63 r0 x1 x2 x3) := by
  unfold f_X12_tell_63
  refine sm_iconst (v := 1) cx dX12_tell_63 (by decide) ?_
  refine sm_goto (tgt := 68) cx dX12_tell_64 (by decide) ?_
  exact sm_lv [0, 1, 2, 3] rfl (s_X12_tell_68 cx hfr hlo hr r0 x1 x2 x3 (1 : Int32))
def f_X12_tell_30 (r0 : Option Nat) (x1 : Int32) (x2 : Int32) (x3 : Int32) (sr0 : Option Nat) (sx1 : Int32) : Mo Int32 := mb (mo 15 sr0 (f_X12_bad sr0 sx1 (2 : Int32))) (fun v31 => (if v31 = 0 then mb (mo 15 r0 (f_X12_tells r0 x1 x2)) (fun v42 => (if v42 = 0 then f_X12_tell_63 r0 x1 x2 x3 else mb (gR 15 11 r0) (fun v49 => mb (aI 1 v49 (((12 : Int32) * x1) + x2)) (fun v58 => (if v58 = x3 then f_X12_tell_68 r0 x1 x2 x3 (0 : Int32) else f_X12_tell_63 r0 x1 x2 x3))))) else f_X12_tell_37))
set_option maxRecDepth 100000 in
set_option maxHeartbeats 4000000 in
theorem s_X12_tell_30 {X : Cg} (cx : Cx X cX12_tell RX12 5) (hfr : 1 ≤ (xR X).frames) (hlo : 22 ≤ (xR X).locals) (hr : (xM X).sig.returnType = (some .boolean)) (r0 : Option Nat) (x1 : Int32) (x2 : Int32) (x3 : Int32) (sr0 : Option Nat) (sx1 : Int32) : Sim X 5 (FiM X vI) 30 [(0, va_rf r0), (1, .int x1), (2, .int x2), (3, .int x3)] [.int sx1, va_rf sr0] (f_X12_tell_30 r0 x1 x2 x3 sr0 sx1) := by
  unfold f_X12_tell_30
  refine sm_iconst (v := 2) cx dX12_tell_30 (by decide) ?_
  refine sm_callV (T := TX12) (N := 47) (toV := vI) cx [.int sx1, .int (2 : Int32)] rfl cv_X12_104 (fun a h => ct_X12_bad (xZ X) a h sx1 (2 : Int32)) (Nat.le_trans (by decide) hfr) (Nat.le_trans (by decide) hlo) rfl (cat_le _ (Nat.le_of_ble_eq_true rfl)) dX12_tell_31 (fun v31 => ?_)
  refine sm_if_eq (tgt := 39) cx dX12_tell_34 (by decide) ?_ ?_
  · refine sm_aload_n cx 0 dX12_tell_39 rfl rfl ?_
    refine sm_iload_n cx 1 dX12_tell_40 rfl rfl ?_
    refine sm_iload_n cx 2 dX12_tell_41 rfl rfl ?_
    refine sm_callV (T := TX12) (N := 47) (toV := vI) cx [.int x1, .int x2] rfl cv_X12_125 (fun a h => ct_X12_tells (xZ X) a h x1 x2) (Nat.le_trans (by decide) hfr) (Nat.le_trans (by decide) hlo) rfl (cat_le _ (Nat.le_of_ble_eq_true rfl)) dX12_tell_42 (fun v42 => ?_)
    refine sm_if_eq (tgt := 63) cx dX12_tell_45 (by decide) ?_ ?_
    · exact sm_lv [0, 1, 2, 3] rfl (s_X12_tell_63 cx hfr hlo hr r0 x1 x2 x3)
    · refine sm_aload_n cx 0 dX12_tell_48 rfl rfl ?_
      refine sm_getR cx fl_X12_32 dX12_tell_49 (fun v49 => ?_)
      refine sm_bipush (v := 12) cx dX12_tell_52 (by decide) ?_
      refine sm_iload_n cx 1 dX12_tell_54 rfl rfl ?_
      refine sm_imul cx dX12_tell_55 ?_
      refine sm_iload_n cx 2 dX12_tell_56 rfl rfl ?_
      refine sm_iadd cx dX12_tell_57 ?_
      refine sm_iald cx dX12_tell_58 (fun v58 => ?_)
      refine sm_iload_n cx 3 dX12_tell_59 rfl rfl ?_
      refine sm_icmp_eq (tgt := 67) cx dX12_tell_60 (by decide) ?_ ?_
      · refine sm_iconst (v := 0) cx dX12_tell_67 (by decide) ?_
        exact sm_lv [0, 1, 2, 3] rfl (s_X12_tell_68 cx hfr hlo hr r0 x1 x2 x3 (0 : Int32))
      · exact sm_lv [0, 1, 2, 3] rfl (s_X12_tell_63 cx hfr hlo hr r0 x1 x2 x3)
  · exact sm_lv [] rfl (s_X12_tell_37 cx hfr hlo hr)
def f_X12_tell (r0 : Option Nat) (x1 : Int32) (x2 : Int32) (x3 : Int32) : Mo Int32 := mb (pV 15 0 r0 (.int (0 : Int32))) (fun _ => mb (gI 15 12 r0) (fun v8 => mb (mo 15 r0 (f_X12_none r0 x1 v8)) (fun v11 => (if v11 = 0 then mb (f_X12_isSetting x2) (fun v19 => (if v19 = 0 then f_X12_tell_30 r0 x1 x2 x3 r0 (1 : Int32) else f_X12_tell_30 r0 x1 x2 x3 r0 (0 : Int32))) else f_X12_tell_37))))
set_option maxRecDepth 100000 in
set_option maxHeartbeats 4000000 in
theorem s_X12_tell {X : Cg} (cx : Cx X cX12_tell RX12 5) (hfr : 1 ≤ (xR X).frames) (hlo : 22 ≤ (xR X).locals) (hr : (xM X).sig.returnType = (some .boolean)) (r0 : Option Nat) (x1 : Int32) (x2 : Int32) (x3 : Int32) : Sim X 5 (FiM X vI) 0 [(0, va_rf r0), (1, .int x1), (2, .int x2), (3, .int x3)] [] (f_X12_tell r0 x1 x2 x3) := by
  unfold f_X12_tell
  refine sm_aload_n cx 0 dX12_tell_0 rfl rfl ?_
  refine sm_iconst (v := 0) cx dX12_tell_1 (by decide) ?_
  refine sm_putV cx fl_X12_97 rfl rfl dX12_tell_2 ?_
  refine sm_aload_n cx 0 dX12_tell_5 rfl rfl ?_
  refine sm_iload_n cx 1 dX12_tell_6 rfl rfl ?_
  refine sm_aload_n cx 0 dX12_tell_7 rfl rfl ?_
  refine sm_getI cx fl_X12_118 dX12_tell_8 (fun v8 => ?_)
  refine sm_callV (T := TX12) (N := 47) (toV := vI) cx [.int x1, .int v8] rfl cv_X12_100 (fun a h => ct_X12_none (xZ X) a h x1 v8) (Nat.le_trans (by decide) hfr) (Nat.le_trans (by decide) hlo) rfl (cat_le _ (Nat.le_of_ble_eq_true rfl)) dX12_tell_11 (fun v11 => ?_)
  refine sm_if_ne (tgt := 37) cx dX12_tell_14 (by decide) ?_ ?_
  · exact sm_lv [] rfl (s_X12_tell_37 cx hfr hlo hr)
  · refine sm_aload_n cx 0 dX12_tell_17 rfl rfl ?_
    refine sm_iload_n cx 2 dX12_tell_18 rfl rfl ?_
    refine sm_callS (toV := vI) cx [.int x2] cs_X12_121 (ct_X12_isSetting (xZ X) x2) (Nat.le_trans (by decide) hfr) (Nat.le_trans (by decide) hlo) rfl (cat_le _ (Nat.le_of_ble_eq_true rfl)) dX12_tell_19 (fun v19 => ?_)
    refine sm_if_ne (tgt := 29) cx dX12_tell_22 (by decide) ?_ ?_
    · refine sm_iconst (v := 0) cx dX12_tell_29 (by decide) ?_
      exact sm_lv [0, 1, 2, 3] rfl (s_X12_tell_30 cx hfr hlo hr r0 x1 x2 x3 r0 (0 : Int32))
    · refine sm_iconst (v := 1) cx dX12_tell_25 (by decide) ?_
      refine sm_goto (tgt := 30) cx dX12_tell_26 (by decide) ?_
      exact sm_lv [0, 1, 2, 3] rfl (s_X12_tell_30 cx hfr hlo hr r0 x1 x2 x3 r0 (1 : Int32))
set_option maxRecDepth 100000 in
set_option maxHeartbeats 4000000 in
theorem ct_X12_tell (Z : Nat → Nat) {r0 : Option Nat} (a0 : Nat) (h0 : r0 = some a0) (x1 : Int32) (x2 : Int32) (x3 : Int32) : Ct yX12_tell cX12_tell 5 (some .boolean) 1 22 Z [.ref a0, .int x1, .int x2, .int x3] vI (f_X12_tell r0 x1 x2 x3) := by
  subst h0
  refine ct_of (lv0 := [(0, va_rf (some a0)), (1, .int x1), (2, .int x2), (3, .int x3)]) (by decide +kernel) (by simp [lg_sl, ct_i, ct_l, ct_r, rf_cat]) (by show _ = ([(0, Value.ref a0), (1, .int x1), (2, .int x2), (3, .int x3)] : List (Nat × Value)); simp [lv_args, ct_i, ct_l, ct_r, rf_cat]) (fun X cx hZ hfr hlo hr hin => ?_)
  subst hZ
  exact s_X12_tell cx (Nat.le_of_eq hfr.symm) (Nat.le_of_eq hlo.symm) hr (some a0) x1 x2 x3
/-! PolicyTreeModel.untell(II)Z -/
theorem dX12_untell_0 : decode cX12_untell 0 = .ok (.aload_n 0, 1) := by decide +kernel
theorem dX12_untell_1 : decode cX12_untell 1 = .ok (.iconst 0, 1) := by decide +kernel
theorem dX12_untell_2 : decode cX12_untell 2 = .ok (.putfield 97, 3) := by decide +kernel
theorem dX12_untell_5 : decode cX12_untell 5 = .ok (.aload_n 0, 1) := by decide +kernel
theorem dX12_untell_6 : decode cX12_untell 6 = .ok (.iload_n 1, 1) := by decide +kernel
theorem dX12_untell_7 : decode cX12_untell 7 = .ok (.aload_n 0, 1) := by decide +kernel
theorem dX12_untell_8 : decode cX12_untell 8 = .ok (.getfield 118, 3) := by decide +kernel
theorem dX12_untell_11 : decode cX12_untell 11 = .ok (.invokevirtual 100, 3) := by decide +kernel
theorem dX12_untell_14 : decode cX12_untell 14 = .ok (.ifCond .ne 23, 3) := by decide +kernel
theorem dX12_untell_17 : decode cX12_untell 17 = .ok (.aload_n 0, 1) := by decide +kernel
theorem dX12_untell_18 : decode cX12_untell 18 = .ok (.iload_n 2, 1) := by decide +kernel
theorem dX12_untell_19 : decode cX12_untell 19 = .ok (.invokestatic 121, 3) := by decide +kernel
theorem dX12_untell_22 : decode cX12_untell 22 = .ok (.ifCond .ne 7, 3) := by decide +kernel
theorem dX12_untell_25 : decode cX12_untell 25 = .ok (.iconst 1, 1) := by decide +kernel
theorem dX12_untell_26 : decode cX12_untell 26 = .ok (.goto 4, 3) := by decide +kernel
theorem dX12_untell_29 : decode cX12_untell 29 = .ok (.iconst 0, 1) := by decide +kernel
theorem dX12_untell_30 : decode cX12_untell 30 = .ok (.iconst 2, 1) := by decide +kernel
theorem dX12_untell_31 : decode cX12_untell 31 = .ok (.invokevirtual 104, 3) := by decide +kernel
theorem dX12_untell_34 : decode cX12_untell 34 = .ok (.ifCond .eq 5, 3) := by decide +kernel
theorem dX12_untell_37 : decode cX12_untell 37 = .ok (.iconst 0, 1) := by decide +kernel
theorem dX12_untell_38 : decode cX12_untell 38 = .ok (.ireturn, 1) := by decide +kernel
theorem dX12_untell_39 : decode cX12_untell 39 = .ok (.aload_n 0, 1) := by decide +kernel
theorem dX12_untell_40 : decode cX12_untell 40 = .ok (.iload_n 1, 1) := by decide +kernel
theorem dX12_untell_41 : decode cX12_untell 41 = .ok (.iload_n 2, 1) := by decide +kernel
theorem dX12_untell_42 : decode cX12_untell 42 = .ok (.invokevirtual 125, 3) := by decide +kernel
theorem dX12_untell_45 : decode cX12_untell 45 = .ok (.istore_n 3, 1) := by decide +kernel
theorem dX12_untell_46 : decode cX12_untell 46 = .ok (.iload_n 3, 1) := by decide +kernel
theorem dX12_untell_47 : decode cX12_untell 47 = .ok (.ifCond .eq 15, 3) := by decide +kernel
theorem dX12_untell_50 : decode cX12_untell 50 = .ok (.aload_n 0, 1) := by decide +kernel
theorem dX12_untell_51 : decode cX12_untell 51 = .ok (.getfield 29, 3) := by decide +kernel
theorem dX12_untell_54 : decode cX12_untell 54 = .ok (.iload_n 1, 1) := by decide +kernel
theorem dX12_untell_55 : decode cX12_untell 55 = .ok (.dup2, 1) := by decide +kernel
theorem dX12_untell_56 : decode cX12_untell 56 = .ok (.iaload, 1) := by decide +kernel
theorem dX12_untell_57 : decode cX12_untell 57 = .ok (.iconst 1, 1) := by decide +kernel
theorem dX12_untell_58 : decode cX12_untell 58 = .ok (.iload_n 2, 1) := by decide +kernel
theorem dX12_untell_59 : decode cX12_untell 59 = .ok (.ishl, 1) := by decide +kernel
theorem dX12_untell_60 : decode cX12_untell 60 = .ok (.ixor, 1) := by decide +kernel
theorem dX12_untell_61 : decode cX12_untell 61 = .ok (.iastore, 1) := by decide +kernel
theorem dX12_untell_62 : decode cX12_untell 62 = .ok (.iload_n 3, 1) := by decide +kernel
theorem dX12_untell_63 : decode cX12_untell 63 = .ok (.ireturn, 1) := by decide +kernel
def f_X12_untell_37 : Mo Int32 := rz .boolean (0 : Int32)
set_option maxRecDepth 100000 in
set_option maxHeartbeats 4000000 in
theorem s_X12_untell_37 {X : Cg} (cx : Cx X cX12_untell RX12 4) (hfr : 1 ≤ (xR X).frames) (hlo : 22 ≤ (xR X).locals) (hr : (xM X).sig.returnType = (some .boolean)) : Sim X 4 (FiM X vI) 37 [] [] (f_X12_untell_37) := by
  unfold f_X12_untell_37
  refine sm_iconst (v := 0) cx dX12_untell_37 (by decide) ?_
  exact sm_zret cx hr dX12_untell_38
def f_X12_untell_62 (x3 : Int32) : Mo Int32 := rz .boolean x3
set_option maxRecDepth 100000 in
set_option maxHeartbeats 4000000 in
theorem s_X12_untell_62 {X : Cg} (cx : Cx X cX12_untell RX12 4) (hfr : 1 ≤ (xR X).frames) (hlo : 22 ≤ (xR X).locals) (hr : (xM X).sig.returnType = (some .boolean)) (x3 : Int32) : Sim X 4 (FiM X vI) 62 [(3, .int x3)] [] (f_X12_untell_62 x3) := by
  unfold f_X12_untell_62
  refine sm_iload_n cx 0 dX12_untell_62 rfl rfl ?_
  exact sm_zret cx hr dX12_untell_63
def f_X12_untell_30 (r0 : Option Nat) (x1 : Int32) (x2 : Int32) (sr0 : Option Nat) (sx1 : Int32) : Mo Int32 := mb (mo 15 sr0 (f_X12_bad sr0 sx1 (2 : Int32))) (fun v31 => (if v31 = 0 then mb (mo 15 r0 (f_X12_tells r0 x1 x2)) (fun v42 => (if v42 = 0 then f_X12_untell_62 v42 else mb (gR 15 10 r0) (fun v51 => mb (aI 1 v51 x1) (fun v56 => mb (sI 1 v51 x1 (v56 ^^^ ((1 : Int32) <<< (x2 &&& 31)))) (fun _ => f_X12_untell_62 v42))))) else f_X12_untell_37))
set_option maxRecDepth 100000 in
set_option maxHeartbeats 4000000 in
theorem s_X12_untell_30 {X : Cg} (cx : Cx X cX12_untell RX12 4) (hfr : 1 ≤ (xR X).frames) (hlo : 22 ≤ (xR X).locals) (hr : (xM X).sig.returnType = (some .boolean)) (r0 : Option Nat) (x1 : Int32) (x2 : Int32) (sr0 : Option Nat) (sx1 : Int32) : Sim X 4 (FiM X vI) 30 [(0, va_rf r0), (1, .int x1), (2, .int x2)] [.int sx1, va_rf sr0] (f_X12_untell_30 r0 x1 x2 sr0 sx1) := by
  unfold f_X12_untell_30
  refine sm_iconst (v := 2) cx dX12_untell_30 (by decide) ?_
  refine sm_callV (T := TX12) (N := 47) (toV := vI) cx [.int sx1, .int (2 : Int32)] rfl cv_X12_104 (fun a h => ct_X12_bad (xZ X) a h sx1 (2 : Int32)) (Nat.le_trans (by decide) hfr) (Nat.le_trans (by decide) hlo) rfl (cat_le _ (Nat.le_of_ble_eq_true rfl)) dX12_untell_31 (fun v31 => ?_)
  refine sm_if_eq (tgt := 39) cx dX12_untell_34 (by decide) ?_ ?_
  · refine sm_aload_n cx 0 dX12_untell_39 rfl rfl ?_
    refine sm_iload_n cx 1 dX12_untell_40 rfl rfl ?_
    refine sm_iload_n cx 2 dX12_untell_41 rfl rfl ?_
    refine sm_callV (T := TX12) (N := 47) (toV := vI) cx [.int x1, .int x2] rfl cv_X12_125 (fun a h => ct_X12_tells (xZ X) a h x1 x2) (Nat.le_trans (by decide) hfr) (Nat.le_trans (by decide) hlo) rfl (cat_le _ (Nat.le_of_ble_eq_true rfl)) dX12_untell_42 (fun v42 => ?_)
    refine sm_istore_n cx [(3, .int v42), (0, va_rf r0), (1, .int x1), (2, .int x2)] dX12_untell_45 rfl (by decide) rfl (nc1 rfl) rfl ?_
    refine sm_iload_n cx 0 dX12_untell_46 rfl rfl ?_
    refine sm_if_eq (tgt := 62) cx dX12_untell_47 (by decide) ?_ ?_
    · exact sm_lv [0] rfl (s_X12_untell_62 cx hfr hlo hr v42)
    · refine sm_aload_n cx 1 dX12_untell_50 rfl rfl ?_
      refine sm_getR cx fl_X12_29 dX12_untell_51 (fun v51 => ?_)
      refine sm_iload_n cx 2 dX12_untell_54 rfl rfl ?_
      refine sm_dup2 cx dX12_untell_55 rfl (rf_cat _) ?_
      refine sm_iald cx dX12_untell_56 (fun v56 => ?_)
      refine sm_iconst (v := 1) cx dX12_untell_57 (by decide) ?_
      refine sm_iload_n cx 3 dX12_untell_58 rfl rfl ?_
      refine sm_ishl cx dX12_untell_59 ?_
      refine sm_ixor cx dX12_untell_60 ?_
      refine sm_iast cx dX12_untell_61 ?_
      exact sm_lv [0] rfl (s_X12_untell_62 cx hfr hlo hr v42)
  · exact sm_lv [] rfl (s_X12_untell_37 cx hfr hlo hr)
def f_X12_untell (r0 : Option Nat) (x1 : Int32) (x2 : Int32) : Mo Int32 := mb (pV 15 0 r0 (.int (0 : Int32))) (fun _ => mb (gI 15 12 r0) (fun v8 => mb (mo 15 r0 (f_X12_none r0 x1 v8)) (fun v11 => (if v11 = 0 then mb (f_X12_isSetting x2) (fun v19 => (if v19 = 0 then f_X12_untell_30 r0 x1 x2 r0 (1 : Int32) else f_X12_untell_30 r0 x1 x2 r0 (0 : Int32))) else f_X12_untell_37))))
set_option maxRecDepth 100000 in
set_option maxHeartbeats 4000000 in
theorem s_X12_untell {X : Cg} (cx : Cx X cX12_untell RX12 4) (hfr : 1 ≤ (xR X).frames) (hlo : 22 ≤ (xR X).locals) (hr : (xM X).sig.returnType = (some .boolean)) (r0 : Option Nat) (x1 : Int32) (x2 : Int32) : Sim X 4 (FiM X vI) 0 [(0, va_rf r0), (1, .int x1), (2, .int x2)] [] (f_X12_untell r0 x1 x2) := by
  unfold f_X12_untell
  refine sm_aload_n cx 0 dX12_untell_0 rfl rfl ?_
  refine sm_iconst (v := 0) cx dX12_untell_1 (by decide) ?_
  refine sm_putV cx fl_X12_97 rfl rfl dX12_untell_2 ?_
  refine sm_aload_n cx 0 dX12_untell_5 rfl rfl ?_
  refine sm_iload_n cx 1 dX12_untell_6 rfl rfl ?_
  refine sm_aload_n cx 0 dX12_untell_7 rfl rfl ?_
  refine sm_getI cx fl_X12_118 dX12_untell_8 (fun v8 => ?_)
  refine sm_callV (T := TX12) (N := 47) (toV := vI) cx [.int x1, .int v8] rfl cv_X12_100 (fun a h => ct_X12_none (xZ X) a h x1 v8) (Nat.le_trans (by decide) hfr) (Nat.le_trans (by decide) hlo) rfl (cat_le _ (Nat.le_of_ble_eq_true rfl)) dX12_untell_11 (fun v11 => ?_)
  refine sm_if_ne (tgt := 37) cx dX12_untell_14 (by decide) ?_ ?_
  · exact sm_lv [] rfl (s_X12_untell_37 cx hfr hlo hr)
  · refine sm_aload_n cx 0 dX12_untell_17 rfl rfl ?_
    refine sm_iload_n cx 2 dX12_untell_18 rfl rfl ?_
    refine sm_callS (toV := vI) cx [.int x2] cs_X12_121 (ct_X12_isSetting (xZ X) x2) (Nat.le_trans (by decide) hfr) (Nat.le_trans (by decide) hlo) rfl (cat_le _ (Nat.le_of_ble_eq_true rfl)) dX12_untell_19 (fun v19 => ?_)
    refine sm_if_ne (tgt := 29) cx dX12_untell_22 (by decide) ?_ ?_
    · refine sm_iconst (v := 0) cx dX12_untell_29 (by decide) ?_
      exact sm_lv [0, 1, 2] rfl (s_X12_untell_30 cx hfr hlo hr r0 x1 x2 r0 (0 : Int32))
    · refine sm_iconst (v := 1) cx dX12_untell_25 (by decide) ?_
      refine sm_goto (tgt := 30) cx dX12_untell_26 (by decide) ?_
      exact sm_lv [0, 1, 2] rfl (s_X12_untell_30 cx hfr hlo hr r0 x1 x2 r0 (1 : Int32))
set_option maxRecDepth 100000 in
set_option maxHeartbeats 4000000 in
theorem ct_X12_untell (Z : Nat → Nat) {r0 : Option Nat} (a0 : Nat) (h0 : r0 = some a0) (x1 : Int32) (x2 : Int32) : Ct yX12_untell cX12_untell 4 (some .boolean) 1 22 Z [.ref a0, .int x1, .int x2] vI (f_X12_untell r0 x1 x2) := by
  subst h0
  refine ct_of (lv0 := [(0, va_rf (some a0)), (1, .int x1), (2, .int x2)]) (by decide +kernel) (by simp [lg_sl, ct_i, ct_l, ct_r, rf_cat]) (by show _ = ([(0, Value.ref a0), (1, .int x1), (2, .int x2)] : List (Nat × Value)); simp [lv_args, ct_i, ct_l, ct_r, rf_cat]) (fun X cx hZ hfr hlo hr hin => ?_)
  subst hZ
  exact s_X12_untell cx (Nat.le_of_eq hfr.symm) (Nat.le_of_eq hlo.symm) hr (some a0) x1 x2
/-! PolicyTreeModel.law(II)I -/
theorem dX12_law_0 : decode cX12_law 0 = .ok (.aload_n 0, 1) := by decide +kernel
theorem dX12_law_1 : decode cX12_law 1 = .ok (.iconst 0, 1) := by decide +kernel
theorem dX12_law_2 : decode cX12_law 2 = .ok (.putfield 97, 3) := by decide +kernel
theorem dX12_law_5 : decode cX12_law 5 = .ok (.aload_n 0, 1) := by decide +kernel
theorem dX12_law_6 : decode cX12_law 6 = .ok (.iload_n 1, 1) := by decide +kernel
theorem dX12_law_7 : decode cX12_law 7 = .ok (.invokestatic 121, 3) := by decide +kernel
theorem dX12_law_10 : decode cX12_law 10 = .ok (.ifCond .eq 12, 3) := by decide +kernel
theorem dX12_law_13 : decode cX12_law 13 = .ok (.iload_n 2, 1) := by decide +kernel
theorem dX12_law_14 : decode cX12_law 14 = .ok (.ifCond .lt 8, 3) := by decide +kernel
theorem dX12_law_17 : decode cX12_law 17 = .ok (.iload_n 2, 1) := by decide +kernel
theorem dX12_law_18 : decode cX12_law 18 = .ok (.iconst 2, 1) := by decide +kernel
theorem dX12_law_19 : decode cX12_law 19 = .ok (.if_icmp .le 7, 3) := by decide +kernel
theorem dX12_law_22 : decode cX12_law 22 = .ok (.iconst 1, 1) := by decide +kernel
theorem dX12_law_23 : decode cX12_law 23 = .ok (.goto 4, 3) := by decide +kernel
theorem dX12_law_26 : decode cX12_law 26 = .ok (.iconst 0, 1) := by decide +kernel
theorem dX12_law_27 : decode cX12_law 27 = .ok (.iconst 1, 1) := by decide +kernel
theorem dX12_law_28 : decode cX12_law 28 = .ok (.invokevirtual 104, 3) := by decide +kernel
theorem dX12_law_31 : decode cX12_law 31 = .ok (.ifCond .eq 5, 3) := by decide +kernel
theorem dX12_law_34 : decode cX12_law 34 = .ok (.iconst 0, 1) := by decide +kernel
theorem dX12_law_35 : decode cX12_law 35 = .ok (.ireturn, 1) := by decide +kernel
theorem dX12_law_36 : decode cX12_law 36 = .ok (.aload_n 0, 1) := by decide +kernel
theorem dX12_law_37 : decode cX12_law 37 = .ok (.getfield 35, 3) := by decide +kernel
theorem dX12_law_40 : decode cX12_law 40 = .ok (.iload_n 1, 1) := by decide +kernel
theorem dX12_law_41 : decode cX12_law 41 = .ok (.iaload, 1) := by decide +kernel
theorem dX12_law_42 : decode cX12_law 42 = .ok (.istore_n 3, 1) := by decide +kernel
theorem dX12_law_43 : decode cX12_law 43 = .ok (.aload_n 0, 1) := by decide +kernel
theorem dX12_law_44 : decode cX12_law 44 = .ok (.getfield 35, 3) := by decide +kernel
theorem dX12_law_47 : decode cX12_law 47 = .ok (.iload_n 1, 1) := by decide +kernel
theorem dX12_law_48 : decode cX12_law 48 = .ok (.iload_n 2, 1) := by decide +kernel
theorem dX12_law_49 : decode cX12_law 49 = .ok (.iastore, 1) := by decide +kernel
theorem dX12_law_50 : decode cX12_law 50 = .ok (.iload_n 3, 1) := by decide +kernel
theorem dX12_law_51 : decode cX12_law 51 = .ok (.ireturn, 1) := by decide +kernel
def f_X12_law_27 (r0 : Option Nat) (x1 : Int32) (x2 : Int32) (sr0 : Option Nat) (sx1 : Int32) : Mo Int32 := mb (mo 15 sr0 (f_X12_bad sr0 sx1 (1 : Int32))) (fun v28 => (if v28 = 0 then mb (gR 15 13 r0) (fun v37 => mb (aI 1 v37 x1) (fun v41 => mb (gR 15 13 r0) (fun v44 => mb (sI 1 v44 x1 x2) (fun _ => mp v41)))) else mp (0 : Int32)))
set_option maxRecDepth 100000 in
set_option maxHeartbeats 4000000 in
theorem s_X12_law_27 {X : Cg} (cx : Cx X cX12_law RX12 4) (hfr : 1 ≤ (xR X).frames) (hlo : 22 ≤ (xR X).locals) (hr : (xM X).sig.returnType = (some .int)) (r0 : Option Nat) (x1 : Int32) (x2 : Int32) (sr0 : Option Nat) (sx1 : Int32) : Sim X 4 (FiM X vI) 27 [(0, va_rf r0), (1, .int x1), (2, .int x2)] [.int sx1, va_rf sr0] (f_X12_law_27 r0 x1 x2 sr0 sx1) := by
  unfold f_X12_law_27
  refine sm_iconst (v := 1) cx dX12_law_27 (by decide) ?_
  refine sm_callV (T := TX12) (N := 47) (toV := vI) cx [.int sx1, .int (1 : Int32)] rfl cv_X12_104 (fun a h => ct_X12_bad (xZ X) a h sx1 (1 : Int32)) (Nat.le_trans (by decide) hfr) (Nat.le_trans (by decide) hlo) rfl (cat_le _ (Nat.le_of_ble_eq_true rfl)) dX12_law_28 (fun v28 => ?_)
  refine sm_if_eq (tgt := 36) cx dX12_law_31 (by decide) ?_ ?_
  · refine sm_aload_n cx 0 dX12_law_36 rfl rfl ?_
    refine sm_getR cx fl_X12_35 dX12_law_37 (fun v37 => ?_)
    refine sm_iload_n cx 1 dX12_law_40 rfl rfl ?_
    refine sm_iald cx dX12_law_41 (fun v41 => ?_)
    refine sm_istore_n cx [(3, .int v41), (0, va_rf r0), (1, .int x1), (2, .int x2)] dX12_law_42 rfl (by decide) rfl (nc1 rfl) rfl ?_
    refine sm_aload_n cx 1 dX12_law_43 rfl rfl ?_
    refine sm_getR cx fl_X12_35 dX12_law_44 (fun v44 => ?_)
    refine sm_iload_n cx 2 dX12_law_47 rfl rfl ?_
    refine sm_iload_n cx 3 dX12_law_48 rfl rfl ?_
    refine sm_iast cx dX12_law_49 ?_
    refine sm_iload_n cx 0 dX12_law_50 rfl rfl ?_
    exact sm_iret cx hr dX12_law_51
  · refine sm_iconst (v := 0) cx dX12_law_34 (by decide) ?_
    exact sm_iret cx hr dX12_law_35
def f_X12_law_22 (r0 : Option Nat) (x1 : Int32) (x2 : Int32) (sr0 : Option Nat) : Mo Int32 := f_X12_law_27 r0 x1 x2 sr0 (1 : Int32)
set_option maxRecDepth 100000 in
set_option maxHeartbeats 4000000 in
theorem s_X12_law_22 {X : Cg} (cx : Cx X cX12_law RX12 4) (hfr : 1 ≤ (xR X).frames) (hlo : 22 ≤ (xR X).locals) (hr : (xM X).sig.returnType = (some .int)) (r0 : Option Nat) (x1 : Int32) (x2 : Int32) (sr0 : Option Nat) : Sim X 4 (FiM X vI) 22 [(0, va_rf r0), (1, .int x1), (2, .int x2)] [va_rf sr0] (f_X12_law_22 r0 x1 x2 sr0) := by
  unfold f_X12_law_22
  refine sm_iconst (v := 1) cx dX12_law_22 (by decide) ?_
  refine sm_goto (tgt := 27) cx dX12_law_23 (by decide) ?_
  exact sm_lv [0, 1, 2] rfl (s_X12_law_27 cx hfr hlo hr r0 x1 x2 sr0 (1 : Int32))
def f_X12_law (r0 : Option Nat) (x1 : Int32) (x2 : Int32) : Mo Int32 := mb (pV 15 0 r0 (.int (0 : Int32))) (fun _ => mb (f_X12_isSetting x1) (fun v7 => (if v7 = 0 then f_X12_law_22 r0 x1 x2 r0 else (if x2 < 0 then f_X12_law_22 r0 x1 x2 r0 else (if x2 ≤ (2 : Int32) then f_X12_law_27 r0 x1 x2 r0 (0 : Int32) else f_X12_law_22 r0 x1 x2 r0)))))
set_option maxRecDepth 100000 in
set_option maxHeartbeats 4000000 in
theorem s_X12_law {X : Cg} (cx : Cx X cX12_law RX12 4) (hfr : 1 ≤ (xR X).frames) (hlo : 22 ≤ (xR X).locals) (hr : (xM X).sig.returnType = (some .int)) (r0 : Option Nat) (x1 : Int32) (x2 : Int32) : Sim X 4 (FiM X vI) 0 [(0, va_rf r0), (1, .int x1), (2, .int x2)] [] (f_X12_law r0 x1 x2) := by
  unfold f_X12_law
  refine sm_aload_n cx 0 dX12_law_0 rfl rfl ?_
  refine sm_iconst (v := 0) cx dX12_law_1 (by decide) ?_
  refine sm_putV cx fl_X12_97 rfl rfl dX12_law_2 ?_
  refine sm_aload_n cx 0 dX12_law_5 rfl rfl ?_
  refine sm_iload_n cx 1 dX12_law_6 rfl rfl ?_
  refine sm_callS (toV := vI) cx [.int x1] cs_X12_121 (ct_X12_isSetting (xZ X) x1) (Nat.le_trans (by decide) hfr) (Nat.le_trans (by decide) hlo) rfl (cat_le _ (Nat.le_of_ble_eq_true rfl)) dX12_law_7 (fun v7 => ?_)
  refine sm_if_eq (tgt := 22) cx dX12_law_10 (by decide) ?_ ?_
  · exact sm_lv [0, 1, 2] rfl (s_X12_law_22 cx hfr hlo hr r0 x1 x2 r0)
  · refine sm_iload_n cx 2 dX12_law_13 rfl rfl ?_
    refine sm_if_lt (tgt := 22) cx dX12_law_14 (by decide) ?_ ?_
    · exact sm_lv [0, 1, 2] rfl (s_X12_law_22 cx hfr hlo hr r0 x1 x2 r0)
    · refine sm_iload_n cx 2 dX12_law_17 rfl rfl ?_
      refine sm_iconst (v := 2) cx dX12_law_18 (by decide) ?_
      refine sm_icmp_le (tgt := 26) cx dX12_law_19 (by decide) ?_ ?_
      · refine sm_iconst (v := 0) cx dX12_law_26 (by decide) ?_
        exact sm_lv [0, 1, 2] rfl (s_X12_law_27 cx hfr hlo hr r0 x1 x2 r0 (0 : Int32))
      · exact sm_lv [0, 1, 2] rfl (s_X12_law_22 cx hfr hlo hr r0 x1 x2 r0)
set_option maxRecDepth 100000 in
set_option maxHeartbeats 4000000 in
theorem ct_X12_law (Z : Nat → Nat) {r0 : Option Nat} (a0 : Nat) (h0 : r0 = some a0) (x1 : Int32) (x2 : Int32) : Ct yX12_law cX12_law 4 (some .int) 1 22 Z [.ref a0, .int x1, .int x2] vI (f_X12_law r0 x1 x2) := by
  subst h0
  refine ct_of (lv0 := [(0, va_rf (some a0)), (1, .int x1), (2, .int x2)]) (by decide +kernel) (by simp [lg_sl, ct_i, ct_l, ct_r, rf_cat]) (by show _ = ([(0, Value.ref a0), (1, .int x1), (2, .int x2)] : List (Nat × Value)); simp [lv_args, ct_i, ct_l, ct_r, rf_cat]) (fun X cx hZ hfr hlo hr hin => ?_)
  subst hZ
  exact s_X12_law cx (Nat.le_of_eq hfr.symm) (Nat.le_of_eq hlo.symm) hr (some a0) x1 x2
/-! PolicyTreeModel.feed(IIIII)I -/
theorem dX12_feed_0 : decode cX12_feed 0 = .ok (.aload_n 0, 1) := by decide +kernel
theorem dX12_feed_1 : decode cX12_feed 1 = .ok (.iconst 0, 1) := by decide +kernel
theorem dX12_feed_2 : decode cX12_feed 2 = .ok (.putfield 97, 3) := by decide +kernel
theorem dX12_feed_5 : decode cX12_feed 5 = .ok (.aload_n 0, 1) := by decide +kernel
theorem dX12_feed_6 : decode cX12_feed 6 = .ok (.getfield 128, 3) := by decide +kernel
theorem dX12_feed_9 : decode cX12_feed 9 = .ok (.bipush 20, 2) := by decide +kernel
theorem dX12_feed_11 : decode cX12_feed 11 = .ok (.iadd, 1) := by decide +kernel
theorem dX12_feed_12 : decode cX12_feed 12 = .ok (.sipush 200, 3) := by decide +kernel
theorem dX12_feed_15 : decode cX12_feed 15 = .ok (.if_icmp .le 5, 3) := by decide +kernel
theorem dX12_feed_18 : decode cX12_feed 18 = .ok (.iconst (-1), 1) := by decide +kernel
theorem dX12_feed_19 : decode cX12_feed 19 = .ok (.ireturn, 1) := by decide +kernel
theorem dX12_feed_20 : decode cX12_feed 20 = .ok (.iconst 0, 1) := by decide +kernel
theorem dX12_feed_21 : decode cX12_feed 21 = .ok (.istore 6, 2) := by decide +kernel
theorem dX12_feed_23 : decode cX12_feed 23 = .ok (.iload 6, 2) := by decide +kernel
theorem dX12_feed_25 : decode cX12_feed 25 = .ok (.iconst 5, 1) := by decide +kernel
theorem dX12_feed_26 : decode cX12_feed 26 = .ok (.if_icmp .ge 93, 3) := by decide +kernel
theorem dX12_feed_29 : decode cX12_feed 29 = .ok (.iload 6, 2) := by decide +kernel
theorem dX12_feed_31 : decode cX12_feed 31 = .ok (.ifCond .ne 7, 3) := by decide +kernel
theorem dX12_feed_34 : decode cX12_feed 34 = .ok (.iload_n 1, 1) := by decide +kernel
theorem dX12_feed_35 : decode cX12_feed 35 = .ok (.goto 36, 3) := by decide +kernel
theorem dX12_feed_38 : decode cX12_feed 38 = .ok (.iload 6, 2) := by decide +kernel
theorem dX12_feed_40 : decode cX12_feed 40 = .ok (.iconst 1, 1) := by decide +kernel
theorem dX12_feed_41 : decode cX12_feed 41 = .ok (.if_icmp .ne 7, 3) := by decide +kernel
theorem dX12_feed_44 : decode cX12_feed 44 = .ok (.iload_n 2, 1) := by decide +kernel
theorem dX12_feed_45 : decode cX12_feed 45 = .ok (.goto 26, 3) := by decide +kernel
theorem dX12_feed_48 : decode cX12_feed 48 = .ok (.iload 6, 2) := by decide +kernel
theorem dX12_feed_50 : decode cX12_feed 50 = .ok (.iconst 2, 1) := by decide +kernel
theorem dX12_feed_51 : decode cX12_feed 51 = .ok (.if_icmp .ne 7, 3) := by decide +kernel
theorem dX12_feed_54 : decode cX12_feed 54 = .ok (.iload_n 3, 1) := by decide +kernel
theorem dX12_feed_55 : decode cX12_feed 55 = .ok (.goto 16, 3) := by decide +kernel
theorem dX12_feed_58 : decode cX12_feed 58 = .ok (.iload 6, 2) := by decide +kernel
theorem dX12_feed_60 : decode cX12_feed 60 = .ok (.iconst 3, 1) := by decide +kernel
theorem dX12_feed_61 : decode cX12_feed 61 = .ok (.if_icmp .ne 8, 3) := by decide +kernel
theorem dX12_feed_64 : decode cX12_feed 64 = .ok (.iload 4, 2) := by decide +kernel
theorem dX12_feed_66 : decode cX12_feed 66 = .ok (.goto 5, 3) := by decide +kernel
theorem dX12_feed_69 : decode cX12_feed 69 = .ok (.iload 5, 2) := by decide +kernel
theorem dX12_feed_71 : decode cX12_feed 71 = .ok (.istore 7, 2) := by decide +kernel
theorem dX12_feed_73 : decode cX12_feed 73 = .ok (.bipush 24, 2) := by decide +kernel
theorem dX12_feed_75 : decode cX12_feed 75 = .ok (.istore 8, 2) := by decide +kernel
theorem dX12_feed_77 : decode cX12_feed 77 = .ok (.iload 8, 2) := by decide +kernel
theorem dX12_feed_79 : decode cX12_feed 79 = .ok (.ifCond .lt 34, 3) := by decide +kernel
theorem dX12_feed_82 : decode cX12_feed 82 = .ok (.aload_n 0, 1) := by decide +kernel
theorem dX12_feed_83 : decode cX12_feed 83 = .ok (.getfield 38, 3) := by decide +kernel
theorem dX12_feed_86 : decode cX12_feed 86 = .ok (.aload_n 0, 1) := by decide +kernel
theorem dX12_feed_87 : decode cX12_feed 87 = .ok (.getfield 128, 3) := by decide +kernel
theorem dX12_feed_90 : decode cX12_feed 90 = .ok (.iload 7, 2) := by decide +kernel
theorem dX12_feed_92 : decode cX12_feed 92 = .ok (.iload 8, 2) := by decide +kernel
theorem dX12_feed_94 : decode cX12_feed 94 = .ok (.ishr, 1) := by decide +kernel
theorem dX12_feed_95 : decode cX12_feed 95 = .ok (.i2b, 1) := by decide +kernel
theorem dX12_feed_96 : decode cX12_feed 96 = .ok (.bastore, 1) := by decide +kernel
theorem dX12_feed_97 : decode cX12_feed 97 = .ok (.aload_n 0, 1) := by decide +kernel
theorem dX12_feed_98 : decode cX12_feed 98 = .ok (.dup, 1) := by decide +kernel
theorem dX12_feed_99 : decode cX12_feed 99 = .ok (.getfield 128, 3) := by decide +kernel
theorem dX12_feed_102 : decode cX12_feed 102 = .ok (.iconst 1, 1) := by decide +kernel
theorem dX12_feed_103 : decode cX12_feed 103 = .ok (.iadd, 1) := by decide +kernel
theorem dX12_feed_104 : decode cX12_feed 104 = .ok (.putfield 128, 3) := by decide +kernel
theorem dX12_feed_107 : decode cX12_feed 107 = .ok (.iinc 8 (-8), 3) := by decide +kernel
theorem dX12_feed_110 : decode cX12_feed 110 = .ok (.goto (-33), 3) := by decide +kernel
theorem dX12_feed_113 : decode cX12_feed 113 = .ok (.iinc 6 1, 3) := by decide +kernel
theorem dX12_feed_116 : decode cX12_feed 116 = .ok (.goto (-93), 3) := by decide +kernel
theorem dX12_feed_119 : decode cX12_feed 119 = .ok (.aload_n 0, 1) := by decide +kernel
theorem dX12_feed_120 : decode cX12_feed 120 = .ok (.getfield 128, 3) := by decide +kernel
theorem dX12_feed_123 : decode cX12_feed 123 = .ok (.ireturn, 1) := by decide +kernel
def f_X12_feed_77 (k23 : Int32 → Mo Int32) (r0 : Option Nat) (x1 : Int32) (x2 : Int32) (x3 : Int32) (x4 : Int32) (x5 : Int32) (x6 : Int32) (x7 : Int32) : Nat → Int32 → Mo Int32
  | 0, _ => mf
  | n + 1, x8 => (if x8 < 0 then k23 (x6 + 1) else mb (gR 15 14 r0) (fun v83 => mb (gI 15 15 r0) (fun v87 => mb (sI 0 v83 v87 (Int8.toInt32 (Int32.toInt8 (x7 >>> (x8 &&& 31))))) (fun _ => mb (gI 15 15 r0) (fun v99 => mb (pV 15 15 r0 (.int (v99 + (1 : Int32)))) (fun _ => (f_X12_feed_77 k23 r0 x1 x2 x3 x4 x5 x6 x7 n) (x8 + (-8))))))))
set_option maxRecDepth 100000 in
set_option maxHeartbeats 4000000 in
theorem s_X12_feed_77 {X : Cg} (cx : Cx X cX12_feed RX12 9) (hfr : 0 ≤ (xR X).frames) (hlo : 0 ≤ (xR X).locals) (hr : (xM X).sig.returnType = (some .int)) (r0 : Option Nat) (x1 : Int32) (x2 : Int32) (x3 : Int32) (x4 : Int32) (x5 : Int32) (x6 : Int32) (x7 : Int32) {k23 : Int32 → Mo Int32} (hk23 : ∀ (x6 : Int32), Sim X 9 (FiM X vI) 23 [(0, va_rf r0), (1, .int x1), (2, .int x2), (3, .int x3), (4, .int x4), (5, .int x5), (6, .int x6)] [] (k23 x6)) : ∀ (n : Nat) (x8 : Int32), Sim X 9 (FiM X vI) 77 [(0, va_rf r0), (1, .int x1), (2, .int x2), (3, .int x3), (4, .int x4), (5, .int x5), (6, .int x6), (7, .int x7), (8, .int x8)] [] (f_X12_feed_77 k23 r0 x1 x2 x3 x4 x5 x6 x7 n x8) := by
  intro n
  induction n with
  | zero =>
    intro _
    exact sm_mf
  | succ n ih =>
    intro x8
    rw [f_X12_feed_77]
    refine sm_iload cx 8 dX12_feed_77 rfl ?_
    refine sm_if_lt (tgt := 113) cx dX12_feed_79 (by decide) ?_ ?_
    · refine sm_iinc cx 6 [(6, .int (x6 + 1)), (0, va_rf r0), (1, .int x1), (2, .int x2), (3, .int x3), (4, .int x4), (5, .int x5), (7, .int x7), (8, .int x8)] dX12_feed_113 rfl rfl (by decide) rfl (nc1 rfl) rfl ?_
      refine sm_goto (tgt := 23) cx dX12_feed_116 (by decide) ?_
      exact sm_lv [1, 2, 3, 4, 5, 6, 0] rfl (hk23 (x6 + 1))
    · refine sm_aload_n cx 0 dX12_feed_82 rfl rfl ?_
      refine sm_getR cx fl_X12_38 dX12_feed_83 (fun v83 => ?_)
      refine sm_aload_n cx 0 dX12_feed_86 rfl rfl ?_
      refine sm_getI cx fl_X12_128 dX12_feed_87 (fun v87 => ?_)
      refine sm_iload cx 7 dX12_feed_90 rfl ?_
      refine sm_iload cx 8 dX12_feed_92 rfl ?_
      refine sm_ishr cx dX12_feed_94 ?_
      refine sm_i2b cx dX12_feed_95 ?_
      refine sm_bast cx dX12_feed_96 ?_
      refine sm_aload_n cx 0 dX12_feed_97 rfl rfl ?_
      refine sm_dup cx dX12_feed_98 (rf_cat _) ?_
      refine sm_getI cx fl_X12_128 dX12_feed_99 (fun v99 => ?_)
      refine sm_iconst (v := 1) cx dX12_feed_102 (by decide) ?_
      refine sm_iadd cx dX12_feed_103 ?_
      refine sm_putV cx fl_X12_128 rfl rfl dX12_feed_104 ?_
      refine sm_iinc cx 8 [(8, .int (x8 + (-8))), (0, va_rf r0), (1, .int x1), (2, .int x2), (3, .int x3), (4, .int x4), (5, .int x5), (6, .int x6), (7, .int x7)] dX12_feed_107 rfl rfl (by decide) rfl (nc1 rfl) rfl ?_
      refine sm_goto (tgt := 77) cx dX12_feed_110 (by decide) ?_
      exact sm_lv [1, 2, 3, 4, 5, 6, 7, 8, 0] rfl (ih (x8 + (-8)))
def f_X12_feed_71 (k23 : Int32 → Mo Int32) (r0 : Option Nat) (x1 : Int32) (x2 : Int32) (x3 : Int32) (x4 : Int32) (x5 : Int32) (x6 : Int32) (sx0 : Int32) : Mo Int32 := f_X12_feed_77 k23 r0 x1 x2 x3 x4 x5 x6 sx0 fuL (24 : Int32)
set_option maxRecDepth 100000 in
set_option maxHeartbeats 4000000 in
theorem s_X12_feed_71 {X : Cg} (cx : Cx X cX12_feed RX12 9) (hfr : 0 ≤ (xR X).frames) (hlo : 0 ≤ (xR X).locals) (hr : (xM X).sig.returnType = (some .int)) (r0 : Option Nat) (x1 : Int32) (x2 : Int32) (x3 : Int32) (x4 : Int32) (x5 : Int32) (x6 : Int32) (sx0 : Int32) {k23 : Int32 → Mo Int32} (hk23 : ∀ (x6 : Int32), Sim X 9 (FiM X vI) 23 [(0, va_rf r0), (1, .int x1), (2, .int x2), (3, .int x3), (4, .int x4), (5, .int x5), (6, .int x6)] [] (k23 x6)) : Sim X 9 (FiM X vI) 71 [(0, va_rf r0), (1, .int x1), (2, .int x2), (3, .int x3), (4, .int x4), (5, .int x5), (6, .int x6)] [.int sx0] (f_X12_feed_71 k23 r0 x1 x2 x3 x4 x5 x6 sx0) := by
  unfold f_X12_feed_71
  refine sm_istore cx [(7, .int sx0), (0, va_rf r0), (1, .int x1), (2, .int x2), (3, .int x3), (4, .int x4), (5, .int x5), (6, .int x6)] dX12_feed_71 (by decide) rfl (nc1 rfl) rfl ?_
  refine sm_bipush (v := 24) cx dX12_feed_73 (by decide) ?_
  refine sm_istore cx [(8, .int (24 : Int32)), (7, .int sx0), (0, va_rf r0), (1, .int x1), (2, .int x2), (3, .int x3), (4, .int x4), (5, .int x5), (6, .int x6)] dX12_feed_75 (by decide) rfl (nc1 rfl) rfl ?_
  exact sm_lv [2, 3, 4, 5, 6, 7, 8, 1, 0] rfl (s_X12_feed_77 cx hfr hlo hr r0 x1 x2 x3 x4 x5 x6 sx0 hk23 fuL (24 : Int32))
def f_X12_feed_23 (r0 : Option Nat) (x1 : Int32) (x2 : Int32) (x3 : Int32) (x4 : Int32) (x5 : Int32) : Nat → Int32 → Mo Int32
  | 0, _ => mf
  | n + 1, x6 => (if (5 : Int32) ≤ x6 then mb (gI 15 15 r0) (fun v120 => mp v120) else (if x6 = 0 then f_X12_feed_71 (f_X12_feed_23 r0 x1 x2 x3 x4 x5 n) r0 x1 x2 x3 x4 x5 x6 x1 else (if x6 = (1 : Int32) then f_X12_feed_71 (f_X12_feed_23 r0 x1 x2 x3 x4 x5 n) r0 x1 x2 x3 x4 x5 x6 x2 else (if x6 = (2 : Int32) then f_X12_feed_71 (f_X12_feed_23 r0 x1 x2 x3 x4 x5 n) r0 x1 x2 x3 x4 x5 x6 x3 else (if x6 = (3 : Int32) then f_X12_feed_71 (f_X12_feed_23 r0 x1 x2 x3 x4 x5 n) r0 x1 x2 x3 x4 x5 x6 x4 else f_X12_feed_71 (f_X12_feed_23 r0 x1 x2 x3 x4 x5 n) r0 x1 x2 x3 x4 x5 x6 x5)))))
set_option maxRecDepth 100000 in
set_option maxHeartbeats 4000000 in
theorem s_X12_feed_23 {X : Cg} (cx : Cx X cX12_feed RX12 9) (hfr : 0 ≤ (xR X).frames) (hlo : 0 ≤ (xR X).locals) (hr : (xM X).sig.returnType = (some .int)) (r0 : Option Nat) (x1 : Int32) (x2 : Int32) (x3 : Int32) (x4 : Int32) (x5 : Int32) : ∀ (n : Nat) (x6 : Int32), Sim X 9 (FiM X vI) 23 [(0, va_rf r0), (1, .int x1), (2, .int x2), (3, .int x3), (4, .int x4), (5, .int x5), (6, .int x6)] [] (f_X12_feed_23 r0 x1 x2 x3 x4 x5 n x6) := by
  intro n
  induction n with
  | zero =>
    intro _
    exact sm_mf
  | succ n ih =>
    intro x6
    rw [f_X12_feed_23]
    refine sm_iload cx 6 dX12_feed_23 rfl ?_
    refine sm_iconst (v := 5) cx dX12_feed_25 (by decide) ?_
    refine sm_icmp_ge (tgt := 119) cx dX12_feed_26 (by decide) ?_ ?_
    · refine sm_aload_n cx 0 dX12_feed_119 rfl rfl ?_
      refine sm_getI cx fl_X12_128 dX12_feed_120 (fun v120 => ?_)
      exact sm_iret cx hr dX12_feed_123
    · refine sm_iload cx 6 dX12_feed_29 rfl ?_
      refine sm_if_ne (tgt := 38) cx dX12_feed_31 (by decide) ?_ ?_
      · refine sm_iload cx 6 dX12_feed_38 rfl ?_
        refine sm_iconst (v := 1) cx dX12_feed_40 (by decide) ?_
        refine sm_icmp_ne (tgt := 48) cx dX12_feed_41 (by decide) ?_ ?_
        · refine sm_iload cx 6 dX12_feed_48 rfl ?_
          refine sm_iconst (v := 2) cx dX12_feed_50 (by decide) ?_
          refine sm_icmp_ne (tgt := 58) cx dX12_feed_51 (by decide) ?_ ?_
          · refine sm_iload cx 6 dX12_feed_58 rfl ?_
            refine sm_iconst (v := 3) cx dX12_feed_60 (by decide) ?_
            refine sm_icmp_ne (tgt := 69) cx dX12_feed_61 (by decide) ?_ ?_
            · refine sm_iload cx 5 dX12_feed_69 rfl ?_
              exact sm_lv [0, 1, 2, 3, 4, 5, 6] rfl (s_X12_feed_71 cx hfr hlo hr r0 x1 x2 x3 x4 x5 x6 x5 ih)
            · refine sm_iload cx 4 dX12_feed_64 rfl ?_
              refine sm_goto (tgt := 71) cx dX12_feed_66 (by decide) ?_
              exact sm_lv [0, 1, 2, 3, 4, 5, 6] rfl (s_X12_feed_71 cx hfr hlo hr r0 x1 x2 x3 x4 x5 x6 x4 ih)
          · refine sm_iload_n cx 3 dX12_feed_54 rfl rfl ?_
            refine sm_goto (tgt := 71) cx dX12_feed_55 (by decide) ?_
            exact sm_lv [0, 1, 2, 3, 4, 5, 6] rfl (s_X12_feed_71 cx hfr hlo hr r0 x1 x2 x3 x4 x5 x6 x3 ih)
        · refine sm_iload_n cx 2 dX12_feed_44 rfl rfl ?_
          refine sm_goto (tgt := 71) cx dX12_feed_45 (by decide) ?_
          exact sm_lv [0, 1, 2, 3, 4, 5, 6] rfl (s_X12_feed_71 cx hfr hlo hr r0 x1 x2 x3 x4 x5 x6 x2 ih)
      · refine sm_iload_n cx 1 dX12_feed_34 rfl rfl ?_
        refine sm_goto (tgt := 71) cx dX12_feed_35 (by decide) ?_
        exact sm_lv [0, 1, 2, 3, 4, 5, 6] rfl (s_X12_feed_71 cx hfr hlo hr r0 x1 x2 x3 x4 x5 x6 x1 ih)
def f_X12_feed (r0 : Option Nat) (x1 : Int32) (x2 : Int32) (x3 : Int32) (x4 : Int32) (x5 : Int32) : Mo Int32 := mb (pV 15 0 r0 (.int (0 : Int32))) (fun _ => mb (gI 15 15 r0) (fun v6 => (if (v6 + (20 : Int32)) ≤ (200 : Int32) then f_X12_feed_23 r0 x1 x2 x3 x4 x5 fuL (0 : Int32) else mp (-1 : Int32))))
set_option maxRecDepth 100000 in
set_option maxHeartbeats 4000000 in
theorem s_X12_feed {X : Cg} (cx : Cx X cX12_feed RX12 9) (hfr : 0 ≤ (xR X).frames) (hlo : 0 ≤ (xR X).locals) (hr : (xM X).sig.returnType = (some .int)) (r0 : Option Nat) (x1 : Int32) (x2 : Int32) (x3 : Int32) (x4 : Int32) (x5 : Int32) : Sim X 9 (FiM X vI) 0 [(0, va_rf r0), (1, .int x1), (2, .int x2), (3, .int x3), (4, .int x4), (5, .int x5)] [] (f_X12_feed r0 x1 x2 x3 x4 x5) := by
  unfold f_X12_feed
  refine sm_aload_n cx 0 dX12_feed_0 rfl rfl ?_
  refine sm_iconst (v := 0) cx dX12_feed_1 (by decide) ?_
  refine sm_putV cx fl_X12_97 rfl rfl dX12_feed_2 ?_
  refine sm_aload_n cx 0 dX12_feed_5 rfl rfl ?_
  refine sm_getI cx fl_X12_128 dX12_feed_6 (fun v6 => ?_)
  refine sm_bipush (v := 20) cx dX12_feed_9 (by decide) ?_
  refine sm_iadd cx dX12_feed_11 ?_
  refine sm_sipush (v := 200) cx dX12_feed_12 (by decide) ?_
  refine sm_icmp_le (tgt := 20) cx dX12_feed_15 (by decide) ?_ ?_
  · refine sm_iconst (v := 0) cx dX12_feed_20 (by decide) ?_
    refine sm_istore cx [(6, .int (0 : Int32)), (0, va_rf r0), (1, .int x1), (2, .int x2), (3, .int x3), (4, .int x4), (5, .int x5)] dX12_feed_21 (by decide) rfl (nc1 rfl) rfl ?_
    exact sm_lv [1, 2, 3, 4, 5, 6, 0] rfl (s_X12_feed_23 cx hfr hlo hr r0 x1 x2 x3 x4 x5 fuL (0 : Int32))
  · refine sm_iconst (v := -1) cx dX12_feed_18 (by decide) ?_
    exact sm_iret cx hr dX12_feed_19
set_option maxRecDepth 100000 in
set_option maxHeartbeats 4000000 in
theorem ct_X12_feed (Z : Nat → Nat) {r0 : Option Nat} (a0 : Nat) (h0 : r0 = some a0) (x1 : Int32) (x2 : Int32) (x3 : Int32) (x4 : Int32) (x5 : Int32) : Ct yX12_feed cX12_feed 9 (some .int) 0 0 Z [.ref a0, .int x1, .int x2, .int x3, .int x4, .int x5] vI (f_X12_feed r0 x1 x2 x3 x4 x5) := by
  subst h0
  refine ct_of (lv0 := [(0, va_rf (some a0)), (1, .int x1), (2, .int x2), (3, .int x3), (4, .int x4), (5, .int x5)]) (by decide +kernel) (by simp [lg_sl, ct_i, ct_l, ct_r, rf_cat]) (by show _ = ([(0, Value.ref a0), (1, .int x1), (2, .int x2), (3, .int x3), (4, .int x4), (5, .int x5)] : List (Nat × Value)); simp [lv_args, ct_i, ct_l, ct_r, rf_cat]) (fun X cx hZ hfr hlo hr hin => ?_)
  subst hZ
  exact s_X12_feed cx (Nat.le_of_eq hfr.symm) (Nat.le_of_eq hlo.symm) hr (some a0) x1 x2 x3 x4 x5
end
section
theorem fl_X12_131 : FldOk RX12 131 15 16 .int false true := ⟨RX12, TX12, 47, "PolicyTreeModel", tyX12, rfl, by decide, inT_X12, tyX12_ok, nmX12, wd_6_143, Or.inl rfl, tyX12_ok 16 (by decide), rfl, fun _ => rfl⟩
theorem fl_X12_134 : FldOk RX12 134 15 17 .int false true := ⟨RX12, TX12, 47, "PolicyTreeModel", tyX12, rfl, by decide, inT_X12, tyX12_ok, nmX12, wd_6_144, Or.inl rfl, tyX12_ok 17 (by decide), rfl, fun _ => rfl⟩
theorem fl_X12_140 : FldOk RX12 140 15 18 .int false true := ⟨RX12, TX12, 47, "PolicyTreeModel", tyX12, rfl, by decide, inT_X12, tyX12_ok, nmX12, wd_6_145, Or.inl rfl, tyX12_ok 18 (by decide), rfl, fun _ => rfl⟩
theorem fl_X12_160 : FldOk RX12 160 15 22 .int false true := ⟨RX12, TX12, 47, "PolicyTreeModel", tyX12, rfl, by decide, inT_X12, tyX12_ok, nmX12, wd_6_149, Or.inl rfl, tyX12_ok 22 (by decide), rfl, fun _ => rfl⟩
theorem fl_X12_180 : FldOk RX12 180 15 20 .int false true := ⟨RX12, TX12, 47, "PolicyTreeModel", tyX12, rfl, by decide, inT_X12, tyX12_ok, nmX12, wd_6_147, Or.inl rfl, tyX12_ok 20 (by decide), rfl, fun _ => rfl⟩
theorem cv_X12_137 : CalV RX12 137 RX12 yX12_byteAt cX12_byteAt 2 (some .int) 1 := ⟨wd_V wd_7_113 wd_7_115 wp_3_4 wd_1_16 wd_7_116, rfl, by decide +kernel, by decide +kernel, by decide +kernel⟩
theorem cv_X12_146 : CalV RX12 146 RJ0 yJ0_length_8abf5 cJ0_length_8abf5 1 (some .int) 0 := ⟨wd_V wd_7_134 wd_4_127 wd_4_128 wd_1_27 wd_4_129, rfl, by decide +kernel, by decide +kernel, by decide +kernel⟩
theorem cv_X12_152 : CalV RX12 152 RJ0 yJ0_charAt_5068e cJ0_charAt_5068e 2 (some .char) 1 := ⟨wd_V wd_7_135 wd_4_137 wd_4_138 wd_1_27 wd_4_139, rfl, by decide +kernel, by decide +kernel, by decide +kernel⟩
theorem cv_X12_143 : CalV RX12 143 RX12 yX12_blanks cX12_blanks 1 none 0 := ⟨wd_V wd_7_109 wd_7_111 wp_3_3 wd_1_16 wd_7_112, rfl, by decide +kernel, by decide +kernel, by decide +kernel⟩
theorem cv_X12_156 : CalV RX12 156 RX12 yX12_isWord cX12_isWord 3 (some .boolean) 1 := ⟨wd_V wd_7_130 wd_7_132 wp_3_8 wd_1_16 wd_7_133, rfl, by decide +kernel, by decide +kernel, by decide +kernel⟩
theorem cv_X12_183 : CalV RX12 183 RX12 yX12_wrong cX12_wrong 3 none 2 := ⟨wd_V wd_7_140 wd_7_142 wp_3_10 wd_1_16 wd_7_143, rfl, by decide +kernel, by decide +kernel, by decide +kernel⟩
theorem cv_X12_171 : CalV RX12 171 RX12 yX12_emits cX12_emits 4 none 1 := ⟨wd_V wd_7_144 wd_7_146 wp_3_11 wd_1_16 wd_7_147, rfl, by decide +kernel, by decide +kernel, by decide +kernel⟩
theorem cv_X12_168 : CalV RX12 168 RX12 yX12_eat cX12_eat 3 (some .boolean) 1 := ⟨wd_V wd_7_149 wd_7_151 wp_3_12 wd_1_16 wd_7_152, rfl, by decide +kernel, by decide +kernel, by decide +kernel⟩
theorem cv_X12_198 : CalV RX12 198 RX12 yX12_number cX12_number 5 none 2 := ⟨wd_V wd_7_153 wd_7_155 wp_3_13 wd_1_16 wd_7_156, rfl, by decide +kernel, by decide +kernel, by decide +kernel⟩
theorem cv_X12_189 : CalV RX12 189 RX12 yX12_opens cX12_opens 1 (some .boolean) 0 := ⟨wd_V wd_7_136 wd_7_138 wp_3_9 wd_1_16 wd_7_139, rfl, by decide +kernel, by decide +kernel, by decide +kernel⟩
theorem cv_X12_193 : CalV RX12 193 RX12 yX12_any cX12_any 1 none 0 := ⟨wd_V wd_7_117 wd_7_119 wp_3_5 wd_1_16 wd_7_120, rfl, by decide +kernel, by decide +kernel, by decide +kernel⟩
theorem cv_X12_175 : CalV RX12 175 RX12 yX12_one cX12_one 1 none 0 := ⟨wd_V wd_7_125 wd_7_127 wp_3_7 wd_1_16 wd_7_128, rfl, by decide +kernel, by decide +kernel, by decide +kernel⟩
theorem cv_X12_163 : CalV RX12 163 RX12 yX12_all cX12_all 1 none 0 := ⟨wd_V wd_7_121 wd_7_123 wp_3_6 wd_1_16 wd_7_124, rfl, by decide +kernel, by decide +kernel, by decide +kernel⟩
/-! PolicyTreeModel.byteAt(I)I -/
theorem dX12_byteAt_0 : decode cX12_byteAt 0 = .ok (.iload_n 1, 1) := by decide +kernel
theorem dX12_byteAt_1 : decode cX12_byteAt 1 = .ok (.aload_n 0, 1) := by decide +kernel
theorem dX12_byteAt_2 : decode cX12_byteAt 2 = .ok (.getfield 131, 3) := by decide +kernel
theorem dX12_byteAt_5 : decode cX12_byteAt 5 = .ok (.if_icmp .ge 16, 3) := by decide +kernel
theorem dX12_byteAt_8 : decode cX12_byteAt 8 = .ok (.aload_n 0, 1) := by decide +kernel
theorem dX12_byteAt_9 : decode cX12_byteAt 9 = .ok (.getfield 38, 3) := by decide +kernel
theorem dX12_byteAt_12 : decode cX12_byteAt 12 = .ok (.iload_n 1, 1) := by decide +kernel
theorem dX12_byteAt_13 : decode cX12_byteAt 13 = .ok (.baload, 1) := by decide +kernel
theorem dX12_byteAt_14 : decode cX12_byteAt 14 = .ok (.sipush 255, 3) := by decide +kernel
theorem dX12_byteAt_17 : decode cX12_byteAt 17 = .ok (.iand, 1) := by decide +kernel
theorem dX12_byteAt_18 : decode cX12_byteAt 18 = .ok (.goto 4, 3) := by decide +kernel
theorem dX12_byteAt_21 : decode cX12_byteAt 21 = .ok (.iconst 0, 1) := by decide +kernel
theorem dX12_byteAt_22 : decode cX12_byteAt 22 = .ok (.ireturn, 1) := by decide +kernel
def f_X12_byteAt_22 (sx0 : Int32) : Mo Int32 := mp sx0
set_option maxRecDepth 100000 in
set_option maxHeartbeats 4000000 in
theorem s_X12_byteAt_22 {X : Cg} (cx : Cx X cX12_byteAt RX12 2) (hfr : 0 ≤ (xR X).frames) (hlo : 0 ≤ (xR X).locals) (hr : (xM X).sig.returnType = (some .int)) (sx0 : Int32) : Sim X 2 (FiM X vI) 22 [] [.int sx0] (f_X12_byteAt_22 sx0) := by
  unfold f_X12_byteAt_22
  exact sm_iret cx hr dX12_byteAt_22
def f_X12_byteAt (r0 : Option Nat) (x1 : Int32) : Mo Int32 := mb (gI 15 16 r0) (fun v2 => (if v2 ≤ x1 then f_X12_byteAt_22 (0 : Int32) else mb (gR 15 14 r0) (fun v9 => mb (aI 0 v9 x1) (fun v13 => f_X12_byteAt_22 (v13 &&& (255 : Int32))))))
set_option maxRecDepth 100000 in
set_option maxHeartbeats 4000000 in
theorem s_X12_byteAt {X : Cg} (cx : Cx X cX12_byteAt RX12 2) (hfr : 0 ≤ (xR X).frames) (hlo : 0 ≤ (xR X).locals) (hr : (xM X).sig.returnType = (some .int)) (r0 : Option Nat) (x1 : Int32) : Sim X 2 (FiM X vI) 0 [(0, va_rf r0), (1, .int x1)] [] (f_X12_byteAt r0 x1) := by
  unfold f_X12_byteAt
  refine sm_iload_n cx 1 dX12_byteAt_0 rfl rfl ?_
  refine sm_aload_n cx 0 dX12_byteAt_1 rfl rfl ?_
  refine sm_getI cx fl_X12_131 dX12_byteAt_2 (fun v2 => ?_)
  refine sm_icmp_ge (tgt := 21) cx dX12_byteAt_5 (by decide) ?_ ?_
  · refine sm_iconst (v := 0) cx dX12_byteAt_21 (by decide) ?_
    exact sm_lv [] rfl (s_X12_byteAt_22 cx hfr hlo hr (0 : Int32))
  · refine sm_aload_n cx 0 dX12_byteAt_8 rfl rfl ?_
    refine sm_getR cx fl_X12_38 dX12_byteAt_9 (fun v9 => ?_)
    refine sm_iload_n cx 1 dX12_byteAt_12 rfl rfl ?_
    refine sm_bald cx dX12_byteAt_13 (fun v13 => ?_)
    refine sm_sipush (v := 255) cx dX12_byteAt_14 (by decide) ?_
    refine sm_iand cx dX12_byteAt_17 ?_
    refine sm_goto (tgt := 22) cx dX12_byteAt_18 (by decide) ?_
    exact sm_lv [] rfl (s_X12_byteAt_22 cx hfr hlo hr (v13 &&& (255 : Int32)))
set_option maxRecDepth 100000 in
set_option maxHeartbeats 4000000 in
theorem ct_X12_byteAt (Z : Nat → Nat) {r0 : Option Nat} (a0 : Nat) (h0 : r0 = some a0) (x1 : Int32) : Ct yX12_byteAt cX12_byteAt 2 (some .int) 0 0 Z [.ref a0, .int x1] vI (f_X12_byteAt r0 x1) := by
  subst h0
  refine ct_of (lv0 := [(0, va_rf (some a0)), (1, .int x1)]) (by decide +kernel) (by simp [lg_sl, ct_i, ct_l, ct_r, rf_cat]) (by show _ = ([(0, Value.ref a0), (1, .int x1)] : List (Nat × Value)); simp [lv_args, ct_i, ct_l, ct_r, rf_cat]) (fun X cx hZ hfr hlo hr hin => ?_)
  subst hZ
  exact s_X12_byteAt cx (Nat.le_of_eq hfr.symm) (Nat.le_of_eq hlo.symm) hr (some a0) x1
/-! PolicyTreeModel.blanks()V -/
theorem dX12_blanks_0 : decode cX12_blanks 0 = .ok (.aload_n 0, 1) := by decide +kernel
theorem dX12_blanks_1 : decode cX12_blanks 1 = .ok (.getfield 134, 3) := by decide +kernel
theorem dX12_blanks_4 : decode cX12_blanks 4 = .ok (.aload_n 0, 1) := by decide +kernel
theorem dX12_blanks_5 : decode cX12_blanks 5 = .ok (.getfield 131, 3) := by decide +kernel
theorem dX12_blanks_8 : decode cX12_blanks 8 = .ok (.if_icmp .ge 29, 3) := by decide +kernel
theorem dX12_blanks_11 : decode cX12_blanks 11 = .ok (.aload_n 0, 1) := by decide +kernel
theorem dX12_blanks_12 : decode cX12_blanks 12 = .ok (.aload_n 0, 1) := by decide +kernel
theorem dX12_blanks_13 : decode cX12_blanks 13 = .ok (.getfield 134, 3) := by decide +kernel
theorem dX12_blanks_16 : decode cX12_blanks 16 = .ok (.invokevirtual 137, 3) := by decide +kernel
theorem dX12_blanks_19 : decode cX12_blanks 19 = .ok (.bipush 32, 2) := by decide +kernel
theorem dX12_blanks_21 : decode cX12_blanks 21 = .ok (.if_icmp .ne 16, 3) := by decide +kernel
theorem dX12_blanks_24 : decode cX12_blanks 24 = .ok (.aload_n 0, 1) := by decide +kernel
theorem dX12_blanks_25 : decode cX12_blanks 25 = .ok (.dup, 1) := by decide +kernel
theorem dX12_blanks_26 : decode cX12_blanks 26 = .ok (.getfield 134, 3) := by decide +kernel
theorem dX12_blanks_29 : decode cX12_blanks 29 = .ok (.iconst 1, 1) := by decide +kernel
theorem dX12_blanks_30 : decode cX12_blanks 30 = .ok (.iadd, 1) := by decide +kernel
theorem dX12_blanks_31 : decode cX12_blanks 31 = .ok (.putfield 134, 3) := by decide +kernel
theorem dX12_blanks_34 : decode cX12_blanks 34 = .ok (.goto (-34), 3) := by decide +kernel
theorem dX12_blanks_37 : decode cX12_blanks 37 = .ok (.return_, 1) := by decide +kernel
def f_X12_blanks_37 : Mo Unit := mp ()
set_option maxRecDepth 100000 in
set_option maxHeartbeats 4000000 in
theorem s_X12_blanks_37 {X : Cg} (cx : Cx X cX12_blanks RX12 1) (hfr : 1 ≤ (xR X).frames) (hlo : 21 ≤ (xR X).locals) (hr : (xM X).sig.returnType = none) : Sim X 1 (FiM X vV) 37 [] [] (f_X12_blanks_37) := by
  unfold f_X12_blanks_37
  exact sm_vret cx hr dX12_blanks_37
def f_X12_blanks_0 (r0 : Option Nat) : Nat → Mo Unit
  | 0 => mf
  | n + 1 => mb (gI 15 17 r0) (fun v1 => mb (gI 15 16 r0) (fun v5 => (if v5 ≤ v1 then f_X12_blanks_37 else mb (gI 15 17 r0) (fun v13 => mb (mo 15 r0 (f_X12_byteAt r0 v13)) (fun v16 => (if v16 = (32 : Int32) then mb (gI 15 17 r0) (fun v26 => mb (pV 15 17 r0 (.int (v26 + (1 : Int32)))) (fun _ => (f_X12_blanks_0 r0 n))) else f_X12_blanks_37))))))
set_option maxRecDepth 100000 in
set_option maxHeartbeats 4000000 in
theorem s_X12_blanks_0 {X : Cg} (cx : Cx X cX12_blanks RX12 1) (hfr : 1 ≤ (xR X).frames) (hlo : 21 ≤ (xR X).locals) (hr : (xM X).sig.returnType = none) (r0 : Option Nat) : ∀ (n : Nat), Sim X 1 (FiM X vV) 0 [(0, va_rf r0)] [] (f_X12_blanks_0 r0 n) := by
  intro n
  induction n with
  | zero =>
    exact sm_mf
  | succ n ih =>
    rw [f_X12_blanks_0]
    refine sm_aload_n cx 0 dX12_blanks_0 rfl rfl ?_
    refine sm_getI cx fl_X12_134 dX12_blanks_1 (fun v1 => ?_)
    refine sm_aload_n cx 0 dX12_blanks_4 rfl rfl ?_
    refine sm_getI cx fl_X12_131 dX12_blanks_5 (fun v5 => ?_)
    refine sm_icmp_ge (tgt := 37) cx dX12_blanks_8 (by decide) ?_ ?_
    · exact sm_lv [] rfl (s_X12_blanks_37 cx hfr hlo hr)
    · refine sm_aload_n cx 0 dX12_blanks_11 rfl rfl ?_
      refine sm_aload_n cx 0 dX12_blanks_12 rfl rfl ?_
      refine sm_getI cx fl_X12_134 dX12_blanks_13 (fun v13 => ?_)
      refine sm_callV (T := TX12) (N := 47) (toV := vI) cx [.int v13] rfl cv_X12_137 (fun a h => ct_X12_byteAt (xZ X) a h v13) (Nat.le_trans (by decide) hfr) (Nat.le_trans (by decide) hlo) rfl (cat_le _ (Nat.le_of_ble_eq_true rfl)) dX12_blanks_16 (fun v16 => ?_)
      refine sm_bipush (v := 32) cx dX12_blanks_19 (by decide) ?_
      refine sm_icmp_ne (tgt := 37) cx dX12_blanks_21 (by decide) ?_ ?_
      · exact sm_lv [] rfl (s_X12_blanks_37 cx hfr hlo hr)
      · refine sm_aload_n cx 0 dX12_blanks_24 rfl rfl ?_
        refine sm_dup cx dX12_blanks_25 (rf_cat _) ?_
        refine sm_getI cx fl_X12_134 dX12_blanks_26 (fun v26 => ?_)
        refine sm_iconst (v := 1) cx dX12_blanks_29 (by decide) ?_
        refine sm_iadd cx dX12_blanks_30 ?_
        refine sm_putV cx fl_X12_134 rfl rfl dX12_blanks_31 ?_
        refine sm_goto (tgt := 0) cx dX12_blanks_34 (by decide) ?_
        exact sm_lv [0] rfl (ih)
def f_X12_blanks (r0 : Option Nat) : Mo Unit := f_X12_blanks_0 r0 fuL
set_option maxRecDepth 100000 in
set_option maxHeartbeats 4000000 in
theorem s_X12_blanks {X : Cg} (cx : Cx X cX12_blanks RX12 1) (hfr : 1 ≤ (xR X).frames) (hlo : 21 ≤ (xR X).locals) (hr : (xM X).sig.returnType = none) (r0 : Option Nat) : Sim X 1 (FiM X vV) 0 [(0, va_rf r0)] [] (f_X12_blanks r0) := by
  unfold f_X12_blanks
  exact sm_lv [0] rfl (s_X12_blanks_0 cx hfr hlo hr r0 fuL)
set_option maxRecDepth 100000 in
set_option maxHeartbeats 4000000 in
theorem ct_X12_blanks (Z : Nat → Nat) {r0 : Option Nat} (a0 : Nat) (h0 : r0 = some a0) : Ct yX12_blanks cX12_blanks 1 none 1 21 Z [.ref a0] vV (f_X12_blanks r0) := by
  subst h0
  refine ct_of (lv0 := [(0, va_rf (some a0))]) (by decide +kernel) (by simp [lg_sl, ct_i, ct_l, ct_r, rf_cat]) (by show _ = ([(0, Value.ref a0)] : List (Nat × Value)); simp [lv_args, ct_i, ct_l, ct_r, rf_cat]) (fun X cx hZ hfr hlo hr hin => ?_)
  subst hZ
  exact s_X12_blanks cx (Nat.le_of_eq hfr.symm) (Nat.le_of_eq hlo.symm) hr (some a0)
/-! PolicyTreeModel.wrong(II)V -/
theorem dX12_wrong_0 : decode cX12_wrong 0 = .ok (.aload_n 0, 1) := by decide +kernel
theorem dX12_wrong_1 : decode cX12_wrong 1 = .ok (.getfield 140, 3) := by decide +kernel
theorem dX12_wrong_4 : decode cX12_wrong 4 = .ok (.ifCond .le 4, 3) := by decide +kernel
theorem dX12_wrong_7 : decode cX12_wrong 7 = .ok (.return_, 1) := by decide +kernel
theorem dX12_wrong_8 : decode cX12_wrong 8 = .ok (.aload_n 0, 1) := by decide +kernel
theorem dX12_wrong_9 : decode cX12_wrong 9 = .ok (.iload_n 1, 1) := by decide +kernel
theorem dX12_wrong_10 : decode cX12_wrong 10 = .ok (.putfield 140, 3) := by decide +kernel
theorem dX12_wrong_13 : decode cX12_wrong 13 = .ok (.aload_n 0, 1) := by decide +kernel
theorem dX12_wrong_14 : decode cX12_wrong 14 = .ok (.iload_n 2, 1) := by decide +kernel
theorem dX12_wrong_15 : decode cX12_wrong 15 = .ok (.putfield 42, 3) := by decide +kernel
theorem dX12_wrong_18 : decode cX12_wrong 18 = .ok (.return_, 1) := by decide +kernel
def f_X12_wrong (r0 : Option Nat) (x1 : Int32) (x2 : Int32) : Mo Unit := mb (gI 15 18 r0) (fun v1 => (if v1 ≤ 0 then mb (pV 15 18 r0 (.int x1)) (fun _ => mb (pV 15 19 r0 (.int x2)) (fun _ => mp ())) else mp ()))
set_option maxRecDepth 100000 in
set_option maxHeartbeats 4000000 in
theorem s_X12_wrong {X : Cg} (cx : Cx X cX12_wrong RX12 3) (hfr : 0 ≤ (xR X).frames) (hlo : 0 ≤ (xR X).locals) (hr : (xM X).sig.returnType = none) (r0 : Option Nat) (x1 : Int32) (x2 : Int32) : Sim X 3 (FiM X vV) 0 [(0, va_rf r0), (1, .int x1), (2, .int x2)] [] (f_X12_wrong r0 x1 x2) := by
  unfold f_X12_wrong
  refine sm_aload_n cx 0 dX12_wrong_0 rfl rfl ?_
  refine sm_getI cx fl_X12_140 dX12_wrong_1 (fun v1 => ?_)
  refine sm_if_le (tgt := 8) cx dX12_wrong_4 (by decide) ?_ ?_
  · refine sm_aload_n cx 0 dX12_wrong_8 rfl rfl ?_
    refine sm_iload_n cx 1 dX12_wrong_9 rfl rfl ?_
    refine sm_putV cx fl_X12_140 rfl rfl dX12_wrong_10 ?_
    refine sm_aload_n cx 0 dX12_wrong_13 rfl rfl ?_
    refine sm_iload_n cx 2 dX12_wrong_14 rfl rfl ?_
    refine sm_putV cx fl_X12_42 rfl rfl dX12_wrong_15 ?_
    exact sm_vret cx hr dX12_wrong_18
  · exact sm_vret cx hr dX12_wrong_7
set_option maxRecDepth 100000 in
set_option maxHeartbeats 4000000 in
theorem ct_X12_wrong (Z : Nat → Nat) {r0 : Option Nat} (a0 : Nat) (h0 : r0 = some a0) (x1 : Int32) (x2 : Int32) : Ct yX12_wrong cX12_wrong 3 none 0 0 Z [.ref a0, .int x1, .int x2] vV (f_X12_wrong r0 x1 x2) := by
  subst h0
  refine ct_of (lv0 := [(0, va_rf (some a0)), (1, .int x1), (2, .int x2)]) (by decide +kernel) (by simp [lg_sl, ct_i, ct_l, ct_r, rf_cat]) (by show _ = ([(0, Value.ref a0), (1, .int x1), (2, .int x2)] : List (Nat × Value)); simp [lv_args, ct_i, ct_l, ct_r, rf_cat]) (fun X cx hZ hfr hlo hr hin => ?_)
  subst hZ
  exact s_X12_wrong cx (Nat.le_of_eq hfr.symm) (Nat.le_of_eq hlo.symm) hr (some a0) x1 x2
/-! PolicyTreeModel.isWord(Ljava/lang/String;)Z -/
theorem dX12_isWord_0 : decode cX12_isWord 0 = .ok (.aload_n 0, 1) := by decide +kernel
theorem dX12_isWord_1 : decode cX12_isWord 1 = .ok (.invokevirtual 143, 3) := by decide +kernel
theorem dX12_isWord_4 : decode cX12_isWord 4 = .ok (.iconst 0, 1) := by decide +kernel
theorem dX12_isWord_5 : decode cX12_isWord 5 = .ok (.istore_n 2, 1) := by decide +kernel
theorem dX12_isWord_6 : decode cX12_isWord 6 = .ok (.iload_n 2, 1) := by decide +kernel
theorem dX12_isWord_7 : decode cX12_isWord 7 = .ok (.aload_n 1, 1) := by decide +kernel
theorem dX12_isWord_8 : decode cX12_isWord 8 = .ok (.invokevirtual 146, 3) := by decide +kernel
theorem dX12_isWord_11 : decode cX12_isWord 11 = .ok (.if_icmp .ge 29, 3) := by decide +kernel
theorem dX12_isWord_14 : decode cX12_isWord 14 = .ok (.aload_n 0, 1) := by decide +kernel
theorem dX12_isWord_15 : decode cX12_isWord 15 = .ok (.aload_n 0, 1) := by decide +kernel
theorem dX12_isWord_16 : decode cX12_isWord 16 = .ok (.getfield 134, 3) := by decide +kernel
theorem dX12_isWord_19 : decode cX12_isWord 19 = .ok (.iload_n 2, 1) := by decide +kernel
theorem dX12_isWord_20 : decode cX12_isWord 20 = .ok (.iadd, 1) := by decide +kernel
theorem dX12_isWord_21 : decode cX12_isWord 21 = .ok (.invokevirtual 137, 3) := by decide +kernel
theorem dX12_isWord_24 : decode cX12_isWord 24 = .ok (.aload_n 1, 1) := by decide +kernel
theorem dX12_isWord_25 : decode cX12_isWord 25 = .ok (.iload_n 2, 1) := by decide +kernel
theorem dX12_isWord_26 : decode cX12_isWord 26 = .ok (.invokevirtual 152, 3) := by decide +kernel
theorem dX12_isWord_29 : decode cX12_isWord 29 = .ok (.if_icmp .eq 5, 3) := by decide +kernel
theorem dX12_isWord_32 : decode cX12_isWord 32 = .ok (.iconst 0, 1) := by decide +kernel
theorem dX12_isWord_33 : decode cX12_isWord 33 = .ok (.ireturn, 1) := by decide +kernel
theorem dX12_isWord_34 : decode cX12_isWord 34 = .ok (.iinc 2 1, 3) := by decide +kernel
theorem dX12_isWord_37 : decode cX12_isWord 37 = .ok (.goto (-31), 3) := by decide +kernel
theorem dX12_isWord_40 : decode cX12_isWord 40 = .ok (.aload_n 0, 1) := by decide +kernel
theorem dX12_isWord_41 : decode cX12_isWord 41 = .ok (.aload_n 0, 1) := by decide +kernel
theorem dX12_isWord_42 : decode cX12_isWord 42 = .ok (.getfield 134, 3) := by decide +kernel
theorem dX12_isWord_45 : decode cX12_isWord 45 = .ok (.aload_n 1, 1) := by decide +kernel
theorem dX12_isWord_46 : decode cX12_isWord 46 = .ok (.invokevirtual 146, 3) := by decide +kernel
theorem dX12_isWord_49 : decode cX12_isWord 49 = .ok (.iadd, 1) := by decide +kernel
theorem dX12_isWord_50 : decode cX12_isWord 50 = .ok (.invokevirtual 137, 3) := by decide +kernel
theorem dX12_isWord_53 : decode cX12_isWord 53 = .ok (.istore_n 2, 1) := by decide +kernel
theorem dX12_isWord_54 : decode cX12_isWord 54 = .ok (.iload_n 2, 1) := by decide +kernel
theorem dX12_isWord_55 : decode cX12_isWord 55 = .ok (.bipush 97, 2) := by decide +kernel
theorem dX12_isWord_57 : decode cX12_isWord 57 = .ok (.if_icmp .lt 9, 3) := by decide +kernel
theorem dX12_isWord_60 : decode cX12_isWord 60 = .ok (.iload_n 2, 1) := by decide +kernel
theorem dX12_isWord_61 : decode cX12_isWord 61 = .ok (.bipush 122, 2) := by decide +kernel
theorem dX12_isWord_63 : decode cX12_isWord 63 = .ok (.if_icmp .le 7, 3) := by decide +kernel
theorem dX12_isWord_66 : decode cX12_isWord 66 = .ok (.iconst 1, 1) := by decide +kernel
theorem dX12_isWord_67 : decode cX12_isWord 67 = .ok (.goto 4, 3) := by decide +kernel
theorem dX12_isWord_70 : decode cX12_isWord 70 = .ok (.iconst 0, 1) := by decide +kernel
theorem dX12_isWord_71 : decode cX12_isWord 71 = .ok (.ireturn, 1) := by decide +kernel
def f_X12_isWord_71 (Z : Nat → Nat) (sx0 : Int32) : Mo Int32 := rz .boolean sx0
set_option maxRecDepth 100000 in
set_option maxHeartbeats 4000000 in
theorem s_X12_isWord_71 {X : Cg} (cx : Cx X cX12_isWord RX12 3) (hfr : 4 ≤ (xR X).frames) (hlo : 85 ≤ (xR X).locals) (hr : (xM X).sig.returnType = (some .boolean)) (sx0 : Int32) : Sim X 3 (FiM X vI) 71 [] [.int sx0] (f_X12_isWord_71 (xZ X) sx0) := by
  unfold f_X12_isWord_71
  exact sm_zret cx hr dX12_isWord_71
def f_X12_isWord_66 (Z : Nat → Nat) : Mo Int32 := f_X12_isWord_71 Z (1 : Int32)
set_option maxRecDepth 100000 in
set_option maxHeartbeats 4000000 in
theorem s_X12_isWord_66 {X : Cg} (cx : Cx X cX12_isWord RX12 3) (hfr : 4 ≤ (xR X).frames) (hlo : 85 ≤ (xR X).locals) (hr : (xM X).sig.returnType = (some .boolean)) : Sim X 3 (FiM X vI) 66 [] [] (f_X12_isWord_66 (xZ X)) := by
  unfold f_X12_isWord_66
  refine sm_iconst (v := 1) cx dX12_isWord_66 (by decide) ?_
  refine sm_goto (tgt := 71) cx dX12_isWord_67 (by decide) ?_
  exact sm_lv [] rfl (s_X12_isWord_71 cx hfr hlo hr (1 : Int32))
def f_X12_isWord_6 (Z : Nat → Nat) (r0 : Option Nat) (r1 : Option Nat) : Nat → Int32 → Mo Int32
  | 0, _ => mf
  | n + 1, x2 => mb (moS Z r1 (f_J0_length_8abf5 Z r1)) (fun v8 => (if v8 ≤ x2 then mb (gI 15 17 r0) (fun v42 => mb (moS Z r1 (f_J0_length_8abf5 Z r1)) (fun v46 => mb (mo 15 r0 (f_X12_byteAt r0 (v42 + v46))) (fun v50 => (if v50 < (97 : Int32) then f_X12_isWord_66 Z else (if v50 ≤ (122 : Int32) then f_X12_isWord_71 Z (0 : Int32) else f_X12_isWord_66 Z))))) else mb (gI 15 17 r0) (fun v16 => mb (mo 15 r0 (f_X12_byteAt r0 (v16 + x2))) (fun v21 => mb (moS Z r1 (f_J0_charAt_5068e Z r1 x2)) (fun v26 => (if v21 = v26 then (f_X12_isWord_6 Z r0 r1 n) (x2 + 1) else rz .boolean (0 : Int32)))))))
set_option maxRecDepth 100000 in
set_option maxHeartbeats 4000000 in
theorem s_X12_isWord_6 {X : Cg} (cx : Cx X cX12_isWord RX12 3) (hfr : 4 ≤ (xR X).frames) (hlo : 85 ≤ (xR X).locals) (hr : (xM X).sig.returnType = (some .boolean)) (r0 : Option Nat) (r1 : Option Nat) : ∀ (n : Nat) (x2 : Int32), Sim X 3 (FiM X vI) 6 [(0, va_rf r0), (1, va_rf r1), (2, .int x2)] [] (f_X12_isWord_6 (xZ X) r0 r1 n x2) := by
  intro n
  induction n with
  | zero =>
    intro _
    exact sm_mf
  | succ n ih =>
    intro x2
    rw [f_X12_isWord_6]
    refine sm_iload_n cx 2 dX12_isWord_6 rfl rfl ?_
    refine sm_aload_n cx 1 dX12_isWord_7 rfl rfl ?_
    refine sm_callW (toV := vI) cx [] cv_X12_146 (fun a h => ct_J0_length_8abf5 (xZ X) a h) (Nat.le_trans (by decide) hfr) (Nat.le_trans (by decide) hlo) rfl (cat_le _ (Nat.le_of_ble_eq_true rfl)) dX12_isWord_8 (fun v8 => ?_)
    refine sm_icmp_ge (tgt := 40) cx dX12_isWord_11 (by decide) ?_ ?_
    · refine sm_aload_n cx 0 dX12_isWord_40 rfl rfl ?_
      refine sm_aload_n cx 0 dX12_isWord_41 rfl rfl ?_
      refine sm_getI cx fl_X12_134 dX12_isWord_42 (fun v42 => ?_)
      refine sm_aload_n cx 1 dX12_isWord_45 rfl rfl ?_
      refine sm_callW (toV := vI) cx [] cv_X12_146 (fun a h => ct_J0_length_8abf5 (xZ X) a h) (Nat.le_trans (by decide) hfr) (Nat.le_trans (by decide) hlo) rfl (cat_le _ (Nat.le_of_ble_eq_true rfl)) dX12_isWord_46 (fun v46 => ?_)
      refine sm_iadd cx dX12_isWord_49 ?_
      refine sm_callV (T := TX12) (N := 47) (toV := vI) cx [.int (v42 + v46)] rfl cv_X12_137 (fun a h => ct_X12_byteAt (xZ X) a h (v42 + v46)) (Nat.le_trans (by decide) hfr) (Nat.le_trans (by decide) hlo) rfl (cat_le _ (Nat.le_of_ble_eq_true rfl)) dX12_isWord_50 (fun v50 => ?_)
      refine sm_istore_n cx [(2, .int v50), (0, va_rf r0), (1, va_rf r1)] dX12_isWord_53 rfl (by decide) rfl (nc1 (rf_cat _)) rfl ?_
      refine sm_iload_n cx 0 dX12_isWord_54 rfl rfl ?_
      refine sm_bipush (v := 97) cx dX12_isWord_55 (by decide) ?_
      refine sm_icmp_lt (tgt := 66) cx dX12_isWord_57 (by decide) ?_ ?_
      · exact sm_lv [] rfl (s_X12_isWord_66 cx hfr hlo hr)
      · refine sm_iload_n cx 0 dX12_isWord_60 rfl rfl ?_
        refine sm_bipush (v := 122) cx dX12_isWord_61 (by decide) ?_
        refine sm_icmp_le (tgt := 70) cx dX12_isWord_63 (by decide) ?_ ?_
        · refine sm_iconst (v := 0) cx dX12_isWord_70 (by decide) ?_
          exact sm_lv [] rfl (s_X12_isWord_71 cx hfr hlo hr (0 : Int32))
        · exact sm_lv [] rfl (s_X12_isWord_66 cx hfr hlo hr)
    · refine sm_aload_n cx 0 dX12_isWord_14 rfl rfl ?_
      refine sm_aload_n cx 0 dX12_isWord_15 rfl rfl ?_
      refine sm_getI cx fl_X12_134 dX12_isWord_16 (fun v16 => ?_)
      refine sm_iload_n cx 2 dX12_isWord_19 rfl rfl ?_
      refine sm_iadd cx dX12_isWord_20 ?_
      refine sm_callV (T := TX12) (N := 47) (toV := vI) cx [.int (v16 + x2)] rfl cv_X12_137 (fun a h => ct_X12_byteAt (xZ X) a h (v16 + x2)) (Nat.le_trans (by decide) hfr) (Nat.le_trans (by decide) hlo) rfl (cat_le _ (Nat.le_of_ble_eq_true rfl)) dX12_isWord_21 (fun v21 => ?_)
      refine sm_aload_n cx 1 dX12_isWord_24 rfl rfl ?_
      refine sm_iload_n cx 2 dX12_isWord_25 rfl rfl ?_
      refine sm_callW (toV := vI) cx [.int x2] cv_X12_152 (fun a h => ct_J0_charAt_5068e (xZ X) a h x2) (Nat.le_trans (by decide) hfr) (Nat.le_trans (by decide) hlo) rfl (cat_le _ (Nat.le_of_ble_eq_true rfl)) dX12_isWord_26 (fun v26 => ?_)
      refine sm_icmp_eq (tgt := 34) cx dX12_isWord_29 (by decide) ?_ ?_
      · refine sm_iinc cx 2 [(2, .int (x2 + 1)), (0, va_rf r0), (1, va_rf r1)] dX12_isWord_34 rfl rfl (by decide) rfl (nc1 (rf_cat _)) rfl ?_
        refine sm_goto (tgt := 6) cx dX12_isWord_37 (by decide) ?_
        exact sm_lv [1, 2, 0] rfl (ih (x2 + 1))
      · refine sm_iconst (v := 0) cx dX12_isWord_32 (by decide) ?_
        exact sm_zret cx hr dX12_isWord_33
def f_X12_isWord (Z : Nat → Nat) (r0 : Option Nat) (r1 : Option Nat) : Mo Int32 := mb (mo 15 r0 (f_X12_blanks r0)) (fun _ => f_X12_isWord_6 Z r0 r1 fuL (0 : Int32))
set_option maxRecDepth 100000 in
set_option maxHeartbeats 4000000 in
theorem s_X12_isWord {X : Cg} (cx : Cx X cX12_isWord RX12 3) (hfr : 4 ≤ (xR X).frames) (hlo : 85 ≤ (xR X).locals) (hr : (xM X).sig.returnType = (some .boolean)) (r0 : Option Nat) (r1 : Option Nat) : Sim X 3 (FiM X vI) 0 [(0, va_rf r0), (1, va_rf r1)] [] (f_X12_isWord (xZ X) r0 r1) := by
  unfold f_X12_isWord
  refine sm_aload_n cx 0 dX12_isWord_0 rfl rfl ?_
  refine sm_callV (T := TX12) (N := 47) (toV := vV) cx [] rfl cv_X12_143 (fun a h => ct_X12_blanks (xZ X) a h) (Nat.le_trans (by decide) hfr) (Nat.le_trans (by decide) hlo) rfl (cat_le _ (Nat.le_of_ble_eq_true rfl)) dX12_isWord_1 (fun _ => ?_)
  refine sm_iconst (v := 0) cx dX12_isWord_4 (by decide) ?_
  refine sm_istore_n cx [(2, .int (0 : Int32)), (0, va_rf r0), (1, va_rf r1)] dX12_isWord_5 rfl (by decide) rfl (nc1 (rf_cat _)) rfl ?_
  exact sm_lv [1, 2, 0] rfl (s_X12_isWord_6 cx hfr hlo hr r0 r1 fuL (0 : Int32))
set_option maxRecDepth 100000 in
set_option maxHeartbeats 4000000 in
theorem ct_X12_isWord (Z : Nat → Nat) {r0 : Option Nat} (a0 : Nat) (h0 : r0 = some a0) (r1 : Option Nat) : Ct yX12_isWord cX12_isWord 3 (some .boolean) 4 85 Z [.ref a0, va_rf r1] vI (f_X12_isWord Z r0 r1) := by
  subst h0
  refine ct_of (lv0 := [(0, va_rf (some a0)), (1, va_rf r1)]) (by decide +kernel) (by simp [lg_sl, ct_i, ct_l, ct_r, rf_cat]) (by show _ = ([(0, Value.ref a0), (1, va_rf r1)] : List (Nat × Value)); simp [lv_args, ct_i, ct_l, ct_r, rf_cat]) (fun X cx hZ hfr hlo hr hin => ?_)
  subst hZ
  exact s_X12_isWord cx (Nat.le_of_eq hfr.symm) (Nat.le_of_eq hlo.symm) hr (some a0) r1
/-! PolicyTreeModel.eat(Ljava/lang/String;)Z -/
theorem dX12_eat_0 : decode cX12_eat 0 = .ok (.aload_n 0, 1) := by decide +kernel
theorem dX12_eat_1 : decode cX12_eat 1 = .ok (.getfield 140, 3) := by decide +kernel
theorem dX12_eat_4 : decode cX12_eat 4 = .ok (.ifCond .ne 15, 3) := by decide +kernel
theorem dX12_eat_7 : decode cX12_eat 7 = .ok (.aload_n 0, 1) := by decide +kernel
theorem dX12_eat_8 : decode cX12_eat 8 = .ok (.aload_n 1, 1) := by decide +kernel
theorem dX12_eat_9 : decode cX12_eat 9 = .ok (.invokevirtual 156, 3) := by decide +kernel
theorem dX12_eat_12 : decode cX12_eat 12 = .ok (.ifCond .eq 7, 3) := by decide +kernel
theorem dX12_eat_15 : decode cX12_eat 15 = .ok (.iconst 1, 1) := by decide +kernel
theorem dX12_eat_16 : decode cX12_eat 16 = .ok (.goto 4, 3) := by decide +kernel
theorem dX12_eat_19 : decode cX12_eat 19 = .ok (.iconst 0, 1) := by decide +kernel
theorem dX12_eat_20 : decode cX12_eat 20 = .ok (.istore_n 2, 1) := by decide +kernel
theorem dX12_eat_21 : decode cX12_eat 21 = .ok (.iload_n 2, 1) := by decide +kernel
theorem dX12_eat_22 : decode cX12_eat 22 = .ok (.ifCond .eq 16, 3) := by decide +kernel
theorem dX12_eat_25 : decode cX12_eat 25 = .ok (.aload_n 0, 1) := by decide +kernel
theorem dX12_eat_26 : decode cX12_eat 26 = .ok (.dup, 1) := by decide +kernel
theorem dX12_eat_27 : decode cX12_eat 27 = .ok (.getfield 134, 3) := by decide +kernel
theorem dX12_eat_30 : decode cX12_eat 30 = .ok (.aload_n 1, 1) := by decide +kernel
theorem dX12_eat_31 : decode cX12_eat 31 = .ok (.invokevirtual 146, 3) := by decide +kernel
theorem dX12_eat_34 : decode cX12_eat 34 = .ok (.iadd, 1) := by decide +kernel
theorem dX12_eat_35 : decode cX12_eat 35 = .ok (.putfield 134, 3) := by decide +kernel
theorem dX12_eat_38 : decode cX12_eat 38 = .ok (.iload_n 2, 1) := by decide +kernel
theorem dX12_eat_39 : decode cX12_eat 39 = .ok (.ireturn, 1) := by decide +kernel
def f_X12_eat_38 (Z : Nat → Nat) (x2 : Int32) : Mo Int32 := rz .boolean x2
set_option maxRecDepth 100000 in
set_option maxHeartbeats 4000000 in
theorem s_X12_eat_38 {X : Cg} (cx : Cx X cX12_eat RX12 3) (hfr : 5 ≤ (xR X).frames) (hlo : 107 ≤ (xR X).locals) (hr : (xM X).sig.returnType = (some .boolean)) (x2 : Int32) : Sim X 3 (FiM X vI) 38 [(2, .int x2)] [] (f_X12_eat_38 (xZ X) x2) := by
  unfold f_X12_eat_38
  refine sm_iload_n cx 0 dX12_eat_38 rfl rfl ?_
  exact sm_zret cx hr dX12_eat_39
def f_X12_eat_20 (Z : Nat → Nat) (r0 : Option Nat) (r1 : Option Nat) (sx0 : Int32) : Mo Int32 := (if sx0 = 0 then f_X12_eat_38 Z sx0 else mb (gI 15 17 r0) (fun v27 => mb (moS Z r1 (f_J0_length_8abf5 Z r1)) (fun v31 => mb (pV 15 17 r0 (.int (v27 + v31))) (fun _ => f_X12_eat_38 Z sx0))))
set_option maxRecDepth 100000 in
set_option maxHeartbeats 4000000 in
theorem s_X12_eat_20 {X : Cg} (cx : Cx X cX12_eat RX12 3) (hfr : 5 ≤ (xR X).frames) (hlo : 107 ≤ (xR X).locals) (hr : (xM X).sig.returnType = (some .boolean)) (r0 : Option Nat) (r1 : Option Nat) (sx0 : Int32) : Sim X 3 (FiM X vI) 20 [(0, va_rf r0), (1, va_rf r1)] [.int sx0] (f_X12_eat_20 (xZ X) r0 r1 sx0) := by
  unfold f_X12_eat_20
  refine sm_istore_n cx [(2, .int sx0), (0, va_rf r0), (1, va_rf r1)] dX12_eat_20 rfl (by decide) rfl (nc1 (rf_cat _)) rfl ?_
  refine sm_iload_n cx 0 dX12_eat_21 rfl rfl ?_
  refine sm_if_eq (tgt := 38) cx dX12_eat_22 (by decide) ?_ ?_
  · exact sm_lv [0] rfl (s_X12_eat_38 cx hfr hlo hr sx0)
  · refine sm_aload_n cx 1 dX12_eat_25 rfl rfl ?_
    refine sm_dup cx dX12_eat_26 (rf_cat _) ?_
    refine sm_getI cx fl_X12_134 dX12_eat_27 (fun v27 => ?_)
    refine sm_aload_n cx 2 dX12_eat_30 rfl rfl ?_
    refine sm_callW (toV := vI) cx [] cv_X12_146 (fun a h => ct_J0_length_8abf5 (xZ X) a h) (Nat.le_trans (by decide) hfr) (Nat.le_trans (by decide) hlo) rfl (cat_le _ (Nat.le_of_ble_eq_true rfl)) dX12_eat_31 (fun v31 => ?_)
    refine sm_iadd cx dX12_eat_34 ?_
    refine sm_putV cx fl_X12_134 rfl rfl dX12_eat_35 ?_
    exact sm_lv [0] rfl (s_X12_eat_38 cx hfr hlo hr sx0)
def f_X12_eat_19 (Z : Nat → Nat) (r0 : Option Nat) (r1 : Option Nat) : Mo Int32 := f_X12_eat_20 Z r0 r1 (0 : Int32)
set_option maxRecDepth 100000 in
set_option maxHeartbeats 4000000 in
theorem s_X12_eat_19 {X : Cg} (cx : Cx X cX12_eat RX12 3) (hfr : 5 ≤ (xR X).frames) (hlo : 107 ≤ (xR X).locals) (hr : (xM X).sig.returnType = (some .boolean)) (r0 : Option Nat) (r1 : Option Nat) : Sim X 3 (FiM X vI) 19 [(0, va_rf r0), (1, va_rf r1)] [] (f_X12_eat_19 (xZ X) r0 r1) := by
  unfold f_X12_eat_19
  refine sm_iconst (v := 0) cx dX12_eat_19 (by decide) ?_
  exact sm_lv [0, 1] rfl (s_X12_eat_20 cx hfr hlo hr r0 r1 (0 : Int32))
def f_X12_eat (Z : Nat → Nat) (r0 : Option Nat) (r1 : Option Nat) : Mo Int32 := mb (gI 15 18 r0) (fun v1 => (if v1 = 0 then mb (mo 15 r0 (f_X12_isWord Z r0 r1)) (fun v9 => (if v9 = 0 then f_X12_eat_19 Z r0 r1 else f_X12_eat_20 Z r0 r1 (1 : Int32))) else f_X12_eat_19 Z r0 r1))
set_option maxRecDepth 100000 in
set_option maxHeartbeats 4000000 in
theorem s_X12_eat {X : Cg} (cx : Cx X cX12_eat RX12 3) (hfr : 5 ≤ (xR X).frames) (hlo : 107 ≤ (xR X).locals) (hr : (xM X).sig.returnType = (some .boolean)) (r0 : Option Nat) (r1 : Option Nat) : Sim X 3 (FiM X vI) 0 [(0, va_rf r0), (1, va_rf r1)] [] (f_X12_eat (xZ X) r0 r1) := by
  unfold f_X12_eat
  refine sm_aload_n cx 0 dX12_eat_0 rfl rfl ?_
  refine sm_getI cx fl_X12_140 dX12_eat_1 (fun v1 => ?_)
  refine sm_if_ne (tgt := 19) cx dX12_eat_4 (by decide) ?_ ?_
  · exact sm_lv [0, 1] rfl (s_X12_eat_19 cx hfr hlo hr r0 r1)
  · refine sm_aload_n cx 0 dX12_eat_7 rfl rfl ?_
    refine sm_aload_n cx 1 dX12_eat_8 rfl rfl ?_
    refine sm_callV (T := TX12) (N := 47) (toV := vI) cx [va_rf r1] rfl cv_X12_156 (fun a h => ct_X12_isWord (xZ X) a h r1) (Nat.le_trans (by decide) hfr) (Nat.le_trans (by decide) hlo) rfl (cat_le _ (Nat.le_of_ble_eq_true rfl)) dX12_eat_9 (fun v9 => ?_)
    refine sm_if_eq (tgt := 19) cx dX12_eat_12 (by decide) ?_ ?_
    · exact sm_lv [0, 1] rfl (s_X12_eat_19 cx hfr hlo hr r0 r1)
    · refine sm_iconst (v := 1) cx dX12_eat_15 (by decide) ?_
      refine sm_goto (tgt := 20) cx dX12_eat_16 (by decide) ?_
      exact sm_lv [0, 1] rfl (s_X12_eat_20 cx hfr hlo hr r0 r1 (1 : Int32))
set_option maxRecDepth 100000 in
set_option maxHeartbeats 4000000 in
theorem ct_X12_eat (Z : Nat → Nat) {r0 : Option Nat} (a0 : Nat) (h0 : r0 = some a0) (r1 : Option Nat) : Ct yX12_eat cX12_eat 3 (some .boolean) 5 107 Z [.ref a0, va_rf r1] vI (f_X12_eat Z r0 r1) := by
  subst h0
  refine ct_of (lv0 := [(0, va_rf (some a0)), (1, va_rf r1)]) (by decide +kernel) (by simp [lg_sl, ct_i, ct_l, ct_r, rf_cat]) (by show _ = ([(0, Value.ref a0), (1, va_rf r1)] : List (Nat × Value)); simp [lv_args, ct_i, ct_l, ct_r, rf_cat]) (fun X cx hZ hfr hlo hr hin => ?_)
  subst hZ
  exact s_X12_eat cx (Nat.le_of_eq hfr.symm) (Nat.le_of_eq hlo.symm) hr (some a0) r1
/-! PolicyTreeModel.emits(I)V -/
theorem dX12_emits_0 : decode cX12_emits 0 = .ok (.aload_n 0, 1) := by decide +kernel
theorem dX12_emits_1 : decode cX12_emits 1 = .ok (.getfield 160, 3) := by decide +kernel
theorem dX12_emits_4 : decode cX12_emits 4 = .ok (.aload_n 0, 1) := by decide +kernel
theorem dX12_emits_5 : decode cX12_emits 5 = .ok (.getfield 46, 3) := by decide +kernel
theorem dX12_emits_8 : decode cX12_emits 8 = .ok (.arraylength, 1) := by decide +kernel
theorem dX12_emits_9 : decode cX12_emits 9 = .ok (.if_icmp .ne 43, 3) := by decide +kernel
theorem dX12_emits_12 : decode cX12_emits 12 = .ok (.iconst 2, 1) := by decide +kernel
theorem dX12_emits_13 : decode cX12_emits 13 = .ok (.aload_n 0, 1) := by decide +kernel
theorem dX12_emits_14 : decode cX12_emits 14 = .ok (.getfield 46, 3) := by decide +kernel
theorem dX12_emits_17 : decode cX12_emits 17 = .ok (.arraylength, 1) := by decide +kernel
theorem dX12_emits_18 : decode cX12_emits 18 = .ok (.imul, 1) := by decide +kernel
theorem dX12_emits_19 : decode cX12_emits 19 = .ok (.newarray .int, 2) := by decide +kernel
theorem dX12_emits_21 : decode cX12_emits 21 = .ok (.astore_n 2, 1) := by decide +kernel
theorem dX12_emits_22 : decode cX12_emits 22 = .ok (.iconst 0, 1) := by decide +kernel
theorem dX12_emits_23 : decode cX12_emits 23 = .ok (.istore_n 3, 1) := by decide +kernel
theorem dX12_emits_24 : decode cX12_emits 24 = .ok (.iload_n 3, 1) := by decide +kernel
theorem dX12_emits_25 : decode cX12_emits 25 = .ok (.aload_n 0, 1) := by decide +kernel
theorem dX12_emits_26 : decode cX12_emits 26 = .ok (.getfield 160, 3) := by decide +kernel
theorem dX12_emits_29 : decode cX12_emits 29 = .ok (.if_icmp .ge 18, 3) := by decide +kernel
theorem dX12_emits_32 : decode cX12_emits 32 = .ok (.aload_n 2, 1) := by decide +kernel
theorem dX12_emits_33 : decode cX12_emits 33 = .ok (.iload_n 3, 1) := by decide +kernel
theorem dX12_emits_34 : decode cX12_emits 34 = .ok (.aload_n 0, 1) := by decide +kernel
theorem dX12_emits_35 : decode cX12_emits 35 = .ok (.getfield 46, 3) := by decide +kernel
theorem dX12_emits_38 : decode cX12_emits 38 = .ok (.iload_n 3, 1) := by decide +kernel
theorem dX12_emits_39 : decode cX12_emits 39 = .ok (.iaload, 1) := by decide +kernel
theorem dX12_emits_40 : decode cX12_emits 40 = .ok (.iastore, 1) := by decide +kernel
theorem dX12_emits_41 : decode cX12_emits 41 = .ok (.iinc 3 1, 3) := by decide +kernel
theorem dX12_emits_44 : decode cX12_emits 44 = .ok (.goto (-20), 3) := by decide +kernel
theorem dX12_emits_47 : decode cX12_emits 47 = .ok (.aload_n 0, 1) := by decide +kernel
theorem dX12_emits_48 : decode cX12_emits 48 = .ok (.aload_n 2, 1) := by decide +kernel
theorem dX12_emits_49 : decode cX12_emits 49 = .ok (.putfield 46, 3) := by decide +kernel
theorem dX12_emits_52 : decode cX12_emits 52 = .ok (.aload_n 0, 1) := by decide +kernel
theorem dX12_emits_53 : decode cX12_emits 53 = .ok (.getfield 46, 3) := by decide +kernel
theorem dX12_emits_56 : decode cX12_emits 56 = .ok (.aload_n 0, 1) := by decide +kernel
theorem dX12_emits_57 : decode cX12_emits 57 = .ok (.getfield 160, 3) := by decide +kernel
theorem dX12_emits_60 : decode cX12_emits 60 = .ok (.iload_n 1, 1) := by decide +kernel
theorem dX12_emits_61 : decode cX12_emits 61 = .ok (.iastore, 1) := by decide +kernel
theorem dX12_emits_62 : decode cX12_emits 62 = .ok (.aload_n 0, 1) := by decide +kernel
theorem dX12_emits_63 : decode cX12_emits 63 = .ok (.dup, 1) := by decide +kernel
theorem dX12_emits_64 : decode cX12_emits 64 = .ok (.getfield 160, 3) := by decide +kernel
theorem dX12_emits_67 : decode cX12_emits 67 = .ok (.iconst 1, 1) := by decide +kernel
theorem dX12_emits_68 : decode cX12_emits 68 = .ok (.iadd, 1) := by decide +kernel
theorem dX12_emits_69 : decode cX12_emits 69 = .ok (.putfield 160, 3) := by decide +kernel
theorem dX12_emits_72 : decode cX12_emits 72 = .ok (.return_, 1) := by decide +kernel
def f_X12_emits_52 (r0 : Option Nat) (x1 : Int32) : Mo Unit := mb (gR 15 21 r0) (fun v53 => mb (gI 15 22 r0) (fun v57 => mb (sI 1 v53 v57 x1) (fun _ => mb (gI 15 22 r0) (fun v64 => mb (pV 15 22 r0 (.int (v64 + (1 : Int32)))) (fun _ => mp ())))))
set_option maxRecDepth 100000 in
set_option maxHeartbeats 4000000 in
theorem s_X12_emits_52 {X : Cg} (cx : Cx X cX12_emits RX12 4) (hfr : 0 ≤ (xR X).frames) (hlo : 0 ≤ (xR X).locals) (hr : (xM X).sig.returnType = none) (r0 : Option Nat) (x1 : Int32) : Sim X 4 (FiM X vV) 52 [(0, va_rf r0), (1, .int x1)] [] (f_X12_emits_52 r0 x1) := by
  unfold f_X12_emits_52
  refine sm_aload_n cx 0 dX12_emits_52 rfl rfl ?_
  refine sm_getR cx fl_X12_46 dX12_emits_53 (fun v53 => ?_)
  refine sm_aload_n cx 0 dX12_emits_56 rfl rfl ?_
  refine sm_getI cx fl_X12_160 dX12_emits_57 (fun v57 => ?_)
  refine sm_iload_n cx 1 dX12_emits_60 rfl rfl ?_
  refine sm_iast cx dX12_emits_61 ?_
  refine sm_aload_n cx 0 dX12_emits_62 rfl rfl ?_
  refine sm_dup cx dX12_emits_63 (rf_cat _) ?_
  refine sm_getI cx fl_X12_160 dX12_emits_64 (fun v64 => ?_)
  refine sm_iconst (v := 1) cx dX12_emits_67 (by decide) ?_
  refine sm_iadd cx dX12_emits_68 ?_
  refine sm_putV cx fl_X12_160 rfl rfl dX12_emits_69 ?_
  exact sm_vret cx hr dX12_emits_72
def f_X12_emits_24 (r0 : Option Nat) (x1 : Int32) (r2 : Option Nat) : Nat → Int32 → Mo Unit
  | 0, _ => mf
  | n + 1, x3 => mb (gI 15 22 r0) (fun v26 => (if v26 ≤ x3 then mb (pV 15 21 r0 (va_rf r2)) (fun _ => f_X12_emits_52 r0 x1) else mb (gR 15 21 r0) (fun v35 => mb (aI 1 v35 x3) (fun v39 => mb (sI 1 r2 x3 v39) (fun _ => (f_X12_emits_24 r0 x1 r2 n) (x3 + 1))))))
set_option maxRecDepth 100000 in
set_option maxHeartbeats 4000000 in
theorem s_X12_emits_24 {X : Cg} (cx : Cx X cX12_emits RX12 4) (hfr : 0 ≤ (xR X).frames) (hlo : 0 ≤ (xR X).locals) (hr : (xM X).sig.returnType = none) (r0 : Option Nat) (x1 : Int32) (r2 : Option Nat) : ∀ (n : Nat) (x3 : Int32), Sim X 4 (FiM X vV) 24 [(0, va_rf r0), (1, .int x1), (2, va_rf r2), (3, .int x3)] [] (f_X12_emits_24 r0 x1 r2 n x3) := by
  intro n
  induction n with
  | zero =>
    intro _
    exact sm_mf
  | succ n ih =>
    intro x3
    rw [f_X12_emits_24]
    refine sm_iload_n cx 3 dX12_emits_24 rfl rfl ?_
    refine sm_aload_n cx 0 dX12_emits_25 rfl rfl ?_
    refine sm_getI cx fl_X12_160 dX12_emits_26 (fun v26 => ?_)
    refine sm_icmp_ge (tgt := 47) cx dX12_emits_29 (by decide) ?_ ?_
    · refine sm_aload_n cx 0 dX12_emits_47 rfl rfl ?_
      refine sm_aload_n cx 2 dX12_emits_48 rfl rfl ?_
      refine sm_putV cx fl_X12_46 (nr_ra _) (ft_ra _) dX12_emits_49 ?_
      exact sm_lv [0, 1] rfl (s_X12_emits_52 cx hfr hlo hr r0 x1)
    · refine sm_aload_n cx 2 dX12_emits_32 rfl rfl ?_
      refine sm_iload_n cx 3 dX12_emits_33 rfl rfl ?_
      refine sm_aload_n cx 0 dX12_emits_34 rfl rfl ?_
      refine sm_getR cx fl_X12_46 dX12_emits_35 (fun v35 => ?_)
      refine sm_iload_n cx 3 dX12_emits_38 rfl rfl ?_
      refine sm_iald cx dX12_emits_39 (fun v39 => ?_)
      refine sm_iast cx dX12_emits_40 ?_
      refine sm_iinc cx 3 [(3, .int (x3 + 1)), (0, va_rf r0), (1, .int x1), (2, va_rf r2)] dX12_emits_41 rfl rfl (by decide) rfl (nc1 (rf_cat _)) rfl ?_
      refine sm_goto (tgt := 24) cx dX12_emits_44 (by decide) ?_
      exact sm_lv [1, 2, 3, 0] rfl (ih (x3 + 1))
def f_X12_emits (r0 : Option Nat) (x1 : Int32) : Mo Unit := mb (gI 15 22 r0) (fun v1 => mb (gR 15 21 r0) (fun v5 => mb (aN 1 v5) (fun v8 => (if v1 = v8 then mb (gR 15 21 r0) (fun v14 => mb (aN 1 v14) (fun v17 => mb (nA 1 ((2 : Int32) * v17)) (fun v19 => f_X12_emits_24 r0 x1 v19 fuL (0 : Int32)))) else f_X12_emits_52 r0 x1))))
set_option maxRecDepth 100000 in
set_option maxHeartbeats 4000000 in
theorem s_X12_emits {X : Cg} (cx : Cx X cX12_emits RX12 4) (hfr : 0 ≤ (xR X).frames) (hlo : 0 ≤ (xR X).locals) (hr : (xM X).sig.returnType = none) (r0 : Option Nat) (x1 : Int32) : Sim X 4 (FiM X vV) 0 [(0, va_rf r0), (1, .int x1)] [] (f_X12_emits r0 x1) := by
  unfold f_X12_emits
  refine sm_aload_n cx 0 dX12_emits_0 rfl rfl ?_
  refine sm_getI cx fl_X12_160 dX12_emits_1 (fun v1 => ?_)
  refine sm_aload_n cx 0 dX12_emits_4 rfl rfl ?_
  refine sm_getR cx fl_X12_46 dX12_emits_5 (fun v5 => ?_)
  refine sm_alen cx 1 (by decide) dX12_emits_8 (fun v8 => ?_)
  refine sm_icmp_ne (tgt := 52) cx dX12_emits_9 (by decide) ?_ ?_
  · exact sm_lv [0, 1] rfl (s_X12_emits_52 cx hfr hlo hr r0 x1)
  · refine sm_iconst (v := 2) cx dX12_emits_12 (by decide) ?_
    refine sm_aload_n cx 0 dX12_emits_13 rfl rfl ?_
    refine sm_getR cx fl_X12_46 dX12_emits_14 (fun v14 => ?_)
    refine sm_alen cx 1 (by decide) dX12_emits_17 (fun v17 => ?_)
    refine sm_imul cx dX12_emits_18 ?_
    refine sm_newa1 cx dX12_emits_19 (fun v19 => ?_)
    refine sm_astore_n cx [(2, va_rf v19), (0, va_rf r0), (1, .int x1)] dX12_emits_21 rfl (by decide) rfl (nc1 rfl) rfl ?_
    refine sm_iconst (v := 0) cx dX12_emits_22 (by decide) ?_
    refine sm_istore_n cx [(3, .int (0 : Int32)), (2, va_rf v19), (0, va_rf r0), (1, .int x1)] dX12_emits_23 rfl (by decide) rfl (nc1 (rf_cat _)) rfl ?_
    exact sm_lv [2, 3, 1, 0] rfl (s_X12_emits_24 cx hfr hlo hr r0 x1 v19 fuL (0 : Int32))
set_option maxRecDepth 100000 in
set_option maxHeartbeats 4000000 in
theorem ct_X12_emits (Z : Nat → Nat) {r0 : Option Nat} (a0 : Nat) (h0 : r0 = some a0) (x1 : Int32) : Ct yX12_emits cX12_emits 4 none 0 0 Z [.ref a0, .int x1] vV (f_X12_emits r0 x1) := by
  subst h0
  refine ct_of (lv0 := [(0, va_rf (some a0)), (1, .int x1)]) (by decide +kernel) (by simp [lg_sl, ct_i, ct_l, ct_r, rf_cat]) (by show _ = ([(0, Value.ref a0), (1, .int x1)] : List (Nat × Value)); simp [lv_args, ct_i, ct_l, ct_r, rf_cat]) (fun X cx hZ hfr hlo hr hin => ?_)
  subst hZ
  exact s_X12_emits cx (Nat.le_of_eq hfr.symm) (Nat.le_of_eq hlo.symm) hr (some a0) x1
/-! PolicyTreeModel.opens()Z -/
theorem dX12_opens_0 : decode cX12_opens 0 = .ok (.aload_n 0, 1) := by decide +kernel
theorem dX12_opens_1 : decode cX12_opens 1 = .ok (.getfield 180, 3) := by decide +kernel
theorem dX12_opens_4 : decode cX12_opens 4 = .ok (.bipush 10, 2) := by decide +kernel
theorem dX12_opens_6 : decode cX12_opens 6 = .ok (.if_icmp .ne 15, 3) := by decide +kernel
theorem dX12_opens_9 : decode cX12_opens 9 = .ok (.aload_n 0, 1) := by decide +kernel
theorem dX12_opens_10 : decode cX12_opens 10 = .ok (.iconst 3, 1) := by decide +kernel
theorem dX12_opens_11 : decode cX12_opens 11 = .ok (.aload_n 0, 1) := by decide +kernel
theorem dX12_opens_12 : decode cX12_opens 12 = .ok (.getfield 134, 3) := by decide +kernel
theorem dX12_opens_15 : decode cX12_opens 15 = .ok (.invokevirtual 183, 3) := by decide +kernel
theorem dX12_opens_18 : decode cX12_opens 18 = .ok (.goto 13, 3) := by decide +kernel
theorem dX12_opens_21 : decode cX12_opens 21 = .ok (.aload_n 0, 1) := by decide +kernel
theorem dX12_opens_22 : decode cX12_opens 22 = .ok (.dup, 1) := by decide +kernel
theorem dX12_opens_23 : decode cX12_opens 23 = .ok (.getfield 180, 3) := by decide +kernel
theorem dX12_opens_26 : decode cX12_opens 26 = .ok (.iconst 1, 1) := by decide +kernel
theorem dX12_opens_27 : decode cX12_opens 27 = .ok (.iadd, 1) := by decide +kernel
theorem dX12_opens_28 : decode cX12_opens 28 = .ok (.putfield 180, 3) := by decide +kernel
theorem dX12_opens_31 : decode cX12_opens 31 = .ok (.aload_n 0, 1) := by decide +kernel
theorem dX12_opens_32 : decode cX12_opens 32 = .ok (.getfield 140, 3) := by decide +kernel
theorem dX12_opens_35 : decode cX12_opens 35 = .ok (.ifCond .ne 7, 3) := by decide +kernel
theorem dX12_opens_38 : decode cX12_opens 38 = .ok (.iconst 1, 1) := by decide +kernel
theorem dX12_opens_39 : decode cX12_opens 39 = .ok (.goto 4, 3) := by decide +kernel
theorem dX12_opens_42 : decode cX12_opens 42 = .ok (.iconst 0, 1) := by decide +kernel
theorem dX12_opens_43 : decode cX12_opens 43 = .ok (.ireturn, 1) := by decide +kernel
def f_X12_opens_43 (sx0 : Int32) : Mo Int32 := rz .boolean sx0
set_option maxRecDepth 100000 in
set_option maxHeartbeats 4000000 in
theorem s_X12_opens_43 {X : Cg} (cx : Cx X cX12_opens RX12 1) (hfr : 1 ≤ (xR X).frames) (hlo : 22 ≤ (xR X).locals) (hr : (xM X).sig.returnType = (some .boolean)) (sx0 : Int32) : Sim X 1 (FiM X vI) 43 [] [.int sx0] (f_X12_opens_43 sx0) := by
  unfold f_X12_opens_43
  exact sm_zret cx hr dX12_opens_43
def f_X12_opens_31 (r0 : Option Nat) : Mo Int32 := mb (gI 15 18 r0) (fun v32 => (if v32 = 0 then f_X12_opens_43 (1 : Int32) else f_X12_opens_43 (0 : Int32)))
set_option maxRecDepth 100000 in
set_option maxHeartbeats 4000000 in
theorem s_X12_opens_31 {X : Cg} (cx : Cx X cX12_opens RX12 1) (hfr : 1 ≤ (xR X).frames) (hlo : 22 ≤ (xR X).locals) (hr : (xM X).sig.returnType = (some .boolean)) (r0 : Option Nat) : Sim X 1 (FiM X vI) 31 [(0, va_rf r0)] [] (f_X12_opens_31 r0) := by
  unfold f_X12_opens_31
  refine sm_aload_n cx 0 dX12_opens_31 rfl rfl ?_
  refine sm_getI cx fl_X12_140 dX12_opens_32 (fun v32 => ?_)
  refine sm_if_ne (tgt := 42) cx dX12_opens_35 (by decide) ?_ ?_
  · refine sm_iconst (v := 0) cx dX12_opens_42 (by decide) ?_
    exact sm_lv [] rfl (s_X12_opens_43 cx hfr hlo hr (0 : Int32))
  · refine sm_iconst (v := 1) cx dX12_opens_38 (by decide) ?_
    refine sm_goto (tgt := 43) cx dX12_opens_39 (by decide) ?_
    exact sm_lv [] rfl (s_X12_opens_43 cx hfr hlo hr (1 : Int32))
def f_X12_opens (r0 : Option Nat) : Mo Int32 := mb (gI 15 20 r0) (fun v1 => (if v1 = (10 : Int32) then mb (gI 15 17 r0) (fun v12 => mb (mo 15 r0 (f_X12_wrong r0 (3 : Int32) v12)) (fun _ => f_X12_opens_31 r0)) else mb (gI 15 20 r0) (fun v23 => mb (pV 15 20 r0 (.int (v23 + (1 : Int32)))) (fun _ => f_X12_opens_31 r0))))
set_option maxRecDepth 100000 in
set_option maxHeartbeats 4000000 in
theorem s_X12_opens {X : Cg} (cx : Cx X cX12_opens RX12 1) (hfr : 1 ≤ (xR X).frames) (hlo : 22 ≤ (xR X).locals) (hr : (xM X).sig.returnType = (some .boolean)) (r0 : Option Nat) : Sim X 1 (FiM X vI) 0 [(0, va_rf r0)] [] (f_X12_opens r0) := by
  unfold f_X12_opens
  refine sm_aload_n cx 0 dX12_opens_0 rfl rfl ?_
  refine sm_getI cx fl_X12_180 dX12_opens_1 (fun v1 => ?_)
  refine sm_bipush (v := 10) cx dX12_opens_4 (by decide) ?_
  refine sm_icmp_ne (tgt := 21) cx dX12_opens_6 (by decide) ?_ ?_
  · refine sm_aload_n cx 0 dX12_opens_21 rfl rfl ?_
    refine sm_dup cx dX12_opens_22 (rf_cat _) ?_
    refine sm_getI cx fl_X12_180 dX12_opens_23 (fun v23 => ?_)
    refine sm_iconst (v := 1) cx dX12_opens_26 (by decide) ?_
    refine sm_iadd cx dX12_opens_27 ?_
    refine sm_putV cx fl_X12_180 rfl rfl dX12_opens_28 ?_
    exact sm_lv [0] rfl (s_X12_opens_31 cx hfr hlo hr r0)
  · refine sm_aload_n cx 0 dX12_opens_9 rfl rfl ?_
    refine sm_iconst (v := 3) cx dX12_opens_10 (by decide) ?_
    refine sm_aload_n cx 0 dX12_opens_11 rfl rfl ?_
    refine sm_getI cx fl_X12_134 dX12_opens_12 (fun v12 => ?_)
    refine sm_callV (T := TX12) (N := 47) (toV := vV) cx [.int (3 : Int32), .int v12] rfl cv_X12_183 (fun a h => ct_X12_wrong (xZ X) a h (3 : Int32) v12) (Nat.le_trans (by decide) hfr) (Nat.le_trans (by decide) hlo) rfl (cat_le _ (Nat.le_of_ble_eq_true rfl)) dX12_opens_15 (fun _ => ?_)
    refine sm_goto (tgt := 31) cx dX12_opens_18 (by decide) ?_
    exact sm_lv [0] rfl (s_X12_opens_31 cx hfr hlo hr r0)
set_option maxRecDepth 100000 in
set_option maxHeartbeats 4000000 in
theorem ct_X12_opens (Z : Nat → Nat) {r0 : Option Nat} (a0 : Nat) (h0 : r0 = some a0) : Ct yX12_opens cX12_opens 1 (some .boolean) 1 22 Z [.ref a0] vI (f_X12_opens r0) := by
  subst h0
  refine ct_of (lv0 := [(0, va_rf (some a0))]) (by decide +kernel) (by simp [lg_sl, ct_i, ct_l, ct_r, rf_cat]) (by show _ = ([(0, Value.ref a0)] : List (Nat × Value)); simp [lv_args, ct_i, ct_l, ct_r, rf_cat]) (fun X cx hZ hfr hlo hr hin => ?_)
  subst hZ
  exact s_X12_opens cx (Nat.le_of_eq hfr.symm) (Nat.le_of_eq hlo.symm) hr (some a0)
/-! PolicyTreeModel.number(II)V -/
theorem dX12_number_0 : decode cX12_number 0 = .ok (.aload_n 0, 1) := by decide +kernel
theorem dX12_number_1 : decode cX12_number 1 = .ok (.invokevirtual 143, 3) := by decide +kernel
theorem dX12_number_4 : decode cX12_number 4 = .ok (.aload_n 0, 1) := by decide +kernel
theorem dX12_number_5 : decode cX12_number 5 = .ok (.getfield 134, 3) := by decide +kernel
theorem dX12_number_8 : decode cX12_number 8 = .ok (.istore_n 3, 1) := by decide +kernel
theorem dX12_number_9 : decode cX12_number 9 = .ok (.iconst 0, 1) := by decide +kernel
theorem dX12_number_10 : decode cX12_number 10 = .ok (.istore 4, 2) := by decide +kernel
theorem dX12_number_12 : decode cX12_number 12 = .ok (.aload_n 0, 1) := by decide +kernel
theorem dX12_number_13 : decode cX12_number 13 = .ok (.aload_n 0, 1) := by decide +kernel
theorem dX12_number_14 : decode cX12_number 14 = .ok (.getfield 134, 3) := by decide +kernel
theorem dX12_number_17 : decode cX12_number 17 = .ok (.invokevirtual 137, 3) := by decide +kernel
theorem dX12_number_20 : decode cX12_number 20 = .ok (.bipush 48, 2) := by decide +kernel
theorem dX12_number_22 : decode cX12_number 22 = .ok (.if_icmp .lt 61, 3) := by decide +kernel
theorem dX12_number_25 : decode cX12_number 25 = .ok (.aload_n 0, 1) := by decide +kernel
theorem dX12_number_26 : decode cX12_number 26 = .ok (.aload_n 0, 1) := by decide +kernel
theorem dX12_number_27 : decode cX12_number 27 = .ok (.getfield 134, 3) := by decide +kernel
theorem dX12_number_30 : decode cX12_number 30 = .ok (.invokevirtual 137, 3) := by decide +kernel
theorem dX12_number_33 : decode cX12_number 33 = .ok (.bipush 57, 2) := by decide +kernel
theorem dX12_number_35 : decode cX12_number 35 = .ok (.if_icmp .gt 48, 3) := by decide +kernel
theorem dX12_number_38 : decode cX12_number 38 = .ok (.iload 4, 2) := by decide +kernel
theorem dX12_number_40 : decode cX12_number 40 = .ok (.sipush 1000, 3) := by decide +kernel
theorem dX12_number_43 : decode cX12_number 43 = .ok (.if_icmp .le 8, 3) := by decide +kernel
theorem dX12_number_46 : decode cX12_number 46 = .ok (.iload 4, 2) := by decide +kernel
theorem dX12_number_48 : decode cX12_number 48 = .ok (.goto 20, 3) := by decide +kernel
theorem dX12_number_51 : decode cX12_number 51 = .ok (.bipush 10, 2) := by decide +kernel
theorem dX12_number_53 : decode cX12_number 53 = .ok (.iload 4, 2) := by decide +kernel
theorem dX12_number_55 : decode cX12_number 55 = .ok (.imul, 1) := by decide +kernel
theorem dX12_number_56 : decode cX12_number 56 = .ok (.aload_n 0, 1) := by decide +kernel
theorem dX12_number_57 : decode cX12_number 57 = .ok (.aload_n 0, 1) := by decide +kernel
theorem dX12_number_58 : decode cX12_number 58 = .ok (.getfield 134, 3) := by decide +kernel
theorem dX12_number_61 : decode cX12_number 61 = .ok (.invokevirtual 137, 3) := by decide +kernel
theorem dX12_number_64 : decode cX12_number 64 = .ok (.iadd, 1) := by decide +kernel
theorem dX12_number_65 : decode cX12_number 65 = .ok (.bipush 48, 2) := by decide +kernel
theorem dX12_number_67 : decode cX12_number 67 = .ok (.isub, 1) := by decide +kernel
theorem dX12_number_68 : decode cX12_number 68 = .ok (.istore 4, 2) := by decide +kernel
theorem dX12_number_70 : decode cX12_number 70 = .ok (.aload_n 0, 1) := by decide +kernel
theorem dX12_number_71 : decode cX12_number 71 = .ok (.dup, 1) := by decide +kernel
theorem dX12_number_72 : decode cX12_number 72 = .ok (.getfield 134, 3) := by decide +kernel
theorem dX12_number_75 : decode cX12_number 75 = .ok (.iconst 1, 1) := by decide +kernel
theorem dX12_number_76 : decode cX12_number 76 = .ok (.iadd, 1) := by decide +kernel
theorem dX12_number_77 : decode cX12_number 77 = .ok (.putfield 134, 3) := by decide +kernel
theorem dX12_number_80 : decode cX12_number 80 = .ok (.goto (-68), 3) := by decide +kernel
theorem dX12_number_83 : decode cX12_number 83 = .ok (.aload_n 0, 1) := by decide +kernel
theorem dX12_number_84 : decode cX12_number 84 = .ok (.getfield 134, 3) := by decide +kernel
theorem dX12_number_87 : decode cX12_number 87 = .ok (.iload_n 3, 1) := by decide +kernel
theorem dX12_number_88 : decode cX12_number 88 = .ok (.if_icmp .ne 9, 3) := by decide +kernel
theorem dX12_number_91 : decode cX12_number 91 = .ok (.aload_n 0, 1) := by decide +kernel
theorem dX12_number_92 : decode cX12_number 92 = .ok (.iconst 1, 1) := by decide +kernel
theorem dX12_number_93 : decode cX12_number 93 = .ok (.iload_n 3, 1) := by decide +kernel
theorem dX12_number_94 : decode cX12_number 94 = .ok (.invokevirtual 183, 3) := by decide +kernel
theorem dX12_number_97 : decode cX12_number 97 = .ok (.iload 4, 2) := by decide +kernel
theorem dX12_number_99 : decode cX12_number 99 = .ok (.iload_n 2, 1) := by decide +kernel
theorem dX12_number_100 : decode cX12_number 100 = .ok (.if_icmp .lt 9, 3) := by decide +kernel
theorem dX12_number_103 : decode cX12_number 103 = .ok (.aload_n 0, 1) := by decide +kernel
theorem dX12_number_104 : decode cX12_number 104 = .ok (.iconst 2, 1) := by decide +kernel
theorem dX12_number_105 : decode cX12_number 105 = .ok (.iload_n 3, 1) := by decide +kernel
theorem dX12_number_106 : decode cX12_number 106 = .ok (.invokevirtual 183, 3) := by decide +kernel
theorem dX12_number_109 : decode cX12_number 109 = .ok (.aload_n 0, 1) := by decide +kernel
theorem dX12_number_110 : decode cX12_number 110 = .ok (.bipush 100, 2) := by decide +kernel
theorem dX12_number_112 : decode cX12_number 112 = .ok (.iload_n 1, 1) := by decide +kernel
theorem dX12_number_113 : decode cX12_number 113 = .ok (.imul, 1) := by decide +kernel
theorem dX12_number_114 : decode cX12_number 114 = .ok (.iload 4, 2) := by decide +kernel
theorem dX12_number_116 : decode cX12_number 116 = .ok (.iadd, 1) := by decide +kernel
theorem dX12_number_117 : decode cX12_number 117 = .ok (.invokevirtual 171, 3) := by decide +kernel
theorem dX12_number_120 : decode cX12_number 120 = .ok (.return_, 1) := by decide +kernel
def f_X12_number_68 (k12 : Int32 → Mo Unit) (r0 : Option Nat) (x1 : Int32) (x2 : Int32) (x3 : Int32) (sx0 : Int32) : Mo Unit := mb (gI 15 17 r0) (fun v72 => mb (pV 15 17 r0 (.int (v72 + (1 : Int32)))) (fun _ => k12 sx0))
set_option maxRecDepth 100000 in
set_option maxHeartbeats 4000000 in
theorem s_X12_number_68 {X : Cg} (cx : Cx X cX12_number RX12 5) (hfr : 2 ≤ (xR X).frames) (hlo : 41 ≤ (xR X).locals) (hr : (xM X).sig.returnType = none) (r0 : Option Nat) (x1 : Int32) (x2 : Int32) (x3 : Int32) (sx0 : Int32) {k12 : Int32 → Mo Unit} (hk12 : ∀ (x4 : Int32), Sim X 5 (FiM X vV) 12 [(0, va_rf r0), (1, .int x1), (2, .int x2), (3, .int x3), (4, .int x4)] [] (k12 x4)) : Sim X 5 (FiM X vV) 68 [(0, va_rf r0), (1, .int x1), (2, .int x2), (3, .int x3)] [.int sx0] (f_X12_number_68 k12 r0 x1 x2 x3 sx0) := by
  unfold f_X12_number_68
  refine sm_istore cx [(4, .int sx0), (0, va_rf r0), (1, .int x1), (2, .int x2), (3, .int x3)] dX12_number_68 (by decide) rfl (nc1 rfl) rfl ?_
  refine sm_aload_n cx 1 dX12_number_70 rfl rfl ?_
  refine sm_dup cx dX12_number_71 (rf_cat _) ?_
  refine sm_getI cx fl_X12_134 dX12_number_72 (fun v72 => ?_)
  refine sm_iconst (v := 1) cx dX12_number_75 (by decide) ?_
  refine sm_iadd cx dX12_number_76 ?_
  refine sm_putV cx fl_X12_134 rfl rfl dX12_number_77 ?_
  refine sm_goto (tgt := 12) cx dX12_number_80 (by decide) ?_
  exact sm_lv [1, 2, 3, 4, 0] rfl (hk12 sx0)
def f_X12_number_109 (r0 : Option Nat) (x1 : Int32) (x4 : Int32) : Mo Unit := mb (mo 15 r0 (f_X12_emits r0 (((100 : Int32) * x1) + x4))) (fun _ => mp ())
set_option maxRecDepth 100000 in
set_option maxHeartbeats 4000000 in
theorem s_X12_number_109 {X : Cg} (cx : Cx X cX12_number RX12 5) (hfr : 2 ≤ (xR X).frames) (hlo : 41 ≤ (xR X).locals) (hr : (xM X).sig.returnType = none) (r0 : Option Nat) (x1 : Int32) (x4 : Int32) : Sim X 5 (FiM X vV) 109 [(0, va_rf r0), (1, .int x1), (4, .int x4)] [] (f_X12_number_109 r0 x1 x4) := by
  unfold f_X12_number_109
  refine sm_aload_n cx 0 dX12_number_109 rfl rfl ?_
  refine sm_bipush (v := 100) cx dX12_number_110 (by decide) ?_
  refine sm_iload_n cx 1 dX12_number_112 rfl rfl ?_
  refine sm_imul cx dX12_number_113 ?_
  refine sm_iload cx 2 dX12_number_114 rfl ?_
  refine sm_iadd cx dX12_number_116 ?_
  refine sm_callV (T := TX12) (N := 47) (toV := vV) cx [.int (((100 : Int32) * x1) + x4)] rfl cv_X12_171 (fun a h => ct_X12_emits (xZ X) a h (((100 : Int32) * x1) + x4)) (Nat.le_trans (by decide) hfr) (Nat.le_trans (by decide) hlo) rfl (cat_le _ (Nat.le_of_ble_eq_true rfl)) dX12_number_117 (fun _ => ?_)
  exact sm_vret cx hr dX12_number_120
def f_X12_number_97 (r0 : Option Nat) (x1 : Int32) (x2 : Int32) (x3 : Int32) (x4 : Int32) : Mo Unit := (if x4 < x2 then f_X12_number_109 r0 x1 x4 else mb (mo 15 r0 (f_X12_wrong r0 (2 : Int32) x3)) (fun _ => f_X12_number_109 r0 x1 x4))
set_option maxRecDepth 100000 in
set_option maxHeartbeats 4000000 in
theorem s_X12_number_97 {X : Cg} (cx : Cx X cX12_number RX12 5) (hfr : 2 ≤ (xR X).frames) (hlo : 41 ≤ (xR X).locals) (hr : (xM X).sig.returnType = none) (r0 : Option Nat) (x1 : Int32) (x2 : Int32) (x3 : Int32) (x4 : Int32) : Sim X 5 (FiM X vV) 97 [(0, va_rf r0), (1, .int x1), (2, .int x2), (3, .int x3), (4, .int x4)] [] (f_X12_number_97 r0 x1 x2 x3 x4) := by
  unfold f_X12_number_97
  refine sm_iload cx 4 dX12_number_97 rfl ?_
  refine sm_iload_n cx 2 dX12_number_99 rfl rfl ?_
  refine sm_icmp_lt (tgt := 109) cx dX12_number_100 (by decide) ?_ ?_
  · exact sm_lv [0, 1, 4] rfl (s_X12_number_109 cx hfr hlo hr r0 x1 x4)
  · refine sm_aload_n cx 0 dX12_number_103 rfl rfl ?_
    refine sm_iconst (v := 2) cx dX12_number_104 (by decide) ?_
    refine sm_iload_n cx 3 dX12_number_105 rfl rfl ?_
    refine sm_callV (T := TX12) (N := 47) (toV := vV) cx [.int (2 : Int32), .int x3] rfl cv_X12_183 (fun a h => ct_X12_wrong (xZ X) a h (2 : Int32) x3) (Nat.le_trans (by decide) hfr) (Nat.le_trans (by decide) hlo) rfl (cat_le _ (Nat.le_of_ble_eq_true rfl)) dX12_number_106 (fun _ => ?_)
    exact sm_lv [0, 1, 4] rfl (s_X12_number_109 cx hfr hlo hr r0 x1 x4)
def f_X12_number_83 (r0 : Option Nat) (x1 : Int32) (x2 : Int32) (x3 : Int32) (x4 : Int32) : Mo Unit := mb (gI 15 17 r0) (fun v84 => (if v84 = x3 then mb (mo 15 r0 (f_X12_wrong r0 (1 : Int32) x3)) (fun _ => f_X12_number_97 r0 x1 x2 x3 x4) else f_X12_number_97 r0 x1 x2 x3 x4))
set_option maxRecDepth 100000 in
set_option maxHeartbeats 4000000 in
theorem s_X12_number_83 {X : Cg} (cx : Cx X cX12_number RX12 5) (hfr : 2 ≤ (xR X).frames) (hlo : 41 ≤ (xR X).locals) (hr : (xM X).sig.returnType = none) (r0 : Option Nat) (x1 : Int32) (x2 : Int32) (x3 : Int32) (x4 : Int32) : Sim X 5 (FiM X vV) 83 [(0, va_rf r0), (1, .int x1), (2, .int x2), (3, .int x3), (4, .int x4)] [] (f_X12_number_83 r0 x1 x2 x3 x4) := by
  unfold f_X12_number_83
  refine sm_aload_n cx 0 dX12_number_83 rfl rfl ?_
  refine sm_getI cx fl_X12_134 dX12_number_84 (fun v84 => ?_)
  refine sm_iload_n cx 3 dX12_number_87 rfl rfl ?_
  refine sm_icmp_ne (tgt := 97) cx dX12_number_88 (by decide) ?_ ?_
  · exact sm_lv [0, 1, 2, 3, 4] rfl (s_X12_number_97 cx hfr hlo hr r0 x1 x2 x3 x4)
  · refine sm_aload_n cx 0 dX12_number_91 rfl rfl ?_
    refine sm_iconst (v := 1) cx dX12_number_92 (by decide) ?_
    refine sm_iload_n cx 3 dX12_number_93 rfl rfl ?_
    refine sm_callV (T := TX12) (N := 47) (toV := vV) cx [.int (1 : Int32), .int x3] rfl cv_X12_183 (fun a h => ct_X12_wrong (xZ X) a h (1 : Int32) x3) (Nat.le_trans (by decide) hfr) (Nat.le_trans (by decide) hlo) rfl (cat_le _ (Nat.le_of_ble_eq_true rfl)) dX12_number_94 (fun _ => ?_)
    exact sm_lv [0, 1, 2, 3, 4] rfl (s_X12_number_97 cx hfr hlo hr r0 x1 x2 x3 x4)
def f_X12_number_12 (r0 : Option Nat) (x1 : Int32) (x2 : Int32) (x3 : Int32) : Nat → Int32 → Mo Unit
  | 0, _ => mf
  | n + 1, x4 => mb (gI 15 17 r0) (fun v14 => mb (mo 15 r0 (f_X12_byteAt r0 v14)) (fun v17 => (if v17 < (48 : Int32) then f_X12_number_83 r0 x1 x2 x3 x4 else mb (gI 15 17 r0) (fun v27 => mb (mo 15 r0 (f_X12_byteAt r0 v27)) (fun v30 => (if (57 : Int32) < v30 then f_X12_number_83 r0 x1 x2 x3 x4 else (if x4 ≤ (1000 : Int32) then mb (gI 15 17 r0) (fun v58 => mb (mo 15 r0 (f_X12_byteAt r0 v58)) (fun v61 => f_X12_number_68 (f_X12_number_12 r0 x1 x2 x3 n) r0 x1 x2 x3 ((((10 : Int32) * x4) + v61) - (48 : Int32)))) else f_X12_number_68 (f_X12_number_12 r0 x1 x2 x3 n) r0 x1 x2 x3 x4)))))))
set_option maxRecDepth 100000 in
set_option maxHeartbeats 4000000 in
theorem s_X12_number_12 {X : Cg} (cx : Cx X cX12_number RX12 5) (hfr : 2 ≤ (xR X).frames) (hlo : 41 ≤ (xR X).locals) (hr : (xM X).sig.returnType = none) (r0 : Option Nat) (x1 : Int32) (x2 : Int32) (x3 : Int32) : ∀ (n : Nat) (x4 : Int32), Sim X 5 (FiM X vV) 12 [(0, va_rf r0), (1, .int x1), (2, .int x2), (3, .int x3), (4, .int x4)] [] (f_X12_number_12 r0 x1 x2 x3 n x4) := by
  intro n
  induction n with
  | zero =>
    intro _
    exact sm_mf
  | succ n ih =>
    intro x4
    rw [f_X12_number_12]
    refine sm_aload_n cx 0 dX12_number_12 rfl rfl ?_
    refine sm_aload_n cx 0 dX12_number_13 rfl rfl ?_
    refine sm_getI cx fl_X12_134 dX12_number_14 (fun v14 => ?_)
    refine sm_callV (T := TX12) (N := 47) (toV := vI) cx [.int v14] rfl cv_X12_137 (fun a h => ct_X12_byteAt (xZ X) a h v14) (Nat.le_trans (by decide) hfr) (Nat.le_trans (by decide) hlo) rfl (cat_le _ (Nat.le_of_ble_eq_true rfl)) dX12_number_17 (fun v17 => ?_)
    refine sm_bipush (v := 48) cx dX12_number_20 (by decide) ?_
    refine sm_icmp_lt (tgt := 83) cx dX12_number_22 (by decide) ?_ ?_
    · exact sm_lv [0, 1, 2, 3, 4] rfl (s_X12_number_83 cx hfr hlo hr r0 x1 x2 x3 x4)
    · refine sm_aload_n cx 0 dX12_number_25 rfl rfl ?_
      refine sm_aload_n cx 0 dX12_number_26 rfl rfl ?_
      refine sm_getI cx fl_X12_134 dX12_number_27 (fun v27 => ?_)
      refine sm_callV (T := TX12) (N := 47) (toV := vI) cx [.int v27] rfl cv_X12_137 (fun a h => ct_X12_byteAt (xZ X) a h v27) (Nat.le_trans (by decide) hfr) (Nat.le_trans (by decide) hlo) rfl (cat_le _ (Nat.le_of_ble_eq_true rfl)) dX12_number_30 (fun v30 => ?_)
      refine sm_bipush (v := 57) cx dX12_number_33 (by decide) ?_
      refine sm_icmp_gt (tgt := 83) cx dX12_number_35 (by decide) ?_ ?_
      · exact sm_lv [0, 1, 2, 3, 4] rfl (s_X12_number_83 cx hfr hlo hr r0 x1 x2 x3 x4)
      · refine sm_iload cx 4 dX12_number_38 rfl ?_
        refine sm_sipush (v := 1000) cx dX12_number_40 (by decide) ?_
        refine sm_icmp_le (tgt := 51) cx dX12_number_43 (by decide) ?_ ?_
        · refine sm_bipush (v := 10) cx dX12_number_51 (by decide) ?_
          refine sm_iload cx 4 dX12_number_53 rfl ?_
          refine sm_imul cx dX12_number_55 ?_
          refine sm_aload_n cx 0 dX12_number_56 rfl rfl ?_
          refine sm_aload_n cx 0 dX12_number_57 rfl rfl ?_
          refine sm_getI cx fl_X12_134 dX12_number_58 (fun v58 => ?_)
          refine sm_callV (T := TX12) (N := 47) (toV := vI) cx [.int v58] rfl cv_X12_137 (fun a h => ct_X12_byteAt (xZ X) a h v58) (Nat.le_trans (by decide) hfr) (Nat.le_trans (by decide) hlo) rfl (cat_le _ (Nat.le_of_ble_eq_true rfl)) dX12_number_61 (fun v61 => ?_)
          refine sm_iadd cx dX12_number_64 ?_
          refine sm_bipush (v := 48) cx dX12_number_65 (by decide) ?_
          refine sm_isub cx dX12_number_67 ?_
          exact sm_lv [0, 1, 2, 3] rfl (s_X12_number_68 cx hfr hlo hr r0 x1 x2 x3 ((((10 : Int32) * x4) + v61) - (48 : Int32)) ih)
        · refine sm_iload cx 4 dX12_number_46 rfl ?_
          refine sm_goto (tgt := 68) cx dX12_number_48 (by decide) ?_
          exact sm_lv [0, 1, 2, 3] rfl (s_X12_number_68 cx hfr hlo hr r0 x1 x2 x3 x4 ih)
def f_X12_number (r0 : Option Nat) (x1 : Int32) (x2 : Int32) : Mo Unit := mb (mo 15 r0 (f_X12_blanks r0)) (fun _ => mb (gI 15 17 r0) (fun v5 => f_X12_number_12 r0 x1 x2 v5 fuL (0 : Int32)))
set_option maxRecDepth 100000 in
set_option maxHeartbeats 4000000 in
theorem s_X12_number {X : Cg} (cx : Cx X cX12_number RX12 5) (hfr : 2 ≤ (xR X).frames) (hlo : 41 ≤ (xR X).locals) (hr : (xM X).sig.returnType = none) (r0 : Option Nat) (x1 : Int32) (x2 : Int32) : Sim X 5 (FiM X vV) 0 [(0, va_rf r0), (1, .int x1), (2, .int x2)] [] (f_X12_number r0 x1 x2) := by
  unfold f_X12_number
  refine sm_aload_n cx 0 dX12_number_0 rfl rfl ?_
  refine sm_callV (T := TX12) (N := 47) (toV := vV) cx [] rfl cv_X12_143 (fun a h => ct_X12_blanks (xZ X) a h) (Nat.le_trans (by decide) hfr) (Nat.le_trans (by decide) hlo) rfl (cat_le _ (Nat.le_of_ble_eq_true rfl)) dX12_number_1 (fun _ => ?_)
  refine sm_aload_n cx 0 dX12_number_4 rfl rfl ?_
  refine sm_getI cx fl_X12_134 dX12_number_5 (fun v5 => ?_)
  refine sm_istore_n cx [(3, .int v5), (0, va_rf r0), (1, .int x1), (2, .int x2)] dX12_number_8 rfl (by decide) rfl (nc1 rfl) rfl ?_
  refine sm_iconst (v := 0) cx dX12_number_9 (by decide) ?_
  refine sm_istore cx [(4, .int (0 : Int32)), (3, .int v5), (0, va_rf r0), (1, .int x1), (2, .int x2)] dX12_number_10 (by decide) rfl (nc1 rfl) rfl ?_
  exact sm_lv [2, 3, 4, 1, 0] rfl (s_X12_number_12 cx hfr hlo hr r0 x1 x2 v5 fuL (0 : Int32))
set_option maxRecDepth 100000 in
set_option maxHeartbeats 4000000 in
theorem ct_X12_number (Z : Nat → Nat) {r0 : Option Nat} (a0 : Nat) (h0 : r0 = some a0) (x1 : Int32) (x2 : Int32) : Ct yX12_number cX12_number 5 none 2 41 Z [.ref a0, .int x1, .int x2] vV (f_X12_number r0 x1 x2) := by
  subst h0
  refine ct_of (lv0 := [(0, va_rf (some a0)), (1, .int x1), (2, .int x2)]) (by decide +kernel) (by simp [lg_sl, ct_i, ct_l, ct_r, rf_cat]) (by show _ = ([(0, Value.ref a0), (1, .int x1), (2, .int x2)] : List (Nat × Value)); simp [lv_args, ct_i, ct_l, ct_r, rf_cat]) (fun X cx hZ hfr hlo hr hin => ?_)
  subst hZ
  exact s_X12_number cx (Nat.le_of_eq hfr.symm) (Nat.le_of_eq hlo.symm) hr (some a0) x1 x2
/-! PolicyTreeModel.one()V -/
theorem dX12_one_0 : decode cX12_one 0 = .ok (.aload_n 0, 1) := by decide +kernel
theorem dX12_one_1 : decode cX12_one 1 = .ok (.getfield 140, 3) := by decide +kernel
theorem dX12_one_4 : decode cX12_one 4 = .ok (.ifCond .le 4, 3) := by decide +kernel
theorem dX12_one_7 : decode cX12_one 7 = .ok (.return_, 1) := by decide +kernel
theorem dX12_one_8 : decode cX12_one 8 = .ok (.aload_n 0, 1) := by decide +kernel
theorem dX12_one_9 : decode cX12_one 9 = .ok (.ldc 187, 2) := by decide +kernel
theorem dX12_one_11 : decode cX12_one 11 = .ok (.invokevirtual 156, 3) := by decide +kernel
theorem dX12_one_14 : decode cX12_one 14 = .ok (.ifCond .eq 43, 3) := by decide +kernel
theorem dX12_one_17 : decode cX12_one 17 = .ok (.aload_n 0, 1) := by decide +kernel
theorem dX12_one_18 : decode cX12_one 18 = .ok (.invokevirtual 189, 3) := by decide +kernel
theorem dX12_one_21 : decode cX12_one 21 = .ok (.ifCond .ne 4, 3) := by decide +kernel
theorem dX12_one_24 : decode cX12_one 24 = .ok (.return_, 1) := by decide +kernel
theorem dX12_one_25 : decode cX12_one 25 = .ok (.aload_n 0, 1) := by decide +kernel
theorem dX12_one_26 : decode cX12_one 26 = .ok (.dup, 1) := by decide +kernel
theorem dX12_one_27 : decode cX12_one 27 = .ok (.getfield 134, 3) := by decide +kernel
theorem dX12_one_30 : decode cX12_one 30 = .ok (.iconst 3, 1) := by decide +kernel
theorem dX12_one_31 : decode cX12_one 31 = .ok (.iadd, 1) := by decide +kernel
theorem dX12_one_32 : decode cX12_one 32 = .ok (.putfield 134, 3) := by decide +kernel
theorem dX12_one_35 : decode cX12_one 35 = .ok (.aload_n 0, 1) := by decide +kernel
theorem dX12_one_36 : decode cX12_one 36 = .ok (.invokevirtual 175, 3) := by decide +kernel
theorem dX12_one_39 : decode cX12_one 39 = .ok (.aload_n 0, 1) := by decide +kernel
theorem dX12_one_40 : decode cX12_one 40 = .ok (.dup, 1) := by decide +kernel
theorem dX12_one_41 : decode cX12_one 41 = .ok (.getfield 180, 3) := by decide +kernel
theorem dX12_one_44 : decode cX12_one 44 = .ok (.iconst 1, 1) := by decide +kernel
theorem dX12_one_45 : decode cX12_one 45 = .ok (.isub, 1) := by decide +kernel
theorem dX12_one_46 : decode cX12_one 46 = .ok (.putfield 180, 3) := by decide +kernel
theorem dX12_one_49 : decode cX12_one 49 = .ok (.aload_n 0, 1) := by decide +kernel
theorem dX12_one_50 : decode cX12_one 50 = .ok (.iconst 2, 1) := by decide +kernel
theorem dX12_one_51 : decode cX12_one 51 = .ok (.invokevirtual 171, 3) := by decide +kernel
theorem dX12_one_54 : decode cX12_one 54 = .ok (.goto 157, 3) := by decide +kernel
theorem dX12_one_57 : decode cX12_one 57 = .ok (.aload_n 0, 1) := by decide +kernel
theorem dX12_one_58 : decode cX12_one 58 = .ok (.aload_n 0, 1) := by decide +kernel
theorem dX12_one_59 : decode cX12_one 59 = .ok (.getfield 134, 3) := by decide +kernel
theorem dX12_one_62 : decode cX12_one 62 = .ok (.invokevirtual 137, 3) := by decide +kernel
theorem dX12_one_65 : decode cX12_one 65 = .ok (.bipush 40, 2) := by decide +kernel
theorem dX12_one_67 : decode cX12_one 67 = .ok (.if_icmp .ne 74, 3) := by decide +kernel
theorem dX12_one_70 : decode cX12_one 70 = .ok (.aload_n 0, 1) := by decide +kernel
theorem dX12_one_71 : decode cX12_one 71 = .ok (.invokevirtual 189, 3) := by decide +kernel
theorem dX12_one_74 : decode cX12_one 74 = .ok (.ifCond .ne 4, 3) := by decide +kernel
theorem dX12_one_77 : decode cX12_one 77 = .ok (.return_, 1) := by decide +kernel
theorem dX12_one_78 : decode cX12_one 78 = .ok (.aload_n 0, 1) := by decide +kernel
theorem dX12_one_79 : decode cX12_one 79 = .ok (.dup, 1) := by decide +kernel
theorem dX12_one_80 : decode cX12_one 80 = .ok (.getfield 134, 3) := by decide +kernel
theorem dX12_one_83 : decode cX12_one 83 = .ok (.iconst 1, 1) := by decide +kernel
theorem dX12_one_84 : decode cX12_one 84 = .ok (.iadd, 1) := by decide +kernel
theorem dX12_one_85 : decode cX12_one 85 = .ok (.putfield 134, 3) := by decide +kernel
theorem dX12_one_88 : decode cX12_one 88 = .ok (.aload_n 0, 1) := by decide +kernel
theorem dX12_one_89 : decode cX12_one 89 = .ok (.invokevirtual 193, 3) := by decide +kernel
theorem dX12_one_92 : decode cX12_one 92 = .ok (.aload_n 0, 1) := by decide +kernel
theorem dX12_one_93 : decode cX12_one 93 = .ok (.invokevirtual 143, 3) := by decide +kernel
theorem dX12_one_96 : decode cX12_one 96 = .ok (.aload_n 0, 1) := by decide +kernel
theorem dX12_one_97 : decode cX12_one 97 = .ok (.aload_n 0, 1) := by decide +kernel
theorem dX12_one_98 : decode cX12_one 98 = .ok (.getfield 134, 3) := by decide +kernel
theorem dX12_one_101 : decode cX12_one 101 = .ok (.invokevirtual 137, 3) := by decide +kernel
theorem dX12_one_104 : decode cX12_one 104 = .ok (.bipush 41, 2) := by decide +kernel
theorem dX12_one_106 : decode cX12_one 106 = .ok (.if_icmp .eq 12, 3) := by decide +kernel
theorem dX12_one_109 : decode cX12_one 109 = .ok (.aload_n 0, 1) := by decide +kernel
theorem dX12_one_110 : decode cX12_one 110 = .ok (.iconst 1, 1) := by decide +kernel
theorem dX12_one_111 : decode cX12_one 111 = .ok (.aload_n 0, 1) := by decide +kernel
theorem dX12_one_112 : decode cX12_one 112 = .ok (.getfield 134, 3) := by decide +kernel
theorem dX12_one_115 : decode cX12_one 115 = .ok (.invokevirtual 183, 3) := by decide +kernel
theorem dX12_one_118 : decode cX12_one 118 = .ok (.aload_n 0, 1) := by decide +kernel
theorem dX12_one_119 : decode cX12_one 119 = .ok (.dup, 1) := by decide +kernel
theorem dX12_one_120 : decode cX12_one 120 = .ok (.getfield 134, 3) := by decide +kernel
theorem dX12_one_123 : decode cX12_one 123 = .ok (.iconst 1, 1) := by decide +kernel
theorem dX12_one_124 : decode cX12_one 124 = .ok (.iadd, 1) := by decide +kernel
theorem dX12_one_125 : decode cX12_one 125 = .ok (.putfield 134, 3) := by decide +kernel
theorem dX12_one_128 : decode cX12_one 128 = .ok (.aload_n 0, 1) := by decide +kernel
theorem dX12_one_129 : decode cX12_one 129 = .ok (.dup, 1) := by decide +kernel
theorem dX12_one_130 : decode cX12_one 130 = .ok (.getfield 180, 3) := by decide +kernel
theorem dX12_one_133 : decode cX12_one 133 = .ok (.iconst 1, 1) := by decide +kernel
theorem dX12_one_134 : decode cX12_one 134 = .ok (.isub, 1) := by decide +kernel
theorem dX12_one_135 : decode cX12_one 135 = .ok (.putfield 180, 3) := by decide +kernel
theorem dX12_one_138 : decode cX12_one 138 = .ok (.goto 73, 3) := by decide +kernel
theorem dX12_one_141 : decode cX12_one 141 = .ok (.aload_n 0, 1) := by decide +kernel
theorem dX12_one_142 : decode cX12_one 142 = .ok (.ldc 196, 2) := by decide +kernel
theorem dX12_one_144 : decode cX12_one 144 = .ok (.invokevirtual 168, 3) := by decide +kernel
theorem dX12_one_147 : decode cX12_one 147 = .ok (.ifCond .eq 15, 3) := by decide +kernel
theorem dX12_one_150 : decode cX12_one 150 = .ok (.aload_n 0, 1) := by decide +kernel
theorem dX12_one_151 : decode cX12_one 151 = .ok (.iconst 1, 1) := by decide +kernel
theorem dX12_one_152 : decode cX12_one 152 = .ok (.aload_n 0, 1) := by decide +kernel
theorem dX12_one_153 : decode cX12_one 153 = .ok (.getfield 111, 3) := by decide +kernel
theorem dX12_one_156 : decode cX12_one 156 = .ok (.invokevirtual 198, 3) := by decide +kernel
theorem dX12_one_159 : decode cX12_one 159 = .ok (.goto 52, 3) := by decide +kernel
theorem dX12_one_162 : decode cX12_one 162 = .ok (.aload_n 0, 1) := by decide +kernel
theorem dX12_one_163 : decode cX12_one 163 = .ok (.ldc 201, 2) := by decide +kernel
theorem dX12_one_165 : decode cX12_one 165 = .ok (.invokevirtual 168, 3) := by decide +kernel
theorem dX12_one_168 : decode cX12_one 168 = .ok (.ifCond .eq 13, 3) := by decide +kernel
theorem dX12_one_171 : decode cX12_one 171 = .ok (.aload_n 0, 1) := by decide +kernel
theorem dX12_one_172 : decode cX12_one 172 = .ok (.iconst 2, 1) := by decide +kernel
theorem dX12_one_173 : decode cX12_one 173 = .ok (.bipush 8, 2) := by decide +kernel
theorem dX12_one_175 : decode cX12_one 175 = .ok (.invokevirtual 198, 3) := by decide +kernel
theorem dX12_one_178 : decode cX12_one 178 = .ok (.goto 33, 3) := by decide +kernel
theorem dX12_one_181 : decode cX12_one 181 = .ok (.aload_n 0, 1) := by decide +kernel
theorem dX12_one_182 : decode cX12_one 182 = .ok (.ldc 203, 2) := by decide +kernel
theorem dX12_one_184 : decode cX12_one 184 = .ok (.invokevirtual 168, 3) := by decide +kernel
theorem dX12_one_187 : decode cX12_one 187 = .ok (.ifCond .eq 15, 3) := by decide +kernel
theorem dX12_one_190 : decode cX12_one 190 = .ok (.aload_n 0, 1) := by decide +kernel
theorem dX12_one_191 : decode cX12_one 191 = .ok (.iconst 3, 1) := by decide +kernel
theorem dX12_one_192 : decode cX12_one 192 = .ok (.aload_n 0, 1) := by decide +kernel
theorem dX12_one_193 : decode cX12_one 193 = .ok (.getfield 94, 3) := by decide +kernel
theorem dX12_one_196 : decode cX12_one 196 = .ok (.invokevirtual 198, 3) := by decide +kernel
theorem dX12_one_199 : decode cX12_one 199 = .ok (.goto 12, 3) := by decide +kernel
theorem dX12_one_202 : decode cX12_one 202 = .ok (.aload_n 0, 1) := by decide +kernel
theorem dX12_one_203 : decode cX12_one 203 = .ok (.iconst 1, 1) := by decide +kernel
theorem dX12_one_204 : decode cX12_one 204 = .ok (.aload_n 0, 1) := by decide +kernel
theorem dX12_one_205 : decode cX12_one 205 = .ok (.getfield 134, 3) := by decide +kernel
theorem dX12_one_208 : decode cX12_one 208 = .ok (.invokevirtual 183, 3) := by decide +kernel
theorem dX12_one_211 : decode cX12_one 211 = .ok (.return_, 1) := by decide +kernel
def f_X12_one_211 (Z : Nat → Nat) (g1 : Option Nat → Mo Unit) (g2 : Option Nat → Mo Unit) : Mo Unit := mp ()
set_option maxRecDepth 100000 in
set_option maxHeartbeats 4000000 in
theorem s_X12_one_211 {X : Cg} (cx : Cx X cX12_one RX12 1) (hfr : 6 ≤ (xR X).frames) (hlo : 129 ≤ (xR X).locals) (hr : (xM X).sig.returnType = none) {g1 : Option Nat → Mo Unit} {fo1 lo1 : Nat} (c1 : ∀ {r9 : Option Nat} (a9 : Nat), r9 = some a9 → Ct yX12_any cX12_any 1 none fo1 lo1 (xZ X) [.ref a9] vV (g1 r9)) (hfo1 : fo1 + 1 ≤ (xR X).frames) (hlo1 : 8 + (1 + 11) + lo1 ≤ (xR X).locals) {g2 : Option Nat → Mo Unit} {fo2 lo2 : Nat} (c2 : ∀ {r9 : Option Nat} (a9 : Nat), r9 = some a9 → Ct yX12_one cX12_one 1 none fo2 lo2 (xZ X) [.ref a9] vV (g2 r9)) (hfo2 : fo2 + 1 ≤ (xR X).frames) (hlo2 : 8 + (1 + 11) + lo2 ≤ (xR X).locals) : Sim X 1 (FiM X vV) 211 [] [] (f_X12_one_211 (xZ X) g1 g2) := by
  unfold f_X12_one_211
  exact sm_vret cx hr dX12_one_211
def f_X12_one_118 (Z : Nat → Nat) (g1 : Option Nat → Mo Unit) (g2 : Option Nat → Mo Unit) (r0 : Option Nat) : Mo Unit := mb (gI 15 17 r0) (fun v120 => mb (pV 15 17 r0 (.int (v120 + (1 : Int32)))) (fun _ => mb (gI 15 20 r0) (fun v130 => mb (pV 15 20 r0 (.int (v130 - (1 : Int32)))) (fun _ => f_X12_one_211 Z g1 g2))))
set_option maxRecDepth 100000 in
set_option maxHeartbeats 4000000 in
theorem s_X12_one_118 {X : Cg} (cx : Cx X cX12_one RX12 1) (hfr : 6 ≤ (xR X).frames) (hlo : 129 ≤ (xR X).locals) (hr : (xM X).sig.returnType = none) {g1 : Option Nat → Mo Unit} {fo1 lo1 : Nat} (c1 : ∀ {r9 : Option Nat} (a9 : Nat), r9 = some a9 → Ct yX12_any cX12_any 1 none fo1 lo1 (xZ X) [.ref a9] vV (g1 r9)) (hfo1 : fo1 + 1 ≤ (xR X).frames) (hlo1 : 8 + (1 + 11) + lo1 ≤ (xR X).locals) {g2 : Option Nat → Mo Unit} {fo2 lo2 : Nat} (c2 : ∀ {r9 : Option Nat} (a9 : Nat), r9 = some a9 → Ct yX12_one cX12_one 1 none fo2 lo2 (xZ X) [.ref a9] vV (g2 r9)) (hfo2 : fo2 + 1 ≤ (xR X).frames) (hlo2 : 8 + (1 + 11) + lo2 ≤ (xR X).locals) (r0 : Option Nat) : Sim X 1 (FiM X vV) 118 [(0, va_rf r0)] [] (f_X12_one_118 (xZ X) g1 g2 r0) := by
  unfold f_X12_one_118
  refine sm_aload_n cx 0 dX12_one_118 rfl rfl ?_
  refine sm_dup cx dX12_one_119 (rf_cat _) ?_
  refine sm_getI cx fl_X12_134 dX12_one_120 (fun v120 => ?_)
  refine sm_iconst (v := 1) cx dX12_one_123 (by decide) ?_
  refine sm_iadd cx dX12_one_124 ?_
  refine sm_putV cx fl_X12_134 rfl rfl dX12_one_125 ?_
  refine sm_aload_n cx 0 dX12_one_128 rfl rfl ?_
  refine sm_dup cx dX12_one_129 (rf_cat _) ?_
  refine sm_getI cx fl_X12_180 dX12_one_130 (fun v130 => ?_)
  refine sm_iconst (v := 1) cx dX12_one_133 (by decide) ?_
  refine sm_isub cx dX12_one_134 ?_
  refine sm_putV cx fl_X12_180 rfl rfl dX12_one_135 ?_
  refine sm_goto (tgt := 211) cx dX12_one_138 (by decide) ?_
  exact sm_lv [] rfl (s_X12_one_211 cx hfr hlo hr c1 hfo1 hlo1 c2 hfo2 hlo2)
def f_X12_one (Z : Nat → Nat) (g1 : Option Nat → Mo Unit) (g2 : Option Nat → Mo Unit) (r0 : Option Nat) : Mo Unit := mb (gI 15 18 r0) (fun v1 => (if v1 ≤ 0 then mb (mo 15 r0 (f_X12_isWord Z r0 (some (Z 10)))) (fun v11 => (if v11 = 0 then mb (gI 15 17 r0) (fun v59 => mb (mo 15 r0 (f_X12_byteAt r0 v59)) (fun v62 => (if v62 = (40 : Int32) then mb (mo 15 r0 (f_X12_opens r0)) (fun v71 => (if v71 = 0 then mp () else mb (gI 15 17 r0) (fun v80 => mb (pV 15 17 r0 (.int (v80 + (1 : Int32)))) (fun _ => mb (mo 15 r0 (g1 r0)) (fun _ => mb (mo 15 r0 (f_X12_blanks r0)) (fun _ => mb (gI 15 17 r0) (fun v98 => mb (mo 15 r0 (f_X12_byteAt r0 v98)) (fun v101 => (if v101 = (41 : Int32) then f_X12_one_118 Z g1 g2 r0 else mb (gI 15 17 r0) (fun v112 => mb (mo 15 r0 (f_X12_wrong r0 (1 : Int32) v112)) (fun _ => f_X12_one_118 Z g1 g2 r0))))))))))) else mb (mo 15 r0 (f_X12_eat Z r0 (some (Z 11)))) (fun v144 => (if v144 = 0 then mb (mo 15 r0 (f_X12_eat Z r0 (some (Z 12)))) (fun v165 => (if v165 = 0 then mb (mo 15 r0 (f_X12_eat Z r0 (some (Z 13)))) (fun v184 => (if v184 = 0 then mb (gI 15 17 r0) (fun v205 => mb (mo 15 r0 (f_X12_wrong r0 (1 : Int32) v205)) (fun _ => f_X12_one_211 Z g1 g2)) else mb (gI 15 3 r0) (fun v193 => mb (mo 15 r0 (f_X12_number r0 (3 : Int32) v193)) (fun _ => f_X12_one_211 Z g1 g2)))) else mb (mo 15 r0 (f_X12_number r0 (2 : Int32) (8 : Int32))) (fun _ => f_X12_one_211 Z g1 g2))) else mb (gI 15 9 r0) (fun v153 => mb (mo 15 r0 (f_X12_number r0 (1 : Int32) v153)) (fun _ => f_X12_one_211 Z g1 g2))))))) else mb (mo 15 r0 (f_X12_opens r0)) (fun v18 => (if v18 = 0 then mp () else mb (gI 15 17 r0) (fun v27 => mb (pV 15 17 r0 (.int (v27 + (3 : Int32)))) (fun _ => mb (mo 15 r0 (g2 r0)) (fun _ => mb (gI 15 20 r0) (fun v41 => mb (pV 15 20 r0 (.int (v41 - (1 : Int32)))) (fun _ => mb (mo 15 r0 (f_X12_emits r0 (2 : Int32))) (fun _ => f_X12_one_211 Z g1 g2)))))))))) else mp ()))
set_option maxRecDepth 100000 in
set_option maxHeartbeats 4000000 in
theorem s_X12_one {X : Cg} (cx : Cx X cX12_one RX12 1) (hfr : 6 ≤ (xR X).frames) (hlo : 129 ≤ (xR X).locals) (hr : (xM X).sig.returnType = none) {g1 : Option Nat → Mo Unit} {fo1 lo1 : Nat} (c1 : ∀ {r9 : Option Nat} (a9 : Nat), r9 = some a9 → Ct yX12_any cX12_any 1 none fo1 lo1 (xZ X) [.ref a9] vV (g1 r9)) (hfo1 : fo1 + 1 ≤ (xR X).frames) (hlo1 : 8 + (1 + 11) + lo1 ≤ (xR X).locals) {g2 : Option Nat → Mo Unit} {fo2 lo2 : Nat} (c2 : ∀ {r9 : Option Nat} (a9 : Nat), r9 = some a9 → Ct yX12_one cX12_one 1 none fo2 lo2 (xZ X) [.ref a9] vV (g2 r9)) (hfo2 : fo2 + 1 ≤ (xR X).frames) (hlo2 : 8 + (1 + 11) + lo2 ≤ (xR X).locals) (r0 : Option Nat) : Sim X 1 (FiM X vV) 0 [(0, va_rf r0)] [] (f_X12_one (xZ X) g1 g2 r0) := by
  unfold f_X12_one
  refine sm_aload_n cx 0 dX12_one_0 rfl rfl ?_
  refine sm_getI cx fl_X12_140 dX12_one_1 (fun v1 => ?_)
  refine sm_if_le (tgt := 8) cx dX12_one_4 (by decide) ?_ ?_
  · refine sm_aload_n cx 0 dX12_one_8 rfl rfl ?_
    refine sm_ldcS cx ("PolicyTreeModel", 187, "not", 0) (List.mem_of_getElem? (i := 6) rfl) rfl rfl dX12_one_9 ?_
    refine sm_callV (T := TX12) (N := 47) (toV := vI) cx [va_rf (some ((xZ X) 10))] rfl cv_X12_156 (fun a h => ct_X12_isWord (xZ X) a h (some ((xZ X) 10))) (Nat.le_trans (by decide) hfr) (Nat.le_trans (by decide) hlo) rfl (cat_le _ (Nat.le_of_ble_eq_true rfl)) dX12_one_11 (fun v11 => ?_)
    refine sm_if_eq (tgt := 57) cx dX12_one_14 (by decide) ?_ ?_
    · refine sm_aload_n cx 0 dX12_one_57 rfl rfl ?_
      refine sm_aload_n cx 0 dX12_one_58 rfl rfl ?_
      refine sm_getI cx fl_X12_134 dX12_one_59 (fun v59 => ?_)
      refine sm_callV (T := TX12) (N := 47) (toV := vI) cx [.int v59] rfl cv_X12_137 (fun a h => ct_X12_byteAt (xZ X) a h v59) (Nat.le_trans (by decide) hfr) (Nat.le_trans (by decide) hlo) rfl (cat_le _ (Nat.le_of_ble_eq_true rfl)) dX12_one_62 (fun v62 => ?_)
      refine sm_bipush (v := 40) cx dX12_one_65 (by decide) ?_
      refine sm_icmp_ne (tgt := 141) cx dX12_one_67 (by decide) ?_ ?_
      · refine sm_aload_n cx 0 dX12_one_141 rfl rfl ?_
        refine sm_ldcS cx ("PolicyTreeModel", 196, "group", 1) (List.mem_of_getElem? (i := 7) rfl) rfl rfl dX12_one_142 ?_
        refine sm_callV (T := TX12) (N := 47) (toV := vI) cx [va_rf (some ((xZ X) 11))] rfl cv_X12_168 (fun a h => ct_X12_eat (xZ X) a h (some ((xZ X) 11))) (Nat.le_trans (by decide) hfr) (Nat.le_trans (by decide) hlo) rfl (cat_le _ (Nat.le_of_ble_eq_true rfl)) dX12_one_144 (fun v144 => ?_)
        refine sm_if_eq (tgt := 162) cx dX12_one_147 (by decide) ?_ ?_
        · refine sm_aload_n cx 0 dX12_one_162 rfl rfl ?_
          refine sm_ldcS cx ("PolicyTreeModel", 201, "fact", 2) (List.mem_of_getElem? (i := 8) rfl) rfl rfl dX12_one_163 ?_
          refine sm_callV (T := TX12) (N := 47) (toV := vI) cx [va_rf (some ((xZ X) 12))] rfl cv_X12_168 (fun a h => ct_X12_eat (xZ X) a h (some ((xZ X) 12))) (Nat.le_trans (by decide) hfr) (Nat.le_trans (by decide) hlo) rfl (cat_le _ (Nat.le_of_ble_eq_true rfl)) dX12_one_165 (fun v165 => ?_)
          refine sm_if_eq (tgt := 181) cx dX12_one_168 (by decide) ?_ ?_
          · refine sm_aload_n cx 0 dX12_one_181 rfl rfl ?_
            refine sm_ldcS cx ("PolicyTreeModel", 203, "node", 3) (List.mem_of_getElem? (i := 9) rfl) rfl rfl dX12_one_182 ?_
            refine sm_callV (T := TX12) (N := 47) (toV := vI) cx [va_rf (some ((xZ X) 13))] rfl cv_X12_168 (fun a h => ct_X12_eat (xZ X) a h (some ((xZ X) 13))) (Nat.le_trans (by decide) hfr) (Nat.le_trans (by decide) hlo) rfl (cat_le _ (Nat.le_of_ble_eq_true rfl)) dX12_one_184 (fun v184 => ?_)
            refine sm_if_eq (tgt := 202) cx dX12_one_187 (by decide) ?_ ?_
            · refine sm_aload_n cx 0 dX12_one_202 rfl rfl ?_
              refine sm_iconst (v := 1) cx dX12_one_203 (by decide) ?_
              refine sm_aload_n cx 0 dX12_one_204 rfl rfl ?_
              refine sm_getI cx fl_X12_134 dX12_one_205 (fun v205 => ?_)
              refine sm_callV (T := TX12) (N := 47) (toV := vV) cx [.int (1 : Int32), .int v205] rfl cv_X12_183 (fun a h => ct_X12_wrong (xZ X) a h (1 : Int32) v205) (Nat.le_trans (by decide) hfr) (Nat.le_trans (by decide) hlo) rfl (cat_le _ (Nat.le_of_ble_eq_true rfl)) dX12_one_208 (fun _ => ?_)
              exact sm_lv [] rfl (s_X12_one_211 cx hfr hlo hr c1 hfo1 hlo1 c2 hfo2 hlo2)
            · refine sm_aload_n cx 0 dX12_one_190 rfl rfl ?_
              refine sm_iconst (v := 3) cx dX12_one_191 (by decide) ?_
              refine sm_aload_n cx 0 dX12_one_192 rfl rfl ?_
              refine sm_getI cx fl_X12_94 dX12_one_193 (fun v193 => ?_)
              refine sm_callV (T := TX12) (N := 47) (toV := vV) cx [.int (3 : Int32), .int v193] rfl cv_X12_198 (fun a h => ct_X12_number (xZ X) a h (3 : Int32) v193) (Nat.le_trans (by decide) hfr) (Nat.le_trans (by decide) hlo) rfl (cat_le _ (Nat.le_of_ble_eq_true rfl)) dX12_one_196 (fun _ => ?_)
              refine sm_goto (tgt := 211) cx dX12_one_199 (by decide) ?_
              exact sm_lv [] rfl (s_X12_one_211 cx hfr hlo hr c1 hfo1 hlo1 c2 hfo2 hlo2)
          · refine sm_aload_n cx 0 dX12_one_171 rfl rfl ?_
            refine sm_iconst (v := 2) cx dX12_one_172 (by decide) ?_
            refine sm_bipush (v := 8) cx dX12_one_173 (by decide) ?_
            refine sm_callV (T := TX12) (N := 47) (toV := vV) cx [.int (2 : Int32), .int (8 : Int32)] rfl cv_X12_198 (fun a h => ct_X12_number (xZ X) a h (2 : Int32) (8 : Int32)) (Nat.le_trans (by decide) hfr) (Nat.le_trans (by decide) hlo) rfl (cat_le _ (Nat.le_of_ble_eq_true rfl)) dX12_one_175 (fun _ => ?_)
            refine sm_goto (tgt := 211) cx dX12_one_178 (by decide) ?_
            exact sm_lv [] rfl (s_X12_one_211 cx hfr hlo hr c1 hfo1 hlo1 c2 hfo2 hlo2)
        · refine sm_aload_n cx 0 dX12_one_150 rfl rfl ?_
          refine sm_iconst (v := 1) cx dX12_one_151 (by decide) ?_
          refine sm_aload_n cx 0 dX12_one_152 rfl rfl ?_
          refine sm_getI cx fl_X12_111 dX12_one_153 (fun v153 => ?_)
          refine sm_callV (T := TX12) (N := 47) (toV := vV) cx [.int (1 : Int32), .int v153] rfl cv_X12_198 (fun a h => ct_X12_number (xZ X) a h (1 : Int32) v153) (Nat.le_trans (by decide) hfr) (Nat.le_trans (by decide) hlo) rfl (cat_le _ (Nat.le_of_ble_eq_true rfl)) dX12_one_156 (fun _ => ?_)
          refine sm_goto (tgt := 211) cx dX12_one_159 (by decide) ?_
          exact sm_lv [] rfl (s_X12_one_211 cx hfr hlo hr c1 hfo1 hlo1 c2 hfo2 hlo2)
      · refine sm_aload_n cx 0 dX12_one_70 rfl rfl ?_
        refine sm_callV (T := TX12) (N := 47) (toV := vI) cx [] rfl cv_X12_189 (fun a h => ct_X12_opens (xZ X) a h) (Nat.le_trans (by decide) hfr) (Nat.le_trans (by decide) hlo) rfl (cat_le _ (Nat.le_of_ble_eq_true rfl)) dX12_one_71 (fun v71 => ?_)
        refine sm_if_ne (tgt := 78) cx dX12_one_74 (by decide) ?_ ?_
        · refine sm_aload_n cx 0 dX12_one_78 rfl rfl ?_
          refine sm_dup cx dX12_one_79 (rf_cat _) ?_
          refine sm_getI cx fl_X12_134 dX12_one_80 (fun v80 => ?_)
          refine sm_iconst (v := 1) cx dX12_one_83 (by decide) ?_
          refine sm_iadd cx dX12_one_84 ?_
          refine sm_putV cx fl_X12_134 rfl rfl dX12_one_85 ?_
          refine sm_aload_n cx 0 dX12_one_88 rfl rfl ?_
          refine sm_callV (T := TX12) (N := 47) (toV := vV) cx [] rfl cv_X12_193 (fun a h => c1 a h) hfo1 hlo1 rfl (cat_le _ (Nat.le_of_ble_eq_true rfl)) dX12_one_89 (fun _ => ?_)
          refine sm_aload_n cx 0 dX12_one_92 rfl rfl ?_
          refine sm_callV (T := TX12) (N := 47) (toV := vV) cx [] rfl cv_X12_143 (fun a h => ct_X12_blanks (xZ X) a h) (Nat.le_trans (by decide) hfr) (Nat.le_trans (by decide) hlo) rfl (cat_le _ (Nat.le_of_ble_eq_true rfl)) dX12_one_93 (fun _ => ?_)
          refine sm_aload_n cx 0 dX12_one_96 rfl rfl ?_
          refine sm_aload_n cx 0 dX12_one_97 rfl rfl ?_
          refine sm_getI cx fl_X12_134 dX12_one_98 (fun v98 => ?_)
          refine sm_callV (T := TX12) (N := 47) (toV := vI) cx [.int v98] rfl cv_X12_137 (fun a h => ct_X12_byteAt (xZ X) a h v98) (Nat.le_trans (by decide) hfr) (Nat.le_trans (by decide) hlo) rfl (cat_le _ (Nat.le_of_ble_eq_true rfl)) dX12_one_101 (fun v101 => ?_)
          refine sm_bipush (v := 41) cx dX12_one_104 (by decide) ?_
          refine sm_icmp_eq (tgt := 118) cx dX12_one_106 (by decide) ?_ ?_
          · exact sm_lv [0] rfl (s_X12_one_118 cx hfr hlo hr c1 hfo1 hlo1 c2 hfo2 hlo2 r0)
          · refine sm_aload_n cx 0 dX12_one_109 rfl rfl ?_
            refine sm_iconst (v := 1) cx dX12_one_110 (by decide) ?_
            refine sm_aload_n cx 0 dX12_one_111 rfl rfl ?_
            refine sm_getI cx fl_X12_134 dX12_one_112 (fun v112 => ?_)
            refine sm_callV (T := TX12) (N := 47) (toV := vV) cx [.int (1 : Int32), .int v112] rfl cv_X12_183 (fun a h => ct_X12_wrong (xZ X) a h (1 : Int32) v112) (Nat.le_trans (by decide) hfr) (Nat.le_trans (by decide) hlo) rfl (cat_le _ (Nat.le_of_ble_eq_true rfl)) dX12_one_115 (fun _ => ?_)
            exact sm_lv [0] rfl (s_X12_one_118 cx hfr hlo hr c1 hfo1 hlo1 c2 hfo2 hlo2 r0)
        · exact sm_vret cx hr dX12_one_77
    · refine sm_aload_n cx 0 dX12_one_17 rfl rfl ?_
      refine sm_callV (T := TX12) (N := 47) (toV := vI) cx [] rfl cv_X12_189 (fun a h => ct_X12_opens (xZ X) a h) (Nat.le_trans (by decide) hfr) (Nat.le_trans (by decide) hlo) rfl (cat_le _ (Nat.le_of_ble_eq_true rfl)) dX12_one_18 (fun v18 => ?_)
      refine sm_if_ne (tgt := 25) cx dX12_one_21 (by decide) ?_ ?_
      · refine sm_aload_n cx 0 dX12_one_25 rfl rfl ?_
        refine sm_dup cx dX12_one_26 (rf_cat _) ?_
        refine sm_getI cx fl_X12_134 dX12_one_27 (fun v27 => ?_)
        refine sm_iconst (v := 3) cx dX12_one_30 (by decide) ?_
        refine sm_iadd cx dX12_one_31 ?_
        refine sm_putV cx fl_X12_134 rfl rfl dX12_one_32 ?_
        refine sm_aload_n cx 0 dX12_one_35 rfl rfl ?_
        refine sm_callV (T := TX12) (N := 47) (toV := vV) cx [] rfl cv_X12_175 (fun a h => c2 a h) hfo2 hlo2 rfl (cat_le _ (Nat.le_of_ble_eq_true rfl)) dX12_one_36 (fun _ => ?_)
        refine sm_aload_n cx 0 dX12_one_39 rfl rfl ?_
        refine sm_dup cx dX12_one_40 (rf_cat _) ?_
        refine sm_getI cx fl_X12_180 dX12_one_41 (fun v41 => ?_)
        refine sm_iconst (v := 1) cx dX12_one_44 (by decide) ?_
        refine sm_isub cx dX12_one_45 ?_
        refine sm_putV cx fl_X12_180 rfl rfl dX12_one_46 ?_
        refine sm_aload_n cx 0 dX12_one_49 rfl rfl ?_
        refine sm_iconst (v := 2) cx dX12_one_50 (by decide) ?_
        refine sm_callV (T := TX12) (N := 47) (toV := vV) cx [.int (2 : Int32)] rfl cv_X12_171 (fun a h => ct_X12_emits (xZ X) a h (2 : Int32)) (Nat.le_trans (by decide) hfr) (Nat.le_trans (by decide) hlo) rfl (cat_le _ (Nat.le_of_ble_eq_true rfl)) dX12_one_51 (fun _ => ?_)
        refine sm_goto (tgt := 211) cx dX12_one_54 (by decide) ?_
        exact sm_lv [] rfl (s_X12_one_211 cx hfr hlo hr c1 hfo1 hlo1 c2 hfo2 hlo2)
      · exact sm_vret cx hr dX12_one_24
  · exact sm_vret cx hr dX12_one_7
/-! PolicyTreeModel.all()V -/
theorem dX12_all_0 : decode cX12_all 0 = .ok (.aload_n 0, 1) := by decide +kernel
theorem dX12_all_1 : decode cX12_all 1 = .ok (.invokevirtual 175, 3) := by decide +kernel
theorem dX12_all_4 : decode cX12_all 4 = .ok (.aload_n 0, 1) := by decide +kernel
theorem dX12_all_5 : decode cX12_all 5 = .ok (.ldc 178, 2) := by decide +kernel
theorem dX12_all_7 : decode cX12_all 7 = .ok (.invokevirtual 168, 3) := by decide +kernel
theorem dX12_all_10 : decode cX12_all 10 = .ok (.ifCond .eq 15, 3) := by decide +kernel
theorem dX12_all_13 : decode cX12_all 13 = .ok (.aload_n 0, 1) := by decide +kernel
theorem dX12_all_14 : decode cX12_all 14 = .ok (.invokevirtual 175, 3) := by decide +kernel
theorem dX12_all_17 : decode cX12_all 17 = .ok (.aload_n 0, 1) := by decide +kernel
theorem dX12_all_18 : decode cX12_all 18 = .ok (.iconst 0, 1) := by decide +kernel
theorem dX12_all_19 : decode cX12_all 19 = .ok (.invokevirtual 171, 3) := by decide +kernel
theorem dX12_all_22 : decode cX12_all 22 = .ok (.goto (-18), 3) := by decide +kernel
theorem dX12_all_25 : decode cX12_all 25 = .ok (.return_, 1) := by decide +kernel
def f_X12_all_4 (Z : Nat → Nat) (g1 : Option Nat → Mo Unit) (r0 : Option Nat) : Nat → Mo Unit
  | 0 => mf
  | n + 1 => mb (mo 15 r0 (f_X12_eat Z r0 (some (Z 14)))) (fun v7 => (if v7 = 0 then mp () else mb (mo 15 r0 (g1 r0)) (fun _ => mb (mo 15 r0 (f_X12_emits r0 (0 : Int32))) (fun _ => (f_X12_all_4 Z g1 r0 n)))))
set_option maxRecDepth 100000 in
set_option maxHeartbeats 4000000 in
theorem s_X12_all_4 {X : Cg} (cx : Cx X cX12_all RX12 1) (hfr : 6 ≤ (xR X).frames) (hlo : 129 ≤ (xR X).locals) (hr : (xM X).sig.returnType = none) {g1 : Option Nat → Mo Unit} {fo1 lo1 : Nat} (c1 : ∀ {r9 : Option Nat} (a9 : Nat), r9 = some a9 → Ct yX12_one cX12_one 1 none fo1 lo1 (xZ X) [.ref a9] vV (g1 r9)) (hfo1 : fo1 + 1 ≤ (xR X).frames) (hlo1 : 8 + (1 + 11) + lo1 ≤ (xR X).locals) (r0 : Option Nat) : ∀ (n : Nat), Sim X 1 (FiM X vV) 4 [(0, va_rf r0)] [] (f_X12_all_4 (xZ X) g1 r0 n) := by
  intro n
  induction n with
  | zero =>
    exact sm_mf
  | succ n ih =>
    rw [f_X12_all_4]
    refine sm_aload_n cx 0 dX12_all_4 rfl rfl ?_
    refine sm_ldcS cx ("PolicyTreeModel", 178, "and", 4) (List.mem_of_getElem? (i := 10) rfl) rfl rfl dX12_all_5 ?_
    refine sm_callV (T := TX12) (N := 47) (toV := vI) cx [va_rf (some ((xZ X) 14))] rfl cv_X12_168 (fun a h => ct_X12_eat (xZ X) a h (some ((xZ X) 14))) (Nat.le_trans (by decide) hfr) (Nat.le_trans (by decide) hlo) rfl (cat_le _ (Nat.le_of_ble_eq_true rfl)) dX12_all_7 (fun v7 => ?_)
    refine sm_if_eq (tgt := 25) cx dX12_all_10 (by decide) ?_ ?_
    · exact sm_vret cx hr dX12_all_25
    · refine sm_aload_n cx 0 dX12_all_13 rfl rfl ?_
      refine sm_callV (T := TX12) (N := 47) (toV := vV) cx [] rfl cv_X12_175 (fun a h => c1 a h) hfo1 hlo1 rfl (cat_le _ (Nat.le_of_ble_eq_true rfl)) dX12_all_14 (fun _ => ?_)
      refine sm_aload_n cx 0 dX12_all_17 rfl rfl ?_
      refine sm_iconst (v := 0) cx dX12_all_18 (by decide) ?_
      refine sm_callV (T := TX12) (N := 47) (toV := vV) cx [.int (0 : Int32)] rfl cv_X12_171 (fun a h => ct_X12_emits (xZ X) a h (0 : Int32)) (Nat.le_trans (by decide) hfr) (Nat.le_trans (by decide) hlo) rfl (cat_le _ (Nat.le_of_ble_eq_true rfl)) dX12_all_19 (fun _ => ?_)
      refine sm_goto (tgt := 4) cx dX12_all_22 (by decide) ?_
      exact sm_lv [0] rfl (ih)
def f_X12_all (Z : Nat → Nat) (g1 : Option Nat → Mo Unit) (r0 : Option Nat) : Mo Unit := mb (mo 15 r0 (g1 r0)) (fun _ => f_X12_all_4 Z g1 r0 fuL)
set_option maxRecDepth 100000 in
set_option maxHeartbeats 4000000 in
theorem s_X12_all {X : Cg} (cx : Cx X cX12_all RX12 1) (hfr : 6 ≤ (xR X).frames) (hlo : 129 ≤ (xR X).locals) (hr : (xM X).sig.returnType = none) {g1 : Option Nat → Mo Unit} {fo1 lo1 : Nat} (c1 : ∀ {r9 : Option Nat} (a9 : Nat), r9 = some a9 → Ct yX12_one cX12_one 1 none fo1 lo1 (xZ X) [.ref a9] vV (g1 r9)) (hfo1 : fo1 + 1 ≤ (xR X).frames) (hlo1 : 8 + (1 + 11) + lo1 ≤ (xR X).locals) (r0 : Option Nat) : Sim X 1 (FiM X vV) 0 [(0, va_rf r0)] [] (f_X12_all (xZ X) g1 r0) := by
  unfold f_X12_all
  refine sm_aload_n cx 0 dX12_all_0 rfl rfl ?_
  refine sm_callV (T := TX12) (N := 47) (toV := vV) cx [] rfl cv_X12_175 (fun a h => c1 a h) hfo1 hlo1 rfl (cat_le _ (Nat.le_of_ble_eq_true rfl)) dX12_all_1 (fun _ => ?_)
  exact sm_lv [0] rfl (s_X12_all_4 cx hfr hlo hr c1 hfo1 hlo1 r0 fuL)
/-! PolicyTreeModel.any()V -/
theorem dX12_any_0 : decode cX12_any 0 = .ok (.aload_n 0, 1) := by decide +kernel
theorem dX12_any_1 : decode cX12_any 1 = .ok (.invokevirtual 163, 3) := by decide +kernel
theorem dX12_any_4 : decode cX12_any 4 = .ok (.aload_n 0, 1) := by decide +kernel
theorem dX12_any_5 : decode cX12_any 5 = .ok (.ldc 166, 2) := by decide +kernel
theorem dX12_any_7 : decode cX12_any 7 = .ok (.invokevirtual 168, 3) := by decide +kernel
theorem dX12_any_10 : decode cX12_any 10 = .ok (.ifCond .eq 15, 3) := by decide +kernel
theorem dX12_any_13 : decode cX12_any 13 = .ok (.aload_n 0, 1) := by decide +kernel
theorem dX12_any_14 : decode cX12_any 14 = .ok (.invokevirtual 163, 3) := by decide +kernel
theorem dX12_any_17 : decode cX12_any 17 = .ok (.aload_n 0, 1) := by decide +kernel
theorem dX12_any_18 : decode cX12_any 18 = .ok (.iconst 1, 1) := by decide +kernel
theorem dX12_any_19 : decode cX12_any 19 = .ok (.invokevirtual 171, 3) := by decide +kernel
theorem dX12_any_22 : decode cX12_any 22 = .ok (.goto (-18), 3) := by decide +kernel
theorem dX12_any_25 : decode cX12_any 25 = .ok (.return_, 1) := by decide +kernel
def f_X12_any_4 (Z : Nat → Nat) (g1 : Option Nat → Mo Unit) (r0 : Option Nat) : Nat → Mo Unit
  | 0 => mf
  | n + 1 => mb (mo 15 r0 (f_X12_eat Z r0 (some (Z 15)))) (fun v7 => (if v7 = 0 then mp () else mb (mo 15 r0 (g1 r0)) (fun _ => mb (mo 15 r0 (f_X12_emits r0 (1 : Int32))) (fun _ => (f_X12_any_4 Z g1 r0 n)))))
set_option maxRecDepth 100000 in
set_option maxHeartbeats 4000000 in
theorem s_X12_any_4 {X : Cg} (cx : Cx X cX12_any RX12 1) (hfr : 6 ≤ (xR X).frames) (hlo : 129 ≤ (xR X).locals) (hr : (xM X).sig.returnType = none) {g1 : Option Nat → Mo Unit} {fo1 lo1 : Nat} (c1 : ∀ {r9 : Option Nat} (a9 : Nat), r9 = some a9 → Ct yX12_all cX12_all 1 none fo1 lo1 (xZ X) [.ref a9] vV (g1 r9)) (hfo1 : fo1 + 1 ≤ (xR X).frames) (hlo1 : 8 + (1 + 11) + lo1 ≤ (xR X).locals) (r0 : Option Nat) : ∀ (n : Nat), Sim X 1 (FiM X vV) 4 [(0, va_rf r0)] [] (f_X12_any_4 (xZ X) g1 r0 n) := by
  intro n
  induction n with
  | zero =>
    exact sm_mf
  | succ n ih =>
    rw [f_X12_any_4]
    refine sm_aload_n cx 0 dX12_any_4 rfl rfl ?_
    refine sm_ldcS cx ("PolicyTreeModel", 166, "or", 5) (List.mem_of_getElem? (i := 11) rfl) rfl rfl dX12_any_5 ?_
    refine sm_callV (T := TX12) (N := 47) (toV := vI) cx [va_rf (some ((xZ X) 15))] rfl cv_X12_168 (fun a h => ct_X12_eat (xZ X) a h (some ((xZ X) 15))) (Nat.le_trans (by decide) hfr) (Nat.le_trans (by decide) hlo) rfl (cat_le _ (Nat.le_of_ble_eq_true rfl)) dX12_any_7 (fun v7 => ?_)
    refine sm_if_eq (tgt := 25) cx dX12_any_10 (by decide) ?_ ?_
    · exact sm_vret cx hr dX12_any_25
    · refine sm_aload_n cx 0 dX12_any_13 rfl rfl ?_
      refine sm_callV (T := TX12) (N := 47) (toV := vV) cx [] rfl cv_X12_163 (fun a h => c1 a h) hfo1 hlo1 rfl (cat_le _ (Nat.le_of_ble_eq_true rfl)) dX12_any_14 (fun _ => ?_)
      refine sm_aload_n cx 0 dX12_any_17 rfl rfl ?_
      refine sm_iconst (v := 1) cx dX12_any_18 (by decide) ?_
      refine sm_callV (T := TX12) (N := 47) (toV := vV) cx [.int (1 : Int32)] rfl cv_X12_171 (fun a h => ct_X12_emits (xZ X) a h (1 : Int32)) (Nat.le_trans (by decide) hfr) (Nat.le_trans (by decide) hlo) rfl (cat_le _ (Nat.le_of_ble_eq_true rfl)) dX12_any_19 (fun _ => ?_)
      refine sm_goto (tgt := 4) cx dX12_any_22 (by decide) ?_
      exact sm_lv [0] rfl (ih)
def f_X12_any (Z : Nat → Nat) (g1 : Option Nat → Mo Unit) (r0 : Option Nat) : Mo Unit := mb (mo 15 r0 (g1 r0)) (fun _ => f_X12_any_4 Z g1 r0 fuL)
set_option maxRecDepth 100000 in
set_option maxHeartbeats 4000000 in
theorem s_X12_any {X : Cg} (cx : Cx X cX12_any RX12 1) (hfr : 6 ≤ (xR X).frames) (hlo : 129 ≤ (xR X).locals) (hr : (xM X).sig.returnType = none) {g1 : Option Nat → Mo Unit} {fo1 lo1 : Nat} (c1 : ∀ {r9 : Option Nat} (a9 : Nat), r9 = some a9 → Ct yX12_all cX12_all 1 none fo1 lo1 (xZ X) [.ref a9] vV (g1 r9)) (hfo1 : fo1 + 1 ≤ (xR X).frames) (hlo1 : 8 + (1 + 11) + lo1 ≤ (xR X).locals) (r0 : Option Nat) : Sim X 1 (FiM X vV) 0 [(0, va_rf r0)] [] (f_X12_any (xZ X) g1 r0) := by
  unfold f_X12_any
  refine sm_aload_n cx 0 dX12_any_0 rfl rfl ?_
  refine sm_callV (T := TX12) (N := 47) (toV := vV) cx [] rfl cv_X12_163 (fun a h => c1 a h) hfo1 hlo1 rfl (cat_le _ (Nat.le_of_ble_eq_true rfl)) dX12_any_1 (fun _ => ?_)
  exact sm_lv [0] rfl (s_X12_any_4 cx hfr hlo hr c1 hfo1 hlo1 r0 fuL)
end
