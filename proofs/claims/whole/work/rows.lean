section
-- ===== PART A: goes FIRST, ahead of the names: the tables' words, and 'selects' of the private methods out of them =====
/-- a private method of a class that the tables say can be made, by its rows of tables_1 -/
def lw_okq (q : MethodName × Nat) : Prop := (q.1.cls ≠ "java/lang/invoke/MethodHandle" ∧ q.1.cls ≠ "java/lang/invoke/VarHandle") ∧ Cond.instantiable q.1.cls q.2 ∈ tables_1 ∧ Cond.privateMethod q.1 ∈ tables_1 ∧ Cond.instanceMethod q.1 ∈ tables_1
theorem lw_p0 : lw_okq (⟨"java/util/ArrayList", "add", "(Ljava/lang/Object;[Ljava/lang/Object;I)V"⟩, 3) := ⟨⟨by decide +kernel, by decide +kernel⟩, List.mem_of_getElem? (i := 44) (by decide +kernel), List.mem_of_getElem? (i := 228) (by decide +kernel), List.mem_of_getElem? (i := 229) (by decide +kernel)⟩
theorem lw_p1 : lw_okq (⟨"java/util/ArrayList", "grow", "()[Ljava/lang/Object;"⟩, 3) := ⟨⟨by decide +kernel, by decide +kernel⟩, List.mem_of_getElem? (i := 44) (by decide +kernel), List.mem_of_getElem? (i := 232) (by decide +kernel), List.mem_of_getElem? (i := 233) (by decide +kernel)⟩
theorem lw_p2 : lw_okq (⟨"java/util/ArrayList", "grow", "(I)[Ljava/lang/Object;"⟩, 3) := ⟨⟨by decide +kernel, by decide +kernel⟩, List.mem_of_getElem? (i := 44) (by decide +kernel), List.mem_of_getElem? (i := 236) (by decide +kernel), List.mem_of_getElem? (i := 237) (by decide +kernel)⟩
theorem lw_p3 : lw_okq (⟨"PolicyTree", "settingsOfLast", "()I"⟩, 14) := ⟨⟨by decide +kernel, by decide +kernel⟩, List.mem_of_getElem? (i := 36) (by decide +kernel), List.mem_of_getElem? (i := 357) (by decide +kernel), List.mem_of_getElem? (i := 358) (by decide +kernel)⟩
theorem lw_p4 : lw_okq (⟨"PolicyTree", "countQuarrels", "(II)I"⟩, 14) := ⟨⟨by decide +kernel, by decide +kernel⟩, List.mem_of_getElem? (i := 36) (by decide +kernel), List.mem_of_getElem? (i := 365) (by decide +kernel), List.mem_of_getElem? (i := 366) (by decide +kernel)⟩
theorem lw_p5 : lw_okq (⟨"PolicyTree", "countLasting", "()I"⟩, 14) := ⟨⟨by decide +kernel, by decide +kernel⟩, List.mem_of_getElem? (i := 36) (by decide +kernel), List.mem_of_getElem? (i := 404) (by decide +kernel), List.mem_of_getElem? (i := 405) (by decide +kernel)⟩
theorem lw_p6 : lw_okq (⟨"java/lang/Throwable", "fillInStackTrace", "(I)Ljava/lang/Throwable;"⟩, 6) := ⟨⟨by decide +kernel, by decide +kernel⟩, List.mem_of_getElem? (i := 458) (by decide +kernel), List.mem_of_getElem? (i := 456) (by decide +kernel), List.mem_of_getElem? (i := 457) (by decide +kernel)⟩
theorem lw_p7 : lw_okq (⟨"PolicyTree", "countMoved", "(ILPolicyTree$Node;LPolicyTree$Node;)I"⟩, 14) := ⟨⟨by decide +kernel, by decide +kernel⟩, List.mem_of_getElem? (i := 36) (by decide +kernel), List.mem_of_getElem? (i := 525) (by decide +kernel), List.mem_of_getElem? (i := 526) (by decide +kernel)⟩
theorem lw_p8 : lw_okq (⟨"PolicyTree$Groups", "groupsAround", "(I)I"⟩, 3) := ⟨⟨by decide +kernel, by decide +kernel⟩, List.mem_of_getElem? (i := 70) (by decide +kernel), List.mem_of_getElem? (i := 533) (by decide +kernel), List.mem_of_getElem? (i := 534) (by decide +kernel)⟩
theorem lw_p9 : lw_okq (⟨"PolicyTree$Row", "topOfOpen", "()I"⟩, 4) := ⟨⟨by decide +kernel, by decide +kernel⟩, List.mem_of_getElem? (i := 136) (by decide +kernel), List.mem_of_getElem? (i := 558) (by decide +kernel), List.mem_of_getElem? (i := 559) (by decide +kernel)⟩
theorem lw_p10 : lw_okq (⟨"PolicyTree$Row", "addLinks", "(IZI)V"⟩, 4) := ⟨⟨by decide +kernel, by decide +kernel⟩, List.mem_of_getElem? (i := 136) (by decide +kernel), List.mem_of_getElem? (i := 565) (by decide +kernel), List.mem_of_getElem? (i := 566) (by decide +kernel)⟩
theorem lw_p11 : lw_okq (⟨"PolicyTree$Outcome", "take", "(LPolicyTree$Link;II)V"⟩, 3) := ⟨⟨by decide +kernel, by decide +kernel⟩, List.mem_of_getElem? (i := 183) (by decide +kernel), List.mem_of_getElem? (i := 629) (by decide +kernel), List.mem_of_getElem? (i := 630) (by decide +kernel)⟩
theorem lw_p12 : lw_okq (⟨"PolicyTree$Outcome", "has", "(I)Z"⟩, 3) := ⟨⟨by decide +kernel, by decide +kernel⟩, List.mem_of_getElem? (i := 183) (by decide +kernel), List.mem_of_getElem? (i := 633) (by decide +kernel), List.mem_of_getElem? (i := 634) (by decide +kernel)⟩
theorem lw_p13 : lw_okq (⟨"PolicyTree$FilterReader", "skipBlanks", "()V"⟩, 9) := ⟨⟨by decide +kernel, by decide +kernel⟩, List.mem_of_getElem? (i := 102) (by decide +kernel), List.mem_of_getElem? (i := 807) (by decide +kernel), List.mem_of_getElem? (i := 808) (by decide +kernel)⟩
theorem lw_p14 : lw_okq (⟨"PolicyTree$FilterReader", "readEither", "(I)V"⟩, 9) := ⟨⟨by decide +kernel, by decide +kernel⟩, List.mem_of_getElem? (i := 102) (by decide +kernel), List.mem_of_getElem? (i := 815) (by decide +kernel), List.mem_of_getElem? (i := 816) (by decide +kernel)⟩
theorem lw_p15 : lw_okq (⟨"PolicyTree$FilterReader", "readBoth", "(I)V"⟩, 9) := ⟨⟨by decide +kernel, by decide +kernel⟩, List.mem_of_getElem? (i := 102) (by decide +kernel), List.mem_of_getElem? (i := 819) (by decide +kernel), List.mem_of_getElem? (i := 820) (by decide +kernel)⟩
def lw_privs_1 : List (MethodName × Nat) := [(⟨"java/util/ArrayList", "add", "(Ljava/lang/Object;[Ljava/lang/Object;I)V"⟩, 3), (⟨"java/util/ArrayList", "grow", "()[Ljava/lang/Object;"⟩, 3), (⟨"java/util/ArrayList", "grow", "(I)[Ljava/lang/Object;"⟩, 3), (⟨"PolicyTree", "settingsOfLast", "()I"⟩, 14), (⟨"PolicyTree", "countQuarrels", "(II)I"⟩, 14), (⟨"PolicyTree", "countLasting", "()I"⟩, 14), (⟨"java/lang/Throwable", "fillInStackTrace", "(I)Ljava/lang/Throwable;"⟩, 6), (⟨"PolicyTree", "countMoved", "(ILPolicyTree$Node;LPolicyTree$Node;)I"⟩, 14), (⟨"PolicyTree$Groups", "groupsAround", "(I)I"⟩, 3), (⟨"PolicyTree$Row", "topOfOpen", "()I"⟩, 4), (⟨"PolicyTree$Row", "addLinks", "(IZI)V"⟩, 4), (⟨"PolicyTree$Outcome", "take", "(LPolicyTree$Link;II)V"⟩, 3), (⟨"PolicyTree$Outcome", "has", "(I)Z"⟩, 3), (⟨"PolicyTree$FilterReader", "skipBlanks", "()V"⟩, 9), (⟨"PolicyTree$FilterReader", "readEither", "(I)V"⟩, 9), (⟨"PolicyTree$FilterReader", "readBoth", "(I)V"⟩, 9)]
theorem lw_r1 : ∀ q ∈ lw_privs_1, lw_okq q := List.forall_mem_cons.mpr ⟨lw_p0, List.forall_mem_cons.mpr ⟨lw_p1, List.forall_mem_cons.mpr ⟨lw_p2, List.forall_mem_cons.mpr ⟨lw_p3, List.forall_mem_cons.mpr ⟨lw_p4, List.forall_mem_cons.mpr ⟨lw_p5, List.forall_mem_cons.mpr ⟨lw_p6, List.forall_mem_cons.mpr ⟨lw_p7, List.forall_mem_cons.mpr ⟨lw_p8, List.forall_mem_cons.mpr ⟨lw_p9, List.forall_mem_cons.mpr ⟨lw_p10, List.forall_mem_cons.mpr ⟨lw_p11, List.forall_mem_cons.mpr ⟨lw_p12, List.forall_mem_cons.mpr ⟨lw_p13, List.forall_mem_cons.mpr ⟨lw_p14, List.forall_mem_cons.mpr ⟨lw_p15, fun _ h => absurd h List.not_mem_nil⟩⟩⟩⟩⟩⟩⟩⟩⟩⟩⟩⟩⟩⟩⟩⟩
theorem lw_p16 : lw_okq (⟨"PolicyTree$FilterReader", "readOne", "(I)V"⟩, 9) := ⟨⟨by decide +kernel, by decide +kernel⟩, List.mem_of_getElem? (i := 102) (by decide +kernel), List.mem_of_getElem? (i := 823) (by decide +kernel), List.mem_of_getElem? (i := 824) (by decide +kernel)⟩
theorem lw_p17 : lw_okq (⟨"PolicyTree$FilterReader", "takesByte", "(C)Z"⟩, 9) := ⟨⟨by decide +kernel, by decide +kernel⟩, List.mem_of_getElem? (i := 102) (by decide +kernel), List.mem_of_getElem? (i := 827) (by decide +kernel), List.mem_of_getElem? (i := 828) (by decide +kernel)⟩
theorem lw_p18 : lw_okq (⟨"PolicyTree$FilterReader", "mayOpen", "(II)Z"⟩, 9) := ⟨⟨by decide +kernel, by decide +kernel⟩, List.mem_of_getElem? (i := 102) (by decide +kernel), List.mem_of_getElem? (i := 831) (by decide +kernel), List.mem_of_getElem? (i := 832) (by decide +kernel)⟩
theorem lw_p19 : lw_okq (⟨"PolicyTree$FilterReader", "blame", "(II)V"⟩, 9) := ⟨⟨by decide +kernel, by decide +kernel⟩, List.mem_of_getElem? (i := 102) (by decide +kernel), List.mem_of_getElem? (i := 835) (by decide +kernel), List.mem_of_getElem? (i := 836) (by decide +kernel)⟩
theorem lw_p20 : lw_okq (⟨"PolicyTree$FilterReader", "takesWord", "(Ljava/lang/String;)Z"⟩, 9) := ⟨⟨by decide +kernel, by decide +kernel⟩, List.mem_of_getElem? (i := 102) (by decide +kernel), List.mem_of_getElem? (i := 840) (by decide +kernel), List.mem_of_getElem? (i := 841) (by decide +kernel)⟩
theorem lw_p21 : lw_okq (⟨"PolicyTree$FilterReader", "addStep", "(II)V"⟩, 9) := ⟨⟨by decide +kernel, by decide +kernel⟩, List.mem_of_getElem? (i := 102) (by decide +kernel), List.mem_of_getElem? (i := 893) (by decide +kernel), List.mem_of_getElem? (i := 894) (by decide +kernel)⟩
theorem lw_p22 : lw_okq (⟨"PolicyTree$FilterReader", "readNumber", "(II)V"⟩, 9) := ⟨⟨by decide +kernel, by decide +kernel⟩, List.mem_of_getElem? (i := 102) (by decide +kernel), List.mem_of_getElem? (i := 898) (by decide +kernel), List.mem_of_getElem? (i := 899) (by decide +kernel)⟩
theorem lw_p23 : lw_okq (⟨"java/util/ArrayList", "rangeCheckForAdd", "(I)V"⟩, 3) := ⟨⟨by decide +kernel, by decide +kernel⟩, List.mem_of_getElem? (i := 44) (by decide +kernel), List.mem_of_getElem? (i := 984) (by decide +kernel), List.mem_of_getElem? (i := 985) (by decide +kernel)⟩
theorem lw_p24 : lw_okq (⟨"java/util/ArrayList", "outOfBoundsMsg", "(I)Ljava/lang/String;"⟩, 3) := ⟨⟨by decide +kernel, by decide +kernel⟩, List.mem_of_getElem? (i := 44) (by decide +kernel), List.mem_of_getElem? (i := 989) (by decide +kernel), List.mem_of_getElem? (i := 990) (by decide +kernel)⟩
theorem lw_p25 : lw_okq (⟨"java/util/ArrayList", "fastRemove", "([Ljava/lang/Object;I)V"⟩, 3) := ⟨⟨by decide +kernel, by decide +kernel⟩, List.mem_of_getElem? (i := 44) (by decide +kernel), List.mem_of_getElem? (i := 1216) (by decide +kernel), List.mem_of_getElem? (i := 1217) (by decide +kernel)⟩
theorem lw_p26 : lw_okq (⟨"PolicyTree", "findOutcome", "(II)V"⟩, 14) := ⟨⟨by decide +kernel, by decide +kernel⟩, List.mem_of_getElem? (i := 36) (by decide +kernel), List.mem_of_getElem? (i := 1227) (by decide +kernel), List.mem_of_getElem? (i := 1228) (by decide +kernel)⟩
theorem lw_p27 : lw_okq (⟨"PolicyTree", "isSameInLane", "(II)Z"⟩, 14) := ⟨⟨by decide +kernel, by decide +kernel⟩, List.mem_of_getElem? (i := 36) (by decide +kernel), List.mem_of_getElem? (i := 1283) (by decide +kernel), List.mem_of_getElem? (i := 1284) (by decide +kernel)⟩
theorem lw_p28 : lw_okq (⟨"PolicyTree", "listReach", "(LPolicyTree$Link;)I"⟩, 14) := ⟨⟨by decide +kernel, by decide +kernel⟩, List.mem_of_getElem? (i := 36) (by decide +kernel), List.mem_of_getElem? (i := 1294) (by decide +kernel), List.mem_of_getElem? (i := 1295) (by decide +kernel)⟩
theorem lw_p29 : lw_okq (⟨"PolicyTree", "addReach", "(LPolicyTree$Link;II)I"⟩, 14) := ⟨⟨by decide +kernel, by decide +kernel⟩, List.mem_of_getElem? (i := 36) (by decide +kernel), List.mem_of_getElem? (i := 1299) (by decide +kernel), List.mem_of_getElem? (i := 1300) (by decide +kernel)⟩
theorem lw_p30 : lw_okq (⟨"PolicyTree", "findQuarreller", "(III)I"⟩, 14) := ⟨⟨by decide +kernel, by decide +kernel⟩, List.mem_of_getElem? (i := 36) (by decide +kernel), List.mem_of_getElem? (i := 1318) (by decide +kernel), List.mem_of_getElem? (i := 1319) (by decide +kernel)⟩
theorem lw_p31 : lw_okq (⟨"PolicyTreeModel", "none", "(II)Z"⟩, 47) := ⟨⟨by decide +kernel, by decide +kernel⟩, List.mem_of_getElem? (i := 1322) (by decide +kernel), List.mem_of_getElem? (i := 1479) (by decide +kernel), List.mem_of_getElem? (i := 1480) (by decide +kernel)⟩
def lw_privs_2 : List (MethodName × Nat) := [(⟨"PolicyTree$FilterReader", "readOne", "(I)V"⟩, 9), (⟨"PolicyTree$FilterReader", "takesByte", "(C)Z"⟩, 9), (⟨"PolicyTree$FilterReader", "mayOpen", "(II)Z"⟩, 9), (⟨"PolicyTree$FilterReader", "blame", "(II)V"⟩, 9), (⟨"PolicyTree$FilterReader", "takesWord", "(Ljava/lang/String;)Z"⟩, 9), (⟨"PolicyTree$FilterReader", "addStep", "(II)V"⟩, 9), (⟨"PolicyTree$FilterReader", "readNumber", "(II)V"⟩, 9), (⟨"java/util/ArrayList", "rangeCheckForAdd", "(I)V"⟩, 3), (⟨"java/util/ArrayList", "outOfBoundsMsg", "(I)Ljava/lang/String;"⟩, 3), (⟨"java/util/ArrayList", "fastRemove", "([Ljava/lang/Object;I)V"⟩, 3), (⟨"PolicyTree", "findOutcome", "(II)V"⟩, 14), (⟨"PolicyTree", "isSameInLane", "(II)Z"⟩, 14), (⟨"PolicyTree", "listReach", "(LPolicyTree$Link;)I"⟩, 14), (⟨"PolicyTree", "addReach", "(LPolicyTree$Link;II)I"⟩, 14), (⟨"PolicyTree", "findQuarreller", "(III)I"⟩, 14), (⟨"PolicyTreeModel", "none", "(II)Z"⟩, 47)]
theorem lw_r2 : ∀ q ∈ lw_privs_2, lw_okq q := List.forall_mem_cons.mpr ⟨lw_p16, List.forall_mem_cons.mpr ⟨lw_p17, List.forall_mem_cons.mpr ⟨lw_p18, List.forall_mem_cons.mpr ⟨lw_p19, List.forall_mem_cons.mpr ⟨lw_p20, List.forall_mem_cons.mpr ⟨lw_p21, List.forall_mem_cons.mpr ⟨lw_p22, List.forall_mem_cons.mpr ⟨lw_p23, List.forall_mem_cons.mpr ⟨lw_p24, List.forall_mem_cons.mpr ⟨lw_p25, List.forall_mem_cons.mpr ⟨lw_p26, List.forall_mem_cons.mpr ⟨lw_p27, List.forall_mem_cons.mpr ⟨lw_p28, List.forall_mem_cons.mpr ⟨lw_p29, List.forall_mem_cons.mpr ⟨lw_p30, List.forall_mem_cons.mpr ⟨lw_p31, fun _ h => absurd h List.not_mem_nil⟩⟩⟩⟩⟩⟩⟩⟩⟩⟩⟩⟩⟩⟩⟩⟩
theorem lw_p32 : lw_okq (⟨"PolicyTreeModel", "bad", "(ZI)Z"⟩, 47) := ⟨⟨by decide +kernel, by decide +kernel⟩, List.mem_of_getElem? (i := 1322) (by decide +kernel), List.mem_of_getElem? (i := 1483) (by decide +kernel), List.mem_of_getElem? (i := 1484) (by decide +kernel)⟩
theorem lw_p33 : lw_okq (⟨"PolicyTreeModel", "allIn", "(I)I"⟩, 47) := ⟨⟨by decide +kernel, by decide +kernel⟩, List.mem_of_getElem? (i := 1322) (by decide +kernel), List.mem_of_getElem? (i := 1515) (by decide +kernel), List.mem_of_getElem? (i := 1516) (by decide +kernel)⟩
theorem lw_p34 : lw_okq (⟨"PolicyTreeModel", "tells", "(II)Z"⟩, 47) := ⟨⟨by decide +kernel, by decide +kernel⟩, List.mem_of_getElem? (i := 1322) (by decide +kernel), List.mem_of_getElem? (i := 1530) (by decide +kernel), List.mem_of_getElem? (i := 1531) (by decide +kernel)⟩
theorem lw_p35 : lw_okq (⟨"PolicyTreeModel", "blanks", "()V"⟩, 47) := ⟨⟨by decide +kernel, by decide +kernel⟩, List.mem_of_getElem? (i := 1322) (by decide +kernel), List.mem_of_getElem? (i := 1550) (by decide +kernel), List.mem_of_getElem? (i := 1551) (by decide +kernel)⟩
theorem lw_p36 : lw_okq (⟨"PolicyTreeModel", "byteAt", "(I)I"⟩, 47) := ⟨⟨by decide +kernel, by decide +kernel⟩, List.mem_of_getElem? (i := 1322) (by decide +kernel), List.mem_of_getElem? (i := 1554) (by decide +kernel), List.mem_of_getElem? (i := 1555) (by decide +kernel)⟩
theorem lw_p37 : lw_okq (⟨"PolicyTreeModel", "any", "()V"⟩, 47) := ⟨⟨by decide +kernel, by decide +kernel⟩, List.mem_of_getElem? (i := 1322) (by decide +kernel), List.mem_of_getElem? (i := 1558) (by decide +kernel), List.mem_of_getElem? (i := 1559) (by decide +kernel)⟩
theorem lw_p38 : lw_okq (⟨"PolicyTreeModel", "all", "()V"⟩, 47) := ⟨⟨by decide +kernel, by decide +kernel⟩, List.mem_of_getElem? (i := 1322) (by decide +kernel), List.mem_of_getElem? (i := 1562) (by decide +kernel), List.mem_of_getElem? (i := 1563) (by decide +kernel)⟩
theorem lw_p39 : lw_okq (⟨"PolicyTreeModel", "one", "()V"⟩, 47) := ⟨⟨by decide +kernel, by decide +kernel⟩, List.mem_of_getElem? (i := 1322) (by decide +kernel), List.mem_of_getElem? (i := 1566) (by decide +kernel), List.mem_of_getElem? (i := 1567) (by decide +kernel)⟩
theorem lw_p40 : lw_okq (⟨"PolicyTreeModel", "isWord", "(Ljava/lang/String;)Z"⟩, 47) := ⟨⟨by decide +kernel, by decide +kernel⟩, List.mem_of_getElem? (i := 1322) (by decide +kernel), List.mem_of_getElem? (i := 1571) (by decide +kernel), List.mem_of_getElem? (i := 1572) (by decide +kernel)⟩
theorem lw_p41 : lw_okq (⟨"PolicyTreeModel", "opens", "()Z"⟩, 47) := ⟨⟨by decide +kernel, by decide +kernel⟩, List.mem_of_getElem? (i := 1322) (by decide +kernel), List.mem_of_getElem? (i := 1577) (by decide +kernel), List.mem_of_getElem? (i := 1578) (by decide +kernel)⟩
theorem lw_p42 : lw_okq (⟨"PolicyTreeModel", "wrong", "(II)V"⟩, 47) := ⟨⟨by decide +kernel, by decide +kernel⟩, List.mem_of_getElem? (i := 1322) (by decide +kernel), List.mem_of_getElem? (i := 1581) (by decide +kernel), List.mem_of_getElem? (i := 1582) (by decide +kernel)⟩
theorem lw_p43 : lw_okq (⟨"PolicyTreeModel", "emits", "(I)V"⟩, 47) := ⟨⟨by decide +kernel, by decide +kernel⟩, List.mem_of_getElem? (i := 1322) (by decide +kernel), List.mem_of_getElem? (i := 1585) (by decide +kernel), List.mem_of_getElem? (i := 1586) (by decide +kernel)⟩
theorem lw_p44 : lw_okq (⟨"PolicyTreeModel", "eat", "(Ljava/lang/String;)Z"⟩, 47) := ⟨⟨by decide +kernel, by decide +kernel⟩, List.mem_of_getElem? (i := 1322) (by decide +kernel), List.mem_of_getElem? (i := 1590) (by decide +kernel), List.mem_of_getElem? (i := 1591) (by decide +kernel)⟩
theorem lw_p45 : lw_okq (⟨"PolicyTreeModel", "number", "(II)V"⟩, 47) := ⟨⟨by decide +kernel, by decide +kernel⟩, List.mem_of_getElem? (i := 1322) (by decide +kernel), List.mem_of_getElem? (i := 1594) (by decide +kernel), List.mem_of_getElem? (i := 1595) (by decide +kernel)⟩
theorem lw_p46 : lw_okq (⟨"PolicyTreeModel", "isAsked", "(II)Z"⟩, 47) := ⟨⟨by decide +kernel, by decide +kernel⟩, List.mem_of_getElem? (i := 1322) (by decide +kernel), List.mem_of_getElem? (i := 1614) (by decide +kernel), List.mem_of_getElem? (i := 1615) (by decide +kernel)⟩
theorem lw_p47 : lw_okq (⟨"PolicyTreeModel", "groupsAnew", "()V"⟩, 47) := ⟨⟨by decide +kernel, by decide +kernel⟩, List.mem_of_getElem? (i := 1322) (by decide +kernel), List.mem_of_getElem? (i := 1618) (by decide +kernel), List.mem_of_getElem? (i := 1619) (by decide +kernel)⟩
def lw_privs_3 : List (MethodName × Nat) := [(⟨"PolicyTreeModel", "bad", "(ZI)Z"⟩, 47), (⟨"PolicyTreeModel", "allIn", "(I)I"⟩, 47), (⟨"PolicyTreeModel", "tells", "(II)Z"⟩, 47), (⟨"PolicyTreeModel", "blanks", "()V"⟩, 47), (⟨"PolicyTreeModel", "byteAt", "(I)I"⟩, 47), (⟨"PolicyTreeModel", "any", "()V"⟩, 47), (⟨"PolicyTreeModel", "all", "()V"⟩, 47), (⟨"PolicyTreeModel", "one", "()V"⟩, 47), (⟨"PolicyTreeModel", "isWord", "(Ljava/lang/String;)Z"⟩, 47), (⟨"PolicyTreeModel", "opens", "()Z"⟩, 47), (⟨"PolicyTreeModel", "wrong", "(II)V"⟩, 47), (⟨"PolicyTreeModel", "emits", "(I)V"⟩, 47), (⟨"PolicyTreeModel", "eat", "(Ljava/lang/String;)Z"⟩, 47), (⟨"PolicyTreeModel", "number", "(II)V"⟩, 47), (⟨"PolicyTreeModel", "isAsked", "(II)Z"⟩, 47), (⟨"PolicyTreeModel", "groupsAnew", "()V"⟩, 47)]
theorem lw_r3 : ∀ q ∈ lw_privs_3, lw_okq q := List.forall_mem_cons.mpr ⟨lw_p32, List.forall_mem_cons.mpr ⟨lw_p33, List.forall_mem_cons.mpr ⟨lw_p34, List.forall_mem_cons.mpr ⟨lw_p35, List.forall_mem_cons.mpr ⟨lw_p36, List.forall_mem_cons.mpr ⟨lw_p37, List.forall_mem_cons.mpr ⟨lw_p38, List.forall_mem_cons.mpr ⟨lw_p39, List.forall_mem_cons.mpr ⟨lw_p40, List.forall_mem_cons.mpr ⟨lw_p41, List.forall_mem_cons.mpr ⟨lw_p42, List.forall_mem_cons.mpr ⟨lw_p43, List.forall_mem_cons.mpr ⟨lw_p44, List.forall_mem_cons.mpr ⟨lw_p45, List.forall_mem_cons.mpr ⟨lw_p46, List.forall_mem_cons.mpr ⟨lw_p47, fun _ h => absurd h List.not_mem_nil⟩⟩⟩⟩⟩⟩⟩⟩⟩⟩⟩⟩⟩⟩⟩⟩
theorem lw_p48 : lw_okq (⟨"PolicyTreeModel", "yesOf", "(I)I"⟩, 47) := ⟨⟨by decide +kernel, by decide +kernel⟩, List.mem_of_getElem? (i := 1322) (by decide +kernel), List.mem_of_getElem? (i := 1622) (by decide +kernel), List.mem_of_getElem? (i := 1623) (by decide +kernel)⟩
theorem lw_p49 : lw_okq (⟨"PolicyTreeModel", "makes", "(III)V"⟩, 47) := ⟨⟨by decide +kernel, by decide +kernel⟩, List.mem_of_getElem? (i := 1322) (by decide +kernel), List.mem_of_getElem? (i := 1626) (by decide +kernel), List.mem_of_getElem? (i := 1627) (by decide +kernel)⟩
theorem lw_p50 : lw_okq (⟨"PolicyTreeModel", "adds", "(IZIII)V"⟩, 47) := ⟨⟨by decide +kernel, by decide +kernel⟩, List.mem_of_getElem? (i := 1322) (by decide +kernel), List.mem_of_getElem? (i := 1630) (by decide +kernel), List.mem_of_getElem? (i := 1631) (by decide +kernel)⟩
theorem lw_p51 : lw_okq (⟨"PolicyTreeModel", "holds", "(III)Z"⟩, 47) := ⟨⟨by decide +kernel, by decide +kernel⟩, List.mem_of_getElem? (i := 1322) (by decide +kernel), List.mem_of_getElem? (i := 1634) (by decide +kernel), List.mem_of_getElem? (i := 1635) (by decide +kernel)⟩
theorem lw_p52 : lw_okq (⟨"PolicyTreeModel", "isBelow", "(II)Z"⟩, 47) := ⟨⟨by decide +kernel, by decide +kernel⟩, List.mem_of_getElem? (i := 1322) (by decide +kernel), List.mem_of_getElem? (i := 1638) (by decide +kernel), List.mem_of_getElem? (i := 1639) (by decide +kernel)⟩
theorem lw_p53 : lw_okq (⟨"PolicyTreeModel", "outcomes", "(I)V"⟩, 47) := ⟨⟨by decide +kernel, by decide +kernel⟩, List.mem_of_getElem? (i := 1322) (by decide +kernel), List.mem_of_getElem? (i := 1642) (by decide +kernel), List.mem_of_getElem? (i := 1643) (by decide +kernel)⟩
theorem lw_p54 : lw_okq (⟨"PolicyTreeModel", "valueOf", "(II)I"⟩, 47) := ⟨⟨by decide +kernel, by decide +kernel⟩, List.mem_of_getElem? (i := 1322) (by decide +kernel), List.mem_of_getElem? (i := 1646) (by decide +kernel), List.mem_of_getElem? (i := 1647) (by decide +kernel)⟩
theorem lw_p55 : lw_okq (⟨"PolicyTreeModel", "keepsThem", "()V"⟩, 47) := ⟨⟨by decide +kernel, by decide +kernel⟩, List.mem_of_getElem? (i := 1322) (by decide +kernel), List.mem_of_getElem? (i := 1666) (by decide +kernel), List.mem_of_getElem? (i := 1667) (by decide +kernel)⟩
theorem lw_p56 : lw_okq (⟨"PolicyTreeModel", "isAsKept", "()Z"⟩, 47) := ⟨⟨by decide +kernel, by decide +kernel⟩, List.mem_of_getElem? (i := 1322) (by decide +kernel), List.mem_of_getElem? (i := 1670) (by decide +kernel), List.mem_of_getElem? (i := 1671) (by decide +kernel)⟩
theorem lw_p57 : lw_okq (⟨"PolicyTreeModel", "reaches", "(II)I"⟩, 47) := ⟨⟨by decide +kernel, by decide +kernel⟩, List.mem_of_getElem? (i := 1322) (by decide +kernel), List.mem_of_getElem? (i := 1679) (by decide +kernel), List.mem_of_getElem? (i := 1680) (by decide +kernel)⟩
theorem lw_p58 : lw_okq (⟨"PolicyTreeModel", "looks", "(I)I"⟩, 47) := ⟨⟨by decide +kernel, by decide +kernel⟩, List.mem_of_getElem? (i := 1322) (by decide +kernel), List.mem_of_getElem? (i := 1695) (by decide +kernel), List.mem_of_getElem? (i := 1696) (by decide +kernel)⟩
theorem lw_p59 : lw_okq (⟨"PolicyTreeModel", "areUnlike", "(II)Z"⟩, 47) := ⟨⟨by decide +kernel, by decide +kernel⟩, List.mem_of_getElem? (i := 1322) (by decide +kernel), List.mem_of_getElem? (i := 1699) (by decide +kernel), List.mem_of_getElem? (i := 1700) (by decide +kernel)⟩
def lw_privs_4 : List (MethodName × Nat) := [(⟨"PolicyTreeModel", "yesOf", "(I)I"⟩, 47), (⟨"PolicyTreeModel", "makes", "(III)V"⟩, 47), (⟨"PolicyTreeModel", "adds", "(IZIII)V"⟩, 47), (⟨"PolicyTreeModel", "holds", "(III)Z"⟩, 47), (⟨"PolicyTreeModel", "isBelow", "(II)Z"⟩, 47), (⟨"PolicyTreeModel", "outcomes", "(I)V"⟩, 47), (⟨"PolicyTreeModel", "valueOf", "(II)I"⟩, 47), (⟨"PolicyTreeModel", "keepsThem", "()V"⟩, 47), (⟨"PolicyTreeModel", "isAsKept", "()Z"⟩, 47), (⟨"PolicyTreeModel", "reaches", "(II)I"⟩, 47), (⟨"PolicyTreeModel", "looks", "(I)I"⟩, 47), (⟨"PolicyTreeModel", "areUnlike", "(II)Z"⟩, 47)]
theorem lw_r4 : ∀ q ∈ lw_privs_4, lw_okq q := List.forall_mem_cons.mpr ⟨lw_p48, List.forall_mem_cons.mpr ⟨lw_p49, List.forall_mem_cons.mpr ⟨lw_p50, List.forall_mem_cons.mpr ⟨lw_p51, List.forall_mem_cons.mpr ⟨lw_p52, List.forall_mem_cons.mpr ⟨lw_p53, List.forall_mem_cons.mpr ⟨lw_p54, List.forall_mem_cons.mpr ⟨lw_p55, List.forall_mem_cons.mpr ⟨lw_p56, List.forall_mem_cons.mpr ⟨lw_p57, List.forall_mem_cons.mpr ⟨lw_p58, List.forall_mem_cons.mpr ⟨lw_p59, fun _ h => absurd h List.not_mem_nil⟩⟩⟩⟩⟩⟩⟩⟩⟩⟩⟩⟩
def lw_privs : List (MethodName × Nat) := lw_privs_1 ++ (lw_privs_2 ++ (lw_privs_3 ++ (lw_privs_4)))
def lw_tbl : List Cond := k2_sels lw_privs ++ tables_1
theorem lw_privs_ok : ∀ q ∈ lw_privs, lw_okq q := by
  show ∀ q ∈ lw_privs_1 ++ (lw_privs_2 ++ (lw_privs_3 ++ (lw_privs_4))), lw_okq q
  exact List.forall_mem_append.mpr ⟨lw_r1, List.forall_mem_append.mpr ⟨lw_r2, List.forall_mem_append.mpr ⟨lw_r3, lw_r4⟩⟩⟩
-- ===== end of PART A; then your names; then what follows =====
end
section
/-! ===== BEGIN words of one list among another's, by their places ===== -/
theorem goodIn_r {big : List Cond} (ws : List Cond) (ps : List Nat) (hp : ws = ps.filterMap (fun i => big[i]?)) (h : ws.all goodWord = true) : GoodIn big ws := by
  intro w hw
  have h1 := List.all_eq_true.mp h w hw
  rw [hp] at hw
  obtain ⟨i, -, hi⟩ := List.mem_filterMap.mp hw
  have hm : w ∈ big := by first | exact List.mem_of_getElem? hi | exact List.getElem?_mem hi
  exact ⟨hm, good_of_word h1⟩
theorem goodIn_app {big a b : List Cond} (ha : GoodIn big a) (hb : GoodIn big b) : GoodIn big (a ++ b) := fun w h => (List.mem_append.mp h).elim (ha w) (hb w)
theorem goodIn_ca {big a b : List Cond} {c : Cond} (ha : GoodIn big (c :: a)) (hb : GoodIn big b) : GoodIn big (c :: (a ++ b)) := fun w h => (List.mem_cons.mp h).elim (fun e => ha w (List.mem_cons.mpr (Or.inl e))) (fun h => (List.mem_append.mp h).elim (fun h => ha w (List.mem_cons.mpr (Or.inr h))) (hb w))
theorem goodIn_sub {big ws : List Cond} (hm : ∀ w ∈ ws, w ∈ big) (h : ws.all goodWord = true) : GoodIn big ws := fun w hw => ⟨hm w hw, good_of_word (List.all_eq_true.mp h w hw)⟩
/-! ===== END ===== -/

/-! ===== BEGIN printed: names, fields, word lists, decode rows ===== -/
def RX0 : String := "PolicyTree$Bundle"
def TX0 : u_T := fun k => match k with
  | 0 => ("PolicyTree$Bundle", "values", "[I", true)
  | _ => ("PolicyTree$Bundle", "told", "I", false)
def tyX0 : Nat → FieldType := fun k => match k with
  | 0 => .array .int
  | _ => .int
abbrev wsX00 : List Cond := u_ws RX0 TX0 2
theorem nmX0 : ∀ a, a < 2 → ∀ b, b < 2 → a ≠ b → (TX0 a).2.1 ≠ (TX0 b).2.1 := by decide +kernel
theorem tyX0_ok : ∀ k, k < 2 → parseFieldDescriptor (TX0 k).2.2.1 = some (tyX0 k) := by decide +kernel
abbrev cX0_init : ByteArray := prog_2_method_1_code
def yX0_init : MethodName := ⟨RX0, "<init>", "()V"⟩
abbrev cX0_toldSettings : ByteArray := prog_2_method_2_code
def yX0_toldSettings : MethodName := ⟨RX0, "toldSettings", "()I"⟩
abbrev cX0_tells : ByteArray := prog_2_method_3_code
def yX0_tells : MethodName := ⟨RX0, "tells", "(I)Z"⟩
abbrev cX0_valueOf : ByteArray := prog_2_method_4_code
def yX0_valueOf : MethodName := ⟨RX0, "valueOf", "(I)I"⟩
abbrev cX0_put : ByteArray := prog_2_method_5_code
def yX0_put : MethodName := ⟨RX0, "put", "(II)Z"⟩
abbrev cX0_drop : ByteArray := prog_2_method_6_code
def yX0_drop : MethodName := ⟨RX0, "drop", "(I)Z"⟩
abbrev cX0_differs : ByteArray := prog_2_method_7_code
def yX0_differs : MethodName := ⟨RX0, "differs", "(LPolicyTree$Bundle;I)Z"⟩
def RX1 : String := "PolicyTree$Filter"
def TX1 : u_T := fun k => match k with
  | _ => ("PolicyTree$Filter", "steps", "[I", true)
def tyX1 : Nat → FieldType := fun k => match k with
  | _ => .array .int
abbrev wsX10 : List Cond := u_ws RX1 TX1 1
theorem nmX1 : ∀ a, a < 1 → ∀ b, b < 1 → a ≠ b → (TX1 a).2.1 ≠ (TX1 b).2.1 := by decide +kernel
theorem tyX1_ok : ∀ k, k < 1 → parseFieldDescriptor (TX1 k).2.2.1 = some (tyX1 k) := by decide +kernel
abbrev cX1_init : ByteArray := prog_3_method_1_code
def yX1_init : MethodName := ⟨RX1, "<init>", "([I)V"⟩
abbrev cX1_mentionedFacts : ByteArray := prog_3_method_2_code
def yX1_mentionedFacts : MethodName := ⟨RX1, "mentionedFacts", "()I"⟩
abbrev cX1_weigh : ByteArray := prog_3_method_3_code
def yX1_weigh : MethodName := ⟨RX1, "weigh", "(LPolicyTree$Standing;)J"⟩
def RX2 : String := "PolicyTree$FilterReader"
def TX2 : u_T := fun k => match k with
  | 0 => ("PolicyTree$FilterReader", "tape", "LPolicyTree$Tape;", true)
  | 1 => ("PolicyTree$FilterReader", "length", "I", false)
  | 2 => ("PolicyTree$FilterReader", "groups", "I", false)
  | 3 => ("PolicyTree$FilterReader", "nodes", "I", false)
  | 4 => ("PolicyTree$FilterReader", "at", "I", false)
  | 5 => ("PolicyTree$FilterReader", "fault", "I", false)
  | 6 => ("PolicyTree$FilterReader", "faultPlace", "I", false)
  | 7 => ("PolicyTree$FilterReader", "steps", "[I", true)
  | _ => ("PolicyTree$FilterReader", "size", "I", false)
def tyX2 : Nat → FieldType := fun k => match k with
  | 0 => .object "PolicyTree$Tape"
  | 1 => .int
  | 2 => .int
  | 3 => .int
  | 4 => .int
  | 5 => .int
  | 6 => .int
  | 7 => .array .int
  | _ => .int
abbrev wsX20 : List Cond := u_ws RX2 TX2 9
theorem nmX2 : ∀ a, a < 9 → ∀ b, b < 9 → a ≠ b → (TX2 a).2.1 ≠ (TX2 b).2.1 := by decide +kernel
theorem tyX2_ok : ∀ k, k < 9 → parseFieldDescriptor (TX2 k).2.2.1 = some (tyX2 k) := by decide +kernel
abbrev cX2_init : ByteArray := prog_4_method_1_code
def yX2_init : MethodName := ⟨RX2, "<init>", "(LPolicyTree$Tape;)V"⟩
abbrev cX2_read : ByteArray := prog_4_method_2_code
def yX2_read : MethodName := ⟨RX2, "read", "(III)I"⟩
abbrev cX2_faultPlace : ByteArray := prog_4_method_3_code
def yX2_faultPlace : MethodName := ⟨RX2, "faultPlace", "()I"⟩
abbrev cX2_filter : ByteArray := prog_4_method_4_code
def yX2_filter : MethodName := ⟨RX2, "filter", "()LPolicyTree$Filter;"⟩
abbrev cX2_readEither : ByteArray := prog_4_method_5_code
def yX2_readEither : MethodName := ⟨RX2, "readEither", "(I)V"⟩
abbrev cX2_readBoth : ByteArray := prog_4_method_6_code
def yX2_readBoth : MethodName := ⟨RX2, "readBoth", "(I)V"⟩
abbrev cX2_readOne : ByteArray := prog_4_method_7_code
def yX2_readOne : MethodName := ⟨RX2, "readOne", "(I)V"⟩
abbrev cX2_mayOpen : ByteArray := prog_4_method_8_code
def yX2_mayOpen : MethodName := ⟨RX2, "mayOpen", "(II)Z"⟩
abbrev cX2_readNumber : ByteArray := prog_4_method_9_code
def yX2_readNumber : MethodName := ⟨RX2, "readNumber", "(II)V"⟩
abbrev cX2_skipBlanks : ByteArray := prog_4_method_10_code
def yX2_skipBlanks : MethodName := ⟨RX2, "skipBlanks", "()V"⟩
abbrev cX2_takesByte : ByteArray := prog_4_method_11_code
def yX2_takesByte : MethodName := ⟨RX2, "takesByte", "(C)Z"⟩
abbrev cX2_takesWord : ByteArray := prog_4_method_12_code
def yX2_takesWord : MethodName := ⟨RX2, "takesWord", "(Ljava/lang/String;)Z"⟩
abbrev cX2_isBetween : ByteArray := prog_4_method_13_code
def yX2_isBetween : MethodName := ⟨RX2, "isBetween", "(III)Z"⟩
abbrev cX2_addStep : ByteArray := prog_4_method_14_code
def yX2_addStep : MethodName := ⟨RX2, "addStep", "(II)V"⟩
abbrev cX2_blame : ByteArray := prog_4_method_15_code
def yX2_blame : MethodName := ⟨RX2, "blame", "(II)V"⟩
def RX3 : String := "PolicyTree$Groups"
def TX3 : u_T := fun k => match k with
  | 0 => ("PolicyTree$Groups", "machinesIn", "[J", true)
  | 1 => ("PolicyTree$Groups", "groupsIn", "[I", true)
  | _ => ("PolicyTree$Groups", "size", "I", false)
def tyX3 : Nat → FieldType := fun k => match k with
  | 0 => .array .long
  | 1 => .array .int
  | _ => .int
abbrev wsX30 : List Cond := u_ws RX3 TX3 3
theorem nmX3 : ∀ a, a < 3 → ∀ b, b < 3 → a ≠ b → (TX3 a).2.1 ≠ (TX3 b).2.1 := by decide +kernel
theorem tyX3_ok : ∀ k, k < 3 → parseFieldDescriptor (TX3 k).2.2.1 = some (tyX3 k) := by decide +kernel
abbrev cX3_init : ByteArray := prog_5_method_1_code
def yX3_init : MethodName := ⟨RX3, "<init>", "()V"⟩
abbrev cX3_size : ByteArray := prog_5_method_2_code
def yX3_size : MethodName := ⟨RX3, "size", "()I"⟩
abbrev cX3_add : ByteArray := prog_5_method_3_code
def yX3_add : MethodName := ⟨RX3, "add", "()I"⟩
abbrev cX3_putMachine : ByteArray := prog_5_method_4_code
def yX3_putMachine : MethodName := ⟨RX3, "putMachine", "(IIZ)Z"⟩
abbrev cX3_putGroup : ByteArray := prog_5_method_5_code
def yX3_putGroup : MethodName := ⟨RX3, "putGroup", "(IIZ)Z"⟩
abbrev cX3_groupsOf : ByteArray := prog_5_method_6_code
def yX3_groupsOf : MethodName := ⟨RX3, "groupsOf", "(I)I"⟩
abbrev cX3_groupsAround : ByteArray := prog_5_method_7_code
def yX3_groupsAround : MethodName := ⟨RX3, "groupsAround", "(I)I"⟩
def RX4 : String := "PolicyTree$Link"
def TX4 : u_T := fun k => match k with
  | 0 => ("PolicyTree$Link", "number", "I", true)
  | 1 => ("PolicyTree$Link", "node", "LPolicyTree$Node;", true)
  | 2 => ("PolicyTree$Link", "set", "LPolicyTree$Bundle;", true)
  | 3 => ("PolicyTree$Link", "order", "I", true)
  | 4 => ("PolicyTree$Link", "forced", "Z", true)
  | 5 => ("PolicyTree$Link", "filter", "LPolicyTree$Filter;", true)
  | _ => ("PolicyTree$Link", "ended", "Z", false)
def tyX4 : Nat → FieldType := fun k => match k with
  | 0 => .int
  | 1 => .object "PolicyTree$Node"
  | 2 => .object "PolicyTree$Bundle"
  | 3 => .int
  | 4 => .boolean
  | 5 => .object "PolicyTree$Filter"
  | _ => .boolean
abbrev wsX40 : List Cond := u_ws RX4 TX4 7
theorem nmX4 : ∀ a, a < 7 → ∀ b, b < 7 → a ≠ b → (TX4 a).2.1 ≠ (TX4 b).2.1 := by decide +kernel
theorem tyX4_ok : ∀ k, k < 7 → parseFieldDescriptor (TX4 k).2.2.1 = some (tyX4 k) := by decide +kernel
abbrev cX4_init : ByteArray := prog_6_method_1_code
def yX4_init : MethodName := ⟨RX4, "<init>", "(ILPolicyTree$Node;LPolicyTree$Bundle;IZLPolicyTree$Filter;)V"⟩
abbrev cX4_quarrelsWith : ByteArray := prog_6_method_2_code
def yX4_quarrelsWith : MethodName := ⟨RX4, "quarrelsWith", "(LPolicyTree$Link;I)Z"⟩
def RX5 : String := "PolicyTree$Machine"
def TX5 : u_T := fun k => match k with
  | 0 => ("PolicyTree$Machine", "node", "LPolicyTree$Node;", true)
  | 1 => ("PolicyTree$Machine", "known", "I", false)
  | _ => ("PolicyTree$Machine", "yes", "I", false)
def tyX5 : Nat → FieldType := fun k => match k with
  | 0 => .object "PolicyTree$Node"
  | 1 => .int
  | _ => .int
abbrev wsX50 : List Cond := u_ws RX5 TX5 3
theorem nmX5 : ∀ a, a < 3 → ∀ b, b < 3 → a ≠ b → (TX5 a).2.1 ≠ (TX5 b).2.1 := by decide +kernel
theorem tyX5_ok : ∀ k, k < 3 → parseFieldDescriptor (TX5 k).2.2.1 = some (tyX5 k) := by decide +kernel
abbrev cX5_init : ByteArray := prog_7_method_1_code
def yX5_init : MethodName := ⟨RX5, "<init>", "(LPolicyTree$Node;)V"⟩
abbrev cX5_knownFacts : ByteArray := prog_7_method_2_code
def yX5_knownFacts : MethodName := ⟨RX5, "knownFacts", "()I"⟩
abbrev cX5_yesFacts : ByteArray := prog_7_method_3_code
def yX5_yesFacts : MethodName := ⟨RX5, "yesFacts", "()I"⟩
abbrev cX5_factNow : ByteArray := prog_7_method_4_code
def yX5_factNow : MethodName := ⟨RX5, "factNow", "(I)I"⟩
abbrev cX5_learn : ByteArray := prog_7_method_5_code
def yX5_learn : MethodName := ⟨RX5, "learn", "(II)V"⟩
def RX6 : String := "PolicyTree$Node"
def TX6 : u_T := fun k => match k with
  | 0 => ("PolicyTree$Node", "number", "I", true)
  | 1 => ("PolicyTree$Node", "above", "LPolicyTree$Node;", false)
  | 2 => ("PolicyTree$Node", "blocked", "Z", false)
  | _ => ("PolicyTree$Node", "links", "Ljava/util/ArrayList;", true)
def tyX6 : Nat → FieldType := fun k => match k with
  | 0 => .int
  | 1 => .object "PolicyTree$Node"
  | 2 => .boolean
  | _ => .object "java/util/ArrayList"
abbrev wsX60 : List Cond := u_ws RX6 TX6 4
theorem nmX6 : ∀ a, a < 4 → ∀ b, b < 4 → a ≠ b → (TX6 a).2.1 ≠ (TX6 b).2.1 := by decide +kernel
theorem tyX6_ok : ∀ k, k < 4 → parseFieldDescriptor (TX6 k).2.2.1 = some (tyX6 k) := by decide +kernel
abbrev cX6_init : ByteArray := prog_8_method_1_code
def yX6_init : MethodName := ⟨RX6, "<init>", "(ILPolicyTree$Node;)V"⟩
abbrev cX6_isWithin : ByteArray := prog_8_method_2_code
def yX6_isWithin : MethodName := ⟨RX6, "isWithin", "(LPolicyTree$Node;)Z"⟩
abbrev cX6_size : ByteArray := prog_8_method_3_code
def yX6_size : MethodName := ⟨RX6, "size", "()I"⟩
abbrev cX6_linkAt : ByteArray := prog_8_method_4_code
def yX6_linkAt : MethodName := ⟨RX6, "linkAt", "(I)LPolicyTree$Link;"⟩
abbrev cX6_insert : ByteArray := prog_8_method_5_code
def yX6_insert : MethodName := ⟨RX6, "insert", "(LPolicyTree$Link;)V"⟩
abbrev cX6_remove : ByteArray := prog_8_method_6_code
def yX6_remove : MethodName := ⟨RX6, "remove", "(LPolicyTree$Link;)V"⟩
def RX7 : String := "PolicyTree$Outcome"
def TX7 : u_T := fun k => match k with
  | 0 => ("PolicyTree$Outcome", "values", "[I", true)
  | 1 => ("PolicyTree$Outcome", "size", "I", false)
  | _ => ("PolicyTree$Outcome", "link", "LPolicyTree$Link;", false)
def tyX7 : Nat → FieldType := fun k => match k with
  | 0 => .array .int
  | 1 => .int
  | _ => .object "PolicyTree$Link"
abbrev wsX70 : List Cond := u_ws RX7 TX7 3
theorem nmX7 : ∀ a, a < 3 → ∀ b, b < 3 → a ≠ b → (TX7 a).2.1 ≠ (TX7 b).2.1 := by decide +kernel
theorem tyX7_ok : ∀ k, k < 3 → parseFieldDescriptor (TX7 k).2.2.1 = some (tyX7 k) := by decide +kernel
abbrev cX7_init : ByteArray := prog_9_method_1_code
def yX7_init : MethodName := ⟨RX7, "<init>", "()V"⟩
abbrev cX7_read : ByteArray := prog_9_method_2_code
def yX7_read : MethodName := ⟨RX7, "read", "(LPolicyTree$Row;IIILPolicyTree$Link;)V"⟩
abbrev cX7_size : ByteArray := prog_9_method_3_code
def yX7_size : MethodName := ⟨RX7, "size", "()I"⟩
abbrev cX7_teller : ByteArray := prog_9_method_4_code
def yX7_teller : MethodName := ⟨RX7, "teller", "()LPolicyTree$Link;"⟩
abbrev cX7_valueAt : ByteArray := prog_9_method_5_code
def yX7_valueAt : MethodName := ⟨RX7, "valueAt", "(I)I"⟩
abbrev cX7_isSame : ByteArray := prog_9_method_6_code
def yX7_isSame : MethodName := ⟨RX7, "isSame", "(LPolicyTree$Outcome;)Z"⟩
abbrev cX7_take : ByteArray := prog_9_method_7_code
def yX7_take : MethodName := ⟨RX7, "take", "(LPolicyTree$Link;II)V"⟩
abbrev cX7_has : ByteArray := prog_9_method_8_code
def yX7_has : MethodName := ⟨RX7, "has", "(I)Z"⟩
def RX8 : String := "PolicyTree$Row"
def TX8 : u_T := fun k => match k with
  | 0 => ("PolicyTree$Row", "way", "Ljava/util/ArrayList;", true)
  | 1 => ("PolicyTree$Row", "links", "Ljava/util/ArrayList;", true)
  | 2 => ("PolicyTree$Row", "weights", "[J", true)
  | _ => ("PolicyTree$Row", "standing", "LPolicyTree$Standing;", true)
def tyX8 : Nat → FieldType := fun k => match k with
  | 0 => .object "java/util/ArrayList"
  | 1 => .object "java/util/ArrayList"
  | 2 => .array .long
  | _ => .object "PolicyTree$Standing"
abbrev wsX80 : List Cond := u_ws RX8 TX8 4
theorem nmX8 : ∀ a, a < 4 → ∀ b, b < 4 → a ≠ b → (TX8 a).2.1 ≠ (TX8 b).2.1 := by decide +kernel
theorem tyX8_ok : ∀ k, k < 4 → parseFieldDescriptor (TX8 k).2.2.1 = some (tyX8 k) := by decide +kernel
abbrev cX8_init : ByteArray := prog_10_method_1_code
def yX8_init : MethodName := ⟨RX8, "<init>", "()V"⟩
abbrev cX8_collect : ByteArray := prog_10_method_2_code
def yX8_collect : MethodName := ⟨RX8, "collect", "(LPolicyTree$Machine;II)V"⟩
abbrev cX8_weigh : ByteArray := prog_10_method_3_code
def yX8_weigh : MethodName := ⟨RX8, "weigh", "(I)V"⟩
abbrev cX8_size : ByteArray := prog_10_method_4_code
def yX8_size : MethodName := ⟨RX8, "size", "()I"⟩
abbrev cX8_linkAt : ByteArray := prog_10_method_5_code
def yX8_linkAt : MethodName := ⟨RX8, "linkAt", "(I)LPolicyTree$Link;"⟩
abbrev cX8_holds : ByteArray := prog_10_method_6_code
def yX8_holds : MethodName := ⟨RX8, "holds", "(II)Z"⟩
abbrev cX8_doubtedFacts : ByteArray := prog_10_method_7_code
def yX8_doubtedFacts : MethodName := ⟨RX8, "doubtedFacts", "()I"⟩
abbrev cX8_topOfOpen : ByteArray := prog_10_method_8_code
def yX8_topOfOpen : MethodName := ⟨RX8, "topOfOpen", "()I"⟩
abbrev cX8_addLinks : ByteArray := prog_10_method_9_code
def yX8_addLinks : MethodName := ⟨RX8, "addLinks", "(IZI)V"⟩
def RX9 : String := "PolicyTree$Standing"
def TX9 : u_T := fun k => match k with
  | 0 => ("PolicyTree$Standing", "stack", "[J", true)
  | 1 => ("PolicyTree$Standing", "facts", "[J", true)
  | 2 => ("PolicyTree$Standing", "known", "I", false)
  | 3 => ("PolicyTree$Standing", "yes", "I", false)
  | 4 => ("PolicyTree$Standing", "groups", "I", false)
  | _ => ("PolicyTree$Standing", "way", "J", false)
def tyX9 : Nat → FieldType := fun k => match k with
  | 0 => .array .long
  | 1 => .array .long
  | 2 => .int
  | 3 => .int
  | 4 => .int
  | _ => .long
abbrev wsX90 : List Cond := u_ws RX9 TX9 6
theorem nmX9 : ∀ a, a < 6 → ∀ b, b < 6 → a ≠ b → (TX9 a).2.1 ≠ (TX9 b).2.1 := by decide +kernel
theorem tyX9_ok : ∀ k, k < 6 → parseFieldDescriptor (TX9 k).2.2.1 = some (tyX9 k) := by decide +kernel
abbrev cX9_init : ByteArray := prog_11_method_1_code
def yX9_init : MethodName := ⟨RX9, "<init>", "()V"⟩
abbrev cX9_enter : ByteArray := prog_11_method_2_code
def yX9_enter : MethodName := ⟨RX9, "enter", "(LPolicyTree$Machine;IJ)V"⟩
abbrev cX9_guess : ByteArray := prog_11_method_3_code
def yX9_guess : MethodName := ⟨RX9, "guess", "(I)V"⟩
abbrev cX9_knownFacts : ByteArray := prog_11_method_4_code
def yX9_knownFacts : MethodName := ⟨RX9, "knownFacts", "()I"⟩
abbrev cX9_weighAtom : ByteArray := prog_11_method_5_code
def yX9_weighAtom : MethodName := ⟨RX9, "weighAtom", "(II)J"⟩
abbrev cX9_spread : ByteArray := prog_11_method_6_code
def yX9_spread : MethodName := ⟨RX9, "spread", "(Z)J"⟩
def RX10 : String := "PolicyTree$Tape"
def TX10 : u_T := fun k => match k with
  | 0 => ("PolicyTree$Tape", "bytes", "[B", true)
  | _ => ("PolicyTree$Tape", "size", "I", false)
def tyX10 : Nat → FieldType := fun k => match k with
  | 0 => .array .byte
  | _ => .int
abbrev wsX100 : List Cond := u_ws RX10 TX10 2
theorem nmX10 : ∀ a, a < 2 → ∀ b, b < 2 → a ≠ b → (TX10 a).2.1 ≠ (TX10 b).2.1 := by decide +kernel
theorem tyX10_ok : ∀ k, k < 2 → parseFieldDescriptor (TX10 k).2.2.1 = some (tyX10 k) := by decide +kernel
abbrev cX10_init : ByteArray := prog_12_method_1_code
def yX10_init : MethodName := ⟨RX10, "<init>", "()V"⟩
abbrev cX10_size : ByteArray := prog_12_method_2_code
def yX10_size : MethodName := ⟨RX10, "size", "()I"⟩
abbrev cX10_hasRoom : ByteArray := prog_12_method_3_code
def yX10_hasRoom : MethodName := ⟨RX10, "hasRoom", "(I)Z"⟩
abbrev cX10_addNumber : ByteArray := prog_12_method_4_code
def yX10_addNumber : MethodName := ⟨RX10, "addNumber", "(I)V"⟩
abbrev cX10_byteAt : ByteArray := prog_12_method_5_code
def yX10_byteAt : MethodName := ⟨RX10, "byteAt", "(I)I"⟩
abbrev cX10_clear : ByteArray := prog_12_method_6_code
def yX10_clear : MethodName := ⟨RX10, "clear", "()V"⟩
def RX11 : String := "PolicyTree"
def TX11 : u_T := fun k => match k with
  | 0 => ("PolicyTree", "nodes", "Ljava/util/ArrayList;", true)
  | 1 => ("PolicyTree", "machines", "Ljava/util/ArrayList;", true)
  | 2 => ("PolicyTree", "groups", "LPolicyTree$Groups;", true)
  | 3 => ("PolicyTree", "sets", "Ljava/util/ArrayList;", true)
  | 4 => ("PolicyTree", "links", "Ljava/util/ArrayList;", true)
  | 5 => ("PolicyTree", "laws", "[I", true)
  | 6 => ("PolicyTree", "tape", "LPolicyTree$Tape;", true)
  | 7 => ("PolicyTree", "reader", "LPolicyTree$FilterReader;", true)
  | 8 => ("PolicyTree", "faultPlace", "I", false)
  | 9 => ("PolicyTree", "row", "LPolicyTree$Row;", true)
  | 10 => ("PolicyTree", "otherRow", "LPolicyTree$Row;", true)
  | 11 => ("PolicyTree", "outcome", "LPolicyTree$Outcome;", true)
  | 12 => ("PolicyTree", "otherOutcome", "LPolicyTree$Outcome;", true)
  | _ => ("PolicyTree", "pairs", "[I", true)
def tyX11 : Nat → FieldType := fun k => match k with
  | 0 => .object "java/util/ArrayList"
  | 1 => .object "java/util/ArrayList"
  | 2 => .object "PolicyTree$Groups"
  | 3 => .object "java/util/ArrayList"
  | 4 => .object "java/util/ArrayList"
  | 5 => .array .int
  | 6 => .object "PolicyTree$Tape"
  | 7 => .object "PolicyTree$FilterReader"
  | 8 => .int
  | 9 => .object "PolicyTree$Row"
  | 10 => .object "PolicyTree$Row"
  | 11 => .object "PolicyTree$Outcome"
  | 12 => .object "PolicyTree$Outcome"
  | _ => .array .int
abbrev wsX110 : List Cond := u_ws RX11 TX11 14
theorem nmX11 : ∀ a, a < 14 → ∀ b, b < 14 → a ≠ b → (TX11 a).2.1 ≠ (TX11 b).2.1 := by decide +kernel
theorem tyX11_ok : ∀ k, k < 14 → parseFieldDescriptor (TX11 k).2.2.1 = some (tyX11 k) := by decide +kernel
abbrev cX11_init : ByteArray := prog_1_method_1_code
def yX11_init : MethodName := ⟨RX11, "<init>", "()V"⟩
abbrev cX11_node : ByteArray := prog_1_method_2_code
def yX11_node : MethodName := ⟨RX11, "node", "(I)I"⟩
abbrev cX11_block : ByteArray := prog_1_method_3_code
def yX11_block : MethodName := ⟨RX11, "block", "(IZ)Z"⟩
abbrev cX11_move : ByteArray := prog_1_method_4_code
def yX11_move : MethodName := ⟨RX11, "move", "(II)I"⟩
abbrev cX11_machine : ByteArray := prog_1_method_5_code
def yX11_machine : MethodName := ⟨RX11, "machine", "(I)I"⟩
abbrev cX11_fact : ByteArray := prog_1_method_6_code
def yX11_fact : MethodName := ⟨RX11, "fact", "(III)I"⟩
abbrev cX11_group : ByteArray := prog_1_method_7_code
def yX11_group : MethodName := ⟨RX11, "group", "()I"⟩
abbrev cX11_joins : ByteArray := prog_1_method_8_code
def yX11_joins : MethodName := ⟨RX11, "joins", "(IIZ)Z"⟩
abbrev cX11_within : ByteArray := prog_1_method_9_code
def yX11_within : MethodName := ⟨RX11, "within", "(IIZ)Z"⟩
abbrev cX11_member : ByteArray := prog_1_method_10_code
def yX11_member : MethodName := ⟨RX11, "member", "(II)Z"⟩
abbrev cX11_set : ByteArray := prog_1_method_11_code
def yX11_set : MethodName := ⟨RX11, "set", "()I"⟩
abbrev cX11_tell : ByteArray := prog_1_method_12_code
def yX11_tell : MethodName := ⟨RX11, "tell", "(III)Z"⟩
abbrev cX11_untell : ByteArray := prog_1_method_13_code
def yX11_untell : MethodName := ⟨RX11, "untell", "(II)Z"⟩
abbrev cX11_law : ByteArray := prog_1_method_14_code
def yX11_law : MethodName := ⟨RX11, "law", "(II)I"⟩
abbrev cX11_feed : ByteArray := prog_1_method_15_code
def yX11_feed : MethodName := ⟨RX11, "feed", "(IIIII)I"⟩
abbrev cX11_link : ByteArray := prog_1_method_16_code
def yX11_link : MethodName := ⟨RX11, "link", "(IIIZI)I"⟩
abbrev cX11_fault : ByteArray := prog_1_method_17_code
def yX11_fault : MethodName := ⟨RX11, "fault", "()I"⟩
abbrev cX11_end : ByteArray := prog_1_method_18_code
def yX11_end : MethodName := ⟨RX11, "end", "(I)Z"⟩
abbrev cX11_outcome : ByteArray := prog_1_method_19_code
def yX11_outcome : MethodName := ⟨RX11, "outcome", "(II)I"⟩
abbrev cX11_value : ByteArray := prog_1_method_20_code
def yX11_value : MethodName := ⟨RX11, "value", "(III)I"⟩
abbrev cX11_reason : ByteArray := prog_1_method_21_code
def yX11_reason : MethodName := ⟨RX11, "reason", "(II)I"⟩
abbrev cX11_beaten : ByteArray := prog_1_method_22_code
def yX11_beaten : MethodName := ⟨RX11, "beaten", "(III)I"⟩
abbrev cX11_sure : ByteArray := prog_1_method_23_code
def yX11_sure : MethodName := ⟨RX11, "sure", "(II)Z"⟩
abbrev cX11_reach : ByteArray := prog_1_method_24_code
def yX11_reach : MethodName := ⟨RX11, "reach", "(I)I"⟩
abbrev cX11_reached : ByteArray := prog_1_method_25_code
def yX11_reached : MethodName := ⟨RX11, "reached", "(III)I"⟩
abbrev cX11_quarrels : ByteArray := prog_1_method_26_code
def yX11_quarrels : MethodName := ⟨RX11, "quarrels", "()I"⟩
abbrev cX11_quarrel : ByteArray := prog_1_method_27_code
def yX11_quarrel : MethodName := ⟨RX11, "quarrel", "(II)I"⟩
abbrev cX11_count : ByteArray := prog_1_method_28_code
def yX11_count : MethodName := ⟨RX11, "count", "(I)I"⟩
abbrev cX11_needNumber : ByteArray := prog_1_method_29_code
def yX11_needNumber : MethodName := ⟨RX11, "needNumber", "(II)V"⟩
abbrev cX11_needChoice : ByteArray := prog_1_method_30_code
def yX11_needChoice : MethodName := ⟨RX11, "needChoice", "(II)V"⟩
abbrev cX11_needRoom : ByteArray := prog_1_method_31_code
def yX11_needRoom : MethodName := ⟨RX11, "needRoom", "(II)V"⟩
abbrev cX11_findOutcome : ByteArray := prog_1_method_32_code
def yX11_findOutcome : MethodName := ⟨RX11, "findOutcome", "(II)V"⟩
abbrev cX11_isSameInLane : ByteArray := prog_1_method_33_code
def yX11_isSameInLane : MethodName := ⟨RX11, "isSameInLane", "(II)Z"⟩
abbrev cX11_countMoved : ByteArray := prog_1_method_34_code
def yX11_countMoved : MethodName := ⟨RX11, "countMoved", "(ILPolicyTree$Node;LPolicyTree$Node;)I"⟩
abbrev cX11_listReach : ByteArray := prog_1_method_35_code
def yX11_listReach : MethodName := ⟨RX11, "listReach", "(LPolicyTree$Link;)I"⟩
abbrev cX11_addReach : ByteArray := prog_1_method_36_code
def yX11_addReach : MethodName := ⟨RX11, "addReach", "(LPolicyTree$Link;II)I"⟩
abbrev cX11_settingsOfLast : ByteArray := prog_1_method_37_code
def yX11_settingsOfLast : MethodName := ⟨RX11, "settingsOfLast", "()I"⟩
abbrev cX11_countQuarrels : ByteArray := prog_1_method_38_code
def yX11_countQuarrels : MethodName := ⟨RX11, "countQuarrels", "(II)I"⟩
abbrev cX11_findQuarreller : ByteArray := prog_1_method_39_code
def yX11_findQuarreller : MethodName := ⟨RX11, "findQuarreller", "(III)I"⟩
abbrev cX11_countLasting : ByteArray := prog_1_method_40_code
def yX11_countLasting : MethodName := ⟨RX11, "countLasting", "()I"⟩
def RX12 : String := "PolicyTreeModel"
def TX12 : u_T := fun k => match k with
  | 0 => ("PolicyTreeModel", "thrown", "I", false)
  | 1 => ("PolicyTreeModel", "above", "[I", true)
  | 2 => ("PolicyTreeModel", "isBlocked", "[Z", true)
  | 3 => ("PolicyTreeModel", "nodes", "I", false)
  | 4 => ("PolicyTreeModel", "nodeOf", "[I", true)
  | 5 => ("PolicyTreeModel", "facts", "[I", true)
  | 6 => ("PolicyTreeModel", "inGroups", "[I", true)
  | 7 => ("PolicyTreeModel", "machines", "I", false)
  | 8 => ("PolicyTreeModel", "within", "[I", true)
  | 9 => ("PolicyTreeModel", "groups", "I", false)
  | 10 => ("PolicyTreeModel", "told", "[I", true)
  | 11 => ("PolicyTreeModel", "values", "[I", true)
  | 12 => ("PolicyTreeModel", "sets", "I", false)
  | 13 => ("PolicyTreeModel", "laws", "[I", true)
  | 14 => ("PolicyTreeModel", "tape", "[B", true)
  | 15 => ("PolicyTreeModel", "taped", "I", false)
  | 16 => ("PolicyTreeModel", "size", "I", false)
  | 17 => ("PolicyTreeModel", "at", "I", false)
  | 18 => ("PolicyTreeModel", "fault", "I", false)
  | 19 => ("PolicyTreeModel", "place", "I", false)
  | 20 => ("PolicyTreeModel", "open", "I", false)
  | 21 => ("PolicyTreeModel", "code", "[I", false)
  | 22 => ("PolicyTreeModel", "codes", "I", false)
  | 23 => ("PolicyTreeModel", "pile", "[Z", true)
  | 24 => ("PolicyTreeModel", "linkNode", "[I", true)
  | 25 => ("PolicyTreeModel", "linkSet", "[I", true)
  | 26 => ("PolicyTreeModel", "linkOrder", "[I", true)
  | 27 => ("PolicyTreeModel", "isForced", "[Z", true)
  | 28 => ("PolicyTreeModel", "hasEnded", "[Z", true)
  | 29 => ("PolicyTreeModel", "from", "[I", true)
  | 30 => ("PolicyTreeModel", "to", "[I", true)
  | 31 => ("PolicyTreeModel", "sorted", "[I", true)
  | 32 => ("PolicyTreeModel", "links", "I", false)
  | 33 => ("PolicyTreeModel", "below", "[I", true)
  | 34 => ("PolicyTreeModel", "way", "[I", true)
  | 35 => ("PolicyTreeModel", "row", "[I", true)
  | 36 => ("PolicyTreeModel", "rows", "I", false)
  | 37 => ("PolicyTreeModel", "got", "[I", true)
  | 38 => ("PolicyTreeModel", "gots", "I", false)
  | 39 => ("PolicyTreeModel", "reason", "I", false)
  | 40 => ("PolicyTreeModel", "kept", "[I", true)
  | 41 => ("PolicyTreeModel", "keeps", "I", false)
  | 42 => ("PolicyTreeModel", "pairMachine", "I", false)
  | 43 => ("PolicyTreeModel", "pairSetting", "I", false)
  | 44 => ("PolicyTreeModel", "was", "[I", true)
  | 45 => ("PolicyTreeModel", "one", "I", false)
  | _ => ("PolicyTreeModel", "other", "I", false)
def tyX12 : Nat → FieldType := fun k => match k with
  | 0 => .int
  | 1 => .array .int
  | 2 => .array .boolean
  | 3 => .int
  | 4 => .array .int
  | 5 => .array .int
  | 6 => .array .int
  | 7 => .int
  | 8 => .array .int
  | 9 => .int
  | 10 => .array .int
  | 11 => .array .int
  | 12 => .int
  | 13 => .array .int
  | 14 => .array .byte
  | 15 => .int
  | 16 => .int
  | 17 => .int
  | 18 => .int
  | 19 => .int
  | 20 => .int
  | 21 => .array .int
  | 22 => .int
  | 23 => .array .boolean
  | 24 => .array .int
  | 25 => .array .int
  | 26 => .array .int
  | 27 => .array .boolean
  | 28 => .array .boolean
  | 29 => .array .int
  | 30 => .array .int
  | 31 => .array .int
  | 32 => .int
  | 33 => .array .int
  | 34 => .array .int
  | 35 => .array .int
  | 36 => .int
  | 37 => .array .int
  | 38 => .int
  | 39 => .int
  | 40 => .array .int
  | 41 => .int
  | 42 => .int
  | 43 => .int
  | 44 => .array .int
  | 45 => .int
  | _ => .int
abbrev wsX120 : List Cond := u_ws RX12 TX12 47
theorem nmX12 : ∀ a, a < 47 → ∀ b, b < 47 → a ≠ b → (TX12 a).2.1 ≠ (TX12 b).2.1 := by decide +kernel
theorem tyX12_ok : ∀ k, k < 47 → parseFieldDescriptor (TX12 k).2.2.1 = some (tyX12 k) := by decide +kernel
abbrev cX12_init : ByteArray := prog_14_method_1_code
def yX12_init : MethodName := ⟨RX12, "<init>", "()V"⟩
abbrev cX12_thrown : ByteArray := prog_14_method_2_code
def yX12_thrown : MethodName := ⟨RX12, "thrown", "()I"⟩
abbrev cX12_bad : ByteArray := prog_14_method_3_code
def yX12_bad : MethodName := ⟨RX12, "bad", "(ZI)Z"⟩
abbrev cX12_none : ByteArray := prog_14_method_4_code
def yX12_none : MethodName := ⟨RX12, "none", "(II)Z"⟩
abbrev cX12_node : ByteArray := prog_14_method_5_code
def yX12_node : MethodName := ⟨RX12, "node", "(I)I"⟩
abbrev cX12_block : ByteArray := prog_14_method_6_code
def yX12_block : MethodName := ⟨RX12, "block", "(IZ)Z"⟩
abbrev cX12_isBelow : ByteArray := prog_14_method_7_code
def yX12_isBelow : MethodName := ⟨RX12, "isBelow", "(II)Z"⟩
abbrev cX12_machine : ByteArray := prog_14_method_8_code
def yX12_machine : MethodName := ⟨RX12, "machine", "(I)I"⟩
abbrev cX12_fact : ByteArray := prog_14_method_9_code
def yX12_fact : MethodName := ⟨RX12, "fact", "(III)I"⟩
abbrev cX12_group : ByteArray := prog_14_method_10_code
def yX12_group : MethodName := ⟨RX12, "group", "()I"⟩
abbrev cX12_joins : ByteArray := prog_14_method_11_code
def yX12_joins : MethodName := ⟨RX12, "joins", "(IIZ)Z"⟩
abbrev cX12_within : ByteArray := prog_14_method_12_code
def yX12_within : MethodName := ⟨RX12, "within", "(IIZ)Z"⟩
abbrev cX12_allIn : ByteArray := prog_14_method_13_code
def yX12_allIn : MethodName := ⟨RX12, "allIn", "(I)I"⟩
abbrev cX12_member : ByteArray := prog_14_method_14_code
def yX12_member : MethodName := ⟨RX12, "member", "(II)Z"⟩
abbrev cX12_set : ByteArray := prog_14_method_15_code
def yX12_set : MethodName := ⟨RX12, "set", "()I"⟩
abbrev cX12_isSetting : ByteArray := prog_14_method_16_code
def yX12_isSetting : MethodName := ⟨RX12, "isSetting", "(I)Z"⟩
abbrev cX12_tells : ByteArray := prog_14_method_17_code
def yX12_tells : MethodName := ⟨RX12, "tells", "(II)Z"⟩
abbrev cX12_tell : ByteArray := prog_14_method_18_code
def yX12_tell : MethodName := ⟨RX12, "tell", "(III)Z"⟩
abbrev cX12_untell : ByteArray := prog_14_method_19_code
def yX12_untell : MethodName := ⟨RX12, "untell", "(II)Z"⟩
abbrev cX12_law : ByteArray := prog_14_method_20_code
def yX12_law : MethodName := ⟨RX12, "law", "(II)I"⟩
abbrev cX12_feed : ByteArray := prog_14_method_21_code
def yX12_feed : MethodName := ⟨RX12, "feed", "(IIIII)I"⟩
abbrev cX12_byteAt : ByteArray := prog_14_method_22_code
def yX12_byteAt : MethodName := ⟨RX12, "byteAt", "(I)I"⟩
abbrev cX12_blanks : ByteArray := prog_14_method_23_code
def yX12_blanks : MethodName := ⟨RX12, "blanks", "()V"⟩
abbrev cX12_wrong : ByteArray := prog_14_method_24_code
def yX12_wrong : MethodName := ⟨RX12, "wrong", "(II)V"⟩
abbrev cX12_isWord : ByteArray := prog_14_method_25_code
def yX12_isWord : MethodName := ⟨RX12, "isWord", "(Ljava/lang/String;)Z"⟩
abbrev cX12_eat : ByteArray := prog_14_method_26_code
def yX12_eat : MethodName := ⟨RX12, "eat", "(Ljava/lang/String;)Z"⟩
abbrev cX12_emits : ByteArray := prog_14_method_27_code
def yX12_emits : MethodName := ⟨RX12, "emits", "(I)V"⟩
abbrev cX12_any : ByteArray := prog_14_method_28_code
def yX12_any : MethodName := ⟨RX12, "any", "()V"⟩
abbrev cX12_all : ByteArray := prog_14_method_29_code
def yX12_all : MethodName := ⟨RX12, "all", "()V"⟩
abbrev cX12_opens : ByteArray := prog_14_method_30_code
def yX12_opens : MethodName := ⟨RX12, "opens", "()Z"⟩
abbrev cX12_one : ByteArray := prog_14_method_31_code
def yX12_one : MethodName := ⟨RX12, "one", "()V"⟩
abbrev cX12_number : ByteArray := prog_14_method_32_code
def yX12_number : MethodName := ⟨RX12, "number", "(II)V"⟩
abbrev cX12_link : ByteArray := prog_14_method_33_code
def yX12_link : MethodName := ⟨RX12, "link", "(IIIZI)I"⟩
abbrev cX12_fault : ByteArray := prog_14_method_34_code
def yX12_fault : MethodName := ⟨RX12, "fault", "()I"⟩
abbrev cX12_end : ByteArray := prog_14_method_35_code
def yX12_end : MethodName := ⟨RX12, "end", "(I)Z"⟩
abbrev cX12_holds : ByteArray := prog_14_method_36_code
def yX12_holds : MethodName := ⟨RX12, "holds", "(III)Z"⟩
abbrev cX12_groupsAnew : ByteArray := prog_14_method_37_code
def yX12_groupsAnew : MethodName := ⟨RX12, "groupsAnew", "()V"⟩
abbrev cX12_yesOf : ByteArray := prog_14_method_38_code
def yX12_yesOf : MethodName := ⟨RX12, "yesOf", "(I)I"⟩
abbrev cX12_adds : ByteArray := prog_14_method_39_code
def yX12_adds : MethodName := ⟨RX12, "adds", "(IZIII)V"⟩
abbrev cX12_makes : ByteArray := prog_14_method_40_code
def yX12_makes : MethodName := ⟨RX12, "makes", "(III)V"⟩
abbrev cX12_valueOf : ByteArray := prog_14_method_41_code
def yX12_valueOf : MethodName := ⟨RX12, "valueOf", "(II)I"⟩
abbrev cX12_outcomes : ByteArray := prog_14_method_42_code
def yX12_outcomes : MethodName := ⟨RX12, "outcomes", "(I)V"⟩
abbrev cX12_isAsked : ByteArray := prog_14_method_43_code
def yX12_isAsked : MethodName := ⟨RX12, "isAsked", "(II)Z"⟩
abbrev cX12_outcome : ByteArray := prog_14_method_44_code
def yX12_outcome : MethodName := ⟨RX12, "outcome", "(II)I"⟩
abbrev cX12_value : ByteArray := prog_14_method_45_code
def yX12_value : MethodName := ⟨RX12, "value", "(III)I"⟩
abbrev cX12_reason : ByteArray := prog_14_method_46_code
def yX12_reason : MethodName := ⟨RX12, "reason", "(II)I"⟩
abbrev cX12_beaten : ByteArray := prog_14_method_47_code
def yX12_beaten : MethodName := ⟨RX12, "beaten", "(III)I"⟩
abbrev cX12_keepsThem : ByteArray := prog_14_method_48_code
def yX12_keepsThem : MethodName := ⟨RX12, "keepsThem", "()V"⟩
abbrev cX12_isAsKept : ByteArray := prog_14_method_49_code
def yX12_isAsKept : MethodName := ⟨RX12, "isAsKept", "()Z"⟩
abbrev cX12_sure : ByteArray := prog_14_method_50_code
def yX12_sure : MethodName := ⟨RX12, "sure", "(II)Z"⟩
abbrev cX12_reaches : ByteArray := prog_14_method_51_code
def yX12_reaches : MethodName := ⟨RX12, "reaches", "(II)I"⟩
abbrev cX12_reach : ByteArray := prog_14_method_52_code
def yX12_reach : MethodName := ⟨RX12, "reach", "(I)I"⟩
abbrev cX12_reached : ByteArray := prog_14_method_53_code
def yX12_reached : MethodName := ⟨RX12, "reached", "(III)I"⟩
abbrev cX12_move : ByteArray := prog_14_method_54_code
def yX12_move : MethodName := ⟨RX12, "move", "(II)I"⟩
abbrev cX12_areUnlike : ByteArray := prog_14_method_55_code
def yX12_areUnlike : MethodName := ⟨RX12, "areUnlike", "(II)Z"⟩
abbrev cX12_looks : ByteArray := prog_14_method_56_code
def yX12_looks : MethodName := ⟨RX12, "looks", "(I)I"⟩
abbrev cX12_quarrels : ByteArray := prog_14_method_57_code
def yX12_quarrels : MethodName := ⟨RX12, "quarrels", "()I"⟩
abbrev cX12_quarrel : ByteArray := prog_14_method_58_code
def yX12_quarrel : MethodName := ⟨RX12, "quarrel", "(II)I"⟩
abbrev cX12_count : ByteArray := prog_14_method_59_code
def yX12_count : MethodName := ⟨RX12, "count", "(I)I"⟩
def RJx145de : String := "java/io/Serializable"
def TJx145de : u_T := fun k => match k with
  | _ => ("", "", "", false)
def tyJx145de : Nat → FieldType := fun k => match k with
  | _ => .int
abbrev wsJx145de0 : List Cond := u_ws RJx145de TJx145de 0
theorem nmJx145de : ∀ a, a < 0 → ∀ b, b < 0 → a ≠ b → (TJx145de a).2.1 ≠ (TJx145de b).2.1 := by decide +kernel
theorem tyJx145de_ok : ∀ k, k < 0 → parseFieldDescriptor (TJx145de k).2.2.1 = some (tyJx145de k) := by decide +kernel
def RJ5 : String := "java/lang/AbstractStringBuilder"
def TJ5 : u_T := fun k => match k with
  | _ => ("", "", "", false)
def tyJ5 : Nat → FieldType := fun k => match k with
  | _ => .int
abbrev wsJ50 : List Cond := u_ws RJ5 TJ5 0
theorem nmJ5 : ∀ a, a < 0 → ∀ b, b < 0 → a ≠ b → (TJ5 a).2.1 ≠ (TJ5 b).2.1 := by decide +kernel
theorem tyJ5_ok : ∀ k, k < 0 → parseFieldDescriptor (TJ5 k).2.2.1 = some (tyJ5 k) := by decide +kernel
abbrev cJ5_init_d00df : ByteArray := prog_16_method_2_code
def yJ5_init_d00df : MethodName := ⟨RJ5, "<init>", "(I)V"⟩
abbrev cJ5_length_8abf5 : ByteArray := prog_16_method_6_code
def yJ5_length_8abf5 : MethodName := ⟨RJ5, "length", "()I"⟩
abbrev cJ5_ensureCapacityInternal_d00df : ByteArray := prog_16_method_9_code
def yJ5_ensureCapacityInternal_d00df : MethodName := ⟨RJ5, "ensureCapacityInternal", "(I)V"⟩
abbrev cJ5_newCapacity_0f7a4 : ByteArray := prog_16_method_10_code
def yJ5_newCapacity_0f7a4 : MethodName := ⟨RJ5, "newCapacity", "(I)I"⟩
abbrev cJ5_inflate_da8c8 : ByteArray := prog_16_method_11_code
def yJ5_inflate_da8c8 : MethodName := ⟨RJ5, "inflate", "()V"⟩
abbrev cJ5_append_cf1ce : ByteArray := prog_16_method_22_code
def yJ5_append_cf1ce : MethodName := ⟨RJ5, "append", "(Ljava/lang/String;)Ljava/lang/AbstractStringBuilder;"⟩
abbrev cJ5_appendNull_278bc : ByteArray := prog_16_method_26_code
def yJ5_appendNull_278bc : MethodName := ⟨RJ5, "appendNull", "()Ljava/lang/AbstractStringBuilder;"⟩
abbrev cJ5_append_c97b9 : ByteArray := prog_16_method_32_code
def yJ5_append_c97b9 : MethodName := ⟨RJ5, "append", "(I)Ljava/lang/AbstractStringBuilder;"⟩
abbrev cJ5_getValue_6d5f1 : ByteArray := prog_16_method_64_code
def yJ5_getValue_6d5f1 : MethodName := ⟨RJ5, "getValue", "()[B"⟩
abbrev cJ5_isLatin1_aae02 : ByteArray := prog_16_method_68_code
def yJ5_isLatin1_aae02 : MethodName := ⟨RJ5, "isLatin1", "()Z"⟩
abbrev cJ5_inflateIfNeededFor_a7421 : ByteArray := prog_16_method_71_code
def yJ5_inflateIfNeededFor_a7421 : MethodName := ⟨RJ5, "inflateIfNeededFor", "(Ljava/lang/String;)V"⟩
abbrev cJ5_putStringAt_47b60 : ByteArray := prog_16_method_73_code
def yJ5_putStringAt_47b60 : MethodName := ⟨RJ5, "putStringAt", "(ILjava/lang/String;)V"⟩
def RJx8e188 : String := "java/lang/Cloneable"
def TJx8e188 : u_T := fun k => match k with
  | _ => ("", "", "", false)
def tyJx8e188 : Nat → FieldType := fun k => match k with
  | _ => .int
abbrev wsJx8e1880 : List Cond := u_ws RJx8e188 TJx8e188 0
theorem nmJx8e188 : ∀ a, a < 0 → ∀ b, b < 0 → a ≠ b → (TJx8e188 a).2.1 ≠ (TJx8e188 b).2.1 := by decide +kernel
theorem tyJx8e188_ok : ∀ k, k < 0 → parseFieldDescriptor (TJx8e188 k).2.2.1 = some (tyJx8e188 k) := by decide +kernel
def RJ6 : String := "java/lang/Integer"
def TJ6 : u_T := fun k => match k with
  | _ => ("", "", "", false)
def tyJ6 : Nat → FieldType := fun k => match k with
  | _ => .int
abbrev wsJ60 : List Cond := u_ws RJ6 TJ6 0
theorem nmJ6 : ∀ a, a < 0 → ∀ b, b < 0 → a ≠ b → (TJ6 a).2.1 ≠ (TJ6 b).2.1 := by decide +kernel
theorem tyJ6_ok : ∀ k, k < 0 → parseFieldDescriptor (TJ6 k).2.2.1 = some (tyJ6 k) := by decide +kernel
abbrev cJ6_getChars_ba4f3 : ByteArray := prog_22_method_12_code
def yJ6_getChars_ba4f3 : MethodName := ⟨RJ6, "getChars", "(II[B)I"⟩
abbrev cJ6_stringSize_0f7a4 : ByteArray := prog_22_method_13_code
def yJ6_stringSize_0f7a4 : MethodName := ⟨RJ6, "stringSize", "(I)I"⟩
def RJxab1ab : String := "java/lang/Iterable"
def TJxab1ab : u_T := fun k => match k with
  | _ => ("", "", "", false)
def tyJxab1ab : Nat → FieldType := fun k => match k with
  | _ => .int
abbrev wsJxab1ab0 : List Cond := u_ws RJxab1ab TJxab1ab 0
theorem nmJxab1ab : ∀ a, a < 0 → ∀ b, b < 0 → a ≠ b → (TJxab1ab a).2.1 ≠ (TJxab1ab b).2.1 := by decide +kernel
theorem tyJxab1ab_ok : ∀ k, k < 0 → parseFieldDescriptor (TJxab1ab k).2.2.1 = some (tyJxab1ab k) := by decide +kernel
def RJ9 : String := "java/lang/Math"
def TJ9 : u_T := fun k => match k with
  | _ => ("", "", "", false)
def tyJ9 : Nat → FieldType := fun k => match k with
  | _ => .int
abbrev wsJ90 : List Cond := u_ws RJ9 TJ9 0
theorem nmJ9 : ∀ a, a < 0 → ∀ b, b < 0 → a ≠ b → (TJ9 a).2.1 ≠ (TJ9 b).2.1 := by decide +kernel
theorem tyJ9_ok : ∀ k, k < 0 → parseFieldDescriptor (TJ9 k).2.2.1 = some (tyJ9 k) := by decide +kernel
abbrev cJ9_max_7cf53 : ByteArray := prog_24_method_65_code
def yJ9_max_7cf53 : MethodName := ⟨RJ9, "max", "(II)I"⟩
abbrev cJ9_min_7cf53 : ByteArray := prog_24_method_69_code
def yJ9_min_7cf53 : MethodName := ⟨RJ9, "min", "(II)I"⟩
def RJ0 : String := "java/lang/String"
def TJ0 : u_T := fun k => match k with
  | 0 => ("java/lang/String", "value", "[B", true)
  | 1 => ("java/lang/String", "coder", "B", true)
  | 2 => ("java/lang/String", "hash", "I", false)
  | _ => ("java/lang/String", "hashIsZero", "Z", false)
def tyJ0 : Nat → FieldType := fun k => match k with
  | 0 => .array .byte
  | 1 => .byte
  | 2 => .int
  | _ => .boolean
abbrev wsJ00 : List Cond := u_ws RJ0 TJ0 4
theorem nmJ0 : ∀ a, a < 4 → ∀ b, b < 4 → a ≠ b → (TJ0 a).2.1 ≠ (TJ0 b).2.1 := by decide +kernel
theorem tyJ0_ok : ∀ k, k < 4 → parseFieldDescriptor (TJ0 k).2.2.1 = some (tyJ0 k) := by decide +kernel
abbrev cJ0_init_81219 : ByteArray := prog_26_method_53_code
def yJ0_init_81219 : MethodName := ⟨RJ0, "<init>", "(Ljava/lang/StringBuilder;)V"⟩
abbrev cJ0_length_8abf5 : ByteArray := prog_26_method_54_code
def yJ0_length_8abf5 : MethodName := ⟨RJ0, "length", "()I"⟩
abbrev cJ0_charAt_5068e : ByteArray := prog_26_method_56_code
def yJ0_charAt_5068e : MethodName := ⟨RJ0, "charAt", "(I)C"⟩
abbrev cJ0_getBytes_840e7 : ByteArray := prog_26_method_147_code
def yJ0_getBytes_840e7 : MethodName := ⟨RJ0, "getBytes", "([BIB)V"⟩
abbrev cJ0_init_db425 : ByteArray := prog_26_method_150_code
def yJ0_init_db425 : MethodName := ⟨RJ0, "<init>", "(Ljava/lang/AbstractStringBuilder;Ljava/lang/Void;)V"⟩
abbrev cJ0_coder_7d493 : ByteArray := prog_26_method_152_code
def yJ0_coder_7d493 : MethodName := ⟨RJ0, "coder", "()B"⟩
abbrev cJ0_isLatin1_aae02 : ByteArray := prog_26_method_154_code
def yJ0_isLatin1_aae02 : MethodName := ⟨RJ0, "isLatin1", "()Z"⟩
abbrev cJ0_checkIndex_df160 : ByteArray := prog_26_method_155_code
def yJ0_checkIndex_df160 : MethodName := ⟨RJ0, "checkIndex", "(II)V"⟩
abbrev cJ0_checkBoundsOffCount_cabcc : ByteArray := prog_26_method_157_code
def yJ0_checkBoundsOffCount_cabcc : MethodName := ⟨RJ0, "checkBoundsOffCount", "(III)I"⟩
abbrev cJ0_checkBoundsBeginEnd_23922 : ByteArray := prog_26_method_158_code
def yJ0_checkBoundsBeginEnd_23922 : MethodName := ⟨RJ0, "checkBoundsBeginEnd", "(III)V"⟩
def RJ4 : String := "java/lang/StringBuilder"
def TJ4 : u_T := fun k => match k with
  | 0 => ("java/lang/AbstractStringBuilder", "value", "[B", false)
  | 1 => ("java/lang/AbstractStringBuilder", "coder", "B", false)
  | 2 => ("java/lang/AbstractStringBuilder", "maybeLatin1", "Z", false)
  | _ => ("java/lang/AbstractStringBuilder", "count", "I", false)
def tyJ4 : Nat → FieldType := fun k => match k with
  | 0 => .array .byte
  | 1 => .byte
  | 2 => .boolean
  | _ => .int
abbrev wsJ40 : List Cond := u_ws RJ4 TJ4 4
theorem nmJ4 : ∀ a, a < 4 → ∀ b, b < 4 → a ≠ b → (TJ4 a).2.1 ≠ (TJ4 b).2.1 := by decide +kernel
theorem tyJ4_ok : ∀ k, k < 4 → parseFieldDescriptor (TJ4 k).2.2.1 = some (tyJ4 k) := by decide +kernel
abbrev cJ4_init_da8c8 : ByteArray := prog_27_method_1_code
def yJ4_init_da8c8 : MethodName := ⟨RJ4, "<init>", "()V"⟩
abbrev cJ4_append_15ec4 : ByteArray := prog_27_method_7_code
def yJ4_append_15ec4 : MethodName := ⟨RJ4, "append", "(Ljava/lang/String;)Ljava/lang/StringBuilder;"⟩
abbrev cJ4_append_bf812 : ByteArray := prog_27_method_15_code
def yJ4_append_bf812 : MethodName := ⟨RJ4, "append", "(I)Ljava/lang/StringBuilder;"⟩
abbrev cJ4_toString_0e30d : ByteArray := prog_27_method_42_code
def yJ4_toString_0e30d : MethodName := ⟨RJ4, "toString", "()Ljava/lang/String;"⟩
abbrev cJ4_length_8abf5 : ByteArray := prog_27_method_93_code
def yJ4_length_8abf5 : MethodName := ⟨RJ4, "length", "()I"⟩
def RJ1 : String := "java/lang/StringLatin1"
def TJ1 : u_T := fun k => match k with
  | _ => ("", "", "", false)
def tyJ1 : Nat → FieldType := fun k => match k with
  | _ => .int
abbrev wsJ10 : List Cond := u_ws RJ1 TJ1 0
theorem nmJ1 : ∀ a, a < 0 → ∀ b, b < 0 → a ≠ b → (TJ1 a).2.1 ≠ (TJ1 b).2.1 := by decide +kernel
theorem tyJ1_ok : ∀ k, k < 0 → parseFieldDescriptor (TJ1 k).2.2.1 = some (tyJ1 k) := by decide +kernel
abbrev cJ1_charAt_3b067 : ByteArray := prog_28_method_2_code
def yJ1_charAt_3b067 : MethodName := ⟨RJ1, "charAt", "([BI)C"⟩
abbrev cJ1_inflate_0e8fd : ByteArray := prog_28_method_50_code
def yJ1_inflate_0e8fd : MethodName := ⟨RJ1, "inflate", "([BI[BII)V"⟩
def RJ2 : String := "java/lang/StringUTF16"
def TJ2 : u_T := fun k => match k with
  | _ => ("", "", "", false)
def tyJ2 : Nat → FieldType := fun k => match k with
  | _ => .int
abbrev wsJ20 : List Cond := u_ws RJ2 TJ2 0
theorem nmJ2 : ∀ a, a < 0 → ∀ b, b < 0 → a ≠ b → (TJ2 a).2.1 ≠ (TJ2 b).2.1 := by decide +kernel
theorem tyJ2_ok : ∀ k, k < 0 → parseFieldDescriptor (TJ2 k).2.2.1 = some (tyJ2 k) := by decide +kernel
abbrev cJ2_newBytesFor_77867 : ByteArray := prog_29_method_2_code
def yJ2_newBytesFor_77867 : MethodName := ⟨RJ2, "newBytesFor", "(I)[B"⟩
abbrev cJ2_newBytesLength_0f7a4 : ByteArray := prog_29_method_3_code
def yJ2_newBytesLength_0f7a4 : MethodName := ⟨RJ2, "newBytesLength", "(I)I"⟩
abbrev cJ2_putChar_b72d1 : ByteArray := prog_29_method_4_code
def yJ2_putChar_b72d1 : MethodName := ⟨RJ2, "putChar", "([BII)V"⟩
abbrev cJ2_getChar_3b067 : ByteArray := prog_29_method_5_code
def yJ2_getChar_3b067 : MethodName := ⟨RJ2, "getChar", "([BI)C"⟩
abbrev cJ2_length_9d52b : ByteArray := prog_29_method_6_code
def yJ2_length_9d52b : MethodName := ⟨RJ2, "length", "([B)I"⟩
abbrev cJ2_coderFromArrayLen_85cad : ByteArray := prog_29_method_15_code
def yJ2_coderFromArrayLen_85cad : MethodName := ⟨RJ2, "coderFromArrayLen", "([BI)B"⟩
abbrev cJ2_compress_39247 : ByteArray := prog_29_method_17_code
def yJ2_compress_39247 : MethodName := ⟨RJ2, "compress", "([BII)[B"⟩
abbrev cJ2_compress_5af95 : ByteArray := prog_29_method_22_code
def yJ2_compress_5af95 : MethodName := ⟨RJ2, "compress", "([BI[BII)I"⟩
abbrev cJ2_getChars_46870 : ByteArray := prog_29_method_77_code
def yJ2_getChars_46870 : MethodName := ⟨RJ2, "getChars", "(III[B)I"⟩
abbrev cJ2_putCharsAt_cd4e5 : ByteArray := prog_29_method_81_code
def yJ2_putCharsAt_cd4e5 : MethodName := ⟨RJ2, "putCharsAt", "([BICCCC)I"⟩
abbrev cJ2_charAt_3b067 : ByteArray := prog_29_method_83_code
def yJ2_charAt_3b067 : MethodName := ⟨RJ2, "charAt", "([BI)C"⟩
abbrev cJ2_inflate_0e8fd : ByteArray := prog_29_method_86_code
def yJ2_inflate_0e8fd : MethodName := ⟨RJ2, "inflate", "([BI[BII)V"⟩
abbrev cJ2_getChars_ba4f3 : ByteArray := prog_29_method_89_code
def yJ2_getChars_ba4f3 : MethodName := ⟨RJ2, "getChars", "(II[B)I"⟩
abbrev cJ2_checkIndex_2214a : ByteArray := prog_29_method_91_code
def yJ2_checkIndex_2214a : MethodName := ⟨RJ2, "checkIndex", "(I[B)V"⟩
abbrev cJ2_checkBoundsBeginEnd_d044e : ByteArray := prog_29_method_93_code
def yJ2_checkBoundsBeginEnd_d044e : MethodName := ⟨RJ2, "checkBoundsBeginEnd", "(II[B)V"⟩
abbrev cJ2_checkBoundsOffCount_d044e : ByteArray := prog_29_method_94_code
def yJ2_checkBoundsOffCount_d044e : MethodName := ⟨RJ2, "checkBoundsOffCount", "(II[B)V"⟩
def RJ10 : String := "java/lang/System"
def TJ10 : u_T := fun k => match k with
  | _ => ("", "", "", false)
def tyJ10 : Nat → FieldType := fun k => match k with
  | _ => .int
abbrev wsJ100 : List Cond := u_ws RJ10 TJ10 0
theorem nmJ10 : ∀ a, a < 0 → ∀ b, b < 0 → a ≠ b → (TJ10 a).2.1 ≠ (TJ10 b).2.1 := by decide +kernel
theorem tyJ10_ok : ∀ k, k < 0 → parseFieldDescriptor (TJ10 k).2.2.1 = some (tyJ10 k) := by decide +kernel
def RJxa1e45 : String := "java/util/AbstractCollection"
def TJxa1e45 : u_T := fun k => match k with
  | _ => ("", "", "", false)
def tyJxa1e45 : Nat → FieldType := fun k => match k with
  | _ => .int
abbrev wsJxa1e450 : List Cond := u_ws RJxa1e45 TJxa1e45 0
theorem nmJxa1e45 : ∀ a, a < 0 → ∀ b, b < 0 → a ≠ b → (TJxa1e45 a).2.1 ≠ (TJxa1e45 b).2.1 := by decide +kernel
theorem tyJxa1e45_ok : ∀ k, k < 0 → parseFieldDescriptor (TJxa1e45 k).2.2.1 = some (tyJxa1e45 k) := by decide +kernel
abbrev cJxa1e45_init_da8c8 : ByteArray := prog_32_method_1_code
def yJxa1e45_init_da8c8 : MethodName := ⟨RJxa1e45, "<init>", "()V"⟩
def RJxc12de : String := "java/util/AbstractList"
def TJxc12de : u_T := fun k => match k with
  | _ => ("", "", "", false)
def tyJxc12de : Nat → FieldType := fun k => match k with
  | _ => .int
abbrev wsJxc12de0 : List Cond := u_ws RJxc12de TJxc12de 0
theorem nmJxc12de : ∀ a, a < 0 → ∀ b, b < 0 → a ≠ b → (TJxc12de a).2.1 ≠ (TJxc12de b).2.1 := by decide +kernel
theorem tyJxc12de_ok : ∀ k, k < 0 → parseFieldDescriptor (TJxc12de k).2.2.1 = some (tyJxc12de k) := by decide +kernel
abbrev cJxc12de_init_da8c8 : ByteArray := prog_33_method_1_code
def yJxc12de_init_da8c8 : MethodName := ⟨RJxc12de, "<init>", "()V"⟩
def RJx4a65c : String := "java/util/ArrayList"
def TJx4a65c : u_T := fun k => match k with
  | 0 => ("java/util/AbstractList", "modCount", "I", false)
  | 1 => ("java/util/ArrayList", "elementData", "[Ljava/lang/Object;", false)
  | _ => ("java/util/ArrayList", "size", "I", false)
def tyJx4a65c : Nat → FieldType := fun k => match k with
  | 0 => .int
  | 1 => .array (.object "java/lang/Object")
  | _ => .int
abbrev wsJx4a65c0 : List Cond := u_ws RJx4a65c TJx4a65c 3
theorem nmJx4a65c : ∀ a, a < 3 → ∀ b, b < 3 → a ≠ b → (TJx4a65c a).2.1 ≠ (TJx4a65c b).2.1 := by decide +kernel
theorem tyJx4a65c_ok : ∀ k, k < 3 → parseFieldDescriptor (TJx4a65c k).2.2.1 = some (tyJx4a65c k) := by decide +kernel
abbrev cJx4a65c_init_da8c8 : ByteArray := prog_34_method_2_code
def yJx4a65c_init_da8c8 : MethodName := ⟨RJx4a65c, "<init>", "()V"⟩
abbrev cJx4a65c_grow_92f84 : ByteArray := prog_34_method_6_code
def yJx4a65c_grow_92f84 : MethodName := ⟨RJx4a65c, "grow", "(I)[Ljava/lang/Object;"⟩
abbrev cJx4a65c_grow_d5877 : ByteArray := prog_34_method_7_code
def yJx4a65c_grow_d5877 : MethodName := ⟨RJx4a65c, "grow", "()[Ljava/lang/Object;"⟩
abbrev cJx4a65c_size_8abf5 : ByteArray := prog_34_method_8_code
def yJx4a65c_size_8abf5 : MethodName := ⟨RJx4a65c, "size", "()I"⟩
abbrev cJx4a65c_elementData_915e3 : ByteArray := prog_34_method_18_code
def yJx4a65c_elementData_915e3 : MethodName := ⟨RJx4a65c, "elementData", "(I)Ljava/lang/Object;"⟩
abbrev cJx4a65c_get_915e3 : ByteArray := prog_34_method_20_code
def yJx4a65c_get_915e3 : MethodName := ⟨RJx4a65c, "get", "(I)Ljava/lang/Object;"⟩
abbrev cJx4a65c_add_72be8 : ByteArray := prog_34_method_24_code
def yJx4a65c_add_72be8 : MethodName := ⟨RJx4a65c, "add", "(Ljava/lang/Object;[Ljava/lang/Object;I)V"⟩
abbrev cJx4a65c_add_9ea2d : ByteArray := prog_34_method_25_code
def yJx4a65c_add_9ea2d : MethodName := ⟨RJx4a65c, "add", "(Ljava/lang/Object;)Z"⟩
abbrev cJx4a65c_add_7a177 : ByteArray := prog_34_method_26_code
def yJx4a65c_add_7a177 : MethodName := ⟨RJx4a65c, "add", "(ILjava/lang/Object;)V"⟩
abbrev cJx4a65c_remove_915e3 : ByteArray := prog_34_method_29_code
def yJx4a65c_remove_915e3 : MethodName := ⟨RJx4a65c, "remove", "(I)Ljava/lang/Object;"⟩
abbrev cJx4a65c_fastRemove_b59b0 : ByteArray := prog_34_method_39_code
def yJx4a65c_fastRemove_b59b0 : MethodName := ⟨RJx4a65c, "fastRemove", "([Ljava/lang/Object;I)V"⟩
abbrev cJx4a65c_clear_da8c8 : ByteArray := prog_34_method_40_code
def yJx4a65c_clear_da8c8 : MethodName := ⟨RJx4a65c, "clear", "()V"⟩
abbrev cJx4a65c_rangeCheckForAdd_d00df : ByteArray := prog_34_method_45_code
def yJx4a65c_rangeCheckForAdd_d00df : MethodName := ⟨RJx4a65c, "rangeCheckForAdd", "(I)V"⟩
abbrev cJx4a65c_outOfBoundsMsg_b52d3 : ByteArray := prog_34_method_46_code
def yJx4a65c_outOfBoundsMsg_b52d3 : MethodName := ⟨RJx4a65c, "outOfBoundsMsg", "(I)Ljava/lang/String;"⟩
def RJ7 : String := "java/util/Arrays"
def TJ7 : u_T := fun k => match k with
  | _ => ("", "", "", false)
def tyJ7 : Nat → FieldType := fun k => match k with
  | _ => .int
abbrev wsJ70 : List Cond := u_ws RJ7 TJ7 0
theorem nmJ7 : ∀ a, a < 0 → ∀ b, b < 0 → a ≠ b → (TJ7 a).2.1 ≠ (TJ7 b).2.1 := by decide +kernel
theorem tyJ7_ok : ∀ k, k < 0 → parseFieldDescriptor (TJ7 k).2.2.1 = some (tyJ7 k) := by decide +kernel
abbrev cJ7_copyOf_1904c : ByteArray := prog_35_method_119_code
def yJ7_copyOf_1904c : MethodName := ⟨RJ7, "copyOf", "([Ljava/lang/Object;I)[Ljava/lang/Object;"⟩
abbrev cJ7_copyOf_6403c : ByteArray := prog_35_method_120_code
def yJ7_copyOf_6403c : MethodName := ⟨RJ7, "copyOf", "([Ljava/lang/Object;ILjava/lang/Class;)[Ljava/lang/Object;"⟩
abbrev cJ7_copyOf_9075b : ByteArray := prog_35_method_121_code
def yJ7_copyOf_9075b : MethodName := ⟨RJ7, "copyOf", "([BI)[B"⟩
abbrev cJ7_copyOf_59c91 : ByteArray := prog_35_method_123_code
def yJ7_copyOf_59c91 : MethodName := ⟨RJ7, "copyOf", "([II)[I"⟩
abbrev cJ7_checkLength_df160 : ByteArray := prog_35_method_131_code
def yJ7_checkLength_df160 : MethodName := ⟨RJ7, "checkLength", "(II)V"⟩
abbrev cJ7_copyOfRange_39247 : ByteArray := prog_35_method_132_code
def yJ7_copyOfRange_39247 : MethodName := ⟨RJ7, "copyOfRange", "([BII)[B"⟩
abbrev cJ7_copyOfRangeByte_39247 : ByteArray := prog_35_method_133_code
def yJ7_copyOfRangeByte_39247 : MethodName := ⟨RJ7, "copyOfRangeByte", "([BII)[B"⟩
def RJx5ef63 : String := "java/util/Collection"
def TJx5ef63 : u_T := fun k => match k with
  | _ => ("", "", "", false)
def tyJx5ef63 : Nat → FieldType := fun k => match k with
  | _ => .int
abbrev wsJx5ef630 : List Cond := u_ws RJx5ef63 TJx5ef63 0
theorem nmJx5ef63 : ∀ a, a < 0 → ∀ b, b < 0 → a ≠ b → (TJx5ef63 a).2.1 ≠ (TJx5ef63 b).2.1 := by decide +kernel
theorem tyJx5ef63_ok : ∀ k, k < 0 → parseFieldDescriptor (TJx5ef63 k).2.2.1 = some (tyJx5ef63 k) := by decide +kernel
def RJxbd725 : String := "java/util/List"
def TJxbd725 : u_T := fun k => match k with
  | _ => ("", "", "", false)
def tyJxbd725 : Nat → FieldType := fun k => match k with
  | _ => .int
abbrev wsJxbd7250 : List Cond := u_ws RJxbd725 TJxbd725 0
theorem nmJxbd725 : ∀ a, a < 0 → ∀ b, b < 0 → a ≠ b → (TJxbd725 a).2.1 ≠ (TJxbd725 b).2.1 := by decide +kernel
theorem tyJxbd725_ok : ∀ k, k < 0 → parseFieldDescriptor (TJxbd725 k).2.2.1 = some (tyJxbd725 k) := by decide +kernel
def RJ15 : String := "java/util/Objects"
def TJ15 : u_T := fun k => match k with
  | _ => ("", "", "", false)
def tyJ15 : Nat → FieldType := fun k => match k with
  | _ => .int
abbrev wsJ150 : List Cond := u_ws RJ15 TJ15 0
theorem nmJ15 : ∀ a, a < 0 → ∀ b, b < 0 → a ≠ b → (TJ15 a).2.1 ≠ (TJ15 b).2.1 := by decide +kernel
theorem tyJ15_ok : ∀ k, k < 0 → parseFieldDescriptor (TJ15 k).2.2.1 = some (tyJ15 k) := by decide +kernel
abbrev cJ15_checkIndex_7cf53 : ByteArray := prog_38_method_17_code
def yJ15_checkIndex_7cf53 : MethodName := ⟨RJ15, "checkIndex", "(II)I"⟩
def RJxf0a74 : String := "java/util/RandomAccess"
def TJxf0a74 : u_T := fun k => match k with
  | _ => ("", "", "", false)
def tyJxf0a74 : Nat → FieldType := fun k => match k with
  | _ => .int
abbrev wsJxf0a740 : List Cond := u_ws RJxf0a74 TJxf0a74 0
theorem nmJxf0a74 : ∀ a, a < 0 → ∀ b, b < 0 → a ≠ b → (TJxf0a74 a).2.1 ≠ (TJxf0a74 b).2.1 := by decide +kernel
theorem tyJxf0a74_ok : ∀ k, k < 0 → parseFieldDescriptor (TJxf0a74 k).2.2.1 = some (tyJxf0a74 k) := by decide +kernel
def RJxa66e6 : String := "java/util/SequencedCollection"
def TJxa66e6 : u_T := fun k => match k with
  | _ => ("", "", "", false)
def tyJxa66e6 : Nat → FieldType := fun k => match k with
  | _ => .int
abbrev wsJxa66e60 : List Cond := u_ws RJxa66e6 TJxa66e6 0
theorem nmJxa66e6 : ∀ a, a < 0 → ∀ b, b < 0 → a ≠ b → (TJxa66e6 a).2.1 ≠ (TJxa66e6 b).2.1 := by decide +kernel
theorem tyJxa66e6_ok : ∀ k, k < 0 → parseFieldDescriptor (TJxa66e6 k).2.2.1 = some (tyJxa66e6 k) := by decide +kernel
def RJ8 : String := "jdk/internal/util/ArraysSupport"
def TJ8 : u_T := fun k => match k with
  | _ => ("", "", "", false)
def tyJ8 : Nat → FieldType := fun k => match k with
  | _ => .int
abbrev wsJ80 : List Cond := u_ws RJ8 TJ8 0
theorem nmJ8 : ∀ a, a < 0 → ∀ b, b < 0 → a ≠ b → (TJ8 a).2.1 ≠ (TJ8 b).2.1 := by decide +kernel
theorem tyJ8_ok : ∀ k, k < 0 → parseFieldDescriptor (TJ8 k).2.2.1 = some (tyJ8 k) := by decide +kernel
abbrev cJ8_newLength_cabcc : ByteArray := prog_41_method_27_code
def yJ8_newLength_cabcc : MethodName := ⟨RJ8, "newLength", "(III)I"⟩
abbrev cJ8_hugeLength_7cf53 : ByteArray := prog_41_method_28_code
def yJ8_hugeLength_7cf53 : MethodName := ⟨RJ8, "hugeLength", "(II)I"⟩
def RJ3 : String := "jdk/internal/util/Preconditions"
def TJ3 : u_T := fun k => match k with
  | _ => ("", "", "", false)
def tyJ3 : Nat → FieldType := fun k => match k with
  | _ => .int
abbrev wsJ30 : List Cond := u_ws RJ3 TJ3 0
theorem nmJ3 : ∀ a, a < 0 → ∀ b, b < 0 → a ≠ b → (TJ3 a).2.1 ≠ (TJ3 b).2.1 := by decide +kernel
theorem tyJ3_ok : ∀ k, k < 0 → parseFieldDescriptor (TJ3 k).2.2.1 = some (tyJ3 k) := by decide +kernel
abbrev cJ3_checkIndex_8e157 : ByteArray := prog_42_method_11_code
def yJ3_checkIndex_8e157 : MethodName := ⟨RJ3, "checkIndex", "(IILjava/util/function/BiFunction;)I"⟩
abbrev cJ3_checkFromToIndex_8c36e : ByteArray := prog_42_method_12_code
def yJ3_checkFromToIndex_8c36e : MethodName := ⟨RJ3, "checkFromToIndex", "(IIILjava/util/function/BiFunction;)I"⟩
abbrev cJ3_checkFromIndexSize_8c36e : ByteArray := prog_42_method_13_code
def yJ3_checkFromIndexSize_8c36e : MethodName := ⟨RJ3, "checkFromIndexSize", "(IIILjava/util/function/BiFunction;)I"⟩
def RL : String := "PolicyTreeLaw"
abbrev cL_node : ByteArray := method_3_code
def yL_node : MethodName := ⟨RL, "node", "(LPolicyTree;I[J)I"⟩
abbrev cL_block : ByteArray := method_4_code
def yL_block : MethodName := ⟨RL, "block", "(LPolicyTree;IZ[J)I"⟩
abbrev cL_move : ByteArray := method_5_code
def yL_move : MethodName := ⟨RL, "move", "(LPolicyTree;II[J)I"⟩
abbrev cL_machine : ByteArray := method_6_code
def yL_machine : MethodName := ⟨RL, "machine", "(LPolicyTree;I[J)I"⟩
abbrev cL_fact : ByteArray := method_7_code
def yL_fact : MethodName := ⟨RL, "fact", "(LPolicyTree;III[J)I"⟩
abbrev cL_group : ByteArray := method_8_code
def yL_group : MethodName := ⟨RL, "group", "(LPolicyTree;[J)I"⟩
abbrev cL_joins : ByteArray := method_9_code
def yL_joins : MethodName := ⟨RL, "joins", "(LPolicyTree;IIZ[J)I"⟩
abbrev cL_within : ByteArray := method_10_code
def yL_within : MethodName := ⟨RL, "within", "(LPolicyTree;IIZ[J)I"⟩
abbrev cL_member : ByteArray := method_11_code
def yL_member : MethodName := ⟨RL, "member", "(LPolicyTree;II[J)I"⟩
abbrev cL_set : ByteArray := method_12_code
def yL_set : MethodName := ⟨RL, "set", "(LPolicyTree;[J)I"⟩
abbrev cL_tell : ByteArray := method_13_code
def yL_tell : MethodName := ⟨RL, "tell", "(LPolicyTree;III[J)I"⟩
abbrev cL_untell : ByteArray := method_14_code
def yL_untell : MethodName := ⟨RL, "untell", "(LPolicyTree;II[J)I"⟩
abbrev cL_law : ByteArray := method_15_code
def yL_law : MethodName := ⟨RL, "law", "(LPolicyTree;II[J)I"⟩
abbrev cL_link : ByteArray := method_16_code
def yL_link : MethodName := ⟨RL, "link", "(LPolicyTree;IIIZI[J)I"⟩
abbrev cL_end : ByteArray := method_17_code
def yL_end : MethodName := ⟨RL, "end", "(LPolicyTree;I[J)I"⟩
abbrev cL_outcome : ByteArray := method_18_code
def yL_outcome : MethodName := ⟨RL, "outcome", "(LPolicyTree;II[J)I"⟩
abbrev cL_value : ByteArray := method_19_code
def yL_value : MethodName := ⟨RL, "value", "(LPolicyTree;III[J)I"⟩
abbrev cL_reason : ByteArray := method_20_code
def yL_reason : MethodName := ⟨RL, "reason", "(LPolicyTree;II[J)I"⟩
abbrev cL_beaten : ByteArray := method_21_code
def yL_beaten : MethodName := ⟨RL, "beaten", "(LPolicyTree;III[J)I"⟩
abbrev cL_sure : ByteArray := method_22_code
def yL_sure : MethodName := ⟨RL, "sure", "(LPolicyTree;II[J)I"⟩
abbrev cL_reach : ByteArray := method_23_code
def yL_reach : MethodName := ⟨RL, "reach", "(LPolicyTree;I[J)I"⟩
abbrev cL_reached : ByteArray := method_24_code
def yL_reached : MethodName := ⟨RL, "reached", "(LPolicyTree;III[J)I"⟩
abbrev cL_quarrel : ByteArray := method_25_code
def yL_quarrel : MethodName := ⟨RL, "quarrel", "(LPolicyTree;II[J)I"⟩
abbrev cL_law_ : ByteArray := code
def yL_law_ : MethodName := ⟨RL, "law", "([I)Z"⟩
abbrev vwCl : List vw_C := [(RJ0, TJ0, 4), (RJ4, TJ4, 4), (RJx4a65c, TJx4a65c, 3), (RX0, TX0, 2), (RX1, TX1, 1), (RX2, TX2, 9), (RX3, TX3, 3), (RX4, TX4, 7), (RX5, TX5, 3), (RX6, TX6, 4), (RX7, TX7, 3), (RX8, TX8, 4), (RX9, TX9, 6), (RX10, TX10, 2), (RX11, TX11, 14), (RX12, TX12, 47)]
end
section
/-! ===== a callee's throw that this method's table catches: the search goes past rows that name other classes ===== -/
section QX
def qx_Finds (e : Env) (s : State) (f : JFrame) (a : Addr) (h : Handler) (vm' : Vm) : Prop :=
  ∀ (Q : Handler → Pre) (E : CtlPost) (d : Bool) (acts : List Action), wp (findHandler f a) Q E e d acts s ↔ Q h d acts (s.setVm vm')
/-- one row, that links to a class: it takes the object, or it doesn't -/
theorem qx_row {Q : Handler → Pre} {E : CtlPost} {e : Env} {d : Bool} {acts : List Action} {s : State} {f : JFrame} {a : Addr} {x : ExceptionTableEntry} {t : List ExceptionTableEntry} {c : ClassId} {cell : Cell} (hx : covers x f.pc = true) (h0 : x.catchType ≠ 0)
    (hl : s.vm.ClassLinks e.platform f.method.cls x.catchType c) (hcell : s.heap[a]? = some cell) (hobj : ∀ k, cell.vm ≠ .statics k) (hk : ∃ k, s.vm.classes[cell.cls]? = some k) (hc : ∃ k, s.vm.classes[c]? = some k) :
    wp (findHandler.go f a (x :: t)) Q E e d acts s ↔ (if s.vm.assignable cell.cls c = true then Q (.found x.handlerPc) d acts (s.setVm (s.vm.noted f.method.cls x.catchType (.cls c))) else wp (findHandler.go f a t) Q E e d acts (s.setVm (s.vm.noted f.method.cls x.catchType (.cls c)))) := by
  simp only [covers] at hx
  obtain ⟨ha, ht⟩ := (resolveClass_links e.toSetting hl).op (op := VmOp.resolveClass f.method.cls x.catchType) rfl
  have hal : s.vm.Alike (s.vm.noted f.method.cls x.catchType (.cls c)) := (Vm.Alike.refl s.vm).noted _ _ _
  obtain ⟨k1, hk1⟩ := hk
  obtain ⟨k2, hk2⟩ := hc
  obtain ⟨k1', hk1', -⟩ := hal.2.2 _ _ hk1
  obtain ⟨k2', hk2', -⟩ := hal.2.2 _ _ hk2
  have hasg : (s.vm.noted f.method.cls x.catchType (.cls c)).assignable cell.cls c = s.vm.assignable cell.cls c := hal.assignable ..
  cases hfit : s.vm.assignable cell.cls c <;> rw [hfit] at hasg <;> simp [findHandler.go, hx, h0, ha, ht, hcell, hobj, hk1', hk2', hasg, VmOp.dirties, VmOp.acts]
def qx_Pass (pl : Platform) (s₀ : State) (d : ClassId) (pc : Nat) (thrown : ClassId) (y : ExceptionTableEntry) : Prop :=
  covers y pc = false ∨ (y.catchType ≠ 0 ∧ ∃ c, s₀.vm.ClassLinks pl d y.catchType c ∧ s₀.vm.assignable thrown c = false)
theorem qx_go {e : Env} {s₀ : State} {f : JFrame} {a : Addr} {cell : Cell} (hobj : ∀ k, cell.vm ≠ .statics k) (hk0 : ∃ k, s₀.vm.classes[cell.cls]? = some k)
    (x : ExceptionTableEntry) (rest : List ExceptionTableEntry) (hx : covers x f.pc = true) (h0 : x.catchType ≠ 0) {cT : ClassId} (hl : s₀.vm.ClassLinks e.platform f.method.cls x.catchType cT) (hfit : s₀.vm.assignable cell.cls cT = true) :
    ∀ (pre : List ExceptionTableEntry) (S : State), s₀.WarmedH S.vm → S.heap[a]? = some cell → (∀ y ∈ pre, qx_Pass e.platform s₀ f.method.cls f.pc cell.cls y) →
      ∃ vm', s₀.WarmedH vm' ∧ ∀ (Q : Handler → Pre) (E : CtlPost) (d : Bool) (acts : List Action), wp (findHandler.go f a (pre ++ x :: rest)) Q E e d acts S ↔ Q (.found x.handlerPc) d acts (S.setVm vm') := by
  obtain ⟨k0, hk0⟩ := hk0
  intro pre
  induction pre with
  | nil =>
    intro S hW hcell _
    obtain ⟨k0', hk0', -⟩ := hW.alike.2.2 _ _ hk0
    obtain ⟨dk, _, _, kt, hd, _, _, _, _, hkt, _, hopen⟩ := hl.here
    obtain ⟨kt', hkt', -⟩ := hW.alike.2.2 _ _ hkt
    refine ⟨_, hW.noted hd hopen (State.rightAt_cls hl), fun Q E d acts => ?_⟩
    rw [List.nil_append, qx_row hx h0 (hW.classLinks hl) hcell hobj ⟨k0', hk0'⟩ ⟨kt', hkt'⟩, if_pos (by rw [hW.alike.assignable]; exact hfit)]
  | cons y ys ih =>
    intro S hW hcell hpass
    obtain ⟨k0', hk0', -⟩ := hW.alike.2.2 _ _ hk0
    have hrest : ∀ z ∈ ys, qx_Pass e.platform s₀ f.method.cls f.pc cell.cls z := fun z hz => hpass z (List.mem_cons_of_mem _ hz)
    by_cases hcov : covers y f.pc = true
    · rcases hpass y (List.mem_cons_self ..) with h | ⟨hy0, c, hly, hno⟩
      · rw [h] at hcov; cases hcov
      · obtain ⟨dk, _, _, kt, hd, _, _, _, _, hkt, _, hopen⟩ := hly.here
        obtain ⟨kt', hkt', -⟩ := hW.alike.2.2 _ _ hkt
        obtain ⟨vm', hW', hq⟩ := ih (S.setVm (S.vm.noted f.method.cls y.catchType (.cls c))) (hW.noted hd hopen (State.rightAt_cls hly)) hcell hrest
        refine ⟨vm', hW', fun Q E d acts => ?_⟩
        rw [List.cons_append, qx_row hcov hy0 (hW.classLinks hly) hcell hobj ⟨k0', hk0'⟩ ⟨kt', hkt'⟩, if_neg (by rw [hW.alike.assignable, hno]; decide)]
        exact hq Q E d acts
    · obtain ⟨vm', hW', hq⟩ := ih S hW hcell hrest
      refine ⟨vm', hW', fun Q E d acts => ?_⟩
      rw [List.cons_append, Jvm.W.findHandler_go_skip (by simpa using hcov)]
      exact hq Q E d acts
theorem qx_step {e : Env} {s : State} {a : Addr} {f : JFrame} {r : List Frame} {pc : Nat} {vm' : Vm} (hfind : qx_Finds e s f a (.found pc) vm') :
    (stepThrowing e s a (.java f :: r)).Is ((s.setVm vm').setFrames (.java { f with pc := pc, stack := [.ref a] } :: r)) [] := by
  simp only [stepThrowing, searchFrame, vmDo]
  generalize hr : Sem.go _ e false [] s = res
  obtain ⟨as, rfl, ha⟩ := Sem.eq_ok_of hr (a := Handler.found pc) (s' := s.setVm vm') (acts' := []) (by simp [hfind _ _ _ _])
  exact ⟨rfl, ha⟩
theorem qx_frames (u : State) (vm' : Vm) (F G : List Frame) : ((u.setFrames F).setVm vm').setFrames G = (u.setVm vm').setFrames G := by
  have h1 : (u.setFrames F).setVm vm' = (u.setVm vm').setFrames F := rfl
  rw [h1, State.setFrames_setFrames]
theorem qx_steps {tb : Tables} {e : Env} {s target : State} {g : JFrame} {c : Code} {below : List Frame} {a : Addr} (h : At s g.method c below) {pc : Nat} {vm' : Vm}
    (hfind : qx_Finds e ((s.setTop g).pushFrame (.throwing a)) g a (.found pc) vm') (hrest : Steps tb e below ((s.setVm vm').setTop { g with pc := pc, stack := [.ref a] }) target) :
    Steps tb e below ((s.setTop g).pushFrame (.throwing a)) target := by
  obtain ⟨hgo, hw⟩ := h.throwing a
  refine Steps.head hgo hw ?_
  rw [stepThread_throwing (frames_entered h.top _), (qx_step (s := (s.setTop g).pushFrame (.throwing a)) hfind).1]
  obtain ⟨g₀, hg⟩ := Option.isSome_iff_exists.mp h.top
  obtain ⟨r, hr⟩ := State.topJava?_eq_some.mp hg
  have hr' : (s.setVm vm').frames = .java g₀ :: r := hr
  rw [State.setTop_of_frames _ hr'] at hrest
  rw [hr, List.tail_cons, State.pushFrame, qx_frames, State.setTop_of_frames _ hr, qx_frames]
  exact hrest
/-- the throw of q over the frame g is caught by the row x, behind the rows pre that don't take it -/
theorem qx_caught {p : Program} {l : Launch} {e : Env} {R : Room} {s : State} {m₀ : MethodId} {args : Array Value} {below : List Frame} {meth : Method} {c : Code} {T : State} {locs : List Loc} {cells slots : Nat} (X : Stand p l e R s m₀ args below meth c T locs cells slots) (a : Addr) {g : JFrame} (hg : g.method = m₀)
    {cell : Cell} (hcell : T.heap[a]? = some cell) (hobj : cell.vm.isStatics = false) (hk0 : ∃ k, s.vm.classes[cell.cls]? = some k)
    (pre : List ExceptionTableEntry) (x : ExceptionTableEntry) (rest : List ExceptionTableEntry) (hsplit : c.exceptionTable.toList = pre ++ x :: rest)
    (hpass : ∀ y ∈ pre, qx_Pass e.platform s m₀.cls g.pc cell.cls y) (hx : covers x g.pc = true) (h0 : x.catchType ≠ 0) {cT : ClassId} (hl : s.vm.ClassLinks e.platform m₀.cls x.catchType cT) (hfit : s.vm.assignable cell.cls cT = true) :
    ∃ vm', Stand p l e R s m₀ args below meth c (T.setVm vm') locs cells slots ∧ ∀ target, Steps p.tables e below ((T.setVm vm').setTop { g with pc := x.handlerPc, stack := [.ref a] }) target → Steps p.tables e below ((T.setTop g).pushFrame (.throwing a)) target := by
  subst hg
  obtain ⟨vm', hW', hq⟩ := qx_go (e := e) (s₀ := s) (f := g) (a := a) (VmData.ne_statics_of hobj) hk0 x rest hx h0 hl hfit pre ((T.setTop g).pushFrame (.throwing a)) X.warmed hcell hpass
  refine ⟨vm', X.noted hW', fun target hrest => qx_steps X.here (fun Q E d acts => ?_) hrest⟩
  have hm : ((T.setTop g).pushFrame (.throwing a)).vm.method? g.method = some meth := X.method'
  rw [Jvm.W.findHandler_eq hm X.code, hsplit]
  exact hq Q E d acts
end QX
/-! ===== BEGIN exceptions that leave a method, and their catching by the caller (launches without stack traces) ===== -/
section VXA
/-! The laws vx_back, vx_callV, vx_callS, vx_callSW, vx_throw0, vx_throwS follow proofs of the library, with one case more: JvmDerived/Free/Laws.lean (Back.of_free), Shelf42/LK1.lean (callV, callS), Shelf/KitTraced.lean (throwNew0V, throwNewS). -/
/-- where a method has thrown q: the class by its name, the cell, what was written, the world -/
def vx_T (XC : String → State → State → Prop) (st : State) (q : Addr) (t : State) (mc ms : Nat) (free : Addr → Prop) : Prop :=
  ∃ (E : String) (ce : Cell) (L : List Loc), XC E st t ∧ t.heap[q]? = some ce ∧ ce.vm = .none ∧ st.vm.findClass E = some ce.cls ∧ st.WarmedH t.vm ∧ st.sameButNew ({ t with vm := st.vm } : State) L mc ms ∧ ∀ z ∈ L, free z.base
def vx_Q (Qc : Array Value → State → Outcome → State → Prop) (XC : String → State → State → Prop) (mc ms : Nat) (free : Addr → Prop) : Array Value → State → Outcome → State → Prop := fun a st o t =>
  (Qc a st o t ∧ ∃ L, FrameEnd st o t L mc ms ∧ ∀ q ∈ L, free q.base) ∨ ∃ q, o = .threw q ∧ vx_T XC st q t mc ms free
/-- a callee that returns or throws -/
def vx_Met (l : Launch) (y : MethodName) (ws : List Cond) (rm : Room) (Pc : Array Value → State → Prop) (Qc : Array Value → State → Outcome → State → Prop) (XC : String → State → State → Prop) (mc ms : Nat) (free : Addr → Prop) : Prop :=
  MetFree l y (headSpec ws rm) Pc (fun _ _ _ _ _ => True) (vx_Q Qc XC mc ms free)
def vx_Post (XC : String → State → State → Prop) (mc ms : Nat) (free : Addr → Prop) : Pt → Array Value → Addr → Pt → Prop := fun A a q B =>
  ∃ (g : JFrame) (mk : MethodId) (t : State) (L : List Loc) (E : String) (ce : Cell), B.U.heap = t.heap ∧ B.U.vm = t.vm ∧ XC E (A.U.calling g mk a) t ∧ t.heap[q]? = some ce ∧ ce.vm = .none ∧ A.U.vm.findClass E = some ce.cls ∧ B.locs = A.locs ++ L ∧ (∀ z ∈ L, free z.base) ∧ B.cells = A.cells + mc ∧ B.slots = A.slots + ms
def vx_Back (l : Launch) (R : Room) (p : Program) (e : Env) (below : List Frame) (s : State) (sargs : Array Value) (y : MethodName) (len W9 : Nat)
    (Pre : Pt → Array Value → Prop) (Post : Pt → Array Value → Option Value → Pt → Prop) (PostX : Pt → Array Value → Addr → Pt → Prop) : Prop :=
  ∀ (m : MethodId) (meth : Method) (c : Code) (A : Pt) (g : JFrame) (ig : Instr) (mk : MethodId) (a : Array Value),
    Stand p l e R s m sargs below meth c A.U A.locs A.cells A.slots → g.method = m → g.locals.size = c.maxLocals → decode c.code g.pc = .ok (ig, len) →
    2 * g.monitorRoom + (g.stack.map fun v => v.category).sum ≤ W9 → A.U.methodNamed? y = some mk → Pre A a →
    (∃ (v : Option Value) (B : Pt), Stand p l e R s m sargs below meth c B.U B.locs B.cells B.slots ∧ Post A a v B ∧
      Steps p.tables e below (doInvoke e (A.U.setTop g) [] mk a).1 (B.U.setTop { g with pc := g.pc + len, stack := v.toList ++ g.stack })) ∨
    (∃ (q : Addr) (B : Pt), Stand p l e R s m sargs below meth c B.U B.locs B.cells B.slots ∧ PostX A a q B ∧
      Steps p.tables e below (doInvoke e (A.U.setTop g) [] mk a).1 ((B.U.setTop g).pushFrame (.throwing q)))
section Payer
variable {l : Launch} {R : Room} {p : Program} {e : Env} {below : List Frame} {s : State} {sargs : Array Value} {y : MethodName} {len W9 : Nat}
theorem vx_back {ws : List Cond} {rm : Room} {Pc : Array Value → State → Prop} {Qc : Array Value → State → Outcome → State → Prop} {XC : String → State → State → Prop} {mc ms : Nat} {free : Addr → Prop} {bytes : ByteArray} {maxL : Nat} {ret : Option FieldType}
    (hM : vx_Met l y ws rm Pc Qc XC mc ms free) (hblind : FrameBlind Pc) (hrc : rm.cells = mc) (hrs : rm.slots = ms)
    (hframes : rm.frames + 1 ≤ R.frames) (hlocals : W9 + (maxL + 11) + rm.locals ≤ R.locals)
    (hws : ∀ w ∈ ws, ∀ a' U, s.WarmedH U.vm → w.before a' U = true) (hcode : Cond.code y bytes maxL ret ∈ ws) (hinit : ∀ a' U, s.WarmedH U.vm → (Cond.initialized y.cls).before a' U = true) :
    vx_Back l R p e below s sargs y len W9 (PreOf R mc ms Pc) (PostOf Qc mc ms free) (vx_Post XC mc ms free) := by
  intro m meth c A g ig mk a X hg hsize hdg hW hn hp
  have h1 : (headSpec ws rm).pre.before a A.U = true := atoms_intro fun w hw => hws w hw _ _ X.warmed
  have h2 : (Cond.code y bytes maxL ret).before a A.U = true := hws _ hcode _ _ X.warmed
  have h3 : (Cond.initialized y.cls).before a A.U = true := hinit _ _ X.warmed
  have h4 : A.cells + (headSpec ws rm).room.cells ≤ R.cells := by rw [show (headSpec ws rm).room.cells = mc from hrc]; exact hp.1
  have h5 : A.slots + (headSpec ws rm).room.slots ≤ R.slots := by rw [show (headSpec ws rm).room.slots = ms from hrs]; exact hp.2.1
  have hPc : Pc a (A.U.calling g mk a) := hblind _ _ _ _ hp.2.2
  obtain ⟨U, Ls, c0, s0⟩ := A
  dsimp only [Pt.U, Pt.locs, Pt.cells, Pt.slots] at h1 h2 h3 h4 h5 X hn hPc ⊢
  obtain ⟨methY, cY, hmY, hcY, -, hlY, -, -, -, -⟩ := Cond.code_spec hn h2
  obtain ⟨kY, hkY, -⟩ := className_of_methodNamed hn
  have hinitY : kY.init = .initialized := Cond.initialized_spec (findClass_of_methodNamed hn) hkY h3
  have h : At U g.method c below := by rw [hg]; exact X.here
  have hlocals9 : W9 + (maxL + 11) + (headSpec ws rm).room.locals ≤ R.locals := hlocals
  have happ : (headSpec ws rm).appliesLoose y e.platform (U.calling g mk a) = true :=
    Spec.appliesLoose_calling (g := g) h hdg hn hkY hinitY
      (X.room_calling (g := g) (R' := (headSpec ws rm).room) hsize hmY hcY hframes (by rw [hlY]; omega) h4 h5) h1
  obtain ⟨mid, hmid⟩ := h.above
  have hfr : (U.setTop g).frames = (.java g :: mid) ++ below := by rw [State.frames_setTop' g h.top, hmid]; rfl
  obtain ⟨o, s₂, hsteps, -, hend, hq⟩ := Steps.callFree hM p X.admits X.cas X.clock (acts := []) hfr happ hPc trivial
  have hq' : vx_Q Qc XC mc ms free a (U.calling g mk a) o s₂ := hq
  rw [State.frames_setTop' g h.top] at hend
  obtain ⟨g₀, hg0⟩ := Option.isSome_iff_exists.mp h.top
  obtain ⟨r, hr⟩ := State.topJava?_eq_some.mp hg0
  have hr' : (({ U with heap := s₂.heap, slotsUsed := s₂.slotsUsed } : State).setVm s₂.vm).frames = .java g₀ :: r := hr
  rcases hq' with ⟨hqc, L, hfe, hL⟩ | ⟨q, rfl, E, ce, L, hx, hce, hcv, hcl, hW₂, hsm, hL⟩
  · obtain ⟨⟨v, rfl⟩, hW₂, e2, q2, q3, q4, q5, q6⟩ := id hfe
    have e3 : s₂ = ({ (U.calling g mk a).setFrames s₂.frames with heap := s₂.heap, slotsUsed := s₂.slotsUsed } : State).setVm s₂.vm := by
      have : s₂ = ({ s₂ with vm := (U.calling g mk a).vm } : State).setVm s₂.vm := rfl
      rw [e2] at this
      exact this
    obtain ⟨c₂, i₂, len₂, hc₂, hd₂, hf₂⟩ := hend
    have hW' : U.WarmedH s₂.vm := hW₂
    have hcc : c₂ = c := by
      have h1 : s₂.code? g.method = U.code? g.method := by
        rw [State.code?_eq, State.code?_eq, hW'.alike.method?]
      exact Option.some.inj (hc₂.symm.trans (h1.trans h.code))
    subst hcc
    have hlen : len₂ = len := by rw [hdg] at hd₂; cases hd₂; rfl
    subst hlen
    have hs₂ : s₂ = (({ U with heap := s₂.heap, slotsUsed := s₂.slotsUsed } : State).setVm s₂.vm).setTop { g with pc := g.pc + len₂, stack := v.toList ++ g.stack } := by
      refine e3.trans ?_
      rw [hf₂, State.calling_eq h.top, State.setFrames_setFrames, State.setTop_of_frames _ hr', hr]
      rfl
    have hsame : U.sameButNew ({ U with heap := s₂.heap, slotsUsed := s₂.slotsUsed } : State) L mc ms := by
      refine ⟨?_, q2, q3, q4, q5, q6⟩
      obtain ⟨t, ht, -⟩ := State.frames_cons hr
      show ({ U with heap := s₂.heap, slotsUsed := s₂.slotsUsed } : State) = { U.setFrames U.frames with heap := s₂.heap, slotsUsed := s₂.slotsUsed }
      rw [State.setFrames_self ht]
    subst hg
    refine Or.inl ⟨v, ⟨(({ U with heap := s₂.heap, slotsUsed := s₂.slotsUsed } : State).setVm s₂.vm), Ls ++ L, c0 + mc, s0 + ms⟩,
      ⟨X.admits, X.cas, X.clock, X.frames, X.room, X.hears, X.method, X.code, (X.here.setHeapUsed s₂.heap s₂.slotsUsed).setVm hW'.alike, X.tail, State.WarmedH.trans X.warmed hW', X.limits, X.bytes, X.same.trans (hsame.setVm s.vm)⟩,
      ⟨g, mk, s₂, L, rfl, rfl, hqc, rfl, hL, rfl, rfl⟩, ?_⟩
    show Steps p.tables e below _ ((({ U with heap := s₂.heap, slotsUsed := s₂.slotsUsed } : State).setVm s₂.vm).setTop { g with pc := g.pc + len₂, stack := v.toList ++ g.stack })
    rw [← hs₂]
    exact hsteps
  · obtain ⟨e2, q2, q3, q4, q5, q6⟩ := id hsm
    have e3 : s₂ = ({ (U.calling g mk a).setFrames s₂.frames with heap := s₂.heap, slotsUsed := s₂.slotsUsed } : State).setVm s₂.vm := by
      have : s₂ = ({ s₂ with vm := (U.calling g mk a).vm } : State).setVm s₂.vm := rfl
      rw [e2] at this
      exact this
    have hf₂ : s₂.frames = .throwing q :: .java g :: U.frames.tail := hend
    have hW' : U.WarmedH s₂.vm := hW₂
    have hs₂ : s₂ = ((({ U with heap := s₂.heap, slotsUsed := s₂.slotsUsed } : State).setVm s₂.vm).setTop g).pushFrame (.throwing q) := by
      refine e3.trans ?_
      rw [hf₂, State.calling_eq h.top, State.setFrames_setFrames, State.pushFrame, State.frames_setTop _ hr', State.setTop_of_frames _ hr', State.setFrames_setFrames, hr]
      rfl
    have hsame : U.sameButNew ({ U with heap := s₂.heap, slotsUsed := s₂.slotsUsed } : State) L mc ms := by
      refine ⟨?_, q2, q3, q4, q5, q6⟩
      obtain ⟨t, ht, -⟩ := State.frames_cons hr
      show ({ U with heap := s₂.heap, slotsUsed := s₂.slotsUsed } : State) = { U.setFrames U.frames with heap := s₂.heap, slotsUsed := s₂.slotsUsed }
      rw [State.setFrames_self ht]
    subst hg
    refine Or.inr ⟨q, ⟨(({ U with heap := s₂.heap, slotsUsed := s₂.slotsUsed } : State).setVm s₂.vm), Ls ++ L, c0 + mc, s0 + ms⟩,
      ⟨X.admits, X.cas, X.clock, X.frames, X.room, X.hears, X.method, X.code, (X.here.setHeapUsed s₂.heap s₂.slotsUsed).setVm hW'.alike, X.tail, State.WarmedH.trans X.warmed hW', X.limits, X.bytes, X.same.trans (hsame.setVm s.vm)⟩,
      ⟨g, mk, s₂, L, E, ce, rfl, rfl, hx, hce, hcv, hcl, rfl, hL, rfl, rfl⟩, ?_⟩
    show Steps p.tables e below _ (((({ U with heap := s₂.heap, slotsUsed := s₂.slotsUsed } : State).setVm s₂.vm).setTop g).pushFrame (.throwing q))
    rw [← hs₂]
    exact hsteps
end Payer
section Calls
variable {p : Program} {l : Launch} {e : Env} {R : Room} {s : State} {m : MethodId} {args : Array Value} {below : List Frame} {meth : Method} {c : Code} {T : State} {locs : List Loc} {cells slots : Nat}
theorem vx_callV (X : Stand p l e R s m args below meth c T locs cells slots) (hexec : p.tables.exec = Jvm.exec) {own C : String} {index : Nat} {y : MethodName} {bytes : ByteArray} {maxL : Nat} {ret : Option FieldType}
    (hown : s.vm.findClass own = some m.cls) (hlink : (Cond.methodLink own index y).before args s = true) (hinst : (Cond.instanceMethod y).before args s = true) (hsel : (Cond.selects C y y).before args s = true)
    (hcode : (Cond.code y bytes maxL ret).before args s = true) (hy : y.cls ≠ "java/lang/invoke/MethodHandle" ∧ y.cls ≠ "java/lang/invoke/VarHandle")
    {W9 : Nat} {Pre : Pt → Array Value → Prop} {Post : Pt → Array Value → Option Value → Pt → Prop} {PostX : Pt → Array Value → Addr → Pt → Prop} (hK : vx_Back l R p e below s args y 3 W9 Pre Post PostX)
    {b : Addr} {cellB : Cell} (hcell : T.heap[b]? = some cellB) (hobj : cellB.vm.isStatics = false) (hcls : s.vm.findClass C = some cellB.cls)
    {g : JFrame} (hg : g.method = m) (hsize : g.locals.size = c.maxLocals) {argsL rest : List Value} (hlen : ∀ sig, parseMethodDescriptor y.desc = some sig → argsL.length = sig.parameters.length)
    (hstack : g.stack = argsL.reverse ++ .ref b :: rest) (hW : 2 * g.monitorRoom + (rest.map fun v => v.category).sum ≤ W9) (hdg : decode c.code g.pc = .ok (.invokevirtual index, 3))
    (hpre : ∀ vm₁, s.WarmedH vm₁ → Pre ⟨T.setVm vm₁, locs, cells, slots⟩ (Value.ref b :: argsL).toArray) :
    (∃ (v : Option Value) (vm₁ : Vm) (B : Pt), s.WarmedH vm₁ ∧ Stand p l e R s m args below meth c B.U B.locs B.cells B.slots ∧ Post ⟨T.setVm vm₁, locs, cells, slots⟩ (Value.ref b :: argsL).toArray v B ∧
      ∀ target, Steps p.tables e below (B.U.setTop { g with pc := g.pc + 3, stack := v.toList ++ rest }) target → Steps p.tables e below (T.setTop g) target) ∨
    (∃ (q : Addr) (vm₁ : Vm) (B : Pt), s.WarmedH vm₁ ∧ Stand p l e R s m args below meth c B.U B.locs B.cells B.slots ∧ PostX ⟨T.setVm vm₁, locs, cells, slots⟩ (Value.ref b :: argsL).toArray q B ∧
      Steps p.tables e below (T.setTop g) ((B.U.setTop { g with stack := rest }).pushFrame (.throwing q))) := by
  obtain ⟨mk, methM, hnamed, hmethM, hstM, habM⟩ := Cond.instanceMethod_spec hinst
  obtain ⟨methM', cM, hmethM', -, -, -, -, -, -, hsigM⟩ := Cond.code_spec hnamed hcode
  cases hmethM.symm.trans hmethM'
  obtain ⟨c2, r2, m2, q1, q2, q3, q4, kP, hkP, hkPi⟩ := Cond.selects_spec hsel
  cases hcls.symm.trans q1
  cases (State.methodFound?_of_named hnamed hy).symm.trans q2
  cases hnamed.symm.trans q3
  have hselP : selectMethod e.platform s.vm cellB.cls mk = .method mk := by rw [Launch.admits_selectMethod X.admits]; exact q4
  obtain ⟨vm₁, X₁, hstep₁⟩ := X.invokevirtual hexec hown hlink hnamed hmethM hstM hkP hkPi hy (a := b) (cell := cellB) hcell
    (fun z h => by rw [h] at hobj; cases hobj) hselP hmethM habM hkP hkPi (g := g) hg (argsL := argsL) (rest := rest) (hlen _ hsigM) hstack hdg
  rcases hK m meth c ⟨T.setVm vm₁, locs, cells, slots⟩ { g with stack := rest } (.invokevirtual index) mk (Value.ref b :: argsL).toArray X₁ hg hsize hdg hW (X₁.named hnamed) (hpre vm₁ X₁.warmed) with ⟨v, B, X', hpost, hsteps⟩ | ⟨q, B, X', hpost, hsteps⟩
  · exact Or.inl ⟨v, vm₁, B, X₁.warmed, X', hpost, fun target h => hstep₁ _ fun acts => by rw [doInvoke_state]; exact hsteps.trans h⟩
  · exact Or.inr ⟨q, vm₁, B, X₁.warmed, X', hpost, hstep₁ _ fun acts => by rw [doInvoke_state]; exact hsteps⟩
theorem vx_callS (X : Stand p l e R s m args below meth c T locs cells slots) (hexec : p.tables.exec = Jvm.exec) {own : String} {index : Nat} {y : MethodName} {bytes : ByteArray} {maxL : Nat} {ret : Option FieldType}
    (hown : s.vm.findClass own = some m.cls) (hlink : (Cond.methodLink own index y).before args s = true) (hstat : (Cond.static y).before args s = true) (hinit : (Cond.initialized y.cls).before args s = true)
    (hcode : (Cond.code y bytes maxL ret).before args s = true) (hy : y.cls ≠ "java/lang/invoke/MethodHandle" ∧ y.cls ≠ "java/lang/invoke/VarHandle")
    {W9 : Nat} {Pre : Pt → Array Value → Prop} {Post : Pt → Array Value → Option Value → Pt → Prop} {PostX : Pt → Array Value → Addr → Pt → Prop} (hK : vx_Back l R p e below s args y 3 W9 Pre Post PostX)
    {g : JFrame} (hg : g.method = m) (hsize : g.locals.size = c.maxLocals) {argsL rest : List Value} (hlen : ∀ sig, parseMethodDescriptor y.desc = some sig → argsL.length = sig.parameters.length)
    (hstack : g.stack = argsL.reverse ++ rest) (hW : 2 * g.monitorRoom + (rest.map fun v => v.category).sum ≤ W9) (hdg : decode c.code g.pc = .ok (.invokestatic index, 3))
    (hpre : ∀ vm₁, s.WarmedH vm₁ → Pre ⟨T.setVm vm₁, locs, cells, slots⟩ argsL.toArray) :
    (∃ (v : Option Value) (vm₁ : Vm) (B : Pt), s.WarmedH vm₁ ∧ Stand p l e R s m args below meth c B.U B.locs B.cells B.slots ∧ Post ⟨T.setVm vm₁, locs, cells, slots⟩ argsL.toArray v B ∧
      ∀ target, Steps p.tables e below (B.U.setTop { g with pc := g.pc + 3, stack := v.toList ++ rest }) target → Steps p.tables e below (T.setTop g) target) ∨
    (∃ (q : Addr) (vm₁ : Vm) (B : Pt), s.WarmedH vm₁ ∧ Stand p l e R s m args below meth c B.U B.locs B.cells B.slots ∧ PostX ⟨T.setVm vm₁, locs, cells, slots⟩ argsL.toArray q B ∧
      Steps p.tables e below (T.setTop g) ((B.U.setTop { g with stack := rest }).pushFrame (.throwing q))) := by
  obtain ⟨mk, hnamed⟩ := Cond.code_named hcode
  obtain ⟨methM, cM, hmethM, -, -, -, -, -, -, hsigM⟩ := Cond.code_spec hnamed hcode
  have hstatic : methM.isStatic = true := Cond.static_spec hnamed hmethM hstat
  obtain ⟨kP, hkP, -⟩ := className_of_methodNamed hnamed
  have hinitP : kP.init = .initialized := Cond.initialized_spec (findClass_of_methodNamed hnamed) hkP hinit
  obtain ⟨vm₁, X₁, hstep₁⟩ := X.invokestatic hexec hown hlink hnamed hmethM hstatic hkP hinitP hy (g := g) hg (argsL := argsL) (rest := rest) (hlen _ hsigM) hstack hdg
  rcases hK m meth c ⟨T.setVm vm₁, locs, cells, slots⟩ { g with stack := rest } (.invokestatic index) mk argsL.toArray X₁ hg hsize hdg hW (X₁.named hnamed) (hpre vm₁ X₁.warmed) with ⟨v, B, X', hpost, hsteps⟩ | ⟨q, B, X', hpost, hsteps⟩
  · exact Or.inl ⟨v, vm₁, B, X₁.warmed, X', hpost, fun target h => hstep₁ _ fun acts => by rw [doInvoke_state]; exact hsteps.trans h⟩
  · exact Or.inr ⟨q, vm₁, B, X₁.warmed, X', hpost, hstep₁ _ fun acts => by rw [doInvoke_state]; exact hsteps⟩
end Calls
theorem vx_cls {s : State} {T : State} {vm₁ : Vm} {E : String} {k : ClassId} (hW : s.WarmedH vm₁) (h : (T.setVm vm₁).vm.findClass E = some k) : s.vm.findClass E = some k := by
  have h1 : vm₁.findClass E = some k := h
  rw [hW.alike.findClass] at h1
  exact h1
/-- the method's frame g, with q thrown over it -/
def vx_W (p : Program) (l : Launch) (e : Env) (R : Room) (s : State) (m : MethodId) (args : Array Value) (below : List Frame) (meth : Method) (c : Code) (H : Heap) (locs : List Loc) (cells slots : Nat) (Q : State → Prop) (g : JFrame) (q : Addr) : Prop :=
  ∀ T : State, T.heap = H → Stand p l e R s m args below meth c T locs cells slots → ∃ t, Steps p.tables e below ((T.setTop g).pushFrame (.throwing q)) t ∧ Q t
def vx_Run (p : Program) (l : Launch) (e : Env) (R : Room) (s : State) (m : MethodId) (args : Array Value) (below : List Frame) (meth : Method) (c : Code) (H : Heap) (locs : List Loc) (cells slots mc ms : Nat) (g : JFrame) (rest : List Value) (Qa : State → Outcome → State → Prop) (XC : String → State → State → Prop) (free : Addr → Prop) : Prop :=
  ∀ T : State, T.heap = H → Stand p l e R s m args below meth c T locs cells slots →
    (∃ (v : Option Value) (st₀ t T' : State) (L : List Loc), st₀.heap = H ∧ Stand p l e R s m args below meth c T' (locs ++ L) (cells + mc) (slots + ms) ∧ (∀ q ∈ L, free q.base) ∧ T'.heap = t.heap ∧ T'.vm = t.vm ∧ Qa st₀ (.returned v) t ∧
      Goes p e below T g T' { g with pc := g.pc + 3, stack := v.toList ++ rest }) ∨
    (∃ (q : Addr) (st₀ t T' : State) (L : List Loc) (E : String) (ce : Cell), st₀.heap = H ∧ Stand p l e R s m args below meth c T' (locs ++ L) (cells + mc) (slots + ms) ∧ (∀ z ∈ L, free z.base) ∧ T'.heap = t.heap ∧ T'.vm = t.vm ∧ XC E st₀ t ∧ t.heap[q]? = some ce ∧ ce.vm = .none ∧ s.vm.findClass E = some ce.cls ∧
      Steps p.tables e below (T.setTop g) ((T'.setTop { g with stack := rest }).pushFrame (.throwing q)))
def vx_X {S : Type} (px : S → Prop) (B : String → S → State → Prop) (A : Nat → Prop) : String → State → State → Prop := fun E st t => ∃ u : S, px u ∧ B E u t ∧ va_F A st t
section Runs
variable {p : Program} {l : Launch} {e : Env} {R : Room} {s : State} {m : MethodId} {args : Array Value} {below : List Frame} {meth : Method} {c : Code} {H : Heap} {locs : List Loc} {cells slots : Nat}
variable {y : MethodName} {bytes cc : ByteArray} {maxL nL mc ms n index : Nat} {ret : Option FieldType} {ws : List Cond} {rm : Room} {Pc : Array Value → State → Prop} {Qc : Array Value → State → Outcome → State → Prop} {XC : String → State → State → Prop} {free : Addr → Prop} {Ts : List Cond} {own C : String} {b : Addr} {As rest : List Value} {g : JFrame}
theorem vx_callBack (cb : CallB R s args own index y bytes maxL ret ws rm mc ms n) (hM : vx_Met l y ws rm Pc Qc XC mc ms free) (hbl : FrameBlind Pc) : vx_Back l R p e below s args y 3 8 (PreOf R mc ms Pc) (PostOf Qc mc ms free) (vx_Post XC mc ms free) := by
  obtain ⟨hrc, hrs, hfr, hlo, hws, hcw, -, hini, -⟩ := cb
  exact vx_back (bytes := bytes) (maxL := maxL) (ret := ret) hM hbl hrc hrs hfr hlo hws hcw (fun a' U hW => word_at hW (Or.inl (by first | rfl | simp [Cond.onTables, Cond.keeps, Cond.steady])) hini)
theorem vx_runV (S : CallFix p m c cc nL s args Ts own) (hM : vx_Met l y ws rm Pc Qc XC mc ms free) (cw : CallW R s args own C index y bytes maxL ret ws rm mc ms n) (hp : PreV s H C b Pc As)
    (hg : g.method = m) (hn : As.length = n) (hsize : g.locals.size = nL) (hstack : g.stack = As.reverse ++ .ref b :: rest) (hW : 2 * g.monitorRoom + (rest.map fun v => v.category).sum ≤ 8) (hdg : decode cc g.pc = .ok (.invokevirtual index, 3)) (hf : cells + mc ≤ R.cells ∧ slots + ms ≤ R.slots) :
    vx_Run p l e R s m args below meth c H locs cells slots mc ms g rest (Qc (Value.ref b :: As).toArray) XC free := by
  have hK : vx_Back l R p e below s args y 3 8 (PreOf R mc ms Pc) (PostOf Qc mc ms free) (vx_Post XC mc ms free) := vx_callBack cw.1 hM hp.1
  obtain ⟨⟨-, -, -, -, -, -, hcode, -, hy, hlen, hl⟩, hin, hse⟩ := cw
  obtain ⟨hx, hb, hml, ho, -⟩ := S
  obtain ⟨-, ⟨cellB, hcB, hoB, hclB⟩, hPc⟩ := hp
  intro T hT X
  rcases vx_callV X hx (C := C) (bytes := bytes) (maxL := maxL) (ret := ret) ho hl hin hse hcode hy hK (by rw [hT]; exact hcB) hoB hclB hg (hsize.trans hml.symm) (argsL := As) (rest := rest) (fun sig h => hn.trans (hlen sig h)) hstack hW (by rw [hb]; exact hdg)
    (fun vm₁ hW₁ => ⟨hf.1, hf.2, hPc (T.setVm vm₁) hT hW₁⟩) with ⟨v, vm₁, ⟨U', l2, c2, s2⟩, hW₁, X', ⟨g', mk, t, L, e1, e2, hq, h1, hL, h2, h3⟩, st⟩ | ⟨q, vm₁, ⟨U', l2, c2, s2⟩, hW₁, X', ⟨g', mk, t, L, E, ce, e1, e2, hq, hce, hcv, hcl, h1, hL, h2, h3⟩, st⟩
  · dsimp only [Pt.U, Pt.locs, Pt.cells, Pt.slots] at X' e1 e2 h1 h2 h3 st
    subst h1; subst h2; subst h3
    exact Or.inl ⟨v, (T.setVm vm₁).calling g' mk (Value.ref b :: As).toArray, t, U', L, hT, X', hL, e1, e2, hq, st⟩
  · dsimp only [Pt.U, Pt.locs, Pt.cells, Pt.slots] at X' e1 e2 h1 h2 h3 st hcl
    subst h1; subst h2; subst h3
    exact Or.inr ⟨q, (T.setVm vm₁).calling g' mk (Value.ref b :: As).toArray, t, U', L, E, ce, hT, X', hL, e1, e2, hq, hce, hcv, vx_cls hW₁ hcl, st⟩
theorem vx_runS (S : CallFix p m c cc nL s args Ts own) (hM : vx_Met l y ws rm Pc Qc XC mc ms free) (cw : CallB R s args own index y bytes maxL ret ws rm mc ms n ∧ (Cond.static y).before args s = true) (hp : PreS s H Pc As)
    (hg : g.method = m) (hn : As.length = n) (hsize : g.locals.size = nL) (hstack : g.stack = As.reverse ++ rest) (hW : 2 * g.monitorRoom + (rest.map fun v => v.category).sum ≤ 8) (hdg : decode cc g.pc = .ok (.invokestatic index, 3)) (hf : cells + mc ≤ R.cells ∧ slots + ms ≤ R.slots) :
    vx_Run p l e R s m args below meth c H locs cells slots mc ms g rest (Qc As.toArray) XC free := by
  have hK : vx_Back l R p e below s args y 3 8 (PreOf R mc ms Pc) (PostOf Qc mc ms free) (vx_Post XC mc ms free) := vx_callBack cw.1 hM hp.1
  obtain ⟨⟨-, -, -, -, -, -, hcode, hini, hy, hlen, hl⟩, hstt⟩ := cw
  obtain ⟨hx, hb, hml, ho, -⟩ := S
  intro T hT X
  rcases vx_callS X hx (bytes := bytes) (maxL := maxL) (ret := ret) ho hl hstt hini hcode hy hK hg (hsize.trans hml.symm) (argsL := As) (rest := rest) (fun sig h => hn.trans (hlen sig h)) hstack hW (by rw [hb]; exact hdg)
    (fun vm₁ hW₁ => ⟨hf.1, hf.2, hp.2 (T.setVm vm₁) hT hW₁⟩) with ⟨v, vm₁, ⟨U', l2, c2, s2⟩, hW₁, X', ⟨g', mk, t, L, e1, e2, hq, h1, hL, h2, h3⟩, st⟩ | ⟨q, vm₁, ⟨U', l2, c2, s2⟩, hW₁, X', ⟨g', mk, t, L, E, ce, e1, e2, hq, hce, hcv, hcl, h1, hL, h2, h3⟩, st⟩
  · dsimp only [Pt.U, Pt.locs, Pt.cells, Pt.slots] at X' e1 e2 h1 h2 h3 st
    subst h1; subst h2; subst h3
    exact Or.inl ⟨v, (T.setVm vm₁).calling g' mk As.toArray, t, U', L, hT, X', hL, e1, e2, hq, st⟩
  · dsimp only [Pt.U, Pt.locs, Pt.cells, Pt.slots] at X' e1 e2 h1 h2 h3 st hcl
    subst h1; subst h2; subst h3
    exact Or.inr ⟨q, (T.setVm vm₁).calling g' mk As.toArray, t, U', L, E, ce, hT, X', hL, e1, e2, hq, hce, hcv, vx_cls hW₁ hcl, st⟩
end Runs
section Rows
variable {p : Program} {l : Launch} {e : Env} {R : Room} {s : State} {m : MethodId} {args : Array Value} {below : List Frame} {meth : Method} {c : Code} {H : Heap} {locs : List Loc} {cells slots : Nat} {Q : State → Prop}
variable {mc ms : Nat} {free : Addr → Prop} {A0 A1 : Nat → Prop} {H0 : Heap} {a : Array Value} {pc : Nat} {ls : Array Slot} {st0 rest : List Value}
theorem vx_keep {st₀ t T' : State} {L : List Loc} (h0 : st₀.heap = H) (e1 : T'.heap = t.heap) (hS : va_S A0 H0 H locs) (hA : ∀ q, q < H.size → A1 q → A0 q) (hf : ∀ q, free q → A0 q) (hL : ∀ q ∈ L, free q.base) (hF : va_F A1 st₀ t) :
    H.size ≤ T'.heap.size ∧ (∀ q : Nat, q < H.size → ¬ A1 q → T'.heap[q]? = H[q]?) ∧ va_S A0 H0 T'.heap (locs ++ L) := by
  obtain ⟨hz, hk⟩ := hF
  rw [h0] at hz hk
  exact ⟨by rw [e1]; exact hz, fun q h1 h2 => by rw [e1]; exact hk q h1 h2,
    ⟨Nat.le_trans hS.1 (by rw [e1]; exact hz), fun q h1 h2 => by rw [e1, hk q (Nat.lt_of_lt_of_le h1 hS.1) (fun z => h2 (hA q (Nat.lt_of_lt_of_le h1 hS.1) z))]; exact hS.2.1 q h1 h2, fun q hq => by
      rcases List.mem_append.mp hq with h | h
      · exact hS.2.2 q h
      · exact hf _ (hL q h)⟩⟩
theorem vx_calli {S SX : Type} {post : Int32 → S → Prop} {px : SX → Prop} {B : S → State → Prop} {BX : String → SX → State → Prop} {AX : Nat → Prop} (hr : vx_Run p l e R s m args below meth c H locs cells slots mc ms (F0 m pc ls st0) rest (va_Qi post B A1 a) (vx_X px BX AX) free) (hS : va_S A0 H0 H locs) (hA : ∀ q, q < H.size → A1 q → A0 q) (hf : ∀ q, free q → A0 q) (hAX : ∀ q, q < H.size → AX q → A0 q)
    (kx : ∀ (E : String) (ce : Cell) (q9 : Addr) (u : SX) (t : State) (H1 : Heap) (locs1 : List Loc), t.heap = H1 → s.vm.Alike t.vm → px u → BX E u t → H.size ≤ H1.size → (∀ q : Nat, q < H.size → ¬ AX q → H1[q]? = H[q]?) → va_S A0 H0 H1 locs1 → H1[q9]? = some ce → ce.vm = .none → s.vm.findClass E = some ce.cls → vx_W p l e R s m args below meth c H1 locs1 (cells + mc) (slots + ms) Q (F0 m pc ls rest) q9)
    (kk : ∀ (r : Int32) (u : S) (t : State) (H1 : Heap) (locs1 : List Loc), t.heap = H1 → s.vm.Alike t.vm → post r u → B u t → H.size ≤ H1.size → (∀ q : Nat, q < H.size → ¬ A1 q → H1[q]? = H[q]?) → va_S A0 H0 H1 locs1 → W p l e R s m args below meth c H1 locs1 (cells + mc) (slots + ms) Q (F0 m (pc + 3) ls (.int r :: rest))) : W p l e R s m args below meth c H locs cells slots Q (F0 m pc ls st0) := by
  intro T hT X
  rcases hr T hT X with ⟨v, st₀, t, T', L, h0, X', hL, e1, e2, ⟨⟨r, u, hv, hp, hb⟩, hF⟩, st⟩ | ⟨q, st₀, t, T', L, E, ce, h0, X', hL, e1, e2, ⟨u, hp, hb, hF⟩, hce, hcv, hcl, st⟩
  · cases hv
    obtain ⟨k1, k2, k3⟩ := vx_keep h0 e1 hS hA hf hL hF
    obtain ⟨t2, a1, b1⟩ := kk r u t T'.heap (locs ++ L) e1.symm (by rw [← e2]; exact X'.warmed.alike) hp hb k1 k2 k3 T' rfl X'
    exact ⟨t2, st t2 a1, b1⟩
  · obtain ⟨k1, k2, k3⟩ := vx_keep h0 e1 hS hAX hf hL hF
    obtain ⟨t2, a1, b1⟩ := kx E ce q u t T'.heap (locs ++ L) e1.symm (by rw [← e2]; exact X'.warmed.alike) hp hb k1 k2 k3 (by rw [e1]; exact hce) hcv hcl T' rfl X'
    exact ⟨t2, st.trans a1, b1⟩
theorem vx_calll {S SX : Type} {post : Int64 → S → Prop} {px : SX → Prop} {B : S → State → Prop} {BX : String → SX → State → Prop} {AX : Nat → Prop} (hr : vx_Run p l e R s m args below meth c H locs cells slots mc ms (F0 m pc ls st0) rest (va_Ql post B A1 a) (vx_X px BX AX) free) (hS : va_S A0 H0 H locs) (hA : ∀ q, q < H.size → A1 q → A0 q) (hf : ∀ q, free q → A0 q) (hAX : ∀ q, q < H.size → AX q → A0 q)
    (kx : ∀ (E : String) (ce : Cell) (q9 : Addr) (u : SX) (t : State) (H1 : Heap) (locs1 : List Loc), t.heap = H1 → s.vm.Alike t.vm → px u → BX E u t → H.size ≤ H1.size → (∀ q : Nat, q < H.size → ¬ AX q → H1[q]? = H[q]?) → va_S A0 H0 H1 locs1 → H1[q9]? = some ce → ce.vm = .none → s.vm.findClass E = some ce.cls → vx_W p l e R s m args below meth c H1 locs1 (cells + mc) (slots + ms) Q (F0 m pc ls rest) q9)
    (kk : ∀ (r : Int64) (u : S) (t : State) (H1 : Heap) (locs1 : List Loc), t.heap = H1 → s.vm.Alike t.vm → post r u → B u t → H.size ≤ H1.size → (∀ q : Nat, q < H.size → ¬ A1 q → H1[q]? = H[q]?) → va_S A0 H0 H1 locs1 → W p l e R s m args below meth c H1 locs1 (cells + mc) (slots + ms) Q (F0 m (pc + 3) ls (.long r :: rest))) : W p l e R s m args below meth c H locs cells slots Q (F0 m pc ls st0) := by
  intro T hT X
  rcases hr T hT X with ⟨v, st₀, t, T', L, h0, X', hL, e1, e2, ⟨⟨r, u, hv, hp, hb⟩, hF⟩, st⟩ | ⟨q, st₀, t, T', L, E, ce, h0, X', hL, e1, e2, ⟨u, hp, hb, hF⟩, hce, hcv, hcl, st⟩
  · cases hv
    obtain ⟨k1, k2, k3⟩ := vx_keep h0 e1 hS hA hf hL hF
    obtain ⟨t2, a1, b1⟩ := kk r u t T'.heap (locs ++ L) e1.symm (by rw [← e2]; exact X'.warmed.alike) hp hb k1 k2 k3 T' rfl X'
    exact ⟨t2, st t2 a1, b1⟩
  · obtain ⟨k1, k2, k3⟩ := vx_keep h0 e1 hS hAX hf hL hF
    obtain ⟨t2, a1, b1⟩ := kx E ce q u t T'.heap (locs ++ L) e1.symm (by rw [← e2]; exact X'.warmed.alike) hp hb k1 k2 k3 (by rw [e1]; exact hce) hcv hcl T' rfl X'
    exact ⟨t2, st.trans a1, b1⟩
theorem vx_callf {S SX : Type} {post : UInt32 → S → Prop} {px : SX → Prop} {B : S → State → Prop} {BX : String → SX → State → Prop} {AX : Nat → Prop} (hr : vx_Run p l e R s m args below meth c H locs cells slots mc ms (F0 m pc ls st0) rest (va_Qf post B A1 a) (vx_X px BX AX) free) (hS : va_S A0 H0 H locs) (hA : ∀ q, q < H.size → A1 q → A0 q) (hf : ∀ q, free q → A0 q) (hAX : ∀ q, q < H.size → AX q → A0 q)
    (kx : ∀ (E : String) (ce : Cell) (q9 : Addr) (u : SX) (t : State) (H1 : Heap) (locs1 : List Loc), t.heap = H1 → s.vm.Alike t.vm → px u → BX E u t → H.size ≤ H1.size → (∀ q : Nat, q < H.size → ¬ AX q → H1[q]? = H[q]?) → va_S A0 H0 H1 locs1 → H1[q9]? = some ce → ce.vm = .none → s.vm.findClass E = some ce.cls → vx_W p l e R s m args below meth c H1 locs1 (cells + mc) (slots + ms) Q (F0 m pc ls rest) q9)
    (kk : ∀ (r : UInt32) (u : S) (t : State) (H1 : Heap) (locs1 : List Loc), t.heap = H1 → s.vm.Alike t.vm → post r u → B u t → H.size ≤ H1.size → (∀ q : Nat, q < H.size → ¬ A1 q → H1[q]? = H[q]?) → va_S A0 H0 H1 locs1 → W p l e R s m args below meth c H1 locs1 (cells + mc) (slots + ms) Q (F0 m (pc + 3) ls (.float r :: rest))) : W p l e R s m args below meth c H locs cells slots Q (F0 m pc ls st0) := by
  intro T hT X
  rcases hr T hT X with ⟨v, st₀, t, T', L, h0, X', hL, e1, e2, ⟨⟨r, u, hv, hp, hb⟩, hF⟩, st⟩ | ⟨q, st₀, t, T', L, E, ce, h0, X', hL, e1, e2, ⟨u, hp, hb, hF⟩, hce, hcv, hcl, st⟩
  · cases hv
    obtain ⟨k1, k2, k3⟩ := vx_keep h0 e1 hS hA hf hL hF
    obtain ⟨t2, a1, b1⟩ := kk r u t T'.heap (locs ++ L) e1.symm (by rw [← e2]; exact X'.warmed.alike) hp hb k1 k2 k3 T' rfl X'
    exact ⟨t2, st t2 a1, b1⟩
  · obtain ⟨k1, k2, k3⟩ := vx_keep h0 e1 hS hAX hf hL hF
    obtain ⟨t2, a1, b1⟩ := kx E ce q u t T'.heap (locs ++ L) e1.symm (by rw [← e2]; exact X'.warmed.alike) hp hb k1 k2 k3 (by rw [e1]; exact hce) hcv hcl T' rfl X'
    exact ⟨t2, st.trans a1, b1⟩
theorem vx_calld {S SX : Type} {post : UInt64 → S → Prop} {px : SX → Prop} {B : S → State → Prop} {BX : String → SX → State → Prop} {AX : Nat → Prop} (hr : vx_Run p l e R s m args below meth c H locs cells slots mc ms (F0 m pc ls st0) rest (va_Qd post B A1 a) (vx_X px BX AX) free) (hS : va_S A0 H0 H locs) (hA : ∀ q, q < H.size → A1 q → A0 q) (hf : ∀ q, free q → A0 q) (hAX : ∀ q, q < H.size → AX q → A0 q)
    (kx : ∀ (E : String) (ce : Cell) (q9 : Addr) (u : SX) (t : State) (H1 : Heap) (locs1 : List Loc), t.heap = H1 → s.vm.Alike t.vm → px u → BX E u t → H.size ≤ H1.size → (∀ q : Nat, q < H.size → ¬ AX q → H1[q]? = H[q]?) → va_S A0 H0 H1 locs1 → H1[q9]? = some ce → ce.vm = .none → s.vm.findClass E = some ce.cls → vx_W p l e R s m args below meth c H1 locs1 (cells + mc) (slots + ms) Q (F0 m pc ls rest) q9)
    (kk : ∀ (r : UInt64) (u : S) (t : State) (H1 : Heap) (locs1 : List Loc), t.heap = H1 → s.vm.Alike t.vm → post r u → B u t → H.size ≤ H1.size → (∀ q : Nat, q < H.size → ¬ A1 q → H1[q]? = H[q]?) → va_S A0 H0 H1 locs1 → W p l e R s m args below meth c H1 locs1 (cells + mc) (slots + ms) Q (F0 m (pc + 3) ls (.double r :: rest))) : W p l e R s m args below meth c H locs cells slots Q (F0 m pc ls st0) := by
  intro T hT X
  rcases hr T hT X with ⟨v, st₀, t, T', L, h0, X', hL, e1, e2, ⟨⟨r, u, hv, hp, hb⟩, hF⟩, st⟩ | ⟨q, st₀, t, T', L, E, ce, h0, X', hL, e1, e2, ⟨u, hp, hb, hF⟩, hce, hcv, hcl, st⟩
  · cases hv
    obtain ⟨k1, k2, k3⟩ := vx_keep h0 e1 hS hA hf hL hF
    obtain ⟨t2, a1, b1⟩ := kk r u t T'.heap (locs ++ L) e1.symm (by rw [← e2]; exact X'.warmed.alike) hp hb k1 k2 k3 T' rfl X'
    exact ⟨t2, st t2 a1, b1⟩
  · obtain ⟨k1, k2, k3⟩ := vx_keep h0 e1 hS hAX hf hL hF
    obtain ⟨t2, a1, b1⟩ := kx E ce q u t T'.heap (locs ++ L) e1.symm (by rw [← e2]; exact X'.warmed.alike) hp hb k1 k2 k3 (by rw [e1]; exact hce) hcv hcl T' rfl X'
    exact ⟨t2, st.trans a1, b1⟩
theorem vx_callv {S SX : Type} {post : S → Prop} {px : SX → Prop} {B : S → State → Prop} {BX : String → SX → State → Prop} {AX : Nat → Prop} (hr : vx_Run p l e R s m args below meth c H locs cells slots mc ms (F0 m pc ls st0) rest (va_Qv post B A1 a) (vx_X px BX AX) free) (hS : va_S A0 H0 H locs) (hA : ∀ q, q < H.size → A1 q → A0 q) (hf : ∀ q, free q → A0 q) (hAX : ∀ q, q < H.size → AX q → A0 q)
    (kx : ∀ (E : String) (ce : Cell) (q9 : Addr) (u : SX) (t : State) (H1 : Heap) (locs1 : List Loc), t.heap = H1 → s.vm.Alike t.vm → px u → BX E u t → H.size ≤ H1.size → (∀ q : Nat, q < H.size → ¬ AX q → H1[q]? = H[q]?) → va_S A0 H0 H1 locs1 → H1[q9]? = some ce → ce.vm = .none → s.vm.findClass E = some ce.cls → vx_W p l e R s m args below meth c H1 locs1 (cells + mc) (slots + ms) Q (F0 m pc ls rest) q9)
    (kk : ∀ (u : S) (t : State) (H1 : Heap) (locs1 : List Loc), t.heap = H1 → s.vm.Alike t.vm → post u → B u t → H.size ≤ H1.size → (∀ q : Nat, q < H.size → ¬ A1 q → H1[q]? = H[q]?) → va_S A0 H0 H1 locs1 → W p l e R s m args below meth c H1 locs1 (cells + mc) (slots + ms) Q (F0 m (pc + 3) ls (rest))) : W p l e R s m args below meth c H locs cells slots Q (F0 m pc ls st0) := by
  intro T hT X
  rcases hr T hT X with ⟨v, st₀, t, T', L, h0, X', hL, e1, e2, ⟨⟨u, hv, hp, hb⟩, hF⟩, st⟩ | ⟨q, st₀, t, T', L, E, ce, h0, X', hL, e1, e2, ⟨u, hp, hb, hF⟩, hce, hcv, hcl, st⟩
  · cases hv
    obtain ⟨k1, k2, k3⟩ := vx_keep h0 e1 hS hA hf hL hF
    obtain ⟨t2, a1, b1⟩ := kk u t T'.heap (locs ++ L) e1.symm (by rw [← e2]; exact X'.warmed.alike) hp hb k1 k2 k3 T' rfl X'
    exact ⟨t2, st t2 a1, b1⟩
  · obtain ⟨k1, k2, k3⟩ := vx_keep h0 e1 hS hAX hf hL hF
    obtain ⟨t2, a1, b1⟩ := kx E ce q u t T'.heap (locs ++ L) e1.symm (by rw [← e2]; exact X'.warmed.alike) hp hb k1 k2 k3 (by rw [e1]; exact hce) hcv hcl T' rfl X'
    exact ⟨t2, st.trans a1, b1⟩
/-- caught by the row x of this method's table; the rows ahead don't take it -/
theorem vx_catch {own name : String} {E : String} {ce : Cell} {q : Addr} (hown : s.vm.findClass own = some m.cls) (pre : List ExceptionTableEntry) (x : ExceptionTableEntry) (suf : List ExceptionTableEntry) (hsplit : c.exceptionTable.toList = pre ++ x :: suf)
    (hpass : ∀ z ∈ pre, covers z pc = false ∨ (z.catchType ≠ 0 ∧ ∃ nm : String, (Cond.classLink own z.catchType nm).before args s = true ∧ va_Nc E nm s)) (hx : covers x pc = true) (h0 : x.catchType ≠ 0)
    (hlink : (Cond.classLink own x.catchType name).before args s = true) (hcast : (Cond.castable E name).before args s = true) (hcell : H[q]? = some ce) (hv : ce.vm = .none) (hcl : s.vm.findClass E = some ce.cls)
    (kk : W p l e R s m args below meth c H locs cells slots Q (F0 m x.handlerPc ls [.ref q])) : vx_W p l e R s m args below meth c H locs cells slots Q (F0 m pc ls rest) q := by
  intro T hT X
  have hpl : e.platform.magicAccessors = ({} : Platform).magicAccessors := by rw [X.admits.platform]
  obtain ⟨c3, c4, hc3, hc4, hasg⟩ := Cond.castable_spec hcast
  cases Option.some.inj (hc3.symm.trans hcl)
  obtain ⟨c5, hc5, hcl5⟩ := Cond.classLink_spec hown hlink e.platform hpl
  cases Option.some.inj (hc4.symm.trans hc5)
  obtain ⟨vm', X', st⟩ := qx_caught X q (g := F0 m pc ls rest) rfl (by rw [hT]; exact hcell) (by rw [hv]; rfl) (by obtain ⟨k9, h9, -⟩ := Vm.findClass_spec hcl; exact ⟨k9, h9⟩) pre x suf hsplit
    (fun z hz => by
      rcases hpass z hz with h | ⟨hz0, nm, hl1, hn1⟩
      · exact Or.inl h
      · obtain ⟨c6, hc6, hcl6⟩ := Cond.classLink_spec hown hl1 e.platform hpl
        obtain ⟨a8, b8, h1, h2, h3⟩ := hn1
        cases Option.some.inj (h1.symm.trans hcl)
        cases Option.some.inj (h2.symm.trans hc6)
        exact Or.inr ⟨hz0, _, hcl6, h3⟩) hx h0 hcl5 hasg
  obtain ⟨t, a1, b1⟩ := kk (T.setVm vm') hT X'
  exact ⟨t, st t a1, b1⟩
end Rows
section Ends
variable {p : Program} {l : Launch} {e : Env} {R : Room} {s : State} {m : MethodId} {args : Array Value} {below : List Frame} {meth : Method} {c : Code} {H : Heap} {locs : List Loc} {cells slots : Nat} {Q : State → Prop}
variable {mc ms : Nat} {free : Addr → Prop} {A0 A1 : Nat → Prop} {H0 : Heap} {a : Array Value} {ls : Array Slot} {st0 rest : List Value}
variable {Qc : Array Value → State → Outcome → State → Prop} {XC : String → State → State → Prop}
/-- what a body that may throw owes at its end -/
def vx_MQ (below : List Frame) (Qc : Array Value → State → Outcome → State → Prop) (XC : String → State → State → Prop) (a : Array Value) (s : State) (mc ms : Nat) (free : Addr → Prop) : State → Prop := fun t =>
  ∃ o, t.status = .running ∧ Ended t below o ∧ vx_Q Qc XC mc ms free a s o t
theorem vx_ret {g : JFrame} {mc ms : Nat} (k : W p l e R s m args below meth c H locs cells slots (MQ below Qc args s mc ms free) g) : W p l e R s m args below meth c H locs cells slots (vx_MQ below Qc XC args s mc ms free) g := by
  intro T hT X
  obtain ⟨t, a1, o, b1, b2, b3, b4⟩ := k T hT X
  exact ⟨t, a1, o, b1, b2, Or.inl ⟨b3, b4⟩⟩
/-- not caught here: it goes on to the caller -/
theorem vx_widen {g : JFrame} {q : Addr} {k n : Nat} (h1 : cells ≤ k) (h2 : slots ≤ n) (kk : vx_W p l e R s m args below meth c H locs k n Q g q) : vx_W p l e R s m args below meth c H locs cells slots Q g q := fun T hT X => kk T hT (stand_widen X h1 h2)
theorem vx_out {pc : Nat} {E : String} {ce : Cell} {q : Addr} {mc ms : Nat} (hout : ∀ x ∈ c.exceptionTable.toList, covers x pc = false) (hlocks : meth.locks = false) (hcell : H[q]? = some ce) (hv : ce.vm = .none) (hcl : s.vm.findClass E = some ce.cls)
    (hx : ∀ t : State, t.heap = H → s.vm.Alike t.vm → XC E s t) (hf : ∀ z ∈ locs, free z.base) (hc : cells ≤ mc) (hs : slots ≤ ms) :
    vx_W p l e R s m args below meth c H locs cells slots (vx_MQ below Qc XC args s mc ms free) (F0 m pc ls rest) q := by
  intro T hT X
  obtain ⟨st1, hrun, hend, hW, hsm⟩ := X.leaveThrown q (g := F0 m pc ls rest) rfl rfl rfl hout hlocks
  have hcell9 : (T.setFrames (.throwing q :: below)).heap[q]? = some ce := by
    show T.heap[q]? = some ce
    rw [hT]; exact hcell
  exact ⟨_, st1, .threw q, hrun, hend, Or.inr ⟨q, rfl, E, ce, locs, hx _ hT hW.alike, hcell9, hv, hcl, hW, hsm.mono hc hs, hf⟩⟩
theorem vx_frame {U : State} {k n : Nat} (h : s.sameButNew ({ U with vm := s.vm } : State) locs k n) : s.heap.size ≤ U.heap.size ∧ ∀ q : Nat, q < s.heap.size → (∀ z ∈ locs, z.base ≠ q) → U.heap[q]? = s.heap[q]? := by
  obtain ⟨-, h2, -, -, -, h6⟩ := h
  refine ⟨h2, fun q hq hz => ?_⟩
  obtain ⟨c9, e1, e2, e3, e4⟩ := h6 q _ (Array.getElem?_eq_getElem hq)
  have hs : c9.slots = (s.heap[q]).slots := Array.ext_getElem? fun i => e4 i fun hm => hz _ hm rfl
  have h9 : c9 = s.heap[q] := by
    rw [hs] at e2
    exact e2
  have e5 : U.heap[q]? = some c9 := e1
  rw [e5, h9, Array.getElem?_eq_getElem hq]
/-- the words of a throw but the four that speak of the heap -/
def vx_no (w : Cond) : Bool := decide (w ≠ .isRef (.static Bundle.tN "UNASSIGNED_STACK" Bundle.steD)) && decide (w ≠ .isRef (.static Bundle.tN "SUPPRESSED_SENTINEL" Bundle.listD)) && decide (w ≠ .laysStatic Bundle.tN "UNASSIGNED_STACK" Bundle.steD) && decide (w ≠ .laysStatic Bundle.tN "SUPPRESSED_SENTINEL" Bundle.listD)
def vx_at0 (own : String) (ic : Nat) (X : String) (names : List String) : List Cond := (Bundle.ownAtoms0 own ic X names).filter vx_no
def vx_atS (own : String) (ic : Nat) (X : String) (names : List String) : List Cond := (Bundle.ownAtoms own ic X names).filter vx_no
/-- a word that the tables alone decide, or a good one -/
def vx_ot (w : Cond) : Bool := w.onTables || goodWord w
theorem vx_ot_at {args a' : Array Value} {s U : State} {w : Cond} (hW : s.WarmedH U.vm) (hvm : s.vm = U.vm) (hg : vx_ot w = true) (h : w.before args s = true) : w.before a' U = true := by
  simp only [vx_ot, Bool.or_eq_true] at hg
  rcases hg with hg | hg
  · exact va_tabs hg hvm h
  · exact word_at hW (good_of_word hg) h
/-- a list's words: the good ones out of the method's own list, the others by premises of their own -/
theorem vx_hat {args : Array Value} {s : State} {L B : List Cond} (h1 : ∀ w ∈ L.filter goodWord, w.before args s = true) (h2 : ∀ w ∈ L.filter (fun w => !goodWord w), w ∈ B) (h3 : ∀ w ∈ B, w.before args s = true) : ∀ w ∈ L, w.before args s = true := by
  intro w hw
  by_cases g : goodWord w = true
  · exact h1 w (List.mem_filter.mpr ⟨hw, g⟩)
  · refine h3 w (h2 w (List.mem_filter.mpr ⟨hw, ?_⟩))
    show (!goodWord w) = true
    cases hgw : goodWord w
    · rfl
    · exact absurd hgw g
theorem vx_c {args : Array Value} {s : State} {w : Cond} {B : List Cond} (h : w.before args s = true) (t : ∀ w ∈ B, w.before args s = true) : ∀ w' ∈ w :: B, w'.before args s = true := fun w' h' => (List.mem_cons.mp h').elim (fun e => by rw [e]; exact h) (t w')
theorem vx_n {args : Array Value} {s : State} : ∀ w ∈ ([] : List Cond), w.before args s = true := fun _ h => nomatch h
theorem vx_own {args : Array Value} {s : State} {L : List Cond} (h1 : ∀ w ∈ L.filter vx_no, w.before args s = true)
    (hU : (Cond.isRef (.static Bundle.tN "UNASSIGNED_STACK" Bundle.steD)).before args s = true) (hN : (Cond.isRef (.static Bundle.tN "SUPPRESSED_SENTINEL" Bundle.listD)).before args s = true)
    (lU : (Cond.laysStatic Bundle.tN "UNASSIGNED_STACK" Bundle.steD).before args s = true) (lN : (Cond.laysStatic Bundle.tN "SUPPRESSED_SENTINEL" Bundle.listD).before args s = true) : ∀ w ∈ L, w.before args s = true := by
  intro w hw
  by_cases e1 : w = .isRef (.static Bundle.tN "UNASSIGNED_STACK" Bundle.steD)
  · rw [e1]; exact hU
  · by_cases e2 : w = .isRef (.static Bundle.tN "SUPPRESSED_SENTINEL" Bundle.listD)
    · rw [e2]; exact hN
    · by_cases e3 : w = .laysStatic Bundle.tN "UNASSIGNED_STACK" Bundle.steD
      · rw [e3]; exact lU
      · by_cases e4 : w = .laysStatic Bundle.tN "SUPPRESSED_SENTINEL" Bundle.listD
        · rw [e4]; exact lN
        · exact h1 w (List.mem_filter.mpr ⟨hw, by unfold vx_no; rw [decide_eq_true e1, decide_eq_true e2, decide_eq_true e3, decide_eq_true e4]; rfl⟩)
/-- where a static field lies, its class's statics cell in H -/
def vx_L (C n d : String) (A : Nat → Prop) (U : State) (H : Heap) : Prop := ∃ (c : ClassId) (k : Class) (i : Nat) (f : Field) (a : Nat) (cell : Cell), U.vm.findClass C = some c ∧ U.fieldFound? C n d = some (c, k, i, f) ∧ f.isStatic = true ∧ k.statics = some a ∧ H[a]? = some cell ∧ cell.vm.isStatics = true ∧ cell.cls = c ∧ f.slot < cell.slots.size ∧ k.staticTypes[f.slot]? = some f.type ∧ ¬ A a
theorem vx_L.moved {C n d : String} {A : Nat → Prop} {u U : State} {H : Heap} (hvm : u.vm.Alike U.vm) (h : vx_L C n d A u H) : vx_L C n d A U H := by
  obtain ⟨c, k, i, f, a, cell, h1, h2, h3, h4, h5, h6, h7, h8, h9, h10⟩ := h
  obtain ⟨k', hi', he⟩ := State.fieldFound?_setVm hvm h2
  exact ⟨c, k', i, f, a, cell, by rw [hvm.findClass]; exact h1, hi', h3, by rw [he]; exact h4, h5, h6, h7, h8, by rw [he]; exact h9, h10⟩
theorem vx_L.kept {C n d : String} {A : Nat → Prop} {U : State} {H H1 : Heap} (h : vx_L C n d A U H) (hq : ∀ a : Nat, a < H.size → ¬ A a → H1[a]? = H[a]?) : vx_L C n d A U H1 := by
  obtain ⟨c, k, i, f, a, cell, h1, h2, h3, h4, h5, h6, h7, h8, h9, h10⟩ := h
  exact ⟨c, k, i, f, a, cell, h1, h2, h3, h4, by rw [hq a (Array.getElem?_eq_some_iff.mp h5).1 h10]; exact h5, h6, h7, h8, h9, h10⟩
theorem vx_L.narrow {C n d : String} {A B : Nat → Prop} {U : State} {H : Heap} (h : vx_L C n d A U H) (hAB : ∀ q, B q → A q) : vx_L C n d B U H := by
  obtain ⟨c, k, i, f, a, cell, h1, h2, h3, h4, h5, h6, h7, h8, h9, h10⟩ := h
  exact ⟨c, k, i, f, a, cell, h1, h2, h3, h4, h5, h6, h7, h8, h9, fun z => h10 (hAB _ z)⟩
theorem vx_L.word {C n d : String} {A : Nat → Prop} {s : State} {args : Array Value} (h : vx_L C n d A s s.heap) : (Cond.laysStatic C n d).before args s = true := by
  obtain ⟨c, k, i, f, a, cell, h1, h2, h3, h4, h5, h6, h7, h8, h9, -⟩ := h
  show (Cond.laysStatic C n d).holds args s none s [] = true
  exact Cond.laysStatic_of h1 h2 h3 h4 h5 h6 h7 h8 h9
/-- .. and what it holds: null or some reference -/
def vx_Zq (C n d : String) (A : Nat → Prop) (U : State) (H : Heap) : Prop := va_Zq C n d A U H ∧ vx_L C n d A U H
theorem vx_Zq.moved {C n d : String} {A : Nat → Prop} {u U : State} {H : Heap} (hvm : u.vm.Alike U.vm) (h : vx_Zq C n d A u H) : vx_Zq C n d A U H := ⟨va_Zq.moved hvm h.1, vx_L.moved hvm h.2⟩
theorem vx_Zq.kept {C n d : String} {A : Nat → Prop} {U : State} {H H1 : Heap} (h : vx_Zq C n d A U H) (hq : ∀ a : Nat, a < H.size → ¬ A a → H1[a]? = H[a]?) : vx_Zq C n d A U H1 := ⟨va_Zq.kept h.1 hq, vx_L.kept h.2 hq⟩
theorem vx_Zq.narrow {C n d : String} {A B : Nat → Prop} {U : State} {H : Heap} (h : vx_Zq C n d A U H) (hAB : ∀ q, B q → A q) : vx_Zq C n d B U H := ⟨va_Zq.narrow h.1 hAB, vx_L.narrow h.2 hAB⟩
theorem vx_Zqof {args : Array Value} {s : State} {C n d : String} {A : Nat → Prop} (hl : (Cond.laysStatic C n d).before args s = true) (hini : (Cond.initialized C).before args s = true) (h : (Cond.isRef (.static C n d)).before args s = true) (hA : ∀ a : Nat, a < s.heap.size → ¬ A a) : vx_Zq C n d A s s.heap := by
  refine ⟨va_Zqof hl hini h hA, ?_⟩
  obtain ⟨c, k, i, f, a, cell, h1, h2, h3, h4, h5, h6, h7, h8, h9⟩ := Cond.laysStatic_spec hl
  exact ⟨c, k, i, f, a, cell, h1, h2, h3, h4, h5, h6, h7, h8, h9, hA a (Array.getElem?_eq_some_iff.mp h5).1⟩
theorem vx_isRef {C n d : String} {v : Value} {A : Nat → Prop} {s : State} {args : Array Value} (h : va_Z C n d v A s s.heap) (hv : v.isRef = true) : (Cond.isRef (.static C n d)).before args s = true := by
  obtain ⟨cf, kf, fi, f, a, cell, h1, h2, h3, h4, h5, h6, h7, -⟩ := h
  have he : (Term.static C n d).eval args s none [] s = some v := by
    simp [Term.eval, State.fieldNamed?, h1, h2, h4, h5, h6, h7]
  simp only [Cond.before, Cond.holds, Cond.value, he]
  cases v <;> simp_all [Value.isRef]
theorem vx_isRefq {C n d : String} {A : Nat → Prop} {s : State} {args : Array Value} (h : va_Zq C n d A s s.heap) : (Cond.isRef (.static C n d)).before args s = true := by
  rcases h with h | ⟨t, h⟩
  · exact vx_isRef h rfl
  · exact vx_isRef h rfl
/-- the same frame, seen from here: as if the method were called anew in this heap -/
theorem vx_rebase {T : State} (X : Stand p l e R s m args below meth c T locs cells slots) {R' : Room} (hf : R'.frames ≤ R.frames) (hl : R'.locals ≤ R.locals) (hc : cells + R'.cells ≤ R.cells) (hs : slots + R'.slots ≤ R.slots) :
    Stand p l e R' ((T.setVm s.vm).setFrames (.invoking m args :: below)) m args below meth c T [] 0 0 := by
  have htop : (T.setVm s.vm).topJava?.isSome := X.here.top
  have hF : ((T.setVm s.vm).setFrames (.invoking m args :: below)).frames = .invoking m args :: below := State.frames_setFrames _ (State.cur_lt_of_top htop)
  obtain ⟨g₀, hg0⟩ := Option.isSome_iff_exists.mp htop
  obtain ⟨r, hr⟩ := State.topJava?_eq_some.mp hg0
  have hl9 : e.platform.stackLimits (T.setVm s.vm).me = e.platform.stackLimits s.me := X.limits
  have hb9 : (T.setVm s.vm).me.stackBytes = s.me.stackBytes := X.bytes
  refine ⟨X.admits, X.cas, X.clock, hF, ?_, X.hears, X.method, X.code, X.here, X.tail, X.warmed, ?_, ?_, ?_⟩
  · have h := X.room
    have hU : ((T.setVm s.vm).setFrames (.invoking m args :: below)).localsInUse = s.localsInUse := by
      rw [State.localsInUse_invoking hF (meth := meth) (c := c) X.method X.code, State.localsInUse_invoking X.frames X.method X.code]
    simp only [State.hasRoom, Bool.and_eq_true, decide_eq_true_eq] at h ⊢
    obtain ⟨⟨⟨⟨h1, h2, h3, h4, h5, h6⟩, h7⟩, h8⟩, h9⟩ := h
    rw [X.frames, List.length_cons] at h2 h3
    have q1 := X.heapSize
    have q2 := X.used
    simp only [hF, hU, List.length_cons, State.stackLimits_setFrames, State.stackBytes_setFrames, hl9, hb9]
    refine ⟨⟨⟨⟨by omega, by omega, by omega, by omega, by omega, h6⟩, ?_⟩, ?_⟩, X.book⟩
    · show T.heap.size + R'.cells ≤ e.platform.maxCells
      omega
    · show T.slotsUsed + R'.slots ≤ e.platform.maxSlots
      omega
  · rw [State.stackLimits_setFrames]; rfl
  · rw [State.stackBytes_setFrames]; rfl
  · refine ⟨?_, Nat.le_refl _, Nat.le_refl _, ?_, ?_, fun a c9 h9 => ⟨c9, h9, rfl, rfl, fun _ _ => rfl⟩⟩
    · obtain ⟨t, ht, -⟩ := State.frames_cons hr
      show T.setVm s.vm = { ((T.setVm s.vm).setFrames (.invoking m args :: below)).setFrames (T.setVm s.vm).frames with heap := T.heap, slotsUsed := T.slotsUsed }
      rw [State.setFrames_setFrames, State.setFrames_self ht]
      rfl
    · show T.slotsUsed = T.slotsUsed + ((T.heap.toList.drop T.heap.size).map (·.slots.size)).sum
      rw [List.drop_eq_nil_of_le (Nat.le_of_eq Array.length_toList)]
      rfl
    · show ((T.heap.toList.drop T.heap.size).map (·.slots.size)).sum ≤ 0
      rw [List.drop_eq_nil_of_le (Nat.le_of_eq Array.length_toList)]
      exact Nat.le_refl _
/-- 'throw new E()': new; dup; invokespecial; athrow -/
theorem vx_throw0 {cc : ByteArray} {pc : Nat} (hexec : p.tables.exec = Jvm.exec) (hb : c.code = cc) (hl : l.stackTraces = false) {own cls : String} {names : List String} {ik ic mc ms : Nat} {A : Nat → Prop}
    (hown : s.vm.findClass own = some m.cls) (hcls : Bundle.fit cls = true) (hnames : ∀ n ∈ names, Bundle.fit n = true)
    (hk : (Cond.classLink own ik cls).before args s = true) (hini : (Cond.initialized cls).before args s = true) (hat : ∀ w ∈ vx_at0 own ic cls names, w.before args s = true)
    (hgood : ∀ w ∈ Cond.classLink own ik cls :: Cond.initialized cls :: vx_at0 own ic cls names, vx_ot w = true)
    (hU : vx_Zq Bundle.tN "UNASSIGNED_STACK" Bundle.steD A s s.heap) (hN : vx_Zq Bundle.tN "SUPPRESSED_SENTINEL" Bundle.listD A s s.heap) (hS : va_S A s.heap H locs) (hsize : ls.size = c.maxLocals)
    (d0 : decode cc pc = .ok (.new ik, 3)) (d3 : decode cc (pc + 3) = .ok (.dup, 1)) (d4 : decode cc (pc + 4) = .ok (.invokespecial ic, 3)) (d7 : decode cc (pc + 7) = .ok (.athrow, 1))
    (hout : ∀ x ∈ c.exceptionTable.toList, covers x (pc + 7) = false)
    (hRframes : names.length + 3 < R.frames) (hRlocals : (rest.map fun v => v.category).sum + (13 * (names.length + 1) + 42) ≤ R.locals) (hRcells : cells + 1 ≤ R.cells) (hRslots : slots + 6 ≤ R.slots) (hlocks : meth.locks = false)
    (hx : ∀ t : State, s.vm.Alike t.vm → H.size ≤ t.heap.size → (∀ q : Nat, q < H.size → t.heap[q]? = H[q]?) → XC cls s t)
    (hf : ∀ z ∈ locs, free z.base) (hc : cells + 1 ≤ mc) (hs : slots + 6 ≤ ms) :
    W p l e R s m args below meth c H locs cells slots (vx_MQ below Qc XC args s mc ms free) (F0 m pc ls rest) := by
  intro T hT X
  have htr : e.platform.stackTraces = false := (show e.platform.stackTraces = l.stackTraces by rw [X.admits.platform]).trans hl
  have Y := vx_rebase X (R' := { frames := R.frames, locals := R.locals, cells := 1, slots := 6 }) (Nat.le_refl _) (Nat.le_refl _) hRcells hRslots
  obtain ⟨s', hA⟩ : ∃ z, z = (T.setVm s.vm).setFrames (.invoking m args :: below) := ⟨_, rfl⟩
  rw [← hA] at Y
  have hvm : s'.vm = s.vm := by rw [hA]; rfl
  have hhp : s'.heap = H := by rw [hA]; exact hT
  have hW0 : s.WarmedH s'.vm := by rw [hvm]; exact State.WarmedH.refl s
  have hat' : ∀ w ∈ vx_at0 own ic cls names, w.before args s' = true := fun w hw => vx_ot_at hW0 hvm.symm (hgood w (List.mem_cons_of_mem _ (List.mem_cons_of_mem _ hw))) (hat w hw)
  have hk' : (Cond.classLink own ik cls).before args s' = true := vx_ot_at hW0 hvm.symm (hgood _ List.mem_cons_self) hk
  have hini' : (Cond.initialized cls).before args s' = true := vx_ot_at hW0 hvm.symm (hgood _ (List.mem_cons_of_mem _ List.mem_cons_self)) hini
  have hU' : vx_Zq Bundle.tN "UNASSIGNED_STACK" Bundle.steD A s' s'.heap := by rw [hhp]; exact vx_Zq.moved hW0.alike (hU.kept hS.2.1)
  have hN' : vx_Zq Bundle.tN "SUPPRESSED_SENTINEL" Bundle.listD A s' s'.heap := by rw [hhp]; exact vx_Zq.moved hW0.alike (hN.kept hS.2.1)
  have h : ∀ w ∈ Bundle.ownAtoms0 own ic cls names, w.before args s' = true := vx_own hat' (vx_isRefq hU'.1) (vx_isRefq hN'.1) hU'.2.word hN'.2.word
  have hown' : s'.vm.findClass own = some m.cls := by rw [hvm]; exact hown
  have hins : (Cond.instantiable cls 6).before args s' = true := h _ (by simp [Bundle.ownAtoms0])
  obtain ⟨vm₁, cX, kX, hfX, hkX, -, -, X₁, st1⟩ := Y.newCold hexec (own := own) (C := cls) (index := ik) (n := 6) hown' hk' hins hini'
    (g := F0 m pc ls rest) rfl (by rw [hb]; exact d0) (Nat.le_refl _) (Nat.le_refl _)
  generalize hT1 : (T.setVm vm₁).pushCell { cls := cX, slots := kX.instanceTypes.map defaultValue, vm := .none } = T1 at X₁ st1
  have hcat : (Value.ref T.heap.size).category = 1 := rfl
  have hcellA : T1.heap[T.heap.size]? = some (freshCell cX kX) := by rw [← hT1]; exact State.heap_pushCell_size _ _
  have d3' : decode c.code (pc + 3) = .ok (.dup, 1) := by rw [hb]; exact d3
  obtain ⟨U, hsteps, hrun, hend, hW, hsame, ce, hce, hO⟩ := X₁.ctorThrow0 hexec htr (own := own) (cls := cls) (names := names) (ic := ic) hown' hcls hnames h (fun x hx => nomatch hx) hfX hkX hcellA (by rw [hhp, hT]; exact Nat.le_refl _)
    (g := { method := m, pc := pc + 4, locals := ls, stack := .ref T.heap.size :: .ref T.heap.size :: rest, locked := none }) rfl hsize rfl rfl (rest := rest) rfl
    (by rw [hb]; exact d4) (by rw [hb]; exact d7) hout hRframes (by simp only [List.map_cons, List.sum_cons, hcat]; omega) hlocks
  obtain ⟨f1, f2⟩ := vx_frame hsame
  rw [hhp] at f1 f2
  have hWs : s.WarmedH U.vm := State.WarmedH.trans hW0 hW
  have hcl : s.vm.findClass cls = some ce.cls := by
    have h9 := hO.cls
    rw [hvm] at h9
    exact h9
  have hall : s.sameButNew ({ U with vm := s.vm } : State) locs mc ms := by
    subst hA
    obtain ⟨e1, e2⟩ := hsame
    rw [State.setFrames_setFrames] at e1
    have h2 : (T.setVm s.vm).sameButNew ({ U with vm := s.vm } : State) [] (0 + 1) (0 + 6) := ⟨e1, e2⟩
    have h3 := X.same.trans h2
    rw [List.append_nil] at h3
    exact h3.mono hc hs
  refine ⟨U, ?_, .threw T.heap.size, hrun, hend, Or.inr ⟨T.heap.size, rfl, cls, ce, locs, hx U hWs.alike f1 (fun q hq => f2 q hq (fun z hz => nomatch hz)), hce, hO.vm, hcl, hWs, hall, hf⟩⟩
  refine st1 _ ?_
  show Steps p.tables e below (T1.setTop { method := m, pc := pc + 3, locals := ls, stack := .ref T.heap.size :: rest, locked := none }) _
  jvm_step X₁.here [X₁.here.top, hexec, d3', Value.category]
  exact hsteps
/-- 'throw new E("text")': new; dup; ldc; invokespecial; athrow -/
theorem vx_throwS {cc : ByteArray} {pc : Nat} (hexec : p.tables.exec = Jvm.exec) (hb : c.code = cc) (hl : l.stackTraces = false) {own cls text : String} {names : List String} {ik is ic mc ms sa : Nat} {A : Nat → Prop}
    (hown : s.vm.findClass own = some m.cls) (hcls : Bundle.fit cls = true) (hnames : ∀ n ∈ names, Bundle.fit n = true)
    (hk : (Cond.classLink own ik cls).before args s = true) (hini : (Cond.initialized cls).before args s = true) (hstr : vk_R own is text sa s) (hat : ∀ w ∈ vx_atS own ic cls names, w.before args s = true)
    (hgood : ∀ w ∈ Cond.classLink own ik cls :: Cond.initialized cls :: vx_atS own ic cls names, vx_ot w = true)
    (hU : vx_Zq Bundle.tN "UNASSIGNED_STACK" Bundle.steD A s s.heap) (hN : vx_Zq Bundle.tN "SUPPRESSED_SENTINEL" Bundle.listD A s s.heap) (hS : va_S A s.heap H locs) (hsize : ls.size = c.maxLocals)
    (d0 : decode cc pc = .ok (.new ik, 3)) (d3 : decode cc (pc + 3) = .ok (.dup, 1)) (d4 : decode cc (pc + 4) = .ok (.ldc is, 2)) (d6 : decode cc (pc + 6) = .ok (.invokespecial ic, 3)) (d9 : decode cc (pc + 9) = .ok (.athrow, 1))
    (hout : ∀ x ∈ c.exceptionTable.toList, covers x (pc + 9) = false)
    (hRframes : names.length + 3 < R.frames) (hRlocals : (rest.map fun v => v.category).sum + (13 * (names.length + 1) + 43) ≤ R.locals) (hRcells : cells + 1 ≤ R.cells) (hRslots : slots + 6 ≤ R.slots) (hlocks : meth.locks = false)
    (hx : ∀ t : State, s.vm.Alike t.vm → H.size ≤ t.heap.size → (∀ q : Nat, q < H.size → t.heap[q]? = H[q]?) → XC cls s t)
    (hf : ∀ z ∈ locs, free z.base) (hc : cells + 1 ≤ mc) (hs : slots + 6 ≤ ms) :
    W p l e R s m args below meth c H locs cells slots (vx_MQ below Qc XC args s mc ms free) (F0 m pc ls rest) := by
  intro T hT X
  have htr : e.platform.stackTraces = false := (show e.platform.stackTraces = l.stackTraces by rw [X.admits.platform]).trans hl
  have Y := vx_rebase X (R' := { frames := R.frames, locals := R.locals, cells := 1, slots := 6 }) (Nat.le_refl _) (Nat.le_refl _) hRcells hRslots
  obtain ⟨s', hA⟩ : ∃ z, z = (T.setVm s.vm).setFrames (.invoking m args :: below) := ⟨_, rfl⟩
  rw [← hA] at Y
  have hvm : s'.vm = s.vm := by rw [hA]; rfl
  have hhp : s'.heap = H := by rw [hA]; exact hT
  have hW0 : s.WarmedH s'.vm := by rw [hvm]; exact State.WarmedH.refl s
  have hat' : ∀ w ∈ vx_atS own ic cls names, w.before args s' = true := fun w hw => vx_ot_at hW0 hvm.symm (hgood w (List.mem_cons_of_mem _ (List.mem_cons_of_mem _ hw))) (hat w hw)
  have hk' : (Cond.classLink own ik cls).before args s' = true := vx_ot_at hW0 hvm.symm (hgood _ List.mem_cons_self) hk
  have hini' : (Cond.initialized cls).before args s' = true := vx_ot_at hW0 hvm.symm (hgood _ (List.mem_cons_of_mem _ List.mem_cons_self)) hini
  have hU' : vx_Zq Bundle.tN "UNASSIGNED_STACK" Bundle.steD A s' s'.heap := by rw [hhp]; exact vx_Zq.moved hW0.alike (hU.kept hS.2.1)
  have hN' : vx_Zq Bundle.tN "SUPPRESSED_SENTINEL" Bundle.listD A s' s'.heap := by rw [hhp]; exact vx_Zq.moved hW0.alike (hN.kept hS.2.1)
  have h : ∀ w ∈ Bundle.ownAtoms own ic cls names, w.before args s' = true := vx_own hat' (vx_isRefq hU'.1) (vx_isRefq hN'.1) hU'.2.word hN'.2.word
  have hown' : s'.vm.findClass own = some m.cls := by rw [hvm]; exact hown
  have hins : (Cond.instantiable cls 6).before args s' = true := h _ (by simp [Bundle.ownAtoms])
  obtain ⟨vm₁, cX, kX, hfX, hkX, -, -, X₁, st1⟩ := Y.newCold hexec (own := own) (C := cls) (index := ik) (n := 6) hown' hk' hins hini'
    (g := F0 m pc ls rest) rfl (by rw [hb]; exact d0) (Nat.le_refl _) (Nat.le_refl _)
  generalize hT1 : (T.setVm vm₁).pushCell { cls := cX, slots := kX.instanceTypes.map defaultValue, vm := .none } = T1 at X₁ st1
  have hcat : (Value.ref T.heap.size).category = 1 := rfl
  have hcellA : T1.heap[T.heap.size]? = some (freshCell cX kX) := by rw [← hT1]; exact State.heap_pushCell_size _ _
  have d3' : decode c.code (pc + 3) = .ok (.dup, 1) := by rw [hb]; exact d3
  have d4' : decode c.code (pc + 4) = .ok (.ldc is, 2) := by rw [hb]; exact d4
  have hstr' : vk_R own is text sa s' := vk_R.warm hW0 hstr
  obtain ⟨U, hsteps, hrun, hend, hW, hsame, ce, hce, hO⟩ := X₁.ctorThrowS hexec htr (own := own) (cls := cls) (names := names) (ic := ic) hown' hcls hnames h (fun x hx => nomatch hx) hfX hkX hcellA (by rw [hhp, hT]; exact Nat.le_refl _) (msg := .ref sa) rfl
    (g := { method := m, pc := pc + 6, locals := ls, stack := .ref sa :: .ref T.heap.size :: .ref T.heap.size :: rest, locked := none }) rfl hsize rfl rfl (rest := rest) rfl
    (by rw [hb]; exact d6) (by rw [hb]; exact d9) hout hRframes (by simp only [List.map_cons, List.sum_cons, hcat]; omega) hlocks
  obtain ⟨f1, f2⟩ := vx_frame hsame
  rw [hhp] at f1 f2
  have hWs : s.WarmedH U.vm := State.WarmedH.trans hW0 hW
  have hcl : s.vm.findClass cls = some ce.cls := by
    have h9 := hO.cls
    rw [hvm] at h9
    exact h9
  have hall : s.sameButNew ({ U with vm := s.vm } : State) locs mc ms := by
    subst hA
    obtain ⟨e1, e2⟩ := hsame
    rw [State.setFrames_setFrames] at e1
    have h2 : (T.setVm s.vm).sameButNew ({ U with vm := s.vm } : State) [] (0 + 1) (0 + 6) := ⟨e1, e2⟩
    have h3 := X.same.trans h2
    rw [List.append_nil] at h3
    exact h3.mono hc hs
  refine ⟨U, ?_, .threw T.heap.size, hrun, hend, Or.inr ⟨T.heap.size, rfl, cls, ce, locs, hx U hWs.alike f1 (fun q hq => f2 q hq (fun z hz => nomatch hz)), hce, hO.vm, hcl, hWs, hall, hf⟩⟩
  refine st1 _ ?_
  show Steps p.tables e below (T1.setTop { method := m, pc := pc + 3, locals := ls, stack := .ref T.heap.size :: rest, locked := none }) _
  jvm_step X₁.here [X₁.here.top, hexec, d3', Value.category]
  exact X₁.ldcString hexec (own := own) (text := text) (index := is) (a := sa) hown' hstr'.1 hstr'.2
    (g := { method := m, pc := pc + 4, locals := ls, stack := .ref T.heap.size :: .ref T.heap.size :: rest, locked := none }) rfl d4' _ hsteps
/-- 'throw new E("text")', the text by a wide index -/
theorem vx_throwSW {cc : ByteArray} {pc : Nat} (hexec : p.tables.exec = Jvm.exec) (hb : c.code = cc) (hl : l.stackTraces = false) {own cls text : String} {names : List String} {ik is ic mc ms sa : Nat} {A : Nat → Prop}
    (hown : s.vm.findClass own = some m.cls) (hcls : Bundle.fit cls = true) (hnames : ∀ n ∈ names, Bundle.fit n = true)
    (hk : (Cond.classLink own ik cls).before args s = true) (hini : (Cond.initialized cls).before args s = true) (hstr : vk_R own is text sa s) (hat : ∀ w ∈ vx_atS own ic cls names, w.before args s = true)
    (hgood : ∀ w ∈ Cond.classLink own ik cls :: Cond.initialized cls :: vx_atS own ic cls names, vx_ot w = true)
    (hU : vx_Zq Bundle.tN "UNASSIGNED_STACK" Bundle.steD A s s.heap) (hN : vx_Zq Bundle.tN "SUPPRESSED_SENTINEL" Bundle.listD A s s.heap) (hS : va_S A s.heap H locs) (hsize : ls.size = c.maxLocals)
    (d0 : decode cc pc = .ok (.new ik, 3)) (d3 : decode cc (pc + 3) = .ok (.dup, 1)) (d4 : decode cc (pc + 4) = .ok (.ldc_w is, 3)) (d7 : decode cc (pc + 7) = .ok (.invokespecial ic, 3)) (d10 : decode cc (pc + 10) = .ok (.athrow, 1))
    (hout : ∀ x ∈ c.exceptionTable.toList, covers x (pc + 10) = false)
    (hRframes : names.length + 3 < R.frames) (hRlocals : (rest.map fun v => v.category).sum + (13 * (names.length + 1) + 43) ≤ R.locals) (hRcells : cells + 1 ≤ R.cells) (hRslots : slots + 6 ≤ R.slots) (hlocks : meth.locks = false)
    (hx : ∀ t : State, s.vm.Alike t.vm → H.size ≤ t.heap.size → (∀ q : Nat, q < H.size → t.heap[q]? = H[q]?) → XC cls s t)
    (hf : ∀ z ∈ locs, free z.base) (hc : cells + 1 ≤ mc) (hs : slots + 6 ≤ ms) :
    W p l e R s m args below meth c H locs cells slots (vx_MQ below Qc XC args s mc ms free) (F0 m pc ls rest) := by
  intro T hT X
  have htr : e.platform.stackTraces = false := (show e.platform.stackTraces = l.stackTraces by rw [X.admits.platform]).trans hl
  have Y := vx_rebase X (R' := { frames := R.frames, locals := R.locals, cells := 1, slots := 6 }) (Nat.le_refl _) (Nat.le_refl _) hRcells hRslots
  obtain ⟨s', hA⟩ : ∃ z, z = (T.setVm s.vm).setFrames (.invoking m args :: below) := ⟨_, rfl⟩
  rw [← hA] at Y
  have hvm : s'.vm = s.vm := by rw [hA]; rfl
  have hhp : s'.heap = H := by rw [hA]; exact hT
  have hW0 : s.WarmedH s'.vm := by rw [hvm]; exact State.WarmedH.refl s
  have hat' : ∀ w ∈ vx_atS own ic cls names, w.before args s' = true := fun w hw => vx_ot_at hW0 hvm.symm (hgood w (List.mem_cons_of_mem _ (List.mem_cons_of_mem _ hw))) (hat w hw)
  have hk' : (Cond.classLink own ik cls).before args s' = true := vx_ot_at hW0 hvm.symm (hgood _ List.mem_cons_self) hk
  have hini' : (Cond.initialized cls).before args s' = true := vx_ot_at hW0 hvm.symm (hgood _ (List.mem_cons_of_mem _ List.mem_cons_self)) hini
  have hU' : vx_Zq Bundle.tN "UNASSIGNED_STACK" Bundle.steD A s' s'.heap := by rw [hhp]; exact vx_Zq.moved hW0.alike (hU.kept hS.2.1)
  have hN' : vx_Zq Bundle.tN "SUPPRESSED_SENTINEL" Bundle.listD A s' s'.heap := by rw [hhp]; exact vx_Zq.moved hW0.alike (hN.kept hS.2.1)
  have h : ∀ w ∈ Bundle.ownAtoms own ic cls names, w.before args s' = true := vx_own hat' (vx_isRefq hU'.1) (vx_isRefq hN'.1) hU'.2.word hN'.2.word
  have hown' : s'.vm.findClass own = some m.cls := by rw [hvm]; exact hown
  have hins : (Cond.instantiable cls 6).before args s' = true := h _ (by simp [Bundle.ownAtoms])
  obtain ⟨vm₁, cX, kX, hfX, hkX, -, -, X₁, st1⟩ := Y.newCold hexec (own := own) (C := cls) (index := ik) (n := 6) hown' hk' hins hini'
    (g := F0 m pc ls rest) rfl (by rw [hb]; exact d0) (Nat.le_refl _) (Nat.le_refl _)
  generalize hT1 : (T.setVm vm₁).pushCell { cls := cX, slots := kX.instanceTypes.map defaultValue, vm := .none } = T1 at X₁ st1
  have hcat : (Value.ref T.heap.size).category = 1 := rfl
  have hcellA : T1.heap[T.heap.size]? = some (freshCell cX kX) := by rw [← hT1]; exact State.heap_pushCell_size _ _
  have d3' : decode c.code (pc + 3) = .ok (.dup, 1) := by rw [hb]; exact d3
  have d4' : decode c.code (pc + 4) = .ok (.ldc_w is, 3) := by rw [hb]; exact d4
  have hstr' : vk_R own is text sa s' := vk_R.warm hW0 hstr
  obtain ⟨U, hsteps, hrun, hend, hW, hsame, ce, hce, hO⟩ := X₁.ctorThrowS hexec htr (own := own) (cls := cls) (names := names) (ic := ic) hown' hcls hnames h (fun x hx => nomatch hx) hfX hkX hcellA (by rw [hhp, hT]; exact Nat.le_refl _) (msg := .ref sa) rfl
    (g := { method := m, pc := pc + 7, locals := ls, stack := .ref sa :: .ref T.heap.size :: .ref T.heap.size :: rest, locked := none }) rfl hsize rfl rfl (rest := rest) rfl
    (by rw [hb]; exact d7) (by rw [hb]; exact d10) hout hRframes (by simp only [List.map_cons, List.sum_cons, hcat]; omega) hlocks
  obtain ⟨f1, f2⟩ := vx_frame hsame
  rw [hhp] at f1 f2
  have hWs : s.WarmedH U.vm := State.WarmedH.trans hW0 hW
  have hcl : s.vm.findClass cls = some ce.cls := by
    have h9 := hO.cls
    rw [hvm] at h9
    exact h9
  have hall : s.sameButNew ({ U with vm := s.vm } : State) locs mc ms := by
    subst hA
    obtain ⟨e1, e2⟩ := hsame
    rw [State.setFrames_setFrames] at e1
    have h2 : (T.setVm s.vm).sameButNew ({ U with vm := s.vm } : State) [] (0 + 1) (0 + 6) := ⟨e1, e2⟩
    have h3 := X.same.trans h2
    rw [List.append_nil] at h3
    exact h3.mono hc hs
  refine ⟨U, ?_, .threw T.heap.size, hrun, hend, Or.inr ⟨T.heap.size, rfl, cls, ce, locs, hx U hWs.alike f1 (fun q hq => f2 q hq (fun z hz => nomatch hz)), hce, hO.vm, hcl, hWs, hall, hf⟩⟩
  refine st1 _ ?_
  show Steps p.tables e below (T1.setTop { method := m, pc := pc + 3, locals := ls, stack := .ref T.heap.size :: rest, locked := none }) _
  jvm_step X₁.here [X₁.here.top, hexec, d3', Value.category]
  exact X₁.ldcStringW hexec (own := own) (text := text) (index := is) (a := sa) hown' hstr'.1 hstr'.2
    (g := { method := m, pc := pc + 4, locals := ls, stack := .ref T.heap.size :: .ref T.heap.size :: rest, locked := none }) rfl d4' _ hsteps
end Ends
section Bodies
variable {l : Launch}
theorem vx_ofW {y : MethodName} {ws ws' : List Cond} {rm : Room} {Pc : Array Value → State → Prop} {Qc : Array Value → State → Outcome → State → Prop} {XC : String → State → State → Prop} {mc ms : Nat} {free : Addr → Prop} {cc : ByteArray} {maxL : Nat} {ret : Option FieldType}
    (hy : plainName y.cls = true) (hw : ws = Cond.code y cc maxL ret :: ws')
    (body : ∀ p e s m args below meth c s₁, BodyLoose p l y (headSpec ws rm) cc maxL ret e s m args below meth c s₁ → c.maxLocals = maxL → (∀ x ∈ c.exceptionTable.toList, False) → Pc args s →
      W p l e (headSpec ws rm).room s m args below meth c s.heap [] 0 0 (vx_MQ below Qc XC args s mc ms free) (entryFrame m args maxL)) : vx_Met l y ws rm Pc Qc XC mc ms free := by
  refine MetFree.of_bodyS (code := cc) (maxLocals := maxL) (ret := ret) hy ?_ ?_
  · intro args s m h hn
    obtain ⟨meth, c, h1, h2, h3, h4, h5, h6, -, -⟩ := Cond.code_spec hn (atoms_spec (ws := ws) h _ (by rw [hw]; exact List.mem_cons_self))
    exact ⟨meth, c, h1, h2, h3, h4, h5, h6⟩
  · intro p e s m args below meth c s₁ B hml hP _
    have hh0 : s₁.heap = s.heap := by rw [B.state]; rfl
    have ht : ∀ x ∈ c.exceptionTable.toList, False := by
      obtain ⟨meth9, c9, h1, h2, -, -, -, -, h7, -⟩ := Cond.code_spec B.named (atoms_spec (ws := ws) B.pre _ (by rw [hw]; exact List.mem_cons_self))
      cases Option.some.inj (h1.symm.trans B.method)
      cases Option.some.inj (h2.symm.trans (Stand.of_body B).code)
      intro x hx
      rw [Array.isEmpty_iff.mp h7] at hx
      cases hx
    obtain ⟨t, a1, o, b1, b2, b3⟩ := body p e s m args below meth c s₁ B hml ht hP s₁ hh0 (Stand.of_body B)
    exact ⟨t, o, a1, b1, b2, b3⟩
/-- the table of a body with handlers -/
theorem vx_table {p : Program} {x y : MethodName} {S : Spec} {cc bytes : ByteArray} {maxL maxL' : Nat} {ret ret' : Option FieldType} {e : Env} {s s₁ : State} {m : MethodId} {args : Array Value} {below : List Frame} {meth : Method} {c : Code} {hh : List (Nat × Nat × Nat × Nat)}
    (B : BodyLoose p l y S cc maxL ret e s m args below meth c s₁) (h : (Cond.codeWith y bytes maxL' ret' hh).before args s = true) : c.exceptionTable.toList = tableOf hh := by
  obtain ⟨m9, meth9, c9, hn9, h1, h2, -, -, h6, -⟩ := Cond.codeWith_spec h
  cases Option.some.inj (hn9.symm.trans B.named)
  cases Option.some.inj (h1.symm.trans B.method)
  cases Option.some.inj (h2.symm.trans (Stand.of_body B).code)
  rw [← h6, table_eq]
end Bodies
end VXA
/-! ===== END ===== -/
/-! ===== BEGIN a static call of a method with an exception table ===== -/
section VXS
variable {p : Program} {l : Launch} {e : Env} {R : Room} {s : State} {m : MethodId} {args : Array Value} {below : List Frame} {meth : Method} {c : Code} {T : State} {H : Heap} {locs : List Loc} {cells slots : Nat}
abbrev vx_CSW (R : Room) (s : State) (args : Array Value) (own : String) (index : Nat) (y : MethodName) (bytes : ByteArray) (maxL : Nat) (ret : Option FieldType) (hh : List (Nat × Nat × Nat × Nat)) (ws : List Cond) (rm : Room) (mc ms n : Nat) : Prop :=
  (rm.cells = mc ∧ rm.slots = ms ∧ rm.frames + 1 ≤ R.frames ∧ 8 + (maxL + 11) + rm.locals ≤ R.locals ∧ (∀ w ∈ ws, ∀ (a' : Array Value) (U : State), s.WarmedH U.vm → w.before a' U = true) ∧ Cond.codeWith y bytes maxL ret hh ∈ ws) ∧
  (Cond.codeWith y bytes maxL ret hh).before args s = true ∧ (Cond.initialized y.cls).before args s = true ∧ (y.cls ≠ "java/lang/invoke/MethodHandle" ∧ y.cls ≠ "java/lang/invoke/VarHandle") ∧
  (∀ sig, parseMethodDescriptor y.desc = some sig → n = sig.parameters.length) ∧ (Cond.methodLink own index y).before args s = true ∧ (Cond.static y).before args s = true
theorem vx_cwSW {own : String} {index maxL mc ms : Nat} {y : MethodName} {bytes : ByteArray} {ret : Option FieldType} {hh : List (Nat × Nat × Nat × Nat)} {Ts ws ws' : List Cond} {rm : Room} (n : Nat) (ht : ∀ w ∈ Ts, w.before args s = true) (hT : GoodIn Ts (va_wsS own index y ws)) (hw : ws = Cond.codeWith y bytes maxL ret hh :: ws') (hrc : rm.cells = mc) (hrs : rm.slots = ms)
    (hd : y.cls ≠ "java/lang/invoke/MethodHandle" ∧ y.cls ≠ "java/lang/invoke/VarHandle" ∧ (parseMethodDescriptor y.desc).map (fun d => d.parameters.length) = some n) (hR : rm.frames + 1 ≤ R.frames ∧ 8 + (maxL + 11) + rm.locals ≤ R.locals) :
    vx_CSW R s args own index y bytes maxL ret hh ws rm mc ms n := by
  have ok : ∀ w ∈ va_wsS own index y ws, w.before args s = true := fun w h => ht w (hT w h).1
  have hG : GoodIn Ts ws := fun w h => hT w (by unfold va_wsS; exact List.mem_append_right _ h)
  have hc : Cond.codeWith y bytes maxL ret hh ∈ ws := by rw [hw]; exact List.mem_cons_self
  refine ⟨⟨hrc, hrs, hR.1, hR.2, pay_in ht hG, hc⟩, ht _ (hG _ hc).1, ok _ (by simp [va_wsS]), ⟨hd.1, hd.2.1⟩, fun sig h => ?_, ok _ (by simp [va_wsS]), ok _ (by simp [va_wsS])⟩
  have h2 := hd.2.2
  rw [h] at h2
  exact (Option.some.inj h2).symm
theorem vx_callSW (X : Stand p l e R s m args below meth c T locs cells slots) (hexec : p.tables.exec = Jvm.exec) {own : String} {index : Nat} {y : MethodName} {bytes : ByteArray} {maxL : Nat} {ret : Option FieldType} {hh : List (Nat × Nat × Nat × Nat)}
    (hown : s.vm.findClass own = some m.cls) (hlink : (Cond.methodLink own index y).before args s = true) (hstat : (Cond.static y).before args s = true) (hinit : (Cond.initialized y.cls).before args s = true)
    (hcode : (Cond.codeWith y bytes maxL ret hh).before args s = true) (hy : y.cls ≠ "java/lang/invoke/MethodHandle" ∧ y.cls ≠ "java/lang/invoke/VarHandle")
    {W9 : Nat} {Pre : Pt → Array Value → Prop} {Post : Pt → Array Value → Option Value → Pt → Prop} (hK : Back l R p e below s args y 3 W9 Pre Post)
    {g : JFrame} (hg : g.method = m) (hsize : g.locals.size = c.maxLocals) {argsL rest : List Value} (hlen : ∀ sig, parseMethodDescriptor y.desc = some sig → argsL.length = sig.parameters.length)
    (hstack : g.stack = argsL.reverse ++ rest) (hW : 2 * g.monitorRoom + (rest.map fun v => v.category).sum ≤ W9) (hdg : decode c.code g.pc = .ok (.invokestatic index, 3))
    (hpre : ∀ vm₁, s.WarmedH vm₁ → Pre ⟨T.setVm vm₁, locs, cells, slots⟩ argsL.toArray) :
    ∃ (v : Option Value) (vm₁ : Vm) (B : Pt), s.WarmedH vm₁ ∧ Stand p l e R s m args below meth c B.U B.locs B.cells B.slots ∧ Post ⟨T.setVm vm₁, locs, cells, slots⟩ argsL.toArray v B ∧
      ∀ target, Steps p.tables e below (B.U.setTop { g with pc := g.pc + 3, stack := v.toList ++ rest }) target → Steps p.tables e below (T.setTop g) target := by
  obtain ⟨mk, methM, cM, hnamed, hmethM, -, -, -, -, -, -, hsigM⟩ := Cond.codeWith_spec hcode
  have hstatic : methM.isStatic = true := Cond.static_spec hnamed hmethM hstat
  obtain ⟨kP, hkP, -⟩ := className_of_methodNamed hnamed
  have hinitP : kP.init = .initialized := Cond.initialized_spec (findClass_of_methodNamed hnamed) hkP hinit
  obtain ⟨vm₁, X₁, hstep₁⟩ := X.invokestatic hexec hown hlink hnamed hmethM hstatic hkP hinitP hy (g := g) hg (argsL := argsL) (rest := rest) (hlen _ hsigM) hstack hdg
  obtain ⟨v, B, X', hpost, hsteps⟩ := hK m meth c ⟨T.setVm vm₁, locs, cells, slots⟩ { g with stack := rest } (.invokestatic index) mk argsL.toArray X₁ hg hsize hdg hW (X₁.named hnamed) (hpre vm₁ X₁.warmed)
  exact ⟨v, vm₁, B, X₁.warmed, X', hpost, fun target h => hstep₁ _ fun acts => by rw [doInvoke_state]; exact hsteps.trans h⟩
theorem vx_runSW {y : MethodName} {bytes cc : ByteArray} {maxL nL mc ms n index : Nat} {ret : Option FieldType} {hh : List (Nat × Nat × Nat × Nat)} {ws : List Cond} {rm : Room} {Pc : Array Value → State → Prop} {Qc : Array Value → State → Outcome → State → Prop} {free : Addr → Prop} {Ts : List Cond} {own : String} {As rest : List Value} {g : JFrame}
    (S : CallFix p m c cc nL s args Ts own) (hM : Met l y ws rm Pc Qc mc ms free) (cw : vx_CSW R s args own index y bytes maxL ret hh ws rm mc ms n) (hp : PreS s H Pc As)
    (hg : g.method = m) (hn : As.length = n) (hsize : g.locals.size = nL) (hstack : g.stack = As.reverse ++ rest) (hW : 2 * g.monitorRoom + (rest.map fun v => v.category).sum ≤ 8) (hdg : decode cc g.pc = .ok (.invokestatic index, 3)) (hf : cells + mc ≤ R.cells ∧ slots + ms ≤ R.slots) :
    va_Run p l e R s m args below meth c H locs cells slots mc ms g rest (Qc As.toArray) (free) := by
  obtain ⟨⟨hrc, hrs, hfr, hlo, hws, hcw⟩, hcode, hini, hy, hlen, hl, hstt⟩ := cw
  have hK : Back l R p e below s args y 3 8 (PreOf R mc ms Pc) (PostOf Qc mc ms free) := va_backW (hh := hh) (bytes := bytes) (maxL := maxL) (ret := ret) hM hp.1 hrc hrs hfr hlo hws hcw (fun a' U hW => word_at hW (Or.inl (by first | rfl | simp [Cond.onTables, Cond.keeps, Cond.steady])) hini)
  obtain ⟨hx, hb, hml, ho, -⟩ := S
  intro T hT X
  obtain ⟨v, vm₁, ⟨U', l2, c2, s2⟩, hW₁, X', ⟨g', mk, t, L, e1, e2, hq, h1, hL, h2, h3⟩, st⟩ := vx_callSW X hx (hh := hh) (bytes := bytes) (maxL := maxL) (ret := ret) ho hl hstt hini hcode hy hK hg (hsize.trans hml.symm) (argsL := As) (rest := rest) (fun sig h => hn.trans (hlen sig h)) hstack hW (by rw [hb]; exact hdg)
    (fun vm₁ hW₁ => ⟨hf.1, hf.2, hp.2 (T.setVm vm₁) hT hW₁⟩)
  dsimp only [Pt.U, Pt.locs, Pt.cells, Pt.slots] at X' e1 e2 h1 h2 h3 st
  subst h1; subst h2; subst h3
  exact ⟨v, (T.setVm vm₁).calling g' mk As.toArray, t, U', L, hT, X', hL, e1, e2, hq, st⟩
/-- a thing of a world lies in the heap -/
theorem vx_lt {D : va_G} {cl : List vw_C} {ws : va_W} {H1 : Heap} (h : va_P D cl ws H1) {k : Nat} {q : Nat × va_E} (hk : ws[k]? = some q) : q.1 < H1.size := (h k q hk).lt
end VXS
/-! ===== END ===== -/
/-! ===== BEGIN methods with a table of their own: called by a name, returning or throwing ===== -/
section VXH
/-! vx_backW, vx_callVX, vx_callSX, vx_callVW, vx_runVW, vx_runVX, vx_runSX, vx_ofWH follow the same proofs as their sisters above (Free/Laws.lean, Shelf42/LK1.lean); vx_outP calls Shelf42/NT130.lean (outThrough). -/
section
variable {l : Launch} {R : Room} {p : Program} {e : Env} {below : List Frame} {s : State} {sargs : Array Value} {y : MethodName} {len W9 : Nat}
theorem vx_backW {ws : List Cond} {rm : Room} {Pc : Array Value → State → Prop} {Qc : Array Value → State → Outcome → State → Prop} {XC : String → State → State → Prop} {mc ms : Nat} {free : Addr → Prop} {bytes : ByteArray} {maxL : Nat} {ret : Option FieldType} {hh : List (Nat × Nat × Nat × Nat)}
    (hM : vx_Met l y ws rm Pc Qc XC mc ms free) (hblind : FrameBlind Pc) (hrc : rm.cells = mc) (hrs : rm.slots = ms)
    (hframes : rm.frames + 1 ≤ R.frames) (hlocals : W9 + (maxL + 11) + rm.locals ≤ R.locals)
    (hws : ∀ w ∈ ws, ∀ a' U, s.WarmedH U.vm → w.before a' U = true) (hcode : Cond.codeWith y bytes maxL ret hh ∈ ws) (hinit : ∀ a' U, s.WarmedH U.vm → (Cond.initialized y.cls).before a' U = true) :
    vx_Back l R p e below s sargs y len W9 (PreOf R mc ms Pc) (PostOf Qc mc ms free) (vx_Post XC mc ms free) := by
  intro m meth c A g ig mk a X hg hsize hdg hW hn hp
  have h1 : (headSpec ws rm).pre.before a A.U = true := atoms_intro fun w hw => hws w hw _ _ X.warmed
  have h2 : (Cond.codeWith y bytes maxL ret hh).before a A.U = true := hws _ hcode _ _ X.warmed
  have h3 : (Cond.initialized y.cls).before a A.U = true := hinit _ _ X.warmed
  have h4 : A.cells + (headSpec ws rm).room.cells ≤ R.cells := by rw [show (headSpec ws rm).room.cells = mc from hrc]; exact hp.1
  have h5 : A.slots + (headSpec ws rm).room.slots ≤ R.slots := by rw [show (headSpec ws rm).room.slots = ms from hrs]; exact hp.2.1
  have hPc : Pc a (A.U.calling g mk a) := hblind _ _ _ _ hp.2.2
  obtain ⟨U, Ls, c0, s0⟩ := A
  dsimp only [Pt.U, Pt.locs, Pt.cells, Pt.slots] at h1 h2 h3 h4 h5 X hn hPc ⊢
  obtain ⟨m9, methY, cY, hn9, hmY, hcY, -, hlY, -⟩ := Cond.codeWith_spec h2
  cases Option.some.inj (hn9.symm.trans hn)
  obtain ⟨kY, hkY, -⟩ := className_of_methodNamed hn
  have hinitY : kY.init = .initialized := Cond.initialized_spec (findClass_of_methodNamed hn) hkY h3
  have h : At U g.method c below := by rw [hg]; exact X.here
  have hlocals9 : W9 + (maxL + 11) + (headSpec ws rm).room.locals ≤ R.locals := hlocals
  have happ : (headSpec ws rm).appliesLoose y e.platform (U.calling g mk a) = true :=
    Spec.appliesLoose_calling (g := g) h hdg hn hkY hinitY
      (X.room_calling (g := g) (R' := (headSpec ws rm).room) hsize hmY hcY hframes (by rw [hlY]; omega) h4 h5) h1
  obtain ⟨mid, hmid⟩ := h.above
  have hfr : (U.setTop g).frames = (.java g :: mid) ++ below := by rw [State.frames_setTop' g h.top, hmid]; rfl
  obtain ⟨o, s₂, hsteps, -, hend, hq⟩ := Steps.callFree hM p X.admits X.cas X.clock (acts := []) hfr happ hPc trivial
  have hq' : vx_Q Qc XC mc ms free a (U.calling g mk a) o s₂ := hq
  rw [State.frames_setTop' g h.top] at hend
  obtain ⟨g₀, hg0⟩ := Option.isSome_iff_exists.mp h.top
  obtain ⟨r, hr⟩ := State.topJava?_eq_some.mp hg0
  have hr' : (({ U with heap := s₂.heap, slotsUsed := s₂.slotsUsed } : State).setVm s₂.vm).frames = .java g₀ :: r := hr
  rcases hq' with ⟨hqc, L, hfe, hL⟩ | ⟨q, rfl, E, ce, L, hx, hce, hcv, hcl, hW₂, hsm, hL⟩
  · obtain ⟨⟨v, rfl⟩, hW₂, e2, q2, q3, q4, q5, q6⟩ := id hfe
    have e3 : s₂ = ({ (U.calling g mk a).setFrames s₂.frames with heap := s₂.heap, slotsUsed := s₂.slotsUsed } : State).setVm s₂.vm := by
      have : s₂ = ({ s₂ with vm := (U.calling g mk a).vm } : State).setVm s₂.vm := rfl
      rw [e2] at this
      exact this
    obtain ⟨c₂, i₂, len₂, hc₂, hd₂, hf₂⟩ := hend
    have hW' : U.WarmedH s₂.vm := hW₂
    have hcc : c₂ = c := by
      have h1 : s₂.code? g.method = U.code? g.method := by
        rw [State.code?_eq, State.code?_eq, hW'.alike.method?]
      exact Option.some.inj (hc₂.symm.trans (h1.trans h.code))
    subst hcc
    have hlen : len₂ = len := by rw [hdg] at hd₂; cases hd₂; rfl
    subst hlen
    have hs₂ : s₂ = (({ U with heap := s₂.heap, slotsUsed := s₂.slotsUsed } : State).setVm s₂.vm).setTop { g with pc := g.pc + len₂, stack := v.toList ++ g.stack } := by
      refine e3.trans ?_
      rw [hf₂, State.calling_eq h.top, State.setFrames_setFrames, State.setTop_of_frames _ hr', hr]
      rfl
    have hsame : U.sameButNew ({ U with heap := s₂.heap, slotsUsed := s₂.slotsUsed } : State) L mc ms := by
      refine ⟨?_, q2, q3, q4, q5, q6⟩
      obtain ⟨t, ht, -⟩ := State.frames_cons hr
      show ({ U with heap := s₂.heap, slotsUsed := s₂.slotsUsed } : State) = { U.setFrames U.frames with heap := s₂.heap, slotsUsed := s₂.slotsUsed }
      rw [State.setFrames_self ht]
    subst hg
    refine Or.inl ⟨v, ⟨(({ U with heap := s₂.heap, slotsUsed := s₂.slotsUsed } : State).setVm s₂.vm), Ls ++ L, c0 + mc, s0 + ms⟩,
      ⟨X.admits, X.cas, X.clock, X.frames, X.room, X.hears, X.method, X.code, (X.here.setHeapUsed s₂.heap s₂.slotsUsed).setVm hW'.alike, X.tail, State.WarmedH.trans X.warmed hW', X.limits, X.bytes, X.same.trans (hsame.setVm s.vm)⟩,
      ⟨g, mk, s₂, L, rfl, rfl, hqc, rfl, hL, rfl, rfl⟩, ?_⟩
    show Steps p.tables e below _ ((({ U with heap := s₂.heap, slotsUsed := s₂.slotsUsed } : State).setVm s₂.vm).setTop { g with pc := g.pc + len₂, stack := v.toList ++ g.stack })
    rw [← hs₂]
    exact hsteps
  · obtain ⟨e2, q2, q3, q4, q5, q6⟩ := id hsm
    have e3 : s₂ = ({ (U.calling g mk a).setFrames s₂.frames with heap := s₂.heap, slotsUsed := s₂.slotsUsed } : State).setVm s₂.vm := by
      have : s₂ = ({ s₂ with vm := (U.calling g mk a).vm } : State).setVm s₂.vm := rfl
      rw [e2] at this
      exact this
    have hf₂ : s₂.frames = .throwing q :: .java g :: U.frames.tail := hend
    have hW' : U.WarmedH s₂.vm := hW₂
    have hs₂ : s₂ = ((({ U with heap := s₂.heap, slotsUsed := s₂.slotsUsed } : State).setVm s₂.vm).setTop g).pushFrame (.throwing q) := by
      refine e3.trans ?_
      rw [hf₂, State.calling_eq h.top, State.setFrames_setFrames, State.pushFrame, State.frames_setTop _ hr', State.setTop_of_frames _ hr', State.setFrames_setFrames, hr]
      rfl
    have hsame : U.sameButNew ({ U with heap := s₂.heap, slotsUsed := s₂.slotsUsed } : State) L mc ms := by
      refine ⟨?_, q2, q3, q4, q5, q6⟩
      obtain ⟨t, ht, -⟩ := State.frames_cons hr
      show ({ U with heap := s₂.heap, slotsUsed := s₂.slotsUsed } : State) = { U.setFrames U.frames with heap := s₂.heap, slotsUsed := s₂.slotsUsed }
      rw [State.setFrames_self ht]
    subst hg
    refine Or.inr ⟨q, ⟨(({ U with heap := s₂.heap, slotsUsed := s₂.slotsUsed } : State).setVm s₂.vm), Ls ++ L, c0 + mc, s0 + ms⟩,
      ⟨X.admits, X.cas, X.clock, X.frames, X.room, X.hears, X.method, X.code, (X.here.setHeapUsed s₂.heap s₂.slotsUsed).setVm hW'.alike, X.tail, State.WarmedH.trans X.warmed hW', X.limits, X.bytes, X.same.trans (hsame.setVm s.vm)⟩,
      ⟨g, mk, s₂, L, E, ce, rfl, rfl, hx, hce, hcv, hcl, rfl, hL, rfl, rfl⟩, ?_⟩
    show Steps p.tables e below _ (((({ U with heap := s₂.heap, slotsUsed := s₂.slotsUsed } : State).setVm s₂.vm).setTop g).pushFrame (.throwing q))
    rw [← hs₂]
    exact hsteps
end
variable {p : Program} {l : Launch} {e : Env} {R : Room} {s : State} {m : MethodId} {args : Array Value} {below : List Frame} {meth : Method} {c : Code} {T : State} {H : Heap} {locs : List Loc} {cells slots : Nat}
theorem vx_callVX (X : Stand p l e R s m args below meth c T locs cells slots) (hexec : p.tables.exec = Jvm.exec) {own C : String} {index : Nat} {y : MethodName} {bytes : ByteArray} {maxL : Nat} {ret : Option FieldType} {hh : List (Nat × Nat × Nat × Nat)}
    (hown : s.vm.findClass own = some m.cls) (hlink : (Cond.methodLink own index y).before args s = true) (hinst : (Cond.instanceMethod y).before args s = true) (hsel : (Cond.selects C y y).before args s = true)
    (hcode : (Cond.codeWith y bytes maxL ret hh).before args s = true) (hy : y.cls ≠ "java/lang/invoke/MethodHandle" ∧ y.cls ≠ "java/lang/invoke/VarHandle")
    {W9 : Nat} {Pre : Pt → Array Value → Prop} {Post : Pt → Array Value → Option Value → Pt → Prop} {PostX : Pt → Array Value → Addr → Pt → Prop} (hK : vx_Back l R p e below s args y 3 W9 Pre Post PostX)
    {b : Addr} {cellB : Cell} (hcell : T.heap[b]? = some cellB) (hobj : cellB.vm.isStatics = false) (hcls : s.vm.findClass C = some cellB.cls)
    {g : JFrame} (hg : g.method = m) (hsize : g.locals.size = c.maxLocals) {argsL rest : List Value} (hlen : ∀ sig, parseMethodDescriptor y.desc = some sig → argsL.length = sig.parameters.length)
    (hstack : g.stack = argsL.reverse ++ .ref b :: rest) (hW : 2 * g.monitorRoom + (rest.map fun v => v.category).sum ≤ W9) (hdg : decode c.code g.pc = .ok (.invokevirtual index, 3))
    (hpre : ∀ vm₁, s.WarmedH vm₁ → Pre ⟨T.setVm vm₁, locs, cells, slots⟩ (Value.ref b :: argsL).toArray) :
    (∃ (v : Option Value) (vm₁ : Vm) (B : Pt), s.WarmedH vm₁ ∧ Stand p l e R s m args below meth c B.U B.locs B.cells B.slots ∧ Post ⟨T.setVm vm₁, locs, cells, slots⟩ (Value.ref b :: argsL).toArray v B ∧
      ∀ target, Steps p.tables e below (B.U.setTop { g with pc := g.pc + 3, stack := v.toList ++ rest }) target → Steps p.tables e below (T.setTop g) target) ∨
    (∃ (q : Addr) (vm₁ : Vm) (B : Pt), s.WarmedH vm₁ ∧ Stand p l e R s m args below meth c B.U B.locs B.cells B.slots ∧ PostX ⟨T.setVm vm₁, locs, cells, slots⟩ (Value.ref b :: argsL).toArray q B ∧
      Steps p.tables e below (T.setTop g) ((B.U.setTop { g with stack := rest }).pushFrame (.throwing q))) := by
  obtain ⟨mk, methM, hnamed, hmethM, hstM, habM⟩ := Cond.instanceMethod_spec hinst
  obtain ⟨m8, methM', cM, hn8, hmethM', -, -, -, -, -, -, hsigM⟩ := Cond.codeWith_spec hcode
  cases Option.some.inj (hn8.symm.trans hnamed)
  cases hmethM.symm.trans hmethM'
  obtain ⟨c2, r2, m2, q1, q2, q3, q4, kP, hkP, hkPi⟩ := Cond.selects_spec hsel
  cases hcls.symm.trans q1
  cases (State.methodFound?_of_named hnamed hy).symm.trans q2
  cases hnamed.symm.trans q3
  have hselP : selectMethod e.platform s.vm cellB.cls mk = .method mk := by rw [Launch.admits_selectMethod X.admits]; exact q4
  obtain ⟨vm₁, X₁, hstep₁⟩ := X.invokevirtual hexec hown hlink hnamed hmethM hstM hkP hkPi hy (a := b) (cell := cellB) hcell
    (fun z h => by rw [h] at hobj; cases hobj) hselP hmethM habM hkP hkPi (g := g) hg (argsL := argsL) (rest := rest) (hlen _ hsigM) hstack hdg
  rcases hK m meth c ⟨T.setVm vm₁, locs, cells, slots⟩ { g with stack := rest } (.invokevirtual index) mk (Value.ref b :: argsL).toArray X₁ hg hsize hdg hW (X₁.named hnamed) (hpre vm₁ X₁.warmed) with ⟨v, B, X', hpost, hsteps⟩ | ⟨q, B, X', hpost, hsteps⟩
  · exact Or.inl ⟨v, vm₁, B, X₁.warmed, X', hpost, fun target h => hstep₁ _ fun acts => by rw [doInvoke_state]; exact hsteps.trans h⟩
  · exact Or.inr ⟨q, vm₁, B, X₁.warmed, X', hpost, hstep₁ _ fun acts => by rw [doInvoke_state]; exact hsteps⟩
theorem vx_callSX (X : Stand p l e R s m args below meth c T locs cells slots) (hexec : p.tables.exec = Jvm.exec) {own : String} {index : Nat} {y : MethodName} {bytes : ByteArray} {maxL : Nat} {ret : Option FieldType} {hh : List (Nat × Nat × Nat × Nat)}
    (hown : s.vm.findClass own = some m.cls) (hlink : (Cond.methodLink own index y).before args s = true) (hstat : (Cond.static y).before args s = true) (hinit : (Cond.initialized y.cls).before args s = true)
    (hcode : (Cond.codeWith y bytes maxL ret hh).before args s = true) (hy : y.cls ≠ "java/lang/invoke/MethodHandle" ∧ y.cls ≠ "java/lang/invoke/VarHandle")
    {W9 : Nat} {Pre : Pt → Array Value → Prop} {Post : Pt → Array Value → Option Value → Pt → Prop} {PostX : Pt → Array Value → Addr → Pt → Prop} (hK : vx_Back l R p e below s args y 3 W9 Pre Post PostX)
    {g : JFrame} (hg : g.method = m) (hsize : g.locals.size = c.maxLocals) {argsL rest : List Value} (hlen : ∀ sig, parseMethodDescriptor y.desc = some sig → argsL.length = sig.parameters.length)
    (hstack : g.stack = argsL.reverse ++ rest) (hW : 2 * g.monitorRoom + (rest.map fun v => v.category).sum ≤ W9) (hdg : decode c.code g.pc = .ok (.invokestatic index, 3))
    (hpre : ∀ vm₁, s.WarmedH vm₁ → Pre ⟨T.setVm vm₁, locs, cells, slots⟩ argsL.toArray) :
    (∃ (v : Option Value) (vm₁ : Vm) (B : Pt), s.WarmedH vm₁ ∧ Stand p l e R s m args below meth c B.U B.locs B.cells B.slots ∧ Post ⟨T.setVm vm₁, locs, cells, slots⟩ argsL.toArray v B ∧
      ∀ target, Steps p.tables e below (B.U.setTop { g with pc := g.pc + 3, stack := v.toList ++ rest }) target → Steps p.tables e below (T.setTop g) target) ∨
    (∃ (q : Addr) (vm₁ : Vm) (B : Pt), s.WarmedH vm₁ ∧ Stand p l e R s m args below meth c B.U B.locs B.cells B.slots ∧ PostX ⟨T.setVm vm₁, locs, cells, slots⟩ argsL.toArray q B ∧
      Steps p.tables e below (T.setTop g) ((B.U.setTop { g with stack := rest }).pushFrame (.throwing q))) := by
  obtain ⟨mk, methM, cM, hnamed, hmethM, -, -, -, -, -, -, hsigM⟩ := Cond.codeWith_spec hcode
  have hstatic : methM.isStatic = true := Cond.static_spec hnamed hmethM hstat
  obtain ⟨kP, hkP, -⟩ := className_of_methodNamed hnamed
  have hinitP : kP.init = .initialized := Cond.initialized_spec (findClass_of_methodNamed hnamed) hkP hinit
  obtain ⟨vm₁, X₁, hstep₁⟩ := X.invokestatic hexec hown hlink hnamed hmethM hstatic hkP hinitP hy (g := g) hg (argsL := argsL) (rest := rest) (hlen _ hsigM) hstack hdg
  rcases hK m meth c ⟨T.setVm vm₁, locs, cells, slots⟩ { g with stack := rest } (.invokestatic index) mk argsL.toArray X₁ hg hsize hdg hW (X₁.named hnamed) (hpre vm₁ X₁.warmed) with ⟨v, B, X', hpost, hsteps⟩ | ⟨q, B, X', hpost, hsteps⟩
  · exact Or.inl ⟨v, vm₁, B, X₁.warmed, X', hpost, fun target h => hstep₁ _ fun acts => by rw [doInvoke_state]; exact hsteps.trans h⟩
  · exact Or.inr ⟨q, vm₁, B, X₁.warmed, X', hpost, hstep₁ _ fun acts => by rw [doInvoke_state]; exact hsteps⟩
theorem vx_callVW (X : Stand p l e R s m args below meth c T locs cells slots) (hexec : p.tables.exec = Jvm.exec) {own C : String} {index : Nat} {y : MethodName} {bytes : ByteArray} {maxL : Nat} {ret : Option FieldType} {hh : List (Nat × Nat × Nat × Nat)}
    (hown : s.vm.findClass own = some m.cls) (hlink : (Cond.methodLink own index y).before args s = true) (hinst : (Cond.instanceMethod y).before args s = true) (hsel : (Cond.selects C y y).before args s = true)
    (hcode : (Cond.codeWith y bytes maxL ret hh).before args s = true) (hy : y.cls ≠ "java/lang/invoke/MethodHandle" ∧ y.cls ≠ "java/lang/invoke/VarHandle")
    {W9 : Nat} {Pre : Pt → Array Value → Prop} {Post : Pt → Array Value → Option Value → Pt → Prop} (hK : Back l R p e below s args y 3 W9 Pre Post)
    {b : Addr} {cellB : Cell} (hcell : T.heap[b]? = some cellB) (hobj : cellB.vm.isStatics = false) (hcls : s.vm.findClass C = some cellB.cls)
    {g : JFrame} (hg : g.method = m) (hsize : g.locals.size = c.maxLocals) {argsL rest : List Value} (hlen : ∀ sig, parseMethodDescriptor y.desc = some sig → argsL.length = sig.parameters.length)
    (hstack : g.stack = argsL.reverse ++ .ref b :: rest) (hW : 2 * g.monitorRoom + (rest.map fun v => v.category).sum ≤ W9) (hdg : decode c.code g.pc = .ok (.invokevirtual index, 3))
    (hpre : ∀ vm₁, s.WarmedH vm₁ → Pre ⟨T.setVm vm₁, locs, cells, slots⟩ (Value.ref b :: argsL).toArray) :
    ∃ (v : Option Value) (vm₁ : Vm) (B : Pt), s.WarmedH vm₁ ∧ Stand p l e R s m args below meth c B.U B.locs B.cells B.slots ∧ Post ⟨T.setVm vm₁, locs, cells, slots⟩ (Value.ref b :: argsL).toArray v B ∧
      ∀ target, Steps p.tables e below (B.U.setTop { g with pc := g.pc + 3, stack := v.toList ++ rest }) target → Steps p.tables e below (T.setTop g) target := by
  obtain ⟨mk, methM, hnamed, hmethM, hstM, habM⟩ := Cond.instanceMethod_spec hinst
  obtain ⟨m8, methM', cM, hn8, hmethM', -, -, -, -, -, -, hsigM⟩ := Cond.codeWith_spec hcode
  cases Option.some.inj (hn8.symm.trans hnamed)
  cases hmethM.symm.trans hmethM'
  obtain ⟨c2, r2, m2, q1, q2, q3, q4, kP, hkP, hkPi⟩ := Cond.selects_spec hsel
  cases hcls.symm.trans q1
  cases (State.methodFound?_of_named hnamed hy).symm.trans q2
  cases hnamed.symm.trans q3
  have hselP : selectMethod e.platform s.vm cellB.cls mk = .method mk := by rw [Launch.admits_selectMethod X.admits]; exact q4
  obtain ⟨vm₁, X₁, hstep₁⟩ := X.invokevirtual hexec hown hlink hnamed hmethM hstM hkP hkPi hy (a := b) (cell := cellB) hcell
    (fun z h => by rw [h] at hobj; cases hobj) hselP hmethM habM hkP hkPi (g := g) hg (argsL := argsL) (rest := rest) (hlen _ hsigM) hstack hdg
  obtain ⟨v, B, X', hpost, hsteps⟩ := hK m meth c ⟨T.setVm vm₁, locs, cells, slots⟩ { g with stack := rest } (.invokevirtual index) mk (Value.ref b :: argsL).toArray X₁ hg hsize hdg hW (X₁.named hnamed) (hpre vm₁ X₁.warmed)
  exact ⟨v, vm₁, B, X₁.warmed, X', hpost, fun target h => hstep₁ _ fun acts => by rw [doInvoke_state]; exact hsteps.trans h⟩
abbrev vx_CVW (R : Room) (s : State) (args : Array Value) (own C : String) (index : Nat) (y : MethodName) (bytes : ByteArray) (maxL : Nat) (ret : Option FieldType) (hh : List (Nat × Nat × Nat × Nat)) (ws : List Cond) (rm : Room) (mc ms n : Nat) : Prop :=
  (rm.cells = mc ∧ rm.slots = ms ∧ rm.frames + 1 ≤ R.frames ∧ 8 + (maxL + 11) + rm.locals ≤ R.locals ∧ (∀ w ∈ ws, ∀ (a' : Array Value) (U : State), s.WarmedH U.vm → w.before a' U = true) ∧ Cond.codeWith y bytes maxL ret hh ∈ ws) ∧
  (Cond.codeWith y bytes maxL ret hh).before args s = true ∧ (Cond.initialized y.cls).before args s = true ∧ (y.cls ≠ "java/lang/invoke/MethodHandle" ∧ y.cls ≠ "java/lang/invoke/VarHandle") ∧
  (∀ sig, parseMethodDescriptor y.desc = some sig → n = sig.parameters.length) ∧ (Cond.methodLink own index y).before args s = true ∧ (Cond.instanceMethod y).before args s = true ∧ (Cond.selects C y y).before args s = true
theorem vx_cwVW {own C : String} {index maxL mc ms : Nat} {y : MethodName} {bytes : ByteArray} {ret : Option FieldType} {hh : List (Nat × Nat × Nat × Nat)} {Ts ws ws' : List Cond} {rm : Room} (n : Nat) (ht : ∀ w ∈ Ts, w.before args s = true) (hT : GoodIn Ts (wsV own index C y ws)) (hw : ws = Cond.codeWith y bytes maxL ret hh :: ws') (hrc : rm.cells = mc) (hrs : rm.slots = ms)
    (hd : y.cls = C ∧ y.cls ≠ "java/lang/invoke/MethodHandle" ∧ y.cls ≠ "java/lang/invoke/VarHandle" ∧ (parseMethodDescriptor y.desc).map (fun d => d.parameters.length) = some n) (hR : rm.frames + 1 ≤ R.frames ∧ 8 + (maxL + 11) + rm.locals ≤ R.locals) :
    vx_CVW R s args own C index y bytes maxL ret hh ws rm mc ms n := by
  obtain ⟨hC, hd⟩ := hd
  subst hC
  have ok : ∀ w ∈ wsV own index y.cls y ws, w.before args s = true := fun w h => ht w (hT w h).1
  have hG : GoodIn Ts ws := fun w h => hT w (by unfold wsV; exact List.mem_append_right _ h)
  have hc : Cond.codeWith y bytes maxL ret hh ∈ ws := by rw [hw]; exact List.mem_cons_self
  refine ⟨⟨hrc, hrs, hR.1, hR.2, pay_in ht hG, hc⟩, ht _ (hG _ hc).1, ok _ (by simp [wsV]), ⟨hd.1, hd.2.1⟩, fun sig h => ?_, ok _ (by simp [wsV]), ok _ (by simp [wsV]), ok _ (by simp [wsV])⟩
  have h2 := hd.2.2
  rw [h] at h2
  exact (Option.some.inj h2).symm
theorem vx_runVW {y : MethodName} {bytes cc : ByteArray} {maxL nL mc ms n index : Nat} {ret : Option FieldType} {hh : List (Nat × Nat × Nat × Nat)} {ws : List Cond} {rm : Room} {Pc : Array Value → State → Prop} {Qc : Array Value → State → Outcome → State → Prop} {free : Addr → Prop} {Ts : List Cond} {own C : String} {b : Addr} {As rest : List Value} {g : JFrame}
    (S : CallFix p m c cc nL s args Ts own) (hM : Met l y ws rm Pc Qc mc ms free) (cw : vx_CVW R s args own C index y bytes maxL ret hh ws rm mc ms n) (hp : PreV s H C b Pc As)
    (hg : g.method = m) (hn : As.length = n) (hsize : g.locals.size = nL) (hstack : g.stack = As.reverse ++ .ref b :: rest) (hW : 2 * g.monitorRoom + (rest.map fun v => v.category).sum ≤ 8) (hdg : decode cc g.pc = .ok (.invokevirtual index, 3)) (hf : cells + mc ≤ R.cells ∧ slots + ms ≤ R.slots) :
    va_Run p l e R s m args below meth c H locs cells slots mc ms g rest (Qc (Value.ref b :: As).toArray) free := by
  obtain ⟨⟨hrc, hrs, hfr, hlo, hws, hcw⟩, hcode, hini, hy, hlen, hl, hin, hse⟩ := cw
  have hK : Back l R p e below s args y 3 8 (PreOf R mc ms Pc) (PostOf Qc mc ms free) := va_backW (hh := hh) (bytes := bytes) (maxL := maxL) (ret := ret) hM hp.1 hrc hrs hfr hlo hws hcw (fun a' U hW => word_at hW (Or.inl (by first | rfl | simp [Cond.onTables, Cond.keeps, Cond.steady])) hini)
  obtain ⟨hx, hb, hml, ho, -⟩ := S
  obtain ⟨-, ⟨cellB, hcB, hoB, hclB⟩, hPc⟩ := hp
  intro T hT X
  obtain ⟨v, vm₁, ⟨U', l2, c2, s2⟩, hW₁, X', ⟨g', mk, t, L, e1, e2, hq, h1, hL, h2, h3⟩, st⟩ := vx_callVW X hx (C := C) (hh := hh) (bytes := bytes) (maxL := maxL) (ret := ret) ho hl hin hse hcode hy hK (by rw [hT]; exact hcB) hoB hclB hg (hsize.trans hml.symm) (argsL := As) (rest := rest) (fun sig h => hn.trans (hlen sig h)) hstack hW (by rw [hb]; exact hdg)
    (fun vm₁ hW₁ => ⟨hf.1, hf.2, hPc (T.setVm vm₁) hT hW₁⟩)
  dsimp only [Pt.U, Pt.locs, Pt.cells, Pt.slots] at X' e1 e2 h1 h2 h3 st
  subst h1; subst h2; subst h3
  exact ⟨v, (T.setVm vm₁).calling g' mk (Value.ref b :: As).toArray, t, U', L, hT, X', hL, e1, e2, hq, st⟩
section
variable {y : MethodName} {bytes cc : ByteArray} {maxL nL mc ms n index : Nat} {ret : Option FieldType} {ws : List Cond} {rm : Room} {Pc : Array Value → State → Prop} {Qc : Array Value → State → Outcome → State → Prop} {XC : String → State → State → Prop} {free : Addr → Prop} {Ts : List Cond} {own C : String} {b : Addr} {As rest : List Value} {g : JFrame}
theorem vx_runVX {hh : List (Nat × Nat × Nat × Nat)} (S : CallFix p m c cc nL s args Ts own) (hM : vx_Met l y ws rm Pc Qc XC mc ms free) (cw : vx_CVW R s args own C index y bytes maxL ret hh ws rm mc ms n) (hp : PreV s H C b Pc As)
    (hg : g.method = m) (hn : As.length = n) (hsize : g.locals.size = nL) (hstack : g.stack = As.reverse ++ .ref b :: rest) (hW : 2 * g.monitorRoom + (rest.map fun v => v.category).sum ≤ 8) (hdg : decode cc g.pc = .ok (.invokevirtual index, 3)) (hf : cells + mc ≤ R.cells ∧ slots + ms ≤ R.slots) :
    vx_Run p l e R s m args below meth c H locs cells slots mc ms g rest (Qc (Value.ref b :: As).toArray) XC free := by
  obtain ⟨⟨hrc, hrs, hfr, hlo, hws, hcw⟩, hcode, hini, hy, hlen, hl, hin, hse⟩ := cw
  have hK : vx_Back l R p e below s args y 3 8 (PreOf R mc ms Pc) (PostOf Qc mc ms free) (vx_Post XC mc ms free) := vx_backW (hh := hh) (bytes := bytes) (maxL := maxL) (ret := ret) hM hp.1 hrc hrs hfr hlo hws hcw (fun a' U hW => word_at hW (Or.inl (by first | rfl | simp [Cond.onTables, Cond.keeps, Cond.steady])) hini)
  obtain ⟨hx, hb, hml, ho, -⟩ := S
  obtain ⟨-, ⟨cellB, hcB, hoB, hclB⟩, hPc⟩ := hp
  intro T hT X
  rcases vx_callVX X hx (C := C) (hh := hh) (bytes := bytes) (maxL := maxL) (ret := ret) ho hl hin hse hcode hy hK (by rw [hT]; exact hcB) hoB hclB hg (hsize.trans hml.symm) (argsL := As) (rest := rest) (fun sig h => hn.trans (hlen sig h)) hstack hW (by rw [hb]; exact hdg)
    (fun vm₁ hW₁ => ⟨hf.1, hf.2, hPc (T.setVm vm₁) hT hW₁⟩) with ⟨v, vm₁, ⟨U', l2, c2, s2⟩, hW₁, X', ⟨g', mk, t, L, e1, e2, hq, h1, hL, h2, h3⟩, st⟩ | ⟨q, vm₁, ⟨U', l2, c2, s2⟩, hW₁, X', ⟨g', mk, t, L, E, ce, e1, e2, hq, hce, hcv, hcl, h1, hL, h2, h3⟩, st⟩
  · dsimp only [Pt.U, Pt.locs, Pt.cells, Pt.slots] at X' e1 e2 h1 h2 h3 st
    subst h1; subst h2; subst h3
    exact Or.inl ⟨v, (T.setVm vm₁).calling g' mk (Value.ref b :: As).toArray, t, U', L, hT, X', hL, e1, e2, hq, st⟩
  · dsimp only [Pt.U, Pt.locs, Pt.cells, Pt.slots] at X' e1 e2 h1 h2 h3 st hcl
    subst h1; subst h2; subst h3
    exact Or.inr ⟨q, (T.setVm vm₁).calling g' mk (Value.ref b :: As).toArray, t, U', L, E, ce, hT, X', hL, e1, e2, hq, hce, hcv, vx_cls hW₁ hcl, st⟩
theorem vx_runSX {hh : List (Nat × Nat × Nat × Nat)} (S : CallFix p m c cc nL s args Ts own) (hM : vx_Met l y ws rm Pc Qc XC mc ms free) (cw : vx_CSW R s args own index y bytes maxL ret hh ws rm mc ms n) (hp : PreS s H Pc As)
    (hg : g.method = m) (hn : As.length = n) (hsize : g.locals.size = nL) (hstack : g.stack = As.reverse ++ rest) (hW : 2 * g.monitorRoom + (rest.map fun v => v.category).sum ≤ 8) (hdg : decode cc g.pc = .ok (.invokestatic index, 3)) (hf : cells + mc ≤ R.cells ∧ slots + ms ≤ R.slots) :
    vx_Run p l e R s m args below meth c H locs cells slots mc ms g rest (Qc As.toArray) XC free := by
  obtain ⟨⟨hrc, hrs, hfr, hlo, hws, hcw⟩, hcode, hini, hy, hlen, hl, hstt⟩ := cw
  have hK : vx_Back l R p e below s args y 3 8 (PreOf R mc ms Pc) (PostOf Qc mc ms free) (vx_Post XC mc ms free) := vx_backW (hh := hh) (bytes := bytes) (maxL := maxL) (ret := ret) hM hp.1 hrc hrs hfr hlo hws hcw (fun a' U hW => word_at hW (Or.inl (by first | rfl | simp [Cond.onTables, Cond.keeps, Cond.steady])) hini)
  obtain ⟨hx, hb, hml, ho, -⟩ := S
  intro T hT X
  rcases vx_callSX X hx (hh := hh) (bytes := bytes) (maxL := maxL) (ret := ret) ho hl hstt hini hcode hy hK hg (hsize.trans hml.symm) (argsL := As) (rest := rest) (fun sig h => hn.trans (hlen sig h)) hstack hW (by rw [hb]; exact hdg)
    (fun vm₁ hW₁ => ⟨hf.1, hf.2, hp.2 (T.setVm vm₁) hT hW₁⟩) with ⟨v, vm₁, ⟨U', l2, c2, s2⟩, hW₁, X', ⟨g', mk, t, L, e1, e2, hq, h1, hL, h2, h3⟩, st⟩ | ⟨q, vm₁, ⟨U', l2, c2, s2⟩, hW₁, X', ⟨g', mk, t, L, E, ce, e1, e2, hq, hce, hcv, hcl, h1, hL, h2, h3⟩, st⟩
  · dsimp only [Pt.U, Pt.locs, Pt.cells, Pt.slots] at X' e1 e2 h1 h2 h3 st
    subst h1; subst h2; subst h3
    exact Or.inl ⟨v, (T.setVm vm₁).calling g' mk As.toArray, t, U', L, hT, X', hL, e1, e2, hq, st⟩
  · dsimp only [Pt.U, Pt.locs, Pt.cells, Pt.slots] at X' e1 e2 h1 h2 h3 st hcl
    subst h1; subst h2; subst h3
    exact Or.inr ⟨q, (T.setVm vm₁).calling g' mk As.toArray, t, U', L, E, ce, hT, X', hL, e1, e2, hq, hce, hcv, vx_cls hW₁ hcl, st⟩
end
end VXH
theorem vx_ofWH {l : Launch} {y : MethodName} {ws ws' : List Cond} {rm : Room} {Pc : Array Value → State → Prop} {Qc : Array Value → State → Outcome → State → Prop} {XC : String → State → State → Prop} {mc ms : Nat} {free : Addr → Prop} {cc : ByteArray} {maxL : Nat} {ret : Option FieldType} {hh : List (Nat × Nat × Nat × Nat)}
    (hy : plainName y.cls = true) (hw : ws = Cond.codeWith y cc maxL ret hh :: ws')
    (body : ∀ p e s m args below meth c s₁, BodyLoose p l y (headSpec ws rm) cc maxL ret e s m args below meth c s₁ → c.maxLocals = maxL → Pc args s →
      W p l e (headSpec ws rm).room s m args below meth c s.heap [] 0 0 (vx_MQ below Qc XC args s mc ms free) (entryFrame m args maxL)) : vx_Met l y ws rm Pc Qc XC mc ms free := by
  refine MetFree.of_bodyS (code := cc) (maxLocals := maxL) (ret := ret) hy ?_ ?_
  · intro args s m h hn
    obtain ⟨m9, meth, c, hn9, h1, h2, h3, h4, -, h5, h6, -⟩ := Cond.codeWith_spec (atoms_spec (ws := ws) h _ (by rw [hw]; exact List.mem_cons_self))
    cases hn.symm.trans hn9
    exact ⟨meth, c, h1, h2, h3, h4, h5, h6⟩
  · intro p e s m args below meth c s₁ B hml hP _
    have hh0 : s₁.heap = s.heap := by rw [B.state]; rfl
    obtain ⟨t, a1, o, b1, b2, b3⟩ := body p e s m args below meth c s₁ B hml hP s₁ hh0 (Stand.of_body B)
    exact ⟨t, o, a1, b1, b2, b3⟩
/-! ===== END ===== -/
end
section
/-! ===== the one list of words that every method's contract has: the good ones of the law's own tables ===== -/
def TB : List Cond := lw_tbl.filter goodWord
theorem tb_in {w : Cond} (h : w ∈ lw_tbl) (g : goodWord w = true) : w ∈ TB := List.mem_filter.mpr ⟨h, g⟩
theorem tb_good : ∀ w ∈ TB, w ∈ lw_tbl ∧ goodWord w = true := fun w h => List.mem_filter.mp h
/-- a method's words: its code, and that list -/
theorem tb_call {y : MethodName} {cc : ByteArray} {n : Nat} {r : Option FieldType} (h : Cond.code y cc n r ∈ TB) : GoodIn TB (Cond.code y cc n r :: TB) := by
  intro w hw
  rcases List.mem_cons.mp hw with rfl | hw
  · exact ⟨h, good_of_word (tb_good _ h).2⟩
  · exact ⟨hw, good_of_word (tb_good _ hw).2⟩
theorem tbk_1 {w : Cond} (h : w ∈ tables_1_1) (g : goodWord w = true) : w ∈ TB := tb_in (List.mem_append_right _ (by show w ∈ tables_1; exact List.mem_append_left _ h)) g
theorem tbk_2 {w : Cond} (h : w ∈ tables_1_2) (g : goodWord w = true) : w ∈ TB := tb_in (List.mem_append_right _ (by show w ∈ tables_1; exact List.mem_append_right _ (List.mem_append_left _ h))) g
theorem tbk_3 {w : Cond} (h : w ∈ tables_1_3) (g : goodWord w = true) : w ∈ TB := tb_in (List.mem_append_right _ (by show w ∈ tables_1; exact List.mem_append_right _ (List.mem_append_right _ (List.mem_append_left _ h)))) g
theorem tbk_4 {w : Cond} (h : w ∈ tables_1_4) (g : goodWord w = true) : w ∈ TB := tb_in (List.mem_append_right _ (by show w ∈ tables_1; exact List.mem_append_right _ (List.mem_append_right _ (List.mem_append_right _ (List.mem_append_left _ h))))) g
theorem tbk_5 {w : Cond} (h : w ∈ tables_1_5) (g : goodWord w = true) : w ∈ TB := tb_in (List.mem_append_right _ (by show w ∈ tables_1; exact List.mem_append_right _ (List.mem_append_right _ (List.mem_append_right _ (List.mem_append_right _ (List.mem_append_left _ h)))))) g
theorem tbk_6 {w : Cond} (h : w ∈ tables_1_6) (g : goodWord w = true) : w ∈ TB := tb_in (List.mem_append_right _ (by show w ∈ tables_1; exact List.mem_append_right _ (List.mem_append_right _ (List.mem_append_right _ (List.mem_append_right _ (List.mem_append_right _ (List.mem_append_left _ h))))))) g
theorem tbk_7 {w : Cond} (h : w ∈ tables_1_7) (g : goodWord w = true) : w ∈ TB := tb_in (List.mem_append_right _ (by show w ∈ tables_1; exact List.mem_append_right _ (List.mem_append_right _ (List.mem_append_right _ (List.mem_append_right _ (List.mem_append_right _ (List.mem_append_right _ (List.mem_append_left _ h)))))))) g
theorem tbk_8 {w : Cond} (h : w ∈ tables_1_8) (g : goodWord w = true) : w ∈ TB := tb_in (List.mem_append_right _ (by show w ∈ tables_1; exact List.mem_append_right _ (List.mem_append_right _ (List.mem_append_right _ (List.mem_append_right _ (List.mem_append_right _ (List.mem_append_right _ (List.mem_append_right _ (h))))))))) g
theorem wd_1_0 : (Jvm.Cond.initialized "PolicyTreeLaw") ∈ TB := tbk_1 (List.mem_of_getElem? (i := 0) rfl) rfl
theorem wd_1_1 : (Jvm.Cond.initialized "PolicyTree") ∈ TB := tbk_1 (List.mem_of_getElem? (i := 1) rfl) rfl
theorem wd_1_2 : (Jvm.Cond.initialized "java/util/AbstractCollection") ∈ TB := tbk_1 (List.mem_of_getElem? (i := 2) rfl) rfl
theorem wd_1_3 : (Jvm.Cond.initialized "java/util/AbstractList") ∈ TB := tbk_1 (List.mem_of_getElem? (i := 3) rfl) rfl
theorem wd_1_4 : (Jvm.Cond.initialized "java/util/ArrayList") ∈ TB := tbk_1 (List.mem_of_getElem? (i := 4) rfl) rfl
theorem wd_1_5 : (Jvm.Cond.initialized "PolicyTree$Groups") ∈ TB := tbk_1 (List.mem_of_getElem? (i := 5) rfl) rfl
theorem wd_1_6 : (Jvm.Cond.initialized "PolicyTree$Tape") ∈ TB := tbk_1 (List.mem_of_getElem? (i := 6) rfl) rfl
theorem wd_1_7 : (Jvm.Cond.initialized "PolicyTree$FilterReader") ∈ TB := tbk_1 (List.mem_of_getElem? (i := 7) rfl) rfl
theorem wd_1_8 : (Jvm.Cond.initialized "PolicyTree$Row") ∈ TB := tbk_1 (List.mem_of_getElem? (i := 8) rfl) rfl
theorem wd_1_9 : (Jvm.Cond.initialized "PolicyTree$Standing") ∈ TB := tbk_1 (List.mem_of_getElem? (i := 9) rfl) rfl
theorem wd_1_10 : (Jvm.Cond.initialized "PolicyTree$Outcome") ∈ TB := tbk_1 (List.mem_of_getElem? (i := 10) rfl) rfl
theorem wd_1_11 : (Jvm.Cond.initialized "PolicyTree$Node") ∈ TB := tbk_1 (List.mem_of_getElem? (i := 11) rfl) rfl
theorem wd_1_12 : (Jvm.Cond.initialized "jdk/internal/util/ArraysSupport") ∈ TB := tbk_1 (List.mem_of_getElem? (i := 12) rfl) rfl
theorem wd_1_13 : (Jvm.Cond.initialized "java/lang/Math") ∈ TB := tbk_1 (List.mem_of_getElem? (i := 13) rfl) rfl
theorem wd_1_14 : (Jvm.Cond.initialized "java/util/Arrays") ∈ TB := tbk_1 (List.mem_of_getElem? (i := 14) rfl) rfl
theorem wd_1_15 : (Jvm.Cond.initialized "java/lang/System") ∈ TB := tbk_1 (List.mem_of_getElem? (i := 15) rfl) rfl
theorem wd_1_16 : (Jvm.Cond.initialized "PolicyTreeModel") ∈ TB := tbk_1 (List.mem_of_getElem? (i := 16) rfl) rfl
theorem wd_1_17 : (Jvm.Cond.initialized "java/lang/Throwable") ∈ TB := tbk_1 (List.mem_of_getElem? (i := 17) rfl) rfl
theorem wd_1_18 : (Jvm.Cond.initialized "java/lang/Exception") ∈ TB := tbk_1 (List.mem_of_getElem? (i := 18) rfl) rfl
theorem wd_1_19 : (Jvm.Cond.initialized "java/lang/RuntimeException") ∈ TB := tbk_1 (List.mem_of_getElem? (i := 19) rfl) rfl
theorem wd_1_20 : (Jvm.Cond.initialized "java/lang/IndexOutOfBoundsException") ∈ TB := tbk_1 (List.mem_of_getElem? (i := 20) rfl) rfl
theorem wd_1_21 : (Jvm.Cond.initialized "java/lang/IllegalStateException") ∈ TB := tbk_1 (List.mem_of_getElem? (i := 21) rfl) rfl
theorem wd_1_22 : (Jvm.Cond.initialized "java/util/Objects") ∈ TB := tbk_1 (List.mem_of_getElem? (i := 22) rfl) rfl
theorem wd_1_23 : (Jvm.Cond.initialized "jdk/internal/util/Preconditions") ∈ TB := tbk_1 (List.mem_of_getElem? (i := 23) rfl) rfl
theorem wd_1_24 : (Jvm.Cond.initialized "PolicyTree$Machine") ∈ TB := tbk_1 (List.mem_of_getElem? (i := 24) rfl) rfl
theorem wd_1_25 : (Jvm.Cond.initialized "java/lang/IllegalArgumentException") ∈ TB := tbk_1 (List.mem_of_getElem? (i := 25) rfl) rfl
theorem wd_1_26 : (Jvm.Cond.initialized "PolicyTree$Bundle") ∈ TB := tbk_1 (List.mem_of_getElem? (i := 26) rfl) rfl
theorem wd_1_27 : (Jvm.Cond.initialized "java/lang/String") ∈ TB := tbk_1 (List.mem_of_getElem? (i := 27) rfl) rfl
theorem wd_1_28 : (Jvm.Cond.initialized "java/lang/StringLatin1") ∈ TB := tbk_1 (List.mem_of_getElem? (i := 28) rfl) rfl
theorem wd_1_29 : (Jvm.Cond.initialized "java/lang/StringUTF16") ∈ TB := tbk_1 (List.mem_of_getElem? (i := 29) rfl) rfl
theorem wd_1_30 : (Jvm.Cond.initialized "PolicyTree$Link") ∈ TB := tbk_1 (List.mem_of_getElem? (i := 30) rfl) rfl
theorem wd_1_31 : (Jvm.Cond.initialized "PolicyTree$Filter") ∈ TB := tbk_1 (List.mem_of_getElem? (i := 31) rfl) rfl
theorem wd_1_32 : (Jvm.Cond.initialized "java/lang/AbstractStringBuilder") ∈ TB := tbk_1 (List.mem_of_getElem? (i := 32) rfl) rfl
theorem wd_1_33 : (Jvm.Cond.initialized "java/lang/StringBuilder") ∈ TB := tbk_1 (List.mem_of_getElem? (i := 33) rfl) rfl
theorem wd_1_34 : (Jvm.Cond.initialized "java/lang/Integer") ∈ TB := tbk_1 (List.mem_of_getElem? (i := 34) rfl) rfl
theorem wd_1_35 : (Jvm.Cond.classLink "PolicyTreeLaw" (8 : Nat) "PolicyTree") ∈ TB := tbk_1 (List.mem_of_getElem? (i := 35) rfl) rfl
theorem wd_1_36 : (Jvm.Cond.instantiable "PolicyTree" (14 : Nat)) ∈ TB := tbk_1 (List.mem_of_getElem? (i := 36) rfl) rfl
theorem wd_1_37 : (Jvm.Cond.methodLink "PolicyTreeLaw" (94 : Nat) ({ cls := "PolicyTree", name := "<init>", desc := "()V" } : Jvm.MethodName)) ∈ TB := tbk_1 (List.mem_of_getElem? (i := 37) rfl) rfl
theorem wd_1_38 : (Jvm.Cond.instanceMethod ({ cls := "PolicyTree", name := "<init>", desc := "()V" } : Jvm.MethodName)) ∈ TB := tbk_1 (List.mem_of_getElem? (i := 38) rfl) rfl
theorem wd_1_39 : (Jvm.Cond.code ({ cls := "PolicyTree", name := "<init>", desc := "()V" } : Jvm.MethodName) prog_1_method_1_code (1 : Nat) (Option.none : Option Jvm.ClassFile.FieldType)) ∈ TB := tbk_1 (List.mem_of_getElem? (i := 39) rfl) rfl
theorem wd_1_40 : (Jvm.Cond.methodLink "PolicyTree" (1 : Nat) ({ cls := "java/lang/Object", name := "<init>", desc := "()V" } : Jvm.MethodName)) ∈ TB := tbk_1 (List.mem_of_getElem? (i := 40) rfl) rfl
theorem wd_1_41 : (Jvm.Cond.instanceMethod ({ cls := "java/lang/Object", name := "<init>", desc := "()V" } : Jvm.MethodName)) ∈ TB := tbk_1 (List.mem_of_getElem? (i := 41) rfl) rfl
theorem wd_1_42 : (Jvm.Cond.code ({ cls := "java/lang/Object", name := "<init>", desc := "()V" } : Jvm.MethodName) object_method_1_code (1 : Nat) (Option.none : Option Jvm.ClassFile.FieldType)) ∈ TB := tbk_1 (List.mem_of_getElem? (i := 42) rfl) rfl
theorem wd_1_43 : (Jvm.Cond.classLink "PolicyTree" (7 : Nat) "java/util/ArrayList") ∈ TB := tbk_1 (List.mem_of_getElem? (i := 43) rfl) rfl
theorem wd_1_44 : (Jvm.Cond.instantiable "java/util/ArrayList" (3 : Nat)) ∈ TB := tbk_1 (List.mem_of_getElem? (i := 44) rfl) rfl
theorem wd_1_45 : (Jvm.Cond.methodLink "PolicyTree" (9 : Nat) ({ cls := "java/util/ArrayList", name := "<init>", desc := "()V" } : Jvm.MethodName)) ∈ TB := tbk_1 (List.mem_of_getElem? (i := 45) rfl) rfl
theorem wd_1_46 : (Jvm.Cond.instanceMethod ({ cls := "java/util/ArrayList", name := "<init>", desc := "()V" } : Jvm.MethodName)) ∈ TB := tbk_1 (List.mem_of_getElem? (i := 46) rfl) rfl
theorem wd_1_47 : (Jvm.Cond.code ({ cls := "java/util/ArrayList", name := "<init>", desc := "()V" } : Jvm.MethodName) prog_34_method_2_code (1 : Nat) (Option.none : Option Jvm.ClassFile.FieldType)) ∈ TB := tbk_1 (List.mem_of_getElem? (i := 47) rfl) rfl
theorem wd_1_48 : (Jvm.Cond.methodLink "java/util/ArrayList" (1 : Nat) ({ cls := "java/util/AbstractList", name := "<init>", desc := "()V" } : Jvm.MethodName)) ∈ TB := tbk_1 (List.mem_of_getElem? (i := 48) rfl) rfl
theorem wd_1_49 : (Jvm.Cond.instanceMethod ({ cls := "java/util/AbstractList", name := "<init>", desc := "()V" } : Jvm.MethodName)) ∈ TB := tbk_1 (List.mem_of_getElem? (i := 49) rfl) rfl
theorem wd_1_50 : (Jvm.Cond.code ({ cls := "java/util/AbstractList", name := "<init>", desc := "()V" } : Jvm.MethodName) prog_33_method_1_code (1 : Nat) (Option.none : Option Jvm.ClassFile.FieldType)) ∈ TB := tbk_1 (List.mem_of_getElem? (i := 50) rfl) rfl
theorem wd_1_51 : (Jvm.Cond.methodLink "java/util/AbstractList" (1 : Nat) ({ cls := "java/util/AbstractCollection", name := "<init>", desc := "()V" } : Jvm.MethodName)) ∈ TB := tbk_1 (List.mem_of_getElem? (i := 51) rfl) rfl
theorem wd_1_52 : (Jvm.Cond.instanceMethod ({ cls := "java/util/AbstractCollection", name := "<init>", desc := "()V" } : Jvm.MethodName)) ∈ TB := tbk_1 (List.mem_of_getElem? (i := 52) rfl) rfl
theorem wd_1_53 : (Jvm.Cond.code ({ cls := "java/util/AbstractCollection", name := "<init>", desc := "()V" } : Jvm.MethodName) prog_32_method_1_code (1 : Nat) (Option.none : Option Jvm.ClassFile.FieldType)) ∈ TB := tbk_1 (List.mem_of_getElem? (i := 53) rfl) rfl
theorem wd_1_54 : (Jvm.Cond.methodLink "java/util/AbstractCollection" (1 : Nat) ({ cls := "java/lang/Object", name := "<init>", desc := "()V" } : Jvm.MethodName)) ∈ TB := tbk_1 (List.mem_of_getElem? (i := 54) rfl) rfl
theorem wd_1_55 : (Jvm.Cond.fieldLink "java/util/ArrayList" (39 : Nat) "java/util/ArrayList" "DEFAULTCAPACITY_EMPTY_ELEMENTDATA" "[Ljava/lang/Object;") ∈ TB := tbk_1 (List.mem_of_getElem? (i := 55) rfl) rfl
theorem wd_1_57 : (Jvm.Cond.fieldLink "java/util/ArrayList" (9 : Nat) "java/util/ArrayList" "elementData" "[Ljava/lang/Object;") ∈ TB := tbk_1 (List.mem_of_getElem? (i := 57) rfl) rfl
theorem wd_1_58 : (Jvm.Cond.fieldLink "java/util/ArrayList" (48 : Nat) "java/util/ArrayList" "size" "I") ∈ TB := tbk_1 (List.mem_of_getElem? (i := 58) rfl) rfl
theorem wd_1_59 : (Jvm.Cond.fieldLink "java/util/AbstractList" (7 : Nat) "java/util/AbstractList" "modCount" "I") ∈ TB := tbk_1 (List.mem_of_getElem? (i := 59) rfl) rfl
theorem wd_1_60 : (Jvm.Cond.fieldLink "java/util/ArrayList" (63 : Nat) "java/util/ArrayList" "modCount" "I") ∈ TB := tbk_1 (List.mem_of_getElem? (i := 60) rfl) rfl
theorem wd_1_61 : (Jvm.Cond.sameField "java/util/ArrayList" "java/util/AbstractList" "modCount" "I") ∈ TB := tbk_1 (List.mem_of_getElem? (i := 61) rfl) rfl
theorem wd_1_62 : (Jvm.Cond.lays "java/util/ArrayList" "java/util/ArrayList" "elementData" "[Ljava/lang/Object;") ∈ TB := tbk_1 (List.mem_of_getElem? (i := 62) rfl) rfl
theorem wd_1_64 : (Jvm.Cond.lays "java/util/ArrayList" "java/util/ArrayList" "size" "I") ∈ TB := tbk_1 (List.mem_of_getElem? (i := 64) rfl) rfl
theorem wd_1_66 : (Jvm.Cond.lays "java/util/ArrayList" "java/util/AbstractList" "modCount" "I") ∈ TB := tbk_1 (List.mem_of_getElem? (i := 66) rfl) rfl
theorem wd_1_69 : (Jvm.Cond.classLink "PolicyTree" (19 : Nat) "PolicyTree$Groups") ∈ TB := tbk_1 (List.mem_of_getElem? (i := 69) rfl) rfl
theorem wd_1_70 : (Jvm.Cond.instantiable "PolicyTree$Groups" (3 : Nat)) ∈ TB := tbk_1 (List.mem_of_getElem? (i := 70) rfl) rfl
theorem wd_1_72 : (Jvm.Cond.instanceMethod ({ cls := "PolicyTree$Groups", name := "<init>", desc := "()V" } : Jvm.MethodName)) ∈ TB := tbk_1 (List.mem_of_getElem? (i := 72) rfl) rfl
theorem wd_1_73 : (Jvm.Cond.code ({ cls := "PolicyTree$Groups", name := "<init>", desc := "()V" } : Jvm.MethodName) prog_5_method_1_code (1 : Nat) (Option.none : Option Jvm.ClassFile.FieldType)) ∈ TB := tbk_1 (List.mem_of_getElem? (i := 73) rfl) rfl
theorem wd_1_74 : (Jvm.Cond.methodLink "PolicyTree$Groups" (3 : Nat) ({ cls := "java/lang/Object", name := "<init>", desc := "()V" } : Jvm.MethodName)) ∈ TB := tbk_1 (List.mem_of_getElem? (i := 74) rfl) rfl
theorem wd_1_75 : (Jvm.Cond.fieldLink "PolicyTree$Groups" (9 : Nat) "PolicyTree$Groups" "machinesIn" "[J") ∈ TB := tbk_1 (List.mem_of_getElem? (i := 75) rfl) rfl
theorem wd_1_76 : (Jvm.Cond.fieldLink "PolicyTree$Groups" (15 : Nat) "PolicyTree$Groups" "groupsIn" "[I") ∈ TB := tbk_1 (List.mem_of_getElem? (i := 76) rfl) rfl
theorem wd_1_77 : (Jvm.Cond.fieldLink "PolicyTree$Groups" (19 : Nat) "PolicyTree$Groups" "size" "I") ∈ TB := tbk_1 (List.mem_of_getElem? (i := 77) rfl) rfl
theorem wd_1_78 : (Jvm.Cond.laysFinal "PolicyTree$Groups" "PolicyTree$Groups" "machinesIn" "[J") ∈ TB := tbk_1 (List.mem_of_getElem? (i := 78) rfl) rfl
theorem wd_1_80 : (Jvm.Cond.laysFinal "PolicyTree$Groups" "PolicyTree$Groups" "groupsIn" "[I") ∈ TB := tbk_1 (List.mem_of_getElem? (i := 80) rfl) rfl
theorem wd_1_82 : (Jvm.Cond.lays "PolicyTree$Groups" "PolicyTree$Groups" "size" "I") ∈ TB := tbk_1 (List.mem_of_getElem? (i := 82) rfl) rfl
theorem wd_1_85 : (Jvm.Cond.arrayClass Jvm.ClassFile.FieldType.long) ∈ TB := tbk_1 (List.mem_of_getElem? (i := 85) rfl) rfl
theorem wd_1_86 : (Jvm.Cond.arrayClass Jvm.ClassFile.FieldType.int) ∈ TB := tbk_1 (List.mem_of_getElem? (i := 86) rfl) rfl
theorem wd_1_87 : (Jvm.Cond.classLink "PolicyTree" (36 : Nat) "PolicyTree$Tape") ∈ TB := tbk_1 (List.mem_of_getElem? (i := 87) rfl) rfl
theorem wd_1_88 : (Jvm.Cond.instantiable "PolicyTree$Tape" (2 : Nat)) ∈ TB := tbk_1 (List.mem_of_getElem? (i := 88) rfl) rfl
theorem wd_1_90 : (Jvm.Cond.instanceMethod ({ cls := "PolicyTree$Tape", name := "<init>", desc := "()V" } : Jvm.MethodName)) ∈ TB := tbk_1 (List.mem_of_getElem? (i := 90) rfl) rfl
theorem wd_1_91 : (Jvm.Cond.code ({ cls := "PolicyTree$Tape", name := "<init>", desc := "()V" } : Jvm.MethodName) prog_12_method_1_code (1 : Nat) (Option.none : Option Jvm.ClassFile.FieldType)) ∈ TB := tbk_1 (List.mem_of_getElem? (i := 91) rfl) rfl
theorem wd_1_92 : (Jvm.Cond.methodLink "PolicyTree$Tape" (3 : Nat) ({ cls := "java/lang/Object", name := "<init>", desc := "()V" } : Jvm.MethodName)) ∈ TB := tbk_1 (List.mem_of_getElem? (i := 92) rfl) rfl
theorem wd_1_93 : (Jvm.Cond.fieldLink "PolicyTree$Tape" (11 : Nat) "PolicyTree$Tape" "bytes" "[B") ∈ TB := tbk_1 (List.mem_of_getElem? (i := 93) rfl) rfl
theorem wd_1_94 : (Jvm.Cond.fieldLink "PolicyTree$Tape" (15 : Nat) "PolicyTree$Tape" "size" "I") ∈ TB := tbk_1 (List.mem_of_getElem? (i := 94) rfl) rfl
theorem wd_1_95 : (Jvm.Cond.laysFinal "PolicyTree$Tape" "PolicyTree$Tape" "bytes" "[B") ∈ TB := tbk_1 (List.mem_of_getElem? (i := 95) rfl) rfl
theorem wd_1_97 : (Jvm.Cond.lays "PolicyTree$Tape" "PolicyTree$Tape" "size" "I") ∈ TB := tbk_1 (List.mem_of_getElem? (i := 97) rfl) rfl
theorem wd_1_100 : (Jvm.Cond.arrayClass Jvm.ClassFile.FieldType.byte) ∈ TB := tbk_1 (List.mem_of_getElem? (i := 100) rfl) rfl
theorem wd_1_101 : (Jvm.Cond.classLink "PolicyTree" (43 : Nat) "PolicyTree$FilterReader") ∈ TB := tbk_1 (List.mem_of_getElem? (i := 101) rfl) rfl
theorem wd_1_102 : (Jvm.Cond.instantiable "PolicyTree$FilterReader" (9 : Nat)) ∈ TB := tbk_1 (List.mem_of_getElem? (i := 102) rfl) rfl
theorem wd_1_103 : (Jvm.Cond.methodLink "PolicyTree" (45 : Nat) ({ cls := "PolicyTree$FilterReader", name := "<init>", desc := "(LPolicyTree$Tape;)V" } : Jvm.MethodName)) ∈ TB := tbk_1 (List.mem_of_getElem? (i := 103) rfl) rfl
theorem wd_1_104 : (Jvm.Cond.instanceMethod ({ cls := "PolicyTree$FilterReader", name := "<init>", desc := "(LPolicyTree$Tape;)V" } : Jvm.MethodName)) ∈ TB := tbk_1 (List.mem_of_getElem? (i := 104) rfl) rfl
theorem wd_1_105 : (Jvm.Cond.code ({ cls := "PolicyTree$FilterReader", name := "<init>", desc := "(LPolicyTree$Tape;)V" } : Jvm.MethodName) prog_4_method_1_code (2 : Nat) (Option.none : Option Jvm.ClassFile.FieldType)) ∈ TB := tbk_1 (List.mem_of_getElem? (i := 105) rfl) rfl
theorem wd_1_106 : (Jvm.Cond.methodLink "PolicyTree$FilterReader" (3 : Nat) ({ cls := "java/lang/Object", name := "<init>", desc := "()V" } : Jvm.MethodName)) ∈ TB := tbk_1 (List.mem_of_getElem? (i := 106) rfl) rfl
theorem wd_1_107 : (Jvm.Cond.fieldLink "PolicyTree$FilterReader" (17 : Nat) "PolicyTree$FilterReader" "tape" "LPolicyTree$Tape;") ∈ TB := tbk_1 (List.mem_of_getElem? (i := 107) rfl) rfl
theorem wd_1_108 : (Jvm.Cond.fieldLink "PolicyTree$FilterReader" (21 : Nat) "PolicyTree$FilterReader" "length" "I") ∈ TB := tbk_1 (List.mem_of_getElem? (i := 108) rfl) rfl
theorem wd_1_109 : (Jvm.Cond.fieldLink "PolicyTree$FilterReader" (25 : Nat) "PolicyTree$FilterReader" "groups" "I") ∈ TB := tbk_1 (List.mem_of_getElem? (i := 109) rfl) rfl
theorem wd_1_110 : (Jvm.Cond.fieldLink "PolicyTree$FilterReader" (28 : Nat) "PolicyTree$FilterReader" "nodes" "I") ∈ TB := tbk_1 (List.mem_of_getElem? (i := 110) rfl) rfl
theorem wd_1_111 : (Jvm.Cond.fieldLink "PolicyTree$FilterReader" (31 : Nat) "PolicyTree$FilterReader" "at" "I") ∈ TB := tbk_1 (List.mem_of_getElem? (i := 111) rfl) rfl
theorem wd_1_112 : (Jvm.Cond.fieldLink "PolicyTree$FilterReader" (34 : Nat) "PolicyTree$FilterReader" "fault" "I") ∈ TB := tbk_1 (List.mem_of_getElem? (i := 112) rfl) rfl
theorem wd_1_113 : (Jvm.Cond.fieldLink "PolicyTree$FilterReader" (37 : Nat) "PolicyTree$FilterReader" "faultPlace" "I") ∈ TB := tbk_1 (List.mem_of_getElem? (i := 113) rfl) rfl
theorem wd_1_114 : (Jvm.Cond.fieldLink "PolicyTree$FilterReader" (11 : Nat) "PolicyTree$FilterReader" "steps" "[I") ∈ TB := tbk_1 (List.mem_of_getElem? (i := 114) rfl) rfl
theorem wd_1_115 : (Jvm.Cond.fieldLink "PolicyTree$FilterReader" (40 : Nat) "PolicyTree$FilterReader" "size" "I") ∈ TB := tbk_1 (List.mem_of_getElem? (i := 115) rfl) rfl
theorem wd_1_116 : (Jvm.Cond.laysFinal "PolicyTree$FilterReader" "PolicyTree$FilterReader" "tape" "LPolicyTree$Tape;") ∈ TB := tbk_1 (List.mem_of_getElem? (i := 116) rfl) rfl
theorem wd_1_118 : (Jvm.Cond.lays "PolicyTree$FilterReader" "PolicyTree$FilterReader" "length" "I") ∈ TB := tbk_1 (List.mem_of_getElem? (i := 118) rfl) rfl
theorem wd_1_120 : (Jvm.Cond.lays "PolicyTree$FilterReader" "PolicyTree$FilterReader" "groups" "I") ∈ TB := tbk_1 (List.mem_of_getElem? (i := 120) rfl) rfl
theorem wd_1_122 : (Jvm.Cond.lays "PolicyTree$FilterReader" "PolicyTree$FilterReader" "nodes" "I") ∈ TB := tbk_1 (List.mem_of_getElem? (i := 122) rfl) rfl
theorem wd_1_124 : (Jvm.Cond.lays "PolicyTree$FilterReader" "PolicyTree$FilterReader" "at" "I") ∈ TB := tbk_1 (List.mem_of_getElem? (i := 124) rfl) rfl
theorem wd_1_126 : (Jvm.Cond.lays "PolicyTree$FilterReader" "PolicyTree$FilterReader" "fault" "I") ∈ TB := tbk_1 (List.mem_of_getElem? (i := 126) rfl) rfl
theorem wd_1_128 : (Jvm.Cond.lays "PolicyTree$FilterReader" "PolicyTree$FilterReader" "faultPlace" "I") ∈ TB := tbk_1 (List.mem_of_getElem? (i := 128) rfl) rfl
theorem wd_1_130 : (Jvm.Cond.laysFinal "PolicyTree$FilterReader" "PolicyTree$FilterReader" "steps" "[I") ∈ TB := tbk_1 (List.mem_of_getElem? (i := 130) rfl) rfl
theorem wd_1_132 : (Jvm.Cond.lays "PolicyTree$FilterReader" "PolicyTree$FilterReader" "size" "I") ∈ TB := tbk_1 (List.mem_of_getElem? (i := 132) rfl) rfl
theorem wd_1_135 : (Jvm.Cond.classLink "PolicyTree" (56 : Nat) "PolicyTree$Row") ∈ TB := tbk_1 (List.mem_of_getElem? (i := 135) rfl) rfl
theorem wd_1_136 : (Jvm.Cond.instantiable "PolicyTree$Row" (4 : Nat)) ∈ TB := tbk_1 (List.mem_of_getElem? (i := 136) rfl) rfl
theorem wd_1_138 : (Jvm.Cond.instanceMethod ({ cls := "PolicyTree$Row", name := "<init>", desc := "()V" } : Jvm.MethodName)) ∈ TB := tbk_1 (List.mem_of_getElem? (i := 138) rfl) rfl
theorem wd_1_139 : (Jvm.Cond.code ({ cls := "PolicyTree$Row", name := "<init>", desc := "()V" } : Jvm.MethodName) prog_10_method_1_code (1 : Nat) (Option.none : Option Jvm.ClassFile.FieldType)) ∈ TB := tbk_1 (List.mem_of_getElem? (i := 139) rfl) rfl
theorem wd_1_140 : (Jvm.Cond.methodLink "PolicyTree$Row" (3 : Nat) ({ cls := "java/lang/Object", name := "<init>", desc := "()V" } : Jvm.MethodName)) ∈ TB := tbk_1 (List.mem_of_getElem? (i := 140) rfl) rfl
theorem wd_1_141 : (Jvm.Cond.classLink "PolicyTree$Row" (9 : Nat) "java/util/ArrayList") ∈ TB := tbk_1 (List.mem_of_getElem? (i := 141) rfl) rfl
theorem wd_1_142 : (Jvm.Cond.methodLink "PolicyTree$Row" (11 : Nat) ({ cls := "java/util/ArrayList", name := "<init>", desc := "()V" } : Jvm.MethodName)) ∈ TB := tbk_1 (List.mem_of_getElem? (i := 142) rfl) rfl
theorem wd_1_143 : (Jvm.Cond.classLink "PolicyTree$Row" (25 : Nat) "PolicyTree$Standing") ∈ TB := tbk_1 (List.mem_of_getElem? (i := 143) rfl) rfl
theorem wd_1_144 : (Jvm.Cond.instantiable "PolicyTree$Standing" (6 : Nat)) ∈ TB := tbk_1 (List.mem_of_getElem? (i := 144) rfl) rfl
theorem wd_1_146 : (Jvm.Cond.instanceMethod ({ cls := "PolicyTree$Standing", name := "<init>", desc := "()V" } : Jvm.MethodName)) ∈ TB := tbk_1 (List.mem_of_getElem? (i := 146) rfl) rfl
theorem wd_1_147 : (Jvm.Cond.code ({ cls := "PolicyTree$Standing", name := "<init>", desc := "()V" } : Jvm.MethodName) prog_11_method_1_code (1 : Nat) (Option.none : Option Jvm.ClassFile.FieldType)) ∈ TB := tbk_1 (List.mem_of_getElem? (i := 147) rfl) rfl
theorem wd_1_148 : (Jvm.Cond.methodLink "PolicyTree$Standing" (3 : Nat) ({ cls := "java/lang/Object", name := "<init>", desc := "()V" } : Jvm.MethodName)) ∈ TB := tbk_1 (List.mem_of_getElem? (i := 148) rfl) rfl
theorem wd_1_149 : (Jvm.Cond.fieldLink "PolicyTree$Standing" (11 : Nat) "PolicyTree$Standing" "stack" "[J") ∈ TB := tbk_1 (List.mem_of_getElem? (i := 149) rfl) rfl
theorem wd_1_150 : (Jvm.Cond.fieldLink "PolicyTree$Filter" (13 : Nat) "PolicyTree$Standing" "stack" "[J") ∈ TB := tbk_1 (List.mem_of_getElem? (i := 150) rfl) rfl
theorem wd_1_151 : (Jvm.Cond.fieldLink "PolicyTree$Standing" (15 : Nat) "PolicyTree$Standing" "facts" "[J") ∈ TB := tbk_1 (List.mem_of_getElem? (i := 151) rfl) rfl
theorem wd_1_152 : (Jvm.Cond.fieldLink "PolicyTree$Standing" (24 : Nat) "PolicyTree$Standing" "known" "I") ∈ TB := tbk_1 (List.mem_of_getElem? (i := 152) rfl) rfl
theorem wd_1_153 : (Jvm.Cond.fieldLink "PolicyTree$Standing" (31 : Nat) "PolicyTree$Standing" "yes" "I") ∈ TB := tbk_1 (List.mem_of_getElem? (i := 153) rfl) rfl
theorem wd_1_154 : (Jvm.Cond.fieldLink "PolicyTree$Standing" (34 : Nat) "PolicyTree$Standing" "groups" "I") ∈ TB := tbk_1 (List.mem_of_getElem? (i := 154) rfl) rfl
theorem wd_1_155 : (Jvm.Cond.fieldLink "PolicyTree$Standing" (37 : Nat) "PolicyTree$Standing" "way" "J") ∈ TB := tbk_1 (List.mem_of_getElem? (i := 155) rfl) rfl
theorem wd_1_156 : (Jvm.Cond.laysFinal "PolicyTree$Standing" "PolicyTree$Standing" "stack" "[J") ∈ TB := tbk_1 (List.mem_of_getElem? (i := 156) rfl) rfl
theorem wd_1_158 : (Jvm.Cond.laysFinal "PolicyTree$Standing" "PolicyTree$Standing" "facts" "[J") ∈ TB := tbk_1 (List.mem_of_getElem? (i := 158) rfl) rfl
theorem wd_1_160 : (Jvm.Cond.lays "PolicyTree$Standing" "PolicyTree$Standing" "known" "I") ∈ TB := tbk_1 (List.mem_of_getElem? (i := 160) rfl) rfl
theorem wd_1_162 : (Jvm.Cond.lays "PolicyTree$Standing" "PolicyTree$Standing" "yes" "I") ∈ TB := tbk_1 (List.mem_of_getElem? (i := 162) rfl) rfl
theorem wd_1_164 : (Jvm.Cond.lays "PolicyTree$Standing" "PolicyTree$Standing" "groups" "I") ∈ TB := tbk_1 (List.mem_of_getElem? (i := 164) rfl) rfl
theorem wd_1_166 : (Jvm.Cond.lays "PolicyTree$Standing" "PolicyTree$Standing" "way" "J") ∈ TB := tbk_1 (List.mem_of_getElem? (i := 166) rfl) rfl
theorem wd_1_169 : (Jvm.Cond.fieldLink "PolicyTree$Row" (12 : Nat) "PolicyTree$Row" "way" "Ljava/util/ArrayList;") ∈ TB := tbk_1 (List.mem_of_getElem? (i := 169) rfl) rfl
theorem wd_1_170 : (Jvm.Cond.fieldLink "PolicyTree$Row" (18 : Nat) "PolicyTree$Row" "links" "Ljava/util/ArrayList;") ∈ TB := tbk_1 (List.mem_of_getElem? (i := 170) rfl) rfl
theorem wd_1_171 : (Jvm.Cond.fieldLink "PolicyTree$Row" (21 : Nat) "PolicyTree$Row" "weights" "[J") ∈ TB := tbk_1 (List.mem_of_getElem? (i := 171) rfl) rfl
theorem wd_1_172 : (Jvm.Cond.fieldLink "PolicyTree$Row" (28 : Nat) "PolicyTree$Row" "standing" "LPolicyTree$Standing;") ∈ TB := tbk_1 (List.mem_of_getElem? (i := 172) rfl) rfl
theorem wd_1_173 : (Jvm.Cond.laysFinal "PolicyTree$Row" "PolicyTree$Row" "way" "Ljava/util/ArrayList;") ∈ TB := tbk_1 (List.mem_of_getElem? (i := 173) rfl) rfl
theorem wd_1_175 : (Jvm.Cond.laysFinal "PolicyTree$Row" "PolicyTree$Row" "links" "Ljava/util/ArrayList;") ∈ TB := tbk_1 (List.mem_of_getElem? (i := 175) rfl) rfl
theorem wd_1_177 : (Jvm.Cond.laysFinal "PolicyTree$Row" "PolicyTree$Row" "weights" "[J") ∈ TB := tbk_1 (List.mem_of_getElem? (i := 177) rfl) rfl
theorem wd_1_179 : (Jvm.Cond.laysFinal "PolicyTree$Row" "PolicyTree$Row" "standing" "LPolicyTree$Standing;") ∈ TB := tbk_1 (List.mem_of_getElem? (i := 179) rfl) rfl
theorem wd_1_182 : (Jvm.Cond.classLink "PolicyTree" (66 : Nat) "PolicyTree$Outcome") ∈ TB := tbk_1 (List.mem_of_getElem? (i := 182) rfl) rfl
theorem wd_1_183 : (Jvm.Cond.instantiable "PolicyTree$Outcome" (3 : Nat)) ∈ TB := tbk_1 (List.mem_of_getElem? (i := 183) rfl) rfl
theorem wd_1_185 : (Jvm.Cond.instanceMethod ({ cls := "PolicyTree$Outcome", name := "<init>", desc := "()V" } : Jvm.MethodName)) ∈ TB := tbk_1 (List.mem_of_getElem? (i := 185) rfl) rfl
theorem wd_1_186 : (Jvm.Cond.code ({ cls := "PolicyTree$Outcome", name := "<init>", desc := "()V" } : Jvm.MethodName) prog_9_method_1_code (1 : Nat) (Option.none : Option Jvm.ClassFile.FieldType)) ∈ TB := tbk_1 (List.mem_of_getElem? (i := 186) rfl) rfl
theorem wd_1_187 : (Jvm.Cond.methodLink "PolicyTree$Outcome" (3 : Nat) ({ cls := "java/lang/Object", name := "<init>", desc := "()V" } : Jvm.MethodName)) ∈ TB := tbk_1 (List.mem_of_getElem? (i := 187) rfl) rfl
theorem wd_1_188 : (Jvm.Cond.fieldLink "PolicyTree$Outcome" (9 : Nat) "PolicyTree$Outcome" "values" "[I") ∈ TB := tbk_1 (List.mem_of_getElem? (i := 188) rfl) rfl
theorem wd_1_189 : (Jvm.Cond.fieldLink "PolicyTree$Outcome" (15 : Nat) "PolicyTree$Outcome" "size" "I") ∈ TB := tbk_1 (List.mem_of_getElem? (i := 189) rfl) rfl
theorem wd_1_190 : (Jvm.Cond.fieldLink "PolicyTree$Outcome" (19 : Nat) "PolicyTree$Outcome" "link" "LPolicyTree$Link;") ∈ TB := tbk_1 (List.mem_of_getElem? (i := 190) rfl) rfl
theorem wd_1_191 : (Jvm.Cond.laysFinal "PolicyTree$Outcome" "PolicyTree$Outcome" "values" "[I") ∈ TB := tbk_1 (List.mem_of_getElem? (i := 191) rfl) rfl
theorem wd_1_193 : (Jvm.Cond.lays "PolicyTree$Outcome" "PolicyTree$Outcome" "size" "I") ∈ TB := tbk_1 (List.mem_of_getElem? (i := 193) rfl) rfl
theorem wd_1_195 : (Jvm.Cond.lays "PolicyTree$Outcome" "PolicyTree$Outcome" "link" "LPolicyTree$Link;") ∈ TB := tbk_1 (List.mem_of_getElem? (i := 195) rfl) rfl
theorem wd_1_198 : (Jvm.Cond.classLink "PolicyTree" (79 : Nat) "PolicyTree$Node") ∈ TB := tbk_1 (List.mem_of_getElem? (i := 198) rfl) rfl
theorem wd_1_199 : (Jvm.Cond.instantiable "PolicyTree$Node" (4 : Nat)) ∈ TB := tbk_1 (List.mem_of_getElem? (i := 199) rfl) rfl
theorem wd_1_200 : (Jvm.Cond.methodLink "PolicyTree" (81 : Nat) ({ cls := "PolicyTree$Node", name := "<init>", desc := "(ILPolicyTree$Node;)V" } : Jvm.MethodName)) ∈ TB := tbk_1 (List.mem_of_getElem? (i := 200) rfl) rfl
theorem wd_1_201 : (Jvm.Cond.instanceMethod ({ cls := "PolicyTree$Node", name := "<init>", desc := "(ILPolicyTree$Node;)V" } : Jvm.MethodName)) ∈ TB := tbk_1 (List.mem_of_getElem? (i := 201) rfl) rfl
theorem wd_1_202 : (Jvm.Cond.code ({ cls := "PolicyTree$Node", name := "<init>", desc := "(ILPolicyTree$Node;)V" } : Jvm.MethodName) prog_8_method_1_code (3 : Nat) (Option.none : Option Jvm.ClassFile.FieldType)) ∈ TB := tbk_1 (List.mem_of_getElem? (i := 202) rfl) rfl
theorem wd_1_203 : (Jvm.Cond.methodLink "PolicyTree$Node" (1 : Nat) ({ cls := "java/lang/Object", name := "<init>", desc := "()V" } : Jvm.MethodName)) ∈ TB := tbk_1 (List.mem_of_getElem? (i := 203) rfl) rfl
theorem wd_1_204 : (Jvm.Cond.classLink "PolicyTree$Node" (7 : Nat) "java/util/ArrayList") ∈ TB := tbk_1 (List.mem_of_getElem? (i := 204) rfl) rfl
theorem wd_1_205 : (Jvm.Cond.methodLink "PolicyTree$Node" (9 : Nat) ({ cls := "java/util/ArrayList", name := "<init>", desc := "()V" } : Jvm.MethodName)) ∈ TB := tbk_1 (List.mem_of_getElem? (i := 205) rfl) rfl
theorem wd_1_206 : (Jvm.Cond.fieldLink "PolicyTree$Node" (16 : Nat) "PolicyTree$Node" "number" "I") ∈ TB := tbk_1 (List.mem_of_getElem? (i := 206) rfl) rfl
theorem wd_1_207 : (Jvm.Cond.fieldLink "PolicyTree$Row" (45 : Nat) "PolicyTree$Node" "number" "I") ∈ TB := tbk_1 (List.mem_of_getElem? (i := 207) rfl) rfl
theorem wd_1_208 : (Jvm.Cond.fieldLink "PolicyTree$Node" (20 : Nat) "PolicyTree$Node" "above" "LPolicyTree$Node;") ∈ TB := tbk_1 (List.mem_of_getElem? (i := 208) rfl) rfl
theorem wd_1_209 : (Jvm.Cond.fieldLink "PolicyTree$Row" (51 : Nat) "PolicyTree$Node" "above" "LPolicyTree$Node;") ∈ TB := tbk_1 (List.mem_of_getElem? (i := 209) rfl) rfl
theorem wd_1_210 : (Jvm.Cond.fieldLink "PolicyTree" (121 : Nat) "PolicyTree$Node" "above" "LPolicyTree$Node;") ∈ TB := tbk_1 (List.mem_of_getElem? (i := 210) rfl) rfl
theorem wd_1_211 : (Jvm.Cond.fieldLink "PolicyTree" (103 : Nat) "PolicyTree$Node" "blocked" "Z") ∈ TB := tbk_1 (List.mem_of_getElem? (i := 211) rfl) rfl
theorem wd_1_212 : (Jvm.Cond.fieldLink "PolicyTree$Row" (95 : Nat) "PolicyTree$Node" "blocked" "Z") ∈ TB := tbk_1 (List.mem_of_getElem? (i := 212) rfl) rfl
theorem wd_1_213 : (Jvm.Cond.fieldLink "PolicyTree$Node" (10 : Nat) "PolicyTree$Node" "links" "Ljava/util/ArrayList;") ∈ TB := tbk_1 (List.mem_of_getElem? (i := 213) rfl) rfl
theorem wd_1_214 : (Jvm.Cond.laysFinal "PolicyTree$Node" "PolicyTree$Node" "number" "I") ∈ TB := tbk_1 (List.mem_of_getElem? (i := 214) rfl) rfl
theorem wd_1_216 : (Jvm.Cond.lays "PolicyTree$Node" "PolicyTree$Node" "above" "LPolicyTree$Node;") ∈ TB := tbk_1 (List.mem_of_getElem? (i := 216) rfl) rfl
theorem wd_1_218 : (Jvm.Cond.lays "PolicyTree$Node" "PolicyTree$Node" "blocked" "Z") ∈ TB := tbk_1 (List.mem_of_getElem? (i := 218) rfl) rfl
theorem wd_1_220 : (Jvm.Cond.laysFinal "PolicyTree$Node" "PolicyTree$Node" "links" "Ljava/util/ArrayList;") ∈ TB := tbk_1 (List.mem_of_getElem? (i := 220) rfl) rfl
theorem wd_1_223 : (Jvm.Cond.methodLink "PolicyTree" (84 : Nat) ({ cls := "java/util/ArrayList", name := "add", desc := "(Ljava/lang/Object;)Z" } : Jvm.MethodName)) ∈ TB := tbk_1 (List.mem_of_getElem? (i := 223) rfl) rfl
theorem wd_1_224 : (Jvm.Cond.instanceMethod ({ cls := "java/util/ArrayList", name := "add", desc := "(Ljava/lang/Object;)Z" } : Jvm.MethodName)) ∈ TB := tbk_1 (List.mem_of_getElem? (i := 224) rfl) rfl
theorem wd_1_225 : (Jvm.Cond.selects "java/util/ArrayList" ({ cls := "java/util/ArrayList", name := "add", desc := "(Ljava/lang/Object;)Z" } : Jvm.MethodName) ({ cls := "java/util/ArrayList", name := "add", desc := "(Ljava/lang/Object;)Z" } : Jvm.MethodName)) ∈ TB := tbk_1 (List.mem_of_getElem? (i := 225) rfl) rfl
theorem wd_1_226 : (Jvm.Cond.code ({ cls := "java/util/ArrayList", name := "add", desc := "(Ljava/lang/Object;)Z" } : Jvm.MethodName) prog_34_method_25_code (2 : Nat) (Option.some Jvm.ClassFile.FieldType.boolean)) ∈ TB := tbk_1 (List.mem_of_getElem? (i := 226) rfl) rfl
theorem wd_1_227 : (Jvm.Cond.methodLink "java/util/ArrayList" (131 : Nat) ({ cls := "java/util/ArrayList", name := "add", desc := "(Ljava/lang/Object;[Ljava/lang/Object;I)V" } : Jvm.MethodName)) ∈ TB := tbk_1 (List.mem_of_getElem? (i := 227) rfl) rfl
theorem wd_1_229 : (Jvm.Cond.instanceMethod ({ cls := "java/util/ArrayList", name := "add", desc := "(Ljava/lang/Object;[Ljava/lang/Object;I)V" } : Jvm.MethodName)) ∈ TB := tbk_1 (List.mem_of_getElem? (i := 229) rfl) rfl
theorem wd_1_230 : (Jvm.Cond.code ({ cls := "java/util/ArrayList", name := "add", desc := "(Ljava/lang/Object;[Ljava/lang/Object;I)V" } : Jvm.MethodName) prog_34_method_24_code (4 : Nat) (Option.none : Option Jvm.ClassFile.FieldType)) ∈ TB := tbk_1 (List.mem_of_getElem? (i := 230) rfl) rfl
theorem wd_1_231 : (Jvm.Cond.methodLink "java/util/ArrayList" (129 : Nat) ({ cls := "java/util/ArrayList", name := "grow", desc := "()[Ljava/lang/Object;" } : Jvm.MethodName)) ∈ TB := tbk_1 (List.mem_of_getElem? (i := 231) rfl) rfl
theorem wd_1_233 : (Jvm.Cond.instanceMethod ({ cls := "java/util/ArrayList", name := "grow", desc := "()[Ljava/lang/Object;" } : Jvm.MethodName)) ∈ TB := tbk_1 (List.mem_of_getElem? (i := 233) rfl) rfl
theorem wd_1_234 : (Jvm.Cond.code ({ cls := "java/util/ArrayList", name := "grow", desc := "()[Ljava/lang/Object;" } : Jvm.MethodName) prog_34_method_7_code (1 : Nat) (Option.some (Jvm.ClassFile.FieldType.array (Jvm.ClassFile.FieldType.object "java/lang/Object")))) ∈ TB := tbk_1 (List.mem_of_getElem? (i := 234) rfl) rfl
theorem wd_1_235 : (Jvm.Cond.methodLink "java/util/ArrayList" (69 : Nat) ({ cls := "java/util/ArrayList", name := "grow", desc := "(I)[Ljava/lang/Object;" } : Jvm.MethodName)) ∈ TB := tbk_1 (List.mem_of_getElem? (i := 235) rfl) rfl
theorem wd_1_237 : (Jvm.Cond.instanceMethod ({ cls := "java/util/ArrayList", name := "grow", desc := "(I)[Ljava/lang/Object;" } : Jvm.MethodName)) ∈ TB := tbk_1 (List.mem_of_getElem? (i := 237) rfl) rfl
theorem wd_1_238 : (Jvm.Cond.code ({ cls := "java/util/ArrayList", name := "grow", desc := "(I)[Ljava/lang/Object;" } : Jvm.MethodName) prog_34_method_6_code (4 : Nat) (Option.some (Jvm.ClassFile.FieldType.array (Jvm.ClassFile.FieldType.object "java/lang/Object")))) ∈ TB := tbk_1 (List.mem_of_getElem? (i := 238) rfl) rfl
theorem wd_1_239 : (Jvm.Cond.methodLink "java/util/ArrayList" (73 : Nat) ({ cls := "jdk/internal/util/ArraysSupport", name := "newLength", desc := "(III)I" } : Jvm.MethodName)) ∈ TB := tbk_1 (List.mem_of_getElem? (i := 239) rfl) rfl
theorem wd_2_0 : (Jvm.Cond.static ({ cls := "jdk/internal/util/ArraysSupport", name := "newLength", desc := "(III)I" } : Jvm.MethodName)) ∈ TB := tbk_2 (List.mem_of_getElem? (i := 0) rfl) rfl
theorem wd_2_1 : (Jvm.Cond.code ({ cls := "jdk/internal/util/ArraysSupport", name := "newLength", desc := "(III)I" } : Jvm.MethodName) prog_41_method_27_code (4 : Nat) (Option.some Jvm.ClassFile.FieldType.int)) ∈ TB := tbk_2 (List.mem_of_getElem? (i := 1) rfl) rfl
theorem wd_2_2 : (Jvm.Cond.methodLink "jdk/internal/util/ArraysSupport" (194 : Nat) ({ cls := "java/lang/Math", name := "max", desc := "(II)I" } : Jvm.MethodName)) ∈ TB := tbk_2 (List.mem_of_getElem? (i := 2) rfl) rfl
theorem wd_2_3 : (Jvm.Cond.static ({ cls := "java/lang/Math", name := "max", desc := "(II)I" } : Jvm.MethodName)) ∈ TB := tbk_2 (List.mem_of_getElem? (i := 3) rfl) rfl
theorem wd_2_4 : (Jvm.Cond.code ({ cls := "java/lang/Math", name := "max", desc := "(II)I" } : Jvm.MethodName) prog_24_method_65_code (2 : Nat) (Option.some Jvm.ClassFile.FieldType.int)) ∈ TB := tbk_2 (List.mem_of_getElem? (i := 4) rfl) rfl
theorem wd_2_5 : (Jvm.Cond.constant "jdk/internal/util/ArraysSupport" (200 : Nat) (2147483639 : Int32)) ∈ TB := tbk_2 (List.mem_of_getElem? (i := 5) rfl) rfl
theorem wd_2_6 : (Jvm.Cond.methodLink "jdk/internal/util/ArraysSupport" (201 : Nat) ({ cls := "jdk/internal/util/ArraysSupport", name := "hugeLength", desc := "(II)I" } : Jvm.MethodName)) ∈ TB := tbk_2 (List.mem_of_getElem? (i := 6) rfl) rfl
theorem wd_2_7 : (Jvm.Cond.static ({ cls := "jdk/internal/util/ArraysSupport", name := "hugeLength", desc := "(II)I" } : Jvm.MethodName)) ∈ TB := tbk_2 (List.mem_of_getElem? (i := 7) rfl) rfl
theorem wd_2_8 : (Jvm.Cond.code ({ cls := "jdk/internal/util/ArraysSupport", name := "hugeLength", desc := "(II)I" } : Jvm.MethodName) prog_41_method_28_code (3 : Nat) (Option.some Jvm.ClassFile.FieldType.int)) ∈ TB := tbk_2 (List.mem_of_getElem? (i := 8) rfl) rfl
theorem wd_2_9 : (Jvm.Cond.methodLink "java/util/ArrayList" (66 : Nat) ({ cls := "java/util/Arrays", name := "copyOf", desc := "([Ljava/lang/Object;I)[Ljava/lang/Object;" } : Jvm.MethodName)) ∈ TB := tbk_2 (List.mem_of_getElem? (i := 9) rfl) rfl
theorem wd_2_10 : (Jvm.Cond.static ({ cls := "java/util/Arrays", name := "copyOf", desc := "([Ljava/lang/Object;I)[Ljava/lang/Object;" } : Jvm.MethodName)) ∈ TB := tbk_2 (List.mem_of_getElem? (i := 10) rfl) rfl
theorem wd_2_11 : (Jvm.Cond.code ({ cls := "java/util/Arrays", name := "copyOf", desc := "([Ljava/lang/Object;I)[Ljava/lang/Object;" } : Jvm.MethodName) prog_35_method_119_code (2 : Nat) (Option.some (Jvm.ClassFile.FieldType.array (Jvm.ClassFile.FieldType.object "java/lang/Object")))) ∈ TB := tbk_2 (List.mem_of_getElem? (i := 11) rfl) rfl
theorem wd_2_12 : (Jvm.Cond.methodLink "java/util/Arrays" (86 : Nat) ({ cls := "java/lang/Object", name := "getClass", desc := "()Ljava/lang/Class;" } : Jvm.MethodName)) ∈ TB := tbk_2 (List.mem_of_getElem? (i := 12) rfl) rfl
theorem wd_2_13 : (Jvm.Cond.instanceMethod ({ cls := "java/lang/Object", name := "getClass", desc := "()Ljava/lang/Class;" } : Jvm.MethodName)) ∈ TB := tbk_2 (List.mem_of_getElem? (i := 13) rfl) rfl
theorem wd_2_14 : (Jvm.Cond.sameMethod "java/lang/Object" "java/lang/Object" "getClass" "()Ljava/lang/Class;") ∈ TB := tbk_2 (List.mem_of_getElem? (i := 14) rfl) rfl
theorem wd_2_15 : (Jvm.Cond.selects "PolicyTree" ({ cls := "java/lang/Object", name := "getClass", desc := "()Ljava/lang/Class;" } : Jvm.MethodName) ({ cls := "java/lang/Object", name := "getClass", desc := "()Ljava/lang/Class;" } : Jvm.MethodName)) ∈ TB := tbk_2 (List.mem_of_getElem? (i := 15) rfl) rfl
theorem wd_2_16 : (Jvm.Cond.selects "PolicyTree$Bundle" ({ cls := "java/lang/Object", name := "getClass", desc := "()Ljava/lang/Class;" } : Jvm.MethodName) ({ cls := "java/lang/Object", name := "getClass", desc := "()Ljava/lang/Class;" } : Jvm.MethodName)) ∈ TB := tbk_2 (List.mem_of_getElem? (i := 16) rfl) rfl
theorem wd_2_17 : (Jvm.Cond.selects "PolicyTree$Filter" ({ cls := "java/lang/Object", name := "getClass", desc := "()Ljava/lang/Class;" } : Jvm.MethodName) ({ cls := "java/lang/Object", name := "getClass", desc := "()Ljava/lang/Class;" } : Jvm.MethodName)) ∈ TB := tbk_2 (List.mem_of_getElem? (i := 17) rfl) rfl
theorem wd_2_18 : (Jvm.Cond.selects "PolicyTree$FilterReader" ({ cls := "java/lang/Object", name := "getClass", desc := "()Ljava/lang/Class;" } : Jvm.MethodName) ({ cls := "java/lang/Object", name := "getClass", desc := "()Ljava/lang/Class;" } : Jvm.MethodName)) ∈ TB := tbk_2 (List.mem_of_getElem? (i := 18) rfl) rfl
theorem wd_2_19 : (Jvm.Cond.selects "PolicyTree$Groups" ({ cls := "java/lang/Object", name := "getClass", desc := "()Ljava/lang/Class;" } : Jvm.MethodName) ({ cls := "java/lang/Object", name := "getClass", desc := "()Ljava/lang/Class;" } : Jvm.MethodName)) ∈ TB := tbk_2 (List.mem_of_getElem? (i := 19) rfl) rfl
theorem wd_2_20 : (Jvm.Cond.selects "PolicyTree$Link" ({ cls := "java/lang/Object", name := "getClass", desc := "()Ljava/lang/Class;" } : Jvm.MethodName) ({ cls := "java/lang/Object", name := "getClass", desc := "()Ljava/lang/Class;" } : Jvm.MethodName)) ∈ TB := tbk_2 (List.mem_of_getElem? (i := 20) rfl) rfl
theorem wd_2_21 : (Jvm.Cond.selects "PolicyTree$Machine" ({ cls := "java/lang/Object", name := "getClass", desc := "()Ljava/lang/Class;" } : Jvm.MethodName) ({ cls := "java/lang/Object", name := "getClass", desc := "()Ljava/lang/Class;" } : Jvm.MethodName)) ∈ TB := tbk_2 (List.mem_of_getElem? (i := 21) rfl) rfl
theorem wd_2_22 : (Jvm.Cond.selects "PolicyTree$Node" ({ cls := "java/lang/Object", name := "getClass", desc := "()Ljava/lang/Class;" } : Jvm.MethodName) ({ cls := "java/lang/Object", name := "getClass", desc := "()Ljava/lang/Class;" } : Jvm.MethodName)) ∈ TB := tbk_2 (List.mem_of_getElem? (i := 22) rfl) rfl
theorem wd_2_23 : (Jvm.Cond.selects "PolicyTree$Outcome" ({ cls := "java/lang/Object", name := "getClass", desc := "()Ljava/lang/Class;" } : Jvm.MethodName) ({ cls := "java/lang/Object", name := "getClass", desc := "()Ljava/lang/Class;" } : Jvm.MethodName)) ∈ TB := tbk_2 (List.mem_of_getElem? (i := 23) rfl) rfl
theorem wd_2_24 : (Jvm.Cond.selects "PolicyTree$Row" ({ cls := "java/lang/Object", name := "getClass", desc := "()Ljava/lang/Class;" } : Jvm.MethodName) ({ cls := "java/lang/Object", name := "getClass", desc := "()Ljava/lang/Class;" } : Jvm.MethodName)) ∈ TB := tbk_2 (List.mem_of_getElem? (i := 24) rfl) rfl
theorem wd_2_25 : (Jvm.Cond.selects "PolicyTree$Standing" ({ cls := "java/lang/Object", name := "getClass", desc := "()Ljava/lang/Class;" } : Jvm.MethodName) ({ cls := "java/lang/Object", name := "getClass", desc := "()Ljava/lang/Class;" } : Jvm.MethodName)) ∈ TB := tbk_2 (List.mem_of_getElem? (i := 25) rfl) rfl
theorem wd_2_26 : (Jvm.Cond.selects "PolicyTree$Tape" ({ cls := "java/lang/Object", name := "getClass", desc := "()Ljava/lang/Class;" } : Jvm.MethodName) ({ cls := "java/lang/Object", name := "getClass", desc := "()Ljava/lang/Class;" } : Jvm.MethodName)) ∈ TB := tbk_2 (List.mem_of_getElem? (i := 26) rfl) rfl
theorem wd_2_27 : (Jvm.Cond.selects "PolicyTreeModel" ({ cls := "java/lang/Object", name := "getClass", desc := "()Ljava/lang/Class;" } : Jvm.MethodName) ({ cls := "java/lang/Object", name := "getClass", desc := "()Ljava/lang/Class;" } : Jvm.MethodName)) ∈ TB := tbk_2 (List.mem_of_getElem? (i := 27) rfl) rfl
theorem wd_2_28 : (Jvm.Cond.selects "java/lang/IllegalArgumentException" ({ cls := "java/lang/Object", name := "getClass", desc := "()Ljava/lang/Class;" } : Jvm.MethodName) ({ cls := "java/lang/Object", name := "getClass", desc := "()Ljava/lang/Class;" } : Jvm.MethodName)) ∈ TB := tbk_2 (List.mem_of_getElem? (i := 28) rfl) rfl
theorem wd_2_29 : (Jvm.Cond.selects "java/lang/IllegalStateException" ({ cls := "java/lang/Object", name := "getClass", desc := "()Ljava/lang/Class;" } : Jvm.MethodName) ({ cls := "java/lang/Object", name := "getClass", desc := "()Ljava/lang/Class;" } : Jvm.MethodName)) ∈ TB := tbk_2 (List.mem_of_getElem? (i := 29) rfl) rfl
theorem wd_2_30 : (Jvm.Cond.selects "java/lang/IndexOutOfBoundsException" ({ cls := "java/lang/Object", name := "getClass", desc := "()Ljava/lang/Class;" } : Jvm.MethodName) ({ cls := "java/lang/Object", name := "getClass", desc := "()Ljava/lang/Class;" } : Jvm.MethodName)) ∈ TB := tbk_2 (List.mem_of_getElem? (i := 30) rfl) rfl
theorem wd_2_31 : (Jvm.Cond.selects "java/lang/String" ({ cls := "java/lang/Object", name := "getClass", desc := "()Ljava/lang/Class;" } : Jvm.MethodName) ({ cls := "java/lang/Object", name := "getClass", desc := "()Ljava/lang/Class;" } : Jvm.MethodName)) ∈ TB := tbk_2 (List.mem_of_getElem? (i := 31) rfl) rfl
theorem wd_2_32 : (Jvm.Cond.selects "java/lang/StringBuilder" ({ cls := "java/lang/Object", name := "getClass", desc := "()Ljava/lang/Class;" } : Jvm.MethodName) ({ cls := "java/lang/Object", name := "getClass", desc := "()Ljava/lang/Class;" } : Jvm.MethodName)) ∈ TB := tbk_2 (List.mem_of_getElem? (i := 32) rfl) rfl
theorem wd_2_33 : (Jvm.Cond.selects "java/util/ArrayList" ({ cls := "java/lang/Object", name := "getClass", desc := "()Ljava/lang/Class;" } : Jvm.MethodName) ({ cls := "java/lang/Object", name := "getClass", desc := "()Ljava/lang/Class;" } : Jvm.MethodName)) ∈ TB := tbk_2 (List.mem_of_getElem? (i := 33) rfl) rfl
theorem wd_2_34 : (Jvm.Cond.native ({ cls := "java/lang/Object", name := "getClass", desc := "()Ljava/lang/Class;" } : Jvm.MethodName)) ∈ TB := tbk_2 (List.mem_of_getElem? (i := 34) rfl) rfl
theorem wd_2_35 : (Jvm.Cond.methodLink "java/util/Arrays" (300 : Nat) ({ cls := "java/util/Arrays", name := "copyOf", desc := "([Ljava/lang/Object;ILjava/lang/Class;)[Ljava/lang/Object;" } : Jvm.MethodName)) ∈ TB := tbk_2 (List.mem_of_getElem? (i := 35) rfl) rfl
theorem wd_2_36 : (Jvm.Cond.static ({ cls := "java/util/Arrays", name := "copyOf", desc := "([Ljava/lang/Object;ILjava/lang/Class;)[Ljava/lang/Object;" } : Jvm.MethodName)) ∈ TB := tbk_2 (List.mem_of_getElem? (i := 36) rfl) rfl
theorem wd_2_37 : (Jvm.Cond.code ({ cls := "java/util/Arrays", name := "copyOf", desc := "([Ljava/lang/Object;ILjava/lang/Class;)[Ljava/lang/Object;" } : Jvm.MethodName) prog_35_method_120_code (4 : Nat) (Option.some (Jvm.ClassFile.FieldType.array (Jvm.ClassFile.FieldType.object "java/lang/Object")))) ∈ TB := tbk_2 (List.mem_of_getElem? (i := 37) rfl) rfl
theorem wd_2_38 : (Jvm.Cond.classLink "java/util/Arrays" (110 : Nat) "[Ljava/lang/Object;") ∈ TB := tbk_2 (List.mem_of_getElem? (i := 38) rfl) rfl
theorem wd_2_40 : (Jvm.Cond.classLink "java/util/Arrays" (2 : Nat) "java/lang/Object") ∈ TB := tbk_2 (List.mem_of_getElem? (i := 40) rfl) rfl
theorem wd_2_41 : (Jvm.Cond.methodLink "java/util/Arrays" (304 : Nat) ({ cls := "java/lang/Math", name := "min", desc := "(II)I" } : Jvm.MethodName)) ∈ TB := tbk_2 (List.mem_of_getElem? (i := 41) rfl) rfl
theorem wd_2_42 : (Jvm.Cond.static ({ cls := "java/lang/Math", name := "min", desc := "(II)I" } : Jvm.MethodName)) ∈ TB := tbk_2 (List.mem_of_getElem? (i := 42) rfl) rfl
theorem wd_2_43 : (Jvm.Cond.code ({ cls := "java/lang/Math", name := "min", desc := "(II)I" } : Jvm.MethodName) prog_24_method_69_code (2 : Nat) (Option.some Jvm.ClassFile.FieldType.int)) ∈ TB := tbk_2 (List.mem_of_getElem? (i := 43) rfl) rfl
theorem wd_2_44 : (Jvm.Cond.methodLink "java/util/Arrays" (150 : Nat) ({ cls := "java/lang/System", name := "arraycopy", desc := "(Ljava/lang/Object;ILjava/lang/Object;II)V" } : Jvm.MethodName)) ∈ TB := tbk_2 (List.mem_of_getElem? (i := 44) rfl) rfl
theorem wd_2_45 : (Jvm.Cond.static ({ cls := "java/lang/System", name := "arraycopy", desc := "(Ljava/lang/Object;ILjava/lang/Object;II)V" } : Jvm.MethodName)) ∈ TB := tbk_2 (List.mem_of_getElem? (i := 45) rfl) rfl
theorem wd_2_46 : (Jvm.Cond.native ({ cls := "java/lang/System", name := "arraycopy", desc := "(Ljava/lang/Object;ILjava/lang/Object;II)V" } : Jvm.MethodName)) ∈ TB := tbk_2 (List.mem_of_getElem? (i := 46) rfl) rfl
theorem wd_2_47 : (Jvm.Cond.methodLink "java/util/ArrayList" (79 : Nat) ({ cls := "java/lang/Math", name := "max", desc := "(II)I" } : Jvm.MethodName)) ∈ TB := tbk_2 (List.mem_of_getElem? (i := 47) rfl) rfl
theorem wd_2_48 : (Jvm.Cond.classLink "java/util/ArrayList" (7 : Nat) "java/lang/Object") ∈ TB := tbk_2 (List.mem_of_getElem? (i := 48) rfl) rfl
theorem wd_2_49 : (Jvm.Cond.fieldLink "PolicyTree" (10 : Nat) "PolicyTree" "nodes" "Ljava/util/ArrayList;") ∈ TB := tbk_2 (List.mem_of_getElem? (i := 49) rfl) rfl
theorem wd_2_50 : (Jvm.Cond.fieldLink "PolicyTree" (16 : Nat) "PolicyTree" "machines" "Ljava/util/ArrayList;") ∈ TB := tbk_2 (List.mem_of_getElem? (i := 50) rfl) rfl
theorem wd_2_51 : (Jvm.Cond.fieldLink "PolicyTree" (22 : Nat) "PolicyTree" "groups" "LPolicyTree$Groups;") ∈ TB := tbk_2 (List.mem_of_getElem? (i := 51) rfl) rfl
theorem wd_2_52 : (Jvm.Cond.fieldLink "PolicyTree" (26 : Nat) "PolicyTree" "sets" "Ljava/util/ArrayList;") ∈ TB := tbk_2 (List.mem_of_getElem? (i := 52) rfl) rfl
theorem wd_2_53 : (Jvm.Cond.fieldLink "PolicyTree" (29 : Nat) "PolicyTree" "links" "Ljava/util/ArrayList;") ∈ TB := tbk_2 (List.mem_of_getElem? (i := 53) rfl) rfl
theorem wd_2_54 : (Jvm.Cond.fieldLink "PolicyTree" (32 : Nat) "PolicyTree" "laws" "[I") ∈ TB := tbk_2 (List.mem_of_getElem? (i := 54) rfl) rfl
theorem wd_2_55 : (Jvm.Cond.fieldLink "PolicyTree" (39 : Nat) "PolicyTree" "tape" "LPolicyTree$Tape;") ∈ TB := tbk_2 (List.mem_of_getElem? (i := 55) rfl) rfl
theorem wd_2_56 : (Jvm.Cond.fieldLink "PolicyTree" (48 : Nat) "PolicyTree" "reader" "LPolicyTree$FilterReader;") ∈ TB := tbk_2 (List.mem_of_getElem? (i := 56) rfl) rfl
theorem wd_2_57 : (Jvm.Cond.fieldLink "PolicyTree" (52 : Nat) "PolicyTree" "faultPlace" "I") ∈ TB := tbk_2 (List.mem_of_getElem? (i := 57) rfl) rfl
theorem wd_2_58 : (Jvm.Cond.fieldLink "PolicyTree" (59 : Nat) "PolicyTree" "row" "LPolicyTree$Row;") ∈ TB := tbk_2 (List.mem_of_getElem? (i := 58) rfl) rfl
theorem wd_2_59 : (Jvm.Cond.fieldLink "PolicyTree" (63 : Nat) "PolicyTree" "otherRow" "LPolicyTree$Row;") ∈ TB := tbk_2 (List.mem_of_getElem? (i := 59) rfl) rfl
theorem wd_2_60 : (Jvm.Cond.fieldLink "PolicyTree" (69 : Nat) "PolicyTree" "outcome" "LPolicyTree$Outcome;") ∈ TB := tbk_2 (List.mem_of_getElem? (i := 60) rfl) rfl
theorem wd_2_61 : (Jvm.Cond.fieldLink "PolicyTree" (73 : Nat) "PolicyTree" "otherOutcome" "LPolicyTree$Outcome;") ∈ TB := tbk_2 (List.mem_of_getElem? (i := 61) rfl) rfl
theorem wd_2_62 : (Jvm.Cond.fieldLink "PolicyTree" (76 : Nat) "PolicyTree" "pairs" "[I") ∈ TB := tbk_2 (List.mem_of_getElem? (i := 62) rfl) rfl
theorem wd_2_63 : (Jvm.Cond.laysFinal "PolicyTree" "PolicyTree" "nodes" "Ljava/util/ArrayList;") ∈ TB := tbk_2 (List.mem_of_getElem? (i := 63) rfl) rfl
theorem wd_2_65 : (Jvm.Cond.laysFinal "PolicyTree" "PolicyTree" "machines" "Ljava/util/ArrayList;") ∈ TB := tbk_2 (List.mem_of_getElem? (i := 65) rfl) rfl
theorem wd_2_67 : (Jvm.Cond.laysFinal "PolicyTree" "PolicyTree" "groups" "LPolicyTree$Groups;") ∈ TB := tbk_2 (List.mem_of_getElem? (i := 67) rfl) rfl
theorem wd_2_69 : (Jvm.Cond.laysFinal "PolicyTree" "PolicyTree" "sets" "Ljava/util/ArrayList;") ∈ TB := tbk_2 (List.mem_of_getElem? (i := 69) rfl) rfl
theorem wd_2_71 : (Jvm.Cond.laysFinal "PolicyTree" "PolicyTree" "links" "Ljava/util/ArrayList;") ∈ TB := tbk_2 (List.mem_of_getElem? (i := 71) rfl) rfl
theorem wd_2_73 : (Jvm.Cond.laysFinal "PolicyTree" "PolicyTree" "laws" "[I") ∈ TB := tbk_2 (List.mem_of_getElem? (i := 73) rfl) rfl
theorem wd_2_75 : (Jvm.Cond.laysFinal "PolicyTree" "PolicyTree" "tape" "LPolicyTree$Tape;") ∈ TB := tbk_2 (List.mem_of_getElem? (i := 75) rfl) rfl
theorem wd_2_77 : (Jvm.Cond.laysFinal "PolicyTree" "PolicyTree" "reader" "LPolicyTree$FilterReader;") ∈ TB := tbk_2 (List.mem_of_getElem? (i := 77) rfl) rfl
theorem wd_2_79 : (Jvm.Cond.lays "PolicyTree" "PolicyTree" "faultPlace" "I") ∈ TB := tbk_2 (List.mem_of_getElem? (i := 79) rfl) rfl
theorem wd_2_81 : (Jvm.Cond.laysFinal "PolicyTree" "PolicyTree" "row" "LPolicyTree$Row;") ∈ TB := tbk_2 (List.mem_of_getElem? (i := 81) rfl) rfl
theorem wd_2_83 : (Jvm.Cond.laysFinal "PolicyTree" "PolicyTree" "otherRow" "LPolicyTree$Row;") ∈ TB := tbk_2 (List.mem_of_getElem? (i := 83) rfl) rfl
theorem wd_2_85 : (Jvm.Cond.laysFinal "PolicyTree" "PolicyTree" "outcome" "LPolicyTree$Outcome;") ∈ TB := tbk_2 (List.mem_of_getElem? (i := 85) rfl) rfl
theorem wd_2_87 : (Jvm.Cond.laysFinal "PolicyTree" "PolicyTree" "otherOutcome" "LPolicyTree$Outcome;") ∈ TB := tbk_2 (List.mem_of_getElem? (i := 87) rfl) rfl
theorem wd_2_89 : (Jvm.Cond.laysFinal "PolicyTree" "PolicyTree" "pairs" "[I") ∈ TB := tbk_2 (List.mem_of_getElem? (i := 89) rfl) rfl
theorem wd_2_92 : (Jvm.Cond.methodLink "PolicyTreeLaw" (148 : Nat) ({ cls := "PolicyTree", name := "feed", desc := "(IIIII)I" } : Jvm.MethodName)) ∈ TB := tbk_2 (List.mem_of_getElem? (i := 92) rfl) rfl
theorem wd_2_93 : (Jvm.Cond.instanceMethod ({ cls := "PolicyTree", name := "feed", desc := "(IIIII)I" } : Jvm.MethodName)) ∈ TB := tbk_2 (List.mem_of_getElem? (i := 93) rfl) rfl
theorem wd_2_94 : (Jvm.Cond.selects "PolicyTree" ({ cls := "PolicyTree", name := "feed", desc := "(IIIII)I" } : Jvm.MethodName) ({ cls := "PolicyTree", name := "feed", desc := "(IIIII)I" } : Jvm.MethodName)) ∈ TB := tbk_2 (List.mem_of_getElem? (i := 94) rfl) rfl
theorem wd_2_95 : (Jvm.Cond.code ({ cls := "PolicyTree", name := "feed", desc := "(IIIII)I" } : Jvm.MethodName) prog_1_method_15_code (6 : Nat) (Option.some Jvm.ClassFile.FieldType.int)) ∈ TB := tbk_2 (List.mem_of_getElem? (i := 95) rfl) rfl
theorem wd_2_96 : (Jvm.Cond.methodLink "PolicyTree" (168 : Nat) ({ cls := "PolicyTree$Tape", name := "hasRoom", desc := "(I)Z" } : Jvm.MethodName)) ∈ TB := tbk_2 (List.mem_of_getElem? (i := 96) rfl) rfl
theorem wd_2_97 : (Jvm.Cond.instanceMethod ({ cls := "PolicyTree$Tape", name := "hasRoom", desc := "(I)Z" } : Jvm.MethodName)) ∈ TB := tbk_2 (List.mem_of_getElem? (i := 97) rfl) rfl
theorem wd_2_98 : (Jvm.Cond.selects "PolicyTree$Tape" ({ cls := "PolicyTree$Tape", name := "hasRoom", desc := "(I)Z" } : Jvm.MethodName) ({ cls := "PolicyTree$Tape", name := "hasRoom", desc := "(I)Z" } : Jvm.MethodName)) ∈ TB := tbk_2 (List.mem_of_getElem? (i := 98) rfl) rfl
theorem wd_2_99 : (Jvm.Cond.code ({ cls := "PolicyTree$Tape", name := "hasRoom", desc := "(I)Z" } : Jvm.MethodName) prog_12_method_3_code (2 : Nat) (Option.some Jvm.ClassFile.FieldType.boolean)) ∈ TB := tbk_2 (List.mem_of_getElem? (i := 99) rfl) rfl
theorem wd_2_100 : (Jvm.Cond.methodLink "PolicyTree" (171 : Nat) ({ cls := "PolicyTree$Tape", name := "addNumber", desc := "(I)V" } : Jvm.MethodName)) ∈ TB := tbk_2 (List.mem_of_getElem? (i := 100) rfl) rfl
theorem wd_2_101 : (Jvm.Cond.instanceMethod ({ cls := "PolicyTree$Tape", name := "addNumber", desc := "(I)V" } : Jvm.MethodName)) ∈ TB := tbk_2 (List.mem_of_getElem? (i := 101) rfl) rfl
theorem wd_2_102 : (Jvm.Cond.selects "PolicyTree$Tape" ({ cls := "PolicyTree$Tape", name := "addNumber", desc := "(I)V" } : Jvm.MethodName) ({ cls := "PolicyTree$Tape", name := "addNumber", desc := "(I)V" } : Jvm.MethodName)) ∈ TB := tbk_2 (List.mem_of_getElem? (i := 102) rfl) rfl
theorem wd_2_103 : (Jvm.Cond.code ({ cls := "PolicyTree$Tape", name := "addNumber", desc := "(I)V" } : Jvm.MethodName) prog_12_method_4_code (3 : Nat) (Option.none : Option Jvm.ClassFile.FieldType)) ∈ TB := tbk_2 (List.mem_of_getElem? (i := 103) rfl) rfl
theorem wd_2_104 : (Jvm.Cond.methodLink "PolicyTree" (175 : Nat) ({ cls := "PolicyTree$Tape", name := "size", desc := "()I" } : Jvm.MethodName)) ∈ TB := tbk_2 (List.mem_of_getElem? (i := 104) rfl) rfl
theorem wd_2_105 : (Jvm.Cond.instanceMethod ({ cls := "PolicyTree$Tape", name := "size", desc := "()I" } : Jvm.MethodName)) ∈ TB := tbk_2 (List.mem_of_getElem? (i := 105) rfl) rfl
theorem wd_2_106 : (Jvm.Cond.selects "PolicyTree$Tape" ({ cls := "PolicyTree$Tape", name := "size", desc := "()I" } : Jvm.MethodName) ({ cls := "PolicyTree$Tape", name := "size", desc := "()I" } : Jvm.MethodName)) ∈ TB := tbk_2 (List.mem_of_getElem? (i := 106) rfl) rfl
theorem wd_2_107 : (Jvm.Cond.code ({ cls := "PolicyTree$Tape", name := "size", desc := "()I" } : Jvm.MethodName) prog_12_method_2_code (1 : Nat) (Option.some Jvm.ClassFile.FieldType.int)) ∈ TB := tbk_2 (List.mem_of_getElem? (i := 107) rfl) rfl
theorem wd_2_108 : (Jvm.Cond.methodLink "PolicyTreeLaw" (157 : Nat) ({ cls := "PolicyTree", name := "fault", desc := "()I" } : Jvm.MethodName)) ∈ TB := tbk_2 (List.mem_of_getElem? (i := 108) rfl) rfl
theorem wd_2_109 : (Jvm.Cond.instanceMethod ({ cls := "PolicyTree", name := "fault", desc := "()I" } : Jvm.MethodName)) ∈ TB := tbk_2 (List.mem_of_getElem? (i := 109) rfl) rfl
theorem wd_2_110 : (Jvm.Cond.selects "PolicyTree" ({ cls := "PolicyTree", name := "fault", desc := "()I" } : Jvm.MethodName) ({ cls := "PolicyTree", name := "fault", desc := "()I" } : Jvm.MethodName)) ∈ TB := tbk_2 (List.mem_of_getElem? (i := 110) rfl) rfl
theorem wd_2_111 : (Jvm.Cond.code ({ cls := "PolicyTree", name := "fault", desc := "()I" } : Jvm.MethodName) prog_1_method_17_code (1 : Nat) (Option.some Jvm.ClassFile.FieldType.int)) ∈ TB := tbk_2 (List.mem_of_getElem? (i := 111) rfl) rfl
theorem wd_2_112 : (Jvm.Cond.methodLink "PolicyTreeLaw" (185 : Nat) ({ cls := "PolicyTree", name := "quarrels", desc := "()I" } : Jvm.MethodName)) ∈ TB := tbk_2 (List.mem_of_getElem? (i := 112) rfl) rfl
theorem wd_2_113 : (Jvm.Cond.instanceMethod ({ cls := "PolicyTree", name := "quarrels", desc := "()I" } : Jvm.MethodName)) ∈ TB := tbk_2 (List.mem_of_getElem? (i := 113) rfl) rfl
theorem wd_2_114 : (Jvm.Cond.selects "PolicyTree" ({ cls := "PolicyTree", name := "quarrels", desc := "()I" } : Jvm.MethodName) ({ cls := "PolicyTree", name := "quarrels", desc := "()I" } : Jvm.MethodName)) ∈ TB := tbk_2 (List.mem_of_getElem? (i := 114) rfl) rfl
theorem wd_2_115 : (Jvm.Cond.code ({ cls := "PolicyTree", name := "quarrels", desc := "()I" } : Jvm.MethodName) prog_1_method_26_code (4 : Nat) (Option.some Jvm.ClassFile.FieldType.int)) ∈ TB := tbk_2 (List.mem_of_getElem? (i := 115) rfl) rfl
theorem wd_2_116 : (Jvm.Cond.methodLink "PolicyTree" (242 : Nat) ({ cls := "PolicyTree", name := "settingsOfLast", desc := "()I" } : Jvm.MethodName)) ∈ TB := tbk_2 (List.mem_of_getElem? (i := 116) rfl) rfl
theorem wd_2_118 : (Jvm.Cond.instanceMethod ({ cls := "PolicyTree", name := "settingsOfLast", desc := "()I" } : Jvm.MethodName)) ∈ TB := tbk_2 (List.mem_of_getElem? (i := 118) rfl) rfl
theorem wd_2_119 : (Jvm.Cond.code ({ cls := "PolicyTree", name := "settingsOfLast", desc := "()I" } : Jvm.MethodName) prog_1_method_37_code (3 : Nat) (Option.some Jvm.ClassFile.FieldType.int)) ∈ TB := tbk_2 (List.mem_of_getElem? (i := 119) rfl) rfl
theorem wd_2_120 : (Jvm.Cond.methodLink "PolicyTree" (88 : Nat) ({ cls := "java/util/ArrayList", name := "size", desc := "()I" } : Jvm.MethodName)) ∈ TB := tbk_2 (List.mem_of_getElem? (i := 120) rfl) rfl
theorem wd_2_121 : (Jvm.Cond.instanceMethod ({ cls := "java/util/ArrayList", name := "size", desc := "()I" } : Jvm.MethodName)) ∈ TB := tbk_2 (List.mem_of_getElem? (i := 121) rfl) rfl
theorem wd_2_122 : (Jvm.Cond.selects "java/util/ArrayList" ({ cls := "java/util/ArrayList", name := "size", desc := "()I" } : Jvm.MethodName) ({ cls := "java/util/ArrayList", name := "size", desc := "()I" } : Jvm.MethodName)) ∈ TB := tbk_2 (List.mem_of_getElem? (i := 122) rfl) rfl
theorem wd_2_123 : (Jvm.Cond.code ({ cls := "java/util/ArrayList", name := "size", desc := "()I" } : Jvm.MethodName) prog_34_method_8_code (1 : Nat) (Option.some Jvm.ClassFile.FieldType.int)) ∈ TB := tbk_2 (List.mem_of_getElem? (i := 123) rfl) rfl
theorem wd_2_124 : (Jvm.Cond.methodLink "PolicyTree" (245 : Nat) ({ cls := "PolicyTree", name := "countQuarrels", desc := "(II)I" } : Jvm.MethodName)) ∈ TB := tbk_2 (List.mem_of_getElem? (i := 124) rfl) rfl
theorem wd_2_126 : (Jvm.Cond.instanceMethod ({ cls := "PolicyTree", name := "countQuarrels", desc := "(II)I" } : Jvm.MethodName)) ∈ TB := tbk_2 (List.mem_of_getElem? (i := 126) rfl) rfl
theorem wd_2_127 : (Jvm.Cond.code ({ cls := "PolicyTree", name := "countQuarrels", desc := "(II)I" } : Jvm.MethodName) prog_1_method_38_code (6 : Nat) (Option.some Jvm.ClassFile.FieldType.int)) ∈ TB := tbk_2 (List.mem_of_getElem? (i := 127) rfl) rfl
theorem wd_2_128 : (Jvm.Cond.methodLink "PolicyTree" (99 : Nat) ({ cls := "java/util/ArrayList", name := "get", desc := "(I)Ljava/lang/Object;" } : Jvm.MethodName)) ∈ TB := tbk_2 (List.mem_of_getElem? (i := 128) rfl) rfl
theorem wd_2_129 : (Jvm.Cond.instanceMethod ({ cls := "java/util/ArrayList", name := "get", desc := "(I)Ljava/lang/Object;" } : Jvm.MethodName)) ∈ TB := tbk_2 (List.mem_of_getElem? (i := 129) rfl) rfl
theorem wd_2_130 : (Jvm.Cond.selects "java/util/ArrayList" ({ cls := "java/util/ArrayList", name := "get", desc := "(I)Ljava/lang/Object;" } : Jvm.MethodName) ({ cls := "java/util/ArrayList", name := "get", desc := "(I)Ljava/lang/Object;" } : Jvm.MethodName)) ∈ TB := tbk_2 (List.mem_of_getElem? (i := 130) rfl) rfl
theorem wd_2_131 : (Jvm.Cond.code ({ cls := "java/util/ArrayList", name := "get", desc := "(I)Ljava/lang/Object;" } : Jvm.MethodName) prog_34_method_20_code (2 : Nat) (Option.some (Jvm.ClassFile.FieldType.object "java/lang/Object"))) ∈ TB := tbk_2 (List.mem_of_getElem? (i := 131) rfl) rfl
theorem wd_2_132 : (Jvm.Cond.methodLink "java/util/ArrayList" (118 : Nat) ({ cls := "java/util/Objects", name := "checkIndex", desc := "(II)I" } : Jvm.MethodName)) ∈ TB := tbk_2 (List.mem_of_getElem? (i := 132) rfl) rfl
theorem wd_2_133 : (Jvm.Cond.static ({ cls := "java/util/Objects", name := "checkIndex", desc := "(II)I" } : Jvm.MethodName)) ∈ TB := tbk_2 (List.mem_of_getElem? (i := 133) rfl) rfl
theorem wd_2_134 : (Jvm.Cond.code ({ cls := "java/util/Objects", name := "checkIndex", desc := "(II)I" } : Jvm.MethodName) prog_38_method_17_code (2 : Nat) (Option.some Jvm.ClassFile.FieldType.int)) ∈ TB := tbk_2 (List.mem_of_getElem? (i := 134) rfl) rfl
theorem wd_2_135 : (Jvm.Cond.methodLink "java/util/Objects" (105 : Nat) ({ cls := "jdk/internal/util/Preconditions", name := "checkIndex", desc := "(IILjava/util/function/BiFunction;)I" } : Jvm.MethodName)) ∈ TB := tbk_2 (List.mem_of_getElem? (i := 135) rfl) rfl
theorem wd_2_136 : (Jvm.Cond.static ({ cls := "jdk/internal/util/Preconditions", name := "checkIndex", desc := "(IILjava/util/function/BiFunction;)I" } : Jvm.MethodName)) ∈ TB := tbk_2 (List.mem_of_getElem? (i := 136) rfl) rfl
theorem wd_2_137 : (Jvm.Cond.code ({ cls := "jdk/internal/util/Preconditions", name := "checkIndex", desc := "(IILjava/util/function/BiFunction;)I" } : Jvm.MethodName) prog_42_method_11_code (3 : Nat) (Option.some Jvm.ClassFile.FieldType.int)) ∈ TB := tbk_2 (List.mem_of_getElem? (i := 137) rfl) rfl
theorem wd_2_138 : (Jvm.Cond.methodLink "java/util/ArrayList" (123 : Nat) ({ cls := "java/util/ArrayList", name := "elementData", desc := "(I)Ljava/lang/Object;" } : Jvm.MethodName)) ∈ TB := tbk_2 (List.mem_of_getElem? (i := 138) rfl) rfl
theorem wd_2_139 : (Jvm.Cond.instanceMethod ({ cls := "java/util/ArrayList", name := "elementData", desc := "(I)Ljava/lang/Object;" } : Jvm.MethodName)) ∈ TB := tbk_2 (List.mem_of_getElem? (i := 139) rfl) rfl
theorem wd_2_140 : (Jvm.Cond.selects "java/util/ArrayList" ({ cls := "java/util/ArrayList", name := "elementData", desc := "(I)Ljava/lang/Object;" } : Jvm.MethodName) ({ cls := "java/util/ArrayList", name := "elementData", desc := "(I)Ljava/lang/Object;" } : Jvm.MethodName)) ∈ TB := tbk_2 (List.mem_of_getElem? (i := 140) rfl) rfl
theorem wd_2_141 : (Jvm.Cond.code ({ cls := "java/util/ArrayList", name := "elementData", desc := "(I)Ljava/lang/Object;" } : Jvm.MethodName) prog_34_method_18_code (2 : Nat) (Option.some (Jvm.ClassFile.FieldType.object "java/lang/Object"))) ∈ TB := tbk_2 (List.mem_of_getElem? (i := 141) rfl) rfl
theorem wd_2_142 : (Jvm.Cond.classLink "PolicyTree" (185 : Nat) "PolicyTree$Link") ∈ TB := tbk_2 (List.mem_of_getElem? (i := 142) rfl) rfl
theorem wd_2_143 : (Jvm.Cond.methodLink "PolicyTree" (292 : Nat) ({ cls := "PolicyTree$Link", name := "quarrelsWith", desc := "(LPolicyTree$Link;I)Z" } : Jvm.MethodName)) ∈ TB := tbk_2 (List.mem_of_getElem? (i := 143) rfl) rfl
theorem wd_2_144 : (Jvm.Cond.instanceMethod ({ cls := "PolicyTree$Link", name := "quarrelsWith", desc := "(LPolicyTree$Link;I)Z" } : Jvm.MethodName)) ∈ TB := tbk_2 (List.mem_of_getElem? (i := 144) rfl) rfl
theorem wd_2_145 : (Jvm.Cond.selects "PolicyTree$Link" ({ cls := "PolicyTree$Link", name := "quarrelsWith", desc := "(LPolicyTree$Link;I)Z" } : Jvm.MethodName) ({ cls := "PolicyTree$Link", name := "quarrelsWith", desc := "(LPolicyTree$Link;I)Z" } : Jvm.MethodName)) ∈ TB := tbk_2 (List.mem_of_getElem? (i := 145) rfl) rfl
theorem wd_2_146 : (Jvm.Cond.code ({ cls := "PolicyTree$Link", name := "quarrelsWith", desc := "(LPolicyTree$Link;I)Z" } : Jvm.MethodName) prog_6_method_2_code (3 : Nat) (Option.some Jvm.ClassFile.FieldType.boolean)) ∈ TB := tbk_2 (List.mem_of_getElem? (i := 146) rfl) rfl
theorem wd_2_147 : (Jvm.Cond.methodLink "PolicyTree$Link" (35 : Nat) ({ cls := "PolicyTree$Bundle", name := "differs", desc := "(LPolicyTree$Bundle;I)Z" } : Jvm.MethodName)) ∈ TB := tbk_2 (List.mem_of_getElem? (i := 147) rfl) rfl
theorem wd_2_148 : (Jvm.Cond.instanceMethod ({ cls := "PolicyTree$Bundle", name := "differs", desc := "(LPolicyTree$Bundle;I)Z" } : Jvm.MethodName)) ∈ TB := tbk_2 (List.mem_of_getElem? (i := 148) rfl) rfl
theorem wd_2_149 : (Jvm.Cond.selects "PolicyTree$Bundle" ({ cls := "PolicyTree$Bundle", name := "differs", desc := "(LPolicyTree$Bundle;I)Z" } : Jvm.MethodName) ({ cls := "PolicyTree$Bundle", name := "differs", desc := "(LPolicyTree$Bundle;I)Z" } : Jvm.MethodName)) ∈ TB := tbk_2 (List.mem_of_getElem? (i := 149) rfl) rfl
theorem wd_2_150 : (Jvm.Cond.code ({ cls := "PolicyTree$Bundle", name := "differs", desc := "(LPolicyTree$Bundle;I)Z" } : Jvm.MethodName) prog_2_method_7_code (5 : Nat) (Option.some Jvm.ClassFile.FieldType.boolean)) ∈ TB := tbk_2 (List.mem_of_getElem? (i := 150) rfl) rfl
theorem wd_2_151 : (Jvm.Cond.methodLink "PolicyTree$Bundle" (23 : Nat) ({ cls := "PolicyTree$Bundle", name := "valueOf", desc := "(I)I" } : Jvm.MethodName)) ∈ TB := tbk_2 (List.mem_of_getElem? (i := 151) rfl) rfl
theorem wd_2_152 : (Jvm.Cond.instanceMethod ({ cls := "PolicyTree$Bundle", name := "valueOf", desc := "(I)I" } : Jvm.MethodName)) ∈ TB := tbk_2 (List.mem_of_getElem? (i := 152) rfl) rfl
theorem wd_2_153 : (Jvm.Cond.selects "PolicyTree$Bundle" ({ cls := "PolicyTree$Bundle", name := "valueOf", desc := "(I)I" } : Jvm.MethodName) ({ cls := "PolicyTree$Bundle", name := "valueOf", desc := "(I)I" } : Jvm.MethodName)) ∈ TB := tbk_2 (List.mem_of_getElem? (i := 153) rfl) rfl
theorem wd_2_154 : (Jvm.Cond.code ({ cls := "PolicyTree$Bundle", name := "valueOf", desc := "(I)I" } : Jvm.MethodName) prog_2_method_4_code (2 : Nat) (Option.some Jvm.ClassFile.FieldType.int)) ∈ TB := tbk_2 (List.mem_of_getElem? (i := 154) rfl) rfl
theorem wd_2_155 : (Jvm.Cond.methodLink "PolicyTreeLaw" (192 : Nat) ({ cls := "PolicyTree", name := "count", desc := "(I)I" } : Jvm.MethodName)) ∈ TB := tbk_2 (List.mem_of_getElem? (i := 155) rfl) rfl
theorem wd_2_156 : (Jvm.Cond.instanceMethod ({ cls := "PolicyTree", name := "count", desc := "(I)I" } : Jvm.MethodName)) ∈ TB := tbk_2 (List.mem_of_getElem? (i := 156) rfl) rfl
theorem wd_2_157 : (Jvm.Cond.selects "PolicyTree" ({ cls := "PolicyTree", name := "count", desc := "(I)I" } : Jvm.MethodName) ({ cls := "PolicyTree", name := "count", desc := "(I)I" } : Jvm.MethodName)) ∈ TB := tbk_2 (List.mem_of_getElem? (i := 157) rfl) rfl
theorem wd_2_158 : (Jvm.Cond.code ({ cls := "PolicyTree", name := "count", desc := "(I)I" } : Jvm.MethodName) prog_1_method_28_code (2 : Nat) (Option.some Jvm.ClassFile.FieldType.int)) ∈ TB := tbk_2 (List.mem_of_getElem? (i := 158) rfl) rfl
theorem wd_2_159 : (Jvm.Cond.methodLink "PolicyTree" (144 : Nat) ({ cls := "PolicyTree$Groups", name := "size", desc := "()I" } : Jvm.MethodName)) ∈ TB := tbk_2 (List.mem_of_getElem? (i := 159) rfl) rfl
theorem wd_2_160 : (Jvm.Cond.instanceMethod ({ cls := "PolicyTree$Groups", name := "size", desc := "()I" } : Jvm.MethodName)) ∈ TB := tbk_2 (List.mem_of_getElem? (i := 160) rfl) rfl
theorem wd_2_161 : (Jvm.Cond.selects "PolicyTree$Groups" ({ cls := "PolicyTree$Groups", name := "size", desc := "()I" } : Jvm.MethodName) ({ cls := "PolicyTree$Groups", name := "size", desc := "()I" } : Jvm.MethodName)) ∈ TB := tbk_2 (List.mem_of_getElem? (i := 161) rfl) rfl
theorem wd_2_162 : (Jvm.Cond.code ({ cls := "PolicyTree$Groups", name := "size", desc := "()I" } : Jvm.MethodName) prog_5_method_2_code (1 : Nat) (Option.some Jvm.ClassFile.FieldType.int)) ∈ TB := tbk_2 (List.mem_of_getElem? (i := 162) rfl) rfl
theorem wd_2_163 : (Jvm.Cond.methodLink "PolicyTree" (252 : Nat) ({ cls := "PolicyTree", name := "countLasting", desc := "()I" } : Jvm.MethodName)) ∈ TB := tbk_2 (List.mem_of_getElem? (i := 163) rfl) rfl
theorem wd_2_165 : (Jvm.Cond.instanceMethod ({ cls := "PolicyTree", name := "countLasting", desc := "()I" } : Jvm.MethodName)) ∈ TB := tbk_2 (List.mem_of_getElem? (i := 165) rfl) rfl
theorem wd_2_166 : (Jvm.Cond.code ({ cls := "PolicyTree", name := "countLasting", desc := "()I" } : Jvm.MethodName) prog_1_method_40_code (3 : Nat) (Option.some Jvm.ClassFile.FieldType.int)) ∈ TB := tbk_2 (List.mem_of_getElem? (i := 166) rfl) rfl
theorem wd_2_167 : (Jvm.Cond.methodLink "PolicyTreeLaw" (98 : Nat) ({ cls := "PolicyTreeLaw", name := "node", desc := "(LPolicyTree;I[J)I" } : Jvm.MethodName)) ∈ TB := tbk_2 (List.mem_of_getElem? (i := 167) rfl) rfl
theorem wd_2_168 : (Jvm.Cond.static ({ cls := "PolicyTreeLaw", name := "node", desc := "(LPolicyTree;I[J)I" } : Jvm.MethodName)) ∈ TB := tbk_2 (List.mem_of_getElem? (i := 168) rfl) rfl
theorem wd_2_169 : (Jvm.Cond.codeWith ({ cls := "PolicyTreeLaw", name := "node", desc := "(LPolicyTree;I[J)I" } : Jvm.MethodName) method_3_code (4 : Nat) (Option.some Jvm.ClassFile.FieldType.int) [((0 : Nat), (9 : Nat), (12 : Nat), (13 : Nat)), ((0 : Nat), (9 : Nat), (15 : Nat), (15 : Nat))]) ∈ TB := tbk_2 (List.mem_of_getElem? (i := 169) rfl) rfl
theorem wd_2_170 : (Jvm.Cond.classLink "PolicyTreeLaw" (13 : Nat) "java/lang/IndexOutOfBoundsException") ∈ TB := tbk_2 (List.mem_of_getElem? (i := 170) rfl) rfl
theorem wd_2_171 : (Jvm.Cond.classLink "PolicyTreeLaw" (15 : Nat) "java/lang/IllegalStateException") ∈ TB := tbk_2 (List.mem_of_getElem? (i := 171) rfl) rfl
theorem wd_2_172 : (Jvm.Cond.methodLink "PolicyTreeLaw" (7 : Nat) ({ cls := "PolicyTree", name := "node", desc := "(I)I" } : Jvm.MethodName)) ∈ TB := tbk_2 (List.mem_of_getElem? (i := 172) rfl) rfl
theorem wd_2_173 : (Jvm.Cond.instanceMethod ({ cls := "PolicyTree", name := "node", desc := "(I)I" } : Jvm.MethodName)) ∈ TB := tbk_2 (List.mem_of_getElem? (i := 173) rfl) rfl
theorem wd_2_174 : (Jvm.Cond.selects "PolicyTree" ({ cls := "PolicyTree", name := "node", desc := "(I)I" } : Jvm.MethodName) ({ cls := "PolicyTree", name := "node", desc := "(I)I" } : Jvm.MethodName)) ∈ TB := tbk_2 (List.mem_of_getElem? (i := 174) rfl) rfl
theorem wd_2_175 : (Jvm.Cond.code ({ cls := "PolicyTree", name := "node", desc := "(I)I" } : Jvm.MethodName) prog_1_method_2_code (2 : Nat) (Option.some Jvm.ClassFile.FieldType.int)) ∈ TB := tbk_2 (List.mem_of_getElem? (i := 175) rfl) rfl
theorem wd_2_176 : (Jvm.Cond.methodLink "PolicyTree" (92 : Nat) ({ cls := "PolicyTree", name := "needNumber", desc := "(II)V" } : Jvm.MethodName)) ∈ TB := tbk_2 (List.mem_of_getElem? (i := 176) rfl) rfl
theorem wd_2_177 : (Jvm.Cond.static ({ cls := "PolicyTree", name := "needNumber", desc := "(II)V" } : Jvm.MethodName)) ∈ TB := tbk_2 (List.mem_of_getElem? (i := 177) rfl) rfl
theorem wd_2_178 : (Jvm.Cond.code ({ cls := "PolicyTree", name := "needNumber", desc := "(II)V" } : Jvm.MethodName) prog_1_method_29_code (2 : Nat) (Option.none : Option Jvm.ClassFile.FieldType)) ∈ TB := tbk_2 (List.mem_of_getElem? (i := 178) rfl) rfl
theorem wd_2_179 : (Jvm.Cond.classLink "PolicyTree" (255 : Nat) "java/lang/IndexOutOfBoundsException") ∈ TB := tbk_2 (List.mem_of_getElem? (i := 179) rfl) rfl
theorem wd_2_180 : (Jvm.Cond.instantiable "java/lang/IndexOutOfBoundsException" (6 : Nat)) ∈ TB := tbk_2 (List.mem_of_getElem? (i := 180) rfl) rfl
theorem wd_2_188 : (Jvm.Cond.selects "java/lang/IndexOutOfBoundsException" ({ cls := "java/lang/Throwable", name := "fillInStackTrace", desc := "(I)Ljava/lang/Throwable;" } : Jvm.MethodName) ({ cls := "java/lang/Throwable", name := "fillInStackTrace", desc := "(I)Ljava/lang/Throwable;" } : Jvm.MethodName)) ∈ TB := tbk_2 (List.mem_of_getElem? (i := 188) rfl) rfl
theorem wd_2_189 : (Jvm.Cond.selects "java/lang/IndexOutOfBoundsException" ({ cls := "java/lang/Throwable", name := "fillInStackTrace", desc := "()Ljava/lang/Throwable;" } : Jvm.MethodName) ({ cls := "java/lang/Throwable", name := "fillInStackTrace", desc := "()Ljava/lang/Throwable;" } : Jvm.MethodName)) ∈ TB := tbk_2 (List.mem_of_getElem? (i := 189) rfl) rfl
theorem wd_2_190 : (Jvm.Cond.lays "java/lang/IndexOutOfBoundsException" "java/lang/Throwable" "cause" "Ljava/lang/Throwable;") ∈ TB := tbk_2 (List.mem_of_getElem? (i := 190) rfl) rfl
theorem wd_2_191 : (Jvm.Cond.lays "java/lang/Throwable" "java/lang/Throwable" "cause" "Ljava/lang/Throwable;") ∈ TB := tbk_2 (List.mem_of_getElem? (i := 191) rfl) rfl
theorem wd_2_192 : (Jvm.Cond.lays "java/lang/IndexOutOfBoundsException" "java/lang/Throwable" "stackTrace" "[Ljava/lang/StackTraceElement;") ∈ TB := tbk_2 (List.mem_of_getElem? (i := 192) rfl) rfl
theorem wd_2_193 : (Jvm.Cond.lays "java/lang/Throwable" "java/lang/Throwable" "stackTrace" "[Ljava/lang/StackTraceElement;") ∈ TB := tbk_2 (List.mem_of_getElem? (i := 193) rfl) rfl
theorem wd_2_194 : (Jvm.Cond.lays "java/lang/IndexOutOfBoundsException" "java/lang/Throwable" "suppressedExceptions" "Ljava/util/List;") ∈ TB := tbk_2 (List.mem_of_getElem? (i := 194) rfl) rfl
theorem wd_2_195 : (Jvm.Cond.lays "java/lang/Throwable" "java/lang/Throwable" "suppressedExceptions" "Ljava/util/List;") ∈ TB := tbk_2 (List.mem_of_getElem? (i := 195) rfl) rfl
theorem wd_2_196 : (Jvm.Cond.lays "java/lang/IndexOutOfBoundsException" "java/lang/Throwable" "detailMessage" "Ljava/lang/String;") ∈ TB := tbk_2 (List.mem_of_getElem? (i := 196) rfl) rfl
theorem wd_2_197 : (Jvm.Cond.lays "java/lang/Throwable" "java/lang/Throwable" "detailMessage" "Ljava/lang/String;") ∈ TB := tbk_2 (List.mem_of_getElem? (i := 197) rfl) rfl
theorem wd_2_198 : (Jvm.Cond.lays "java/lang/IndexOutOfBoundsException" "java/lang/Throwable" "backtrace" "Ljava/lang/Object;") ∈ TB := tbk_2 (List.mem_of_getElem? (i := 198) rfl) rfl
theorem wd_2_199 : (Jvm.Cond.lays "java/lang/Throwable" "java/lang/Throwable" "backtrace" "Ljava/lang/Object;") ∈ TB := tbk_2 (List.mem_of_getElem? (i := 199) rfl) rfl
theorem wd_2_200 : (Jvm.Cond.fieldLink "java/lang/Throwable" (198 : Nat) "java/lang/Throwable" "backtrace" "Ljava/lang/Object;") ∈ TB := tbk_2 (List.mem_of_getElem? (i := 200) rfl) rfl
theorem wd_2_202 : (Jvm.Cond.instanceMethod ({ cls := "java/lang/Throwable", name := "<init>", desc := "()V" } : Jvm.MethodName)) ∈ TB := tbk_2 (List.mem_of_getElem? (i := 202) rfl) rfl
theorem wd_2_203 : (Jvm.Cond.code ({ cls := "java/lang/Throwable", name := "<init>", desc := "()V" } : Jvm.MethodName) prog_31_method_1_code (1 : Nat) (Option.none : Option Jvm.ClassFile.FieldType)) ∈ TB := tbk_2 (List.mem_of_getElem? (i := 203) rfl) rfl
theorem wd_2_204 : (Jvm.Cond.methodLink "java/lang/Throwable" (1 : Nat) ({ cls := "java/lang/Object", name := "<init>", desc := "()V" } : Jvm.MethodName)) ∈ TB := tbk_2 (List.mem_of_getElem? (i := 204) rfl) rfl
theorem wd_2_205 : (Jvm.Cond.fieldLink "java/lang/Throwable" (13 : Nat) "java/lang/Throwable" "UNASSIGNED_STACK" "[Ljava/lang/StackTraceElement;") ∈ TB := tbk_2 (List.mem_of_getElem? (i := 205) rfl) rfl
theorem wd_2_207 : (Jvm.Cond.fieldLink "java/lang/Throwable" (20 : Nat) "java/lang/Throwable" "SUPPRESSED_SENTINEL" "Ljava/util/List;") ∈ TB := tbk_2 (List.mem_of_getElem? (i := 207) rfl) rfl
theorem wd_2_209 : (Jvm.Cond.methodLink "java/lang/Throwable" (27 : Nat) ({ cls := "java/lang/Throwable", name := "fillInStackTrace", desc := "()Ljava/lang/Throwable;" } : Jvm.MethodName)) ∈ TB := tbk_2 (List.mem_of_getElem? (i := 209) rfl) rfl
theorem wd_2_210 : (Jvm.Cond.instanceMethod ({ cls := "java/lang/Throwable", name := "fillInStackTrace", desc := "()Ljava/lang/Throwable;" } : Jvm.MethodName)) ∈ TB := tbk_2 (List.mem_of_getElem? (i := 210) rfl) rfl
theorem wd_2_211 : (Jvm.Cond.sameMethod "java/lang/Throwable" "java/lang/Throwable" "fillInStackTrace" "()Ljava/lang/Throwable;") ∈ TB := tbk_2 (List.mem_of_getElem? (i := 211) rfl) rfl
theorem wd_2_212 : (Jvm.Cond.selects "java/lang/IllegalArgumentException" ({ cls := "java/lang/Throwable", name := "fillInStackTrace", desc := "()Ljava/lang/Throwable;" } : Jvm.MethodName) ({ cls := "java/lang/Throwable", name := "fillInStackTrace", desc := "()Ljava/lang/Throwable;" } : Jvm.MethodName)) ∈ TB := tbk_2 (List.mem_of_getElem? (i := 212) rfl) rfl
theorem wd_2_213 : (Jvm.Cond.selects "java/lang/IllegalStateException" ({ cls := "java/lang/Throwable", name := "fillInStackTrace", desc := "()Ljava/lang/Throwable;" } : Jvm.MethodName) ({ cls := "java/lang/Throwable", name := "fillInStackTrace", desc := "()Ljava/lang/Throwable;" } : Jvm.MethodName)) ∈ TB := tbk_2 (List.mem_of_getElem? (i := 213) rfl) rfl
theorem wd_2_215 : (Jvm.Cond.methodLink "java/lang/Throwable" (202 : Nat) ({ cls := "java/lang/Throwable", name := "fillInStackTrace", desc := "(I)Ljava/lang/Throwable;" } : Jvm.MethodName)) ∈ TB := tbk_2 (List.mem_of_getElem? (i := 215) rfl) rfl
theorem wd_2_217 : (Jvm.Cond.instanceMethod ({ cls := "java/lang/Throwable", name := "fillInStackTrace", desc := "(I)Ljava/lang/Throwable;" } : Jvm.MethodName)) ∈ TB := tbk_2 (List.mem_of_getElem? (i := 217) rfl) rfl
theorem wd_2_218 : (Jvm.Cond.instantiable "java/lang/Throwable" (6 : Nat)) ∈ TB := tbk_2 (List.mem_of_getElem? (i := 218) rfl) rfl
theorem wd_2_219 : (Jvm.Cond.native ({ cls := "java/lang/Throwable", name := "fillInStackTrace", desc := "(I)Ljava/lang/Throwable;" } : Jvm.MethodName)) ∈ TB := tbk_2 (List.mem_of_getElem? (i := 219) rfl) rfl
theorem wd_2_221 : (Jvm.Cond.methodLink "PolicyTree" (259 : Nat) ({ cls := "java/lang/IndexOutOfBoundsException", name := "<init>", desc := "(Ljava/lang/String;)V" } : Jvm.MethodName)) ∈ TB := tbk_2 (List.mem_of_getElem? (i := 221) rfl) rfl
theorem wd_2_222 : (Jvm.Cond.instanceMethod ({ cls := "java/lang/IndexOutOfBoundsException", name := "<init>", desc := "(Ljava/lang/String;)V" } : Jvm.MethodName)) ∈ TB := tbk_2 (List.mem_of_getElem? (i := 222) rfl) rfl
theorem wd_2_223 : (Jvm.Cond.code ({ cls := "java/lang/IndexOutOfBoundsException", name := "<init>", desc := "(Ljava/lang/String;)V" } : Jvm.MethodName) prog_21_method_2_code (2 : Nat) (Option.none : Option Jvm.ClassFile.FieldType)) ∈ TB := tbk_2 (List.mem_of_getElem? (i := 223) rfl) rfl
theorem wd_2_224 : (Jvm.Cond.methodLink "java/lang/IndexOutOfBoundsException" (7 : Nat) ({ cls := "java/lang/RuntimeException", name := "<init>", desc := "(Ljava/lang/String;)V" } : Jvm.MethodName)) ∈ TB := tbk_2 (List.mem_of_getElem? (i := 224) rfl) rfl
theorem wd_2_225 : (Jvm.Cond.instanceMethod ({ cls := "java/lang/RuntimeException", name := "<init>", desc := "(Ljava/lang/String;)V" } : Jvm.MethodName)) ∈ TB := tbk_2 (List.mem_of_getElem? (i := 225) rfl) rfl
theorem wd_2_226 : (Jvm.Cond.code ({ cls := "java/lang/RuntimeException", name := "<init>", desc := "(Ljava/lang/String;)V" } : Jvm.MethodName) prog_25_method_2_code (2 : Nat) (Option.none : Option Jvm.ClassFile.FieldType)) ∈ TB := tbk_2 (List.mem_of_getElem? (i := 226) rfl) rfl
theorem wd_2_227 : (Jvm.Cond.methodLink "java/lang/RuntimeException" (7 : Nat) ({ cls := "java/lang/Exception", name := "<init>", desc := "(Ljava/lang/String;)V" } : Jvm.MethodName)) ∈ TB := tbk_2 (List.mem_of_getElem? (i := 227) rfl) rfl
theorem wd_2_228 : (Jvm.Cond.instanceMethod ({ cls := "java/lang/Exception", name := "<init>", desc := "(Ljava/lang/String;)V" } : Jvm.MethodName)) ∈ TB := tbk_2 (List.mem_of_getElem? (i := 228) rfl) rfl
theorem wd_2_229 : (Jvm.Cond.code ({ cls := "java/lang/Exception", name := "<init>", desc := "(Ljava/lang/String;)V" } : Jvm.MethodName) prog_18_method_2_code (2 : Nat) (Option.none : Option Jvm.ClassFile.FieldType)) ∈ TB := tbk_2 (List.mem_of_getElem? (i := 229) rfl) rfl
theorem wd_2_230 : (Jvm.Cond.methodLink "java/lang/Exception" (7 : Nat) ({ cls := "java/lang/Throwable", name := "<init>", desc := "(Ljava/lang/String;)V" } : Jvm.MethodName)) ∈ TB := tbk_2 (List.mem_of_getElem? (i := 230) rfl) rfl
theorem wd_2_231 : (Jvm.Cond.instanceMethod ({ cls := "java/lang/Throwable", name := "<init>", desc := "(Ljava/lang/String;)V" } : Jvm.MethodName)) ∈ TB := tbk_2 (List.mem_of_getElem? (i := 231) rfl) rfl
theorem wd_2_232 : (Jvm.Cond.code ({ cls := "java/lang/Throwable", name := "<init>", desc := "(Ljava/lang/String;)V" } : Jvm.MethodName) prog_31_method_2_code (2 : Nat) (Option.none : Option Jvm.ClassFile.FieldType)) ∈ TB := tbk_2 (List.mem_of_getElem? (i := 232) rfl) rfl
theorem wd_2_234 : (Jvm.Cond.fieldLink "java/lang/Throwable" (31 : Nat) "java/lang/Throwable" "detailMessage" "Ljava/lang/String;") ∈ TB := tbk_2 (List.mem_of_getElem? (i := 234) rfl) rfl
theorem wd_2_235 : (Jvm.Cond.fieldLink "java/lang/Throwable" (7 : Nat) "java/lang/Throwable" "cause" "Ljava/lang/Throwable;") ∈ TB := tbk_2 (List.mem_of_getElem? (i := 235) rfl) rfl
theorem wd_2_236 : (Jvm.Cond.fieldLink "java/lang/Throwable" (17 : Nat) "java/lang/Throwable" "stackTrace" "[Ljava/lang/StackTraceElement;") ∈ TB := tbk_2 (List.mem_of_getElem? (i := 236) rfl) rfl
theorem wd_2_237 : (Jvm.Cond.fieldLink "java/lang/Throwable" (24 : Nat) "java/lang/Throwable" "suppressedExceptions" "Ljava/util/List;") ∈ TB := tbk_2 (List.mem_of_getElem? (i := 237) rfl) rfl
theorem wd_3_2 : (Jvm.Cond.lays "java/lang/IndexOutOfBoundsException" "java/lang/Throwable" "depth" "I") ∈ TB := tbk_3 (List.mem_of_getElem? (i := 2) rfl) rfl
theorem wd_3_6 : (Jvm.Cond.methodLink "PolicyTree" (96 : Nat) ({ cls := "PolicyTree", name := "needRoom", desc := "(II)V" } : Jvm.MethodName)) ∈ TB := tbk_3 (List.mem_of_getElem? (i := 6) rfl) rfl
theorem wd_3_7 : (Jvm.Cond.static ({ cls := "PolicyTree", name := "needRoom", desc := "(II)V" } : Jvm.MethodName)) ∈ TB := tbk_3 (List.mem_of_getElem? (i := 7) rfl) rfl
theorem wd_3_8 : (Jvm.Cond.code ({ cls := "PolicyTree", name := "needRoom", desc := "(II)V" } : Jvm.MethodName) prog_1_method_31_code (2 : Nat) (Option.none : Option Jvm.ClassFile.FieldType)) ∈ TB := tbk_3 (List.mem_of_getElem? (i := 8) rfl) rfl
theorem wd_3_9 : (Jvm.Cond.classLink "PolicyTree" (262 : Nat) "java/lang/IllegalStateException") ∈ TB := tbk_3 (List.mem_of_getElem? (i := 9) rfl) rfl
theorem wd_3_10 : (Jvm.Cond.instantiable "java/lang/IllegalStateException" (6 : Nat)) ∈ TB := tbk_3 (List.mem_of_getElem? (i := 10) rfl) rfl
theorem wd_3_12 : (Jvm.Cond.selects "java/lang/IllegalStateException" ({ cls := "java/lang/Throwable", name := "fillInStackTrace", desc := "(I)Ljava/lang/Throwable;" } : Jvm.MethodName) ({ cls := "java/lang/Throwable", name := "fillInStackTrace", desc := "(I)Ljava/lang/Throwable;" } : Jvm.MethodName)) ∈ TB := tbk_3 (List.mem_of_getElem? (i := 12) rfl) rfl
theorem wd_3_13 : (Jvm.Cond.lays "java/lang/IllegalStateException" "java/lang/Throwable" "cause" "Ljava/lang/Throwable;") ∈ TB := tbk_3 (List.mem_of_getElem? (i := 13) rfl) rfl
theorem wd_3_14 : (Jvm.Cond.lays "java/lang/IllegalStateException" "java/lang/Throwable" "stackTrace" "[Ljava/lang/StackTraceElement;") ∈ TB := tbk_3 (List.mem_of_getElem? (i := 14) rfl) rfl
theorem wd_3_15 : (Jvm.Cond.lays "java/lang/IllegalStateException" "java/lang/Throwable" "suppressedExceptions" "Ljava/util/List;") ∈ TB := tbk_3 (List.mem_of_getElem? (i := 15) rfl) rfl
theorem wd_3_16 : (Jvm.Cond.lays "java/lang/IllegalStateException" "java/lang/Throwable" "detailMessage" "Ljava/lang/String;") ∈ TB := tbk_3 (List.mem_of_getElem? (i := 16) rfl) rfl
theorem wd_3_17 : (Jvm.Cond.lays "java/lang/IllegalStateException" "java/lang/Throwable" "backtrace" "Ljava/lang/Object;") ∈ TB := tbk_3 (List.mem_of_getElem? (i := 17) rfl) rfl
theorem wd_3_19 : (Jvm.Cond.methodLink "PolicyTree" (266 : Nat) ({ cls := "java/lang/IllegalStateException", name := "<init>", desc := "(Ljava/lang/String;)V" } : Jvm.MethodName)) ∈ TB := tbk_3 (List.mem_of_getElem? (i := 19) rfl) rfl
theorem wd_3_20 : (Jvm.Cond.instanceMethod ({ cls := "java/lang/IllegalStateException", name := "<init>", desc := "(Ljava/lang/String;)V" } : Jvm.MethodName)) ∈ TB := tbk_3 (List.mem_of_getElem? (i := 20) rfl) rfl
theorem wd_3_21 : (Jvm.Cond.code ({ cls := "java/lang/IllegalStateException", name := "<init>", desc := "(Ljava/lang/String;)V" } : Jvm.MethodName) prog_20_method_2_code (2 : Nat) (Option.none : Option Jvm.ClassFile.FieldType)) ∈ TB := tbk_3 (List.mem_of_getElem? (i := 21) rfl) rfl
theorem wd_3_22 : (Jvm.Cond.methodLink "java/lang/IllegalStateException" (7 : Nat) ({ cls := "java/lang/RuntimeException", name := "<init>", desc := "(Ljava/lang/String;)V" } : Jvm.MethodName)) ∈ TB := tbk_3 (List.mem_of_getElem? (i := 22) rfl) rfl
theorem wd_3_23 : (Jvm.Cond.lays "java/lang/IllegalStateException" "java/lang/Throwable" "depth" "I") ∈ TB := tbk_3 (List.mem_of_getElem? (i := 23) rfl) rfl
theorem wd_3_25 : (Jvm.Cond.methodLink "PolicyTreeLaw" (107 : Nat) ({ cls := "PolicyTreeLaw", name := "block", desc := "(LPolicyTree;IZ[J)I" } : Jvm.MethodName)) ∈ TB := tbk_3 (List.mem_of_getElem? (i := 25) rfl) rfl
theorem wd_3_26 : (Jvm.Cond.static ({ cls := "PolicyTreeLaw", name := "block", desc := "(LPolicyTree;IZ[J)I" } : Jvm.MethodName)) ∈ TB := tbk_3 (List.mem_of_getElem? (i := 26) rfl) rfl
theorem wd_3_27 : (Jvm.Cond.codeWith ({ cls := "PolicyTreeLaw", name := "block", desc := "(LPolicyTree;IZ[J)I" } : Jvm.MethodName) method_4_code (5 : Nat) (Option.some Jvm.ClassFile.FieldType.int) [((0 : Nat), (17 : Nat), (20 : Nat), (13 : Nat))]) ∈ TB := tbk_3 (List.mem_of_getElem? (i := 27) rfl) rfl
theorem wd_3_28 : (Jvm.Cond.methodLink "PolicyTreeLaw" (17 : Nat) ({ cls := "PolicyTree", name := "block", desc := "(IZ)Z" } : Jvm.MethodName)) ∈ TB := tbk_3 (List.mem_of_getElem? (i := 28) rfl) rfl
theorem wd_3_29 : (Jvm.Cond.instanceMethod ({ cls := "PolicyTree", name := "block", desc := "(IZ)Z" } : Jvm.MethodName)) ∈ TB := tbk_3 (List.mem_of_getElem? (i := 29) rfl) rfl
theorem wd_3_30 : (Jvm.Cond.selects "PolicyTree" ({ cls := "PolicyTree", name := "block", desc := "(IZ)Z" } : Jvm.MethodName) ({ cls := "PolicyTree", name := "block", desc := "(IZ)Z" } : Jvm.MethodName)) ∈ TB := tbk_3 (List.mem_of_getElem? (i := 30) rfl) rfl
theorem wd_3_31 : (Jvm.Cond.code ({ cls := "PolicyTree", name := "block", desc := "(IZ)Z" } : Jvm.MethodName) prog_1_method_3_code (5 : Nat) (Option.some Jvm.ClassFile.FieldType.boolean)) ∈ TB := tbk_3 (List.mem_of_getElem? (i := 31) rfl) rfl
theorem wd_3_32 : (Jvm.Cond.methodLink "PolicyTreeLaw" (111 : Nat) ({ cls := "PolicyTreeLaw", name := "move", desc := "(LPolicyTree;II[J)I" } : Jvm.MethodName)) ∈ TB := tbk_3 (List.mem_of_getElem? (i := 32) rfl) rfl
theorem wd_3_33 : (Jvm.Cond.static ({ cls := "PolicyTreeLaw", name := "move", desc := "(LPolicyTree;II[J)I" } : Jvm.MethodName)) ∈ TB := tbk_3 (List.mem_of_getElem? (i := 33) rfl) rfl
theorem wd_3_34 : (Jvm.Cond.codeWith ({ cls := "PolicyTreeLaw", name := "move", desc := "(LPolicyTree;II[J)I" } : Jvm.MethodName) method_5_code (5 : Nat) (Option.some Jvm.ClassFile.FieldType.int) [((0 : Nat), (10 : Nat), (13 : Nat), (13 : Nat))]) ∈ TB := tbk_3 (List.mem_of_getElem? (i := 34) rfl) rfl
theorem wd_3_35 : (Jvm.Cond.methodLink "PolicyTreeLaw" (21 : Nat) ({ cls := "PolicyTree", name := "move", desc := "(II)I" } : Jvm.MethodName)) ∈ TB := tbk_3 (List.mem_of_getElem? (i := 35) rfl) rfl
theorem wd_3_36 : (Jvm.Cond.instanceMethod ({ cls := "PolicyTree", name := "move", desc := "(II)I" } : Jvm.MethodName)) ∈ TB := tbk_3 (List.mem_of_getElem? (i := 36) rfl) rfl
theorem wd_3_37 : (Jvm.Cond.selects "PolicyTree" ({ cls := "PolicyTree", name := "move", desc := "(II)I" } : Jvm.MethodName) ({ cls := "PolicyTree", name := "move", desc := "(II)I" } : Jvm.MethodName)) ∈ TB := tbk_3 (List.mem_of_getElem? (i := 37) rfl) rfl
theorem wd_3_38 : (Jvm.Cond.code ({ cls := "PolicyTree", name := "move", desc := "(II)I" } : Jvm.MethodName) prog_1_method_4_code (7 : Nat) (Option.some Jvm.ClassFile.FieldType.int)) ∈ TB := tbk_3 (List.mem_of_getElem? (i := 38) rfl) rfl
theorem wd_3_39 : (Jvm.Cond.methodLink "PolicyTree" (107 : Nat) ({ cls := "PolicyTree$Node", name := "isWithin", desc := "(LPolicyTree$Node;)Z" } : Jvm.MethodName)) ∈ TB := tbk_3 (List.mem_of_getElem? (i := 39) rfl) rfl
theorem wd_3_40 : (Jvm.Cond.instanceMethod ({ cls := "PolicyTree$Node", name := "isWithin", desc := "(LPolicyTree$Node;)Z" } : Jvm.MethodName)) ∈ TB := tbk_3 (List.mem_of_getElem? (i := 40) rfl) rfl
theorem wd_3_41 : (Jvm.Cond.selects "PolicyTree$Node" ({ cls := "PolicyTree$Node", name := "isWithin", desc := "(LPolicyTree$Node;)Z" } : Jvm.MethodName) ({ cls := "PolicyTree$Node", name := "isWithin", desc := "(LPolicyTree$Node;)Z" } : Jvm.MethodName)) ∈ TB := tbk_3 (List.mem_of_getElem? (i := 41) rfl) rfl
theorem wd_3_42 : (Jvm.Cond.code ({ cls := "PolicyTree$Node", name := "isWithin", desc := "(LPolicyTree$Node;)Z" } : Jvm.MethodName) prog_8_method_2_code (3 : Nat) (Option.some Jvm.ClassFile.FieldType.boolean)) ∈ TB := tbk_3 (List.mem_of_getElem? (i := 42) rfl) rfl
theorem wd_3_43 : (Jvm.Cond.classLink "PolicyTree" (111 : Nat) "PolicyTree$Machine") ∈ TB := tbk_3 (List.mem_of_getElem? (i := 43) rfl) rfl
theorem wd_3_44 : (Jvm.Cond.methodLink "PolicyTree" (117 : Nat) ({ cls := "PolicyTree", name := "countMoved", desc := "(ILPolicyTree$Node;LPolicyTree$Node;)I" } : Jvm.MethodName)) ∈ TB := tbk_3 (List.mem_of_getElem? (i := 44) rfl) rfl
theorem wd_3_46 : (Jvm.Cond.instanceMethod ({ cls := "PolicyTree", name := "countMoved", desc := "(ILPolicyTree$Node;LPolicyTree$Node;)I" } : Jvm.MethodName)) ∈ TB := tbk_3 (List.mem_of_getElem? (i := 46) rfl) rfl
theorem wd_3_47 : (Jvm.Cond.code ({ cls := "PolicyTree", name := "countMoved", desc := "(ILPolicyTree$Node;LPolicyTree$Node;)I" } : Jvm.MethodName) prog_1_method_34_code (9 : Nat) (Option.some Jvm.ClassFile.FieldType.int)) ∈ TB := tbk_3 (List.mem_of_getElem? (i := 47) rfl) rfl
theorem wd_3_48 : (Jvm.Cond.methodLink "PolicyTree" (154 : Nat) ({ cls := "PolicyTree$Groups", name := "groupsOf", desc := "(I)I" } : Jvm.MethodName)) ∈ TB := tbk_3 (List.mem_of_getElem? (i := 48) rfl) rfl
theorem wd_3_49 : (Jvm.Cond.instanceMethod ({ cls := "PolicyTree$Groups", name := "groupsOf", desc := "(I)I" } : Jvm.MethodName)) ∈ TB := tbk_3 (List.mem_of_getElem? (i := 49) rfl) rfl
theorem wd_3_50 : (Jvm.Cond.selects "PolicyTree$Groups" ({ cls := "PolicyTree$Groups", name := "groupsOf", desc := "(I)I" } : Jvm.MethodName) ({ cls := "PolicyTree$Groups", name := "groupsOf", desc := "(I)I" } : Jvm.MethodName)) ∈ TB := tbk_3 (List.mem_of_getElem? (i := 50) rfl) rfl
theorem wd_3_51 : (Jvm.Cond.code ({ cls := "PolicyTree$Groups", name := "groupsOf", desc := "(I)I" } : Jvm.MethodName) prog_5_method_6_code (5 : Nat) (Option.some Jvm.ClassFile.FieldType.int)) ∈ TB := tbk_3 (List.mem_of_getElem? (i := 51) rfl) rfl
theorem wd_3_52 : (Jvm.Cond.methodLink "PolicyTree$Groups" (25 : Nat) ({ cls := "PolicyTree$Groups", name := "groupsAround", desc := "(I)I" } : Jvm.MethodName)) ∈ TB := tbk_3 (List.mem_of_getElem? (i := 52) rfl) rfl
theorem wd_3_54 : (Jvm.Cond.instanceMethod ({ cls := "PolicyTree$Groups", name := "groupsAround", desc := "(I)I" } : Jvm.MethodName)) ∈ TB := tbk_3 (List.mem_of_getElem? (i := 54) rfl) rfl
theorem wd_3_55 : (Jvm.Cond.code ({ cls := "PolicyTree$Groups", name := "groupsAround", desc := "(I)I" } : Jvm.MethodName) prog_5_method_7_code (4 : Nat) (Option.some Jvm.ClassFile.FieldType.int)) ∈ TB := tbk_3 (List.mem_of_getElem? (i := 55) rfl) rfl
theorem wd_3_56 : (Jvm.Cond.methodLink "PolicyTree" (267 : Nat) ({ cls := "PolicyTree$Row", name := "collect", desc := "(LPolicyTree$Machine;II)V" } : Jvm.MethodName)) ∈ TB := tbk_3 (List.mem_of_getElem? (i := 56) rfl) rfl
theorem wd_3_57 : (Jvm.Cond.instanceMethod ({ cls := "PolicyTree$Row", name := "collect", desc := "(LPolicyTree$Machine;II)V" } : Jvm.MethodName)) ∈ TB := tbk_3 (List.mem_of_getElem? (i := 57) rfl) rfl
theorem wd_3_58 : (Jvm.Cond.selects "PolicyTree$Row" ({ cls := "PolicyTree$Row", name := "collect", desc := "(LPolicyTree$Machine;II)V" } : Jvm.MethodName) ({ cls := "PolicyTree$Row", name := "collect", desc := "(LPolicyTree$Machine;II)V" } : Jvm.MethodName)) ∈ TB := tbk_3 (List.mem_of_getElem? (i := 58) rfl) rfl
theorem wd_3_59 : (Jvm.Cond.code ({ cls := "PolicyTree$Row", name := "collect", desc := "(LPolicyTree$Machine;II)V" } : Jvm.MethodName) prog_10_method_2_code (7 : Nat) (Option.none : Option Jvm.ClassFile.FieldType)) ∈ TB := tbk_3 (List.mem_of_getElem? (i := 59) rfl) rfl
theorem wd_3_60 : (Jvm.Cond.methodLink "PolicyTree$Row" (32 : Nat) ({ cls := "java/util/ArrayList", name := "clear", desc := "()V" } : Jvm.MethodName)) ∈ TB := tbk_3 (List.mem_of_getElem? (i := 60) rfl) rfl
theorem wd_3_61 : (Jvm.Cond.instanceMethod ({ cls := "java/util/ArrayList", name := "clear", desc := "()V" } : Jvm.MethodName)) ∈ TB := tbk_3 (List.mem_of_getElem? (i := 61) rfl) rfl
theorem wd_3_62 : (Jvm.Cond.selects "java/util/ArrayList" ({ cls := "java/util/ArrayList", name := "clear", desc := "()V" } : Jvm.MethodName) ({ cls := "java/util/ArrayList", name := "clear", desc := "()V" } : Jvm.MethodName)) ∈ TB := tbk_3 (List.mem_of_getElem? (i := 62) rfl) rfl
theorem wd_3_63 : (Jvm.Cond.code ({ cls := "java/util/ArrayList", name := "clear", desc := "()V" } : Jvm.MethodName) prog_34_method_40_code (4 : Nat) (Option.none : Option Jvm.ClassFile.FieldType)) ∈ TB := tbk_3 (List.mem_of_getElem? (i := 63) rfl) rfl
theorem wd_3_64 : (Jvm.Cond.methodLink "PolicyTree$Row" (41 : Nat) ({ cls := "java/util/ArrayList", name := "add", desc := "(Ljava/lang/Object;)Z" } : Jvm.MethodName)) ∈ TB := tbk_3 (List.mem_of_getElem? (i := 64) rfl) rfl
theorem wd_3_65 : (Jvm.Cond.methodLink "PolicyTree$Row" (54 : Nat) ({ cls := "PolicyTree$Standing", name := "enter", desc := "(LPolicyTree$Machine;IJ)V" } : Jvm.MethodName)) ∈ TB := tbk_3 (List.mem_of_getElem? (i := 65) rfl) rfl
theorem wd_3_66 : (Jvm.Cond.instanceMethod ({ cls := "PolicyTree$Standing", name := "enter", desc := "(LPolicyTree$Machine;IJ)V" } : Jvm.MethodName)) ∈ TB := tbk_3 (List.mem_of_getElem? (i := 66) rfl) rfl
theorem wd_3_67 : (Jvm.Cond.selects "PolicyTree$Standing" ({ cls := "PolicyTree$Standing", name := "enter", desc := "(LPolicyTree$Machine;IJ)V" } : Jvm.MethodName) ({ cls := "PolicyTree$Standing", name := "enter", desc := "(LPolicyTree$Machine;IJ)V" } : Jvm.MethodName)) ∈ TB := tbk_3 (List.mem_of_getElem? (i := 67) rfl) rfl
theorem wd_3_68 : (Jvm.Cond.code ({ cls := "PolicyTree$Standing", name := "enter", desc := "(LPolicyTree$Machine;IJ)V" } : Jvm.MethodName) prog_11_method_2_code (5 : Nat) (Option.none : Option Jvm.ClassFile.FieldType)) ∈ TB := tbk_3 (List.mem_of_getElem? (i := 68) rfl) rfl
theorem wd_3_69 : (Jvm.Cond.methodLink "PolicyTree$Standing" (18 : Nat) ({ cls := "PolicyTree$Machine", name := "knownFacts", desc := "()I" } : Jvm.MethodName)) ∈ TB := tbk_3 (List.mem_of_getElem? (i := 69) rfl) rfl
theorem wd_3_70 : (Jvm.Cond.instanceMethod ({ cls := "PolicyTree$Machine", name := "knownFacts", desc := "()I" } : Jvm.MethodName)) ∈ TB := tbk_3 (List.mem_of_getElem? (i := 70) rfl) rfl
theorem wd_3_71 : (Jvm.Cond.selects "PolicyTree$Machine" ({ cls := "PolicyTree$Machine", name := "knownFacts", desc := "()I" } : Jvm.MethodName) ({ cls := "PolicyTree$Machine", name := "knownFacts", desc := "()I" } : Jvm.MethodName)) ∈ TB := tbk_3 (List.mem_of_getElem? (i := 71) rfl) rfl
theorem wd_3_72 : (Jvm.Cond.code ({ cls := "PolicyTree$Machine", name := "knownFacts", desc := "()I" } : Jvm.MethodName) prog_7_method_2_code (1 : Nat) (Option.some Jvm.ClassFile.FieldType.int)) ∈ TB := tbk_3 (List.mem_of_getElem? (i := 72) rfl) rfl
theorem wd_3_73 : (Jvm.Cond.methodLink "PolicyTree$Standing" (28 : Nat) ({ cls := "PolicyTree$Machine", name := "yesFacts", desc := "()I" } : Jvm.MethodName)) ∈ TB := tbk_3 (List.mem_of_getElem? (i := 73) rfl) rfl
theorem wd_3_74 : (Jvm.Cond.instanceMethod ({ cls := "PolicyTree$Machine", name := "yesFacts", desc := "()I" } : Jvm.MethodName)) ∈ TB := tbk_3 (List.mem_of_getElem? (i := 74) rfl) rfl
theorem wd_3_75 : (Jvm.Cond.selects "PolicyTree$Machine" ({ cls := "PolicyTree$Machine", name := "yesFacts", desc := "()I" } : Jvm.MethodName) ({ cls := "PolicyTree$Machine", name := "yesFacts", desc := "()I" } : Jvm.MethodName)) ∈ TB := tbk_3 (List.mem_of_getElem? (i := 75) rfl) rfl
theorem wd_3_76 : (Jvm.Cond.code ({ cls := "PolicyTree$Machine", name := "yesFacts", desc := "()I" } : Jvm.MethodName) prog_7_method_3_code (1 : Nat) (Option.some Jvm.ClassFile.FieldType.int)) ∈ TB := tbk_3 (List.mem_of_getElem? (i := 76) rfl) rfl
theorem wd_3_77 : (Jvm.Cond.methodLink "PolicyTree$Row" (58 : Nat) ({ cls := "PolicyTree$Row", name := "topOfOpen", desc := "()I" } : Jvm.MethodName)) ∈ TB := tbk_3 (List.mem_of_getElem? (i := 77) rfl) rfl
theorem wd_3_79 : (Jvm.Cond.instanceMethod ({ cls := "PolicyTree$Row", name := "topOfOpen", desc := "()I" } : Jvm.MethodName)) ∈ TB := tbk_3 (List.mem_of_getElem? (i := 79) rfl) rfl
theorem wd_3_80 : (Jvm.Cond.code ({ cls := "PolicyTree$Row", name := "topOfOpen", desc := "()I" } : Jvm.MethodName) prog_10_method_8_code (2 : Nat) (Option.some Jvm.ClassFile.FieldType.int)) ∈ TB := tbk_3 (List.mem_of_getElem? (i := 80) rfl) rfl
theorem wd_3_81 : (Jvm.Cond.methodLink "PolicyTree$Row" (66 : Nat) ({ cls := "java/util/ArrayList", name := "size", desc := "()I" } : Jvm.MethodName)) ∈ TB := tbk_3 (List.mem_of_getElem? (i := 81) rfl) rfl
theorem wd_3_82 : (Jvm.Cond.methodLink "PolicyTree$Row" (73 : Nat) ({ cls := "java/util/ArrayList", name := "get", desc := "(I)Ljava/lang/Object;" } : Jvm.MethodName)) ∈ TB := tbk_3 (List.mem_of_getElem? (i := 82) rfl) rfl
theorem wd_3_83 : (Jvm.Cond.classLink "PolicyTree$Row" (46 : Nat) "PolicyTree$Node") ∈ TB := tbk_3 (List.mem_of_getElem? (i := 83) rfl) rfl
theorem wd_3_84 : (Jvm.Cond.methodLink "PolicyTree$Row" (62 : Nat) ({ cls := "PolicyTree$Row", name := "addLinks", desc := "(IZI)V" } : Jvm.MethodName)) ∈ TB := tbk_3 (List.mem_of_getElem? (i := 84) rfl) rfl
theorem wd_3_86 : (Jvm.Cond.instanceMethod ({ cls := "PolicyTree$Row", name := "addLinks", desc := "(IZI)V" } : Jvm.MethodName)) ∈ TB := tbk_3 (List.mem_of_getElem? (i := 86) rfl) rfl
theorem wd_3_87 : (Jvm.Cond.code ({ cls := "PolicyTree$Row", name := "addLinks", desc := "(IZI)V" } : Jvm.MethodName) prog_10_method_9_code (7 : Nat) (Option.none : Option Jvm.ClassFile.FieldType)) ∈ TB := tbk_3 (List.mem_of_getElem? (i := 87) rfl) rfl
theorem wd_3_88 : (Jvm.Cond.methodLink "PolicyTree$Row" (99 : Nat) ({ cls := "PolicyTree$Node", name := "size", desc := "()I" } : Jvm.MethodName)) ∈ TB := tbk_3 (List.mem_of_getElem? (i := 88) rfl) rfl
theorem wd_3_89 : (Jvm.Cond.instanceMethod ({ cls := "PolicyTree$Node", name := "size", desc := "()I" } : Jvm.MethodName)) ∈ TB := tbk_3 (List.mem_of_getElem? (i := 89) rfl) rfl
theorem wd_3_90 : (Jvm.Cond.selects "PolicyTree$Node" ({ cls := "PolicyTree$Node", name := "size", desc := "()I" } : Jvm.MethodName) ({ cls := "PolicyTree$Node", name := "size", desc := "()I" } : Jvm.MethodName)) ∈ TB := tbk_3 (List.mem_of_getElem? (i := 90) rfl) rfl
theorem wd_3_91 : (Jvm.Cond.code ({ cls := "PolicyTree$Node", name := "size", desc := "()I" } : Jvm.MethodName) prog_8_method_3_code (1 : Nat) (Option.some Jvm.ClassFile.FieldType.int)) ∈ TB := tbk_3 (List.mem_of_getElem? (i := 91) rfl) rfl
theorem wd_3_92 : (Jvm.Cond.methodLink "PolicyTree$Node" (24 : Nat) ({ cls := "java/util/ArrayList", name := "size", desc := "()I" } : Jvm.MethodName)) ∈ TB := tbk_3 (List.mem_of_getElem? (i := 92) rfl) rfl
theorem wd_3_93 : (Jvm.Cond.methodLink "PolicyTree$Row" (100 : Nat) ({ cls := "PolicyTree$Node", name := "linkAt", desc := "(I)LPolicyTree$Link;" } : Jvm.MethodName)) ∈ TB := tbk_3 (List.mem_of_getElem? (i := 93) rfl) rfl
theorem wd_3_94 : (Jvm.Cond.instanceMethod ({ cls := "PolicyTree$Node", name := "linkAt", desc := "(I)LPolicyTree$Link;" } : Jvm.MethodName)) ∈ TB := tbk_3 (List.mem_of_getElem? (i := 94) rfl) rfl
theorem wd_3_95 : (Jvm.Cond.selects "PolicyTree$Node" ({ cls := "PolicyTree$Node", name := "linkAt", desc := "(I)LPolicyTree$Link;" } : Jvm.MethodName) ({ cls := "PolicyTree$Node", name := "linkAt", desc := "(I)LPolicyTree$Link;" } : Jvm.MethodName)) ∈ TB := tbk_3 (List.mem_of_getElem? (i := 95) rfl) rfl
theorem wd_3_96 : (Jvm.Cond.code ({ cls := "PolicyTree$Node", name := "linkAt", desc := "(I)LPolicyTree$Link;" } : Jvm.MethodName) prog_8_method_4_code (2 : Nat) (Option.some (Jvm.ClassFile.FieldType.object "PolicyTree$Link"))) ∈ TB := tbk_3 (List.mem_of_getElem? (i := 96) rfl) rfl
theorem wd_3_97 : (Jvm.Cond.methodLink "PolicyTree$Node" (28 : Nat) ({ cls := "java/util/ArrayList", name := "get", desc := "(I)Ljava/lang/Object;" } : Jvm.MethodName)) ∈ TB := tbk_3 (List.mem_of_getElem? (i := 97) rfl) rfl
theorem wd_3_98 : (Jvm.Cond.classLink "PolicyTree$Node" (32 : Nat) "PolicyTree$Link") ∈ TB := tbk_3 (List.mem_of_getElem? (i := 98) rfl) rfl
theorem wd_3_99 : (Jvm.Cond.methodLink "PolicyTree$Row" (111 : Nat) ({ cls := "PolicyTree$Bundle", name := "toldSettings", desc := "()I" } : Jvm.MethodName)) ∈ TB := tbk_3 (List.mem_of_getElem? (i := 99) rfl) rfl
theorem wd_3_100 : (Jvm.Cond.instanceMethod ({ cls := "PolicyTree$Bundle", name := "toldSettings", desc := "()I" } : Jvm.MethodName)) ∈ TB := tbk_3 (List.mem_of_getElem? (i := 100) rfl) rfl
theorem wd_3_101 : (Jvm.Cond.selects "PolicyTree$Bundle" ({ cls := "PolicyTree$Bundle", name := "toldSettings", desc := "()I" } : Jvm.MethodName) ({ cls := "PolicyTree$Bundle", name := "toldSettings", desc := "()I" } : Jvm.MethodName)) ∈ TB := tbk_3 (List.mem_of_getElem? (i := 101) rfl) rfl
theorem wd_3_102 : (Jvm.Cond.code ({ cls := "PolicyTree$Bundle", name := "toldSettings", desc := "()I" } : Jvm.MethodName) prog_2_method_2_code (1 : Nat) (Option.some Jvm.ClassFile.FieldType.int)) ∈ TB := tbk_3 (List.mem_of_getElem? (i := 102) rfl) rfl
theorem wd_3_103 : (Jvm.Cond.methodLink "PolicyTree" (232 : Nat) ({ cls := "PolicyTree$Row", name := "weigh", desc := "(I)V" } : Jvm.MethodName)) ∈ TB := tbk_3 (List.mem_of_getElem? (i := 103) rfl) rfl
theorem wd_3_104 : (Jvm.Cond.instanceMethod ({ cls := "PolicyTree$Row", name := "weigh", desc := "(I)V" } : Jvm.MethodName)) ∈ TB := tbk_3 (List.mem_of_getElem? (i := 104) rfl) rfl
theorem wd_3_105 : (Jvm.Cond.selects "PolicyTree$Row" ({ cls := "PolicyTree$Row", name := "weigh", desc := "(I)V" } : Jvm.MethodName) ({ cls := "PolicyTree$Row", name := "weigh", desc := "(I)V" } : Jvm.MethodName)) ∈ TB := tbk_3 (List.mem_of_getElem? (i := 105) rfl) rfl
theorem wd_3_106 : (Jvm.Cond.code ({ cls := "PolicyTree$Row", name := "weigh", desc := "(I)V" } : Jvm.MethodName) prog_10_method_3_code (3 : Nat) (Option.none : Option Jvm.ClassFile.FieldType)) ∈ TB := tbk_3 (List.mem_of_getElem? (i := 106) rfl) rfl
theorem wd_3_107 : (Jvm.Cond.methodLink "PolicyTree$Row" (69 : Nat) ({ cls := "PolicyTree$Standing", name := "guess", desc := "(I)V" } : Jvm.MethodName)) ∈ TB := tbk_3 (List.mem_of_getElem? (i := 107) rfl) rfl
theorem wd_3_108 : (Jvm.Cond.instanceMethod ({ cls := "PolicyTree$Standing", name := "guess", desc := "(I)V" } : Jvm.MethodName)) ∈ TB := tbk_3 (List.mem_of_getElem? (i := 108) rfl) rfl
theorem wd_3_109 : (Jvm.Cond.selects "PolicyTree$Standing" ({ cls := "PolicyTree$Standing", name := "guess", desc := "(I)V" } : Jvm.MethodName) ({ cls := "PolicyTree$Standing", name := "guess", desc := "(I)V" } : Jvm.MethodName)) ∈ TB := tbk_3 (List.mem_of_getElem? (i := 109) rfl) rfl
theorem wd_3_110 : (Jvm.Cond.code ({ cls := "PolicyTree$Standing", name := "guess", desc := "(I)V" } : Jvm.MethodName) prog_11_method_3_code (3 : Nat) (Option.none : Option Jvm.ClassFile.FieldType)) ∈ TB := tbk_3 (List.mem_of_getElem? (i := 110) rfl) rfl
theorem wd_3_111 : (Jvm.Cond.methodLink "PolicyTree$Standing" (41 : Nat) ({ cls := "PolicyTree$Standing", name := "spread", desc := "(Z)J" } : Jvm.MethodName)) ∈ TB := tbk_3 (List.mem_of_getElem? (i := 111) rfl) rfl
theorem wd_3_112 : (Jvm.Cond.static ({ cls := "PolicyTree$Standing", name := "spread", desc := "(Z)J" } : Jvm.MethodName)) ∈ TB := tbk_3 (List.mem_of_getElem? (i := 112) rfl) rfl
theorem wd_3_113 : (Jvm.Cond.code ({ cls := "PolicyTree$Standing", name := "spread", desc := "(Z)J" } : Jvm.MethodName) prog_11_method_6_code (1 : Nat) (Option.some Jvm.ClassFile.FieldType.long)) ∈ TB := tbk_3 (List.mem_of_getElem? (i := 113) rfl) rfl
theorem wd_3_114 : (Jvm.Cond.constantLong "PolicyTree$Standing" (50 : Nat) (-1 : Int64)) ∈ TB := tbk_3 (List.mem_of_getElem? (i := 114) rfl) rfl
theorem wd_3_115 : (Jvm.Cond.fieldLink "PolicyTree$Standing" (45 : Nat) "PolicyTree$Standing" "GUESSES" "[J") ∈ TB := tbk_3 (List.mem_of_getElem? (i := 115) rfl) rfl
theorem wd_3_117 : (Jvm.Cond.classLink "PolicyTree$Row" (77 : Nat) "PolicyTree$Link") ∈ TB := tbk_3 (List.mem_of_getElem? (i := 117) rfl) rfl
theorem wd_3_118 : (Jvm.Cond.methodLink "PolicyTree$Row" (83 : Nat) ({ cls := "PolicyTree$Filter", name := "weigh", desc := "(LPolicyTree$Standing;)J" } : Jvm.MethodName)) ∈ TB := tbk_3 (List.mem_of_getElem? (i := 118) rfl) rfl
theorem wd_3_119 : (Jvm.Cond.instanceMethod ({ cls := "PolicyTree$Filter", name := "weigh", desc := "(LPolicyTree$Standing;)J" } : Jvm.MethodName)) ∈ TB := tbk_3 (List.mem_of_getElem? (i := 119) rfl) rfl
theorem wd_3_120 : (Jvm.Cond.selects "PolicyTree$Filter" ({ cls := "PolicyTree$Filter", name := "weigh", desc := "(LPolicyTree$Standing;)J" } : Jvm.MethodName) ({ cls := "PolicyTree$Filter", name := "weigh", desc := "(LPolicyTree$Standing;)J" } : Jvm.MethodName)) ∈ TB := tbk_3 (List.mem_of_getElem? (i := 120) rfl) rfl
theorem wd_3_121 : (Jvm.Cond.code ({ cls := "PolicyTree$Filter", name := "weigh", desc := "(LPolicyTree$Standing;)J" } : Jvm.MethodName) prog_3_method_3_code (8 : Nat) (Option.some Jvm.ClassFile.FieldType.long)) ∈ TB := tbk_3 (List.mem_of_getElem? (i := 121) rfl) rfl
theorem wd_3_122 : (Jvm.Cond.methodLink "PolicyTree$Filter" (19 : Nat) ({ cls := "PolicyTree$Standing", name := "weighAtom", desc := "(II)J" } : Jvm.MethodName)) ∈ TB := tbk_3 (List.mem_of_getElem? (i := 122) rfl) rfl
theorem wd_3_123 : (Jvm.Cond.instanceMethod ({ cls := "PolicyTree$Standing", name := "weighAtom", desc := "(II)J" } : Jvm.MethodName)) ∈ TB := tbk_3 (List.mem_of_getElem? (i := 123) rfl) rfl
theorem wd_3_124 : (Jvm.Cond.selects "PolicyTree$Standing" ({ cls := "PolicyTree$Standing", name := "weighAtom", desc := "(II)J" } : Jvm.MethodName) ({ cls := "PolicyTree$Standing", name := "weighAtom", desc := "(II)J" } : Jvm.MethodName)) ∈ TB := tbk_3 (List.mem_of_getElem? (i := 124) rfl) rfl
theorem wd_3_125 : (Jvm.Cond.code ({ cls := "PolicyTree$Standing", name := "weighAtom", desc := "(II)J" } : Jvm.MethodName) prog_11_method_5_code (3 : Nat) (Option.some Jvm.ClassFile.FieldType.long)) ∈ TB := tbk_3 (List.mem_of_getElem? (i := 125) rfl) rfl
theorem wd_3_126 : (Jvm.Cond.constantLong "PolicyTree$Filter" (23 : Nat) (-1 : Int64)) ∈ TB := tbk_3 (List.mem_of_getElem? (i := 126) rfl) rfl
theorem wd_3_127 : (Jvm.Cond.methodLink "PolicyTree" (271 : Nat) ({ cls := "PolicyTree$Outcome", name := "read", desc := "(LPolicyTree$Row;IIILPolicyTree$Link;)V" } : Jvm.MethodName)) ∈ TB := tbk_3 (List.mem_of_getElem? (i := 127) rfl) rfl
theorem wd_3_128 : (Jvm.Cond.instanceMethod ({ cls := "PolicyTree$Outcome", name := "read", desc := "(LPolicyTree$Row;IIILPolicyTree$Link;)V" } : Jvm.MethodName)) ∈ TB := tbk_3 (List.mem_of_getElem? (i := 128) rfl) rfl
theorem wd_3_129 : (Jvm.Cond.selects "PolicyTree$Outcome" ({ cls := "PolicyTree$Outcome", name := "read", desc := "(LPolicyTree$Row;IIILPolicyTree$Link;)V" } : Jvm.MethodName) ({ cls := "PolicyTree$Outcome", name := "read", desc := "(LPolicyTree$Row;IIILPolicyTree$Link;)V" } : Jvm.MethodName)) ∈ TB := tbk_3 (List.mem_of_getElem? (i := 129) rfl) rfl
theorem wd_3_130 : (Jvm.Cond.code ({ cls := "PolicyTree$Outcome", name := "read", desc := "(LPolicyTree$Row;IIILPolicyTree$Link;)V" } : Jvm.MethodName) prog_9_method_2_code (8 : Nat) (Option.none : Option Jvm.ClassFile.FieldType)) ∈ TB := tbk_3 (List.mem_of_getElem? (i := 130) rfl) rfl
theorem wd_3_131 : (Jvm.Cond.methodLink "PolicyTree$Outcome" (23 : Nat) ({ cls := "PolicyTree$Row", name := "size", desc := "()I" } : Jvm.MethodName)) ∈ TB := tbk_3 (List.mem_of_getElem? (i := 131) rfl) rfl
theorem wd_3_132 : (Jvm.Cond.instanceMethod ({ cls := "PolicyTree$Row", name := "size", desc := "()I" } : Jvm.MethodName)) ∈ TB := tbk_3 (List.mem_of_getElem? (i := 132) rfl) rfl
theorem wd_3_133 : (Jvm.Cond.selects "PolicyTree$Row" ({ cls := "PolicyTree$Row", name := "size", desc := "()I" } : Jvm.MethodName) ({ cls := "PolicyTree$Row", name := "size", desc := "()I" } : Jvm.MethodName)) ∈ TB := tbk_3 (List.mem_of_getElem? (i := 133) rfl) rfl
theorem wd_3_134 : (Jvm.Cond.code ({ cls := "PolicyTree$Row", name := "size", desc := "()I" } : Jvm.MethodName) prog_10_method_4_code (1 : Nat) (Option.some Jvm.ClassFile.FieldType.int)) ∈ TB := tbk_3 (List.mem_of_getElem? (i := 134) rfl) rfl
theorem wd_3_135 : (Jvm.Cond.methodLink "PolicyTree$Outcome" (28 : Nat) ({ cls := "PolicyTree$Row", name := "linkAt", desc := "(I)LPolicyTree$Link;" } : Jvm.MethodName)) ∈ TB := tbk_3 (List.mem_of_getElem? (i := 135) rfl) rfl
theorem wd_3_136 : (Jvm.Cond.instanceMethod ({ cls := "PolicyTree$Row", name := "linkAt", desc := "(I)LPolicyTree$Link;" } : Jvm.MethodName)) ∈ TB := tbk_3 (List.mem_of_getElem? (i := 136) rfl) rfl
theorem wd_3_137 : (Jvm.Cond.selects "PolicyTree$Row" ({ cls := "PolicyTree$Row", name := "linkAt", desc := "(I)LPolicyTree$Link;" } : Jvm.MethodName) ({ cls := "PolicyTree$Row", name := "linkAt", desc := "(I)LPolicyTree$Link;" } : Jvm.MethodName)) ∈ TB := tbk_3 (List.mem_of_getElem? (i := 137) rfl) rfl
theorem wd_3_138 : (Jvm.Cond.code ({ cls := "PolicyTree$Row", name := "linkAt", desc := "(I)LPolicyTree$Link;" } : Jvm.MethodName) prog_10_method_5_code (2 : Nat) (Option.some (Jvm.ClassFile.FieldType.object "PolicyTree$Link"))) ∈ TB := tbk_3 (List.mem_of_getElem? (i := 138) rfl) rfl
theorem wd_3_139 : (Jvm.Cond.methodLink "PolicyTree$Outcome" (32 : Nat) ({ cls := "PolicyTree$Row", name := "holds", desc := "(II)Z" } : Jvm.MethodName)) ∈ TB := tbk_3 (List.mem_of_getElem? (i := 139) rfl) rfl
theorem wd_3_140 : (Jvm.Cond.instanceMethod ({ cls := "PolicyTree$Row", name := "holds", desc := "(II)Z" } : Jvm.MethodName)) ∈ TB := tbk_3 (List.mem_of_getElem? (i := 140) rfl) rfl
theorem wd_3_141 : (Jvm.Cond.selects "PolicyTree$Row" ({ cls := "PolicyTree$Row", name := "holds", desc := "(II)Z" } : Jvm.MethodName) ({ cls := "PolicyTree$Row", name := "holds", desc := "(II)Z" } : Jvm.MethodName)) ∈ TB := tbk_3 (List.mem_of_getElem? (i := 141) rfl) rfl
theorem wd_3_142 : (Jvm.Cond.code ({ cls := "PolicyTree$Row", name := "holds", desc := "(II)Z" } : Jvm.MethodName) prog_10_method_6_code (3 : Nat) (Option.some Jvm.ClassFile.FieldType.boolean)) ∈ TB := tbk_3 (List.mem_of_getElem? (i := 142) rfl) rfl
theorem wd_3_143 : (Jvm.Cond.methodLink "PolicyTree$Outcome" (42 : Nat) ({ cls := "PolicyTree$Bundle", name := "tells", desc := "(I)Z" } : Jvm.MethodName)) ∈ TB := tbk_3 (List.mem_of_getElem? (i := 143) rfl) rfl
theorem wd_3_144 : (Jvm.Cond.instanceMethod ({ cls := "PolicyTree$Bundle", name := "tells", desc := "(I)Z" } : Jvm.MethodName)) ∈ TB := tbk_3 (List.mem_of_getElem? (i := 144) rfl) rfl
theorem wd_3_145 : (Jvm.Cond.selects "PolicyTree$Bundle" ({ cls := "PolicyTree$Bundle", name := "tells", desc := "(I)Z" } : Jvm.MethodName) ({ cls := "PolicyTree$Bundle", name := "tells", desc := "(I)Z" } : Jvm.MethodName)) ∈ TB := tbk_3 (List.mem_of_getElem? (i := 145) rfl) rfl
theorem wd_3_146 : (Jvm.Cond.code ({ cls := "PolicyTree$Bundle", name := "tells", desc := "(I)Z" } : Jvm.MethodName) prog_2_method_3_code (2 : Nat) (Option.some Jvm.ClassFile.FieldType.boolean)) ∈ TB := tbk_3 (List.mem_of_getElem? (i := 146) rfl) rfl
theorem wd_3_147 : (Jvm.Cond.methodLink "PolicyTree$Outcome" (48 : Nat) ({ cls := "PolicyTree$Bundle", name := "valueOf", desc := "(I)I" } : Jvm.MethodName)) ∈ TB := tbk_3 (List.mem_of_getElem? (i := 147) rfl) rfl
theorem wd_3_148 : (Jvm.Cond.methodLink "PolicyTree$Outcome" (52 : Nat) ({ cls := "PolicyTree$Outcome", name := "take", desc := "(LPolicyTree$Link;II)V" } : Jvm.MethodName)) ∈ TB := tbk_3 (List.mem_of_getElem? (i := 148) rfl) rfl
theorem wd_3_150 : (Jvm.Cond.instanceMethod ({ cls := "PolicyTree$Outcome", name := "take", desc := "(LPolicyTree$Link;II)V" } : Jvm.MethodName)) ∈ TB := tbk_3 (List.mem_of_getElem? (i := 150) rfl) rfl
theorem wd_3_151 : (Jvm.Cond.code ({ cls := "PolicyTree$Outcome", name := "take", desc := "(LPolicyTree$Link;II)V" } : Jvm.MethodName) prog_9_method_7_code (4 : Nat) (Option.none : Option Jvm.ClassFile.FieldType)) ∈ TB := tbk_3 (List.mem_of_getElem? (i := 151) rfl) rfl
theorem wd_3_152 : (Jvm.Cond.methodLink "PolicyTree$Outcome" (59 : Nat) ({ cls := "PolicyTree$Outcome", name := "has", desc := "(I)Z" } : Jvm.MethodName)) ∈ TB := tbk_3 (List.mem_of_getElem? (i := 152) rfl) rfl
theorem wd_3_154 : (Jvm.Cond.instanceMethod ({ cls := "PolicyTree$Outcome", name := "has", desc := "(I)Z" } : Jvm.MethodName)) ∈ TB := tbk_3 (List.mem_of_getElem? (i := 154) rfl) rfl
theorem wd_3_155 : (Jvm.Cond.code ({ cls := "PolicyTree$Outcome", name := "has", desc := "(I)Z" } : Jvm.MethodName) prog_9_method_8_code (3 : Nat) (Option.some Jvm.ClassFile.FieldType.boolean)) ∈ TB := tbk_3 (List.mem_of_getElem? (i := 155) rfl) rfl
theorem wd_3_156 : (Jvm.Cond.methodLink "PolicyTree$Outcome" (56 : Nat) ({ cls := "PolicyTree$Outcome", name := "valueAt", desc := "(I)I" } : Jvm.MethodName)) ∈ TB := tbk_3 (List.mem_of_getElem? (i := 156) rfl) rfl
theorem wd_3_157 : (Jvm.Cond.instanceMethod ({ cls := "PolicyTree$Outcome", name := "valueAt", desc := "(I)I" } : Jvm.MethodName)) ∈ TB := tbk_3 (List.mem_of_getElem? (i := 157) rfl) rfl
theorem wd_3_158 : (Jvm.Cond.selects "PolicyTree$Outcome" ({ cls := "PolicyTree$Outcome", name := "valueAt", desc := "(I)I" } : Jvm.MethodName) ({ cls := "PolicyTree$Outcome", name := "valueAt", desc := "(I)I" } : Jvm.MethodName)) ∈ TB := tbk_3 (List.mem_of_getElem? (i := 158) rfl) rfl
theorem wd_3_159 : (Jvm.Cond.code ({ cls := "PolicyTree$Outcome", name := "valueAt", desc := "(I)I" } : Jvm.MethodName) prog_9_method_5_code (2 : Nat) (Option.some Jvm.ClassFile.FieldType.int)) ∈ TB := tbk_3 (List.mem_of_getElem? (i := 159) rfl) rfl
theorem wd_3_160 : (Jvm.Cond.methodLink "PolicyTree" (274 : Nat) ({ cls := "PolicyTree$Outcome", name := "isSame", desc := "(LPolicyTree$Outcome;)Z" } : Jvm.MethodName)) ∈ TB := tbk_3 (List.mem_of_getElem? (i := 160) rfl) rfl
theorem wd_3_161 : (Jvm.Cond.instanceMethod ({ cls := "PolicyTree$Outcome", name := "isSame", desc := "(LPolicyTree$Outcome;)Z" } : Jvm.MethodName)) ∈ TB := tbk_3 (List.mem_of_getElem? (i := 161) rfl) rfl
theorem wd_3_162 : (Jvm.Cond.selects "PolicyTree$Outcome" ({ cls := "PolicyTree$Outcome", name := "isSame", desc := "(LPolicyTree$Outcome;)Z" } : Jvm.MethodName) ({ cls := "PolicyTree$Outcome", name := "isSame", desc := "(LPolicyTree$Outcome;)Z" } : Jvm.MethodName)) ∈ TB := tbk_3 (List.mem_of_getElem? (i := 162) rfl) rfl
theorem wd_3_163 : (Jvm.Cond.code ({ cls := "PolicyTree$Outcome", name := "isSame", desc := "(LPolicyTree$Outcome;)Z" } : Jvm.MethodName) prog_9_method_6_code (3 : Nat) (Option.some Jvm.ClassFile.FieldType.boolean)) ∈ TB := tbk_3 (List.mem_of_getElem? (i := 163) rfl) rfl
theorem wd_3_164 : (Jvm.Cond.methodLink "PolicyTreeLaw" (115 : Nat) ({ cls := "PolicyTreeLaw", name := "machine", desc := "(LPolicyTree;I[J)I" } : Jvm.MethodName)) ∈ TB := tbk_3 (List.mem_of_getElem? (i := 164) rfl) rfl
theorem wd_3_165 : (Jvm.Cond.static ({ cls := "PolicyTreeLaw", name := "machine", desc := "(LPolicyTree;I[J)I" } : Jvm.MethodName)) ∈ TB := tbk_3 (List.mem_of_getElem? (i := 165) rfl) rfl
theorem wd_3_166 : (Jvm.Cond.codeWith ({ cls := "PolicyTreeLaw", name := "machine", desc := "(LPolicyTree;I[J)I" } : Jvm.MethodName) method_6_code (4 : Nat) (Option.some Jvm.ClassFile.FieldType.int) [((0 : Nat), (9 : Nat), (12 : Nat), (13 : Nat)), ((0 : Nat), (9 : Nat), (15 : Nat), (15 : Nat))]) ∈ TB := tbk_3 (List.mem_of_getElem? (i := 166) rfl) rfl
theorem wd_3_167 : (Jvm.Cond.methodLink "PolicyTreeLaw" (25 : Nat) ({ cls := "PolicyTree", name := "machine", desc := "(I)I" } : Jvm.MethodName)) ∈ TB := tbk_3 (List.mem_of_getElem? (i := 167) rfl) rfl
theorem wd_3_168 : (Jvm.Cond.instanceMethod ({ cls := "PolicyTree", name := "machine", desc := "(I)I" } : Jvm.MethodName)) ∈ TB := tbk_3 (List.mem_of_getElem? (i := 168) rfl) rfl
theorem wd_3_169 : (Jvm.Cond.selects "PolicyTree" ({ cls := "PolicyTree", name := "machine", desc := "(I)I" } : Jvm.MethodName) ({ cls := "PolicyTree", name := "machine", desc := "(I)I" } : Jvm.MethodName)) ∈ TB := tbk_3 (List.mem_of_getElem? (i := 169) rfl) rfl
theorem wd_3_170 : (Jvm.Cond.code ({ cls := "PolicyTree", name := "machine", desc := "(I)I" } : Jvm.MethodName) prog_1_method_5_code (2 : Nat) (Option.some Jvm.ClassFile.FieldType.int)) ∈ TB := tbk_3 (List.mem_of_getElem? (i := 170) rfl) rfl
theorem wd_3_171 : (Jvm.Cond.instantiable "PolicyTree$Machine" (3 : Nat)) ∈ TB := tbk_3 (List.mem_of_getElem? (i := 171) rfl) rfl
theorem wd_3_172 : (Jvm.Cond.methodLink "PolicyTree" (124 : Nat) ({ cls := "PolicyTree$Machine", name := "<init>", desc := "(LPolicyTree$Node;)V" } : Jvm.MethodName)) ∈ TB := tbk_3 (List.mem_of_getElem? (i := 172) rfl) rfl
theorem wd_3_173 : (Jvm.Cond.instanceMethod ({ cls := "PolicyTree$Machine", name := "<init>", desc := "(LPolicyTree$Node;)V" } : Jvm.MethodName)) ∈ TB := tbk_3 (List.mem_of_getElem? (i := 173) rfl) rfl
theorem wd_3_174 : (Jvm.Cond.code ({ cls := "PolicyTree$Machine", name := "<init>", desc := "(LPolicyTree$Node;)V" } : Jvm.MethodName) prog_7_method_1_code (2 : Nat) (Option.none : Option Jvm.ClassFile.FieldType)) ∈ TB := tbk_3 (List.mem_of_getElem? (i := 174) rfl) rfl
theorem wd_3_175 : (Jvm.Cond.methodLink "PolicyTree$Machine" (1 : Nat) ({ cls := "java/lang/Object", name := "<init>", desc := "()V" } : Jvm.MethodName)) ∈ TB := tbk_3 (List.mem_of_getElem? (i := 175) rfl) rfl
theorem wd_3_176 : (Jvm.Cond.fieldLink "PolicyTree$Machine" (7 : Nat) "PolicyTree$Machine" "node" "LPolicyTree$Node;") ∈ TB := tbk_3 (List.mem_of_getElem? (i := 176) rfl) rfl
theorem wd_3_177 : (Jvm.Cond.fieldLink "PolicyTree$Row" (35 : Nat) "PolicyTree$Machine" "node" "LPolicyTree$Node;") ∈ TB := tbk_3 (List.mem_of_getElem? (i := 177) rfl) rfl
theorem wd_3_178 : (Jvm.Cond.fieldLink "PolicyTree" (113 : Nat) "PolicyTree$Machine" "node" "LPolicyTree$Node;") ∈ TB := tbk_3 (List.mem_of_getElem? (i := 178) rfl) rfl
theorem wd_3_179 : (Jvm.Cond.fieldLink "PolicyTree$Machine" (13 : Nat) "PolicyTree$Machine" "known" "I") ∈ TB := tbk_3 (List.mem_of_getElem? (i := 179) rfl) rfl
theorem wd_3_180 : (Jvm.Cond.fieldLink "PolicyTree$Machine" (17 : Nat) "PolicyTree$Machine" "yes" "I") ∈ TB := tbk_3 (List.mem_of_getElem? (i := 180) rfl) rfl
theorem wd_3_181 : (Jvm.Cond.laysFinal "PolicyTree$Machine" "PolicyTree$Machine" "node" "LPolicyTree$Node;") ∈ TB := tbk_3 (List.mem_of_getElem? (i := 181) rfl) rfl
theorem wd_3_183 : (Jvm.Cond.lays "PolicyTree$Machine" "PolicyTree$Machine" "known" "I") ∈ TB := tbk_3 (List.mem_of_getElem? (i := 183) rfl) rfl
theorem wd_3_185 : (Jvm.Cond.lays "PolicyTree$Machine" "PolicyTree$Machine" "yes" "I") ∈ TB := tbk_3 (List.mem_of_getElem? (i := 185) rfl) rfl
theorem wd_3_188 : (Jvm.Cond.methodLink "PolicyTreeLaw" (118 : Nat) ({ cls := "PolicyTreeLaw", name := "fact", desc := "(LPolicyTree;III[J)I" } : Jvm.MethodName)) ∈ TB := tbk_3 (List.mem_of_getElem? (i := 188) rfl) rfl
theorem wd_3_189 : (Jvm.Cond.static ({ cls := "PolicyTreeLaw", name := "fact", desc := "(LPolicyTree;III[J)I" } : Jvm.MethodName)) ∈ TB := tbk_3 (List.mem_of_getElem? (i := 189) rfl) rfl
theorem wd_3_190 : (Jvm.Cond.codeWith ({ cls := "PolicyTreeLaw", name := "fact", desc := "(LPolicyTree;III[J)I" } : Jvm.MethodName) method_7_code (6 : Nat) (Option.some Jvm.ClassFile.FieldType.int) [((0 : Nat), (12 : Nat), (15 : Nat), (13 : Nat)), ((0 : Nat), (12 : Nat), (19 : Nat), (32 : Nat))]) ∈ TB := tbk_3 (List.mem_of_getElem? (i := 190) rfl) rfl
theorem wd_3_191 : (Jvm.Cond.classLink "PolicyTreeLaw" (32 : Nat) "java/lang/IllegalArgumentException") ∈ TB := tbk_3 (List.mem_of_getElem? (i := 191) rfl) rfl
theorem wd_3_192 : (Jvm.Cond.methodLink "PolicyTreeLaw" (28 : Nat) ({ cls := "PolicyTree", name := "fact", desc := "(III)I" } : Jvm.MethodName)) ∈ TB := tbk_3 (List.mem_of_getElem? (i := 192) rfl) rfl
theorem wd_3_193 : (Jvm.Cond.instanceMethod ({ cls := "PolicyTree", name := "fact", desc := "(III)I" } : Jvm.MethodName)) ∈ TB := tbk_3 (List.mem_of_getElem? (i := 193) rfl) rfl
theorem wd_3_194 : (Jvm.Cond.selects "PolicyTree" ({ cls := "PolicyTree", name := "fact", desc := "(III)I" } : Jvm.MethodName) ({ cls := "PolicyTree", name := "fact", desc := "(III)I" } : Jvm.MethodName)) ∈ TB := tbk_3 (List.mem_of_getElem? (i := 194) rfl) rfl
theorem wd_3_195 : (Jvm.Cond.code ({ cls := "PolicyTree", name := "fact", desc := "(III)I" } : Jvm.MethodName) prog_1_method_6_code (6 : Nat) (Option.some Jvm.ClassFile.FieldType.int)) ∈ TB := tbk_3 (List.mem_of_getElem? (i := 195) rfl) rfl
theorem wd_3_196 : (Jvm.Cond.methodLink "PolicyTree" (127 : Nat) ({ cls := "PolicyTree", name := "needChoice", desc := "(II)V" } : Jvm.MethodName)) ∈ TB := tbk_3 (List.mem_of_getElem? (i := 196) rfl) rfl
theorem wd_3_197 : (Jvm.Cond.static ({ cls := "PolicyTree", name := "needChoice", desc := "(II)V" } : Jvm.MethodName)) ∈ TB := tbk_3 (List.mem_of_getElem? (i := 197) rfl) rfl
theorem wd_3_198 : (Jvm.Cond.code ({ cls := "PolicyTree", name := "needChoice", desc := "(II)V" } : Jvm.MethodName) prog_1_method_30_code (2 : Nat) (Option.none : Option Jvm.ClassFile.FieldType)) ∈ TB := tbk_3 (List.mem_of_getElem? (i := 198) rfl) rfl
theorem wd_3_199 : (Jvm.Cond.classLink "PolicyTree" (130 : Nat) "java/lang/IllegalArgumentException") ∈ TB := tbk_3 (List.mem_of_getElem? (i := 199) rfl) rfl
theorem wd_3_200 : (Jvm.Cond.instantiable "java/lang/IllegalArgumentException" (6 : Nat)) ∈ TB := tbk_3 (List.mem_of_getElem? (i := 200) rfl) rfl
theorem wd_3_202 : (Jvm.Cond.selects "java/lang/IllegalArgumentException" ({ cls := "java/lang/Throwable", name := "fillInStackTrace", desc := "(I)Ljava/lang/Throwable;" } : Jvm.MethodName) ({ cls := "java/lang/Throwable", name := "fillInStackTrace", desc := "(I)Ljava/lang/Throwable;" } : Jvm.MethodName)) ∈ TB := tbk_3 (List.mem_of_getElem? (i := 202) rfl) rfl
theorem wd_3_203 : (Jvm.Cond.lays "java/lang/IllegalArgumentException" "java/lang/Throwable" "cause" "Ljava/lang/Throwable;") ∈ TB := tbk_3 (List.mem_of_getElem? (i := 203) rfl) rfl
theorem wd_3_204 : (Jvm.Cond.lays "java/lang/IllegalArgumentException" "java/lang/Throwable" "stackTrace" "[Ljava/lang/StackTraceElement;") ∈ TB := tbk_3 (List.mem_of_getElem? (i := 204) rfl) rfl
theorem wd_3_205 : (Jvm.Cond.lays "java/lang/IllegalArgumentException" "java/lang/Throwable" "suppressedExceptions" "Ljava/util/List;") ∈ TB := tbk_3 (List.mem_of_getElem? (i := 205) rfl) rfl
theorem wd_3_206 : (Jvm.Cond.lays "java/lang/IllegalArgumentException" "java/lang/Throwable" "detailMessage" "Ljava/lang/String;") ∈ TB := tbk_3 (List.mem_of_getElem? (i := 206) rfl) rfl
theorem wd_3_207 : (Jvm.Cond.lays "java/lang/IllegalArgumentException" "java/lang/Throwable" "backtrace" "Ljava/lang/Object;") ∈ TB := tbk_3 (List.mem_of_getElem? (i := 207) rfl) rfl
theorem wd_3_209 : (Jvm.Cond.methodLink "PolicyTree" (134 : Nat) ({ cls := "java/lang/IllegalArgumentException", name := "<init>", desc := "(Ljava/lang/String;)V" } : Jvm.MethodName)) ∈ TB := tbk_3 (List.mem_of_getElem? (i := 209) rfl) rfl
theorem wd_3_210 : (Jvm.Cond.instanceMethod ({ cls := "java/lang/IllegalArgumentException", name := "<init>", desc := "(Ljava/lang/String;)V" } : Jvm.MethodName)) ∈ TB := tbk_3 (List.mem_of_getElem? (i := 210) rfl) rfl
theorem wd_3_211 : (Jvm.Cond.code ({ cls := "java/lang/IllegalArgumentException", name := "<init>", desc := "(Ljava/lang/String;)V" } : Jvm.MethodName) prog_19_method_2_code (2 : Nat) (Option.none : Option Jvm.ClassFile.FieldType)) ∈ TB := tbk_3 (List.mem_of_getElem? (i := 211) rfl) rfl
theorem wd_3_212 : (Jvm.Cond.methodLink "java/lang/IllegalArgumentException" (7 : Nat) ({ cls := "java/lang/RuntimeException", name := "<init>", desc := "(Ljava/lang/String;)V" } : Jvm.MethodName)) ∈ TB := tbk_3 (List.mem_of_getElem? (i := 212) rfl) rfl
theorem wd_3_213 : (Jvm.Cond.lays "java/lang/IllegalArgumentException" "java/lang/Throwable" "depth" "I") ∈ TB := tbk_3 (List.mem_of_getElem? (i := 213) rfl) rfl
theorem wd_3_216 : (Jvm.Cond.methodLink "PolicyTree" (137 : Nat) ({ cls := "PolicyTree$Machine", name := "factNow", desc := "(I)I" } : Jvm.MethodName)) ∈ TB := tbk_3 (List.mem_of_getElem? (i := 216) rfl) rfl
theorem wd_3_217 : (Jvm.Cond.instanceMethod ({ cls := "PolicyTree$Machine", name := "factNow", desc := "(I)I" } : Jvm.MethodName)) ∈ TB := tbk_3 (List.mem_of_getElem? (i := 217) rfl) rfl
theorem wd_3_218 : (Jvm.Cond.selects "PolicyTree$Machine" ({ cls := "PolicyTree$Machine", name := "factNow", desc := "(I)I" } : Jvm.MethodName) ({ cls := "PolicyTree$Machine", name := "factNow", desc := "(I)I" } : Jvm.MethodName)) ∈ TB := tbk_3 (List.mem_of_getElem? (i := 218) rfl) rfl
theorem wd_3_219 : (Jvm.Cond.code ({ cls := "PolicyTree$Machine", name := "factNow", desc := "(I)I" } : Jvm.MethodName) prog_7_method_4_code (2 : Nat) (Option.some Jvm.ClassFile.FieldType.int)) ∈ TB := tbk_3 (List.mem_of_getElem? (i := 219) rfl) rfl
theorem wd_3_220 : (Jvm.Cond.methodLink "PolicyTree" (141 : Nat) ({ cls := "PolicyTree$Machine", name := "learn", desc := "(II)V" } : Jvm.MethodName)) ∈ TB := tbk_3 (List.mem_of_getElem? (i := 220) rfl) rfl
theorem wd_3_221 : (Jvm.Cond.instanceMethod ({ cls := "PolicyTree$Machine", name := "learn", desc := "(II)V" } : Jvm.MethodName)) ∈ TB := tbk_3 (List.mem_of_getElem? (i := 221) rfl) rfl
theorem wd_3_222 : (Jvm.Cond.selects "PolicyTree$Machine" ({ cls := "PolicyTree$Machine", name := "learn", desc := "(II)V" } : Jvm.MethodName) ({ cls := "PolicyTree$Machine", name := "learn", desc := "(II)V" } : Jvm.MethodName)) ∈ TB := tbk_3 (List.mem_of_getElem? (i := 222) rfl) rfl
theorem wd_3_223 : (Jvm.Cond.code ({ cls := "PolicyTree$Machine", name := "learn", desc := "(II)V" } : Jvm.MethodName) prog_7_method_5_code (4 : Nat) (Option.none : Option Jvm.ClassFile.FieldType)) ∈ TB := tbk_3 (List.mem_of_getElem? (i := 223) rfl) rfl
theorem wd_3_224 : (Jvm.Cond.methodLink "PolicyTreeLaw" (122 : Nat) ({ cls := "PolicyTreeLaw", name := "group", desc := "(LPolicyTree;[J)I" } : Jvm.MethodName)) ∈ TB := tbk_3 (List.mem_of_getElem? (i := 224) rfl) rfl
theorem wd_3_225 : (Jvm.Cond.static ({ cls := "PolicyTreeLaw", name := "group", desc := "(LPolicyTree;[J)I" } : Jvm.MethodName)) ∈ TB := tbk_3 (List.mem_of_getElem? (i := 225) rfl) rfl
theorem wd_3_226 : (Jvm.Cond.codeWith ({ cls := "PolicyTreeLaw", name := "group", desc := "(LPolicyTree;[J)I" } : Jvm.MethodName) method_8_code (3 : Nat) (Option.some Jvm.ClassFile.FieldType.int) [((0 : Nat), (8 : Nat), (11 : Nat), (15 : Nat))]) ∈ TB := tbk_3 (List.mem_of_getElem? (i := 226) rfl) rfl
theorem wd_3_227 : (Jvm.Cond.methodLink "PolicyTreeLaw" (34 : Nat) ({ cls := "PolicyTree", name := "group", desc := "()I" } : Jvm.MethodName)) ∈ TB := tbk_3 (List.mem_of_getElem? (i := 227) rfl) rfl
theorem wd_3_228 : (Jvm.Cond.instanceMethod ({ cls := "PolicyTree", name := "group", desc := "()I" } : Jvm.MethodName)) ∈ TB := tbk_3 (List.mem_of_getElem? (i := 228) rfl) rfl
theorem wd_3_229 : (Jvm.Cond.selects "PolicyTree" ({ cls := "PolicyTree", name := "group", desc := "()I" } : Jvm.MethodName) ({ cls := "PolicyTree", name := "group", desc := "()I" } : Jvm.MethodName)) ∈ TB := tbk_3 (List.mem_of_getElem? (i := 229) rfl) rfl
theorem wd_3_230 : (Jvm.Cond.code ({ cls := "PolicyTree", name := "group", desc := "()I" } : Jvm.MethodName) prog_1_method_7_code (1 : Nat) (Option.some Jvm.ClassFile.FieldType.int)) ∈ TB := tbk_3 (List.mem_of_getElem? (i := 230) rfl) rfl
theorem wd_3_231 : (Jvm.Cond.methodLink "PolicyTree" (145 : Nat) ({ cls := "PolicyTree$Groups", name := "add", desc := "()I" } : Jvm.MethodName)) ∈ TB := tbk_3 (List.mem_of_getElem? (i := 231) rfl) rfl
theorem wd_3_232 : (Jvm.Cond.instanceMethod ({ cls := "PolicyTree$Groups", name := "add", desc := "()I" } : Jvm.MethodName)) ∈ TB := tbk_3 (List.mem_of_getElem? (i := 232) rfl) rfl
theorem wd_3_233 : (Jvm.Cond.selects "PolicyTree$Groups" ({ cls := "PolicyTree$Groups", name := "add", desc := "()I" } : Jvm.MethodName) ({ cls := "PolicyTree$Groups", name := "add", desc := "()I" } : Jvm.MethodName)) ∈ TB := tbk_3 (List.mem_of_getElem? (i := 233) rfl) rfl
theorem wd_3_234 : (Jvm.Cond.code ({ cls := "PolicyTree$Groups", name := "add", desc := "()I" } : Jvm.MethodName) prog_5_method_3_code (1 : Nat) (Option.some Jvm.ClassFile.FieldType.int)) ∈ TB := tbk_3 (List.mem_of_getElem? (i := 234) rfl) rfl
theorem wd_3_235 : (Jvm.Cond.methodLink "PolicyTreeLaw" (126 : Nat) ({ cls := "PolicyTreeLaw", name := "joins", desc := "(LPolicyTree;IIZ[J)I" } : Jvm.MethodName)) ∈ TB := tbk_3 (List.mem_of_getElem? (i := 235) rfl) rfl
theorem wd_3_236 : (Jvm.Cond.static ({ cls := "PolicyTreeLaw", name := "joins", desc := "(LPolicyTree;IIZ[J)I" } : Jvm.MethodName)) ∈ TB := tbk_3 (List.mem_of_getElem? (i := 236) rfl) rfl
theorem wd_3_237 : (Jvm.Cond.codeWith ({ cls := "PolicyTreeLaw", name := "joins", desc := "(LPolicyTree;IIZ[J)I" } : Jvm.MethodName) method_9_code (6 : Nat) (Option.some Jvm.ClassFile.FieldType.int) [((0 : Nat), (19 : Nat), (22 : Nat), (13 : Nat))]) ∈ TB := tbk_3 (List.mem_of_getElem? (i := 237) rfl) rfl
theorem wd_3_238 : (Jvm.Cond.methodLink "PolicyTreeLaw" (38 : Nat) ({ cls := "PolicyTree", name := "joins", desc := "(IIZ)Z" } : Jvm.MethodName)) ∈ TB := tbk_3 (List.mem_of_getElem? (i := 238) rfl) rfl
theorem wd_3_239 : (Jvm.Cond.instanceMethod ({ cls := "PolicyTree", name := "joins", desc := "(IIZ)Z" } : Jvm.MethodName)) ∈ TB := tbk_3 (List.mem_of_getElem? (i := 239) rfl) rfl
theorem wd_4_0 : (Jvm.Cond.selects "PolicyTree" ({ cls := "PolicyTree", name := "joins", desc := "(IIZ)Z" } : Jvm.MethodName) ({ cls := "PolicyTree", name := "joins", desc := "(IIZ)Z" } : Jvm.MethodName)) ∈ TB := tbk_4 (List.mem_of_getElem? (i := 0) rfl) rfl
theorem wd_4_1 : (Jvm.Cond.code ({ cls := "PolicyTree", name := "joins", desc := "(IIZ)Z" } : Jvm.MethodName) prog_1_method_8_code (4 : Nat) (Option.some Jvm.ClassFile.FieldType.boolean)) ∈ TB := tbk_4 (List.mem_of_getElem? (i := 1) rfl) rfl
theorem wd_4_2 : (Jvm.Cond.methodLink "PolicyTree" (147 : Nat) ({ cls := "PolicyTree$Groups", name := "putMachine", desc := "(IIZ)Z" } : Jvm.MethodName)) ∈ TB := tbk_4 (List.mem_of_getElem? (i := 2) rfl) rfl
theorem wd_4_3 : (Jvm.Cond.instanceMethod ({ cls := "PolicyTree$Groups", name := "putMachine", desc := "(IIZ)Z" } : Jvm.MethodName)) ∈ TB := tbk_4 (List.mem_of_getElem? (i := 3) rfl) rfl
theorem wd_4_4 : (Jvm.Cond.selects "PolicyTree$Groups" ({ cls := "PolicyTree$Groups", name := "putMachine", desc := "(IIZ)Z" } : Jvm.MethodName) ({ cls := "PolicyTree$Groups", name := "putMachine", desc := "(IIZ)Z" } : Jvm.MethodName)) ∈ TB := tbk_4 (List.mem_of_getElem? (i := 4) rfl) rfl
theorem wd_4_5 : (Jvm.Cond.code ({ cls := "PolicyTree$Groups", name := "putMachine", desc := "(IIZ)Z" } : Jvm.MethodName) prog_5_method_4_code (7 : Nat) (Option.some Jvm.ClassFile.FieldType.boolean)) ∈ TB := tbk_4 (List.mem_of_getElem? (i := 5) rfl) rfl
theorem wd_4_6 : (Jvm.Cond.constantLong "PolicyTree$Groups" (23 : Nat) (-1 : Int64)) ∈ TB := tbk_4 (List.mem_of_getElem? (i := 6) rfl) rfl
theorem wd_4_7 : (Jvm.Cond.methodLink "PolicyTreeLaw" (130 : Nat) ({ cls := "PolicyTreeLaw", name := "within", desc := "(LPolicyTree;IIZ[J)I" } : Jvm.MethodName)) ∈ TB := tbk_4 (List.mem_of_getElem? (i := 7) rfl) rfl
theorem wd_4_8 : (Jvm.Cond.static ({ cls := "PolicyTreeLaw", name := "within", desc := "(LPolicyTree;IIZ[J)I" } : Jvm.MethodName)) ∈ TB := tbk_4 (List.mem_of_getElem? (i := 8) rfl) rfl
theorem wd_4_9 : (Jvm.Cond.codeWith ({ cls := "PolicyTreeLaw", name := "within", desc := "(LPolicyTree;IIZ[J)I" } : Jvm.MethodName) method_10_code (6 : Nat) (Option.some Jvm.ClassFile.FieldType.int) [((0 : Nat), (19 : Nat), (22 : Nat), (13 : Nat))]) ∈ TB := tbk_4 (List.mem_of_getElem? (i := 9) rfl) rfl
theorem wd_4_10 : (Jvm.Cond.methodLink "PolicyTreeLaw" (42 : Nat) ({ cls := "PolicyTree", name := "within", desc := "(IIZ)Z" } : Jvm.MethodName)) ∈ TB := tbk_4 (List.mem_of_getElem? (i := 10) rfl) rfl
theorem wd_4_11 : (Jvm.Cond.instanceMethod ({ cls := "PolicyTree", name := "within", desc := "(IIZ)Z" } : Jvm.MethodName)) ∈ TB := tbk_4 (List.mem_of_getElem? (i := 11) rfl) rfl
theorem wd_4_12 : (Jvm.Cond.selects "PolicyTree" ({ cls := "PolicyTree", name := "within", desc := "(IIZ)Z" } : Jvm.MethodName) ({ cls := "PolicyTree", name := "within", desc := "(IIZ)Z" } : Jvm.MethodName)) ∈ TB := tbk_4 (List.mem_of_getElem? (i := 12) rfl) rfl
theorem wd_4_13 : (Jvm.Cond.code ({ cls := "PolicyTree", name := "within", desc := "(IIZ)Z" } : Jvm.MethodName) prog_1_method_9_code (4 : Nat) (Option.some Jvm.ClassFile.FieldType.boolean)) ∈ TB := tbk_4 (List.mem_of_getElem? (i := 13) rfl) rfl
theorem wd_4_14 : (Jvm.Cond.methodLink "PolicyTree" (151 : Nat) ({ cls := "PolicyTree$Groups", name := "putGroup", desc := "(IIZ)Z" } : Jvm.MethodName)) ∈ TB := tbk_4 (List.mem_of_getElem? (i := 14) rfl) rfl
theorem wd_4_15 : (Jvm.Cond.instanceMethod ({ cls := "PolicyTree$Groups", name := "putGroup", desc := "(IIZ)Z" } : Jvm.MethodName)) ∈ TB := tbk_4 (List.mem_of_getElem? (i := 15) rfl) rfl
theorem wd_4_16 : (Jvm.Cond.selects "PolicyTree$Groups" ({ cls := "PolicyTree$Groups", name := "putGroup", desc := "(IIZ)Z" } : Jvm.MethodName) ({ cls := "PolicyTree$Groups", name := "putGroup", desc := "(IIZ)Z" } : Jvm.MethodName)) ∈ TB := tbk_4 (List.mem_of_getElem? (i := 16) rfl) rfl
theorem wd_4_17 : (Jvm.Cond.code ({ cls := "PolicyTree$Groups", name := "putGroup", desc := "(IIZ)Z" } : Jvm.MethodName) prog_5_method_5_code (6 : Nat) (Option.some Jvm.ClassFile.FieldType.boolean)) ∈ TB := tbk_4 (List.mem_of_getElem? (i := 17) rfl) rfl
theorem wd_4_18 : (Jvm.Cond.methodLink "PolicyTreeLaw" (133 : Nat) ({ cls := "PolicyTreeLaw", name := "member", desc := "(LPolicyTree;II[J)I" } : Jvm.MethodName)) ∈ TB := tbk_4 (List.mem_of_getElem? (i := 18) rfl) rfl
theorem wd_4_19 : (Jvm.Cond.static ({ cls := "PolicyTreeLaw", name := "member", desc := "(LPolicyTree;II[J)I" } : Jvm.MethodName)) ∈ TB := tbk_4 (List.mem_of_getElem? (i := 19) rfl) rfl
theorem wd_4_20 : (Jvm.Cond.codeWith ({ cls := "PolicyTreeLaw", name := "member", desc := "(LPolicyTree;II[J)I" } : Jvm.MethodName) method_11_code (5 : Nat) (Option.some Jvm.ClassFile.FieldType.int) [((0 : Nat), (17 : Nat), (20 : Nat), (13 : Nat))]) ∈ TB := tbk_4 (List.mem_of_getElem? (i := 20) rfl) rfl
theorem wd_4_21 : (Jvm.Cond.methodLink "PolicyTreeLaw" (45 : Nat) ({ cls := "PolicyTree", name := "member", desc := "(II)Z" } : Jvm.MethodName)) ∈ TB := tbk_4 (List.mem_of_getElem? (i := 21) rfl) rfl
theorem wd_4_22 : (Jvm.Cond.instanceMethod ({ cls := "PolicyTree", name := "member", desc := "(II)Z" } : Jvm.MethodName)) ∈ TB := tbk_4 (List.mem_of_getElem? (i := 22) rfl) rfl
theorem wd_4_23 : (Jvm.Cond.selects "PolicyTree" ({ cls := "PolicyTree", name := "member", desc := "(II)Z" } : Jvm.MethodName) ({ cls := "PolicyTree", name := "member", desc := "(II)Z" } : Jvm.MethodName)) ∈ TB := tbk_4 (List.mem_of_getElem? (i := 23) rfl) rfl
theorem wd_4_24 : (Jvm.Cond.code ({ cls := "PolicyTree", name := "member", desc := "(II)Z" } : Jvm.MethodName) prog_1_method_10_code (3 : Nat) (Option.some Jvm.ClassFile.FieldType.boolean)) ∈ TB := tbk_4 (List.mem_of_getElem? (i := 24) rfl) rfl
theorem wd_4_25 : (Jvm.Cond.methodLink "PolicyTreeLaw" (136 : Nat) ({ cls := "PolicyTreeLaw", name := "set", desc := "(LPolicyTree;[J)I" } : Jvm.MethodName)) ∈ TB := tbk_4 (List.mem_of_getElem? (i := 25) rfl) rfl
theorem wd_4_26 : (Jvm.Cond.static ({ cls := "PolicyTreeLaw", name := "set", desc := "(LPolicyTree;[J)I" } : Jvm.MethodName)) ∈ TB := tbk_4 (List.mem_of_getElem? (i := 26) rfl) rfl
theorem wd_4_27 : (Jvm.Cond.codeWith ({ cls := "PolicyTreeLaw", name := "set", desc := "(LPolicyTree;[J)I" } : Jvm.MethodName) method_12_code (3 : Nat) (Option.some Jvm.ClassFile.FieldType.int) [((0 : Nat), (8 : Nat), (11 : Nat), (15 : Nat))]) ∈ TB := tbk_4 (List.mem_of_getElem? (i := 27) rfl) rfl
theorem wd_4_28 : (Jvm.Cond.methodLink "PolicyTreeLaw" (49 : Nat) ({ cls := "PolicyTree", name := "set", desc := "()I" } : Jvm.MethodName)) ∈ TB := tbk_4 (List.mem_of_getElem? (i := 28) rfl) rfl
theorem wd_4_29 : (Jvm.Cond.instanceMethod ({ cls := "PolicyTree", name := "set", desc := "()I" } : Jvm.MethodName)) ∈ TB := tbk_4 (List.mem_of_getElem? (i := 29) rfl) rfl
theorem wd_4_30 : (Jvm.Cond.selects "PolicyTree" ({ cls := "PolicyTree", name := "set", desc := "()I" } : Jvm.MethodName) ({ cls := "PolicyTree", name := "set", desc := "()I" } : Jvm.MethodName)) ∈ TB := tbk_4 (List.mem_of_getElem? (i := 30) rfl) rfl
theorem wd_4_31 : (Jvm.Cond.code ({ cls := "PolicyTree", name := "set", desc := "()I" } : Jvm.MethodName) prog_1_method_11_code (1 : Nat) (Option.some Jvm.ClassFile.FieldType.int)) ∈ TB := tbk_4 (List.mem_of_getElem? (i := 31) rfl) rfl
theorem wd_4_32 : (Jvm.Cond.classLink "PolicyTree" (157 : Nat) "PolicyTree$Bundle") ∈ TB := tbk_4 (List.mem_of_getElem? (i := 32) rfl) rfl
theorem wd_4_33 : (Jvm.Cond.instantiable "PolicyTree$Bundle" (2 : Nat)) ∈ TB := tbk_4 (List.mem_of_getElem? (i := 33) rfl) rfl
theorem wd_4_35 : (Jvm.Cond.instanceMethod ({ cls := "PolicyTree$Bundle", name := "<init>", desc := "()V" } : Jvm.MethodName)) ∈ TB := tbk_4 (List.mem_of_getElem? (i := 35) rfl) rfl
theorem wd_4_36 : (Jvm.Cond.code ({ cls := "PolicyTree$Bundle", name := "<init>", desc := "()V" } : Jvm.MethodName) prog_2_method_1_code (1 : Nat) (Option.none : Option Jvm.ClassFile.FieldType)) ∈ TB := tbk_4 (List.mem_of_getElem? (i := 36) rfl) rfl
theorem wd_4_37 : (Jvm.Cond.methodLink "PolicyTree$Bundle" (3 : Nat) ({ cls := "java/lang/Object", name := "<init>", desc := "()V" } : Jvm.MethodName)) ∈ TB := tbk_4 (List.mem_of_getElem? (i := 37) rfl) rfl
theorem wd_4_38 : (Jvm.Cond.fieldLink "PolicyTree$Bundle" (9 : Nat) "PolicyTree$Bundle" "values" "[I") ∈ TB := tbk_4 (List.mem_of_getElem? (i := 38) rfl) rfl
theorem wd_4_39 : (Jvm.Cond.fieldLink "PolicyTree$Bundle" (15 : Nat) "PolicyTree$Bundle" "told" "I") ∈ TB := tbk_4 (List.mem_of_getElem? (i := 39) rfl) rfl
theorem wd_4_40 : (Jvm.Cond.laysFinal "PolicyTree$Bundle" "PolicyTree$Bundle" "values" "[I") ∈ TB := tbk_4 (List.mem_of_getElem? (i := 40) rfl) rfl
theorem wd_4_42 : (Jvm.Cond.lays "PolicyTree$Bundle" "PolicyTree$Bundle" "told" "I") ∈ TB := tbk_4 (List.mem_of_getElem? (i := 42) rfl) rfl
theorem wd_4_45 : (Jvm.Cond.methodLink "PolicyTreeLaw" (139 : Nat) ({ cls := "PolicyTreeLaw", name := "tell", desc := "(LPolicyTree;III[J)I" } : Jvm.MethodName)) ∈ TB := tbk_4 (List.mem_of_getElem? (i := 45) rfl) rfl
theorem wd_4_46 : (Jvm.Cond.static ({ cls := "PolicyTreeLaw", name := "tell", desc := "(LPolicyTree;III[J)I" } : Jvm.MethodName)) ∈ TB := tbk_4 (List.mem_of_getElem? (i := 46) rfl) rfl
theorem wd_4_47 : (Jvm.Cond.codeWith ({ cls := "PolicyTreeLaw", name := "tell", desc := "(LPolicyTree;III[J)I" } : Jvm.MethodName) method_13_code (6 : Nat) (Option.some Jvm.ClassFile.FieldType.int) [((0 : Nat), (19 : Nat), (22 : Nat), (13 : Nat)), ((0 : Nat), (19 : Nat), (26 : Nat), (32 : Nat))]) ∈ TB := tbk_4 (List.mem_of_getElem? (i := 47) rfl) rfl
theorem wd_4_48 : (Jvm.Cond.methodLink "PolicyTreeLaw" (52 : Nat) ({ cls := "PolicyTree", name := "tell", desc := "(III)Z" } : Jvm.MethodName)) ∈ TB := tbk_4 (List.mem_of_getElem? (i := 48) rfl) rfl
theorem wd_4_49 : (Jvm.Cond.instanceMethod ({ cls := "PolicyTree", name := "tell", desc := "(III)Z" } : Jvm.MethodName)) ∈ TB := tbk_4 (List.mem_of_getElem? (i := 49) rfl) rfl
theorem wd_4_50 : (Jvm.Cond.selects "PolicyTree" ({ cls := "PolicyTree", name := "tell", desc := "(III)Z" } : Jvm.MethodName) ({ cls := "PolicyTree", name := "tell", desc := "(III)Z" } : Jvm.MethodName)) ∈ TB := tbk_4 (List.mem_of_getElem? (i := 50) rfl) rfl
theorem wd_4_51 : (Jvm.Cond.code ({ cls := "PolicyTree", name := "tell", desc := "(III)Z" } : Jvm.MethodName) prog_1_method_12_code (4 : Nat) (Option.some Jvm.ClassFile.FieldType.boolean)) ∈ TB := tbk_4 (List.mem_of_getElem? (i := 51) rfl) rfl
theorem wd_4_52 : (Jvm.Cond.methodLink "PolicyTree" (160 : Nat) ({ cls := "PolicyTree$Bundle", name := "put", desc := "(II)Z" } : Jvm.MethodName)) ∈ TB := tbk_4 (List.mem_of_getElem? (i := 52) rfl) rfl
theorem wd_4_53 : (Jvm.Cond.instanceMethod ({ cls := "PolicyTree$Bundle", name := "put", desc := "(II)Z" } : Jvm.MethodName)) ∈ TB := tbk_4 (List.mem_of_getElem? (i := 53) rfl) rfl
theorem wd_4_54 : (Jvm.Cond.selects "PolicyTree$Bundle" ({ cls := "PolicyTree$Bundle", name := "put", desc := "(II)Z" } : Jvm.MethodName) ({ cls := "PolicyTree$Bundle", name := "put", desc := "(II)Z" } : Jvm.MethodName)) ∈ TB := tbk_4 (List.mem_of_getElem? (i := 54) rfl) rfl
theorem wd_4_55 : (Jvm.Cond.code ({ cls := "PolicyTree$Bundle", name := "put", desc := "(II)Z" } : Jvm.MethodName) prog_2_method_5_code (3 : Nat) (Option.some Jvm.ClassFile.FieldType.boolean)) ∈ TB := tbk_4 (List.mem_of_getElem? (i := 55) rfl) rfl
theorem wd_4_56 : (Jvm.Cond.methodLink "PolicyTree$Bundle" (19 : Nat) ({ cls := "PolicyTree$Bundle", name := "tells", desc := "(I)Z" } : Jvm.MethodName)) ∈ TB := tbk_4 (List.mem_of_getElem? (i := 56) rfl) rfl
theorem wd_4_57 : (Jvm.Cond.methodLink "PolicyTreeLaw" (142 : Nat) ({ cls := "PolicyTreeLaw", name := "untell", desc := "(LPolicyTree;II[J)I" } : Jvm.MethodName)) ∈ TB := tbk_4 (List.mem_of_getElem? (i := 57) rfl) rfl
theorem wd_4_58 : (Jvm.Cond.static ({ cls := "PolicyTreeLaw", name := "untell", desc := "(LPolicyTree;II[J)I" } : Jvm.MethodName)) ∈ TB := tbk_4 (List.mem_of_getElem? (i := 58) rfl) rfl
theorem wd_4_59 : (Jvm.Cond.codeWith ({ cls := "PolicyTreeLaw", name := "untell", desc := "(LPolicyTree;II[J)I" } : Jvm.MethodName) method_14_code (5 : Nat) (Option.some Jvm.ClassFile.FieldType.int) [((0 : Nat), (17 : Nat), (20 : Nat), (13 : Nat)), ((0 : Nat), (17 : Nat), (24 : Nat), (32 : Nat))]) ∈ TB := tbk_4 (List.mem_of_getElem? (i := 59) rfl) rfl
theorem wd_4_60 : (Jvm.Cond.methodLink "PolicyTreeLaw" (56 : Nat) ({ cls := "PolicyTree", name := "untell", desc := "(II)Z" } : Jvm.MethodName)) ∈ TB := tbk_4 (List.mem_of_getElem? (i := 60) rfl) rfl
theorem wd_4_61 : (Jvm.Cond.instanceMethod ({ cls := "PolicyTree", name := "untell", desc := "(II)Z" } : Jvm.MethodName)) ∈ TB := tbk_4 (List.mem_of_getElem? (i := 61) rfl) rfl
theorem wd_4_62 : (Jvm.Cond.selects "PolicyTree" ({ cls := "PolicyTree", name := "untell", desc := "(II)Z" } : Jvm.MethodName) ({ cls := "PolicyTree", name := "untell", desc := "(II)Z" } : Jvm.MethodName)) ∈ TB := tbk_4 (List.mem_of_getElem? (i := 62) rfl) rfl
theorem wd_4_63 : (Jvm.Cond.code ({ cls := "PolicyTree", name := "untell", desc := "(II)Z" } : Jvm.MethodName) prog_1_method_13_code (3 : Nat) (Option.some Jvm.ClassFile.FieldType.boolean)) ∈ TB := tbk_4 (List.mem_of_getElem? (i := 63) rfl) rfl
theorem wd_4_64 : (Jvm.Cond.methodLink "PolicyTree" (164 : Nat) ({ cls := "PolicyTree$Bundle", name := "drop", desc := "(I)Z" } : Jvm.MethodName)) ∈ TB := tbk_4 (List.mem_of_getElem? (i := 64) rfl) rfl
theorem wd_4_65 : (Jvm.Cond.instanceMethod ({ cls := "PolicyTree$Bundle", name := "drop", desc := "(I)Z" } : Jvm.MethodName)) ∈ TB := tbk_4 (List.mem_of_getElem? (i := 65) rfl) rfl
theorem wd_4_66 : (Jvm.Cond.selects "PolicyTree$Bundle" ({ cls := "PolicyTree$Bundle", name := "drop", desc := "(I)Z" } : Jvm.MethodName) ({ cls := "PolicyTree$Bundle", name := "drop", desc := "(I)Z" } : Jvm.MethodName)) ∈ TB := tbk_4 (List.mem_of_getElem? (i := 66) rfl) rfl
theorem wd_4_67 : (Jvm.Cond.code ({ cls := "PolicyTree$Bundle", name := "drop", desc := "(I)Z" } : Jvm.MethodName) prog_2_method_6_code (3 : Nat) (Option.some Jvm.ClassFile.FieldType.boolean)) ∈ TB := tbk_4 (List.mem_of_getElem? (i := 67) rfl) rfl
theorem wd_4_68 : (Jvm.Cond.methodLink "PolicyTreeLaw" (145 : Nat) ({ cls := "PolicyTreeLaw", name := "law", desc := "(LPolicyTree;II[J)I" } : Jvm.MethodName)) ∈ TB := tbk_4 (List.mem_of_getElem? (i := 68) rfl) rfl
theorem wd_4_69 : (Jvm.Cond.static ({ cls := "PolicyTreeLaw", name := "law", desc := "(LPolicyTree;II[J)I" } : Jvm.MethodName)) ∈ TB := tbk_4 (List.mem_of_getElem? (i := 69) rfl) rfl
theorem wd_4_70 : (Jvm.Cond.codeWith ({ cls := "PolicyTreeLaw", name := "law", desc := "(LPolicyTree;II[J)I" } : Jvm.MethodName) method_15_code (5 : Nat) (Option.some Jvm.ClassFile.FieldType.int) [((0 : Nat), (10 : Nat), (13 : Nat), (32 : Nat))]) ∈ TB := tbk_4 (List.mem_of_getElem? (i := 70) rfl) rfl
theorem wd_4_71 : (Jvm.Cond.methodLink "PolicyTreeLaw" (59 : Nat) ({ cls := "PolicyTree", name := "law", desc := "(II)I" } : Jvm.MethodName)) ∈ TB := tbk_4 (List.mem_of_getElem? (i := 71) rfl) rfl
theorem wd_4_72 : (Jvm.Cond.instanceMethod ({ cls := "PolicyTree", name := "law", desc := "(II)I" } : Jvm.MethodName)) ∈ TB := tbk_4 (List.mem_of_getElem? (i := 72) rfl) rfl
theorem wd_4_73 : (Jvm.Cond.selects "PolicyTree" ({ cls := "PolicyTree", name := "law", desc := "(II)I" } : Jvm.MethodName) ({ cls := "PolicyTree", name := "law", desc := "(II)I" } : Jvm.MethodName)) ∈ TB := tbk_4 (List.mem_of_getElem? (i := 73) rfl) rfl
theorem wd_4_74 : (Jvm.Cond.code ({ cls := "PolicyTree", name := "law", desc := "(II)I" } : Jvm.MethodName) prog_1_method_14_code (4 : Nat) (Option.some Jvm.ClassFile.FieldType.int)) ∈ TB := tbk_4 (List.mem_of_getElem? (i := 74) rfl) rfl
theorem wd_4_75 : (Jvm.Cond.methodLink "PolicyTreeLaw" (153 : Nat) ({ cls := "PolicyTreeLaw", name := "link", desc := "(LPolicyTree;IIIZI[J)I" } : Jvm.MethodName)) ∈ TB := tbk_4 (List.mem_of_getElem? (i := 75) rfl) rfl
theorem wd_4_76 : (Jvm.Cond.static ({ cls := "PolicyTreeLaw", name := "link", desc := "(LPolicyTree;IIIZI[J)I" } : Jvm.MethodName)) ∈ TB := tbk_4 (List.mem_of_getElem? (i := 76) rfl) rfl
theorem wd_4_77 : (Jvm.Cond.codeWith ({ cls := "PolicyTreeLaw", name := "link", desc := "(LPolicyTree;IIIZI[J)I" } : Jvm.MethodName) method_16_code (8 : Nat) (Option.some Jvm.ClassFile.FieldType.int) [((0 : Nat), (16 : Nat), (19 : Nat), (13 : Nat)), ((0 : Nat), (16 : Nat), (23 : Nat), (32 : Nat)), ((0 : Nat), (16 : Nat), (27 : Nat), (15 : Nat))]) ∈ TB := tbk_4 (List.mem_of_getElem? (i := 77) rfl) rfl
theorem wd_4_78 : (Jvm.Cond.methodLink "PolicyTreeLaw" (62 : Nat) ({ cls := "PolicyTree", name := "link", desc := "(IIIZI)I" } : Jvm.MethodName)) ∈ TB := tbk_4 (List.mem_of_getElem? (i := 78) rfl) rfl
theorem wd_4_79 : (Jvm.Cond.instanceMethod ({ cls := "PolicyTree", name := "link", desc := "(IIIZI)I" } : Jvm.MethodName)) ∈ TB := tbk_4 (List.mem_of_getElem? (i := 79) rfl) rfl
theorem wd_4_80 : (Jvm.Cond.selects "PolicyTree" ({ cls := "PolicyTree", name := "link", desc := "(IIIZI)I" } : Jvm.MethodName) ({ cls := "PolicyTree", name := "link", desc := "(IIIZI)I" } : Jvm.MethodName)) ∈ TB := tbk_4 (List.mem_of_getElem? (i := 80) rfl) rfl
theorem wd_4_81 : (Jvm.Cond.code ({ cls := "PolicyTree", name := "link", desc := "(IIIZI)I" } : Jvm.MethodName) prog_1_method_16_code (9 : Nat) (Option.some Jvm.ClassFile.FieldType.int)) ∈ TB := tbk_4 (List.mem_of_getElem? (i := 81) rfl) rfl
theorem wd_4_82 : (Jvm.Cond.methodLink "PolicyTree" (176 : Nat) ({ cls := "PolicyTree$FilterReader", name := "read", desc := "(III)I" } : Jvm.MethodName)) ∈ TB := tbk_4 (List.mem_of_getElem? (i := 82) rfl) rfl
theorem wd_4_83 : (Jvm.Cond.instanceMethod ({ cls := "PolicyTree$FilterReader", name := "read", desc := "(III)I" } : Jvm.MethodName)) ∈ TB := tbk_4 (List.mem_of_getElem? (i := 83) rfl) rfl
theorem wd_4_84 : (Jvm.Cond.selects "PolicyTree$FilterReader" ({ cls := "PolicyTree$FilterReader", name := "read", desc := "(III)I" } : Jvm.MethodName) ({ cls := "PolicyTree$FilterReader", name := "read", desc := "(III)I" } : Jvm.MethodName)) ∈ TB := tbk_4 (List.mem_of_getElem? (i := 84) rfl) rfl
theorem wd_4_85 : (Jvm.Cond.code ({ cls := "PolicyTree$FilterReader", name := "read", desc := "(III)I" } : Jvm.MethodName) prog_4_method_2_code (4 : Nat) (Option.some Jvm.ClassFile.FieldType.int)) ∈ TB := tbk_4 (List.mem_of_getElem? (i := 85) rfl) rfl
theorem wd_4_86 : (Jvm.Cond.methodLink "PolicyTree$FilterReader" (43 : Nat) ({ cls := "PolicyTree$FilterReader", name := "skipBlanks", desc := "()V" } : Jvm.MethodName)) ∈ TB := tbk_4 (List.mem_of_getElem? (i := 86) rfl) rfl
theorem wd_4_88 : (Jvm.Cond.instanceMethod ({ cls := "PolicyTree$FilterReader", name := "skipBlanks", desc := "()V" } : Jvm.MethodName)) ∈ TB := tbk_4 (List.mem_of_getElem? (i := 88) rfl) rfl
theorem wd_4_89 : (Jvm.Cond.code ({ cls := "PolicyTree$FilterReader", name := "skipBlanks", desc := "()V" } : Jvm.MethodName) prog_4_method_10_code (1 : Nat) (Option.none : Option Jvm.ClassFile.FieldType)) ∈ TB := tbk_4 (List.mem_of_getElem? (i := 89) rfl) rfl
theorem wd_4_90 : (Jvm.Cond.methodLink "PolicyTree$FilterReader" (107 : Nat) ({ cls := "PolicyTree$Tape", name := "byteAt", desc := "(I)I" } : Jvm.MethodName)) ∈ TB := tbk_4 (List.mem_of_getElem? (i := 90) rfl) rfl
theorem wd_4_91 : (Jvm.Cond.instanceMethod ({ cls := "PolicyTree$Tape", name := "byteAt", desc := "(I)I" } : Jvm.MethodName)) ∈ TB := tbk_4 (List.mem_of_getElem? (i := 91) rfl) rfl
theorem wd_4_92 : (Jvm.Cond.selects "PolicyTree$Tape" ({ cls := "PolicyTree$Tape", name := "byteAt", desc := "(I)I" } : Jvm.MethodName) ({ cls := "PolicyTree$Tape", name := "byteAt", desc := "(I)I" } : Jvm.MethodName)) ∈ TB := tbk_4 (List.mem_of_getElem? (i := 92) rfl) rfl
theorem wd_4_93 : (Jvm.Cond.code ({ cls := "PolicyTree$Tape", name := "byteAt", desc := "(I)I" } : Jvm.MethodName) prog_12_method_5_code (2 : Nat) (Option.some Jvm.ClassFile.FieldType.int)) ∈ TB := tbk_4 (List.mem_of_getElem? (i := 93) rfl) rfl
theorem wd_4_94 : (Jvm.Cond.methodLink "PolicyTree$FilterReader" (46 : Nat) ({ cls := "PolicyTree$FilterReader", name := "readEither", desc := "(I)V" } : Jvm.MethodName)) ∈ TB := tbk_4 (List.mem_of_getElem? (i := 94) rfl) rfl
theorem wd_4_96 : (Jvm.Cond.instanceMethod ({ cls := "PolicyTree$FilterReader", name := "readEither", desc := "(I)V" } : Jvm.MethodName)) ∈ TB := tbk_4 (List.mem_of_getElem? (i := 96) rfl) rfl
theorem wd_4_97 : (Jvm.Cond.code ({ cls := "PolicyTree$FilterReader", name := "readEither", desc := "(I)V" } : Jvm.MethodName) prog_4_method_5_code (3 : Nat) (Option.none : Option Jvm.ClassFile.FieldType)) ∈ TB := tbk_4 (List.mem_of_getElem? (i := 97) rfl) rfl
theorem wd_4_98 : (Jvm.Cond.methodLink "PolicyTree$FilterReader" (71 : Nat) ({ cls := "PolicyTree$FilterReader", name := "readBoth", desc := "(I)V" } : Jvm.MethodName)) ∈ TB := tbk_4 (List.mem_of_getElem? (i := 98) rfl) rfl
theorem wd_4_100 : (Jvm.Cond.instanceMethod ({ cls := "PolicyTree$FilterReader", name := "readBoth", desc := "(I)V" } : Jvm.MethodName)) ∈ TB := tbk_4 (List.mem_of_getElem? (i := 100) rfl) rfl
theorem wd_4_101 : (Jvm.Cond.code ({ cls := "PolicyTree$FilterReader", name := "readBoth", desc := "(I)V" } : Jvm.MethodName) prog_4_method_6_code (3 : Nat) (Option.none : Option Jvm.ClassFile.FieldType)) ∈ TB := tbk_4 (List.mem_of_getElem? (i := 101) rfl) rfl
theorem wd_4_102 : (Jvm.Cond.methodLink "PolicyTree$FilterReader" (83 : Nat) ({ cls := "PolicyTree$FilterReader", name := "readOne", desc := "(I)V" } : Jvm.MethodName)) ∈ TB := tbk_4 (List.mem_of_getElem? (i := 102) rfl) rfl
theorem wd_4_104 : (Jvm.Cond.instanceMethod ({ cls := "PolicyTree$FilterReader", name := "readOne", desc := "(I)V" } : Jvm.MethodName)) ∈ TB := tbk_4 (List.mem_of_getElem? (i := 104) rfl) rfl
theorem wd_4_105 : (Jvm.Cond.code ({ cls := "PolicyTree$FilterReader", name := "readOne", desc := "(I)V" } : Jvm.MethodName) prog_4_method_7_code (3 : Nat) (Option.none : Option Jvm.ClassFile.FieldType)) ∈ TB := tbk_4 (List.mem_of_getElem? (i := 105) rfl) rfl
theorem wd_4_106 : (Jvm.Cond.methodLink "PolicyTree$FilterReader" (88 : Nat) ({ cls := "PolicyTree$FilterReader", name := "takesByte", desc := "(C)Z" } : Jvm.MethodName)) ∈ TB := tbk_4 (List.mem_of_getElem? (i := 106) rfl) rfl
theorem wd_4_108 : (Jvm.Cond.instanceMethod ({ cls := "PolicyTree$FilterReader", name := "takesByte", desc := "(C)Z" } : Jvm.MethodName)) ∈ TB := tbk_4 (List.mem_of_getElem? (i := 108) rfl) rfl
theorem wd_4_109 : (Jvm.Cond.code ({ cls := "PolicyTree$FilterReader", name := "takesByte", desc := "(C)Z" } : Jvm.MethodName) prog_4_method_11_code (2 : Nat) (Option.some Jvm.ClassFile.FieldType.boolean)) ∈ TB := tbk_4 (List.mem_of_getElem? (i := 109) rfl) rfl
theorem wd_4_110 : (Jvm.Cond.methodLink "PolicyTree$FilterReader" (92 : Nat) ({ cls := "PolicyTree$FilterReader", name := "mayOpen", desc := "(II)Z" } : Jvm.MethodName)) ∈ TB := tbk_4 (List.mem_of_getElem? (i := 110) rfl) rfl
theorem wd_4_112 : (Jvm.Cond.instanceMethod ({ cls := "PolicyTree$FilterReader", name := "mayOpen", desc := "(II)Z" } : Jvm.MethodName)) ∈ TB := tbk_4 (List.mem_of_getElem? (i := 112) rfl) rfl
theorem wd_4_113 : (Jvm.Cond.code ({ cls := "PolicyTree$FilterReader", name := "mayOpen", desc := "(II)Z" } : Jvm.MethodName) prog_4_method_8_code (3 : Nat) (Option.some Jvm.ClassFile.FieldType.boolean)) ∈ TB := tbk_4 (List.mem_of_getElem? (i := 113) rfl) rfl
theorem wd_4_114 : (Jvm.Cond.methodLink "PolicyTree$FilterReader" (50 : Nat) ({ cls := "PolicyTree$FilterReader", name := "blame", desc := "(II)V" } : Jvm.MethodName)) ∈ TB := tbk_4 (List.mem_of_getElem? (i := 114) rfl) rfl
theorem wd_4_116 : (Jvm.Cond.instanceMethod ({ cls := "PolicyTree$FilterReader", name := "blame", desc := "(II)V" } : Jvm.MethodName)) ∈ TB := tbk_4 (List.mem_of_getElem? (i := 116) rfl) rfl
theorem wd_4_117 : (Jvm.Cond.code ({ cls := "PolicyTree$FilterReader", name := "blame", desc := "(II)V" } : Jvm.MethodName) prog_4_method_15_code (3 : Nat) (Option.none : Option Jvm.ClassFile.FieldType)) ∈ TB := tbk_4 (List.mem_of_getElem? (i := 117) rfl) rfl
theorem wd_4_119 : (Jvm.Cond.methodLink "PolicyTree$FilterReader" (76 : Nat) ({ cls := "PolicyTree$FilterReader", name := "takesWord", desc := "(Ljava/lang/String;)Z" } : Jvm.MethodName)) ∈ TB := tbk_4 (List.mem_of_getElem? (i := 119) rfl) rfl
theorem wd_4_121 : (Jvm.Cond.instanceMethod ({ cls := "PolicyTree$FilterReader", name := "takesWord", desc := "(Ljava/lang/String;)Z" } : Jvm.MethodName)) ∈ TB := tbk_4 (List.mem_of_getElem? (i := 121) rfl) rfl
theorem wd_4_122 : (Jvm.Cond.code ({ cls := "PolicyTree$FilterReader", name := "takesWord", desc := "(Ljava/lang/String;)Z" } : Jvm.MethodName) prog_4_method_12_code (4 : Nat) (Option.some Jvm.ClassFile.FieldType.boolean)) ∈ TB := tbk_4 (List.mem_of_getElem? (i := 122) rfl) rfl
theorem wd_4_123 : (Jvm.Cond.methodLink "PolicyTree$FilterReader" (111 : Nat) ({ cls := "PolicyTree$FilterReader", name := "isBetween", desc := "(III)Z" } : Jvm.MethodName)) ∈ TB := tbk_4 (List.mem_of_getElem? (i := 123) rfl) rfl
theorem wd_4_124 : (Jvm.Cond.static ({ cls := "PolicyTree$FilterReader", name := "isBetween", desc := "(III)Z" } : Jvm.MethodName)) ∈ TB := tbk_4 (List.mem_of_getElem? (i := 124) rfl) rfl
theorem wd_4_125 : (Jvm.Cond.code ({ cls := "PolicyTree$FilterReader", name := "isBetween", desc := "(III)Z" } : Jvm.MethodName) prog_4_method_13_code (3 : Nat) (Option.some Jvm.ClassFile.FieldType.boolean)) ∈ TB := tbk_4 (List.mem_of_getElem? (i := 125) rfl) rfl
theorem wd_4_126 : (Jvm.Cond.methodLink "PolicyTree$FilterReader" (118 : Nat) ({ cls := "java/lang/String", name := "length", desc := "()I" } : Jvm.MethodName)) ∈ TB := tbk_4 (List.mem_of_getElem? (i := 126) rfl) rfl
theorem wd_4_127 : (Jvm.Cond.instanceMethod ({ cls := "java/lang/String", name := "length", desc := "()I" } : Jvm.MethodName)) ∈ TB := tbk_4 (List.mem_of_getElem? (i := 127) rfl) rfl
theorem wd_4_128 : (Jvm.Cond.selects "java/lang/String" ({ cls := "java/lang/String", name := "length", desc := "()I" } : Jvm.MethodName) ({ cls := "java/lang/String", name := "length", desc := "()I" } : Jvm.MethodName)) ∈ TB := tbk_4 (List.mem_of_getElem? (i := 128) rfl) rfl
theorem wd_4_129 : (Jvm.Cond.code ({ cls := "java/lang/String", name := "length", desc := "()I" } : Jvm.MethodName) prog_26_method_54_code (1 : Nat) (Option.some Jvm.ClassFile.FieldType.int)) ∈ TB := tbk_4 (List.mem_of_getElem? (i := 129) rfl) rfl
theorem wd_4_130 : (Jvm.Cond.methodLink "java/lang/String" (335 : Nat) ({ cls := "java/lang/String", name := "coder", desc := "()B" } : Jvm.MethodName)) ∈ TB := tbk_4 (List.mem_of_getElem? (i := 130) rfl) rfl
theorem wd_4_131 : (Jvm.Cond.instanceMethod ({ cls := "java/lang/String", name := "coder", desc := "()B" } : Jvm.MethodName)) ∈ TB := tbk_4 (List.mem_of_getElem? (i := 131) rfl) rfl
theorem wd_4_132 : (Jvm.Cond.selects "java/lang/String" ({ cls := "java/lang/String", name := "coder", desc := "()B" } : Jvm.MethodName) ({ cls := "java/lang/String", name := "coder", desc := "()B" } : Jvm.MethodName)) ∈ TB := tbk_4 (List.mem_of_getElem? (i := 132) rfl) rfl
theorem wd_4_133 : (Jvm.Cond.code ({ cls := "java/lang/String", name := "coder", desc := "()B" } : Jvm.MethodName) prog_26_method_152_code (1 : Nat) (Option.some Jvm.ClassFile.FieldType.byte)) ∈ TB := tbk_4 (List.mem_of_getElem? (i := 133) rfl) rfl
theorem wd_4_134 : (Jvm.Cond.fieldLink "java/lang/String" (38 : Nat) "java/lang/String" "COMPACT_STRINGS" "Z") ∈ TB := tbk_4 (List.mem_of_getElem? (i := 134) rfl) rfl
theorem wd_4_136 : (Jvm.Cond.methodLink "PolicyTree$FilterReader" (123 : Nat) ({ cls := "java/lang/String", name := "charAt", desc := "(I)C" } : Jvm.MethodName)) ∈ TB := tbk_4 (List.mem_of_getElem? (i := 136) rfl) rfl
theorem wd_4_137 : (Jvm.Cond.instanceMethod ({ cls := "java/lang/String", name := "charAt", desc := "(I)C" } : Jvm.MethodName)) ∈ TB := tbk_4 (List.mem_of_getElem? (i := 137) rfl) rfl
theorem wd_4_138 : (Jvm.Cond.selects "java/lang/String" ({ cls := "java/lang/String", name := "charAt", desc := "(I)C" } : Jvm.MethodName) ({ cls := "java/lang/String", name := "charAt", desc := "(I)C" } : Jvm.MethodName)) ∈ TB := tbk_4 (List.mem_of_getElem? (i := 138) rfl) rfl
theorem wd_4_139 : (Jvm.Cond.code ({ cls := "java/lang/String", name := "charAt", desc := "(I)C" } : Jvm.MethodName) prog_26_method_56_code (2 : Nat) (Option.some Jvm.ClassFile.FieldType.char)) ∈ TB := tbk_4 (List.mem_of_getElem? (i := 139) rfl) rfl
theorem wd_4_140 : (Jvm.Cond.methodLink "java/lang/String" (492 : Nat) ({ cls := "java/lang/String", name := "isLatin1", desc := "()Z" } : Jvm.MethodName)) ∈ TB := tbk_4 (List.mem_of_getElem? (i := 140) rfl) rfl
theorem wd_4_141 : (Jvm.Cond.instanceMethod ({ cls := "java/lang/String", name := "isLatin1", desc := "()Z" } : Jvm.MethodName)) ∈ TB := tbk_4 (List.mem_of_getElem? (i := 141) rfl) rfl
theorem wd_4_142 : (Jvm.Cond.selects "java/lang/String" ({ cls := "java/lang/String", name := "isLatin1", desc := "()Z" } : Jvm.MethodName) ({ cls := "java/lang/String", name := "isLatin1", desc := "()Z" } : Jvm.MethodName)) ∈ TB := tbk_4 (List.mem_of_getElem? (i := 142) rfl) rfl
theorem wd_4_143 : (Jvm.Cond.code ({ cls := "java/lang/String", name := "isLatin1", desc := "()Z" } : Jvm.MethodName) prog_26_method_154_code (1 : Nat) (Option.some Jvm.ClassFile.FieldType.boolean)) ∈ TB := tbk_4 (List.mem_of_getElem? (i := 143) rfl) rfl
theorem wd_4_144 : (Jvm.Cond.methodLink "java/lang/String" (495 : Nat) ({ cls := "java/lang/StringLatin1", name := "charAt", desc := "([BI)C" } : Jvm.MethodName)) ∈ TB := tbk_4 (List.mem_of_getElem? (i := 144) rfl) rfl
theorem wd_4_145 : (Jvm.Cond.static ({ cls := "java/lang/StringLatin1", name := "charAt", desc := "([BI)C" } : Jvm.MethodName)) ∈ TB := tbk_4 (List.mem_of_getElem? (i := 145) rfl) rfl
theorem wd_4_146 : (Jvm.Cond.code ({ cls := "java/lang/StringLatin1", name := "charAt", desc := "([BI)C" } : Jvm.MethodName) prog_28_method_2_code (2 : Nat) (Option.some Jvm.ClassFile.FieldType.char)) ∈ TB := tbk_4 (List.mem_of_getElem? (i := 146) rfl) rfl
theorem wd_4_147 : (Jvm.Cond.methodLink "java/lang/StringLatin1" (9 : Nat) ({ cls := "java/lang/String", name := "checkIndex", desc := "(II)V" } : Jvm.MethodName)) ∈ TB := tbk_4 (List.mem_of_getElem? (i := 147) rfl) rfl
theorem wd_4_148 : (Jvm.Cond.static ({ cls := "java/lang/String", name := "checkIndex", desc := "(II)V" } : Jvm.MethodName)) ∈ TB := tbk_4 (List.mem_of_getElem? (i := 148) rfl) rfl
theorem wd_4_149 : (Jvm.Cond.code ({ cls := "java/lang/String", name := "checkIndex", desc := "(II)V" } : Jvm.MethodName) prog_26_method_155_code (2 : Nat) (Option.none : Option Jvm.ClassFile.FieldType)) ∈ TB := tbk_4 (List.mem_of_getElem? (i := 149) rfl) rfl
theorem wd_4_150 : (Jvm.Cond.fieldLink "java/lang/String" (1053 : Nat) "jdk/internal/util/Preconditions" "SIOOBE_FORMATTER" "Ljava/util/function/BiFunction;") ∈ TB := tbk_4 (List.mem_of_getElem? (i := 150) rfl) rfl
theorem wd_4_152 : (Jvm.Cond.methodLink "java/lang/String" (1059 : Nat) ({ cls := "jdk/internal/util/Preconditions", name := "checkIndex", desc := "(IILjava/util/function/BiFunction;)I" } : Jvm.MethodName)) ∈ TB := tbk_4 (List.mem_of_getElem? (i := 152) rfl) rfl
theorem wd_4_153 : (Jvm.Cond.methodLink "java/lang/String" (498 : Nat) ({ cls := "java/lang/StringUTF16", name := "charAt", desc := "([BI)C" } : Jvm.MethodName)) ∈ TB := tbk_4 (List.mem_of_getElem? (i := 153) rfl) rfl
theorem wd_4_154 : (Jvm.Cond.static ({ cls := "java/lang/StringUTF16", name := "charAt", desc := "([BI)C" } : Jvm.MethodName)) ∈ TB := tbk_4 (List.mem_of_getElem? (i := 154) rfl) rfl
theorem wd_4_155 : (Jvm.Cond.code ({ cls := "java/lang/StringUTF16", name := "charAt", desc := "([BI)C" } : Jvm.MethodName) prog_29_method_83_code (2 : Nat) (Option.some Jvm.ClassFile.FieldType.char)) ∈ TB := tbk_4 (List.mem_of_getElem? (i := 155) rfl) rfl
theorem wd_4_156 : (Jvm.Cond.methodLink "java/lang/StringUTF16" (67 : Nat) ({ cls := "java/lang/StringUTF16", name := "checkIndex", desc := "(I[B)V" } : Jvm.MethodName)) ∈ TB := tbk_4 (List.mem_of_getElem? (i := 156) rfl) rfl
theorem wd_4_157 : (Jvm.Cond.static ({ cls := "java/lang/StringUTF16", name := "checkIndex", desc := "(I[B)V" } : Jvm.MethodName)) ∈ TB := tbk_4 (List.mem_of_getElem? (i := 157) rfl) rfl
theorem wd_4_158 : (Jvm.Cond.code ({ cls := "java/lang/StringUTF16", name := "checkIndex", desc := "(I[B)V" } : Jvm.MethodName) prog_29_method_91_code (2 : Nat) (Option.none : Option Jvm.ClassFile.FieldType)) ∈ TB := tbk_4 (List.mem_of_getElem? (i := 158) rfl) rfl
theorem wd_4_159 : (Jvm.Cond.methodLink "java/lang/StringUTF16" (48 : Nat) ({ cls := "java/lang/StringUTF16", name := "length", desc := "([B)I" } : Jvm.MethodName)) ∈ TB := tbk_4 (List.mem_of_getElem? (i := 159) rfl) rfl
theorem wd_4_160 : (Jvm.Cond.static ({ cls := "java/lang/StringUTF16", name := "length", desc := "([B)I" } : Jvm.MethodName)) ∈ TB := tbk_4 (List.mem_of_getElem? (i := 160) rfl) rfl
theorem wd_4_161 : (Jvm.Cond.code ({ cls := "java/lang/StringUTF16", name := "length", desc := "([B)I" } : Jvm.MethodName) prog_29_method_6_code (1 : Nat) (Option.some Jvm.ClassFile.FieldType.int)) ∈ TB := tbk_4 (List.mem_of_getElem? (i := 161) rfl) rfl
theorem wd_4_162 : (Jvm.Cond.methodLink "java/lang/StringUTF16" (414 : Nat) ({ cls := "java/lang/String", name := "checkIndex", desc := "(II)V" } : Jvm.MethodName)) ∈ TB := tbk_4 (List.mem_of_getElem? (i := 162) rfl) rfl
theorem wd_4_163 : (Jvm.Cond.methodLink "java/lang/StringUTF16" (71 : Nat) ({ cls := "java/lang/StringUTF16", name := "getChar", desc := "([BI)C" } : Jvm.MethodName)) ∈ TB := tbk_4 (List.mem_of_getElem? (i := 163) rfl) rfl
theorem wd_4_164 : (Jvm.Cond.static ({ cls := "java/lang/StringUTF16", name := "getChar", desc := "([BI)C" } : Jvm.MethodName)) ∈ TB := tbk_4 (List.mem_of_getElem? (i := 164) rfl) rfl
theorem wd_4_165 : (Jvm.Cond.code ({ cls := "java/lang/StringUTF16", name := "getChar", desc := "([BI)C" } : Jvm.MethodName) prog_29_method_5_code (2 : Nat) (Option.some Jvm.ClassFile.FieldType.char)) ∈ TB := tbk_4 (List.mem_of_getElem? (i := 165) rfl) rfl
theorem wd_4_166 : (Jvm.Cond.fieldLink "java/lang/StringUTF16" (44 : Nat) "java/lang/StringUTF16" "$assertionsDisabled" "Z") ∈ TB := tbk_4 (List.mem_of_getElem? (i := 166) rfl) rfl
theorem wd_4_168 : (Jvm.Cond.fieldLink "java/lang/StringUTF16" (59 : Nat) "java/lang/StringUTF16" "HI_BYTE_SHIFT" "I") ∈ TB := tbk_4 (List.mem_of_getElem? (i := 168) rfl) rfl
theorem wd_4_170 : (Jvm.Cond.fieldLink "java/lang/StringUTF16" (63 : Nat) "java/lang/StringUTF16" "LO_BYTE_SHIFT" "I") ∈ TB := tbk_4 (List.mem_of_getElem? (i := 170) rfl) rfl
theorem wd_4_172 : (Jvm.Cond.methodLink "PolicyTree$FilterReader" (80 : Nat) ({ cls := "PolicyTree$FilterReader", name := "addStep", desc := "(II)V" } : Jvm.MethodName)) ∈ TB := tbk_4 (List.mem_of_getElem? (i := 172) rfl) rfl
theorem wd_4_174 : (Jvm.Cond.instanceMethod ({ cls := "PolicyTree$FilterReader", name := "addStep", desc := "(II)V" } : Jvm.MethodName)) ∈ TB := tbk_4 (List.mem_of_getElem? (i := 174) rfl) rfl
theorem wd_4_175 : (Jvm.Cond.code ({ cls := "PolicyTree$FilterReader", name := "addStep", desc := "(II)V" } : Jvm.MethodName) prog_4_method_14_code (3 : Nat) (Option.none : Option Jvm.ClassFile.FieldType)) ∈ TB := tbk_4 (List.mem_of_getElem? (i := 175) rfl) rfl
theorem wd_4_177 : (Jvm.Cond.methodLink "PolicyTree$FilterReader" (100 : Nat) ({ cls := "PolicyTree$FilterReader", name := "readNumber", desc := "(II)V" } : Jvm.MethodName)) ∈ TB := tbk_4 (List.mem_of_getElem? (i := 177) rfl) rfl
theorem wd_4_179 : (Jvm.Cond.instanceMethod ({ cls := "PolicyTree$FilterReader", name := "readNumber", desc := "(II)V" } : Jvm.MethodName)) ∈ TB := tbk_4 (List.mem_of_getElem? (i := 179) rfl) rfl
theorem wd_4_180 : (Jvm.Cond.code ({ cls := "PolicyTree$FilterReader", name := "readNumber", desc := "(II)V" } : Jvm.MethodName) prog_4_method_9_code (5 : Nat) (Option.none : Option Jvm.ClassFile.FieldType)) ∈ TB := tbk_4 (List.mem_of_getElem? (i := 180) rfl) rfl
theorem wd_4_181 : (Jvm.Cond.methodLink "PolicyTree$FilterReader" (115 : Nat) ({ cls := "java/lang/Math", name := "min", desc := "(II)I" } : Jvm.MethodName)) ∈ TB := tbk_4 (List.mem_of_getElem? (i := 181) rfl) rfl
theorem wd_4_186 : (Jvm.Cond.methodLink "PolicyTree" (180 : Nat) ({ cls := "PolicyTree$Tape", name := "clear", desc := "()V" } : Jvm.MethodName)) ∈ TB := tbk_4 (List.mem_of_getElem? (i := 186) rfl) rfl
theorem wd_4_187 : (Jvm.Cond.instanceMethod ({ cls := "PolicyTree$Tape", name := "clear", desc := "()V" } : Jvm.MethodName)) ∈ TB := tbk_4 (List.mem_of_getElem? (i := 187) rfl) rfl
theorem wd_4_188 : (Jvm.Cond.selects "PolicyTree$Tape" ({ cls := "PolicyTree$Tape", name := "clear", desc := "()V" } : Jvm.MethodName) ({ cls := "PolicyTree$Tape", name := "clear", desc := "()V" } : Jvm.MethodName)) ∈ TB := tbk_4 (List.mem_of_getElem? (i := 188) rfl) rfl
theorem wd_4_189 : (Jvm.Cond.code ({ cls := "PolicyTree$Tape", name := "clear", desc := "()V" } : Jvm.MethodName) prog_12_method_6_code (1 : Nat) (Option.none : Option Jvm.ClassFile.FieldType)) ∈ TB := tbk_4 (List.mem_of_getElem? (i := 189) rfl) rfl
theorem wd_4_190 : (Jvm.Cond.methodLink "PolicyTree" (183 : Nat) ({ cls := "PolicyTree$FilterReader", name := "faultPlace", desc := "()I" } : Jvm.MethodName)) ∈ TB := tbk_4 (List.mem_of_getElem? (i := 190) rfl) rfl
theorem wd_4_191 : (Jvm.Cond.instanceMethod ({ cls := "PolicyTree$FilterReader", name := "faultPlace", desc := "()I" } : Jvm.MethodName)) ∈ TB := tbk_4 (List.mem_of_getElem? (i := 191) rfl) rfl
theorem wd_4_192 : (Jvm.Cond.selects "PolicyTree$FilterReader" ({ cls := "PolicyTree$FilterReader", name := "faultPlace", desc := "()I" } : Jvm.MethodName) ({ cls := "PolicyTree$FilterReader", name := "faultPlace", desc := "()I" } : Jvm.MethodName)) ∈ TB := tbk_4 (List.mem_of_getElem? (i := 192) rfl) rfl
theorem wd_4_193 : (Jvm.Cond.code ({ cls := "PolicyTree$FilterReader", name := "faultPlace", desc := "()I" } : Jvm.MethodName) prog_4_method_3_code (1 : Nat) (Option.some Jvm.ClassFile.FieldType.int)) ∈ TB := tbk_4 (List.mem_of_getElem? (i := 193) rfl) rfl
theorem wd_4_194 : (Jvm.Cond.instantiable "PolicyTree$Link" (7 : Nat)) ∈ TB := tbk_4 (List.mem_of_getElem? (i := 194) rfl) rfl
theorem wd_4_195 : (Jvm.Cond.methodLink "PolicyTree" (187 : Nat) ({ cls := "PolicyTree$FilterReader", name := "filter", desc := "()LPolicyTree$Filter;" } : Jvm.MethodName)) ∈ TB := tbk_4 (List.mem_of_getElem? (i := 195) rfl) rfl
theorem wd_4_196 : (Jvm.Cond.instanceMethod ({ cls := "PolicyTree$FilterReader", name := "filter", desc := "()LPolicyTree$Filter;" } : Jvm.MethodName)) ∈ TB := tbk_4 (List.mem_of_getElem? (i := 196) rfl) rfl
theorem wd_4_197 : (Jvm.Cond.selects "PolicyTree$FilterReader" ({ cls := "PolicyTree$FilterReader", name := "filter", desc := "()LPolicyTree$Filter;" } : Jvm.MethodName) ({ cls := "PolicyTree$FilterReader", name := "filter", desc := "()LPolicyTree$Filter;" } : Jvm.MethodName)) ∈ TB := tbk_4 (List.mem_of_getElem? (i := 197) rfl) rfl
theorem wd_4_198 : (Jvm.Cond.code ({ cls := "PolicyTree$FilterReader", name := "filter", desc := "()LPolicyTree$Filter;" } : Jvm.MethodName) prog_4_method_4_code (1 : Nat) (Option.some (Jvm.ClassFile.FieldType.object "PolicyTree$Filter"))) ∈ TB := tbk_4 (List.mem_of_getElem? (i := 198) rfl) rfl
theorem wd_4_199 : (Jvm.Cond.classLink "PolicyTree$FilterReader" (54 : Nat) "PolicyTree$Filter") ∈ TB := tbk_4 (List.mem_of_getElem? (i := 199) rfl) rfl
theorem wd_4_200 : (Jvm.Cond.instantiable "PolicyTree$Filter" (1 : Nat)) ∈ TB := tbk_4 (List.mem_of_getElem? (i := 200) rfl) rfl
theorem wd_4_201 : (Jvm.Cond.methodLink "PolicyTree$FilterReader" (56 : Nat) ({ cls := "java/lang/Math", name := "max", desc := "(II)I" } : Jvm.MethodName)) ∈ TB := tbk_4 (List.mem_of_getElem? (i := 201) rfl) rfl
theorem wd_4_202 : (Jvm.Cond.methodLink "PolicyTree$FilterReader" (62 : Nat) ({ cls := "java/util/Arrays", name := "copyOf", desc := "([II)[I" } : Jvm.MethodName)) ∈ TB := tbk_4 (List.mem_of_getElem? (i := 202) rfl) rfl
theorem wd_4_203 : (Jvm.Cond.static ({ cls := "java/util/Arrays", name := "copyOf", desc := "([II)[I" } : Jvm.MethodName)) ∈ TB := tbk_4 (List.mem_of_getElem? (i := 203) rfl) rfl
theorem wd_4_204 : (Jvm.Cond.code ({ cls := "java/util/Arrays", name := "copyOf", desc := "([II)[I" } : Jvm.MethodName) prog_35_method_123_code (3 : Nat) (Option.some (Jvm.ClassFile.FieldType.array Jvm.ClassFile.FieldType.int))) ∈ TB := tbk_4 (List.mem_of_getElem? (i := 204) rfl) rfl
theorem wd_4_205 : (Jvm.Cond.methodLink "java/util/Arrays" (316 : Nat) ({ cls := "[I", name := "clone", desc := "()Ljava/lang/Object;" } : Jvm.MethodName)) ∈ TB := tbk_4 (List.mem_of_getElem? (i := 205) rfl) rfl
theorem wd_4_206 : (Jvm.Cond.sameMethod "[I" "java/lang/Object" "clone" "()Ljava/lang/Object;") ∈ TB := tbk_4 (List.mem_of_getElem? (i := 206) rfl) rfl
theorem wd_4_207 : (Jvm.Cond.native ({ cls := "java/lang/Object", name := "clone", desc := "()Ljava/lang/Object;" } : Jvm.MethodName)) ∈ TB := tbk_4 (List.mem_of_getElem? (i := 207) rfl) rfl
theorem wd_4_208 : (Jvm.Cond.instanceMethod ({ cls := "java/lang/Object", name := "clone", desc := "()Ljava/lang/Object;" } : Jvm.MethodName)) ∈ TB := tbk_4 (List.mem_of_getElem? (i := 208) rfl) rfl
theorem wd_4_209 : (Jvm.Cond.selects "[I" ({ cls := "[I", name := "clone", desc := "()Ljava/lang/Object;" } : Jvm.MethodName) ({ cls := "java/lang/Object", name := "clone", desc := "()Ljava/lang/Object;" } : Jvm.MethodName)) ∈ TB := tbk_4 (List.mem_of_getElem? (i := 209) rfl) rfl
theorem wd_4_211 : (Jvm.Cond.classLink "java/util/Arrays" (317 : Nat) "[I") ∈ TB := tbk_4 (List.mem_of_getElem? (i := 211) rfl) rfl
theorem wd_4_212 : (Jvm.Cond.methodLink "PolicyTree$FilterReader" (68 : Nat) ({ cls := "PolicyTree$Filter", name := "<init>", desc := "([I)V" } : Jvm.MethodName)) ∈ TB := tbk_4 (List.mem_of_getElem? (i := 212) rfl) rfl
theorem wd_4_213 : (Jvm.Cond.instanceMethod ({ cls := "PolicyTree$Filter", name := "<init>", desc := "([I)V" } : Jvm.MethodName)) ∈ TB := tbk_4 (List.mem_of_getElem? (i := 213) rfl) rfl
theorem wd_4_214 : (Jvm.Cond.code ({ cls := "PolicyTree$Filter", name := "<init>", desc := "([I)V" } : Jvm.MethodName) prog_3_method_1_code (2 : Nat) (Option.none : Option Jvm.ClassFile.FieldType)) ∈ TB := tbk_4 (List.mem_of_getElem? (i := 214) rfl) rfl
theorem wd_4_215 : (Jvm.Cond.methodLink "PolicyTree$Filter" (1 : Nat) ({ cls := "java/lang/Object", name := "<init>", desc := "()V" } : Jvm.MethodName)) ∈ TB := tbk_4 (List.mem_of_getElem? (i := 215) rfl) rfl
theorem wd_4_216 : (Jvm.Cond.fieldLink "PolicyTree$Filter" (7 : Nat) "PolicyTree$Filter" "steps" "[I") ∈ TB := tbk_4 (List.mem_of_getElem? (i := 216) rfl) rfl
theorem wd_4_217 : (Jvm.Cond.laysFinal "PolicyTree$Filter" "PolicyTree$Filter" "steps" "[I") ∈ TB := tbk_4 (List.mem_of_getElem? (i := 217) rfl) rfl
theorem wd_4_220 : (Jvm.Cond.methodLink "PolicyTree" (191 : Nat) ({ cls := "PolicyTree$Link", name := "<init>", desc := "(ILPolicyTree$Node;LPolicyTree$Bundle;IZLPolicyTree$Filter;)V" } : Jvm.MethodName)) ∈ TB := tbk_4 (List.mem_of_getElem? (i := 220) rfl) rfl
theorem wd_4_221 : (Jvm.Cond.instanceMethod ({ cls := "PolicyTree$Link", name := "<init>", desc := "(ILPolicyTree$Node;LPolicyTree$Bundle;IZLPolicyTree$Filter;)V" } : Jvm.MethodName)) ∈ TB := tbk_4 (List.mem_of_getElem? (i := 221) rfl) rfl
theorem wd_4_222 : (Jvm.Cond.code ({ cls := "PolicyTree$Link", name := "<init>", desc := "(ILPolicyTree$Node;LPolicyTree$Bundle;IZLPolicyTree$Filter;)V" } : Jvm.MethodName) prog_6_method_1_code (7 : Nat) (Option.none : Option Jvm.ClassFile.FieldType)) ∈ TB := tbk_4 (List.mem_of_getElem? (i := 222) rfl) rfl
theorem wd_4_223 : (Jvm.Cond.methodLink "PolicyTree$Link" (1 : Nat) ({ cls := "java/lang/Object", name := "<init>", desc := "()V" } : Jvm.MethodName)) ∈ TB := tbk_4 (List.mem_of_getElem? (i := 223) rfl) rfl
theorem wd_4_224 : (Jvm.Cond.fieldLink "PolicyTree$Link" (7 : Nat) "PolicyTree$Link" "number" "I") ∈ TB := tbk_4 (List.mem_of_getElem? (i := 224) rfl) rfl
theorem wd_4_225 : (Jvm.Cond.fieldLink "PolicyTree" (198 : Nat) "PolicyTree$Link" "number" "I") ∈ TB := tbk_4 (List.mem_of_getElem? (i := 225) rfl) rfl
theorem wd_4_226 : (Jvm.Cond.fieldLink "PolicyTree$Link" (13 : Nat) "PolicyTree$Link" "node" "LPolicyTree$Node;") ∈ TB := tbk_4 (List.mem_of_getElem? (i := 226) rfl) rfl
theorem wd_4_227 : (Jvm.Cond.fieldLink "PolicyTree" (204 : Nat) "PolicyTree$Link" "node" "LPolicyTree$Node;") ∈ TB := tbk_4 (List.mem_of_getElem? (i := 227) rfl) rfl
theorem wd_4_228 : (Jvm.Cond.fieldLink "PolicyTree$Link" (17 : Nat) "PolicyTree$Link" "set" "LPolicyTree$Bundle;") ∈ TB := tbk_4 (List.mem_of_getElem? (i := 228) rfl) rfl
theorem wd_4_229 : (Jvm.Cond.fieldLink "PolicyTree$Outcome" (36 : Nat) "PolicyTree$Link" "set" "LPolicyTree$Bundle;") ∈ TB := tbk_4 (List.mem_of_getElem? (i := 229) rfl) rfl
theorem wd_4_230 : (Jvm.Cond.fieldLink "PolicyTree$Row" (107 : Nat) "PolicyTree$Link" "set" "LPolicyTree$Bundle;") ∈ TB := tbk_4 (List.mem_of_getElem? (i := 230) rfl) rfl
theorem wd_4_231 : (Jvm.Cond.fieldLink "PolicyTree" (278 : Nat) "PolicyTree$Link" "set" "LPolicyTree$Bundle;") ∈ TB := tbk_4 (List.mem_of_getElem? (i := 231) rfl) rfl
theorem wd_4_232 : (Jvm.Cond.fieldLink "PolicyTree$Link" (21 : Nat) "PolicyTree$Link" "order" "I") ∈ TB := tbk_4 (List.mem_of_getElem? (i := 232) rfl) rfl
theorem wd_4_233 : (Jvm.Cond.fieldLink "PolicyTree$Node" (34 : Nat) "PolicyTree$Link" "order" "I") ∈ TB := tbk_4 (List.mem_of_getElem? (i := 233) rfl) rfl
theorem wd_4_234 : (Jvm.Cond.fieldLink "PolicyTree$Link" (24 : Nat) "PolicyTree$Link" "forced" "Z") ∈ TB := tbk_4 (List.mem_of_getElem? (i := 234) rfl) rfl
theorem wd_4_235 : (Jvm.Cond.fieldLink "PolicyTree$Row" (104 : Nat) "PolicyTree$Link" "forced" "Z") ∈ TB := tbk_4 (List.mem_of_getElem? (i := 235) rfl) rfl
theorem wd_4_236 : (Jvm.Cond.fieldLink "PolicyTree$Link" (28 : Nat) "PolicyTree$Link" "filter" "LPolicyTree$Filter;") ∈ TB := tbk_4 (List.mem_of_getElem? (i := 236) rfl) rfl
theorem wd_4_237 : (Jvm.Cond.fieldLink "PolicyTree$Row" (79 : Nat) "PolicyTree$Link" "filter" "LPolicyTree$Filter;") ∈ TB := tbk_4 (List.mem_of_getElem? (i := 237) rfl) rfl
theorem wd_4_238 : (Jvm.Cond.fieldLink "PolicyTree$Link" (32 : Nat) "PolicyTree$Link" "ended" "Z") ∈ TB := tbk_4 (List.mem_of_getElem? (i := 238) rfl) rfl
theorem wd_4_239 : (Jvm.Cond.fieldLink "PolicyTree" (201 : Nat) "PolicyTree$Link" "ended" "Z") ∈ TB := tbk_4 (List.mem_of_getElem? (i := 239) rfl) rfl
theorem wd_5_0 : (Jvm.Cond.laysFinal "PolicyTree$Link" "PolicyTree$Link" "number" "I") ∈ TB := tbk_5 (List.mem_of_getElem? (i := 0) rfl) rfl
theorem wd_5_2 : (Jvm.Cond.laysFinal "PolicyTree$Link" "PolicyTree$Link" "node" "LPolicyTree$Node;") ∈ TB := tbk_5 (List.mem_of_getElem? (i := 2) rfl) rfl
theorem wd_5_4 : (Jvm.Cond.laysFinal "PolicyTree$Link" "PolicyTree$Link" "set" "LPolicyTree$Bundle;") ∈ TB := tbk_5 (List.mem_of_getElem? (i := 4) rfl) rfl
theorem wd_5_6 : (Jvm.Cond.laysFinal "PolicyTree$Link" "PolicyTree$Link" "order" "I") ∈ TB := tbk_5 (List.mem_of_getElem? (i := 6) rfl) rfl
theorem wd_5_8 : (Jvm.Cond.laysFinal "PolicyTree$Link" "PolicyTree$Link" "forced" "Z") ∈ TB := tbk_5 (List.mem_of_getElem? (i := 8) rfl) rfl
theorem wd_5_10 : (Jvm.Cond.laysFinal "PolicyTree$Link" "PolicyTree$Link" "filter" "LPolicyTree$Filter;") ∈ TB := tbk_5 (List.mem_of_getElem? (i := 10) rfl) rfl
theorem wd_5_12 : (Jvm.Cond.lays "PolicyTree$Link" "PolicyTree$Link" "ended" "Z") ∈ TB := tbk_5 (List.mem_of_getElem? (i := 12) rfl) rfl
theorem wd_5_15 : (Jvm.Cond.methodLink "PolicyTree" (194 : Nat) ({ cls := "PolicyTree$Node", name := "insert", desc := "(LPolicyTree$Link;)V" } : Jvm.MethodName)) ∈ TB := tbk_5 (List.mem_of_getElem? (i := 15) rfl) rfl
theorem wd_5_16 : (Jvm.Cond.instanceMethod ({ cls := "PolicyTree$Node", name := "insert", desc := "(LPolicyTree$Link;)V" } : Jvm.MethodName)) ∈ TB := tbk_5 (List.mem_of_getElem? (i := 16) rfl) rfl
theorem wd_5_17 : (Jvm.Cond.selects "PolicyTree$Node" ({ cls := "PolicyTree$Node", name := "insert", desc := "(LPolicyTree$Link;)V" } : Jvm.MethodName) ({ cls := "PolicyTree$Node", name := "insert", desc := "(LPolicyTree$Link;)V" } : Jvm.MethodName)) ∈ TB := tbk_5 (List.mem_of_getElem? (i := 17) rfl) rfl
theorem wd_5_18 : (Jvm.Cond.code ({ cls := "PolicyTree$Node", name := "insert", desc := "(LPolicyTree$Link;)V" } : Jvm.MethodName) prog_8_method_5_code (4 : Nat) (Option.none : Option Jvm.ClassFile.FieldType)) ∈ TB := tbk_5 (List.mem_of_getElem? (i := 18) rfl) rfl
theorem wd_5_19 : (Jvm.Cond.methodLink "PolicyTree$Node" (37 : Nat) ({ cls := "java/util/ArrayList", name := "add", desc := "(ILjava/lang/Object;)V" } : Jvm.MethodName)) ∈ TB := tbk_5 (List.mem_of_getElem? (i := 19) rfl) rfl
theorem wd_5_20 : (Jvm.Cond.instanceMethod ({ cls := "java/util/ArrayList", name := "add", desc := "(ILjava/lang/Object;)V" } : Jvm.MethodName)) ∈ TB := tbk_5 (List.mem_of_getElem? (i := 20) rfl) rfl
theorem wd_5_21 : (Jvm.Cond.selects "java/util/ArrayList" ({ cls := "java/util/ArrayList", name := "add", desc := "(ILjava/lang/Object;)V" } : Jvm.MethodName) ({ cls := "java/util/ArrayList", name := "add", desc := "(ILjava/lang/Object;)V" } : Jvm.MethodName)) ∈ TB := tbk_5 (List.mem_of_getElem? (i := 21) rfl) rfl
theorem wd_5_22 : (Jvm.Cond.code ({ cls := "java/util/ArrayList", name := "add", desc := "(ILjava/lang/Object;)V" } : Jvm.MethodName) prog_34_method_26_code (5 : Nat) (Option.none : Option Jvm.ClassFile.FieldType)) ∈ TB := tbk_5 (List.mem_of_getElem? (i := 22) rfl) rfl
theorem wd_5_23 : (Jvm.Cond.methodLink "java/util/ArrayList" (135 : Nat) ({ cls := "java/util/ArrayList", name := "rangeCheckForAdd", desc := "(I)V" } : Jvm.MethodName)) ∈ TB := tbk_5 (List.mem_of_getElem? (i := 23) rfl) rfl
theorem wd_5_25 : (Jvm.Cond.instanceMethod ({ cls := "java/util/ArrayList", name := "rangeCheckForAdd", desc := "(I)V" } : Jvm.MethodName)) ∈ TB := tbk_5 (List.mem_of_getElem? (i := 25) rfl) rfl
theorem wd_5_26 : (Jvm.Cond.code ({ cls := "java/util/ArrayList", name := "rangeCheckForAdd", desc := "(I)V" } : Jvm.MethodName) prog_34_method_45_code (2 : Nat) (Option.none : Option Jvm.ClassFile.FieldType)) ∈ TB := tbk_5 (List.mem_of_getElem? (i := 26) rfl) rfl
theorem wd_5_27 : (Jvm.Cond.classLink "java/util/ArrayList" (187 : Nat) "java/lang/IndexOutOfBoundsException") ∈ TB := tbk_5 (List.mem_of_getElem? (i := 27) rfl) rfl
theorem wd_5_28 : (Jvm.Cond.methodLink "java/util/ArrayList" (198 : Nat) ({ cls := "java/util/ArrayList", name := "outOfBoundsMsg", desc := "(I)Ljava/lang/String;" } : Jvm.MethodName)) ∈ TB := tbk_5 (List.mem_of_getElem? (i := 28) rfl) rfl
theorem wd_5_30 : (Jvm.Cond.instanceMethod ({ cls := "java/util/ArrayList", name := "outOfBoundsMsg", desc := "(I)Ljava/lang/String;" } : Jvm.MethodName)) ∈ TB := tbk_5 (List.mem_of_getElem? (i := 30) rfl) rfl
theorem wd_5_31 : (Jvm.Cond.code ({ cls := "java/util/ArrayList", name := "outOfBoundsMsg", desc := "(I)Ljava/lang/String;" } : Jvm.MethodName) prog_34_method_46_code (2 : Nat) (Option.some (Jvm.ClassFile.FieldType.object "java/lang/String"))) ∈ TB := tbk_5 (List.mem_of_getElem? (i := 31) rfl) rfl
theorem wd_5_32 : (Jvm.Cond.classLink "java/util/ArrayList" (20 : Nat) "java/lang/StringBuilder") ∈ TB := tbk_5 (List.mem_of_getElem? (i := 32) rfl) rfl
theorem wd_5_33 : (Jvm.Cond.instantiable "java/lang/StringBuilder" (4 : Nat)) ∈ TB := tbk_5 (List.mem_of_getElem? (i := 33) rfl) rfl
theorem wd_5_34 : (Jvm.Cond.methodLink "java/util/ArrayList" (22 : Nat) ({ cls := "java/lang/StringBuilder", name := "<init>", desc := "()V" } : Jvm.MethodName)) ∈ TB := tbk_5 (List.mem_of_getElem? (i := 34) rfl) rfl
theorem wd_5_35 : (Jvm.Cond.instanceMethod ({ cls := "java/lang/StringBuilder", name := "<init>", desc := "()V" } : Jvm.MethodName)) ∈ TB := tbk_5 (List.mem_of_getElem? (i := 35) rfl) rfl
theorem wd_5_36 : (Jvm.Cond.code ({ cls := "java/lang/StringBuilder", name := "<init>", desc := "()V" } : Jvm.MethodName) prog_27_method_1_code (1 : Nat) (Option.none : Option Jvm.ClassFile.FieldType)) ∈ TB := tbk_5 (List.mem_of_getElem? (i := 36) rfl) rfl
theorem wd_5_37 : (Jvm.Cond.methodLink "java/lang/StringBuilder" (1 : Nat) ({ cls := "java/lang/AbstractStringBuilder", name := "<init>", desc := "(I)V" } : Jvm.MethodName)) ∈ TB := tbk_5 (List.mem_of_getElem? (i := 37) rfl) rfl
theorem wd_5_38 : (Jvm.Cond.instanceMethod ({ cls := "java/lang/AbstractStringBuilder", name := "<init>", desc := "(I)V" } : Jvm.MethodName)) ∈ TB := tbk_5 (List.mem_of_getElem? (i := 38) rfl) rfl
theorem wd_5_39 : (Jvm.Cond.code ({ cls := "java/lang/AbstractStringBuilder", name := "<init>", desc := "(I)V" } : Jvm.MethodName) prog_16_method_2_code (2 : Nat) (Option.none : Option Jvm.ClassFile.FieldType)) ∈ TB := tbk_5 (List.mem_of_getElem? (i := 39) rfl) rfl
theorem wd_5_40 : (Jvm.Cond.methodLink "java/lang/AbstractStringBuilder" (3 : Nat) ({ cls := "java/lang/Object", name := "<init>", desc := "()V" } : Jvm.MethodName)) ∈ TB := tbk_5 (List.mem_of_getElem? (i := 40) rfl) rfl
theorem wd_5_41 : (Jvm.Cond.fieldLink "java/lang/AbstractStringBuilder" (18 : Nat) "java/lang/String" "COMPACT_STRINGS" "Z") ∈ TB := tbk_5 (List.mem_of_getElem? (i := 41) rfl) rfl
theorem wd_5_42 : (Jvm.Cond.methodLink "java/lang/AbstractStringBuilder" (26 : Nat) ({ cls := "java/lang/StringUTF16", name := "newBytesFor", desc := "(I)[B" } : Jvm.MethodName)) ∈ TB := tbk_5 (List.mem_of_getElem? (i := 42) rfl) rfl
theorem wd_5_43 : (Jvm.Cond.static ({ cls := "java/lang/StringUTF16", name := "newBytesFor", desc := "(I)[B" } : Jvm.MethodName)) ∈ TB := tbk_5 (List.mem_of_getElem? (i := 43) rfl) rfl
theorem wd_5_44 : (Jvm.Cond.code ({ cls := "java/lang/StringUTF16", name := "newBytesFor", desc := "(I)[B" } : Jvm.MethodName) prog_29_method_2_code (1 : Nat) (Option.some (Jvm.ClassFile.FieldType.array Jvm.ClassFile.FieldType.byte))) ∈ TB := tbk_5 (List.mem_of_getElem? (i := 44) rfl) rfl
theorem wd_5_45 : (Jvm.Cond.methodLink "java/lang/StringUTF16" (11 : Nat) ({ cls := "java/lang/StringUTF16", name := "newBytesLength", desc := "(I)I" } : Jvm.MethodName)) ∈ TB := tbk_5 (List.mem_of_getElem? (i := 45) rfl) rfl
theorem wd_5_46 : (Jvm.Cond.static ({ cls := "java/lang/StringUTF16", name := "newBytesLength", desc := "(I)I" } : Jvm.MethodName)) ∈ TB := tbk_5 (List.mem_of_getElem? (i := 46) rfl) rfl
theorem wd_5_47 : (Jvm.Cond.code ({ cls := "java/lang/StringUTF16", name := "newBytesLength", desc := "(I)I" } : Jvm.MethodName) prog_29_method_3_code (1 : Nat) (Option.some Jvm.ClassFile.FieldType.int)) ∈ TB := tbk_5 (List.mem_of_getElem? (i := 47) rfl) rfl
theorem wd_5_48 : (Jvm.Cond.constant "java/lang/StringUTF16" (20 : Nat) (1073741823 : Int32)) ∈ TB := tbk_5 (List.mem_of_getElem? (i := 48) rfl) rfl
theorem wd_5_49 : (Jvm.Cond.fieldLink "java/lang/AbstractStringBuilder" (15 : Nat) "java/lang/AbstractStringBuilder" "value" "[B") ∈ TB := tbk_5 (List.mem_of_getElem? (i := 49) rfl) rfl
theorem wd_5_50 : (Jvm.Cond.fieldLink "java/lang/AbstractStringBuilder" (22 : Nat) "java/lang/AbstractStringBuilder" "coder" "B") ∈ TB := tbk_5 (List.mem_of_getElem? (i := 50) rfl) rfl
theorem wd_5_51 : (Jvm.Cond.fieldLink "java/lang/String" (1048 : Nat) "java/lang/AbstractStringBuilder" "maybeLatin1" "Z") ∈ TB := tbk_5 (List.mem_of_getElem? (i := 51) rfl) rfl
theorem wd_5_52 : (Jvm.Cond.fieldLink "java/lang/AbstractStringBuilder" (79 : Nat) "java/lang/AbstractStringBuilder" "count" "I") ∈ TB := tbk_5 (List.mem_of_getElem? (i := 52) rfl) rfl
theorem wd_5_53 : (Jvm.Cond.lays "java/lang/StringBuilder" "java/lang/AbstractStringBuilder" "value" "[B") ∈ TB := tbk_5 (List.mem_of_getElem? (i := 53) rfl) rfl
theorem wd_5_55 : (Jvm.Cond.lays "java/lang/StringBuilder" "java/lang/AbstractStringBuilder" "coder" "B") ∈ TB := tbk_5 (List.mem_of_getElem? (i := 55) rfl) rfl
theorem wd_5_57 : (Jvm.Cond.lays "java/lang/StringBuilder" "java/lang/AbstractStringBuilder" "maybeLatin1" "Z") ∈ TB := tbk_5 (List.mem_of_getElem? (i := 57) rfl) rfl
theorem wd_5_59 : (Jvm.Cond.lays "java/lang/StringBuilder" "java/lang/AbstractStringBuilder" "count" "I") ∈ TB := tbk_5 (List.mem_of_getElem? (i := 59) rfl) rfl
theorem wd_5_63 : (Jvm.Cond.methodLink "java/util/ArrayList" (25 : Nat) ({ cls := "java/lang/StringBuilder", name := "append", desc := "(Ljava/lang/String;)Ljava/lang/StringBuilder;" } : Jvm.MethodName)) ∈ TB := tbk_5 (List.mem_of_getElem? (i := 63) rfl) rfl
theorem wd_5_64 : (Jvm.Cond.instanceMethod ({ cls := "java/lang/StringBuilder", name := "append", desc := "(Ljava/lang/String;)Ljava/lang/StringBuilder;" } : Jvm.MethodName)) ∈ TB := tbk_5 (List.mem_of_getElem? (i := 64) rfl) rfl
theorem wd_5_65 : (Jvm.Cond.selects "java/lang/StringBuilder" ({ cls := "java/lang/StringBuilder", name := "append", desc := "(Ljava/lang/String;)Ljava/lang/StringBuilder;" } : Jvm.MethodName) ({ cls := "java/lang/StringBuilder", name := "append", desc := "(Ljava/lang/String;)Ljava/lang/StringBuilder;" } : Jvm.MethodName)) ∈ TB := tbk_5 (List.mem_of_getElem? (i := 65) rfl) rfl
theorem wd_5_66 : (Jvm.Cond.code ({ cls := "java/lang/StringBuilder", name := "append", desc := "(Ljava/lang/String;)Ljava/lang/StringBuilder;" } : Jvm.MethodName) prog_27_method_7_code (2 : Nat) (Option.some (Jvm.ClassFile.FieldType.object "java/lang/StringBuilder"))) ∈ TB := tbk_5 (List.mem_of_getElem? (i := 66) rfl) rfl
theorem wd_5_67 : (Jvm.Cond.methodLink "java/lang/StringBuilder" (29 : Nat) ({ cls := "java/lang/AbstractStringBuilder", name := "append", desc := "(Ljava/lang/String;)Ljava/lang/AbstractStringBuilder;" } : Jvm.MethodName)) ∈ TB := tbk_5 (List.mem_of_getElem? (i := 67) rfl) rfl
theorem wd_5_68 : (Jvm.Cond.instanceMethod ({ cls := "java/lang/AbstractStringBuilder", name := "append", desc := "(Ljava/lang/String;)Ljava/lang/AbstractStringBuilder;" } : Jvm.MethodName)) ∈ TB := tbk_5 (List.mem_of_getElem? (i := 68) rfl) rfl
theorem wd_5_69 : (Jvm.Cond.code ({ cls := "java/lang/AbstractStringBuilder", name := "append", desc := "(Ljava/lang/String;)Ljava/lang/AbstractStringBuilder;" } : Jvm.MethodName) prog_16_method_22_code (3 : Nat) (Option.some (Jvm.ClassFile.FieldType.object "java/lang/AbstractStringBuilder"))) ∈ TB := tbk_5 (List.mem_of_getElem? (i := 69) rfl) rfl
theorem wd_5_70 : (Jvm.Cond.methodLink "java/lang/AbstractStringBuilder" (204 : Nat) ({ cls := "java/lang/AbstractStringBuilder", name := "appendNull", desc := "()Ljava/lang/AbstractStringBuilder;" } : Jvm.MethodName)) ∈ TB := tbk_5 (List.mem_of_getElem? (i := 70) rfl) rfl
theorem wd_5_72 : (Jvm.Cond.instanceMethod ({ cls := "java/lang/AbstractStringBuilder", name := "appendNull", desc := "()Ljava/lang/AbstractStringBuilder;" } : Jvm.MethodName)) ∈ TB := tbk_5 (List.mem_of_getElem? (i := 72) rfl) rfl
theorem wd_5_73 : (Jvm.Cond.code ({ cls := "java/lang/AbstractStringBuilder", name := "appendNull", desc := "()Ljava/lang/AbstractStringBuilder;" } : Jvm.MethodName) prog_16_method_26_code (3 : Nat) (Option.some (Jvm.ClassFile.FieldType.object "java/lang/AbstractStringBuilder"))) ∈ TB := tbk_5 (List.mem_of_getElem? (i := 73) rfl) rfl
theorem wd_5_74 : (Jvm.Cond.methodLink "java/lang/AbstractStringBuilder" (100 : Nat) ({ cls := "java/lang/AbstractStringBuilder", name := "ensureCapacityInternal", desc := "(I)V" } : Jvm.MethodName)) ∈ TB := tbk_5 (List.mem_of_getElem? (i := 74) rfl) rfl
theorem wd_5_76 : (Jvm.Cond.instanceMethod ({ cls := "java/lang/AbstractStringBuilder", name := "ensureCapacityInternal", desc := "(I)V" } : Jvm.MethodName)) ∈ TB := tbk_5 (List.mem_of_getElem? (i := 76) rfl) rfl
theorem wd_5_77 : (Jvm.Cond.code ({ cls := "java/lang/AbstractStringBuilder", name := "ensureCapacityInternal", desc := "(I)V" } : Jvm.MethodName) prog_16_method_9_code (3 : Nat) (Option.none : Option Jvm.ClassFile.FieldType)) ∈ TB := tbk_5 (List.mem_of_getElem? (i := 77) rfl) rfl
theorem wd_5_78 : (Jvm.Cond.methodLink "java/lang/AbstractStringBuilder" (104 : Nat) ({ cls := "java/lang/AbstractStringBuilder", name := "newCapacity", desc := "(I)I" } : Jvm.MethodName)) ∈ TB := tbk_5 (List.mem_of_getElem? (i := 78) rfl) rfl
theorem wd_5_80 : (Jvm.Cond.instanceMethod ({ cls := "java/lang/AbstractStringBuilder", name := "newCapacity", desc := "(I)I" } : Jvm.MethodName)) ∈ TB := tbk_5 (List.mem_of_getElem? (i := 80) rfl) rfl
theorem wd_5_81 : (Jvm.Cond.code ({ cls := "java/lang/AbstractStringBuilder", name := "newCapacity", desc := "(I)I" } : Jvm.MethodName) prog_16_method_10_code (6 : Nat) (Option.some Jvm.ClassFile.FieldType.int)) ∈ TB := tbk_5 (List.mem_of_getElem? (i := 81) rfl) rfl
theorem wd_5_82 : (Jvm.Cond.methodLink "java/lang/AbstractStringBuilder" (114 : Nat) ({ cls := "jdk/internal/util/ArraysSupport", name := "newLength", desc := "(III)I" } : Jvm.MethodName)) ∈ TB := tbk_5 (List.mem_of_getElem? (i := 82) rfl) rfl
theorem wd_5_83 : (Jvm.Cond.constant "java/lang/AbstractStringBuilder" (39 : Nat) (2147483647 : Int32)) ∈ TB := tbk_5 (List.mem_of_getElem? (i := 83) rfl) rfl
theorem wd_5_84 : (Jvm.Cond.methodLink "java/lang/AbstractStringBuilder" (108 : Nat) ({ cls := "java/util/Arrays", name := "copyOf", desc := "([BI)[B" } : Jvm.MethodName)) ∈ TB := tbk_5 (List.mem_of_getElem? (i := 84) rfl) rfl
theorem wd_5_85 : (Jvm.Cond.static ({ cls := "java/util/Arrays", name := "copyOf", desc := "([BI)[B" } : Jvm.MethodName)) ∈ TB := tbk_5 (List.mem_of_getElem? (i := 85) rfl) rfl
theorem wd_5_86 : (Jvm.Cond.code ({ cls := "java/util/Arrays", name := "copyOf", desc := "([BI)[B" } : Jvm.MethodName) prog_35_method_121_code (3 : Nat) (Option.some (Jvm.ClassFile.FieldType.array Jvm.ClassFile.FieldType.byte))) ∈ TB := tbk_5 (List.mem_of_getElem? (i := 86) rfl) rfl
theorem wd_5_87 : (Jvm.Cond.methodLink "java/util/Arrays" (310 : Nat) ({ cls := "[B", name := "clone", desc := "()Ljava/lang/Object;" } : Jvm.MethodName)) ∈ TB := tbk_5 (List.mem_of_getElem? (i := 87) rfl) rfl
theorem wd_5_88 : (Jvm.Cond.sameMethod "[B" "java/lang/Object" "clone" "()Ljava/lang/Object;") ∈ TB := tbk_5 (List.mem_of_getElem? (i := 88) rfl) rfl
theorem wd_5_89 : (Jvm.Cond.selects "[B" ({ cls := "[B", name := "clone", desc := "()Ljava/lang/Object;" } : Jvm.MethodName) ({ cls := "java/lang/Object", name := "clone", desc := "()Ljava/lang/Object;" } : Jvm.MethodName)) ∈ TB := tbk_5 (List.mem_of_getElem? (i := 89) rfl) rfl
theorem wd_5_91 : (Jvm.Cond.classLink "java/util/Arrays" (311 : Nat) "[B") ∈ TB := tbk_5 (List.mem_of_getElem? (i := 91) rfl) rfl
theorem wd_5_92 : (Jvm.Cond.methodLink "java/lang/AbstractStringBuilder" (83 : Nat) ({ cls := "java/lang/AbstractStringBuilder", name := "isLatin1", desc := "()Z" } : Jvm.MethodName)) ∈ TB := tbk_5 (List.mem_of_getElem? (i := 92) rfl) rfl
theorem wd_5_93 : (Jvm.Cond.instanceMethod ({ cls := "java/lang/AbstractStringBuilder", name := "isLatin1", desc := "()Z" } : Jvm.MethodName)) ∈ TB := tbk_5 (List.mem_of_getElem? (i := 93) rfl) rfl
theorem wd_5_94 : (Jvm.Cond.sameMethod "java/lang/AbstractStringBuilder" "java/lang/AbstractStringBuilder" "isLatin1" "()Z") ∈ TB := tbk_5 (List.mem_of_getElem? (i := 94) rfl) rfl
theorem wd_5_95 : (Jvm.Cond.selects "java/lang/StringBuilder" ({ cls := "java/lang/AbstractStringBuilder", name := "isLatin1", desc := "()Z" } : Jvm.MethodName) ({ cls := "java/lang/AbstractStringBuilder", name := "isLatin1", desc := "()Z" } : Jvm.MethodName)) ∈ TB := tbk_5 (List.mem_of_getElem? (i := 95) rfl) rfl
theorem wd_5_96 : (Jvm.Cond.code ({ cls := "java/lang/AbstractStringBuilder", name := "isLatin1", desc := "()Z" } : Jvm.MethodName) prog_16_method_68_code (1 : Nat) (Option.some Jvm.ClassFile.FieldType.boolean)) ∈ TB := tbk_5 (List.mem_of_getElem? (i := 96) rfl) rfl
theorem wd_5_97 : (Jvm.Cond.methodLink "java/lang/AbstractStringBuilder" (226 : Nat) ({ cls := "java/lang/StringUTF16", name := "putCharsAt", desc := "([BICCCC)I" } : Jvm.MethodName)) ∈ TB := tbk_5 (List.mem_of_getElem? (i := 97) rfl) rfl
theorem wd_5_98 : (Jvm.Cond.static ({ cls := "java/lang/StringUTF16", name := "putCharsAt", desc := "([BICCCC)I" } : Jvm.MethodName)) ∈ TB := tbk_5 (List.mem_of_getElem? (i := 98) rfl) rfl
theorem wd_5_99 : (Jvm.Cond.code ({ cls := "java/lang/StringUTF16", name := "putCharsAt", desc := "([BICCCC)I" } : Jvm.MethodName) prog_29_method_81_code (7 : Nat) (Option.some Jvm.ClassFile.FieldType.int)) ∈ TB := tbk_5 (List.mem_of_getElem? (i := 99) rfl) rfl
theorem wd_5_100 : (Jvm.Cond.methodLink "java/lang/StringUTF16" (96 : Nat) ({ cls := "java/lang/StringUTF16", name := "checkBoundsBeginEnd", desc := "(II[B)V" } : Jvm.MethodName)) ∈ TB := tbk_5 (List.mem_of_getElem? (i := 100) rfl) rfl
theorem wd_5_101 : (Jvm.Cond.static ({ cls := "java/lang/StringUTF16", name := "checkBoundsBeginEnd", desc := "(II[B)V" } : Jvm.MethodName)) ∈ TB := tbk_5 (List.mem_of_getElem? (i := 101) rfl) rfl
theorem wd_5_102 : (Jvm.Cond.code ({ cls := "java/lang/StringUTF16", name := "checkBoundsBeginEnd", desc := "(II[B)V" } : Jvm.MethodName) prog_29_method_93_code (3 : Nat) (Option.none : Option Jvm.ClassFile.FieldType)) ∈ TB := tbk_5 (List.mem_of_getElem? (i := 102) rfl) rfl
theorem wd_5_103 : (Jvm.Cond.methodLink "java/lang/StringUTF16" (241 : Nat) ({ cls := "java/lang/String", name := "checkBoundsBeginEnd", desc := "(III)V" } : Jvm.MethodName)) ∈ TB := tbk_5 (List.mem_of_getElem? (i := 103) rfl) rfl
theorem wd_5_104 : (Jvm.Cond.static ({ cls := "java/lang/String", name := "checkBoundsBeginEnd", desc := "(III)V" } : Jvm.MethodName)) ∈ TB := tbk_5 (List.mem_of_getElem? (i := 104) rfl) rfl
theorem wd_5_105 : (Jvm.Cond.code ({ cls := "java/lang/String", name := "checkBoundsBeginEnd", desc := "(III)V" } : Jvm.MethodName) prog_26_method_158_code (3 : Nat) (Option.none : Option Jvm.ClassFile.FieldType)) ∈ TB := tbk_5 (List.mem_of_getElem? (i := 105) rfl) rfl
theorem wd_5_106 : (Jvm.Cond.methodLink "java/lang/String" (1062 : Nat) ({ cls := "jdk/internal/util/Preconditions", name := "checkFromToIndex", desc := "(IIILjava/util/function/BiFunction;)I" } : Jvm.MethodName)) ∈ TB := tbk_5 (List.mem_of_getElem? (i := 106) rfl) rfl
theorem wd_5_107 : (Jvm.Cond.static ({ cls := "jdk/internal/util/Preconditions", name := "checkFromToIndex", desc := "(IIILjava/util/function/BiFunction;)I" } : Jvm.MethodName)) ∈ TB := tbk_5 (List.mem_of_getElem? (i := 107) rfl) rfl
theorem wd_5_108 : (Jvm.Cond.code ({ cls := "jdk/internal/util/Preconditions", name := "checkFromToIndex", desc := "(IIILjava/util/function/BiFunction;)I" } : Jvm.MethodName) prog_42_method_12_code (4 : Nat) (Option.some Jvm.ClassFile.FieldType.int)) ∈ TB := tbk_5 (List.mem_of_getElem? (i := 108) rfl) rfl
theorem wd_5_109 : (Jvm.Cond.methodLink "java/lang/StringUTF16" (111 : Nat) ({ cls := "java/lang/StringUTF16", name := "putChar", desc := "([BII)V" } : Jvm.MethodName)) ∈ TB := tbk_5 (List.mem_of_getElem? (i := 109) rfl) rfl
theorem wd_5_110 : (Jvm.Cond.static ({ cls := "java/lang/StringUTF16", name := "putChar", desc := "([BII)V" } : Jvm.MethodName)) ∈ TB := tbk_5 (List.mem_of_getElem? (i := 110) rfl) rfl
theorem wd_5_111 : (Jvm.Cond.code ({ cls := "java/lang/StringUTF16", name := "putChar", desc := "([BII)V" } : Jvm.MethodName) prog_29_method_4_code (3 : Nat) (Option.none : Option Jvm.ClassFile.FieldType)) ∈ TB := tbk_5 (List.mem_of_getElem? (i := 111) rfl) rfl
theorem wd_5_112 : (Jvm.Cond.methodLink "java/lang/AbstractStringBuilder" (32 : Nat) ({ cls := "java/lang/String", name := "length", desc := "()I" } : Jvm.MethodName)) ∈ TB := tbk_5 (List.mem_of_getElem? (i := 112) rfl) rfl
theorem wd_5_113 : (Jvm.Cond.methodLink "java/lang/AbstractStringBuilder" (208 : Nat) ({ cls := "java/lang/AbstractStringBuilder", name := "putStringAt", desc := "(ILjava/lang/String;)V" } : Jvm.MethodName)) ∈ TB := tbk_5 (List.mem_of_getElem? (i := 113) rfl) rfl
theorem wd_5_115 : (Jvm.Cond.instanceMethod ({ cls := "java/lang/AbstractStringBuilder", name := "putStringAt", desc := "(ILjava/lang/String;)V" } : Jvm.MethodName)) ∈ TB := tbk_5 (List.mem_of_getElem? (i := 115) rfl) rfl
theorem wd_5_116 : (Jvm.Cond.code ({ cls := "java/lang/AbstractStringBuilder", name := "putStringAt", desc := "(ILjava/lang/String;)V" } : Jvm.MethodName) prog_16_method_73_code (3 : Nat) (Option.none : Option Jvm.ClassFile.FieldType)) ∈ TB := tbk_5 (List.mem_of_getElem? (i := 116) rfl) rfl
theorem wd_5_117 : (Jvm.Cond.methodLink "java/lang/AbstractStringBuilder" (397 : Nat) ({ cls := "java/lang/AbstractStringBuilder", name := "inflateIfNeededFor", desc := "(Ljava/lang/String;)V" } : Jvm.MethodName)) ∈ TB := tbk_5 (List.mem_of_getElem? (i := 117) rfl) rfl
theorem wd_5_119 : (Jvm.Cond.instanceMethod ({ cls := "java/lang/AbstractStringBuilder", name := "inflateIfNeededFor", desc := "(Ljava/lang/String;)V" } : Jvm.MethodName)) ∈ TB := tbk_5 (List.mem_of_getElem? (i := 119) rfl) rfl
theorem wd_5_120 : (Jvm.Cond.code ({ cls := "java/lang/AbstractStringBuilder", name := "inflateIfNeededFor", desc := "(Ljava/lang/String;)V" } : Jvm.MethodName) prog_16_method_71_code (2 : Nat) (Option.none : Option Jvm.ClassFile.FieldType)) ∈ TB := tbk_5 (List.mem_of_getElem? (i := 120) rfl) rfl
theorem wd_5_121 : (Jvm.Cond.methodLink "java/lang/AbstractStringBuilder" (40 : Nat) ({ cls := "java/lang/String", name := "coder", desc := "()B" } : Jvm.MethodName)) ∈ TB := tbk_5 (List.mem_of_getElem? (i := 121) rfl) rfl
theorem wd_5_122 : (Jvm.Cond.methodLink "java/lang/AbstractStringBuilder" (195 : Nat) ({ cls := "java/lang/AbstractStringBuilder", name := "inflate", desc := "()V" } : Jvm.MethodName)) ∈ TB := tbk_5 (List.mem_of_getElem? (i := 122) rfl) rfl
theorem wd_5_124 : (Jvm.Cond.instanceMethod ({ cls := "java/lang/AbstractStringBuilder", name := "inflate", desc := "()V" } : Jvm.MethodName)) ∈ TB := tbk_5 (List.mem_of_getElem? (i := 124) rfl) rfl
theorem wd_5_125 : (Jvm.Cond.code ({ cls := "java/lang/AbstractStringBuilder", name := "inflate", desc := "()V" } : Jvm.MethodName) prog_16_method_11_code (2 : Nat) (Option.none : Option Jvm.ClassFile.FieldType)) ∈ TB := tbk_5 (List.mem_of_getElem? (i := 125) rfl) rfl
theorem wd_5_126 : (Jvm.Cond.methodLink "java/lang/AbstractStringBuilder" (125 : Nat) ({ cls := "java/lang/StringLatin1", name := "inflate", desc := "([BI[BII)V" } : Jvm.MethodName)) ∈ TB := tbk_5 (List.mem_of_getElem? (i := 126) rfl) rfl
theorem wd_5_127 : (Jvm.Cond.static ({ cls := "java/lang/StringLatin1", name := "inflate", desc := "([BI[BII)V" } : Jvm.MethodName)) ∈ TB := tbk_5 (List.mem_of_getElem? (i := 127) rfl) rfl
theorem wd_5_128 : (Jvm.Cond.code ({ cls := "java/lang/StringLatin1", name := "inflate", desc := "([BI[BII)V" } : Jvm.MethodName) prog_28_method_50_code (5 : Nat) (Option.none : Option Jvm.ClassFile.FieldType)) ∈ TB := tbk_5 (List.mem_of_getElem? (i := 128) rfl) rfl
theorem wd_5_129 : (Jvm.Cond.methodLink "java/lang/StringLatin1" (240 : Nat) ({ cls := "java/lang/StringUTF16", name := "inflate", desc := "([BI[BII)V" } : Jvm.MethodName)) ∈ TB := tbk_5 (List.mem_of_getElem? (i := 129) rfl) rfl
theorem wd_5_130 : (Jvm.Cond.static ({ cls := "java/lang/StringUTF16", name := "inflate", desc := "([BI[BII)V" } : Jvm.MethodName)) ∈ TB := tbk_5 (List.mem_of_getElem? (i := 130) rfl) rfl
theorem wd_5_131 : (Jvm.Cond.code ({ cls := "java/lang/StringUTF16", name := "inflate", desc := "([BI[BII)V" } : Jvm.MethodName) prog_29_method_86_code (6 : Nat) (Option.none : Option Jvm.ClassFile.FieldType)) ∈ TB := tbk_5 (List.mem_of_getElem? (i := 131) rfl) rfl
theorem wd_5_132 : (Jvm.Cond.methodLink "java/lang/StringUTF16" (173 : Nat) ({ cls := "java/lang/StringUTF16", name := "checkBoundsOffCount", desc := "(II[B)V" } : Jvm.MethodName)) ∈ TB := tbk_5 (List.mem_of_getElem? (i := 132) rfl) rfl
theorem wd_5_133 : (Jvm.Cond.static ({ cls := "java/lang/StringUTF16", name := "checkBoundsOffCount", desc := "(II[B)V" } : Jvm.MethodName)) ∈ TB := tbk_5 (List.mem_of_getElem? (i := 133) rfl) rfl
theorem wd_5_134 : (Jvm.Cond.code ({ cls := "java/lang/StringUTF16", name := "checkBoundsOffCount", desc := "(II[B)V" } : Jvm.MethodName) prog_29_method_94_code (3 : Nat) (Option.none : Option Jvm.ClassFile.FieldType)) ∈ TB := tbk_5 (List.mem_of_getElem? (i := 134) rfl) rfl
theorem wd_5_135 : (Jvm.Cond.methodLink "java/lang/StringUTF16" (419 : Nat) ({ cls := "java/lang/String", name := "checkBoundsOffCount", desc := "(III)I" } : Jvm.MethodName)) ∈ TB := tbk_5 (List.mem_of_getElem? (i := 135) rfl) rfl
theorem wd_5_136 : (Jvm.Cond.static ({ cls := "java/lang/String", name := "checkBoundsOffCount", desc := "(III)I" } : Jvm.MethodName)) ∈ TB := tbk_5 (List.mem_of_getElem? (i := 136) rfl) rfl
theorem wd_5_137 : (Jvm.Cond.code ({ cls := "java/lang/String", name := "checkBoundsOffCount", desc := "(III)I" } : Jvm.MethodName) prog_26_method_157_code (3 : Nat) (Option.some Jvm.ClassFile.FieldType.int)) ∈ TB := tbk_5 (List.mem_of_getElem? (i := 137) rfl) rfl
theorem wd_5_138 : (Jvm.Cond.methodLink "java/lang/String" (1065 : Nat) ({ cls := "jdk/internal/util/Preconditions", name := "checkFromIndexSize", desc := "(IIILjava/util/function/BiFunction;)I" } : Jvm.MethodName)) ∈ TB := tbk_5 (List.mem_of_getElem? (i := 138) rfl) rfl
theorem wd_5_139 : (Jvm.Cond.static ({ cls := "jdk/internal/util/Preconditions", name := "checkFromIndexSize", desc := "(IIILjava/util/function/BiFunction;)I" } : Jvm.MethodName)) ∈ TB := tbk_5 (List.mem_of_getElem? (i := 139) rfl) rfl
theorem wd_5_140 : (Jvm.Cond.code ({ cls := "jdk/internal/util/Preconditions", name := "checkFromIndexSize", desc := "(IIILjava/util/function/BiFunction;)I" } : Jvm.MethodName) prog_42_method_13_code (4 : Nat) (Option.some Jvm.ClassFile.FieldType.int)) ∈ TB := tbk_5 (List.mem_of_getElem? (i := 140) rfl) rfl
theorem wd_5_141 : (Jvm.Cond.methodLink "java/lang/AbstractStringBuilder" (399 : Nat) ({ cls := "java/lang/String", name := "getBytes", desc := "([BIB)V" } : Jvm.MethodName)) ∈ TB := tbk_5 (List.mem_of_getElem? (i := 141) rfl) rfl
theorem wd_5_142 : (Jvm.Cond.instanceMethod ({ cls := "java/lang/String", name := "getBytes", desc := "([BIB)V" } : Jvm.MethodName)) ∈ TB := tbk_5 (List.mem_of_getElem? (i := 142) rfl) rfl
theorem wd_5_143 : (Jvm.Cond.selects "java/lang/String" ({ cls := "java/lang/String", name := "getBytes", desc := "([BIB)V" } : Jvm.MethodName) ({ cls := "java/lang/String", name := "getBytes", desc := "([BIB)V" } : Jvm.MethodName)) ∈ TB := tbk_5 (List.mem_of_getElem? (i := 143) rfl) rfl
theorem wd_5_144 : (Jvm.Cond.code ({ cls := "java/lang/String", name := "getBytes", desc := "([BIB)V" } : Jvm.MethodName) prog_26_method_147_code (4 : Nat) (Option.none : Option Jvm.ClassFile.FieldType)) ∈ TB := tbk_5 (List.mem_of_getElem? (i := 144) rfl) rfl
theorem wd_5_145 : (Jvm.Cond.methodLink "java/lang/String" (212 : Nat) ({ cls := "java/lang/System", name := "arraycopy", desc := "(Ljava/lang/Object;ILjava/lang/Object;II)V" } : Jvm.MethodName)) ∈ TB := tbk_5 (List.mem_of_getElem? (i := 145) rfl) rfl
theorem wd_5_146 : (Jvm.Cond.methodLink "java/lang/String" (106 : Nat) ({ cls := "java/lang/StringLatin1", name := "inflate", desc := "([BI[BII)V" } : Jvm.MethodName)) ∈ TB := tbk_5 (List.mem_of_getElem? (i := 146) rfl) rfl
theorem wd_5_147 : (Jvm.Cond.methodLink "java/util/ArrayList" (29 : Nat) ({ cls := "java/lang/StringBuilder", name := "append", desc := "(I)Ljava/lang/StringBuilder;" } : Jvm.MethodName)) ∈ TB := tbk_5 (List.mem_of_getElem? (i := 147) rfl) rfl
theorem wd_5_148 : (Jvm.Cond.instanceMethod ({ cls := "java/lang/StringBuilder", name := "append", desc := "(I)Ljava/lang/StringBuilder;" } : Jvm.MethodName)) ∈ TB := tbk_5 (List.mem_of_getElem? (i := 148) rfl) rfl
theorem wd_5_149 : (Jvm.Cond.selects "java/lang/StringBuilder" ({ cls := "java/lang/StringBuilder", name := "append", desc := "(I)Ljava/lang/StringBuilder;" } : Jvm.MethodName) ({ cls := "java/lang/StringBuilder", name := "append", desc := "(I)Ljava/lang/StringBuilder;" } : Jvm.MethodName)) ∈ TB := tbk_5 (List.mem_of_getElem? (i := 149) rfl) rfl
theorem wd_5_150 : (Jvm.Cond.code ({ cls := "java/lang/StringBuilder", name := "append", desc := "(I)Ljava/lang/StringBuilder;" } : Jvm.MethodName) prog_27_method_15_code (2 : Nat) (Option.some (Jvm.ClassFile.FieldType.object "java/lang/StringBuilder"))) ∈ TB := tbk_5 (List.mem_of_getElem? (i := 150) rfl) rfl
theorem wd_5_151 : (Jvm.Cond.methodLink "java/lang/StringBuilder" (53 : Nat) ({ cls := "java/lang/AbstractStringBuilder", name := "append", desc := "(I)Ljava/lang/AbstractStringBuilder;" } : Jvm.MethodName)) ∈ TB := tbk_5 (List.mem_of_getElem? (i := 151) rfl) rfl
theorem wd_5_152 : (Jvm.Cond.instanceMethod ({ cls := "java/lang/AbstractStringBuilder", name := "append", desc := "(I)Ljava/lang/AbstractStringBuilder;" } : Jvm.MethodName)) ∈ TB := tbk_5 (List.mem_of_getElem? (i := 152) rfl) rfl
theorem wd_5_153 : (Jvm.Cond.code ({ cls := "java/lang/AbstractStringBuilder", name := "append", desc := "(I)Ljava/lang/AbstractStringBuilder;" } : Jvm.MethodName) prog_16_method_32_code (4 : Nat) (Option.some (Jvm.ClassFile.FieldType.object "java/lang/AbstractStringBuilder"))) ∈ TB := tbk_5 (List.mem_of_getElem? (i := 153) rfl) rfl
theorem wd_5_154 : (Jvm.Cond.methodLink "java/lang/AbstractStringBuilder" (245 : Nat) ({ cls := "java/lang/Integer", name := "stringSize", desc := "(I)I" } : Jvm.MethodName)) ∈ TB := tbk_5 (List.mem_of_getElem? (i := 154) rfl) rfl
theorem wd_5_155 : (Jvm.Cond.static ({ cls := "java/lang/Integer", name := "stringSize", desc := "(I)I" } : Jvm.MethodName)) ∈ TB := tbk_5 (List.mem_of_getElem? (i := 155) rfl) rfl
theorem wd_5_156 : (Jvm.Cond.code ({ cls := "java/lang/Integer", name := "stringSize", desc := "(I)I" } : Jvm.MethodName) prog_22_method_13_code (4 : Nat) (Option.some Jvm.ClassFile.FieldType.int)) ∈ TB := tbk_5 (List.mem_of_getElem? (i := 156) rfl) rfl
theorem wd_5_157 : (Jvm.Cond.methodLink "java/lang/AbstractStringBuilder" (248 : Nat) ({ cls := "java/lang/Integer", name := "getChars", desc := "(II[B)I" } : Jvm.MethodName)) ∈ TB := tbk_5 (List.mem_of_getElem? (i := 157) rfl) rfl
theorem wd_5_158 : (Jvm.Cond.static ({ cls := "java/lang/Integer", name := "getChars", desc := "(II[B)I" } : Jvm.MethodName)) ∈ TB := tbk_5 (List.mem_of_getElem? (i := 158) rfl) rfl
theorem wd_5_159 : (Jvm.Cond.code ({ cls := "java/lang/Integer", name := "getChars", desc := "(II[B)I" } : Jvm.MethodName) prog_22_method_12_code (7 : Nat) (Option.some Jvm.ClassFile.FieldType.int)) ∈ TB := tbk_5 (List.mem_of_getElem? (i := 159) rfl) rfl
theorem wd_5_160 : (Jvm.Cond.fieldLink "java/lang/Integer" (83 : Nat) "java/lang/Integer" "DigitOnes" "[B") ∈ TB := tbk_5 (List.mem_of_getElem? (i := 160) rfl) rfl
theorem wd_5_162 : (Jvm.Cond.fieldLink "java/lang/Integer" (87 : Nat) "java/lang/Integer" "DigitTens" "[B") ∈ TB := tbk_5 (List.mem_of_getElem? (i := 162) rfl) rfl
theorem wd_5_164 : (Jvm.Cond.methodLink "java/lang/AbstractStringBuilder" (251 : Nat) ({ cls := "java/lang/StringUTF16", name := "getChars", desc := "(III[B)I" } : Jvm.MethodName)) ∈ TB := tbk_5 (List.mem_of_getElem? (i := 164) rfl) rfl
theorem wd_5_165 : (Jvm.Cond.static ({ cls := "java/lang/StringUTF16", name := "getChars", desc := "(III[B)I" } : Jvm.MethodName)) ∈ TB := tbk_5 (List.mem_of_getElem? (i := 165) rfl) rfl
theorem wd_5_166 : (Jvm.Cond.code ({ cls := "java/lang/StringUTF16", name := "getChars", desc := "(III[B)I" } : Jvm.MethodName) prog_29_method_77_code (5 : Nat) (Option.some Jvm.ClassFile.FieldType.int)) ∈ TB := tbk_5 (List.mem_of_getElem? (i := 166) rfl) rfl
theorem wd_5_167 : (Jvm.Cond.methodLink "java/lang/StringUTF16" (393 : Nat) ({ cls := "java/lang/StringUTF16", name := "getChars", desc := "(II[B)I" } : Jvm.MethodName)) ∈ TB := tbk_5 (List.mem_of_getElem? (i := 167) rfl) rfl
theorem wd_5_168 : (Jvm.Cond.static ({ cls := "java/lang/StringUTF16", name := "getChars", desc := "(II[B)I" } : Jvm.MethodName)) ∈ TB := tbk_5 (List.mem_of_getElem? (i := 168) rfl) rfl
theorem wd_5_169 : (Jvm.Cond.code ({ cls := "java/lang/StringUTF16", name := "getChars", desc := "(II[B)I" } : Jvm.MethodName) prog_29_method_89_code (7 : Nat) (Option.some Jvm.ClassFile.FieldType.int)) ∈ TB := tbk_5 (List.mem_of_getElem? (i := 169) rfl) rfl
theorem wd_5_170 : (Jvm.Cond.fieldLink "java/lang/StringUTF16" (403 : Nat) "java/lang/Integer" "DigitOnes" "[B") ∈ TB := tbk_5 (List.mem_of_getElem? (i := 170) rfl) rfl
theorem wd_5_171 : (Jvm.Cond.fieldLink "java/lang/StringUTF16" (407 : Nat) "java/lang/Integer" "DigitTens" "[B") ∈ TB := tbk_5 (List.mem_of_getElem? (i := 171) rfl) rfl
theorem wd_5_173 : (Jvm.Cond.methodLink "java/util/ArrayList" (32 : Nat) ({ cls := "java/lang/StringBuilder", name := "toString", desc := "()Ljava/lang/String;" } : Jvm.MethodName)) ∈ TB := tbk_5 (List.mem_of_getElem? (i := 173) rfl) rfl
theorem wd_5_174 : (Jvm.Cond.instanceMethod ({ cls := "java/lang/StringBuilder", name := "toString", desc := "()Ljava/lang/String;" } : Jvm.MethodName)) ∈ TB := tbk_5 (List.mem_of_getElem? (i := 174) rfl) rfl
theorem wd_5_175 : (Jvm.Cond.selects "java/lang/StringBuilder" ({ cls := "java/lang/StringBuilder", name := "toString", desc := "()Ljava/lang/String;" } : Jvm.MethodName) ({ cls := "java/lang/StringBuilder", name := "toString", desc := "()Ljava/lang/String;" } : Jvm.MethodName)) ∈ TB := tbk_5 (List.mem_of_getElem? (i := 175) rfl) rfl
theorem wd_5_176 : (Jvm.Cond.code ({ cls := "java/lang/StringBuilder", name := "toString", desc := "()Ljava/lang/String;" } : Jvm.MethodName) prog_27_method_42_code (1 : Nat) (Option.some (Jvm.ClassFile.FieldType.object "java/lang/String"))) ∈ TB := tbk_5 (List.mem_of_getElem? (i := 176) rfl) rfl
theorem wd_5_177 : (Jvm.Cond.classLink "java/lang/StringBuilder" (18 : Nat) "java/lang/String") ∈ TB := tbk_5 (List.mem_of_getElem? (i := 177) rfl) rfl
theorem wd_5_178 : (Jvm.Cond.instantiable "java/lang/String" (4 : Nat)) ∈ TB := tbk_5 (List.mem_of_getElem? (i := 178) rfl) rfl
theorem wd_5_179 : (Jvm.Cond.methodLink "java/lang/StringBuilder" (137 : Nat) ({ cls := "java/lang/String", name := "<init>", desc := "(Ljava/lang/StringBuilder;)V" } : Jvm.MethodName)) ∈ TB := tbk_5 (List.mem_of_getElem? (i := 179) rfl) rfl
theorem wd_5_180 : (Jvm.Cond.instanceMethod ({ cls := "java/lang/String", name := "<init>", desc := "(Ljava/lang/StringBuilder;)V" } : Jvm.MethodName)) ∈ TB := tbk_5 (List.mem_of_getElem? (i := 180) rfl) rfl
theorem wd_5_181 : (Jvm.Cond.code ({ cls := "java/lang/String", name := "<init>", desc := "(Ljava/lang/StringBuilder;)V" } : Jvm.MethodName) prog_26_method_53_code (2 : Nat) (Option.none : Option Jvm.ClassFile.FieldType)) ∈ TB := tbk_5 (List.mem_of_getElem? (i := 181) rfl) rfl
theorem wd_5_182 : (Jvm.Cond.methodLink "java/lang/String" (489 : Nat) ({ cls := "java/lang/String", name := "<init>", desc := "(Ljava/lang/AbstractStringBuilder;Ljava/lang/Void;)V" } : Jvm.MethodName)) ∈ TB := tbk_5 (List.mem_of_getElem? (i := 182) rfl) rfl
theorem wd_5_183 : (Jvm.Cond.instanceMethod ({ cls := "java/lang/String", name := "<init>", desc := "(Ljava/lang/AbstractStringBuilder;Ljava/lang/Void;)V" } : Jvm.MethodName)) ∈ TB := tbk_5 (List.mem_of_getElem? (i := 183) rfl) rfl
theorem wd_5_184 : (Jvm.Cond.code ({ cls := "java/lang/String", name := "<init>", desc := "(Ljava/lang/AbstractStringBuilder;Ljava/lang/Void;)V" } : Jvm.MethodName) prog_26_method_150_code (5 : Nat) (Option.none : Option Jvm.ClassFile.FieldType)) ∈ TB := tbk_5 (List.mem_of_getElem? (i := 184) rfl) rfl
theorem wd_5_185 : (Jvm.Cond.methodLink "java/lang/String" (1 : Nat) ({ cls := "java/lang/Object", name := "<init>", desc := "()V" } : Jvm.MethodName)) ∈ TB := tbk_5 (List.mem_of_getElem? (i := 185) rfl) rfl
theorem wd_5_186 : (Jvm.Cond.methodLink "java/lang/String" (552 : Nat) ({ cls := "java/lang/AbstractStringBuilder", name := "getValue", desc := "()[B" } : Jvm.MethodName)) ∈ TB := tbk_5 (List.mem_of_getElem? (i := 186) rfl) rfl
theorem wd_5_187 : (Jvm.Cond.instanceMethod ({ cls := "java/lang/AbstractStringBuilder", name := "getValue", desc := "()[B" } : Jvm.MethodName)) ∈ TB := tbk_5 (List.mem_of_getElem? (i := 187) rfl) rfl
theorem wd_5_188 : (Jvm.Cond.sameMethod "java/lang/AbstractStringBuilder" "java/lang/AbstractStringBuilder" "getValue" "()[B") ∈ TB := tbk_5 (List.mem_of_getElem? (i := 188) rfl) rfl
theorem wd_5_189 : (Jvm.Cond.selects "java/lang/StringBuilder" ({ cls := "java/lang/AbstractStringBuilder", name := "getValue", desc := "()[B" } : Jvm.MethodName) ({ cls := "java/lang/AbstractStringBuilder", name := "getValue", desc := "()[B" } : Jvm.MethodName)) ∈ TB := tbk_5 (List.mem_of_getElem? (i := 189) rfl) rfl
theorem wd_5_190 : (Jvm.Cond.code ({ cls := "java/lang/AbstractStringBuilder", name := "getValue", desc := "()[B" } : Jvm.MethodName) prog_16_method_64_code (1 : Nat) (Option.some (Jvm.ClassFile.FieldType.array Jvm.ClassFile.FieldType.byte))) ∈ TB := tbk_5 (List.mem_of_getElem? (i := 190) rfl) rfl
theorem wd_5_191 : (Jvm.Cond.methodLink "java/lang/String" (549 : Nat) ({ cls := "java/lang/AbstractStringBuilder", name := "length", desc := "()I" } : Jvm.MethodName)) ∈ TB := tbk_5 (List.mem_of_getElem? (i := 191) rfl) rfl
theorem wd_5_192 : (Jvm.Cond.instanceMethod ({ cls := "java/lang/AbstractStringBuilder", name := "length", desc := "()I" } : Jvm.MethodName)) ∈ TB := tbk_5 (List.mem_of_getElem? (i := 192) rfl) rfl
theorem wd_5_193 : (Jvm.Cond.sameMethod "java/lang/AbstractStringBuilder" "java/lang/AbstractStringBuilder" "length" "()I") ∈ TB := tbk_5 (List.mem_of_getElem? (i := 193) rfl) rfl
theorem wd_5_194 : (Jvm.Cond.selects "java/lang/StringBuilder" ({ cls := "java/lang/AbstractStringBuilder", name := "length", desc := "()I" } : Jvm.MethodName) ({ cls := "java/lang/StringBuilder", name := "length", desc := "()I" } : Jvm.MethodName)) ∈ TB := tbk_5 (List.mem_of_getElem? (i := 194) rfl) rfl
theorem wd_5_195 : (Jvm.Cond.instanceMethod ({ cls := "java/lang/StringBuilder", name := "length", desc := "()I" } : Jvm.MethodName)) ∈ TB := tbk_5 (List.mem_of_getElem? (i := 195) rfl) rfl
theorem wd_5_196 : (Jvm.Cond.code ({ cls := "java/lang/StringBuilder", name := "length", desc := "()I" } : Jvm.MethodName) prog_27_method_93_code (1 : Nat) (Option.some Jvm.ClassFile.FieldType.int)) ∈ TB := tbk_5 (List.mem_of_getElem? (i := 196) rfl) rfl
theorem wd_5_197 : (Jvm.Cond.methodLink "java/lang/StringBuilder" (343 : Nat) ({ cls := "java/lang/AbstractStringBuilder", name := "length", desc := "()I" } : Jvm.MethodName)) ∈ TB := tbk_5 (List.mem_of_getElem? (i := 197) rfl) rfl
theorem wd_5_198 : (Jvm.Cond.code ({ cls := "java/lang/AbstractStringBuilder", name := "length", desc := "()I" } : Jvm.MethodName) prog_16_method_6_code (1 : Nat) (Option.some Jvm.ClassFile.FieldType.int)) ∈ TB := tbk_5 (List.mem_of_getElem? (i := 198) rfl) rfl
theorem wd_5_199 : (Jvm.Cond.methodLink "java/lang/String" (1047 : Nat) ({ cls := "java/lang/AbstractStringBuilder", name := "isLatin1", desc := "()Z" } : Jvm.MethodName)) ∈ TB := tbk_5 (List.mem_of_getElem? (i := 199) rfl) rfl
theorem wd_5_200 : (Jvm.Cond.methodLink "java/lang/String" (54 : Nat) ({ cls := "java/util/Arrays", name := "copyOfRange", desc := "([BII)[B" } : Jvm.MethodName)) ∈ TB := tbk_5 (List.mem_of_getElem? (i := 200) rfl) rfl
theorem wd_5_201 : (Jvm.Cond.static ({ cls := "java/util/Arrays", name := "copyOfRange", desc := "([BII)[B" } : Jvm.MethodName)) ∈ TB := tbk_5 (List.mem_of_getElem? (i := 201) rfl) rfl
theorem wd_5_202 : (Jvm.Cond.code ({ cls := "java/util/Arrays", name := "copyOfRange", desc := "([BII)[B" } : Jvm.MethodName) prog_35_method_132_code (3 : Nat) (Option.some (Jvm.ClassFile.FieldType.array Jvm.ClassFile.FieldType.byte))) ∈ TB := tbk_5 (List.mem_of_getElem? (i := 202) rfl) rfl
theorem wd_5_203 : (Jvm.Cond.methodLink "java/util/Arrays" (339 : Nat) ({ cls := "java/util/Arrays", name := "copyOfRangeByte", desc := "([BII)[B" } : Jvm.MethodName)) ∈ TB := tbk_5 (List.mem_of_getElem? (i := 203) rfl) rfl
theorem wd_5_204 : (Jvm.Cond.static ({ cls := "java/util/Arrays", name := "copyOfRangeByte", desc := "([BII)[B" } : Jvm.MethodName)) ∈ TB := tbk_5 (List.mem_of_getElem? (i := 204) rfl) rfl
theorem wd_5_205 : (Jvm.Cond.code ({ cls := "java/util/Arrays", name := "copyOfRangeByte", desc := "([BII)[B" } : Jvm.MethodName) prog_35_method_133_code (5 : Nat) (Option.some (Jvm.ClassFile.FieldType.array Jvm.ClassFile.FieldType.byte))) ∈ TB := tbk_5 (List.mem_of_getElem? (i := 205) rfl) rfl
theorem wd_5_206 : (Jvm.Cond.methodLink "java/util/Arrays" (343 : Nat) ({ cls := "java/util/Arrays", name := "checkLength", desc := "(II)V" } : Jvm.MethodName)) ∈ TB := tbk_5 (List.mem_of_getElem? (i := 206) rfl) rfl
theorem wd_5_207 : (Jvm.Cond.static ({ cls := "java/util/Arrays", name := "checkLength", desc := "(II)V" } : Jvm.MethodName)) ∈ TB := tbk_5 (List.mem_of_getElem? (i := 207) rfl) rfl
theorem wd_5_208 : (Jvm.Cond.code ({ cls := "java/util/Arrays", name := "checkLength", desc := "(II)V" } : Jvm.MethodName) prog_35_method_131_code (2 : Nat) (Option.none : Option Jvm.ClassFile.FieldType)) ∈ TB := tbk_5 (List.mem_of_getElem? (i := 208) rfl) rfl
theorem wd_5_209 : (Jvm.Cond.classLink "java/util/Arrays" (43 : Nat) "java/lang/IllegalArgumentException") ∈ TB := tbk_5 (List.mem_of_getElem? (i := 209) rfl) rfl
theorem wd_5_210 : (Jvm.Cond.classLink "java/util/Arrays" (45 : Nat) "java/lang/StringBuilder") ∈ TB := tbk_5 (List.mem_of_getElem? (i := 210) rfl) rfl
theorem wd_5_211 : (Jvm.Cond.methodLink "java/util/Arrays" (47 : Nat) ({ cls := "java/lang/StringBuilder", name := "<init>", desc := "()V" } : Jvm.MethodName)) ∈ TB := tbk_5 (List.mem_of_getElem? (i := 211) rfl) rfl
theorem wd_5_212 : (Jvm.Cond.methodLink "java/util/Arrays" (54 : Nat) ({ cls := "java/lang/StringBuilder", name := "append", desc := "(I)Ljava/lang/StringBuilder;" } : Jvm.MethodName)) ∈ TB := tbk_5 (List.mem_of_getElem? (i := 212) rfl) rfl
theorem wd_5_214 : (Jvm.Cond.methodLink "java/util/Arrays" (50 : Nat) ({ cls := "java/lang/StringBuilder", name := "append", desc := "(Ljava/lang/String;)Ljava/lang/StringBuilder;" } : Jvm.MethodName)) ∈ TB := tbk_5 (List.mem_of_getElem? (i := 214) rfl) rfl
theorem wd_5_215 : (Jvm.Cond.methodLink "java/util/Arrays" (61 : Nat) ({ cls := "java/lang/StringBuilder", name := "toString", desc := "()Ljava/lang/String;" } : Jvm.MethodName)) ∈ TB := tbk_5 (List.mem_of_getElem? (i := 215) rfl) rfl
theorem wd_5_216 : (Jvm.Cond.methodLink "java/util/Arrays" (65 : Nat) ({ cls := "java/lang/IllegalArgumentException", name := "<init>", desc := "(Ljava/lang/String;)V" } : Jvm.MethodName)) ∈ TB := tbk_5 (List.mem_of_getElem? (i := 216) rfl) rfl
theorem wd_5_217 : (Jvm.Cond.methodLink "java/lang/String" (1051 : Nat) ({ cls := "java/lang/StringUTF16", name := "compress", desc := "([BII)[B" } : Jvm.MethodName)) ∈ TB := tbk_5 (List.mem_of_getElem? (i := 217) rfl) rfl
theorem wd_5_218 : (Jvm.Cond.static ({ cls := "java/lang/StringUTF16", name := "compress", desc := "([BII)[B" } : Jvm.MethodName)) ∈ TB := tbk_5 (List.mem_of_getElem? (i := 218) rfl) rfl
theorem wd_5_219 : (Jvm.Cond.code ({ cls := "java/lang/StringUTF16", name := "compress", desc := "([BII)[B" } : Jvm.MethodName) prog_29_method_17_code (6 : Nat) (Option.some (Jvm.ClassFile.FieldType.array Jvm.ClassFile.FieldType.byte))) ∈ TB := tbk_5 (List.mem_of_getElem? (i := 219) rfl) rfl
theorem wd_5_220 : (Jvm.Cond.methodLink "java/lang/StringUTF16" (123 : Nat) ({ cls := "java/lang/StringUTF16", name := "compress", desc := "([BI[BII)I" } : Jvm.MethodName)) ∈ TB := tbk_5 (List.mem_of_getElem? (i := 220) rfl) rfl
theorem wd_5_221 : (Jvm.Cond.static ({ cls := "java/lang/StringUTF16", name := "compress", desc := "([BI[BII)I" } : Jvm.MethodName)) ∈ TB := tbk_5 (List.mem_of_getElem? (i := 221) rfl) rfl
theorem wd_5_222 : (Jvm.Cond.code ({ cls := "java/lang/StringUTF16", name := "compress", desc := "([BI[BII)I" } : Jvm.MethodName) prog_29_method_22_code (7 : Nat) (Option.some Jvm.ClassFile.FieldType.int)) ∈ TB := tbk_5 (List.mem_of_getElem? (i := 222) rfl) rfl
theorem wd_5_223 : (Jvm.Cond.methodLink "java/lang/StringUTF16" (126 : Nat) ({ cls := "java/util/Arrays", name := "copyOfRange", desc := "([BII)[B" } : Jvm.MethodName)) ∈ TB := tbk_5 (List.mem_of_getElem? (i := 223) rfl) rfl
theorem wd_5_224 : (Jvm.Cond.methodLink "java/lang/String" (47 : Nat) ({ cls := "java/lang/StringUTF16", name := "coderFromArrayLen", desc := "([BI)B" } : Jvm.MethodName)) ∈ TB := tbk_5 (List.mem_of_getElem? (i := 224) rfl) rfl
theorem wd_5_225 : (Jvm.Cond.static ({ cls := "java/lang/StringUTF16", name := "coderFromArrayLen", desc := "([BI)B" } : Jvm.MethodName)) ∈ TB := tbk_5 (List.mem_of_getElem? (i := 225) rfl) rfl
theorem wd_5_226 : (Jvm.Cond.code ({ cls := "java/lang/StringUTF16", name := "coderFromArrayLen", desc := "([BI)B" } : Jvm.MethodName) prog_29_method_15_code (2 : Nat) (Option.some Jvm.ClassFile.FieldType.byte)) ∈ TB := tbk_5 (List.mem_of_getElem? (i := 226) rfl) rfl
theorem wd_5_227 : (Jvm.Cond.fieldLink "java/lang/String" (9 : Nat) "java/lang/String" "value" "[B") ∈ TB := tbk_5 (List.mem_of_getElem? (i := 227) rfl) rfl
theorem wd_5_228 : (Jvm.Cond.fieldLink "java/lang/String" (15 : Nat) "java/lang/String" "coder" "B") ∈ TB := tbk_5 (List.mem_of_getElem? (i := 228) rfl) rfl
theorem wd_5_229 : (Jvm.Cond.laysFinal "java/lang/String" "java/lang/String" "value" "[B") ∈ TB := tbk_5 (List.mem_of_getElem? (i := 229) rfl) rfl
theorem wd_5_231 : (Jvm.Cond.laysFinal "java/lang/String" "java/lang/String" "coder" "B") ∈ TB := tbk_5 (List.mem_of_getElem? (i := 231) rfl) rfl
theorem wd_5_233 : (Jvm.Cond.lays "java/lang/String" "java/lang/String" "hash" "I") ∈ TB := tbk_5 (List.mem_of_getElem? (i := 233) rfl) rfl
theorem wd_5_235 : (Jvm.Cond.lays "java/lang/String" "java/lang/String" "hashIsZero" "Z") ∈ TB := tbk_5 (List.mem_of_getElem? (i := 235) rfl) rfl
theorem wd_5_238 : (Jvm.Cond.methodLink "java/util/ArrayList" (193 : Nat) ({ cls := "java/lang/IndexOutOfBoundsException", name := "<init>", desc := "(Ljava/lang/String;)V" } : Jvm.MethodName)) ∈ TB := tbk_5 (List.mem_of_getElem? (i := 238) rfl) rfl
theorem wd_5_239 : (Jvm.Cond.methodLink "java/util/ArrayList" (112 : Nat) ({ cls := "java/lang/System", name := "arraycopy", desc := "(Ljava/lang/Object;ILjava/lang/Object;II)V" } : Jvm.MethodName)) ∈ TB := tbk_5 (List.mem_of_getElem? (i := 239) rfl) rfl
theorem wd_6_0 : (Jvm.Cond.methodLink "PolicyTreeLaw" (161 : Nat) ({ cls := "PolicyTreeLaw", name := "end", desc := "(LPolicyTree;I[J)I" } : Jvm.MethodName)) ∈ TB := tbk_6 (List.mem_of_getElem? (i := 0) rfl) rfl
theorem wd_6_1 : (Jvm.Cond.static ({ cls := "PolicyTreeLaw", name := "end", desc := "(LPolicyTree;I[J)I" } : Jvm.MethodName)) ∈ TB := tbk_6 (List.mem_of_getElem? (i := 1) rfl) rfl
theorem wd_6_2 : (Jvm.Cond.codeWith ({ cls := "PolicyTreeLaw", name := "end", desc := "(LPolicyTree;I[J)I" } : Jvm.MethodName) method_17_code (4 : Nat) (Option.some Jvm.ClassFile.FieldType.int) [((0 : Nat), (16 : Nat), (19 : Nat), (13 : Nat))]) ∈ TB := tbk_6 (List.mem_of_getElem? (i := 2) rfl) rfl
theorem wd_6_3 : (Jvm.Cond.methodLink "PolicyTreeLaw" (66 : Nat) ({ cls := "PolicyTree", name := "end", desc := "(I)Z" } : Jvm.MethodName)) ∈ TB := tbk_6 (List.mem_of_getElem? (i := 3) rfl) rfl
theorem wd_6_4 : (Jvm.Cond.instanceMethod ({ cls := "PolicyTree", name := "end", desc := "(I)Z" } : Jvm.MethodName)) ∈ TB := tbk_6 (List.mem_of_getElem? (i := 4) rfl) rfl
theorem wd_6_5 : (Jvm.Cond.selects "PolicyTree" ({ cls := "PolicyTree", name := "end", desc := "(I)Z" } : Jvm.MethodName) ({ cls := "PolicyTree", name := "end", desc := "(I)Z" } : Jvm.MethodName)) ∈ TB := tbk_6 (List.mem_of_getElem? (i := 5) rfl) rfl
theorem wd_6_6 : (Jvm.Cond.code ({ cls := "PolicyTree", name := "end", desc := "(I)Z" } : Jvm.MethodName) prog_1_method_18_code (3 : Nat) (Option.some Jvm.ClassFile.FieldType.boolean)) ∈ TB := tbk_6 (List.mem_of_getElem? (i := 6) rfl) rfl
theorem wd_6_7 : (Jvm.Cond.methodLink "PolicyTree" (205 : Nat) ({ cls := "PolicyTree$Node", name := "remove", desc := "(LPolicyTree$Link;)V" } : Jvm.MethodName)) ∈ TB := tbk_6 (List.mem_of_getElem? (i := 7) rfl) rfl
theorem wd_6_8 : (Jvm.Cond.instanceMethod ({ cls := "PolicyTree$Node", name := "remove", desc := "(LPolicyTree$Link;)V" } : Jvm.MethodName)) ∈ TB := tbk_6 (List.mem_of_getElem? (i := 8) rfl) rfl
theorem wd_6_9 : (Jvm.Cond.selects "PolicyTree$Node" ({ cls := "PolicyTree$Node", name := "remove", desc := "(LPolicyTree$Link;)V" } : Jvm.MethodName) ({ cls := "PolicyTree$Node", name := "remove", desc := "(LPolicyTree$Link;)V" } : Jvm.MethodName)) ∈ TB := tbk_6 (List.mem_of_getElem? (i := 9) rfl) rfl
theorem wd_6_10 : (Jvm.Cond.code ({ cls := "PolicyTree$Node", name := "remove", desc := "(LPolicyTree$Link;)V" } : Jvm.MethodName) prog_8_method_6_code (3 : Nat) (Option.none : Option Jvm.ClassFile.FieldType)) ∈ TB := tbk_6 (List.mem_of_getElem? (i := 10) rfl) rfl
theorem wd_6_11 : (Jvm.Cond.methodLink "PolicyTree$Node" (41 : Nat) ({ cls := "java/util/ArrayList", name := "remove", desc := "(I)Ljava/lang/Object;" } : Jvm.MethodName)) ∈ TB := tbk_6 (List.mem_of_getElem? (i := 11) rfl) rfl
theorem wd_6_12 : (Jvm.Cond.instanceMethod ({ cls := "java/util/ArrayList", name := "remove", desc := "(I)Ljava/lang/Object;" } : Jvm.MethodName)) ∈ TB := tbk_6 (List.mem_of_getElem? (i := 12) rfl) rfl
theorem wd_6_13 : (Jvm.Cond.selects "java/util/ArrayList" ({ cls := "java/util/ArrayList", name := "remove", desc := "(I)Ljava/lang/Object;" } : Jvm.MethodName) ({ cls := "java/util/ArrayList", name := "remove", desc := "(I)Ljava/lang/Object;" } : Jvm.MethodName)) ∈ TB := tbk_6 (List.mem_of_getElem? (i := 13) rfl) rfl
theorem wd_6_14 : (Jvm.Cond.code ({ cls := "java/util/ArrayList", name := "remove", desc := "(I)Ljava/lang/Object;" } : Jvm.MethodName) prog_34_method_29_code (4 : Nat) (Option.some (Jvm.ClassFile.FieldType.object "java/lang/Object"))) ∈ TB := tbk_6 (List.mem_of_getElem? (i := 14) rfl) rfl
theorem wd_6_15 : (Jvm.Cond.methodLink "java/util/ArrayList" (144 : Nat) ({ cls := "java/util/ArrayList", name := "fastRemove", desc := "([Ljava/lang/Object;I)V" } : Jvm.MethodName)) ∈ TB := tbk_6 (List.mem_of_getElem? (i := 15) rfl) rfl
theorem wd_6_17 : (Jvm.Cond.instanceMethod ({ cls := "java/util/ArrayList", name := "fastRemove", desc := "([Ljava/lang/Object;I)V" } : Jvm.MethodName)) ∈ TB := tbk_6 (List.mem_of_getElem? (i := 17) rfl) rfl
theorem wd_6_18 : (Jvm.Cond.code ({ cls := "java/util/ArrayList", name := "fastRemove", desc := "([Ljava/lang/Object;I)V" } : Jvm.MethodName) prog_34_method_39_code (4 : Nat) (Option.none : Option Jvm.ClassFile.FieldType)) ∈ TB := tbk_6 (List.mem_of_getElem? (i := 18) rfl) rfl
theorem wd_6_19 : (Jvm.Cond.methodLink "PolicyTreeLaw" (164 : Nat) ({ cls := "PolicyTreeLaw", name := "outcome", desc := "(LPolicyTree;II[J)I" } : Jvm.MethodName)) ∈ TB := tbk_6 (List.mem_of_getElem? (i := 19) rfl) rfl
theorem wd_6_20 : (Jvm.Cond.static ({ cls := "PolicyTreeLaw", name := "outcome", desc := "(LPolicyTree;II[J)I" } : Jvm.MethodName)) ∈ TB := tbk_6 (List.mem_of_getElem? (i := 20) rfl) rfl
theorem wd_6_21 : (Jvm.Cond.codeWith ({ cls := "PolicyTreeLaw", name := "outcome", desc := "(LPolicyTree;II[J)I" } : Jvm.MethodName) method_18_code (5 : Nat) (Option.some Jvm.ClassFile.FieldType.int) [((0 : Nat), (10 : Nat), (13 : Nat), (13 : Nat)), ((0 : Nat), (10 : Nat), (17 : Nat), (32 : Nat))]) ∈ TB := tbk_6 (List.mem_of_getElem? (i := 21) rfl) rfl
theorem wd_6_22 : (Jvm.Cond.methodLink "PolicyTreeLaw" (70 : Nat) ({ cls := "PolicyTree", name := "outcome", desc := "(II)I" } : Jvm.MethodName)) ∈ TB := tbk_6 (List.mem_of_getElem? (i := 22) rfl) rfl
theorem wd_6_23 : (Jvm.Cond.instanceMethod ({ cls := "PolicyTree", name := "outcome", desc := "(II)I" } : Jvm.MethodName)) ∈ TB := tbk_6 (List.mem_of_getElem? (i := 23) rfl) rfl
theorem wd_6_24 : (Jvm.Cond.selects "PolicyTree" ({ cls := "PolicyTree", name := "outcome", desc := "(II)I" } : Jvm.MethodName) ({ cls := "PolicyTree", name := "outcome", desc := "(II)I" } : Jvm.MethodName)) ∈ TB := tbk_6 (List.mem_of_getElem? (i := 24) rfl) rfl
theorem wd_6_25 : (Jvm.Cond.code ({ cls := "PolicyTree", name := "outcome", desc := "(II)I" } : Jvm.MethodName) prog_1_method_19_code (3 : Nat) (Option.some Jvm.ClassFile.FieldType.int)) ∈ TB := tbk_6 (List.mem_of_getElem? (i := 25) rfl) rfl
theorem wd_6_26 : (Jvm.Cond.methodLink "PolicyTree" (208 : Nat) ({ cls := "PolicyTree", name := "findOutcome", desc := "(II)V" } : Jvm.MethodName)) ∈ TB := tbk_6 (List.mem_of_getElem? (i := 26) rfl) rfl
theorem wd_6_28 : (Jvm.Cond.instanceMethod ({ cls := "PolicyTree", name := "findOutcome", desc := "(II)V" } : Jvm.MethodName)) ∈ TB := tbk_6 (List.mem_of_getElem? (i := 28) rfl) rfl
theorem wd_6_29 : (Jvm.Cond.code ({ cls := "PolicyTree", name := "findOutcome", desc := "(II)V" } : Jvm.MethodName) prog_1_method_32_code (3 : Nat) (Option.none : Option Jvm.ClassFile.FieldType)) ∈ TB := tbk_6 (List.mem_of_getElem? (i := 29) rfl) rfl
theorem wd_6_30 : (Jvm.Cond.methodLink "PolicyTree" (211 : Nat) ({ cls := "PolicyTree$Outcome", name := "size", desc := "()I" } : Jvm.MethodName)) ∈ TB := tbk_6 (List.mem_of_getElem? (i := 30) rfl) rfl
theorem wd_6_31 : (Jvm.Cond.instanceMethod ({ cls := "PolicyTree$Outcome", name := "size", desc := "()I" } : Jvm.MethodName)) ∈ TB := tbk_6 (List.mem_of_getElem? (i := 31) rfl) rfl
theorem wd_6_32 : (Jvm.Cond.selects "PolicyTree$Outcome" ({ cls := "PolicyTree$Outcome", name := "size", desc := "()I" } : Jvm.MethodName) ({ cls := "PolicyTree$Outcome", name := "size", desc := "()I" } : Jvm.MethodName)) ∈ TB := tbk_6 (List.mem_of_getElem? (i := 32) rfl) rfl
theorem wd_6_33 : (Jvm.Cond.code ({ cls := "PolicyTree$Outcome", name := "size", desc := "()I" } : Jvm.MethodName) prog_9_method_3_code (1 : Nat) (Option.some Jvm.ClassFile.FieldType.int)) ∈ TB := tbk_6 (List.mem_of_getElem? (i := 33) rfl) rfl
theorem wd_6_34 : (Jvm.Cond.methodLink "PolicyTreeLaw" (167 : Nat) ({ cls := "PolicyTreeLaw", name := "value", desc := "(LPolicyTree;III[J)I" } : Jvm.MethodName)) ∈ TB := tbk_6 (List.mem_of_getElem? (i := 34) rfl) rfl
theorem wd_6_35 : (Jvm.Cond.static ({ cls := "PolicyTreeLaw", name := "value", desc := "(LPolicyTree;III[J)I" } : Jvm.MethodName)) ∈ TB := tbk_6 (List.mem_of_getElem? (i := 35) rfl) rfl
theorem wd_6_36 : (Jvm.Cond.codeWith ({ cls := "PolicyTreeLaw", name := "value", desc := "(LPolicyTree;III[J)I" } : Jvm.MethodName) method_19_code (6 : Nat) (Option.some Jvm.ClassFile.FieldType.int) [((0 : Nat), (12 : Nat), (15 : Nat), (13 : Nat)), ((0 : Nat), (12 : Nat), (19 : Nat), (32 : Nat))]) ∈ TB := tbk_6 (List.mem_of_getElem? (i := 36) rfl) rfl
theorem wd_6_37 : (Jvm.Cond.methodLink "PolicyTreeLaw" (73 : Nat) ({ cls := "PolicyTree", name := "value", desc := "(III)I" } : Jvm.MethodName)) ∈ TB := tbk_6 (List.mem_of_getElem? (i := 37) rfl) rfl
theorem wd_6_38 : (Jvm.Cond.instanceMethod ({ cls := "PolicyTree", name := "value", desc := "(III)I" } : Jvm.MethodName)) ∈ TB := tbk_6 (List.mem_of_getElem? (i := 38) rfl) rfl
theorem wd_6_39 : (Jvm.Cond.selects "PolicyTree" ({ cls := "PolicyTree", name := "value", desc := "(III)I" } : Jvm.MethodName) ({ cls := "PolicyTree", name := "value", desc := "(III)I" } : Jvm.MethodName)) ∈ TB := tbk_6 (List.mem_of_getElem? (i := 39) rfl) rfl
theorem wd_6_40 : (Jvm.Cond.code ({ cls := "PolicyTree", name := "value", desc := "(III)I" } : Jvm.MethodName) prog_1_method_20_code (4 : Nat) (Option.some Jvm.ClassFile.FieldType.int)) ∈ TB := tbk_6 (List.mem_of_getElem? (i := 40) rfl) rfl
theorem wd_6_41 : (Jvm.Cond.methodLink "PolicyTree" (212 : Nat) ({ cls := "PolicyTree$Outcome", name := "valueAt", desc := "(I)I" } : Jvm.MethodName)) ∈ TB := tbk_6 (List.mem_of_getElem? (i := 41) rfl) rfl
theorem wd_6_42 : (Jvm.Cond.methodLink "PolicyTreeLaw" (170 : Nat) ({ cls := "PolicyTreeLaw", name := "reason", desc := "(LPolicyTree;II[J)I" } : Jvm.MethodName)) ∈ TB := tbk_6 (List.mem_of_getElem? (i := 42) rfl) rfl
theorem wd_6_43 : (Jvm.Cond.static ({ cls := "PolicyTreeLaw", name := "reason", desc := "(LPolicyTree;II[J)I" } : Jvm.MethodName)) ∈ TB := tbk_6 (List.mem_of_getElem? (i := 43) rfl) rfl
theorem wd_6_44 : (Jvm.Cond.codeWith ({ cls := "PolicyTreeLaw", name := "reason", desc := "(LPolicyTree;II[J)I" } : Jvm.MethodName) method_20_code (5 : Nat) (Option.some Jvm.ClassFile.FieldType.int) [((0 : Nat), (10 : Nat), (13 : Nat), (13 : Nat)), ((0 : Nat), (10 : Nat), (17 : Nat), (32 : Nat))]) ∈ TB := tbk_6 (List.mem_of_getElem? (i := 44) rfl) rfl
theorem wd_6_45 : (Jvm.Cond.methodLink "PolicyTreeLaw" (76 : Nat) ({ cls := "PolicyTree", name := "reason", desc := "(II)I" } : Jvm.MethodName)) ∈ TB := tbk_6 (List.mem_of_getElem? (i := 45) rfl) rfl
theorem wd_6_46 : (Jvm.Cond.instanceMethod ({ cls := "PolicyTree", name := "reason", desc := "(II)I" } : Jvm.MethodName)) ∈ TB := tbk_6 (List.mem_of_getElem? (i := 46) rfl) rfl
theorem wd_6_47 : (Jvm.Cond.selects "PolicyTree" ({ cls := "PolicyTree", name := "reason", desc := "(II)I" } : Jvm.MethodName) ({ cls := "PolicyTree", name := "reason", desc := "(II)I" } : Jvm.MethodName)) ∈ TB := tbk_6 (List.mem_of_getElem? (i := 47) rfl) rfl
theorem wd_6_48 : (Jvm.Cond.code ({ cls := "PolicyTree", name := "reason", desc := "(II)I" } : Jvm.MethodName) prog_1_method_21_code (4 : Nat) (Option.some Jvm.ClassFile.FieldType.int)) ∈ TB := tbk_6 (List.mem_of_getElem? (i := 48) rfl) rfl
theorem wd_6_49 : (Jvm.Cond.methodLink "PolicyTree" (215 : Nat) ({ cls := "PolicyTree$Outcome", name := "teller", desc := "()LPolicyTree$Link;" } : Jvm.MethodName)) ∈ TB := tbk_6 (List.mem_of_getElem? (i := 49) rfl) rfl
theorem wd_6_50 : (Jvm.Cond.instanceMethod ({ cls := "PolicyTree$Outcome", name := "teller", desc := "()LPolicyTree$Link;" } : Jvm.MethodName)) ∈ TB := tbk_6 (List.mem_of_getElem? (i := 50) rfl) rfl
theorem wd_6_51 : (Jvm.Cond.selects "PolicyTree$Outcome" ({ cls := "PolicyTree$Outcome", name := "teller", desc := "()LPolicyTree$Link;" } : Jvm.MethodName) ({ cls := "PolicyTree$Outcome", name := "teller", desc := "()LPolicyTree$Link;" } : Jvm.MethodName)) ∈ TB := tbk_6 (List.mem_of_getElem? (i := 51) rfl) rfl
theorem wd_6_52 : (Jvm.Cond.code ({ cls := "PolicyTree$Outcome", name := "teller", desc := "()LPolicyTree$Link;" } : Jvm.MethodName) prog_9_method_4_code (1 : Nat) (Option.some (Jvm.ClassFile.FieldType.object "PolicyTree$Link"))) ∈ TB := tbk_6 (List.mem_of_getElem? (i := 52) rfl) rfl
theorem wd_6_53 : (Jvm.Cond.methodLink "PolicyTreeLaw" (173 : Nat) ({ cls := "PolicyTreeLaw", name := "beaten", desc := "(LPolicyTree;III[J)I" } : Jvm.MethodName)) ∈ TB := tbk_6 (List.mem_of_getElem? (i := 53) rfl) rfl
theorem wd_6_54 : (Jvm.Cond.static ({ cls := "PolicyTreeLaw", name := "beaten", desc := "(LPolicyTree;III[J)I" } : Jvm.MethodName)) ∈ TB := tbk_6 (List.mem_of_getElem? (i := 54) rfl) rfl
theorem wd_6_55 : (Jvm.Cond.codeWith ({ cls := "PolicyTreeLaw", name := "beaten", desc := "(LPolicyTree;III[J)I" } : Jvm.MethodName) method_21_code (6 : Nat) (Option.some Jvm.ClassFile.FieldType.int) [((0 : Nat), (12 : Nat), (15 : Nat), (13 : Nat)), ((0 : Nat), (12 : Nat), (19 : Nat), (32 : Nat))]) ∈ TB := tbk_6 (List.mem_of_getElem? (i := 55) rfl) rfl
theorem wd_6_56 : (Jvm.Cond.methodLink "PolicyTreeLaw" (79 : Nat) ({ cls := "PolicyTree", name := "beaten", desc := "(III)I" } : Jvm.MethodName)) ∈ TB := tbk_6 (List.mem_of_getElem? (i := 56) rfl) rfl
theorem wd_6_57 : (Jvm.Cond.instanceMethod ({ cls := "PolicyTree", name := "beaten", desc := "(III)I" } : Jvm.MethodName)) ∈ TB := tbk_6 (List.mem_of_getElem? (i := 57) rfl) rfl
theorem wd_6_58 : (Jvm.Cond.selects "PolicyTree" ({ cls := "PolicyTree", name := "beaten", desc := "(III)I" } : Jvm.MethodName) ({ cls := "PolicyTree", name := "beaten", desc := "(III)I" } : Jvm.MethodName)) ∈ TB := tbk_6 (List.mem_of_getElem? (i := 58) rfl) rfl
theorem wd_6_59 : (Jvm.Cond.code ({ cls := "PolicyTree", name := "beaten", desc := "(III)I" } : Jvm.MethodName) prog_1_method_22_code (7 : Nat) (Option.some Jvm.ClassFile.FieldType.int)) ∈ TB := tbk_6 (List.mem_of_getElem? (i := 59) rfl) rfl
theorem wd_6_60 : (Jvm.Cond.methodLink "PolicyTree" (219 : Nat) ({ cls := "PolicyTree$Row", name := "size", desc := "()I" } : Jvm.MethodName)) ∈ TB := tbk_6 (List.mem_of_getElem? (i := 60) rfl) rfl
theorem wd_6_61 : (Jvm.Cond.methodLink "PolicyTree" (220 : Nat) ({ cls := "PolicyTree$Row", name := "linkAt", desc := "(I)LPolicyTree$Link;" } : Jvm.MethodName)) ∈ TB := tbk_6 (List.mem_of_getElem? (i := 61) rfl) rfl
theorem wd_6_62 : (Jvm.Cond.methodLink "PolicyTree" (224 : Nat) ({ cls := "PolicyTree$Row", name := "holds", desc := "(II)Z" } : Jvm.MethodName)) ∈ TB := tbk_6 (List.mem_of_getElem? (i := 62) rfl) rfl
theorem wd_6_63 : (Jvm.Cond.methodLink "PolicyTreeLaw" (176 : Nat) ({ cls := "PolicyTreeLaw", name := "sure", desc := "(LPolicyTree;II[J)I" } : Jvm.MethodName)) ∈ TB := tbk_6 (List.mem_of_getElem? (i := 63) rfl) rfl
theorem wd_6_64 : (Jvm.Cond.static ({ cls := "PolicyTreeLaw", name := "sure", desc := "(LPolicyTree;II[J)I" } : Jvm.MethodName)) ∈ TB := tbk_6 (List.mem_of_getElem? (i := 64) rfl) rfl
theorem wd_6_65 : (Jvm.Cond.codeWith ({ cls := "PolicyTreeLaw", name := "sure", desc := "(LPolicyTree;II[J)I" } : Jvm.MethodName) method_22_code (5 : Nat) (Option.some Jvm.ClassFile.FieldType.int) [((0 : Nat), (17 : Nat), (20 : Nat), (13 : Nat)), ((0 : Nat), (17 : Nat), (24 : Nat), (32 : Nat))]) ∈ TB := tbk_6 (List.mem_of_getElem? (i := 65) rfl) rfl
theorem wd_6_66 : (Jvm.Cond.methodLink "PolicyTreeLaw" (82 : Nat) ({ cls := "PolicyTree", name := "sure", desc := "(II)Z" } : Jvm.MethodName)) ∈ TB := tbk_6 (List.mem_of_getElem? (i := 66) rfl) rfl
theorem wd_6_67 : (Jvm.Cond.instanceMethod ({ cls := "PolicyTree", name := "sure", desc := "(II)Z" } : Jvm.MethodName)) ∈ TB := tbk_6 (List.mem_of_getElem? (i := 67) rfl) rfl
theorem wd_6_68 : (Jvm.Cond.selects "PolicyTree" ({ cls := "PolicyTree", name := "sure", desc := "(II)Z" } : Jvm.MethodName) ({ cls := "PolicyTree", name := "sure", desc := "(II)Z" } : Jvm.MethodName)) ∈ TB := tbk_6 (List.mem_of_getElem? (i := 68) rfl) rfl
theorem wd_6_69 : (Jvm.Cond.code ({ cls := "PolicyTree", name := "sure", desc := "(II)Z" } : Jvm.MethodName) prog_1_method_23_code (5 : Nat) (Option.some Jvm.ClassFile.FieldType.boolean)) ∈ TB := tbk_6 (List.mem_of_getElem? (i := 69) rfl) rfl
theorem wd_6_70 : (Jvm.Cond.methodLink "PolicyTree" (227 : Nat) ({ cls := "PolicyTree$Row", name := "doubtedFacts", desc := "()I" } : Jvm.MethodName)) ∈ TB := tbk_6 (List.mem_of_getElem? (i := 70) rfl) rfl
theorem wd_6_71 : (Jvm.Cond.instanceMethod ({ cls := "PolicyTree$Row", name := "doubtedFacts", desc := "()I" } : Jvm.MethodName)) ∈ TB := tbk_6 (List.mem_of_getElem? (i := 71) rfl) rfl
theorem wd_6_72 : (Jvm.Cond.selects "PolicyTree$Row" ({ cls := "PolicyTree$Row", name := "doubtedFacts", desc := "()I" } : Jvm.MethodName) ({ cls := "PolicyTree$Row", name := "doubtedFacts", desc := "()I" } : Jvm.MethodName)) ∈ TB := tbk_6 (List.mem_of_getElem? (i := 72) rfl) rfl
theorem wd_6_73 : (Jvm.Cond.code ({ cls := "PolicyTree$Row", name := "doubtedFacts", desc := "()I" } : Jvm.MethodName) prog_10_method_7_code (3 : Nat) (Option.some Jvm.ClassFile.FieldType.int)) ∈ TB := tbk_6 (List.mem_of_getElem? (i := 73) rfl) rfl
theorem wd_6_74 : (Jvm.Cond.methodLink "PolicyTree$Row" (89 : Nat) ({ cls := "PolicyTree$Filter", name := "mentionedFacts", desc := "()I" } : Jvm.MethodName)) ∈ TB := tbk_6 (List.mem_of_getElem? (i := 74) rfl) rfl
theorem wd_6_75 : (Jvm.Cond.instanceMethod ({ cls := "PolicyTree$Filter", name := "mentionedFacts", desc := "()I" } : Jvm.MethodName)) ∈ TB := tbk_6 (List.mem_of_getElem? (i := 75) rfl) rfl
theorem wd_6_76 : (Jvm.Cond.selects "PolicyTree$Filter" ({ cls := "PolicyTree$Filter", name := "mentionedFacts", desc := "()I" } : Jvm.MethodName) ({ cls := "PolicyTree$Filter", name := "mentionedFacts", desc := "()I" } : Jvm.MethodName)) ∈ TB := tbk_6 (List.mem_of_getElem? (i := 76) rfl) rfl
theorem wd_6_77 : (Jvm.Cond.code ({ cls := "PolicyTree$Filter", name := "mentionedFacts", desc := "()I" } : Jvm.MethodName) prog_3_method_2_code (3 : Nat) (Option.some Jvm.ClassFile.FieldType.int)) ∈ TB := tbk_6 (List.mem_of_getElem? (i := 77) rfl) rfl
theorem wd_6_78 : (Jvm.Cond.methodLink "PolicyTree$Row" (92 : Nat) ({ cls := "PolicyTree$Standing", name := "knownFacts", desc := "()I" } : Jvm.MethodName)) ∈ TB := tbk_6 (List.mem_of_getElem? (i := 78) rfl) rfl
theorem wd_6_79 : (Jvm.Cond.instanceMethod ({ cls := "PolicyTree$Standing", name := "knownFacts", desc := "()I" } : Jvm.MethodName)) ∈ TB := tbk_6 (List.mem_of_getElem? (i := 79) rfl) rfl
theorem wd_6_80 : (Jvm.Cond.selects "PolicyTree$Standing" ({ cls := "PolicyTree$Standing", name := "knownFacts", desc := "()I" } : Jvm.MethodName) ({ cls := "PolicyTree$Standing", name := "knownFacts", desc := "()I" } : Jvm.MethodName)) ∈ TB := tbk_6 (List.mem_of_getElem? (i := 80) rfl) rfl
theorem wd_6_81 : (Jvm.Cond.code ({ cls := "PolicyTree$Standing", name := "knownFacts", desc := "()I" } : Jvm.MethodName) prog_11_method_4_code (1 : Nat) (Option.some Jvm.ClassFile.FieldType.int)) ∈ TB := tbk_6 (List.mem_of_getElem? (i := 81) rfl) rfl
theorem wd_6_82 : (Jvm.Cond.methodLink "PolicyTree" (235 : Nat) ({ cls := "PolicyTree", name := "isSameInLane", desc := "(II)Z" } : Jvm.MethodName)) ∈ TB := tbk_6 (List.mem_of_getElem? (i := 82) rfl) rfl
theorem wd_6_84 : (Jvm.Cond.instanceMethod ({ cls := "PolicyTree", name := "isSameInLane", desc := "(II)Z" } : Jvm.MethodName)) ∈ TB := tbk_6 (List.mem_of_getElem? (i := 84) rfl) rfl
theorem wd_6_85 : (Jvm.Cond.code ({ cls := "PolicyTree", name := "isSameInLane", desc := "(II)Z" } : Jvm.MethodName) prog_1_method_33_code (4 : Nat) (Option.some Jvm.ClassFile.FieldType.boolean)) ∈ TB := tbk_6 (List.mem_of_getElem? (i := 85) rfl) rfl
theorem wd_6_86 : (Jvm.Cond.methodLink "PolicyTreeLaw" (179 : Nat) ({ cls := "PolicyTreeLaw", name := "reach", desc := "(LPolicyTree;I[J)I" } : Jvm.MethodName)) ∈ TB := tbk_6 (List.mem_of_getElem? (i := 86) rfl) rfl
theorem wd_6_87 : (Jvm.Cond.static ({ cls := "PolicyTreeLaw", name := "reach", desc := "(LPolicyTree;I[J)I" } : Jvm.MethodName)) ∈ TB := tbk_6 (List.mem_of_getElem? (i := 87) rfl) rfl
theorem wd_6_88 : (Jvm.Cond.codeWith ({ cls := "PolicyTreeLaw", name := "reach", desc := "(LPolicyTree;I[J)I" } : Jvm.MethodName) method_23_code (4 : Nat) (Option.some Jvm.ClassFile.FieldType.int) [((0 : Nat), (9 : Nat), (12 : Nat), (13 : Nat))]) ∈ TB := tbk_6 (List.mem_of_getElem? (i := 88) rfl) rfl
theorem wd_6_89 : (Jvm.Cond.methodLink "PolicyTreeLaw" (85 : Nat) ({ cls := "PolicyTree", name := "reach", desc := "(I)I" } : Jvm.MethodName)) ∈ TB := tbk_6 (List.mem_of_getElem? (i := 89) rfl) rfl
theorem wd_6_90 : (Jvm.Cond.instanceMethod ({ cls := "PolicyTree", name := "reach", desc := "(I)I" } : Jvm.MethodName)) ∈ TB := tbk_6 (List.mem_of_getElem? (i := 90) rfl) rfl
theorem wd_6_91 : (Jvm.Cond.selects "PolicyTree" ({ cls := "PolicyTree", name := "reach", desc := "(I)I" } : Jvm.MethodName) ({ cls := "PolicyTree", name := "reach", desc := "(I)I" } : Jvm.MethodName)) ∈ TB := tbk_6 (List.mem_of_getElem? (i := 91) rfl) rfl
theorem wd_6_92 : (Jvm.Cond.code ({ cls := "PolicyTree", name := "reach", desc := "(I)I" } : Jvm.MethodName) prog_1_method_24_code (2 : Nat) (Option.some Jvm.ClassFile.FieldType.int)) ∈ TB := tbk_6 (List.mem_of_getElem? (i := 92) rfl) rfl
theorem wd_6_93 : (Jvm.Cond.methodLink "PolicyTree" (238 : Nat) ({ cls := "PolicyTree", name := "listReach", desc := "(LPolicyTree$Link;)I" } : Jvm.MethodName)) ∈ TB := tbk_6 (List.mem_of_getElem? (i := 93) rfl) rfl
theorem wd_6_95 : (Jvm.Cond.instanceMethod ({ cls := "PolicyTree", name := "listReach", desc := "(LPolicyTree$Link;)I" } : Jvm.MethodName)) ∈ TB := tbk_6 (List.mem_of_getElem? (i := 95) rfl) rfl
theorem wd_6_96 : (Jvm.Cond.code ({ cls := "PolicyTree", name := "listReach", desc := "(LPolicyTree$Link;)I" } : Jvm.MethodName) prog_1_method_35_code (5 : Nat) (Option.some Jvm.ClassFile.FieldType.int)) ∈ TB := tbk_6 (List.mem_of_getElem? (i := 96) rfl) rfl
theorem wd_6_97 : (Jvm.Cond.methodLink "PolicyTree" (282 : Nat) ({ cls := "PolicyTree$Bundle", name := "toldSettings", desc := "()I" } : Jvm.MethodName)) ∈ TB := tbk_6 (List.mem_of_getElem? (i := 97) rfl) rfl
theorem wd_6_98 : (Jvm.Cond.methodLink "PolicyTree" (285 : Nat) ({ cls := "PolicyTree", name := "addReach", desc := "(LPolicyTree$Link;II)I" } : Jvm.MethodName)) ∈ TB := tbk_6 (List.mem_of_getElem? (i := 98) rfl) rfl
theorem wd_6_100 : (Jvm.Cond.instanceMethod ({ cls := "PolicyTree", name := "addReach", desc := "(LPolicyTree$Link;II)I" } : Jvm.MethodName)) ∈ TB := tbk_6 (List.mem_of_getElem? (i := 100) rfl) rfl
theorem wd_6_101 : (Jvm.Cond.code ({ cls := "PolicyTree", name := "addReach", desc := "(LPolicyTree$Link;II)I" } : Jvm.MethodName) prog_1_method_36_code (6 : Nat) (Option.some Jvm.ClassFile.FieldType.int)) ∈ TB := tbk_6 (List.mem_of_getElem? (i := 101) rfl) rfl
theorem wd_6_102 : (Jvm.Cond.methodLink "PolicyTree" (289 : Nat) ({ cls := "PolicyTree$Bundle", name := "tells", desc := "(I)Z" } : Jvm.MethodName)) ∈ TB := tbk_6 (List.mem_of_getElem? (i := 102) rfl) rfl
theorem wd_6_103 : (Jvm.Cond.methodLink "PolicyTreeLaw" (182 : Nat) ({ cls := "PolicyTreeLaw", name := "reached", desc := "(LPolicyTree;III[J)I" } : Jvm.MethodName)) ∈ TB := tbk_6 (List.mem_of_getElem? (i := 103) rfl) rfl
theorem wd_6_104 : (Jvm.Cond.static ({ cls := "PolicyTreeLaw", name := "reached", desc := "(LPolicyTree;III[J)I" } : Jvm.MethodName)) ∈ TB := tbk_6 (List.mem_of_getElem? (i := 104) rfl) rfl
theorem wd_6_105 : (Jvm.Cond.codeWith ({ cls := "PolicyTreeLaw", name := "reached", desc := "(LPolicyTree;III[J)I" } : Jvm.MethodName) method_24_code (6 : Nat) (Option.some Jvm.ClassFile.FieldType.int) [((0 : Nat), (12 : Nat), (15 : Nat), (13 : Nat)), ((0 : Nat), (12 : Nat), (19 : Nat), (32 : Nat))]) ∈ TB := tbk_6 (List.mem_of_getElem? (i := 105) rfl) rfl
theorem wd_6_106 : (Jvm.Cond.methodLink "PolicyTreeLaw" (88 : Nat) ({ cls := "PolicyTree", name := "reached", desc := "(III)I" } : Jvm.MethodName)) ∈ TB := tbk_6 (List.mem_of_getElem? (i := 106) rfl) rfl
theorem wd_6_107 : (Jvm.Cond.instanceMethod ({ cls := "PolicyTree", name := "reached", desc := "(III)I" } : Jvm.MethodName)) ∈ TB := tbk_6 (List.mem_of_getElem? (i := 107) rfl) rfl
theorem wd_6_108 : (Jvm.Cond.selects "PolicyTree" ({ cls := "PolicyTree", name := "reached", desc := "(III)I" } : Jvm.MethodName) ({ cls := "PolicyTree", name := "reached", desc := "(III)I" } : Jvm.MethodName)) ∈ TB := tbk_6 (List.mem_of_getElem? (i := 108) rfl) rfl
theorem wd_6_109 : (Jvm.Cond.code ({ cls := "PolicyTree", name := "reached", desc := "(III)I" } : Jvm.MethodName) prog_1_method_25_code (5 : Nat) (Option.some Jvm.ClassFile.FieldType.int)) ∈ TB := tbk_6 (List.mem_of_getElem? (i := 109) rfl) rfl
theorem wd_6_110 : (Jvm.Cond.methodLink "PolicyTreeLaw" (189 : Nat) ({ cls := "PolicyTreeLaw", name := "quarrel", desc := "(LPolicyTree;II[J)I" } : Jvm.MethodName)) ∈ TB := tbk_6 (List.mem_of_getElem? (i := 110) rfl) rfl
theorem wd_6_111 : (Jvm.Cond.static ({ cls := "PolicyTreeLaw", name := "quarrel", desc := "(LPolicyTree;II[J)I" } : Jvm.MethodName)) ∈ TB := tbk_6 (List.mem_of_getElem? (i := 111) rfl) rfl
theorem wd_6_112 : (Jvm.Cond.codeWith ({ cls := "PolicyTreeLaw", name := "quarrel", desc := "(LPolicyTree;II[J)I" } : Jvm.MethodName) method_25_code (5 : Nat) (Option.some Jvm.ClassFile.FieldType.int) [((0 : Nat), (10 : Nat), (13 : Nat), (32 : Nat))]) ∈ TB := tbk_6 (List.mem_of_getElem? (i := 112) rfl) rfl
theorem wd_6_113 : (Jvm.Cond.methodLink "PolicyTreeLaw" (91 : Nat) ({ cls := "PolicyTree", name := "quarrel", desc := "(II)I" } : Jvm.MethodName)) ∈ TB := tbk_6 (List.mem_of_getElem? (i := 113) rfl) rfl
theorem wd_6_114 : (Jvm.Cond.instanceMethod ({ cls := "PolicyTree", name := "quarrel", desc := "(II)I" } : Jvm.MethodName)) ∈ TB := tbk_6 (List.mem_of_getElem? (i := 114) rfl) rfl
theorem wd_6_115 : (Jvm.Cond.selects "PolicyTree" ({ cls := "PolicyTree", name := "quarrel", desc := "(II)I" } : Jvm.MethodName) ({ cls := "PolicyTree", name := "quarrel", desc := "(II)I" } : Jvm.MethodName)) ∈ TB := tbk_6 (List.mem_of_getElem? (i := 115) rfl) rfl
theorem wd_6_116 : (Jvm.Cond.code ({ cls := "PolicyTree", name := "quarrel", desc := "(II)I" } : Jvm.MethodName) prog_1_method_27_code (7 : Nat) (Option.some Jvm.ClassFile.FieldType.int)) ∈ TB := tbk_6 (List.mem_of_getElem? (i := 116) rfl) rfl
theorem wd_6_117 : (Jvm.Cond.methodLink "PolicyTree" (249 : Nat) ({ cls := "PolicyTree", name := "findQuarreller", desc := "(III)I" } : Jvm.MethodName)) ∈ TB := tbk_6 (List.mem_of_getElem? (i := 117) rfl) rfl
theorem wd_6_119 : (Jvm.Cond.instanceMethod ({ cls := "PolicyTree", name := "findQuarreller", desc := "(III)I" } : Jvm.MethodName)) ∈ TB := tbk_6 (List.mem_of_getElem? (i := 119) rfl) rfl
theorem wd_6_120 : (Jvm.Cond.code ({ cls := "PolicyTree", name := "findQuarreller", desc := "(III)I" } : Jvm.MethodName) prog_1_method_39_code (7 : Nat) (Option.some Jvm.ClassFile.FieldType.int)) ∈ TB := tbk_6 (List.mem_of_getElem? (i := 120) rfl) rfl
theorem wd_6_121 : (Jvm.Cond.classLink "PolicyTreeLaw" (95 : Nat) "PolicyTreeModel") ∈ TB := tbk_6 (List.mem_of_getElem? (i := 121) rfl) rfl
theorem wd_6_122 : (Jvm.Cond.instantiable "PolicyTreeModel" (47 : Nat)) ∈ TB := tbk_6 (List.mem_of_getElem? (i := 122) rfl) rfl
theorem wd_6_123 : (Jvm.Cond.methodLink "PolicyTreeLaw" (97 : Nat) ({ cls := "PolicyTreeModel", name := "<init>", desc := "()V" } : Jvm.MethodName)) ∈ TB := tbk_6 (List.mem_of_getElem? (i := 123) rfl) rfl
theorem wd_6_124 : (Jvm.Cond.instanceMethod ({ cls := "PolicyTreeModel", name := "<init>", desc := "()V" } : Jvm.MethodName)) ∈ TB := tbk_6 (List.mem_of_getElem? (i := 124) rfl) rfl
theorem wd_6_125 : (Jvm.Cond.code ({ cls := "PolicyTreeModel", name := "<init>", desc := "()V" } : Jvm.MethodName) prog_14_method_1_code (1 : Nat) (Option.none : Option Jvm.ClassFile.FieldType)) ∈ TB := tbk_6 (List.mem_of_getElem? (i := 125) rfl) rfl
theorem wd_6_126 : (Jvm.Cond.methodLink "PolicyTreeModel" (1 : Nat) ({ cls := "java/lang/Object", name := "<init>", desc := "()V" } : Jvm.MethodName)) ∈ TB := tbk_6 (List.mem_of_getElem? (i := 126) rfl) rfl
theorem wd_6_127 : (Jvm.Cond.fieldLink "PolicyTreeModel" (97 : Nat) "PolicyTreeModel" "thrown" "I") ∈ TB := tbk_6 (List.mem_of_getElem? (i := 127) rfl) rfl
theorem wd_6_128 : (Jvm.Cond.fieldLink "PolicyTreeModel" (9 : Nat) "PolicyTreeModel" "above" "[I") ∈ TB := tbk_6 (List.mem_of_getElem? (i := 128) rfl) rfl
theorem wd_6_129 : (Jvm.Cond.fieldLink "PolicyTreeModel" (13 : Nat) "PolicyTreeModel" "isBlocked" "[Z") ∈ TB := tbk_6 (List.mem_of_getElem? (i := 129) rfl) rfl
theorem wd_6_130 : (Jvm.Cond.fieldLink "PolicyTreeModel" (94 : Nat) "PolicyTreeModel" "nodes" "I") ∈ TB := tbk_6 (List.mem_of_getElem? (i := 130) rfl) rfl
theorem wd_6_131 : (Jvm.Cond.fieldLink "PolicyTreeModel" (17 : Nat) "PolicyTreeModel" "nodeOf" "[I") ∈ TB := tbk_6 (List.mem_of_getElem? (i := 131) rfl) rfl
theorem wd_6_132 : (Jvm.Cond.fieldLink "PolicyTreeModel" (20 : Nat) "PolicyTreeModel" "facts" "[I") ∈ TB := tbk_6 (List.mem_of_getElem? (i := 132) rfl) rfl
theorem wd_6_133 : (Jvm.Cond.fieldLink "PolicyTreeModel" (23 : Nat) "PolicyTreeModel" "inGroups" "[I") ∈ TB := tbk_6 (List.mem_of_getElem? (i := 133) rfl) rfl
theorem wd_6_134 : (Jvm.Cond.fieldLink "PolicyTreeModel" (108 : Nat) "PolicyTreeModel" "machines" "I") ∈ TB := tbk_6 (List.mem_of_getElem? (i := 134) rfl) rfl
theorem wd_6_135 : (Jvm.Cond.fieldLink "PolicyTreeModel" (26 : Nat) "PolicyTreeModel" "within" "[I") ∈ TB := tbk_6 (List.mem_of_getElem? (i := 135) rfl) rfl
theorem wd_6_136 : (Jvm.Cond.fieldLink "PolicyTreeModel" (111 : Nat) "PolicyTreeModel" "groups" "I") ∈ TB := tbk_6 (List.mem_of_getElem? (i := 136) rfl) rfl
theorem wd_6_137 : (Jvm.Cond.fieldLink "PolicyTreeModel" (29 : Nat) "PolicyTreeModel" "told" "[I") ∈ TB := tbk_6 (List.mem_of_getElem? (i := 137) rfl) rfl
theorem wd_6_138 : (Jvm.Cond.fieldLink "PolicyTreeModel" (32 : Nat) "PolicyTreeModel" "values" "[I") ∈ TB := tbk_6 (List.mem_of_getElem? (i := 138) rfl) rfl
theorem wd_6_139 : (Jvm.Cond.fieldLink "PolicyTreeModel" (118 : Nat) "PolicyTreeModel" "sets" "I") ∈ TB := tbk_6 (List.mem_of_getElem? (i := 139) rfl) rfl
theorem wd_6_140 : (Jvm.Cond.fieldLink "PolicyTreeModel" (35 : Nat) "PolicyTreeModel" "laws" "[I") ∈ TB := tbk_6 (List.mem_of_getElem? (i := 140) rfl) rfl
theorem wd_6_141 : (Jvm.Cond.fieldLink "PolicyTreeModel" (38 : Nat) "PolicyTreeModel" "tape" "[B") ∈ TB := tbk_6 (List.mem_of_getElem? (i := 141) rfl) rfl
theorem wd_6_142 : (Jvm.Cond.fieldLink "PolicyTreeModel" (128 : Nat) "PolicyTreeModel" "taped" "I") ∈ TB := tbk_6 (List.mem_of_getElem? (i := 142) rfl) rfl
theorem wd_6_143 : (Jvm.Cond.fieldLink "PolicyTreeModel" (131 : Nat) "PolicyTreeModel" "size" "I") ∈ TB := tbk_6 (List.mem_of_getElem? (i := 143) rfl) rfl
theorem wd_6_144 : (Jvm.Cond.fieldLink "PolicyTreeModel" (134 : Nat) "PolicyTreeModel" "at" "I") ∈ TB := tbk_6 (List.mem_of_getElem? (i := 144) rfl) rfl
theorem wd_6_145 : (Jvm.Cond.fieldLink "PolicyTreeModel" (140 : Nat) "PolicyTreeModel" "fault" "I") ∈ TB := tbk_6 (List.mem_of_getElem? (i := 145) rfl) rfl
theorem wd_6_146 : (Jvm.Cond.fieldLink "PolicyTreeModel" (42 : Nat) "PolicyTreeModel" "place" "I") ∈ TB := tbk_6 (List.mem_of_getElem? (i := 146) rfl) rfl
theorem wd_6_147 : (Jvm.Cond.fieldLink "PolicyTreeModel" (180 : Nat) "PolicyTreeModel" "open" "I") ∈ TB := tbk_6 (List.mem_of_getElem? (i := 147) rfl) rfl
theorem wd_6_148 : (Jvm.Cond.fieldLink "PolicyTreeModel" (46 : Nat) "PolicyTreeModel" "code" "[I") ∈ TB := tbk_6 (List.mem_of_getElem? (i := 148) rfl) rfl
theorem wd_6_149 : (Jvm.Cond.fieldLink "PolicyTreeModel" (160 : Nat) "PolicyTreeModel" "codes" "I") ∈ TB := tbk_6 (List.mem_of_getElem? (i := 149) rfl) rfl
theorem wd_6_150 : (Jvm.Cond.fieldLink "PolicyTreeModel" (49 : Nat) "PolicyTreeModel" "pile" "[Z") ∈ TB := tbk_6 (List.mem_of_getElem? (i := 150) rfl) rfl
theorem wd_6_151 : (Jvm.Cond.fieldLink "PolicyTreeModel" (52 : Nat) "PolicyTreeModel" "linkNode" "[I") ∈ TB := tbk_6 (List.mem_of_getElem? (i := 151) rfl) rfl
theorem wd_6_152 : (Jvm.Cond.fieldLink "PolicyTreeModel" (55 : Nat) "PolicyTreeModel" "linkSet" "[I") ∈ TB := tbk_6 (List.mem_of_getElem? (i := 152) rfl) rfl
theorem wd_6_153 : (Jvm.Cond.fieldLink "PolicyTreeModel" (58 : Nat) "PolicyTreeModel" "linkOrder" "[I") ∈ TB := tbk_6 (List.mem_of_getElem? (i := 153) rfl) rfl
theorem wd_6_154 : (Jvm.Cond.fieldLink "PolicyTreeModel" (61 : Nat) "PolicyTreeModel" "isForced" "[Z") ∈ TB := tbk_6 (List.mem_of_getElem? (i := 154) rfl) rfl
theorem wd_6_155 : (Jvm.Cond.fieldLink "PolicyTreeModel" (64 : Nat) "PolicyTreeModel" "hasEnded" "[Z") ∈ TB := tbk_6 (List.mem_of_getElem? (i := 155) rfl) rfl
theorem wd_6_156 : (Jvm.Cond.fieldLink "PolicyTreeModel" (67 : Nat) "PolicyTreeModel" "from" "[I") ∈ TB := tbk_6 (List.mem_of_getElem? (i := 156) rfl) rfl
theorem wd_6_157 : (Jvm.Cond.fieldLink "PolicyTreeModel" (70 : Nat) "PolicyTreeModel" "to" "[I") ∈ TB := tbk_6 (List.mem_of_getElem? (i := 157) rfl) rfl
theorem wd_6_158 : (Jvm.Cond.fieldLink "PolicyTreeModel" (73 : Nat) "PolicyTreeModel" "sorted" "[I") ∈ TB := tbk_6 (List.mem_of_getElem? (i := 158) rfl) rfl
theorem wd_6_159 : (Jvm.Cond.fieldLink "PolicyTreeModel" (205 : Nat) "PolicyTreeModel" "links" "I") ∈ TB := tbk_6 (List.mem_of_getElem? (i := 159) rfl) rfl
theorem wd_6_160 : (Jvm.Cond.fieldLink "PolicyTreeModel" (76 : Nat) "PolicyTreeModel" "below" "[I") ∈ TB := tbk_6 (List.mem_of_getElem? (i := 160) rfl) rfl
theorem wd_6_161 : (Jvm.Cond.fieldLink "PolicyTreeModel" (79 : Nat) "PolicyTreeModel" "way" "[I") ∈ TB := tbk_6 (List.mem_of_getElem? (i := 161) rfl) rfl
theorem wd_6_162 : (Jvm.Cond.fieldLink "PolicyTreeModel" (82 : Nat) "PolicyTreeModel" "row" "[I") ∈ TB := tbk_6 (List.mem_of_getElem? (i := 162) rfl) rfl
theorem wd_6_163 : (Jvm.Cond.fieldLink "PolicyTreeModel" (215 : Nat) "PolicyTreeModel" "rows" "I") ∈ TB := tbk_6 (List.mem_of_getElem? (i := 163) rfl) rfl
theorem wd_6_164 : (Jvm.Cond.fieldLink "PolicyTreeModel" (85 : Nat) "PolicyTreeModel" "got" "[I") ∈ TB := tbk_6 (List.mem_of_getElem? (i := 164) rfl) rfl
theorem wd_6_165 : (Jvm.Cond.fieldLink "PolicyTreeModel" (222 : Nat) "PolicyTreeModel" "gots" "I") ∈ TB := tbk_6 (List.mem_of_getElem? (i := 165) rfl) rfl
theorem wd_6_166 : (Jvm.Cond.fieldLink "PolicyTreeModel" (225 : Nat) "PolicyTreeModel" "reason" "I") ∈ TB := tbk_6 (List.mem_of_getElem? (i := 166) rfl) rfl
theorem wd_6_167 : (Jvm.Cond.fieldLink "PolicyTreeModel" (88 : Nat) "PolicyTreeModel" "kept" "[I") ∈ TB := tbk_6 (List.mem_of_getElem? (i := 167) rfl) rfl
theorem wd_6_168 : (Jvm.Cond.fieldLink "PolicyTreeModel" (248 : Nat) "PolicyTreeModel" "keeps" "I") ∈ TB := tbk_6 (List.mem_of_getElem? (i := 168) rfl) rfl
theorem wd_6_169 : (Jvm.Cond.fieldLink "PolicyTreeModel" (257 : Nat) "PolicyTreeModel" "pairMachine" "I") ∈ TB := tbk_6 (List.mem_of_getElem? (i := 169) rfl) rfl
theorem wd_6_170 : (Jvm.Cond.fieldLink "PolicyTreeModel" (260 : Nat) "PolicyTreeModel" "pairSetting" "I") ∈ TB := tbk_6 (List.mem_of_getElem? (i := 170) rfl) rfl
theorem wd_6_171 : (Jvm.Cond.fieldLink "PolicyTreeModel" (91 : Nat) "PolicyTreeModel" "was" "[I") ∈ TB := tbk_6 (List.mem_of_getElem? (i := 171) rfl) rfl
theorem wd_6_172 : (Jvm.Cond.fieldLink "PolicyTreeModel" (270 : Nat) "PolicyTreeModel" "one" "I") ∈ TB := tbk_6 (List.mem_of_getElem? (i := 172) rfl) rfl
theorem wd_6_173 : (Jvm.Cond.fieldLink "PolicyTreeModel" (272 : Nat) "PolicyTreeModel" "other" "I") ∈ TB := tbk_6 (List.mem_of_getElem? (i := 173) rfl) rfl
theorem wd_6_174 : (Jvm.Cond.lays "PolicyTreeModel" "PolicyTreeModel" "thrown" "I") ∈ TB := tbk_6 (List.mem_of_getElem? (i := 174) rfl) rfl
theorem wd_6_176 : (Jvm.Cond.laysFinal "PolicyTreeModel" "PolicyTreeModel" "above" "[I") ∈ TB := tbk_6 (List.mem_of_getElem? (i := 176) rfl) rfl
theorem wd_6_178 : (Jvm.Cond.laysFinal "PolicyTreeModel" "PolicyTreeModel" "isBlocked" "[Z") ∈ TB := tbk_6 (List.mem_of_getElem? (i := 178) rfl) rfl
theorem wd_6_180 : (Jvm.Cond.lays "PolicyTreeModel" "PolicyTreeModel" "nodes" "I") ∈ TB := tbk_6 (List.mem_of_getElem? (i := 180) rfl) rfl
theorem wd_6_182 : (Jvm.Cond.laysFinal "PolicyTreeModel" "PolicyTreeModel" "nodeOf" "[I") ∈ TB := tbk_6 (List.mem_of_getElem? (i := 182) rfl) rfl
theorem wd_6_184 : (Jvm.Cond.laysFinal "PolicyTreeModel" "PolicyTreeModel" "facts" "[I") ∈ TB := tbk_6 (List.mem_of_getElem? (i := 184) rfl) rfl
theorem wd_6_186 : (Jvm.Cond.laysFinal "PolicyTreeModel" "PolicyTreeModel" "inGroups" "[I") ∈ TB := tbk_6 (List.mem_of_getElem? (i := 186) rfl) rfl
theorem wd_6_188 : (Jvm.Cond.lays "PolicyTreeModel" "PolicyTreeModel" "machines" "I") ∈ TB := tbk_6 (List.mem_of_getElem? (i := 188) rfl) rfl
theorem wd_6_190 : (Jvm.Cond.laysFinal "PolicyTreeModel" "PolicyTreeModel" "within" "[I") ∈ TB := tbk_6 (List.mem_of_getElem? (i := 190) rfl) rfl
theorem wd_6_192 : (Jvm.Cond.lays "PolicyTreeModel" "PolicyTreeModel" "groups" "I") ∈ TB := tbk_6 (List.mem_of_getElem? (i := 192) rfl) rfl
theorem wd_6_194 : (Jvm.Cond.laysFinal "PolicyTreeModel" "PolicyTreeModel" "told" "[I") ∈ TB := tbk_6 (List.mem_of_getElem? (i := 194) rfl) rfl
theorem wd_6_196 : (Jvm.Cond.laysFinal "PolicyTreeModel" "PolicyTreeModel" "values" "[I") ∈ TB := tbk_6 (List.mem_of_getElem? (i := 196) rfl) rfl
theorem wd_6_198 : (Jvm.Cond.lays "PolicyTreeModel" "PolicyTreeModel" "sets" "I") ∈ TB := tbk_6 (List.mem_of_getElem? (i := 198) rfl) rfl
theorem wd_6_200 : (Jvm.Cond.laysFinal "PolicyTreeModel" "PolicyTreeModel" "laws" "[I") ∈ TB := tbk_6 (List.mem_of_getElem? (i := 200) rfl) rfl
theorem wd_6_202 : (Jvm.Cond.laysFinal "PolicyTreeModel" "PolicyTreeModel" "tape" "[B") ∈ TB := tbk_6 (List.mem_of_getElem? (i := 202) rfl) rfl
theorem wd_6_204 : (Jvm.Cond.lays "PolicyTreeModel" "PolicyTreeModel" "taped" "I") ∈ TB := tbk_6 (List.mem_of_getElem? (i := 204) rfl) rfl
theorem wd_6_206 : (Jvm.Cond.lays "PolicyTreeModel" "PolicyTreeModel" "size" "I") ∈ TB := tbk_6 (List.mem_of_getElem? (i := 206) rfl) rfl
theorem wd_6_208 : (Jvm.Cond.lays "PolicyTreeModel" "PolicyTreeModel" "at" "I") ∈ TB := tbk_6 (List.mem_of_getElem? (i := 208) rfl) rfl
theorem wd_6_210 : (Jvm.Cond.lays "PolicyTreeModel" "PolicyTreeModel" "fault" "I") ∈ TB := tbk_6 (List.mem_of_getElem? (i := 210) rfl) rfl
theorem wd_6_212 : (Jvm.Cond.lays "PolicyTreeModel" "PolicyTreeModel" "place" "I") ∈ TB := tbk_6 (List.mem_of_getElem? (i := 212) rfl) rfl
theorem wd_6_214 : (Jvm.Cond.lays "PolicyTreeModel" "PolicyTreeModel" "open" "I") ∈ TB := tbk_6 (List.mem_of_getElem? (i := 214) rfl) rfl
theorem wd_6_216 : (Jvm.Cond.lays "PolicyTreeModel" "PolicyTreeModel" "code" "[I") ∈ TB := tbk_6 (List.mem_of_getElem? (i := 216) rfl) rfl
theorem wd_6_218 : (Jvm.Cond.lays "PolicyTreeModel" "PolicyTreeModel" "codes" "I") ∈ TB := tbk_6 (List.mem_of_getElem? (i := 218) rfl) rfl
theorem wd_6_220 : (Jvm.Cond.laysFinal "PolicyTreeModel" "PolicyTreeModel" "pile" "[Z") ∈ TB := tbk_6 (List.mem_of_getElem? (i := 220) rfl) rfl
theorem wd_6_222 : (Jvm.Cond.laysFinal "PolicyTreeModel" "PolicyTreeModel" "linkNode" "[I") ∈ TB := tbk_6 (List.mem_of_getElem? (i := 222) rfl) rfl
theorem wd_6_224 : (Jvm.Cond.laysFinal "PolicyTreeModel" "PolicyTreeModel" "linkSet" "[I") ∈ TB := tbk_6 (List.mem_of_getElem? (i := 224) rfl) rfl
theorem wd_6_226 : (Jvm.Cond.laysFinal "PolicyTreeModel" "PolicyTreeModel" "linkOrder" "[I") ∈ TB := tbk_6 (List.mem_of_getElem? (i := 226) rfl) rfl
theorem wd_6_228 : (Jvm.Cond.laysFinal "PolicyTreeModel" "PolicyTreeModel" "isForced" "[Z") ∈ TB := tbk_6 (List.mem_of_getElem? (i := 228) rfl) rfl
theorem wd_6_230 : (Jvm.Cond.laysFinal "PolicyTreeModel" "PolicyTreeModel" "hasEnded" "[Z") ∈ TB := tbk_6 (List.mem_of_getElem? (i := 230) rfl) rfl
theorem wd_6_232 : (Jvm.Cond.laysFinal "PolicyTreeModel" "PolicyTreeModel" "from" "[I") ∈ TB := tbk_6 (List.mem_of_getElem? (i := 232) rfl) rfl
theorem wd_6_234 : (Jvm.Cond.laysFinal "PolicyTreeModel" "PolicyTreeModel" "to" "[I") ∈ TB := tbk_6 (List.mem_of_getElem? (i := 234) rfl) rfl
theorem wd_6_236 : (Jvm.Cond.laysFinal "PolicyTreeModel" "PolicyTreeModel" "sorted" "[I") ∈ TB := tbk_6 (List.mem_of_getElem? (i := 236) rfl) rfl
theorem wd_6_238 : (Jvm.Cond.lays "PolicyTreeModel" "PolicyTreeModel" "links" "I") ∈ TB := tbk_6 (List.mem_of_getElem? (i := 238) rfl) rfl
theorem wd_7_0 : (Jvm.Cond.laysFinal "PolicyTreeModel" "PolicyTreeModel" "below" "[I") ∈ TB := tbk_7 (List.mem_of_getElem? (i := 0) rfl) rfl
theorem wd_7_2 : (Jvm.Cond.laysFinal "PolicyTreeModel" "PolicyTreeModel" "way" "[I") ∈ TB := tbk_7 (List.mem_of_getElem? (i := 2) rfl) rfl
theorem wd_7_4 : (Jvm.Cond.laysFinal "PolicyTreeModel" "PolicyTreeModel" "row" "[I") ∈ TB := tbk_7 (List.mem_of_getElem? (i := 4) rfl) rfl
theorem wd_7_6 : (Jvm.Cond.lays "PolicyTreeModel" "PolicyTreeModel" "rows" "I") ∈ TB := tbk_7 (List.mem_of_getElem? (i := 6) rfl) rfl
theorem wd_7_8 : (Jvm.Cond.laysFinal "PolicyTreeModel" "PolicyTreeModel" "got" "[I") ∈ TB := tbk_7 (List.mem_of_getElem? (i := 8) rfl) rfl
theorem wd_7_10 : (Jvm.Cond.lays "PolicyTreeModel" "PolicyTreeModel" "gots" "I") ∈ TB := tbk_7 (List.mem_of_getElem? (i := 10) rfl) rfl
theorem wd_7_12 : (Jvm.Cond.lays "PolicyTreeModel" "PolicyTreeModel" "reason" "I") ∈ TB := tbk_7 (List.mem_of_getElem? (i := 12) rfl) rfl
theorem wd_7_14 : (Jvm.Cond.laysFinal "PolicyTreeModel" "PolicyTreeModel" "kept" "[I") ∈ TB := tbk_7 (List.mem_of_getElem? (i := 14) rfl) rfl
theorem wd_7_16 : (Jvm.Cond.lays "PolicyTreeModel" "PolicyTreeModel" "keeps" "I") ∈ TB := tbk_7 (List.mem_of_getElem? (i := 16) rfl) rfl
theorem wd_7_18 : (Jvm.Cond.lays "PolicyTreeModel" "PolicyTreeModel" "pairMachine" "I") ∈ TB := tbk_7 (List.mem_of_getElem? (i := 18) rfl) rfl
theorem wd_7_20 : (Jvm.Cond.lays "PolicyTreeModel" "PolicyTreeModel" "pairSetting" "I") ∈ TB := tbk_7 (List.mem_of_getElem? (i := 20) rfl) rfl
theorem wd_7_22 : (Jvm.Cond.laysFinal "PolicyTreeModel" "PolicyTreeModel" "was" "[I") ∈ TB := tbk_7 (List.mem_of_getElem? (i := 22) rfl) rfl
theorem wd_7_24 : (Jvm.Cond.lays "PolicyTreeModel" "PolicyTreeModel" "one" "I") ∈ TB := tbk_7 (List.mem_of_getElem? (i := 24) rfl) rfl
theorem wd_7_26 : (Jvm.Cond.lays "PolicyTreeModel" "PolicyTreeModel" "other" "I") ∈ TB := tbk_7 (List.mem_of_getElem? (i := 26) rfl) rfl
theorem wd_7_29 : (Jvm.Cond.arrayClass Jvm.ClassFile.FieldType.boolean) ∈ TB := tbk_7 (List.mem_of_getElem? (i := 29) rfl) rfl
theorem wd_7_30 : (Jvm.Cond.methodLink "PolicyTreeLaw" (104 : Nat) ({ cls := "PolicyTreeModel", name := "thrown", desc := "()I" } : Jvm.MethodName)) ∈ TB := tbk_7 (List.mem_of_getElem? (i := 30) rfl) rfl
theorem wd_7_31 : (Jvm.Cond.instanceMethod ({ cls := "PolicyTreeModel", name := "thrown", desc := "()I" } : Jvm.MethodName)) ∈ TB := tbk_7 (List.mem_of_getElem? (i := 31) rfl) rfl
theorem wd_7_32 : (Jvm.Cond.selects "PolicyTreeModel" ({ cls := "PolicyTreeModel", name := "thrown", desc := "()I" } : Jvm.MethodName) ({ cls := "PolicyTreeModel", name := "thrown", desc := "()I" } : Jvm.MethodName)) ∈ TB := tbk_7 (List.mem_of_getElem? (i := 32) rfl) rfl
theorem wd_7_33 : (Jvm.Cond.code ({ cls := "PolicyTreeModel", name := "thrown", desc := "()I" } : Jvm.MethodName) prog_14_method_2_code (1 : Nat) (Option.some Jvm.ClassFile.FieldType.int)) ∈ TB := tbk_7 (List.mem_of_getElem? (i := 33) rfl) rfl
theorem wd_7_34 : (Jvm.Cond.methodLink "PolicyTreeLaw" (103 : Nat) ({ cls := "PolicyTreeModel", name := "node", desc := "(I)I" } : Jvm.MethodName)) ∈ TB := tbk_7 (List.mem_of_getElem? (i := 34) rfl) rfl
theorem wd_7_35 : (Jvm.Cond.instanceMethod ({ cls := "PolicyTreeModel", name := "node", desc := "(I)I" } : Jvm.MethodName)) ∈ TB := tbk_7 (List.mem_of_getElem? (i := 35) rfl) rfl
theorem wd_7_36 : (Jvm.Cond.selects "PolicyTreeModel" ({ cls := "PolicyTreeModel", name := "node", desc := "(I)I" } : Jvm.MethodName) ({ cls := "PolicyTreeModel", name := "node", desc := "(I)I" } : Jvm.MethodName)) ∈ TB := tbk_7 (List.mem_of_getElem? (i := 36) rfl) rfl
theorem wd_7_37 : (Jvm.Cond.code ({ cls := "PolicyTreeModel", name := "node", desc := "(I)I" } : Jvm.MethodName) prog_14_method_5_code (2 : Nat) (Option.some Jvm.ClassFile.FieldType.int)) ∈ TB := tbk_7 (List.mem_of_getElem? (i := 37) rfl) rfl
theorem wd_7_38 : (Jvm.Cond.methodLink "PolicyTreeModel" (100 : Nat) ({ cls := "PolicyTreeModel", name := "none", desc := "(II)Z" } : Jvm.MethodName)) ∈ TB := tbk_7 (List.mem_of_getElem? (i := 38) rfl) rfl
theorem wd_7_40 : (Jvm.Cond.instanceMethod ({ cls := "PolicyTreeModel", name := "none", desc := "(II)Z" } : Jvm.MethodName)) ∈ TB := tbk_7 (List.mem_of_getElem? (i := 40) rfl) rfl
theorem wd_7_41 : (Jvm.Cond.code ({ cls := "PolicyTreeModel", name := "none", desc := "(II)Z" } : Jvm.MethodName) prog_14_method_4_code (3 : Nat) (Option.some Jvm.ClassFile.FieldType.boolean)) ∈ TB := tbk_7 (List.mem_of_getElem? (i := 41) rfl) rfl
theorem wd_7_42 : (Jvm.Cond.methodLink "PolicyTreeModel" (104 : Nat) ({ cls := "PolicyTreeModel", name := "bad", desc := "(ZI)Z" } : Jvm.MethodName)) ∈ TB := tbk_7 (List.mem_of_getElem? (i := 42) rfl) rfl
theorem wd_7_44 : (Jvm.Cond.instanceMethod ({ cls := "PolicyTreeModel", name := "bad", desc := "(ZI)Z" } : Jvm.MethodName)) ∈ TB := tbk_7 (List.mem_of_getElem? (i := 44) rfl) rfl
theorem wd_7_45 : (Jvm.Cond.code ({ cls := "PolicyTreeModel", name := "bad", desc := "(ZI)Z" } : Jvm.MethodName) prog_14_method_3_code (3 : Nat) (Option.some Jvm.ClassFile.FieldType.boolean)) ∈ TB := tbk_7 (List.mem_of_getElem? (i := 45) rfl) rfl
theorem wd_7_46 : (Jvm.Cond.methodLink "PolicyTreeLaw" (110 : Nat) ({ cls := "PolicyTreeModel", name := "block", desc := "(IZ)Z" } : Jvm.MethodName)) ∈ TB := tbk_7 (List.mem_of_getElem? (i := 46) rfl) rfl
theorem wd_7_47 : (Jvm.Cond.instanceMethod ({ cls := "PolicyTreeModel", name := "block", desc := "(IZ)Z" } : Jvm.MethodName)) ∈ TB := tbk_7 (List.mem_of_getElem? (i := 47) rfl) rfl
theorem wd_7_48 : (Jvm.Cond.selects "PolicyTreeModel" ({ cls := "PolicyTreeModel", name := "block", desc := "(IZ)Z" } : Jvm.MethodName) ({ cls := "PolicyTreeModel", name := "block", desc := "(IZ)Z" } : Jvm.MethodName)) ∈ TB := tbk_7 (List.mem_of_getElem? (i := 48) rfl) rfl
theorem wd_7_49 : (Jvm.Cond.code ({ cls := "PolicyTreeModel", name := "block", desc := "(IZ)Z" } : Jvm.MethodName) prog_14_method_6_code (4 : Nat) (Option.some Jvm.ClassFile.FieldType.boolean)) ∈ TB := tbk_7 (List.mem_of_getElem? (i := 49) rfl) rfl
theorem wd_7_50 : (Jvm.Cond.methodLink "PolicyTreeLaw" (117 : Nat) ({ cls := "PolicyTreeModel", name := "machine", desc := "(I)I" } : Jvm.MethodName)) ∈ TB := tbk_7 (List.mem_of_getElem? (i := 50) rfl) rfl
theorem wd_7_51 : (Jvm.Cond.instanceMethod ({ cls := "PolicyTreeModel", name := "machine", desc := "(I)I" } : Jvm.MethodName)) ∈ TB := tbk_7 (List.mem_of_getElem? (i := 51) rfl) rfl
theorem wd_7_52 : (Jvm.Cond.selects "PolicyTreeModel" ({ cls := "PolicyTreeModel", name := "machine", desc := "(I)I" } : Jvm.MethodName) ({ cls := "PolicyTreeModel", name := "machine", desc := "(I)I" } : Jvm.MethodName)) ∈ TB := tbk_7 (List.mem_of_getElem? (i := 52) rfl) rfl
theorem wd_7_53 : (Jvm.Cond.code ({ cls := "PolicyTreeModel", name := "machine", desc := "(I)I" } : Jvm.MethodName) prog_14_method_8_code (3 : Nat) (Option.some Jvm.ClassFile.FieldType.int)) ∈ TB := tbk_7 (List.mem_of_getElem? (i := 53) rfl) rfl
theorem wd_7_54 : (Jvm.Cond.methodLink "PolicyTreeLaw" (121 : Nat) ({ cls := "PolicyTreeModel", name := "fact", desc := "(III)I" } : Jvm.MethodName)) ∈ TB := tbk_7 (List.mem_of_getElem? (i := 54) rfl) rfl
theorem wd_7_55 : (Jvm.Cond.instanceMethod ({ cls := "PolicyTreeModel", name := "fact", desc := "(III)I" } : Jvm.MethodName)) ∈ TB := tbk_7 (List.mem_of_getElem? (i := 55) rfl) rfl
theorem wd_7_56 : (Jvm.Cond.selects "PolicyTreeModel" ({ cls := "PolicyTreeModel", name := "fact", desc := "(III)I" } : Jvm.MethodName) ({ cls := "PolicyTreeModel", name := "fact", desc := "(III)I" } : Jvm.MethodName)) ∈ TB := tbk_7 (List.mem_of_getElem? (i := 56) rfl) rfl
theorem wd_7_57 : (Jvm.Cond.code ({ cls := "PolicyTreeModel", name := "fact", desc := "(III)I" } : Jvm.MethodName) prog_14_method_9_code (5 : Nat) (Option.some Jvm.ClassFile.FieldType.int)) ∈ TB := tbk_7 (List.mem_of_getElem? (i := 57) rfl) rfl
theorem wd_7_58 : (Jvm.Cond.methodLink "PolicyTreeLaw" (125 : Nat) ({ cls := "PolicyTreeModel", name := "group", desc := "()I" } : Jvm.MethodName)) ∈ TB := tbk_7 (List.mem_of_getElem? (i := 58) rfl) rfl
theorem wd_7_59 : (Jvm.Cond.instanceMethod ({ cls := "PolicyTreeModel", name := "group", desc := "()I" } : Jvm.MethodName)) ∈ TB := tbk_7 (List.mem_of_getElem? (i := 59) rfl) rfl
theorem wd_7_60 : (Jvm.Cond.selects "PolicyTreeModel" ({ cls := "PolicyTreeModel", name := "group", desc := "()I" } : Jvm.MethodName) ({ cls := "PolicyTreeModel", name := "group", desc := "()I" } : Jvm.MethodName)) ∈ TB := tbk_7 (List.mem_of_getElem? (i := 60) rfl) rfl
theorem wd_7_61 : (Jvm.Cond.code ({ cls := "PolicyTreeModel", name := "group", desc := "()I" } : Jvm.MethodName) prog_14_method_10_code (1 : Nat) (Option.some Jvm.ClassFile.FieldType.int)) ∈ TB := tbk_7 (List.mem_of_getElem? (i := 61) rfl) rfl
theorem wd_7_62 : (Jvm.Cond.methodLink "PolicyTreeLaw" (129 : Nat) ({ cls := "PolicyTreeModel", name := "joins", desc := "(IIZ)Z" } : Jvm.MethodName)) ∈ TB := tbk_7 (List.mem_of_getElem? (i := 62) rfl) rfl
theorem wd_7_63 : (Jvm.Cond.instanceMethod ({ cls := "PolicyTreeModel", name := "joins", desc := "(IIZ)Z" } : Jvm.MethodName)) ∈ TB := tbk_7 (List.mem_of_getElem? (i := 63) rfl) rfl
theorem wd_7_64 : (Jvm.Cond.selects "PolicyTreeModel" ({ cls := "PolicyTreeModel", name := "joins", desc := "(IIZ)Z" } : Jvm.MethodName) ({ cls := "PolicyTreeModel", name := "joins", desc := "(IIZ)Z" } : Jvm.MethodName)) ∈ TB := tbk_7 (List.mem_of_getElem? (i := 64) rfl) rfl
theorem wd_7_65 : (Jvm.Cond.code ({ cls := "PolicyTreeModel", name := "joins", desc := "(IIZ)Z" } : Jvm.MethodName) prog_14_method_11_code (5 : Nat) (Option.some Jvm.ClassFile.FieldType.boolean)) ∈ TB := tbk_7 (List.mem_of_getElem? (i := 65) rfl) rfl
theorem wd_7_66 : (Jvm.Cond.methodLink "PolicyTreeLaw" (132 : Nat) ({ cls := "PolicyTreeModel", name := "within", desc := "(IIZ)Z" } : Jvm.MethodName)) ∈ TB := tbk_7 (List.mem_of_getElem? (i := 66) rfl) rfl
theorem wd_7_67 : (Jvm.Cond.instanceMethod ({ cls := "PolicyTreeModel", name := "within", desc := "(IIZ)Z" } : Jvm.MethodName)) ∈ TB := tbk_7 (List.mem_of_getElem? (i := 67) rfl) rfl
theorem wd_7_68 : (Jvm.Cond.selects "PolicyTreeModel" ({ cls := "PolicyTreeModel", name := "within", desc := "(IIZ)Z" } : Jvm.MethodName) ({ cls := "PolicyTreeModel", name := "within", desc := "(IIZ)Z" } : Jvm.MethodName)) ∈ TB := tbk_7 (List.mem_of_getElem? (i := 68) rfl) rfl
theorem wd_7_69 : (Jvm.Cond.code ({ cls := "PolicyTreeModel", name := "within", desc := "(IIZ)Z" } : Jvm.MethodName) prog_14_method_12_code (5 : Nat) (Option.some Jvm.ClassFile.FieldType.boolean)) ∈ TB := tbk_7 (List.mem_of_getElem? (i := 69) rfl) rfl
theorem wd_7_70 : (Jvm.Cond.methodLink "PolicyTreeLaw" (135 : Nat) ({ cls := "PolicyTreeModel", name := "member", desc := "(II)Z" } : Jvm.MethodName)) ∈ TB := tbk_7 (List.mem_of_getElem? (i := 70) rfl) rfl
theorem wd_7_71 : (Jvm.Cond.instanceMethod ({ cls := "PolicyTreeModel", name := "member", desc := "(II)Z" } : Jvm.MethodName)) ∈ TB := tbk_7 (List.mem_of_getElem? (i := 71) rfl) rfl
theorem wd_7_72 : (Jvm.Cond.selects "PolicyTreeModel" ({ cls := "PolicyTreeModel", name := "member", desc := "(II)Z" } : Jvm.MethodName) ({ cls := "PolicyTreeModel", name := "member", desc := "(II)Z" } : Jvm.MethodName)) ∈ TB := tbk_7 (List.mem_of_getElem? (i := 72) rfl) rfl
theorem wd_7_73 : (Jvm.Cond.code ({ cls := "PolicyTreeModel", name := "member", desc := "(II)Z" } : Jvm.MethodName) prog_14_method_14_code (3 : Nat) (Option.some Jvm.ClassFile.FieldType.boolean)) ∈ TB := tbk_7 (List.mem_of_getElem? (i := 73) rfl) rfl
theorem wd_7_74 : (Jvm.Cond.methodLink "PolicyTreeModel" (114 : Nat) ({ cls := "PolicyTreeModel", name := "allIn", desc := "(I)I" } : Jvm.MethodName)) ∈ TB := tbk_7 (List.mem_of_getElem? (i := 74) rfl) rfl
theorem wd_7_76 : (Jvm.Cond.instanceMethod ({ cls := "PolicyTreeModel", name := "allIn", desc := "(I)I" } : Jvm.MethodName)) ∈ TB := tbk_7 (List.mem_of_getElem? (i := 76) rfl) rfl
theorem wd_7_77 : (Jvm.Cond.code ({ cls := "PolicyTreeModel", name := "allIn", desc := "(I)I" } : Jvm.MethodName) prog_14_method_13_code (5 : Nat) (Option.some Jvm.ClassFile.FieldType.int)) ∈ TB := tbk_7 (List.mem_of_getElem? (i := 77) rfl) rfl
theorem wd_7_78 : (Jvm.Cond.methodLink "PolicyTreeLaw" (138 : Nat) ({ cls := "PolicyTreeModel", name := "set", desc := "()I" } : Jvm.MethodName)) ∈ TB := tbk_7 (List.mem_of_getElem? (i := 78) rfl) rfl
theorem wd_7_79 : (Jvm.Cond.instanceMethod ({ cls := "PolicyTreeModel", name := "set", desc := "()I" } : Jvm.MethodName)) ∈ TB := tbk_7 (List.mem_of_getElem? (i := 79) rfl) rfl
theorem wd_7_80 : (Jvm.Cond.selects "PolicyTreeModel" ({ cls := "PolicyTreeModel", name := "set", desc := "()I" } : Jvm.MethodName) ({ cls := "PolicyTreeModel", name := "set", desc := "()I" } : Jvm.MethodName)) ∈ TB := tbk_7 (List.mem_of_getElem? (i := 80) rfl) rfl
theorem wd_7_81 : (Jvm.Cond.code ({ cls := "PolicyTreeModel", name := "set", desc := "()I" } : Jvm.MethodName) prog_14_method_15_code (1 : Nat) (Option.some Jvm.ClassFile.FieldType.int)) ∈ TB := tbk_7 (List.mem_of_getElem? (i := 81) rfl) rfl
theorem wd_7_82 : (Jvm.Cond.methodLink "PolicyTreeLaw" (141 : Nat) ({ cls := "PolicyTreeModel", name := "tell", desc := "(III)Z" } : Jvm.MethodName)) ∈ TB := tbk_7 (List.mem_of_getElem? (i := 82) rfl) rfl
theorem wd_7_83 : (Jvm.Cond.instanceMethod ({ cls := "PolicyTreeModel", name := "tell", desc := "(III)Z" } : Jvm.MethodName)) ∈ TB := tbk_7 (List.mem_of_getElem? (i := 83) rfl) rfl
theorem wd_7_84 : (Jvm.Cond.selects "PolicyTreeModel" ({ cls := "PolicyTreeModel", name := "tell", desc := "(III)Z" } : Jvm.MethodName) ({ cls := "PolicyTreeModel", name := "tell", desc := "(III)Z" } : Jvm.MethodName)) ∈ TB := tbk_7 (List.mem_of_getElem? (i := 84) rfl) rfl
theorem wd_7_85 : (Jvm.Cond.code ({ cls := "PolicyTreeModel", name := "tell", desc := "(III)Z" } : Jvm.MethodName) prog_14_method_18_code (5 : Nat) (Option.some Jvm.ClassFile.FieldType.boolean)) ∈ TB := tbk_7 (List.mem_of_getElem? (i := 85) rfl) rfl
theorem wd_7_86 : (Jvm.Cond.methodLink "PolicyTreeModel" (121 : Nat) ({ cls := "PolicyTreeModel", name := "isSetting", desc := "(I)Z" } : Jvm.MethodName)) ∈ TB := tbk_7 (List.mem_of_getElem? (i := 86) rfl) rfl
theorem wd_7_87 : (Jvm.Cond.static ({ cls := "PolicyTreeModel", name := "isSetting", desc := "(I)Z" } : Jvm.MethodName)) ∈ TB := tbk_7 (List.mem_of_getElem? (i := 87) rfl) rfl
theorem wd_7_88 : (Jvm.Cond.code ({ cls := "PolicyTreeModel", name := "isSetting", desc := "(I)Z" } : Jvm.MethodName) prog_14_method_16_code (1 : Nat) (Option.some Jvm.ClassFile.FieldType.boolean)) ∈ TB := tbk_7 (List.mem_of_getElem? (i := 88) rfl) rfl
theorem wd_7_89 : (Jvm.Cond.methodLink "PolicyTreeModel" (125 : Nat) ({ cls := "PolicyTreeModel", name := "tells", desc := "(II)Z" } : Jvm.MethodName)) ∈ TB := tbk_7 (List.mem_of_getElem? (i := 89) rfl) rfl
theorem wd_7_91 : (Jvm.Cond.instanceMethod ({ cls := "PolicyTreeModel", name := "tells", desc := "(II)Z" } : Jvm.MethodName)) ∈ TB := tbk_7 (List.mem_of_getElem? (i := 91) rfl) rfl
theorem wd_7_92 : (Jvm.Cond.code ({ cls := "PolicyTreeModel", name := "tells", desc := "(II)Z" } : Jvm.MethodName) prog_14_method_17_code (3 : Nat) (Option.some Jvm.ClassFile.FieldType.boolean)) ∈ TB := tbk_7 (List.mem_of_getElem? (i := 92) rfl) rfl
theorem wd_7_93 : (Jvm.Cond.methodLink "PolicyTreeLaw" (144 : Nat) ({ cls := "PolicyTreeModel", name := "untell", desc := "(II)Z" } : Jvm.MethodName)) ∈ TB := tbk_7 (List.mem_of_getElem? (i := 93) rfl) rfl
theorem wd_7_94 : (Jvm.Cond.instanceMethod ({ cls := "PolicyTreeModel", name := "untell", desc := "(II)Z" } : Jvm.MethodName)) ∈ TB := tbk_7 (List.mem_of_getElem? (i := 94) rfl) rfl
theorem wd_7_95 : (Jvm.Cond.selects "PolicyTreeModel" ({ cls := "PolicyTreeModel", name := "untell", desc := "(II)Z" } : Jvm.MethodName) ({ cls := "PolicyTreeModel", name := "untell", desc := "(II)Z" } : Jvm.MethodName)) ∈ TB := tbk_7 (List.mem_of_getElem? (i := 95) rfl) rfl
theorem wd_7_96 : (Jvm.Cond.code ({ cls := "PolicyTreeModel", name := "untell", desc := "(II)Z" } : Jvm.MethodName) prog_14_method_19_code (4 : Nat) (Option.some Jvm.ClassFile.FieldType.boolean)) ∈ TB := tbk_7 (List.mem_of_getElem? (i := 96) rfl) rfl
theorem wd_7_97 : (Jvm.Cond.methodLink "PolicyTreeLaw" (147 : Nat) ({ cls := "PolicyTreeModel", name := "law", desc := "(II)I" } : Jvm.MethodName)) ∈ TB := tbk_7 (List.mem_of_getElem? (i := 97) rfl) rfl
theorem wd_7_98 : (Jvm.Cond.instanceMethod ({ cls := "PolicyTreeModel", name := "law", desc := "(II)I" } : Jvm.MethodName)) ∈ TB := tbk_7 (List.mem_of_getElem? (i := 98) rfl) rfl
theorem wd_7_99 : (Jvm.Cond.selects "PolicyTreeModel" ({ cls := "PolicyTreeModel", name := "law", desc := "(II)I" } : Jvm.MethodName) ({ cls := "PolicyTreeModel", name := "law", desc := "(II)I" } : Jvm.MethodName)) ∈ TB := tbk_7 (List.mem_of_getElem? (i := 99) rfl) rfl
theorem wd_7_100 : (Jvm.Cond.code ({ cls := "PolicyTreeModel", name := "law", desc := "(II)I" } : Jvm.MethodName) prog_14_method_20_code (4 : Nat) (Option.some Jvm.ClassFile.FieldType.int)) ∈ TB := tbk_7 (List.mem_of_getElem? (i := 100) rfl) rfl
theorem wd_7_101 : (Jvm.Cond.methodLink "PolicyTreeLaw" (152 : Nat) ({ cls := "PolicyTreeModel", name := "feed", desc := "(IIIII)I" } : Jvm.MethodName)) ∈ TB := tbk_7 (List.mem_of_getElem? (i := 101) rfl) rfl
theorem wd_7_102 : (Jvm.Cond.instanceMethod ({ cls := "PolicyTreeModel", name := "feed", desc := "(IIIII)I" } : Jvm.MethodName)) ∈ TB := tbk_7 (List.mem_of_getElem? (i := 102) rfl) rfl
theorem wd_7_103 : (Jvm.Cond.selects "PolicyTreeModel" ({ cls := "PolicyTreeModel", name := "feed", desc := "(IIIII)I" } : Jvm.MethodName) ({ cls := "PolicyTreeModel", name := "feed", desc := "(IIIII)I" } : Jvm.MethodName)) ∈ TB := tbk_7 (List.mem_of_getElem? (i := 103) rfl) rfl
theorem wd_7_104 : (Jvm.Cond.code ({ cls := "PolicyTreeModel", name := "feed", desc := "(IIIII)I" } : Jvm.MethodName) prog_14_method_21_code (9 : Nat) (Option.some Jvm.ClassFile.FieldType.int)) ∈ TB := tbk_7 (List.mem_of_getElem? (i := 104) rfl) rfl
theorem wd_7_105 : (Jvm.Cond.methodLink "PolicyTreeLaw" (156 : Nat) ({ cls := "PolicyTreeModel", name := "link", desc := "(IIIZI)I" } : Jvm.MethodName)) ∈ TB := tbk_7 (List.mem_of_getElem? (i := 105) rfl) rfl
theorem wd_7_106 : (Jvm.Cond.instanceMethod ({ cls := "PolicyTreeModel", name := "link", desc := "(IIIZI)I" } : Jvm.MethodName)) ∈ TB := tbk_7 (List.mem_of_getElem? (i := 106) rfl) rfl
theorem wd_7_107 : (Jvm.Cond.selects "PolicyTreeModel" ({ cls := "PolicyTreeModel", name := "link", desc := "(IIIZI)I" } : Jvm.MethodName) ({ cls := "PolicyTreeModel", name := "link", desc := "(IIIZI)I" } : Jvm.MethodName)) ∈ TB := tbk_7 (List.mem_of_getElem? (i := 107) rfl) rfl
theorem wd_7_108 : (Jvm.Cond.code ({ cls := "PolicyTreeModel", name := "link", desc := "(IIIZI)I" } : Jvm.MethodName) prog_14_method_33_code (8 : Nat) (Option.some Jvm.ClassFile.FieldType.int)) ∈ TB := tbk_7 (List.mem_of_getElem? (i := 108) rfl) rfl
theorem wd_7_109 : (Jvm.Cond.methodLink "PolicyTreeModel" (143 : Nat) ({ cls := "PolicyTreeModel", name := "blanks", desc := "()V" } : Jvm.MethodName)) ∈ TB := tbk_7 (List.mem_of_getElem? (i := 109) rfl) rfl
theorem wd_7_111 : (Jvm.Cond.instanceMethod ({ cls := "PolicyTreeModel", name := "blanks", desc := "()V" } : Jvm.MethodName)) ∈ TB := tbk_7 (List.mem_of_getElem? (i := 111) rfl) rfl
theorem wd_7_112 : (Jvm.Cond.code ({ cls := "PolicyTreeModel", name := "blanks", desc := "()V" } : Jvm.MethodName) prog_14_method_23_code (1 : Nat) (Option.none : Option Jvm.ClassFile.FieldType)) ∈ TB := tbk_7 (List.mem_of_getElem? (i := 112) rfl) rfl
theorem wd_7_113 : (Jvm.Cond.methodLink "PolicyTreeModel" (137 : Nat) ({ cls := "PolicyTreeModel", name := "byteAt", desc := "(I)I" } : Jvm.MethodName)) ∈ TB := tbk_7 (List.mem_of_getElem? (i := 113) rfl) rfl
theorem wd_7_115 : (Jvm.Cond.instanceMethod ({ cls := "PolicyTreeModel", name := "byteAt", desc := "(I)I" } : Jvm.MethodName)) ∈ TB := tbk_7 (List.mem_of_getElem? (i := 115) rfl) rfl
theorem wd_7_116 : (Jvm.Cond.code ({ cls := "PolicyTreeModel", name := "byteAt", desc := "(I)I" } : Jvm.MethodName) prog_14_method_22_code (2 : Nat) (Option.some Jvm.ClassFile.FieldType.int)) ∈ TB := tbk_7 (List.mem_of_getElem? (i := 116) rfl) rfl
theorem wd_7_117 : (Jvm.Cond.methodLink "PolicyTreeModel" (193 : Nat) ({ cls := "PolicyTreeModel", name := "any", desc := "()V" } : Jvm.MethodName)) ∈ TB := tbk_7 (List.mem_of_getElem? (i := 117) rfl) rfl
theorem wd_7_119 : (Jvm.Cond.instanceMethod ({ cls := "PolicyTreeModel", name := "any", desc := "()V" } : Jvm.MethodName)) ∈ TB := tbk_7 (List.mem_of_getElem? (i := 119) rfl) rfl
theorem wd_7_120 : (Jvm.Cond.code ({ cls := "PolicyTreeModel", name := "any", desc := "()V" } : Jvm.MethodName) prog_14_method_28_code (1 : Nat) (Option.none : Option Jvm.ClassFile.FieldType)) ∈ TB := tbk_7 (List.mem_of_getElem? (i := 120) rfl) rfl
theorem wd_7_121 : (Jvm.Cond.methodLink "PolicyTreeModel" (163 : Nat) ({ cls := "PolicyTreeModel", name := "all", desc := "()V" } : Jvm.MethodName)) ∈ TB := tbk_7 (List.mem_of_getElem? (i := 121) rfl) rfl
theorem wd_7_123 : (Jvm.Cond.instanceMethod ({ cls := "PolicyTreeModel", name := "all", desc := "()V" } : Jvm.MethodName)) ∈ TB := tbk_7 (List.mem_of_getElem? (i := 123) rfl) rfl
theorem wd_7_124 : (Jvm.Cond.code ({ cls := "PolicyTreeModel", name := "all", desc := "()V" } : Jvm.MethodName) prog_14_method_29_code (1 : Nat) (Option.none : Option Jvm.ClassFile.FieldType)) ∈ TB := tbk_7 (List.mem_of_getElem? (i := 124) rfl) rfl
theorem wd_7_125 : (Jvm.Cond.methodLink "PolicyTreeModel" (175 : Nat) ({ cls := "PolicyTreeModel", name := "one", desc := "()V" } : Jvm.MethodName)) ∈ TB := tbk_7 (List.mem_of_getElem? (i := 125) rfl) rfl
theorem wd_7_127 : (Jvm.Cond.instanceMethod ({ cls := "PolicyTreeModel", name := "one", desc := "()V" } : Jvm.MethodName)) ∈ TB := tbk_7 (List.mem_of_getElem? (i := 127) rfl) rfl
theorem wd_7_128 : (Jvm.Cond.code ({ cls := "PolicyTreeModel", name := "one", desc := "()V" } : Jvm.MethodName) prog_14_method_31_code (1 : Nat) (Option.none : Option Jvm.ClassFile.FieldType)) ∈ TB := tbk_7 (List.mem_of_getElem? (i := 128) rfl) rfl
theorem wd_7_130 : (Jvm.Cond.methodLink "PolicyTreeModel" (156 : Nat) ({ cls := "PolicyTreeModel", name := "isWord", desc := "(Ljava/lang/String;)Z" } : Jvm.MethodName)) ∈ TB := tbk_7 (List.mem_of_getElem? (i := 130) rfl) rfl
theorem wd_7_132 : (Jvm.Cond.instanceMethod ({ cls := "PolicyTreeModel", name := "isWord", desc := "(Ljava/lang/String;)Z" } : Jvm.MethodName)) ∈ TB := tbk_7 (List.mem_of_getElem? (i := 132) rfl) rfl
theorem wd_7_133 : (Jvm.Cond.code ({ cls := "PolicyTreeModel", name := "isWord", desc := "(Ljava/lang/String;)Z" } : Jvm.MethodName) prog_14_method_25_code (3 : Nat) (Option.some Jvm.ClassFile.FieldType.boolean)) ∈ TB := tbk_7 (List.mem_of_getElem? (i := 133) rfl) rfl
theorem wd_7_134 : (Jvm.Cond.methodLink "PolicyTreeModel" (146 : Nat) ({ cls := "java/lang/String", name := "length", desc := "()I" } : Jvm.MethodName)) ∈ TB := tbk_7 (List.mem_of_getElem? (i := 134) rfl) rfl
theorem wd_7_135 : (Jvm.Cond.methodLink "PolicyTreeModel" (152 : Nat) ({ cls := "java/lang/String", name := "charAt", desc := "(I)C" } : Jvm.MethodName)) ∈ TB := tbk_7 (List.mem_of_getElem? (i := 135) rfl) rfl
theorem wd_7_136 : (Jvm.Cond.methodLink "PolicyTreeModel" (189 : Nat) ({ cls := "PolicyTreeModel", name := "opens", desc := "()Z" } : Jvm.MethodName)) ∈ TB := tbk_7 (List.mem_of_getElem? (i := 136) rfl) rfl
theorem wd_7_138 : (Jvm.Cond.instanceMethod ({ cls := "PolicyTreeModel", name := "opens", desc := "()Z" } : Jvm.MethodName)) ∈ TB := tbk_7 (List.mem_of_getElem? (i := 138) rfl) rfl
theorem wd_7_139 : (Jvm.Cond.code ({ cls := "PolicyTreeModel", name := "opens", desc := "()Z" } : Jvm.MethodName) prog_14_method_30_code (1 : Nat) (Option.some Jvm.ClassFile.FieldType.boolean)) ∈ TB := tbk_7 (List.mem_of_getElem? (i := 139) rfl) rfl
theorem wd_7_140 : (Jvm.Cond.methodLink "PolicyTreeModel" (183 : Nat) ({ cls := "PolicyTreeModel", name := "wrong", desc := "(II)V" } : Jvm.MethodName)) ∈ TB := tbk_7 (List.mem_of_getElem? (i := 140) rfl) rfl
theorem wd_7_142 : (Jvm.Cond.instanceMethod ({ cls := "PolicyTreeModel", name := "wrong", desc := "(II)V" } : Jvm.MethodName)) ∈ TB := tbk_7 (List.mem_of_getElem? (i := 142) rfl) rfl
theorem wd_7_143 : (Jvm.Cond.code ({ cls := "PolicyTreeModel", name := "wrong", desc := "(II)V" } : Jvm.MethodName) prog_14_method_24_code (3 : Nat) (Option.none : Option Jvm.ClassFile.FieldType)) ∈ TB := tbk_7 (List.mem_of_getElem? (i := 143) rfl) rfl
theorem wd_7_144 : (Jvm.Cond.methodLink "PolicyTreeModel" (171 : Nat) ({ cls := "PolicyTreeModel", name := "emits", desc := "(I)V" } : Jvm.MethodName)) ∈ TB := tbk_7 (List.mem_of_getElem? (i := 144) rfl) rfl
theorem wd_7_146 : (Jvm.Cond.instanceMethod ({ cls := "PolicyTreeModel", name := "emits", desc := "(I)V" } : Jvm.MethodName)) ∈ TB := tbk_7 (List.mem_of_getElem? (i := 146) rfl) rfl
theorem wd_7_147 : (Jvm.Cond.code ({ cls := "PolicyTreeModel", name := "emits", desc := "(I)V" } : Jvm.MethodName) prog_14_method_27_code (4 : Nat) (Option.none : Option Jvm.ClassFile.FieldType)) ∈ TB := tbk_7 (List.mem_of_getElem? (i := 147) rfl) rfl
theorem wd_7_149 : (Jvm.Cond.methodLink "PolicyTreeModel" (168 : Nat) ({ cls := "PolicyTreeModel", name := "eat", desc := "(Ljava/lang/String;)Z" } : Jvm.MethodName)) ∈ TB := tbk_7 (List.mem_of_getElem? (i := 149) rfl) rfl
theorem wd_7_151 : (Jvm.Cond.instanceMethod ({ cls := "PolicyTreeModel", name := "eat", desc := "(Ljava/lang/String;)Z" } : Jvm.MethodName)) ∈ TB := tbk_7 (List.mem_of_getElem? (i := 151) rfl) rfl
theorem wd_7_152 : (Jvm.Cond.code ({ cls := "PolicyTreeModel", name := "eat", desc := "(Ljava/lang/String;)Z" } : Jvm.MethodName) prog_14_method_26_code (3 : Nat) (Option.some Jvm.ClassFile.FieldType.boolean)) ∈ TB := tbk_7 (List.mem_of_getElem? (i := 152) rfl) rfl
theorem wd_7_153 : (Jvm.Cond.methodLink "PolicyTreeModel" (198 : Nat) ({ cls := "PolicyTreeModel", name := "number", desc := "(II)V" } : Jvm.MethodName)) ∈ TB := tbk_7 (List.mem_of_getElem? (i := 153) rfl) rfl
theorem wd_7_155 : (Jvm.Cond.instanceMethod ({ cls := "PolicyTreeModel", name := "number", desc := "(II)V" } : Jvm.MethodName)) ∈ TB := tbk_7 (List.mem_of_getElem? (i := 155) rfl) rfl
theorem wd_7_156 : (Jvm.Cond.code ({ cls := "PolicyTreeModel", name := "number", desc := "(II)V" } : Jvm.MethodName) prog_14_method_32_code (5 : Nat) (Option.none : Option Jvm.ClassFile.FieldType)) ∈ TB := tbk_7 (List.mem_of_getElem? (i := 156) rfl) rfl
theorem wd_7_161 : (Jvm.Cond.methodLink "PolicyTreeLaw" (160 : Nat) ({ cls := "PolicyTreeModel", name := "fault", desc := "()I" } : Jvm.MethodName)) ∈ TB := tbk_7 (List.mem_of_getElem? (i := 161) rfl) rfl
theorem wd_7_162 : (Jvm.Cond.instanceMethod ({ cls := "PolicyTreeModel", name := "fault", desc := "()I" } : Jvm.MethodName)) ∈ TB := tbk_7 (List.mem_of_getElem? (i := 162) rfl) rfl
theorem wd_7_163 : (Jvm.Cond.selects "PolicyTreeModel" ({ cls := "PolicyTreeModel", name := "fault", desc := "()I" } : Jvm.MethodName) ({ cls := "PolicyTreeModel", name := "fault", desc := "()I" } : Jvm.MethodName)) ∈ TB := tbk_7 (List.mem_of_getElem? (i := 163) rfl) rfl
theorem wd_7_164 : (Jvm.Cond.code ({ cls := "PolicyTreeModel", name := "fault", desc := "()I" } : Jvm.MethodName) prog_14_method_34_code (1 : Nat) (Option.some Jvm.ClassFile.FieldType.int)) ∈ TB := tbk_7 (List.mem_of_getElem? (i := 164) rfl) rfl
theorem wd_7_165 : (Jvm.Cond.methodLink "PolicyTreeLaw" (163 : Nat) ({ cls := "PolicyTreeModel", name := "end", desc := "(I)Z" } : Jvm.MethodName)) ∈ TB := tbk_7 (List.mem_of_getElem? (i := 165) rfl) rfl
theorem wd_7_166 : (Jvm.Cond.instanceMethod ({ cls := "PolicyTreeModel", name := "end", desc := "(I)Z" } : Jvm.MethodName)) ∈ TB := tbk_7 (List.mem_of_getElem? (i := 166) rfl) rfl
theorem wd_7_167 : (Jvm.Cond.selects "PolicyTreeModel" ({ cls := "PolicyTreeModel", name := "end", desc := "(I)Z" } : Jvm.MethodName) ({ cls := "PolicyTreeModel", name := "end", desc := "(I)Z" } : Jvm.MethodName)) ∈ TB := tbk_7 (List.mem_of_getElem? (i := 167) rfl) rfl
theorem wd_7_168 : (Jvm.Cond.code ({ cls := "PolicyTreeModel", name := "end", desc := "(I)Z" } : Jvm.MethodName) prog_14_method_35_code (3 : Nat) (Option.some Jvm.ClassFile.FieldType.boolean)) ∈ TB := tbk_7 (List.mem_of_getElem? (i := 168) rfl) rfl
theorem wd_7_169 : (Jvm.Cond.methodLink "PolicyTreeLaw" (166 : Nat) ({ cls := "PolicyTreeModel", name := "outcome", desc := "(II)I" } : Jvm.MethodName)) ∈ TB := tbk_7 (List.mem_of_getElem? (i := 169) rfl) rfl
theorem wd_7_170 : (Jvm.Cond.instanceMethod ({ cls := "PolicyTreeModel", name := "outcome", desc := "(II)I" } : Jvm.MethodName)) ∈ TB := tbk_7 (List.mem_of_getElem? (i := 170) rfl) rfl
theorem wd_7_171 : (Jvm.Cond.selects "PolicyTreeModel" ({ cls := "PolicyTreeModel", name := "outcome", desc := "(II)I" } : Jvm.MethodName) ({ cls := "PolicyTreeModel", name := "outcome", desc := "(II)I" } : Jvm.MethodName)) ∈ TB := tbk_7 (List.mem_of_getElem? (i := 171) rfl) rfl
theorem wd_7_172 : (Jvm.Cond.code ({ cls := "PolicyTreeModel", name := "outcome", desc := "(II)I" } : Jvm.MethodName) prog_14_method_44_code (3 : Nat) (Option.some Jvm.ClassFile.FieldType.int)) ∈ TB := tbk_7 (List.mem_of_getElem? (i := 172) rfl) rfl
theorem wd_7_173 : (Jvm.Cond.methodLink "PolicyTreeModel" (245 : Nat) ({ cls := "PolicyTreeModel", name := "isAsked", desc := "(II)Z" } : Jvm.MethodName)) ∈ TB := tbk_7 (List.mem_of_getElem? (i := 173) rfl) rfl
theorem wd_7_175 : (Jvm.Cond.instanceMethod ({ cls := "PolicyTreeModel", name := "isAsked", desc := "(II)Z" } : Jvm.MethodName)) ∈ TB := tbk_7 (List.mem_of_getElem? (i := 175) rfl) rfl
theorem wd_7_176 : (Jvm.Cond.code ({ cls := "PolicyTreeModel", name := "isAsked", desc := "(II)Z" } : Jvm.MethodName) prog_14_method_43_code (3 : Nat) (Option.some Jvm.ClassFile.FieldType.boolean)) ∈ TB := tbk_7 (List.mem_of_getElem? (i := 176) rfl) rfl
theorem wd_7_177 : (Jvm.Cond.methodLink "PolicyTreeModel" (232 : Nat) ({ cls := "PolicyTreeModel", name := "groupsAnew", desc := "()V" } : Jvm.MethodName)) ∈ TB := tbk_7 (List.mem_of_getElem? (i := 177) rfl) rfl
theorem wd_7_179 : (Jvm.Cond.instanceMethod ({ cls := "PolicyTreeModel", name := "groupsAnew", desc := "()V" } : Jvm.MethodName)) ∈ TB := tbk_7 (List.mem_of_getElem? (i := 179) rfl) rfl
theorem wd_7_180 : (Jvm.Cond.code ({ cls := "PolicyTreeModel", name := "groupsAnew", desc := "()V" } : Jvm.MethodName) prog_14_method_37_code (2 : Nat) (Option.none : Option Jvm.ClassFile.FieldType)) ∈ TB := tbk_7 (List.mem_of_getElem? (i := 180) rfl) rfl
theorem wd_7_181 : (Jvm.Cond.methodLink "PolicyTreeModel" (235 : Nat) ({ cls := "PolicyTreeModel", name := "yesOf", desc := "(I)I" } : Jvm.MethodName)) ∈ TB := tbk_7 (List.mem_of_getElem? (i := 181) rfl) rfl
theorem wd_7_183 : (Jvm.Cond.instanceMethod ({ cls := "PolicyTreeModel", name := "yesOf", desc := "(I)I" } : Jvm.MethodName)) ∈ TB := tbk_7 (List.mem_of_getElem? (i := 183) rfl) rfl
theorem wd_7_184 : (Jvm.Cond.code ({ cls := "PolicyTreeModel", name := "yesOf", desc := "(I)I" } : Jvm.MethodName) prog_14_method_38_code (4 : Nat) (Option.some Jvm.ClassFile.FieldType.int)) ∈ TB := tbk_7 (List.mem_of_getElem? (i := 184) rfl) rfl
theorem wd_7_185 : (Jvm.Cond.methodLink "PolicyTreeModel" (238 : Nat) ({ cls := "PolicyTreeModel", name := "makes", desc := "(III)V" } : Jvm.MethodName)) ∈ TB := tbk_7 (List.mem_of_getElem? (i := 185) rfl) rfl
theorem wd_7_187 : (Jvm.Cond.instanceMethod ({ cls := "PolicyTreeModel", name := "makes", desc := "(III)V" } : Jvm.MethodName)) ∈ TB := tbk_7 (List.mem_of_getElem? (i := 187) rfl) rfl
theorem wd_7_188 : (Jvm.Cond.code ({ cls := "PolicyTreeModel", name := "makes", desc := "(III)V" } : Jvm.MethodName) prog_14_method_40_code (7 : Nat) (Option.none : Option Jvm.ClassFile.FieldType)) ∈ TB := tbk_7 (List.mem_of_getElem? (i := 188) rfl) rfl
theorem wd_7_189 : (Jvm.Cond.methodLink "PolicyTreeModel" (218 : Nat) ({ cls := "PolicyTreeModel", name := "adds", desc := "(IZIII)V" } : Jvm.MethodName)) ∈ TB := tbk_7 (List.mem_of_getElem? (i := 189) rfl) rfl
theorem wd_7_191 : (Jvm.Cond.instanceMethod ({ cls := "PolicyTreeModel", name := "adds", desc := "(IZIII)V" } : Jvm.MethodName)) ∈ TB := tbk_7 (List.mem_of_getElem? (i := 191) rfl) rfl
theorem wd_7_192 : (Jvm.Cond.code ({ cls := "PolicyTreeModel", name := "adds", desc := "(IZIII)V" } : Jvm.MethodName) prog_14_method_39_code (8 : Nat) (Option.none : Option Jvm.ClassFile.FieldType)) ∈ TB := tbk_7 (List.mem_of_getElem? (i := 192) rfl) rfl
theorem wd_7_193 : (Jvm.Cond.methodLink "PolicyTreeModel" (211 : Nat) ({ cls := "PolicyTreeModel", name := "holds", desc := "(III)Z" } : Jvm.MethodName)) ∈ TB := tbk_7 (List.mem_of_getElem? (i := 193) rfl) rfl
theorem wd_7_195 : (Jvm.Cond.instanceMethod ({ cls := "PolicyTreeModel", name := "holds", desc := "(III)Z" } : Jvm.MethodName)) ∈ TB := tbk_7 (List.mem_of_getElem? (i := 195) rfl) rfl
theorem wd_7_196 : (Jvm.Cond.code ({ cls := "PolicyTreeModel", name := "holds", desc := "(III)Z" } : Jvm.MethodName) prog_14_method_36_code (8 : Nat) (Option.some Jvm.ClassFile.FieldType.boolean)) ∈ TB := tbk_7 (List.mem_of_getElem? (i := 196) rfl) rfl
theorem wd_7_197 : (Jvm.Cond.methodLink "PolicyTreeModel" (208 : Nat) ({ cls := "PolicyTreeModel", name := "isBelow", desc := "(II)Z" } : Jvm.MethodName)) ∈ TB := tbk_7 (List.mem_of_getElem? (i := 197) rfl) rfl
theorem wd_7_199 : (Jvm.Cond.instanceMethod ({ cls := "PolicyTreeModel", name := "isBelow", desc := "(II)Z" } : Jvm.MethodName)) ∈ TB := tbk_7 (List.mem_of_getElem? (i := 199) rfl) rfl
theorem wd_7_200 : (Jvm.Cond.code ({ cls := "PolicyTreeModel", name := "isBelow", desc := "(II)Z" } : Jvm.MethodName) prog_14_method_7_code (4 : Nat) (Option.some Jvm.ClassFile.FieldType.boolean)) ∈ TB := tbk_7 (List.mem_of_getElem? (i := 200) rfl) rfl
theorem wd_7_201 : (Jvm.Cond.methodLink "PolicyTreeModel" (242 : Nat) ({ cls := "PolicyTreeModel", name := "outcomes", desc := "(I)V" } : Jvm.MethodName)) ∈ TB := tbk_7 (List.mem_of_getElem? (i := 201) rfl) rfl
theorem wd_7_203 : (Jvm.Cond.instanceMethod ({ cls := "PolicyTreeModel", name := "outcomes", desc := "(I)V" } : Jvm.MethodName)) ∈ TB := tbk_7 (List.mem_of_getElem? (i := 203) rfl) rfl
theorem wd_7_204 : (Jvm.Cond.code ({ cls := "PolicyTreeModel", name := "outcomes", desc := "(I)V" } : Jvm.MethodName) prog_14_method_42_code (6 : Nat) (Option.none : Option Jvm.ClassFile.FieldType)) ∈ TB := tbk_7 (List.mem_of_getElem? (i := 204) rfl) rfl
theorem wd_7_205 : (Jvm.Cond.methodLink "PolicyTreeModel" (228 : Nat) ({ cls := "PolicyTreeModel", name := "valueOf", desc := "(II)I" } : Jvm.MethodName)) ∈ TB := tbk_7 (List.mem_of_getElem? (i := 205) rfl) rfl
theorem wd_7_207 : (Jvm.Cond.instanceMethod ({ cls := "PolicyTreeModel", name := "valueOf", desc := "(II)I" } : Jvm.MethodName)) ∈ TB := tbk_7 (List.mem_of_getElem? (i := 207) rfl) rfl
theorem wd_7_208 : (Jvm.Cond.code ({ cls := "PolicyTreeModel", name := "valueOf", desc := "(II)I" } : Jvm.MethodName) prog_14_method_41_code (3 : Nat) (Option.some Jvm.ClassFile.FieldType.int)) ∈ TB := tbk_7 (List.mem_of_getElem? (i := 208) rfl) rfl
theorem wd_7_209 : (Jvm.Cond.methodLink "PolicyTreeLaw" (169 : Nat) ({ cls := "PolicyTreeModel", name := "value", desc := "(III)I" } : Jvm.MethodName)) ∈ TB := tbk_7 (List.mem_of_getElem? (i := 209) rfl) rfl
theorem wd_7_210 : (Jvm.Cond.instanceMethod ({ cls := "PolicyTreeModel", name := "value", desc := "(III)I" } : Jvm.MethodName)) ∈ TB := tbk_7 (List.mem_of_getElem? (i := 210) rfl) rfl
theorem wd_7_211 : (Jvm.Cond.selects "PolicyTreeModel" ({ cls := "PolicyTreeModel", name := "value", desc := "(III)I" } : Jvm.MethodName) ({ cls := "PolicyTreeModel", name := "value", desc := "(III)I" } : Jvm.MethodName)) ∈ TB := tbk_7 (List.mem_of_getElem? (i := 211) rfl) rfl
theorem wd_7_212 : (Jvm.Cond.code ({ cls := "PolicyTreeModel", name := "value", desc := "(III)I" } : Jvm.MethodName) prog_14_method_45_code (4 : Nat) (Option.some Jvm.ClassFile.FieldType.int)) ∈ TB := tbk_7 (List.mem_of_getElem? (i := 212) rfl) rfl
theorem wd_7_213 : (Jvm.Cond.methodLink "PolicyTreeLaw" (172 : Nat) ({ cls := "PolicyTreeModel", name := "reason", desc := "(II)I" } : Jvm.MethodName)) ∈ TB := tbk_7 (List.mem_of_getElem? (i := 213) rfl) rfl
theorem wd_7_214 : (Jvm.Cond.instanceMethod ({ cls := "PolicyTreeModel", name := "reason", desc := "(II)I" } : Jvm.MethodName)) ∈ TB := tbk_7 (List.mem_of_getElem? (i := 214) rfl) rfl
theorem wd_7_215 : (Jvm.Cond.selects "PolicyTreeModel" ({ cls := "PolicyTreeModel", name := "reason", desc := "(II)I" } : Jvm.MethodName) ({ cls := "PolicyTreeModel", name := "reason", desc := "(II)I" } : Jvm.MethodName)) ∈ TB := tbk_7 (List.mem_of_getElem? (i := 215) rfl) rfl
theorem wd_7_216 : (Jvm.Cond.code ({ cls := "PolicyTreeModel", name := "reason", desc := "(II)I" } : Jvm.MethodName) prog_14_method_46_code (3 : Nat) (Option.some Jvm.ClassFile.FieldType.int)) ∈ TB := tbk_7 (List.mem_of_getElem? (i := 216) rfl) rfl
theorem wd_7_217 : (Jvm.Cond.methodLink "PolicyTreeLaw" (175 : Nat) ({ cls := "PolicyTreeModel", name := "beaten", desc := "(III)I" } : Jvm.MethodName)) ∈ TB := tbk_7 (List.mem_of_getElem? (i := 217) rfl) rfl
theorem wd_7_218 : (Jvm.Cond.instanceMethod ({ cls := "PolicyTreeModel", name := "beaten", desc := "(III)I" } : Jvm.MethodName)) ∈ TB := tbk_7 (List.mem_of_getElem? (i := 218) rfl) rfl
theorem wd_7_219 : (Jvm.Cond.selects "PolicyTreeModel" ({ cls := "PolicyTreeModel", name := "beaten", desc := "(III)I" } : Jvm.MethodName) ({ cls := "PolicyTreeModel", name := "beaten", desc := "(III)I" } : Jvm.MethodName)) ∈ TB := tbk_7 (List.mem_of_getElem? (i := 219) rfl) rfl
theorem wd_7_220 : (Jvm.Cond.code ({ cls := "PolicyTreeModel", name := "beaten", desc := "(III)I" } : Jvm.MethodName) prog_14_method_47_code (6 : Nat) (Option.some Jvm.ClassFile.FieldType.int)) ∈ TB := tbk_7 (List.mem_of_getElem? (i := 220) rfl) rfl
theorem wd_7_221 : (Jvm.Cond.methodLink "PolicyTreeLaw" (178 : Nat) ({ cls := "PolicyTreeModel", name := "sure", desc := "(II)Z" } : Jvm.MethodName)) ∈ TB := tbk_7 (List.mem_of_getElem? (i := 221) rfl) rfl
theorem wd_7_222 : (Jvm.Cond.instanceMethod ({ cls := "PolicyTreeModel", name := "sure", desc := "(II)Z" } : Jvm.MethodName)) ∈ TB := tbk_7 (List.mem_of_getElem? (i := 222) rfl) rfl
theorem wd_7_223 : (Jvm.Cond.selects "PolicyTreeModel" ({ cls := "PolicyTreeModel", name := "sure", desc := "(II)Z" } : Jvm.MethodName) ({ cls := "PolicyTreeModel", name := "sure", desc := "(II)Z" } : Jvm.MethodName)) ∈ TB := tbk_7 (List.mem_of_getElem? (i := 223) rfl) rfl
theorem wd_7_224 : (Jvm.Cond.code ({ cls := "PolicyTreeModel", name := "sure", desc := "(II)Z" } : Jvm.MethodName) prog_14_method_50_code (6 : Nat) (Option.some Jvm.ClassFile.FieldType.boolean)) ∈ TB := tbk_7 (List.mem_of_getElem? (i := 224) rfl) rfl
theorem wd_7_225 : (Jvm.Cond.methodLink "PolicyTreeModel" (251 : Nat) ({ cls := "PolicyTreeModel", name := "keepsThem", desc := "()V" } : Jvm.MethodName)) ∈ TB := tbk_7 (List.mem_of_getElem? (i := 225) rfl) rfl
theorem wd_7_227 : (Jvm.Cond.instanceMethod ({ cls := "PolicyTreeModel", name := "keepsThem", desc := "()V" } : Jvm.MethodName)) ∈ TB := tbk_7 (List.mem_of_getElem? (i := 227) rfl) rfl
theorem wd_7_228 : (Jvm.Cond.code ({ cls := "PolicyTreeModel", name := "keepsThem", desc := "()V" } : Jvm.MethodName) prog_14_method_48_code (2 : Nat) (Option.none : Option Jvm.ClassFile.FieldType)) ∈ TB := tbk_7 (List.mem_of_getElem? (i := 228) rfl) rfl
theorem wd_7_229 : (Jvm.Cond.methodLink "PolicyTreeModel" (254 : Nat) ({ cls := "PolicyTreeModel", name := "isAsKept", desc := "()Z" } : Jvm.MethodName)) ∈ TB := tbk_7 (List.mem_of_getElem? (i := 229) rfl) rfl
theorem wd_7_231 : (Jvm.Cond.instanceMethod ({ cls := "PolicyTreeModel", name := "isAsKept", desc := "()Z" } : Jvm.MethodName)) ∈ TB := tbk_7 (List.mem_of_getElem? (i := 231) rfl) rfl
theorem wd_7_232 : (Jvm.Cond.code ({ cls := "PolicyTreeModel", name := "isAsKept", desc := "()Z" } : Jvm.MethodName) prog_14_method_49_code (3 : Nat) (Option.some Jvm.ClassFile.FieldType.boolean)) ∈ TB := tbk_7 (List.mem_of_getElem? (i := 232) rfl) rfl
theorem wd_7_233 : (Jvm.Cond.methodLink "PolicyTreeLaw" (181 : Nat) ({ cls := "PolicyTreeModel", name := "reach", desc := "(I)I" } : Jvm.MethodName)) ∈ TB := tbk_7 (List.mem_of_getElem? (i := 233) rfl) rfl
theorem wd_7_234 : (Jvm.Cond.instanceMethod ({ cls := "PolicyTreeModel", name := "reach", desc := "(I)I" } : Jvm.MethodName)) ∈ TB := tbk_7 (List.mem_of_getElem? (i := 234) rfl) rfl
theorem wd_7_235 : (Jvm.Cond.selects "PolicyTreeModel" ({ cls := "PolicyTreeModel", name := "reach", desc := "(I)I" } : Jvm.MethodName) ({ cls := "PolicyTreeModel", name := "reach", desc := "(I)I" } : Jvm.MethodName)) ∈ TB := tbk_7 (List.mem_of_getElem? (i := 235) rfl) rfl
theorem wd_7_236 : (Jvm.Cond.code ({ cls := "PolicyTreeModel", name := "reach", desc := "(I)I" } : Jvm.MethodName) prog_14_method_52_code (2 : Nat) (Option.some Jvm.ClassFile.FieldType.int)) ∈ TB := tbk_7 (List.mem_of_getElem? (i := 236) rfl) rfl
theorem wd_7_237 : (Jvm.Cond.constant "PolicyTreeModel" (263 : Nat) (100000 : Int32)) ∈ TB := tbk_7 (List.mem_of_getElem? (i := 237) rfl) rfl
theorem wd_7_238 : (Jvm.Cond.methodLink "PolicyTreeModel" (264 : Nat) ({ cls := "PolicyTreeModel", name := "reaches", desc := "(II)I" } : Jvm.MethodName)) ∈ TB := tbk_7 (List.mem_of_getElem? (i := 238) rfl) rfl
theorem wd_8_0 : (Jvm.Cond.instanceMethod ({ cls := "PolicyTreeModel", name := "reaches", desc := "(II)I" } : Jvm.MethodName)) ∈ TB := tbk_8 (List.mem_of_getElem? (i := 0) rfl) rfl
theorem wd_8_1 : (Jvm.Cond.code ({ cls := "PolicyTreeModel", name := "reaches", desc := "(II)I" } : Jvm.MethodName) prog_14_method_51_code (7 : Nat) (Option.some Jvm.ClassFile.FieldType.int)) ∈ TB := tbk_8 (List.mem_of_getElem? (i := 1) rfl) rfl
theorem wd_8_2 : (Jvm.Cond.methodLink "PolicyTreeLaw" (184 : Nat) ({ cls := "PolicyTreeModel", name := "reached", desc := "(III)I" } : Jvm.MethodName)) ∈ TB := tbk_8 (List.mem_of_getElem? (i := 2) rfl) rfl
theorem wd_8_3 : (Jvm.Cond.instanceMethod ({ cls := "PolicyTreeModel", name := "reached", desc := "(III)I" } : Jvm.MethodName)) ∈ TB := tbk_8 (List.mem_of_getElem? (i := 3) rfl) rfl
theorem wd_8_4 : (Jvm.Cond.selects "PolicyTreeModel" ({ cls := "PolicyTreeModel", name := "reached", desc := "(III)I" } : Jvm.MethodName) ({ cls := "PolicyTreeModel", name := "reached", desc := "(III)I" } : Jvm.MethodName)) ∈ TB := tbk_8 (List.mem_of_getElem? (i := 4) rfl) rfl
theorem wd_8_5 : (Jvm.Cond.code ({ cls := "PolicyTreeModel", name := "reached", desc := "(III)I" } : Jvm.MethodName) prog_14_method_53_code (4 : Nat) (Option.some Jvm.ClassFile.FieldType.int)) ∈ TB := tbk_8 (List.mem_of_getElem? (i := 5) rfl) rfl
theorem wd_8_6 : (Jvm.Cond.methodLink "PolicyTreeLaw" (114 : Nat) ({ cls := "PolicyTreeModel", name := "move", desc := "(II)I" } : Jvm.MethodName)) ∈ TB := tbk_8 (List.mem_of_getElem? (i := 6) rfl) rfl
theorem wd_8_7 : (Jvm.Cond.instanceMethod ({ cls := "PolicyTreeModel", name := "move", desc := "(II)I" } : Jvm.MethodName)) ∈ TB := tbk_8 (List.mem_of_getElem? (i := 7) rfl) rfl
theorem wd_8_8 : (Jvm.Cond.selects "PolicyTreeModel" ({ cls := "PolicyTreeModel", name := "move", desc := "(II)I" } : Jvm.MethodName) ({ cls := "PolicyTreeModel", name := "move", desc := "(II)I" } : Jvm.MethodName)) ∈ TB := tbk_8 (List.mem_of_getElem? (i := 8) rfl) rfl
theorem wd_8_9 : (Jvm.Cond.code ({ cls := "PolicyTreeModel", name := "move", desc := "(II)I" } : Jvm.MethodName) prog_14_method_54_code (9 : Nat) (Option.some Jvm.ClassFile.FieldType.int)) ∈ TB := tbk_8 (List.mem_of_getElem? (i := 9) rfl) rfl
theorem wd_8_10 : (Jvm.Cond.methodLink "PolicyTreeLaw" (188 : Nat) ({ cls := "PolicyTreeModel", name := "quarrels", desc := "()I" } : Jvm.MethodName)) ∈ TB := tbk_8 (List.mem_of_getElem? (i := 10) rfl) rfl
theorem wd_8_11 : (Jvm.Cond.instanceMethod ({ cls := "PolicyTreeModel", name := "quarrels", desc := "()I" } : Jvm.MethodName)) ∈ TB := tbk_8 (List.mem_of_getElem? (i := 11) rfl) rfl
theorem wd_8_12 : (Jvm.Cond.selects "PolicyTreeModel" ({ cls := "PolicyTreeModel", name := "quarrels", desc := "()I" } : Jvm.MethodName) ({ cls := "PolicyTreeModel", name := "quarrels", desc := "()I" } : Jvm.MethodName)) ∈ TB := tbk_8 (List.mem_of_getElem? (i := 12) rfl) rfl
theorem wd_8_13 : (Jvm.Cond.code ({ cls := "PolicyTreeModel", name := "quarrels", desc := "()I" } : Jvm.MethodName) prog_14_method_57_code (1 : Nat) (Option.some Jvm.ClassFile.FieldType.int)) ∈ TB := tbk_8 (List.mem_of_getElem? (i := 13) rfl) rfl
theorem wd_8_14 : (Jvm.Cond.methodLink "PolicyTreeModel" (275 : Nat) ({ cls := "PolicyTreeModel", name := "looks", desc := "(I)I" } : Jvm.MethodName)) ∈ TB := tbk_8 (List.mem_of_getElem? (i := 14) rfl) rfl
theorem wd_8_16 : (Jvm.Cond.instanceMethod ({ cls := "PolicyTreeModel", name := "looks", desc := "(I)I" } : Jvm.MethodName)) ∈ TB := tbk_8 (List.mem_of_getElem? (i := 16) rfl) rfl
theorem wd_8_17 : (Jvm.Cond.code ({ cls := "PolicyTreeModel", name := "looks", desc := "(I)I" } : Jvm.MethodName) prog_14_method_56_code (5 : Nat) (Option.some Jvm.ClassFile.FieldType.int)) ∈ TB := tbk_8 (List.mem_of_getElem? (i := 17) rfl) rfl
theorem wd_8_18 : (Jvm.Cond.methodLink "PolicyTreeModel" (267 : Nat) ({ cls := "PolicyTreeModel", name := "areUnlike", desc := "(II)Z" } : Jvm.MethodName)) ∈ TB := tbk_8 (List.mem_of_getElem? (i := 18) rfl) rfl
theorem wd_8_20 : (Jvm.Cond.instanceMethod ({ cls := "PolicyTreeModel", name := "areUnlike", desc := "(II)Z" } : Jvm.MethodName)) ∈ TB := tbk_8 (List.mem_of_getElem? (i := 20) rfl) rfl
theorem wd_8_21 : (Jvm.Cond.code ({ cls := "PolicyTreeModel", name := "areUnlike", desc := "(II)Z" } : Jvm.MethodName) prog_14_method_55_code (4 : Nat) (Option.some Jvm.ClassFile.FieldType.boolean)) ∈ TB := tbk_8 (List.mem_of_getElem? (i := 21) rfl) rfl
theorem wd_8_22 : (Jvm.Cond.methodLink "PolicyTreeLaw" (191 : Nat) ({ cls := "PolicyTreeModel", name := "quarrel", desc := "(II)I" } : Jvm.MethodName)) ∈ TB := tbk_8 (List.mem_of_getElem? (i := 22) rfl) rfl
theorem wd_8_23 : (Jvm.Cond.instanceMethod ({ cls := "PolicyTreeModel", name := "quarrel", desc := "(II)I" } : Jvm.MethodName)) ∈ TB := tbk_8 (List.mem_of_getElem? (i := 23) rfl) rfl
theorem wd_8_24 : (Jvm.Cond.selects "PolicyTreeModel" ({ cls := "PolicyTreeModel", name := "quarrel", desc := "(II)I" } : Jvm.MethodName) ({ cls := "PolicyTreeModel", name := "quarrel", desc := "(II)I" } : Jvm.MethodName)) ∈ TB := tbk_8 (List.mem_of_getElem? (i := 24) rfl) rfl
theorem wd_8_25 : (Jvm.Cond.code ({ cls := "PolicyTreeModel", name := "quarrel", desc := "(II)I" } : Jvm.MethodName) prog_14_method_58_code (3 : Nat) (Option.some Jvm.ClassFile.FieldType.int)) ∈ TB := tbk_8 (List.mem_of_getElem? (i := 25) rfl) rfl
theorem wd_8_26 : (Jvm.Cond.methodLink "PolicyTreeLaw" (195 : Nat) ({ cls := "PolicyTreeModel", name := "count", desc := "(I)I" } : Jvm.MethodName)) ∈ TB := tbk_8 (List.mem_of_getElem? (i := 26) rfl) rfl
theorem wd_8_27 : (Jvm.Cond.instanceMethod ({ cls := "PolicyTreeModel", name := "count", desc := "(I)I" } : Jvm.MethodName)) ∈ TB := tbk_8 (List.mem_of_getElem? (i := 27) rfl) rfl
theorem wd_8_28 : (Jvm.Cond.selects "PolicyTreeModel" ({ cls := "PolicyTreeModel", name := "count", desc := "(I)I" } : Jvm.MethodName) ({ cls := "PolicyTreeModel", name := "count", desc := "(I)I" } : Jvm.MethodName)) ∈ TB := tbk_8 (List.mem_of_getElem? (i := 28) rfl) rfl
theorem wd_8_29 : (Jvm.Cond.code ({ cls := "PolicyTreeModel", name := "count", desc := "(I)I" } : Jvm.MethodName) prog_14_method_59_code (4 : Nat) (Option.some Jvm.ClassFile.FieldType.int)) ∈ TB := tbk_8 (List.mem_of_getElem? (i := 29) rfl) rfl
theorem wd_8_30 : (Jvm.Cond.sameMethod "java/lang/Throwable" "java/lang/Throwable" "fillInStackTrace" "(I)Ljava/lang/Throwable;") ∈ TB := tbk_8 (List.mem_of_getElem? (i := 30) rfl) rfl
theorem wd_8_31 : (Jvm.Cond.sameMethod "java/lang/AbstractStringBuilder" "java/lang/AbstractStringBuilder" "append" "(Ljava/lang/String;)Ljava/lang/AbstractStringBuilder;") ∈ TB := tbk_8 (List.mem_of_getElem? (i := 31) rfl) rfl
theorem wd_8_32 : (Jvm.Cond.sameMethod "java/lang/AbstractStringBuilder" "java/lang/AbstractStringBuilder" "appendNull" "()Ljava/lang/AbstractStringBuilder;") ∈ TB := tbk_8 (List.mem_of_getElem? (i := 32) rfl) rfl
theorem wd_8_33 : (Jvm.Cond.sameMethod "java/lang/AbstractStringBuilder" "java/lang/AbstractStringBuilder" "ensureCapacityInternal" "(I)V") ∈ TB := tbk_8 (List.mem_of_getElem? (i := 33) rfl) rfl
theorem wd_8_34 : (Jvm.Cond.sameMethod "java/lang/AbstractStringBuilder" "java/lang/AbstractStringBuilder" "newCapacity" "(I)I") ∈ TB := tbk_8 (List.mem_of_getElem? (i := 34) rfl) rfl
theorem wd_8_35 : (Jvm.Cond.sameMethod "java/lang/AbstractStringBuilder" "java/lang/AbstractStringBuilder" "putStringAt" "(ILjava/lang/String;)V") ∈ TB := tbk_8 (List.mem_of_getElem? (i := 35) rfl) rfl
theorem wd_8_36 : (Jvm.Cond.sameMethod "java/lang/AbstractStringBuilder" "java/lang/AbstractStringBuilder" "inflateIfNeededFor" "(Ljava/lang/String;)V") ∈ TB := tbk_8 (List.mem_of_getElem? (i := 36) rfl) rfl
theorem wd_8_37 : (Jvm.Cond.sameMethod "java/lang/AbstractStringBuilder" "java/lang/AbstractStringBuilder" "inflate" "()V") ∈ TB := tbk_8 (List.mem_of_getElem? (i := 37) rfl) rfl
theorem wd_8_38 : (Jvm.Cond.sameMethod "java/lang/AbstractStringBuilder" "java/lang/AbstractStringBuilder" "append" "(I)Ljava/lang/AbstractStringBuilder;") ∈ TB := tbk_8 (List.mem_of_getElem? (i := 38) rfl) rfl
theorem wd_8_59 : (Jvm.Cond.sameMethod "[Ljava/lang/Object;" "java/lang/Object" "getClass" "()Ljava/lang/Class;") ∈ TB := tbk_8 (List.mem_of_getElem? (i := 59) rfl) rfl
theorem wd_8_60 : (Jvm.Cond.selects "[Ljava/lang/Object;" ({ cls := "java/lang/Object", name := "getClass", desc := "()Ljava/lang/Class;" } : Jvm.MethodName) ({ cls := "java/lang/Object", name := "getClass", desc := "()Ljava/lang/Class;" } : Jvm.MethodName)) ∈ TB := tbk_8 (List.mem_of_getElem? (i := 60) rfl) rfl
theorem tbp_1 {q : MethodName × Nat} (h : q ∈ lw_privs_1) (g : goodWord (Cond.selects q.1.cls q.1 q.1) = true) : Cond.selects q.1.cls q.1 q.1 ∈ TB := tb_in (List.mem_append_left _ (List.mem_map.mpr ⟨q, by show q ∈ lw_privs; exact List.mem_append_left _ h, rfl⟩)) g
theorem wp_1_0 : Cond.selects "java/util/ArrayList" ⟨"java/util/ArrayList", "add", "(Ljava/lang/Object;[Ljava/lang/Object;I)V"⟩ ⟨"java/util/ArrayList", "add", "(Ljava/lang/Object;[Ljava/lang/Object;I)V"⟩ ∈ TB := tbp_1 (q := (⟨"java/util/ArrayList", "add", "(Ljava/lang/Object;[Ljava/lang/Object;I)V"⟩, 3)) (List.mem_of_getElem? (i := 0) rfl) rfl
theorem wp_1_1 : Cond.selects "java/util/ArrayList" ⟨"java/util/ArrayList", "grow", "()[Ljava/lang/Object;"⟩ ⟨"java/util/ArrayList", "grow", "()[Ljava/lang/Object;"⟩ ∈ TB := tbp_1 (q := (⟨"java/util/ArrayList", "grow", "()[Ljava/lang/Object;"⟩, 3)) (List.mem_of_getElem? (i := 1) rfl) rfl
theorem wp_1_2 : Cond.selects "java/util/ArrayList" ⟨"java/util/ArrayList", "grow", "(I)[Ljava/lang/Object;"⟩ ⟨"java/util/ArrayList", "grow", "(I)[Ljava/lang/Object;"⟩ ∈ TB := tbp_1 (q := (⟨"java/util/ArrayList", "grow", "(I)[Ljava/lang/Object;"⟩, 3)) (List.mem_of_getElem? (i := 2) rfl) rfl
theorem wp_1_3 : Cond.selects "PolicyTree" ⟨"PolicyTree", "settingsOfLast", "()I"⟩ ⟨"PolicyTree", "settingsOfLast", "()I"⟩ ∈ TB := tbp_1 (q := (⟨"PolicyTree", "settingsOfLast", "()I"⟩, 14)) (List.mem_of_getElem? (i := 3) rfl) rfl
theorem wp_1_4 : Cond.selects "PolicyTree" ⟨"PolicyTree", "countQuarrels", "(II)I"⟩ ⟨"PolicyTree", "countQuarrels", "(II)I"⟩ ∈ TB := tbp_1 (q := (⟨"PolicyTree", "countQuarrels", "(II)I"⟩, 14)) (List.mem_of_getElem? (i := 4) rfl) rfl
theorem wp_1_5 : Cond.selects "PolicyTree" ⟨"PolicyTree", "countLasting", "()I"⟩ ⟨"PolicyTree", "countLasting", "()I"⟩ ∈ TB := tbp_1 (q := (⟨"PolicyTree", "countLasting", "()I"⟩, 14)) (List.mem_of_getElem? (i := 5) rfl) rfl
theorem wp_1_6 : Cond.selects "java/lang/Throwable" ⟨"java/lang/Throwable", "fillInStackTrace", "(I)Ljava/lang/Throwable;"⟩ ⟨"java/lang/Throwable", "fillInStackTrace", "(I)Ljava/lang/Throwable;"⟩ ∈ TB := tbp_1 (q := (⟨"java/lang/Throwable", "fillInStackTrace", "(I)Ljava/lang/Throwable;"⟩, 6)) (List.mem_of_getElem? (i := 6) rfl) rfl
theorem wp_1_7 : Cond.selects "PolicyTree" ⟨"PolicyTree", "countMoved", "(ILPolicyTree$Node;LPolicyTree$Node;)I"⟩ ⟨"PolicyTree", "countMoved", "(ILPolicyTree$Node;LPolicyTree$Node;)I"⟩ ∈ TB := tbp_1 (q := (⟨"PolicyTree", "countMoved", "(ILPolicyTree$Node;LPolicyTree$Node;)I"⟩, 14)) (List.mem_of_getElem? (i := 7) rfl) rfl
theorem wp_1_8 : Cond.selects "PolicyTree$Groups" ⟨"PolicyTree$Groups", "groupsAround", "(I)I"⟩ ⟨"PolicyTree$Groups", "groupsAround", "(I)I"⟩ ∈ TB := tbp_1 (q := (⟨"PolicyTree$Groups", "groupsAround", "(I)I"⟩, 3)) (List.mem_of_getElem? (i := 8) rfl) rfl
theorem wp_1_9 : Cond.selects "PolicyTree$Row" ⟨"PolicyTree$Row", "topOfOpen", "()I"⟩ ⟨"PolicyTree$Row", "topOfOpen", "()I"⟩ ∈ TB := tbp_1 (q := (⟨"PolicyTree$Row", "topOfOpen", "()I"⟩, 4)) (List.mem_of_getElem? (i := 9) rfl) rfl
theorem wp_1_10 : Cond.selects "PolicyTree$Row" ⟨"PolicyTree$Row", "addLinks", "(IZI)V"⟩ ⟨"PolicyTree$Row", "addLinks", "(IZI)V"⟩ ∈ TB := tbp_1 (q := (⟨"PolicyTree$Row", "addLinks", "(IZI)V"⟩, 4)) (List.mem_of_getElem? (i := 10) rfl) rfl
theorem wp_1_11 : Cond.selects "PolicyTree$Outcome" ⟨"PolicyTree$Outcome", "take", "(LPolicyTree$Link;II)V"⟩ ⟨"PolicyTree$Outcome", "take", "(LPolicyTree$Link;II)V"⟩ ∈ TB := tbp_1 (q := (⟨"PolicyTree$Outcome", "take", "(LPolicyTree$Link;II)V"⟩, 3)) (List.mem_of_getElem? (i := 11) rfl) rfl
theorem wp_1_12 : Cond.selects "PolicyTree$Outcome" ⟨"PolicyTree$Outcome", "has", "(I)Z"⟩ ⟨"PolicyTree$Outcome", "has", "(I)Z"⟩ ∈ TB := tbp_1 (q := (⟨"PolicyTree$Outcome", "has", "(I)Z"⟩, 3)) (List.mem_of_getElem? (i := 12) rfl) rfl
theorem wp_1_13 : Cond.selects "PolicyTree$FilterReader" ⟨"PolicyTree$FilterReader", "skipBlanks", "()V"⟩ ⟨"PolicyTree$FilterReader", "skipBlanks", "()V"⟩ ∈ TB := tbp_1 (q := (⟨"PolicyTree$FilterReader", "skipBlanks", "()V"⟩, 9)) (List.mem_of_getElem? (i := 13) rfl) rfl
theorem wp_1_14 : Cond.selects "PolicyTree$FilterReader" ⟨"PolicyTree$FilterReader", "readEither", "(I)V"⟩ ⟨"PolicyTree$FilterReader", "readEither", "(I)V"⟩ ∈ TB := tbp_1 (q := (⟨"PolicyTree$FilterReader", "readEither", "(I)V"⟩, 9)) (List.mem_of_getElem? (i := 14) rfl) rfl
theorem wp_1_15 : Cond.selects "PolicyTree$FilterReader" ⟨"PolicyTree$FilterReader", "readBoth", "(I)V"⟩ ⟨"PolicyTree$FilterReader", "readBoth", "(I)V"⟩ ∈ TB := tbp_1 (q := (⟨"PolicyTree$FilterReader", "readBoth", "(I)V"⟩, 9)) (List.mem_of_getElem? (i := 15) rfl) rfl
theorem tbp_2 {q : MethodName × Nat} (h : q ∈ lw_privs_2) (g : goodWord (Cond.selects q.1.cls q.1 q.1) = true) : Cond.selects q.1.cls q.1 q.1 ∈ TB := tb_in (List.mem_append_left _ (List.mem_map.mpr ⟨q, by show q ∈ lw_privs; exact List.mem_append_right _ (List.mem_append_left _ h), rfl⟩)) g
theorem wp_2_0 : Cond.selects "PolicyTree$FilterReader" ⟨"PolicyTree$FilterReader", "readOne", "(I)V"⟩ ⟨"PolicyTree$FilterReader", "readOne", "(I)V"⟩ ∈ TB := tbp_2 (q := (⟨"PolicyTree$FilterReader", "readOne", "(I)V"⟩, 9)) (List.mem_of_getElem? (i := 0) rfl) rfl
theorem wp_2_1 : Cond.selects "PolicyTree$FilterReader" ⟨"PolicyTree$FilterReader", "takesByte", "(C)Z"⟩ ⟨"PolicyTree$FilterReader", "takesByte", "(C)Z"⟩ ∈ TB := tbp_2 (q := (⟨"PolicyTree$FilterReader", "takesByte", "(C)Z"⟩, 9)) (List.mem_of_getElem? (i := 1) rfl) rfl
theorem wp_2_2 : Cond.selects "PolicyTree$FilterReader" ⟨"PolicyTree$FilterReader", "mayOpen", "(II)Z"⟩ ⟨"PolicyTree$FilterReader", "mayOpen", "(II)Z"⟩ ∈ TB := tbp_2 (q := (⟨"PolicyTree$FilterReader", "mayOpen", "(II)Z"⟩, 9)) (List.mem_of_getElem? (i := 2) rfl) rfl
theorem wp_2_3 : Cond.selects "PolicyTree$FilterReader" ⟨"PolicyTree$FilterReader", "blame", "(II)V"⟩ ⟨"PolicyTree$FilterReader", "blame", "(II)V"⟩ ∈ TB := tbp_2 (q := (⟨"PolicyTree$FilterReader", "blame", "(II)V"⟩, 9)) (List.mem_of_getElem? (i := 3) rfl) rfl
theorem wp_2_4 : Cond.selects "PolicyTree$FilterReader" ⟨"PolicyTree$FilterReader", "takesWord", "(Ljava/lang/String;)Z"⟩ ⟨"PolicyTree$FilterReader", "takesWord", "(Ljava/lang/String;)Z"⟩ ∈ TB := tbp_2 (q := (⟨"PolicyTree$FilterReader", "takesWord", "(Ljava/lang/String;)Z"⟩, 9)) (List.mem_of_getElem? (i := 4) rfl) rfl
theorem wp_2_5 : Cond.selects "PolicyTree$FilterReader" ⟨"PolicyTree$FilterReader", "addStep", "(II)V"⟩ ⟨"PolicyTree$FilterReader", "addStep", "(II)V"⟩ ∈ TB := tbp_2 (q := (⟨"PolicyTree$FilterReader", "addStep", "(II)V"⟩, 9)) (List.mem_of_getElem? (i := 5) rfl) rfl
theorem wp_2_6 : Cond.selects "PolicyTree$FilterReader" ⟨"PolicyTree$FilterReader", "readNumber", "(II)V"⟩ ⟨"PolicyTree$FilterReader", "readNumber", "(II)V"⟩ ∈ TB := tbp_2 (q := (⟨"PolicyTree$FilterReader", "readNumber", "(II)V"⟩, 9)) (List.mem_of_getElem? (i := 6) rfl) rfl
theorem wp_2_7 : Cond.selects "java/util/ArrayList" ⟨"java/util/ArrayList", "rangeCheckForAdd", "(I)V"⟩ ⟨"java/util/ArrayList", "rangeCheckForAdd", "(I)V"⟩ ∈ TB := tbp_2 (q := (⟨"java/util/ArrayList", "rangeCheckForAdd", "(I)V"⟩, 3)) (List.mem_of_getElem? (i := 7) rfl) rfl
theorem wp_2_8 : Cond.selects "java/util/ArrayList" ⟨"java/util/ArrayList", "outOfBoundsMsg", "(I)Ljava/lang/String;"⟩ ⟨"java/util/ArrayList", "outOfBoundsMsg", "(I)Ljava/lang/String;"⟩ ∈ TB := tbp_2 (q := (⟨"java/util/ArrayList", "outOfBoundsMsg", "(I)Ljava/lang/String;"⟩, 3)) (List.mem_of_getElem? (i := 8) rfl) rfl
theorem wp_2_9 : Cond.selects "java/util/ArrayList" ⟨"java/util/ArrayList", "fastRemove", "([Ljava/lang/Object;I)V"⟩ ⟨"java/util/ArrayList", "fastRemove", "([Ljava/lang/Object;I)V"⟩ ∈ TB := tbp_2 (q := (⟨"java/util/ArrayList", "fastRemove", "([Ljava/lang/Object;I)V"⟩, 3)) (List.mem_of_getElem? (i := 9) rfl) rfl
theorem wp_2_10 : Cond.selects "PolicyTree" ⟨"PolicyTree", "findOutcome", "(II)V"⟩ ⟨"PolicyTree", "findOutcome", "(II)V"⟩ ∈ TB := tbp_2 (q := (⟨"PolicyTree", "findOutcome", "(II)V"⟩, 14)) (List.mem_of_getElem? (i := 10) rfl) rfl
theorem wp_2_11 : Cond.selects "PolicyTree" ⟨"PolicyTree", "isSameInLane", "(II)Z"⟩ ⟨"PolicyTree", "isSameInLane", "(II)Z"⟩ ∈ TB := tbp_2 (q := (⟨"PolicyTree", "isSameInLane", "(II)Z"⟩, 14)) (List.mem_of_getElem? (i := 11) rfl) rfl
theorem wp_2_12 : Cond.selects "PolicyTree" ⟨"PolicyTree", "listReach", "(LPolicyTree$Link;)I"⟩ ⟨"PolicyTree", "listReach", "(LPolicyTree$Link;)I"⟩ ∈ TB := tbp_2 (q := (⟨"PolicyTree", "listReach", "(LPolicyTree$Link;)I"⟩, 14)) (List.mem_of_getElem? (i := 12) rfl) rfl
theorem wp_2_13 : Cond.selects "PolicyTree" ⟨"PolicyTree", "addReach", "(LPolicyTree$Link;II)I"⟩ ⟨"PolicyTree", "addReach", "(LPolicyTree$Link;II)I"⟩ ∈ TB := tbp_2 (q := (⟨"PolicyTree", "addReach", "(LPolicyTree$Link;II)I"⟩, 14)) (List.mem_of_getElem? (i := 13) rfl) rfl
theorem wp_2_14 : Cond.selects "PolicyTree" ⟨"PolicyTree", "findQuarreller", "(III)I"⟩ ⟨"PolicyTree", "findQuarreller", "(III)I"⟩ ∈ TB := tbp_2 (q := (⟨"PolicyTree", "findQuarreller", "(III)I"⟩, 14)) (List.mem_of_getElem? (i := 14) rfl) rfl
theorem wp_2_15 : Cond.selects "PolicyTreeModel" ⟨"PolicyTreeModel", "none", "(II)Z"⟩ ⟨"PolicyTreeModel", "none", "(II)Z"⟩ ∈ TB := tbp_2 (q := (⟨"PolicyTreeModel", "none", "(II)Z"⟩, 47)) (List.mem_of_getElem? (i := 15) rfl) rfl
theorem tbp_3 {q : MethodName × Nat} (h : q ∈ lw_privs_3) (g : goodWord (Cond.selects q.1.cls q.1 q.1) = true) : Cond.selects q.1.cls q.1 q.1 ∈ TB := tb_in (List.mem_append_left _ (List.mem_map.mpr ⟨q, by show q ∈ lw_privs; exact List.mem_append_right _ (List.mem_append_right _ (List.mem_append_left _ h)), rfl⟩)) g
theorem wp_3_0 : Cond.selects "PolicyTreeModel" ⟨"PolicyTreeModel", "bad", "(ZI)Z"⟩ ⟨"PolicyTreeModel", "bad", "(ZI)Z"⟩ ∈ TB := tbp_3 (q := (⟨"PolicyTreeModel", "bad", "(ZI)Z"⟩, 47)) (List.mem_of_getElem? (i := 0) rfl) rfl
theorem wp_3_1 : Cond.selects "PolicyTreeModel" ⟨"PolicyTreeModel", "allIn", "(I)I"⟩ ⟨"PolicyTreeModel", "allIn", "(I)I"⟩ ∈ TB := tbp_3 (q := (⟨"PolicyTreeModel", "allIn", "(I)I"⟩, 47)) (List.mem_of_getElem? (i := 1) rfl) rfl
theorem wp_3_2 : Cond.selects "PolicyTreeModel" ⟨"PolicyTreeModel", "tells", "(II)Z"⟩ ⟨"PolicyTreeModel", "tells", "(II)Z"⟩ ∈ TB := tbp_3 (q := (⟨"PolicyTreeModel", "tells", "(II)Z"⟩, 47)) (List.mem_of_getElem? (i := 2) rfl) rfl
theorem wp_3_3 : Cond.selects "PolicyTreeModel" ⟨"PolicyTreeModel", "blanks", "()V"⟩ ⟨"PolicyTreeModel", "blanks", "()V"⟩ ∈ TB := tbp_3 (q := (⟨"PolicyTreeModel", "blanks", "()V"⟩, 47)) (List.mem_of_getElem? (i := 3) rfl) rfl
theorem wp_3_4 : Cond.selects "PolicyTreeModel" ⟨"PolicyTreeModel", "byteAt", "(I)I"⟩ ⟨"PolicyTreeModel", "byteAt", "(I)I"⟩ ∈ TB := tbp_3 (q := (⟨"PolicyTreeModel", "byteAt", "(I)I"⟩, 47)) (List.mem_of_getElem? (i := 4) rfl) rfl
theorem wp_3_5 : Cond.selects "PolicyTreeModel" ⟨"PolicyTreeModel", "any", "()V"⟩ ⟨"PolicyTreeModel", "any", "()V"⟩ ∈ TB := tbp_3 (q := (⟨"PolicyTreeModel", "any", "()V"⟩, 47)) (List.mem_of_getElem? (i := 5) rfl) rfl
theorem wp_3_6 : Cond.selects "PolicyTreeModel" ⟨"PolicyTreeModel", "all", "()V"⟩ ⟨"PolicyTreeModel", "all", "()V"⟩ ∈ TB := tbp_3 (q := (⟨"PolicyTreeModel", "all", "()V"⟩, 47)) (List.mem_of_getElem? (i := 6) rfl) rfl
theorem wp_3_7 : Cond.selects "PolicyTreeModel" ⟨"PolicyTreeModel", "one", "()V"⟩ ⟨"PolicyTreeModel", "one", "()V"⟩ ∈ TB := tbp_3 (q := (⟨"PolicyTreeModel", "one", "()V"⟩, 47)) (List.mem_of_getElem? (i := 7) rfl) rfl
theorem wp_3_8 : Cond.selects "PolicyTreeModel" ⟨"PolicyTreeModel", "isWord", "(Ljava/lang/String;)Z"⟩ ⟨"PolicyTreeModel", "isWord", "(Ljava/lang/String;)Z"⟩ ∈ TB := tbp_3 (q := (⟨"PolicyTreeModel", "isWord", "(Ljava/lang/String;)Z"⟩, 47)) (List.mem_of_getElem? (i := 8) rfl) rfl
theorem wp_3_9 : Cond.selects "PolicyTreeModel" ⟨"PolicyTreeModel", "opens", "()Z"⟩ ⟨"PolicyTreeModel", "opens", "()Z"⟩ ∈ TB := tbp_3 (q := (⟨"PolicyTreeModel", "opens", "()Z"⟩, 47)) (List.mem_of_getElem? (i := 9) rfl) rfl
theorem wp_3_10 : Cond.selects "PolicyTreeModel" ⟨"PolicyTreeModel", "wrong", "(II)V"⟩ ⟨"PolicyTreeModel", "wrong", "(II)V"⟩ ∈ TB := tbp_3 (q := (⟨"PolicyTreeModel", "wrong", "(II)V"⟩, 47)) (List.mem_of_getElem? (i := 10) rfl) rfl
theorem wp_3_11 : Cond.selects "PolicyTreeModel" ⟨"PolicyTreeModel", "emits", "(I)V"⟩ ⟨"PolicyTreeModel", "emits", "(I)V"⟩ ∈ TB := tbp_3 (q := (⟨"PolicyTreeModel", "emits", "(I)V"⟩, 47)) (List.mem_of_getElem? (i := 11) rfl) rfl
theorem wp_3_12 : Cond.selects "PolicyTreeModel" ⟨"PolicyTreeModel", "eat", "(Ljava/lang/String;)Z"⟩ ⟨"PolicyTreeModel", "eat", "(Ljava/lang/String;)Z"⟩ ∈ TB := tbp_3 (q := (⟨"PolicyTreeModel", "eat", "(Ljava/lang/String;)Z"⟩, 47)) (List.mem_of_getElem? (i := 12) rfl) rfl
theorem wp_3_13 : Cond.selects "PolicyTreeModel" ⟨"PolicyTreeModel", "number", "(II)V"⟩ ⟨"PolicyTreeModel", "number", "(II)V"⟩ ∈ TB := tbp_3 (q := (⟨"PolicyTreeModel", "number", "(II)V"⟩, 47)) (List.mem_of_getElem? (i := 13) rfl) rfl
theorem wp_3_14 : Cond.selects "PolicyTreeModel" ⟨"PolicyTreeModel", "isAsked", "(II)Z"⟩ ⟨"PolicyTreeModel", "isAsked", "(II)Z"⟩ ∈ TB := tbp_3 (q := (⟨"PolicyTreeModel", "isAsked", "(II)Z"⟩, 47)) (List.mem_of_getElem? (i := 14) rfl) rfl
theorem wp_3_15 : Cond.selects "PolicyTreeModel" ⟨"PolicyTreeModel", "groupsAnew", "()V"⟩ ⟨"PolicyTreeModel", "groupsAnew", "()V"⟩ ∈ TB := tbp_3 (q := (⟨"PolicyTreeModel", "groupsAnew", "()V"⟩, 47)) (List.mem_of_getElem? (i := 15) rfl) rfl
theorem tbp_4 {q : MethodName × Nat} (h : q ∈ lw_privs_4) (g : goodWord (Cond.selects q.1.cls q.1 q.1) = true) : Cond.selects q.1.cls q.1 q.1 ∈ TB := tb_in (List.mem_append_left _ (List.mem_map.mpr ⟨q, by show q ∈ lw_privs; exact List.mem_append_right _ (List.mem_append_right _ (List.mem_append_right _ (h))), rfl⟩)) g
theorem wp_4_0 : Cond.selects "PolicyTreeModel" ⟨"PolicyTreeModel", "yesOf", "(I)I"⟩ ⟨"PolicyTreeModel", "yesOf", "(I)I"⟩ ∈ TB := tbp_4 (q := (⟨"PolicyTreeModel", "yesOf", "(I)I"⟩, 47)) (List.mem_of_getElem? (i := 0) rfl) rfl
theorem wp_4_1 : Cond.selects "PolicyTreeModel" ⟨"PolicyTreeModel", "makes", "(III)V"⟩ ⟨"PolicyTreeModel", "makes", "(III)V"⟩ ∈ TB := tbp_4 (q := (⟨"PolicyTreeModel", "makes", "(III)V"⟩, 47)) (List.mem_of_getElem? (i := 1) rfl) rfl
theorem wp_4_2 : Cond.selects "PolicyTreeModel" ⟨"PolicyTreeModel", "adds", "(IZIII)V"⟩ ⟨"PolicyTreeModel", "adds", "(IZIII)V"⟩ ∈ TB := tbp_4 (q := (⟨"PolicyTreeModel", "adds", "(IZIII)V"⟩, 47)) (List.mem_of_getElem? (i := 2) rfl) rfl
theorem wp_4_3 : Cond.selects "PolicyTreeModel" ⟨"PolicyTreeModel", "holds", "(III)Z"⟩ ⟨"PolicyTreeModel", "holds", "(III)Z"⟩ ∈ TB := tbp_4 (q := (⟨"PolicyTreeModel", "holds", "(III)Z"⟩, 47)) (List.mem_of_getElem? (i := 3) rfl) rfl
theorem wp_4_4 : Cond.selects "PolicyTreeModel" ⟨"PolicyTreeModel", "isBelow", "(II)Z"⟩ ⟨"PolicyTreeModel", "isBelow", "(II)Z"⟩ ∈ TB := tbp_4 (q := (⟨"PolicyTreeModel", "isBelow", "(II)Z"⟩, 47)) (List.mem_of_getElem? (i := 4) rfl) rfl
theorem wp_4_5 : Cond.selects "PolicyTreeModel" ⟨"PolicyTreeModel", "outcomes", "(I)V"⟩ ⟨"PolicyTreeModel", "outcomes", "(I)V"⟩ ∈ TB := tbp_4 (q := (⟨"PolicyTreeModel", "outcomes", "(I)V"⟩, 47)) (List.mem_of_getElem? (i := 5) rfl) rfl
theorem wp_4_6 : Cond.selects "PolicyTreeModel" ⟨"PolicyTreeModel", "valueOf", "(II)I"⟩ ⟨"PolicyTreeModel", "valueOf", "(II)I"⟩ ∈ TB := tbp_4 (q := (⟨"PolicyTreeModel", "valueOf", "(II)I"⟩, 47)) (List.mem_of_getElem? (i := 6) rfl) rfl
theorem wp_4_7 : Cond.selects "PolicyTreeModel" ⟨"PolicyTreeModel", "keepsThem", "()V"⟩ ⟨"PolicyTreeModel", "keepsThem", "()V"⟩ ∈ TB := tbp_4 (q := (⟨"PolicyTreeModel", "keepsThem", "()V"⟩, 47)) (List.mem_of_getElem? (i := 7) rfl) rfl
theorem wp_4_8 : Cond.selects "PolicyTreeModel" ⟨"PolicyTreeModel", "isAsKept", "()Z"⟩ ⟨"PolicyTreeModel", "isAsKept", "()Z"⟩ ∈ TB := tbp_4 (q := (⟨"PolicyTreeModel", "isAsKept", "()Z"⟩, 47)) (List.mem_of_getElem? (i := 8) rfl) rfl
theorem wp_4_9 : Cond.selects "PolicyTreeModel" ⟨"PolicyTreeModel", "reaches", "(II)I"⟩ ⟨"PolicyTreeModel", "reaches", "(II)I"⟩ ∈ TB := tbp_4 (q := (⟨"PolicyTreeModel", "reaches", "(II)I"⟩, 47)) (List.mem_of_getElem? (i := 9) rfl) rfl
theorem wp_4_10 : Cond.selects "PolicyTreeModel" ⟨"PolicyTreeModel", "looks", "(I)I"⟩ ⟨"PolicyTreeModel", "looks", "(I)I"⟩ ∈ TB := tbp_4 (q := (⟨"PolicyTreeModel", "looks", "(I)I"⟩, 47)) (List.mem_of_getElem? (i := 10) rfl) rfl
theorem wp_4_11 : Cond.selects "PolicyTreeModel" ⟨"PolicyTreeModel", "areUnlike", "(II)Z"⟩ ⟨"PolicyTreeModel", "areUnlike", "(II)Z"⟩ ∈ TB := tbp_4 (q := (⟨"PolicyTreeModel", "areUnlike", "(II)Z"⟩, 47)) (List.mem_of_getElem? (i := 11) rfl) rfl
end
section
/-! ===== the words of the three exceptions ===== -/
abbrev eI : String := "java/lang/IndexOutOfBoundsException"
abbrev eA : String := "java/lang/IllegalArgumentException"
abbrev eS : String := "java/lang/IllegalStateException"
abbrev eN : List String := ["java/lang/RuntimeException", "java/lang/Exception"]
theorem ex_gI : ∀ w ∈ (vx_atS RX11 259 eI eN).filter goodWord, w ∈ lw_tbl := by decide +kernel
theorem ex_gA : ∀ w ∈ (vx_atS RX11 134 eA eN).filter goodWord, w ∈ lw_tbl := by decide +kernel
theorem ex_gS : ∀ w ∈ (vx_atS RX11 266 eS eN).filter goodWord, w ∈ lw_tbl := by decide +kernel
theorem ex_bI : ∀ w ∈ (vx_atS RX11 259 eI eN).filter (fun w => !goodWord w), w ∈ [Cond.castable eI eI, Cond.declares ⟨"java/lang/RuntimeException", "<init>", "(Ljava/lang/String;)V"⟩, Cond.declares ⟨"java/lang/Exception", "<init>", "(Ljava/lang/String;)V"⟩, Cond.declares ⟨"java/lang/Throwable", "<init>", "(Ljava/lang/String;)V"⟩] := by decide +kernel
theorem ex_bA : ∀ w ∈ (vx_atS RX11 134 eA eN).filter (fun w => !goodWord w), w ∈ [Cond.castable eA eA, Cond.declares ⟨"java/lang/RuntimeException", "<init>", "(Ljava/lang/String;)V"⟩, Cond.declares ⟨"java/lang/Exception", "<init>", "(Ljava/lang/String;)V"⟩, Cond.declares ⟨"java/lang/Throwable", "<init>", "(Ljava/lang/String;)V"⟩] := by decide +kernel
theorem ex_bS : ∀ w ∈ (vx_atS RX11 266 eS eN).filter (fun w => !goodWord w), w ∈ [Cond.castable eS eS, Cond.declares ⟨"java/lang/RuntimeException", "<init>", "(Ljava/lang/String;)V"⟩, Cond.declares ⟨"java/lang/Exception", "<init>", "(Ljava/lang/String;)V"⟩, Cond.declares ⟨"java/lang/Throwable", "<init>", "(Ljava/lang/String;)V"⟩] := by decide +kernel
theorem ex_oI : ∀ w ∈ Cond.classLink RX11 255 eI :: Cond.initialized eI :: vx_atS RX11 259 eI eN, vx_ot w = true := by decide +kernel
theorem ex_oA : ∀ w ∈ Cond.classLink RX11 130 eA :: Cond.initialized eA :: vx_atS RX11 134 eA eN, vx_ot w = true := by decide +kernel
theorem ex_oS : ∀ w ∈ Cond.classLink RX11 262 eS :: Cond.initialized eS :: vx_atS RX11 266 eS eN, vx_ot w = true := by decide +kernel
end
section
/-! ===== the functional heap: what each address holds; how many cells there are; programs over it, with what they make ===== -/
/-- an object (its class's number in vwCl, its fields) or an array (its kind: 0 byte, 1 int, 2 long, 3 boolean, 4 Object; from 10 on: not to be written) -/
abbrev Ce : Type := (Nat × List Value) ⊕ (Nat × vp_A)
abbrev Hs : Type := (Nat → Option Ce) × Nat
abbrev Mo (α : Type) : Type := Hs → Option (α × Hs × Nat × Nat)
def mp {α : Type} (a : α) : Mo α := fun h => some (a, h, 0, 0)
def mf {α : Type} : Mo α := fun _ => none
def mb {α β : Type} (x : Mo α) (f : α → Mo β) : Mo β := fun h => match x h with
  | none => none
  | some (a, h1, c, n) => match f a h1 with
    | none => none
    | some (b, h2, c2, n2) => some (b, h2, c + c2, n + n2)
theorem mb_some {α β : Type} {x : Mo α} {f : α → Mo β} {h h2 : Hs} {b : β} {c n : Nat} (e : mb x f h = some (b, h2, c, n)) : ∃ a h1 c1 n1 c2 n2, x h = some (a, h1, c1, n1) ∧ f a h1 = some (b, h2, c2, n2) ∧ c = c1 + c2 ∧ n = n1 + n2 := by
  unfold mb at e
  split at e
  · cases e
  · rename_i a h1 c1 n1 e1
    split at e
    · cases e
    · rename_i b' h2' c2 n2 e2
      cases e
      exact ⟨a, h1, c1, n1, c2, n2, e1, e2, rfl, rfl⟩
/-- the object r, of class ci -/
def ob (ci : Nat) (r : Option Nat) (h : Hs) : Option (Nat × List Value) := match r with
  | none => none
  | some a => match h.1 a with
    | some (.inl (c, fs)) => if c = ci then some (a, fs) else none
    | _ => none
def gI (ci k : Nat) (r : Option Nat) : Mo Int32 := fun h => match ob ci r h with
  | none => none
  | some (_, fs) => match fs[k]? with
    | some (.int x) => some (x, h, 0, 0)
    | _ => none
def gL (ci k : Nat) (r : Option Nat) : Mo Int64 := fun h => match ob ci r h with
  | none => none
  | some (_, fs) => match fs[k]? with
    | some (.long x) => some (x, h, 0, 0)
    | _ => none
def gR (ci k : Nat) (r : Option Nat) : Mo (Option Nat) := fun h => match ob ci r h with
  | none => none
  | some (_, fs) => match fs[k]? with
    | some (.ref a) => some (some a, h, 0, 0)
    | some .null => some (none, h, 0, 0)
    | _ => none
/-- a field is written: of a class whose objects may be written -/
def pV (ci k : Nat) (r : Option Nat) (v : Value) : Mo Unit := fun h => match ob ci r h with
  | none => none
  | some (a, fs) => if k < fs.length ∧ ci ≠ 0 then some ((), (va_up h.1 a (some (.inl (ci, fs.set k v))), h.2), 0, 0) else none
/-- a receiver: an object of class ci -/
def mo {α : Type} (ci : Nat) (r : Option Nat) (x : Mo α) : Mo α := fun h => match ob ci r h with
  | none => none
  | some _ => x h
/-- arrays -/
def ar (t : Nat) (r : Option Nat) (h : Hs) : Option (Nat × Nat × vp_A) := match r with
  | none => none
  | some a => match h.1 a with
    | some (.inr (u, x)) => if u % 10 = t then some (a, u, x) else none
    | _ => none
def aI (t : Nat) (r : Option Nat) (i : Int32) : Mo Int32 := fun h => match ar t r h with
  | some (_, _, (n, .inl f)) => if i < 0 ∨ n ≤ i.toNatClampNeg then none else some (f i.toNatClampNeg, h, 0, 0)
  | _ => none
def aL (r : Option Nat) (i : Int32) : Mo Int64 := fun h => match ar 2 r h with
  | some (_, _, (n, .inr (.inl f))) => if i < 0 ∨ n ≤ i.toNatClampNeg then none else some (f i.toNatClampNeg, h, 0, 0)
  | _ => none
def aR (r : Option Nat) (i : Int32) : Mo (Option Nat) := fun h => match ar 4 r h with
  | some (_, _, (n, .inr (.inr (.inr (.inr f))))) => if i < 0 ∨ n ≤ i.toNatClampNeg then none else some (f i.toNatClampNeg, h, 0, 0)
  | _ => none
def aN (t : Nat) (r : Option Nat) : Mo Int32 := fun h => match ar t r h with
  | some (_, _, (n, _)) => some (Int32.ofNat n, h, 0, 0)
  | _ => none
/-- what an array of kind t keeps of an int -/
def kp (t : Nat) (x : Int32) : Int32 := if t = 0 then vp_nar .byte x else if t = 3 then x &&& 1 else x
def sI (t : Nat) (r : Option Nat) (i x : Int32) : Mo Unit := fun h => match ar t r h with
  | some (a, u, (n, .inl f)) => if i < 0 ∨ n ≤ i.toNatClampNeg ∨ u ≠ t then none else some ((), (va_up h.1 a (some (.inr (t, (n, .inl (upd f i.toNatClampNeg (kp t x)))))), h.2), 0, 0)
  | _ => none
def sL (r : Option Nat) (i : Int32) (x : Int64) : Mo Unit := fun h => match ar 2 r h with
  | some (a, u, (n, .inr (.inl f))) => if i < 0 ∨ n ≤ i.toNatClampNeg ∨ u ≠ 2 then none else some ((), (va_up h.1 a (some (.inr (2, (n, .inr (.inl (vp_updL f i.toNatClampNeg x)))))), h.2), 0, 0)
  | _ => none
/-- a reference is stored: null, or an object of a class of vwCl -/
def sR (r : Option Nat) (i : Int32) (v : Option Nat) : Mo Unit := fun h => match ar 4 r h with
  | some (a, u, (n, .inr (.inr (.inr (.inr f))))) => if i < 0 ∨ n ≤ i.toNatClampNeg ∨ u ≠ 4 then none else
    match v with
    | none => some ((), (va_up h.1 a (some (.inr (4, (n, .inr (.inr (.inr (.inr (va_up f i.toNatClampNeg none)))))))), h.2), 0, 0)
    | some b => match h.1 b with
      | some (.inl _) => some ((), (va_up h.1 a (some (.inr (4, (n, .inr (.inr (.inr (.inr (va_up f i.toNatClampNeg (some b))))))))), h.2), 0, 0)
      | _ => none
  | _ => none
def nO (ci : Nat) (fs : List Value) : Mo (Option Nat) := fun h => some (some h.2, (va_up h.1 h.2 (some (.inl (ci, fs))), h.2 + 1), 1, fs.length)
/-- a fresh array's contents -/
def z0 (t : Nat) : ((Nat → Int32) ⊕ (Nat → Int64) ⊕ (Nat → UInt32) ⊕ (Nat → UInt64) ⊕ (Nat → Option Nat)) := if t = 2 then .inr (.inl (fun _ => 0)) else if t = 4 then .inr (.inr (.inr (.inr (fun _ => none)))) else .inl (fun _ => 0)
def nA (t : Nat) (i : Int32) : Mo (Option Nat) := fun h => if i < 0 ∨ 1000000 < i.toNatClampNeg then none else some (some h.2, (va_up h.1 h.2 (some (.inr (t, (i.toNatClampNeg, z0 t)))), h.2 + 1), 1, i.toNatClampNeg)
/-! ===== the heap of the machine ===== -/
def ce_e (cy : Nat → ClassId) (x : Ce) : va_E := match x with
  | .inl o => .inr o
  | .inr a => .inl (cy (a.1 % 10), a.2)
def ce_w (x : Ce) : Bool := match x with
  | .inl o => decide (o.1 ≠ 0)
  | .inr a => decide (a.1 < 10)
abbrev tysA (cy : Nat → ClassId) : List (ClassId × FieldType) := [(cy 0, .byte), (cy 1, .int), (cy 2, .long), (cy 3, .boolean), (cy 4, .object "java/lang/Object")]
def HW (D : va_G) (cy : Nat → ClassId) (A : Nat → Prop) (h : Hs) (H : Heap) : Prop := H.size = h.2 ∧ ∀ (q : Nat) (x : Ce), h.1 q = some x → va_at D vwCl (q, ce_e cy x) H ∧ (ce_w x = true → A q)
theorem HW.put {D : va_G} {cy : Nat → ClassId} {A : Nat → Prop} {h : Hs} {H H1 : Heap} {a : Nat} {y : Ce} (w : HW D cy A h H) (ha : A a) (e : va_at D vwCl (a, ce_e cy y) H1) (z : H1.size = H.size) (oq : ∀ q, q ≠ a → H1[q]? = H[q]?) : HW D cy A (va_up h.1 a (some y), h.2) H1 := by
  refine ⟨z.trans w.1, fun q x hq => ?_⟩
  by_cases hqa : q = a
  · subst hqa
    rw [show (va_up h.1 q (some y), h.2).1 q = some y from va_up_self ..] at hq
    cases hq
    exact ⟨e, fun _ => ha⟩
  · rw [show (va_up h.1 a (some y), h.2).1 q = h.1 q from va_up_ne _ _ hqa] at hq
    exact ⟨(w.2 q x hq).1.kept (oq q hqa), (w.2 q x hq).2⟩
theorem HW.push {D : va_G} {cy : Nat → ClassId} {A : Nat → Prop} {h : Hs} {H H1 : Heap} {y : Ce} (w : HW D cy A h H) (ha : A H.size) (e : va_at D vwCl (H.size, ce_e cy y) H1) (z : H1.size = H.size + 1) (oq : ∀ q, q < H.size → H1[q]? = H[q]?) : HW D cy A (va_up h.1 h.2 (some y), h.2 + 1) H1 := by
  have hz := w.1
  refine ⟨by rw [z, hz], fun q x hq => ?_⟩
  by_cases hqa : q = h.2
  · subst hqa
    rw [show (va_up h.1 h.2 (some y), h.2 + 1).1 h.2 = some y from va_up_self ..] at hq
    cases hq
    rw [← hz]
    exact ⟨e, fun _ => ha⟩
  · rw [show (va_up h.1 h.2 (some y), h.2 + 1).1 q = h.1 q from va_up_ne _ _ hqa] at hq
    exact ⟨(w.2 q x hq).1.kept (oq q (w.2 q x hq).1.lt), (w.2 q x hq).2⟩
/-! ===== what stays as it was: words of the tables that aren't good ones, static fields, texts ===== -/
def nwOk : Cond → Bool
  | .methodLinkNest .. => true
  | .castable .. => true
  | .declares x => decide (x.cls ≠ "java/lang/invoke/MethodHandle" ∧ x.cls ≠ "java/lang/invoke/VarHandle")
  | _ => false
theorem nw_warm {w : Cond} (hw : nwOk w = true) {s U : State} (hW : s.WarmedH U.vm) (h : va_Nw w s) : va_Nw w U := by
  unfold nwOk at hw
  split at hw
  · exact va_Nw.warmM hW h
  · exact va_Nw.warmC hW h
  · exact va_Nw.warmD hW h
  · cases hw
def nwL : List Cond := [.methodLinkNest "PolicyTree" 21 ⟨"PolicyTree$Groups", "<init>", "()V"⟩ "PolicyTree", .methodLinkNest "PolicyTree" 38 ⟨"PolicyTree$Tape", "<init>", "()V"⟩ "PolicyTree", .methodLinkNest "PolicyTree" 58 ⟨"PolicyTree$Row", "<init>", "()V"⟩ "PolicyTree", .methodLinkNest "PolicyTree$Row" 27 ⟨"PolicyTree$Standing", "<init>", "()V"⟩ "PolicyTree", .methodLinkNest "PolicyTree" 68 ⟨"PolicyTree$Outcome", "<init>", "()V"⟩ "PolicyTree", .methodLinkNest "PolicyTree" 159 ⟨"PolicyTree$Bundle", "<init>", "()V"⟩ "PolicyTree", .castable "java/lang/String" "java/lang/Object", .castable "java/lang/StringBuilder" "java/lang/Object", .castable "java/util/ArrayList" "java/lang/Object", .castable "PolicyTree$Bundle" "java/lang/Object", .castable "PolicyTree$Filter" "java/lang/Object", .castable "PolicyTree$FilterReader" "java/lang/Object", .castable "PolicyTree$Groups" "java/lang/Object", .castable "PolicyTree$Link" "java/lang/Object", .castable "PolicyTree$Machine" "java/lang/Object", .castable "PolicyTree$Node" "java/lang/Object", .castable "PolicyTree$Outcome" "java/lang/Object", .castable "PolicyTree$Row" "java/lang/Object", .castable "PolicyTree$Standing" "java/lang/Object", .castable "PolicyTree$Tape" "java/lang/Object", .castable "PolicyTree" "java/lang/Object", .castable "PolicyTreeModel" "java/lang/Object", .castable "java/lang/IndexOutOfBoundsException" "java/lang/IndexOutOfBoundsException", .castable "java/lang/IllegalArgumentException" "java/lang/IllegalArgumentException", .castable "java/lang/IllegalStateException" "java/lang/IllegalStateException", .declares ⟨"java/lang/RuntimeException", "<init>", "(Ljava/lang/String;)V"⟩, .declares ⟨"java/lang/Exception", "<init>", "(Ljava/lang/String;)V"⟩, .declares ⟨"java/lang/Throwable", "<init>", "(Ljava/lang/String;)V"⟩]
theorem nwL_ok : ∀ w ∈ nwL, nwOk w = true := by decide
/-- what the guesses are -/
def gu (j : Nat) : Int64 := [-6148914691236517206, -3689348814741910324, -1085102592571150096, -71777214294589696, -281470681808896, -4294967296].getD j 0
/-- the six words, their lengths and bytes -/
def wLen : List Nat := [3, 5, 4, 4, 3, 2]
def wByt : List (List Int32) := [[110, 111, 116], [103, 114, 111, 117, 112], [102, 97, 99, 116], [110, 111, 100, 101], [97, 110, 100], [111, 114]]
/-- where the texts stand: class, entry, text, its number -/
def wRef : List (String × Nat × String × Nat) := [("PolicyTree$FilterReader", 96, "not", 0), ("PolicyTree$FilterReader", 98, "group", 1), ("PolicyTree$FilterReader", 103, "fact", 2), ("PolicyTree$FilterReader", 105, "node", 3), ("PolicyTree$FilterReader", 86, "and", 4), ("PolicyTree$FilterReader", 74, "or", 5), ("PolicyTreeModel", 187, "not", 0), ("PolicyTreeModel", 196, "group", 1), ("PolicyTreeModel", 201, "fact", 2), ("PolicyTreeModel", 203, "node", 3), ("PolicyTreeModel", 178, "and", 4), ("PolicyTreeModel", 166, "or", 5), ("PolicyTree", 257, "none has this number", 30), ("PolicyTree", 264, "there are as many as may be", 31), ("PolicyTree", 260, "no such choice", 32), ("PolicyTree", 132, "a fact is 1, 0 or -1", 33)]
/-- a reference of which nothing more is known -/
def zF (Z : Nat → Nat) : Option Nat := if Z 4 = 0 then none else some (Z 3)
/-- Z 0: the empty list's array; Z 1: the guesses; Z 2: the class object of Object[]; Z 10 ..: texts; Z 50 ..: their bytes -/
def ZS (Z : Nat → Nat) (A : Nat → Prop) (U : State) (H : Heap) : Prop :=
  (∀ w ∈ nwL, va_Nw w U) ∧
  (va_Z "java/util/ArrayList" "DEFAULTCAPACITY_EMPTY_ELEMENTDATA" "[Ljava/lang/Object;" (.ref (Z 0)) A U H ∧ va_T (.object "java/lang/Object") (Z 0) 0 (fun _ => .null) A U H) ∧
  (va_Z "PolicyTree$Standing" "GUESSES" "[J" (.ref (Z 1)) A U H ∧ va_T .long (Z 1) 6 (fun j => .long (gu j)) A U H) ∧
  (va_Mi "[Ljava/lang/Object;" (Z 2) U ∧ va_Dc U ∧ va_AO "java/lang/Object" U) ∧
  (va_Z "java/lang/String" "COMPACT_STRINGS" "Z" (.int 1) A U H ∧ vk_S 6 wLen wByt (fun i => Z (10 + i)) (fun i => Z (50 + i)) A U H) ∧
  (∀ x ∈ wRef, vk_R x.1 x.2.1 x.2.2.1 (Z (10 + x.2.2.2)) U) ∧
  va_Z "jdk/internal/util/Preconditions" "SIOOBE_FORMATTER" "Ljava/util/function/BiFunction;" (va_rf (zF Z)) A U H ∧
  (vx_Zq Bundle.tN "UNASSIGNED_STACK" Bundle.steD A U H ∧ vx_Zq Bundle.tN "SUPPRESSED_SENTINEL" Bundle.listD A U H) ∧
  (va_Nc eS eI U ∧ va_Nc eA eI U ∧ va_Nc eS eA U)
theorem ZS.moved {Z : Nat → Nat} {A : Nat → Prop} {s U : State} {H : Heap} (hW : s.WarmedH U.vm) (h : ZS Z A s H) : ZS Z A U H := by
  obtain ⟨h1, ⟨h2, h3⟩, ⟨h4, h5⟩, ⟨h6, h7, h8⟩, ⟨h9, h10⟩, h11, h12, ⟨h13, h14⟩, h15, h16, h17⟩ := h
  have ha := hW.alike
  exact ⟨fun w hw => nw_warm (nwL_ok w hw) hW (h1 w hw), ⟨h2.moved ha, h3.moved ha⟩, ⟨h4.moved ha, h5.moved ha⟩, ⟨h6.moved ha, h7.moved ha, h8.moved ha⟩, ⟨h9.moved ha, h10.moved ha⟩, fun x hx => (h11 x hx).warm hW, h12.moved ha, ⟨h13.moved ha, h14.moved ha⟩, h15.moved ha, h16.moved ha, h17.moved ha⟩
theorem ZS.kept {Z : Nat → Nat} {A : Nat → Prop} {U : State} {H H1 : Heap} (h : ZS Z A U H) (hq : ∀ a : Nat, a < H.size → ¬ A a → H1[a]? = H[a]?) : ZS Z A U H1 := by
  obtain ⟨h1, ⟨h2, h3⟩, ⟨h4, h5⟩, ⟨h6, h7, h8⟩, ⟨h9, h10⟩, h11, h12, ⟨h13, h14⟩, h15, h16, h17⟩ := h
  exact ⟨h1, ⟨h2.kept hq, h3.kept hq⟩, ⟨h4.kept hq, h5.kept hq⟩, ⟨h6, h7, h8⟩, ⟨h9.kept hq, h10.kept hq⟩, h11, h12.kept hq, ⟨h13.kept hq, h14.kept hq⟩, h15, h16, h17⟩
/-! ===== the judgement ===== -/
/-- where a walk is: program, launch, environment, room, state, method, arguments, frames below, its method and code; the tables' numbers; which cells are ours -/
abbrev Cg : Type := Program × Launch × Env × Room × State × MethodId × Array Value × List Frame × Method × Code × va_G × (Nat → ClassId) × (Nat → Prop) × (Nat → Nat)
def Cx (X : Cg) (cc : ByteArray) (own : String) (nL : Nat) : Prop := match X with
  | (p, _, _, _, s, m, args, _, meth, c, D, cy, A, Z) => p.tables.exec = Jvm.exec ∧ c.code = cc ∧ c.maxLocals = nL ∧ s.vm.findClass own = some m.cls ∧ (∀ w ∈ TB, w.before args s = true) ∧ va_K D vwCl (tysA cy) s ∧ (∀ q, s.heap.size ≤ q → A q) ∧ meth.locks = false ∧ ZS Z A s s.heap
def Sim {α : Type} (X : Cg) (nL : Nat) (Fi : α → Hs → State → Prop) (pc : Nat) (lv : List (Nat × Value)) (st : List Value) (k : Mo α) : Prop := match X with
  | (p, l, e, R, s, m, args, below, meth, c, D, cy, A, _) => ∀ (h : Hs) (r : α) (h' : Hs) (c0 n0 c1 n1 : Nat), k h = some (r, h', c1, n1) → c0 + c1 = R.cells → n0 + n1 = R.slots → ∀ (H : Heap) (locs : List Loc) (ls : Array Slot), HW D cy A h H → va_S A s.heap H locs → lv_has ls nL lv → W p l e R s m args below meth c H locs c0 n0 (Fi r h') (F0 m pc ls st)
theorem rf_cat (r : Option Nat) : (va_rf r).category = 1 := by cases r <;> rfl
section LY
variable {α : Type} {X : Cg} {nL : Nat} {Fi : α → Hs → State → Prop} {pc : Nat} {lv : List (Nat × Value)} {st : List Value} {k : Mo α} {cc : ByteArray} {own : String}
theorem sm_iconst (cx : Cx X cc own nL) {n : Int} {v : Int32} (hd : decode cc pc = .ok (.iconst n, 1)) (hv : Int32.ofInt n = v) (kk : Sim X nL Fi (pc + 1) lv (.int v :: st) k) : Sim X nL Fi pc lv st k := by
  obtain ⟨p, l, e, R, s, m, args, below, meth, c, D, cy, A, Z⟩ := X
  obtain ⟨hx, hb, hml, hown, hts, hK, hA, hlk, hz⟩ := cx
  intro h r h' c0 n0 c1 n1 hk e1 e2 H locs ls hH hS hl
  exact lv_iconst hx hb hd hv (kk h r h' c0 n0 c1 n1 hk e1 e2 H locs ls hH hS hl)
theorem sm_bipush (cx : Cx X cc own nL) {n : Int} {v : Int32} (hd : decode cc pc = .ok (.bipush n, 2)) (hv : (Int8.ofInt n).toInt32 = v) (kk : Sim X nL Fi (pc + 2) lv (.int v :: st) k) : Sim X nL Fi pc lv st k := by
  obtain ⟨p, l, e, R, s, m, args, below, meth, c, D, cy, A, Z⟩ := X
  obtain ⟨hx, hb, hml, hown, hts, hK, hA, hlk, hz⟩ := cx
  intro h r h' c0 n0 c1 n1 hk e1 e2 H locs ls hH hS hl
  exact lv_bipush hx hb hd hv (kk h r h' c0 n0 c1 n1 hk e1 e2 H locs ls hH hS hl)
theorem sm_sipush (cx : Cx X cc own nL) {n : Int} {v : Int32} (hd : decode cc pc = .ok (.sipush n, 3)) (hv : (Int16.ofInt n).toInt32 = v) (kk : Sim X nL Fi (pc + 3) lv (.int v :: st) k) : Sim X nL Fi pc lv st k := by
  obtain ⟨p, l, e, R, s, m, args, below, meth, c, D, cy, A, Z⟩ := X
  obtain ⟨hx, hb, hml, hown, hts, hK, hA, hlk, hz⟩ := cx
  intro h r h' c0 n0 c1 n1 hk e1 e2 H locs ls hH hS hl
  exact lv_sipush hx hb hd hv (kk h r h' c0 n0 c1 n1 hk e1 e2 H locs ls hH hS hl)
theorem sm_lconst (cx : Cx X cc own nL) {n : Fin 2} {v : Int64} (hd : decode cc pc = .ok (.lconst n, 1)) (hv : Int64.ofNat (n : Nat) = v) (kk : Sim X nL Fi (pc + 1) lv (.long v :: st) k) : Sim X nL Fi pc lv st k := by
  obtain ⟨p, l, e, R, s, m, args, below, meth, c, D, cy, A, Z⟩ := X
  obtain ⟨hx, hb, hml, hown, hts, hK, hA, hlk, hz⟩ := cx
  intro h r h' c0 n0 c1 n1 hk e1 e2 H locs ls hH hS hl
  exact lv_lconst hx hb hd hv (kk h r h' c0 n0 c1 n1 hk e1 e2 H locs ls hH hS hl)
theorem sm_ldc (cx : Cx X cc own nL) {i : Nat} {v : Int32} (hd : decode cc pc = .ok (.ldc i, 2)) (hw : Cond.constant own i v ∈ TB) (kk : Sim X nL Fi (pc + 2) lv (.int v :: st) k) : Sim X nL Fi pc lv st k := by
  obtain ⟨p, l, e, R, s, m, args, below, meth, c, D, cy, A, Z⟩ := X
  obtain ⟨hx, hb, hml, hown, hts, hK, hA, hlk, hz⟩ := cx
  intro h r h' c0 n0 c1 n1 hk e1 e2 H locs ls hH hS hl
  exact lv_ldc hx hb hown (hts _ hw) hd (kk h r h' c0 n0 c1 n1 hk e1 e2 H locs ls hH hS hl)
theorem sm_ldcw (cx : Cx X cc own nL) {i : Nat} {v : Int32} (hd : decode cc pc = .ok (.ldc_w i, 3)) (hw : Cond.constant own i v ∈ TB) (kk : Sim X nL Fi (pc + 3) lv (.int v :: st) k) : Sim X nL Fi pc lv st k := by
  obtain ⟨p, l, e, R, s, m, args, below, meth, c, D, cy, A, Z⟩ := X
  obtain ⟨hx, hb, hml, hown, hts, hK, hA, hlk, hz⟩ := cx
  intro h r h' c0 n0 c1 n1 hk e1 e2 H locs ls hH hS hl
  exact lv_ldcw hx hb hown (hts _ hw) hd (kk h r h' c0 n0 c1 n1 hk e1 e2 H locs ls hH hS hl)
theorem sm_ldc2 (cx : Cx X cc own nL) {i : Nat} {v : Int64} (hd : decode cc pc = .ok (.ldc2_w i, 3)) (hw : Cond.constantLong own i v ∈ TB) (kk : Sim X nL Fi (pc + 3) lv (.long v :: st) k) : Sim X nL Fi pc lv st k := by
  obtain ⟨p, l, e, R, s, m, args, below, meth, c, D, cy, A, Z⟩ := X
  obtain ⟨hx, hb, hml, hown, hts, hK, hA, hlk, hz⟩ := cx
  intro h r h' c0 n0 c1 n1 hk e1 e2 H locs ls hH hS hl
  exact lv_ldc2 hx hb hown (hts _ hw) hd (kk h r h' c0 n0 c1 n1 hk e1 e2 H locs ls hH hS hl)
theorem sm_null (cx : Cx X cc own nL) (hd : decode cc pc = .ok (.aconst_null, 1)) (kk : Sim X nL Fi (pc + 1) lv (va_rf none :: st) k) : Sim X nL Fi pc lv st k := by
  obtain ⟨p, l, e, R, s, m, args, below, meth, c, D, cy, A, Z⟩ := X
  obtain ⟨hx, hb, hml, hown, hts, hK, hA, hlk, hz⟩ := cx
  intro h r h' c0 n0 c1 n1 hk e1 e2 H locs ls hH hS hl
  exact lv_null hx hb hd (kk h r h' c0 n0 c1 n1 hk e1 e2 H locs ls hH hS hl)
theorem sm_iload_n (cx : Cx X cc own nL) {j : Fin 4} {i : Nat} {x : Int32} (q : Nat) (hd : decode cc pc = .ok (.iload_n j, 1)) (hi : (j : Nat) = i) (hq : lv[q]? = some (i, .int x)) (kk : Sim X nL Fi (pc + 1) lv (.int x :: st) k) : Sim X nL Fi pc lv st k := by
  obtain ⟨p, l, e, R, s, m, args, below, meth, c, D, cy, A, Z⟩ := X
  obtain ⟨hx, hb, hml, hown, hts, hK, hA, hlk, hz⟩ := cx
  intro h r h' c0 n0 c1 n1 hk e1 e2 H locs ls hH hS hl
  exact lv_iload_n hx hb hd hi (lv_at hl q hq) (kk h r h' c0 n0 c1 n1 hk e1 e2 H locs ls hH hS hl)
theorem sm_iload (cx : Cx X cc own nL) {i : Nat} {x : Int32} (q : Nat) (hd : decode cc pc = .ok (.iload i, 2)) (hq : lv[q]? = some (i, .int x)) (kk : Sim X nL Fi (pc + 2) lv (.int x :: st) k) : Sim X nL Fi pc lv st k := by
  obtain ⟨p, l, e, R, s, m, args, below, meth, c, D, cy, A, Z⟩ := X
  obtain ⟨hx, hb, hml, hown, hts, hK, hA, hlk, hz⟩ := cx
  intro h r h' c0 n0 c1 n1 hk e1 e2 H locs ls hH hS hl
  exact lv_iload hx hb hd (lv_at hl q hq) (kk h r h' c0 n0 c1 n1 hk e1 e2 H locs ls hH hS hl)
theorem sm_lload_n (cx : Cx X cc own nL) {j : Fin 4} {i : Nat} {x : Int64} (q : Nat) (hd : decode cc pc = .ok (.lload_n j, 1)) (hi : (j : Nat) = i) (hq : lv[q]? = some (i, .long x)) (kk : Sim X nL Fi (pc + 1) lv (.long x :: st) k) : Sim X nL Fi pc lv st k := by
  obtain ⟨p, l, e, R, s, m, args, below, meth, c, D, cy, A, Z⟩ := X
  obtain ⟨hx, hb, hml, hown, hts, hK, hA, hlk, hz⟩ := cx
  intro h r h' c0 n0 c1 n1 hk e1 e2 H locs ls hH hS hl
  exact lv_lload_n hx hb hd hi (lv_at hl q hq) (kk h r h' c0 n0 c1 n1 hk e1 e2 H locs ls hH hS hl)
theorem sm_lload (cx : Cx X cc own nL) {i : Nat} {x : Int64} (q : Nat) (hd : decode cc pc = .ok (.lload i, 2)) (hq : lv[q]? = some (i, .long x)) (kk : Sim X nL Fi (pc + 2) lv (.long x :: st) k) : Sim X nL Fi pc lv st k := by
  obtain ⟨p, l, e, R, s, m, args, below, meth, c, D, cy, A, Z⟩ := X
  obtain ⟨hx, hb, hml, hown, hts, hK, hA, hlk, hz⟩ := cx
  intro h r h' c0 n0 c1 n1 hk e1 e2 H locs ls hH hS hl
  exact lv_lload hx hb hd (lv_at hl q hq) (kk h r h' c0 n0 c1 n1 hk e1 e2 H locs ls hH hS hl)
theorem sm_aload_n (cx : Cx X cc own nL) {j : Fin 4} {i : Nat} {x : Option Nat} (q : Nat) (hd : decode cc pc = .ok (.aload_n j, 1)) (hi : (j : Nat) = i) (hq : lv[q]? = some (i, va_rf x)) (kk : Sim X nL Fi (pc + 1) lv (va_rf x :: st) k) : Sim X nL Fi pc lv st k := by
  obtain ⟨p, l, e, R, s, m, args, below, meth, c, D, cy, A, Z⟩ := X
  obtain ⟨hx, hb, hml, hown, hts, hK, hA, hlk, hz⟩ := cx
  intro h r h' c0 n0 c1 n1 hk e1 e2 H locs ls hH hS hl
  have hr := kk h r h' c0 n0 c1 n1 hk e1 e2 H locs ls hH hS hl
  cases x with
  | none => exact lv_aload_nN hx hb hd hi (lv_at hl q hq) hr
  | some a => exact lv_aload_n hx hb hd hi (lv_at hl q hq) hr
theorem sm_aload (cx : Cx X cc own nL) {i : Nat} {x : Option Nat} (q : Nat) (hd : decode cc pc = .ok (.aload i, 2)) (hq : lv[q]? = some (i, va_rf x)) (kk : Sim X nL Fi (pc + 2) lv (va_rf x :: st) k) : Sim X nL Fi pc lv st k := by
  obtain ⟨p, l, e, R, s, m, args, below, meth, c, D, cy, A, Z⟩ := X
  obtain ⟨hx, hb, hml, hown, hts, hK, hA, hlk, hz⟩ := cx
  intro h r h' c0 n0 c1 n1 hk e1 e2 H locs ls hH hS hl
  have hr := kk h r h' c0 n0 c1 n1 hk e1 e2 H locs ls hH hS hl
  cases x with
  | none => exact lv_aloadN hx hb hd (lv_at hl q hq) hr
  | some a => exact lv_aload hx hb hd (lv_at hl q hq) hr
theorem nc0 : ∀ q ∈ ([] : List (Nat × Value)), q.2.category = 1 := fun _ h => nomatch h
theorem nc1 {i : Nat} {v : Value} (h : v.category = 1) : ∀ q ∈ [(i, v)], q.2.category = 1 := fun q hq => by
  rw [List.mem_singleton.mp hq]; exact h
theorem cat_le (st : List Value) (h : st.length ≤ 4) : (st.map fun v => v.category).sum ≤ 8 := by
  have key : ∀ st : List Value, (st.map fun v => v.category).sum ≤ 2 * st.length := by
    intro st
    induction st with
    | nil => simp
    | cons v t ih =>
      have := lv_cat v
      simp only [List.map_cons, List.sum_cons, List.length_cons]
      omega
  have := key st
  omega
theorem flt1 {i : Nat} {lv pv : List (Nat × Value)} (hp : lv.filter (fun q => q.1 + 1 == i) = pv) (hc : ∀ q ∈ pv, q.2.category = 1) : lv.filter (fun q => !(q.1 == i) && !(q.1 + 1 == i && q.2.category == 2)) = lv.filter (fun q => !(q.1 == i)) := by
  apply List.filter_congr
  intro q hq
  by_cases h : q.1 + 1 = i
  · have := hc q (by rw [← hp]; exact List.mem_filter.mpr ⟨hq, by simp [h]⟩)
    simp [this]
  · simp [h]
theorem flt2 {i : Nat} {lv pv : List (Nat × Value)} (hp : lv.filter (fun q => q.1 + 1 == i) = pv) (hc : ∀ q ∈ pv, q.2.category = 1) : lv.filter (fun q => !(q.1 == i) && (!(q.1 == i + 1) && !(q.1 + 1 == i && q.2.category == 2))) = lv.filter (fun q => !(q.1 == i) && !(q.1 == i + 1)) := by
  apply List.filter_congr
  intro q hq
  by_cases h : q.1 + 1 = i
  · have := hc q (by rw [← hp]; exact List.mem_filter.mpr ⟨hq, by simp [h]⟩)
    simp [this]
  · have hb : (q.1 + 1 == i) = false := beq_eq_false_iff_ne.mpr h
    rw [hb]
    simp
theorem sm_istore_n (cx : Cx X cc own nL) {j : Fin 4} {i : Nat} {x : Int32} (lv' : List (Nat × Value)) {pv : List (Nat × Value)} (hd : decode cc pc = .ok (.istore_n j, 1)) (hi : (j : Nat) = i) (hn : i < nL) (hp : lv.filter (fun q => q.1 + 1 == i) = pv) (hpc : ∀ q ∈ pv, q.2.category = 1) (hl' : (i, Value.int x) :: lv.filter (fun q => !(q.1 == i)) = lv') (kk : Sim X nL Fi (pc + 1) lv' st k) : Sim X nL Fi pc lv (Value.int x :: st) k := by
  obtain ⟨p, l, e, R, s, m, args, below, meth, c, D, cy, A, Z⟩ := X
  obtain ⟨hx, hb, hml, hown, hts, hK, hA, hlk, hz⟩ := cx
  intro h r h' c0 n0 c1 n1 hk e1 e2 H locs ls hH hS hl
  rw [← flt1 hp hpc] at hl'
  exact lv_istore_n hx hb hd hi hl hn hl' (fun ls hl => kk h r h' c0 n0 c1 n1 hk e1 e2 H locs ls hH hS hl)
theorem sm_istore (cx : Cx X cc own nL) {i : Nat} {x : Int32} (lv' : List (Nat × Value)) {pv : List (Nat × Value)} (hd : decode cc pc = .ok (.istore i, 2)) (hn : i < nL) (hp : lv.filter (fun q => q.1 + 1 == i) = pv) (hpc : ∀ q ∈ pv, q.2.category = 1) (hl' : (i, Value.int x) :: lv.filter (fun q => !(q.1 == i)) = lv') (kk : Sim X nL Fi (pc + 2) lv' st k) : Sim X nL Fi pc lv (Value.int x :: st) k := by
  obtain ⟨p, l, e, R, s, m, args, below, meth, c, D, cy, A, Z⟩ := X
  obtain ⟨hx, hb, hml, hown, hts, hK, hA, hlk, hz⟩ := cx
  intro h r h' c0 n0 c1 n1 hk e1 e2 H locs ls hH hS hl
  rw [← flt1 hp hpc] at hl'
  exact lv_istore hx hb hd hl hn hl' (fun ls hl => kk h r h' c0 n0 c1 n1 hk e1 e2 H locs ls hH hS hl)
theorem sm_lstore_n (cx : Cx X cc own nL) {j : Fin 4} {i : Nat} {x : Int64} (lv' : List (Nat × Value)) {pv : List (Nat × Value)} (hd : decode cc pc = .ok (.lstore_n j, 1)) (hi : (j : Nat) = i) (hn : i + 1 < nL) (hp : lv.filter (fun q => q.1 + 1 == i) = pv) (hpc : ∀ q ∈ pv, q.2.category = 1) (hl' : (i, Value.long x) :: lv.filter (fun q => !(q.1 == i) && !(q.1 == i + 1)) = lv') (kk : Sim X nL Fi (pc + 1) lv' st k) : Sim X nL Fi pc lv (Value.long x :: st) k := by
  obtain ⟨p, l, e, R, s, m, args, below, meth, c, D, cy, A, Z⟩ := X
  obtain ⟨hx, hb, hml, hown, hts, hK, hA, hlk, hz⟩ := cx
  intro h r h' c0 n0 c1 n1 hk e1 e2 H locs ls hH hS hl
  rw [← flt2 hp hpc] at hl'
  exact lv_lstore_n hx hb hd hi hl hn hl' (fun ls hl => kk h r h' c0 n0 c1 n1 hk e1 e2 H locs ls hH hS hl)
theorem sm_lstore (cx : Cx X cc own nL) {i : Nat} {x : Int64} (lv' : List (Nat × Value)) {pv : List (Nat × Value)} (hd : decode cc pc = .ok (.lstore i, 2)) (hn : i + 1 < nL) (hp : lv.filter (fun q => q.1 + 1 == i) = pv) (hpc : ∀ q ∈ pv, q.2.category = 1) (hl' : (i, Value.long x) :: lv.filter (fun q => !(q.1 == i) && !(q.1 == i + 1)) = lv') (kk : Sim X nL Fi (pc + 2) lv' st k) : Sim X nL Fi pc lv (Value.long x :: st) k := by
  obtain ⟨p, l, e, R, s, m, args, below, meth, c, D, cy, A, Z⟩ := X
  obtain ⟨hx, hb, hml, hown, hts, hK, hA, hlk, hz⟩ := cx
  intro h r h' c0 n0 c1 n1 hk e1 e2 H locs ls hH hS hl
  rw [← flt2 hp hpc] at hl'
  exact lv_lstore hx hb hd hl hn hl' (fun ls hl => kk h r h' c0 n0 c1 n1 hk e1 e2 H locs ls hH hS hl)
theorem sm_astore_n (cx : Cx X cc own nL) {j : Fin 4} {i : Nat} {x : Option Nat} (lv' : List (Nat × Value)) {pv : List (Nat × Value)} (hd : decode cc pc = .ok (.astore_n j, 1)) (hi : (j : Nat) = i) (hn : i < nL) (hp : lv.filter (fun q => q.1 + 1 == i) = pv) (hpc : ∀ q ∈ pv, q.2.category = 1) (hl' : (i, va_rf x) :: lv.filter (fun q => !(q.1 == i)) = lv') (kk : Sim X nL Fi (pc + 1) lv' st k) : Sim X nL Fi pc lv (va_rf x :: st) k := by
  obtain ⟨p, l, e, R, s, m, args, below, meth, c, D, cy, A, Z⟩ := X
  obtain ⟨hx, hb, hml, hown, hts, hK, hA, hlk, hz⟩ := cx
  intro h r h' c0 n0 c1 n1 hk e1 e2 H locs ls hH hS hl
  rw [← flt1 hp hpc] at hl'
  cases x with
  | none => exact lv_astore_nN hx hb hd hi hl hn hl' (fun ls hl => kk h r h' c0 n0 c1 n1 hk e1 e2 H locs ls hH hS hl)
  | some a => exact lv_astore_n hx hb hd hi hl hn hl' (fun ls hl => kk h r h' c0 n0 c1 n1 hk e1 e2 H locs ls hH hS hl)
theorem sm_astore (cx : Cx X cc own nL) {i : Nat} {x : Option Nat} (lv' : List (Nat × Value)) {pv : List (Nat × Value)} (hd : decode cc pc = .ok (.astore i, 2)) (hn : i < nL) (hp : lv.filter (fun q => q.1 + 1 == i) = pv) (hpc : ∀ q ∈ pv, q.2.category = 1) (hl' : (i, va_rf x) :: lv.filter (fun q => !(q.1 == i)) = lv') (kk : Sim X nL Fi (pc + 2) lv' st k) : Sim X nL Fi pc lv (va_rf x :: st) k := by
  obtain ⟨p, l, e, R, s, m, args, below, meth, c, D, cy, A, Z⟩ := X
  obtain ⟨hx, hb, hml, hown, hts, hK, hA, hlk, hz⟩ := cx
  intro h r h' c0 n0 c1 n1 hk e1 e2 H locs ls hH hS hl
  rw [← flt1 hp hpc] at hl'
  cases x with
  | none => exact lv_astoreN hx hb hd hl hn hl' (fun ls hl => kk h r h' c0 n0 c1 n1 hk e1 e2 H locs ls hH hS hl)
  | some a => exact lv_astore hx hb hd hl hn hl' (fun ls hl => kk h r h' c0 n0 c1 n1 hk e1 e2 H locs ls hH hS hl)
theorem sm_iinc (cx : Cx X cc own nL) {i : Nat} {n : Int} {x v : Int32} (q : Nat) (lv' : List (Nat × Value)) {pv : List (Nat × Value)} (hd : decode cc pc = .ok (.iinc i n, 3)) (hq : lv[q]? = some (i, .int x)) (hv : x + Int32.ofInt n = v) (hn : i < nL) (hp : lv.filter (fun q => q.1 + 1 == i) = pv) (hpc : ∀ q ∈ pv, q.2.category = 1) (hl' : (i, Value.int v) :: lv.filter (fun q => !(q.1 == i)) = lv') (kk : Sim X nL Fi (pc + 3) lv' st k) : Sim X nL Fi pc lv st k := by
  obtain ⟨p, l, e, R, s, m, args, below, meth, c, D, cy, A, Z⟩ := X
  obtain ⟨hx, hb, hml, hown, hts, hK, hA, hlk, hz⟩ := cx
  intro h r h' c0 n0 c1 n1 hk e1 e2 H locs ls hH hS hl
  rw [← flt1 hp hpc] at hl'
  exact lv_iinc hx hb hd hl hq hv hn hl' (fun ls hl => kk h r h' c0 n0 c1 n1 hk e1 e2 H locs ls hH hS hl)
theorem sm_iadd (cx : Cx X cc own nL) {x y : Int32} (hd : decode cc pc = .ok (.iadd, 1)) (kk : Sim X nL Fi (pc + 1) lv (.int (x + y) :: st) k) : Sim X nL Fi pc lv (.int y :: .int x :: st) k := by
  obtain ⟨p, l, e, R, s, m, args, below, meth, c, D, cy, A, Z⟩ := X
  obtain ⟨hx, hb, hml, hown, hts, hK, hA, hlk, hz⟩ := cx
  intro h r h' c0 n0 c1 n1 hk e1 e2 H locs ls hH hS hl
  exact lv_iadd hx hb hd (kk h r h' c0 n0 c1 n1 hk e1 e2 H locs ls hH hS hl)
theorem sm_isub (cx : Cx X cc own nL) {x y : Int32} (hd : decode cc pc = .ok (.isub, 1)) (kk : Sim X nL Fi (pc + 1) lv (.int (x - y) :: st) k) : Sim X nL Fi pc lv (.int y :: .int x :: st) k := by
  obtain ⟨p, l, e, R, s, m, args, below, meth, c, D, cy, A, Z⟩ := X
  obtain ⟨hx, hb, hml, hown, hts, hK, hA, hlk, hz⟩ := cx
  intro h r h' c0 n0 c1 n1 hk e1 e2 H locs ls hH hS hl
  exact lv_isub hx hb hd (kk h r h' c0 n0 c1 n1 hk e1 e2 H locs ls hH hS hl)
theorem sm_imul (cx : Cx X cc own nL) {x y : Int32} (hd : decode cc pc = .ok (.imul, 1)) (kk : Sim X nL Fi (pc + 1) lv (.int (x * y) :: st) k) : Sim X nL Fi pc lv (.int y :: .int x :: st) k := by
  obtain ⟨p, l, e, R, s, m, args, below, meth, c, D, cy, A, Z⟩ := X
  obtain ⟨hx, hb, hml, hown, hts, hK, hA, hlk, hz⟩ := cx
  intro h r h' c0 n0 c1 n1 hk e1 e2 H locs ls hH hS hl
  exact lv_imul hx hb hd (kk h r h' c0 n0 c1 n1 hk e1 e2 H locs ls hH hS hl)
theorem sm_iand (cx : Cx X cc own nL) {x y : Int32} (hd : decode cc pc = .ok (.iand, 1)) (kk : Sim X nL Fi (pc + 1) lv (.int (x &&& y) :: st) k) : Sim X nL Fi pc lv (.int y :: .int x :: st) k := by
  obtain ⟨p, l, e, R, s, m, args, below, meth, c, D, cy, A, Z⟩ := X
  obtain ⟨hx, hb, hml, hown, hts, hK, hA, hlk, hz⟩ := cx
  intro h r h' c0 n0 c1 n1 hk e1 e2 H locs ls hH hS hl
  exact lv_iand hx hb hd (kk h r h' c0 n0 c1 n1 hk e1 e2 H locs ls hH hS hl)
theorem sm_ior (cx : Cx X cc own nL) {x y : Int32} (hd : decode cc pc = .ok (.ior, 1)) (kk : Sim X nL Fi (pc + 1) lv (.int (x ||| y) :: st) k) : Sim X nL Fi pc lv (.int y :: .int x :: st) k := by
  obtain ⟨p, l, e, R, s, m, args, below, meth, c, D, cy, A, Z⟩ := X
  obtain ⟨hx, hb, hml, hown, hts, hK, hA, hlk, hz⟩ := cx
  intro h r h' c0 n0 c1 n1 hk e1 e2 H locs ls hH hS hl
  exact lv_ior hx hb hd (kk h r h' c0 n0 c1 n1 hk e1 e2 H locs ls hH hS hl)
theorem sm_ixor (cx : Cx X cc own nL) {x y : Int32} (hd : decode cc pc = .ok (.ixor, 1)) (kk : Sim X nL Fi (pc + 1) lv (.int (x ^^^ y) :: st) k) : Sim X nL Fi pc lv (.int y :: .int x :: st) k := by
  obtain ⟨p, l, e, R, s, m, args, below, meth, c, D, cy, A, Z⟩ := X
  obtain ⟨hx, hb, hml, hown, hts, hK, hA, hlk, hz⟩ := cx
  intro h r h' c0 n0 c1 n1 hk e1 e2 H locs ls hH hS hl
  exact lv_ixor hx hb hd (kk h r h' c0 n0 c1 n1 hk e1 e2 H locs ls hH hS hl)
theorem sm_ladd (cx : Cx X cc own nL) {x y : Int64} (hd : decode cc pc = .ok (.ladd, 1)) (kk : Sim X nL Fi (pc + 1) lv (.long (x + y) :: st) k) : Sim X nL Fi pc lv (.long y :: .long x :: st) k := by
  obtain ⟨p, l, e, R, s, m, args, below, meth, c, D, cy, A, Z⟩ := X
  obtain ⟨hx, hb, hml, hown, hts, hK, hA, hlk, hz⟩ := cx
  intro h r h' c0 n0 c1 n1 hk e1 e2 H locs ls hH hS hl
  exact lv_ladd hx hb hd (kk h r h' c0 n0 c1 n1 hk e1 e2 H locs ls hH hS hl)
theorem sm_lsub (cx : Cx X cc own nL) {x y : Int64} (hd : decode cc pc = .ok (.lsub, 1)) (kk : Sim X nL Fi (pc + 1) lv (.long (x - y) :: st) k) : Sim X nL Fi pc lv (.long y :: .long x :: st) k := by
  obtain ⟨p, l, e, R, s, m, args, below, meth, c, D, cy, A, Z⟩ := X
  obtain ⟨hx, hb, hml, hown, hts, hK, hA, hlk, hz⟩ := cx
  intro h r h' c0 n0 c1 n1 hk e1 e2 H locs ls hH hS hl
  exact lv_lsub hx hb hd (kk h r h' c0 n0 c1 n1 hk e1 e2 H locs ls hH hS hl)
theorem sm_lmul (cx : Cx X cc own nL) {x y : Int64} (hd : decode cc pc = .ok (.lmul, 1)) (kk : Sim X nL Fi (pc + 1) lv (.long (x * y) :: st) k) : Sim X nL Fi pc lv (.long y :: .long x :: st) k := by
  obtain ⟨p, l, e, R, s, m, args, below, meth, c, D, cy, A, Z⟩ := X
  obtain ⟨hx, hb, hml, hown, hts, hK, hA, hlk, hz⟩ := cx
  intro h r h' c0 n0 c1 n1 hk e1 e2 H locs ls hH hS hl
  exact lv_lmul hx hb hd (kk h r h' c0 n0 c1 n1 hk e1 e2 H locs ls hH hS hl)
theorem sm_land (cx : Cx X cc own nL) {x y : Int64} (hd : decode cc pc = .ok (.land, 1)) (kk : Sim X nL Fi (pc + 1) lv (.long (x &&& y) :: st) k) : Sim X nL Fi pc lv (.long y :: .long x :: st) k := by
  obtain ⟨p, l, e, R, s, m, args, below, meth, c, D, cy, A, Z⟩ := X
  obtain ⟨hx, hb, hml, hown, hts, hK, hA, hlk, hz⟩ := cx
  intro h r h' c0 n0 c1 n1 hk e1 e2 H locs ls hH hS hl
  exact lv_land hx hb hd (kk h r h' c0 n0 c1 n1 hk e1 e2 H locs ls hH hS hl)
theorem sm_lor (cx : Cx X cc own nL) {x y : Int64} (hd : decode cc pc = .ok (.lor, 1)) (kk : Sim X nL Fi (pc + 1) lv (.long (x ||| y) :: st) k) : Sim X nL Fi pc lv (.long y :: .long x :: st) k := by
  obtain ⟨p, l, e, R, s, m, args, below, meth, c, D, cy, A, Z⟩ := X
  obtain ⟨hx, hb, hml, hown, hts, hK, hA, hlk, hz⟩ := cx
  intro h r h' c0 n0 c1 n1 hk e1 e2 H locs ls hH hS hl
  exact lv_lor hx hb hd (kk h r h' c0 n0 c1 n1 hk e1 e2 H locs ls hH hS hl)
theorem sm_lxor (cx : Cx X cc own nL) {x y : Int64} (hd : decode cc pc = .ok (.lxor, 1)) (kk : Sim X nL Fi (pc + 1) lv (.long (x ^^^ y) :: st) k) : Sim X nL Fi pc lv (.long y :: .long x :: st) k := by
  obtain ⟨p, l, e, R, s, m, args, below, meth, c, D, cy, A, Z⟩ := X
  obtain ⟨hx, hb, hml, hown, hts, hK, hA, hlk, hz⟩ := cx
  intro h r h' c0 n0 c1 n1 hk e1 e2 H locs ls hH hS hl
  exact lv_lxor hx hb hd (kk h r h' c0 n0 c1 n1 hk e1 e2 H locs ls hH hS hl)
theorem sm_idiv (cx : Cx X cc own nL) {x y : Int32} (hd : decode cc pc = .ok (.idiv, 1)) (hne : ¬ y = 0) (kk : Sim X nL Fi (pc + 1) lv (.int (x / y) :: st) k) : Sim X nL Fi pc lv (.int y :: .int x :: st) k := by
  obtain ⟨p, l, e, R, s, m, args, below, meth, c, D, cy, A, Z⟩ := X
  obtain ⟨hx, hb, hml, hown, hts, hK, hA, hlk, hz⟩ := cx
  intro h r h' c0 n0 c1 n1 hk e1 e2 H locs ls hH hS hl
  exact lv_idiv hx hb hd hne (kk h r h' c0 n0 c1 n1 hk e1 e2 H locs ls hH hS hl)
theorem sm_irem (cx : Cx X cc own nL) {x y : Int32} (hd : decode cc pc = .ok (.irem, 1)) (hne : ¬ y = 0) (kk : Sim X nL Fi (pc + 1) lv (.int (x - x / y * y) :: st) k) : Sim X nL Fi pc lv (.int y :: .int x :: st) k := by
  obtain ⟨p, l, e, R, s, m, args, below, meth, c, D, cy, A, Z⟩ := X
  obtain ⟨hx, hb, hml, hown, hts, hK, hA, hlk, hz⟩ := cx
  intro h r h' c0 n0 c1 n1 hk e1 e2 H locs ls hH hS hl
  exact lv_irem hx hb hd hne (kk h r h' c0 n0 c1 n1 hk e1 e2 H locs ls hH hS hl)
theorem sm_ineg (cx : Cx X cc own nL) {x : Int32} (hd : decode cc pc = .ok (.ineg, 1)) (kk : Sim X nL Fi (pc + 1) lv (.int (-x) :: st) k) : Sim X nL Fi pc lv (.int x :: st) k := by
  obtain ⟨p, l, e, R, s, m, args, below, meth, c, D, cy, A, Z⟩ := X
  obtain ⟨hx, hb, hml, hown, hts, hK, hA, hlk, hz⟩ := cx
  intro h r h' c0 n0 c1 n1 hk e1 e2 H locs ls hH hS hl
  exact lv_ineg hx hb hd (kk h r h' c0 n0 c1 n1 hk e1 e2 H locs ls hH hS hl)
def jSh (x y : Int32) : Int32 := (x.toUInt32 >>> (y.toUInt32 &&& Int32.toUInt32 31)).toInt32
def jSL (x : Int64) (y : Int32) : Int64 := (x.toUInt64 >>> (y.toInt64.toUInt64 &&& Int64.toUInt64 63)).toInt64
def jLL (x : Int64) (y : Int32) : Int64 := x <<< (y.toInt64 &&& 63)
theorem sm_ishl (cx : Cx X cc own nL) {x y : Int32} (hd : decode cc pc = .ok (.ishl, 1)) (kk : Sim X nL Fi (pc + 1) lv (.int (x <<< (y &&& 31)) :: st) k) : Sim X nL Fi pc lv (.int y :: .int x :: st) k := by
  obtain ⟨p, l, e, R, s, m, args, below, meth, c, D, cy, A, Z⟩ := X
  obtain ⟨hx, hb, hml, hown, hts, hK, hA, hlk, hz⟩ := cx
  intro h r h' c0 n0 c1 n1 hk e1 e2 H locs ls hH hS hl
  exact lv_ishl hx hb hd (kk h r h' c0 n0 c1 n1 hk e1 e2 H locs ls hH hS hl)
theorem sm_ishr (cx : Cx X cc own nL) {x y : Int32} (hd : decode cc pc = .ok (.ishr, 1)) (kk : Sim X nL Fi (pc + 1) lv (.int (x >>> (y &&& 31)) :: st) k) : Sim X nL Fi pc lv (.int y :: .int x :: st) k := by
  obtain ⟨p, l, e, R, s, m, args, below, meth, c, D, cy, A, Z⟩ := X
  obtain ⟨hx, hb, hml, hown, hts, hK, hA, hlk, hz⟩ := cx
  intro h r h' c0 n0 c1 n1 hk e1 e2 H locs ls hH hS hl
  exact lv_ishr hx hb hd (kk h r h' c0 n0 c1 n1 hk e1 e2 H locs ls hH hS hl)
theorem sm_iushr (cx : Cx X cc own nL) {x y : Int32} (hd : decode cc pc = .ok (.iushr, 1)) (kk : Sim X nL Fi (pc + 1) lv (.int (jSh x y) :: st) k) : Sim X nL Fi pc lv (.int y :: .int x :: st) k := by
  obtain ⟨p, l, e, R, s, m, args, below, meth, c, D, cy, A, Z⟩ := X
  obtain ⟨hx, hb, hml, hown, hts, hK, hA, hlk, hz⟩ := cx
  intro h r h' c0 n0 c1 n1 hk e1 e2 H locs ls hH hS hl
  exact lv_iushr hx hb hd rfl (kk h r h' c0 n0 c1 n1 hk e1 e2 H locs ls hH hS hl)
theorem sm_lushr (cx : Cx X cc own nL) {x : Int64} {y : Int32} (hd : decode cc pc = .ok (.lushr, 1)) (kk : Sim X nL Fi (pc + 1) lv (.long (jSL x y) :: st) k) : Sim X nL Fi pc lv (.int y :: .long x :: st) k := by
  obtain ⟨p, l, e, R, s, m, args, below, meth, c, D, cy, A, Z⟩ := X
  obtain ⟨hx, hb, hml, hown, hts, hK, hA, hlk, hz⟩ := cx
  intro h r h' c0 n0 c1 n1 hk e1 e2 H locs ls hH hS hl
  exact lv_lushr hx hb hd rfl (kk h r h' c0 n0 c1 n1 hk e1 e2 H locs ls hH hS hl)
theorem sm_lshl (cx : Cx X cc own nL) {x : Int64} {y : Int32} (hd : decode cc pc = .ok (.lshl, 1)) (kk : Sim X nL Fi (pc + 1) lv (.long (jLL x y) :: st) k) : Sim X nL Fi pc lv (.int y :: .long x :: st) k := by
  obtain ⟨p, l, e, R, s, m, args, below, meth, c, D, cy, A, Z⟩ := X
  obtain ⟨hx, hb, hml, hown, hts, hK, hA, hlk, hz⟩ := cx
  intro h r h' c0 n0 c1 n1 hk e1 e2 H locs ls hH hS hl
  exact lv_lshl hx hb hd rfl (kk h r h' c0 n0 c1 n1 hk e1 e2 H locs ls hH hS hl)
theorem sm_i2l (cx : Cx X cc own nL) {x : Int32} (hd : decode cc pc = .ok (.i2l, 1)) (kk : Sim X nL Fi (pc + 1) lv (.long x.toInt64 :: st) k) : Sim X nL Fi pc lv (.int x :: st) k := by
  obtain ⟨p, l, e, R, s, m, args, below, meth, c, D, cy, A, Z⟩ := X
  obtain ⟨hx, hb, hml, hown, hts, hK, hA, hlk, hz⟩ := cx
  intro h r h' c0 n0 c1 n1 hk e1 e2 H locs ls hH hS hl
  exact lv_i2l hx hb hd rfl (kk h r h' c0 n0 c1 n1 hk e1 e2 H locs ls hH hS hl)
theorem sm_l2i (cx : Cx X cc own nL) {x : Int64} (hd : decode cc pc = .ok (.l2i, 1)) (kk : Sim X nL Fi (pc + 1) lv (.int x.toInt32 :: st) k) : Sim X nL Fi pc lv (.long x :: st) k := by
  obtain ⟨p, l, e, R, s, m, args, below, meth, c, D, cy, A, Z⟩ := X
  obtain ⟨hx, hb, hml, hown, hts, hK, hA, hlk, hz⟩ := cx
  intro h r h' c0 n0 c1 n1 hk e1 e2 H locs ls hH hS hl
  exact lv_l2i hx hb hd rfl (kk h r h' c0 n0 c1 n1 hk e1 e2 H locs ls hH hS hl)
theorem sm_i2b (cx : Cx X cc own nL) {x : Int32} (hd : decode cc pc = .ok (.i2b, 1)) (kk : Sim X nL Fi (pc + 1) lv (.int x.toInt8.toInt32 :: st) k) : Sim X nL Fi pc lv (.int x :: st) k := by
  obtain ⟨p, l, e, R, s, m, args, below, meth, c, D, cy, A, Z⟩ := X
  obtain ⟨hx, hb, hml, hown, hts, hK, hA, hlk, hz⟩ := cx
  intro h r h' c0 n0 c1 n1 hk e1 e2 H locs ls hH hS hl
  exact lv_i2b hx hb hd rfl (kk h r h' c0 n0 c1 n1 hk e1 e2 H locs ls hH hS hl)
theorem sm_i2c (cx : Cx X cc own nL) {x : Int32} (hd : decode cc pc = .ok (.i2c, 1)) (kk : Sim X nL Fi (pc + 1) lv (.int (x.toUInt32 % 65536).toInt32 :: st) k) : Sim X nL Fi pc lv (.int x :: st) k := by
  obtain ⟨p, l, e, R, s, m, args, below, meth, c, D, cy, A, Z⟩ := X
  obtain ⟨hx, hb, hml, hown, hts, hK, hA, hlk, hz⟩ := cx
  intro h r h' c0 n0 c1 n1 hk e1 e2 H locs ls hH hS hl
  exact lv_i2c hx hb hd rfl (kk h r h' c0 n0 c1 n1 hk e1 e2 H locs ls hH hS hl)
theorem sm_lcmp (cx : Cx X cc own nL) {x y : Int64} (hd : decode cc pc = .ok (.lcmp, 1)) (kk : Sim X nL Fi (pc + 1) lv (.int (lg_cmp x y) :: st) k) : Sim X nL Fi pc lv (.long y :: .long x :: st) k := by
  obtain ⟨p, l, e, R, s, m, args, below, meth, c, D, cy, A, Z⟩ := X
  obtain ⟨hx, hb, hml, hown, hts, hK, hA, hlk, hz⟩ := cx
  intro h r h' c0 n0 c1 n1 hk e1 e2 H locs ls hH hS hl
  exact W.lcmp hx hb hd (kk h r h' c0 n0 c1 n1 hk e1 e2 H locs ls hH hS hl)
theorem sm_dup (cx : Cx X cc own nL) {v : Value} (hd : decode cc pc = .ok (.dup, 1)) (hc : v.category = 1) (kk : Sim X nL Fi (pc + 1) lv (v :: v :: st) k) : Sim X nL Fi pc lv (v :: st) k := by
  obtain ⟨p, l, e, R, s, m, args, below, meth, c, D, cy, A, Z⟩ := X
  obtain ⟨hx, hb, hml, hown, hts, hK, hA, hlk, hz⟩ := cx
  intro h r h' c0 n0 c1 n1 hk e1 e2 H locs ls hH hS hl
  exact lv_dup hx hb hd hc (kk h r h' c0 n0 c1 n1 hk e1 e2 H locs ls hH hS hl)
theorem sm_pop (cx : Cx X cc own nL) {v : Value} (hd : decode cc pc = .ok (.pop, 1)) (hc : v.category = 1) (kk : Sim X nL Fi (pc + 1) lv st k) : Sim X nL Fi pc lv (v :: st) k := by
  obtain ⟨p, l, e, R, s, m, args, below, meth, c, D, cy, A, Z⟩ := X
  obtain ⟨hx, hb, hml, hown, hts, hK, hA, hlk, hz⟩ := cx
  intro h r h' c0 n0 c1 n1 hk e1 e2 H locs ls hH hS hl
  exact lv_pop hx hb hd hc (kk h r h' c0 n0 c1 n1 hk e1 e2 H locs ls hH hS hl)
theorem sm_dupx1 (cx : Cx X cc own nL) {v w : Value} (hd : decode cc pc = .ok (.dup_x1, 1)) (hc : v.category = 1) (hw : w.category = 1) (kk : Sim X nL Fi (pc + 1) lv (v :: w :: v :: st) k) : Sim X nL Fi pc lv (v :: w :: st) k := by
  obtain ⟨p, l, e, R, s, m, args, below, meth, c, D, cy, A, Z⟩ := X
  obtain ⟨hx, hb, hml, hown, hts, hK, hA, hlk, hz⟩ := cx
  intro h r h' c0 n0 c1 n1 hk e1 e2 H locs ls hH hS hl
  exact lv_dup_x1 hx hb hd hc hw (kk h r h' c0 n0 c1 n1 hk e1 e2 H locs ls hH hS hl)
theorem sm_dup2 (cx : Cx X cc own nL) {v w : Value} (hd : decode cc pc = .ok (.dup2, 1)) (hc : v.category = 1) (hw : w.category = 1) (kk : Sim X nL Fi (pc + 1) lv (v :: w :: v :: w :: st) k) : Sim X nL Fi pc lv (v :: w :: st) k := by
  obtain ⟨p, l, e, R, s, m, args, below, meth, c, D, cy, A, Z⟩ := X
  obtain ⟨hx, hb, hml, hown, hts, hK, hA, hlk, hz⟩ := cx
  intro h r h' c0 n0 c1 n1 hk e1 e2 H locs ls hH hS hl
  exact lv_dup2_11 hx hb hd hc hw (kk h r h' c0 n0 c1 n1 hk e1 e2 H locs ls hH hS hl)
theorem sm_goto (cx : Cx X cc own nL) {off : Int} {tgt : Nat} (hd : decode cc pc = .ok (.goto off, 3)) (ht : (pc : Int) + off = (tgt : Int)) (kk : Sim X nL Fi tgt lv st k) : Sim X nL Fi pc lv st k := by
  obtain ⟨p, l, e, R, s, m, args, below, meth, c, D, cy, A, Z⟩ := X
  obtain ⟨hx, hb, hml, hown, hts, hK, hA, hlk, hz⟩ := cx
  intro h r h' c0 n0 c1 n1 hk e1 e2 H locs ls hH hS hl
  exact lv_goto hx hb hd ht (kk h r h' c0 n0 c1 n1 hk e1 e2 H locs ls hH hS hl)
/-- fewer locals are spoken of -/
theorem sm_lv (ks : List Nat) {lv' : List (Nat × Value)} (hp : lv_pick lv ks = lv') (kk : Sim X nL Fi pc lv' st k) : Sim X nL Fi pc lv st k := by
  obtain ⟨p, l, e, R, s, m, args, below, meth, c, D, cy, A, Z⟩ := X
  intro h r h' c0 n0 c1 n1 hk e1 e2 H locs ls hH hS hl
  exact kk h r h' c0 n0 c1 n1 hk e1 e2 H locs ls hH hS (lv_sub hl ks hp)
theorem sm_mf : Sim X nL Fi pc lv st mf := by
  obtain ⟨p, l, e, R, s, m, args, below, meth, c, D, cy, A, Z⟩ := X
  intro h r h' c0 n0 c1 n1 hk
  cases hk
theorem sm_eq {k' : Mo α} (he : k = k') (kk : Sim X nL Fi pc lv st k') : Sim X nL Fi pc lv st k := he ▸ kk
theorem sm_if_ne (cx : Cx X cc own nL) {x : Int32} {off : Int} {tgt : Nat} {k1 k2 : Mo α} (hd : decode cc pc = .ok (.ifCond .ne off, 3)) (ht : (pc : Int) + off = (tgt : Int)) (kt : Sim X nL Fi tgt lv st k2) (kf : Sim X nL Fi (pc + 3) lv st k1) : Sim X nL Fi pc lv (.int x :: st) (if x = 0 then k1 else k2) := by
  obtain ⟨p, l, e, R, s, m, args, below, meth, c, D, cy, A, Z⟩ := X
  obtain ⟨hx, hb, hml, hown, hts, hK, hA, hlk, hz⟩ := cx
  intro h r h' c0 n0 c1 n1 hk e1 e2 H locs ls hH hS hl
  refine lv_if_ne hx hb hd ht (fun hc => ?_) (fun hc => ?_)
  · rw [if_neg hc] at hk
    exact kt h r h' c0 n0 c1 n1 hk e1 e2 H locs ls hH hS hl
  · first | rw [if_pos hc] at hk | rw [if_pos (Decidable.not_not.mp hc)] at hk
    exact kf h r h' c0 n0 c1 n1 hk e1 e2 H locs ls hH hS hl
theorem sm_icmp_ne (cx : Cx X cc own nL) {x y : Int32} {off : Int} {tgt : Nat} {k1 k2 : Mo α} (hd : decode cc pc = .ok (.if_icmp .ne off, 3)) (ht : (pc : Int) + off = (tgt : Int)) (kt : Sim X nL Fi tgt lv st k2) (kf : Sim X nL Fi (pc + 3) lv st k1) : Sim X nL Fi pc lv (.int y :: .int x :: st) (if x = y then k1 else k2) := by
  obtain ⟨p, l, e, R, s, m, args, below, meth, c, D, cy, A, Z⟩ := X
  obtain ⟨hx, hb, hml, hown, hts, hK, hA, hlk, hz⟩ := cx
  intro h r h' c0 n0 c1 n1 hk e1 e2 H locs ls hH hS hl
  refine lv_icmp_ne hx hb hd ht (fun hc => ?_) (fun hc => ?_)
  · rw [if_neg hc] at hk
    exact kt h r h' c0 n0 c1 n1 hk e1 e2 H locs ls hH hS hl
  · first | rw [if_pos hc] at hk | rw [if_pos (Decidable.not_not.mp hc)] at hk
    exact kf h r h' c0 n0 c1 n1 hk e1 e2 H locs ls hH hS hl
theorem sm_acmp_ne (cx : Cx X cc own nL) {x y : Option Nat} {off : Int} {tgt : Nat} {k1 k2 : Mo α} (hd : decode cc pc = .ok (.if_acmp .ne off, 3)) (ht : (pc : Int) + off = (tgt : Int)) (kt : Sim X nL Fi tgt lv st k2) (kf : Sim X nL Fi (pc + 3) lv st k1) : Sim X nL Fi pc lv (va_rf y :: va_rf x :: st) (if x = y then k1 else k2) := by
  obtain ⟨p, l, e, R, s, m, args, below, meth, c, D, cy, A, Z⟩ := X
  obtain ⟨hx, hb, hml, hown, hts, hK, hA, hlk, hz⟩ := cx
  intro h r h' c0 n0 c1 n1 hk e1 e2 H locs ls hH hS hl
  refine lv_acmp_ne hx hb hd ht (fun hc => ?_) (fun hc => ?_)
  · rw [if_neg hc] at hk
    exact kt h r h' c0 n0 c1 n1 hk e1 e2 H locs ls hH hS hl
  · first | rw [if_pos hc] at hk | rw [if_pos (Decidable.not_not.mp hc)] at hk
    exact kf h r h' c0 n0 c1 n1 hk e1 e2 H locs ls hH hS hl
theorem sm_if_eq (cx : Cx X cc own nL) {x : Int32} {off : Int} {tgt : Nat} {k1 k2 : Mo α} (hd : decode cc pc = .ok (.ifCond .eq off, 3)) (ht : (pc : Int) + off = (tgt : Int)) (kt : Sim X nL Fi tgt lv st k1) (kf : Sim X nL Fi (pc + 3) lv st k2) : Sim X nL Fi pc lv (.int x :: st) (if x = 0 then k1 else k2) := by
  obtain ⟨p, l, e, R, s, m, args, below, meth, c, D, cy, A, Z⟩ := X
  obtain ⟨hx, hb, hml, hown, hts, hK, hA, hlk, hz⟩ := cx
  intro h r h' c0 n0 c1 n1 hk e1 e2 H locs ls hH hS hl
  refine lv_if_eq hx hb hd ht (fun hc => ?_) (fun hc => ?_)
  · first | rw [if_pos hc] at hk | rw [if_neg hc] at hk
    exact kt h r h' c0 n0 c1 n1 hk e1 e2 H locs ls hH hS hl
  · first | rw [if_neg hc] at hk | rw [if_pos hc] at hk
    exact kf h r h' c0 n0 c1 n1 hk e1 e2 H locs ls hH hS hl
theorem sm_icmp_eq (cx : Cx X cc own nL) {x y : Int32} {off : Int} {tgt : Nat} {k1 k2 : Mo α} (hd : decode cc pc = .ok (.if_icmp .eq off, 3)) (ht : (pc : Int) + off = (tgt : Int)) (kt : Sim X nL Fi tgt lv st k1) (kf : Sim X nL Fi (pc + 3) lv st k2) : Sim X nL Fi pc lv (.int y :: .int x :: st) (if x = y then k1 else k2) := by
  obtain ⟨p, l, e, R, s, m, args, below, meth, c, D, cy, A, Z⟩ := X
  obtain ⟨hx, hb, hml, hown, hts, hK, hA, hlk, hz⟩ := cx
  intro h r h' c0 n0 c1 n1 hk e1 e2 H locs ls hH hS hl
  refine lv_icmp_eq hx hb hd ht (fun hc => ?_) (fun hc => ?_)
  · first | rw [if_pos hc] at hk | rw [if_neg hc] at hk
    exact kt h r h' c0 n0 c1 n1 hk e1 e2 H locs ls hH hS hl
  · first | rw [if_neg hc] at hk | rw [if_pos hc] at hk
    exact kf h r h' c0 n0 c1 n1 hk e1 e2 H locs ls hH hS hl
theorem sm_if_lt (cx : Cx X cc own nL) {x : Int32} {off : Int} {tgt : Nat} {k1 k2 : Mo α} (hd : decode cc pc = .ok (.ifCond .lt off, 3)) (ht : (pc : Int) + off = (tgt : Int)) (kt : Sim X nL Fi tgt lv st k1) (kf : Sim X nL Fi (pc + 3) lv st k2) : Sim X nL Fi pc lv (.int x :: st) (if x < 0 then k1 else k2) := by
  obtain ⟨p, l, e, R, s, m, args, below, meth, c, D, cy, A, Z⟩ := X
  obtain ⟨hx, hb, hml, hown, hts, hK, hA, hlk, hz⟩ := cx
  intro h r h' c0 n0 c1 n1 hk e1 e2 H locs ls hH hS hl
  refine lv_if_lt hx hb hd ht (fun hc => ?_) (fun hc => ?_)
  · first | rw [if_pos hc] at hk | rw [if_neg hc] at hk
    exact kt h r h' c0 n0 c1 n1 hk e1 e2 H locs ls hH hS hl
  · first | rw [if_neg hc] at hk | rw [if_pos hc] at hk
    exact kf h r h' c0 n0 c1 n1 hk e1 e2 H locs ls hH hS hl
theorem sm_icmp_lt (cx : Cx X cc own nL) {x y : Int32} {off : Int} {tgt : Nat} {k1 k2 : Mo α} (hd : decode cc pc = .ok (.if_icmp .lt off, 3)) (ht : (pc : Int) + off = (tgt : Int)) (kt : Sim X nL Fi tgt lv st k1) (kf : Sim X nL Fi (pc + 3) lv st k2) : Sim X nL Fi pc lv (.int y :: .int x :: st) (if x < y then k1 else k2) := by
  obtain ⟨p, l, e, R, s, m, args, below, meth, c, D, cy, A, Z⟩ := X
  obtain ⟨hx, hb, hml, hown, hts, hK, hA, hlk, hz⟩ := cx
  intro h r h' c0 n0 c1 n1 hk e1 e2 H locs ls hH hS hl
  refine lv_icmp_lt hx hb hd ht (fun hc => ?_) (fun hc => ?_)
  · first | rw [if_pos hc] at hk | rw [if_neg hc] at hk
    exact kt h r h' c0 n0 c1 n1 hk e1 e2 H locs ls hH hS hl
  · first | rw [if_neg hc] at hk | rw [if_pos hc] at hk
    exact kf h r h' c0 n0 c1 n1 hk e1 e2 H locs ls hH hS hl
theorem sm_if_ge (cx : Cx X cc own nL) {x : Int32} {off : Int} {tgt : Nat} {k1 k2 : Mo α} (hd : decode cc pc = .ok (.ifCond .ge off, 3)) (ht : (pc : Int) + off = (tgt : Int)) (kt : Sim X nL Fi tgt lv st k1) (kf : Sim X nL Fi (pc + 3) lv st k2) : Sim X nL Fi pc lv (.int x :: st) (if 0 ≤ x then k1 else k2) := by
  obtain ⟨p, l, e, R, s, m, args, below, meth, c, D, cy, A, Z⟩ := X
  obtain ⟨hx, hb, hml, hown, hts, hK, hA, hlk, hz⟩ := cx
  intro h r h' c0 n0 c1 n1 hk e1 e2 H locs ls hH hS hl
  refine lv_if_ge hx hb hd ht (fun hc => ?_) (fun hc => ?_)
  · first | rw [if_pos hc] at hk | rw [if_neg hc] at hk
    exact kt h r h' c0 n0 c1 n1 hk e1 e2 H locs ls hH hS hl
  · first | rw [if_neg hc] at hk | rw [if_pos hc] at hk
    exact kf h r h' c0 n0 c1 n1 hk e1 e2 H locs ls hH hS hl
theorem sm_icmp_ge (cx : Cx X cc own nL) {x y : Int32} {off : Int} {tgt : Nat} {k1 k2 : Mo α} (hd : decode cc pc = .ok (.if_icmp .ge off, 3)) (ht : (pc : Int) + off = (tgt : Int)) (kt : Sim X nL Fi tgt lv st k1) (kf : Sim X nL Fi (pc + 3) lv st k2) : Sim X nL Fi pc lv (.int y :: .int x :: st) (if y ≤ x then k1 else k2) := by
  obtain ⟨p, l, e, R, s, m, args, below, meth, c, D, cy, A, Z⟩ := X
  obtain ⟨hx, hb, hml, hown, hts, hK, hA, hlk, hz⟩ := cx
  intro h r h' c0 n0 c1 n1 hk e1 e2 H locs ls hH hS hl
  refine lv_icmp_ge hx hb hd ht (fun hc => ?_) (fun hc => ?_)
  · first | rw [if_pos hc] at hk | rw [if_neg hc] at hk
    exact kt h r h' c0 n0 c1 n1 hk e1 e2 H locs ls hH hS hl
  · first | rw [if_neg hc] at hk | rw [if_pos hc] at hk
    exact kf h r h' c0 n0 c1 n1 hk e1 e2 H locs ls hH hS hl
theorem sm_if_gt (cx : Cx X cc own nL) {x : Int32} {off : Int} {tgt : Nat} {k1 k2 : Mo α} (hd : decode cc pc = .ok (.ifCond .gt off, 3)) (ht : (pc : Int) + off = (tgt : Int)) (kt : Sim X nL Fi tgt lv st k1) (kf : Sim X nL Fi (pc + 3) lv st k2) : Sim X nL Fi pc lv (.int x :: st) (if 0 < x then k1 else k2) := by
  obtain ⟨p, l, e, R, s, m, args, below, meth, c, D, cy, A, Z⟩ := X
  obtain ⟨hx, hb, hml, hown, hts, hK, hA, hlk, hz⟩ := cx
  intro h r h' c0 n0 c1 n1 hk e1 e2 H locs ls hH hS hl
  refine lv_if_gt hx hb hd ht (fun hc => ?_) (fun hc => ?_)
  · first | rw [if_pos hc] at hk | rw [if_neg hc] at hk
    exact kt h r h' c0 n0 c1 n1 hk e1 e2 H locs ls hH hS hl
  · first | rw [if_neg hc] at hk | rw [if_pos hc] at hk
    exact kf h r h' c0 n0 c1 n1 hk e1 e2 H locs ls hH hS hl
theorem sm_icmp_gt (cx : Cx X cc own nL) {x y : Int32} {off : Int} {tgt : Nat} {k1 k2 : Mo α} (hd : decode cc pc = .ok (.if_icmp .gt off, 3)) (ht : (pc : Int) + off = (tgt : Int)) (kt : Sim X nL Fi tgt lv st k1) (kf : Sim X nL Fi (pc + 3) lv st k2) : Sim X nL Fi pc lv (.int y :: .int x :: st) (if y < x then k1 else k2) := by
  obtain ⟨p, l, e, R, s, m, args, below, meth, c, D, cy, A, Z⟩ := X
  obtain ⟨hx, hb, hml, hown, hts, hK, hA, hlk, hz⟩ := cx
  intro h r h' c0 n0 c1 n1 hk e1 e2 H locs ls hH hS hl
  refine lv_icmp_gt hx hb hd ht (fun hc => ?_) (fun hc => ?_)
  · first | rw [if_pos hc] at hk | rw [if_neg hc] at hk
    exact kt h r h' c0 n0 c1 n1 hk e1 e2 H locs ls hH hS hl
  · first | rw [if_neg hc] at hk | rw [if_pos hc] at hk
    exact kf h r h' c0 n0 c1 n1 hk e1 e2 H locs ls hH hS hl
theorem sm_if_le (cx : Cx X cc own nL) {x : Int32} {off : Int} {tgt : Nat} {k1 k2 : Mo α} (hd : decode cc pc = .ok (.ifCond .le off, 3)) (ht : (pc : Int) + off = (tgt : Int)) (kt : Sim X nL Fi tgt lv st k1) (kf : Sim X nL Fi (pc + 3) lv st k2) : Sim X nL Fi pc lv (.int x :: st) (if x ≤ 0 then k1 else k2) := by
  obtain ⟨p, l, e, R, s, m, args, below, meth, c, D, cy, A, Z⟩ := X
  obtain ⟨hx, hb, hml, hown, hts, hK, hA, hlk, hz⟩ := cx
  intro h r h' c0 n0 c1 n1 hk e1 e2 H locs ls hH hS hl
  refine lv_if_le hx hb hd ht (fun hc => ?_) (fun hc => ?_)
  · first | rw [if_pos hc] at hk | rw [if_neg hc] at hk
    exact kt h r h' c0 n0 c1 n1 hk e1 e2 H locs ls hH hS hl
  · first | rw [if_neg hc] at hk | rw [if_pos hc] at hk
    exact kf h r h' c0 n0 c1 n1 hk e1 e2 H locs ls hH hS hl
theorem sm_icmp_le (cx : Cx X cc own nL) {x y : Int32} {off : Int} {tgt : Nat} {k1 k2 : Mo α} (hd : decode cc pc = .ok (.if_icmp .le off, 3)) (ht : (pc : Int) + off = (tgt : Int)) (kt : Sim X nL Fi tgt lv st k1) (kf : Sim X nL Fi (pc + 3) lv st k2) : Sim X nL Fi pc lv (.int y :: .int x :: st) (if x ≤ y then k1 else k2) := by
  obtain ⟨p, l, e, R, s, m, args, below, meth, c, D, cy, A, Z⟩ := X
  obtain ⟨hx, hb, hml, hown, hts, hK, hA, hlk, hz⟩ := cx
  intro h r h' c0 n0 c1 n1 hk e1 e2 H locs ls hH hS hl
  refine lv_icmp_le hx hb hd ht (fun hc => ?_) (fun hc => ?_)
  · first | rw [if_pos hc] at hk | rw [if_neg hc] at hk
    exact kt h r h' c0 n0 c1 n1 hk e1 e2 H locs ls hH hS hl
  · first | rw [if_neg hc] at hk | rw [if_pos hc] at hk
    exact kf h r h' c0 n0 c1 n1 hk e1 e2 H locs ls hH hS hl
theorem sm_acmp_eq (cx : Cx X cc own nL) {x y : Option Nat} {off : Int} {tgt : Nat} {k1 k2 : Mo α} (hd : decode cc pc = .ok (.if_acmp .eq off, 3)) (ht : (pc : Int) + off = (tgt : Int)) (kt : Sim X nL Fi tgt lv st k1) (kf : Sim X nL Fi (pc + 3) lv st k2) : Sim X nL Fi pc lv (va_rf y :: va_rf x :: st) (if x = y then k1 else k2) := by
  obtain ⟨p, l, e, R, s, m, args, below, meth, c, D, cy, A, Z⟩ := X
  obtain ⟨hx, hb, hml, hown, hts, hK, hA, hlk, hz⟩ := cx
  intro h r h' c0 n0 c1 n1 hk e1 e2 H locs ls hH hS hl
  refine lv_acmp_eq hx hb hd ht (fun hc => ?_) (fun hc => ?_)
  · first | rw [if_pos hc] at hk | rw [if_neg hc] at hk
    exact kt h r h' c0 n0 c1 n1 hk e1 e2 H locs ls hH hS hl
  · first | rw [if_neg hc] at hk | rw [if_pos hc] at hk
    exact kf h r h' c0 n0 c1 n1 hk e1 e2 H locs ls hH hS hl
theorem sm_ifnull (cx : Cx X cc own nL) {x : Option Nat} {off : Int} {tgt : Nat} {k1 k2 : Mo α} (hd : decode cc pc = .ok (.ifnull off, 3)) (ht : (pc : Int) + off = (tgt : Int)) (kt : Sim X nL Fi tgt lv st k1) (kf : Sim X nL Fi (pc + 3) lv st k2) : Sim X nL Fi pc lv (va_rf x :: st) (if x = none then k1 else k2) := by
  obtain ⟨p, l, e, R, s, m, args, below, meth, c, D, cy, A, Z⟩ := X
  obtain ⟨hx, hb, hml, hown, hts, hK, hA, hlk, hz⟩ := cx
  intro h r h' c0 n0 c1 n1 hk e1 e2 H locs ls hH hS hl
  cases x with
  | none => rw [if_pos rfl] at hk; exact lv_ifnullN hx hb hd ht (kt h r h' c0 n0 c1 n1 hk e1 e2 H locs ls hH hS hl)
  | some a => rw [if_neg (by simp)] at hk; exact lv_ifnull hx hb hd (kf h r h' c0 n0 c1 n1 hk e1 e2 H locs ls hH hS hl)
theorem sm_ifnonnull (cx : Cx X cc own nL) {x : Option Nat} {off : Int} {tgt : Nat} {k1 k2 : Mo α} (hd : decode cc pc = .ok (.ifnonnull off, 3)) (ht : (pc : Int) + off = (tgt : Int)) (kt : Sim X nL Fi tgt lv st k2) (kf : Sim X nL Fi (pc + 3) lv st k1) : Sim X nL Fi pc lv (va_rf x :: st) (if x = none then k1 else k2) := by
  obtain ⟨p, l, e, R, s, m, args, below, meth, c, D, cy, A, Z⟩ := X
  obtain ⟨hx, hb, hml, hown, hts, hK, hA, hlk, hz⟩ := cx
  intro h r h' c0 n0 c1 n1 hk e1 e2 H locs ls hH hS hl
  cases x with
  | none => rw [if_pos rfl] at hk; exact lv_ifnonnullN hx hb hd (kf h r h' c0 n0 c1 n1 hk e1 e2 H locs ls hH hS hl)
  | some a => rw [if_neg (by simp)] at hk; exact lv_ifnonnull hx hb hd ht (kt h r h' c0 n0 c1 n1 hk e1 e2 H locs ls hH hS hl)
end LY
end
section
/-! ===== rows that touch the heap ===== -/
theorem one_P {D : va_G} {cl : List vw_C} {q : Nat × va_E} {H : Heap} (h : va_at D cl q H) : va_P D cl [q] H := by
  intro k x hk
  cases k with
  | zero => cases hk; exact h
  | succ k => simp at hk
theorem ob_some {ci : Nat} {r : Option Nat} {h : Hs} {a : Nat} {fs : List Value} (e : ob ci r h = some (a, fs)) : r = some a ∧ h.1 a = some (.inl (ci, fs)) := by
  unfold ob at e
  split at e
  · cases e
  · rename_i a'
    split at e
    · rename_i c' fs' e'
      split at e
      · rename_i hc
        subst hc
        cases e
        exact ⟨rfl, e'⟩
      · cases e
    · cases e
theorem gI_some {ci k : Nat} {r : Option Nat} {h h1 : Hs} {v : Int32} {c n : Nat} (e : gI ci k r h = some (v, h1, c, n)) : ∃ a fs, r = some a ∧ h.1 a = some (.inl (ci, fs)) ∧ fs[k]? = some (.int v) ∧ h1 = h ∧ c = 0 ∧ n = 0 := by
  unfold gI at e
  split at e
  · cases e
  · rename_i a fs e0
    obtain ⟨q1, q2⟩ := ob_some e0
    split at e
    · rename_i x ex
      cases e
      exact ⟨a, fs, q1, q2, ex, rfl, rfl, rfl⟩
    · cases e
theorem gL_some {ci k : Nat} {r : Option Nat} {h h1 : Hs} {v : Int64} {c n : Nat} (e : gL ci k r h = some (v, h1, c, n)) : ∃ a fs, r = some a ∧ h.1 a = some (.inl (ci, fs)) ∧ fs[k]? = some (.long v) ∧ h1 = h ∧ c = 0 ∧ n = 0 := by
  unfold gL at e
  split at e
  · cases e
  · rename_i a fs e0
    obtain ⟨q1, q2⟩ := ob_some e0
    split at e
    · rename_i x ex
      cases e
      exact ⟨a, fs, q1, q2, ex, rfl, rfl, rfl⟩
    · cases e
theorem gR_some {ci k : Nat} {r : Option Nat} {h h1 : Hs} {v : Option Nat} {c n : Nat} (e : gR ci k r h = some (v, h1, c, n)) : ∃ a fs, r = some a ∧ h.1 a = some (.inl (ci, fs)) ∧ fs[k]? = some (va_rf v) ∧ h1 = h ∧ c = 0 ∧ n = 0 := by
  unfold gR at e
  split at e
  · cases e
  · rename_i a fs e0
    obtain ⟨q1, q2⟩ := ob_some e0
    split at e
    · rename_i x ex
      cases e
      exact ⟨a, fs, q1, q2, ex, rfl, rfl, rfl⟩
    · rename_i ex
      cases e
      exact ⟨a, fs, q1, q2, ex, rfl, rfl, rfl⟩
    · cases e
theorem pV_some {ci k : Nat} {r : Option Nat} {x : Value} {h h1 : Hs} {v : Unit} {c n : Nat} (e : pV ci k r x h = some (v, h1, c, n)) : ∃ a fs, r = some a ∧ h.1 a = some (.inl (ci, fs)) ∧ k < fs.length ∧ ci ≠ 0 ∧ h1 = (va_up h.1 a (some (.inl (ci, fs.set k x))), h.2) ∧ c = 0 ∧ n = 0 := by
  unfold pV at e
  split at e
  · cases e
  · rename_i a fs e0
    obtain ⟨q1, q2⟩ := ob_some e0
    split at e
    · rename_i hc
      cases e
      exact ⟨a, fs, q1, q2, hc.1, hc.2, rfl, rfl, rfl⟩
    · cases e
theorem mo_some {α : Type} {ci : Nat} {r : Option Nat} {f : Mo α} {h : Hs} {y : α × Hs × Nat × Nat} (e : mo ci r f h = some y) : ∃ a fs, r = some a ∧ h.1 a = some (.inl (ci, fs)) ∧ f h = some y := by
  unfold mo at e
  split at e
  · cases e
  · rename_i z e0
    obtain ⟨a, fs⟩ := z
    obtain ⟨q1, q2⟩ := ob_some e0
    exact ⟨a, fs, q1, q2, e⟩
theorem ar_some {t : Nat} {r : Option Nat} {h : Hs} {a u : Nat} {x : vp_A} (e : ar t r h = some (a, u, x)) : r = some a ∧ h.1 a = some (.inr (u, x)) ∧ u % 10 = t := by
  unfold ar at e
  split at e
  · cases e
  · split at e
    · rename_i u' x' e'
      split at e
      · rename_i hc
        cases e
        exact ⟨rfl, e', hc⟩
      · cases e
    · cases e
theorem aI_some {t : Nat} {r : Option Nat} {i : Int32} {h h1 : Hs} {v : Int32} {c n : Nat} (e : aI t r i h = some (v, h1, c, n)) : ∃ a u N f, r = some a ∧ h.1 a = some (.inr (u, (N, .inl f))) ∧ u % 10 = t ∧ vp_in i N ∧ v = f i.toNatClampNeg ∧ h1 = h ∧ c = 0 ∧ n = 0 := by
  unfold aI at e
  split at e
  · rename_i a u N f e0
    obtain ⟨q1, q2, q3⟩ := ar_some e0
    split at e
    · cases e
    · rename_i hc
      cases e
      exact ⟨a, u, N, f, q1, q2, q3, hc, rfl, rfl, rfl, rfl⟩
  · cases e
theorem aL_some {r : Option Nat} {i : Int32} {h h1 : Hs} {v : Int64} {c n : Nat} (e : aL r i h = some (v, h1, c, n)) : ∃ a u N f, r = some a ∧ h.1 a = some (.inr (u, (N, .inr (.inl f)))) ∧ u % 10 = 2 ∧ vp_in i N ∧ v = f i.toNatClampNeg ∧ h1 = h ∧ c = 0 ∧ n = 0 := by
  unfold aL at e
  split at e
  · rename_i a u N f e0
    obtain ⟨q1, q2, q3⟩ := ar_some e0
    split at e
    · cases e
    · rename_i hc
      cases e
      exact ⟨a, u, N, f, q1, q2, q3, hc, rfl, rfl, rfl, rfl⟩
  · cases e
theorem aR_some {r : Option Nat} {i : Int32} {h h1 : Hs} {v : Option Nat} {c n : Nat} (e : aR r i h = some (v, h1, c, n)) : ∃ a u N f, r = some a ∧ h.1 a = some (.inr (u, (N, .inr (.inr (.inr (.inr f)))))) ∧ u % 10 = 4 ∧ vp_in i N ∧ v = f i.toNatClampNeg ∧ h1 = h ∧ c = 0 ∧ n = 0 := by
  unfold aR at e
  split at e
  · rename_i a u N f e0
    obtain ⟨q1, q2, q3⟩ := ar_some e0
    split at e
    · cases e
    · rename_i hc
      cases e
      exact ⟨a, u, N, f, q1, q2, q3, hc, rfl, rfl, rfl, rfl⟩
  · cases e
theorem aN_some {t : Nat} {r : Option Nat} {h h1 : Hs} {v : Int32} {c n : Nat} (e : aN t r h = some (v, h1, c, n)) : ∃ a u x, r = some a ∧ h.1 a = some (.inr (u, x)) ∧ u % 10 = t ∧ v = Int32.ofNat x.1 ∧ h1 = h ∧ c = 0 ∧ n = 0 := by
  unfold aN at e
  split at e
  · rename_i a u N f e0
    obtain ⟨q1, q2, q3⟩ := ar_some e0
    cases e
    exact ⟨a, u, (N, f), q1, q2, q3, rfl, rfl, rfl, rfl⟩
  · cases e
theorem sI_some {t : Nat} {r : Option Nat} {i x : Int32} {h h1 : Hs} {v : Unit} {c n : Nat} (e : sI t r i x h = some (v, h1, c, n)) : ∃ a N f, r = some a ∧ h.1 a = some (.inr (t, (N, .inl f))) ∧ t % 10 = t ∧ vp_in i N ∧ h1 = (va_up h.1 a (some (.inr (t, (N, .inl (upd f i.toNatClampNeg (kp t x)))))), h.2) ∧ c = 0 ∧ n = 0 := by
  unfold sI at e
  split at e
  · rename_i a u N f e0
    obtain ⟨q1, q2, q3⟩ := ar_some e0
    split at e
    · cases e
    · rename_i hc
      have hu : u = t := Decidable.byContradiction fun z => hc (Or.inr (Or.inr z))
      subst hu
      cases e
      exact ⟨a, N, f, q1, q2, q3, fun z => hc (z.elim Or.inl (fun z => Or.inr (Or.inl z))), rfl, rfl, rfl⟩
  · cases e
theorem sL_some {r : Option Nat} {i : Int32} {x : Int64} {h h1 : Hs} {v : Unit} {c n : Nat} (e : sL r i x h = some (v, h1, c, n)) : ∃ a N f, r = some a ∧ h.1 a = some (.inr (2, (N, .inr (.inl f)))) ∧ vp_in i N ∧ h1 = (va_up h.1 a (some (.inr (2, (N, .inr (.inl (vp_updL f i.toNatClampNeg x)))))), h.2) ∧ c = 0 ∧ n = 0 := by
  unfold sL at e
  split at e
  · rename_i a u N f e0
    obtain ⟨q1, q2, q3⟩ := ar_some e0
    split at e
    · cases e
    · rename_i hc
      have hu : u = 2 := Decidable.byContradiction fun z => hc (Or.inr (Or.inr z))
      subst hu
      cases e
      exact ⟨a, N, f, q1, q2, fun z => hc (z.elim Or.inl (fun z => Or.inr (Or.inl z))), rfl, rfl, rfl⟩
  · cases e
theorem sR_some {r : Option Nat} {i : Int32} {x : Option Nat} {h h1 : Hs} {v : Unit} {c n : Nat} (e : sR r i x h = some (v, h1, c, n)) : ∃ a N f, r = some a ∧ h.1 a = some (.inr (4, (N, .inr (.inr (.inr (.inr f)))))) ∧ vp_in i N ∧ (∀ b, x = some b → ∃ o, h.1 b = some (.inl o)) ∧ h1 = (va_up h.1 a (some (.inr (4, (N, .inr (.inr (.inr (.inr (va_up f i.toNatClampNeg x)))))))), h.2) ∧ c = 0 ∧ n = 0 := by
  unfold sR at e
  split at e
  · rename_i a u N f e0
    obtain ⟨q1, q2, q3⟩ := ar_some e0
    split at e
    · cases e
    · rename_i hc
      have hu : u = 4 := Decidable.byContradiction fun z => hc (Or.inr (Or.inr z))
      subst hu
      have hv : vp_in i N := fun z => hc (z.elim Or.inl (fun z => Or.inr (Or.inl z)))
      split at e
      · cases e
        exact ⟨a, N, f, q1, q2, hv, fun b hb => (by cases hb), rfl, rfl, rfl⟩
      · split at e
        · rename_i b o e1
          cases e
          exact ⟨a, N, f, q1, q2, hv, fun b' hb => (by cases hb; exact ⟨_, e1⟩), rfl, rfl, rfl⟩
        · cases e
  · cases e
/-- all that is fixed of a field's use: by which class, entry, of which class and place; its type; whether it is final -/
def FldOk (own : String) (i ci k : Nat) (ty : FieldType) (fin dc : Bool) : Prop := ∃ (C : String) (T : u_T) (N : Nat) (ref : String) (ty0 : Nat → FieldType), vwCl[ci]? = some (C, T, N) ∧ k < N ∧ (∀ w ∈ u_ws C T N, w ∈ TB) ∧ (∀ k, k < N → parseFieldDescriptor (T k).2.2.1 = some (ty0 k)) ∧ (∀ a, a < N → ∀ b, b < N → a ≠ b → (T a).2.1 ≠ (T b).2.1) ∧ Cond.fieldLink own i ref (T k).2.1 (T k).2.2.1 ∈ TB ∧ ((T k).1 = ref ∨ Cond.sameField ref (T k).1 (T k).2.1 (T k).2.2.1 ∈ TB) ∧ parseFieldDescriptor (T k).2.2.1 = some ty ∧ (T k).2.2.2 = fin ∧ (dc = true → (T k).1 = own)
section LH
variable {α : Type} {X : Cg} {nL : Nat} {Fi : α → Hs → State → Prop} {pc : Nat} {lv : List (Nat × Value)} {st : List Value} {k : Mo α} {cc : ByteArray} {own : String}
theorem hs_same {own : String} {i ci k : Nat} {ty : FieldType} {fin : Bool} {args : Array Value} {s : State} {ref : String} {T : u_T} (hts : ∀ w ∈ TB, w.before args s = true) (h : (T k).1 = ref ∨ Cond.sameField ref (T k).1 (T k).2.1 (T k).2.2.1 ∈ TB) : ∀ x, s.fieldFound? (T k).1 (T k).2.1 (T k).2.2.1 = some x → s.fieldFound? ref (T k).2.1 (T k).2.2.1 = some x := by
  intro x hx
  rcases h with h | h
  · rw [← h]; exact hx
  · exact u_same (hts _ h) x hx
/-- getfield, whatever the value -/
theorem sm_getV (cx : Cx X cc own nL) {i ci j : Nat} {ty : FieldType} {fin dc : Bool} {β : Type} {g : Mo β} {v : β → Value} {r : Option Nat} {K : β → Mo α} (hF : FldOk own i ci j ty fin dc) (hg : ∀ (h h1 : Hs) (b : β) (c n : Nat), g h = some (b, h1, c, n) → ∃ a fs, r = some a ∧ h.1 a = some (.inl (ci, fs)) ∧ fs[j]? = some (v b) ∧ h1 = h ∧ c = 0 ∧ n = 0) (hd : decode cc pc = .ok (.getfield i, 3)) (kk : ∀ b, Sim X nL Fi (pc + 3) lv (v b :: st) (K b)) : Sim X nL Fi pc lv (va_rf r :: st) (mb g K) := by
  obtain ⟨p, l, e, R, s, m, args, below, meth, c, D, cy, A, Z⟩ := X
  obtain ⟨hx, hb, hml, hown, hts, hK, hA, hlk, hz⟩ := cx
  intro h z h' c0 n0 c1 n1 hk e1 e2 H locs ls hH hS hl
  obtain ⟨b, h1, ca, na, cb, nb, k1, k2, rfl, rfl⟩ := mb_some hk
  obtain ⟨a, fs, rfl, ha, hv, rfl, rfl, rfl⟩ := hg _ _ _ _ _ k1
  obtain ⟨C, T, N, ref, ty0, f1, f2, f3, f4, f5, f6, f7, f8, f9, f10⟩ := hF
  refine va_get (C := C) (T := T) (N := N) (ref := ref) hx hb hts f3 hown hK (one_P (hH.2 a _ ha).1) 0 rfl f1 j f2 (hts _ f6) (hs_same (own := own) (i := i) (ci := ci) (ty := ty) (fin := fin) hts f7) hv hd ?_
  exact kk b h1 z h' c0 n0 cb nb k2 (by omega) (by omega) H locs ls hH hS hl
theorem sm_getI (cx : Cx X cc own nL) {i ci j : Nat} {ty : FieldType} {fin dc : Bool} {r : Option Nat} {K : Int32 → Mo α} (hF : FldOk own i ci j ty fin dc) (hd : decode cc pc = .ok (.getfield i, 3)) (kk : ∀ b, Sim X nL Fi (pc + 3) lv (.int b :: st) (K b)) : Sim X nL Fi pc lv (va_rf r :: st) (mb (gI ci j r) K) := sm_getV (v := fun b => .int b) cx hF (fun _ _ _ _ _ => gI_some) hd kk
theorem sm_getL (cx : Cx X cc own nL) {i ci j : Nat} {ty : FieldType} {fin dc : Bool} {r : Option Nat} {K : Int64 → Mo α} (hF : FldOk own i ci j ty fin dc) (hd : decode cc pc = .ok (.getfield i, 3)) (kk : ∀ b, Sim X nL Fi (pc + 3) lv (.long b :: st) (K b)) : Sim X nL Fi pc lv (va_rf r :: st) (mb (gL ci j r) K) := sm_getV (v := fun b => .long b) cx hF (fun _ _ _ _ _ => gL_some) hd kk
theorem sm_getR (cx : Cx X cc own nL) {i ci j : Nat} {ty : FieldType} {fin dc : Bool} {r : Option Nat} {K : Option Nat → Mo α} (hF : FldOk own i ci j ty fin dc) (hd : decode cc pc = .ok (.getfield i, 3)) (kk : ∀ b, Sim X nL Fi (pc + 3) lv (va_rf b :: st) (K b)) : Sim X nL Fi pc lv (va_rf r :: st) (mb (gR ci j r) K) := sm_getV (v := fun b => va_rf b) cx hF (fun _ _ _ _ _ => gR_some) hd kk
/-- putfield -/
theorem sm_putV (cx : Cx X cc own nL) {i ci j : Nat} {ty : FieldType} {dc : Bool} {v : Value} {r : Option Nat} {K : Mo α} (hF : FldOk own i ci j ty false dc) (hn : narrow ty v = v) (hfit : fits ty v = true) (hd : decode cc pc = .ok (.putfield i, 3)) (kk : Sim X nL Fi (pc + 3) lv st K) : Sim X nL Fi pc lv (v :: va_rf r :: st) (mb (pV ci j r v) (fun _ => K)) := by
  obtain ⟨p, l, e, R, s, m, args, below, meth, c, D, cy, A, Z⟩ := X
  obtain ⟨hx, hb, hml, hown, hts, hK, hA, hlk, hz⟩ := cx
  intro h z h' c0 n0 c1 n1 hk e1 e2 H locs ls hH hS hl
  obtain ⟨b, h1, ca, na, cb, nb, k1, k2, rfl, rfl⟩ := mb_some hk
  obtain ⟨a, fs, rfl, ha, hlen, hci, rfl, rfl, rfl⟩ := pV_some k1
  obtain ⟨C, T, N, ref, ty0, f1, f2, f3, f4, f5, f6, f7, f8, f9, f10⟩ := hF
  have hap := va_apart (own := own) hts f3 ty0 f4 f5 hK f1
  obtain ⟨⟨r', h1', cell, q1, q2, q3, q4⟩, hwr⟩ := hH.2 a _ ha
  have hr : r' = (C, T, N) := Option.some.inj (h1'.symm.trans f1)
  subst hr
  have hAa : A a := hwr (decide_eq_true hci)
  obtain ⟨hSl, hfc, kC, hkC, hkind⟩ := hK.1 ci _ f1
  obtain ⟨cf, kf, fi, f, hi, hsl⟩ := hSl j f2
  have hlay := hts _ (f3 _ (u_in_lay f2))
  unfold u_lay at hlay
  rw [if_neg (by rw [f9]; decide)] at hlay
  have hst := (u_facts hfc hkC (u_lays hts f3 f2) hi).1
  have h6 := u_store hfc hkC hkind hlay hi f8 hn hfit
  refine W.putK hx hb (f := f) ⟨hown, hts _ f6, ⟨_, _, _, hs_same (own := own) (i := i) (ci := ci) (ty := ty) (fin := false) hts f7 _ hi⟩, hst⟩ (by rw [q2]; exact h6) q1 q3 (by rw [hsl]; exact k2_hasslot (q4 j f2)) rfl rfl hd fun H' e3 e4 e5 => ?_
  rw [hsl] at e3 ⊢
  exact kk _ z h' c0 n0 cb nb k2 (by omega) (by omega) H' _ ls (hH.put hAa ⟨_, f1, t_OB.to (V := updV (vp_V fs) j v) ⟨_, e3, q2, q3, t_set q4 hap f2 v⟩ (fun q _ => vp_updV_set hlen v q)⟩ e4 e5) (hS.put e4 e5 hAa) hl
theorem sm_putF (cx : Cx X cc own nL) (hin : X.2.2.2.2.2.2.2.2.1.name = "<init>") {i ci j : Nat} {ty : FieldType} {v : Value} {r : Option Nat} {K : Mo α} (hF : FldOk own i ci j ty true true) (hn : narrow ty v = v) (hfit : fits ty v = true) (hd : decode cc pc = .ok (.putfield i, 3)) (kk : Sim X nL Fi (pc + 3) lv st K) : Sim X nL Fi pc lv (v :: va_rf r :: st) (mb (pV ci j r v) (fun _ => K)) := by
  obtain ⟨p, l, e, R, s, m, args, below, meth, c, D, cy, A, Z⟩ := X
  obtain ⟨hx, hb, hml, hown, hts, hK, hA, hlk, hz⟩ := cx
  intro h z h' c0 n0 c1 n1 hk e1 e2 H locs ls hH hS hl
  obtain ⟨b, h1, ca, na, cb, nb, k1, k2, rfl, rfl⟩ := mb_some hk
  obtain ⟨a, fs, rfl, ha, hlen, hci, rfl, rfl, rfl⟩ := pV_some k1
  obtain ⟨C, T, N, ref, ty0, f1, f2, f3, f4, f5, f6, f7, f8, f9, f10⟩ := hF
  have hap := va_apart (own := own) hts f3 ty0 f4 f5 hK f1
  obtain ⟨⟨r', h1', cell, q1, q2, q3, q4⟩, hwr⟩ := hH.2 a _ ha
  have hr : r' = (C, T, N) := Option.some.inj (h1'.symm.trans f1)
  subst hr
  have hAa : A a := hwr (decide_eq_true hci)
  obtain ⟨hSl, hfc, kC, hkC, hkind⟩ := hK.1 ci _ f1
  obtain ⟨cf, kf, fi, f, hi, hsl⟩ := hSl j f2
  have hlay := hts _ (f3 _ (u_in_lay f2))
  unfold u_lay at hlay
  rw [if_pos f9] at hlay
  have hst := (u_facts hfc hkC (u_lays hts f3 f2) hi).1
  have hcf : m.cls = cf := by
    obtain ⟨_, _, c', _, _, _, -, -, hf', -, -, -, hown2, -⟩ := Cond.laysFinal_spec hlay
    have e1 : c' = cf := by have := hi.symm.trans hf'; simp at this; exact this.1.symm
    rw [f10 rfl] at hown2
    rw [← e1]; exact Option.some.inj (hown.symm.trans hown2)
  have h6 := u_fits hfc hkC hkind (Or.inr hlay) hi f8 hn hfit
  refine W.putFinK hx hb hown (hts _ f6) (hs_same (own := own) (i := i) (ci := ci) (ty := ty) (fin := true) hts f7 _ hi) hst hcf hin (by rw [q2]; exact h6) q1 q3 (by rw [hsl]; exact k2_hasslot (q4 j f2)) rfl rfl hd fun H' e3 e4 e5 => ?_
  rw [hsl] at e3 ⊢
  exact kk _ z h' c0 n0 cb nb k2 (by omega) (by omega) H' _ ls (hH.put hAa ⟨_, f1, t_OB.to (V := updV (vp_V fs) j v) ⟨_, e3, q2, q3, t_set q4 hap f2 v⟩ (fun q _ => vp_updV_set hlen v q)⟩ e4 e5) (hS.put e4 e5 hAa) hl
end LH
end
section
/-! ===== arrays, new cells, casts ===== -/
theorem kp_byte (x : Int32) : kp 0 x = vp_nar .byte x := rfl
theorem kp_int (x : Int32) : kp 1 x = x := rfl
theorem kp_bool (x : Int32) : kp 3 x = x &&& 1 := rfl
theorem nr_rf {C : String} (r : Option Nat) : narrow (.object C) (va_rf r) = va_rf r := by cases r <;> rfl
theorem ft_rf {C : String} (r : Option Nat) : fits (.object C) (va_rf r) = true := by cases r <;> rfl
theorem nr_ra {t : FieldType} (r : Option Nat) : narrow (.array t) (va_rf r) = va_rf r := by cases r <;> rfl
theorem ft_ra {t : FieldType} (r : Option Nat) : fits (.array t) (va_rf r) = true := by cases r <;> rfl
/-- a truth value is written into a field -/
def pZ (ci k : Nat) (r : Option Nat) (x : Int32) : Mo Unit := if x = 0 ∨ x = 1 then pV ci k r (.int x) else mf
def ck (ci : Nat) (r : Option Nat) : Mo Unit := fun h => match r with
  | none => some ((), h, 0, 0)
  | some _ => match ob ci r h with
    | none => none
    | some _ => some ((), h, 0, 0)
section LC
variable {α : Type} {X : Cg} {nL : Nat} {Fi : α → Hs → State → Prop} {pc : Nat} {lv : List (Nat × Value)} {st : List Value} {k : Mo α} {cc : ByteArray} {own : String}
theorem sm_putZ (cx : Cx X cc own nL) {i ci j : Nat} {x : Int32} {dc : Bool} {r : Option Nat} {K : Mo α} (hF : FldOk own i ci j .boolean false dc) (hd : decode cc pc = .ok (.putfield i, 3)) (kk : Sim X nL Fi (pc + 3) lv st K) : Sim X nL Fi pc lv (.int x :: va_rf r :: st) (mb (pZ ci j r x) (fun _ => K)) := by
  by_cases hx : x = 0 ∨ x = 1
  · rw [show pZ ci j r x = pV ci j r (.int x) from if_pos hx]
    rcases hx with rfl | rfl
    · exact sm_putV cx hF rfl rfl hd kk
    · exact sm_putV cx hF rfl rfl hd kk
  · rw [show pZ ci j r x = mf from if_neg hx]
    obtain ⟨p, l, e, R, s, m, args, below, meth, c, D, cy, A, Z⟩ := X
    intro h z h' c0 n0 c1 n1 hk
    cases hk
theorem sm_putFZ (cx : Cx X cc own nL) (hin : X.2.2.2.2.2.2.2.2.1.name = "<init>") {i ci j : Nat} {x : Int32} {r : Option Nat} {K : Mo α} (hF : FldOk own i ci j .boolean true true) (hd : decode cc pc = .ok (.putfield i, 3)) (kk : Sim X nL Fi (pc + 3) lv st K) : Sim X nL Fi pc lv (.int x :: va_rf r :: st) (mb (pZ ci j r x) (fun _ => K)) := by
  by_cases hx : x = 0 ∨ x = 1
  · rw [show pZ ci j r x = pV ci j r (.int x) from if_pos hx]
    rcases hx with rfl | rfl
    · exact sm_putF cx hin hF rfl rfl hd kk
    · exact sm_putF cx hin hF rfl rfl hd kk
  · rw [show pZ ci j r x = mf from if_neg hx]
    obtain ⟨p, l, e, R, s, m, args, below, meth, c, D, cy, A, Z⟩ := X
    intro h z h' c0 n0 c1 n1 hk
    cases hk
theorem hs_u (cy : Nat → ClassId) {u t : Nat} (h : u % 10 = t) (x : vp_A) : ce_e cy (.inr (u, x)) = .inl (cy t, x) := by rw [← h]; rfl
theorem sm_iald (cx : Cx X cc own nL) {r : Option Nat} {i : Int32} {K : Int32 → Mo α} (hd : decode cc pc = .ok (.iaload, 1)) (kk : ∀ b, Sim X nL Fi (pc + 1) lv (.int b :: st) (K b)) : Sim X nL Fi pc lv (.int i :: va_rf r :: st) (mb (aI 1 r i) K) := by
  obtain ⟨p, l, e, R, s, m, args, below, meth, c, D, cy, A, Z⟩ := X
  obtain ⟨hx, hb, hml, hown, hts, hK, hA, hlk, hz⟩ := cx
  intro h z h' c0 n0 c1 n1 hk e1 e2 H locs ls hH hS hl
  obtain ⟨b, h1, ca, na, cb, nb, k1, k2, rfl, rfl⟩ := mb_some hk
  obtain ⟨a, u, N, f, rfl, ha, hu, hin, rfl, rfl, rfl, rfl⟩ := aI_some k1
  have hP := (hH.2 a _ ha).1
  rw [hs_u cy hu] at hP
  refine va_iald hx hb hK (one_P hP) 0 1 rfl rfl hin hd ?_
  exact kk _ h1 z h' c0 n0 cb nb k2 (by omega) (by omega) H locs ls hH hS hl
theorem sm_bald (cx : Cx X cc own nL) {r : Option Nat} {i : Int32} {K : Int32 → Mo α} (hd : decode cc pc = .ok (.baload, 1)) (kk : ∀ b, Sim X nL Fi (pc + 1) lv (.int b :: st) (K b)) : Sim X nL Fi pc lv (.int i :: va_rf r :: st) (mb (aI 0 r i) K) := by
  obtain ⟨p, l, e, R, s, m, args, below, meth, c, D, cy, A, Z⟩ := X
  obtain ⟨hx, hb, hml, hown, hts, hK, hA, hlk, hz⟩ := cx
  intro h z h' c0 n0 c1 n1 hk e1 e2 H locs ls hH hS hl
  obtain ⟨b, h1, ca, na, cb, nb, k1, k2, rfl, rfl⟩ := mb_some hk
  obtain ⟨a, u, N, f, rfl, ha, hu, hin, rfl, rfl, rfl, rfl⟩ := aI_some k1
  have hP := (hH.2 a _ ha).1
  rw [hs_u cy hu] at hP
  refine va_bald hx hb hK (one_P hP) 0 0 rfl rfl hin hd ?_
  exact kk _ h1 z h' c0 n0 cb nb k2 (by omega) (by omega) H locs ls hH hS hl
theorem sm_zald (cx : Cx X cc own nL) {r : Option Nat} {i : Int32} {K : Int32 → Mo α} (hd : decode cc pc = .ok (.baload, 1)) (kk : ∀ b, Sim X nL Fi (pc + 1) lv (.int b :: st) (K b)) : Sim X nL Fi pc lv (.int i :: va_rf r :: st) (mb (aI 3 r i) K) := by
  obtain ⟨p, l, e, R, s, m, args, below, meth, c, D, cy, A, Z⟩ := X
  obtain ⟨hx, hb, hml, hown, hts, hK, hA, hlk, hz⟩ := cx
  intro h z h' c0 n0 c1 n1 hk e1 e2 H locs ls hH hS hl
  obtain ⟨b, h1, ca, na, cb, nb, k1, k2, rfl, rfl⟩ := mb_some hk
  obtain ⟨a, u, N, f, rfl, ha, hu, hin, rfl, rfl, rfl, rfl⟩ := aI_some k1
  have hP := (hH.2 a _ ha).1
  rw [hs_u cy hu] at hP
  refine va_zald hx hb hK (one_P hP) 0 3 rfl rfl hin hd ?_
  exact kk _ h1 z h' c0 n0 cb nb k2 (by omega) (by omega) H locs ls hH hS hl
theorem sm_lald (cx : Cx X cc own nL) {r : Option Nat} {i : Int32} {K : Int64 → Mo α} (hd : decode cc pc = .ok (.laload, 1)) (kk : ∀ b, Sim X nL Fi (pc + 1) lv (.long b :: st) (K b)) : Sim X nL Fi pc lv (.int i :: va_rf r :: st) (mb (aL r i) K) := by
  obtain ⟨p, l, e, R, s, m, args, below, meth, c, D, cy, A, Z⟩ := X
  obtain ⟨hx, hb, hml, hown, hts, hK, hA, hlk, hz⟩ := cx
  intro h z h' c0 n0 c1 n1 hk e1 e2 H locs ls hH hS hl
  obtain ⟨b, h1, ca, na, cb, nb, k1, k2, rfl, rfl⟩ := mb_some hk
  obtain ⟨a, u, N, f, rfl, ha, hu, hin, rfl, rfl, rfl, rfl⟩ := aL_some k1
  have hP := (hH.2 a _ ha).1
  rw [hs_u cy hu] at hP
  refine va_lald hx hb hK (one_P hP) 0 2 rfl rfl hin hd ?_
  exact kk _ h1 z h' c0 n0 cb nb k2 (by omega) (by omega) H locs ls hH hS hl
theorem sm_aald (cx : Cx X cc own nL) {r : Option Nat} {i : Int32} {K : Option Nat → Mo α} (hd : decode cc pc = .ok (.aaload, 1)) (kk : ∀ b, Sim X nL Fi (pc + 1) lv (va_rf b :: st) (K b)) : Sim X nL Fi pc lv (.int i :: va_rf r :: st) (mb (aR r i) K) := by
  obtain ⟨p, l, e, R, s, m, args, below, meth, c, D, cy, A, Z⟩ := X
  obtain ⟨hx, hb, hml, hown, hts, hK, hA, hlk, hz⟩ := cx
  intro h z h' c0 n0 c1 n1 hk e1 e2 H locs ls hH hS hl
  obtain ⟨b, h1, ca, na, cb, nb, k1, k2, rfl, rfl⟩ := mb_some hk
  obtain ⟨a, u, N, f, rfl, ha, hu, hin, rfl, rfl, rfl, rfl⟩ := aR_some k1
  have hP := (hH.2 a _ ha).1
  rw [hs_u cy hu] at hP
  refine va_aldq (C := "java/lang/Object") hx hb hK (one_P hP) 0 4 rfl rfl hin hd ?_
  exact kk _ h1 z h' c0 n0 cb nb k2 (by omega) (by omega) H locs ls hH hS hl
theorem tys_at (cy : Nat → ClassId) {t : Nat} (h : t < 5) : ∃ ty, (tysA cy)[t]? = some (cy t, ty) := by
  match t, h with
  | 0, _ => exact ⟨_, rfl⟩
  | 1, _ => exact ⟨_, rfl⟩
  | 2, _ => exact ⟨_, rfl⟩
  | 3, _ => exact ⟨_, rfl⟩
  | 4, _ => exact ⟨_, rfl⟩
theorem sm_alen (cx : Cx X cc own nL) (t : Nat) (ht : t < 5) {r : Option Nat} {K : Int32 → Mo α} (hd : decode cc pc = .ok (.arraylength, 1)) (kk : ∀ b, Sim X nL Fi (pc + 1) lv (.int b :: st) (K b)) : Sim X nL Fi pc lv (va_rf r :: st) (mb (aN t r) K) := by
  obtain ⟨p, l, e, R, s, m, args, below, meth, c, D, cy, A, Z⟩ := X
  obtain ⟨hx, hb, hml, hown, hts, hK, hA, hlk, hz⟩ := cx
  intro h z h' c0 n0 c1 n1 hk e1 e2 H locs ls hH hS hl
  obtain ⟨b, h1, ca, na, cb, nb, k1, k2, rfl, rfl⟩ := mb_some hk
  obtain ⟨a, u, x, rfl, ha, hu, rfl, rfl, rfl, rfl⟩ := aN_some k1
  have hP := (hH.2 a _ ha).1
  rw [hs_u cy hu] at hP
  obtain ⟨ty, hty⟩ := tys_at cy ht
  refine va_alen hx hb hK (one_P hP) 0 t rfl hty rfl hd ?_
  exact kk _ h1 z h' c0 n0 cb nb k2 (by omega) (by omega) H locs ls hH hS hl
theorem arr_put {cA : ClassId} {N : Nat} {f : Nat → Int32} {i : Nat} {x : Int32} : (arrV cA N (fun j => .int (f j))).setSlot i (.int x) = arrV cA N (fun j => .int (upd f i x j)) := by
  rw [arrV_store]
  congr 1
  funext q
  by_cases hq : q = i
  · subst hq; simp [updV, upd]
  · simp [updV, upd, hq]
theorem sm_iast (cx : Cx X cc own nL) {r : Option Nat} {i x : Int32} {K : Mo α} (hd : decode cc pc = .ok (.iastore, 1)) (kk : Sim X nL Fi (pc + 1) lv st K) : Sim X nL Fi pc lv (.int x :: .int i :: va_rf r :: st) (mb (sI 1 r i x) (fun _ => K)) := by
  obtain ⟨p, l, e, R, s, m, args, below, meth, c, D, cy, A, Z⟩ := X
  obtain ⟨hx, hb, hml, hown, hts, hK, hA, hlk, hz⟩ := cx
  intro h z h' c0 n0 c1 n1 hk e1 e2 H locs ls hH hS hl
  obtain ⟨b, h1, ca, na, cb, nb, k1, k2, rfl, rfl⟩ := mb_some hk
  obtain ⟨a, N, f, rfl, ha, hu, hin, rfl, rfl, rfl⟩ := sI_some k1
  obtain ⟨hP, hw⟩ := hH.2 a _ ha
  have hAa : A a := hw rfl
  refine W.iast hx hb hP ((hK.2 1 _ rfl).1 N (fun j => .int (f j))) (fun q => by cases q) (by show ¬ (i < 0 ∨ (arrV _ _ _).slots.size ≤ _); rw [arrV_size]; exact hin) rfl rfl hd fun H1 e3 e4 e5 => ?_
  refine kk _ z h' c0 n0 cb nb k2 (by omega) (by omega) H1 _ ls (hH.put hAa ?_ e4 e5) (hS.put e4 e5 hAa) hl
  show H1[a]? = some (vp_cell _ _)
  rw [e3, vp_cell_i, vp_cell_i, arr_put, kp_int]
theorem sm_bast (cx : Cx X cc own nL) {r : Option Nat} {i x : Int32} {K : Mo α} (hd : decode cc pc = .ok (.bastore, 1)) (kk : Sim X nL Fi (pc + 1) lv st K) : Sim X nL Fi pc lv (.int x :: .int i :: va_rf r :: st) (mb (sI 0 r i x) (fun _ => K)) := by
  obtain ⟨p, l, e, R, s, m, args, below, meth, c, D, cy, A, Z⟩ := X
  obtain ⟨hx, hb, hml, hown, hts, hK, hA, hlk, hz⟩ := cx
  intro h z h' c0 n0 c1 n1 hk e1 e2 H locs ls hH hS hl
  obtain ⟨b, h1, ca, na, cb, nb, k1, k2, rfl, rfl⟩ := mb_some hk
  obtain ⟨a, N, f, rfl, ha, hu, hin, rfl, rfl, rfl⟩ := sI_some k1
  obtain ⟨hP, hw⟩ := hH.2 a _ ha
  have hAa : A a := hw rfl
  refine W.bast hx hb hP ((hK.2 0 _ rfl).1 N (fun j => .int (f j))) (fun q => by cases q) (by show ¬ (i < 0 ∨ (arrV _ _ _).slots.size ≤ _); rw [arrV_size]; exact hin) rfl rfl hd fun H1 e3 e4 e5 => ?_
  refine kk _ z h' c0 n0 cb nb k2 (by omega) (by omega) H1 _ ls (hH.put hAa ?_ e4 e5) (hS.put e4 e5 hAa) hl
  show H1[a]? = some (vp_cell _ _)
  rw [e3, vp_cell_i, vp_cell_i, kp_byte, ← arr_put]
  rfl
theorem sm_zast (cx : Cx X cc own nL) {r : Option Nat} {i x : Int32} {K : Mo α} (hd : decode cc pc = .ok (.bastore, 1)) (kk : Sim X nL Fi (pc + 1) lv st K) : Sim X nL Fi pc lv (.int x :: .int i :: va_rf r :: st) (mb (sI 3 r i x) (fun _ => K)) := by
  obtain ⟨p, l, e, R, s, m, args, below, meth, c, D, cy, A, Z⟩ := X
  obtain ⟨hx, hb, hml, hown, hts, hK, hA, hlk, hz⟩ := cx
  intro h z h' c0 n0 c1 n1 hk e1 e2 H locs ls hH hS hl
  obtain ⟨b, h1, ca, na, cb, nb, k1, k2, rfl, rfl⟩ := mb_some hk
  obtain ⟨a, N, f, rfl, ha, hu, hin, rfl, rfl, rfl⟩ := sI_some k1
  obtain ⟨hP, hw⟩ := hH.2 a _ ha
  have hAa : A a := hw rfl
  refine W.zast hx hb hP ((hK.2 3 _ rfl).1 N (fun j => .int (f j))) (fun q => by cases q) (by show ¬ (i < 0 ∨ (arrV _ _ _).slots.size ≤ _); rw [arrV_size]; exact hin) rfl rfl hd fun H1 e3 e4 e5 => ?_
  refine kk _ z h' c0 n0 cb nb k2 (by omega) (by omega) H1 _ ls (hH.put hAa ?_ e4 e5) (hS.put e4 e5 hAa) hl
  show H1[a]? = some (vp_cell _ _)
  rw [e3, vp_cell_i, vp_cell_i, kp_bool, ← arr_put]
  rfl
theorem sm_last (cx : Cx X cc own nL) {r : Option Nat} {i : Int32} {x : Int64} {K : Mo α} (hd : decode cc pc = .ok (.lastore, 1)) (kk : Sim X nL Fi (pc + 1) lv st K) : Sim X nL Fi pc lv (.long x :: .int i :: va_rf r :: st) (mb (sL r i x) (fun _ => K)) := by
  obtain ⟨p, l, e, R, s, m, args, below, meth, c, D, cy, A, Z⟩ := X
  obtain ⟨hx, hb, hml, hown, hts, hK, hA, hlk, hz⟩ := cx
  intro h z h' c0 n0 c1 n1 hk e1 e2 H locs ls hH hS hl
  obtain ⟨b, h1, ca, na, cb, nb, k1, k2, rfl, rfl⟩ := mb_some hk
  obtain ⟨a, N, f, rfl, ha, hin, rfl, rfl, rfl⟩ := sL_some k1
  obtain ⟨hP, hw⟩ := hH.2 a _ ha
  have hAa : A a := hw rfl
  refine W.last hx hb hP ((hK.2 2 _ rfl).1 N (fun j => .long (f j))) (fun q => by cases q) (by show ¬ (i < 0 ∨ (arrV _ _ _).slots.size ≤ _); rw [arrV_size]; exact hin) rfl rfl hd fun H1 e3 e4 e5 => ?_
  refine kk _ z h' c0 n0 cb nb k2 (by omega) (by omega) H1 _ ls (hH.put hAa ?_ e4 e5) (hS.put e4 e5 hAa) hl
  show H1[a]? = some (vp_cell _ _)
  rw [e3, vp_cell_l, vp_cell_l, arrV_store]
  congr 2
  funext q
  by_cases hq : q = i.toNatClampNeg
  · subst hq; simp [updV, vp_updL]
  · simp [updV, vp_updL, hq]
/-- what is fixed of a 'new' -/
def NewOk (own : String) (i ci : Nat) (fs : List Value) : Prop := ∃ (C : String) (T : u_T) (ty : Nat → FieldType), vwCl[ci]? = some (C, T, fs.length) ∧ (∀ w ∈ u_ws C T fs.length, w ∈ TB) ∧ (∀ k, k < fs.length → parseFieldDescriptor (T k).2.2.1 = some (ty k)) ∧ Cond.classLink own i C ∈ TB ∧ Cond.instantiable C fs.length ∈ TB ∧ Cond.initialized C ∈ TB ∧ (∀ j, j < fs.length → defaultValue (ty j) = vp_V fs j)
theorem sm_new (cx : Cx X cc own nL) {i ci : Nat} {fs : List Value} {K : Option Nat → Mo α} (hN : NewOk own i ci fs) (hd : decode cc pc = .ok (.new i, 3)) (kk : ∀ b, Sim X nL Fi (pc + 3) lv (va_rf b :: st) (K b)) : Sim X nL Fi pc lv st (mb (nO ci fs) K) := by
  obtain ⟨p, l, e, R, s, m, args, below, meth, c, D, cy, A, Z⟩ := X
  obtain ⟨hx, hb, hml, hown, hts, hK, hA, hlk, hz⟩ := cx
  intro h z h' c0 n0 c1 n1 hk e1 e2 H locs ls hH hS hl
  obtain ⟨b, h1, ca, na, cb, nb, k1, k2, rfl, rfl⟩ := mb_some hk
  cases k1
  obtain ⟨C, T, ty, f1, f2, f3, f4, f5, f6, f7⟩ := hN
  have hKn := hK.1 ci _ f1
  have hz := hH.1
  refine W.newcK hx hb hown (hts _ f4) (hts _ f5) (hts _ f6) rfl hd (by omega) (by omega) hKn.2.1 rfl fun H1 kC hkC e3 e4 e5 => ?_
  refine W.eq (g2 := F0 m (pc + 3) ls (va_rf (some h.2) :: st)) (by rw [← hz]; rfl) ?_
  refine kk _ _ z h' (c0 + 1) (n0 + fs.length) cb nb k2 (by omega) (by omega) H1 locs ls (hH.push (hA _ hS.1) ?_ e4 e5) ?_ hl
  · exact ⟨_, f1, (u_born ty hts f2 hKn hkC e3 f3).to f7⟩
  · exact ⟨Nat.le_trans hS.1 (by omega), fun x h1 h2 => (e5 x (Nat.lt_of_lt_of_le h1 hS.1)).trans (hS.2.1 x h1 h2), hS.2.2⟩
/-- a new array of kind t -/
def atyp (t : Nat) : ArrayType := if t = 0 then .byte else if t = 1 then .int else if t = 2 then .long else .boolean
theorem sm_newa (cx : Cx X cc own nL) (t : Nat) {at0 : ArrayType} {ty : FieldType} {i : Int32} {K : Option Nat → Mo α} (hty : newarray.typeOf at0 = ty) (htys : ∀ cy : Nat → ClassId, (tysA cy)[t]? = some (cy t, ty)) (ht : t % 10 = t) (hcell : ∀ (cA : ClassId) (N : Nat), vp_cell cA (N, z0 t) = arrV cA N (fun _ => defaultValue ty)) (hnm : ∀ (s : State) (cA : ClassId), va_RA s cA ty → s.vm.findClass ("[" ++ ty.toString) = some cA) (hby : componentBytes ty ≤ 8) (hw : Cond.arrayClass (newarray.typeOf at0) ∈ TB) (hd : decode cc pc = .ok (.newarray at0, 2)) (kk : ∀ b, Sim X nL Fi (pc + 2) lv (va_rf b :: st) (K b)) : Sim X nL Fi pc lv (.int i :: st) (mb (nA t i) K) := by
  obtain ⟨p, l, e, R, s, m, args, below, meth, c, D, cy, A, Z⟩ := X
  obtain ⟨hx, hb, hml, hown, hts, hK, hA, hlk, hz⟩ := cx
  intro h z h' c0 n0 c1 n1 hk e1 e2 H locs ls hH hS hl
  obtain ⟨b, h1, ca, na, cb, nb, k1, k2, rfl, rfl⟩ := mb_some hk
  unfold nA at k1
  split at k1
  · cases k1
  · rename_i hc
    cases k1
    have hz := hH.1
    have hn : ¬ i < 0 := fun q => hc (Or.inl q)
    have hlim : i.toNatClampNeg ≤ 1000000 := Nat.not_lt.mp fun q => hc (Or.inr q)
    subst hty
    refine va_newaK hx hb (hts _ hw) rfl hd rfl hn rfl (Nat.le_trans (Nat.mul_le_mul hlim hby) (by decide)) (by omega) (by omega) rfl fun H1 cA e3 e4 e5 hAr hNm => ?_
    have hcA : cA = cy t := Option.some.inj (hNm.symm.trans (hnm s (cy t) (hK.2 t _ (htys cy)).2))
    subst hcA
    refine W.eq (g2 := F0 m (pc + 2) ls (va_rf (some h.2) :: st)) (by rw [← hz]; rfl) ?_
    refine kk _ _ z h' (c0 + 1) (n0 + i.toNatClampNeg) cb nb k2 (by omega) (by omega) H1 locs ls (hH.push (hA _ hS.1) ?_ e4 e5) ?_ hl
    · rw [hs_u cy ht]
      show H1[H.size]? = some (vp_cell _ _)
      rw [hcell]
      exact e3
    · exact ⟨Nat.le_trans hS.1 (by omega), fun x h1 h2 => (e5 x (Nat.lt_of_lt_of_le h1 hS.1)).trans (hS.2.1 x h1 h2), hS.2.2⟩
end LC
end
section
/-! ===== contracts, calls, returns ===== -/
def vI (x : Int32) : Option Value := some (.int x)
def vL (x : Int64) : Option Value := some (.long x)
def vR (x : Option Nat) : Option Value := some (va_rf x)
def vV (_ : Unit) : Option Value := none
abbrev xR (X : Cg) : Room := X.2.2.2.1
abbrev xM (X : Cg) : Method := X.2.2.2.2.2.2.2.2.1
abbrev xZ (X : Cg) : Nat → Nat := X.2.2.2.2.2.2.2.2.2.2.2.2.2
def PreU (D : va_G) (cy : Nat → ClassId) (A : Nat → Prop) (Z : Nat → Nat) (h : Hs) (U : State) : Prop := HW D cy A h U.heap ∧ va_K D vwCl (tysA cy) U ∧ (∀ q, U.heap.size ≤ q → A q) ∧ ZS Z A U U.heap
def QvC (D : va_G) (cy : Nat → ClassId) (A : Nat → Prop) (v : Option Value) (h' : Hs) : Array Value → State → Outcome → State → Prop := fun _ st o t => o = .returned v ∧ HW D cy A h' t.heap ∧ va_F A st t
/-- a method's contract: what its program does, the method does -/
def Ct {β : Type} (y : MethodName) (cc : ByteArray) (maxL : Nat) (ret : Option FieldType) (fr lo : Nat) (Z : Nat → Nat) (av : List Value) (toV : β → Option Value) (f : Mo β) : Prop :=
  ∀ (l : Launch) (D : va_G) (cy : Nat → ClassId) (A : Nat → Prop) (h : Hs) (r : β) (h' : Hs) (c n : Nat), f h = some (r, h', c, n) → Met l y (.code y cc maxL ret :: TB) { frames := fr, cells := c, slots := n, locals := lo } (va_Pc av (PreU D cy A Z h)) (QvC D cy A (toV r) h') c n A
def FiM {β : Type} (X : Cg) (toV : β → Option Value) : β → Hs → State → Prop := match X with
  | (_, _, _, R, s, _, args, below, _, _, D, cy, A, _) => fun r h' => MQ below (QvC D cy A (toV r) h') args s R.cells R.slots A
theorem ct_of {β : Type} {y : MethodName} {cc : ByteArray} {maxL : Nat} {ret : Option FieldType} {fr lo : Nat} {Z : Nat → Nat} {av : List Value} {lv0 : List (Nat × Value)} {toV : β → Option Value} {f : Mo β} (hy : plainName y.cls = true) (hlen : (lg_sl av).length ≤ maxL) (hlv : lv_args 0 av = lv0)
    (hs : ∀ X : Cg, Cx X cc y.cls maxL → xZ X = Z → (xR X).frames = fr → (xR X).locals = lo → (xM X).sig.returnType = ret → (xM X).name = y.name → Sim X maxL (FiM X toV) 0 lv0 [] f) : Ct y cc maxL ret fr lo Z av toV f := by
  intro l D cy A h r h' c n hf
  refine Met.ofW (cc := cc) (maxL := maxL) (ret := ret) hy rfl ?_
  intro p e s m args below meth c' s₁ B hml hv
  obtain ⟨rfl, hH, hK, hA, hz⟩ := hv
  have hts : ∀ w ∈ TB, w.before av.toArray s = true := fun w hw => atoms_spec (ws := Cond.code y cc maxL ret :: TB) B.pre w (List.mem_cons_of_mem _ hw)
  have hown : s.vm.findClass y.cls = some m.cls := findClass_of_methodNamed B.named
  have hin : meth.name = y.name := (name_of_methodNamed B.named B.method).1
  have hl := lv_entry av (n := maxL) hlen
  rw [hlv] at hl
  rw [lg_entry_eq]
  exact hs (p, l, e, { frames := fr, cells := c, slots := n, locals := lo }, s, m, av.toArray, below, meth, c', D, cy, A, Z) ⟨B.exec, B.bytes, hml, hown, hts, hK, hA, B.notSynchronized, hz⟩ rfl rfl rfl B.returns hin h r h' 0 0 c n hf (Nat.zero_add c) (Nat.zero_add n) s.heap [] _ hH va_S.rf hl
theorem fb_pre {av : List Value} {D : va_G} {cy : Nat → ClassId} {A : Nat → Prop} {Z : Nat → Nat} {h : Hs} : FrameBlind (va_Pc av (PreU D cy A Z h)) := by
  intro a U g mk q
  obtain ⟨q0, q1, q2, q3, q4⟩ := q
  exact ⟨q0, q1, va_K.moved (u := U) (U := U.calling g mk a) (Vm.Alike.refl U.vm) q2, q3, ZS.moved (s := U) (U := U.calling g mk a) (State.WarmedH.refl U) q4⟩
theorem wd_V {own C : String} {i maxL : Nat} {y : MethodName} {bytes : ByteArray} {ret : Option FieldType} (h1 : Cond.methodLink own i y ∈ TB) (h2 : Cond.instanceMethod y ∈ TB) (h3 : Cond.selects C y y ∈ TB) (h4 : Cond.initialized C ∈ TB) (h5 : Cond.code y bytes maxL ret ∈ TB) : GoodIn TB (wsV own i C y (Cond.code y bytes maxL ret :: TB)) := by
  intro w hw
  have g : ∀ w ∈ TB, w ∈ TB ∧ ((w.onTables && w.keeps) = true ∨ ∃ ty, w = .arrayClass ty) := fun w h => ⟨h, good_of_word (tb_good _ h).2⟩
  rcases List.mem_append.mp hw with hw | hw
  · rcases List.mem_cons.mp hw with rfl | hw
    · exact g _ h1
    rcases List.mem_cons.mp hw with rfl | hw
    · exact g _ h2
    rcases List.mem_cons.mp hw with rfl | hw
    · exact g _ h3
    rcases List.mem_cons.mp hw with rfl | hw
    · exact g _ h4
    cases hw
  · exact tb_call h5 w hw
theorem wd_S {own : String} {i maxL : Nat} {y : MethodName} {bytes : ByteArray} {ret : Option FieldType} (h1 : Cond.methodLink own i y ∈ TB) (h2 : Cond.static y ∈ TB) (h4 : Cond.initialized y.cls ∈ TB) (h5 : Cond.code y bytes maxL ret ∈ TB) : GoodIn TB (va_wsS own i y (Cond.code y bytes maxL ret :: TB)) := by
  intro w hw
  have g : ∀ w ∈ TB, w ∈ TB ∧ ((w.onTables && w.keeps) = true ∨ ∃ ty, w = .arrayClass ty) := fun w h => ⟨h, good_of_word (tb_good _ h).2⟩
  rcases List.mem_append.mp hw with hw | hw
  · rcases List.mem_cons.mp hw with rfl | hw
    · exact g _ h1
    rcases List.mem_cons.mp hw with rfl | hw
    · exact g _ h2
    rcases List.mem_cons.mp hw with rfl | hw
    · exact g _ h4
    cases hw
  · exact tb_call h5 w hw
/-- what is fixed of a call -/
def CalV (own : String) (i : Nat) (C : String) (y : MethodName) (bytes : ByteArray) (maxL : Nat) (ret : Option FieldType) (n : Nat) : Prop := GoodIn TB (wsV own i C y (Cond.code y bytes maxL ret :: TB)) ∧ y.cls = C ∧ y.cls ≠ "java/lang/invoke/MethodHandle" ∧ y.cls ≠ "java/lang/invoke/VarHandle" ∧ (parseMethodDescriptor y.desc).map (fun d => d.parameters.length) = some n
def CalS (own : String) (i : Nat) (y : MethodName) (bytes : ByteArray) (maxL : Nat) (ret : Option FieldType) (n : Nat) : Prop := GoodIn TB (va_wsS own i y (Cond.code y bytes maxL ret :: TB)) ∧ y.cls ≠ "java/lang/invoke/MethodHandle" ∧ y.cls ≠ "java/lang/invoke/VarHandle" ∧ (parseMethodDescriptor y.desc).map (fun d => d.parameters.length) = some n
def CalI (own : String) (i : Nat) (y : MethodName) (bytes : ByteArray) (maxL : Nat) (n : Nat) : Prop := (Cond.initialized y.cls ∈ TB ∧ Cond.instanceMethod y ∈ TB ∧ Cond.code y bytes maxL none ∈ TB) ∧ (Cond.methodLink own i y ∈ TB ∨ ∃ host, Cond.methodLinkNest own i y host ∈ nwL) ∧ y.name = "<init>" ∧ y.cls ≠ "java/lang/invoke/MethodHandle" ∧ y.cls ≠ "java/lang/invoke/VarHandle" ∧ (parseMethodDescriptor y.desc).map (fun d => d.parameters.length) = some n
section LD
variable {α : Type} {X : Cg} {nL : Nat} {Fi : α → Hs → State → Prop} {pc : Nat} {lv : List (Nat × Value)} {st stk : List Value} {k : Mo α} {cc : ByteArray} {own : String}
/-- behind a call -/
theorem cg_back {p : Program} {l : Launch} {e : Env} {R : Room} {s : State} {m : MethodId} {args : Array Value} {below : List Frame} {meth : Method} {c : Code} {H : Heap} {locs : List Loc} {cells slots mc ms : Nat} {Q : State → Prop} {D : va_G} {cy : Nat → ClassId} {A : Nat → Prop} {ls : Array Slot} {v : Option Value} {h1 : Hs} {a : Array Value}
    (hr : va_Run p l e R s m args below meth c H locs cells slots mc ms (F0 m pc ls stk) st (QvC D cy A v h1 a) A) (hS : va_S A s.heap H locs)
    (kk : ∀ (H1 : Heap) (locs1 : List Loc), HW D cy A h1 H1 → va_S A s.heap H1 locs1 → W p l e R s m args below meth c H1 locs1 (cells + mc) (slots + ms) Q (F0 m (pc + 3) ls (v.toList ++ st))) : W p l e R s m args below meth c H locs cells slots Q (F0 m pc ls stk) := by
  intro T hT X
  obtain ⟨v', st₀, t, T', L, h0, X', hL, e1, e2, ⟨hv, hp, hz, hk⟩, stp⟩ := hr T hT X
  cases hv
  rw [h0] at hz hk
  obtain ⟨t2, a1, b1⟩ := kk T'.heap (locs ++ L) (by rw [e1]; exact hp)
    ⟨Nat.le_trans hS.1 (by rw [e1]; exact hz), fun q h1 h2 => by rw [e1, hk q (Nat.lt_of_lt_of_le h1 hS.1) h2]; exact hS.2.1 q h1 h2, fun q hq => by
      rcases List.mem_append.mp hq with h | h
      · exact hS.2.2 q h
      · exact hL q h⟩ T' rfl X'
  exact ⟨t2, stp t2 a1, b1⟩
theorem pre_at {D : va_G} {cy : Nat → ClassId} {A : Nat → Prop} {Z : Nat → Nat} {h : Hs} {s U : State} {H : Heap} {locs : List Loc} (hK : va_K D vwCl (tysA cy) s) (hA : ∀ q, s.heap.size ≤ q → A q) (hz : ZS Z A s s.heap) (hS : va_S A s.heap H locs) (hH : HW D cy A h H) (hU : U.heap = H) (hW : s.WarmedH U.vm) : PreU D cy A Z h U := by
  subst hU
  exact ⟨hH, va_K.moved hW.alike hK, fun q hq => hA q (Nat.le_trans hS.1 hq), ZS.moved hW (hz.kept hS.2.1)⟩
theorem sm_callV {β : Type} (cx : Cx X cc own nL) {i ci : Nat} {C : String} {T : u_T} {N : Nat} {y : MethodName} {bytes : ByteArray} {maxL : Nat} {ret : Option FieldType} {fr lo : Nat} (As : List Value) {r : Option Nat} {toV : β → Option Value} {f : Mo β} {K : β → Mo α} (hc : vwCl[ci]? = some (C, T, N)) (hW : CalV own i C y bytes maxL ret As.length)
    (hM : ∀ a, r = some a → Ct y bytes maxL ret fr lo (xZ X) (.ref a :: As) toV f) (hfr : fr + 1 ≤ (xR X).frames) (hlo : 8 + (maxL + 11) + lo ≤ (xR X).locals) (hst : stk = As.reverse ++ va_rf r :: st) (hcat : (st.map fun v => v.category).sum ≤ 8) (hd : decode cc pc = .ok (.invokevirtual i, 3)) (kk : ∀ b, Sim X nL Fi (pc + 3) lv ((toV b).toList ++ st) (K b)) : Sim X nL Fi pc lv stk (mb (mo ci r f) K) := by
  obtain ⟨p, l, e, R, s, m, args, below, meth, c, D, cy, A, Z⟩ := X
  obtain ⟨hx, hb, hml, hown, hts, hK, hA, hlk, hz⟩ := cx
  intro h z h' c0 n0 c1 n1 hk e1 e2 H locs ls hH hS hl
  obtain ⟨b, h1, ca, na, cb, nb, k1, k2, rfl, rfl⟩ := mb_some hk
  obtain ⟨a, fs, rfl, ha, kf⟩ := mo_some k1
  have M := hM a rfl l D cy A h b h1 ca na kf
  have hP := one_P (hH.2 a _ ha).1
  refine cg_back (mc := ca) (ms := na) (va_runV (As := As) (rest := st) (C := C) ⟨hx, hb, hml, hown, hts⟩ M (cwV As.length hts hW.1 rfl rfl rfl hW.2 ⟨hfr, hlo⟩) ⟨fb_pre, va_recv hK hP (q := (C, T, N)) (ci := ci) (q0 := 0) hc rfl, fun U hU hWm => ⟨rfl, pre_at hK hA hz hS hH hU hWm⟩⟩ rfl rfl hl.1 hst (lv_room hcat) hd ⟨by omega, by omega⟩) hS (fun H1 locs1 hH1 hS1 => ?_)
  exact kk b h1 z h' (c0 + ca) (n0 + na) cb nb k2 (by omega) (by omega) H1 locs1 ls hH1 hS1 hl
theorem sm_callS {β : Type} (cx : Cx X cc own nL) {i : Nat} {y : MethodName} {bytes : ByteArray} {maxL : Nat} {ret : Option FieldType} {fr lo : Nat} (As : List Value) {toV : β → Option Value} {f : Mo β} {K : β → Mo α} (hW : CalS own i y bytes maxL ret As.length)
    (hM : Ct y bytes maxL ret fr lo (xZ X) As toV f) (hfr : fr + 1 ≤ (xR X).frames) (hlo : 8 + (maxL + 11) + lo ≤ (xR X).locals) (hst : stk = As.reverse ++ st) (hcat : (st.map fun v => v.category).sum ≤ 8) (hd : decode cc pc = .ok (.invokestatic i, 3)) (kk : ∀ b, Sim X nL Fi (pc + 3) lv ((toV b).toList ++ st) (K b)) : Sim X nL Fi pc lv stk (mb f K) := by
  obtain ⟨p, l, e, R, s, m, args, below, meth, c, D, cy, A, Z⟩ := X
  obtain ⟨hx, hb, hml, hown, hts, hK, hA, hlk, hz⟩ := cx
  intro h z h' c0 n0 c1 n1 hk e1 e2 H locs ls hH hS hl
  obtain ⟨b, h1, ca, na, cb, nb, k1, k2, rfl, rfl⟩ := mb_some hk
  have M := hM l D cy A h b h1 ca na k1
  refine cg_back (mc := ca) (ms := na) (va_runS (As := As) (rest := st) ⟨hx, hb, hml, hown, hts⟩ M (va_cwS As.length hts hW.1 rfl rfl rfl hW.2 ⟨hfr, hlo⟩) ⟨fb_pre, fun U hU hWm => ⟨rfl, pre_at hK hA hz hS hH hU hWm⟩⟩ rfl rfl hl.1 hst (lv_room hcat) hd ⟨by omega, by omega⟩) hS (fun H1 locs1 hH1 hS1 => ?_)
  exact kk b h1 z h' (c0 + ca) (n0 + na) cb nb k2 (by omega) (by omega) H1 locs1 ls hH1 hS1 hl
theorem sm_callI {β : Type} (cx : Cx X cc own nL) {i ci : Nat} {y : MethodName} {bytes : ByteArray} {maxL : Nat} {fr lo : Nat} (As : List Value) {r : Option Nat} {toV : β → Option Value} {f : Mo β} {K : β → Mo α} (hW : CalI own i y bytes maxL As.length)
    (hM : ∀ a, r = some a → Ct y bytes maxL none fr lo (xZ X) (.ref a :: As) toV f) (hfr : fr + 1 ≤ (xR X).frames) (hlo : 8 + (maxL + 11) + lo ≤ (xR X).locals) (hst : stk = As.reverse ++ va_rf r :: st) (hcat : (st.map fun v => v.category).sum ≤ 8) (hd : decode cc pc = .ok (.invokespecial i, 3)) (kk : ∀ b, Sim X nL Fi (pc + 3) lv ((toV b).toList ++ st) (K b)) : Sim X nL Fi pc lv stk (mb (mo ci r f) K) := by
  obtain ⟨p, l, e, R, s, m, args, below, meth, c, D, cy, A, Z⟩ := X
  obtain ⟨hx, hb, hml, hown, hts, hK, hA, hlk, hz⟩ := cx
  intro h z h' c0 n0 c1 n1 hk e1 e2 H locs ls hH hS hl
  obtain ⟨b, h1, ca, na, cb, nb, k1, k2, rfl, rfl⟩ := mb_some hk
  obtain ⟨a, fs, rfl, ha, kf⟩ := mo_some k1
  have M := hM a rfl l D cy A h b h1 ca na kf
  obtain ⟨⟨w1, w2, w3⟩, w4, w5⟩ := hW
  have go : va_Run p l e R s m args below meth c H locs c0 n0 ca na (F0 m pc ls stk) st (QvC D cy A (toV b) h1 (Value.ref a :: As).toArray) A := by
    rcases w4 with w4 | ⟨host, w4⟩
    · exact va_runI (As := As) (rest := st) ⟨hx, hb, hml, hown, hts⟩ M (cwI As.length hts (tb_call w3) rfl rfl rfl (hts _ w1) (hts _ w4) (hts _ w2) w5.1 w5.2 ⟨hfr, hlo⟩) ⟨fb_pre, fun U hU hWm => ⟨rfl, pre_at hK hA hz hS hH hU hWm⟩⟩ rfl rfl hl.1 hst (lv_room hcat) hd ⟨by omega, by omega⟩
    · exact va_runIN (As := As) (rest := st) ⟨hx, hb, hml, hown, hts⟩ M ⟨va_cnB As.length hts (tb_call w3) rfl rfl rfl (hz.1 _ w4) (hts _ w1) w5.2 ⟨hfr, hlo⟩, w5.1, hts _ w2⟩ ⟨fb_pre, fun U hU hWm => ⟨rfl, pre_at hK hA hz hS hH hU hWm⟩⟩ rfl rfl hl.1 hst (lv_room hcat) hd ⟨by omega, by omega⟩
  refine cg_back (mc := ca) (ms := na) go hS (fun H1 locs1 hH1 hS1 => ?_)
  exact kk b h1 z h' (c0 + ca) (n0 + na) cb nb k2 (by omega) (by omega) H1 locs1 ls hH1 hS1 hl
/-- Object.<init> -/
theorem sm_obj (cx : Cx X cc own nL) {i : Nat} {r : Option Nat} {ci : Nat} {K : Mo α} (h1 : Cond.methodLink own i objectInit ∈ TB) (h2 : Cond.instanceMethod objectInit ∈ TB) (h3 : Cond.code objectInit ⟨#[0xb1]⟩ 1 none ∈ TB) (hfr : 1 ≤ (xR X).frames) (hlo : 12 ≤ (xR X).locals) (hd : decode cc pc = .ok (.invokespecial i, 3)) (hst : st = []) (kk : Sim X nL Fi (pc + 3) lv [] K) : Sim X nL Fi pc lv (va_rf r :: st) (mb (mo ci r (mp ())) (fun _ => K)) := by
  subst hst
  obtain ⟨p, l, e, R, s, m, args, below, meth, c, D, cy, A, Z⟩ := X
  obtain ⟨hx, hb, hml, hown, hts, hK, hA, hlk, hz⟩ := cx
  intro h z h' c0 n0 c1 n1 hk e1 e2 H locs ls hH hS hl
  obtain ⟨b, h1', ca, na, cb, nb, k1, k2, rfl, rfl⟩ := mb_some hk
  obtain ⟨a, fs, rfl, ha, kf⟩ := mo_some k1
  cases kf
  refine W.objInit hx hb hown (hts _ h1) (hts _ h2) (hts _ h3) rfl (by rw [hml]; exact hl.1) rfl hd hfr hlo ?_
  exact kk _ z h' c0 n0 cb nb k2 (by omega) (by omega) H locs ls hH hS hl
theorem sm_iret (cx : Cx X cc own nL) {v : Int32} (hr : (xM X).sig.returnType = some .int) (hd : decode cc pc = .ok (.ireturn, 1)) : Sim X nL (FiM X vI) pc lv [.int v] (mp v) := by
  obtain ⟨p, l, e, R, s, m, args, below, meth, c, D, cy, A, Z⟩ := X
  obtain ⟨hx, hb, hml, hown, hts, hK, hA, hlk, hz⟩ := cx
  intro h z h' c0 n0 c1 n1 hk e1 e2 H locs ls hH hS hl
  cases hk
  rw [Nat.add_zero] at e1 e2
  subst e1; subst e2
  exact W.iret hx hb hr (fun t ht hW => ⟨rfl, by rw [ht]; exact hH, hS.F ht⟩) hS.2.2 hd
/-- a truth value, a byte, a char: what the type keeps is what is there -/
def rz (ty : FieldType) (v : Int32) : Mo Int32 := if narrow ty (.int v) = .int v then mp v else mf
theorem sm_zret (cx : Cx X cc own nL) {v : Int32} {ty : FieldType} (hr : (xM X).sig.returnType = some ty) (hd : decode cc pc = .ok (.ireturn, 1)) : Sim X nL (FiM X vI) pc lv [.int v] (rz ty v) := by
  unfold rz
  split
  · rename_i hn
    obtain ⟨p, l, e, R, s, m, args, below, meth, c, D, cy, A, Z⟩ := X
    obtain ⟨hx, hb, hml, hown, hts, hK, hA, hlk, hz⟩ := cx
    intro h z h' c0 n0 c1 n1 hk e1 e2 H locs ls hH hS hl
    cases hk
    rw [Nat.add_zero] at e1 e2
    subst e1; subst e2
    exact W.zret hx hb hr hn (fun t ht hW => ⟨rfl, by rw [ht]; exact hH, hS.F ht⟩) hS.2.2 hd
  · exact sm_mf
theorem sm_lret (cx : Cx X cc own nL) {v : Int64} (hr : (xM X).sig.returnType = some .long) (hd : decode cc pc = .ok (.lreturn, 1)) : Sim X nL (FiM X vL) pc lv [.long v] (mp v) := by
  obtain ⟨p, l, e, R, s, m, args, below, meth, c, D, cy, A, Z⟩ := X
  obtain ⟨hx, hb, hml, hown, hts, hK, hA, hlk, hz⟩ := cx
  intro h z h' c0 n0 c1 n1 hk e1 e2 H locs ls hH hS hl
  cases hk
  rw [Nat.add_zero] at e1 e2
  subst e1; subst e2
  exact W.lret hx hb hr (fun t ht hW => ⟨rfl, by rw [ht]; exact hH, hS.F ht⟩) hS.2.2 hd
theorem sm_vret (cx : Cx X cc own nL) (hr : (xM X).sig.returnType = none) (hd : decode cc pc = .ok (.return_, 1)) : Sim X nL (FiM X vV) pc lv [] (mp ()) := by
  obtain ⟨p, l, e, R, s, m, args, below, meth, c, D, cy, A, Z⟩ := X
  obtain ⟨hx, hb, hml, hown, hts, hK, hA, hlk, hz⟩ := cx
  intro h z h' c0 n0 c1 n1 hk e1 e2 H locs ls hH hS hl
  cases hk
  rw [Nat.add_zero] at e1 e2
  subst e1; subst e2
  exact W.vret hx hb hr (fun t ht hW => ⟨rfl, by rw [ht]; exact hH, hS.F ht⟩) hS.2.2 hd
theorem sm_aret (cx : Cx X cc own nL) {v : Option Nat} {rt : FieldType} (hr : (xM X).sig.returnType = some rt) (hrt : (∃ n, rt = .object n) ∨ ∃ t, rt = .array t) (hd : decode cc pc = .ok (.areturn, 1)) : Sim X nL (FiM X vR) pc lv [va_rf v] (mp v) := by
  obtain ⟨p, l, e, R, s, m, args, below, meth, c, D, cy, A, Z⟩ := X
  obtain ⟨hx, hb, hml, hown, hts, hK, hA, hlk, hz⟩ := cx
  intro h z h' c0 n0 c1 n1 hk e1 e2 H locs ls hH hS hl
  cases hk
  rw [Nat.add_zero] at e1 e2
  subst e1; subst e2
  refine W.aret hx hb hr hrt ?_ (fun t ht hW => ⟨rfl, by rw [ht]; exact hH, hS.F ht⟩) hS.2.2 hd
  cases v with
  | none => exact Or.inl rfl
  | some a => exact Or.inr ⟨a, rfl⟩
end LD
end
section
/-! ===== static fields, texts, casts, arrays of references ===== -/
/-- which of the six words (b = 10) or of their byte arrays (b = 50) -/
def wIx (Z : Nat → Nat) (b : Nat) (r : Option Nat) : Option Nat := (List.range 6).find? (fun i => decide (r = some (Z (b + i))))
theorem wIx_some {Z : Nat → Nat} {b : Nat} {r : Option Nat} {i : Nat} (h : wIx Z b r = some i) : i < 6 ∧ r = some (Z (b + i)) := by
  have h1 := List.find?_some h
  have h2 := List.mem_of_find?_eq_some h
  exact ⟨List.mem_range.mp h2, of_decide_eq_true h1⟩
/-- String.value, String.coder of a word; its bytes' length; a byte -/
def gSv (Z : Nat → Nat) (r : Option Nat) : Mo (Option Nat) := fun h => match wIx Z 10 r with
  | some i => some (some (Z (50 + i)), h, 0, 0)
  | none => none
def gSc (Z : Nat → Nat) (r : Option Nat) : Mo Int32 := fun h => match wIx Z 10 r with
  | some _ => some (0, h, 0, 0)
  | none => none
def aSn (Z : Nat → Nat) (r : Option Nat) : Mo Int32 := fun h => match wIx Z 50 r with
  | some i => some (Int32.ofNat (wLen.getD i 0), h, 0, 0)
  | none => none
def aSb (Z : Nat → Nat) (r : Option Nat) (j : Int32) : Mo Int32 := fun h => match wIx Z 50 r with
  | some i => if j < 0 ∨ wLen.getD i 0 ≤ j.toNatClampNeg then none else some ((wByt.getD i []).getD j.toNatClampNeg 0, h, 0, 0)
  | none => none
/-- a receiver that is a word -/
def moS {α : Type} (Z : Nat → Nat) (r : Option Nat) (x : Mo α) : Mo α := fun h => match wIx Z 10 r with
  | some _ => x h
  | none => none
/-- the guesses -/
def aG (r : Option Nat) (Z : Nat → Nat) (j : Int32) : Mo Int64 := fun h => if r = some (Z 1) then (if j < 0 ∨ 6 ≤ j.toNatClampNeg then none else some (gu j.toNatClampNeg, h, 0, 0)) else none
def aGn (r : Option Nat) (Z : Nat → Nat) : Mo Int32 := fun h => if r = some (Z 1) then some (6, h, 0, 0) else none
/-- the length of an array of references: the empty list's own is one, too -/
def aNq (Z : Nat → Nat) (r : Option Nat) : Mo Int32 := fun h => if r = some (Z 0) then some (0, h, 0, 0) else aN 4 r h
section LS
variable {α : Type} {X : Cg} {nL : Nat} {Fi : α → Hs → State → Prop} {pc : Nat} {lv : List (Nat × Value)} {st stk : List Value} {k : Mo α} {cc : ByteArray} {own : String}
theorem sm_gsE (cx : Cx X cc own nL) {i : Nat} (hw : Cond.fieldLink own i "java/util/ArrayList" "DEFAULTCAPACITY_EMPTY_ELEMENTDATA" "[Ljava/lang/Object;" ∈ TB) (hd : decode cc pc = .ok (.getstatic i, 3)) (kk : Sim X nL Fi (pc + 3) lv (va_rf (some (xZ X 0)) :: st) k) : Sim X nL Fi pc lv st k := by
  obtain ⟨p, l, e, R, s, m, args, below, meth, c, D, cy, A, Z⟩ := X
  obtain ⟨hx, hb, hml, hown, hts, hK, hA, hlk, hz⟩ := cx
  intro h z h' c0 n0 c1 n1 hk e1 e2 H locs ls hH hS hl
  exact va_gets hx hb hz.2.1.1 hS hown (hts _ hw) (fun _ h9 => h9) hd (kk h z h' c0 n0 c1 n1 hk e1 e2 H locs ls hH hS hl)
theorem sm_gsG (cx : Cx X cc own nL) {i : Nat} (hw : Cond.fieldLink own i "PolicyTree$Standing" "GUESSES" "[J" ∈ TB) (hd : decode cc pc = .ok (.getstatic i, 3)) (kk : Sim X nL Fi (pc + 3) lv (va_rf (some (xZ X 1)) :: st) k) : Sim X nL Fi pc lv st k := by
  obtain ⟨p, l, e, R, s, m, args, below, meth, c, D, cy, A, Z⟩ := X
  obtain ⟨hx, hb, hml, hown, hts, hK, hA, hlk, hz⟩ := cx
  intro h z h' c0 n0 c1 n1 hk e1 e2 H locs ls hH hS hl
  exact va_gets hx hb hz.2.2.1.1 hS hown (hts _ hw) (fun _ h9 => h9) hd (kk h z h' c0 n0 c1 n1 hk e1 e2 H locs ls hH hS hl)
theorem sm_gsC (cx : Cx X cc own nL) {i : Nat} (hw : Cond.fieldLink own i "java/lang/String" "COMPACT_STRINGS" "Z" ∈ TB) (hd : decode cc pc = .ok (.getstatic i, 3)) (kk : Sim X nL Fi (pc + 3) lv (.int 1 :: st) k) : Sim X nL Fi pc lv st k := by
  obtain ⟨p, l, e, R, s, m, args, below, meth, c, D, cy, A, Z⟩ := X
  obtain ⟨hx, hb, hml, hown, hts, hK, hA, hlk, hz⟩ := cx
  intro h z h' c0 n0 c1 n1 hk e1 e2 H locs ls hH hS hl
  exact va_gets hx hb hz.2.2.2.2.1.1 hS hown (hts _ hw) (fun _ h9 => h9) hd (kk h z h' c0 n0 c1 n1 hk e1 e2 H locs ls hH hS hl)
theorem sm_gsF (cx : Cx X cc own nL) {i : Nat} (hw : Cond.fieldLink own i "jdk/internal/util/Preconditions" "SIOOBE_FORMATTER" "Ljava/util/function/BiFunction;" ∈ TB) (hd : decode cc pc = .ok (.getstatic i, 3)) (kk : Sim X nL Fi (pc + 3) lv (va_rf (zF (xZ X)) :: st) k) : Sim X nL Fi pc lv st k := by
  obtain ⟨p, l, e, R, s, m, args, below, meth, c, D, cy, A, Z⟩ := X
  obtain ⟨hx, hb, hml, hown, hts, hK, hA, hlk, hz⟩ := cx
  intro h z h' c0 n0 c1 n1 hk e1 e2 H locs ls hH hS hl
  exact va_gets hx hb hz.2.2.2.2.2.2.1 hS hown (hts _ hw) (fun _ h9 => h9) hd (kk h z h' c0 n0 c1 n1 hk e1 e2 H locs ls hH hS hl)
theorem sm_ldcS (cx : Cx X cc own nL) {i : Nat} (x : String × Nat × String × Nat) (hm : x ∈ wRef) (ho : x.1 = own) (hi : x.2.1 = i) (hd : decode cc pc = .ok (.ldc i, 2)) (kk : Sim X nL Fi (pc + 2) lv (va_rf (some (xZ X (10 + x.2.2.2))) :: st) k) : Sim X nL Fi pc lv st k := by
  subst ho
  subst hi
  obtain ⟨p, l, e, R, s, m, args, below, meth, c, D, cy, A, Z⟩ := X
  obtain ⟨hx, hb, hml, hown, hts, hK, hA, hlk, hz⟩ := cx
  intro h z h' c0 n0 c1 n1 hk e1 e2 H locs ls hH hS hl
  exact va_ldcS hx hb hown (hz.2.2.2.2.2.1 x hm) hd (kk h z h' c0 n0 c1 n1 hk e1 e2 H locs ls hH hS hl)
theorem sm_gSv (cx : Cx X cc own nL) {i : Nat} {r : Option Nat} {K : Option Nat → Mo α} (hw : Cond.fieldLink own i "java/lang/String" "value" "[B" ∈ TB) (hd : decode cc pc = .ok (.getfield i, 3)) (kk : ∀ b, Sim X nL Fi (pc + 3) lv (va_rf b :: st) (K b)) : Sim X nL Fi pc lv (va_rf r :: st) (mb (gSv (xZ X) r) K) := by
  obtain ⟨p, l, e, R, s, m, args, below, meth, c, D, cy, A, Z⟩ := X
  obtain ⟨hx, hb, hml, hown, hts, hK, hA, hlk, hz⟩ := cx
  intro h z h' c0 n0 c1 n1 hk e1 e2 H locs ls hH hS hl
  obtain ⟨b, h1, ca, na, cb, nb, k1, k2, rfl, rfl⟩ := mb_some hk
  unfold gSv at k1
  split at k1
  · rename_i j hj
    cases k1
    obtain ⟨hj6, rfl⟩ := wIx_some hj
    refine vk_getf hx hb (hz.2.2.2.2.1.2.1 j hj6).2.2.1 hS hown (hts _ hw) (fun _ h9 => h9) hd ?_
    exact kk _ h z h' c0 n0 cb nb k2 (by omega) (by omega) H locs ls hH hS hl
  · cases k1
theorem sm_gSc (cx : Cx X cc own nL) {i : Nat} {r : Option Nat} {K : Int32 → Mo α} (hw : Cond.fieldLink own i "java/lang/String" "coder" "B" ∈ TB) (hd : decode cc pc = .ok (.getfield i, 3)) (kk : ∀ b, Sim X nL Fi (pc + 3) lv (.int b :: st) (K b)) : Sim X nL Fi pc lv (va_rf r :: st) (mb (gSc (xZ X) r) K) := by
  obtain ⟨p, l, e, R, s, m, args, below, meth, c, D, cy, A, Z⟩ := X
  obtain ⟨hx, hb, hml, hown, hts, hK, hA, hlk, hz⟩ := cx
  intro h z h' c0 n0 c1 n1 hk e1 e2 H locs ls hH hS hl
  obtain ⟨b, h1, ca, na, cb, nb, k1, k2, rfl, rfl⟩ := mb_some hk
  unfold gSc at k1
  split at k1
  · rename_i j hj
    cases k1
    obtain ⟨hj6, rfl⟩ := wIx_some hj
    refine vk_getf hx hb (hz.2.2.2.2.1.2.1 j hj6).2.1 hS hown (hts _ hw) (fun _ h9 => h9) hd ?_
    exact kk _ h z h' c0 n0 cb nb k2 (by omega) (by omega) H locs ls hH hS hl
  · cases k1
theorem sm_aSn (cx : Cx X cc own nL) {r : Option Nat} {K : Int32 → Mo α} (hd : decode cc pc = .ok (.arraylength, 1)) (kk : ∀ b, Sim X nL Fi (pc + 1) lv (.int b :: st) (K b)) : Sim X nL Fi pc lv (va_rf r :: st) (mb (aSn (xZ X) r) K) := by
  obtain ⟨p, l, e, R, s, m, args, below, meth, c, D, cy, A, Z⟩ := X
  obtain ⟨hx, hb, hml, hown, hts, hK, hA, hlk, hz⟩ := cx
  intro h z h' c0 n0 c1 n1 hk e1 e2 H locs ls hH hS hl
  obtain ⟨b, h1, ca, na, cb, nb, k1, k2, rfl, rfl⟩ := mb_some hk
  unfold aSn at k1
  split at k1
  · rename_i j hj
    cases k1
    obtain ⟨hj6, rfl⟩ := wIx_some hj
    refine va_tlen hx hb (hz.2.2.2.2.1.2.1 j hj6).2.2.2 hS rfl hd ?_
    exact kk _ h z h' c0 n0 cb nb k2 (by omega) (by omega) H locs ls hH hS hl
  · cases k1
theorem sm_aSb (cx : Cx X cc own nL) {r : Option Nat} {i : Int32} {K : Int32 → Mo α} (hd : decode cc pc = .ok (.baload, 1)) (kk : ∀ b, Sim X nL Fi (pc + 1) lv (.int b :: st) (K b)) : Sim X nL Fi pc lv (.int i :: va_rf r :: st) (mb (aSb (xZ X) r i) K) := by
  obtain ⟨p, l, e, R, s, m, args, below, meth, c, D, cy, A, Z⟩ := X
  obtain ⟨hx, hb, hml, hown, hts, hK, hA, hlk, hz⟩ := cx
  intro h z h' c0 n0 c1 n1 hk e1 e2 H locs ls hH hS hl
  obtain ⟨b, h1, ca, na, cb, nb, k1, k2, rfl, rfl⟩ := mb_some hk
  unfold aSb at k1
  split at k1
  · rename_i j hj
    split at k1
    · cases k1
    · rename_i hin
      cases k1
      obtain ⟨hj6, rfl⟩ := wIx_some hj
      refine va_tb hx hb (hz.2.2.2.2.1.2.1 j hj6).2.2.2 hS hin rfl hd ?_
      exact kk _ h z h' c0 n0 cb nb k2 (by omega) (by omega) H locs ls hH hS hl
  · cases k1
theorem sm_aG (cx : Cx X cc own nL) {r : Option Nat} {i : Int32} {K : Int64 → Mo α} (hd : decode cc pc = .ok (.laload, 1)) (kk : ∀ b, Sim X nL Fi (pc + 1) lv (.long b :: st) (K b)) : Sim X nL Fi pc lv (.int i :: va_rf r :: st) (mb (aG r (xZ X) i) K) := by
  obtain ⟨p, l, e, R, s, m, args, below, meth, c, D, cy, A, Z⟩ := X
  obtain ⟨hx, hb, hml, hown, hts, hK, hA, hlk, hz⟩ := cx
  intro h z h' c0 n0 c1 n1 hk e1 e2 H locs ls hH hS hl
  obtain ⟨b, h1, ca, na, cb, nb, k1, k2, rfl, rfl⟩ := mb_some hk
  unfold aG at k1
  split at k1
  · rename_i hr
    subst hr
    split at k1
    · cases k1
    · rename_i hin
      cases k1
      refine va_tl hx hb hz.2.2.1.2 hS hin rfl hd ?_
      exact kk _ h z h' c0 n0 cb nb k2 (by omega) (by omega) H locs ls hH hS hl
  · cases k1
theorem sm_aGn (cx : Cx X cc own nL) {r : Option Nat} {K : Int32 → Mo α} (hd : decode cc pc = .ok (.arraylength, 1)) (kk : ∀ b, Sim X nL Fi (pc + 1) lv (.int b :: st) (K b)) : Sim X nL Fi pc lv (va_rf r :: st) (mb (aGn r (xZ X)) K) := by
  obtain ⟨p, l, e, R, s, m, args, below, meth, c, D, cy, A, Z⟩ := X
  obtain ⟨hx, hb, hml, hown, hts, hK, hA, hlk, hz⟩ := cx
  intro h z h' c0 n0 c1 n1 hk e1 e2 H locs ls hH hS hl
  obtain ⟨b, h1, ca, na, cb, nb, k1, k2, rfl, rfl⟩ := mb_some hk
  unfold aGn at k1
  split at k1
  · rename_i hr
    subst hr
    cases k1
    refine va_tlen hx hb hz.2.2.1.2 hS (v := 6) (by decide) hd ?_
    exact kk _ h z h' c0 n0 cb nb k2 (by omega) (by omega) H locs ls hH hS hl
  · cases k1
theorem sm_aNq (cx : Cx X cc own nL) {r : Option Nat} {K : Int32 → Mo α} (hd : decode cc pc = .ok (.arraylength, 1)) (kk : ∀ b, Sim X nL Fi (pc + 1) lv (.int b :: st) (K b)) : Sim X nL Fi pc lv (va_rf r :: st) (mb (aNq (xZ X) r) K) := by
  by_cases hr : r = some (xZ X 0)
  · obtain ⟨p, l, e, R, s, m, args, below, meth, c, D, cy, A, Z⟩ := X
    obtain ⟨hx, hb, hml, hown, hts, hK, hA, hlk, hz⟩ := cx
    intro h z h' c0 n0 c1 n1 hk e1 e2 H locs ls hH hS hl
    obtain ⟨b, h1, ca, na, cb, nb, k1, k2, rfl, rfl⟩ := mb_some hk
    unfold aNq at k1
    rw [if_pos hr] at k1
    subst hr
    cases k1
    refine va_tlen hx hb hz.2.1.2 hS (v := 0) (by decide) hd ?_
    exact kk _ h z h' c0 n0 cb nb k2 (by omega) (by omega) H locs ls hH hS hl
  · have e : aNq (xZ X) r = aN 4 r := by
      funext h
      unfold aNq
      rw [if_neg hr]
    rw [e]
    exact sm_alen cx 4 (by decide) hd kk
theorem ck_some {ci : Nat} {r : Option Nat} {h h1 : Hs} {v : Unit} {c n : Nat} (e : ck ci r h = some (v, h1, c, n)) : h1 = h ∧ c = 0 ∧ n = 0 ∧ ∀ a, r = some a → ∃ fs, h.1 a = some (.inl (ci, fs)) := by
  unfold ck at e
  split at e
  · cases e
    exact ⟨rfl, rfl, rfl, fun a ha => by cases ha⟩
  · split at e
    · cases e
    · rename_i z e0
      cases e
      obtain ⟨a', fs⟩ := z
      obtain ⟨q1, q2⟩ := ob_some e0
      exact ⟨rfl, rfl, rfl, fun a ha => by cases q1; cases ha; exact ⟨fs, q2⟩⟩
theorem sm_ck (cx : Cx X cc own nL) {i ci : Nat} {C : String} {T : u_T} {N : Nat} {r : Option Nat} {K : Mo α} (hc : vwCl[ci]? = some (C, T, N)) (hw : Cond.classLink own i C ∈ TB) (hd : decode cc pc = .ok (.checkcast i, 3)) (kk : Sim X nL Fi (pc + 3) lv (va_rf r :: st) K) : Sim X nL Fi pc lv (va_rf r :: st) (mb (ck ci r) (fun _ => K)) := by
  obtain ⟨p, l, e, R, s, m, args, below, meth, c, D, cy, A, Z⟩ := X
  obtain ⟨hx, hb, hml, hown, hts, hK, hA, hlk, hz⟩ := cx
  intro h z h' c0 n0 c1 n1 hk e1 e2 H locs ls hH hS hl
  obtain ⟨b, h1, ca, na, cb, nb, k1, k2, rfl, rfl⟩ := mb_some hk
  obtain ⟨rfl, rfl, rfl, ha⟩ := ck_some k1
  have go := kk h1 z h' c0 n0 cb nb k2 (by omega) (by omega) H locs ls hH hS hl
  cases r with
  | none => exact lv_castN hx hb hd go
  | some a =>
    obtain ⟨fs, hf⟩ := ha a rfl
    exact va_castE hx hb hown (hts _ hw) (va_recv hK (one_P (hH.2 a _ hf).1) (q := (C, T, N)) (ci := ci) (q0 := 0) hc rfl) hd go
theorem cast_all : ∀ (ci : Nat) (r : vw_C), vwCl[ci]? = some r → Cond.castable r.1 "java/lang/Object" ∈ nwL := by
  intro ci r h
  have hlt : ci < 16 := (List.getElem?_eq_some_iff.mp h).1
  have key : ∀ i : Nat, i < 16 → ∀ r : vw_C, vwCl[i]? = some r → Cond.castable r.1 "java/lang/Object" ∈ nwL := by
    intro i hi r hr
    match i, hi, hr with
    | 0, _, hr => cases hr; exact List.mem_of_getElem? (i := 6) rfl
    | 1, _, hr => cases hr; exact List.mem_of_getElem? (i := 7) rfl
    | 2, _, hr => cases hr; exact List.mem_of_getElem? (i := 8) rfl
    | 3, _, hr => cases hr; exact List.mem_of_getElem? (i := 9) rfl
    | 4, _, hr => cases hr; exact List.mem_of_getElem? (i := 10) rfl
    | 5, _, hr => cases hr; exact List.mem_of_getElem? (i := 11) rfl
    | 6, _, hr => cases hr; exact List.mem_of_getElem? (i := 12) rfl
    | 7, _, hr => cases hr; exact List.mem_of_getElem? (i := 13) rfl
    | 8, _, hr => cases hr; exact List.mem_of_getElem? (i := 14) rfl
    | 9, _, hr => cases hr; exact List.mem_of_getElem? (i := 15) rfl
    | 10, _, hr => cases hr; exact List.mem_of_getElem? (i := 16) rfl
    | 11, _, hr => cases hr; exact List.mem_of_getElem? (i := 17) rfl
    | 12, _, hr => cases hr; exact List.mem_of_getElem? (i := 18) rfl
    | 13, _, hr => cases hr; exact List.mem_of_getElem? (i := 19) rfl
    | 14, _, hr => cases hr; exact List.mem_of_getElem? (i := 20) rfl
    | 15, _, hr => cases hr; exact List.mem_of_getElem? (i := 21) rfl
  exact key ci hlt r h
theorem sm_aast (cx : Cx X cc own nL) {r x : Option Nat} {i : Int32} {K : Mo α} (hd : decode cc pc = .ok (.aastore, 1)) (kk : Sim X nL Fi (pc + 1) lv st K) : Sim X nL Fi pc lv (va_rf x :: .int i :: va_rf r :: st) (mb (sR r i x) (fun _ => K)) := by
  obtain ⟨p, l, e, R, s, m, args, below, meth, c, D, cy, A, Z⟩ := X
  obtain ⟨hx, hb, hml, hown, hts, hK, hA, hlk, hz⟩ := cx
  intro h z h' c0 n0 c1 n1 hk e1 e2 H locs ls hH hS hl
  obtain ⟨b, h1, ca, na, cb, nb, k1, k2, rfl, rfl⟩ := mb_some hk
  obtain ⟨a, N, f, rfl, ha, hin, hv, rfl, rfl, rfl⟩ := sR_some k1
  obtain ⟨hP, hw⟩ := hH.2 a _ ha
  have hAa : A a := hw rfl
  have hlt : i.toNatClampNeg < N := Nat.not_le.mp fun q => hin (Or.inr q)
  have h0 : ¬ i < 0 := fun q => hin (Or.inl q)
  cases x with
  | none =>
    refine va_WaastN (C := "java/lang/Object") hx hb hP ((hK.2 4 _ rfl).1 N (fun j => va_rf (f j))) (fun h => by cases h) (by show ¬ (i < 0 ∨ (arrV _ _ _).slots.size ≤ _); rw [arrV_size]; exact hin) rfl rfl hd fun H1 e3 e4 e5 => ?_
    refine kk _ z h' c0 n0 cb nb k2 (by omega) (by omega) H1 _ ls (hH.put hAa ?_ e4 e5) (hS.put e4 e5 hAa) hl
    show H1[a]? = some (vp_cell _ _)
    rw [e3, vp_cell_q, vp_cell_q, arrV_store]
    congr 2
    funext q
    by_cases hq : q = i.toNatClampNeg
    · subst hq; simp [updV, va_up, va_rf]
    · simp [updV, va_up, hq]
  | some v =>
    obtain ⟨⟨ci, vs⟩, hvo⟩ := hv v rfl
    obtain ⟨r', hr', cellV, g1, g2, g3, -⟩ := (hH.2 v _ hvo).1
    have hcls := (hK.1 ci r' hr').2
    obtain ⟨kA, comp, q1, q2, q3, -⟩ := (hK.2 4 _ rfl).2
    obtain ⟨kE, hkE, -⟩ := Vm.findClass_spec q3
    obtain ⟨c0', t1, f1, f2, f3⟩ := Cond.castable_spec (va_Nw.use (A := args) rfl (hz.1 _ (cast_all ci r' hr')))
    cases hcls.1.symm.trans f1
    cases q3.symm.trans f2
    obtain ⟨kC, hkC, -⟩ := hcls.2
    refine W.aast hx hb hP (fun q h => by cases h) (fun h => by cases h) q1 q2 rfl hkE ⟨h0, by show _ < (arrV _ _ _).slots.size; rw [arrV_size]; exact hlt⟩ g1 (fun q h => by rw [g3] at h; cases h) (by rw [g2]; exact hkC) (by rw [g2]; exact f3) rfl rfl hd fun H1 e3 e4 e5 => ?_
    refine kk _ z h' c0 n0 cb nb k2 (by omega) (by omega) H1 _ ls (hH.put hAa ?_ e4 e5) (hS.put e4 e5 hAa) hl
    show H1[a]? = some (vp_cell _ _)
    rw [e3, vp_cell_q, vp_cell_q, arrV_store]
    congr 2
    funext q
    by_cases hq : q = i.toNatClampNeg
    · subst hq; simp [updV, va_up, va_rf]
    · simp [updV, va_up, hq]
theorem sm_anew (cx : Cx X cc own nL) {j : Nat} {i : Int32} {K : Option Nat → Mo α} (hw : Cond.classLink own j "java/lang/Object" ∈ TB) (hd : decode cc pc = .ok (.anewarray j, 3)) (kk : ∀ b, Sim X nL Fi (pc + 3) lv (va_rf b :: st) (K b)) : Sim X nL Fi pc lv (.int i :: st) (mb (nA 4 i) K) := by
  obtain ⟨p, l, e, R, s, m, args, below, meth, c, D, cy, A, Z⟩ := X
  obtain ⟨hx, hb, hml, hown, hts, hK, hA, hlk, hz⟩ := cx
  intro h z h' c0 n0 c1 n1 hk e1 e2 H locs ls hH hS hl
  obtain ⟨b, h1, ca, na, cb, nb, k1, k2, rfl, rfl⟩ := mb_some hk
  unfold nA at k1
  split at k1
  · cases k1
  · rename_i hc
    cases k1
    have hzz := hH.1
    have hn : ¬ i < 0 := fun q => hc (Or.inl q)
    have hlim : i.toNatClampNeg ≤ 1000000 := Nat.not_lt.mp fun q => hc (Or.inr q)
    refine W.anew hx hb hown (hts _ hw) (va_AO.use hz.2.2.2.1.2.2) rfl hd rfl hn (by omega) (by omega) (by omega) fun cA kA comp f1 f2 f3 f4 => ?_
    generalize hH1 : H.push ({ cls := cA, slots := Array.replicate i.toNatClampNeg .null, vm := .none } : Cell) = H1
    have z1 : H1.size = H.size + 1 := by rw [← hH1, Array.size_push]
    have e3 : H1[H.size]? = some (arrV cA i.toNatClampNeg (fun _ => .null)) := by rw [← hH1, Array.getElem?_push_size, ← arrV_new]
    have o1 : ∀ q : Nat, q < H.size → H1[q]? = H[q]? := fun q hq => by rw [← hH1, Array.getElem?_push, if_neg (Nat.ne_of_lt hq)]
    obtain ⟨kA', comp', r1, r2, r3, r4⟩ := (hK.2 4 _ rfl).2
    have hcA : cA = cy 4 := Option.some.inj (f1.symm.trans r4)
    subst hcA
    refine W.eq (g2 := F0 m (pc + 3) ls (va_rf (some h.2) :: st)) (by rw [← hzz]; rfl) ?_
    refine kk _ _ z h' (c0 + 1) (n0 + i.toNatClampNeg) cb nb k2 (by omega) (by omega) H1 locs ls (hH.push (hA _ hS.1) ?_ z1 o1) ?_ hl
    · show H1[H.size]? = some (vp_cell _ _)
      exact e3
    · exact ⟨Nat.le_trans hS.1 (by omega), fun x h1 h2 => (o1 x (Nat.lt_of_lt_of_le h1 hS.1)).trans (hS.2.1 x h1 h2), hS.2.2⟩
/-- Math.max, Math.min -/
def jMx (x y : Int32) : Int32 := if x < y then y else x
theorem sm_mmax (cx : Cx X cc own nL) {i : Nat} {x y : Int32} (h1 : Cond.methodLink own i Lib.Math.max.name ∈ TB) (h2 : Cond.static Lib.Math.max.name ∈ TB) (h3 : Cond.initialized "java/lang/Math" ∈ TB) (h4 : Cond.code Lib.Math.max.name Lib.Math.max.code 2 (some .int) ∈ TB) (hfr : 1 ≤ (xR X).frames) (hlo : (st.map fun v => v.category).sum + 13 ≤ (xR X).locals) (hd : decode cc pc = .ok (.invokestatic i, 3)) (kk : Sim X nL Fi (pc + 3) lv (.int (jMx x y) :: st) k) : Sim X nL Fi pc lv (.int y :: .int x :: st) k := by
  obtain ⟨p, l, e, R, s, m, args, below, meth, c, D, cy, A, Z⟩ := X
  obtain ⟨hx, hb, hml, hown, hts, hK, hA, hlk, hz⟩ := cx
  intro h z h' c0 n0 c1 n1 hk e1 e2 H locs ls hH hS hl
  have w1 : c0 ≤ R.cells := by omega
  have w2 : n0 ≤ R.slots := by omega
  exact va_mmax hx hb (hml.trans hl.1.symm) hown (hts _ h1) (hts _ h2) (hts _ h3) (hts _ h4) hfr hlo w1 w2 hd (kk h z h' c0 n0 c1 n1 hk e1 e2 H locs ls hH hS hl)
def jMn (x y : Int32) : Int32 := if y < x then y else x
theorem sm_mmin (cx : Cx X cc own nL) {i : Nat} {x y : Int32} (h1 : Cond.methodLink own i Lib.Math.min.name ∈ TB) (h2 : Cond.static Lib.Math.min.name ∈ TB) (h3 : Cond.initialized "java/lang/Math" ∈ TB) (h4 : Cond.code Lib.Math.min.name Lib.Math.min.code 2 (some .int) ∈ TB) (hfr : 1 ≤ (xR X).frames) (hlo : (st.map fun v => v.category).sum + 13 ≤ (xR X).locals) (hd : decode cc pc = .ok (.invokestatic i, 3)) (kk : Sim X nL Fi (pc + 3) lv (.int (jMn x y) :: st) k) : Sim X nL Fi pc lv (.int y :: .int x :: st) k := by
  obtain ⟨p, l, e, R, s, m, args, below, meth, c, D, cy, A, Z⟩ := X
  obtain ⟨hx, hb, hml, hown, hts, hK, hA, hlk, hz⟩ := cx
  intro h z h' c0 n0 c1 n1 hk e1 e2 H locs ls hH hS hl
  have w1 : c0 ≤ R.cells := by omega
  have w2 : n0 ≤ R.slots := by omega
  exact va_mmin hx hb (hml.trans hl.1.symm) hown (hts _ h1) (hts _ h2) (hts _ h3) (hts _ h4) hfr hlo w1 w2 hd (kk h z h' c0 n0 c1 n1 hk e1 e2 H locs ls hH hS hl)
end LS
end
section
/-! ===== more rows ===== -/
/-- as often as any loop here goes round, and more -/
def fuL : Nat := 100000
theorem ct_i (x : Int32) : (Value.int x).category = 1 := rfl
theorem ct_l (x : Int64) : (Value.long x).category = 2 := rfl
theorem ct_r (x : Nat) : (Value.ref x).category = 1 := rfl
section LM
variable {α : Type} {X : Cg} {nL : Nat} {Fi : α → Hs → State → Prop} {pc : Nat} {lv : List (Nat × Value)} {st stk : List Value} {k : Mo α} {cc : ByteArray} {own : String}
theorem sm_newa0 (cx : Cx X cc own nL) {i : Int32} {K : Option Nat → Mo α} (hd : decode cc pc = .ok (.newarray .byte, 2)) (kk : ∀ b, Sim X nL Fi (pc + 2) lv (va_rf b :: st) (K b)) : Sim X nL Fi pc lv (.int i :: st) (mb (nA 0 i) K) := sm_newa cx 0 (at0 := .byte) (ty := .byte) rfl (fun _ => rfl) rfl (fun _ _ => rfl) (fun _ _ h => h) (by decide) wd_1_100 hd kk
theorem sm_newa1 (cx : Cx X cc own nL) {i : Int32} {K : Option Nat → Mo α} (hd : decode cc pc = .ok (.newarray .int, 2)) (kk : ∀ b, Sim X nL Fi (pc + 2) lv (va_rf b :: st) (K b)) : Sim X nL Fi pc lv (.int i :: st) (mb (nA 1 i) K) := sm_newa cx 1 (at0 := .int) (ty := .int) rfl (fun _ => rfl) rfl (fun _ _ => rfl) (fun _ _ h => h) (by decide) wd_1_86 hd kk
theorem sm_newa2 (cx : Cx X cc own nL) {i : Int32} {K : Option Nat → Mo α} (hd : decode cc pc = .ok (.newarray .long, 2)) (kk : ∀ b, Sim X nL Fi (pc + 2) lv (va_rf b :: st) (K b)) : Sim X nL Fi pc lv (.int i :: st) (mb (nA 2 i) K) := sm_newa cx 2 (at0 := .long) (ty := .long) rfl (fun _ => rfl) rfl (fun _ _ => rfl) (fun _ _ h => h) (by decide) wd_1_85 hd kk
theorem sm_newa3 (cx : Cx X cc own nL) {i : Int32} {K : Option Nat → Mo α} (hd : decode cc pc = .ok (.newarray .boolean, 2)) (kk : ∀ b, Sim X nL Fi (pc + 2) lv (va_rf b :: st) (K b)) : Sim X nL Fi pc lv (.int i :: st) (mb (nA 3 i) K) := sm_newa cx 3 (at0 := .boolean) (ty := .boolean) rfl (fun _ => rfl) rfl (fun _ _ => rfl) (fun _ _ h => h) (by decide) wd_7_29 hd kk
theorem moS_some {Z : Nat → Nat} {r : Option Nat} {x : Mo α} {h : Hs} {y : α × Hs × Nat × Nat} (e : moS Z r x h = some y) : ∃ i, i < 6 ∧ r = some (Z (10 + i)) ∧ x h = some y := by
  unfold moS at e
  split at e
  · rename_i i hi
    obtain ⟨q1, q2⟩ := wIx_some hi
    exact ⟨i, q1, q2, e⟩
  · cases e
/-- a call on a word -/
theorem sm_callW {β : Type} (cx : Cx X cc own nL) {i : Nat} {y : MethodName} {bytes : ByteArray} {maxL : Nat} {ret : Option FieldType} {fr lo : Nat} (As : List Value) {r : Option Nat} {toV : β → Option Value} {f : Mo β} {K : β → Mo α} (hW : CalV own i "java/lang/String" y bytes maxL ret As.length)
    (hM : ∀ a, r = some a → Ct y bytes maxL ret fr lo (xZ X) (.ref a :: As) toV f) (hfr : fr + 1 ≤ (xR X).frames) (hlo : 8 + (maxL + 11) + lo ≤ (xR X).locals) (hst : stk = As.reverse ++ va_rf r :: st) (hcat : (st.map fun v => v.category).sum ≤ 8) (hd : decode cc pc = .ok (.invokevirtual i, 3)) (kk : ∀ b, Sim X nL Fi (pc + 3) lv ((toV b).toList ++ st) (K b)) : Sim X nL Fi pc lv stk (mb (moS (xZ X) r f) K) := by
  obtain ⟨p, l, e, R, s, m, args, below, meth, c, D, cy, A, Z⟩ := X
  obtain ⟨hx, hb, hml, hown, hts, hK, hA, hlk, hz⟩ := cx
  intro h z h' c0 n0 c1 n1 hk e1 e2 H locs ls hH hS hl
  obtain ⟨b, h1, ca, na, cb, nb, k1, k2, rfl, rfl⟩ := mb_some hk
  obtain ⟨j, hj, rfl, kf⟩ := moS_some k1
  have M := hM _ rfl l D cy A h b h1 ca na kf
  refine cg_back (mc := ca) (ms := na) (va_runV (As := As) (rest := st) (C := "java/lang/String") ⟨hx, hb, hml, hown, hts⟩ M (cwV As.length hts hW.1 rfl rfl rfl hW.2 ⟨hfr, hlo⟩) ⟨fb_pre, vk_recv hz.2.2.2.2.1.2 hj hS, fun U hU hWm => ⟨rfl, pre_at hK hA hz hS hH hU hWm⟩⟩ rfl rfl hl.1 hst (lv_room hcat) hd ⟨by omega, by omega⟩) hS (fun H1 locs1 hH1 hS1 => ?_)
  exact kk b h1 z h' (c0 + ca) (n0 + na) cb nb k2 (by omega) (by omega) H1 locs1 ls hH1 hS1 hl
theorem sm_ext {k1 k2 : Mo α} (h : k1 = k2) (kk : Sim X nL Fi pc lv st k1) : Sim X nL Fi pc lv st k2 := h ▸ kk
theorem sm_tin (cx : Cx X cc own nL) {dflt lo hi : Int} {offs : Array Int} {len : Nat} {x : Int32} {off : Int} {tgt : Nat} (hd : decode cc pc = .ok (.tableswitch dflt lo hi offs, len)) (h1 : ¬ x.toInt < lo) (h2 : ¬ hi < x.toInt) (ho : offs[(x.toInt - lo).toNat]? = some off) (ht : (pc : Int) + off = (tgt : Int)) (kk : Sim X nL Fi tgt lv st k) : Sim X nL Fi pc lv (.int x :: st) k := by
  obtain ⟨p, l, e, R, s, m, args, below, meth, c, D, cy, A, Z⟩ := X
  obtain ⟨hx, hb, hml, hown, hts, hK, hA, hlk, hz⟩ := cx
  intro h z h' c0 n0 c1 n1 hk e1 e2 H locs ls hH hS hl
  exact lv_tableIn hx hb hd h1 h2 ho ht (kk h z h' c0 n0 c1 n1 hk e1 e2 H locs ls hH hS hl)
theorem sm_tout (cx : Cx X cc own nL) {dflt lo hi : Int} {offs : Array Int} {len : Nat} {x : Int32} {tgt : Nat} (hd : decode cc pc = .ok (.tableswitch dflt lo hi offs, len)) (h1 : x.toInt < lo ∨ hi < x.toInt) (ht : (pc : Int) + dflt = (tgt : Int)) (kk : Sim X nL Fi tgt lv st k) : Sim X nL Fi pc lv (.int x :: st) k := by
  obtain ⟨p, l, e, R, s, m, args, below, meth, c, D, cy, A, Z⟩ := X
  obtain ⟨hx, hb, hml, hown, hts, hK, hA, hlk, hz⟩ := cx
  intro h z h' c0 n0 c1 n1 hk e1 e2 H locs ls hH hS hl
  exact lv_tableOut hx hb hd h1 ht (kk h z h' c0 n0 c1 n1 hk e1 e2 H locs ls hH hS hl)
theorem sm_tsw7 (cx : Cx X cc own nL) {x : Int32} {dflt o0 o1 o2 o3 o4 o5 o6 : Int} {len td : Nat} {t0 : Nat} {t1 : Nat} {t2 : Nat} {t3 : Nat} {t4 : Nat} {t5 : Nat} {t6 : Nat} {k0 k1 k2 k3 k4 k5 k6 kd : Mo α} (hd : decode cc pc = .ok (.tableswitch dflt 0 6 #[o0, o1, o2, o3, o4, o5, o6], len)) (h0 : (pc : Int) + o0 = (t0 : Int)) (h1 : (pc : Int) + o1 = (t1 : Int)) (h2 : (pc : Int) + o2 = (t2 : Int)) (h3 : (pc : Int) + o3 = (t3 : Int)) (h4 : (pc : Int) + o4 = (t4 : Int)) (h5 : (pc : Int) + o5 = (t5 : Int)) (h6 : (pc : Int) + o6 = (t6 : Int)) (hdd : (pc : Int) + dflt = (td : Int)) (q0 : Sim X nL Fi t0 lv st k0) (q1 : Sim X nL Fi t1 lv st k1) (q2 : Sim X nL Fi t2 lv st k2) (q3 : Sim X nL Fi t3 lv st k3) (q4 : Sim X nL Fi t4 lv st k4) (q5 : Sim X nL Fi t5 lv st k5) (q6 : Sim X nL Fi t6 lv st k6) (qd : Sim X nL Fi td lv st kd) : Sim X nL Fi pc lv (.int x :: st) (if x = 0 then k0 else (if x = 1 then k1 else (if x = 2 then k2 else (if x = 3 then k3 else (if x = 4 then k4 else (if x = 5 then k5 else (if x = 6 then k6 else kd))))))) := by
  by_cases c0 : x = 0
  · subst c0
    rw [if_pos rfl]
    exact sm_tin cx hd (by decide) (by decide) rfl h0 q0
  rw [if_neg c0]
  by_cases c1 : x = 1
  · subst c1
    rw [if_pos rfl]
    exact sm_tin cx hd (by decide) (by decide) rfl h1 q1
  rw [if_neg c1]
  by_cases c2 : x = 2
  · subst c2
    rw [if_pos rfl]
    exact sm_tin cx hd (by decide) (by decide) rfl h2 q2
  rw [if_neg c2]
  by_cases c3 : x = 3
  · subst c3
    rw [if_pos rfl]
    exact sm_tin cx hd (by decide) (by decide) rfl h3 q3
  rw [if_neg c3]
  by_cases c4 : x = 4
  · subst c4
    rw [if_pos rfl]
    exact sm_tin cx hd (by decide) (by decide) rfl h4 q4
  rw [if_neg c4]
  by_cases c5 : x = 5
  · subst c5
    rw [if_pos rfl]
    exact sm_tin cx hd (by decide) (by decide) rfl h5 q5
  rw [if_neg c5]
  by_cases c6 : x = 6
  · subst c6
    rw [if_pos rfl]
    exact sm_tin cx hd (by decide) (by decide) rfl h6 q6
  rw [if_neg c6]
  refine sm_tout cx hd ?_ hdd qd
  have key : ∀ n : Int32, ∀ m : Int, n.toInt = m → ¬ x = n → x.toInt ≠ m := fun n m e hne he => hne (Int32.toInt_inj.mp (he.trans e.symm))
  have g0 := key 0 0 (by decide) c0
  have g1 := key 1 1 (by decide) c1
  have g2 := key 2 2 (by decide) c2
  have g3 := key 3 3 (by decide) c3
  have g4 := key 4 4 (by decide) c4
  have g5 := key 5 5 (by decide) c5
  have g6 := key 6 6 (by decide) c6
  omega
end LM
end
section
/-! ===== System.arraycopy, getClass, a class object ===== -/
theorem nn_i {z : Int32} (hz : ¬ z < 0) : z.toInt = (z.toNatClampNeg : Int) := by
  have hz0 : (0 : Int) ≤ z.toInt := by
    have := Int32.not_lt.mp hz
    simpa using Int32.le_iff_toInt_le.mp this
  show z.toInt = ((z.toInt.toNat : Nat) : Int)
  omega
/-- all that is copied is null or an object of a class of vwCl -/
def cpOk (h : Hs) (f : Nat → Option Nat) (sp n : Nat) : Bool := (List.range n).all (fun i => match f (sp + i) with
  | none => true
  | some y => match h.1 y with
    | some (.inl _) => true
    | _ => false)
def cpR (src : Option Nat) (sp : Int32) (dst : Option Nat) (dp n : Int32) : Mo Unit := fun h => match ar 4 src h, ar 4 dst h with
  | some (_, _, (n0, .inr (.inr (.inr (.inr f))))), some (a, u, (n1, .inr (.inr (.inr (.inr g))))) => if sp < 0 ∨ dp < 0 ∨ n < 0 ∨ n0 < sp.toNatClampNeg + n.toNatClampNeg ∨ n1 < dp.toNatClampNeg + n.toNatClampNeg ∨ u ≠ 4 ∨ cpOk h f sp.toNatClampNeg n.toNatClampNeg = false then none else some ((), (va_up h.1 a (some (.inr (4, (n1, .inr (.inr (.inr (.inr (va_cpy f g sp.toNatClampNeg dp.toNatClampNeg n.toNatClampNeg)))))))), h.2), 0, 0)
  | _, _ => none
def cpI (src : Option Nat) (sp : Int32) (dst : Option Nat) (dp n : Int32) : Mo Unit := fun h => match ar 1 src h, ar 1 dst h with
  | some (_, _, (n0, .inl f)), some (a, u, (n1, .inl g)) => if sp < 0 ∨ dp < 0 ∨ n < 0 ∨ n0 < sp.toNatClampNeg + n.toNatClampNeg ∨ n1 < dp.toNatClampNeg + n.toNatClampNeg ∨ u ≠ 1 then none else some ((), (va_up h.1 a (some (.inr (1, (n1, .inl (va_cpy f g sp.toNatClampNeg dp.toNatClampNeg n.toNatClampNeg))))), h.2), 0, 0)
  | _, _ => none
theorem cpR_some {src dst : Option Nat} {sp dp n : Int32} {h h1 : Hs} {v : Unit} {c m : Nat} (e : cpR src sp dst dp n h = some (v, h1, c, m)) : ∃ a0 u0 n0 f a n1 g, src = some a0 ∧ dst = some a ∧ h.1 a0 = some (.inr (u0, (n0, .inr (.inr (.inr (.inr f)))))) ∧ u0 % 10 = 4 ∧ h.1 a = some (.inr (4, (n1, .inr (.inr (.inr (.inr g)))))) ∧ ¬ sp < 0 ∧ ¬ dp < 0 ∧ ¬ n < 0 ∧ sp.toNatClampNeg + n.toNatClampNeg ≤ n0 ∧ dp.toNatClampNeg + n.toNatClampNeg ≤ n1 ∧ (∀ i, i < n.toNatClampNeg → ∀ y, f (sp.toNatClampNeg + i) = some y → ∃ o, h.1 y = some (.inl o)) ∧ h1 = (va_up h.1 a (some (.inr (4, (n1, .inr (.inr (.inr (.inr (va_cpy f g sp.toNatClampNeg dp.toNatClampNeg n.toNatClampNeg)))))))), h.2) ∧ c = 0 ∧ m = 0 := by
  unfold cpR at e
  split at e
  · rename_i a0 u0 n0 f a u n1 g e0 e1
    obtain ⟨p1, p2, p3⟩ := ar_some e0
    obtain ⟨q1, q2, q3⟩ := ar_some e1
    split at e
    · cases e
    · rename_i hc
      simp only [not_or] at hc
      obtain ⟨c1, c2, c3, c4, c5, c6, c7⟩ := hc
      have hu : u = 4 := Decidable.byContradiction c6
      subst hu
      cases e
      refine ⟨a0, u0, n0, f, a, n1, g, p1, q1, p2, p3, q2, c1, c2, c3, Nat.not_lt.mp c4, Nat.not_lt.mp c5, ?_, rfl, rfl, rfl⟩
      intro i hi y hy
      have hall : cpOk h f sp.toNatClampNeg n.toNatClampNeg = true := by
        cases hh : cpOk h f sp.toNatClampNeg n.toNatClampNeg with
        | true => rfl
        | false => exact absurd hh c7
      have := List.all_eq_true.mp hall i (List.mem_range.mpr hi)
      rw [hy] at this
      split at this
      · rename_i heq; cases heq
      · rename_i y' heq
        cases heq
        split at this
        · rename_i o ho; exact ⟨o, ho⟩
        · cases this
  · cases e
theorem cpI_some {src dst : Option Nat} {sp dp n : Int32} {h h1 : Hs} {v : Unit} {c m : Nat} (e : cpI src sp dst dp n h = some (v, h1, c, m)) : ∃ a0 u0 n0 f a n1 g, src = some a0 ∧ dst = some a ∧ h.1 a0 = some (.inr (u0, (n0, .inl f))) ∧ u0 % 10 = 1 ∧ h.1 a = some (.inr (1, (n1, .inl g))) ∧ ¬ sp < 0 ∧ ¬ dp < 0 ∧ ¬ n < 0 ∧ sp.toNatClampNeg + n.toNatClampNeg ≤ n0 ∧ dp.toNatClampNeg + n.toNatClampNeg ≤ n1 ∧ h1 = (va_up h.1 a (some (.inr (1, (n1, .inl (va_cpy f g sp.toNatClampNeg dp.toNatClampNeg n.toNatClampNeg))))), h.2) ∧ c = 0 ∧ m = 0 := by
  unfold cpI at e
  split at e
  · rename_i a0 u0 n0 f a u n1 g e0 e1
    obtain ⟨p1, p2, p3⟩ := ar_some e0
    obtain ⟨q1, q2, q3⟩ := ar_some e1
    split at e
    · cases e
    · rename_i hc
      simp only [not_or] at hc
      obtain ⟨c1, c2, c3, c4, c5, c6⟩ := hc
      have hu : u = 1 := Decidable.byContradiction c6
      subst hu
      cases e
      exact ⟨a0, u0, n0, f, a, n1, g, p1, q1, p2, p3, q2, c1, c2, c3, Nat.not_lt.mp c4, Nat.not_lt.mp c5, rfl, rfl, rfl⟩
  · cases e
theorem nfw : nativeFrameWords "java/lang/System" "arraycopy" 5 ≤ 20 := by decide
section LP
variable {α : Type} {X : Cg} {nL : Nat} {Fi : α → Hs → State → Prop} {pc : Nat} {lv : List (Nat × Value)} {st stk : List Value} {k : Mo α} {cc : ByteArray} {own : String}
theorem sm_cpR (cx : Cx X cc own nL) {i : Nat} {src dst : Option Nat} {sp dp n : Int32} {K : Mo α} (h1 : Cond.methodLink own i arraycopyName ∈ TB) (h2 : Cond.native arraycopyName ∈ TB) (h3 : Cond.static arraycopyName ∈ TB) (h4 : Cond.initialized "java/lang/System" ∈ TB) (hfr : 1 ≤ (xR X).frames) (hcat : (st.map fun v => v.category).sum ≤ 8) (hlo : 39 ≤ (xR X).locals) (hd : decode cc pc = .ok (.invokestatic i, 3)) (kk : Sim X nL Fi (pc + 3) lv st K) : Sim X nL Fi pc lv (.int n :: .int dp :: va_rf dst :: .int sp :: va_rf src :: st) (mb (cpR src sp dst dp n) (fun _ => K)) := by
  obtain ⟨p, l, e, R, s, m, args, below, meth, c, D, cy, A, Z⟩ := X
  obtain ⟨hx, hb, hml, hown, hts, hK, hA, hlk, hz⟩ := cx
  intro h z h' c0 n0' c1 n1' hk e1 e2 H locs ls hH hS hl
  obtain ⟨b, hh1, ca, na, cb, nb, k1, k2, rfl, rfl⟩ := mb_some hk
  obtain ⟨a0, u0, n0, f, a, n1, g, rfl, rfl, ha0, hu0, ha1, w1, w2, w3, w4, w5, hel, rfl, rfl, rfl⟩ := cpR_some k1
  have hP0 := (hH.2 a0 _ ha0).1
  rw [hs_u cy hu0] at hP0
  obtain ⟨hP1, hw⟩ := hH.2 a _ ha1
  have hAa : A a := hw rfl
  have hc0 : H[a0]? = some (vp_cell (cy 4) (n0, .inr (.inr (.inr (.inr f))))) := hP0
  have hc1 : H[a]? = some (vp_cell (cy 4) (n1, .inr (.inr (.inr (.inr g))))) := hP1
  have hlow : (st.map fun v => v.category).sum + (nativeFrameWords "java/lang/System" "arraycopy" 5 + 11) ≤ R.locals := Nat.le_trans (Nat.add_le_add hcat (Nat.add_le_add_right nfw 11)) hlo
  intro T hT Y
  obtain ⟨-, k0, hk0, cm0, hkk0⟩ := (hK.2 4 _ rfl).1 n0 (fun j => va_rf (f j))
  obtain ⟨-, k1', hk1, cm1, hkk1⟩ := (hK.2 4 _ rfl).1 n1 (fun j => va_rf (g j))
  obtain ⟨vm', X', step⟩ := Y.arraycopy hx hown (hts _ h1) (hts _ h2) (hts _ h3) (hts _ h4) (src := a0) (dst := a) (cs := vp_cell (cy 4) (n0, .inr (.inr (.inr (.inr f))))) (cd := vp_cell (cy 4) (n1, .inr (.inr (.inr (.inr g))))) (srcPos := sp) (destPos := dp) (n := n) (by rw [hT]; exact hc0) (by rw [hT]; exact hc1)
    (fun _ h => by cases h) (fun _ h => by cases h) (fun h => by cases h) (fun h => by cases h) hk0 hk1 hkk0 hkk1 rfl w1 w2 w3
    (by rw [nn_i w1, nn_i w3]; show ¬ _ > ((arrV (cy 4) n0 (fun j => va_rf (f j))).slots.size : Int); rw [arrV_size]; omega)
    (by rw [nn_i w2, nn_i w3]; show ¬ _ > ((arrV (cy 4) n1 (fun j => va_rf (g j))).slots.size : Int); rw [arrV_size]; omega)
    (fun vm₁ hal i hi => by
      have e : (vp_cell (cy 4) (n0, .inr (.inr (.inr (.inr f))))).slots.getD (sp.toNatClampNeg + i) .null = va_rf (f (sp.toNatClampNeg + i)) := by
        show (arrV (cy 4) n0 (fun j => va_rf (f j))).slots.getD _ _ = _
        rw [Array.getD_eq_getD_getElem?, arrV_read _ _ (by omega)]
        rfl
      rw [e]
      cases hy : f (sp.toNatClampNeg + i) with
      | none => exact ⟨rfl, trivial⟩
      | some y =>
        obtain ⟨⟨ci, vs⟩, hvo⟩ := hel i hi y hy
        obtain ⟨r', hr', cellV, g1, g2, g3, -⟩ := (hH.2 y _ hvo).1
        have hcls := (hK.1 ci r' hr').2
        obtain ⟨kA, comp, r1, r2, r3, -⟩ := (hK.2 4 _ rfl).2
        cases hk1.symm.trans r1
        cases hkk1.symm.trans r2
        obtain ⟨c0', t1, f1, f2, f3⟩ := Cond.castable_spec (va_Nw.use (A := args) rfl (hz.1 _ (cast_all ci r' hr')))
        cases hcls.1.symm.trans f1
        cases r3.symm.trans f2
        obtain ⟨kC, hkC, -⟩ := hcls.2
        obtain ⟨kE, hkE, -⟩ := Vm.findClass_spec r3
        obtain ⟨kC', hkC', -⟩ := hal.2.2 _ _ hkC
        obtain ⟨kE', hkE', -⟩ := hal.2.2 _ _ hkE
        refine ⟨rfl, cellV, (show T.heap[y]? = some cellV by rw [hT]; exact g1), (fun q h => by rw [g3] at h; cases h), ⟨kC', by rw [g2]; exact hkC'⟩, ?_, ?_⟩
        · exact ⟨kE', hkE'⟩
        · show vm₁.assignable _ _ = true
          rw [hal.assignable, g2]
          exact f3)
    (g := F0 m pc ls (.int n :: .int dp :: .ref a :: .int sp :: .ref a0 :: st)) rfl (by rw [hml]; exact hl.1) (rest := st) rfl (by rw [hb]; exact hd) hfr (by show 2 * 0 + _ + _ ≤ R.locals; omega)
  have e3 : copied (vp_cell (cy 4) (n0, .inr (.inr (.inr (.inr f))))) (vp_cell (cy 4) (n1, .inr (.inr (.inr (.inr g))))) sp dp n = vp_cell (cy 4) (n1, .inr (.inr (.inr (.inr (va_cpy f g sp.toNatClampNeg dp.toNatClampNeg n.toNatClampNeg))))) := by
    rw [vp_cell_q, vp_cell_q, vp_cell_q]
    exact va_copied (fun z => va_rf z) (cy 4) (cy 4) f g w4
  rw [e3] at X' step
  have hlt : a < H.size := (Array.getElem?_eq_some_iff.mp hc1).1
  have hheap : ((T.setVm vm').setCell a (vp_cell (cy 4) (n1, .inr (.inr (.inr (.inr (va_cpy f g sp.toNatClampNeg dp.toNatClampNeg n.toNatClampNeg))))))).heap = H.setIfInBounds a (vp_cell (cy 4) (n1, .inr (.inr (.inr (.inr (va_cpy f g sp.toNatClampNeg dp.toNatClampNeg n.toNatClampNeg)))))) := by rw [← hT]; rfl
  have oq : ∀ q : Nat, q ≠ a → (H.setIfInBounds a (vp_cell (cy 4) (n1, .inr (.inr (.inr (.inr (va_cpy f g sp.toNatClampNeg dp.toNatClampNeg n.toNatClampNeg)))))))[q]? = H[q]? := fun q hq => by simp [Array.getElem?_setIfInBounds, Ne.symm hq]
  obtain ⟨t, a1, b1⟩ := kk _ z h' c0 n0' cb nb k2 (by omega) (by omega) _ _ ls (hH.put hAa (show (H.setIfInBounds a _)[a]? = some _ by simp [Array.getElem?_setIfInBounds, hlt]) (by simp) oq) ⟨by simp; exact hS.1, fun q g1 g2 => by
      rw [oq q (fun e => g2 (by rw [e]; exact hAa))]
      exact hS.2.1 q g1 g2, fun q hq => by
      rcases List.mem_append.mp hq with h | h
      · exact hS.2.2 q h
      · obtain ⟨z, -, hz⟩ := List.mem_map.mp h
        rw [← hz]
        exact hAa⟩ hl _ hheap X'
  exact ⟨t, step t a1, b1⟩
theorem sm_cpI (cx : Cx X cc own nL) {i : Nat} {src dst : Option Nat} {sp dp n : Int32} {K : Mo α} (h1 : Cond.methodLink own i arraycopyName ∈ TB) (h2 : Cond.native arraycopyName ∈ TB) (h3 : Cond.static arraycopyName ∈ TB) (h4 : Cond.initialized "java/lang/System" ∈ TB) (hfr : 1 ≤ (xR X).frames) (hcat : (st.map fun v => v.category).sum ≤ 8) (hlo : 39 ≤ (xR X).locals) (hd : decode cc pc = .ok (.invokestatic i, 3)) (kk : Sim X nL Fi (pc + 3) lv st K) : Sim X nL Fi pc lv (.int n :: .int dp :: va_rf dst :: .int sp :: va_rf src :: st) (mb (cpI src sp dst dp n) (fun _ => K)) := by
  obtain ⟨p, l, e, R, s, m, args, below, meth, c, D, cy, A, Z⟩ := X
  obtain ⟨hx, hb, hml, hown, hts, hK, hA, hlk, hz⟩ := cx
  intro h z h' c0 n0' c1 n1' hk e1 e2 H locs ls hH hS hl
  obtain ⟨b, hh1, ca, na, cb, nb, k1, k2, rfl, rfl⟩ := mb_some hk
  obtain ⟨a0, u0, n0, f, a, n1, g, rfl, rfl, ha0, hu0, ha1, w1, w2, w3, w4, w5, rfl, rfl, rfl⟩ := cpI_some k1
  have hP0 := (hH.2 a0 _ ha0).1
  rw [hs_u cy hu0] at hP0
  obtain ⟨hP1, hw⟩ := hH.2 a _ ha1
  have hAa : A a := hw rfl
  have hc0 : H[a0]? = some (vp_cell (cy 1) (n0, .inl f)) := hP0
  have hc1 : H[a]? = some (vp_cell (cy 1) (n1, .inl g)) := hP1
  have hlow : (st.map fun v => v.category).sum + (nativeFrameWords "java/lang/System" "arraycopy" 5 + 11) ≤ R.locals := Nat.le_trans (Nat.add_le_add hcat (Nat.add_le_add_right nfw 11)) hlo
  intro T hT Y
  obtain ⟨-, k0, hk0, cm0, hkk0⟩ := (hK.2 1 _ rfl).1 n0 (fun j => .int (f j))
  obtain ⟨-, k1', hk1, cm1, hkk1⟩ := (hK.2 1 _ rfl).1 n1 (fun j => .int (g j))
  obtain ⟨vm', X', step⟩ := Y.arraycopy hx hown (hts _ h1) (hts _ h2) (hts _ h3) (hts _ h4) (src := a0) (dst := a) (cs := vp_cell (cy 1) (n0, .inl f)) (cd := vp_cell (cy 1) (n1, .inl g)) (srcPos := sp) (destPos := dp) (n := n) (by rw [hT]; exact hc0) (by rw [hT]; exact hc1)
    (fun _ h => by cases h) (fun _ h => by cases h) (fun h => by cases h) (fun h => by cases h) hk0 hk1 hkk0 hkk1 (by simp [refKind]) w1 w2 w3
    (by rw [nn_i w1, nn_i w3]; show ¬ _ > ((arrV (cy 1) n0 (fun j => .int (f j))).slots.size : Int); rw [arrV_size]; omega)
    (by rw [nn_i w2, nn_i w3]; show ¬ _ > ((arrV (cy 1) n1 (fun j => .int (g j))).slots.size : Int); rw [arrV_size]; omega)
    (fun vm₁ _ i hi => by
      have e : (vp_cell (cy 1) (n0, .inl f)).slots.getD (sp.toNatClampNeg + i) .null = .int (f (sp.toNatClampNeg + i)) := by
        show (arrV (cy 1) n0 (fun j => .int (f j))).slots.getD _ _ = _
        rw [Array.getD_eq_getD_getElem?, arrV_read _ _ (by omega)]
        rfl
      refine ⟨?_, ?_⟩
      · rw [e]; rfl
      · rw [e]; exact trivial)
    (g := F0 m pc ls (.int n :: .int dp :: .ref a :: .int sp :: .ref a0 :: st)) rfl (by rw [hml]; exact hl.1) (rest := st) rfl (by rw [hb]; exact hd) hfr (by show 2 * 0 + _ + _ ≤ R.locals; omega)
  have e3 : copied (vp_cell (cy 1) (n0, .inl f)) (vp_cell (cy 1) (n1, .inl g)) sp dp n = vp_cell (cy 1) (n1, .inl (va_cpy f g sp.toNatClampNeg dp.toNatClampNeg n.toNatClampNeg)) := va_copied (fun z => .int z) (cy 1) (cy 1) f g w4
  rw [e3] at X' step
  have hlt : a < H.size := (Array.getElem?_eq_some_iff.mp hc1).1
  have hheap : ((T.setVm vm').setCell a (vp_cell (cy 1) (n1, .inl (va_cpy f g sp.toNatClampNeg dp.toNatClampNeg n.toNatClampNeg)))).heap = H.setIfInBounds a (vp_cell (cy 1) (n1, .inl (va_cpy f g sp.toNatClampNeg dp.toNatClampNeg n.toNatClampNeg))) := by rw [← hT]; rfl
  have oq : ∀ q : Nat, q ≠ a → (H.setIfInBounds a (vp_cell (cy 1) (n1, .inl (va_cpy f g sp.toNatClampNeg dp.toNatClampNeg n.toNatClampNeg))))[q]? = H[q]? := fun q hq => by simp [Array.getElem?_setIfInBounds, Ne.symm hq]
  obtain ⟨t, a1, b1⟩ := kk _ z h' c0 n0' cb nb k2 (by omega) (by omega) _ _ ls (hH.put hAa (show (H.setIfInBounds a _)[a]? = some _ by simp [Array.getElem?_setIfInBounds, hlt]) (by simp) oq) ⟨by simp; exact hS.1, fun q g1 g2 => by
      rw [oq q (fun e => g2 (by rw [e]; exact hAa))]
      exact hS.2.1 q g1 g2, fun q hq => by
      rcases List.mem_append.mp hq with h | h
      · exact hS.2.2 q h
      · obtain ⟨z, -, hz⟩ := List.mem_map.mp h
        rw [← hz]
        exact hAa⟩ hl _ hheap X'
  exact ⟨t, step t a1, b1⟩
/-- the class object of an array of references -/
def gC (Z : Nat → Nat) (r : Option Nat) : Mo (Option Nat) := fun h => match ar 4 r h with
  | some _ => some (some (Z 2), h, 0, 0)
  | none => none
theorem sm_gC (cx : Cx X cc own nL) {i : Nat} {r : Option Nat} {K : Option Nat → Mo α} (h1 : Cond.methodLink own i ⟨"java/lang/Object", "getClass", "()Ljava/lang/Class;"⟩ ∈ TB) (h2 : Cond.selects "[Ljava/lang/Object;" ⟨"java/lang/Object", "getClass", "()Ljava/lang/Class;"⟩ ⟨"java/lang/Object", "getClass", "()Ljava/lang/Class;"⟩ ∈ TB) (h3 : Cond.instanceMethod ⟨"java/lang/Object", "getClass", "()Ljava/lang/Class;"⟩ ∈ TB) (h4 : Cond.native ⟨"java/lang/Object", "getClass", "()Ljava/lang/Class;"⟩ ∈ TB) (hfr : 1 ≤ (xR X).frames) (hcat : (st.map fun v => v.category).sum ≤ 8) (hlo : 22 ≤ (xR X).locals) (hd : decode cc pc = .ok (.invokevirtual i, 3)) (kk : ∀ b, Sim X nL Fi (pc + 3) lv (va_rf b :: st) (K b)) : Sim X nL Fi pc lv (va_rf r :: st) (mb (gC (xZ X) r) K) := by
  obtain ⟨p, l, e, R, s, m, args, below, meth, c, D, cy, A, Z⟩ := X
  obtain ⟨hx, hb, hml, hown, hts, hK, hA, hlk, hz⟩ := cx
  intro h z h' c0 n0 c1 n1 hk e1 e2 H locs ls hH hS hl
  obtain ⟨b, hh1, ca, na, cb, nb, k1, k2, rfl, rfl⟩ := mb_some hk
  unfold gC at k1
  split at k1
  · rename_i w ew
    obtain ⟨a, u, x⟩ := w
    obtain ⟨rfl, ha, hu⟩ := ar_some ew
    cases k1
    have hP := (hH.2 a _ ha).1
    rw [hs_u cy hu] at hP
    have hP : H[a]? = some (vp_cell (cy 4) x) := hP
    have hr : ∃ cell : Cell, H[a]? = some cell ∧ cell.vm.isStatics = false ∧ s.vm.findClass "[Ljava/lang/Object;" = some cell.cls := by
      have hn : s.vm.findClass "[Ljava/lang/Object;" = some (cy 4) := va_nmO (hK.2 4 _ rfl).2 (by decide)
      obtain ⟨n, y⟩ := x
      refine ⟨_, hP, ?_, ?_⟩
      · rcases y with y | y | y | y | y <;> rfl
      · rw [hn]
        rcases y with y | y | y | y | y <;> rfl
    exact va_getC hx hb (hml.trans hl.1.symm) hown (hts _ h1) (va_Dc.use hz.2.2.2.1.2.1) (hts _ h2) (hts _ h3) (hts _ h4) hz.2.2.2.1.1 hr hfr (Nat.le_trans (Nat.add_le_add_right hcat 14) hlo) hd (kk _ h z h' c0 n0 cb nb k2 (by omega) (by omega) H locs ls hH hS hl)
  · cases k1
theorem sm_ldcM (cx : Cx X cc own nL) {i : Nat} (hw : Cond.classLink own i "[Ljava/lang/Object;" ∈ TB) (hd : decode cc pc = .ok (.ldc i, 2)) (kk : Sim X nL Fi (pc + 2) lv (va_rf (some (xZ X 2)) :: st) k) : Sim X nL Fi pc lv st k := by
  obtain ⟨p, l, e, R, s, m, args, below, meth, c, D, cy, A, Z⟩ := X
  obtain ⟨hx, hb, hml, hown, hts, hK, hA, hlk, hz⟩ := cx
  intro h z h' c0 n0 c1 n1 hk e1 e2 H locs ls hH hS hl
  exact va_ldcM hx hb hown (hts _ hw) hz.2.2.2.1.1 hd (kk h z h' c0 n0 c1 n1 hk e1 e2 H locs ls hH hS hl)
end LP
end
section
/-! ===== methods that may throw ===== -/
abbrev xC (X : Cg) : Code := X.2.2.2.2.2.2.2.2.2.1
abbrev xL (X : Cg) : Launch := X.2.1
/-- the world, however many cells there are -/
def HX (D : va_G) (cy : Nat → ClassId) (A : Nat → Prop) (h : Hs) (H : Heap) : Prop := ∃ sz, HW D cy A (h.1, sz) H
def QxC {β : Type} (D : va_G) (cy : Nat → ClassId) (A : Nat → Prop) (toV : β → Option Value) (r : β ⊕ String) (h' : Hs) : Array Value → State → Outcome → State → Prop := fun _ st o t => match r with
  | .inl v => o = .returned (toV v) ∧ HW D cy A h' t.heap ∧ va_F A st t
  | .inr _ => False
def XxC {β : Type} (D : va_G) (cy : Nat → ClassId) (A : Nat → Prop) (r : β ⊕ String) (h' : Hs) : String → State → State → Prop := fun E st t => match r with
  | .inl _ => False
  | .inr E' => E = E' ∧ HX D cy A h' t.heap ∧ va_F A st t
/-- the contract of a method that returns or throws -/
def CtX {β : Type} (y : MethodName) (cc : ByteArray) (maxL : Nat) (ret : Option FieldType) (fr lo : Nat) (Z : Nat → Nat) (av : List Value) (toV : β → Option Value) (f : Mo (β ⊕ String)) : Prop :=
  ∀ (l : Launch), l.stackTraces = false → ∀ (D : va_G) (cy : Nat → ClassId) (A : Nat → Prop) (h : Hs) (r : β ⊕ String) (h' : Hs) (c n : Nat), f h = some (r, h', c, n) → vx_Met l y (.code y cc maxL ret :: TB) { frames := fr, cells := c, slots := n, locals := lo } (va_Pc av (PreU D cy A Z h)) (QxC D cy A toV r h') (XxC D cy A r h') c n A
def FiX {β : Type} (X : Cg) (toV : β → Option Value) : (β ⊕ String) → Hs → State → Prop := match X with
  | (_, _, _, R, s, _, args, below, _, _, D, cy, A, _) => fun r h' => vx_MQ below (QxC D cy A toV r h') (XxC D cy A r h') args s R.cells R.slots A
theorem ctx_of {β : Type} {y : MethodName} {cc : ByteArray} {maxL : Nat} {ret : Option FieldType} {fr lo : Nat} {Z : Nat → Nat} {av : List Value} {lv0 : List (Nat × Value)} {toV : β → Option Value} {f : Mo (β ⊕ String)} (hy : plainName y.cls = true) (hlen : (lg_sl av).length ≤ maxL) (hlv : lv_args 0 av = lv0)
    (hs : ∀ X : Cg, Cx X cc y.cls maxL → xZ X = Z → (xR X).frames = fr → (xR X).locals = lo → (xM X).sig.returnType = ret → (xL X).stackTraces = false ∧ (∀ x ∈ (xC X).exceptionTable.toList, False) → Sim X maxL (FiX X toV) 0 lv0 [] f) : CtX y cc maxL ret fr lo Z av toV f := by
  intro l htr D cy A h r h' c n hf
  refine vx_ofW (cc := cc) (maxL := maxL) (ret := ret) hy rfl ?_
  intro p e s m args below meth c' s₁ B hml hex hv
  obtain ⟨rfl, hH, hK, hA, hz⟩ := hv
  have hts : ∀ w ∈ TB, w.before av.toArray s = true := fun w hw => atoms_spec (ws := Cond.code y cc maxL ret :: TB) B.pre w (List.mem_cons_of_mem _ hw)
  have hown : s.vm.findClass y.cls = some m.cls := findClass_of_methodNamed B.named
  have hl := lv_entry av (n := maxL) hlen
  rw [hlv] at hl
  rw [lg_entry_eq]
  exact hs (p, l, e, { frames := fr, cells := c, slots := n, locals := lo }, s, m, av.toArray, below, meth, c', D, cy, A, Z) ⟨B.exec, B.bytes, hml, hown, hts, hK, hA, B.notSynchronized, hz⟩ rfl rfl rfl B.returns ⟨htr, hex⟩ h r h' 0 0 c n hf (Nat.zero_add c) (Nat.zero_add n) s.heap [] _ hH va_S.rf hl
/-- a throw of its own; a throw that goes on; going on behind a call that returned -/
def mt {β : Type} (E : String) : Mo (β ⊕ String) := fun h => some (.inr E, h, 1, 6)
def me {β : Type} (E : String) : Mo (β ⊕ String) := fun h => some (.inr E, h, 0, 0)
def mx {β γ : Type} (x : Mo (β ⊕ String)) (K : β → Mo (γ ⊕ String)) : Mo (γ ⊕ String) := mb x (fun r => match r with
  | .inl b => K b
  | .inr E => me E)
section LX
variable {γ : Type} {toV0 : γ → Option Value} {X : Cg} {nL : Nat} {pc : Nat} {lv : List (Nat × Value)} {st stk : List Value} {cc : ByteArray} {own : String}
theorem hw_grow {D : va_G} {cy : Nat → ClassId} {A : Nat → Prop} {h : Hs} {H H1 : Heap} (hH : HW D cy A h H) (hz : H.size ≤ H1.size) (hq : ∀ q : Nat, q < H.size → H1[q]? = H[q]?) : HX D cy A h H1 :=
  ⟨H1.size, rfl, fun q x hx => ⟨(hH.2 q x hx).1.kept (hq q (hH.2 q x hx).1.lt), (hH.2 q x hx).2⟩⟩
/-- behind a call that returns or throws -/
theorem cg_backX {β : Type} {p : Program} {l : Launch} {e : Env} {R : Room} {s : State} {m : MethodId} {args : Array Value} {below : List Frame} {meth : Method} {c : Code} {H : Heap} {locs : List Loc} {cells slots mc ms : Nat} {Q : State → Prop} {D : va_G} {cy : Nat → ClassId} {A : Nat → Prop} {ls : Array Slot} {toV : β → Option Value} {r : β ⊕ String} {h1 : Hs} {a : Array Value}
    (hr : vx_Run p l e R s m args below meth c H locs cells slots mc ms (F0 m pc ls stk) st (QxC D cy A toV r h1 a) (XxC D cy A r h1) A) (hS : va_S A s.heap H locs)
    (kk : ∀ (v : β), r = .inl v → ∀ (H1 : Heap) (locs1 : List Loc), HW D cy A h1 H1 → va_S A s.heap H1 locs1 → W p l e R s m args below meth c H1 locs1 (cells + mc) (slots + ms) Q (F0 m (pc + 3) ls ((toV v).toList ++ st)))
    (kx : ∀ (E : String), r = .inr E → ∀ (q9 : Addr) (ce : Cell) (H1 : Heap) (locs1 : List Loc), HX D cy A h1 H1 → va_S A s.heap H1 locs1 → H1[q9]? = some ce → ce.vm = .none → s.vm.findClass E = some ce.cls → vx_W p l e R s m args below meth c H1 locs1 (cells + mc) (slots + ms) Q (F0 m pc ls st) q9) : W p l e R s m args below meth c H locs cells slots Q (F0 m pc ls stk) := by
  intro T hT X
  rcases hr T hT X with ⟨v, st₀, t, T', L, h0, X', hL, e1, e2, hq, stp⟩ | ⟨q, st₀, t, T', L, E, ce, h0, X', hL, e1, e2, hq, hce, hcv, hcl, stp⟩
  · cases r with
    | inr E => exact absurd hq id
    | inl w =>
      obtain ⟨hv, hp, hF⟩ := hq
      cases hv
      obtain ⟨k1, k2, k3⟩ := vx_keep (A0 := A) (A1 := A) (free := A) (H0 := s.heap) h0 e1 hS (fun _ _ h => h) (fun _ h => h) hL hF
      obtain ⟨t2, a1, b1⟩ := kk w rfl T'.heap (locs ++ L) (by rw [e1]; exact hp) k3 T' rfl X'
      exact ⟨t2, stp t2 a1, b1⟩
  · cases r with
    | inl w => exact absurd hq id
    | inr E' =>
      obtain ⟨rfl, hp, hF⟩ := hq
      obtain ⟨k1, k2, k3⟩ := vx_keep (A0 := A) (A1 := A) (free := A) (H0 := s.heap) h0 e1 hS (fun _ _ h => h) (fun _ h => h) hL hF
      obtain ⟨t2, a1, b1⟩ := kx E rfl q ce T'.heap (locs ++ L) (by rw [e1]; exact hp) k3 (by rw [e1]; exact hce) hcv hcl T' rfl X'
      exact ⟨t2, stp.trans a1, b1⟩
/-- a throw that isn't caught here -/
theorem out_X {p : Program} {l : Launch} {e : Env} {R : Room} {s : State} {m : MethodId} {args : Array Value} {below : List Frame} {meth : Method} {c : Code} {H : Heap} {locs : List Loc} {D : va_G} {cy : Nat → ClassId} {A : Nat → Prop} {ls : Array Slot} {E : String} {h1 : Hs} {q : Addr} {ce : Cell} {rest : List Value} {cells slots : Nat} (hex : ∀ x ∈ c.exceptionTable.toList, False) (hlk : meth.locks = false) (hH : HX D cy A h1 H) (hS : va_S A s.heap H locs) (h2 : H[q]? = some ce) (h3 : ce.vm = .none) (h4 : s.vm.findClass E = some ce.cls) (hc : cells ≤ R.cells) (hs : slots ≤ R.slots) :
    vx_W p l e R s m args below meth c H locs cells slots (vx_MQ below (QxC D cy A toV0 (.inr E) h1) (XxC D cy A (.inr E : γ ⊕ String) h1) args s R.cells R.slots A) (F0 m pc ls rest) q :=
  vx_out (fun x hx => absurd (hex x hx) id) hlk h2 h3 h4 (fun t ht _ => ⟨rfl, by rw [ht]; exact hH, hS.F ht⟩) hS.2.2 hc hs
theorem sm_callSX {β : Type} (cx : Cx X cc own nL) (hth : (xL X).stackTraces = false ∧ (∀ x ∈ (xC X).exceptionTable.toList, False)) {i : Nat} {y : MethodName} {bytes : ByteArray} {maxL : Nat} {ret : Option FieldType} {fr lo : Nat} (As : List Value) {toV : β → Option Value} {f : Mo (β ⊕ String)} {K : β → Mo (γ ⊕ String)} (hW : CalS own i y bytes maxL ret As.length)
    (hM : CtX y bytes maxL ret fr lo (xZ X) As toV f) (hfr : fr + 1 ≤ (xR X).frames) (hlo : 8 + (maxL + 11) + lo ≤ (xR X).locals) (hst : stk = As.reverse ++ st) (hcat : (st.map fun v => v.category).sum ≤ 8) (hd : decode cc pc = .ok (.invokestatic i, 3)) (kk : ∀ b, Sim X nL (FiX X toV0) (pc + 3) lv ((toV b).toList ++ st) (K b)) : Sim X nL (FiX X toV0) pc lv stk (mx f K) := by
  obtain ⟨p, l, e, R, s, m, args, below, meth, c, D, cy, A, Z⟩ := X
  obtain ⟨hx, hb, hml, hown, hts, hK, hA, hlk, hz⟩ := cx
  intro h z h' c0 n0 c1 n1 hk e1 e2 H locs ls hH hS hl
  obtain ⟨b, h1, ca, na, cb, nb, k1, k2, rfl, rfl⟩ := mb_some hk
  have M := hM l hth.1 D cy A h b h1 ca na k1
  refine cg_backX (mc := ca) (ms := na) (vx_runS (As := As) (rest := st) ⟨hx, hb, hml, hown, hts⟩ M (va_cwS As.length hts hW.1 rfl rfl rfl hW.2 ⟨hfr, hlo⟩) ⟨fb_pre, fun U hU hWm => ⟨rfl, pre_at hK hA hz hS hH hU hWm⟩⟩ rfl rfl hl.1 hst (lv_room hcat) hd ⟨by omega, by omega⟩) hS (fun v hv H1 locs1 hH1 hS1 => ?_) (fun E hE q9 ce H1 locs1 hH1 hS1 g1 g2 g3 => ?_)
  · subst hv
    exact kk v h1 z h' (c0 + ca) (n0 + na) cb nb k2 (by omega) (by omega) H1 locs1 ls hH1 hS1 hl
  · subst hE
    cases k2
    exact out_X hth.2 hlk hH1 hS1 g1 g2 g3 (by omega) (by omega)
theorem sm_callVX {β : Type} (cx : Cx X cc own nL) (hth : (xL X).stackTraces = false ∧ (∀ x ∈ (xC X).exceptionTable.toList, False)) {i ci : Nat} {C : String} {T : u_T} {N : Nat} {y : MethodName} {bytes : ByteArray} {maxL : Nat} {ret : Option FieldType} {fr lo : Nat} (As : List Value) {r : Option Nat} {toV : β → Option Value} {f : Mo (β ⊕ String)} {K : β → Mo (γ ⊕ String)} (hc : vwCl[ci]? = some (C, T, N)) (hW : CalV own i C y bytes maxL ret As.length)
    (hM : ∀ a, r = some a → CtX y bytes maxL ret fr lo (xZ X) (.ref a :: As) toV f) (hfr : fr + 1 ≤ (xR X).frames) (hlo : 8 + (maxL + 11) + lo ≤ (xR X).locals) (hst : stk = As.reverse ++ va_rf r :: st) (hcat : (st.map fun v => v.category).sum ≤ 8) (hd : decode cc pc = .ok (.invokevirtual i, 3)) (kk : ∀ b, Sim X nL (FiX X toV0) (pc + 3) lv ((toV b).toList ++ st) (K b)) : Sim X nL (FiX X toV0) pc lv stk (mx (mo ci r f) K) := by
  obtain ⟨p, l, e, R, s, m, args, below, meth, c, D, cy, A, Z⟩ := X
  obtain ⟨hx, hb, hml, hown, hts, hK, hA, hlk, hz⟩ := cx
  intro h z h' c0 n0 c1 n1 hk e1 e2 H locs ls hH hS hl
  obtain ⟨b, h1, ca, na, cb, nb, k1, k2, rfl, rfl⟩ := mb_some hk
  obtain ⟨a, fs, rfl, ha, kf⟩ := mo_some k1
  have M := hM a rfl l hth.1 D cy A h b h1 ca na kf
  have hP := one_P (hH.2 a _ ha).1
  refine cg_backX (mc := ca) (ms := na) (vx_runV (As := As) (rest := st) (C := C) ⟨hx, hb, hml, hown, hts⟩ M (cwV As.length hts hW.1 rfl rfl rfl hW.2 ⟨hfr, hlo⟩) ⟨fb_pre, va_recv hK hP (q := (C, T, N)) (ci := ci) (q0 := 0) hc rfl, fun U hU hWm => ⟨rfl, pre_at hK hA hz hS hH hU hWm⟩⟩ rfl rfl hl.1 hst (lv_room hcat) hd ⟨by omega, by omega⟩) hS (fun v hv H1 locs1 hH1 hS1 => ?_) (fun E hE q9 ce H1 locs1 hH1 hS1 g1 g2 g3 => ?_)
  · subst hv
    exact kk v h1 z h' (c0 + ca) (n0 + na) cb nb k2 (by omega) (by omega) H1 locs1 ls hH1 hS1 hl
  · subst hE
    cases k2
    exact out_X hth.2 hlk hH1 hS1 g1 g2 g3 (by omega) (by omega)
/-- throw new E("text") -/
theorem sm_thrW (cx : Cx X cc RX11 nL) (hth : (xL X).stackTraces = false ∧ (∀ x ∈ (xC X).exceptionTable.toList, False)) {cls : String} {ik is ic : Nat} {B : List Cond} (x : String × Nat × String × Nat) (hm : x ∈ wRef) (ho : x.1 = RX11) (hi : x.2.1 = is) (hcls : Bundle.fit cls = true) (hk : Cond.classLink RX11 ik cls ∈ TB) (hini : Cond.initialized cls ∈ TB) (hg : ∀ w ∈ (vx_atS RX11 ic cls eN).filter goodWord, w ∈ lw_tbl) (hbad : ∀ w ∈ (vx_atS RX11 ic cls eN).filter (fun w => !goodWord w), w ∈ B) (hB : ∀ w ∈ B, w ∈ nwL) (hBt : ∀ w ∈ B, w.onTables = true) (hot : ∀ w ∈ Cond.classLink RX11 ik cls :: Cond.initialized cls :: vx_atS RX11 ic cls eN, vx_ot w = true)
    (d0 : decode cc pc = .ok (.new ik, 3)) (d3 : decode cc (pc + 3) = .ok (.dup, 1)) (d4 : decode cc (pc + 4) = .ok (.ldc_w is, 3)) (d7 : decode cc (pc + 7) = .ok (.invokespecial ic, 3)) (d10 : decode cc (pc + 10) = .ok (.athrow, 1)) (hfr : 6 ≤ (xR X).frames) (hlo : 90 ≤ (xR X).locals) (hcat : (st.map fun v => v.category).sum ≤ 8) : Sim X nL (FiX X toV0) pc lv st (mt cls) := by
  subst hi
  obtain ⟨p, l, e, R, s, m, args, below, meth, c, D, cy, A, Z⟩ := X
  obtain ⟨hx, hb, hml, hown, hts, hK, hA, hlk, hz⟩ := cx
  intro h z h' c0 n0 c1 n1 hk' e1 e2 H locs ls hH hS hl
  cases hk'
  have hat : ∀ w ∈ vx_atS RX11 ic cls eN, w.before args s = true := vx_hat (fun w hw => hts w (tb_in (hg w hw) (List.mem_filter.mp hw).2)) hbad (fun w hw => va_Nw.use (hBt w hw) (hz.1 w (hB w hw)))
  have hstr := hz.2.2.2.2.2.1 x hm
  rw [ho] at hstr
  exact vx_throwSW hx hb hth.1 hown hcls (by decide) (hts _ hk) (hts _ hini) hstr hat hot hz.2.2.2.2.2.2.2.1.1 hz.2.2.2.2.2.2.2.1.2 hS (hl.1.trans hml.symm) d0 d3 d4 d7 d10 (fun x hx => absurd (hth.2 x hx) id) (Nat.lt_of_lt_of_le (by decide) hfr) (Nat.le_trans (Nat.add_le_add_right hcat _) (Nat.le_trans (by decide) hlo)) (by omega) (by omega) hlk (fun t _ g1 g2 => ⟨rfl, hw_grow hH g1 g2, Nat.le_trans hS.1 g1, fun q q1 q2 => (g2 q (Nat.lt_of_lt_of_le q1 hS.1)).trans (hS.2.1 q q1 q2)⟩) hS.2.2 (by omega) (by omega)
theorem sm_thrS (cx : Cx X cc RX11 nL) (hth : (xL X).stackTraces = false ∧ (∀ x ∈ (xC X).exceptionTable.toList, False)) {cls : String} {ik is ic : Nat} {B : List Cond} (x : String × Nat × String × Nat) (hm : x ∈ wRef) (ho : x.1 = RX11) (hi : x.2.1 = is) (hcls : Bundle.fit cls = true) (hk : Cond.classLink RX11 ik cls ∈ TB) (hini : Cond.initialized cls ∈ TB) (hg : ∀ w ∈ (vx_atS RX11 ic cls eN).filter goodWord, w ∈ lw_tbl) (hbad : ∀ w ∈ (vx_atS RX11 ic cls eN).filter (fun w => !goodWord w), w ∈ B) (hB : ∀ w ∈ B, w ∈ nwL) (hBt : ∀ w ∈ B, w.onTables = true) (hot : ∀ w ∈ Cond.classLink RX11 ik cls :: Cond.initialized cls :: vx_atS RX11 ic cls eN, vx_ot w = true)
    (d0 : decode cc pc = .ok (.new ik, 3)) (d3 : decode cc (pc + 3) = .ok (.dup, 1)) (d4 : decode cc (pc + 4) = .ok (.ldc is, 2)) (d6 : decode cc (pc + 6) = .ok (.invokespecial ic, 3)) (d9 : decode cc (pc + 9) = .ok (.athrow, 1)) (hfr : 6 ≤ (xR X).frames) (hlo : 90 ≤ (xR X).locals) (hcat : (st.map fun v => v.category).sum ≤ 8) : Sim X nL (FiX X toV0) pc lv st (mt cls) := by
  subst hi
  obtain ⟨p, l, e, R, s, m, args, below, meth, c, D, cy, A, Z⟩ := X
  obtain ⟨hx, hb, hml, hown, hts, hK, hA, hlk, hz⟩ := cx
  intro h z h' c0 n0 c1 n1 hk' e1 e2 H locs ls hH hS hl
  cases hk'
  have hat : ∀ w ∈ vx_atS RX11 ic cls eN, w.before args s = true := vx_hat (fun w hw => hts w (tb_in (hg w hw) (List.mem_filter.mp hw).2)) hbad (fun w hw => va_Nw.use (hBt w hw) (hz.1 w (hB w hw)))
  have hstr := hz.2.2.2.2.2.1 x hm
  rw [ho] at hstr
  exact vx_throwS hx hb hth.1 hown hcls (by decide) (hts _ hk) (hts _ hini) hstr hat hot hz.2.2.2.2.2.2.2.1.1 hz.2.2.2.2.2.2.2.1.2 hS (hl.1.trans hml.symm) d0 d3 d4 d6 d9 (fun x hx => absurd (hth.2 x hx) id) (Nat.lt_of_lt_of_le (by decide) hfr) (Nat.le_trans (Nat.add_le_add_right hcat _) (Nat.le_trans (by decide) hlo)) (by omega) (by omega) hlk (fun t _ g1 g2 => ⟨rfl, hw_grow hH g1 g2, Nat.le_trans hS.1 g1, fun q q1 q2 => (g2 q (Nat.lt_of_lt_of_le q1 hS.1)).trans (hS.2.1 q q1 q2)⟩) hS.2.2 (by omega) (by omega)
theorem sx_iret (cx : Cx X cc own nL) {v : Int32} (hr : (xM X).sig.returnType = some .int) (hd : decode cc pc = .ok (.ireturn, 1)) : Sim X nL (FiX X vI) pc lv [.int v] (mp (.inl v)) := by
  obtain ⟨p, l, e, R, s, m, args, below, meth, c, D, cy, A, Z⟩ := X
  obtain ⟨hx, hb, hml, hown, hts, hK, hA, hlk, hz⟩ := cx
  intro h z h' c0 n0 c1 n1 hk e1 e2 H locs ls hH hS hl
  cases hk
  rw [Nat.add_zero] at e1 e2
  subst e1; subst e2
  exact vx_ret (W.iret hx hb hr (fun t ht hW => ⟨rfl, by rw [ht]; exact hH, hS.F ht⟩) hS.2.2 hd)
def rzX (ty : FieldType) (v : Int32) : Mo (Int32 ⊕ String) := if narrow ty (.int v) = .int v then mp (.inl v) else mf
theorem sx_zret (cx : Cx X cc own nL) {v : Int32} {ty : FieldType} (hr : (xM X).sig.returnType = some ty) (hd : decode cc pc = .ok (.ireturn, 1)) : Sim X nL (FiX X vI) pc lv [.int v] (rzX ty v) := by
  unfold rzX
  split
  · rename_i hn
    obtain ⟨p, l, e, R, s, m, args, below, meth, c, D, cy, A, Z⟩ := X
    obtain ⟨hx, hb, hml, hown, hts, hK, hA, hlk, hz⟩ := cx
    intro h z h' c0 n0 c1 n1 hk e1 e2 H locs ls hH hS hl
    cases hk
    rw [Nat.add_zero] at e1 e2
    subst e1; subst e2
    exact vx_ret (W.zret hx hb hr hn (fun t ht hW => ⟨rfl, by rw [ht]; exact hH, hS.F ht⟩) hS.2.2 hd)
  · exact sm_mf
theorem sx_vret (cx : Cx X cc own nL) (hr : (xM X).sig.returnType = none) (hd : decode cc pc = .ok (.return_, 1)) : Sim X nL (FiX X vV) pc lv [] (mp (.inl ())) := by
  obtain ⟨p, l, e, R, s, m, args, below, meth, c, D, cy, A, Z⟩ := X
  obtain ⟨hx, hb, hml, hown, hts, hK, hA, hlk, hz⟩ := cx
  intro h z h' c0 n0 c1 n1 hk e1 e2 H locs ls hH hS hl
  cases hk
  rw [Nat.add_zero] at e1 e2
  subst e1; subst e2
  exact vx_ret (W.vret hx hb hr (fun t ht hW => ⟨rfl, by rw [ht]; exact hH, hS.F ht⟩) hS.2.2 hd)
end LX
/-- the three throws' rows, with all that is fixed of them -/
theorem bw_I : ∀ w ∈ [Cond.castable eI eI, Cond.declares ⟨"java/lang/RuntimeException", "<init>", "(Ljava/lang/String;)V"⟩, Cond.declares ⟨"java/lang/Exception", "<init>", "(Ljava/lang/String;)V"⟩, Cond.declares ⟨"java/lang/Throwable", "<init>", "(Ljava/lang/String;)V"⟩], w ∈ nwL := by decide +kernel
theorem bw_A : ∀ w ∈ [Cond.castable eA eA, Cond.declares ⟨"java/lang/RuntimeException", "<init>", "(Ljava/lang/String;)V"⟩, Cond.declares ⟨"java/lang/Exception", "<init>", "(Ljava/lang/String;)V"⟩, Cond.declares ⟨"java/lang/Throwable", "<init>", "(Ljava/lang/String;)V"⟩], w ∈ nwL := by decide +kernel
theorem bw_S : ∀ w ∈ [Cond.castable eS eS, Cond.declares ⟨"java/lang/RuntimeException", "<init>", "(Ljava/lang/String;)V"⟩, Cond.declares ⟨"java/lang/Exception", "<init>", "(Ljava/lang/String;)V"⟩, Cond.declares ⟨"java/lang/Throwable", "<init>", "(Ljava/lang/String;)V"⟩], w ∈ nwL := by decide +kernel
theorem bt_I : ∀ w ∈ [Cond.castable eI eI, Cond.declares ⟨"java/lang/RuntimeException", "<init>", "(Ljava/lang/String;)V"⟩, Cond.declares ⟨"java/lang/Exception", "<init>", "(Ljava/lang/String;)V"⟩, Cond.declares ⟨"java/lang/Throwable", "<init>", "(Ljava/lang/String;)V"⟩], w.onTables = true := by decide +kernel
theorem bt_A : ∀ w ∈ [Cond.castable eA eA, Cond.declares ⟨"java/lang/RuntimeException", "<init>", "(Ljava/lang/String;)V"⟩, Cond.declares ⟨"java/lang/Exception", "<init>", "(Ljava/lang/String;)V"⟩, Cond.declares ⟨"java/lang/Throwable", "<init>", "(Ljava/lang/String;)V"⟩], w.onTables = true := by decide +kernel
theorem bt_S : ∀ w ∈ [Cond.castable eS eS, Cond.declares ⟨"java/lang/RuntimeException", "<init>", "(Ljava/lang/String;)V"⟩, Cond.declares ⟨"java/lang/Exception", "<init>", "(Ljava/lang/String;)V"⟩, Cond.declares ⟨"java/lang/Throwable", "<init>", "(Ljava/lang/String;)V"⟩], w.onTables = true := by decide +kernel
end
