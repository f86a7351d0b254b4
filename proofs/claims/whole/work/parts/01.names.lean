-- ===== PART A: goes FIRST, ahead of the names: the tables' words, and 'selects' of the private methods out of them =====
/-- a private method of a class that the tables say can be made, by its rows of tables_1 -/
def lw_okq (q : MethodName × Nat) : Prop := (q.1.cls ≠ "java/lang/invoke/MethodHandle" ∧ q.1.cls ≠ "java/lang/invoke/VarHandle") ∧ Cond.instantiable q.1.cls q.2 ∈ tables_1 ∧ Cond.privateMethod q.1 ∈ tables_1 ∧ Cond.instanceMethod q.1 ∈ tables_1
theorem lw_p0 : lw_okq (⟨"LockTable$Table", "barring", "(III)I"⟩, 15) := ⟨⟨by decide +kernel, by decide +kernel⟩, List.mem_of_getElem? (i := 21) (by decide +kernel), List.mem_of_getElem? (i := 292) (by decide +kernel), List.mem_of_getElem? (i := 293) (by decide +kernel)⟩
theorem lw_p1 : lw_okq (⟨"LockTable$Table", "standingAhead", "(III)I"⟩, 15) := ⟨⟨by decide +kernel, by decide +kernel⟩, List.mem_of_getElem? (i := 21) (by decide +kernel), List.mem_of_getElem? (i := 304) (by decide +kernel), List.mem_of_getElem? (i := 305) (by decide +kernel)⟩
theorem lw_p2 : lw_okq (⟨"LockTable$Table", "grant", "(III)V"⟩, 15) := ⟨⟨by decide +kernel, by decide +kernel⟩, List.mem_of_getElem? (i := 21) (by decide +kernel), List.mem_of_getElem? (i := 308) (by decide +kernel), List.mem_of_getElem? (i := 309) (by decide +kernel)⟩
theorem lw_p3 : lw_okq (⟨"LockTable$Table", "shiftCounts", "(IIII)V"⟩, 15) := ⟨⟨by decide +kernel, by decide +kernel⟩, List.mem_of_getElem? (i := 21) (by decide +kernel), List.mem_of_getElem? (i := 312) (by decide +kernel), List.mem_of_getElem? (i := 313) (by decide +kernel)⟩
theorem lw_p4 : lw_okq (⟨"LockTable$Table", "raiseWaits", "(I)Z"⟩, 15) := ⟨⟨by decide +kernel, by decide +kernel⟩, List.mem_of_getElem? (i := 21) (by decide +kernel), List.mem_of_getElem? (i := 322) (by decide +kernel), List.mem_of_getElem? (i := 323) (by decide +kernel)⟩
theorem lw_p5 : lw_okq (⟨"LockTable$Table", "nextToServe", "()I"⟩, 15) := ⟨⟨by decide +kernel, by decide +kernel⟩, List.mem_of_getElem? (i := 21) (by decide +kernel), List.mem_of_getElem? (i := 342) (by decide +kernel), List.mem_of_getElem? (i := 343) (by decide +kernel)⟩
theorem lw_p6 : lw_okq (⟨"LockTable$Player", "takeRow", "(LLockTable$Table;I)I"⟩, 4) := ⟨⟨by decide +kernel, by decide +kernel⟩, List.mem_of_getElem? (i := 89) (by decide +kernel), List.mem_of_getElem? (i := 482) (by decide +kernel), List.mem_of_getElem? (i := 483) (by decide +kernel)⟩
theorem lw_p7 : lw_okq (⟨"LockTable", "askByLot", "()I"⟩, 10) := ⟨⟨by decide +kernel, by decide +kernel⟩, List.mem_of_getElem? (i := 13) (by decide +kernel), List.mem_of_getElem? (i := 494) (by decide +kernel), List.mem_of_getElem? (i := 495) (by decide +kernel)⟩
theorem lw_p8 : lw_okq (⟨"LockTable", "gateRefusal", "(I)I"⟩, 10) := ⟨⟨by decide +kernel, by decide +kernel⟩, List.mem_of_getElem? (i := 13) (by decide +kernel), List.mem_of_getElem? (i := 509) (by decide +kernel), List.mem_of_getElem? (i := 510) (by decide +kernel)⟩
theorem lw_p9 : lw_okq (⟨"LockTable$Tape", "parseStatement", "(I)Z"⟩, 8) := ⟨⟨by decide +kernel, by decide +kernel⟩, List.mem_of_getElem? (i := 141) (by decide +kernel), List.mem_of_getElem? (i := 559) (by decide +kernel), List.mem_of_getElem? (i := 560) (by decide +kernel)⟩
theorem lw_p10 : lw_okq (⟨"LockTable$Tape", "peek", "()I"⟩, 8) := ⟨⟨by decide +kernel, by decide +kernel⟩, List.mem_of_getElem? (i := 141) (by decide +kernel), List.mem_of_getElem? (i := 563) (by decide +kernel), List.mem_of_getElem? (i := 564) (by decide +kernel)⟩
theorem lw_p11 : lw_okq (⟨"LockTable$Tape", "parseNumber", "()I"⟩, 8) := ⟨⟨by decide +kernel, by decide +kernel⟩, List.mem_of_getElem? (i := 141) (by decide +kernel), List.mem_of_getElem? (i := 567) (by decide +kernel), List.mem_of_getElem? (i := 568) (by decide +kernel)⟩
theorem lw_p12 : lw_okq (⟨"LockTable$Tape", "parseAsk", "(I)Z"⟩, 8) := ⟨⟨by decide +kernel, by decide +kernel⟩, List.mem_of_getElem? (i := 141) (by decide +kernel), List.mem_of_getElem? (i := 574) (by decide +kernel), List.mem_of_getElem? (i := 575) (by decide +kernel)⟩
theorem lw_p13 : lw_okq (⟨"LockTable$Paper", "putNumber", "(I)V"⟩, 2) := ⟨⟨by decide +kernel, by decide +kernel⟩, List.mem_of_getElem? (i := 175) (by decide +kernel), List.mem_of_getElem? (i := 596) (by decide +kernel), List.mem_of_getElem? (i := 597) (by decide +kernel)⟩
theorem lw_p14 : lw_okq (⟨"LockTable$Paper", "put", "(I)V"⟩, 2) := ⟨⟨by decide +kernel, by decide +kernel⟩, List.mem_of_getElem? (i := 175) (by decide +kernel), List.mem_of_getElem? (i := 601) (by decide +kernel), List.mem_of_getElem? (i := 602) (by decide +kernel)⟩
theorem lw_p15 : lw_okq (⟨"LockTableModel", "isThing", "(I)Z"⟩, 29) := ⟨⟨by decide +kernel, by decide +kernel⟩, List.mem_of_getElem? (i := 664) (by decide +kernel), List.mem_of_getElem? (i := 761) (by decide +kernel), List.mem_of_getElem? (i := 762) (by decide +kernel)⟩
def lw_privs_1 : List (MethodName × Nat) := [(⟨"LockTable$Table", "barring", "(III)I"⟩, 15), (⟨"LockTable$Table", "standingAhead", "(III)I"⟩, 15), (⟨"LockTable$Table", "grant", "(III)V"⟩, 15), (⟨"LockTable$Table", "shiftCounts", "(IIII)V"⟩, 15), (⟨"LockTable$Table", "raiseWaits", "(I)Z"⟩, 15), (⟨"LockTable$Table", "nextToServe", "()I"⟩, 15), (⟨"LockTable$Player", "takeRow", "(LLockTable$Table;I)I"⟩, 4), (⟨"LockTable", "askByLot", "()I"⟩, 10), (⟨"LockTable", "gateRefusal", "(I)I"⟩, 10), (⟨"LockTable$Tape", "parseStatement", "(I)Z"⟩, 8), (⟨"LockTable$Tape", "peek", "()I"⟩, 8), (⟨"LockTable$Tape", "parseNumber", "()I"⟩, 8), (⟨"LockTable$Tape", "parseAsk", "(I)Z"⟩, 8), (⟨"LockTable$Paper", "putNumber", "(I)V"⟩, 2), (⟨"LockTable$Paper", "put", "(I)V"⟩, 2), (⟨"LockTableModel", "isThing", "(I)Z"⟩, 29)]
theorem lw_r1 : ∀ q ∈ lw_privs_1, lw_okq q := List.forall_mem_cons.mpr ⟨lw_p0, List.forall_mem_cons.mpr ⟨lw_p1, List.forall_mem_cons.mpr ⟨lw_p2, List.forall_mem_cons.mpr ⟨lw_p3, List.forall_mem_cons.mpr ⟨lw_p4, List.forall_mem_cons.mpr ⟨lw_p5, List.forall_mem_cons.mpr ⟨lw_p6, List.forall_mem_cons.mpr ⟨lw_p7, List.forall_mem_cons.mpr ⟨lw_p8, List.forall_mem_cons.mpr ⟨lw_p9, List.forall_mem_cons.mpr ⟨lw_p10, List.forall_mem_cons.mpr ⟨lw_p11, List.forall_mem_cons.mpr ⟨lw_p12, List.forall_mem_cons.mpr ⟨lw_p13, List.forall_mem_cons.mpr ⟨lw_p14, List.forall_mem_cons.mpr ⟨lw_p15, fun _ h => absurd h List.not_mem_nil⟩⟩⟩⟩⟩⟩⟩⟩⟩⟩⟩⟩⟩⟩⟩⟩
theorem lw_p16 : lw_okq (⟨"LockTableModel", "wholes", "(I)I"⟩, 29) := ⟨⟨by decide +kernel, by decide +kernel⟩, List.mem_of_getElem? (i := 664) (by decide +kernel), List.mem_of_getElem? (i := 775) (by decide +kernel), List.mem_of_getElem? (i := 776) (by decide +kernel)⟩
theorem lw_p17 : lw_okq (⟨"LockTableModel", "partsOf", "(I)I"⟩, 29) := ⟨⟨by decide +kernel, by decide +kernel⟩, List.mem_of_getElem? (i := 664) (by decide +kernel), List.mem_of_getElem? (i := 779) (by decide +kernel), List.mem_of_getElem? (i := 780) (by decide +kernel)⟩
theorem lw_p18 : lw_okq (⟨"LockTableModel", "countsAt", "(I)I"⟩, 29) := ⟨⟨by decide +kernel, by decide +kernel⟩, List.mem_of_getElem? (i := 664) (by decide +kernel), List.mem_of_getElem? (i := 783) (by decide +kernel), List.mem_of_getElem? (i := 784) (by decide +kernel)⟩
theorem lw_p19 : lw_okq (⟨"LockTableModel", "askers", "(I)I"⟩, 29) := ⟨⟨by decide +kernel, by decide +kernel⟩, List.mem_of_getElem? (i := 664) (by decide +kernel), List.mem_of_getElem? (i := 787) (by decide +kernel), List.mem_of_getElem? (i := 788) (by decide +kernel)⟩
theorem lw_p20 : lw_okq (⟨"LockTableModel", "isAsk", "(III)Z"⟩, 29) := ⟨⟨by decide +kernel, by decide +kernel⟩, List.mem_of_getElem? (i := 664) (by decide +kernel), List.mem_of_getElem? (i := 795) (by decide +kernel), List.mem_of_getElem? (i := 796) (by decide +kernel)⟩
theorem lw_p21 : lw_okq (⟨"LockTableModel", "isInLine", "(I)Z"⟩, 29) := ⟨⟨by decide +kernel, by decide +kernel⟩, List.mem_of_getElem? (i := 664) (by decide +kernel), List.mem_of_getElem? (i := 805) (by decide +kernel), List.mem_of_getElem? (i := 806) (by decide +kernel)⟩
theorem lw_p22 : lw_okq (⟨"LockTableModel", "placeOf", "(I)I"⟩, 29) := ⟨⟨by decide +kernel, by decide +kernel⟩, List.mem_of_getElem? (i := 664) (by decide +kernel), List.mem_of_getElem? (i := 809) (by decide +kernel), List.mem_of_getElem? (i := 810) (by decide +kernel)⟩
theorem lw_p23 : lw_okq (⟨"LockTableModel", "canBe", "(III)Z"⟩, 29) := ⟨⟨by decide +kernel, by decide +kernel⟩, List.mem_of_getElem? (i := 664) (by decide +kernel), List.mem_of_getElem? (i := 813) (by decide +kernel), List.mem_of_getElem? (i := 814) (by decide +kernel)⟩
theorem lw_p24 : lw_okq (⟨"LockTableModel", "barring", "(IIII)I"⟩, 29) := ⟨⟨by decide +kernel, by decide +kernel⟩, List.mem_of_getElem? (i := 664) (by decide +kernel), List.mem_of_getElem? (i := 817) (by decide +kernel), List.mem_of_getElem? (i := 818) (by decide +kernel)⟩
theorem lw_p25 : lw_okq (⟨"LockTableModel", "isBarred", "(III)Z"⟩, 29) := ⟨⟨by decide +kernel, by decide +kernel⟩, List.mem_of_getElem? (i := 664) (by decide +kernel), List.mem_of_getElem? (i := 821) (by decide +kernel), List.mem_of_getElem? (i := 822) (by decide +kernel)⟩
theorem lw_p26 : lw_okq (⟨"LockTableModel", "isBarredAt", "(III)Z"⟩, 29) := ⟨⟨by decide +kernel, by decide +kernel⟩, List.mem_of_getElem? (i := 664) (by decide +kernel), List.mem_of_getElem? (i := 825) (by decide +kernel), List.mem_of_getElem? (i := 826) (by decide +kernel)⟩
theorem lw_p27 : lw_okq (⟨"LockTableModel", "isRaise", "(II)Z"⟩, 29) := ⟨⟨by decide +kernel, by decide +kernel⟩, List.mem_of_getElem? (i := 664) (by decide +kernel), List.mem_of_getElem? (i := 841) (by decide +kernel), List.mem_of_getElem? (i := 842) (by decide +kernel)⟩
theorem lw_p28 : lw_okq (⟨"LockTableModel", "grants", "(III)V"⟩, 29) := ⟨⟨by decide +kernel, by decide +kernel⟩, List.mem_of_getElem? (i := 664) (by decide +kernel), List.mem_of_getElem? (i := 845) (by decide +kernel), List.mem_of_getElem? (i := 846) (by decide +kernel)⟩
theorem lw_p29 : lw_okq (⟨"LockTableModel", "changes", "(IIII)V"⟩, 29) := ⟨⟨by decide +kernel, by decide +kernel⟩, List.mem_of_getElem? (i := 664) (by decide +kernel), List.mem_of_getElem? (i := 849) (by decide +kernel), List.mem_of_getElem? (i := 850) (by decide +kernel)⟩
theorem lw_p30 : lw_okq (⟨"LockTableModel", "isOtherRaise", "(II)Z"⟩, 29) := ⟨⟨by decide +kernel, by decide +kernel⟩, List.mem_of_getElem? (i := 664) (by decide +kernel), List.mem_of_getElem? (i := 853) (by decide +kernel), List.mem_of_getElem? (i := 854) (by decide +kernel)⟩
theorem lw_p31 : lw_okq (⟨"LockTableModel", "serves", "()I"⟩, 29) := ⟨⟨by decide +kernel, by decide +kernel⟩, List.mem_of_getElem? (i := 664) (by decide +kernel), List.mem_of_getElem? (i := 861) (by decide +kernel), List.mem_of_getElem? (i := 862) (by decide +kernel)⟩
def lw_privs_2 : List (MethodName × Nat) := [(⟨"LockTableModel", "wholes", "(I)I"⟩, 29), (⟨"LockTableModel", "partsOf", "(I)I"⟩, 29), (⟨"LockTableModel", "countsAt", "(I)I"⟩, 29), (⟨"LockTableModel", "askers", "(I)I"⟩, 29), (⟨"LockTableModel", "isAsk", "(III)Z"⟩, 29), (⟨"LockTableModel", "isInLine", "(I)Z"⟩, 29), (⟨"LockTableModel", "placeOf", "(I)I"⟩, 29), (⟨"LockTableModel", "canBe", "(III)Z"⟩, 29), (⟨"LockTableModel", "barring", "(IIII)I"⟩, 29), (⟨"LockTableModel", "isBarred", "(III)Z"⟩, 29), (⟨"LockTableModel", "isBarredAt", "(III)Z"⟩, 29), (⟨"LockTableModel", "isRaise", "(II)Z"⟩, 29), (⟨"LockTableModel", "grants", "(III)V"⟩, 29), (⟨"LockTableModel", "changes", "(IIII)V"⟩, 29), (⟨"LockTableModel", "isOtherRaise", "(II)Z"⟩, 29), (⟨"LockTableModel", "serves", "()I"⟩, 29)]
theorem lw_r2 : ∀ q ∈ lw_privs_2, lw_okq q := List.forall_mem_cons.mpr ⟨lw_p16, List.forall_mem_cons.mpr ⟨lw_p17, List.forall_mem_cons.mpr ⟨lw_p18, List.forall_mem_cons.mpr ⟨lw_p19, List.forall_mem_cons.mpr ⟨lw_p20, List.forall_mem_cons.mpr ⟨lw_p21, List.forall_mem_cons.mpr ⟨lw_p22, List.forall_mem_cons.mpr ⟨lw_p23, List.forall_mem_cons.mpr ⟨lw_p24, List.forall_mem_cons.mpr ⟨lw_p25, List.forall_mem_cons.mpr ⟨lw_p26, List.forall_mem_cons.mpr ⟨lw_p27, List.forall_mem_cons.mpr ⟨lw_p28, List.forall_mem_cons.mpr ⟨lw_p29, List.forall_mem_cons.mpr ⟨lw_p30, List.forall_mem_cons.mpr ⟨lw_p31, fun _ h => absurd h List.not_mem_nil⟩⟩⟩⟩⟩⟩⟩⟩⟩⟩⟩⟩⟩⟩⟩⟩
theorem lw_p32 : lw_okq (⟨"LockTableModel", "nextServed", "()I"⟩, 29) := ⟨⟨by decide +kernel, by decide +kernel⟩, List.mem_of_getElem? (i := 664) (by decide +kernel), List.mem_of_getElem? (i := 865) (by decide +kernel), List.mem_of_getElem? (i := 866) (by decide +kernel)⟩
theorem lw_p33 : lw_okq (⟨"LockTableModel", "barringAt", "(I)I"⟩, 29) := ⟨⟨by decide +kernel, by decide +kernel⟩, List.mem_of_getElem? (i := 664) (by decide +kernel), List.mem_of_getElem? (i := 869) (by decide +kernel), List.mem_of_getElem? (i := 870) (by decide +kernel)⟩
theorem lw_p34 : lw_okq (⟨"LockTableModel", "leavesLine", "(I)V"⟩, 29) := ⟨⟨by decide +kernel, by decide +kernel⟩, List.mem_of_getElem? (i := 664) (by decide +kernel), List.mem_of_getElem? (i := 873) (by decide +kernel), List.mem_of_getElem? (i := 874) (by decide +kernel)⟩
theorem lw_p35 : lw_okq (⟨"LockTableModel", "leavesAll", "(I)I"⟩, 29) := ⟨⟨by decide +kernel, by decide +kernel⟩, List.mem_of_getElem? (i := 664) (by decide +kernel), List.mem_of_getElem? (i := 881) (by decide +kernel), List.mem_of_getElem? (i := 882) (by decide +kernel)⟩
theorem lw_p36 : lw_okq (⟨"LockTableModel", "emptiesOwner", "(I)V"⟩, 29) := ⟨⟨by decide +kernel, by decide +kernel⟩, List.mem_of_getElem? (i := 664) (by decide +kernel), List.mem_of_getElem? (i := 885) (by decide +kernel), List.mem_of_getElem? (i := 886) (by decide +kernel)⟩
theorem lw_p37 : lw_okq (⟨"LockTableModel", "ringNow", "()I"⟩, 29) := ⟨⟨by decide +kernel, by decide +kernel⟩, List.mem_of_getElem? (i := 664) (by decide +kernel), List.mem_of_getElem? (i := 897) (by decide +kernel), List.mem_of_getElem? (i := 898) (by decide +kernel)⟩
theorem lw_p38 : lw_okq (⟨"LockTableModel", "comesTo", "(I)I"⟩, 29) := ⟨⟨by decide +kernel, by decide +kernel⟩, List.mem_of_getElem? (i := 664) (by decide +kernel), List.mem_of_getElem? (i := 901) (by decide +kernel), List.mem_of_getElem? (i := 902) (by decide +kernel)⟩
theorem lw_p39 : lw_okq (⟨"LockTableModel", "waitsForNow", "(I)I"⟩, 29) := ⟨⟨by decide +kernel, by decide +kernel⟩, List.mem_of_getElem? (i := 664) (by decide +kernel), List.mem_of_getElem? (i := 905) (by decide +kernel), List.mem_of_getElem? (i := 906) (by decide +kernel)⟩
theorem lw_p40 : lw_okq (⟨"LockTableModel", "leastOf", "(I)I"⟩, 29) := ⟨⟨by decide +kernel, by decide +kernel⟩, List.mem_of_getElem? (i := 664) (by decide +kernel), List.mem_of_getElem? (i := 909) (by decide +kernel), List.mem_of_getElem? (i := 910) (by decide +kernel)⟩
theorem lw_p41 : lw_okq (⟨"LockTableModel", "countsOf", "(I)I"⟩, 29) := ⟨⟨by decide +kernel, by decide +kernel⟩, List.mem_of_getElem? (i := 664) (by decide +kernel), List.mem_of_getElem? (i := 913) (by decide +kernel), List.mem_of_getElem? (i := 914) (by decide +kernel)⟩
theorem lw_p42 : lw_okq (⟨"LockTableModel", "allCounts", "()I"⟩, 29) := ⟨⟨by decide +kernel, by decide +kernel⟩, List.mem_of_getElem? (i := 664) (by decide +kernel), List.mem_of_getElem? (i := 945) (by decide +kernel), List.mem_of_getElem? (i := 946) (by decide +kernel)⟩
theorem lw_p43 : lw_okq (⟨"LockTableModel", "laysAside", "()V"⟩, 29) := ⟨⟨by decide +kernel, by decide +kernel⟩, List.mem_of_getElem? (i := 664) (by decide +kernel), List.mem_of_getElem? (i := 953) (by decide +kernel), List.mem_of_getElem? (i := 954) (by decide +kernel)⟩
theorem lw_p44 : lw_okq (⟨"LockTableModel", "laysBack", "()V"⟩, 29) := ⟨⟨by decide +kernel, by decide +kernel⟩, List.mem_of_getElem? (i := 664) (by decide +kernel), List.mem_of_getElem? (i := 960) (by decide +kernel), List.mem_of_getElem? (i := 961) (by decide +kernel)⟩
theorem lw_p45 : lw_okq (⟨"LockTableModel", "couldBe", "(IIII)Z"⟩, 29) := ⟨⟨by decide +kernel, by decide +kernel⟩, List.mem_of_getElem? (i := 664) (by decide +kernel), List.mem_of_getElem? (i := 971) (by decide +kernel), List.mem_of_getElem? (i := 972) (by decide +kernel)⟩
theorem lw_p46 : lw_okq (⟨"LockTableModel", "rowFrom", "(II)I"⟩, 29) := ⟨⟨by decide +kernel, by decide +kernel⟩, List.mem_of_getElem? (i := 664) (by decide +kernel), List.mem_of_getElem? (i := 987) (by decide +kernel), List.mem_of_getElem? (i := 988) (by decide +kernel)⟩
theorem lw_p47 : lw_okq (⟨"LockTableModel", "round", "()V"⟩, 29) := ⟨⟨by decide +kernel, by decide +kernel⟩, List.mem_of_getElem? (i := 664) (by decide +kernel), List.mem_of_getElem? (i := 991) (by decide +kernel), List.mem_of_getElem? (i := 992) (by decide +kernel)⟩
def lw_privs_3 : List (MethodName × Nat) := [(⟨"LockTableModel", "nextServed", "()I"⟩, 29), (⟨"LockTableModel", "barringAt", "(I)I"⟩, 29), (⟨"LockTableModel", "leavesLine", "(I)V"⟩, 29), (⟨"LockTableModel", "leavesAll", "(I)I"⟩, 29), (⟨"LockTableModel", "emptiesOwner", "(I)V"⟩, 29), (⟨"LockTableModel", "ringNow", "()I"⟩, 29), (⟨"LockTableModel", "comesTo", "(I)I"⟩, 29), (⟨"LockTableModel", "waitsForNow", "(I)I"⟩, 29), (⟨"LockTableModel", "leastOf", "(I)I"⟩, 29), (⟨"LockTableModel", "countsOf", "(I)I"⟩, 29), (⟨"LockTableModel", "allCounts", "()I"⟩, 29), (⟨"LockTableModel", "laysAside", "()V"⟩, 29), (⟨"LockTableModel", "laysBack", "()V"⟩, 29), (⟨"LockTableModel", "couldBe", "(IIII)Z"⟩, 29), (⟨"LockTableModel", "rowFrom", "(II)I"⟩, 29), (⟨"LockTableModel", "round", "()V"⟩, 29)]
theorem lw_r3 : ∀ q ∈ lw_privs_3, lw_okq q := List.forall_mem_cons.mpr ⟨lw_p32, List.forall_mem_cons.mpr ⟨lw_p33, List.forall_mem_cons.mpr ⟨lw_p34, List.forall_mem_cons.mpr ⟨lw_p35, List.forall_mem_cons.mpr ⟨lw_p36, List.forall_mem_cons.mpr ⟨lw_p37, List.forall_mem_cons.mpr ⟨lw_p38, List.forall_mem_cons.mpr ⟨lw_p39, List.forall_mem_cons.mpr ⟨lw_p40, List.forall_mem_cons.mpr ⟨lw_p41, List.forall_mem_cons.mpr ⟨lw_p42, List.forall_mem_cons.mpr ⟨lw_p43, List.forall_mem_cons.mpr ⟨lw_p44, List.forall_mem_cons.mpr ⟨lw_p45, List.forall_mem_cons.mpr ⟨lw_p46, List.forall_mem_cons.mpr ⟨lw_p47, fun _ h => absurd h List.not_mem_nil⟩⟩⟩⟩⟩⟩⟩⟩⟩⟩⟩⟩⟩⟩⟩⟩
theorem lw_p48 : lw_okq (⟨"LockTableModel", "goesOn", "(I)V"⟩, 29) := ⟨⟨by decide +kernel, by decide +kernel⟩, List.mem_of_getElem? (i := 664) (by decide +kernel), List.mem_of_getElem? (i := 995) (by decide +kernel), List.mem_of_getElem? (i := 996) (by decide +kernel)⟩
theorem lw_p49 : lw_okq (⟨"LockTableModel", "draw", "(I)I"⟩, 29) := ⟨⟨by decide +kernel, by decide +kernel⟩, List.mem_of_getElem? (i := 664) (by decide +kernel), List.mem_of_getElem? (i := 1004) (by decide +kernel), List.mem_of_getElem? (i := 1005) (by decide +kernel)⟩
theorem lw_p50 : lw_okq (⟨"LockTableModel", "isBare", "(I)Z"⟩, 29) := ⟨⟨by decide +kernel, by decide +kernel⟩, List.mem_of_getElem? (i := 664) (by decide +kernel), List.mem_of_getElem? (i := 1018) (by decide +kernel), List.mem_of_getElem? (i := 1019) (by decide +kernel)⟩
theorem lw_p51 : lw_okq (⟨"LockTableModel", "goesInto", "(I)V"⟩, 29) := ⟨⟨by decide +kernel, by decide +kernel⟩, List.mem_of_getElem? (i := 664) (by decide +kernel), List.mem_of_getElem? (i := 1022) (by decide +kernel), List.mem_of_getElem? (i := 1023) (by decide +kernel)⟩
theorem lw_p52 : lw_okq (⟨"LockTableModel", "weighsFrom", "(II)I"⟩, 29) := ⟨⟨by decide +kernel, by decide +kernel⟩, List.mem_of_getElem? (i := 664) (by decide +kernel), List.mem_of_getElem? (i := 1027) (by decide +kernel), List.mem_of_getElem? (i := 1028) (by decide +kernel)⟩
theorem lw_p53 : lw_okq (⟨"LockTableModel", "goesThrough", "(Z)I"⟩, 29) := ⟨⟨by decide +kernel, by decide +kernel⟩, List.mem_of_getElem? (i := 664) (by decide +kernel), List.mem_of_getElem? (i := 1051) (by decide +kernel), List.mem_of_getElem? (i := 1052) (by decide +kernel)⟩
theorem lw_p54 : lw_okq (⟨"LockTableModel", "statement", "()V"⟩, 29) := ⟨⟨by decide +kernel, by decide +kernel⟩, List.mem_of_getElem? (i := 664) (by decide +kernel), List.mem_of_getElem? (i := 1055) (by decide +kernel), List.mem_of_getElem? (i := 1056) (by decide +kernel)⟩
theorem lw_p55 : lw_okq (⟨"LockTableModel", "here", "()I"⟩, 29) := ⟨⟨by decide +kernel, by decide +kernel⟩, List.mem_of_getElem? (i := 664) (by decide +kernel), List.mem_of_getElem? (i := 1059) (by decide +kernel), List.mem_of_getElem? (i := 1060) (by decide +kernel)⟩
theorem lw_p56 : lw_okq (⟨"LockTableModel", "asking", "()V"⟩, 29) := ⟨⟨by decide +kernel, by decide +kernel⟩, List.mem_of_getElem? (i := 664) (by decide +kernel), List.mem_of_getElem? (i := 1063) (by decide +kernel), List.mem_of_getElem? (i := 1064) (by decide +kernel)⟩
theorem lw_p57 : lw_okq (⟨"LockTableModel", "number", "()V"⟩, 29) := ⟨⟨by decide +kernel, by decide +kernel⟩, List.mem_of_getElem? (i := 664) (by decide +kernel), List.mem_of_getElem? (i := 1070) (by decide +kernel), List.mem_of_getElem? (i := 1071) (by decide +kernel)⟩
theorem lw_p58 : lw_okq (⟨"LockTableModel", "does", "()I"⟩, 29) := ⟨⟨by decide +kernel, by decide +kernel⟩, List.mem_of_getElem? (i := 664) (by decide +kernel), List.mem_of_getElem? (i := 1074) (by decide +kernel), List.mem_of_getElem? (i := 1075) (by decide +kernel)⟩
theorem lw_p59 : lw_okq (⟨"LockTableModel", "modeTold", "()I"⟩, 29) := ⟨⟨by decide +kernel, by decide +kernel⟩, List.mem_of_getElem? (i := 664) (by decide +kernel), List.mem_of_getElem? (i := 1079) (by decide +kernel), List.mem_of_getElem? (i := 1080) (by decide +kernel)⟩
theorem lw_p60 : lw_okq (⟨"LockTableModel", "writesHold", "(IIII)V"⟩, 29) := ⟨⟨by decide +kernel, by decide +kernel⟩, List.mem_of_getElem? (i := 664) (by decide +kernel), List.mem_of_getElem? (i := 1088) (by decide +kernel), List.mem_of_getElem? (i := 1089) (by decide +kernel)⟩
theorem lw_p61 : lw_okq (⟨"LockTableModel", "writesNumber", "(I)V"⟩, 29) := ⟨⟨by decide +kernel, by decide +kernel⟩, List.mem_of_getElem? (i := 664) (by decide +kernel), List.mem_of_getElem? (i := 1092) (by decide +kernel), List.mem_of_getElem? (i := 1093) (by decide +kernel)⟩
theorem lw_p62 : lw_okq (⟨"LockTableModel", "writes", "(I)V"⟩, 29) := ⟨⟨by decide +kernel, by decide +kernel⟩, List.mem_of_getElem? (i := 664) (by decide +kernel), List.mem_of_getElem? (i := 1096) (by decide +kernel), List.mem_of_getElem? (i := 1097) (by decide +kernel)⟩
def lw_privs_4 : List (MethodName × Nat) := [(⟨"LockTableModel", "goesOn", "(I)V"⟩, 29), (⟨"LockTableModel", "draw", "(I)I"⟩, 29), (⟨"LockTableModel", "isBare", "(I)Z"⟩, 29), (⟨"LockTableModel", "goesInto", "(I)V"⟩, 29), (⟨"LockTableModel", "weighsFrom", "(II)I"⟩, 29), (⟨"LockTableModel", "goesThrough", "(Z)I"⟩, 29), (⟨"LockTableModel", "statement", "()V"⟩, 29), (⟨"LockTableModel", "here", "()I"⟩, 29), (⟨"LockTableModel", "asking", "()V"⟩, 29), (⟨"LockTableModel", "number", "()V"⟩, 29), (⟨"LockTableModel", "does", "()I"⟩, 29), (⟨"LockTableModel", "modeTold", "()I"⟩, 29), (⟨"LockTableModel", "writesHold", "(IIII)V"⟩, 29), (⟨"LockTableModel", "writesNumber", "(I)V"⟩, 29), (⟨"LockTableModel", "writes", "(I)V"⟩, 29)]
theorem lw_r4 : ∀ q ∈ lw_privs_4, lw_okq q := List.forall_mem_cons.mpr ⟨lw_p48, List.forall_mem_cons.mpr ⟨lw_p49, List.forall_mem_cons.mpr ⟨lw_p50, List.forall_mem_cons.mpr ⟨lw_p51, List.forall_mem_cons.mpr ⟨lw_p52, List.forall_mem_cons.mpr ⟨lw_p53, List.forall_mem_cons.mpr ⟨lw_p54, List.forall_mem_cons.mpr ⟨lw_p55, List.forall_mem_cons.mpr ⟨lw_p56, List.forall_mem_cons.mpr ⟨lw_p57, List.forall_mem_cons.mpr ⟨lw_p58, List.forall_mem_cons.mpr ⟨lw_p59, List.forall_mem_cons.mpr ⟨lw_p60, List.forall_mem_cons.mpr ⟨lw_p61, List.forall_mem_cons.mpr ⟨lw_p62, fun _ h => absurd h List.not_mem_nil⟩⟩⟩⟩⟩⟩⟩⟩⟩⟩⟩⟩⟩⟩⟩
def lw_privs : List (MethodName × Nat) := lw_privs_1 ++ (lw_privs_2 ++ (lw_privs_3 ++ (lw_privs_4)))
def lw_tbl : List Cond := k2_sels lw_privs ++ tables_1
theorem lw_privs_ok : ∀ q ∈ lw_privs, lw_okq q := by
  show ∀ q ∈ lw_privs_1 ++ (lw_privs_2 ++ (lw_privs_3 ++ (lw_privs_4))), lw_okq q
  exact List.forall_mem_append.mpr ⟨lw_r1, List.forall_mem_append.mpr ⟨lw_r2, List.forall_mem_append.mpr ⟨lw_r3, lw_r4⟩⟩⟩
def RX0 : String := "LockTable$Gates"
def TX0 : u_T := fun k => match k with
  | 0 => ("LockTable$Gates", "entries", "[I", true)
  | 1 => ("LockTable$Gates", "deepest", "[I", true)
  | _ => ("LockTable$Gates", "inside", "[I", true)
def tyX0 : Nat → FieldType := fun k => match k with
  | 0 => .array .int
  | 1 => .array .int
  | _ => .array .int
abbrev wsX00 : List Cond := u_ws RX0 TX0 3
theorem nmX0 : ∀ a, a < 3 → ∀ b, b < 3 → a ≠ b → (TX0 a).2.1 ≠ (TX0 b).2.1 := by decide +kernel
theorem tyX0_ok : ∀ k, k < 3 → parseFieldDescriptor (TX0 k).2.2.1 = some (tyX0 k) := by decide +kernel
abbrev cX0_init : ByteArray := prog_2_method_1_code
def yX0_init : MethodName := ⟨RX0, "<init>", "()V"⟩
abbrev cX0_enter : ByteArray := prog_2_method_2_code
def yX0_enter : MethodName := ⟨RX0, "enter", "(I)V"⟩
abbrev cX0_leave : ByteArray := prog_2_method_3_code
def yX0_leave : MethodName := ⟨RX0, "leave", "(I)V"⟩
abbrev cX0_closeFrom : ByteArray := prog_2_method_4_code
def yX0_closeFrom : MethodName := ⟨RX0, "closeFrom", "(I)V"⟩
def RX1 : String := "LockTable$Lists"
def TX1 : u_T := fun k => match k with
  | 0 => ("LockTable$Lists", "cells", "[I", true)
  | _ => ("LockTable$Lists", "sizes", "[I", true)
def tyX1 : Nat → FieldType := fun k => match k with
  | 0 => .array .int
  | _ => .array .int
abbrev wsX10 : List Cond := u_ws RX1 TX1 2
theorem nmX1 : ∀ a, a < 2 → ∀ b, b < 2 → a ≠ b → (TX1 a).2.1 ≠ (TX1 b).2.1 := by decide +kernel
theorem tyX1_ok : ∀ k, k < 2 → parseFieldDescriptor (TX1 k).2.2.1 = some (tyX1 k) := by decide +kernel
abbrev cX1_init : ByteArray := prog_3_method_1_code
def yX1_init : MethodName := ⟨RX1, "<init>", "()V"⟩
abbrev cX1_isList : ByteArray := prog_3_method_2_code
def yX1_isList : MethodName := ⟨RX1, "isList", "(I)Z"⟩
abbrev cX1_cell : ByteArray := prog_3_method_3_code
def yX1_cell : MethodName := ⟨RX1, "cell", "(II)I"⟩
abbrev cX1_holdsRow : ByteArray := prog_3_method_4_code
def yX1_holdsRow : MethodName := ⟨RX1, "holdsRow", "(I)Z"⟩
abbrev cX1_hasPlace : ByteArray := prog_3_method_5_code
def yX1_hasPlace : MethodName := ⟨RX1, "hasPlace", "(II)Z"⟩
abbrev cX1_make : ByteArray := prog_3_method_6_code
def yX1_make : MethodName := ⟨RX1, "make", "(II)V"⟩
def RX2 : String := "LockTable$Lot"
def TX2 : u_T := fun k => match k with
  | _ => ("LockTable$Lot", "seed", "I", false)
def tyX2 : Nat → FieldType := fun k => match k with
  | _ => .int
abbrev wsX20 : List Cond := u_ws RX2 TX2 1
theorem nmX2 : ∀ a, a < 1 → ∀ b, b < 1 → a ≠ b → (TX2 a).2.1 ≠ (TX2 b).2.1 := by decide +kernel
theorem tyX2_ok : ∀ k, k < 1 → parseFieldDescriptor (TX2 k).2.2.1 = some (tyX2 k) := by decide +kernel
abbrev cX2_init : ByteArray := prog_4_method_1_code
def yX2_init : MethodName := ⟨RX2, "<init>", "()V"⟩
abbrev cX2_below : ByteArray := prog_4_method_2_code
def yX2_below : MethodName := ⟨RX2, "below", "(I)I"⟩
def RX3 : String := "LockTable$Paper"
def TX3 : u_T := fun k => match k with
  | 0 => ("LockTable$Paper", "length", "I", false)
  | _ => ("LockTable$Paper", "bytes", "[B", true)
def tyX3 : Nat → FieldType := fun k => match k with
  | 0 => .int
  | _ => .array .byte
abbrev wsX30 : List Cond := u_ws RX3 TX3 2
theorem nmX3 : ∀ a, a < 2 → ∀ b, b < 2 → a ≠ b → (TX3 a).2.1 ≠ (TX3 b).2.1 := by decide +kernel
theorem tyX3_ok : ∀ k, k < 2 → parseFieldDescriptor (TX3 k).2.2.1 = some (tyX3 k) := by decide +kernel
abbrev cX3_init : ByteArray := prog_5_method_1_code
def yX3_init : MethodName := ⟨RX3, "<init>", "()V"⟩
abbrev cX3_putHold : ByteArray := prog_5_method_2_code
def yX3_putHold : MethodName := ⟨RX3, "putHold", "(IIII)V"⟩
abbrev cX3_letterOf : ByteArray := prog_5_method_3_code
def yX3_letterOf : MethodName := ⟨RX3, "letterOf", "(I)I"⟩
abbrev cX3_putNumber : ByteArray := prog_5_method_4_code
def yX3_putNumber : MethodName := ⟨RX3, "putNumber", "(I)V"⟩
abbrev cX3_put : ByteArray := prog_5_method_5_code
def yX3_put : MethodName := ⟨RX3, "put", "(I)V"⟩
def RX4 : String := "LockTable$Player"
def TX4 : u_T := fun k => match k with
  | 0 => ("LockTable$Player", "nextRow", "[I", true)
  | 1 => ("LockTable$Player", "onWay", "I", false)
  | 2 => ("LockTable$Player", "rounds", "I", false)
  | _ => ("LockTable$Player", "broken", "I", false)
def tyX4 : Nat → FieldType := fun k => match k with
  | 0 => .array .int
  | 1 => .int
  | 2 => .int
  | _ => .int
abbrev wsX40 : List Cond := u_ws RX4 TX4 4
theorem nmX4 : ∀ a, a < 4 → ∀ b, b < 4 → a ≠ b → (TX4 a).2.1 ≠ (TX4 b).2.1 := by decide +kernel
theorem tyX4_ok : ∀ k, k < 4 → parseFieldDescriptor (TX4 k).2.2.1 = some (tyX4 k) := by decide +kernel
abbrev cX4_init : ByteArray := prog_6_method_1_code
def yX4_init : MethodName := ⟨RX4, "<init>", "()V"⟩
abbrev cX4_start : ByteArray := prog_6_method_2_code
def yX4_start : MethodName := ⟨RX4, "start", "(LLockTable$Table;)V"⟩
abbrev cX4_playRound : ByteArray := prog_6_method_3_code
def yX4_playRound : MethodName := ⟨RX4, "playRound", "(LLockTable$Table;)V"⟩
abbrev cX4_takeRow : ByteArray := prog_6_method_4_code
def yX4_takeRow : MethodName := ⟨RX4, "takeRow", "(LLockTable$Table;I)I"⟩
def RX5 : String := "LockTable$Table"
def TX5 : u_T := fun k => match k with
  | 0 => ("LockTable$Table", "things", "I", false)
  | 1 => ("LockTable$Table", "whole", "[I", true)
  | 2 => ("LockTable$Table", "bare", "[I", true)
  | 3 => ("LockTable$Table", "counts", "[I", true)
  | 4 => ("LockTable$Table", "holding", "[I", true)
  | 5 => ("LockTable$Table", "waiting", "I", false)
  | 6 => ("LockTable$Table", "line", "[I", true)
  | 7 => ("LockTable$Table", "askThing", "[I", true)
  | 8 => ("LockTable$Table", "askMode", "[I", true)
  | 9 => ("LockTable$Table", "rows", "I", false)
  | 10 => ("LockTable$Table", "rowOwner", "[I", true)
  | 11 => ("LockTable$Table", "rowThing", "[I", true)
  | 12 => ("LockTable$Table", "rowMode", "[I", true)
  | 13 => ("LockTable$Table", "grants", "I", false)
  | _ => ("LockTable$Table", "reach", "[I", true)
def tyX5 : Nat → FieldType := fun k => match k with
  | 0 => .int
  | 1 => .array .int
  | 2 => .array .int
  | 3 => .array .int
  | 4 => .array .int
  | 5 => .int
  | 6 => .array .int
  | 7 => .array .int
  | 8 => .array .int
  | 9 => .int
  | 10 => .array .int
  | 11 => .array .int
  | 12 => .array .int
  | 13 => .int
  | _ => .array .int
abbrev wsX50 : List Cond := u_ws RX5 TX5 15
theorem nmX5 : ∀ a, a < 15 → ∀ b, b < 15 → a ≠ b → (TX5 a).2.1 ≠ (TX5 b).2.1 := by decide +kernel
theorem tyX5_ok : ∀ k, k < 15 → parseFieldDescriptor (TX5 k).2.2.1 = some (tyX5 k) := by decide +kernel
abbrev cX5_init : ByteArray := prog_7_method_1_code
def yX5_init : MethodName := ⟨RX5, "<init>", "()V"⟩
abbrev cX5_copyFrom : ByteArray := prog_7_method_2_code
def yX5_copyFrom : MethodName := ⟨RX5, "copyFrom", "(LLockTable$Table;)V"⟩
abbrev cX5_cell : ByteArray := prog_7_method_3_code
def yX5_cell : MethodName := ⟨RX5, "cell", "(III)I"⟩
abbrev cX5_row : ByteArray := prog_7_method_4_code
def yX5_row : MethodName := ⟨RX5, "row", "(II)I"⟩
abbrev cX5_isThing : ByteArray := prog_7_method_5_code
def yX5_isThing : MethodName := ⟨RX5, "isThing", "(I)Z"⟩
abbrev cX5_isBare : ByteArray := prog_7_method_6_code
def yX5_isBare : MethodName := ⟨RX5, "isBare", "(I)Z"⟩
abbrev cX5_isAsk : ByteArray := prog_7_method_7_code
def yX5_isAsk : MethodName := ⟨RX5, "isAsk", "(III)Z"⟩
abbrev cX5_isWaiting : ByteArray := prog_7_method_8_code
def yX5_isWaiting : MethodName := ⟨RX5, "isWaiting", "(I)Z"⟩
abbrev cX5_addThing : ByteArray := prog_7_method_9_code
def yX5_addThing : MethodName := ⟨RX5, "addThing", "(II)I"⟩
abbrev cX5_wholesAbove : ByteArray := prog_7_method_10_code
def yX5_wholesAbove : MethodName := ⟨RX5, "wholesAbove", "(I)I"⟩
abbrev cX5_partBits : ByteArray := prog_7_method_11_code
def yX5_partBits : MethodName := ⟨RX5, "partBits", "(I)I"⟩
abbrev cX5_countsAt : ByteArray := prog_7_method_12_code
def yX5_countsAt : MethodName := ⟨RX5, "countsAt", "(I)I"⟩
abbrev cX5_allCounts : ByteArray := prog_7_method_13_code
def yX5_allCounts : MethodName := ⟨RX5, "allCounts", "()I"⟩
abbrev cX5_asksFor : ByteArray := prog_7_method_14_code
def yX5_asksFor : MethodName := ⟨RX5, "asksFor", "(I)I"⟩
abbrev cX5_holdersInAny : ByteArray := prog_7_method_15_code
def yX5_holdersInAny : MethodName := ⟨RX5, "holdersInAny", "(I)I"⟩
abbrev cX5_isRaise : ByteArray := prog_7_method_16_code
def yX5_isRaise : MethodName := ⟨RX5, "isRaise", "(II)Z"⟩
abbrev cX5_hindrances : ByteArray := prog_7_method_17_code
def yX5_hindrances : MethodName := ⟨RX5, "hindrances", "(III)I"⟩
abbrev cX5_barring : ByteArray := prog_7_method_18_code
def yX5_barring : MethodName := ⟨RX5, "barring", "(III)I"⟩
abbrev cX5_standingAhead : ByteArray := prog_7_method_19_code
def yX5_standingAhead : MethodName := ⟨RX5, "standingAhead", "(III)I"⟩
abbrev cX5_request : ByteArray := prog_7_method_20_code
def yX5_request : MethodName := ⟨RX5, "request", "(III)I"⟩
abbrev cX5_raiseWaits : ByteArray := prog_7_method_21_code
def yX5_raiseWaits : MethodName := ⟨RX5, "raiseWaits", "(I)Z"⟩
abbrev cX5_giveUp : ByteArray := prog_7_method_22_code
def yX5_giveUp : MethodName := ⟨RX5, "giveUp", "(III)I"⟩
abbrev cX5_giveUpAll : ByteArray := prog_7_method_23_code
def yX5_giveUpAll : MethodName := ⟨RX5, "giveUpAll", "(I)I"⟩
abbrev cX5_grant : ByteArray := prog_7_method_24_code
def yX5_grant : MethodName := ⟨RX5, "grant", "(III)V"⟩
abbrev cX5_shiftCounts : ByteArray := prog_7_method_25_code
def yX5_shiftCounts : MethodName := ⟨RX5, "shiftCounts", "(IIII)V"⟩
abbrev cX5_joinLine : ByteArray := prog_7_method_26_code
def yX5_joinLine : MethodName := ⟨RX5, "joinLine", "(III)V"⟩
abbrev cX5_quitLine : ByteArray := prog_7_method_27_code
def yX5_quitLine : MethodName := ⟨RX5, "quitLine", "(I)V"⟩
abbrev cX5_serve : ByteArray := prog_7_method_28_code
def yX5_serve : MethodName := ⟨RX5, "serve", "()I"⟩
abbrev cX5_nextToServe : ByteArray := prog_7_method_29_code
def yX5_nextToServe : MethodName := ⟨RX5, "nextToServe", "()I"⟩
abbrev cX5_waitsForBits : ByteArray := prog_7_method_30_code
def yX5_waitsForBits : MethodName := ⟨RX5, "waitsForBits", "(I)I"⟩
abbrev cX5_ringBits : ByteArray := prog_7_method_31_code
def yX5_ringBits : MethodName := ⟨RX5, "ringBits", "()I"⟩
abbrev cX5_leastOf : ByteArray := prog_7_method_32_code
def yX5_leastOf : MethodName := ⟨RX5, "leastOf", "(I)I"⟩
abbrev cX5_askedCounts : ByteArray := prog_7_method_33_code
def yX5_askedCounts : MethodName := ⟨RX5, "askedCounts", "(I)I"⟩
abbrev cX5_addRow : ByteArray := prog_7_method_34_code
def yX5_addRow : MethodName := ⟨RX5, "addRow", "(III)I"⟩
def RX6 : String := "LockTable$Tape"
def TX6 : u_T := fun k => match k with
  | 0 => ("LockTable$Tape", "length", "I", false)
  | 1 => ("LockTable$Tape", "bytes", "[B", true)
  | 2 => ("LockTable$Tape", "at", "I", false)
  | 3 => ("LockTable$Tape", "start", "[I", true)
  | 4 => ("LockTable$Tape", "kind", "[I", true)
  | 5 => ("LockTable$Tape", "mode", "[I", true)
  | 6 => ("LockTable$Tape", "owner", "[I", true)
  | _ => ("LockTable$Tape", "number", "[I", true)
def tyX6 : Nat → FieldType := fun k => match k with
  | 0 => .int
  | 1 => .array .byte
  | 2 => .int
  | 3 => .array .int
  | 4 => .array .int
  | 5 => .array .int
  | 6 => .array .int
  | _ => .array .int
abbrev wsX60 : List Cond := u_ws RX6 TX6 8
theorem nmX6 : ∀ a, a < 8 → ∀ b, b < 8 → a ≠ b → (TX6 a).2.1 ≠ (TX6 b).2.1 := by decide +kernel
theorem tyX6_ok : ∀ k, k < 8 → parseFieldDescriptor (TX6 k).2.2.1 = some (tyX6 k) := by decide +kernel
abbrev cX6_init : ByteArray := prog_8_method_1_code
def yX6_init : MethodName := ⟨RX6, "<init>", "()V"⟩
abbrev cX6_append : ByteArray := prog_8_method_2_code
def yX6_append : MethodName := ⟨RX6, "append", "(I)V"⟩
abbrev cX6_parse : ByteArray := prog_8_method_3_code
def yX6_parse : MethodName := ⟨RX6, "parse", "()I"⟩
abbrev cX6_peek : ByteArray := prog_8_method_4_code
def yX6_peek : MethodName := ⟨RX6, "peek", "()I"⟩
abbrev cX6_parseStatement : ByteArray := prog_8_method_5_code
def yX6_parseStatement : MethodName := ⟨RX6, "parseStatement", "(I)Z"⟩
abbrev cX6_parseAsk : ByteArray := prog_8_method_6_code
def yX6_parseAsk : MethodName := ⟨RX6, "parseAsk", "(I)Z"⟩
abbrev cX6_parseNumber : ByteArray := prog_8_method_7_code
def yX6_parseNumber : MethodName := ⟨RX6, "parseNumber", "()I"⟩
abbrev cX6_isFigure : ByteArray := prog_8_method_8_code
def yX6_isFigure : MethodName := ⟨RX6, "isFigure", "(I)Z"⟩
abbrev cX6_modeOf : ByteArray := prog_8_method_9_code
def yX6_modeOf : MethodName := ⟨RX6, "modeOf", "(I)I"⟩
abbrev cX6_perform : ByteArray := prog_8_method_10_code
def yX6_perform : MethodName := ⟨RX6, "perform", "(ILLockTable$Table;)I"⟩
def RX7 : String := "LockTable"
def TX7 : u_T := fun k => match k with
  | 0 => ("LockTable", "truth", "LLockTable$Table;", true)
  | 1 => ("LockTable", "thought", "LLockTable$Table;", true)
  | 2 => ("LockTable", "kept", "LLockTable$Table;", true)
  | 3 => ("LockTable", "isKept", "Z", false)
  | 4 => ("LockTable", "player", "LLockTable$Player;", true)
  | 5 => ("LockTable", "lot", "LLockTable$Lot;", true)
  | 6 => ("LockTable", "gates", "LLockTable$Gates;", true)
  | 7 => ("LockTable", "tape", "LLockTable$Tape;", true)
  | 8 => ("LockTable", "sheet", "LLockTable$Paper;", true)
  | _ => ("LockTable", "lists", "LLockTable$Lists;", true)
def tyX7 : Nat → FieldType := fun k => match k with
  | 0 => .object "LockTable$Table"
  | 1 => .object "LockTable$Table"
  | 2 => .object "LockTable$Table"
  | 3 => .boolean
  | 4 => .object "LockTable$Player"
  | 5 => .object "LockTable$Lot"
  | 6 => .object "LockTable$Gates"
  | 7 => .object "LockTable$Tape"
  | 8 => .object "LockTable$Paper"
  | _ => .object "LockTable$Lists"
abbrev wsX70 : List Cond := u_ws RX7 TX7 10
theorem nmX7 : ∀ a, a < 10 → ∀ b, b < 10 → a ≠ b → (TX7 a).2.1 ≠ (TX7 b).2.1 := by decide +kernel
theorem tyX7_ok : ∀ k, k < 10 → parseFieldDescriptor (TX7 k).2.2.1 = some (tyX7 k) := by decide +kernel
abbrev cX7_init : ByteArray := prog_1_method_1_code
def yX7_init : MethodName := ⟨RX7, "<init>", "()V"⟩
abbrev cX7_thing : ByteArray := prog_1_method_2_code
def yX7_thing : MethodName := ⟨RX7, "thing", "(II)I"⟩
abbrev cX7_thingOf : ByteArray := prog_1_method_3_code
def yX7_thingOf : MethodName := ⟨RX7, "thingOf", "(II)I"⟩
abbrev cX7_ask : ByteArray := prog_1_method_4_code
def yX7_ask : MethodName := ⟨RX7, "ask", "(III)I"⟩
abbrev cX7_give : ByteArray := prog_1_method_5_code
def yX7_give : MethodName := ⟨RX7, "give", "(III)I"⟩
abbrev cX7_leaves : ByteArray := prog_1_method_6_code
def yX7_leaves : MethodName := ⟨RX7, "leaves", "(I)I"⟩
abbrev cX7_forgets : ByteArray := prog_1_method_7_code
def yX7_forgets : MethodName := ⟨RX7, "forgets", "(I)I"⟩
abbrev cX7_breaks : ByteArray := prog_1_method_8_code
def yX7_breaks : MethodName := ⟨RX7, "breaks", "()I"⟩
abbrev cX7_held : ByteArray := prog_1_method_9_code
def yX7_held : MethodName := ⟨RX7, "held", "(III)I"⟩
abbrev cX7_holders : ByteArray := prog_1_method_10_code
def yX7_holders : MethodName := ⟨RX7, "holders", "(II)I"⟩
abbrev cX7_waits : ByteArray := prog_1_method_11_code
def yX7_waits : MethodName := ⟨RX7, "waits", "(I)I"⟩
abbrev cX7_line : ByteArray := prog_1_method_12_code
def yX7_line : MethodName := ⟨RX7, "line", "(I)I"⟩
abbrev cX7_waitsFor : ByteArray := prog_1_method_13_code
def yX7_waitsFor : MethodName := ⟨RX7, "waitsFor", "(I)I"⟩
abbrev cX7_ring : ByteArray := prog_1_method_14_code
def yX7_ring : MethodName := ⟨RX7, "ring", "(I)I"⟩
abbrev cX7_count : ByteArray := prog_1_method_15_code
def yX7_count : MethodName := ⟨RX7, "count", "(I)I"⟩
abbrev cX7_would : ByteArray := prog_1_method_16_code
def yX7_would : MethodName := ⟨RX7, "would", "(III)I"⟩
abbrev cX7_needs : ByteArray := prog_1_method_17_code
def yX7_needs : MethodName := ⟨RX7, "needs", "(III)I"⟩
abbrev cX7_strongest : ByteArray := prog_1_method_18_code
def yX7_strongest : MethodName := ⟨RX7, "strongest", "(II)I"⟩
abbrev cX7_plan : ByteArray := prog_1_method_19_code
def yX7_plan : MethodName := ⟨RX7, "plan", "(III)I"⟩
abbrev cX7_plays : ByteArray := prog_1_method_20_code
def yX7_plays : MethodName := ⟨RX7, "plays", "(I)I"⟩
abbrev cX7_lots : ByteArray := prog_1_method_21_code
def yX7_lots : MethodName := ⟨RX7, "lots", "(III)I"⟩
abbrev cX7_askByLot : ByteArray := prog_1_method_22_code
def yX7_askByLot : MethodName := ⟨RX7, "askByLot", "()I"⟩
abbrev cX7_weighs : ByteArray := prog_1_method_23_code
def yX7_weighs : MethodName := ⟨RX7, "weighs", "(I)I"⟩
abbrev cX7_weighInside : ByteArray := prog_1_method_24_code
def yX7_weighInside : MethodName := ⟨RX7, "weighInside", "(LLockTable$Table;LLockTable$Gates;III)I"⟩
abbrev cX7_plunges : ByteArray := prog_1_method_25_code
def yX7_plunges : MethodName := ⟨RX7, "plunges", "(III)I"⟩
abbrev cX7_bell : ByteArray := prog_1_method_26_code
def yX7_bell : MethodName := ⟨RX7, "bell", "(II)I"⟩
abbrev cX7_gate : ByteArray := prog_1_method_27_code
def yX7_gate : MethodName := ⟨RX7, "gate", "(II)I"⟩
abbrev cX7_gateRefusal : ByteArray := prog_1_method_28_code
def yX7_gateRefusal : MethodName := ⟨RX7, "gateRefusal", "(I)I"⟩
abbrev cX7_feed : ByteArray := prog_1_method_29_code
def yX7_feed : MethodName := ⟨RX7, "feed", "(I)I"⟩
abbrev cX7_reads : ByteArray := prog_1_method_30_code
def yX7_reads : MethodName := ⟨RX7, "reads", "()I"⟩
abbrev cX7_spells : ByteArray := prog_1_method_31_code
def yX7_spells : MethodName := ⟨RX7, "spells", "()I"⟩
abbrev cX7_paper : ByteArray := prog_1_method_32_code
def yX7_paper : MethodName := ⟨RX7, "paper", "(I)I"⟩
abbrev cX7_list : ByteArray := prog_1_method_33_code
def yX7_list : MethodName := ⟨RX7, "list", "(II)I"⟩
abbrev cX7_set : ByteArray := prog_1_method_34_code
def yX7_set : MethodName := ⟨RX7, "set", "(III)I"⟩
abbrev cX7_get : ByteArray := prog_1_method_35_code
def yX7_get : MethodName := ⟨RX7, "get", "(II)J"⟩
abbrev cX7_does : ByteArray := prog_1_method_36_code
def yX7_does : MethodName := ⟨RX7, "does", "(II)I"⟩
abbrev cX7_into : ByteArray := prog_1_method_37_code
def yX7_into : MethodName := ⟨RX7, "into", "(III)I"⟩
abbrev cX7_image : ByteArray := prog_1_method_38_code
def yX7_image : MethodName := ⟨RX7, "image", "()I"⟩
abbrev cX7_back : ByteArray := prog_1_method_39_code
def yX7_back : MethodName := ⟨RX7, "back", "()I"⟩
abbrev cX7_isOwner : ByteArray := prog_1_method_40_code
def yX7_isOwner : MethodName := ⟨RX7, "isOwner", "(I)Z"⟩
abbrev cX7_isMode : ByteArray := prog_1_method_41_code
def yX7_isMode : MethodName := ⟨RX7, "isMode", "(I)Z"⟩
abbrev cX7_hasBit : ByteArray := prog_1_method_42_code
def yX7_hasBit : MethodName := ⟨RX7, "hasBit", "(II)Z"⟩
def RX8 : String := "LockTableModel"
def TX8 : u_T := fun k => match k with
  | 0 => ("LockTableModel", "thrown", "I", false)
  | 1 => ("LockTableModel", "g", "[I", true)
  | 2 => ("LockTableModel", "aside", "[I", true)
  | 3 => ("LockTableModel", "within", "[I", true)
  | 4 => ("LockTableModel", "granted", "I", false)
  | 5 => ("LockTableModel", "grantedAside", "I", false)
  | 6 => ("LockTableModel", "entries", "[I", true)
  | 7 => ("LockTableModel", "deepest", "[I", true)
  | 8 => ("LockTableModel", "inside", "[I", true)
  | 9 => ("LockTableModel", "nextRow", "[I", true)
  | 10 => ("LockTableModel", "through", "I", false)
  | 11 => ("LockTableModel", "withRows", "I", false)
  | 12 => ("LockTableModel", "brokenTimes", "I", false)
  | 13 => ("LockTableModel", "lot", "I", false)
  | 14 => ("LockTableModel", "isStopped", "Z", false)
  | 15 => ("LockTableModel", "tape", "[I", true)
  | 16 => ("LockTableModel", "taped", "I", false)
  | 17 => ("LockTableModel", "place", "I", false)
  | 18 => ("LockTableModel", "isWrong", "Z", false)
  | 19 => ("LockTableModel", "verb", "I", false)
  | 20 => ("LockTableModel", "isGiving", "Z", false)
  | 21 => ("LockTableModel", "toldOwner", "I", false)
  | 22 => ("LockTableModel", "toldNumber", "I", false)
  | 23 => ("LockTableModel", "paper", "[I", true)
  | 24 => ("LockTableModel", "papered", "I", false)
  | 25 => ("LockTableModel", "sizes", "[I", true)
  | 26 => ("LockTableModel", "items", "[I", true)
  | 27 => ("LockTableModel", "kept", "[I", true)
  | _ => ("LockTableModel", "isKept", "Z", false)
def tyX8 : Nat → FieldType := fun k => match k with
  | 0 => .int
  | 1 => .array .int
  | 2 => .array .int
  | 3 => .array .int
  | 4 => .int
  | 5 => .int
  | 6 => .array .int
  | 7 => .array .int
  | 8 => .array .int
  | 9 => .array .int
  | 10 => .int
  | 11 => .int
  | 12 => .int
  | 13 => .int
  | 14 => .boolean
  | 15 => .array .int
  | 16 => .int
  | 17 => .int
  | 18 => .boolean
  | 19 => .int
  | 20 => .boolean
  | 21 => .int
  | 22 => .int
  | 23 => .array .int
  | 24 => .int
  | 25 => .array .int
  | 26 => .array .int
  | 27 => .array .int
  | _ => .boolean
abbrev wsX80 : List Cond := u_ws RX8 TX8 29
theorem nmX8 : ∀ a, a < 29 → ∀ b, b < 29 → a ≠ b → (TX8 a).2.1 ≠ (TX8 b).2.1 := by decide +kernel
theorem tyX8_ok : ∀ k, k < 29 → parseFieldDescriptor (TX8 k).2.2.1 = some (tyX8 k) := by decide +kernel
abbrev cX8_in : ByteArray := prog_10_method_2_code
def yX8_in : MethodName := ⟨RX8, "in", "(III)Z"⟩
abbrev cX8_has : ByteArray := prog_10_method_3_code
def yX8_has : MethodName := ⟨RX8, "has", "(II)Z"⟩
abbrev cX8_bits : ByteArray := prog_10_method_4_code
def yX8_bits : MethodName := ⟨RX8, "bits", "(I)I"⟩
abbrev cX8_init : ByteArray := prog_10_method_5_code
def yX8_init : MethodName := ⟨RX8, "<init>", "()V"⟩
abbrev cX8_copies : ByteArray := prog_10_method_6_code
def yX8_copies : MethodName := ⟨RX8, "copies", "([I[I)V"⟩
abbrev cX8_laysAside : ByteArray := prog_10_method_7_code
def yX8_laysAside : MethodName := ⟨RX8, "laysAside", "()V"⟩
abbrev cX8_laysBack : ByteArray := prog_10_method_8_code
def yX8_laysBack : MethodName := ⟨RX8, "laysBack", "()V"⟩
abbrev cX8_isThing : ByteArray := prog_10_method_9_code
def yX8_isThing : MethodName := ⟨RX8, "isThing", "(I)Z"⟩
abbrev cX8_isOwner : ByteArray := prog_10_method_10_code
def yX8_isOwner : MethodName := ⟨RX8, "isOwner", "(I)Z"⟩
abbrev cX8_isAsked : ByteArray := prog_10_method_11_code
def yX8_isAsked : MethodName := ⟨RX8, "isAsked", "(I)Z"⟩
abbrev cX8_isAsk : ByteArray := prog_10_method_12_code
def yX8_isAsk : MethodName := ⟨RX8, "isAsk", "(III)Z"⟩
abbrev cX8_at : ByteArray := prog_10_method_13_code
def yX8_at : MethodName := ⟨RX8, "at", "(III)I"⟩
abbrev cX8_together : ByteArray := prog_10_method_14_code
def yX8_together : MethodName := ⟨RX8, "together", "(I)I"⟩
abbrev cX8_goTogether : ByteArray := prog_10_method_15_code
def yX8_goTogether : MethodName := ⟨RX8, "goTogether", "(II)Z"⟩
abbrev cX8_thing : ByteArray := prog_10_method_16_code
def yX8_thing : MethodName := ⟨RX8, "thing", "(II)I"⟩
abbrev cX8_wholes : ByteArray := prog_10_method_17_code
def yX8_wholes : MethodName := ⟨RX8, "wholes", "(I)I"⟩
abbrev cX8_partsOf : ByteArray := prog_10_method_18_code
def yX8_partsOf : MethodName := ⟨RX8, "partsOf", "(I)I"⟩
abbrev cX8_countsAt : ByteArray := prog_10_method_19_code
def yX8_countsAt : MethodName := ⟨RX8, "countsAt", "(I)I"⟩
abbrev cX8_askers : ByteArray := prog_10_method_20_code
def yX8_askers : MethodName := ⟨RX8, "askers", "(I)I"⟩
abbrev cX8_thingOf : ByteArray := prog_10_method_21_code
def yX8_thingOf : MethodName := ⟨RX8, "thingOf", "(II)I"⟩
abbrev cX8_above : ByteArray := prog_10_method_22_code
def yX8_above : MethodName := ⟨RX8, "above", "(I)I"⟩
abbrev cX8_isBarredAt : ByteArray := prog_10_method_23_code
def yX8_isBarredAt : MethodName := ⟨RX8, "isBarredAt", "(III)Z"⟩
abbrev cX8_isBarred : ByteArray := prog_10_method_24_code
def yX8_isBarred : MethodName := ⟨RX8, "isBarred", "(III)Z"⟩
abbrev cX8_isRaise : ByteArray := prog_10_method_25_code
def yX8_isRaise : MethodName := ⟨RX8, "isRaise", "(II)Z"⟩
abbrev cX8_placeOf : ByteArray := prog_10_method_26_code
def yX8_placeOf : MethodName := ⟨RX8, "placeOf", "(I)I"⟩
abbrev cX8_isInLine : ByteArray := prog_10_method_27_code
def yX8_isInLine : MethodName := ⟨RX8, "isInLine", "(I)Z"⟩
abbrev cX8_barring : ByteArray := prog_10_method_28_code
def yX8_barring : MethodName := ⟨RX8, "barring", "(IIII)I"⟩
abbrev cX8_canBe : ByteArray := prog_10_method_29_code
def yX8_canBe : MethodName := ⟨RX8, "canBe", "(III)Z"⟩
abbrev cX8_barringAt : ByteArray := prog_10_method_30_code
def yX8_barringAt : MethodName := ⟨RX8, "barringAt", "(I)I"⟩
abbrev cX8_changes : ByteArray := prog_10_method_31_code
def yX8_changes : MethodName := ⟨RX8, "changes", "(IIII)V"⟩
abbrev cX8_grants : ByteArray := prog_10_method_32_code
def yX8_grants : MethodName := ⟨RX8, "grants", "(III)V"⟩
abbrev cX8_leavesLine : ByteArray := prog_10_method_33_code
def yX8_leavesLine : MethodName := ⟨RX8, "leavesLine", "(I)V"⟩
abbrev cX8_nextServed : ByteArray := prog_10_method_34_code
def yX8_nextServed : MethodName := ⟨RX8, "nextServed", "()I"⟩
abbrev cX8_serves : ByteArray := prog_10_method_35_code
def yX8_serves : MethodName := ⟨RX8, "serves", "()I"⟩
abbrev cX8_isOtherRaise : ByteArray := prog_10_method_36_code
def yX8_isOtherRaise : MethodName := ⟨RX8, "isOtherRaise", "(II)Z"⟩
abbrev cX8_ask : ByteArray := prog_10_method_37_code
def yX8_ask : MethodName := ⟨RX8, "ask", "(III)I"⟩
abbrev cX8_give : ByteArray := prog_10_method_38_code
def yX8_give : MethodName := ⟨RX8, "give", "(III)I"⟩
abbrev cX8_emptiesOwner : ByteArray := prog_10_method_39_code
def yX8_emptiesOwner : MethodName := ⟨RX8, "emptiesOwner", "(I)V"⟩
abbrev cX8_leavesAll : ByteArray := prog_10_method_40_code
def yX8_leavesAll : MethodName := ⟨RX8, "leavesAll", "(I)I"⟩
abbrev cX8_leaves : ByteArray := prog_10_method_41_code
def yX8_leaves : MethodName := ⟨RX8, "leaves", "(I)I"⟩
abbrev cX8_forgets : ByteArray := prog_10_method_42_code
def yX8_forgets : MethodName := ⟨RX8, "forgets", "(I)I"⟩
abbrev cX8_waitsForNow : ByteArray := prog_10_method_43_code
def yX8_waitsForNow : MethodName := ⟨RX8, "waitsForNow", "(I)I"⟩
abbrev cX8_comesTo : ByteArray := prog_10_method_44_code
def yX8_comesTo : MethodName := ⟨RX8, "comesTo", "(I)I"⟩
abbrev cX8_ringNow : ByteArray := prog_10_method_45_code
def yX8_ringNow : MethodName := ⟨RX8, "ringNow", "()I"⟩
abbrev cX8_countsOf : ByteArray := prog_10_method_46_code
def yX8_countsOf : MethodName := ⟨RX8, "countsOf", "(I)I"⟩
abbrev cX8_leastOf : ByteArray := prog_10_method_47_code
def yX8_leastOf : MethodName := ⟨RX8, "leastOf", "(I)I"⟩
abbrev cX8_breaks : ByteArray := prog_10_method_48_code
def yX8_breaks : MethodName := ⟨RX8, "breaks", "()I"⟩
abbrev cX8_held : ByteArray := prog_10_method_49_code
def yX8_held : MethodName := ⟨RX8, "held", "(III)I"⟩
abbrev cX8_holders : ByteArray := prog_10_method_50_code
def yX8_holders : MethodName := ⟨RX8, "holders", "(II)I"⟩
abbrev cX8_waits : ByteArray := prog_10_method_51_code
def yX8_waits : MethodName := ⟨RX8, "waits", "(I)I"⟩
abbrev cX8_line : ByteArray := prog_10_method_52_code
def yX8_line : MethodName := ⟨RX8, "line", "(I)I"⟩
abbrev cX8_waitsFor : ByteArray := prog_10_method_53_code
def yX8_waitsFor : MethodName := ⟨RX8, "waitsFor", "(I)I"⟩
abbrev cX8_ring : ByteArray := prog_10_method_54_code
def yX8_ring : MethodName := ⟨RX8, "ring", "(I)I"⟩
abbrev cX8_allCounts : ByteArray := prog_10_method_55_code
def yX8_allCounts : MethodName := ⟨RX8, "allCounts", "()I"⟩
abbrev cX8_count : ByteArray := prog_10_method_56_code
def yX8_count : MethodName := ⟨RX8, "count", "(I)I"⟩
abbrev cX8_would : ByteArray := prog_10_method_57_code
def yX8_would : MethodName := ⟨RX8, "would", "(III)I"⟩
abbrev cX8_couldBe : ByteArray := prog_10_method_58_code
def yX8_couldBe : MethodName := ⟨RX8, "couldBe", "(IIII)Z"⟩
abbrev cX8_needs : ByteArray := prog_10_method_59_code
def yX8_needs : MethodName := ⟨RX8, "needs", "(III)I"⟩
abbrev cX8_strongest : ByteArray := prog_10_method_60_code
def yX8_strongest : MethodName := ⟨RX8, "strongest", "(II)I"⟩
abbrev cX8_plan : ByteArray := prog_10_method_61_code
def yX8_plan : MethodName := ⟨RX8, "plan", "(III)I"⟩
abbrev cX8_rowFrom : ByteArray := prog_10_method_62_code
def yX8_rowFrom : MethodName := ⟨RX8, "rowFrom", "(II)I"⟩
abbrev cX8_goesOn : ByteArray := prog_10_method_63_code
def yX8_goesOn : MethodName := ⟨RX8, "goesOn", "(I)V"⟩
abbrev cX8_round : ByteArray := prog_10_method_64_code
def yX8_round : MethodName := ⟨RX8, "round", "()V"⟩
abbrev cX8_plays : ByteArray := prog_10_method_65_code
def yX8_plays : MethodName := ⟨RX8, "plays", "(I)I"⟩
abbrev cX8_draw : ByteArray := prog_10_method_66_code
def yX8_draw : MethodName := ⟨RX8, "draw", "(I)I"⟩
abbrev cX8_modeOf : ByteArray := prog_10_method_67_code
def yX8_modeOf : MethodName := ⟨RX8, "modeOf", "(I)I"⟩
abbrev cX8_lots : ByteArray := prog_10_method_68_code
def yX8_lots : MethodName := ⟨RX8, "lots", "(III)I"⟩
abbrev cX8_goesInto : ByteArray := prog_10_method_69_code
def yX8_goesInto : MethodName := ⟨RX8, "goesInto", "(I)V"⟩
abbrev cX8_weighsFrom : ByteArray := prog_10_method_70_code
def yX8_weighsFrom : MethodName := ⟨RX8, "weighsFrom", "(II)I"⟩
abbrev cX8_isBare : ByteArray := prog_10_method_71_code
def yX8_isBare : MethodName := ⟨RX8, "isBare", "(I)Z"⟩
abbrev cX8_weighs : ByteArray := prog_10_method_72_code
def yX8_weighs : MethodName := ⟨RX8, "weighs", "(I)I"⟩
abbrev cX8_plunges : ByteArray := prog_10_method_73_code
def yX8_plunges : MethodName := ⟨RX8, "plunges", "(III)I"⟩
abbrev cX8_bell : ByteArray := prog_10_method_74_code
def yX8_bell : MethodName := ⟨RX8, "bell", "(II)I"⟩
abbrev cX8_gate : ByteArray := prog_10_method_75_code
def yX8_gate : MethodName := ⟨RX8, "gate", "(II)I"⟩
abbrev cX8_feed : ByteArray := prog_10_method_76_code
def yX8_feed : MethodName := ⟨RX8, "feed", "(I)I"⟩
abbrev cX8_here : ByteArray := prog_10_method_77_code
def yX8_here : MethodName := ⟨RX8, "here", "()I"⟩
abbrev cX8_isFigure : ByteArray := prog_10_method_78_code
def yX8_isFigure : MethodName := ⟨RX8, "isFigure", "(I)Z"⟩
abbrev cX8_number : ByteArray := prog_10_method_79_code
def yX8_number : MethodName := ⟨RX8, "number", "()V"⟩
abbrev cX8_asking : ByteArray := prog_10_method_80_code
def yX8_asking : MethodName := ⟨RX8, "asking", "()V"⟩
abbrev cX8_statement : ByteArray := prog_10_method_81_code
def yX8_statement : MethodName := ⟨RX8, "statement", "()V"⟩
abbrev cX8_modeTold : ByteArray := prog_10_method_82_code
def yX8_modeTold : MethodName := ⟨RX8, "modeTold", "()I"⟩
abbrev cX8_does : ByteArray := prog_10_method_83_code
def yX8_does : MethodName := ⟨RX8, "does", "()I"⟩
abbrev cX8_goesThrough : ByteArray := prog_10_method_84_code
def yX8_goesThrough : MethodName := ⟨RX8, "goesThrough", "(Z)I"⟩
abbrev cX8_reads : ByteArray := prog_10_method_85_code
def yX8_reads : MethodName := ⟨RX8, "reads", "()I"⟩
abbrev cX8_writes : ByteArray := prog_10_method_86_code
def yX8_writes : MethodName := ⟨RX8, "writes", "(I)V"⟩
abbrev cX8_writesNumber : ByteArray := prog_10_method_87_code
def yX8_writesNumber : MethodName := ⟨RX8, "writesNumber", "(I)V"⟩
abbrev cX8_letterOf : ByteArray := prog_10_method_88_code
def yX8_letterOf : MethodName := ⟨RX8, "letterOf", "(I)I"⟩
abbrev cX8_writesHold : ByteArray := prog_10_method_89_code
def yX8_writesHold : MethodName := ⟨RX8, "writesHold", "(IIII)V"⟩
abbrev cX8_spells : ByteArray := prog_10_method_90_code
def yX8_spells : MethodName := ⟨RX8, "spells", "()I"⟩
abbrev cX8_paper : ByteArray := prog_10_method_91_code
def yX8_paper : MethodName := ⟨RX8, "paper", "(I)I"⟩
abbrev cX8_isList : ByteArray := prog_10_method_92_code
def yX8_isList : MethodName := ⟨RX8, "isList", "(I)Z"⟩
abbrev cX8_list : ByteArray := prog_10_method_93_code
def yX8_list : MethodName := ⟨RX8, "list", "(II)I"⟩
abbrev cX8_set : ByteArray := prog_10_method_94_code
def yX8_set : MethodName := ⟨RX8, "set", "(III)I"⟩
abbrev cX8_get : ByteArray := prog_10_method_95_code
def yX8_get : MethodName := ⟨RX8, "get", "(II)J"⟩
abbrev cX8_does_ : ByteArray := prog_10_method_96_code
def yX8_does_ : MethodName := ⟨RX8, "does", "(II)I"⟩
abbrev cX8_into : ByteArray := prog_10_method_97_code
def yX8_into : MethodName := ⟨RX8, "into", "(III)I"⟩
abbrev cX8_image : ByteArray := prog_10_method_98_code
def yX8_image : MethodName := ⟨RX8, "image", "()I"⟩
abbrev cX8_back : ByteArray := prog_10_method_99_code
def yX8_back : MethodName := ⟨RX8, "back", "()I"⟩
def RL : String := "LockTableLaw"
abbrev cL_law : ByteArray := code
abbrev vwCl : List vw_C := [(RX0, TX0, 3), (RX1, TX1, 2), (RX2, TX2, 1), (RX3, TX3, 2), (RX4, TX4, 4), (RX5, TX5, 15), (RX6, TX6, 8), (RX7, TX7, 10), (RX8, TX8, 29)]
theorem in_pos {big ws : List Cond} (ps : List Nat) (hp : ws = ps.filterMap (fun i => big[i]?)) : ∀ w ∈ ws, w ∈ big := by
  intro w hw
  rw [hp] at hw
  obtain ⟨i, -, hi⟩ := List.mem_filterMap.mp hw
  exact List.mem_of_getElem? hi
theorem inX0 : ∀ w ∈ wsX00, w ∈ lw_tbl := in_pos [196, 198, 200] (by decide +kernel)
theorem inX1 : ∀ w ∈ wsX10, w ∈ lw_tbl := in_pos [262, 264] (by decide +kernel)
theorem inX2 : ∀ w ∈ wsX20, w ∈ lw_tbl := in_pos [181] (by decide +kernel)
theorem inX3 : ∀ w ∈ wsX30, w ∈ lw_tbl := in_pos [247, 249] (by decide +kernel)
theorem inX4 : ∀ w ∈ wsX40, w ∈ lw_tbl := in_pos [164, 166, 168, 170] (by decide +kernel)
theorem inX5 : ∀ w ∈ wsX50, w ∈ lw_tbl := in_pos [119, 121, 123, 125, 127, 129, 131, 133, 135, 137, 139, 141, 143, 145, 147] (by decide +kernel)
theorem inX6 : ∀ w ∈ wsX60, w ∈ lw_tbl := in_pos [219, 221, 223, 225, 227, 229, 231, 233] (by decide +kernel)
theorem inX7 : ∀ w ∈ wsX70, w ∈ lw_tbl := in_pos [277, 279, 281, 283, 285, 287, 289, 291, 293, 295] (by decide +kernel)
theorem inX8 : ∀ w ∈ wsX80, w ∈ lw_tbl := in_pos [760, 762, 764, 766, 768, 770, 772, 774, 776, 778, 780, 782, 784, 786, 788, 790, 792, 794, 796, 798, 800, 802, 804, 806, 808, 810, 812, 814, 816] (by decide +kernel)
