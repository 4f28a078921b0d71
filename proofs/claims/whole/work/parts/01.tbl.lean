-- ===== PART A: goes FIRST, ahead of the names: the tables' words, and 'selects' of the private methods out of them =====
/-- a private method of a class that the tables say can be made, by its rows of tables_1 -/
def lw_okq (q : MethodName × Nat) : Prop := (q.1.cls ≠ "java/lang/invoke/MethodHandle" ∧ q.1.cls ≠ "java/lang/invoke/VarHandle") ∧ Cond.instantiable q.1.cls q.2 ∈ tables_1 ∧ Cond.privateMethod q.1 ∈ tables_1 ∧ Cond.instanceMethod q.1 ∈ tables_1
theorem lw_p0 : lw_okq (⟨"CubeChecker", "takeText", "()Z"⟩, 9) := ⟨⟨by decide +kernel, by decide +kernel⟩, List.mem_of_getElem? (i := 21) (by decide +kernel), List.mem_of_getElem? (i := 219) (by decide +kernel), List.mem_of_getElem? (i := 220) (by decide +kernel)⟩
theorem lw_p1 : lw_okq (⟨"CubeChecker$Text", "takeFigures", "(II)Z"⟩, 4) := ⟨⟨by decide +kernel, by decide +kernel⟩, List.mem_of_getElem? (i := 29) (by decide +kernel), List.mem_of_getElem? (i := 234) (by decide +kernel), List.mem_of_getElem? (i := 235) (by decide +kernel)⟩
theorem lw_p2 : lw_okq (⟨"CubeChecker$Text", "tell", "(C)Z"⟩, 4) := ⟨⟨by decide +kernel, by decide +kernel⟩, List.mem_of_getElem? (i := 29) (by decide +kernel), List.mem_of_getElem? (i := 238) (by decide +kernel), List.mem_of_getElem? (i := 239) (by decide +kernel)⟩
theorem lw_p3 : lw_okq (⟨"CubeChecker$Text", "tellPlaces", "()Z"⟩, 4) := ⟨⟨by decide +kernel, by decide +kernel⟩, List.mem_of_getElem? (i := 29) (by decide +kernel), List.mem_of_getElem? (i := 242) (by decide +kernel), List.mem_of_getElem? (i := 243) (by decide +kernel)⟩
theorem lw_p4 : lw_okq (⟨"CubeChecker$Text", "tellVariable", "()Z"⟩, 4) := ⟨⟨by decide +kernel, by decide +kernel⟩, List.mem_of_getElem? (i := 29) (by decide +kernel), List.mem_of_getElem? (i := 246) (by decide +kernel), List.mem_of_getElem? (i := 247) (by decide +kernel)⟩
theorem lw_p5 : lw_okq (⟨"CubeChecker$Text", "tellComparison", "()Z"⟩, 4) := ⟨⟨by decide +kernel, by decide +kernel⟩, List.mem_of_getElem? (i := 29) (by decide +kernel), List.mem_of_getElem? (i := 250) (by decide +kernel), List.mem_of_getElem? (i := 251) (by decide +kernel)⟩
theorem lw_p6 : lw_okq (⟨"CubeChecker$Text", "isVariable", "(I)Z"⟩, 4) := ⟨⟨by decide +kernel, by decide +kernel⟩, List.mem_of_getElem? (i := 29) (by decide +kernel), List.mem_of_getElem? (i := 254) (by decide +kernel), List.mem_of_getElem? (i := 255) (by decide +kernel)⟩
theorem lw_p7 : lw_okq (⟨"CubeChecker$Text", "tellEdge", "()Z"⟩, 4) := ⟨⟨by decide +kernel, by decide +kernel⟩, List.mem_of_getElem? (i := 29) (by decide +kernel), List.mem_of_getElem? (i := 261) (by decide +kernel), List.mem_of_getElem? (i := 262) (by decide +kernel)⟩
theorem lw_p8 : lw_okq (⟨"CubeChecker$Text", "edgeJoinsAndAsksWell", "()Z"⟩, 4) := ⟨⟨by decide +kernel, by decide +kernel⟩, List.mem_of_getElem? (i := 29) (by decide +kernel), List.mem_of_getElem? (i := 265) (by decide +kernel), List.mem_of_getElem? (i := 266) (by decide +kernel)⟩
theorem lw_p9 : lw_okq (⟨"CubeChecker$Text", "edgeDoesWell", "()Z"⟩, 4) := ⟨⟨by decide +kernel, by decide +kernel⟩, List.mem_of_getElem? (i := 29) (by decide +kernel), List.mem_of_getElem? (i := 269) (by decide +kernel), List.mem_of_getElem? (i := 270) (by decide +kernel)⟩
theorem lw_p10 : lw_okq (⟨"CubeChecker$Meaning", "findSos", "(I)I"⟩, 6) := ⟨⟨by decide +kernel, by decide +kernel⟩, List.mem_of_getElem? (i := 121) (by decide +kernel), List.mem_of_getElem? (i := 290) (by decide +kernel), List.mem_of_getElem? (i := 291) (by decide +kernel)⟩
theorem lw_p11 : lw_okq (⟨"CubeChecker$Meaning", "areFirst", "(I)Z"⟩, 6) := ⟨⟨by decide +kernel, by decide +kernel⟩, List.mem_of_getElem? (i := 121) (by decide +kernel), List.mem_of_getElem? (i := 300) (by decide +kernel), List.mem_of_getElem? (i := 301) (by decide +kernel)⟩
theorem lw_p12 : lw_okq (⟨"CubeChecker$Leaps", "orderValues", "()V"⟩, 9) := ⟨⟨by decide +kernel, by decide +kernel⟩, List.mem_of_getElem? (i := 322) (by decide +kernel), List.mem_of_getElem? (i := 320) (by decide +kernel), List.mem_of_getElem? (i := 321) (by decide +kernel)⟩
theorem lw_p13 : lw_okq (⟨"CubeChecker", "forgetSearches", "()V"⟩, 9) := ⟨⟨by decide +kernel, by decide +kernel⟩, List.mem_of_getElem? (i := 21) (by decide +kernel), List.mem_of_getElem? (i := 351) (by decide +kernel), List.mem_of_getElem? (i := 352) (by decide +kernel)⟩
theorem lw_p14 : lw_okq (⟨"CubeChecker", "isEdge", "(I)Z"⟩, 9) := ⟨⟨by decide +kernel, by decide +kernel⟩, List.mem_of_getElem? (i := 21) (by decide +kernel), List.mem_of_getElem? (i := 412) (by decide +kernel), List.mem_of_getElem? (i := 413) (by decide +kernel)⟩
theorem lw_p15 : lw_okq (⟨"CubeChecker", "isComparison", "(I)Z"⟩, 9) := ⟨⟨by decide +kernel, by decide +kernel⟩, List.mem_of_getElem? (i := 21) (by decide +kernel), List.mem_of_getElem? (i := 436) (by decide +kernel), List.mem_of_getElem? (i := 437) (by decide +kernel)⟩
def lw_privs_1 : List (MethodName × Nat) := [(⟨"CubeChecker", "takeText", "()Z"⟩, 9), (⟨"CubeChecker$Text", "takeFigures", "(II)Z"⟩, 4), (⟨"CubeChecker$Text", "tell", "(C)Z"⟩, 4), (⟨"CubeChecker$Text", "tellPlaces", "()Z"⟩, 4), (⟨"CubeChecker$Text", "tellVariable", "()Z"⟩, 4), (⟨"CubeChecker$Text", "tellComparison", "()Z"⟩, 4), (⟨"CubeChecker$Text", "isVariable", "(I)Z"⟩, 4), (⟨"CubeChecker$Text", "tellEdge", "()Z"⟩, 4), (⟨"CubeChecker$Text", "edgeJoinsAndAsksWell", "()Z"⟩, 4), (⟨"CubeChecker$Text", "edgeDoesWell", "()Z"⟩, 4), (⟨"CubeChecker$Meaning", "findSos", "(I)I"⟩, 6), (⟨"CubeChecker$Meaning", "areFirst", "(I)Z"⟩, 6), (⟨"CubeChecker$Leaps", "orderValues", "()V"⟩, 9), (⟨"CubeChecker", "forgetSearches", "()V"⟩, 9), (⟨"CubeChecker", "isEdge", "(I)Z"⟩, 9), (⟨"CubeChecker", "isComparison", "(I)Z"⟩, 9)]
theorem lw_r1 : ∀ q ∈ lw_privs_1, lw_okq q := List.forall_mem_cons.mpr ⟨lw_p0, List.forall_mem_cons.mpr ⟨lw_p1, List.forall_mem_cons.mpr ⟨lw_p2, List.forall_mem_cons.mpr ⟨lw_p3, List.forall_mem_cons.mpr ⟨lw_p4, List.forall_mem_cons.mpr ⟨lw_p5, List.forall_mem_cons.mpr ⟨lw_p6, List.forall_mem_cons.mpr ⟨lw_p7, List.forall_mem_cons.mpr ⟨lw_p8, List.forall_mem_cons.mpr ⟨lw_p9, List.forall_mem_cons.mpr ⟨lw_p10, List.forall_mem_cons.mpr ⟨lw_p11, List.forall_mem_cons.mpr ⟨lw_p12, List.forall_mem_cons.mpr ⟨lw_p13, List.forall_mem_cons.mpr ⟨lw_p14, List.forall_mem_cons.mpr ⟨lw_p15, fun _ h => absurd h List.not_mem_nil⟩⟩⟩⟩⟩⟩⟩⟩⟩⟩⟩⟩⟩⟩⟩⟩
theorem lw_p16 : lw_okq (⟨"CubeChecker", "isPlace", "(I)Z"⟩, 9) := ⟨⟨by decide +kernel, by decide +kernel⟩, List.mem_of_getElem? (i := 21) (by decide +kernel), List.mem_of_getElem? (i := 463) (by decide +kernel), List.mem_of_getElem? (i := 464) (by decide +kernel)⟩
theorem lw_p17 : lw_okq (⟨"CubeChecker", "newestReal", "()LCubeChecker$RealSearch;"⟩, 9) := ⟨⟨by decide +kernel, by decide +kernel⟩, List.mem_of_getElem? (i := 21) (by decide +kernel), List.mem_of_getElem? (i := 467) (by decide +kernel), List.mem_of_getElem? (i := 468) (by decide +kernel)⟩
theorem lw_p18 : lw_okq (⟨"CubeChecker$RealSearch", "empty", "()V"⟩, 10) := ⟨⟨by decide +kernel, by decide +kernel⟩, List.mem_of_getElem? (i := 471) (by decide +kernel), List.mem_of_getElem? (i := 525) (by decide +kernel), List.mem_of_getElem? (i := 526) (by decide +kernel)⟩
theorem lw_p19 : lw_okq (⟨"CubeChecker$RealSearch", "add", "(IIII)V"⟩, 10) := ⟨⟨by decide +kernel, by decide +kernel⟩, List.mem_of_getElem? (i := 471) (by decide +kernel), List.mem_of_getElem? (i := 532) (by decide +kernel), List.mem_of_getElem? (i := 533) (by decide +kernel)⟩
theorem lw_p20 : lw_okq (⟨"CubeChecker$RealSearch", "endOfGroup", "(I)I"⟩, 10) := ⟨⟨by decide +kernel, by decide +kernel⟩, List.mem_of_getElem? (i := 471) (by decide +kernel), List.mem_of_getElem? (i := 538) (by decide +kernel), List.mem_of_getElem? (i := 539) (by decide +kernel)⟩
theorem lw_p21 : lw_okq (⟨"CubeChecker$RealSearch", "goOn", "(III)V"⟩, 10) := ⟨⟨by decide +kernel, by decide +kernel⟩, List.mem_of_getElem? (i := 471) (by decide +kernel), List.mem_of_getElem? (i := 542) (by decide +kernel), List.mem_of_getElem? (i := 543) (by decide +kernel)⟩
theorem lw_p22 : lw_okq (⟨"CubeChecker$RealSearch", "goBy", "(IIII)V"⟩, 10) := ⟨⟨by decide +kernel, by decide +kernel⟩, List.mem_of_getElem? (i := 471) (by decide +kernel), List.mem_of_getElem? (i := 546) (by decide +kernel), List.mem_of_getElem? (i := 547) (by decide +kernel)⟩
theorem lw_p23 : lw_okq (⟨"CubeChecker", "newestMay", "()LCubeChecker$MaySearch;"⟩, 9) := ⟨⟨by decide +kernel, by decide +kernel⟩, List.mem_of_getElem? (i := 21) (by decide +kernel), List.mem_of_getElem? (i := 592) (by decide +kernel), List.mem_of_getElem? (i := 593) (by decide +kernel)⟩
theorem lw_p24 : lw_okq (⟨"CubeChecker$Leaps", "find", "(I)V"⟩, 9) := ⟨⟨by decide +kernel, by decide +kernel⟩, List.mem_of_getElem? (i := 322) (by decide +kernel), List.mem_of_getElem? (i := 727) (by decide +kernel), List.mem_of_getElem? (i := 728) (by decide +kernel)⟩
theorem lw_p25 : lw_okq (⟨"CubeChecker$MaySearch", "addAll", "(II)V"⟩, 11) := ⟨⟨by decide +kernel, by decide +kernel⟩, List.mem_of_getElem? (i := 677) (by decide +kernel), List.mem_of_getElem? (i := 741) (by decide +kernel), List.mem_of_getElem? (i := 742) (by decide +kernel)⟩
theorem lw_p26 : lw_okq (⟨"CubeChecker$MaySearch", "add", "(III)V"⟩, 11) := ⟨⟨by decide +kernel, by decide +kernel⟩, List.mem_of_getElem? (i := 677) (by decide +kernel), List.mem_of_getElem? (i := 748) (by decide +kernel), List.mem_of_getElem? (i := 749) (by decide +kernel)⟩
theorem lw_p27 : lw_okq (⟨"CubeChecker$MaySearch", "goOn", "(I)V"⟩, 11) := ⟨⟨by decide +kernel, by decide +kernel⟩, List.mem_of_getElem? (i := 677) (by decide +kernel), List.mem_of_getElem? (i := 752) (by decide +kernel), List.mem_of_getElem? (i := 753) (by decide +kernel)⟩
theorem lw_p28 : lw_okq (⟨"CubeChecker$MaySearch", "tracePath", "()V"⟩, 11) := ⟨⟨by decide +kernel, by decide +kernel⟩, List.mem_of_getElem? (i := 677) (by decide +kernel), List.mem_of_getElem? (i := 760) (by decide +kernel), List.mem_of_getElem? (i := 761) (by decide +kernel)⟩
theorem lw_p29 : lw_okq (⟨"CubeChecker$Way", "listFirstValues", "([I)I"⟩, 12) := ⟨⟨by decide +kernel, by decide +kernel⟩, List.mem_of_getElem? (i := 632) (by decide +kernel), List.mem_of_getElem? (i := 812) (by decide +kernel), List.mem_of_getElem? (i := 813) (by decide +kernel)⟩
theorem lw_p30 : lw_okq (⟨"CubeChecker$Way", "listAfter", "(I[II[I)I"⟩, 12) := ⟨⟨by decide +kernel, by decide +kernel⟩, List.mem_of_getElem? (i := 632) (by decide +kernel), List.mem_of_getElem? (i := 822) (by decide +kernel), List.mem_of_getElem? (i := 823) (by decide +kernel)⟩
theorem lw_p31 : lw_okq (⟨"CubeChecker$Way", "isEndedBy", "(II)Z"⟩, 12) := ⟨⟨by decide +kernel, by decide +kernel⟩, List.mem_of_getElem? (i := 632) (by decide +kernel), List.mem_of_getElem? (i := 854) (by decide +kernel), List.mem_of_getElem? (i := 855) (by decide +kernel)⟩
def lw_privs_2 : List (MethodName × Nat) := [(⟨"CubeChecker", "isPlace", "(I)Z"⟩, 9), (⟨"CubeChecker", "newestReal", "()LCubeChecker$RealSearch;"⟩, 9), (⟨"CubeChecker$RealSearch", "empty", "()V"⟩, 10), (⟨"CubeChecker$RealSearch", "add", "(IIII)V"⟩, 10), (⟨"CubeChecker$RealSearch", "endOfGroup", "(I)I"⟩, 10), (⟨"CubeChecker$RealSearch", "goOn", "(III)V"⟩, 10), (⟨"CubeChecker$RealSearch", "goBy", "(IIII)V"⟩, 10), (⟨"CubeChecker", "newestMay", "()LCubeChecker$MaySearch;"⟩, 9), (⟨"CubeChecker$Leaps", "find", "(I)V"⟩, 9), (⟨"CubeChecker$MaySearch", "addAll", "(II)V"⟩, 11), (⟨"CubeChecker$MaySearch", "add", "(III)V"⟩, 11), (⟨"CubeChecker$MaySearch", "goOn", "(I)V"⟩, 11), (⟨"CubeChecker$MaySearch", "tracePath", "()V"⟩, 11), (⟨"CubeChecker$Way", "listFirstValues", "([I)I"⟩, 12), (⟨"CubeChecker$Way", "listAfter", "(I[II[I)I"⟩, 12), (⟨"CubeChecker$Way", "isEndedBy", "(II)Z"⟩, 12)]
theorem lw_r2 : ∀ q ∈ lw_privs_2, lw_okq q := List.forall_mem_cons.mpr ⟨lw_p16, List.forall_mem_cons.mpr ⟨lw_p17, List.forall_mem_cons.mpr ⟨lw_p18, List.forall_mem_cons.mpr ⟨lw_p19, List.forall_mem_cons.mpr ⟨lw_p20, List.forall_mem_cons.mpr ⟨lw_p21, List.forall_mem_cons.mpr ⟨lw_p22, List.forall_mem_cons.mpr ⟨lw_p23, List.forall_mem_cons.mpr ⟨lw_p24, List.forall_mem_cons.mpr ⟨lw_p25, List.forall_mem_cons.mpr ⟨lw_p26, List.forall_mem_cons.mpr ⟨lw_p27, List.forall_mem_cons.mpr ⟨lw_p28, List.forall_mem_cons.mpr ⟨lw_p29, List.forall_mem_cons.mpr ⟨lw_p30, List.forall_mem_cons.mpr ⟨lw_p31, fun _ h => absurd h List.not_mem_nil⟩⟩⟩⟩⟩⟩⟩⟩⟩⟩⟩⟩⟩⟩⟩⟩
theorem lw_p32 : lw_okq (⟨"CubeChecker", "lookOnPath", "(LCubeChecker$MaySearch;I)V"⟩, 9) := ⟨⟨by decide +kernel, by decide +kernel⟩, List.mem_of_getElem? (i := 21) (by decide +kernel), List.mem_of_getElem? (i := 860) (by decide +kernel), List.mem_of_getElem? (i := 861) (by decide +kernel)⟩
theorem lw_p33 : lw_okq (⟨"CubeChecker", "lookedAtInAll", "()I"⟩, 9) := ⟨⟨by decide +kernel, by decide +kernel⟩, List.mem_of_getElem? (i := 21) (by decide +kernel), List.mem_of_getElem? (i := 889) (by decide +kernel), List.mem_of_getElem? (i := 890) (by decide +kernel)⟩
theorem lw_p34 : lw_okq (⟨"CubeCheckerModel", "compares", "(IIII)V"⟩, 34) := ⟨⟨by decide +kernel, by decide +kernel⟩, List.mem_of_getElem? (i := 897) (by decide +kernel), List.mem_of_getElem? (i := 903) (by decide +kernel), List.mem_of_getElem? (i := 904) (by decide +kernel)⟩
theorem lw_p35 : lw_okq (⟨"CubeCheckerModel", "joins", "(IIIII)V"⟩, 34) := ⟨⟨by decide +kernel, by decide +kernel⟩, List.mem_of_getElem? (i := 897) (by decide +kernel), List.mem_of_getElem? (i := 907) (by decide +kernel), List.mem_of_getElem? (i := 908) (by decide +kernel)⟩
theorem lw_p36 : lw_okq (⟨"CubeCheckerModel", "acts", "(IIII)V"⟩, 34) := ⟨⟨by decide +kernel, by decide +kernel⟩, List.mem_of_getElem? (i := 897) (by decide +kernel), List.mem_of_getElem? (i := 911) (by decide +kernel), List.mem_of_getElem? (i := 912) (by decide +kernel)⟩
theorem lw_p37 : lw_okq (⟨"CubeCheckerModel", "begins", "()V"⟩, 34) := ⟨⟨by decide +kernel, by decide +kernel⟩, List.mem_of_getElem? (i := 897) (by decide +kernel), List.mem_of_getElem? (i := 915) (by decide +kernel), List.mem_of_getElem? (i := 916) (by decide +kernel)⟩
theorem lw_p38 : lw_okq (⟨"CubeCheckerModel", "reads", "()I"⟩, 34) := ⟨⟨by decide +kernel, by decide +kernel⟩, List.mem_of_getElem? (i := 897) (by decide +kernel), List.mem_of_getElem? (i := 1035) (by decide +kernel), List.mem_of_getElem? (i := 1036) (by decide +kernel)⟩
theorem lw_p39 : lw_okq (⟨"CubeCheckerModel", "readsItem", "(II)Z"⟩, 34) := ⟨⟨by decide +kernel, by decide +kernel⟩, List.mem_of_getElem? (i := 897) (by decide +kernel), List.mem_of_getElem? (i := 1042) (by decide +kernel), List.mem_of_getElem? (i := 1043) (by decide +kernel)⟩
theorem lw_p40 : lw_okq (⟨"CubeCheckerModel", "figure", "(I)I"⟩, 34) := ⟨⟨by decide +kernel, by decide +kernel⟩, List.mem_of_getElem? (i := 897) (by decide +kernel), List.mem_of_getElem? (i := 1046) (by decide +kernel), List.mem_of_getElem? (i := 1047) (by decide +kernel)⟩
theorem lw_p41 : lw_okq (⟨"CubeCheckerModel", "readsPlaces", "(I)Z"⟩, 34) := ⟨⟨by decide +kernel, by decide +kernel⟩, List.mem_of_getElem? (i := 897) (by decide +kernel), List.mem_of_getElem? (i := 1053) (by decide +kernel), List.mem_of_getElem? (i := 1054) (by decide +kernel)⟩
theorem lw_p42 : lw_okq (⟨"CubeCheckerModel", "readsVariable", "(I)Z"⟩, 34) := ⟨⟨by decide +kernel, by decide +kernel⟩, List.mem_of_getElem? (i := 897) (by decide +kernel), List.mem_of_getElem? (i := 1057) (by decide +kernel), List.mem_of_getElem? (i := 1058) (by decide +kernel)⟩
theorem lw_p43 : lw_okq (⟨"CubeCheckerModel", "readsComparison", "(I)Z"⟩, 34) := ⟨⟨by decide +kernel, by decide +kernel⟩, List.mem_of_getElem? (i := 897) (by decide +kernel), List.mem_of_getElem? (i := 1061) (by decide +kernel), List.mem_of_getElem? (i := 1062) (by decide +kernel)⟩
theorem lw_p44 : lw_okq (⟨"CubeCheckerModel", "readsEdge", "(I)Z"⟩, 34) := ⟨⟨by decide +kernel, by decide +kernel⟩, List.mem_of_getElem? (i := 897) (by decide +kernel), List.mem_of_getElem? (i := 1065) (by decide +kernel), List.mem_of_getElem? (i := 1066) (by decide +kernel)⟩
theorem lw_p45 : lw_okq (⟨"CubeCheckerModel", "isEdge", "(I)Z"⟩, 34) := ⟨⟨by decide +kernel, by decide +kernel⟩, List.mem_of_getElem? (i := 897) (by decide +kernel), List.mem_of_getElem? (i := 1077) (by decide +kernel), List.mem_of_getElem? (i := 1078) (by decide +kernel)⟩
theorem lw_p46 : lw_okq (⟨"CubeCheckerModel", "isComparison", "(I)Z"⟩, 34) := ⟨⟨by decide +kernel, by decide +kernel⟩, List.mem_of_getElem? (i := 897) (by decide +kernel), List.mem_of_getElem? (i := 1085) (by decide +kernel), List.mem_of_getElem? (i := 1086) (by decide +kernel)⟩
theorem lw_p47 : lw_okq (⟨"CubeCheckerModel", "isSo", "(II)Z"⟩, 34) := ⟨⟨by decide +kernel, by decide +kernel⟩, List.mem_of_getElem? (i := 897) (by decide +kernel), List.mem_of_getElem? (i := 1092) (by decide +kernel), List.mem_of_getElem? (i := 1093) (by decide +kernel)⟩
def lw_privs_3 : List (MethodName × Nat) := [(⟨"CubeChecker", "lookOnPath", "(LCubeChecker$MaySearch;I)V"⟩, 9), (⟨"CubeChecker", "lookedAtInAll", "()I"⟩, 9), (⟨"CubeCheckerModel", "compares", "(IIII)V"⟩, 34), (⟨"CubeCheckerModel", "joins", "(IIIII)V"⟩, 34), (⟨"CubeCheckerModel", "acts", "(IIII)V"⟩, 34), (⟨"CubeCheckerModel", "begins", "()V"⟩, 34), (⟨"CubeCheckerModel", "reads", "()I"⟩, 34), (⟨"CubeCheckerModel", "readsItem", "(II)Z"⟩, 34), (⟨"CubeCheckerModel", "figure", "(I)I"⟩, 34), (⟨"CubeCheckerModel", "readsPlaces", "(I)Z"⟩, 34), (⟨"CubeCheckerModel", "readsVariable", "(I)Z"⟩, 34), (⟨"CubeCheckerModel", "readsComparison", "(I)Z"⟩, 34), (⟨"CubeCheckerModel", "readsEdge", "(I)Z"⟩, 34), (⟨"CubeCheckerModel", "isEdge", "(I)Z"⟩, 34), (⟨"CubeCheckerModel", "isComparison", "(I)Z"⟩, 34), (⟨"CubeCheckerModel", "isSo", "(II)Z"⟩, 34)]
theorem lw_r3 : ∀ q ∈ lw_privs_3, lw_okq q := List.forall_mem_cons.mpr ⟨lw_p32, List.forall_mem_cons.mpr ⟨lw_p33, List.forall_mem_cons.mpr ⟨lw_p34, List.forall_mem_cons.mpr ⟨lw_p35, List.forall_mem_cons.mpr ⟨lw_p36, List.forall_mem_cons.mpr ⟨lw_p37, List.forall_mem_cons.mpr ⟨lw_p38, List.forall_mem_cons.mpr ⟨lw_p39, List.forall_mem_cons.mpr ⟨lw_p40, List.forall_mem_cons.mpr ⟨lw_p41, List.forall_mem_cons.mpr ⟨lw_p42, List.forall_mem_cons.mpr ⟨lw_p43, List.forall_mem_cons.mpr ⟨lw_p44, List.forall_mem_cons.mpr ⟨lw_p45, List.forall_mem_cons.mpr ⟨lw_p46, List.forall_mem_cons.mpr ⟨lw_p47, fun _ h => absurd h List.not_mem_nil⟩⟩⟩⟩⟩⟩⟩⟩⟩⟩⟩⟩⟩⟩⟩⟩
theorem lw_p48 : lw_okq (⟨"CubeCheckerModel", "goes", "(II)I"⟩, 34) := ⟨⟨by decide +kernel, by decide +kernel⟩, List.mem_of_getElem? (i := 897) (by decide +kernel), List.mem_of_getElem? (i := 1103) (by decide +kernel), List.mem_of_getElem? (i := 1104) (by decide +kernel)⟩
theorem lw_p49 : lw_okq (⟨"CubeCheckerModel", "keeps", "()V"⟩, 34) := ⟨⟨by decide +kernel, by decide +kernel⟩, List.mem_of_getElem? (i := 897) (by decide +kernel), List.mem_of_getElem? (i := 1115) (by decide +kernel), List.mem_of_getElem? (i := 1116) (by decide +kernel)⟩
theorem lw_p50 : lw_okq (⟨"CubeCheckerModel", "isPlace", "(I)Z"⟩, 34) := ⟨⟨by decide +kernel, by decide +kernel⟩, List.mem_of_getElem? (i := 897) (by decide +kernel), List.mem_of_getElem? (i := 1123) (by decide +kernel), List.mem_of_getElem? (i := 1124) (by decide +kernel)⟩
theorem lw_p51 : lw_okq (⟨"CubeCheckerModel", "spreads", "()V"⟩, 34) := ⟨⟨by decide +kernel, by decide +kernel⟩, List.mem_of_getElem? (i := 897) (by decide +kernel), List.mem_of_getElem? (i := 1138) (by decide +kernel), List.mem_of_getElem? (i := 1139) (by decide +kernel)⟩
theorem lw_p52 : lw_okq (⟨"CubeCheckerModel", "isFirst", "(I)Z"⟩, 34) := ⟨⟨by decide +kernel, by decide +kernel⟩, List.mem_of_getElem? (i := 897) (by decide +kernel), List.mem_of_getElem? (i := 1142) (by decide +kernel), List.mem_of_getElem? (i := 1143) (by decide +kernel)⟩
theorem lw_p53 : lw_okq (⟨"CubeCheckerModel", "isThere", "(I)Z"⟩, 34) := ⟨⟨by decide +kernel, by decide +kernel⟩, List.mem_of_getElem? (i := 897) (by decide +kernel), List.mem_of_getElem? (i := 1146) (by decide +kernel), List.mem_of_getElem? (i := 1147) (by decide +kernel)⟩
theorem lw_p54 : lw_okq (⟨"CubeCheckerModel", "meets", "(II)V"⟩, 34) := ⟨⟨by decide +kernel, by decide +kernel⟩, List.mem_of_getElem? (i := 897) (by decide +kernel), List.mem_of_getElem? (i := 1150) (by decide +kernel), List.mem_of_getElem? (i := 1151) (by decide +kernel)⟩
theorem lw_p55 : lw_okq (⟨"CubeCheckerModel", "nearest", "(I)I"⟩, 34) := ⟨⟨by decide +kernel, by decide +kernel⟩, List.mem_of_getElem? (i := 897) (by decide +kernel), List.mem_of_getElem? (i := 1154) (by decide +kernel), List.mem_of_getElem? (i := 1155) (by decide +kernel)⟩
theorem lw_p56 : lw_okq (⟨"CubeCheckerModel", "prunes", "(I)V"⟩, 34) := ⟨⟨by decide +kernel, by decide +kernel⟩, List.mem_of_getElem? (i := 897) (by decide +kernel), List.mem_of_getElem? (i := 1162) (by decide +kernel), List.mem_of_getElem? (i := 1163) (by decide +kernel)⟩
theorem lw_p57 : lw_okq (⟨"CubeCheckerModel", "leads", "(II)Z"⟩, 34) := ⟨⟨by decide +kernel, by decide +kernel⟩, List.mem_of_getElem? (i := 897) (by decide +kernel), List.mem_of_getElem? (i := 1166) (by decide +kernel), List.mem_of_getElem? (i := 1167) (by decide +kernel)⟩
theorem lw_p58 : lw_okq (⟨"CubeCheckerModel", "becomes", "(II)V"⟩, 34) := ⟨⟨by decide +kernel, by decide +kernel⟩, List.mem_of_getElem? (i := 897) (by decide +kernel), List.mem_of_getElem? (i := 1174) (by decide +kernel), List.mem_of_getElem? (i := 1175) (by decide +kernel)⟩
theorem lw_p59 : lw_okq (⟨"CubeCheckerModel", "cube", "(III)I"⟩, 34) := ⟨⟨by decide +kernel, by decide +kernel⟩, List.mem_of_getElem? (i := 897) (by decide +kernel), List.mem_of_getElem? (i := 1178) (by decide +kernel), List.mem_of_getElem? (i := 1179) (by decide +kernel)⟩
theorem lw_p60 : lw_okq (⟨"CubeCheckerModel", "looks", "()V"⟩, 34) := ⟨⟨by decide +kernel, by decide +kernel⟩, List.mem_of_getElem? (i := 897) (by decide +kernel), List.mem_of_getElem? (i := 1186) (by decide +kernel), List.mem_of_getElem? (i := 1187) (by decide +kernel)⟩
theorem lw_p61 : lw_okq (⟨"CubeCheckerModel", "comes", "(II)V"⟩, 34) := ⟨⟨by decide +kernel, by decide +kernel⟩, List.mem_of_getElem? (i := 897) (by decide +kernel), List.mem_of_getElem? (i := 1190) (by decide +kernel), List.mem_of_getElem? (i := 1191) (by decide +kernel)⟩
theorem lw_p62 : lw_okq (⟨"CubeCheckerModel", "findsPath", "()Z"⟩, 34) := ⟨⟨by decide +kernel, by decide +kernel⟩, List.mem_of_getElem? (i := 897) (by decide +kernel), List.mem_of_getElem? (i := 1202) (by decide +kernel), List.mem_of_getElem? (i := 1203) (by decide +kernel)⟩
theorem lw_p63 : lw_okq (⟨"CubeCheckerModel", "farOfPath", "()I"⟩, 34) := ⟨⟨by decide +kernel, by decide +kernel⟩, List.mem_of_getElem? (i := 897) (by decide +kernel), List.mem_of_getElem? (i := 1206) (by decide +kernel), List.mem_of_getElem? (i := 1207) (by decide +kernel)⟩
def lw_privs_4 : List (MethodName × Nat) := [(⟨"CubeCheckerModel", "goes", "(II)I"⟩, 34), (⟨"CubeCheckerModel", "keeps", "()V"⟩, 34), (⟨"CubeCheckerModel", "isPlace", "(I)Z"⟩, 34), (⟨"CubeCheckerModel", "spreads", "()V"⟩, 34), (⟨"CubeCheckerModel", "isFirst", "(I)Z"⟩, 34), (⟨"CubeCheckerModel", "isThere", "(I)Z"⟩, 34), (⟨"CubeCheckerModel", "meets", "(II)V"⟩, 34), (⟨"CubeCheckerModel", "nearest", "(I)I"⟩, 34), (⟨"CubeCheckerModel", "prunes", "(I)V"⟩, 34), (⟨"CubeCheckerModel", "leads", "(II)Z"⟩, 34), (⟨"CubeCheckerModel", "becomes", "(II)V"⟩, 34), (⟨"CubeCheckerModel", "cube", "(III)I"⟩, 34), (⟨"CubeCheckerModel", "looks", "()V"⟩, 34), (⟨"CubeCheckerModel", "comes", "(II)V"⟩, 34), (⟨"CubeCheckerModel", "findsPath", "()Z"⟩, 34), (⟨"CubeCheckerModel", "farOfPath", "()I"⟩, 34)]
theorem lw_r4 : ∀ q ∈ lw_privs_4, lw_okq q := List.forall_mem_cons.mpr ⟨lw_p48, List.forall_mem_cons.mpr ⟨lw_p49, List.forall_mem_cons.mpr ⟨lw_p50, List.forall_mem_cons.mpr ⟨lw_p51, List.forall_mem_cons.mpr ⟨lw_p52, List.forall_mem_cons.mpr ⟨lw_p53, List.forall_mem_cons.mpr ⟨lw_p54, List.forall_mem_cons.mpr ⟨lw_p55, List.forall_mem_cons.mpr ⟨lw_p56, List.forall_mem_cons.mpr ⟨lw_p57, List.forall_mem_cons.mpr ⟨lw_p58, List.forall_mem_cons.mpr ⟨lw_p59, List.forall_mem_cons.mpr ⟨lw_p60, List.forall_mem_cons.mpr ⟨lw_p61, List.forall_mem_cons.mpr ⟨lw_p62, List.forall_mem_cons.mpr ⟨lw_p63, fun _ h => absurd h List.not_mem_nil⟩⟩⟩⟩⟩⟩⟩⟩⟩⟩⟩⟩⟩⟩⟩⟩
theorem lw_p64 : lw_okq (⟨"CubeCheckerModel", "setFor", "()I"⟩, 34) := ⟨⟨by decide +kernel, by decide +kernel⟩, List.mem_of_getElem? (i := 897) (by decide +kernel), List.mem_of_getElem? (i := 1214) (by decide +kernel), List.mem_of_getElem? (i := 1215) (by decide +kernel)⟩
theorem lw_p65 : lw_okq (⟨"CubeCheckerModel", "isEnded", "(I)Z"⟩, 34) := ⟨⟨by decide +kernel, by decide +kernel⟩, List.mem_of_getElem? (i := 897) (by decide +kernel), List.mem_of_getElem? (i := 1218) (by decide +kernel), List.mem_of_getElem? (i := 1219) (by decide +kernel)⟩
theorem lw_p66 : lw_okq (⟨"CubeCheckerModel", "looksMore", "(I)V"⟩, 34) := ⟨⟨by decide +kernel, by decide +kernel⟩, List.mem_of_getElem? (i := 897) (by decide +kernel), List.mem_of_getElem? (i := 1222) (by decide +kernel), List.mem_of_getElem? (i := 1223) (by decide +kernel)⟩
theorem lw_p67 : lw_okq (⟨"CubeCheckerModel", "how", "()I"⟩, 34) := ⟨⟨by decide +kernel, by decide +kernel⟩, List.mem_of_getElem? (i := 897) (by decide +kernel), List.mem_of_getElem? (i := 1230) (by decide +kernel), List.mem_of_getElem? (i := 1231) (by decide +kernel)⟩
def lw_privs_5 : List (MethodName × Nat) := [(⟨"CubeCheckerModel", "setFor", "()I"⟩, 34), (⟨"CubeCheckerModel", "isEnded", "(I)Z"⟩, 34), (⟨"CubeCheckerModel", "looksMore", "(I)V"⟩, 34), (⟨"CubeCheckerModel", "how", "()I"⟩, 34)]
theorem lw_r5 : ∀ q ∈ lw_privs_5, lw_okq q := List.forall_mem_cons.mpr ⟨lw_p64, List.forall_mem_cons.mpr ⟨lw_p65, List.forall_mem_cons.mpr ⟨lw_p66, List.forall_mem_cons.mpr ⟨lw_p67, fun _ h => absurd h List.not_mem_nil⟩⟩⟩⟩
def lw_privs : List (MethodName × Nat) := lw_privs_1 ++ (lw_privs_2 ++ (lw_privs_3 ++ (lw_privs_4 ++ (lw_privs_5))))
def lw_tbl : List Cond := k2_sels lw_privs ++ tables_1
theorem lw_privs_ok : ∀ q ∈ lw_privs, lw_okq q := by
  show ∀ q ∈ lw_privs_1 ++ (lw_privs_2 ++ (lw_privs_3 ++ (lw_privs_4 ++ (lw_privs_5)))), lw_okq q
  exact List.forall_mem_append.mpr ⟨lw_r1, List.forall_mem_append.mpr ⟨lw_r2, List.forall_mem_append.mpr ⟨lw_r3, List.forall_mem_append.mpr ⟨lw_r4, lw_r5⟩⟩⟩⟩
def RX0 : String := "CubeChecker$History"
def TX0 : u_T := fun k => match k with
  | 0 => ("CubeChecker$History", "lookedAt", "[[I", true)
  | 1 => ("CubeChecker$History", "wants", "[I", true)
  | 2 => ("CubeChecker$History", "kept", "I", false)
  | _ => ("CubeChecker$History", "next", "I", false)
def tyX0 : Nat → FieldType := fun k => match k with
  | 0 => .array (.array .int)
  | 1 => .array .int
  | 2 => .int
  | _ => .int
abbrev wsX00 : List Cond := u_ws RX0 TX0 4
theorem nmX0 : ∀ a, a < 4 → ∀ b, b < 4 → a ≠ b → (TX0 a).2.1 ≠ (TX0 b).2.1 := by decide +kernel
theorem tyX0_ok : ∀ k, k < 4 → parseFieldDescriptor (TX0 k).2.2.1 = some (tyX0 k) := by decide +kernel
abbrev cX0_init : ByteArray := prog_2_method_1_code
def yX0_init : MethodName := ⟨RX0, "<init>", "()V"⟩
abbrev cX0_size : ByteArray := prog_2_method_2_code
def yX0_size : MethodName := ⟨RX0, "size", "()I"⟩
abbrev cX0_empty : ByteArray := prog_2_method_3_code
def yX0_empty : MethodName := ⟨RX0, "empty", "()V"⟩
abbrev cX0_keep : ByteArray := prog_2_method_4_code
def yX0_keep : MethodName := ⟨RX0, "keep", "([II)V"⟩
abbrev cX0_takeBack : ByteArray := prog_2_method_5_code
def yX0_takeBack : MethodName := ⟨RX0, "takeBack", "([I)I"⟩
def RX1 : String := "CubeChecker$Leaps"
def TX1 : u_T := fun k => match k with
  | 0 => ("CubeChecker$Leaps", "program", "LCubeChecker$Program;", true)
  | 1 => ("CubeChecker$Leaps", "meaning", "LCubeChecker$Meaning;", true)
  | 2 => ("CubeChecker$Leaps", "leap", "[[I", true)
  | 3 => ("CubeChecker$Leaps", "leaps", "[I", true)
  | 4 => ("CubeChecker$Leaps", "foundFor", "[I", true)
  | 5 => ("CubeChecker$Leaps", "ordered", "[I", true)
  | 6 => ("CubeChecker$Leaps", "start", "[I", true)
  | 7 => ("CubeChecker$Leaps", "first", "LCubeChecker$NumberSet;", true)
  | _ => ("CubeChecker$Leaps", "behind", "LCubeChecker$NumberSet;", true)
def tyX1 : Nat → FieldType := fun k => match k with
  | 0 => .object "CubeChecker$Program"
  | 1 => .object "CubeChecker$Meaning"
  | 2 => .array (.array .int)
  | 3 => .array .int
  | 4 => .array .int
  | 5 => .array .int
  | 6 => .array .int
  | 7 => .object "CubeChecker$NumberSet"
  | _ => .object "CubeChecker$NumberSet"
abbrev wsX10 : List Cond := u_ws RX1 TX1 9
theorem nmX1 : ∀ a, a < 9 → ∀ b, b < 9 → a ≠ b → (TX1 a).2.1 ≠ (TX1 b).2.1 := by decide +kernel
theorem tyX1_ok : ∀ k, k < 9 → parseFieldDescriptor (TX1 k).2.2.1 = some (tyX1 k) := by decide +kernel
abbrev cX1_init : ByteArray := prog_3_method_1_code
def yX1_init : MethodName := ⟨RX1, "<init>", "(LCubeChecker$Program;LCubeChecker$Meaning;)V"⟩
abbrev cX1_takeProgram : ByteArray := prog_3_method_2_code
def yX1_takeProgram : MethodName := ⟨RX1, "takeProgram", "()V"⟩
abbrev cX1_renew : ByteArray := prog_3_method_3_code
def yX1_renew : MethodName := ⟨RX1, "renew", "()V"⟩
abbrev cX1_putFirstCubes : ByteArray := prog_3_method_4_code
def yX1_putFirstCubes : MethodName := ⟨RX1, "putFirstCubes", "(ILCubeChecker$NumberSet;)V"⟩
abbrev cX1_putNextCubes : ByteArray := prog_3_method_5_code
def yX1_putNextCubes : MethodName := ⟨RX1, "putNextCubes", "(I[ILCubeChecker$NumberSet;LCubeChecker$NumberSet;)Z"⟩
abbrev cX1_orderValues : ByteArray := prog_3_method_6_code
def yX1_orderValues : MethodName := ⟨RX1, "orderValues", "()V"⟩
abbrev cX1_find : ByteArray := prog_3_method_7_code
def yX1_find : MethodName := ⟨RX1, "find", "(I)V"⟩
def RX2 : String := "CubeChecker$MaySearch"
def TX2 : u_T := fun k => match k with
  | 0 => ("CubeChecker$MaySearch", "program", "LCubeChecker$Program;", true)
  | 1 => ("CubeChecker$MaySearch", "leaps", "LCubeChecker$Leaps;", true)
  | 2 => ("CubeChecker$MaySearch", "way", "LCubeChecker$Way;", true)
  | 3 => ("CubeChecker$MaySearch", "lookedAt", "[I", true)
  | 4 => ("CubeChecker$MaySearch", "node", "[I", true)
  | 5 => ("CubeChecker$MaySearch", "from", "[I", true)
  | 6 => ("CubeChecker$MaySearch", "seen", "LCubeChecker$NumberSet;", true)
  | 7 => ("CubeChecker$MaySearch", "now", "LCubeChecker$NumberSet;", true)
  | 8 => ("CubeChecker$MaySearch", "then", "LCubeChecker$NumberSet;", true)
  | 9 => ("CubeChecker$MaySearch", "came", "I", false)
  | _ => ("CubeChecker$MaySearch", "firstOfTrap", "I", false)
def tyX2 : Nat → FieldType := fun k => match k with
  | 0 => .object "CubeChecker$Program"
  | 1 => .object "CubeChecker$Leaps"
  | 2 => .object "CubeChecker$Way"
  | 3 => .array .int
  | 4 => .array .int
  | 5 => .array .int
  | 6 => .object "CubeChecker$NumberSet"
  | 7 => .object "CubeChecker$NumberSet"
  | 8 => .object "CubeChecker$NumberSet"
  | 9 => .int
  | _ => .int
abbrev wsX20 : List Cond := u_ws RX2 TX2 11
theorem nmX2 : ∀ a, a < 11 → ∀ b, b < 11 → a ≠ b → (TX2 a).2.1 ≠ (TX2 b).2.1 := by decide +kernel
theorem tyX2_ok : ∀ k, k < 11 → parseFieldDescriptor (TX2 k).2.2.1 = some (tyX2 k) := by decide +kernel
abbrev cX2_init : ByteArray := prog_4_method_1_code
def yX2_init : MethodName := ⟨RX2, "<init>", "(LCubeChecker$Program;LCubeChecker$Leaps;LCubeChecker$Way;[I)V"⟩
abbrev cX2_takeProgram : ByteArray := prog_4_method_2_code
def yX2_takeProgram : MethodName := ⟨RX2, "takeProgram", "()V"⟩
abbrev cX2_search : ByteArray := prog_4_method_3_code
def yX2_search : MethodName := ⟨RX2, "search", "()V"⟩
abbrev cX2_states : ByteArray := prog_4_method_4_code
def yX2_states : MethodName := ⟨RX2, "states", "()I"⟩
abbrev cX2_statesOf : ByteArray := prog_4_method_5_code
def yX2_statesOf : MethodName := ⟨RX2, "statesOf", "(I)I"⟩
abbrev cX2_cubeOf : ByteArray := prog_4_method_6_code
def yX2_cubeOf : MethodName := ⟨RX2, "cubeOf", "(II)I"⟩
abbrev cX2_foundAt : ByteArray := prog_4_method_7_code
def yX2_foundAt : MethodName := ⟨RX2, "foundAt", "(I)I"⟩
abbrev cX2_becomes : ByteArray := prog_4_method_8_code
def yX2_becomes : MethodName := ⟨RX2, "becomes", "(III)Z"⟩
abbrev cX2_isSafe : ByteArray := prog_4_method_9_code
def yX2_isSafe : MethodName := ⟨RX2, "isSafe", "()Z"⟩
abbrev cX2_way : ByteArray := prog_4_method_10_code
def yX2_way : MethodName := ⟨RX2, "way", "()LCubeChecker$Way;"⟩
abbrev cX2_goOn : ByteArray := prog_4_method_11_code
def yX2_goOn : MethodName := ⟨RX2, "goOn", "(I)V"⟩
abbrev cX2_addAll : ByteArray := prog_4_method_12_code
def yX2_addAll : MethodName := ⟨RX2, "addAll", "(II)V"⟩
abbrev cX2_add : ByteArray := prog_4_method_13_code
def yX2_add : MethodName := ⟨RX2, "add", "(III)V"⟩
abbrev cX2_tracePath : ByteArray := prog_4_method_14_code
def yX2_tracePath : MethodName := ⟨RX2, "tracePath", "()V"⟩
def RX3 : String := "CubeChecker$Meaning"
def TX3 : u_T := fun k => match k with
  | 0 => ("CubeChecker$Meaning", "program", "LCubeChecker$Program;", true)
  | 1 => ("CubeChecker$Meaning", "sos", "[I", true)
  | 2 => ("CubeChecker$Meaning", "first", "[I", true)
  | 3 => ("CubeChecker$Meaning", "firsts", "I", false)
  | 4 => ("CubeChecker$Meaning", "size", "I", false)
  | _ => ("CubeChecker$Meaning", "gap", "I", false)
def tyX3 : Nat → FieldType := fun k => match k with
  | 0 => .object "CubeChecker$Program"
  | 1 => .array .int
  | 2 => .array .int
  | 3 => .int
  | 4 => .int
  | _ => .int
abbrev wsX30 : List Cond := u_ws RX3 TX3 6
theorem nmX3 : ∀ a, a < 6 → ∀ b, b < 6 → a ≠ b → (TX3 a).2.1 ≠ (TX3 b).2.1 := by decide +kernel
theorem tyX3_ok : ∀ k, k < 6 → parseFieldDescriptor (TX3 k).2.2.1 = some (tyX3 k) := by decide +kernel
abbrev cX3_init : ByteArray := prog_5_method_1_code
def yX3_init : MethodName := ⟨RX3, "<init>", "(LCubeChecker$Program;)V"⟩
abbrev cX3_learn : ByteArray := prog_5_method_2_code
def yX3_learn : MethodName := ⟨RX3, "learn", "()V"⟩
abbrev cX3_size : ByteArray := prog_5_method_3_code
def yX3_size : MethodName := ⟨RX3, "size", "()I"⟩
abbrev cX3_valuesAt : ByteArray := prog_5_method_4_code
def yX3_valuesAt : MethodName := ⟨RX3, "valuesAt", "(I)I"⟩
abbrev cX3_valuesOf : ByteArray := prog_5_method_5_code
def yX3_valuesOf : MethodName := ⟨RX3, "valuesOf", "(III)I"⟩
abbrev cX3_firsts : ByteArray := prog_5_method_6_code
def yX3_firsts : MethodName := ⟨RX3, "firsts", "()I"⟩
abbrev cX3_firstAt : ByteArray := prog_5_method_7_code
def yX3_firstAt : MethodName := ⟨RX3, "firstAt", "(I)I"⟩
abbrev cX3_sosOf : ByteArray := prog_5_method_8_code
def yX3_sosOf : MethodName := ⟨RX3, "sosOf", "(I)I"⟩
abbrev cX3_after : ByteArray := prog_5_method_9_code
def yX3_after : MethodName := ⟨RX3, "after", "(II)I"⟩
abbrev cX3_areFirst : ByteArray := prog_5_method_10_code
def yX3_areFirst : MethodName := ⟨RX3, "areFirst", "(I)Z"⟩
abbrev cX3_findSos : ByteArray := prog_5_method_11_code
def yX3_findSos : MethodName := ⟨RX3, "findSos", "(I)I"⟩
abbrev cX3_isSo : ByteArray := prog_5_method_12_code
def yX3_isSo : MethodName := ⟨RX3, "isSo", "([II)Z"⟩
abbrev cX3_valueOf : ByteArray := prog_5_method_13_code
def yX3_valueOf : MethodName := ⟨RX3, "valueOf", "(II)I"⟩
def RX4 : String := "CubeChecker$NumberSet"
def TX4 : u_T := fun k => match k with
  | _ => ("CubeChecker$NumberSet", "words", "[I", true)
def tyX4 : Nat → FieldType := fun k => match k with
  | _ => .array .int
abbrev wsX40 : List Cond := u_ws RX4 TX4 1
theorem nmX4 : ∀ a, a < 1 → ∀ b, b < 1 → a ≠ b → (TX4 a).2.1 ≠ (TX4 b).2.1 := by decide +kernel
theorem tyX4_ok : ∀ k, k < 1 → parseFieldDescriptor (TX4 k).2.2.1 = some (tyX4 k) := by decide +kernel
abbrev cX4_init : ByteArray := prog_6_method_1_code
def yX4_init : MethodName := ⟨RX4, "<init>", "(I)V"⟩
abbrev cX4_empty : ByteArray := prog_6_method_2_code
def yX4_empty : MethodName := ⟨RX4, "empty", "()V"⟩
abbrev cX4_has : ByteArray := prog_6_method_3_code
def yX4_has : MethodName := ⟨RX4, "has", "(I)Z"⟩
abbrev cX4_add : ByteArray := prog_6_method_4_code
def yX4_add : MethodName := ⟨RX4, "add", "(I)Z"⟩
def RX5 : String := "CubeChecker$Program"
def TX5 : u_T := fun k => match k with
  | 0 => ("CubeChecker$Program", "places", "I", false)
  | 1 => ("CubeChecker$Program", "trap", "I", false)
  | 2 => ("CubeChecker$Program", "variables", "I", false)
  | 3 => ("CubeChecker$Program", "comparisons", "I", false)
  | 4 => ("CubeChecker$Program", "edges", "I", false)
  | 5 => ("CubeChecker$Program", "low", "[I", true)
  | 6 => ("CubeChecker$Program", "high", "[I", true)
  | 7 => ("CubeChecker$Program", "comparison", "[[I", true)
  | _ => ("CubeChecker$Program", "edge", "[[I", true)
def tyX5 : Nat → FieldType := fun k => match k with
  | 0 => .int
  | 1 => .int
  | 2 => .int
  | 3 => .int
  | 4 => .int
  | 5 => .array .int
  | 6 => .array .int
  | 7 => .array (.array .int)
  | _ => .array (.array .int)
abbrev wsX50 : List Cond := u_ws RX5 TX5 9
theorem nmX5 : ∀ a, a < 9 → ∀ b, b < 9 → a ≠ b → (TX5 a).2.1 ≠ (TX5 b).2.1 := by decide +kernel
theorem tyX5_ok : ∀ k, k < 9 → parseFieldDescriptor (TX5 k).2.2.1 = some (tyX5 k) := by decide +kernel
abbrev cX5_init : ByteArray := prog_7_method_1_code
def yX5_init : MethodName := ⟨RX5, "<init>", "()V"⟩
abbrev cX5_empty : ByteArray := prog_7_method_2_code
def yX5_empty : MethodName := ⟨RX5, "empty", "()V"⟩
abbrev cX5_become : ByteArray := prog_7_method_3_code
def yX5_become : MethodName := ⟨RX5, "become", "(LCubeChecker$Program;)V"⟩
abbrev cX5_wants : ByteArray := prog_7_method_4_code
def yX5_wants : MethodName := ⟨RX5, "wants", "()I"⟩
abbrev cX5_setWants : ByteArray := prog_7_method_5_code
def yX5_setWants : MethodName := ⟨RX5, "setWants", "(I)V"⟩
def RX6 : String := "CubeChecker$RealSearch"
def TX6 : u_T := fun k => match k with
  | 0 => ("CubeChecker$RealSearch", "program", "LCubeChecker$Program;", true)
  | 1 => ("CubeChecker$RealSearch", "meaning", "LCubeChecker$Meaning;", true)
  | 2 => ("CubeChecker$RealSearch", "node", "[I", true)
  | 3 => ("CubeChecker$RealSearch", "from", "[I", true)
  | 4 => ("CubeChecker$RealSearch", "seen", "LCubeChecker$NumberSet;", true)
  | 5 => ("CubeChecker$RealSearch", "distance", "[I", true)
  | 6 => ("CubeChecker$RealSearch", "realValues", "[I", true)
  | 7 => ("CubeChecker$RealSearch", "holds", "[I", true)
  | 8 => ("CubeChecker$RealSearch", "came", "I", false)
  | _ => ("CubeChecker$RealSearch", "endOfRun", "I", false)
def tyX6 : Nat → FieldType := fun k => match k with
  | 0 => .object "CubeChecker$Program"
  | 1 => .object "CubeChecker$Meaning"
  | 2 => .array .int
  | 3 => .array .int
  | 4 => .object "CubeChecker$NumberSet"
  | 5 => .array .int
  | 6 => .array .int
  | 7 => .array .int
  | 8 => .int
  | _ => .int
abbrev wsX60 : List Cond := u_ws RX6 TX6 10
theorem nmX6 : ∀ a, a < 10 → ∀ b, b < 10 → a ≠ b → (TX6 a).2.1 ≠ (TX6 b).2.1 := by decide +kernel
theorem tyX6_ok : ∀ k, k < 10 → parseFieldDescriptor (TX6 k).2.2.1 = some (tyX6 k) := by decide +kernel
abbrev cX6_init : ByteArray := prog_8_method_1_code
def yX6_init : MethodName := ⟨RX6, "<init>", "(LCubeChecker$Program;LCubeChecker$Meaning;)V"⟩
abbrev cX6_distanceOf : ByteArray := prog_8_method_2_code
def yX6_distanceOf : MethodName := ⟨RX6, "distanceOf", "(I)I"⟩
abbrev cX6_valuesAt : ByteArray := prog_8_method_3_code
def yX6_valuesAt : MethodName := ⟨RX6, "valuesAt", "(I)I"⟩
abbrev cX6_holdsAt : ByteArray := prog_8_method_4_code
def yX6_holdsAt : MethodName := ⟨RX6, "holdsAt", "(I)I"⟩
abbrev cX6_edgeOfRun : ByteArray := prog_8_method_5_code
def yX6_edgeOfRun : MethodName := ⟨RX6, "edgeOfRun", "(I)I"⟩
abbrev cX6_search : ByteArray := prog_8_method_6_code
def yX6_search : MethodName := ⟨RX6, "search", "()V"⟩
abbrev cX6_empty : ByteArray := prog_8_method_7_code
def yX6_empty : MethodName := ⟨RX6, "empty", "()V"⟩
abbrev cX6_endOfGroup : ByteArray := prog_8_method_8_code
def yX6_endOfGroup : MethodName := ⟨RX6, "endOfGroup", "(I)I"⟩
abbrev cX6_goOn : ByteArray := prog_8_method_9_code
def yX6_goOn : MethodName := ⟨RX6, "goOn", "(III)V"⟩
abbrev cX6_goBy : ByteArray := prog_8_method_10_code
def yX6_goBy : MethodName := ⟨RX6, "goBy", "(IIII)V"⟩
abbrev cX6_add : ByteArray := prog_8_method_11_code
def yX6_add : MethodName := ⟨RX6, "add", "(IIII)V"⟩
def RX7 : String := "CubeChecker$Text"
def TX7 : u_T := fun k => match k with
  | 0 => ("CubeChecker$Text", "letters", "[C", true)
  | 1 => ("CubeChecker$Text", "length", "I", false)
  | 2 => ("CubeChecker$Text", "told", "LCubeChecker$Program;", true)
  | _ => ("CubeChecker$Text", "figures", "[I", true)
def tyX7 : Nat → FieldType := fun k => match k with
  | 0 => .array .char
  | 1 => .int
  | 2 => .object "CubeChecker$Program"
  | _ => .array .int
abbrev wsX70 : List Cond := u_ws RX7 TX7 4
theorem nmX7 : ∀ a, a < 4 → ∀ b, b < 4 → a ≠ b → (TX7 a).2.1 ≠ (TX7 b).2.1 := by decide +kernel
theorem tyX7_ok : ∀ k, k < 4 → parseFieldDescriptor (TX7 k).2.2.1 = some (tyX7 k) := by decide +kernel
abbrev cX7_init : ByteArray := prog_9_method_1_code
def yX7_init : MethodName := ⟨RX7, "<init>", "()V"⟩
abbrev cX7_size : ByteArray := prog_9_method_2_code
def yX7_size : MethodName := ⟨RX7, "size", "()I"⟩
abbrev cX7_empty : ByteArray := prog_9_method_3_code
def yX7_empty : MethodName := ⟨RX7, "empty", "()V"⟩
abbrev cX7_add : ByteArray := prog_9_method_4_code
def yX7_add : MethodName := ⟨RX7, "add", "(C)Z"⟩
abbrev cX7_program : ByteArray := prog_9_method_5_code
def yX7_program : MethodName := ⟨RX7, "program", "()LCubeChecker$Program;"⟩
abbrev cX7_firstFault : ByteArray := prog_9_method_6_code
def yX7_firstFault : MethodName := ⟨RX7, "firstFault", "()I"⟩
abbrev cX7_figuresBehind : ByteArray := prog_9_method_7_code
def yX7_figuresBehind : MethodName := ⟨RX7, "figuresBehind", "(C)I"⟩
abbrev cX7_takeFigures : ByteArray := prog_9_method_8_code
def yX7_takeFigures : MethodName := ⟨RX7, "takeFigures", "(II)Z"⟩
abbrev cX7_tell : ByteArray := prog_9_method_9_code
def yX7_tell : MethodName := ⟨RX7, "tell", "(C)Z"⟩
abbrev cX7_tellPlaces : ByteArray := prog_9_method_10_code
def yX7_tellPlaces : MethodName := ⟨RX7, "tellPlaces", "()Z"⟩
abbrev cX7_tellVariable : ByteArray := prog_9_method_11_code
def yX7_tellVariable : MethodName := ⟨RX7, "tellVariable", "()Z"⟩
abbrev cX7_tellComparison : ByteArray := prog_9_method_12_code
def yX7_tellComparison : MethodName := ⟨RX7, "tellComparison", "()Z"⟩
abbrev cX7_tellEdge : ByteArray := prog_9_method_13_code
def yX7_tellEdge : MethodName := ⟨RX7, "tellEdge", "()Z"⟩
abbrev cX7_edgeJoinsAndAsksWell : ByteArray := prog_9_method_14_code
def yX7_edgeJoinsAndAsksWell : MethodName := ⟨RX7, "edgeJoinsAndAsksWell", "()Z"⟩
abbrev cX7_edgeDoesWell : ByteArray := prog_9_method_15_code
def yX7_edgeDoesWell : MethodName := ⟨RX7, "edgeDoesWell", "()Z"⟩
abbrev cX7_isVariable : ByteArray := prog_9_method_16_code
def yX7_isVariable : MethodName := ⟨RX7, "isVariable", "(I)Z"⟩
def RX8 : String := "CubeChecker$Way"
def TX8 : u_T := fun k => match k with
  | 0 => ("CubeChecker$Way", "program", "LCubeChecker$Program;", true)
  | 1 => ("CubeChecker$Way", "meaning", "LCubeChecker$Meaning;", true)
  | 2 => ("CubeChecker$Way", "leaps", "LCubeChecker$Leaps;", true)
  | 3 => ("CubeChecker$Way", "lookedAt", "[I", true)
  | 4 => ("CubeChecker$Way", "row", "[I", true)
  | 5 => ("CubeChecker$Way", "length", "I", false)
  | 6 => ("CubeChecker$Way", "looksThen", "[I", true)
  | 7 => ("CubeChecker$Way", "someCubes", "LCubeChecker$NumberSet;", true)
  | 8 => ("CubeChecker$Way", "otherCubes", "LCubeChecker$NumberSet;", true)
  | 9 => ("CubeChecker$Way", "someValues", "[I", true)
  | 10 => ("CubeChecker$Way", "otherValues", "[I", true)
  | _ => ("CubeChecker$Way", "listed", "LCubeChecker$NumberSet;", true)
def tyX8 : Nat → FieldType := fun k => match k with
  | 0 => .object "CubeChecker$Program"
  | 1 => .object "CubeChecker$Meaning"
  | 2 => .object "CubeChecker$Leaps"
  | 3 => .array .int
  | 4 => .array .int
  | 5 => .int
  | 6 => .array .int
  | 7 => .object "CubeChecker$NumberSet"
  | 8 => .object "CubeChecker$NumberSet"
  | 9 => .array .int
  | 10 => .array .int
  | _ => .object "CubeChecker$NumberSet"
abbrev wsX80 : List Cond := u_ws RX8 TX8 12
theorem nmX8 : ∀ a, a < 12 → ∀ b, b < 12 → a ≠ b → (TX8 a).2.1 ≠ (TX8 b).2.1 := by decide +kernel
theorem tyX8_ok : ∀ k, k < 12 → parseFieldDescriptor (TX8 k).2.2.1 = some (tyX8 k) := by decide +kernel
abbrev cX8_init : ByteArray := prog_10_method_1_code
def yX8_init : MethodName := ⟨RX8, "<init>", "(LCubeChecker$Program;LCubeChecker$Meaning;LCubeChecker$Leaps;[I)V"⟩
abbrev cX8_empty : ByteArray := prog_10_method_2_code
def yX8_empty : MethodName := ⟨RX8, "empty", "()V"⟩
abbrev cX8_putAhead : ByteArray := prog_10_method_3_code
def yX8_putAhead : MethodName := ⟨RX8, "putAhead", "(I)V"⟩
abbrev cX8_length : ByteArray := prog_10_method_4_code
def yX8_length : MethodName := ⟨RX8, "length", "()I"⟩
abbrev cX8_edgeAt : ByteArray := prog_10_method_5_code
def yX8_edgeAt : MethodName := ⟨RX8, "edgeAt", "(I)I"⟩
abbrev cX8_isReal : ByteArray := prog_10_method_6_code
def yX8_isReal : MethodName := ⟨RX8, "isReal", "()Z"⟩
abbrev cX8_far : ByteArray := prog_10_method_7_code
def yX8_far : MethodName := ⟨RX8, "far", "()I"⟩
abbrev cX8_places : ByteArray := prog_10_method_8_code
def yX8_places : MethodName := ⟨RX8, "places", "()I"⟩
abbrev cX8_leastSetThatEnds : ByteArray := prog_10_method_9_code
def yX8_leastSetThatEnds : MethodName := ⟨RX8, "leastSetThatEnds", "()I"⟩
abbrev cX8_listFirstValues : ByteArray := prog_10_method_10_code
def yX8_listFirstValues : MethodName := ⟨RX8, "listFirstValues", "([I)I"⟩
abbrev cX8_listAfter : ByteArray := prog_10_method_11_code
def yX8_listAfter : MethodName := ⟨RX8, "listAfter", "(I[II[I)I"⟩
abbrev cX8_isEndedBy : ByteArray := prog_10_method_12_code
def yX8_isEndedBy : MethodName := ⟨RX8, "isEndedBy", "(II)Z"⟩
def RX9 : String := "CubeChecker"
def TX9 : u_T := fun k => match k with
  | 0 => ("CubeChecker", "text", "LCubeChecker$Text;", true)
  | 1 => ("CubeChecker", "program", "LCubeChecker$Program;", true)
  | 2 => ("CubeChecker", "meaning", "LCubeChecker$Meaning;", true)
  | 3 => ("CubeChecker", "lookedAt", "[I", true)
  | 4 => ("CubeChecker", "history", "LCubeChecker$History;", true)
  | 5 => ("CubeChecker", "realSearch", "LCubeChecker$RealSearch;", false)
  | 6 => ("CubeChecker", "maySearch", "LCubeChecker$MaySearch;", false)
  | 7 => ("CubeChecker", "realSearchIsOld", "Z", false)
  | _ => ("CubeChecker", "maySearchIsOld", "Z", false)
def tyX9 : Nat → FieldType := fun k => match k with
  | 0 => .object "CubeChecker$Text"
  | 1 => .object "CubeChecker$Program"
  | 2 => .object "CubeChecker$Meaning"
  | 3 => .array .int
  | 4 => .object "CubeChecker$History"
  | 5 => .object "CubeChecker$RealSearch"
  | 6 => .object "CubeChecker$MaySearch"
  | 7 => .boolean
  | _ => .boolean
abbrev wsX90 : List Cond := u_ws RX9 TX9 9
theorem nmX9 : ∀ a, a < 9 → ∀ b, b < 9 → a ≠ b → (TX9 a).2.1 ≠ (TX9 b).2.1 := by decide +kernel
theorem tyX9_ok : ∀ k, k < 9 → parseFieldDescriptor (TX9 k).2.2.1 = some (tyX9 k) := by decide +kernel
abbrev cX9_init : ByteArray := prog_1_method_1_code
def yX9_init : MethodName := ⟨RX9, "<init>", "()V"⟩
abbrev cX9_write : ByteArray := prog_1_method_2_code
def yX9_write : MethodName := ⟨RX9, "write", "(I)I"⟩
abbrev cX9_wipe : ByteArray := prog_1_method_3_code
def yX9_wipe : MethodName := ⟨RX9, "wipe", "()I"⟩
abbrev cX9_fault : ByteArray := prog_1_method_4_code
def yX9_fault : MethodName := ⟨RX9, "fault", "()I"⟩
abbrev cX9_lay : ByteArray := prog_1_method_5_code
def yX9_lay : MethodName := ⟨RX9, "lay", "()I"⟩
abbrev cX9_edge : ByteArray := prog_1_method_6_code
def yX9_edge : MethodName := ⟨RX9, "edge", "(II)I"⟩
abbrev cX9_turn : ByteArray := prog_1_method_7_code
def yX9_turn : MethodName := ⟨RX9, "turn", "(I)I"⟩
abbrev cX9_so : ByteArray := prog_1_method_8_code
def yX9_so : MethodName := ⟨RX9, "so", "(IIII)I"⟩
abbrev cX9_gone : ByteArray := prog_1_method_9_code
def yX9_gone : MethodName := ⟨RX9, "gone", "(IIII)I"⟩
abbrev cX9_real : ByteArray := prog_1_method_10_code
def yX9_real : MethodName := ⟨RX9, "real", "(II)I"⟩
abbrev cX9_run : ByteArray := prog_1_method_11_code
def yX9_run : MethodName := ⟨RX9, "run", "(I)I"⟩
abbrev cX9_look : ByteArray := prog_1_method_12_code
def yX9_look : MethodName := ⟨RX9, "look", "(III)I"⟩
abbrev cX9_looked : ByteArray := prog_1_method_13_code
def yX9_looked : MethodName := ⟨RX9, "looked", "(I)I"⟩
abbrev cX9_may : ByteArray := prog_1_method_14_code
def yX9_may : MethodName := ⟨RX9, "may", "(III)I"⟩
abbrev cX9_state : ByteArray := prog_1_method_15_code
def yX9_state : MethodName := ⟨RX9, "state", "(II)I"⟩
abbrev cX9_found : ByteArray := prog_1_method_16_code
def yX9_found : MethodName := ⟨RX9, "found", "(I)I"⟩
abbrev cX9_path : ByteArray := prog_1_method_17_code
def yX9_path : MethodName := ⟨RX9, "path", "(I)I"⟩
abbrev cX9_mend : ByteArray := prog_1_method_18_code
def yX9_mend : MethodName := ⟨RX9, "mend", "()I"⟩
abbrev cX9_check : ByteArray := prog_1_method_19_code
def yX9_check : MethodName := ⟨RX9, "check", "(I)I"⟩
abbrev cX9_undo : ByteArray := prog_1_method_20_code
def yX9_undo : MethodName := ⟨RX9, "undo", "()I"⟩
abbrev cX9_count : ByteArray := prog_1_method_21_code
def yX9_count : MethodName := ⟨RX9, "count", "(I)I"⟩
abbrev cX9_isPlace : ByteArray := prog_1_method_22_code
def yX9_isPlace : MethodName := ⟨RX9, "isPlace", "(I)Z"⟩
abbrev cX9_isComparison : ByteArray := prog_1_method_23_code
def yX9_isComparison : MethodName := ⟨RX9, "isComparison", "(I)Z"⟩
abbrev cX9_isEdge : ByteArray := prog_1_method_24_code
def yX9_isEdge : MethodName := ⟨RX9, "isEdge", "(I)Z"⟩
abbrev cX9_isCube : ByteArray := prog_1_method_25_code
def yX9_isCube : MethodName := ⟨RX9, "isCube", "(I)Z"⟩
abbrev cX9_areValues : ByteArray := prog_1_method_26_code
def yX9_areValues : MethodName := ⟨RX9, "areValues", "(III)Z"⟩
abbrev cX9_isValue : ByteArray := prog_1_method_27_code
def yX9_isValue : MethodName := ⟨RX9, "isValue", "(I)Z"⟩
abbrev cX9_takeText : ByteArray := prog_1_method_28_code
def yX9_takeText : MethodName := ⟨RX9, "takeText", "()Z"⟩
abbrev cX9_forgetSearches : ByteArray := prog_1_method_29_code
def yX9_forgetSearches : MethodName := ⟨RX9, "forgetSearches", "()V"⟩
abbrev cX9_newestReal : ByteArray := prog_1_method_30_code
def yX9_newestReal : MethodName := ⟨RX9, "newestReal", "()LCubeChecker$RealSearch;"⟩
abbrev cX9_newestMay : ByteArray := prog_1_method_31_code
def yX9_newestMay : MethodName := ⟨RX9, "newestMay", "()LCubeChecker$MaySearch;"⟩
abbrev cX9_setThatMends : ByteArray := prog_1_method_32_code
def yX9_setThatMends : MethodName := ⟨RX9, "setThatMends", "(LCubeChecker$MaySearch;)I"⟩
abbrev cX9_lookOnPath : ByteArray := prog_1_method_33_code
def yX9_lookOnPath : MethodName := ⟨RX9, "lookOnPath", "(LCubeChecker$MaySearch;I)V"⟩
abbrev cX9_lookedAtInAll : ByteArray := prog_1_method_34_code
def yX9_lookedAtInAll : MethodName := ⟨RX9, "lookedAtInAll", "()I"⟩
def RX10 : String := "CubeCheckerModel"
def TX10 : u_T := fun k => match k with
  | 0 => ("CubeCheckerModel", "length", "I", false)
  | 1 => ("CubeCheckerModel", "text", "[I", true)
  | 2 => ("CubeCheckerModel", "places", "I", false)
  | 3 => ("CubeCheckerModel", "trap", "I", false)
  | 4 => ("CubeCheckerModel", "variables", "I", false)
  | 5 => ("CubeCheckerModel", "first", "[I", true)
  | 6 => ("CubeCheckerModel", "comparisons", "I", false)
  | 7 => ("CubeCheckerModel", "compare", "[I", true)
  | 8 => ("CubeCheckerModel", "edges", "I", false)
  | 9 => ("CubeCheckerModel", "edge", "[I", true)
  | 10 => ("CubeCheckerModel", "now", "[I", true)
  | 11 => ("CubeCheckerModel", "was", "[I", true)
  | 12 => ("CubeCheckerModel", "changes", "I", false)
  | 13 => ("CubeCheckerModel", "readPlaces", "I", false)
  | 14 => ("CubeCheckerModel", "readTrap", "I", false)
  | 15 => ("CubeCheckerModel", "readVariables", "I", false)
  | 16 => ("CubeCheckerModel", "readFirst", "[I", true)
  | 17 => ("CubeCheckerModel", "readComparisons", "I", false)
  | 18 => ("CubeCheckerModel", "readCompare", "[I", true)
  | 19 => ("CubeCheckerModel", "readEdges", "I", false)
  | 20 => ("CubeCheckerModel", "readEdge", "[I", true)
  | 21 => ("CubeCheckerModel", "far", "[I", true)
  | 22 => ("CubeCheckerModel", "queue", "[I", true)
  | 23 => ("CubeCheckerModel", "queued", "I", false)
  | 24 => ("CubeCheckerModel", "here", "[Z", true)
  | 25 => ("CubeCheckerModel", "there", "[Z", true)
  | 26 => ("CubeCheckerModel", "states", "[I", true)
  | 27 => ("CubeCheckerModel", "from", "[I", true)
  | 28 => ("CubeCheckerModel", "has", "[Z", true)
  | 29 => ("CubeCheckerModel", "many", "I", false)
  | 30 => ("CubeCheckerModel", "cubes", "[Z", true)
  | 31 => ("CubeCheckerModel", "path", "[I", true)
  | 32 => ("CubeCheckerModel", "pathLong", "I", false)
  | _ => ("CubeCheckerModel", "next", "[Z", true)
def tyX10 : Nat → FieldType := fun k => match k with
  | 0 => .int
  | 1 => .array .int
  | 2 => .int
  | 3 => .int
  | 4 => .int
  | 5 => .array .int
  | 6 => .int
  | 7 => .array .int
  | 8 => .int
  | 9 => .array .int
  | 10 => .array .int
  | 11 => .array .int
  | 12 => .int
  | 13 => .int
  | 14 => .int
  | 15 => .int
  | 16 => .array .int
  | 17 => .int
  | 18 => .array .int
  | 19 => .int
  | 20 => .array .int
  | 21 => .array .int
  | 22 => .array .int
  | 23 => .int
  | 24 => .array .boolean
  | 25 => .array .boolean
  | 26 => .array .int
  | 27 => .array .int
  | 28 => .array .boolean
  | 29 => .int
  | 30 => .array .boolean
  | 31 => .array .int
  | 32 => .int
  | _ => .array .boolean
abbrev wsX100 : List Cond := u_ws RX10 TX10 34
theorem nmX10 : ∀ a, a < 34 → ∀ b, b < 34 → a ≠ b → (TX10 a).2.1 ≠ (TX10 b).2.1 := by decide +kernel
theorem tyX10_ok : ∀ k, k < 34 → parseFieldDescriptor (TX10 k).2.2.1 = some (tyX10 k) := by decide +kernel
abbrev cX10_init : ByteArray := prog_12_method_1_code
def yX10_init : MethodName := ⟨RX10, "<init>", "()V"⟩
abbrev cX10_compares : ByteArray := prog_12_method_2_code
def yX10_compares : MethodName := ⟨RX10, "compares", "(IIII)V"⟩
abbrev cX10_joins : ByteArray := prog_12_method_3_code
def yX10_joins : MethodName := ⟨RX10, "joins", "(IIIII)V"⟩
abbrev cX10_acts : ByteArray := prog_12_method_4_code
def yX10_acts : MethodName := ⟨RX10, "acts", "(IIII)V"⟩
abbrev cX10_begins : ByteArray := prog_12_method_5_code
def yX10_begins : MethodName := ⟨RX10, "begins", "()V"⟩
abbrev cX10_isIn : ByteArray := prog_12_method_6_code
def yX10_isIn : MethodName := ⟨RX10, "isIn", "(III)Z"⟩
abbrev cX10_figure : ByteArray := prog_12_method_7_code
def yX10_figure : MethodName := ⟨RX10, "figure", "(I)I"⟩
abbrev cX10_figuresOf : ByteArray := prog_12_method_8_code
def yX10_figuresOf : MethodName := ⟨RX10, "figuresOf", "(I)I"⟩
abbrev cX10_readsPlaces : ByteArray := prog_12_method_9_code
def yX10_readsPlaces : MethodName := ⟨RX10, "readsPlaces", "(I)Z"⟩
abbrev cX10_readsVariable : ByteArray := prog_12_method_10_code
def yX10_readsVariable : MethodName := ⟨RX10, "readsVariable", "(I)Z"⟩
abbrev cX10_readsComparison : ByteArray := prog_12_method_11_code
def yX10_readsComparison : MethodName := ⟨RX10, "readsComparison", "(I)Z"⟩
abbrev cX10_readsEdge : ByteArray := prog_12_method_12_code
def yX10_readsEdge : MethodName := ⟨RX10, "readsEdge", "(I)Z"⟩
abbrev cX10_readsItem : ByteArray := prog_12_method_13_code
def yX10_readsItem : MethodName := ⟨RX10, "readsItem", "(II)Z"⟩
abbrev cX10_reads : ByteArray := prog_12_method_14_code
def yX10_reads : MethodName := ⟨RX10, "reads", "()I"⟩
abbrev cX10_write : ByteArray := prog_12_method_15_code
def yX10_write : MethodName := ⟨RX10, "write", "(I)I"⟩
abbrev cX10_wipe : ByteArray := prog_12_method_16_code
def yX10_wipe : MethodName := ⟨RX10, "wipe", "()I"⟩
abbrev cX10_fault : ByteArray := prog_12_method_17_code
def yX10_fault : MethodName := ⟨RX10, "fault", "()I"⟩
abbrev cX10_lay : ByteArray := prog_12_method_18_code
def yX10_lay : MethodName := ⟨RX10, "lay", "()I"⟩
abbrev cX10_isPlace : ByteArray := prog_12_method_19_code
def yX10_isPlace : MethodName := ⟨RX10, "isPlace", "(I)Z"⟩
abbrev cX10_isComparison : ByteArray := prog_12_method_20_code
def yX10_isComparison : MethodName := ⟨RX10, "isComparison", "(I)Z"⟩
abbrev cX10_isEdge : ByteArray := prog_12_method_21_code
def yX10_isEdge : MethodName := ⟨RX10, "isEdge", "(I)Z"⟩
abbrev cX10_areValues : ByteArray := prog_12_method_22_code
def yX10_areValues : MethodName := ⟨RX10, "areValues", "(III)Z"⟩
abbrev cX10_value : ByteArray := prog_12_method_23_code
def yX10_value : MethodName := ⟨RX10, "value", "(II)I"⟩
abbrev cX10_isThere : ByteArray := prog_12_method_24_code
def yX10_isThere : MethodName := ⟨RX10, "isThere", "(I)Z"⟩
abbrev cX10_isFirst : ByteArray := prog_12_method_25_code
def yX10_isFirst : MethodName := ⟨RX10, "isFirst", "(I)Z"⟩
abbrev cX10_isSo : ByteArray := prog_12_method_26_code
def yX10_isSo : MethodName := ⟨RX10, "isSo", "(II)Z"⟩
abbrev cX10_goes : ByteArray := prog_12_method_27_code
def yX10_goes : MethodName := ⟨RX10, "goes", "(II)I"⟩
abbrev cX10_cube : ByteArray := prog_12_method_28_code
def yX10_cube : MethodName := ⟨RX10, "cube", "(III)I"⟩
abbrev cX10_edge : ByteArray := prog_12_method_29_code
def yX10_edge : MethodName := ⟨RX10, "edge", "(II)I"⟩
abbrev cX10_so : ByteArray := prog_12_method_30_code
def yX10_so : MethodName := ⟨RX10, "so", "(IIII)I"⟩
abbrev cX10_gone : ByteArray := prog_12_method_31_code
def yX10_gone : MethodName := ⟨RX10, "gone", "(IIII)I"⟩
abbrev cX10_keeps : ByteArray := prog_12_method_32_code
def yX10_keeps : MethodName := ⟨RX10, "keeps", "()V"⟩
abbrev cX10_undo : ByteArray := prog_12_method_33_code
def yX10_undo : MethodName := ⟨RX10, "undo", "()I"⟩
abbrev cX10_turn : ByteArray := prog_12_method_34_code
def yX10_turn : MethodName := ⟨RX10, "turn", "(I)I"⟩
abbrev cX10_bits : ByteArray := prog_12_method_35_code
def yX10_bits : MethodName := ⟨RX10, "bits", "(I)I"⟩
abbrev cX10_look : ByteArray := prog_12_method_36_code
def yX10_look : MethodName := ⟨RX10, "look", "(III)I"⟩
abbrev cX10_looked : ByteArray := prog_12_method_37_code
def yX10_looked : MethodName := ⟨RX10, "looked", "(I)I"⟩
abbrev cX10_meets : ByteArray := prog_12_method_38_code
def yX10_meets : MethodName := ⟨RX10, "meets", "(II)V"⟩
abbrev cX10_spreads : ByteArray := prog_12_method_39_code
def yX10_spreads : MethodName := ⟨RX10, "spreads", "()V"⟩
abbrev cX10_nearest : ByteArray := prog_12_method_40_code
def yX10_nearest : MethodName := ⟨RX10, "nearest", "(I)I"⟩
abbrev cX10_real : ByteArray := prog_12_method_41_code
def yX10_real : MethodName := ⟨RX10, "real", "(II)I"⟩
abbrev cX10_prunes : ByteArray := prog_12_method_42_code
def yX10_prunes : MethodName := ⟨RX10, "prunes", "(I)V"⟩
abbrev cX10_leads : ByteArray := prog_12_method_43_code
def yX10_leads : MethodName := ⟨RX10, "leads", "(II)Z"⟩
abbrev cX10_run : ByteArray := prog_12_method_44_code
def yX10_run : MethodName := ⟨RX10, "run", "(I)I"⟩
abbrev cX10_comes : ByteArray := prog_12_method_45_code
def yX10_comes : MethodName := ⟨RX10, "comes", "(II)V"⟩
abbrev cX10_becomes : ByteArray := prog_12_method_46_code
def yX10_becomes : MethodName := ⟨RX10, "becomes", "(II)V"⟩
abbrev cX10_looks : ByteArray := prog_12_method_47_code
def yX10_looks : MethodName := ⟨RX10, "looks", "()V"⟩
abbrev cX10_may : ByteArray := prog_12_method_48_code
def yX10_may : MethodName := ⟨RX10, "may", "(III)I"⟩
abbrev cX10_state : ByteArray := prog_12_method_49_code
def yX10_state : MethodName := ⟨RX10, "state", "(II)I"⟩
abbrev cX10_found : ByteArray := prog_12_method_50_code
def yX10_found : MethodName := ⟨RX10, "found", "(I)I"⟩
abbrev cX10_findsPath : ByteArray := prog_12_method_51_code
def yX10_findsPath : MethodName := ⟨RX10, "findsPath", "()Z"⟩
abbrev cX10_farOfPath : ByteArray := prog_12_method_52_code
def yX10_farOfPath : MethodName := ⟨RX10, "farOfPath", "()I"⟩
abbrev cX10_path : ByteArray := prog_12_method_53_code
def yX10_path : MethodName := ⟨RX10, "path", "(I)I"⟩
abbrev cX10_isEnded : ByteArray := prog_12_method_54_code
def yX10_isEnded : MethodName := ⟨RX10, "isEnded", "(I)Z"⟩
abbrev cX10_setFor : ByteArray := prog_12_method_55_code
def yX10_setFor : MethodName := ⟨RX10, "setFor", "()I"⟩
abbrev cX10_looksMore : ByteArray := prog_12_method_56_code
def yX10_looksMore : MethodName := ⟨RX10, "looksMore", "(I)V"⟩
abbrev cX10_mend : ByteArray := prog_12_method_57_code
def yX10_mend : MethodName := ⟨RX10, "mend", "()I"⟩
abbrev cX10_how : ByteArray := prog_12_method_58_code
def yX10_how : MethodName := ⟨RX10, "how", "()I"⟩
abbrev cX10_check : ByteArray := prog_12_method_59_code
def yX10_check : MethodName := ⟨RX10, "check", "(I)I"⟩
abbrev cX10_count : ByteArray := prog_12_method_60_code
def yX10_count : MethodName := ⟨RX10, "count", "(I)I"⟩
def RJ6 : String := "java/lang/Integer"
abbrev cJ6_bitCount_0f7a4 : ByteArray := prog_13_method_49_code
def yJ6_bitCount_0f7a4 : MethodName := ⟨RJ6, "bitCount", "(I)I"⟩
def RJ9 : String := "java/lang/Math"
abbrev cJ9_max_7cf53 : ByteArray := prog_14_method_65_code
def yJ9_max_7cf53 : MethodName := ⟨RJ9, "max", "(II)I"⟩
abbrev cJ9_min_7cf53 : ByteArray := prog_14_method_69_code
def yJ9_min_7cf53 : MethodName := ⟨RJ9, "min", "(II)I"⟩
def RJ0 : String := "java/lang/String"
abbrev cJ0_length_8abf5 : ByteArray := prog_15_method_54_code
def yJ0_length_8abf5 : MethodName := ⟨RJ0, "length", "()I"⟩
abbrev cJ0_charAt_5068e : ByteArray := prog_15_method_56_code
def yJ0_charAt_5068e : MethodName := ⟨RJ0, "charAt", "(I)C"⟩
abbrev cJ0_coder_7d493 : ByteArray := prog_15_method_152_code
def yJ0_coder_7d493 : MethodName := ⟨RJ0, "coder", "()B"⟩
abbrev cJ0_isLatin1_aae02 : ByteArray := prog_15_method_154_code
def yJ0_isLatin1_aae02 : MethodName := ⟨RJ0, "isLatin1", "()Z"⟩
abbrev cJ0_checkIndex_df160 : ByteArray := prog_15_method_155_code
def yJ0_checkIndex_df160 : MethodName := ⟨RJ0, "checkIndex", "(II)V"⟩
def RJ1 : String := "java/lang/StringLatin1"
abbrev cJ1_charAt_3b067 : ByteArray := prog_16_method_2_code
def yJ1_charAt_3b067 : MethodName := ⟨RJ1, "charAt", "([BI)C"⟩
def RJ2 : String := "java/lang/StringUTF16"
abbrev cJ2_getChar_3b067 : ByteArray := prog_17_method_5_code
def yJ2_getChar_3b067 : MethodName := ⟨RJ2, "getChar", "([BI)C"⟩
abbrev cJ2_length_9d52b : ByteArray := prog_17_method_6_code
def yJ2_length_9d52b : MethodName := ⟨RJ2, "length", "([B)I"⟩
abbrev cJ2_charAt_3b067 : ByteArray := prog_17_method_83_code
def yJ2_charAt_3b067 : MethodName := ⟨RJ2, "charAt", "([BI)C"⟩
abbrev cJ2_checkIndex_2214a : ByteArray := prog_17_method_91_code
def yJ2_checkIndex_2214a : MethodName := ⟨RJ2, "checkIndex", "(I[B)V"⟩
def RJ10 : String := "java/lang/System"
def RJ7 : String := "java/util/Arrays"
abbrev cJ7_fill_53178 : ByteArray := prog_19_method_103_code
def yJ7_fill_53178 : MethodName := ⟨RJ7, "fill", "([II)V"⟩
def RJ3 : String := "jdk/internal/util/Preconditions"
abbrev cJ3_checkIndex_8e157 : ByteArray := prog_20_method_11_code
def yJ3_checkIndex_8e157 : MethodName := ⟨RJ3, "checkIndex", "(IILjava/util/function/BiFunction;)I"⟩
def RL : String := "CubeCheckerLaw"
abbrev cL_law : ByteArray := code
def yL_law : MethodName := ⟨RL, "law", "([I)Z"⟩
abbrev vwCl : List vw_C := [(RX0, TX0, 4), (RX1, TX1, 9), (RX2, TX2, 11), (RX3, TX3, 6), (RX4, TX4, 1), (RX5, TX5, 9), (RX6, TX6, 10), (RX7, TX7, 4), (RX8, TX8, 12), (RX9, TX9, 9), (RX10, TX10, 34)]
/-! the words that hold at every call: those of the tables that a change of the machine keeps -/
def tb_G : List Cond := lw_tbl.filter goodWord
theorem tb_in {c : Cond} (i : Nat) (h : lw_tbl[i]? = some c) (g : goodWord c = true) : c ∈ tb_G := List.mem_filter.mpr ⟨List.mem_of_getElem? h, g⟩
theorem tb_X0 : ∀ w ∈ u_ws RX0 TX0 4, w ∈ tb_G := List.forall_mem_map.mpr (fun k hk => by
  have hk := List.mem_range.mp hk
  match k, hk with
  | 0, _ => exact tb_in 224 (by decide +kernel) (by decide +kernel)
  | 1, _ => exact tb_in 226 (by decide +kernel) (by decide +kernel)
  | 2, _ => exact tb_in 228 (by decide +kernel) (by decide +kernel)
  | 3, _ => exact tb_in 230 (by decide +kernel) (by decide +kernel)
  | k + 4, h => exact absurd h (by omega))
theorem tb_X1 : ∀ w ∈ u_ws RX1 TX1 9, w ∈ tb_G := List.forall_mem_map.mpr (fun k hk => by
  have hk := List.mem_range.mp hk
  match k, hk with
  | 0, _ => exact tb_in 680 (by decide +kernel) (by decide +kernel)
  | 1, _ => exact tb_in 682 (by decide +kernel) (by decide +kernel)
  | 2, _ => exact tb_in 684 (by decide +kernel) (by decide +kernel)
  | 3, _ => exact tb_in 686 (by decide +kernel) (by decide +kernel)
  | 4, _ => exact tb_in 688 (by decide +kernel) (by decide +kernel)
  | 5, _ => exact tb_in 690 (by decide +kernel) (by decide +kernel)
  | 6, _ => exact tb_in 692 (by decide +kernel) (by decide +kernel)
  | 7, _ => exact tb_in 694 (by decide +kernel) (by decide +kernel)
  | 8, _ => exact tb_in 696 (by decide +kernel) (by decide +kernel)
  | k + 9, h => exact absurd h (by omega))
theorem tb_X2 : ∀ w ∈ u_ws RX2 TX2 11, w ∈ tb_G := List.forall_mem_map.mpr (fun k hk => by
  have hk := List.mem_range.mp hk
  match k, hk with
  | 0, _ => exact tb_in 763 (by decide +kernel) (by decide +kernel)
  | 1, _ => exact tb_in 765 (by decide +kernel) (by decide +kernel)
  | 2, _ => exact tb_in 767 (by decide +kernel) (by decide +kernel)
  | 3, _ => exact tb_in 769 (by decide +kernel) (by decide +kernel)
  | 4, _ => exact tb_in 771 (by decide +kernel) (by decide +kernel)
  | 5, _ => exact tb_in 773 (by decide +kernel) (by decide +kernel)
  | 6, _ => exact tb_in 775 (by decide +kernel) (by decide +kernel)
  | 7, _ => exact tb_in 777 (by decide +kernel) (by decide +kernel)
  | 8, _ => exact tb_in 779 (by decide +kernel) (by decide +kernel)
  | 9, _ => exact tb_in 781 (by decide +kernel) (by decide +kernel)
  | 10, _ => exact tb_in 783 (by decide +kernel) (by decide +kernel)
  | k + 11, h => exact absurd h (by omega))
theorem tb_X3 : ∀ w ∈ u_ws RX3 TX3 6, w ∈ tb_G := List.forall_mem_map.mpr (fun k hk => by
  have hk := List.mem_range.mp hk
  match k, hk with
  | 0, _ => exact tb_in 200 (by decide +kernel) (by decide +kernel)
  | 1, _ => exact tb_in 202 (by decide +kernel) (by decide +kernel)
  | 2, _ => exact tb_in 204 (by decide +kernel) (by decide +kernel)
  | 3, _ => exact tb_in 206 (by decide +kernel) (by decide +kernel)
  | 4, _ => exact tb_in 208 (by decide +kernel) (by decide +kernel)
  | 5, _ => exact tb_in 210 (by decide +kernel) (by decide +kernel)
  | k + 6, h => exact absurd h (by omega))
theorem tb_X4 : ∀ w ∈ u_ws RX4 TX4 1, w ∈ tb_G := List.forall_mem_map.mpr (fun k hk => by
  have hk := List.mem_range.mp hk
  match k, hk with
  | 0, _ => exact tb_in 554 (by decide +kernel) (by decide +kernel)
  | k + 1, h => exact absurd h (by omega))
theorem tb_X5 : ∀ w ∈ u_ws RX5 TX5 9, w ∈ tb_G := List.forall_mem_map.mpr (fun k hk => by
  have hk := List.mem_range.mp hk
  match k, hk with
  | 0, _ => exact tb_in 152 (by decide +kernel) (by decide +kernel)
  | 1, _ => exact tb_in 154 (by decide +kernel) (by decide +kernel)
  | 2, _ => exact tb_in 156 (by decide +kernel) (by decide +kernel)
  | 3, _ => exact tb_in 158 (by decide +kernel) (by decide +kernel)
  | 4, _ => exact tb_in 160 (by decide +kernel) (by decide +kernel)
  | 5, _ => exact tb_in 162 (by decide +kernel) (by decide +kernel)
  | 6, _ => exact tb_in 164 (by decide +kernel) (by decide +kernel)
  | 7, _ => exact tb_in 166 (by decide +kernel) (by decide +kernel)
  | 8, _ => exact tb_in 168 (by decide +kernel) (by decide +kernel)
  | k + 9, h => exact absurd h (by omega))
theorem tb_X6 : ∀ w ∈ u_ws RX6 TX6 10, w ∈ tb_G := List.forall_mem_map.mpr (fun k hk => by
  have hk := List.mem_range.mp hk
  match k, hk with
  | 0, _ => exact tb_in 567 (by decide +kernel) (by decide +kernel)
  | 1, _ => exact tb_in 569 (by decide +kernel) (by decide +kernel)
  | 2, _ => exact tb_in 571 (by decide +kernel) (by decide +kernel)
  | 3, _ => exact tb_in 573 (by decide +kernel) (by decide +kernel)
  | 4, _ => exact tb_in 575 (by decide +kernel) (by decide +kernel)
  | 5, _ => exact tb_in 577 (by decide +kernel) (by decide +kernel)
  | 6, _ => exact tb_in 579 (by decide +kernel) (by decide +kernel)
  | 7, _ => exact tb_in 581 (by decide +kernel) (by decide +kernel)
  | 8, _ => exact tb_in 583 (by decide +kernel) (by decide +kernel)
  | 9, _ => exact tb_in 585 (by decide +kernel) (by decide +kernel)
  | k + 10, h => exact absurd h (by omega))
theorem tb_X7 : ∀ w ∈ u_ws RX7 TX7 4, w ∈ tb_G := List.forall_mem_map.mpr (fun k hk => by
  have hk := List.mem_range.mp hk
  match k, hk with
  | 0, _ => exact tb_in 177 (by decide +kernel) (by decide +kernel)
  | 1, _ => exact tb_in 179 (by decide +kernel) (by decide +kernel)
  | 2, _ => exact tb_in 181 (by decide +kernel) (by decide +kernel)
  | 3, _ => exact tb_in 183 (by decide +kernel) (by decide +kernel)
  | k + 4, h => exact absurd h (by omega))
theorem tb_X8 : ∀ w ∈ u_ws RX8 TX8 12, w ∈ tb_G := List.forall_mem_map.mpr (fun k hk => by
  have hk := List.mem_range.mp hk
  match k, hk with
  | 0, _ => exact tb_in 719 (by decide +kernel) (by decide +kernel)
  | 1, _ => exact tb_in 721 (by decide +kernel) (by decide +kernel)
  | 2, _ => exact tb_in 723 (by decide +kernel) (by decide +kernel)
  | 3, _ => exact tb_in 725 (by decide +kernel) (by decide +kernel)
  | 4, _ => exact tb_in 727 (by decide +kernel) (by decide +kernel)
  | 5, _ => exact tb_in 729 (by decide +kernel) (by decide +kernel)
  | 6, _ => exact tb_in 731 (by decide +kernel) (by decide +kernel)
  | 7, _ => exact tb_in 733 (by decide +kernel) (by decide +kernel)
  | 8, _ => exact tb_in 735 (by decide +kernel) (by decide +kernel)
  | 9, _ => exact tb_in 737 (by decide +kernel) (by decide +kernel)
  | 10, _ => exact tb_in 739 (by decide +kernel) (by decide +kernel)
  | 11, _ => exact tb_in 741 (by decide +kernel) (by decide +kernel)
  | k + 12, h => exact absurd h (by omega))
theorem tb_X9 : ∀ w ∈ u_ws RX9 TX9 9, w ∈ tb_G := List.forall_mem_map.mpr (fun k hk => by
  have hk := List.mem_range.mp hk
  match k, hk with
  | 0, _ => exact tb_in 435 (by decide +kernel) (by decide +kernel)
  | 1, _ => exact tb_in 437 (by decide +kernel) (by decide +kernel)
  | 2, _ => exact tb_in 439 (by decide +kernel) (by decide +kernel)
  | 3, _ => exact tb_in 441 (by decide +kernel) (by decide +kernel)
  | 4, _ => exact tb_in 443 (by decide +kernel) (by decide +kernel)
  | 5, _ => exact tb_in 445 (by decide +kernel) (by decide +kernel)
  | 6, _ => exact tb_in 447 (by decide +kernel) (by decide +kernel)
  | 7, _ => exact tb_in 449 (by decide +kernel) (by decide +kernel)
  | 8, _ => exact tb_in 451 (by decide +kernel) (by decide +kernel)
  | k + 9, h => exact absurd h (by omega))
theorem tb_X10 : ∀ w ∈ u_ws RX10 TX10 34, w ∈ tb_G := List.forall_mem_map.mpr (fun k hk => by
  have hk := List.mem_range.mp hk
  match k, hk with
  | 0, _ => exact tb_in 1020 (by decide +kernel) (by decide +kernel)
  | 1, _ => exact tb_in 1022 (by decide +kernel) (by decide +kernel)
  | 2, _ => exact tb_in 1024 (by decide +kernel) (by decide +kernel)
  | 3, _ => exact tb_in 1026 (by decide +kernel) (by decide +kernel)
  | 4, _ => exact tb_in 1028 (by decide +kernel) (by decide +kernel)
  | 5, _ => exact tb_in 1030 (by decide +kernel) (by decide +kernel)
  | 6, _ => exact tb_in 1032 (by decide +kernel) (by decide +kernel)
  | 7, _ => exact tb_in 1034 (by decide +kernel) (by decide +kernel)
  | 8, _ => exact tb_in 1036 (by decide +kernel) (by decide +kernel)
  | 9, _ => exact tb_in 1038 (by decide +kernel) (by decide +kernel)
  | 10, _ => exact tb_in 1040 (by decide +kernel) (by decide +kernel)
  | 11, _ => exact tb_in 1042 (by decide +kernel) (by decide +kernel)
  | 12, _ => exact tb_in 1044 (by decide +kernel) (by decide +kernel)
  | 13, _ => exact tb_in 1046 (by decide +kernel) (by decide +kernel)
  | 14, _ => exact tb_in 1048 (by decide +kernel) (by decide +kernel)
  | 15, _ => exact tb_in 1050 (by decide +kernel) (by decide +kernel)
  | 16, _ => exact tb_in 1052 (by decide +kernel) (by decide +kernel)
  | 17, _ => exact tb_in 1054 (by decide +kernel) (by decide +kernel)
  | 18, _ => exact tb_in 1056 (by decide +kernel) (by decide +kernel)
  | 19, _ => exact tb_in 1058 (by decide +kernel) (by decide +kernel)
  | 20, _ => exact tb_in 1060 (by decide +kernel) (by decide +kernel)
  | 21, _ => exact tb_in 1062 (by decide +kernel) (by decide +kernel)
  | 22, _ => exact tb_in 1064 (by decide +kernel) (by decide +kernel)
  | 23, _ => exact tb_in 1066 (by decide +kernel) (by decide +kernel)
  | 24, _ => exact tb_in 1068 (by decide +kernel) (by decide +kernel)
  | 25, _ => exact tb_in 1070 (by decide +kernel) (by decide +kernel)
  | 26, _ => exact tb_in 1072 (by decide +kernel) (by decide +kernel)
  | 27, _ => exact tb_in 1074 (by decide +kernel) (by decide +kernel)
  | 28, _ => exact tb_in 1076 (by decide +kernel) (by decide +kernel)
  | 29, _ => exact tb_in 1078 (by decide +kernel) (by decide +kernel)
  | 30, _ => exact tb_in 1080 (by decide +kernel) (by decide +kernel)
  | 31, _ => exact tb_in 1082 (by decide +kernel) (by decide +kernel)
  | 32, _ => exact tb_in 1084 (by decide +kernel) (by decide +kernel)
  | 33, _ => exact tb_in 1086 (by decide +kernel) (by decide +kernel)
  | k + 34, h => exact absurd h (by omega))
