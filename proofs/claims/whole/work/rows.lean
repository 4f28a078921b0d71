section
-- ===== PART A: goes FIRST, ahead of the names: the tables' words, and 'selects' of the private methods out of them =====
/-- a private method of a class that the tables say can be made, by its rows of tables_1 -/
def lw_okq (q : MethodName × Nat) : Prop := (q.1.cls ≠ "java/lang/invoke/MethodHandle" ∧ q.1.cls ≠ "java/lang/invoke/VarHandle") ∧ Cond.instantiable q.1.cls q.2 ∈ tables_1 ∧ Cond.privateMethod q.1 ∈ tables_1 ∧ Cond.instanceMethod q.1 ∈ tables_1
theorem lw_p0 : lw_okq (⟨"CubeChecker", "takeText", "()Z"⟩, 9) := ⟨⟨by decide +kernel, by decide +kernel⟩, List.mem_of_getElem? (i := 21) (by decide +kernel), List.mem_of_getElem? (i := 219) (by decide +kernel), List.mem_of_getElem? (i := 220) (by decide +kernel)⟩
theorem lw_p1 : lw_okq (⟨"CubeChecker$Text", "takeFigures", "(II)Z"⟩, 4) := ⟨⟨by decide +kernel, by decide +kernel⟩, List.mem_of_getElem? (i := 29) (by decide +kernel), List.mem_of_getElem? (i := 234) (by decide +kernel), List.mem_of_getElem? (i := 235) (by decide +kernel)⟩
theorem lw_p2 : lw_okq (⟨"CubeChecker$Text", "tell", "(C)Z"⟩, 4) := ⟨⟨by decide +kernel, by decide +kernel⟩, List.mem_of_getElem? (i := 29) (by decide +kernel), List.mem_of_getElem? (i := 238) (by decide +kernel), List.mem_of_getElem? (i := 239) (by decide +kernel)⟩
theorem lw_p3 : lw_okq (⟨"CubeChecker$Text", "tellPlaces", "()Z"⟩, 4) := ⟨⟨by decide +kernel, by decide +kernel⟩, List.mem_of_getElem? (i := 29) (by decide +kernel), List.mem_of_getElem? (i := 242) (by decide +kernel), List.mem_of_getElem? (i := 243) (by decide +kernel)⟩
theorem lw_p4 : lw_okq (⟨"CubeChecker$Text", "tellVariable", "()Z"⟩, 4) := ⟨⟨by decide +kernel, by decide +kernel⟩, List.mem_of_getElem? (i := 29) (by decide +kernel), List.mem_of_getElem? (i := 246) (by decide +kernel), List.mem_of_getElem? (i := 247) (by decide +kernel)⟩
theorem lw_p5 : lw_okq (⟨"CubeChecker$Text", "tellComparison", "()Z"⟩, 4) := ⟨⟨by decide +kernel, by decide +kernel⟩, List.mem_of_getElem? (i := 29) (by decide +kernel), List.mem_of_getElem? (i := 250) (by decide +kernel), List.mem_of_getElem? (i := 251) (by decide +kernel)⟩
theorem lw_p6 : lw_okq (⟨"CubeChecker$Text", "isVariable", "(I)Z"⟩, 4) := ⟨⟨by decide +kernel, by decide +kernel⟩, List.mem_of_getElem? (i := 29) (by decide +kernel), List.mem_of_getElem? (i := 254) (by decide +kernel), List.mem_of_getElem? (i := 255) (by decide +kernel)⟩
theorem lw_p7 : lw_okq (⟨"CubeChecker$Text", "tellEdge", "()Z"⟩, 4) := ⟨⟨by decide +kernel, by decide +kernel⟩, List.mem_of_getElem? (i := 29) (by decide +kernel), List.mem_of_getElem? (i := 261) (by decide +kernel), List.mem_of_getElem? (i := 262) (by decide +kernel)⟩
theorem lw_p8 : lw_okq (⟨"CubeChecker$Text", "edgeJoinsAndAsksWell", "()Z"⟩, 4) := ⟨⟨by decide +kernel, by decide +kernel⟩, List.mem_of_getElem? (i := 29) (by decide +kernel), List.mem_of_getElem? (i := 265) (by decide +kernel), List.mem_of_getElem? (i := 266) (by decide +kernel)⟩
theorem lw_p9 : lw_okq (⟨"CubeChecker$Text", "edgeDoesWell", "()Z"⟩, 4) := ⟨⟨by decide +kernel, by decide +kernel⟩, List.mem_of_getElem? (i := 29) (by decide +kernel), List.mem_of_getElem? (i := 269) (by decide +kernel), List.mem_of_getElem? (i := 270) (by decide +kernel)⟩
theorem lw_p10 : lw_okq (⟨"CubeChecker$Meaning", "findSos", "(I)I"⟩, 6) := ⟨⟨by decide +kernel, by decide +kernel⟩, List.mem_of_getElem? (i := 121) (by decide +kernel), List.mem_of_getElem? (i := 290) (by decide +kernel), List.mem_of_getElem? (i := 291) (by decide +kernel)⟩
theorem lw_p11 : lw_okq (⟨"CubeChecker$Meaning", "areFirst", "(I)Z"⟩, 6) := ⟨⟨by decide +kernel, by decide +kernel⟩, List.mem_of_getElem? (i := 121) (by decide +kernel), List.mem_of_getElem? (i := 300) (by decide +kernel), List.mem_of_getElem? (i := 301) (by decide +kernel)⟩
theorem lw_p12 : lw_okq (⟨"CubeChecker$Leaps", "orderValues", "()V"⟩, 9) := ⟨⟨by decide +kernel, by decide +kernel⟩, List.mem_of_getElem? (i := 322) (by decide +kernel), List.mem_of_getElem? (i := 320) (by decide +kernel), List.mem_of_getElem? (i := 321) (by decide +kernel)⟩
theorem lw_p13 : lw_okq (⟨"CubeChecker", "forgetSearches", "()V"⟩, 9) := ⟨⟨by decide +kernel, by decide +kernel⟩, List.mem_of_getElem? (i := 21) (by decide +kernel), List.mem_of_getElem? (i := 351) (by decide +kernel), List.mem_of_getElem? (i := 352) (by decide +kernel)⟩
theorem lw_p14 : lw_okq (⟨"CubeChecker", "isEdge", "(I)Z"⟩, 9) := ⟨⟨by decide +kernel, by decide +kernel⟩, List.mem_of_getElem? (i := 21) (by decide +kernel), List.mem_of_getElem? (i := 412) (by decide +kernel), List.mem_of_getElem? (i := 413) (by decide +kernel)⟩
theorem lw_p15 : lw_okq (⟨"CubeChecker", "isComparison", "(I)Z"⟩, 9) := ⟨⟨by decide +kernel, by decide +kernel⟩, List.mem_of_getElem? (i := 21) (by decide +kernel), List.mem_of_getElem? (i := 436) (by decide +kernel), List.mem_of_getElem? (i := 437) (by decide +kernel)⟩
def lw_privs_1 : List (MethodName × Nat) := [(⟨"CubeChecker", "takeText", "()Z"⟩, 9), (⟨"CubeChecker$Text", "takeFigures", "(II)Z"⟩, 4), (⟨"CubeChecker$Text", "tell", "(C)Z"⟩, 4), (⟨"CubeChecker$Text", "tellPlaces", "()Z"⟩, 4), (⟨"CubeChecker$Text", "tellVariable", "()Z"⟩, 4), (⟨"CubeChecker$Text", "tellComparison", "()Z"⟩, 4), (⟨"CubeChecker$Text", "isVariable", "(I)Z"⟩, 4), (⟨"CubeChecker$Text", "tellEdge", "()Z"⟩, 4), (⟨"CubeChecker$Text", "edgeJoinsAndAsksWell", "()Z"⟩, 4), (⟨"CubeChecker$Text", "edgeDoesWell", "()Z"⟩, 4), (⟨"CubeChecker$Meaning", "findSos", "(I)I"⟩, 6), (⟨"CubeChecker$Meaning", "areFirst", "(I)Z"⟩, 6), (⟨"CubeChecker$Leaps", "orderValues", "()V"⟩, 9), (⟨"CubeChecker", "forgetSearches", "()V"⟩, 9), (⟨"CubeChecker", "isEdge", "(I)Z"⟩, 9), (⟨"CubeChecker", "isComparison", "(I)Z"⟩, 9)]
theorem lw_r1 : ∀ q ∈ lw_privs_1, lw_okq q := List.forall_mem_cons.mpr ⟨lw_p0, List.forall_mem_cons.mpr ⟨lw_p1, List.forall_mem_cons.mpr ⟨lw_p2, List.forall_mem_cons.mpr ⟨lw_p3, List.forall_mem_cons.mpr ⟨lw_p4, List.forall_mem_cons.mpr ⟨lw_p5, List.forall_mem_cons.mpr ⟨lw_p6, List.forall_mem_cons.mpr ⟨lw_p7, List.forall_mem_cons.mpr ⟨lw_p8, List.forall_mem_cons.mpr ⟨lw_p9, List.forall_mem_cons.mpr ⟨lw_p10, List.forall_mem_cons.mpr ⟨lw_p11, List.forall_mem_cons.mpr ⟨lw_p12, List.forall_mem_cons.mpr ⟨lw_p13, List.forall_mem_cons.mpr ⟨lw_p14, List.forall_mem_cons.mpr ⟨lw_p15, fun _ h => absurd h List.not_mem_nil⟩⟩⟩⟩⟩⟩⟩⟩⟩⟩⟩⟩⟩⟩⟩⟩
theorem lw_p16 : lw_okq (⟨"CubeChecker", "isPlace", "(I)Z"⟩, 9) := ⟨⟨by decide +kernel, by decide +kernel⟩, List.mem_of_getElem? (i := 21) (by decide +kernel), List.mem_of_getElem? (i := 463) (by decide +kernel), List.mem_of_getElem? (i := 464) (by decide +kernel)⟩
theorem lw_p17 : lw_okq (⟨"CubeChecker", "newestReal", "()LCubeChecker$RealSearch;"⟩, 9) := ⟨⟨by decide +kernel, by decide +kernel⟩, List.mem_of_getElem? (i := 21) (by decide +kernel), List.mem_of_getElem? (i := 467) (by decide +kernel), List.mem_of_getElem? (i := 468) (by decide +kernel)⟩
theorem lw_p18 : lw_okq (⟨"CubeChecker$RealSearch", "empty", "()V"⟩, 10) := ⟨⟨by decide +kernel, by decide +kernel⟩, List.mem_of_getElem? (i := 471) (by decide +kernel), List.mem_of_getElem? (i := 525) (by decide +kernel), List.mem_of_getElem? (i := 526) (by decide +kernel)⟩
theorem lw_p19 : lw_okq (⟨"CubeChecker$RealSearch", "add", "(IIII)V"⟩, 10) := ⟨⟨by decide +kernel, by decide +kernel⟩, List.mem_of_getElem? (i := 471) (by decide +kernel), List.mem_of_getElem? (i := 532) (by decide +kernel), List.mem_of_getElem? (i := 533) (by decide +kernel)⟩
theorem lw_p20 : lw_okq (⟨"CubeChecker$RealSearch", "endOfGroup", "(I)I"⟩, 10) := ⟨⟨by decide +kernel, by decide +kernel⟩, List.mem_of_getElem? (i := 471) (by decide +kernel), List.mem_of_getElem? (i := 538) (by decide +kernel), List.mem_of_getElem? (i := 539) (by decide +kernel)⟩
theorem lw_p21 : lw_okq (⟨"CubeChecker$RealSearch", "goOn", "(III)V"⟩, 10) := ⟨⟨by decide +kernel, by decide +kernel⟩, List.mem_of_getElem? (i := 471) (by decide +kernel), List.mem_of_getElem? (i := 542) (by decide +kernel), List.mem_of_getElem? (i := 543) (by decide +kernel)⟩
theorem lw_p22 : lw_okq (⟨"CubeChecker$RealSearch", "goBy", "(IIII)V"⟩, 10) := ⟨⟨by decide +kernel, by decide +kernel⟩, List.mem_of_getElem? (i := 471) (by decide +kernel), List.mem_of_getElem? (i := 546) (by decide +kernel), List.mem_of_getElem? (i := 547) (by decide +kernel)⟩
theorem lw_p23 : lw_okq (⟨"CubeChecker", "newestMay", "()LCubeChecker$MaySearch;"⟩, 9) := ⟨⟨by decide +kernel, by decide +kernel⟩, List.mem_of_getElem? (i := 21) (by decide +kernel), List.mem_of_getElem? (i := 592) (by decide +kernel), List.mem_of_getElem? (i := 593) (by decide +kernel)⟩
theorem lw_p24 : lw_okq (⟨"CubeChecker$Leaps", "find", "(I)V"⟩, 9) := ⟨⟨by decide +kernel, by decide +kernel⟩, List.mem_of_getElem? (i := 322) (by decide +kernel), List.mem_of_getElem? (i := 727) (by decide +kernel), List.mem_of_getElem? (i := 728) (by decide +kernel)⟩
theorem lw_p25 : lw_okq (⟨"CubeChecker$MaySearch", "addAll", "(II)V"⟩, 11) := ⟨⟨by decide +kernel, by decide +kernel⟩, List.mem_of_getElem? (i := 677) (by decide +kernel), List.mem_of_getElem? (i := 741) (by decide +kernel), List.mem_of_getElem? (i := 742) (by decide +kernel)⟩
theorem lw_p26 : lw_okq (⟨"CubeChecker$MaySearch", "add", "(III)V"⟩, 11) := ⟨⟨by decide +kernel, by decide +kernel⟩, List.mem_of_getElem? (i := 677) (by decide +kernel), List.mem_of_getElem? (i := 748) (by decide +kernel), List.mem_of_getElem? (i := 749) (by decide +kernel)⟩
theorem lw_p27 : lw_okq (⟨"CubeChecker$MaySearch", "goOn", "(I)V"⟩, 11) := ⟨⟨by decide +kernel, by decide +kernel⟩, List.mem_of_getElem? (i := 677) (by decide +kernel), List.mem_of_getElem? (i := 752) (by decide +kernel), List.mem_of_getElem? (i := 753) (by decide +kernel)⟩
theorem lw_p28 : lw_okq (⟨"CubeChecker$MaySearch", "tracePath", "()V"⟩, 11) := ⟨⟨by decide +kernel, by decide +kernel⟩, List.mem_of_getElem? (i := 677) (by decide +kernel), List.mem_of_getElem? (i := 760) (by decide +kernel), List.mem_of_getElem? (i := 761) (by decide +kernel)⟩
theorem lw_p29 : lw_okq (⟨"CubeChecker$Way", "listFirstValues", "([I)I"⟩, 12) := ⟨⟨by decide +kernel, by decide +kernel⟩, List.mem_of_getElem? (i := 632) (by decide +kernel), List.mem_of_getElem? (i := 812) (by decide +kernel), List.mem_of_getElem? (i := 813) (by decide +kernel)⟩
theorem lw_p30 : lw_okq (⟨"CubeChecker$Way", "listAfter", "(I[II[I)I"⟩, 12) := ⟨⟨by decide +kernel, by decide +kernel⟩, List.mem_of_getElem? (i := 632) (by decide +kernel), List.mem_of_getElem? (i := 822) (by decide +kernel), List.mem_of_getElem? (i := 823) (by decide +kernel)⟩
theorem lw_p31 : lw_okq (⟨"CubeChecker$Way", "isEndedBy", "(II)Z"⟩, 12) := ⟨⟨by decide +kernel, by decide +kernel⟩, List.mem_of_getElem? (i := 632) (by decide +kernel), List.mem_of_getElem? (i := 854) (by decide +kernel), List.mem_of_getElem? (i := 855) (by decide +kernel)⟩
def lw_privs_2 : List (MethodName × Nat) := [(⟨"CubeChecker", "isPlace", "(I)Z"⟩, 9), (⟨"CubeChecker", "newestReal", "()LCubeChecker$RealSearch;"⟩, 9), (⟨"CubeChecker$RealSearch", "empty", "()V"⟩, 10), (⟨"CubeChecker$RealSearch", "add", "(IIII)V"⟩, 10), (⟨"CubeChecker$RealSearch", "endOfGroup", "(I)I"⟩, 10), (⟨"CubeChecker$RealSearch", "goOn", "(III)V"⟩, 10), (⟨"CubeChecker$RealSearch", "goBy", "(IIII)V"⟩, 10), (⟨"CubeChecker", "newestMay", "()LCubeChecker$MaySearch;"⟩, 9), (⟨"CubeChecker$Leaps", "find", "(I)V"⟩, 9), (⟨"CubeChecker$MaySearch", "addAll", "(II)V"⟩, 11), (⟨"CubeChecker$MaySearch", "add", "(III)V"⟩, 11), (⟨"CubeChecker$MaySearch", "goOn", "(I)V"⟩, 11), (⟨"CubeChecker$MaySearch", "tracePath", "()V"⟩, 11), (⟨"CubeChecker$Way", "listFirstValues", "([I)I"⟩, 12), (⟨"CubeChecker$Way", "listAfter", "(I[II[I)I"⟩, 12), (⟨"CubeChecker$Way", "isEndedBy", "(II)Z"⟩, 12)]
theorem lw_r2 : ∀ q ∈ lw_privs_2, lw_okq q := List.forall_mem_cons.mpr ⟨lw_p16, List.forall_mem_cons.mpr ⟨lw_p17, List.forall_mem_cons.mpr ⟨lw_p18, List.forall_mem_cons.mpr ⟨lw_p19, List.forall_mem_cons.mpr ⟨lw_p20, List.forall_mem_cons.mpr ⟨lw_p21, List.forall_mem_cons.mpr ⟨lw_p22, List.forall_mem_cons.mpr ⟨lw_p23, List.forall_mem_cons.mpr ⟨lw_p24, List.forall_mem_cons.mpr ⟨lw_p25, List.forall_mem_cons.mpr ⟨lw_p26, List.forall_mem_cons.mpr ⟨lw_p27, List.forall_mem_cons.mpr ⟨lw_p28, List.forall_mem_cons.mpr ⟨lw_p29, List.forall_mem_cons.mpr ⟨lw_p30, List.forall_mem_cons.mpr ⟨lw_p31, fun _ h => absurd h List.not_mem_nil⟩⟩⟩⟩⟩⟩⟩⟩⟩⟩⟩⟩⟩⟩⟩⟩
theorem lw_p32 : lw_okq (⟨"CubeChecker", "lookOnPath", "(LCubeChecker$MaySearch;I)V"⟩, 9) := ⟨⟨by decide +kernel, by decide +kernel⟩, List.mem_of_getElem? (i := 21) (by decide +kernel), List.mem_of_getElem? (i := 860) (by decide +kernel), List.mem_of_getElem? (i := 861) (by decide +kernel)⟩
theorem lw_p33 : lw_okq (⟨"CubeChecker", "lookedAtInAll", "()I"⟩, 9) := ⟨⟨by decide +kernel, by decide +kernel⟩, List.mem_of_getElem? (i := 21) (by decide +kernel), List.mem_of_getElem? (i := 889) (by decide +kernel), List.mem_of_getElem? (i := 890) (by decide +kernel)⟩
theorem lw_p34 : lw_okq (⟨"CubeCheckerModel", "compares", "(IIII)V"⟩, 34) := ⟨⟨by decide +kernel, by decide +kernel⟩, List.mem_of_getElem? (i := 897) (by decide +kernel), List.mem_of_getElem? (i := 903) (by decide +kernel), List.mem_of_getElem? (i := 904) (by decide +kernel)⟩
theorem lw_p35 : lw_okq (⟨"CubeCheckerModel", "joins", "(IIIII)V"⟩, 34) := ⟨⟨by decide +kernel, by decide +kernel⟩, List.mem_of_getElem? (i := 897) (by decide +kernel), List.mem_of_getElem? (i := 907) (by decide +kernel), List.mem_of_getElem? (i := 908) (by decide +kernel)⟩
theorem lw_p36 : lw_okq (⟨"CubeCheckerModel", "acts", "(IIII)V"⟩, 34) := ⟨⟨by decide +kernel, by decide +kernel⟩, List.mem_of_getElem? (i := 897) (by decide +kernel), List.mem_of_getElem? (i := 911) (by decide +kernel), List.mem_of_getElem? (i := 912) (by decide +kernel)⟩
theorem lw_p37 : lw_okq (⟨"CubeCheckerModel", "begins", "()V"⟩, 34) := ⟨⟨by decide +kernel, by decide +kernel⟩, List.mem_of_getElem? (i := 897) (by decide +kernel), List.mem_of_getElem? (i := 915) (by decide +kernel), List.mem_of_getElem? (i := 916) (by decide +kernel)⟩
theorem lw_p38 : lw_okq (⟨"CubeCheckerModel", "reads", "()I"⟩, 34) := ⟨⟨by decide +kernel, by decide +kernel⟩, List.mem_of_getElem? (i := 897) (by decide +kernel), List.mem_of_getElem? (i := 1035) (by decide +kernel), List.mem_of_getElem? (i := 1036) (by decide +kernel)⟩
theorem lw_p39 : lw_okq (⟨"CubeCheckerModel", "readsItem", "(II)Z"⟩, 34) := ⟨⟨by decide +kernel, by decide +kernel⟩, List.mem_of_getElem? (i := 897) (by decide +kernel), List.mem_of_getElem? (i := 1042) (by decide +kernel), List.mem_of_getElem? (i := 1043) (by decide +kernel)⟩
theorem lw_p40 : lw_okq (⟨"CubeCheckerModel", "figure", "(I)I"⟩, 34) := ⟨⟨by decide +kernel, by decide +kernel⟩, List.mem_of_getElem? (i := 897) (by decide +kernel), List.mem_of_getElem? (i := 1046) (by decide +kernel), List.mem_of_getElem? (i := 1047) (by decide +kernel)⟩
theorem lw_p41 : lw_okq (⟨"CubeCheckerModel", "readsPlaces", "(I)Z"⟩, 34) := ⟨⟨by decide +kernel, by decide +kernel⟩, List.mem_of_getElem? (i := 897) (by decide +kernel), List.mem_of_getElem? (i := 1053) (by decide +kernel), List.mem_of_getElem? (i := 1054) (by decide +kernel)⟩
theorem lw_p42 : lw_okq (⟨"CubeCheckerModel", "readsVariable", "(I)Z"⟩, 34) := ⟨⟨by decide +kernel, by decide +kernel⟩, List.mem_of_getElem? (i := 897) (by decide +kernel), List.mem_of_getElem? (i := 1057) (by decide +kernel), List.mem_of_getElem? (i := 1058) (by decide +kernel)⟩
theorem lw_p43 : lw_okq (⟨"CubeCheckerModel", "readsComparison", "(I)Z"⟩, 34) := ⟨⟨by decide +kernel, by decide +kernel⟩, List.mem_of_getElem? (i := 897) (by decide +kernel), List.mem_of_getElem? (i := 1061) (by decide +kernel), List.mem_of_getElem? (i := 1062) (by decide +kernel)⟩
theorem lw_p44 : lw_okq (⟨"CubeCheckerModel", "readsEdge", "(I)Z"⟩, 34) := ⟨⟨by decide +kernel, by decide +kernel⟩, List.mem_of_getElem? (i := 897) (by decide +kernel), List.mem_of_getElem? (i := 1065) (by decide +kernel), List.mem_of_getElem? (i := 1066) (by decide +kernel)⟩
theorem lw_p45 : lw_okq (⟨"CubeCheckerModel", "isEdge", "(I)Z"⟩, 34) := ⟨⟨by decide +kernel, by decide +kernel⟩, List.mem_of_getElem? (i := 897) (by decide +kernel), List.mem_of_getElem? (i := 1077) (by decide +kernel), List.mem_of_getElem? (i := 1078) (by decide +kernel)⟩
theorem lw_p46 : lw_okq (⟨"CubeCheckerModel", "isComparison", "(I)Z"⟩, 34) := ⟨⟨by decide +kernel, by decide +kernel⟩, List.mem_of_getElem? (i := 897) (by decide +kernel), List.mem_of_getElem? (i := 1085) (by decide +kernel), List.mem_of_getElem? (i := 1086) (by decide +kernel)⟩
theorem lw_p47 : lw_okq (⟨"CubeCheckerModel", "isSo", "(II)Z"⟩, 34) := ⟨⟨by decide +kernel, by decide +kernel⟩, List.mem_of_getElem? (i := 897) (by decide +kernel), List.mem_of_getElem? (i := 1092) (by decide +kernel), List.mem_of_getElem? (i := 1093) (by decide +kernel)⟩
def lw_privs_3 : List (MethodName × Nat) := [(⟨"CubeChecker", "lookOnPath", "(LCubeChecker$MaySearch;I)V"⟩, 9), (⟨"CubeChecker", "lookedAtInAll", "()I"⟩, 9), (⟨"CubeCheckerModel", "compares", "(IIII)V"⟩, 34), (⟨"CubeCheckerModel", "joins", "(IIIII)V"⟩, 34), (⟨"CubeCheckerModel", "acts", "(IIII)V"⟩, 34), (⟨"CubeCheckerModel", "begins", "()V"⟩, 34), (⟨"CubeCheckerModel", "reads", "()I"⟩, 34), (⟨"CubeCheckerModel", "readsItem", "(II)Z"⟩, 34), (⟨"CubeCheckerModel", "figure", "(I)I"⟩, 34), (⟨"CubeCheckerModel", "readsPlaces", "(I)Z"⟩, 34), (⟨"CubeCheckerModel", "readsVariable", "(I)Z"⟩, 34), (⟨"CubeCheckerModel", "readsComparison", "(I)Z"⟩, 34), (⟨"CubeCheckerModel", "readsEdge", "(I)Z"⟩, 34), (⟨"CubeCheckerModel", "isEdge", "(I)Z"⟩, 34), (⟨"CubeCheckerModel", "isComparison", "(I)Z"⟩, 34), (⟨"CubeCheckerModel", "isSo", "(II)Z"⟩, 34)]
theorem lw_r3 : ∀ q ∈ lw_privs_3, lw_okq q := List.forall_mem_cons.mpr ⟨lw_p32, List.forall_mem_cons.mpr ⟨lw_p33, List.forall_mem_cons.mpr ⟨lw_p34, List.forall_mem_cons.mpr ⟨lw_p35, List.forall_mem_cons.mpr ⟨lw_p36, List.forall_mem_cons.mpr ⟨lw_p37, List.forall_mem_cons.mpr ⟨lw_p38, List.forall_mem_cons.mpr ⟨lw_p39, List.forall_mem_cons.mpr ⟨lw_p40, List.forall_mem_cons.mpr ⟨lw_p41, List.forall_mem_cons.mpr ⟨lw_p42, List.forall_mem_cons.mpr ⟨lw_p43, List.forall_mem_cons.mpr ⟨lw_p44, List.forall_mem_cons.mpr ⟨lw_p45, List.forall_mem_cons.mpr ⟨lw_p46, List.forall_mem_cons.mpr ⟨lw_p47, fun _ h => absurd h List.not_mem_nil⟩⟩⟩⟩⟩⟩⟩⟩⟩⟩⟩⟩⟩⟩⟩⟩
theorem lw_p48 : lw_okq (⟨"CubeCheckerModel", "goes", "(II)I"⟩, 34) := ⟨⟨by decide +kernel, by decide +kernel⟩, List.mem_of_getElem? (i := 897) (by decide +kernel), List.mem_of_getElem? (i := 1103) (by decide +kernel), List.mem_of_getElem? (i := 1104) (by decide +kernel)⟩
theorem lw_p49 : lw_okq (⟨"CubeCheckerModel", "keeps", "()V"⟩, 34) := ⟨⟨by decide +kernel, by decide +kernel⟩, List.mem_of_getElem? (i := 897) (by decide +kernel), List.mem_of_getElem? (i := 1115) (by decide +kernel), List.mem_of_getElem? (i := 1116) (by decide +kernel)⟩
theorem lw_p50 : lw_okq (⟨"CubeCheckerModel", "isPlace", "(I)Z"⟩, 34) := ⟨⟨by decide +kernel, by decide +kernel⟩, List.mem_of_getElem? (i := 897) (by decide +kernel), List.mem_of_getElem? (i := 1123) (by decide +kernel), List.mem_of_getElem? (i := 1124) (by decide +kernel)⟩
theorem lw_p51 : lw_okq (⟨"CubeCheckerModel", "spreads", "()V"⟩, 34) := ⟨⟨by decide +kernel, by decide +kernel⟩, List.mem_of_getElem? (i := 897) (by decide +kernel), List.mem_of_getElem? (i := 1138) (by decide +kernel), List.mem_of_getElem? (i := 1139) (by decide +kernel)⟩
theorem lw_p52 : lw_okq (⟨"CubeCheckerModel", "isFirst", "(I)Z"⟩, 34) := ⟨⟨by decide +kernel, by decide +kernel⟩, List.mem_of_getElem? (i := 897) (by decide +kernel), List.mem_of_getElem? (i := 1142) (by decide +kernel), List.mem_of_getElem? (i := 1143) (by decide +kernel)⟩
theorem lw_p53 : lw_okq (⟨"CubeCheckerModel", "isThere", "(I)Z"⟩, 34) := ⟨⟨by decide +kernel, by decide +kernel⟩, List.mem_of_getElem? (i := 897) (by decide +kernel), List.mem_of_getElem? (i := 1146) (by decide +kernel), List.mem_of_getElem? (i := 1147) (by decide +kernel)⟩
theorem lw_p54 : lw_okq (⟨"CubeCheckerModel", "meets", "(II)V"⟩, 34) := ⟨⟨by decide +kernel, by decide +kernel⟩, List.mem_of_getElem? (i := 897) (by decide +kernel), List.mem_of_getElem? (i := 1150) (by decide +kernel), List.mem_of_getElem? (i := 1151) (by decide +kernel)⟩
theorem lw_p55 : lw_okq (⟨"CubeCheckerModel", "nearest", "(I)I"⟩, 34) := ⟨⟨by decide +kernel, by decide +kernel⟩, List.mem_of_getElem? (i := 897) (by decide +kernel), List.mem_of_getElem? (i := 1154) (by decide +kernel), List.mem_of_getElem? (i := 1155) (by decide +kernel)⟩
theorem lw_p56 : lw_okq (⟨"CubeCheckerModel", "prunes", "(I)V"⟩, 34) := ⟨⟨by decide +kernel, by decide +kernel⟩, List.mem_of_getElem? (i := 897) (by decide +kernel), List.mem_of_getElem? (i := 1162) (by decide +kernel), List.mem_of_getElem? (i := 1163) (by decide +kernel)⟩
theorem lw_p57 : lw_okq (⟨"CubeCheckerModel", "leads", "(II)Z"⟩, 34) := ⟨⟨by decide +kernel, by decide +kernel⟩, List.mem_of_getElem? (i := 897) (by decide +kernel), List.mem_of_getElem? (i := 1166) (by decide +kernel), List.mem_of_getElem? (i := 1167) (by decide +kernel)⟩
theorem lw_p58 : lw_okq (⟨"CubeCheckerModel", "becomes", "(II)V"⟩, 34) := ⟨⟨by decide +kernel, by decide +kernel⟩, List.mem_of_getElem? (i := 897) (by decide +kernel), List.mem_of_getElem? (i := 1174) (by decide +kernel), List.mem_of_getElem? (i := 1175) (by decide +kernel)⟩
theorem lw_p59 : lw_okq (⟨"CubeCheckerModel", "cube", "(III)I"⟩, 34) := ⟨⟨by decide +kernel, by decide +kernel⟩, List.mem_of_getElem? (i := 897) (by decide +kernel), List.mem_of_getElem? (i := 1178) (by decide +kernel), List.mem_of_getElem? (i := 1179) (by decide +kernel)⟩
theorem lw_p60 : lw_okq (⟨"CubeCheckerModel", "looks", "()V"⟩, 34) := ⟨⟨by decide +kernel, by decide +kernel⟩, List.mem_of_getElem? (i := 897) (by decide +kernel), List.mem_of_getElem? (i := 1186) (by decide +kernel), List.mem_of_getElem? (i := 1187) (by decide +kernel)⟩
theorem lw_p61 : lw_okq (⟨"CubeCheckerModel", "comes", "(II)V"⟩, 34) := ⟨⟨by decide +kernel, by decide +kernel⟩, List.mem_of_getElem? (i := 897) (by decide +kernel), List.mem_of_getElem? (i := 1190) (by decide +kernel), List.mem_of_getElem? (i := 1191) (by decide +kernel)⟩
theorem lw_p62 : lw_okq (⟨"CubeCheckerModel", "findsPath", "()Z"⟩, 34) := ⟨⟨by decide +kernel, by decide +kernel⟩, List.mem_of_getElem? (i := 897) (by decide +kernel), List.mem_of_getElem? (i := 1202) (by decide +kernel), List.mem_of_getElem? (i := 1203) (by decide +kernel)⟩
theorem lw_p63 : lw_okq (⟨"CubeCheckerModel", "farOfPath", "()I"⟩, 34) := ⟨⟨by decide +kernel, by decide +kernel⟩, List.mem_of_getElem? (i := 897) (by decide +kernel), List.mem_of_getElem? (i := 1206) (by decide +kernel), List.mem_of_getElem? (i := 1207) (by decide +kernel)⟩
def lw_privs_4 : List (MethodName × Nat) := [(⟨"CubeCheckerModel", "goes", "(II)I"⟩, 34), (⟨"CubeCheckerModel", "keeps", "()V"⟩, 34), (⟨"CubeCheckerModel", "isPlace", "(I)Z"⟩, 34), (⟨"CubeCheckerModel", "spreads", "()V"⟩, 34), (⟨"CubeCheckerModel", "isFirst", "(I)Z"⟩, 34), (⟨"CubeCheckerModel", "isThere", "(I)Z"⟩, 34), (⟨"CubeCheckerModel", "meets", "(II)V"⟩, 34), (⟨"CubeCheckerModel", "nearest", "(I)I"⟩, 34), (⟨"CubeCheckerModel", "prunes", "(I)V"⟩, 34), (⟨"CubeCheckerModel", "leads", "(II)Z"⟩, 34), (⟨"CubeCheckerModel", "becomes", "(II)V"⟩, 34), (⟨"CubeCheckerModel", "cube", "(III)I"⟩, 34), (⟨"CubeCheckerModel", "looks", "()V"⟩, 34), (⟨"CubeCheckerModel", "comes", "(II)V"⟩, 34), (⟨"CubeCheckerModel", "findsPath", "()Z"⟩, 34), (⟨"CubeCheckerModel", "farOfPath", "()I"⟩, 34)]
theorem lw_r4 : ∀ q ∈ lw_privs_4, lw_okq q := List.forall_mem_cons.mpr ⟨lw_p48, List.forall_mem_cons.mpr ⟨lw_p49, List.forall_mem_cons.mpr ⟨lw_p50, List.forall_mem_cons.mpr ⟨lw_p51, List.forall_mem_cons.mpr ⟨lw_p52, List.forall_mem_cons.mpr ⟨lw_p53, List.forall_mem_cons.mpr ⟨lw_p54, List.forall_mem_cons.mpr ⟨lw_p55, List.forall_mem_cons.mpr ⟨lw_p56, List.forall_mem_cons.mpr ⟨lw_p57, List.forall_mem_cons.mpr ⟨lw_p58, List.forall_mem_cons.mpr ⟨lw_p59, List.forall_mem_cons.mpr ⟨lw_p60, List.forall_mem_cons.mpr ⟨lw_p61, List.forall_mem_cons.mpr ⟨lw_p62, List.forall_mem_cons.mpr ⟨lw_p63, fun _ h => absurd h List.not_mem_nil⟩⟩⟩⟩⟩⟩⟩⟩⟩⟩⟩⟩⟩⟩⟩⟩
theorem lw_p64 : lw_okq (⟨"CubeCheckerModel", "setFor", "()I"⟩, 34) := ⟨⟨by decide +kernel, by decide +kernel⟩, List.mem_of_getElem? (i := 897) (by decide +kernel), List.mem_of_getElem? (i := 1214) (by decide +kernel), List.mem_of_getElem? (i := 1215) (by decide +kernel)⟩
theorem lw_p65 : lw_okq (⟨"CubeCheckerModel", "isEnded", "(I)Z"⟩, 34) := ⟨⟨by decide +kernel, by decide +kernel⟩, List.mem_of_getElem? (i := 897) (by decide +kernel), List.mem_of_getElem? (i := 1218) (by decide +kernel), List.mem_of_getElem? (i := 1219) (by decide +kernel)⟩
theorem lw_p66 : lw_okq (⟨"CubeCheckerModel", "looksMore", "(I)V"⟩, 34) := ⟨⟨by decide +kernel, by decide +kernel⟩, List.mem_of_getElem? (i := 897) (by decide +kernel), List.mem_of_getElem? (i := 1222) (by decide +kernel), List.mem_of_getElem? (i := 1223) (by decide +kernel)⟩
theorem lw_p67 : lw_okq (⟨"CubeCheckerModel", "how", "()I"⟩, 34) := ⟨⟨by decide +kernel, by decide +kernel⟩, List.mem_of_getElem? (i := 897) (by decide +kernel), List.mem_of_getElem? (i := 1230) (by decide +kernel), List.mem_of_getElem? (i := 1231) (by decide +kernel)⟩
def lw_privs_5 : List (MethodName × Nat) := [(⟨"CubeCheckerModel", "setFor", "()I"⟩, 34), (⟨"CubeCheckerModel", "isEnded", "(I)Z"⟩, 34), (⟨"CubeCheckerModel", "looksMore", "(I)V"⟩, 34), (⟨"CubeCheckerModel", "how", "()I"⟩, 34)]
theorem lw_r5 : ∀ q ∈ lw_privs_5, lw_okq q := List.forall_mem_cons.mpr ⟨lw_p64, List.forall_mem_cons.mpr ⟨lw_p65, List.forall_mem_cons.mpr ⟨lw_p66, List.forall_mem_cons.mpr ⟨lw_p67, fun _ h => absurd h List.not_mem_nil⟩⟩⟩⟩
def lw_privs : List (MethodName × Nat) := lw_privs_1 ++ (lw_privs_2 ++ (lw_privs_3 ++ (lw_privs_4 ++ (lw_privs_5))))
def lw_tbl : List Cond := k2_sels lw_privs ++ tables_1
theorem lw_privs_ok : ∀ q ∈ lw_privs, lw_okq q := by
  show ∀ q ∈ lw_privs_1 ++ (lw_privs_2 ++ (lw_privs_3 ++ (lw_privs_4 ++ (lw_privs_5)))), lw_okq q
  exact List.forall_mem_append.mpr ⟨lw_r1, List.forall_mem_append.mpr ⟨lw_r2, List.forall_mem_append.mpr ⟨lw_r3, List.forall_mem_append.mpr ⟨lw_r4, lw_r5⟩⟩⟩⟩
def RX0 : String := "CubeChecker$History"
def TX0 : u_T := fun k => match k with
  | 0 => ("CubeChecker$History", "lookedAt", "[[I", true)
  | 1 => ("CubeChecker$History", "wants", "[I", true)
  | 2 => ("CubeChecker$History", "kept", "I", false)
  | _ => ("CubeChecker$History", "next", "I", false)
def tyX0 : Nat → FieldType := fun k => match k with
  | 0 => .array (.array .int)
  | 1 => .array .int
  | 2 => .int
  | _ => .int
abbrev wsX00 : List Cond := u_ws RX0 TX0 4
theorem nmX0 : ∀ a, a < 4 → ∀ b, b < 4 → a ≠ b → (TX0 a).2.1 ≠ (TX0 b).2.1 := by decide +kernel
theorem tyX0_ok : ∀ k, k < 4 → parseFieldDescriptor (TX0 k).2.2.1 = some (tyX0 k) := by decide +kernel
abbrev cX0_init : ByteArray := prog_2_method_1_code
def yX0_init : MethodName := ⟨RX0, "<init>", "()V"⟩
abbrev cX0_size : ByteArray := prog_2_method_2_code
def yX0_size : MethodName := ⟨RX0, "size", "()I"⟩
abbrev cX0_empty : ByteArray := prog_2_method_3_code
def yX0_empty : MethodName := ⟨RX0, "empty", "()V"⟩
abbrev cX0_keep : ByteArray := prog_2_method_4_code
def yX0_keep : MethodName := ⟨RX0, "keep", "([II)V"⟩
abbrev cX0_takeBack : ByteArray := prog_2_method_5_code
def yX0_takeBack : MethodName := ⟨RX0, "takeBack", "([I)I"⟩
def RX1 : String := "CubeChecker$Leaps"
def TX1 : u_T := fun k => match k with
  | 0 => ("CubeChecker$Leaps", "program", "LCubeChecker$Program;", true)
  | 1 => ("CubeChecker$Leaps", "meaning", "LCubeChecker$Meaning;", true)
  | 2 => ("CubeChecker$Leaps", "leap", "[[I", true)
  | 3 => ("CubeChecker$Leaps", "leaps", "[I", true)
  | 4 => ("CubeChecker$Leaps", "foundFor", "[I", true)
  | 5 => ("CubeChecker$Leaps", "ordered", "[I", true)
  | 6 => ("CubeChecker$Leaps", "start", "[I", true)
  | 7 => ("CubeChecker$Leaps", "first", "LCubeChecker$NumberSet;", true)
  | _ => ("CubeChecker$Leaps", "behind", "LCubeChecker$NumberSet;", true)
def tyX1 : Nat → FieldType := fun k => match k with
  | 0 => .object "CubeChecker$Program"
  | 1 => .object "CubeChecker$Meaning"
  | 2 => .array (.array .int)
  | 3 => .array .int
  | 4 => .array .int
  | 5 => .array .int
  | 6 => .array .int
  | 7 => .object "CubeChecker$NumberSet"
  | _ => .object "CubeChecker$NumberSet"
abbrev wsX10 : List Cond := u_ws RX1 TX1 9
theorem nmX1 : ∀ a, a < 9 → ∀ b, b < 9 → a ≠ b → (TX1 a).2.1 ≠ (TX1 b).2.1 := by decide +kernel
theorem tyX1_ok : ∀ k, k < 9 → parseFieldDescriptor (TX1 k).2.2.1 = some (tyX1 k) := by decide +kernel
abbrev cX1_init : ByteArray := prog_3_method_1_code
def yX1_init : MethodName := ⟨RX1, "<init>", "(LCubeChecker$Program;LCubeChecker$Meaning;)V"⟩
abbrev cX1_takeProgram : ByteArray := prog_3_method_2_code
def yX1_takeProgram : MethodName := ⟨RX1, "takeProgram", "()V"⟩
abbrev cX1_renew : ByteArray := prog_3_method_3_code
def yX1_renew : MethodName := ⟨RX1, "renew", "()V"⟩
abbrev cX1_putFirstCubes : ByteArray := prog_3_method_4_code
def yX1_putFirstCubes : MethodName := ⟨RX1, "putFirstCubes", "(ILCubeChecker$NumberSet;)V"⟩
abbrev cX1_putNextCubes : ByteArray := prog_3_method_5_code
def yX1_putNextCubes : MethodName := ⟨RX1, "putNextCubes", "(I[ILCubeChecker$NumberSet;LCubeChecker$NumberSet;)Z"⟩
abbrev cX1_orderValues : ByteArray := prog_3_method_6_code
def yX1_orderValues : MethodName := ⟨RX1, "orderValues", "()V"⟩
abbrev cX1_find : ByteArray := prog_3_method_7_code
def yX1_find : MethodName := ⟨RX1, "find", "(I)V"⟩
def RX2 : String := "CubeChecker$MaySearch"
def TX2 : u_T := fun k => match k with
  | 0 => ("CubeChecker$MaySearch", "program", "LCubeChecker$Program;", true)
  | 1 => ("CubeChecker$MaySearch", "leaps", "LCubeChecker$Leaps;", true)
  | 2 => ("CubeChecker$MaySearch", "way", "LCubeChecker$Way;", true)
  | 3 => ("CubeChecker$MaySearch", "lookedAt", "[I", true)
  | 4 => ("CubeChecker$MaySearch", "node", "[I", true)
  | 5 => ("CubeChecker$MaySearch", "from", "[I", true)
  | 6 => ("CubeChecker$MaySearch", "seen", "LCubeChecker$NumberSet;", true)
  | 7 => ("CubeChecker$MaySearch", "now", "LCubeChecker$NumberSet;", true)
  | 8 => ("CubeChecker$MaySearch", "then", "LCubeChecker$NumberSet;", true)
  | 9 => ("CubeChecker$MaySearch", "came", "I", false)
  | _ => ("CubeChecker$MaySearch", "firstOfTrap", "I", false)
def tyX2 : Nat → FieldType := fun k => match k with
  | 0 => .object "CubeChecker$Program"
  | 1 => .object "CubeChecker$Leaps"
  | 2 => .object "CubeChecker$Way"
  | 3 => .array .int
  | 4 => .array .int
  | 5 => .array .int
  | 6 => .object "CubeChecker$NumberSet"
  | 7 => .object "CubeChecker$NumberSet"
  | 8 => .object "CubeChecker$NumberSet"
  | 9 => .int
  | _ => .int
abbrev wsX20 : List Cond := u_ws RX2 TX2 11
theorem nmX2 : ∀ a, a < 11 → ∀ b, b < 11 → a ≠ b → (TX2 a).2.1 ≠ (TX2 b).2.1 := by decide +kernel
theorem tyX2_ok : ∀ k, k < 11 → parseFieldDescriptor (TX2 k).2.2.1 = some (tyX2 k) := by decide +kernel
abbrev cX2_init : ByteArray := prog_4_method_1_code
def yX2_init : MethodName := ⟨RX2, "<init>", "(LCubeChecker$Program;LCubeChecker$Leaps;LCubeChecker$Way;[I)V"⟩
abbrev cX2_takeProgram : ByteArray := prog_4_method_2_code
def yX2_takeProgram : MethodName := ⟨RX2, "takeProgram", "()V"⟩
abbrev cX2_search : ByteArray := prog_4_method_3_code
def yX2_search : MethodName := ⟨RX2, "search", "()V"⟩
abbrev cX2_states : ByteArray := prog_4_method_4_code
def yX2_states : MethodName := ⟨RX2, "states", "()I"⟩
abbrev cX2_statesOf : ByteArray := prog_4_method_5_code
def yX2_statesOf : MethodName := ⟨RX2, "statesOf", "(I)I"⟩
abbrev cX2_cubeOf : ByteArray := prog_4_method_6_code
def yX2_cubeOf : MethodName := ⟨RX2, "cubeOf", "(II)I"⟩
abbrev cX2_foundAt : ByteArray := prog_4_method_7_code
def yX2_foundAt : MethodName := ⟨RX2, "foundAt", "(I)I"⟩
abbrev cX2_becomes : ByteArray := prog_4_method_8_code
def yX2_becomes : MethodName := ⟨RX2, "becomes", "(III)Z"⟩
abbrev cX2_isSafe : ByteArray := prog_4_method_9_code
def yX2_isSafe : MethodName := ⟨RX2, "isSafe", "()Z"⟩
abbrev cX2_way : ByteArray := prog_4_method_10_code
def yX2_way : MethodName := ⟨RX2, "way", "()LCubeChecker$Way;"⟩
abbrev cX2_goOn : ByteArray := prog_4_method_11_code
def yX2_goOn : MethodName := ⟨RX2, "goOn", "(I)V"⟩
abbrev cX2_addAll : ByteArray := prog_4_method_12_code
def yX2_addAll : MethodName := ⟨RX2, "addAll", "(II)V"⟩
abbrev cX2_add : ByteArray := prog_4_method_13_code
def yX2_add : MethodName := ⟨RX2, "add", "(III)V"⟩
abbrev cX2_tracePath : ByteArray := prog_4_method_14_code
def yX2_tracePath : MethodName := ⟨RX2, "tracePath", "()V"⟩
def RX3 : String := "CubeChecker$Meaning"
def TX3 : u_T := fun k => match k with
  | 0 => ("CubeChecker$Meaning", "program", "LCubeChecker$Program;", true)
  | 1 => ("CubeChecker$Meaning", "sos", "[I", true)
  | 2 => ("CubeChecker$Meaning", "first", "[I", true)
  | 3 => ("CubeChecker$Meaning", "firsts", "I", false)
  | 4 => ("CubeChecker$Meaning", "size", "I", false)
  | _ => ("CubeChecker$Meaning", "gap", "I", false)
def tyX3 : Nat → FieldType := fun k => match k with
  | 0 => .object "CubeChecker$Program"
  | 1 => .array .int
  | 2 => .array .int
  | 3 => .int
  | 4 => .int
  | _ => .int
abbrev wsX30 : List Cond := u_ws RX3 TX3 6
theorem nmX3 : ∀ a, a < 6 → ∀ b, b < 6 → a ≠ b → (TX3 a).2.1 ≠ (TX3 b).2.1 := by decide +kernel
theorem tyX3_ok : ∀ k, k < 6 → parseFieldDescriptor (TX3 k).2.2.1 = some (tyX3 k) := by decide +kernel
abbrev cX3_init : ByteArray := prog_5_method_1_code
def yX3_init : MethodName := ⟨RX3, "<init>", "(LCubeChecker$Program;)V"⟩
abbrev cX3_learn : ByteArray := prog_5_method_2_code
def yX3_learn : MethodName := ⟨RX3, "learn", "()V"⟩
abbrev cX3_size : ByteArray := prog_5_method_3_code
def yX3_size : MethodName := ⟨RX3, "size", "()I"⟩
abbrev cX3_valuesAt : ByteArray := prog_5_method_4_code
def yX3_valuesAt : MethodName := ⟨RX3, "valuesAt", "(I)I"⟩
abbrev cX3_valuesOf : ByteArray := prog_5_method_5_code
def yX3_valuesOf : MethodName := ⟨RX3, "valuesOf", "(III)I"⟩
abbrev cX3_firsts : ByteArray := prog_5_method_6_code
def yX3_firsts : MethodName := ⟨RX3, "firsts", "()I"⟩
abbrev cX3_firstAt : ByteArray := prog_5_method_7_code
def yX3_firstAt : MethodName := ⟨RX3, "firstAt", "(I)I"⟩
abbrev cX3_sosOf : ByteArray := prog_5_method_8_code
def yX3_sosOf : MethodName := ⟨RX3, "sosOf", "(I)I"⟩
abbrev cX3_after : ByteArray := prog_5_method_9_code
def yX3_after : MethodName := ⟨RX3, "after", "(II)I"⟩
abbrev cX3_areFirst : ByteArray := prog_5_method_10_code
def yX3_areFirst : MethodName := ⟨RX3, "areFirst", "(I)Z"⟩
abbrev cX3_findSos : ByteArray := prog_5_method_11_code
def yX3_findSos : MethodName := ⟨RX3, "findSos", "(I)I"⟩
abbrev cX3_isSo : ByteArray := prog_5_method_12_code
def yX3_isSo : MethodName := ⟨RX3, "isSo", "([II)Z"⟩
abbrev cX3_valueOf : ByteArray := prog_5_method_13_code
def yX3_valueOf : MethodName := ⟨RX3, "valueOf", "(II)I"⟩
def RX4 : String := "CubeChecker$NumberSet"
def TX4 : u_T := fun k => match k with
  | _ => ("CubeChecker$NumberSet", "words", "[I", true)
def tyX4 : Nat → FieldType := fun k => match k with
  | _ => .array .int
abbrev wsX40 : List Cond := u_ws RX4 TX4 1
theorem nmX4 : ∀ a, a < 1 → ∀ b, b < 1 → a ≠ b → (TX4 a).2.1 ≠ (TX4 b).2.1 := by decide +kernel
theorem tyX4_ok : ∀ k, k < 1 → parseFieldDescriptor (TX4 k).2.2.1 = some (tyX4 k) := by decide +kernel
abbrev cX4_init : ByteArray := prog_6_method_1_code
def yX4_init : MethodName := ⟨RX4, "<init>", "(I)V"⟩
abbrev cX4_empty : ByteArray := prog_6_method_2_code
def yX4_empty : MethodName := ⟨RX4, "empty", "()V"⟩
abbrev cX4_has : ByteArray := prog_6_method_3_code
def yX4_has : MethodName := ⟨RX4, "has", "(I)Z"⟩
abbrev cX4_add : ByteArray := prog_6_method_4_code
def yX4_add : MethodName := ⟨RX4, "add", "(I)Z"⟩
def RX5 : String := "CubeChecker$Program"
def TX5 : u_T := fun k => match k with
  | 0 => ("CubeChecker$Program", "places", "I", false)
  | 1 => ("CubeChecker$Program", "trap", "I", false)
  | 2 => ("CubeChecker$Program", "variables", "I", false)
  | 3 => ("CubeChecker$Program", "comparisons", "I", false)
  | 4 => ("CubeChecker$Program", "edges", "I", false)
  | 5 => ("CubeChecker$Program", "low", "[I", true)
  | 6 => ("CubeChecker$Program", "high", "[I", true)
  | 7 => ("CubeChecker$Program", "comparison", "[[I", true)
  | _ => ("CubeChecker$Program", "edge", "[[I", true)
def tyX5 : Nat → FieldType := fun k => match k with
  | 0 => .int
  | 1 => .int
  | 2 => .int
  | 3 => .int
  | 4 => .int
  | 5 => .array .int
  | 6 => .array .int
  | 7 => .array (.array .int)
  | _ => .array (.array .int)
abbrev wsX50 : List Cond := u_ws RX5 TX5 9
theorem nmX5 : ∀ a, a < 9 → ∀ b, b < 9 → a ≠ b → (TX5 a).2.1 ≠ (TX5 b).2.1 := by decide +kernel
theorem tyX5_ok : ∀ k, k < 9 → parseFieldDescriptor (TX5 k).2.2.1 = some (tyX5 k) := by decide +kernel
abbrev cX5_init : ByteArray := prog_7_method_1_code
def yX5_init : MethodName := ⟨RX5, "<init>", "()V"⟩
abbrev cX5_empty : ByteArray := prog_7_method_2_code
def yX5_empty : MethodName := ⟨RX5, "empty", "()V"⟩
abbrev cX5_become : ByteArray := prog_7_method_3_code
def yX5_become : MethodName := ⟨RX5, "become", "(LCubeChecker$Program;)V"⟩
abbrev cX5_wants : ByteArray := prog_7_method_4_code
def yX5_wants : MethodName := ⟨RX5, "wants", "()I"⟩
abbrev cX5_setWants : ByteArray := prog_7_method_5_code
def yX5_setWants : MethodName := ⟨RX5, "setWants", "(I)V"⟩
def RX6 : String := "CubeChecker$RealSearch"
def TX6 : u_T := fun k => match k with
  | 0 => ("CubeChecker$RealSearch", "program", "LCubeChecker$Program;", true)
  | 1 => ("CubeChecker$RealSearch", "meaning", "LCubeChecker$Meaning;", true)
  | 2 => ("CubeChecker$RealSearch", "node", "[I", true)
  | 3 => ("CubeChecker$RealSearch", "from", "[I", true)
  | 4 => ("CubeChecker$RealSearch", "seen", "LCubeChecker$NumberSet;", true)
  | 5 => ("CubeChecker$RealSearch", "distance", "[I", true)
  | 6 => ("CubeChecker$RealSearch", "realValues", "[I", true)
  | 7 => ("CubeChecker$RealSearch", "holds", "[I", true)
  | 8 => ("CubeChecker$RealSearch", "came", "I", false)
  | _ => ("CubeChecker$RealSearch", "endOfRun", "I", false)
def tyX6 : Nat → FieldType := fun k => match k with
  | 0 => .object "CubeChecker$Program"
  | 1 => .object "CubeChecker$Meaning"
  | 2 => .array .int
  | 3 => .array .int
  | 4 => .object "CubeChecker$NumberSet"
  | 5 => .array .int
  | 6 => .array .int
  | 7 => .array .int
  | 8 => .int
  | _ => .int
abbrev wsX60 : List Cond := u_ws RX6 TX6 10
theorem nmX6 : ∀ a, a < 10 → ∀ b, b < 10 → a ≠ b → (TX6 a).2.1 ≠ (TX6 b).2.1 := by decide +kernel
theorem tyX6_ok : ∀ k, k < 10 → parseFieldDescriptor (TX6 k).2.2.1 = some (tyX6 k) := by decide +kernel
abbrev cX6_init : ByteArray := prog_8_method_1_code
def yX6_init : MethodName := ⟨RX6, "<init>", "(LCubeChecker$Program;LCubeChecker$Meaning;)V"⟩
abbrev cX6_distanceOf : ByteArray := prog_8_method_2_code
def yX6_distanceOf : MethodName := ⟨RX6, "distanceOf", "(I)I"⟩
abbrev cX6_valuesAt : ByteArray := prog_8_method_3_code
def yX6_valuesAt : MethodName := ⟨RX6, "valuesAt", "(I)I"⟩
abbrev cX6_holdsAt : ByteArray := prog_8_method_4_code
def yX6_holdsAt : MethodName := ⟨RX6, "holdsAt", "(I)I"⟩
abbrev cX6_edgeOfRun : ByteArray := prog_8_method_5_code
def yX6_edgeOfRun : MethodName := ⟨RX6, "edgeOfRun", "(I)I"⟩
abbrev cX6_search : ByteArray := prog_8_method_6_code
def yX6_search : MethodName := ⟨RX6, "search", "()V"⟩
abbrev cX6_empty : ByteArray := prog_8_method_7_code
def yX6_empty : MethodName := ⟨RX6, "empty", "()V"⟩
abbrev cX6_endOfGroup : ByteArray := prog_8_method_8_code
def yX6_endOfGroup : MethodName := ⟨RX6, "endOfGroup", "(I)I"⟩
abbrev cX6_goOn : ByteArray := prog_8_method_9_code
def yX6_goOn : MethodName := ⟨RX6, "goOn", "(III)V"⟩
abbrev cX6_goBy : ByteArray := prog_8_method_10_code
def yX6_goBy : MethodName := ⟨RX6, "goBy", "(IIII)V"⟩
abbrev cX6_add : ByteArray := prog_8_method_11_code
def yX6_add : MethodName := ⟨RX6, "add", "(IIII)V"⟩
def RX7 : String := "CubeChecker$Text"
def TX7 : u_T := fun k => match k with
  | 0 => ("CubeChecker$Text", "letters", "[C", true)
  | 1 => ("CubeChecker$Text", "length", "I", false)
  | 2 => ("CubeChecker$Text", "told", "LCubeChecker$Program;", true)
  | _ => ("CubeChecker$Text", "figures", "[I", true)
def tyX7 : Nat → FieldType := fun k => match k with
  | 0 => .array .char
  | 1 => .int
  | 2 => .object "CubeChecker$Program"
  | _ => .array .int
abbrev wsX70 : List Cond := u_ws RX7 TX7 4
theorem nmX7 : ∀ a, a < 4 → ∀ b, b < 4 → a ≠ b → (TX7 a).2.1 ≠ (TX7 b).2.1 := by decide +kernel
theorem tyX7_ok : ∀ k, k < 4 → parseFieldDescriptor (TX7 k).2.2.1 = some (tyX7 k) := by decide +kernel
abbrev cX7_init : ByteArray := prog_9_method_1_code
def yX7_init : MethodName := ⟨RX7, "<init>", "()V"⟩
abbrev cX7_size : ByteArray := prog_9_method_2_code
def yX7_size : MethodName := ⟨RX7, "size", "()I"⟩
abbrev cX7_empty : ByteArray := prog_9_method_3_code
def yX7_empty : MethodName := ⟨RX7, "empty", "()V"⟩
abbrev cX7_add : ByteArray := prog_9_method_4_code
def yX7_add : MethodName := ⟨RX7, "add", "(C)Z"⟩
abbrev cX7_program : ByteArray := prog_9_method_5_code
def yX7_program : MethodName := ⟨RX7, "program", "()LCubeChecker$Program;"⟩
abbrev cX7_firstFault : ByteArray := prog_9_method_6_code
def yX7_firstFault : MethodName := ⟨RX7, "firstFault", "()I"⟩
abbrev cX7_figuresBehind : ByteArray := prog_9_method_7_code
def yX7_figuresBehind : MethodName := ⟨RX7, "figuresBehind", "(C)I"⟩
abbrev cX7_takeFigures : ByteArray := prog_9_method_8_code
def yX7_takeFigures : MethodName := ⟨RX7, "takeFigures", "(II)Z"⟩
abbrev cX7_tell : ByteArray := prog_9_method_9_code
def yX7_tell : MethodName := ⟨RX7, "tell", "(C)Z"⟩
abbrev cX7_tellPlaces : ByteArray := prog_9_method_10_code
def yX7_tellPlaces : MethodName := ⟨RX7, "tellPlaces", "()Z"⟩
abbrev cX7_tellVariable : ByteArray := prog_9_method_11_code
def yX7_tellVariable : MethodName := ⟨RX7, "tellVariable", "()Z"⟩
abbrev cX7_tellComparison : ByteArray := prog_9_method_12_code
def yX7_tellComparison : MethodName := ⟨RX7, "tellComparison", "()Z"⟩
abbrev cX7_tellEdge : ByteArray := prog_9_method_13_code
def yX7_tellEdge : MethodName := ⟨RX7, "tellEdge", "()Z"⟩
abbrev cX7_edgeJoinsAndAsksWell : ByteArray := prog_9_method_14_code
def yX7_edgeJoinsAndAsksWell : MethodName := ⟨RX7, "edgeJoinsAndAsksWell", "()Z"⟩
abbrev cX7_edgeDoesWell : ByteArray := prog_9_method_15_code
def yX7_edgeDoesWell : MethodName := ⟨RX7, "edgeDoesWell", "()Z"⟩
abbrev cX7_isVariable : ByteArray := prog_9_method_16_code
def yX7_isVariable : MethodName := ⟨RX7, "isVariable", "(I)Z"⟩
def RX8 : String := "CubeChecker$Way"
def TX8 : u_T := fun k => match k with
  | 0 => ("CubeChecker$Way", "program", "LCubeChecker$Program;", true)
  | 1 => ("CubeChecker$Way", "meaning", "LCubeChecker$Meaning;", true)
  | 2 => ("CubeChecker$Way", "leaps", "LCubeChecker$Leaps;", true)
  | 3 => ("CubeChecker$Way", "lookedAt", "[I", true)
  | 4 => ("CubeChecker$Way", "row", "[I", true)
  | 5 => ("CubeChecker$Way", "length", "I", false)
  | 6 => ("CubeChecker$Way", "looksThen", "[I", true)
  | 7 => ("CubeChecker$Way", "someCubes", "LCubeChecker$NumberSet;", true)
  | 8 => ("CubeChecker$Way", "otherCubes", "LCubeChecker$NumberSet;", true)
  | 9 => ("CubeChecker$Way", "someValues", "[I", true)
  | 10 => ("CubeChecker$Way", "otherValues", "[I", true)
  | _ => ("CubeChecker$Way", "listed", "LCubeChecker$NumberSet;", true)
def tyX8 : Nat → FieldType := fun k => match k with
  | 0 => .object "CubeChecker$Program"
  | 1 => .object "CubeChecker$Meaning"
  | 2 => .object "CubeChecker$Leaps"
  | 3 => .array .int
  | 4 => .array .int
  | 5 => .int
  | 6 => .array .int
  | 7 => .object "CubeChecker$NumberSet"
  | 8 => .object "CubeChecker$NumberSet"
  | 9 => .array .int
  | 10 => .array .int
  | _ => .object "CubeChecker$NumberSet"
abbrev wsX80 : List Cond := u_ws RX8 TX8 12
theorem nmX8 : ∀ a, a < 12 → ∀ b, b < 12 → a ≠ b → (TX8 a).2.1 ≠ (TX8 b).2.1 := by decide +kernel
theorem tyX8_ok : ∀ k, k < 12 → parseFieldDescriptor (TX8 k).2.2.1 = some (tyX8 k) := by decide +kernel
abbrev cX8_init : ByteArray := prog_10_method_1_code
def yX8_init : MethodName := ⟨RX8, "<init>", "(LCubeChecker$Program;LCubeChecker$Meaning;LCubeChecker$Leaps;[I)V"⟩
abbrev cX8_empty : ByteArray := prog_10_method_2_code
def yX8_empty : MethodName := ⟨RX8, "empty", "()V"⟩
abbrev cX8_putAhead : ByteArray := prog_10_method_3_code
def yX8_putAhead : MethodName := ⟨RX8, "putAhead", "(I)V"⟩
abbrev cX8_length : ByteArray := prog_10_method_4_code
def yX8_length : MethodName := ⟨RX8, "length", "()I"⟩
abbrev cX8_edgeAt : ByteArray := prog_10_method_5_code
def yX8_edgeAt : MethodName := ⟨RX8, "edgeAt", "(I)I"⟩
abbrev cX8_isReal : ByteArray := prog_10_method_6_code
def yX8_isReal : MethodName := ⟨RX8, "isReal", "()Z"⟩
abbrev cX8_far : ByteArray := prog_10_method_7_code
def yX8_far : MethodName := ⟨RX8, "far", "()I"⟩
abbrev cX8_places : ByteArray := prog_10_method_8_code
def yX8_places : MethodName := ⟨RX8, "places", "()I"⟩
abbrev cX8_leastSetThatEnds : ByteArray := prog_10_method_9_code
def yX8_leastSetThatEnds : MethodName := ⟨RX8, "leastSetThatEnds", "()I"⟩
abbrev cX8_listFirstValues : ByteArray := prog_10_method_10_code
def yX8_listFirstValues : MethodName := ⟨RX8, "listFirstValues", "([I)I"⟩
abbrev cX8_listAfter : ByteArray := prog_10_method_11_code
def yX8_listAfter : MethodName := ⟨RX8, "listAfter", "(I[II[I)I"⟩
abbrev cX8_isEndedBy : ByteArray := prog_10_method_12_code
def yX8_isEndedBy : MethodName := ⟨RX8, "isEndedBy", "(II)Z"⟩
def RX9 : String := "CubeChecker"
def TX9 : u_T := fun k => match k with
  | 0 => ("CubeChecker", "text", "LCubeChecker$Text;", true)
  | 1 => ("CubeChecker", "program", "LCubeChecker$Program;", true)
  | 2 => ("CubeChecker", "meaning", "LCubeChecker$Meaning;", true)
  | 3 => ("CubeChecker", "lookedAt", "[I", true)
  | 4 => ("CubeChecker", "history", "LCubeChecker$History;", true)
  | 5 => ("CubeChecker", "realSearch", "LCubeChecker$RealSearch;", false)
  | 6 => ("CubeChecker", "maySearch", "LCubeChecker$MaySearch;", false)
  | 7 => ("CubeChecker", "realSearchIsOld", "Z", false)
  | _ => ("CubeChecker", "maySearchIsOld", "Z", false)
def tyX9 : Nat → FieldType := fun k => match k with
  | 0 => .object "CubeChecker$Text"
  | 1 => .object "CubeChecker$Program"
  | 2 => .object "CubeChecker$Meaning"
  | 3 => .array .int
  | 4 => .object "CubeChecker$History"
  | 5 => .object "CubeChecker$RealSearch"
  | 6 => .object "CubeChecker$MaySearch"
  | 7 => .boolean
  | _ => .boolean
abbrev wsX90 : List Cond := u_ws RX9 TX9 9
theorem nmX9 : ∀ a, a < 9 → ∀ b, b < 9 → a ≠ b → (TX9 a).2.1 ≠ (TX9 b).2.1 := by decide +kernel
theorem tyX9_ok : ∀ k, k < 9 → parseFieldDescriptor (TX9 k).2.2.1 = some (tyX9 k) := by decide +kernel
abbrev cX9_init : ByteArray := prog_1_method_1_code
def yX9_init : MethodName := ⟨RX9, "<init>", "()V"⟩
abbrev cX9_write : ByteArray := prog_1_method_2_code
def yX9_write : MethodName := ⟨RX9, "write", "(I)I"⟩
abbrev cX9_wipe : ByteArray := prog_1_method_3_code
def yX9_wipe : MethodName := ⟨RX9, "wipe", "()I"⟩
abbrev cX9_fault : ByteArray := prog_1_method_4_code
def yX9_fault : MethodName := ⟨RX9, "fault", "()I"⟩
abbrev cX9_lay : ByteArray := prog_1_method_5_code
def yX9_lay : MethodName := ⟨RX9, "lay", "()I"⟩
abbrev cX9_edge : ByteArray := prog_1_method_6_code
def yX9_edge : MethodName := ⟨RX9, "edge", "(II)I"⟩
abbrev cX9_turn : ByteArray := prog_1_method_7_code
def yX9_turn : MethodName := ⟨RX9, "turn", "(I)I"⟩
abbrev cX9_so : ByteArray := prog_1_method_8_code
def yX9_so : MethodName := ⟨RX9, "so", "(IIII)I"⟩
abbrev cX9_gone : ByteArray := prog_1_method_9_code
def yX9_gone : MethodName := ⟨RX9, "gone", "(IIII)I"⟩
abbrev cX9_real : ByteArray := prog_1_method_10_code
def yX9_real : MethodName := ⟨RX9, "real", "(II)I"⟩
abbrev cX9_run : ByteArray := prog_1_method_11_code
def yX9_run : MethodName := ⟨RX9, "run", "(I)I"⟩
abbrev cX9_look : ByteArray := prog_1_method_12_code
def yX9_look : MethodName := ⟨RX9, "look", "(III)I"⟩
abbrev cX9_looked : ByteArray := prog_1_method_13_code
def yX9_looked : MethodName := ⟨RX9, "looked", "(I)I"⟩
abbrev cX9_may : ByteArray := prog_1_method_14_code
def yX9_may : MethodName := ⟨RX9, "may", "(III)I"⟩
abbrev cX9_state : ByteArray := prog_1_method_15_code
def yX9_state : MethodName := ⟨RX9, "state", "(II)I"⟩
abbrev cX9_found : ByteArray := prog_1_method_16_code
def yX9_found : MethodName := ⟨RX9, "found", "(I)I"⟩
abbrev cX9_path : ByteArray := prog_1_method_17_code
def yX9_path : MethodName := ⟨RX9, "path", "(I)I"⟩
abbrev cX9_mend : ByteArray := prog_1_method_18_code
def yX9_mend : MethodName := ⟨RX9, "mend", "()I"⟩
abbrev cX9_check : ByteArray := prog_1_method_19_code
def yX9_check : MethodName := ⟨RX9, "check", "(I)I"⟩
abbrev cX9_undo : ByteArray := prog_1_method_20_code
def yX9_undo : MethodName := ⟨RX9, "undo", "()I"⟩
abbrev cX9_count : ByteArray := prog_1_method_21_code
def yX9_count : MethodName := ⟨RX9, "count", "(I)I"⟩
abbrev cX9_isPlace : ByteArray := prog_1_method_22_code
def yX9_isPlace : MethodName := ⟨RX9, "isPlace", "(I)Z"⟩
abbrev cX9_isComparison : ByteArray := prog_1_method_23_code
def yX9_isComparison : MethodName := ⟨RX9, "isComparison", "(I)Z"⟩
abbrev cX9_isEdge : ByteArray := prog_1_method_24_code
def yX9_isEdge : MethodName := ⟨RX9, "isEdge", "(I)Z"⟩
abbrev cX9_isCube : ByteArray := prog_1_method_25_code
def yX9_isCube : MethodName := ⟨RX9, "isCube", "(I)Z"⟩
abbrev cX9_areValues : ByteArray := prog_1_method_26_code
def yX9_areValues : MethodName := ⟨RX9, "areValues", "(III)Z"⟩
abbrev cX9_isValue : ByteArray := prog_1_method_27_code
def yX9_isValue : MethodName := ⟨RX9, "isValue", "(I)Z"⟩
abbrev cX9_takeText : ByteArray := prog_1_method_28_code
def yX9_takeText : MethodName := ⟨RX9, "takeText", "()Z"⟩
abbrev cX9_forgetSearches : ByteArray := prog_1_method_29_code
def yX9_forgetSearches : MethodName := ⟨RX9, "forgetSearches", "()V"⟩
abbrev cX9_newestReal : ByteArray := prog_1_method_30_code
def yX9_newestReal : MethodName := ⟨RX9, "newestReal", "()LCubeChecker$RealSearch;"⟩
abbrev cX9_newestMay : ByteArray := prog_1_method_31_code
def yX9_newestMay : MethodName := ⟨RX9, "newestMay", "()LCubeChecker$MaySearch;"⟩
abbrev cX9_setThatMends : ByteArray := prog_1_method_32_code
def yX9_setThatMends : MethodName := ⟨RX9, "setThatMends", "(LCubeChecker$MaySearch;)I"⟩
abbrev cX9_lookOnPath : ByteArray := prog_1_method_33_code
def yX9_lookOnPath : MethodName := ⟨RX9, "lookOnPath", "(LCubeChecker$MaySearch;I)V"⟩
abbrev cX9_lookedAtInAll : ByteArray := prog_1_method_34_code
def yX9_lookedAtInAll : MethodName := ⟨RX9, "lookedAtInAll", "()I"⟩
def RX10 : String := "CubeCheckerModel"
def TX10 : u_T := fun k => match k with
  | 0 => ("CubeCheckerModel", "length", "I", false)
  | 1 => ("CubeCheckerModel", "text", "[I", true)
  | 2 => ("CubeCheckerModel", "places", "I", false)
  | 3 => ("CubeCheckerModel", "trap", "I", false)
  | 4 => ("CubeCheckerModel", "variables", "I", false)
  | 5 => ("CubeCheckerModel", "first", "[I", true)
  | 6 => ("CubeCheckerModel", "comparisons", "I", false)
  | 7 => ("CubeCheckerModel", "compare", "[I", true)
  | 8 => ("CubeCheckerModel", "edges", "I", false)
  | 9 => ("CubeCheckerModel", "edge", "[I", true)
  | 10 => ("CubeCheckerModel", "now", "[I", true)
  | 11 => ("CubeCheckerModel", "was", "[I", true)
  | 12 => ("CubeCheckerModel", "changes", "I", false)
  | 13 => ("CubeCheckerModel", "readPlaces", "I", false)
  | 14 => ("CubeCheckerModel", "readTrap", "I", false)
  | 15 => ("CubeCheckerModel", "readVariables", "I", false)
  | 16 => ("CubeCheckerModel", "readFirst", "[I", true)
  | 17 => ("CubeCheckerModel", "readComparisons", "I", false)
  | 18 => ("CubeCheckerModel", "readCompare", "[I", true)
  | 19 => ("CubeCheckerModel", "readEdges", "I", false)
  | 20 => ("CubeCheckerModel", "readEdge", "[I", true)
  | 21 => ("CubeCheckerModel", "far", "[I", true)
  | 22 => ("CubeCheckerModel", "queue", "[I", true)
  | 23 => ("CubeCheckerModel", "queued", "I", false)
  | 24 => ("CubeCheckerModel", "here", "[Z", true)
  | 25 => ("CubeCheckerModel", "there", "[Z", true)
  | 26 => ("CubeCheckerModel", "states", "[I", true)
  | 27 => ("CubeCheckerModel", "from", "[I", true)
  | 28 => ("CubeCheckerModel", "has", "[Z", true)
  | 29 => ("CubeCheckerModel", "many", "I", false)
  | 30 => ("CubeCheckerModel", "cubes", "[Z", true)
  | 31 => ("CubeCheckerModel", "path", "[I", true)
  | 32 => ("CubeCheckerModel", "pathLong", "I", false)
  | _ => ("CubeCheckerModel", "next", "[Z", true)
def tyX10 : Nat → FieldType := fun k => match k with
  | 0 => .int
  | 1 => .array .int
  | 2 => .int
  | 3 => .int
  | 4 => .int
  | 5 => .array .int
  | 6 => .int
  | 7 => .array .int
  | 8 => .int
  | 9 => .array .int
  | 10 => .array .int
  | 11 => .array .int
  | 12 => .int
  | 13 => .int
  | 14 => .int
  | 15 => .int
  | 16 => .array .int
  | 17 => .int
  | 18 => .array .int
  | 19 => .int
  | 20 => .array .int
  | 21 => .array .int
  | 22 => .array .int
  | 23 => .int
  | 24 => .array .boolean
  | 25 => .array .boolean
  | 26 => .array .int
  | 27 => .array .int
  | 28 => .array .boolean
  | 29 => .int
  | 30 => .array .boolean
  | 31 => .array .int
  | 32 => .int
  | _ => .array .boolean
abbrev wsX100 : List Cond := u_ws RX10 TX10 34
theorem nmX10 : ∀ a, a < 34 → ∀ b, b < 34 → a ≠ b → (TX10 a).2.1 ≠ (TX10 b).2.1 := by decide +kernel
theorem tyX10_ok : ∀ k, k < 34 → parseFieldDescriptor (TX10 k).2.2.1 = some (tyX10 k) := by decide +kernel
abbrev cX10_init : ByteArray := prog_12_method_1_code
def yX10_init : MethodName := ⟨RX10, "<init>", "()V"⟩
abbrev cX10_compares : ByteArray := prog_12_method_2_code
def yX10_compares : MethodName := ⟨RX10, "compares", "(IIII)V"⟩
abbrev cX10_joins : ByteArray := prog_12_method_3_code
def yX10_joins : MethodName := ⟨RX10, "joins", "(IIIII)V"⟩
abbrev cX10_acts : ByteArray := prog_12_method_4_code
def yX10_acts : MethodName := ⟨RX10, "acts", "(IIII)V"⟩
abbrev cX10_begins : ByteArray := prog_12_method_5_code
def yX10_begins : MethodName := ⟨RX10, "begins", "()V"⟩
abbrev cX10_isIn : ByteArray := prog_12_method_6_code
def yX10_isIn : MethodName := ⟨RX10, "isIn", "(III)Z"⟩
abbrev cX10_figure : ByteArray := prog_12_method_7_code
def yX10_figure : MethodName := ⟨RX10, "figure", "(I)I"⟩
abbrev cX10_figuresOf : ByteArray := prog_12_method_8_code
def yX10_figuresOf : MethodName := ⟨RX10, "figuresOf", "(I)I"⟩
abbrev cX10_readsPlaces : ByteArray := prog_12_method_9_code
def yX10_readsPlaces : MethodName := ⟨RX10, "readsPlaces", "(I)Z"⟩
abbrev cX10_readsVariable : ByteArray := prog_12_method_10_code
def yX10_readsVariable : MethodName := ⟨RX10, "readsVariable", "(I)Z"⟩
abbrev cX10_readsComparison : ByteArray := prog_12_method_11_code
def yX10_readsComparison : MethodName := ⟨RX10, "readsComparison", "(I)Z"⟩
abbrev cX10_readsEdge : ByteArray := prog_12_method_12_code
def yX10_readsEdge : MethodName := ⟨RX10, "readsEdge", "(I)Z"⟩
abbrev cX10_readsItem : ByteArray := prog_12_method_13_code
def yX10_readsItem : MethodName := ⟨RX10, "readsItem", "(II)Z"⟩
abbrev cX10_reads : ByteArray := prog_12_method_14_code
def yX10_reads : MethodName := ⟨RX10, "reads", "()I"⟩
abbrev cX10_write : ByteArray := prog_12_method_15_code
def yX10_write : MethodName := ⟨RX10, "write", "(I)I"⟩
abbrev cX10_wipe : ByteArray := prog_12_method_16_code
def yX10_wipe : MethodName := ⟨RX10, "wipe", "()I"⟩
abbrev cX10_fault : ByteArray := prog_12_method_17_code
def yX10_fault : MethodName := ⟨RX10, "fault", "()I"⟩
abbrev cX10_lay : ByteArray := prog_12_method_18_code
def yX10_lay : MethodName := ⟨RX10, "lay", "()I"⟩
abbrev cX10_isPlace : ByteArray := prog_12_method_19_code
def yX10_isPlace : MethodName := ⟨RX10, "isPlace", "(I)Z"⟩
abbrev cX10_isComparison : ByteArray := prog_12_method_20_code
def yX10_isComparison : MethodName := ⟨RX10, "isComparison", "(I)Z"⟩
abbrev cX10_isEdge : ByteArray := prog_12_method_21_code
def yX10_isEdge : MethodName := ⟨RX10, "isEdge", "(I)Z"⟩
abbrev cX10_areValues : ByteArray := prog_12_method_22_code
def yX10_areValues : MethodName := ⟨RX10, "areValues", "(III)Z"⟩
abbrev cX10_value : ByteArray := prog_12_method_23_code
def yX10_value : MethodName := ⟨RX10, "value", "(II)I"⟩
abbrev cX10_isThere : ByteArray := prog_12_method_24_code
def yX10_isThere : MethodName := ⟨RX10, "isThere", "(I)Z"⟩
abbrev cX10_isFirst : ByteArray := prog_12_method_25_code
def yX10_isFirst : MethodName := ⟨RX10, "isFirst", "(I)Z"⟩
abbrev cX10_isSo : ByteArray := prog_12_method_26_code
def yX10_isSo : MethodName := ⟨RX10, "isSo", "(II)Z"⟩
abbrev cX10_goes : ByteArray := prog_12_method_27_code
def yX10_goes : MethodName := ⟨RX10, "goes", "(II)I"⟩
abbrev cX10_cube : ByteArray := prog_12_method_28_code
def yX10_cube : MethodName := ⟨RX10, "cube", "(III)I"⟩
abbrev cX10_edge : ByteArray := prog_12_method_29_code
def yX10_edge : MethodName := ⟨RX10, "edge", "(II)I"⟩
abbrev cX10_so : ByteArray := prog_12_method_30_code
def yX10_so : MethodName := ⟨RX10, "so", "(IIII)I"⟩
abbrev cX10_gone : ByteArray := prog_12_method_31_code
def yX10_gone : MethodName := ⟨RX10, "gone", "(IIII)I"⟩
abbrev cX10_keeps : ByteArray := prog_12_method_32_code
def yX10_keeps : MethodName := ⟨RX10, "keeps", "()V"⟩
abbrev cX10_undo : ByteArray := prog_12_method_33_code
def yX10_undo : MethodName := ⟨RX10, "undo", "()I"⟩
abbrev cX10_turn : ByteArray := prog_12_method_34_code
def yX10_turn : MethodName := ⟨RX10, "turn", "(I)I"⟩
abbrev cX10_bits : ByteArray := prog_12_method_35_code
def yX10_bits : MethodName := ⟨RX10, "bits", "(I)I"⟩
abbrev cX10_look : ByteArray := prog_12_method_36_code
def yX10_look : MethodName := ⟨RX10, "look", "(III)I"⟩
abbrev cX10_looked : ByteArray := prog_12_method_37_code
def yX10_looked : MethodName := ⟨RX10, "looked", "(I)I"⟩
abbrev cX10_meets : ByteArray := prog_12_method_38_code
def yX10_meets : MethodName := ⟨RX10, "meets", "(II)V"⟩
abbrev cX10_spreads : ByteArray := prog_12_method_39_code
def yX10_spreads : MethodName := ⟨RX10, "spreads", "()V"⟩
abbrev cX10_nearest : ByteArray := prog_12_method_40_code
def yX10_nearest : MethodName := ⟨RX10, "nearest", "(I)I"⟩
abbrev cX10_real : ByteArray := prog_12_method_41_code
def yX10_real : MethodName := ⟨RX10, "real", "(II)I"⟩
abbrev cX10_prunes : ByteArray := prog_12_method_42_code
def yX10_prunes : MethodName := ⟨RX10, "prunes", "(I)V"⟩
abbrev cX10_leads : ByteArray := prog_12_method_43_code
def yX10_leads : MethodName := ⟨RX10, "leads", "(II)Z"⟩
abbrev cX10_run : ByteArray := prog_12_method_44_code
def yX10_run : MethodName := ⟨RX10, "run", "(I)I"⟩
abbrev cX10_comes : ByteArray := prog_12_method_45_code
def yX10_comes : MethodName := ⟨RX10, "comes", "(II)V"⟩
abbrev cX10_becomes : ByteArray := prog_12_method_46_code
def yX10_becomes : MethodName := ⟨RX10, "becomes", "(II)V"⟩
abbrev cX10_looks : ByteArray := prog_12_method_47_code
def yX10_looks : MethodName := ⟨RX10, "looks", "()V"⟩
abbrev cX10_may : ByteArray := prog_12_method_48_code
def yX10_may : MethodName := ⟨RX10, "may", "(III)I"⟩
abbrev cX10_state : ByteArray := prog_12_method_49_code
def yX10_state : MethodName := ⟨RX10, "state", "(II)I"⟩
abbrev cX10_found : ByteArray := prog_12_method_50_code
def yX10_found : MethodName := ⟨RX10, "found", "(I)I"⟩
abbrev cX10_findsPath : ByteArray := prog_12_method_51_code
def yX10_findsPath : MethodName := ⟨RX10, "findsPath", "()Z"⟩
abbrev cX10_farOfPath : ByteArray := prog_12_method_52_code
def yX10_farOfPath : MethodName := ⟨RX10, "farOfPath", "()I"⟩
abbrev cX10_path : ByteArray := prog_12_method_53_code
def yX10_path : MethodName := ⟨RX10, "path", "(I)I"⟩
abbrev cX10_isEnded : ByteArray := prog_12_method_54_code
def yX10_isEnded : MethodName := ⟨RX10, "isEnded", "(I)Z"⟩
abbrev cX10_setFor : ByteArray := prog_12_method_55_code
def yX10_setFor : MethodName := ⟨RX10, "setFor", "()I"⟩
abbrev cX10_looksMore : ByteArray := prog_12_method_56_code
def yX10_looksMore : MethodName := ⟨RX10, "looksMore", "(I)V"⟩
abbrev cX10_mend : ByteArray := prog_12_method_57_code
def yX10_mend : MethodName := ⟨RX10, "mend", "()I"⟩
abbrev cX10_how : ByteArray := prog_12_method_58_code
def yX10_how : MethodName := ⟨RX10, "how", "()I"⟩
abbrev cX10_check : ByteArray := prog_12_method_59_code
def yX10_check : MethodName := ⟨RX10, "check", "(I)I"⟩
abbrev cX10_count : ByteArray := prog_12_method_60_code
def yX10_count : MethodName := ⟨RX10, "count", "(I)I"⟩
def RJ6 : String := "java/lang/Integer"
abbrev cJ6_bitCount_0f7a4 : ByteArray := prog_13_method_49_code
def yJ6_bitCount_0f7a4 : MethodName := ⟨RJ6, "bitCount", "(I)I"⟩
def RJ9 : String := "java/lang/Math"
abbrev cJ9_max_7cf53 : ByteArray := prog_14_method_65_code
def yJ9_max_7cf53 : MethodName := ⟨RJ9, "max", "(II)I"⟩
abbrev cJ9_min_7cf53 : ByteArray := prog_14_method_69_code
def yJ9_min_7cf53 : MethodName := ⟨RJ9, "min", "(II)I"⟩
def RJ0 : String := "java/lang/String"
abbrev cJ0_length_8abf5 : ByteArray := prog_15_method_54_code
def yJ0_length_8abf5 : MethodName := ⟨RJ0, "length", "()I"⟩
abbrev cJ0_charAt_5068e : ByteArray := prog_15_method_56_code
def yJ0_charAt_5068e : MethodName := ⟨RJ0, "charAt", "(I)C"⟩
abbrev cJ0_coder_7d493 : ByteArray := prog_15_method_152_code
def yJ0_coder_7d493 : MethodName := ⟨RJ0, "coder", "()B"⟩
abbrev cJ0_isLatin1_aae02 : ByteArray := prog_15_method_154_code
def yJ0_isLatin1_aae02 : MethodName := ⟨RJ0, "isLatin1", "()Z"⟩
abbrev cJ0_checkIndex_df160 : ByteArray := prog_15_method_155_code
def yJ0_checkIndex_df160 : MethodName := ⟨RJ0, "checkIndex", "(II)V"⟩
def RJ1 : String := "java/lang/StringLatin1"
abbrev cJ1_charAt_3b067 : ByteArray := prog_16_method_2_code
def yJ1_charAt_3b067 : MethodName := ⟨RJ1, "charAt", "([BI)C"⟩
def RJ2 : String := "java/lang/StringUTF16"
abbrev cJ2_getChar_3b067 : ByteArray := prog_17_method_5_code
def yJ2_getChar_3b067 : MethodName := ⟨RJ2, "getChar", "([BI)C"⟩
abbrev cJ2_length_9d52b : ByteArray := prog_17_method_6_code
def yJ2_length_9d52b : MethodName := ⟨RJ2, "length", "([B)I"⟩
abbrev cJ2_charAt_3b067 : ByteArray := prog_17_method_83_code
def yJ2_charAt_3b067 : MethodName := ⟨RJ2, "charAt", "([BI)C"⟩
abbrev cJ2_checkIndex_2214a : ByteArray := prog_17_method_91_code
def yJ2_checkIndex_2214a : MethodName := ⟨RJ2, "checkIndex", "(I[B)V"⟩
def RJ10 : String := "java/lang/System"
def RJ7 : String := "java/util/Arrays"
abbrev cJ7_fill_53178 : ByteArray := prog_19_method_103_code
def yJ7_fill_53178 : MethodName := ⟨RJ7, "fill", "([II)V"⟩
def RJ3 : String := "jdk/internal/util/Preconditions"
abbrev cJ3_checkIndex_8e157 : ByteArray := prog_20_method_11_code
def yJ3_checkIndex_8e157 : MethodName := ⟨RJ3, "checkIndex", "(IILjava/util/function/BiFunction;)I"⟩
def RL : String := "CubeCheckerLaw"
abbrev cL_law : ByteArray := code
def yL_law : MethodName := ⟨RL, "law", "([I)Z"⟩
abbrev vwCl : List vw_C := [(RX0, TX0, 4), (RX1, TX1, 9), (RX2, TX2, 11), (RX3, TX3, 6), (RX4, TX4, 1), (RX5, TX5, 9), (RX6, TX6, 10), (RX7, TX7, 4), (RX8, TX8, 12), (RX9, TX9, 9), (RX10, TX10, 34)]
/-! the words that hold at every call: those of the tables that a change of the machine keeps -/
def tb_G : List Cond := lw_tbl.filter goodWord
theorem tb_in {c : Cond} (i : Nat) (h : lw_tbl[i]? = some c) (g : goodWord c = true) : c ∈ tb_G := List.mem_filter.mpr ⟨List.mem_of_getElem? h, g⟩
theorem tb_X0 : ∀ w ∈ u_ws RX0 TX0 4, w ∈ tb_G := List.forall_mem_map.mpr (fun k hk => by
  have hk := List.mem_range.mp hk
  match k, hk with
  | 0, _ => exact tb_in 224 (by decide +kernel) (by decide +kernel)
  | 1, _ => exact tb_in 226 (by decide +kernel) (by decide +kernel)
  | 2, _ => exact tb_in 228 (by decide +kernel) (by decide +kernel)
  | 3, _ => exact tb_in 230 (by decide +kernel) (by decide +kernel)
  | k + 4, h => exact absurd h (by omega))
theorem tb_X1 : ∀ w ∈ u_ws RX1 TX1 9, w ∈ tb_G := List.forall_mem_map.mpr (fun k hk => by
  have hk := List.mem_range.mp hk
  match k, hk with
  | 0, _ => exact tb_in 680 (by decide +kernel) (by decide +kernel)
  | 1, _ => exact tb_in 682 (by decide +kernel) (by decide +kernel)
  | 2, _ => exact tb_in 684 (by decide +kernel) (by decide +kernel)
  | 3, _ => exact tb_in 686 (by decide +kernel) (by decide +kernel)
  | 4, _ => exact tb_in 688 (by decide +kernel) (by decide +kernel)
  | 5, _ => exact tb_in 690 (by decide +kernel) (by decide +kernel)
  | 6, _ => exact tb_in 692 (by decide +kernel) (by decide +kernel)
  | 7, _ => exact tb_in 694 (by decide +kernel) (by decide +kernel)
  | 8, _ => exact tb_in 696 (by decide +kernel) (by decide +kernel)
  | k + 9, h => exact absurd h (by omega))
theorem tb_X2 : ∀ w ∈ u_ws RX2 TX2 11, w ∈ tb_G := List.forall_mem_map.mpr (fun k hk => by
  have hk := List.mem_range.mp hk
  match k, hk with
  | 0, _ => exact tb_in 763 (by decide +kernel) (by decide +kernel)
  | 1, _ => exact tb_in 765 (by decide +kernel) (by decide +kernel)
  | 2, _ => exact tb_in 767 (by decide +kernel) (by decide +kernel)
  | 3, _ => exact tb_in 769 (by decide +kernel) (by decide +kernel)
  | 4, _ => exact tb_in 771 (by decide +kernel) (by decide +kernel)
  | 5, _ => exact tb_in 773 (by decide +kernel) (by decide +kernel)
  | 6, _ => exact tb_in 775 (by decide +kernel) (by decide +kernel)
  | 7, _ => exact tb_in 777 (by decide +kernel) (by decide +kernel)
  | 8, _ => exact tb_in 779 (by decide +kernel) (by decide +kernel)
  | 9, _ => exact tb_in 781 (by decide +kernel) (by decide +kernel)
  | 10, _ => exact tb_in 783 (by decide +kernel) (by decide +kernel)
  | k + 11, h => exact absurd h (by omega))
theorem tb_X3 : ∀ w ∈ u_ws RX3 TX3 6, w ∈ tb_G := List.forall_mem_map.mpr (fun k hk => by
  have hk := List.mem_range.mp hk
  match k, hk with
  | 0, _ => exact tb_in 200 (by decide +kernel) (by decide +kernel)
  | 1, _ => exact tb_in 202 (by decide +kernel) (by decide +kernel)
  | 2, _ => exact tb_in 204 (by decide +kernel) (by decide +kernel)
  | 3, _ => exact tb_in 206 (by decide +kernel) (by decide +kernel)
  | 4, _ => exact tb_in 208 (by decide +kernel) (by decide +kernel)
  | 5, _ => exact tb_in 210 (by decide +kernel) (by decide +kernel)
  | k + 6, h => exact absurd h (by omega))
theorem tb_X4 : ∀ w ∈ u_ws RX4 TX4 1, w ∈ tb_G := List.forall_mem_map.mpr (fun k hk => by
  have hk := List.mem_range.mp hk
  match k, hk with
  | 0, _ => exact tb_in 554 (by decide +kernel) (by decide +kernel)
  | k + 1, h => exact absurd h (by omega))
theorem tb_X5 : ∀ w ∈ u_ws RX5 TX5 9, w ∈ tb_G := List.forall_mem_map.mpr (fun k hk => by
  have hk := List.mem_range.mp hk
  match k, hk with
  | 0, _ => exact tb_in 152 (by decide +kernel) (by decide +kernel)
  | 1, _ => exact tb_in 154 (by decide +kernel) (by decide +kernel)
  | 2, _ => exact tb_in 156 (by decide +kernel) (by decide +kernel)
  | 3, _ => exact tb_in 158 (by decide +kernel) (by decide +kernel)
  | 4, _ => exact tb_in 160 (by decide +kernel) (by decide +kernel)
  | 5, _ => exact tb_in 162 (by decide +kernel) (by decide +kernel)
  | 6, _ => exact tb_in 164 (by decide +kernel) (by decide +kernel)
  | 7, _ => exact tb_in 166 (by decide +kernel) (by decide +kernel)
  | 8, _ => exact tb_in 168 (by decide +kernel) (by decide +kernel)
  | k + 9, h => exact absurd h (by omega))
theorem tb_X6 : ∀ w ∈ u_ws RX6 TX6 10, w ∈ tb_G := List.forall_mem_map.mpr (fun k hk => by
  have hk := List.mem_range.mp hk
  match k, hk with
  | 0, _ => exact tb_in 567 (by decide +kernel) (by decide +kernel)
  | 1, _ => exact tb_in 569 (by decide +kernel) (by decide +kernel)
  | 2, _ => exact tb_in 571 (by decide +kernel) (by decide +kernel)
  | 3, _ => exact tb_in 573 (by decide +kernel) (by decide +kernel)
  | 4, _ => exact tb_in 575 (by decide +kernel) (by decide +kernel)
  | 5, _ => exact tb_in 577 (by decide +kernel) (by decide +kernel)
  | 6, _ => exact tb_in 579 (by decide +kernel) (by decide +kernel)
  | 7, _ => exact tb_in 581 (by decide +kernel) (by decide +kernel)
  | 8, _ => exact tb_in 583 (by decide +kernel) (by decide +kernel)
  | 9, _ => exact tb_in 585 (by decide +kernel) (by decide +kernel)
  | k + 10, h => exact absurd h (by omega))
theorem tb_X7 : ∀ w ∈ u_ws RX7 TX7 4, w ∈ tb_G := List.forall_mem_map.mpr (fun k hk => by
  have hk := List.mem_range.mp hk
  match k, hk with
  | 0, _ => exact tb_in 177 (by decide +kernel) (by decide +kernel)
  | 1, _ => exact tb_in 179 (by decide +kernel) (by decide +kernel)
  | 2, _ => exact tb_in 181 (by decide +kernel) (by decide +kernel)
  | 3, _ => exact tb_in 183 (by decide +kernel) (by decide +kernel)
  | k + 4, h => exact absurd h (by omega))
theorem tb_X8 : ∀ w ∈ u_ws RX8 TX8 12, w ∈ tb_G := List.forall_mem_map.mpr (fun k hk => by
  have hk := List.mem_range.mp hk
  match k, hk with
  | 0, _ => exact tb_in 719 (by decide +kernel) (by decide +kernel)
  | 1, _ => exact tb_in 721 (by decide +kernel) (by decide +kernel)
  | 2, _ => exact tb_in 723 (by decide +kernel) (by decide +kernel)
  | 3, _ => exact tb_in 725 (by decide +kernel) (by decide +kernel)
  | 4, _ => exact tb_in 727 (by decide +kernel) (by decide +kernel)
  | 5, _ => exact tb_in 729 (by decide +kernel) (by decide +kernel)
  | 6, _ => exact tb_in 731 (by decide +kernel) (by decide +kernel)
  | 7, _ => exact tb_in 733 (by decide +kernel) (by decide +kernel)
  | 8, _ => exact tb_in 735 (by decide +kernel) (by decide +kernel)
  | 9, _ => exact tb_in 737 (by decide +kernel) (by decide +kernel)
  | 10, _ => exact tb_in 739 (by decide +kernel) (by decide +kernel)
  | 11, _ => exact tb_in 741 (by decide +kernel) (by decide +kernel)
  | k + 12, h => exact absurd h (by omega))
theorem tb_X9 : ∀ w ∈ u_ws RX9 TX9 9, w ∈ tb_G := List.forall_mem_map.mpr (fun k hk => by
  have hk := List.mem_range.mp hk
  match k, hk with
  | 0, _ => exact tb_in 435 (by decide +kernel) (by decide +kernel)
  | 1, _ => exact tb_in 437 (by decide +kernel) (by decide +kernel)
  | 2, _ => exact tb_in 439 (by decide +kernel) (by decide +kernel)
  | 3, _ => exact tb_in 441 (by decide +kernel) (by decide +kernel)
  | 4, _ => exact tb_in 443 (by decide +kernel) (by decide +kernel)
  | 5, _ => exact tb_in 445 (by decide +kernel) (by decide +kernel)
  | 6, _ => exact tb_in 447 (by decide +kernel) (by decide +kernel)
  | 7, _ => exact tb_in 449 (by decide +kernel) (by decide +kernel)
  | 8, _ => exact tb_in 451 (by decide +kernel) (by decide +kernel)
  | k + 9, h => exact absurd h (by omega))
theorem tb_X10 : ∀ w ∈ u_ws RX10 TX10 34, w ∈ tb_G := List.forall_mem_map.mpr (fun k hk => by
  have hk := List.mem_range.mp hk
  match k, hk with
  | 0, _ => exact tb_in 1020 (by decide +kernel) (by decide +kernel)
  | 1, _ => exact tb_in 1022 (by decide +kernel) (by decide +kernel)
  | 2, _ => exact tb_in 1024 (by decide +kernel) (by decide +kernel)
  | 3, _ => exact tb_in 1026 (by decide +kernel) (by decide +kernel)
  | 4, _ => exact tb_in 1028 (by decide +kernel) (by decide +kernel)
  | 5, _ => exact tb_in 1030 (by decide +kernel) (by decide +kernel)
  | 6, _ => exact tb_in 1032 (by decide +kernel) (by decide +kernel)
  | 7, _ => exact tb_in 1034 (by decide +kernel) (by decide +kernel)
  | 8, _ => exact tb_in 1036 (by decide +kernel) (by decide +kernel)
  | 9, _ => exact tb_in 1038 (by decide +kernel) (by decide +kernel)
  | 10, _ => exact tb_in 1040 (by decide +kernel) (by decide +kernel)
  | 11, _ => exact tb_in 1042 (by decide +kernel) (by decide +kernel)
  | 12, _ => exact tb_in 1044 (by decide +kernel) (by decide +kernel)
  | 13, _ => exact tb_in 1046 (by decide +kernel) (by decide +kernel)
  | 14, _ => exact tb_in 1048 (by decide +kernel) (by decide +kernel)
  | 15, _ => exact tb_in 1050 (by decide +kernel) (by decide +kernel)
  | 16, _ => exact tb_in 1052 (by decide +kernel) (by decide +kernel)
  | 17, _ => exact tb_in 1054 (by decide +kernel) (by decide +kernel)
  | 18, _ => exact tb_in 1056 (by decide +kernel) (by decide +kernel)
  | 19, _ => exact tb_in 1058 (by decide +kernel) (by decide +kernel)
  | 20, _ => exact tb_in 1060 (by decide +kernel) (by decide +kernel)
  | 21, _ => exact tb_in 1062 (by decide +kernel) (by decide +kernel)
  | 22, _ => exact tb_in 1064 (by decide +kernel) (by decide +kernel)
  | 23, _ => exact tb_in 1066 (by decide +kernel) (by decide +kernel)
  | 24, _ => exact tb_in 1068 (by decide +kernel) (by decide +kernel)
  | 25, _ => exact tb_in 1070 (by decide +kernel) (by decide +kernel)
  | 26, _ => exact tb_in 1072 (by decide +kernel) (by decide +kernel)
  | 27, _ => exact tb_in 1074 (by decide +kernel) (by decide +kernel)
  | 28, _ => exact tb_in 1076 (by decide +kernel) (by decide +kernel)
  | 29, _ => exact tb_in 1078 (by decide +kernel) (by decide +kernel)
  | 30, _ => exact tb_in 1080 (by decide +kernel) (by decide +kernel)
  | 31, _ => exact tb_in 1082 (by decide +kernel) (by decide +kernel)
  | 32, _ => exact tb_in 1084 (by decide +kernel) (by decide +kernel)
  | 33, _ => exact tb_in 1086 (by decide +kernel) (by decide +kernel)
  | k + 34, h => exact absurd h (by omega))
end
section
/-! groups of cells: kind 0 an object (number in vwCl, how many fields), 1 int[], 2 boolean[], 3 char[] (length, how many rows), 4 int[][] (length, group of its rows) -/
def mm_gl : List (Nat × Nat × Nat) := [(9, 0, 0), (0, 10, 34), (1, 200, 1), (1, 6, 1), (1, 24, 1), (1, 98, 1), (1, 22, 1), (1, 132, 1), (1, 6, 1), (1, 24, 1), (1, 98, 1), (1, 4096, 1), (1, 4096, 1), (2, 512, 1), (2, 512, 1), (1, 2048, 1), (1, 2048, 1), (2, 2048, 1), (2, 256, 1), (1, 2048, 1), (2, 256, 1), (0, 9, 9), (0, 7, 4), (3, 200, 1), (0, 5, 9), (1, 3, 1), (1, 3, 1), (4, 8, 28), (1, 3, 8), (4, 14, 30), (1, 7, 14), (1, 7, 1), (0, 5, 9), (1, 3, 1), (1, 3, 1), (4, 8, 36), (1, 3, 8), (4, 14, 38), (1, 7, 14), (0, 3, 6), (1, 512, 1), (1, 512, 1), (1, 8, 1), (0, 0, 4), (4, 6, 45), (1, 8, 6), (1, 6, 1), (0, 6, 10), (1, 4096, 1), (1, 4096, 1), (0, 4, 1), (1, 128, 1), (1, 8, 1), (1, 8, 1), (1, 8, 1), (0, 1, 9), (4, 14, 57), (1, 512, 14), (1, 14, 1), (1, 14, 1), (1, 512, 1), (1, 257, 1), (0, 4, 1), (1, 8, 1), (0, 4, 1), (1, 8, 1), (0, 8, 12), (1, 2048, 1), (1, 8, 1), (0, 4, 1), (1, 8, 1), (0, 4, 1), (1, 8, 1), (1, 512, 1), (1, 512, 1), (0, 4, 1), (1, 16, 1), (0, 2, 11), (1, 2048, 1), (1, 2048, 1), (0, 4, 1), (1, 64, 1), (0, 4, 1), (1, 8, 1), (0, 4, 1), (1, 8, 1)]
/-- which fields are references, by class -/
def mm_frl : List (List Bool) := [[true, true, false, false], [true, true, true, true, true, true, true, true, true], [true, true, true, true, true, true, true, true, true, false, false], [true, true, true, false, false, false], [true], [false, false, false, false, false, true, true, true, true], [true, true, true, true, true, true, true, true, false, false], [true, false, true, true], [true, true, true, true, true, false, true, true, true, true, true, true], [true, true, true, true, true, true, true, false, false], [false, true, false, false, false, true, false, true, false, true, true, true, false, false, false, false, true, false, true, false, true, true, true, false, true, true, true, true, true, false, true, true, false, true]]
/-- the references of the objects when all are made -/
def mm_rl : List (List (Option (Nat × Int))) := [[], [none, some (2, 0), none, none, none, some (3, 0), none, some (4, 0), none, some (5, 0), some (6, 0), some (7, 0), none, none, none, none, some (8, 0), none, some (9, 0), none, some (10, 0), some (11, 0), some (12, 0), none, some (13, 0), some (14, 0), some (15, 0), some (16, 0), some (17, 0), none, some (18, 0), some (19, 0), none, some (20, 0)], [], [], [], [], [], [], [], [], [], [], [], [], [], [], [], [], [], [], [], [some (22, 0), some (32, 0), some (39, 0), some (42, 0), some (43, 0), none, none, none, none], [some (23, 0), none, some (24, 0), some (31, 0)], [], [none, none, none, none, none, some (25, 0), some (26, 0), some (27, 0), some (29, 0)], [], [], [], [], [], [], [], [none, none, none, none, none, some (33, 0), some (34, 0), some (35, 0), some (37, 0)], [], [], [], [], [], [], [some (32, 0), some (40, 0), some (41, 0), none, none, none], [], [], [], [some (44, 0), some (46, 0), none, none], [], [], [], [some (32, 0), some (39, 0), some (48, 0), some (49, 0), some (50, 0), some (52, 0), some (53, 0), some (54, 0), none, none], [], [], [some (51, 0)], [], [], [], [], [some (32, 0), some (39, 0), some (56, 0), some (58, 0), some (59, 0), some (60, 0), some (61, 0), some (62, 0), some (64, 0)], [], [], [], [], [], [], [some (63, 0)], [], [some (65, 0)], [], [some (32, 0), some (39, 0), some (55, 0), some (42, 0), some (67, 0), none, some (68, 0), some (69, 0), some (71, 0), some (73, 0), some (74, 0), some (75, 0)], [], [], [some (70, 0)], [], [some (72, 0)], [], [], [], [some (76, 0)], [], [some (32, 0), some (55, 0), some (66, 0), some (42, 0), some (78, 0), some (79, 0), some (80, 0), some (82, 0), some (84, 0), none, none], [], [], [some (81, 0)], [], [some (83, 0)], [], [some (85, 0)], []]
-- 1 model
-- 2 m.text
-- 3 m.first
-- 4 m.compare
-- 5 m.edge
-- 6 m.now
-- 7 m.was
-- 8 m.readFirst
-- 9 m.readCompare
-- 10 m.readEdge
-- 11 m.far
-- 12 m.queue
-- 13 m.here
-- 14 m.there
-- 15 m.states
-- 16 m.from
-- 17 m.has
-- 18 m.cubes
-- 19 m.path
-- 20 m.next
-- 21 cc
-- 22 text
-- 23 letters
-- 24 told
-- 25 told.low
-- 26 told.high
-- 27 told.comparison
-- 28 told.comparisonR
-- 29 told.edge
-- 30 told.edgeR
-- 31 figures
-- 32 program
-- 33 program.low
-- 34 program.high
-- 35 program.comparison
-- 36 program.comparisonR
-- 37 program.edge
-- 38 program.edgeR
-- 39 meaning
-- 40 sos
-- 41 mfirst
-- 42 lookedAt
-- 43 history
-- 44 hist
-- 45 histR
-- 46 wants
-- 47 real
-- 48 r.node
-- 49 r.from
-- 50 r.seen
-- 51 r.seen.w
-- 52 r.distance
-- 53 r.realValues
-- 54 r.holds
-- 55 leaps
-- 56 leap
-- 57 leapR
-- 58 leapsN
-- 59 foundFor
-- 60 ordered
-- 61 start
-- 62 l.first
-- 63 l.first.w
-- 64 l.behind
-- 65 l.behind.w
-- 66 way
-- 67 row
-- 68 looksThen
-- 69 someCubes
-- 70 someCubes.w
-- 71 otherCubes
-- 72 otherCubes.w
-- 73 someValues
-- 74 otherValues
-- 75 listed
-- 76 listed.w
-- 77 may
-- 78 y.node
-- 79 y.from
-- 80 y.seen
-- 81 y.seen.w
-- 82 y.now
-- 83 y.now.w
-- 84 y.then
-- 85 y.then.w
end
section
/-! ===== the small machine: values, memory, phases ===== -/
abbrev mm_V : Type := Int ⊕ Option (Nat × Int)
abbrev mm_M : Type := Nat → Int → Int → Int
abbrev mm_B : Type := (Nat → Nat → Option (Nat × Int)) × List Nat
abbrev mm_X : Type := va_G × ClassId × ClassId × ClassId × ClassId
abbrev mm_in (x : Int) : Prop := -2147483648 ≤ x ∧ x < 2147483648
def mm_nth {α : Type} : List α → Nat → Option α
  | [], _ => none
  | a :: _, 0 => some a
  | _ :: r, n + 1 => mm_nth r n
def mm_set {α : Type} : List α → Nat → α → List α
  | [], _, _ => []
  | _ :: r, 0, v => v :: r
  | a :: r, n + 1, v => a :: mm_set r n v
def mm_dv {α : Type} (d : α) : Option α → α
  | none => d
  | some x => x
def mm_gk (g : Nat) : Nat × Nat × Nat := mm_dv (9, 0, 0) (mm_nth mm_gl g)
def mm_fr (c k : Nat) : Bool := mm_dv false (mm_nth (mm_dv [] (mm_nth mm_frl c)) k)
def mm_nr (g : Nat) : Nat := match mm_gk g with
  | (1, _, n) => n
  | (2, _, n) => n
  | (3, _, n) => n
  | _ => 1
def mm_up (w : mm_M) (g : Nat) (j k v : Int) : mm_M := fun g' j' k' => if g' = g ∧ j' = j ∧ k' = k then v else w g' j' k'
def mm_re (α : Nat → Int → Nat) : Option (Nat × Int) → Value
  | none => .null
  | some q => .ref (α q.1 q.2)
def mm_v (α : Nat → Int → Nat) : mm_V → Value
  | .inl x => .int (Int32.ofInt x)
  | .inr r => mm_re α r
def mm_ok (b : mm_B) : mm_V → Prop
  | .inl x => mm_in x
  | .inr none => True
  | .inr (some q) => q.1 ∈ b.2 ∧ 0 ≤ q.2 ∧ q.2 < mm_nr q.1
def mm_cA (X : mm_X) (k : Nat) : ClassId := if k = 1 then X.2.1 else if k = 2 then X.2.2.1 else X.2.2.2.1
def mm_fT (k : Nat) : FieldType := if k = 1 then .int else if k = 2 then .boolean else .char
def mm_ty (X : mm_X) : List (ClassId × FieldType) := [(X.2.1, .int), (X.2.2.1, .boolean), (X.2.2.2.1, .char), (X.2.2.2.2, .array .int)]
def mm_fv (α : Nat → Int → Nat) (b : mm_B) (w : mm_M) (g k : Nat) : Value := if mm_fr (mm_gk g).2.1 k = true then mm_re α (b.1 g k) else .int (Int32.ofInt (w g 0 k))
def mm_ce (X : mm_X) (α : Nat → Int → Nat) (b : mm_B) (w : mm_M) (g : Nat) (j : Int) : va_E :=
  if (mm_gk g).1 = 0 then .inr ((mm_gk g).2.1, (List.range (mm_gk g).2.2).map (mm_fv α b w g))
  else if (mm_gk g).1 = 4 then .inl (X.2.2.2.2, (mm_gk g).2.1, .inr (.inr (.inr (.inr (fun k : Nat => if k < (mm_gk g).2.1 then some (α (mm_gk g).2.2 (k : Int)) else none)))))
  else .inl (mm_cA X (mm_gk g).1, (mm_gk g).2.1, .inl (fun k : Nat => Int32.ofInt (w g j (k : Int))))
def mm_ks (b : mm_B) : List (Nat × Int) := b.2.flatMap fun g => (List.range (mm_nr g)).map fun j : Nat => (g, (j : Int))
def mm_wl (X : mm_X) (α : Nat → Int → Nat) (b : mm_B) (w : mm_M) : va_W := (mm_ks b).map fun q => (α q.1 q.2, mm_ce X α b w q.1 q.2)
/-- the references of a phase lead to what lives -/
def mm_ph (b : mm_B) : Prop := (∀ g ∈ b.2, ∀ k q, b.1 g k = some q → mm_ok b (.inr (some q))) ∧ ∀ g ∈ b.2, (mm_gk g).1 = 4 → (mm_gk g).2.2 ∈ b.2 ∧ mm_nr (mm_gk g).2.2 = (mm_gk g).2.1
def mm_rg (w : mm_M) : Prop := ∀ g j k, mm_in (w g j k)
def mm_Rp (X : mm_X) (α : Nat → Int → Nat) (b : mm_B) (w : mm_M) (H : Heap) (A : Nat → Prop) : Prop := va_P X.1 vwCl (mm_wl X α b w) H ∧ va_D A (mm_wl X α b w) ∧ mm_rg w ∧ mm_ph b
def mm_L (b : mm_B) (α : Nat → Int → Nat) (ls : List (Option mm_V)) (kls : Array Slot) (nL : Nat) : Prop :=
  ls.length = nL ∧ kls.size = nL ∧ lv_wf kls ∧ ∀ i v, mm_nth ls i = some (some v) → kls[i]? = some (.val (mm_v α v)) ∧ mm_ok b v
/-! ===== what else holds of the machine all the time: links to private constructors, the array class of int[][] ===== -/
def mm_nst : List Cond := [.methodLinkNest RX9 18 yX5_init "CubeChecker", .methodLinkNest RX9 38 yX0_init "CubeChecker", .methodLinkNest RX9 9 yX7_init "CubeChecker", .methodLinkNest RX7 17 yX5_init "CubeChecker"]
def va_AOA (ty : FieldType) (U : State) : Prop := (Cond.arrayOver (.array ty)).before #[] U = true
theorem va_AOA.use {ty : FieldType} {A : Array Value} {U : State} (h : va_AOA ty U) : (Cond.arrayOver (.array ty)).before A U = true := h
theorem va_AOA.moved {u U : State} (hvm : u.vm.Alike U.vm) (h : va_AOA .int u) : va_AOA .int U := by
  have h0 := h
  unfold va_AOA Cond.before at h0
  simp only [Cond.holds, Cond.value, beq_iff_eq] at h0
  cases hc : u.vm.findClass (FieldType.array .int).toString with
  | none => simp [hc] at h0
  | some comp =>
    simp only [hc, Option.bind_some, Option.bind_eq_some_iff, Option.map_eq_some_iff] at h0
    obtain ⟨c, hi, k, hk, hb⟩ := h0
    obtain ⟨k', hk', he⟩ := hvm.2.2 _ _ hk
    have hi2 : (U.vm.classes.findIdx? fun (x : Class) => match x.kind with | .array component _ => component == comp | _ => false) = some c := by
      have e1 := va_idx_bare U.vm comp
      have e2 := va_idx_bare u.vm comp
      have e3 : U.vm.bare = u.vm.bare := by first | exact hvm.bare_eq | exact hvm.bare_eq.symm
      rw [e3] at e1
      exact (e1.symm.trans e2).trans hi
    have f1 : U.vm.findClass (FieldType.array .int).toString = some comp := by rw [hvm.findClass]; exact hc
    have hkind : k'.kind = k.kind := by rw [he]
    unfold va_AOA Cond.before Cond.holds
    simp only [Cond.value]
    rw [f1, Option.bind_some]
    refine (congrArg (fun o : Option Nat => (o.bind (fun c => (U.vm.classes[c]?).map fun (k : Class) => match k.kind with | .array _ ty => decide (ty = FieldType.array .int) && decide (U.vm.findClass ("[" ++ (FieldType.array .int).toString) = some c) | _ => false) == some true)) hi2).trans ?_
    rw [Option.bind_some, hk', Option.map_some, hkind, hvm.findClass]
    exact beq_iff_eq.mpr (congrArg some hb)
def mm_E (U : State) : Prop := (∀ w ∈ mm_nst, va_Nw w U) ∧ va_AOA .int U
theorem mm_E.warm {s U : State} (hW : s.WarmedH U.vm) (h : mm_E s) : mm_E U := by
  refine ⟨fun w hw => ?_, va_AOA.moved hW.alike h.2⟩
  have h1 := h.1 w hw
  rcases List.mem_cons.mp hw with rfl | hw
  · exact va_Nw.warmM hW h1
  rcases List.mem_cons.mp hw with rfl | hw
  · exact va_Nw.warmM hW h1
  rcases List.mem_cons.mp hw with rfl | hw
  · exact va_Nw.warmM hW h1
  rcases List.mem_cons.mp hw with rfl | hw
  · exact va_Nw.warmM hW h1
  · cases hw
theorem mm_E.same {u U : State} (h : u.vm = U.vm) (hE : mm_E u) : mm_E U := ⟨fun w hw => va_Nw.same (by
  rcases List.mem_cons.mp hw with rfl | hw
  · rfl
  rcases List.mem_cons.mp hw with rfl | hw
  · rfl
  rcases List.mem_cons.mp hw with rfl | hw
  · rfl
  rcases List.mem_cons.mp hw with rfl | hw
  · rfl
  · cases hw) h (hE.1 w hw), va_AOA.moved (by rw [h]; exact Vm.Alike.refl _) hE.2⟩
/-! ===== a method: name, code, locals' number, answer's type, own class, frames, words of locals, instructions, cuts, field links, method links ===== -/
abbrev mm_I : Type := Nat × Instr × Nat
abbrev mm_F : Type := Nat × Nat × Nat × Nat × Int
abbrev mm_K : Type := (MethodName × ByteArray × Nat × Option FieldType × String) × (Nat × Nat × Nat) × (List mm_I × List Nat × List mm_F × List (Nat × Nat × Nat × MethodName))
def mm_old (b0 b : mm_B) (α0 α : Nat → Int → Nat) : Prop := ∀ g ∈ b0.2, g ∈ b.2 ∧ ∀ j, α g j = α0 g j
def mm_Qc (X : mm_X) (α0 : Nat → Int → Nat) (b0 : mm_B) (A : Nat → Prop) (Q : Option mm_V → mm_B → mm_M → Prop) : Array Value → State → Outcome → State → Prop := fun _ st oc t =>
  (∃ (r : Option mm_V) (b' : mm_B) (w' : mm_M) (α' : Nat → Int → Nat), oc = .returned (r.map (mm_v α')) ∧ Q r b' w' ∧ (∀ v, r = some v → mm_ok b' v) ∧ mm_old b0 b' α0 α' ∧ mm_Rp X α' b' w' t.heap A ∧ va_K X.1 vwCl (mm_ty X) t) ∧ va_F A st t
/-- a field link: the place in the pool, the number of the class, the slot, 0 int 1 boolean 2 a reference -/
def mm_fok (own : String) (q : mm_F) : Prop := ∃ (C : String) (T : u_T) (N : Nat) (ty : Nat → FieldType), vwCl[q.2.1]? = some (C, T, N) ∧ (∀ w ∈ u_ws C T N, w ∈ tb_G) ∧ (∀ k, k < N → parseFieldDescriptor (T k).2.2.1 = some (ty k)) ∧ (∀ a, a < N → ∀ b, b < N → a ≠ b → (T a).2.1 ≠ (T b).2.1) ∧ q.2.2.1 < N ∧
  Cond.fieldLink own q.1 C (T q.2.2.1).2.1 (T q.2.2.1).2.2.1 ∈ tb_G ∧ (T q.2.2.1).1 = C ∧ mm_fr q.2.1 q.2.2.1 = Nat.beq q.2.2.2.1 2 ∧ (q.2.2.1 : Int) = q.2.2.2.2 ∧ (q.2.2.2.1 = 0 → ty q.2.2.1 = .int ∧ (T q.2.2.1).2.2.2 = false) ∧ (q.2.2.2.1 = 1 → ty q.2.2.1 = .boolean ∧ (T q.2.2.1).2.2.2 = false)
def mm_small (nL pc : Nat) : Instr → Bool
  | .bipush n => decide (-128 ≤ n ∧ n < 128)
  | .sipush n => decide (-32768 ≤ n ∧ n < 32768)
  | .iconst n => decide (-1 ≤ n ∧ n < 6)
  | .istore i => decide (i < nL)
  | .astore i => decide (i < nL)
  | .istore_n k => decide (k.val < nL)
  | .astore_n k => decide (k.val < nL)
  | .goto off => decide (0 ≤ (pc : Int) + off)
  | .ifCond _ off => decide (0 ≤ (pc : Int) + off)
  | .if_icmp _ off => decide (0 ≤ (pc : Int) + off)
  | .ifnull off => decide (0 ≤ (pc : Int) + off)
  | .ifnonnull off => decide (0 ≤ (pc : Int) + off)
  | _ => true
/-- how long an instruction is (0: of no fixed length here) -/
def mm_il : Instr → Nat
  | .bipush _ => 2
  | .sipush _ => 3
  | .iload _ => 2
  | .aload _ => 2
  | .istore _ => 2
  | .astore _ => 2
  | .iinc _ _ => 3
  | .getfield _ => 3
  | .putfield _ => 3
  | .ifCond _ _ => 3
  | .if_icmp _ _ => 3
  | .ifnull _ => 3
  | .ifnonnull _ => 3
  | .goto _ => 3
  | .invokevirtual _ => 3
  | .invokespecial _ => 3
  | .invokestatic _ => 3
  | .new _ => 3
  | .newarray _ => 2
  | .multianewarray _ _ => 4
  | .ldc _ => 0
  | .ldc_w _ => 3
  | .tableswitch _ _ _ _ => 0
  | .lookupswitch _ _ => 0
  | _ => 1
def mm_lok (own : String) (q : Nat × Nat × Nat × MethodName) : Prop :=
  (q.2.2.2.cls ≠ "java/lang/invoke/MethodHandle" ∧ q.2.2.2.cls ≠ "java/lang/invoke/VarHandle" ∧ (parseMethodDescriptor q.2.2.2.desc).map (fun d => d.parameters.length) = some q.2.2.1) ∧ Cond.initialized q.2.2.2.cls ∈ tb_G ∧
  (q.2.1 = 0 → Cond.methodLink own q.1 q.2.2.2 ∈ tb_G ∧ Cond.instanceMethod q.2.2.2 ∈ tb_G ∧ Cond.selects q.2.2.2.cls q.2.2.2 q.2.2.2 ∈ tb_G) ∧
  (q.2.1 = 1 → Cond.methodLink own q.1 q.2.2.2 ∈ tb_G ∧ Cond.static q.2.2.2 ∈ tb_G) ∧
  (q.2.1 = 2 → Cond.methodLink own q.1 q.2.2.2 ∈ tb_G ∧ Cond.instanceMethod q.2.2.2 ∈ tb_G ∧ q.2.2.2.name = "<init>") ∧
  (q.2.1 = 3 → Cond.methodLinkNest own q.1 q.2.2.2 "CubeChecker" ∈ mm_nst ∧ Cond.instanceMethod q.2.2.2 ∈ tb_G ∧ q.2.2.2.name = "<init>")
def mm_KO (K : mm_K) : Prop := (∀ q ∈ K.2.2.1, decode K.1.2.1 q.1 = .ok (q.2.1, q.2.2 - q.1) ∧ q.1 ≤ q.2.2 ∧ mm_small K.1.2.2.1 q.1 q.2.1 = true ∧ (mm_il q.2.1 = 0 ∨ q.2.2 = q.1 + mm_il q.2.1)) ∧ (∀ q ∈ K.2.2.2.2.1, mm_fok K.1.2.2.2.2 q) ∧ ∀ q ∈ K.2.2.2.2.2, mm_lok K.1.2.2.2.2 q
def mm_Cx (K : mm_K) (p : Program) (R : Room) (s : State) (m : MethodId) (args : Array Value) (meth : Method) (c : Code) (X : mm_X) : Prop :=
  p.tables.exec = Jvm.exec ∧ c.code = K.1.2.1 ∧ c.maxLocals = K.1.2.2.1 ∧ meth.sig.returnType = K.1.2.2.2.1 ∧ meth.locks = false ∧ s.vm.findClass K.1.2.2.2.2 = some m.cls ∧ (∀ w ∈ tb_G, w.before args s = true) ∧ va_K X.1 vwCl (mm_ty X) s ∧ meth.name = K.1.1.name ∧ R.frames = K.2.1.1 ∧ R.locals = K.2.1.2.1 ∧ mm_KO K ∧ mm_E s
def mm_Z (K : mm_K) (n : Nat × Nat) (ls : List (Option mm_V)) (st : List mm_V) (b : mm_B) (w : mm_M) (p : Program) (R : Room) (s : State) (m : MethodId) (args : Array Value) (meth : Method) (c : Code) (X : mm_X) (α0 : Nat → Int → Nat) (b0 : mm_B) (A : Nat → Prop) (H : Heap) (locs : List Loc) (cells slots : Nat) (α : Nat → Int → Nat) (kls : Array Slot) : Prop :=
  mm_Cx K p R s m args meth c X ∧ mm_Rp X α b w H A ∧ (∀ q, s.heap.size ≤ q → A q) ∧ va_S A s.heap H locs ∧ mm_old b0 b α0 α ∧ mm_L b α ls kls K.1.2.2.1 ∧ (∀ v ∈ st, mm_ok b v) ∧ cells + n.1 ≤ R.cells ∧ slots + n.2 ≤ R.slots
/-- from this frame the method ends, with an answer and a memory that are in Q -/
def mm_Wk (K : mm_K) (n : Nat × Nat) (pc : Nat) (ls : List (Option mm_V)) (st : List mm_V) (b : mm_B) (w : mm_M) (Q : Option mm_V → mm_B → mm_M → Prop) : Prop :=
  ∀ (p : Program) (l : Launch) (e : Env) (R : Room) (s : State) (m : MethodId) (args : Array Value) (below : List Frame) (meth : Method) (c : Code) (X : mm_X) (α0 : Nat → Int → Nat) (b0 : mm_B) (A : Nat → Prop) (H : Heap) (locs : List Loc) (cells slots : Nat) (α : Nat → Int → Nat) (kls : Array Slot),
    mm_Z K n ls st b w p R s m args meth c X α0 b0 A H locs cells slots α kls →
    W p l e R s m args below meth c H locs cells slots (MQ below (mm_Qc X α0 b0 A Q) args s R.cells R.slots A) (F0 m pc kls (st.map (mm_v α)))
/-! ===== what an instruction does ===== -/
def mm_and (x y : Int) : Int := (Int32.ofInt x &&& Int32.ofInt y).toInt
def mm_or (x y : Int) : Int := (Int32.ofInt x ||| Int32.ofInt y).toInt
def mm_xor (x y : Int) : Int := (Int32.ofInt x ^^^ Int32.ofInt y).toInt
def mm_shl (x y : Int) : Int := (Int32.ofInt x <<< (Int32.ofInt y &&& 31)).toInt
def mm_shr (x y : Int) : Int := (Int32.ofInt x >>> (Int32.ofInt y &&& 31)).toInt
def mm_fits : Nat → Int → Prop → Prop
  | 2, x, a => a ∧ (0 ≤ x ∧ x ≤ 1)
  | 3, x, a => a ∧ (0 ≤ x ∧ x < 65536)
  | _, _, a => a
def mm_lnk : List mm_F → Nat → Option mm_F
  | [], _ => none
  | q :: r, i => match Nat.beq q.1 i with
    | true => some q
    | false => mm_lnk r i
abbrev mm_R : Type := List (Option mm_V) × List mm_V × mm_M × Prop
def mm_get (f : Option mm_F) (ls : List (Option mm_V)) (g : Nat) (st : List mm_V) (b : mm_B) (w : mm_M) (a : Prop) : Option mm_R :=
  match f with
  | none => none
  | some (_, c, k, t, ki) => match mm_gk g with
    | (0, c', _) => match Nat.beq c c', Nat.beq t 2 with
      | true, true => some (ls, .inr (b.1 g k) :: st, w, a)
      | true, false => some (ls, .inl (w g 0 ki) :: st, w, a)
      | false, _ => none
    | _ => none
def mm_put (f : Option mm_F) (ls : List (Option mm_V)) (g : Nat) (v : Int) (st : List mm_V) (w : mm_M) (a : Prop) : Option mm_R :=
  match f with
  | none => none
  | some (_, c, k, t, ki) => match mm_gk g with
    | (0, c', _) => match Nat.beq c c', t with
      | true, 0 => some (ls, st, mm_up w g 0 ki v, a)
      | true, 1 => some (ls, st, mm_up w g 0 ki v, a ∧ (0 ≤ v ∧ v ≤ 1))
      | _, _ => none
    | _ => none
def mm_ld (k : Nat) (ls : List (Option mm_V)) (g : Nat) (j i : Int) (st : List mm_V) (w : mm_M) (a : Prop) : Option mm_R :=
  match mm_gk g with
  | (k', n, _) => match Nat.beq k k' with
    | true => some (ls, .inl (w g j i) :: st, w, a ∧ (0 ≤ i ∧ i < n))
    | false => none
def mm_sto (k : Nat) (ls : List (Option mm_V)) (g : Nat) (j i v : Int) (st : List mm_V) (w : mm_M) (a : Prop) : Option mm_R :=
  match mm_gk g with
  | (k', n, _) => match Nat.beq k k' with
    | true => some (ls, st, mm_up w g j i v, mm_fits k v (a ∧ (0 ≤ i ∧ i < n)))
    | false => none
def mm_lda (ls : List (Option mm_V)) (g : Nat) (i : Int) (st : List mm_V) (w : mm_M) (a : Prop) : Option mm_R :=
  match mm_gk g with
  | (4, n, g') => some (ls, .inr (some (g', i)) :: st, w, a ∧ (0 ≤ i ∧ i < n))
  | _ => none
def mm_len (ls : List (Option mm_V)) (g : Nat) (st : List mm_V) (w : mm_M) (a : Prop) : Option mm_R :=
  match mm_gk g with
  | (1, n, _) => some (ls, .inl (n : Int) :: st, w, a)
  | _ => none
def mm_ldv (t : Bool) (ls : List (Option mm_V)) (st : List mm_V) (w : mm_M) (a : Prop) : Option (Option mm_V) → Option mm_R
  | some (some v) => match t, v with
    | true, .inr (some q) => some (ls, .inr (some q) :: st, w, a)
    | false, .inl x => some (ls, .inl x :: st, w, a)
    | _, _ => none
  | _ => none
/-- one instruction, but for branches, calls, ends and what is made -/
def mm_st (fl : List mm_F) (i : Instr) (ls : List (Option mm_V)) (st : List mm_V) (b : mm_B) (w : mm_M) (a : Prop) : Option mm_R :=
  match i, st with
  | .iconst n, st => some (ls, .inl n :: st, w, a)
  | .bipush n, st => some (ls, .inl n :: st, w, a)
  | .sipush n, st => some (ls, .inl n :: st, w, a)
  | .iload i, st => mm_ldv false ls st w a (mm_nth ls i)
  | .iload_n k, st => mm_ldv false ls st w a (mm_nth ls k.val)
  | .aload i, st => mm_ldv true ls st w a (mm_nth ls i)
  | .aload_n k, st => mm_ldv true ls st w a (mm_nth ls k.val)
  | .istore i, .inl x :: st => some (mm_set ls i (some (.inl x)), st, w, a)
  | .istore_n k, .inl x :: st => some (mm_set ls k.val (some (.inl x)), st, w, a)
  | .astore i, .inr (some q) :: st => some (mm_set ls i (some (.inr (some q))), st, w, a)
  | .astore_n k, .inr (some q) :: st => some (mm_set ls k.val (some (.inr (some q))), st, w, a)
  | .iinc i n, st => match mm_nth ls i with
    | some (some (.inl x)) => some (mm_set ls i (some (.inl (x + n))), st, w, a ∧ mm_in (x + n))
    | _ => none
  | .iadd, .inl y :: .inl x :: st => some (ls, .inl (x + y) :: st, w, a ∧ mm_in (x + y))
  | .isub, .inl y :: .inl x :: st => some (ls, .inl (x - y) :: st, w, a ∧ mm_in (x - y))
  | .imul, .inl y :: .inl x :: st => some (ls, .inl (x * y) :: st, w, a ∧ mm_in (x * y))
  | .idiv, .inl y :: .inl x :: st => some (ls, .inl (x / y) :: st, w, a ∧ (0 ≤ x ∧ 0 < y))
  | .irem, .inl y :: .inl x :: st => some (ls, .inl (x % y) :: st, w, a ∧ (0 ≤ x ∧ 0 < y))
  | .iand, .inl y :: .inl x :: st => some (ls, .inl (mm_and x y) :: st, w, a)
  | .ior, .inl y :: .inl x :: st => some (ls, .inl (mm_or x y) :: st, w, a)
  | .ixor, .inl y :: .inl x :: st => some (ls, .inl (mm_xor x y) :: st, w, a)
  | .ishl, .inl y :: .inl x :: st => some (ls, .inl (mm_shl x y) :: st, w, a)
  | .ishr, .inl y :: .inl x :: st => some (ls, .inl (mm_shr x y) :: st, w, a)
  | .ineg, .inl x :: st => some (ls, .inl (-x) :: st, w, a ∧ mm_in (-x))
  | .i2c, .inl x :: st => some (ls, .inl x :: st, w, a ∧ (0 ≤ x ∧ x < 65536))
  | .dup, v :: st => some (ls, v :: v :: st, w, a)
  | .dup2, v :: u :: st => some (ls, v :: u :: v :: u :: st, w, a)
  | .pop, _ :: st => some (ls, st, w, a)
  | .getfield i, .inr (some (g, _)) :: st => mm_get (mm_lnk fl i) ls g st b w a
  | .putfield i, .inl v :: .inr (some (g, _)) :: st => mm_put (mm_lnk fl i) ls g v st w a
  | .iaload, .inl i :: .inr (some (g, j)) :: st => mm_ld 1 ls g j i st w a
  | .baload, .inl i :: .inr (some (g, j)) :: st => mm_ld 2 ls g j i st w a
  | .caload, .inl i :: .inr (some (g, j)) :: st => mm_ld 3 ls g j i st w a
  | .iastore, .inl v :: .inl i :: .inr (some (g, j)) :: st => mm_sto 1 ls g j i v st w a
  | .bastore, .inl v :: .inl i :: .inr (some (g, j)) :: st => mm_sto 2 ls g j i v st w a
  | .castore, .inl v :: .inl i :: .inr (some (g, j)) :: st => mm_sto 3 ls g j i v st w a
  | .aaload, .inl i :: .inr (some (g, _)) :: st => mm_lda ls g i st w a
  | .arraylength, .inr (some (g, _)) :: st => mm_len ls g st w a
  | _, _ => none
end
section
/-! ===== numbers and keys ===== -/
theorem mm_i1 {x : Int} (h : mm_in x) : (Int32.ofInt x).toInt = x := Int32.toInt_ofInt_of_le (by have := h.1; omega) (by have := h.2; omega)
theorem mm_i2 (x : Int32) : mm_in x.toInt := ⟨by have := Int32.le_toInt x; omega, by have := Int32.toInt_lt x; omega⟩
theorem mm_i3 (x : Int32) : Int32.ofInt x.toInt = x := Int32.ofInt_toInt x
theorem mm_i4 {i : Int} {n : Nat} (hn : mm_in i) (h0 : 0 ≤ i) (h1 : i < n) : vp_in (Int32.ofInt i) n ∧ (((Int32.ofInt i).toNatClampNeg : Nat) : Int) = i := by
  have e : (Int32.ofInt i).toNatClampNeg = i.toNat := by
    show (Int32.ofInt i).toInt.toNat = _
    rw [mm_i1 hn]
  refine ⟨fun h => ?_, ?_⟩
  · rcases h with h | h
    · have := Int32.lt_iff_toInt_lt.mp h
      rw [mm_i1 hn] at this
      have h00 : (0 : Int32).toInt = 0 := rfl
      omega
    · rw [e] at h
      omega
  · rw [e]
    omega
theorem mm_i5 {x y : Int} (hx : mm_in x) (hy : mm_in y) : Int32.ofInt x ≤ Int32.ofInt y ↔ x ≤ y := by
  rw [Int32.le_iff_toInt_le, mm_i1 hx, mm_i1 hy]
theorem mm_i6 {x y : Int} (hx : mm_in x) (hy : mm_in y) : Int32.ofInt x < Int32.ofInt y ↔ x < y := by
  rw [Int32.lt_iff_toInt_lt, mm_i1 hx, mm_i1 hy]
theorem mm_i7 {x y : Int} (hx : mm_in x) (hy : mm_in y) : Int32.ofInt x = Int32.ofInt y ↔ x = y := by
  rw [← Int32.toInt_inj, mm_i1 hx, mm_i1 hy]
theorem mm_key {b : mm_B} {g : Nat} {j : Int} (h : mm_ok b (.inr (some (g, j)))) : (g, j) ∈ mm_ks b := by
  obtain ⟨h1, h2, h3⟩ := h
  refine List.mem_flatMap.mpr ⟨g, h1, List.mem_map.mpr ⟨j.toNat, List.mem_range.mpr (by have h3 : j < mm_nr g := h3; have h2 : 0 ≤ j := h2; omega), ?_⟩⟩
  have h2 : 0 ≤ j := h2
  rw [Int.toNat_of_nonneg h2]
theorem mm_keyR {b : mm_B} {g : Nat} {j : Int} (h : (g, j) ∈ mm_ks b) : g ∈ b.2 ∧ 0 ≤ j ∧ j < mm_nr g := by
  obtain ⟨g', h1, h2⟩ := List.mem_flatMap.mp h
  obtain ⟨k, h3, h4⟩ := List.mem_map.mp h2
  have h3 := List.mem_range.mp h3
  cases h4
  exact ⟨h1, by omega, by omega⟩
theorem mm_pos {X : mm_X} {α : Nat → Int → Nat} {b : mm_B} {w : mm_M} {q : Nat × Int} (h : q ∈ mm_ks b) : ∃ k0 : Nat, (mm_ks b)[k0]? = some q ∧ (mm_wl X α b w)[k0]? = some (α q.1 q.2, mm_ce X α b w q.1 q.2) := by
  obtain ⟨k0, hk⟩ := List.mem_iff_getElem?.mp h
  exact ⟨k0, hk, by unfold mm_wl; rw [List.getElem?_map, hk]; rfl⟩
theorem mm_wl_set {X : mm_X} {α : Nat → Int → Nat} {b : mm_B} {w w' : mm_M} {A : Nat → Prop} {k0 : Nat} {g : Nat} {j : Int} (hD : va_D A (mm_wl X α b w)) (hk : (mm_ks b)[k0]? = some (g, j)) {e : va_E} (he : e = mm_ce X α b w' g j) (hw : ∀ q ∈ mm_ks b, q ≠ (g, j) → mm_ce X α b w' q.1 q.2 = mm_ce X α b w q.1 q.2) :
    (mm_wl X α b w).set k0 (α g j, e) = mm_wl X α b w' := by
  apply List.ext_getElem?
  intro i
  by_cases hi : k0 = i
  · subst hi
    have hlt : k0 < (mm_wl X α b w).length := by
      unfold mm_wl
      rw [List.length_map]
      exact (List.getElem?_eq_some_iff.mp hk).1
    rw [List.getElem?_set_self hlt, he]
    unfold mm_wl
    rw [List.getElem?_map, hk]
    rfl
  · rw [List.getElem?_set_ne hi]
    unfold mm_wl
    rw [List.getElem?_map, List.getElem?_map]
    cases hq : (mm_ks b)[i]? with
    | none => rfl
    | some q =>
      have hne : q ≠ (g, j) := by
        intro hh
        subst hh
        refine hi (hD.1 k0 i (α g j, mm_ce X α b w g j) (α g j, mm_ce X α b w g j) ?_ ?_ rfl)
        · unfold mm_wl; rw [List.getElem?_map, hk]; rfl
        · unfold mm_wl; rw [List.getElem?_map, hq]; rfl
      show some (α q.1 q.2, mm_ce X α b w q.1 q.2) = some (α q.1 q.2, mm_ce X α b w' q.1 q.2)
      rw [hw q (List.mem_of_getElem? hq) hne]
theorem mm_ce_arr {X : mm_X} {α : Nat → Int → Nat} {b : mm_B} {w : mm_M} {g : Nat} {j : Int} {k n r : Nat} (h : mm_gk g = (k, n, r)) (hk : k = 1 ∨ k = 2 ∨ k = 3) : mm_ce X α b w g j = .inl (mm_cA X k, n, .inl (fun i : Nat => Int32.ofInt (w g j (i : Int)))) := by
  unfold mm_ce
  rw [h]
  rw [if_neg (show ¬ (k, n, r).1 = 0 by show ¬ k = 0; omega), if_neg (show ¬ (k, n, r).1 = 4 by show ¬ k = 4; omega)]
theorem mm_ce_obj {X : mm_X} {α : Nat → Int → Nat} {b : mm_B} {w : mm_M} {g : Nat} {j : Int} {c n : Nat} (h : mm_gk g = (0, c, n)) : mm_ce X α b w g j = .inr (c, (List.range n).map (mm_fv α b w g)) := by
  unfold mm_ce
  rw [h]
  rw [if_pos rfl]
theorem mm_ce_out {X : mm_X} {α : Nat → Int → Nat} {b : mm_B} {w : mm_M} {g : Nat} {j : Int} {n r : Nat} (h : mm_gk g = (4, n, r)) : mm_ce X α b w g j = .inl (X.2.2.2.2, n, .inr (.inr (.inr (.inr (fun k : Nat => if k < n then some (α r (k : Int)) else none))))) := by
  unfold mm_ce
  rw [h]
  rw [if_neg (show ¬ (4 : Nat) = 0 by decide), if_pos rfl]
theorem mm_nr_obj {g c n : Nat} (h : mm_gk g = (0, c, n)) : mm_nr g = 1 := by
  unfold mm_nr
  rw [h]
  rfl
theorem mm_ce_up {X : mm_X} {α : Nat → Int → Nat} {b : mm_B} {w : mm_M} {g : Nat} {j k v : Int} {q : Nat × Int} (hq : q ∈ mm_ks b) (hg : (g, j) ∈ mm_ks b) (hne : q ≠ (g, j)) : mm_ce X α b (mm_up w g j k v) q.1 q.2 = mm_ce X α b w q.1 q.2 := by
  obtain ⟨g', j'⟩ := q
  show mm_ce X α b (mm_up w g j k v) g' j' = mm_ce X α b w g' j'
  have hu : ∀ z, mm_up w g j k v g' j' z = w g' j' z := fun z => by
    unfold mm_up
    refine if_neg fun h => hne ?_
    rw [h.1, h.2.1]
  unfold mm_ce
  by_cases h0 : (mm_gk g').1 = 0
  · rw [if_pos h0, if_pos h0]
    have hj : j' = 0 := by
      have h1 := mm_keyR hq
      rw [mm_nr_obj (c := (mm_gk g').2.1) (n := (mm_gk g').2.2) (by rw [← h0])] at h1
      omega
    subst hj
    refine congrArg _ (congrArg _ (List.map_congr_left fun z _ => ?_))
    unfold mm_fv
    rw [hu z]
  · rw [if_neg h0, if_neg h0]
    by_cases h4 : (mm_gk g').1 = 4
    · rw [if_pos h4, if_pos h4]
    · rw [if_neg h4, if_neg h4]
      refine congrArg _ (congrArg _ (congrArg _ (congrArg _ (funext fun z => ?_))))
      rw [hu]
theorem mm_rg_up {w : mm_M} {g : Nat} {j k v : Int} (h : mm_rg w) (hv : mm_in v) : mm_rg (mm_up w g j k v) := by
  intro g' j' k'
  unfold mm_up
  split
  · exact hv
  · exact h g' j' k'
theorem mm_up_arr {w : mm_M} {g : Nat} {j k v : Int} (h0 : 0 ≤ k) : (fun i : Nat => Int32.ofInt (mm_up w g j k v g j (i : Int))) = upd (fun i : Nat => Int32.ofInt (w g j (i : Int))) k.toNat (Int32.ofInt v) := by
  funext i
  unfold mm_up upd
  by_cases h : i = k.toNat
  · rw [if_pos ⟨rfl, rfl, by omega⟩, if_pos h]
  · rw [if_neg (fun q => h (by omega)), if_neg h]
end
section
/-! ===== an instruction, a row ===== -/
section MMR
variable {K : mm_K} {n : Nat × Nat} {pc : Nat} {ls : List (Option mm_V)} {st : List mm_V} {b : mm_B} {w : mm_M} {Q : Option mm_V → mm_B → mm_M → Prop}
theorem mm_stL {v u : mm_V} {b : mm_B} {st : List mm_V} (h : ∀ x ∈ v :: st, mm_ok b x) (hu : mm_ok b u) : ∀ x ∈ u :: st, mm_ok b x := fun x hx => by
  rcases List.mem_cons.mp hx with rfl | hx
  · exact hu
  · exact h x (List.mem_cons_of_mem _ hx)
theorem mm_stC {u : mm_V} {b : mm_B} {st : List mm_V} (h : ∀ x ∈ st, mm_ok b x) (hu : mm_ok b u) : ∀ x ∈ u :: st, mm_ok b x := fun x hx => by
  rcases List.mem_cons.mp hx with rfl | hx
  · exact hu
  · exact h x hx
theorem mm_stT {u : mm_V} {b : mm_B} {st : List mm_V} (h : ∀ x ∈ u :: st, mm_ok b x) : ∀ x ∈ st, mm_ok b x := fun x hx => h x (List.mem_cons_of_mem _ hx)
theorem mm_stH {u : mm_V} {b : mm_B} {st : List mm_V} (h : ∀ x ∈ u :: st, mm_ok b x) : mm_ok b u := h u List.mem_cons_self
theorem k_iconst {i : Int} (hd : decode K.1.2.1 pc = .ok (.iconst i, 1)) (hi : mm_in i) (k : mm_Wk K n (pc + 1) ls (.inl i :: st) b w Q) : mm_Wk K n pc ls st b w Q := by
  intro p l e R s m args below meth c X α0 b0 A H locs cells slots α kls ⟨hC, hR, hA, hS, hO, hL, hst, hn⟩
  exact lv_iconst hC.1 hC.2.1 hd rfl (k p l e R s m args below meth c X α0 b0 A H locs cells slots α kls ⟨hC, hR, hA, hS, hO, hL, mm_stC hst hi, hn⟩)
theorem mm_b8 {i : Int} (h : -128 ≤ i ∧ i < 128) : (Int8.ofInt i).toInt32 = Int32.ofInt i := by
  apply Int32.toInt_inj.mp
  rw [mm_i1 ⟨by omega, by omega⟩, Int8.toInt_toInt32, Int8.toInt_ofInt_of_le (by omega) (by omega)]
theorem mm_b16 {i : Int} (h : -32768 ≤ i ∧ i < 32768) : (Int16.ofInt i).toInt32 = Int32.ofInt i := by
  apply Int32.toInt_inj.mp
  rw [mm_i1 ⟨by omega, by omega⟩, Int16.toInt_toInt32, Int16.toInt_ofInt_of_le (by omega) (by omega)]
theorem k_bipush {i : Int} (hd : decode K.1.2.1 pc = .ok (.bipush i, 2)) (hi : -128 ≤ i ∧ i < 128) (k : mm_Wk K n (pc + 2) ls (.inl i :: st) b w Q) : mm_Wk K n pc ls st b w Q := by
  intro p l e R s m args below meth c X α0 b0 A H locs cells slots α kls ⟨hC, hR, hA, hS, hO, hL, hst, hn⟩
  exact lv_bipush hC.1 hC.2.1 hd (mm_b8 hi) (k p l e R s m args below meth c X α0 b0 A H locs cells slots α kls ⟨hC, hR, hA, hS, hO, hL, mm_stC hst ⟨by omega, by omega⟩, hn⟩)
theorem k_sipush {i : Int} (hd : decode K.1.2.1 pc = .ok (.sipush i, 3)) (hi : -32768 ≤ i ∧ i < 32768) (k : mm_Wk K n (pc + 3) ls (.inl i :: st) b w Q) : mm_Wk K n pc ls st b w Q := by
  intro p l e R s m args below meth c X α0 b0 A H locs cells slots α kls ⟨hC, hR, hA, hS, hO, hL, hst, hn⟩
  exact lv_sipush hC.1 hC.2.1 hd (mm_b16 hi) (k p l e R s m args below meth c X α0 b0 A H locs cells slots α kls ⟨hC, hR, hA, hS, hO, hL, mm_stC hst ⟨by omega, by omega⟩, hn⟩)
theorem k_iload {i : Nat} {x : Int} (hd : decode K.1.2.1 pc = .ok (.iload i, 2)) (hl : mm_nth ls i = some (some (.inl x))) (k : mm_Wk K n (pc + 2) ls (.inl x :: st) b w Q) : mm_Wk K n pc ls st b w Q := by
  intro p l e R s m args below meth c X α0 b0 A H locs cells slots α kls ⟨hC, hR, hA, hS, hO, hL, hst, hn⟩
  obtain ⟨h1, h2⟩ := hL.2.2.2 i _ hl
  exact lv_iload hC.1 hC.2.1 hd h1 (k p l e R s m args below meth c X α0 b0 A H locs cells slots α kls ⟨hC, hR, hA, hS, hO, hL, mm_stC hst h2, hn⟩)
theorem k_iload_n {i : Fin 4} {x : Int} (hd : decode K.1.2.1 pc = .ok (.iload_n i, 1)) (hl : mm_nth ls i.val = some (some (.inl x))) (k : mm_Wk K n (pc + 1) ls (.inl x :: st) b w Q) : mm_Wk K n pc ls st b w Q := by
  intro p l e R s m args below meth c X α0 b0 A H locs cells slots α kls ⟨hC, hR, hA, hS, hO, hL, hst, hn⟩
  obtain ⟨h1, h2⟩ := hL.2.2.2 i.val _ hl
  exact lv_iload_n hC.1 hC.2.1 hd rfl h1 (k p l e R s m args below meth c X α0 b0 A H locs cells slots α kls ⟨hC, hR, hA, hS, hO, hL, mm_stC hst h2, hn⟩)
theorem k_aload {i : Nat} {x : Nat × Int} (hd : decode K.1.2.1 pc = .ok (.aload i, 2)) (hl : mm_nth ls i = some (some (.inr (some x)))) (k : mm_Wk K n (pc + 2) ls (.inr (some x) :: st) b w Q) : mm_Wk K n pc ls st b w Q := by
  intro p l e R s m args below meth c X α0 b0 A H locs cells slots α kls ⟨hC, hR, hA, hS, hO, hL, hst, hn⟩
  obtain ⟨h1, h2⟩ := hL.2.2.2 i _ hl
  exact lv_aload hC.1 hC.2.1 hd h1 (k p l e R s m args below meth c X α0 b0 A H locs cells slots α kls ⟨hC, hR, hA, hS, hO, hL, mm_stC hst h2, hn⟩)
theorem k_aload_n {i : Fin 4} {x : Nat × Int} (hd : decode K.1.2.1 pc = .ok (.aload_n i, 1)) (hl : mm_nth ls i.val = some (some (.inr (some x)))) (k : mm_Wk K n (pc + 1) ls (.inr (some x) :: st) b w Q) : mm_Wk K n pc ls st b w Q := by
  intro p l e R s m args below meth c X α0 b0 A H locs cells slots α kls ⟨hC, hR, hA, hS, hO, hL, hst, hn⟩
  obtain ⟨h1, h2⟩ := hL.2.2.2 i.val _ hl
  exact lv_aload_n hC.1 hC.2.1 hd rfl h1 (k p l e R s m args below meth c X α0 b0 A H locs cells slots α kls ⟨hC, hR, hA, hS, hO, hL, mm_stC hst h2, hn⟩)
/-- the list that the kit's rows of stores take -/
def mm_al (α : Nat → Int → Nat) (ls : List (Option mm_V)) : List (Nat × Value) := (List.range ls.length).filterMap fun i => match mm_nth ls i with
  | some (some v) => some (i, mm_v α v)
  | _ => none
theorem mm_nth_lt {α : Type} {l : List α} {i : Nat} {v : α} (h : mm_nth l i = some v) : i < l.length := by
  induction l generalizing i with
  | nil => cases h
  | cons a r ih =>
    cases i with
    | zero => exact Nat.zero_lt_succ _
    | succ i => exact Nat.succ_lt_succ (ih h)
theorem mm_nth_set {α : Type} {l : List α} {i j : Nat} {v : α} : mm_nth (mm_set l i v) j = if i = j ∧ i < l.length then some v else mm_nth l j := by
  induction l generalizing i j with
  | nil => simp [mm_set, mm_nth]
  | cons a r ih =>
    cases i with
    | zero =>
      cases j with
      | zero => simp [mm_set, mm_nth]
      | succ j => simp [mm_set, mm_nth]
    | succ i =>
      cases j with
      | zero => simp [mm_set, mm_nth]
      | succ j =>
        show mm_nth (mm_set r i v) j = _
        rw [ih]
        by_cases h : i = j ∧ i < r.length
        · rw [if_pos h, if_pos ⟨by omega, by simp; omega⟩]
        · rw [if_neg h, if_neg (fun q => h ⟨by omega, by have := q.2; simp at this; omega⟩)]
          rfl
theorem mm_set_length {α : Type} {l : List α} {i : Nat} {v : α} : (mm_set l i v).length = l.length := by
  induction l generalizing i with
  | nil => rfl
  | cons a r ih =>
    cases i with
    | zero => rfl
    | succ i => exact congrArg (· + 1) (ih (i := i))
theorem mm_al_has {α : Nat → Int → Nat} {kls : Array Slot} {nL : Nat} (h : mm_L b α ls kls nL) : lv_has kls nL (mm_al α ls) := by
  refine ⟨h.2.1, h.2.2.1, fun q hq => ?_⟩
  obtain ⟨i, hi, hv⟩ := List.mem_filterMap.mp hq
  cases hn : mm_nth ls i with
  | none => rw [hn] at hv; cases hv
  | some o =>
    cases o with
    | none => rw [hn] at hv; cases hv
    | some v =>
      rw [hn] at hv
      cases hv
      exact (h.2.2.2 i v hn).1
theorem mm_cat (α : Nat → Int → Nat) (v : mm_V) : (mm_v α v).category = 1 := by
  rcases v with x | r
  · rfl
  · cases r <;> rfl
theorem mm_L_set {α : Nat → Int → Nat} {kls kls' : Array Slot} {nL i : Nat} {v : mm_V} (h : mm_L b α ls kls nL) (hv : mm_ok b v) (h' : lv_has kls' nL ((i, mm_v α v) :: (mm_al α ls).filter (fun q => !(q.1 == i) && !(q.1 + 1 == i && q.2.category == 2)))) : mm_L b α (mm_set ls i (some v)) kls' nL := by
  refine ⟨by rw [mm_set_length]; exact h.1, h'.1, h'.2.1, fun j u hj => ?_⟩
  rw [mm_nth_set] at hj
  by_cases hc : i = j ∧ i < ls.length
  · rw [if_pos hc] at hj
    cases hj
    rw [← hc.1]
    exact ⟨h'.2.2 _ List.mem_cons_self, hv⟩
  · rw [if_neg hc] at hj
    have hlt : j < ls.length := mm_nth_lt hj
    refine ⟨h'.2.2 (j, mm_v α u) (List.mem_cons_of_mem _ (List.mem_filter.mpr ⟨List.mem_filterMap.mpr ⟨j, List.mem_range.mpr hlt, by rw [hj]⟩, ?_⟩)), (h.2.2.2 j u hj).2⟩
    have hne : (j == i) = false := by
      refine beq_eq_false_iff_ne.mpr fun e => hc ⟨e.symm, by omega⟩
    show (!(j == i) && !(j + 1 == i && (mm_v α u).category == 2)) = true
    rw [hne, mm_cat]
    simp
theorem k_istore {i : Nat} {x : Int} (hd : decode K.1.2.1 pc = .ok (.istore i, 2)) (hi : i < K.1.2.2.1) (k : mm_Wk K n (pc + 2) (mm_set ls i (some (.inl x))) st b w Q) : mm_Wk K n pc ls (.inl x :: st) b w Q := by
  intro p l e R s m args below meth c X α0 b0 A H locs cells slots α kls ⟨hC, hR, hA, hS, hO, hL, hst, hn⟩
  exact lv_istore hC.1 hC.2.1 hd (mm_al_has hL) hi rfl (fun kls' h' => k p l e R s m args below meth c X α0 b0 A H locs cells slots α kls' ⟨hC, hR, hA, hS, hO, mm_L_set hL (mm_stH hst) h', mm_stT hst, hn⟩)
theorem k_istore_n {i : Fin 4} {x : Int} (hd : decode K.1.2.1 pc = .ok (.istore_n i, 1)) (hi : i.val < K.1.2.2.1) (k : mm_Wk K n (pc + 1) (mm_set ls i.val (some (.inl x))) st b w Q) : mm_Wk K n pc ls (.inl x :: st) b w Q := by
  intro p l e R s m args below meth c X α0 b0 A H locs cells slots α kls ⟨hC, hR, hA, hS, hO, hL, hst, hn⟩
  exact lv_istore_n hC.1 hC.2.1 hd rfl (mm_al_has hL) hi rfl (fun kls' h' => k p l e R s m args below meth c X α0 b0 A H locs cells slots α kls' ⟨hC, hR, hA, hS, hO, mm_L_set hL (mm_stH hst) h', mm_stT hst, hn⟩)
theorem k_astore {i : Nat} {x : Nat × Int} (hd : decode K.1.2.1 pc = .ok (.astore i, 2)) (hi : i < K.1.2.2.1) (k : mm_Wk K n (pc + 2) (mm_set ls i (some (.inr (some x)))) st b w Q) : mm_Wk K n pc ls (.inr (some x) :: st) b w Q := by
  intro p l e R s m args below meth c X α0 b0 A H locs cells slots α kls ⟨hC, hR, hA, hS, hO, hL, hst, hn⟩
  exact lv_astore hC.1 hC.2.1 hd (mm_al_has hL) hi rfl (fun kls' h' => k p l e R s m args below meth c X α0 b0 A H locs cells slots α kls' ⟨hC, hR, hA, hS, hO, mm_L_set (v := .inr (some x)) hL (mm_stH hst) h', mm_stT hst, hn⟩)
theorem k_astore_n {i : Fin 4} {x : Nat × Int} (hd : decode K.1.2.1 pc = .ok (.astore_n i, 1)) (hi : i.val < K.1.2.2.1) (k : mm_Wk K n (pc + 1) (mm_set ls i.val (some (.inr (some x)))) st b w Q) : mm_Wk K n pc ls (.inr (some x) :: st) b w Q := by
  intro p l e R s m args below meth c X α0 b0 A H locs cells slots α kls ⟨hC, hR, hA, hS, hO, hL, hst, hn⟩
  exact lv_astore_n hC.1 hC.2.1 hd rfl (mm_al_has hL) hi rfl (fun kls' h' => k p l e R s m args below meth c X α0 b0 A H locs cells slots α kls' ⟨hC, hR, hA, hS, hO, mm_L_set (v := .inr (some x)) hL (mm_stH hst) h', mm_stT hst, hn⟩)
theorem k_iinc {i : Nat} {x z : Int} (hd : decode K.1.2.1 pc = .ok (.iinc i z, 3)) (hl : mm_nth ls i = some (some (.inl x))) (hz : mm_in (x + z)) (k : mm_Wk K n (pc + 3) (mm_set ls i (some (.inl (x + z)))) st b w Q) : mm_Wk K n pc ls st b w Q := by
  intro p l e R s m args below meth c X α0 b0 A H locs cells slots α kls ⟨hC, hR, hA, hS, hO, hL, hst, hn⟩
  have hlt : i < ls.length := mm_nth_lt hl
  have hm : (i, mm_v α (.inl x)) ∈ mm_al α ls := List.mem_filterMap.mpr ⟨i, List.mem_range.mpr hlt, by rw [hl]⟩
  obtain ⟨k0, hk0⟩ := List.mem_iff_getElem?.mp hm
  exact lv_iinc (v := Int32.ofInt (x + z)) hC.1 hC.2.1 hd (mm_al_has hL) hk0 (Int32.ofInt_add x z).symm (by rw [← hL.1]; exact hlt) rfl (fun kls' h' => k p l e R s m args below meth c X α0 b0 A H locs cells slots α kls' ⟨hC, hR, hA, hS, hO, mm_L_set (v := .inl (x + z)) hL hz h', hst, hn⟩)
end MMR
end
section
/-! ===== arithmetic, stack, fields, arrays ===== -/
section MMR2
variable {K : mm_K} {n : Nat × Nat} {pc : Nat} {ls : List (Option mm_V)} {st : List mm_V} {b : mm_B} {w : mm_M} {Q : Option mm_V → mm_B → mm_M → Prop}
theorem k_iadd {x y : Int} (hd : decode K.1.2.1 pc = .ok (.iadd, 1)) (hz : mm_in (x + y)) (k : mm_Wk K n (pc + 1) ls (.inl (x + y) :: st) b w Q) : mm_Wk K n pc ls (.inl y :: .inl x :: st) b w Q := by
  intro p l e R s m args below meth c X α0 b0 A H locs cells slots α kls ⟨hC, hR, hA, hS, hO, hL, hst, hn⟩
  refine lv_iadd hC.1 hC.2.1 hd ?_
  have k := k p l e R s m args below meth c X α0 b0 A H locs cells slots α kls ⟨hC, hR, hA, hS, hO, hL, mm_stC (mm_stT (mm_stT hst)) hz, hn⟩
  rw [← Int32.ofInt_add]
  exact k
theorem k_isub {x y : Int} (hd : decode K.1.2.1 pc = .ok (.isub, 1)) (hz : mm_in (x - y)) (k : mm_Wk K n (pc + 1) ls (.inl (x - y) :: st) b w Q) : mm_Wk K n pc ls (.inl y :: .inl x :: st) b w Q := by
  intro p l e R s m args below meth c X α0 b0 A H locs cells slots α kls ⟨hC, hR, hA, hS, hO, hL, hst, hn⟩
  refine lv_isub hC.1 hC.2.1 hd ?_
  have k := k p l e R s m args below meth c X α0 b0 A H locs cells slots α kls ⟨hC, hR, hA, hS, hO, hL, mm_stC (mm_stT (mm_stT hst)) hz, hn⟩
  rw [← Int32.ofInt_sub]
  exact k
theorem k_imul {x y : Int} (hd : decode K.1.2.1 pc = .ok (.imul, 1)) (hz : mm_in (x * y)) (k : mm_Wk K n (pc + 1) ls (.inl (x * y) :: st) b w Q) : mm_Wk K n pc ls (.inl y :: .inl x :: st) b w Q := by
  intro p l e R s m args below meth c X α0 b0 A H locs cells slots α kls ⟨hC, hR, hA, hS, hO, hL, hst, hn⟩
  refine lv_imul hC.1 hC.2.1 hd ?_
  have k := k p l e R s m args below meth c X α0 b0 A H locs cells slots α kls ⟨hC, hR, hA, hS, hO, hL, mm_stC (mm_stT (mm_stT hst)) hz, hn⟩
  rw [← Int32.ofInt_mul]
  exact k
theorem mm_nmin {y : Int} (h : mm_in y) (h0 : 0 < y) : ¬ Int32.ofInt y = 0 := fun q => by
  have := congrArg Int32.toInt q
  rw [mm_i1 h] at this
  have h00 : (0 : Int32).toInt = 0 := rfl
  omega
theorem mm_div {x y : Int} (hx : mm_in x) (hy : mm_in y) (h0 : 0 ≤ x) (h1 : 0 < y) : Int32.ofInt x / Int32.ofInt y = Int32.ofInt (x / y) := by
  have hq : x / y ≤ x := Int.ediv_le_self y h0
  have hq0 : 0 ≤ x / y := Int.ediv_nonneg h0 (by omega)
  apply Int32.toInt_inj.mp
  rw [Int32.toInt_div_of_ne_right _ _ (fun q => by have := congrArg Int32.toInt q; rw [mm_i1 hy] at this; have h00 : (-1 : Int32).toInt = -1 := rfl; omega), mm_i1 hx, mm_i1 hy, mm_i1 ⟨by omega, by omega⟩]
  exact Int.tdiv_eq_ediv_of_nonneg h0
theorem k_idiv {x y : Int} (hd : decode K.1.2.1 pc = .ok (.idiv, 1)) (hz : 0 ≤ x ∧ 0 < y) (k : mm_Wk K n (pc + 1) ls (.inl (x / y) :: st) b w Q) : mm_Wk K n pc ls (.inl y :: .inl x :: st) b w Q := by
  intro p l e R s m args below meth c X α0 b0 A H locs cells slots α kls ⟨hC, hR, hA, hS, hO, hL, hst, hn⟩
  have hy : mm_in y := mm_stH hst
  have hx : mm_in x := mm_stH (mm_stT hst)
  refine lv_idiv hC.1 hC.2.1 hd (mm_nmin hy hz.2) ?_
  have k := k p l e R s m args below meth c X α0 b0 A H locs cells slots α kls ⟨hC, hR, hA, hS, hO, hL, mm_stC (mm_stT (mm_stT hst)) ⟨by have := Int.ediv_nonneg hz.1 (Int.le_of_lt hz.2); omega, by have := Int.ediv_le_self y hz.1; have := hx.2; omega⟩, hn⟩
  rw [mm_div hx hy hz.1 hz.2]
  exact k
theorem k_irem {x y : Int} (hd : decode K.1.2.1 pc = .ok (.irem, 1)) (hz : 0 ≤ x ∧ 0 < y) (k : mm_Wk K n (pc + 1) ls (.inl (x % y) :: st) b w Q) : mm_Wk K n pc ls (.inl y :: .inl x :: st) b w Q := by
  intro p l e R s m args below meth c X α0 b0 A H locs cells slots α kls ⟨hC, hR, hA, hS, hO, hL, hst, hn⟩
  have hy : mm_in y := mm_stH hst
  have hx : mm_in x := mm_stH (mm_stT hst)
  refine lv_irem hC.1 hC.2.1 hd (mm_nmin hy hz.2) ?_
  have k := k p l e R s m args below meth c X α0 b0 A H locs cells slots α kls ⟨hC, hR, hA, hS, hO, hL, mm_stC (mm_stT (mm_stT hst)) ⟨by have := Int.emod_nonneg x (show y ≠ 0 by omega); omega, by have := Int.emod_lt_of_pos x hz.2; have := hy.2; omega⟩, hn⟩
  rw [mm_div hx hy hz.1 hz.2, ← Int32.ofInt_mul, ← Int32.ofInt_sub, show x - x / y * y = x % y by have := Int.emod_add_mul_ediv x y; rw [Int.mul_comm] at this; omega]
  exact k
theorem k_iand {x y : Int} (hd : decode K.1.2.1 pc = .ok (.iand, 1)) (k : mm_Wk K n (pc + 1) ls (.inl (mm_and x y) :: st) b w Q) : mm_Wk K n pc ls (.inl y :: .inl x :: st) b w Q := by
  intro p l e R s m args below meth c X α0 b0 A H locs cells slots α kls ⟨hC, hR, hA, hS, hO, hL, hst, hn⟩
  refine lv_iand hC.1 hC.2.1 hd ?_
  have k := k p l e R s m args below meth c X α0 b0 A H locs cells slots α kls ⟨hC, hR, hA, hS, hO, hL, mm_stC (mm_stT (mm_stT hst)) (mm_i2 _), hn⟩
  rw [← mm_i3 (Int32.ofInt x &&& Int32.ofInt y)]
  exact k
theorem k_ior {x y : Int} (hd : decode K.1.2.1 pc = .ok (.ior, 1)) (k : mm_Wk K n (pc + 1) ls (.inl (mm_or x y) :: st) b w Q) : mm_Wk K n pc ls (.inl y :: .inl x :: st) b w Q := by
  intro p l e R s m args below meth c X α0 b0 A H locs cells slots α kls ⟨hC, hR, hA, hS, hO, hL, hst, hn⟩
  refine lv_ior hC.1 hC.2.1 hd ?_
  have k := k p l e R s m args below meth c X α0 b0 A H locs cells slots α kls ⟨hC, hR, hA, hS, hO, hL, mm_stC (mm_stT (mm_stT hst)) (mm_i2 _), hn⟩
  rw [← mm_i3 (Int32.ofInt x ||| Int32.ofInt y)]
  exact k
theorem k_ixor {x y : Int} (hd : decode K.1.2.1 pc = .ok (.ixor, 1)) (k : mm_Wk K n (pc + 1) ls (.inl (mm_xor x y) :: st) b w Q) : mm_Wk K n pc ls (.inl y :: .inl x :: st) b w Q := by
  intro p l e R s m args below meth c X α0 b0 A H locs cells slots α kls ⟨hC, hR, hA, hS, hO, hL, hst, hn⟩
  refine lv_ixor hC.1 hC.2.1 hd ?_
  have k := k p l e R s m args below meth c X α0 b0 A H locs cells slots α kls ⟨hC, hR, hA, hS, hO, hL, mm_stC (mm_stT (mm_stT hst)) (mm_i2 _), hn⟩
  rw [← mm_i3 (Int32.ofInt x ^^^ Int32.ofInt y)]
  exact k
theorem k_ishl {x y : Int} (hd : decode K.1.2.1 pc = .ok (.ishl, 1)) (k : mm_Wk K n (pc + 1) ls (.inl (mm_shl x y) :: st) b w Q) : mm_Wk K n pc ls (.inl y :: .inl x :: st) b w Q := by
  intro p l e R s m args below meth c X α0 b0 A H locs cells slots α kls ⟨hC, hR, hA, hS, hO, hL, hst, hn⟩
  refine lv_ishl hC.1 hC.2.1 hd ?_
  have k := k p l e R s m args below meth c X α0 b0 A H locs cells slots α kls ⟨hC, hR, hA, hS, hO, hL, mm_stC (mm_stT (mm_stT hst)) (mm_i2 _), hn⟩
  rw [← mm_i3 (Int32.ofInt x <<< (Int32.ofInt y &&& 31))]
  exact k
theorem k_ishr {x y : Int} (hd : decode K.1.2.1 pc = .ok (.ishr, 1)) (k : mm_Wk K n (pc + 1) ls (.inl (mm_shr x y) :: st) b w Q) : mm_Wk K n pc ls (.inl y :: .inl x :: st) b w Q := by
  intro p l e R s m args below meth c X α0 b0 A H locs cells slots α kls ⟨hC, hR, hA, hS, hO, hL, hst, hn⟩
  refine lv_ishr hC.1 hC.2.1 hd ?_
  have k := k p l e R s m args below meth c X α0 b0 A H locs cells slots α kls ⟨hC, hR, hA, hS, hO, hL, mm_stC (mm_stT (mm_stT hst)) (mm_i2 _), hn⟩
  rw [← mm_i3 (Int32.ofInt x >>> (Int32.ofInt y &&& 31))]
  exact k
theorem k_ineg {x : Int} (hd : decode K.1.2.1 pc = .ok (.ineg, 1)) (hz : mm_in (-x)) (k : mm_Wk K n (pc + 1) ls (.inl (-x) :: st) b w Q) : mm_Wk K n pc ls (.inl x :: st) b w Q := by
  intro p l e R s m args below meth c X α0 b0 A H locs cells slots α kls ⟨hC, hR, hA, hS, hO, hL, hst, hn⟩
  refine lv_ineg hC.1 hC.2.1 hd ?_
  have k := k p l e R s m args below meth c X α0 b0 A H locs cells slots α kls ⟨hC, hR, hA, hS, hO, hL, mm_stC (mm_stT hst) hz, hn⟩
  rw [← Int32.ofInt_neg]
  exact k
theorem mm_i2c {x : Int} (h : 0 ≤ x ∧ x < 65536) : ((Int32.ofInt x).toUInt32 % 65536).toInt32 = Int32.ofInt x := by
  obtain ⟨k, rfl⟩ : ∃ k : Nat, x = k := ⟨x.toNat, by omega⟩
  have hk : k < 65536 := by omega
  apply Int32.toBitVec_inj.mp
  apply BitVec.eq_of_toNat_eq
  show (((Int32.ofInt (k : Int)).toUInt32 % 65536).toBitVec).toNat = (Int32.ofInt (k : Int)).toBitVec.toNat
  have e : (Int32.ofInt (k : Int)).toBitVec.toNat = k := by
    show (BitVec.ofInt 32 (k : Int)).toNat = k
    rw [BitVec.toNat_ofInt]
    omega
  have e2 : ((Int32.ofInt (k : Int)).toUInt32 % 65536).toNat = k := by
    rw [UInt32.toNat_mod]
    show (Int32.ofInt (k : Int)).toBitVec.toNat % 65536 = k
    rw [e]
    omega
  rw [e]
  exact e2
theorem k_i2c {x : Int} (hd : decode K.1.2.1 pc = .ok (.i2c, 1)) (hz : 0 ≤ x ∧ x < 65536) (k : mm_Wk K n (pc + 1) ls (.inl x :: st) b w Q) : mm_Wk K n pc ls (.inl x :: st) b w Q := by
  intro p l e R s m args below meth c X α0 b0 A H locs cells slots α kls ⟨hC, hR, hA, hS, hO, hL, hst, hn⟩
  exact lv_i2c hC.1 hC.2.1 hd (mm_i2c hz) (k p l e R s m args below meth c X α0 b0 A H locs cells slots α kls ⟨hC, hR, hA, hS, hO, hL, hst, hn⟩)
theorem k_dup {v : mm_V} (hd : decode K.1.2.1 pc = .ok (.dup, 1)) (k : mm_Wk K n (pc + 1) ls (v :: v :: st) b w Q) : mm_Wk K n pc ls (v :: st) b w Q := by
  intro p l e R s m args below meth c X α0 b0 A H locs cells slots α kls ⟨hC, hR, hA, hS, hO, hL, hst, hn⟩
  exact lv_dup hC.1 hC.2.1 hd (mm_cat α v) (k p l e R s m args below meth c X α0 b0 A H locs cells slots α kls ⟨hC, hR, hA, hS, hO, hL, mm_stC hst (mm_stH hst), hn⟩)
theorem k_pop {v : mm_V} (hd : decode K.1.2.1 pc = .ok (.pop, 1)) (k : mm_Wk K n (pc + 1) ls st b w Q) : mm_Wk K n pc ls (v :: st) b w Q := by
  intro p l e R s m args below meth c X α0 b0 A H locs cells slots α kls ⟨hC, hR, hA, hS, hO, hL, hst, hn⟩
  exact lv_pop hC.1 hC.2.1 hd (mm_cat α v) (k p l e R s m args below meth c X α0 b0 A H locs cells slots α kls ⟨hC, hR, hA, hS, hO, hL, mm_stT hst, hn⟩)
theorem mm_nth_mem {α : Type} {l : List α} {i : Nat} {v : α} (h : mm_nth l i = some v) : v ∈ l := by
  induction l generalizing i with
  | nil => cases h
  | cons a r ih =>
    cases i with
    | zero => cases h; exact List.mem_cons_self
    | succ i => exact List.mem_cons_of_mem _ (ih h)
theorem mm_glc : ∀ q ∈ mm_gl, q.1 = 0 → (vwCl[q.2.1]?).map (fun r => r.2.2) = some q.2.2 := by decide +kernel
theorem mm_glN {g c0 N N' : Nat} {C : String} {T : u_T} (hg : mm_gk g = (0, c0, N)) (h : vwCl[c0]? = some (C, T, N')) : N' = N := by
  have hm : (0, c0, N) ∈ mm_gl := by
    unfold mm_gk at hg
    cases hq : mm_nth mm_gl g with
    | none => rw [hq] at hg; cases hg
    | some q =>
      rw [hq] at hg
      have : q = (0, c0, N) := hg
      rw [← this]
      exact mm_nth_mem hq
  have := mm_glc _ hm rfl
  dsimp only at this
  rw [h] at this
  exact Option.some.inj this
theorem k_getI {i : Nat} {g : Nat} {j : Int} {c0 N k0 t : Nat} {ki : Int} (hf : mm_fok K.1.2.2.2.2 (i, c0, k0, t, ki)) (hg : mm_gk g = (0, c0, N)) (hd : decode K.1.2.1 pc = .ok (.getfield i, 3)) {v : mm_V} (hv : v = if Nat.beq t 2 = true then .inr (b.1 g k0) else .inl (w g 0 ki)) (k : mm_Wk K n (pc + 3) ls (v :: st) b w Q) : mm_Wk K n pc ls (.inr (some (g, j)) :: st) b w Q := by
  intro p l e R s m args below meth c X α0 b0 A H locs cells slots α kls ⟨hC, hR, hA, hS, hO, hL, hst, hn⟩
  obtain ⟨C, T, N', ty, h1, h2, h3, h4, h5, h6, h7, h8, hki, -, -⟩ := hf
  have hki : (k0 : Int) = ki := hki
  subst hki
  dsimp only at h1 h5 h6 h7 h8
  have hok := mm_stH hst
  obtain ⟨q0, hk0, hw0⟩ := mm_pos (X := X) (α := α) (w := w) (mm_key hok)
  rw [mm_ce_obj hg] at hw0
  obtain ⟨r, hr1, cell, g1, g2, g3, g4⟩ := hR.1 q0 _ hw0
  have hr : r = (C, T, N') := by rw [h1] at hr1; exact (Option.some.inj hr1).symm
  subst hr
  have hfv : mm_v α v = mm_fv α b w g k0 := by
    unfold mm_fv
    rw [hg, h8, hv]
    split <;> rfl
  have hNN : k0 < N := by rw [← mm_glN hg h1]; exact h5
  have he : ((List.range N).map (mm_fv α b w g))[k0]? = some (mm_v α v) := by
    rw [List.getElem?_map, List.getElem?_range hNN, hfv]
    rfl
  refine va_get hC.1 hC.2.1 hC.2.2.2.2.2.2.1 h2 hC.2.2.2.2.2.1 hC.2.2.2.2.2.2.2.1 hR.1 q0 hw0 h1 k0 h5 (hC.2.2.2.2.2.2.1 _ h6) (fun x hx => by rw [← h7]; exact hx) he hd ?_
  refine k p l e R s m args below meth c X α0 b0 A H locs cells slots α kls ⟨hC, hR, hA, hS, hO, hL, mm_stC (mm_stT hst) ?_, hn⟩
  rw [hv]
  split
  · cases hb : b.1 g k0 with
    | none => trivial
    | some q => exact hR.2.2.2.1 g hok.1 k0 q hb
  · exact hR.2.2.1 g 0 k0
theorem k_dup2 {v u : mm_V} (hd : decode K.1.2.1 pc = .ok (.dup2, 1)) (k : mm_Wk K n (pc + 1) ls (v :: u :: v :: u :: st) b w Q) : mm_Wk K n pc ls (v :: u :: st) b w Q := by
  intro p l e R s m args below meth c X α0 b0 A H locs cells slots α kls ⟨hC, hR, hA, hS, hO, hL, hst, hn⟩
  exact lv_dup2_11 hC.1 hC.2.1 hd (mm_cat α v) (mm_cat α u) (k p l e R s m args below meth c X α0 b0 A H locs cells slots α kls ⟨hC, hR, hA, hS, hO, hL, mm_stC (mm_stC hst (mm_stH (mm_stT hst))) (mm_stH hst), hn⟩)
theorem mm_nar1 {x : Int} (h : 0 ≤ x ∧ x ≤ 1) : narrow .boolean (.int (Int32.ofInt x)) = .int (Int32.ofInt x) := by
  obtain rfl | rfl : x = 0 ∨ x = 1 := by omega
  · rfl
  · rfl
theorem mm_fit1 {x : Int} (h : 0 ≤ x ∧ x ≤ 1) : fits .boolean (.int (Int32.ofInt x)) = true := by
  obtain rfl | rfl : x = 0 ∨ x = 1 := by omega
  · rfl
  · rfl
theorem k_putI {i : Nat} {g : Nat} {j x : Int} {c0 N k0 t : Nat} {ki : Int} (hf : mm_fok K.1.2.2.2.2 (i, c0, k0, t, ki)) (hg : mm_gk g = (0, c0, N)) (ht : t = 0 ∨ (t = 1 ∧ 0 ≤ x ∧ x ≤ 1)) (hd : decode K.1.2.1 pc = .ok (.putfield i, 3)) (k : mm_Wk K n (pc + 3) ls st b (mm_up w g 0 ki x) Q) : mm_Wk K n pc ls (.inl x :: .inr (some (g, j)) :: st) b w Q := by
  intro p l e R s m args below meth c X α0 b0 A H locs cells slots α kls ⟨hC, hR, hA, hS, hO, hL, hst, hn⟩
  obtain ⟨C, T, N', ty, h1, h2, h3, h4, h5, h6, h7, h8, hki, h9, h10⟩ := hf
  have hki : (k0 : Int) = ki := hki
  subst hki
  dsimp only at h1 h5 h6 h7 h8 h9 h10
  have hx : mm_in x := mm_stH hst
  have hok := mm_stH (mm_stT hst)
  have hj : j = 0 := by
    have h1 := mm_keyR (mm_key hok)
    rw [mm_nr_obj hg] at h1
    omega
  subst hj
  obtain ⟨q0, hk0, hw0⟩ := mm_pos (X := X) (α := α) (w := w) (mm_key hok)
  rw [mm_ce_obj hg] at hw0
  have hNN : k0 < N := by rw [← mm_glN hg h1]; exact h5
  have hty : parseFieldDescriptor (T k0).2.2.1 = some (ty k0) := h3 k0 h5
  have hfin : (T k0).2.2.2 = false := by
    rcases ht with ht | ht
    · exact (h9 ht).2
    · exact (h10 ht.1).2
  have hfit : narrow (ty k0) (.int (Int32.ofInt x)) = .int (Int32.ofInt x) ∧ fits (ty k0) (.int (Int32.ofInt x)) = true := by
    rcases ht with ht | ht
    · rw [(h9 ht).1]; exact ⟨rfl, rfl⟩
    · rw [(h10 ht.1).1]; exact ⟨mm_nar1 ht.2, mm_fit1 ht.2⟩
  refine va_put hC.1 hC.2.1 hC.2.2.2.2.2.2.1 h2 ty h3 h4 hC.2.2.2.2.2.1 hC.2.2.2.2.2.2.2.1 hR.1 hR.2.1 hS q0 hw0 h1 k0 h5 (hC.2.2.2.2.2.2.1 _ h6) (fun x hx => by rw [← h7]; exact hx) hfin hty hfit.1 hfit.2 (by simp; exact hNN) hd (fun H1 locs1 hP hD hS => ?_)
  have hset : (mm_wl X α b w).set q0 (α g 0, .inr (c0, ((List.range N).map (mm_fv α b w g)).set k0 (.int (Int32.ofInt x)))) = mm_wl X α b (mm_up w g 0 k0 x) := by
    refine mm_wl_set hR.2.1 hk0 ?_ (fun q hq hne => mm_ce_up hq (mm_key hok) hne)
    rw [mm_ce_obj hg]
    refine congrArg _ (congrArg _ (List.ext_getElem? fun z => ?_))
    by_cases hz : k0 = z
    · subst hz
      rw [List.getElem?_set_self (by simp; exact hNN), List.getElem?_map, List.getElem?_range hNN]
      show _ = some (mm_fv α b (mm_up w g 0 k0 x) g k0)
      unfold mm_fv
      rw [hg, h8]
      have ht2 : Nat.beq t 2 = false := by
        rcases ht with rfl | ⟨rfl, -⟩ <;> rfl
      rw [ht2, if_neg (by decide)]
      unfold mm_up
      rw [if_pos ⟨rfl, rfl, rfl⟩]
    · rw [List.getElem?_set_ne hz, List.getElem?_map, List.getElem?_map]
      cases hr : (List.range N)[z]? with
      | none => rfl
      | some y =>
        have hy : y = z := by
          have := List.getElem?_eq_some_iff.mp hr
          obtain ⟨h, h'⟩ := this
          simp at h'
          exact h'.symm
        subst hy
        show some (mm_fv α b w g y) = some (mm_fv α b (mm_up w g 0 k0 x) g y)
        unfold mm_fv mm_up
        rw [if_neg (show ¬ (g = g ∧ (0 : Int) = 0 ∧ (y : Int) = (k0 : Int)) from fun q => hz (by have := q.2.2; omega))]
  have hP : va_P X.1 vwCl ((mm_wl X α b w).set q0 (α g 0, .inr (c0, ((List.range N).map (mm_fv α b w g)).set k0 (.int (Int32.ofInt x))))) H1 := hP
  have hD : va_D A ((mm_wl X α b w).set q0 (α g 0, .inr (c0, ((List.range N).map (mm_fv α b w g)).set k0 (.int (Int32.ofInt x))))) := hD
  rw [hset] at hP hD
  exact k p l e R s m args below meth c X α0 b0 A H1 locs1 cells slots α kls ⟨hC, ⟨hP, hD, mm_rg_up hR.2.2.1 hx, hR.2.2.2⟩, hA, hS, hO, hL, mm_stT (mm_stT hst), hn⟩
theorem mm_tys {X : mm_X} {k : Nat} (hk : k = 1 ∨ k = 2 ∨ k = 3) : ∃ t0 : Nat, (mm_ty X)[t0]? = some (mm_cA X k, mm_fT k) := by
  rcases hk with rfl | rfl | rfl
  · exact ⟨0, rfl⟩
  · exact ⟨1, rfl⟩
  · exact ⟨2, rfl⟩
theorem k_iaload {g : Nat} {j i : Int} {N r : Nat} (hg : mm_gk g = (1, N, r)) (hi : 0 ≤ i ∧ i < N) (hd : decode K.1.2.1 pc = .ok (.iaload, 1)) (k : mm_Wk K n (pc + 1) ls (.inl (w g j i) :: st) b w Q) : mm_Wk K n pc ls (.inl i :: .inr (some (g, j)) :: st) b w Q := by
  intro p l e R s m args below meth c X α0 b0 A H locs cells slots α kls ⟨hC, hR, hA, hS, hO, hL, hst, hn⟩
  have hx : mm_in i := mm_stH hst
  have hok := mm_stH (mm_stT hst)
  obtain ⟨q0, hk0, hw0⟩ := mm_pos (X := X) (α := α) (w := w) (mm_key hok)
  rw [mm_ce_arr hg (by decide)] at hw0
  obtain ⟨t0, ht0⟩ := mm_tys (X := X) (k := 1) (by decide)
  obtain ⟨h1, h2⟩ := mm_i4 hx hi.1 hi.2
  refine va_iald hC.1 hC.2.1 hC.2.2.2.2.2.2.2.1 hR.1 q0 t0 hw0 ht0 h1 hd ?_
  have k := k p l e R s m args below meth c X α0 b0 A H locs cells slots α kls ⟨hC, hR, hA, hS, hO, hL, mm_stC (mm_stT (mm_stT hst)) (hR.2.2.1 g j i), hn⟩
  rw [h2]
  exact k
theorem k_baload {g : Nat} {j i : Int} {N r : Nat} (hg : mm_gk g = (2, N, r)) (hi : 0 ≤ i ∧ i < N) (hd : decode K.1.2.1 pc = .ok (.baload, 1)) (k : mm_Wk K n (pc + 1) ls (.inl (w g j i) :: st) b w Q) : mm_Wk K n pc ls (.inl i :: .inr (some (g, j)) :: st) b w Q := by
  intro p l e R s m args below meth c X α0 b0 A H locs cells slots α kls ⟨hC, hR, hA, hS, hO, hL, hst, hn⟩
  have hx : mm_in i := mm_stH hst
  have hok := mm_stH (mm_stT hst)
  obtain ⟨q0, hk0, hw0⟩ := mm_pos (X := X) (α := α) (w := w) (mm_key hok)
  rw [mm_ce_arr hg (by decide)] at hw0
  obtain ⟨t0, ht0⟩ := mm_tys (X := X) (k := 2) (by decide)
  obtain ⟨h1, h2⟩ := mm_i4 hx hi.1 hi.2
  refine va_zald hC.1 hC.2.1 hC.2.2.2.2.2.2.2.1 hR.1 q0 t0 hw0 ht0 h1 hd ?_
  have k := k p l e R s m args below meth c X α0 b0 A H locs cells slots α kls ⟨hC, hR, hA, hS, hO, hL, mm_stC (mm_stT (mm_stT hst)) (hR.2.2.1 g j i), hn⟩
  rw [h2]
  exact k
theorem k_caload {g : Nat} {j i : Int} {N r : Nat} (hg : mm_gk g = (3, N, r)) (hi : 0 ≤ i ∧ i < N) (hd : decode K.1.2.1 pc = .ok (.caload, 1)) (k : mm_Wk K n (pc + 1) ls (.inl (w g j i) :: st) b w Q) : mm_Wk K n pc ls (.inl i :: .inr (some (g, j)) :: st) b w Q := by
  intro p l e R s m args below meth c X α0 b0 A H locs cells slots α kls ⟨hC, hR, hA, hS, hO, hL, hst, hn⟩
  have hx : mm_in i := mm_stH hst
  have hok := mm_stH (mm_stT hst)
  obtain ⟨q0, hk0, hw0⟩ := mm_pos (X := X) (α := α) (w := w) (mm_key hok)
  rw [mm_ce_arr hg (by decide)] at hw0
  obtain ⟨t0, ht0⟩ := mm_tys (X := X) (k := 3) (by decide)
  obtain ⟨h1, h2⟩ := mm_i4 hx hi.1 hi.2
  refine va_cald hC.1 hC.2.1 hC.2.2.2.2.2.2.2.1 hR.1 q0 t0 hw0 ht0 h1 hd ?_
  have k := k p l e R s m args below meth c X α0 b0 A H locs cells slots α kls ⟨hC, hR, hA, hS, hO, hL, mm_stC (mm_stT (mm_stT hst)) (hR.2.2.1 g j i), hn⟩
  rw [h2]
  exact k
theorem k_iastore {g : Nat} {j i x : Int} {N r : Nat} (hg : mm_gk g = (1, N, r)) (hi : 0 ≤ i ∧ i < N) (hd : decode K.1.2.1 pc = .ok (.iastore, 1)) (k : mm_Wk K n (pc + 1) ls st b (mm_up w g j i x) Q) : mm_Wk K n pc ls (.inl x :: .inl i :: .inr (some (g, j)) :: st) b w Q := by
  intro p l e R s m args below meth c X α0 b0 A H locs cells slots α kls ⟨hC, hR, hA, hS, hO, hL, hst, hn⟩
  have hx : mm_in x := mm_stH hst
  have hii : mm_in i := mm_stH (mm_stT hst)
  have hok := mm_stH (mm_stT (mm_stT hst))
  obtain ⟨q0, hk0, hw0⟩ := mm_pos (X := X) (α := α) (w := w) (mm_key hok)
  rw [mm_ce_arr hg (by decide)] at hw0
  obtain ⟨t0, ht0⟩ := mm_tys (X := X) (k := 1) (by decide)
  obtain ⟨h1, h2⟩ := mm_i4 hii hi.1 hi.2
  refine va_iast hC.1 hC.2.1 hC.2.2.2.2.2.2.2.1 hR.1 hR.2.1 hS q0 t0 hw0 ht0 h1 hd (fun H1 locs1 hP hD hS => ?_)
  rw [show (Int32.ofInt i).toNatClampNeg = i.toNat by omega, ← mm_up_arr hi.1] at hP hD
  have hset := mm_wl_set (w' := mm_up w g j i x) hR.2.1 hk0 (mm_ce_arr hg (by decide)).symm (fun q hq hne => mm_ce_up hq (mm_key hok) hne)
  rw [hset] at hP hD
  exact k p l e R s m args below meth c X α0 b0 A H1 locs1 cells slots α kls ⟨hC, ⟨hP, hD, mm_rg_up hR.2.2.1 hx, hR.2.2.2⟩, hA, hS, hO, hL, mm_stT (mm_stT (mm_stT hst)), hn⟩
theorem k_bastore {g : Nat} {j i x : Int} {N r : Nat} (hg : mm_gk g = (2, N, r)) (hi : 0 ≤ i ∧ i < N) (hx1 : 0 ≤ x ∧ x ≤ 1) (hd : decode K.1.2.1 pc = .ok (.bastore, 1)) (k : mm_Wk K n (pc + 1) ls st b (mm_up w g j i x) Q) : mm_Wk K n pc ls (.inl x :: .inl i :: .inr (some (g, j)) :: st) b w Q := by
  intro p l e R s m args below meth c X α0 b0 A H locs cells slots α kls ⟨hC, hR, hA, hS, hO, hL, hst, hn⟩
  have hx : mm_in x := mm_stH hst
  have hii : mm_in i := mm_stH (mm_stT hst)
  have hok := mm_stH (mm_stT (mm_stT hst))
  obtain ⟨q0, hk0, hw0⟩ := mm_pos (X := X) (α := α) (w := w) (mm_key hok)
  rw [mm_ce_arr hg (by decide)] at hw0
  obtain ⟨t0, ht0⟩ := mm_tys (X := X) (k := 2) (by decide)
  obtain ⟨h1, h2⟩ := mm_i4 hii hi.1 hi.2
  refine va_zast hC.1 hC.2.1 hC.2.2.2.2.2.2.2.1 hR.1 hR.2.1 hS q0 t0 hw0 ht0 h1 hd (fun H1 locs1 hP hD hS => ?_)
  have hnar : vp_nar .boolean (Int32.ofInt x) = Int32.ofInt x := by
    unfold vp_nar
    rw [mm_nar1 hx1]
  rw [hnar] at hP hD
  rw [show (Int32.ofInt i).toNatClampNeg = i.toNat by omega, ← mm_up_arr hi.1] at hP hD
  have hset := mm_wl_set (w' := mm_up w g j i x) hR.2.1 hk0 (mm_ce_arr hg (by decide)).symm (fun q hq hne => mm_ce_up hq (mm_key hok) hne)
  rw [hset] at hP hD
  exact k p l e R s m args below meth c X α0 b0 A H1 locs1 cells slots α kls ⟨hC, ⟨hP, hD, mm_rg_up hR.2.2.1 hx, hR.2.2.2⟩, hA, hS, hO, hL, mm_stT (mm_stT (mm_stT hst)), hn⟩
theorem k_castore {g : Nat} {j i x : Int} {N r : Nat} (hg : mm_gk g = (3, N, r)) (hi : 0 ≤ i ∧ i < N) (hx1 : 0 ≤ x ∧ x < 65536) (hd : decode K.1.2.1 pc = .ok (.castore, 1)) (k : mm_Wk K n (pc + 1) ls st b (mm_up w g j i x) Q) : mm_Wk K n pc ls (.inl x :: .inl i :: .inr (some (g, j)) :: st) b w Q := by
  intro p l e R s m args below meth c X α0 b0 A H locs cells slots α kls ⟨hC, hR, hA, hS, hO, hL, hst, hn⟩
  have hx : mm_in x := mm_stH hst
  have hii : mm_in i := mm_stH (mm_stT hst)
  have hok := mm_stH (mm_stT (mm_stT hst))
  obtain ⟨q0, hk0, hw0⟩ := mm_pos (X := X) (α := α) (w := w) (mm_key hok)
  rw [mm_ce_arr hg (by decide)] at hw0
  obtain ⟨t0, ht0⟩ := mm_tys (X := X) (k := 3) (by decide)
  obtain ⟨h1, h2⟩ := mm_i4 hii hi.1 hi.2
  refine va_cast hC.1 hC.2.1 hC.2.2.2.2.2.2.2.1 hR.1 hR.2.1 hS q0 t0 hw0 ht0 h1 hd (fun H1 locs1 hP hD hS => ?_)
  have hnar : vp_nar .char (Int32.ofInt x) = Int32.ofInt x := by
    unfold vp_nar
    show ((Int32.ofInt x).toUInt32 % 65536).toInt32 = Int32.ofInt x
    exact mm_i2c hx1
  rw [hnar] at hP hD
  rw [show (Int32.ofInt i).toNatClampNeg = i.toNat by omega, ← mm_up_arr hi.1] at hP hD
  have hset := mm_wl_set (w' := mm_up w g j i x) hR.2.1 hk0 (mm_ce_arr hg (by decide)).symm (fun q hq hne => mm_ce_up hq (mm_key hok) hne)
  rw [hset] at hP hD
  exact k p l e R s m args below meth c X α0 b0 A H1 locs1 cells slots α kls ⟨hC, ⟨hP, hD, mm_rg_up hR.2.2.1 hx, hR.2.2.2⟩, hA, hS, hO, hL, mm_stT (mm_stT (mm_stT hst)), hn⟩
theorem k_aaload {g : Nat} {j i : Int} {N r : Nat} (hg : mm_gk g = (4, N, r)) (hi : 0 ≤ i ∧ i < N) (hd : decode K.1.2.1 pc = .ok (.aaload, 1)) (k : mm_Wk K n (pc + 1) ls (.inr (some (r, i)) :: st) b w Q) : mm_Wk K n pc ls (.inl i :: .inr (some (g, j)) :: st) b w Q := by
  intro p l e R s m args below meth c X α0 b0 A H locs cells slots α kls ⟨hC, hR, hA, hS, hO, hL, hst, hn⟩
  have hx : mm_in i := mm_stH hst
  have hok := mm_stH (mm_stT hst)
  obtain ⟨q0, hk0, hw0⟩ := mm_pos (X := X) (α := α) (w := w) (mm_key hok)
  rw [mm_ce_out hg] at hw0
  obtain ⟨h1, h2⟩ := mm_i4 hx hi.1 hi.2
  have hph := hR.2.2.2.2 g hok.1 (by rw [hg])
  rw [hg] at hph
  have hlt : (Int32.ofInt i).toNatClampNeg < N := by omega
  have hnew : mm_ok b (.inr (some (r, i))) := ⟨hph.1, hi.1, by show i < mm_nr r; rw [hph.2]; exact hi.2⟩
  refine W.aald hC.1 hC.2.1 (hR.1 q0 _ hw0) ((hC.2.2.2.2.2.2.2.1.2 3 (X.2.2.2.2, .array .int) rfl).1 N _) rfl (fun q => by cases q) (by show ¬ (_ ∨ (arrV _ _ _).slots.size ≤ _); rw [arrV_size]; exact h1) (v := .ref (α r i)) (by
      show (arrV _ _ _).slots[_]? = _
      rw [arrV_read _ _ hlt]
      show some (va_rf (if (Int32.ofInt i).toNatClampNeg < N then some (α r (((Int32.ofInt i).toNatClampNeg : Nat) : Int)) else none)) = _
      rw [if_pos hlt, h2]
      rfl) rfl rfl hd ?_
  exact k p l e R s m args below meth c X α0 b0 A H locs cells slots α kls ⟨hC, hR, hA, hS, hO, hL, mm_stC (mm_stT (mm_stT hst)) hnew, hn⟩
theorem k_arraylength {g : Nat} {j : Int} {N r : Nat} (hg : mm_gk g = (1, N, r)) (hN : N < 2147483648) (hd : decode K.1.2.1 pc = .ok (.arraylength, 1)) (k : mm_Wk K n (pc + 1) ls (.inl (N : Int) :: st) b w Q) : mm_Wk K n pc ls (.inr (some (g, j)) :: st) b w Q := by
  intro p l e R s m args below meth c X α0 b0 A H locs cells slots α kls ⟨hC, hR, hA, hS, hO, hL, hst, hn⟩
  have hok := mm_stH hst
  obtain ⟨q0, hk0, hw0⟩ := mm_pos (X := X) (α := α) (w := w) (mm_key hok)
  rw [mm_ce_arr hg (by decide)] at hw0
  obtain ⟨t0, ht0⟩ := mm_tys (X := X) (k := 1) (by decide)
  exact va_alen hC.1 hC.2.1 hC.2.2.2.2.2.2.2.1 hR.1 q0 t0 hw0 ht0 (v := Int32.ofInt (N : Int)) rfl hd (k p l e R s m args below meth c X α0 b0 A H locs cells slots α kls ⟨hC, hR, hA, hS, hO, hL, mm_stC (mm_stT hst) ⟨by omega, by omega⟩, hn⟩)
end MMR2
end
section
/-! ===== many instructions at once ===== -/
section MMR3
variable {K : mm_K} {n : Nat × Nat} {pc : Nat} {ls : List (Option mm_V)} {st : List mm_V} {b : mm_B} {w : mm_M} {Q : Option mm_V → mm_B → mm_M → Prop}
theorem mm_lnk_mem {fl : List mm_F} {i : Nat} {q : mm_F} (h : mm_lnk fl i = some q) : q ∈ fl ∧ q.1 = i := by
  induction fl with
  | nil => cases h
  | cons a r ih =>
    unfold mm_lnk at h
    split at h
    · rename_i hb
      cases h
      exact ⟨List.mem_cons_self, Nat.eq_of_beq_eq_true hb⟩
    · exact ⟨List.mem_cons_of_mem _ (ih h).1, (ih h).2⟩
theorem mm_beq {x y : Nat} (h : Nat.beq x y = true) : x = y := Nat.eq_of_beq_eq_true h
set_option maxHeartbeats 4000000 in
theorem mm_sf {i : Instr} {pc' : Nat} {a a' : Prop} {ls' : List (Option mm_V)} {st' : List mm_V} {w' : mm_M} (hd : decode K.1.2.1 pc = .ok (i, pc' - pc)) (hs : mm_small K.1.2.2.1 pc i = true) (hl : mm_il i = 0 ∨ pc' = pc + mm_il i) (hfl : ∀ q ∈ K.2.2.2.2.1, mm_fok K.1.2.2.2.2 q)
    (h : mm_st K.2.2.2.2.1 i ls st b w a = some (ls', st', w', a')) (ha : a') : a ∧ (mm_Wk K n pc' ls' st' b w' Q → mm_Wk K n pc ls st b w Q) := by
  have hlen : mm_il i ≠ 0 → pc' = pc + mm_il i := fun q => hl.resolve_left q
  have hdd : mm_il i ≠ 0 → decode K.1.2.1 pc = .ok (i, mm_il i) := fun q => by
    have := hlen q
    rw [hd, show pc' - pc = mm_il i by omega]
  unfold mm_st at h
  split at h
  · cases h; rw [hlen (Nat.succ_ne_zero _)]; exact ⟨ha, k_iconst (hdd (Nat.succ_ne_zero _)) (by have := of_decide_eq_true hs; exact ⟨by omega, by omega⟩)⟩
  · cases h; rw [hlen (Nat.succ_ne_zero _)]; exact ⟨ha, k_bipush (hdd (Nat.succ_ne_zero _)) (of_decide_eq_true hs)⟩
  · cases h; rw [hlen (Nat.succ_ne_zero _)]; exact ⟨ha, k_sipush (hdd (Nat.succ_ne_zero _)) (of_decide_eq_true hs)⟩
  · unfold mm_ldv at h
    split at h
    · split at h
      · rename_i h0 _; cases h0
      · cases h; rw [hlen (Nat.succ_ne_zero _)]; exact ⟨ha, k_iload (hdd (Nat.succ_ne_zero _)) (by assumption)⟩
      · cases h
    · cases h
  · unfold mm_ldv at h
    split at h
    · split at h
      · rename_i h0 _; cases h0
      · cases h; rw [hlen (Nat.succ_ne_zero _)]; exact ⟨ha, k_iload_n (hdd (Nat.succ_ne_zero _)) (by assumption)⟩
      · cases h
    · cases h
  · unfold mm_ldv at h
    split at h
    · split at h
      · cases h; rw [hlen (Nat.succ_ne_zero _)]; exact ⟨ha, k_aload (hdd (Nat.succ_ne_zero _)) (by assumption)⟩
      · rename_i h0 _; cases h0
      · cases h
    · cases h
  · unfold mm_ldv at h
    split at h
    · split at h
      · cases h; rw [hlen (Nat.succ_ne_zero _)]; exact ⟨ha, k_aload_n (hdd (Nat.succ_ne_zero _)) (by assumption)⟩
      · rename_i h0 _; cases h0
      · cases h
    · cases h
  · cases h; rw [hlen (Nat.succ_ne_zero _)]; exact ⟨ha, k_istore (hdd (Nat.succ_ne_zero _)) (of_decide_eq_true hs)⟩
  · cases h; rw [hlen (Nat.succ_ne_zero _)]; exact ⟨ha, k_istore_n (hdd (Nat.succ_ne_zero _)) (of_decide_eq_true hs)⟩
  · cases h; rw [hlen (Nat.succ_ne_zero _)]; exact ⟨ha, k_astore (hdd (Nat.succ_ne_zero _)) (of_decide_eq_true hs)⟩
  · cases h; rw [hlen (Nat.succ_ne_zero _)]; exact ⟨ha, k_astore_n (hdd (Nat.succ_ne_zero _)) (of_decide_eq_true hs)⟩
  · split at h
    · rename_i hq; cases h; rw [hlen (Nat.succ_ne_zero _)]; exact ⟨ha.1, k_iinc (hdd (Nat.succ_ne_zero _)) hq ha.2⟩
    · cases h
  · cases h; rw [hlen (Nat.succ_ne_zero _)]; exact ⟨ha.1, k_iadd (hdd (Nat.succ_ne_zero _)) ha.2⟩
  · cases h; rw [hlen (Nat.succ_ne_zero _)]; exact ⟨ha.1, k_isub (hdd (Nat.succ_ne_zero _)) ha.2⟩
  · cases h; rw [hlen (Nat.succ_ne_zero _)]; exact ⟨ha.1, k_imul (hdd (Nat.succ_ne_zero _)) ha.2⟩
  · cases h; rw [hlen (Nat.succ_ne_zero _)]; exact ⟨ha.1, k_idiv (hdd (Nat.succ_ne_zero _)) ha.2⟩
  · cases h; rw [hlen (Nat.succ_ne_zero _)]; exact ⟨ha.1, k_irem (hdd (Nat.succ_ne_zero _)) ha.2⟩
  · cases h; rw [hlen (Nat.succ_ne_zero _)]; exact ⟨ha, k_iand (hdd (Nat.succ_ne_zero _))⟩
  · cases h; rw [hlen (Nat.succ_ne_zero _)]; exact ⟨ha, k_ior (hdd (Nat.succ_ne_zero _))⟩
  · cases h; rw [hlen (Nat.succ_ne_zero _)]; exact ⟨ha, k_ixor (hdd (Nat.succ_ne_zero _))⟩
  · cases h; rw [hlen (Nat.succ_ne_zero _)]; exact ⟨ha, k_ishl (hdd (Nat.succ_ne_zero _))⟩
  · cases h; rw [hlen (Nat.succ_ne_zero _)]; exact ⟨ha, k_ishr (hdd (Nat.succ_ne_zero _))⟩
  · cases h; rw [hlen (Nat.succ_ne_zero _)]; exact ⟨ha.1, k_ineg (hdd (Nat.succ_ne_zero _)) ha.2⟩
  · cases h; rw [hlen (Nat.succ_ne_zero _)]; exact ⟨ha.1, k_i2c (hdd (Nat.succ_ne_zero _)) ha.2⟩
  · cases h; rw [hlen (Nat.succ_ne_zero _)]; exact ⟨ha, k_dup (hdd (Nat.succ_ne_zero _))⟩
  · cases h; rw [hlen (Nat.succ_ne_zero _)]; exact ⟨ha, k_dup2 (hdd (Nat.succ_ne_zero _))⟩
  · cases h; rw [hlen (Nat.succ_ne_zero _)]; exact ⟨ha, k_pop (hdd (Nat.succ_ne_zero _))⟩
  · unfold mm_get at h
    split at h
    · cases h
    · rename_i q1 c0 k0 t0 ki0 hq
      obtain ⟨hm, he⟩ := mm_lnk_mem hq
      have he : q1 = _ := he
      subst he
      split at h
      · rename_i hg
        split at h
        · rename_i hb1 hb2
          cases h
          rw [← mm_beq hb1] at hg
          rw [hlen (Nat.succ_ne_zero _)]
          exact ⟨ha, k_getI (hfl _ hm) hg (hdd (Nat.succ_ne_zero _)) (by rw [if_pos hb2])⟩
        · rename_i hb1 hb2
          cases h
          rw [← mm_beq hb1] at hg
          rw [hlen (Nat.succ_ne_zero _)]
          exact ⟨ha, k_getI (hfl _ hm) hg (hdd (Nat.succ_ne_zero _)) (by rw [if_neg (by rw [hb2]; decide)])⟩
        · cases h
      · cases h
  · unfold mm_put at h
    split at h
    · cases h
    · rename_i q1 c0 k0 t0 ki0 hq
      obtain ⟨hm, he⟩ := mm_lnk_mem hq
      have he : q1 = _ := he
      subst he
      split at h
      · rename_i hg
        split at h
        · rename_i hb1
          cases h
          rw [← mm_beq hb1] at hg
          rw [hlen (Nat.succ_ne_zero _)]
          exact ⟨ha, k_putI (hfl _ hm) hg (Or.inl rfl) (hdd (Nat.succ_ne_zero _))⟩
        · rename_i hb1
          cases h
          rw [← mm_beq hb1] at hg
          rw [hlen (Nat.succ_ne_zero _)]
          exact ⟨ha.1, k_putI (hfl _ hm) hg (Or.inr ⟨rfl, ha.2⟩) (hdd (Nat.succ_ne_zero _))⟩
        · cases h
      · cases h
  · unfold mm_ld at h
    split at h
    rename_i hg
    split at h
    · rename_i hb1; cases h; rw [← mm_beq hb1] at hg; rw [hlen (Nat.succ_ne_zero _)]; exact ⟨ha.1, k_iaload hg ha.2 (hdd (Nat.succ_ne_zero _))⟩
    · cases h
  · unfold mm_ld at h
    split at h
    rename_i hg
    split at h
    · rename_i hb1; cases h; rw [← mm_beq hb1] at hg; rw [hlen (Nat.succ_ne_zero _)]; exact ⟨ha.1, k_baload hg ha.2 (hdd (Nat.succ_ne_zero _))⟩
    · cases h
  · unfold mm_ld at h
    split at h
    rename_i hg
    split at h
    · rename_i hb1; cases h; rw [← mm_beq hb1] at hg; rw [hlen (Nat.succ_ne_zero _)]; exact ⟨ha.1, k_caload hg ha.2 (hdd (Nat.succ_ne_zero _))⟩
    · cases h
  · unfold mm_sto at h
    split at h
    rename_i hg
    split at h
    · rename_i hb1; cases h; rw [← mm_beq hb1] at hg; rw [hlen (Nat.succ_ne_zero _)]; exact ⟨ha.1, k_iastore hg ha.2 (hdd (Nat.succ_ne_zero _))⟩
    · cases h
  · unfold mm_sto at h
    split at h
    rename_i hg
    split at h
    · rename_i hb1; cases h; rw [← mm_beq hb1] at hg; rw [hlen (Nat.succ_ne_zero _)]; exact ⟨ha.1.1, k_bastore hg ha.1.2 ha.2 (hdd (Nat.succ_ne_zero _))⟩
    · cases h
  · unfold mm_sto at h
    split at h
    rename_i hg
    split at h
    · rename_i hb1; cases h; rw [← mm_beq hb1] at hg; rw [hlen (Nat.succ_ne_zero _)]; exact ⟨ha.1.1, k_castore hg ha.1.2 ha.2 (hdd (Nat.succ_ne_zero _))⟩
    · cases h
  · unfold mm_lda at h
    split at h
    · rename_i hg; cases h; rw [hlen (Nat.succ_ne_zero _)]; exact ⟨ha.1, k_aaload hg ha.2 (hdd (Nat.succ_ne_zero _))⟩
    · cases h
  · unfold mm_len at h
    split at h
    · rename_i hg; cases h; rw [hlen (Nat.succ_ne_zero _)]; exact ⟨ha, k_arraylength hg (by
        have hm : ∀ q ∈ mm_gl, q.2.1 < 2147483648 := by decide +kernel
        unfold mm_gk at hg
        generalize hz : mm_nth mm_gl _ = z at hg
        cases z with
        | none => cases hg
        | some q =>
          have hq : q = _ := hg
          have := hm q (mm_nth_mem hz)
          rw [hq] at this
          exact this) (hdd (Nat.succ_ne_zero _))⟩
    · cases h
  · cases h
end MMR3
end
section
/-! ===== straight on to the next branch, call, end, cut ===== -/
def mm_lk : List mm_I → Nat → List mm_I
  | [], _ => []
  | q :: r, pc => match Nat.beq q.1 pc with
    | true => q :: r
    | false => mm_lk r pc
def mm_cut : List Nat → Nat → Bool
  | [], _ => false
  | a :: r, pc => match Nat.beq a pc with
    | true => true
    | false => mm_cut r pc
abbrev mm_S : Type := Nat × List (Option mm_V) × List mm_V × mm_M × Prop
def mm_jmp (i : Instr) (pc : Nat) : Option Nat := match i with
  | .goto off => some ((pc : Int) + off).toNat
  | _ => none
/-- fuel, all instructions, cuts, links, those from here on, the place, the state -/
def mm_run (il : List mm_I) (cuts : List Nat) (fl : List mm_F) : Nat → List mm_I → Nat → List (Option mm_V) → List mm_V → mm_B → mm_M → Prop → mm_S
  | 0, _, pc, ls, st, _, w, a => (pc, ls, st, w, a)
  | _, [], pc, ls, st, _, w, a => (pc, ls, st, w, a)
  | f + 1, q :: r, pc, ls, st, b, w, a => match Nat.beq q.1 pc with
    | false => (pc, ls, st, w, a)
    | true => match mm_jmp q.2.1 q.1 with
      | some t => match mm_cut cuts t with
        | true => (t, ls, st, w, a)
        | false => mm_run il cuts fl f (mm_lk il t) t ls st b w a
      | none => match mm_st fl q.2.1 ls st b w a with
        | none => (pc, ls, st, w, a)
        | some (ls', st', w', a') => match mm_cut cuts q.2.2 with
          | true => (q.2.2, ls', st', w', a')
          | false => mm_run il cuts fl f r q.2.2 ls' st' b w' a'
section MMR4
variable {K : mm_K} {n : Nat × Nat} {pc : Nat} {ls : List (Option mm_V)} {st : List mm_V} {b : mm_B} {w : mm_M} {Q : Option mm_V → mm_B → mm_M → Prop}
theorem mm_lk_sub {il : List mm_I} {pc : Nat} : ∀ q ∈ mm_lk il pc, q ∈ il := by
  induction il with
  | nil => intro q h; cases h
  | cons a r ih =>
    intro q h
    unfold mm_lk at h
    split at h
    · exact h
    · exact List.mem_cons_of_mem _ (ih q h)
theorem k_ko (h : mm_KO K → mm_Wk K n pc ls st b w Q) : mm_Wk K n pc ls st b w Q := by
  intro p l e R s m args below meth c X α0 b0 A H locs cells slots α kls hZ
  exact h hZ.1.2.2.2.2.2.2.2.2.2.2.2.1 p l e R s m args below meth c X α0 b0 A H locs cells slots α kls hZ
theorem k_goto {off : Int} {t : Nat} (hd : decode K.1.2.1 pc = .ok (.goto off, 3)) (ht : (pc : Int) + off = (t : Int)) (k : mm_Wk K n t ls st b w Q) : mm_Wk K n pc ls st b w Q := by
  intro p l e R s m args below meth c X α0 b0 A H locs cells slots α kls hZ
  exact lv_goto hZ.1.1 hZ.1.2.1 hd ht (k p l e R s m args below meth c X α0 b0 A H locs cells slots α kls hZ)
theorem mm_run_ok (hK : mm_KO K) : ∀ (f : Nat) (su : List mm_I), (∀ q ∈ su, q ∈ K.2.2.1) → ∀ (pc : Nat) (ls : List (Option mm_V)) (st : List mm_V) (w : mm_M) (a : Prop) (pc' : Nat) (ls' : List (Option mm_V)) (st' : List mm_V) (w' : mm_M) (a' : Prop),
    mm_run K.2.2.1 K.2.2.2.1 K.2.2.2.2.1 f su pc ls st b w a = (pc', ls', st', w', a') → a' → a ∧ (mm_Wk K n pc' ls' st' b w' Q → mm_Wk K n pc ls st b w Q) := by
  intro f
  induction f with
  | zero =>
    intro su hsu pc ls st w a pc' ls' st' w' a' h ha
    unfold mm_run at h
    cases h
    exact ⟨ha, id⟩
  | succ f ih =>
    intro su hsu pc ls st w a pc' ls' st' w' a' h ha
    cases su with
    | nil =>
      unfold mm_run at h
      cases h
      exact ⟨ha, id⟩
    | cons q r =>
      unfold mm_run at h
      obtain ⟨h1, h2, h3, h4⟩ := hK.1 q (hsu q List.mem_cons_self)
      split at h
      · cases h
        exact ⟨ha, id⟩
      · rename_i hb
        have hpc : q.1 = pc := mm_beq hb
        subst hpc
        split at h
        · rename_i t hj
          have hg : ∃ off, q.2.1 = .goto off ∧ ((q.1 : Int) + off).toNat = t := by
            unfold mm_jmp at hj
            split at hj
            · rename_i off ho
              exact ⟨off, ho, Option.some.inj hj⟩
            · cases hj
          obtain ⟨off, ho, ht⟩ := hg
          rw [ho] at h1 h3 h4
          have h5 : q.2.2 = q.1 + 3 := h4.resolve_left (Nat.succ_ne_zero 2)
          have h6 : 0 ≤ (q.1 : Int) + off := of_decide_eq_true h3
          have hk : mm_Wk K n t ls st b w Q → mm_Wk K n q.1 ls st b w Q := k_goto (off := off) (by rw [h1, show q.2.2 - q.1 = 3 by omega]) (by omega)
          split at h
          · cases h
            exact ⟨ha, hk⟩
          · obtain ⟨g1, g2⟩ := ih (mm_lk K.2.2.1 t) mm_lk_sub t ls st w a pc' ls' st' w' a' h ha
            exact ⟨g1, fun z => hk (g2 z)⟩
        · split at h
          · cases h
            exact ⟨ha, id⟩
          · rename_i hst
            split at h
            · cases h
              exact mm_sf h1 h3 h4 hK.2.1 hst ha
            · obtain ⟨g1, g2⟩ := ih r (fun q hq => hsu q (List.mem_cons_of_mem _ hq)) _ _ _ _ _ _ _ _ _ _ h ha
              obtain ⟨g3, g4⟩ := mm_sf h1 h3 h4 hK.2.1 hst g1
              exact ⟨g3, fun z => g4 (g2 z)⟩
/-- on, as far as it goes straight -/
theorem k_go {pc' : Nat} {ls' : List (Option mm_V)} {st' : List mm_V} {w' : mm_M} {a' : Prop} (h : mm_run K.2.2.1 K.2.2.2.1 K.2.2.2.2.1 400 (mm_lk K.2.2.1 pc) pc ls st b w True = (pc', ls', st', w', a')) (ha : a') (k : mm_Wk K n pc' ls' st' b w' Q) : mm_Wk K n pc ls st b w Q :=
  k_ko fun hK => (mm_run_ok hK 400 _ mm_lk_sub _ _ _ _ _ _ _ _ _ _ h ha).2 k
/-! branches -/
def mm_bq (c : Jvm.ClassFile.Cond) (x y : Int) (t : Nat) (st : List mm_V) : Option (Prop × Nat × List mm_V) := match c with
  | .eq => some (x = y, t, st)
  | .ne => some (¬ x = y, t, st)
  | .lt => some (x < y, t, st)
  | .ge => some (y ≤ x, t, st)
  | .gt => some (y < x, t, st)
  | .le => some (x ≤ y, t, st)
def mm_bra (i : Instr) (pc : Nat) (st : List mm_V) : Option (Prop × Nat × List mm_V) := match i, st with
  | .if_icmp c off, .inl y :: .inl x :: st => mm_bq c x y ((pc : Int) + off).toNat st
  | .ifCond c off, .inl x :: st => mm_bq c x 0 ((pc : Int) + off).toNat st
  | .ifnull off, .inr none :: st => some (True, ((pc : Int) + off).toNat, st)
  | .ifnull off, .inr (some _) :: st => some (False, ((pc : Int) + off).toNat, st)
  | .ifnonnull off, .inr none :: st => some (False, ((pc : Int) + off).toNat, st)
  | .ifnonnull off, .inr (some _) :: st => some (True, ((pc : Int) + off).toNat, st)
  | _, _ => none
def mm_brk (il : List mm_I) (pc : Nat) (st : List mm_V) : Option (Prop × Nat × Nat × List mm_V) := match mm_lk il pc with
  | [] => none
  | q :: _ => match mm_bra q.2.1 q.1 st with
    | some (P, t, st') => some (P, t, q.2.2, st')
    | none => none
theorem mm_lk_hd {il : List mm_I} {pc : Nat} {q : mm_I} {r : List mm_I} (h : mm_lk il pc = q :: r) : q ∈ il ∧ q.1 = pc := by
  refine ⟨mm_lk_sub q (by rw [h]; exact List.mem_cons_self), ?_⟩
  induction il with
  | nil => cases h
  | cons a s ih =>
    unfold mm_lk at h
    split at h
    · rename_i hb
      cases h
      exact mm_beq hb
    · exact ih h
set_option maxHeartbeats 4000000 in
theorem mm_bra_ok {i : Instr} {P : Prop} {t pc' : Nat} {st' : List mm_V} (hd : decode K.1.2.1 pc = .ok (i, pc' - pc)) (hs : mm_small K.1.2.2.1 pc i = true) (hl : mm_il i = 0 ∨ pc' = pc + mm_il i) (h : mm_bra i pc st = some (P, t, st')) (kt : P → mm_Wk K n t ls st' b w Q) (kf : ¬ P → mm_Wk K n pc' ls st' b w Q) : mm_Wk K n pc ls st b w Q := by
  intro p l e R s m args below meth c X α0 b0 A H locs cells slots α kls ⟨hC, hR, hA, hS, hO, hL, hst, hn⟩
  have kt := fun hP hst => kt hP p l e R s m args below meth c X α0 b0 A H locs cells slots α kls ⟨hC, hR, hA, hS, hO, hL, hst, hn⟩
  have kf := fun hP hst => kf hP p l e R s m args below meth c X α0 b0 A H locs cells slots α kls ⟨hC, hR, hA, hS, hO, hL, hst, hn⟩
  have hlen : mm_il i ≠ 0 → pc' = pc + mm_il i := fun q => hl.resolve_left q
  have hdd : mm_il i ≠ 0 → decode K.1.2.1 pc = .ok (i, mm_il i) := fun q => by
    have := hlen q
    rw [hd, show pc' - pc = mm_il i by omega]
  unfold mm_bra at h
  split at h
  · rename_i c0 off y x st0
    have h6 : 0 ≤ (pc : Int) + off := of_decide_eq_true hs
    have h7 : pc' = pc + 3 := hlen (Nat.succ_ne_zero _)
    subst h7
    have h8 := hdd (Nat.succ_ne_zero _)
    have hy : mm_in y := mm_stH hst
    have hx : mm_in x := mm_stH (mm_stT hst)
    have hst2 := mm_stT (mm_stT hst)
    have ht : (pc : Int) + off = (((pc : Int) + off).toNat : Int) := by omega
    cases c0 with
    | eq => cases h; exact lv_icmp_eq hC.1 hC.2.1 h8 ht (fun q => kt ((mm_i7 hx hy).mp q) hst2) (fun q => kf (fun z => q ((mm_i7 hx hy).mpr z)) hst2)
    | ne => cases h; exact lv_icmp_ne hC.1 hC.2.1 h8 ht (fun q => kt (fun z => q ((mm_i7 hx hy).mpr z)) hst2) (fun q => kf (fun z => z ((mm_i7 hx hy).mp q)) hst2)
    | lt => cases h; exact lv_icmp_lt hC.1 hC.2.1 h8 ht (fun q => kt ((mm_i6 hx hy).mp q) hst2) (fun q => kf (fun z => q ((mm_i6 hx hy).mpr z)) hst2)
    | ge => cases h; exact lv_icmp_ge hC.1 hC.2.1 h8 ht (fun q => kt ((mm_i5 hy hx).mp q) hst2) (fun q => kf (fun z => q ((mm_i5 hy hx).mpr z)) hst2)
    | gt => cases h; exact lv_icmp_gt hC.1 hC.2.1 h8 ht (fun q => kt ((mm_i6 hy hx).mp q) hst2) (fun q => kf (fun z => q ((mm_i6 hy hx).mpr z)) hst2)
    | le => cases h; exact lv_icmp_le hC.1 hC.2.1 h8 ht (fun q => kt ((mm_i5 hx hy).mp q) hst2) (fun q => kf (fun z => q ((mm_i5 hx hy).mpr z)) hst2)
  · rename_i c0 off x st0
    have h6 : 0 ≤ (pc : Int) + off := of_decide_eq_true hs
    have h7 : pc' = pc + 3 := hlen (Nat.succ_ne_zero _)
    subst h7
    have h8 := hdd (Nat.succ_ne_zero _)
    have hx : mm_in x := mm_stH hst
    have hy : mm_in 0 := ⟨by decide, by decide⟩
    have hst2 := mm_stT hst
    have ht : (pc : Int) + off = (((pc : Int) + off).toNat : Int) := by omega
    cases c0 with
    | eq => cases h; exact lv_if_eq hC.1 hC.2.1 h8 ht (fun q => kt ((mm_i7 hx hy).mp q) hst2) (fun q => kf (fun z => q ((mm_i7 hx hy).mpr z)) hst2)
    | ne => cases h; exact lv_if_ne hC.1 hC.2.1 h8 ht (fun q => kt (fun z => q ((mm_i7 hx hy).mpr z)) hst2) (fun q => kf (fun z => z ((mm_i7 hx hy).mp q)) hst2)
    | lt => cases h; exact lv_if_lt hC.1 hC.2.1 h8 ht (fun q => kt ((mm_i6 hx hy).mp q) hst2) (fun q => kf (fun z => q ((mm_i6 hx hy).mpr z)) hst2)
    | ge => cases h; exact lv_if_ge hC.1 hC.2.1 h8 ht (fun q => kt ((mm_i5 hy hx).mp q) hst2) (fun q => kf (fun z => q ((mm_i5 hy hx).mpr z)) hst2)
    | gt => cases h; exact lv_if_gt hC.1 hC.2.1 h8 ht (fun q => kt ((mm_i6 hy hx).mp q) hst2) (fun q => kf (fun z => q ((mm_i6 hy hx).mpr z)) hst2)
    | le => cases h; exact lv_if_le hC.1 hC.2.1 h8 ht (fun q => kt ((mm_i5 hx hy).mp q) hst2) (fun q => kf (fun z => q ((mm_i5 hx hy).mpr z)) hst2)
  · cases h
    have h6 : 0 ≤ (pc : Int) + _ := of_decide_eq_true hs
    exact lv_ifnullN hC.1 hC.2.1 (hdd (Nat.succ_ne_zero _)) (by omega) (kt trivial (mm_stT hst))
  · cases h
    have h7 : pc' = pc + 3 := hlen (Nat.succ_ne_zero _)
    subst h7
    exact lv_ifnull hC.1 hC.2.1 (hdd (Nat.succ_ne_zero _)) (kf id (mm_stT hst))
  · cases h
    have h7 : pc' = pc + 3 := hlen (Nat.succ_ne_zero _)
    subst h7
    exact lv_ifnonnullN hC.1 hC.2.1 (hdd (Nat.succ_ne_zero _)) (kf id (mm_stT hst))
  · cases h
    have h6 : 0 ≤ (pc : Int) + _ := of_decide_eq_true hs
    exact lv_ifnonnull hC.1 hC.2.1 (hdd (Nat.succ_ne_zero _)) (by omega) (kt trivial (mm_stT hst))
  · cases h
/-- a branch: the way that is taken if so, the way if not -/
theorem k_br {P : Prop} {t f : Nat} {st' : List mm_V} (h : mm_brk K.2.2.1 pc st = some (P, t, f, st')) (kt : P → mm_Wk K n t ls st' b w Q) (kf : ¬ P → mm_Wk K n f ls st' b w Q) : mm_Wk K n pc ls st b w Q := by
  refine k_ko fun hK => ?_
  unfold mm_brk at h
  split at h
  · cases h
  · rename_i q r hq
    split at h
    · rename_i hb
      cases h
      obtain ⟨hm, he⟩ := mm_lk_hd hq
      obtain ⟨h1, h2, h3, h4⟩ := hK.1 q hm
      subst he
      exact mm_bra_ok h1 h3 h4 hb kt kf
    · cases h
end MMR4
end
section
/-! ===== ends, switches, calls, entries ===== -/
def mm_rtn (ret : Option FieldType) (i : Instr) (st : List mm_V) : Option (Option mm_V × Prop) := match ret, i, st with
  | none, .return_, [] => some (none, True)
  | some .int, .ireturn, [.inl x] => some (some (.inl x), True)
  | some .boolean, .ireturn, [.inl x] => some (some (.inl x), 0 ≤ x ∧ x ≤ 1)
  | some (.object _), .areturn, [.inr (some q)] => some (some (.inr (some q)), True)
  | _, _, _ => none
def mm_rtk (il : List mm_I) (ret : Option FieldType) (pc : Nat) (st : List mm_V) : Option (Option mm_V × Prop) := match mm_lk il pc with
  | [] => none
  | q :: _ => mm_rtn ret q.2.1 st
section MMR5
variable {K : mm_K} {n : Nat × Nat} {pc : Nat} {ls : List (Option mm_V)} {st : List mm_V} {b : mm_B} {w : mm_M} {Q : Option mm_V → mm_B → mm_M → Prop}
theorem k_ret {r : Option mm_V} {a : Prop} (h : mm_rtk K.2.2.1 K.1.2.2.2.1 pc st = some (r, a)) (ha : a) (hq : Q r b w) : mm_Wk K n pc ls st b w Q := by
  refine k_ko fun hK => ?_
  unfold mm_rtk at h
  split at h
  · cases h
  · rename_i q z hlk
    obtain ⟨hm, he⟩ := mm_lk_hd hlk
    obtain ⟨h1, h2, h3, h4⟩ := hK.1 q hm
    subst he
    intro p l e R s m args below meth c X α0 b0 A H locs cells slots α kls ⟨hC, hR, hA, hS, hO, hL, hst, hn⟩
    have hdd : mm_il q.2.1 = 1 → decode K.1.2.1 q.1 = .ok (q.2.1, 1) := fun z => by
      rw [z] at h4
      have h5 := h4.resolve_left (by decide)
      rw [h1, show q.2.2 - q.1 = 1 by omega]
    have hQ : (∀ v, r = some v → mm_ok b v) → ∀ t : State, t.heap = H → s.WarmedH t.vm → mm_Qc X α0 b0 A Q args s (.returned (r.map (mm_v α))) t := fun hok t ht hW =>
      ⟨⟨r, b, w, α, rfl, hq, hok, hO, by rw [ht]; exact hR, va_K.moved hW.alike hC.2.2.2.2.2.2.2.1⟩, hS.F ht⟩
    refine W.widen (k := R.cells) (n := R.slots) (by omega) (by omega) ?_
    unfold mm_rtn at h
    split at h
    · rename_i hr hi
      cases h
      rw [hi] at hdd
      exact W.vret hC.1 hC.2.1 (hC.2.2.2.1.trans hr) (hQ (fun v h => by cases h)) hS.2.2 (hdd rfl) hC.2.2.2.2.1
    · rename_i hr hi
      cases h
      rw [hi] at hdd
      exact W.iret hC.1 hC.2.1 (hC.2.2.2.1.trans hr) (hQ (fun v h => by cases h; exact mm_stH hst)) hS.2.2 (hdd rfl) hC.2.2.2.2.1
    · rename_i hr hi
      cases h
      rw [hi] at hdd
      exact W.zret hC.1 hC.2.1 (hC.2.2.2.1.trans hr) (mm_nar1 ha) (hQ (fun v h => by cases h; exact mm_stH hst)) hS.2.2 (hdd rfl) hC.2.2.2.2.1
    · rename_i hr hi
      cases h
      rw [hi] at hdd
      exact W.aret hC.1 hC.2.1 (hC.2.2.2.1.trans hr) (Or.inl ⟨_, rfl⟩) (Or.inr ⟨_, rfl⟩) (hQ (fun v h => by cases h; exact mm_stH hst)) hS.2.2 (hdd rfl) hC.2.2.2.2.1
    · cases h
/-- what is not known any more of the locals -/
def mm_lw : List (Option mm_V) → List (Option mm_V) → Prop
  | [], [] => True
  | a :: r, a' :: r' => (a' = none ∨ a' = a) ∧ mm_lw r r'
  | _, _ => False
theorem mm_lw_ok {ls ls' : List (Option mm_V)} (h : mm_lw ls ls') : ls'.length = ls.length ∧ ∀ i v, mm_nth ls' i = some (some v) → mm_nth ls i = some (some v) := by
  induction ls generalizing ls' with
  | nil =>
    cases ls' with
    | nil => exact ⟨rfl, fun i v h => h⟩
    | cons a r => exact h.elim
  | cons a r ih =>
    cases ls' with
    | nil => exact h.elim
    | cons a' r' =>
      obtain ⟨h1, h2⟩ := h
      obtain ⟨i1, i2⟩ := ih h2
      refine ⟨congrArg (· + 1) i1, fun i v hv => ?_⟩
      cases i with
      | zero =>
        rcases h1 with rfl | rfl
        · cases hv
        · exact hv
      | succ i => exact i2 i v hv
theorem k_lw {ls' : List (Option mm_V)} (h : mm_lw ls ls') (k : mm_Wk K n pc ls' st b w Q) : mm_Wk K n pc ls st b w Q := by
  intro p l e R s m args below meth c X α0 b0 A H locs cells slots α kls ⟨hC, hR, hA, hS, hO, hL, hst, hn⟩
  obtain ⟨h1, h2⟩ := mm_lw_ok h
  exact k p l e R s m args below meth c X α0 b0 A H locs cells slots α kls ⟨hC, hR, hA, hS, hO, ⟨by rw [h1]; exact hL.1, hL.2.1, hL.2.2.1, fun i v hv => hL.2.2.2 i v (h2 i v hv)⟩, hst, hn⟩
/-- the memory's numbers are ints; so is what the stack and the locals hold -/
theorem k_rg (h : mm_rg w → (∀ v ∈ st, mm_ok b v) → (∀ i v, mm_nth ls i = some (some v) → mm_ok b v) → mm_Wk K n pc ls st b w Q) : mm_Wk K n pc ls st b w Q := by
  intro p l e R s m args below meth c X α0 b0 A H locs cells slots α kls hZ
  exact h hZ.2.1.2.2.1 hZ.2.2.2.2.2.2.1 (fun i v hv => (hZ.2.2.2.2.2.1.2.2.2 i v hv).2) p l e R s m args below meth c X α0 b0 A H locs cells slots α kls hZ
theorem k_conseq {Q' : Option mm_V → mm_B → mm_M → Prop} (k : mm_Wk K n pc ls st b w Q') (h : ∀ r b' w', Q' r b' w' → Q r b' w') : mm_Wk K n pc ls st b w Q := by
  intro p l e R s m args below meth c X α0 b0 A H locs cells slots α kls hZ T hT X9
  obtain ⟨t, a1, o, b1, b2, ⟨⟨r, b', w', α', q1, q2, q3⟩, q4⟩, b4⟩ := k p l e R s m args below meth c X α0 b0 A H locs cells slots α kls hZ T hT X9
  exact ⟨t, a1, o, b1, b2, ⟨⟨r, b', w', α', q1, h _ _ _ q2, q3⟩, q4⟩, b4⟩
end MMR5
/-! calls -/
def mm_rm (K : mm_K) (n : Nat × Nat) : Room := { frames := K.2.1.1, cells := n.1, slots := n.2, locals := K.2.1.2.1 }
def mm_ws (K : mm_K) : List Cond := Cond.code K.1.1 K.1.2.1 K.1.2.2.1 K.1.2.2.2.1 :: tb_G
def mm_Pc (X : mm_X) (α : Nat → Int → Nat) (b : mm_B) (w : mm_M) (as : List mm_V) (sz : Nat) : Array Value → State → Prop :=
  va_Pc (as.map (mm_v α)) (fun U => U.heap.size = sz ∧ va_P X.1 vwCl (mm_wl X α b w) U.heap ∧ va_K X.1 vwCl (mm_ty X) U ∧ va_D (fun _ => True) (mm_wl X α b w) ∧ mm_rg w ∧ mm_ph b ∧ (∀ v ∈ as, mm_ok b v) ∧ mm_E U)
/-- the method's word is in the tables -/
def mm_MO (K : mm_K) : Prop := Cond.code K.1.1 K.1.2.1 K.1.2.2.1 K.1.2.2.2.1 ∈ tb_G ∧ (∀ r : vw_C, vwCl[K.2.1.2.2]? = some r → r.1 = K.1.1.cls) ∧ plainName K.1.1.cls = true ∧ K.1.1.cls = K.1.2.2.2.2
/-- a call of the method ends, with an answer and a memory that are in Q -/
def mm_Ev (K : mm_K) (n : Nat × Nat) (as : List mm_V) (b : mm_B) (w : mm_M) (Q : Option mm_V → mm_B → mm_M → Prop) : Prop :=
  mm_MO K ∧ ∀ (l : Launch) (X : mm_X) (α : Nat → Int → Nat) (sz : Nat), Met l K.1.1 (mm_ws K) (mm_rm K n) (mm_Pc X α b w as sz) (mm_Qc X α b (va_A (mm_wl X α b w) sz) Q) n.1 n.2 (va_A (mm_wl X α b w) sz)
theorem mm_good (K : mm_K) (h : mm_MO K) : GoodIn tb_G (mm_ws K) := by
  have hg : ∀ w ∈ tb_G, (w.onTables && w.keeps) = true ∨ ∃ ty, w = .arrayClass ty := fun w hw => by
    have h2 : goodWord w = true := (List.mem_filter.mp hw).2
    exact good_of_word h2
  intro w hw
  rcases List.mem_cons.mp hw with rfl | hw
  · exact ⟨h.1, hg _ h.1⟩
  · exact ⟨hw, hg w hw⟩
theorem mm_blind {X : mm_X} {α : Nat → Int → Nat} {b : mm_B} {w : mm_M} {as : List mm_V} {sz : Nat} : FrameBlind (mm_Pc X α b w as sz) := by
  intro a U g mk q
  obtain ⟨q0, q1, qP, qK, qD, q2, q3, q4, qE⟩ := q
  exact ⟨q0, q1, qP, va_K.moved (u := U) (U := U.calling g mk a) (Vm.Alike.refl U.vm) qK, qD, q2, q3, q4, mm_E.same (u := U) (U := U.calling g mk a) rfl qE⟩
theorem mm_after {p : Program} {l : Launch} {e : Env} {R : Room} {s : State} {m : MethodId} {args : Array Value} {below : List Frame} {meth : Method} {c : Code} {H : Heap} {locs : List Loc} {cells slots mc ms pc : Nat} {ls : Array Slot} {st0 rest : List Value} {X : mm_X} {α : Nat → Int → Nat} {b : mm_B} {A0 A1 free : Nat → Prop} {H0 : Heap} {Qq : State → Prop} {Q : Option mm_V → mm_B → mm_M → Prop} {a : Array Value}
    (hr : va_Run p l e R s m args below meth c H locs cells slots mc ms (F0 m pc ls st0) rest (mm_Qc X α b A1 Q a) free) (hS : va_S A0 H0 H locs) (hA : ∀ q, q < H.size → A1 q → A0 q) (hf : ∀ q, free q → A0 q)
    (kk : ∀ (r : Option mm_V) (b' : mm_B) (w' : mm_M) (α' : Nat → Int → Nat) (H1 : Heap) (locs1 : List Loc), Q r b' w' → (∀ v, r = some v → mm_ok b' v) → mm_old b b' α α' → mm_Rp X α' b' w' H1 A1 → va_S A0 H0 H1 locs1 → W p l e R s m args below meth c H1 locs1 (cells + mc) (slots + ms) Qq (F0 m (pc + 3) ls ((r.map (mm_v α')).toList ++ rest))) : W p l e R s m args below meth c H locs cells slots Qq (F0 m pc ls st0) := by
  intro T hT X9
  obtain ⟨v, st₀, t, T', L, h0, X', hL, e1, e2, ⟨⟨r, b', w', α', hv, hq, hok, hold, hRp, -⟩, hz, hk⟩, st⟩ := hr T hT X9
  cases hv
  rw [h0] at hz hk
  obtain ⟨t2, a1, b1⟩ := kk r b' w' α' T'.heap (locs ++ L) hq hok hold (by rw [e1]; exact hRp)
    ⟨Nat.le_trans hS.1 (by rw [e1]; exact hz), fun q h1 h2 => by rw [e1, hk q (Nat.lt_of_lt_of_le h1 hS.1) (fun z => h2 (hA q (Nat.lt_of_lt_of_le h1 hS.1) z))]; exact hS.2.1 q h1 h2, fun q hq => by
      rcases List.mem_append.mp hq with h | h
      · exact hS.2.2 q h
      · exact hf _ (hL q h)⟩ T' rfl X'
  exact ⟨t2, st t2 a1, b1⟩
def mm_pu (r : Option mm_V) (st : List mm_V) : List mm_V := match r with
  | none => st
  | some v => v :: st
def mm_pop : Nat → List mm_V → List mm_V → Option (List mm_V × List mm_V)
  | 0, as, st => some (as, st)
  | k + 1, as, v :: st => mm_pop k (v :: as) st
  | _ + 1, _, [] => none
def mm_mlk : List (Nat × Nat × Nat × MethodName) → Nat → Option (Nat × Nat × Nat × MethodName)
  | [], _ => none
  | q :: r, i => match Nat.beq q.1 i with
    | true => some q
    | false => mm_mlk r i
/-- kind, name, arguments, rest of the stack, the place behind -/
def mm_clk (il : List mm_I) (ml : List (Nat × Nat × Nat × MethodName)) (pc : Nat) (st : List mm_V) : Option (Nat × MethodName × List mm_V × List mm_V × Nat) := match mm_lk il pc with
  | [] => none
  | q :: _ => match q.2.1 with
    | .invokevirtual i => match mm_mlk ml i with
      | some (_, 0, np, y) => match mm_pop (np + 1) [] st with
        | some (as, st') => some (0, y, as, st', q.2.2)
        | none => none
      | _ => none
    | .invokestatic i => match mm_mlk ml i with
      | some (_, 1, np, y) => match mm_pop np [] st with
        | some (as, st') => some (1, y, as, st', q.2.2)
        | none => none
      | _ => none
    | .invokespecial i => match mm_mlk ml i with
      | some (_, 2, np, y) => match mm_pop (np + 1) [] st with
        | some (as, st') => some (2, y, as, st', q.2.2)
        | none => none
      | some (_, 3, np, y) => match mm_pop (np + 1) [] st with
        | some (as, st') => some (3, y, as, st', q.2.2)
        | none => none
      | _ => none
    | _ => none
end
section
/-! ===== a call, an entry ===== -/
def mm_rcv (kind : Nat) (as : List mm_V) (cn : Nat) : Bool := match kind, as with
  | 1, _ => true
  | 0, .inr (some (g, _)) :: _ => match mm_gk g with
    | (0, c, _) => Nat.beq c cn
    | _ => false
  | 2, .inr (some _) :: _ => true
  | 3, .inr (some _) :: _ => true
  | _, _ => false
def mm_rok (K K' : mm_K) (st : List mm_V) : Bool := Nat.ble (K'.2.1.1 + 1) K.2.1.1 && Nat.ble (8 + (K'.1.2.2.1 + 11) + K'.2.1.2.1) K.2.1.2.1 && Nat.ble st.length 8
theorem mm_pop_ok : ∀ (k : Nat) (acc st as st' : List mm_V), mm_pop k acc st = some (as, st') → acc.reverse ++ st = as.reverse ++ st' ∧ as.length = k + acc.length := by
  intro k
  induction k with
  | zero =>
    intro acc st as st' h
    cases h
    exact ⟨rfl, by omega⟩
  | succ k ih =>
    intro acc st as st' h
    cases st with
    | nil => cases h
    | cons v st =>
      obtain ⟨h1, h2⟩ := ih (v :: acc) st as st' h
      refine ⟨?_, by rw [h2]; simp; omega⟩
      rw [← h1]
      simp
theorem mm_mlk_mem {ml : List (Nat × Nat × Nat × MethodName)} {i : Nat} {q : Nat × Nat × Nat × MethodName} (h : mm_mlk ml i = some q) : q ∈ ml ∧ q.1 = i := by
  induction ml with
  | nil => cases h
  | cons a r ih =>
    unfold mm_mlk at h
    split at h
    · rename_i hb
      cases h
      exact ⟨List.mem_cons_self, mm_beq hb⟩
    · exact ⟨List.mem_cons_of_mem _ (ih h).1, (ih h).2⟩
theorem mm_sum (α : Nat → Int → Nat) (st : List mm_V) : ((st.map (mm_v α)).map fun v => v.category).sum = st.length := by
  induction st with
  | nil => rfl
  | cons v r ih =>
    show (mm_v α v).category + _ = _
    rw [mm_cat]
    show 1 + ((r.map (mm_v α)).map fun v => v.category).sum = _
    rw [ih]
    simp
    omega
theorem mm_oldL {b b' : mm_B} {α α' : Nat → Int → Nat} (h : mm_old b b' α α') {v : mm_V} (hv : mm_ok b v) : mm_ok b' v ∧ mm_v α' v = mm_v α v := by
  rcases v with x | r
  · exact ⟨hv, rfl⟩
  · cases r with
    | none => exact ⟨trivial, rfl⟩
    | some q =>
      obtain ⟨h1, h2⟩ := h q.1 hv.1
      exact ⟨⟨h1, hv.2⟩, by show Value.ref _ = Value.ref _; rw [h2]⟩
theorem mm_rcv0 {as : List mm_V} {cn : Nat} (h : mm_rcv 0 as cn = true) : ∃ (g : Nat) (j : Int) (r : List mm_V) (N : Nat), as = .inr (some (g, j)) :: r ∧ mm_gk g = (0, cn, N) := by
  match as, h with
  | .inr (some (g, j)) :: r, h =>
    have h : (match mm_gk g with
      | (0, c, _) => Nat.beq c cn
      | _ => false) = true := h
    split at h
    · rename_i c N hg
      rw [mm_beq h] at hg
      exact ⟨g, j, r, N, rfl, hg⟩
    · cases h
theorem mm_rcv2 {kind : Nat} {as : List mm_V} {cn : Nat} (hk : kind = 2 ∨ kind = 3) (h : mm_rcv kind as cn = true) : ∃ (g : Nat) (j : Int) (r : List mm_V), as = .inr (some (g, j)) :: r := by
  rcases hk with rfl | rfl
  · match as, h with
    | .inr (some (g, j)) :: r, h => exact ⟨g, j, r, rfl⟩
  · match as, h with
    | .inr (some (g, j)) :: r, h => exact ⟨g, j, r, rfl⟩
section MMR6
variable {K K' : mm_K} {n : Nat × Nat} {pc : Nat} {ls : List (Option mm_V)} {st : List mm_V} {b : mm_B} {w : mm_M} {Q : Option mm_V → mm_B → mm_M → Prop}
theorem mm_call_tail {n1 n' : Nat × Nat} {pc' : Nat} {st' : List mm_V} {Q1 : Option mm_V → mm_B → mm_M → Prop} (hpc : pc' = pc + 3) (hn1 : n.1 = n1.1 + n'.1 ∧ n.2 = n1.2 + n'.2) (hst' : ∀ v ∈ st', v ∈ st) (hQ : ∀ r b' w', Q1 r b' w' → mm_Wk K n1 pc' ls (mm_pu r st') b' w' Q)
    {p : Program} {l : Launch} {e : Env} {R : Room} {s : State} {m : MethodId} {args : Array Value} {below : List Frame} {meth : Method} {c : Code} {X : mm_X} {α0 : Nat → Int → Nat} {b0 : mm_B} {A : Nat → Prop} {H : Heap} {locs : List Loc} {cells slots : Nat} {α : Nat → Int → Nat} {kls : Array Slot} {a : Array Value}
    (hZ : mm_Z K n ls st b w p R s m args meth c X α0 b0 A H locs cells slots α kls) (hr : va_Run p l e R s m args below meth c H locs cells slots n'.1 n'.2 (F0 m pc kls (st.map (mm_v α))) (st'.map (mm_v α)) (mm_Qc X α b (va_A (mm_wl X α b w) H.size) Q1 a) (va_A (mm_wl X α b w) H.size)) :
    W p l e R s m args below meth c H locs cells slots (MQ below (mm_Qc X α0 b0 A Q) args s R.cells R.slots A) (F0 m pc kls (st.map (mm_v α))) := by
  obtain ⟨hC, hR, hA, hS, hO, hL, hst, hn⟩ := hZ
  have hA1 : ∀ q, va_A (mm_wl X α b w) H.size q → A q := fun q hq => by
    rcases hq with ⟨k, e, hk⟩ | hq
    · exact hR.2.1.2 k _ hk
    · exact hA q (Nat.le_trans hS.1 hq)
  refine mm_after hr hS (fun q _ h => hA1 q h) hA1 ?_
  intro r b' w' α' H1 locs1 hq1 hok hold hRp hS1
  have hk := hQ r b' w' hq1 p l e R s m args below meth c X α0 b0 A H1 locs1 (cells + n'.1) (slots + n'.2) α' kls ⟨hC, ⟨hRp.1, hRp.2.1.weaken (fun _ _ _ h => hA1 _ h), hRp.2.2⟩, hA, hS1, ?_, ?_, ?_, by omega, by omega⟩
  · have e1 : (r.map (mm_v α')).toList ++ st'.map (mm_v α) = (mm_pu r st').map (mm_v α') := by
      have e2 : st'.map (mm_v α) = st'.map (mm_v α') := List.map_congr_left fun v hv => ((mm_oldL hold (hst v (hst' v hv))).2).symm
      cases r with
      | none => exact e2
      | some v => show _ :: _ = _ :: _; rw [e2]; rfl
    rw [e1, ← hpc]
    exact hk
  · intro g hg
    obtain ⟨h1, h2⟩ := hO g hg
    obtain ⟨h3, h4⟩ := hold g h1
    exact ⟨h3, fun j => (h4 j).trans (h2 j)⟩
  · refine ⟨hL.1, hL.2.1, hL.2.2.1, fun i v hv => ?_⟩
    obtain ⟨h1, h2⟩ := hL.2.2.2 i v hv
    obtain ⟨h3, h4⟩ := mm_oldL hold h2
    exact ⟨by rw [h4]; exact h1, h3⟩
  · intro v hv
    cases r with
    | none => exact (mm_oldL hold (hst v (hst' v hv))).1
    | some u =>
      rcases List.mem_cons.mp hv with rfl | hv
      · exact hok v rfl
      · exact (mm_oldL hold (hst v (hst' v hv))).1
/-- a call of a method whose contract is known -/
theorem k_call {n1 n' : Nat × Nat} {kind pc' : Nat} {y : MethodName} {as st' : List mm_V} {Q1 : Option mm_V → mm_B → mm_M → Prop} (h : mm_clk K.2.2.1 K.2.2.2.2.2 pc st = some (kind, y, as, st', pc')) (hE : mm_Ev K' n' as b w Q1) (hy : y = K'.1.1) (hrk : mm_rok K K' st' = true) (hrv : mm_rcv kind as K'.2.1.2.2 = true) (hret : kind = 2 ∨ kind = 3 → K'.1.2.2.2.1 = none)
    (hn1 : n.1 = n1.1 + n'.1 ∧ n.2 = n1.2 + n'.2) (hQ : ∀ r b' w', Q1 r b' w' → mm_Wk K n1 pc' ls (mm_pu r st') b' w' Q) : mm_Wk K n pc ls st b w Q := by
  refine k_ko fun hK => ?_
  subst hy
  intro p l e R s m args below meth c X α0 b0 A H locs cells slots α kls hZ
  have hZ' := hZ
  obtain ⟨hC, hR, hA, hS, hO, hL, hst, hn⟩ := hZ'
  obtain ⟨hMO, hM⟩ := hE
  have hM := hM l X α H.size
  unfold mm_rok at hrk
  simp only [Bool.and_eq_true] at hrk
  obtain ⟨⟨r1, r2⟩, r3⟩ := hrk
  have r1 := Nat.le_of_ble_eq_true r1
  have r2 := Nat.le_of_ble_eq_true r2
  have r3 := Nat.le_of_ble_eq_true r3
  have hrm : (mm_rm K' n').frames + 1 ≤ R.frames ∧ 8 + (K'.1.2.2.1 + 11) + (mm_rm K' n').locals ≤ R.locals := ⟨by rw [hC.2.2.2.2.2.2.2.2.2.1]; exact r1, by rw [hC.2.2.2.2.2.2.2.2.2.2.1]; exact r2⟩
  have hts := hC.2.2.2.2.2.2.1
  have hfit : cells + n'.1 ≤ R.cells ∧ slots + n'.2 ≤ R.slots := by omega
  have hroom : 2 * (F0 m pc kls (st.map (mm_v α))).monitorRoom + ((st'.map (mm_v α)).map fun v => v.category).sum ≤ 8 := lv_room (by rw [mm_sum]; exact r3)
  have hPc : (∀ v ∈ as, v ∈ st) → ∀ U : State, U.heap = H → s.WarmedH U.vm → mm_Pc X α b w as H.size (as.map (mm_v α)).toArray U := fun hsub U hU hW =>
    ⟨rfl, by rw [hU], by rw [hU]; exact hR.1, va_K.moved hW.alike hC.2.2.2.2.2.2.2.1, hR.2.1.weaken (fun _ _ _ _ => trivial), hR.2.2.1, hR.2.2.2, fun v hv => hst v (hsub v hv), mm_E.warm hW hC.2.2.2.2.2.2.2.2.2.2.2.2⟩
  unfold mm_clk at h
  split at h
  · cases h
  · rename_i q z hlk
    obtain ⟨hm, he⟩ := mm_lk_hd hlk
    obtain ⟨h1, h2, h3, h4⟩ := hK.1 q hm
    subst he
    have hdd : mm_il q.2.1 = 3 → decode K.1.2.1 q.1 = .ok (q.2.1, 3) ∧ q.2.2 = q.1 + 3 := fun z => by
      rw [z] at h4
      have h5 := h4.resolve_left (by decide)
      exact ⟨by rw [h1, show q.2.2 - q.1 = 3 by omega], h5⟩
    split at h
    · rename_i i hi
      rw [hi] at hdd
      obtain ⟨hd, hpc⟩ := hdd rfl
      split at h
      · rename_i i' np y' hml
        obtain ⟨hmm, hme⟩ := mm_mlk_mem hml
        have hme : i' = i := hme
        subst hme
        split at h
        · rename_i as' st'' hpop
          simp only [Option.some.injEq, Prod.mk.injEq] at h
          obtain ⟨h0, hy0, ha0, hs0, hp0⟩ := h
          subst h0 hy0 ha0 hs0 hp0
          obtain ⟨p1, p2⟩ := mm_pop_ok _ _ _ _ _ hpop
          obtain ⟨g1, g2, g3, -⟩ := hK.2.2 _ hmm
          obtain ⟨g3, g4, g5⟩ := g3 rfl
          obtain ⟨g, j, as'', N0, rfl, hg⟩ := mm_rcv0 hrv
          have p1 : st = as''.reverse ++ .inr (some (g, j)) :: st'' := by simpa using p1
          have hsub : ∀ v ∈ Sum.inr (some (g, j)) :: as'', v ∈ st := fun v hv => by
            rw [p1]
            rcases List.mem_cons.mp hv with rfl | hv
            · simp
            · simp [hv]
          have hok : mm_ok b (.inr (some (g, j))) := hst _ (hsub _ List.mem_cons_self)
          obtain ⟨q0, hk0, hw0⟩ := mm_pos (X := X) (α := α) (w := w) (mm_key hok)
          rw [mm_ce_obj hg] at hw0
          obtain ⟨r9, hr9, -⟩ := hR.1 q0 _ hw0
          have hrec := va_recv hC.2.2.2.2.2.2.2.1 hR.1 hr9 hw0
          rw [hMO.2.1 r9 hr9] at hrec
          refine mm_call_tail (a := ((Sum.inr (some (g, j)) :: as'').map (mm_v α)).toArray) hpc hn1 (fun v hv => by rw [p1]; simp [hv]) hQ hZ ?_
          exact va_runV (bytes := K'.1.2.1) (maxL := K'.1.2.2.1) (ret := K'.1.2.2.2.1) (n := np) ⟨hC.1, hC.2.1, hC.2.2.1, hC.2.2.2.2.2.1, hts⟩ hM ⟨callB_of np hts (mm_good K' hMO) rfl rfl rfl (hts _ g2) (hts _ g3) g1 hrm, hts _ g4, hts _ g5⟩ ⟨mm_blind, hrec, hPc hsub⟩ rfl (by simp at p2; simp; omega) hL.2.1 (by show st.map (mm_v α) = _; rw [p1]; simp; rfl) hroom hd hfit
        · cases h
      · cases h
    · rename_i i hi
      rw [hi] at hdd
      obtain ⟨hd, hpc⟩ := hdd rfl
      split at h
      · rename_i i' np y' hml
        obtain ⟨hmm, hme⟩ := mm_mlk_mem hml
        have hme : i' = i := hme
        subst hme
        split at h
        · rename_i as' st'' hpop
          simp only [Option.some.injEq, Prod.mk.injEq] at h
          obtain ⟨h0, hy0, ha0, hs0, hp0⟩ := h
          subst h0 hy0 ha0 hs0 hp0
          obtain ⟨p1, p2⟩ := mm_pop_ok _ _ _ _ _ hpop
          obtain ⟨g1, g2, -, g3, -⟩ := hK.2.2 _ hmm
          obtain ⟨g3, g4⟩ := g3 rfl
          have p1 : st = as'.reverse ++ st'' := by simpa using p1
          have hsub : ∀ v ∈ as', v ∈ st := fun v hv => by rw [p1]; simp [hv]
          refine mm_call_tail (a := (as'.map (mm_v α)).toArray) hpc hn1 (fun v hv => by rw [p1]; simp [hv]) hQ hZ ?_
          exact va_runS (bytes := K'.1.2.1) (maxL := K'.1.2.2.1) (ret := K'.1.2.2.2.1) (n := np) ⟨hC.1, hC.2.1, hC.2.2.1, hC.2.2.2.2.2.1, hts⟩ hM ⟨callB_of np hts (mm_good K' hMO) rfl rfl rfl (hts _ g2) (hts _ g3) g1 hrm, hts _ g4⟩ ⟨mm_blind, hPc hsub⟩ rfl (by simp at p2; simp; omega) hL.2.1 (by show st.map (mm_v α) = _; rw [p1]; simp) hroom hd hfit
        · cases h
      · cases h
    · rename_i i hi
      rw [hi] at hdd
      obtain ⟨hd, hpc⟩ := hdd rfl
      split at h
      · rename_i i' np y' hml
        obtain ⟨hmm, hme⟩ := mm_mlk_mem hml
        have hme : i' = i := hme
        subst hme
        split at h
        · rename_i as' st'' hpop
          simp only [Option.some.injEq, Prod.mk.injEq] at h
          obtain ⟨h0, hy0, ha0, hs0, hp0⟩ := h
          subst h0 hy0 ha0 hs0 hp0
          obtain ⟨p1, p2⟩ := mm_pop_ok _ _ _ _ _ hpop
          obtain ⟨g1, g2, -, -, g3, -⟩ := hK.2.2 _ hmm
          obtain ⟨g3, g4, g5⟩ := g3 rfl
          obtain ⟨g, j, as'', rfl⟩ := mm_rcv2 (by decide) hrv
          have p1 : st = as''.reverse ++ .inr (some (g, j)) :: st'' := by simpa using p1
          have hsub : ∀ v ∈ Sum.inr (some (g, j)) :: as'', v ∈ st := fun v hv => by
            rw [p1]
            rcases List.mem_cons.mp hv with rfl | hv
            · simp
            · simp [hv]
          have hno := hret (by decide)
          refine mm_call_tail (a := ((Sum.inr (some (g, j)) :: as'').map (mm_v α)).toArray) hpc hn1 (fun v hv => by rw [p1]; simp [hv]) hQ hZ ?_
          exact va_runI (bytes := K'.1.2.1) (maxL := K'.1.2.2.1) (n := np) ⟨hC.1, hC.2.1, hC.2.2.1, hC.2.2.2.2.2.1, hts⟩ hM ⟨callB_of np hts (mm_good K' hMO) (by unfold mm_ws; rw [hno]) rfl rfl (hts _ g2) (hts _ g3) g1 hrm, g5, hts _ g4⟩ ⟨mm_blind, hPc hsub⟩ rfl (by simp at p2; simp; omega) hL.2.1 (by show st.map (mm_v α) = _; rw [p1]; simp; rfl) hroom hd hfit
        · cases h
      · rename_i i' np y' hml
        obtain ⟨hmm, hme⟩ := mm_mlk_mem hml
        have hme : i' = i := hme
        subst hme
        split at h
        · rename_i as' st'' hpop
          simp only [Option.some.injEq, Prod.mk.injEq] at h
          obtain ⟨h0, hy0, ha0, hs0, hp0⟩ := h
          subst h0 hy0 ha0 hs0 hp0
          obtain ⟨p1, p2⟩ := mm_pop_ok _ _ _ _ _ hpop
          obtain ⟨g1, g2, -, -, -, g3⟩ := hK.2.2 _ hmm
          obtain ⟨g3, g4, g5⟩ := g3 rfl
          obtain ⟨g, j, as'', rfl⟩ := mm_rcv2 (by decide) hrv
          have p1 : st = as''.reverse ++ .inr (some (g, j)) :: st'' := by simpa using p1
          have hsub : ∀ v ∈ Sum.inr (some (g, j)) :: as'', v ∈ st := fun v hv => by
            rw [p1]
            rcases List.mem_cons.mp hv with rfl | hv
            · simp
            · simp [hv]
          have hno := hret (by decide)
          refine mm_call_tail (a := ((Sum.inr (some (g, j)) :: as'').map (mm_v α)).toArray) hpc hn1 (fun v hv => by rw [p1]; simp [hv]) hQ hZ ?_
          exact va_runIN (bytes := K'.1.2.1) (maxL := K'.1.2.2.1) (n := np) ⟨hC.1, hC.2.1, hC.2.2.1, hC.2.2.2.2.2.1, hts⟩ hM ⟨va_cnB np hts (mm_good K' hMO) (by unfold mm_ws; rw [hno]) rfl rfl (hC.2.2.2.2.2.2.2.2.2.2.2.2.1 _ g3) (hts _ g2) g1 hrm, g5, hts _ g4⟩ ⟨mm_blind, hPc hsub⟩ rfl (by simp at p2; simp; omega) hL.2.1 (by show st.map (mm_v α) = _; rw [p1]; simp; rfl) hroom hd hfit
        · cases h
      · cases h
    · cases h
theorem k_call0 {kind pc' : Nat} {y : MethodName} {as st' : List mm_V} {Q1 : Option mm_V → mm_B → mm_M → Prop} (h : mm_clk K.2.2.1 K.2.2.2.2.2 pc st = some (kind, y, as, st', pc')) (hE : mm_Ev K' (0, 0) as b w Q1) (hy : y = K'.1.1) (hrk : mm_rok K K' st' = true) (hrv : mm_rcv kind as K'.2.1.2.2 = true) (hret : kind = 2 ∨ kind = 3 → K'.1.2.2.2.1 = none)
    (hQ : ∀ r b' w', Q1 r b' w' → mm_Wk K n pc' ls (mm_pu r st') b' w' Q) : mm_Wk K n pc ls st b w Q := k_call h hE hy hrk hrv hret ⟨rfl, rfl⟩ hQ
/-- the one answer, phase and memory -/
def mm_pe (r : Option mm_V) (b : mm_B) (w : mm_M) : Option mm_V → mm_B → mm_M → Prop := fun a b' w' => a = r ∧ b' = b ∧ w' = w
theorem k_callp {kind pc' : Nat} {y : MethodName} {as st' : List mm_V} {r : Option mm_V} {b1 : mm_B} {w1 : mm_M} (h : mm_clk K.2.2.1 K.2.2.2.2.2 pc st = some (kind, y, as, st', pc')) (hE : mm_Ev K' (0, 0) as b w (mm_pe r b1 w1)) (hy : y = K'.1.1) (hrk : mm_rok K K' st' = true) (hrv : mm_rcv kind as K'.2.1.2.2 = true) (hret : kind = 2 ∨ kind = 3 → K'.1.2.2.2.1 = none)
    (k : mm_Wk K n pc' ls (mm_pu r st') b1 w1 Q) : mm_Wk K n pc ls st b w Q := k_call0 h hE hy hrk hrv hret (fun _ _ _ q => by obtain ⟨rfl, rfl, rfl⟩ := q; exact k)
def mm_ent (as : List mm_V) (nL : Nat) : List (Option mm_V) := as.map some ++ List.replicate (nL - as.length) none
theorem mm_nth_get {α : Type} (l : List α) (i : Nat) : mm_nth l i = l[i]? := by
  induction l generalizing i with
  | nil => simp [mm_nth]
  | cons a r ih =>
    cases i with
    | zero => rfl
    | succ i => simpa [mm_nth] using ih i
theorem mm_lva (vs : List Value) (h : ∀ v ∈ vs, v.category = 1) : ∀ (k i : Nat) (v : Value), vs[i]? = some v → (k + i, v) ∈ lv_args k vs := by
  induction vs with
  | nil => intro k i v hv; simp at hv
  | cons a r ih =>
    intro k i v hv
    unfold lv_args
    cases i with
    | zero => simp at hv; subst hv; exact List.mem_cons_self
    | succ i =>
      have ha : ¬ a.category = 2 := by rw [h a List.mem_cons_self]; decide
      rw [if_neg ha]
      have := ih (fun v hv => h v (List.mem_cons_of_mem _ hv)) (k + 1) i v (by simpa using hv)
      rw [show k + 1 + i = k + (i + 1) by omega] at this
      exact List.mem_cons_of_mem _ this
theorem mm_lgl (vs : List Value) (h : ∀ v ∈ vs, v.category = 1) : (lg_sl vs).length = vs.length := by
  induction vs with
  | nil => rfl
  | cons a r ih =>
    have ha : ¬ a.category = 2 := by rw [h a List.mem_cons_self]; decide
    have := ih (fun v hv => h v (List.mem_cons_of_mem _ hv))
    simp only [lg_sl] at this
    simp [lg_sl, ha, this]
/-- a contract, out of the walk of the body -/
theorem ev_intro {as : List mm_V} (hKO : mm_KO K) (hMO : mm_MO K) (hlen : as.length ≤ K.1.2.2.1) (k : mm_rg w → (∀ v ∈ as, mm_ok b v) → mm_Wk K n 0 (mm_ent as K.1.2.2.1) [] b w Q) : mm_Ev K n as b w Q := by
  refine ⟨hMO, fun l X α sz => ?_⟩
  refine Met.ofW (cc := K.1.2.1) (maxL := K.1.2.2.1) (ret := K.1.2.2.2.1) hMO.2.2.1 rfl ?_
  intro p e s m args below meth c s₁ B hml hv
  obtain ⟨rfl, hsz, hP, hKk, hD0, hrg, hph, has, hEE⟩ := hv
  have hts := atoms_spec (ws := mm_ws K) B.pre
  have hown : s.vm.findClass K.1.1.cls = some m.cls := findClass_of_methodNamed B.named
  rw [hMO.2.2.2] at hown
  subst hsz
  have hcat : ∀ v ∈ as.map (mm_v α), v.category = 1 := fun v hv => by
    obtain ⟨u, -, rfl⟩ := List.mem_map.mp hv
    exact mm_cat α u
  have hl := lv_entry (as.map (mm_v α)) (n := K.1.2.2.1) (by rw [mm_lgl _ hcat, List.length_map]; exact hlen)
  rw [lg_entry_eq]
  refine k hrg has p l e _ s m _ below meth c X α b (va_A (mm_wl X α b w) s.heap.size) s.heap [] 0 0 α _ ⟨⟨B.exec, B.bytes, hml, B.returns, B.notSynchronized, hown, fun w hw => hts w (List.mem_cons_of_mem _ hw), hKk, (name_of_methodNamed B.named B.method).1, rfl, rfl, hKO, hEE⟩, ⟨hP, hD0.self, hrg, hph⟩, fun q h => Or.inr h, va_S.rf, fun g hg => ⟨hg, fun j => rfl⟩, ⟨?_, hl.1, hl.2.1, ?_⟩, fun v hv => (by cases hv), Nat.le_of_eq (Nat.zero_add _), Nat.le_of_eq (Nat.zero_add _)⟩
  · unfold mm_ent
    simp
    omega
  · intro i v hv
    have hv2 : as[i]? = some v := by
      unfold mm_ent at hv
      rw [mm_nth_get] at hv
      by_cases hi : i < as.length
      · rw [List.getElem?_append_left (by simpa using hi), List.getElem?_map] at hv
        cases h9 : as[i]? with
        | none => rw [h9] at hv; cases hv
        | some u => rw [h9] at hv; cases hv; rfl
      · rw [List.getElem?_append_right (by simp; omega)] at hv
        have := List.mem_of_getElem? hv
        have := (List.mem_replicate.mp this).2
        cases this
    refine ⟨?_, has v (List.mem_of_getElem? hv2)⟩
    have := mm_lva (as.map (mm_v α)) hcat 0 i (mm_v α v) (by rw [List.getElem?_map, hv2]; rfl)
    rw [Nat.zero_add] at this
    exact hl.2.2 _ this
theorem ev_conseq {as : List mm_V} {Q' : Option mm_V → mm_B → mm_M → Prop} (h : mm_Ev K n as b w Q') (hq : ∀ r b' w', Q' r b' w' → Q r b' w') : mm_Ev K n as b w Q := by
  refine ⟨h.1, fun l X α sz => ?_⟩
  intro p e ha hc hk s m args below hf happ hP hT
  obtain ⟨t, o, a1, b1, b2, ⟨⟨⟨r, b', w', α', q1, q2, q3⟩, q4⟩, b4⟩⟩ := h.2 l X α sz p e ha hc hk s m args below hf happ hP hT
  exact ⟨t, o, a1, b1, b2, ⟨⟨⟨r, b', w', α', q1, hq _ _ _ q2, q3⟩, q4⟩, b4⟩⟩
end MMR6
end
section
def il_J6_bitCount : List mm_I := [(0, .iload_n 0, 1), (1, .iload_n 0, 2), (2, .iconst 1, 3), (3, .iushr, 4), (4, .ldc_w 265, 7), (7, .iand, 8), (8, .isub, 9), (9, .istore_n 0, 10), (10, .iload_n 0, 11), (11, .ldc_w 266, 14), (14, .iand, 15), (15, .iload_n 0, 16), (16, .iconst 2, 17), (17, .iushr, 18), (18, .ldc_w 266, 21), (21, .iand, 22), (22, .iadd, 23), (23, .istore_n 0, 24), (24, .iload_n 0, 25), (25, .iload_n 0, 26), (26, .iconst 4, 27), (27, .iushr, 28), (28, .iadd, 29), (29, .ldc_w 267, 32), (32, .iand, 33), (33, .istore_n 0, 34), (34, .iload_n 0, 35), (35, .iload_n 0, 36), (36, .bipush 8, 38), (38, .iushr, 39), (39, .iadd, 40), (40, .istore_n 0, 41), (41, .iload_n 0, 42), (42, .iload_n 0, 43), (43, .bipush 16, 45), (45, .iushr, 46), (46, .iadd, 47), (47, .istore_n 0, 48), (48, .iload_n 0, 49), (49, .bipush 63, 51), (51, .iand, 52), (52, .ireturn, 53)]
def K_J6_bitCount : mm_K := ((yJ6_bitCount_0f7a4, cJ6_bitCount_0f7a4, 1, (some .int), RJ6), (0, 0, 99), (il_J6_bitCount, [], [], []))
set_option maxRecDepth 100000 in
theorem ok_J6_bitCount : mm_KO K_J6_bitCount := ⟨by decide +kernel, (fun _ h => absurd h List.not_mem_nil), (fun _ h => absurd h List.not_mem_nil)⟩
theorem mo_J6_bitCount : mm_MO K_J6_bitCount := ⟨tb_in 644 (by decide +kernel) (by decide +kernel), (fun r h => by cases h), by decide +kernel, rfl⟩
def il_J7_fill : List mm_I := [(0, .iconst 0, 1), (1, .istore_n 2, 2), (2, .aload_n 0, 3), (3, .arraylength, 4), (4, .istore_n 3, 5), (5, .iload_n 2, 6), (6, .iload_n 3, 7), (7, .if_icmp .ge 13, 10), (10, .aload_n 0, 11), (11, .iload_n 2, 12), (12, .iload_n 1, 13), (13, .iastore, 14), (14, .iinc 2 1, 17), (17, .goto (-12), 20), (20, .return_, 21)]
def K_J7_fill : mm_K := ((yJ7_fill_53178, cJ7_fill_53178, 4, none, RJ7), (0, 0, 99), (il_J7_fill, [5, 20], [], []))
set_option maxRecDepth 100000 in
theorem ok_J7_fill : mm_KO K_J7_fill := ⟨by decide +kernel, (fun _ h => absurd h List.not_mem_nil), (fun _ h => absurd h List.not_mem_nil)⟩
theorem mo_J7_fill : mm_MO K_J7_fill := ⟨tb_in 373 (by decide +kernel) (by decide +kernel), (fun r h => by cases h), by decide +kernel, rfl⟩
end
section
def fl_X0 : List mm_F := [(11, 0, 0, 2, 0), (16, 0, 1, 2, 1), (20, 0, 2, 0, 2), (24, 0, 3, 0, 3)]
theorem fp_X0_0 : mm_fok RX0 (11, 0, 0, 2, 0) := ⟨RX0, TX0, 4, tyX0, rfl, tb_X0, tyX0_ok, nmX0, by decide, tb_in 220 (by decide +kernel) (by decide +kernel), rfl, rfl, rfl, fun h => absurd h (by decide), fun h => absurd h (by decide)⟩
theorem fp_X0_1 : mm_fok RX0 (16, 0, 1, 2, 1) := ⟨RX0, TX0, 4, tyX0, rfl, tb_X0, tyX0_ok, nmX0, by decide, tb_in 221 (by decide +kernel) (by decide +kernel), rfl, rfl, rfl, fun h => absurd h (by decide), fun h => absurd h (by decide)⟩
theorem fp_X0_2 : mm_fok RX0 (20, 0, 2, 0, 2) := ⟨RX0, TX0, 4, tyX0, rfl, tb_X0, tyX0_ok, nmX0, by decide, tb_in 222 (by decide +kernel) (by decide +kernel), rfl, rfl, rfl, fun _ => ⟨rfl, rfl⟩, fun h => absurd h (by decide)⟩
theorem fp_X0_3 : mm_fok RX0 (24, 0, 3, 0, 3) := ⟨RX0, TX0, 4, tyX0, rfl, tb_X0, tyX0_ok, nmX0, by decide, tb_in 223 (by decide +kernel) (by decide +kernel), rfl, rfl, rfl, fun _ => ⟨rfl, rfl⟩, fun h => absurd h (by decide)⟩
theorem fq_X0 : ∀ q ∈ fl_X0, mm_fok RX0 q := List.forall_mem_cons.mpr ⟨fp_X0_0, List.forall_mem_cons.mpr ⟨fp_X0_1, List.forall_mem_cons.mpr ⟨fp_X0_2, List.forall_mem_cons.mpr ⟨fp_X0_3, fun _ h => absurd h List.not_mem_nil⟩⟩⟩⟩
def ml_X0 : List (Nat × Nat × Nat × MethodName) := [(33, 1, 2, yJ9_min_7cf53)]
theorem mp_X0_0 : mm_lok RX0 (33, 1, 2, yJ9_min_7cf53) := ⟨⟨by decide, by decide, by decide +kernel⟩, tb_in 81 (by decide +kernel) (by decide +kernel), fun h => absurd h (by decide), fun _ => ⟨tb_in 496 (by decide +kernel) (by decide +kernel), tb_in 497 (by decide +kernel) (by decide +kernel)⟩, fun h => absurd h (by decide), fun h => absurd h (by decide)⟩
theorem mq_X0 : ∀ q ∈ ml_X0, mm_lok RX0 q := List.forall_mem_cons.mpr ⟨mp_X0_0, fun _ h => absurd h List.not_mem_nil⟩
def il_X0_init : List mm_I := [(0, .aload_n 0, 1), (1, .invokespecial 3, 4), (4, .aload_n 0, 5), (5, .bipush 6, 7), (7, .bipush 8, 9), (9, .multianewarray 9 2, 13), (13, .putfield 11, 16), (16, .aload_n 0, 17), (17, .bipush 6, 19), (19, .newarray .int, 21), (21, .putfield 16, 24), (24, .return_, 25)]
def K_X0_init : mm_K := ((yX0_init, cX0_init, 1, none, RX0), (1, 20, 0), (il_X0_init, [], fl_X0, ml_X0))
set_option maxRecDepth 100000 in
theorem ok_X0_init : mm_KO K_X0_init := ⟨by decide +kernel, fq_X0, mq_X0⟩
theorem mo_X0_init : mm_MO K_X0_init := ⟨tb_in 217 (by decide +kernel) (by decide +kernel), (fun r h => by cases h; rfl), by decide +kernel, rfl⟩
def il_X0_size : List mm_I := [(0, .aload_n 0, 1), (1, .getfield 20, 4), (4, .ireturn, 5)]
def K_X0_size : mm_K := ((yX0_size, cX0_size, 1, (some .int), RX0), (0, 0, 0), (il_X0_size, [], fl_X0, ml_X0))
set_option maxRecDepth 100000 in
theorem ok_X0_size : mm_KO K_X0_size := ⟨by decide +kernel, fq_X0, mq_X0⟩
theorem mo_X0_size : mm_MO K_X0_size := ⟨tb_in 943 (by decide +kernel) (by decide +kernel), (fun r h => by cases h; rfl), by decide +kernel, rfl⟩
def il_X0_empty : List mm_I := [(0, .aload_n 0, 1), (1, .iconst 0, 2), (2, .putfield 20, 5), (5, .return_, 6)]
def K_X0_empty : mm_K := ((yX0_empty, cX0_empty, 1, none, RX0), (0, 0, 0), (il_X0_empty, [], fl_X0, ml_X0))
set_option maxRecDepth 100000 in
theorem ok_X0_empty : mm_KO K_X0_empty := ⟨by decide +kernel, fq_X0, mq_X0⟩
theorem mo_X0_empty : mm_MO K_X0_empty := ⟨tb_in 377 (by decide +kernel) (by decide +kernel), (fun r h => by cases h; rfl), by decide +kernel, rfl⟩
def il_X0_keep : List mm_I := [(0, .aload_n 1, 1), (1, .iconst 0, 2), (2, .aload_n 0, 3), (3, .getfield 11, 6), (6, .aload_n 0, 7), (7, .getfield 24, 10), (10, .aaload, 11), (11, .iconst 0, 12), (12, .bipush 8, 14), (14, .invokestatic 27, 17), (17, .aload_n 0, 18), (18, .getfield 16, 21), (21, .aload_n 0, 22), (22, .getfield 24, 25), (25, .iload_n 2, 26), (26, .iastore, 27), (27, .aload_n 0, 28), (28, .aload_n 0, 29), (29, .getfield 24, 32), (32, .iconst 1, 33), (33, .iadd, 34), (34, .bipush 6, 36), (36, .irem, 37), (37, .putfield 24, 40), (40, .aload_n 0, 41), (41, .aload_n 0, 42), (42, .getfield 20, 45), (45, .iconst 1, 46), (46, .iadd, 47), (47, .bipush 6, 49), (49, .invokestatic 33, 52), (52, .putfield 20, 55), (55, .return_, 56)]
def K_X0_keep : mm_K := ((yX0_keep, cX0_keep, 3, none, RX0), (1, 24, 0), (il_X0_keep, [], fl_X0, ml_X0))
set_option maxRecDepth 100000 in
theorem ok_X0_keep : mm_KO K_X0_keep := ⟨by decide +kernel, fq_X0, mq_X0⟩
theorem mo_X0_keep : mm_MO K_X0_keep := ⟨tb_in 494 (by decide +kernel) (by decide +kernel), (fun r h => by cases h; rfl), by decide +kernel, rfl⟩
def il_X0_takeBack : List mm_I := [(0, .aload_n 0, 1), (1, .aload_n 0, 2), (2, .getfield 24, 5), (5, .bipush 6, 7), (7, .iadd, 8), (8, .iconst 1, 9), (9, .isub, 10), (10, .bipush 6, 12), (12, .irem, 13), (13, .putfield 24, 16), (16, .aload_n 0, 17), (17, .dup, 18), (18, .getfield 20, 21), (21, .iconst 1, 22), (22, .isub, 23), (23, .putfield 20, 26), (26, .aload_n 0, 27), (27, .getfield 11, 30), (30, .aload_n 0, 31), (31, .getfield 24, 34), (34, .aaload, 35), (35, .iconst 0, 36), (36, .aload_n 1, 37), (37, .iconst 0, 38), (38, .bipush 8, 40), (40, .invokestatic 27, 43), (43, .aload_n 0, 44), (44, .getfield 16, 47), (47, .aload_n 0, 48), (48, .getfield 24, 51), (51, .iaload, 52), (52, .ireturn, 53)]
def K_X0_takeBack : mm_K := ((yX0_takeBack, cX0_takeBack, 2, (some .int), RX0), (1, 24, 0), (il_X0_takeBack, [], fl_X0, ml_X0))
set_option maxRecDepth 100000 in
theorem ok_X0_takeBack : mm_KO K_X0_takeBack := ⟨by decide +kernel, fq_X0, mq_X0⟩
theorem mo_X0_takeBack : mm_MO K_X0_takeBack := ⟨tb_in 947 (by decide +kernel) (by decide +kernel), (fun r h => by cases h; rfl), by decide +kernel, rfl⟩
end
section
def fl_X1 : List mm_F := [(78, 5, 4, 0, 4), (84, 5, 8, 2, 8), (41, 1, 0, 2, 0), (45, 1, 1, 2, 1), (11, 1, 2, 2, 2), (16, 1, 3, 2, 3), (20, 1, 4, 2, 4), (23, 1, 5, 2, 5), (26, 1, 6, 2, 6), (34, 1, 7, 2, 7), (38, 1, 8, 2, 8)]
theorem fp_X1_0 : mm_fok RX1 (78, 5, 4, 0, 4) := ⟨RX5, TX5, 9, tyX5, rfl, tb_X5, tyX5_ok, nmX5, by decide, tb_in 130 (by decide +kernel) (by decide +kernel), rfl, rfl, rfl, fun _ => ⟨rfl, rfl⟩, fun h => absurd h (by decide)⟩
theorem fp_X1_1 : mm_fok RX1 (84, 5, 8, 2, 8) := ⟨RX5, TX5, 9, tyX5, rfl, tb_X5, tyX5_ok, nmX5, by decide, tb_in 145 (by decide +kernel) (by decide +kernel), rfl, rfl, rfl, fun h => absurd h (by decide), fun h => absurd h (by decide)⟩
theorem fp_X1_2 : mm_fok RX1 (41, 1, 0, 2, 0) := ⟨RX1, TX1, 9, tyX1, rfl, tb_X1, tyX1_ok, nmX1, by decide, tb_in 671 (by decide +kernel) (by decide +kernel), rfl, rfl, rfl, fun h => absurd h (by decide), fun h => absurd h (by decide)⟩
theorem fp_X1_3 : mm_fok RX1 (45, 1, 1, 2, 1) := ⟨RX1, TX1, 9, tyX1, rfl, tb_X1, tyX1_ok, nmX1, by decide, tb_in 672 (by decide +kernel) (by decide +kernel), rfl, rfl, rfl, fun h => absurd h (by decide), fun h => absurd h (by decide)⟩
theorem fp_X1_4 : mm_fok RX1 (11, 1, 2, 2, 2) := ⟨RX1, TX1, 9, tyX1, rfl, tb_X1, tyX1_ok, nmX1, by decide, tb_in 673 (by decide +kernel) (by decide +kernel), rfl, rfl, rfl, fun h => absurd h (by decide), fun h => absurd h (by decide)⟩
theorem fp_X1_5 : mm_fok RX1 (16, 1, 3, 2, 3) := ⟨RX1, TX1, 9, tyX1, rfl, tb_X1, tyX1_ok, nmX1, by decide, tb_in 674 (by decide +kernel) (by decide +kernel), rfl, rfl, rfl, fun h => absurd h (by decide), fun h => absurd h (by decide)⟩
theorem fp_X1_6 : mm_fok RX1 (20, 1, 4, 2, 4) := ⟨RX1, TX1, 9, tyX1, rfl, tb_X1, tyX1_ok, nmX1, by decide, tb_in 675 (by decide +kernel) (by decide +kernel), rfl, rfl, rfl, fun h => absurd h (by decide), fun h => absurd h (by decide)⟩
theorem fp_X1_7 : mm_fok RX1 (23, 1, 5, 2, 5) := ⟨RX1, TX1, 9, tyX1, rfl, tb_X1, tyX1_ok, nmX1, by decide, tb_in 676 (by decide +kernel) (by decide +kernel), rfl, rfl, rfl, fun h => absurd h (by decide), fun h => absurd h (by decide)⟩
theorem fp_X1_8 : mm_fok RX1 (26, 1, 6, 2, 6) := ⟨RX1, TX1, 9, tyX1, rfl, tb_X1, tyX1_ok, nmX1, by decide, tb_in 677 (by decide +kernel) (by decide +kernel), rfl, rfl, rfl, fun h => absurd h (by decide), fun h => absurd h (by decide)⟩
theorem fp_X1_9 : mm_fok RX1 (34, 1, 7, 2, 7) := ⟨RX1, TX1, 9, tyX1, rfl, tb_X1, tyX1_ok, nmX1, by decide, tb_in 678 (by decide +kernel) (by decide +kernel), rfl, rfl, rfl, fun h => absurd h (by decide), fun h => absurd h (by decide)⟩
theorem fp_X1_10 : mm_fok RX1 (38, 1, 8, 2, 8) := ⟨RX1, TX1, 9, tyX1, rfl, tb_X1, tyX1_ok, nmX1, by decide, tb_in 679 (by decide +kernel) (by decide +kernel), rfl, rfl, rfl, fun h => absurd h (by decide), fun h => absurd h (by decide)⟩
theorem fq_X1 : ∀ q ∈ fl_X1, mm_fok RX1 q := List.forall_mem_cons.mpr ⟨fp_X1_0, List.forall_mem_cons.mpr ⟨fp_X1_1, List.forall_mem_cons.mpr ⟨fp_X1_2, List.forall_mem_cons.mpr ⟨fp_X1_3, List.forall_mem_cons.mpr ⟨fp_X1_4, List.forall_mem_cons.mpr ⟨fp_X1_5, List.forall_mem_cons.mpr ⟨fp_X1_6, List.forall_mem_cons.mpr ⟨fp_X1_7, List.forall_mem_cons.mpr ⟨fp_X1_8, List.forall_mem_cons.mpr ⟨fp_X1_9, List.forall_mem_cons.mpr ⟨fp_X1_10, fun _ h => absurd h List.not_mem_nil⟩⟩⟩⟩⟩⟩⟩⟩⟩⟩⟩
def ml_X1 : List (Nat × Nat × Nat × MethodName) := [(49, 1, 2, yJ7_fill_53178), (55, 0, 0, yX1_orderValues), (93, 0, 0, yX3_size), (96, 0, 1, yX3_valuesAt), (71, 0, 1, yX3_sosOf), (58, 0, 0, yX4_empty), (61, 0, 0, yX3_firsts), (67, 0, 1, yX3_firstAt), (74, 0, 1, yX4_add), (31, 2, 1, yX4_init), (87, 0, 1, yX1_find), (99, 0, 2, yX3_after), (90, 0, 1, yX4_has)]
theorem mp_X1_0 : mm_lok RX1 (49, 1, 2, yJ7_fill_53178) := ⟨⟨by decide, by decide, by decide +kernel⟩, tb_in 79 (by decide +kernel) (by decide +kernel), fun h => absurd h (by decide), fun _ => ⟨tb_in 386 (by decide +kernel) (by decide +kernel), tb_in 372 (by decide +kernel) (by decide +kernel)⟩, fun h => absurd h (by decide), fun h => absurd h (by decide)⟩
theorem mp_X1_1 : mm_lok RX1 (55, 0, 0, yX1_orderValues) := ⟨⟨by decide, by decide, by decide +kernel⟩, tb_in 85 (by decide +kernel) (by decide +kernel), fun _ => ⟨tb_in 387 (by decide +kernel) (by decide +kernel), tb_in 389 (by decide +kernel) (by decide +kernel), tb_in 12 (by decide +kernel) (by decide +kernel)⟩, fun h => absurd h (by decide), fun h => absurd h (by decide), fun h => absurd h (by decide)⟩
theorem mp_X1_2 : mm_lok RX1 (93, 0, 0, yX3_size) := ⟨⟨by decide, by decide, by decide +kernel⟩, tb_in 72 (by decide +kernel) (by decide +kernel), fun _ => ⟨tb_in 392 (by decide +kernel) (by decide +kernel), tb_in 393 (by decide +kernel) (by decide +kernel), tb_in 394 (by decide +kernel) (by decide +kernel)⟩, fun h => absurd h (by decide), fun h => absurd h (by decide), fun h => absurd h (by decide)⟩
theorem mp_X1_3 : mm_lok RX1 (96, 0, 1, yX3_valuesAt) := ⟨⟨by decide, by decide, by decide +kernel⟩, tb_in 72 (by decide +kernel) (by decide +kernel), fun _ => ⟨tb_in 396 (by decide +kernel) (by decide +kernel), tb_in 354 (by decide +kernel) (by decide +kernel), tb_in 355 (by decide +kernel) (by decide +kernel)⟩, fun h => absurd h (by decide), fun h => absurd h (by decide), fun h => absurd h (by decide)⟩
theorem mp_X1_4 : mm_lok RX1 (71, 0, 1, yX3_sosOf) := ⟨⟨by decide, by decide, by decide +kernel⟩, tb_in 72 (by decide +kernel) (by decide +kernel), fun _ => ⟨tb_in 397 (by decide +kernel) (by decide +kernel), tb_in 398 (by decide +kernel) (by decide +kernel), tb_in 399 (by decide +kernel) (by decide +kernel)⟩, fun h => absurd h (by decide), fun h => absurd h (by decide), fun h => absurd h (by decide)⟩
theorem mp_X1_5 : mm_lok RX1 (58, 0, 0, yX4_empty) := ⟨⟨by decide, by decide, by decide +kernel⟩, tb_in 83 (by decide +kernel) (by decide +kernel), fun _ => ⟨tb_in 401 (by decide +kernel) (by decide +kernel), tb_in 402 (by decide +kernel) (by decide +kernel), tb_in 403 (by decide +kernel) (by decide +kernel)⟩, fun h => absurd h (by decide), fun h => absurd h (by decide), fun h => absurd h (by decide)⟩
theorem mp_X1_6 : mm_lok RX1 (61, 0, 0, yX3_firsts) := ⟨⟨by decide, by decide, by decide +kernel⟩, tb_in 72 (by decide +kernel) (by decide +kernel), fun _ => ⟨tb_in 406 (by decide +kernel) (by decide +kernel), tb_in 407 (by decide +kernel) (by decide +kernel), tb_in 408 (by decide +kernel) (by decide +kernel)⟩, fun h => absurd h (by decide), fun h => absurd h (by decide), fun h => absurd h (by decide)⟩
theorem mp_X1_7 : mm_lok RX1 (67, 0, 1, yX3_firstAt) := ⟨⟨by decide, by decide, by decide +kernel⟩, tb_in 72 (by decide +kernel) (by decide +kernel), fun _ => ⟨tb_in 410 (by decide +kernel) (by decide +kernel), tb_in 411 (by decide +kernel) (by decide +kernel), tb_in 412 (by decide +kernel) (by decide +kernel)⟩, fun h => absurd h (by decide), fun h => absurd h (by decide), fun h => absurd h (by decide)⟩
theorem mp_X1_8 : mm_lok RX1 (74, 0, 1, yX4_add) := ⟨⟨by decide, by decide, by decide +kernel⟩, tb_in 83 (by decide +kernel) (by decide +kernel), fun _ => ⟨tb_in 414 (by decide +kernel) (by decide +kernel), tb_in 415 (by decide +kernel) (by decide +kernel), tb_in 416 (by decide +kernel) (by decide +kernel)⟩, fun h => absurd h (by decide), fun h => absurd h (by decide), fun h => absurd h (by decide)⟩
theorem mp_X1_9 : mm_lok RX1 (31, 2, 1, yX4_init) := ⟨⟨by decide, by decide, by decide +kernel⟩, tb_in 83 (by decide +kernel) (by decide +kernel), fun h => absurd h (by decide), fun h => absurd h (by decide), fun _ => ⟨tb_in 670 (by decide +kernel) (by decide +kernel), tb_in 547 (by decide +kernel) (by decide +kernel), rfl⟩, fun h => absurd h (by decide)⟩
theorem mp_X1_10 : mm_lok RX1 (87, 0, 1, yX1_find) := ⟨⟨by decide, by decide, by decide +kernel⟩, tb_in 85 (by decide +kernel) (by decide +kernel), fun _ => ⟨tb_in 794 (by decide +kernel) (by decide +kernel), tb_in 796 (by decide +kernel) (by decide +kernel), tb_in 24 (by decide +kernel) (by decide +kernel)⟩, fun h => absurd h (by decide), fun h => absurd h (by decide), fun h => absurd h (by decide)⟩
theorem mp_X1_11 : mm_lok RX1 (99, 0, 2, yX3_after) := ⟨⟨by decide, by decide, by decide +kernel⟩, tb_in 72 (by decide +kernel) (by decide +kernel), fun _ => ⟨tb_in 798 (by decide +kernel) (by decide +kernel), tb_in 523 (by decide +kernel) (by decide +kernel), tb_in 524 (by decide +kernel) (by decide +kernel)⟩, fun h => absurd h (by decide), fun h => absurd h (by decide), fun h => absurd h (by decide)⟩
theorem mp_X1_12 : mm_lok RX1 (90, 0, 1, yX4_has) := ⟨⟨by decide, by decide, by decide +kernel⟩, tb_in 83 (by decide +kernel) (by decide +kernel), fun _ => ⟨tb_in 804 (by decide +kernel) (by decide +kernel), tb_in 805 (by decide +kernel) (by decide +kernel), tb_in 806 (by decide +kernel) (by decide +kernel)⟩, fun h => absurd h (by decide), fun h => absurd h (by decide), fun h => absurd h (by decide)⟩
theorem mq_X1 : ∀ q ∈ ml_X1, mm_lok RX1 q := List.forall_mem_cons.mpr ⟨mp_X1_0, List.forall_mem_cons.mpr ⟨mp_X1_1, List.forall_mem_cons.mpr ⟨mp_X1_2, List.forall_mem_cons.mpr ⟨mp_X1_3, List.forall_mem_cons.mpr ⟨mp_X1_4, List.forall_mem_cons.mpr ⟨mp_X1_5, List.forall_mem_cons.mpr ⟨mp_X1_6, List.forall_mem_cons.mpr ⟨mp_X1_7, List.forall_mem_cons.mpr ⟨mp_X1_8, List.forall_mem_cons.mpr ⟨mp_X1_9, List.forall_mem_cons.mpr ⟨mp_X1_10, List.forall_mem_cons.mpr ⟨mp_X1_11, List.forall_mem_cons.mpr ⟨mp_X1_12, fun _ h => absurd h List.not_mem_nil⟩⟩⟩⟩⟩⟩⟩⟩⟩⟩⟩⟩⟩
def il_X1_init : List mm_I := [(0, .aload_n 0, 1), (1, .invokespecial 3, 4), (4, .aload_n 0, 5), (5, .bipush 14, 7), (7, .sipush 512, 10), (10, .multianewarray 9 2, 14), (14, .putfield 11, 17), (17, .aload_n 0, 18), (18, .bipush 14, 20), (20, .newarray .int, 22), (22, .putfield 16, 25), (25, .aload_n 0, 26), (26, .bipush 14, 28), (28, .newarray .int, 30), (30, .putfield 20, 33), (33, .aload_n 0, 34), (34, .sipush 512, 37), (37, .newarray .int, 39), (39, .putfield 23, 42), (42, .aload_n 0, 43), (43, .sipush 257, 46), (46, .newarray .int, 48), (48, .putfield 26, 51), (51, .aload_n 0, 52), (52, .new 29, 55), (55, .dup, 56), (56, .sipush 256, 59), (59, .invokespecial 31, 62), (62, .putfield 34, 65), (65, .aload_n 0, 66), (66, .new 29, 69), (69, .dup, 70), (70, .sipush 256, 73), (73, .invokespecial 31, 76), (76, .putfield 38, 79), (79, .aload_n 0, 80), (80, .aload_n 1, 81), (81, .putfield 41, 84), (84, .aload_n 0, 85), (85, .aload_n 2, 86), (86, .putfield 45, 89), (89, .return_, 90)]
def K_X1_init : mm_K := ((yX1_init, cX1_init, 3, none, RX1), (2, 42, 1), (il_X1_init, [], fl_X1, ml_X1))
set_option maxRecDepth 100000 in
theorem ok_X1_init : mm_KO K_X1_init := ⟨by decide +kernel, fq_X1, mq_X1⟩
theorem mo_X1_init : mm_MO K_X1_init := ⟨tb_in 666 (by decide +kernel) (by decide +kernel), (fun r h => by cases h; rfl), by decide +kernel, rfl⟩
def il_X1_takeProgram : List mm_I := [(0, .aload_n 0, 1), (1, .getfield 20, 4), (4, .iconst (-1), 5), (5, .invokestatic 49, 8), (8, .aload_n 0, 9), (9, .invokevirtual 55, 12), (12, .aload_n 0, 13), (13, .getfield 34, 16), (16, .invokevirtual 58, 19), (19, .iconst 0, 20), (20, .istore_n 1, 21), (21, .iload_n 1, 22), (22, .aload_n 0, 23), (23, .getfield 45, 26), (26, .invokevirtual 61, 29), (29, .if_icmp .ge 32, 32), (32, .aload_n 0, 33), (33, .getfield 34, 36), (36, .aload_n 0, 37), (37, .getfield 45, 40), (40, .aload_n 0, 41), (41, .getfield 45, 44), (44, .iload_n 1, 45), (45, .invokevirtual 67, 48), (48, .invokevirtual 71, 51), (51, .invokevirtual 74, 54), (54, .pop, 55), (55, .iinc 1 1, 58), (58, .goto (-37), 61), (61, .return_, 62)]
def K_X1_takeProgram : mm_K := ((yX1_takeProgram, cX1_takeProgram, 2, none, RX1), (2, 46, 1), (il_X1_takeProgram, [21, 61], fl_X1, ml_X1))
set_option maxRecDepth 100000 in
theorem ok_X1_takeProgram : mm_KO K_X1_takeProgram := ⟨by decide +kernel, fq_X1, mq_X1⟩
theorem mo_X1_takeProgram : mm_MO K_X1_takeProgram := ⟨tb_in 385 (by decide +kernel) (by decide +kernel), (fun r h => by cases h; rfl), by decide +kernel, rfl⟩
def il_X1_renew : List mm_I := [(0, .iconst 0, 1), (1, .istore_n 1, 2), (2, .iload_n 1, 3), (3, .aload_n 0, 4), (4, .getfield 41, 7), (7, .getfield 78, 10), (10, .if_icmp .ge 51, 13), (13, .aload_n 0, 14), (14, .getfield 20, 17), (17, .iload_n 1, 18), (18, .iaload, 19), (19, .aload_n 0, 20), (20, .getfield 41, 23), (23, .getfield 84, 26), (26, .iload_n 1, 27), (27, .aaload, 28), (28, .iconst 3, 29), (29, .iaload, 30), (30, .if_icmp .eq 25, 33), (33, .aload_n 0, 34), (34, .getfield 20, 37), (37, .iload_n 1, 38), (38, .aload_n 0, 39), (39, .getfield 41, 42), (42, .getfield 84, 45), (45, .iload_n 1, 46), (46, .aaload, 47), (47, .iconst 3, 48), (48, .iaload, 49), (49, .iastore, 50), (50, .aload_n 0, 51), (51, .iload_n 1, 52), (52, .invokevirtual 87, 55), (55, .iinc 1 1, 58), (58, .goto (-56), 61), (61, .return_, 62)]
def K_X1_renew : mm_K := ((yX1_renew, cX1_renew, 2, none, RX1), (3, 73, 1), (il_X1_renew, [2, 55, 61], fl_X1, ml_X1))
set_option maxRecDepth 100000 in
theorem ok_X1_renew : mm_KO K_X1_renew := ⟨by decide +kernel, fq_X1, mq_X1⟩
theorem mo_X1_renew : mm_MO K_X1_renew := ⟨tb_in 793 (by decide +kernel) (by decide +kernel), (fun r h => by cases h; rfl), by decide +kernel, rfl⟩
def il_X1_putFirstCubes : List mm_I := [(0, .aload_n 2, 1), (1, .invokevirtual 58, 4), (4, .iconst 0, 5), (5, .istore_n 3, 6), (6, .iload_n 3, 7), (7, .sipush 256, 10), (10, .if_icmp .ge 28, 13), (13, .aload_n 0, 14), (14, .getfield 34, 17), (17, .iload_n 3, 18), (18, .invokevirtual 90, 21), (21, .ifCond .eq 11, 24), (24, .aload_n 2, 25), (25, .iload_n 3, 26), (26, .iload_n 1, 27), (27, .iand, 28), (28, .invokevirtual 74, 31), (31, .pop, 32), (32, .iinc 3 1, 35), (35, .goto (-29), 38), (38, .return_, 39)]
def K_X1_putFirstCubes : mm_K := ((yX1_putFirstCubes, cX1_putFirstCubes, 4, none, RX1), (2, 43, 1), (il_X1_putFirstCubes, [6, 32, 38], fl_X1, ml_X1))
set_option maxRecDepth 100000 in
theorem ok_X1_putFirstCubes : mm_KO K_X1_putFirstCubes := ⟨by decide +kernel, fq_X1, mq_X1⟩
theorem mo_X1_putFirstCubes : mm_MO K_X1_putFirstCubes := ⟨tb_in 803 (by decide +kernel) (by decide +kernel), (fun r h => by cases h; rfl), by decide +kernel, rfl⟩
def il_X1_putNextCubes : List mm_I := [(0, .aload_n 2, 1), (1, .aload_n 0, 2), (2, .getfield 41, 5), (5, .getfield 84, 8), (8, .iload_n 1, 9), (9, .aaload, 10), (10, .iconst 0, 11), (11, .iaload, 12), (12, .iaload, 13), (13, .istore 5, 15), (15, .aload_n 2, 16), (16, .aload_n 0, 17), (17, .getfield 41, 20), (20, .getfield 84, 23), (23, .iload_n 1, 24), (24, .aaload, 25), (25, .iconst 1, 26), (26, .iaload, 27), (27, .iaload, 28), (28, .istore 6, 30), (30, .iconst 0, 31), (31, .istore 7, 33), (33, .aload 4, 35), (35, .invokevirtual 58, 38), (38, .iconst 0, 39), (39, .istore 8, 41), (41, .iload 8, 43), (43, .aload_n 0, 44), (44, .getfield 16, 47), (47, .iload_n 1, 48), (48, .iaload, 49), (49, .if_icmp .ge 57, 52), (52, .aload_n 3, 53), (53, .aload_n 0, 54), (54, .getfield 11, 57), (57, .iload_n 1, 58), (58, .aaload, 59), (59, .iload 8, 61), (61, .iaload, 62), (62, .sipush 256, 65), (65, .idiv, 66), (66, .iload 5, 68), (68, .iand, 69), (69, .invokevirtual 90, 72), (72, .ifCond .eq 28, 75), (75, .aload 4, 77), (77, .aload_n 0, 78), (78, .getfield 11, 81), (81, .iload_n 1, 82), (82, .aaload, 83), (83, .iload 8, 85), (85, .iaload, 86), (86, .sipush 256, 89), (89, .irem, 90), (90, .iload 6, 92), (92, .iand, 93), (93, .invokevirtual 74, 96), (96, .pop, 97), (97, .iconst 1, 98), (98, .istore 7, 100), (100, .iinc 8 1, 103), (103, .goto (-62), 106), (106, .iload 7, 108), (108, .ireturn, 109)]
def K_X1_putNextCubes : mm_K := ((yX1_putNextCubes, cX1_putNextCubes, 9, (some .boolean), RX1), (2, 43, 1), (il_X1_putNextCubes, [41, 100, 106], fl_X1, ml_X1))
set_option maxRecDepth 100000 in
theorem ok_X1_putNextCubes : mm_KO K_X1_putNextCubes := ⟨by decide +kernel, fq_X1, mq_X1⟩
theorem mo_X1_putNextCubes : mm_MO K_X1_putNextCubes := ⟨tb_in 826 (by decide +kernel) (by decide +kernel), (fun r h => by cases h; rfl), by decide +kernel, rfl⟩
def il_X1_orderValues : List mm_I := [(0, .aload_n 0, 1), (1, .getfield 26, 4), (4, .iconst 0, 5), (5, .invokestatic 49, 8), (8, .iconst 0, 9), (9, .istore_n 1, 10), (10, .iload_n 1, 11), (11, .aload_n 0, 12), (12, .getfield 45, 15), (15, .invokevirtual 93, 18), (18, .if_icmp .ge 35, 21), (21, .aload_n 0, 22), (22, .getfield 26, 25), (25, .aload_n 0, 26), (26, .getfield 45, 29), (29, .aload_n 0, 30), (30, .getfield 45, 33), (33, .iload_n 1, 34), (34, .invokevirtual 96, 37), (37, .invokevirtual 71, 40), (40, .iconst 1, 41), (41, .iadd, 42), (42, .dup2, 43), (43, .iaload, 44), (44, .iconst 1, 45), (45, .iadd, 46), (46, .iastore, 47), (47, .iinc 1 1, 50), (50, .goto (-40), 53), (53, .iconst 0, 54), (54, .istore_n 1, 55), (55, .iload_n 1, 56), (56, .sipush 256, 59), (59, .if_icmp .ge 26, 62), (62, .aload_n 0, 63), (63, .getfield 26, 66), (66, .iload_n 1, 67), (67, .iconst 1, 68), (68, .iadd, 69), (69, .dup2, 70), (70, .iaload, 71), (71, .aload_n 0, 72), (72, .getfield 26, 75), (75, .iload_n 1, 76), (76, .iaload, 77), (77, .iadd, 78), (78, .iastore, 79), (79, .iinc 1 1, 82), (82, .goto (-27), 85), (85, .iconst 0, 86), (86, .istore_n 1, 87), (87, .iload_n 1, 88), (88, .aload_n 0, 89), (89, .getfield 45, 92), (92, .invokevirtual 93, 95), (95, .if_icmp .ge 49, 98), (98, .aload_n 0, 99), (99, .getfield 45, 102), (102, .iload_n 1, 103), (103, .invokevirtual 96, 106), (106, .istore_n 2, 107), (107, .aload_n 0, 108), (108, .getfield 45, 111), (111, .iload_n 2, 112), (112, .invokevirtual 71, 115), (115, .istore_n 3, 116), (116, .aload_n 0, 117), (117, .getfield 23, 120), (120, .aload_n 0, 121), (121, .getfield 26, 124), (124, .iload_n 3, 125), (125, .iaload, 126), (126, .iload_n 2, 127), (127, .iastore, 128), (128, .aload_n 0, 129), (129, .getfield 26, 132), (132, .iload_n 3, 133), (133, .dup2, 134), (134, .iaload, 135), (135, .iconst 1, 136), (136, .iadd, 137), (137, .iastore, 138), (138, .iinc 1 1, 141), (141, .goto (-54), 144), (144, .return_, 145)]
def K_X1_orderValues : mm_K := ((yX1_orderValues, cX1_orderValues, 4, none, RX1), (1, 23, 1), (il_X1_orderValues, [10, 53, 55, 85, 87, 144], fl_X1, ml_X1))
set_option maxRecDepth 100000 in
theorem ok_X1_orderValues : mm_KO K_X1_orderValues := ⟨by decide +kernel, fq_X1, mq_X1⟩
theorem mo_X1_orderValues : mm_MO K_X1_orderValues := ⟨tb_in 391 (by decide +kernel) (by decide +kernel), (fun r h => by cases h; rfl), by decide +kernel, rfl⟩
def il_X1_find : List mm_I := [(0, .iconst 0, 1), (1, .istore_n 2, 2), (2, .iconst (-1), 3), (3, .istore_n 3, 4), (4, .iconst 0, 5), (5, .istore 4, 7), (7, .iload 4, 9), (9, .aload_n 0, 10), (10, .getfield 45, 13), (13, .invokevirtual 93, 16), (16, .if_icmp .ge 108, 19), (19, .aload_n 0, 20), (20, .getfield 45, 23), (23, .aload_n 0, 24), (24, .getfield 23, 27), (27, .iload 4, 29), (29, .iaload, 30), (30, .invokevirtual 71, 33), (33, .istore 5, 35), (35, .iload 5, 37), (37, .iload_n 3, 38), (38, .if_icmp .eq 13, 41), (41, .iload 5, 43), (43, .istore_n 3, 44), (44, .aload_n 0, 45), (45, .getfield 38, 48), (48, .invokevirtual 58, 51), (51, .aload_n 0, 52), (52, .getfield 45, 55), (55, .iload_n 1, 56), (56, .aload_n 0, 57), (57, .getfield 23, 60), (60, .iload 4, 62), (62, .iaload, 63), (63, .invokevirtual 99, 66), (66, .istore 6, 68), (68, .iload 6, 70), (70, .ifCond .lt 48, 73), (73, .aload_n 0, 74), (74, .getfield 38, 77), (77, .aload_n 0, 78), (78, .getfield 45, 81), (81, .iload 6, 83), (83, .invokevirtual 71, 86), (86, .invokevirtual 74, 89), (89, .ifCond .eq 29, 92), (92, .aload_n 0, 93), (93, .getfield 11, 96), (96, .iload_n 1, 97), (97, .aaload, 98), (98, .iload_n 2, 99), (99, .iload_n 3, 100), (100, .sipush 256, 103), (103, .imul, 104), (104, .aload_n 0, 105), (105, .getfield 45, 108), (108, .iload 6, 110), (110, .invokevirtual 71, 113), (113, .iadd, 114), (114, .iastore, 115), (115, .iinc 2 1, 118), (118, .iinc 4 1, 121), (121, .goto (-114), 124), (124, .aload_n 0, 125), (125, .getfield 16, 128), (128, .iload_n 1, 129), (129, .iload_n 2, 130), (130, .iastore, 131), (131, .return_, 132)]
def K_X1_find : mm_K := ((yX1_find, cX1_find, 7, none, RX1), (2, 47, 1), (il_X1_find, [7, 51, 118, 124], fl_X1, ml_X1))
set_option maxRecDepth 100000 in
theorem ok_X1_find : mm_KO K_X1_find := ⟨by decide +kernel, fq_X1, mq_X1⟩
theorem mo_X1_find : mm_MO K_X1_find := ⟨tb_in 797 (by decide +kernel) (by decide +kernel), (fun r h => by cases h; rfl), by decide +kernel, rfl⟩
end
section
def fl_X2 : List mm_F := [(109, 5, 1, 0, 1), (91, 5, 4, 0, 4), (96, 5, 8, 2, 8), (33, 2, 0, 2, 0), (37, 2, 1, 2, 1), (41, 2, 2, 2, 2), (45, 2, 3, 2, 3), (11, 2, 4, 2, 4), (15, 2, 5, 2, 5), (23, 2, 6, 2, 6), (27, 2, 7, 2, 7), (30, 2, 8, 2, 8), (59, 2, 9, 0, 9), (63, 2, 10, 0, 10)]
theorem fp_X2_0 : mm_fok RX2 (109, 5, 1, 0, 1) := ⟨RX5, TX5, 9, tyX5, rfl, tb_X5, tyX5_ok, nmX5, by decide, tb_in 118 (by decide +kernel) (by decide +kernel), rfl, rfl, rfl, fun _ => ⟨rfl, rfl⟩, fun h => absurd h (by decide)⟩
theorem fp_X2_1 : mm_fok RX2 (91, 5, 4, 0, 4) := ⟨RX5, TX5, 9, tyX5, rfl, tb_X5, tyX5_ok, nmX5, by decide, tb_in 132 (by decide +kernel) (by decide +kernel), rfl, rfl, rfl, fun _ => ⟨rfl, rfl⟩, fun h => absurd h (by decide)⟩
theorem fp_X2_2 : mm_fok RX2 (96, 5, 8, 2, 8) := ⟨RX5, TX5, 9, tyX5, rfl, tb_X5, tyX5_ok, nmX5, by decide, tb_in 150 (by decide +kernel) (by decide +kernel), rfl, rfl, rfl, fun h => absurd h (by decide), fun h => absurd h (by decide)⟩
theorem fp_X2_3 : mm_fok RX2 (33, 2, 0, 2, 0) := ⟨RX2, TX2, 11, tyX2, rfl, tb_X2, tyX2_ok, nmX2, by decide, tb_in 752 (by decide +kernel) (by decide +kernel), rfl, rfl, rfl, fun h => absurd h (by decide), fun h => absurd h (by decide)⟩
theorem fp_X2_4 : mm_fok RX2 (37, 2, 1, 2, 1) := ⟨RX2, TX2, 11, tyX2, rfl, tb_X2, tyX2_ok, nmX2, by decide, tb_in 753 (by decide +kernel) (by decide +kernel), rfl, rfl, rfl, fun h => absurd h (by decide), fun h => absurd h (by decide)⟩
theorem fp_X2_5 : mm_fok RX2 (41, 2, 2, 2, 2) := ⟨RX2, TX2, 11, tyX2, rfl, tb_X2, tyX2_ok, nmX2, by decide, tb_in 754 (by decide +kernel) (by decide +kernel), rfl, rfl, rfl, fun h => absurd h (by decide), fun h => absurd h (by decide)⟩
theorem fp_X2_6 : mm_fok RX2 (45, 2, 3, 2, 3) := ⟨RX2, TX2, 11, tyX2, rfl, tb_X2, tyX2_ok, nmX2, by decide, tb_in 755 (by decide +kernel) (by decide +kernel), rfl, rfl, rfl, fun h => absurd h (by decide), fun h => absurd h (by decide)⟩
theorem fp_X2_7 : mm_fok RX2 (11, 2, 4, 2, 4) := ⟨RX2, TX2, 11, tyX2, rfl, tb_X2, tyX2_ok, nmX2, by decide, tb_in 756 (by decide +kernel) (by decide +kernel), rfl, rfl, rfl, fun h => absurd h (by decide), fun h => absurd h (by decide)⟩
theorem fp_X2_8 : mm_fok RX2 (15, 2, 5, 2, 5) := ⟨RX2, TX2, 11, tyX2, rfl, tb_X2, tyX2_ok, nmX2, by decide, tb_in 757 (by decide +kernel) (by decide +kernel), rfl, rfl, rfl, fun h => absurd h (by decide), fun h => absurd h (by decide)⟩
theorem fp_X2_9 : mm_fok RX2 (23, 2, 6, 2, 6) := ⟨RX2, TX2, 11, tyX2, rfl, tb_X2, tyX2_ok, nmX2, by decide, tb_in 758 (by decide +kernel) (by decide +kernel), rfl, rfl, rfl, fun h => absurd h (by decide), fun h => absurd h (by decide)⟩
theorem fp_X2_10 : mm_fok RX2 (27, 2, 7, 2, 7) := ⟨RX2, TX2, 11, tyX2, rfl, tb_X2, tyX2_ok, nmX2, by decide, tb_in 759 (by decide +kernel) (by decide +kernel), rfl, rfl, rfl, fun h => absurd h (by decide), fun h => absurd h (by decide)⟩
theorem fp_X2_11 : mm_fok RX2 (30, 2, 8, 2, 8) := ⟨RX2, TX2, 11, tyX2, rfl, tb_X2, tyX2_ok, nmX2, by decide, tb_in 760 (by decide +kernel) (by decide +kernel), rfl, rfl, rfl, fun h => absurd h (by decide), fun h => absurd h (by decide)⟩
theorem fp_X2_12 : mm_fok RX2 (59, 2, 9, 0, 9) := ⟨RX2, TX2, 11, tyX2, rfl, tb_X2, tyX2_ok, nmX2, by decide, tb_in 761 (by decide +kernel) (by decide +kernel), rfl, rfl, rfl, fun _ => ⟨rfl, rfl⟩, fun h => absurd h (by decide)⟩
theorem fp_X2_13 : mm_fok RX2 (63, 2, 10, 0, 10) := ⟨RX2, TX2, 11, tyX2, rfl, tb_X2, tyX2_ok, nmX2, by decide, tb_in 762 (by decide +kernel) (by decide +kernel), rfl, rfl, rfl, fun _ => ⟨rfl, rfl⟩, fun h => absurd h (by decide)⟩
theorem fq_X2 : ∀ q ∈ fl_X2, mm_fok RX2 q := List.forall_mem_cons.mpr ⟨fp_X2_0, List.forall_mem_cons.mpr ⟨fp_X2_1, List.forall_mem_cons.mpr ⟨fp_X2_2, List.forall_mem_cons.mpr ⟨fp_X2_3, List.forall_mem_cons.mpr ⟨fp_X2_4, List.forall_mem_cons.mpr ⟨fp_X2_5, List.forall_mem_cons.mpr ⟨fp_X2_6, List.forall_mem_cons.mpr ⟨fp_X2_7, List.forall_mem_cons.mpr ⟨fp_X2_8, List.forall_mem_cons.mpr ⟨fp_X2_9, List.forall_mem_cons.mpr ⟨fp_X2_10, List.forall_mem_cons.mpr ⟨fp_X2_11, List.forall_mem_cons.mpr ⟨fp_X2_12, List.forall_mem_cons.mpr ⟨fp_X2_13, fun _ h => absurd h List.not_mem_nil⟩⟩⟩⟩⟩⟩⟩⟩⟩⟩⟩⟩⟩⟩
def ml_X2 : List (Nat × Nat × Nat × MethodName) := [(48, 0, 0, yX1_takeProgram), (20, 2, 1, yX4_init), (53, 0, 0, yX1_renew), (56, 0, 0, yX4_empty), (66, 0, 2, yX1_putFirstCubes), (70, 0, 2, yX2_addAll), (100, 1, 1, yJ6_bitCount_0f7a4), (80, 0, 1, yX4_has), (84, 0, 1, yX4_add), (106, 0, 3, yX2_add), (74, 0, 1, yX2_goOn), (87, 0, 4, yX1_putNextCubes), (77, 0, 0, yX2_tracePath), (112, 0, 0, yX8_empty), (115, 0, 1, yX8_putAhead)]
theorem mp_X2_0 : mm_lok RX2 (48, 0, 0, yX1_takeProgram) := ⟨⟨by decide, by decide, by decide +kernel⟩, tb_in 85 (by decide +kernel) (by decide +kernel), fun _ => ⟨tb_in 382 (by decide +kernel) (by decide +kernel), tb_in 383 (by decide +kernel) (by decide +kernel), tb_in 384 (by decide +kernel) (by decide +kernel)⟩, fun h => absurd h (by decide), fun h => absurd h (by decide), fun h => absurd h (by decide)⟩
theorem mp_X2_1 : mm_lok RX2 (20, 2, 1, yX4_init) := ⟨⟨by decide, by decide, by decide +kernel⟩, tb_in 83 (by decide +kernel) (by decide +kernel), fun h => absurd h (by decide), fun h => absurd h (by decide), fun _ => ⟨tb_in 751 (by decide +kernel) (by decide +kernel), tb_in 547 (by decide +kernel) (by decide +kernel), rfl⟩, fun h => absurd h (by decide)⟩
theorem mp_X2_2 : mm_lok RX2 (53, 0, 0, yX1_renew) := ⟨⟨by decide, by decide, by decide +kernel⟩, tb_in 85 (by decide +kernel) (by decide +kernel), fun _ => ⟨tb_in 790 (by decide +kernel) (by decide +kernel), tb_in 791 (by decide +kernel) (by decide +kernel), tb_in 792 (by decide +kernel) (by decide +kernel)⟩, fun h => absurd h (by decide), fun h => absurd h (by decide), fun h => absurd h (by decide)⟩
theorem mp_X2_3 : mm_lok RX2 (56, 0, 0, yX4_empty) := ⟨⟨by decide, by decide, by decide +kernel⟩, tb_in 83 (by decide +kernel) (by decide +kernel), fun _ => ⟨tb_in 799 (by decide +kernel) (by decide +kernel), tb_in 402 (by decide +kernel) (by decide +kernel), tb_in 403 (by decide +kernel) (by decide +kernel)⟩, fun h => absurd h (by decide), fun h => absurd h (by decide), fun h => absurd h (by decide)⟩
theorem mp_X2_4 : mm_lok RX2 (66, 0, 2, yX1_putFirstCubes) := ⟨⟨by decide, by decide, by decide +kernel⟩, tb_in 85 (by decide +kernel) (by decide +kernel), fun _ => ⟨tb_in 800 (by decide +kernel) (by decide +kernel), tb_in 801 (by decide +kernel) (by decide +kernel), tb_in 802 (by decide +kernel) (by decide +kernel)⟩, fun h => absurd h (by decide), fun h => absurd h (by decide), fun h => absurd h (by decide)⟩
theorem mp_X2_5 : mm_lok RX2 (70, 0, 2, yX2_addAll) := ⟨⟨by decide, by decide, by decide +kernel⟩, tb_in 87 (by decide +kernel) (by decide +kernel), fun _ => ⟨tb_in 808 (by decide +kernel) (by decide +kernel), tb_in 810 (by decide +kernel) (by decide +kernel), tb_in 25 (by decide +kernel) (by decide +kernel)⟩, fun h => absurd h (by decide), fun h => absurd h (by decide), fun h => absurd h (by decide)⟩
theorem mp_X2_6 : mm_lok RX2 (100, 1, 1, yJ6_bitCount_0f7a4) := ⟨⟨by decide, by decide, by decide +kernel⟩, tb_in 84 (by decide +kernel) (by decide +kernel), fun h => absurd h (by decide), fun _ => ⟨tb_in 812 (by decide +kernel) (by decide +kernel), tb_in 643 (by decide +kernel) (by decide +kernel)⟩, fun h => absurd h (by decide), fun h => absurd h (by decide)⟩
theorem mp_X2_7 : mm_lok RX2 (80, 0, 1, yX4_has) := ⟨⟨by decide, by decide, by decide +kernel⟩, tb_in 83 (by decide +kernel) (by decide +kernel), fun _ => ⟨tb_in 813 (by decide +kernel) (by decide +kernel), tb_in 805 (by decide +kernel) (by decide +kernel), tb_in 806 (by decide +kernel) (by decide +kernel)⟩, fun h => absurd h (by decide), fun h => absurd h (by decide), fun h => absurd h (by decide)⟩
theorem mp_X2_8 : mm_lok RX2 (84, 0, 1, yX4_add) := ⟨⟨by decide, by decide, by decide +kernel⟩, tb_in 83 (by decide +kernel) (by decide +kernel), fun _ => ⟨tb_in 814 (by decide +kernel) (by decide +kernel), tb_in 415 (by decide +kernel) (by decide +kernel), tb_in 416 (by decide +kernel) (by decide +kernel)⟩, fun h => absurd h (by decide), fun h => absurd h (by decide), fun h => absurd h (by decide)⟩
theorem mp_X2_9 : mm_lok RX2 (106, 0, 3, yX2_add) := ⟨⟨by decide, by decide, by decide +kernel⟩, tb_in 87 (by decide +kernel) (by decide +kernel), fun _ => ⟨tb_in 815 (by decide +kernel) (by decide +kernel), tb_in 817 (by decide +kernel) (by decide +kernel), tb_in 26 (by decide +kernel) (by decide +kernel)⟩, fun h => absurd h (by decide), fun h => absurd h (by decide), fun h => absurd h (by decide)⟩
theorem mp_X2_10 : mm_lok RX2 (74, 0, 1, yX2_goOn) := ⟨⟨by decide, by decide, by decide +kernel⟩, tb_in 87 (by decide +kernel) (by decide +kernel), fun _ => ⟨tb_in 819 (by decide +kernel) (by decide +kernel), tb_in 821 (by decide +kernel) (by decide +kernel), tb_in 27 (by decide +kernel) (by decide +kernel)⟩, fun h => absurd h (by decide), fun h => absurd h (by decide), fun h => absurd h (by decide)⟩
theorem mp_X2_11 : mm_lok RX2 (87, 0, 4, yX1_putNextCubes) := ⟨⟨by decide, by decide, by decide +kernel⟩, tb_in 85 (by decide +kernel) (by decide +kernel), fun _ => ⟨tb_in 823 (by decide +kernel) (by decide +kernel), tb_in 824 (by decide +kernel) (by decide +kernel), tb_in 825 (by decide +kernel) (by decide +kernel)⟩, fun h => absurd h (by decide), fun h => absurd h (by decide), fun h => absurd h (by decide)⟩
theorem mp_X2_12 : mm_lok RX2 (77, 0, 0, yX2_tracePath) := ⟨⟨by decide, by decide, by decide +kernel⟩, tb_in 87 (by decide +kernel) (by decide +kernel), fun _ => ⟨tb_in 827 (by decide +kernel) (by decide +kernel), tb_in 829 (by decide +kernel) (by decide +kernel), tb_in 28 (by decide +kernel) (by decide +kernel)⟩, fun h => absurd h (by decide), fun h => absurd h (by decide), fun h => absurd h (by decide)⟩
theorem mp_X2_13 : mm_lok RX2 (112, 0, 0, yX8_empty) := ⟨⟨by decide, by decide, by decide +kernel⟩, tb_in 86 (by decide +kernel) (by decide +kernel), fun _ => ⟨tb_in 831 (by decide +kernel) (by decide +kernel), tb_in 832 (by decide +kernel) (by decide +kernel), tb_in 833 (by decide +kernel) (by decide +kernel)⟩, fun h => absurd h (by decide), fun h => absurd h (by decide), fun h => absurd h (by decide)⟩
theorem mp_X2_14 : mm_lok RX2 (115, 0, 1, yX8_putAhead) := ⟨⟨by decide, by decide, by decide +kernel⟩, tb_in 86 (by decide +kernel) (by decide +kernel), fun _ => ⟨tb_in 835 (by decide +kernel) (by decide +kernel), tb_in 836 (by decide +kernel) (by decide +kernel), tb_in 837 (by decide +kernel) (by decide +kernel)⟩, fun h => absurd h (by decide), fun h => absurd h (by decide), fun h => absurd h (by decide)⟩
theorem mq_X2 : ∀ q ∈ ml_X2, mm_lok RX2 q := List.forall_mem_cons.mpr ⟨mp_X2_0, List.forall_mem_cons.mpr ⟨mp_X2_1, List.forall_mem_cons.mpr ⟨mp_X2_2, List.forall_mem_cons.mpr ⟨mp_X2_3, List.forall_mem_cons.mpr ⟨mp_X2_4, List.forall_mem_cons.mpr ⟨mp_X2_5, List.forall_mem_cons.mpr ⟨mp_X2_6, List.forall_mem_cons.mpr ⟨mp_X2_7, List.forall_mem_cons.mpr ⟨mp_X2_8, List.forall_mem_cons.mpr ⟨mp_X2_9, List.forall_mem_cons.mpr ⟨mp_X2_10, List.forall_mem_cons.mpr ⟨mp_X2_11, List.forall_mem_cons.mpr ⟨mp_X2_12, List.forall_mem_cons.mpr ⟨mp_X2_13, List.forall_mem_cons.mpr ⟨mp_X2_14, fun _ h => absurd h List.not_mem_nil⟩⟩⟩⟩⟩⟩⟩⟩⟩⟩⟩⟩⟩⟩⟩
def il_X2_init : List mm_I := [(0, .aload_n 0, 1), (1, .invokespecial 3, 4), (4, .aload_n 0, 5), (5, .sipush 2048, 8), (8, .newarray .int, 10), (10, .putfield 11, 13), (13, .aload_n 0, 14), (14, .sipush 2048, 17), (17, .newarray .int, 19), (19, .putfield 15, 22), (22, .aload_n 0, 23), (23, .new 18, 26), (26, .dup, 27), (27, .sipush 2048, 30), (30, .invokespecial 20, 33), (33, .putfield 23, 36), (36, .aload_n 0, 37), (37, .new 18, 40), (40, .dup, 41), (41, .sipush 256, 44), (44, .invokespecial 20, 47), (47, .putfield 27, 50), (50, .aload_n 0, 51), (51, .new 18, 54), (54, .dup, 55), (55, .sipush 256, 58), (58, .invokespecial 20, 61), (61, .putfield 30, 64), (64, .aload_n 0, 65), (65, .aload_n 1, 66), (66, .putfield 33, 69), (69, .aload_n 0, 70), (70, .aload_n 2, 71), (71, .putfield 37, 74), (74, .aload_n 0, 75), (75, .aload_n 3, 76), (76, .putfield 41, 79), (79, .aload_n 0, 80), (80, .aload 4, 82), (82, .putfield 45, 85), (85, .return_, 86)]
def K_X2_init : mm_K := ((yX2_init, cX2_init, 5, none, RX2), (2, 42, 2), (il_X2_init, [], fl_X2, ml_X2))
set_option maxRecDepth 100000 in
theorem ok_X2_init : mm_KO K_X2_init := ⟨by decide +kernel, fq_X2, mq_X2⟩
theorem mo_X2_init : mm_MO K_X2_init := ⟨tb_in 748 (by decide +kernel) (by decide +kernel), (fun r h => by cases h; rfl), by decide +kernel, rfl⟩
def il_X2_takeProgram : List mm_I := [(0, .aload_n 0, 1), (1, .getfield 37, 4), (4, .invokevirtual 48, 7), (7, .return_, 8)]
def K_X2_takeProgram : mm_K := ((yX2_takeProgram, cX2_takeProgram, 1, none, RX2), (3, 67, 2), (il_X2_takeProgram, [], fl_X2, ml_X2))
set_option maxRecDepth 100000 in
theorem ok_X2_takeProgram : mm_KO K_X2_takeProgram := ⟨by decide +kernel, fq_X2, mq_X2⟩
theorem mo_X2_takeProgram : mm_MO K_X2_takeProgram := ⟨tb_in 381 (by decide +kernel) (by decide +kernel), (fun r h => by cases h; rfl), by decide +kernel, rfl⟩
def il_X2_search : List mm_I := [(0, .aload_n 0, 1), (1, .getfield 37, 4), (4, .invokevirtual 53, 7), (7, .aload_n 0, 8), (8, .getfield 23, 11), (11, .invokevirtual 56, 14), (14, .aload_n 0, 15), (15, .iconst 0, 16), (16, .putfield 59, 19), (19, .aload_n 0, 20), (20, .bipush (-4), 22), (22, .putfield 63, 25), (25, .aload_n 0, 26), (26, .getfield 37, 29), (29, .aload_n 0, 30), (30, .getfield 45, 33), (33, .iconst 0, 34), (34, .iaload, 35), (35, .aload_n 0, 36), (36, .getfield 30, 39), (39, .invokevirtual 66, 42), (42, .aload_n 0, 43), (43, .iconst 0, 44), (44, .iconst (-1), 45), (45, .invokevirtual 70, 48), (48, .iconst 0, 49), (49, .istore_n 1, 50), (50, .iload_n 1, 51), (51, .sipush 2048, 54), (54, .if_icmp .ge 22, 57), (57, .iload_n 1, 58), (58, .aload_n 0, 59), (59, .getfield 59, 62), (62, .if_icmp .ge 14, 65), (65, .aload_n 0, 66), (66, .iload_n 1, 67), (67, .invokevirtual 74, 70), (70, .iinc 1 1, 73), (73, .goto (-23), 76), (76, .aload_n 0, 77), (77, .invokevirtual 77, 80), (80, .return_, 81)]
def K_X2_search : mm_K := ((yX2_search, cX2_search, 2, none, RX2), (4, 94, 2), (il_X2_search, [50, 76], fl_X2, ml_X2))
set_option maxRecDepth 100000 in
theorem ok_X2_search : mm_KO K_X2_search := ⟨by decide +kernel, fq_X2, mq_X2⟩
theorem mo_X2_search : mm_MO K_X2_search := ⟨tb_in 789 (by decide +kernel) (by decide +kernel), (fun r h => by cases h; rfl), by decide +kernel, rfl⟩
def il_X2_states : List mm_I := [(0, .aload_n 0, 1), (1, .getfield 59, 4), (4, .ireturn, 5)]
def K_X2_states : mm_K := ((yX2_states, cX2_states, 1, (some .int), RX2), (0, 0, 2), (il_X2_states, [], fl_X2, ml_X2))
set_option maxRecDepth 100000 in
theorem ok_X2_states : mm_KO K_X2_states := ⟨by decide +kernel, fq_X2, mq_X2⟩
theorem mo_X2_states : mm_MO K_X2_states := ⟨tb_in 963 (by decide +kernel) (by decide +kernel), (fun r h => by cases h; rfl), by decide +kernel, rfl⟩
def il_X2_statesOf : List mm_I := [(0, .iconst 0, 1), (1, .istore_n 2, 2), (2, .iconst 0, 3), (3, .istore_n 3, 4), (4, .iload_n 3, 5), (5, .aload_n 0, 6), (6, .getfield 59, 9), (9, .if_icmp .ge 26, 12), (12, .aload_n 0, 13), (13, .getfield 11, 16), (16, .iload_n 3, 17), (17, .iaload, 18), (18, .sipush 256, 21), (21, .idiv, 22), (22, .iload_n 1, 23), (23, .if_icmp .ne 6, 26), (26, .iinc 2 1, 29), (29, .iinc 3 1, 32), (32, .goto (-28), 35), (35, .iload_n 2, 36), (36, .ireturn, 37)]
def K_X2_statesOf : mm_K := ((yX2_statesOf, cX2_statesOf, 4, (some .int), RX2), (0, 0, 2), (il_X2_statesOf, [4, 29, 35], fl_X2, ml_X2))
set_option maxRecDepth 100000 in
theorem ok_X2_statesOf : mm_KO K_X2_statesOf := ⟨by decide +kernel, fq_X2, mq_X2⟩
theorem mo_X2_statesOf : mm_MO K_X2_statesOf := ⟨tb_in 850 (by decide +kernel) (by decide +kernel), (fun r h => by cases h; rfl), by decide +kernel, rfl⟩
def il_X2_cubeOf : List mm_I := [(0, .iconst 0, 1), (1, .istore_n 3, 2), (2, .iconst 0, 3), (3, .istore 4, 5), (5, .iload 4, 7), (7, .sipush 256, 10), (10, .if_icmp .ge 38, 13), (13, .aload_n 0, 14), (14, .getfield 23, 17), (17, .iload_n 1, 18), (18, .sipush 256, 21), (21, .imul, 22), (22, .iload 4, 24), (24, .iadd, 25), (25, .invokevirtual 80, 28), (28, .ifCond .eq 14, 31), (31, .iload_n 3, 32), (32, .iload_n 2, 33), (33, .if_icmp .ne 6, 36), (36, .iload 4, 38), (38, .ireturn, 39), (39, .iinc 3 1, 42), (42, .iinc 4 1, 45), (45, .goto (-40), 48), (48, .bipush (-4), 50), (50, .ireturn, 51)]
def K_X2_cubeOf : mm_K := ((yX2_cubeOf, cX2_cubeOf, 5, (some .int), RX2), (1, 21, 2), (il_X2_cubeOf, [5, 39, 42, 48], fl_X2, ml_X2))
set_option maxRecDepth 100000 in
theorem ok_X2_cubeOf : mm_KO K_X2_cubeOf := ⟨by decide +kernel, fq_X2, mq_X2⟩
theorem mo_X2_cubeOf : mm_MO K_X2_cubeOf := ⟨tb_in 854 (by decide +kernel) (by decide +kernel), (fun r h => by cases h; rfl), by decide +kernel, rfl⟩
def il_X2_foundAt : List mm_I := [(0, .aload_n 0, 1), (1, .getfield 45, 4), (4, .iload_n 1, 5), (5, .iaload, 6), (6, .istore_n 2, 7), (7, .iconst 0, 8), (8, .istore_n 3, 9), (9, .iload_n 3, 10), (10, .aload_n 0, 11), (11, .getfield 59, 14), (14, .if_icmp .ge 36, 17), (17, .aload_n 0, 18), (18, .getfield 11, 21), (21, .iload_n 3, 22), (22, .iaload, 23), (23, .sipush 256, 26), (26, .idiv, 27), (27, .iload_n 1, 28), (28, .if_icmp .ne 16, 31), (31, .iload_n 2, 32), (32, .aload_n 0, 33), (33, .getfield 11, 36), (36, .iload_n 3, 37), (37, .iaload, 38), (38, .sipush 256, 41), (41, .irem, 42), (42, .iand, 43), (43, .istore_n 2, 44), (44, .iinc 3 1, 47), (47, .goto (-38), 50), (50, .iload_n 2, 51), (51, .ireturn, 52)]
def K_X2_foundAt : mm_K := ((yX2_foundAt, cX2_foundAt, 4, (some .int), RX2), (0, 0, 2), (il_X2_foundAt, [9, 44, 50], fl_X2, ml_X2))
set_option maxRecDepth 100000 in
theorem ok_X2_foundAt : mm_KO K_X2_foundAt := ⟨by decide +kernel, fq_X2, mq_X2⟩
theorem mo_X2_foundAt : mm_MO K_X2_foundAt := ⟨tb_in 862 (by decide +kernel) (by decide +kernel), (fun r h => by cases h; rfl), by decide +kernel, rfl⟩
def il_X2_becomes : List mm_I := [(0, .aload_n 0, 1), (1, .getfield 27, 4), (4, .invokevirtual 56, 7), (7, .aload_n 0, 8), (8, .getfield 27, 11), (11, .iload_n 2, 12), (12, .invokevirtual 84, 15), (15, .pop, 16), (16, .aload_n 0, 17), (17, .getfield 37, 20), (20, .iload_n 1, 21), (21, .aload_n 0, 22), (22, .getfield 45, 25), (25, .aload_n 0, 26), (26, .getfield 27, 29), (29, .aload_n 0, 30), (30, .getfield 30, 33), (33, .invokevirtual 87, 36), (36, .ifCond .eq 18, 39), (39, .aload_n 0, 40), (40, .getfield 30, 43), (43, .iload_n 3, 44), (44, .invokevirtual 80, 47), (47, .ifCond .eq 7, 50), (50, .iconst 1, 51), (51, .goto 4, 54), (54, .iconst 0, 55), (55, .ireturn, 56)]
def K_X2_becomes : mm_K := ((yX2_becomes, cX2_becomes, 4, (some .boolean), RX2), (3, 71, 2), (il_X2_becomes, [54, 55], fl_X2, ml_X2))
set_option maxRecDepth 100000 in
theorem ok_X2_becomes : mm_KO K_X2_becomes := ⟨by decide +kernel, fq_X2, mq_X2⟩
theorem mo_X2_becomes : mm_MO K_X2_becomes := ⟨tb_in 842 (by decide +kernel) (by decide +kernel), (fun r h => by cases h; rfl), by decide +kernel, rfl⟩
def il_X2_isSafe : List mm_I := [(0, .aload_n 0, 1), (1, .getfield 63, 4), (4, .bipush (-4), 6), (6, .if_icmp .ne 7, 9), (9, .iconst 1, 10), (10, .goto 4, 13), (13, .iconst 0, 14), (14, .ireturn, 15)]
def K_X2_isSafe : mm_K := ((yX2_isSafe, cX2_isSafe, 1, (some .boolean), RX2), (0, 0, 2), (il_X2_isSafe, [13, 14], fl_X2, ml_X2))
set_option maxRecDepth 100000 in
theorem ok_X2_isSafe : mm_KO K_X2_isSafe := ⟨by decide +kernel, fq_X2, mq_X2⟩
theorem mo_X2_isSafe : mm_MO K_X2_isSafe := ⟨tb_in 870 (by decide +kernel) (by decide +kernel), (fun r h => by cases h; rfl), by decide +kernel, rfl⟩
def il_X2_way : List mm_I := [(0, .aload_n 0, 1), (1, .getfield 41, 4), (4, .areturn, 5)]
def K_X2_way : mm_K := ((yX2_way, cX2_way, 1, (some (.object "CubeChecker$Way")), RX2), (0, 0, 2), (il_X2_way, [], fl_X2, ml_X2))
set_option maxRecDepth 100000 in
theorem ok_X2_way : mm_KO K_X2_way := ⟨by decide +kernel, fq_X2, mq_X2⟩
theorem mo_X2_way : mm_MO K_X2_way := ⟨tb_in 874 (by decide +kernel) (by decide +kernel), (fun r h => by cases h; rfl), by decide +kernel, rfl⟩
def il_X2_goOn : List mm_I := [(0, .aload_n 0, 1), (1, .getfield 11, 4), (4, .iload_n 1, 5), (5, .iaload, 6), (6, .sipush 256, 9), (9, .idiv, 10), (10, .istore_n 2, 11), (11, .aload_n 0, 12), (12, .getfield 27, 15), (15, .invokevirtual 56, 18), (18, .aload_n 0, 19), (19, .getfield 27, 22), (22, .aload_n 0, 23), (23, .getfield 11, 26), (26, .iload_n 1, 27), (27, .iaload, 28), (28, .sipush 256, 31), (31, .irem, 32), (32, .invokevirtual 84, 35), (35, .pop, 36), (36, .iconst 0, 37), (37, .istore_n 3, 38), (38, .iload_n 3, 39), (39, .aload_n 0, 40), (40, .getfield 33, 43), (43, .getfield 91, 46), (46, .if_icmp .ge 68, 49), (49, .aload_n 0, 50), (50, .getfield 33, 53), (53, .getfield 96, 56), (56, .iload_n 3, 57), (57, .aaload, 58), (58, .iconst 0, 59), (59, .iaload, 60), (60, .iload_n 2, 61), (61, .if_icmp .ne 47, 64), (64, .aload_n 0, 65), (65, .getfield 37, 68), (68, .iload_n 3, 69), (69, .aload_n 0, 70), (70, .getfield 45, 73), (73, .aload_n 0, 74), (74, .getfield 27, 77), (77, .aload_n 0, 78), (78, .getfield 30, 81), (81, .invokevirtual 87, 84), (84, .ifCond .eq 24, 87), (87, .aload_n 0, 88), (88, .aload_n 0, 89), (89, .getfield 33, 92), (92, .getfield 96, 95), (95, .iload_n 3, 96), (96, .aaload, 97), (97, .iconst 1, 98), (98, .iaload, 99), (99, .iload_n 1, 100), (100, .bipush 16, 102), (102, .imul, 103), (103, .iload_n 3, 104), (104, .iadd, 105), (105, .invokevirtual 70, 108), (108, .iinc 3 1, 111), (111, .goto (-73), 114), (114, .return_, 115)]
def K_X2_goOn : mm_K := ((yX2_goOn, cX2_goOn, 4, none, RX2), (3, 71, 2), (il_X2_goOn, [38, 108, 114], fl_X2, ml_X2))
set_option maxRecDepth 100000 in
theorem ok_X2_goOn : mm_KO K_X2_goOn := ⟨by decide +kernel, fq_X2, mq_X2⟩
theorem mo_X2_goOn : mm_MO K_X2_goOn := ⟨tb_in 822 (by decide +kernel) (by decide +kernel), (fun r h => by cases h; rfl), by decide +kernel, rfl⟩
def il_X2_addAll : List mm_I := [(0, .aload_n 0, 1), (1, .getfield 45, 4), (4, .iload_n 1, 5), (5, .iaload, 6), (6, .istore_n 3, 7), (7, .iconst 0, 8), (8, .istore 4, 10), (10, .iconst 0, 11), (11, .istore 5, 13), (13, .iload 5, 15), (15, .iconst 1, 16), (16, .iload_n 3, 17), (17, .invokestatic 100, 20), (20, .ishl, 21), (21, .if_icmp .ge 55, 24), (24, .aload_n 0, 25), (25, .getfield 30, 28), (28, .iload 4, 30), (30, .invokevirtual 80, 33), (33, .ifCond .eq 29, 36), (36, .aload_n 0, 37), (37, .getfield 23, 40), (40, .iload_n 1, 41), (41, .sipush 256, 44), (44, .imul, 45), (45, .iload 4, 47), (47, .iadd, 48), (48, .invokevirtual 84, 51), (51, .ifCond .eq 11, 54), (54, .aload_n 0, 55), (55, .iload_n 1, 56), (56, .iload 4, 58), (58, .iload_n 2, 59), (59, .invokevirtual 106, 62), (62, .iload 4, 64), (64, .iload_n 3, 65), (65, .isub, 66), (66, .iload_n 3, 67), (67, .iand, 68), (68, .istore 4, 70), (70, .iinc 5 1, 73), (73, .goto (-60), 76), (76, .return_, 77)]
def K_X2_addAll : mm_K := ((yX2_addAll, cX2_addAll, 6, none, RX2), (1, 23, 2), (il_X2_addAll, [13, 62, 76], fl_X2, ml_X2))
set_option maxRecDepth 100000 in
theorem ok_X2_addAll : mm_KO K_X2_addAll := ⟨by decide +kernel, fq_X2, mq_X2⟩
theorem mo_X2_addAll : mm_MO K_X2_addAll := ⟨tb_in 811 (by decide +kernel) (by decide +kernel), (fun r h => by cases h; rfl), by decide +kernel, rfl⟩
def il_X2_add : List mm_I := [(0, .iload_n 1, 1), (1, .aload_n 0, 2), (2, .getfield 33, 5), (5, .getfield 109, 8), (8, .if_icmp .ne 20, 11), (11, .aload_n 0, 12), (12, .getfield 63, 15), (15, .bipush (-4), 17), (17, .if_icmp .ne 11, 20), (20, .aload_n 0, 21), (21, .aload_n 0, 22), (22, .getfield 59, 25), (25, .putfield 63, 28), (28, .aload_n 0, 29), (29, .getfield 11, 32), (32, .aload_n 0, 33), (33, .getfield 59, 36), (36, .iload_n 1, 37), (37, .sipush 256, 40), (40, .imul, 41), (41, .iload_n 2, 42), (42, .iadd, 43), (43, .iastore, 44), (44, .aload_n 0, 45), (45, .getfield 15, 48), (48, .aload_n 0, 49), (49, .getfield 59, 52), (52, .iload_n 3, 53), (53, .iastore, 54), (54, .aload_n 0, 55), (55, .dup, 56), (56, .getfield 59, 59), (59, .iconst 1, 60), (60, .iadd, 61), (61, .putfield 59, 64), (64, .return_, 65)]
def K_X2_add : mm_K := ((yX2_add, cX2_add, 4, none, RX2), (0, 0, 2), (il_X2_add, [28], fl_X2, ml_X2))
set_option maxRecDepth 100000 in
theorem ok_X2_add : mm_KO K_X2_add := ⟨by decide +kernel, fq_X2, mq_X2⟩
theorem mo_X2_add : mm_MO K_X2_add := ⟨tb_in 818 (by decide +kernel) (by decide +kernel), (fun r h => by cases h; rfl), by decide +kernel, rfl⟩
def il_X2_tracePath : List mm_I := [(0, .aload_n 0, 1), (1, .getfield 41, 4), (4, .invokevirtual 112, 7), (7, .aload_n 0, 8), (8, .getfield 63, 11), (11, .istore_n 1, 12), (12, .iconst 0, 13), (13, .istore_n 2, 14), (14, .iload_n 2, 15), (15, .sipush 2048, 18), (18, .if_icmp .ge 47, 21), (21, .iload_n 1, 22), (22, .ifCond .lt 43, 25), (25, .aload_n 0, 26), (26, .getfield 15, 29), (29, .iload_n 1, 30), (30, .iaload, 31), (31, .ifCond .lt 34, 34), (34, .aload_n 0, 35), (35, .getfield 41, 38), (38, .aload_n 0, 39), (39, .getfield 15, 42), (42, .iload_n 1, 43), (43, .iaload, 44), (44, .bipush 15, 46), (46, .iand, 47), (47, .invokevirtual 115, 50), (50, .aload_n 0, 51), (51, .getfield 15, 54), (54, .iload_n 1, 55), (55, .iaload, 56), (56, .iconst 4, 57), (57, .ishr, 58), (58, .istore_n 1, 59), (59, .iinc 2 1, 62), (62, .goto (-48), 65), (65, .return_, 66)]
def K_X2_tracePath : mm_K := ((yX2_tracePath, cX2_tracePath, 3, none, RX2), (1, 21, 2), (il_X2_tracePath, [14, 65], fl_X2, ml_X2))
set_option maxRecDepth 100000 in
theorem ok_X2_tracePath : mm_KO K_X2_tracePath := ⟨by decide +kernel, fq_X2, mq_X2⟩
theorem mo_X2_tracePath : mm_MO K_X2_tracePath := ⟨tb_in 830 (by decide +kernel) (by decide +kernel), (fun r h => by cases h; rfl), by decide +kernel, rfl⟩
end
section
def fl_X3 : List mm_F := [(22, 5, 2, 0, 2), (62, 5, 3, 0, 3), (56, 5, 5, 2, 5), (59, 5, 6, 2, 6), (65, 5, 7, 2, 7), (48, 5, 8, 2, 8), (18, 3, 0, 2, 0), (9, 3, 1, 2, 1), (15, 3, 2, 2, 2), (34, 3, 3, 0, 3), (28, 3, 4, 0, 4), (31, 3, 5, 0, 5)]
theorem fp_X3_0 : mm_fok RX3 (22, 5, 2, 0, 2) := ⟨RX5, TX5, 9, tyX5, rfl, tb_X5, tyX5_ok, nmX5, by decide, tb_in 119 (by decide +kernel) (by decide +kernel), rfl, rfl, rfl, fun _ => ⟨rfl, rfl⟩, fun h => absurd h (by decide)⟩
theorem fp_X3_1 : mm_fok RX3 (62, 5, 3, 0, 3) := ⟨RX5, TX5, 9, tyX5, rfl, tb_X5, tyX5_ok, nmX5, by decide, tb_in 126 (by decide +kernel) (by decide +kernel), rfl, rfl, rfl, fun _ => ⟨rfl, rfl⟩, fun h => absurd h (by decide)⟩
theorem fp_X3_2 : mm_fok RX3 (56, 5, 5, 2, 5) := ⟨RX5, TX5, 9, tyX5, rfl, tb_X5, tyX5_ok, nmX5, by decide, tb_in 136 (by decide +kernel) (by decide +kernel), rfl, rfl, rfl, fun h => absurd h (by decide), fun h => absurd h (by decide)⟩
theorem fp_X3_3 : mm_fok RX3 (59, 5, 6, 2, 6) := ⟨RX5, TX5, 9, tyX5, rfl, tb_X5, tyX5_ok, nmX5, by decide, tb_in 139 (by decide +kernel) (by decide +kernel), rfl, rfl, rfl, fun h => absurd h (by decide), fun h => absurd h (by decide)⟩
theorem fp_X3_4 : mm_fok RX3 (65, 5, 7, 2, 7) := ⟨RX5, TX5, 9, tyX5, rfl, tb_X5, tyX5_ok, nmX5, by decide, tb_in 142 (by decide +kernel) (by decide +kernel), rfl, rfl, rfl, fun h => absurd h (by decide), fun h => absurd h (by decide)⟩
theorem fp_X3_5 : mm_fok RX3 (48, 5, 8, 2, 8) := ⟨RX5, TX5, 9, tyX5, rfl, tb_X5, tyX5_ok, nmX5, by decide, tb_in 148 (by decide +kernel) (by decide +kernel), rfl, rfl, rfl, fun h => absurd h (by decide), fun h => absurd h (by decide)⟩
theorem fp_X3_6 : mm_fok RX3 (18, 3, 0, 2, 0) := ⟨RX3, TX3, 6, tyX3, rfl, tb_X3, tyX3_ok, nmX3, by decide, tb_in 194 (by decide +kernel) (by decide +kernel), rfl, rfl, rfl, fun h => absurd h (by decide), fun h => absurd h (by decide)⟩
theorem fp_X3_7 : mm_fok RX3 (9, 3, 1, 2, 1) := ⟨RX3, TX3, 6, tyX3, rfl, tb_X3, tyX3_ok, nmX3, by decide, tb_in 195 (by decide +kernel) (by decide +kernel), rfl, rfl, rfl, fun h => absurd h (by decide), fun h => absurd h (by decide)⟩
theorem fp_X3_8 : mm_fok RX3 (15, 3, 2, 2, 2) := ⟨RX3, TX3, 6, tyX3, rfl, tb_X3, tyX3_ok, nmX3, by decide, tb_in 196 (by decide +kernel) (by decide +kernel), rfl, rfl, rfl, fun h => absurd h (by decide), fun h => absurd h (by decide)⟩
theorem fp_X3_9 : mm_fok RX3 (34, 3, 3, 0, 3) := ⟨RX3, TX3, 6, tyX3, rfl, tb_X3, tyX3_ok, nmX3, by decide, tb_in 197 (by decide +kernel) (by decide +kernel), rfl, rfl, rfl, fun _ => ⟨rfl, rfl⟩, fun h => absurd h (by decide)⟩
theorem fp_X3_10 : mm_fok RX3 (28, 3, 4, 0, 4) := ⟨RX3, TX3, 6, tyX3, rfl, tb_X3, tyX3_ok, nmX3, by decide, tb_in 198 (by decide +kernel) (by decide +kernel), rfl, rfl, rfl, fun _ => ⟨rfl, rfl⟩, fun h => absurd h (by decide)⟩
theorem fp_X3_11 : mm_fok RX3 (31, 3, 5, 0, 5) := ⟨RX3, TX3, 6, tyX3, rfl, tb_X3, tyX3_ok, nmX3, by decide, tb_in 199 (by decide +kernel) (by decide +kernel), rfl, rfl, rfl, fun _ => ⟨rfl, rfl⟩, fun h => absurd h (by decide)⟩
theorem fq_X3 : ∀ q ∈ fl_X3, mm_fok RX3 q := List.forall_mem_cons.mpr ⟨fp_X3_0, List.forall_mem_cons.mpr ⟨fp_X3_1, List.forall_mem_cons.mpr ⟨fp_X3_2, List.forall_mem_cons.mpr ⟨fp_X3_3, List.forall_mem_cons.mpr ⟨fp_X3_4, List.forall_mem_cons.mpr ⟨fp_X3_5, List.forall_mem_cons.mpr ⟨fp_X3_6, List.forall_mem_cons.mpr ⟨fp_X3_7, List.forall_mem_cons.mpr ⟨fp_X3_8, List.forall_mem_cons.mpr ⟨fp_X3_9, List.forall_mem_cons.mpr ⟨fp_X3_10, List.forall_mem_cons.mpr ⟨fp_X3_11, fun _ h => absurd h List.not_mem_nil⟩⟩⟩⟩⟩⟩⟩⟩⟩⟩⟩⟩
def ml_X3 : List (Nat × Nat × Nat × MethodName) := [(37, 0, 1, yX3_valuesAt), (41, 0, 1, yX3_findSos), (68, 1, 2, yX3_isSo), (52, 1, 2, yX3_valueOf), (44, 0, 1, yX3_areFirst)]
theorem mp_X3_0 : mm_lok RX3 (37, 0, 1, yX3_valuesAt) := ⟨⟨by decide, by decide, by decide +kernel⟩, tb_in 72 (by decide +kernel) (by decide +kernel), fun _ => ⟨tb_in 353 (by decide +kernel) (by decide +kernel), tb_in 354 (by decide +kernel) (by decide +kernel), tb_in 355 (by decide +kernel) (by decide +kernel)⟩, fun h => absurd h (by decide), fun h => absurd h (by decide), fun h => absurd h (by decide)⟩
theorem mp_X3_1 : mm_lok RX3 (41, 0, 1, yX3_findSos) := ⟨⟨by decide, by decide, by decide +kernel⟩, tb_in 72 (by decide +kernel) (by decide +kernel), fun _ => ⟨tb_in 357 (by decide +kernel) (by decide +kernel), tb_in 359 (by decide +kernel) (by decide +kernel), tb_in 10 (by decide +kernel) (by decide +kernel)⟩, fun h => absurd h (by decide), fun h => absurd h (by decide), fun h => absurd h (by decide)⟩
theorem mp_X3_2 : mm_lok RX3 (68, 1, 2, yX3_isSo) := ⟨⟨by decide, by decide, by decide +kernel⟩, tb_in 72 (by decide +kernel) (by decide +kernel), fun h => absurd h (by decide), fun _ => ⟨tb_in 361 (by decide +kernel) (by decide +kernel), tb_in 362 (by decide +kernel) (by decide +kernel)⟩, fun h => absurd h (by decide), fun h => absurd h (by decide)⟩
theorem mp_X3_3 : mm_lok RX3 (52, 1, 2, yX3_valueOf) := ⟨⟨by decide, by decide, by decide +kernel⟩, tb_in 72 (by decide +kernel) (by decide +kernel), fun h => absurd h (by decide), fun _ => ⟨tb_in 364 (by decide +kernel) (by decide +kernel), tb_in 365 (by decide +kernel) (by decide +kernel)⟩, fun h => absurd h (by decide), fun h => absurd h (by decide)⟩
theorem mp_X3_4 : mm_lok RX3 (44, 0, 1, yX3_areFirst) := ⟨⟨by decide, by decide, by decide +kernel⟩, tb_in 72 (by decide +kernel) (by decide +kernel), fun _ => ⟨tb_in 367 (by decide +kernel) (by decide +kernel), tb_in 369 (by decide +kernel) (by decide +kernel), tb_in 11 (by decide +kernel) (by decide +kernel)⟩, fun h => absurd h (by decide), fun h => absurd h (by decide), fun h => absurd h (by decide)⟩
theorem mq_X3 : ∀ q ∈ ml_X3, mm_lok RX3 q := List.forall_mem_cons.mpr ⟨mp_X3_0, List.forall_mem_cons.mpr ⟨mp_X3_1, List.forall_mem_cons.mpr ⟨mp_X3_2, List.forall_mem_cons.mpr ⟨mp_X3_3, List.forall_mem_cons.mpr ⟨mp_X3_4, fun _ h => absurd h List.not_mem_nil⟩⟩⟩⟩⟩
def il_X3_init : List mm_I := [(0, .aload_n 0, 1), (1, .invokespecial 3, 4), (4, .aload_n 0, 5), (5, .sipush 512, 8), (8, .newarray .int, 10), (10, .putfield 9, 13), (13, .aload_n 0, 14), (14, .sipush 512, 17), (17, .newarray .int, 19), (19, .putfield 15, 22), (22, .aload_n 0, 23), (23, .aload_n 1, 24), (24, .putfield 18, 27), (27, .return_, 28)]
def K_X3_init : mm_K := ((yX3_init, cX3_init, 2, none, RX3), (1, 20, 3), (il_X3_init, [], fl_X3, ml_X3))
set_option maxRecDepth 100000 in
theorem ok_X3_init : mm_KO K_X3_init := ⟨by decide +kernel, fq_X3, mq_X3⟩
theorem mo_X3_init : mm_MO K_X3_init := ⟨tb_in 192 (by decide +kernel) (by decide +kernel), (fun r h => by cases h; rfl), by decide +kernel, rfl⟩
def il_X3_learn : List mm_I := [(0, .aload_n 0, 1), (1, .iconst 1, 2), (2, .iconst 3, 3), (3, .aload_n 0, 4), (4, .getfield 18, 7), (7, .getfield 22, 10), (10, .imul, 11), (11, .ishl, 12), (12, .putfield 28, 15), (15, .aload_n 0, 16), (16, .sipush 512, 19), (19, .iconst 3, 20), (20, .aload_n 0, 21), (21, .getfield 18, 24), (24, .getfield 22, 27), (27, .imul, 28), (28, .ishr, 29), (29, .putfield 31, 32), (32, .aload_n 0, 33), (33, .iconst 0, 34), (34, .putfield 34, 37), (37, .iconst 0, 38), (38, .istore_n 1, 39), (39, .iload_n 1, 40), (40, .aload_n 0, 41), (41, .getfield 28, 44), (44, .if_icmp .ge 54, 47), (47, .aload_n 0, 48), (48, .iload_n 1, 49), (49, .invokevirtual 37, 52), (52, .istore_n 2, 53), (53, .aload_n 0, 54), (54, .getfield 9, 57), (57, .iload_n 2, 58), (58, .aload_n 0, 59), (59, .iload_n 2, 60), (60, .invokevirtual 41, 63), (63, .iastore, 64), (64, .aload_n 0, 65), (65, .iload_n 2, 66), (66, .invokevirtual 44, 69), (69, .ifCond .eq 23, 72), (72, .aload_n 0, 73), (73, .getfield 15, 76), (76, .aload_n 0, 77), (77, .getfield 34, 80), (80, .iload_n 2, 81), (81, .iastore, 82), (82, .aload_n 0, 83), (83, .dup, 84), (84, .getfield 34, 87), (87, .iconst 1, 88), (88, .iadd, 89), (89, .putfield 34, 92), (92, .iinc 1 1, 95), (95, .goto (-56), 98), (98, .return_, 99)]
def K_X3_learn : mm_K := ((yX3_learn, cX3_learn, 3, none, RX3), (3, 67, 3), (il_X3_learn, [39, 92, 98], fl_X3, ml_X3))
set_option maxRecDepth 100000 in
theorem ok_X3_learn : mm_KO K_X3_learn := ⟨by decide +kernel, fq_X3, mq_X3⟩
theorem mo_X3_learn : mm_MO K_X3_learn := ⟨tb_in 352 (by decide +kernel) (by decide +kernel), (fun r h => by cases h; rfl), by decide +kernel, rfl⟩
def il_X3_size : List mm_I := [(0, .aload_n 0, 1), (1, .getfield 28, 4), (4, .ireturn, 5)]
def K_X3_size : mm_K := ((yX3_size, cX3_size, 1, (some .int), RX3), (0, 0, 3), (il_X3_size, [], fl_X3, ml_X3))
set_option maxRecDepth 100000 in
theorem ok_X3_size : mm_KO K_X3_size := ⟨by decide +kernel, fq_X3, mq_X3⟩
theorem mo_X3_size : mm_MO K_X3_size := ⟨tb_in 395 (by decide +kernel) (by decide +kernel), (fun r h => by cases h; rfl), by decide +kernel, rfl⟩
def il_X3_valuesAt : List mm_I := [(0, .iload_n 1, 1), (1, .aload_n 0, 2), (2, .getfield 31, 5), (5, .imul, 6), (6, .ireturn, 7)]
def K_X3_valuesAt : mm_K := ((yX3_valuesAt, cX3_valuesAt, 2, (some .int), RX3), (0, 0, 3), (il_X3_valuesAt, [], fl_X3, ml_X3))
set_option maxRecDepth 100000 in
theorem ok_X3_valuesAt : mm_KO K_X3_valuesAt := ⟨by decide +kernel, fq_X3, mq_X3⟩
theorem mo_X3_valuesAt : mm_MO K_X3_valuesAt := ⟨tb_in 356 (by decide +kernel) (by decide +kernel), (fun r h => by cases h; rfl), by decide +kernel, rfl⟩
def il_X3_valuesOf : List mm_I := [(0, .bipush 64, 2), (2, .iload_n 1, 3), (3, .imul, 4), (4, .bipush 8, 6), (6, .iload_n 2, 7), (7, .imul, 8), (8, .iadd, 9), (9, .iload_n 3, 10), (10, .iadd, 11), (11, .aload_n 0, 12), (12, .getfield 31, 15), (15, .ineg, 16), (16, .iand, 17), (17, .ireturn, 18)]
def K_X3_valuesOf : mm_K := ((yX3_valuesOf, cX3_valuesOf, 4, (some .int), RX3), (0, 0, 3), (il_X3_valuesOf, [], fl_X3, ml_X3))
set_option maxRecDepth 100000 in
theorem ok_X3_valuesOf : mm_KO K_X3_valuesOf := ⟨by decide +kernel, fq_X3, mq_X3⟩
theorem mo_X3_valuesOf : mm_MO K_X3_valuesOf := ⟨tb_in 516 (by decide +kernel) (by decide +kernel), (fun r h => by cases h; rfl), by decide +kernel, rfl⟩
def il_X3_firsts : List mm_I := [(0, .aload_n 0, 1), (1, .getfield 34, 4), (4, .ireturn, 5)]
def K_X3_firsts : mm_K := ((yX3_firsts, cX3_firsts, 1, (some .int), RX3), (0, 0, 3), (il_X3_firsts, [], fl_X3, ml_X3))
set_option maxRecDepth 100000 in
theorem ok_X3_firsts : mm_KO K_X3_firsts := ⟨by decide +kernel, fq_X3, mq_X3⟩
theorem mo_X3_firsts : mm_MO K_X3_firsts := ⟨tb_in 409 (by decide +kernel) (by decide +kernel), (fun r h => by cases h; rfl), by decide +kernel, rfl⟩
def il_X3_firstAt : List mm_I := [(0, .aload_n 0, 1), (1, .getfield 15, 4), (4, .iload_n 1, 5), (5, .iaload, 6), (6, .ireturn, 7)]
def K_X3_firstAt : mm_K := ((yX3_firstAt, cX3_firstAt, 2, (some .int), RX3), (0, 0, 3), (il_X3_firstAt, [], fl_X3, ml_X3))
set_option maxRecDepth 100000 in
theorem ok_X3_firstAt : mm_KO K_X3_firstAt := ⟨by decide +kernel, fq_X3, mq_X3⟩
theorem mo_X3_firstAt : mm_MO K_X3_firstAt := ⟨tb_in 413 (by decide +kernel) (by decide +kernel), (fun r h => by cases h; rfl), by decide +kernel, rfl⟩
def il_X3_sosOf : List mm_I := [(0, .aload_n 0, 1), (1, .getfield 9, 4), (4, .iload_n 1, 5), (5, .iaload, 6), (6, .ireturn, 7)]
def K_X3_sosOf : mm_K := ((yX3_sosOf, cX3_sosOf, 2, (some .int), RX3), (0, 0, 3), (il_X3_sosOf, [], fl_X3, ml_X3))
set_option maxRecDepth 100000 in
theorem ok_X3_sosOf : mm_KO K_X3_sosOf := ⟨by decide +kernel, fq_X3, mq_X3⟩
theorem mo_X3_sosOf : mm_MO K_X3_sosOf := ⟨tb_in 400 (by decide +kernel) (by decide +kernel), (fun r h => by cases h; rfl), by decide +kernel, rfl⟩
def il_X3_after : List mm_I := [(0, .aload_n 0, 1), (1, .getfield 18, 4), (4, .getfield 48, 7), (7, .iload_n 1, 8), (8, .aaload, 9), (9, .astore_n 3, 10), (10, .aload_n 3, 11), (11, .iconst 2, 12), (12, .iaload, 13), (13, .bipush 9, 15), (15, .if_icmp .eq 24, 18), (18, .aload_n 0, 19), (19, .getfield 9, 22), (22, .iload_n 2, 23), (23, .iaload, 24), (24, .aload_n 3, 25), (25, .iconst 2, 26), (26, .iaload, 27), (27, .ishr, 28), (28, .iconst 1, 29), (29, .iand, 30), (30, .aload_n 3, 31), (31, .iconst 3, 32), (32, .iaload, 33), (33, .if_icmp .eq 6, 36), (36, .bipush (-2), 38), (38, .ireturn, 39), (39, .aload_n 3, 40), (40, .iconst 4, 41), (41, .iaload, 42), (42, .ifCond .ne 5, 45), (45, .iload_n 2, 46), (46, .ireturn, 47), (47, .iload_n 2, 48), (48, .aload_n 3, 49), (49, .iconst 5, 50), (50, .iaload, 51), (51, .invokestatic 52, 54), (54, .istore 4, 56), (56, .aload_n 3, 57), (57, .bipush 6, 59), (59, .iaload, 60), (60, .istore 5, 62), (62, .aload_n 3, 63), (63, .iconst 4, 64), (64, .iaload, 65), (65, .tableswitch 69 1 4 #[31, 38, 48, 58], 96), (96, .iload 5, 98), (98, .istore 6, 100), (100, .goto 45, 103), (103, .iload 4, 105), (105, .iload 5, 107), (107, .iadd, 108), (108, .istore 6, 110), (110, .goto 35, 113), (113, .iload 4, 115), (115, .iload 5, 117), (117, .isub, 118), (118, .istore 6, 120), (120, .goto 25, 123), (123, .iload_n 2, 124), (124, .iload 5, 126), (126, .invokestatic 52, 129), (129, .istore 6, 131), (131, .goto 14, 134), (134, .iload 4, 136), (136, .iload_n 2, 137), (137, .iload 5, 139), (139, .invokestatic 52, 142), (142, .iadd, 143), (143, .istore 6, 145), (145, .iload 6, 147), (147, .ifCond .lt 10, 150), (150, .iload 6, 152), (152, .bipush 7, 154), (154, .if_icmp .le 6, 157), (157, .bipush (-2), 159), (159, .ireturn, 160), (160, .iload_n 2, 161), (161, .iload 6, 163), (163, .iload 4, 165), (165, .isub, 166), (166, .bipush 6, 168), (168, .iconst 3, 169), (169, .aload_n 3, 170), (170, .iconst 5, 171), (171, .iaload, 172), (172, .imul, 173), (173, .isub, 174), (174, .ishl, 175), (175, .iadd, 176), (176, .ireturn, 177)]
def K_X3_after : mm_K := ((yX3_after, cX3_after, 7, (some .int), RX3), (1, 21, 3), (il_X3_after, [39, 47, 145, 157, 160], fl_X3, ml_X3))
set_option maxRecDepth 100000 in
theorem ok_X3_after : mm_KO K_X3_after := ⟨by decide +kernel, fq_X3, mq_X3⟩
theorem mo_X3_after : mm_MO K_X3_after := ⟨tb_in 525 (by decide +kernel) (by decide +kernel), (fun r h => by cases h; rfl), by decide +kernel, rfl⟩
def il_X3_areFirst : List mm_I := [(0, .iconst 0, 1), (1, .istore_n 2, 2), (2, .iload_n 2, 3), (3, .aload_n 0, 4), (4, .getfield 18, 7), (7, .getfield 22, 10), (10, .if_icmp .ge 43, 13), (13, .iload_n 1, 14), (14, .iload_n 2, 15), (15, .invokestatic 52, 18), (18, .istore_n 3, 19), (19, .iload_n 3, 20), (20, .aload_n 0, 21), (21, .getfield 18, 24), (24, .getfield 56, 27), (27, .iload_n 2, 28), (28, .iaload, 29), (29, .if_icmp .lt 16, 32), (32, .iload_n 3, 33), (33, .aload_n 0, 34), (34, .getfield 18, 37), (37, .getfield 59, 40), (40, .iload_n 2, 41), (41, .iaload, 42), (42, .if_icmp .le 5, 45), (45, .iconst 0, 46), (46, .ireturn, 47), (47, .iinc 2 1, 50), (50, .goto (-48), 53), (53, .iconst 1, 54), (54, .ireturn, 55)]
def K_X3_areFirst : mm_K := ((yX3_areFirst, cX3_areFirst, 4, (some .boolean), RX3), (1, 21, 3), (il_X3_areFirst, [2, 45, 47, 53], fl_X3, ml_X3))
set_option maxRecDepth 100000 in
theorem ok_X3_areFirst : mm_KO K_X3_areFirst := ⟨by decide +kernel, fq_X3, mq_X3⟩
theorem mo_X3_areFirst : mm_MO K_X3_areFirst := ⟨tb_in 370 (by decide +kernel) (by decide +kernel), (fun r h => by cases h; rfl), by decide +kernel, rfl⟩
def il_X3_findSos : List mm_I := [(0, .iconst 0, 1), (1, .istore_n 2, 2), (2, .iconst 0, 3), (3, .istore_n 3, 4), (4, .iload_n 3, 5), (5, .aload_n 0, 6), (6, .getfield 18, 9), (9, .getfield 62, 12), (12, .if_icmp .ge 31, 15), (15, .aload_n 0, 16), (16, .getfield 18, 19), (19, .getfield 65, 22), (22, .iload_n 3, 23), (23, .aaload, 24), (24, .iload_n 1, 25), (25, .invokestatic 68, 28), (28, .ifCond .eq 9, 31), (31, .iload_n 2, 32), (32, .iconst 1, 33), (33, .iload_n 3, 34), (34, .ishl, 35), (35, .ior, 36), (36, .istore_n 2, 37), (37, .iinc 3 1, 40), (40, .goto (-36), 43), (43, .iload_n 2, 44), (44, .ireturn, 45)]
def K_X3_findSos : mm_K := ((yX3_findSos, cX3_findSos, 4, (some .int), RX3), (2, 44, 3), (il_X3_findSos, [4, 37, 43], fl_X3, ml_X3))
set_option maxRecDepth 100000 in
theorem ok_X3_findSos : mm_KO K_X3_findSos := ⟨by decide +kernel, fq_X3, mq_X3⟩
theorem mo_X3_findSos : mm_MO K_X3_findSos := ⟨tb_in 360 (by decide +kernel) (by decide +kernel), (fun r h => by cases h; rfl), by decide +kernel, rfl⟩
def il_X3_isSo : List mm_I := [(0, .iload_n 1, 1), (1, .aload_n 0, 2), (2, .iconst 1, 3), (3, .iaload, 4), (4, .invokestatic 52, 7), (7, .istore_n 2, 8), (8, .aload_n 0, 9), (9, .iconst 2, 10), (10, .iaload, 11), (11, .istore_n 3, 12), (12, .aload_n 0, 13), (13, .iconst 0, 14), (14, .iaload, 15), (15, .tableswitch 81 0 3 #[29, 40, 51, 66], 44), (44, .iload_n 2, 45), (45, .iload_n 3, 46), (46, .if_icmp .ge 7, 49), (49, .iconst 1, 50), (50, .goto 4, 53), (53, .iconst 0, 54), (54, .ireturn, 55), (55, .iload_n 2, 56), (56, .iload_n 3, 57), (57, .if_icmp .ne 7, 60), (60, .iconst 1, 61), (61, .goto 4, 64), (64, .iconst 0, 65), (65, .ireturn, 66), (66, .iload_n 2, 67), (67, .iload_n 1, 68), (68, .iload_n 3, 69), (69, .invokestatic 52, 72), (72, .if_icmp .ge 7, 75), (75, .iconst 1, 76), (76, .goto 4, 79), (79, .iconst 0, 80), (80, .ireturn, 81), (81, .iload_n 2, 82), (82, .iload_n 1, 83), (83, .iload_n 3, 84), (84, .invokestatic 52, 87), (87, .if_icmp .ne 7, 90), (90, .iconst 1, 91), (91, .goto 4, 94), (94, .iconst 0, 95), (95, .ireturn, 96), (96, .iload_n 2, 97), (97, .iload_n 1, 98), (98, .iload_n 3, 99), (99, .invokestatic 52, 102), (102, .iadd, 103), (103, .bipush 8, 105), (105, .if_icmp .ge 7, 108), (108, .iconst 1, 109), (109, .goto 4, 112), (112, .iconst 0, 113), (113, .ireturn, 114)]
def K_X3_isSo : mm_K := ((yX3_isSo, cX3_isSo, 4, (some .boolean), RX3), (1, 21, 3), (il_X3_isSo, [53, 54, 64, 65, 79, 80, 94, 95, 112, 113], fl_X3, ml_X3))
set_option maxRecDepth 100000 in
theorem ok_X3_isSo : mm_KO K_X3_isSo := ⟨by decide +kernel, fq_X3, mq_X3⟩
theorem mo_X3_isSo : mm_MO K_X3_isSo := ⟨tb_in 363 (by decide +kernel) (by decide +kernel), (fun r h => by cases h; rfl), by decide +kernel, rfl⟩
def il_X3_valueOf : List mm_I := [(0, .iload_n 0, 1), (1, .bipush 6, 3), (3, .iconst 3, 4), (4, .iload_n 1, 5), (5, .imul, 6), (6, .isub, 7), (7, .ishr, 8), (8, .bipush 7, 10), (10, .iand, 11), (11, .ireturn, 12)]
def K_X3_valueOf : mm_K := ((yX3_valueOf, cX3_valueOf, 2, (some .int), RX3), (0, 0, 3), (il_X3_valueOf, [], fl_X3, ml_X3))
set_option maxRecDepth 100000 in
theorem ok_X3_valueOf : mm_KO K_X3_valueOf := ⟨by decide +kernel, fq_X3, mq_X3⟩
theorem mo_X3_valueOf : mm_MO K_X3_valueOf := ⟨tb_in 366 (by decide +kernel) (by decide +kernel), (fun r h => by cases h; rfl), by decide +kernel, rfl⟩
end
section
def fl_X4 : List mm_F := [(13, 4, 0, 2, 0)]
theorem fp_X4_0 : mm_fok RX4 (13, 4, 0, 2, 0) := ⟨RX4, TX4, 1, tyX4, rfl, tb_X4, tyX4_ok, nmX4, by decide, tb_in 553 (by decide +kernel) (by decide +kernel), rfl, rfl, rfl, fun h => absurd h (by decide), fun h => absurd h (by decide)⟩
theorem fq_X4 : ∀ q ∈ fl_X4, mm_fok RX4 q := List.forall_mem_cons.mpr ⟨fp_X4_0, fun _ h => absurd h List.not_mem_nil⟩
def ml_X4 : List (Nat × Nat × Nat × MethodName) := [(19, 1, 2, yJ7_fill_53178), (7, 1, 2, yJ9_max_7cf53)]
theorem mp_X4_0 : mm_lok RX4 (19, 1, 2, yJ7_fill_53178) := ⟨⟨by decide, by decide, by decide +kernel⟩, tb_in 79 (by decide +kernel) (by decide +kernel), fun h => absurd h (by decide), fun _ => ⟨tb_in 405 (by decide +kernel) (by decide +kernel), tb_in 372 (by decide +kernel) (by decide +kernel)⟩, fun h => absurd h (by decide), fun h => absurd h (by decide)⟩
theorem mp_X4_1 : mm_lok RX4 (7, 1, 2, yJ9_max_7cf53) := ⟨⟨by decide, by decide, by decide +kernel⟩, tb_in 81 (by decide +kernel) (by decide +kernel), fun h => absurd h (by decide), fun _ => ⟨tb_in 550 (by decide +kernel) (by decide +kernel), tb_in 551 (by decide +kernel) (by decide +kernel)⟩, fun h => absurd h (by decide), fun h => absurd h (by decide)⟩
theorem mq_X4 : ∀ q ∈ ml_X4, mm_lok RX4 q := List.forall_mem_cons.mpr ⟨mp_X4_0, List.forall_mem_cons.mpr ⟨mp_X4_1, fun _ h => absurd h List.not_mem_nil⟩⟩
def il_X4_init : List mm_I := [(0, .aload_n 0, 1), (1, .invokespecial 1, 4), (4, .aload_n 0, 5), (5, .iload_n 1, 6), (6, .iconst 0, 7), (7, .invokestatic 7, 10), (10, .bipush 32, 12), (12, .idiv, 13), (13, .newarray .int, 15), (15, .putfield 13, 18), (18, .return_, 19)]
def K_X4_init : mm_K := ((yX4_init, cX4_init, 2, none, RX4), (1, 21, 4), (il_X4_init, [], fl_X4, ml_X4))
set_option maxRecDepth 100000 in
theorem ok_X4_init : mm_KO K_X4_init := ⟨by decide +kernel, fq_X4, mq_X4⟩
theorem mo_X4_init : mm_MO K_X4_init := ⟨tb_in 548 (by decide +kernel) (by decide +kernel), (fun r h => by cases h; rfl), by decide +kernel, rfl⟩
def il_X4_empty : List mm_I := [(0, .aload_n 0, 1), (1, .getfield 13, 4), (4, .iconst 0, 5), (5, .invokestatic 19, 8), (8, .return_, 9)]
def K_X4_empty : mm_K := ((yX4_empty, cX4_empty, 1, none, RX4), (1, 23, 4), (il_X4_empty, [], fl_X4, ml_X4))
set_option maxRecDepth 100000 in
theorem ok_X4_empty : mm_KO K_X4_empty := ⟨by decide +kernel, fq_X4, mq_X4⟩
theorem mo_X4_empty : mm_MO K_X4_empty := ⟨tb_in 404 (by decide +kernel) (by decide +kernel), (fun r h => by cases h; rfl), by decide +kernel, rfl⟩
def il_X4_has : List mm_I := [(0, .aload_n 0, 1), (1, .getfield 13, 4), (4, .iload_n 1, 5), (5, .iconst 5, 6), (6, .ishr, 7), (7, .iaload, 8), (8, .iload_n 1, 9), (9, .bipush 31, 11), (11, .iand, 12), (12, .ishr, 13), (13, .iconst 1, 14), (14, .iand, 15), (15, .iconst 1, 16), (16, .if_icmp .ne 7, 19), (19, .iconst 1, 20), (20, .goto 4, 23), (23, .iconst 0, 24), (24, .ireturn, 25)]
def K_X4_has : mm_K := ((yX4_has, cX4_has, 2, (some .boolean), RX4), (0, 0, 4), (il_X4_has, [23, 24], fl_X4, ml_X4))
set_option maxRecDepth 100000 in
theorem ok_X4_has : mm_KO K_X4_has := ⟨by decide +kernel, fq_X4, mq_X4⟩
theorem mo_X4_has : mm_MO K_X4_has := ⟨tb_in 807 (by decide +kernel) (by decide +kernel), (fun r h => by cases h; rfl), by decide +kernel, rfl⟩
def il_X4_add : List mm_I := [(0, .aload_n 0, 1), (1, .getfield 13, 4), (4, .iload_n 1, 5), (5, .iconst 5, 6), (6, .ishr, 7), (7, .iaload, 8), (8, .istore_n 2, 9), (9, .aload_n 0, 10), (10, .getfield 13, 13), (13, .iload_n 1, 14), (14, .iconst 5, 15), (15, .ishr, 16), (16, .iload_n 2, 17), (17, .iconst 1, 18), (18, .iload_n 1, 19), (19, .bipush 31, 21), (21, .iand, 22), (22, .ishl, 23), (23, .ior, 24), (24, .iastore, 25), (25, .aload_n 0, 26), (26, .getfield 13, 29), (29, .iload_n 1, 30), (30, .iconst 5, 31), (31, .ishr, 32), (32, .iaload, 33), (33, .iload_n 2, 34), (34, .if_icmp .eq 7, 37), (37, .iconst 1, 38), (38, .goto 4, 41), (41, .iconst 0, 42), (42, .ireturn, 43)]
def K_X4_add : mm_K := ((yX4_add, cX4_add, 3, (some .boolean), RX4), (0, 0, 4), (il_X4_add, [41, 42], fl_X4, ml_X4))
set_option maxRecDepth 100000 in
theorem ok_X4_add : mm_KO K_X4_add := ⟨by decide +kernel, fq_X4, mq_X4⟩
theorem mo_X4_add : mm_MO K_X4_add := ⟨tb_in 417 (by decide +kernel) (by decide +kernel), (fun r h => by cases h; rfl), by decide +kernel, rfl⟩
end
section
def fl_X5 : List mm_F := [(26, 5, 0, 0, 0), (30, 5, 1, 0, 1), (33, 5, 2, 0, 2), (36, 5, 3, 0, 3), (39, 5, 4, 0, 4), (9, 5, 5, 2, 5), (15, 5, 6, 2, 6), (20, 5, 7, 2, 7), (23, 5, 8, 2, 8)]
theorem fp_X5_0 : mm_fok RX5 (26, 5, 0, 0, 0) := ⟨RX5, TX5, 9, tyX5, rfl, tb_X5, tyX5_ok, nmX5, by decide, tb_in 110 (by decide +kernel) (by decide +kernel), rfl, rfl, rfl, fun _ => ⟨rfl, rfl⟩, fun h => absurd h (by decide)⟩
theorem fp_X5_1 : mm_fok RX5 (30, 5, 1, 0, 1) := ⟨RX5, TX5, 9, tyX5, rfl, tb_X5, tyX5_ok, nmX5, by decide, tb_in 114 (by decide +kernel) (by decide +kernel), rfl, rfl, rfl, fun _ => ⟨rfl, rfl⟩, fun h => absurd h (by decide)⟩
theorem fp_X5_2 : mm_fok RX5 (33, 5, 2, 0, 2) := ⟨RX5, TX5, 9, tyX5, rfl, tb_X5, tyX5_ok, nmX5, by decide, tb_in 120 (by decide +kernel) (by decide +kernel), rfl, rfl, rfl, fun _ => ⟨rfl, rfl⟩, fun h => absurd h (by decide)⟩
theorem fp_X5_3 : mm_fok RX5 (36, 5, 3, 0, 3) := ⟨RX5, TX5, 9, tyX5, rfl, tb_X5, tyX5_ok, nmX5, by decide, tb_in 123 (by decide +kernel) (by decide +kernel), rfl, rfl, rfl, fun _ => ⟨rfl, rfl⟩, fun h => absurd h (by decide)⟩
theorem fp_X5_4 : mm_fok RX5 (39, 5, 4, 0, 4) := ⟨RX5, TX5, 9, tyX5, rfl, tb_X5, tyX5_ok, nmX5, by decide, tb_in 129 (by decide +kernel) (by decide +kernel), rfl, rfl, rfl, fun _ => ⟨rfl, rfl⟩, fun h => absurd h (by decide)⟩
theorem fp_X5_5 : mm_fok RX5 (9, 5, 5, 2, 5) := ⟨RX5, TX5, 9, tyX5, rfl, tb_X5, tyX5_ok, nmX5, by decide, tb_in 135 (by decide +kernel) (by decide +kernel), rfl, rfl, rfl, fun h => absurd h (by decide), fun h => absurd h (by decide)⟩
theorem fp_X5_6 : mm_fok RX5 (15, 5, 6, 2, 6) := ⟨RX5, TX5, 9, tyX5, rfl, tb_X5, tyX5_ok, nmX5, by decide, tb_in 138 (by decide +kernel) (by decide +kernel), rfl, rfl, rfl, fun h => absurd h (by decide), fun h => absurd h (by decide)⟩
theorem fp_X5_7 : mm_fok RX5 (20, 5, 7, 2, 7) := ⟨RX5, TX5, 9, tyX5, rfl, tb_X5, tyX5_ok, nmX5, by decide, tb_in 141 (by decide +kernel) (by decide +kernel), rfl, rfl, rfl, fun h => absurd h (by decide), fun h => absurd h (by decide)⟩
theorem fp_X5_8 : mm_fok RX5 (23, 5, 8, 2, 8) := ⟨RX5, TX5, 9, tyX5, rfl, tb_X5, tyX5_ok, nmX5, by decide, tb_in 144 (by decide +kernel) (by decide +kernel), rfl, rfl, rfl, fun h => absurd h (by decide), fun h => absurd h (by decide)⟩
theorem fq_X5 : ∀ q ∈ fl_X5, mm_fok RX5 q := List.forall_mem_cons.mpr ⟨fp_X5_0, List.forall_mem_cons.mpr ⟨fp_X5_1, List.forall_mem_cons.mpr ⟨fp_X5_2, List.forall_mem_cons.mpr ⟨fp_X5_3, List.forall_mem_cons.mpr ⟨fp_X5_4, List.forall_mem_cons.mpr ⟨fp_X5_5, List.forall_mem_cons.mpr ⟨fp_X5_6, List.forall_mem_cons.mpr ⟨fp_X5_7, List.forall_mem_cons.mpr ⟨fp_X5_8, fun _ h => absurd h List.not_mem_nil⟩⟩⟩⟩⟩⟩⟩⟩⟩
def ml_X5 : List (Nat × Nat × Nat × MethodName) := []
theorem mq_X5 : ∀ q ∈ ml_X5, mm_lok RX5 q := fun _ h => absurd h List.not_mem_nil
def il_X5_init : List mm_I := [(0, .aload_n 0, 1), (1, .invokespecial 3, 4), (4, .aload_n 0, 5), (5, .iconst 3, 6), (6, .newarray .int, 8), (8, .putfield 9, 11), (11, .aload_n 0, 12), (12, .iconst 3, 13), (13, .newarray .int, 15), (15, .putfield 15, 18), (18, .aload_n 0, 19), (19, .bipush 8, 21), (21, .iconst 3, 22), (22, .multianewarray 18 2, 26), (26, .putfield 20, 29), (29, .aload_n 0, 30), (30, .bipush 14, 32), (32, .bipush 7, 34), (34, .multianewarray 18 2, 38), (38, .putfield 23, 41), (41, .return_, 42)]
def K_X5_init : mm_K := ((yX5_init, cX5_init, 1, none, RX5), (1, 20, 5), (il_X5_init, [], fl_X5, ml_X5))
set_option maxRecDepth 100000 in
theorem ok_X5_init : mm_KO K_X5_init := ⟨by decide +kernel, fq_X5, mq_X5⟩
theorem mo_X5_init : mm_MO K_X5_init := ⟨tb_in 106 (by decide +kernel) (by decide +kernel), (fun r h => by cases h; rfl), by decide +kernel, rfl⟩
def il_X5_empty : List mm_I := [(0, .aload_n 0, 1), (1, .iconst 0, 2), (2, .putfield 26, 5), (5, .aload_n 0, 6), (6, .iconst 0, 7), (7, .putfield 30, 10), (10, .aload_n 0, 11), (11, .iconst 0, 12), (12, .putfield 33, 15), (15, .aload_n 0, 16), (16, .iconst 0, 17), (17, .putfield 36, 20), (20, .aload_n 0, 21), (21, .iconst 0, 22), (22, .putfield 39, 25), (25, .return_, 26)]
def K_X5_empty : mm_K := ((yX5_empty, cX5_empty, 1, none, RX5), (0, 0, 5), (il_X5_empty, [], fl_X5, ml_X5))
set_option maxRecDepth 100000 in
theorem ok_X5_empty : mm_KO K_X5_empty := ⟨by decide +kernel, fq_X5, mq_X5⟩
theorem mo_X5_empty : mm_MO K_X5_empty := ⟨tb_in 297 (by decide +kernel) (by decide +kernel), (fun r h => by cases h; rfl), by decide +kernel, rfl⟩
def il_X5_become : List mm_I := [(0, .aload_n 0, 1), (1, .aload_n 1, 2), (2, .getfield 26, 5), (5, .putfield 26, 8), (8, .aload_n 0, 9), (9, .aload_n 1, 10), (10, .getfield 30, 13), (13, .putfield 30, 16), (16, .aload_n 0, 17), (17, .aload_n 1, 18), (18, .getfield 33, 21), (21, .putfield 33, 24), (24, .aload_n 0, 25), (25, .aload_n 1, 26), (26, .getfield 36, 29), (29, .putfield 36, 32), (32, .aload_n 0, 33), (33, .aload_n 1, 34), (34, .getfield 39, 37), (37, .putfield 39, 40), (40, .aload_n 1, 41), (41, .getfield 9, 44), (44, .iconst 0, 45), (45, .aload_n 0, 46), (46, .getfield 9, 49), (49, .iconst 0, 50), (50, .iconst 3, 51), (51, .invokestatic 42, 54), (54, .aload_n 1, 55), (55, .getfield 15, 58), (58, .iconst 0, 59), (59, .aload_n 0, 60), (60, .getfield 15, 63), (63, .iconst 0, 64), (64, .iconst 3, 65), (65, .invokestatic 42, 68), (68, .iconst 0, 69), (69, .istore_n 2, 70), (70, .iload_n 2, 71), (71, .bipush 8, 73), (73, .if_icmp .ge 27, 76), (76, .aload_n 1, 77), (77, .getfield 20, 80), (80, .iload_n 2, 81), (81, .aaload, 82), (82, .iconst 0, 83), (83, .aload_n 0, 84), (84, .getfield 20, 87), (87, .iload_n 2, 88), (88, .aaload, 89), (89, .iconst 0, 90), (90, .iconst 3, 91), (91, .invokestatic 42, 94), (94, .iinc 2 1, 97), (97, .goto (-27), 100), (100, .iconst 0, 101), (101, .istore_n 2, 102), (102, .iload_n 2, 103), (103, .bipush 14, 105), (105, .if_icmp .ge 28, 108), (108, .aload_n 1, 109), (109, .getfield 23, 112), (112, .iload_n 2, 113), (113, .aaload, 114), (114, .iconst 0, 115), (115, .aload_n 0, 116), (116, .getfield 23, 119), (119, .iload_n 2, 120), (120, .aaload, 121), (121, .iconst 0, 122), (122, .bipush 7, 124), (124, .invokestatic 42, 127), (127, .iinc 2 1, 130), (130, .goto (-28), 133), (133, .return_, 134)]
def K_X5_become : mm_K := ((yX5_become, cX5_become, 3, none, RX5), (1, 24, 5), (il_X5_become, [70, 100, 102, 133], fl_X5, ml_X5))
set_option maxRecDepth 100000 in
theorem ok_X5_become : mm_KO K_X5_become := ⟨by decide +kernel, fq_X5, mq_X5⟩
theorem mo_X5_become : mm_MO K_X5_become := ⟨tb_in 347 (by decide +kernel) (by decide +kernel), (fun r h => by cases h; rfl), by decide +kernel, rfl⟩
def il_X5_wants : List mm_I := [(0, .iconst 0, 1), (1, .istore_n 1, 2), (2, .iconst 0, 3), (3, .istore_n 2, 4), (4, .iload_n 2, 5), (5, .aload_n 0, 6), (6, .getfield 39, 9), (9, .if_icmp .ge 22, 12), (12, .iload_n 1, 13), (13, .aload_n 0, 14), (14, .getfield 23, 17), (17, .iload_n 2, 18), (18, .aaload, 19), (19, .iconst 3, 20), (20, .iaload, 21), (21, .iload_n 2, 22), (22, .ishl, 23), (23, .ior, 24), (24, .istore_n 1, 25), (25, .iinc 2 1, 28), (28, .goto (-24), 31), (31, .iload_n 1, 32), (32, .ireturn, 33)]
def K_X5_wants : mm_K := ((yX5_wants, cX5_wants, 3, (some .int), RX5), (0, 0, 5), (il_X5_wants, [4, 31], fl_X5, ml_X5))
set_option maxRecDepth 100000 in
theorem ok_X5_wants : mm_KO K_X5_wants := ⟨by decide +kernel, fq_X5, mq_X5⟩
theorem mo_X5_wants : mm_MO K_X5_wants := ⟨tb_in 490 (by decide +kernel) (by decide +kernel), (fun r h => by cases h; rfl), by decide +kernel, rfl⟩
def il_X5_setWants : List mm_I := [(0, .iconst 0, 1), (1, .istore_n 2, 2), (2, .iload_n 2, 3), (3, .aload_n 0, 4), (4, .getfield 39, 7), (7, .if_icmp .ge 22, 10), (10, .aload_n 0, 11), (11, .getfield 23, 14), (14, .iload_n 2, 15), (15, .aaload, 16), (16, .iconst 3, 17), (17, .iload_n 1, 18), (18, .iload_n 2, 19), (19, .ishr, 20), (20, .iconst 1, 21), (21, .iand, 22), (22, .iastore, 23), (23, .iinc 2 1, 26), (26, .goto (-24), 29), (29, .return_, 30)]
def K_X5_setWants : mm_K := ((yX5_setWants, cX5_setWants, 3, none, RX5), (0, 0, 5), (il_X5_setWants, [2, 29], fl_X5, ml_X5))
set_option maxRecDepth 100000 in
theorem ok_X5_setWants : mm_KO K_X5_setWants := ⟨by decide +kernel, fq_X5, mq_X5⟩
theorem mo_X5_setWants : mm_MO K_X5_setWants := ⟨tb_in 951 (by decide +kernel) (by decide +kernel), (fun r h => by cases h; rfl), by decide +kernel, rfl⟩
end
section
def fl_X6 : List mm_F := [(48, 5, 1, 0, 1), (81, 5, 3, 0, 3), (84, 5, 4, 0, 4), (87, 5, 8, 2, 8), (36, 6, 0, 2, 0), (40, 6, 1, 2, 1), (11, 6, 2, 2, 2), (15, 6, 3, 2, 3), (23, 6, 4, 2, 4), (27, 6, 5, 2, 5), (30, 6, 6, 2, 6), (33, 6, 7, 2, 7), (70, 6, 8, 0, 8), (44, 6, 9, 0, 9)]
theorem fp_X6_0 : mm_fok RX6 (48, 5, 1, 0, 1) := ⟨RX5, TX5, 9, tyX5, rfl, tb_X5, tyX5_ok, nmX5, by decide, tb_in 115 (by decide +kernel) (by decide +kernel), rfl, rfl, rfl, fun _ => ⟨rfl, rfl⟩, fun h => absurd h (by decide)⟩
theorem fp_X6_1 : mm_fok RX6 (81, 5, 3, 0, 3) := ⟨RX5, TX5, 9, tyX5, rfl, tb_X5, tyX5_ok, nmX5, by decide, tb_in 124 (by decide +kernel) (by decide +kernel), rfl, rfl, rfl, fun _ => ⟨rfl, rfl⟩, fun h => absurd h (by decide)⟩
theorem fp_X6_2 : mm_fok RX6 (84, 5, 4, 0, 4) := ⟨RX5, TX5, 9, tyX5, rfl, tb_X5, tyX5_ok, nmX5, by decide, tb_in 131 (by decide +kernel) (by decide +kernel), rfl, rfl, rfl, fun _ => ⟨rfl, rfl⟩, fun h => absurd h (by decide)⟩
theorem fp_X6_3 : mm_fok RX6 (87, 5, 8, 2, 8) := ⟨RX5, TX5, 9, tyX5, rfl, tb_X5, tyX5_ok, nmX5, by decide, tb_in 149 (by decide +kernel) (by decide +kernel), rfl, rfl, rfl, fun h => absurd h (by decide), fun h => absurd h (by decide)⟩
theorem fp_X6_4 : mm_fok RX6 (36, 6, 0, 2, 0) := ⟨RX6, TX6, 10, tyX6, rfl, tb_X6, tyX6_ok, nmX6, by decide, tb_in 557 (by decide +kernel) (by decide +kernel), rfl, rfl, rfl, fun h => absurd h (by decide), fun h => absurd h (by decide)⟩
theorem fp_X6_5 : mm_fok RX6 (40, 6, 1, 2, 1) := ⟨RX6, TX6, 10, tyX6, rfl, tb_X6, tyX6_ok, nmX6, by decide, tb_in 558 (by decide +kernel) (by decide +kernel), rfl, rfl, rfl, fun h => absurd h (by decide), fun h => absurd h (by decide)⟩
theorem fp_X6_6 : mm_fok RX6 (11, 6, 2, 2, 2) := ⟨RX6, TX6, 10, tyX6, rfl, tb_X6, tyX6_ok, nmX6, by decide, tb_in 559 (by decide +kernel) (by decide +kernel), rfl, rfl, rfl, fun h => absurd h (by decide), fun h => absurd h (by decide)⟩
theorem fp_X6_7 : mm_fok RX6 (15, 6, 3, 2, 3) := ⟨RX6, TX6, 10, tyX6, rfl, tb_X6, tyX6_ok, nmX6, by decide, tb_in 560 (by decide +kernel) (by decide +kernel), rfl, rfl, rfl, fun h => absurd h (by decide), fun h => absurd h (by decide)⟩
theorem fp_X6_8 : mm_fok RX6 (23, 6, 4, 2, 4) := ⟨RX6, TX6, 10, tyX6, rfl, tb_X6, tyX6_ok, nmX6, by decide, tb_in 561 (by decide +kernel) (by decide +kernel), rfl, rfl, rfl, fun h => absurd h (by decide), fun h => absurd h (by decide)⟩
theorem fp_X6_9 : mm_fok RX6 (27, 6, 5, 2, 5) := ⟨RX6, TX6, 10, tyX6, rfl, tb_X6, tyX6_ok, nmX6, by decide, tb_in 562 (by decide +kernel) (by decide +kernel), rfl, rfl, rfl, fun h => absurd h (by decide), fun h => absurd h (by decide)⟩
theorem fp_X6_10 : mm_fok RX6 (30, 6, 6, 2, 6) := ⟨RX6, TX6, 10, tyX6, rfl, tb_X6, tyX6_ok, nmX6, by decide, tb_in 563 (by decide +kernel) (by decide +kernel), rfl, rfl, rfl, fun h => absurd h (by decide), fun h => absurd h (by decide)⟩
theorem fp_X6_11 : mm_fok RX6 (33, 6, 7, 2, 7) := ⟨RX6, TX6, 10, tyX6, rfl, tb_X6, tyX6_ok, nmX6, by decide, tb_in 564 (by decide +kernel) (by decide +kernel), rfl, rfl, rfl, fun h => absurd h (by decide), fun h => absurd h (by decide)⟩
theorem fp_X6_12 : mm_fok RX6 (70, 6, 8, 0, 8) := ⟨RX6, TX6, 10, tyX6, rfl, tb_X6, tyX6_ok, nmX6, by decide, tb_in 565 (by decide +kernel) (by decide +kernel), rfl, rfl, rfl, fun _ => ⟨rfl, rfl⟩, fun h => absurd h (by decide)⟩
theorem fp_X6_13 : mm_fok RX6 (44, 6, 9, 0, 9) := ⟨RX6, TX6, 10, tyX6, rfl, tb_X6, tyX6_ok, nmX6, by decide, tb_in 566 (by decide +kernel) (by decide +kernel), rfl, rfl, rfl, fun _ => ⟨rfl, rfl⟩, fun h => absurd h (by decide)⟩
theorem fq_X6 : ∀ q ∈ fl_X6, mm_fok RX6 q := List.forall_mem_cons.mpr ⟨fp_X6_0, List.forall_mem_cons.mpr ⟨fp_X6_1, List.forall_mem_cons.mpr ⟨fp_X6_2, List.forall_mem_cons.mpr ⟨fp_X6_3, List.forall_mem_cons.mpr ⟨fp_X6_4, List.forall_mem_cons.mpr ⟨fp_X6_5, List.forall_mem_cons.mpr ⟨fp_X6_6, List.forall_mem_cons.mpr ⟨fp_X6_7, List.forall_mem_cons.mpr ⟨fp_X6_8, List.forall_mem_cons.mpr ⟨fp_X6_9, List.forall_mem_cons.mpr ⟨fp_X6_10, List.forall_mem_cons.mpr ⟨fp_X6_11, List.forall_mem_cons.mpr ⟨fp_X6_12, List.forall_mem_cons.mpr ⟨fp_X6_13, fun _ h => absurd h List.not_mem_nil⟩⟩⟩⟩⟩⟩⟩⟩⟩⟩⟩⟩⟩⟩
def ml_X6 : List (Nat × Nat × Nat × MethodName) := [(20, 2, 1, yX4_init), (53, 0, 0, yX6_empty), (80, 0, 0, yX4_empty), (56, 0, 0, yX3_firsts), (62, 0, 1, yX3_firstAt), (66, 0, 4, yX6_add), (98, 0, 1, yX4_add), (101, 0, 1, yX3_sosOf), (73, 0, 1, yX6_endOfGroup), (76, 0, 3, yX6_goOn), (91, 0, 4, yX6_goBy), (94, 0, 2, yX3_after)]
theorem mp_X6_0 : mm_lok RX6 (20, 2, 1, yX4_init) := ⟨⟨by decide, by decide, by decide +kernel⟩, tb_in 83 (by decide +kernel) (by decide +kernel), fun h => absurd h (by decide), fun h => absurd h (by decide), fun _ => ⟨tb_in 546 (by decide +kernel) (by decide +kernel), tb_in 547 (by decide +kernel) (by decide +kernel), rfl⟩, fun h => absurd h (by decide)⟩
theorem mp_X6_1 : mm_lok RX6 (53, 0, 0, yX6_empty) := ⟨⟨by decide, by decide, by decide +kernel⟩, tb_in 82 (by decide +kernel) (by decide +kernel), fun _ => ⟨tb_in 592 (by decide +kernel) (by decide +kernel), tb_in 594 (by decide +kernel) (by decide +kernel), tb_in 18 (by decide +kernel) (by decide +kernel)⟩, fun h => absurd h (by decide), fun h => absurd h (by decide), fun h => absurd h (by decide)⟩
theorem mp_X6_2 : mm_lok RX6 (80, 0, 0, yX4_empty) := ⟨⟨by decide, by decide, by decide +kernel⟩, tb_in 83 (by decide +kernel) (by decide +kernel), fun _ => ⟨tb_in 596 (by decide +kernel) (by decide +kernel), tb_in 402 (by decide +kernel) (by decide +kernel), tb_in 403 (by decide +kernel) (by decide +kernel)⟩, fun h => absurd h (by decide), fun h => absurd h (by decide), fun h => absurd h (by decide)⟩
theorem mp_X6_3 : mm_lok RX6 (56, 0, 0, yX3_firsts) := ⟨⟨by decide, by decide, by decide +kernel⟩, tb_in 72 (by decide +kernel) (by decide +kernel), fun _ => ⟨tb_in 597 (by decide +kernel) (by decide +kernel), tb_in 407 (by decide +kernel) (by decide +kernel), tb_in 408 (by decide +kernel) (by decide +kernel)⟩, fun h => absurd h (by decide), fun h => absurd h (by decide), fun h => absurd h (by decide)⟩
theorem mp_X6_4 : mm_lok RX6 (62, 0, 1, yX3_firstAt) := ⟨⟨by decide, by decide, by decide +kernel⟩, tb_in 72 (by decide +kernel) (by decide +kernel), fun _ => ⟨tb_in 598 (by decide +kernel) (by decide +kernel), tb_in 411 (by decide +kernel) (by decide +kernel), tb_in 412 (by decide +kernel) (by decide +kernel)⟩, fun h => absurd h (by decide), fun h => absurd h (by decide), fun h => absurd h (by decide)⟩
theorem mp_X6_5 : mm_lok RX6 (66, 0, 4, yX6_add) := ⟨⟨by decide, by decide, by decide +kernel⟩, tb_in 82 (by decide +kernel) (by decide +kernel), fun _ => ⟨tb_in 599 (by decide +kernel) (by decide +kernel), tb_in 601 (by decide +kernel) (by decide +kernel), tb_in 19 (by decide +kernel) (by decide +kernel)⟩, fun h => absurd h (by decide), fun h => absurd h (by decide), fun h => absurd h (by decide)⟩
theorem mp_X6_6 : mm_lok RX6 (98, 0, 1, yX4_add) := ⟨⟨by decide, by decide, by decide +kernel⟩, tb_in 83 (by decide +kernel) (by decide +kernel), fun _ => ⟨tb_in 603 (by decide +kernel) (by decide +kernel), tb_in 415 (by decide +kernel) (by decide +kernel), tb_in 416 (by decide +kernel) (by decide +kernel)⟩, fun h => absurd h (by decide), fun h => absurd h (by decide), fun h => absurd h (by decide)⟩
theorem mp_X6_7 : mm_lok RX6 (101, 0, 1, yX3_sosOf) := ⟨⟨by decide, by decide, by decide +kernel⟩, tb_in 72 (by decide +kernel) (by decide +kernel), fun _ => ⟨tb_in 604 (by decide +kernel) (by decide +kernel), tb_in 398 (by decide +kernel) (by decide +kernel), tb_in 399 (by decide +kernel) (by decide +kernel)⟩, fun h => absurd h (by decide), fun h => absurd h (by decide), fun h => absurd h (by decide)⟩
theorem mp_X6_8 : mm_lok RX6 (73, 0, 1, yX6_endOfGroup) := ⟨⟨by decide, by decide, by decide +kernel⟩, tb_in 82 (by decide +kernel) (by decide +kernel), fun _ => ⟨tb_in 605 (by decide +kernel) (by decide +kernel), tb_in 607 (by decide +kernel) (by decide +kernel), tb_in 20 (by decide +kernel) (by decide +kernel)⟩, fun h => absurd h (by decide), fun h => absurd h (by decide), fun h => absurd h (by decide)⟩
theorem mp_X6_9 : mm_lok RX6 (76, 0, 3, yX6_goOn) := ⟨⟨by decide, by decide, by decide +kernel⟩, tb_in 82 (by decide +kernel) (by decide +kernel), fun _ => ⟨tb_in 609 (by decide +kernel) (by decide +kernel), tb_in 611 (by decide +kernel) (by decide +kernel), tb_in 21 (by decide +kernel) (by decide +kernel)⟩, fun h => absurd h (by decide), fun h => absurd h (by decide), fun h => absurd h (by decide)⟩
theorem mp_X6_10 : mm_lok RX6 (91, 0, 4, yX6_goBy) := ⟨⟨by decide, by decide, by decide +kernel⟩, tb_in 82 (by decide +kernel) (by decide +kernel), fun _ => ⟨tb_in 613 (by decide +kernel) (by decide +kernel), tb_in 615 (by decide +kernel) (by decide +kernel), tb_in 22 (by decide +kernel) (by decide +kernel)⟩, fun h => absurd h (by decide), fun h => absurd h (by decide), fun h => absurd h (by decide)⟩
theorem mp_X6_11 : mm_lok RX6 (94, 0, 2, yX3_after) := ⟨⟨by decide, by decide, by decide +kernel⟩, tb_in 72 (by decide +kernel) (by decide +kernel), fun _ => ⟨tb_in 617 (by decide +kernel) (by decide +kernel), tb_in 523 (by decide +kernel) (by decide +kernel), tb_in 524 (by decide +kernel) (by decide +kernel)⟩, fun h => absurd h (by decide), fun h => absurd h (by decide), fun h => absurd h (by decide)⟩
theorem mq_X6 : ∀ q ∈ ml_X6, mm_lok RX6 q := List.forall_mem_cons.mpr ⟨mp_X6_0, List.forall_mem_cons.mpr ⟨mp_X6_1, List.forall_mem_cons.mpr ⟨mp_X6_2, List.forall_mem_cons.mpr ⟨mp_X6_3, List.forall_mem_cons.mpr ⟨mp_X6_4, List.forall_mem_cons.mpr ⟨mp_X6_5, List.forall_mem_cons.mpr ⟨mp_X6_6, List.forall_mem_cons.mpr ⟨mp_X6_7, List.forall_mem_cons.mpr ⟨mp_X6_8, List.forall_mem_cons.mpr ⟨mp_X6_9, List.forall_mem_cons.mpr ⟨mp_X6_10, List.forall_mem_cons.mpr ⟨mp_X6_11, fun _ h => absurd h List.not_mem_nil⟩⟩⟩⟩⟩⟩⟩⟩⟩⟩⟩⟩
def il_X6_init : List mm_I := [(0, .aload_n 0, 1), (1, .invokespecial 3, 4), (4, .aload_n 0, 5), (5, .sipush 4096, 8), (8, .newarray .int, 10), (10, .putfield 11, 13), (13, .aload_n 0, 14), (14, .sipush 4096, 17), (17, .newarray .int, 19), (19, .putfield 15, 22), (22, .aload_n 0, 23), (23, .new 18, 26), (26, .dup, 27), (27, .sipush 4096, 30), (30, .invokespecial 20, 33), (33, .putfield 23, 36), (36, .aload_n 0, 37), (37, .bipush 8, 39), (39, .newarray .int, 41), (41, .putfield 27, 44), (44, .aload_n 0, 45), (45, .bipush 8, 47), (47, .newarray .int, 49), (49, .putfield 30, 52), (52, .aload_n 0, 53), (53, .bipush 8, 55), (55, .newarray .int, 57), (57, .putfield 33, 60), (60, .aload_n 0, 61), (61, .aload_n 1, 62), (62, .putfield 36, 65), (65, .aload_n 0, 66), (66, .aload_n 2, 67), (67, .putfield 40, 70), (70, .return_, 71)]
def K_X6_init : mm_K := ((yX6_init, cX6_init, 3, none, RX6), (2, 42, 6), (il_X6_init, [], fl_X6, ml_X6))
set_option maxRecDepth 100000 in
theorem ok_X6_init : mm_KO K_X6_init := ⟨by decide +kernel, fq_X6, mq_X6⟩
theorem mo_X6_init : mm_MO K_X6_init := ⟨tb_in 542 (by decide +kernel) (by decide +kernel), (fun r h => by cases h; rfl), by decide +kernel, rfl⟩
def il_X6_distanceOf : List mm_I := [(0, .aload_n 0, 1), (1, .getfield 27, 4), (4, .iload_n 1, 5), (5, .iaload, 6), (6, .ireturn, 7)]
def K_X6_distanceOf : mm_K := ((yX6_distanceOf, cX6_distanceOf, 2, (some .int), RX6), (0, 0, 6), (il_X6_distanceOf, [], fl_X6, ml_X6))
set_option maxRecDepth 100000 in
theorem ok_X6_distanceOf : mm_KO K_X6_distanceOf := ⟨by decide +kernel, fq_X6, mq_X6⟩
theorem mo_X6_distanceOf : mm_MO K_X6_distanceOf := ⟨tb_in 621 (by decide +kernel) (by decide +kernel), (fun r h => by cases h; rfl), by decide +kernel, rfl⟩
def il_X6_valuesAt : List mm_I := [(0, .aload_n 0, 1), (1, .getfield 30, 4), (4, .iload_n 1, 5), (5, .iaload, 6), (6, .ireturn, 7)]
def K_X6_valuesAt : mm_K := ((yX6_valuesAt, cX6_valuesAt, 2, (some .int), RX6), (0, 0, 6), (il_X6_valuesAt, [], fl_X6, ml_X6))
set_option maxRecDepth 100000 in
theorem ok_X6_valuesAt : mm_KO K_X6_valuesAt := ⟨by decide +kernel, fq_X6, mq_X6⟩
theorem mo_X6_valuesAt : mm_MO K_X6_valuesAt := ⟨tb_in 625 (by decide +kernel) (by decide +kernel), (fun r h => by cases h; rfl), by decide +kernel, rfl⟩
def il_X6_holdsAt : List mm_I := [(0, .aload_n 0, 1), (1, .getfield 33, 4), (4, .iload_n 1, 5), (5, .iaload, 6), (6, .ireturn, 7)]
def K_X6_holdsAt : mm_K := ((yX6_holdsAt, cX6_holdsAt, 2, (some .int), RX6), (0, 0, 6), (il_X6_holdsAt, [], fl_X6, ml_X6))
set_option maxRecDepth 100000 in
theorem ok_X6_holdsAt : mm_KO K_X6_holdsAt := ⟨by decide +kernel, fq_X6, mq_X6⟩
theorem mo_X6_holdsAt : mm_MO K_X6_holdsAt := ⟨tb_in 629 (by decide +kernel) (by decide +kernel), (fun r h => by cases h; rfl), by decide +kernel, rfl⟩
def il_X6_edgeOfRun : List mm_I := [(0, .aload_n 0, 1), (1, .getfield 44, 4), (4, .istore_n 2, 5), (5, .aload_n 0, 6), (6, .getfield 27, 9), (9, .aload_n 0, 10), (10, .getfield 36, 13), (13, .getfield 48, 16), (16, .iaload, 17), (17, .iconst 1, 18), (18, .isub, 19), (19, .istore_n 3, 20), (20, .iload_n 3, 21), (21, .iload_n 1, 22), (22, .if_icmp .le 18, 25), (25, .aload_n 0, 26), (26, .getfield 15, 29), (29, .iload_n 2, 30), (30, .iaload, 31), (31, .iconst 4, 32), (32, .ishr, 33), (33, .istore_n 2, 34), (34, .iinc 3 (-1), 37), (37, .goto (-17), 40), (40, .aload_n 0, 41), (41, .getfield 15, 44), (44, .iload_n 2, 45), (45, .iaload, 46), (46, .bipush 15, 48), (48, .iand, 49), (49, .ireturn, 50)]
def K_X6_edgeOfRun : mm_K := ((yX6_edgeOfRun, cX6_edgeOfRun, 4, (some .int), RX6), (0, 0, 6), (il_X6_edgeOfRun, [20, 40], fl_X6, ml_X6))
set_option maxRecDepth 100000 in
theorem ok_X6_edgeOfRun : mm_KO K_X6_edgeOfRun := ⟨by decide +kernel, fq_X6, mq_X6⟩
theorem mo_X6_edgeOfRun : mm_MO K_X6_edgeOfRun := ⟨tb_in 637 (by decide +kernel) (by decide +kernel), (fun r h => by cases h; rfl), by decide +kernel, rfl⟩
def il_X6_search : List mm_I := [(0, .aload_n 0, 1), (1, .invokevirtual 53, 4), (4, .iconst 0, 5), (5, .istore_n 1, 6), (6, .iload_n 1, 7), (7, .aload_n 0, 8), (8, .getfield 40, 11), (11, .invokevirtual 56, 14), (14, .if_icmp .ge 24, 17), (17, .aload_n 0, 18), (18, .iconst 0, 19), (19, .aload_n 0, 20), (20, .getfield 40, 23), (23, .iload_n 1, 24), (24, .invokevirtual 62, 27), (27, .iconst (-1), 28), (28, .iconst 0, 29), (29, .invokevirtual 66, 32), (32, .iinc 1 1, 35), (35, .goto (-29), 38), (38, .iconst 0, 39), (39, .istore_n 1, 40), (40, .iconst 0, 41), (41, .istore_n 2, 42), (42, .aload_n 0, 43), (43, .getfield 70, 46), (46, .istore_n 3, 47), (47, .iconst 0, 48), (48, .istore 4, 50), (50, .iload 4, 52), (52, .sipush 4096, 55), (55, .if_icmp .ge 50, 58), (58, .iload_n 1, 59), (59, .aload_n 0, 60), (60, .getfield 70, 63), (63, .if_icmp .ge 42, 66), (66, .iload_n 1, 67), (67, .iload_n 3, 68), (68, .if_icmp .lt 11, 71), (71, .iinc 2 1, 74), (74, .aload_n 0, 75), (75, .getfield 70, 78), (78, .istore_n 3, 79), (79, .aload_n 0, 80), (80, .iload_n 1, 81), (81, .invokevirtual 73, 84), (84, .istore 5, 86), (86, .aload_n 0, 87), (87, .iload_n 1, 88), (88, .iload 5, 90), (90, .iload_n 2, 91), (91, .iconst 1, 92), (92, .iadd, 93), (93, .invokevirtual 76, 96), (96, .iload 5, 98), (98, .istore_n 1, 99), (99, .iinc 4 1, 102), (102, .goto (-52), 105), (105, .return_, 106)]
def K_X6_search : mm_K := ((yX6_search, cX6_search, 6, none, RX6), (4, 98, 6), (il_X6_search, [6, 38, 50, 79, 105], fl_X6, ml_X6))
set_option maxRecDepth 100000 in
theorem ok_X6_search : mm_KO K_X6_search := ⟨by decide +kernel, fq_X6, mq_X6⟩
theorem mo_X6_search : mm_MO K_X6_search := ⟨tb_in 591 (by decide +kernel) (by decide +kernel), (fun r h => by cases h; rfl), by decide +kernel, rfl⟩
def il_X6_empty : List mm_I := [(0, .aload_n 0, 1), (1, .getfield 23, 4), (4, .invokevirtual 80, 7), (7, .aload_n 0, 8), (8, .iconst 0, 9), (9, .putfield 70, 12), (12, .aload_n 0, 13), (13, .iconst 0, 14), (14, .putfield 44, 17), (17, .iconst 0, 18), (18, .istore_n 1, 19), (19, .iload_n 1, 20), (20, .bipush 8, 22), (22, .if_icmp .ge 41, 25), (25, .aload_n 0, 26), (26, .getfield 27, 29), (29, .iload_n 1, 30), (30, .bipush (-4), 32), (32, .iastore, 33), (33, .aload_n 0, 34), (34, .getfield 30, 37), (37, .iload_n 1, 38), (38, .iconst 0, 39), (39, .iastore, 40), (40, .aload_n 0, 41), (41, .getfield 33, 44), (44, .iload_n 1, 45), (45, .iconst 1, 46), (46, .aload_n 0, 47), (47, .getfield 36, 50), (50, .getfield 81, 53), (53, .ishl, 54), (54, .iconst 1, 55), (55, .isub, 56), (56, .iastore, 57), (57, .iinc 1 1, 60), (60, .goto (-41), 63), (63, .return_, 64)]
def K_X6_empty : mm_K := ((yX6_empty, cX6_empty, 2, none, RX6), (2, 43, 6), (il_X6_empty, [19, 63], fl_X6, ml_X6))
set_option maxRecDepth 100000 in
theorem ok_X6_empty : mm_KO K_X6_empty := ⟨by decide +kernel, fq_X6, mq_X6⟩
theorem mo_X6_empty : mm_MO K_X6_empty := ⟨tb_in 595 (by decide +kernel) (by decide +kernel), (fun r h => by cases h; rfl), by decide +kernel, rfl⟩
def il_X6_endOfGroup : List mm_I := [(0, .iload_n 1, 1), (1, .iconst 1, 2), (2, .iadd, 3), (3, .istore_n 2, 4), (4, .iload_n 2, 5), (5, .aload_n 0, 6), (6, .getfield 70, 9), (9, .if_icmp .ge 24, 12), (12, .aload_n 0, 13), (13, .getfield 15, 16), (16, .iload_n 2, 17), (17, .iaload, 18), (18, .aload_n 0, 19), (19, .getfield 15, 22), (22, .iload_n 1, 23), (23, .iaload, 24), (24, .if_icmp .ne 9, 27), (27, .iinc 2 1, 30), (30, .goto (-26), 33), (33, .iload_n 2, 34), (34, .ireturn, 35)]
def K_X6_endOfGroup : mm_K := ((yX6_endOfGroup, cX6_endOfGroup, 3, (some .int), RX6), (0, 0, 6), (il_X6_endOfGroup, [4, 33], fl_X6, ml_X6))
set_option maxRecDepth 100000 in
theorem ok_X6_endOfGroup : mm_KO K_X6_endOfGroup := ⟨by decide +kernel, fq_X6, mq_X6⟩
theorem mo_X6_endOfGroup : mm_MO K_X6_endOfGroup := ⟨tb_in 608 (by decide +kernel) (by decide +kernel), (fun r h => by cases h; rfl), by decide +kernel, rfl⟩
def il_X6_goOn : List mm_I := [(0, .aload_n 0, 1), (1, .getfield 11, 4), (4, .iload_n 1, 5), (5, .iaload, 6), (6, .sipush 512, 9), (9, .idiv, 10), (10, .istore 4, 12), (12, .iconst 0, 13), (13, .istore 5, 15), (15, .iload 5, 17), (17, .aload_n 0, 18), (18, .getfield 36, 21), (21, .getfield 84, 24), (24, .if_icmp .ge 35, 27), (27, .aload_n 0, 28), (28, .getfield 36, 31), (31, .getfield 87, 34), (34, .iload 5, 36), (36, .aaload, 37), (37, .iconst 0, 38), (38, .iaload, 39), (39, .iload 4, 41), (41, .if_icmp .ne 12, 44), (44, .aload_n 0, 45), (45, .iload 5, 47), (47, .iload_n 1, 48), (48, .iload_n 2, 49), (49, .iload_n 3, 50), (50, .invokevirtual 91, 53), (53, .iinc 5 1, 56), (56, .goto (-41), 59), (59, .return_, 60)]
def K_X6_goOn : mm_K := ((yX6_goOn, cX6_goOn, 6, none, RX6), (3, 73, 6), (il_X6_goOn, [15, 53, 59], fl_X6, ml_X6))
set_option maxRecDepth 100000 in
theorem ok_X6_goOn : mm_KO K_X6_goOn := ⟨by decide +kernel, fq_X6, mq_X6⟩
theorem mo_X6_goOn : mm_MO K_X6_goOn := ⟨tb_in 612 (by decide +kernel) (by decide +kernel), (fun r h => by cases h; rfl), by decide +kernel, rfl⟩
def il_X6_goBy : List mm_I := [(0, .iload_n 2, 1), (1, .istore 5, 3), (3, .iload 5, 5), (5, .iload_n 3, 6), (6, .if_icmp .ge 60, 9), (9, .aload_n 0, 10), (10, .getfield 40, 13), (13, .iload_n 1, 14), (14, .aload_n 0, 15), (15, .getfield 11, 18), (18, .iload 5, 20), (20, .iaload, 21), (21, .sipush 512, 24), (24, .irem, 25), (25, .invokevirtual 94, 28), (28, .istore 6, 30), (30, .iload 6, 32), (32, .ifCond .lt 28, 35), (35, .aload_n 0, 36), (36, .aload_n 0, 37), (37, .getfield 36, 40), (40, .getfield 87, 43), (43, .iload_n 1, 44), (44, .aaload, 45), (45, .iconst 1, 46), (46, .iaload, 47), (47, .iload 6, 49), (49, .iload_n 2, 50), (50, .bipush 16, 52), (52, .imul, 53), (53, .iload_n 1, 54), (54, .iadd, 55), (55, .iload 4, 57), (57, .invokevirtual 66, 60), (60, .iinc 5 1, 63), (63, .goto (-60), 66), (66, .return_, 67)]
def K_X6_goBy : mm_K := ((yX6_goBy, cX6_goBy, 7, none, RX6), (2, 47, 6), (il_X6_goBy, [3, 60, 66], fl_X6, ml_X6))
set_option maxRecDepth 100000 in
theorem ok_X6_goBy : mm_KO K_X6_goBy := ⟨by decide +kernel, fq_X6, mq_X6⟩
theorem mo_X6_goBy : mm_MO K_X6_goBy := ⟨tb_in 616 (by decide +kernel) (by decide +kernel), (fun r h => by cases h; rfl), by decide +kernel, rfl⟩
def il_X6_add : List mm_I := [(0, .iload_n 1, 1), (1, .sipush 512, 4), (4, .imul, 5), (5, .iload_n 2, 6), (6, .iadd, 7), (7, .istore 5, 9), (9, .aload_n 0, 10), (10, .getfield 23, 13), (13, .iload 5, 15), (15, .invokevirtual 98, 18), (18, .ifCond .ne 4, 21), (21, .return_, 22), (22, .aload_n 0, 23), (23, .getfield 27, 26), (26, .iload_n 1, 27), (27, .iaload, 28), (28, .bipush (-4), 30), (30, .if_icmp .ne 30, 33), (33, .aload_n 0, 34), (34, .getfield 27, 37), (37, .iload_n 1, 38), (38, .iload 4, 40), (40, .iastore, 41), (41, .iload_n 1, 42), (42, .aload_n 0, 43), (43, .getfield 36, 46), (46, .getfield 48, 49), (49, .if_icmp .ne 11, 52), (52, .aload_n 0, 53), (53, .aload_n 0, 54), (54, .getfield 70, 57), (57, .putfield 44, 60), (60, .aload_n 0, 61), (61, .getfield 11, 64), (64, .aload_n 0, 65), (65, .getfield 70, 68), (68, .iload 5, 70), (70, .iastore, 71), (71, .aload_n 0, 72), (72, .getfield 15, 75), (75, .aload_n 0, 76), (76, .getfield 70, 79), (79, .iload_n 3, 80), (80, .iastore, 81), (81, .aload_n 0, 82), (82, .dup, 83), (83, .getfield 70, 86), (86, .iconst 1, 87), (87, .iadd, 88), (88, .putfield 70, 91), (91, .aload_n 0, 92), (92, .getfield 30, 95), (95, .iload_n 1, 96), (96, .dup2, 97), (97, .iaload, 98), (98, .iconst 1, 99), (99, .iadd, 100), (100, .iastore, 101), (101, .aload_n 0, 102), (102, .getfield 33, 105), (105, .iload_n 1, 106), (106, .dup2, 107), (107, .iaload, 108), (108, .aload_n 0, 109), (109, .getfield 40, 112), (112, .iload_n 2, 113), (113, .invokevirtual 101, 116), (116, .iand, 117), (117, .iastore, 118), (118, .return_, 119)]
def K_X6_add : mm_K := ((yX6_add, cX6_add, 6, none, RX6), (1, 22, 6), (il_X6_add, [22, 60], fl_X6, ml_X6))
set_option maxRecDepth 100000 in
theorem ok_X6_add : mm_KO K_X6_add := ⟨by decide +kernel, fq_X6, mq_X6⟩
theorem mo_X6_add : mm_MO K_X6_add := ⟨tb_in 602 (by decide +kernel) (by decide +kernel), (fun r h => by cases h; rfl), by decide +kernel, rfl⟩
end
section
def fl_X7 : List mm_F := [(49, 5, 0, 0, 0), (61, 5, 1, 0, 1), (64, 5, 2, 0, 2), (73, 5, 3, 0, 3), (90, 5, 4, 0, 4), (67, 5, 5, 2, 5), (70, 5, 6, 2, 6), (80, 5, 7, 2, 7), (99, 5, 8, 2, 8), (9, 7, 0, 2, 0), (26, 7, 1, 0, 1), (18, 7, 2, 2, 2), (22, 7, 3, 2, 3)]
theorem fp_X7_0 : mm_fok RX7 (49, 5, 0, 0, 0) := ⟨RX5, TX5, 9, tyX5, rfl, tb_X5, tyX5_ok, nmX5, by decide, tb_in 112 (by decide +kernel) (by decide +kernel), rfl, rfl, rfl, fun _ => ⟨rfl, rfl⟩, fun h => absurd h (by decide)⟩
theorem fp_X7_1 : mm_fok RX7 (61, 5, 1, 0, 1) := ⟨RX5, TX5, 9, tyX5, rfl, tb_X5, tyX5_ok, nmX5, by decide, tb_in 116 (by decide +kernel) (by decide +kernel), rfl, rfl, rfl, fun _ => ⟨rfl, rfl⟩, fun h => absurd h (by decide)⟩
theorem fp_X7_2 : mm_fok RX7 (64, 5, 2, 0, 2) := ⟨RX5, TX5, 9, tyX5, rfl, tb_X5, tyX5_ok, nmX5, by decide, tb_in 121 (by decide +kernel) (by decide +kernel), rfl, rfl, rfl, fun _ => ⟨rfl, rfl⟩, fun h => absurd h (by decide)⟩
theorem fp_X7_3 : mm_fok RX7 (73, 5, 3, 0, 3) := ⟨RX5, TX5, 9, tyX5, rfl, tb_X5, tyX5_ok, nmX5, by decide, tb_in 127 (by decide +kernel) (by decide +kernel), rfl, rfl, rfl, fun _ => ⟨rfl, rfl⟩, fun h => absurd h (by decide)⟩
theorem fp_X7_4 : mm_fok RX7 (90, 5, 4, 0, 4) := ⟨RX5, TX5, 9, tyX5, rfl, tb_X5, tyX5_ok, nmX5, by decide, tb_in 133 (by decide +kernel) (by decide +kernel), rfl, rfl, rfl, fun _ => ⟨rfl, rfl⟩, fun h => absurd h (by decide)⟩
theorem fp_X7_5 : mm_fok RX7 (67, 5, 5, 2, 5) := ⟨RX5, TX5, 9, tyX5, rfl, tb_X5, tyX5_ok, nmX5, by decide, tb_in 137 (by decide +kernel) (by decide +kernel), rfl, rfl, rfl, fun h => absurd h (by decide), fun h => absurd h (by decide)⟩
theorem fp_X7_6 : mm_fok RX7 (70, 5, 6, 2, 6) := ⟨RX5, TX5, 9, tyX5, rfl, tb_X5, tyX5_ok, nmX5, by decide, tb_in 140 (by decide +kernel) (by decide +kernel), rfl, rfl, rfl, fun h => absurd h (by decide), fun h => absurd h (by decide)⟩
theorem fp_X7_7 : mm_fok RX7 (80, 5, 7, 2, 7) := ⟨RX5, TX5, 9, tyX5, rfl, tb_X5, tyX5_ok, nmX5, by decide, tb_in 143 (by decide +kernel) (by decide +kernel), rfl, rfl, rfl, fun h => absurd h (by decide), fun h => absurd h (by decide)⟩
theorem fp_X7_8 : mm_fok RX7 (99, 5, 8, 2, 8) := ⟨RX5, TX5, 9, tyX5, rfl, tb_X5, tyX5_ok, nmX5, by decide, tb_in 151 (by decide +kernel) (by decide +kernel), rfl, rfl, rfl, fun h => absurd h (by decide), fun h => absurd h (by decide)⟩
theorem fp_X7_9 : mm_fok RX7 (9, 7, 0, 2, 0) := ⟨RX7, TX7, 4, tyX7, rfl, tb_X7, tyX7_ok, nmX7, by decide, tb_in 173 (by decide +kernel) (by decide +kernel), rfl, rfl, rfl, fun h => absurd h (by decide), fun h => absurd h (by decide)⟩
theorem fp_X7_10 : mm_fok RX7 (26, 7, 1, 0, 1) := ⟨RX7, TX7, 4, tyX7, rfl, tb_X7, tyX7_ok, nmX7, by decide, tb_in 174 (by decide +kernel) (by decide +kernel), rfl, rfl, rfl, fun _ => ⟨rfl, rfl⟩, fun h => absurd h (by decide)⟩
theorem fp_X7_11 : mm_fok RX7 (18, 7, 2, 2, 2) := ⟨RX7, TX7, 4, tyX7, rfl, tb_X7, tyX7_ok, nmX7, by decide, tb_in 175 (by decide +kernel) (by decide +kernel), rfl, rfl, rfl, fun h => absurd h (by decide), fun h => absurd h (by decide)⟩
theorem fp_X7_12 : mm_fok RX7 (22, 7, 3, 2, 3) := ⟨RX7, TX7, 4, tyX7, rfl, tb_X7, tyX7_ok, nmX7, by decide, tb_in 176 (by decide +kernel) (by decide +kernel), rfl, rfl, rfl, fun h => absurd h (by decide), fun h => absurd h (by decide)⟩
theorem fq_X7 : ∀ q ∈ fl_X7, mm_fok RX7 q := List.forall_mem_cons.mpr ⟨fp_X7_0, List.forall_mem_cons.mpr ⟨fp_X7_1, List.forall_mem_cons.mpr ⟨fp_X7_2, List.forall_mem_cons.mpr ⟨fp_X7_3, List.forall_mem_cons.mpr ⟨fp_X7_4, List.forall_mem_cons.mpr ⟨fp_X7_5, List.forall_mem_cons.mpr ⟨fp_X7_6, List.forall_mem_cons.mpr ⟨fp_X7_7, List.forall_mem_cons.mpr ⟨fp_X7_8, List.forall_mem_cons.mpr ⟨fp_X7_9, List.forall_mem_cons.mpr ⟨fp_X7_10, List.forall_mem_cons.mpr ⟨fp_X7_11, List.forall_mem_cons.mpr ⟨fp_X7_12, fun _ h => absurd h List.not_mem_nil⟩⟩⟩⟩⟩⟩⟩⟩⟩⟩⟩⟩⟩
def ml_X7 : List (Nat × Nat × Nat × MethodName) := [(17, 3, 0, yX5_init), (30, 0, 0, yX5_empty), (33, 1, 1, yX7_figuresBehind), (37, 0, 2, yX7_takeFigures), (41, 0, 1, yX7_tell), (45, 0, 0, yX7_tellPlaces), (52, 0, 0, yX7_tellVariable), (55, 0, 0, yX7_tellComparison), (76, 0, 1, yX7_isVariable), (58, 0, 0, yX7_tellEdge), (93, 0, 0, yX7_edgeJoinsAndAsksWell), (96, 0, 0, yX7_edgeDoesWell)]
theorem mp_X7_0 : mm_lok RX7 (17, 3, 0, yX5_init) := ⟨⟨by decide, by decide, by decide +kernel⟩, tb_in 71 (by decide +kernel) (by decide +kernel), fun h => absurd h (by decide), fun h => absurd h (by decide), fun h => absurd h (by decide), fun _ => ⟨List.mem_of_getElem? (i := 3) rfl, tb_in 105 (by decide +kernel) (by decide +kernel), rfl⟩⟩
theorem mp_X7_1 : mm_lok RX7 (30, 0, 0, yX5_empty) := ⟨⟨by decide, by decide, by decide +kernel⟩, tb_in 71 (by decide +kernel) (by decide +kernel), fun _ => ⟨tb_in 294 (by decide +kernel) (by decide +kernel), tb_in 295 (by decide +kernel) (by decide +kernel), tb_in 296 (by decide +kernel) (by decide +kernel)⟩, fun h => absurd h (by decide), fun h => absurd h (by decide), fun h => absurd h (by decide)⟩
theorem mp_X7_2 : mm_lok RX7 (33, 1, 1, yX7_figuresBehind) := ⟨⟨by decide, by decide, by decide +kernel⟩, tb_in 70 (by decide +kernel) (by decide +kernel), fun h => absurd h (by decide), fun _ => ⟨tb_in 298 (by decide +kernel) (by decide +kernel), tb_in 299 (by decide +kernel) (by decide +kernel)⟩, fun h => absurd h (by decide), fun h => absurd h (by decide)⟩
theorem mp_X7_3 : mm_lok RX7 (37, 0, 2, yX7_takeFigures) := ⟨⟨by decide, by decide, by decide +kernel⟩, tb_in 70 (by decide +kernel) (by decide +kernel), fun _ => ⟨tb_in 301 (by decide +kernel) (by decide +kernel), tb_in 303 (by decide +kernel) (by decide +kernel), tb_in 1 (by decide +kernel) (by decide +kernel)⟩, fun h => absurd h (by decide), fun h => absurd h (by decide), fun h => absurd h (by decide)⟩
theorem mp_X7_4 : mm_lok RX7 (41, 0, 1, yX7_tell) := ⟨⟨by decide, by decide, by decide +kernel⟩, tb_in 70 (by decide +kernel) (by decide +kernel), fun _ => ⟨tb_in 305 (by decide +kernel) (by decide +kernel), tb_in 307 (by decide +kernel) (by decide +kernel), tb_in 2 (by decide +kernel) (by decide +kernel)⟩, fun h => absurd h (by decide), fun h => absurd h (by decide), fun h => absurd h (by decide)⟩
theorem mp_X7_5 : mm_lok RX7 (45, 0, 0, yX7_tellPlaces) := ⟨⟨by decide, by decide, by decide +kernel⟩, tb_in 70 (by decide +kernel) (by decide +kernel), fun _ => ⟨tb_in 309 (by decide +kernel) (by decide +kernel), tb_in 311 (by decide +kernel) (by decide +kernel), tb_in 3 (by decide +kernel) (by decide +kernel)⟩, fun h => absurd h (by decide), fun h => absurd h (by decide), fun h => absurd h (by decide)⟩
theorem mp_X7_6 : mm_lok RX7 (52, 0, 0, yX7_tellVariable) := ⟨⟨by decide, by decide, by decide +kernel⟩, tb_in 70 (by decide +kernel) (by decide +kernel), fun _ => ⟨tb_in 313 (by decide +kernel) (by decide +kernel), tb_in 315 (by decide +kernel) (by decide +kernel), tb_in 4 (by decide +kernel) (by decide +kernel)⟩, fun h => absurd h (by decide), fun h => absurd h (by decide), fun h => absurd h (by decide)⟩
theorem mp_X7_7 : mm_lok RX7 (55, 0, 0, yX7_tellComparison) := ⟨⟨by decide, by decide, by decide +kernel⟩, tb_in 70 (by decide +kernel) (by decide +kernel), fun _ => ⟨tb_in 317 (by decide +kernel) (by decide +kernel), tb_in 319 (by decide +kernel) (by decide +kernel), tb_in 5 (by decide +kernel) (by decide +kernel)⟩, fun h => absurd h (by decide), fun h => absurd h (by decide), fun h => absurd h (by decide)⟩
theorem mp_X7_8 : mm_lok RX7 (76, 0, 1, yX7_isVariable) := ⟨⟨by decide, by decide, by decide +kernel⟩, tb_in 70 (by decide +kernel) (by decide +kernel), fun _ => ⟨tb_in 321 (by decide +kernel) (by decide +kernel), tb_in 323 (by decide +kernel) (by decide +kernel), tb_in 6 (by decide +kernel) (by decide +kernel)⟩, fun h => absurd h (by decide), fun h => absurd h (by decide), fun h => absurd h (by decide)⟩
theorem mp_X7_9 : mm_lok RX7 (58, 0, 0, yX7_tellEdge) := ⟨⟨by decide, by decide, by decide +kernel⟩, tb_in 70 (by decide +kernel) (by decide +kernel), fun _ => ⟨tb_in 328 (by decide +kernel) (by decide +kernel), tb_in 330 (by decide +kernel) (by decide +kernel), tb_in 7 (by decide +kernel) (by decide +kernel)⟩, fun h => absurd h (by decide), fun h => absurd h (by decide), fun h => absurd h (by decide)⟩
theorem mp_X7_10 : mm_lok RX7 (93, 0, 0, yX7_edgeJoinsAndAsksWell) := ⟨⟨by decide, by decide, by decide +kernel⟩, tb_in 70 (by decide +kernel) (by decide +kernel), fun _ => ⟨tb_in 332 (by decide +kernel) (by decide +kernel), tb_in 334 (by decide +kernel) (by decide +kernel), tb_in 8 (by decide +kernel) (by decide +kernel)⟩, fun h => absurd h (by decide), fun h => absurd h (by decide), fun h => absurd h (by decide)⟩
theorem mp_X7_11 : mm_lok RX7 (96, 0, 0, yX7_edgeDoesWell) := ⟨⟨by decide, by decide, by decide +kernel⟩, tb_in 70 (by decide +kernel) (by decide +kernel), fun _ => ⟨tb_in 336 (by decide +kernel) (by decide +kernel), tb_in 338 (by decide +kernel) (by decide +kernel), tb_in 9 (by decide +kernel) (by decide +kernel)⟩, fun h => absurd h (by decide), fun h => absurd h (by decide), fun h => absurd h (by decide)⟩
theorem mq_X7 : ∀ q ∈ ml_X7, mm_lok RX7 q := List.forall_mem_cons.mpr ⟨mp_X7_0, List.forall_mem_cons.mpr ⟨mp_X7_1, List.forall_mem_cons.mpr ⟨mp_X7_2, List.forall_mem_cons.mpr ⟨mp_X7_3, List.forall_mem_cons.mpr ⟨mp_X7_4, List.forall_mem_cons.mpr ⟨mp_X7_5, List.forall_mem_cons.mpr ⟨mp_X7_6, List.forall_mem_cons.mpr ⟨mp_X7_7, List.forall_mem_cons.mpr ⟨mp_X7_8, List.forall_mem_cons.mpr ⟨mp_X7_9, List.forall_mem_cons.mpr ⟨mp_X7_10, List.forall_mem_cons.mpr ⟨mp_X7_11, fun _ h => absurd h List.not_mem_nil⟩⟩⟩⟩⟩⟩⟩⟩⟩⟩⟩⟩
def il_X7_init : List mm_I := [(0, .aload_n 0, 1), (1, .invokespecial 3, 4), (4, .aload_n 0, 5), (5, .sipush 200, 8), (8, .newarray .char, 10), (10, .putfield 9, 13), (13, .aload_n 0, 14), (14, .new 15, 17), (17, .dup, 18), (18, .invokespecial 17, 21), (21, .putfield 18, 24), (24, .aload_n 0, 25), (25, .bipush 7, 27), (27, .newarray .int, 29), (29, .putfield 22, 32), (32, .return_, 33)]
def K_X7_init : mm_K := ((yX7_init, cX7_init, 1, none, RX7), (2, 40, 7), (il_X7_init, [], fl_X7, ml_X7))
set_option maxRecDepth 100000 in
theorem ok_X7_init : mm_KO K_X7_init := ⟨by decide +kernel, fq_X7, mq_X7⟩
theorem mo_X7_init : mm_MO K_X7_init := ⟨tb_in 100 (by decide +kernel) (by decide +kernel), (fun r h => by cases h; rfl), by decide +kernel, rfl⟩
def il_X7_size : List mm_I := [(0, .aload_n 0, 1), (1, .getfield 26, 4), (4, .ireturn, 5)]
def K_X7_size : mm_K := ((yX7_size, cX7_size, 1, (some .int), RX7), (0, 0, 7), (il_X7_size, [], fl_X7, ml_X7))
set_option maxRecDepth 100000 in
theorem ok_X7_size : mm_KO K_X7_size := ⟨by decide +kernel, fq_X7, mq_X7⟩
theorem mo_X7_size : mm_MO K_X7_size := ⟨tb_in 462 (by decide +kernel) (by decide +kernel), (fun r h => by cases h; rfl), by decide +kernel, rfl⟩
def il_X7_empty : List mm_I := [(0, .aload_n 0, 1), (1, .iconst 0, 2), (2, .putfield 26, 5), (5, .return_, 6)]
def K_X7_empty : mm_K := ((yX7_empty, cX7_empty, 1, none, RX7), (0, 0, 7), (il_X7_empty, [], fl_X7, ml_X7))
set_option maxRecDepth 100000 in
theorem ok_X7_empty : mm_KO K_X7_empty := ⟨by decide +kernel, fq_X7, mq_X7⟩
theorem mo_X7_empty : mm_MO K_X7_empty := ⟨tb_in 425 (by decide +kernel) (by decide +kernel), (fun r h => by cases h; rfl), by decide +kernel, rfl⟩
def il_X7_add : List mm_I := [(0, .aload_n 0, 1), (1, .getfield 26, 4), (4, .sipush 200, 7), (7, .if_icmp .lt 5, 10), (10, .iconst 0, 11), (11, .ireturn, 12), (12, .aload_n 0, 13), (13, .getfield 9, 16), (16, .aload_n 0, 17), (17, .getfield 26, 20), (20, .iload_n 1, 21), (21, .castore, 22), (22, .aload_n 0, 23), (23, .dup, 24), (24, .getfield 26, 27), (27, .iconst 1, 28), (28, .iadd, 29), (29, .putfield 26, 32), (32, .iconst 1, 33), (33, .ireturn, 34)]
def K_X7_add : mm_K := ((yX7_add, cX7_add, 2, (some .boolean), RX7), (0, 0, 7), (il_X7_add, [12], fl_X7, ml_X7))
set_option maxRecDepth 100000 in
theorem ok_X7_add : mm_KO K_X7_add := ⟨by decide +kernel, fq_X7, mq_X7⟩
theorem mo_X7_add : mm_MO K_X7_add := ⟨tb_in 285 (by decide +kernel) (by decide +kernel), (fun r h => by cases h; rfl), by decide +kernel, rfl⟩
def il_X7_program : List mm_I := [(0, .aload_n 0, 1), (1, .getfield 18, 4), (4, .areturn, 5)]
def K_X7_program : mm_K := ((yX7_program, cX7_program, 1, (some (.object "CubeChecker$Program")), RX7), (0, 0, 7), (il_X7_program, [], fl_X7, ml_X7))
set_option maxRecDepth 100000 in
theorem ok_X7_program : mm_KO K_X7_program := ⟨by decide +kernel, fq_X7, mq_X7⟩
theorem mo_X7_program : mm_MO K_X7_program := ⟨tb_in 343 (by decide +kernel) (by decide +kernel), (fun r h => by cases h; rfl), by decide +kernel, rfl⟩
def il_X7_firstFault : List mm_I := [(0, .aload_n 0, 1), (1, .getfield 18, 4), (4, .invokevirtual 30, 7), (7, .iconst 0, 8), (8, .istore_n 1, 9), (9, .iconst 0, 10), (10, .istore_n 2, 11), (11, .iload_n 2, 12), (12, .sipush 200, 15), (15, .if_icmp .ge 63, 18), (18, .iload_n 1, 19), (19, .aload_n 0, 20), (20, .getfield 26, 23), (23, .if_icmp .ge 55, 26), (26, .aload_n 0, 27), (27, .getfield 9, 30), (30, .iload_n 1, 31), (31, .caload, 32), (32, .invokestatic 33, 35), (35, .istore_n 3, 36), (36, .iload_n 3, 37), (37, .ifCond .eq 27, 40), (40, .aload_n 0, 41), (41, .iload_n 1, 42), (42, .iconst 1, 43), (43, .iadd, 44), (44, .iload_n 3, 45), (45, .invokevirtual 37, 48), (48, .ifCond .eq 16, 51), (51, .aload_n 0, 52), (52, .aload_n 0, 53), (53, .getfield 9, 56), (56, .iload_n 1, 57), (57, .caload, 58), (58, .invokevirtual 41, 61), (61, .ifCond .ne 5, 64), (64, .iload_n 1, 65), (65, .ireturn, 66), (66, .iload_n 1, 67), (67, .iload_n 3, 68), (68, .iconst 2, 69), (69, .iadd, 70), (70, .iadd, 71), (71, .istore_n 1, 72), (72, .iinc 2 1, 75), (75, .goto (-64), 78), (78, .bipush (-4), 80), (80, .ireturn, 81)]
def K_X7_firstFault : mm_K := ((yX7_firstFault, cX7_firstFault, 4, (some .int), RX7), (4, 83, 7), (il_X7_firstFault, [11, 64, 66, 78], fl_X7, ml_X7))
set_option maxRecDepth 100000 in
theorem ok_X7_firstFault : mm_KO K_X7_firstFault := ⟨by decide +kernel, fq_X7, mq_X7⟩
theorem mo_X7_firstFault : mm_MO K_X7_firstFault := ⟨tb_in 293 (by decide +kernel) (by decide +kernel), (fun r h => by cases h; rfl), by decide +kernel, rfl⟩
def il_X7_figuresBehind : List mm_I := [(0, .iload_n 0, 1), (1, .lookupswitch 50 #[(99, 45), (101, 47), (112, 43), (118, 43)], 44), (44, .iconst 2, 45), (45, .ireturn, 46), (46, .iconst 3, 47), (47, .ireturn, 48), (48, .bipush 7, 50), (50, .ireturn, 51), (51, .iconst 0, 52), (52, .ireturn, 53)]
def K_X7_figuresBehind : mm_K := ((yX7_figuresBehind, cX7_figuresBehind, 1, (some .int), RX7), (0, 0, 7), (il_X7_figuresBehind, [], fl_X7, ml_X7))
set_option maxRecDepth 100000 in
theorem ok_X7_figuresBehind : mm_KO K_X7_figuresBehind := ⟨by decide +kernel, fq_X7, mq_X7⟩
theorem mo_X7_figuresBehind : mm_MO K_X7_figuresBehind := ⟨tb_in 300 (by decide +kernel) (by decide +kernel), (fun r h => by cases h; rfl), by decide +kernel, rfl⟩
def il_X7_takeFigures : List mm_I := [(0, .iload_n 1, 1), (1, .iload_n 2, 2), (2, .iadd, 3), (3, .aload_n 0, 4), (4, .getfield 26, 7), (7, .if_icmp .ge 16, 10), (10, .aload_n 0, 11), (11, .getfield 9, 14), (14, .iload_n 1, 15), (15, .iload_n 2, 16), (16, .iadd, 17), (17, .caload, 18), (18, .bipush 59, 20), (20, .if_icmp .eq 5, 23), (23, .iconst 0, 24), (24, .ireturn, 25), (25, .iconst 0, 26), (26, .istore_n 3, 27), (27, .iload_n 3, 28), (28, .iload_n 2, 29), (29, .if_icmp .ge 46, 32), (32, .aload_n 0, 33), (33, .getfield 9, 36), (36, .iload_n 1, 37), (37, .iload_n 3, 38), (38, .iadd, 39), (39, .caload, 40), (40, .istore 4, 42), (42, .iload 4, 44), (44, .bipush 48, 46), (46, .if_icmp .lt 10, 49), (49, .iload 4, 51), (51, .bipush 57, 53), (53, .if_icmp .le 5, 56), (56, .iconst 0, 57), (57, .ireturn, 58), (58, .aload_n 0, 59), (59, .getfield 22, 62), (62, .iload_n 3, 63), (63, .iload 4, 65), (65, .bipush 48, 67), (67, .isub, 68), (68, .iastore, 69), (69, .iinc 3 1, 72), (72, .goto (-45), 75), (75, .iconst 1, 76), (76, .ireturn, 77)]
def K_X7_takeFigures : mm_K := ((yX7_takeFigures, cX7_takeFigures, 5, (some .boolean), RX7), (0, 0, 7), (il_X7_takeFigures, [23, 25, 27, 56, 58, 75], fl_X7, ml_X7))
set_option maxRecDepth 100000 in
theorem ok_X7_takeFigures : mm_KO K_X7_takeFigures := ⟨by decide +kernel, fq_X7, mq_X7⟩
theorem mo_X7_takeFigures : mm_MO K_X7_takeFigures := ⟨tb_in 304 (by decide +kernel) (by decide +kernel), (fun r h => by cases h; rfl), by decide +kernel, rfl⟩
def il_X7_tell : List mm_I := [(0, .iload_n 1, 1), (1, .bipush 112, 3), (3, .if_icmp .ne 8, 6), (6, .aload_n 0, 7), (7, .invokevirtual 45, 10), (10, .ireturn, 11), (11, .aload_n 0, 12), (12, .getfield 18, 15), (15, .getfield 49, 18), (18, .ifCond .ne 5, 21), (21, .iconst 0, 22), (22, .ireturn, 23), (23, .iload_n 1, 24), (24, .bipush 118, 26), (26, .if_icmp .ne 8, 29), (29, .aload_n 0, 30), (30, .invokevirtual 52, 33), (33, .ireturn, 34), (34, .iload_n 1, 35), (35, .bipush 99, 37), (37, .if_icmp .ne 10, 40), (40, .aload_n 0, 41), (41, .invokevirtual 55, 44), (44, .goto 7, 47), (47, .aload_n 0, 48), (48, .invokevirtual 58, 51), (51, .ireturn, 52)]
def K_X7_tell : mm_K := ((yX7_tell, cX7_tell, 2, (some .boolean), RX7), (3, 62, 7), (il_X7_tell, [11, 23, 34, 47, 51], fl_X7, ml_X7))
set_option maxRecDepth 100000 in
theorem ok_X7_tell : mm_KO K_X7_tell := ⟨by decide +kernel, fq_X7, mq_X7⟩
theorem mo_X7_tell : mm_MO K_X7_tell := ⟨tb_in 308 (by decide +kernel) (by decide +kernel), (fun r h => by cases h; rfl), by decide +kernel, rfl⟩
def il_X7_tellPlaces : List mm_I := [(0, .aload_n 0, 1), (1, .getfield 22, 4), (4, .iconst 0, 5), (5, .iaload, 6), (6, .istore_n 1, 7), (7, .aload_n 0, 8), (8, .getfield 18, 11), (11, .getfield 49, 14), (14, .ifCond .ne 24, 17), (17, .iload_n 1, 18), (18, .iconst 2, 19), (19, .if_icmp .lt 19, 22), (22, .iload_n 1, 23), (23, .bipush 8, 25), (25, .if_icmp .gt 13, 28), (28, .aload_n 0, 29), (29, .getfield 22, 32), (32, .iconst 1, 33), (33, .iaload, 34), (34, .iload_n 1, 35), (35, .if_icmp .lt 5, 38), (38, .iconst 0, 39), (39, .ireturn, 40), (40, .aload_n 0, 41), (41, .getfield 18, 44), (44, .iload_n 1, 45), (45, .putfield 49, 48), (48, .aload_n 0, 49), (49, .getfield 18, 52), (52, .aload_n 0, 53), (53, .getfield 22, 56), (56, .iconst 1, 57), (57, .iaload, 58), (58, .putfield 61, 61), (61, .iconst 1, 62), (62, .ireturn, 63)]
def K_X7_tellPlaces : mm_K := ((yX7_tellPlaces, cX7_tellPlaces, 2, (some .boolean), RX7), (0, 0, 7), (il_X7_tellPlaces, [38, 40], fl_X7, ml_X7))
set_option maxRecDepth 100000 in
theorem ok_X7_tellPlaces : mm_KO K_X7_tellPlaces := ⟨by decide +kernel, fq_X7, mq_X7⟩
theorem mo_X7_tellPlaces : mm_MO K_X7_tellPlaces := ⟨tb_in 312 (by decide +kernel) (by decide +kernel), (fun r h => by cases h; rfl), by decide +kernel, rfl⟩
def il_X7_tellVariable : List mm_I := [(0, .aload_n 0, 1), (1, .getfield 18, 4), (4, .getfield 64, 7), (7, .istore_n 1, 8), (8, .iload_n 1, 9), (9, .iconst 3, 10), (10, .if_icmp .ge 29, 13), (13, .aload_n 0, 14), (14, .getfield 22, 17), (17, .iconst 0, 18), (18, .iaload, 19), (19, .aload_n 0, 20), (20, .getfield 22, 23), (23, .iconst 1, 24), (24, .iaload, 25), (25, .if_icmp .gt 14, 28), (28, .aload_n 0, 29), (29, .getfield 22, 32), (32, .iconst 1, 33), (33, .iaload, 34), (34, .bipush 7, 36), (36, .if_icmp .le 5, 39), (39, .iconst 0, 40), (40, .ireturn, 41), (41, .aload_n 0, 42), (42, .getfield 18, 45), (45, .getfield 67, 48), (48, .iload_n 1, 49), (49, .aload_n 0, 50), (50, .getfield 22, 53), (53, .iconst 0, 54), (54, .iaload, 55), (55, .iastore, 56), (56, .aload_n 0, 57), (57, .getfield 18, 60), (60, .getfield 70, 63), (63, .iload_n 1, 64), (64, .aload_n 0, 65), (65, .getfield 22, 68), (68, .iconst 1, 69), (69, .iaload, 70), (70, .iastore, 71), (71, .aload_n 0, 72), (72, .getfield 18, 75), (75, .dup, 76), (76, .getfield 64, 79), (79, .iconst 1, 80), (80, .iadd, 81), (81, .putfield 64, 84), (84, .iconst 1, 85), (85, .ireturn, 86)]
def K_X7_tellVariable : mm_K := ((yX7_tellVariable, cX7_tellVariable, 2, (some .boolean), RX7), (0, 0, 7), (il_X7_tellVariable, [39, 41], fl_X7, ml_X7))
set_option maxRecDepth 100000 in
theorem ok_X7_tellVariable : mm_KO K_X7_tellVariable := ⟨by decide +kernel, fq_X7, mq_X7⟩
theorem mo_X7_tellVariable : mm_MO K_X7_tellVariable := ⟨tb_in 316 (by decide +kernel) (by decide +kernel), (fun r h => by cases h; rfl), by decide +kernel, rfl⟩
def il_X7_tellComparison : List mm_I := [(0, .aload_n 0, 1), (1, .getfield 18, 4), (4, .getfield 73, 7), (7, .istore_n 1, 8), (8, .aload_n 0, 9), (9, .getfield 22, 12), (12, .iconst 0, 13), (13, .iaload, 14), (14, .istore_n 2, 15), (15, .iload_n 1, 16), (16, .bipush 8, 18), (18, .if_icmp .ge 21, 21), (21, .iload_n 2, 22), (22, .iconst 4, 23), (23, .if_icmp .gt 16, 26), (26, .aload_n 0, 27), (27, .aload_n 0, 28), (28, .getfield 22, 31), (31, .iconst 1, 32), (32, .iaload, 33), (33, .invokevirtual 76, 36), (36, .ifCond .ne 5, 39), (39, .iconst 0, 40), (40, .ireturn, 41), (41, .iload_n 2, 42), (42, .iconst 2, 43), (43, .if_icmp .lt 18, 46), (46, .aload_n 0, 47), (47, .aload_n 0, 48), (48, .getfield 22, 51), (51, .iconst 2, 52), (52, .iaload, 53), (53, .invokevirtual 76, 56), (56, .ifCond .ne 5, 59), (59, .iconst 0, 60), (60, .ireturn, 61), (61, .aload_n 0, 62), (62, .getfield 22, 65), (65, .iconst 0, 66), (66, .aload_n 0, 67), (67, .getfield 18, 70), (70, .getfield 80, 73), (73, .iload_n 1, 74), (74, .aaload, 75), (75, .iconst 0, 76), (76, .iconst 3, 77), (77, .invokestatic 84, 80), (80, .aload_n 0, 81), (81, .getfield 18, 84), (84, .dup, 85), (85, .getfield 73, 88), (88, .iconst 1, 89), (89, .iadd, 90), (90, .putfield 73, 93), (93, .iconst 1, 94), (94, .ireturn, 95)]
def K_X7_tellComparison : mm_K := ((yX7_tellComparison, cX7_tellComparison, 3, (some .boolean), RX7), (1, 24, 7), (il_X7_tellComparison, [39, 41, 61], fl_X7, ml_X7))
set_option maxRecDepth 100000 in
theorem ok_X7_tellComparison : mm_KO K_X7_tellComparison := ⟨by decide +kernel, fq_X7, mq_X7⟩
theorem mo_X7_tellComparison : mm_MO K_X7_tellComparison := ⟨tb_in 320 (by decide +kernel) (by decide +kernel), (fun r h => by cases h; rfl), by decide +kernel, rfl⟩
def il_X7_tellEdge : List mm_I := [(0, .aload_n 0, 1), (1, .getfield 18, 4), (4, .getfield 90, 7), (7, .istore_n 1, 8), (8, .iload_n 1, 9), (9, .bipush 14, 11), (11, .if_icmp .ge 17, 14), (14, .aload_n 0, 15), (15, .invokevirtual 93, 18), (18, .ifCond .eq 10, 21), (21, .aload_n 0, 22), (22, .invokevirtual 96, 25), (25, .ifCond .ne 5, 28), (28, .iconst 0, 29), (29, .ireturn, 30), (30, .aload_n 0, 31), (31, .getfield 22, 34), (34, .iconst 0, 35), (35, .aload_n 0, 36), (36, .getfield 18, 39), (39, .getfield 99, 42), (42, .iload_n 1, 43), (43, .aaload, 44), (44, .iconst 0, 45), (45, .bipush 7, 47), (47, .invokestatic 84, 50), (50, .aload_n 0, 51), (51, .getfield 18, 54), (54, .dup, 55), (55, .getfield 90, 58), (58, .iconst 1, 59), (59, .iadd, 60), (60, .putfield 90, 63), (63, .iconst 1, 64), (64, .ireturn, 65)]
def K_X7_tellEdge : mm_K := ((yX7_tellEdge, cX7_tellEdge, 2, (some .boolean), RX7), (2, 41, 7), (il_X7_tellEdge, [28, 30], fl_X7, ml_X7))
set_option maxRecDepth 100000 in
theorem ok_X7_tellEdge : mm_KO K_X7_tellEdge := ⟨by decide +kernel, fq_X7, mq_X7⟩
theorem mo_X7_tellEdge : mm_MO K_X7_tellEdge := ⟨tb_in 331 (by decide +kernel) (by decide +kernel), (fun r h => by cases h; rfl), by decide +kernel, rfl⟩
def il_X7_edgeJoinsAndAsksWell : List mm_I := [(0, .aload_n 0, 1), (1, .getfield 22, 4), (4, .iconst 0, 5), (5, .iaload, 6), (6, .aload_n 0, 7), (7, .getfield 18, 10), (10, .getfield 49, 13), (13, .if_icmp .ge 60, 16), (16, .aload_n 0, 17), (17, .getfield 22, 20), (20, .iconst 1, 21), (21, .iaload, 22), (22, .aload_n 0, 23), (23, .getfield 18, 26), (26, .getfield 49, 29), (29, .if_icmp .ge 44, 32), (32, .aload_n 0, 33), (33, .getfield 22, 36), (36, .iconst 3, 37), (37, .iaload, 38), (38, .iconst 1, 39), (39, .if_icmp .gt 34, 42), (42, .aload_n 0, 43), (43, .getfield 22, 46), (46, .iconst 2, 47), (47, .iaload, 48), (48, .bipush 9, 50), (50, .if_icmp .eq 19, 53), (53, .aload_n 0, 54), (54, .getfield 22, 57), (57, .iconst 2, 58), (58, .iaload, 59), (59, .aload_n 0, 60), (60, .getfield 18, 63), (63, .getfield 73, 66), (66, .if_icmp .ge 7, 69), (69, .iconst 1, 70), (70, .goto 4, 73), (73, .iconst 0, 74), (74, .ireturn, 75)]
def K_X7_edgeJoinsAndAsksWell : mm_K := ((yX7_edgeJoinsAndAsksWell, cX7_edgeJoinsAndAsksWell, 1, (some .boolean), RX7), (0, 0, 7), (il_X7_edgeJoinsAndAsksWell, [69, 73, 74], fl_X7, ml_X7))
set_option maxRecDepth 100000 in
theorem ok_X7_edgeJoinsAndAsksWell : mm_KO K_X7_edgeJoinsAndAsksWell := ⟨by decide +kernel, fq_X7, mq_X7⟩
theorem mo_X7_edgeJoinsAndAsksWell : mm_MO K_X7_edgeJoinsAndAsksWell := ⟨tb_in 335 (by decide +kernel) (by decide +kernel), (fun r h => by cases h; rfl), by decide +kernel, rfl⟩
def il_X7_edgeDoesWell : List mm_I := [(0, .aload_n 0, 1), (1, .getfield 22, 4), (4, .iconst 4, 5), (5, .iaload, 6), (6, .tableswitch 115 0 5 #[38, 40, 71, 71, 82, 82], 44), (44, .iconst 1, 45), (45, .ireturn, 46), (46, .aload_n 0, 47), (47, .aload_n 0, 48), (48, .getfield 22, 51), (51, .iconst 5, 52), (52, .iaload, 53), (53, .invokevirtual 76, 56), (56, .ifCond .eq 19, 59), (59, .aload_n 0, 60), (60, .getfield 22, 63), (63, .bipush 6, 65), (65, .iaload, 66), (66, .bipush 7, 68), (68, .if_icmp .gt 7, 71), (71, .iconst 1, 72), (72, .goto 4, 75), (75, .iconst 0, 76), (76, .ireturn, 77), (77, .aload_n 0, 78), (78, .aload_n 0, 79), (79, .getfield 22, 82), (82, .iconst 5, 83), (83, .iaload, 84), (84, .invokevirtual 76, 87), (87, .ireturn, 88), (88, .aload_n 0, 89), (89, .aload_n 0, 90), (90, .getfield 22, 93), (93, .iconst 5, 94), (94, .iaload, 95), (95, .invokevirtual 76, 98), (98, .ifCond .eq 21, 101), (101, .aload_n 0, 102), (102, .aload_n 0, 103), (103, .getfield 22, 106), (106, .bipush 6, 108), (108, .iaload, 109), (109, .invokevirtual 76, 112), (112, .ifCond .eq 7, 115), (115, .iconst 1, 116), (116, .goto 4, 119), (119, .iconst 0, 120), (120, .ireturn, 121), (121, .iconst 0, 122), (122, .ireturn, 123)]
def K_X7_edgeDoesWell : mm_K := ((yX7_edgeDoesWell, cX7_edgeDoesWell, 1, (some .boolean), RX7), (1, 21, 7), (il_X7_edgeDoesWell, [75, 76, 119, 120], fl_X7, ml_X7))
set_option maxRecDepth 100000 in
theorem ok_X7_edgeDoesWell : mm_KO K_X7_edgeDoesWell := ⟨by decide +kernel, fq_X7, mq_X7⟩
theorem mo_X7_edgeDoesWell : mm_MO K_X7_edgeDoesWell := ⟨tb_in 339 (by decide +kernel) (by decide +kernel), (fun r h => by cases h; rfl), by decide +kernel, rfl⟩
def il_X7_isVariable : List mm_I := [(0, .iload_n 1, 1), (1, .aload_n 0, 2), (2, .getfield 18, 5), (5, .getfield 64, 8), (8, .if_icmp .ge 7, 11), (11, .iconst 1, 12), (12, .goto 4, 15), (15, .iconst 0, 16), (16, .ireturn, 17)]
def K_X7_isVariable : mm_K := ((yX7_isVariable, cX7_isVariable, 2, (some .boolean), RX7), (0, 0, 7), (il_X7_isVariable, [15, 16], fl_X7, ml_X7))
set_option maxRecDepth 100000 in
theorem ok_X7_isVariable : mm_KO K_X7_isVariable := ⟨by decide +kernel, fq_X7, mq_X7⟩
theorem mo_X7_isVariable : mm_MO K_X7_isVariable := ⟨tb_in 324 (by decide +kernel) (by decide +kernel), (fun r h => by cases h; rfl), by decide +kernel, rfl⟩
end
section
def fl_X8 : List mm_F := [(111, 5, 0, 0, 0), (85, 5, 3, 0, 3), (76, 5, 8, 2, 8), (41, 8, 0, 2, 0), (45, 8, 1, 2, 1), (49, 8, 2, 2, 2), (53, 8, 3, 2, 3), (13, 8, 4, 2, 4), (56, 8, 5, 0, 5), (17, 8, 6, 2, 6), (25, 8, 7, 2, 7), (29, 8, 8, 2, 8), (32, 8, 9, 2, 9), (35, 8, 10, 2, 10), (38, 8, 11, 2, 11)]
theorem fp_X8_0 : mm_fok RX8 (111, 5, 0, 0, 0) := ⟨RX5, TX5, 9, tyX5, rfl, tb_X5, tyX5_ok, nmX5, by decide, tb_in 113 (by decide +kernel) (by decide +kernel), rfl, rfl, rfl, fun _ => ⟨rfl, rfl⟩, fun h => absurd h (by decide)⟩
theorem fp_X8_1 : mm_fok RX8 (85, 5, 3, 0, 3) := ⟨RX5, TX5, 9, tyX5, rfl, tb_X5, tyX5_ok, nmX5, by decide, tb_in 125 (by decide +kernel) (by decide +kernel), rfl, rfl, rfl, fun _ => ⟨rfl, rfl⟩, fun h => absurd h (by decide)⟩
theorem fp_X8_2 : mm_fok RX8 (76, 5, 8, 2, 8) := ⟨RX5, TX5, 9, tyX5, rfl, tb_X5, tyX5_ok, nmX5, by decide, tb_in 147 (by decide +kernel) (by decide +kernel), rfl, rfl, rfl, fun h => absurd h (by decide), fun h => absurd h (by decide)⟩
theorem fp_X8_3 : mm_fok RX8 (41, 8, 0, 2, 0) := ⟨RX8, TX8, 12, tyX8, rfl, tb_X8, tyX8_ok, nmX8, by decide, tb_in 707 (by decide +kernel) (by decide +kernel), rfl, rfl, rfl, fun h => absurd h (by decide), fun h => absurd h (by decide)⟩
theorem fp_X8_4 : mm_fok RX8 (45, 8, 1, 2, 1) := ⟨RX8, TX8, 12, tyX8, rfl, tb_X8, tyX8_ok, nmX8, by decide, tb_in 708 (by decide +kernel) (by decide +kernel), rfl, rfl, rfl, fun h => absurd h (by decide), fun h => absurd h (by decide)⟩
theorem fp_X8_5 : mm_fok RX8 (49, 8, 2, 2, 2) := ⟨RX8, TX8, 12, tyX8, rfl, tb_X8, tyX8_ok, nmX8, by decide, tb_in 709 (by decide +kernel) (by decide +kernel), rfl, rfl, rfl, fun h => absurd h (by decide), fun h => absurd h (by decide)⟩
theorem fp_X8_6 : mm_fok RX8 (53, 8, 3, 2, 3) := ⟨RX8, TX8, 12, tyX8, rfl, tb_X8, tyX8_ok, nmX8, by decide, tb_in 710 (by decide +kernel) (by decide +kernel), rfl, rfl, rfl, fun h => absurd h (by decide), fun h => absurd h (by decide)⟩
theorem fp_X8_7 : mm_fok RX8 (13, 8, 4, 2, 4) := ⟨RX8, TX8, 12, tyX8, rfl, tb_X8, tyX8_ok, nmX8, by decide, tb_in 711 (by decide +kernel) (by decide +kernel), rfl, rfl, rfl, fun h => absurd h (by decide), fun h => absurd h (by decide)⟩
theorem fp_X8_8 : mm_fok RX8 (56, 8, 5, 0, 5) := ⟨RX8, TX8, 12, tyX8, rfl, tb_X8, tyX8_ok, nmX8, by decide, tb_in 712 (by decide +kernel) (by decide +kernel), rfl, rfl, rfl, fun _ => ⟨rfl, rfl⟩, fun h => absurd h (by decide)⟩
theorem fp_X8_9 : mm_fok RX8 (17, 8, 6, 2, 6) := ⟨RX8, TX8, 12, tyX8, rfl, tb_X8, tyX8_ok, nmX8, by decide, tb_in 713 (by decide +kernel) (by decide +kernel), rfl, rfl, rfl, fun h => absurd h (by decide), fun h => absurd h (by decide)⟩
theorem fp_X8_10 : mm_fok RX8 (25, 8, 7, 2, 7) := ⟨RX8, TX8, 12, tyX8, rfl, tb_X8, tyX8_ok, nmX8, by decide, tb_in 714 (by decide +kernel) (by decide +kernel), rfl, rfl, rfl, fun h => absurd h (by decide), fun h => absurd h (by decide)⟩
theorem fp_X8_11 : mm_fok RX8 (29, 8, 8, 2, 8) := ⟨RX8, TX8, 12, tyX8, rfl, tb_X8, tyX8_ok, nmX8, by decide, tb_in 715 (by decide +kernel) (by decide +kernel), rfl, rfl, rfl, fun h => absurd h (by decide), fun h => absurd h (by decide)⟩
theorem fp_X8_12 : mm_fok RX8 (32, 8, 9, 2, 9) := ⟨RX8, TX8, 12, tyX8, rfl, tb_X8, tyX8_ok, nmX8, by decide, tb_in 716 (by decide +kernel) (by decide +kernel), rfl, rfl, rfl, fun h => absurd h (by decide), fun h => absurd h (by decide)⟩
theorem fp_X8_13 : mm_fok RX8 (35, 8, 10, 2, 10) := ⟨RX8, TX8, 12, tyX8, rfl, tb_X8, tyX8_ok, nmX8, by decide, tb_in 717 (by decide +kernel) (by decide +kernel), rfl, rfl, rfl, fun h => absurd h (by decide), fun h => absurd h (by decide)⟩
theorem fp_X8_14 : mm_fok RX8 (38, 8, 11, 2, 11) := ⟨RX8, TX8, 12, tyX8, rfl, tb_X8, tyX8_ok, nmX8, by decide, tb_in 718 (by decide +kernel) (by decide +kernel), rfl, rfl, rfl, fun h => absurd h (by decide), fun h => absurd h (by decide)⟩
theorem fq_X8 : ∀ q ∈ fl_X8, mm_fok RX8 q := List.forall_mem_cons.mpr ⟨fp_X8_0, List.forall_mem_cons.mpr ⟨fp_X8_1, List.forall_mem_cons.mpr ⟨fp_X8_2, List.forall_mem_cons.mpr ⟨fp_X8_3, List.forall_mem_cons.mpr ⟨fp_X8_4, List.forall_mem_cons.mpr ⟨fp_X8_5, List.forall_mem_cons.mpr ⟨fp_X8_6, List.forall_mem_cons.mpr ⟨fp_X8_7, List.forall_mem_cons.mpr ⟨fp_X8_8, List.forall_mem_cons.mpr ⟨fp_X8_9, List.forall_mem_cons.mpr ⟨fp_X8_10, List.forall_mem_cons.mpr ⟨fp_X8_11, List.forall_mem_cons.mpr ⟨fp_X8_12, List.forall_mem_cons.mpr ⟨fp_X8_13, List.forall_mem_cons.mpr ⟨fp_X8_14, fun _ h => absurd h List.not_mem_nil⟩⟩⟩⟩⟩⟩⟩⟩⟩⟩⟩⟩⟩⟩⟩
def ml_X8 : List (Nat × Nat × Nat × MethodName) := [(22, 2, 1, yX4_init), (64, 0, 1, yX8_listFirstValues), (92, 0, 0, yX3_firsts), (97, 0, 1, yX3_firstAt), (68, 0, 1, yX8_edgeAt), (72, 0, 4, yX8_listAfter), (100, 0, 0, yX4_empty), (103, 0, 2, yX3_after), (107, 0, 1, yX4_add), (60, 0, 0, yX8_far), (82, 0, 0, yX8_places), (88, 0, 2, yX8_isEndedBy), (113, 0, 2, yX1_putFirstCubes), (119, 0, 4, yX1_putNextCubes)]
theorem mp_X8_0 : mm_lok RX8 (22, 2, 1, yX4_init) := ⟨⟨by decide, by decide, by decide +kernel⟩, tb_in 83 (by decide +kernel) (by decide +kernel), fun h => absurd h (by decide), fun h => absurd h (by decide), fun _ => ⟨tb_in 706 (by decide +kernel) (by decide +kernel), tb_in 547 (by decide +kernel) (by decide +kernel), rfl⟩, fun h => absurd h (by decide)⟩
theorem mp_X8_1 : mm_lok RX8 (64, 0, 1, yX8_listFirstValues) := ⟨⟨by decide, by decide, by decide +kernel⟩, tb_in 86 (by decide +kernel) (by decide +kernel), fun _ => ⟨tb_in 879 (by decide +kernel) (by decide +kernel), tb_in 881 (by decide +kernel) (by decide +kernel), tb_in 29 (by decide +kernel) (by decide +kernel)⟩, fun h => absurd h (by decide), fun h => absurd h (by decide), fun h => absurd h (by decide)⟩
theorem mp_X8_2 : mm_lok RX8 (92, 0, 0, yX3_firsts) := ⟨⟨by decide, by decide, by decide +kernel⟩, tb_in 72 (by decide +kernel) (by decide +kernel), fun _ => ⟨tb_in 883 (by decide +kernel) (by decide +kernel), tb_in 407 (by decide +kernel) (by decide +kernel), tb_in 408 (by decide +kernel) (by decide +kernel)⟩, fun h => absurd h (by decide), fun h => absurd h (by decide), fun h => absurd h (by decide)⟩
theorem mp_X8_3 : mm_lok RX8 (97, 0, 1, yX3_firstAt) := ⟨⟨by decide, by decide, by decide +kernel⟩, tb_in 72 (by decide +kernel) (by decide +kernel), fun _ => ⟨tb_in 884 (by decide +kernel) (by decide +kernel), tb_in 411 (by decide +kernel) (by decide +kernel), tb_in 412 (by decide +kernel) (by decide +kernel)⟩, fun h => absurd h (by decide), fun h => absurd h (by decide), fun h => absurd h (by decide)⟩
theorem mp_X8_4 : mm_lok RX8 (68, 0, 1, yX8_edgeAt) := ⟨⟨by decide, by decide, by decide +kernel⟩, tb_in 86 (by decide +kernel) (by decide +kernel), fun _ => ⟨tb_in 885 (by decide +kernel) (by decide +kernel), tb_in 886 (by decide +kernel) (by decide +kernel), tb_in 887 (by decide +kernel) (by decide +kernel)⟩, fun h => absurd h (by decide), fun h => absurd h (by decide), fun h => absurd h (by decide)⟩
theorem mp_X8_5 : mm_lok RX8 (72, 0, 4, yX8_listAfter) := ⟨⟨by decide, by decide, by decide +kernel⟩, tb_in 86 (by decide +kernel) (by decide +kernel), fun _ => ⟨tb_in 889 (by decide +kernel) (by decide +kernel), tb_in 891 (by decide +kernel) (by decide +kernel), tb_in 30 (by decide +kernel) (by decide +kernel)⟩, fun h => absurd h (by decide), fun h => absurd h (by decide), fun h => absurd h (by decide)⟩
theorem mp_X8_6 : mm_lok RX8 (100, 0, 0, yX4_empty) := ⟨⟨by decide, by decide, by decide +kernel⟩, tb_in 83 (by decide +kernel) (by decide +kernel), fun _ => ⟨tb_in 893 (by decide +kernel) (by decide +kernel), tb_in 402 (by decide +kernel) (by decide +kernel), tb_in 403 (by decide +kernel) (by decide +kernel)⟩, fun h => absurd h (by decide), fun h => absurd h (by decide), fun h => absurd h (by decide)⟩
theorem mp_X8_7 : mm_lok RX8 (103, 0, 2, yX3_after) := ⟨⟨by decide, by decide, by decide +kernel⟩, tb_in 72 (by decide +kernel) (by decide +kernel), fun _ => ⟨tb_in 894 (by decide +kernel) (by decide +kernel), tb_in 523 (by decide +kernel) (by decide +kernel), tb_in 524 (by decide +kernel) (by decide +kernel)⟩, fun h => absurd h (by decide), fun h => absurd h (by decide), fun h => absurd h (by decide)⟩
theorem mp_X8_8 : mm_lok RX8 (107, 0, 1, yX4_add) := ⟨⟨by decide, by decide, by decide +kernel⟩, tb_in 83 (by decide +kernel) (by decide +kernel), fun _ => ⟨tb_in 895 (by decide +kernel) (by decide +kernel), tb_in 415 (by decide +kernel) (by decide +kernel), tb_in 416 (by decide +kernel) (by decide +kernel)⟩, fun h => absurd h (by decide), fun h => absurd h (by decide), fun h => absurd h (by decide)⟩
theorem mp_X8_9 : mm_lok RX8 (60, 0, 0, yX8_far) := ⟨⟨by decide, by decide, by decide +kernel⟩, tb_in 86 (by decide +kernel) (by decide +kernel), fun _ => ⟨tb_in 912 (by decide +kernel) (by decide +kernel), tb_in 876 (by decide +kernel) (by decide +kernel), tb_in 877 (by decide +kernel) (by decide +kernel)⟩, fun h => absurd h (by decide), fun h => absurd h (by decide), fun h => absurd h (by decide)⟩
theorem mp_X8_10 : mm_lok RX8 (82, 0, 0, yX8_places) := ⟨⟨by decide, by decide, by decide +kernel⟩, tb_in 86 (by decide +kernel) (by decide +kernel), fun _ => ⟨tb_in 917 (by decide +kernel) (by decide +kernel), tb_in 918 (by decide +kernel) (by decide +kernel), tb_in 919 (by decide +kernel) (by decide +kernel)⟩, fun h => absurd h (by decide), fun h => absurd h (by decide), fun h => absurd h (by decide)⟩
theorem mp_X8_11 : mm_lok RX8 (88, 0, 2, yX8_isEndedBy) := ⟨⟨by decide, by decide, by decide +kernel⟩, tb_in 86 (by decide +kernel) (by decide +kernel), fun _ => ⟨tb_in 921 (by decide +kernel) (by decide +kernel), tb_in 923 (by decide +kernel) (by decide +kernel), tb_in 31 (by decide +kernel) (by decide +kernel)⟩, fun h => absurd h (by decide), fun h => absurd h (by decide), fun h => absurd h (by decide)⟩
theorem mp_X8_12 : mm_lok RX8 (113, 0, 2, yX1_putFirstCubes) := ⟨⟨by decide, by decide, by decide +kernel⟩, tb_in 85 (by decide +kernel) (by decide +kernel), fun _ => ⟨tb_in 925 (by decide +kernel) (by decide +kernel), tb_in 801 (by decide +kernel) (by decide +kernel), tb_in 802 (by decide +kernel) (by decide +kernel)⟩, fun h => absurd h (by decide), fun h => absurd h (by decide), fun h => absurd h (by decide)⟩
theorem mp_X8_13 : mm_lok RX8 (119, 0, 4, yX1_putNextCubes) := ⟨⟨by decide, by decide, by decide +kernel⟩, tb_in 85 (by decide +kernel) (by decide +kernel), fun _ => ⟨tb_in 926 (by decide +kernel) (by decide +kernel), tb_in 824 (by decide +kernel) (by decide +kernel), tb_in 825 (by decide +kernel) (by decide +kernel)⟩, fun h => absurd h (by decide), fun h => absurd h (by decide), fun h => absurd h (by decide)⟩
theorem mq_X8 : ∀ q ∈ ml_X8, mm_lok RX8 q := List.forall_mem_cons.mpr ⟨mp_X8_0, List.forall_mem_cons.mpr ⟨mp_X8_1, List.forall_mem_cons.mpr ⟨mp_X8_2, List.forall_mem_cons.mpr ⟨mp_X8_3, List.forall_mem_cons.mpr ⟨mp_X8_4, List.forall_mem_cons.mpr ⟨mp_X8_5, List.forall_mem_cons.mpr ⟨mp_X8_6, List.forall_mem_cons.mpr ⟨mp_X8_7, List.forall_mem_cons.mpr ⟨mp_X8_8, List.forall_mem_cons.mpr ⟨mp_X8_9, List.forall_mem_cons.mpr ⟨mp_X8_10, List.forall_mem_cons.mpr ⟨mp_X8_11, List.forall_mem_cons.mpr ⟨mp_X8_12, List.forall_mem_cons.mpr ⟨mp_X8_13, fun _ h => absurd h List.not_mem_nil⟩⟩⟩⟩⟩⟩⟩⟩⟩⟩⟩⟩⟩⟩
def il_X8_init : List mm_I := [(0, .aload_n 0, 1), (1, .invokespecial 5, 4), (4, .aload_n 0, 5), (5, .sipush 2048, 8), (8, .newarray .int, 10), (10, .putfield 13, 13), (13, .aload_n 0, 14), (14, .bipush 8, 16), (16, .newarray .int, 18), (18, .putfield 17, 21), (21, .aload_n 0, 22), (22, .new 20, 25), (25, .dup, 26), (26, .sipush 256, 29), (29, .invokespecial 22, 32), (32, .putfield 25, 35), (35, .aload_n 0, 36), (36, .new 20, 39), (39, .dup, 40), (40, .sipush 256, 43), (43, .invokespecial 22, 46), (46, .putfield 29, 49), (49, .aload_n 0, 50), (50, .sipush 512, 53), (53, .newarray .int, 55), (55, .putfield 32, 58), (58, .aload_n 0, 59), (59, .sipush 512, 62), (62, .newarray .int, 64), (64, .putfield 35, 67), (67, .aload_n 0, 68), (68, .new 20, 71), (71, .dup, 72), (72, .sipush 512, 75), (75, .invokespecial 22, 78), (78, .putfield 38, 81), (81, .aload_n 0, 82), (82, .aload_n 1, 83), (83, .putfield 41, 86), (86, .aload_n 0, 87), (87, .aload_n 2, 88), (88, .putfield 45, 91), (91, .aload_n 0, 92), (92, .aload_n 3, 93), (93, .putfield 49, 96), (96, .aload_n 0, 97), (97, .aload 4, 99), (99, .putfield 53, 102), (102, .return_, 103)]
def K_X8_init : mm_K := ((yX8_init, cX8_init, 5, none, RX8), (2, 42, 8), (il_X8_init, [], fl_X8, ml_X8))
set_option maxRecDepth 100000 in
theorem ok_X8_init : mm_KO K_X8_init := ⟨by decide +kernel, fq_X8, mq_X8⟩
theorem mo_X8_init : mm_MO K_X8_init := ⟨tb_in 703 (by decide +kernel) (by decide +kernel), (fun r h => by cases h; rfl), by decide +kernel, rfl⟩
def il_X8_empty : List mm_I := [(0, .aload_n 0, 1), (1, .iconst 0, 2), (2, .putfield 56, 5), (5, .return_, 6)]
def K_X8_empty : mm_K := ((yX8_empty, cX8_empty, 1, none, RX8), (0, 0, 8), (il_X8_empty, [], fl_X8, ml_X8))
set_option maxRecDepth 100000 in
theorem ok_X8_empty : mm_KO K_X8_empty := ⟨by decide +kernel, fq_X8, mq_X8⟩
theorem mo_X8_empty : mm_MO K_X8_empty := ⟨tb_in 834 (by decide +kernel) (by decide +kernel), (fun r h => by cases h; rfl), by decide +kernel, rfl⟩
def il_X8_putAhead : List mm_I := [(0, .aload_n 0, 1), (1, .getfield 56, 4), (4, .sipush 2048, 7), (7, .if_icmp .ge 23, 10), (10, .aload_n 0, 11), (11, .getfield 13, 14), (14, .aload_n 0, 15), (15, .getfield 56, 18), (18, .iload_n 1, 19), (19, .iastore, 20), (20, .aload_n 0, 21), (21, .dup, 22), (22, .getfield 56, 25), (25, .iconst 1, 26), (26, .iadd, 27), (27, .putfield 56, 30), (30, .return_, 31)]
def K_X8_putAhead : mm_K := ((yX8_putAhead, cX8_putAhead, 2, none, RX8), (0, 0, 8), (il_X8_putAhead, [30], fl_X8, ml_X8))
set_option maxRecDepth 100000 in
theorem ok_X8_putAhead : mm_KO K_X8_putAhead := ⟨by decide +kernel, fq_X8, mq_X8⟩
theorem mo_X8_putAhead : mm_MO K_X8_putAhead := ⟨tb_in 838 (by decide +kernel) (by decide +kernel), (fun r h => by cases h; rfl), by decide +kernel, rfl⟩
def il_X8_length : List mm_I := [(0, .aload_n 0, 1), (1, .getfield 56, 4), (4, .ireturn, 5)]
def K_X8_length : mm_K := ((yX8_length, cX8_length, 1, (some .int), RX8), (0, 0, 8), (il_X8_length, [], fl_X8, ml_X8))
set_option maxRecDepth 100000 in
theorem ok_X8_length : mm_KO K_X8_length := ⟨by decide +kernel, fq_X8, mq_X8⟩
theorem mo_X8_length : mm_MO K_X8_length := ⟨tb_in 899 (by decide +kernel) (by decide +kernel), (fun r h => by cases h; rfl), by decide +kernel, rfl⟩
def il_X8_edgeAt : List mm_I := [(0, .aload_n 0, 1), (1, .getfield 13, 4), (4, .aload_n 0, 5), (5, .getfield 56, 8), (8, .iconst 1, 9), (9, .isub, 10), (10, .iload_n 1, 11), (11, .isub, 12), (12, .iaload, 13), (13, .ireturn, 14)]
def K_X8_edgeAt : mm_K := ((yX8_edgeAt, cX8_edgeAt, 2, (some .int), RX8), (0, 0, 8), (il_X8_edgeAt, [], fl_X8, ml_X8))
set_option maxRecDepth 100000 in
theorem ok_X8_edgeAt : mm_KO K_X8_edgeAt := ⟨by decide +kernel, fq_X8, mq_X8⟩
theorem mo_X8_edgeAt : mm_MO K_X8_edgeAt := ⟨tb_in 888 (by decide +kernel) (by decide +kernel), (fun r h => by cases h; rfl), by decide +kernel, rfl⟩
def il_X8_isReal : List mm_I := [(0, .aload_n 0, 1), (1, .invokevirtual 60, 4), (4, .aload_n 0, 5), (5, .getfield 56, 8), (8, .if_icmp .ne 7, 11), (11, .iconst 1, 12), (12, .goto 4, 15), (15, .iconst 0, 16), (16, .ireturn, 17)]
def K_X8_isReal : mm_K := ((yX8_isReal, cX8_isReal, 1, (some .boolean), RX8), (4, 99, 8), (il_X8_isReal, [15, 16], fl_X8, ml_X8))
set_option maxRecDepth 100000 in
theorem ok_X8_isReal : mm_KO K_X8_isReal := ⟨by decide +kernel, fq_X8, mq_X8⟩
theorem mo_X8_isReal : mm_MO K_X8_isReal := ⟨tb_in 911 (by decide +kernel) (by decide +kernel), (fun r h => by cases h; rfl), by decide +kernel, rfl⟩
def il_X8_far : List mm_I := [(0, .aload_n 0, 1), (1, .getfield 32, 4), (4, .astore_n 1, 5), (5, .aload_n 0, 6), (6, .getfield 35, 9), (9, .astore_n 2, 10), (10, .aload_n 0, 11), (11, .aload_n 1, 12), (12, .invokevirtual 64, 15), (15, .istore_n 3, 16), (16, .iconst 0, 17), (17, .istore 4, 19), (19, .iload 4, 21), (21, .aload_n 0, 22), (22, .getfield 56, 25), (25, .if_icmp .ge 38, 28), (28, .aload_n 0, 29), (29, .aload_n 0, 30), (30, .iload 4, 32), (32, .invokevirtual 68, 35), (35, .aload_n 1, 36), (36, .iload_n 3, 37), (37, .aload_n 2, 38), (38, .invokevirtual 72, 41), (41, .istore_n 3, 42), (42, .iload_n 3, 43), (43, .ifCond .ne 6, 46), (46, .iload 4, 48), (48, .ireturn, 49), (49, .aload_n 1, 50), (50, .astore 5, 52), (52, .aload_n 2, 53), (53, .astore_n 1, 54), (54, .aload 5, 56), (56, .astore_n 2, 57), (57, .iinc 4 1, 60), (60, .goto (-41), 63), (63, .aload_n 0, 64), (64, .getfield 56, 67), (67, .ireturn, 68)]
def K_X8_far : mm_K := ((yX8_far, cX8_far, 6, (some .int), RX8), (3, 74, 8), (il_X8_far, [19, 49, 63], fl_X8, ml_X8))
set_option maxRecDepth 100000 in
theorem ok_X8_far : mm_KO K_X8_far := ⟨by decide +kernel, fq_X8, mq_X8⟩
theorem mo_X8_far : mm_MO K_X8_far := ⟨tb_in 878 (by decide +kernel) (by decide +kernel), (fun r h => by cases h; rfl), by decide +kernel, rfl⟩
def il_X8_places : List mm_I := [(0, .iconst 1, 1), (1, .istore_n 1, 2), (2, .iconst 0, 3), (3, .istore_n 2, 4), (4, .iload_n 2, 5), (5, .aload_n 0, 6), (6, .getfield 56, 9), (9, .if_icmp .ge 30, 12), (12, .iload_n 1, 13), (13, .iconst 1, 14), (14, .aload_n 0, 15), (15, .getfield 41, 18), (18, .getfield 76, 21), (21, .aload_n 0, 22), (22, .getfield 13, 25), (25, .iload_n 2, 26), (26, .iaload, 27), (27, .aaload, 28), (28, .iconst 1, 29), (29, .iaload, 30), (30, .ishl, 31), (31, .ior, 32), (32, .istore_n 1, 33), (33, .iinc 2 1, 36), (36, .goto (-32), 39), (39, .iload_n 1, 40), (40, .ireturn, 41)]
def K_X8_places : mm_K := ((yX8_places, cX8_places, 3, (some .int), RX8), (0, 0, 8), (il_X8_places, [4, 39], fl_X8, ml_X8))
set_option maxRecDepth 100000 in
theorem ok_X8_places : mm_KO K_X8_places := ⟨by decide +kernel, fq_X8, mq_X8⟩
theorem mo_X8_places : mm_MO K_X8_places := ⟨tb_in 920 (by decide +kernel) (by decide +kernel), (fun r h => by cases h; rfl), by decide +kernel, rfl⟩
def il_X8_leastSetThatEnds : List mm_I := [(0, .aload_n 0, 1), (1, .invokevirtual 82, 4), (4, .istore_n 1, 5), (5, .iconst 0, 6), (6, .istore_n 2, 7), (7, .iload_n 2, 8), (8, .aload_n 0, 9), (9, .getfield 41, 12), (12, .getfield 85, 15), (15, .if_icmp .ge 24, 18), (18, .aload_n 0, 19), (19, .iconst 1, 20), (20, .iload_n 2, 21), (21, .ishl, 22), (22, .iload_n 1, 23), (23, .invokevirtual 88, 26), (26, .ifCond .eq 7, 29), (29, .iconst 1, 30), (30, .iload_n 2, 31), (31, .ishl, 32), (32, .ireturn, 33), (33, .iinc 2 1, 36), (36, .goto (-29), 39), (39, .iconst 1, 40), (40, .istore_n 2, 41), (41, .iload_n 2, 42), (42, .aload_n 0, 43), (43, .getfield 41, 46), (46, .getfield 85, 49), (49, .if_icmp .ge 44, 52), (52, .iconst 0, 53), (53, .istore_n 3, 54), (54, .iload_n 3, 55), (55, .iload_n 2, 56), (56, .if_icmp .ge 31, 59), (59, .iconst 1, 60), (60, .iload_n 2, 61), (61, .ishl, 62), (62, .iconst 1, 63), (63, .iload_n 3, 64), (64, .ishl, 65), (65, .ior, 66), (66, .istore 4, 68), (68, .aload_n 0, 69), (69, .iload 4, 71), (71, .iload_n 1, 72), (72, .invokevirtual 88, 75), (75, .ifCond .eq 6, 78), (78, .iload 4, 80), (80, .ireturn, 81), (81, .iinc 3 1, 84), (84, .goto (-30), 87), (87, .iinc 2 1, 90), (90, .goto (-49), 93), (93, .bipush (-4), 95), (95, .ireturn, 96)]
def K_X8_leastSetThatEnds : mm_K := ((yX8_leastSetThatEnds, cX8_leastSetThatEnds, 5, (some .int), RX8), (4, 97, 8), (il_X8_leastSetThatEnds, [7, 33, 39, 41, 54, 81, 87, 93], fl_X8, ml_X8))
set_option maxRecDepth 100000 in
theorem ok_X8_leastSetThatEnds : mm_KO K_X8_leastSetThatEnds := ⟨by decide +kernel, fq_X8, mq_X8⟩
theorem mo_X8_leastSetThatEnds : mm_MO K_X8_leastSetThatEnds := ⟨tb_in 916 (by decide +kernel) (by decide +kernel), (fun r h => by cases h; rfl), by decide +kernel, rfl⟩
def il_X8_listFirstValues : List mm_I := [(0, .iconst 0, 1), (1, .istore_n 2, 2), (2, .iload_n 2, 3), (3, .aload_n 0, 4), (4, .getfield 45, 7), (7, .invokevirtual 92, 10), (10, .if_icmp .ge 20, 13), (13, .aload_n 1, 14), (14, .iload_n 2, 15), (15, .aload_n 0, 16), (16, .getfield 45, 19), (19, .iload_n 2, 20), (20, .invokevirtual 97, 23), (23, .iastore, 24), (24, .iinc 2 1, 27), (27, .goto (-25), 30), (30, .aload_n 0, 31), (31, .getfield 45, 34), (34, .invokevirtual 92, 37), (37, .ireturn, 38)]
def K_X8_listFirstValues : mm_K := ((yX8_listFirstValues, cX8_listFirstValues, 3, (some .int), RX8), (1, 21, 8), (il_X8_listFirstValues, [2, 30], fl_X8, ml_X8))
set_option maxRecDepth 100000 in
theorem ok_X8_listFirstValues : mm_KO K_X8_listFirstValues := ⟨by decide +kernel, fq_X8, mq_X8⟩
theorem mo_X8_listFirstValues : mm_MO K_X8_listFirstValues := ⟨tb_in 882 (by decide +kernel) (by decide +kernel), (fun r h => by cases h; rfl), by decide +kernel, rfl⟩
def il_X8_listAfter : List mm_I := [(0, .iconst 0, 1), (1, .istore 5, 3), (3, .aload_n 0, 4), (4, .getfield 38, 7), (7, .invokevirtual 100, 10), (10, .iconst 0, 11), (11, .istore 6, 13), (13, .iload 6, 15), (15, .iload_n 3, 16), (16, .if_icmp .ge 50, 19), (19, .aload_n 0, 20), (20, .getfield 45, 23), (23, .iload_n 1, 24), (24, .aload_n 2, 25), (25, .iload 6, 27), (27, .iaload, 28), (28, .invokevirtual 103, 31), (31, .istore 7, 33), (33, .iload 7, 35), (35, .ifCond .lt 25, 38), (38, .aload_n 0, 39), (39, .getfield 38, 42), (42, .iload 7, 44), (44, .invokevirtual 107, 47), (47, .ifCond .eq 13, 50), (50, .aload 4, 52), (52, .iload 5, 54), (54, .iload 7, 56), (56, .iastore, 57), (57, .iinc 5 1, 60), (60, .iinc 6 1, 63), (63, .goto (-50), 66), (66, .iload 5, 68), (68, .ireturn, 69)]
def K_X8_listAfter : mm_K := ((yX8_listAfter, cX8_listAfter, 8, (some .int), RX8), (2, 47, 8), (il_X8_listAfter, [13, 60, 66], fl_X8, ml_X8))
set_option maxRecDepth 100000 in
theorem ok_X8_listAfter : mm_KO K_X8_listAfter := ⟨by decide +kernel, fq_X8, mq_X8⟩
theorem mo_X8_listAfter : mm_MO K_X8_listAfter := ⟨tb_in 892 (by decide +kernel) (by decide +kernel), (fun r h => by cases h; rfl), by decide +kernel, rfl⟩
def il_X8_isEndedBy : List mm_I := [(0, .iconst 0, 1), (1, .istore_n 3, 2), (2, .iload_n 3, 3), (3, .aload_n 0, 4), (4, .getfield 41, 7), (7, .getfield 111, 10), (10, .if_icmp .ge 36, 13), (13, .aload_n 0, 14), (14, .getfield 17, 17), (17, .iload_n 3, 18), (18, .aload_n 0, 19), (19, .getfield 53, 22), (22, .iload_n 3, 23), (23, .iaload, 24), (24, .iload_n 2, 25), (25, .iload_n 3, 26), (26, .ishr, 27), (27, .iconst 1, 28), (28, .iand, 29), (29, .iconst 1, 30), (30, .if_icmp .ne 7, 33), (33, .iload_n 1, 34), (34, .goto 4, 37), (37, .iconst 0, 38), (38, .ior, 39), (39, .iastore, 40), (40, .iinc 3 1, 43), (43, .goto (-41), 46), (46, .aload_n 0, 47), (47, .getfield 25, 50), (50, .astore_n 3, 51), (51, .aload_n 0, 52), (52, .getfield 29, 55), (55, .astore 4, 57), (57, .aload_n 0, 58), (58, .getfield 49, 61), (61, .aload_n 0, 62), (62, .getfield 17, 65), (65, .iconst 0, 66), (66, .iaload, 67), (67, .aload_n 3, 68), (68, .invokevirtual 113, 71), (71, .iconst 0, 72), (72, .istore 5, 74), (74, .iload 5, 76), (76, .aload_n 0, 77), (77, .getfield 56, 80), (80, .if_icmp .ge 44, 83), (83, .aload_n 0, 84), (84, .getfield 49, 87), (87, .aload_n 0, 88), (88, .iload 5, 90), (90, .invokevirtual 68, 93), (93, .aload_n 0, 94), (94, .getfield 17, 97), (97, .aload_n 3, 98), (98, .aload 4, 100), (100, .invokevirtual 119, 103), (103, .ifCond .ne 5, 106), (106, .iconst 1, 107), (107, .ireturn, 108), (108, .aload_n 3, 109), (109, .astore 6, 111), (111, .aload 4, 113), (113, .astore_n 3, 114), (114, .aload 6, 116), (116, .astore 4, 118), (118, .iinc 5 1, 121), (121, .goto (-47), 124), (124, .iconst 0, 125), (125, .ireturn, 126)]
def K_X8_isEndedBy : mm_K := ((yX8_isEndedBy, cX8_isEndedBy, 7, (some .boolean), RX8), (3, 71, 8), (il_X8_isEndedBy, [2, 37, 38, 46, 74, 108, 124], fl_X8, ml_X8))
set_option maxRecDepth 100000 in
theorem ok_X8_isEndedBy : mm_KO K_X8_isEndedBy := ⟨by decide +kernel, fq_X8, mq_X8⟩
theorem mo_X8_isEndedBy : mm_MO K_X8_isEndedBy := ⟨tb_in 924 (by decide +kernel) (by decide +kernel), (fun r h => by cases h; rfl), by decide +kernel, rfl⟩
end
section
def fl_X9 : List mm_F := [(72, 5, 0, 0, 0), (131, 5, 1, 0, 1), (203, 5, 2, 0, 2), (206, 5, 3, 0, 3), (209, 5, 4, 0, 4), (80, 5, 8, 2, 8), (10, 9, 0, 2, 0), (19, 9, 1, 2, 1), (28, 9, 2, 2, 2), (32, 9, 3, 2, 3), (39, 9, 4, 2, 4), (246, 9, 5, 2, 5), (236, 9, 6, 2, 6), (243, 9, 7, 1, 7), (137, 9, 8, 1, 8)]
theorem fp_X9_0 : mm_fok RX9 (72, 5, 0, 0, 0) := ⟨RX5, TX5, 9, tyX5, rfl, tb_X5, tyX5_ok, nmX5, by decide, tb_in 111 (by decide +kernel) (by decide +kernel), rfl, rfl, rfl, fun _ => ⟨rfl, rfl⟩, fun h => absurd h (by decide)⟩
theorem fp_X9_1 : mm_fok RX9 (131, 5, 1, 0, 1) := ⟨RX5, TX5, 9, tyX5, rfl, tb_X5, tyX5_ok, nmX5, by decide, tb_in 117 (by decide +kernel) (by decide +kernel), rfl, rfl, rfl, fun _ => ⟨rfl, rfl⟩, fun h => absurd h (by decide)⟩
theorem fp_X9_2 : mm_fok RX9 (203, 5, 2, 0, 2) := ⟨RX5, TX5, 9, tyX5, rfl, tb_X5, tyX5_ok, nmX5, by decide, tb_in 122 (by decide +kernel) (by decide +kernel), rfl, rfl, rfl, fun _ => ⟨rfl, rfl⟩, fun h => absurd h (by decide)⟩
theorem fp_X9_3 : mm_fok RX9 (206, 5, 3, 0, 3) := ⟨RX5, TX5, 9, tyX5, rfl, tb_X5, tyX5_ok, nmX5, by decide, tb_in 128 (by decide +kernel) (by decide +kernel), rfl, rfl, rfl, fun _ => ⟨rfl, rfl⟩, fun h => absurd h (by decide)⟩
theorem fp_X9_4 : mm_fok RX9 (209, 5, 4, 0, 4) := ⟨RX5, TX5, 9, tyX5, rfl, tb_X5, tyX5_ok, nmX5, by decide, tb_in 134 (by decide +kernel) (by decide +kernel), rfl, rfl, rfl, fun _ => ⟨rfl, rfl⟩, fun h => absurd h (by decide)⟩
theorem fp_X9_5 : mm_fok RX9 (80, 5, 8, 2, 8) := ⟨RX5, TX5, 9, tyX5, rfl, tb_X5, tyX5_ok, nmX5, by decide, tb_in 146 (by decide +kernel) (by decide +kernel), rfl, rfl, rfl, fun h => absurd h (by decide), fun h => absurd h (by decide)⟩
theorem fp_X9_6 : mm_fok RX9 (10, 9, 0, 2, 0) := ⟨RX9, TX9, 9, tyX9, rfl, tb_X9, tyX9_ok, nmX9, by decide, tb_in 426 (by decide +kernel) (by decide +kernel), rfl, rfl, rfl, fun h => absurd h (by decide), fun h => absurd h (by decide)⟩
theorem fp_X9_7 : mm_fok RX9 (19, 9, 1, 2, 1) := ⟨RX9, TX9, 9, tyX9, rfl, tb_X9, tyX9_ok, nmX9, by decide, tb_in 427 (by decide +kernel) (by decide +kernel), rfl, rfl, rfl, fun h => absurd h (by decide), fun h => absurd h (by decide)⟩
theorem fp_X9_8 : mm_fok RX9 (28, 9, 2, 2, 2) := ⟨RX9, TX9, 9, tyX9, rfl, tb_X9, tyX9_ok, nmX9, by decide, tb_in 428 (by decide +kernel) (by decide +kernel), rfl, rfl, rfl, fun h => absurd h (by decide), fun h => absurd h (by decide)⟩
theorem fp_X9_9 : mm_fok RX9 (32, 9, 3, 2, 3) := ⟨RX9, TX9, 9, tyX9, rfl, tb_X9, tyX9_ok, nmX9, by decide, tb_in 429 (by decide +kernel) (by decide +kernel), rfl, rfl, rfl, fun h => absurd h (by decide), fun h => absurd h (by decide)⟩
theorem fp_X9_10 : mm_fok RX9 (39, 9, 4, 2, 4) := ⟨RX9, TX9, 9, tyX9, rfl, tb_X9, tyX9_ok, nmX9, by decide, tb_in 430 (by decide +kernel) (by decide +kernel), rfl, rfl, rfl, fun h => absurd h (by decide), fun h => absurd h (by decide)⟩
theorem fp_X9_11 : mm_fok RX9 (246, 9, 5, 2, 5) := ⟨RX9, TX9, 9, tyX9, rfl, tb_X9, tyX9_ok, nmX9, by decide, tb_in 431 (by decide +kernel) (by decide +kernel), rfl, rfl, rfl, fun h => absurd h (by decide), fun h => absurd h (by decide)⟩
theorem fp_X9_12 : mm_fok RX9 (236, 9, 6, 2, 6) := ⟨RX9, TX9, 9, tyX9, rfl, tb_X9, tyX9_ok, nmX9, by decide, tb_in 432 (by decide +kernel) (by decide +kernel), rfl, rfl, rfl, fun h => absurd h (by decide), fun h => absurd h (by decide)⟩
theorem fp_X9_13 : mm_fok RX9 (243, 9, 7, 1, 7) := ⟨RX9, TX9, 9, tyX9, rfl, tb_X9, tyX9_ok, nmX9, by decide, tb_in 433 (by decide +kernel) (by decide +kernel), rfl, rfl, rfl, fun h => absurd h (by decide), fun _ => ⟨rfl, rfl⟩⟩
theorem fp_X9_14 : mm_fok RX9 (137, 9, 8, 1, 8) := ⟨RX9, TX9, 9, tyX9, rfl, tb_X9, tyX9_ok, nmX9, by decide, tb_in 434 (by decide +kernel) (by decide +kernel), rfl, rfl, rfl, fun h => absurd h (by decide), fun _ => ⟨rfl, rfl⟩⟩
theorem fq_X9 : ∀ q ∈ fl_X9, mm_fok RX9 q := List.forall_mem_cons.mpr ⟨fp_X9_0, List.forall_mem_cons.mpr ⟨fp_X9_1, List.forall_mem_cons.mpr ⟨fp_X9_2, List.forall_mem_cons.mpr ⟨fp_X9_3, List.forall_mem_cons.mpr ⟨fp_X9_4, List.forall_mem_cons.mpr ⟨fp_X9_5, List.forall_mem_cons.mpr ⟨fp_X9_6, List.forall_mem_cons.mpr ⟨fp_X9_7, List.forall_mem_cons.mpr ⟨fp_X9_8, List.forall_mem_cons.mpr ⟨fp_X9_9, List.forall_mem_cons.mpr ⟨fp_X9_10, List.forall_mem_cons.mpr ⟨fp_X9_11, List.forall_mem_cons.mpr ⟨fp_X9_12, List.forall_mem_cons.mpr ⟨fp_X9_13, List.forall_mem_cons.mpr ⟨fp_X9_14, fun _ h => absurd h List.not_mem_nil⟩⟩⟩⟩⟩⟩⟩⟩⟩⟩⟩⟩⟩⟩⟩
def ml_X9 : List (Nat × Nat × Nat × MethodName) := [(9, 3, 0, yX7_init), (18, 3, 0, yX5_init), (25, 2, 1, yX3_init), (38, 3, 0, yX0_init), (45, 0, 0, yJ0_length_8abf5), (51, 0, 1, yJ0_charAt_5068e), (55, 0, 1, yX7_add), (59, 0, 0, yX9_takeText), (69, 0, 0, yX7_firstFault), (221, 0, 0, yX7_program), (224, 0, 1, yX5_become), (227, 0, 0, yX3_learn), (230, 1, 2, yJ7_fill_53178), (235, 0, 0, yX0_empty), (240, 0, 0, yX2_takeProgram), (91, 0, 0, yX9_forgetSearches), (63, 0, 0, yX7_empty), (66, 0, 0, yX7_size), (76, 0, 1, yX9_isEdge), (84, 0, 0, yX5_wants), (87, 0, 2, yX0_keep), (94, 0, 1, yX9_isComparison), (97, 1, 3, yX9_areValues), (218, 1, 1, yX9_isValue), (101, 0, 3, yX3_valuesOf), (105, 0, 1, yX3_sosOf), (109, 0, 2, yX3_after), (113, 0, 1, yX9_isPlace), (116, 0, 0, yX9_newestReal), (250, 2, 2, yX6_init), (253, 0, 0, yX6_search), (120, 0, 1, yX6_distanceOf), (125, 0, 1, yX6_valuesAt), (128, 0, 1, yX6_holdsAt), (134, 0, 1, yX6_edgeOfRun), (141, 1, 1, yJ6_bitCount_0f7a4), (146, 1, 1, yX9_isCube), (149, 0, 0, yX9_newestMay), (258, 2, 2, yX1_init), (259, 2, 4, yX8_init), (262, 2, 4, yX2_init), (265, 0, 0, yX2_search), (153, 0, 3, yX2_becomes), (158, 0, 1, yX2_statesOf), (161, 0, 2, yX2_cubeOf), (164, 0, 1, yX2_foundAt), (167, 0, 0, yX2_isSafe), (170, 0, 0, yX2_way), (174, 0, 0, yX8_far), (179, 0, 0, yX8_length), (180, 0, 1, yX8_edgeAt), (183, 1, 1, yX9_setThatMends), (191, 0, 0, yX8_isReal), (266, 0, 0, yX8_leastSetThatEnds), (187, 0, 2, yX9_lookOnPath), (269, 0, 0, yX8_places), (194, 0, 0, yX0_size), (195, 0, 1, yX0_takeBack), (199, 0, 1, yX5_setWants), (212, 0, 0, yX9_lookedAtInAll), (215, 0, 0, yX2_states)]
theorem mp_X9_0 : mm_lok RX9 (9, 3, 0, yX7_init) := ⟨⟨by decide, by decide, by decide +kernel⟩, tb_in 70 (by decide +kernel) (by decide +kernel), fun h => absurd h (by decide), fun h => absurd h (by decide), fun h => absurd h (by decide), fun _ => ⟨List.mem_of_getElem? (i := 2) rfl, tb_in 99 (by decide +kernel) (by decide +kernel), rfl⟩⟩
theorem mp_X9_1 : mm_lok RX9 (18, 3, 0, yX5_init) := ⟨⟨by decide, by decide, by decide +kernel⟩, tb_in 71 (by decide +kernel) (by decide +kernel), fun h => absurd h (by decide), fun h => absurd h (by decide), fun h => absurd h (by decide), fun _ => ⟨List.mem_of_getElem? (i := 0) rfl, tb_in 105 (by decide +kernel) (by decide +kernel), rfl⟩⟩
theorem mp_X9_2 : mm_lok RX9 (25, 2, 1, yX3_init) := ⟨⟨by decide, by decide, by decide +kernel⟩, tb_in 72 (by decide +kernel) (by decide +kernel), fun h => absurd h (by decide), fun h => absurd h (by decide), fun _ => ⟨tb_in 190 (by decide +kernel) (by decide +kernel), tb_in 191 (by decide +kernel) (by decide +kernel), rfl⟩, fun h => absurd h (by decide)⟩
theorem mp_X9_3 : mm_lok RX9 (38, 3, 0, yX0_init) := ⟨⟨by decide, by decide, by decide +kernel⟩, tb_in 73 (by decide +kernel) (by decide +kernel), fun h => absurd h (by decide), fun h => absurd h (by decide), fun h => absurd h (by decide), fun _ => ⟨List.mem_of_getElem? (i := 1) rfl, tb_in 216 (by decide +kernel) (by decide +kernel), rfl⟩⟩
theorem mp_X9_4 : mm_lok RX9 (45, 0, 0, yJ0_length_8abf5) := ⟨⟨by decide, by decide, by decide +kernel⟩, tb_in 74 (by decide +kernel) (by decide +kernel), fun _ => ⟨tb_in 234 (by decide +kernel) (by decide +kernel), tb_in 235 (by decide +kernel) (by decide +kernel), tb_in 236 (by decide +kernel) (by decide +kernel)⟩, fun h => absurd h (by decide), fun h => absurd h (by decide), fun h => absurd h (by decide)⟩
theorem mp_X9_5 : mm_lok RX9 (51, 0, 1, yJ0_charAt_5068e) := ⟨⟨by decide, by decide, by decide +kernel⟩, tb_in 74 (by decide +kernel) (by decide +kernel), fun _ => ⟨tb_in 244 (by decide +kernel) (by decide +kernel), tb_in 245 (by decide +kernel) (by decide +kernel), tb_in 246 (by decide +kernel) (by decide +kernel)⟩, fun h => absurd h (by decide), fun h => absurd h (by decide), fun h => absurd h (by decide)⟩
theorem mp_X9_6 : mm_lok RX9 (55, 0, 1, yX7_add) := ⟨⟨by decide, by decide, by decide +kernel⟩, tb_in 70 (by decide +kernel) (by decide +kernel), fun _ => ⟨tb_in 282 (by decide +kernel) (by decide +kernel), tb_in 283 (by decide +kernel) (by decide +kernel), tb_in 284 (by decide +kernel) (by decide +kernel)⟩, fun h => absurd h (by decide), fun h => absurd h (by decide), fun h => absurd h (by decide)⟩
theorem mp_X9_7 : mm_lok RX9 (59, 0, 0, yX9_takeText) := ⟨⟨by decide, by decide, by decide +kernel⟩, tb_in 69 (by decide +kernel) (by decide +kernel), fun _ => ⟨tb_in 286 (by decide +kernel) (by decide +kernel), tb_in 288 (by decide +kernel) (by decide +kernel), tb_in 0 (by decide +kernel) (by decide +kernel)⟩, fun h => absurd h (by decide), fun h => absurd h (by decide), fun h => absurd h (by decide)⟩
theorem mp_X9_8 : mm_lok RX9 (69, 0, 0, yX7_firstFault) := ⟨⟨by decide, by decide, by decide +kernel⟩, tb_in 70 (by decide +kernel) (by decide +kernel), fun _ => ⟨tb_in 290 (by decide +kernel) (by decide +kernel), tb_in 291 (by decide +kernel) (by decide +kernel), tb_in 292 (by decide +kernel) (by decide +kernel)⟩, fun h => absurd h (by decide), fun h => absurd h (by decide), fun h => absurd h (by decide)⟩
theorem mp_X9_9 : mm_lok RX9 (221, 0, 0, yX7_program) := ⟨⟨by decide, by decide, by decide +kernel⟩, tb_in 70 (by decide +kernel) (by decide +kernel), fun _ => ⟨tb_in 340 (by decide +kernel) (by decide +kernel), tb_in 341 (by decide +kernel) (by decide +kernel), tb_in 342 (by decide +kernel) (by decide +kernel)⟩, fun h => absurd h (by decide), fun h => absurd h (by decide), fun h => absurd h (by decide)⟩
theorem mp_X9_10 : mm_lok RX9 (224, 0, 1, yX5_become) := ⟨⟨by decide, by decide, by decide +kernel⟩, tb_in 71 (by decide +kernel) (by decide +kernel), fun _ => ⟨tb_in 344 (by decide +kernel) (by decide +kernel), tb_in 345 (by decide +kernel) (by decide +kernel), tb_in 346 (by decide +kernel) (by decide +kernel)⟩, fun h => absurd h (by decide), fun h => absurd h (by decide), fun h => absurd h (by decide)⟩
theorem mp_X9_11 : mm_lok RX9 (227, 0, 0, yX3_learn) := ⟨⟨by decide, by decide, by decide +kernel⟩, tb_in 72 (by decide +kernel) (by decide +kernel), fun _ => ⟨tb_in 349 (by decide +kernel) (by decide +kernel), tb_in 350 (by decide +kernel) (by decide +kernel), tb_in 351 (by decide +kernel) (by decide +kernel)⟩, fun h => absurd h (by decide), fun h => absurd h (by decide), fun h => absurd h (by decide)⟩
theorem mp_X9_12 : mm_lok RX9 (230, 1, 2, yJ7_fill_53178) := ⟨⟨by decide, by decide, by decide +kernel⟩, tb_in 79 (by decide +kernel) (by decide +kernel), fun h => absurd h (by decide), fun _ => ⟨tb_in 371 (by decide +kernel) (by decide +kernel), tb_in 372 (by decide +kernel) (by decide +kernel)⟩, fun h => absurd h (by decide), fun h => absurd h (by decide)⟩
theorem mp_X9_13 : mm_lok RX9 (235, 0, 0, yX0_empty) := ⟨⟨by decide, by decide, by decide +kernel⟩, tb_in 73 (by decide +kernel) (by decide +kernel), fun _ => ⟨tb_in 374 (by decide +kernel) (by decide +kernel), tb_in 375 (by decide +kernel) (by decide +kernel), tb_in 376 (by decide +kernel) (by decide +kernel)⟩, fun h => absurd h (by decide), fun h => absurd h (by decide), fun h => absurd h (by decide)⟩
theorem mp_X9_14 : mm_lok RX9 (240, 0, 0, yX2_takeProgram) := ⟨⟨by decide, by decide, by decide +kernel⟩, tb_in 87 (by decide +kernel) (by decide +kernel), fun _ => ⟨tb_in 378 (by decide +kernel) (by decide +kernel), tb_in 379 (by decide +kernel) (by decide +kernel), tb_in 380 (by decide +kernel) (by decide +kernel)⟩, fun h => absurd h (by decide), fun h => absurd h (by decide), fun h => absurd h (by decide)⟩
theorem mp_X9_15 : mm_lok RX9 (91, 0, 0, yX9_forgetSearches) := ⟨⟨by decide, by decide, by decide +kernel⟩, tb_in 69 (by decide +kernel) (by decide +kernel), fun _ => ⟨tb_in 418 (by decide +kernel) (by decide +kernel), tb_in 420 (by decide +kernel) (by decide +kernel), tb_in 13 (by decide +kernel) (by decide +kernel)⟩, fun h => absurd h (by decide), fun h => absurd h (by decide), fun h => absurd h (by decide)⟩
theorem mp_X9_16 : mm_lok RX9 (63, 0, 0, yX7_empty) := ⟨⟨by decide, by decide, by decide +kernel⟩, tb_in 70 (by decide +kernel) (by decide +kernel), fun _ => ⟨tb_in 422 (by decide +kernel) (by decide +kernel), tb_in 423 (by decide +kernel) (by decide +kernel), tb_in 424 (by decide +kernel) (by decide +kernel)⟩, fun h => absurd h (by decide), fun h => absurd h (by decide), fun h => absurd h (by decide)⟩
theorem mp_X9_17 : mm_lok RX9 (66, 0, 0, yX7_size) := ⟨⟨by decide, by decide, by decide +kernel⟩, tb_in 70 (by decide +kernel) (by decide +kernel), fun _ => ⟨tb_in 459 (by decide +kernel) (by decide +kernel), tb_in 460 (by decide +kernel) (by decide +kernel), tb_in 461 (by decide +kernel) (by decide +kernel)⟩, fun h => absurd h (by decide), fun h => absurd h (by decide), fun h => absurd h (by decide)⟩
theorem mp_X9_18 : mm_lok RX9 (76, 0, 1, yX9_isEdge) := ⟨⟨by decide, by decide, by decide +kernel⟩, tb_in 69 (by decide +kernel) (by decide +kernel), fun _ => ⟨tb_in 479 (by decide +kernel) (by decide +kernel), tb_in 481 (by decide +kernel) (by decide +kernel), tb_in 14 (by decide +kernel) (by decide +kernel)⟩, fun h => absurd h (by decide), fun h => absurd h (by decide), fun h => absurd h (by decide)⟩
theorem mp_X9_19 : mm_lok RX9 (84, 0, 0, yX5_wants) := ⟨⟨by decide, by decide, by decide +kernel⟩, tb_in 71 (by decide +kernel) (by decide +kernel), fun _ => ⟨tb_in 487 (by decide +kernel) (by decide +kernel), tb_in 488 (by decide +kernel) (by decide +kernel), tb_in 489 (by decide +kernel) (by decide +kernel)⟩, fun h => absurd h (by decide), fun h => absurd h (by decide), fun h => absurd h (by decide)⟩
theorem mp_X9_20 : mm_lok RX9 (87, 0, 2, yX0_keep) := ⟨⟨by decide, by decide, by decide +kernel⟩, tb_in 73 (by decide +kernel) (by decide +kernel), fun _ => ⟨tb_in 491 (by decide +kernel) (by decide +kernel), tb_in 492 (by decide +kernel) (by decide +kernel), tb_in 493 (by decide +kernel) (by decide +kernel)⟩, fun h => absurd h (by decide), fun h => absurd h (by decide), fun h => absurd h (by decide)⟩
theorem mp_X9_21 : mm_lok RX9 (94, 0, 1, yX9_isComparison) := ⟨⟨by decide, by decide, by decide +kernel⟩, tb_in 69 (by decide +kernel) (by decide +kernel), fun _ => ⟨tb_in 503 (by decide +kernel) (by decide +kernel), tb_in 505 (by decide +kernel) (by decide +kernel), tb_in 15 (by decide +kernel) (by decide +kernel)⟩, fun h => absurd h (by decide), fun h => absurd h (by decide), fun h => absurd h (by decide)⟩
theorem mp_X9_22 : mm_lok RX9 (97, 1, 3, yX9_areValues) := ⟨⟨by decide, by decide, by decide +kernel⟩, tb_in 69 (by decide +kernel) (by decide +kernel), fun h => absurd h (by decide), fun _ => ⟨tb_in 507 (by decide +kernel) (by decide +kernel), tb_in 508 (by decide +kernel) (by decide +kernel)⟩, fun h => absurd h (by decide), fun h => absurd h (by decide)⟩
theorem mp_X9_23 : mm_lok RX9 (218, 1, 1, yX9_isValue) := ⟨⟨by decide, by decide, by decide +kernel⟩, tb_in 69 (by decide +kernel) (by decide +kernel), fun h => absurd h (by decide), fun _ => ⟨tb_in 510 (by decide +kernel) (by decide +kernel), tb_in 511 (by decide +kernel) (by decide +kernel)⟩, fun h => absurd h (by decide), fun h => absurd h (by decide)⟩
theorem mp_X9_24 : mm_lok RX9 (101, 0, 3, yX3_valuesOf) := ⟨⟨by decide, by decide, by decide +kernel⟩, tb_in 72 (by decide +kernel) (by decide +kernel), fun _ => ⟨tb_in 513 (by decide +kernel) (by decide +kernel), tb_in 514 (by decide +kernel) (by decide +kernel), tb_in 515 (by decide +kernel) (by decide +kernel)⟩, fun h => absurd h (by decide), fun h => absurd h (by decide), fun h => absurd h (by decide)⟩
theorem mp_X9_25 : mm_lok RX9 (105, 0, 1, yX3_sosOf) := ⟨⟨by decide, by decide, by decide +kernel⟩, tb_in 72 (by decide +kernel) (by decide +kernel), fun _ => ⟨tb_in 517 (by decide +kernel) (by decide +kernel), tb_in 398 (by decide +kernel) (by decide +kernel), tb_in 399 (by decide +kernel) (by decide +kernel)⟩, fun h => absurd h (by decide), fun h => absurd h (by decide), fun h => absurd h (by decide)⟩
theorem mp_X9_26 : mm_lok RX9 (109, 0, 2, yX3_after) := ⟨⟨by decide, by decide, by decide +kernel⟩, tb_in 72 (by decide +kernel) (by decide +kernel), fun _ => ⟨tb_in 522 (by decide +kernel) (by decide +kernel), tb_in 523 (by decide +kernel) (by decide +kernel), tb_in 524 (by decide +kernel) (by decide +kernel)⟩, fun h => absurd h (by decide), fun h => absurd h (by decide), fun h => absurd h (by decide)⟩
theorem mp_X9_27 : mm_lok RX9 (113, 0, 1, yX9_isPlace) := ⟨⟨by decide, by decide, by decide +kernel⟩, tb_in 69 (by decide +kernel) (by decide +kernel), fun _ => ⟨tb_in 530 (by decide +kernel) (by decide +kernel), tb_in 532 (by decide +kernel) (by decide +kernel), tb_in 16 (by decide +kernel) (by decide +kernel)⟩, fun h => absurd h (by decide), fun h => absurd h (by decide), fun h => absurd h (by decide)⟩
theorem mp_X9_28 : mm_lok RX9 (116, 0, 0, yX9_newestReal) := ⟨⟨by decide, by decide, by decide +kernel⟩, tb_in 69 (by decide +kernel) (by decide +kernel), fun _ => ⟨tb_in 534 (by decide +kernel) (by decide +kernel), tb_in 536 (by decide +kernel) (by decide +kernel), tb_in 17 (by decide +kernel) (by decide +kernel)⟩, fun h => absurd h (by decide), fun h => absurd h (by decide), fun h => absurd h (by decide)⟩
theorem mp_X9_29 : mm_lok RX9 (250, 2, 2, yX6_init) := ⟨⟨by decide, by decide, by decide +kernel⟩, tb_in 82 (by decide +kernel) (by decide +kernel), fun h => absurd h (by decide), fun h => absurd h (by decide), fun _ => ⟨tb_in 540 (by decide +kernel) (by decide +kernel), tb_in 541 (by decide +kernel) (by decide +kernel), rfl⟩, fun h => absurd h (by decide)⟩
theorem mp_X9_30 : mm_lok RX9 (253, 0, 0, yX6_search) := ⟨⟨by decide, by decide, by decide +kernel⟩, tb_in 82 (by decide +kernel) (by decide +kernel), fun _ => ⟨tb_in 588 (by decide +kernel) (by decide +kernel), tb_in 589 (by decide +kernel) (by decide +kernel), tb_in 590 (by decide +kernel) (by decide +kernel)⟩, fun h => absurd h (by decide), fun h => absurd h (by decide), fun h => absurd h (by decide)⟩
theorem mp_X9_31 : mm_lok RX9 (120, 0, 1, yX6_distanceOf) := ⟨⟨by decide, by decide, by decide +kernel⟩, tb_in 82 (by decide +kernel) (by decide +kernel), fun _ => ⟨tb_in 618 (by decide +kernel) (by decide +kernel), tb_in 619 (by decide +kernel) (by decide +kernel), tb_in 620 (by decide +kernel) (by decide +kernel)⟩, fun h => absurd h (by decide), fun h => absurd h (by decide), fun h => absurd h (by decide)⟩
theorem mp_X9_32 : mm_lok RX9 (125, 0, 1, yX6_valuesAt) := ⟨⟨by decide, by decide, by decide +kernel⟩, tb_in 82 (by decide +kernel) (by decide +kernel), fun _ => ⟨tb_in 622 (by decide +kernel) (by decide +kernel), tb_in 623 (by decide +kernel) (by decide +kernel), tb_in 624 (by decide +kernel) (by decide +kernel)⟩, fun h => absurd h (by decide), fun h => absurd h (by decide), fun h => absurd h (by decide)⟩
theorem mp_X9_33 : mm_lok RX9 (128, 0, 1, yX6_holdsAt) := ⟨⟨by decide, by decide, by decide +kernel⟩, tb_in 82 (by decide +kernel) (by decide +kernel), fun _ => ⟨tb_in 626 (by decide +kernel) (by decide +kernel), tb_in 627 (by decide +kernel) (by decide +kernel), tb_in 628 (by decide +kernel) (by decide +kernel)⟩, fun h => absurd h (by decide), fun h => absurd h (by decide), fun h => absurd h (by decide)⟩
theorem mp_X9_34 : mm_lok RX9 (134, 0, 1, yX6_edgeOfRun) := ⟨⟨by decide, by decide, by decide +kernel⟩, tb_in 82 (by decide +kernel) (by decide +kernel), fun _ => ⟨tb_in 634 (by decide +kernel) (by decide +kernel), tb_in 635 (by decide +kernel) (by decide +kernel), tb_in 636 (by decide +kernel) (by decide +kernel)⟩, fun h => absurd h (by decide), fun h => absurd h (by decide), fun h => absurd h (by decide)⟩
theorem mp_X9_35 : mm_lok RX9 (141, 1, 1, yJ6_bitCount_0f7a4) := ⟨⟨by decide, by decide, by decide +kernel⟩, tb_in 84 (by decide +kernel) (by decide +kernel), fun h => absurd h (by decide), fun _ => ⟨tb_in 642 (by decide +kernel) (by decide +kernel), tb_in 643 (by decide +kernel) (by decide +kernel)⟩, fun h => absurd h (by decide), fun h => absurd h (by decide)⟩
theorem mp_X9_36 : mm_lok RX9 (146, 1, 1, yX9_isCube) := ⟨⟨by decide, by decide, by decide +kernel⟩, tb_in 69 (by decide +kernel) (by decide +kernel), fun h => absurd h (by decide), fun _ => ⟨tb_in 656 (by decide +kernel) (by decide +kernel), tb_in 657 (by decide +kernel) (by decide +kernel)⟩, fun h => absurd h (by decide), fun h => absurd h (by decide)⟩
theorem mp_X9_37 : mm_lok RX9 (149, 0, 0, yX9_newestMay) := ⟨⟨by decide, by decide, by decide +kernel⟩, tb_in 69 (by decide +kernel) (by decide +kernel), fun _ => ⟨tb_in 659 (by decide +kernel) (by decide +kernel), tb_in 661 (by decide +kernel) (by decide +kernel), tb_in 23 (by decide +kernel) (by decide +kernel)⟩, fun h => absurd h (by decide), fun h => absurd h (by decide), fun h => absurd h (by decide)⟩
theorem mp_X9_38 : mm_lok RX9 (258, 2, 2, yX1_init) := ⟨⟨by decide, by decide, by decide +kernel⟩, tb_in 85 (by decide +kernel) (by decide +kernel), fun h => absurd h (by decide), fun h => absurd h (by decide), fun _ => ⟨tb_in 664 (by decide +kernel) (by decide +kernel), tb_in 665 (by decide +kernel) (by decide +kernel), rfl⟩, fun h => absurd h (by decide)⟩
theorem mp_X9_39 : mm_lok RX9 (259, 2, 4, yX8_init) := ⟨⟨by decide, by decide, by decide +kernel⟩, tb_in 86 (by decide +kernel) (by decide +kernel), fun h => absurd h (by decide), fun h => absurd h (by decide), fun _ => ⟨tb_in 701 (by decide +kernel) (by decide +kernel), tb_in 702 (by decide +kernel) (by decide +kernel), rfl⟩, fun h => absurd h (by decide)⟩
theorem mp_X9_40 : mm_lok RX9 (262, 2, 4, yX2_init) := ⟨⟨by decide, by decide, by decide +kernel⟩, tb_in 87 (by decide +kernel) (by decide +kernel), fun h => absurd h (by decide), fun h => absurd h (by decide), fun _ => ⟨tb_in 746 (by decide +kernel) (by decide +kernel), tb_in 747 (by decide +kernel) (by decide +kernel), rfl⟩, fun h => absurd h (by decide)⟩
theorem mp_X9_41 : mm_lok RX9 (265, 0, 0, yX2_search) := ⟨⟨by decide, by decide, by decide +kernel⟩, tb_in 87 (by decide +kernel) (by decide +kernel), fun _ => ⟨tb_in 786 (by decide +kernel) (by decide +kernel), tb_in 787 (by decide +kernel) (by decide +kernel), tb_in 788 (by decide +kernel) (by decide +kernel)⟩, fun h => absurd h (by decide), fun h => absurd h (by decide), fun h => absurd h (by decide)⟩
theorem mp_X9_42 : mm_lok RX9 (153, 0, 3, yX2_becomes) := ⟨⟨by decide, by decide, by decide +kernel⟩, tb_in 87 (by decide +kernel) (by decide +kernel), fun _ => ⟨tb_in 839 (by decide +kernel) (by decide +kernel), tb_in 840 (by decide +kernel) (by decide +kernel), tb_in 841 (by decide +kernel) (by decide +kernel)⟩, fun h => absurd h (by decide), fun h => absurd h (by decide), fun h => absurd h (by decide)⟩
theorem mp_X9_43 : mm_lok RX9 (158, 0, 1, yX2_statesOf) := ⟨⟨by decide, by decide, by decide +kernel⟩, tb_in 87 (by decide +kernel) (by decide +kernel), fun _ => ⟨tb_in 847 (by decide +kernel) (by decide +kernel), tb_in 848 (by decide +kernel) (by decide +kernel), tb_in 849 (by decide +kernel) (by decide +kernel)⟩, fun h => absurd h (by decide), fun h => absurd h (by decide), fun h => absurd h (by decide)⟩
theorem mp_X9_44 : mm_lok RX9 (161, 0, 2, yX2_cubeOf) := ⟨⟨by decide, by decide, by decide +kernel⟩, tb_in 87 (by decide +kernel) (by decide +kernel), fun _ => ⟨tb_in 851 (by decide +kernel) (by decide +kernel), tb_in 852 (by decide +kernel) (by decide +kernel), tb_in 853 (by decide +kernel) (by decide +kernel)⟩, fun h => absurd h (by decide), fun h => absurd h (by decide), fun h => absurd h (by decide)⟩
theorem mp_X9_45 : mm_lok RX9 (164, 0, 1, yX2_foundAt) := ⟨⟨by decide, by decide, by decide +kernel⟩, tb_in 87 (by decide +kernel) (by decide +kernel), fun _ => ⟨tb_in 859 (by decide +kernel) (by decide +kernel), tb_in 860 (by decide +kernel) (by decide +kernel), tb_in 861 (by decide +kernel) (by decide +kernel)⟩, fun h => absurd h (by decide), fun h => absurd h (by decide), fun h => absurd h (by decide)⟩
theorem mp_X9_46 : mm_lok RX9 (167, 0, 0, yX2_isSafe) := ⟨⟨by decide, by decide, by decide +kernel⟩, tb_in 87 (by decide +kernel) (by decide +kernel), fun _ => ⟨tb_in 867 (by decide +kernel) (by decide +kernel), tb_in 868 (by decide +kernel) (by decide +kernel), tb_in 869 (by decide +kernel) (by decide +kernel)⟩, fun h => absurd h (by decide), fun h => absurd h (by decide), fun h => absurd h (by decide)⟩
theorem mp_X9_47 : mm_lok RX9 (170, 0, 0, yX2_way) := ⟨⟨by decide, by decide, by decide +kernel⟩, tb_in 87 (by decide +kernel) (by decide +kernel), fun _ => ⟨tb_in 871 (by decide +kernel) (by decide +kernel), tb_in 872 (by decide +kernel) (by decide +kernel), tb_in 873 (by decide +kernel) (by decide +kernel)⟩, fun h => absurd h (by decide), fun h => absurd h (by decide), fun h => absurd h (by decide)⟩
theorem mp_X9_48 : mm_lok RX9 (174, 0, 0, yX8_far) := ⟨⟨by decide, by decide, by decide +kernel⟩, tb_in 86 (by decide +kernel) (by decide +kernel), fun _ => ⟨tb_in 875 (by decide +kernel) (by decide +kernel), tb_in 876 (by decide +kernel) (by decide +kernel), tb_in 877 (by decide +kernel) (by decide +kernel)⟩, fun h => absurd h (by decide), fun h => absurd h (by decide), fun h => absurd h (by decide)⟩
theorem mp_X9_49 : mm_lok RX9 (179, 0, 0, yX8_length) := ⟨⟨by decide, by decide, by decide +kernel⟩, tb_in 86 (by decide +kernel) (by decide +kernel), fun _ => ⟨tb_in 896 (by decide +kernel) (by decide +kernel), tb_in 897 (by decide +kernel) (by decide +kernel), tb_in 898 (by decide +kernel) (by decide +kernel)⟩, fun h => absurd h (by decide), fun h => absurd h (by decide), fun h => absurd h (by decide)⟩
theorem mp_X9_50 : mm_lok RX9 (180, 0, 1, yX8_edgeAt) := ⟨⟨by decide, by decide, by decide +kernel⟩, tb_in 86 (by decide +kernel) (by decide +kernel), fun _ => ⟨tb_in 900 (by decide +kernel) (by decide +kernel), tb_in 886 (by decide +kernel) (by decide +kernel), tb_in 887 (by decide +kernel) (by decide +kernel)⟩, fun h => absurd h (by decide), fun h => absurd h (by decide), fun h => absurd h (by decide)⟩
theorem mp_X9_51 : mm_lok RX9 (183, 1, 1, yX9_setThatMends) := ⟨⟨by decide, by decide, by decide +kernel⟩, tb_in 69 (by decide +kernel) (by decide +kernel), fun h => absurd h (by decide), fun _ => ⟨tb_in 905 (by decide +kernel) (by decide +kernel), tb_in 906 (by decide +kernel) (by decide +kernel)⟩, fun h => absurd h (by decide), fun h => absurd h (by decide)⟩
theorem mp_X9_52 : mm_lok RX9 (191, 0, 0, yX8_isReal) := ⟨⟨by decide, by decide, by decide +kernel⟩, tb_in 86 (by decide +kernel) (by decide +kernel), fun _ => ⟨tb_in 908 (by decide +kernel) (by decide +kernel), tb_in 909 (by decide +kernel) (by decide +kernel), tb_in 910 (by decide +kernel) (by decide +kernel)⟩, fun h => absurd h (by decide), fun h => absurd h (by decide), fun h => absurd h (by decide)⟩
theorem mp_X9_53 : mm_lok RX9 (266, 0, 0, yX8_leastSetThatEnds) := ⟨⟨by decide, by decide, by decide +kernel⟩, tb_in 86 (by decide +kernel) (by decide +kernel), fun _ => ⟨tb_in 913 (by decide +kernel) (by decide +kernel), tb_in 914 (by decide +kernel) (by decide +kernel), tb_in 915 (by decide +kernel) (by decide +kernel)⟩, fun h => absurd h (by decide), fun h => absurd h (by decide), fun h => absurd h (by decide)⟩
theorem mp_X9_54 : mm_lok RX9 (187, 0, 2, yX9_lookOnPath) := ⟨⟨by decide, by decide, by decide +kernel⟩, tb_in 69 (by decide +kernel) (by decide +kernel), fun _ => ⟨tb_in 927 (by decide +kernel) (by decide +kernel), tb_in 929 (by decide +kernel) (by decide +kernel), tb_in 32 (by decide +kernel) (by decide +kernel)⟩, fun h => absurd h (by decide), fun h => absurd h (by decide), fun h => absurd h (by decide)⟩
theorem mp_X9_55 : mm_lok RX9 (269, 0, 0, yX8_places) := ⟨⟨by decide, by decide, by decide +kernel⟩, tb_in 86 (by decide +kernel) (by decide +kernel), fun _ => ⟨tb_in 931 (by decide +kernel) (by decide +kernel), tb_in 918 (by decide +kernel) (by decide +kernel), tb_in 919 (by decide +kernel) (by decide +kernel)⟩, fun h => absurd h (by decide), fun h => absurd h (by decide), fun h => absurd h (by decide)⟩
theorem mp_X9_56 : mm_lok RX9 (194, 0, 0, yX0_size) := ⟨⟨by decide, by decide, by decide +kernel⟩, tb_in 73 (by decide +kernel) (by decide +kernel), fun _ => ⟨tb_in 940 (by decide +kernel) (by decide +kernel), tb_in 941 (by decide +kernel) (by decide +kernel), tb_in 942 (by decide +kernel) (by decide +kernel)⟩, fun h => absurd h (by decide), fun h => absurd h (by decide), fun h => absurd h (by decide)⟩
theorem mp_X9_57 : mm_lok RX9 (195, 0, 1, yX0_takeBack) := ⟨⟨by decide, by decide, by decide +kernel⟩, tb_in 73 (by decide +kernel) (by decide +kernel), fun _ => ⟨tb_in 944 (by decide +kernel) (by decide +kernel), tb_in 945 (by decide +kernel) (by decide +kernel), tb_in 946 (by decide +kernel) (by decide +kernel)⟩, fun h => absurd h (by decide), fun h => absurd h (by decide), fun h => absurd h (by decide)⟩
theorem mp_X9_58 : mm_lok RX9 (199, 0, 1, yX5_setWants) := ⟨⟨by decide, by decide, by decide +kernel⟩, tb_in 71 (by decide +kernel) (by decide +kernel), fun _ => ⟨tb_in 948 (by decide +kernel) (by decide +kernel), tb_in 949 (by decide +kernel) (by decide +kernel), tb_in 950 (by decide +kernel) (by decide +kernel)⟩, fun h => absurd h (by decide), fun h => absurd h (by decide), fun h => absurd h (by decide)⟩
theorem mp_X9_59 : mm_lok RX9 (212, 0, 0, yX9_lookedAtInAll) := ⟨⟨by decide, by decide, by decide +kernel⟩, tb_in 69 (by decide +kernel) (by decide +kernel), fun _ => ⟨tb_in 956 (by decide +kernel) (by decide +kernel), tb_in 958 (by decide +kernel) (by decide +kernel), tb_in 33 (by decide +kernel) (by decide +kernel)⟩, fun h => absurd h (by decide), fun h => absurd h (by decide), fun h => absurd h (by decide)⟩
theorem mp_X9_60 : mm_lok RX9 (215, 0, 0, yX2_states) := ⟨⟨by decide, by decide, by decide +kernel⟩, tb_in 87 (by decide +kernel) (by decide +kernel), fun _ => ⟨tb_in 960 (by decide +kernel) (by decide +kernel), tb_in 961 (by decide +kernel) (by decide +kernel), tb_in 962 (by decide +kernel) (by decide +kernel)⟩, fun h => absurd h (by decide), fun h => absurd h (by decide), fun h => absurd h (by decide)⟩
theorem mq_X9 : ∀ q ∈ ml_X9, mm_lok RX9 q := List.forall_mem_cons.mpr ⟨mp_X9_0, List.forall_mem_cons.mpr ⟨mp_X9_1, List.forall_mem_cons.mpr ⟨mp_X9_2, List.forall_mem_cons.mpr ⟨mp_X9_3, List.forall_mem_cons.mpr ⟨mp_X9_4, List.forall_mem_cons.mpr ⟨mp_X9_5, List.forall_mem_cons.mpr ⟨mp_X9_6, List.forall_mem_cons.mpr ⟨mp_X9_7, List.forall_mem_cons.mpr ⟨mp_X9_8, List.forall_mem_cons.mpr ⟨mp_X9_9, List.forall_mem_cons.mpr ⟨mp_X9_10, List.forall_mem_cons.mpr ⟨mp_X9_11, List.forall_mem_cons.mpr ⟨mp_X9_12, List.forall_mem_cons.mpr ⟨mp_X9_13, List.forall_mem_cons.mpr ⟨mp_X9_14, List.forall_mem_cons.mpr ⟨mp_X9_15, List.forall_mem_cons.mpr ⟨mp_X9_16, List.forall_mem_cons.mpr ⟨mp_X9_17, List.forall_mem_cons.mpr ⟨mp_X9_18, List.forall_mem_cons.mpr ⟨mp_X9_19, List.forall_mem_cons.mpr ⟨mp_X9_20, List.forall_mem_cons.mpr ⟨mp_X9_21, List.forall_mem_cons.mpr ⟨mp_X9_22, List.forall_mem_cons.mpr ⟨mp_X9_23, List.forall_mem_cons.mpr ⟨mp_X9_24, List.forall_mem_cons.mpr ⟨mp_X9_25, List.forall_mem_cons.mpr ⟨mp_X9_26, List.forall_mem_cons.mpr ⟨mp_X9_27, List.forall_mem_cons.mpr ⟨mp_X9_28, List.forall_mem_cons.mpr ⟨mp_X9_29, List.forall_mem_cons.mpr ⟨mp_X9_30, List.forall_mem_cons.mpr ⟨mp_X9_31, List.forall_mem_cons.mpr ⟨mp_X9_32, List.forall_mem_cons.mpr ⟨mp_X9_33, List.forall_mem_cons.mpr ⟨mp_X9_34, List.forall_mem_cons.mpr ⟨mp_X9_35, List.forall_mem_cons.mpr ⟨mp_X9_36, List.forall_mem_cons.mpr ⟨mp_X9_37, List.forall_mem_cons.mpr ⟨mp_X9_38, List.forall_mem_cons.mpr ⟨mp_X9_39, List.forall_mem_cons.mpr ⟨mp_X9_40, List.forall_mem_cons.mpr ⟨mp_X9_41, List.forall_mem_cons.mpr ⟨mp_X9_42, List.forall_mem_cons.mpr ⟨mp_X9_43, List.forall_mem_cons.mpr ⟨mp_X9_44, List.forall_mem_cons.mpr ⟨mp_X9_45, List.forall_mem_cons.mpr ⟨mp_X9_46, List.forall_mem_cons.mpr ⟨mp_X9_47, List.forall_mem_cons.mpr ⟨mp_X9_48, List.forall_mem_cons.mpr ⟨mp_X9_49, List.forall_mem_cons.mpr ⟨mp_X9_50, List.forall_mem_cons.mpr ⟨mp_X9_51, List.forall_mem_cons.mpr ⟨mp_X9_52, List.forall_mem_cons.mpr ⟨mp_X9_53, List.forall_mem_cons.mpr ⟨mp_X9_54, List.forall_mem_cons.mpr ⟨mp_X9_55, List.forall_mem_cons.mpr ⟨mp_X9_56, List.forall_mem_cons.mpr ⟨mp_X9_57, List.forall_mem_cons.mpr ⟨mp_X9_58, List.forall_mem_cons.mpr ⟨mp_X9_59, List.forall_mem_cons.mpr ⟨mp_X9_60, fun _ h => absurd h List.not_mem_nil⟩⟩⟩⟩⟩⟩⟩⟩⟩⟩⟩⟩⟩⟩⟩⟩⟩⟩⟩⟩⟩⟩⟩⟩⟩⟩⟩⟩⟩⟩⟩⟩⟩⟩⟩⟩⟩⟩⟩⟩⟩⟩⟩⟩⟩⟩⟩⟩⟩⟩⟩⟩⟩⟩⟩⟩⟩⟩⟩⟩⟩
def il_X9_init : List mm_I := [(0, .aload_n 0, 1), (1, .invokespecial 1, 4), (4, .aload_n 0, 5), (5, .new 7, 8), (8, .dup, 9), (9, .invokespecial 9, 12), (12, .putfield 10, 15), (15, .aload_n 0, 16), (16, .new 16, 19), (19, .dup, 20), (20, .invokespecial 18, 23), (23, .putfield 19, 26), (26, .aload_n 0, 27), (27, .new 23, 30), (30, .dup, 31), (31, .aload_n 0, 32), (32, .getfield 19, 35), (35, .invokespecial 25, 38), (38, .putfield 28, 41), (41, .aload_n 0, 42), (42, .bipush 8, 44), (44, .newarray .int, 46), (46, .putfield 32, 49), (49, .aload_n 0, 50), (50, .new 36, 53), (53, .dup, 54), (54, .invokespecial 38, 57), (57, .putfield 39, 60), (60, .iconst 0, 61), (61, .istore_n 1, 62), (62, .iload_n 1, 63), (63, .ldc 43, 65), (65, .invokevirtual 45, 68), (68, .if_icmp .ge 23, 71), (71, .aload_n 0, 72), (72, .getfield 10, 75), (75, .ldc 43, 77), (77, .iload_n 1, 78), (78, .invokevirtual 51, 81), (81, .invokevirtual 55, 84), (84, .pop, 85), (85, .iinc 1 1, 88), (88, .goto (-26), 91), (91, .aload_n 0, 92), (92, .invokevirtual 59, 95), (95, .pop, 96), (96, .aload_n 0, 97), (97, .getfield 10, 100), (100, .invokevirtual 63, 103), (103, .return_, 104)]
def K_X9_init : mm_K := ((yX9_init, cX9_init, 2, none, RX9), (6, 126, 9), (il_X9_init, [62, 91], fl_X9, ml_X9))
set_option maxRecDepth 100000 in
theorem ok_X9_init : mm_KO K_X9_init := ⟨by decide +kernel, fq_X9, mq_X9⟩
theorem mo_X9_init : mm_MO K_X9_init := ⟨tb_in 92 (by decide +kernel) (by decide +kernel), (fun r h => by cases h; rfl), by decide +kernel, rfl⟩
def il_X9_write : List mm_I := [(0, .iload_n 1, 1), (1, .bipush 32, 3), (3, .if_icmp .lt 9, 6), (6, .iload_n 1, 7), (7, .bipush 126, 9), (9, .if_icmp .le 5, 12), (12, .iconst (-1), 13), (13, .ireturn, 14), (14, .aload_n 0, 15), (15, .getfield 10, 18), (18, .iload_n 1, 19), (19, .i2c, 20), (20, .invokevirtual 55, 23), (23, .ifCond .eq 13, 26), (26, .aload_n 0, 27), (27, .getfield 10, 30), (30, .invokevirtual 66, 33), (33, .goto 5, 36), (36, .bipush (-3), 38), (38, .ireturn, 39)]
def K_X9_write : mm_K := ((yX9_write, cX9_write, 2, (some .int), RX9), (1, 21, 9), (il_X9_write, [12, 14, 36, 38], fl_X9, ml_X9))
set_option maxRecDepth 100000 in
theorem ok_X9_write : mm_KO K_X9_write := ⟨by decide +kernel, fq_X9, mq_X9⟩
theorem mo_X9_write : mm_MO K_X9_write := ⟨tb_in 458 (by decide +kernel) (by decide +kernel), (fun r h => by cases h; rfl), by decide +kernel, rfl⟩
def il_X9_wipe : List mm_I := [(0, .aload_n 0, 1), (1, .getfield 10, 4), (4, .invokevirtual 66, 7), (7, .istore_n 1, 8), (8, .aload_n 0, 9), (9, .getfield 10, 12), (12, .invokevirtual 63, 15), (15, .iload_n 1, 16), (16, .ireturn, 17)]
def K_X9_wipe : mm_K := ((yX9_wipe, cX9_wipe, 2, (some .int), RX9), (1, 20, 9), (il_X9_wipe, [], fl_X9, ml_X9))
set_option maxRecDepth 100000 in
theorem ok_X9_wipe : mm_KO K_X9_wipe := ⟨by decide +kernel, fq_X9, mq_X9⟩
theorem mo_X9_wipe : mm_MO K_X9_wipe := ⟨tb_in 466 (by decide +kernel) (by decide +kernel), (fun r h => by cases h; rfl), by decide +kernel, rfl⟩
def il_X9_fault : List mm_I := [(0, .aload_n 0, 1), (1, .getfield 10, 4), (4, .invokevirtual 69, 7), (7, .ireturn, 8)]
def K_X9_fault : mm_K := ((yX9_fault, cX9_fault, 1, (some .int), RX9), (5, 106, 9), (il_X9_fault, [], fl_X9, ml_X9))
set_option maxRecDepth 100000 in
theorem ok_X9_fault : mm_KO K_X9_fault := ⟨by decide +kernel, fq_X9, mq_X9⟩
theorem mo_X9_fault : mm_MO K_X9_fault := ⟨tb_in 470 (by decide +kernel) (by decide +kernel), (fun r h => by cases h; rfl), by decide +kernel, rfl⟩
def il_X9_lay : List mm_I := [(0, .aload_n 0, 1), (1, .invokevirtual 59, 4), (4, .ifCond .eq 13, 7), (7, .aload_n 0, 8), (8, .getfield 19, 11), (11, .getfield 72, 14), (14, .goto 5, 17), (17, .bipush (-2), 19), (19, .ireturn, 20)]
def K_X9_lay : mm_K := ((yX9_lay, cX9_lay, 1, (some .int), RX9), (6, 126, 9), (il_X9_lay, [17, 19], fl_X9, ml_X9))
set_option maxRecDepth 100000 in
theorem ok_X9_lay : mm_KO K_X9_lay := ⟨by decide +kernel, fq_X9, mq_X9⟩
theorem mo_X9_lay : mm_MO K_X9_lay := ⟨tb_in 474 (by decide +kernel) (by decide +kernel), (fun r h => by cases h; rfl), by decide +kernel, rfl⟩
def il_X9_edge : List mm_I := [(0, .aload_n 0, 1), (1, .iload_n 1, 2), (2, .invokevirtual 76, 5), (5, .ifCond .eq 13, 8), (8, .iload_n 2, 9), (9, .ifCond .lt 9, 12), (12, .iload_n 2, 13), (13, .bipush 7, 15), (15, .if_icmp .lt 5, 18), (18, .iconst (-1), 19), (19, .ireturn, 20), (20, .aload_n 0, 21), (21, .getfield 19, 24), (24, .getfield 80, 27), (27, .iload_n 1, 28), (28, .aaload, 29), (29, .iload_n 2, 30), (30, .iaload, 31), (31, .ireturn, 32)]
def K_X9_edge : mm_K := ((yX9_edge, cX9_edge, 3, (some .int), RX9), (1, 21, 9), (il_X9_edge, [18, 20], fl_X9, ml_X9))
set_option maxRecDepth 100000 in
theorem ok_X9_edge : mm_KO K_X9_edge := ⟨by decide +kernel, fq_X9, mq_X9⟩
theorem mo_X9_edge : mm_MO K_X9_edge := ⟨tb_in 478 (by decide +kernel) (by decide +kernel), (fun r h => by cases h; rfl), by decide +kernel, rfl⟩
def il_X9_turn : List mm_I := [(0, .aload_n 0, 1), (1, .iload_n 1, 2), (2, .invokevirtual 76, 5), (5, .ifCond .ne 5, 8), (8, .iconst (-1), 9), (9, .ireturn, 10), (10, .aload_n 0, 11), (11, .getfield 19, 14), (14, .getfield 80, 17), (17, .iload_n 1, 18), (18, .aaload, 19), (19, .astore_n 2, 20), (20, .aload_n 2, 21), (21, .iconst 2, 22), (22, .iaload, 23), (23, .bipush 9, 25), (25, .if_icmp .ne 6, 28), (28, .bipush (-2), 30), (30, .ireturn, 31), (31, .aload_n 0, 32), (32, .getfield 39, 35), (35, .aload_n 0, 36), (36, .getfield 32, 39), (39, .aload_n 0, 40), (40, .getfield 19, 43), (43, .invokevirtual 84, 46), (46, .invokevirtual 87, 49), (49, .aload_n 2, 50), (50, .iconst 3, 51), (51, .iconst 1, 52), (52, .aload_n 2, 53), (53, .iconst 3, 54), (54, .iaload, 55), (55, .isub, 56), (56, .iastore, 57), (57, .aload_n 0, 58), (58, .invokevirtual 91, 61), (61, .aload_n 2, 62), (62, .iconst 3, 63), (63, .iaload, 64), (64, .ireturn, 65)]
def K_X9_turn : mm_K := ((yX9_turn, cX9_turn, 3, (some .int), RX9), (2, 46, 9), (il_X9_turn, [10, 31], fl_X9, ml_X9))
set_option maxRecDepth 100000 in
theorem ok_X9_turn : mm_KO K_X9_turn := ⟨by decide +kernel, fq_X9, mq_X9⟩
theorem mo_X9_turn : mm_MO K_X9_turn := ⟨tb_in 486 (by decide +kernel) (by decide +kernel), (fun r h => by cases h; rfl), by decide +kernel, rfl⟩
def il_X9_so : List mm_I := [(0, .aload_n 0, 1), (1, .iload_n 1, 2), (2, .invokevirtual 94, 5), (5, .ifCond .eq 13, 8), (8, .iload_n 2, 9), (9, .iload_n 3, 10), (10, .iload 4, 12), (12, .invokestatic 97, 15), (15, .ifCond .ne 5, 18), (18, .iconst (-1), 19), (19, .ireturn, 20), (20, .aload_n 0, 21), (21, .getfield 28, 24), (24, .aload_n 0, 25), (25, .getfield 28, 28), (28, .iload_n 2, 29), (29, .iload_n 3, 30), (30, .iload 4, 32), (32, .invokevirtual 101, 35), (35, .invokevirtual 105, 38), (38, .iload_n 1, 39), (39, .ishr, 40), (40, .iconst 1, 41), (41, .iand, 42), (42, .ireturn, 43)]
def K_X9_so : mm_K := ((yX9_so, cX9_so, 5, (some .int), RX9), (2, 42, 9), (il_X9_so, [18, 20], fl_X9, ml_X9))
set_option maxRecDepth 100000 in
theorem ok_X9_so : mm_KO K_X9_so := ⟨by decide +kernel, fq_X9, mq_X9⟩
theorem mo_X9_so : mm_MO K_X9_so := ⟨tb_in 502 (by decide +kernel) (by decide +kernel), (fun r h => by cases h; rfl), by decide +kernel, rfl⟩
def il_X9_gone : List mm_I := [(0, .aload_n 0, 1), (1, .iload_n 1, 2), (2, .invokevirtual 76, 5), (5, .ifCond .eq 13, 8), (8, .iload_n 2, 9), (9, .iload_n 3, 10), (10, .iload 4, 12), (12, .invokestatic 97, 15), (15, .ifCond .ne 5, 18), (18, .iconst (-1), 19), (19, .ireturn, 20), (20, .aload_n 0, 21), (21, .getfield 28, 24), (24, .iload_n 1, 25), (25, .aload_n 0, 26), (26, .getfield 28, 29), (29, .iload_n 2, 30), (30, .iload_n 3, 31), (31, .iload 4, 33), (33, .invokevirtual 101, 36), (36, .invokevirtual 109, 39), (39, .ireturn, 40)]
def K_X9_gone : mm_K := ((yX9_gone, cX9_gone, 5, (some .int), RX9), (2, 47, 9), (il_X9_gone, [18, 20], fl_X9, ml_X9))
set_option maxRecDepth 100000 in
theorem ok_X9_gone : mm_KO K_X9_gone := ⟨by decide +kernel, fq_X9, mq_X9⟩
theorem mo_X9_gone : mm_MO K_X9_gone := ⟨tb_in 521 (by decide +kernel) (by decide +kernel), (fun r h => by cases h; rfl), by decide +kernel, rfl⟩
def il_X9_real : List mm_I := [(0, .aload_n 0, 1), (1, .iload_n 1, 2), (2, .invokevirtual 113, 5), (5, .ifCond .eq 12, 8), (8, .iload_n 2, 9), (9, .ifCond .lt 8, 12), (12, .iload_n 2, 13), (13, .iconst 2, 14), (14, .if_icmp .le 5, 17), (17, .iconst (-1), 18), (18, .ireturn, 19), (19, .aload_n 0, 20), (20, .invokevirtual 116, 23), (23, .astore_n 3, 24), (24, .iload_n 2, 25), (25, .ifCond .ne 9, 28), (28, .aload_n 3, 29), (29, .iload_n 1, 30), (30, .invokevirtual 120, 33), (33, .ireturn, 34), (34, .iload_n 2, 35), (35, .iconst 1, 36), (36, .if_icmp .ne 11, 39), (39, .aload_n 3, 40), (40, .iload_n 1, 41), (41, .invokevirtual 125, 44), (44, .goto 8, 47), (47, .aload_n 3, 48), (48, .iload_n 1, 49), (49, .invokevirtual 128, 52), (52, .ireturn, 53)]
def K_X9_real : mm_K := ((yX9_real, cX9_real, 4, (some .int), RX9), (6, 143, 9), (il_X9_real, [17, 19, 34, 47, 52], fl_X9, ml_X9))
set_option maxRecDepth 100000 in
theorem ok_X9_real : mm_KO K_X9_real := ⟨by decide +kernel, fq_X9, mq_X9⟩
theorem mo_X9_real : mm_MO K_X9_real := ⟨tb_in 529 (by decide +kernel) (by decide +kernel), (fun r h => by cases h; rfl), by decide +kernel, rfl⟩
def il_X9_run : List mm_I := [(0, .iload_n 1, 1), (1, .iconst (-1), 2), (2, .if_icmp .ge 5, 5), (5, .iconst (-1), 6), (6, .ireturn, 7), (7, .aload_n 0, 8), (8, .invokevirtual 116, 11), (11, .astore_n 2, 12), (12, .aload_n 2, 13), (13, .aload_n 0, 14), (14, .getfield 19, 17), (17, .getfield 131, 20), (20, .invokevirtual 120, 23), (23, .istore_n 3, 24), (24, .iload_n 1, 25), (25, .iconst (-1), 26), (26, .if_icmp .eq 9, 29), (29, .iload_n 3, 30), (30, .bipush (-4), 32), (32, .if_icmp .ne 5, 35), (35, .iload_n 3, 36), (36, .ireturn, 37), (37, .iload_n 1, 38), (38, .iload_n 3, 39), (39, .if_icmp .ge 11, 42), (42, .aload_n 2, 43), (43, .iload_n 1, 44), (44, .invokevirtual 134, 47), (47, .goto 5, 50), (50, .bipush (-4), 52), (52, .ireturn, 53)]
def K_X9_run : mm_K := ((yX9_run, cX9_run, 4, (some .int), RX9), (6, 143, 9), (il_X9_run, [7, 35, 37, 50, 52], fl_X9, ml_X9))
set_option maxRecDepth 100000 in
theorem ok_X9_run : mm_KO K_X9_run := ⟨by decide +kernel, fq_X9, mq_X9⟩
theorem mo_X9_run : mm_MO K_X9_run := ⟨tb_in 633 (by decide +kernel) (by decide +kernel), (fun r h => by cases h; rfl), by decide +kernel, rfl⟩
def il_X9_look : List mm_I := [(0, .aload_n 0, 1), (1, .iload_n 1, 2), (2, .invokevirtual 113, 5), (5, .ifCond .eq 20, 8), (8, .aload_n 0, 9), (9, .iload_n 2, 10), (10, .invokevirtual 94, 13), (13, .ifCond .eq 12, 16), (16, .iload_n 3, 17), (17, .ifCond .lt 8, 20), (20, .iload_n 3, 21), (21, .iconst 1, 22), (22, .if_icmp .le 5, 25), (25, .iconst (-1), 26), (26, .ireturn, 27), (27, .aload_n 0, 28), (28, .getfield 32, 31), (31, .iload_n 1, 32), (32, .iaload, 33), (33, .iload_n 2, 34), (34, .ishr, 35), (35, .iconst 1, 36), (36, .iand, 37), (37, .iload_n 3, 38), (38, .if_icmp .ne 6, 41), (41, .bipush (-2), 43), (43, .ireturn, 44), (44, .aload_n 0, 45), (45, .getfield 39, 48), (48, .aload_n 0, 49), (49, .getfield 32, 52), (52, .aload_n 0, 53), (53, .getfield 19, 56), (56, .invokevirtual 84, 59), (59, .invokevirtual 87, 62), (62, .aload_n 0, 63), (63, .getfield 32, 66), (66, .iload_n 1, 67), (67, .dup2, 68), (68, .iaload, 69), (69, .iconst 1, 70), (70, .iload_n 2, 71), (71, .ishl, 72), (72, .ixor, 73), (73, .iastore, 74), (74, .aload_n 0, 75), (75, .iconst 1, 76), (76, .putfield 137, 79), (79, .aload_n 0, 80), (80, .getfield 32, 83), (83, .iload_n 1, 84), (84, .iaload, 85), (85, .invokestatic 141, 88), (88, .ireturn, 89)]
def K_X9_look : mm_K := ((yX9_look, cX9_look, 4, (some .int), RX9), (2, 46, 9), (il_X9_look, [25, 27, 44], fl_X9, ml_X9))
set_option maxRecDepth 100000 in
theorem ok_X9_look : mm_KO K_X9_look := ⟨by decide +kernel, fq_X9, mq_X9⟩
theorem mo_X9_look : mm_MO K_X9_look := ⟨tb_in 641 (by decide +kernel) (by decide +kernel), (fun r h => by cases h; rfl), by decide +kernel, rfl⟩
def il_X9_looked : List mm_I := [(0, .aload_n 0, 1), (1, .iload_n 1, 2), (2, .invokevirtual 113, 5), (5, .ifCond .eq 12, 8), (8, .aload_n 0, 9), (9, .getfield 32, 12), (12, .iload_n 1, 13), (13, .iaload, 14), (14, .goto 4, 17), (17, .iconst (-1), 18), (18, .ireturn, 19)]
def K_X9_looked : mm_K := ((yX9_looked, cX9_looked, 2, (some .int), RX9), (1, 21, 9), (il_X9_looked, [17, 18], fl_X9, ml_X9))
set_option maxRecDepth 100000 in
theorem ok_X9_looked : mm_KO K_X9_looked := ⟨by decide +kernel, fq_X9, mq_X9⟩
theorem mo_X9_looked : mm_MO K_X9_looked := ⟨tb_in 651 (by decide +kernel) (by decide +kernel), (fun r h => by cases h; rfl), by decide +kernel, rfl⟩
def il_X9_may : List mm_I := [(0, .aload_n 0, 1), (1, .iload_n 1, 2), (2, .invokevirtual 76, 5), (5, .ifCond .eq 17, 8), (8, .iload_n 2, 9), (9, .invokestatic 146, 12), (12, .ifCond .eq 10, 15), (15, .iload_n 3, 16), (16, .invokestatic 146, 19), (19, .ifCond .ne 5, 22), (22, .iconst (-1), 23), (23, .ireturn, 24), (24, .aload_n 0, 25), (25, .invokevirtual 149, 28), (28, .iload_n 1, 29), (29, .iload_n 2, 30), (30, .iload_n 3, 31), (31, .invokevirtual 153, 34), (34, .ifCond .eq 7, 37), (37, .iconst 1, 38), (38, .goto 4, 41), (41, .iconst 0, 42), (42, .ireturn, 43)]
def K_X9_may : mm_K := ((yX9_may, cX9_may, 4, (some .int), RX9), (6, 137, 9), (il_X9_may, [22, 24, 41, 42], fl_X9, ml_X9))
set_option maxRecDepth 100000 in
theorem ok_X9_may : mm_KO K_X9_may := ⟨by decide +kernel, fq_X9, mq_X9⟩
theorem mo_X9_may : mm_MO K_X9_may := ⟨tb_in 655 (by decide +kernel) (by decide +kernel), (fun r h => by cases h; rfl), by decide +kernel, rfl⟩
def il_X9_state : List mm_I := [(0, .aload_n 0, 1), (1, .iload_n 1, 2), (2, .invokevirtual 113, 5), (5, .ifCond .eq 8, 8), (8, .iload_n 2, 9), (9, .iconst (-1), 10), (10, .if_icmp .ge 5, 13), (13, .iconst (-1), 14), (14, .ireturn, 15), (15, .aload_n 0, 16), (16, .invokevirtual 149, 19), (19, .astore_n 3, 20), (20, .iload_n 2, 21), (21, .iconst (-1), 22), (22, .if_icmp .ne 11, 25), (25, .aload_n 3, 26), (26, .iload_n 1, 27), (27, .invokevirtual 158, 30), (30, .goto 9, 33), (33, .aload_n 3, 34), (34, .iload_n 1, 35), (35, .iload_n 2, 36), (36, .invokevirtual 161, 39), (39, .ireturn, 40)]
def K_X9_state : mm_K := ((yX9_state, cX9_state, 4, (some .int), RX9), (6, 137, 9), (il_X9_state, [13, 15, 33, 39], fl_X9, ml_X9))
set_option maxRecDepth 100000 in
theorem ok_X9_state : mm_KO K_X9_state := ⟨by decide +kernel, fq_X9, mq_X9⟩
theorem mo_X9_state : mm_MO K_X9_state := ⟨tb_in 846 (by decide +kernel) (by decide +kernel), (fun r h => by cases h; rfl), by decide +kernel, rfl⟩
def il_X9_found : List mm_I := [(0, .aload_n 0, 1), (1, .iload_n 1, 2), (2, .invokevirtual 113, 5), (5, .ifCond .eq 14, 8), (8, .aload_n 0, 9), (9, .invokevirtual 149, 12), (12, .iload_n 1, 13), (13, .invokevirtual 164, 16), (16, .goto 4, 19), (19, .iconst (-1), 20), (20, .ireturn, 21)]
def K_X9_found : mm_K := ((yX9_found, cX9_found, 2, (some .int), RX9), (6, 137, 9), (il_X9_found, [19, 20], fl_X9, ml_X9))
set_option maxRecDepth 100000 in
theorem ok_X9_found : mm_KO K_X9_found := ⟨by decide +kernel, fq_X9, mq_X9⟩
theorem mo_X9_found : mm_MO K_X9_found := ⟨tb_in 858 (by decide +kernel) (by decide +kernel), (fun r h => by cases h; rfl), by decide +kernel, rfl⟩
def il_X9_path : List mm_I := [(0, .iload_n 1, 1), (1, .bipush (-2), 3), (3, .if_icmp .ge 5, 6), (6, .iconst (-1), 7), (7, .ireturn, 8), (8, .aload_n 0, 9), (9, .invokevirtual 149, 12), (12, .astore_n 2, 13), (13, .aload_n 2, 14), (14, .invokevirtual 167, 17), (17, .ifCond .eq 6, 20), (20, .bipush (-4), 22), (22, .ireturn, 23), (23, .aload_n 2, 24), (24, .invokevirtual 170, 27), (27, .astore_n 3, 28), (28, .iload_n 1, 29), (29, .bipush (-2), 31), (31, .if_icmp .ne 8, 34), (34, .aload_n 3, 35), (35, .invokevirtual 174, 38), (38, .ireturn, 39), (39, .iload_n 1, 40), (40, .iconst (-1), 41), (41, .if_icmp .ne 8, 44), (44, .aload_n 3, 45), (45, .invokevirtual 179, 48), (48, .ireturn, 49), (49, .iload_n 1, 50), (50, .aload_n 3, 51), (51, .invokevirtual 179, 54), (54, .if_icmp .ge 11, 57), (57, .aload_n 3, 58), (58, .iload_n 1, 59), (59, .invokevirtual 180, 62), (62, .goto 5, 65), (65, .bipush (-4), 67), (67, .ireturn, 68)]
def K_X9_path : mm_K := ((yX9_path, cX9_path, 4, (some .int), RX9), (6, 137, 9), (il_X9_path, [8, 23, 39, 49, 65, 67], fl_X9, ml_X9))
set_option maxRecDepth 100000 in
theorem ok_X9_path : mm_KO K_X9_path := ⟨by decide +kernel, fq_X9, mq_X9⟩
theorem mo_X9_path : mm_MO K_X9_path := ⟨tb_in 866 (by decide +kernel) (by decide +kernel), (fun r h => by cases h; rfl), by decide +kernel, rfl⟩
def il_X9_mend : List mm_I := [(0, .aload_n 0, 1), (1, .invokevirtual 149, 4), (4, .astore_n 1, 5), (5, .aload_n 1, 6), (6, .invokestatic 183, 9), (9, .istore_n 2, 10), (10, .iload_n 2, 11), (11, .ifCond .ge 5, 14), (14, .iload_n 2, 15), (15, .ireturn, 16), (16, .aload_n 0, 17), (17, .getfield 39, 20), (20, .aload_n 0, 21), (21, .getfield 32, 24), (24, .aload_n 0, 25), (25, .getfield 19, 28), (28, .invokevirtual 84, 31), (31, .invokevirtual 87, 34), (34, .aload_n 0, 35), (35, .aload_n 1, 36), (36, .iload_n 2, 37), (37, .invokevirtual 187, 40), (40, .iload_n 2, 41), (41, .ireturn, 42)]
def K_X9_mend : mm_K := ((yX9_mend, cX9_mend, 3, (some .int), RX9), (6, 141, 9), (il_X9_mend, [16], fl_X9, ml_X9))
set_option maxRecDepth 100000 in
theorem ok_X9_mend : mm_KO K_X9_mend := ⟨by decide +kernel, fq_X9, mq_X9⟩
theorem mo_X9_mend : mm_MO K_X9_mend := ⟨tb_in 904 (by decide +kernel) (by decide +kernel), (fun r h => by cases h; rfl), by decide +kernel, rfl⟩
def il_X9_check : List mm_I := [(0, .iload_n 1, 1), (1, .iconst 1, 2), (2, .if_icmp .lt 9, 5), (5, .iload_n 1, 6), (6, .bipush 9, 8), (8, .if_icmp .le 5, 11), (11, .iconst (-1), 12), (12, .ireturn, 13), (13, .aload_n 0, 14), (14, .getfield 39, 17), (17, .aload_n 0, 18), (18, .getfield 32, 21), (21, .aload_n 0, 22), (22, .getfield 19, 25), (25, .invokevirtual 84, 28), (28, .invokevirtual 87, 31), (31, .aload_n 0, 32), (32, .invokevirtual 149, 35), (35, .astore_n 2, 36), (36, .iconst 0, 37), (37, .istore_n 3, 38), (38, .iload_n 3, 39), (39, .iload_n 1, 40), (40, .if_icmp .ge 46, 43), (43, .aload_n 2, 44), (44, .invokestatic 183, 47), (47, .istore 4, 49), (49, .iload 4, 51), (51, .bipush (-4), 53), (53, .if_icmp .ne 5, 56), (56, .iconst 3, 57), (57, .ireturn, 58), (58, .iload 4, 60), (60, .bipush (-2), 62), (62, .if_icmp .ne 6, 65), (65, .goto 21, 68), (68, .aload_n 0, 69), (69, .aload_n 2, 70), (70, .iload 4, 72), (72, .invokevirtual 187, 75), (75, .aload_n 0, 76), (76, .invokevirtual 149, 79), (79, .astore_n 2, 80), (80, .iinc 3 1, 83), (83, .goto (-45), 86), (86, .aload_n 2, 87), (87, .invokevirtual 167, 90), (90, .ifCond .eq 5, 93), (93, .iconst 0, 94), (94, .ireturn, 95), (95, .aload_n 2, 96), (96, .invokevirtual 170, 99), (99, .invokevirtual 191, 102), (102, .ifCond .eq 7, 105), (105, .iconst 1, 106), (106, .goto 4, 109), (109, .iconst 2, 110), (110, .ireturn, 111)]
def K_X9_check : mm_K := ((yX9_check, cX9_check, 5, (some .int), RX9), (6, 141, 9), (il_X9_check, [11, 13, 38, 58, 68, 86, 95, 109, 110], fl_X9, ml_X9))
set_option maxRecDepth 100000 in
theorem ok_X9_check : mm_KO K_X9_check := ⟨by decide +kernel, fq_X9, mq_X9⟩
theorem mo_X9_check : mm_MO K_X9_check := ⟨tb_in 935 (by decide +kernel) (by decide +kernel), (fun r h => by cases h; rfl), by decide +kernel, rfl⟩
def il_X9_undo : List mm_I := [(0, .aload_n 0, 1), (1, .getfield 39, 4), (4, .invokevirtual 194, 7), (7, .ifCond .ne 6, 10), (10, .bipush (-2), 12), (12, .ireturn, 13), (13, .aload_n 0, 14), (14, .getfield 39, 17), (17, .aload_n 0, 18), (18, .getfield 32, 21), (21, .invokevirtual 195, 24), (24, .istore_n 1, 25), (25, .aload_n 0, 26), (26, .iconst 1, 27), (27, .putfield 137, 30), (30, .iload_n 1, 31), (31, .aload_n 0, 32), (32, .getfield 19, 35), (35, .invokevirtual 84, 38), (38, .if_icmp .eq 15, 41), (41, .aload_n 0, 42), (42, .getfield 19, 45), (45, .iload_n 1, 46), (46, .invokevirtual 199, 49), (49, .aload_n 0, 50), (50, .invokevirtual 91, 53), (53, .aload_n 0, 54), (54, .getfield 39, 57), (57, .invokevirtual 194, 60), (60, .ireturn, 61)]
def K_X9_undo : mm_K := ((yX9_undo, cX9_undo, 2, (some .int), RX9), (2, 45, 9), (il_X9_undo, [13, 53], fl_X9, ml_X9))
set_option maxRecDepth 100000 in
theorem ok_X9_undo : mm_KO K_X9_undo := ⟨by decide +kernel, fq_X9, mq_X9⟩
theorem mo_X9_undo : mm_MO K_X9_undo := ⟨tb_in 939 (by decide +kernel) (by decide +kernel), (fun r h => by cases h; rfl), by decide +kernel, rfl⟩
def il_X9_count : List mm_I := [(0, .iload_n 1, 1), (1, .tableswitch 120 0 8 #[51, 59, 67, 75, 83, 91, 96, 104, 112], 52), (52, .aload_n 0, 53), (53, .getfield 19, 56), (56, .getfield 72, 59), (59, .ireturn, 60), (60, .aload_n 0, 61), (61, .getfield 19, 64), (64, .getfield 131, 67), (67, .ireturn, 68), (68, .aload_n 0, 69), (69, .getfield 19, 72), (72, .getfield 203, 75), (75, .ireturn, 76), (76, .aload_n 0, 77), (77, .getfield 19, 80), (80, .getfield 206, 83), (83, .ireturn, 84), (84, .aload_n 0, 85), (85, .getfield 19, 88), (88, .getfield 209, 91), (91, .ireturn, 92), (92, .aload_n 0, 93), (93, .invokevirtual 212, 96), (96, .ireturn, 97), (97, .aload_n 0, 98), (98, .invokevirtual 149, 101), (101, .invokevirtual 215, 104), (104, .ireturn, 105), (105, .aload_n 0, 106), (106, .getfield 39, 109), (109, .invokevirtual 194, 112), (112, .ireturn, 113), (113, .aload_n 0, 114), (114, .getfield 10, 117), (117, .invokevirtual 66, 120), (120, .ireturn, 121), (121, .iconst (-1), 122), (122, .ireturn, 123)]
def K_X9_count : mm_K := ((yX9_count, cX9_count, 2, (some .int), RX9), (6, 137, 9), (il_X9_count, [], fl_X9, ml_X9))
set_option maxRecDepth 100000 in
theorem ok_X9_count : mm_KO K_X9_count := ⟨by decide +kernel, fq_X9, mq_X9⟩
theorem mo_X9_count : mm_MO K_X9_count := ⟨tb_in 955 (by decide +kernel) (by decide +kernel), (fun r h => by cases h; rfl), by decide +kernel, rfl⟩
def il_X9_isPlace : List mm_I := [(0, .iload_n 1, 1), (1, .ifCond .lt 18, 4), (4, .iload_n 1, 5), (5, .aload_n 0, 6), (6, .getfield 19, 9), (9, .getfield 72, 12), (12, .if_icmp .ge 7, 15), (15, .iconst 1, 16), (16, .goto 4, 19), (19, .iconst 0, 20), (20, .ireturn, 21)]
def K_X9_isPlace : mm_K := ((yX9_isPlace, cX9_isPlace, 2, (some .boolean), RX9), (0, 0, 9), (il_X9_isPlace, [19, 20], fl_X9, ml_X9))
set_option maxRecDepth 100000 in
theorem ok_X9_isPlace : mm_KO K_X9_isPlace := ⟨by decide +kernel, fq_X9, mq_X9⟩
theorem mo_X9_isPlace : mm_MO K_X9_isPlace := ⟨tb_in 533 (by decide +kernel) (by decide +kernel), (fun r h => by cases h; rfl), by decide +kernel, rfl⟩
def il_X9_isComparison : List mm_I := [(0, .iload_n 1, 1), (1, .ifCond .lt 18, 4), (4, .iload_n 1, 5), (5, .aload_n 0, 6), (6, .getfield 19, 9), (9, .getfield 206, 12), (12, .if_icmp .ge 7, 15), (15, .iconst 1, 16), (16, .goto 4, 19), (19, .iconst 0, 20), (20, .ireturn, 21)]
def K_X9_isComparison : mm_K := ((yX9_isComparison, cX9_isComparison, 2, (some .boolean), RX9), (0, 0, 9), (il_X9_isComparison, [19, 20], fl_X9, ml_X9))
set_option maxRecDepth 100000 in
theorem ok_X9_isComparison : mm_KO K_X9_isComparison := ⟨by decide +kernel, fq_X9, mq_X9⟩
theorem mo_X9_isComparison : mm_MO K_X9_isComparison := ⟨tb_in 506 (by decide +kernel) (by decide +kernel), (fun r h => by cases h; rfl), by decide +kernel, rfl⟩
def il_X9_isEdge : List mm_I := [(0, .iload_n 1, 1), (1, .ifCond .lt 18, 4), (4, .iload_n 1, 5), (5, .aload_n 0, 6), (6, .getfield 19, 9), (9, .getfield 209, 12), (12, .if_icmp .ge 7, 15), (15, .iconst 1, 16), (16, .goto 4, 19), (19, .iconst 0, 20), (20, .ireturn, 21)]
def K_X9_isEdge : mm_K := ((yX9_isEdge, cX9_isEdge, 2, (some .boolean), RX9), (0, 0, 9), (il_X9_isEdge, [19, 20], fl_X9, ml_X9))
set_option maxRecDepth 100000 in
theorem ok_X9_isEdge : mm_KO K_X9_isEdge := ⟨by decide +kernel, fq_X9, mq_X9⟩
theorem mo_X9_isEdge : mm_MO K_X9_isEdge := ⟨tb_in 482 (by decide +kernel) (by decide +kernel), (fun r h => by cases h; rfl), by decide +kernel, rfl⟩
def il_X9_isCube : List mm_I := [(0, .iload_n 0, 1), (1, .ifCond .lt 14, 4), (4, .iload_n 0, 5), (5, .sipush 256, 8), (8, .if_icmp .ge 7, 11), (11, .iconst 1, 12), (12, .goto 4, 15), (15, .iconst 0, 16), (16, .ireturn, 17)]
def K_X9_isCube : mm_K := ((yX9_isCube, cX9_isCube, 1, (some .boolean), RX9), (0, 0, 9), (il_X9_isCube, [15, 16], fl_X9, ml_X9))
set_option maxRecDepth 100000 in
theorem ok_X9_isCube : mm_KO K_X9_isCube := ⟨by decide +kernel, fq_X9, mq_X9⟩
theorem mo_X9_isCube : mm_MO K_X9_isCube := ⟨tb_in 658 (by decide +kernel) (by decide +kernel), (fun r h => by cases h; rfl), by decide +kernel, rfl⟩
def il_X9_areValues : List mm_I := [(0, .iload_n 0, 1), (1, .invokestatic 218, 4), (4, .ifCond .eq 21, 7), (7, .iload_n 1, 8), (8, .invokestatic 218, 11), (11, .ifCond .eq 14, 14), (14, .iload_n 2, 15), (15, .invokestatic 218, 18), (18, .ifCond .eq 7, 21), (21, .iconst 1, 22), (22, .goto 4, 25), (25, .iconst 0, 26), (26, .ireturn, 27)]
def K_X9_areValues : mm_K := ((yX9_areValues, cX9_areValues, 3, (some .boolean), RX9), (1, 20, 9), (il_X9_areValues, [25, 26], fl_X9, ml_X9))
set_option maxRecDepth 100000 in
theorem ok_X9_areValues : mm_KO K_X9_areValues := ⟨by decide +kernel, fq_X9, mq_X9⟩
theorem mo_X9_areValues : mm_MO K_X9_areValues := ⟨tb_in 509 (by decide +kernel) (by decide +kernel), (fun r h => by cases h; rfl), by decide +kernel, rfl⟩
def il_X9_isValue : List mm_I := [(0, .iload_n 0, 1), (1, .ifCond .lt 13, 4), (4, .iload_n 0, 5), (5, .bipush 7, 7), (7, .if_icmp .gt 7, 10), (10, .iconst 1, 11), (11, .goto 4, 14), (14, .iconst 0, 15), (15, .ireturn, 16)]
def K_X9_isValue : mm_K := ((yX9_isValue, cX9_isValue, 1, (some .boolean), RX9), (0, 0, 9), (il_X9_isValue, [14, 15], fl_X9, ml_X9))
set_option maxRecDepth 100000 in
theorem ok_X9_isValue : mm_KO K_X9_isValue := ⟨by decide +kernel, fq_X9, mq_X9⟩
theorem mo_X9_isValue : mm_MO K_X9_isValue := ⟨tb_in 512 (by decide +kernel) (by decide +kernel), (fun r h => by cases h; rfl), by decide +kernel, rfl⟩
def il_X9_takeText : List mm_I := [(0, .aload_n 0, 1), (1, .getfield 10, 4), (4, .invokevirtual 69, 7), (7, .bipush (-4), 9), (9, .if_icmp .ne 16, 12), (12, .aload_n 0, 13), (13, .getfield 10, 16), (16, .invokevirtual 221, 19), (19, .getfield 72, 22), (22, .ifCond .ne 5, 25), (25, .iconst 0, 26), (26, .ireturn, 27), (27, .aload_n 0, 28), (28, .getfield 19, 31), (31, .aload_n 0, 32), (32, .getfield 10, 35), (35, .invokevirtual 221, 38), (38, .invokevirtual 224, 41), (41, .aload_n 0, 42), (42, .getfield 28, 45), (45, .invokevirtual 227, 48), (48, .aload_n 0, 49), (49, .getfield 32, 52), (52, .iconst 0, 53), (53, .invokestatic 230, 56), (56, .aload_n 0, 57), (57, .getfield 39, 60), (60, .invokevirtual 235, 63), (63, .aload_n 0, 64), (64, .getfield 236, 67), (67, .ifnull 10, 70), (70, .aload_n 0, 71), (71, .getfield 236, 74), (74, .invokevirtual 240, 77), (77, .aload_n 0, 78), (78, .invokevirtual 91, 81), (81, .iconst 1, 82), (82, .ireturn, 83)]
def K_X9_takeText : mm_K := ((yX9_takeText, cX9_takeText, 1, (some .boolean), RX9), (5, 106, 9), (il_X9_takeText, [25, 27, 77], fl_X9, ml_X9))
set_option maxRecDepth 100000 in
theorem ok_X9_takeText : mm_KO K_X9_takeText := ⟨by decide +kernel, fq_X9, mq_X9⟩
theorem mo_X9_takeText : mm_MO K_X9_takeText := ⟨tb_in 289 (by decide +kernel) (by decide +kernel), (fun r h => by cases h; rfl), by decide +kernel, rfl⟩
def il_X9_forgetSearches : List mm_I := [(0, .aload_n 0, 1), (1, .iconst 1, 2), (2, .putfield 243, 5), (5, .aload_n 0, 6), (6, .iconst 1, 7), (7, .putfield 137, 10), (10, .return_, 11)]
def K_X9_forgetSearches : mm_K := ((yX9_forgetSearches, cX9_forgetSearches, 1, none, RX9), (0, 0, 9), (il_X9_forgetSearches, [], fl_X9, ml_X9))
set_option maxRecDepth 100000 in
theorem ok_X9_forgetSearches : mm_KO K_X9_forgetSearches := ⟨by decide +kernel, fq_X9, mq_X9⟩
theorem mo_X9_forgetSearches : mm_MO K_X9_forgetSearches := ⟨tb_in 421 (by decide +kernel) (by decide +kernel), (fun r h => by cases h; rfl), by decide +kernel, rfl⟩
def il_X9_newestReal : List mm_I := [(0, .aload_n 0, 1), (1, .getfield 246, 4), (4, .ifnonnull 22, 7), (7, .aload_n 0, 8), (8, .new 121, 11), (11, .dup, 12), (12, .aload_n 0, 13), (13, .getfield 19, 16), (16, .aload_n 0, 17), (17, .getfield 28, 20), (20, .invokespecial 250, 23), (23, .putfield 246, 26), (26, .aload_n 0, 27), (27, .getfield 243, 30), (30, .ifCond .eq 15, 33), (33, .aload_n 0, 34), (34, .getfield 246, 37), (37, .invokevirtual 253, 40), (40, .aload_n 0, 41), (41, .iconst 0, 42), (42, .putfield 243, 45), (45, .aload_n 0, 46), (46, .getfield 246, 49), (49, .areturn, 50)]
def K_X9_newestReal : mm_K := ((yX9_newestReal, cX9_newestReal, 1, (some (.object "CubeChecker$RealSearch")), RX9), (5, 123, 9), (il_X9_newestReal, [26, 45], fl_X9, ml_X9))
set_option maxRecDepth 100000 in
theorem ok_X9_newestReal : mm_KO K_X9_newestReal := ⟨by decide +kernel, fq_X9, mq_X9⟩
theorem mo_X9_newestReal : mm_MO K_X9_newestReal := ⟨tb_in 537 (by decide +kernel) (by decide +kernel), (fun r h => by cases h; rfl), by decide +kernel, rfl⟩
def il_X9_newestMay : List mm_I := [(0, .aload_n 0, 1), (1, .getfield 236, 4), (4, .ifnonnull 68, 7), (7, .new 256, 10), (10, .dup, 11), (11, .aload_n 0, 12), (12, .getfield 19, 15), (15, .aload_n 0, 16), (16, .getfield 28, 19), (19, .invokespecial 258, 22), (22, .astore_n 1, 23), (23, .new 175, 26), (26, .dup, 27), (27, .aload_n 0, 28), (28, .getfield 19, 31), (31, .aload_n 0, 32), (32, .getfield 28, 35), (35, .aload_n 1, 36), (36, .aload_n 0, 37), (37, .getfield 32, 40), (40, .invokespecial 259, 43), (43, .astore_n 2, 44), (44, .aload_n 0, 45), (45, .new 154, 48), (48, .dup, 49), (49, .aload_n 0, 50), (50, .getfield 19, 53), (53, .aload_n 1, 54), (54, .aload_n 2, 55), (55, .aload_n 0, 56), (56, .getfield 32, 59), (59, .invokespecial 262, 62), (62, .putfield 236, 65), (65, .aload_n 0, 66), (66, .getfield 236, 69), (69, .invokevirtual 240, 72), (72, .aload_n 0, 73), (73, .getfield 137, 76), (76, .ifCond .eq 15, 79), (79, .aload_n 0, 80), (80, .getfield 236, 83), (83, .invokevirtual 265, 86), (86, .aload_n 0, 87), (87, .iconst 0, 88), (88, .putfield 137, 91), (91, .aload_n 0, 92), (92, .getfield 236, 95), (95, .areturn, 96)]
def K_X9_newestMay : mm_K := ((yX9_newestMay, cX9_newestMay, 3, (some (.object "CubeChecker$MaySearch")), RX9), (5, 115, 9), (il_X9_newestMay, [72, 91], fl_X9, ml_X9))
set_option maxRecDepth 100000 in
theorem ok_X9_newestMay : mm_KO K_X9_newestMay := ⟨by decide +kernel, fq_X9, mq_X9⟩
theorem mo_X9_newestMay : mm_MO K_X9_newestMay := ⟨tb_in 662 (by decide +kernel) (by decide +kernel), (fun r h => by cases h; rfl), by decide +kernel, rfl⟩
def il_X9_setThatMends : List mm_I := [(0, .aload_n 0, 1), (1, .invokevirtual 167, 4), (4, .ifCond .ne 13, 7), (7, .aload_n 0, 8), (8, .invokevirtual 170, 11), (11, .invokevirtual 191, 14), (14, .ifCond .eq 6, 17), (17, .bipush (-2), 19), (19, .ireturn, 20), (20, .aload_n 0, 21), (21, .invokevirtual 170, 24), (24, .invokevirtual 266, 27), (27, .ireturn, 28)]
def K_X9_setThatMends : mm_K := ((yX9_setThatMends, cX9_setThatMends, 1, (some .int), RX9), (5, 121, 9), (il_X9_setThatMends, [17, 20], fl_X9, ml_X9))
set_option maxRecDepth 100000 in
theorem ok_X9_setThatMends : mm_KO K_X9_setThatMends := ⟨by decide +kernel, fq_X9, mq_X9⟩
theorem mo_X9_setThatMends : mm_MO K_X9_setThatMends := ⟨tb_in 907 (by decide +kernel) (by decide +kernel), (fun r h => by cases h; rfl), by decide +kernel, rfl⟩
def il_X9_lookOnPath : List mm_I := [(0, .aload_n 1, 1), (1, .invokevirtual 170, 4), (4, .invokevirtual 269, 7), (7, .istore_n 3, 8), (8, .iconst 0, 9), (9, .istore 4, 11), (11, .iload 4, 13), (13, .aload_n 0, 14), (14, .getfield 19, 17), (17, .getfield 72, 20), (20, .if_icmp .ge 30, 23), (23, .iload_n 3, 24), (24, .iload 4, 26), (26, .ishr, 27), (27, .iconst 1, 28), (28, .iand, 29), (29, .iconst 1, 30), (30, .if_icmp .ne 14, 33), (33, .aload_n 0, 34), (34, .getfield 32, 37), (37, .iload 4, 39), (39, .dup2, 40), (40, .iaload, 41), (41, .iload_n 2, 42), (42, .ior, 43), (43, .iastore, 44), (44, .iinc 4 1, 47), (47, .goto (-36), 50), (50, .aload_n 0, 51), (51, .iconst 1, 52), (52, .putfield 137, 55), (55, .return_, 56)]
def K_X9_lookOnPath : mm_K := ((yX9_lookOnPath, cX9_lookOnPath, 5, none, RX9), (1, 22, 9), (il_X9_lookOnPath, [11, 44, 50], fl_X9, ml_X9))
set_option maxRecDepth 100000 in
theorem ok_X9_lookOnPath : mm_KO K_X9_lookOnPath := ⟨by decide +kernel, fq_X9, mq_X9⟩
theorem mo_X9_lookOnPath : mm_MO K_X9_lookOnPath := ⟨tb_in 930 (by decide +kernel) (by decide +kernel), (fun r h => by cases h; rfl), by decide +kernel, rfl⟩
def il_X9_lookedAtInAll : List mm_I := [(0, .iconst 0, 1), (1, .istore_n 1, 2), (2, .iconst 0, 3), (3, .istore_n 2, 4), (4, .iload_n 2, 5), (5, .aload_n 0, 6), (6, .getfield 19, 9), (9, .getfield 72, 12), (12, .if_icmp .ge 21, 15), (15, .iload_n 1, 16), (16, .aload_n 0, 17), (17, .getfield 32, 20), (20, .iload_n 2, 21), (21, .iaload, 22), (22, .invokestatic 141, 25), (25, .iadd, 26), (26, .istore_n 1, 27), (27, .iinc 2 1, 30), (30, .goto (-26), 33), (33, .iload_n 1, 34), (34, .ireturn, 35)]
def K_X9_lookedAtInAll : mm_K := ((yX9_lookedAtInAll, cX9_lookedAtInAll, 3, (some .int), RX9), (1, 20, 9), (il_X9_lookedAtInAll, [4, 33], fl_X9, ml_X9))
set_option maxRecDepth 100000 in
theorem ok_X9_lookedAtInAll : mm_KO K_X9_lookedAtInAll := ⟨by decide +kernel, fq_X9, mq_X9⟩
theorem mo_X9_lookedAtInAll : mm_MO K_X9_lookedAtInAll := ⟨tb_in 959 (by decide +kernel) (by decide +kernel), (fun r h => by cases h; rfl), by decide +kernel, rfl⟩
end
section
def fl_X10 : List mm_F := [(101, 10, 0, 0, 0), (7, 10, 1, 2, 1), (68, 10, 2, 0, 2), (72, 10, 3, 0, 3), (75, 10, 4, 0, 4), (13, 10, 5, 2, 5), (78, 10, 6, 0, 6), (16, 10, 7, 2, 7), (85, 10, 8, 0, 8), (19, 10, 9, 2, 9), (22, 10, 10, 2, 10), (25, 10, 11, 2, 11), (98, 10, 12, 0, 12), (112, 10, 13, 0, 13), (115, 10, 14, 0, 14), (118, 10, 15, 0, 15), (28, 10, 16, 2, 16), (121, 10, 17, 0, 17), (31, 10, 18, 2, 18), (124, 10, 19, 0, 19), (34, 10, 20, 2, 20), (37, 10, 21, 2, 21), (40, 10, 22, 2, 22), (182, 10, 23, 0, 23), (43, 10, 24, 2, 24), (47, 10, 25, 2, 25), (50, 10, 26, 2, 26), (53, 10, 27, 2, 27), (56, 10, 28, 2, 28), (205, 10, 29, 0, 29), (59, 10, 30, 2, 30), (62, 10, 31, 2, 31), (221, 10, 32, 0, 32), (65, 10, 33, 2, 33)]
theorem fp_X10_0 : mm_fok RX10 (101, 10, 0, 0, 0) := ⟨RX10, TX10, 34, tyX10, rfl, tb_X10, tyX10_ok, nmX10, by decide, tb_in 986 (by decide +kernel) (by decide +kernel), rfl, rfl, rfl, fun _ => ⟨rfl, rfl⟩, fun h => absurd h (by decide)⟩
theorem fp_X10_1 : mm_fok RX10 (7, 10, 1, 2, 1) := ⟨RX10, TX10, 34, tyX10, rfl, tb_X10, tyX10_ok, nmX10, by decide, tb_in 987 (by decide +kernel) (by decide +kernel), rfl, rfl, rfl, fun h => absurd h (by decide), fun h => absurd h (by decide)⟩
theorem fp_X10_2 : mm_fok RX10 (68, 10, 2, 0, 2) := ⟨RX10, TX10, 34, tyX10, rfl, tb_X10, tyX10_ok, nmX10, by decide, tb_in 988 (by decide +kernel) (by decide +kernel), rfl, rfl, rfl, fun _ => ⟨rfl, rfl⟩, fun h => absurd h (by decide)⟩
theorem fp_X10_3 : mm_fok RX10 (72, 10, 3, 0, 3) := ⟨RX10, TX10, 34, tyX10, rfl, tb_X10, tyX10_ok, nmX10, by decide, tb_in 989 (by decide +kernel) (by decide +kernel), rfl, rfl, rfl, fun _ => ⟨rfl, rfl⟩, fun h => absurd h (by decide)⟩
theorem fp_X10_4 : mm_fok RX10 (75, 10, 4, 0, 4) := ⟨RX10, TX10, 34, tyX10, rfl, tb_X10, tyX10_ok, nmX10, by decide, tb_in 990 (by decide +kernel) (by decide +kernel), rfl, rfl, rfl, fun _ => ⟨rfl, rfl⟩, fun h => absurd h (by decide)⟩
theorem fp_X10_5 : mm_fok RX10 (13, 10, 5, 2, 5) := ⟨RX10, TX10, 34, tyX10, rfl, tb_X10, tyX10_ok, nmX10, by decide, tb_in 991 (by decide +kernel) (by decide +kernel), rfl, rfl, rfl, fun h => absurd h (by decide), fun h => absurd h (by decide)⟩
theorem fp_X10_6 : mm_fok RX10 (78, 10, 6, 0, 6) := ⟨RX10, TX10, 34, tyX10, rfl, tb_X10, tyX10_ok, nmX10, by decide, tb_in 992 (by decide +kernel) (by decide +kernel), rfl, rfl, rfl, fun _ => ⟨rfl, rfl⟩, fun h => absurd h (by decide)⟩
theorem fp_X10_7 : mm_fok RX10 (16, 10, 7, 2, 7) := ⟨RX10, TX10, 34, tyX10, rfl, tb_X10, tyX10_ok, nmX10, by decide, tb_in 993 (by decide +kernel) (by decide +kernel), rfl, rfl, rfl, fun h => absurd h (by decide), fun h => absurd h (by decide)⟩
theorem fp_X10_8 : mm_fok RX10 (85, 10, 8, 0, 8) := ⟨RX10, TX10, 34, tyX10, rfl, tb_X10, tyX10_ok, nmX10, by decide, tb_in 994 (by decide +kernel) (by decide +kernel), rfl, rfl, rfl, fun _ => ⟨rfl, rfl⟩, fun h => absurd h (by decide)⟩
theorem fp_X10_9 : mm_fok RX10 (19, 10, 9, 2, 9) := ⟨RX10, TX10, 34, tyX10, rfl, tb_X10, tyX10_ok, nmX10, by decide, tb_in 995 (by decide +kernel) (by decide +kernel), rfl, rfl, rfl, fun h => absurd h (by decide), fun h => absurd h (by decide)⟩
theorem fp_X10_10 : mm_fok RX10 (22, 10, 10, 2, 10) := ⟨RX10, TX10, 34, tyX10, rfl, tb_X10, tyX10_ok, nmX10, by decide, tb_in 996 (by decide +kernel) (by decide +kernel), rfl, rfl, rfl, fun h => absurd h (by decide), fun h => absurd h (by decide)⟩
theorem fp_X10_11 : mm_fok RX10 (25, 10, 11, 2, 11) := ⟨RX10, TX10, 34, tyX10, rfl, tb_X10, tyX10_ok, nmX10, by decide, tb_in 997 (by decide +kernel) (by decide +kernel), rfl, rfl, rfl, fun h => absurd h (by decide), fun h => absurd h (by decide)⟩
theorem fp_X10_12 : mm_fok RX10 (98, 10, 12, 0, 12) := ⟨RX10, TX10, 34, tyX10, rfl, tb_X10, tyX10_ok, nmX10, by decide, tb_in 998 (by decide +kernel) (by decide +kernel), rfl, rfl, rfl, fun _ => ⟨rfl, rfl⟩, fun h => absurd h (by decide)⟩
theorem fp_X10_13 : mm_fok RX10 (112, 10, 13, 0, 13) := ⟨RX10, TX10, 34, tyX10, rfl, tb_X10, tyX10_ok, nmX10, by decide, tb_in 999 (by decide +kernel) (by decide +kernel), rfl, rfl, rfl, fun _ => ⟨rfl, rfl⟩, fun h => absurd h (by decide)⟩
theorem fp_X10_14 : mm_fok RX10 (115, 10, 14, 0, 14) := ⟨RX10, TX10, 34, tyX10, rfl, tb_X10, tyX10_ok, nmX10, by decide, tb_in 1000 (by decide +kernel) (by decide +kernel), rfl, rfl, rfl, fun _ => ⟨rfl, rfl⟩, fun h => absurd h (by decide)⟩
theorem fp_X10_15 : mm_fok RX10 (118, 10, 15, 0, 15) := ⟨RX10, TX10, 34, tyX10, rfl, tb_X10, tyX10_ok, nmX10, by decide, tb_in 1001 (by decide +kernel) (by decide +kernel), rfl, rfl, rfl, fun _ => ⟨rfl, rfl⟩, fun h => absurd h (by decide)⟩
theorem fp_X10_16 : mm_fok RX10 (28, 10, 16, 2, 16) := ⟨RX10, TX10, 34, tyX10, rfl, tb_X10, tyX10_ok, nmX10, by decide, tb_in 1002 (by decide +kernel) (by decide +kernel), rfl, rfl, rfl, fun h => absurd h (by decide), fun h => absurd h (by decide)⟩
theorem fp_X10_17 : mm_fok RX10 (121, 10, 17, 0, 17) := ⟨RX10, TX10, 34, tyX10, rfl, tb_X10, tyX10_ok, nmX10, by decide, tb_in 1003 (by decide +kernel) (by decide +kernel), rfl, rfl, rfl, fun _ => ⟨rfl, rfl⟩, fun h => absurd h (by decide)⟩
theorem fp_X10_18 : mm_fok RX10 (31, 10, 18, 2, 18) := ⟨RX10, TX10, 34, tyX10, rfl, tb_X10, tyX10_ok, nmX10, by decide, tb_in 1004 (by decide +kernel) (by decide +kernel), rfl, rfl, rfl, fun h => absurd h (by decide), fun h => absurd h (by decide)⟩
theorem fp_X10_19 : mm_fok RX10 (124, 10, 19, 0, 19) := ⟨RX10, TX10, 34, tyX10, rfl, tb_X10, tyX10_ok, nmX10, by decide, tb_in 1005 (by decide +kernel) (by decide +kernel), rfl, rfl, rfl, fun _ => ⟨rfl, rfl⟩, fun h => absurd h (by decide)⟩
theorem fp_X10_20 : mm_fok RX10 (34, 10, 20, 2, 20) := ⟨RX10, TX10, 34, tyX10, rfl, tb_X10, tyX10_ok, nmX10, by decide, tb_in 1006 (by decide +kernel) (by decide +kernel), rfl, rfl, rfl, fun h => absurd h (by decide), fun h => absurd h (by decide)⟩
theorem fp_X10_21 : mm_fok RX10 (37, 10, 21, 2, 21) := ⟨RX10, TX10, 34, tyX10, rfl, tb_X10, tyX10_ok, nmX10, by decide, tb_in 1007 (by decide +kernel) (by decide +kernel), rfl, rfl, rfl, fun h => absurd h (by decide), fun h => absurd h (by decide)⟩
theorem fp_X10_22 : mm_fok RX10 (40, 10, 22, 2, 22) := ⟨RX10, TX10, 34, tyX10, rfl, tb_X10, tyX10_ok, nmX10, by decide, tb_in 1008 (by decide +kernel) (by decide +kernel), rfl, rfl, rfl, fun h => absurd h (by decide), fun h => absurd h (by decide)⟩
theorem fp_X10_23 : mm_fok RX10 (182, 10, 23, 0, 23) := ⟨RX10, TX10, 34, tyX10, rfl, tb_X10, tyX10_ok, nmX10, by decide, tb_in 1009 (by decide +kernel) (by decide +kernel), rfl, rfl, rfl, fun _ => ⟨rfl, rfl⟩, fun h => absurd h (by decide)⟩
theorem fp_X10_24 : mm_fok RX10 (43, 10, 24, 2, 24) := ⟨RX10, TX10, 34, tyX10, rfl, tb_X10, tyX10_ok, nmX10, by decide, tb_in 1010 (by decide +kernel) (by decide +kernel), rfl, rfl, rfl, fun h => absurd h (by decide), fun h => absurd h (by decide)⟩
theorem fp_X10_25 : mm_fok RX10 (47, 10, 25, 2, 25) := ⟨RX10, TX10, 34, tyX10, rfl, tb_X10, tyX10_ok, nmX10, by decide, tb_in 1011 (by decide +kernel) (by decide +kernel), rfl, rfl, rfl, fun h => absurd h (by decide), fun h => absurd h (by decide)⟩
theorem fp_X10_26 : mm_fok RX10 (50, 10, 26, 2, 26) := ⟨RX10, TX10, 34, tyX10, rfl, tb_X10, tyX10_ok, nmX10, by decide, tb_in 1012 (by decide +kernel) (by decide +kernel), rfl, rfl, rfl, fun h => absurd h (by decide), fun h => absurd h (by decide)⟩
theorem fp_X10_27 : mm_fok RX10 (53, 10, 27, 2, 27) := ⟨RX10, TX10, 34, tyX10, rfl, tb_X10, tyX10_ok, nmX10, by decide, tb_in 1013 (by decide +kernel) (by decide +kernel), rfl, rfl, rfl, fun h => absurd h (by decide), fun h => absurd h (by decide)⟩
theorem fp_X10_28 : mm_fok RX10 (56, 10, 28, 2, 28) := ⟨RX10, TX10, 34, tyX10, rfl, tb_X10, tyX10_ok, nmX10, by decide, tb_in 1014 (by decide +kernel) (by decide +kernel), rfl, rfl, rfl, fun h => absurd h (by decide), fun h => absurd h (by decide)⟩
theorem fp_X10_29 : mm_fok RX10 (205, 10, 29, 0, 29) := ⟨RX10, TX10, 34, tyX10, rfl, tb_X10, tyX10_ok, nmX10, by decide, tb_in 1015 (by decide +kernel) (by decide +kernel), rfl, rfl, rfl, fun _ => ⟨rfl, rfl⟩, fun h => absurd h (by decide)⟩
theorem fp_X10_30 : mm_fok RX10 (59, 10, 30, 2, 30) := ⟨RX10, TX10, 34, tyX10, rfl, tb_X10, tyX10_ok, nmX10, by decide, tb_in 1016 (by decide +kernel) (by decide +kernel), rfl, rfl, rfl, fun h => absurd h (by decide), fun h => absurd h (by decide)⟩
theorem fp_X10_31 : mm_fok RX10 (62, 10, 31, 2, 31) := ⟨RX10, TX10, 34, tyX10, rfl, tb_X10, tyX10_ok, nmX10, by decide, tb_in 1017 (by decide +kernel) (by decide +kernel), rfl, rfl, rfl, fun h => absurd h (by decide), fun h => absurd h (by decide)⟩
theorem fp_X10_32 : mm_fok RX10 (221, 10, 32, 0, 32) := ⟨RX10, TX10, 34, tyX10, rfl, tb_X10, tyX10_ok, nmX10, by decide, tb_in 1018 (by decide +kernel) (by decide +kernel), rfl, rfl, rfl, fun _ => ⟨rfl, rfl⟩, fun h => absurd h (by decide)⟩
theorem fp_X10_33 : mm_fok RX10 (65, 10, 33, 2, 33) := ⟨RX10, TX10, 34, tyX10, rfl, tb_X10, tyX10_ok, nmX10, by decide, tb_in 1019 (by decide +kernel) (by decide +kernel), rfl, rfl, rfl, fun h => absurd h (by decide), fun h => absurd h (by decide)⟩
theorem fq_X10 : ∀ q ∈ fl_X10, mm_fok RX10 q := List.forall_mem_cons.mpr ⟨fp_X10_0, List.forall_mem_cons.mpr ⟨fp_X10_1, List.forall_mem_cons.mpr ⟨fp_X10_2, List.forall_mem_cons.mpr ⟨fp_X10_3, List.forall_mem_cons.mpr ⟨fp_X10_4, List.forall_mem_cons.mpr ⟨fp_X10_5, List.forall_mem_cons.mpr ⟨fp_X10_6, List.forall_mem_cons.mpr ⟨fp_X10_7, List.forall_mem_cons.mpr ⟨fp_X10_8, List.forall_mem_cons.mpr ⟨fp_X10_9, List.forall_mem_cons.mpr ⟨fp_X10_10, List.forall_mem_cons.mpr ⟨fp_X10_11, List.forall_mem_cons.mpr ⟨fp_X10_12, List.forall_mem_cons.mpr ⟨fp_X10_13, List.forall_mem_cons.mpr ⟨fp_X10_14, List.forall_mem_cons.mpr ⟨fp_X10_15, List.forall_mem_cons.mpr ⟨fp_X10_16, List.forall_mem_cons.mpr ⟨fp_X10_17, List.forall_mem_cons.mpr ⟨fp_X10_18, List.forall_mem_cons.mpr ⟨fp_X10_19, List.forall_mem_cons.mpr ⟨fp_X10_20, List.forall_mem_cons.mpr ⟨fp_X10_21, List.forall_mem_cons.mpr ⟨fp_X10_22, List.forall_mem_cons.mpr ⟨fp_X10_23, List.forall_mem_cons.mpr ⟨fp_X10_24, List.forall_mem_cons.mpr ⟨fp_X10_25, List.forall_mem_cons.mpr ⟨fp_X10_26, List.forall_mem_cons.mpr ⟨fp_X10_27, List.forall_mem_cons.mpr ⟨fp_X10_28, List.forall_mem_cons.mpr ⟨fp_X10_29, List.forall_mem_cons.mpr ⟨fp_X10_30, List.forall_mem_cons.mpr ⟨fp_X10_31, List.forall_mem_cons.mpr ⟨fp_X10_32, List.forall_mem_cons.mpr ⟨fp_X10_33, fun _ h => absurd h List.not_mem_nil⟩⟩⟩⟩⟩⟩⟩⟩⟩⟩⟩⟩⟩⟩⟩⟩⟩⟩⟩⟩⟩⟩⟩⟩⟩⟩⟩⟩⟩⟩⟩⟩⟩⟩
def ml_X10 : List (Nat × Nat × Nat × MethodName) := [(81, 0, 4, yX10_compares), (88, 0, 5, yX10_joins), (92, 0, 4, yX10_acts), (95, 0, 0, yX10_begins), (147, 0, 0, yX10_reads), (127, 1, 1, yX10_figuresOf), (143, 0, 2, yX10_readsItem), (108, 0, 1, yX10_figure), (104, 1, 3, yX10_isIn), (130, 0, 1, yX10_readsPlaces), (134, 0, 1, yX10_readsVariable), (137, 0, 1, yX10_readsComparison), (140, 0, 1, yX10_readsEdge), (161, 0, 1, yX10_isEdge), (164, 0, 1, yX10_isComparison), (167, 1, 3, yX10_areValues), (158, 0, 2, yX10_isSo), (151, 1, 2, yX10_value), (170, 0, 2, yX10_goes), (173, 0, 0, yX10_keeps), (176, 0, 1, yX10_isPlace), (179, 1, 1, yX10_bits), (192, 0, 0, yX10_spreads), (185, 0, 1, yX10_isFirst), (155, 0, 1, yX10_isThere), (188, 0, 2, yX10_meets), (195, 0, 1, yX10_nearest), (198, 0, 1, yX10_prunes), (202, 0, 2, yX10_leads), (215, 0, 2, yX10_becomes), (208, 0, 3, yX10_cube), (218, 0, 0, yX10_looks), (212, 0, 2, yX10_comes), (224, 0, 0, yX10_findsPath), (228, 0, 0, yX10_farOfPath), (234, 0, 0, yX10_setFor), (231, 0, 1, yX10_isEnded), (237, 0, 1, yX10_looksMore), (240, 0, 0, yX10_how)]
theorem mp_X10_0 : mm_lok RX10 (81, 0, 4, yX10_compares) := ⟨⟨by decide, by decide, by decide +kernel⟩, tb_in 80 (by decide +kernel) (by decide +kernel), fun _ => ⟨tb_in 970 (by decide +kernel) (by decide +kernel), tb_in 972 (by decide +kernel) (by decide +kernel), tb_in 34 (by decide +kernel) (by decide +kernel)⟩, fun h => absurd h (by decide), fun h => absurd h (by decide), fun h => absurd h (by decide)⟩
theorem mp_X10_1 : mm_lok RX10 (88, 0, 5, yX10_joins) := ⟨⟨by decide, by decide, by decide +kernel⟩, tb_in 80 (by decide +kernel) (by decide +kernel), fun _ => ⟨tb_in 974 (by decide +kernel) (by decide +kernel), tb_in 976 (by decide +kernel) (by decide +kernel), tb_in 35 (by decide +kernel) (by decide +kernel)⟩, fun h => absurd h (by decide), fun h => absurd h (by decide), fun h => absurd h (by decide)⟩
theorem mp_X10_2 : mm_lok RX10 (92, 0, 4, yX10_acts) := ⟨⟨by decide, by decide, by decide +kernel⟩, tb_in 80 (by decide +kernel) (by decide +kernel), fun _ => ⟨tb_in 978 (by decide +kernel) (by decide +kernel), tb_in 980 (by decide +kernel) (by decide +kernel), tb_in 36 (by decide +kernel) (by decide +kernel)⟩, fun h => absurd h (by decide), fun h => absurd h (by decide), fun h => absurd h (by decide)⟩
theorem mp_X10_3 : mm_lok RX10 (95, 0, 0, yX10_begins) := ⟨⟨by decide, by decide, by decide +kernel⟩, tb_in 80 (by decide +kernel) (by decide +kernel), fun _ => ⟨tb_in 982 (by decide +kernel) (by decide +kernel), tb_in 984 (by decide +kernel) (by decide +kernel), tb_in 37 (by decide +kernel) (by decide +kernel)⟩, fun h => absurd h (by decide), fun h => absurd h (by decide), fun h => absurd h (by decide)⟩
theorem mp_X10_4 : mm_lok RX10 (147, 0, 0, yX10_reads) := ⟨⟨by decide, by decide, by decide +kernel⟩, tb_in 80 (by decide +kernel) (by decide +kernel), fun _ => ⟨tb_in 1102 (by decide +kernel) (by decide +kernel), tb_in 1104 (by decide +kernel) (by decide +kernel), tb_in 38 (by decide +kernel) (by decide +kernel)⟩, fun h => absurd h (by decide), fun h => absurd h (by decide), fun h => absurd h (by decide)⟩
theorem mp_X10_5 : mm_lok RX10 (127, 1, 1, yX10_figuresOf) := ⟨⟨by decide, by decide, by decide +kernel⟩, tb_in 80 (by decide +kernel) (by decide +kernel), fun h => absurd h (by decide), fun _ => ⟨tb_in 1106 (by decide +kernel) (by decide +kernel), tb_in 1107 (by decide +kernel) (by decide +kernel)⟩, fun h => absurd h (by decide), fun h => absurd h (by decide)⟩
theorem mp_X10_6 : mm_lok RX10 (143, 0, 2, yX10_readsItem) := ⟨⟨by decide, by decide, by decide +kernel⟩, tb_in 80 (by decide +kernel) (by decide +kernel), fun _ => ⟨tb_in 1109 (by decide +kernel) (by decide +kernel), tb_in 1111 (by decide +kernel) (by decide +kernel), tb_in 39 (by decide +kernel) (by decide +kernel)⟩, fun h => absurd h (by decide), fun h => absurd h (by decide), fun h => absurd h (by decide)⟩
theorem mp_X10_7 : mm_lok RX10 (108, 0, 1, yX10_figure) := ⟨⟨by decide, by decide, by decide +kernel⟩, tb_in 80 (by decide +kernel) (by decide +kernel), fun _ => ⟨tb_in 1113 (by decide +kernel) (by decide +kernel), tb_in 1115 (by decide +kernel) (by decide +kernel), tb_in 40 (by decide +kernel) (by decide +kernel)⟩, fun h => absurd h (by decide), fun h => absurd h (by decide), fun h => absurd h (by decide)⟩
theorem mp_X10_8 : mm_lok RX10 (104, 1, 3, yX10_isIn) := ⟨⟨by decide, by decide, by decide +kernel⟩, tb_in 80 (by decide +kernel) (by decide +kernel), fun h => absurd h (by decide), fun _ => ⟨tb_in 1117 (by decide +kernel) (by decide +kernel), tb_in 1118 (by decide +kernel) (by decide +kernel)⟩, fun h => absurd h (by decide), fun h => absurd h (by decide)⟩
theorem mp_X10_9 : mm_lok RX10 (130, 0, 1, yX10_readsPlaces) := ⟨⟨by decide, by decide, by decide +kernel⟩, tb_in 80 (by decide +kernel) (by decide +kernel), fun _ => ⟨tb_in 1120 (by decide +kernel) (by decide +kernel), tb_in 1122 (by decide +kernel) (by decide +kernel), tb_in 41 (by decide +kernel) (by decide +kernel)⟩, fun h => absurd h (by decide), fun h => absurd h (by decide), fun h => absurd h (by decide)⟩
theorem mp_X10_10 : mm_lok RX10 (134, 0, 1, yX10_readsVariable) := ⟨⟨by decide, by decide, by decide +kernel⟩, tb_in 80 (by decide +kernel) (by decide +kernel), fun _ => ⟨tb_in 1124 (by decide +kernel) (by decide +kernel), tb_in 1126 (by decide +kernel) (by decide +kernel), tb_in 42 (by decide +kernel) (by decide +kernel)⟩, fun h => absurd h (by decide), fun h => absurd h (by decide), fun h => absurd h (by decide)⟩
theorem mp_X10_11 : mm_lok RX10 (137, 0, 1, yX10_readsComparison) := ⟨⟨by decide, by decide, by decide +kernel⟩, tb_in 80 (by decide +kernel) (by decide +kernel), fun _ => ⟨tb_in 1128 (by decide +kernel) (by decide +kernel), tb_in 1130 (by decide +kernel) (by decide +kernel), tb_in 43 (by decide +kernel) (by decide +kernel)⟩, fun h => absurd h (by decide), fun h => absurd h (by decide), fun h => absurd h (by decide)⟩
theorem mp_X10_12 : mm_lok RX10 (140, 0, 1, yX10_readsEdge) := ⟨⟨by decide, by decide, by decide +kernel⟩, tb_in 80 (by decide +kernel) (by decide +kernel), fun _ => ⟨tb_in 1132 (by decide +kernel) (by decide +kernel), tb_in 1134 (by decide +kernel) (by decide +kernel), tb_in 44 (by decide +kernel) (by decide +kernel)⟩, fun h => absurd h (by decide), fun h => absurd h (by decide), fun h => absurd h (by decide)⟩
theorem mp_X10_13 : mm_lok RX10 (161, 0, 1, yX10_isEdge) := ⟨⟨by decide, by decide, by decide +kernel⟩, tb_in 80 (by decide +kernel) (by decide +kernel), fun _ => ⟨tb_in 1144 (by decide +kernel) (by decide +kernel), tb_in 1146 (by decide +kernel) (by decide +kernel), tb_in 45 (by decide +kernel) (by decide +kernel)⟩, fun h => absurd h (by decide), fun h => absurd h (by decide), fun h => absurd h (by decide)⟩
theorem mp_X10_14 : mm_lok RX10 (164, 0, 1, yX10_isComparison) := ⟨⟨by decide, by decide, by decide +kernel⟩, tb_in 80 (by decide +kernel) (by decide +kernel), fun _ => ⟨tb_in 1152 (by decide +kernel) (by decide +kernel), tb_in 1154 (by decide +kernel) (by decide +kernel), tb_in 46 (by decide +kernel) (by decide +kernel)⟩, fun h => absurd h (by decide), fun h => absurd h (by decide), fun h => absurd h (by decide)⟩
theorem mp_X10_15 : mm_lok RX10 (167, 1, 3, yX10_areValues) := ⟨⟨by decide, by decide, by decide +kernel⟩, tb_in 80 (by decide +kernel) (by decide +kernel), fun h => absurd h (by decide), fun _ => ⟨tb_in 1156 (by decide +kernel) (by decide +kernel), tb_in 1157 (by decide +kernel) (by decide +kernel)⟩, fun h => absurd h (by decide), fun h => absurd h (by decide)⟩
theorem mp_X10_16 : mm_lok RX10 (158, 0, 2, yX10_isSo) := ⟨⟨by decide, by decide, by decide +kernel⟩, tb_in 80 (by decide +kernel) (by decide +kernel), fun _ => ⟨tb_in 1159 (by decide +kernel) (by decide +kernel), tb_in 1161 (by decide +kernel) (by decide +kernel), tb_in 47 (by decide +kernel) (by decide +kernel)⟩, fun h => absurd h (by decide), fun h => absurd h (by decide), fun h => absurd h (by decide)⟩
theorem mp_X10_17 : mm_lok RX10 (151, 1, 2, yX10_value) := ⟨⟨by decide, by decide, by decide +kernel⟩, tb_in 80 (by decide +kernel) (by decide +kernel), fun h => absurd h (by decide), fun _ => ⟨tb_in 1163 (by decide +kernel) (by decide +kernel), tb_in 1164 (by decide +kernel) (by decide +kernel)⟩, fun h => absurd h (by decide), fun h => absurd h (by decide)⟩
theorem mp_X10_18 : mm_lok RX10 (170, 0, 2, yX10_goes) := ⟨⟨by decide, by decide, by decide +kernel⟩, tb_in 80 (by decide +kernel) (by decide +kernel), fun _ => ⟨tb_in 1170 (by decide +kernel) (by decide +kernel), tb_in 1172 (by decide +kernel) (by decide +kernel), tb_in 48 (by decide +kernel) (by decide +kernel)⟩, fun h => absurd h (by decide), fun h => absurd h (by decide), fun h => absurd h (by decide)⟩
theorem mp_X10_19 : mm_lok RX10 (173, 0, 0, yX10_keeps) := ⟨⟨by decide, by decide, by decide +kernel⟩, tb_in 80 (by decide +kernel) (by decide +kernel), fun _ => ⟨tb_in 1182 (by decide +kernel) (by decide +kernel), tb_in 1184 (by decide +kernel) (by decide +kernel), tb_in 49 (by decide +kernel) (by decide +kernel)⟩, fun h => absurd h (by decide), fun h => absurd h (by decide), fun h => absurd h (by decide)⟩
theorem mp_X10_20 : mm_lok RX10 (176, 0, 1, yX10_isPlace) := ⟨⟨by decide, by decide, by decide +kernel⟩, tb_in 80 (by decide +kernel) (by decide +kernel), fun _ => ⟨tb_in 1190 (by decide +kernel) (by decide +kernel), tb_in 1192 (by decide +kernel) (by decide +kernel), tb_in 50 (by decide +kernel) (by decide +kernel)⟩, fun h => absurd h (by decide), fun h => absurd h (by decide), fun h => absurd h (by decide)⟩
theorem mp_X10_21 : mm_lok RX10 (179, 1, 1, yX10_bits) := ⟨⟨by decide, by decide, by decide +kernel⟩, tb_in 80 (by decide +kernel) (by decide +kernel), fun h => absurd h (by decide), fun _ => ⟨tb_in 1194 (by decide +kernel) (by decide +kernel), tb_in 1195 (by decide +kernel) (by decide +kernel)⟩, fun h => absurd h (by decide), fun h => absurd h (by decide)⟩
theorem mp_X10_22 : mm_lok RX10 (192, 0, 0, yX10_spreads) := ⟨⟨by decide, by decide, by decide +kernel⟩, tb_in 80 (by decide +kernel) (by decide +kernel), fun _ => ⟨tb_in 1205 (by decide +kernel) (by decide +kernel), tb_in 1207 (by decide +kernel) (by decide +kernel), tb_in 51 (by decide +kernel) (by decide +kernel)⟩, fun h => absurd h (by decide), fun h => absurd h (by decide), fun h => absurd h (by decide)⟩
theorem mp_X10_23 : mm_lok RX10 (185, 0, 1, yX10_isFirst) := ⟨⟨by decide, by decide, by decide +kernel⟩, tb_in 80 (by decide +kernel) (by decide +kernel), fun _ => ⟨tb_in 1209 (by decide +kernel) (by decide +kernel), tb_in 1211 (by decide +kernel) (by decide +kernel), tb_in 52 (by decide +kernel) (by decide +kernel)⟩, fun h => absurd h (by decide), fun h => absurd h (by decide), fun h => absurd h (by decide)⟩
theorem mp_X10_24 : mm_lok RX10 (155, 0, 1, yX10_isThere) := ⟨⟨by decide, by decide, by decide +kernel⟩, tb_in 80 (by decide +kernel) (by decide +kernel), fun _ => ⟨tb_in 1213 (by decide +kernel) (by decide +kernel), tb_in 1215 (by decide +kernel) (by decide +kernel), tb_in 53 (by decide +kernel) (by decide +kernel)⟩, fun h => absurd h (by decide), fun h => absurd h (by decide), fun h => absurd h (by decide)⟩
theorem mp_X10_25 : mm_lok RX10 (188, 0, 2, yX10_meets) := ⟨⟨by decide, by decide, by decide +kernel⟩, tb_in 80 (by decide +kernel) (by decide +kernel), fun _ => ⟨tb_in 1217 (by decide +kernel) (by decide +kernel), tb_in 1219 (by decide +kernel) (by decide +kernel), tb_in 54 (by decide +kernel) (by decide +kernel)⟩, fun h => absurd h (by decide), fun h => absurd h (by decide), fun h => absurd h (by decide)⟩
theorem mp_X10_26 : mm_lok RX10 (195, 0, 1, yX10_nearest) := ⟨⟨by decide, by decide, by decide +kernel⟩, tb_in 80 (by decide +kernel) (by decide +kernel), fun _ => ⟨tb_in 1221 (by decide +kernel) (by decide +kernel), tb_in 1223 (by decide +kernel) (by decide +kernel), tb_in 55 (by decide +kernel) (by decide +kernel)⟩, fun h => absurd h (by decide), fun h => absurd h (by decide), fun h => absurd h (by decide)⟩
theorem mp_X10_27 : mm_lok RX10 (198, 0, 1, yX10_prunes) := ⟨⟨by decide, by decide, by decide +kernel⟩, tb_in 80 (by decide +kernel) (by decide +kernel), fun _ => ⟨tb_in 1229 (by decide +kernel) (by decide +kernel), tb_in 1231 (by decide +kernel) (by decide +kernel), tb_in 56 (by decide +kernel) (by decide +kernel)⟩, fun h => absurd h (by decide), fun h => absurd h (by decide), fun h => absurd h (by decide)⟩
theorem mp_X10_28 : mm_lok RX10 (202, 0, 2, yX10_leads) := ⟨⟨by decide, by decide, by decide +kernel⟩, tb_in 80 (by decide +kernel) (by decide +kernel), fun _ => ⟨tb_in 1233 (by decide +kernel) (by decide +kernel), tb_in 1235 (by decide +kernel) (by decide +kernel), tb_in 57 (by decide +kernel) (by decide +kernel)⟩, fun h => absurd h (by decide), fun h => absurd h (by decide), fun h => absurd h (by decide)⟩
theorem mp_X10_29 : mm_lok RX10 (215, 0, 2, yX10_becomes) := ⟨⟨by decide, by decide, by decide +kernel⟩, tb_in 80 (by decide +kernel) (by decide +kernel), fun _ => ⟨tb_in 1241 (by decide +kernel) (by decide +kernel), tb_in 1243 (by decide +kernel) (by decide +kernel), tb_in 58 (by decide +kernel) (by decide +kernel)⟩, fun h => absurd h (by decide), fun h => absurd h (by decide), fun h => absurd h (by decide)⟩
theorem mp_X10_30 : mm_lok RX10 (208, 0, 3, yX10_cube) := ⟨⟨by decide, by decide, by decide +kernel⟩, tb_in 80 (by decide +kernel) (by decide +kernel), fun _ => ⟨tb_in 1245 (by decide +kernel) (by decide +kernel), tb_in 1247 (by decide +kernel) (by decide +kernel), tb_in 59 (by decide +kernel) (by decide +kernel)⟩, fun h => absurd h (by decide), fun h => absurd h (by decide), fun h => absurd h (by decide)⟩
theorem mp_X10_31 : mm_lok RX10 (218, 0, 0, yX10_looks) := ⟨⟨by decide, by decide, by decide +kernel⟩, tb_in 80 (by decide +kernel) (by decide +kernel), fun _ => ⟨tb_in 1253 (by decide +kernel) (by decide +kernel), tb_in 1255 (by decide +kernel) (by decide +kernel), tb_in 60 (by decide +kernel) (by decide +kernel)⟩, fun h => absurd h (by decide), fun h => absurd h (by decide), fun h => absurd h (by decide)⟩
theorem mp_X10_32 : mm_lok RX10 (212, 0, 2, yX10_comes) := ⟨⟨by decide, by decide, by decide +kernel⟩, tb_in 80 (by decide +kernel) (by decide +kernel), fun _ => ⟨tb_in 1257 (by decide +kernel) (by decide +kernel), tb_in 1259 (by decide +kernel) (by decide +kernel), tb_in 61 (by decide +kernel) (by decide +kernel)⟩, fun h => absurd h (by decide), fun h => absurd h (by decide), fun h => absurd h (by decide)⟩
theorem mp_X10_33 : mm_lok RX10 (224, 0, 0, yX10_findsPath) := ⟨⟨by decide, by decide, by decide +kernel⟩, tb_in 80 (by decide +kernel) (by decide +kernel), fun _ => ⟨tb_in 1269 (by decide +kernel) (by decide +kernel), tb_in 1271 (by decide +kernel) (by decide +kernel), tb_in 62 (by decide +kernel) (by decide +kernel)⟩, fun h => absurd h (by decide), fun h => absurd h (by decide), fun h => absurd h (by decide)⟩
theorem mp_X10_34 : mm_lok RX10 (228, 0, 0, yX10_farOfPath) := ⟨⟨by decide, by decide, by decide +kernel⟩, tb_in 80 (by decide +kernel) (by decide +kernel), fun _ => ⟨tb_in 1273 (by decide +kernel) (by decide +kernel), tb_in 1275 (by decide +kernel) (by decide +kernel), tb_in 63 (by decide +kernel) (by decide +kernel)⟩, fun h => absurd h (by decide), fun h => absurd h (by decide), fun h => absurd h (by decide)⟩
theorem mp_X10_35 : mm_lok RX10 (234, 0, 0, yX10_setFor) := ⟨⟨by decide, by decide, by decide +kernel⟩, tb_in 80 (by decide +kernel) (by decide +kernel), fun _ => ⟨tb_in 1281 (by decide +kernel) (by decide +kernel), tb_in 1283 (by decide +kernel) (by decide +kernel), tb_in 64 (by decide +kernel) (by decide +kernel)⟩, fun h => absurd h (by decide), fun h => absurd h (by decide), fun h => absurd h (by decide)⟩
theorem mp_X10_36 : mm_lok RX10 (231, 0, 1, yX10_isEnded) := ⟨⟨by decide, by decide, by decide +kernel⟩, tb_in 80 (by decide +kernel) (by decide +kernel), fun _ => ⟨tb_in 1285 (by decide +kernel) (by decide +kernel), tb_in 1287 (by decide +kernel) (by decide +kernel), tb_in 65 (by decide +kernel) (by decide +kernel)⟩, fun h => absurd h (by decide), fun h => absurd h (by decide), fun h => absurd h (by decide)⟩
theorem mp_X10_37 : mm_lok RX10 (237, 0, 1, yX10_looksMore) := ⟨⟨by decide, by decide, by decide +kernel⟩, tb_in 80 (by decide +kernel) (by decide +kernel), fun _ => ⟨tb_in 1289 (by decide +kernel) (by decide +kernel), tb_in 1291 (by decide +kernel) (by decide +kernel), tb_in 66 (by decide +kernel) (by decide +kernel)⟩, fun h => absurd h (by decide), fun h => absurd h (by decide), fun h => absurd h (by decide)⟩
theorem mp_X10_38 : mm_lok RX10 (240, 0, 0, yX10_how) := ⟨⟨by decide, by decide, by decide +kernel⟩, tb_in 80 (by decide +kernel) (by decide +kernel), fun _ => ⟨tb_in 1297 (by decide +kernel) (by decide +kernel), tb_in 1299 (by decide +kernel) (by decide +kernel), tb_in 67 (by decide +kernel) (by decide +kernel)⟩, fun h => absurd h (by decide), fun h => absurd h (by decide), fun h => absurd h (by decide)⟩
theorem mq_X10 : ∀ q ∈ ml_X10, mm_lok RX10 q := List.forall_mem_cons.mpr ⟨mp_X10_0, List.forall_mem_cons.mpr ⟨mp_X10_1, List.forall_mem_cons.mpr ⟨mp_X10_2, List.forall_mem_cons.mpr ⟨mp_X10_3, List.forall_mem_cons.mpr ⟨mp_X10_4, List.forall_mem_cons.mpr ⟨mp_X10_5, List.forall_mem_cons.mpr ⟨mp_X10_6, List.forall_mem_cons.mpr ⟨mp_X10_7, List.forall_mem_cons.mpr ⟨mp_X10_8, List.forall_mem_cons.mpr ⟨mp_X10_9, List.forall_mem_cons.mpr ⟨mp_X10_10, List.forall_mem_cons.mpr ⟨mp_X10_11, List.forall_mem_cons.mpr ⟨mp_X10_12, List.forall_mem_cons.mpr ⟨mp_X10_13, List.forall_mem_cons.mpr ⟨mp_X10_14, List.forall_mem_cons.mpr ⟨mp_X10_15, List.forall_mem_cons.mpr ⟨mp_X10_16, List.forall_mem_cons.mpr ⟨mp_X10_17, List.forall_mem_cons.mpr ⟨mp_X10_18, List.forall_mem_cons.mpr ⟨mp_X10_19, List.forall_mem_cons.mpr ⟨mp_X10_20, List.forall_mem_cons.mpr ⟨mp_X10_21, List.forall_mem_cons.mpr ⟨mp_X10_22, List.forall_mem_cons.mpr ⟨mp_X10_23, List.forall_mem_cons.mpr ⟨mp_X10_24, List.forall_mem_cons.mpr ⟨mp_X10_25, List.forall_mem_cons.mpr ⟨mp_X10_26, List.forall_mem_cons.mpr ⟨mp_X10_27, List.forall_mem_cons.mpr ⟨mp_X10_28, List.forall_mem_cons.mpr ⟨mp_X10_29, List.forall_mem_cons.mpr ⟨mp_X10_30, List.forall_mem_cons.mpr ⟨mp_X10_31, List.forall_mem_cons.mpr ⟨mp_X10_32, List.forall_mem_cons.mpr ⟨mp_X10_33, List.forall_mem_cons.mpr ⟨mp_X10_34, List.forall_mem_cons.mpr ⟨mp_X10_35, List.forall_mem_cons.mpr ⟨mp_X10_36, List.forall_mem_cons.mpr ⟨mp_X10_37, List.forall_mem_cons.mpr ⟨mp_X10_38, fun _ h => absurd h List.not_mem_nil⟩⟩⟩⟩⟩⟩⟩⟩⟩⟩⟩⟩⟩⟩⟩⟩⟩⟩⟩⟩⟩⟩⟩⟩⟩⟩⟩⟩⟩⟩⟩⟩⟩⟩⟩⟩⟩⟩⟩
def il_X10_init : List mm_I := [(0, .aload_n 0, 1), (1, .invokespecial 1, 4), (4, .aload_n 0, 5), (5, .sipush 200, 8), (8, .newarray .int, 10), (10, .putfield 7, 13), (13, .aload_n 0, 14), (14, .bipush 6, 16), (16, .newarray .int, 18), (18, .putfield 13, 21), (21, .aload_n 0, 22), (22, .bipush 24, 24), (24, .newarray .int, 26), (26, .putfield 16, 29), (29, .aload_n 0, 30), (30, .bipush 98, 32), (32, .newarray .int, 34), (34, .putfield 19, 37), (37, .aload_n 0, 38), (38, .bipush 22, 40), (40, .newarray .int, 42), (42, .putfield 22, 45), (45, .aload_n 0, 46), (46, .sipush 132, 49), (49, .newarray .int, 51), (51, .putfield 25, 54), (54, .aload_n 0, 55), (55, .bipush 6, 57), (57, .newarray .int, 59), (59, .putfield 28, 62), (62, .aload_n 0, 63), (63, .bipush 24, 65), (65, .newarray .int, 67), (67, .putfield 31, 70), (70, .aload_n 0, 71), (71, .bipush 98, 73), (73, .newarray .int, 75), (75, .putfield 34, 78), (78, .aload_n 0, 79), (79, .sipush 4096, 82), (82, .newarray .int, 84), (84, .putfield 37, 87), (87, .aload_n 0, 88), (88, .sipush 4096, 91), (91, .newarray .int, 93), (93, .putfield 40, 96), (96, .aload_n 0, 97), (97, .sipush 512, 100), (100, .newarray .boolean, 102), (102, .putfield 43, 105), (105, .aload_n 0, 106), (106, .sipush 512, 109), (109, .newarray .boolean, 111), (111, .putfield 47, 114), (114, .aload_n 0, 115), (115, .sipush 2048, 118), (118, .newarray .int, 120), (120, .putfield 50, 123), (123, .aload_n 0, 124), (124, .sipush 2048, 127), (127, .newarray .int, 129), (129, .putfield 53, 132), (132, .aload_n 0, 133), (133, .sipush 2048, 136), (136, .newarray .boolean, 138), (138, .putfield 56, 141), (141, .aload_n 0, 142), (142, .sipush 256, 145), (145, .newarray .boolean, 147), (147, .putfield 59, 150), (150, .aload_n 0, 151), (151, .sipush 2048, 154), (154, .newarray .int, 156), (156, .putfield 62, 159), (159, .aload_n 0, 160), (160, .sipush 256, 163), (163, .newarray .boolean, 165), (165, .putfield 65, 168), (168, .aload_n 0, 169), (169, .iconst 4, 170), (170, .putfield 68, 173), (173, .aload_n 0, 174), (174, .iconst 3, 175), (175, .putfield 72, 178), (178, .aload_n 0, 179), (179, .iconst 2, 180), (180, .putfield 75, 183), (183, .aload_n 0, 184), (184, .getfield 13, 187), (187, .iconst 1, 188), (188, .iconst 2, 189), (189, .iastore, 190), (190, .aload_n 0, 191), (191, .iconst 5, 192), (192, .putfield 78, 195), (195, .aload_n 0, 196), (196, .iconst 0, 197), (197, .iconst 0, 198), (198, .iconst 0, 199), (199, .iconst 5, 200), (200, .invokevirtual 81, 203), (203, .aload_n 0, 204), (204, .iconst 1, 205), (205, .iconst 0, 206), (206, .iconst 1, 207), (207, .iconst 5, 208), (208, .invokevirtual 81, 211), (211, .aload_n 0, 212), (212, .iconst 2, 213), (213, .iconst 3, 214), (214, .iconst 0, 215), (215, .iconst 1, 216), (216, .invokevirtual 81, 219), (219, .aload_n 0, 220), (220, .iconst 3, 221), (221, .iconst 2, 222), (222, .iconst 0, 223), (223, .iconst 1, 224), (224, .invokevirtual 81, 227), (227, .aload_n 0, 228), (228, .iconst 4, 229), (229, .iconst 1, 230), (230, .iconst 0, 231), (231, .bipush 7, 233), (233, .invokevirtual 81, 236), (236, .aload_n 0, 237), (237, .iconst 4, 238), (238, .putfield 85, 241), (241, .aload_n 0, 242), (242, .iconst 0, 243), (243, .iconst 0, 244), (244, .iconst 1, 245), (245, .bipush 9, 247), (247, .iconst 0, 248), (248, .invokevirtual 88, 251), (251, .aload_n 0, 252), (252, .iconst 0, 253), (253, .iconst 4, 254), (254, .iconst 1, 255), (255, .iconst 0, 256), (256, .invokevirtual 92, 259), (259, .aload_n 0, 260), (260, .iconst 1, 261), (261, .iconst 1, 262), (262, .iconst 2, 263), (263, .iconst 0, 264), (264, .iconst 1, 265), (265, .invokevirtual 88, 268), (268, .aload_n 0, 269), (269, .iconst 1, 270), (270, .iconst 2, 271), (271, .iconst 0, 272), (272, .iconst 1, 273), (273, .invokevirtual 92, 276), (276, .aload_n 0, 277), (277, .iconst 2, 278), (278, .iconst 2, 279), (279, .iconst 1, 280), (280, .bipush 9, 282), (282, .iconst 0, 283), (283, .invokevirtual 88, 286), (286, .aload_n 0, 287), (287, .iconst 2, 288), (288, .iconst 4, 289), (289, .iconst 1, 290), (290, .iconst 0, 291), (291, .invokevirtual 92, 294), (294, .aload_n 0, 295), (295, .iconst 3, 296), (296, .iconst 1, 297), (297, .iconst 3, 298), (298, .iconst 2, 299), (299, .iconst 0, 300), (300, .invokevirtual 88, 303), (303, .aload_n 0, 304), (304, .iconst 3, 305), (305, .iconst 0, 306), (306, .iconst 0, 307), (307, .iconst 0, 308), (308, .invokevirtual 92, 311), (311, .aload_n 0, 312), (312, .invokevirtual 95, 315), (315, .return_, 316)]
def K_X10_init : mm_K := ((yX10_init, cX10_init, 1, none, RX10), (1, 25, 10), (il_X10_init, [], fl_X10, ml_X10))
set_option maxRecDepth 100000 in
theorem ok_X10_init : mm_KO K_X10_init := ⟨by decide +kernel, fq_X10, mq_X10⟩
theorem mo_X10_init : mm_MO K_X10_init := ⟨tb_in 968 (by decide +kernel) (by decide +kernel), (fun r h => by cases h; rfl), by decide +kernel, rfl⟩
def il_X10_compares : List mm_I := [(0, .aload_n 0, 1), (1, .getfield 16, 4), (4, .iconst 3, 5), (5, .iload_n 1, 6), (6, .imul, 7), (7, .iload_n 2, 8), (8, .iastore, 9), (9, .aload_n 0, 10), (10, .getfield 16, 13), (13, .iconst 3, 14), (14, .iload_n 1, 15), (15, .imul, 16), (16, .iconst 1, 17), (17, .iadd, 18), (18, .iload_n 3, 19), (19, .iastore, 20), (20, .aload_n 0, 21), (21, .getfield 16, 24), (24, .iconst 3, 25), (25, .iload_n 1, 26), (26, .imul, 27), (27, .iconst 2, 28), (28, .iadd, 29), (29, .iload 4, 31), (31, .iastore, 32), (32, .return_, 33)]
def K_X10_compares : mm_K := ((yX10_compares, cX10_compares, 5, none, RX10), (0, 0, 10), (il_X10_compares, [], fl_X10, ml_X10))
set_option maxRecDepth 100000 in
theorem ok_X10_compares : mm_KO K_X10_compares := ⟨by decide +kernel, fq_X10, mq_X10⟩
theorem mo_X10_compares : mm_MO K_X10_compares := ⟨tb_in 973 (by decide +kernel) (by decide +kernel), (fun r h => by cases h; rfl), by decide +kernel, rfl⟩
def il_X10_joins : List mm_I := [(0, .aload_n 0, 1), (1, .getfield 19, 4), (4, .bipush 7, 6), (6, .iload_n 1, 7), (7, .imul, 8), (8, .iload_n 2, 9), (9, .iastore, 10), (10, .aload_n 0, 11), (11, .getfield 19, 14), (14, .bipush 7, 16), (16, .iload_n 1, 17), (17, .imul, 18), (18, .iconst 1, 19), (19, .iadd, 20), (20, .iload_n 3, 21), (21, .iastore, 22), (22, .aload_n 0, 23), (23, .getfield 19, 26), (26, .bipush 7, 28), (28, .iload_n 1, 29), (29, .imul, 30), (30, .iconst 2, 31), (31, .iadd, 32), (32, .iload 4, 34), (34, .iastore, 35), (35, .aload_n 0, 36), (36, .getfield 19, 39), (39, .bipush 7, 41), (41, .iload_n 1, 42), (42, .imul, 43), (43, .iconst 3, 44), (44, .iadd, 45), (45, .iload 5, 47), (47, .iastore, 48), (48, .return_, 49)]
def K_X10_joins : mm_K := ((yX10_joins, cX10_joins, 6, none, RX10), (0, 0, 10), (il_X10_joins, [], fl_X10, ml_X10))
set_option maxRecDepth 100000 in
theorem ok_X10_joins : mm_KO K_X10_joins := ⟨by decide +kernel, fq_X10, mq_X10⟩
theorem mo_X10_joins : mm_MO K_X10_joins := ⟨tb_in 977 (by decide +kernel) (by decide +kernel), (fun r h => by cases h; rfl), by decide +kernel, rfl⟩
def il_X10_acts : List mm_I := [(0, .aload_n 0, 1), (1, .getfield 19, 4), (4, .bipush 7, 6), (6, .iload_n 1, 7), (7, .imul, 8), (8, .iconst 4, 9), (9, .iadd, 10), (10, .iload_n 2, 11), (11, .iastore, 12), (12, .aload_n 0, 13), (13, .getfield 19, 16), (16, .bipush 7, 18), (18, .iload_n 1, 19), (19, .imul, 20), (20, .iconst 5, 21), (21, .iadd, 22), (22, .iload_n 3, 23), (23, .iastore, 24), (24, .aload_n 0, 25), (25, .getfield 19, 28), (28, .bipush 7, 30), (30, .iload_n 1, 31), (31, .imul, 32), (32, .bipush 6, 34), (34, .iadd, 35), (35, .iload 4, 37), (37, .iastore, 38), (38, .return_, 39)]
def K_X10_acts : mm_K := ((yX10_acts, cX10_acts, 5, none, RX10), (0, 0, 10), (il_X10_acts, [], fl_X10, ml_X10))
set_option maxRecDepth 100000 in
theorem ok_X10_acts : mm_KO K_X10_acts := ⟨by decide +kernel, fq_X10, mq_X10⟩
theorem mo_X10_acts : mm_MO K_X10_acts := ⟨tb_in 981 (by decide +kernel) (by decide +kernel), (fun r h => by cases h; rfl), by decide +kernel, rfl⟩
def il_X10_begins : List mm_I := [(0, .iconst 0, 1), (1, .istore_n 1, 2), (2, .iload_n 1, 3), (3, .bipush 8, 5), (5, .if_icmp .ge 16, 8), (8, .aload_n 0, 9), (9, .getfield 22, 12), (12, .iload_n 1, 13), (13, .iconst 0, 14), (14, .iastore, 15), (15, .iinc 1 1, 18), (18, .goto (-16), 21), (21, .iconst 0, 22), (22, .istore_n 1, 23), (23, .iload_n 1, 24), (24, .bipush 14, 26), (26, .if_icmp .ge 29, 29), (29, .aload_n 0, 30), (30, .getfield 22, 33), (33, .bipush 8, 35), (35, .iload_n 1, 36), (36, .iadd, 37), (37, .aload_n 0, 38), (38, .getfield 19, 41), (41, .bipush 7, 43), (43, .iload_n 1, 44), (44, .imul, 45), (45, .iconst 3, 46), (46, .iadd, 47), (47, .iaload, 48), (48, .iastore, 49), (49, .iinc 1 1, 52), (52, .goto (-29), 55), (55, .aload_n 0, 56), (56, .iconst 0, 57), (57, .putfield 98, 60), (60, .return_, 61)]
def K_X10_begins : mm_K := ((yX10_begins, cX10_begins, 2, none, RX10), (0, 0, 10), (il_X10_begins, [2, 21, 23, 55], fl_X10, ml_X10))
set_option maxRecDepth 100000 in
theorem ok_X10_begins : mm_KO K_X10_begins := ⟨by decide +kernel, fq_X10, mq_X10⟩
theorem mo_X10_begins : mm_MO K_X10_begins := ⟨tb_in 985 (by decide +kernel) (by decide +kernel), (fun r h => by cases h; rfl), by decide +kernel, rfl⟩
def il_X10_isIn : List mm_I := [(0, .iload_n 0, 1), (1, .iload_n 1, 2), (2, .if_icmp .lt 12, 5), (5, .iload_n 0, 6), (6, .iload_n 2, 7), (7, .if_icmp .gt 7, 10), (10, .iconst 1, 11), (11, .goto 4, 14), (14, .iconst 0, 15), (15, .ireturn, 16)]
def K_X10_isIn : mm_K := ((yX10_isIn, cX10_isIn, 3, (some .boolean), RX10), (0, 0, 10), (il_X10_isIn, [14, 15], fl_X10, ml_X10))
set_option maxRecDepth 100000 in
theorem ok_X10_isIn : mm_KO K_X10_isIn := ⟨by decide +kernel, fq_X10, mq_X10⟩
theorem mo_X10_isIn : mm_MO K_X10_isIn := ⟨tb_in 1119 (by decide +kernel) (by decide +kernel), (fun r h => by cases h; rfl), by decide +kernel, rfl⟩
def il_X10_figure : List mm_I := [(0, .iload_n 1, 1), (1, .aload_n 0, 2), (2, .getfield 101, 5), (5, .if_icmp .ge 31, 8), (8, .aload_n 0, 9), (9, .getfield 7, 12), (12, .iload_n 1, 13), (13, .iaload, 14), (14, .bipush 48, 16), (16, .bipush 57, 18), (18, .invokestatic 104, 21), (21, .ifCond .eq 15, 24), (24, .aload_n 0, 25), (25, .getfield 7, 28), (28, .iload_n 1, 29), (29, .iaload, 30), (30, .bipush 48, 32), (32, .isub, 33), (33, .goto 4, 36), (36, .iconst (-1), 37), (37, .ireturn, 38)]
def K_X10_figure : mm_K := ((yX10_figure, cX10_figure, 2, (some .int), RX10), (1, 22, 10), (il_X10_figure, [36, 37], fl_X10, ml_X10))
set_option maxRecDepth 100000 in
theorem ok_X10_figure : mm_KO K_X10_figure := ⟨by decide +kernel, fq_X10, mq_X10⟩
theorem mo_X10_figure : mm_MO K_X10_figure := ⟨tb_in 1116 (by decide +kernel) (by decide +kernel), (fun r h => by cases h; rfl), by decide +kernel, rfl⟩
def il_X10_figuresOf : List mm_I := [(0, .iload_n 0, 1), (1, .bipush 112, 3), (3, .if_icmp .eq 9, 6), (6, .iload_n 0, 7), (7, .bipush 118, 9), (9, .if_icmp .ne 7, 12), (12, .iconst 2, 13), (13, .goto 25, 16), (16, .iload_n 0, 17), (17, .bipush 99, 19), (19, .if_icmp .ne 7, 22), (22, .iconst 3, 23), (23, .goto 15, 26), (26, .iload_n 0, 27), (27, .bipush 101, 29), (29, .if_icmp .ne 8, 32), (32, .bipush 7, 34), (34, .goto 4, 37), (37, .iconst 0, 38), (38, .ireturn, 39)]
def K_X10_figuresOf : mm_K := ((yX10_figuresOf, cX10_figuresOf, 1, (some .int), RX10), (0, 0, 10), (il_X10_figuresOf, [12, 16, 26, 37, 38], fl_X10, ml_X10))
set_option maxRecDepth 100000 in
theorem ok_X10_figuresOf : mm_KO K_X10_figuresOf := ⟨by decide +kernel, fq_X10, mq_X10⟩
theorem mo_X10_figuresOf : mm_MO K_X10_figuresOf := ⟨tb_in 1108 (by decide +kernel) (by decide +kernel), (fun r h => by cases h; rfl), by decide +kernel, rfl⟩
def il_X10_readsPlaces : List mm_I := [(0, .iload_n 1, 1), (1, .iconst 1, 2), (2, .if_icmp .ne 32, 5), (5, .aload_n 0, 6), (6, .iload_n 1, 7), (7, .invokevirtual 108, 10), (10, .iconst 2, 11), (11, .bipush 8, 13), (13, .invokestatic 104, 16), (16, .ifCond .eq 18, 19), (19, .aload_n 0, 20), (20, .iload_n 1, 21), (21, .iconst 1, 22), (22, .iadd, 23), (23, .invokevirtual 108, 26), (26, .aload_n 0, 27), (27, .iload_n 1, 28), (28, .invokevirtual 108, 31), (31, .if_icmp .lt 5, 34), (34, .iconst 0, 35), (35, .ireturn, 36), (36, .aload_n 0, 37), (37, .aload_n 0, 38), (38, .iload_n 1, 39), (39, .invokevirtual 108, 42), (42, .putfield 112, 45), (45, .aload_n 0, 46), (46, .aload_n 0, 47), (47, .iload_n 1, 48), (48, .iconst 1, 49), (49, .iadd, 50), (50, .invokevirtual 108, 53), (53, .putfield 115, 56), (56, .iconst 1, 57), (57, .ireturn, 58)]
def K_X10_readsPlaces : mm_K := ((yX10_readsPlaces, cX10_readsPlaces, 2, (some .boolean), RX10), (2, 43, 10), (il_X10_readsPlaces, [34, 36], fl_X10, ml_X10))
set_option maxRecDepth 100000 in
theorem ok_X10_readsPlaces : mm_KO K_X10_readsPlaces := ⟨by decide +kernel, fq_X10, mq_X10⟩
theorem mo_X10_readsPlaces : mm_MO K_X10_readsPlaces := ⟨tb_in 1123 (by decide +kernel) (by decide +kernel), (fun r h => by cases h; rfl), by decide +kernel, rfl⟩
def il_X10_readsVariable : List mm_I := [(0, .aload_n 0, 1), (1, .getfield 118, 4), (4, .iconst 3, 5), (5, .if_icmp .eq 30, 8), (8, .aload_n 0, 9), (9, .iload_n 1, 10), (10, .invokevirtual 108, 13), (13, .aload_n 0, 14), (14, .iload_n 1, 15), (15, .iconst 1, 16), (16, .iadd, 17), (17, .invokevirtual 108, 20), (20, .if_icmp .gt 15, 23), (23, .aload_n 0, 24), (24, .iload_n 1, 25), (25, .iconst 1, 26), (26, .iadd, 27), (27, .invokevirtual 108, 30), (30, .bipush 7, 32), (32, .if_icmp .le 5, 35), (35, .iconst 0, 36), (36, .ireturn, 37), (37, .aload_n 0, 38), (38, .getfield 28, 41), (41, .iconst 2, 42), (42, .aload_n 0, 43), (43, .getfield 118, 46), (46, .imul, 47), (47, .aload_n 0, 48), (48, .iload_n 1, 49), (49, .invokevirtual 108, 52), (52, .iastore, 53), (53, .aload_n 0, 54), (54, .getfield 28, 57), (57, .iconst 2, 58), (58, .aload_n 0, 59), (59, .getfield 118, 62), (62, .imul, 63), (63, .iconst 1, 64), (64, .iadd, 65), (65, .aload_n 0, 66), (66, .iload_n 1, 67), (67, .iconst 1, 68), (68, .iadd, 69), (69, .invokevirtual 108, 72), (72, .iastore, 73), (73, .aload_n 0, 74), (74, .dup, 75), (75, .getfield 118, 78), (78, .iconst 1, 79), (79, .iadd, 80), (80, .putfield 118, 83), (83, .iconst 1, 84), (84, .ireturn, 85)]
def K_X10_readsVariable : mm_K := ((yX10_readsVariable, cX10_readsVariable, 2, (some .boolean), RX10), (2, 43, 10), (il_X10_readsVariable, [35, 37], fl_X10, ml_X10))
set_option maxRecDepth 100000 in
theorem ok_X10_readsVariable : mm_KO K_X10_readsVariable := ⟨by decide +kernel, fq_X10, mq_X10⟩
theorem mo_X10_readsVariable : mm_MO K_X10_readsVariable := ⟨tb_in 1127 (by decide +kernel) (by decide +kernel), (fun r h => by cases h; rfl), by decide +kernel, rfl⟩
def il_X10_readsComparison : List mm_I := [(0, .aload_n 0, 1), (1, .iload_n 1, 2), (2, .invokevirtual 108, 5), (5, .istore_n 2, 6), (6, .aload_n 0, 7), (7, .getfield 121, 10), (10, .bipush 8, 12), (12, .if_icmp .eq 41, 15), (15, .iload_n 2, 16), (16, .iconst 4, 17), (17, .if_icmp .gt 36, 20), (20, .aload_n 0, 21), (21, .iload_n 1, 22), (22, .iconst 1, 23), (23, .iadd, 24), (24, .invokevirtual 108, 27), (27, .aload_n 0, 28), (28, .getfield 118, 31), (31, .if_icmp .ge 22, 34), (34, .iload_n 2, 35), (35, .iconst 1, 36), (36, .if_icmp .le 19, 39), (39, .aload_n 0, 40), (40, .iload_n 1, 41), (41, .iconst 2, 42), (42, .iadd, 43), (43, .invokevirtual 108, 46), (46, .aload_n 0, 47), (47, .getfield 118, 50), (50, .if_icmp .lt 5, 53), (53, .iconst 0, 54), (54, .ireturn, 55), (55, .iconst 0, 56), (56, .istore_n 3, 57), (57, .iload_n 3, 58), (58, .iconst 3, 59), (59, .if_icmp .ge 29, 62), (62, .aload_n 0, 63), (63, .getfield 31, 66), (66, .iconst 3, 67), (67, .aload_n 0, 68), (68, .getfield 121, 71), (71, .imul, 72), (72, .iload_n 3, 73), (73, .iadd, 74), (74, .aload_n 0, 75), (75, .iload_n 1, 76), (76, .iload_n 3, 77), (77, .iadd, 78), (78, .invokevirtual 108, 81), (81, .iastore, 82), (82, .iinc 3 1, 85), (85, .goto (-28), 88), (88, .aload_n 0, 89), (89, .dup, 90), (90, .getfield 121, 93), (93, .iconst 1, 94), (94, .iadd, 95), (95, .putfield 121, 98), (98, .iconst 1, 99), (99, .ireturn, 100)]
def K_X10_readsComparison : mm_K := ((yX10_readsComparison, cX10_readsComparison, 4, (some .boolean), RX10), (2, 43, 10), (il_X10_readsComparison, [53, 55, 57, 88], fl_X10, ml_X10))
set_option maxRecDepth 100000 in
theorem ok_X10_readsComparison : mm_KO K_X10_readsComparison := ⟨by decide +kernel, fq_X10, mq_X10⟩
theorem mo_X10_readsComparison : mm_MO K_X10_readsComparison := ⟨tb_in 1131 (by decide +kernel) (by decide +kernel), (fun r h => by cases h; rfl), by decide +kernel, rfl⟩
def il_X10_readsEdge : List mm_I := [(0, .aload_n 0, 1), (1, .iload_n 1, 2), (2, .iconst 2, 3), (3, .iadd, 4), (4, .invokevirtual 108, 7), (7, .istore_n 2, 8), (8, .aload_n 0, 9), (9, .iload_n 1, 10), (10, .iconst 4, 11), (11, .iadd, 12), (12, .invokevirtual 108, 15), (15, .istore_n 3, 16), (16, .aload_n 0, 17), (17, .iload_n 1, 18), (18, .iconst 5, 19), (19, .iadd, 20), (20, .invokevirtual 108, 23), (23, .istore 4, 25), (25, .aload_n 0, 26), (26, .iload_n 1, 27), (27, .bipush 6, 29), (29, .iadd, 30), (30, .invokevirtual 108, 33), (33, .istore 5, 35), (35, .aload_n 0, 36), (36, .getfield 124, 39), (39, .bipush 14, 41), (41, .if_icmp .ge 64, 44), (44, .aload_n 0, 45), (45, .iload_n 1, 46), (46, .invokevirtual 108, 49), (49, .aload_n 0, 50), (50, .getfield 112, 53), (53, .if_icmp .ge 52, 56), (56, .aload_n 0, 57), (57, .iload_n 1, 58), (58, .iconst 1, 59), (59, .iadd, 60), (60, .invokevirtual 108, 63), (63, .aload_n 0, 64), (64, .getfield 112, 67), (67, .if_icmp .ge 38, 70), (70, .iload_n 2, 71), (71, .bipush 9, 73), (73, .if_icmp .eq 11, 76), (76, .iload_n 2, 77), (77, .aload_n 0, 78), (78, .getfield 121, 81), (81, .if_icmp .ge 24, 84), (84, .aload_n 0, 85), (85, .iload_n 1, 86), (86, .iconst 3, 87), (87, .iadd, 88), (88, .invokevirtual 108, 91), (91, .iconst 2, 92), (92, .if_icmp .ge 13, 95), (95, .iload_n 3, 96), (96, .bipush 6, 98), (98, .if_icmp .ge 7, 101), (101, .iconst 1, 102), (102, .goto 4, 105), (105, .iconst 0, 106), (106, .istore 6, 108), (108, .iload 6, 110), (110, .ifCond .eq 46, 113), (113, .iload_n 3, 114), (114, .ifCond .eq 12, 117), (117, .iload 4, 119), (119, .aload_n 0, 120), (120, .getfield 118, 123), (123, .if_icmp .ge 33, 126), (126, .iload_n 3, 127), (127, .iconst 1, 128), (128, .if_icmp .ne 10, 131), (131, .iload 5, 133), (133, .bipush 8, 135), (135, .if_icmp .ge 21, 138), (138, .iload_n 3, 139), (139, .iconst 4, 140), (140, .if_icmp .lt 12, 143), (143, .iload 5, 145), (145, .aload_n 0, 146), (146, .getfield 118, 149), (149, .if_icmp .ge 7, 152), (152, .iconst 1, 153), (153, .goto 4, 156), (156, .iconst 0, 157), (157, .istore 6, 159), (159, .iconst 0, 160), (160, .istore 7, 162), (162, .iload 7, 164), (164, .bipush 7, 166), (166, .if_icmp .ge 37, 169), (169, .iload 6, 171), (171, .ifCond .eq 32, 174), (174, .aload_n 0, 175), (175, .getfield 34, 178), (178, .bipush 7, 180), (180, .aload_n 0, 181), (181, .getfield 124, 184), (184, .imul, 185), (185, .iload 7, 187), (187, .iadd, 188), (188, .aload_n 0, 189), (189, .iload_n 1, 190), (190, .iload 7, 192), (192, .iadd, 193), (193, .invokevirtual 108, 196), (196, .iastore, 197), (197, .iinc 7 1, 200), (200, .goto (-38), 203), (203, .aload_n 0, 204), (204, .dup, 205), (205, .getfield 124, 208), (208, .iload 6, 210), (210, .ifCond .eq 7, 213), (213, .iconst 1, 214), (214, .goto 4, 217), (217, .iconst 0, 218), (218, .iadd, 219), (219, .putfield 124, 222), (222, .iload 6, 224), (224, .ireturn, 225)]
def K_X10_readsEdge : mm_K := ((yX10_readsEdge, cX10_readsEdge, 8, (some .boolean), RX10), (2, 43, 10), (il_X10_readsEdge, [84, 105, 106, 126, 138, 152, 156, 157, 162, 203, 217, 218], fl_X10, ml_X10))
set_option maxRecDepth 100000 in
theorem ok_X10_readsEdge : mm_KO K_X10_readsEdge := ⟨by decide +kernel, fq_X10, mq_X10⟩
theorem mo_X10_readsEdge : mm_MO K_X10_readsEdge := ⟨tb_in 1135 (by decide +kernel) (by decide +kernel), (fun r h => by cases h; rfl), by decide +kernel, rfl⟩
def il_X10_readsItem : List mm_I := [(0, .iload_n 1, 1), (1, .invokestatic 127, 4), (4, .istore_n 3, 5), (5, .iload_n 3, 6), (6, .ifCond .le 20, 9), (9, .iload_n 1, 10), (10, .bipush 112, 12), (12, .if_icmp .eq 10, 15), (15, .aload_n 0, 16), (16, .getfield 112, 19), (19, .ifCond .le 7, 22), (22, .iconst 1, 23), (23, .goto 4, 26), (26, .iconst 0, 27), (27, .istore 4, 29), (29, .iconst 0, 30), (30, .istore 5, 32), (32, .iload 5, 34), (34, .iload_n 3, 35), (35, .if_icmp .ge 32, 38), (38, .iload 4, 40), (40, .ifCond .eq 18, 43), (43, .aload_n 0, 44), (44, .iload_n 2, 45), (45, .iload 5, 47), (47, .iadd, 48), (48, .invokevirtual 108, 51), (51, .ifCond .lt 7, 54), (54, .iconst 1, 55), (55, .goto 4, 58), (58, .iconst 0, 59), (59, .istore 4, 61), (61, .iinc 5 1, 64), (64, .goto (-32), 67), (67, .iload 4, 69), (69, .ifCond .ne 5, 72), (72, .iconst 0, 73), (73, .ireturn, 74), (74, .iload_n 1, 75), (75, .lookupswitch 51 #[(99, 45), (112, 33), (118, 39)], 108), (108, .aload_n 0, 109), (109, .iload_n 2, 110), (110, .invokevirtual 130, 113), (113, .ireturn, 114), (114, .aload_n 0, 115), (115, .iload_n 2, 116), (116, .invokevirtual 134, 119), (119, .ireturn, 120), (120, .aload_n 0, 121), (121, .iload_n 2, 122), (122, .invokevirtual 137, 125), (125, .ireturn, 126), (126, .aload_n 0, 127), (127, .iload_n 2, 128), (128, .invokevirtual 140, 131), (131, .ireturn, 132)]
def K_X10_readsItem : mm_K := ((yX10_readsItem, cX10_readsItem, 6, (some .boolean), RX10), (3, 70, 10), (il_X10_readsItem, [22, 26, 27, 32, 58, 59, 67, 74], fl_X10, ml_X10))
set_option maxRecDepth 100000 in
theorem ok_X10_readsItem : mm_KO K_X10_readsItem := ⟨by decide +kernel, fq_X10, mq_X10⟩
theorem mo_X10_readsItem : mm_MO K_X10_readsItem := ⟨tb_in 1112 (by decide +kernel) (by decide +kernel), (fun r h => by cases h; rfl), by decide +kernel, rfl⟩
def il_X10_reads : List mm_I := [(0, .aload_n 0, 1), (1, .iconst 0, 2), (2, .putfield 112, 5), (5, .aload_n 0, 6), (6, .iconst 0, 7), (7, .putfield 118, 10), (10, .aload_n 0, 11), (11, .iconst 0, 12), (12, .putfield 121, 15), (15, .aload_n 0, 16), (16, .iconst 0, 17), (17, .putfield 124, 20), (20, .iconst 0, 21), (21, .istore_n 1, 22), (22, .iload_n 1, 23), (23, .aload_n 0, 24), (24, .getfield 101, 27), (27, .if_icmp .ge 61, 30), (30, .iload_n 1, 31), (31, .iconst 1, 32), (32, .iadd, 33), (33, .aload_n 0, 34), (34, .getfield 7, 37), (37, .iload_n 1, 38), (38, .iaload, 39), (39, .invokestatic 127, 42), (42, .iadd, 43), (43, .istore_n 2, 44), (44, .aload_n 0, 45), (45, .aload_n 0, 46), (46, .getfield 7, 49), (49, .iload_n 1, 50), (50, .iaload, 51), (51, .iload_n 1, 52), (52, .iconst 1, 53), (53, .iadd, 54), (54, .invokevirtual 143, 57), (57, .ifCond .eq 22, 60), (60, .iload_n 2, 61), (61, .aload_n 0, 62), (62, .getfield 101, 65), (65, .if_icmp .ge 14, 68), (68, .aload_n 0, 69), (69, .getfield 7, 72), (72, .iload_n 2, 73), (73, .iaload, 74), (74, .bipush 59, 76), (76, .if_icmp .eq 5, 79), (79, .iload_n 1, 80), (80, .ireturn, 81), (81, .iload_n 2, 82), (82, .iconst 1, 83), (83, .iadd, 84), (84, .istore_n 1, 85), (85, .goto (-63), 88), (88, .bipush (-4), 90), (90, .ireturn, 91)]
def K_X10_reads : mm_K := ((yX10_reads, cX10_reads, 3, (some .int), RX10), (4, 95, 10), (il_X10_reads, [22, 79, 81, 88], fl_X10, ml_X10))
set_option maxRecDepth 100000 in
theorem ok_X10_reads : mm_KO K_X10_reads := ⟨by decide +kernel, fq_X10, mq_X10⟩
theorem mo_X10_reads : mm_MO K_X10_reads := ⟨tb_in 1105 (by decide +kernel) (by decide +kernel), (fun r h => by cases h; rfl), by decide +kernel, rfl⟩
def il_X10_write : List mm_I := [(0, .iload_n 1, 1), (1, .bipush 32, 3), (3, .if_icmp .lt 9, 6), (6, .iload_n 1, 7), (7, .bipush 126, 9), (9, .if_icmp .le 5, 12), (12, .iconst (-1), 13), (13, .ireturn, 14), (14, .aload_n 0, 15), (15, .getfield 101, 18), (18, .sipush 200, 21), (21, .if_icmp .ne 6, 24), (24, .bipush (-3), 26), (26, .ireturn, 27), (27, .aload_n 0, 28), (28, .getfield 7, 31), (31, .aload_n 0, 32), (32, .getfield 101, 35), (35, .iload_n 1, 36), (36, .iastore, 37), (37, .aload_n 0, 38), (38, .dup, 39), (39, .getfield 101, 42), (42, .iconst 1, 43), (43, .iadd, 44), (44, .putfield 101, 47), (47, .aload_n 0, 48), (48, .getfield 101, 51), (51, .ireturn, 52)]
def K_X10_write : mm_K := ((yX10_write, cX10_write, 2, (some .int), RX10), (0, 0, 10), (il_X10_write, [12, 14, 27], fl_X10, ml_X10))
set_option maxRecDepth 100000 in
theorem ok_X10_write : mm_KO K_X10_write := ⟨by decide +kernel, fq_X10, mq_X10⟩
theorem mo_X10_write : mm_MO K_X10_write := ⟨tb_in 1093 (by decide +kernel) (by decide +kernel), (fun r h => by cases h; rfl), by decide +kernel, rfl⟩
def il_X10_wipe : List mm_I := [(0, .aload_n 0, 1), (1, .getfield 101, 4), (4, .istore_n 1, 5), (5, .aload_n 0, 6), (6, .iconst 0, 7), (7, .putfield 101, 10), (10, .iload_n 1, 11), (11, .ireturn, 12)]
def K_X10_wipe : mm_K := ((yX10_wipe, cX10_wipe, 2, (some .int), RX10), (0, 0, 10), (il_X10_wipe, [], fl_X10, ml_X10))
set_option maxRecDepth 100000 in
theorem ok_X10_wipe : mm_KO K_X10_wipe := ⟨by decide +kernel, fq_X10, mq_X10⟩
theorem mo_X10_wipe : mm_MO K_X10_wipe := ⟨tb_in 1097 (by decide +kernel) (by decide +kernel), (fun r h => by cases h; rfl), by decide +kernel, rfl⟩
def il_X10_fault : List mm_I := [(0, .aload_n 0, 1), (1, .invokevirtual 147, 4), (4, .ireturn, 5)]
def K_X10_fault : mm_K := ((yX10_fault, cX10_fault, 1, (some .int), RX10), (5, 117, 10), (il_X10_fault, [], fl_X10, ml_X10))
set_option maxRecDepth 100000 in
theorem ok_X10_fault : mm_KO K_X10_fault := ⟨by decide +kernel, fq_X10, mq_X10⟩
theorem mo_X10_fault : mm_MO K_X10_fault := ⟨tb_in 1101 (by decide +kernel) (by decide +kernel), (fun r h => by cases h; rfl), by decide +kernel, rfl⟩
def il_X10_lay : List mm_I := [(0, .aload_n 0, 1), (1, .invokevirtual 147, 4), (4, .bipush (-4), 6), (6, .if_icmp .ne 10, 9), (9, .aload_n 0, 10), (10, .getfield 112, 13), (13, .ifCond .ne 6, 16), (16, .bipush (-2), 18), (18, .ireturn, 19), (19, .aload_n 0, 20), (20, .aload_n 0, 21), (21, .getfield 112, 24), (24, .putfield 68, 27), (27, .aload_n 0, 28), (28, .aload_n 0, 29), (29, .getfield 115, 32), (32, .putfield 72, 35), (35, .aload_n 0, 36), (36, .aload_n 0, 37), (37, .getfield 118, 40), (40, .putfield 75, 43), (43, .aload_n 0, 44), (44, .aload_n 0, 45), (45, .getfield 121, 48), (48, .putfield 78, 51), (51, .aload_n 0, 52), (52, .aload_n 0, 53), (53, .getfield 124, 56), (56, .putfield 85, 59), (59, .iconst 0, 60), (60, .istore_n 1, 61), (61, .iload_n 1, 62), (62, .bipush 98, 64), (64, .if_icmp .ge 57, 67), (67, .aload_n 0, 68), (68, .getfield 19, 71), (71, .iload_n 1, 72), (72, .aload_n 0, 73), (73, .getfield 34, 76), (76, .iload_n 1, 77), (77, .iaload, 78), (78, .iastore, 79), (79, .iload_n 1, 80), (80, .bipush 24, 82), (82, .if_icmp .ge 15, 85), (85, .aload_n 0, 86), (86, .getfield 16, 89), (89, .iload_n 1, 90), (90, .aload_n 0, 91), (91, .getfield 31, 94), (94, .iload_n 1, 95), (95, .iaload, 96), (96, .iastore, 97), (97, .iload_n 1, 98), (98, .bipush 6, 100), (100, .if_icmp .ge 15, 103), (103, .aload_n 0, 104), (104, .getfield 13, 107), (107, .iload_n 1, 108), (108, .aload_n 0, 109), (109, .getfield 28, 112), (112, .iload_n 1, 113), (113, .iaload, 114), (114, .iastore, 115), (115, .iinc 1 1, 118), (118, .goto (-57), 121), (121, .aload_n 0, 122), (122, .invokevirtual 95, 125), (125, .aload_n 0, 126), (126, .getfield 68, 129), (129, .ireturn, 130)]
def K_X10_lay : mm_K := ((yX10_lay, cX10_lay, 2, (some .int), RX10), (5, 117, 10), (il_X10_lay, [16, 19, 61, 97, 115, 121], fl_X10, ml_X10))
set_option maxRecDepth 100000 in
theorem ok_X10_lay : mm_KO K_X10_lay := ⟨by decide +kernel, fq_X10, mq_X10⟩
theorem mo_X10_lay : mm_MO K_X10_lay := ⟨tb_in 1139 (by decide +kernel) (by decide +kernel), (fun r h => by cases h; rfl), by decide +kernel, rfl⟩
def il_X10_isPlace : List mm_I := [(0, .iload_n 1, 1), (1, .iconst 0, 2), (2, .aload_n 0, 3), (3, .getfield 68, 6), (6, .iconst 1, 7), (7, .isub, 8), (8, .invokestatic 104, 11), (11, .ireturn, 12)]
def K_X10_isPlace : mm_K := ((yX10_isPlace, cX10_isPlace, 2, (some .boolean), RX10), (1, 22, 10), (il_X10_isPlace, [], fl_X10, ml_X10))
set_option maxRecDepth 100000 in
theorem ok_X10_isPlace : mm_KO K_X10_isPlace := ⟨by decide +kernel, fq_X10, mq_X10⟩
theorem mo_X10_isPlace : mm_MO K_X10_isPlace := ⟨tb_in 1193 (by decide +kernel) (by decide +kernel), (fun r h => by cases h; rfl), by decide +kernel, rfl⟩
def il_X10_isComparison : List mm_I := [(0, .iload_n 1, 1), (1, .iconst 0, 2), (2, .aload_n 0, 3), (3, .getfield 78, 6), (6, .iconst 1, 7), (7, .isub, 8), (8, .invokestatic 104, 11), (11, .ireturn, 12)]
def K_X10_isComparison : mm_K := ((yX10_isComparison, cX10_isComparison, 2, (some .boolean), RX10), (1, 22, 10), (il_X10_isComparison, [], fl_X10, ml_X10))
set_option maxRecDepth 100000 in
theorem ok_X10_isComparison : mm_KO K_X10_isComparison := ⟨by decide +kernel, fq_X10, mq_X10⟩
theorem mo_X10_isComparison : mm_MO K_X10_isComparison := ⟨tb_in 1155 (by decide +kernel) (by decide +kernel), (fun r h => by cases h; rfl), by decide +kernel, rfl⟩
def il_X10_isEdge : List mm_I := [(0, .iload_n 1, 1), (1, .iconst 0, 2), (2, .aload_n 0, 3), (3, .getfield 85, 6), (6, .iconst 1, 7), (7, .isub, 8), (8, .invokestatic 104, 11), (11, .ireturn, 12)]
def K_X10_isEdge : mm_K := ((yX10_isEdge, cX10_isEdge, 2, (some .boolean), RX10), (1, 22, 10), (il_X10_isEdge, [], fl_X10, ml_X10))
set_option maxRecDepth 100000 in
theorem ok_X10_isEdge : mm_KO K_X10_isEdge := ⟨by decide +kernel, fq_X10, mq_X10⟩
theorem mo_X10_isEdge : mm_MO K_X10_isEdge := ⟨tb_in 1147 (by decide +kernel) (by decide +kernel), (fun r h => by cases h; rfl), by decide +kernel, rfl⟩
def il_X10_areValues : List mm_I := [(0, .iload_n 0, 1), (1, .iconst 0, 2), (2, .bipush 7, 4), (4, .invokestatic 104, 7), (7, .ifCond .eq 27, 10), (10, .iload_n 1, 11), (11, .iconst 0, 12), (12, .bipush 7, 14), (14, .invokestatic 104, 17), (17, .ifCond .eq 17, 20), (20, .iload_n 2, 21), (21, .iconst 0, 22), (22, .bipush 7, 24), (24, .invokestatic 104, 27), (27, .ifCond .eq 7, 30), (30, .iconst 1, 31), (31, .goto 4, 34), (34, .iconst 0, 35), (35, .ireturn, 36)]
def K_X10_areValues : mm_K := ((yX10_areValues, cX10_areValues, 3, (some .boolean), RX10), (1, 22, 10), (il_X10_areValues, [34, 35], fl_X10, ml_X10))
set_option maxRecDepth 100000 in
theorem ok_X10_areValues : mm_KO K_X10_areValues := ⟨by decide +kernel, fq_X10, mq_X10⟩
theorem mo_X10_areValues : mm_MO K_X10_areValues := ⟨tb_in 1158 (by decide +kernel) (by decide +kernel), (fun r h => by cases h; rfl), by decide +kernel, rfl⟩
def il_X10_value : List mm_I := [(0, .iload_n 0, 1), (1, .bipush 6, 3), (3, .iconst 3, 4), (4, .iload_n 1, 5), (5, .imul, 6), (6, .isub, 7), (7, .ishr, 8), (8, .bipush 7, 10), (10, .iand, 11), (11, .ireturn, 12)]
def K_X10_value : mm_K := ((yX10_value, cX10_value, 2, (some .int), RX10), (0, 0, 10), (il_X10_value, [], fl_X10, ml_X10))
set_option maxRecDepth 100000 in
theorem ok_X10_value : mm_KO K_X10_value := ⟨by decide +kernel, fq_X10, mq_X10⟩
theorem mo_X10_value : mm_MO K_X10_value := ⟨tb_in 1165 (by decide +kernel) (by decide +kernel), (fun r h => by cases h; rfl), by decide +kernel, rfl⟩
def il_X10_isThere : List mm_I := [(0, .aload_n 0, 1), (1, .getfield 75, 4), (4, .ifCond .gt 11, 7), (7, .iload_n 1, 8), (8, .iconst 0, 9), (9, .invokestatic 151, 12), (12, .ifCond .ne 39, 15), (15, .aload_n 0, 16), (16, .getfield 75, 19), (19, .iconst 1, 20), (20, .if_icmp .gt 11, 23), (23, .iload_n 1, 24), (24, .iconst 1, 25), (25, .invokestatic 151, 28), (28, .ifCond .ne 23, 31), (31, .aload_n 0, 32), (32, .getfield 75, 35), (35, .iconst 2, 36), (36, .if_icmp .gt 11, 39), (39, .iload_n 1, 40), (40, .iconst 2, 41), (41, .invokestatic 151, 44), (44, .ifCond .ne 7, 47), (47, .iconst 1, 48), (48, .goto 4, 51), (51, .iconst 0, 52), (52, .ireturn, 53)]
def K_X10_isThere : mm_K := ((yX10_isThere, cX10_isThere, 2, (some .boolean), RX10), (1, 21, 10), (il_X10_isThere, [15, 31, 47, 51, 52], fl_X10, ml_X10))
set_option maxRecDepth 100000 in
theorem ok_X10_isThere : mm_KO K_X10_isThere := ⟨by decide +kernel, fq_X10, mq_X10⟩
theorem mo_X10_isThere : mm_MO K_X10_isThere := ⟨tb_in 1216 (by decide +kernel) (by decide +kernel), (fun r h => by cases h; rfl), by decide +kernel, rfl⟩
def il_X10_isFirst : List mm_I := [(0, .aload_n 0, 1), (1, .iload_n 1, 2), (2, .invokevirtual 155, 5), (5, .istore_n 2, 6), (6, .iconst 0, 7), (7, .istore_n 3, 8), (8, .iload_n 3, 9), (9, .aload_n 0, 10), (10, .getfield 75, 13), (13, .if_icmp .ge 48, 16), (16, .iload_n 2, 17), (17, .ifCond .eq 36, 20), (20, .iload_n 1, 21), (21, .iload_n 3, 22), (22, .invokestatic 151, 25), (25, .aload_n 0, 26), (26, .getfield 13, 29), (29, .iconst 2, 30), (30, .iload_n 3, 31), (31, .imul, 32), (32, .iaload, 33), (33, .aload_n 0, 34), (34, .getfield 13, 37), (37, .iconst 2, 38), (38, .iload_n 3, 39), (39, .imul, 40), (40, .iconst 1, 41), (41, .iadd, 42), (42, .iaload, 43), (43, .invokestatic 104, 46), (46, .ifCond .eq 7, 49), (49, .iconst 1, 50), (50, .goto 4, 53), (53, .iconst 0, 54), (54, .istore_n 2, 55), (55, .iinc 3 1, 58), (58, .goto (-50), 61), (61, .iload_n 2, 62), (62, .ireturn, 63)]
def K_X10_isFirst : mm_K := ((yX10_isFirst, cX10_isFirst, 4, (some .boolean), RX10), (2, 42, 10), (il_X10_isFirst, [8, 53, 54, 61], fl_X10, ml_X10))
set_option maxRecDepth 100000 in
theorem ok_X10_isFirst : mm_KO K_X10_isFirst := ⟨by decide +kernel, fq_X10, mq_X10⟩
theorem mo_X10_isFirst : mm_MO K_X10_isFirst := ⟨tb_in 1212 (by decide +kernel) (by decide +kernel), (fun r h => by cases h; rfl), by decide +kernel, rfl⟩
def il_X10_isSo : List mm_I := [(0, .iload_n 2, 1), (1, .aload_n 0, 2), (2, .getfield 16, 5), (5, .iconst 3, 6), (6, .iload_n 1, 7), (7, .imul, 8), (8, .iconst 1, 9), (9, .iadd, 10), (10, .iaload, 11), (11, .invokestatic 151, 14), (14, .istore_n 3, 15), (15, .aload_n 0, 16), (16, .getfield 16, 19), (19, .iconst 3, 20), (20, .iload_n 1, 21), (21, .imul, 22), (22, .iconst 2, 23), (23, .iadd, 24), (24, .iaload, 25), (25, .istore 4, 27), (27, .aload_n 0, 28), (28, .getfield 16, 31), (31, .iconst 3, 32), (32, .iload_n 1, 33), (33, .imul, 34), (34, .iaload, 35), (35, .tableswitch 85 0 3 #[29, 41, 53, 69], 64), (64, .iload_n 3, 65), (65, .iload 4, 67), (67, .if_icmp .ge 7, 70), (70, .iconst 1, 71), (71, .goto 4, 74), (74, .iconst 0, 75), (75, .ireturn, 76), (76, .iload_n 3, 77), (77, .iload 4, 79), (79, .if_icmp .ne 7, 82), (82, .iconst 1, 83), (83, .goto 4, 86), (86, .iconst 0, 87), (87, .ireturn, 88), (88, .iload_n 3, 89), (89, .iload_n 2, 90), (90, .iload 4, 92), (92, .invokestatic 151, 95), (95, .if_icmp .ge 7, 98), (98, .iconst 1, 99), (99, .goto 4, 102), (102, .iconst 0, 103), (103, .ireturn, 104), (104, .iload_n 3, 105), (105, .iload_n 2, 106), (106, .iload 4, 108), (108, .invokestatic 151, 111), (111, .if_icmp .ne 7, 114), (114, .iconst 1, 115), (115, .goto 4, 118), (118, .iconst 0, 119), (119, .ireturn, 120), (120, .iload_n 3, 121), (121, .iload_n 2, 122), (122, .iload 4, 124), (124, .invokestatic 151, 127), (127, .iadd, 128), (128, .bipush 8, 130), (130, .if_icmp .ge 7, 133), (133, .iconst 1, 134), (134, .goto 4, 137), (137, .iconst 0, 138), (138, .ireturn, 139)]
def K_X10_isSo : mm_K := ((yX10_isSo, cX10_isSo, 5, (some .boolean), RX10), (1, 21, 10), (il_X10_isSo, [74, 75, 86, 87, 102, 103, 118, 119, 137, 138], fl_X10, ml_X10))
set_option maxRecDepth 100000 in
theorem ok_X10_isSo : mm_KO K_X10_isSo := ⟨by decide +kernel, fq_X10, mq_X10⟩
theorem mo_X10_isSo : mm_MO K_X10_isSo := ⟨tb_in 1162 (by decide +kernel) (by decide +kernel), (fun r h => by cases h; rfl), by decide +kernel, rfl⟩
def il_X10_goes : List mm_I := [(0, .aload_n 0, 1), (1, .getfield 19, 4), (4, .bipush 7, 6), (6, .iload_n 1, 7), (7, .imul, 8), (8, .iconst 2, 9), (9, .iadd, 10), (10, .iaload, 11), (11, .istore_n 3, 12), (12, .iload_n 3, 13), (13, .bipush 9, 15), (15, .if_icmp .ge 32, 18), (18, .aload_n 0, 19), (19, .iload_n 3, 20), (20, .iload_n 2, 21), (21, .invokevirtual 158, 24), (24, .aload_n 0, 25), (25, .getfield 22, 28), (28, .bipush 8, 30), (30, .iload_n 1, 31), (31, .iadd, 32), (32, .iaload, 33), (33, .iconst 1, 34), (34, .if_icmp .ne 7, 37), (37, .iconst 1, 38), (38, .goto 4, 41), (41, .iconst 0, 42), (42, .if_icmp .eq 5, 45), (45, .iconst (-1), 46), (46, .ireturn, 47), (47, .aload_n 0, 48), (48, .getfield 19, 51), (51, .bipush 7, 53), (53, .iload_n 1, 54), (54, .imul, 55), (55, .iconst 4, 56), (56, .iadd, 57), (57, .iaload, 58), (58, .istore 4, 60), (60, .iload 4, 62), (62, .ifCond .ne 5, 65), (65, .iload_n 2, 66), (66, .ireturn, 67), (67, .aload_n 0, 68), (68, .getfield 19, 71), (71, .bipush 7, 73), (73, .iload_n 1, 74), (74, .imul, 75), (75, .iconst 5, 76), (76, .iadd, 77), (77, .iaload, 78), (78, .istore 5, 80), (80, .aload_n 0, 81), (81, .getfield 19, 84), (84, .bipush 7, 86), (86, .iload_n 1, 87), (87, .imul, 88), (88, .bipush 6, 90), (90, .iadd, 91), (91, .iaload, 92), (92, .istore 6, 94), (94, .iload_n 2, 95), (95, .iload 5, 97), (97, .invokestatic 151, 100), (100, .istore 7, 102), (102, .iload 4, 104), (104, .iconst 1, 105), (105, .if_icmp .ne 8, 108), (108, .iload 6, 110), (110, .goto 55, 113), (113, .iload 4, 115), (115, .iconst 2, 116), (116, .if_icmp .ne 11, 119), (119, .iload 7, 121), (121, .iload 6, 123), (123, .iadd, 124), (124, .goto 41, 127), (127, .iload 4, 129), (129, .iconst 3, 130), (130, .if_icmp .ne 11, 133), (133, .iload 7, 135), (135, .iload 6, 137), (137, .isub, 138), (138, .goto 27, 141), (141, .iload 4, 143), (143, .iconst 4, 144), (144, .if_icmp .ne 12, 147), (147, .iload_n 2, 148), (148, .iload 6, 150), (150, .invokestatic 151, 153), (153, .goto 12, 156), (156, .iload 7, 158), (158, .iload_n 2, 159), (159, .iload 6, 161), (161, .invokestatic 151, 164), (164, .iadd, 165), (165, .istore 8, 167), (167, .iload 8, 169), (169, .iconst 0, 170), (170, .bipush 7, 172), (172, .invokestatic 104, 175), (175, .ifCond .eq 21, 178), (178, .iload_n 2, 179), (179, .iload 8, 181), (181, .iload 7, 183), (183, .isub, 184), (184, .bipush 6, 186), (186, .iconst 3, 187), (187, .iload 5, 189), (189, .imul, 190), (190, .isub, 191), (191, .ishl, 192), (192, .iadd, 193), (193, .goto 4, 196), (196, .iconst (-1), 197), (197, .ireturn, 198)]
def K_X10_goes : mm_K := ((yX10_goes, cX10_goes, 9, (some .int), RX10), (2, 45, 10), (il_X10_goes, [41, 42, 47, 67, 113, 127, 141, 156, 165, 196, 197], fl_X10, ml_X10))
set_option maxRecDepth 100000 in
theorem ok_X10_goes : mm_KO K_X10_goes := ⟨by decide +kernel, fq_X10, mq_X10⟩
theorem mo_X10_goes : mm_MO K_X10_goes := ⟨tb_in 1173 (by decide +kernel) (by decide +kernel), (fun r h => by cases h; rfl), by decide +kernel, rfl⟩
def il_X10_cube : List mm_I := [(0, .iconst 0, 1), (1, .istore 4, 3), (3, .aload_n 0, 4), (4, .getfield 22, 7), (7, .iload_n 1, 8), (8, .iaload, 9), (9, .iload_n 3, 10), (10, .ior, 11), (11, .istore 5, 13), (13, .iconst 0, 14), (14, .istore 6, 16), (16, .iload 6, 18), (18, .aload_n 0, 19), (19, .getfield 78, 22), (22, .if_icmp .ge 43, 25), (25, .iload 4, 27), (27, .iload 5, 29), (29, .iload 6, 31), (31, .ishr, 32), (32, .iconst 1, 33), (33, .iand, 34), (34, .iconst 1, 35), (35, .if_icmp .ne 20, 38), (38, .aload_n 0, 39), (39, .iload 6, 41), (41, .iload_n 2, 42), (42, .invokevirtual 158, 45), (45, .ifCond .eq 10, 48), (48, .iconst 1, 49), (49, .iload 6, 51), (51, .ishl, 52), (52, .goto 4, 55), (55, .iconst 0, 56), (56, .ior, 57), (57, .istore 4, 59), (59, .iinc 6 1, 62), (62, .goto (-46), 65), (65, .iload 4, 67), (67, .ireturn, 68)]
def K_X10_cube : mm_K := ((yX10_cube, cX10_cube, 7, (some .int), RX10), (2, 45, 10), (il_X10_cube, [16, 55, 56, 65], fl_X10, ml_X10))
set_option maxRecDepth 100000 in
theorem ok_X10_cube : mm_KO K_X10_cube := ⟨by decide +kernel, fq_X10, mq_X10⟩
theorem mo_X10_cube : mm_MO K_X10_cube := ⟨tb_in 1248 (by decide +kernel) (by decide +kernel), (fun r h => by cases h; rfl), by decide +kernel, rfl⟩
def il_X10_edge : List mm_I := [(0, .aload_n 0, 1), (1, .iload_n 1, 2), (2, .invokevirtual 161, 5), (5, .ifCond .eq 13, 8), (8, .iload_n 2, 9), (9, .iconst 0, 10), (10, .bipush 6, 12), (12, .invokestatic 104, 15), (15, .ifCond .ne 5, 18), (18, .iconst (-1), 19), (19, .ireturn, 20), (20, .iload_n 2, 21), (21, .iconst 3, 22), (22, .if_icmp .ne 15, 25), (25, .aload_n 0, 26), (26, .getfield 22, 29), (29, .bipush 8, 31), (31, .iload_n 1, 32), (32, .iadd, 33), (33, .iaload, 34), (34, .goto 14, 37), (37, .aload_n 0, 38), (38, .getfield 19, 41), (41, .bipush 7, 43), (43, .iload_n 1, 44), (44, .imul, 45), (45, .iload_n 2, 46), (46, .iadd, 47), (47, .iaload, 48), (48, .ireturn, 49)]
def K_X10_edge : mm_K := ((yX10_edge, cX10_edge, 3, (some .int), RX10), (2, 43, 10), (il_X10_edge, [18, 20, 37, 48], fl_X10, ml_X10))
set_option maxRecDepth 100000 in
theorem ok_X10_edge : mm_KO K_X10_edge := ⟨by decide +kernel, fq_X10, mq_X10⟩
theorem mo_X10_edge : mm_MO K_X10_edge := ⟨tb_in 1143 (by decide +kernel) (by decide +kernel), (fun r h => by cases h; rfl), by decide +kernel, rfl⟩
def il_X10_so : List mm_I := [(0, .aload_n 0, 1), (1, .iload_n 1, 2), (2, .invokevirtual 164, 5), (5, .ifCond .eq 13, 8), (8, .iload_n 2, 9), (9, .iload_n 3, 10), (10, .iload 4, 12), (12, .invokestatic 167, 15), (15, .ifCond .ne 5, 18), (18, .iconst (-1), 19), (19, .ireturn, 20), (20, .aload_n 0, 21), (21, .iload_n 1, 22), (22, .bipush 64, 24), (24, .iload_n 2, 25), (25, .imul, 26), (26, .bipush 8, 28), (28, .iload_n 3, 29), (29, .imul, 30), (30, .iadd, 31), (31, .iload 4, 33), (33, .iadd, 34), (34, .invokevirtual 158, 37), (37, .ifCond .eq 7, 40), (40, .iconst 1, 41), (41, .goto 4, 44), (44, .iconst 0, 45), (45, .ireturn, 46)]
def K_X10_so : mm_K := ((yX10_so, cX10_so, 5, (some .int), RX10), (2, 45, 10), (il_X10_so, [18, 20, 44, 45], fl_X10, ml_X10))
set_option maxRecDepth 100000 in
theorem ok_X10_so : mm_KO K_X10_so := ⟨by decide +kernel, fq_X10, mq_X10⟩
theorem mo_X10_so : mm_MO K_X10_so := ⟨tb_in 1151 (by decide +kernel) (by decide +kernel), (fun r h => by cases h; rfl), by decide +kernel, rfl⟩
def il_X10_gone : List mm_I := [(0, .aload_n 0, 1), (1, .iload_n 1, 2), (2, .invokevirtual 161, 5), (5, .ifCond .eq 13, 8), (8, .iload_n 2, 9), (9, .iload_n 3, 10), (10, .iload 4, 12), (12, .invokestatic 167, 15), (15, .ifCond .ne 5, 18), (18, .iconst (-1), 19), (19, .ireturn, 20), (20, .aload_n 0, 21), (21, .getfield 75, 24), (24, .ifCond .le 10, 27), (27, .bipush 64, 29), (29, .iload_n 2, 30), (30, .imul, 31), (31, .goto 4, 34), (34, .iconst 0, 35), (35, .aload_n 0, 36), (36, .getfield 75, 39), (39, .iconst 1, 40), (40, .if_icmp .le 10, 43), (43, .bipush 8, 45), (45, .iload_n 3, 46), (46, .imul, 47), (47, .goto 4, 50), (50, .iconst 0, 51), (51, .iadd, 52), (52, .aload_n 0, 53), (53, .getfield 75, 56), (56, .iconst 2, 57), (57, .if_icmp .le 8, 60), (60, .iload 4, 62), (62, .goto 4, 65), (65, .iconst 0, 66), (66, .iadd, 67), (67, .istore 5, 69), (69, .aload_n 0, 70), (70, .iload_n 1, 71), (71, .iload 5, 73), (73, .invokevirtual 170, 76), (76, .istore 6, 78), (78, .iload 6, 80), (80, .ifCond .ge 8, 83), (83, .bipush (-2), 85), (85, .goto 5, 88), (88, .iload 6, 90), (90, .ireturn, 91)]
def K_X10_gone : mm_K := ((yX10_gone, cX10_gone, 7, (some .int), RX10), (3, 73, 10), (il_X10_gone, [18, 20, 34, 35, 50, 51, 65, 66, 88, 90], fl_X10, ml_X10))
set_option maxRecDepth 100000 in
theorem ok_X10_gone : mm_KO K_X10_gone := ⟨by decide +kernel, fq_X10, mq_X10⟩
theorem mo_X10_gone : mm_MO K_X10_gone := ⟨tb_in 1169 (by decide +kernel) (by decide +kernel), (fun r h => by cases h; rfl), by decide +kernel, rfl⟩
def il_X10_keeps : List mm_I := [(0, .aload_n 0, 1), (1, .getfield 98, 4), (4, .bipush 6, 6), (6, .if_icmp .ne 42, 9), (9, .iconst 0, 10), (10, .istore_n 1, 11), (11, .iload_n 1, 12), (12, .bipush 110, 14), (14, .if_icmp .ge 24, 17), (17, .aload_n 0, 18), (18, .getfield 25, 21), (21, .iload_n 1, 22), (22, .aload_n 0, 23), (23, .getfield 25, 26), (26, .iload_n 1, 27), (27, .bipush 22, 29), (29, .iadd, 30), (30, .iaload, 31), (31, .iastore, 32), (32, .iinc 1 1, 35), (35, .goto (-24), 38), (38, .aload_n 0, 39), (39, .dup, 40), (40, .getfield 98, 43), (43, .iconst 1, 44), (44, .isub, 45), (45, .putfield 98, 48), (48, .iconst 0, 49), (49, .istore_n 1, 50), (50, .iload_n 1, 51), (51, .bipush 22, 53), (53, .if_icmp .ge 29, 56), (56, .aload_n 0, 57), (57, .getfield 25, 60), (60, .bipush 22, 62), (62, .aload_n 0, 63), (63, .getfield 98, 66), (66, .imul, 67), (67, .iload_n 1, 68), (68, .iadd, 69), (69, .aload_n 0, 70), (70, .getfield 22, 73), (73, .iload_n 1, 74), (74, .iaload, 75), (75, .iastore, 76), (76, .iinc 1 1, 79), (79, .goto (-29), 82), (82, .aload_n 0, 83), (83, .dup, 84), (84, .getfield 98, 87), (87, .iconst 1, 88), (88, .iadd, 89), (89, .putfield 98, 92), (92, .return_, 93)]
def K_X10_keeps : mm_K := ((yX10_keeps, cX10_keeps, 2, none, RX10), (0, 0, 10), (il_X10_keeps, [11, 38, 48, 50, 82], fl_X10, ml_X10))
set_option maxRecDepth 100000 in
theorem ok_X10_keeps : mm_KO K_X10_keeps := ⟨by decide +kernel, fq_X10, mq_X10⟩
theorem mo_X10_keeps : mm_MO K_X10_keeps := ⟨tb_in 1185 (by decide +kernel) (by decide +kernel), (fun r h => by cases h; rfl), by decide +kernel, rfl⟩
def il_X10_undo : List mm_I := [(0, .aload_n 0, 1), (1, .getfield 98, 4), (4, .ifCond .ne 6, 7), (7, .bipush (-2), 9), (9, .ireturn, 10), (10, .aload_n 0, 11), (11, .dup, 12), (12, .getfield 98, 15), (15, .iconst 1, 16), (16, .isub, 17), (17, .putfield 98, 20), (20, .iconst 0, 21), (21, .istore_n 1, 22), (22, .iload_n 1, 23), (23, .bipush 22, 25), (25, .if_icmp .ge 29, 28), (28, .aload_n 0, 29), (29, .getfield 22, 32), (32, .iload_n 1, 33), (33, .aload_n 0, 34), (34, .getfield 25, 37), (37, .bipush 22, 39), (39, .aload_n 0, 40), (40, .getfield 98, 43), (43, .imul, 44), (44, .iload_n 1, 45), (45, .iadd, 46), (46, .iaload, 47), (47, .iastore, 48), (48, .iinc 1 1, 51), (51, .goto (-29), 54), (54, .aload_n 0, 55), (55, .getfield 98, 58), (58, .ireturn, 59)]
def K_X10_undo : mm_K := ((yX10_undo, cX10_undo, 2, (some .int), RX10), (0, 0, 10), (il_X10_undo, [10, 22, 54], fl_X10, ml_X10))
set_option maxRecDepth 100000 in
theorem ok_X10_undo : mm_KO K_X10_undo := ⟨by decide +kernel, fq_X10, mq_X10⟩
theorem mo_X10_undo : mm_MO K_X10_undo := ⟨tb_in 1177 (by decide +kernel) (by decide +kernel), (fun r h => by cases h; rfl), by decide +kernel, rfl⟩
def il_X10_turn : List mm_I := [(0, .aload_n 0, 1), (1, .iload_n 1, 2), (2, .invokevirtual 161, 5), (5, .ifCond .ne 5, 8), (8, .iconst (-1), 9), (9, .ireturn, 10), (10, .aload_n 0, 11), (11, .getfield 19, 14), (14, .bipush 7, 16), (16, .iload_n 1, 17), (17, .imul, 18), (18, .iconst 2, 19), (19, .iadd, 20), (20, .iaload, 21), (21, .bipush 9, 23), (23, .if_icmp .ne 6, 26), (26, .bipush (-2), 28), (28, .ireturn, 29), (29, .aload_n 0, 30), (30, .invokevirtual 173, 33), (33, .aload_n 0, 34), (34, .getfield 22, 37), (37, .bipush 8, 39), (39, .iload_n 1, 40), (40, .iadd, 41), (41, .iconst 1, 42), (42, .aload_n 0, 43), (43, .getfield 22, 46), (46, .bipush 8, 48), (48, .iload_n 1, 49), (49, .iadd, 50), (50, .iaload, 51), (51, .isub, 52), (52, .iastore, 53), (53, .aload_n 0, 54), (54, .getfield 22, 57), (57, .bipush 8, 59), (59, .iload_n 1, 60), (60, .iadd, 61), (61, .iaload, 62), (62, .ireturn, 63)]
def K_X10_turn : mm_K := ((yX10_turn, cX10_turn, 2, (some .int), RX10), (2, 43, 10), (il_X10_turn, [10, 29], fl_X10, ml_X10))
set_option maxRecDepth 100000 in
theorem ok_X10_turn : mm_KO K_X10_turn := ⟨by decide +kernel, fq_X10, mq_X10⟩
theorem mo_X10_turn : mm_MO K_X10_turn := ⟨tb_in 1181 (by decide +kernel) (by decide +kernel), (fun r h => by cases h; rfl), by decide +kernel, rfl⟩
def il_X10_bits : List mm_I := [(0, .iconst 0, 1), (1, .istore_n 1, 2), (2, .iconst 0, 3), (3, .istore_n 2, 4), (4, .iload_n 2, 5), (5, .bipush 8, 7), (7, .if_icmp .ge 17, 10), (10, .iload_n 1, 11), (11, .iload_n 0, 12), (12, .iload_n 2, 13), (13, .ishr, 14), (14, .iconst 1, 15), (15, .iand, 16), (16, .iadd, 17), (17, .istore_n 1, 18), (18, .iinc 2 1, 21), (21, .goto (-17), 24), (24, .iload_n 1, 25), (25, .ireturn, 26)]
def K_X10_bits : mm_K := ((yX10_bits, cX10_bits, 3, (some .int), RX10), (0, 0, 10), (il_X10_bits, [4, 24], fl_X10, ml_X10))
set_option maxRecDepth 100000 in
theorem ok_X10_bits : mm_KO K_X10_bits := ⟨by decide +kernel, fq_X10, mq_X10⟩
theorem mo_X10_bits : mm_MO K_X10_bits := ⟨tb_in 1196 (by decide +kernel) (by decide +kernel), (fun r h => by cases h; rfl), by decide +kernel, rfl⟩
def il_X10_look : List mm_I := [(0, .aload_n 0, 1), (1, .iload_n 1, 2), (2, .invokevirtual 176, 5), (5, .ifCond .eq 20, 8), (8, .aload_n 0, 9), (9, .iload_n 2, 10), (10, .invokevirtual 164, 13), (13, .ifCond .eq 12, 16), (16, .iload_n 3, 17), (17, .iconst 0, 18), (18, .iconst 1, 19), (19, .invokestatic 104, 22), (22, .ifCond .ne 5, 25), (25, .iconst (-1), 26), (26, .ireturn, 27), (27, .aload_n 0, 28), (28, .getfield 22, 31), (31, .iload_n 1, 32), (32, .iaload, 33), (33, .iload_n 2, 34), (34, .ishr, 35), (35, .iconst 1, 36), (36, .iand, 37), (37, .iload_n 3, 38), (38, .if_icmp .ne 6, 41), (41, .bipush (-2), 43), (43, .ireturn, 44), (44, .aload_n 0, 45), (45, .invokevirtual 173, 48), (48, .aload_n 0, 49), (49, .getfield 22, 52), (52, .iload_n 1, 53), (53, .dup2, 54), (54, .iaload, 55), (55, .iconst 1, 56), (56, .iload_n 2, 57), (57, .ishl, 58), (58, .ixor, 59), (59, .iastore, 60), (60, .aload_n 0, 61), (61, .getfield 22, 64), (64, .iload_n 1, 65), (65, .iaload, 66), (66, .invokestatic 179, 69), (69, .ireturn, 70)]
def K_X10_look : mm_K := ((yX10_look, cX10_look, 4, (some .int), RX10), (2, 43, 10), (il_X10_look, [25, 27, 44], fl_X10, ml_X10))
set_option maxRecDepth 100000 in
theorem ok_X10_look : mm_KO K_X10_look := ⟨by decide +kernel, fq_X10, mq_X10⟩
theorem mo_X10_look : mm_MO K_X10_look := ⟨tb_in 1189 (by decide +kernel) (by decide +kernel), (fun r h => by cases h; rfl), by decide +kernel, rfl⟩
def il_X10_looked : List mm_I := [(0, .aload_n 0, 1), (1, .iload_n 1, 2), (2, .invokevirtual 176, 5), (5, .ifCond .eq 12, 8), (8, .aload_n 0, 9), (9, .getfield 22, 12), (12, .iload_n 1, 13), (13, .iaload, 14), (14, .goto 4, 17), (17, .iconst (-1), 18), (18, .ireturn, 19)]
def K_X10_looked : mm_K := ((yX10_looked, cX10_looked, 2, (some .int), RX10), (2, 43, 10), (il_X10_looked, [17, 18], fl_X10, ml_X10))
set_option maxRecDepth 100000 in
theorem ok_X10_looked : mm_KO K_X10_looked := ⟨by decide +kernel, fq_X10, mq_X10⟩
theorem mo_X10_looked : mm_MO K_X10_looked := ⟨tb_in 1200 (by decide +kernel) (by decide +kernel), (fun r h => by cases h; rfl), by decide +kernel, rfl⟩
def il_X10_meets : List mm_I := [(0, .aload_n 0, 1), (1, .getfield 37, 4), (4, .iload_n 1, 5), (5, .iaload, 6), (6, .ifCond .ge 30, 9), (9, .aload_n 0, 10), (10, .getfield 37, 13), (13, .iload_n 1, 14), (14, .iload_n 2, 15), (15, .iastore, 16), (16, .aload_n 0, 17), (17, .getfield 40, 20), (20, .aload_n 0, 21), (21, .getfield 182, 24), (24, .iload_n 1, 25), (25, .iastore, 26), (26, .aload_n 0, 27), (27, .dup, 28), (28, .getfield 182, 31), (31, .iconst 1, 32), (32, .iadd, 33), (33, .putfield 182, 36), (36, .return_, 37)]
def K_X10_meets : mm_K := ((yX10_meets, cX10_meets, 3, none, RX10), (0, 0, 10), (il_X10_meets, [36], fl_X10, ml_X10))
set_option maxRecDepth 100000 in
theorem ok_X10_meets : mm_KO K_X10_meets := ⟨by decide +kernel, fq_X10, mq_X10⟩
theorem mo_X10_meets : mm_MO K_X10_meets := ⟨tb_in 1220 (by decide +kernel) (by decide +kernel), (fun r h => by cases h; rfl), by decide +kernel, rfl⟩
def il_X10_spreads : List mm_I := [(0, .iconst 0, 1), (1, .istore_n 1, 2), (2, .iload_n 1, 3), (3, .sipush 4096, 6), (6, .if_icmp .ge 16, 9), (9, .aload_n 0, 10), (10, .getfield 37, 13), (13, .iload_n 1, 14), (14, .iconst (-1), 15), (15, .iastore, 16), (16, .iinc 1 1, 19), (19, .goto (-17), 22), (22, .aload_n 0, 23), (23, .iconst 0, 24), (24, .putfield 182, 27), (27, .iconst 0, 28), (28, .istore_n 1, 29), (29, .iload_n 1, 30), (30, .sipush 512, 33), (33, .if_icmp .ge 23, 36), (36, .aload_n 0, 37), (37, .iload_n 1, 38), (38, .invokevirtual 185, 41), (41, .ifCond .eq 9, 44), (44, .aload_n 0, 45), (45, .iload_n 1, 46), (46, .iconst 0, 47), (47, .invokevirtual 188, 50), (50, .iinc 1 1, 53), (53, .goto (-24), 56), (56, .iconst 0, 57), (57, .istore_n 1, 58), (58, .iload_n 1, 59), (59, .aload_n 0, 60), (60, .getfield 182, 63), (63, .if_icmp .ge 100, 66), (66, .aload_n 0, 67), (67, .getfield 40, 70), (70, .iload_n 1, 71), (71, .iaload, 72), (72, .istore_n 2, 73), (73, .iconst 0, 74), (74, .istore_n 3, 75), (75, .iload_n 3, 76), (76, .aload_n 0, 77), (77, .getfield 85, 80), (80, .if_icmp .ge 77, 83), (83, .aload_n 0, 84), (84, .getfield 19, 87), (87, .bipush 7, 89), (89, .iload_n 3, 90), (90, .imul, 91), (91, .iaload, 92), (92, .iload_n 2, 93), (93, .sipush 512, 96), (96, .idiv, 97), (97, .if_icmp .ne 16, 100), (100, .aload_n 0, 101), (101, .iload_n 3, 102), (102, .iload_n 2, 103), (103, .sipush 512, 106), (106, .irem, 107), (107, .invokevirtual 170, 110), (110, .goto 4, 113), (113, .iconst (-1), 114), (114, .istore 4, 116), (116, .iload 4, 118), (118, .ifCond .lt 33, 121), (121, .aload_n 0, 122), (122, .sipush 512, 125), (125, .aload_n 0, 126), (126, .getfield 19, 129), (129, .bipush 7, 131), (131, .iload_n 3, 132), (132, .imul, 133), (133, .iconst 1, 134), (134, .iadd, 135), (135, .iaload, 136), (136, .imul, 137), (137, .iload 4, 139), (139, .iadd, 140), (140, .aload_n 0, 141), (141, .getfield 37, 144), (144, .iload_n 2, 145), (145, .iaload, 146), (146, .iconst 1, 147), (147, .iadd, 148), (148, .invokevirtual 188, 151), (151, .iinc 3 1, 154), (154, .goto (-79), 157), (157, .iinc 1 1, 160), (160, .goto (-102), 163), (163, .return_, 164)]
def K_X10_spreads : mm_K := ((yX10_spreads, cX10_spreads, 5, none, RX10), (3, 73, 10), (il_X10_spreads, [2, 22, 29, 50, 56, 58, 75, 113, 114, 151, 157, 163], fl_X10, ml_X10))
set_option maxRecDepth 100000 in
theorem ok_X10_spreads : mm_KO K_X10_spreads := ⟨by decide +kernel, fq_X10, mq_X10⟩
theorem mo_X10_spreads : mm_MO K_X10_spreads := ⟨tb_in 1208 (by decide +kernel) (by decide +kernel), (fun r h => by cases h; rfl), by decide +kernel, rfl⟩
def il_X10_nearest : List mm_I := [(0, .bipush (-4), 2), (2, .istore_n 2, 3), (3, .iconst 0, 4), (4, .istore_n 3, 5), (5, .iload_n 3, 6), (6, .sipush 512, 9), (9, .if_icmp .ge 45, 12), (12, .aload_n 0, 13), (13, .getfield 37, 16), (16, .sipush 512, 19), (19, .iload_n 1, 20), (20, .imul, 21), (21, .iload_n 3, 22), (22, .iadd, 23), (23, .iaload, 24), (24, .istore 4, 26), (26, .iload 4, 28), (28, .ifCond .lt 18, 31), (31, .iload_n 2, 32), (32, .ifCond .lt 9, 35), (35, .iload 4, 37), (37, .iload_n 2, 38), (38, .if_icmp .ge 8, 41), (41, .iload 4, 43), (43, .goto 4, 46), (46, .iload_n 2, 47), (47, .istore_n 2, 48), (48, .iinc 3 1, 51), (51, .goto (-46), 54), (54, .iload_n 2, 55), (55, .ireturn, 56)]
def K_X10_nearest : mm_K := ((yX10_nearest, cX10_nearest, 5, (some .int), RX10), (0, 0, 10), (il_X10_nearest, [5, 41, 46, 47, 54], fl_X10, ml_X10))
set_option maxRecDepth 100000 in
theorem ok_X10_nearest : mm_KO K_X10_nearest := ⟨by decide +kernel, fq_X10, mq_X10⟩
theorem mo_X10_nearest : mm_MO K_X10_nearest := ⟨tb_in 1224 (by decide +kernel) (by decide +kernel), (fun r h => by cases h; rfl), by decide +kernel, rfl⟩
def il_X10_real : List mm_I := [(0, .aload_n 0, 1), (1, .iload_n 1, 2), (2, .invokevirtual 176, 5), (5, .ifCond .eq 12, 8), (8, .iload_n 2, 9), (9, .iconst 0, 10), (10, .iconst 2, 11), (11, .invokestatic 104, 14), (14, .ifCond .ne 5, 17), (17, .iconst (-1), 18), (18, .ireturn, 19), (19, .aload_n 0, 20), (20, .invokevirtual 192, 23), (23, .iload_n 2, 24), (24, .ifCond .ne 9, 27), (27, .aload_n 0, 28), (28, .iload_n 1, 29), (29, .invokevirtual 195, 32), (32, .ireturn, 33), (33, .iconst 0, 34), (34, .istore_n 3, 35), (35, .iconst 1, 36), (36, .aload_n 0, 37), (37, .getfield 78, 40), (40, .ishl, 41), (41, .iconst 1, 42), (42, .isub, 43), (43, .istore 4, 45), (45, .iconst 0, 46), (46, .istore 5, 48), (48, .iload 5, 50), (50, .sipush 512, 53), (53, .if_icmp .ge 74, 56), (56, .aload_n 0, 57), (57, .getfield 37, 60), (60, .sipush 512, 63), (63, .iload_n 1, 64), (64, .imul, 65), (65, .iload 5, 67), (67, .iadd, 68), (68, .iaload, 69), (69, .ifCond .lt 52, 72), (72, .iinc 3 1, 75), (75, .iconst 0, 76), (76, .istore 6, 78), (78, .iload 6, 80), (80, .aload_n 0, 81), (81, .getfield 78, 84), (84, .if_icmp .ge 37, 87), (87, .iload 4, 89), (89, .aload_n 0, 90), (90, .iload 6, 92), (92, .iload 5, 94), (94, .invokevirtual 158, 97), (97, .ifCond .eq 9, 100), (100, .sipush 255, 103), (103, .goto 9, 106), (106, .iconst 1, 107), (107, .iload 6, 109), (109, .ishl, 110), (110, .iconst (-1), 111), (111, .ixor, 112), (112, .iand, 113), (113, .istore 4, 115), (115, .iinc 6 1, 118), (118, .goto (-40), 121), (121, .iinc 5 1, 124), (124, .goto (-76), 127), (127, .iload_n 2, 128), (128, .iconst 1, 129), (129, .if_icmp .ne 7, 132), (132, .iload_n 3, 133), (133, .goto 5, 136), (136, .iload 4, 138), (138, .ireturn, 139)]
def K_X10_real : mm_K := ((yX10_real, cX10_real, 7, (some .int), RX10), (4, 97, 10), (il_X10_real, [17, 19, 33, 48, 78, 106, 112, 121, 127, 136, 138], fl_X10, ml_X10))
set_option maxRecDepth 100000 in
theorem ok_X10_real : mm_KO K_X10_real := ⟨by decide +kernel, fq_X10, mq_X10⟩
theorem mo_X10_real : mm_MO K_X10_real := ⟨tb_in 1204 (by decide +kernel) (by decide +kernel), (fun r h => by cases h; rfl), by decide +kernel, rfl⟩
def il_X10_prunes : List mm_I := [(0, .aload_n 0, 1), (1, .getfield 182, 4), (4, .iconst 1, 5), (5, .isub, 6), (6, .istore_n 2, 7), (7, .iload_n 2, 8), (8, .ifCond .lt 181, 11), (11, .aload_n 0, 12), (12, .getfield 40, 15), (15, .iload_n 2, 16), (16, .iaload, 17), (17, .istore_n 3, 18), (18, .iload_n 3, 19), (19, .sipush 512, 22), (22, .idiv, 23), (23, .aload_n 0, 24), (24, .getfield 72, 27), (27, .if_icmp .ne 17, 30), (30, .aload_n 0, 31), (31, .getfield 37, 34), (34, .iload_n 3, 35), (35, .iaload, 36), (36, .iload_n 1, 37), (37, .if_icmp .ne 7, 40), (40, .iconst 1, 41), (41, .goto 4, 44), (44, .iconst 0, 45), (45, .istore 4, 47), (47, .iconst 0, 48), (48, .istore 5, 50), (50, .iload 5, 52), (52, .aload_n 0, 53), (53, .getfield 85, 56), (56, .if_icmp .ge 106, 59), (59, .iload 4, 61), (61, .ifCond .ne 101, 64), (64, .aload_n 0, 65), (65, .getfield 37, 68), (68, .iload_n 3, 69), (69, .iaload, 70), (70, .iload_n 1, 71), (71, .if_icmp .ge 91, 74), (74, .aload_n 0, 75), (75, .getfield 19, 78), (78, .bipush 7, 80), (80, .iload 5, 82), (82, .imul, 83), (83, .iaload, 84), (84, .iload_n 3, 85), (85, .sipush 512, 88), (88, .idiv, 89), (89, .if_icmp .ne 17, 92), (92, .aload_n 0, 93), (93, .iload 5, 95), (95, .iload_n 3, 96), (96, .sipush 512, 99), (99, .irem, 100), (100, .invokevirtual 170, 103), (103, .goto 4, 106), (106, .iconst (-1), 107), (107, .istore 6, 109), (109, .iload 6, 111), (111, .ifCond .lt 42, 114), (114, .aload_n 0, 115), (115, .getfield 37, 118), (118, .sipush 512, 121), (121, .aload_n 0, 122), (122, .getfield 19, 125), (125, .bipush 7, 127), (127, .iload 5, 129), (129, .imul, 130), (130, .iconst 1, 131), (131, .iadd, 132), (132, .iaload, 133), (133, .imul, 134), (134, .iload 6, 136), (136, .iadd, 137), (137, .iaload, 138), (138, .aload_n 0, 139), (139, .getfield 37, 142), (142, .iload_n 3, 143), (143, .iaload, 144), (144, .iconst 1, 145), (145, .iadd, 146), (146, .if_icmp .ne 7, 149), (149, .iconst 1, 150), (150, .goto 4, 153), (153, .iconst 0, 154), (154, .istore 4, 156), (156, .iinc 5 1, 159), (159, .goto (-109), 162), (162, .aload_n 0, 163), (163, .getfield 37, 166), (166, .iload_n 3, 167), (167, .iload 4, 169), (169, .ifCond .eq 12, 172), (172, .aload_n 0, 173), (173, .getfield 37, 176), (176, .iload_n 3, 177), (177, .iaload, 178), (178, .goto 4, 181), (181, .iconst (-1), 182), (182, .iastore, 183), (183, .iinc 2 (-1), 186), (186, .goto (-179), 189), (189, .return_, 190)]
def K_X10_prunes : mm_K := ((yX10_prunes, cX10_prunes, 7, none, RX10), (3, 73, 10), (il_X10_prunes, [7, 44, 45, 50, 106, 107, 153, 154, 162, 181, 182, 189], fl_X10, ml_X10))
set_option maxRecDepth 100000 in
theorem ok_X10_prunes : mm_KO K_X10_prunes := ⟨by decide +kernel, fq_X10, mq_X10⟩
theorem mo_X10_prunes : mm_MO K_X10_prunes := ⟨tb_in 1232 (by decide +kernel) (by decide +kernel), (fun r h => by cases h; rfl), by decide +kernel, rfl⟩
def il_X10_leads : List mm_I := [(0, .iconst 0, 1), (1, .istore_n 3, 2), (2, .iconst 0, 3), (3, .istore 4, 5), (5, .iload 4, 7), (7, .sipush 512, 10), (10, .if_icmp .ge 17, 13), (13, .aload_n 0, 14), (14, .getfield 47, 17), (17, .iload 4, 19), (19, .iconst 0, 20), (20, .bastore, 21), (21, .iinc 4 1, 24), (24, .goto (-19), 27), (27, .iconst 0, 28), (28, .istore 4, 30), (30, .iload 4, 32), (32, .sipush 512, 35), (35, .if_icmp .ge 76, 38), (38, .aload_n 0, 39), (39, .getfield 43, 42), (42, .iload 4, 44), (44, .baload, 45), (45, .ifCond .eq 13, 48), (48, .aload_n 0, 49), (49, .iload_n 1, 50), (50, .iload 4, 52), (52, .invokevirtual 170, 55), (55, .goto 4, 58), (58, .iconst (-1), 59), (59, .istore 5, 61), (61, .iload 5, 63), (63, .ifCond .lt 42, 66), (66, .aload_n 0, 67), (67, .getfield 37, 70), (70, .sipush 512, 73), (73, .aload_n 0, 74), (74, .getfield 19, 77), (77, .bipush 7, 79), (79, .iload_n 1, 80), (80, .imul, 81), (81, .iconst 1, 82), (82, .iadd, 83), (83, .iaload, 84), (84, .imul, 85), (85, .iload 5, 87), (87, .iadd, 88), (88, .iaload, 89), (89, .iload_n 2, 90), (90, .iconst 1, 91), (91, .iadd, 92), (92, .if_icmp .ne 13, 95), (95, .aload_n 0, 96), (96, .getfield 47, 99), (99, .iload 5, 101), (101, .iconst 1, 102), (102, .bastore, 103), (103, .iconst 1, 104), (104, .istore_n 3, 105), (105, .iinc 4 1, 108), (108, .goto (-78), 111), (111, .iload_n 3, 112), (112, .ireturn, 113)]
def K_X10_leads : mm_K := ((yX10_leads, cX10_leads, 6, (some .boolean), RX10), (3, 73, 10), (il_X10_leads, [5, 27, 30, 58, 59, 105, 111], fl_X10, ml_X10))
set_option maxRecDepth 100000 in
theorem ok_X10_leads : mm_KO K_X10_leads := ⟨by decide +kernel, fq_X10, mq_X10⟩
theorem mo_X10_leads : mm_MO K_X10_leads := ⟨tb_in 1236 (by decide +kernel) (by decide +kernel), (fun r h => by cases h; rfl), by decide +kernel, rfl⟩
def il_X10_run : List mm_I := [(0, .iload_n 1, 1), (1, .iconst (-1), 2), (2, .if_icmp .ge 5, 5), (5, .iconst (-1), 6), (6, .ireturn, 7), (7, .aload_n 0, 8), (8, .invokevirtual 192, 11), (11, .aload_n 0, 12), (12, .aload_n 0, 13), (13, .getfield 72, 16), (16, .invokevirtual 195, 19), (19, .istore_n 2, 20), (20, .iload_n 1, 21), (21, .ifCond .lt 12, 24), (24, .iload_n 2, 25), (25, .ifCond .lt 8, 28), (28, .iload_n 1, 29), (29, .iload_n 2, 30), (30, .if_icmp .lt 14, 33), (33, .iload_n 1, 34), (34, .ifCond .ge 7, 37), (37, .iload_n 2, 38), (38, .goto 5, 41), (41, .bipush (-4), 43), (43, .ireturn, 44), (44, .aload_n 0, 45), (45, .iload_n 2, 46), (46, .invokevirtual 198, 49), (49, .iconst 0, 50), (50, .istore_n 3, 51), (51, .iload_n 3, 52), (52, .sipush 512, 55), (55, .if_icmp .ge 29, 58), (58, .aload_n 0, 59), (59, .getfield 43, 62), (62, .iload_n 3, 63), (63, .aload_n 0, 64), (64, .getfield 37, 67), (67, .iload_n 3, 68), (68, .iaload, 69), (69, .ifCond .ne 7, 72), (72, .iconst 1, 73), (73, .goto 4, 76), (76, .iconst 0, 77), (77, .bastore, 78), (78, .iinc 3 1, 81), (81, .goto (-30), 84), (84, .iconst 0, 85), (85, .istore_n 3, 86), (86, .bipush (-4), 88), (88, .istore 4, 90), (90, .iconst 0, 91), (91, .istore 5, 93), (93, .iload 5, 95), (95, .iload_n 1, 96), (96, .if_icmp .gt 87, 99), (99, .iconst 0, 100), (100, .istore 4, 102), (102, .aload_n 0, 103), (103, .getfield 19, 106), (106, .bipush 7, 108), (108, .iload 4, 110), (110, .imul, 111), (111, .iaload, 112), (112, .iload_n 3, 113), (113, .if_icmp .ne 14, 116), (116, .aload_n 0, 117), (117, .iload 4, 119), (119, .iload 5, 121), (121, .invokevirtual 202, 124), (124, .ifCond .ne 9, 127), (127, .iinc 4 1, 130), (130, .goto (-28), 133), (133, .aload_n 0, 134), (134, .getfield 19, 137), (137, .bipush 7, 139), (139, .iload 4, 141), (141, .imul, 142), (142, .iconst 1, 143), (143, .iadd, 144), (144, .iaload, 145), (145, .istore_n 3, 146), (146, .iconst 0, 147), (147, .istore 6, 149), (149, .iload 6, 151), (151, .sipush 512, 154), (154, .if_icmp .ge 23, 157), (157, .aload_n 0, 158), (158, .getfield 43, 161), (161, .iload 6, 163), (163, .aload_n 0, 164), (164, .getfield 47, 167), (167, .iload 6, 169), (169, .baload, 170), (170, .bastore, 171), (171, .iinc 6 1, 174), (174, .goto (-25), 177), (177, .iinc 5 1, 180), (180, .goto (-87), 183), (183, .iload 4, 185), (185, .ireturn, 186)]
def K_X10_run : mm_K := ((yX10_run, cX10_run, 7, (some .int), RX10), (4, 99, 10), (il_X10_run, [7, 33, 41, 43, 44, 51, 76, 77, 84, 93, 102, 127, 133, 149, 177, 183], fl_X10, ml_X10))
set_option maxRecDepth 100000 in
theorem ok_X10_run : mm_KO K_X10_run := ⟨by decide +kernel, fq_X10, mq_X10⟩
theorem mo_X10_run : mm_MO K_X10_run := ⟨tb_in 1228 (by decide +kernel) (by decide +kernel), (fun r h => by cases h; rfl), by decide +kernel, rfl⟩
def il_X10_comes : List mm_I := [(0, .aload_n 0, 1), (1, .getfield 56, 4), (4, .iload_n 1, 5), (5, .baload, 6), (6, .ifCond .ne 40, 9), (9, .aload_n 0, 10), (10, .getfield 56, 13), (13, .iload_n 1, 14), (14, .iconst 1, 15), (15, .bastore, 16), (16, .aload_n 0, 17), (17, .getfield 50, 20), (20, .aload_n 0, 21), (21, .getfield 205, 24), (24, .iload_n 1, 25), (25, .iastore, 26), (26, .aload_n 0, 27), (27, .getfield 53, 30), (30, .aload_n 0, 31), (31, .getfield 205, 34), (34, .iload_n 2, 35), (35, .iastore, 36), (36, .aload_n 0, 37), (37, .dup, 38), (38, .getfield 205, 41), (41, .iconst 1, 42), (42, .iadd, 43), (43, .putfield 205, 46), (46, .return_, 47)]
def K_X10_comes : mm_K := ((yX10_comes, cX10_comes, 3, none, RX10), (0, 0, 10), (il_X10_comes, [46], fl_X10, ml_X10))
set_option maxRecDepth 100000 in
theorem ok_X10_comes : mm_KO K_X10_comes := ⟨by decide +kernel, fq_X10, mq_X10⟩
theorem mo_X10_comes : mm_MO K_X10_comes := ⟨tb_in 1260 (by decide +kernel) (by decide +kernel), (fun r h => by cases h; rfl), by decide +kernel, rfl⟩
def il_X10_becomes : List mm_I := [(0, .iconst 0, 1), (1, .istore_n 3, 2), (2, .iload_n 3, 3), (3, .sipush 256, 6), (6, .if_icmp .ge 16, 9), (9, .aload_n 0, 10), (10, .getfield 59, 13), (13, .iload_n 3, 14), (14, .iconst 0, 15), (15, .bastore, 16), (16, .iinc 3 1, 19), (19, .goto (-17), 22), (22, .iconst 0, 23), (23, .istore_n 3, 24), (24, .iload_n 3, 25), (25, .sipush 512, 28), (28, .if_icmp .ge 73, 31), (31, .aload_n 0, 32), (32, .iload_n 3, 33), (33, .invokevirtual 155, 36), (36, .ifCond .eq 59, 39), (39, .aload_n 0, 40), (40, .aload_n 0, 41), (41, .getfield 19, 44), (44, .bipush 7, 46), (46, .iload_n 1, 47), (47, .imul, 48), (48, .iaload, 49), (49, .iload_n 3, 50), (50, .iconst 0, 51), (51, .invokevirtual 208, 54), (54, .iload_n 2, 55), (55, .if_icmp .ne 40, 58), (58, .aload_n 0, 59), (59, .iload_n 1, 60), (60, .iload_n 3, 61), (61, .invokevirtual 170, 64), (64, .istore 4, 66), (66, .iload 4, 68), (68, .ifCond .lt 27, 71), (71, .aload_n 0, 72), (72, .getfield 59, 75), (75, .aload_n 0, 76), (76, .aload_n 0, 77), (77, .getfield 19, 80), (80, .bipush 7, 82), (82, .iload_n 1, 83), (83, .imul, 84), (84, .iconst 1, 85), (85, .iadd, 86), (86, .iaload, 87), (87, .iload 4, 89), (89, .iconst 0, 90), (90, .invokevirtual 208, 93), (93, .iconst 1, 94), (94, .bastore, 95), (95, .iinc 3 1, 98), (98, .goto (-74), 101), (101, .return_, 102)]
def K_X10_becomes : mm_K := ((yX10_becomes, cX10_becomes, 5, none, RX10), (3, 73, 10), (il_X10_becomes, [2, 22, 24, 95, 101], fl_X10, ml_X10))
set_option maxRecDepth 100000 in
theorem ok_X10_becomes : mm_KO K_X10_becomes := ⟨by decide +kernel, fq_X10, mq_X10⟩
theorem mo_X10_becomes : mm_MO K_X10_becomes := ⟨tb_in 1244 (by decide +kernel) (by decide +kernel), (fun r h => by cases h; rfl), by decide +kernel, rfl⟩
def il_X10_looks : List mm_I := [(0, .aload_n 0, 1), (1, .iconst 0, 2), (2, .putfield 205, 5), (5, .iconst 0, 6), (6, .istore_n 1, 7), (7, .iload_n 1, 8), (8, .sipush 2048, 11), (11, .if_icmp .ge 16, 14), (14, .aload_n 0, 15), (15, .getfield 56, 18), (18, .iload_n 1, 19), (19, .iconst 0, 20), (20, .bastore, 21), (21, .iinc 1 1, 24), (24, .goto (-17), 27), (27, .iconst 0, 28), (28, .istore_n 1, 29), (29, .iload_n 1, 30), (30, .sipush 256, 33), (33, .if_icmp .ge 16, 36), (36, .aload_n 0, 37), (37, .getfield 59, 40), (40, .iload_n 1, 41), (41, .iconst 0, 42), (42, .bastore, 43), (43, .iinc 1 1, 46), (46, .goto (-17), 49), (49, .iconst 0, 50), (50, .istore_n 1, 51), (51, .iload_n 1, 52), (52, .sipush 512, 55), (55, .if_icmp .ge 30, 58), (58, .aload_n 0, 59), (59, .iload_n 1, 60), (60, .invokevirtual 185, 63), (63, .ifCond .eq 16, 66), (66, .aload_n 0, 67), (67, .getfield 59, 70), (70, .aload_n 0, 71), (71, .iconst 0, 72), (72, .iload_n 1, 73), (73, .iconst 0, 74), (74, .invokevirtual 208, 77), (77, .iconst 1, 78), (78, .bastore, 79), (79, .iinc 1 1, 82), (82, .goto (-31), 85), (85, .iconst 0, 86), (86, .istore_n 1, 87), (87, .iload_n 1, 88), (88, .sipush 256, 91), (91, .if_icmp .ge 25, 94), (94, .aload_n 0, 95), (95, .getfield 59, 98), (98, .iload_n 1, 99), (99, .baload, 100), (100, .ifCond .eq 10, 103), (103, .aload_n 0, 104), (104, .iload_n 1, 105), (105, .bipush (-4), 107), (107, .invokevirtual 212, 110), (110, .iinc 1 1, 113), (113, .goto (-26), 116), (116, .iconst 0, 117), (117, .istore_n 1, 118), (118, .iload_n 1, 119), (119, .aload_n 0, 120), (120, .getfield 205, 123), (123, .if_icmp .ge 113, 126), (126, .iconst 0, 127), (127, .istore_n 2, 128), (128, .iload_n 2, 129), (129, .aload_n 0, 130), (130, .getfield 85, 133), (133, .if_icmp .ge 97, 136), (136, .aload_n 0, 137), (137, .getfield 19, 140), (140, .bipush 7, 142), (142, .iload_n 2, 143), (143, .imul, 144), (144, .iaload, 145), (145, .aload_n 0, 146), (146, .getfield 50, 149), (149, .iload_n 1, 150), (150, .iaload, 151), (151, .sipush 256, 154), (154, .idiv, 155), (155, .if_icmp .ne 69, 158), (158, .aload_n 0, 159), (159, .iload_n 2, 160), (160, .aload_n 0, 161), (161, .getfield 50, 164), (164, .iload_n 1, 165), (165, .iaload, 166), (166, .sipush 256, 169), (169, .irem, 170), (170, .invokevirtual 215, 173), (173, .iconst 0, 174), (174, .istore_n 3, 175), (175, .iload_n 3, 176), (176, .sipush 256, 179), (179, .if_icmp .ge 45, 182), (182, .aload_n 0, 183), (183, .getfield 59, 186), (186, .iload_n 3, 187), (187, .baload, 188), (188, .ifCond .eq 30, 191), (191, .aload_n 0, 192), (192, .sipush 256, 195), (195, .aload_n 0, 196), (196, .getfield 19, 199), (199, .bipush 7, 201), (201, .iload_n 2, 202), (202, .imul, 203), (203, .iconst 1, 204), (204, .iadd, 205), (205, .iaload, 206), (206, .imul, 207), (207, .iload_n 3, 208), (208, .iadd, 209), (209, .bipush 16, 211), (211, .iload_n 1, 212), (212, .imul, 213), (213, .iload_n 2, 214), (214, .iadd, 215), (215, .invokevirtual 212, 218), (218, .iinc 3 1, 221), (221, .goto (-46), 224), (224, .iinc 2 1, 227), (227, .goto (-99), 230), (230, .iinc 1 1, 233), (233, .goto (-115), 236), (236, .return_, 237)]
def K_X10_looks : mm_K := ((yX10_looks, cX10_looks, 4, none, RX10), (4, 97, 10), (il_X10_looks, [7, 27, 29, 49, 51, 79, 85, 87, 110, 116, 118, 128, 175, 218, 224, 230, 236], fl_X10, ml_X10))
set_option maxRecDepth 100000 in
theorem ok_X10_looks : mm_KO K_X10_looks := ⟨by decide +kernel, fq_X10, mq_X10⟩
theorem mo_X10_looks : mm_MO K_X10_looks := ⟨tb_in 1256 (by decide +kernel) (by decide +kernel), (fun r h => by cases h; rfl), by decide +kernel, rfl⟩
def il_X10_may : List mm_I := [(0, .aload_n 0, 1), (1, .iload_n 1, 2), (2, .invokevirtual 161, 5), (5, .ifCond .eq 25, 8), (8, .iload_n 2, 9), (9, .iconst 0, 10), (10, .sipush 255, 13), (13, .invokestatic 104, 16), (16, .ifCond .eq 14, 19), (19, .iload_n 3, 20), (20, .iconst 0, 21), (21, .sipush 255, 24), (24, .invokestatic 104, 27), (27, .ifCond .ne 5, 30), (30, .iconst (-1), 31), (31, .ireturn, 32), (32, .aload_n 0, 33), (33, .iload_n 1, 34), (34, .iload_n 2, 35), (35, .invokevirtual 215, 38), (38, .aload_n 0, 39), (39, .getfield 59, 42), (42, .iload_n 3, 43), (43, .baload, 44), (44, .ifCond .eq 7, 47), (47, .iconst 1, 48), (48, .goto 4, 51), (51, .iconst 0, 52), (52, .ireturn, 53)]
def K_X10_may : mm_K := ((yX10_may, cX10_may, 4, (some .int), RX10), (4, 97, 10), (il_X10_may, [30, 32, 51, 52], fl_X10, ml_X10))
set_option maxRecDepth 100000 in
theorem ok_X10_may : mm_KO K_X10_may := ⟨by decide +kernel, fq_X10, mq_X10⟩
theorem mo_X10_may : mm_MO K_X10_may := ⟨tb_in 1240 (by decide +kernel) (by decide +kernel), (fun r h => by cases h; rfl), by decide +kernel, rfl⟩
def il_X10_state : List mm_I := [(0, .aload_n 0, 1), (1, .iload_n 1, 2), (2, .invokevirtual 176, 5), (5, .ifCond .eq 8, 8), (8, .iload_n 2, 9), (9, .iconst (-1), 10), (10, .if_icmp .ge 5, 13), (13, .iconst (-1), 14), (14, .ireturn, 15), (15, .aload_n 0, 16), (16, .invokevirtual 218, 19), (19, .iconst 0, 20), (20, .istore_n 3, 21), (21, .iconst 0, 22), (22, .istore 4, 24), (24, .iload 4, 26), (26, .sipush 256, 29), (29, .if_icmp .ge 36, 32), (32, .aload_n 0, 33), (33, .getfield 56, 36), (36, .sipush 256, 39), (39, .iload_n 1, 40), (40, .imul, 41), (41, .iload 4, 43), (43, .iadd, 44), (44, .baload, 45), (45, .ifCond .eq 14, 48), (48, .iload_n 3, 49), (49, .iload_n 2, 50), (50, .if_icmp .ne 6, 53), (53, .iload 4, 55), (55, .ireturn, 56), (56, .iinc 3 1, 59), (59, .iinc 4 1, 62), (62, .goto (-38), 65), (65, .iload_n 2, 66), (66, .ifCond .ge 7, 69), (69, .iload_n 3, 70), (70, .goto 5, 73), (73, .bipush (-4), 75), (75, .ireturn, 76)]
def K_X10_state : mm_K := ((yX10_state, cX10_state, 5, (some .int), RX10), (5, 120, 10), (il_X10_state, [13, 15, 24, 56, 59, 65, 73, 75], fl_X10, ml_X10))
set_option maxRecDepth 100000 in
theorem ok_X10_state : mm_KO K_X10_state := ⟨by decide +kernel, fq_X10, mq_X10⟩
theorem mo_X10_state : mm_MO K_X10_state := ⟨tb_in 1252 (by decide +kernel) (by decide +kernel), (fun r h => by cases h; rfl), by decide +kernel, rfl⟩
def il_X10_found : List mm_I := [(0, .aload_n 0, 1), (1, .iload_n 1, 2), (2, .invokevirtual 176, 5), (5, .ifCond .ne 5, 8), (8, .iconst (-1), 9), (9, .ireturn, 10), (10, .aload_n 0, 11), (11, .invokevirtual 218, 14), (14, .aload_n 0, 15), (15, .getfield 22, 18), (18, .iload_n 1, 19), (19, .iaload, 20), (20, .istore_n 2, 21), (21, .iconst 0, 22), (22, .istore_n 3, 23), (23, .iload_n 3, 24), (24, .sipush 256, 27), (27, .if_icmp .ge 34, 30), (30, .iload_n 2, 31), (31, .aload_n 0, 32), (32, .getfield 56, 35), (35, .sipush 256, 38), (38, .iload_n 1, 39), (39, .imul, 40), (40, .iload_n 3, 41), (41, .iadd, 42), (42, .baload, 43), (43, .ifCond .eq 7, 46), (46, .iload_n 3, 47), (47, .goto 6, 50), (50, .sipush 255, 53), (53, .iand, 54), (54, .istore_n 2, 55), (55, .iinc 3 1, 58), (58, .goto (-35), 61), (61, .iload_n 2, 62), (62, .ireturn, 63)]
def K_X10_found : mm_K := ((yX10_found, cX10_found, 4, (some .int), RX10), (5, 120, 10), (il_X10_found, [10, 23, 50, 53, 61], fl_X10, ml_X10))
set_option maxRecDepth 100000 in
theorem ok_X10_found : mm_KO K_X10_found := ⟨by decide +kernel, fq_X10, mq_X10⟩
theorem mo_X10_found : mm_MO K_X10_found := ⟨tb_in 1264 (by decide +kernel) (by decide +kernel), (fun r h => by cases h; rfl), by decide +kernel, rfl⟩
def il_X10_findsPath : List mm_I := [(0, .aload_n 0, 1), (1, .invokevirtual 218, 4), (4, .iconst 0, 5), (5, .istore_n 1, 6), (6, .iload_n 1, 7), (7, .aload_n 0, 8), (8, .getfield 205, 11), (11, .if_icmp .ge 26, 14), (14, .aload_n 0, 15), (15, .getfield 50, 18), (18, .iload_n 1, 19), (19, .iaload, 20), (20, .sipush 256, 23), (23, .idiv, 24), (24, .aload_n 0, 25), (25, .getfield 72, 28), (28, .if_icmp .eq 9, 31), (31, .iinc 1 1, 34), (34, .goto (-28), 37), (37, .iload_n 1, 38), (38, .aload_n 0, 39), (39, .getfield 205, 42), (42, .if_icmp .ne 5, 45), (45, .iconst 0, 46), (46, .ireturn, 47), (47, .aload_n 0, 48), (48, .iconst 0, 49), (49, .putfield 221, 52), (52, .iload_n 1, 53), (53, .istore_n 2, 54), (54, .aload_n 0, 55), (55, .getfield 53, 58), (58, .iload_n 2, 59), (59, .iaload, 60), (60, .ifCond .lt 26, 63), (63, .aload_n 0, 64), (64, .dup, 65), (65, .getfield 221, 68), (68, .iconst 1, 69), (69, .iadd, 70), (70, .putfield 221, 73), (73, .aload_n 0, 74), (74, .getfield 53, 77), (77, .iload_n 2, 78), (78, .iaload, 79), (79, .bipush 16, 81), (81, .idiv, 82), (82, .istore_n 2, 83), (83, .goto (-29), 86), (86, .aload_n 0, 87), (87, .getfield 221, 90), (90, .istore_n 2, 91), (91, .iload_n 1, 92), (92, .istore_n 3, 93), (93, .aload_n 0, 94), (94, .getfield 53, 97), (97, .iload_n 3, 98), (98, .iaload, 99), (99, .ifCond .lt 34, 102), (102, .iinc 2 (-1), 105), (105, .aload_n 0, 106), (106, .getfield 62, 109), (109, .iload_n 2, 110), (110, .aload_n 0, 111), (111, .getfield 53, 114), (114, .iload_n 3, 115), (115, .iaload, 116), (116, .bipush 16, 118), (118, .irem, 119), (119, .iastore, 120), (120, .aload_n 0, 121), (121, .getfield 53, 124), (124, .iload_n 3, 125), (125, .iaload, 126), (126, .bipush 16, 128), (128, .idiv, 129), (129, .istore_n 3, 130), (130, .goto (-37), 133), (133, .iconst 1, 134), (134, .ireturn, 135)]
def K_X10_findsPath : mm_K := ((yX10_findsPath, cX10_findsPath, 4, (some .boolean), RX10), (5, 120, 10), (il_X10_findsPath, [6, 37, 47, 54, 86, 93, 133], fl_X10, ml_X10))
set_option maxRecDepth 100000 in
theorem ok_X10_findsPath : mm_KO K_X10_findsPath := ⟨by decide +kernel, fq_X10, mq_X10⟩
theorem mo_X10_findsPath : mm_MO K_X10_findsPath := ⟨tb_in 1272 (by decide +kernel) (by decide +kernel), (fun r h => by cases h; rfl), by decide +kernel, rfl⟩
def il_X10_farOfPath : List mm_I := [(0, .iconst 0, 1), (1, .istore_n 1, 2), (2, .iload_n 1, 3), (3, .sipush 512, 6), (6, .if_icmp .ge 20, 9), (9, .aload_n 0, 10), (10, .getfield 43, 13), (13, .iload_n 1, 14), (14, .aload_n 0, 15), (15, .iload_n 1, 16), (16, .invokevirtual 185, 19), (19, .bastore, 20), (20, .iinc 1 1, 23), (23, .goto (-21), 26), (26, .iconst 0, 27), (27, .istore_n 1, 28), (28, .iload_n 1, 29), (29, .aload_n 0, 30), (30, .getfield 221, 33), (33, .if_icmp .ge 122, 36), (36, .iconst 0, 37), (37, .istore_n 2, 38), (38, .iconst 0, 39), (39, .istore_n 3, 40), (40, .iload_n 3, 41), (41, .sipush 512, 44), (44, .if_icmp .ge 16, 47), (47, .aload_n 0, 48), (48, .getfield 47, 51), (51, .iload_n 3, 52), (52, .iconst 0, 53), (53, .bastore, 54), (54, .iinc 3 1, 57), (57, .goto (-17), 60), (60, .iconst 0, 61), (61, .istore_n 3, 62), (62, .iload_n 3, 63), (63, .sipush 512, 66), (66, .if_icmp .ge 50, 69), (69, .aload_n 0, 70), (70, .getfield 43, 73), (73, .iload_n 3, 74), (74, .baload, 75), (75, .ifCond .eq 17, 78), (78, .aload_n 0, 79), (79, .aload_n 0, 80), (80, .getfield 62, 83), (83, .iload_n 1, 84), (84, .iaload, 85), (85, .iload_n 3, 86), (86, .invokevirtual 170, 89), (89, .goto 4, 92), (92, .iconst (-1), 93), (93, .istore 4, 95), (95, .iload 4, 97), (97, .ifCond .lt 13, 100), (100, .aload_n 0, 101), (101, .getfield 47, 104), (104, .iload 4, 106), (106, .iconst 1, 107), (107, .bastore, 108), (108, .iconst 1, 109), (109, .istore_n 2, 110), (110, .iinc 3 1, 113), (113, .goto (-51), 116), (116, .iload_n 2, 117), (117, .ifCond .ne 5, 120), (120, .iload_n 1, 121), (121, .ireturn, 122), (122, .iconst 0, 123), (123, .istore_n 3, 124), (124, .iload_n 3, 125), (125, .sipush 512, 128), (128, .if_icmp .ge 21, 131), (131, .aload_n 0, 132), (132, .getfield 43, 135), (135, .iload_n 3, 136), (136, .aload_n 0, 137), (137, .getfield 47, 140), (140, .iload_n 3, 141), (141, .baload, 142), (142, .bastore, 143), (143, .iinc 3 1, 146), (146, .goto (-22), 149), (149, .iinc 1 1, 152), (152, .goto (-124), 155), (155, .aload_n 0, 156), (156, .getfield 221, 159), (159, .ireturn, 160)]
def K_X10_farOfPath : mm_K := ((yX10_farOfPath, cX10_farOfPath, 5, (some .int), RX10), (3, 73, 10), (il_X10_farOfPath, [2, 26, 28, 40, 60, 62, 92, 93, 110, 116, 122, 124, 149, 155], fl_X10, ml_X10))
set_option maxRecDepth 100000 in
theorem ok_X10_farOfPath : mm_KO K_X10_farOfPath := ⟨by decide +kernel, fq_X10, mq_X10⟩
theorem mo_X10_farOfPath : mm_MO K_X10_farOfPath := ⟨tb_in 1276 (by decide +kernel) (by decide +kernel), (fun r h => by cases h; rfl), by decide +kernel, rfl⟩
def il_X10_path : List mm_I := [(0, .iload_n 1, 1), (1, .bipush (-2), 3), (3, .if_icmp .ge 5, 6), (6, .iconst (-1), 7), (7, .ireturn, 8), (8, .aload_n 0, 9), (9, .invokevirtual 224, 12), (12, .ifCond .ne 6, 15), (15, .bipush (-4), 17), (17, .ireturn, 18), (18, .iload_n 1, 19), (19, .bipush (-2), 21), (21, .if_icmp .ne 10, 24), (24, .aload_n 0, 25), (25, .invokevirtual 228, 28), (28, .goto 34, 31), (31, .iload_n 1, 32), (32, .iconst (-1), 33), (33, .if_icmp .ne 10, 36), (36, .aload_n 0, 37), (37, .getfield 221, 40), (40, .goto 22, 43), (43, .iload_n 1, 44), (44, .aload_n 0, 45), (45, .getfield 221, 48), (48, .if_icmp .ge 12, 51), (51, .aload_n 0, 52), (52, .getfield 62, 55), (55, .iload_n 1, 56), (56, .iaload, 57), (57, .goto 5, 60), (60, .bipush (-4), 62), (62, .ireturn, 63)]
def K_X10_path : mm_K := ((yX10_path, cX10_path, 2, (some .int), RX10), (6, 143, 10), (il_X10_path, [8, 18, 31, 43, 60, 62], fl_X10, ml_X10))
set_option maxRecDepth 100000 in
theorem ok_X10_path : mm_KO K_X10_path := ⟨by decide +kernel, fq_X10, mq_X10⟩
theorem mo_X10_path : mm_MO K_X10_path := ⟨tb_in 1268 (by decide +kernel) (by decide +kernel), (fun r h => by cases h; rfl), by decide +kernel, rfl⟩
def il_X10_isEnded : List mm_I := [(0, .iconst 0, 1), (1, .istore_n 2, 2), (2, .iload_n 2, 3), (3, .sipush 256, 6), (6, .if_icmp .ge 16, 9), (9, .aload_n 0, 10), (10, .getfield 59, 13), (13, .iload_n 2, 14), (14, .iconst 0, 15), (15, .bastore, 16), (16, .iinc 2 1, 19), (19, .goto (-17), 22), (22, .iconst 0, 23), (23, .istore_n 2, 24), (24, .iload_n 2, 25), (25, .sipush 512, 28), (28, .if_icmp .ge 30, 31), (31, .aload_n 0, 32), (32, .iload_n 2, 33), (33, .invokevirtual 185, 36), (36, .ifCond .eq 16, 39), (39, .aload_n 0, 40), (40, .getfield 59, 43), (43, .aload_n 0, 44), (44, .iconst 0, 45), (45, .iload_n 2, 46), (46, .iload_n 1, 47), (47, .invokevirtual 208, 50), (50, .iconst 1, 51), (51, .bastore, 52), (52, .iinc 2 1, 55), (55, .goto (-31), 58), (58, .iconst 0, 59), (59, .istore_n 2, 60), (60, .iconst 0, 61), (61, .istore_n 3, 62), (62, .iload_n 3, 63), (63, .aload_n 0, 64), (64, .getfield 221, 67), (67, .if_icmp .ge 176, 70), (70, .iload_n 2, 71), (71, .ifCond .ne 172, 74), (74, .aload_n 0, 75), (75, .getfield 62, 78), (78, .iload_n 3, 79), (79, .iaload, 80), (80, .istore 4, 82), (82, .iconst 1, 83), (83, .istore_n 2, 84), (84, .iconst 0, 85), (85, .istore 5, 87), (87, .iload 5, 89), (89, .sipush 256, 92), (92, .if_icmp .ge 17, 95), (95, .aload_n 0, 96), (96, .getfield 65, 99), (99, .iload 5, 101), (101, .iconst 0, 102), (102, .bastore, 103), (103, .iinc 5 1, 106), (106, .goto (-19), 109), (109, .iconst 0, 110), (110, .istore 5, 112), (112, .iload 5, 114), (114, .sipush 512, 117), (117, .if_icmp .ge 89, 120), (120, .aload_n 0, 121), (121, .iload 5, 123), (123, .invokevirtual 155, 126), (126, .ifCond .eq 39, 129), (129, .aload_n 0, 130), (130, .getfield 59, 133), (133, .aload_n 0, 134), (134, .aload_n 0, 135), (135, .getfield 19, 138), (138, .bipush 7, 140), (140, .iload 4, 142), (142, .imul, 143), (143, .iaload, 144), (144, .iload 5, 146), (146, .iload_n 1, 147), (147, .invokevirtual 208, 150), (150, .baload, 151), (151, .ifCond .eq 14, 154), (154, .aload_n 0, 155), (155, .iload 4, 157), (157, .iload 5, 159), (159, .invokevirtual 170, 162), (162, .goto 4, 165), (165, .iconst (-1), 166), (166, .istore 6, 168), (168, .iload 6, 170), (170, .ifCond .lt 30, 173), (173, .aload_n 0, 174), (174, .getfield 65, 177), (177, .aload_n 0, 178), (178, .aload_n 0, 179), (179, .getfield 19, 182), (182, .bipush 7, 184), (184, .iload 4, 186), (186, .imul, 187), (187, .iconst 1, 188), (188, .iadd, 189), (189, .iaload, 190), (190, .iload 6, 192), (192, .iload_n 1, 193), (193, .invokevirtual 208, 196), (196, .iconst 1, 197), (197, .bastore, 198), (198, .iconst 0, 199), (199, .istore_n 2, 200), (200, .iinc 5 1, 203), (203, .goto (-91), 206), (206, .iconst 0, 207), (207, .istore 5, 209), (209, .iload 5, 211), (211, .sipush 256, 214), (214, .if_icmp .ge 23, 217), (217, .aload_n 0, 218), (218, .getfield 59, 221), (221, .iload 5, 223), (223, .aload_n 0, 224), (224, .getfield 65, 227), (227, .iload 5, 229), (229, .baload, 230), (230, .bastore, 231), (231, .iinc 5 1, 234), (234, .goto (-25), 237), (237, .iinc 3 1, 240), (240, .goto (-178), 243), (243, .iload_n 2, 244), (244, .ireturn, 245)]
def K_X10_isEnded : mm_K := ((yX10_isEnded, cX10_isEnded, 7, (some .boolean), RX10), (3, 73, 10), (il_X10_isEnded, [2, 22, 24, 52, 58, 62, 87, 109, 112, 165, 166, 200, 206, 209, 237, 243], fl_X10, ml_X10))
set_option maxRecDepth 100000 in
theorem ok_X10_isEnded : mm_KO K_X10_isEnded := ⟨by decide +kernel, fq_X10, mq_X10⟩
theorem mo_X10_isEnded : mm_MO K_X10_isEnded := ⟨tb_in 1288 (by decide +kernel) (by decide +kernel), (fun r h => by cases h; rfl), by decide +kernel, rfl⟩
def il_X10_setFor : List mm_I := [(0, .iconst 1, 1), (1, .istore_n 1, 2), (2, .iload_n 1, 3), (3, .iconst 3, 4), (4, .if_icmp .ge 45, 7), (7, .iconst 1, 8), (8, .istore_n 2, 9), (9, .iload_n 2, 10), (10, .iconst 1, 11), (11, .aload_n 0, 12), (12, .getfield 78, 15), (15, .ishl, 16), (16, .if_icmp .ge 27, 19), (19, .iload_n 2, 20), (20, .invokestatic 179, 23), (23, .iload_n 1, 24), (24, .if_icmp .ne 13, 27), (27, .aload_n 0, 28), (28, .iload_n 2, 29), (29, .invokevirtual 231, 32), (32, .ifCond .eq 5, 35), (35, .iload_n 2, 36), (36, .ireturn, 37), (37, .iinc 2 1, 40), (40, .goto (-31), 43), (43, .iinc 1 1, 46), (46, .goto (-44), 49), (49, .bipush (-4), 51), (51, .ireturn, 52)]
def K_X10_setFor : mm_K := ((yX10_setFor, cX10_setFor, 3, (some .int), RX10), (4, 99, 10), (il_X10_setFor, [2, 9, 37, 43, 49], fl_X10, ml_X10))
set_option maxRecDepth 100000 in
theorem ok_X10_setFor : mm_KO K_X10_setFor := ⟨by decide +kernel, fq_X10, mq_X10⟩
theorem mo_X10_setFor : mm_MO K_X10_setFor := ⟨tb_in 1284 (by decide +kernel) (by decide +kernel), (fun r h => by cases h; rfl), by decide +kernel, rfl⟩
def il_X10_looksMore : List mm_I := [(0, .aload_n 0, 1), (1, .getfield 22, 4), (4, .iconst 0, 5), (5, .dup2, 6), (6, .iaload, 7), (7, .iload_n 1, 8), (8, .ior, 9), (9, .iastore, 10), (10, .iconst 0, 11), (11, .istore_n 2, 12), (12, .iload_n 2, 13), (13, .aload_n 0, 14), (14, .getfield 221, 17), (17, .if_icmp .ge 34, 20), (20, .aload_n 0, 21), (21, .getfield 22, 24), (24, .aload_n 0, 25), (25, .getfield 19, 28), (28, .bipush 7, 30), (30, .aload_n 0, 31), (31, .getfield 62, 34), (34, .iload_n 2, 35), (35, .iaload, 36), (36, .imul, 37), (37, .iconst 1, 38), (38, .iadd, 39), (39, .iaload, 40), (40, .dup2, 41), (41, .iaload, 42), (42, .iload_n 1, 43), (43, .ior, 44), (44, .iastore, 45), (45, .iinc 2 1, 48), (48, .goto (-36), 51), (51, .return_, 52)]
def K_X10_looksMore : mm_K := ((yX10_looksMore, cX10_looksMore, 3, none, RX10), (0, 0, 10), (il_X10_looksMore, [12, 51], fl_X10, ml_X10))
set_option maxRecDepth 100000 in
theorem ok_X10_looksMore : mm_KO K_X10_looksMore := ⟨by decide +kernel, fq_X10, mq_X10⟩
theorem mo_X10_looksMore : mm_MO K_X10_looksMore := ⟨tb_in 1292 (by decide +kernel) (by decide +kernel), (fun r h => by cases h; rfl), by decide +kernel, rfl⟩
def il_X10_mend : List mm_I := [(0, .aload_n 0, 1), (1, .invokevirtual 224, 4), (4, .ifCond .eq 14, 7), (7, .aload_n 0, 8), (8, .invokevirtual 228, 11), (11, .aload_n 0, 12), (12, .getfield 221, 15), (15, .if_icmp .ne 6, 18), (18, .bipush (-2), 20), (20, .ireturn, 21), (21, .aload_n 0, 22), (22, .invokevirtual 234, 25), (25, .istore_n 1, 26), (26, .iload_n 1, 27), (27, .ifCond .le 12, 30), (30, .aload_n 0, 31), (31, .invokevirtual 173, 34), (34, .aload_n 0, 35), (35, .iload_n 1, 36), (36, .invokevirtual 237, 39), (39, .iload_n 1, 40), (40, .ireturn, 41)]
def K_X10_mend : mm_K := ((yX10_mend, cX10_mend, 2, (some .int), RX10), (6, 143, 10), (il_X10_mend, [18, 21, 39], fl_X10, ml_X10))
set_option maxRecDepth 100000 in
theorem ok_X10_mend : mm_KO K_X10_mend := ⟨by decide +kernel, fq_X10, mq_X10⟩
theorem mo_X10_mend : mm_MO K_X10_mend := ⟨tb_in 1280 (by decide +kernel) (by decide +kernel), (fun r h => by cases h; rfl), by decide +kernel, rfl⟩
def il_X10_how : List mm_I := [(0, .aload_n 0, 1), (1, .invokevirtual 224, 4), (4, .ifCond .ne 7, 7), (7, .iconst 0, 8), (8, .goto 19, 11), (11, .aload_n 0, 12), (12, .invokevirtual 228, 15), (15, .aload_n 0, 16), (16, .getfield 221, 19), (19, .if_icmp .ne 7, 22), (22, .iconst 1, 23), (23, .goto 4, 26), (26, .iconst 2, 27), (27, .ireturn, 28)]
def K_X10_how : mm_K := ((yX10_how, cX10_how, 1, (some .int), RX10), (6, 143, 10), (il_X10_how, [11, 26, 27], fl_X10, ml_X10))
set_option maxRecDepth 100000 in
theorem ok_X10_how : mm_KO K_X10_how := ⟨by decide +kernel, fq_X10, mq_X10⟩
theorem mo_X10_how : mm_MO K_X10_how := ⟨tb_in 1300 (by decide +kernel) (by decide +kernel), (fun r h => by cases h; rfl), by decide +kernel, rfl⟩
def il_X10_check : List mm_I := [(0, .iload_n 1, 1), (1, .iconst 1, 2), (2, .bipush 9, 4), (4, .invokestatic 104, 7), (7, .ifCond .ne 5, 10), (10, .iconst (-1), 11), (11, .ireturn, 12), (12, .aload_n 0, 13), (13, .invokevirtual 173, 16), (16, .aload_n 0, 17), (17, .invokevirtual 240, 20), (20, .istore_n 2, 21), (21, .iconst 0, 22), (22, .istore_n 3, 23), (23, .iload_n 3, 24), (24, .iload_n 1, 25), (25, .if_icmp .ge 38, 28), (28, .iload_n 2, 29), (29, .iconst 2, 30), (30, .if_icmp .ne 33, 33), (33, .aload_n 0, 34), (34, .invokevirtual 234, 37), (37, .istore 4, 39), (39, .iload 4, 41), (41, .ifCond .ge 5, 44), (44, .iconst 3, 45), (45, .ireturn, 46), (46, .aload_n 0, 47), (47, .iload 4, 49), (49, .invokevirtual 237, 52), (52, .aload_n 0, 53), (53, .invokevirtual 240, 56), (56, .istore_n 2, 57), (57, .iinc 3 1, 60), (60, .goto (-37), 63), (63, .iload_n 2, 64), (64, .ireturn, 65)]
def K_X10_check : mm_K := ((yX10_check, cX10_check, 5, (some .int), RX10), (7, 163, 10), (il_X10_check, [12, 23, 46, 63], fl_X10, ml_X10))
set_option maxRecDepth 100000 in
theorem ok_X10_check : mm_KO K_X10_check := ⟨by decide +kernel, fq_X10, mq_X10⟩
theorem mo_X10_check : mm_MO K_X10_check := ⟨tb_in 1296 (by decide +kernel) (by decide +kernel), (fun r h => by cases h; rfl), by decide +kernel, rfl⟩
def il_X10_count : List mm_I := [(0, .iload_n 1, 1), (1, .tableswitch 127 0 8 #[51, 56, 61, 66, 71, 76, 108, 117, 122], 52), (52, .aload_n 0, 53), (53, .getfield 68, 56), (56, .ireturn, 57), (57, .aload_n 0, 58), (58, .getfield 72, 61), (61, .ireturn, 62), (62, .aload_n 0, 63), (63, .getfield 75, 66), (66, .ireturn, 67), (67, .aload_n 0, 68), (68, .getfield 78, 71), (71, .ireturn, 72), (72, .aload_n 0, 73), (73, .getfield 85, 76), (76, .ireturn, 77), (77, .iconst 0, 78), (78, .istore_n 2, 79), (79, .iconst 0, 80), (80, .istore_n 3, 81), (81, .iload_n 3, 82), (82, .aload_n 0, 83), (83, .getfield 68, 86), (86, .if_icmp .ge 21, 89), (89, .iload_n 2, 90), (90, .aload_n 0, 91), (91, .getfield 22, 94), (94, .iload_n 3, 95), (95, .iaload, 96), (96, .invokestatic 179, 99), (99, .iadd, 100), (100, .istore_n 2, 101), (101, .iinc 3 1, 104), (104, .goto (-23), 107), (107, .iload_n 2, 108), (108, .ireturn, 109), (109, .aload_n 0, 110), (110, .invokevirtual 218, 113), (113, .aload_n 0, 114), (114, .getfield 205, 117), (117, .ireturn, 118), (118, .aload_n 0, 119), (119, .getfield 98, 122), (122, .ireturn, 123), (123, .aload_n 0, 124), (124, .getfield 101, 127), (127, .ireturn, 128), (128, .iconst (-1), 129), (129, .ireturn, 130)]
def K_X10_count : mm_K := ((yX10_count, cX10_count, 4, (some .int), RX10), (5, 120, 10), (il_X10_count, [81, 107], fl_X10, ml_X10))
set_option maxRecDepth 100000 in
theorem ok_X10_count : mm_KO K_X10_count := ⟨by decide +kernel, fq_X10, mq_X10⟩
theorem mo_X10_count : mm_MO K_X10_count := ⟨tb_in 1304 (by decide +kernel) (by decide +kernel), (fun r h => by cases h; rfl), by decide +kernel, rfl⟩
end
section
/-! ===== phases: what is made ===== -/
def mm_rf0 (g k : Nat) : Option (Nat × Int) := mm_dv none (mm_nth (mm_dv [] (mm_nth mm_rl g)) k)
def ph_lz (r y : Bool) (k : Nat) : Option (Nat × Int) := match k with
  | 5 => match r with
    | true => some (47, 0)
    | false => none
  | 6 => match y with
    | true => some (77, 0)
    | false => none
  | _ => mm_rf0 21 k
def ph_rf (r y : Bool) (g k : Nat) : Option (Nat × Int) := match Nat.beq g 21 with
  | true => ph_lz r y k
  | false => mm_rf0 g k
def PH (r y : Bool) : mm_B := (ph_rf r y, List.range' 1 46 ++ ((match r with
  | true => List.range' 47 8
  | false => []) ++ (match y with
  | true => List.range' 55 31
  | false => [])))
end
section
/-! ===== switches ===== -/
def mm_tsw (il : List mm_I) (pc : Nat) : Option (Int × Int × Int × List Int) := match mm_lk il pc with
  | [] => none
  | q :: _ => match q.2.1 with
    | .tableswitch d lo hi offs => some (d, lo, hi, offs.toList)
    | _ => none
def mm_lsw (il : List mm_I) (pc : Nat) : Option (Int × List (Int × Int)) := match mm_lk il pc with
  | [] => none
  | q :: _ => match q.2.1 with
    | .lookupswitch d ps => some (d, ps.toList)
    | _ => none
section MMR7
variable {K : mm_K} {n : Nat × Nat} {pc : Nat} {ls : List (Option mm_V)} {st : List mm_V} {b : mm_B} {w : mm_M} {Q : Option mm_V → mm_B → mm_M → Prop}
theorem mm_tsw_ok (hK : mm_KO K) {d lo hi : Int} {offs : List Int} (h : mm_tsw K.2.2.1 pc = some (d, lo, hi, offs)) : ∃ (arr : Array Int) (len : Nat), arr.toList = offs ∧ decode K.1.2.1 pc = .ok (.tableswitch d lo hi arr, len) := by
  unfold mm_tsw at h
  split at h
  · cases h
  · rename_i q z hlk
    obtain ⟨hm, he⟩ := mm_lk_hd hlk
    obtain ⟨h1, h2, h3, h4⟩ := hK.1 q hm
    subst he
    split at h
    · rename_i hi
      cases h
      exact ⟨_, q.2.2 - q.1, rfl, by rw [h1, hi]⟩
    · cases h
theorem mm_lsw_ok (hK : mm_KO K) {d : Int} {ps : List (Int × Int)} (h : mm_lsw K.2.2.1 pc = some (d, ps)) : ∃ (arr : Array (Int × Int)) (len : Nat), arr.toList = ps ∧ decode K.1.2.1 pc = .ok (.lookupswitch d arr, len) := by
  unfold mm_lsw at h
  split at h
  · cases h
  · rename_i q z hlk
    obtain ⟨hm, he⟩ := mm_lk_hd hlk
    obtain ⟨h1, h2, h3, h4⟩ := hK.1 q hm
    subst he
    split at h
    · rename_i hi
      cases h
      exact ⟨_, q.2.2 - q.1, rfl, by rw [h1, hi]⟩
    · cases h
theorem k_tsIn {x off d lo hi : Int} {offs : List Int} (h : mm_tsw K.2.2.1 pc = some (d, lo, hi, offs)) (h1 : lo ≤ x) (h2 : x ≤ hi) (ho : mm_nth offs (x - lo).toNat = some off) (ht : 0 ≤ (pc : Int) + off) (k : mm_Wk K n ((pc : Int) + off).toNat ls st b w Q) : mm_Wk K n pc ls (.inl x :: st) b w Q := by
  refine k_ko fun hK => ?_
  obtain ⟨arr, len, ha, hd⟩ := mm_tsw_ok hK h
  intro p l e R s m args below meth c X α0 b0 A H locs cells slots α kls ⟨hC, hR, hA, hS, hO, hL, hst, hn⟩
  have hx : mm_in x := mm_stH hst
  have e1 := mm_i1 hx
  exact lv_tableIn hC.1 hC.2.1 hd (by omega) (by omega) (by rw [e1, ← Array.getElem?_toList, ha, ← mm_nth_get]; exact ho) (by omega) (k p l e R s m args below meth c X α0 b0 A H locs cells slots α kls ⟨hC, hR, hA, hS, hO, hL, mm_stT hst, hn⟩)
theorem k_tsOut {x d lo hi : Int} {offs : List Int} (h : mm_tsw K.2.2.1 pc = some (d, lo, hi, offs)) (h1 : x < lo ∨ hi < x) (ht : 0 ≤ (pc : Int) + d) (k : mm_Wk K n ((pc : Int) + d).toNat ls st b w Q) : mm_Wk K n pc ls (.inl x :: st) b w Q := by
  refine k_ko fun hK => ?_
  obtain ⟨arr, len, ha, hd⟩ := mm_tsw_ok hK h
  intro p l e R s m args below meth c X α0 b0 A H locs cells slots α kls ⟨hC, hR, hA, hS, hO, hL, hst, hn⟩
  have hx : mm_in x := mm_stH hst
  have e1 := mm_i1 hx
  exact lv_tableOut hC.1 hC.2.1 hd (by omega) (by omega) (k p l e R s m args below meth c X α0 b0 A H locs cells slots α kls ⟨hC, hR, hA, hS, hO, hL, mm_stT hst, hn⟩)
theorem k_lsw {x off d : Int} {ps : List (Int × Int)} (h : mm_lsw K.2.2.1 pc = some (d, ps)) (hp : (ps.zip (ps.drop 1)).all (fun (a, next) => a.1 < next.1) = true) (ho : Op.lookupswitch.offset ps d x = off) (ht : 0 ≤ (pc : Int) + off) (k : mm_Wk K n ((pc : Int) + off).toNat ls st b w Q) : mm_Wk K n pc ls (.inl x :: st) b w Q := by
  refine k_ko fun hK => ?_
  obtain ⟨arr, len, ha, hd⟩ := mm_lsw_ok hK h
  intro p l e R s m args below meth c X α0 b0 A H locs cells slots α kls ⟨hC, hR, hA, hS, hO, hL, hst, hn⟩
  have hx : mm_in x := mm_stH hst
  have e1 := mm_i1 hx
  exact lv_lookup hC.1 hC.2.1 hd (by rw [ha]; exact hp) (by rw [ha, e1, ho]) (by omega) (k p l e R s m args below meth c X α0 b0 A H locs cells slots α kls ⟨hC, hR, hA, hS, hO, hL, mm_stT hst, hn⟩)
end MMR7
end
section
/-! ===== bits of small numbers ===== -/
theorem bb_1 {x : Nat} (h : x < 2147483648) : (Int32.ofInt (x : Int)).toBitVec.toNat = x := by
  show (BitVec.ofInt 32 (x : Int)).toNat = x
  rw [BitVec.toNat_ofInt]
  omega
theorem bb_2 (a : Int32) {x : Nat} (h : a.toBitVec.toNat = x) (hx : x < 2147483648) : a.toInt = (x : Int) := by
  show a.toBitVec.toInt = _
  rw [BitVec.toInt_eq_toNat_cond, h, if_pos (by omega)]
theorem bb_and {x y : Nat} (hx : x < 2147483648) (hy : y < 2147483648) : mm_and x y = ((x &&& y : Nat) : Int) := by
  unfold mm_and
  refine bb_2 _ ?_ (Nat.lt_of_le_of_lt Nat.and_le_left hx)
  rw [Int32.toBitVec_and, BitVec.toNat_and, bb_1 hx, bb_1 hy]
theorem bb_or {x y : Nat} (hx : x < 2147483648) (hy : y < 2147483648) : mm_or x y = ((x ||| y : Nat) : Int) := by
  unfold mm_or
  refine bb_2 _ ?_ (Nat.or_lt_two_pow (n := 31) hx hy)
  rw [Int32.toBitVec_or, BitVec.toNat_or, bb_1 hx, bb_1 hy]
theorem bb_xor {x y : Nat} (hx : x < 2147483648) (hy : y < 2147483648) : mm_xor x y = ((x ^^^ y : Nat) : Int) := by
  unfold mm_xor
  refine bb_2 _ ?_ (Nat.xor_lt_two_pow (n := 31) hx hy)
  rw [Int32.toBitVec_xor, BitVec.toNat_xor, bb_1 hx, bb_1 hy]
theorem bb_s : ∀ n : Nat, n < 32 → ((Int32.ofInt (n : Int) &&& 31).toBitVec.smod 32).toNat = n := by decide +kernel
theorem bb_shr {x : Int} (hx : mm_in x) {y : Nat} (hy : y < 32) : mm_shr x y = x / ((2 ^ y : Nat) : Int) := by
  unfold mm_shr
  show (BitVec.sshiftRight (Int32.ofInt x).toBitVec ((Int32.ofInt (y : Int) &&& 31).toBitVec.smod 32).toNat).toInt = _
  rw [BitVec.toInt_sshiftRight, bb_s y hy]
  show (Int32.ofInt x).toInt >>> y = _
  rw [mm_i1 hx, Int.shiftRight_eq_div_pow]
theorem bb_shl1 : ∀ g : Nat, g < 31 → mm_shl 1 g = ((2 ^ g : Nat) : Int) := by decide +kernel
theorem bb_shlv : ∀ d : Nat, d < 16 → ∀ v : Nat, v < 3 → mm_shl ((d : Int) - 8) (6 - 3 * v) = ((d : Int) - 8) * ((8 ^ (2 - v) : Nat) : Int) := by decide +kernel
theorem bb_and7 {x : Int} (h0 : 0 ≤ x) (h1 : x < 2147483648) : mm_and x 7 = x % 8 := by
  obtain ⟨n, rfl⟩ := Int.eq_ofNat_of_zero_le h0
  have := bb_and (x := n) (y := 7) (by omega) (by decide)
  rw [show ((7 : Nat) : Int) = 7 from rfl] at this
  rw [this, show (7 : Nat) = 2 ^ 3 - 1 from rfl, Nat.and_two_pow_sub_one_eq_mod]
  omega
theorem bb_and1 {x : Int} (h0 : 0 ≤ x) (h1 : x < 2147483648) : mm_and x 1 = x % 2 := by
  obtain ⟨n, rfl⟩ := Int.eq_ofNat_of_zero_le h0
  have := bb_and (x := n) (y := 1) (by omega) (by decide)
  rw [show ((1 : Nat) : Int) = 1 from rfl] at this
  rw [this, show (1 : Nat) = 2 ^ 1 - 1 from rfl, Nat.and_two_pow_sub_one_eq_mod]
  omega
/-- the value of a variable -/
def vl (all v : Int) : Int := if v = 0 then all / 64 % 8 else if v = 1 then all / 8 % 8 else all % 8
theorem vl_eq {all v : Int} (ha : 0 ≤ all ∧ all < 2147483648) (hv : 0 ≤ v ∧ v ≤ 2) : mm_and (mm_shr all (6 - 3 * v)) 7 = vl all v := by
  obtain rfl | rfl | rfl : v = 0 ∨ v = 1 ∨ v = 2 := by omega
  · have := bb_shr (x := all) ⟨by omega, by omega⟩ (y := 6) (by decide)
    rw [show (6 - 3 * 0 : Int) = ((6 : Nat) : Int) from rfl, this, bb_and7 (by omega) (by omega)]
    rfl
  · have := bb_shr (x := all) ⟨by omega, by omega⟩ (y := 3) (by decide)
    rw [show (6 - 3 * 1 : Int) = ((3 : Nat) : Int) from rfl, this, bb_and7 (by omega) (by omega)]
    rfl
  · have := bb_shr (x := all) ⟨by omega, by omega⟩ (y := 0) (by decide)
    rw [show (6 - 3 * 2 : Int) = ((0 : Nat) : Int) from rfl, this, bb_and7 (by omega) (by omega)]
    show all / 1 % 8 = all % 8
    omega
theorem vl_in (all v : Int) : 0 ≤ vl all v ∧ vl all v ≤ 7 := by
  unfold vl
  split
  · omega
  · split <;> omega
end
section
/-! ===== for walks by program ===== -/
def ib (p : Prop) [Decidable p] : Int := if p then 1 else 0
theorem ib_in (p : Prop) [Decidable p] : 0 ≤ ib p ∧ ib p ≤ 1 := by unfold ib; split <;> omega
theorem ib_t {p : Prop} [Decidable p] (h : p) : ib p = 1 := if_pos h
theorem ib_f {p : Prop} [Decidable p] (h : ¬ p) : ib p = 0 := if_neg h
section MMR8
variable {K : mm_K} {n : Nat × Nat} {pc : Nat} {ls : List (Option mm_V)} {st : List mm_V} {b : mm_B} {w : mm_M} {Q : Option mm_V → mm_B → mm_M → Prop}
theorem k_gp {pc' : Nat} {ls' : List (Option mm_V)} {st' : List mm_V} {w' : mm_M} {a' : Prop} (h : mm_run K.2.2.1 K.2.2.2.1 K.2.2.2.2.1 400 (mm_lk K.2.2.1 pc) pc ls st b w True = (pc', ls', st', w', a')) (hp : Nat.beq pc pc' = false) (ha : a') (k : mm_Wk K n pc' ls' st' b w' Q) : mm_Wk K n pc ls st b w Q := k_go h ha k
theorem k_brt {P : Prop} {t f : Nat} {st' : List mm_V} (h : mm_brk K.2.2.1 pc st = some (P, t, f, st')) (hP : P) (kt : mm_Wk K n t ls st' b w Q) : mm_Wk K n pc ls st b w Q := k_br h (fun _ => kt) (fun q => absurd hP q)
theorem k_brf {P : Prop} {t f : Nat} {st' : List mm_V} (h : mm_brk K.2.2.1 pc st = some (P, t, f, st')) (hP : ¬ P) (kf : mm_Wk K n f ls st' b w Q) : mm_Wk K n pc ls st b w Q := k_br h (fun q => absurd q hP) (fun _ => kf)
theorem k_brz {p : Prop} [Decidable p] {t f : Nat} {st' : List mm_V} (h : mm_brk K.2.2.1 pc (.inl (ib p) :: st) = some (ib p = 0, t, f, st')) (kt : ¬ p → mm_Wk K n t ls st' b w Q) (kf : p → mm_Wk K n f ls st' b w Q) : mm_Wk K n pc ls (.inl (ib p) :: st) b w Q :=
  k_br h (fun q => kt (fun z => by rw [ib_t z] at q; cases q)) (fun q => kf (Classical.byContradiction fun z => q (ib_f z)))
theorem k_brn {p : Prop} [Decidable p] {t f : Nat} {st' : List mm_V} (h : mm_brk K.2.2.1 pc (.inl (ib p) :: st) = some (¬ ib p = 0, t, f, st')) (kt : p → mm_Wk K n t ls st' b w Q) (kf : ¬ p → mm_Wk K n f ls st' b w Q) : mm_Wk K n pc ls (.inl (ib p) :: st) b w Q :=
  k_br h (fun q => kt (Classical.byContradiction fun z => q (ib_f z))) (fun q => kf (fun z => q (by rw [ib_t z]; decide)))
/-- all the ways of a switch -/
def mm_tsG (K : mm_K) (n : Nat × Nat) (pc : Nat) (ls : List (Option mm_V)) (st : List mm_V) (b : mm_B) (w : mm_M) (Q : Option mm_V → mm_B → mm_M → Prop) (x : Int) : Int → List Int → Prop
  | _, [] => True
  | lo, o :: r => (x = lo → mm_Wk K n ((pc : Int) + o).toNat ls st b w Q) ∧ mm_tsG K n pc ls st b w Q x (lo + 1) r
theorem mm_tsn {x lo : Int} : mm_tsG K n pc ls st b w Q x lo [] := trivial
theorem mm_tsc {x lo o : Int} {r : List Int} (h : x = lo → mm_Wk K n ((pc : Int) + o).toNat ls st b w Q) (k : mm_tsG K n pc ls st b w Q x (lo + 1) r) : mm_tsG K n pc ls st b w Q x lo (o :: r) := ⟨h, k⟩
theorem mm_tsG_at {x : Int} : ∀ (offs : List Int) (lo : Int), mm_tsG K n pc ls st b w Q x lo offs → lo ≤ x → ∀ o, mm_nth offs (x - lo).toNat = some o → mm_Wk K n ((pc : Int) + o).toNat ls st b w Q := by
  intro offs
  induction offs with
  | nil => intro lo _ _ o h; cases h
  | cons a r ih =>
    intro lo h h0 o ho
    by_cases hx : x = lo
    · subst hx
      rw [show (x - x).toNat = 0 by omega] at ho
      cases ho
      exact h.1 rfl
    · rw [show (x - lo).toNat = (x - (lo + 1)).toNat + 1 by omega] at ho
      exact ih (lo + 1) h.2 (by omega) o ho
theorem k_ts {x d lo hi : Int} {offs : List Int} (h : mm_tsw K.2.2.1 pc = some (d, lo, hi, offs)) (hp : (offs.all (fun o => decide (0 ≤ (pc : Int) + o)) && decide (0 ≤ (pc : Int) + d) && decide ((offs.length : Int) = hi - lo + 1)) = true) (k : mm_tsG K n pc ls st b w Q x lo offs) (kd : x < lo ∨ hi < x → mm_Wk K n ((pc : Int) + d).toNat ls st b w Q) : mm_Wk K n pc ls (.inl x :: st) b w Q := by
  simp only [Bool.and_eq_true, List.all_eq_true, decide_eq_true_eq] at hp
  obtain ⟨⟨h1, h2⟩, h3⟩ := hp
  by_cases hx : x < lo ∨ hi < x
  · exact k_tsOut h hx h2 (kd hx)
  · have hl : (x - lo).toNat < offs.length := by omega
    have ho : mm_nth offs (x - lo).toNat = some offs[(x - lo).toNat] := by rw [mm_nth_get]; exact List.getElem?_eq_getElem hl
    exact k_tsIn h (by omega) (by omega) ho (h1 _ (List.getElem_mem hl)) (mm_tsG_at offs lo k (by omega) _ ho)
end MMR8
theorem mm_loop {σ : Type} (N : Int) (I : Int → σ → Prop) (G : Int → σ → Prop) (hs : ∀ i s, i < N → I i s → (∀ s', I (i + 1) s' → G (i + 1) s') → G i s) (he : ∀ i s, N ≤ i → I i s → G i s) : ∀ i s, I i s → G i s := by
  intro i s h
  generalize hk : (N - i).toNat = k
  induction k generalizing i s with
  | zero => exact he i s (by omega) h
  | succ k ih => exact hs i s (by omega) h (fun s' h' => ih (i + 1) s' h' (by omega))
theorem mm_loopm {σ : Type} (μ : σ → Nat) (I G : σ → Prop) (hs : ∀ s, I s → (∀ s', I s' → μ s' < μ s → G s') → G s) : ∀ s, I s → G s := by
  intro s h
  generalize hk : μ s = k
  induction k using Nat.strongRecOn generalizing s with
  | ind k ih => exact hs s h (fun s' h' hl => ih (μ s') (by omega) s' h' rfl)
end
section
/-! ===== what stays of the memory ===== -/
theorem up_g {w : mm_M} {g g' : Nat} {j k v j' k' : Int} (h : Nat.beq g' g = false) : mm_up w g j k v g' j' k' = w g' j' k' := by
  unfold mm_up
  refine if_neg fun q => ?_
  rw [q.1, Nat.beq_refl] at h
  cases h
theorem up_s {w : mm_M} {g : Nat} {j k v : Int} : mm_up w g j k v g j k = v := by
  unfold mm_up
  exact if_pos ⟨rfl, rfl, rfl⟩
theorem up_k {w : mm_M} {g : Nat} {j k v j' k' : Int} (h : k' ≠ k) : mm_up w g j k v g j' k' = w g j' k' := by
  unfold mm_up
  exact if_neg fun q => h q.2.2
theorem up_j {w : mm_M} {g : Nat} {j k v j' k' : Int} (h : j' ≠ j) : mm_up w g j k v g j' k' = w g j' k' := by
  unfold mm_up
  exact if_neg fun q => h q.2.1
theorem up_at {w : mm_M} {g : Nat} {j k v k' : Int} : mm_up w g j k v g j k' = if k' = k then v else w g j k' := by
  unfold mm_up
  by_cases h : k' = k
  · rw [if_pos ⟨rfl, rfl, h⟩, if_pos h]
  · rw [if_neg (fun q => h q.2.2), if_neg h]
/-- a place of the memory is none of those listed (a group, or a field of it) -/
def frB (L : List (Nat × Option Int)) (g : Nat) (k : Int) : Bool := L.all fun q => !(Nat.beq q.1 g && (match q.2 with
  | none => true
  | some k' => decide (k' = k)))
/-- all but the places listed stays -/
def sm (L : List (Nat × Option Int)) (w w' : mm_M) : Prop := ∀ g j k, frB L g k = true → w' g j k = w g j k
theorem sm_rf {L : List (Nat × Option Int)} {w : mm_M} : sm L w w := fun _ _ _ _ => rfl
theorem sm_tr {L : List (Nat × Option Int)} {w w1 w2 : mm_M} (h1 : sm L w w1) (h2 : sm L w1 w2) : sm L w w2 := fun g j k h => (h2 g j k h).trans (h1 g j k h)
theorem frB_sub {L L' : List (Nat × Option Int)} (h : ∀ q ∈ L, q ∈ L' ∨ (q.1, none) ∈ L') {g : Nat} {k : Int} (hf : frB L' g k = true) : frB L g k = true := by
  unfold frB at hf ⊢
  rw [List.all_eq_true] at hf ⊢
  intro q hq
  rcases h q hq with h1 | h1
  · exact hf q h1
  · have := hf _ h1
    have h2 : Nat.beq q.1 g = false := by
      cases hb : Nat.beq q.1 g with
      | false => rfl
      | true => simp [hb] at this
    simp [h2]
theorem sm_w {L L' : List (Nat × Option Int)} {w w' : mm_M} (h : sm L w w') (hs : ∀ q ∈ L, q ∈ L' ∨ (q.1, none) ∈ L') : sm L' w w' := fun g j k hf => h g j k (frB_sub hs hf)
theorem sm_up {L : List (Nat × Option Int)} {w w' : mm_M} {g : Nat} {j k v : Int} (h : sm L w w') (hm : (g, none) ∈ L ∨ (g, some k) ∈ L) : sm L w (mm_up w' g j k v) := by
  intro g' j' k' hf
  rw [← h g' j' k' hf]
  unfold mm_up
  refine if_neg fun q => ?_
  unfold frB at hf
  rw [List.all_eq_true] at hf
  obtain ⟨rfl, -, rfl⟩ := q
  rcases hm with hm | hm
  · have := hf _ hm
    simp [Nat.beq_refl] at this
  · have := hf _ hm
    simp [Nat.beq_refl] at this
/-- n elements from a on are written -/
def arrw (w : mm_M) (g : Nat) (a n : Int) (f : Int → Int) : mm_M := fun g' j' k' => if g' = g ∧ j' = 0 ∧ a ≤ k' ∧ k' < a + n then f (k' - a) else w g' j' k'
theorem arrw_0 {w : mm_M} {g : Nat} {a : Int} {f : Int → Int} : arrw w g a 0 f = w := by
  funext g' j' k'
  unfold arrw
  exact if_neg fun q => by omega
theorem arrw_s {w : mm_M} {g : Nat} {a i k v : Int} {f : Int → Int} (hi : 0 ≤ i) (hk : k = a + i) (hv : v = f i) : mm_up (arrw w g a i f) g 0 k v = arrw w g a (i + 1) f := by
  subst hk; subst hv
  funext g' j' k'
  unfold mm_up arrw
  by_cases h : g' = g ∧ j' = 0 ∧ k' = a + i
  · rw [if_pos h, if_pos ⟨h.1, h.2.1, by omega, by omega⟩, show k' - a = i by omega]
  · rw [if_neg h]
    by_cases h2 : g' = g ∧ j' = 0 ∧ a ≤ k' ∧ k' < a + i
    · rw [if_pos h2, if_pos ⟨h2.1, h2.2.1, h2.2.2.1, by omega⟩]
    · rw [if_neg h2, if_neg (fun q => h2 ⟨q.1, q.2.1, q.2.2.1, by
        have : k' ≠ a + i := fun z => h ⟨q.1, q.2.1, z⟩
        omega⟩)]
theorem arrw_g {w : mm_M} {g g' : Nat} {a n j' k' : Int} {f : Int → Int} (h : Nat.beq g' g = false) : arrw w g a n f g' j' k' = w g' j' k' := by
  unfold arrw
  refine if_neg fun q => ?_
  rw [q.1, Nat.beq_refl] at h
  cases h
theorem arrw_in {w : mm_M} {g : Nat} {a n k' : Int} {f : Int → Int} (h : a ≤ k' ∧ k' < a + n) : arrw w g a n f g 0 k' = f (k' - a) := by
  unfold arrw
  exact if_pos ⟨rfl, rfl, h.1, h.2⟩
theorem arrw_out {w : mm_M} {g : Nat} {a n j' k' : Int} {f : Int → Int} (h : k' < a ∨ a + n ≤ k') : arrw w g a n f g j' k' = w g j' k' := by
  unfold arrw
  exact if_neg fun q => by omega
theorem sm_arrw {L : List (Nat × Option Int)} {w w' : mm_M} {g : Nat} {a n : Int} {f : Int → Int} (h : sm L w w') (hm : (g, none) ∈ L) : sm L w (arrw w' g a n f) := by
  intro g' j' k' hf
  rw [← h g' j' k' hf]
  unfold arrw
  refine if_neg fun q => ?_
  unfold frB at hf
  rw [List.all_eq_true] at hf
  have := hf _ hm
  rw [q.1] at this
  simp [Nat.beq_refl] at this
end
section
/-! ===== the reference: small methods ===== -/
/-- variables that there are not have 0 -/
def thB (nv all : Int) : Bool := decide ((0 < nv ∨ vl all 0 = 0) ∧ (1 < nv ∨ vl all 1 = 0) ∧ (2 < nv ∨ vl all 2 = 0))
/-- a comparison, of kind k, v and x, is so -/
def sB (k v x vx : Int) : Bool := decide ((k = 0 ∧ v < x) ∨ (k = 1 ∧ v = x) ∨ (k = 2 ∧ v < vx) ∨ (k = 3 ∧ v = vx) ∨ (¬ (0 ≤ k ∧ k ≤ 3) ∧ v + vx < 8))
def soB (c : Int → Int → Int) (g all : Int) : Bool := sB (c g 0) (vl all (c g 1)) (c g 2) (vl all (c g 2))
def p8 (v : Int) : Int := if v = 0 then 64 else if v = 1 then 8 else 1
/-- what the variable becomes by an edge -/
def nw_ (e : Int → Int → Int) (x all : Int) : Int := if e x 4 = 1 then e x 6 else if e x 4 = 2 then vl all (e x 5) + e x 6 else if e x 4 = 3 then vl all (e x 5) - e x 6 else if e x 4 = 4 then vl all (e x 6) else vl all (e x 5) + vl all (e x 6)
/-- what an edge does, whatever it asks -/
def gx_ (e : Int → Int → Int) (x all : Int) : Int := if e x 4 = 0 then all else if 0 ≤ nw_ e x all ∧ nw_ e x all ≤ 7 then all + (nw_ e x all - vl all (e x 5)) * p8 (e x 5) else -1
/-- where an edge leads, -1 if it can not be gone -/
def go_ (c e : Int → Int → Int) (x all : Int) : Int := if e x 2 ≠ 9 ∧ soB c (e x 2) all ≠ decide (e x 3 = 1) then -1 else gx_ e x all
/-- a comparison, an edge, as a text may tell it -/
def cOK (c : Int → Int → Int) (g nv : Int) : Prop := (0 ≤ c g 1 ∧ c g 1 < nv) ∧ (0 ≤ c g 0 ∧ c g 0 ≤ 4) ∧ (0 ≤ c g 2 ∧ c g 2 ≤ 9) ∧ (2 ≤ c g 0 → c g 2 < nv)
def eOK (e : Int → Int → Int) (x np nc nv : Int) : Prop := (0 ≤ e x 0 ∧ e x 0 < np) ∧ (0 ≤ e x 1 ∧ e x 1 < np) ∧ (e x 2 = 9 ∨ (0 ≤ e x 2 ∧ e x 2 < nc)) ∧ (0 ≤ e x 3 ∧ e x 3 ≤ 1) ∧ (0 ≤ e x 4 ∧ e x 4 ≤ 5) ∧ (e x 4 ≠ 0 → 0 ≤ e x 5 ∧ e x 5 < nv) ∧ (e x 4 = 1 → 0 ≤ e x 6 ∧ e x 6 ≤ 7) ∧ (0 ≤ e x 6 ∧ e x 6 ≤ 9) ∧ (4 ≤ e x 4 → e x 6 < nv)
/-- the reference's comparisons, edges (T as it is now) -/
def m_c (w : mm_M) (g k : Int) : Int := w 4 0 (3 * g + k)
def m_e (w : mm_M) (e k : Int) : Int := if k = 3 then w 6 0 (8 + ((e.toNat : Nat) : Int)) else w 5 0 (7 * e + k)
theorem m_e3 {w : mm_M} {e : Int} (h : 0 ≤ e) : m_e w e 3 = w 6 0 (8 + e) := by
  unfold m_e
  rw [if_pos rfl, Int.toNat_of_nonneg h]
theorem p8_in (v : Int) : 1 ≤ p8 v ∧ p8 v ≤ 64 := by unfold p8; split; omega; split <;> omega
theorem p8_mul (d v : Int) (hd : -7 ≤ d ∧ d ≤ 7) : -448 ≤ d * p8 v ∧ d * p8 v ≤ 448 := by unfold p8; split; omega; split <;> omega
theorem shl_p8 {d v : Int} (hd : -7 ≤ d ∧ d ≤ 7) (hv : 0 ≤ v ∧ v ≤ 2) : mm_shl d (6 - 3 * v) = d * p8 v := by
  obtain ⟨n, hn⟩ : ∃ n : Nat, d = (n : Int) - 8 := ⟨(d + 8).toNat, by omega⟩
  obtain ⟨u, rfl⟩ : ∃ u : Nat, v = (u : Int) := ⟨v.toNat, by omega⟩
  subst hn
  rw [bb_shlv n (by omega) u (by omega)]
  obtain rfl | rfl | rfl : u = 0 ∨ u = 1 ∨ u = 2 := by omega
  · rfl
  · rfl
  · rfl
section ME
variable {r y : Bool} {w : mm_M}
theorem ev_m_isIn {v lo hi : Int} : mm_Ev K_X10_isIn (0, 0) [.inl v, .inl lo, .inl hi] (PH r y) w (mm_pe (some (.inl (ib (lo ≤ v ∧ v ≤ hi)))) (PH r y) w) := by
  refine ev_intro ok_X10_isIn mo_X10_isIn (Nat.le_of_ble_eq_true rfl) (fun hrg has => ?_)
  repeat' (first
    | refine k_brt rfl (by decide) ?_
    | refine k_brf rfl (by decide) ?_
    | refine k_brz rfl (fun _ => ?_) (fun _ => ?_)
    | refine k_brn rfl (fun _ => ?_) (fun _ => ?_)
    | refine k_br rfl (fun _ => ?_) (fun _ => ?_)
    | refine k_ret rfl ?_ ⟨?_, rfl, rfl⟩
    | refine k_ts rfl rfl ?_ (fun _ => ?_)
    | refine mm_tsc (fun _ => ?_) ?_
    | exact mm_tsn
    | refine k_gp rfl rfl ?_ ?_)
  all_goals (first | trivial | omega | (simp only [true_and, mm_fits]; omega) | (refine congrArg some (congrArg Sum.inl ?_); first | rfl | (rw [ib_t (by omega)]) | (rw [ib_f (by omega)]) | omega))
theorem ev_m_value {all v : Int} (ha : 0 ≤ all ∧ all < 2147483648) (hv : 0 ≤ v ∧ v ≤ 2) : mm_Ev K_X10_value (0, 0) [.inl all, .inl v] (PH r y) w (mm_pe (some (.inl (vl all v))) (PH r y) w) := by
  refine ev_intro ok_X10_value mo_X10_value (Nat.le_of_ble_eq_true rfl) (fun hrg has => ?_)
  repeat' (first
    | refine k_brt rfl (by decide) ?_
    | refine k_brf rfl (by decide) ?_
    | refine k_brz rfl (fun _ => ?_) (fun _ => ?_)
    | refine k_brn rfl (fun _ => ?_) (fun _ => ?_)
    | refine k_br rfl (fun _ => ?_) (fun _ => ?_)
    | refine k_ret rfl ?_ ⟨?_, rfl, rfl⟩
    | refine k_ts rfl rfl ?_ (fun _ => ?_)
    | refine mm_tsc (fun _ => ?_) ?_
    | exact mm_tsn
    | refine k_gp rfl rfl ?_ ?_)
  all_goals (first | trivial | omega | (simp only [true_and, mm_fits]; omega) | (refine congrArg some (congrArg Sum.inl ?_); first | rfl | (rw [ib_t (by omega)]) | (rw [ib_f (by omega)]) | omega) | (rw [vl_eq ha hv]))
theorem ev_m_isThere {all : Int} (ha : 0 ≤ all ∧ all < 512) : mm_Ev K_X10_isThere (0, 0) [.inr (some (1, 0)), .inl all] (PH r y) w (mm_pe (some (.inl (ib (thB (w 1 0 4) all = true)))) (PH r y) w) := by
  refine ev_intro ok_X10_isThere mo_X10_isThere (Nat.le_of_ble_eq_true rfl) (fun hrg has => ?_)
  simp only [thB, decide_eq_true_eq]
  repeat' (first
    | refine k_brt rfl (by decide) ?_
    | refine k_brf rfl (by decide) ?_
    | refine k_brz rfl (fun _ => ?_) (fun _ => ?_)
    | refine k_brn rfl (fun _ => ?_) (fun _ => ?_)
    | refine k_br rfl (fun _ => ?_) (fun _ => ?_)
    | refine k_ret rfl ?_ ⟨?_, rfl, rfl⟩
    | refine k_callp rfl (ev_m_value ?_ ?_) rfl rfl rfl (by decide) ?_
    | refine k_ts rfl rfl ?_ (fun _ => ?_)
    | refine mm_tsc (fun _ => ?_) ?_
    | exact mm_tsn
    | refine k_gp rfl rfl ?_ ?_)
  all_goals (first | trivial | omega | (simp only [true_and, mm_fits]; omega) | (refine congrArg some (congrArg Sum.inl ?_); first | rfl | (rw [ib_t (by omega)]) | (rw [ib_f (by omega)]) | omega))
theorem ev_m_isSo {g all nv : Int} (ha : 0 ≤ all ∧ all < 512) (hg : 0 ≤ g ∧ g < 8) (hnv : nv ≤ 3) (hc : cOK (m_c w) g nv) : mm_Ev K_X10_isSo (0, 0) [.inr (some (1, 0)), .inl g, .inl all] (PH r y) w (mm_pe (some (.inl (ib (soB (m_c w) g all = true)))) (PH r y) w) := by
  refine ev_intro ok_X10_isSo mo_X10_isSo (Nat.le_of_ble_eq_true rfl) (fun hrg has => ?_)
  have e0 : w 4 0 (3 * g + 0) = w 4 0 (3 * g) := by rw [Int.add_zero]
  simp only [cOK, m_c, e0] at hc
  simp only [soB, sB, m_c, e0, decide_eq_true_eq]
  have v1 := vl_in all (w 4 0 (3 * g + 1))
  have v2 := vl_in all (w 4 0 (3 * g + 2))
  repeat' (first
    | refine k_brt rfl (by decide) ?_
    | refine k_brf rfl (by decide) ?_
    | refine k_brz rfl (fun _ => ?_) (fun _ => ?_)
    | refine k_brn rfl (fun _ => ?_) (fun _ => ?_)
    | refine k_br rfl (fun _ => ?_) (fun _ => ?_)
    | refine k_ret rfl ?_ ⟨?_, rfl, rfl⟩
    | refine k_callp rfl (ev_m_value ?_ ?_) rfl rfl rfl (by decide) ?_
    | refine k_ts rfl rfl ?_ (fun _ => ?_)
    | refine mm_tsc (fun _ => ?_) ?_
    | exact mm_tsn
    | refine k_gp rfl rfl ?_ ?_)
  all_goals (first | trivial | omega | (simp only [true_and, mm_fits]; omega) | (refine congrArg some (congrArg Sum.inl ?_); first | rfl | (rw [ib_t (by omega)]) | (rw [ib_f (by omega)]) | omega))
theorem ev_m_goes {e all np nc nv : Int} (ha : 0 ≤ all ∧ all < 512) (he : 0 ≤ e ∧ e < 14) (hnv : nv ≤ 3) (hnc : nc ≤ 8) (hc : ∀ g, 0 ≤ g → g < nc → cOK (m_c w) g nv) (hE : eOK (m_e w) e np nc nv) : mm_Ev K_X10_goes (0, 0) [.inr (some (1, 0)), .inl e, .inl all] (PH r y) w (mm_pe (some (.inl (go_ (m_c w) (m_e w) e all))) (PH r y) w) := by
  refine ev_intro ok_X10_goes mo_X10_goes (Nat.le_of_ble_eq_true rfl) (fun hrg has => ?_)
  have e2 : m_e w e 2 = w 5 0 (7 * e + 2) := rfl
  have e3 : m_e w e 3 = w 6 0 (8 + e) := m_e3 he.1
  have e4 : m_e w e 4 = w 5 0 (7 * e + 4) := rfl
  have e5 : m_e w e 5 = w 5 0 (7 * e + 5) := rfl
  have e6 : m_e w e 6 = w 5 0 (7 * e + 6) := rfl
  have v5 := vl_in all (w 5 0 (7 * e + 5))
  obtain ⟨-, -, h2, h3, h4, h5, h6, h7, h8⟩ := hE
  rw [e2] at h2
  rw [e3] at h3
  rw [e4] at h4 h5 h6 h8
  rw [e5] at h5
  rw [e6] at h6 h7 h8
  have J165 : ∀ nw : Int, (0 ≤ w 5 0 (7 * e + 5) ∧ w 5 0 (7 * e + 5) ≤ 2) → -9 ≤ nw ∧ nw ≤ 16 → mm_Wk K_X10_goes (0, 0) 165 [some (.inr (some (1, 0))), some (.inl e), some (.inl all), some (.inl (w 5 0 (7 * e + 2))), some (.inl (w 5 0 (7 * e + 4))), some (.inl (w 5 0 (7 * e + 5))), some (.inl (w 5 0 (7 * e + 6))), some (.inl (vl all (w 5 0 (7 * e + 5)))), none] [.inl nw] (PH r y) w (mm_pe (some (.inl (if 0 ≤ nw ∧ nw ≤ 7 then all + (nw - vl all (w 5 0 (7 * e + 5))) * p8 (w 5 0 (7 * e + 5)) else -1))) (PH r y) w) := fun nw hv hb => by
    clear h2 h3 h4 h5 h6 h7 h8
    refine k_gp rfl rfl trivial ?_
    refine k_callp rfl ev_m_isIn rfl rfl rfl (by decide) ?_
    refine k_brz rfl (fun h0 => ?_) (fun h0 => ?_)
    · rw [if_neg h0]
      repeat' (first
        | refine k_brt rfl (by decide) ?_
        | refine k_brf rfl (by decide) ?_
        | refine k_brz rfl (fun _ => ?_) (fun _ => ?_)
        | refine k_brn rfl (fun _ => ?_) (fun _ => ?_)
        | refine k_br rfl (fun _ => ?_) (fun _ => ?_)
        | refine k_ret rfl ?_ ⟨?_, rfl, rfl⟩
        | refine k_ts rfl rfl ?_ (fun _ => ?_)
        | refine mm_tsc (fun _ => ?_) ?_
        | exact mm_tsn
        | refine k_gp rfl rfl ?_ ?_)
      all_goals (first | trivial | omega | (simp only [true_and, mm_fits]; omega) | (refine congrArg some (congrArg Sum.inl ?_); first | rfl | (rw [ib_t (by omega)]) | (rw [ib_f (by omega)]) | omega))
    · rw [if_pos h0]
      have hm := p8_mul (nw - vl all (w 5 0 (7 * e + 5))) (w 5 0 (7 * e + 5)) (by omega)
      rw [← shl_p8 (by omega) hv] at hm ⊢
      repeat' (first
        | refine k_brt rfl (by decide) ?_
        | refine k_brf rfl (by decide) ?_
        | refine k_brz rfl (fun _ => ?_) (fun _ => ?_)
        | refine k_brn rfl (fun _ => ?_) (fun _ => ?_)
        | refine k_br rfl (fun _ => ?_) (fun _ => ?_)
        | refine k_ret rfl ?_ ⟨?_, rfl, rfl⟩
        | refine k_ts rfl rfl ?_ (fun _ => ?_)
        | refine mm_tsc (fun _ => ?_) ?_
        | exact mm_tsn
        | refine k_gp rfl rfl ?_ ?_)
      all_goals (first | trivial | omega | (simp only [true_and, mm_fits]; omega) | (refine congrArg some (congrArg Sum.inl ?_); first | rfl | (rw [ib_t (by omega)]) | (rw [ib_f (by omega)]) | omega))
  have J47 : mm_Wk K_X10_goes (0, 0) 47 [some (.inr (some (1, 0))), some (.inl e), some (.inl all), some (.inl (w 5 0 (7 * e + 2))), none, none, none, none, none] [] (PH r y) w (mm_pe (some (.inl (gx_ (m_e w) e all))) (PH r y) w) := by
    refine k_gp rfl rfl (by clear h2 h3 h4 h5 h6 h7 h8; simp only [true_and]; omega) ?_
    unfold gx_
    rw [e4, e5]
    refine k_br rfl (fun h1 => ?_) (fun h1 => ?_)
    · rw [if_neg h1]
      have hv := h5 h1
      refine k_gp rfl rfl (by clear h2 h3 h4 h5 h6 h7 h8; simp only [true_and]; omega) ?_
      refine k_callp rfl (ev_m_value (by omega) (by omega)) rfl rfl rfl (by decide) ?_
      clear h2 h3 h5
      have hvv : 0 ≤ w 5 0 (7 * e + 5) ∧ w 5 0 (7 * e + 5) ≤ 2 := by omega
      have v6 := vl_in all (w 5 0 (7 * e + 6))
      have key : ∀ nw : Int, nw = nw_ (m_e w) e all → (-9 ≤ nw ∧ nw ≤ 16) → mm_Wk K_X10_goes (0, 0) 165 [some (.inr (some (1, 0))), some (.inl e), some (.inl all), some (.inl (w 5 0 (7 * e + 2))), some (.inl (w 5 0 (7 * e + 4))), some (.inl (w 5 0 (7 * e + 5))), some (.inl (w 5 0 (7 * e + 6))), some (.inl (vl all (w 5 0 (7 * e + 5)))), none] [.inl nw] (PH r y) w (mm_pe (some (.inl (if 0 ≤ nw_ (m_e w) e all ∧ nw_ (m_e w) e all ≤ 7 then all + (nw_ (m_e w) e all - vl all (w 5 0 (7 * e + 5))) * p8 (w 5 0 (7 * e + 5)) else -1))) (PH r y) w) := fun nw q1 q2 => by
        rw [← q1]
        exact J165 nw hvv q2
      have hn : nw_ (m_e w) e all = if w 5 0 (7 * e + 4) = 1 then w 5 0 (7 * e + 6) else if w 5 0 (7 * e + 4) = 2 then vl all (w 5 0 (7 * e + 5)) + w 5 0 (7 * e + 6) else if w 5 0 (7 * e + 4) = 3 then vl all (w 5 0 (7 * e + 5)) - w 5 0 (7 * e + 6) else if w 5 0 (7 * e + 4) = 4 then vl all (w 5 0 (7 * e + 6)) else vl all (w 5 0 (7 * e + 5)) + vl all (w 5 0 (7 * e + 6)) := rfl
      rw [hn] at key ⊢
      clear hn J165
      refine k_gp rfl rfl trivial ?_
      refine k_br rfl (fun g1 => ?_) (fun g1 => ?_)
      · refine k_gp rfl rfl trivial ?_
        refine k_br rfl (fun g2 => ?_) (fun g2 => ?_)
        · refine k_gp rfl rfl trivial ?_
          refine k_br rfl (fun g3 => ?_) (fun g3 => ?_)
          · refine k_gp rfl rfl trivial ?_
            refine k_br rfl (fun g4 => ?_) (fun g4 => ?_)
            · refine k_gp rfl rfl trivial ?_
              refine k_callp rfl (ev_m_value (by omega) (by omega)) rfl rfl rfl (by decide) ?_
              refine k_gp rfl rfl (by simp only [true_and]; omega) ?_
              exact key _ (by rw [if_neg g1, if_neg g2, if_neg g3, if_neg g4]) (by omega)
            · have g4 : w 5 0 (7 * e + 4) = 4 := Classical.byContradiction g4
              refine k_gp rfl rfl trivial ?_
              refine k_callp rfl (ev_m_value (by omega) (by omega)) rfl rfl rfl (by decide) ?_
              refine k_gp rfl rfl trivial ?_
              exact key _ (by rw [if_neg g1, if_neg g2, if_neg g3, if_pos g4]) (by omega)
          · have g3 : w 5 0 (7 * e + 4) = 3 := Classical.byContradiction g3
            refine k_gp rfl rfl (by simp only [true_and]; omega) ?_
            exact key _ (by rw [if_neg g1, if_neg g2, if_pos g3]) (by omega)
        · have g2 : w 5 0 (7 * e + 4) = 2 := Classical.byContradiction g2
          refine k_gp rfl rfl (by simp only [true_and]; omega) ?_
          exact key _ (by rw [if_neg g1, if_pos g2]) (by omega)
      · have g1 : w 5 0 (7 * e + 4) = 1 := Classical.byContradiction g1
        refine k_gp rfl rfl trivial ?_
        exact key _ (by rw [if_pos g1]) (by omega)
    · have h1 : w 5 0 (7 * e + 4) = 0 := Classical.byContradiction h1
      rw [if_pos h1]
      clear J165 h2 h3 h4 h5 h6 h7 h8
      repeat' (first
        | refine k_brt rfl (by decide) ?_
        | refine k_brf rfl (by decide) ?_
        | refine k_brz rfl (fun _ => ?_) (fun _ => ?_)
        | refine k_brn rfl (fun _ => ?_) (fun _ => ?_)
        | refine k_br rfl (fun _ => ?_) (fun _ => ?_)
        | refine k_ret rfl ?_ ⟨?_, rfl, rfl⟩
        | refine k_ts rfl rfl ?_ (fun _ => ?_)
        | refine mm_tsc (fun _ => ?_) ?_
        | exact mm_tsn
        | refine k_gp rfl rfl ?_ ?_)
      all_goals (first | trivial | omega | (simp only [true_and, mm_fits]; omega) | (refine congrArg some (congrArg Sum.inl ?_); first | rfl | (rw [ib_t (by omega)]) | (rw [ib_f (by omega)]) | omega))
  unfold go_
  rw [e2, e3]
  clear J165 h4 h5 h6 h7 h8
  refine k_gp rfl rfl (by simp only [true_and]; omega) ?_
  refine k_br rfl (fun h1 => ?_) (fun h1 => ?_)
  · rw [if_neg (fun q => q.1 (by omega))]
    exact J47
  · refine k_gp rfl rfl trivial ?_
    refine k_callp rfl (ev_m_isSo (nv := nv) ha (by omega) hnv (hc _ (by omega) (by omega))) rfl rfl rfl (by decide) ?_
    refine k_gp rfl rfl (by simp only [true_and]; omega) ?_
    refine k_br rfl (fun ht => ?_) (fun ht => ?_)
    · refine k_gp rfl rfl trivial ?_
      cases hs : soB (m_c w) (w 5 0 (7 * e + 2)) all with
      | true =>
        refine k_brf rfl (by decide) ?_
        rw [if_pos ⟨by omega, by rw [decide_eq_false ht]; decide⟩]
        repeat' (first
          | refine k_brt rfl (by decide) ?_
          | refine k_brf rfl (by decide) ?_
          | refine k_brz rfl (fun _ => ?_) (fun _ => ?_)
          | refine k_brn rfl (fun _ => ?_) (fun _ => ?_)
          | refine k_br rfl (fun _ => ?_) (fun _ => ?_)
          | refine k_ret rfl ?_ ⟨?_, rfl, rfl⟩
          | refine k_ts rfl rfl ?_ (fun _ => ?_)
          | refine mm_tsc (fun _ => ?_) ?_
          | exact mm_tsn
          | refine k_gp rfl rfl ?_ ?_)
        all_goals (first | trivial | omega | (simp only [true_and, mm_fits]; omega) | (refine congrArg some (congrArg Sum.inl ?_); first | rfl | (rw [ib_t (by omega)]) | (rw [ib_f (by omega)]) | omega))
      | false =>
        refine k_brt rfl (by decide) ?_
        rw [if_neg (fun q => q.2 (by rw [decide_eq_false ht]))]
        exact J47
    · have ht : w 6 0 (8 + e) = 1 := Classical.byContradiction ht
      refine k_gp rfl rfl trivial ?_
      cases hs : soB (m_c w) (w 5 0 (7 * e + 2)) all with
      | true =>
        refine k_brt rfl (by decide) ?_
        rw [if_neg (fun q => q.2 (by rw [decide_eq_true ht]))]
        exact J47
      | false =>
        refine k_brf rfl (by decide) ?_
        rw [if_pos ⟨by omega, by rw [decide_eq_true ht]; decide⟩]
        repeat' (first
          | refine k_brt rfl (by decide) ?_
          | refine k_brf rfl (by decide) ?_
          | refine k_brz rfl (fun _ => ?_) (fun _ => ?_)
          | refine k_brn rfl (fun _ => ?_) (fun _ => ?_)
          | refine k_br rfl (fun _ => ?_) (fun _ => ?_)
          | refine k_ret rfl ?_ ⟨?_, rfl, rfl⟩
          | refine k_ts rfl rfl ?_ (fun _ => ?_)
          | refine mm_tsc (fun _ => ?_) ?_
          | exact mm_tsn
          | refine k_gp rfl rfl ?_ ?_)
        all_goals (first | trivial | omega | (simp only [true_and, mm_fits]; omega) | (refine congrArg some (congrArg Sum.inl ?_); first | rfl | (rw [ib_t (by omega)]) | (rw [ib_f (by omega)]) | omega))
end ME
end
section
/-! ===== the reference: first values, cubes, figures ===== -/
def bts (f : Nat → Bool) : Nat → Nat
  | 0 => 0
  | n + 1 => bts f n ||| (if f n = true then 2 ^ n else 0)
theorem bts_lt (f : Nat → Bool) (n : Nat) : bts f n < 2 ^ n := by
  induction n with
  | zero => exact Nat.zero_lt_one
  | succ n ih =>
    refine Nat.or_lt_two_pow (Nat.lt_trans ih (Nat.pow_lt_pow_succ (by decide))) ?_
    split
    · exact Nat.pow_lt_pow_succ (by decide)
    · exact Nat.two_pow_pos _
theorem bts_bit (f : Nat → Bool) (n i : Nat) : (bts f n).testBit i = (decide (i < n) && f i) := by
  induction n with
  | zero => simp [bts]
  | succ n ih =>
    show (bts f n ||| (if f n = true then 2 ^ n else 0)).testBit i = _
    rw [Nat.testBit_or, ih]
    by_cases h : i = n
    · subst h
      by_cases hf : f i = true
      · simp [hf]
      · simp [hf]
    · by_cases hf : f n = true
      · rw [if_pos hf, Nat.testBit_two_pow_of_ne (by omega)]
        by_cases hi : i < n
        · simp [hi, show i < n + 1 by omega]
        · simp [hi, show ¬ i < n + 1 by omega]
      · rw [if_neg hf]
        by_cases hi : i < n
        · simp [hi, show i < n + 1 by omega]
        · simp [hi, show ¬ i < n + 1 by omega]
/-- a bit -/
abbrev hb (L g : Int) : Prop := L / ((2 ^ g.toNat : Nat) : Int) % 2 = 1
theorem hb_eq {L g : Int} (hL : 0 ≤ L ∧ L < 2147483648) (hg : 0 ≤ g ∧ g < 31) : mm_and (mm_shr L g) 1 = L / ((2 ^ g.toNat : Nat) : Int) % 2 := by
  have := bb_shr (x := L) ⟨by omega, by omega⟩ (y := g.toNat) (by omega)
  rw [show ((g.toNat : Nat) : Int) = g by omega] at this
  rw [this]
  have h0 : 0 ≤ L / ((2 ^ g.toNat : Nat) : Int) := Int.ediv_nonneg hL.1 (Int.natCast_nonneg _)
  have h1 : L / ((2 ^ g.toNat : Nat) : Int) ≤ L := Int.ediv_le_self _ hL.1
  exact bb_and1 h0 (by omega)
theorem shl1 {g : Int} (hg : 0 ≤ g ∧ g < 31) : mm_shl 1 g = ((2 ^ g.toNat : Nat) : Int) := by
  have := bb_shl1 g.toNat (by omega)
  rw [show ((g.toNat : Nat) : Int) = g by omega] at this
  exact this
/-- the cube of values: which of those looked at are so -/
def cub (c : Int → Int → Int) (nc L all : Int) : Int := ((bts (fun g => decide (hb L g) && soB c g all) nc.toNat : Nat) : Int)
/-- first values -/
def fvB (f : Int → Int) (all v : Int) : Bool := decide (f (2 * v) ≤ vl all v ∧ vl all v ≤ f (2 * v + 1))
def fsB (f : Int → Int) (nv all : Int) : Bool := thB nv all && (List.range nv.toNat).all (fun v : Nat => fvB f all v)
section ME
variable {r y : Bool} {w : mm_M}
theorem ev_m_isFirst {all : Int} (ha : 0 ≤ all ∧ all < 512) (hnv : 0 ≤ w 1 0 4 ∧ w 1 0 4 ≤ 3) : mm_Ev K_X10_isFirst (0, 0) [.inr (some (1, 0)), .inl all] (PH r y) w (mm_pe (some (.inl (ib (fsB (w 3 0) (w 1 0 4) all = true)))) (PH r y) w) := by
  refine ev_intro ok_X10_isFirst mo_X10_isFirst (Nat.le_of_ble_eq_true rfl) (fun hrg has => ?_)
  refine k_gp rfl rfl trivial ?_
  refine k_callp rfl (ev_m_isThere ha) rfl rfl rfl (by decide) ?_
  refine k_gp rfl rfl trivial ?_
  refine mm_loop (σ := Bool) (w 1 0 4) (fun i s => (0 ≤ i ∧ i ≤ w 1 0 4) ∧ s = (thB (w 1 0 4) all && (List.range i.toNat).all (fun v : Nat => fvB (w 3 0) all v))) (fun i s => mm_Wk K_X10_isFirst (0, 0) 8 [some (.inr (some (1, 0))), some (.inl all), some (.inl (ib (s = true))), some (.inl i)] [] (PH r y) w (mm_pe (some (.inl (ib (fsB (w 3 0) (w 1 0 4) all = true)))) (PH r y) w)) ?_ ?_ 0 (thB (w 1 0 4) all) ⟨by omega, by simp⟩
  · intro i s h1 h2 ih
    obtain ⟨h2, h3⟩ := h2
    have e1 : ((i.toNat : Nat) : Int) = i := by omega
    have e2 : ∀ s', s' = (s && fvB (w 3 0) all i) → mm_Wk K_X10_isFirst (0, 0) 8 [some (.inr (some (1, 0))), some (.inl all), some (.inl (ib (s' = true))), some (.inl (i + 1))] [] (PH r y) w (mm_pe (some (.inl (ib (fsB (w 3 0) (w 1 0 4) all = true)))) (PH r y) w) := fun s' hs' => by
      refine ih s' ⟨by omega, ?_⟩
      rw [show (i + 1).toNat = i.toNat + 1 by omega, List.range_succ, List.all_append, ← Bool.and_assoc, ← h3, hs']
      simp [e1]
    refine k_gp rfl rfl trivial ?_
    refine k_brf rfl (by omega) ?_
    refine k_gp rfl rfl trivial ?_
    refine k_brz rfl (fun g1 => ?_) (fun g1 => ?_)
    · refine k_gp rfl rfl trivial ?_
      refine k_gp rfl rfl (by simp only [true_and]; omega) ?_
      exact e2 false (by simp at g1; simp [g1])
    · refine k_gp rfl rfl trivial ?_
      refine k_callp rfl (ev_m_value (by omega) (by omega)) rfl rfl rfl (by decide) ?_
      refine k_gp rfl rfl (by simp only [true_and]; omega) ?_
      refine k_callp rfl ev_m_isIn rfl rfl rfl (by decide) ?_
      refine k_brz rfl (fun g2 => ?_) (fun g2 => ?_)
      · refine k_gp rfl rfl trivial ?_
        refine k_gp rfl rfl (by simp only [true_and]; omega) ?_
        exact e2 false (by rw [show fvB (w 3 0) all i = false from decide_eq_false g2]; simp)
      · refine k_gp rfl rfl trivial ?_
        refine k_gp rfl rfl (by simp only [true_and]; omega) ?_
        exact e2 true (by rw [show fvB (w 3 0) all i = true from decide_eq_true g2, g1]; rfl)
  · intro i s h1 h2
    obtain ⟨h2, h3⟩ := h2
    refine k_gp rfl rfl trivial ?_
    refine k_brt rfl (by omega) ?_
    refine k_gp rfl rfl trivial ?_
    refine k_ret rfl (ib_in _) ⟨?_, rfl, rfl⟩
    rw [h3, show i = w 1 0 4 by omega]
    rfl
/-- the bits of those that are so, or not, up to n -/
theorem bts_step {f : Nat → Bool} {i set v : Int} (hi : 0 ≤ i ∧ i < 31) (hs : set = ((bts f i.toNat : Nat) : Int)) (hv : v = if f i.toNat = true then ((2 ^ i.toNat : Nat) : Int) else 0) : mm_or set v = ((bts f (i + 1).toNat : Nat) : Int) := by
  rw [show (i + 1).toNat = i.toNat + 1 by omega]
  have hlt := bts_lt f i.toNat
  have hp8 : 2 ^ i.toNat ≤ 2 ^ 30 := Nat.pow_le_pow_right (by decide) (by omega)
  show _ = ((bts f i.toNat ||| (if f i.toNat = true then 2 ^ i.toNat else 0) : Nat) : Int)
  rw [← bb_or (by omega) (by split <;> omega), hs, hv]
  congr 1
  split <;> rfl
theorem ev_m_cube {place all more : Int} (ha : 0 ≤ all ∧ all < 512) (hp : 0 ≤ place ∧ place < 8) (hnv : w 1 0 4 ≤ 3) (hnc : 0 ≤ w 1 0 6 ∧ w 1 0 6 ≤ 8) (hc : ∀ g, 0 ≤ g → g < w 1 0 6 → cOK (m_c w) g (w 1 0 4)) (hL : 0 ≤ mm_or (w 6 0 place) more) :
    mm_Ev K_X10_cube (0, 0) [.inr (some (1, 0)), .inl place, .inl all, .inl more] (PH r y) w (mm_pe (some (.inl (cub (m_c w) (w 1 0 6) (mm_or (w 6 0 place) more) all))) (PH r y) w) := by
  refine ev_intro ok_X10_cube mo_X10_cube (Nat.le_of_ble_eq_true rfl) (fun hrg has => ?_)
  have hL2 : mm_or (w 6 0 place) more < 2147483648 := (mm_i2 _).2
  refine k_gp rfl rfl (by simp only [true_and]; omega) ?_
  generalize hLL : mm_or (w 6 0 place) more = L at hL hL2 ⊢
  refine mm_loop (σ := Int) (w 1 0 6) (fun i set => (0 ≤ i ∧ i ≤ w 1 0 6) ∧ set = ((bts (fun g => decide (hb L g) && soB (m_c w) g all) i.toNat : Nat) : Int)) (fun i set => mm_Wk K_X10_cube (0, 0) 16 [some (.inr (some (1, 0))), some (.inl place), some (.inl all), some (.inl more), some (.inl set), some (.inl L), some (.inl i)] [] (PH r y) w (mm_pe (some (.inl (cub (m_c w) (w 1 0 6) L all))) (PH r y) w)) ?_ ?_ 0 0 ⟨by omega, rfl⟩
  · intro i set h1 h2 ih
    obtain ⟨h2, h3⟩ := h2
    have e1 : ((i.toNat : Nat) : Int) = i := by omega
    have J : ∀ v, v = (if (decide (hb L i) && soB (m_c w) i all) = true then ((2 ^ i.toNat : Nat) : Int) else 0) → mm_Wk K_X10_cube (0, 0) 56 [some (.inr (some (1, 0))), some (.inl place), some (.inl all), some (.inl more), some (.inl set), some (.inl L), some (.inl i)] [.inl v, .inl set] (PH r y) w (mm_pe (some (.inl (cub (m_c w) (w 1 0 6) L all))) (PH r y) w) := fun v hv => by
      have hst := bts_step (f := fun g : Nat => decide (hb L g) && soB (m_c w) g all) (by omega) h3 (v := v) (by simp only [e1]; exact hv)
      refine k_gp rfl rfl (by simp only [true_and]; omega) ?_
      rw [hst]
      exact ih _ ⟨by omega, rfl⟩
    refine k_gp rfl rfl trivial ?_
    refine k_brf rfl (by omega) ?_
    refine k_gp rfl rfl trivial ?_
    rw [hb_eq ⟨hL, hL2⟩ (by omega)]
    refine k_br rfl (fun g1 => ?_) (fun g1 => ?_)
    · refine k_gp rfl rfl trivial ?_
      exact J 0 (by rw [decide_eq_false g1]; rfl)
    · have g1 : hb L i := Classical.byContradiction g1
      rw [decide_eq_true g1, Bool.true_and] at J
      refine k_gp rfl rfl trivial ?_
      refine k_callp rfl (ev_m_isSo (nv := w 1 0 4) ha (by omega) hnv (hc i (by omega) (by omega))) rfl rfl rfl (by decide) ?_
      refine k_brz rfl (fun g2 => ?_) (fun g2 => ?_)
      · refine k_gp rfl rfl trivial ?_
        exact J 0 (by rw [if_neg g2])
      · refine k_gp rfl rfl trivial ?_
        rw [shl1 (by omega)]
        exact J _ (by rw [if_pos g2])
  · intro i set h1 h2
    obtain ⟨h2, h3⟩ := h2
    refine k_gp rfl rfl trivial ?_
    refine k_brt rfl (by omega) ?_
    refine k_gp rfl rfl trivial ?_
    refine k_ret rfl trivial ⟨?_, rfl, rfl⟩
    rw [h3, show i = w 1 0 6 by omega]
    rfl
end ME
end
section
/-! ===== the reference: reading the text ===== -/
/-- a figure at a place, -1 if there is none -/
def fig (t : Int → Int) (n p : Int) : Int := if p < n ∧ 48 ≤ t p ∧ t p ≤ 57 then t p - 48 else -1
/-- how many figures come behind a letter -/
def due (l : Int) : Int := if l = 112 ∨ l = 118 then 2 else if l = 99 then 3 else if l = 101 then 7 else 0
theorem fig_in (t : Int → Int) (n p : Int) : -1 ≤ fig t n p ∧ fig t n p ≤ 9 := by unfold fig; split <;> omega
theorem due_in (l : Int) : 0 ≤ due l ∧ due l ≤ 7 := by unfold due; split; omega; split; omega; split <;> omega
def TX (w : mm_M) (t : Int → Int) (n : Int) : Prop := (∀ k, w 2 0 k = t k) ∧ w 1 0 0 = n ∧ 0 ≤ n ∧ n ≤ 200
section ME
variable {r y : Bool} {w : mm_M} {t : Int → Int} {n : Int}
theorem ev_m_figure {p : Int} (hT : TX w t n) (hp : 0 ≤ p) : mm_Ev K_X10_figure (0, 0) [.inr (some (1, 0)), .inl p] (PH r y) w (mm_pe (some (.inl (fig t n p))) (PH r y) w) := by
  refine ev_intro ok_X10_figure mo_X10_figure (Nat.le_of_ble_eq_true rfl) (fun hrg has => ?_)
  obtain ⟨h1, h2, h3, h4⟩ := hT
  unfold fig
  rw [← h2] at h3 h4 ⊢
  rw [← h1]
  have hr := hrg 2 0 p
  refine k_gp rfl rfl trivial ?_
  refine k_br rfl (fun g1 => ?_) (fun g1 => ?_)
  · rw [if_neg (fun q => by omega)]
    repeat' (first
      | refine k_brt rfl (by decide) ?_
      | refine k_brf rfl (by decide) ?_
      | refine k_brz rfl (fun _ => ?_) (fun _ => ?_)
      | refine k_brn rfl (fun _ => ?_) (fun _ => ?_)
      | refine k_br rfl (fun _ => ?_) (fun _ => ?_)
      | refine k_ret rfl ?_ ⟨?_, rfl, rfl⟩
      | refine k_ts rfl rfl ?_ (fun _ => ?_)
      | refine mm_tsc (fun _ => ?_) ?_
      | exact mm_tsn
      | refine k_gp rfl rfl ?_ ?_)
    all_goals (first | trivial | omega | (simp only [true_and, mm_fits]; omega) | (refine congrArg some (congrArg Sum.inl ?_); first | rfl | (rw [ib_t (by omega)]) | (rw [ib_f (by omega)]) | omega))
  · refine k_gp rfl rfl (by simp only [true_and]; omega) ?_
    refine k_callp rfl ev_m_isIn rfl rfl rfl (by decide) ?_
    refine k_brz rfl (fun g2 => ?_) (fun g2 => ?_)
    · rw [if_neg (fun q => g2 q.2)]
      repeat' (first
        | refine k_brt rfl (by decide) ?_
        | refine k_brf rfl (by decide) ?_
        | refine k_brz rfl (fun _ => ?_) (fun _ => ?_)
        | refine k_brn rfl (fun _ => ?_) (fun _ => ?_)
        | refine k_br rfl (fun _ => ?_) (fun _ => ?_)
        | refine k_ret rfl ?_ ⟨?_, rfl, rfl⟩
        | refine k_ts rfl rfl ?_ (fun _ => ?_)
        | refine mm_tsc (fun _ => ?_) ?_
        | exact mm_tsn
        | refine k_gp rfl rfl ?_ ?_)
      all_goals (first | trivial | omega | (simp only [true_and, mm_fits]; omega) | (refine congrArg some (congrArg Sum.inl ?_); first | rfl | (rw [ib_t (by omega)]) | (rw [ib_f (by omega)]) | omega))
    · rw [if_pos ⟨by omega, g2⟩]
      repeat' (first
        | refine k_brt rfl (by decide) ?_
        | refine k_brf rfl (by decide) ?_
        | refine k_brz rfl (fun _ => ?_) (fun _ => ?_)
        | refine k_brn rfl (fun _ => ?_) (fun _ => ?_)
        | refine k_br rfl (fun _ => ?_) (fun _ => ?_)
        | refine k_ret rfl ?_ ⟨?_, rfl, rfl⟩
        | refine k_ts rfl rfl ?_ (fun _ => ?_)
        | refine mm_tsc (fun _ => ?_) ?_
        | exact mm_tsn
        | refine k_gp rfl rfl ?_ ?_)
      all_goals (first | trivial | omega | (simp only [true_and, mm_fits]; omega) | (refine congrArg some (congrArg Sum.inl ?_); first | rfl | (rw [ib_t (by omega)]) | (rw [ib_f (by omega)]) | omega))
theorem ev_m_figuresOf {l : Int} : mm_Ev K_X10_figuresOf (0, 0) [.inl l] (PH r y) w (mm_pe (some (.inl (due l))) (PH r y) w) := by
  refine ev_intro ok_X10_figuresOf mo_X10_figuresOf (Nat.le_of_ble_eq_true rfl) (fun hrg has => ?_)
  unfold due
  repeat' (first
    | refine k_brt rfl (by decide) ?_
    | refine k_brf rfl (by decide) ?_
    | refine k_brz rfl (fun _ => ?_) (fun _ => ?_)
    | refine k_brn rfl (fun _ => ?_) (fun _ => ?_)
    | refine k_br rfl (fun _ => ?_) (fun _ => ?_)
    | refine k_ret rfl ?_ ⟨?_, rfl, rfl⟩
    | refine k_ts rfl rfl ?_ (fun _ => ?_)
    | refine mm_tsc (fun _ => ?_) ?_
    | exact mm_tsn
    | refine k_gp rfl rfl ?_ ?_)
  all_goals (first | trivial | (split; rfl; omega) | (rw [if_pos (by omega)]) | (rw [if_neg (by omega), if_pos (by omega)]) | (rw [if_neg (by omega), if_neg (by omega), if_pos (by omega)]) | (rw [if_neg (by omega), if_neg (by omega), if_neg (by omega)]))
abbrev rp_c (w : mm_M) (t : Int → Int) (n p : Int) : Prop := p = 1 ∧ 2 ≤ fig t n p ∧ fig t n p ≤ 8 ∧ fig t n (p + 1) < fig t n p
theorem ev_m_readsPlaces {p : Int} (hT : TX w t n) (hp : 0 ≤ p ∧ p < 300) : mm_Ev K_X10_readsPlaces (0, 0) [.inr (some (1, 0)), .inl p] (PH r y) w (mm_pe (some (.inl (ib (rp_c w t n p)))) (PH r y) (if rp_c w t n p then mm_up (mm_up w 1 0 13 (fig t n p)) 1 0 14 (fig t n (p + 1)) else w)) := by
  refine ev_intro ok_X10_readsPlaces mo_X10_readsPlaces (Nat.le_of_ble_eq_true rfl) (fun hrg has => ?_)
  have f0 := fig_in t n p
  refine k_gp rfl rfl trivial ?_
  refine k_br rfl (fun g1 => ?_) (fun g1 => ?_)
  · rw [ib_f (fun q => g1 q.1), if_neg (fun q => g1 q.1)]
    repeat' (first
      | refine k_brt rfl (by decide) ?_
      | refine k_brf rfl (by decide) ?_
      | refine k_brz rfl (fun _ => ?_) (fun _ => ?_)
      | refine k_brn rfl (fun _ => ?_) (fun _ => ?_)
      | refine k_br rfl (fun _ => ?_) (fun _ => ?_)
      | refine k_ret rfl ?_ ⟨?_, rfl, rfl⟩
      | refine k_ts rfl rfl ?_ (fun _ => ?_)
      | refine mm_tsc (fun _ => ?_) ?_
      | exact mm_tsn
      | refine k_gp rfl rfl ?_ ?_)
    all_goals (first | trivial | omega | (simp only [true_and, mm_fits]; omega) | (refine congrArg some (congrArg Sum.inl ?_); first | rfl | (rw [ib_t (by omega)]) | (rw [ib_f (by omega)]) | omega))
  · have g1 : p = 1 := Classical.byContradiction g1
    refine k_gp rfl rfl trivial ?_
    refine k_callp rfl (ev_m_figure hT hp.1) rfl rfl rfl (by decide) ?_
    refine k_gp rfl rfl trivial ?_
    refine k_callp rfl ev_m_isIn rfl rfl rfl (by decide) ?_
    refine k_brz rfl (fun g2 => ?_) (fun g2 => ?_)
    · rw [ib_f (fun q => g2 ⟨q.2.1, q.2.2.1⟩), if_neg (fun q => g2 ⟨q.2.1, q.2.2.1⟩)]
      repeat' (first
        | refine k_brt rfl (by decide) ?_
        | refine k_brf rfl (by decide) ?_
        | refine k_brz rfl (fun _ => ?_) (fun _ => ?_)
        | refine k_brn rfl (fun _ => ?_) (fun _ => ?_)
        | refine k_br rfl (fun _ => ?_) (fun _ => ?_)
        | refine k_ret rfl ?_ ⟨?_, rfl, rfl⟩
        | refine k_ts rfl rfl ?_ (fun _ => ?_)
        | refine mm_tsc (fun _ => ?_) ?_
        | exact mm_tsn
        | refine k_gp rfl rfl ?_ ?_)
      all_goals (first | trivial | omega | (simp only [true_and, mm_fits]; omega) | (refine congrArg some (congrArg Sum.inl ?_); first | rfl | (rw [ib_t (by omega)]) | (rw [ib_f (by omega)]) | omega))
    · refine k_gp rfl rfl (by simp only [true_and]; omega) ?_
      refine k_callp rfl (ev_m_figure hT (by omega)) rfl rfl rfl (by decide) ?_
      refine k_gp rfl rfl trivial ?_
      refine k_callp rfl (ev_m_figure hT hp.1) rfl rfl rfl (by decide) ?_
      refine k_br rfl (fun g3 => ?_) (fun g3 => ?_)
      · rw [ib_t ⟨g1, g2.1, g2.2, by omega⟩, if_pos ⟨g1, g2.1, g2.2, by omega⟩]
        refine k_gp rfl rfl trivial ?_
        refine k_callp rfl (ev_m_figure hT hp.1) rfl rfl rfl (by decide) ?_
        refine k_gp rfl rfl (by simp only [true_and]; omega) ?_
        refine k_callp rfl (ev_m_figure (t := t) (n := n) ⟨fun k => (up_g rfl).trans (hT.1 k), (up_k (by decide)).trans hT.2.1, hT.2.2⟩ (by omega)) rfl rfl rfl (by decide) ?_
        repeat' (first
          | refine k_brt rfl (by decide) ?_
          | refine k_brf rfl (by decide) ?_
          | refine k_brz rfl (fun _ => ?_) (fun _ => ?_)
          | refine k_brn rfl (fun _ => ?_) (fun _ => ?_)
          | refine k_br rfl (fun _ => ?_) (fun _ => ?_)
          | refine k_ret rfl ?_ ⟨?_, rfl, rfl⟩
          | refine k_ts rfl rfl ?_ (fun _ => ?_)
          | refine mm_tsc (fun _ => ?_) ?_
          | exact mm_tsn
          | refine k_gp rfl rfl ?_ ?_)
        all_goals (first | trivial | omega | (simp only [true_and, mm_fits]; omega) | (refine congrArg some (congrArg Sum.inl ?_); first | rfl | (rw [ib_t (by omega)]) | (rw [ib_f (by omega)]) | omega))
      · rw [ib_f (fun q => by omega), if_neg (fun q => by omega)]
        repeat' (first
          | refine k_brt rfl (by decide) ?_
          | refine k_brf rfl (by decide) ?_
          | refine k_brz rfl (fun _ => ?_) (fun _ => ?_)
          | refine k_brn rfl (fun _ => ?_) (fun _ => ?_)
          | refine k_br rfl (fun _ => ?_) (fun _ => ?_)
          | refine k_ret rfl ?_ ⟨?_, rfl, rfl⟩
          | refine k_ts rfl rfl ?_ (fun _ => ?_)
          | refine mm_tsc (fun _ => ?_) ?_
          | exact mm_tsn
          | refine k_gp rfl rfl ?_ ?_)
        all_goals (first | trivial | omega | (simp only [true_and, mm_fits]; omega) | (refine congrArg some (congrArg Sum.inl ?_); first | rfl | (rw [ib_t (by omega)]) | (rw [ib_f (by omega)]) | omega))
abbrev rv_c (w : mm_M) (t : Int → Int) (n p : Int) : Prop := w 1 0 15 ≠ 3 ∧ fig t n p ≤ fig t n (p + 1) ∧ fig t n (p + 1) ≤ 7
theorem ev_m_readsVariable {p : Int} (hT : TX w t n) (hp : 0 ≤ p ∧ p < 300) (hv : 0 ≤ w 1 0 15 ∧ w 1 0 15 ≤ 3) : mm_Ev K_X10_readsVariable (0, 0) [.inr (some (1, 0)), .inl p] (PH r y) w (mm_pe (some (.inl (ib (rv_c w t n p)))) (PH r y) (if rv_c w t n p then mm_up (mm_up (mm_up w 8 0 (2 * w 1 0 15) (fig t n p)) 8 0 (2 * w 1 0 15 + 1) (fig t n (p + 1))) 1 0 15 (w 1 0 15 + 1) else w)) := by
  refine ev_intro ok_X10_readsVariable mo_X10_readsVariable (Nat.le_of_ble_eq_true rfl) (fun hrg has => ?_)
  have f0 := fig_in t n p
  refine k_gp rfl rfl trivial ?_
  refine k_br rfl (fun g1 => ?_) (fun g1 => ?_)
  · rw [ib_f (fun q => q.1 g1), if_neg (fun q => q.1 g1)]
    repeat' (first
      | refine k_brt rfl (by decide) ?_
      | refine k_brf rfl (by decide) ?_
      | refine k_brz rfl (fun _ => ?_) (fun _ => ?_)
      | refine k_brn rfl (fun _ => ?_) (fun _ => ?_)
      | refine k_br rfl (fun _ => ?_) (fun _ => ?_)
      | refine k_ret rfl ?_ ⟨?_, rfl, rfl⟩
      | refine k_ts rfl rfl ?_ (fun _ => ?_)
      | refine mm_tsc (fun _ => ?_) ?_
      | exact mm_tsn
      | refine k_gp rfl rfl ?_ ?_)
    all_goals (first | trivial | omega | (simp only [true_and, mm_fits]; omega) | (refine congrArg some (congrArg Sum.inl ?_); first | rfl | (rw [ib_t (by omega)]) | (rw [ib_f (by omega)]) | omega))
  · refine k_gp rfl rfl trivial ?_
    refine k_callp rfl (ev_m_figure hT hp.1) rfl rfl rfl (by decide) ?_
    refine k_gp rfl rfl (by simp only [true_and]; omega) ?_
    refine k_callp rfl (ev_m_figure hT (by omega)) rfl rfl rfl (by decide) ?_
    refine k_br rfl (fun g2 => ?_) (fun g2 => ?_)
    · rw [ib_f (fun q => by omega), if_neg (fun q => by omega)]
      repeat' (first
        | refine k_brt rfl (by decide) ?_
        | refine k_brf rfl (by decide) ?_
        | refine k_brz rfl (fun _ => ?_) (fun _ => ?_)
        | refine k_brn rfl (fun _ => ?_) (fun _ => ?_)
        | refine k_br rfl (fun _ => ?_) (fun _ => ?_)
        | refine k_ret rfl ?_ ⟨?_, rfl, rfl⟩
        | refine k_ts rfl rfl ?_ (fun _ => ?_)
        | refine mm_tsc (fun _ => ?_) ?_
        | exact mm_tsn
        | refine k_gp rfl rfl ?_ ?_)
      all_goals (first | trivial | omega | (simp only [true_and, mm_fits]; omega) | (refine congrArg some (congrArg Sum.inl ?_); first | rfl | (rw [ib_t (by omega)]) | (rw [ib_f (by omega)]) | omega))
    · refine k_gp rfl rfl (by simp only [true_and]; omega) ?_
      refine k_callp rfl (ev_m_figure hT (by omega)) rfl rfl rfl (by decide) ?_
      refine k_gp rfl rfl trivial ?_
      refine k_br rfl (fun g3 => ?_) (fun g3 => ?_)
      · rw [ib_t ⟨g1, by omega, by omega⟩, if_pos ⟨g1, by omega, by omega⟩]
        refine k_gp rfl rfl (by simp only [true_and]; omega) ?_
        refine k_callp rfl (ev_m_figure hT hp.1) rfl rfl rfl (by decide) ?_
        refine k_gp rfl rfl (by simp only [true_and, mm_fits, up_g (show Nat.beq 1 8 = false from rfl)]; omega) ?_
        refine k_callp rfl (ev_m_figure (t := t) (n := n) ⟨fun k => (up_g rfl).trans (hT.1 k), (up_g rfl).trans hT.2.1, hT.2.2⟩ (by omega)) rfl rfl rfl (by decide) ?_
        simp only [up_g (show Nat.beq 1 8 = false from rfl)]
        refine k_gp rfl rfl (by simp only [true_and, mm_fits, up_g (show Nat.beq 1 8 = false from rfl)]; omega) ?_
        simp only [up_g (show Nat.beq 1 8 = false from rfl)]
        repeat' (first
          | refine k_brt rfl (by decide) ?_
          | refine k_brf rfl (by decide) ?_
          | refine k_brz rfl (fun _ => ?_) (fun _ => ?_)
          | refine k_brn rfl (fun _ => ?_) (fun _ => ?_)
          | refine k_br rfl (fun _ => ?_) (fun _ => ?_)
          | refine k_ret rfl ?_ ⟨?_, rfl, rfl⟩
          | refine k_ts rfl rfl ?_ (fun _ => ?_)
          | refine mm_tsc (fun _ => ?_) ?_
          | exact mm_tsn
          | refine k_gp rfl rfl ?_ ?_)
        all_goals (first | trivial | omega | (simp only [true_and, mm_fits]; omega) | (refine congrArg some (congrArg Sum.inl ?_); first | rfl | (rw [ib_t (by omega)]) | (rw [ib_f (by omega)]) | omega))
      · rw [ib_f (fun q => by omega), if_neg (fun q => by omega)]
        repeat' (first
          | refine k_brt rfl (by decide) ?_
          | refine k_brf rfl (by decide) ?_
          | refine k_brz rfl (fun _ => ?_) (fun _ => ?_)
          | refine k_brn rfl (fun _ => ?_) (fun _ => ?_)
          | refine k_br rfl (fun _ => ?_) (fun _ => ?_)
          | refine k_ret rfl ?_ ⟨?_, rfl, rfl⟩
          | refine k_ts rfl rfl ?_ (fun _ => ?_)
          | refine mm_tsc (fun _ => ?_) ?_
          | exact mm_tsn
          | refine k_gp rfl rfl ?_ ?_)
        all_goals (first | trivial | omega | (simp only [true_and, mm_fits]; omega) | (refine congrArg some (congrArg Sum.inl ?_); first | rfl | (rw [ib_t (by omega)]) | (rw [ib_f (by omega)]) | omega))
abbrev rc_c (w : mm_M) (t : Int → Int) (n p : Int) : Prop := w 1 0 17 ≠ 8 ∧ fig t n p ≤ 4 ∧ fig t n (p + 1) < w 1 0 15 ∧ (1 < fig t n p → fig t n (p + 2) < w 1 0 15)
def rc_w (w : mm_M) (t : Int → Int) (n p : Int) : mm_M := mm_up (arrw w 9 (3 * w 1 0 17) 3 (fun k => fig t n (p + k))) 1 0 17 (w 1 0 17 + 1)
theorem ev_m_readsComparison {p : Int} (hT : TX w t n) (hp : 0 ≤ p ∧ p < 300) (hv : 0 ≤ w 1 0 17 ∧ w 1 0 17 ≤ 8) : mm_Ev K_X10_readsComparison (0, 0) [.inr (some (1, 0)), .inl p] (PH r y) w (mm_pe (some (.inl (ib (rc_c w t n p)))) (PH r y) (if rc_c w t n p then rc_w w t n p else w)) := by
  refine ev_intro ok_X10_readsComparison mo_X10_readsComparison (Nat.le_of_ble_eq_true rfl) (fun hrg has => ?_)
  have f0 := fig_in t n p
  have fT : rc_c w t n p → ∀ ls2, mm_Wk K_X10_readsComparison (0, 0) 55 [some (.inr (some (1, 0))), some (.inl p), ls2, none] [] (PH r y) w (mm_pe (some (.inl (ib (rc_c w t n p)))) (PH r y) (if rc_c w t n p then rc_w w t n p else w)) := fun hc ls2 => by
    have hc1 := hc.1
    rw [ib_t hc, if_pos hc]
    refine k_gp rfl rfl trivial ?_
    refine mm_loop (σ := mm_M) 3 (fun i w1 => (0 ≤ i ∧ i ≤ 3) ∧ w1 = arrw w 9 (3 * w 1 0 17) i (fun k => fig t n (p + k))) (fun i w1 => mm_Wk K_X10_readsComparison (0, 0) 57 [some (.inr (some (1, 0))), some (.inl p), ls2, some (.inl i)] [] (PH r y) w1 (mm_pe (some (.inl 1)) (PH r y) (rc_w w t n p))) ?_ ?_ 0 w ⟨by omega, arrw_0.symm⟩
    · intro i w1 h1 h2 ih
      obtain ⟨h2, rfl⟩ := h2
      have e1 : ∀ k, arrw w 9 (3 * w 1 0 17) i (fun k => fig t n (p + k)) 1 0 k = w 1 0 k := fun k => arrw_g rfl
      refine k_gp rfl rfl trivial ?_
      refine k_brf rfl (by omega) ?_
      refine k_gp rfl rfl (by simp only [true_and, e1]; omega) ?_
      refine k_callp rfl (ev_m_figure (t := t) (n := n) ⟨fun k => (arrw_g rfl).trans (hT.1 k), (e1 0).trans hT.2.1, hT.2.2⟩ (by omega)) rfl rfl rfl (by decide) ?_
      simp only [e1]
      refine k_gp rfl rfl (by simp only [true_and, mm_fits]; omega) ?_
      rw [arrw_s (by omega) rfl rfl]
      exact ih _ ⟨by omega, rfl⟩
    · intro i w1 h1 h2
      obtain ⟨h2, rfl⟩ := h2
      have e1 : ∀ k, arrw w 9 (3 * w 1 0 17) i (fun k => fig t n (p + k)) 1 0 k = w 1 0 k := fun k => arrw_g rfl
      have hi : i = 3 := by omega
      subst hi
      refine k_gp rfl rfl trivial ?_
      refine k_brt rfl (by omega) ?_
      refine k_gp rfl rfl (by simp only [true_and, e1]; omega) ?_
      simp only [e1]
      exact k_ret rfl (by omega) ⟨rfl, rfl, rfl⟩
  have fF : ¬ rc_c w t n p → ∀ ls2, mm_Wk K_X10_readsComparison (0, 0) 53 [some (.inr (some (1, 0))), some (.inl p), ls2, none] [] (PH r y) w (mm_pe (some (.inl (ib (rc_c w t n p)))) (PH r y) (if rc_c w t n p then rc_w w t n p else w)) := fun hc ls2 => by
    rw [ib_f hc, if_neg hc]
    refine k_gp rfl rfl trivial ?_
    exact k_ret rfl (by omega) ⟨rfl, rfl, rfl⟩
  refine k_gp rfl rfl trivial ?_
  refine k_callp rfl (ev_m_figure hT hp.1) rfl rfl rfl (by decide) ?_
  refine k_gp rfl rfl trivial ?_
  refine k_br rfl (fun g1 => fF (fun q => q.1 g1) _) (fun g1 => ?_)
  refine k_gp rfl rfl trivial ?_
  refine k_br rfl (fun g2 => fF (fun q => by have := q.2.1; omega) _) (fun g2 => ?_)
  refine k_gp rfl rfl (by simp only [true_and, mm_fits]; omega) ?_
  refine k_callp rfl (ev_m_figure hT (by omega)) rfl rfl rfl (by decide) ?_
  refine k_gp rfl rfl trivial ?_
  refine k_br rfl (fun g3 => fF (fun q => by have := q.2.2.1; omega) _) (fun g3 => ?_)
  refine k_gp rfl rfl trivial ?_
  refine k_br rfl (fun g4 => fT ⟨g1, by omega, by omega, fun q => by omega⟩ _) (fun g4 => ?_)
  refine k_gp rfl rfl (by simp only [true_and, mm_fits]; omega) ?_
  refine k_callp rfl (ev_m_figure hT (by omega)) rfl rfl rfl (by decide) ?_
  refine k_gp rfl rfl trivial ?_
  exact k_br rfl (fun g5 => fT ⟨g1, by omega, by omega, fun q => by omega⟩ _) (fun g5 => fF (fun q => by have := q.2.2.2; omega) _)
def re_c (w : mm_M) (t : Int → Int) (n p : Int) : Bool := decide (w 1 0 19 < 14 ∧ fig t n p < w 1 0 13 ∧ fig t n (p + 1) < w 1 0 13 ∧ (fig t n (p + 2) = 9 ∨ fig t n (p + 2) < w 1 0 17) ∧ fig t n (p + 3) < 2 ∧ fig t n (p + 4) < 6 ∧ (fig t n (p + 4) = 0 ∨ fig t n (p + 5) < w 1 0 15) ∧ (fig t n (p + 4) ≠ 1 ∨ fig t n (p + 6) < 8) ∧ (fig t n (p + 4) < 4 ∨ fig t n (p + 6) < w 1 0 15))
def re_w (w : mm_M) (t : Int → Int) (n p : Int) : mm_M := mm_up (arrw w 10 (7 * w 1 0 19) 7 (fun k => fig t n (p + k))) 1 0 19 (w 1 0 19 + 1)
theorem mm_up_id {w : mm_M} {g : Nat} {j k v : Int} (h : w g j k = v) : mm_up w g j k v = w := by
  funext g' j' k'
  unfold mm_up
  split
  · rename_i q
    rw [q.1, q.2.1, q.2.2, h]
  · rfl
theorem ev_m_readsEdge {p : Int} (hT : TX w t n) (hp : 0 ≤ p ∧ p < 300) (hv : 0 ≤ w 1 0 19 ∧ w 1 0 19 ≤ 14) : mm_Ev K_X10_readsEdge (0, 0) [.inr (some (1, 0)), .inl p] (PH r y) w (mm_pe (some (.inl (ib (re_c w t n p = true)))) (PH r y) (if re_c w t n p = true then re_w w t n p else w)) := by
  refine ev_intro ok_X10_readsEdge mo_X10_readsEdge (Nat.le_of_ble_eq_true rfl) (fun hrg has => ?_)
  -- from the loop on
  have fL : ∀ z, z = re_c w t n p → ∀ l2 l3 l4 l5 l6, mm_Wk K_X10_readsEdge (0, 0) 157 [some (.inr (some (1, 0))), some (.inl p), l2, l3, l4, l5, l6, none] [.inl (ib (z = true))] (PH r y) w (mm_pe (some (.inl (ib (re_c w t n p = true)))) (PH r y) (if re_c w t n p = true then re_w w t n p else w)) := fun z hz l2 l3 l4 l5 l6 => by
    rw [← hz]
    refine k_gp rfl rfl trivial ?_
    cases z with
    | false =>
      refine k_gp rfl rfl trivial ?_
      refine k_brf rfl (by decide) ?_
      refine k_gp rfl rfl trivial ?_
      refine k_brt rfl (by decide) ?_
      refine k_gp rfl rfl trivial ?_
      refine k_brt rfl (by decide) ?_
      refine k_gp rfl rfl trivial ?_
      refine k_gp rfl rfl (by simp only [true_and, mm_fits]; omega) ?_
      refine k_ret rfl (by decide) ⟨rfl, rfl, ?_⟩
      rw [mm_up_id (by omega)]
      rfl
    | true =>
      have hc := of_decide_eq_true hz.symm
      have hc1 := hc.1
      refine mm_loop (σ := mm_M) 7 (fun i w1 => (0 ≤ i ∧ i ≤ 7) ∧ w1 = arrw w 10 (7 * w 1 0 19) i (fun k => fig t n (p + k))) (fun i w1 => mm_Wk K_X10_readsEdge (0, 0) 162 [some (.inr (some (1, 0))), some (.inl p), l2, l3, l4, l5, some (.inl (ib (true = true))), some (.inl i)] [] (PH r y) w1 (mm_pe (some (.inl (ib (true = true)))) (PH r y) (if true = true then re_w w t n p else w))) ?_ ?_ 0 w ⟨by omega, arrw_0.symm⟩
      · intro i w1 h1 h2 ih
        obtain ⟨h2, rfl⟩ := h2
        have e1 : ∀ k, arrw w 10 (7 * w 1 0 19) i (fun k => fig t n (p + k)) 1 0 k = w 1 0 k := fun k => arrw_g rfl
        refine k_gp rfl rfl trivial ?_
        refine k_brf rfl (by omega) ?_
        refine k_gp rfl rfl trivial ?_
        refine k_brf rfl (by decide) ?_
        refine k_gp rfl rfl (by simp only [true_and, e1]; omega) ?_
        refine k_callp rfl (ev_m_figure (t := t) (n := n) ⟨fun k => (arrw_g rfl).trans (hT.1 k), (e1 0).trans hT.2.1, hT.2.2⟩ (by omega)) rfl rfl rfl (by decide) ?_
        simp only [e1]
        refine k_gp rfl rfl (by simp only [true_and, mm_fits]; omega) ?_
        rw [arrw_s (by omega) rfl rfl]
        exact ih _ ⟨by omega, rfl⟩
      · intro i w1 h1 h2
        obtain ⟨h2, rfl⟩ := h2
        have e1 : ∀ k, arrw w 10 (7 * w 1 0 19) i (fun k => fig t n (p + k)) 1 0 k = w 1 0 k := fun k => arrw_g rfl
        have hi : i = 7 := by omega
        subst hi
        refine k_gp rfl rfl trivial ?_
        refine k_brt rfl (by omega) ?_
        refine k_gp rfl rfl trivial ?_
        refine k_brf rfl (by decide) ?_
        refine k_gp rfl rfl trivial ?_
        refine k_gp rfl rfl (by simp only [true_and, e1]; omega) ?_
        simp only [e1]
        exact k_ret rfl (by decide) ⟨rfl, rfl, rfl⟩
  have fF2 : re_c w t n p = false → ∀ l2 l3 l4 l5 l6, mm_Wk K_X10_readsEdge (0, 0) 156 [some (.inr (some (1, 0))), some (.inl p), l2, l3, l4, l5, l6, none] [] (PH r y) w (mm_pe (some (.inl (ib (re_c w t n p = true)))) (PH r y) (if re_c w t n p = true then re_w w t n p else w)) := fun hc l2 l3 l4 l5 l6 => by
    refine k_gp rfl rfl trivial ?_
    exact fL false hc.symm l2 l3 l4 l5 l6
  have fF1 : re_c w t n p = false → ∀ l2 l3 l4 l5, mm_Wk K_X10_readsEdge (0, 0) 105 [some (.inr (some (1, 0))), some (.inl p), l2, l3, l4, l5, none, none] [] (PH r y) w (mm_pe (some (.inl (ib (re_c w t n p = true)))) (PH r y) (if re_c w t n p = true then re_w w t n p else w)) := fun hc l2 l3 l4 l5 => by
    refine k_gp rfl rfl trivial ?_
    refine k_gp rfl rfl trivial ?_
    refine k_brt rfl (by decide) ?_
    exact fF2 hc l2 l3 l4 l5 _
  have hdef : re_c w t n p = decide (w 1 0 19 < 14 ∧ fig t n p < w 1 0 13 ∧ fig t n (p + 1) < w 1 0 13 ∧ (fig t n (p + 2) = 9 ∨ fig t n (p + 2) < w 1 0 17) ∧ fig t n (p + 3) < 2 ∧ fig t n (p + 4) < 6 ∧ (fig t n (p + 4) = 0 ∨ fig t n (p + 5) < w 1 0 15) ∧ (fig t n (p + 4) ≠ 1 ∨ fig t n (p + 6) < 8) ∧ (fig t n (p + 4) < 4 ∨ fig t n (p + 6) < w 1 0 15)) := rfl
  generalize re_c w t n p = z at *
  refine k_gp rfl rfl (by simp only [true_and, mm_fits]; omega) ?_
  refine k_callp rfl (ev_m_figure hT (by omega)) rfl rfl rfl (by decide) ?_
  refine k_gp rfl rfl (by simp only [true_and, mm_fits]; omega) ?_
  refine k_callp rfl (ev_m_figure hT (by omega)) rfl rfl rfl (by decide) ?_
  refine k_gp rfl rfl (by simp only [true_and, mm_fits]; omega) ?_
  refine k_callp rfl (ev_m_figure hT (by omega)) rfl rfl rfl (by decide) ?_
  refine k_gp rfl rfl (by simp only [true_and, mm_fits]; omega) ?_
  refine k_callp rfl (ev_m_figure hT (by omega)) rfl rfl rfl (by decide) ?_
  refine k_gp rfl rfl trivial ?_
  refine k_br rfl (fun g1 => fF1 (by rw [hdef]; exact decide_eq_false fun q => by omega) _ _ _ _) (fun g1 => ?_)
  refine k_gp rfl rfl trivial ?_
  refine k_callp rfl (ev_m_figure hT (by omega)) rfl rfl rfl (by decide) ?_
  refine k_gp rfl rfl trivial ?_
  refine k_br rfl (fun g2 => fF1 (by rw [hdef]; exact decide_eq_false fun q => by have := q.2.1; omega) _ _ _ _) (fun g2 => ?_)
  refine k_gp rfl rfl (by simp only [true_and, mm_fits]; omega) ?_
  refine k_callp rfl (ev_m_figure hT (by omega)) rfl rfl rfl (by decide) ?_
  refine k_gp rfl rfl trivial ?_
  refine k_br rfl (fun g3 => fF1 (by rw [hdef]; exact decide_eq_false fun q => by have := q.2.2.1; omega) _ _ _ _) (fun g3 => ?_)
  have J126 : ∀ (_ : fig t n (p + 2) = 9 ∨ fig t n (p + 2) < w 1 0 17) (_ : fig t n (p + 3) < 2) (_ : fig t n (p + 4) < 6) (_ : fig t n (p + 4) = 0 ∨ fig t n (p + 5) < w 1 0 15), mm_Wk K_X10_readsEdge (0, 0) 126 [some (.inr (some (1, 0))), some (.inl p), some (.inl (fig t n (p + 2))), some (.inl (fig t n (p + 4))), some (.inl (fig t n (p + 5))), some (.inl (fig t n (p + 6))), some (.inl 1), none] [] (PH r y) w (mm_pe (some (.inl (ib (z = true)))) (PH r y) (if z = true then re_w w t n p else w)) := fun q4 q5 q6 q7 => by
    have J138 : ∀ (_ : fig t n (p + 4) ≠ 1 ∨ fig t n (p + 6) < 8), mm_Wk K_X10_readsEdge (0, 0) 138 [some (.inr (some (1, 0))), some (.inl p), some (.inl (fig t n (p + 2))), some (.inl (fig t n (p + 4))), some (.inl (fig t n (p + 5))), some (.inl (fig t n (p + 6))), some (.inl 1), none] [] (PH r y) w (mm_pe (some (.inl (ib (z = true)))) (PH r y) (if z = true then re_w w t n p else w)) := fun q8 => by
      have J152 : ∀ (_ : fig t n (p + 4) < 4 ∨ fig t n (p + 6) < w 1 0 15), mm_Wk K_X10_readsEdge (0, 0) 152 [some (.inr (some (1, 0))), some (.inl p), some (.inl (fig t n (p + 2))), some (.inl (fig t n (p + 4))), some (.inl (fig t n (p + 5))), some (.inl (fig t n (p + 6))), some (.inl 1), none] [] (PH r y) w (mm_pe (some (.inl (ib (z = true)))) (PH r y) (if z = true then re_w w t n p else w)) := fun q9 => by
        have hz : true = z := by rw [hdef]; exact (decide_eq_true ⟨by omega, by omega, by omega, q4, q5, q6, q7, q8, q9⟩).symm
        refine k_gp rfl rfl trivial ?_
        exact fL true hz _ _ _ _ _
      refine k_gp rfl rfl trivial ?_
      refine k_br rfl (fun g8 => J152 (Or.inl g8)) (fun g8 => ?_)
      refine k_gp rfl rfl trivial ?_
      exact k_br rfl (fun g9 => fF2 (by rw [hdef]; exact decide_eq_false fun q => by have := q.2.2.2.2.2.2.2.2; omega) _ _ _ _ _) (fun g9 => J152 (Or.inr (by omega)))
    refine k_gp rfl rfl trivial ?_
    refine k_br rfl (fun g7 => J138 (Or.inl g7)) (fun g7 => ?_)
    refine k_gp rfl rfl trivial ?_
    exact k_br rfl (fun g8 => fF2 (by rw [hdef]; exact decide_eq_false fun q => by have := q.2.2.2.2.2.2.2.1; omega) _ _ _ _ _) (fun g8 => J138 (Or.inr (by omega)))
  have J84 : ∀ (_ : fig t n (p + 2) = 9 ∨ fig t n (p + 2) < w 1 0 17), mm_Wk K_X10_readsEdge (0, 0) 84 [some (.inr (some (1, 0))), some (.inl p), some (.inl (fig t n (p + 2))), some (.inl (fig t n (p + 4))), some (.inl (fig t n (p + 5))), some (.inl (fig t n (p + 6))), none, none] [] (PH r y) w (mm_pe (some (.inl (ib (z = true)))) (PH r y) (if z = true then re_w w t n p else w)) := fun q4 => by
    refine k_gp rfl rfl (by simp only [true_and, mm_fits]; omega) ?_
    refine k_callp rfl (ev_m_figure hT (by omega)) rfl rfl rfl (by decide) ?_
    refine k_gp rfl rfl trivial ?_
    refine k_br rfl (fun g5 => fF1 (by rw [hdef]; exact decide_eq_false fun q => by have := q.2.2.2.2.1; omega) _ _ _ _) (fun g5 => ?_)
    refine k_gp rfl rfl trivial ?_
    refine k_br rfl (fun g6 => fF1 (by rw [hdef]; exact decide_eq_false fun q => by have := q.2.2.2.2.2.1; omega) _ _ _ _) (fun g6 => ?_)
    refine k_gp rfl rfl trivial ?_
    refine k_gp rfl rfl trivial ?_
    refine k_brf rfl (by decide) ?_
    refine k_gp rfl rfl trivial ?_
    refine k_br rfl (fun g7 => J126 q4 (by omega) (by omega) (Or.inl g7)) (fun g7 => ?_)
    refine k_gp rfl rfl trivial ?_
    exact k_br rfl (fun g8 => fF2 (by rw [hdef]; exact decide_eq_false fun q => by have := q.2.2.2.2.2.2.1; omega) _ _ _ _ _) (fun g8 => J126 q4 (by omega) (by omega) (Or.inr (by omega)))
  refine k_gp rfl rfl trivial ?_
  refine k_br rfl (fun g4 => J84 (Or.inl g4)) (fun g4 => ?_)
  refine k_gp rfl rfl trivial ?_
  exact k_br rfl (fun g5 => fF1 (by rw [hdef]; exact decide_eq_false fun q => by have := q.2.2.2.1; omega) _ _ _ _) (fun g5 => J84 (Or.inr (by omega)))
end ME
end
section
/-! ===== the text's meaning, and the reference's reading of it ===== -/
/-- what was told: (places, trap, variables, comparisons, edges), bounds, comparisons, edges -/
abbrev TS : Type := (Int × Int × Int × Int × Int) × (Int → Int) × (Int → Int → Int) × (Int → Int → Int)
def T0 : TS := ((0, 0, 0, 0, 0), fun _ => 0, fun _ _ => 0, fun _ _ => 0)
/-- an item with these figures may come next -/
def itB (T : TS) (l : Int) (f : Int → Int) : Bool :=
  if l = 112 then decide (T.1.1 = 0 ∧ 2 ≤ f 0 ∧ f 0 ≤ 8 ∧ f 1 < f 0)
  else if T.1.1 = 0 then false
  else if l = 118 then decide (T.1.2.2.1 < 3 ∧ f 0 ≤ f 1 ∧ f 1 ≤ 7)
  else if l = 99 then decide (T.1.2.2.2.1 < 8 ∧ f 0 ≤ 4 ∧ f 1 < T.1.2.2.1 ∧ (1 < f 0 → f 2 < T.1.2.2.1))
  else decide (T.1.2.2.2.2 < 14 ∧ f 0 < T.1.1 ∧ f 1 < T.1.1 ∧ (f 2 = 9 ∨ f 2 < T.1.2.2.2.1) ∧ f 3 < 2 ∧ f 4 < 6 ∧ (f 4 = 0 ∨ f 5 < T.1.2.2.1) ∧ (f 4 ≠ 1 ∨ f 6 < 8) ∧ (f 4 < 4 ∨ f 6 < T.1.2.2.1))
def itT (T : TS) (l : Int) (f : Int → Int) : TS :=
  if l = 112 then ((f 0, f 1, T.1.2.2.1, T.1.2.2.2.1, T.1.2.2.2.2), T.2)
  else if l = 118 then ((T.1.1, T.1.2.1, T.1.2.2.1 + 1, T.1.2.2.2.1, T.1.2.2.2.2), (fun k => if k = 2 * T.1.2.2.1 then f 0 else if k = 2 * T.1.2.2.1 + 1 then f 1 else T.2.1 k), T.2.2)
  else if l = 99 then ((T.1.1, T.1.2.1, T.1.2.2.1, T.1.2.2.2.1 + 1, T.1.2.2.2.2), T.2.1, (fun g k => if g = T.1.2.2.2.1 then f k else T.2.2.1 g k), T.2.2.2)
  else ((T.1.1, T.1.2.1, T.1.2.2.1, T.1.2.2.2.1, T.1.2.2.2.2 + 1), T.2.1, T.2.2.1, (fun x k => if x = T.1.2.2.2.2 then f k else T.2.2.2 x k))
def okB (T : TS) (t : Int → Int) (n p : Int) : Bool := decide (0 < due (t p)) && ((List.range (due (t p)).toNat).all (fun k : Nat => decide (0 ≤ fig t n (p + 1 + k))) && (decide (p + 1 + due (t p) < n ∧ t (p + 1 + due (t p)) = 59) && itB T (t p) (fun k => fig t n (p + 1 + k))))
/-- the first fault (-4: none), and what was told up to it -/
def prs (t : Int → Int) (n : Int) : Nat → Int → TS → Int × TS
  | 0, p, T => (p, T)
  | k + 1, p, T => if n ≤ p then (-4, T) else if okB T t n p = true then prs t n k (p + due (t p) + 2) (itT T (t p) (fun k => fig t n (p + 1 + k))) else (p, T)
/-- bounds of what is told -/
def TB (T : TS) : Prop := (T.1.1 = 0 ∨ (2 ≤ T.1.1 ∧ T.1.1 ≤ 8)) ∧ (0 ≤ T.1.2.2.1 ∧ T.1.2.2.1 ≤ 3) ∧ (0 ≤ T.1.2.2.2.1 ∧ T.1.2.2.2.1 ≤ 8) ∧ (0 ≤ T.1.2.2.2.2 ∧ T.1.2.2.2.2 ≤ 14)
/-- the reference's memory has read this -/
def TR (w : mm_M) (T : TS) : Prop := w 1 0 13 = T.1.1 ∧ (T.1.1 ≠ 0 → w 1 0 14 = T.1.2.1) ∧ w 1 0 15 = T.1.2.2.1 ∧ w 1 0 17 = T.1.2.2.2.1 ∧ w 1 0 19 = T.1.2.2.2.2 ∧
  (∀ k, 0 ≤ k → k < 2 * T.1.2.2.1 → w 8 0 k = T.2.1 k) ∧ (∀ g k, 0 ≤ g → g < T.1.2.2.2.1 → 0 ≤ k → k < 3 → w 9 0 (3 * g + k) = T.2.2.1 g k) ∧ (∀ x k, 0 ≤ x → x < T.1.2.2.2.2 → 0 ≤ k → k < 7 → w 10 0 (7 * x + k) = T.2.2.2 x k)
abbrev rdL : List (Nat × Option Int) := [(1, some 13), (1, some 14), (1, some 15), (1, some 17), (1, some 19), (8, none), (9, none), (10, none)]
theorem TX_sm {w w' : mm_M} {t : Int → Int} {n : Int} {L : List (Nat × Option Int)} (h : TX w t n) (hs : sm L w w') (h1 : ∀ k, frB L 2 k = true) (h2 : frB L 1 0 = true) : TX w' t n := ⟨fun k => (hs 2 0 k (h1 k)).trans (h.1 k), (hs 1 0 0 h2).trans h.2.1, h.2.2⟩
theorem TB_it {T : TS} {l : Int} {f : Int → Int} (h : TB T) (hi : itB T l f = true) : TB (itT T l f) := by
  obtain ⟨h1, h2, h3, h4⟩ := h
  unfold itB at hi
  unfold itT
  split at hi
  · rename_i hl
    have q := of_decide_eq_true hi
    rw [if_pos hl]
    exact ⟨Or.inr ⟨q.2.1, q.2.2.1⟩, h2, h3, h4⟩
  · rename_i hl
    rw [if_neg hl]
    split at hi
    · cases hi
    · split at hi
      · rename_i hl2
        have q := of_decide_eq_true hi
        rw [if_pos hl2]
        exact ⟨h1, ⟨by show 0 ≤ T.1.2.2.1 + 1; omega, by show T.1.2.2.1 + 1 ≤ 3; omega⟩, h3, h4⟩
      · rename_i hl2
        rw [if_neg hl2]
        split at hi
        · rename_i hl3
          have q := of_decide_eq_true hi
          rw [if_pos hl3]
          exact ⟨h1, h2, ⟨by show 0 ≤ T.1.2.2.2.1 + 1; omega, by show T.1.2.2.2.1 + 1 ≤ 8; omega⟩, h4⟩
        · rename_i hl3
          have q := (of_decide_eq_true hi).1
          rw [if_neg hl3]
          exact ⟨h1, h2, h3, ⟨by show 0 ≤ T.1.2.2.2.2 + 1; omega, by show T.1.2.2.2.2 + 1 ≤ 14; omega⟩⟩
section ME
variable {r y : Bool} {w : mm_M} {t : Int → Int} {n : Int}
/-- the reference takes an item (whatever comes behind it) -/
def rdB (T : TS) (t : Int → Int) (n l p : Int) : Bool := (decide (0 < due l) && decide (l = 112 ∨ 0 < T.1.1)) && ((List.range (due l).toNat).all (fun k : Nat => decide (0 ≤ fig t n (p + k))) && itB T l (fun k => fig t n (p + k)))
theorem due_cases {l : Int} (h : 0 < due l) : (l = 112 ∧ due l = 2) ∨ (l = 118 ∧ due l = 2) ∨ (l = 99 ∧ due l = 3) ∨ (l = 101 ∧ due l = 7) := by
  unfold due at h ⊢
  split at h
  · rename_i q; rw [if_pos q]; omega
  · rename_i q
    rw [if_neg q]
    split at h
    · rename_i q2; rw [if_pos q2]; omega
    · rename_i q2
      rw [if_neg q2]
      split at h
      · rename_i q3; rw [if_pos q3]; omega
      · omega
theorem TR_p {w' : mm_M} {T : TS} {f : Int → Int} (h : TR w T) (hT : TB T) (hw : w' = mm_up (mm_up w 1 0 13 (f 0)) 1 0 14 (f 1)) : TR w' (itT T 112 f) := by
  obtain ⟨h1, h2, h3, h4, h5, h6, h7, h8⟩ := h
  subst hw
  have eg : ∀ g k, Nat.beq g 1 = false → mm_up (mm_up w 1 0 13 (f 0)) 1 0 14 (f 1) g 0 k = w g 0 k := fun g k hg => (up_g hg).trans (up_g hg)
  have ek : ∀ k, k ≠ 13 → k ≠ 14 → mm_up (mm_up w 1 0 13 (f 0)) 1 0 14 (f 1) 1 0 k = w 1 0 k := fun k a b => (up_k b).trans (up_k a)
  refine ⟨(up_k (by decide)).trans up_s, fun _ => up_s, (ek 15 (by decide) (by decide)).trans h3, (ek 17 (by decide) (by decide)).trans h4, (ek 19 (by decide) (by decide)).trans h5, fun k a b => (eg 8 k rfl).trans (h6 k a b), fun g k a b c d => (eg 9 _ rfl).trans (h7 g k a b c d), fun x k a b c d => (eg 10 _ rfl).trans (h8 x k a b c d)⟩
theorem TR_v {w' : mm_M} {T : TS} {f : Int → Int} (h : TR w T) (hT : TB T) (hw : w' = mm_up (mm_up (mm_up w 8 0 (2 * w 1 0 15) (f 0)) 8 0 (2 * w 1 0 15 + 1) (f 1)) 1 0 15 (w 1 0 15 + 1)) : TR w' (itT T 118 f) := by
  obtain ⟨h1, h2, h3, h4, h5, h6, h7, h8⟩ := h
  subst hw
  have e1 : ∀ k, k ≠ 15 → mm_up (mm_up (mm_up w 8 0 (2 * w 1 0 15) (f 0)) 8 0 (2 * w 1 0 15 + 1) (f 1)) 1 0 15 (w 1 0 15 + 1) 1 0 k = w 1 0 k := fun k a => (up_k a).trans ((up_g rfl).trans (up_g rfl))
  have eg : ∀ g k, Nat.beq g 1 = false → Nat.beq g 8 = false → mm_up (mm_up (mm_up w 8 0 (2 * w 1 0 15) (f 0)) 8 0 (2 * w 1 0 15 + 1) (f 1)) 1 0 15 (w 1 0 15 + 1) g 0 k = w g 0 k := fun g k a b => (up_g a).trans ((up_g b).trans (up_g b))
  refine ⟨(e1 13 (by decide)).trans h1, fun q => (e1 14 (by decide)).trans (h2 q), up_s.trans (by rw [h3]; rfl), (e1 17 (by decide)).trans h4, (e1 19 (by decide)).trans h5, fun k a b => ?_, fun g k a b c d => (eg 9 _ rfl rfl).trans (h7 g k a b c d), fun x k a b c d => (eg 10 _ rfl rfl).trans (h8 x k a b c d)⟩
  have b : k < 2 * (T.1.2.2.1 + 1) := b
  rw [up_g rfl, up_at, up_at, h3]
  show _ = if k = 2 * T.1.2.2.1 then f 0 else if k = 2 * T.1.2.2.1 + 1 then f 1 else T.2.1 k
  by_cases q1 : k = 2 * T.1.2.2.1
  · rw [if_neg (by omega), if_pos q1, if_pos q1]
  · by_cases q2 : k = 2 * T.1.2.2.1 + 1
    · rw [if_pos q2, if_neg q1, if_pos q2]
    · rw [if_neg q2, if_neg q1, if_neg q1, if_neg q2]
      exact h6 k a (by omega)
theorem TR_c {w' : mm_M} {T : TS} {p : Int} (h : TR w T) (hT : TB T) (hw : w' = rc_w w t n p) : TR w' (itT T 99 (fun k => fig t n (p + k))) := by
  obtain ⟨h1, h2, h3, h4, h5, h6, h7, h8⟩ := h
  subst hw
  unfold rc_w
  have e1 : ∀ k, k ≠ 17 → mm_up (arrw w 9 (3 * w 1 0 17) 3 (fun k => fig t n (p + k))) 1 0 17 (w 1 0 17 + 1) 1 0 k = w 1 0 k := fun k a => (up_k a).trans (arrw_g rfl)
  have eg : ∀ g k, Nat.beq g 1 = false → Nat.beq g 9 = false → mm_up (arrw w 9 (3 * w 1 0 17) 3 (fun k => fig t n (p + k))) 1 0 17 (w 1 0 17 + 1) g 0 k = w g 0 k := fun g k a b => (up_g a).trans (arrw_g b)
  refine ⟨(e1 13 (by decide)).trans h1, fun q => (e1 14 (by decide)).trans (h2 q), (e1 15 (by decide)).trans h3, up_s.trans (by rw [h4]; rfl), (e1 19 (by decide)).trans h5, fun k a b => (eg 8 _ rfl rfl).trans (h6 k a b), fun g k a b c d => ?_, fun x k a b c d => (eg 10 _ rfl rfl).trans (h8 x k a b c d)⟩
  have b : g < T.1.2.2.2.1 + 1 := b
  rw [up_g rfl, h4]
  show _ = if g = T.1.2.2.2.1 then fig t n (p + k) else T.2.2.1 g k
  by_cases q1 : g = T.1.2.2.2.1
  · rw [if_pos q1, arrw_in (by omega), show p + (3 * g + k - 3 * T.1.2.2.2.1) = p + k by omega]
  · rw [if_neg q1, arrw_out (by omega)]
    exact h7 g k a (by omega) c d
theorem TR_e {w' : mm_M} {T : TS} {p : Int} (h : TR w T) (hT : TB T) (hw : w' = re_w w t n p) : TR w' (itT T 101 (fun k => fig t n (p + k))) := by
  obtain ⟨h1, h2, h3, h4, h5, h6, h7, h8⟩ := h
  subst hw
  unfold re_w
  have e1 : ∀ k, k ≠ 19 → mm_up (arrw w 10 (7 * w 1 0 19) 7 (fun k => fig t n (p + k))) 1 0 19 (w 1 0 19 + 1) 1 0 k = w 1 0 k := fun k a => (up_k a).trans (arrw_g rfl)
  have eg : ∀ g k, Nat.beq g 1 = false → Nat.beq g 10 = false → mm_up (arrw w 10 (7 * w 1 0 19) 7 (fun k => fig t n (p + k))) 1 0 19 (w 1 0 19 + 1) g 0 k = w g 0 k := fun g k a b => (up_g a).trans (arrw_g b)
  refine ⟨(e1 13 (by decide)).trans h1, fun q => (e1 14 (by decide)).trans (h2 q), (e1 15 (by decide)).trans h3, (e1 17 (by decide)).trans h4, up_s.trans (by rw [h5]; rfl), fun k a b => (eg 8 _ rfl rfl).trans (h6 k a b), fun g k a b c d => (eg 9 _ rfl rfl).trans (h7 g k a b c d), fun g k a b c d => ?_⟩
  have b : g < T.1.2.2.2.2 + 1 := b
  rw [up_g rfl, h5]
  show _ = if g = T.1.2.2.2.2 then fig t n (p + k) else T.2.2.2 g k
  by_cases q1 : g = T.1.2.2.2.2
  · rw [if_pos q1, arrw_in (by omega), show p + (7 * g + k - 7 * T.1.2.2.2.2) = p + k by omega]
  · rw [if_neg q1, arrw_out (by omega)]
    exact h8 g k a (by omega) c d
end ME
end
section
/-! ===== the reference: an item, the whole text ===== -/
section ME
variable {r y : Bool} {w : mm_M} {t : Int → Int} {n : Int}
theorem all_s {f : Nat → Bool} {i : Int} (hi : 0 ≤ i) : (List.range (i + 1).toNat).all f = ((List.range i.toNat).all f && f i.toNat) := by
  rw [show (i + 1).toNat = i.toNat + 1 by omega, List.range_succ, List.all_append]
  simp
theorem ev_m_readsItem {l p : Int} {T : TS} (hX : TX w t n) (hR : TR w T) (hB : TB T) (hp : 0 ≤ p ∧ p < 250) (hpos : p = 1 ↔ T.1.1 = 0) : mm_Ev K_X10_readsItem (0, 0) [.inr (some (1, 0)), .inl l, .inl p] (PH r y) w (fun a b' w' => a = some (.inl (ib (rdB T t n l p = true))) ∧ b' = PH r y ∧ sm rdL w w' ∧ (rdB T t n l p = true → TR w' (itT T l (fun k => fig t n (p + k))))) := by
  refine ev_intro ok_X10_readsItem mo_X10_readsItem (Nat.le_of_ble_eq_true rfl) (fun hrg has => ?_)
  have hd := due_in l
  have eR := hR.1
  have eV := hR.2.2.1
  have eC := hR.2.2.2.1
  have eE := hR.2.2.2.2.1
  -- behind the test of the figures
  have J67 : ∀ s : Bool, (s = ((decide (0 < due l) && decide (l = 112 ∨ 0 < T.1.1)) && (List.range (due l).toNat).all (fun k : Nat => decide (0 ≤ fig t n (p + k))))) → ∀ k5, mm_Wk K_X10_readsItem (0, 0) 67 [some (.inr (some (1, 0))), some (.inl l), some (.inl p), some (.inl (due l)), some (.inl (ib (s = true))), k5] [] (PH r y) w (fun a b' w' => a = some (.inl (ib (rdB T t n l p = true))) ∧ b' = PH r y ∧ sm rdL w w' ∧ (rdB T t n l p = true → TR w' (itT T l (fun k => fig t n (p + k))))) := fun s hs k5 => by
    have hrd : rdB T t n l p = (s && itB T l (fun k => fig t n (p + k))) := by unfold rdB; rw [← Bool.and_assoc, ← hs]
    refine k_gp rfl rfl trivial ?_
    cases s with
    | false =>
      refine k_brf rfl (by decide) ?_
      refine k_gp rfl rfl trivial ?_
      refine k_ret rfl (by omega) ⟨?_, rfl, sm_rf, fun q => ?_⟩
      · rw [hrd]; rfl
      · rw [hrd] at q; cases q
    | true =>
      rw [Bool.true_and] at hrd
      have h1 := hs.symm
      rw [Bool.and_eq_true, Bool.and_eq_true] at h1
      obtain ⟨⟨h1, h2⟩, h3⟩ := h1
      have h1 := of_decide_eq_true h1
      have h2 := of_decide_eq_true h2
      rw [List.all_eq_true] at h3
      have hf : ∀ k : Int, 0 ≤ k → k < due l → 0 ≤ fig t n (p + k) := fun k a b => by
        have := of_decide_eq_true (h3 k.toNat (List.mem_range.mpr (by omega)))
        rw [show ((k.toNat : Nat) : Int) = k by omega] at this
        exact this
      rw [hrd]
      refine k_brt rfl (by decide) ?_
      refine k_gp rfl rfl trivial ?_
      obtain ⟨rfl, hdl⟩ | ⟨rfl, hdl⟩ | ⟨rfl, hdl⟩ | ⟨rfl, hdl⟩ := due_cases h1
      · refine k_lsw rfl rfl rfl (by decide) ?_
        refine k_gp rfl rfl trivial ?_
        refine k_call0 rfl (ev_m_readsPlaces (t := t) (n := n) hX (by omega)) rfl rfl rfl (by decide) ?_
        intro a b' w' hq
        obtain ⟨rfl, rfl, hw⟩ := hq
        have e : itB T 112 (fun k => fig t n (p + k)) = decide (rp_c w t n p) := by
          unfold itB
          rw [if_pos rfl]
          refine decide_eq_decide.mpr ?_
          simp only [Int.add_zero, rp_c, hpos]
        refine k_ret rfl (ib_in _) ⟨?_, rfl, ?_, ?_⟩
        · rw [e]; simp only [decide_eq_true_eq]
        · rw [hw]; split
          · exact sm_up (sm_up sm_rf (by decide)) (by decide)
          · exact sm_rf
        · intro q
          rw [e] at q
          rw [if_pos (of_decide_eq_true q)] at hw
          exact TR_p hR hB (by rw [hw]; simp only [Int.add_zero])
      · refine k_lsw rfl rfl rfl (by decide) ?_
        refine k_gp rfl rfl trivial ?_
        refine k_call0 rfl (ev_m_readsVariable (t := t) (n := n) hX (by omega) (by rw [eV]; exact hB.2.1)) rfl rfl rfl (by decide) ?_
        intro a b' w' hq
        obtain ⟨rfl, rfl, hw⟩ := hq
        have e : itB T 118 (fun k => fig t n (p + k)) = decide (rv_c w t n p) := by
          unfold itB
          rw [if_neg (by decide), if_neg (by omega), if_pos rfl]
          refine decide_eq_decide.mpr ?_
          simp only [Int.add_zero, rv_c, eV]
          have := hB.2.1
          exact ⟨fun q => ⟨by omega, q.2⟩, fun q => ⟨by omega, q.2⟩⟩
        refine k_ret rfl (ib_in _) ⟨?_, rfl, ?_, ?_⟩
        · rw [e]; simp only [decide_eq_true_eq]
        · rw [hw]; split
          · exact sm_up (sm_up (sm_up sm_rf (Or.inl (by decide))) (Or.inl (by decide))) (by decide)
          · exact sm_rf
        · intro q
          rw [e] at q
          rw [if_pos (of_decide_eq_true q)] at hw
          exact TR_v hR hB (by rw [hw]; simp only [Int.add_zero])
      · refine k_lsw rfl rfl rfl (by decide) ?_
        refine k_gp rfl rfl trivial ?_
        refine k_call0 rfl (ev_m_readsComparison (t := t) (n := n) hX (by omega) (by rw [eC]; exact hB.2.2.1)) rfl rfl rfl (by decide) ?_
        intro a b' w' hq
        obtain ⟨rfl, rfl, hw⟩ := hq
        have e : itB T 99 (fun k => fig t n (p + k)) = decide (rc_c w t n p) := by
          unfold itB
          rw [if_neg (by decide), if_neg (by omega), if_neg (by decide), if_pos rfl]
          refine decide_eq_decide.mpr ?_
          simp only [Int.add_zero, rc_c, eV, eC]
          have := hB.2.2.1
          exact ⟨fun q => ⟨by omega, q.2⟩, fun q => ⟨by omega, q.2⟩⟩
        refine k_ret rfl (ib_in _) ⟨?_, rfl, ?_, ?_⟩
        · rw [e]; simp only [decide_eq_true_eq]
        · rw [hw]; split
          · exact sm_up (sm_arrw sm_rf (by decide)) (by decide)
          · exact sm_rf
        · intro q
          rw [e] at q
          rw [if_pos (of_decide_eq_true q)] at hw
          exact TR_c hR hB hw
      · refine k_lsw rfl rfl rfl (by decide) ?_
        refine k_gp rfl rfl trivial ?_
        refine k_call0 rfl (ev_m_readsEdge (t := t) (n := n) hX (by omega) (by rw [eE]; exact hB.2.2.2)) rfl rfl rfl (by decide) ?_
        intro a b' w' hq
        obtain ⟨rfl, rfl, hw⟩ := hq
        have e : itB T 101 (fun k => fig t n (p + k)) = re_c w t n p := by
          unfold itB re_c
          rw [if_neg (by decide), if_neg (by omega), if_neg (by decide), if_neg (by decide)]
          simp only [Int.add_zero, eV, eC, eE, eR]
        refine k_ret rfl (ib_in _) ⟨?_, rfl, ?_, ?_⟩
        · rw [e]
        · rw [hw]; split
          · exact sm_up (sm_arrw sm_rf (by decide)) (by decide)
          · exact sm_rf
        · intro q
          rw [e] at q
          rw [if_pos q] at hw
          exact TR_e hR hB hw
  have J27 : ∀ s0 : Bool, s0 = (decide (0 < due l) && decide (l = 112 ∨ 0 < T.1.1)) → mm_Wk K_X10_readsItem (0, 0) 27 [some (.inr (some (1, 0))), some (.inl l), some (.inl p), some (.inl (due l)), none, none] [.inl (ib (s0 = true))] (PH r y) w (fun a b' w' => a = some (.inl (ib (rdB T t n l p = true))) ∧ b' = PH r y ∧ sm rdL w w' ∧ (rdB T t n l p = true → TR w' (itT T l (fun k => fig t n (p + k))))) := fun s0 hs0 => by
    refine k_gp rfl rfl trivial ?_
    refine mm_loop (σ := Bool) (due l) (fun i s => (0 ≤ i ∧ i ≤ due l) ∧ s = (s0 && (List.range i.toNat).all (fun k : Nat => decide (0 ≤ fig t n (p + k))))) (fun i s => mm_Wk K_X10_readsItem (0, 0) 32 [some (.inr (some (1, 0))), some (.inl l), some (.inl p), some (.inl (due l)), some (.inl (ib (s = true))), some (.inl i)] [] (PH r y) w (fun a b' w' => a = some (.inl (ib (rdB T t n l p = true))) ∧ b' = PH r y ∧ sm rdL w w' ∧ (rdB T t n l p = true → TR w' (itT T l (fun k => fig t n (p + k)))))) ?_ ?_ 0 s0 ⟨by omega, by simp⟩
    · intro i s h1 h2 ih
      obtain ⟨h2, h3⟩ := h2
      have e2 : ∀ s', s' = (s && decide (0 ≤ fig t n (p + i))) → _ := fun s' hs' => ih s' ⟨by omega, by
        rw [all_s (by omega), ← Bool.and_assoc, ← h3, hs']
        simp only [show ((i.toNat : Nat) : Int) = i by omega]⟩
      refine k_gp rfl rfl trivial ?_
      refine k_brf rfl (by omega) ?_
      refine k_gp rfl rfl trivial ?_
      refine k_brz rfl (fun g1 => ?_) (fun g1 => ?_)
      · refine k_gp rfl rfl trivial ?_
        refine k_gp rfl rfl (by simp only [true_and, mm_fits]; omega) ?_
        exact e2 false (by simp at g1; simp [g1])
      · refine k_gp rfl rfl (by simp only [true_and, mm_fits]; omega) ?_
        refine k_callp rfl (ev_m_figure hX (by omega)) rfl rfl rfl (by decide) ?_
        refine k_br rfl (fun g2 => ?_) (fun g2 => ?_)
        · refine k_gp rfl rfl trivial ?_
          refine k_gp rfl rfl (by simp only [true_and, mm_fits]; omega) ?_
          exact e2 false (by rw [decide_eq_false (by omega)]; simp)
        · refine k_gp rfl rfl trivial ?_
          refine k_gp rfl rfl (by simp only [true_and, mm_fits]; omega) ?_
          exact e2 true (by rw [decide_eq_true (by omega), g1]; rfl)
    · intro i s h1 h2
      obtain ⟨h2, h3⟩ := h2
      refine k_gp rfl rfl trivial ?_
      refine k_brt rfl (by omega) ?_
      exact J67 s (by rw [h3, hs0, show i = due l by omega]) _
  refine k_gp rfl rfl trivial ?_
  refine k_callp rfl ev_m_figuresOf rfl rfl rfl (by decide) ?_
  refine k_gp rfl rfl trivial ?_
  refine k_br rfl (fun g1 => ?_) (fun g1 => ?_)
  · refine k_gp rfl rfl trivial ?_
    exact J27 false (by rw [decide_eq_false (by omega)]; rfl)
  · rw [decide_eq_true (show 0 < due l by omega), Bool.true_and] at J27
    refine k_gp rfl rfl trivial ?_
    refine k_br rfl (fun g2 => ?_) (fun g2 => ?_)
    · refine k_gp rfl rfl trivial ?_
      exact J27 true (by rw [decide_eq_true (Or.inl g2)])
    · refine k_gp rfl rfl trivial ?_
      refine k_br rfl (fun g3 => ?_) (fun g3 => ?_)
      · refine k_gp rfl rfl trivial ?_
        exact J27 false (by rw [decide_eq_false (by omega)])
      · refine k_gp rfl rfl trivial ?_
        exact J27 true (by rw [decide_eq_true (Or.inr (by omega))])
theorem itB_np {T : TS} {l : Int} {f : Int → Int} (h : itB T l f = true) : l = 112 ∨ T.1.1 ≠ 0 := by
  unfold itB at h
  split at h
  · exact Or.inl (by assumption)
  · split at h
    · cases h
    · exact Or.inr (by assumption)
theorem itT_np {T : TS} {l : Int} {f : Int → Int} (h : itB T l f = true) : (itT T l f).1.1 ≠ 0 := by
  have h0 := itB_np h
  unfold itT
  split
  · rename_i hl
    unfold itB at h
    rw [if_pos hl] at h
    have := of_decide_eq_true h
    show f 0 ≠ 0
    omega
  · rename_i hl
    have h1 : T.1.1 ≠ 0 := h0.resolve_left hl
    split
    · exact h1
    · split <;> exact h1
theorem okB_rd {T : TS} {p : Int} (hB : TB T) : okB T t n p = (rdB T t n (t p) (p + 1) && decide (p + 1 + due (t p) < n ∧ t (p + 1 + due (t p)) = 59)) := by
  unfold okB rdB
  cases hi : itB T (t p) (fun k => fig t n (p + 1 + k)) with
  | false => simp
  | true =>
    have h1 : t p = 112 ∨ 0 < T.1.1 := by
      have := itB_np hi
      have := hB.1
      omega
    rw [decide_eq_true h1]
    simp [Bool.and_assoc]
theorem ev_m_reads (hX : TX w t n) : mm_Ev K_X10_reads (0, 0) [.inr (some (1, 0))] (PH r y) w (fun a b' w' => a = some (.inl (prs t n 201 0 T0).1) ∧ b' = PH r y ∧ sm rdL w w' ∧ ((prs t n 201 0 T0).1 = -4 → TR w' (prs t n 201 0 T0).2 ∧ TB (prs t n 201 0 T0).2)) := by
  refine ev_intro ok_X10_reads mo_X10_reads (Nat.le_of_ble_eq_true rfl) (fun hrg has => ?_)
  have hn := hX.2.2
  have LP : ∀ (k : Nat) (p : Int) (w1 : mm_M) (T : TS), (n - p).toNat < k → 0 ≤ p → TR w1 T → TB T → (p = 0 ↔ T.1.1 = 0) → sm rdL w w1 → ∀ l2, mm_Wk K_X10_reads (0, 0) 22 [some (.inr (some (1, 0))), some (.inl p), l2] [] (PH r y) w1 (fun a b' w' => a = some (.inl (prs t n k p T).1) ∧ b' = PH r y ∧ sm rdL w w' ∧ ((prs t n k p T).1 = -4 → TR w' (prs t n k p T).2 ∧ TB (prs t n k p T).2)) := by
    intro k
    induction k with
    | zero => intro p w1 T h; omega
    | succ k ih =>
      intro p w1 T hk h0 hR hB hpos hs l2
      have hX1 : TX w1 t n := TX_sm hX hs (fun _ => rfl) rfl
      have hr := hX1.1 p
      have hl := hX1.2.1
      have hd := due_in (t p)
      have hprs : prs t n (k + 1) p T = if n ≤ p then (-4, T) else if okB T t n p = true then prs t n k (p + due (t p) + 2) (itT T (t p) (fun k => fig t n (p + 1 + k))) else (p, T) := rfl
      rw [hprs]
      refine k_gp rfl rfl trivial ?_
      refine k_br rfl (fun g1 => ?_) (fun g1 => ?_)
      · rw [if_pos (by omega)]
        refine k_gp rfl rfl trivial ?_
        exact k_ret rfl trivial ⟨rfl, rfl, hs, fun _ => ⟨hR, hB⟩⟩
      · rw [if_neg (by omega), okB_rd hB]
        have fF : ∀ w2, sm rdL w w2 → ∀ l2, mm_Wk K_X10_reads (0, 0) 79 [some (.inr (some (1, 0))), some (.inl p), l2] [] (PH r y) w2 (fun a b' w' => a = some (.inl p) ∧ b' = PH r y ∧ sm rdL w w' ∧ (p = -4 → TR w' T ∧ TB T)) := fun w2 hs2 l2 => by
          refine k_gp rfl rfl trivial ?_
          exact k_ret rfl trivial ⟨rfl, rfl, hs2, fun q => by omega⟩
        refine k_gp rfl rfl (by simp only [true_and, mm_fits]; omega) ?_
        rw [hr]
        refine k_callp rfl ev_m_figuresOf rfl rfl rfl (by decide) ?_
        refine k_gp rfl rfl (by simp only [true_and, mm_fits]; omega) ?_
        rw [hr]
        refine k_call0 rfl (ev_m_readsItem (t := t) (n := n) (T := T) hX1 hR hB (by omega) (by rw [← hpos]; omega)) rfl rfl rfl (by decide) ?_
        rintro a b' w2 ⟨rfl, rfl, hs2, hT2⟩
        have hs2 := sm_tr hs hs2
        have hX2 : TX w2 t n := TX_sm hX hs2 (fun _ => rfl) rfl
        have hl2 := hX2.2.1
        refine k_brz rfl (fun g2 => ?_) (fun g2 => ?_)
        · rw [if_neg (fun q => g2 (by rw [Bool.and_eq_true] at q; exact q.1))]
          exact fF w2 hs2 _
        · rw [g2, Bool.true_and]
          refine k_gp rfl rfl trivial ?_
          refine k_br rfl (fun g3 => ?_) (fun g3 => ?_)
          · rw [if_neg (fun q => by have := of_decide_eq_true q; omega)]
            exact fF w2 hs2 _
          · refine k_gp rfl rfl (by simp only [true_and, mm_fits]; omega) ?_
            rw [hX2.1]
            refine k_br rfl (fun g4 => ?_) (fun g4 => ?_)
            · rw [if_pos (decide_eq_true ⟨by omega, g4⟩)]
              have hit : itB T (t p) (fun k => fig t n (p + 1 + k)) = true := by
                unfold rdB at g2
                rw [Bool.and_eq_true, Bool.and_eq_true] at g2
                have := g2.2
                rw [Bool.and_eq_true] at this
                exact this.2
              have hdp : 0 < due (t p) := by
                unfold rdB at g2
                rw [Bool.and_eq_true, Bool.and_eq_true] at g2
                exact of_decide_eq_true g2.1.1
              refine k_gp rfl rfl (by simp only [true_and, mm_fits]; omega) ?_
              rw [show p + 1 + due (t p) + 1 = p + due (t p) + 2 by omega]
              exact ih _ w2 _ (by omega) (by omega) (hT2 g2) (TB_it hB hit) ⟨fun q => by omega, fun q => absurd q (itT_np hit)⟩ hs2 _
            · rw [if_neg (fun q => g4 (of_decide_eq_true q).2)]
              exact fF w2 hs2 _
  refine k_gp rfl rfl trivial ?_
  refine LP 201 0 _ T0 (by omega) (by omega) ⟨?_, fun q => absurd rfl q, ?_, ?_, ?_, fun k a b => ?_, fun g k a b => ?_, fun x k a b => ?_⟩ ⟨Or.inl rfl, by decide, by decide, by decide⟩ ⟨fun _ => rfl, fun _ => rfl⟩ (sm_up (sm_up (sm_up (sm_up sm_rf (by decide)) (by decide)) (by decide)) (by decide)) _
  · exact (up_k (by decide)).trans ((up_k (by decide)).trans ((up_k (by decide)).trans up_s))
  · exact (up_k (by decide)).trans ((up_k (by decide)).trans up_s)
  · exact (up_k (by decide)).trans up_s
  · exact up_s
  · have b : k < 2 * 0 := b
    omega
  · have b : g < 0 := b
    omega
  · have b : x < 0 := b
    omega
theorem ev_m_fault (hX : TX w t n) : mm_Ev K_X10_fault (0, 0) [.inr (some (1, 0))] (PH r y) w (fun a b' w' => a = some (.inl (prs t n 201 0 T0).1) ∧ b' = PH r y ∧ sm rdL w w') := by
  refine ev_intro ok_X10_fault mo_X10_fault (Nat.le_of_ble_eq_true rfl) (fun hrg has => ?_)
  refine k_gp rfl rfl trivial ?_
  refine k_call0 rfl (ev_m_reads hX) rfl rfl rfl (by decide) ?_
  rintro a b' w2 ⟨rfl, rfl, hs2, hT2⟩
  exact k_ret rfl trivial ⟨rfl, rfl, hs2⟩
theorem ev_m_write {l : Int} (hn : 0 ≤ w 1 0 0 ∧ w 1 0 0 ≤ 200) : mm_Ev K_X10_write (0, 0) [.inr (some (1, 0)), .inl l] (PH r y) w (mm_pe (some (.inl (if l < 32 ∨ l > 126 then -1 else if w 1 0 0 = 200 then -3 else w 1 0 0 + 1))) (PH r y) (if l < 32 ∨ l > 126 ∨ w 1 0 0 = 200 then w else mm_up (mm_up w 2 0 (w 1 0 0) l) 1 0 0 (w 1 0 0 + 1))) := by
  refine ev_intro ok_X10_write mo_X10_write (Nat.le_of_ble_eq_true rfl) (fun hrg has => ?_)
  refine k_gp rfl rfl trivial ?_
  refine k_br rfl (fun g1 => ?_) (fun g1 => ?_)
  · rw [if_pos (by omega), if_pos (by omega)]
    repeat' (first
      | refine k_brt rfl (by decide) ?_
      | refine k_brf rfl (by decide) ?_
      | refine k_brz rfl (fun _ => ?_) (fun _ => ?_)
      | refine k_brn rfl (fun _ => ?_) (fun _ => ?_)
      | refine k_br rfl (fun _ => ?_) (fun _ => ?_)
      | refine k_ret rfl ?_ ⟨?_, rfl, rfl⟩
      | refine k_ts rfl rfl ?_ (fun _ => ?_)
      | refine mm_tsc (fun _ => ?_) ?_
      | exact mm_tsn
      | refine k_gp rfl rfl ?_ ?_)
    all_goals (first | trivial | omega | (simp only [true_and, mm_fits]; omega) | (refine congrArg some (congrArg Sum.inl ?_); first | rfl | (rw [ib_t (by omega)]) | (rw [ib_f (by omega)]) | omega))
  · refine k_gp rfl rfl trivial ?_
    refine k_br rfl (fun g2 => ?_) (fun g2 => ?_)
    · refine k_gp rfl rfl trivial ?_
      rw [if_neg (by omega)]
      refine k_br rfl (fun g3 => ?_) (fun g3 => ?_)
      · rw [if_neg g3, if_neg (by omega)]
        have e1 : ∀ k, mm_up w 2 0 (w 1 0 0) l 1 0 k = w 1 0 k := fun k => up_g rfl
        refine k_gp rfl rfl (by simp only [true_and, mm_fits, e1]; omega) ?_
        simp only [e1, up_s]
        exact k_ret rfl trivial ⟨rfl, rfl, rfl⟩
      · rw [if_pos (by omega), if_pos (by omega)]
        repeat' (first
          | refine k_brt rfl (by decide) ?_
          | refine k_brf rfl (by decide) ?_
          | refine k_brz rfl (fun _ => ?_) (fun _ => ?_)
          | refine k_brn rfl (fun _ => ?_) (fun _ => ?_)
          | refine k_br rfl (fun _ => ?_) (fun _ => ?_)
          | refine k_ret rfl ?_ ⟨?_, rfl, rfl⟩
          | refine k_ts rfl rfl ?_ (fun _ => ?_)
          | refine mm_tsc (fun _ => ?_) ?_
          | exact mm_tsn
          | refine k_gp rfl rfl ?_ ?_)
        all_goals (first | trivial | omega | (simp only [true_and, mm_fits]; omega) | (refine congrArg some (congrArg Sum.inl ?_); first | rfl | (rw [ib_t (by omega)]) | (rw [ib_f (by omega)]) | omega))
    · rw [if_pos (by omega), if_pos (by omega)]
      repeat' (first
        | refine k_brt rfl (by decide) ?_
        | refine k_brf rfl (by decide) ?_
        | refine k_brz rfl (fun _ => ?_) (fun _ => ?_)
        | refine k_brn rfl (fun _ => ?_) (fun _ => ?_)
        | refine k_br rfl (fun _ => ?_) (fun _ => ?_)
        | refine k_ret rfl ?_ ⟨?_, rfl, rfl⟩
        | refine k_ts rfl rfl ?_ (fun _ => ?_)
        | refine mm_tsc (fun _ => ?_) ?_
        | exact mm_tsn
        | refine k_gp rfl rfl ?_ ?_)
      all_goals (first | trivial | omega | (simp only [true_and, mm_fits]; omega) | (refine congrArg some (congrArg Sum.inl ?_); first | rfl | (rw [ib_t (by omega)]) | (rw [ib_f (by omega)]) | omega))
theorem ev_m_wipe : mm_Ev K_X10_wipe (0, 0) [.inr (some (1, 0))] (PH r y) w (mm_pe (some (.inl (w 1 0 0))) (PH r y) (mm_up w 1 0 0 0)) := by
  refine ev_intro ok_X10_wipe mo_X10_wipe (Nat.le_of_ble_eq_true rfl) (fun hrg has => ?_)
  repeat' (first
    | refine k_brt rfl (by decide) ?_
    | refine k_brf rfl (by decide) ?_
    | refine k_brz rfl (fun _ => ?_) (fun _ => ?_)
    | refine k_brn rfl (fun _ => ?_) (fun _ => ?_)
    | refine k_br rfl (fun _ => ?_) (fun _ => ?_)
    | refine k_ret rfl ?_ ⟨?_, rfl, rfl⟩
    | refine k_ts rfl rfl ?_ (fun _ => ?_)
    | refine mm_tsc (fun _ => ?_) ?_
    | exact mm_tsn
    | refine k_gp rfl rfl ?_ ?_)
  all_goals (first | trivial | omega | (simp only [true_and, mm_fits]; omega) | (refine congrArg some (congrArg Sum.inl ?_); first | rfl | (rw [ib_t (by omega)]) | (rw [ib_f (by omega)]) | omega))
end ME
end
section
/-! ===== the reference: changes, what is laid, small answers ===== -/
def begW (w : mm_M) : mm_M := mm_up (arrw (arrw w 6 0 8 (fun _ => 0)) 6 8 14 (fun x => w 5 0 (7 * x + 3))) 1 0 12 0
def kepA (w : mm_M) : mm_M := if w 1 0 12 = 6 then mm_up (arrw w 7 0 110 (fun k => w 7 0 (k + 22))) 1 0 12 5 else w
def kepW (w : mm_M) : mm_M := mm_up (arrw (kepA w) 7 (22 * kepA w 1 0 12) 22 (fun k => w 6 0 k)) 1 0 12 (kepA w 1 0 12 + 1)
def undW (w : mm_M) : mm_M := arrw (mm_up w 1 0 12 (w 1 0 12 - 1)) 6 0 22 (fun k => w 7 0 (22 * (w 1 0 12 - 1) + k))
/-- how many of the bits 0 to 7 -/
def pop8 (s : Int) : Nat → Int
  | 0 => 0
  | k + 1 => pop8 s k + s / ((2 ^ k : Nat) : Int) % 2
theorem ib_c {p q : Prop} [Decidable p] [Decidable q] (h : p ↔ q) : ib p = ib q := by
  by_cases hp : p
  · rw [ib_t hp, ib_t (h.mp hp)]
  · rw [ib_f hp, ib_f (fun z => hp (h.mpr z))]
section ME
variable {r y : Bool} {w : mm_M} {t : Int → Int} {n : Int}
theorem ev_m_begins : mm_Ev K_X10_begins (0, 0) [.inr (some (1, 0))] (PH r y) w (mm_pe none (PH r y) (begW w)) := by
  refine ev_intro ok_X10_begins mo_X10_begins (Nat.le_of_ble_eq_true rfl) (fun hrg has => ?_)
  refine k_gp rfl rfl trivial ?_
  refine mm_loop (σ := mm_M) 8 (fun i w1 => (0 ≤ i ∧ i ≤ 8) ∧ w1 = arrw w 6 0 i (fun _ => 0)) (fun i w1 => mm_Wk K_X10_begins (0, 0) 2 [some (.inr (some (1, 0))), some (.inl i)] [] (PH r y) w1 (mm_pe none (PH r y) (begW w))) ?_ ?_ 0 w ⟨by omega, arrw_0.symm⟩
  · intro i w1 h1 h2 ih
    obtain ⟨h2, rfl⟩ := h2
    refine k_gp rfl rfl trivial ?_
    refine k_brf rfl (by omega) ?_
    refine k_gp rfl rfl (by simp only [true_and, mm_fits]; omega) ?_
    exact ih _ ⟨by omega, arrw_s (by omega) (by omega) rfl⟩
  · intro i w1 h1 h2
    obtain ⟨h2, rfl⟩ := h2
    have hi : i = 8 := by omega
    subst hi
    refine k_gp rfl rfl trivial ?_
    refine k_brt rfl (by omega) ?_
    refine k_gp rfl rfl trivial ?_
    refine mm_loop (σ := mm_M) 14 (fun i w1 => (0 ≤ i ∧ i ≤ 14) ∧ w1 = arrw (arrw w 6 0 8 (fun _ => 0)) 6 8 i (fun x => w 5 0 (7 * x + 3))) (fun i w1 => mm_Wk K_X10_begins (0, 0) 23 [some (.inr (some (1, 0))), some (.inl i)] [] (PH r y) w1 (mm_pe none (PH r y) (begW w))) ?_ ?_ 0 _ ⟨by omega, arrw_0.symm⟩
    · intro i w1 h1 h2 ih
      obtain ⟨h2, rfl⟩ := h2
      refine k_gp rfl rfl trivial ?_
      refine k_brf rfl (by omega) ?_
      refine k_gp rfl rfl (by simp only [true_and, mm_fits]; omega) ?_
      exact ih _ ⟨by omega, arrw_s (by omega) (by omega) ((arrw_g rfl).trans (arrw_g rfl))⟩
    · intro i w1 h1 h2
      obtain ⟨h2, rfl⟩ := h2
      have hi : i = 14 := by omega
      subst hi
      refine k_gp rfl rfl trivial ?_
      refine k_brt rfl (by omega) ?_
      refine k_gp rfl rfl trivial ?_
      exact k_ret rfl trivial ⟨rfl, rfl, rfl⟩
theorem ev_m_keeps (hc : 0 ≤ w 1 0 12 ∧ w 1 0 12 ≤ 6) : mm_Ev K_X10_keeps (0, 0) [.inr (some (1, 0))] (PH r y) w (mm_pe none (PH r y) (kepW w)) := by
  refine ev_intro ok_X10_keeps mo_X10_keeps (Nat.le_of_ble_eq_true rfl) (fun hrg has => ?_)
  have J48 : ∀ l1, mm_Wk K_X10_keeps (0, 0) 48 [some (.inr (some (1, 0))), l1] [] (PH r y) (kepA w) (mm_pe none (PH r y) (kepW w)) := fun l1 => by
    have hA : 0 ≤ kepA w 1 0 12 ∧ kepA w 1 0 12 ≤ 5 := by
      unfold kepA
      split
      · rw [up_s]; omega
      · omega
    have h6 : ∀ k, kepA w 6 0 k = w 6 0 k := fun k => by
      unfold kepA
      split
      · exact (up_g rfl).trans (arrw_g rfl)
      · rfl
    refine k_gp rfl rfl trivial ?_
    refine mm_loop (σ := mm_M) 22 (fun i w1 => (0 ≤ i ∧ i ≤ 22) ∧ w1 = arrw (kepA w) 7 (22 * kepA w 1 0 12) i (fun k => w 6 0 k)) (fun i w1 => mm_Wk K_X10_keeps (0, 0) 50 [some (.inr (some (1, 0))), some (.inl i)] [] (PH r y) w1 (mm_pe none (PH r y) (kepW w))) ?_ ?_ 0 _ ⟨by omega, arrw_0.symm⟩
    · intro i w1 h1 h2 ih
      obtain ⟨h2, rfl⟩ := h2
      have e1 : ∀ k, arrw (kepA w) 7 (22 * kepA w 1 0 12) i (fun k => w 6 0 k) 1 0 k = kepA w 1 0 k := fun k => arrw_g rfl
      refine k_gp rfl rfl trivial ?_
      refine k_brf rfl (by omega) ?_
      refine k_gp rfl rfl (by simp only [true_and, mm_fits, e1]; omega) ?_
      simp only [e1]
      exact ih _ ⟨by omega, arrw_s (by omega) rfl ((arrw_g rfl).trans (h6 i))⟩
    · intro i w1 h1 h2
      obtain ⟨h2, rfl⟩ := h2
      have hi : i = 22 := by omega
      subst hi
      have e1 : ∀ k, arrw (kepA w) 7 (22 * kepA w 1 0 12) 22 (fun k => w 6 0 k) 1 0 k = kepA w 1 0 k := fun k => arrw_g rfl
      refine k_gp rfl rfl trivial ?_
      refine k_brt rfl (by omega) ?_
      refine k_gp rfl rfl (by simp only [true_and, mm_fits, e1]; omega) ?_
      simp only [e1]
      exact k_ret rfl trivial ⟨rfl, rfl, rfl⟩
  refine k_gp rfl rfl trivial ?_
  refine k_br rfl (fun g1 => ?_) (fun g1 => ?_)
  · have e : kepA w = w := if_neg g1
    rw [e] at J48
    exact J48 _
  · have g1 : w 1 0 12 = 6 := Classical.byContradiction g1
    have e : kepA w = mm_up (arrw w 7 0 110 (fun k => w 7 0 (k + 22))) 1 0 12 5 := if_pos g1
    rw [e] at J48
    refine k_gp rfl rfl trivial ?_
    refine mm_loop (σ := mm_M) 110 (fun i w1 => (0 ≤ i ∧ i ≤ 110) ∧ w1 = arrw w 7 0 i (fun k => w 7 0 (k + 22))) (fun i w1 => mm_Wk K_X10_keeps (0, 0) 11 [some (.inr (some (1, 0))), some (.inl i)] [] (PH r y) w1 (mm_pe none (PH r y) (kepW w))) ?_ ?_ 0 _ ⟨by omega, arrw_0.symm⟩
    · intro i w1 h1 h2 ih
      obtain ⟨h2, rfl⟩ := h2
      refine k_gp rfl rfl trivial ?_
      refine k_brf rfl (by omega) ?_
      refine k_gp rfl rfl (by simp only [true_and, mm_fits]; omega) ?_
      exact ih _ ⟨by omega, arrw_s (by omega) (by omega) (arrw_out (by omega))⟩
    · intro i w1 h1 h2
      obtain ⟨h2, rfl⟩ := h2
      have hi : i = 110 := by omega
      subst hi
      have e1 : ∀ k, arrw w 7 0 110 (fun k => w 7 0 (k + 22)) 1 0 k = w 1 0 k := fun k => arrw_g rfl
      refine k_gp rfl rfl trivial ?_
      refine k_brt rfl (by omega) ?_
      refine k_gp rfl rfl (by simp only [true_and, mm_fits, e1]; omega) ?_
      rw [e1, g1]
      exact J48 _
theorem ev_m_undo (hc : 0 ≤ w 1 0 12 ∧ w 1 0 12 ≤ 6) : mm_Ev K_X10_undo (0, 0) [.inr (some (1, 0))] (PH r y) w (mm_pe (some (.inl (if w 1 0 12 = 0 then -2 else w 1 0 12 - 1))) (PH r y) (if w 1 0 12 = 0 then w else undW w)) := by
  refine ev_intro ok_X10_undo mo_X10_undo (Nat.le_of_ble_eq_true rfl) (fun hrg has => ?_)
  refine k_gp rfl rfl trivial ?_
  refine k_br rfl (fun g1 => ?_) (fun g1 => ?_)
  · rw [if_neg g1, if_neg g1]
    have e0 : mm_up w 1 0 12 (w 1 0 12 - 1) 1 0 12 = w 1 0 12 - 1 := up_s
    refine k_gp rfl rfl (by simp only [true_and, mm_fits]; omega) ?_
    refine mm_loop (σ := mm_M) 22 (fun i w1 => (0 ≤ i ∧ i ≤ 22) ∧ w1 = arrw (mm_up w 1 0 12 (w 1 0 12 - 1)) 6 0 i (fun k => w 7 0 (22 * (w 1 0 12 - 1) + k))) (fun i w1 => mm_Wk K_X10_undo (0, 0) 22 [some (.inr (some (1, 0))), some (.inl i)] [] (PH r y) w1 (mm_pe (some (.inl (w 1 0 12 - 1))) (PH r y) (undW w))) ?_ ?_ 0 _ ⟨by omega, arrw_0.symm⟩
    · intro i w1 h1 h2 ih
      obtain ⟨h2, rfl⟩ := h2
      have e1 : arrw (mm_up w 1 0 12 (w 1 0 12 - 1)) 6 0 i (fun k => w 7 0 (22 * (w 1 0 12 - 1) + k)) 1 0 12 = w 1 0 12 - 1 := (arrw_g rfl).trans up_s
      refine k_gp rfl rfl trivial ?_
      refine k_brf rfl (by omega) ?_
      refine k_gp rfl rfl (by simp only [true_and, mm_fits, e1]; omega) ?_
      simp only [e1]
      exact ih _ ⟨by omega, arrw_s (by omega) (by omega) ((arrw_g rfl).trans (up_g rfl))⟩
    · intro i w1 h1 h2
      obtain ⟨h2, rfl⟩ := h2
      have hi : i = 22 := by omega
      subst hi
      have e1 : arrw (mm_up w 1 0 12 (w 1 0 12 - 1)) 6 0 22 (fun k => w 7 0 (22 * (w 1 0 12 - 1) + k)) 1 0 12 = w 1 0 12 - 1 := (arrw_g rfl).trans up_s
      refine k_gp rfl rfl trivial ?_
      refine k_brt rfl (by omega) ?_
      refine k_gp rfl rfl trivial ?_
      rw [e1]
      exact k_ret rfl trivial ⟨rfl, rfl, rfl⟩
  · have g1 : w 1 0 12 = 0 := Classical.byContradiction g1
    rw [if_pos g1, if_pos g1]
    repeat' (first
      | refine k_brt rfl (by decide) ?_
      | refine k_brf rfl (by decide) ?_
      | refine k_brz rfl (fun _ => ?_) (fun _ => ?_)
      | refine k_brn rfl (fun _ => ?_) (fun _ => ?_)
      | refine k_br rfl (fun _ => ?_) (fun _ => ?_)
      | refine k_ret rfl ?_ ⟨?_, rfl, rfl⟩
      | refine k_ts rfl rfl ?_ (fun _ => ?_)
      | refine mm_tsc (fun _ => ?_) ?_
      | exact mm_tsn
      | refine k_gp rfl rfl ?_ ?_)
    all_goals (first | trivial | omega | (simp only [true_and, mm_fits]; omega) | (refine congrArg some (congrArg Sum.inl ?_); first | rfl | (rw [ib_t (by omega)]) | (rw [ib_f (by omega)]) | omega))
theorem pop8_in (s : Int) (k : Nat) : 0 ≤ pop8 s k ∧ pop8 s k ≤ k := by
  induction k with
  | zero => exact ⟨Int.le_refl _, Int.le_refl _⟩
  | succ k ih =>
    have e : pop8 s (k + 1) = pop8 s k + s / ((2 ^ k : Nat) : Int) % 2 := rfl
    rw [e]
    omega
theorem ev_m_bits {s : Int} (hs : 0 ≤ s ∧ s < 2147483648) : mm_Ev K_X10_bits (0, 0) [.inl s] (PH r y) w (mm_pe (some (.inl (pop8 s 8))) (PH r y) w) := by
  refine ev_intro ok_X10_bits mo_X10_bits (Nat.le_of_ble_eq_true rfl) (fun hrg has => ?_)
  refine k_gp rfl rfl trivial ?_
  refine mm_loop (σ := Int) 8 (fun i v => (0 ≤ i ∧ i ≤ 8) ∧ v = pop8 s i.toNat) (fun i v => mm_Wk K_X10_bits (0, 0) 4 [some (.inl s), some (.inl v), some (.inl i)] [] (PH r y) w (mm_pe (some (.inl (pop8 s 8))) (PH r y) w)) ?_ ?_ 0 0 ⟨by omega, rfl⟩
  · intro i v h1 h2 ih
    obtain ⟨h2, rfl⟩ := h2
    have hp := pop8_in s i.toNat
    have hb := hb_eq hs (g := i) (by omega)
    have e : pop8 s (i + 1).toNat = pop8 s i.toNat + mm_and (mm_shr s i) 1 := by
      rw [hb, show (i + 1).toNat = i.toNat + 1 by omega]
      rfl
    have hq := pop8_in s (i + 1).toNat
    refine k_gp rfl rfl trivial ?_
    refine k_brf rfl (by omega) ?_
    refine k_gp rfl rfl (by simp only [true_and, ← e]; omega) ?_
    exact ih _ ⟨by omega, e.symm⟩
  · intro i v h1 h2
    obtain ⟨h2, rfl⟩ := h2
    have hi : i = 8 := by omega
    subst hi
    refine k_gp rfl rfl trivial ?_
    refine k_brt rfl (by omega) ?_
    refine k_gp rfl rfl trivial ?_
    exact k_ret rfl trivial ⟨rfl, rfl, rfl⟩
theorem ev_m_isPlace {p : Int} (h : 0 ≤ w 1 0 2 ∧ w 1 0 2 ≤ 8) : mm_Ev K_X10_isPlace (0, 0) [.inr (some (1, 0)), .inl p] (PH r y) w (mm_pe (some (.inl (ib (0 ≤ p ∧ p < w 1 0 2)))) (PH r y) w) := by
  refine ev_intro ok_X10_isPlace mo_X10_isPlace (Nat.le_of_ble_eq_true rfl) (fun hrg has => ?_)
  refine k_gp rfl rfl (by simp only [true_and, mm_fits]; omega) ?_
  refine k_callp rfl ev_m_isIn rfl rfl rfl (by decide) ?_
  refine k_ret rfl (ib_in _) ⟨?_, rfl, rfl⟩
  exact congrArg (fun z => some (Sum.inl z)) (ib_c (by omega))
theorem ev_m_isComparison {p : Int} (h : 0 ≤ w 1 0 6 ∧ w 1 0 6 ≤ 8) : mm_Ev K_X10_isComparison (0, 0) [.inr (some (1, 0)), .inl p] (PH r y) w (mm_pe (some (.inl (ib (0 ≤ p ∧ p < w 1 0 6)))) (PH r y) w) := by
  refine ev_intro ok_X10_isComparison mo_X10_isComparison (Nat.le_of_ble_eq_true rfl) (fun hrg has => ?_)
  refine k_gp rfl rfl (by simp only [true_and, mm_fits]; omega) ?_
  refine k_callp rfl ev_m_isIn rfl rfl rfl (by decide) ?_
  refine k_ret rfl (ib_in _) ⟨?_, rfl, rfl⟩
  exact congrArg (fun z => some (Sum.inl z)) (ib_c (by omega))
theorem ev_m_isEdge {p : Int} (h : 0 ≤ w 1 0 8 ∧ w 1 0 8 ≤ 14) : mm_Ev K_X10_isEdge (0, 0) [.inr (some (1, 0)), .inl p] (PH r y) w (mm_pe (some (.inl (ib (0 ≤ p ∧ p < w 1 0 8)))) (PH r y) w) := by
  refine ev_intro ok_X10_isEdge mo_X10_isEdge (Nat.le_of_ble_eq_true rfl) (fun hrg has => ?_)
  refine k_gp rfl rfl (by simp only [true_and, mm_fits]; omega) ?_
  refine k_callp rfl ev_m_isIn rfl rfl rfl (by decide) ?_
  refine k_ret rfl (ib_in _) ⟨?_, rfl, rfl⟩
  exact congrArg (fun z => some (Sum.inl z)) (ib_c (by omega))
theorem ev_m_areValues {a b c : Int} : mm_Ev K_X10_areValues (0, 0) [.inl a, .inl b, .inl c] (PH r y) w (mm_pe (some (.inl (ib ((0 ≤ a ∧ a ≤ 7) ∧ (0 ≤ b ∧ b ≤ 7) ∧ (0 ≤ c ∧ c ≤ 7))))) (PH r y) w) := by
  refine ev_intro ok_X10_areValues mo_X10_areValues (Nat.le_of_ble_eq_true rfl) (fun hrg has => ?_)
  repeat' (first
    | refine k_brt rfl (by decide) ?_
    | refine k_brf rfl (by decide) ?_
    | refine k_brz rfl (fun _ => ?_) (fun _ => ?_)
    | refine k_brn rfl (fun _ => ?_) (fun _ => ?_)
    | refine k_br rfl (fun _ => ?_) (fun _ => ?_)
    | refine k_ret rfl ?_ ⟨?_, rfl, rfl⟩
    | refine k_callp rfl (ev_m_isIn) rfl rfl rfl (by decide) ?_
    | refine k_ts rfl rfl ?_ (fun _ => ?_)
    | refine mm_tsc (fun _ => ?_) ?_
    | exact mm_tsn
    | refine k_gp rfl rfl ?_ ?_)
  all_goals (first | trivial | omega | (simp only [true_and, mm_fits]; omega) | (refine congrArg some (congrArg Sum.inl ?_); first | rfl | (rw [ib_t (by omega)]) | (rw [ib_f (by omega)]) | omega))
end ME
end
section
/-! ===== the reference: public methods without a search ===== -/
/-- the program that is laid is well told -/
def mP (w : mm_M) : Prop := (2 ≤ w 1 0 2 ∧ w 1 0 2 ≤ 8) ∧ (0 ≤ w 1 0 3 ∧ w 1 0 3 < w 1 0 2) ∧ (0 ≤ w 1 0 4 ∧ w 1 0 4 ≤ 3) ∧ (0 ≤ w 1 0 6 ∧ w 1 0 6 ≤ 8) ∧ (0 ≤ w 1 0 8 ∧ w 1 0 8 ≤ 14) ∧ (∀ g, 0 ≤ g → g < w 1 0 6 → cOK (m_c w) g (w 1 0 4)) ∧ (∀ x, 0 ≤ x → x < w 1 0 8 → eOK (m_e w) x (w 1 0 2) (w 1 0 6) (w 1 0 4)) ∧ (∀ p, 0 ≤ p → p < 8 → 0 ≤ w 6 0 p ∧ w 6 0 p < ((2 ^ (w 1 0 6).toNat : Nat) : Int))
theorem mP_255 {w : mm_M} (h : mP w) {p : Int} (h0 : 0 ≤ p) (h1 : p < 8) : 0 ≤ w 6 0 p ∧ w 6 0 p < 256 := by
  have h2 := h.2.2.2.2.2.2.2 p h0 h1
  have h3 : 2 ^ (w 1 0 6).toNat ≤ 2 ^ 8 := Nat.pow_le_pow_right (by decide) (by have := h.2.2.2.1; omega)
  omega
section ME
variable {r y : Bool} {w : mm_M} {t : Int → Int} {n : Int}
theorem ev_m_edge {e k : Int} (h : mP w) : mm_Ev K_X10_edge (0, 0) [.inr (some (1, 0)), .inl e, .inl k] (PH r y) w (mm_pe (some (.inl (if (0 ≤ e ∧ e < w 1 0 8) ∧ (0 ≤ k ∧ k ≤ 6) then m_e w e k else -1))) (PH r y) w) := by
  refine ev_intro ok_X10_edge mo_X10_edge (Nat.le_of_ble_eq_true rfl) (fun hrg has => ?_)
  have h8 := h.2.2.2.2.1
  refine k_gp rfl rfl trivial ?_
  refine k_callp rfl (ev_m_isEdge h8) rfl rfl rfl (by decide) ?_
  refine k_brz rfl (fun g1 => ?_) (fun g1 => ?_)
  · rw [if_neg (fun q => g1 q.1)]
    repeat' (first
      | refine k_brt rfl (by decide) ?_
      | refine k_brf rfl (by decide) ?_
      | refine k_brz rfl (fun _ => ?_) (fun _ => ?_)
      | refine k_brn rfl (fun _ => ?_) (fun _ => ?_)
      | refine k_br rfl (fun _ => ?_) (fun _ => ?_)
      | refine k_ret rfl ?_ ⟨?_, rfl, rfl⟩
      | refine k_ts rfl rfl ?_ (fun _ => ?_)
      | refine mm_tsc (fun _ => ?_) ?_
      | exact mm_tsn
      | refine k_gp rfl rfl ?_ ?_)
    all_goals (first | trivial | omega | (simp only [true_and, mm_fits]; omega) | (refine congrArg some (congrArg Sum.inl ?_); first | rfl | (rw [ib_t (by omega)]) | (rw [ib_f (by omega)]) | omega))
  · refine k_gp rfl rfl trivial ?_
    refine k_callp rfl ev_m_isIn rfl rfl rfl (by decide) ?_
    refine k_brn rfl (fun g2 => ?_) (fun g2 => ?_)
    · rw [if_pos ⟨g1, g2⟩]
      unfold m_e
      rw [Int.toNat_of_nonneg g1.1]
      refine k_gp rfl rfl trivial ?_
      refine k_br rfl (fun g3 => ?_) (fun g3 => ?_)
      · rw [if_neg g3]
        repeat' (first
          | refine k_brt rfl (by decide) ?_
          | refine k_brf rfl (by decide) ?_
          | refine k_brz rfl (fun _ => ?_) (fun _ => ?_)
          | refine k_brn rfl (fun _ => ?_) (fun _ => ?_)
          | refine k_br rfl (fun _ => ?_) (fun _ => ?_)
          | refine k_ret rfl ?_ ⟨?_, rfl, rfl⟩
          | refine k_ts rfl rfl ?_ (fun _ => ?_)
          | refine mm_tsc (fun _ => ?_) ?_
          | exact mm_tsn
          | refine k_gp rfl rfl ?_ ?_)
        all_goals (first | trivial | omega | (simp only [true_and, mm_fits]; omega) | (refine congrArg some (congrArg Sum.inl ?_); first | rfl | (rw [ib_t (by omega)]) | (rw [ib_f (by omega)]) | omega))
      · rw [if_pos (by omega)]
        repeat' (first
          | refine k_brt rfl (by decide) ?_
          | refine k_brf rfl (by decide) ?_
          | refine k_brz rfl (fun _ => ?_) (fun _ => ?_)
          | refine k_brn rfl (fun _ => ?_) (fun _ => ?_)
          | refine k_br rfl (fun _ => ?_) (fun _ => ?_)
          | refine k_ret rfl ?_ ⟨?_, rfl, rfl⟩
          | refine k_ts rfl rfl ?_ (fun _ => ?_)
          | refine mm_tsc (fun _ => ?_) ?_
          | exact mm_tsn
          | refine k_gp rfl rfl ?_ ?_)
        all_goals (first | trivial | omega | (simp only [true_and, mm_fits]; omega) | (refine congrArg some (congrArg Sum.inl ?_); first | rfl | (rw [ib_t (by omega)]) | (rw [ib_f (by omega)]) | omega))
    · rw [if_neg (fun q => g2 q.2)]
      repeat' (first
        | refine k_brt rfl (by decide) ?_
        | refine k_brf rfl (by decide) ?_
        | refine k_brz rfl (fun _ => ?_) (fun _ => ?_)
        | refine k_brn rfl (fun _ => ?_) (fun _ => ?_)
        | refine k_br rfl (fun _ => ?_) (fun _ => ?_)
        | refine k_ret rfl ?_ ⟨?_, rfl, rfl⟩
        | refine k_ts rfl rfl ?_ (fun _ => ?_)
        | refine mm_tsc (fun _ => ?_) ?_
        | exact mm_tsn
        | refine k_gp rfl rfl ?_ ?_)
      all_goals (first | trivial | omega | (simp only [true_and, mm_fits]; omega) | (refine congrArg some (congrArg Sum.inl ?_); first | rfl | (rw [ib_t (by omega)]) | (rw [ib_f (by omega)]) | omega))
theorem ev_m_so {g a b c : Int} (h : mP w) : mm_Ev K_X10_so (0, 0) [.inr (some (1, 0)), .inl g, .inl a, .inl b, .inl c] (PH r y) w (mm_pe (some (.inl (if (0 ≤ g ∧ g < w 1 0 6) ∧ (0 ≤ a ∧ a ≤ 7) ∧ (0 ≤ b ∧ b ≤ 7) ∧ (0 ≤ c ∧ c ≤ 7) then ib (soB (m_c w) g (64 * a + 8 * b + c) = true) else -1))) (PH r y) w) := by
  refine ev_intro ok_X10_so mo_X10_so (Nat.le_of_ble_eq_true rfl) (fun hrg has => ?_)
  have h6 := h.2.2.2.1
  have h4 := h.2.2.1
  have hc := h.2.2.2.2.2.1 g
  refine k_gp rfl rfl trivial ?_
  refine k_callp rfl (ev_m_isComparison h6) rfl rfl rfl (by decide) ?_
  refine k_brz rfl (fun g1 => ?_) (fun g1 => ?_)
  · rw [if_neg (fun q => g1 q.1)]
    repeat' (first
      | refine k_brt rfl (by decide) ?_
      | refine k_brf rfl (by decide) ?_
      | refine k_brz rfl (fun _ => ?_) (fun _ => ?_)
      | refine k_brn rfl (fun _ => ?_) (fun _ => ?_)
      | refine k_br rfl (fun _ => ?_) (fun _ => ?_)
      | refine k_ret rfl ?_ ⟨?_, rfl, rfl⟩
      | refine k_ts rfl rfl ?_ (fun _ => ?_)
      | refine mm_tsc (fun _ => ?_) ?_
      | exact mm_tsn
      | refine k_gp rfl rfl ?_ ?_)
    all_goals (first | trivial | omega | (simp only [true_and, mm_fits]; omega) | (refine congrArg some (congrArg Sum.inl ?_); first | rfl | (rw [ib_t (by omega)]) | (rw [ib_f (by omega)]) | omega))
  · refine k_gp rfl rfl trivial ?_
    refine k_callp rfl ev_m_areValues rfl rfl rfl (by decide) ?_
    refine k_brn rfl (fun g2 => ?_) (fun g2 => ?_)
    · rw [if_pos ⟨g1, g2⟩]
      refine k_gp rfl rfl (by simp only [true_and, mm_fits]; omega) ?_
      refine k_callp rfl (ev_m_isSo (nv := w 1 0 4) (by omega) (by omega) (by omega) (hc g1.1 g1.2)) rfl rfl rfl (by decide) ?_
      refine k_brz rfl (fun g3 => ?_) (fun g3 => ?_)
      · rw [ib_f g3]
        repeat' (first
          | refine k_brt rfl (by decide) ?_
          | refine k_brf rfl (by decide) ?_
          | refine k_brz rfl (fun _ => ?_) (fun _ => ?_)
          | refine k_brn rfl (fun _ => ?_) (fun _ => ?_)
          | refine k_br rfl (fun _ => ?_) (fun _ => ?_)
          | refine k_ret rfl ?_ ⟨?_, rfl, rfl⟩
          | refine k_ts rfl rfl ?_ (fun _ => ?_)
          | refine mm_tsc (fun _ => ?_) ?_
          | exact mm_tsn
          | refine k_gp rfl rfl ?_ ?_)
        all_goals (first | trivial | omega | (simp only [true_and, mm_fits]; omega) | (refine congrArg some (congrArg Sum.inl ?_); first | rfl | (rw [ib_t (by omega)]) | (rw [ib_f (by omega)]) | omega))
      · rw [ib_t g3]
        repeat' (first
          | refine k_brt rfl (by decide) ?_
          | refine k_brf rfl (by decide) ?_
          | refine k_brz rfl (fun _ => ?_) (fun _ => ?_)
          | refine k_brn rfl (fun _ => ?_) (fun _ => ?_)
          | refine k_br rfl (fun _ => ?_) (fun _ => ?_)
          | refine k_ret rfl ?_ ⟨?_, rfl, rfl⟩
          | refine k_ts rfl rfl ?_ (fun _ => ?_)
          | refine mm_tsc (fun _ => ?_) ?_
          | exact mm_tsn
          | refine k_gp rfl rfl ?_ ?_)
        all_goals (first | trivial | omega | (simp only [true_and, mm_fits]; omega) | (refine congrArg some (congrArg Sum.inl ?_); first | rfl | (rw [ib_t (by omega)]) | (rw [ib_f (by omega)]) | omega))
    · rw [if_neg (fun q => g2 q.2)]
      repeat' (first
        | refine k_brt rfl (by decide) ?_
        | refine k_brf rfl (by decide) ?_
        | refine k_brz rfl (fun _ => ?_) (fun _ => ?_)
        | refine k_brn rfl (fun _ => ?_) (fun _ => ?_)
        | refine k_br rfl (fun _ => ?_) (fun _ => ?_)
        | refine k_ret rfl ?_ ⟨?_, rfl, rfl⟩
        | refine k_ts rfl rfl ?_ (fun _ => ?_)
        | refine mm_tsc (fun _ => ?_) ?_
        | exact mm_tsn
        | refine k_gp rfl rfl ?_ ?_)
      all_goals (first | trivial | omega | (simp only [true_and, mm_fits]; omega) | (refine congrArg some (congrArg Sum.inl ?_); first | rfl | (rw [ib_t (by omega)]) | (rw [ib_f (by omega)]) | omega))
/-- values of variables that there are not are 0 -/
def vls (nv a b c : Int) : Int := (if 0 < nv then 64 * a else 0) + (if 1 < nv then 8 * b else 0) + (if 2 < nv then c else 0)
theorem ev_m_gone {e a b c : Int} (h : mP w) : mm_Ev K_X10_gone (0, 0) [.inr (some (1, 0)), .inl e, .inl a, .inl b, .inl c] (PH r y) w (mm_pe (some (.inl (if (0 ≤ e ∧ e < w 1 0 8) ∧ (0 ≤ a ∧ a ≤ 7) ∧ (0 ≤ b ∧ b ≤ 7) ∧ (0 ≤ c ∧ c ≤ 7) then (if go_ (m_c w) (m_e w) e (vls (w 1 0 4) a b c) < 0 then -2 else go_ (m_c w) (m_e w) e (vls (w 1 0 4) a b c)) else -1))) (PH r y) w) := by
  refine ev_intro ok_X10_gone mo_X10_gone (Nat.le_of_ble_eq_true rfl) (fun hrg has => ?_)
  have h8 := h.2.2.2.2.1
  have h6 := h.2.2.2.1
  have h4 := h.2.2.1
  have hc := h.2.2.2.2.2.1
  have he := h.2.2.2.2.2.2.1 e
  refine k_gp rfl rfl trivial ?_
  refine k_callp rfl (ev_m_isEdge h8) rfl rfl rfl (by decide) ?_
  refine k_brz rfl (fun g1 => ?_) (fun g1 => ?_)
  · rw [if_neg (fun q => g1 q.1)]
    repeat' (first
      | refine k_brt rfl (by decide) ?_
      | refine k_brf rfl (by decide) ?_
      | refine k_brz rfl (fun _ => ?_) (fun _ => ?_)
      | refine k_brn rfl (fun _ => ?_) (fun _ => ?_)
      | refine k_br rfl (fun _ => ?_) (fun _ => ?_)
      | refine k_ret rfl ?_ ⟨?_, rfl, rfl⟩
      | refine k_ts rfl rfl ?_ (fun _ => ?_)
      | refine mm_tsc (fun _ => ?_) ?_
      | exact mm_tsn
      | refine k_gp rfl rfl ?_ ?_)
    all_goals (first | trivial | omega | (simp only [true_and, mm_fits]; omega) | (refine congrArg some (congrArg Sum.inl ?_); first | rfl | (rw [ib_t (by omega)]) | (rw [ib_f (by omega)]) | omega))
  · refine k_gp rfl rfl trivial ?_
    refine k_callp rfl ev_m_areValues rfl rfl rfl (by decide) ?_
    refine k_brn rfl (fun g2 => ?_) (fun g2 => ?_)
    · rw [if_pos ⟨g1, g2⟩]
      have hv : 0 ≤ vls (w 1 0 4) a b c ∧ vls (w 1 0 4) a b c < 512 := by
        unfold vls
        split <;> split <;> split <;> omega
      have fin : ∀ u v, v + u = vls (w 1 0 4) a b c → ∀ l5 l6, mm_Wk K_X10_gone (0, 0) 66 [some (.inr (some (1, 0))), some (.inl e), some (.inl a), some (.inl b), some (.inl c), l5, l6] [.inl u, .inl v] (PH r y) w (mm_pe (some (.inl (if go_ (m_c w) (m_e w) e (vls (w 1 0 4) a b c) < 0 then -2 else go_ (m_c w) (m_e w) e (vls (w 1 0 4) a b c)))) (PH r y) w) := fun u v hz l5 l6 => by
        rw [← hz] at hv ⊢
        refine k_gp rfl rfl (by simp only [true_and, mm_fits]; omega) ?_
        refine k_callp rfl (ev_m_goes (np := w 1 0 2) (nc := w 1 0 6) (nv := w 1 0 4) hv (by omega) (by omega) (by omega) hc (he g1.1 g1.2)) rfl rfl rfl (by decide) ?_
        refine k_gp rfl rfl trivial ?_
        refine k_br rfl (fun g3 => ?_) (fun g3 => ?_)
        · rw [if_neg (by omega)]
          repeat' (first
            | refine k_brt rfl (by decide) ?_
            | refine k_brf rfl (by decide) ?_
            | refine k_brz rfl (fun _ => ?_) (fun _ => ?_)
            | refine k_brn rfl (fun _ => ?_) (fun _ => ?_)
            | refine k_br rfl (fun _ => ?_) (fun _ => ?_)
            | refine k_ret rfl ?_ ⟨?_, rfl, rfl⟩
            | refine k_ts rfl rfl ?_ (fun _ => ?_)
            | refine mm_tsc (fun _ => ?_) ?_
            | exact mm_tsn
            | refine k_gp rfl rfl ?_ ?_)
          all_goals (first | trivial | omega | (simp only [true_and, mm_fits]; omega) | (refine congrArg some (congrArg Sum.inl ?_); first | rfl | (rw [ib_t (by omega)]) | (rw [ib_f (by omega)]) | omega))
        · rw [if_pos (by omega)]
          repeat' (first
            | refine k_brt rfl (by decide) ?_
            | refine k_brf rfl (by decide) ?_
            | refine k_brz rfl (fun _ => ?_) (fun _ => ?_)
            | refine k_brn rfl (fun _ => ?_) (fun _ => ?_)
            | refine k_br rfl (fun _ => ?_) (fun _ => ?_)
            | refine k_ret rfl ?_ ⟨?_, rfl, rfl⟩
            | refine k_ts rfl rfl ?_ (fun _ => ?_)
            | refine mm_tsc (fun _ => ?_) ?_
            | exact mm_tsn
            | refine k_gp rfl rfl ?_ ?_)
          all_goals (first | trivial | omega | (simp only [true_and, mm_fits]; omega) | (refine congrArg some (congrArg Sum.inl ?_); first | rfl | (rw [ib_t (by omega)]) | (rw [ib_f (by omega)]) | omega))
      clear hv hc he h
      repeat' (first
        | refine fin _ _ ?_ _ _
        | refine k_br rfl (fun _ => ?_) (fun _ => ?_)
        | refine k_gp rfl rfl ?_ ?_)
      all_goals (first | trivial | (simp only [true_and]; omega) | (unfold vls; split <;> split <;> split <;> omega))
    · rw [if_neg (fun q => g2 q.2)]
      repeat' (first
        | refine k_brt rfl (by decide) ?_
        | refine k_brf rfl (by decide) ?_
        | refine k_brz rfl (fun _ => ?_) (fun _ => ?_)
        | refine k_brn rfl (fun _ => ?_) (fun _ => ?_)
        | refine k_br rfl (fun _ => ?_) (fun _ => ?_)
        | refine k_ret rfl ?_ ⟨?_, rfl, rfl⟩
        | refine k_ts rfl rfl ?_ (fun _ => ?_)
        | refine mm_tsc (fun _ => ?_) ?_
        | exact mm_tsn
        | refine k_gp rfl rfl ?_ ?_)
      all_goals (first | trivial | omega | (simp only [true_and, mm_fits]; omega) | (refine congrArg some (congrArg Sum.inl ?_); first | rfl | (rw [ib_t (by omega)]) | (rw [ib_f (by omega)]) | omega))
theorem kepA_g {g : Nat} {j k : Int} (h1 : Nat.beq g 1 = false) (h7 : Nat.beq g 7 = false) : kepA w g j k = w g j k := by
  unfold kepA
  split
  · exact (up_g h1).trans (arrw_g h7)
  · rfl
theorem kepA_1 {k : Int} (h : k ≠ 12) : kepA w 1 0 k = w 1 0 k := by
  unfold kepA
  split
  · exact (up_k h).trans (arrw_g rfl)
  · rfl
theorem kepW_sm : sm [(7, none), (1, some 12)] w (kepW w) := by
  unfold kepW kepA
  refine sm_up (sm_arrw ?_ (by decide)) (by decide)
  split
  · exact sm_up (sm_arrw sm_rf (by decide)) (by decide)
  · exact sm_rf
theorem ev_m_turn {e : Int} (h : mP w) (hc : 0 ≤ w 1 0 12 ∧ w 1 0 12 ≤ 6) : mm_Ev K_X10_turn (0, 0) [.inr (some (1, 0)), .inl e] (PH r y) w (mm_pe (some (.inl (if 0 ≤ e ∧ e < w 1 0 8 then (if m_e w e 2 = 9 then -2 else 1 - m_e w e 3) else -1))) (PH r y) (if (0 ≤ e ∧ e < w 1 0 8) ∧ m_e w e 2 ≠ 9 then mm_up (kepW w) 6 0 (8 + e) (1 - m_e w e 3) else w)) := by
  refine ev_intro ok_X10_turn mo_X10_turn (Nat.le_of_ble_eq_true rfl) (fun hrg has => ?_)
  have h8 := h.2.2.2.2.1
  have he := h.2.2.2.2.2.2.1 e
  have e2 : m_e w e 2 = w 5 0 (7 * e + 2) := rfl
  have e3 : 0 ≤ e ∧ e < w 1 0 8 → m_e w e 3 = w 6 0 (8 + e) := fun q => m_e3 q.1
  rw [e2]
  refine k_gp rfl rfl trivial ?_
  refine k_callp rfl (ev_m_isEdge h8) rfl rfl rfl (by decide) ?_
  refine k_brn rfl (fun g1 => ?_) (fun g1 => ?_)
  · have e3 := e3 g1
    rw [if_pos g1, e3]
    have ht := (he g1.1 g1.2).2.2.2.1
    rw [e3] at ht
    refine k_gp rfl rfl (by simp only [true_and, mm_fits]; omega) ?_
    refine k_br rfl (fun g2 => ?_) (fun g2 => ?_)
    · rw [if_neg g2, if_pos ⟨g1, g2⟩]
      refine k_gp rfl rfl trivial ?_
      refine k_callp rfl (ev_m_keeps hc) rfl rfl rfl (by decide) ?_
      have k6 : kepW w 6 0 (8 + e) = w 6 0 (8 + e) := kepW_sm 6 0 _ rfl
      refine k_gp rfl rfl (by simp only [true_and, mm_fits, k6]; omega) ?_
      rw [k6, up_s]
      exact k_ret rfl trivial ⟨rfl, rfl, rfl⟩
    · have g2 : w 5 0 (7 * e + 2) = 9 := Classical.byContradiction g2
      rw [if_pos g2, if_neg (fun q => q.2 g2)]
      repeat' (first
        | refine k_brt rfl (by decide) ?_
        | refine k_brf rfl (by decide) ?_
        | refine k_brz rfl (fun _ => ?_) (fun _ => ?_)
        | refine k_brn rfl (fun _ => ?_) (fun _ => ?_)
        | refine k_br rfl (fun _ => ?_) (fun _ => ?_)
        | refine k_ret rfl ?_ ⟨?_, rfl, rfl⟩
        | refine k_ts rfl rfl ?_ (fun _ => ?_)
        | refine mm_tsc (fun _ => ?_) ?_
        | exact mm_tsn
        | refine k_gp rfl rfl ?_ ?_)
      all_goals (first | trivial | omega | (simp only [true_and, mm_fits]; omega) | (refine congrArg some (congrArg Sum.inl ?_); first | rfl | (rw [ib_t (by omega)]) | (rw [ib_f (by omega)]) | omega))
  · rw [if_neg g1, if_neg (fun q => g1 q.1)]
    repeat' (first
      | refine k_brt rfl (by decide) ?_
      | refine k_brf rfl (by decide) ?_
      | refine k_brz rfl (fun _ => ?_) (fun _ => ?_)
      | refine k_brn rfl (fun _ => ?_) (fun _ => ?_)
      | refine k_br rfl (fun _ => ?_) (fun _ => ?_)
      | refine k_ret rfl ?_ ⟨?_, rfl, rfl⟩
      | refine k_ts rfl rfl ?_ (fun _ => ?_)
      | refine mm_tsc (fun _ => ?_) ?_
      | exact mm_tsn
      | refine k_gp rfl rfl ?_ ?_)
    all_goals (first | trivial | omega | (simp only [true_and, mm_fits]; omega) | (refine congrArg some (congrArg Sum.inl ?_); first | rfl | (rw [ib_t (by omega)]) | (rw [ib_f (by omega)]) | omega))
theorem ev_m_looked {p : Int} (h : mP w) : mm_Ev K_X10_looked (0, 0) [.inr (some (1, 0)), .inl p] (PH r y) w (mm_pe (some (.inl (if 0 ≤ p ∧ p < w 1 0 2 then w 6 0 p else -1))) (PH r y) w) := by
  refine ev_intro ok_X10_looked mo_X10_looked (Nat.le_of_ble_eq_true rfl) (fun hrg has => ?_)
  have h2 := h.1
  refine k_gp rfl rfl trivial ?_
  refine k_callp rfl (ev_m_isPlace (by omega)) rfl rfl rfl (by decide) ?_
  refine k_brz rfl (fun g1 => ?_) (fun g1 => ?_)
  · rw [if_neg g1]
    repeat' (first
      | refine k_brt rfl (by decide) ?_
      | refine k_brf rfl (by decide) ?_
      | refine k_brz rfl (fun _ => ?_) (fun _ => ?_)
      | refine k_brn rfl (fun _ => ?_) (fun _ => ?_)
      | refine k_br rfl (fun _ => ?_) (fun _ => ?_)
      | refine k_ret rfl ?_ ⟨?_, rfl, rfl⟩
      | refine k_ts rfl rfl ?_ (fun _ => ?_)
      | refine mm_tsc (fun _ => ?_) ?_
      | exact mm_tsn
      | refine k_gp rfl rfl ?_ ?_)
    all_goals (first | trivial | omega | (simp only [true_and, mm_fits]; omega) | (refine congrArg some (congrArg Sum.inl ?_); first | rfl | (rw [ib_t (by omega)]) | (rw [ib_f (by omega)]) | omega))
  · rw [if_pos g1]
    repeat' (first
      | refine k_brt rfl (by decide) ?_
      | refine k_brf rfl (by decide) ?_
      | refine k_brz rfl (fun _ => ?_) (fun _ => ?_)
      | refine k_brn rfl (fun _ => ?_) (fun _ => ?_)
      | refine k_br rfl (fun _ => ?_) (fun _ => ?_)
      | refine k_ret rfl ?_ ⟨?_, rfl, rfl⟩
      | refine k_ts rfl rfl ?_ (fun _ => ?_)
      | refine mm_tsc (fun _ => ?_) ?_
      | exact mm_tsn
      | refine k_gp rfl rfl ?_ ?_)
    all_goals (first | trivial | omega | (simp only [true_and, mm_fits]; omega) | (refine congrArg some (congrArg Sum.inl ?_); first | rfl | (rw [ib_t (by omega)]) | (rw [ib_f (by omega)]) | omega))
theorem ev_m_look {p g is : Int} (h : mP w) (hc : 0 ≤ w 1 0 12 ∧ w 1 0 12 ≤ 6) : mm_Ev K_X10_look (0, 0) [.inr (some (1, 0)), .inl p, .inl g, .inl is] (PH r y) w (mm_pe (some (.inl (if (0 ≤ p ∧ p < w 1 0 2) ∧ (0 ≤ g ∧ g < w 1 0 6) ∧ (0 ≤ is ∧ is ≤ 1) then (if w 6 0 p / ((2 ^ g.toNat : Nat) : Int) % 2 = is then -2 else pop8 (mm_xor (w 6 0 p) ((2 ^ g.toNat : Nat) : Int)) 8) else -1))) (PH r y) (if ((0 ≤ p ∧ p < w 1 0 2) ∧ (0 ≤ g ∧ g < w 1 0 6) ∧ (0 ≤ is ∧ is ≤ 1)) ∧ w 6 0 p / ((2 ^ g.toNat : Nat) : Int) % 2 ≠ is then mm_up (kepW w) 6 0 p (mm_xor (w 6 0 p) ((2 ^ g.toNat : Nat) : Int)) else w)) := by
  refine ev_intro ok_X10_look mo_X10_look (Nat.le_of_ble_eq_true rfl) (fun hrg has => ?_)
  have h2 := h.1
  have h6 := h.2.2.2.1
  have hF : ∀ l, ¬ ((0 ≤ p ∧ p < w 1 0 2) ∧ (0 ≤ g ∧ g < w 1 0 6) ∧ (0 ≤ is ∧ is ≤ 1)) → mm_Wk K_X10_look (0, 0) 25 l [] (PH r y) w (mm_pe (some (.inl (if (0 ≤ p ∧ p < w 1 0 2) ∧ (0 ≤ g ∧ g < w 1 0 6) ∧ (0 ≤ is ∧ is ≤ 1) then (if w 6 0 p / ((2 ^ g.toNat : Nat) : Int) % 2 = is then -2 else pop8 (mm_xor (w 6 0 p) ((2 ^ g.toNat : Nat) : Int)) 8) else -1))) (PH r y) (if ((0 ≤ p ∧ p < w 1 0 2) ∧ (0 ≤ g ∧ g < w 1 0 6) ∧ (0 ≤ is ∧ is ≤ 1)) ∧ w 6 0 p / ((2 ^ g.toNat : Nat) : Int) % 2 ≠ is then mm_up (kepW w) 6 0 p (mm_xor (w 6 0 p) ((2 ^ g.toNat : Nat) : Int)) else w)) := fun l q => by
    rw [if_neg q, if_neg (fun z => q z.1)]
    refine k_gp rfl rfl trivial ?_
    exact k_ret rfl trivial ⟨rfl, rfl, rfl⟩
  refine k_gp rfl rfl trivial ?_
  refine k_callp rfl (ev_m_isPlace (by omega)) rfl rfl rfl (by decide) ?_
  refine k_brz rfl (fun g1 => hF _ (fun q => g1 q.1)) (fun g1 => ?_)
  refine k_gp rfl rfl trivial ?_
  refine k_callp rfl (ev_m_isComparison h6) rfl rfl rfl (by decide) ?_
  refine k_brz rfl (fun g2 => hF _ (fun q => g2 q.2.1)) (fun g2 => ?_)
  refine k_gp rfl rfl trivial ?_
  refine k_callp rfl ev_m_isIn rfl rfl rfl (by decide) ?_
  refine k_brn rfl (fun g3 => ?_) (fun g3 => ?_)
  · rw [if_pos ⟨g1, g2, g3⟩]
    have hp := mP_255 h (p := p) g1.1 (by omega)
    refine k_gp rfl rfl (by simp only [true_and, mm_fits]; omega) ?_
    rw [hb_eq (by omega) (by omega)]
    refine k_br rfl (fun g4 => ?_) (fun g4 => ?_)
    · rw [if_neg g4, if_pos ⟨⟨g1, g2, g3⟩, g4⟩]
      refine k_gp rfl rfl trivial ?_
      refine k_callp rfl (ev_m_keeps hc) rfl rfl rfl (by decide) ?_
      have k6 : kepW w 6 0 p = w 6 0 p := kepW_sm 6 0 _ rfl
      refine k_gp rfl rfl (by simp only [true_and, mm_fits]; omega) ?_
      rw [k6, up_s, shl1 (by omega)]
      have hx : 0 ≤ mm_xor (w 6 0 p) ((2 ^ g.toNat : Nat) : Int) ∧ mm_xor (w 6 0 p) ((2 ^ g.toNat : Nat) : Int) < 2147483648 := by
        have h7 : 2 ^ g.toNat ≤ 2 ^ 7 := Nat.pow_le_pow_right (by decide) (by omega)
        have := bb_xor (x := (w 6 0 p).toNat) (y := 2 ^ g.toNat) (by omega) (by omega)
        rw [show (((w 6 0 p).toNat : Nat) : Int) = w 6 0 p by omega] at this
        rw [this]
        have := Nat.xor_lt_two_pow (n := 8) (x := (w 6 0 p).toNat) (y := 2 ^ g.toNat) (by omega) (by omega)
        omega
      refine k_callp rfl (ev_m_bits hx) rfl rfl rfl (by decide) ?_
      exact k_ret rfl trivial ⟨rfl, rfl, rfl⟩
    · have g4 : w 6 0 p / ((2 ^ g.toNat : Nat) : Int) % 2 = is := Classical.byContradiction g4
      rw [if_pos g4, if_neg (fun q => q.2 g4)]
      repeat' (first
        | refine k_brt rfl (by decide) ?_
        | refine k_brf rfl (by decide) ?_
        | refine k_brz rfl (fun _ => ?_) (fun _ => ?_)
        | refine k_brn rfl (fun _ => ?_) (fun _ => ?_)
        | refine k_br rfl (fun _ => ?_) (fun _ => ?_)
        | refine k_ret rfl ?_ ⟨?_, rfl, rfl⟩
        | refine k_ts rfl rfl ?_ (fun _ => ?_)
        | refine mm_tsc (fun _ => ?_) ?_
        | exact mm_tsn
        | refine k_gp rfl rfl ?_ ?_)
      all_goals (first | trivial | omega | (simp only [true_and, mm_fits]; omega) | (refine congrArg some (congrArg Sum.inl ?_); first | rfl | (rw [ib_t (by omega)]) | (rw [ib_f (by omega)]) | omega))
  · exact hF _ (fun q => g3 q.2.2)
end ME
end
section
/-! ===== what is told is well told; the reference lays it ===== -/
def TW (T : TS) : Prop := TB T ∧ (T.1.1 ≠ 0 → 0 ≤ T.1.2.1 ∧ T.1.2.1 < T.1.1) ∧ (∀ g, 0 ≤ g → g < T.1.2.2.2.1 → cOK T.2.2.1 g T.1.2.2.1) ∧ (∀ x, 0 ≤ x → x < T.1.2.2.2.2 → eOK T.2.2.2 x T.1.1 T.1.2.2.2.1 T.1.2.2.1)
theorem cOK_mono {c : Int → Int → Int} {g nv nv' : Int} (h : cOK c g nv) (hn : nv ≤ nv') : cOK c g nv' := ⟨⟨h.1.1, by have := h.1.2; omega⟩, h.2.1, h.2.2.1, fun q => by have := h.2.2.2 q; omega⟩
theorem eOK_mono {e : Int → Int → Int} {x np nc nc' nv nv' : Int} (h : eOK e x np nc nv) (hc : nc ≤ nc') (hn : nv ≤ nv') : eOK e x np nc' nv' := by
  obtain ⟨h1, h2, h3, h4, h5, h6, h7, h8, h9⟩ := h
  exact ⟨h1, h2, by omega, h4, h5, fun q => ⟨(h6 q).1, by have := (h6 q).2; omega⟩, h7, h8, fun q => by have := h9 q; omega⟩
theorem TW_it {T : TS} {l : Int} {f : Int → Int} (h : TW T) (hd : 0 < due l) (hf : ∀ k, 0 ≤ k → k < due l → 0 ≤ f k) (hf9 : ∀ k, f k ≤ 9) (hi : itB T l f = true) : TW (itT T l f) := by
  have hB := TB_it h.1 hi
  refine ⟨hB, ?_⟩
  obtain ⟨hB0, hP, hC, hE⟩ := h
  have hnp := itB_np hi
  obtain ⟨rfl, hdl⟩ | ⟨rfl, hdl⟩ | ⟨rfl, hdl⟩ | ⟨rfl, hdl⟩ := due_cases hd
  · unfold itB at hi
    rw [if_pos rfl] at hi
    have q := of_decide_eq_true hi
    have e : itT T 112 f = ((f 0, f 1, T.1.2.2.1, T.1.2.2.2.1, T.1.2.2.2.2), T.2) := if_pos rfl
    rw [e]
    refine ⟨fun _ => ⟨hf 1 (by omega) (by omega), q.2.2.2⟩, hC, fun x a b => ?_⟩
    have := (hE x a b).1
    have b : x < T.1.2.2.2.2 := b
    omega
  · have hnp : T.1.1 ≠ 0 := hnp.resolve_left (by decide)
    unfold itB at hi
    rw [if_neg (by decide), if_neg hnp, if_pos rfl] at hi
    have e : itT T 118 f = ((T.1.1, T.1.2.1, T.1.2.2.1 + 1, T.1.2.2.2.1, T.1.2.2.2.2), (fun k => if k = 2 * T.1.2.2.1 then f 0 else if k = 2 * T.1.2.2.1 + 1 then f 1 else T.2.1 k), T.2.2) := rfl
    rw [e]
    exact ⟨hP, fun g a b => cOK_mono (hC g a b) (by show T.1.2.2.1 ≤ T.1.2.2.1 + 1; omega), fun x a b => eOK_mono (hE x a b) (Int.le_refl _) (by show T.1.2.2.1 ≤ T.1.2.2.1 + 1; omega)⟩
  · have hnp : T.1.1 ≠ 0 := hnp.resolve_left (by decide)
    unfold itB at hi
    rw [if_neg (by decide), if_neg hnp, if_neg (by decide), if_pos rfl] at hi
    have q := of_decide_eq_true hi
    have e : itT T 99 f = ((T.1.1, T.1.2.1, T.1.2.2.1, T.1.2.2.2.1 + 1, T.1.2.2.2.2), T.2.1, (fun g k => if g = T.1.2.2.2.1 then f k else T.2.2.1 g k), T.2.2.2) := rfl
    rw [e]
    refine ⟨hP, fun g a b => ?_, fun x a b => eOK_mono (hE x a b) (by show T.1.2.2.2.1 ≤ T.1.2.2.2.1 + 1; omega) (Int.le_refl _)⟩
    have b : g < T.1.2.2.2.1 + 1 := b
    show cOK (fun g k => if g = T.1.2.2.2.1 then f k else T.2.2.1 g k) g T.1.2.2.1
    by_cases hg : g = T.1.2.2.2.1
    · have e2 : ∀ k, (fun g k => if g = T.1.2.2.2.1 then f k else T.2.2.1 g k) g k = f k := fun k => if_pos hg
      unfold cOK
      rw [e2 0, e2 1, e2 2]
      exact ⟨⟨hf 1 (by omega) (by omega), q.2.2.1⟩, ⟨hf 0 (by omega) (by omega), q.2.1⟩, ⟨hf 2 (by omega) (by omega), hf9 2⟩, fun z => q.2.2.2 (by omega)⟩
    · have e2 : ∀ k, (fun g k => if g = T.1.2.2.2.1 then f k else T.2.2.1 g k) g k = T.2.2.1 g k := fun k => if_neg hg
      unfold cOK
      rw [e2 0, e2 1, e2 2]
      exact hC g a (by omega)
  · have hnp : T.1.1 ≠ 0 := hnp.resolve_left (by decide)
    unfold itB at hi
    rw [if_neg (by decide), if_neg hnp, if_neg (by decide), if_neg (by decide)] at hi
    have q := of_decide_eq_true hi
    have e : itT T 101 f = ((T.1.1, T.1.2.1, T.1.2.2.1, T.1.2.2.2.1, T.1.2.2.2.2 + 1), T.2.1, T.2.2.1, (fun x k => if x = T.1.2.2.2.2 then f k else T.2.2.2 x k)) := rfl
    rw [e]
    refine ⟨hP, hC, fun x a b => ?_⟩
    have b : x < T.1.2.2.2.2 + 1 := b
    show eOK (fun x k => if x = T.1.2.2.2.2 then f k else T.2.2.2 x k) x T.1.1 T.1.2.2.2.1 T.1.2.2.1
    by_cases hg : x = T.1.2.2.2.2
    · have e2 : ∀ k, (fun x k => if x = T.1.2.2.2.2 then f k else T.2.2.2 x k) x k = f k := fun k => if_pos hg
      unfold eOK
      rw [e2 0, e2 1, e2 2, e2 3, e2 4, e2 5, e2 6]
      obtain ⟨q0, q1, q2, q3, q4, q5, q6, q7, q8⟩ := q
      have p0 := hf 0 (by omega) (by omega)
      have p1 := hf 1 (by omega) (by omega)
      have p2 := hf 2 (by omega) (by omega)
      have p3 := hf 3 (by omega) (by omega)
      have p4 := hf 4 (by omega) (by omega)
      have p5 := hf 5 (by omega) (by omega)
      have p6 := hf 6 (by omega) (by omega)
      exact ⟨⟨p0, q1⟩, ⟨p1, q2⟩, by omega, ⟨p3, by omega⟩, ⟨p4, by omega⟩, fun z => ⟨p5, by omega⟩, fun z => ⟨p6, by omega⟩, ⟨p6, hf9 6⟩, fun z => by omega⟩
    · have e2 : ∀ k, (fun x k => if x = T.1.2.2.2.2 then f k else T.2.2.2 x k) x k = T.2.2.2 x k := fun k => if_neg hg
      unfold eOK
      rw [e2 0, e2 1, e2 2, e2 3, e2 4, e2 5, e2 6]
      exact hE x a (by omega)
theorem okB_it {T : TS} {t : Int → Int} {n p : Int} (h : okB T t n p = true) : 0 < due (t p) ∧ (∀ k, 0 ≤ k → k < due (t p) → 0 ≤ fig t n (p + 1 + k)) ∧ itB T (t p) (fun k => fig t n (p + 1 + k)) = true := by
  unfold okB at h
  rw [Bool.and_eq_true, Bool.and_eq_true, Bool.and_eq_true, List.all_eq_true] at h
  obtain ⟨h1, h2, h3, h4⟩ := h
  refine ⟨of_decide_eq_true h1, fun k a b => ?_, h4⟩
  have := of_decide_eq_true (h2 k.toNat (List.mem_range.mpr (by omega)))
  rw [show ((k.toNat : Nat) : Int) = k by omega] at this
  exact this
theorem TW_prs (t : Int → Int) (n : Int) : ∀ (k : Nat) (p : Int) (T : TS), TW T → TW (prs t n k p T).2 := by
  intro k
  induction k with
  | zero => intro p T h; exact h
  | succ k ih =>
    intro p T h
    unfold prs
    split
    · exact h
    · split
      · rename_i hok
        obtain ⟨h1, h2, h3⟩ := okB_it hok
        exact ih _ _ (TW_it h h1 h2 (fun k => (fig_in t n _).2) h3)
      · exact h
theorem TW_0 : TW T0 := ⟨⟨Or.inl rfl, by decide, by decide, by decide⟩, fun q => absurd rfl q, fun g a b => by have b : g < 0 := b; omega, fun g a b => by have b : g < 0 := b; omega⟩
/-- what is told by a text: its first fault, and the program -/
def told (t : Int → Int) (n : Int) : Int × TS := prs t n 201 0 T0
theorem told_TW (t : Int → Int) (n : Int) : TW (told t n).2 := TW_prs t n 201 0 T0 TW_0
/-- the reference's program is this one, as laid -/
def LD (w : mm_M) (T : TS) : Prop := w 1 0 2 = T.1.1 ∧ w 1 0 3 = T.1.2.1 ∧ w 1 0 4 = T.1.2.2.1 ∧ w 1 0 6 = T.1.2.2.2.1 ∧ w 1 0 8 = T.1.2.2.2.2 ∧
  (∀ k, 0 ≤ k → k < 2 * T.1.2.2.1 → w 3 0 k = T.2.1 k) ∧ (∀ g k, 0 ≤ g → g < T.1.2.2.2.1 → 0 ≤ k → k < 3 → w 4 0 (3 * g + k) = T.2.2.1 g k) ∧ (∀ x k, 0 ≤ x → x < T.1.2.2.2.2 → 0 ≤ k → k < 7 → w 5 0 (7 * x + k) = T.2.2.2 x k) ∧
  (∀ p, 0 ≤ p → p < 8 → w 6 0 p = 0) ∧ (∀ x, 0 ≤ x → x < T.1.2.2.2.2 → w 6 0 (8 + x) = T.2.2.2 x 3) ∧ w 1 0 12 = 0
abbrev layL : List (Nat × Option Int) := rdL ++ [(1, some 2), (1, some 3), (1, some 4), (1, some 6), (1, some 8), (1, some 12), (3, none), (4, none), (5, none), (6, none)]
section ME
variable {r y : Bool} {w : mm_M} {t : Int → Int} {n : Int}
theorem ev_m_lay (hX : TX w t n) : mm_Ev K_X10_lay (0, 0) [.inr (some (1, 0))] (PH r y) w (fun a b' w' => b' = PH r y ∧ sm layL w w' ∧ ((told t n).1 = -4 ∧ (told t n).2.1.1 ≠ 0 → a = some (.inl (told t n).2.1.1) ∧ LD w' (told t n).2) ∧ (¬ ((told t n).1 = -4 ∧ (told t n).2.1.1 ≠ 0) → a = some (.inl (-2)) ∧ sm rdL w w')) := by
  refine ev_intro ok_X10_lay mo_X10_lay (Nat.le_of_ble_eq_true rfl) (fun hrg has => ?_)
  refine k_gp rfl rfl trivial ?_
  refine k_call0 rfl (ev_m_reads hX) rfl rfl rfl (by decide) ?_
  rintro a b' w1 ⟨rfl, rfl, hs, hT⟩
  have hs' : sm layL w w1 := sm_w hs (by decide)
  have e : prs t n 201 0 T0 = told t n := rfl
  rw [e] at hT ⊢
  have fF : ¬ ((told t n).1 = -4 ∧ (told t n).2.1.1 ≠ 0) → ∀ l, mm_Wk K_X10_lay (0, 0) 16 l [] (PH r y) w1 (fun a b' w' => b' = PH r y ∧ sm layL w w' ∧ ((told t n).1 = -4 ∧ (told t n).2.1.1 ≠ 0 → a = some (.inl (told t n).2.1.1) ∧ LD w' (told t n).2) ∧ (¬ ((told t n).1 = -4 ∧ (told t n).2.1.1 ≠ 0) → a = some (.inl (-2)) ∧ sm rdL w w')) := fun hc l => by
    refine k_gp rfl rfl trivial ?_
    exact k_ret rfl trivial ⟨rfl, hs', fun q => absurd q hc, fun _ => ⟨rfl, hs⟩⟩
  refine k_gp rfl rfl trivial ?_
  refine k_br rfl (fun g1 => fF (fun q => g1 q.1) _) (fun g1 => ?_)
  have g1 : (told t n).1 = -4 := Classical.byContradiction g1
  obtain ⟨hR, hB⟩ := hT g1
  refine k_gp rfl rfl trivial ?_
  refine k_br rfl (fun g2 => ?_) (fun g2 => fF (fun q => q.2 (by have := hR.1; omega)) _)
  have hnp : (told t n).2.1.1 ≠ 0 := by have := hR.1; omega
  have hW := told_TW t n
  obtain ⟨r1, r2, r3, r4, r5, r6, r7, r8⟩ := hR
  have r2 := r2 hnp
  refine k_gp rfl rfl trivial ?_
  generalize hw2 : mm_up (mm_up (mm_up (mm_up (mm_up w1 1 0 2 (w1 1 0 13)) 1 0 3 (mm_up w1 1 0 2 (w1 1 0 13) 1 0 14)) 1 0 4 _) 1 0 6 _) 1 0 8 _ = w2
  have f2 : w2 1 0 2 = (told t n).2.1.1 := by rw [← hw2, up_k (by decide), up_k (by decide), up_k (by decide), up_k (by decide), up_s, r1]
  have f3 : w2 1 0 3 = (told t n).2.1.2.1 := by rw [← hw2, up_k (by decide), up_k (by decide), up_k (by decide), up_s, up_k (by decide), r2]
  have f4 : w2 1 0 4 = (told t n).2.1.2.2.1 := by rw [← hw2, up_k (by decide), up_k (by decide), up_s, up_k (by decide), up_k (by decide), r3]
  have f6 : w2 1 0 6 = (told t n).2.1.2.2.2.1 := by rw [← hw2, up_k (by decide), up_s, up_k (by decide), up_k (by decide), up_k (by decide), r4]
  have f8 : w2 1 0 8 = (told t n).2.1.2.2.2.2 := by rw [← hw2, up_s, up_k (by decide), up_k (by decide), up_k (by decide), up_k (by decide), r5]
  have s2 : sm [(1, some 2), (1, some 3), (1, some 4), (1, some 6), (1, some 8)] w1 w2 := by
    rw [← hw2]
    exact sm_up (sm_up (sm_up (sm_up (sm_up sm_rf (by decide)) (by decide)) (by decide)) (by decide)) (by decide)
  refine mm_loop (σ := mm_M) 98 (fun i w3 => (0 ≤ i ∧ i ≤ 98) ∧ sm [(3, none), (4, none), (5, none)] w2 w3 ∧ (∀ k, 0 ≤ k → k < i → w3 5 0 k = w2 10 0 k ∧ (k < 24 → w3 4 0 k = w2 9 0 k) ∧ (k < 6 → w3 3 0 k = w2 8 0 k))) (fun i w3 => mm_Wk K_X10_lay (0, 0) 61 [some (.inr (some (1, 0))), some (.inl i)] [] (PH r y) w3 (fun a b' w' => b' = PH r y ∧ sm layL w w' ∧ ((told t n).1 = -4 ∧ (told t n).2.1.1 ≠ 0 → a = some (.inl (told t n).2.1.1) ∧ LD w' (told t n).2) ∧ (¬ ((told t n).1 = -4 ∧ (told t n).2.1.1 ≠ 0) → a = some (.inl (-2)) ∧ sm rdL w w'))) ?_ ?_ 0 w2 ⟨by omega, sm_rf, fun k a b => by omega⟩
  · intro i w3 h1 h2 ih
    obtain ⟨h2, h3, h4⟩ := h2
    have J115 : ∀ w5, (w5 = w3 ∨ True) → sm [(3, none), (4, none), (5, none)] w2 w5 → (w5 5 0 i = w2 10 0 i ∧ (i < 24 → w5 4 0 i = w2 9 0 i) ∧ (i < 6 → w5 3 0 i = w2 8 0 i)) → (∀ k, k ≠ i → w5 5 0 k = w3 5 0 k ∧ w5 4 0 k = w3 4 0 k ∧ w5 3 0 k = w3 3 0 k) → mm_Wk K_X10_lay (0, 0) 115 [some (.inr (some (1, 0))), some (.inl i)] [] (PH r y) w5 (fun a b' w' => b' = PH r y ∧ sm layL w w' ∧ ((told t n).1 = -4 ∧ (told t n).2.1.1 ≠ 0 → a = some (.inl (told t n).2.1.1) ∧ LD w' (told t n).2) ∧ (¬ ((told t n).1 = -4 ∧ (told t n).2.1.1 ≠ 0) → a = some (.inl (-2)) ∧ sm rdL w w')) := fun w5 _ s5 v5 o5 => by
      refine k_gp rfl rfl (by simp only [true_and, mm_fits]; omega) ?_
      refine ih w5 ⟨by omega, s5, fun k a b => ?_⟩
      by_cases hk : k = i
      · subst hk; exact v5
      · obtain ⟨o1, o2, o3⟩ := o5 k hk
        rw [o1, o2, o3]
        exact h4 k a (by omega)
    have g10 : ∀ k, w3 10 0 k = w2 10 0 k := fun k => h3 10 0 k rfl
    have g9 : ∀ k, w3 9 0 k = w2 9 0 k := fun k => h3 9 0 k rfl
    have g8 : ∀ k, w3 8 0 k = w2 8 0 k := fun k => h3 8 0 k rfl
    refine k_gp rfl rfl trivial ?_
    refine k_brf rfl (by omega) ?_
    refine k_gp rfl rfl (by simp only [true_and, mm_fits]; omega) ?_
    refine k_br rfl (fun q1 => ?_) (fun q1 => ?_)
    · refine k_gp rfl rfl trivial ?_
      refine k_brt rfl (by omega) ?_
      refine J115 _ (Or.inr trivial) (sm_up h3 (Or.inl (by decide))) ⟨up_s.trans (g10 i), fun z => by omega, fun z => by omega⟩ (fun k hk => ⟨up_k hk, up_g rfl, up_g rfl⟩)
    · refine k_gp rfl rfl (by simp only [true_and, mm_fits]; omega) ?_
      refine k_gp rfl rfl trivial ?_
      refine k_br rfl (fun q2 => ?_) (fun q2 => ?_)
      · exact J115 _ (Or.inr trivial) (sm_up (sm_up h3 (Or.inl (by decide))) (Or.inl (by decide))) ⟨(up_g rfl).trans (up_s.trans (g10 i)), fun z => up_s.trans ((up_g rfl).trans (g9 i)), fun z => by omega⟩ (fun k hk => ⟨(up_g rfl).trans (up_k hk), (up_k hk).trans (up_g rfl), (up_g rfl).trans (up_g rfl)⟩)
      · refine k_gp rfl rfl (by simp only [true_and, mm_fits]; omega) ?_
        exact J115 _ (Or.inr trivial) (sm_up (sm_up (sm_up h3 (Or.inl (by decide))) (Or.inl (by decide))) (Or.inl (by decide))) ⟨(up_g rfl).trans ((up_g rfl).trans (up_s.trans (g10 i))), fun z => (up_g rfl).trans (up_s.trans ((up_g rfl).trans (g9 i))), fun z => up_s.trans ((up_g rfl).trans ((up_g rfl).trans (g8 i)))⟩ (fun k hk => ⟨(up_g rfl).trans ((up_g rfl).trans (up_k hk)), (up_g rfl).trans ((up_k hk).trans (up_g rfl)), (up_k hk).trans ((up_g rfl).trans (up_g rfl))⟩)
  · intro i w3 h1 h2
    obtain ⟨h2, h3, h4⟩ := h2
    have hi : i = 98 := by omega
    subst hi
    refine k_gp rfl rfl trivial ?_
    refine k_brt rfl (by omega) ?_
    refine k_gp rfl rfl trivial ?_
    refine k_callp rfl ev_m_begins rfl rfl rfl (by decide) ?_
    have sB : sm [(6, none), (1, some 12)] w3 (begW w3) := sm_up (sm_arrw (sm_arrw sm_rf (by decide)) (by decide)) (by decide)
    have e1 : ∀ k, k ≠ 12 → begW w3 1 0 k = w2 1 0 k := fun k hk => by
      unfold begW
      rw [up_k hk, arrw_g rfl, arrw_g rfl, h3 1 0 k rfl]
    refine k_gp rfl rfl trivial ?_
    rw [e1 2 (by decide), f2]
    have hall : sm layL w (begW w3) := sm_tr hs' (sm_tr (sm_w s2 (by decide)) (sm_tr (sm_w h3 (by decide)) (sm_w sB (by decide))))
    refine k_ret rfl trivial ⟨rfl, hall, fun _ => ⟨rfl, ?_⟩, fun q => absurd ⟨g1, hnp⟩ q⟩
    have hBB := hW.1
    refine ⟨(e1 2 (by decide)).trans f2, (e1 3 (by decide)).trans f3, (e1 4 (by decide)).trans f4, (e1 6 (by decide)).trans f6, (e1 8 (by decide)).trans f8, fun k a b => ?_, fun g k a b c d => ?_, fun x k a b c d => ?_, fun p a b => ?_, fun x a b => ?_, up_s⟩
    · have := hBB.2.1
      rw [sB 3 0 k rfl, (h4 k a (by omega)).2.2 (by omega), s2 8 0 k rfl]
      exact r6 k a b
    · have := hBB.2.2.1
      rw [sB 4 0 _ rfl, (h4 (3 * g + k) (by omega) (by omega)).2.1 (by omega), s2 9 0 _ rfl]
      exact r7 g k a b c d
    · have := hBB.2.2.2
      rw [sB 5 0 _ rfl, (h4 (7 * x + k) (by omega) (by omega)).1, s2 10 0 _ rfl]
      exact r8 x k a b c d
    · unfold begW
      rw [up_g rfl, arrw_out (by omega), arrw_in (by omega)]
    · have := hBB.2.2.2
      unfold begW
      rw [up_g rfl, arrw_in (by omega), show 7 * (8 + x - 8) + 3 = 7 * x + 3 by omega, (h4 (7 * x + 3) (by omega) (by omega)).1, s2 10 0 _ rfl]
      exact r8 x 3 a b (by omega) (by omega)
end ME
end
section
/-! ===== pure: where edges lead, what runs come to ===== -/
theorem vl_put {all v z : Int} (ha : 0 ≤ all ∧ all < 512) (hv : 0 ≤ v ∧ v ≤ 2) (hz : 0 ≤ z ∧ z ≤ 7) : (0 ≤ all + (z - vl all v) * p8 v ∧ all + (z - vl all v) * p8 v < 512) ∧ ∀ u, 0 ≤ u → u ≤ 2 → vl (all + (z - vl all v) * p8 v) u = if u = v then z else vl all u := by
  obtain rfl | rfl | rfl : v = 0 ∨ v = 1 ∨ v = 2 := by omega
  · have e : all + (z - vl all 0) * p8 0 = all + (z - all / 64 % 8) * 64 := rfl
    rw [e]
    refine ⟨by omega, fun u a b => ?_⟩
    obtain rfl | rfl | rfl : u = 0 ∨ u = 1 ∨ u = 2 := by omega
    · show (all + (z - all / 64 % 8) * 64) / 64 % 8 = z
      omega
    · show (all + (z - all / 64 % 8) * 64) / 8 % 8 = all / 8 % 8
      omega
    · show (all + (z - all / 64 % 8) * 64) % 8 = all % 8
      omega
  · have e : all + (z - vl all 1) * p8 1 = all + (z - all / 8 % 8) * 8 := rfl
    rw [e]
    refine ⟨by omega, fun u a b => ?_⟩
    obtain rfl | rfl | rfl : u = 0 ∨ u = 1 ∨ u = 2 := by omega
    · show (all + (z - all / 8 % 8) * 8) / 64 % 8 = all / 64 % 8
      omega
    · show (all + (z - all / 8 % 8) * 8) / 8 % 8 = z
      omega
    · show (all + (z - all / 8 % 8) * 8) % 8 = all % 8
      omega
  · have e : all + (z - vl all 2) * p8 2 = all + (z - all % 8) * 1 := rfl
    rw [e]
    refine ⟨by omega, fun u a b => ?_⟩
    obtain rfl | rfl | rfl : u = 0 ∨ u = 1 ∨ u = 2 := by omega
    · show (all + (z - all % 8) * 1) / 64 % 8 = all / 64 % 8
      omega
    · show (all + (z - all % 8) * 1) / 8 % 8 = all / 8 % 8
      omega
    · show (all + (z - all % 8) * 1) % 8 = z
      omega
theorem go_in {c e : Int → Int → Int} {x all np nc nv : Int} (ha : 0 ≤ all ∧ all < 512) (hnv : nv ≤ 3) (hE : eOK e x np nc nv) : go_ c e x all = -1 ∨ (0 ≤ go_ c e x all ∧ go_ c e x all < 512) := by
  unfold go_
  split
  · exact Or.inl rfl
  · unfold gx_
    split
    · exact Or.inr ha
    · rename_i h4
      split
      · rename_i hz
        have hV := hE.2.2.2.2.2.1 h4
        exact Or.inr (vl_put ha (by omega) hz).1
      · exact Or.inl rfl
theorem go_th {c e : Int → Int → Int} {x all np nc nv : Int} (ha : 0 ≤ all ∧ all < 512) (hnv : nv ≤ 3) (hE : eOK e x np nc nv) (ht : thB nv all = true) (hg : 0 ≤ go_ c e x all) : thB nv (go_ c e x all) = true := by
  unfold go_ at hg ⊢
  split
  · rename_i h
    rw [if_pos h] at hg
    omega
  · rename_i h
    rw [if_neg h] at hg
    unfold gx_ at hg ⊢
    split
    · exact ht
    · rename_i h4
      rw [if_neg h4] at hg
      split
      · rename_i hz
        have hV := hE.2.2.2.2.2.1 h4
        have hu := (vl_put ha (v := e x 5) (by omega) hz).2
        have h1 := of_decide_eq_true ht
        refine decide_eq_true ?_
        rw [hu 0 (by omega) (by omega), hu 1 (by omega) (by omega), hu 2 (by omega) (by omega)]
        refine ⟨?_, ?_, ?_⟩
        · split <;> omega
        · split <;> omega
        · split <;> omega
      · rename_i hz
        rw [if_neg hz] at hg
        omega
theorem fsB_th {f : Int → Int} {nv all : Int} (h : fsB f nv all = true) : thB nv all = true := by
  unfold fsB at h
  rw [Bool.and_eq_true] at h
  exact h.1
/-- an edge, gone from a node (512 p + values); -1 if it can not be -/
def stp (c e : Int → Int → Int) (x q : Int) : Int := if e x 0 = q / 512 ∧ 0 ≤ go_ c e x (q % 512) then 512 * e x 1 + go_ c e x (q % 512) else -1
/-- a run of k edges ends in this node -/
def Rch (c e : Int → Int → Int) (f : Int → Int) (nv ne : Int) : Nat → Int → Prop
  | 0, q => 0 ≤ q ∧ q < 512 ∧ fsB f nv q = true
  | k + 1, q => ∃ q' x, Rch c e f nv ne k q' ∧ (0 ≤ x ∧ x < ne) ∧ stp c e x q' = q ∧ 0 ≤ q
theorem stp_in {c e : Int → Int → Int} {x q np nc nv : Int} (hq : 0 ≤ q) (hnp : np ≤ 8) (hnv : nv ≤ 3) (hE : eOK e x np nc nv) (hs : 0 ≤ stp c e x q) : stp c e x q < 4096 ∧ stp c e x q / 512 = e x 1 ∧ stp c e x q % 512 = go_ c e x (q % 512) ∧ 0 ≤ go_ c e x (q % 512) ∧ e x 0 = q / 512 := by
  unfold stp at hs ⊢
  split
  · rename_i h
    have h1 := go_in (c := c) (all := q % 512) (by omega) hnv hE
    have h2 := hE.2.1
    exact ⟨by omega, by omega, by omega, h.2, h.1⟩
  · rename_i h
    rw [if_neg h] at hs
    omega
theorem Rch_in {c e : Int → Int → Int} {f : Int → Int} {nv ne np nc : Int} (hnp : np ≤ 8) (hnv : nv ≤ 3) (hE : ∀ x, 0 ≤ x → x < ne → eOK e x np nc nv) : ∀ (k : Nat) (q : Int), Rch c e f nv ne k q → (0 ≤ q ∧ q < 4096) ∧ thB nv (q % 512) = true := by
  intro k
  induction k with
  | zero =>
    intro q h
    obtain ⟨h1, h2, h3⟩ := h
    exact ⟨by omega, by rw [show q % 512 = q by omega]; exact fsB_th h3⟩
  | succ k ih =>
    intro q h
    obtain ⟨q', x, h1, h2, h3, h4⟩ := h
    obtain ⟨i1, i2⟩ := ih q' h1
    have h5 := stp_in (c := c) i1.1 hnp hnv (hE x h2.1 h2.2) (by rw [h3]; exact h4)
    rw [h3] at h5
    refine ⟨⟨h4, h5.1⟩, ?_⟩
    rw [h5.2.2.1]
    exact go_th (by omega) hnv (hE x h2.1 h2.2) i2 h5.2.2.2.1
/-- how many below n -/
def cnt (p : Int → Bool) : Nat → Nat
  | 0 => 0
  | n + 1 => cnt p n + (if p n = true then 1 else 0)
theorem cnt_le (p : Int → Bool) (n : Nat) : cnt p n ≤ n := by
  induction n with
  | zero => exact Nat.le_refl _
  | succ n ih =>
    show cnt p n + (if p n = true then 1 else 0) ≤ n + 1
    split <;> omega
theorem cnt_lt {p : Int → Bool} {n : Nat} {i : Int} (h0 : 0 ≤ i) (h1 : i < n) (hi : p i = false) : cnt p n < n := by
  induction n with
  | zero => omega
  | succ n ih =>
    show cnt p n + (if p n = true then 1 else 0) < n + 1
    by_cases h : i = n
    · subst h
      rw [hi, if_neg (by decide)]
      have := cnt_le p n
      omega
    · have := ih (by omega)
      split <;> omega
theorem cnt_c {p p' : Int → Bool} {n : Nat} (h : ∀ i : Int, 0 ≤ i → i < n → p i = p' i) : cnt p n = cnt p' n := by
  induction n with
  | zero => rfl
  | succ n ih =>
    show cnt p n + (if p n = true then 1 else 0) = cnt p' n + (if p' n = true then 1 else 0)
    rw [ih (fun i a b => h i a (by omega)), h n (by omega) (by omega)]
theorem cnt_s {p p' : Int → Bool} {n : Nat} {i : Int} (h0 : 0 ≤ i) (h1 : i < n) (hi : p i = false) (hi' : p' i = true) (h : ∀ j, j ≠ i → p' j = p j) : cnt p' n = cnt p n + 1 := by
  induction n with
  | zero => omega
  | succ n ih =>
    show cnt p' n + (if p' n = true then 1 else 0) = cnt p n + (if p n = true then 1 else 0) + 1
    by_cases hn : i = n
    · subst hn
      rw [hi, hi', cnt_c (p := p') (p' := p) (fun j a b => h j (by omega)), if_pos rfl, if_neg (by decide)]
    · rw [ih (by omega), h n (by omega)]
      omega
/-- a search that goes by levels comes to all that can be reached, by the fewest edges -/
theorem bfs_all {c e : Int → Int → Int} {f : Int → Int} {nv ne : Int} {qn : Int → Int} {m : Int} {lev : Int → Nat} (h0 : ∀ q, Rch c e f nv ne 0 q → ∃ j, (0 ≤ j ∧ j < m) ∧ qn j = q ∧ lev j = 0) (hs : ∀ i, 0 ≤ i → i < m → ∀ x, 0 ≤ x → x < ne → 0 ≤ stp c e x (qn i) → ∃ j, (0 ≤ j ∧ j < m) ∧ qn j = stp c e x (qn i) ∧ lev j ≤ lev i + 1) : ∀ (k : Nat) (q : Int), Rch c e f nv ne k q → ∃ j, (0 ≤ j ∧ j < m) ∧ qn j = q ∧ lev j ≤ k := by
  intro k
  induction k with
  | zero =>
    intro q h
    obtain ⟨j, h1, h2, h3⟩ := h0 q h
    exact ⟨j, h1, h2, by omega⟩
  | succ k ih =>
    intro q h
    obtain ⟨q', x, h1, h2, h3, h4⟩ := h
    obtain ⟨i, i1, i2, i3⟩ := ih q' h1
    subst i2
    obtain ⟨j, j1, j2, j3⟩ := hs i i1.1 i1.2 x h2.1 h2.2 (by rw [h3]; exact h4)
    exact ⟨j, j1, by rw [j2, h3], by omega⟩
end
section
/-! ===== the reference: what runs come to ===== -/
/-- a search by levels, so far: far of nodes, the queue, how many -/
def BI (R : Nat → Int → Prop) (far queue : Int → Int) (qd : Int) : Prop :=
  (∀ q, 0 ≤ q → q < 4096 → -1 ≤ far q) ∧ (∀ i, 0 ≤ i → i < qd → (0 ≤ queue i ∧ queue i < 4096) ∧ (0 ≤ far (queue i) ∧ far (queue i) ≤ i) ∧ R (far (queue i)).toNat (queue i)) ∧
  (∀ q, 0 ≤ q → q < 4096 → 0 ≤ far q → ∃ i, (0 ≤ i ∧ i < qd) ∧ queue i = q) ∧ (∀ i j, 0 ≤ i → i < j → j < qd → queue i ≠ queue j) ∧ (∀ i j, 0 ≤ i → i ≤ j → j < qd → far (queue i) ≤ far (queue j)) ∧ qd = ((cnt (fun q => decide (0 ≤ far q)) 4096 : Nat) : Int)
def upd1 (f : Int → Int) (i v : Int) : Int → Int := fun j => if j = i then v else f j
theorem upd1_s {f : Int → Int} {i v : Int} : upd1 f i v i = v := if_pos rfl
theorem upd1_n {f : Int → Int} {i v j : Int} (h : j ≠ i) : upd1 f i v j = f j := if_neg h
theorem BI_lt {R : Nat → Int → Prop} {far queue : Int → Int} {qd at_ : Int} (h : BI R far queue qd) (ha : 0 ≤ at_ ∧ at_ < 4096) (hf : far at_ < 0) : 0 ≤ qd ∧ qd < 4096 := by
  have h6 := h.2.2.2.2.2
  have := cnt_lt (p := fun q => decide (0 ≤ far q)) (n := 4096) ha.1 (by omega) (decide_eq_false (by omega))
  omega
theorem BI_add {R : Nat → Int → Prop} {far queue : Int → Int} {qd at_ d : Int} (h : BI R far queue qd) (ha : 0 ≤ at_ ∧ at_ < 4096) (hf : far at_ < 0) (hd : 0 ≤ d ∧ d ≤ qd) (hR : R d.toNat at_) (hm : ∀ i, 0 ≤ i → i < qd → far (queue i) ≤ d) : BI R (upd1 far at_ d) (upd1 queue qd at_) (qd + 1) := by
  have hlt := BI_lt h ha hf
  obtain ⟨h1, h2, h3, h4, h5, h6⟩ := h
  have hne : ∀ i, 0 ≤ i → i < qd → queue i ≠ at_ := fun i a b q => by
    have := (h2 i a b).2.1.1
    rw [q] at this
    omega
  have hqi : ∀ i, 0 ≤ i → i < qd → upd1 queue qd at_ i = queue i := fun i a b => upd1_n (by omega)
  have hfq : ∀ i, 0 ≤ i → i < qd → upd1 far at_ d (queue i) = far (queue i) := fun i a b => upd1_n (hne i a b)
  refine ⟨fun q a b => ?_, fun i a b => ?_, fun q a b c => ?_, fun i j a b c => ?_, fun i j a b c => ?_, ?_⟩
  · by_cases hq : q = at_
    · rw [hq, upd1_s]; omega
    · rw [upd1_n hq]; exact h1 q a b
  · by_cases hi : i = qd
    · rw [hi, upd1_s, upd1_s]
      exact ⟨ha, ⟨hd.1, hd.2⟩, hR⟩
    · rw [hqi i a (by omega), hfq i a (by omega)]
      exact h2 i a (by omega)
  · by_cases hq : q = at_
    · exact ⟨qd, ⟨by omega, by omega⟩, by rw [upd1_s, hq]⟩
    · rw [upd1_n hq] at c
      obtain ⟨i, i1, i2⟩ := h3 q a b c
      exact ⟨i, ⟨i1.1, by omega⟩, by rw [hqi i i1.1 i1.2]; exact i2⟩
  · by_cases hj : j = qd
    · rw [hj, upd1_s, hqi i a (by omega)]
      exact hne i a (by omega)
    · rw [hqi i a (by omega), hqi j (by omega) (by omega)]
      exact h4 i j a b (by omega)
  · by_cases hj : j = qd
    · rw [hj, upd1_s, upd1_s]
      by_cases hi : i = qd
      · rw [hi, upd1_s, upd1_s]; exact Int.le_refl _
      · rw [hqi i a (by omega), hfq i a (by omega)]
        exact hm i a (by omega)
    · rw [hqi i a (by omega), hqi j (by omega) (by omega), hfq i a (by omega), hfq j (by omega) (by omega)]
      exact h5 i j a b (by omega)
  · have := cnt_s (p := fun q => decide (0 ≤ far q)) (p' := fun q => decide (0 ≤ upd1 far at_ d q)) (n := 4096) ha.1 (by omega) (decide_eq_false (by omega)) (decide_eq_true (by rw [upd1_s]; exact hd.1)) (fun j hj => by show decide (0 ≤ upd1 far at_ d j) = _; rw [upd1_n hj])
    rw [this]
    omega
theorem cnt_0 {p : Int → Bool} {n : Nat} (h : ∀ i : Int, 0 ≤ i → i < n → p i = false) : cnt p n = 0 := by
  induction n with
  | zero => rfl
  | succ n ih =>
    show cnt p n + (if p n = true then 1 else 0) = 0
    rw [ih (fun i a b => h i a (by omega)), h n (by omega) (by omega)]
    rfl
/-- while node k is gone on from by its edges, those below x done -/
def SI (c e : Int → Int → Int) (f : Int → Int) (nv ne : Int) (far queue : Int → Int) (qd k x : Int) : Prop :=
  BI (Rch c e f nv ne) far queue qd ∧ (∀ q, 0 ≤ q → q < 512 → fsB f nv q = true → far q = 0) ∧ (∀ i, 0 ≤ i → i < k → ∀ z, 0 ≤ z → z < ne → 0 ≤ stp c e z (queue i) → 0 ≤ far (stp c e z (queue i)) ∧ far (stp c e z (queue i)) ≤ far (queue i) + 1) ∧
  (0 ≤ k ∧ (k < qd ∨ x = 0) ∧ k ≤ qd) ∧ (k < qd → ∀ j, 0 ≤ j → j < qd → far (queue j) ≤ far (queue k) + 1) ∧ (k < qd → ∀ z, 0 ≤ z → z < x → 0 ≤ stp c e z (queue k) → 0 ≤ far (stp c e z (queue k)) ∧ far (stp c e z (queue k)) ≤ far (queue k) + 1)
theorem SI_skip {c e : Int → Int → Int} {f : Int → Int} {nv ne : Int} {far queue : Int → Int} {qd k x : Int} (h : SI c e f nv ne far queue qd k x) (hk : k < qd) (hs : 0 ≤ stp c e x (queue k) → stp c e x (queue k) < 4096 ∧ 0 ≤ far (stp c e x (queue k))) : SI c e f nv ne far queue qd k (x + 1) := by
  obtain ⟨h1, h2, h3, h4, h5, h6⟩ := h
  refine ⟨h1, h2, h3, ⟨h4.1, Or.inl hk, h4.2.2⟩, h5, fun _ z a b q => ?_⟩
  by_cases hz : z = x
  · subst hz
    obtain ⟨q1, q2⟩ := hs q
    obtain ⟨i, i1, i2⟩ := h1.2.2.1 _ q q1 q2
    refine ⟨q2, ?_⟩
    rw [← i2]
    exact h5 hk i i1.1 i1.2
  · exact h6 hk z a (by omega) q
theorem SI_add {c e : Int → Int → Int} {f : Int → Int} {nv ne : Int} {far queue : Int → Int} {qd k x : Int} (h : SI c e f nv ne far queue qd k x) (hk : k < qd) (hx : 0 ≤ x ∧ x < ne) (hs : 0 ≤ stp c e x (queue k) ∧ stp c e x (queue k) < 4096) (hf : far (stp c e x (queue k)) < 0) : SI c e f nv ne (upd1 far (stp c e x (queue k)) (far (queue k) + 1)) (upd1 queue qd (stp c e x (queue k))) (qd + 1) k (x + 1) := by
  obtain ⟨h1, h2, h3, h4, h5, h6⟩ := h
  have hkk := h1.2.1 k h4.1 hk
  have hqi : ∀ i, i < qd → upd1 queue qd (stp c e x (queue k)) i = queue i := fun i b => upd1_n (by omega)
  have hfq : ∀ q, 0 ≤ far q → upd1 far (stp c e x (queue k)) (far (queue k) + 1) q = far q := fun q a => upd1_n (fun z => by rw [z] at a; omega)
  have hB := BI_add h1 hs hf (d := far (queue k) + 1) ⟨by omega, by omega⟩ (by
    rw [show (far (queue k) + 1).toNat = (far (queue k)).toNat + 1 by omega]
    exact ⟨queue k, x, hkk.2.2, hx, rfl, hs.1⟩) (h5 hk)
  refine ⟨hB, fun q a b d => ?_, fun i a b z z1 z2 z3 => ?_, ⟨h4.1, Or.inl (by omega), by omega⟩, fun _ j a b => ?_, fun _ z a b q => ?_⟩
  · rw [hfq q (by rw [h2 q a b d]; omega)]
    exact h2 q a b d
  · rw [hqi i (by omega)] at z3 ⊢
    obtain ⟨q1, q2⟩ := h3 i a b z z1 z2 z3
    rw [hfq _ q1, hfq _ (h1.2.1 i a (by omega)).2.1.1]
    exact ⟨q1, q2⟩
  · rw [hqi k hk, hfq _ hkk.2.1.1]
    by_cases hj : j = qd
    · rw [hj, upd1_s, upd1_s]
      exact Int.le_refl _
    · rw [hqi j (by omega), hfq _ (h1.2.1 j a (by omega)).2.1.1]
      exact h5 hk j a (by omega)
  · rw [hqi k hk] at q ⊢
    rw [hfq (queue k) hkk.2.1.1]
    by_cases hz : z = x
    · subst hz
      rw [upd1_s]
      exact ⟨by omega, Int.le_refl _⟩
    · obtain ⟨q1, q2⟩ := h6 hk z a (by omega) q
      rw [hfq _ q1]
      exact ⟨q1, q2⟩
theorem SI_next {c e : Int → Int → Int} {f : Int → Int} {nv ne : Int} {far queue : Int → Int} {qd k : Int} (h : SI c e f nv ne far queue qd k ne) (hk : k < qd) : SI c e f nv ne far queue qd (k + 1) 0 := by
  obtain ⟨h1, h2, h3, h4, h5, h6⟩ := h
  refine ⟨h1, h2, fun i a b z z1 z2 z3 => ?_, ⟨by omega, Or.inr rfl, by omega⟩, fun hk1 j a b => ?_, fun _ z a b => by omega⟩
  · by_cases hi : i = k
    · subst hi
      exact h6 hk z z1 z2 z3
    · exact h3 i a (by omega) z z1 z2 z3
  · have q1 := h5 hk j a b
    have q2 := h1.2.2.2.2.1 k (k + 1) h4.1 (by omega) hk1
    omega
theorem SI_end {c e : Int → Int → Int} {f : Int → Int} {nv ne : Int} {far queue : Int → Int} {qd k x : Int} (h : SI c e f nv ne far queue qd k x) (hk : ¬ k < qd) (hst : ∀ i, 0 ≤ i → i < qd → ∀ z, 0 ≤ z → z < ne → 0 ≤ stp c e z (queue i) → stp c e z (queue i) < 4096) : ∀ (k : Nat) (q : Int), Rch c e f nv ne k q → 0 ≤ far q ∧ far q ≤ k := by
  obtain ⟨h1, h2, h3, h4, h5, h6⟩ := h
  have hb := bfs_all (c := c) (e := e) (f := f) (nv := nv) (ne := ne) (qn := queue) (m := qd) (lev := fun i => (far (queue i)).toNat) (fun q hq => by
    obtain ⟨a, b, d⟩ := hq
    have h0 := h2 q a b d
    obtain ⟨i, i1, i2⟩ := h1.2.2.1 q a (by omega) (by omega)
    exact ⟨i, i1, i2, by show (far (queue i)).toNat = 0; rw [i2, h0]; rfl⟩) (fun i a b z z1 z2 z3 => by
    obtain ⟨q1, q2⟩ := h3 i a (by omega) z z1 z2 z3
    obtain ⟨j, j1, j2⟩ := h1.2.2.1 _ z3 (hst i a b z z1 z2 z3) q1
    exact ⟨j, j1, j2, by show (far (queue j)).toNat ≤ (far (queue i)).toNat + 1; rw [j2]; omega⟩)
  intro k q hq
  obtain ⟨j, j1, j2, j3⟩ := hb k q hq
  have j3 : (far (queue j)).toNat ≤ k := j3
  have := (h1.2.1 j j1.1 j1.2).2.1.1
  rw [j2] at this j3
  omega
def metW (w : mm_M) (at_ d : Int) : mm_M := if w 11 0 at_ < 0 then mm_up (mm_up (mm_up w 11 0 at_ d) 12 0 (w 1 0 23) at_) 1 0 23 (w 1 0 23 + 1) else w
abbrev sprL : List (Nat × Option Int) := [(11, none), (12, none), (1, some 23)]
section ME
variable {r y : Bool} {w : mm_M}
theorem ev_m_meets {at_ d : Int} (ha : 0 ≤ at_ ∧ at_ < 4096) (hq : w 11 0 at_ < 0 → 0 ≤ w 1 0 23 ∧ w 1 0 23 < 4096) : mm_Ev K_X10_meets (0, 0) [.inr (some (1, 0)), .inl at_, .inl d] (PH r y) w (mm_pe none (PH r y) (metW w at_ d)) := by
  refine ev_intro ok_X10_meets mo_X10_meets (Nat.le_of_ble_eq_true rfl) (fun hrg has => ?_)
  unfold metW
  refine k_gp rfl rfl (by simp only [true_and, mm_fits]; omega) ?_
  refine k_br rfl (fun g1 => ?_) (fun g1 => ?_)
  · rw [if_neg (by omega)]
    repeat' (first
      | refine k_brt rfl (by decide) ?_
      | refine k_brf rfl (by decide) ?_
      | refine k_brz rfl (fun _ => ?_) (fun _ => ?_)
      | refine k_brn rfl (fun _ => ?_) (fun _ => ?_)
      | refine k_br rfl (fun _ => ?_) (fun _ => ?_)
      | refine k_ret rfl ?_ ⟨?_, rfl, rfl⟩
      | refine k_ts rfl rfl ?_ (fun _ => ?_)
      | refine mm_tsc (fun _ => ?_) ?_
      | exact mm_tsn
      | refine k_gp rfl rfl ?_ ?_)
    all_goals (first | trivial | omega | (simp only [true_and, mm_fits]; omega) | (refine congrArg some (congrArg Sum.inl ?_); first | rfl | (rw [ib_t (by omega)]) | (rw [ib_f (by omega)]) | omega))
  · have hq := hq (by omega)
    rw [if_pos (by omega)]
    have e1 : ∀ k, mm_up w 11 0 at_ d 1 0 k = w 1 0 k := fun k => up_g rfl
    have e2 : ∀ k, mm_up (mm_up w 11 0 at_ d) 12 0 (w 1 0 23) at_ 1 0 k = w 1 0 k := fun k => (up_g rfl).trans (up_g rfl)
    refine k_gp rfl rfl (by simp only [true_and, mm_fits, e1, e2]; omega) ?_
    rw [e1, e2]
    exact k_ret rfl trivial ⟨rfl, rfl, rfl⟩
theorem metW_sm {at_ d : Int} : sm sprL w (metW w at_ d) := by
  unfold metW
  split
  · exact sm_up (sm_up (sm_up sm_rf (Or.inl (by decide))) (Or.inl (by decide))) (by decide)
  · exact sm_rf
theorem metW_y {at_ d : Int} (h : w 11 0 at_ < 0) : metW w at_ d 11 0 = upd1 (w 11 0) at_ d ∧ metW w at_ d 12 0 = upd1 (w 12 0) (w 1 0 23) at_ ∧ metW w at_ d 1 0 23 = w 1 0 23 + 1 := by
  unfold metW
  rw [if_pos h]
  refine ⟨funext fun k => ?_, funext fun k => ?_, up_s⟩
  · rw [up_g rfl, up_g rfl, up_at]; rfl
  · rw [up_g rfl, up_at, up_g rfl]; rfl
theorem metW_n {at_ d : Int} (h : ¬ w 11 0 at_ < 0) : metW w at_ d = w := if_neg h
theorem m_e0 (w : mm_M) (x : Int) : m_e w x 0 = w 5 0 (7 * x) := by
  show w 5 0 (7 * x + 0) = _
  rw [Int.add_zero]
theorem mP_sm {w' : mm_M} {L : List (Nat × Option Int)} (hs : sm L w w') (h1 : (frB L 1 2 && frB L 1 3 && frB L 1 4 && frB L 1 6 && frB L 1 8) = true) (h4 : ∀ k, frB L 4 k = true) (h5 : ∀ k, frB L 5 k = true) (h6 : ∀ k, frB L 6 k = true) (h : mP w) : mP w' ∧ m_c w' = m_c w ∧ m_e w' = m_e w := by
  simp only [Bool.and_eq_true] at h1
  obtain ⟨⟨⟨⟨a2, a3⟩, a4⟩, a6⟩, a8⟩ := h1
  have e1 : m_c w' = m_c w := by
    funext g k
    exact hs 4 0 _ (h4 _)
  have e2 : m_e w' = m_e w := by
    funext x k
    unfold m_e
    split
    · exact hs 6 0 _ (h6 _)
    · exact hs 5 0 _ (h5 _)
  refine ⟨?_, e1, e2⟩
  unfold mP
  rw [e1, e2, hs 1 0 2 a2, hs 1 0 3 a3, hs 1 0 4 a4, hs 1 0 6 a6, hs 1 0 8 a8]
  refine ⟨h.1, h.2.1, h.2.2.1, h.2.2.2.1, h.2.2.2.2.1, h.2.2.2.2.2.1, h.2.2.2.2.2.2.1, fun p a b => ?_⟩
  rw [hs 6 0 p (h6 p)]
  exact h.2.2.2.2.2.2.2 p a b
abbrev mR (w : mm_M) : Nat → Int → Prop := Rch (m_c w) (m_e w) (w 3 0) (w 1 0 4) (w 1 0 8)
/-- all that can be reached has been, by the fewest edges -/
def RF (R : Nat → Int → Prop) (far queue : Int → Int) (qd : Int) : Prop := BI R far queue qd ∧ ∀ (k : Nat) (q : Int), R k q → 0 ≤ far q ∧ far q ≤ k
theorem ev_m_spreads (h : mP w) : mm_Ev K_X10_spreads (0, 0) [.inr (some (1, 0))] (PH r y) w (fun a b' w' => a = none ∧ b' = PH r y ∧ sm sprL w w' ∧ RF (mR w) (w' 11 0) (w' 12 0) (w' 1 0 23)) := by
  refine ev_intro ok_X10_spreads mo_X10_spreads (Nat.le_of_ble_eq_true rfl) (fun hrg has => ?_)
  have hnp := h.1
  have hnv := h.2.2.1
  have hnc := h.2.2.2.1
  have hne := h.2.2.2.2.1
  have hE := h.2.2.2.2.2.2.1
  refine k_gp rfl rfl trivial ?_
  -- all are far from anywhere
  refine mm_loop (σ := mm_M) 4096 (fun i w1 => (0 ≤ i ∧ i ≤ 4096) ∧ w1 = arrw w 11 0 i (fun _ => -1)) (fun i w1 => mm_Wk K_X10_spreads (0, 0) 2 [some (.inr (some (1, 0))), some (.inl i), none, none, none] [] (PH r y) w1 (fun a b' w' => a = none ∧ b' = PH r y ∧ sm sprL w w' ∧ RF (mR w) (w' 11 0) (w' 12 0) (w' 1 0 23))) ?_ ?_ 0 w ⟨by omega, arrw_0.symm⟩
  · intro i w1 h1 h2 ih
    obtain ⟨h2, rfl⟩ := h2
    refine k_gp rfl rfl trivial ?_
    refine k_brf rfl (by omega) ?_
    refine k_gp rfl rfl (by simp only [true_and, mm_fits]; omega) ?_
    exact ih _ ⟨by omega, arrw_s (by omega) (by omega) rfl⟩
  intro i w1 h1 h2
  obtain ⟨h2, rfl⟩ := h2
  have hi : i = 4096 := by omega
  subst hi
  refine k_gp rfl rfl trivial ?_
  refine k_brt rfl (by omega) ?_
  refine k_gp rfl rfl trivial ?_
  -- first values
  refine mm_loop (σ := mm_M) 512 (fun i w1 => (0 ≤ i ∧ i ≤ 512) ∧ sm sprL w w1 ∧ BI (mR w) (w1 11 0) (w1 12 0) (w1 1 0 23) ∧ (∀ q, 0 ≤ q → q < i → fsB (w 3 0) (w 1 0 4) q = true → w1 11 0 q = 0) ∧ (∀ q, 0 ≤ q → q < 4096 → 0 ≤ w1 11 0 q → w1 11 0 q = 0 ∧ q < i)) (fun i w1 => mm_Wk K_X10_spreads (0, 0) 29 [some (.inr (some (1, 0))), some (.inl i), none, none, none] [] (PH r y) w1 (fun a b' w' => a = none ∧ b' = PH r y ∧ sm sprL w w' ∧ RF (mR w) (w' 11 0) (w' 12 0) (w' 1 0 23))) ?_ ?_ 0 _ ⟨by omega, sm_up (sm_arrw sm_rf (by decide)) (by decide), ?_, fun q a b => by omega, fun q a b c => ?_⟩
  · intro i w1 h1 h2 ih
    obtain ⟨h2, hs, hB, hf, hz⟩ := h2
    have hnv1 : w1 1 0 4 = w 1 0 4 := hs 1 0 4 rfl
    have h31 : w1 3 0 = w 3 0 := funext fun k => hs 3 0 k rfl
    have hfb : -1 ≤ w1 11 0 i := hB.1 i (by omega) (by omega)
    have hfi : w1 11 0 i < 0 := by
      rcases Int.lt_or_le (w1 11 0 i) 0 with q | q
      · exact q
      · have := (hz i (by omega) (by omega) q).2
        omega
    refine k_gp rfl rfl trivial ?_
    refine k_brf rfl (by omega) ?_
    refine k_gp rfl rfl trivial ?_
    refine k_callp rfl (ev_m_isFirst (by omega) (by rw [hnv1]; exact hnv)) rfl rfl rfl (by decide) ?_
    rw [hnv1, h31]
    refine k_brz rfl (fun g1 => ?_) (fun g1 => ?_)
    · refine k_gp rfl rfl (by simp only [true_and, mm_fits]; omega) ?_
      refine ih w1 ⟨by omega, hs, hB, fun q a b c => ?_, fun q a b c => ⟨(hz q a b c).1, by have := (hz q a b c).2; omega⟩⟩
      by_cases hq : q = i
      · subst hq; exact absurd c g1
      · exact hf q a (by omega) c
    · refine k_gp rfl rfl trivial ?_
      refine k_callp rfl (ev_m_meets (d := 0) (by omega) (fun _ => BI_lt hB (at_ := i) (by omega) hfi)) rfl rfl rfl (by decide) ?_
      refine k_gp rfl rfl (by simp only [true_and, mm_fits]; omega) ?_
      obtain ⟨y1, y2, y3⟩ := metW_y (d := 0) hfi
      have hlt := BI_lt hB (at_ := i) (by omega) hfi
      refine ih _ ⟨by omega, sm_tr hs metW_sm, ?_, fun q a b c => ?_, fun q a b c => ?_⟩
      · rw [y1, y2, y3]
        refine BI_add hB (by omega) hfi (by omega) ⟨by omega, by omega, g1⟩ (fun j a b => ?_)
        obtain ⟨j1, j2, -⟩ := hB.2.1 j a b
        have := (hz _ j1.1 j1.2 j2.1).1
        omega
      · rw [y1]
        by_cases hq : q = i
        · rw [hq, upd1_s]
        · rw [upd1_n hq]; exact hf q a (by omega) c
      · rw [y1] at c ⊢
        by_cases hq : q = i
        · rw [hq, upd1_s]; omega
        · rw [upd1_n hq] at c ⊢
          have := hz q a b c
          omega
  · intro i w1 h1 h2
    obtain ⟨h2, hs, hB, hf, hz⟩ := h2
    refine k_gp rfl rfl trivial ?_
    refine k_brt rfl (by omega) ?_
    refine k_gp rfl rfl trivial ?_
    have hSI : SI (m_c w) (m_e w) (w 3 0) (w 1 0 4) (w 1 0 8) (w1 11 0) (w1 12 0) (w1 1 0 23) 0 0 := by
      have hqd : 0 ≤ w1 1 0 23 := by have := hB.2.2.2.2.2; omega
      refine ⟨hB, fun q a b c => hf q a (by omega) c, fun i a b => by omega, ⟨by omega, Or.inr rfl, hqd⟩, fun _ j a b => ?_, fun _ z a b => by omega⟩
      obtain ⟨j1, j2, -⟩ := hB.2.1 j a b
      have := (hz _ j1.1 j1.2 j2.1).1
      obtain ⟨k1, k2, -⟩ := hB.2.1 0 (by omega) (by omega)
      omega
    clear hB hf hz
    refine mm_loopm (σ := Int × mm_M) (fun s => (4096 - s.1).toNat) (fun s => sm sprL w s.2 ∧ SI (m_c w) (m_e w) (w 3 0) (w 1 0 4) (w 1 0 8) (s.2 11 0) (s.2 12 0) (s.2 1 0 23) s.1 0) (fun s => ∀ l2 l3 l4, mm_Wk K_X10_spreads (0, 0) 58 [some (.inr (some (1, 0))), some (.inl s.1), l2, l3, l4] [] (PH r y) s.2 (fun a b' w' => a = none ∧ b' = PH r y ∧ sm sprL w w' ∧ RF (mR w) (w' 11 0) (w' 12 0) (w' 1 0 23))) ?_ (0, w1) ⟨hs, hSI⟩ none none none
    intro sk hsk ih l2 l3 l4
    obtain ⟨k, w1⟩ := sk
    obtain ⟨hs, hSI⟩ := hsk
    dsimp only
    have hs : sm sprL w w1 := hs
    have hSI : SI (m_c w) (m_e w) (w 3 0) (w 1 0 4) (w 1 0 8) (w1 11 0) (w1 12 0) (w1 1 0 23) k 0 := hSI
    have hqd : 0 ≤ w1 1 0 23 ∧ w1 1 0 23 ≤ 4096 := by
      have := hSI.1.2.2.2.2.2
      have := cnt_le (fun q => decide (0 ≤ w1 11 0 q)) 4096
      omega
    have hk0 := hSI.2.2.2.1
    refine k_gp rfl rfl trivial ?_
    refine k_br rfl (fun g1 => ?_) (fun g1 => ?_)
    · refine k_ret rfl trivial ⟨rfl, rfl, hs, hSI.1, SI_end hSI (by omega) (fun i a b z z1 z2 z3 => (stp_in (hSI.1.2.1 i a b).1.1 (by omega) (by omega) (hE z z1 z2) z3).1)⟩
    · have hkk := hSI.1.2.1 k hk0.1 (by omega)
      refine k_gp rfl rfl (by simp only [true_and, mm_fits]; omega) ?_
      generalize hat : w1 12 0 k = at_ at hkk ⊢
      refine mm_loop (σ := mm_M) (w 1 0 8) (fun x w2 => (0 ≤ x ∧ x ≤ w 1 0 8) ∧ sm sprL w w2 ∧ SI (m_c w) (m_e w) (w 3 0) (w 1 0 4) (w 1 0 8) (w2 11 0) (w2 12 0) (w2 1 0 23) k x ∧ w2 12 0 k = at_ ∧ k < w2 1 0 23) (fun x w2 => ∀ l4, mm_Wk K_X10_spreads (0, 0) 75 [some (.inr (some (1, 0))), some (.inl k), some (.inl at_), some (.inl x), l4] [] (PH r y) w2 (fun a b' w' => a = none ∧ b' = PH r y ∧ sm sprL w w' ∧ RF (mR w) (w' 11 0) (w' 12 0) (w' 1 0 23))) ?_ ?_ 0 w1 ⟨by omega, hs, hSI, hat, by omega⟩ l4
      · intro x w2 h1 h2 ihx l4
        obtain ⟨h2, hs2, hS2, ha2, hk2⟩ := h2
        obtain ⟨hP2, ec, ee⟩ := mP_sm hs2 rfl (fun _ => rfl) (fun _ => rfl) (fun _ => rfl) h
        have hnv2 : w2 1 0 4 = w 1 0 4 := hs2 1 0 4 rfl
        have hne2 : w2 1 0 8 = w 1 0 8 := hs2 1 0 8 rfl
        have hnc2 : w2 1 0 6 = w 1 0 6 := hs2 1 0 6 rfl
        have hnp2 : w2 1 0 2 = w 1 0 2 := hs2 1 0 2 rfl
        have hEx := hE x (by omega) (by omega)
        have hA := hEx.1
        have hBx := hEx.2.1
        have e0 : w2 5 0 (7 * x) = m_e w x 0 := by rw [← ee]; exact (m_e0 w2 x).symm
        have e1 : w2 5 0 (7 * x + 1) = m_e w x 1 := by rw [← ee]; rfl
        have hst : stp (m_c w) (m_e w) x at_ = if m_e w x 0 = at_ / 512 ∧ 0 ≤ go_ (m_c w) (m_e w) x (at_ % 512) then 512 * m_e w x 1 + go_ (m_c w) (m_e w) x (at_ % 512) else -1 := rfl
        have hstn : stp (m_c w) (m_e w) x at_ < 0 → ∀ l4, mm_Wk K_X10_spreads (0, 0) 151 [some (.inr (some (1, 0))), some (.inl k), some (.inl at_), some (.inl x), l4] [] (PH r y) w2 (fun a b' w' => a = none ∧ b' = PH r y ∧ sm sprL w w' ∧ RF (mR w) (w' 11 0) (w' 12 0) (w' 1 0 23)) := fun hn l4 => by
          refine k_gp rfl rfl (by simp only [true_and, mm_fits]; omega) ?_
          exact ihx w2 ⟨by omega, hs2, SI_skip hS2 hk2 (fun q => by rw [ha2] at q; omega), ha2, hk2⟩ _
        refine k_gp rfl rfl trivial ?_
        refine k_brf rfl (by omega) ?_
        refine k_gp rfl rfl (by simp only [true_and, mm_fits]; omega) ?_
        rw [e0]
        refine k_br rfl (fun g2 => ?_) (fun g2 => ?_)
        · refine k_gp rfl rfl trivial ?_
          refine k_gp rfl rfl trivial ?_
          refine k_brt rfl (by decide) ?_
          exact hstn (by rw [hst, if_neg (fun q => g2 q.1)]; decide) _
        · have g2 : m_e w x 0 = at_ / 512 := Classical.byContradiction g2
          refine k_gp rfl rfl (by simp only [true_and, mm_fits]; omega) ?_
          refine k_callp rfl (ev_m_goes (np := w 1 0 2) (nc := w 1 0 6) (nv := w 1 0 4) (by omega) (by omega) (by omega) (by omega) (by rw [ec]; exact h.2.2.2.2.2.1) (by rw [ee]; exact hEx)) rfl rfl rfl (by decide) ?_
          rw [ec, ee]
          have hgo := go_in (c := m_c w) (all := at_ % 512) (by omega) (by omega) hEx
          refine k_gp rfl rfl trivial ?_
          refine k_gp rfl rfl trivial ?_
          refine k_br rfl (fun g3 => ?_) (fun g3 => ?_)
          · exact hstn (by rw [hst, if_neg (fun q => by omega)]; decide) _
          · rw [if_pos ⟨g2, by omega⟩] at hst
            have hfar : -1 ≤ w2 11 0 at_ ∧ w2 11 0 at_ ≤ 4096 := by
              have h9 := (hS2.1.2.1 k hk0.1 hk2).2.1
              rw [ha2] at h9
              have := hS2.1.2.2.2.2.2
              have := cnt_le (fun q => decide (0 ≤ w2 11 0 q)) 4096
              omega
            refine k_gp rfl rfl (by simp only [true_and, mm_fits, e1]; omega) ?_
            rw [e1, ← hst]
            have hrange : 0 ≤ stp (m_c w) (m_e w) x at_ ∧ stp (m_c w) (m_e w) x at_ < 4096 := by omega
            refine k_callp rfl (ev_m_meets hrange (fun q => BI_lt hS2.1 hrange q)) rfl rfl rfl (by decide) ?_
            refine k_gp rfl rfl (by simp only [true_and, mm_fits]; omega) ?_
            by_cases hf : w2 11 0 (stp (m_c w) (m_e w) x at_) < 0
            · obtain ⟨y1, y2, y3⟩ := metW_y (d := w2 11 0 at_ + 1) hf
              have hadd := SI_add hS2 hk2 (by omega) (by rw [ha2]; exact hrange) (by rw [ha2]; exact hf)
              rw [ha2] at hadd
              refine ihx _ ⟨by omega, sm_tr hs2 metW_sm, ?_, ?_, ?_⟩ _
              · rw [y1, y2, y3]; exact hadd
              · rw [y2, upd1_n (by omega)]; exact ha2
              · rw [y3]; omega
            · rw [metW_n hf]
              exact ihx w2 ⟨by omega, hs2, SI_skip hS2 hk2 (fun q => by rw [ha2]; omega), ha2, hk2⟩ _
      · intro x w2 h1 h2 l4
        obtain ⟨h2, hs2, hS2, ha2, hk2⟩ := h2
        have hne2 : w2 1 0 8 = w 1 0 8 := hs2 1 0 8 rfl
        have hx : x = w 1 0 8 := by omega
        subst hx
        refine k_gp rfl rfl trivial ?_
        refine k_brt rfl (by omega) ?_
        refine k_gp rfl rfl (by simp only [true_and, mm_fits]; omega) ?_
        exact ih (k + 1, w2) ⟨hs2, SI_next hS2 hk2⟩ (by show (4096 - (k + 1)).toNat < (4096 - k).toNat; omega) _ _ _
  · have hfar : ∀ q, 0 ≤ q → q < 4096 → mm_up (arrw w 11 0 4096 (fun _ => -1)) 1 0 23 0 11 0 q = -1 := fun q a b => by
      rw [up_g rfl, arrw_in (by omega)]
    rw [show mm_up (arrw w 11 0 4096 (fun _ => -1)) 1 0 23 0 1 0 23 = 0 from up_s]
    refine ⟨fun q a b => by rw [hfar q a b]; omega, fun i a b => by omega, fun q a b c => by rw [hfar q a b] at c; omega, fun i j a b c => by omega, fun i j a b c => by omega, ?_⟩
    rw [cnt_0 (fun q a b => decide_eq_false (by rw [hfar q a (by omega)]; decide))]
    rfl
  · rw [up_g rfl, arrw_in (by omega)] at c
    omega
end ME
end
section
/-! ===== the reference: real() ===== -/
theorem hb_tb {L g : Int} (h : 0 ≤ L) : hb L g ↔ L.toNat.testBit g.toNat = true := by
  rw [Nat.testBit_eq_decide_div_mod_eq, decide_eq_true_eq]
  obtain ⟨n, rfl⟩ := Int.eq_ofNat_of_zero_le h
  show ((n : Int) / ((2 ^ g.toNat : Nat) : Int) % 2 = 1) ↔ n / 2 ^ g.toNat % 2 = 1
  rw [← Int.natCast_ediv]
  omega
theorem bits_eq {a b : Int} {n : Nat} (ha : 0 ≤ a ∧ a < ((2 ^ n : Nat) : Int)) (hb_ : 0 ≤ b ∧ b < ((2 ^ n : Nat) : Int)) (h : ∀ g : Int, 0 ≤ g → g < n → (hb a g ↔ hb b g)) : a = b := by
  have : a.toNat = b.toNat := by
    apply Nat.eq_of_testBit_eq
    intro i
    by_cases hi : i < n
    · have := h i (by omega) (by omega)
      rw [hb_tb ha.1, hb_tb hb_.1] at this
      exact Bool.eq_iff_iff.mpr this
    · rw [Nat.testBit_lt_two_pow (Nat.lt_of_lt_of_le (show a.toNat < 2 ^ n by omega) (Nat.pow_le_pow_right (by decide) (by omega))), Nat.testBit_lt_two_pow (Nat.lt_of_lt_of_le (show b.toNat < 2 ^ n by omega) (Nat.pow_le_pow_right (by decide) (by omega)))]
  omega
/-- the fewest edges to a place; -4: it is not reached -/
def RD (R : Nat → Int → Prop) (p r : Int) : Prop := (r = -4 ∧ ∀ v, 0 ≤ v → v < 512 → ∀ k, ¬ R k (512 * p + v)) ∨ (0 ≤ r ∧ (∃ v, (0 ≤ v ∧ v < 512) ∧ R r.toNat (512 * p + v)) ∧ ∀ v, 0 ≤ v → v < 512 → ∀ k : Nat, R k (512 * p + v) → r ≤ k)
theorem RD_u {R : Nat → Int → Prop} {p r r' : Int} (h : RD R p r) (h' : RD R p r') : r = r' := by
  rcases h with ⟨h1, h2⟩ | ⟨h1, ⟨v, hv, h2⟩, h3⟩
  · rcases h' with ⟨g1, g2⟩ | ⟨g1, ⟨v, hv, g2⟩, g3⟩
    · omega
    · exact absurd g2 (h2 v hv.1 hv.2 _)
  · rcases h' with ⟨g1, g2⟩ | ⟨g1, ⟨u, hu, g2⟩, g3⟩
    · exact absurd h2 (g2 v hv.1 hv.2 _)
    · have a := h3 u hu.1 hu.2 _ g2
      have b := g3 v hv.1 hv.2 _ h2
      omega
/-- how many values runs end with at a place -/
def RV (R : Nat → Int → Prop) (p n : Int) : Prop := ∃ bl : Int → Bool, (∀ v, 0 ≤ v → v < 512 → (bl v = true ↔ ∃ k, R k (512 * p + v))) ∧ n = ((cnt bl 512 : Nat) : Int)
theorem RV_u {R : Nat → Int → Prop} {p r r' : Int} (h : RV R p r) (h' : RV R p r') : r = r' := by
  obtain ⟨b1, h1, h2⟩ := h
  obtain ⟨b2, g1, g2⟩ := h'
  rw [h2, g2, cnt_c (fun i a b => Bool.eq_iff_iff.mpr ((h1 i a b).trans (g1 i a b).symm))]
/-- which comparisons are so for all values that runs end with at a place -/
def HO (R : Nat → Int → Prop) (c : Int → Int → Int) (nc p m : Int) : Prop := (0 ≤ m ∧ m < ((2 ^ nc.toNat : Nat) : Int)) ∧ ∀ g, 0 ≤ g → g < nc → (hb m g ↔ ∀ v, 0 ≤ v → v < 512 → (∃ k, R k (512 * p + v)) → soB c g v = true)
theorem HO_u {R : Nat → Int → Prop} {c : Int → Int → Int} {nc p r r' : Int} (h : HO R c nc p r) (h' : HO R c nc p r') : r = r' :=
  bits_eq h.1 h'.1 (fun g a b => (h.2 g a (by omega)).trans (h'.2 g a (by omega)).symm)
theorem and_clr : ∀ m : Nat, m < 256 → ∀ g : Nat, g < 8 → mm_and m (mm_xor (mm_shl 1 g) (-1)) = ((m &&& (255 ^^^ 2 ^ g) : Nat) : Int) := by decide +kernel
section ME
variable {r y : Bool} {w : mm_M}
theorem ev_m_nearest {p : Int} (hp : 0 ≤ p ∧ p < 8) {R : Nat → Int → Prop} (hF : RF R (w 11 0) (w 12 0) (w 1 0 23)) : mm_Ev K_X10_nearest (0, 0) [.inr (some (1, 0)), .inl p] (PH r y) w (fun a b' w' => (∃ z, a = some (.inl z) ∧ RD R p z) ∧ b' = PH r y ∧ w' = w) := by
  refine ev_intro ok_X10_nearest mo_X10_nearest (Nat.le_of_ble_eq_true rfl) (fun hrg has => ?_)
  refine k_gp rfl rfl trivial ?_
  refine mm_loop (σ := Int) 512 (fun i z => (0 ≤ i ∧ i ≤ 512) ∧ ((z = -4 ∧ ∀ v, 0 ≤ v → v < i → w 11 0 (512 * p + v) < 0) ∨ (0 ≤ z ∧ (∃ v, (0 ≤ v ∧ v < i) ∧ w 11 0 (512 * p + v) = z) ∧ ∀ v, 0 ≤ v → v < i → 0 ≤ w 11 0 (512 * p + v) → z ≤ w 11 0 (512 * p + v)))) (fun i z => ∀ l4, mm_Wk K_X10_nearest (0, 0) 5 [some (.inr (some (1, 0))), some (.inl p), some (.inl z), some (.inl i), l4] [] (PH r y) w (fun a b' w' => (∃ z, a = some (.inl z) ∧ RD R p z) ∧ b' = PH r y ∧ w' = w)) ?_ ?_ 0 (-4) ⟨by omega, Or.inl ⟨rfl, fun v a b => by omega⟩⟩ _
  · intro i z h1 h2 ih l4
    obtain ⟨h2, h3⟩ := h2
    have J46 : (w 11 0 (512 * p + i) < 0 ∨ (0 ≤ z ∧ z ≤ w 11 0 (512 * p + i))) → ∀ l4, mm_Wk K_X10_nearest (0, 0) 46 [some (.inr (some (1, 0))), some (.inl p), some (.inl z), some (.inl i), l4] [] (PH r y) w (fun a b' w' => (∃ z, a = some (.inl z) ∧ RD R p z) ∧ b' = PH r y ∧ w' = w) := fun hc l4 => by
      refine k_gp rfl rfl trivial ?_
      refine k_gp rfl rfl (by simp only [true_and, mm_fits]; omega) ?_
      refine ih z ⟨by omega, ?_⟩ _
      rcases h3 with ⟨a1, a2⟩ | ⟨a1, ⟨v, a2, a3⟩, a4⟩
      · refine Or.inl ⟨a1, fun v b1 b2 => ?_⟩
        by_cases hv : v = i
        · subst hv; omega
        · exact a2 v b1 (by omega)
      · refine Or.inr ⟨a1, ⟨v, by omega, a3⟩, fun u b1 b2 b3 => ?_⟩
        by_cases hv : u = i
        · subst hv; omega
        · exact a4 u b1 (by omega) b3
    have J41 : 0 ≤ w 11 0 (512 * p + i) → (z < 0 ∨ w 11 0 (512 * p + i) < z) → mm_Wk K_X10_nearest (0, 0) 41 [some (.inr (some (1, 0))), some (.inl p), some (.inl z), some (.inl i), some (.inl (w 11 0 (512 * p + i)))] [] (PH r y) w (fun a b' w' => (∃ z, a = some (.inl z) ∧ RD R p z) ∧ b' = PH r y ∧ w' = w) := fun hc hd => by
      refine k_gp rfl rfl trivial ?_
      refine k_gp rfl rfl (by simp only [true_and, mm_fits]; omega) ?_
      refine ih _ ⟨by omega, Or.inr ⟨hc, ⟨i, by omega, rfl⟩, fun u b1 b2 b3 => ?_⟩⟩ _
      by_cases hv : u = i
      · subst hv; exact Int.le_refl _
      · rcases h3 with ⟨a1, a2⟩ | ⟨a1, ⟨v, a2, a3⟩, a4⟩
        · have := a2 u b1 (by omega); omega
        · have := a4 u b1 (by omega) b3; omega
    refine k_gp rfl rfl trivial ?_
    refine k_brf rfl (by omega) ?_
    refine k_gp rfl rfl (by simp only [true_and, mm_fits]; omega) ?_
    refine k_br rfl (fun g1 => J46 (by omega) _) (fun g1 => ?_)
    refine k_gp rfl rfl trivial ?_
    refine k_br rfl (fun g2 => J41 (by omega) (by omega)) (fun g2 => ?_)
    refine k_gp rfl rfl trivial ?_
    exact k_br rfl (fun g3 => J46 (by omega) _) (fun g3 => J41 (by omega) (by omega))
  · intro i z h1 h2 l4
    obtain ⟨h2, h3⟩ := h2
    have hi : i = 512 := by omega
    subst hi
    refine k_gp rfl rfl trivial ?_
    refine k_brt rfl (by omega) ?_
    refine k_gp rfl rfl trivial ?_
    refine k_ret rfl trivial ⟨⟨z, rfl, ?_⟩, rfl, rfl⟩
    rcases h3 with ⟨a1, a2⟩ | ⟨a1, ⟨v, a2, a3⟩, a4⟩
    · refine Or.inl ⟨a1, fun v b1 b2 k hk => ?_⟩
      have := a2 v b1 b2
      have := (hF.2 k _ hk).1
      omega
    · refine Or.inr ⟨a1, ⟨v, a2, ?_⟩, fun u b1 b2 k hk => ?_⟩
      · obtain ⟨i, i1, i2⟩ := hF.1.2.2.1 (512 * p + v) (by omega) (by omega) (by omega)
        have := (hF.1.2.1 i i1.1 i1.2).2.2
        rw [i2, a3] at this
        exact this
      · obtain ⟨q1, q2⟩ := hF.2 k _ hk
        have := a4 u b1 b2 q1
        omega
theorem RF_iff {R : Nat → Int → Prop} {far queue : Int → Int} {qd : Int} (hF : RF R far queue qd) {q : Int} (hq : 0 ≤ q ∧ q < 4096) : 0 ≤ far q ↔ ∃ k, R k q := by
  refine ⟨fun h => ?_, fun ⟨k, hk⟩ => (hF.2 k q hk).1⟩
  obtain ⟨i, i1, i2⟩ := hF.1.2.2.1 q hq.1 hq.2 h
  have := (hF.1.2.1 i i1.1 i1.2).2.2
  rw [i2] at this
  exact ⟨_, this⟩
theorem ev_m_real {p what : Int} (h : mP w) : mm_Ev K_X10_real (0, 0) [.inr (some (1, 0)), .inl p, .inl what] (PH r y) w (fun a b' w' => b' = PH r y ∧ sm sprL w w' ∧ ∃ z, a = some (.inl z) ∧ (¬ ((0 ≤ p ∧ p < w 1 0 2) ∧ (0 ≤ what ∧ what ≤ 2)) → z = -1) ∧ ((0 ≤ p ∧ p < w 1 0 2) ∧ (0 ≤ what ∧ what ≤ 2) → (what = 0 → RD (mR w) p z) ∧ (what = 1 → RV (mR w) p z) ∧ (what = 2 → HO (mR w) (m_c w) (w 1 0 6) p z))) := by
  refine ev_intro ok_X10_real mo_X10_real (Nat.le_of_ble_eq_true rfl) (fun hrg has => ?_)
  have hnp := h.1
  have hnc := h.2.2.2.1
  have hnv := h.2.2.1
  have fF : ∀ l, ¬ ((0 ≤ p ∧ p < w 1 0 2) ∧ (0 ≤ what ∧ what ≤ 2)) → mm_Wk K_X10_real (0, 0) 17 l [] (PH r y) w (fun a b' w' => b' = PH r y ∧ sm sprL w w' ∧ ∃ z, a = some (.inl z) ∧ (¬ ((0 ≤ p ∧ p < w 1 0 2) ∧ (0 ≤ what ∧ what ≤ 2)) → z = -1) ∧ ((0 ≤ p ∧ p < w 1 0 2) ∧ (0 ≤ what ∧ what ≤ 2) → (what = 0 → RD (mR w) p z) ∧ (what = 1 → RV (mR w) p z) ∧ (what = 2 → HO (mR w) (m_c w) (w 1 0 6) p z))) := fun l q => by
    refine k_gp rfl rfl trivial ?_
    exact k_ret rfl trivial ⟨rfl, sm_rf, -1, rfl, fun _ => rfl, fun z => absurd z q⟩
  refine k_gp rfl rfl trivial ?_
  refine k_callp rfl (ev_m_isPlace (by omega)) rfl rfl rfl (by decide) ?_
  refine k_brz rfl (fun g1 => fF _ (fun q => g1 q.1)) (fun g1 => ?_)
  refine k_gp rfl rfl trivial ?_
  refine k_callp rfl ev_m_isIn rfl rfl rfl (by decide) ?_
  refine k_brn rfl (fun g2 => ?_) (fun g2 => fF _ (fun q => g2 q.2))
  refine k_gp rfl rfl trivial ?_
  refine k_call0 rfl (ev_m_spreads h) rfl rfl rfl (by decide) ?_
  rintro a b' w1 ⟨rfl, rfl, hs, hF⟩
  refine k_gp rfl rfl trivial ?_
  refine k_br rfl (fun g3 => ?_) (fun g3 => ?_)
  · obtain ⟨hP1, ec, ee⟩ := mP_sm hs rfl (fun _ => rfl) (fun _ => rfl) (fun _ => rfl) h
    have hnc1 : w1 1 0 6 = w 1 0 6 := hs 1 0 6 rfl
    have hnv1 : w1 1 0 4 = w 1 0 4 := hs 1 0 4 rfl
    have h256 : 2 ^ (w 1 0 6).toNat ≤ 2 ^ 8 := Nat.pow_le_pow_right (by decide) (by omega)
    have h1 : 0 < 2 ^ (w 1 0 6).toNat := Nat.two_pow_pos _
    refine k_gp rfl rfl (by simp only [true_and, hnc1, shl1 (g := w 1 0 6) (by omega)]; omega) ?_
    rw [hnc1, shl1 (g := w 1 0 6) (by omega)]
    refine mm_loop (σ := Int × Int) 512 (fun i s => (0 ≤ i ∧ i ≤ 512) ∧ s.1 = ((cnt (fun v => decide (0 ≤ w1 11 0 (512 * p + v))) i.toNat : Nat) : Int) ∧ (0 ≤ s.2 ∧ s.2 < ((2 ^ (w 1 0 6).toNat : Nat) : Int)) ∧ ∀ g, 0 ≤ g → g < w 1 0 6 → (hb s.2 g ↔ ∀ v, 0 ≤ v → v < i → 0 ≤ w1 11 0 (512 * p + v) → soB (m_c w) g v = true)) (fun i s => ∀ l6, mm_Wk K_X10_real (0, 0) 48 [some (.inr (some (1, 0))), some (.inl p), some (.inl what), some (.inl s.1), some (.inl s.2), some (.inl i), l6] [] (PH r y) w1 (fun a b' w' => b' = PH r y ∧ sm sprL w w' ∧ ∃ z, a = some (.inl z) ∧ (¬ ((0 ≤ p ∧ p < w 1 0 2) ∧ (0 ≤ what ∧ what ≤ 2)) → z = -1) ∧ ((0 ≤ p ∧ p < w 1 0 2) ∧ (0 ≤ what ∧ what ≤ 2) → (what = 0 → RD (mR w) p z) ∧ (what = 1 → RV (mR w) p z) ∧ (what = 2 → HO (mR w) (m_c w) (w 1 0 6) p z)))) ?_ ?_ 0 (0, ((2 ^ (w 1 0 6).toNat : Nat) : Int) - 1) ⟨by omega, rfl, ⟨by dsimp only; omega, by dsimp only; omega⟩, fun g a b => ?_⟩ _
    · intro i s q1 q2 ih l6
      obtain ⟨many, hol⟩ := s
      obtain ⟨q2, q3, q4, q5⟩ := q2
      dsimp only at q3 q4 q5 ⊢
      have hm : cnt (fun v => decide (0 ≤ w1 11 0 (512 * p + v))) i.toNat ≤ i.toNat := cnt_le _ _
      have hcs : cnt (fun v => decide (0 ≤ w1 11 0 (512 * p + v))) (i + 1).toNat = cnt (fun v => decide (0 ≤ w1 11 0 (512 * p + v))) i.toNat + (if decide (0 ≤ w1 11 0 (512 * p + i)) = true then 1 else 0) := by
        rw [show (i + 1).toNat = i.toNat + 1 by omega]
        show _ + (if decide (0 ≤ w1 11 0 (512 * p + ((i.toNat : Nat) : Int))) = true then 1 else 0) = _
        rw [show ((i.toNat : Nat) : Int) = i by omega]
      refine k_gp rfl rfl trivial ?_
      refine k_brf rfl (by omega) ?_
      refine k_gp rfl rfl (by simp only [true_and, mm_fits]; omega) ?_
      refine k_br rfl (fun g4 => ?_) (fun g4 => ?_)
      · refine k_gp rfl rfl (by simp only [true_and, mm_fits]; omega) ?_
        refine ih (many, hol) ⟨by omega, ?_, q4, fun g a b => ?_⟩ _
        · show many = _
          rw [hcs, if_neg (by rw [decide_eq_false (by omega)]; decide)]
          exact q3
        · refine (q5 g a b).trans ⟨fun z v v1 v2 v3 => ?_, fun z v v1 v2 v3 => z v v1 (by omega) v3⟩
          by_cases hv : v = i
          · subst hv; omega
          · exact z v v1 (by omega) v3
      · refine k_gp rfl rfl (by simp only [true_and, mm_fits]; omega) ?_
        refine mm_loop (σ := Int) (w 1 0 6) (fun g hl => (0 ≤ g ∧ g ≤ w 1 0 6) ∧ (0 ≤ hl ∧ hl < ((2 ^ (w 1 0 6).toNat : Nat) : Int)) ∧ ∀ u, 0 ≤ u → u < w 1 0 6 → (hb hl u ↔ hb hol u ∧ (u < g → soB (m_c w) u i = true))) (fun g hl => mm_Wk K_X10_real (0, 0) 78 [some (.inr (some (1, 0))), some (.inl p), some (.inl what), some (.inl (many + 1)), some (.inl hl), some (.inl i), some (.inl g)] [] (PH r y) w1 (fun a b' w' => b' = PH r y ∧ sm sprL w w' ∧ ∃ z, a = some (.inl z) ∧ (¬ ((0 ≤ p ∧ p < w 1 0 2) ∧ (0 ≤ what ∧ what ≤ 2)) → z = -1) ∧ ((0 ≤ p ∧ p < w 1 0 2) ∧ (0 ≤ what ∧ what ≤ 2) → (what = 0 → RD (mR w) p z) ∧ (what = 1 → RV (mR w) p z) ∧ (what = 2 → HO (mR w) (m_c w) (w 1 0 6) p z)))) ?_ ?_ 0 hol ⟨by omega, q4, fun u a b => ⟨fun z => ⟨z, fun c => by omega⟩, fun z => z.1⟩⟩
        · intro g hl r1 r2 ihg
          obtain ⟨r2, r3, r4⟩ := r2
          refine k_gp rfl rfl trivial ?_
          refine k_brf rfl (by omega) ?_
          refine k_gp rfl rfl trivial ?_
          refine k_callp rfl (ev_m_isSo (nv := w 1 0 4) (by omega) (by omega) (by omega) (by rw [ec]; exact h.2.2.2.2.2.1 g (by omega) (by omega))) rfl rfl rfl (by decide) ?_
          rw [ec]
          refine k_brz rfl (fun g5 => ?_) (fun g5 => ?_)
          · refine k_gp rfl rfl trivial ?_
            refine k_gp rfl rfl (by simp only [true_and, mm_fits]; omega) ?_
            have hc := and_clr hl.toNat (by omega) g.toNat (by omega)
            rw [show ((hl.toNat : Nat) : Int) = hl by omega, show ((g.toNat : Nat) : Int) = g by omega] at hc
            rw [hc]
            refine ihg _ ⟨by omega, ⟨by omega, ?_⟩, fun u a b => ?_⟩
            · have := Nat.and_le_left (n := hl.toNat) (m := 255 ^^^ 2 ^ g.toNat)
              omega
            · rw [hb_tb (by omega)]
              show (hl.toNat &&& (255 ^^^ 2 ^ g.toNat)).testBit u.toNat = true ↔ _
              rw [Nat.testBit_and, Nat.testBit_xor, show (255 : Nat) = 2 ^ 8 - 1 from rfl, Nat.testBit_two_pow_sub_one, Nat.testBit_two_pow, decide_eq_true (show u.toNat < 8 by omega), Bool.true_xor, Bool.and_eq_true, ← hb_tb r3.1, r4 u a b]
              by_cases hu : u = g
              · subst hu
                simp only [decide_true, Bool.not_true, Bool.false_eq_true, and_false, false_iff, not_and]
                intro _ z
                exact g5 (z (by omega))
              · rw [decide_eq_false (show ¬ g.toNat = u.toNat by omega)]
                refine ⟨fun z => ⟨z.1.1, fun c => z.1.2 (by omega)⟩, fun z => ⟨⟨z.1, fun c => z.2 (by omega)⟩, rfl⟩⟩
          · refine k_gp rfl rfl trivial ?_
            refine k_gp rfl rfl (by simp only [true_and, mm_fits]; omega) ?_
            have hc := bb_and (x := hl.toNat) (y := 255) (by omega) (by decide)
            rw [show ((hl.toNat : Nat) : Int) = hl by omega, show ((255 : Nat) : Int) = 255 from rfl, show (255 : Nat) = 2 ^ 8 - 1 from rfl, Nat.and_two_pow_sub_one_eq_mod, Nat.mod_eq_of_lt (by omega), show ((hl.toNat : Nat) : Int) = hl by omega] at hc
            rw [hc]
            refine ihg hl ⟨by omega, r3, fun u a b => (r4 u a b).trans ⟨fun z => ⟨z.1, fun c => ?_⟩, fun z => ⟨z.1, fun c => z.2 (by omega)⟩⟩⟩
            by_cases hu : u = g
            · subst hu; exact g5
            · exact z.2 (by omega)
        · intro g hl r1 r2
          obtain ⟨r2, r3, r4⟩ := r2
          refine k_gp rfl rfl trivial ?_
          refine k_brt rfl (by omega) ?_
          refine k_gp rfl rfl (by simp only [true_and, mm_fits]; omega) ?_
          refine ih (many + 1, hl) ⟨by omega, ?_, r3, fun u a b => ?_⟩ _
          · show many + 1 = _
            rw [hcs, if_pos (decide_eq_true (by omega)), q3]
            omega
          · refine (r4 u a b).trans ?_
            rw [q5 u a b]
            refine ⟨fun z v v1 v2 v3 => ?_, fun z => ⟨fun v v1 v2 v3 => z v v1 (by omega) v3, fun _ => z i (by omega) (by omega) (by omega)⟩⟩
            by_cases hv : v = i
            · subst hv; exact z.2 (by omega)
            · exact z.1 v v1 (by omega) v3
    · intro i s q1 q2 l6
      obtain ⟨many, hol⟩ := s
      obtain ⟨q2, q3, q4, q5⟩ := q2
      dsimp only at q3 q4 q5 ⊢
      have hi : i = 512 := by omega
      subst hi
      have hit : ∀ v, 0 ≤ v → v < 512 → (0 ≤ w1 11 0 (512 * p + v) ↔ ∃ k, mR w k (512 * p + v)) := fun v a b => RF_iff hF (by omega)
      refine k_gp rfl rfl trivial ?_
      refine k_brt rfl (by omega) ?_
      refine k_gp rfl rfl trivial ?_
      refine k_br rfl (fun g4 => ?_) (fun g4 => ?_)
      · refine k_gp rfl rfl trivial ?_
        refine k_ret rfl trivial ⟨rfl, hs, hol, rfl, fun z => absurd ⟨g1, g2⟩ z, fun _ => ⟨fun z => absurd z g3, fun z => absurd z g4, fun _ => ⟨q4, fun g a b => (q5 g a b).trans ?_⟩⟩⟩
        exact ⟨fun z v v1 v2 v3 => z v v1 v2 ((hit v v1 v2).mpr v3), fun z v v1 v2 v3 => z v v1 v2 ((hit v v1 v2).mp v3)⟩
      · have g4 : what = 1 := Classical.byContradiction g4
        refine k_gp rfl rfl trivial ?_
        refine k_ret rfl trivial ⟨rfl, hs, many, rfl, fun z => absurd ⟨g1, g2⟩ z, fun _ => ⟨fun z => absurd z g3, fun _ => ⟨fun v => decide (0 ≤ w1 11 0 (512 * p + v)), fun v a b => ?_, q3⟩, fun z => by omega⟩⟩
        rw [decide_eq_true_eq]
        exact hit v a b
    · rw [hb_tb (by omega)]
      show ((((2 ^ (w 1 0 6).toNat : Nat) : Int) - 1).toNat).testBit g.toNat = true ↔ _
      rw [show ((((2 ^ (w 1 0 6).toNat : Nat) : Int) - 1).toNat) = 2 ^ (w 1 0 6).toNat - 1 by omega, Nat.testBit_two_pow_sub_one, decide_eq_true_eq]
      exact ⟨fun _ v a b => by omega, fun _ => by omega⟩
  · have g3 : what = 0 := Classical.byContradiction g3
    refine k_gp rfl rfl trivial ?_
    refine k_call0 rfl (ev_m_nearest (by omega) hF) rfl rfl rfl (by decide) ?_
    rintro a b' w2 ⟨⟨z, rfl, hz⟩, rfl, rfl⟩
    exact k_ret rfl trivial ⟨rfl, hs, z, rfl, fun q => absurd ⟨g1, g2⟩ q, fun _ => ⟨fun _ => hz, fun q => by omega, fun q => by omega⟩⟩
end ME
end
section
/-! ===== pure: the first of the shortest runs ===== -/
section PR
variable {c e : Int → Int → Int} {f : Int → Int} {nv ne trap : Int}
/-- a row of edges, gone from a node -/
def frw (c e : Int → Int → Int) (ne : Int) : List Int → Int → Int → Prop
  | [], q, q' => q = q'
  | x :: ρ, q, q' => (0 ≤ x ∧ x < ne) ∧ 0 ≤ stp c e x q ∧ frw c e ne ρ (stp c e x q) q'
/-- a run by these edges ends in this node -/
def RN (c e : Int → Int → Int) (f : Int → Int) (nv ne : Int) (ρ : List Int) (q : Int) : Prop := ∃ q0, Rch c e f nv ne 0 q0 ∧ frw c e ne ρ q0 q
theorem frw_app {ρ σ : List Int} {q q' : Int} : frw c e ne (ρ ++ σ) q q' ↔ ∃ m, frw c e ne ρ q m ∧ frw c e ne σ m q' := by
  induction ρ generalizing q with
  | nil => exact ⟨fun h => ⟨q, rfl, h⟩, fun ⟨m, h1, h2⟩ => by cases h1; exact h2⟩
  | cons x ρ ih =>
    show (_ ∧ _ ∧ frw c e ne (ρ ++ σ) _ q') ↔ _
    rw [ih]
    exact ⟨fun ⟨a, b, m, h1, h2⟩ => ⟨m, ⟨a, b, h1⟩, h2⟩, fun ⟨m, ⟨a, b, h1⟩, h2⟩ => ⟨a, b, m, h1, h2⟩⟩
theorem RN_snoc {ρ : List Int} {x q : Int} : RN c e f nv ne (ρ ++ [x]) q ↔ ∃ m, RN c e f nv ne ρ m ∧ (0 ≤ x ∧ x < ne) ∧ stp c e x m = q ∧ 0 ≤ q := by
  constructor
  · rintro ⟨q0, h0, h1⟩
    obtain ⟨m, h2, h3, h4, h5⟩ := frw_app.mp h1
    cases h5
    exact ⟨m, ⟨q0, h0, h2⟩, h3, rfl, h4⟩
  · rintro ⟨m, ⟨q0, h0, h2⟩, h3, h4, h5⟩
    refine ⟨q0, h0, frw_app.mpr ⟨m, h2, h3, ?_, ?_⟩⟩
    · rw [h4]; exact h5
    · exact h4
theorem Rch_frw {σ : List Int} : ∀ {k : Nat} {q q' : Int}, Rch c e f nv ne k q → frw c e ne σ q q' → Rch c e f nv ne (k + σ.length) q' := by
  induction σ with
  | nil => intro k q q' h1 h2; cases h2; exact h1
  | cons x σ ih =>
    intro k q q' h1 h2
    obtain ⟨a, b, h3⟩ := h2
    have : Rch c e f nv ne (k + 1) (stp c e x q) := ⟨q, x, h1, a, rfl, b⟩
    have := ih this h3
    rw [show k + (x :: σ).length = k + 1 + σ.length by simp; omega]
    exact this
theorem RN_Rch {ρ : List Int} {q : Int} (h : RN c e f nv ne ρ q) : Rch c e f nv ne ρ.length q := by
  obtain ⟨q0, h0, h1⟩ := h
  have := Rch_frw h0 h1
  rw [Nat.zero_add] at this
  exact this
theorem Rch_RN : ∀ {k : Nat} {q : Int}, Rch c e f nv ne k q → ∃ ρ : List Int, ρ.length = k ∧ RN c e f nv ne ρ q := by
  intro k
  induction k with
  | zero => intro q h; exact ⟨[], rfl, q, h, rfl⟩
  | succ k ih =>
    intro q h
    obtain ⟨q', x, h1, h2, h3, h4⟩ := h
    obtain ⟨ρ, h5, h6⟩ := ih h1
    exact ⟨ρ ++ [x], by simp [h5], RN_snoc.mpr ⟨q', h6, h2, h3, h4⟩⟩
/-- from here the trap is reached in what is left of D edges -/
def Gd (c e : Int → Int → Int) (ne trap : Int) (D s : Nat) (q : Int) : Prop := ∃ τ q', τ.length + s = D ∧ frw c e ne τ q q' ∧ q' / 512 = trap
def lxl : List Int → List Int → Prop
  | [], _ => True
  | _ :: _, [] => False
  | x :: ρ, y :: σ => x < y ∨ (x = y ∧ lxl ρ σ)
theorem lxl_rf (ρ : List Int) : lxl ρ ρ := by
  induction ρ with
  | nil => trivial
  | cons x ρ ih => exact Or.inr ⟨rfl, ih⟩
theorem lxl_as {ρ σ : List Int} (hl : ρ.length = σ.length) (h1 : lxl ρ σ) (h2 : lxl σ ρ) : ρ = σ := by
  induction ρ generalizing σ with
  | nil =>
    cases σ with
    | nil => rfl
    | cons y σ => simp at hl
  | cons x ρ ih =>
    cases σ with
    | nil => simp at hl
    | cons y σ =>
      rcases h1 with h1 | ⟨h1, h1'⟩
      · rcases h2 with h2 | ⟨h2, -⟩ <;> omega
      · rcases h2 with h2 | ⟨-, h2'⟩
        · omega
        · rw [h1, ih (by simpa using hl) h1' h2']
/-- the first of the runs of D edges to the trap -/
def RU (c e : Int → Int → Int) (f : Int → Int) (nv ne trap : Int) (D : Nat) (ρ : List Int) : Prop := ρ.length = D ∧ (∃ q, q / 512 = trap ∧ RN c e f nv ne ρ q) ∧ ∀ σ q, σ.length = D → q / 512 = trap → RN c e f nv ne σ q → lxl ρ σ
theorem RU_u {D : Nat} {ρ σ : List Int} (h : RU c e f nv ne trap D ρ) (h' : RU c e f nv ne trap D σ) : ρ = σ := by
  obtain ⟨h1, ⟨q, h2, h3⟩, h4⟩ := h
  obtain ⟨g1, ⟨q', g2, g3⟩, g4⟩ := h'
  exact lxl_as (by omega) (h4 σ q' g1 g2 g3) (g4 ρ q h1 h2 h3)
/-- its beginning, s edges -/
def PX (c e : Int → Int → Int) (f : Int → Int) (nv ne trap : Int) (D s : Nat) (ρ : List Int) : Prop := ρ.length = s ∧ (∃ q, RN c e f nv ne ρ q ∧ Gd c e ne trap D s q) ∧ ∀ σ q, σ.length = D → q / 512 = trap → RN c e f nv ne σ q → lxl ρ (σ.take s)
theorem lxl_snoc {ρ σ : List Int} {x y : Int} (hl : ρ.length = σ.length) (h : lxl ρ σ) (hx : ρ = σ → x ≤ y) : lxl (ρ ++ [x]) (σ ++ [y]) := by
  induction ρ generalizing σ with
  | nil =>
    cases σ with
    | nil =>
      rcases Int.lt_or_eq_of_le (hx rfl) with q | q
      · exact Or.inl q
      · exact Or.inr ⟨q, trivial⟩
    | cons z σ => simp at hl
  | cons z ρ ih =>
    cases σ with
    | nil => simp at hl
    | cons u σ =>
      rcases h with h | ⟨h, h'⟩
      · exact Or.inl h
      · exact Or.inr ⟨h, ih (by simpa using hl) h' (fun q => hx (by rw [h, q]))⟩
/-- a run along the beginning, and on to the trap -/
theorem PX_mid {D s : Nat} {σ : List Int} {q : Int} (hs : s < D) (hl : σ.length = D) (ht : q / 512 = trap) (hr : RN c e f nv ne σ q) : ∃ x m, σ.take (s + 1) = σ.take s ++ [x] ∧ RN c e f nv ne (σ.take s) m ∧ (0 ≤ x ∧ x < ne) ∧ 0 ≤ stp c e x m ∧ Gd c e ne trap D (s + 1) (stp c e x m) := by
  have hlt : s < σ.length := by omega
  have e1 : σ.take (s + 1) = σ.take s ++ [σ[s]] := by rw [List.take_succ, List.getElem?_eq_getElem hlt]; rfl
  obtain ⟨q0, h0, h1⟩ := hr
  rw [← List.take_append_drop (s + 1) σ] at h1
  obtain ⟨m2, h2, h3⟩ := frw_app.mp h1
  rw [e1] at h2
  obtain ⟨m, h4, h5, h6, h7⟩ := frw_app.mp h2
  cases h7
  exact ⟨σ[s], m, e1, ⟨q0, h0, h4⟩, h5, h6, σ.drop (s + 1), q, by simp; omega, h3, ht⟩
theorem PX_step {D s : Nat} {ρ : List Int} {x : Int} (h : PX c e f nv ne trap D s ρ) (hs : s < D) (hx : ∃ m, RN c e f nv ne ρ m ∧ (0 ≤ x ∧ x < ne) ∧ 0 ≤ stp c e x m ∧ Gd c e ne trap D (s + 1) (stp c e x m)) (hm : ∀ y m, RN c e f nv ne ρ m → (0 ≤ y ∧ y < ne) → 0 ≤ stp c e y m → Gd c e ne trap D (s + 1) (stp c e y m) → x ≤ y) : PX c e f nv ne trap D (s + 1) (ρ ++ [x]) := by
  obtain ⟨h1, h2, h3⟩ := h
  refine ⟨by simp [h1], ?_, fun σ q a b d => ?_⟩
  · obtain ⟨m, m1, m2, m3, m4⟩ := hx
    exact ⟨_, RN_snoc.mpr ⟨m, m1, m2, rfl, m3⟩, m4⟩
  · obtain ⟨y, m, e1, y2, y3, y4, y5⟩ := PX_mid hs a b d
    rw [e1]
    refine lxl_snoc (by rw [h1, List.length_take]; omega) (h3 σ q a b d) (fun z => ?_)
    rw [← z] at y2
    exact hm y m y2 y3 y4 y5
theorem Gd_step {D s : Nat} {q : Int} (h : Gd c e ne trap D s q) (hs : s < D) : ∃ x, (0 ≤ x ∧ x < ne) ∧ 0 ≤ stp c e x q ∧ Gd c e ne trap D (s + 1) (stp c e x q) := by
  obtain ⟨τ, q', h1, h2, h3⟩ := h
  cases τ with
  | nil => simp at h1; omega
  | cons x τ =>
    obtain ⟨a, b, d⟩ := h2
    exact ⟨x, a, b, τ, q', by simp at h1; omega, d, h3⟩
theorem Gd_back {D s : Nat} {q x : Int} (hx : 0 ≤ x ∧ x < ne) (h0 : 0 ≤ stp c e x q) (h : Gd c e ne trap D (s + 1) (stp c e x q)) : Gd c e ne trap D s q := by
  obtain ⟨τ, q', h1, h2, h3⟩ := h
  exact ⟨x :: τ, q', by simp; omega, ⟨hx, h0, h2⟩, h3⟩
/-- one of the edges is the least -/
theorem least_x {P : Int → Prop} {x : Int} (h0 : 0 ≤ x) (hx : P x) : ∃ z, (0 ≤ z ∧ z ≤ x) ∧ P z ∧ ∀ y, 0 ≤ y → P y → z ≤ y := by
  generalize hn : x.toNat = n
  induction n using Nat.strongRecOn generalizing x with
  | ind n ih =>
    by_cases hl : ∃ y, 0 ≤ y ∧ y < x ∧ P y
    · obtain ⟨y, y0, y1, y2⟩ := hl
      obtain ⟨z, z1, z2, z3⟩ := ih y.toNat (by omega) y0 y2 rfl
      exact ⟨z, by omega, z2, z3⟩
    · refine ⟨x, by omega, hx, fun y y0 y1 => ?_⟩
      rcases Int.lt_or_le y x with q | q
      · exact absurd ⟨y, y0, q, y1⟩ hl
      · exact q
theorem PX_full {D : Nat} : ∀ (k s : Nat) (ρ : List Int), s + k = D → PX c e f nv ne trap D s ρ → ∃ τ, RU c e f nv ne trap D (ρ ++ τ) := by
  intro k
  induction k with
  | zero =>
    intro s ρ hs h
    obtain ⟨h1, ⟨q, h2, h3⟩, h4⟩ := h
    refine ⟨[], ?_⟩
    rw [List.append_nil]
    obtain ⟨τ, q', t1, t2, t3⟩ := h3
    have ht : τ = [] := List.eq_nil_of_length_eq_zero (by omega)
    subst ht
    cases t2
    refine ⟨by omega, ⟨q, t3, h2⟩, fun σ q' a b d => ?_⟩
    have := h4 σ q' a b d
    rw [List.take_of_length_le (by omega)] at this
    exact this
  | succ k ih =>
    intro s ρ hs h
    obtain ⟨q, h2, h3⟩ := h.2.1
    obtain ⟨x, x1, x2, x3⟩ := Gd_step h3 (by omega)
    obtain ⟨z, z1, z2, z3⟩ := least_x (P := fun x => ∃ m, RN c e f nv ne ρ m ∧ (0 ≤ x ∧ x < ne) ∧ 0 ≤ stp c e x m ∧ Gd c e ne trap D (s + 1) (stp c e x m)) x1.1 ⟨q, h2, x1, x2, x3⟩
    have := PX_step h (by omega) z2 (fun y m a b d g => z3 y b.1 ⟨m, a, b, d, g⟩)
    obtain ⟨τ, hτ⟩ := ih (s + 1) (ρ ++ [z]) (by omega) this
    exact ⟨z :: τ, by rw [List.append_assoc] at hτ; exact hτ⟩
theorem PX_0 {D : Nat} {q : Int} (h : Rch c e f nv ne D q) (ht : q / 512 = trap) : PX c e f nv ne trap D 0 [] := by
  obtain ⟨ρ, h1, q0, h2, h3⟩ := Rch_RN h
  exact ⟨rfl, ⟨q0, ⟨q0, h2, rfl⟩, ρ, q, by omega, h3, ht⟩, fun σ q a b d => trivial⟩
/-- of nodes from which the trap is reached in time it is known how far they are -/
theorem Gd_far {D s : Nat} {q : Int} (hD : ∀ k q, Rch c e f nv ne k q → q / 512 = trap → D ≤ k) (h : Gd c e ne trap D s q) {k : Nat} (hk : Rch c e f nv ne k q) : s ≤ k := by
  obtain ⟨τ, q', h1, h2, h3⟩ := h
  have := hD _ _ (Rch_frw hk h2) h3
  omega
end PR
end
section
/-! ===== the reference: run() ===== -/
section ME
variable {r y : Bool} {w : mm_M}
abbrev mG (w : mm_M) (D s : Nat) (q : Int) : Prop := Gd (m_c w) (m_e w) (w 1 0 8) (w 1 0 3) D s q
/-- far, when only those are left from which the trap is reached in time -/
def FP (w : mm_M) (D : Int) (far0 far : Int → Int) : Prop := ∀ q, 0 ≤ q → q < 4096 → (0 ≤ far0 q ∧ far0 q ≤ D ∧ mG w D.toNat (far0 q).toNat q → far q = far0 q) ∧ (¬ (0 ≤ far0 q ∧ far0 q ≤ D ∧ mG w D.toNat (far0 q).toNat q) → far q = -1)
theorem ev_m_prunes {w0 : mm_M} {D : Int} (h : mP w0) (hs : sm sprL w0 w) (hF : RF (mR w0) (w 11 0) (w 12 0) (w 1 0 23)) (hD0 : 0 ≤ D ∧ D < 5000) (hD : ∀ k q, mR w0 k q → q / 512 = w0 1 0 3 → D.toNat ≤ k) :
    mm_Ev K_X10_prunes (0, 0) [.inr (some (1, 0)), .inl D] (PH r y) w (fun a b' w' => a = none ∧ b' = PH r y ∧ sm [(11, none)] w w' ∧ FP w0 D (w 11 0) (w' 11 0)) := by
  refine ev_intro ok_X10_prunes mo_X10_prunes (Nat.le_of_ble_eq_true rfl) (fun hrg has => ?_)
  have hnp := h.1
  have hnv := h.2.2.1
  have hnc := h.2.2.2.1
  have hne := h.2.2.2.2.1
  have hE := h.2.2.2.2.2.2.1
  have hqd : 0 ≤ w 1 0 23 ∧ w 1 0 23 ≤ 4096 := by
    have := hF.1.2.2.2.2.2
    have := cnt_le (fun q => decide (0 ≤ w 11 0 q)) 4096
    omega
  refine k_gp rfl rfl (by simp only [true_and, mm_fits]; omega) ?_
  have LP : ∀ (m : Nat) (k : Int) (w1 : mm_M), k + 1 = m → k < w 1 0 23 → sm [(11, none)] w w1 → (∀ q, 0 ≤ q → q < 4096 → w 11 0 q < 0 → w1 11 0 q = -1) → (∀ i, 0 ≤ i → i ≤ k → w1 11 0 (w 12 0 i) = w 11 0 (w 12 0 i)) → (∀ i, k < i → i < w 1 0 23 → (w 11 0 (w 12 0 i) ≤ D ∧ mG w0 D.toNat (w 11 0 (w 12 0 i)).toNat (w 12 0 i) → w1 11 0 (w 12 0 i) = w 11 0 (w 12 0 i)) ∧ (¬ (w 11 0 (w 12 0 i) ≤ D ∧ mG w0 D.toNat (w 11 0 (w 12 0 i)).toNat (w 12 0 i)) → w1 11 0 (w 12 0 i) = -1)) →
      ∀ l3 l4 l5 l6, mm_Wk K_X10_prunes (0, 0) 7 [some (.inr (some (1, 0))), some (.inl D), some (.inl k), l3, l4, l5, l6] [] (PH r y) w1 (fun a b' w' => a = none ∧ b' = PH r y ∧ sm [(11, none)] w w' ∧ FP w0 D (w 11 0) (w' 11 0)) := by
    intro m
    induction m with
    | zero =>
      intro k w1 hk hkq hs1 h1 h2 h3 l3 l4 l5 l6
      refine k_gp rfl rfl trivial ?_
      refine k_brt rfl (by omega) ?_
      refine k_ret rfl trivial ⟨rfl, rfl, hs1, fun q a b => ?_⟩
      by_cases hq : 0 ≤ w 11 0 q
      · obtain ⟨i, i1, i2⟩ := hF.1.2.2.1 q a b hq
        have := h3 i (by omega) i1.2
        rw [i2] at this
        exact ⟨fun z => this.1 z.2, fun z => this.2 (fun u => z ⟨hq, u⟩)⟩
      · exact ⟨fun z => absurd z.1 hq, fun _ => h1 q a b (by omega)⟩
    | succ m ih =>
      intro k w1 hk hkq hs1 h1 h2 h3 l3 l4 l5 l6
      have hkk := hF.1.2.1 k (by omega) hkq
      have hfk := h2 k (by omega) (Int.le_refl _)
      have h12 : ∀ i, w1 12 0 i = w 12 0 i := fun i => hs1 12 0 i rfl
      have hs01 : sm sprL w0 w1 := sm_tr hs (sm_w hs1 (by decide))
      obtain ⟨hP1, ec, ee⟩ := mP_sm hs01 rfl (fun _ => rfl) (fun _ => rfl) (fun _ => rfl) h
      have ht1 : w1 1 0 3 = w0 1 0 3 := hs01 1 0 3 rfl
      have hne1 : w1 1 0 8 = w0 1 0 8 := hs01 1 0 8 rfl
      -- the end of a round
      have J162 : ∀ s : Bool, (s = true ↔ w 11 0 (w 12 0 k) ≤ D ∧ mG w0 D.toNat (w 11 0 (w 12 0 k)).toNat (w 12 0 k)) → ∀ l5 l6, mm_Wk K_X10_prunes (0, 0) 162 [some (.inr (some (1, 0))), some (.inl D), some (.inl k), some (.inl (w 12 0 k)), some (.inl (ib (s = true))), l5, l6] [] (PH r y) w1 (fun a b' w' => a = none ∧ b' = PH r y ∧ sm [(11, none)] w w' ∧ FP w0 D (w 11 0) (w' 11 0)) := fun s hsx l5 l6 => by
        have fin : ∀ v, (s = true → v = w 11 0 (w 12 0 k)) → (¬ s = true → v = -1) → mm_Wk K_X10_prunes (0, 0) 182 [some (.inr (some (1, 0))), some (.inl D), some (.inl k), some (.inl (w 12 0 k)), some (.inl (ib (s = true))), l5, l6] [.inl v, .inl (w 12 0 k), .inr (some (11, 0))] (PH r y) w1 (fun a b' w' => a = none ∧ b' = PH r y ∧ sm [(11, none)] w w' ∧ FP w0 D (w 11 0) (w' 11 0)) := fun v hv1 hv2 => by
          refine k_gp rfl rfl (by simp only [true_and, mm_fits]; omega) ?_
          refine ih (k - 1) _ (by omega) (by omega) (sm_up hs1 (Or.inl (by decide))) (fun q a b d => ?_) (fun i a b => ?_) (fun i a b => ?_) _ _ _ _
          · rw [up_k (fun z => by rw [z] at d; omega)]
            exact h1 q a b d
          · rw [up_k (hF.1.2.2.2.1 i k a (by omega) hkq)]
            exact h2 i a (by omega)
          · by_cases hi : i = k
            · subst hi
              rw [up_s]
              exact ⟨fun z => hv1 (hsx.mpr z), fun z => hv2 (fun u => z (hsx.mp u))⟩
            · rw [up_k (fun z => hF.1.2.2.2.1 k i (by omega) (by omega) b z.symm)]
              exact h3 i (by omega) b
        refine k_gp rfl rfl trivial ?_
        refine k_brz rfl (fun g1 => ?_) (fun g1 => ?_)
        · refine k_gp rfl rfl trivial ?_
          exact fin (-1) (fun z => absurd z g1) (fun _ => rfl)
        · refine k_gp rfl rfl (by simp only [true_and, mm_fits]; omega) ?_
          rw [hfk]
          exact fin _ (fun _ => rfl) (fun z => absurd g1 z)
      -- the edges
      have LX : ∀ s0 : Bool, (s0 = true ↔ w 12 0 k / 512 = w0 1 0 3 ∧ w 11 0 (w 12 0 k) = D) → ∀ l5 l6, mm_Wk K_X10_prunes (0, 0) 45 [some (.inr (some (1, 0))), some (.inl D), some (.inl k), some (.inl (w 12 0 k)), l4, l5, l6] [.inl (ib (s0 = true))] (PH r y) w1 (fun a b' w' => a = none ∧ b' = PH r y ∧ sm [(11, none)] w w' ∧ FP w0 D (w 11 0) (w' 11 0)) := fun s0 hs0 l5 l6 => by
        have hst4 : ∀ x, 0 ≤ x → x < w0 1 0 8 → 0 ≤ stp (m_c w0) (m_e w0) x (w 12 0 k) → stp (m_c w0) (m_e w0) x (w 12 0 k) < 4096 := fun x a b d => (stp_in (by omega) (by omega) (by omega) (hE x a b) d).1
        have key : w 11 0 (w 12 0 k) < D → ((∃ x, (0 ≤ x ∧ x < w0 1 0 8) ∧ 0 ≤ stp (m_c w0) (m_e w0) x (w 12 0 k) ∧ w1 11 0 (stp (m_c w0) (m_e w0) x (w 12 0 k)) = w 11 0 (w 12 0 k) + 1) ↔ mG w0 D.toNat (w 11 0 (w 12 0 k)).toNat (w 12 0 k)) := fun hjD => by
          constructor
          · rintro ⟨x, x1, x2, x3⟩
            have x4 := hst4 x x1.1 x1.2 x2
            have hp : 0 ≤ w 11 0 (stp (m_c w0) (m_e w0) x (w 12 0 k)) := by
              rcases Int.lt_or_le (w 11 0 (stp (m_c w0) (m_e w0) x (w 12 0 k))) 0 with q | q
              · have := h1 _ x2 x4 q; omega
              · exact q
            obtain ⟨i, i1, i2⟩ := hF.1.2.2.1 _ x2 x4 hp
            have hik : k < i := by
              rcases Int.lt_or_le k i with q | q
              · exact q
              · have a1 := h2 i i1.1 q
                have a2 := hF.1.2.2.2.2.1 i k i1.1 q hkq
                rw [i2] at a1 a2
                omega
            have a3 := h3 i hik i1.2
            rw [i2] at a3
            have hg : w 11 0 (stp (m_c w0) (m_e w0) x (w 12 0 k)) ≤ D ∧ mG w0 D.toNat (w 11 0 (stp (m_c w0) (m_e w0) x (w 12 0 k))).toNat (stp (m_c w0) (m_e w0) x (w 12 0 k)) := Classical.byContradiction fun q => by have := a3.2 q; omega
            have a4 := a3.1 hg
            have a5 := hg.2
            rw [show (w 11 0 (stp (m_c w0) (m_e w0) x (w 12 0 k))).toNat = (w 11 0 (w 12 0 k)).toNat + 1 by omega] at a5
            exact Gd_back x1 x2 a5
          · intro hg
            obtain ⟨x, x1, x2, x3⟩ := Gd_step hg (by omega)
            have x4 := hst4 x x1.1 x1.2 x2
            have hR1 : mR w0 ((w 11 0 (w 12 0 k)).toNat + 1) (stp (m_c w0) (m_e w0) x (w 12 0 k)) := ⟨_, x, hkk.2.2, x1, rfl, x2⟩
            obtain ⟨f1, f2⟩ := hF.2 _ _ hR1
            obtain ⟨i, i1, i2⟩ := hF.1.2.2.1 _ x2 x4 f1
            have a6 := (hF.1.2.1 i i1.1 i1.2).2.2
            rw [i2] at a6
            have a7 := Gd_far hD x3 a6
            have hfe : w 11 0 (stp (m_c w0) (m_e w0) x (w 12 0 k)) = w 11 0 (w 12 0 k) + 1 := by omega
            have hik : k < i := by
              rcases Int.lt_or_le k i with q | q
              · exact q
              · have a2 := hF.1.2.2.2.2.1 i k i1.1 q hkq
                rw [i2] at a2
                omega
            have a3 := (h3 i hik i1.2).1
            rw [i2] at a3
            refine ⟨x, x1, x2, ?_⟩
            rw [a3 ⟨by omega, by rw [show (w 11 0 (stp (m_c w0) (m_e w0) x (w 12 0 k))).toNat = (w 11 0 (w 12 0 k)).toNat + 1 by omega]; exact x3⟩]
            exact hfe
        refine k_gp rfl rfl trivial ?_
        refine mm_loop (σ := Bool) (w0 1 0 8) (fun x s => (0 ≤ x ∧ x ≤ w0 1 0 8) ∧ (s = true ↔ s0 = true ∨ (w 11 0 (w 12 0 k) < D ∧ ∃ z, (0 ≤ z ∧ z < x) ∧ 0 ≤ stp (m_c w0) (m_e w0) z (w 12 0 k) ∧ w1 11 0 (stp (m_c w0) (m_e w0) z (w 12 0 k)) = w 11 0 (w 12 0 k) + 1))) (fun x s => ∀ l6, mm_Wk K_X10_prunes (0, 0) 50 [some (.inr (some (1, 0))), some (.inl D), some (.inl k), some (.inl (w 12 0 k)), some (.inl (ib (s = true))), some (.inl x), l6] [] (PH r y) w1 (fun a b' w' => a = none ∧ b' = PH r y ∧ sm [(11, none)] w w' ∧ FP w0 D (w 11 0) (w' 11 0))) ?_ ?_ 0 s0 ⟨by omega, ⟨fun z => Or.inl z, fun z => z.resolve_right (fun u => by obtain ⟨-, z, z1, -⟩ := u; omega)⟩⟩ _
        · intro x s x1 x2 ihx l6
          obtain ⟨x2, x3⟩ := x2
          refine k_gp rfl rfl trivial ?_
          refine k_brf rfl (by omega) ?_
          refine k_gp rfl rfl trivial ?_
          refine k_brn rfl (fun g1 => ?_) (fun g1 => ?_)
          · refine J162 s ⟨fun _ => ?_, fun _ => g1⟩ _ _
            rcases x3.mp g1 with q | ⟨q1, z, z1, z2, z3⟩
            · obtain ⟨q1, q2⟩ := hs0.mp q
              exact ⟨by omega, [], _, by show 0 + _ = _; omega, rfl, q1⟩
            · exact ⟨by omega, (key q1).mp ⟨z, ⟨z1.1, by omega⟩, z2, z3⟩⟩
          · refine k_gp rfl rfl (by simp only [true_and, mm_fits]; omega) ?_
            rw [hfk]
            refine k_br rfl (fun g2 => ?_) (fun g2 => ?_)
            · refine J162 s ⟨fun z => absurd z g1, fun z => ?_⟩ _ _
              refine x3.mpr (Or.inl (hs0.mpr ⟨?_, by omega⟩))
              obtain ⟨z1, τ, q', t1, t2, t3⟩ := z
              have ht : τ = [] := List.eq_nil_of_length_eq_zero (by omega)
              subst ht
              cases t2
              exact t3
            · have hjD : w 11 0 (w 12 0 k) < D := by omega
              have hEx := hE x (by omega) (by omega)
              have hA := hEx.1
              have hBx := hEx.2.1
              have e0 : w1 5 0 (7 * x) = m_e w0 x 0 := by rw [← ee]; exact (m_e0 w1 x).symm
              have e1 : w1 5 0 (7 * x + 1) = m_e w0 x 1 := by rw [← ee]; rfl
              have hst : stp (m_c w0) (m_e w0) x (w 12 0 k) = if m_e w0 x 0 = w 12 0 k / 512 ∧ 0 ≤ go_ (m_c w0) (m_e w0) x (w 12 0 k % 512) then 512 * m_e w0 x 1 + go_ (m_c w0) (m_e w0) x (w 12 0 k % 512) else -1 := rfl
              have nxt : ∀ s' : Bool, (s' = true ↔ 0 ≤ stp (m_c w0) (m_e w0) x (w 12 0 k) ∧ w1 11 0 (stp (m_c w0) (m_e w0) x (w 12 0 k)) = w 11 0 (w 12 0 k) + 1) → ∀ l6, mm_Wk K_X10_prunes (0, 0) 154 [some (.inr (some (1, 0))), some (.inl D), some (.inl k), some (.inl (w 12 0 k)), some (.inl (ib (s = true))), some (.inl x), l6] [.inl (ib (s' = true))] (PH r y) w1 (fun a b' w' => a = none ∧ b' = PH r y ∧ sm [(11, none)] w w' ∧ FP w0 D (w 11 0) (w' 11 0)) := fun s' hs' l6 => by
                refine k_gp rfl rfl (by simp only [true_and, mm_fits]; omega) ?_
                refine ihx s' ⟨by omega, ⟨fun z => Or.inr ⟨hjD, x, by omega, (hs'.mp z).1, (hs'.mp z).2⟩, fun z => ?_⟩⟩ _
                rcases z with z | ⟨-, z, z1, z2, z3⟩
                · exact absurd (x3.mpr (Or.inl z)) g1
                · by_cases hz : z = x
                  · subst hz; exact hs'.mpr ⟨z2, z3⟩
                  · exact absurd (x3.mpr (Or.inr ⟨hjD, z, by omega, z2, z3⟩)) g1
              refine k_gp rfl rfl (by simp only [true_and, mm_fits]; omega) ?_
              rw [e0]
              refine k_br rfl (fun g3 => ?_) (fun g3 => ?_)
              · rw [if_neg (fun q => g3 q.1)] at hst
                refine k_gp rfl rfl trivial ?_
                refine k_gp rfl rfl trivial ?_
                refine k_brt rfl (by decide) ?_
                refine k_gp rfl rfl trivial ?_
                exact nxt false ⟨(fun z => by cases z), fun z => by omega⟩ _
              · have g3 : m_e w0 x 0 = w 12 0 k / 512 := Classical.byContradiction g3
                refine k_gp rfl rfl (by simp only [true_and, mm_fits]; omega) ?_
                refine k_callp rfl (ev_m_goes (np := w0 1 0 2) (nc := w0 1 0 6) (nv := w0 1 0 4) (by omega) (by omega) (by omega) (by omega) (by rw [ec]; exact h.2.2.2.2.2.1) (by rw [ee]; exact hEx)) rfl rfl rfl (by decide) ?_
                rw [ec, ee]
                have hgo := go_in (c := m_c w0) (all := w 12 0 k % 512) (by omega) (by omega) hEx
                refine k_gp rfl rfl trivial ?_
                refine k_gp rfl rfl trivial ?_
                refine k_br rfl (fun g4 => ?_) (fun g4 => ?_)
                · rw [if_neg (fun q => by omega)] at hst
                  refine k_gp rfl rfl trivial ?_
                  exact nxt false ⟨(fun z => by cases z), fun z => by omega⟩ _
                · rw [if_pos ⟨g3, by omega⟩] at hst
                  refine k_gp rfl rfl (by simp only [true_and, mm_fits, e1, hfk]; omega) ?_
                  rw [e1, ← hst, hfk]
                  refine k_br rfl (fun g5 => ?_) (fun g5 => ?_)
                  · refine k_gp rfl rfl trivial ?_
                    exact nxt false ⟨(fun z => by cases z), fun z => absurd z.2 g5⟩ _
                  · refine k_gp rfl rfl trivial ?_
                    exact nxt true ⟨fun _ => ⟨by omega, Classical.byContradiction g5⟩, fun _ => rfl⟩ _
        · intro x s x1 x2 l6
          obtain ⟨x2, x3⟩ := x2
          refine k_gp rfl rfl trivial ?_
          refine k_brt rfl (by omega) ?_
          refine J162 s (x3.trans ?_) _ _
          have hx : x = w0 1 0 8 := by omega
          subst hx
          constructor
          · rintro (q | ⟨q1, z, z1, z2, z3⟩)
            · obtain ⟨q1, q2⟩ := hs0.mp q
              exact ⟨by omega, [], _, by show 0 + _ = _; omega, rfl, q1⟩
            · exact ⟨by omega, (key q1).mp ⟨z, z1, z2, z3⟩⟩
          · rintro ⟨z1, z2⟩
            by_cases hj : w 11 0 (w 12 0 k) < D
            · obtain ⟨z, a1, a2, a3⟩ := (key hj).mpr z2
              exact Or.inr ⟨hj, z, a1, a2, a3⟩
            · obtain ⟨τ, q', t1, t2, t3⟩ := z2
              have ht : τ = [] := List.eq_nil_of_length_eq_zero (by omega)
              subst ht
              cases t2
              exact Or.inl (hs0.mpr ⟨t3, by omega⟩)
      refine k_gp rfl rfl trivial ?_
      refine k_brf rfl (by omega) ?_
      refine k_gp rfl rfl (by simp only [true_and, mm_fits, h12]; omega) ?_
      rw [h12, ht1]
      refine k_br rfl (fun g1 => ?_) (fun g1 => ?_)
      · refine k_gp rfl rfl trivial ?_
        exact LX false ⟨(fun z => by cases z), fun z => absurd z.1 g1⟩ _ _
      · have g1 : w 12 0 k / 512 = w0 1 0 3 := Classical.byContradiction g1
        refine k_gp rfl rfl (by simp only [true_and, mm_fits]; omega) ?_
        rw [hfk]
        refine k_br rfl (fun g2 => ?_) (fun g2 => ?_)
        · refine k_gp rfl rfl trivial ?_
          exact LX false ⟨(fun z => by cases z), fun z => absurd z.2 g2⟩ _ _
        · refine k_gp rfl rfl trivial ?_
          exact LX true ⟨fun _ => ⟨g1, Classical.byContradiction g2⟩, fun _ => rfl⟩ _ _
  refine LP (w 1 0 23).toNat _ w (by omega) (by omega) sm_rf (fun q a b d => ?_) (fun i a b => rfl) (fun i a b => by omega) _ _ _ _
  have := hF.1.1 q a b
  omega
end ME
end
section
/-! ===== the reference: leads(), run() ===== -/
section ME
variable {r y : Bool} {w : mm_M}
/-- where an edge leads on to, from what is here -/
def ls_on (c e : Int → Int → Int) (here far : Int → Int) (x s u : Int) : Prop := ∃ v, (0 ≤ v ∧ v < 512) ∧ here v ≠ 0 ∧ go_ c e x v = u ∧ 0 ≤ u ∧ far (512 * e x 1 + u) = s + 1
theorem ev_m_leads {x s : Int} (h : mP w) (hx : 0 ≤ x ∧ x < w 1 0 8) (hs0 : 0 ≤ s ∧ s < 5000) : mm_Ev K_X10_leads (0, 0) [.inr (some (1, 0)), .inl x, .inl s] (PH r y) w (fun a b' w' => b' = PH r y ∧ sm [(14, none)] w w' ∧ (∀ u, 0 ≤ u → u < 512 → (0 ≤ w' 14 0 u ∧ w' 14 0 u ≤ 1) ∧ (w' 14 0 u ≠ 0 ↔ ls_on (m_c w) (m_e w) (w 13 0) (w 11 0) x s u)) ∧ ∃ z : Bool, a = some (.inl (ib (z = true))) ∧ (z = true ↔ ∃ u, (0 ≤ u ∧ u < 512) ∧ ls_on (m_c w) (m_e w) (w 13 0) (w 11 0) x s u)) := by
  refine ev_intro ok_X10_leads mo_X10_leads (Nat.le_of_ble_eq_true rfl) (fun hrg has => ?_)
  have hnp := h.1
  have hnv := h.2.2.1
  have hnc := h.2.2.2.1
  have hne := h.2.2.2.2.1
  have hE := h.2.2.2.2.2.2.1 x hx.1 hx.2
  have hB := hE.2.1
  refine k_gp rfl rfl trivial ?_
  refine mm_loop (σ := mm_M) 512 (fun i w1 => (0 ≤ i ∧ i ≤ 512) ∧ w1 = arrw w 14 0 i (fun _ => 0)) (fun i w1 => mm_Wk K_X10_leads (0, 0) 5 [some (.inr (some (1, 0))), some (.inl x), some (.inl s), some (.inl 0), some (.inl i), none] [] (PH r y) w1 (fun a b' w' => b' = PH r y ∧ sm [(14, none)] w w' ∧ (∀ u, 0 ≤ u → u < 512 → (0 ≤ w' 14 0 u ∧ w' 14 0 u ≤ 1) ∧ (w' 14 0 u ≠ 0 ↔ ls_on (m_c w) (m_e w) (w 13 0) (w 11 0) x s u)) ∧ ∃ z : Bool, a = some (.inl (ib (z = true))) ∧ (z = true ↔ ∃ u, (0 ≤ u ∧ u < 512) ∧ ls_on (m_c w) (m_e w) (w 13 0) (w 11 0) x s u))) ?_ ?_ 0 w ⟨by omega, arrw_0.symm⟩
  · intro i w1 h1 h2 ih
    obtain ⟨h2, rfl⟩ := h2
    refine k_gp rfl rfl trivial ?_
    refine k_brf rfl (by omega) ?_
    refine k_gp rfl rfl (by simp only [true_and, mm_fits]; omega) ?_
    exact ih _ ⟨by omega, arrw_s (by omega) (by omega) rfl⟩
  intro i w1 h1 h2
  obtain ⟨h2, rfl⟩ := h2
  have hi : i = 512 := by omega
  subst hi
  refine k_gp rfl rfl trivial ?_
  refine k_brt rfl (by omega) ?_
  refine k_gp rfl rfl trivial ?_
  have hsA : sm [(14, none)] w (arrw w 14 0 512 (fun _ => 0)) := sm_arrw sm_rf (by decide)
  refine mm_loop (σ := mm_M × Bool) 512 (fun i q => (0 ≤ i ∧ i ≤ 512) ∧ sm [(14, none)] w q.1 ∧ (∀ u, 0 ≤ u → u < 512 → (0 ≤ q.1 14 0 u ∧ q.1 14 0 u ≤ 1) ∧ (q.1 14 0 u ≠ 0 ↔ ∃ v, (0 ≤ v ∧ v < i) ∧ w 13 0 v ≠ 0 ∧ go_ (m_c w) (m_e w) x v = u ∧ 0 ≤ u ∧ w 11 0 (512 * m_e w x 1 + u) = s + 1)) ∧ (q.2 = true ↔ ∃ u, (0 ≤ u ∧ u < 512) ∧ q.1 14 0 u ≠ 0)) (fun i q => ∀ l5, mm_Wk K_X10_leads (0, 0) 30 [some (.inr (some (1, 0))), some (.inl x), some (.inl s), some (.inl (ib (q.2 = true))), some (.inl i), l5] [] (PH r y) q.1 (fun a b' w' => b' = PH r y ∧ sm [(14, none)] w w' ∧ (∀ u, 0 ≤ u → u < 512 → (0 ≤ w' 14 0 u ∧ w' 14 0 u ≤ 1) ∧ (w' 14 0 u ≠ 0 ↔ ls_on (m_c w) (m_e w) (w 13 0) (w 11 0) x s u)) ∧ ∃ z : Bool, a = some (.inl (ib (z = true))) ∧ (z = true ↔ ∃ u, (0 ≤ u ∧ u < 512) ∧ ls_on (m_c w) (m_e w) (w 13 0) (w 11 0) x s u))) ?_ ?_ 0 (arrw w 14 0 512 (fun _ => 0), false) ⟨by omega, hsA, fun u a b => ?_, ?_⟩ _
  · intro i q h1 h2 ih l5
    obtain ⟨w1, z⟩ := q
    obtain ⟨h2, hs, h3, h4⟩ := h2
    dsimp only at hs h3 h4 ⊢
    obtain ⟨hP1, ec, ee⟩ := mP_sm hs rfl (fun _ => rfl) (fun _ => rfl) (fun _ => rfl) h
    have e13 : w1 13 0 i = w 13 0 i := hs 13 0 i rfl
    have e11 : ∀ k, w1 11 0 k = w 11 0 k := fun k => hs 11 0 k rfl
    have e1 : w1 5 0 (7 * x + 1) = m_e w x 1 := by rw [← ee]; rfl
    have skip : ¬ (w 13 0 i ≠ 0 ∧ 0 ≤ go_ (m_c w) (m_e w) x i ∧ w 11 0 (512 * m_e w x 1 + go_ (m_c w) (m_e w) x i) = s + 1) → ∀ l5, mm_Wk K_X10_leads (0, 0) 105 [some (.inr (some (1, 0))), some (.inl x), some (.inl s), some (.inl (ib (z = true))), some (.inl i), l5] [] (PH r y) w1 (fun a b' w' => b' = PH r y ∧ sm [(14, none)] w w' ∧ (∀ u, 0 ≤ u → u < 512 → (0 ≤ w' 14 0 u ∧ w' 14 0 u ≤ 1) ∧ (w' 14 0 u ≠ 0 ↔ ls_on (m_c w) (m_e w) (w 13 0) (w 11 0) x s u)) ∧ ∃ z : Bool, a = some (.inl (ib (z = true))) ∧ (z = true ↔ ∃ u, (0 ≤ u ∧ u < 512) ∧ ls_on (m_c w) (m_e w) (w 13 0) (w 11 0) x s u)) := fun hn l5 => by
      refine k_gp rfl rfl (by simp only [true_and, mm_fits]; omega) ?_
      refine ih (w1, z) ⟨by omega, hs, fun u a b => ⟨(h3 u a b).1, (h3 u a b).2.trans ⟨fun ⟨v, v1, v2⟩ => ⟨v, by omega, v2⟩, fun ⟨v, v1, v2, v3, v4, v5⟩ => ?_⟩⟩, h4⟩ _
      by_cases hv : v = i
      · subst hv
        exact absurd ⟨v2, by rw [v3]; exact v4, by rw [v3]; exact v5⟩ hn
      · exact ⟨v, by omega, v2, v3, v4, v5⟩
    refine k_gp rfl rfl trivial ?_
    refine k_brf rfl (by omega) ?_
    refine k_gp rfl rfl (by simp only [true_and, mm_fits]; omega) ?_
    rw [e13]
    refine k_br rfl (fun g1 => ?_) (fun g1 => ?_)
    · refine k_gp rfl rfl trivial ?_
      refine k_gp rfl rfl trivial ?_
      refine k_brt rfl (by decide) ?_
      exact skip (fun q => q.1 g1) _
    · refine k_gp rfl rfl trivial ?_
      refine k_callp rfl (ev_m_goes (np := w 1 0 2) (nc := w 1 0 6) (nv := w 1 0 4) (by omega) (by omega) (by omega) (by omega) (by rw [ec]; exact h.2.2.2.2.2.1) (by rw [ee]; exact hE)) rfl rfl rfl (by decide) ?_
      rw [ec, ee]
      have hgo := go_in (c := m_c w) (all := i) (by omega) (by omega) hE
      refine k_gp rfl rfl trivial ?_
      refine k_gp rfl rfl trivial ?_
      refine k_br rfl (fun g2 => ?_) (fun g2 => ?_)
      · exact skip (fun q => by omega) _
      · refine k_gp rfl rfl (by simp only [true_and, mm_fits, e1]; omega) ?_
        rw [e1, e11]
        refine k_br rfl (fun g3 => ?_) (fun g3 => ?_)
        · exact skip (fun q => g3 q.2.2) _
        · have g3 : w 11 0 (512 * m_e w x 1 + go_ (m_c w) (m_e w) x i) = s + 1 := Classical.byContradiction g3
          refine k_gp rfl rfl (by simp only [true_and, mm_fits]; omega) ?_
          refine k_gp rfl rfl (by simp only [true_and, mm_fits]; omega) ?_
          have hsU : sm [(14, none)] w (mm_up w1 14 0 (go_ (m_c w) (m_e w) x i) 1) := sm_up hs (Or.inl (by decide))
          refine ih (mm_up w1 14 0 (go_ (m_c w) (m_e w) x i) 1, true) ⟨by omega, hsU, fun u a b => ?_, ?_⟩ _
          · dsimp only
            by_cases hu : u = go_ (m_c w) (m_e w) x i
            · subst hu
              rw [up_s]
              exact ⟨by omega, fun _ => ⟨i, by omega, g1, rfl, by omega, g3⟩, fun _ => by decide⟩
            · rw [up_k hu]
              refine ⟨(h3 u a b).1, (h3 u a b).2.trans ⟨fun ⟨v, v1, v2⟩ => ⟨v, by omega, v2⟩, fun ⟨v, v1, v2, v3, v4, v5⟩ => ?_⟩⟩
              by_cases hv : v = i
              · subst hv; exact absurd v3.symm hu
              · exact ⟨v, by omega, v2, v3, v4, v5⟩
          · exact ⟨fun _ => ⟨go_ (m_c w) (m_e w) x i, by omega, by dsimp only; rw [up_s]; decide⟩, fun _ => rfl⟩
  · intro i q h1 h2 l5
    obtain ⟨w1, z⟩ := q
    obtain ⟨h2, hs, h3, h4⟩ := h2
    dsimp only at hs h3 h4 ⊢
    have hi : i = 512 := by omega
    subst hi
    refine k_gp rfl rfl trivial ?_
    refine k_brt rfl (by omega) ?_
    refine k_gp rfl rfl trivial ?_
    refine k_ret rfl (ib_in _) ⟨rfl, hs, h3, z, rfl, h4.trans ⟨fun ⟨u, u1, u2⟩ => ⟨u, u1, (h3 u u1.1 u1.2).2.mp u2⟩, fun ⟨u, u1, u2⟩ => ⟨u, u1, (h3 u u1.1 u1.2).2.mpr u2⟩⟩⟩
  · dsimp only
    rw [arrw_in (by omega)]
    exact ⟨by omega, fun q => absurd rfl q, fun ⟨v, v1, _⟩ => by omega⟩
  · refine ⟨(fun q => by cases q), fun ⟨u, u1, u2⟩ => absurd ?_ u2⟩
    dsimp only
    rw [arrw_in (by omega)]
theorem Rch_place {c e : Int → Int → Int} {f : Int → Int} {nv ne : Int} {ρ : List Int} {x q np nc : Int} (hnp : np ≤ 8) (hnv : nv ≤ 3) (hE : ∀ x, 0 ≤ x → x < ne → eOK e x np nc nv) (h : RN c e f nv ne (ρ ++ [x]) q) : q / 512 = e x 1 := by
  obtain ⟨m, m1, m2, m3, m4⟩ := RN_snoc.mp h
  have := (Rch_in hnp hnv hE _ _ (RN_Rch m1)).1
  have := stp_in (c := c) this.1 hnp hnv (hE x m2.1 m2.2) (by rw [m3]; exact m4)
  rw [m3] at this
  exact this.2.1
abbrev runL : List (Nat × Option Int) := [(11, none), (12, none), (13, none), (14, none), (1, some 23)]
/-- the answer of run() -/
def RA (c e : Int → Int → Int) (f : Int → Int) (nv ne trap i z : Int) : Prop := (i < -1 → z = -1) ∧ (-1 ≤ i → ∃ D, RD (Rch c e f nv ne) trap D ∧ (i = -1 → z = D) ∧ (0 ≤ i → (D < 0 ∨ D ≤ i → z = -4) ∧ (i < D → ∃ ρ, RU c e f nv ne trap D.toNat ρ ∧ ρ[i.toNat]? = some z)))
theorem RA_u {c e : Int → Int → Int} {f : Int → Int} {nv ne trap i z z' : Int} (h : RA c e f nv ne trap i z) (h' : RA c e f nv ne trap i z') : z = z' := by
  by_cases hi : i < -1
  · rw [h.1 hi, h'.1 hi]
  · obtain ⟨D, d1, d2, d3⟩ := h.2 (by omega)
    obtain ⟨D', e1, e2, e3⟩ := h'.2 (by omega)
    have := RD_u d1 e1
    subst this
    by_cases h1 : i = -1
    · rw [d2 h1, e2 h1]
    · obtain ⟨d4, d5⟩ := d3 (by omega)
      obtain ⟨e4, e5⟩ := e3 (by omega)
      by_cases h2 : i < D
      · obtain ⟨ρ, r1, r2⟩ := d5 h2
        obtain ⟨σ, s1, s2⟩ := e5 h2
        rw [RU_u r1 s1, s2] at r2
        exact (Option.some.inj r2).symm
      · rw [d4 (by omega), e4 (by omega)]
theorem ev_m_run {i : Int} (h : mP w) : mm_Ev K_X10_run (0, 0) [.inr (some (1, 0)), .inl i] (PH r y) w (fun a b' w' => b' = PH r y ∧ sm runL w w' ∧ ∃ z, a = some (.inl z) ∧ RA (m_c w) (m_e w) (w 3 0) (w 1 0 4) (w 1 0 8) (w 1 0 3) i z) := by
  refine ev_intro ok_X10_run mo_X10_run (Nat.le_of_ble_eq_true rfl) (fun hrg has => ?_)
  have hnp := h.1
  have htr := h.2.1
  have hnv := h.2.2.1
  have hnc := h.2.2.2.1
  have hne := h.2.2.2.2.1
  have hE := h.2.2.2.2.2.2.1
  refine k_gp rfl rfl trivial ?_
  refine k_br rfl (fun g1 => ?_) (fun g1 => ?_)
  · refine k_gp rfl rfl trivial ?_
    refine k_call0 rfl (ev_m_spreads h) rfl rfl rfl (by decide) ?_
    rintro a b' w1 ⟨rfl, rfl, hs, hF⟩
    have ht1 : w1 1 0 3 = w 1 0 3 := hs 1 0 3 rfl
    refine k_gp rfl rfl trivial ?_
    rw [ht1]
    refine k_call0 rfl (ev_m_nearest (by omega) hF) rfl rfl rfl (by decide) ?_
    rintro a b' w2 ⟨⟨D, rfl, hD⟩, rfl, rfl⟩
    have hsr : sm runL w w2 := sm_w hs (by decide)
    have hDlt : D < 5000 := by
      rcases hD with ⟨q, -⟩ | ⟨q1, ⟨v, v1, v2⟩, q3⟩
      · omega
      · have f1 := (hF.2 _ _ v2).1
        have hin := (Rch_in (np := w 1 0 2) (nc := w 1 0 6) (by omega) (by omega) hE _ _ v2).1
        obtain ⟨j, j1, j2⟩ := hF.1.2.2.1 _ hin.1 hin.2 f1
        have j3 := hF.1.2.1 j j1.1 j1.2
        have := q3 v v1.1 v1.2 _ (by rw [← j2]; exact j3.2.2)
        have := hF.1.2.2.2.2.2
        have := cnt_le (fun q => decide (0 ≤ w2 11 0 q)) 4096
        omega
    have J33 : (i < 0 ∨ D < 0 ∨ D ≤ i) → ∀ l3 l4 l5 l6, mm_Wk K_X10_run (0, 0) 33 [some (.inr (some (1, 0))), some (.inl i), some (.inl D), l3, l4, l5, l6] [] (PH r y) w2 (fun a b' w' => b' = PH r y ∧ sm runL w w' ∧ ∃ z, a = some (.inl z) ∧ RA (m_c w) (m_e w) (w 3 0) (w 1 0 4) (w 1 0 8) (w 1 0 3) i z) := fun hc l3 l4 l5 l6 => by
      refine k_gp rfl rfl trivial ?_
      refine k_br rfl (fun g2 => ?_) (fun g2 => ?_)
      · refine k_gp rfl rfl trivial ?_
        exact k_ret rfl trivial ⟨rfl, hsr, -4, rfl, fun q => by omega, fun _ => ⟨D, hD, fun q => by omega, fun _ => ⟨fun _ => rfl, fun q => by omega⟩⟩⟩
      · refine k_gp rfl rfl trivial ?_
        exact k_ret rfl trivial ⟨rfl, hsr, D, rfl, fun q => by omega, fun _ => ⟨D, hD, fun _ => rfl, fun q => by omega⟩⟩
    refine k_gp rfl rfl trivial ?_
    refine k_br rfl (fun g2 => J33 (by omega) _ _ _ _) (fun g2 => ?_)
    refine k_gp rfl rfl trivial ?_
    refine k_br rfl (fun g3 => J33 (by omega) _ _ _ _) (fun g3 => ?_)
    refine k_gp rfl rfl trivial ?_
    refine k_br rfl (fun g4 => ?_) (fun g4 => J33 (by omega) _ _ _ _)
    -- the run itself
    obtain ⟨d1, ⟨v0, v1, v2⟩, d3⟩ : 0 ≤ D ∧ (∃ v, (0 ≤ v ∧ v < 512) ∧ mR w D.toNat (512 * w 1 0 3 + v)) ∧ ∀ v, 0 ≤ v → v < 512 → ∀ k : Nat, mR w k (512 * w 1 0 3 + v) → D ≤ k := hD.resolve_left (fun q => by omega)
    have hmin : ∀ k q, mR w k q → q / 512 = w 1 0 3 → D.toNat ≤ k := fun k q a b => by
      have := d3 (q % 512) (by omega) (by omega) k (by rw [show 512 * w 1 0 3 + q % 512 = q by omega]; exact a)
      omega
    refine k_gp rfl rfl trivial ?_
    refine k_call0 rfl (ev_m_prunes (w0 := w) (D := D) h hs hF (by omega) hmin) rfl rfl rfl (by decide) ?_
    rintro a b' w3 ⟨rfl, rfl, hs3, hP3⟩
    -- far, now
    have far1 : ∀ (s : Nat) (q : Int), 0 ≤ q → q < 4096 → (w3 11 0 q = s ↔ mR w s q ∧ mG w D.toNat s q) := fun s q a b => by
      constructor
      · intro hq
        have hc : 0 ≤ w2 11 0 q ∧ w2 11 0 q ≤ D ∧ mG w D.toNat (w2 11 0 q).toNat q := Classical.byContradiction fun z => by have := (hP3 q a b).2 z; omega
        have := (hP3 q a b).1 hc
        obtain ⟨j, j1, j2⟩ := hF.1.2.2.1 _ a b hc.1
        have j3 := (hF.1.2.1 j j1.1 j1.2).2.2
        rw [j2, show (w2 11 0 q).toNat = s by omega] at j3
        have j4 := hc.2.2
        rw [show (w2 11 0 q).toNat = s by omega] at j4
        exact ⟨j3, j4⟩
      · rintro ⟨r1, r2⟩
        obtain ⟨f1, f2⟩ := hF.2 _ _ r1
        obtain ⟨j, j1, j2⟩ := hF.1.2.2.1 _ a b f1
        have j3 := (hF.1.2.1 j j1.1 j1.2).2.2
        rw [j2] at j3
        have := Gd_far hmin r2 j3
        have hs : (w2 11 0 q).toNat = s := by omega
        have hsD : s ≤ D.toNat := by obtain ⟨τ, q', t1, -⟩ := r2; omega
        rw [(hP3 q a b).1 ⟨f1, by omega, by rw [hs]; exact r2⟩]
        omega
    have hs03 : sm runL w w3 := sm_tr hsr (sm_w hs3 (by decide))
    refine k_gp rfl rfl trivial ?_
    refine mm_loop (σ := mm_M) 512 (fun j w4 => (0 ≤ j ∧ j ≤ 512) ∧ w4 = arrw w3 13 0 j (fun v => ib (w3 11 0 v = 0))) (fun j w4 => mm_Wk K_X10_run (0, 0) 51 [some (.inr (some (1, 0))), some (.inl i), some (.inl D), some (.inl j), none, none, none] [] (PH r y) w4 (fun a b' w' => b' = PH r y ∧ sm runL w w' ∧ ∃ z, a = some (.inl z) ∧ RA (m_c w) (m_e w) (w 3 0) (w 1 0 4) (w 1 0 8) (w 1 0 3) i z)) ?_ ?_ 0 w3 ⟨by omega, arrw_0.symm⟩
    · intro j w4 h1 h2 ih
      obtain ⟨h2, rfl⟩ := h2
      have e11 : arrw w3 13 0 j (fun v => ib (w3 11 0 v = 0)) 11 0 j = w3 11 0 j := arrw_g rfl
      refine k_gp rfl rfl trivial ?_
      refine k_brf rfl (by omega) ?_
      refine k_gp rfl rfl (by simp only [true_and, mm_fits]; omega) ?_
      rw [e11]
      refine k_br rfl (fun g5 => ?_) (fun g5 => ?_)
      · refine k_gp rfl rfl trivial ?_
        refine k_gp rfl rfl (by simp only [true_and, mm_fits]; omega) ?_
        exact ih _ ⟨by omega, arrw_s (by omega) (by omega) (by rw [ib_f g5])⟩
      · refine k_gp rfl rfl trivial ?_
        refine k_gp rfl rfl (by simp only [true_and, mm_fits]; omega) ?_
        exact ih _ ⟨by omega, arrw_s (by omega) (by omega) (by rw [ib_t (Classical.byContradiction g5)])⟩
    intro j w4 h1 h2
    obtain ⟨h2, rfl⟩ := h2
    have hj : j = 512 := by omega
    subst hj
    refine k_gp rfl rfl trivial ?_
    refine k_brt rfl (by omega) ?_
    refine k_gp rfl rfl trivial ?_
    have hsA : sm [(13, none), (14, none)] w3 (arrw w3 13 0 512 (fun v => ib (w3 11 0 v = 0))) := sm_arrw sm_rf (by decide)
    refine mm_loop (σ := mm_M × List Int × Int × Int) (i + 1) (fun s q => (0 ≤ s ∧ s ≤ i + 1) ∧ sm [(13, none), (14, none)] w3 q.1 ∧ PX (m_c w) (m_e w) (w 3 0) (w 1 0 4) (w 1 0 8) (w 1 0 3) D.toNat s.toNat q.2.1 ∧ (0 ≤ q.2.2.1 ∧ q.2.2.1 < 8) ∧ (∀ z, RN (m_c w) (m_e w) (w 3 0) (w 1 0 4) (w 1 0 8) q.2.1 z → z / 512 = q.2.2.1) ∧ (∀ v, 0 ≤ v → v < 512 → (0 ≤ q.1 13 0 v ∧ q.1 13 0 v ≤ 1) ∧ (q.1 13 0 v ≠ 0 ↔ RN (m_c w) (m_e w) (w 3 0) (w 1 0 4) (w 1 0 8) q.2.1 (512 * q.2.2.1 + v) ∧ mG w D.toNat s.toNat (512 * q.2.2.1 + v))) ∧ (0 < s → q.2.1[(s - 1).toNat]? = some q.2.2.2)) (fun s q => ∀ l6, mm_Wk K_X10_run (0, 0) 93 [some (.inr (some (1, 0))), some (.inl i), some (.inl D), some (.inl q.2.2.1), some (.inl q.2.2.2), some (.inl s), l6] [] (PH r y) q.1 (fun a b' w' => b' = PH r y ∧ sm runL w w' ∧ ∃ z, a = some (.inl z) ∧ RA (m_c w) (m_e w) (w 3 0) (w 1 0 4) (w 1 0 8) (w 1 0 3) i z)) ?_ ?_ 0 (arrw w3 13 0 512 (fun v => ib (w3 11 0 v = 0)), [], 0, -4) ⟨by omega, hsA, PX_0 v2 (by omega), ⟨by dsimp only; omega, by dsimp only; omega⟩, fun z hz => ?_, fun v a b => ?_, fun q => by omega⟩ _
    · intro s q h1 h2 ih l6
      obtain ⟨w4, ρ, pl, by_⟩ := q
      obtain ⟨h2, hs4, hPX, hpl, hRp, hhere, -⟩ := h2
      dsimp only at hs4 hPX hpl hRp hhere ⊢
      have hs04 : sm runL w w4 := sm_tr hs03 (sm_w hs4 (by decide))
      obtain ⟨hP4, ec, ee⟩ := mP_sm hs04 rfl (fun _ => rfl) (fun _ => rfl) (fun _ => rfl) h
      have e11 : w4 11 0 = w3 11 0 := funext fun k => hs4 11 0 k rfl
      have hne4 : w4 1 0 8 = w 1 0 8 := hs04 1 0 8 rfl
      -- an edge leads on just if the run may go on by it
      have hon : ∀ x, 0 ≤ x → x < w 1 0 8 → m_e w x 0 = pl → ∀ u, 0 ≤ u → u < 512 → (ls_on (m_c w) (m_e w) (w4 13 0) (w3 11 0) x s u ↔ RN (m_c w) (m_e w) (w 3 0) (w 1 0 4) (w 1 0 8) (ρ ++ [x]) (512 * m_e w x 1 + u) ∧ mG w D.toNat (s.toNat + 1) (512 * m_e w x 1 + u)) := fun x x1 x2 x3 u u1 u2 => by
        have hB := (hE x x1 x2).2.1
        constructor
        · rintro ⟨v, a1, a2, a3, a4, a5⟩
          obtain ⟨b1, b2⟩ := (hhere v a1.1 a1.2).2.mp a2
          have hst : stp (m_c w) (m_e w) x (512 * pl + v) = 512 * m_e w x 1 + u := by
            unfold stp
            rw [show (512 * pl + v) % 512 = v by omega, show (512 * pl + v) / 512 = pl by omega, if_pos ⟨x3, by rw [a3]; exact a4⟩, a3]
          have := (far1 (s.toNat + 1) (512 * m_e w x 1 + u) (by omega) (by omega)).mp (by rw [a5]; omega)
          exact ⟨RN_snoc.mpr ⟨_, b1, ⟨x1, x2⟩, hst, by omega⟩, this.2⟩
        · rintro ⟨b1, b2⟩
          obtain ⟨m, m1, m2, m3, m4⟩ := RN_snoc.mp b1
          have hm := (Rch_in (np := w 1 0 2) (nc := w 1 0 6) (by omega) (by omega) hE _ _ (RN_Rch m1)).1
          have hmp := hRp m m1
          have hst := stp_in (c := m_c w) hm.1 (by omega) (by omega) (hE x x1 x2) (by rw [m3]; exact m4)
          rw [m3] at hst
          have hgm : mG w D.toNat s.toNat m := Gd_back (x := x) m2 (by rw [m3]; exact m4) (by rw [m3]; exact b2)
          refine ⟨m % 512, by omega, (hhere (m % 512) (by omega) (by omega)).2.mpr (by rw [show 512 * pl + m % 512 = m by omega]; exact ⟨m1, hgm⟩), by omega, u1, ?_⟩
          have hR : mR w (s.toNat + 1) (512 * m_e w x 1 + u) := by
            have := RN_Rch b1
            rw [List.length_append, hPX.1] at this
            exact this
          rw [(far1 (s.toNat + 1) (512 * m_e w x 1 + u) (by omega) (by omega)).mpr ⟨hR, b2⟩]
          omega
      -- there is such an edge
      obtain ⟨x0, x1, x2, x3⟩ : ∃ x0, (0 ≤ x0 ∧ x0 < w 1 0 8) ∧ (∃ m, RN (m_c w) (m_e w) (w 3 0) (w 1 0 4) (w 1 0 8) ρ m ∧ 0 ≤ stp (m_c w) (m_e w) x0 m ∧ mG w D.toNat (s.toNat + 1) (stp (m_c w) (m_e w) x0 m)) ∧ ∀ y, (0 ≤ y ∧ y < w 1 0 8) → (∃ m, RN (m_c w) (m_e w) (w 3 0) (w 1 0 4) (w 1 0 8) ρ m ∧ 0 ≤ stp (m_c w) (m_e w) y m ∧ mG w D.toNat (s.toNat + 1) (stp (m_c w) (m_e w) y m)) → x0 ≤ y := by
        obtain ⟨q, q1, q2⟩ := hPX.2.1
        obtain ⟨x, a1, a2, a3⟩ := Gd_step q2 (by omega)
        obtain ⟨z, z1, z2, z3⟩ := least_x (P := fun x => (0 ≤ x ∧ x < w 1 0 8) ∧ ∃ m, RN (m_c w) (m_e w) (w 3 0) (w 1 0 4) (w 1 0 8) ρ m ∧ 0 ≤ stp (m_c w) (m_e w) x m ∧ mG w D.toNat (s.toNat + 1) (stp (m_c w) (m_e w) x m)) a1.1 ⟨a1, q, q1, a2, a3⟩
        exact ⟨z, z2.1, z2.2, fun y y1 y2 => z3 y y1.1 ⟨y1, y2⟩⟩
      have hany : ∀ x, 0 ≤ x → x < w 1 0 8 → ((m_e w x 0 = pl ∧ ∃ u, (0 ≤ u ∧ u < 512) ∧ ls_on (m_c w) (m_e w) (w4 13 0) (w3 11 0) x s u) ↔ ∃ m, RN (m_c w) (m_e w) (w 3 0) (w 1 0 4) (w 1 0 8) ρ m ∧ 0 ≤ stp (m_c w) (m_e w) x m ∧ mG w D.toNat (s.toNat + 1) (stp (m_c w) (m_e w) x m)) := fun x a b => by
        have hB := (hE x a b).2.1
        constructor
        · rintro ⟨p1, u, u1, u2⟩
          obtain ⟨b1, b2⟩ := (hon x a b p1 u u1.1 u1.2).mp u2
          obtain ⟨m, m1, m2, m3, m4⟩ := RN_snoc.mp b1
          exact ⟨m, m1, by rw [m3]; exact m4, by rw [m3]; exact b2⟩
        · rintro ⟨m, m1, m2, m3⟩
          have hm := (Rch_in (np := w 1 0 2) (nc := w 1 0 6) (by omega) (by omega) hE _ _ (RN_Rch m1)).1
          have hst := stp_in (c := m_c w) hm.1 (by omega) (by omega) (hE x a b) m2
          have hmp := hRp m m1
          have hgo := go_in (c := m_c w) (all := m % 512) (by omega) (by omega) (hE x a b)
          have p1 : m_e w x 0 = pl := by omega
          refine ⟨p1, stp (m_c w) (m_e w) x m % 512, by omega, (hon x a b p1 _ (by omega) (by omega)).mpr ?_⟩
          rw [show 512 * m_e w x 1 + stp (m_c w) (m_e w) x m % 512 = stp (m_c w) (m_e w) x m by omega]
          exact ⟨RN_snoc.mpr ⟨m, m1, ⟨a, b⟩, rfl, m2⟩, m3⟩
      refine k_gp rfl rfl trivial ?_
      refine k_brf rfl (by omega) ?_
      refine k_gp rfl rfl trivial ?_
      have LB : ∀ (n : Nat) (b_ : Int) (w5 : mm_M), b_ + n = x0 → 0 ≤ b_ → sm [(14, none)] w4 w5 → ∀ l6, mm_Wk K_X10_run (0, 0) 102 [some (.inr (some (1, 0))), some (.inl i), some (.inl D), some (.inl pl), some (.inl b_), some (.inl s), l6] [] (PH r y) w5 (fun a b' w' => b' = PH r y ∧ sm runL w w' ∧ ∃ z, a = some (.inl z) ∧ RA (m_c w) (m_e w) (w 3 0) (w 1 0 4) (w 1 0 8) (w 1 0 3) i z) := by
        intro n
        induction n with
        | zero =>
          intro b_ w5 hb hb0 hs5 l6
          have hb : b_ = x0 := by omega
          subst hb
          have hs05 : sm runL w w5 := sm_tr hs04 (sm_w hs5 (by decide))
          obtain ⟨hP5, ec5, ee5⟩ := mP_sm hs05 rfl (fun _ => rfl) (fun _ => rfl) (fun _ => rfl) h
          have e0 : w5 5 0 (7 * b_) = m_e w b_ 0 := by rw [← ee5]; exact (m_e0 w5 b_).symm
          obtain ⟨p1, p2⟩ := (hany b_ x1.1 x1.2).mpr x2
          have f11 : w5 11 0 = w3 11 0 := by rw [← e11]; exact funext fun k => hs5 11 0 k rfl
          have f13 : w5 13 0 = w4 13 0 := funext fun k => hs5 13 0 k rfl
          refine k_gp rfl rfl (by simp only [true_and, mm_fits]; omega) ?_
          rw [e0]
          refine k_brf rfl (by omega) ?_
          refine k_gp rfl rfl trivial ?_
          refine k_call0 rfl (ev_m_leads hP5 (by rw [show w5 1 0 8 = w 1 0 8 from hs05 1 0 8 rfl]; exact x1) (by omega)) rfl rfl rfl (by decide) ?_
          rintro a b' w6 ⟨rfl, hs6, hth, z, rfl, hz⟩
          rw [ec5, ee5, f11, f13] at hth hz
          have hz1 : z = true := hz.mpr p2
          rw [hz1]
          refine k_brt rfl (by decide) ?_
          have hs06 : sm runL w w6 := sm_tr hs05 (sm_w hs6 (by decide))
          have e1 : w6 5 0 (7 * b_ + 1) = m_e w b_ 1 := by
            rw [hs06 5 0 _ rfl]; rfl
          refine k_gp rfl rfl (by simp only [true_and, mm_fits]; omega) ?_
          rw [e1]
          have hB := (hE b_ x1.1 x1.2).2.1
          refine mm_loop (σ := mm_M) 512 (fun j w7 => (0 ≤ j ∧ j ≤ 512) ∧ w7 = arrw w6 13 0 j (fun v => w6 14 0 v)) (fun j w7 => mm_Wk K_X10_run (0, 0) 149 [some (.inr (some (1, 0))), some (.inl i), some (.inl D), some (.inl (m_e w b_ 1)), some (.inl b_), some (.inl s), some (.inl j)] [] (PH r y) w7 (fun a b' w' => b' = PH r y ∧ sm runL w w' ∧ ∃ z, a = some (.inl z) ∧ RA (m_c w) (m_e w) (w 3 0) (w 1 0 4) (w 1 0 8) (w 1 0 3) i z)) ?_ ?_ 0 w6 ⟨by omega, arrw_0.symm⟩
          · intro j w7 j1 j2 ihj
            obtain ⟨j2, rfl⟩ := j2
            have e14 : arrw w6 13 0 j (fun v => w6 14 0 v) 14 0 j = w6 14 0 j := arrw_g rfl
            have hb01 := (hth j (by omega) (by omega)).1
            refine k_gp rfl rfl trivial ?_
            refine k_brf rfl (by omega) ?_
            refine k_gp rfl rfl (by simp only [true_and, mm_fits, e14]; omega) ?_
            exact ihj _ ⟨by omega, arrw_s (by omega) (by omega) e14⟩
          · intro j w7 j1 j2
            obtain ⟨j2, rfl⟩ := j2
            have hj : j = 512 := by omega
            subst hj
            refine k_gp rfl rfl trivial ?_
            refine k_brt rfl (by omega) ?_
            refine k_gp rfl rfl (by simp only [true_and, mm_fits]; omega) ?_
            have hPX2 := PX_step hPX (by omega) (by obtain ⟨m, m1, m2, m3⟩ := x2; exact ⟨m, m1, x1, m2, m3⟩) (fun y m a b d g => x3 y b ⟨m, a, d, g⟩)
            have hsU : sm [(13, none), (14, none)] w3 (arrw w6 13 0 512 (fun v => w6 14 0 v)) := sm_tr hs4 (sm_tr (sm_w hs5 (by decide)) (sm_tr (sm_w hs6 (by decide)) (sm_arrw sm_rf (by decide))))
            refine ih (arrw w6 13 0 512 (fun v => w6 14 0 v), ρ ++ [b_], m_e w b_ 1, b_) ⟨by omega, hsU, ?_, ⟨by dsimp only; omega, by dsimp only; omega⟩, fun z hz => Rch_place (np := w 1 0 2) (nc := w 1 0 6) (by omega) (by omega) hE hz, fun v a b => ?_, fun _ => ?_⟩ _
            · rw [show (s + 1).toNat = s.toNat + 1 by omega]; exact hPX2
            · dsimp only
              rw [arrw_in (by omega), show v - 0 = v by omega, show (s + 1).toNat = s.toNat + 1 by omega]
              obtain ⟨t1, t2⟩ := hth v a b
              exact ⟨t1, t2.trans (hon b_ x1.1 x1.2 p1 v a b)⟩
            · dsimp only
              rw [List.getElem?_append_right (by rw [hPX.1]; omega), hPX.1, show (s + 1 - 1).toNat - s.toNat = 0 by omega]
              rfl
        | succ n ihn =>
          intro b_ w5 hb hb0 hs5 l6
          have hs05 : sm runL w w5 := sm_tr hs04 (sm_w hs5 (by decide))
          obtain ⟨hP5, ec5, ee5⟩ := mP_sm hs05 rfl (fun _ => rfl) (fun _ => rfl) (fun _ => rfl) h
          have e0 : w5 5 0 (7 * b_) = m_e w b_ 0 := by rw [← ee5]; exact (m_e0 w5 b_).symm
          have f11 : w5 11 0 = w3 11 0 := by rw [← e11]; exact funext fun k => hs5 11 0 k rfl
          have f13 : w5 13 0 = w4 13 0 := funext fun k => hs5 13 0 k rfl
          have hno : ¬ (m_e w b_ 0 = pl ∧ ∃ u, (0 ≤ u ∧ u < 512) ∧ ls_on (m_c w) (m_e w) (w4 13 0) (w3 11 0) b_ s u) := fun q => by
            have := x3 b_ (by omega) ((hany b_ hb0 (by omega)).mp q)
            omega
          have nxt : ∀ w6, sm [(14, none)] w4 w6 → ∀ l6, mm_Wk K_X10_run (0, 0) 127 [some (.inr (some (1, 0))), some (.inl i), some (.inl D), some (.inl pl), some (.inl b_), some (.inl s), l6] [] (PH r y) w6 (fun a b' w' => b' = PH r y ∧ sm runL w w' ∧ ∃ z, a = some (.inl z) ∧ RA (m_c w) (m_e w) (w 3 0) (w 1 0 4) (w 1 0 8) (w 1 0 3) i z) := fun w6 hs6 l6 => by
            refine k_gp rfl rfl (by simp only [true_and, mm_fits]; omega) ?_
            exact ihn (b_ + 1) w6 (by omega) (by omega) hs6 _
          refine k_gp rfl rfl (by simp only [true_and, mm_fits]; omega) ?_
          rw [e0]
          refine k_br rfl (fun g5 => nxt w5 hs5 _) (fun g5 => ?_)
          have g5 : m_e w b_ 0 = pl := Classical.byContradiction g5
          refine k_gp rfl rfl trivial ?_
          refine k_call0 rfl (ev_m_leads hP5 (by rw [show w5 1 0 8 = w 1 0 8 from hs05 1 0 8 rfl]; omega) (by omega)) rfl rfl rfl (by decide) ?_
          rintro a b' w6 ⟨rfl, hs6, hth, z, rfl, hz⟩
          rw [ec5, ee5, f11, f13] at hz
          have hz1 : z = false := by
            cases z with
            | false => rfl
            | true => exact absurd ⟨g5, hz.mp rfl⟩ hno
          rw [hz1]
          refine k_brf rfl (by decide) ?_
          exact nxt w6 (sm_tr hs5 hs6) _
      exact LB x0.toNat 0 w4 (by omega) (by omega) sm_rf _
    · intro s q h1 h2 l6
      obtain ⟨w4, ρ, pl, by_⟩ := q
      obtain ⟨h2, hs4, hPX, hpl, hRp, hhere, hby⟩ := h2
      dsimp only at hs4 hPX hpl hRp hhere hby ⊢
      have hsi : s = i + 1 := by omega
      subst hsi
      refine k_gp rfl rfl trivial ?_
      refine k_brt rfl (by omega) ?_
      refine k_gp rfl rfl trivial ?_
      refine k_ret rfl trivial ⟨rfl, sm_tr hs03 (sm_w hs4 (by decide)), by_, rfl, fun q => by omega, fun _ => ⟨D, hD, fun q => by omega, fun _ => ⟨fun q => by omega, fun _ => ?_⟩⟩⟩
      obtain ⟨τ, hτ⟩ := PX_full (D.toNat - (i + 1).toNat) _ ρ (by omega) hPX
      refine ⟨ρ ++ τ, hτ, ?_⟩
      have hb := hby (by omega)
      rw [show (i + 1 - 1).toNat = i.toNat by omega] at hb
      rw [List.getElem?_append_left (List.getElem?_eq_some_iff.mp hb).1]
      exact hb
    · obtain ⟨q0, h0, h1⟩ := hz
      cases h1
      have := h0.1
      have := h0.2.1
      dsimp only
      omega
    · dsimp only
      rw [arrw_in (by omega), show v - 0 = v by omega]
      refine ⟨ib_in _, ?_⟩
      have := far1 0 v a (by omega)
      rw [show 512 * 0 + v = v by omega]
      constructor
      · intro q
        have q1 : w3 11 0 v = 0 := Classical.byContradiction fun z => q (ib_f z)
        obtain ⟨t1, t2⟩ := this.mp q1
        exact ⟨⟨v, t1, rfl⟩, t2⟩
      · rintro ⟨⟨q0, t1, t2⟩, t3⟩
        cases t2
        have q1 : w3 11 0 v = 0 := this.mpr ⟨t1, t3⟩
        rw [ib_t q1]
        decide
  · refine k_gp rfl rfl trivial ?_
    exact k_ret rfl trivial ⟨rfl, sm_rf, -1, rfl, fun _ => rfl, fun q => by omega⟩
end ME
end
section
/-! ===== what may be: the states, one behind the other ===== -/
theorem cub_in (c : Int → Int → Int) (nc L all : Int) (h : nc ≤ 8) : 0 ≤ cub c nc L all ∧ cub c nc L all < 256 := by
  unfold cub
  have h1 := bts_lt (fun g : Nat => decide (hb L g) && soB c g all) nc.toNat
  have h2 : 2 ^ nc.toNat ≤ 2 ^ 8 := Nat.pow_le_pow_right (by decide) (by omega)
  omega
/-- cubes of first values; cubes that one may become by an edge -/
def fcB (c : Int → Int → Int) (f : Int → Int) (lk : Int → Int) (nv nc u : Int) : Bool := (List.range 512).any fun all : Nat => fsB f nv all && decide (cub c nc (lk 0) all = u)
def nxB (c e : Int → Int → Int) (lk : Int → Int) (nv nc x cb u : Int) : Bool := (List.range 512).any fun all : Nat => (thB nv all && decide (cub c nc (lk (e x 0)) all = cb)) && (decide (0 ≤ go_ c e x all) && decide (cub c nc (lk (e x 1)) (go_ c e x all) = u))
theorem any_512 {p : Int → Bool} : ((List.range 512).any fun a : Nat => p a) = true ↔ ∃ a, (0 ≤ a ∧ a < 512) ∧ p a = true := by
  rw [List.any_eq_true]
  constructor
  · rintro ⟨n, h1, h2⟩
    exact ⟨n, ⟨by omega, by have := List.mem_range.mp h1; omega⟩, h2⟩
  · rintro ⟨a, h1, h2⟩
    exact ⟨a.toNat, List.mem_range.mpr (by omega), by rw [show ((a.toNat : Nat) : Int) = a by omega]; exact h2⟩
theorem fcB_iff {c : Int → Int → Int} {f lk : Int → Int} {nv nc u : Int} : fcB c f lk nv nc u = true ↔ ∃ a, (0 ≤ a ∧ a < 512) ∧ fsB f nv a = true ∧ cub c nc (lk 0) a = u := by
  unfold fcB
  rw [any_512 (p := fun a => fsB f nv a && decide (cub c nc (lk 0) a = u))]
  simp only [Bool.and_eq_true, decide_eq_true_eq]
theorem nxB_iff {c e : Int → Int → Int} {lk : Int → Int} {nv nc x cb u : Int} : nxB c e lk nv nc x cb u = true ↔ ∃ a, (0 ≤ a ∧ a < 512) ∧ (thB nv a = true ∧ cub c nc (lk (e x 0)) a = cb) ∧ 0 ≤ go_ c e x a ∧ cub c nc (lk (e x 1)) (go_ c e x a) = u := by
  unfold nxB
  rw [any_512 (p := fun all => (thB nv all && decide (cub c nc (lk (e x 0)) all = cb)) && (decide (0 ≤ go_ c e x all) && decide (cub c nc (lk (e x 1)) (go_ c e x all) = u)))]
  simp only [Bool.and_eq_true, decide_eq_true_eq]
/-- a state comes, if it has not yet -/
def inQ (Q : List (Int × Int)) (s : Int) : Bool := Q.any fun q => decide (q.1 = s)
def add1 (Q : List (Int × Int)) (s fr : Int) : List (Int × Int) := if inQ Q s = true then Q else Q ++ [(s, fr)]
def addC (Q : List (Int × Int)) (base : Int) (S : Int → Bool) (fr : Int) : Nat → List (Int × Int)
  | 0 => Q
  | n + 1 => if S n = true then add1 (addC Q base S fr n) (base + n) fr else addC Q base S fr n
def stQ (Q : List (Int × Int)) (k : Int) : Int := (Q.getD k.toNat (0, -1)).1
def frQ (Q : List (Int × Int)) (k : Int) : Int := (Q.getD k.toNat (0, -1)).2
def addX (c e : Int → Int → Int) (lk : Int → Int) (nv nc : Int) (Q : List (Int × Int)) (k : Int) : Nat → List (Int × Int)
  | 0 => Q
  | x + 1 => if e x 0 = stQ Q k / 256 then addC (addX c e lk nv nc Q k x) (256 * e x 1) (nxB c e lk nv nc x (stQ Q k % 256)) (16 * k + x) 256 else addX c e lk nv nc Q k x
def addK (c e : Int → Int → Int) (lk : Int → Int) (nv nc ne : Int) : Nat → Nat → List (Int × Int) → List (Int × Int)
  | 0, _, Q => Q
  | m + 1, k, Q => if k < Q.length then addK c e lk nv nc ne m (k + 1) (addX c e lk nv nc Q k ne.toNat) else Q
/-- all states that come -/
def MQ_ (c e : Int → Int → Int) (f lk : Int → Int) (nv nc ne : Int) : List (Int × Int) := addK c e lk nv nc ne 2049 0 (addC [] 0 (fcB c f lk nv nc) (-1) 256)
theorem add1_len {Q : List (Int × Int)} {s fr : Int} : Q.length ≤ (add1 Q s fr).length := by
  unfold add1
  split
  · exact Nat.le_refl _
  · simp
theorem addC_len {Q : List (Int × Int)} {b fr : Int} {S : Int → Bool} : ∀ n : Nat, Q.length ≤ (addC Q b S fr n).length := by
  intro n
  induction n with
  | zero => exact Nat.le_refl _
  | succ n ih =>
    show Q.length ≤ (if S n = true then add1 (addC Q b S fr n) (b + n) fr else addC Q b S fr n).length
    split
    · exact Nat.le_trans ih add1_len
    · exact ih
theorem add1_pre {Q : List (Int × Int)} {s fr : Int} : ∃ R, add1 Q s fr = Q ++ R := by
  unfold add1
  split
  · exact ⟨[], by simp⟩
  · exact ⟨_, rfl⟩
theorem addC_pre {Q : List (Int × Int)} {b fr : Int} {S : Int → Bool} : ∀ n : Nat, ∃ R, addC Q b S fr n = Q ++ R := by
  intro n
  induction n with
  | zero => exact ⟨[], by simp [addC]⟩
  | succ n ih =>
    obtain ⟨R, hR⟩ := ih
    show ∃ R, (if S n = true then add1 (addC Q b S fr n) (b + n) fr else addC Q b S fr n) = Q ++ R
    split
    · obtain ⟨R2, h2⟩ := add1_pre (Q := addC Q b S fr n) (s := b + n) (fr := fr)
      exact ⟨R ++ R2, by rw [h2, hR, List.append_assoc]⟩
    · exact ⟨R, hR⟩
theorem addX_pre {c e : Int → Int → Int} {lk : Int → Int} {nv nc : Int} {Q : List (Int × Int)} {k : Int} : ∀ n : Nat, ∃ R, addX c e lk nv nc Q k n = Q ++ R := by
  intro n
  induction n with
  | zero => exact ⟨[], by simp [addX]⟩
  | succ n ih =>
    obtain ⟨R, hR⟩ := ih
    show ∃ R, (if e n 0 = stQ Q k / 256 then addC (addX c e lk nv nc Q k n) (256 * e n 1) (nxB c e lk nv nc n (stQ Q k % 256)) (16 * k + n) 256 else addX c e lk nv nc Q k n) = Q ++ R
    split
    · obtain ⟨R2, h2⟩ := addC_pre (Q := addX c e lk nv nc Q k n) (b := 256 * e n 1) (S := nxB c e lk nv nc n (stQ Q k % 256)) (fr := 16 * k + n) 256
      exact ⟨R ++ R2, by rw [h2, hR, List.append_assoc]⟩
    · exact ⟨R, hR⟩
theorem stQ_app {Q R : List (Int × Int)} {k : Int} (h0 : 0 ≤ k) (h : k < Q.length) : stQ (Q ++ R) k = stQ Q k := by
  unfold stQ
  rw [List.getD_eq_getElem?_getD, List.getD_eq_getElem?_getD, List.getElem?_append_left (by omega)]
/-- the reference's memory holds these states -/
def QM (w : mm_M) (Q : List (Int × Int)) : Prop := w 1 0 29 = Q.length ∧ (∀ k : Int, 0 ≤ k → k < Q.length → w 15 0 k = stQ Q k ∧ w 16 0 k = (if frQ Q k < 0 then -4 else frQ Q k) ∧ (0 ≤ stQ Q k ∧ stQ Q k < 2048)) ∧ (∀ s, 0 ≤ s → s < 2048 → (0 ≤ w 17 0 s ∧ w 17 0 s ≤ 1) ∧ (w 17 0 s ≠ 0 ↔ inQ Q s = true)) ∧ (Q.length : Int) = ((cnt (fun s => decide (w 17 0 s ≠ 0)) 2048 : Nat) : Int)
theorem QM_le {w : mm_M} {Q : List (Int × Int)} (h : QM w Q) : Q.length ≤ 2048 := by
  have := h.2.2.2
  have := cnt_le (fun s => decide (w 17 0 s ≠ 0)) 2048
  omega
def comW (w : mm_M) (s fr : Int) : mm_M := if w 17 0 s ≠ 0 then w else mm_up (mm_up (mm_up (mm_up w 17 0 s 1) 15 0 (w 1 0 29) s) 16 0 (w 1 0 29) fr) 1 0 29 (w 1 0 29 + 1)
abbrev lksL : List (Nat × Option Int) := [(15, none), (16, none), (17, none), (18, none), (1, some 29)]
section ME
variable {r y : Bool} {w : mm_M}
theorem comW_sm {s fr : Int} : sm lksL w (comW w s fr) := by
  unfold comW
  split
  · exact sm_rf
  · exact sm_up (sm_up (sm_up (sm_up sm_rf (Or.inl (by decide))) (Or.inl (by decide))) (Or.inl (by decide))) (by decide)
theorem comW_18 {s fr k : Int} : comW w s fr 18 0 k = w 18 0 k := by
  unfold comW
  split
  · rfl
  · exact (up_g rfl).trans ((up_g rfl).trans ((up_g rfl).trans (up_g rfl)))
theorem QM_com {Q : List (Int × Int)} {s fr fr' : Int} (h : QM w Q) (hs : 0 ≤ s ∧ s < 2048) (hf : fr' = if fr < 0 then -4 else fr) : QM (comW w s fr') (add1 Q s fr) := by
  obtain ⟨h1, h2, h3, h4⟩ := h
  unfold comW add1
  by_cases hi : inQ Q s = true
  · rw [if_pos ((h3 s hs.1 hs.2).2.mpr hi), if_pos hi]
    exact ⟨h1, h2, h3, h4⟩
  · have hz : w 17 0 s = 0 := Classical.byContradiction fun q => hi ((h3 s hs.1 hs.2).2.mp q)
    rw [if_neg (by rw [hz]; decide), if_neg hi]
    have g17 : ∀ k, mm_up (mm_up (mm_up (mm_up w 17 0 s 1) 15 0 (w 1 0 29) s) 16 0 (w 1 0 29) fr') 1 0 29 (w 1 0 29 + 1) 17 0 k = if k = s then 1 else w 17 0 k := fun k => by rw [up_g rfl, up_g rfl, up_g rfl, up_at]
    have hlen : ((Q ++ [(s, fr)]).length : Int) = Q.length + 1 := by simp
    have hin : ∀ u, inQ (Q ++ [(s, fr)]) u = (inQ Q u || decide (s = u)) := fun u => by unfold inQ; rw [List.any_append]; simp
    refine ⟨?_, fun k a b => ?_, fun u a b => ?_, ?_⟩
    · rw [up_s, h1, hlen]
    · by_cases hk : k = Q.length
      · have e1 : stQ (Q ++ [(s, fr)]) k = s := by unfold stQ; rw [hk]; simp
        have e2 : frQ (Q ++ [(s, fr)]) k = fr := by unfold frQ; rw [hk]; simp
        rw [e1, e2, up_g rfl, up_g rfl, up_at, h1, if_pos hk, up_g rfl, up_at, if_pos hk]
        exact ⟨rfl, hf, hs⟩
      · have hk2 : k < Q.length := by omega
        have e1 : stQ (Q ++ [(s, fr)]) k = stQ Q k := stQ_app a hk2
        have e2 : frQ (Q ++ [(s, fr)]) k = frQ Q k := by
          unfold frQ
          rw [List.getD_eq_getElem?_getD, List.getD_eq_getElem?_getD, List.getElem?_append_left (by omega)]
        rw [e1, e2, up_g rfl, up_g rfl, up_at, h1, if_neg hk, up_g rfl, up_g rfl, up_at, if_neg hk, up_g rfl, up_g rfl]
        exact h2 k a hk2
    · rw [g17, hin]
      by_cases hu : u = s
      · rw [if_pos hu, hu]
        exact ⟨by omega, fun _ => by simp, fun _ => by decide⟩
      · rw [if_neg hu]
        refine ⟨(h3 u a b).1, (h3 u a b).2.trans ?_⟩
        rw [decide_eq_false (fun q => hu q.symm), Bool.or_false]
    · have := cnt_s (p := fun k => decide (w 17 0 k ≠ 0)) (p' := fun k => decide (mm_up (mm_up (mm_up (mm_up w 17 0 s 1) 15 0 (w 1 0 29) s) 16 0 (w 1 0 29) fr') 1 0 29 (w 1 0 29 + 1) 17 0 k ≠ 0)) (n := 2048) hs.1 (by omega) (decide_eq_false (by rw [hz]; decide)) (decide_eq_true (by rw [g17, if_pos rfl]; decide)) (fun j hj => by show decide _ = _; rw [g17, if_neg hj])
      rw [this, hlen]
      omega
theorem ev_m_comes {Q : List (Int × Int)} {s fr : Int} (h : QM w Q) (hs : 0 ≤ s ∧ s < 2048) : mm_Ev K_X10_comes (0, 0) [.inr (some (1, 0)), .inl s, .inl fr] (PH r y) w (mm_pe none (PH r y) (comW w s fr)) := by
  refine ev_intro ok_X10_comes mo_X10_comes (Nat.le_of_ble_eq_true rfl) (fun hrg has => ?_)
  have hl := QM_le h
  have h1 := h.1
  have h4 := h.2.2.2
  unfold comW
  refine k_gp rfl rfl (by simp only [true_and, mm_fits]; omega) ?_
  refine k_br rfl (fun g1 => ?_) (fun g1 => ?_)
  · rw [if_pos g1]
    repeat' (first
      | refine k_brt rfl (by decide) ?_
      | refine k_brf rfl (by decide) ?_
      | refine k_brz rfl (fun _ => ?_) (fun _ => ?_)
      | refine k_brn rfl (fun _ => ?_) (fun _ => ?_)
      | refine k_br rfl (fun _ => ?_) (fun _ => ?_)
      | refine k_ret rfl ?_ ⟨?_, rfl, rfl⟩
      | refine k_ts rfl rfl ?_ (fun _ => ?_)
      | refine mm_tsc (fun _ => ?_) ?_
      | exact mm_tsn
      | refine k_gp rfl rfl ?_ ?_)
    all_goals (first | trivial | omega | (simp only [true_and, mm_fits]; omega) | (refine congrArg some (congrArg Sum.inl ?_); first | rfl | (rw [ib_t (by omega)]) | (rw [ib_f (by omega)]) | omega))
  · rw [if_neg g1]
    have hlt : (cnt (fun s => decide (w 17 0 s ≠ 0)) 2048) < 2048 := cnt_lt hs.1 (by omega) (decide_eq_false g1)
    have e1 : ∀ k, mm_up w 17 0 s 1 1 0 k = w 1 0 k := fun k => up_g rfl
    have e2 : ∀ k, mm_up (mm_up w 17 0 s 1) 15 0 (w 1 0 29) s 1 0 k = w 1 0 k := fun k => (up_g rfl).trans (up_g rfl)
    have e3 : ∀ k, mm_up (mm_up (mm_up w 17 0 s 1) 15 0 (w 1 0 29) s) 16 0 (w 1 0 29) fr 1 0 k = w 1 0 k := fun k => (up_g rfl).trans ((up_g rfl).trans (up_g rfl))
    refine k_gp rfl rfl (by simp only [true_and, mm_fits, e1, e2, e3]; omega) ?_
    rw [e1, e2, e3]
    exact k_ret rfl trivial ⟨rfl, rfl, rfl⟩
theorem or0 {L : Int} (h : 0 ≤ L ∧ L < 256) : mm_or L 0 = L := by
  have := bb_or (x := L.toNat) (y := 0) (by omega) (by decide)
  rw [show ((L.toNat : Nat) : Int) = L by omega, show ((0 : Nat) : Int) = 0 from rfl, Nat.or_zero] at this
  rw [this]
  omega
theorem ev_m_becomes {x cb : Int} (h : mP w) (hx : 0 ≤ x ∧ x < w 1 0 8) : mm_Ev K_X10_becomes (0, 0) [.inr (some (1, 0)), .inl x, .inl cb] (PH r y) w (fun a b' w' => a = none ∧ b' = PH r y ∧ sm [(18, none)] w w' ∧ ∀ u, 0 ≤ u → u < 256 → (0 ≤ w' 18 0 u ∧ w' 18 0 u ≤ 1) ∧ (w' 18 0 u ≠ 0 ↔ nxB (m_c w) (m_e w) (w 6 0) (w 1 0 4) (w 1 0 6) x cb u = true)) := by
  refine ev_intro ok_X10_becomes mo_X10_becomes (Nat.le_of_ble_eq_true rfl) (fun hrg has => ?_)
  have hnp := h.1
  have hnv := h.2.2.1
  have hnc := h.2.2.2.1
  have hne := h.2.2.2.2.1
  have hE := h.2.2.2.2.2.2.1 x hx.1 hx.2
  have hA := hE.1
  have hB := hE.2.1
  refine k_gp rfl rfl trivial ?_
  refine mm_loop (σ := mm_M) 256 (fun i w1 => (0 ≤ i ∧ i ≤ 256) ∧ w1 = arrw w 18 0 i (fun _ => 0)) (fun i w1 => mm_Wk K_X10_becomes (0, 0) 2 [some (.inr (some (1, 0))), some (.inl x), some (.inl cb), some (.inl i), none] [] (PH r y) w1 (fun a b' w' => a = none ∧ b' = PH r y ∧ sm [(18, none)] w w' ∧ ∀ u, 0 ≤ u → u < 256 → (0 ≤ w' 18 0 u ∧ w' 18 0 u ≤ 1) ∧ (w' 18 0 u ≠ 0 ↔ nxB (m_c w) (m_e w) (w 6 0) (w 1 0 4) (w 1 0 6) x cb u = true))) ?_ ?_ 0 w ⟨by omega, arrw_0.symm⟩
  · intro i w1 h1 h2 ih
    obtain ⟨h2, rfl⟩ := h2
    refine k_gp rfl rfl trivial ?_
    refine k_brf rfl (by omega) ?_
    refine k_gp rfl rfl (by simp only [true_and, mm_fits]; omega) ?_
    exact ih _ ⟨by omega, arrw_s (by omega) (by omega) rfl⟩
  intro i w1 h1 h2
  obtain ⟨h2, rfl⟩ := h2
  have hi : i = 256 := by omega
  subst hi
  refine k_gp rfl rfl trivial ?_
  refine k_brt rfl (by omega) ?_
  refine k_gp rfl rfl trivial ?_
  have hsA : sm [(18, none)] w (arrw w 18 0 256 (fun _ => 0)) := sm_arrw sm_rf (by decide)
  refine mm_loop (σ := mm_M) 512 (fun i w1 => (0 ≤ i ∧ i ≤ 512) ∧ sm [(18, none)] w w1 ∧ ∀ u, 0 ≤ u → u < 256 → (0 ≤ w1 18 0 u ∧ w1 18 0 u ≤ 1) ∧ (w1 18 0 u ≠ 0 ↔ ∃ a, (0 ≤ a ∧ a < i) ∧ (thB (w 1 0 4) a = true ∧ cub (m_c w) (w 1 0 6) (w 6 0 (m_e w x 0)) a = cb) ∧ 0 ≤ go_ (m_c w) (m_e w) x a ∧ cub (m_c w) (w 1 0 6) (w 6 0 (m_e w x 1)) (go_ (m_c w) (m_e w) x a) = u)) (fun i w1 => ∀ l4, mm_Wk K_X10_becomes (0, 0) 24 [some (.inr (some (1, 0))), some (.inl x), some (.inl cb), some (.inl i), l4] [] (PH r y) w1 (fun a b' w' => a = none ∧ b' = PH r y ∧ sm [(18, none)] w w' ∧ ∀ u, 0 ≤ u → u < 256 → (0 ≤ w' 18 0 u ∧ w' 18 0 u ≤ 1) ∧ (w' 18 0 u ≠ 0 ↔ nxB (m_c w) (m_e w) (w 6 0) (w 1 0 4) (w 1 0 6) x cb u = true))) ?_ ?_ 0 (arrw w 18 0 256 (fun _ => 0)) ⟨by omega, hsA, fun u a b => ?_⟩ _
  · intro i w1 h1 h2 ih l4
    obtain ⟨h2, hs, h3⟩ := h2
    obtain ⟨hP1, ec, ee⟩ := mP_sm hs rfl (fun _ => rfl) (fun _ => rfl) (fun _ => rfl) h
    have e4 : w1 1 0 4 = w 1 0 4 := hs 1 0 4 rfl
    have e6 : w1 1 0 6 = w 1 0 6 := hs 1 0 6 rfl
    have ek : ∀ p, w1 6 0 p = w 6 0 p := fun p => hs 6 0 p rfl
    have e0 : w1 5 0 (7 * x) = m_e w x 0 := by rw [← ee]; exact (m_e0 w1 x).symm
    have e1 : w1 5 0 (7 * x + 1) = m_e w x 1 := by rw [← ee]; rfl
    have kA := mP_255 h (p := m_e w x 0) hA.1 (by omega)
    have kB := mP_255 h (p := m_e w x 1) hB.1 (by omega)
    have skip : ¬ ((thB (w 1 0 4) i = true ∧ cub (m_c w) (w 1 0 6) (w 6 0 (m_e w x 0)) i = cb) ∧ 0 ≤ go_ (m_c w) (m_e w) x i) → ∀ l4, mm_Wk K_X10_becomes (0, 0) 95 [some (.inr (some (1, 0))), some (.inl x), some (.inl cb), some (.inl i), l4] [] (PH r y) w1 (fun a b' w' => a = none ∧ b' = PH r y ∧ sm [(18, none)] w w' ∧ ∀ u, 0 ≤ u → u < 256 → (0 ≤ w' 18 0 u ∧ w' 18 0 u ≤ 1) ∧ (w' 18 0 u ≠ 0 ↔ nxB (m_c w) (m_e w) (w 6 0) (w 1 0 4) (w 1 0 6) x cb u = true)) := fun hn l4 => by
      refine k_gp rfl rfl (by simp only [true_and, mm_fits]; omega) ?_
      refine ih w1 ⟨by omega, hs, fun u a b => ⟨(h3 u a b).1, (h3 u a b).2.trans ⟨fun ⟨v, v1, v2⟩ => ⟨v, by omega, v2⟩, fun ⟨v, v1, v2, v3, v4⟩ => ?_⟩⟩⟩ _
      by_cases hv : v = i
      · subst hv; exact absurd ⟨v2, v3⟩ hn
      · exact ⟨v, by omega, v2, v3, v4⟩
    refine k_gp rfl rfl trivial ?_
    refine k_brf rfl (by omega) ?_
    refine k_gp rfl rfl trivial ?_
    refine k_callp rfl (ev_m_isThere (by omega)) rfl rfl rfl (by decide) ?_
    rw [e4]
    refine k_brz rfl (fun g1 => skip (fun q => g1 q.1.1) _) (fun g1 => ?_)
    refine k_gp rfl rfl (by simp only [true_and, mm_fits]; omega) ?_
    rw [e0]
    refine k_callp rfl (ev_m_cube (by omega) (by omega) (by rw [e4]; omega) (by rw [e6]; exact hnc) (by rw [ec, e4, e6]; exact h.2.2.2.2.2.1) (by rw [ek, or0 kA]; exact kA.1)) rfl rfl rfl (by decide) ?_
    rw [ec, e6, ek, or0 kA]
    refine k_gp rfl rfl trivial ?_
    refine k_br rfl (fun g2 => skip (fun q => g2 q.1.2) _) (fun g2 => ?_)
    have g2 : cub (m_c w) (w 1 0 6) (w 6 0 (m_e w x 0)) i = cb := Classical.byContradiction g2
    refine k_gp rfl rfl trivial ?_
    refine k_callp rfl (ev_m_goes (np := w 1 0 2) (nc := w 1 0 6) (nv := w 1 0 4) (by omega) (by omega) (by omega) (by omega) (by rw [ec]; exact h.2.2.2.2.2.1) (by rw [ee]; exact hE)) rfl rfl rfl (by decide) ?_
    rw [ec, ee]
    have hgo := go_in (c := m_c w) (all := i) (by omega) (by omega) hE
    refine k_gp rfl rfl trivial ?_
    refine k_br rfl (fun g3 => skip (fun q => by omega) _) (fun g3 => ?_)
    refine k_gp rfl rfl (by simp only [true_and, mm_fits]; omega) ?_
    rw [e1]
    refine k_callp rfl (ev_m_cube (by omega) (by omega) (by rw [e4]; omega) (by rw [e6]; exact hnc) (by rw [ec, e4, e6]; exact h.2.2.2.2.2.1) (by rw [ek, or0 kB]; exact kB.1)) rfl rfl rfl (by decide) ?_
    rw [ec, e6, ek, or0 kB]
    have hcu := cub_in (m_c w) (w 1 0 6) (w 6 0 (m_e w x 1)) (go_ (m_c w) (m_e w) x i) (by omega)
    refine k_gp rfl rfl (by simp only [true_and, mm_fits]; omega) ?_
    refine k_gp rfl rfl (by simp only [true_and, mm_fits]; omega) ?_
    refine ih _ ⟨by omega, sm_up hs (Or.inl (by decide)), fun u a b => ?_⟩ _
    by_cases hu : u = cub (m_c w) (w 1 0 6) (w 6 0 (m_e w x 1)) (go_ (m_c w) (m_e w) x i)
    · subst hu
      rw [up_s]
      exact ⟨by omega, fun _ => ⟨i, by omega, ⟨g1, g2⟩, by omega, rfl⟩, fun _ => by decide⟩
    · rw [up_k hu]
      refine ⟨(h3 u a b).1, (h3 u a b).2.trans ⟨fun ⟨v, v1, v2⟩ => ⟨v, by omega, v2⟩, fun ⟨v, v1, v2, v3, v4⟩ => ?_⟩⟩
      by_cases hv : v = i
      · subst hv; exact absurd v4.symm hu
      · exact ⟨v, by omega, v2, v3, v4⟩
  · intro i w1 h1 h2 l4
    obtain ⟨h2, hs, h3⟩ := h2
    have hi : i = 512 := by omega
    subst hi
    refine k_gp rfl rfl trivial ?_
    refine k_brt rfl (by omega) ?_
    refine k_ret rfl trivial ⟨rfl, rfl, hs, fun u a b => ⟨(h3 u a b).1, (h3 u a b).2.trans nxB_iff.symm⟩⟩
  · rw [arrw_in (by omega)]
    exact ⟨by omega, fun q => absurd rfl q, fun ⟨v, v1, _⟩ => by omega⟩
end ME
end
section
/-! ===== the reference: looks() and what tells of it ===== -/
abbrev mQ (w : mm_M) : List (Int × Int) := MQ_ (m_c w) (m_e w) (w 3 0) (w 6 0) (w 1 0 4) (w 1 0 6) (w 1 0 8)
section ME
variable {r y : Bool} {w : mm_M}
theorem ev_m_looks (h : mP w) : mm_Ev K_X10_looks (0, 0) [.inr (some (1, 0))] (PH r y) w (fun a b' w' => a = none ∧ b' = PH r y ∧ sm lksL w w' ∧ QM w' (mQ w)) := by
  refine ev_intro ok_X10_looks mo_X10_looks (Nat.le_of_ble_eq_true rfl) (fun hrg has => ?_)
  have hnp := h.1
  have hnv := h.2.2.1
  have hnc := h.2.2.2.1
  have hne := h.2.2.2.2.1
  have hE := h.2.2.2.2.2.2.1
  refine k_gp rfl rfl trivial ?_
  -- none has come
  refine mm_loop (σ := mm_M) 2048 (fun i w1 => (0 ≤ i ∧ i ≤ 2048) ∧ w1 = arrw (mm_up w 1 0 29 0) 17 0 i (fun _ => 0)) (fun i w1 => mm_Wk K_X10_looks (0, 0) 7 [some (.inr (some (1, 0))), some (.inl i), none, none] [] (PH r y) w1 (fun a b' w' => a = none ∧ b' = PH r y ∧ sm lksL w w' ∧ QM w' (mQ w))) ?_ ?_ 0 _ ⟨by omega, arrw_0.symm⟩
  · intro i w1 h1 h2 ih
    obtain ⟨h2, rfl⟩ := h2
    refine k_gp rfl rfl trivial ?_
    refine k_brf rfl (by omega) ?_
    refine k_gp rfl rfl (by simp only [true_and, mm_fits]; omega) ?_
    exact ih _ ⟨by omega, arrw_s (by omega) (by omega) rfl⟩
  intro i w1 h1 h2
  obtain ⟨h2, rfl⟩ := h2
  have hi : i = 2048 := by omega
  subst hi
  refine k_gp rfl rfl trivial ?_
  refine k_brt rfl (by omega) ?_
  refine k_gp rfl rfl trivial ?_
  generalize hwA : arrw (mm_up w 1 0 29 0) 17 0 2048 (fun _ => 0) = wA
  have hsA : sm lksL w wA := by rw [← hwA]; exact sm_arrw (sm_up sm_rf (by decide)) (by decide)
  have hQA : QM wA [] := by
    rw [← hwA]
    have e17 : ∀ s, 0 ≤ s → s < 2048 → arrw (mm_up w 1 0 29 0) 17 0 2048 (fun _ => 0) 17 0 s = 0 := fun s a b => by rw [arrw_in (by omega)]
    refine ⟨(arrw_g rfl).trans up_s, fun k a b => by simp at b; omega, fun s a b => ?_, ?_⟩
    · rw [e17 s a b]
      exact ⟨by omega, fun q => absurd rfl q, fun q => by cases q⟩
    · rw [cnt_0 (fun s a b => decide_eq_false (by rw [e17 s a (by omega)]; decide))]
      rfl
  clear hwA
  -- cubes of first values
  refine mm_loop (σ := mm_M) 256 (fun i w1 => (0 ≤ i ∧ i ≤ 256) ∧ w1 = arrw wA 18 0 i (fun _ => 0)) (fun i w1 => mm_Wk K_X10_looks (0, 0) 29 [some (.inr (some (1, 0))), some (.inl i), none, none] [] (PH r y) w1 (fun a b' w' => a = none ∧ b' = PH r y ∧ sm lksL w w' ∧ QM w' (mQ w))) ?_ ?_ 0 _ ⟨by omega, arrw_0.symm⟩
  · intro i w1 h1 h2 ih
    obtain ⟨h2, rfl⟩ := h2
    refine k_gp rfl rfl trivial ?_
    refine k_brf rfl (by omega) ?_
    refine k_gp rfl rfl (by simp only [true_and, mm_fits]; omega) ?_
    exact ih _ ⟨by omega, arrw_s (by omega) (by omega) rfl⟩
  intro i w1 h1 h2
  obtain ⟨h2, rfl⟩ := h2
  have hi : i = 256 := by omega
  subst hi
  refine k_gp rfl rfl trivial ?_
  refine k_brt rfl (by omega) ?_
  refine k_gp rfl rfl trivial ?_
  have QM_18 : ∀ {w1 w2 : mm_M} {Q : List (Int × Int)}, sm [(18, none)] w1 w2 → QM w1 Q → QM w2 Q := fun {w1 w2 Q} s q => by
    unfold QM
    have e17 : w2 17 0 = w1 17 0 := funext fun k => s 17 0 k rfl
    rw [s 1 0 29 rfl, e17]
    refine ⟨q.1, fun k a b => ?_, q.2.2.1, q.2.2.2⟩
    rw [s 15 0 k rfl, s 16 0 k rfl]
    exact q.2.1 k a b
  have hsB : sm [(18, none)] wA (arrw wA 18 0 256 (fun _ => 0)) := sm_arrw sm_rf (by decide)
  refine mm_loop (σ := mm_M) 512 (fun i w1 => (0 ≤ i ∧ i ≤ 512) ∧ sm [(18, none)] wA w1 ∧ ∀ u, 0 ≤ u → u < 256 → (0 ≤ w1 18 0 u ∧ w1 18 0 u ≤ 1) ∧ (w1 18 0 u ≠ 0 ↔ ∃ a, (0 ≤ a ∧ a < i) ∧ fsB (w 3 0) (w 1 0 4) a = true ∧ cub (m_c w) (w 1 0 6) (w 6 0 0) a = u)) (fun i w1 => mm_Wk K_X10_looks (0, 0) 51 [some (.inr (some (1, 0))), some (.inl i), none, none] [] (PH r y) w1 (fun a b' w' => a = none ∧ b' = PH r y ∧ sm lksL w w' ∧ QM w' (mQ w))) ?_ ?_ 0 (arrw wA 18 0 256 (fun _ => 0)) ⟨by omega, hsB, fun u a b => ?_⟩
  · intro i w1 h1 h2 ih
    obtain ⟨h2, hs1, h3⟩ := h2
    have hs : sm lksL w w1 := sm_tr hsA (sm_w hs1 (by decide))
    obtain ⟨hP1, ec, ee⟩ := mP_sm hs rfl (fun _ => rfl) (fun _ => rfl) (fun _ => rfl) h
    have e4 : w1 1 0 4 = w 1 0 4 := hs 1 0 4 rfl
    have e6 : w1 1 0 6 = w 1 0 6 := hs 1 0 6 rfl
    have e3 : w1 3 0 = w 3 0 := funext fun k => hs 3 0 k rfl
    have ek : w1 6 0 0 = w 6 0 0 := hs 6 0 0 rfl
    have kA := mP_255 h (p := 0) (by omega) (by omega)
    refine k_gp rfl rfl trivial ?_
    refine k_brf rfl (by omega) ?_
    refine k_gp rfl rfl trivial ?_
    refine k_callp rfl (ev_m_isFirst (by omega) (by rw [e4]; exact hnv)) rfl rfl rfl (by decide) ?_
    rw [e4, e3]
    refine k_brz rfl (fun g1 => ?_) (fun g1 => ?_)
    · refine k_gp rfl rfl (by simp only [true_and, mm_fits]; omega) ?_
      refine ih w1 ⟨by omega, hs1, fun u a b => ⟨(h3 u a b).1, (h3 u a b).2.trans ⟨fun ⟨v, v1, v2⟩ => ⟨v, by omega, v2⟩, fun ⟨v, v1, v2, v3⟩ => ?_⟩⟩⟩
      by_cases hv : v = i
      · subst hv; exact absurd v2 g1
      · exact ⟨v, by omega, v2, v3⟩
    · refine k_gp rfl rfl trivial ?_
      refine k_callp rfl (ev_m_cube (by omega) (by omega) (by rw [e4]; omega) (by rw [e6]; exact hnc) (by rw [ec, e4, e6]; exact h.2.2.2.2.2.1) (by rw [ek, or0 kA]; exact kA.1)) rfl rfl rfl (by decide) ?_
      rw [ec, e6, ek, or0 kA]
      have hcu := cub_in (m_c w) (w 1 0 6) (w 6 0 0) i (by omega)
      refine k_gp rfl rfl (by simp only [true_and, mm_fits]; omega) ?_
      refine k_gp rfl rfl (by simp only [true_and, mm_fits]; omega) ?_
      refine ih _ ⟨by omega, sm_up hs1 (Or.inl (by decide)), fun u a b => ?_⟩
      by_cases hu : u = cub (m_c w) (w 1 0 6) (w 6 0 0) i
      · subst hu
        rw [up_s]
        exact ⟨by omega, fun _ => ⟨i, by omega, g1, rfl⟩, fun _ => by decide⟩
      · rw [up_k hu]
        refine ⟨(h3 u a b).1, (h3 u a b).2.trans ⟨fun ⟨v, v1, v2⟩ => ⟨v, by omega, v2⟩, fun ⟨v, v1, v2, v3⟩ => ?_⟩⟩
        by_cases hv : v = i
        · subst hv; exact absurd v3.symm hu
        · exact ⟨v, by omega, v2, v3⟩
  · intro i w1 h1 h2
    obtain ⟨h2, hs1, h3⟩ := h2
    have hi : i = 512 := by omega
    subst hi
    have hQ1 := QM_18 hs1 hQA
    have hsw : sm lksL w w1 := sm_tr hsA (sm_w hs1 (by decide))
    have h3' : ∀ u, 0 ≤ u → u < 256 → (w1 18 0 u ≠ 0 ↔ fcB (m_c w) (w 3 0) (w 6 0) (w 1 0 4) (w 1 0 6) u = true) := fun u a b => (h3 u a b).2.trans fcB_iff.symm
    refine k_gp rfl rfl trivial ?_
    refine k_brt rfl (by omega) ?_
    refine k_gp rfl rfl trivial ?_
    -- they come
    refine mm_loop (σ := mm_M) 256 (fun j w2 => (0 ≤ j ∧ j ≤ 256) ∧ sm lksL w w2 ∧ (∀ u, w2 18 0 u = w1 18 0 u) ∧ QM w2 (addC [] 0 (fcB (m_c w) (w 3 0) (w 6 0) (w 1 0 4) (w 1 0 6)) (-1) j.toNat)) (fun j w2 => mm_Wk K_X10_looks (0, 0) 87 [some (.inr (some (1, 0))), some (.inl j), none, none] [] (PH r y) w2 (fun a b' w' => a = none ∧ b' = PH r y ∧ sm lksL w w' ∧ QM w' (mQ w))) ?_ ?_ 0 w1 ⟨by omega, hsw, fun _ => rfl, hQ1⟩
    · intro j w2 j1 j2 ih
      obtain ⟨j2, hs2, h18, hQ2⟩ := j2
      have eC : addC [] 0 (fcB (m_c w) (w 3 0) (w 6 0) (w 1 0 4) (w 1 0 6)) (-1) (j + 1).toNat = if fcB (m_c w) (w 3 0) (w 6 0) (w 1 0 4) (w 1 0 6) j = true then add1 (addC [] 0 (fcB (m_c w) (w 3 0) (w 6 0) (w 1 0 4) (w 1 0 6)) (-1) j.toNat) j (-1) else addC [] 0 (fcB (m_c w) (w 3 0) (w 6 0) (w 1 0 4) (w 1 0 6)) (-1) j.toNat := by
        rw [show (j + 1).toNat = j.toNat + 1 by omega]
        show (if fcB (m_c w) (w 3 0) (w 6 0) (w 1 0 4) (w 1 0 6) ((j.toNat : Nat) : Int) = true then add1 _ (0 + ((j.toNat : Nat) : Int)) (-1) else _) = _
        rw [show ((j.toNat : Nat) : Int) = j by omega, Int.zero_add]
      refine k_gp rfl rfl trivial ?_
      refine k_brf rfl (by omega) ?_
      refine k_gp rfl rfl (by simp only [true_and, mm_fits]; omega) ?_
      rw [h18]
      refine k_br rfl (fun g1 => ?_) (fun g1 => ?_)
      · refine k_gp rfl rfl (by simp only [true_and, mm_fits]; omega) ?_
        exact ih w2 ⟨by omega, hs2, h18, by rw [eC, if_neg (fun q => (h3' j (by omega) (by omega)).mpr q g1)]; exact hQ2⟩
      · refine k_gp rfl rfl trivial ?_
        refine k_callp rfl (ev_m_comes hQ2 (by omega)) rfl rfl rfl (by decide) ?_
        refine k_gp rfl rfl (by simp only [true_and, mm_fits]; omega) ?_
        exact ih _ ⟨by omega, sm_tr hs2 comW_sm, fun u => comW_18.trans (h18 u), by rw [eC, if_pos ((h3' j (by omega) (by omega)).mp g1)]; exact QM_com hQ2 (by omega) rfl⟩
    · intro j w2 j1 j2
      obtain ⟨j2, hs2, h18, hQ2⟩ := j2
      have hj : j = 256 := by omega
      subst hj
      refine k_gp rfl rfl trivial ?_
      refine k_brt rfl (by omega) ?_
      refine k_gp rfl rfl trivial ?_
      clear h3 h3' h18 hQ1 hsw hs1 hQA hsA hsB
      -- one behind the other
      have LP : ∀ (m k : Nat) (Q : List (Int × Int)) (w3 : mm_M), k + m = 2049 → k ≤ Q.length → sm lksL w w3 → QM w3 Q → addK (m_c w) (m_e w) (w 6 0) (w 1 0 4) (w 1 0 6) (w 1 0 8) m k Q = mQ w → ∀ l2 l3, mm_Wk K_X10_looks (0, 0) 118 [some (.inr (some (1, 0))), some (.inl (k : Int)), l2, l3] [] (PH r y) w3 (fun a b' w' => a = none ∧ b' = PH r y ∧ sm lksL w w' ∧ QM w' (mQ w)) := by
        intro m
        induction m with
        | zero =>
          intro k Q w3 hk hkl hs3 hQ3 heq l2 l3
          have := QM_le hQ3
          omega
        | succ m ihm =>
          intro k Q w3 hk hkl hs3 hQ3 heq l2 l3
          have hl3 := QM_le hQ3
          have hm3 := hQ3.1
          have heq0 : addK (m_c w) (m_e w) (w 6 0) (w 1 0 4) (w 1 0 6) (w 1 0 8) (m + 1) k Q = if k < Q.length then addK (m_c w) (m_e w) (w 6 0) (w 1 0 4) (w 1 0 6) (w 1 0 8) m (k + 1) (addX (m_c w) (m_e w) (w 6 0) (w 1 0 4) (w 1 0 6) Q k (w 1 0 8).toNat) else Q := rfl
          rw [heq0] at heq
          refine k_gp rfl rfl trivial ?_
          refine k_br rfl (fun g1 => ?_) (fun g1 => ?_)
          · rw [if_neg (by omega)] at heq
            rw [heq] at hQ3
            exact k_ret rfl trivial ⟨rfl, rfl, hs3, hQ3⟩
          · have hkQ : k < Q.length := by omega
            rw [if_pos hkQ] at heq
            obtain ⟨s1, s2, s3⟩ := hQ3.2.1 k (by omega) (by omega)
            refine k_gp rfl rfl trivial ?_
            refine mm_loop (σ := mm_M) (w 1 0 8) (fun x w4 => (0 ≤ x ∧ x ≤ w 1 0 8) ∧ sm lksL w w4 ∧ QM w4 (addX (m_c w) (m_e w) (w 6 0) (w 1 0 4) (w 1 0 6) Q k x.toNat)) (fun x w4 => ∀ l3, mm_Wk K_X10_looks (0, 0) 128 [some (.inr (some (1, 0))), some (.inl (k : Int)), some (.inl x), l3] [] (PH r y) w4 (fun a b' w' => a = none ∧ b' = PH r y ∧ sm lksL w w' ∧ QM w' (mQ w))) ?_ ?_ 0 w3 ⟨by omega, hs3, hQ3⟩ _
            · intro x w4 x1 x2 ihx l3
              obtain ⟨x2, hs4, hQ4⟩ := x2
              obtain ⟨hP4, ec, ee⟩ := mP_sm hs4 rfl (fun _ => rfl) (fun _ => rfl) (fun _ => rfl) h
              have e4 : w4 1 0 4 = w 1 0 4 := hs4 1 0 4 rfl
              have e6 : w4 1 0 6 = w 1 0 6 := hs4 1 0 6 rfl
              have e8 : w4 1 0 8 = w 1 0 8 := hs4 1 0 8 rfl
              have ek : w4 6 0 = w 6 0 := funext fun p => hs4 6 0 p rfl
              have e0 : w4 5 0 (7 * x) = m_e w x 0 := by rw [← ee]; exact (m_e0 w4 x).symm
              have hEx := hE x (by omega) (by omega)
              have hA := hEx.1
              have hB := hEx.2.1
              obtain ⟨R, hR⟩ := addX_pre (c := m_c w) (e := m_e w) (lk := w 6 0) (nv := w 1 0 4) (nc := w 1 0 6) (Q := Q) (k := (k : Int)) x.toNat
              have hst : w4 15 0 (k : Int) = stQ Q k := by
                rw [(hQ4.2.1 k (by omega) (by rw [hR]; simp; omega)).1, hR, stQ_app (by omega) (by omega)]
              have eX : addX (m_c w) (m_e w) (w 6 0) (w 1 0 4) (w 1 0 6) Q k (x + 1).toNat = if m_e w x 0 = stQ Q k / 256 then addC (addX (m_c w) (m_e w) (w 6 0) (w 1 0 4) (w 1 0 6) Q k x.toNat) (256 * m_e w x 1) (nxB (m_c w) (m_e w) (w 6 0) (w 1 0 4) (w 1 0 6) x (stQ Q k % 256)) (16 * k + x) 256 else addX (m_c w) (m_e w) (w 6 0) (w 1 0 4) (w 1 0 6) Q k x.toNat := by
                rw [show (x + 1).toNat = x.toNat + 1 by omega]
                show (if m_e w ((x.toNat : Nat) : Int) 0 = stQ Q k / 256 then addC _ (256 * m_e w ((x.toNat : Nat) : Int) 1) (nxB (m_c w) (m_e w) (w 6 0) (w 1 0 4) (w 1 0 6) ((x.toNat : Nat) : Int) (stQ Q k % 256)) (16 * k + ((x.toNat : Nat) : Int)) 256 else _) = _
                rw [show ((x.toNat : Nat) : Int) = x by omega]
              refine k_gp rfl rfl trivial ?_
              refine k_brf rfl (by omega) ?_
              refine k_gp rfl rfl (by simp only [true_and, mm_fits, hst]; omega) ?_
              rw [e0, hst]
              refine k_br rfl (fun g2 => ?_) (fun g2 => ?_)
              · refine k_gp rfl rfl (by simp only [true_and, mm_fits]; omega) ?_
                exact ihx w4 ⟨by omega, hs4, by rw [eX, if_neg g2]; exact hQ4⟩ _
              · have g2 : m_e w x 0 = stQ Q k / 256 := Classical.byContradiction g2
                rw [if_pos g2] at eX
                refine k_gp rfl rfl (by simp only [true_and, mm_fits, hst]; omega) ?_
                rw [hst]
                refine k_call0 rfl (ev_m_becomes (cb := stQ Q k % 256) hP4 (by omega)) rfl rfl rfl (by decide) ?_
                rintro a b' w5 ⟨rfl, rfl, hs5, hcu⟩
                rw [ec, ee, ek, e4, e6] at hcu
                have hQ5 := QM_18 hs5 hQ4
                have hs05 : sm lksL w w5 := sm_tr hs4 (sm_w hs5 (by decide))
                refine k_gp rfl rfl trivial ?_
                refine mm_loop (σ := mm_M) 256 (fun j w6 => (0 ≤ j ∧ j ≤ 256) ∧ sm lksL w w6 ∧ (∀ u, w6 18 0 u = w5 18 0 u) ∧ QM w6 (addC (addX (m_c w) (m_e w) (w 6 0) (w 1 0 4) (w 1 0 6) Q k x.toNat) (256 * m_e w x 1) (nxB (m_c w) (m_e w) (w 6 0) (w 1 0 4) (w 1 0 6) x (stQ Q k % 256)) (16 * k + x) j.toNat)) (fun j w6 => mm_Wk K_X10_looks (0, 0) 175 [some (.inr (some (1, 0))), some (.inl (k : Int)), some (.inl x), some (.inl j)] [] (PH r y) w6 (fun a b' w' => a = none ∧ b' = PH r y ∧ sm lksL w w' ∧ QM w' (mQ w))) ?_ ?_ 0 w5 ⟨by omega, hs05, fun _ => rfl, hQ5⟩
                · intro j w6 j1 j2 ihj
                  obtain ⟨j2, hs6, h18, hQ6⟩ := j2
                  have e1 : w6 5 0 (7 * x + 1) = m_e w x 1 := hs6 5 0 _ rfl
                  have eC : addC (addX (m_c w) (m_e w) (w 6 0) (w 1 0 4) (w 1 0 6) Q k x.toNat) (256 * m_e w x 1) (nxB (m_c w) (m_e w) (w 6 0) (w 1 0 4) (w 1 0 6) x (stQ Q k % 256)) (16 * k + x) (j + 1).toNat = if nxB (m_c w) (m_e w) (w 6 0) (w 1 0 4) (w 1 0 6) x (stQ Q k % 256) j = true then add1 (addC (addX (m_c w) (m_e w) (w 6 0) (w 1 0 4) (w 1 0 6) Q k x.toNat) (256 * m_e w x 1) (nxB (m_c w) (m_e w) (w 6 0) (w 1 0 4) (w 1 0 6) x (stQ Q k % 256)) (16 * k + x) j.toNat) (256 * m_e w x 1 + j) (16 * k + x) else addC (addX (m_c w) (m_e w) (w 6 0) (w 1 0 4) (w 1 0 6) Q k x.toNat) (256 * m_e w x 1) (nxB (m_c w) (m_e w) (w 6 0) (w 1 0 4) (w 1 0 6) x (stQ Q k % 256)) (16 * k + x) j.toNat := by
                    rw [show (j + 1).toNat = j.toNat + 1 by omega]
                    show (if nxB (m_c w) (m_e w) (w 6 0) (w 1 0 4) (w 1 0 6) x (stQ Q k % 256) ((j.toNat : Nat) : Int) = true then add1 _ (256 * m_e w x 1 + ((j.toNat : Nat) : Int)) (16 * k + x) else _) = _
                    rw [show ((j.toNat : Nat) : Int) = j by omega]
                  refine k_gp rfl rfl trivial ?_
                  refine k_brf rfl (by omega) ?_
                  refine k_gp rfl rfl (by simp only [true_and, mm_fits]; omega) ?_
                  rw [h18]
                  refine k_br rfl (fun g3 => ?_) (fun g3 => ?_)
                  · refine k_gp rfl rfl (by simp only [true_and, mm_fits]; omega) ?_
                    exact ihj w6 ⟨by omega, hs6, h18, by rw [eC, if_neg (fun q => (hcu j (by omega) (by omega)).2.mpr q g3)]; exact hQ6⟩
                  · refine k_gp rfl rfl (by simp only [true_and, mm_fits, e1]; omega) ?_
                    rw [e1]
                    refine k_callp rfl (ev_m_comes hQ6 (by omega)) rfl rfl rfl (by decide) ?_
                    refine k_gp rfl rfl (by simp only [true_and, mm_fits]; omega) ?_
                    exact ihj _ ⟨by omega, sm_tr hs6 comW_sm, fun u => comW_18.trans (h18 u), by rw [eC, if_pos ((hcu j (by omega) (by omega)).2.mp g3)]; exact QM_com hQ6 (by omega) (by rw [if_neg (by omega)])⟩
                · intro j w6 j1 j2
                  obtain ⟨j2, hs6, h18, hQ6⟩ := j2
                  have hj : j = 256 := by omega
                  subst hj
                  refine k_gp rfl rfl trivial ?_
                  refine k_brt rfl (by omega) ?_
                  refine k_gp rfl rfl (by simp only [true_and, mm_fits]; omega) ?_
                  exact ihx w6 ⟨by omega, hs6, by rw [eX]; exact hQ6⟩ _
            · intro x w4 x1 x2 l3
              obtain ⟨x2, hs4, hQ4⟩ := x2
              have e8 : w4 1 0 8 = w 1 0 8 := hs4 1 0 8 rfl
              have hx : x = w 1 0 8 := by omega
              subst hx
              refine k_gp rfl rfl trivial ?_
              refine k_brt rfl (by omega) ?_
              refine k_gp rfl rfl (by simp only [true_and, mm_fits]; omega) ?_
              obtain ⟨R, hR⟩ := addX_pre (c := m_c w) (e := m_e w) (lk := w 6 0) (nv := w 1 0 4) (nc := w 1 0 6) (Q := Q) (k := (k : Int)) (w 1 0 8).toNat
              exact ihm (k + 1) _ w4 (by omega) (by rw [hR]; simp; omega) hs4 hQ4 heq _ _
      exact LP 2049 0 _ w2 (by omega) (by omega) hs2 hQ2 rfl _ _
  · rw [arrw_in (by omega)]
    exact ⟨by omega, fun q => absurd rfl q, fun ⟨v, v1, _⟩ => by omega⟩
end ME
end
section
/-! ===== the reference: may(), state(), found(); pure: the path ===== -/
/-- the answer of state() -/
def SA (S : Int → Bool) (i z : Int) : Prop := (i = -1 → z = ((cnt S 256 : Nat) : Int)) ∧ (0 ≤ i → (z = -4 ∧ ((cnt S 256 : Nat) : Int) ≤ i) ∨ ((0 ≤ z ∧ z < 256) ∧ S z = true ∧ ((cnt S z.toNat : Nat) : Int) = i))
theorem cnt_mono {p : Int → Bool} {a b : Nat} (h : a ≤ b) : cnt p a ≤ cnt p b := by
  induction b with
  | zero => have : a = 0 := by omega
            subst this; exact Nat.le_refl _
  | succ b ih =>
    by_cases hb : a = b + 1
    · rw [hb]; exact Nat.le_refl _
    · have := ih (by omega)
      show cnt p a ≤ cnt p b + (if p b = true then 1 else 0)
      omega
theorem cnt_at {p : Int → Bool} {a b : Int} (h0 : 0 ≤ a) (h : a < b) (hp : p a = true) : cnt p a.toNat + 1 ≤ cnt p b.toNat := by
  have h1 : cnt p (a.toNat + 1) ≤ cnt p b.toNat := cnt_mono (by omega)
  have h2 : cnt p (a.toNat + 1) = cnt p a.toNat + (if p ((a.toNat : Nat) : Int) = true then 1 else 0) := rfl
  rw [show ((a.toNat : Nat) : Int) = a by omega, if_pos hp] at h2
  omega
theorem SA_u {S : Int → Bool} {i z z' : Int} (hi : -1 ≤ i) (h : SA S i z) (h' : SA S i z') : z = z' := by
  by_cases h1 : i = -1
  · rw [h.1 h1, h'.1 h1]
  · rcases h.2 (by omega) with ⟨a1, a2⟩ | ⟨a1, a2, a3⟩
    · rcases h'.2 (by omega) with ⟨b1, b2⟩ | ⟨b1, b2, b3⟩
      · omega
      · have := cnt_at (b := 256) b1.1 b1.2 b2
        have e : (256 : Int).toNat = 256 := rfl
        rw [e] at this
        omega
    · rcases h'.2 (by omega) with ⟨b1, b2⟩ | ⟨b1, b2, b3⟩
      · have := cnt_at (b := 256) a1.1 a1.2 a2
        have e : (256 : Int).toNat = 256 := rfl
        rw [e] at this
        omega
      · rcases Int.lt_trichotomy z z' with q | q | q
        · have := cnt_at a1.1 q a2; omega
        · exact q
        · have := cnt_at b1.1 q b2; omega
/-- the answer of found() -/
def FO (S : Int → Bool) (L m : Int) : Prop := (0 ≤ m ∧ m < 256) ∧ ∀ g, 0 ≤ g → g < 8 → (hb m g ↔ hb L g ∧ ∀ u, 0 ≤ u → u < 256 → S u = true → hb u g)
theorem FO_u {S : Int → Bool} {L m m' : Int} (h : FO S L m) (h' : FO S L m') : m = m' :=
  bits_eq (n := 8) h.1 h'.1 (fun g a b => (h.2 g a (by omega)).trans (h'.2 g a (by omega)).symm)
theorem hb_and {a b g : Int} (ha : 0 ≤ a ∧ a < 256) (hb_ : 0 ≤ b ∧ b < 256) : (0 ≤ mm_and a b ∧ mm_and a b < 256) ∧ (hb (mm_and a b) g ↔ hb a g ∧ hb b g) := by
  have h := bb_and (x := a.toNat) (y := b.toNat) (by omega) (by omega)
  rw [show ((a.toNat : Nat) : Int) = a by omega, show ((b.toNat : Nat) : Int) = b by omega] at h
  have h2 := Nat.and_le_left (n := a.toNat) (m := b.toNat)
  refine ⟨by omega, ?_⟩
  rw [hb_tb (by omega), hb_tb ha.1, hb_tb hb_.1, h]
  show (a.toNat &&& b.toNat).testBit g.toNat = true ↔ _
  rw [Nat.testBit_and, Bool.and_eq_true]
section ME
variable {r y : Bool} {w : mm_M}
theorem ev_m_may {x cb u : Int} (h : mP w) : mm_Ev K_X10_may (0, 0) [.inr (some (1, 0)), .inl x, .inl cb, .inl u] (PH r y) w (fun a b' w' => b' = PH r y ∧ sm lksL w w' ∧ a = some (.inl (if (0 ≤ x ∧ x < w 1 0 8) ∧ (0 ≤ cb ∧ cb ≤ 255) ∧ (0 ≤ u ∧ u ≤ 255) then ib (nxB (m_c w) (m_e w) (w 6 0) (w 1 0 4) (w 1 0 6) x cb u = true) else -1))) := by
  refine ev_intro ok_X10_may mo_X10_may (Nat.le_of_ble_eq_true rfl) (fun hrg has => ?_)
  have fF : ∀ l, ¬ ((0 ≤ x ∧ x < w 1 0 8) ∧ (0 ≤ cb ∧ cb ≤ 255) ∧ (0 ≤ u ∧ u ≤ 255)) → mm_Wk K_X10_may (0, 0) 30 l [] (PH r y) w (fun a b' w' => b' = PH r y ∧ sm lksL w w' ∧ a = some (.inl (if (0 ≤ x ∧ x < w 1 0 8) ∧ (0 ≤ cb ∧ cb ≤ 255) ∧ (0 ≤ u ∧ u ≤ 255) then ib (nxB (m_c w) (m_e w) (w 6 0) (w 1 0 4) (w 1 0 6) x cb u = true) else -1))) := fun l q => by
    refine k_gp rfl rfl trivial ?_
    exact k_ret rfl trivial ⟨rfl, sm_rf, by rw [if_neg q]⟩
  refine k_gp rfl rfl trivial ?_
  refine k_callp rfl (ev_m_isEdge h.2.2.2.2.1) rfl rfl rfl (by decide) ?_
  refine k_brz rfl (fun g1 => fF _ (fun q => g1 q.1)) (fun g1 => ?_)
  refine k_gp rfl rfl trivial ?_
  refine k_callp rfl ev_m_isIn rfl rfl rfl (by decide) ?_
  refine k_brz rfl (fun g2 => fF _ (fun q => g2 q.2.1)) (fun g2 => ?_)
  refine k_gp rfl rfl trivial ?_
  refine k_callp rfl ev_m_isIn rfl rfl rfl (by decide) ?_
  refine k_brn rfl (fun g3 => ?_) (fun g3 => fF _ (fun q => g3 q.2.2))
  refine k_gp rfl rfl trivial ?_
  refine k_call0 rfl (ev_m_becomes (cb := cb) h g1) rfl rfl rfl (by decide) ?_
  rintro a b' w1 ⟨rfl, rfl, hs, hcu⟩
  have hs' : sm lksL w w1 := sm_w hs (by decide)
  have hc := (hcu u g3.1 (by omega)).2
  refine k_gp rfl rfl (by simp only [true_and, mm_fits]; omega) ?_
  refine k_br rfl (fun g4 => ?_) (fun g4 => ?_)
  · refine k_gp rfl rfl trivial ?_
    exact k_ret rfl trivial ⟨rfl, hs', by rw [if_pos ⟨g1, g2, g3⟩, ib_f (fun q => hc.mpr q g4)]⟩
  · refine k_gp rfl rfl trivial ?_
    exact k_ret rfl trivial ⟨rfl, hs', by rw [if_pos ⟨g1, g2, g3⟩, ib_t (hc.mp g4)]⟩
theorem ev_m_state {p i : Int} (h : mP w) : mm_Ev K_X10_state (0, 0) [.inr (some (1, 0)), .inl p, .inl i] (PH r y) w (fun a b' w' => b' = PH r y ∧ sm lksL w w' ∧ ∃ z, a = some (.inl z) ∧ (¬ ((0 ≤ p ∧ p < w 1 0 2) ∧ -1 ≤ i) → z = -1) ∧ ((0 ≤ p ∧ p < w 1 0 2) ∧ -1 ≤ i → SA (fun u => inQ (mQ w) (256 * p + u)) i z)) := by
  refine ev_intro ok_X10_state mo_X10_state (Nat.le_of_ble_eq_true rfl) (fun hrg has => ?_)
  have hnp := h.1
  have fF : ∀ l, ¬ ((0 ≤ p ∧ p < w 1 0 2) ∧ -1 ≤ i) → mm_Wk K_X10_state (0, 0) 13 l [] (PH r y) w (fun a b' w' => b' = PH r y ∧ sm lksL w w' ∧ ∃ z, a = some (.inl z) ∧ (¬ ((0 ≤ p ∧ p < w 1 0 2) ∧ -1 ≤ i) → z = -1) ∧ ((0 ≤ p ∧ p < w 1 0 2) ∧ -1 ≤ i → SA (fun u => inQ (mQ w) (256 * p + u)) i z)) := fun l q => by
    refine k_gp rfl rfl trivial ?_
    exact k_ret rfl trivial ⟨rfl, sm_rf, -1, rfl, fun _ => rfl, fun z => absurd z q⟩
  refine k_gp rfl rfl trivial ?_
  refine k_callp rfl (ev_m_isPlace (by omega)) rfl rfl rfl (by decide) ?_
  refine k_brz rfl (fun g1 => fF _ (fun q => g1 q.1)) (fun g1 => ?_)
  refine k_gp rfl rfl trivial ?_
  refine k_br rfl (fun g2 => ?_) (fun g2 => fF _ (fun q => g2 q.2))
  refine k_gp rfl rfl trivial ?_
  refine k_call0 rfl (ev_m_looks h) rfl rfl rfl (by decide) ?_
  rintro a b' w1 ⟨rfl, rfl, hs, hQ⟩
  have hin : ∀ u, 0 ≤ u → u < 256 → (w1 17 0 (256 * p + u) ≠ 0 ↔ inQ (mQ w) (256 * p + u) = true) := fun u a b => (hQ.2.2.1 (256 * p + u) (by omega) (by omega)).2
  refine k_gp rfl rfl trivial ?_
  refine mm_loop (σ := Int) 256 (fun c n => (0 ≤ c ∧ c ≤ 256) ∧ n = ((cnt (fun u => inQ (mQ w) (256 * p + u)) c.toNat : Nat) : Int) ∧ (0 ≤ i → n ≤ i)) (fun c n => mm_Wk K_X10_state (0, 0) 24 [some (.inr (some (1, 0))), some (.inl p), some (.inl i), some (.inl n), some (.inl c)] [] (PH r y) w1 (fun a b' w' => b' = PH r y ∧ sm lksL w w' ∧ ∃ z, a = some (.inl z) ∧ (¬ ((0 ≤ p ∧ p < w 1 0 2) ∧ -1 ≤ i) → z = -1) ∧ ((0 ≤ p ∧ p < w 1 0 2) ∧ -1 ≤ i → SA (fun u => inQ (mQ w) (256 * p + u)) i z))) ?_ ?_ 0 0 ⟨by omega, rfl, fun q => q⟩
  · intro c n h1 h2 ih
    obtain ⟨h2, h3, h4⟩ := h2
    have hl := cnt_le (fun u => inQ (mQ w) (256 * p + u)) c.toNat
    have hc1 : cnt (fun u => inQ (mQ w) (256 * p + u)) (c + 1).toNat = cnt (fun u => inQ (mQ w) (256 * p + u)) c.toNat + (if inQ (mQ w) (256 * p + c) = true then 1 else 0) := by
      rw [show (c + 1).toNat = c.toNat + 1 by omega]
      show _ + (if inQ (mQ w) (256 * p + ((c.toNat : Nat) : Int)) = true then 1 else 0) = _
      rw [show ((c.toNat : Nat) : Int) = c by omega]
    refine k_gp rfl rfl trivial ?_
    refine k_brf rfl (by omega) ?_
    refine k_gp rfl rfl (by simp only [true_and, mm_fits]; omega) ?_
    refine k_br rfl (fun g3 => ?_) (fun g3 => ?_)
    · refine k_gp rfl rfl (by simp only [true_and, mm_fits]; omega) ?_
      exact ih n ⟨by omega, by rw [hc1, if_neg (fun q => (hin c (by omega) (by omega)).mpr q g3)]; exact h3, h4⟩
    · have hi1 := (hin c (by omega) (by omega)).mp g3
      refine k_gp rfl rfl trivial ?_
      refine k_br rfl (fun g4 => ?_) (fun g4 => ?_)
      · refine k_gp rfl rfl (by simp only [true_and, mm_fits]; omega) ?_
        refine k_gp rfl rfl (by simp only [true_and, mm_fits]; omega) ?_
        exact ih (n + 1) ⟨by omega, by rw [hc1, if_pos hi1, h3]; omega, fun q => by have := h4 q; omega⟩
      · have g4 : n = i := Classical.byContradiction g4
        refine k_gp rfl rfl trivial ?_
        exact k_ret rfl trivial ⟨rfl, hs, c, rfl, fun q => absurd ⟨g1, g2⟩ q, fun _ => ⟨fun q => by omega, fun _ => Or.inr ⟨by omega, hi1, by omega⟩⟩⟩
  · intro c n h1 h2
    obtain ⟨h2, h3, h4⟩ := h2
    have hc : c = 256 := by omega
    subst hc
    have e : (256 : Int).toNat = 256 := rfl
    rw [e] at h3
    refine k_gp rfl rfl trivial ?_
    refine k_brt rfl (by omega) ?_
    refine k_gp rfl rfl trivial ?_
    refine k_br rfl (fun g3 => ?_) (fun g3 => ?_)
    · refine k_gp rfl rfl trivial ?_
      exact k_ret rfl trivial ⟨rfl, hs, -4, rfl, fun q => absurd ⟨g1, g2⟩ q, fun _ => ⟨fun q => by omega, fun _ => Or.inl ⟨rfl, by have := h4 g3; omega⟩⟩⟩
    · refine k_gp rfl rfl trivial ?_
      exact k_ret rfl trivial ⟨rfl, hs, n, rfl, fun q => absurd ⟨g1, g2⟩ q, fun _ => ⟨fun q => h3, fun q => by omega⟩⟩
theorem ev_m_found {p : Int} (h : mP w) : mm_Ev K_X10_found (0, 0) [.inr (some (1, 0)), .inl p] (PH r y) w (fun a b' w' => b' = PH r y ∧ sm lksL w w' ∧ ∃ z, a = some (.inl z) ∧ (¬ (0 ≤ p ∧ p < w 1 0 2) → z = -1) ∧ ((0 ≤ p ∧ p < w 1 0 2) → FO (fun u => inQ (mQ w) (256 * p + u)) (w 6 0 p) z)) := by
  refine ev_intro ok_X10_found mo_X10_found (Nat.le_of_ble_eq_true rfl) (fun hrg has => ?_)
  have hnp := h.1
  refine k_gp rfl rfl trivial ?_
  refine k_callp rfl (ev_m_isPlace (by omega)) rfl rfl rfl (by decide) ?_
  refine k_brn rfl (fun g1 => ?_) (fun g1 => ?_)
  · have kp := mP_255 h g1.1 (by omega)
    refine k_gp rfl rfl trivial ?_
    refine k_call0 rfl (ev_m_looks h) rfl rfl rfl (by decide) ?_
    rintro a b' w1 ⟨rfl, rfl, hs, hQ⟩
    have hin : ∀ u, 0 ≤ u → u < 256 → (w1 17 0 (256 * p + u) ≠ 0 ↔ inQ (mQ w) (256 * p + u) = true) := fun u a b => (hQ.2.2.1 (256 * p + u) (by omega) (by omega)).2
    have e6 : w1 6 0 p = w 6 0 p := hs 6 0 p rfl
    refine k_gp rfl rfl (by simp only [true_and, mm_fits]; omega) ?_
    rw [e6]
    refine mm_loop (σ := Int) 256 (fun c m => (0 ≤ c ∧ c ≤ 256) ∧ (0 ≤ m ∧ m < 256) ∧ ∀ g, 0 ≤ g → g < 8 → (hb m g ↔ hb (w 6 0 p) g ∧ ∀ u, 0 ≤ u → u < c → inQ (mQ w) (256 * p + u) = true → hb u g)) (fun c m => mm_Wk K_X10_found (0, 0) 23 [some (.inr (some (1, 0))), some (.inl p), some (.inl m), some (.inl c)] [] (PH r y) w1 (fun a b' w' => b' = PH r y ∧ sm lksL w w' ∧ ∃ z, a = some (.inl z) ∧ (¬ (0 ≤ p ∧ p < w 1 0 2) → z = -1) ∧ ((0 ≤ p ∧ p < w 1 0 2) → FO (fun u => inQ (mQ w) (256 * p + u)) (w 6 0 p) z))) ?_ ?_ 0 (w 6 0 p) ⟨by omega, kp, fun g a b => ⟨fun q => ⟨q, fun u u1 u2 => by omega⟩, fun q => q.1⟩⟩
    · intro c m h1 h2 ih
      obtain ⟨h2, h3, h4⟩ := h2
      refine k_gp rfl rfl trivial ?_
      refine k_brf rfl (by omega) ?_
      refine k_gp rfl rfl (by simp only [true_and, mm_fits]; omega) ?_
      refine k_br rfl (fun g3 => ?_) (fun g3 => ?_)
      · refine k_gp rfl rfl trivial ?_
        refine k_gp rfl rfl (by simp only [true_and, mm_fits]; omega) ?_
        refine ih _ ⟨by omega, (hb_and (g := 0) h3 (by omega)).1, fun g a b => ((hb_and (g := g) h3 (show (0 : Int) ≤ 255 ∧ (255 : Int) < 256 by omega)).2.trans ?_)⟩
        rw [h4 g a b]
        have h255 : hb 255 g := by
          rw [hb_tb (by omega)]
          show (255 : Nat).testBit g.toNat = true
          rw [show (255 : Nat) = 2 ^ 8 - 1 from rfl, Nat.testBit_two_pow_sub_one, decide_eq_true_eq]
          omega
        refine ⟨fun q => ⟨q.1.1, fun u u1 u2 u3 => ?_⟩, fun q => ⟨⟨q.1, fun u u1 u2 u3 => q.2 u u1 (by omega) u3⟩, h255⟩⟩
        by_cases hu : u = c
        · subst hu; exact absurd ((hin u u1 (by omega)).mpr u3) (fun z => z g3)
        · exact q.1.2 u u1 (by omega) u3
      · refine k_gp rfl rfl trivial ?_
        refine k_gp rfl rfl (by simp only [true_and, mm_fits]; omega) ?_
        refine ih _ ⟨by omega, (hb_and (g := 0) h3 (by omega)).1, fun g a b => ((hb_and (g := g) h3 (show 0 ≤ c ∧ c < 256 by omega)).2.trans ?_)⟩
        rw [h4 g a b]
        refine ⟨fun q => ⟨q.1.1, fun u u1 u2 u3 => ?_⟩, fun q => ⟨⟨q.1, fun u u1 u2 u3 => q.2 u u1 (by omega) u3⟩, q.2 c (by omega) (by omega) ((hin c (by omega) (by omega)).mp g3)⟩⟩
        by_cases hu : u = c
        · subst hu; exact q.2
        · exact q.1.2 u u1 (by omega) u3
    · intro c m h1 h2
      obtain ⟨h2, h3, h4⟩ := h2
      have hc : c = 256 := by omega
      subst hc
      refine k_gp rfl rfl trivial ?_
      refine k_brt rfl (by omega) ?_
      refine k_gp rfl rfl trivial ?_
      exact k_ret rfl trivial ⟨rfl, hs, m, rfl, fun q => absurd g1 q, fun _ => ⟨h3, h4⟩⟩
  · refine k_gp rfl rfl trivial ?_
    exact k_ret rfl trivial ⟨rfl, sm_rf, -1, rfl, fun _ => rfl, fun q => absurd q g1⟩
end ME
end
section
/-! ===== pure: the path; the reference: findsPath() ===== -/
/-- each state came from one before, by an edge that leads from its place to this one -/
def QW (e : Int → Int → Int) (ne : Int) (Q : List (Int × Int)) : Prop := ∀ k : Int, 0 ≤ k → k < Q.length → (frQ Q k < 0 ∧ stQ Q k / 256 = 0) ∨ ((0 ≤ frQ Q k ∧ frQ Q k / 16 < k) ∧ frQ Q k % 16 < ne ∧ e (frQ Q k % 16) 0 = stQ Q (frQ Q k / 16) / 256 ∧ e (frQ Q k % 16) 1 = stQ Q k / 256)
theorem frQ_app {Q R : List (Int × Int)} {k : Int} (h0 : 0 ≤ k) (h : k < Q.length) : frQ (Q ++ R) k = frQ Q k := by
  unfold frQ
  rw [List.getD_eq_getElem?_getD, List.getD_eq_getElem?_getD, List.getElem?_append_left (by omega)]
theorem QW_add1 {e : Int → Int → Int} {ne : Int} {Q : List (Int × Int)} {s fr : Int} (h : QW e ne Q) (hf : (fr < 0 ∧ s / 256 = 0) ∨ ((0 ≤ fr ∧ fr / 16 < Q.length) ∧ fr % 16 < ne ∧ e (fr % 16) 0 = stQ Q (fr / 16) / 256 ∧ e (fr % 16) 1 = s / 256)) : QW e ne (add1 Q s fr) := by
  unfold add1
  split
  · exact h
  · intro k a b
    have b : k < Q.length + 1 := by simpa using b
    by_cases hk : k = Q.length
    · have e1 : stQ (Q ++ [(s, fr)]) k = s := by unfold stQ; rw [hk]; simp
      have e2 : frQ (Q ++ [(s, fr)]) k = fr := by unfold frQ; rw [hk]; simp
      rw [e1, e2]
      rcases hf with hf | ⟨⟨h1, h2⟩, h3, h4, h5⟩
      · exact Or.inl hf
      · exact Or.inr ⟨⟨h1, by omega⟩, h3, by rw [stQ_app (by omega) h2]; exact h4, h5⟩
    · rw [frQ_app a (by omega), stQ_app a (by omega)]
      rcases h k a (by omega) with hq | ⟨⟨h1, h2⟩, h3, h4, h5⟩
      · exact Or.inl hq
      · exact Or.inr ⟨⟨h1, h2⟩, h3, by rw [stQ_app (by omega) (by omega)]; exact h4, h5⟩
theorem QW_addC {e : Int → Int → Int} {ne B fr : Int} {S : Int → Bool} {Q : List (Int × Int)} (h : QW e ne Q) (hf : (fr < 0 ∧ B = 0) ∨ ((0 ≤ fr ∧ fr / 16 < Q.length) ∧ fr % 16 < ne ∧ e (fr % 16) 0 = stQ Q (fr / 16) / 256 ∧ e (fr % 16) 1 = B)) : ∀ n : Nat, n ≤ 256 → QW e ne (addC Q (256 * B) S fr n) := by
  intro n
  induction n with
  | zero => intro _; exact h
  | succ n ih =>
    intro hn
    show QW e ne (if S n = true then add1 (addC Q (256 * B) S fr n) (256 * B + n) fr else addC Q (256 * B) S fr n)
    split
    · obtain ⟨R, hR⟩ := addC_pre (Q := Q) (b := 256 * B) (S := S) (fr := fr) n
      refine QW_add1 (ih (by omega)) ?_
      rcases hf with ⟨h1, h2⟩ | ⟨⟨h1, h2⟩, h3, h4, h5⟩
      · exact Or.inl ⟨h1, by omega⟩
      · exact Or.inr ⟨⟨h1, by rw [hR]; simp; omega⟩, h3, by rw [hR, stQ_app (by omega) h2]; exact h4, by omega⟩
    · exact ih (by omega)
theorem QW_addX {c e : Int → Int → Int} {lk : Int → Int} {nv nc ne : Int} {Q : List (Int × Int)} {k : Int} (h : QW e ne Q) (hk : 0 ≤ k ∧ k < Q.length) (hne : ne ≤ 14) : ∀ n : Nat, (n : Int) ≤ ne → QW e ne (addX c e lk nv nc Q k n) := by
  intro n
  induction n with
  | zero => intro _; exact h
  | succ n ih =>
    intro hn
    show QW e ne (if e n 0 = stQ Q k / 256 then addC (addX c e lk nv nc Q k n) (256 * e n 1) (nxB c e lk nv nc n (stQ Q k % 256)) (16 * k + n) 256 else addX c e lk nv nc Q k n)
    split
    · rename_i hA
      obtain ⟨R, hR⟩ := addX_pre (c := c) (e := e) (lk := lk) (nv := nv) (nc := nc) (Q := Q) (k := k) n
      refine QW_addC (ih (by omega)) (Or.inr ⟨⟨by omega, ?_⟩, ?_, ?_, ?_⟩) 256 (Nat.le_refl _)
      · rw [hR]; simp; omega
      · omega
      · rw [show (16 * k + (n : Int)) % 16 = n by omega, show (16 * k + (n : Int)) / 16 = k by omega, hR, stQ_app hk.1 hk.2]
        exact hA
      · rw [show (16 * k + (n : Int)) % 16 = n by omega]
    · exact ih (by omega)
theorem QW_addK {c e : Int → Int → Int} {lk : Int → Int} {nv nc ne : Int} (hne : 0 ≤ ne ∧ ne ≤ 14) : ∀ (m k : Nat) (Q : List (Int × Int)), QW e ne Q → QW e ne (addK c e lk nv nc ne m k Q) := by
  intro m
  induction m with
  | zero => intro k Q h; exact h
  | succ m ih =>
    intro k Q h
    show QW e ne (if k < Q.length then addK c e lk nv nc ne m (k + 1) (addX c e lk nv nc Q k ne.toNat) else Q)
    split
    · exact ih _ _ (QW_addX h (by omega) hne.2 _ (by omega))
    · exact h
theorem QW_MQ {c e : Int → Int → Int} {f lk : Int → Int} {nv nc ne : Int} (hne : 0 ≤ ne ∧ ne ≤ 14) : QW e ne (MQ_ c e f lk nv nc ne) := by
  unfold MQ_
  refine QW_addK hne _ _ _ ?_
  have := QW_addC (e := e) (ne := ne) (B := 0) (fr := -1) (S := fcB c f lk nv nc) (Q := []) (fun k a b => by simp at b; omega) (Or.inl ⟨by decide, rfl⟩) 256 (Nat.le_refl _)
  exact this
/-- the edges by which a state came -/
def pth (Q : List (Int × Int)) : Nat → Int → List Int
  | 0, _ => []
  | m + 1, k => if frQ Q k < 0 then [] else pth Q m (frQ Q k / 16) ++ [frQ Q k % 16]
def PT (Q : List (Int × Int)) (k : Int) : List Int := pth Q (k.toNat + 1) k
theorem pth_st {e : Int → Int → Int} {ne : Int} {Q : List (Int × Int)} (h : QW e ne Q) : ∀ (m m' : Nat) (k : Int), 0 ≤ k → k < Q.length → k < m → k < m' → pth Q m k = pth Q m' k := by
  intro m
  induction m with
  | zero => intro m' k a b c; omega
  | succ m ih =>
    intro m' k a b c d
    cases m' with
    | zero => omega
    | succ m' =>
      show (if frQ Q k < 0 then [] else pth Q m (frQ Q k / 16) ++ [frQ Q k % 16]) = (if frQ Q k < 0 then [] else pth Q m' (frQ Q k / 16) ++ [frQ Q k % 16])
      split
      · rfl
      · rcases h k a b with q | q
        · omega
        · rw [ih m' (frQ Q k / 16) (by omega) (by omega) (by omega) (by omega)]
theorem PT_eq {e : Int → Int → Int} {ne : Int} {Q : List (Int × Int)} (h : QW e ne Q) {k : Int} (a : 0 ≤ k) (b : k < Q.length) : PT Q k = if frQ Q k < 0 then [] else PT Q (frQ Q k / 16) ++ [frQ Q k % 16] := by
  have e1 : PT Q k = if frQ Q k < 0 then [] else pth Q k.toNat (frQ Q k / 16) ++ [frQ Q k % 16] := rfl
  rw [e1]
  split
  · rfl
  · rcases h k a b with q | q
    · omega
    · rw [show PT Q (frQ Q k / 16) = pth Q ((frQ Q k / 16).toNat + 1) (frQ Q k / 16) from rfl, pth_st h k.toNat ((frQ Q k / 16).toNat + 1) (frQ Q k / 16) (by omega) (by omega) (by omega) (by omega)]
/-- a row of edges from place to place -/
def CHn (e : Int → Int → Int) : List Int → Int → Int → Prop
  | [], p, q => p = q
  | x :: ρ, p, q => e x 0 = p ∧ CHn e ρ (e x 1) q
theorem CHn_snoc {e : Int → Int → Int} {ρ : List Int} {x p : Int} (h : CHn e ρ p (e x 0)) : CHn e (ρ ++ [x]) p (e x 1) := by
  induction ρ generalizing p with
  | nil => exact ⟨h.symm, rfl⟩
  | cons z ρ ih => exact ⟨h.1, ih h.2⟩
theorem PT_ok {e : Int → Int → Int} {ne : Int} {Q : List (Int × Int)} (h : QW e ne Q) : ∀ (m : Nat) (k : Int), 0 ≤ k → k < Q.length → k < m → (PT Q k).length ≤ k.toNat ∧ (∀ x ∈ PT Q k, 0 ≤ x ∧ x < ne) ∧ CHn e (PT Q k) 0 (stQ Q k / 256) := by
  intro m
  induction m with
  | zero => intro k a b c; omega
  | succ m ih =>
    intro k a b c
    rw [PT_eq h a b]
    rcases h k a b with ⟨q1, q2⟩ | ⟨⟨q1, q2⟩, q3, q4, q5⟩
    · rw [if_pos q1]
      exact ⟨Nat.zero_le _, fun x hx => by (cases hx), by show (0 : Int) = _; omega⟩
    · rw [if_neg (by omega)]
      obtain ⟨i1, i2, i3⟩ := ih (frQ Q k / 16) (by omega) (by omega) (by omega)
      refine ⟨by simp; omega, fun x hx => ?_, ?_⟩
      · rcases List.mem_append.mp hx with hx | hx
        · exact i2 x hx
        · have : x = frQ Q k % 16 := by simpa using hx
          omega
      · rw [← q4] at i3
        rw [← q5]
        exact CHn_snoc i3
/-- the first state of the trap (as many as there are: none) -/
def FT (Q : List (Int × Int)) (trap k : Int) : Prop := (0 ≤ k ∧ k ≤ Q.length) ∧ (∀ j : Int, 0 ≤ j → j < k → stQ Q j / 256 ≠ trap) ∧ (k < Q.length → stQ Q k / 256 = trap)
theorem FT_u {Q : List (Int × Int)} {trap k k' : Int} (h : FT Q trap k) (h' : FT Q trap k') : k = k' := by
  rcases Int.lt_trichotomy k k' with q | q | q
  · exact absurd (h.2.2 (by have := h'.1; omega)) (h'.2.1 k h.1.1 q)
  · exact q
  · exact absurd (h'.2.2 (by have := h.1; omega)) (h.2.1 k' h'.1.1 q)
abbrev fpL : List (Nat × Option Int) := [(15, none), (16, none), (17, none), (18, none), (19, none), (1, some 29), (1, some 32)]
/-- the reference's memory holds the path -/
def PM (w : mm_M) (ρ : List Int) : Prop := w 1 0 32 = ρ.length ∧ ρ.length ≤ 2048 ∧ ∀ j : Int, 0 ≤ j → j < ρ.length → w 19 0 j = ρ.getD j.toNat 0
section ME
variable {r y : Bool} {w : mm_M}
theorem ev_m_findsPath (h : mP w) : mm_Ev K_X10_findsPath (0, 0) [.inr (some (1, 0))] (PH r y) w (fun a b' w' => b' = PH r y ∧ sm fpL w w' ∧ ∃ k, FT (mQ w) (w 1 0 3) k ∧ a = some (.inl (ib (k < (mQ w).length))) ∧ (k < (mQ w).length → PM w' (PT (mQ w) k))) := by
  refine ev_intro ok_X10_findsPath mo_X10_findsPath (Nat.le_of_ble_eq_true rfl) (fun hrg has => ?_)
  have hnp := h.1
  have hne := h.2.2.2.2.1
  refine k_gp rfl rfl trivial ?_
  refine k_call0 rfl (ev_m_looks h) rfl rfl rfl (by decide) ?_
  rintro a b' w1 ⟨rfl, rfl, hs, hQ⟩
  have hW : QW (m_e w) (w 1 0 8) (mQ w) := QW_MQ hne
  generalize mQ w = Q at hQ hW ⊢
  have hs1 : sm fpL w w1 := sm_w hs (by decide)
  have ht : w1 1 0 3 = w 1 0 3 := hs 1 0 3 rfl
  have hl := QM_le hQ
  have hm := hQ.1
  refine k_gp rfl rfl trivial ?_
  refine mm_loop (σ := Unit) (Q.length) (fun k _ => (0 ≤ k ∧ k ≤ Q.length) ∧ ∀ j : Int, 0 ≤ j → j < k → stQ Q j / 256 ≠ w 1 0 3) (fun k _ => mm_Wk K_X10_findsPath (0, 0) 6 [some (.inr (some (1, 0))), some (.inl k), none, none] [] (PH r y) w1 (fun a b' w' => b' = PH r y ∧ sm fpL w w' ∧ ∃ k, FT Q (w 1 0 3) k ∧ a = some (.inl (ib (k < (Q.length : Int)))) ∧ (k < (Q.length : Int) → PM w' (PT Q k)))) ?_ ?_ 0 () ⟨by omega, fun j a b => by omega⟩
  · intro k _ h1 h2 ih
    obtain ⟨h2, h3⟩ := h2
    obtain ⟨s1, -, s3⟩ := hQ.2.1 k h2.1 h1
    refine k_gp rfl rfl trivial ?_
    refine k_brf rfl (by omega) ?_
    refine k_gp rfl rfl (by simp only [true_and, mm_fits, s1]; omega) ?_
    rw [s1, ht]
    refine k_br rfl (fun g1 => ?_) (fun g1 => ?_)
    · have hFT : FT Q (w 1 0 3) k := ⟨h2, h3, fun _ => g1⟩
      refine k_gp rfl rfl trivial ?_
      refine k_brt rfl (by omega) ?_
      refine k_gp rfl rfl trivial ?_
      have fr16 : ∀ {w2 : mm_M}, sm [(19, none), (1, some 32)] w1 w2 → ∀ j : Int, 0 ≤ j → j < Q.length → w2 16 0 j = (if frQ Q j < 0 then -4 else frQ Q j) := fun {w2} s j a b => by rw [s 16 0 j rfl]; exact (hQ.2.1 j a b).2.1
      -- how long it is
      have L1 : ∀ (m : Nat) (s : Int) (w2 : mm_M), s < m → 0 ≤ s → s < Q.length → sm [(19, none), (1, some 32)] w1 w2 → w2 1 0 32 + (PT Q s).length = (PT Q k).length → 0 ≤ w2 1 0 32 → ∀ l3, mm_Wk K_X10_findsPath (0, 0) 54 [some (.inr (some (1, 0))), some (.inl k), some (.inl s), l3] [] (PH r y) w2 (fun a b' w' => b' = PH r y ∧ sm fpL w w' ∧ ∃ k, FT Q (w 1 0 3) k ∧ a = some (.inl (ib (k < (Q.length : Int)))) ∧ (k < (Q.length : Int) → PM w' (PT Q k))) := by
        intro m
        induction m with
        | zero => intro s w2 a b; omega
        | succ m ihm =>
          intro s w2 a b c s2 hp hp0 l3
          have e16 := fr16 s2 s b c
          have hPk := (PT_ok hW (k.toNat + 1) k h2.1 h1 (by omega)).1
          have hPs := PT_eq hW b c
          rcases hW s b c with ⟨q1, q2⟩ | ⟨⟨q1, q2⟩, q3, q4, q5⟩
          · rw [if_pos q1] at e16 hPs
            rw [hPs] at hp
            have hp : w2 1 0 32 + 0 = (PT Q k).length := hp
            refine k_gp rfl rfl (by simp only [true_and, mm_fits]; omega) ?_
            rw [e16]
            refine k_brt rfl (by decide) ?_
            refine k_gp rfl rfl trivial ?_
            -- it is laid
            have L2 : ∀ (m : Nat) (s : Int) (w3 : mm_M), s < m → 0 ≤ s → s < Q.length → sm [(19, none), (1, some 32)] w1 w3 → w3 1 0 32 = (PT Q k).length → (∃ R, PT Q k = PT Q s ++ R) → (∀ j : Int, (PT Q s).length ≤ j → j < (PT Q k).length → w3 19 0 j = (PT Q k).getD j.toNat 0) → mm_Wk K_X10_findsPath (0, 0) 93 [some (.inr (some (1, 0))), some (.inl k), some (.inl ((PT Q s).length : Int)), some (.inl s)] [] (PH r y) w3 (fun a b' w' => b' = PH r y ∧ sm fpL w w' ∧ ∃ k, FT Q (w 1 0 3) k ∧ a = some (.inl (ib (k < (Q.length : Int)))) ∧ (k < (Q.length : Int) → PM w' (PT Q k))) := by
              intro m
              induction m with
              | zero => intro s w3 a b; omega
              | succ m ihm =>
                intro s w3 a b c s3 hp hpre hj
                have e16 := fr16 s3 s b c
                have hPs := PT_eq hW b c
                rcases hW s b c with ⟨q1, q2⟩ | ⟨⟨q1, q2⟩, q3, q4, q5⟩
                · rw [if_pos q1] at e16 hPs
                  rw [hPs] at hj
                  refine k_gp rfl rfl (by simp only [true_and, mm_fits]; omega) ?_
                  rw [e16]
                  refine k_brt rfl (by decide) ?_
                  refine k_gp rfl rfl trivial ?_
                  exact k_ret rfl (by omega) ⟨rfl, sm_tr hs1 (sm_w s3 (by decide)), k, hFT, by rw [ib_t h1], fun _ => ⟨hp, by omega, fun j a b => hj j a b⟩⟩
                · rw [if_neg (by omega)] at e16 hPs
                  have hlen : (PT Q s).length = (PT Q (frQ Q s / 16)).length + 1 := by rw [hPs]; simp
                  have hls := (PT_ok hW (s.toNat + 1) s b c (by omega)).1
                  obtain ⟨R, hR⟩ := hpre
                  refine k_gp rfl rfl (by simp only [true_and, mm_fits]; omega) ?_
                  rw [e16]
                  refine k_brf rfl (by omega) ?_
                  have e16' : ∀ v, mm_up w3 19 0 v (frQ Q s % 16) 16 0 s = frQ Q s := fun v => (up_g rfl).trans e16
                  refine k_gp rfl rfl (by simp only [true_and, mm_fits, e16, e16']; omega) ?_
                  rw [e16, e16']
                  rw [show ((PT Q s).length : Int) + -1 = ((PT Q (frQ Q s / 16)).length : Int) by omega]
                  refine ihm (frQ Q s / 16) _ (by omega) (by omega) (by omega) (sm_up s3 (Or.inl (by decide))) ((up_g rfl).trans hp) ⟨[frQ Q s % 16] ++ R, by rw [hR, hPs, List.append_assoc]⟩ (fun j j1 j2 => ?_)
                  by_cases hjj : j = (PT Q (frQ Q s / 16)).length
                  · subst hjj
                    rw [up_s, hR, hPs, List.getD_eq_getElem?_getD, List.append_assoc, List.getElem?_append_right (by omega)]
                    rw [show ((PT Q (frQ Q s / 16)).length : Int).toNat - (PT Q (frQ Q s / 16)).length = 0 by omega]
                    rfl
                  · rw [up_k hjj]
                    exact hj j (by omega) j2
            rw [show w2 1 0 32 = (PT Q k).length by omega]
            exact L2 (k.toNat + 1) k w2 (by omega) h2.1 h1 s2 (by omega) ⟨[], by simp⟩ (fun j a b => by omega)
          · rw [if_neg (by omega)] at e16 hPs
            have hlen : (PT Q s).length = (PT Q (frQ Q s / 16)).length + 1 := by rw [hPs]; simp
            have e16' : ∀ v, mm_up w2 1 0 32 v 16 0 s = frQ Q s := fun v => (up_g rfl).trans e16
            refine k_gp rfl rfl (by simp only [true_and, mm_fits]; omega) ?_
            rw [e16]
            refine k_brf rfl (by omega) ?_
            refine k_gp rfl rfl (by simp only [true_and, mm_fits, e16']; omega) ?_
            rw [e16']
            exact ihm (frQ Q s / 16) _ (by omega) (by omega) (by omega) (sm_up s2 (by decide)) (by rw [up_s]; omega) (by rw [up_s]; omega) _
      exact L1 (k.toNat + 1) k _ (by omega) h2.1 h1 (sm_up sm_rf (by decide)) (by rw [up_s]; omega) (by rw [up_s]; omega) _
    · refine k_gp rfl rfl (by simp only [true_and, mm_fits]; omega) ?_
      refine ih () ⟨by omega, fun j a b => ?_⟩
      by_cases hj : j = k
      · subst hj; exact g1
      · exact h3 j a (by omega)
  · intro k _ h1 h2
    obtain ⟨h2, h3⟩ := h2
    refine k_gp rfl rfl trivial ?_
    refine k_brt rfl (by omega) ?_
    refine k_gp rfl rfl trivial ?_
    refine k_brf rfl (by omega) ?_
    refine k_gp rfl rfl trivial ?_
    exact k_ret rfl (by omega) ⟨rfl, hs1, k, ⟨h2, h3, fun q => by omega⟩, by rw [ib_f (by omega)], fun q => by omega⟩
end ME
end
section
/-! ===== the reference: how far the path can be gone; path() ===== -/
/-- values behind k edges of a row -/
def Vs (c e : Int → Int → Int) (f : Int → Int) (nv : Int) (ρ : List Int) : Nat → Int → Prop
  | 0, v => (0 ≤ v ∧ v < 512) ∧ fsB f nv v = true
  | k + 1, v => ∃ u, Vs c e f nv ρ k u ∧ go_ c e (ρ.getD k 0) u = v ∧ 0 ≤ v
def FAR (c e : Int → Int → Int) (f : Int → Int) (nv : Int) (ρ : List Int) (z : Int) : Prop := (0 ≤ z ∧ z ≤ ρ.length) ∧ (∀ j : Nat, (j : Int) < z → ∃ v, Vs c e f nv ρ (j + 1) v) ∧ (z < ρ.length → ¬ ∃ v, Vs c e f nv ρ (z.toNat + 1) v)
theorem FAR_u {c e : Int → Int → Int} {f : Int → Int} {nv : Int} {ρ : List Int} {z z' : Int} (h : FAR c e f nv ρ z) (h' : FAR c e f nv ρ z') : z = z' := by
  rcases Int.lt_trichotomy z z' with q | q | q
  · exact absurd (h'.2.1 z.toNat (by have := h.1; omega)) (h.2.2 (by have := h'.1; omega))
  · exact q
  · exact absurd (h.2.1 z'.toNat (by have := h'.1; omega)) (h'.2.2 (by have := h.1; omega))
theorem Vs_in {c e : Int → Int → Int} {f : Int → Int} {nv ne np nc : Int} {ρ : List Int} (hnv : nv ≤ 3) (hE : ∀ x, 0 ≤ x → x < ne → eOK e x np nc nv) (hρ : ∀ x ∈ ρ, 0 ≤ x ∧ x < ne) : ∀ (k : Nat) (v : Int), k ≤ ρ.length → Vs c e f nv ρ k v → (0 ≤ v ∧ v < 512) ∧ thB nv v = true := by
  intro k
  induction k with
  | zero => intro v _ h; exact ⟨h.1, fsB_th h.2⟩
  | succ k ih =>
    intro v hk h
    obtain ⟨u, h1, h2, h3⟩ := h
    obtain ⟨i1, i2⟩ := ih u (by omega) h1
    have hx : ρ.getD k 0 ∈ ρ := by
      rw [List.getD_eq_getElem?_getD, List.getElem?_eq_getElem (by omega)]
      exact List.getElem_mem _
    have hEx := hE _ (hρ _ hx).1 (hρ _ hx).2
    rcases go_in (c := c) i1 hnv hEx with q | q
    · omega
    · rw [h2] at q
      refine ⟨q, ?_⟩
      rw [← h2]
      exact go_th i1 hnv hEx i2 (by rw [h2]; exact h3)
abbrev htL : List (Nat × Option Int) := [(13, none), (14, none)]
section ME
variable {r y : Bool} {w : mm_M}
theorem ev_m_farOfPath {ρ : List Int} (h : mP w) (hp : PM w ρ) (hρ : ∀ x ∈ ρ, 0 ≤ x ∧ x < w 1 0 8) : mm_Ev K_X10_farOfPath (0, 0) [.inr (some (1, 0))] (PH r y) w (fun a b' w' => b' = PH r y ∧ sm htL w w' ∧ ∃ z, a = some (.inl z) ∧ FAR (m_c w) (m_e w) (w 3 0) (w 1 0 4) ρ z) := by
  refine ev_intro ok_X10_farOfPath mo_X10_farOfPath (Nat.le_of_ble_eq_true rfl) (fun hrg has => ?_)
  have hnv := h.2.2.1
  have hnc := h.2.2.2.1
  have hne := h.2.2.2.2.1
  have hE := h.2.2.2.2.2.2.1
  obtain ⟨hp1, hp2, hp3⟩ := hp
  refine k_gp rfl rfl trivial ?_
  refine mm_loop (σ := mm_M) 512 (fun i w1 => (0 ≤ i ∧ i ≤ 512) ∧ w1 = arrw w 13 0 i (fun v => ib (fsB (w 3 0) (w 1 0 4) v = true))) (fun i w1 => mm_Wk K_X10_farOfPath (0, 0) 2 [some (.inr (some (1, 0))), some (.inl i), none, none, none] [] (PH r y) w1 (fun a b' w' => b' = PH r y ∧ sm htL w w' ∧ ∃ z, a = some (.inl z) ∧ FAR (m_c w) (m_e w) (w 3 0) (w 1 0 4) ρ z)) ?_ ?_ 0 w ⟨by omega, arrw_0.symm⟩
  · intro i w1 h1 h2 ih
    obtain ⟨h2, hw1⟩ := h2
    have s1 : sm htL w w1 := by rw [hw1]; exact sm_arrw sm_rf (by decide)
    have e4 : w1 1 0 4 = w 1 0 4 := s1 1 0 4 rfl
    have e3 : w1 3 0 = w 3 0 := funext fun k => s1 3 0 k rfl
    refine k_gp rfl rfl trivial ?_
    refine k_brf rfl (by omega) ?_
    refine k_gp rfl rfl trivial ?_
    refine k_callp rfl (ev_m_isFirst (by omega) (by rw [e4]; exact hnv)) rfl rfl rfl (by decide) ?_
    rw [e4, e3]
    have hib := ib_in (fsB (w 3 0) (w 1 0 4) i = true)
    refine k_gp rfl rfl (by simp only [true_and, mm_fits]; omega) ?_
    exact ih _ ⟨by omega, by rw [hw1]; exact arrw_s (by omega) (by omega) rfl⟩
  intro i w1 h1 h2
  obtain ⟨h2, hw1⟩ := h2
  have hi : i = 512 := by omega
  subst hi
  have s1 : sm htL w w1 := by rw [hw1]; exact sm_arrw sm_rf (by decide)
  have here0 : ∀ v, 0 ≤ v → v < 512 → (0 ≤ w1 13 0 v ∧ w1 13 0 v ≤ 1) ∧ (w1 13 0 v ≠ 0 ↔ Vs (m_c w) (m_e w) (w 3 0) (w 1 0 4) ρ 0 v) := fun v a b => by
    rw [hw1, arrw_in (by omega), show v - 0 = v by omega]
    refine ⟨ib_in _, fun q => ⟨⟨a, b⟩, Classical.byContradiction fun z => q (ib_f z)⟩, fun q => by rw [ib_t q.2]; decide⟩
  refine k_gp rfl rfl trivial ?_
  refine k_brt rfl (by omega) ?_
  refine k_gp rfl rfl trivial ?_
  clear hw1
  refine mm_loop (σ := mm_M) (ρ.length) (fun k w2 => (0 ≤ k ∧ k ≤ ρ.length) ∧ sm htL w w2 ∧ (∀ v, 0 ≤ v → v < 512 → (0 ≤ w2 13 0 v ∧ w2 13 0 v ≤ 1) ∧ (w2 13 0 v ≠ 0 ↔ Vs (m_c w) (m_e w) (w 3 0) (w 1 0 4) ρ k.toNat v)) ∧ (∀ j : Nat, (j : Int) < k → ∃ v, Vs (m_c w) (m_e w) (w 3 0) (w 1 0 4) ρ (j + 1) v)) (fun k w2 => ∀ l2 l3 l4, mm_Wk K_X10_farOfPath (0, 0) 28 [some (.inr (some (1, 0))), some (.inl k), l2, l3, l4] [] (PH r y) w2 (fun a b' w' => b' = PH r y ∧ sm htL w w' ∧ ∃ z, a = some (.inl z) ∧ FAR (m_c w) (m_e w) (w 3 0) (w 1 0 4) ρ z)) ?_ ?_ 0 w1 ⟨by omega, s1, here0, fun j q => by omega⟩ _ _ _
  · intro k w2 h1 h2 ih l2 l3 l4
    obtain ⟨h2, s2, hh, hpre⟩ := h2
    have hx : ρ.getD k.toNat 0 ∈ ρ := by
      rw [List.getD_eq_getElem?_getD, List.getElem?_eq_getElem (by omega)]
      exact List.getElem_mem _
    have hxr := hρ _ hx
    have hEx := hE _ hxr.1 hxr.2
    generalize hxx : ρ.getD k.toNat 0 = x at hx hxr hEx
    have hVs : ∀ v, Vs (m_c w) (m_e w) (w 3 0) (w 1 0 4) ρ (k.toNat + 1) v ↔ ∃ u, Vs (m_c w) (m_e w) (w 3 0) (w 1 0 4) ρ k.toNat u ∧ go_ (m_c w) (m_e w) x u = v ∧ 0 ≤ v := fun v => by rw [← hxx]; exact Iff.rfl
    have e32 : w2 1 0 32 = ρ.length := by rw [s2 1 0 32 rfl]; exact hp1
    refine k_gp rfl rfl trivial ?_
    refine k_brf rfl (by omega) ?_
    refine k_gp rfl rfl trivial ?_
    refine mm_loop (σ := mm_M) 512 (fun i w3 => (0 ≤ i ∧ i ≤ 512) ∧ w3 = arrw w2 14 0 i (fun _ => 0)) (fun i w3 => mm_Wk K_X10_farOfPath (0, 0) 40 [some (.inr (some (1, 0))), some (.inl k), some (.inl 0), some (.inl i), l4] [] (PH r y) w3 (fun a b' w' => b' = PH r y ∧ sm htL w w' ∧ ∃ z, a = some (.inl z) ∧ FAR (m_c w) (m_e w) (w 3 0) (w 1 0 4) ρ z)) ?_ ?_ 0 w2 ⟨by omega, arrw_0.symm⟩
    · intro i w3 i1 i2 ihi
      obtain ⟨i2, rfl⟩ := i2
      refine k_gp rfl rfl trivial ?_
      refine k_brf rfl (by omega) ?_
      refine k_gp rfl rfl (by simp only [true_and, mm_fits]; omega) ?_
      exact ihi _ ⟨by omega, arrw_s (by omega) (by omega) rfl⟩
    intro i w3 i1 i2
    obtain ⟨i2, hw3⟩ := i2
    have hi : i = 512 := by omega
    subst hi
    have s23 : sm [(14, none)] w2 w3 := by rw [hw3]; exact sm_arrw sm_rf (by decide)
    have h14 : ∀ v, 0 ≤ v → v < 512 → w3 14 0 v = 0 := fun v a b => by rw [hw3, arrw_in (by omega)]
    clear hw3
    refine k_gp rfl rfl trivial ?_
    refine k_brt rfl (by omega) ?_
    refine k_gp rfl rfl trivial ?_
    refine mm_loop (σ := mm_M × Bool) 512 (fun i q => (0 ≤ i ∧ i ≤ 512) ∧ sm [(14, none)] w2 q.1 ∧ (∀ u, 0 ≤ u → u < 512 → (0 ≤ q.1 14 0 u ∧ q.1 14 0 u ≤ 1) ∧ (q.1 14 0 u ≠ 0 ↔ ∃ v, (0 ≤ v ∧ v < i) ∧ Vs (m_c w) (m_e w) (w 3 0) (w 1 0 4) ρ k.toNat v ∧ go_ (m_c w) (m_e w) x v = u ∧ 0 ≤ u)) ∧ (q.2 = true ↔ ∃ u, (0 ≤ u ∧ u < 512) ∧ q.1 14 0 u ≠ 0)) (fun i q => ∀ l4, mm_Wk K_X10_farOfPath (0, 0) 62 [some (.inr (some (1, 0))), some (.inl k), some (.inl (ib (q.2 = true))), some (.inl i), l4] [] (PH r y) q.1 (fun a b' w' => b' = PH r y ∧ sm htL w w' ∧ ∃ z, a = some (.inl z) ∧ FAR (m_c w) (m_e w) (w 3 0) (w 1 0 4) ρ z)) ?_ ?_ 0 (w3, false) ⟨by omega, s23, fun u a b => ?_, ?_⟩ _
    · intro i q i1 i2 ihi l4
      obtain ⟨w4, z⟩ := q
      obtain ⟨i2, s4, h3, h4⟩ := i2
      dsimp only at s4 h3 h4 ⊢
      have s04 : sm htL w w4 := sm_tr s2 (sm_w s4 (by decide))
      obtain ⟨hP4, ec, ee⟩ := mP_sm s04 rfl (fun _ => rfl) (fun _ => rfl) (fun _ => rfl) h
      have e13 : w4 13 0 i = w2 13 0 i := s4 13 0 i rfl
      have e19 : w4 19 0 k = x := by rw [s04 19 0 k rfl, hp3 k h2.1 h1, hxx]
      have skip : ¬ (Vs (m_c w) (m_e w) (w 3 0) (w 1 0 4) ρ k.toNat i ∧ 0 ≤ go_ (m_c w) (m_e w) x i) → ∀ l4, mm_Wk K_X10_farOfPath (0, 0) 110 [some (.inr (some (1, 0))), some (.inl k), some (.inl (ib (z = true))), some (.inl i), l4] [] (PH r y) w4 (fun a b' w' => b' = PH r y ∧ sm htL w w' ∧ ∃ z, a = some (.inl z) ∧ FAR (m_c w) (m_e w) (w 3 0) (w 1 0 4) ρ z) := fun hn l4 => by
        refine k_gp rfl rfl (by simp only [true_and, mm_fits]; omega) ?_
        refine ihi (w4, z) ⟨by omega, s4, fun u a b => ⟨(h3 u a b).1, (h3 u a b).2.trans ⟨fun ⟨v, v1, v2⟩ => ⟨v, by omega, v2⟩, fun ⟨v, v1, v2, v3, v4⟩ => ?_⟩⟩, h4⟩ _
        by_cases hv : v = i
        · subst hv; exact absurd ⟨v2, by rw [v3]; exact v4⟩ hn
        · exact ⟨v, by omega, v2, v3, v4⟩
      refine k_gp rfl rfl trivial ?_
      refine k_brf rfl (by omega) ?_
      refine k_gp rfl rfl (by simp only [true_and, mm_fits]; omega) ?_
      rw [e13]
      refine k_br rfl (fun g1 => ?_) (fun g1 => ?_)
      · refine k_gp rfl rfl trivial ?_
        refine k_gp rfl rfl trivial ?_
        refine k_brt rfl (by decide) ?_
        exact skip (fun q => (hh i (by omega) (by omega)).2.mpr q.1 g1) _
      · have hVi := (hh i (by omega) (by omega)).2.mp g1
        refine k_gp rfl rfl (by simp only [true_and, mm_fits]; omega) ?_
        rw [e19]
        refine k_callp rfl (ev_m_goes (np := w 1 0 2) (nc := w 1 0 6) (nv := w 1 0 4) (by omega) (by omega) (by omega) (by omega) (by rw [ec]; exact h.2.2.2.2.2.1) (by rw [ee]; exact hEx)) rfl rfl rfl (by decide) ?_
        rw [ec, ee]
        have hgo := go_in (c := m_c w) (all := i) (by omega) (by omega) hEx
        refine k_gp rfl rfl trivial ?_
        refine k_gp rfl rfl trivial ?_
        refine k_br rfl (fun g2 => ?_) (fun g2 => ?_)
        · exact skip (fun q => by omega) _
        · refine k_gp rfl rfl (by simp only [true_and, mm_fits]; omega) ?_
          refine k_gp rfl rfl (by simp only [true_and, mm_fits]; omega) ?_
          have sU : sm [(14, none)] w2 (mm_up w4 14 0 (go_ (m_c w) (m_e w) x i) 1) := sm_up s4 (Or.inl (by decide))
          refine ihi (mm_up w4 14 0 (go_ (m_c w) (m_e w) x i) 1, true) ⟨by omega, sU, fun u a b => ?_, ?_⟩ _
          · dsimp only
            by_cases hu : u = go_ (m_c w) (m_e w) x i
            · subst hu
              rw [up_s]
              exact ⟨by omega, fun _ => ⟨i, by omega, hVi, rfl, by omega⟩, fun _ => by decide⟩
            · rw [up_k hu]
              refine ⟨(h3 u a b).1, (h3 u a b).2.trans ⟨fun ⟨v, v1, v2⟩ => ⟨v, by omega, v2⟩, fun ⟨v, v1, v2, v3, v4⟩ => ?_⟩⟩
              by_cases hv : v = i
              · subst hv; exact absurd v3.symm hu
              · exact ⟨v, by omega, v2, v3, v4⟩
          · exact ⟨fun _ => ⟨go_ (m_c w) (m_e w) x i, by omega, by dsimp only; rw [up_s]; decide⟩, fun _ => rfl⟩
    · intro i q i1 i2 l4
      obtain ⟨w4, z⟩ := q
      obtain ⟨i2, s4, h3, h4⟩ := i2
      dsimp only at s4 h3 h4 ⊢
      have hi : i = 512 := by omega
      subst hi
      have s04 : sm htL w w4 := sm_tr s2 (sm_w s4 (by decide))
      have hnx : ∀ u, 0 ≤ u → u < 512 → (w4 14 0 u ≠ 0 ↔ Vs (m_c w) (m_e w) (w 3 0) (w 1 0 4) ρ (k.toNat + 1) u) := fun u a b => by
        rw [hVs u]
        refine (h3 u a b).2.trans ⟨fun ⟨v, v1, v2⟩ => ⟨v, v2⟩, fun ⟨v, v2⟩ => ⟨v, (Vs_in (np := w 1 0 2) (nc := w 1 0 6) (by omega) hE hρ k.toNat v (by omega) v2.1).1, v2⟩⟩
      refine k_gp rfl rfl trivial ?_
      refine k_brt rfl (by omega) ?_
      refine k_gp rfl rfl trivial ?_
      refine k_brn rfl (fun g1 => ?_) (fun g1 => ?_)
      · obtain ⟨u0, u1, u2⟩ := h4.mp g1
        refine k_gp rfl rfl trivial ?_
        refine mm_loop (σ := mm_M) 512 (fun j w5 => (0 ≤ j ∧ j ≤ 512) ∧ w5 = arrw w4 13 0 j (fun v => w4 14 0 v)) (fun j w5 => mm_Wk K_X10_farOfPath (0, 0) 124 [some (.inr (some (1, 0))), some (.inl k), some (.inl (ib (z = true))), some (.inl j), l4] [] (PH r y) w5 (fun a b' w' => b' = PH r y ∧ sm htL w w' ∧ ∃ z, a = some (.inl z) ∧ FAR (m_c w) (m_e w) (w 3 0) (w 1 0 4) ρ z)) ?_ ?_ 0 w4 ⟨by omega, arrw_0.symm⟩
        · intro j w5 j1 j2 ihj
          obtain ⟨j2, rfl⟩ := j2
          have e14 : arrw w4 13 0 j (fun v => w4 14 0 v) 14 0 j = w4 14 0 j := arrw_g rfl
          have hb01 := (h3 j (by omega) (by omega)).1
          refine k_gp rfl rfl trivial ?_
          refine k_brf rfl (by omega) ?_
          refine k_gp rfl rfl (by simp only [true_and, mm_fits, e14]; omega) ?_
          exact ihj _ ⟨by omega, arrw_s (by omega) (by omega) e14⟩
        · intro j w5 j1 j2
          obtain ⟨j2, hw5⟩ := j2
          have hj : j = 512 := by omega
          subst hj
          have s5 : sm htL w w5 := by rw [hw5]; exact sm_tr s04 (sm_arrw sm_rf (by decide))
          refine k_gp rfl rfl trivial ?_
          refine k_brt rfl (by omega) ?_
          refine k_gp rfl rfl (by simp only [true_and, mm_fits]; omega) ?_
          refine ih w5 ⟨by omega, s5, fun v a b => ?_, fun j hj => ?_⟩ _ _ _
          · rw [hw5, arrw_in (by omega), show v - 0 = v by omega, show (k + 1).toNat = k.toNat + 1 by omega]
            exact ⟨(h3 v a b).1, hnx v a b⟩
          · by_cases hjk : (j : Int) = k
            · rw [show j = k.toNat by omega]
              exact ⟨u0, (hnx u0 u1.1 u1.2).mp u2⟩
            · exact hpre j (by omega)
      · refine k_gp rfl rfl trivial ?_
        refine k_ret rfl trivial ⟨rfl, s04, k, rfl, h2, hpre, fun _ => ?_⟩
        rintro ⟨v, hv⟩
        have hvin := (Vs_in (np := w 1 0 2) (nc := w 1 0 6) (by omega) hE hρ (k.toNat + 1) v (by omega) hv).1
        exact g1 (h4.mpr ⟨v, hvin, (hnx v hvin.1 hvin.2).mpr hv⟩)
    · dsimp only
      rw [h14 u a b]
      exact ⟨by omega, fun q => absurd rfl q, fun ⟨v, v1, _⟩ => by omega⟩
    · exact ⟨(fun q => by cases q), fun ⟨u, u1, u2⟩ => absurd (h14 u u1.1 u1.2) u2⟩
  · intro k w2 h1 h2 l2 l3 l4
    obtain ⟨h2, s2, hh, hpre⟩ := h2
    have e32 : w2 1 0 32 = ρ.length := by rw [s2 1 0 32 rfl]; exact hp1
    have hk : k = ρ.length := by omega
    subst hk
    refine k_gp rfl rfl trivial ?_
    refine k_brt rfl (by omega) ?_
    refine k_gp rfl rfl trivial ?_
    rw [e32]
    exact k_ret rfl trivial ⟨rfl, s2, (ρ.length : Int), rfl, h2, hpre, fun q => by omega⟩
abbrev ptL : List (Nat × Option Int) := [(13, none), (14, none), (15, none), (16, none), (17, none), (18, none), (19, none), (20, none), (1, some 29), (1, some 32)]
/-- the answer of path(): none, how many, how far, one of them -/
def PA (c e : Int → Int → Int) (f : Int → Int) (nv trap : Int) (Q : List (Int × Int)) (i z : Int) : Prop := (i < -2 → z = -1) ∧ (-2 ≤ i → ∃ k, FT Q trap k ∧ (¬ k < Q.length → z = -4) ∧ (k < Q.length → (i = -2 → FAR c e f nv (PT Q k) z) ∧ (i = -1 → z = (PT Q k).length) ∧ (0 ≤ i → (i < (PT Q k).length → (PT Q k)[i.toNat]? = some z) ∧ ((PT Q k).length ≤ i → z = -4))))
theorem PA_u {c e : Int → Int → Int} {f : Int → Int} {nv trap i z z' : Int} {Q : List (Int × Int)} (h : PA c e f nv trap Q i z) (h' : PA c e f nv trap Q i z') : z = z' := by
  by_cases h1 : i < -2
  · rw [h.1 h1, h'.1 h1]
  · obtain ⟨k, k1, k2, k3⟩ := h.2 (by omega)
    obtain ⟨k', l1, l2, l3⟩ := h'.2 (by omega)
    have := FT_u k1 l1
    subst this
    by_cases hk : k < Q.length
    · obtain ⟨a1, a2, a3⟩ := k3 hk
      obtain ⟨b1, b2, b3⟩ := l3 hk
      by_cases i2 : i = -2
      · exact FAR_u (a1 i2) (b1 i2)
      · by_cases i1 : i = -1
        · rw [a2 i1, b2 i1]
        · obtain ⟨a4, a5⟩ := a3 (by omega)
          obtain ⟨b4, b5⟩ := b3 (by omega)
          by_cases hl : i < (PT Q k).length
          · have := a4 hl
            rw [b4 hl] at this
            exact (Option.some.inj this).symm
          · rw [a5 (by omega), b5 (by omega)]
    · rw [k2 hk, l2 hk]
theorem PM_sm {w' : mm_M} {ρ : List Int} {L : List (Nat × Option Int)} (hs : sm L w w') (h1 : frB L 1 32 = true) (h2 : ∀ k, frB L 19 k = true) (h : PM w ρ) : PM w' ρ := ⟨(hs 1 0 32 h1).trans h.1, h.2.1, fun j a b => (hs 19 0 j (h2 j)).trans (h.2.2 j a b)⟩
set_option maxRecDepth 100000 in
theorem ev_m_path {i : Int} (h : mP w) : mm_Ev K_X10_path (0, 0) [.inr (some (1, 0)), .inl i] (PH r y) w (fun a b' w' => b' = PH r y ∧ sm ptL w w' ∧ ∃ z, a = some (.inl z) ∧ PA (m_c w) (m_e w) (w 3 0) (w 1 0 4) (w 1 0 3) (mQ w) i z) := by
  refine ev_intro ok_X10_path mo_X10_path (Nat.le_of_ble_eq_true rfl) (fun hrg has => ?_)
  have hne := h.2.2.2.2.1
  refine k_gp rfl rfl trivial ?_
  refine k_br rfl (fun g1 => ?_) (fun g1 => ?_)
  · refine k_gp rfl rfl trivial ?_
    refine k_call0 rfl (ev_m_findsPath h) rfl rfl rfl (by decide) ?_
    rintro a b' w1 ⟨rfl, hs, k, hFT, rfl, hPM⟩
    have hW : QW (m_e w) (w 1 0 8) (mQ w) := QW_MQ hne
    have hs1 : sm ptL w w1 := sm_w hs (by decide)
    have hFT1 := hFT.1
    refine k_brn rfl (fun g2 => ?_) (fun g2 => ?_)
    · have hPM := hPM g2
      obtain ⟨p1, p2, p3⟩ := PT_ok hW (k.toNat + 1) k hFT1.1 g2 (by omega)
      obtain ⟨hP1, ec, ee⟩ := mP_sm hs1 rfl (fun _ => rfl) (fun _ => rfl) (fun _ => rfl) h
      have e8 : w1 1 0 8 = w 1 0 8 := hs1 1 0 8 rfl
      have e4 : w1 1 0 4 = w 1 0 4 := hs1 1 0 4 rfl
      have e3 : w1 3 0 = w 3 0 := funext fun k => hs1 3 0 k rfl
      have hml := hPM.1
      have hm2 := hPM.2.1
      refine k_gp rfl rfl trivial ?_
      refine k_br rfl (fun g3 => ?_) (fun g3 => ?_)
      · refine k_gp rfl rfl trivial ?_
        refine k_br rfl (fun g4 => ?_) (fun g4 => ?_)
        · refine k_gp rfl rfl trivial ?_
          refine k_br rfl (fun g5 => ?_) (fun g5 => ?_)
          · refine k_gp rfl rfl trivial ?_
            exact k_ret rfl trivial ⟨rfl, hs1, -4, rfl, fun q => by omega, fun _ => ⟨k, hFT, fun q => absurd g2 q, fun _ => ⟨fun q => absurd q g3, fun q => absurd q g4, fun _ => ⟨fun q => by omega, fun _ => rfl⟩⟩⟩⟩
          · refine k_gp rfl rfl (by simp only [true_and, mm_fits]; omega) ?_
            rw [hPM.2.2 i (by omega) (by omega)]
            refine k_ret rfl trivial ⟨rfl, hs1, _, rfl, fun q => by omega, fun _ => ⟨k, hFT, fun q => absurd g2 q, fun _ => ⟨fun q => absurd q g3, fun q => absurd q g4, fun _ => ⟨fun q => ?_, fun q => by omega⟩⟩⟩⟩
            rw [List.getD_eq_getElem?_getD, List.getElem?_eq_getElem (by omega)]
            rfl
        · have g4 : i = -1 := Classical.byContradiction g4
          refine k_gp rfl rfl trivial ?_
          rw [hml]
          exact k_ret rfl trivial ⟨rfl, hs1, _, rfl, fun q => by omega, fun _ => ⟨k, hFT, fun q => absurd g2 q, fun _ => ⟨fun q => absurd q g3, fun _ => rfl, fun q => by omega⟩⟩⟩
      · have g3 : i = -2 := Classical.byContradiction g3
        refine k_gp rfl rfl trivial ?_
        refine k_call0 rfl (ev_m_farOfPath hP1 hPM (by rw [e8]; exact p2)) rfl rfl rfl (by decide) ?_
        rintro a b' w2 ⟨rfl, hs2, z, rfl, hz⟩
        rw [ec, ee, e3, e4] at hz
        refine k_gp rfl rfl trivial ?_
        exact k_ret rfl trivial ⟨rfl, sm_tr hs1 (sm_w hs2 (by decide)), z, rfl, fun q => by omega, fun _ => ⟨k, hFT, fun q => absurd g2 q, fun _ => ⟨fun _ => hz, fun q => by omega, fun q => by omega⟩⟩⟩
    · refine k_gp rfl rfl trivial ?_
      exact k_ret rfl trivial ⟨rfl, hs1, -4, rfl, fun q => by omega, fun _ => ⟨k, hFT, fun _ => rfl, fun q => absurd q g2⟩⟩
  · refine k_gp rfl rfl trivial ?_
    exact k_ret rfl trivial ⟨rfl, sm_rf, -1, rfl, fun _ => rfl, fun q => by omega⟩
end ME
end
section
/-! ===== the reference: what makes an end of the path ===== -/
/-- cubes behind k edges of a row, if places are looked at so -/
def Cs (c e : Int → Int → Int) (f lk : Int → Int) (nv nc : Int) (ρ : List Int) : Nat → Int → Prop
  | 0, u => ∃ v, (0 ≤ v ∧ v < 512) ∧ fsB f nv v = true ∧ cub c nc (lk 0) v = u
  | k + 1, u => ∃ v, (0 ≤ v ∧ v < 512) ∧ (thB nv v = true ∧ Cs c e f lk nv nc ρ k (cub c nc (lk (e (ρ.getD k 0) 0)) v)) ∧ 0 ≤ go_ c e (ρ.getD k 0) v ∧ cub c nc (lk (e (ρ.getD k 0) 1)) (go_ c e (ρ.getD k 0) v) = u
/-- no row of states goes along it -/
def EN (c e : Int → Int → Int) (f lk : Int → Int) (nv nc : Int) (ρ : List Int) : Prop := ∃ k : Nat, k < ρ.length ∧ ∀ u, ¬ Cs c e f lk nv nc ρ (k + 1) u
theorem Cs_in {c e : Int → Int → Int} {f lk : Int → Int} {nv nc : Int} {ρ : List Int} (hnc : nc ≤ 8) : ∀ (k : Nat) (u : Int), Cs c e f lk nv nc ρ k u → 0 ≤ u ∧ u < 256 := by
  intro k
  cases k with
  | zero => rintro u ⟨v, -, -, rfl⟩; exact cub_in _ _ _ _ hnc
  | succ k => rintro u ⟨v, -, -, -, rfl⟩; exact cub_in _ _ _ _ hnc
theorem or_in {a b : Int} (ha : 0 ≤ a ∧ a < 256) (hb_ : 0 ≤ b ∧ b < 256) : 0 ≤ mm_or a b ∧ mm_or a b < 256 := by
  have h := bb_or (x := a.toNat) (y := b.toNat) (by omega) (by omega)
  rw [show ((a.toNat : Nat) : Int) = a by omega, show ((b.toNat : Nat) : Int) = b by omega] at h
  have := Nat.or_lt_two_pow (n := 8) (x := a.toNat) (y := b.toNat) (by omega) (by omega)
  omega
abbrev endL : List (Nat × Option Int) := [(18, none), (20, none)]
section ME
variable {r y : Bool} {w : mm_M}
theorem ev_m_isEnded {ρ : List Int} {more : Int} (h : mP w) (hp : PM w ρ) (hρ : ∀ x ∈ ρ, 0 ≤ x ∧ x < w 1 0 8) (hm : 0 ≤ more ∧ more < 256) : mm_Ev K_X10_isEnded (0, 0) [.inr (some (1, 0)), .inl more] (PH r y) w (fun a b' w' => b' = PH r y ∧ sm endL w w' ∧ ∃ z : Bool, a = some (.inl (ib (z = true))) ∧ (z = true ↔ EN (m_c w) (m_e w) (w 3 0) (fun p => mm_or (w 6 0 p) more) (w 1 0 4) (w 1 0 6) ρ)) := by
  refine ev_intro ok_X10_isEnded mo_X10_isEnded (Nat.le_of_ble_eq_true rfl) (fun hrg has => ?_)
  have hnp := h.1
  have hnv := h.2.2.1
  have hnc := h.2.2.2.1
  have hne := h.2.2.2.2.1
  have hE := h.2.2.2.2.2.2.1
  obtain ⟨hp1, hp2, hp3⟩ := hp
  have kOr : ∀ p, 0 ≤ p → p < 8 → 0 ≤ mm_or (w 6 0 p) more ∧ mm_or (w 6 0 p) more < 256 := fun p a b => or_in (mP_255 h a b) hm
  generalize hlk : (fun p => mm_or (w 6 0 p) more) = lk
  have hlkp : ∀ p, mm_or (w 6 0 p) more = lk p := fun p => by rw [← hlk]
  refine k_gp rfl rfl trivial ?_
  refine mm_loop (σ := mm_M) 256 (fun i w1 => (0 ≤ i ∧ i ≤ 256) ∧ w1 = arrw w 18 0 i (fun _ => 0)) (fun i w1 => mm_Wk K_X10_isEnded (0, 0) 2 [some (.inr (some (1, 0))), some (.inl more), some (.inl i), none, none, none, none] [] (PH r y) w1 (fun a b' w' => b' = PH r y ∧ sm endL w w' ∧ ∃ z : Bool, a = some (.inl (ib (z = true))) ∧ (z = true ↔ EN (m_c w) (m_e w) (w 3 0) lk (w 1 0 4) (w 1 0 6) ρ))) ?_ ?_ 0 w ⟨by omega, arrw_0.symm⟩
  · intro i w1 h1 h2 ih
    obtain ⟨h2, rfl⟩ := h2
    refine k_gp rfl rfl trivial ?_
    refine k_brf rfl (by omega) ?_
    refine k_gp rfl rfl (by simp only [true_and, mm_fits]; omega) ?_
    exact ih _ ⟨by omega, arrw_s (by omega) (by omega) rfl⟩
  intro i w1 h1 h2
  obtain ⟨h2, hw1⟩ := h2
  have hi : i = 256 := by omega
  subst hi
  have s1 : sm endL w w1 := by rw [hw1]; exact sm_arrw sm_rf (by decide)
  have z1 : ∀ u, 0 ≤ u → u < 256 → w1 18 0 u = 0 := fun u a b => by rw [hw1, arrw_in (by omega)]
  clear hw1
  refine k_gp rfl rfl trivial ?_
  refine k_brt rfl (by omega) ?_
  refine k_gp rfl rfl trivial ?_
  refine mm_loop (σ := mm_M) 512 (fun i w2 => (0 ≤ i ∧ i ≤ 512) ∧ sm endL w w2 ∧ ∀ u, 0 ≤ u → u < 256 → (0 ≤ w2 18 0 u ∧ w2 18 0 u ≤ 1) ∧ (w2 18 0 u ≠ 0 ↔ ∃ a, (0 ≤ a ∧ a < i) ∧ fsB (w 3 0) (w 1 0 4) a = true ∧ cub (m_c w) (w 1 0 6) (lk 0) a = u)) (fun i w2 => mm_Wk K_X10_isEnded (0, 0) 24 [some (.inr (some (1, 0))), some (.inl more), some (.inl i), none, none, none, none] [] (PH r y) w2 (fun a b' w' => b' = PH r y ∧ sm endL w w' ∧ ∃ z : Bool, a = some (.inl (ib (z = true))) ∧ (z = true ↔ EN (m_c w) (m_e w) (w 3 0) lk (w 1 0 4) (w 1 0 6) ρ))) ?_ ?_ 0 w1 ⟨by omega, s1, fun u a b => ?_⟩
  · intro i w2 h1 h2 ih
    obtain ⟨h2, hs, h3⟩ := h2
    obtain ⟨hP1, ec, ee⟩ := mP_sm hs rfl (fun _ => rfl) (fun _ => rfl) (fun _ => rfl) h
    have e4 : w2 1 0 4 = w 1 0 4 := hs 1 0 4 rfl
    have e6 : w2 1 0 6 = w 1 0 6 := hs 1 0 6 rfl
    have e3 : w2 3 0 = w 3 0 := funext fun k => hs 3 0 k rfl
    have ek : w2 6 0 0 = w 6 0 0 := hs 6 0 0 rfl
    refine k_gp rfl rfl trivial ?_
    refine k_brf rfl (by omega) ?_
    refine k_gp rfl rfl trivial ?_
    refine k_callp rfl (ev_m_isFirst (by omega) (by rw [e4]; exact hnv)) rfl rfl rfl (by decide) ?_
    rw [e4, e3]
    refine k_brz rfl (fun g1 => ?_) (fun g1 => ?_)
    · refine k_gp rfl rfl (by simp only [true_and, mm_fits]; omega) ?_
      refine ih w2 ⟨by omega, hs, fun u a b => ⟨(h3 u a b).1, (h3 u a b).2.trans ⟨fun ⟨v, v1, v2⟩ => ⟨v, by omega, v2⟩, fun ⟨v, v1, v2, v3⟩ => ?_⟩⟩⟩
      by_cases hv : v = i
      · subst hv; exact absurd v2 g1
      · exact ⟨v, by omega, v2, v3⟩
    · refine k_gp rfl rfl trivial ?_
      refine k_callp rfl (ev_m_cube (by omega) (by omega) (by rw [e4]; omega) (by rw [e6]; exact hnc) (by rw [ec, e4, e6]; exact h.2.2.2.2.2.1) (by rw [ek]; exact (kOr 0 (by omega) (by omega)).1)) rfl rfl rfl (by decide) ?_
      rw [ec, e6, ek, hlkp]
      have hcu := cub_in (m_c w) (w 1 0 6) (lk 0) i (by omega)
      refine k_gp rfl rfl (by simp only [true_and, mm_fits]; omega) ?_
      refine k_gp rfl rfl (by simp only [true_and, mm_fits]; omega) ?_
      refine ih _ ⟨by omega, sm_up hs (Or.inl (by decide)), fun u a b => ?_⟩
      by_cases hu : u = cub (m_c w) (w 1 0 6) (lk 0) i
      · subst hu
        rw [up_s]
        exact ⟨by omega, fun _ => ⟨i, by omega, g1, rfl⟩, fun _ => by decide⟩
      · rw [up_k hu]
        refine ⟨(h3 u a b).1, (h3 u a b).2.trans ⟨fun ⟨v, v1, v2⟩ => ⟨v, by omega, v2⟩, fun ⟨v, v1, v2, v3⟩ => ?_⟩⟩
        by_cases hv : v = i
        · subst hv; exact absurd v3.symm hu
        · exact ⟨v, by omega, v2, v3⟩
  · intro i w2 h1 h2
    obtain ⟨h2, s2, h3⟩ := h2
    have hi : i = 512 := by omega
    subst hi
    refine k_gp rfl rfl trivial ?_
    refine k_brt rfl (by omega) ?_
    refine k_gp rfl rfl trivial ?_
    clear z1 s1
    -- along the path
    refine mm_loop (σ := mm_M × Bool) (ρ.length) (fun k q => (0 ≤ k ∧ k ≤ ρ.length) ∧ sm endL w q.1 ∧ (∀ u, 0 ≤ u → u < 256 → (0 ≤ q.1 18 0 u ∧ q.1 18 0 u ≤ 1) ∧ (q.1 18 0 u ≠ 0 ↔ Cs (m_c w) (m_e w) (w 3 0) lk (w 1 0 4) (w 1 0 6) ρ k.toNat u)) ∧ (q.2 = true → EN (m_c w) (m_e w) (w 3 0) lk (w 1 0 4) (w 1 0 6) ρ) ∧ (q.2 = false → ∀ j : Nat, (j : Int) < k → ∃ u, Cs (m_c w) (m_e w) (w 3 0) lk (w 1 0 4) (w 1 0 6) ρ (j + 1) u)) (fun k q => ∀ l4 l5 l6, mm_Wk K_X10_isEnded (0, 0) 62 [some (.inr (some (1, 0))), some (.inl more), some (.inl (ib (q.2 = true))), some (.inl k), l4, l5, l6] [] (PH r y) q.1 (fun a b' w' => b' = PH r y ∧ sm endL w w' ∧ ∃ z : Bool, a = some (.inl (ib (z = true))) ∧ (z = true ↔ EN (m_c w) (m_e w) (w 3 0) lk (w 1 0 4) (w 1 0 6) ρ))) ?_ ?_ 0 (w2, false) ⟨by omega, s2, h3, (fun q => by cases q), fun _ j q => by omega⟩ _ _ _
    · intro k q k1 k2 ih l4 l5 l6
      obtain ⟨w3, z⟩ := q
      obtain ⟨k2, s3, hcu, hz1, hz0⟩ := k2
      dsimp only at s3 hcu hz1 hz0 ⊢
      have e32 : w3 1 0 32 = ρ.length := by rw [s3 1 0 32 rfl]; exact hp1
      refine k_gp rfl rfl trivial ?_
      refine k_brf rfl (by omega) ?_
      refine k_gp rfl rfl trivial ?_
      refine k_brn rfl (fun g1 => ?_) (fun g1 => ?_)
      · refine k_gp rfl rfl trivial ?_
        exact k_ret rfl (ib_in _) ⟨rfl, s3, z, rfl, fun _ => hz1 g1, fun _ => g1⟩
      · have hz0 := hz0 (by cases z with | false => rfl | true => exact absurd rfl g1)
        have hx : ρ.getD k.toNat 0 ∈ ρ := by
          rw [List.getD_eq_getElem?_getD, List.getElem?_eq_getElem (by omega)]
          exact List.getElem_mem _
        have hxr := hρ _ hx
        have hEx := hE _ hxr.1 hxr.2
        generalize hxx : ρ.getD k.toNat 0 = x at hx hxr hEx
        have hA := hEx.1
        have hB := hEx.2.1
        have hCs : ∀ u, Cs (m_c w) (m_e w) (w 3 0) lk (w 1 0 4) (w 1 0 6) ρ (k.toNat + 1) u ↔ ∃ v, (0 ≤ v ∧ v < 512) ∧ (thB (w 1 0 4) v = true ∧ Cs (m_c w) (m_e w) (w 3 0) lk (w 1 0 4) (w 1 0 6) ρ k.toNat (cub (m_c w) (w 1 0 6) (lk (m_e w x 0)) v)) ∧ 0 ≤ go_ (m_c w) (m_e w) x v ∧ cub (m_c w) (w 1 0 6) (lk (m_e w x 1)) (go_ (m_c w) (m_e w) x v) = u := fun u => by rw [← hxx]; exact Iff.rfl
        have e19 : w3 19 0 k = x := by rw [s3 19 0 k rfl, hp3 k k2.1 k1, hxx]
        refine k_gp rfl rfl (by simp only [true_and, mm_fits]; omega) ?_
        rw [e19]
        refine mm_loop (σ := mm_M) 256 (fun i w4 => (0 ≤ i ∧ i ≤ 256) ∧ w4 = arrw w3 20 0 i (fun _ => 0)) (fun i w4 => mm_Wk K_X10_isEnded (0, 0) 87 [some (.inr (some (1, 0))), some (.inl more), some (.inl 1), some (.inl k), some (.inl x), some (.inl i), l6] [] (PH r y) w4 (fun a b' w' => b' = PH r y ∧ sm endL w w' ∧ ∃ z : Bool, a = some (.inl (ib (z = true))) ∧ (z = true ↔ EN (m_c w) (m_e w) (w 3 0) lk (w 1 0 4) (w 1 0 6) ρ))) ?_ ?_ 0 w3 ⟨by omega, arrw_0.symm⟩
        · intro i w4 i1 i2 ihi
          obtain ⟨i2, rfl⟩ := i2
          refine k_gp rfl rfl trivial ?_
          refine k_brf rfl (by omega) ?_
          refine k_gp rfl rfl (by simp only [true_and, mm_fits]; omega) ?_
          exact ihi _ ⟨by omega, arrw_s (by omega) (by omega) rfl⟩
        intro i w4 i1 i2
        obtain ⟨i2, hw4⟩ := i2
        have hi : i = 256 := by omega
        subst hi
        have s34 : sm [(20, none)] w3 w4 := by rw [hw4]; exact sm_arrw sm_rf (by decide)
        have z20 : ∀ u, 0 ≤ u → u < 256 → w4 20 0 u = 0 := fun u a b => by rw [hw4, arrw_in (by omega)]
        clear hw4
        refine k_gp rfl rfl trivial ?_
        refine k_brt rfl (by omega) ?_
        refine k_gp rfl rfl trivial ?_
        refine mm_loop (σ := mm_M × Bool) 512 (fun i q => (0 ≤ i ∧ i ≤ 512) ∧ sm [(20, none)] w3 q.1 ∧ (∀ u, 0 ≤ u → u < 256 → (0 ≤ q.1 20 0 u ∧ q.1 20 0 u ≤ 1) ∧ (q.1 20 0 u ≠ 0 ↔ ∃ v, (0 ≤ v ∧ v < i) ∧ (thB (w 1 0 4) v = true ∧ Cs (m_c w) (m_e w) (w 3 0) lk (w 1 0 4) (w 1 0 6) ρ k.toNat (cub (m_c w) (w 1 0 6) (lk (m_e w x 0)) v)) ∧ 0 ≤ go_ (m_c w) (m_e w) x v ∧ cub (m_c w) (w 1 0 6) (lk (m_e w x 1)) (go_ (m_c w) (m_e w) x v) = u)) ∧ (q.2 = false ↔ ∃ u, (0 ≤ u ∧ u < 256) ∧ q.1 20 0 u ≠ 0)) (fun i q => ∀ l6, mm_Wk K_X10_isEnded (0, 0) 112 [some (.inr (some (1, 0))), some (.inl more), some (.inl (ib (q.2 = true))), some (.inl k), some (.inl x), some (.inl i), l6] [] (PH r y) q.1 (fun a b' w' => b' = PH r y ∧ sm endL w w' ∧ ∃ z : Bool, a = some (.inl (ib (z = true))) ∧ (z = true ↔ EN (m_c w) (m_e w) (w 3 0) lk (w 1 0 4) (w 1 0 6) ρ))) ?_ ?_ 0 (w4, true) ⟨by omega, s34, fun u a b => ?_, ?_⟩ _
        · intro i q i1 i2 ihi l6
          obtain ⟨w5, z'⟩ := q
          obtain ⟨i2, s5, g3, g4⟩ := i2
          dsimp only at s5 g3 g4 ⊢
          have s05 : sm endL w w5 := sm_tr s3 (sm_w s5 (by decide))
          obtain ⟨hP5, ec, ee⟩ := mP_sm s05 rfl (fun _ => rfl) (fun _ => rfl) (fun _ => rfl) h
          have e4 : w5 1 0 4 = w 1 0 4 := s05 1 0 4 rfl
          have e6 : w5 1 0 6 = w 1 0 6 := s05 1 0 6 rfl
          have ek : ∀ p, w5 6 0 p = w 6 0 p := fun p => s05 6 0 p rfl
          have e0 : w5 5 0 (7 * x) = m_e w x 0 := by rw [← ee]; exact (m_e0 w5 x).symm
          have e1 : w5 5 0 (7 * x + 1) = m_e w x 1 := by rw [← ee]; rfl
          have e18 : ∀ u, w5 18 0 u = w3 18 0 u := fun u => s5 18 0 u rfl
          have hcA := cub_in (m_c w) (w 1 0 6) (lk (m_e w x 0)) i (by omega)
          have skip : ¬ ((thB (w 1 0 4) i = true ∧ Cs (m_c w) (m_e w) (w 3 0) lk (w 1 0 4) (w 1 0 6) ρ k.toNat (cub (m_c w) (w 1 0 6) (lk (m_e w x 0)) i)) ∧ 0 ≤ go_ (m_c w) (m_e w) x i) → ∀ l6, mm_Wk K_X10_isEnded (0, 0) 200 [some (.inr (some (1, 0))), some (.inl more), some (.inl (ib (z' = true))), some (.inl k), some (.inl x), some (.inl i), l6] [] (PH r y) w5 (fun a b' w' => b' = PH r y ∧ sm endL w w' ∧ ∃ z : Bool, a = some (.inl (ib (z = true))) ∧ (z = true ↔ EN (m_c w) (m_e w) (w 3 0) lk (w 1 0 4) (w 1 0 6) ρ)) := fun hn l6 => by
            refine k_gp rfl rfl (by simp only [true_and, mm_fits]; omega) ?_
            refine ihi (w5, z') ⟨by omega, s5, fun u a b => ⟨(g3 u a b).1, (g3 u a b).2.trans ⟨fun ⟨v, v1, v2⟩ => ⟨v, by omega, v2⟩, fun ⟨v, v1, v2, v3, v4⟩ => ?_⟩⟩, g4⟩ _
            by_cases hv : v = i
            · subst hv; exact absurd ⟨v2, v3⟩ hn
            · exact ⟨v, by omega, v2, v3, v4⟩
          refine k_gp rfl rfl trivial ?_
          refine k_brf rfl (by omega) ?_
          refine k_gp rfl rfl trivial ?_
          refine k_callp rfl (ev_m_isThere (by omega)) rfl rfl rfl (by decide) ?_
          rw [e4]
          refine k_brz rfl (fun g5 => ?_) (fun g5 => ?_)
          · refine k_gp rfl rfl trivial ?_
            refine k_gp rfl rfl trivial ?_
            refine k_brt rfl (by decide) ?_
            exact skip (fun q => g5 q.1.1) _
          · refine k_gp rfl rfl (by simp only [true_and, mm_fits]; omega) ?_
            rw [e0]
            refine k_callp rfl (ev_m_cube (by omega) (by omega) (by rw [e4]; omega) (by rw [e6]; exact hnc) (by rw [ec, e4, e6]; exact h.2.2.2.2.2.1) (by rw [ek]; exact (kOr _ hA.1 (by omega)).1)) rfl rfl rfl (by decide) ?_
            rw [ec, e6, ek, hlkp]
            refine k_gp rfl rfl (by simp only [true_and, mm_fits]; omega) ?_
            rw [e18]
            refine k_br rfl (fun g6 => ?_) (fun g6 => ?_)
            · refine k_gp rfl rfl trivial ?_
              refine k_gp rfl rfl trivial ?_
              refine k_brt rfl (by decide) ?_
              exact skip (fun q => (hcu _ hcA.1 hcA.2).2.mpr q.1.2 g6) _
            · have hCi := (hcu _ hcA.1 hcA.2).2.mp g6
              refine k_gp rfl rfl trivial ?_
              refine k_callp rfl (ev_m_goes (np := w 1 0 2) (nc := w 1 0 6) (nv := w 1 0 4) (by omega) (by omega) (by omega) (by omega) (by rw [ec]; exact h.2.2.2.2.2.1) (by rw [ee]; exact hEx)) rfl rfl rfl (by decide) ?_
              rw [ec, ee]
              have hgo := go_in (c := m_c w) (all := i) (by omega) (by omega) hEx
              refine k_gp rfl rfl trivial ?_
              refine k_gp rfl rfl trivial ?_
              refine k_br rfl (fun g7 => ?_) (fun g7 => ?_)
              · exact skip (fun q => by omega) _
              · refine k_gp rfl rfl (by simp only [true_and, mm_fits]; omega) ?_
                rw [e1]
                refine k_callp rfl (ev_m_cube (by omega) (by omega) (by rw [e4]; omega) (by rw [e6]; exact hnc) (by rw [ec, e4, e6]; exact h.2.2.2.2.2.1) (by rw [ek]; exact (kOr _ hB.1 (by omega)).1)) rfl rfl rfl (by decide) ?_
                rw [ec, e6, ek, hlkp]
                have hcB := cub_in (m_c w) (w 1 0 6) (lk (m_e w x 1)) (go_ (m_c w) (m_e w) x i) (by omega)
                refine k_gp rfl rfl (by simp only [true_and, mm_fits]; omega) ?_
                refine k_gp rfl rfl (by simp only [true_and, mm_fits]; omega) ?_
                have sU : sm [(20, none)] w3 (mm_up w5 20 0 (cub (m_c w) (w 1 0 6) (lk (m_e w x 1)) (go_ (m_c w) (m_e w) x i)) 1) := sm_up s5 (Or.inl (by decide))
                refine ihi (mm_up w5 20 0 (cub (m_c w) (w 1 0 6) (lk (m_e w x 1)) (go_ (m_c w) (m_e w) x i)) 1, false) ⟨by omega, sU, fun u a b => ?_, ?_⟩ _
                · dsimp only
                  by_cases hu : u = cub (m_c w) (w 1 0 6) (lk (m_e w x 1)) (go_ (m_c w) (m_e w) x i)
                  · subst hu
                    rw [up_s]
                    exact ⟨by omega, fun _ => ⟨i, by omega, ⟨g5, hCi⟩, by omega, rfl⟩, fun _ => by decide⟩
                  · rw [up_k hu]
                    refine ⟨(g3 u a b).1, (g3 u a b).2.trans ⟨fun ⟨v, v1, v2⟩ => ⟨v, by omega, v2⟩, fun ⟨v, v1, v2, v3, v4⟩ => ?_⟩⟩
                    by_cases hv : v = i
                    · subst hv; exact absurd v4.symm hu
                    · exact ⟨v, by omega, v2, v3, v4⟩
                · exact ⟨fun _ => ⟨_, hcB, by dsimp only; rw [up_s]; decide⟩, fun _ => rfl⟩
        · intro i q i1 i2 l6
          obtain ⟨w5, z'⟩ := q
          obtain ⟨i2, s5, g3, g4⟩ := i2
          dsimp only at s5 g3 g4 ⊢
          have hi : i = 512 := by omega
          subst hi
          have s05 : sm endL w w5 := sm_tr s3 (sm_w s5 (by decide))
          have hnx : ∀ u, 0 ≤ u → u < 256 → (w5 20 0 u ≠ 0 ↔ Cs (m_c w) (m_e w) (w 3 0) lk (w 1 0 4) (w 1 0 6) ρ (k.toNat + 1) u) := fun u a b => (g3 u a b).2.trans (hCs u).symm
          refine k_gp rfl rfl trivial ?_
          refine k_brt rfl (by omega) ?_
          refine k_gp rfl rfl trivial ?_
          refine mm_loop (σ := mm_M) 256 (fun j w6 => (0 ≤ j ∧ j ≤ 256) ∧ w6 = arrw w5 18 0 j (fun v => w5 20 0 v)) (fun j w6 => mm_Wk K_X10_isEnded (0, 0) 209 [some (.inr (some (1, 0))), some (.inl more), some (.inl (ib (z' = true))), some (.inl k), some (.inl x), some (.inl j), l6] [] (PH r y) w6 (fun a b' w' => b' = PH r y ∧ sm endL w w' ∧ ∃ z : Bool, a = some (.inl (ib (z = true))) ∧ (z = true ↔ EN (m_c w) (m_e w) (w 3 0) lk (w 1 0 4) (w 1 0 6) ρ))) ?_ ?_ 0 w5 ⟨by omega, arrw_0.symm⟩
          · intro j w6 j1 j2 ihj
            obtain ⟨j2, rfl⟩ := j2
            have e20 : arrw w5 18 0 j (fun v => w5 20 0 v) 20 0 j = w5 20 0 j := arrw_g rfl
            have hb01 := (g3 j (by omega) (by omega)).1
            refine k_gp rfl rfl trivial ?_
            refine k_brf rfl (by omega) ?_
            refine k_gp rfl rfl (by simp only [true_and, mm_fits, e20]; omega) ?_
            exact ihj _ ⟨by omega, arrw_s (by omega) (by omega) e20⟩
          · intro j w6 j1 j2
            obtain ⟨j2, hw6⟩ := j2
            have hj : j = 256 := by omega
            subst hj
            have s6 : sm endL w w6 := by rw [hw6]; exact sm_tr s05 (sm_arrw sm_rf (by decide))
            refine k_gp rfl rfl trivial ?_
            refine k_brt rfl (by omega) ?_
            refine k_gp rfl rfl (by simp only [true_and, mm_fits]; omega) ?_
            refine ih (w6, z') ⟨by omega, s6, fun v a b => ?_, fun q => ?_, fun q j hj => ?_⟩ _ _ _
            · dsimp only
              rw [hw6, arrw_in (by omega), show v - 0 = v by omega, show (k + 1).toNat = k.toNat + 1 by omega]
              exact ⟨(g3 v a b).1, hnx v a b⟩
            · refine ⟨k.toNat, by omega, fun u hu => ?_⟩
              have hui := Cs_in (by omega) _ _ hu
              have : z' = false := g4.mpr ⟨u, hui, (hnx u hui.1 hui.2).mpr hu⟩
              have q : z' = true := q
              rw [this] at q
              cases q
            · by_cases hjk : (j : Int) = k
              · rw [show j = k.toNat by omega]
                obtain ⟨u, u1, u2⟩ := g4.mp q
                exact ⟨u, (hnx u u1.1 u1.2).mp u2⟩
              · exact hz0 j (by omega)
        · dsimp only
          rw [z20 u a b]
          exact ⟨by omega, fun q => absurd rfl q, fun ⟨v, v1, _⟩ => by omega⟩
        · exact ⟨(fun q => by cases q), fun ⟨u, u1, u2⟩ => absurd (z20 u u1.1 u1.2) u2⟩
    · intro k q k1 k2 l4 l5 l6
      obtain ⟨w3, z⟩ := q
      obtain ⟨k2, s3, hcu, hz1, hz0⟩ := k2
      dsimp only at s3 hcu hz1 hz0 ⊢
      have e32 : w3 1 0 32 = ρ.length := by rw [s3 1 0 32 rfl]; exact hp1
      refine k_gp rfl rfl trivial ?_
      refine k_brt rfl (by omega) ?_
      refine k_gp rfl rfl trivial ?_
      refine k_ret rfl (ib_in _) ⟨rfl, s3, z, rfl, hz1, fun q => ?_⟩
      cases z with
      | true => rfl
      | false =>
        obtain ⟨j, j1, j2⟩ := q
        obtain ⟨u, hu⟩ := hz0 rfl j (by omega)
        exact absurd hu (j2 u)
  · rw [z1 u a b]
    exact ⟨by omega, fun q => absurd rfl q, fun ⟨v, v1, _⟩ => by omega⟩
end ME
end
section
/-! ===== the reference: mend(), check(), count() ===== -/
/-- the set that makes an end, of fewest, the least; -4: none -/
def SF (nc : Int) (E : Int → Prop) (z : Int) : Prop := (z = -4 ∧ ∀ s, 1 ≤ s → s < ((2 ^ nc.toNat : Nat) : Int) → (pop8 s 8 = 1 ∨ pop8 s 8 = 2) → ¬ E s) ∨ ((1 ≤ z ∧ z < ((2 ^ nc.toNat : Nat) : Int)) ∧ (pop8 z 8 = 1 ∨ pop8 z 8 = 2) ∧ E z ∧ ∀ s, 1 ≤ s → s < ((2 ^ nc.toNat : Nat) : Int) → (pop8 s 8 = 1 ∨ pop8 s 8 = 2) → E s → pop8 z 8 ≤ pop8 s 8 ∧ (pop8 s 8 = pop8 z 8 → z ≤ s))
theorem SF_u {nc : Int} {E : Int → Prop} {z z' : Int} (h : SF nc E z) (h' : SF nc E z') : z = z' := by
  rcases h with ⟨h1, h2⟩ | ⟨h1, h2, h3, h4⟩
  · rcases h' with ⟨g1, g2⟩ | ⟨g1, g2, g3, g4⟩
    · omega
    · exact absurd g3 (h2 z' g1.1 g1.2 g2)
  · rcases h' with ⟨g1, g2⟩ | ⟨g1, g2, g3, g4⟩
    · exact absurd h3 (g2 z h1.1 h1.2 h2)
    · have a := h4 z' g1.1 g1.2 g2 g3
      have b := g4 z h1.1 h1.2 h2 h3
      have a2 := a.2
      have b2 := b.2
      omega
/-- places that a row comes by -/
def onP (e : Int → Int → Int) (ρ : List Int) (p : Int) : Bool := decide (p = 0) || ρ.any fun x => decide (e x 1 = p)
/-- more looked at there -/
def lkU (e : Int → Int → Int) (lk : Int → Int) (ρ : List Int) (set : Int) : Int → Int := fun p => if onP e ρ p = true then mm_or (lk p) set else lk p
/-- 0 it is safe, 1 the path is real, 2 neither -/
def HOW (c e : Int → Int → Int) (f : Int → Int) (nv trap : Int) (Q : List (Int × Int)) (z : Int) : Prop := ∃ k, FT Q trap k ∧ (¬ k < Q.length → z = 0) ∧ (k < Q.length → ∃ F, FAR c e f nv (PT Q k) F ∧ (F = (PT Q k).length → z = 1) ∧ (F ≠ (PT Q k).length → z = 2))
theorem HOW_u {c e : Int → Int → Int} {f : Int → Int} {nv trap z z' : Int} {Q : List (Int × Int)} (h : HOW c e f nv trap Q z) (h' : HOW c e f nv trap Q z') : z = z' := by
  obtain ⟨k, k1, k2, k3⟩ := h
  obtain ⟨k', l1, l2, l3⟩ := h'
  have := FT_u k1 l1
  subst this
  by_cases hk : k < Q.length
  · obtain ⟨F, f1, f2, f3⟩ := k3 hk
    obtain ⟨G, g1, g2, g3⟩ := l3 hk
    have := FAR_u f1 g1
    subst this
    by_cases hF : F = (PT Q k).length
    · rw [f2 hF, g2 hF]
    · rw [f3 hF, g3 hF]
  · rw [k2 hk, l2 hk]
abbrev schL : List (Nat × Option Int) := ptL
section ME
variable {r y : Bool} {w : mm_M}
theorem ev_m_setFor {ρ : List Int} (h : mP w) (hp : PM w ρ) (hρ : ∀ x ∈ ρ, 0 ≤ x ∧ x < w 1 0 8) : mm_Ev K_X10_setFor (0, 0) [.inr (some (1, 0))] (PH r y) w (fun a b' w' => b' = PH r y ∧ sm endL w w' ∧ ∃ z, a = some (.inl z) ∧ SF (w 1 0 6) (fun s => EN (m_c w) (m_e w) (w 3 0) (fun p => mm_or (w 6 0 p) s) (w 1 0 4) (w 1 0 6) ρ) z) := by
  refine ev_intro ok_X10_setFor mo_X10_setFor (Nat.le_of_ble_eq_true rfl) (fun hrg has => ?_)
  have hnc := h.2.2.2.1
  generalize hE : (fun s => EN (m_c w) (m_e w) (w 3 0) (fun p => mm_or (w 6 0 p) s) (w 1 0 4) (w 1 0 6) ρ) = E
  have hEs : ∀ s, EN (m_c w) (m_e w) (w 3 0) (fun p => mm_or (w 6 0 p) s) (w 1 0 4) (w 1 0 6) ρ ↔ E s := fun s => by rw [← hE]
  have h256 : 2 ^ (w 1 0 6).toNat ≤ 2 ^ 8 := Nat.pow_le_pow_right (by decide) (by omega)
  generalize hN : ((2 ^ (w 1 0 6).toNat : Nat) : Int) = N
  have hNle : 1 ≤ N ∧ N ≤ 256 := by
    have : 0 < 2 ^ (w 1 0 6).toNat := Nat.two_pow_pos _
    omega
  refine k_gp rfl rfl trivial ?_
  refine mm_loop (σ := mm_M) 3 (fun sz w1 => (1 ≤ sz ∧ sz ≤ 3) ∧ sm endL w w1 ∧ ∀ s, 1 ≤ s → s < N → pop8 s 8 < sz → 1 ≤ pop8 s 8 → ¬ E s) (fun sz w1 => ∀ l2, mm_Wk K_X10_setFor (0, 0) 2 [some (.inr (some (1, 0))), some (.inl sz), l2] [] (PH r y) w1 (fun a b' w' => b' = PH r y ∧ sm endL w w' ∧ ∃ z, a = some (.inl z) ∧ SF (w 1 0 6) E z)) ?_ ?_ 1 w ⟨by omega, sm_rf, fun s a b c d => by omega⟩ _
  · intro sz w1 h1 h2 ih l2
    obtain ⟨h2, s1, h3⟩ := h2
    refine k_gp rfl rfl trivial ?_
    refine k_brf rfl (by omega) ?_
    refine k_gp rfl rfl trivial ?_
    refine mm_loop (σ := mm_M) N (fun st w2 => (1 ≤ st ∧ st ≤ N) ∧ sm endL w w2 ∧ ∀ s, 1 ≤ s → s < st → pop8 s 8 = sz → ¬ E s) (fun st w2 => mm_Wk K_X10_setFor (0, 0) 9 [some (.inr (some (1, 0))), some (.inl sz), some (.inl st)] [] (PH r y) w2 (fun a b' w' => b' = PH r y ∧ sm endL w w' ∧ ∃ z, a = some (.inl z) ∧ SF (w 1 0 6) E z)) ?_ ?_ 1 w1 ⟨by omega, s1, fun s a b => by omega⟩
    · intro st w2 q1 q2 ih2
      obtain ⟨q2, s2, q3⟩ := q2
      have e6 : w2 1 0 6 = w 1 0 6 := s2 1 0 6 rfl
      have nxt : (pop8 st 8 = sz → ¬ E st) → ∀ w3, sm endL w w3 → mm_Wk K_X10_setFor (0, 0) 37 [some (.inr (some (1, 0))), some (.inl sz), some (.inl st)] [] (PH r y) w3 (fun a b' w' => b' = PH r y ∧ sm endL w w' ∧ ∃ z, a = some (.inl z) ∧ SF (w 1 0 6) E z) := fun hc w3 s3 => by
        refine k_gp rfl rfl (by simp only [true_and, mm_fits]; omega) ?_
        refine ih2 w3 ⟨by omega, s3, fun s a b c => ?_⟩
        by_cases hs : s = st
        · subst hs; exact hc c
        · exact q3 s a (by omega) c
      refine k_gp rfl rfl trivial ?_
      rw [e6, shl1 (g := w 1 0 6) (by omega), hN]
      refine k_brf rfl (by omega) ?_
      refine k_gp rfl rfl trivial ?_
      refine k_callp rfl (ev_m_bits (by omega)) rfl rfl rfl (by decide) ?_
      refine k_gp rfl rfl trivial ?_
      refine k_br rfl (fun g1 => nxt (fun q => absurd q g1) w2 s2) (fun g1 => ?_)
      have g1 : pop8 st 8 = sz := Classical.byContradiction g1
      obtain ⟨hP2, ec, ee⟩ := mP_sm s2 rfl (fun _ => rfl) (fun _ => rfl) (fun _ => rfl) h
      have hp2 := PM_sm s2 rfl (fun _ => rfl) hp
      refine k_gp rfl rfl trivial ?_
      refine k_call0 rfl (ev_m_isEnded (more := st) hP2 hp2 (by rw [show w2 1 0 8 = w 1 0 8 from s2 1 0 8 rfl]; exact hρ) (by omega)) rfl rfl rfl (by decide) ?_
      rintro a b' w3 ⟨rfl, s3, z, rfl, hz⟩
      rw [ec, ee, show w2 3 0 = w 3 0 from funext fun k => s2 3 0 k rfl, show w2 6 0 = w 6 0 from funext fun k => s2 6 0 k rfl, show w2 1 0 4 = w 1 0 4 from s2 1 0 4 rfl, e6, hEs] at hz
      have s03 := sm_tr s2 s3
      refine k_brz rfl (fun g2 => nxt (fun _ q => g2 (hz.mpr q)) w3 s03) (fun g2 => ?_)
      refine k_gp rfl rfl trivial ?_
      refine k_ret rfl trivial ⟨rfl, s03, st, rfl, Or.inr ⟨by rw [hN]; omega, by omega, hz.mp g2, fun s a b c d => ?_⟩⟩
      rw [hN] at b
      have hlt : ¬ pop8 s 8 < sz := fun q => h3 s a b q (by omega) d
      refine ⟨by omega, fun q => ?_⟩
      rcases Int.lt_or_le s st with z | z
      · exact absurd d (q3 s a z (by omega))
      · exact z
    · intro st w2 q1 q2
      obtain ⟨q2, s2, q3⟩ := q2
      have e6 : w2 1 0 6 = w 1 0 6 := s2 1 0 6 rfl
      refine k_gp rfl rfl trivial ?_
      rw [e6, shl1 (g := w 1 0 6) (by omega), hN]
      refine k_brt rfl (by omega) ?_
      refine k_gp rfl rfl (by simp only [true_and, mm_fits]; omega) ?_
      refine ih w2 ⟨by omega, s2, fun s a b c d => ?_⟩ _
      by_cases hs : pop8 s 8 = sz
      · exact q3 s a (by omega) hs
      · exact h3 s a b (by omega) d
  · intro sz w1 h1 h2 l2
    obtain ⟨h2, s1, h3⟩ := h2
    refine k_gp rfl rfl trivial ?_
    refine k_brt rfl (by omega) ?_
    refine k_gp rfl rfl trivial ?_
    exact k_ret rfl trivial ⟨rfl, s1, -4, rfl, Or.inl ⟨rfl, fun s a b c => by rw [hN] at b; exact h3 s a b (by omega) (by omega)⟩⟩
theorem ev_m_looksMore {ρ : List Int} {set : Int} (h : mP w) (hp : PM w ρ) (hρ : ∀ x ∈ ρ, 0 ≤ x ∧ x < w 1 0 8) : mm_Ev K_X10_looksMore (0, 0) [.inr (some (1, 0)), .inl set] (PH r y) w (fun a b' w' => a = none ∧ b' = PH r y ∧ sm [(6, none)] w w' ∧ w' 6 0 = lkU (m_e w) (w 6 0) ρ set) := by
  refine ev_intro ok_X10_looksMore mo_X10_looksMore (Nat.le_of_ble_eq_true rfl) (fun hrg has => ?_)
  have hnp := h.1
  have hne := h.2.2.2.2.1
  have hE := h.2.2.2.2.2.2.1
  obtain ⟨hp1, hp2, hp3⟩ := hp
  have oo : ∀ a : Int, mm_or (mm_or a set) set = mm_or a set := fun a => by
    unfold mm_or
    rw [mm_i3, Int32.or_assoc, Int32.or_self]
  refine k_gp rfl rfl (by simp only [true_and, mm_fits]; omega) ?_
  refine mm_loop (σ := mm_M) (ρ.length) (fun k w1 => (0 ≤ k ∧ k ≤ ρ.length) ∧ sm [(6, none)] w w1 ∧ ∀ p, w1 6 0 p = if (decide (p = 0) || (ρ.take k.toNat).any fun x => decide (m_e w x 1 = p)) = true then mm_or (w 6 0 p) set else w 6 0 p) (fun k w1 => mm_Wk K_X10_looksMore (0, 0) 12 [some (.inr (some (1, 0))), some (.inl set), some (.inl k)] [] (PH r y) w1 (fun a b' w' => a = none ∧ b' = PH r y ∧ sm [(6, none)] w w' ∧ w' 6 0 = lkU (m_e w) (w 6 0) ρ set)) ?_ ?_ 0 _ ⟨by omega, sm_up sm_rf (Or.inl (by decide)), fun p => ?_⟩
  · intro k w1 h1 h2 ih
    obtain ⟨h2, s1, h3⟩ := h2
    have hlt : k.toNat < ρ.length := by omega
    have hx : ρ.getD k.toNat 0 ∈ ρ := by
      rw [List.getD_eq_getElem?_getD, List.getElem?_eq_getElem hlt]
      exact List.getElem_mem _
    have hxr := hρ _ hx
    have hEx := hE _ hxr.1 hxr.2
    have htk : ρ.take (k + 1).toNat = ρ.take k.toNat ++ [ρ.getD k.toNat 0] := by
      rw [show (k + 1).toNat = k.toNat + 1 by omega, List.take_add_one, List.getD_eq_getElem?_getD, List.getElem?_eq_getElem hlt]
      rfl
    have hxx : w1 19 0 k = ρ.getD k.toNat 0 := by
      rw [show w1 19 0 k = w 19 0 k from s1 19 0 k rfl]
      exact hp3 k (by omega) (by omega)
    generalize ρ.getD k.toNat 0 = x at hx hxr hEx htk hxx
    have he1 : w1 5 0 (7 * x + 1) = m_e w x 1 := by
      rw [show w1 5 0 (7 * x + 1) = w 5 0 (7 * x + 1) from s1 5 0 _ rfl]; rfl
    have hb := hEx.2.1
    refine k_gp rfl rfl trivial ?_
    rw [show w1 1 0 32 = w 1 0 32 from s1 1 0 32 rfl, hp1]
    refine k_brf rfl (by omega) ?_
    refine k_gp rfl rfl (by simp only [true_and, mm_fits, hxx, he1]; omega) ?_
    rw [hxx, he1]
    refine ih _ ⟨by omega, sm_up s1 (Or.inl (by decide)), fun p => ?_⟩
    rw [up_at, htk, List.any_append, h3 p]
    by_cases hpx : p = m_e w x 1
    · subst hpx
      rw [if_pos rfl, h3]
      simp only [List.any_cons, decide_true, Bool.true_or, Bool.or_true, if_true]
      split
      · exact oo _
      · rfl
    · rw [if_neg hpx]
      simp only [List.any_cons, List.any_nil, Bool.or_false, decide_eq_false (fun q => hpx (Eq.symm q) : ¬ m_e w x 1 = p)]
  · intro k w1 h1 h2
    obtain ⟨h2, s1, h3⟩ := h2
    refine k_gp rfl rfl trivial ?_
    rw [show w1 1 0 32 = w 1 0 32 from s1 1 0 32 rfl, hp1]
    refine k_brt rfl (by omega) ?_
    refine k_ret rfl trivial ⟨rfl, rfl, s1, funext fun p => ?_⟩
    rw [h3 p, List.take_of_length_le (by omega)]
    rfl
  · rw [up_at]
    by_cases hp0 : p = 0
    · subst hp0; simp
    · simp [hp0]
theorem kep_sm {w : mm_M} : sm [(7, none), (1, some 12)] w (kepW w) := by
  unfold kepW
  refine sm_up (sm_arrw ?_ (by decide)) (Or.inr (by decide))
  unfold kepA
  split
  · exact sm_up (sm_arrw sm_rf (by decide)) (Or.inr (by decide))
  · exact sm_rf
set_option maxRecDepth 100000 in
theorem ev_m_how (h : mP w) : mm_Ev K_X10_how (0, 0) [.inr (some (1, 0))] (PH r y) w (fun a b' w' => b' = PH r y ∧ sm ptL w w' ∧ ∃ z, a = some (.inl z) ∧ HOW (m_c w) (m_e w) (w 3 0) (w 1 0 4) (w 1 0 3) (mQ w) z ∧ ∃ k, FT (mQ w) (w 1 0 3) k ∧ (z ≠ 0 → 0 ≤ k ∧ k < (mQ w).length ∧ PM w' (PT (mQ w) k)) ∧ (z = 0 ∨ z = 1 ∨ z = 2)) := by
  refine ev_intro ok_X10_how mo_X10_how (Nat.le_of_ble_eq_true rfl) (fun hrg has => ?_)
  have hne := h.2.2.2.2.1
  refine k_gp rfl rfl trivial ?_
  refine k_call0 rfl (ev_m_findsPath h) rfl rfl rfl (by decide) ?_
  rintro a b' w1 ⟨rfl, hs, k, hFT, rfl, hPM⟩
  have hW : QW (m_e w) (w 1 0 8) (mQ w) := QW_MQ hne
  have hs1 : sm ptL w w1 := sm_w hs (by decide)
  have hFT1 := hFT.1
  refine k_brn rfl (fun g2 => ?_) (fun g2 => ?_)
  · have hPM := hPM g2
    obtain ⟨p1, p2, p3⟩ := PT_ok hW (k.toNat + 1) k hFT1.1 g2 (by omega)
    obtain ⟨hP1, ec, ee⟩ := mP_sm hs1 rfl (fun _ => rfl) (fun _ => rfl) (fun _ => rfl) h
    have e8 : w1 1 0 8 = w 1 0 8 := hs1 1 0 8 rfl
    have e4 : w1 1 0 4 = w 1 0 4 := hs1 1 0 4 rfl
    have e3 : w1 3 0 = w 3 0 := funext fun k => hs1 3 0 k rfl
    refine k_gp rfl rfl trivial ?_
    refine k_call0 rfl (ev_m_farOfPath hP1 hPM (by rw [e8]; exact p2)) rfl rfl rfl (by decide) ?_
    rintro a b' w2 ⟨rfl, hs2, z, rfl, hz⟩
    rw [ec, ee, e3, e4] at hz
    have hPM2 : PM w2 (PT (mQ w) k) := PM_sm hs2 rfl (fun _ => rfl) hPM
    have hs02 : sm ptL w w2 := sm_tr hs1 (sm_w hs2 (by decide))
    refine k_gp rfl rfl trivial ?_
    rw [hPM2.1]
    refine k_br rfl (fun g3 => ?_) (fun g3 => ?_)
    · refine k_gp rfl rfl trivial ?_
      exact k_ret rfl trivial ⟨rfl, hs02, 2, rfl, ⟨k, hFT, fun q => absurd g2 q, fun _ => ⟨z, hz, fun q => absurd q g3, fun _ => rfl⟩⟩, k, hFT, fun _ => ⟨hFT1.1, g2, hPM2⟩, by omega⟩
    · have g3 : z = (PT (mQ w) k).length := Classical.byContradiction g3
      refine k_gp rfl rfl trivial ?_
      exact k_ret rfl trivial ⟨rfl, hs02, 1, rfl, ⟨k, hFT, fun q => absurd g2 q, fun _ => ⟨z, hz, fun _ => rfl, fun q => absurd g3 q⟩⟩, k, hFT, fun _ => ⟨hFT1.1, g2, hPM2⟩, by omega⟩
  · refine k_gp rfl rfl trivial ?_
    exact k_ret rfl trivial ⟨rfl, hs1, 0, rfl, ⟨k, hFT, fun _ => rfl, fun q => absurd q g2⟩, k, hFT, fun q => absurd rfl q, by omega⟩
set_option maxRecDepth 100000 in
theorem ev_m_mend (h : mP w) (hc : 0 ≤ w 1 0 12 ∧ w 1 0 12 ≤ 6) : mm_Ev K_X10_mend (0, 0) [.inr (some (1, 0))] (PH r y) w (fun a b' w' => b' = PH r y ∧ ∃ z0 z, a = some (.inl z) ∧ HOW (m_c w) (m_e w) (w 3 0) (w 1 0 4) (w 1 0 3) (mQ w) z0 ∧ (z0 ≠ 2 → z = -2 ∧ sm schL w w') ∧ (z0 = 2 → ∃ k, FT (mQ w) (w 1 0 3) k ∧ SF (w 1 0 6) (fun s => EN (m_c w) (m_e w) (w 3 0) (fun p => mm_or (w 6 0 p) s) (w 1 0 4) (w 1 0 6) (PT (mQ w) k)) z ∧ (z < 0 → sm schL w w') ∧ (0 < z → ∃ w1, sm schL w w1 ∧ sm [(6, none)] (kepW w1) w' ∧ w' 6 0 = lkU (m_e w) (w 6 0) (PT (mQ w) k) z))) := by
  refine ev_intro ok_X10_mend mo_X10_mend (Nat.le_of_ble_eq_true rfl) (fun hrg has => ?_)
  have hne := h.2.2.2.2.1
  have J18 : ∀ l1 w', sm schL w w' → (∃ z0, HOW (m_c w) (m_e w) (w 3 0) (w 1 0 4) (w 1 0 3) (mQ w) z0 ∧ z0 ≠ 2) → mm_Wk K_X10_mend (0, 0) 18 [some (.inr (some (1, 0))), l1] [] (PH r y) w' (fun a b' w' => b' = PH r y ∧ ∃ z0 z, a = some (.inl z) ∧ HOW (m_c w) (m_e w) (w 3 0) (w 1 0 4) (w 1 0 3) (mQ w) z0 ∧ (z0 ≠ 2 → z = -2 ∧ sm schL w w') ∧ (z0 = 2 → ∃ k, FT (mQ w) (w 1 0 3) k ∧ SF (w 1 0 6) (fun s => EN (m_c w) (m_e w) (w 3 0) (fun p => mm_or (w 6 0 p) s) (w 1 0 4) (w 1 0 6) (PT (mQ w) k)) z ∧ (z < 0 → sm schL w w') ∧ (0 < z → ∃ w1, sm schL w w1 ∧ sm [(6, none)] (kepW w1) w' ∧ w' 6 0 = lkU (m_e w) (w 6 0) (PT (mQ w) k) z))) := fun l1 w' s1 ⟨z0, hz, hz2⟩ => by
    refine k_gp rfl rfl trivial ?_
    exact k_ret rfl trivial ⟨rfl, z0, -2, rfl, hz, fun _ => ⟨rfl, s1⟩, fun q => absurd q hz2⟩
  refine k_gp rfl rfl trivial ?_
  refine k_call0 rfl (ev_m_findsPath h) rfl rfl rfl (by decide) ?_
  rintro a b' w1 ⟨rfl, hs, k, hFT, rfl, hPM⟩
  have hW : QW (m_e w) (w 1 0 8) (mQ w) := QW_MQ hne
  have hs1 : sm ptL w w1 := sm_w hs (by decide)
  have hFT1 := hFT.1
  refine k_brz rfl (fun g2 => ?_) (fun g2 => ?_)
  · exact J18 _ _ hs1 ⟨0, ⟨k, hFT, fun _ => rfl, fun q => absurd q g2⟩, by decide⟩
  · have hPM := hPM g2
    obtain ⟨p1, p2, p3⟩ := PT_ok hW (k.toNat + 1) k hFT1.1 g2 (by omega)
    obtain ⟨hP1, ec, ee⟩ := mP_sm hs1 rfl (fun _ => rfl) (fun _ => rfl) (fun _ => rfl) h
    have e8 : w1 1 0 8 = w 1 0 8 := hs1 1 0 8 rfl
    have e4 : w1 1 0 4 = w 1 0 4 := hs1 1 0 4 rfl
    have e3 : w1 3 0 = w 3 0 := funext fun k => hs1 3 0 k rfl
    refine k_gp rfl rfl trivial ?_
    refine k_call0 rfl (ev_m_farOfPath hP1 hPM (by rw [e8]; exact p2)) rfl rfl rfl (by decide) ?_
    rintro a b' w2 ⟨rfl, hs2, z, rfl, hz⟩
    rw [ec, ee, e3, e4] at hz
    have hPM2 : PM w2 (PT (mQ w) k) := PM_sm hs2 rfl (fun _ => rfl) hPM
    have hs02 : sm ptL w w2 := sm_tr hs1 (sm_w hs2 (by decide))
    refine k_gp rfl rfl trivial ?_
    rw [hPM2.1]
    refine k_br rfl (fun g3 => ?_) (fun g3 => ?_)
    · obtain ⟨hP2, ec, ee⟩ := mP_sm hs02 rfl (fun _ => rfl) (fun _ => rfl) (fun _ => rfl) h
      refine k_gp rfl rfl trivial ?_
      refine k_call0 rfl (ev_m_setFor hP2 hPM2 (by rw [show w2 1 0 8 = w 1 0 8 from hs02 1 0 8 rfl]; exact p2)) rfl rfl rfl (by decide) ?_
      rintro a b' w3 ⟨rfl, hs3, u, rfl, hu⟩
      rw [ec, ee, show w2 3 0 = w 3 0 from funext fun k => hs02 3 0 k rfl, show w2 6 0 = w 6 0 from funext fun k => hs02 6 0 k rfl, show w2 1 0 4 = w 1 0 4 from hs02 1 0 4 rfl, show w2 1 0 6 = w 1 0 6 from hs02 1 0 6 rfl] at hu
      have hs03 : sm schL w w3 := sm_tr hs02 (sm_w hs3 (by decide))
      have hH : HOW (m_c w) (m_e w) (w 3 0) (w 1 0 4) (w 1 0 3) (mQ w) 2 := ⟨k, hFT, fun q => absurd g2 q, fun _ => ⟨z, hz, fun q => absurd q g3, fun _ => rfl⟩⟩
      refine k_gp rfl rfl trivial ?_
      refine k_br rfl (fun g4 => ?_) (fun g4 => ?_)
      · refine k_gp rfl rfl trivial ?_
        exact k_ret rfl trivial ⟨rfl, 2, u, rfl, hH, fun q => absurd rfl q, fun _ => ⟨k, hFT, hu, fun _ => hs03, fun q => by omega⟩⟩
      · have hc3 : w3 1 0 12 = w 1 0 12 := hs03 1 0 12 rfl
        obtain ⟨hP3, ec3, ee3⟩ := mP_sm hs03 rfl (fun _ => rfl) (fun _ => rfl) (fun _ => rfl) h
        have hPM3 : PM w3 (PT (mQ w) k) := PM_sm hs3 rfl (fun _ => rfl) hPM2
        refine k_gp rfl rfl trivial ?_
        refine k_callp rfl (ev_m_keeps (by omega)) rfl rfl rfl (by decide) ?_
        have sk := kep_sm (w := w3)
        obtain ⟨hP4, ec4, ee4⟩ := mP_sm sk rfl (fun _ => rfl) (fun _ => rfl) (fun _ => rfl) hP3
        have hPM4 : PM (kepW w3) (PT (mQ w) k) := PM_sm sk rfl (fun _ => rfl) hPM3
        refine k_gp rfl rfl trivial ?_
        refine k_call0 rfl (ev_m_looksMore (set := u) hP4 hPM4 (by rw [show kepW w3 1 0 8 = w3 1 0 8 from sk 1 0 8 rfl, show w3 1 0 8 = w 1 0 8 from hs03 1 0 8 rfl]; exact p2)) rfl rfl rfl (by decide) ?_
        rintro a b' w5 ⟨rfl, rfl, hs5, hu5⟩
        rw [ee4, ee3, show kepW w3 6 0 = w 6 0 from funext fun k => (sk 6 0 k rfl).trans (hs03 6 0 k rfl)] at hu5
        refine k_gp rfl rfl trivial ?_
        exact k_ret rfl trivial ⟨rfl, 2, u, rfl, hH, fun q => absurd rfl q, fun _ => ⟨k, hFT, hu, fun q => by omega, fun _ => ⟨w3, hs03, hs5, hu5⟩⟩⟩
    · have g3 : z = (PT (mQ w) k).length := Classical.byContradiction g3
      exact J18 _ _ hs02 ⟨1, ⟨k, hFT, fun q => absurd g2 q, fun _ => ⟨z, hz, fun _ => rfl, fun q => absurd g3 q⟩⟩, by decide⟩
end ME
end
section
/-! ===== the reference: check(), count() ===== -/
/-- rounds of mending: how it stands, how it ends and what is looked at then -/
def CKR (c e : Int → Int → Int) (f : Int → Int) (nv nc ne trap : Int) : Nat → (Int → Int) → Int → Int → (Int → Int) → Prop
  | 0, lk, h, z, lk' => z = h ∧ lk' = lk
  | n + 1, lk, h, z, lk' => (h ≠ 2 → z = h ∧ lk' = lk) ∧ (h = 2 → ∃ k s, FT (MQ_ c e f lk nv nc ne) trap k ∧ SF nc (fun s => EN c e f (fun p => mm_or (lk p) s) nv nc (PT (MQ_ c e f lk nv nc ne) k)) s ∧ (s < 0 → z = 3 ∧ lk' = lk) ∧ (0 ≤ s → ∃ h', HOW c e f nv trap (MQ_ c e f (lkU e lk (PT (MQ_ c e f lk nv nc ne) k) s) nv nc ne) h' ∧ CKR c e f nv nc ne trap n (lkU e lk (PT (MQ_ c e f lk nv nc ne) k) s) h' z lk'))
theorem CKR_u {c e : Int → Int → Int} {f : Int → Int} {nv nc ne trap : Int} : ∀ (n : Nat) {lk : Int → Int} {h z : Int} {lk' : Int → Int} {z2 : Int} {lk2 : Int → Int}, CKR c e f nv nc ne trap n lk h z lk' → CKR c e f nv nc ne trap n lk h z2 lk2 → z = z2 ∧ lk' = lk2
  | 0, lk, h, z, lk', z2, lk2, a, b => ⟨a.1.trans b.1.symm, a.2.trans b.2.symm⟩
  | n + 1, lk, h, z, lk', z2, lk2, a, b => by
    by_cases hh : h = 2
    · obtain ⟨k, s, a1, a2, a3, a4⟩ := a.2 hh
      obtain ⟨k', s', b1, b2, b3, b4⟩ := b.2 hh
      have := FT_u a1 b1
      subst this
      have := SF_u a2 b2
      subst this
      rcases Int.lt_or_le s 0 with q | q
      · exact ⟨(a3 q).1.trans (b3 q).1.symm, (a3 q).2.trans (b3 q).2.symm⟩
      · obtain ⟨h1, a5, a6⟩ := a4 q
        obtain ⟨h2, b5, b6⟩ := b4 q
        have := HOW_u a5 b5
        subst this
        exact CKR_u n a6 b6
    · exact ⟨(a.1 hh).1.trans (b.1 hh).1.symm, (a.1 hh).2.trans (b.1 hh).2.symm⟩
/-- what is looked at, counted -/
def tot (lk : Int → Int) : Nat → Int
  | 0 => 0
  | k + 1 => tot lk k + pop8 (lk k) 8
section ME
variable {r y : Bool} {w : mm_M}
theorem orN {n : Nat} (hn : n ≤ 8) {a b : Int} (ha : 0 ≤ a ∧ a < ((2 ^ n : Nat) : Int)) (hb : 0 ≤ b ∧ b < ((2 ^ n : Nat) : Int)) : 0 ≤ mm_or a b ∧ mm_or a b < ((2 ^ n : Nat) : Int) := by
  have h8 : 2 ^ n ≤ 2 ^ 8 := Nat.pow_le_pow_right (by decide) hn
  obtain ⟨x, rfl⟩ := Int.eq_ofNat_of_zero_le ha.1
  obtain ⟨z, rfl⟩ := Int.eq_ofNat_of_zero_le hb.1
  have : x ||| z < 2 ^ n := Nat.or_lt_two_pow (by omega) (by omega)
  rw [bb_or (by omega) (by omega)]
  omega
theorem lkU_hi {e : Int → Int → Int} {lk : Int → Int} {ρ : List Int} {set p : Int} (hp : 8 ≤ p) (hρ : ∀ x ∈ ρ, e x 1 < 8) : lkU e lk ρ set p = lk p := by
  unfold lkU
  rw [if_neg]
  intro q
  unfold onP at q
  rw [Bool.or_eq_true, decide_eq_true_eq, List.any_eq_true] at q
  rcases q with q | ⟨x, hx, q⟩
  · omega
  · have := hρ x hx
    have := of_decide_eq_true q
    omega
theorem mP_lkU {w' : mm_M} {ρ : List Int} {set : Int} (h : mP w) (hρ : ∀ x ∈ ρ, 0 ≤ x ∧ x < w 1 0 8) (hs : 0 ≤ set ∧ set < ((2 ^ (w 1 0 6).toNat : Nat) : Int)) (s1 : sm [(6, none)] w w') (hu : w' 6 0 = lkU (m_e w) (w 6 0) ρ set) : mP w' ∧ m_c w' = m_c w ∧ m_e w' = m_e w := by
  have hnp := h.1
  have hnc := h.2.2.2.1
  have hE := h.2.2.2.2.2.2.1
  have hr : ∀ x ∈ ρ, m_e w x 1 < 8 := fun x hx => by
    have := (hE x (hρ x hx).1 (hρ x hx).2).2.1
    omega
  have e1 : m_c w' = m_c w := by
    funext g k
    exact s1 4 0 _ rfl
  have e2 : m_e w' = m_e w := by
    funext x k
    unfold m_e
    split
    · rw [hu, lkU_hi (by omega) hr]
    · exact s1 5 0 _ rfl
  refine ⟨?_, e1, e2⟩
  unfold mP
  rw [e1, e2, s1 1 0 2 rfl, s1 1 0 3 rfl, s1 1 0 4 rfl, s1 1 0 6 rfl, s1 1 0 8 rfl]
  refine ⟨h.1, h.2.1, h.2.2.1, h.2.2.2.1, h.2.2.2.2.1, h.2.2.2.2.2.1, h.2.2.2.2.2.2.1, fun p a b => ?_⟩
  have h0 := h.2.2.2.2.2.2.2 p a b
  rw [hu]
  unfold lkU
  split
  · exact orN (by omega) h0 hs
  · exact h0
abbrev ckL : List (Nat × Option Int) := (6, none) :: ptL
set_option maxRecDepth 100000 in
theorem ev_m_check {m : Int} (h : mP w) (hc : 0 ≤ w 1 0 12 ∧ w 1 0 12 ≤ 6) : mm_Ev K_X10_check (0, 0) [.inr (some (1, 0)), .inl m] (PH r y) w (fun a b' w' => b' = PH r y ∧ (¬ (1 ≤ m ∧ m ≤ 9) → a = some (.inl (-1)) ∧ w' = w) ∧ ((1 ≤ m ∧ m ≤ 9) → ∃ z h0, a = some (.inl z) ∧ HOW (m_c w) (m_e w) (w 3 0) (w 1 0 4) (w 1 0 3) (mQ w) h0 ∧ sm ckL (kepW w) w' ∧ CKR (m_c w) (m_e w) (w 3 0) (w 1 0 4) (w 1 0 6) (w 1 0 8) (w 1 0 3) m.toNat (w 6 0) h0 z (w' 6 0))) := by
  refine ev_intro ok_X10_check mo_X10_check (Nat.le_of_ble_eq_true rfl) (fun hrg has => ?_)
  refine k_gp rfl rfl trivial ?_
  refine k_callp rfl ev_m_isIn rfl rfl rfl (by decide) ?_
  refine k_brn rfl (fun g1 => ?_) (fun g1 => ?_)
  · refine k_gp rfl rfl trivial ?_
    refine k_callp rfl (ev_m_keeps hc) rfl rfl rfl (by decide) ?_
    have sk := kep_sm (w := w)
    obtain ⟨hP1, ec1, ee1⟩ := mP_sm sk rfl (fun _ => rfl) (fun _ => rfl) (fun _ => rfl) h
    have k3 : kepW w 3 0 = w 3 0 := funext fun k => sk 3 0 k rfl
    have k6 : kepW w 6 0 = w 6 0 := funext fun k => sk 6 0 k rfl
    have i3 : kepW w 1 0 3 = w 1 0 3 := sk 1 0 3 rfl
    have i4 : kepW w 1 0 4 = w 1 0 4 := sk 1 0 4 rfl
    have i6 : kepW w 1 0 6 = w 1 0 6 := sk 1 0 6 rfl
    have i8 : kepW w 1 0 8 = w 1 0 8 := sk 1 0 8 rfl
    have kQ : mQ (kepW w) = mQ w := by
      show MQ_ _ _ _ _ _ _ _ = MQ_ _ _ _ _ _ _ _
      rw [ec1, ee1, k3, k6, i4, i6, i8]
    rw [← kQ]
    generalize hw1 : kepW w = w1 at *
    rw [← ec1, ← ee1, ← k3, ← k6, ← i3, ← i4, ← i6, ← i8]
    clear sk ec1 ee1 k3 k6 i3 i4 i6 i8 hw1 kQ
    have hne := hP1.2.2.2.2.1
    have hnc := hP1.2.2.2.1
    refine k_gp rfl rfl trivial ?_
    refine k_call0 rfl (ev_m_how hP1) rfl rfl rfl (by decide) ?_
    rintro a b' w2 ⟨rfl, s2, h0, rfl, hH, k0, hF, hPk, hz⟩
    refine k_gp rfl rfl trivial ?_
    have nQ : ∀ {wa wb : mm_M}, m_c wb = m_c wa → m_e wb = m_e wa → wb 3 0 = wa 3 0 → wb 6 0 = wa 6 0 → wb 1 0 4 = wa 1 0 4 → wb 1 0 6 = wa 1 0 6 → wb 1 0 8 = wa 1 0 8 → mQ wb = mQ wa := fun q1 q2 q3 q4 q5 q6 q7 => by
      show MQ_ _ _ _ _ _ _ _ = MQ_ _ _ _ _ _ _ _
      rw [q1, q2, q3, q4, q5, q6, q7]
    refine mm_loop (σ := mm_M × Int) m (fun k s => (0 ≤ k ∧ k ≤ m) ∧ sm ckL w1 s.1 ∧ mP s.1 ∧ m_e s.1 = m_e w1 ∧ (∃ kk, FT (mQ s.1) (w1 1 0 3) kk ∧ (s.2 ≠ 0 → 0 ≤ kk ∧ kk < (mQ s.1).length ∧ PM s.1 (PT (mQ s.1) kk))) ∧ (s.2 = 0 ∨ s.2 = 1 ∨ s.2 = 2) ∧ ∀ z lk', CKR (m_c w1) (m_e w1) (w1 3 0) (w1 1 0 4) (w1 1 0 6) (w1 1 0 8) (w1 1 0 3) (m - k).toNat (s.1 6 0) s.2 z lk' → CKR (m_c w1) (m_e w1) (w1 3 0) (w1 1 0 4) (w1 1 0 6) (w1 1 0 8) (w1 1 0 3) m.toNat (w1 6 0) h0 z lk') (fun k s => ∀ l4, mm_Wk K_X10_check (0, 0) 23 [some (.inr (some (1, 0))), some (.inl m), some (.inl s.2), some (.inl k), l4] [] (PH r y) s.1 (fun a b' w' => b' = PH r y ∧ (¬ (1 ≤ m ∧ m ≤ 9) → a = some (.inl (-1)) ∧ w' = w) ∧ ((1 ≤ m ∧ m ≤ 9) → ∃ z h0, a = some (.inl z) ∧ HOW (m_c w1) (m_e w1) (w1 3 0) (w1 1 0 4) (w1 1 0 3) (mQ w1) h0 ∧ sm ckL w1 w' ∧ CKR (m_c w1) (m_e w1) (w1 3 0) (w1 1 0 4) (w1 1 0 6) (w1 1 0 8) (w1 1 0 3) m.toNat (w1 6 0) h0 z (w' 6 0)))) ?_ ?_ 0 (w2, h0) ?_ _
    · rintro k ⟨w3, hh⟩ q1 ⟨q2, s3, hP3, ee3, ⟨kk, hF3, hPM3⟩, hz3, hK⟩ ih l4
      dsimp only at hP3 ee3 hF3 hPM3 hz3 hK s3 ⊢
      have ec3 : m_c w3 = m_c w1 := by
        funext g k
        exact s3 4 0 _ rfl
      have j3 : w3 3 0 = w1 3 0 := funext fun k => s3 3 0 k rfl
      have t3 : w3 1 0 3 = w1 1 0 3 := s3 1 0 3 rfl
      have t4 : w3 1 0 4 = w1 1 0 4 := s3 1 0 4 rfl
      have t6 : w3 1 0 6 = w1 1 0 6 := s3 1 0 6 rfl
      have t8 : w3 1 0 8 = w1 1 0 8 := s3 1 0 8 rfl
      have hQ3 : mQ w3 = MQ_ (m_c w1) (m_e w1) (w1 3 0) (w3 6 0) (w1 1 0 4) (w1 1 0 6) (w1 1 0 8) := by
        show MQ_ _ _ _ _ _ _ _ = MQ_ _ _ _ _ _ _ _
        rw [ec3, ee3, j3, t4, t6, t8]
      have hmk : (m - k).toNat = (m - (k + 1)).toNat + 1 := by omega
      rw [hmk] at hK
      refine k_gp rfl rfl trivial ?_
      refine k_brf rfl (by omega) ?_
      refine k_gp rfl rfl trivial ?_
      refine k_br rfl (fun g2 => ?_) (fun g2 => ?_)
      · refine k_gp rfl rfl trivial ?_
        exact k_ret rfl trivial ⟨rfl, fun q => absurd g1 q, fun _ => ⟨hh, h0, rfl, hH, s3, hK _ _ ⟨fun _ => ⟨rfl, rfl⟩, fun q => absurd q g2⟩⟩⟩
      · have g2 : hh = 2 := Classical.byContradiction g2
        obtain ⟨kk0, kk1, hPM3⟩ := hPM3 (by omega)
        have hW : QW (m_e w3) (w3 1 0 8) (mQ w3) := QW_MQ (by rw [t8]; exact hne)
        obtain ⟨p1, p2, p3⟩ := PT_ok hW (kk.toNat + 1) kk kk0 kk1 (by omega)
        refine k_gp rfl rfl trivial ?_
        refine k_call0 rfl (ev_m_setFor hP3 hPM3 p2) rfl rfl rfl (by decide) ?_
        rintro a b' w4 ⟨rfl, s4, u, rfl, hu⟩
        have s04 : sm ckL w1 w4 := sm_tr s3 (sm_w s4 (by decide))
        have j46 : w4 6 0 = w3 6 0 := funext fun k => s4 6 0 k rfl
        refine k_gp rfl rfl trivial ?_
        refine k_br rfl (fun g3 => ?_) (fun g3 => ?_)
        · obtain ⟨hP4, ec4, ee4⟩ := mP_sm s4 rfl (fun _ => rfl) (fun _ => rfl) (fun _ => rfl) hP3
          have hPM4 := PM_sm s4 rfl (fun _ => rfl) hPM3
          have hur : 0 ≤ u ∧ u < ((2 ^ (w4 1 0 6).toNat : Nat) : Int) := by
            rcases hu with ⟨q, _⟩ | ⟨q, _⟩
            · omega
            · rw [show w4 1 0 6 = w3 1 0 6 from s4 1 0 6 rfl]; omega
          have p4 : ∀ x ∈ PT (mQ w3) kk, 0 ≤ x ∧ x < w4 1 0 8 := by
            rw [show w4 1 0 8 = w3 1 0 8 from s4 1 0 8 rfl]; exact p2
          refine k_gp rfl rfl trivial ?_
          refine k_call0 rfl (ev_m_looksMore (set := u) hP4 hPM4 p4) rfl rfl rfl (by decide) ?_
          rintro a b' w5 ⟨rfl, rfl, s5, hu5⟩
          obtain ⟨hP5, ec5, ee5⟩ := mP_lkU hP4 p4 hur s5 hu5
          rw [ee4, ee3, j46] at hu5
          have s05 : sm ckL w1 w5 := sm_tr s04 (sm_w s5 (by decide))
          refine k_gp rfl rfl trivial ?_
          refine k_call0 rfl (ev_m_how hP5) rfl rfl rfl (by decide) ?_
          rintro a b' w6 ⟨rfl, s6, h6, rfl, hH6, k6, hF6, hPk6, hz6⟩
          obtain ⟨hP6, ec6, ee6⟩ := mP_sm s6 rfl (fun _ => rfl) (fun _ => rfl) (fun _ => rfl) hP5
          have s06 : sm ckL w1 w6 := sm_tr s05 (sm_w s6 (by decide))
          have j66 : w6 6 0 = w5 6 0 := funext fun k => s6 6 0 k rfl
          have hQ6 : mQ w6 = mQ w5 := nQ ec6 ee6 (funext fun k => s6 3 0 k rfl) j66 (s6 1 0 4 rfl) (s6 1 0 6 rfl) (s6 1 0 8 rfl)
          have hQ5 : mQ w5 = MQ_ (m_c w1) (m_e w1) (w1 3 0) (lkU (m_e w1) (w3 6 0) (PT (mQ w3) kk) u) (w1 1 0 4) (w1 1 0 6) (w1 1 0 8) := by
            show MQ_ _ _ _ _ _ _ _ = MQ_ _ _ _ _ _ _ _
            rw [ec5, ec4, ec3, ee5, ee4, ee3, hu5, show w5 3 0 = w1 3 0 from funext fun k => s05 3 0 k rfl, show w5 1 0 4 = w1 1 0 4 from s05 1 0 4 rfl, show w5 1 0 6 = w1 1 0 6 from s05 1 0 6 rfl, show w5 1 0 8 = w1 1 0 8 from s05 1 0 8 rfl]
          rw [show w5 1 0 3 = w1 1 0 3 from s05 1 0 3 rfl] at hF6
          refine k_gp rfl rfl (by simp only [true_and, mm_fits]; omega) ?_
          refine ih (w6, h6) ⟨by omega, s06, hP6, by rw [ee6, ee5, ee4, ee3], ⟨k6, by rw [hQ6]; exact hF6, fun q => by rw [hQ6]; exact hPk6 q⟩, hz6, fun z lk' q => ?_⟩ _
          refine hK z lk' ⟨fun q => absurd g2 q, fun _ => ⟨kk, u, ?_, ?_, fun q => by omega, fun _ => ⟨h6, ?_, ?_⟩⟩⟩
          · rw [← hQ3]; exact hF3
          · rw [← hQ3]
            rw [ec3, ee3, j3, t4, t6] at hu
            exact hu
          · rw [← hQ3, ← hQ5]
            rw [ec5, ec4, ec3, ee5, ee4, ee3, show w5 3 0 = w1 3 0 from funext fun k => s05 3 0 k rfl, show w5 1 0 4 = w1 1 0 4 from s05 1 0 4 rfl, show w5 1 0 3 = w1 1 0 3 from s05 1 0 3 rfl] at hH6
            exact hH6
          · rw [← hQ3, ← hu5, ← j66]
            exact q
        · refine k_gp rfl rfl trivial ?_
          refine k_ret rfl trivial ⟨rfl, fun q => absurd g1 q, fun _ => ⟨3, h0, rfl, hH, s04, hK _ _ ⟨fun q => absurd g2 q, fun _ => ⟨kk, u, ?_, ?_, fun _ => ⟨rfl, j46⟩, fun q => by omega⟩⟩⟩⟩
          · rw [← hQ3]; exact hF3
          · rw [← hQ3]
            rw [ec3, ee3, j3, t4, t6] at hu
            exact hu
    · rintro k ⟨w3, hh⟩ q1 ⟨q2, s3, hP3, ee3, ⟨kk, hF3, hPM3⟩, hz3, hK⟩ l4
      rw [show (m - k).toNat = 0 by omega] at hK
      refine k_gp rfl rfl trivial ?_
      refine k_brt rfl (by omega) ?_
      refine k_gp rfl rfl trivial ?_
      exact k_ret rfl trivial ⟨rfl, fun q => absurd g1 q, fun _ => ⟨hh, h0, rfl, hH, s3, hK _ _ ⟨rfl, rfl⟩⟩⟩
    · obtain ⟨hP2, ec2, ee2⟩ := mP_sm s2 rfl (fun _ => rfl) (fun _ => rfl) (fun _ => rfl) hP1
      have j6 : w2 6 0 = w1 6 0 := funext fun k => s2 6 0 k rfl
      have hQ2 : mQ w2 = mQ w1 := nQ ec2 ee2 (funext fun k => s2 3 0 k rfl) j6 (s2 1 0 4 rfl) (s2 1 0 6 rfl) (s2 1 0 8 rfl)
      refine ⟨by omega, sm_w s2 (by decide), hP2, ee2, ⟨k0, by rw [hQ2]; exact hF, fun q => by rw [hQ2]; exact hPk q⟩, hz, fun z lk' q => ?_⟩
      rw [show m - 0 = m by omega] at q
      dsimp only at q
      rw [j6] at q
      exact q
  · refine k_gp rfl rfl trivial ?_
    exact k_ret rfl trivial ⟨rfl, fun _ => ⟨rfl, rfl⟩, fun q => absurd q g1⟩
theorem ev_m_count {i : Int} (h : mP w) : mm_Ev K_X10_count (0, 0) [.inr (some (1, 0)), .inl i] (PH r y) w (fun a b' w' => b' = PH r y ∧ sm ptL w w' ∧ a = some (.inl (if i = 0 then w 1 0 2 else if i = 1 then w 1 0 3 else if i = 2 then w 1 0 4 else if i = 3 then w 1 0 6 else if i = 4 then w 1 0 8 else if i = 5 then tot (w 6 0) (w 1 0 2).toNat else if i = 6 then (mQ w).length else if i = 7 then w 1 0 12 else if i = 8 then w 1 0 0 else -1))) := by
  refine ev_intro ok_X10_count mo_X10_count (Nat.le_of_ble_eq_true rfl) (fun hrg has => ?_)
  have hnp := h.1
  refine k_gp rfl rfl trivial ?_
  refine k_ts rfl rfl ⟨fun g => ?_, fun g => ?_, fun g => ?_, fun g => ?_, fun g => ?_, fun g => ?_, fun g => ?_, fun g => ?_, fun g => ?_, trivial⟩ (fun g => ?_)
  · have g : i = 0 := by omega
    subst g
    refine k_gp rfl rfl trivial ?_
    exact k_ret rfl trivial ⟨rfl, sm_rf, rfl⟩
  · have g : i = 1 := by omega
    subst g
    refine k_gp rfl rfl trivial ?_
    exact k_ret rfl trivial ⟨rfl, sm_rf, rfl⟩
  · have g : i = 2 := by omega
    subst g
    refine k_gp rfl rfl trivial ?_
    exact k_ret rfl trivial ⟨rfl, sm_rf, rfl⟩
  · have g : i = 3 := by omega
    subst g
    refine k_gp rfl rfl trivial ?_
    exact k_ret rfl trivial ⟨rfl, sm_rf, rfl⟩
  · have g : i = 4 := by omega
    subst g
    refine k_gp rfl rfl trivial ?_
    exact k_ret rfl trivial ⟨rfl, sm_rf, rfl⟩
  · have g : i = 5 := by omega
    subst g
    refine k_gp rfl rfl trivial ?_
    refine mm_loop (σ := Unit) (w 1 0 2) (fun k _ => 0 ≤ k ∧ k ≤ w 1 0 2 ∧ 0 ≤ tot (w 6 0) k.toNat ∧ tot (w 6 0) k.toNat ≤ 8 * k) (fun k _ => mm_Wk K_X10_count (0, 0) 81 [some (.inr (some (1, 0))), some (.inl 5), some (.inl (tot (w 6 0) k.toNat)), some (.inl k)] [] (PH r y) w (fun a b' w' => b' = PH r y ∧ sm ptL w w' ∧ a = some (.inl (tot (w 6 0) (w 1 0 2).toNat)))) ?_ ?_ 0 () ⟨by omega, by omega, Int.le_refl 0, Int.le_refl 0⟩
    · rintro k - q1 ⟨q2, q3, q4, q5⟩ ih
      have hb := mP_255 h (p := k) (by omega) (by omega)
      have hp8 := pop8_in (w 6 0 k) 8
      have ht : tot (w 6 0) (k + 1).toNat = tot (w 6 0) k.toNat + pop8 (w 6 0 k) 8 := by
        rw [show (k + 1).toNat = k.toNat + 1 by omega]
        show _ + pop8 (w 6 0 ((k.toNat : Nat) : Int)) 8 = _
        rw [show ((k.toNat : Nat) : Int) = k by omega]
      refine k_gp rfl rfl trivial ?_
      refine k_brf rfl (by omega) ?_
      refine k_gp rfl rfl (by simp only [true_and, mm_fits]; omega) ?_
      refine k_callp rfl (ev_m_bits (by omega)) rfl rfl rfl (by decide) ?_
      refine k_gp rfl rfl (by simp only [true_and, mm_fits]; omega) ?_
      rw [← ht]
      exact ih () ⟨by omega, by omega, by omega, by omega⟩
    · rintro k - q1 ⟨q2, q3, q4, q5⟩
      have : k = w 1 0 2 := by omega
      subst this
      refine k_gp rfl rfl trivial ?_
      refine k_brt rfl (by omega) ?_
      refine k_gp rfl rfl trivial ?_
      exact k_ret rfl trivial ⟨rfl, sm_rf, rfl⟩
  · have g : i = 6 := by omega
    subst g
    refine k_gp rfl rfl trivial ?_
    refine k_call0 rfl (ev_m_looks h) rfl rfl rfl (by decide) ?_
    rintro a b' w1 ⟨rfl, rfl, s1, hq⟩
    refine k_gp rfl rfl trivial ?_
    refine k_ret rfl trivial ⟨rfl, sm_w s1 (by decide), ?_⟩
    rw [hq.1]
    rfl
  · have g : i = 7 := by omega
    subst g
    refine k_gp rfl rfl trivial ?_
    exact k_ret rfl trivial ⟨rfl, sm_rf, rfl⟩
  · have g : i = 8 := by omega
    subst g
    refine k_gp rfl rfl trivial ?_
    exact k_ret rfl trivial ⟨rfl, sm_rf, rfl⟩
  · refine k_gp rfl rfl trivial ?_
    refine k_ret rfl trivial ⟨rfl, sm_rf, ?_⟩
    rw [if_neg (by omega), if_neg (by omega), if_neg (by omega), if_neg (by omega), if_neg (by omega), if_neg (by omega), if_neg (by omega), if_neg (by omega), if_neg (by omega)]
end ME
end
section
/-! ===== rows that only the class needs: shifts without a sign, constants, min, max, copies ===== -/
def mm_ushr (x y : Int) : Int := ((Int32.ofInt x).toUInt32 >>> ((Int32.ofInt y).toUInt32 &&& Int32.toUInt32 31)).toInt32.toInt
/-- a row of numbers, copied -/
def mm_cp (w : mm_M) (g0 : Nat) (j0 sp : Int) (g1 : Nat) (j1 dp n : Int) : mm_M := fun g j k => if g = g1 ∧ j = j1 ∧ dp ≤ k ∧ k < dp + n then w g0 j0 (sp + (k - dp)) else w g j k
section MMR9
variable {K : mm_K} {n : Nat × Nat} {pc : Nat} {ls : List (Option mm_V)} {st : List mm_V} {b : mm_B} {w : mm_M} {Q : Option mm_V → mm_B → mm_M → Prop}
theorem k_dec {q : mm_I} {z : List mm_I} (hl : mm_lk K.2.2.1 pc = q :: z) {L : Nat} (hn : mm_il q.2.1 = L + 1) (h : decode K.1.2.1 pc = .ok (q.2.1, L + 1) → mm_Wk K n pc ls st b w Q) : mm_Wk K n pc ls st b w Q := by
  refine k_ko fun hK => h ?_
  obtain ⟨hm, he⟩ := mm_lk_hd hl
  obtain ⟨h1, h2, h3, h4⟩ := hK.1 q hm
  subst he
  have h5 := h4.resolve_left (by omega)
  rw [h1, show q.2.2 - q.1 = L + 1 by omega]
theorem k_iushr {x y : Int} {p' : Nat} {z : List mm_I} (hl : mm_lk K.2.2.1 pc = (pc, .iushr, p') :: z) (k : mm_Wk K n (pc + 1) ls (.inl (mm_ushr x y) :: st) b w Q) : mm_Wk K n pc ls (.inl y :: .inl x :: st) b w Q := by
  refine k_dec hl (L := 0) rfl fun hd => ?_
  intro p l e R s m args below meth c X α0 b0 A H locs cells slots α kls ⟨hC, hR, hA, hS, hO, hL, hst, hn⟩
  refine lv_iushr hC.1 hC.2.1 hd rfl ?_
  have k := k p l e R s m args below meth c X α0 b0 A H locs cells slots α kls ⟨hC, hR, hA, hS, hO, hL, mm_stC (mm_stT (mm_stT hst)) (mm_i2 _), hn⟩
  rw [← mm_i3 (((Int32.ofInt x).toUInt32 >>> ((Int32.ofInt y).toUInt32 &&& Int32.toUInt32 31)).toInt32)]
  exact k
theorem k_ldcw {i p' : Nat} {v : Int} {z : List mm_I} (hl : mm_lk K.2.2.1 pc = (pc, .ldc_w i, p') :: z) (hc : Cond.constant K.1.2.2.2.2 i (Int32.ofInt v) ∈ tb_G) (hv : mm_in v) (k : mm_Wk K n (pc + 3) ls (.inl v :: st) b w Q) : mm_Wk K n pc ls st b w Q := by
  refine k_dec hl (L := 2) rfl fun hd => ?_
  intro p l e R s m args below meth c X α0 b0 A H locs cells slots α kls ⟨hC, hR, hA, hS, hO, hL, hst, hn⟩
  exact lv_ldcw hC.1 hC.2.1 hC.2.2.2.2.2.1 (hC.2.2.2.2.2.2.1 _ hc) hd (k p l e R s m args below meth c X α0 b0 A H locs cells slots α kls ⟨hC, hR, hA, hS, hO, hL, mm_stC hst hv, hn⟩)
theorem mm_catS (α : Nat → Int → Nat) : ∀ st : List mm_V, ((st.map (mm_v α)).map fun v => v.category).sum = st.length
  | [] => rfl
  | v :: r => by
    rw [List.map_cons, List.map_cons, List.sum_cons, mm_catS α r, mm_cat, List.length_cons, Nat.add_comm]
theorem k_mmin {x y : Int} {i p' : Nat} {z : List mm_I} (hl : mm_lk K.2.2.1 pc = (pc, .invokestatic i, p') :: z) (hlink : Cond.methodLink K.1.2.2.2.2 i Lib.Math.min.name ∈ tb_G) (hstat : Cond.static Lib.Math.min.name ∈ tb_G) (hini : Cond.initialized "java/lang/Math" ∈ tb_G) (hcode : Cond.code Lib.Math.min.name Lib.Math.min.code 2 (some .int) ∈ tb_G) (hf : 1 ≤ K.2.1.1) (hlo : st.length + 13 ≤ K.2.1.2.1)
    (k : mm_Wk K n (pc + 3) ls (.inl (if y < x then y else x) :: st) b w Q) : mm_Wk K n pc ls (.inl y :: .inl x :: st) b w Q := by
  refine k_dec hl (L := 2) rfl fun hd => ?_
  intro p l e R s m args below meth c X α0 b0 A H locs cells slots α kls ⟨hC, hR, hA, hS, hO, hL, hst, hn⟩
  have hy : mm_in y := mm_stH hst
  have hx : mm_in x := mm_stH (mm_stT hst)
  have hG := hC.2.2.2.2.2.2.1
  refine va_mmin hC.1 hC.2.1 (hC.2.2.1.trans hL.2.1.symm) hC.2.2.2.2.2.1 (hG _ hlink) (hG _ hstat) (hG _ hini) (hG _ hcode) (by rw [hC.2.2.2.2.2.2.2.2.2.1]; exact hf) (by rw [mm_catS, hC.2.2.2.2.2.2.2.2.2.2.1]; exact hlo) (by omega) (by omega) hd ?_
  have k := k p l e R s m args below meth c X α0 b0 A H locs cells slots α kls ⟨hC, hR, hA, hS, hO, hL, mm_stC (mm_stT (mm_stT hst)) (by show mm_in _; split <;> assumption), hn⟩
  rw [show (if Int32.ofInt y < Int32.ofInt x then Int32.ofInt y else Int32.ofInt x) = Int32.ofInt (if y < x then y else x) by
    by_cases h : y < x
    · rw [if_pos h, if_pos ((mm_i6 hy hx).mpr h)]
    · rw [if_neg h, if_neg (fun q => h ((mm_i6 hy hx).mp q))]]
  exact k
theorem k_mmax {x y : Int} {i p' : Nat} {z : List mm_I} (hl : mm_lk K.2.2.1 pc = (pc, .invokestatic i, p') :: z) (hlink : Cond.methodLink K.1.2.2.2.2 i Lib.Math.max.name ∈ tb_G) (hstat : Cond.static Lib.Math.max.name ∈ tb_G) (hini : Cond.initialized "java/lang/Math" ∈ tb_G) (hcode : Cond.code Lib.Math.max.name Lib.Math.max.code 2 (some .int) ∈ tb_G) (hf : 1 ≤ K.2.1.1) (hlo : st.length + 13 ≤ K.2.1.2.1)
    (k : mm_Wk K n (pc + 3) ls (.inl (if x < y then y else x) :: st) b w Q) : mm_Wk K n pc ls (.inl y :: .inl x :: st) b w Q := by
  refine k_dec hl (L := 2) rfl fun hd => ?_
  intro p l e R s m args below meth c X α0 b0 A H locs cells slots α kls ⟨hC, hR, hA, hS, hO, hL, hst, hn⟩
  have hy : mm_in y := mm_stH hst
  have hx : mm_in x := mm_stH (mm_stT hst)
  have hG := hC.2.2.2.2.2.2.1
  refine va_mmax hC.1 hC.2.1 (hC.2.2.1.trans hL.2.1.symm) hC.2.2.2.2.2.1 (hG _ hlink) (hG _ hstat) (hG _ hini) (hG _ hcode) (by rw [hC.2.2.2.2.2.2.2.2.2.1]; exact hf) (by rw [mm_catS, hC.2.2.2.2.2.2.2.2.2.2.1]; exact hlo) (by omega) (by omega) hd ?_
  have k := k p l e R s m args below meth c X α0 b0 A H locs cells slots α kls ⟨hC, hR, hA, hS, hO, hL, mm_stC (mm_stT (mm_stT hst)) (by show mm_in _; split <;> assumption), hn⟩
  rw [show (if Int32.ofInt x < Int32.ofInt y then Int32.ofInt y else Int32.ofInt x) = Int32.ofInt (if x < y then y else x) by
    by_cases h : x < y
    · rw [if_pos h, if_pos ((mm_i6 hx hy).mpr h)]
    · rw [if_neg h, if_neg (fun q => h ((mm_i6 hx hy).mp q))]]
  exact k
theorem mm_ce_off {X : mm_X} {α : Nat → Int → Nat} {w' : mm_M} {q : Nat × Int} (hq : q ∈ mm_ks b) (hu : ∀ z, w' q.1 q.2 z = w q.1 q.2 z) : mm_ce X α b w' q.1 q.2 = mm_ce X α b w q.1 q.2 := by
  obtain ⟨g', j'⟩ := q
  show mm_ce X α b w' g' j' = mm_ce X α b w g' j'
  have hu : ∀ z, w' g' j' z = w g' j' z := hu
  unfold mm_ce
  by_cases h0 : (mm_gk g').1 = 0
  · rw [if_pos h0, if_pos h0]
    have hj : j' = 0 := by
      have h1 := mm_keyR hq
      rw [mm_nr_obj (c := (mm_gk g').2.1) (n := (mm_gk g').2.2) (by rw [← h0])] at h1
      omega
    subst hj
    refine congrArg _ (congrArg _ (List.map_congr_left fun z _ => ?_))
    unfold mm_fv
    rw [hu z]
  · rw [if_neg h0, if_neg h0]
    by_cases h4 : (mm_gk g').1 = 4
    · rw [if_pos h4, if_pos h4]
    · rw [if_neg h4, if_neg h4]
      refine congrArg _ (congrArg _ (congrArg _ (congrArg _ (funext fun z => ?_))))
      rw [hu]
theorem k_copy {g0 g1 : Nat} {j0 j1 sp dp m : Int} {N0 r0 N1 r1 i p' : Nat} {z : List mm_I} (hl : mm_lk K.2.2.1 pc = (pc, .invokestatic i, p') :: z) (hlink : Cond.methodLink K.1.2.2.2.2 i arraycopyName ∈ tb_G) (hnat : Cond.native arraycopyName ∈ tb_G) (hstat : Cond.static arraycopyName ∈ tb_G) (hini : Cond.initialized "java/lang/System" ∈ tb_G) (hg0 : mm_gk g0 = (1, N0, r0)) (hg1 : mm_gk g1 = (1, N1, r1)) (hs : (0 ≤ sp ∧ sp + m ≤ N0) ∧ (0 ≤ dp ∧ dp + m ≤ N1) ∧ 0 ≤ m) (hf : 1 ≤ K.2.1.1) (hlo : st.length + (nativeFrameWords "java/lang/System" "arraycopy" 5 + 11) ≤ K.2.1.2.1)
    (k : mm_Wk K n (pc + 3) ls st b (mm_cp w g0 j0 sp g1 j1 dp m) Q) : mm_Wk K n pc ls (.inl m :: .inl dp :: .inr (some (g1, j1)) :: .inl sp :: .inr (some (g0, j0)) :: st) b w Q := by
  refine k_dec hl (L := 2) rfl fun hd => ?_
  intro p l e R s mm args below meth c X α0 b0 A H locs cells slots α kls ⟨hC, hR, hA, hS, hO, hL, hst, hn⟩
  have hm : mm_in m := mm_stH hst
  have hdp : mm_in dp := mm_stH (mm_stT hst)
  have hk1 := mm_stH (mm_stT (mm_stT hst))
  have hsp : mm_in sp := mm_stH (mm_stT (mm_stT (mm_stT hst)))
  have hk0 := mm_stH (mm_stT (mm_stT (mm_stT (mm_stT hst))))
  have hG := hC.2.2.2.2.2.2.1
  obtain ⟨q0, e0, w0⟩ := mm_pos (X := X) (α := α) (w := w) (mm_key hk0)
  obtain ⟨q1, e1, w1⟩ := mm_pos (X := X) (α := α) (w := w) (mm_key hk1)
  rw [mm_ce_arr hg0 (by decide)] at w0
  rw [mm_ce_arr hg1 (by decide)] at w1
  obtain ⟨t0, ht0⟩ := mm_tys (X := X) (k := 1) (by decide)
  have nc : ∀ {v : Int}, mm_in v → 0 ≤ v → (Int32.ofInt v).toNatClampNeg = v.toNat ∧ ¬ Int32.ofInt v < 0 := fun {v} hv h0 => by
    refine ⟨?_, fun q => ?_⟩
    · show (Int32.ofInt v).toInt.toNat = v.toNat
      rw [mm_i1 hv]
    · have := (mm_i6 hv (y := 0) (by decide)).mp q
      omega
  obtain ⟨a1, a2⟩ := nc hsp hs.1.1
  obtain ⟨b1, b2⟩ := nc hdp hs.2.1.1
  obtain ⟨c1, c2⟩ := nc hm hs.2.2
  refine va_copyi hC.1 hC.2.1 (hC.2.2.1.trans hL.2.1.symm) hC.2.2.2.2.2.1 (hG _ hlink) (hG _ hnat) (hG _ hstat) (hG _ hini) hC.2.2.2.2.2.2.2.1 hR.1 hR.2.1 hS q0 q1 t0 t0 w0 w1 ht0 ht0 rfl a2 b2 c2 (by rw [a1, c1]; omega) (by rw [b1, c1]; omega) (fun _ _ => rfl) (by rw [hC.2.2.2.2.2.2.2.2.2.1]; exact hf) (by rw [mm_catS, hC.2.2.2.2.2.2.2.2.2.2.1]; exact hlo) hd (fun H1 locs1 hP hD hS => ?_)
  have hcp : va_cpy (fun i : Nat => Int32.ofInt (w g0 j0 (i : Int))) (fun i : Nat => Int32.ofInt (w g1 j1 (i : Int))) (Int32.ofInt sp).toNatClampNeg (Int32.ofInt dp).toNatClampNeg (Int32.ofInt m).toNatClampNeg = fun i : Nat => Int32.ofInt (mm_cp w g0 j0 sp g1 j1 dp m g1 j1 (i : Int)) := by
    funext i
    unfold va_cpy mm_cp
    rw [a1, b1, c1]
    by_cases h : dp.toNat ≤ i ∧ i < dp.toNat + m.toNat
    · rw [if_pos h, if_pos ⟨rfl, rfl, by omega, by omega⟩]
      show Int32.ofInt (w g0 j0 ((sp.toNat + (i - dp.toNat) : Nat) : Int)) = _
      rw [show ((sp.toNat + (i - dp.toNat) : Nat) : Int) = sp + (i - dp) by omega]
    · rw [if_neg h, if_neg (fun q => h ⟨by omega, by omega⟩)]
  rw [hcp] at hP hD
  have hset := mm_wl_set (w' := mm_cp w g0 j0 sp g1 j1 dp m) hR.2.1 e1 (mm_ce_arr hg1 (by decide)).symm (fun q hq hne => mm_ce_off hq (fun z => by
    unfold mm_cp
    refine if_neg fun h => hne ?_
    rw [← h.1, ← h.2.1]))
  rw [hset] at hP hD
  refine k p l e R s mm args below meth c X α0 b0 A H1 locs1 cells slots α kls ⟨hC, ⟨hP, hD, fun g j k => ?_, hR.2.2.2⟩, hA, hS, hO, hL, mm_stT (mm_stT (mm_stT (mm_stT (mm_stT hst)))), hn⟩
  unfold mm_cp
  split
  · exact hR.2.2.1 _ _ _
  · exact hR.2.2.1 _ _ _
end MMR9
end
section
/-! ===== the class: Integer.bitCount, Arrays.fill, NumberSet, History ===== -/
def bc1 (x : Int) : Int := x - mm_and (mm_ushr x 1) 1431655765
def bc2 (v : Int) : Int := mm_and v 858993459 + mm_and (mm_ushr v 2) 858993459
def bc3 (v : Int) : Int := v + mm_ushr v 4
def bc4 (v : Int) : Int := v + mm_ushr v 8
def bc5 (v : Int) : Int := v + mm_ushr v 16
def bcB (x : Int) : Bool := (decide (0 ≤ bc1 x ∧ bc1 x < 256) && decide (0 ≤ bc2 (bc1 x) ∧ bc2 (bc1 x) < 256) && decide (0 ≤ bc3 (bc2 (bc1 x)) ∧ bc3 (bc2 (bc1 x)) < 512)) && (decide (0 ≤ bc4 (mm_and (bc3 (bc2 (bc1 x))) 252645135) ∧ bc4 (mm_and (bc3 (bc2 (bc1 x))) 252645135) < 256) && decide (0 ≤ bc5 (bc4 (mm_and (bc3 (bc2 (bc1 x))) 252645135)) ∧ bc5 (bc4 (mm_and (bc3 (bc2 (bc1 x))) 252645135)) < 256) && decide (mm_and (bc5 (bc4 (mm_and (bc3 (bc2 (bc1 x))) 252645135))) 63 = pop8 x 8))
set_option maxRecDepth 100000 in
theorem bcA : ∀ k : Fin 256, bcB ((k.val : Nat) : Int) = true := by decide +kernel
section MC
variable {r y : Bool} {w : mm_M}
theorem ev_bitCount {x : Int} (hx : 0 ≤ x ∧ x < 256) : mm_Ev K_J6_bitCount (0, 0) [.inl x] (PH r y) w (mm_pe (some (.inl (pop8 x 8))) (PH r y) w) := by
  refine ev_intro ok_J6_bitCount mo_J6_bitCount (Nat.le_of_ble_eq_true rfl) (fun hrg has => ?_)
  have hB := bcA ⟨x.toNat, by omega⟩
  rw [show ((((⟨x.toNat, by omega⟩ : Fin 256).val : Nat)) : Int) = x by show ((x.toNat : Nat) : Int) = x; omega] at hB
  simp only [bcB, Bool.and_eq_true, decide_eq_true_eq] at hB
  obtain ⟨⟨⟨h1, h2⟩, h3⟩, ⟨h4, h5⟩, h6⟩ := hB
  refine k_gp rfl rfl trivial ?_
  refine k_iushr rfl ?_
  refine k_ldcw (v := 1431655765) rfl (tb_in 645 (by decide +kernel) (by decide +kernel)) (by decide) ?_
  refine k_gp rfl rfl (by have : bc1 x = x - mm_and (mm_ushr x 1) 1431655765 := rfl; simp only [true_and, mm_fits]; omega) ?_
  refine k_ldcw (v := 858993459) rfl (tb_in 646 (by decide +kernel) (by decide +kernel)) (by decide) ?_
  refine k_gp rfl rfl trivial ?_
  refine k_iushr rfl ?_
  refine k_ldcw (v := 858993459) rfl (tb_in 646 (by decide +kernel) (by decide +kernel)) (by decide) ?_
  refine k_gp rfl rfl (show True ∧ mm_in (bc2 (bc1 x)) from ⟨trivial, by unfold mm_in; omega⟩) ?_
  refine k_iushr rfl ?_
  refine k_gp rfl rfl (show True ∧ mm_in (bc3 (bc2 (bc1 x))) from ⟨trivial, by unfold mm_in; omega⟩) ?_
  refine k_ldcw (v := 252645135) rfl (tb_in 647 (by decide +kernel) (by decide +kernel)) (by decide) ?_
  refine k_gp rfl rfl trivial ?_
  refine k_iushr rfl ?_
  refine k_gp rfl rfl (show True ∧ mm_in (bc4 (mm_and (bc3 (bc2 (bc1 x))) 252645135)) from ⟨trivial, by unfold mm_in; omega⟩) ?_
  refine k_iushr rfl ?_
  refine k_gp rfl rfl (show True ∧ mm_in (bc5 (bc4 (mm_and (bc3 (bc2 (bc1 x))) 252645135))) from ⟨trivial, by unfold mm_in; omega⟩) ?_
  exact k_ret rfl trivial ⟨congrArg (fun v => some (Sum.inl v)) h6, rfl, rfl⟩
end MC
end
section
/-! ===== the class: Arrays.fill, NumberSet (written by gen43.py) ===== -/
/-- arrays that are filled -/
def FLL (g : Nat) (N : Int) : Prop := (g = 42 ∧ N = 8) ∨ (g = 52 ∧ N = 8) ∨ (g = 53 ∧ N = 8) ∨ (g = 54 ∧ N = 8) ∨ (g = 59 ∧ N = 14) ∨ (g = 61 ∧ N = 257) ∨ (g = 51 ∧ N = 128) ∨ (g = 63 ∧ N = 8) ∨ (g = 65 ∧ N = 8) ∨ (g = 70 ∧ N = 8) ∨ (g = 72 ∧ N = 8) ∨ (g = 76 ∧ N = 16) ∨ (g = 81 ∧ N = 64) ∨ (g = 83 ∧ N = 8) ∨ (g = 85 ∧ N = 8)
/-- sets of numbers, and their words -/
def NSL (g : Nat) (N : Int) : Prop := (g = 50 ∧ N = 128) ∨ (g = 62 ∧ N = 8) ∨ (g = 64 ∧ N = 8) ∨ (g = 69 ∧ N = 8) ∨ (g = 71 ∧ N = 8) ∨ (g = 75 ∧ N = 16) ∨ (g = 80 ∧ N = 64) ∨ (g = 82 ∧ N = 8) ∨ (g = 84 ∧ N = 8)
theorem NSL_F {g : Nat} {N : Int} (h : NSL g N) : FLL (g + 1) N := by
  unfold FLL
  rcases h with ⟨rfl, rfl⟩ | ⟨rfl, rfl⟩ | ⟨rfl, rfl⟩ | ⟨rfl, rfl⟩ | ⟨rfl, rfl⟩ | ⟨rfl, rfl⟩ | ⟨rfl, rfl⟩ | ⟨rfl, rfl⟩ | ⟨rfl, rfl⟩ <;> decide
section MC
variable {r y : Bool} {w : mm_M}
theorem ev_fill_42 {v : Int} : mm_Ev K_J7_fill (0, 0) [.inr (some (42, 0)), .inl v] (PH r y) w (mm_pe none (PH r y) (arrw w 42 0 8 (fun _ => v))) := by
  refine ev_intro ok_J7_fill mo_J7_fill (Nat.le_of_ble_eq_true rfl) (fun hrg has => ?_)
  refine k_gp rfl rfl trivial ?_
  refine mm_loop (σ := mm_M) 8 (fun i w1 => (0 ≤ i ∧ i ≤ 8) ∧ w1 = arrw w 42 0 i (fun _ => v)) (fun i w1 => mm_Wk K_J7_fill (0, 0) 5 [some (.inr (some (42, 0))), some (.inl v), some (.inl i), some (.inl 8)] [] (PH r y) w1 (mm_pe none (PH r y) (arrw w 42 0 8 (fun _ => v)))) ?_ ?_ 0 w ⟨by omega, arrw_0.symm⟩
  · intro i w1 h1 h2 ih
    obtain ⟨h2, rfl⟩ := h2
    refine k_gp rfl rfl trivial ?_
    refine k_brf rfl (by omega) ?_
    refine k_gp rfl rfl (by simp only [true_and, mm_fits]; omega) ?_
    exact ih _ ⟨by omega, arrw_s (by omega) (by omega) rfl⟩
  · intro i w1 h1 h2
    obtain ⟨h2, rfl⟩ := h2
    have hi : i = 8 := by omega
    subst hi
    refine k_gp rfl rfl trivial ?_
    refine k_brt rfl (by omega) ?_
    exact k_ret rfl trivial ⟨rfl, rfl, rfl⟩
theorem ev_fill_52 {v : Int} : mm_Ev K_J7_fill (0, 0) [.inr (some (52, 0)), .inl v] (PH r y) w (mm_pe none (PH r y) (arrw w 52 0 8 (fun _ => v))) := by
  refine ev_intro ok_J7_fill mo_J7_fill (Nat.le_of_ble_eq_true rfl) (fun hrg has => ?_)
  refine k_gp rfl rfl trivial ?_
  refine mm_loop (σ := mm_M) 8 (fun i w1 => (0 ≤ i ∧ i ≤ 8) ∧ w1 = arrw w 52 0 i (fun _ => v)) (fun i w1 => mm_Wk K_J7_fill (0, 0) 5 [some (.inr (some (52, 0))), some (.inl v), some (.inl i), some (.inl 8)] [] (PH r y) w1 (mm_pe none (PH r y) (arrw w 52 0 8 (fun _ => v)))) ?_ ?_ 0 w ⟨by omega, arrw_0.symm⟩
  · intro i w1 h1 h2 ih
    obtain ⟨h2, rfl⟩ := h2
    refine k_gp rfl rfl trivial ?_
    refine k_brf rfl (by omega) ?_
    refine k_gp rfl rfl (by simp only [true_and, mm_fits]; omega) ?_
    exact ih _ ⟨by omega, arrw_s (by omega) (by omega) rfl⟩
  · intro i w1 h1 h2
    obtain ⟨h2, rfl⟩ := h2
    have hi : i = 8 := by omega
    subst hi
    refine k_gp rfl rfl trivial ?_
    refine k_brt rfl (by omega) ?_
    exact k_ret rfl trivial ⟨rfl, rfl, rfl⟩
theorem ev_fill_53 {v : Int} : mm_Ev K_J7_fill (0, 0) [.inr (some (53, 0)), .inl v] (PH r y) w (mm_pe none (PH r y) (arrw w 53 0 8 (fun _ => v))) := by
  refine ev_intro ok_J7_fill mo_J7_fill (Nat.le_of_ble_eq_true rfl) (fun hrg has => ?_)
  refine k_gp rfl rfl trivial ?_
  refine mm_loop (σ := mm_M) 8 (fun i w1 => (0 ≤ i ∧ i ≤ 8) ∧ w1 = arrw w 53 0 i (fun _ => v)) (fun i w1 => mm_Wk K_J7_fill (0, 0) 5 [some (.inr (some (53, 0))), some (.inl v), some (.inl i), some (.inl 8)] [] (PH r y) w1 (mm_pe none (PH r y) (arrw w 53 0 8 (fun _ => v)))) ?_ ?_ 0 w ⟨by omega, arrw_0.symm⟩
  · intro i w1 h1 h2 ih
    obtain ⟨h2, rfl⟩ := h2
    refine k_gp rfl rfl trivial ?_
    refine k_brf rfl (by omega) ?_
    refine k_gp rfl rfl (by simp only [true_and, mm_fits]; omega) ?_
    exact ih _ ⟨by omega, arrw_s (by omega) (by omega) rfl⟩
  · intro i w1 h1 h2
    obtain ⟨h2, rfl⟩ := h2
    have hi : i = 8 := by omega
    subst hi
    refine k_gp rfl rfl trivial ?_
    refine k_brt rfl (by omega) ?_
    exact k_ret rfl trivial ⟨rfl, rfl, rfl⟩
theorem ev_fill_54 {v : Int} : mm_Ev K_J7_fill (0, 0) [.inr (some (54, 0)), .inl v] (PH r y) w (mm_pe none (PH r y) (arrw w 54 0 8 (fun _ => v))) := by
  refine ev_intro ok_J7_fill mo_J7_fill (Nat.le_of_ble_eq_true rfl) (fun hrg has => ?_)
  refine k_gp rfl rfl trivial ?_
  refine mm_loop (σ := mm_M) 8 (fun i w1 => (0 ≤ i ∧ i ≤ 8) ∧ w1 = arrw w 54 0 i (fun _ => v)) (fun i w1 => mm_Wk K_J7_fill (0, 0) 5 [some (.inr (some (54, 0))), some (.inl v), some (.inl i), some (.inl 8)] [] (PH r y) w1 (mm_pe none (PH r y) (arrw w 54 0 8 (fun _ => v)))) ?_ ?_ 0 w ⟨by omega, arrw_0.symm⟩
  · intro i w1 h1 h2 ih
    obtain ⟨h2, rfl⟩ := h2
    refine k_gp rfl rfl trivial ?_
    refine k_brf rfl (by omega) ?_
    refine k_gp rfl rfl (by simp only [true_and, mm_fits]; omega) ?_
    exact ih _ ⟨by omega, arrw_s (by omega) (by omega) rfl⟩
  · intro i w1 h1 h2
    obtain ⟨h2, rfl⟩ := h2
    have hi : i = 8 := by omega
    subst hi
    refine k_gp rfl rfl trivial ?_
    refine k_brt rfl (by omega) ?_
    exact k_ret rfl trivial ⟨rfl, rfl, rfl⟩
theorem ev_fill_59 {v : Int} : mm_Ev K_J7_fill (0, 0) [.inr (some (59, 0)), .inl v] (PH r y) w (mm_pe none (PH r y) (arrw w 59 0 14 (fun _ => v))) := by
  refine ev_intro ok_J7_fill mo_J7_fill (Nat.le_of_ble_eq_true rfl) (fun hrg has => ?_)
  refine k_gp rfl rfl trivial ?_
  refine mm_loop (σ := mm_M) 14 (fun i w1 => (0 ≤ i ∧ i ≤ 14) ∧ w1 = arrw w 59 0 i (fun _ => v)) (fun i w1 => mm_Wk K_J7_fill (0, 0) 5 [some (.inr (some (59, 0))), some (.inl v), some (.inl i), some (.inl 14)] [] (PH r y) w1 (mm_pe none (PH r y) (arrw w 59 0 14 (fun _ => v)))) ?_ ?_ 0 w ⟨by omega, arrw_0.symm⟩
  · intro i w1 h1 h2 ih
    obtain ⟨h2, rfl⟩ := h2
    refine k_gp rfl rfl trivial ?_
    refine k_brf rfl (by omega) ?_
    refine k_gp rfl rfl (by simp only [true_and, mm_fits]; omega) ?_
    exact ih _ ⟨by omega, arrw_s (by omega) (by omega) rfl⟩
  · intro i w1 h1 h2
    obtain ⟨h2, rfl⟩ := h2
    have hi : i = 14 := by omega
    subst hi
    refine k_gp rfl rfl trivial ?_
    refine k_brt rfl (by omega) ?_
    exact k_ret rfl trivial ⟨rfl, rfl, rfl⟩
theorem ev_fill_61 {v : Int} : mm_Ev K_J7_fill (0, 0) [.inr (some (61, 0)), .inl v] (PH r y) w (mm_pe none (PH r y) (arrw w 61 0 257 (fun _ => v))) := by
  refine ev_intro ok_J7_fill mo_J7_fill (Nat.le_of_ble_eq_true rfl) (fun hrg has => ?_)
  refine k_gp rfl rfl trivial ?_
  refine mm_loop (σ := mm_M) 257 (fun i w1 => (0 ≤ i ∧ i ≤ 257) ∧ w1 = arrw w 61 0 i (fun _ => v)) (fun i w1 => mm_Wk K_J7_fill (0, 0) 5 [some (.inr (some (61, 0))), some (.inl v), some (.inl i), some (.inl 257)] [] (PH r y) w1 (mm_pe none (PH r y) (arrw w 61 0 257 (fun _ => v)))) ?_ ?_ 0 w ⟨by omega, arrw_0.symm⟩
  · intro i w1 h1 h2 ih
    obtain ⟨h2, rfl⟩ := h2
    refine k_gp rfl rfl trivial ?_
    refine k_brf rfl (by omega) ?_
    refine k_gp rfl rfl (by simp only [true_and, mm_fits]; omega) ?_
    exact ih _ ⟨by omega, arrw_s (by omega) (by omega) rfl⟩
  · intro i w1 h1 h2
    obtain ⟨h2, rfl⟩ := h2
    have hi : i = 257 := by omega
    subst hi
    refine k_gp rfl rfl trivial ?_
    refine k_brt rfl (by omega) ?_
    exact k_ret rfl trivial ⟨rfl, rfl, rfl⟩
theorem ev_fill_51 {v : Int} : mm_Ev K_J7_fill (0, 0) [.inr (some (51, 0)), .inl v] (PH r y) w (mm_pe none (PH r y) (arrw w 51 0 128 (fun _ => v))) := by
  refine ev_intro ok_J7_fill mo_J7_fill (Nat.le_of_ble_eq_true rfl) (fun hrg has => ?_)
  refine k_gp rfl rfl trivial ?_
  refine mm_loop (σ := mm_M) 128 (fun i w1 => (0 ≤ i ∧ i ≤ 128) ∧ w1 = arrw w 51 0 i (fun _ => v)) (fun i w1 => mm_Wk K_J7_fill (0, 0) 5 [some (.inr (some (51, 0))), some (.inl v), some (.inl i), some (.inl 128)] [] (PH r y) w1 (mm_pe none (PH r y) (arrw w 51 0 128 (fun _ => v)))) ?_ ?_ 0 w ⟨by omega, arrw_0.symm⟩
  · intro i w1 h1 h2 ih
    obtain ⟨h2, rfl⟩ := h2
    refine k_gp rfl rfl trivial ?_
    refine k_brf rfl (by omega) ?_
    refine k_gp rfl rfl (by simp only [true_and, mm_fits]; omega) ?_
    exact ih _ ⟨by omega, arrw_s (by omega) (by omega) rfl⟩
  · intro i w1 h1 h2
    obtain ⟨h2, rfl⟩ := h2
    have hi : i = 128 := by omega
    subst hi
    refine k_gp rfl rfl trivial ?_
    refine k_brt rfl (by omega) ?_
    exact k_ret rfl trivial ⟨rfl, rfl, rfl⟩
theorem ev_fill_63 {v : Int} : mm_Ev K_J7_fill (0, 0) [.inr (some (63, 0)), .inl v] (PH r y) w (mm_pe none (PH r y) (arrw w 63 0 8 (fun _ => v))) := by
  refine ev_intro ok_J7_fill mo_J7_fill (Nat.le_of_ble_eq_true rfl) (fun hrg has => ?_)
  refine k_gp rfl rfl trivial ?_
  refine mm_loop (σ := mm_M) 8 (fun i w1 => (0 ≤ i ∧ i ≤ 8) ∧ w1 = arrw w 63 0 i (fun _ => v)) (fun i w1 => mm_Wk K_J7_fill (0, 0) 5 [some (.inr (some (63, 0))), some (.inl v), some (.inl i), some (.inl 8)] [] (PH r y) w1 (mm_pe none (PH r y) (arrw w 63 0 8 (fun _ => v)))) ?_ ?_ 0 w ⟨by omega, arrw_0.symm⟩
  · intro i w1 h1 h2 ih
    obtain ⟨h2, rfl⟩ := h2
    refine k_gp rfl rfl trivial ?_
    refine k_brf rfl (by omega) ?_
    refine k_gp rfl rfl (by simp only [true_and, mm_fits]; omega) ?_
    exact ih _ ⟨by omega, arrw_s (by omega) (by omega) rfl⟩
  · intro i w1 h1 h2
    obtain ⟨h2, rfl⟩ := h2
    have hi : i = 8 := by omega
    subst hi
    refine k_gp rfl rfl trivial ?_
    refine k_brt rfl (by omega) ?_
    exact k_ret rfl trivial ⟨rfl, rfl, rfl⟩
theorem ev_fill_65 {v : Int} : mm_Ev K_J7_fill (0, 0) [.inr (some (65, 0)), .inl v] (PH r y) w (mm_pe none (PH r y) (arrw w 65 0 8 (fun _ => v))) := by
  refine ev_intro ok_J7_fill mo_J7_fill (Nat.le_of_ble_eq_true rfl) (fun hrg has => ?_)
  refine k_gp rfl rfl trivial ?_
  refine mm_loop (σ := mm_M) 8 (fun i w1 => (0 ≤ i ∧ i ≤ 8) ∧ w1 = arrw w 65 0 i (fun _ => v)) (fun i w1 => mm_Wk K_J7_fill (0, 0) 5 [some (.inr (some (65, 0))), some (.inl v), some (.inl i), some (.inl 8)] [] (PH r y) w1 (mm_pe none (PH r y) (arrw w 65 0 8 (fun _ => v)))) ?_ ?_ 0 w ⟨by omega, arrw_0.symm⟩
  · intro i w1 h1 h2 ih
    obtain ⟨h2, rfl⟩ := h2
    refine k_gp rfl rfl trivial ?_
    refine k_brf rfl (by omega) ?_
    refine k_gp rfl rfl (by simp only [true_and, mm_fits]; omega) ?_
    exact ih _ ⟨by omega, arrw_s (by omega) (by omega) rfl⟩
  · intro i w1 h1 h2
    obtain ⟨h2, rfl⟩ := h2
    have hi : i = 8 := by omega
    subst hi
    refine k_gp rfl rfl trivial ?_
    refine k_brt rfl (by omega) ?_
    exact k_ret rfl trivial ⟨rfl, rfl, rfl⟩
theorem ev_fill_70 {v : Int} : mm_Ev K_J7_fill (0, 0) [.inr (some (70, 0)), .inl v] (PH r y) w (mm_pe none (PH r y) (arrw w 70 0 8 (fun _ => v))) := by
  refine ev_intro ok_J7_fill mo_J7_fill (Nat.le_of_ble_eq_true rfl) (fun hrg has => ?_)
  refine k_gp rfl rfl trivial ?_
  refine mm_loop (σ := mm_M) 8 (fun i w1 => (0 ≤ i ∧ i ≤ 8) ∧ w1 = arrw w 70 0 i (fun _ => v)) (fun i w1 => mm_Wk K_J7_fill (0, 0) 5 [some (.inr (some (70, 0))), some (.inl v), some (.inl i), some (.inl 8)] [] (PH r y) w1 (mm_pe none (PH r y) (arrw w 70 0 8 (fun _ => v)))) ?_ ?_ 0 w ⟨by omega, arrw_0.symm⟩
  · intro i w1 h1 h2 ih
    obtain ⟨h2, rfl⟩ := h2
    refine k_gp rfl rfl trivial ?_
    refine k_brf rfl (by omega) ?_
    refine k_gp rfl rfl (by simp only [true_and, mm_fits]; omega) ?_
    exact ih _ ⟨by omega, arrw_s (by omega) (by omega) rfl⟩
  · intro i w1 h1 h2
    obtain ⟨h2, rfl⟩ := h2
    have hi : i = 8 := by omega
    subst hi
    refine k_gp rfl rfl trivial ?_
    refine k_brt rfl (by omega) ?_
    exact k_ret rfl trivial ⟨rfl, rfl, rfl⟩
theorem ev_fill_72 {v : Int} : mm_Ev K_J7_fill (0, 0) [.inr (some (72, 0)), .inl v] (PH r y) w (mm_pe none (PH r y) (arrw w 72 0 8 (fun _ => v))) := by
  refine ev_intro ok_J7_fill mo_J7_fill (Nat.le_of_ble_eq_true rfl) (fun hrg has => ?_)
  refine k_gp rfl rfl trivial ?_
  refine mm_loop (σ := mm_M) 8 (fun i w1 => (0 ≤ i ∧ i ≤ 8) ∧ w1 = arrw w 72 0 i (fun _ => v)) (fun i w1 => mm_Wk K_J7_fill (0, 0) 5 [some (.inr (some (72, 0))), some (.inl v), some (.inl i), some (.inl 8)] [] (PH r y) w1 (mm_pe none (PH r y) (arrw w 72 0 8 (fun _ => v)))) ?_ ?_ 0 w ⟨by omega, arrw_0.symm⟩
  · intro i w1 h1 h2 ih
    obtain ⟨h2, rfl⟩ := h2
    refine k_gp rfl rfl trivial ?_
    refine k_brf rfl (by omega) ?_
    refine k_gp rfl rfl (by simp only [true_and, mm_fits]; omega) ?_
    exact ih _ ⟨by omega, arrw_s (by omega) (by omega) rfl⟩
  · intro i w1 h1 h2
    obtain ⟨h2, rfl⟩ := h2
    have hi : i = 8 := by omega
    subst hi
    refine k_gp rfl rfl trivial ?_
    refine k_brt rfl (by omega) ?_
    exact k_ret rfl trivial ⟨rfl, rfl, rfl⟩
theorem ev_fill_76 {v : Int} : mm_Ev K_J7_fill (0, 0) [.inr (some (76, 0)), .inl v] (PH r y) w (mm_pe none (PH r y) (arrw w 76 0 16 (fun _ => v))) := by
  refine ev_intro ok_J7_fill mo_J7_fill (Nat.le_of_ble_eq_true rfl) (fun hrg has => ?_)
  refine k_gp rfl rfl trivial ?_
  refine mm_loop (σ := mm_M) 16 (fun i w1 => (0 ≤ i ∧ i ≤ 16) ∧ w1 = arrw w 76 0 i (fun _ => v)) (fun i w1 => mm_Wk K_J7_fill (0, 0) 5 [some (.inr (some (76, 0))), some (.inl v), some (.inl i), some (.inl 16)] [] (PH r y) w1 (mm_pe none (PH r y) (arrw w 76 0 16 (fun _ => v)))) ?_ ?_ 0 w ⟨by omega, arrw_0.symm⟩
  · intro i w1 h1 h2 ih
    obtain ⟨h2, rfl⟩ := h2
    refine k_gp rfl rfl trivial ?_
    refine k_brf rfl (by omega) ?_
    refine k_gp rfl rfl (by simp only [true_and, mm_fits]; omega) ?_
    exact ih _ ⟨by omega, arrw_s (by omega) (by omega) rfl⟩
  · intro i w1 h1 h2
    obtain ⟨h2, rfl⟩ := h2
    have hi : i = 16 := by omega
    subst hi
    refine k_gp rfl rfl trivial ?_
    refine k_brt rfl (by omega) ?_
    exact k_ret rfl trivial ⟨rfl, rfl, rfl⟩
theorem ev_fill_81 {v : Int} : mm_Ev K_J7_fill (0, 0) [.inr (some (81, 0)), .inl v] (PH r y) w (mm_pe none (PH r y) (arrw w 81 0 64 (fun _ => v))) := by
  refine ev_intro ok_J7_fill mo_J7_fill (Nat.le_of_ble_eq_true rfl) (fun hrg has => ?_)
  refine k_gp rfl rfl trivial ?_
  refine mm_loop (σ := mm_M) 64 (fun i w1 => (0 ≤ i ∧ i ≤ 64) ∧ w1 = arrw w 81 0 i (fun _ => v)) (fun i w1 => mm_Wk K_J7_fill (0, 0) 5 [some (.inr (some (81, 0))), some (.inl v), some (.inl i), some (.inl 64)] [] (PH r y) w1 (mm_pe none (PH r y) (arrw w 81 0 64 (fun _ => v)))) ?_ ?_ 0 w ⟨by omega, arrw_0.symm⟩
  · intro i w1 h1 h2 ih
    obtain ⟨h2, rfl⟩ := h2
    refine k_gp rfl rfl trivial ?_
    refine k_brf rfl (by omega) ?_
    refine k_gp rfl rfl (by simp only [true_and, mm_fits]; omega) ?_
    exact ih _ ⟨by omega, arrw_s (by omega) (by omega) rfl⟩
  · intro i w1 h1 h2
    obtain ⟨h2, rfl⟩ := h2
    have hi : i = 64 := by omega
    subst hi
    refine k_gp rfl rfl trivial ?_
    refine k_brt rfl (by omega) ?_
    exact k_ret rfl trivial ⟨rfl, rfl, rfl⟩
theorem ev_fill_83 {v : Int} : mm_Ev K_J7_fill (0, 0) [.inr (some (83, 0)), .inl v] (PH r y) w (mm_pe none (PH r y) (arrw w 83 0 8 (fun _ => v))) := by
  refine ev_intro ok_J7_fill mo_J7_fill (Nat.le_of_ble_eq_true rfl) (fun hrg has => ?_)
  refine k_gp rfl rfl trivial ?_
  refine mm_loop (σ := mm_M) 8 (fun i w1 => (0 ≤ i ∧ i ≤ 8) ∧ w1 = arrw w 83 0 i (fun _ => v)) (fun i w1 => mm_Wk K_J7_fill (0, 0) 5 [some (.inr (some (83, 0))), some (.inl v), some (.inl i), some (.inl 8)] [] (PH r y) w1 (mm_pe none (PH r y) (arrw w 83 0 8 (fun _ => v)))) ?_ ?_ 0 w ⟨by omega, arrw_0.symm⟩
  · intro i w1 h1 h2 ih
    obtain ⟨h2, rfl⟩ := h2
    refine k_gp rfl rfl trivial ?_
    refine k_brf rfl (by omega) ?_
    refine k_gp rfl rfl (by simp only [true_and, mm_fits]; omega) ?_
    exact ih _ ⟨by omega, arrw_s (by omega) (by omega) rfl⟩
  · intro i w1 h1 h2
    obtain ⟨h2, rfl⟩ := h2
    have hi : i = 8 := by omega
    subst hi
    refine k_gp rfl rfl trivial ?_
    refine k_brt rfl (by omega) ?_
    exact k_ret rfl trivial ⟨rfl, rfl, rfl⟩
theorem ev_fill_85 {v : Int} : mm_Ev K_J7_fill (0, 0) [.inr (some (85, 0)), .inl v] (PH r y) w (mm_pe none (PH r y) (arrw w 85 0 8 (fun _ => v))) := by
  refine ev_intro ok_J7_fill mo_J7_fill (Nat.le_of_ble_eq_true rfl) (fun hrg has => ?_)
  refine k_gp rfl rfl trivial ?_
  refine mm_loop (σ := mm_M) 8 (fun i w1 => (0 ≤ i ∧ i ≤ 8) ∧ w1 = arrw w 85 0 i (fun _ => v)) (fun i w1 => mm_Wk K_J7_fill (0, 0) 5 [some (.inr (some (85, 0))), some (.inl v), some (.inl i), some (.inl 8)] [] (PH r y) w1 (mm_pe none (PH r y) (arrw w 85 0 8 (fun _ => v)))) ?_ ?_ 0 w ⟨by omega, arrw_0.symm⟩
  · intro i w1 h1 h2 ih
    obtain ⟨h2, rfl⟩ := h2
    refine k_gp rfl rfl trivial ?_
    refine k_brf rfl (by omega) ?_
    refine k_gp rfl rfl (by simp only [true_and, mm_fits]; omega) ?_
    exact ih _ ⟨by omega, arrw_s (by omega) (by omega) rfl⟩
  · intro i w1 h1 h2
    obtain ⟨h2, rfl⟩ := h2
    have hi : i = 8 := by omega
    subst hi
    refine k_gp rfl rfl trivial ?_
    refine k_brt rfl (by omega) ?_
    exact k_ret rfl trivial ⟨rfl, rfl, rfl⟩
theorem ev_fill {g : Nat} {N v : Int} (hg : FLL g N) : mm_Ev K_J7_fill (0, 0) [.inr (some (g, 0)), .inl v] (PH r y) w (mm_pe none (PH r y) (arrw w g 0 N (fun _ => v))) := by
  rcases hg with ⟨rfl, rfl⟩ | ⟨rfl, rfl⟩ | ⟨rfl, rfl⟩ | ⟨rfl, rfl⟩ | ⟨rfl, rfl⟩ | ⟨rfl, rfl⟩ | ⟨rfl, rfl⟩ | ⟨rfl, rfl⟩ | ⟨rfl, rfl⟩ | ⟨rfl, rfl⟩ | ⟨rfl, rfl⟩ | ⟨rfl, rfl⟩ | ⟨rfl, rfl⟩ | ⟨rfl, rfl⟩ | ⟨rfl, rfl⟩
  · exact ev_fill_42
  · exact ev_fill_52
  · exact ev_fill_53
  · exact ev_fill_54
  · exact ev_fill_59
  · exact ev_fill_61
  · exact ev_fill_51
  · exact ev_fill_63
  · exact ev_fill_65
  · exact ev_fill_70
  · exact ev_fill_72
  · exact ev_fill_76
  · exact ev_fill_81
  · exact ev_fill_83
  · exact ev_fill_85
/-- a bit of a word -/
def wb (x : Int) (b : Nat) : Bool := (Int32.ofInt x).toBitVec.getLsbD b
/-- the number is in the set whose words are the group G -/
def nsB (w : mm_M) (G : Nat) (i : Int) : Bool := wb (w G 0 (i / 32)) (i % 32).toNat
/-- a number more -/
def nsA (w : mm_M) (G : Nat) (i : Int) : mm_M := mm_up w G 0 (i / 32) (mm_or (w G 0 (i / 32)) (mm_shl 1 (i % 32)))
theorem wb_t {x : Int} {b : Nat} (hb : b < 32) : mm_and (mm_shr x b) 1 = if wb x b = true then 1 else 0 := by
  unfold mm_and mm_shr wb
  rw [mm_i3]
  show (BitVec.sshiftRight (Int32.ofInt x).toBitVec ((Int32.ofInt (b : Int) &&& 31).toBitVec.smod 32).toNat &&& 1#32).toInt = _
  rw [bb_s b hb, BitVec.and_one_eq_setWidth_ofBool_getLsbD, BitVec.getLsbD_sshiftRight]
  rw [show (!decide (32 ≤ 0)) = true from rfl, Bool.true_and, if_pos (by omega), Nat.add_zero]
  cases (Int32.ofInt x).toBitVec.getLsbD b <;> decide
set_option maxRecDepth 100000 in
theorem wb_1 : ∀ b : Fin 32, ∀ c : Fin 32, (Int32.ofInt (mm_shl 1 ((b.val : Nat) : Int))).toBitVec.getLsbD c.val = decide (c = b) := by decide +kernel
theorem wb_or {x : Int} {b c : Nat} (hb : b < 32) (hc : c < 32) : wb (mm_or x (mm_shl 1 (b : Int))) c = (wb x c || decide (c = b)) := by
  unfold wb mm_or
  rw [mm_i3, Int32.toBitVec_or, BitVec.getLsbD_or]
  have := wb_1 ⟨b, hb⟩ ⟨c, hc⟩
  rw [this]
  simp only [Fin.mk.injEq]
theorem wb_eq {x : Int} (hx : mm_in x) {b : Nat} (hb : b < 32) : mm_or x (mm_shl 1 (b : Int)) = x ↔ wb x b = true := by
  refine ⟨fun h => ?_, fun h => ?_⟩
  · have h2 := wb_or (x := x) hb hb
    rw [h, decide_eq_true rfl, Bool.or_true] at h2
    exact h2
  · have e : Int32.ofInt (mm_or x (mm_shl 1 (b : Int))) = Int32.ofInt x := by
      apply Int32.toBitVec_inj.mp
      apply BitVec.eq_of_getLsbD_eq
      intro i hi
      have h2 := wb_or (x := x) hb hi
      show wb (mm_or x (mm_shl 1 (b : Int))) i = wb x i
      rw [h2]
      by_cases hc : i = b
      · subst hc; rw [h]; rfl
      · rw [decide_eq_false hc, Bool.or_false]
    have h3 := congrArg Int32.toInt e
    rw [mm_i1 hx] at h3
    have h4 : (Int32.ofInt (mm_or x (mm_shl 1 (b : Int)))).toInt = mm_or x (mm_shl 1 (b : Int)) := mm_i1 (mm_i2 _)
    exact h4.symm.trans h3
theorem shr5 {i : Int} (h : 0 ≤ i ∧ i < 2147483648) : mm_shr i 5 = i / 32 := by
  have := bb_shr (x := i) ⟨by omega, by omega⟩ (y := 5) (by decide)
  exact this
theorem and31 {i : Int} (h : 0 ≤ i ∧ i < 2147483648) : mm_and i 31 = i % 32 := by
  obtain ⟨n, rfl⟩ := Int.eq_ofNat_of_zero_le h.1
  have := bb_and (x := n) (y := 31) (by omega) (by decide)
  rw [show ((31 : Nat) : Int) = 31 from rfl] at this
  rw [this, show (31 : Nat) = 2 ^ 5 - 1 from rfl, Nat.and_two_pow_sub_one_eq_mod]
  omega
theorem nsB_A {G : Nat} {i j : Int} (hi : 0 ≤ i) (hj : 0 ≤ j) : nsB (nsA w G i) G j = (nsB w G j || decide (j = i)) := by
  unfold nsB nsA
  rw [up_at]
  by_cases h : j / 32 = i / 32
  · rw [if_pos h, h]
    have := wb_or (x := w G 0 (i / 32)) (b := (i % 32).toNat) (c := (j % 32).toNat) (by omega) (by omega)
    rw [show (((i % 32).toNat : Nat) : Int) = i % 32 by omega] at this
    rw [this]
    congr 1
    refine decide_eq_decide.mpr ⟨fun q => by omega, fun q => by rw [q]⟩
  · rw [if_neg h, decide_eq_false (fun q => h (by rw [q])), Bool.or_false]
theorem nsB_0 {G : Nat} {N j : Int} (hj : 0 ≤ j ∧ j < 32 * N) : nsB (arrw w G 0 N (fun _ => 0)) G j = false := by
  unfold nsB
  rw [arrw_in (by omega)]
  exact BitVec.getLsbD_zero
theorem nsB_sm {w' : mm_M} {G : Nat} {j : Int} {L : List (Nat × Option Int)} (hs : sm L w w') (h : ∀ k, frB L G k = true) : nsB w' G j = nsB w G j := by
  unfold nsB
  rw [hs G 0 _ (h _)]
theorem ev_empty_50 : mm_Ev K_X4_empty (0, 0) [.inr (some (50, 0))] (PH r y) w (mm_pe none (PH r y) (arrw w 51 0 128 (fun _ => 0))) := by
  refine ev_intro ok_X4_empty mo_X4_empty (Nat.le_of_ble_eq_true rfl) (fun hrg has => ?_)
  refine k_gp rfl rfl trivial ?_
  refine k_callp rfl ev_fill_51 rfl rfl rfl (by decide) ?_
  exact k_ret rfl trivial ⟨rfl, rfl, rfl⟩
theorem ev_has_50 {i : Int} (hi : 0 ≤ i ∧ i < 32 * 128) : mm_Ev K_X4_has (0, 0) [.inr (some (50, 0)), .inl i] (PH r y) w (mm_pe (some (.inl (ib (nsB w 51 i = true)))) (PH r y) w) := by
  refine ev_intro ok_X4_has mo_X4_has (Nat.le_of_ble_eq_true rfl) (fun hrg has => ?_)
  have h5 := shr5 (i := i) (by omega)
  have h31 := and31 (i := i) (by omega)
  refine k_gp rfl rfl (by simp only [true_and, mm_fits, h5]; omega) ?_
  rw [h5, h31]
  have ht := wb_t (x := w 51 0 (i / 32)) (b := (i % 32).toNat) (by omega)
  rw [show (((i % 32).toNat : Nat) : Int) = i % 32 by omega] at ht
  rw [ht]
  have hn : nsB w 51 i = wb (w 51 0 (i / 32)) (i % 32).toNat := rfl
  rw [← hn]
  cases nsB w 51 i with
  | true =>
    refine k_brf rfl (fun q => q rfl) ?_
    refine k_gp rfl rfl trivial ?_
    exact k_ret rfl (by decide) ⟨rfl, rfl, rfl⟩
  | false =>
    refine k_brt rfl (by decide) ?_
    refine k_gp rfl rfl trivial ?_
    exact k_ret rfl (by decide) ⟨rfl, rfl, rfl⟩
theorem ev_add_50 {i : Int} (hi : 0 ≤ i ∧ i < 32 * 128) : mm_Ev K_X4_add (0, 0) [.inr (some (50, 0)), .inl i] (PH r y) w (mm_pe (some (.inl (ib (nsB w 51 i = false)))) (PH r y) (nsA w 51 i)) := by
  refine ev_intro ok_X4_add mo_X4_add (Nat.le_of_ble_eq_true rfl) (fun hrg has => ?_)
  have h5 := shr5 (i := i) (by omega)
  have h31 := and31 (i := i) (by omega)
  refine k_gp rfl rfl (by simp only [true_and, mm_fits, h5]; omega) ?_
  rw [h5, h31, up_s]
  have hx : mm_in (w 51 0 (i / 32)) := hrg _ _ _
  have ht := wb_eq hx (b := (i % 32).toNat) (by omega)
  rw [show (((i % 32).toNat : Nat) : Int) = i % 32 by omega] at ht
  have hn : nsB w 51 i = wb (w 51 0 (i / 32)) (i % 32).toNat := rfl
  rw [← hn] at ht
  refine k_br rfl (fun q => ?_) (fun q => ?_)
  · rw [ht.mp q]
    refine k_gp rfl rfl trivial ?_
    exact k_ret rfl (by decide) ⟨rfl, rfl, rfl⟩
  · rw [Bool.eq_false_iff.mpr (fun z => q (ht.mpr z))]
    refine k_gp rfl rfl trivial ?_
    exact k_ret rfl (by decide) ⟨rfl, rfl, rfl⟩
theorem ev_empty_62 : mm_Ev K_X4_empty (0, 0) [.inr (some (62, 0))] (PH r y) w (mm_pe none (PH r y) (arrw w 63 0 8 (fun _ => 0))) := by
  refine ev_intro ok_X4_empty mo_X4_empty (Nat.le_of_ble_eq_true rfl) (fun hrg has => ?_)
  refine k_gp rfl rfl trivial ?_
  refine k_callp rfl ev_fill_63 rfl rfl rfl (by decide) ?_
  exact k_ret rfl trivial ⟨rfl, rfl, rfl⟩
theorem ev_has_62 {i : Int} (hi : 0 ≤ i ∧ i < 32 * 8) : mm_Ev K_X4_has (0, 0) [.inr (some (62, 0)), .inl i] (PH r y) w (mm_pe (some (.inl (ib (nsB w 63 i = true)))) (PH r y) w) := by
  refine ev_intro ok_X4_has mo_X4_has (Nat.le_of_ble_eq_true rfl) (fun hrg has => ?_)
  have h5 := shr5 (i := i) (by omega)
  have h31 := and31 (i := i) (by omega)
  refine k_gp rfl rfl (by simp only [true_and, mm_fits, h5]; omega) ?_
  rw [h5, h31]
  have ht := wb_t (x := w 63 0 (i / 32)) (b := (i % 32).toNat) (by omega)
  rw [show (((i % 32).toNat : Nat) : Int) = i % 32 by omega] at ht
  rw [ht]
  have hn : nsB w 63 i = wb (w 63 0 (i / 32)) (i % 32).toNat := rfl
  rw [← hn]
  cases nsB w 63 i with
  | true =>
    refine k_brf rfl (fun q => q rfl) ?_
    refine k_gp rfl rfl trivial ?_
    exact k_ret rfl (by decide) ⟨rfl, rfl, rfl⟩
  | false =>
    refine k_brt rfl (by decide) ?_
    refine k_gp rfl rfl trivial ?_
    exact k_ret rfl (by decide) ⟨rfl, rfl, rfl⟩
theorem ev_add_62 {i : Int} (hi : 0 ≤ i ∧ i < 32 * 8) : mm_Ev K_X4_add (0, 0) [.inr (some (62, 0)), .inl i] (PH r y) w (mm_pe (some (.inl (ib (nsB w 63 i = false)))) (PH r y) (nsA w 63 i)) := by
  refine ev_intro ok_X4_add mo_X4_add (Nat.le_of_ble_eq_true rfl) (fun hrg has => ?_)
  have h5 := shr5 (i := i) (by omega)
  have h31 := and31 (i := i) (by omega)
  refine k_gp rfl rfl (by simp only [true_and, mm_fits, h5]; omega) ?_
  rw [h5, h31, up_s]
  have hx : mm_in (w 63 0 (i / 32)) := hrg _ _ _
  have ht := wb_eq hx (b := (i % 32).toNat) (by omega)
  rw [show (((i % 32).toNat : Nat) : Int) = i % 32 by omega] at ht
  have hn : nsB w 63 i = wb (w 63 0 (i / 32)) (i % 32).toNat := rfl
  rw [← hn] at ht
  refine k_br rfl (fun q => ?_) (fun q => ?_)
  · rw [ht.mp q]
    refine k_gp rfl rfl trivial ?_
    exact k_ret rfl (by decide) ⟨rfl, rfl, rfl⟩
  · rw [Bool.eq_false_iff.mpr (fun z => q (ht.mpr z))]
    refine k_gp rfl rfl trivial ?_
    exact k_ret rfl (by decide) ⟨rfl, rfl, rfl⟩
theorem ev_empty_64 : mm_Ev K_X4_empty (0, 0) [.inr (some (64, 0))] (PH r y) w (mm_pe none (PH r y) (arrw w 65 0 8 (fun _ => 0))) := by
  refine ev_intro ok_X4_empty mo_X4_empty (Nat.le_of_ble_eq_true rfl) (fun hrg has => ?_)
  refine k_gp rfl rfl trivial ?_
  refine k_callp rfl ev_fill_65 rfl rfl rfl (by decide) ?_
  exact k_ret rfl trivial ⟨rfl, rfl, rfl⟩
theorem ev_has_64 {i : Int} (hi : 0 ≤ i ∧ i < 32 * 8) : mm_Ev K_X4_has (0, 0) [.inr (some (64, 0)), .inl i] (PH r y) w (mm_pe (some (.inl (ib (nsB w 65 i = true)))) (PH r y) w) := by
  refine ev_intro ok_X4_has mo_X4_has (Nat.le_of_ble_eq_true rfl) (fun hrg has => ?_)
  have h5 := shr5 (i := i) (by omega)
  have h31 := and31 (i := i) (by omega)
  refine k_gp rfl rfl (by simp only [true_and, mm_fits, h5]; omega) ?_
  rw [h5, h31]
  have ht := wb_t (x := w 65 0 (i / 32)) (b := (i % 32).toNat) (by omega)
  rw [show (((i % 32).toNat : Nat) : Int) = i % 32 by omega] at ht
  rw [ht]
  have hn : nsB w 65 i = wb (w 65 0 (i / 32)) (i % 32).toNat := rfl
  rw [← hn]
  cases nsB w 65 i with
  | true =>
    refine k_brf rfl (fun q => q rfl) ?_
    refine k_gp rfl rfl trivial ?_
    exact k_ret rfl (by decide) ⟨rfl, rfl, rfl⟩
  | false =>
    refine k_brt rfl (by decide) ?_
    refine k_gp rfl rfl trivial ?_
    exact k_ret rfl (by decide) ⟨rfl, rfl, rfl⟩
theorem ev_add_64 {i : Int} (hi : 0 ≤ i ∧ i < 32 * 8) : mm_Ev K_X4_add (0, 0) [.inr (some (64, 0)), .inl i] (PH r y) w (mm_pe (some (.inl (ib (nsB w 65 i = false)))) (PH r y) (nsA w 65 i)) := by
  refine ev_intro ok_X4_add mo_X4_add (Nat.le_of_ble_eq_true rfl) (fun hrg has => ?_)
  have h5 := shr5 (i := i) (by omega)
  have h31 := and31 (i := i) (by omega)
  refine k_gp rfl rfl (by simp only [true_and, mm_fits, h5]; omega) ?_
  rw [h5, h31, up_s]
  have hx : mm_in (w 65 0 (i / 32)) := hrg _ _ _
  have ht := wb_eq hx (b := (i % 32).toNat) (by omega)
  rw [show (((i % 32).toNat : Nat) : Int) = i % 32 by omega] at ht
  have hn : nsB w 65 i = wb (w 65 0 (i / 32)) (i % 32).toNat := rfl
  rw [← hn] at ht
  refine k_br rfl (fun q => ?_) (fun q => ?_)
  · rw [ht.mp q]
    refine k_gp rfl rfl trivial ?_
    exact k_ret rfl (by decide) ⟨rfl, rfl, rfl⟩
  · rw [Bool.eq_false_iff.mpr (fun z => q (ht.mpr z))]
    refine k_gp rfl rfl trivial ?_
    exact k_ret rfl (by decide) ⟨rfl, rfl, rfl⟩
theorem ev_empty_69 : mm_Ev K_X4_empty (0, 0) [.inr (some (69, 0))] (PH r y) w (mm_pe none (PH r y) (arrw w 70 0 8 (fun _ => 0))) := by
  refine ev_intro ok_X4_empty mo_X4_empty (Nat.le_of_ble_eq_true rfl) (fun hrg has => ?_)
  refine k_gp rfl rfl trivial ?_
  refine k_callp rfl ev_fill_70 rfl rfl rfl (by decide) ?_
  exact k_ret rfl trivial ⟨rfl, rfl, rfl⟩
theorem ev_has_69 {i : Int} (hi : 0 ≤ i ∧ i < 32 * 8) : mm_Ev K_X4_has (0, 0) [.inr (some (69, 0)), .inl i] (PH r y) w (mm_pe (some (.inl (ib (nsB w 70 i = true)))) (PH r y) w) := by
  refine ev_intro ok_X4_has mo_X4_has (Nat.le_of_ble_eq_true rfl) (fun hrg has => ?_)
  have h5 := shr5 (i := i) (by omega)
  have h31 := and31 (i := i) (by omega)
  refine k_gp rfl rfl (by simp only [true_and, mm_fits, h5]; omega) ?_
  rw [h5, h31]
  have ht := wb_t (x := w 70 0 (i / 32)) (b := (i % 32).toNat) (by omega)
  rw [show (((i % 32).toNat : Nat) : Int) = i % 32 by omega] at ht
  rw [ht]
  have hn : nsB w 70 i = wb (w 70 0 (i / 32)) (i % 32).toNat := rfl
  rw [← hn]
  cases nsB w 70 i with
  | true =>
    refine k_brf rfl (fun q => q rfl) ?_
    refine k_gp rfl rfl trivial ?_
    exact k_ret rfl (by decide) ⟨rfl, rfl, rfl⟩
  | false =>
    refine k_brt rfl (by decide) ?_
    refine k_gp rfl rfl trivial ?_
    exact k_ret rfl (by decide) ⟨rfl, rfl, rfl⟩
theorem ev_add_69 {i : Int} (hi : 0 ≤ i ∧ i < 32 * 8) : mm_Ev K_X4_add (0, 0) [.inr (some (69, 0)), .inl i] (PH r y) w (mm_pe (some (.inl (ib (nsB w 70 i = false)))) (PH r y) (nsA w 70 i)) := by
  refine ev_intro ok_X4_add mo_X4_add (Nat.le_of_ble_eq_true rfl) (fun hrg has => ?_)
  have h5 := shr5 (i := i) (by omega)
  have h31 := and31 (i := i) (by omega)
  refine k_gp rfl rfl (by simp only [true_and, mm_fits, h5]; omega) ?_
  rw [h5, h31, up_s]
  have hx : mm_in (w 70 0 (i / 32)) := hrg _ _ _
  have ht := wb_eq hx (b := (i % 32).toNat) (by omega)
  rw [show (((i % 32).toNat : Nat) : Int) = i % 32 by omega] at ht
  have hn : nsB w 70 i = wb (w 70 0 (i / 32)) (i % 32).toNat := rfl
  rw [← hn] at ht
  refine k_br rfl (fun q => ?_) (fun q => ?_)
  · rw [ht.mp q]
    refine k_gp rfl rfl trivial ?_
    exact k_ret rfl (by decide) ⟨rfl, rfl, rfl⟩
  · rw [Bool.eq_false_iff.mpr (fun z => q (ht.mpr z))]
    refine k_gp rfl rfl trivial ?_
    exact k_ret rfl (by decide) ⟨rfl, rfl, rfl⟩
theorem ev_empty_71 : mm_Ev K_X4_empty (0, 0) [.inr (some (71, 0))] (PH r y) w (mm_pe none (PH r y) (arrw w 72 0 8 (fun _ => 0))) := by
  refine ev_intro ok_X4_empty mo_X4_empty (Nat.le_of_ble_eq_true rfl) (fun hrg has => ?_)
  refine k_gp rfl rfl trivial ?_
  refine k_callp rfl ev_fill_72 rfl rfl rfl (by decide) ?_
  exact k_ret rfl trivial ⟨rfl, rfl, rfl⟩
theorem ev_has_71 {i : Int} (hi : 0 ≤ i ∧ i < 32 * 8) : mm_Ev K_X4_has (0, 0) [.inr (some (71, 0)), .inl i] (PH r y) w (mm_pe (some (.inl (ib (nsB w 72 i = true)))) (PH r y) w) := by
  refine ev_intro ok_X4_has mo_X4_has (Nat.le_of_ble_eq_true rfl) (fun hrg has => ?_)
  have h5 := shr5 (i := i) (by omega)
  have h31 := and31 (i := i) (by omega)
  refine k_gp rfl rfl (by simp only [true_and, mm_fits, h5]; omega) ?_
  rw [h5, h31]
  have ht := wb_t (x := w 72 0 (i / 32)) (b := (i % 32).toNat) (by omega)
  rw [show (((i % 32).toNat : Nat) : Int) = i % 32 by omega] at ht
  rw [ht]
  have hn : nsB w 72 i = wb (w 72 0 (i / 32)) (i % 32).toNat := rfl
  rw [← hn]
  cases nsB w 72 i with
  | true =>
    refine k_brf rfl (fun q => q rfl) ?_
    refine k_gp rfl rfl trivial ?_
    exact k_ret rfl (by decide) ⟨rfl, rfl, rfl⟩
  | false =>
    refine k_brt rfl (by decide) ?_
    refine k_gp rfl rfl trivial ?_
    exact k_ret rfl (by decide) ⟨rfl, rfl, rfl⟩
theorem ev_add_71 {i : Int} (hi : 0 ≤ i ∧ i < 32 * 8) : mm_Ev K_X4_add (0, 0) [.inr (some (71, 0)), .inl i] (PH r y) w (mm_pe (some (.inl (ib (nsB w 72 i = false)))) (PH r y) (nsA w 72 i)) := by
  refine ev_intro ok_X4_add mo_X4_add (Nat.le_of_ble_eq_true rfl) (fun hrg has => ?_)
  have h5 := shr5 (i := i) (by omega)
  have h31 := and31 (i := i) (by omega)
  refine k_gp rfl rfl (by simp only [true_and, mm_fits, h5]; omega) ?_
  rw [h5, h31, up_s]
  have hx : mm_in (w 72 0 (i / 32)) := hrg _ _ _
  have ht := wb_eq hx (b := (i % 32).toNat) (by omega)
  rw [show (((i % 32).toNat : Nat) : Int) = i % 32 by omega] at ht
  have hn : nsB w 72 i = wb (w 72 0 (i / 32)) (i % 32).toNat := rfl
  rw [← hn] at ht
  refine k_br rfl (fun q => ?_) (fun q => ?_)
  · rw [ht.mp q]
    refine k_gp rfl rfl trivial ?_
    exact k_ret rfl (by decide) ⟨rfl, rfl, rfl⟩
  · rw [Bool.eq_false_iff.mpr (fun z => q (ht.mpr z))]
    refine k_gp rfl rfl trivial ?_
    exact k_ret rfl (by decide) ⟨rfl, rfl, rfl⟩
theorem ev_empty_75 : mm_Ev K_X4_empty (0, 0) [.inr (some (75, 0))] (PH r y) w (mm_pe none (PH r y) (arrw w 76 0 16 (fun _ => 0))) := by
  refine ev_intro ok_X4_empty mo_X4_empty (Nat.le_of_ble_eq_true rfl) (fun hrg has => ?_)
  refine k_gp rfl rfl trivial ?_
  refine k_callp rfl ev_fill_76 rfl rfl rfl (by decide) ?_
  exact k_ret rfl trivial ⟨rfl, rfl, rfl⟩
theorem ev_has_75 {i : Int} (hi : 0 ≤ i ∧ i < 32 * 16) : mm_Ev K_X4_has (0, 0) [.inr (some (75, 0)), .inl i] (PH r y) w (mm_pe (some (.inl (ib (nsB w 76 i = true)))) (PH r y) w) := by
  refine ev_intro ok_X4_has mo_X4_has (Nat.le_of_ble_eq_true rfl) (fun hrg has => ?_)
  have h5 := shr5 (i := i) (by omega)
  have h31 := and31 (i := i) (by omega)
  refine k_gp rfl rfl (by simp only [true_and, mm_fits, h5]; omega) ?_
  rw [h5, h31]
  have ht := wb_t (x := w 76 0 (i / 32)) (b := (i % 32).toNat) (by omega)
  rw [show (((i % 32).toNat : Nat) : Int) = i % 32 by omega] at ht
  rw [ht]
  have hn : nsB w 76 i = wb (w 76 0 (i / 32)) (i % 32).toNat := rfl
  rw [← hn]
  cases nsB w 76 i with
  | true =>
    refine k_brf rfl (fun q => q rfl) ?_
    refine k_gp rfl rfl trivial ?_
    exact k_ret rfl (by decide) ⟨rfl, rfl, rfl⟩
  | false =>
    refine k_brt rfl (by decide) ?_
    refine k_gp rfl rfl trivial ?_
    exact k_ret rfl (by decide) ⟨rfl, rfl, rfl⟩
theorem ev_add_75 {i : Int} (hi : 0 ≤ i ∧ i < 32 * 16) : mm_Ev K_X4_add (0, 0) [.inr (some (75, 0)), .inl i] (PH r y) w (mm_pe (some (.inl (ib (nsB w 76 i = false)))) (PH r y) (nsA w 76 i)) := by
  refine ev_intro ok_X4_add mo_X4_add (Nat.le_of_ble_eq_true rfl) (fun hrg has => ?_)
  have h5 := shr5 (i := i) (by omega)
  have h31 := and31 (i := i) (by omega)
  refine k_gp rfl rfl (by simp only [true_and, mm_fits, h5]; omega) ?_
  rw [h5, h31, up_s]
  have hx : mm_in (w 76 0 (i / 32)) := hrg _ _ _
  have ht := wb_eq hx (b := (i % 32).toNat) (by omega)
  rw [show (((i % 32).toNat : Nat) : Int) = i % 32 by omega] at ht
  have hn : nsB w 76 i = wb (w 76 0 (i / 32)) (i % 32).toNat := rfl
  rw [← hn] at ht
  refine k_br rfl (fun q => ?_) (fun q => ?_)
  · rw [ht.mp q]
    refine k_gp rfl rfl trivial ?_
    exact k_ret rfl (by decide) ⟨rfl, rfl, rfl⟩
  · rw [Bool.eq_false_iff.mpr (fun z => q (ht.mpr z))]
    refine k_gp rfl rfl trivial ?_
    exact k_ret rfl (by decide) ⟨rfl, rfl, rfl⟩
theorem ev_empty_80 : mm_Ev K_X4_empty (0, 0) [.inr (some (80, 0))] (PH r y) w (mm_pe none (PH r y) (arrw w 81 0 64 (fun _ => 0))) := by
  refine ev_intro ok_X4_empty mo_X4_empty (Nat.le_of_ble_eq_true rfl) (fun hrg has => ?_)
  refine k_gp rfl rfl trivial ?_
  refine k_callp rfl ev_fill_81 rfl rfl rfl (by decide) ?_
  exact k_ret rfl trivial ⟨rfl, rfl, rfl⟩
theorem ev_has_80 {i : Int} (hi : 0 ≤ i ∧ i < 32 * 64) : mm_Ev K_X4_has (0, 0) [.inr (some (80, 0)), .inl i] (PH r y) w (mm_pe (some (.inl (ib (nsB w 81 i = true)))) (PH r y) w) := by
  refine ev_intro ok_X4_has mo_X4_has (Nat.le_of_ble_eq_true rfl) (fun hrg has => ?_)
  have h5 := shr5 (i := i) (by omega)
  have h31 := and31 (i := i) (by omega)
  refine k_gp rfl rfl (by simp only [true_and, mm_fits, h5]; omega) ?_
  rw [h5, h31]
  have ht := wb_t (x := w 81 0 (i / 32)) (b := (i % 32).toNat) (by omega)
  rw [show (((i % 32).toNat : Nat) : Int) = i % 32 by omega] at ht
  rw [ht]
  have hn : nsB w 81 i = wb (w 81 0 (i / 32)) (i % 32).toNat := rfl
  rw [← hn]
  cases nsB w 81 i with
  | true =>
    refine k_brf rfl (fun q => q rfl) ?_
    refine k_gp rfl rfl trivial ?_
    exact k_ret rfl (by decide) ⟨rfl, rfl, rfl⟩
  | false =>
    refine k_brt rfl (by decide) ?_
    refine k_gp rfl rfl trivial ?_
    exact k_ret rfl (by decide) ⟨rfl, rfl, rfl⟩
theorem ev_add_80 {i : Int} (hi : 0 ≤ i ∧ i < 32 * 64) : mm_Ev K_X4_add (0, 0) [.inr (some (80, 0)), .inl i] (PH r y) w (mm_pe (some (.inl (ib (nsB w 81 i = false)))) (PH r y) (nsA w 81 i)) := by
  refine ev_intro ok_X4_add mo_X4_add (Nat.le_of_ble_eq_true rfl) (fun hrg has => ?_)
  have h5 := shr5 (i := i) (by omega)
  have h31 := and31 (i := i) (by omega)
  refine k_gp rfl rfl (by simp only [true_and, mm_fits, h5]; omega) ?_
  rw [h5, h31, up_s]
  have hx : mm_in (w 81 0 (i / 32)) := hrg _ _ _
  have ht := wb_eq hx (b := (i % 32).toNat) (by omega)
  rw [show (((i % 32).toNat : Nat) : Int) = i % 32 by omega] at ht
  have hn : nsB w 81 i = wb (w 81 0 (i / 32)) (i % 32).toNat := rfl
  rw [← hn] at ht
  refine k_br rfl (fun q => ?_) (fun q => ?_)
  · rw [ht.mp q]
    refine k_gp rfl rfl trivial ?_
    exact k_ret rfl (by decide) ⟨rfl, rfl, rfl⟩
  · rw [Bool.eq_false_iff.mpr (fun z => q (ht.mpr z))]
    refine k_gp rfl rfl trivial ?_
    exact k_ret rfl (by decide) ⟨rfl, rfl, rfl⟩
theorem ev_empty_82 : mm_Ev K_X4_empty (0, 0) [.inr (some (82, 0))] (PH r y) w (mm_pe none (PH r y) (arrw w 83 0 8 (fun _ => 0))) := by
  refine ev_intro ok_X4_empty mo_X4_empty (Nat.le_of_ble_eq_true rfl) (fun hrg has => ?_)
  refine k_gp rfl rfl trivial ?_
  refine k_callp rfl ev_fill_83 rfl rfl rfl (by decide) ?_
  exact k_ret rfl trivial ⟨rfl, rfl, rfl⟩
theorem ev_has_82 {i : Int} (hi : 0 ≤ i ∧ i < 32 * 8) : mm_Ev K_X4_has (0, 0) [.inr (some (82, 0)), .inl i] (PH r y) w (mm_pe (some (.inl (ib (nsB w 83 i = true)))) (PH r y) w) := by
  refine ev_intro ok_X4_has mo_X4_has (Nat.le_of_ble_eq_true rfl) (fun hrg has => ?_)
  have h5 := shr5 (i := i) (by omega)
  have h31 := and31 (i := i) (by omega)
  refine k_gp rfl rfl (by simp only [true_and, mm_fits, h5]; omega) ?_
  rw [h5, h31]
  have ht := wb_t (x := w 83 0 (i / 32)) (b := (i % 32).toNat) (by omega)
  rw [show (((i % 32).toNat : Nat) : Int) = i % 32 by omega] at ht
  rw [ht]
  have hn : nsB w 83 i = wb (w 83 0 (i / 32)) (i % 32).toNat := rfl
  rw [← hn]
  cases nsB w 83 i with
  | true =>
    refine k_brf rfl (fun q => q rfl) ?_
    refine k_gp rfl rfl trivial ?_
    exact k_ret rfl (by decide) ⟨rfl, rfl, rfl⟩
  | false =>
    refine k_brt rfl (by decide) ?_
    refine k_gp rfl rfl trivial ?_
    exact k_ret rfl (by decide) ⟨rfl, rfl, rfl⟩
theorem ev_add_82 {i : Int} (hi : 0 ≤ i ∧ i < 32 * 8) : mm_Ev K_X4_add (0, 0) [.inr (some (82, 0)), .inl i] (PH r y) w (mm_pe (some (.inl (ib (nsB w 83 i = false)))) (PH r y) (nsA w 83 i)) := by
  refine ev_intro ok_X4_add mo_X4_add (Nat.le_of_ble_eq_true rfl) (fun hrg has => ?_)
  have h5 := shr5 (i := i) (by omega)
  have h31 := and31 (i := i) (by omega)
  refine k_gp rfl rfl (by simp only [true_and, mm_fits, h5]; omega) ?_
  rw [h5, h31, up_s]
  have hx : mm_in (w 83 0 (i / 32)) := hrg _ _ _
  have ht := wb_eq hx (b := (i % 32).toNat) (by omega)
  rw [show (((i % 32).toNat : Nat) : Int) = i % 32 by omega] at ht
  have hn : nsB w 83 i = wb (w 83 0 (i / 32)) (i % 32).toNat := rfl
  rw [← hn] at ht
  refine k_br rfl (fun q => ?_) (fun q => ?_)
  · rw [ht.mp q]
    refine k_gp rfl rfl trivial ?_
    exact k_ret rfl (by decide) ⟨rfl, rfl, rfl⟩
  · rw [Bool.eq_false_iff.mpr (fun z => q (ht.mpr z))]
    refine k_gp rfl rfl trivial ?_
    exact k_ret rfl (by decide) ⟨rfl, rfl, rfl⟩
theorem ev_empty_84 : mm_Ev K_X4_empty (0, 0) [.inr (some (84, 0))] (PH r y) w (mm_pe none (PH r y) (arrw w 85 0 8 (fun _ => 0))) := by
  refine ev_intro ok_X4_empty mo_X4_empty (Nat.le_of_ble_eq_true rfl) (fun hrg has => ?_)
  refine k_gp rfl rfl trivial ?_
  refine k_callp rfl ev_fill_85 rfl rfl rfl (by decide) ?_
  exact k_ret rfl trivial ⟨rfl, rfl, rfl⟩
theorem ev_has_84 {i : Int} (hi : 0 ≤ i ∧ i < 32 * 8) : mm_Ev K_X4_has (0, 0) [.inr (some (84, 0)), .inl i] (PH r y) w (mm_pe (some (.inl (ib (nsB w 85 i = true)))) (PH r y) w) := by
  refine ev_intro ok_X4_has mo_X4_has (Nat.le_of_ble_eq_true rfl) (fun hrg has => ?_)
  have h5 := shr5 (i := i) (by omega)
  have h31 := and31 (i := i) (by omega)
  refine k_gp rfl rfl (by simp only [true_and, mm_fits, h5]; omega) ?_
  rw [h5, h31]
  have ht := wb_t (x := w 85 0 (i / 32)) (b := (i % 32).toNat) (by omega)
  rw [show (((i % 32).toNat : Nat) : Int) = i % 32 by omega] at ht
  rw [ht]
  have hn : nsB w 85 i = wb (w 85 0 (i / 32)) (i % 32).toNat := rfl
  rw [← hn]
  cases nsB w 85 i with
  | true =>
    refine k_brf rfl (fun q => q rfl) ?_
    refine k_gp rfl rfl trivial ?_
    exact k_ret rfl (by decide) ⟨rfl, rfl, rfl⟩
  | false =>
    refine k_brt rfl (by decide) ?_
    refine k_gp rfl rfl trivial ?_
    exact k_ret rfl (by decide) ⟨rfl, rfl, rfl⟩
theorem ev_add_84 {i : Int} (hi : 0 ≤ i ∧ i < 32 * 8) : mm_Ev K_X4_add (0, 0) [.inr (some (84, 0)), .inl i] (PH r y) w (mm_pe (some (.inl (ib (nsB w 85 i = false)))) (PH r y) (nsA w 85 i)) := by
  refine ev_intro ok_X4_add mo_X4_add (Nat.le_of_ble_eq_true rfl) (fun hrg has => ?_)
  have h5 := shr5 (i := i) (by omega)
  have h31 := and31 (i := i) (by omega)
  refine k_gp rfl rfl (by simp only [true_and, mm_fits, h5]; omega) ?_
  rw [h5, h31, up_s]
  have hx : mm_in (w 85 0 (i / 32)) := hrg _ _ _
  have ht := wb_eq hx (b := (i % 32).toNat) (by omega)
  rw [show (((i % 32).toNat : Nat) : Int) = i % 32 by omega] at ht
  have hn : nsB w 85 i = wb (w 85 0 (i / 32)) (i % 32).toNat := rfl
  rw [← hn] at ht
  refine k_br rfl (fun q => ?_) (fun q => ?_)
  · rw [ht.mp q]
    refine k_gp rfl rfl trivial ?_
    exact k_ret rfl (by decide) ⟨rfl, rfl, rfl⟩
  · rw [Bool.eq_false_iff.mpr (fun z => q (ht.mpr z))]
    refine k_gp rfl rfl trivial ?_
    exact k_ret rfl (by decide) ⟨rfl, rfl, rfl⟩
theorem ev_empty {g : Nat} {N : Int} (hg : NSL g N) : mm_Ev K_X4_empty (0, 0) [.inr (some (g, 0))] (PH r y) w (mm_pe none (PH r y) (arrw w (g + 1) 0 N (fun _ => 0))) := by
  rcases hg with ⟨rfl, rfl⟩ | ⟨rfl, rfl⟩ | ⟨rfl, rfl⟩ | ⟨rfl, rfl⟩ | ⟨rfl, rfl⟩ | ⟨rfl, rfl⟩ | ⟨rfl, rfl⟩ | ⟨rfl, rfl⟩ | ⟨rfl, rfl⟩
  · exact ev_empty_50
  · exact ev_empty_62
  · exact ev_empty_64
  · exact ev_empty_69
  · exact ev_empty_71
  · exact ev_empty_75
  · exact ev_empty_80
  · exact ev_empty_82
  · exact ev_empty_84
theorem ev_has {g : Nat} {N i : Int} (hg : NSL g N) (hi : 0 ≤ i ∧ i < 32 * N) : mm_Ev K_X4_has (0, 0) [.inr (some (g, 0)), .inl i] (PH r y) w (mm_pe (some (.inl (ib (nsB w (g + 1) i = true)))) (PH r y) w) := by
  rcases hg with ⟨rfl, rfl⟩ | ⟨rfl, rfl⟩ | ⟨rfl, rfl⟩ | ⟨rfl, rfl⟩ | ⟨rfl, rfl⟩ | ⟨rfl, rfl⟩ | ⟨rfl, rfl⟩ | ⟨rfl, rfl⟩ | ⟨rfl, rfl⟩
  · exact ev_has_50 hi
  · exact ev_has_62 hi
  · exact ev_has_64 hi
  · exact ev_has_69 hi
  · exact ev_has_71 hi
  · exact ev_has_75 hi
  · exact ev_has_80 hi
  · exact ev_has_82 hi
  · exact ev_has_84 hi
theorem ev_add {g : Nat} {N i : Int} (hg : NSL g N) (hi : 0 ≤ i ∧ i < 32 * N) : mm_Ev K_X4_add (0, 0) [.inr (some (g, 0)), .inl i] (PH r y) w (mm_pe (some (.inl (ib (nsB w (g + 1) i = false)))) (PH r y) (nsA w (g + 1) i)) := by
  rcases hg with ⟨rfl, rfl⟩ | ⟨rfl, rfl⟩ | ⟨rfl, rfl⟩ | ⟨rfl, rfl⟩ | ⟨rfl, rfl⟩ | ⟨rfl, rfl⟩ | ⟨rfl, rfl⟩ | ⟨rfl, rfl⟩ | ⟨rfl, rfl⟩
  · exact ev_add_50 hi
  · exact ev_add_62 hi
  · exact ev_add_64 hi
  · exact ev_add_69 hi
  · exact ev_add_71 hi
  · exact ev_add_75 hi
  · exact ev_add_80 hi
  · exact ev_add_82 hi
  · exact ev_add_84 hi
end MC
end
section
/-! ===== the class: what comparisons and edges mean ===== -/
/-- the class's program is this one -/
def PC (w : mm_M) (np trap nv nc ne : Int) (c e : Int → Int → Int) (f : Int → Int) : Prop := (w 32 0 0 = np ∧ w 32 0 1 = trap ∧ w 32 0 2 = nv ∧ w 32 0 3 = nc ∧ w 32 0 4 = ne) ∧ (∀ v, 0 ≤ v → v < nv → w 33 0 v = f (2 * v) ∧ w 34 0 v = f (2 * v + 1)) ∧ (∀ g k, 0 ≤ g → g < nc → 0 ≤ k → k < 3 → w 36 g k = c g k) ∧ (∀ x k, 0 ≤ x → x < ne → 0 ≤ k → k < 7 → w 38 x k = e x k)
/-- it is one that a text may tell -/
def PO (np trap nv nc ne : Int) (c e : Int → Int → Int) : Prop := (2 ≤ np ∧ np ≤ 8) ∧ (0 ≤ trap ∧ trap < np) ∧ (0 ≤ nv ∧ nv ≤ 3) ∧ (0 ≤ nc ∧ nc ≤ 8) ∧ (0 ≤ ne ∧ ne ≤ 14) ∧ (∀ g, 0 ≤ g → g < nc → cOK c g nv) ∧ (∀ x, 0 ≤ x → x < ne → eOK e x np nc nv)
/-- all comparisons that are so -/
def SO (c : Int → Int → Int) (nc all : Int) : Int := ((bts (fun g => soB c g all) nc.toNat : Nat) : Int)
theorem or00 {L : Int} (h : 0 ≤ L ∧ L < 2147483648) : mm_or L 0 = L := by
  obtain ⟨n, rfl⟩ := Int.eq_ofNat_of_zero_le h.1
  have := bb_or (x := n) (y := 0) (by omega) (by decide)
  rw [Nat.or_zero] at this
  exact this
section MC
variable {r y : Bool} {w : mm_M} {np trap nv nc ne : Int} {c e : Int → Int → Int} {f : Int → Int}
theorem ev_c_valueOf {all v : Int} (ha : 0 ≤ all ∧ all < 2147483648) (hv : 0 ≤ v ∧ v ≤ 2) : mm_Ev K_X3_valueOf (0, 0) [.inl all, .inl v] (PH r y) w (mm_pe (some (.inl (vl all v))) (PH r y) w) := by
  refine ev_intro ok_X3_valueOf mo_X3_valueOf (Nat.le_of_ble_eq_true rfl) (fun hrg has => ?_)
  repeat' (first
    | refine k_brt rfl (by decide) ?_
    | refine k_brf rfl (by decide) ?_
    | refine k_brz rfl (fun _ => ?_) (fun _ => ?_)
    | refine k_brn rfl (fun _ => ?_) (fun _ => ?_)
    | refine k_br rfl (fun _ => ?_) (fun _ => ?_)
    | refine k_ret rfl ?_ ⟨?_, rfl, rfl⟩
    | refine k_ts rfl rfl ?_ (fun _ => ?_)
    | refine mm_tsc (fun _ => ?_) ?_
    | exact mm_tsn
    | refine k_gp rfl rfl ?_ ?_)
  all_goals (first | trivial | omega | (simp only [true_and, mm_fits]; omega) | (refine congrArg some (congrArg Sum.inl ?_); first | rfl | (rw [ib_t (by omega)]) | (rw [ib_f (by omega)]) | omega) | (rw [vl_eq ha hv]))
theorem ev_c_isSo {g all : Int} (ha : 0 ≤ all ∧ all < 512) (hg : 0 ≤ g ∧ g < 8) (hnv : nv ≤ 3) (hm : ∀ k, 0 ≤ k → k < 3 → w 36 g k = c g k) (hc : cOK c g nv) : mm_Ev K_X3_isSo (0, 0) [.inr (some (36, g)), .inl all] (PH r y) w (mm_pe (some (.inl (ib (soB c g all = true)))) (PH r y) w) := by
  refine ev_intro ok_X3_isSo mo_X3_isSo (Nat.le_of_ble_eq_true rfl) (fun hrg has => ?_)
  have m0 := hm 0 (by decide) (by decide)
  have m1 := hm 1 (by decide) (by decide)
  have m2 := hm 2 (by decide) (by decide)
  simp only [cOK, ← m0, ← m1, ← m2] at hc
  simp only [soB, sB, ← m0, ← m1, ← m2, decide_eq_true_eq]
  have v1 := vl_in all (w 36 g 1)
  have v2 := vl_in all (w 36 g 2)
  repeat' (first
    | refine k_brt rfl (by decide) ?_
    | refine k_brf rfl (by decide) ?_
    | refine k_brz rfl (fun _ => ?_) (fun _ => ?_)
    | refine k_brn rfl (fun _ => ?_) (fun _ => ?_)
    | refine k_br rfl (fun _ => ?_) (fun _ => ?_)
    | refine k_ret rfl ?_ ⟨?_, rfl, rfl⟩
    | refine k_callp rfl (ev_c_valueOf ?_ ?_) rfl rfl rfl (by decide) ?_
    | refine k_ts rfl rfl ?_ (fun _ => ?_)
    | refine mm_tsc (fun _ => ?_) ?_
    | exact mm_tsn
    | refine k_gp rfl rfl ?_ ?_)
  all_goals (first | trivial | omega | (simp only [true_and, mm_fits]; omega) | (refine congrArg some (congrArg Sum.inl ?_); first | rfl | (rw [ib_t (by omega)]) | (rw [ib_f (by omega)]) | omega))
theorem ev_c_findSos {all : Int} (ha : 0 ≤ all ∧ all < 512) (hO : PO np trap nv nc ne c e) (hP : PC w np trap nv nc ne c e f) : mm_Ev K_X3_findSos (0, 0) [.inr (some (39, 0)), .inl all] (PH r y) w (mm_pe (some (.inl (SO c nc all))) (PH r y) w) := by
  refine ev_intro ok_X3_findSos mo_X3_findSos (Nat.le_of_ble_eq_true rfl) (fun hrg has => ?_)
  obtain ⟨⟨p0, p1, p2, p3, p4⟩, -, hc, -⟩ := hP
  have hnc := hO.2.2.2.1
  have hnv := hO.2.2.1
  refine k_gp rfl rfl trivial ?_
  refine mm_loop (σ := Int) nc (fun g s => (0 ≤ g ∧ g ≤ nc) ∧ s = ((bts (fun g => soB c g all) g.toNat : Nat) : Int)) (fun g s => mm_Wk K_X3_findSos (0, 0) 4 [some (.inr (some (39, 0))), some (.inl all), some (.inl s), some (.inl g)] [] (PH r y) w (mm_pe (some (.inl (SO c nc all))) (PH r y) w)) ?_ ?_ 0 0 ⟨by omega, rfl⟩
  · intro g s h1 h2 ih
    obtain ⟨h2, h3⟩ := h2
    refine k_gp rfl rfl trivial ?_
    rw [p3]
    refine k_brf rfl (by omega) ?_
    refine k_gp rfl rfl (by simp only [true_and, mm_fits]; omega) ?_
    refine k_callp rfl (ev_c_isSo ha (by omega) hnv.2 (fun k a b => hc g k (by omega) (by omega) a b) (hO.2.2.2.2.2.1 g (by omega) (by omega))) rfl rfl rfl (by decide) ?_
    have e1 : ((g.toNat : Nat) : Int) = g := by omega
    refine k_brz rfl (fun q => ?_) (fun q => ?_)
    · have hst := bts_step (f := fun g : Nat => soB c g all) (v := 0) (by omega) h3 (by simp only [e1]; rw [if_neg q])
      refine k_gp rfl rfl (by simp only [true_and, mm_fits]; omega) ?_
      refine ih s ⟨by omega, ?_⟩
      rw [← hst, h3]
      refine (or00 ?_).symm
      have := bts_lt (fun g : Nat => soB c g all) g.toNat
      have : 2 ^ g.toNat ≤ 2 ^ 8 := Nat.pow_le_pow_right (by decide) (by omega)
      omega
    · have hst := bts_step (f := fun g : Nat => soB c g all) (v := ((2 ^ g.toNat : Nat) : Int)) (by omega) h3 (by simp only [e1]; rw [if_pos q])
      refine k_gp rfl rfl trivial ?_
      rw [shl1 (by omega), hst]
      refine k_gp rfl rfl (by simp only [true_and, mm_fits]; omega) ?_
      exact ih _ ⟨by omega, rfl⟩
  · intro g s h1 h2
    obtain ⟨h2, h3⟩ := h2
    have : g = nc := by omega
    subst this
    refine k_gp rfl rfl trivial ?_
    rw [p3]
    refine k_brt rfl (by omega) ?_
    refine k_gp rfl rfl trivial ?_
    rw [h3]
    exact k_ret rfl trivial ⟨rfl, rfl, rfl⟩
end MC
end
section
/-! ===== the class: where edges lead, first values ===== -/
theorem SO_in (c : Int → Int → Int) {nc : Int} (all : Int) (h : nc ≤ 8) : 0 ≤ SO c nc all ∧ SO c nc all < 256 := by
  unfold SO
  have h1 := bts_lt (fun g : Nat => soB c g all) nc.toNat
  have h2 : 2 ^ nc.toNat ≤ 2 ^ 8 := Nat.pow_le_pow_right (by decide) (by omega)
  omega
theorem SO_hb {c : Int → Int → Int} {nc all g : Int} (h : nc ≤ 8) (hg : 0 ≤ g ∧ g < nc) : SO c nc all / ((2 ^ g.toNat : Nat) : Int) % 2 = ib (soB c g all = true) := by
  have h0 := SO_in c all h
  have h1 := hb_tb (L := SO c nc all) (g := g) h0.1
  have h2 := bts_bit (fun g : Nat => soB c g all) nc.toNat g.toNat
  rw [decide_eq_true (show g.toNat < nc.toNat by omega), Bool.true_and] at h2
  have h3 : (SO c nc all).toNat = bts (fun g : Nat => soB c g all) nc.toNat := rfl
  rw [h3, h2, show ((g.toNat : Nat) : Int) = g by omega] at h1
  have h4 : hb (SO c nc all) g ↔ SO c nc all / ((2 ^ g.toNat : Nat) : Int) % 2 = 1 := Iff.rfl
  rw [h4] at h1
  cases hs : soB c g all with
  | true => exact h1.mpr hs
  | false =>
    have : ¬ SO c nc all / ((2 ^ g.toNat : Nat) : Int) % 2 = 1 := fun q => by
      have := h1.mp q
      rw [hs] at this
      cases this
    show _ = 0
    omega
/-- where an edge leads, -2 if it can not be gone -/
def ga_ (c e : Int → Int → Int) (x all : Int) : Int := if go_ c e x all < 0 then -2 else go_ c e x all
section MC
variable {r y : Bool} {w : mm_M} {np trap nv nc ne : Int} {c e : Int → Int → Int} {f : Int → Int}
set_option maxRecDepth 100000 in
theorem ev_c_after {x all : Int} (ha : 0 ≤ all ∧ all < 512) (hx : 0 ≤ x ∧ x < ne) (hO : PO np trap nv nc ne c e) (hP : PC w np trap nv nc ne c e f) (hs : w 40 0 all = SO c nc all) : mm_Ev K_X3_after (0, 0) [.inr (some (39, 0)), .inl x, .inl all] (PH r y) w (mm_pe (some (.inl (ga_ c e x all))) (PH r y) w) := by
  refine ev_intro ok_X3_after mo_X3_after (Nat.le_of_ble_eq_true rfl) (fun hrg has => ?_)
  obtain ⟨-, -, -, hm⟩ := hP
  have hE := hO.2.2.2.2.2.2 x hx.1 hx.2
  have hne := hO.2.2.2.2.1
  have hnc := hO.2.2.2.1
  have hnv := hO.2.2.1
  have m2 := hm x 2 hx.1 hx.2 (by decide) (by decide)
  have m3 := hm x 3 hx.1 hx.2 (by decide) (by decide)
  have m4 := hm x 4 hx.1 hx.2 (by decide) (by decide)
  have m5 := hm x 5 hx.1 hx.2 (by decide) (by decide)
  have m6 := hm x 6 hx.1 hx.2 (by decide) (by decide)
  have hgx : gx_ e x all = if e x 4 = 0 then all else if 0 ≤ nw_ e x all ∧ nw_ e x all ≤ 7 then all + (nw_ e x all - vl all (e x 5)) * p8 (e x 5) else -1 := rfl
  have hgo : go_ c e x all = if e x 2 ≠ 9 ∧ soB c (e x 2) all ≠ decide (e x 3 = 1) then -1 else gx_ e x all := rfl
  have hnw : nw_ e x all = if e x 4 = 1 then e x 6 else if e x 4 = 2 then vl all (e x 5) + e x 6 else if e x 4 = 3 then vl all (e x 5) - e x 6 else if e x 4 = 4 then vl all (e x 6) else vl all (e x 5) + vl all (e x 6) := rfl
  obtain ⟨-, -, h2, h3, h4, h5, h6, h7, h8⟩ := hE
  have hga : ga_ c e x all = if go_ c e x all < 0 then -2 else go_ c e x all := rfl
  generalize ga_ c e x all = A at hga
  generalize go_ c e x all = B at hga hgo
  generalize gx_ e x all = C at hgo hgx
  generalize nw_ e x all = D at hgx hnw
  have hS : ¬ e x 2 = 9 → mm_and (mm_shr (w 40 0 all) (e x 2)) 1 = ib (soB c (e x 2) all = true) := fun q => by
    rw [hs, hb_eq (by have := SO_in c all hnc.2; omega) (by omega), SO_hb hnc.2 (by omega)]
  generalize soB c (e x 2) all = S at hgo hS
  have J145 : B = C → ¬ e x 4 = 0 → -9 ≤ D ∧ D ≤ 16 → mm_Wk K_X3_after (0, 0) 145 [some (.inr (some (39, 0))), some (.inl x), some (.inl all), some (.inr (some (38, x))), some (.inl (vl all (e x 5))), some (.inl (e x 6)), some (.inl D)] [] (PH r y) w (mm_pe (some (.inl A)) (PH r y) w) := fun q1 q2 q3 => by
    have hv := h5 q2
    have v5 := vl_in all (e x 5)
    rw [if_neg q2] at hgx
    have J157 : ¬ (0 ≤ D ∧ D ≤ 7) → mm_Wk K_X3_after (0, 0) 157 [some (.inr (some (39, 0))), some (.inl x), some (.inl all), some (.inr (some (38, x))), some (.inl (vl all (e x 5))), some (.inl (e x 6)), some (.inl D)] [] (PH r y) w (mm_pe (some (.inl A)) (PH r y) w) := fun z => by
      rw [if_neg z] at hgx
      rw [if_pos (by omega)] at hga
      rw [hga]
      refine k_gp rfl rfl trivial ?_
      exact k_ret rfl trivial ⟨rfl, rfl, rfl⟩
    refine k_gp rfl rfl trivial ?_
    refine k_br rfl (fun z => J157 (by omega)) (fun z => ?_)
    refine k_gp rfl rfl trivial ?_
    refine k_br rfl (fun z2 => ?_) (fun z2 => J157 (by omega))
    have hz : 0 ≤ D ∧ D ≤ 7 := by omega
    have hp := (vl_put ha (v := e x 5) (by omega) hz).1
    rw [if_pos hz] at hgx
    rw [← hgx] at hp
    rw [if_neg (by omega)] at hga
    have hsh := shl_p8 (d := D - vl all (e x 5)) (v := e x 5) (by omega) (by omega)
    rw [← hsh] at hgx
    refine k_gp rfl rfl (by simp only [true_and, mm_fits, m5]; omega) ?_
    rw [m5, ← hgx, ← q1, ← hga]
    exact k_ret rfl trivial ⟨rfl, rfl, rfl⟩
  have J39 : B = C → ∀ l4 l5 l6, mm_Wk K_X3_after (0, 0) 39 [some (.inr (some (39, 0))), some (.inl x), some (.inl all), some (.inr (some (38, x))), l4, l5, l6] [] (PH r y) w (mm_pe (some (.inl A)) (PH r y) w) := fun q1 l4 l5 l6 => by
    refine k_gp rfl rfl (by simp only [true_and, mm_fits]; omega) ?_
    rw [m4]
    refine k_br rfl (fun z => ?_) (fun z => ?_)
    · have hv := h5 z
      have J := J145 q1 z
      clear J145 hgx hga hgo hS
      have v5 := vl_in all (e x 5)
      have v6 := vl_in all (e x 6)
      refine k_gp rfl rfl (by simp only [true_and, mm_fits]; omega) ?_
      rw [m5]
      refine k_callp rfl (ev_c_valueOf (by omega) (by omega)) rfl rfl rfl (by decide) ?_
      refine k_gp rfl rfl (by simp only [true_and, mm_fits]; omega) ?_
      rw [m6, m4]
      refine k_ts rfl rfl ⟨fun g => ?_, fun g => ?_, fun g => ?_, fun g => ?_, trivial⟩ (fun g => ?_)
      · rw [if_pos (by omega)] at hnw
        refine k_gp rfl rfl trivial ?_
        rw [hnw] at J
        exact J (by omega)
      · rw [if_neg (by omega), if_pos (by omega)] at hnw
        refine k_gp rfl rfl (by simp only [true_and, mm_fits]; omega) ?_
        rw [hnw] at J
        exact J (by omega)
      · rw [if_neg (by omega), if_neg (by omega), if_pos (by omega)] at hnw
        refine k_gp rfl rfl (by simp only [true_and, mm_fits]; omega) ?_
        rw [hnw] at J
        exact J (by omega)
      · rw [if_neg (by omega), if_neg (by omega), if_neg (by omega), if_pos (by omega)] at hnw
        refine k_gp rfl rfl trivial ?_
        refine k_callp rfl (ev_c_valueOf (by omega) (by omega)) rfl rfl rfl (by decide) ?_
        refine k_gp rfl rfl trivial ?_
        rw [hnw] at J
        exact J (by omega)
      · rw [if_neg (by omega), if_neg (by omega), if_neg (by omega), if_neg (by omega)] at hnw
        refine k_gp rfl rfl trivial ?_
        refine k_callp rfl (ev_c_valueOf (by omega) (by omega)) rfl rfl rfl (by decide) ?_
        refine k_gp rfl rfl (by simp only [true_and, mm_fits]; omega) ?_
        rw [hnw] at J
        exact J (by omega)
    · have z : e x 4 = 0 := Classical.byContradiction z
      rw [if_pos z] at hgx
      rw [if_neg (by omega)] at hga
      refine k_gp rfl rfl trivial ?_
      rw [← hgx, ← q1, ← hga]
      exact k_ret rfl trivial ⟨rfl, rfl, rfl⟩
  refine k_gp rfl rfl (by simp only [true_and, mm_fits]; omega) ?_
  rw [m2]
  refine k_br rfl (fun q => ?_) (fun q => ?_)
  · rw [if_neg (fun z => z.1 q)] at hgo
    exact J39 hgo _ _ _
  · have hS := hS q
    refine k_gp rfl rfl (by simp only [true_and, mm_fits]; omega) ?_
    rw [m2, m3, hS]
    refine k_br rfl (fun z => ?_) (fun z => ?_)
    · rw [if_neg] at hgo
      · exact J39 hgo _ _ _
      · intro q2
        refine q2.2 ?_
        cases S with
        | true => exact (decide_eq_true (show e x 3 = 1 from z.symm)).symm
        | false => exact (decide_eq_false (fun q3 => by rw [q3] at z; cases z)).symm
    · rw [if_pos] at hgo
      · rw [if_pos (by omega)] at hga
        rw [hga]
        refine k_gp rfl rfl trivial ?_
        exact k_ret rfl trivial ⟨rfl, rfl, rfl⟩
      · refine ⟨q, fun q2 => z ?_⟩
        by_cases q3 : e x 3 = 1
        · rw [ib_t (show S = true by rw [q2]; exact decide_eq_true q3), q3]
        · rw [ib_f (show ¬ S = true by rw [q2]; exact fun z => q3 (of_decide_eq_true z))]; omega
theorem ev_c_areFirst {all : Int} (ha : 0 ≤ all ∧ all < 512) (hO : PO np trap nv nc ne c e) (hP : PC w np trap nv nc ne c e f) : mm_Ev K_X3_areFirst (0, 0) [.inr (some (39, 0)), .inl all] (PH r y) w (mm_pe (some (.inl (ib (((List.range nv.toNat).all (fun v : Nat => fvB f all v)) = true)))) (PH r y) w) := by
  refine ev_intro ok_X3_areFirst mo_X3_areFirst (Nat.le_of_ble_eq_true rfl) (fun hrg has => ?_)
  obtain ⟨⟨p0, p1, p2, p3, p4⟩, hf, -, -⟩ := hP
  have hnv := hO.2.2.1
  refine k_gp rfl rfl trivial ?_
  refine mm_loop (σ := Unit) nv (fun v _ => (0 ≤ v ∧ v ≤ nv) ∧ (List.range v.toNat).all (fun v : Nat => fvB f all v) = true) (fun v _ => ∀ l3, mm_Wk K_X3_areFirst (0, 0) 2 [some (.inr (some (39, 0))), some (.inl all), some (.inl v), l3] [] (PH r y) w (mm_pe (some (.inl (ib (((List.range nv.toNat).all (fun v : Nat => fvB f all v)) = true)))) (PH r y) w)) ?_ ?_ 0 () ⟨by omega, rfl⟩ _
  · rintro v - h1 ⟨h2, h3⟩ ih l3
    obtain ⟨f1, f2⟩ := hf v h2.1 h1
    have hno : ¬ fvB f all v = true → (List.range nv.toNat).all (fun v : Nat => fvB f all v) = false := fun q => by
      rw [Bool.eq_false_iff]
      intro z
      rw [List.all_eq_true] at z
      have := z v.toNat (List.mem_range.mpr (by omega))
      rw [show ((v.toNat : Nat) : Int) = v by omega] at this
      exact q this
    have J45 : ∀ l3, ¬ fvB f all v = true → mm_Wk K_X3_areFirst (0, 0) 45 [some (.inr (some (39, 0))), some (.inl all), some (.inl v), l3] [] (PH r y) w (mm_pe (some (.inl (ib (((List.range nv.toNat).all (fun v : Nat => fvB f all v)) = true)))) (PH r y) w) := fun l3 q => by
      rw [hno q]
      refine k_gp rfl rfl trivial ?_
      exact k_ret rfl (by decide) ⟨rfl, rfl, rfl⟩
    refine k_gp rfl rfl trivial ?_
    rw [p2]
    refine k_brf rfl (by omega) ?_
    refine k_gp rfl rfl trivial ?_
    refine k_callp rfl (ev_c_valueOf (by omega) (by omega)) rfl rfl rfl (by decide) ?_
    refine k_gp rfl rfl (by simp only [true_and, mm_fits]; omega) ?_
    rw [f1]
    refine k_br rfl (fun q => ?_) (fun q => ?_)
    · exact J45 _ (fun z => by have := of_decide_eq_true z; omega)
    · refine k_gp rfl rfl (by simp only [true_and, mm_fits]; omega) ?_
      rw [f2]
      refine k_br rfl (fun q2 => ?_) (fun q2 => ?_)
      · refine k_gp rfl rfl (by simp only [true_and, mm_fits]; omega) ?_
        refine ih () ⟨by omega, ?_⟩ _
        rw [show (v + 1).toNat = v.toNat + 1 by omega, List.range_succ, List.all_append, h3]
        show (true && (fvB f all ((v.toNat : Nat) : Int) && true)) = true
        rw [show ((v.toNat : Nat) : Int) = v by omega, show fvB f all v = true from decide_eq_true ⟨by omega, by omega⟩]
        rfl
      · exact J45 _ (fun z => by have := of_decide_eq_true z; omega)
  · rintro v - h1 ⟨h2, h3⟩ l3
    have : v = nv := by omega
    subst this
    rw [h3]
    refine k_gp rfl rfl trivial ?_
    rw [p2]
    refine k_brt rfl (by omega) ?_
    refine k_gp rfl rfl trivial ?_
    exact k_ret rfl (by decide) ⟨rfl, rfl, rfl⟩
end MC
end
