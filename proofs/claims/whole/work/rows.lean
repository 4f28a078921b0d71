section
-- ===== PART A: goes FIRST, ahead of the names: the tables' words, and 'selects' of the private methods out of them =====
/-- a private method of a class that the tables say can be made, by its rows of tables_1 -/
def lw_okq (q : MethodName × Nat) : Prop := (q.1.cls ≠ "java/lang/invoke/MethodHandle" ∧ q.1.cls ≠ "java/lang/invoke/VarHandle") ∧ Cond.instantiable q.1.cls q.2 ∈ tables_1 ∧ Cond.privateMethod q.1 ∈ tables_1 ∧ Cond.instanceMethod q.1 ∈ tables_1
theorem lw_p0 : lw_okq (⟨"CubeChecker", "takeText", "()Z"⟩, 9) := ⟨⟨by decide +kernel, by decide +kernel⟩, List.mem_of_getElem? (i := 21) (by decide +kernel), List.mem_of_getElem? (i := 219) (by decide +kernel), List.mem_of_getElem? (i := 220) (by decide +kernel)⟩
theorem lw_p1 : lw_okq (⟨"CubeChecker$Text", "takeFigures", "(II)Z"⟩, 4) := ⟨⟨by decide +kernel, by decide +kernel⟩, List.mem_of_getElem? (i := 29) (by decide +kernel), List.mem_of_getElem? (i := 234) (by decide +kernel), List.mem_of_getElem? (i := 235) (by decide +kernel)⟩
theorem lw_p2 : lw_okq (⟨"CubeChecker$Text", "tell", "(C)Z"⟩, 4) := ⟨⟨by decide +kernel, by decide +kernel⟩, List.mem_of_getElem? (i := 29) (by decide +kernel), List.mem_of_getElem? (i := 238) (by decide +kernel), List.mem_of_getElem? (i := 239) (by decide +kernel)⟩
theorem lw_p3 : lw_okq (⟨"CubeChecker$Text", "tellPlaces", "()Z"⟩, 4) := ⟨⟨by decide +kernel, by decide +kernel⟩, List.mem_of_getElem? (i := 29) (by decide +kernel), List.mem_of_getElem? (i := 242) (by decide +kernel), List.mem_of_getElem? (i := 243) (by decide +kernel)⟩
theorem lw_p4 : lw_okq (⟨"CubeChecker$Text", "tellVariable", "()Z"⟩, 4) := ⟨⟨by decide +kernel, by decide +kernel⟩, List.mem_of_getElem? (i := 29) (by decide +kernel), List.mem_of_getElem? (i := 246) (by decide +kernel), List.mem_of_getElem? (i := 247) (by decide +kernel)⟩
theorem lw_p5 : lw_okq (⟨"CubeChecker$Text", "tellComparison", "()Z"⟩, 4) := ⟨⟨by decide +kernel, by decide +kernel⟩, List.mem_of_getElem? (i := 29) (by decide +kernel), List.mem_of_getElem? (i := 250) (by decide +kernel), List.mem_of_getElem? (i := 251) (by decide +kernel)⟩
theorem lw_p6 : lw_okq (⟨"CubeChecker$Text", "isVariable", "(I)Z"⟩, 4) := ⟨⟨by decide +kernel, by decide +kernel⟩, List.mem_of_getElem? (i := 29) (by decide +kernel), List.mem_of_getElem? (i := 254) (by decide +kernel), List.mem_of_getElem? (i := 255) (by decide +kernel)⟩
theorem lw_p7 : lw_okq (⟨"CubeChecker$Text", "tellEdge", "()Z"⟩, 4) := ⟨⟨by decide +kernel, by decide +kernel⟩, List.mem_of_getElem? (i := 29) (by decide +kernel), List.mem_of_getElem? (i := 261) (by decide +kernel), List.mem_of_getElem? (i := 262) (by decide +kernel)⟩
theorem lw_p8 : lw_okq (⟨"CubeChecker$Text", "edgeJoinsAndAsksWell", "()Z"⟩, 4) := ⟨⟨by decide +kernel, by decide +kernel⟩, List.mem_of_getElem? (i := 29) (by decide +kernel), List.mem_of_getElem? (i := 265) (by decide +kernel), List.mem_of_getElem? (i := 266) (by decide +kernel)⟩
theorem lw_p9 : lw_okq (⟨"CubeChecker$Text", "edgeDoesWell", "()Z"⟩, 4) := ⟨⟨by decide +kernel, by decide +kernel⟩, List.mem_of_getElem? (i := 29) (by decide +kernel), List.mem_of_getElem? (i := 269) (by decide +kernel), List.mem_of_getElem? (i := 270) (by decide +kernel)⟩
theorem lw_p10 : lw_okq (⟨"CubeChecker$Meaning", "findSos", "(I)I"⟩, 6) := ⟨⟨by decide +kernel, by decide +kernel⟩, List.mem_of_getElem? (i := 121) (by decide +kernel), List.mem_of_getElem? (i := 290) (by decide +kernel), List.mem_of_getElem? (i := 291) (by decide +kernel)⟩
theorem lw_p11 : lw_okq (⟨"CubeChecker$Meaning", "areFirst", "(I)Z"⟩, 6) := ⟨⟨by decide +kernel, by decide +kernel⟩, List.mem_of_getElem? (i := 121) (by decide +kernel), List.mem_of_getElem? (i := 300) (by decide +kernel), List.mem_of_getElem? (i := 301) (by decide +kernel)⟩
theorem lw_p12 : lw_okq (⟨"CubeChecker$Leaps", "orderValues", "()V"⟩, 9) := ⟨⟨by decide +kernel, by decide +kernel⟩, List.mem_of_getElem? (i := 322) (by decide +kernel), List.mem_of_getElem? (i := 320) (by decide +kernel), List.mem_of_getElem? (i := 321) (by decide +kernel)⟩
theorem lw_p13 : lw_okq (⟨"CubeChecker", "forgetSearches", "()V"⟩, 9) := ⟨⟨by decide +kernel, by decide +kernel⟩, List.mem_of_getElem? (i := 21) (by decide +kernel), List.mem_of_getElem? (i := 351) (by decide +kernel), List.mem_of_getElem? (i := 352) (by decide +kernel)⟩
theorem lw_p14 : lw_okq (⟨"CubeChecker", "isEdge", "(I)Z"⟩, 9) := ⟨⟨by decide +kernel, by decide +kernel⟩, List.mem_of_getElem? (i := 21) (by decide +kernel), List.mem_of_getElem? (i := 412) (by decide +kernel), List.mem_of_getElem? (i := 413) (by decide +kernel)⟩
theorem lw_p15 : lw_okq (⟨"CubeChecker", "isComparison", "(I)Z"⟩, 9) := ⟨⟨by decide +kernel, by decide +kernel⟩, List.mem_of_getElem? (i := 21) (by decide +kernel), List.mem_of_getElem? (i := 436) (by decide +kernel), List.mem_of_getElem? (i := 437) (by decide +kernel)⟩
def lw_privs_1 : List (MethodName × Nat) := [(⟨"CubeChecker", "takeText", "()Z"⟩, 9), (⟨"CubeChecker$Text", "takeFigures", "(II)Z"⟩, 4), (⟨"CubeChecker$Text", "tell", "(C)Z"⟩, 4), (⟨"CubeChecker$Text", "tellPlaces", "()Z"⟩, 4), (⟨"CubeChecker$Text", "tellVariable", "()Z"⟩, 4), (⟨"CubeChecker$Text", "tellComparison", "()Z"⟩, 4), (⟨"CubeChecker$Text", "isVariable", "(I)Z"⟩, 4), (⟨"CubeChecker$Text", "tellEdge", "()Z"⟩, 4), (⟨"CubeChecker$Text", "edgeJoinsAndAsksWell", "()Z"⟩, 4), (⟨"CubeChecker$Text", "edgeDoesWell", "()Z"⟩, 4), (⟨"CubeChecker$Meaning", "findSos", "(I)I"⟩, 6), (⟨"CubeChecker$Meaning", "areFirst", "(I)Z"⟩, 6), (⟨"CubeChecker$Leaps", "orderValues", "()V"⟩, 9), (⟨"CubeChecker", "forgetSearches", "()V"⟩, 9), (⟨"CubeChecker", "isEdge", "(I)Z"⟩, 9), (⟨"CubeChecker", "isComparison", "(I)Z"⟩, 9)]
theorem lw_r1 : ∀ q ∈ lw_privs_1, lw_okq q := List.forall_mem_cons.mpr ⟨lw_p0, List.forall_mem_cons.mpr ⟨lw_p1, List.forall_mem_cons.mpr ⟨lw_p2, List.forall_mem_cons.mpr ⟨lw_p3, List.forall_mem_cons.mpr ⟨lw_p4, List.forall_mem_cons.mpr ⟨lw_p5, List.forall_mem_cons.mpr ⟨lw_p6, List.forall_mem_cons.mpr ⟨lw_p7, List.forall_mem_cons.mpr ⟨lw_p8, List.forall_mem_cons.mpr ⟨lw_p9, List.forall_mem_cons.mpr ⟨lw_p10, List.forall_mem_cons.mpr ⟨lw_p11, List.forall_mem_cons.mpr ⟨lw_p12, List.forall_mem_cons.mpr ⟨lw_p13, List.forall_mem_cons.mpr ⟨lw_p14, List.forall_mem_cons.mpr ⟨lw_p15, fun _ h => absurd h List.not_mem_nil⟩⟩⟩⟩⟩⟩⟩⟩⟩⟩⟩⟩⟩⟩⟩⟩
theorem lw_p16 : lw_okq (⟨"CubeChecker", "isPlace", "(I)Z"⟩, 9) := ⟨⟨by decide +kernel, by decide +kernel⟩, List.mem_of_getElem? (i := 21) (by decide +kernel), List.mem_of_getElem? (i := 463) (by decide +kernel), List.mem_of_getElem? (i := 464) (by decide +kernel)⟩
theorem lw_p17 : lw_okq (⟨"CubeChecker", "newestReal", "()LCubeChecker$RealSearch;"⟩, 9) := ⟨⟨by decide +kernel, by decide +kernel⟩, List.mem_of_getElem? (i := 21) (by decide +kernel), List.mem_of_getElem? (i := 467) (by decide +kernel), List.mem_of_getElem? (i := 468) (by decide +kernel)⟩
theorem lw_p18 : lw_okq (⟨"CubeChecker$RealSearch", "empty", "()V"⟩, 10) := ⟨⟨by decide +kernel, by decide +kernel⟩, List.mem_of_getElem? (i := 471) (by decide +kernel), List.mem_of_getElem? (i := 525) (by decide +kernel), List.mem_of_getElem? (i := 526) (by decide +kernel)⟩
theorem lw_p19 : lw_okq (⟨"CubeChecker$RealSearch", "add", "(IIII)V"⟩, 10) := ⟨⟨by decide +kernel, by decide +kernel⟩, List.mem_of_getElem? (i := 471) (by decide +kernel), List.mem_of_getElem? (i := 532) (by decide +kernel), List.mem_of_getElem? (i := 533) (by decide +kernel)⟩
theorem lw_p20 : lw_okq (⟨"CubeChecker$RealSearch", "endOfGroup", "(I)I"⟩, 10) := ⟨⟨by decide +kernel, by decide +kernel⟩, List.mem_of_getElem? (i := 471) (by decide +kernel), List.mem_of_getElem? (i := 538) (by decide +kernel), List.mem_of_getElem? (i := 539) (by decide +kernel)⟩
theorem lw_p21 : lw_okq (⟨"CubeChecker$RealSearch", "goOn", "(III)V"⟩, 10) := ⟨⟨by decide +kernel, by decide +kernel⟩, List.mem_of_getElem? (i := 471) (by decide +kernel), List.mem_of_getElem? (i := 542) (by decide +kernel), List.mem_of_getElem? (i := 543) (by decide +kernel)⟩
theorem lw_p22 : lw_okq (⟨"CubeChecker$RealSearch", "goBy", "(IIII)V"⟩, 10) := ⟨⟨by decide +kernel, by decide +kernel⟩, List.mem_of_getElem? (i := 471) (by decide +kernel), List.mem_of_getElem? (i := 546) (by decide +kernel), List.mem_of_getElem? (i := 547) (by decide +kernel)⟩
theorem lw_p23 : lw_okq (⟨"CubeChecker", "newestMay", "()LCubeChecker$MaySearch;"⟩, 9) := ⟨⟨by decide +kernel, by decide +kernel⟩, List.mem_of_getElem? (i := 21) (by decide +kernel), List.mem_of_getElem? (i := 592) (by decide +kernel), List.mem_of_getElem? (i := 593) (by decide +kernel)⟩
theorem lw_p24 : lw_okq (⟨"CubeChecker$Leaps", "find", "(I)V"⟩, 9) := ⟨⟨by decide +kernel, by decide +kernel⟩, List.mem_of_getElem? (i := 322) (by decide +kernel), List.mem_of_getElem? (i := 727) (by decide +kernel), List.mem_of_getElem? (i := 728) (by decide +kernel)⟩
theorem lw_p25 : lw_okq (⟨"CubeChecker$MaySearch", "addAll", "(II)V"⟩, 11) := ⟨⟨by decide +kernel, by decide +kernel⟩, List.mem_of_getElem? (i := 677) (by decide +kernel), List.mem_of_getElem? (i := 741) (by decide +kernel), List.mem_of_getElem? (i := 742) (by decide +kernel)⟩
theorem lw_p26 : lw_okq (⟨"CubeChecker$MaySearch", "add", "(III)V"⟩, 11) := ⟨⟨by decide +kernel, by decide +kernel⟩, List.mem_of_getElem? (i := 677) (by decide +kernel), List.mem_of_getElem? (i := 748) (by decide +kernel), List.mem_of_getElem? (i := 749) (by decide +kernel)⟩
theorem lw_p27 : lw_okq (⟨"CubeChecker$MaySearch", "goOn", "(I)V"⟩, 11) := ⟨⟨by decide +kernel, by decide +kernel⟩, List.mem_of_getElem? (i := 677) (by decide +kernel), List.mem_of_getElem? (i := 752) (by decide +kernel), List.mem_of_getElem? (i := 753) (by decide +kernel)⟩
theorem lw_p28 : lw_okq (⟨"CubeChecker$MaySearch", "tracePath", "()V"⟩, 11) := ⟨⟨by decide +kernel, by decide +kernel⟩, List.mem_of_getElem? (i := 677) (by decide +kernel), List.mem_of_getElem? (i := 760) (by decide +kernel), List.mem_of_getElem? (i := 761) (by decide +kernel)⟩
theorem lw_p29 : lw_okq (⟨"CubeChecker$Way", "listFirstValues", "([I)I"⟩, 12) := ⟨⟨by decide +kernel, by decide +kernel⟩, List.mem_of_getElem? (i := 632) (by decide +kernel), List.mem_of_getElem? (i := 812) (by decide +kernel), List.mem_of_getElem? (i := 813) (by decide +kernel)⟩
theorem lw_p30 : lw_okq (⟨"CubeChecker$Way", "listAfter", "(I[II[I)I"⟩, 12) := ⟨⟨by decide +kernel, by decide +kernel⟩, List.mem_of_getElem? (i := 632) (by decide +kernel), List.mem_of_getElem? (i := 822) (by decide +kernel), List.mem_of_getElem? (i := 823) (by decide +kernel)⟩
theorem lw_p31 : lw_okq (⟨"CubeChecker$Way", "isEndedBy", "(II)Z"⟩, 12) := ⟨⟨by decide +kernel, by decide +kernel⟩, List.mem_of_getElem? (i := 632) (by decide +kernel), List.mem_of_getElem? (i := 854) (by decide +kernel), List.mem_of_getElem? (i := 855) (by decide +kernel)⟩
def lw_privs_2 : List (MethodName × Nat) := [(⟨"CubeChecker", "isPlace", "(I)Z"⟩, 9), (⟨"CubeChecker", "newestReal", "()LCubeChecker$RealSearch;"⟩, 9), (⟨"CubeChecker$RealSearch", "empty", "()V"⟩, 10), (⟨"CubeChecker$RealSearch", "add", "(IIII)V"⟩, 10), (⟨"CubeChecker$RealSearch", "endOfGroup", "(I)I"⟩, 10), (⟨"CubeChecker$RealSearch", "goOn", "(III)V"⟩, 10), (⟨"CubeChecker$RealSearch", "goBy", "(IIII)V"⟩, 10), (⟨"CubeChecker", "newestMay", "()LCubeChecker$MaySearch;"⟩, 9), (⟨"CubeChecker$Leaps", "find", "(I)V"⟩, 9), (⟨"CubeChecker$MaySearch", "addAll", "(II)V"⟩, 11), (⟨"CubeChecker$MaySearch", "add", "(III)V"⟩, 11), (⟨"CubeChecker$MaySearch", "goOn", "(I)V"⟩, 11), (⟨"CubeChecker$MaySearch", "tracePath", "()V"⟩, 11), (⟨"CubeChecker$Way", "listFirstValues", "([I)I"⟩, 12), (⟨"CubeChecker$Way", "listAfter", "(I[II[I)I"⟩, 12), (⟨"CubeChecker$Way", "isEndedBy", "(II)Z"⟩, 12)]
theorem lw_r2 : ∀ q ∈ lw_privs_2, lw_okq q := List.forall_mem_cons.mpr ⟨lw_p16, List.forall_mem_cons.mpr ⟨lw_p17, List.forall_mem_cons.mpr ⟨lw_p18, List.forall_mem_cons.mpr ⟨lw_p19, List.forall_mem_cons.mpr ⟨lw_p20, List.forall_mem_cons.mpr ⟨lw_p21, List.forall_mem_cons.mpr ⟨lw_p22, List.forall_mem_cons.mpr ⟨lw_p23, List.forall_mem_cons.mpr ⟨lw_p24, List.forall_mem_cons.mpr ⟨lw_p25, List.forall_mem_cons.mpr ⟨lw_p26, List.forall_mem_cons.mpr ⟨lw_p27, List.forall_mem_cons.mpr ⟨lw_p28, List.forall_mem_cons.mpr ⟨lw_p29, List.forall_mem_cons.mpr ⟨lw_p30, List.forall_mem_cons.mpr ⟨lw_p31, fun _ h => absurd h List.not_mem_nil⟩⟩⟩⟩⟩⟩⟩⟩⟩⟩⟩⟩⟩⟩⟩⟩
theorem lw_p32 : lw_okq (⟨"CubeChecker", "lookOnPath", "(LCubeChecker$MaySearch;I)V"⟩, 9) := ⟨⟨by decide +kernel, by decide +kernel⟩, List.mem_of_getElem? (i := 21) (by decide +kernel), List.mem_of_getElem? (i := 860) (by decide +kernel), List.mem_of_getElem? (i := 861) (by decide +kernel)⟩
theorem lw_p33 : lw_okq (⟨"CubeChecker", "lookedAtInAll", "()I"⟩, 9) := ⟨⟨by decide +kernel, by decide +kernel⟩, List.mem_of_getElem? (i := 21) (by decide +kernel), List.mem_of_getElem? (i := 889) (by decide +kernel), List.mem_of_getElem? (i := 890) (by decide +kernel)⟩
theorem lw_p34 : lw_okq (⟨"CubeCheckerModel", "compares", "(IIII)V"⟩, 34) := ⟨⟨by decide +kernel, by decide +kernel⟩, List.mem_of_getElem? (i := 897) (by decide +kernel), List.mem_of_getElem? (i := 903) (by decide +kernel), List.mem_of_getElem? (i := 904) (by decide +kernel)⟩
theorem lw_p35 : lw_okq (⟨"CubeCheckerModel", "joins", "(IIIII)V"⟩, 34) := ⟨⟨by decide +kernel, by decide +kernel⟩, List.mem_of_getElem? (i := 897) (by decide +kernel), List.mem_of_getElem? (i := 907) (by decide +kernel), List.mem_of_getElem? (i := 908) (by decide +kernel)⟩
theorem lw_p36 : lw_okq (⟨"CubeCheckerModel", "acts", "(IIII)V"⟩, 34) := ⟨⟨by decide +kernel, by decide +kernel⟩, List.mem_of_getElem? (i := 897) (by decide +kernel), List.mem_of_getElem? (i := 911) (by decide +kernel), List.mem_of_getElem? (i := 912) (by decide +kernel)⟩
theorem lw_p37 : lw_okq (⟨"CubeCheckerModel", "begins", "()V"⟩, 34) := ⟨⟨by decide +kernel, by decide +kernel⟩, List.mem_of_getElem? (i := 897) (by decide +kernel), List.mem_of_getElem? (i := 915) (by decide +kernel), List.mem_of_getElem? (i := 916) (by decide +kernel)⟩
theorem lw_p38 : lw_okq (⟨"CubeCheckerModel", "reads", "()I"⟩, 34) := ⟨⟨by decide +kernel, by decide +kernel⟩, List.mem_of_getElem? (i := 897) (by decide +kernel), List.mem_of_getElem? (i := 1035) (by decide +kernel), List.mem_of_getElem? (i := 1036) (by decide +kernel)⟩
theorem lw_p39 : lw_okq (⟨"CubeCheckerModel", "readsItem", "(II)Z"⟩, 34) := ⟨⟨by decide +kernel, by decide +kernel⟩, List.mem_of_getElem? (i := 897) (by decide +kernel), List.mem_of_getElem? (i := 1042) (by decide +kernel), List.mem_of_getElem? (i := 1043) (by decide +kernel)⟩
theorem lw_p40 : lw_okq (⟨"CubeCheckerModel", "figure", "(I)I"⟩, 34) := ⟨⟨by decide +kernel, by decide +kernel⟩, List.mem_of_getElem? (i := 897) (by decide +kernel), List.mem_of_getElem? (i := 1046) (by decide +kernel), List.mem_of_getElem? (i := 1047) (by decide +kernel)⟩
theorem lw_p41 : lw_okq (⟨"CubeCheckerModel", "readsPlaces", "(I)Z"⟩, 34) := ⟨⟨by decide +kernel, by decide +kernel⟩, List.mem_of_getElem? (i := 897) (by decide +kernel), List.mem_of_getElem? (i := 1053) (by decide +kernel), List.mem_of_getElem? (i := 1054) (by decide +kernel)⟩
theorem lw_p42 : lw_okq (⟨"CubeCheckerModel", "readsVariable", "(I)Z"⟩, 34) := ⟨⟨by decide +kernel, by decide +kernel⟩, List.mem_of_getElem? (i := 897) (by decide +kernel), List.mem_of_getElem? (i := 1057) (by decide +kernel), List.mem_of_getElem? (i := 1058) (by decide +kernel)⟩
theorem lw_p43 : lw_okq (⟨"CubeCheckerModel", "readsComparison", "(I)Z"⟩, 34) := ⟨⟨by decide +kernel, by decide +kernel⟩, List.mem_of_getElem? (i := 897) (by decide +kernel), List.mem_of_getElem? (i := 1061) (by decide +kernel), List.mem_of_getElem? (i := 1062) (by decide +kernel)⟩
theorem lw_p44 : lw_okq (⟨"CubeCheckerModel", "readsEdge", "(I)Z"⟩, 34) := ⟨⟨by decide +kernel, by decide +kernel⟩, List.mem_of_getElem? (i := 897) (by decide +kernel), List.mem_of_getElem? (i := 1065) (by decide +kernel), List.mem_of_getElem? (i := 1066) (by decide +kernel)⟩
theorem lw_p45 : lw_okq (⟨"CubeCheckerModel", "isEdge", "(I)Z"⟩, 34) := ⟨⟨by decide +kernel, by decide +kernel⟩, List.mem_of_getElem? (i := 897) (by decide +kernel), List.mem_of_getElem? (i := 1077) (by decide +kernel), List.mem_of_getElem? (i := 1078) (by decide +kernel)⟩
theorem lw_p46 : lw_okq (⟨"CubeCheckerModel", "isComparison", "(I)Z"⟩, 34) := ⟨⟨by decide +kernel, by decide +kernel⟩, List.mem_of_getElem? (i := 897) (by decide +kernel), List.mem_of_getElem? (i := 1085) (by decide +kernel), List.mem_of_getElem? (i := 1086) (by decide +kernel)⟩
theorem lw_p47 : lw_okq (⟨"CubeCheckerModel", "isSo", "(II)Z"⟩, 34) := ⟨⟨by decide +kernel, by decide +kernel⟩, List.mem_of_getElem? (i := 897) (by decide +kernel), List.mem_of_getElem? (i := 1092) (by decide +kernel), List.mem_of_getElem? (i := 1093) (by decide +kernel)⟩
def lw_privs_3 : List (MethodName × Nat) := [(⟨"CubeChecker", "lookOnPath", "(LCubeChecker$MaySearch;I)V"⟩, 9), (⟨"CubeChecker", "lookedAtInAll", "()I"⟩, 9), (⟨"CubeCheckerModel", "compares", "(IIII)V"⟩, 34), (⟨"CubeCheckerModel", "joins", "(IIIII)V"⟩, 34), (⟨"CubeCheckerModel", "acts", "(IIII)V"⟩, 34), (⟨"CubeCheckerModel", "begins", "()V"⟩, 34), (⟨"CubeCheckerModel", "reads", "()I"⟩, 34), (⟨"CubeCheckerModel", "readsItem", "(II)Z"⟩, 34), (⟨"CubeCheckerModel", "figure", "(I)I"⟩, 34), (⟨"CubeCheckerModel", "readsPlaces", "(I)Z"⟩, 34), (⟨"CubeCheckerModel", "readsVariable", "(I)Z"⟩, 34), (⟨"CubeCheckerModel", "readsComparison", "(I)Z"⟩, 34), (⟨"CubeCheckerModel", "readsEdge", "(I)Z"⟩, 34), (⟨"CubeCheckerModel", "isEdge", "(I)Z"⟩, 34), (⟨"CubeCheckerModel", "isComparison", "(I)Z"⟩, 34), (⟨"CubeCheckerModel", "isSo", "(II)Z"⟩, 34)]
theorem lw_r3 : ∀ q ∈ lw_privs_3, lw_okq q := List.forall_mem_cons.mpr ⟨lw_p32, List.forall_mem_cons.mpr ⟨lw_p33, List.forall_mem_cons.mpr ⟨lw_p34, List.forall_mem_cons.mpr ⟨lw_p35, List.forall_mem_cons.mpr ⟨lw_p36, List.forall_mem_cons.mpr ⟨lw_p37, List.forall_mem_cons.mpr ⟨lw_p38, List.forall_mem_cons.mpr ⟨lw_p39, List.forall_mem_cons.mpr ⟨lw_p40, List.forall_mem_cons.mpr ⟨lw_p41, List.forall_mem_cons.mpr ⟨lw_p42, List.forall_mem_cons.mpr ⟨lw_p43, List.forall_mem_cons.mpr ⟨lw_p44, List.forall_mem_cons.mpr ⟨lw_p45, List.forall_mem_cons.mpr ⟨lw_p46, List.forall_mem_cons.mpr ⟨lw_p47, fun _ h => absurd h List.not_mem_nil⟩⟩⟩⟩⟩⟩⟩⟩⟩⟩⟩⟩⟩⟩⟩⟩
theorem lw_p48 : lw_okq (⟨"CubeCheckerModel", "goes", "(II)I"⟩, 34) := ⟨⟨by decide +kernel, by decide +kernel⟩, List.mem_of_getElem? (i := 897) (by decide +kernel), List.mem_of_getElem? (i := 1103) (by decide +kernel), List.mem_of_getElem? (i := 1104) (by decide +kernel)⟩
theorem lw_p49 : lw_okq (⟨"CubeCheckerModel", "keeps", "()V"⟩, 34) := ⟨⟨by decide +kernel, by decide +kernel⟩, List.mem_of_getElem? (i := 897) (by decide +kernel), List.mem_of_getElem? (i := 1115) (by decide +kernel), List.mem_of_getElem? (i := 1116) (by decide +kernel)⟩
theorem lw_p50 : lw_okq (⟨"CubeCheckerModel", "isPlace", "(I)Z"⟩, 34) := ⟨⟨by decide +kernel, by decide +kernel⟩, List.mem_of_getElem? (i := 897) (by decide +kernel), List.mem_of_getElem? (i := 1123) (by decide +kernel), List.mem_of_getElem? (i := 1124) (by decide +kernel)⟩
theorem lw_p51 : lw_okq (⟨"CubeCheckerModel", "spreads", "()V"⟩, 34) := ⟨⟨by decide +kernel, by decide +kernel⟩, List.mem_of_getElem? (i := 897) (by decide +kernel), List.mem_of_getElem? (i := 1138) (by decide +kernel), List.mem_of_getElem? (i := 1139) (by decide +kernel)⟩
theorem lw_p52 : lw_okq (⟨"CubeCheckerModel", "isFirst", "(I)Z"⟩, 34) := ⟨⟨by decide +kernel, by decide +kernel⟩, List.mem_of_getElem? (i := 897) (by decide +kernel), List.mem_of_getElem? (i := 1142) (by decide +kernel), List.mem_of_getElem? (i := 1143) (by decide +kernel)⟩
theorem lw_p53 : lw_okq (⟨"CubeCheckerModel", "isThere", "(I)Z"⟩, 34) := ⟨⟨by decide +kernel, by decide +kernel⟩, List.mem_of_getElem? (i := 897) (by decide +kernel), List.mem_of_getElem? (i := 1146) (by decide +kernel), List.mem_of_getElem? (i := 1147) (by decide +kernel)⟩
theorem lw_p54 : lw_okq (⟨"CubeCheckerModel", "meets", "(II)V"⟩, 34) := ⟨⟨by decide +kernel, by decide +kernel⟩, List.mem_of_getElem? (i := 897) (by decide +kernel), List.mem_of_getElem? (i := 1150) (by decide +kernel), List.mem_of_getElem? (i := 1151) (by decide +kernel)⟩
theorem lw_p55 : lw_okq (⟨"CubeCheckerModel", "nearest", "(I)I"⟩, 34) := ⟨⟨by decide +kernel, by decide +kernel⟩, List.mem_of_getElem? (i := 897) (by decide +kernel), List.mem_of_getElem? (i := 1154) (by decide +kernel), List.mem_of_getElem? (i := 1155) (by decide +kernel)⟩
theorem lw_p56 : lw_okq (⟨"CubeCheckerModel", "prunes", "(I)V"⟩, 34) := ⟨⟨by decide +kernel, by decide +kernel⟩, List.mem_of_getElem? (i := 897) (by decide +kernel), List.mem_of_getElem? (i := 1162) (by decide +kernel), List.mem_of_getElem? (i := 1163) (by decide +kernel)⟩
theorem lw_p57 : lw_okq (⟨"CubeCheckerModel", "leads", "(II)Z"⟩, 34) := ⟨⟨by decide +kernel, by decide +kernel⟩, List.mem_of_getElem? (i := 897) (by decide +kernel), List.mem_of_getElem? (i := 1166) (by decide +kernel), List.mem_of_getElem? (i := 1167) (by decide +kernel)⟩
theorem lw_p58 : lw_okq (⟨"CubeCheckerModel", "becomes", "(II)V"⟩, 34) := ⟨⟨by decide +kernel, by decide +kernel⟩, List.mem_of_getElem? (i := 897) (by decide +kernel), List.mem_of_getElem? (i := 1174) (by decide +kernel), List.mem_of_getElem? (i := 1175) (by decide +kernel)⟩
theorem lw_p59 : lw_okq (⟨"CubeCheckerModel", "cube", "(III)I"⟩, 34) := ⟨⟨by decide +kernel, by decide +kernel⟩, List.mem_of_getElem? (i := 897) (by decide +kernel), List.mem_of_getElem? (i := 1178) (by decide +kernel), List.mem_of_getElem? (i := 1179) (by decide +kernel)⟩
theorem lw_p60 : lw_okq (⟨"CubeCheckerModel", "looks", "()V"⟩, 34) := ⟨⟨by decide +kernel, by decide +kernel⟩, List.mem_of_getElem? (i := 897) (by decide +kernel), List.mem_of_getElem? (i := 1186) (by decide +kernel), List.mem_of_getElem? (i := 1187) (by decide +kernel)⟩
theorem lw_p61 : lw_okq (⟨"CubeCheckerModel", "comes", "(II)V"⟩, 34) := ⟨⟨by decide +kernel, by decide +kernel⟩, List.mem_of_getElem? (i := 897) (by decide +kernel), List.mem_of_getElem? (i := 1190) (by decide +kernel), List.mem_of_getElem? (i := 1191) (by decide +kernel)⟩
theorem lw_p62 : lw_okq (⟨"CubeCheckerModel", "findsPath", "()Z"⟩, 34) := ⟨⟨by decide +kernel, by decide +kernel⟩, List.mem_of_getElem? (i := 897) (by decide +kernel), List.mem_of_getElem? (i := 1202) (by decide +kernel), List.mem_of_getElem? (i := 1203) (by decide +kernel)⟩
theorem lw_p63 : lw_okq (⟨"CubeCheckerModel", "farOfPath", "()I"⟩, 34) := ⟨⟨by decide +kernel, by decide +kernel⟩, List.mem_of_getElem? (i := 897) (by decide +kernel), List.mem_of_getElem? (i := 1206) (by decide +kernel), List.mem_of_getElem? (i := 1207) (by decide +kernel)⟩
def lw_privs_4 : List (MethodName × Nat) := [(⟨"CubeCheckerModel", "goes", "(II)I"⟩, 34), (⟨"CubeCheckerModel", "keeps", "()V"⟩, 34), (⟨"CubeCheckerModel", "isPlace", "(I)Z"⟩, 34), (⟨"CubeCheckerModel", "spreads", "()V"⟩, 34), (⟨"CubeCheckerModel", "isFirst", "(I)Z"⟩, 34), (⟨"CubeCheckerModel", "isThere", "(I)Z"⟩, 34), (⟨"CubeCheckerModel", "meets", "(II)V"⟩, 34), (⟨"CubeCheckerModel", "nearest", "(I)I"⟩, 34), (⟨"CubeCheckerModel", "prunes", "(I)V"⟩, 34), (⟨"CubeCheckerModel", "leads", "(II)Z"⟩, 34), (⟨"CubeCheckerModel", "becomes", "(II)V"⟩, 34), (⟨"CubeCheckerModel", "cube", "(III)I"⟩, 34), (⟨"CubeCheckerModel", "looks", "()V"⟩, 34), (⟨"CubeCheckerModel", "comes", "(II)V"⟩, 34), (⟨"CubeCheckerModel", "findsPath", "()Z"⟩, 34), (⟨"CubeCheckerModel", "farOfPath", "()I"⟩, 34)]
theorem lw_r4 : ∀ q ∈ lw_privs_4, lw_okq q := List.forall_mem_cons.mpr ⟨lw_p48, List.forall_mem_cons.mpr ⟨lw_p49, List.forall_mem_cons.mpr ⟨lw_p50, List.forall_mem_cons.mpr ⟨lw_p51, List.forall_mem_cons.mpr ⟨lw_p52, List.forall_mem_cons.mpr ⟨lw_p53, List.forall_mem_cons.mpr ⟨lw_p54, List.forall_mem_cons.mpr ⟨lw_p55, List.forall_mem_cons.mpr ⟨lw_p56, List.forall_mem_cons.mpr ⟨lw_p57, List.forall_mem_cons.mpr ⟨lw_p58, List.forall_mem_cons.mpr ⟨lw_p59, List.forall_mem_cons.mpr ⟨lw_p60, List.forall_mem_cons.mpr ⟨lw_p61, List.forall_mem_cons.mpr ⟨lw_p62, List.forall_mem_cons.mpr ⟨lw_p63, fun _ h => absurd h List.not_mem_nil⟩⟩⟩⟩⟩⟩⟩⟩⟩⟩⟩⟩⟩⟩⟩⟩
theorem lw_p64 : lw_okq (⟨"CubeCheckerModel", "setFor", "()I"⟩, 34) := ⟨⟨by decide +kernel, by decide +kernel⟩, List.mem_of_getElem? (i := 897) (by decide +kernel), List.mem_of_getElem? (i := 1214) (by decide +kernel), List.mem_of_getElem? (i := 1215) (by decide +kernel)⟩
theorem lw_p65 : lw_okq (⟨"CubeCheckerModel", "isEnded", "(I)Z"⟩, 34) := ⟨⟨by decide +kernel, by decide +kernel⟩, List.mem_of_getElem? (i := 897) (by decide +kernel), List.mem_of_getElem? (i := 1218) (by decide +kernel), List.mem_of_getElem? (i := 1219) (by decide +kernel)⟩
theorem lw_p66 : lw_okq (⟨"CubeCheckerModel", "looksMore", "(I)V"⟩, 34) := ⟨⟨by decide +kernel, by decide +kernel⟩, List.mem_of_getElem? (i := 897) (by decide +kernel), List.mem_of_getElem? (i := 1222) (by decide +kernel), List.mem_of_getElem? (i := 1223) (by decide +kernel)⟩
theorem lw_p67 : lw_okq (⟨"CubeCheckerModel", "how", "()I"⟩, 34) := ⟨⟨by decide +kernel, by decide +kernel⟩, List.mem_of_getElem? (i := 897) (by decide +kernel), List.mem_of_getElem? (i := 1230) (by decide +kernel), List.mem_of_getElem? (i := 1231) (by decide +kernel)⟩
def lw_privs_5 : List (MethodName × Nat) := [(⟨"CubeCheckerModel", "setFor", "()I"⟩, 34), (⟨"CubeCheckerModel", "isEnded", "(I)Z"⟩, 34), (⟨"CubeCheckerModel", "looksMore", "(I)V"⟩, 34), (⟨"CubeCheckerModel", "how", "()I"⟩, 34)]
theorem lw_r5 : ∀ q ∈ lw_privs_5, lw_okq q := List.forall_mem_cons.mpr ⟨lw_p64, List.forall_mem_cons.mpr ⟨lw_p65, List.forall_mem_cons.mpr ⟨lw_p66, List.forall_mem_cons.mpr ⟨lw_p67, fun _ h => absurd h List.not_mem_nil⟩⟩⟩⟩
def lw_privs : List (MethodName × Nat) := lw_privs_1 ++ (lw_privs_2 ++ (lw_privs_3 ++ (lw_privs_4 ++ (lw_privs_5))))
def lw_tbl : List Cond := k2_sels lw_privs ++ tables_1
theorem lw_privs_ok : ∀ q ∈ lw_privs, lw_okq q := by
  show ∀ q ∈ lw_privs_1 ++ (lw_privs_2 ++ (lw_privs_3 ++ (lw_privs_4 ++ (lw_privs_5)))), lw_okq q
  exact List.forall_mem_append.mpr ⟨lw_r1, List.forall_mem_append.mpr ⟨lw_r2, List.forall_mem_append.mpr ⟨lw_r3, List.forall_mem_append.mpr ⟨lw_r4, lw_r5⟩⟩⟩⟩
def RX0 : String := "CubeChecker$History"
def TX0 : u_T := fun k => match k with
  | 0 => ("CubeChecker$History", "lookedAt", "[[I", true)
  | 1 => ("CubeChecker$History", "wants", "[I", true)
  | 2 => ("CubeChecker$History", "kept", "I", false)
  | _ => ("CubeChecker$History", "next", "I", false)
def tyX0 : Nat → FieldType := fun k => match k with
  | 0 => .array (.array .int)
  | 1 => .array .int
  | 2 => .int
  | _ => .int
abbrev wsX00 : List Cond := u_ws RX0 TX0 4
theorem nmX0 : ∀ a, a < 4 → ∀ b, b < 4 → a ≠ b → (TX0 a).2.1 ≠ (TX0 b).2.1 := by decide +kernel
theorem tyX0_ok : ∀ k, k < 4 → parseFieldDescriptor (TX0 k).2.2.1 = some (tyX0 k) := by decide +kernel
abbrev cX0_init : ByteArray := prog_2_method_1_code
def yX0_init : MethodName := ⟨RX0, "<init>", "()V"⟩
abbrev cX0_size : ByteArray := prog_2_method_2_code
def yX0_size : MethodName := ⟨RX0, "size", "()I"⟩
abbrev cX0_empty : ByteArray := prog_2_method_3_code
def yX0_empty : MethodName := ⟨RX0, "empty", "()V"⟩
abbrev cX0_keep : ByteArray := prog_2_method_4_code
def yX0_keep : MethodName := ⟨RX0, "keep", "([II)V"⟩
abbrev cX0_takeBack : ByteArray := prog_2_method_5_code
def yX0_takeBack : MethodName := ⟨RX0, "takeBack", "([I)I"⟩
def RX1 : String := "CubeChecker$Leaps"
def TX1 : u_T := fun k => match k with
  | 0 => ("CubeChecker$Leaps", "program", "LCubeChecker$Program;", true)
  | 1 => ("CubeChecker$Leaps", "meaning", "LCubeChecker$Meaning;", true)
  | 2 => ("CubeChecker$Leaps", "leap", "[[I", true)
  | 3 => ("CubeChecker$Leaps", "leaps", "[I", true)
  | 4 => ("CubeChecker$Leaps", "foundFor", "[I", true)
  | 5 => ("CubeChecker$Leaps", "ordered", "[I", true)
  | 6 => ("CubeChecker$Leaps", "start", "[I", true)
  | 7 => ("CubeChecker$Leaps", "first", "LCubeChecker$NumberSet;", true)
  | _ => ("CubeChecker$Leaps", "behind", "LCubeChecker$NumberSet;", true)
def tyX1 : Nat → FieldType := fun k => match k with
  | 0 => .object "CubeChecker$Program"
  | 1 => .object "CubeChecker$Meaning"
  | 2 => .array (.array .int)
  | 3 => .array .int
  | 4 => .array .int
  | 5 => .array .int
  | 6 => .array .int
  | 7 => .object "CubeChecker$NumberSet"
  | _ => .object "CubeChecker$NumberSet"
abbrev wsX10 : List Cond := u_ws RX1 TX1 9
theorem nmX1 : ∀ a, a < 9 → ∀ b, b < 9 → a ≠ b → (TX1 a).2.1 ≠ (TX1 b).2.1 := by decide +kernel
theorem tyX1_ok : ∀ k, k < 9 → parseFieldDescriptor (TX1 k).2.2.1 = some (tyX1 k) := by decide +kernel
abbrev cX1_init : ByteArray := prog_3_method_1_code
def yX1_init : MethodName := ⟨RX1, "<init>", "(LCubeChecker$Program;LCubeChecker$Meaning;)V"⟩
abbrev cX1_takeProgram : ByteArray := prog_3_method_2_code
def yX1_takeProgram : MethodName := ⟨RX1, "takeProgram", "()V"⟩
abbrev cX1_renew : ByteArray := prog_3_method_3_code
def yX1_renew : MethodName := ⟨RX1, "renew", "()V"⟩
abbrev cX1_putFirstCubes : ByteArray := prog_3_method_4_code
def yX1_putFirstCubes : MethodName := ⟨RX1, "putFirstCubes", "(ILCubeChecker$NumberSet;)V"⟩
abbrev cX1_putNextCubes : ByteArray := prog_3_method_5_code
def yX1_putNextCubes : MethodName := ⟨RX1, "putNextCubes", "(I[ILCubeChecker$NumberSet;LCubeChecker$NumberSet;)Z"⟩
abbrev cX1_orderValues : ByteArray := prog_3_method_6_code
def yX1_orderValues : MethodName := ⟨RX1, "orderValues", "()V"⟩
abbrev cX1_find : ByteArray := prog_3_method_7_code
def yX1_find : MethodName := ⟨RX1, "find", "(I)V"⟩
def RX2 : String := "CubeChecker$MaySearch"
def TX2 : u_T := fun k => match k with
  | 0 => ("CubeChecker$MaySearch", "program", "LCubeChecker$Program;", true)
  | 1 => ("CubeChecker$MaySearch", "leaps", "LCubeChecker$Leaps;", true)
  | 2 => ("CubeChecker$MaySearch", "way", "LCubeChecker$Way;", true)
  | 3 => ("CubeChecker$MaySearch", "lookedAt", "[I", true)
  | 4 => ("CubeChecker$MaySearch", "node", "[I", true)
  | 5 => ("CubeChecker$MaySearch", "from", "[I", true)
  | 6 => ("CubeChecker$MaySearch", "seen", "LCubeChecker$NumberSet;", true)
  | 7 => ("CubeChecker$MaySearch", "now", "LCubeChecker$NumberSet;", true)
  | 8 => ("CubeChecker$MaySearch", "then", "LCubeChecker$NumberSet;", true)
  | 9 => ("CubeChecker$MaySearch", "came", "I", false)
  | _ => ("CubeChecker$MaySearch", "firstOfTrap", "I", false)
def tyX2 : Nat → FieldType := fun k => match k with
  | 0 => .object "CubeChecker$Program"
  | 1 => .object "CubeChecker$Leaps"
  | 2 => .object "CubeChecker$Way"
  | 3 => .array .int
  | 4 => .array .int
  | 5 => .array .int
  | 6 => .object "CubeChecker$NumberSet"
  | 7 => .object "CubeChecker$NumberSet"
  | 8 => .object "CubeChecker$NumberSet"
  | 9 => .int
  | _ => .int
abbrev wsX20 : List Cond := u_ws RX2 TX2 11
theorem nmX2 : ∀ a, a < 11 → ∀ b, b < 11 → a ≠ b → (TX2 a).2.1 ≠ (TX2 b).2.1 := by decide +kernel
theorem tyX2_ok : ∀ k, k < 11 → parseFieldDescriptor (TX2 k).2.2.1 = some (tyX2 k) := by decide +kernel
abbrev cX2_init : ByteArray := prog_4_method_1_code
def yX2_init : MethodName := ⟨RX2, "<init>", "(LCubeChecker$Program;LCubeChecker$Leaps;LCubeChecker$Way;[I)V"⟩
abbrev cX2_takeProgram : ByteArray := prog_4_method_2_code
def yX2_takeProgram : MethodName := ⟨RX2, "takeProgram", "()V"⟩
abbrev cX2_search : ByteArray := prog_4_method_3_code
def yX2_search : MethodName := ⟨RX2, "search", "()V"⟩
abbrev cX2_states : ByteArray := prog_4_method_4_code
def yX2_states : MethodName := ⟨RX2, "states", "()I"⟩
abbrev cX2_statesOf : ByteArray := prog_4_method_5_code
def yX2_statesOf : MethodName := ⟨RX2, "statesOf", "(I)I"⟩
abbrev cX2_cubeOf : ByteArray := prog_4_method_6_code
def yX2_cubeOf : MethodName := ⟨RX2, "cubeOf", "(II)I"⟩
abbrev cX2_foundAt : ByteArray := prog_4_method_7_code
def yX2_foundAt : MethodName := ⟨RX2, "foundAt", "(I)I"⟩
abbrev cX2_becomes : ByteArray := prog_4_method_8_code
def yX2_becomes : MethodName := ⟨RX2, "becomes", "(III)Z"⟩
abbrev cX2_isSafe : ByteArray := prog_4_method_9_code
def yX2_isSafe : MethodName := ⟨RX2, "isSafe", "()Z"⟩
abbrev cX2_way : ByteArray := prog_4_method_10_code
def yX2_way : MethodName := ⟨RX2, "way", "()LCubeChecker$Way;"⟩
abbrev cX2_goOn : ByteArray := prog_4_method_11_code
def yX2_goOn : MethodName := ⟨RX2, "goOn", "(I)V"⟩
abbrev cX2_addAll : ByteArray := prog_4_method_12_code
def yX2_addAll : MethodName := ⟨RX2, "addAll", "(II)V"⟩
abbrev cX2_add : ByteArray := prog_4_method_13_code
def yX2_add : MethodName := ⟨RX2, "add", "(III)V"⟩
abbrev cX2_tracePath : ByteArray := prog_4_method_14_code
def yX2_tracePath : MethodName := ⟨RX2, "tracePath", "()V"⟩
def RX3 : String := "CubeChecker$Meaning"
def TX3 : u_T := fun k => match k with
  | 0 => ("CubeChecker$Meaning", "program", "LCubeChecker$Program;", true)
  | 1 => ("CubeChecker$Meaning", "sos", "[I", true)
  | 2 => ("CubeChecker$Meaning", "first", "[I", true)
  | 3 => ("CubeChecker$Meaning", "firsts", "I", false)
  | 4 => ("CubeChecker$Meaning", "size", "I", false)
  | _ => ("CubeChecker$Meaning", "gap", "I", false)
def tyX3 : Nat → FieldType := fun k => match k with
  | 0 => .object "CubeChecker$Program"
  | 1 => .array .int
  | 2 => .array .int
  | 3 => .int
  | 4 => .int
  | _ => .int
abbrev wsX30 : List Cond := u_ws RX3 TX3 6
theorem nmX3 : ∀ a, a < 6 → ∀ b, b < 6 → a ≠ b → (TX3 a).2.1 ≠ (TX3 b).2.1 := by decide +kernel
theorem tyX3_ok : ∀ k, k < 6 → parseFieldDescriptor (TX3 k).2.2.1 = some (tyX3 k) := by decide +kernel
abbrev cX3_init : ByteArray := prog_5_method_1_code
def yX3_init : MethodName := ⟨RX3, "<init>", "(LCubeChecker$Program;)V"⟩
abbrev cX3_learn : ByteArray := prog_5_method_2_code
def yX3_learn : MethodName := ⟨RX3, "learn", "()V"⟩
abbrev cX3_size : ByteArray := prog_5_method_3_code
def yX3_size : MethodName := ⟨RX3, "size", "()I"⟩
abbrev cX3_valuesAt : ByteArray := prog_5_method_4_code
def yX3_valuesAt : MethodName := ⟨RX3, "valuesAt", "(I)I"⟩
abbrev cX3_valuesOf : ByteArray := prog_5_method_5_code
def yX3_valuesOf : MethodName := ⟨RX3, "valuesOf", "(III)I"⟩
abbrev cX3_firsts : ByteArray := prog_5_method_6_code
def yX3_firsts : MethodName := ⟨RX3, "firsts", "()I"⟩
abbrev cX3_firstAt : ByteArray := prog_5_method_7_code
def yX3_firstAt : MethodName := ⟨RX3, "firstAt", "(I)I"⟩
abbrev cX3_sosOf : ByteArray := prog_5_method_8_code
def yX3_sosOf : MethodName := ⟨RX3, "sosOf", "(I)I"⟩
abbrev cX3_after : ByteArray := prog_5_method_9_code
def yX3_after : MethodName := ⟨RX3, "after", "(II)I"⟩
abbrev cX3_areFirst : ByteArray := prog_5_method_10_code
def yX3_areFirst : MethodName := ⟨RX3, "areFirst", "(I)Z"⟩
abbrev cX3_findSos : ByteArray := prog_5_method_11_code
def yX3_findSos : MethodName := ⟨RX3, "findSos", "(I)I"⟩
abbrev cX3_isSo : ByteArray := prog_5_method_12_code
def yX3_isSo : MethodName := ⟨RX3, "isSo", "([II)Z"⟩
abbrev cX3_valueOf : ByteArray := prog_5_method_13_code
def yX3_valueOf : MethodName := ⟨RX3, "valueOf", "(II)I"⟩
def RX4 : String := "CubeChecker$NumberSet"
def TX4 : u_T := fun k => match k with
  | _ => ("CubeChecker$NumberSet", "words", "[I", true)
def tyX4 : Nat → FieldType := fun k => match k with
  | _ => .array .int
abbrev wsX40 : List Cond := u_ws RX4 TX4 1
theorem nmX4 : ∀ a, a < 1 → ∀ b, b < 1 → a ≠ b → (TX4 a).2.1 ≠ (TX4 b).2.1 := by decide +kernel
theorem tyX4_ok : ∀ k, k < 1 → parseFieldDescriptor (TX4 k).2.2.1 = some (tyX4 k) := by decide +kernel
abbrev cX4_init : ByteArray := prog_6_method_1_code
def yX4_init : MethodName := ⟨RX4, "<init>", "(I)V"⟩
abbrev cX4_empty : ByteArray := prog_6_method_2_code
def yX4_empty : MethodName := ⟨RX4, "empty", "()V"⟩
abbrev cX4_has : ByteArray := prog_6_method_3_code
def yX4_has : MethodName := ⟨RX4, "has", "(I)Z"⟩
abbrev cX4_add : ByteArray := prog_6_method_4_code
def yX4_add : MethodName := ⟨RX4, "add", "(I)Z"⟩
def RX5 : String := "CubeChecker$Program"
def TX5 : u_T := fun k => match k with
  | 0 => ("CubeChecker$Program", "places", "I", false)
  | 1 => ("CubeChecker$Program", "trap", "I", false)
  | 2 => ("CubeChecker$Program", "variables", "I", false)
  | 3 => ("CubeChecker$Program", "comparisons", "I", false)
  | 4 => ("CubeChecker$Program", "edges", "I", false)
  | 5 => ("CubeChecker$Program", "low", "[I", true)
  | 6 => ("CubeChecker$Program", "high", "[I", true)
  | 7 => ("CubeChecker$Program", "comparison", "[[I", true)
  | _ => ("CubeChecker$Program", "edge", "[[I", true)
def tyX5 : Nat → FieldType := fun k => match k with
  | 0 => .int
  | 1 => .int
  | 2 => .int
  | 3 => .int
  | 4 => .int
  | 5 => .array .int
  | 6 => .array .int
  | 7 => .array (.array .int)
  | _ => .array (.array .int)
abbrev wsX50 : List Cond := u_ws RX5 TX5 9
theorem nmX5 : ∀ a, a < 9 → ∀ b, b < 9 → a ≠ b → (TX5 a).2.1 ≠ (TX5 b).2.1 := by decide +kernel
theorem tyX5_ok : ∀ k, k < 9 → parseFieldDescriptor (TX5 k).2.2.1 = some (tyX5 k) := by decide +kernel
abbrev cX5_init : ByteArray := prog_7_method_1_code
def yX5_init : MethodName := ⟨RX5, "<init>", "()V"⟩
abbrev cX5_empty : ByteArray := prog_7_method_2_code
def yX5_empty : MethodName := ⟨RX5, "empty", "()V"⟩
abbrev cX5_become : ByteArray := prog_7_method_3_code
def yX5_become : MethodName := ⟨RX5, "become", "(LCubeChecker$Program;)V"⟩
abbrev cX5_wants : ByteArray := prog_7_method_4_code
def yX5_wants : MethodName := ⟨RX5, "wants", "()I"⟩
abbrev cX5_setWants : ByteArray := prog_7_method_5_code
def yX5_setWants : MethodName := ⟨RX5, "setWants", "(I)V"⟩
def RX6 : String := "CubeChecker$RealSearch"
def TX6 : u_T := fun k => match k with
  | 0 => ("CubeChecker$RealSearch", "program", "LCubeChecker$Program;", true)
  | 1 => ("CubeChecker$RealSearch", "meaning", "LCubeChecker$Meaning;", true)
  | 2 => ("CubeChecker$RealSearch", "node", "[I", true)
  | 3 => ("CubeChecker$RealSearch", "from", "[I", true)
  | 4 => ("CubeChecker$RealSearch", "seen", "LCubeChecker$NumberSet;", true)
  | 5 => ("CubeChecker$RealSearch", "distance", "[I", true)
  | 6 => ("CubeChecker$RealSearch", "realValues", "[I", true)
  | 7 => ("CubeChecker$RealSearch", "holds", "[I", true)
  | 8 => ("CubeChecker$RealSearch", "came", "I", false)
  | _ => ("CubeChecker$RealSearch", "endOfRun", "I", false)
def tyX6 : Nat → FieldType := fun k => match k with
  | 0 => .object "CubeChecker$Program"
  | 1 => .object "CubeChecker$Meaning"
  | 2 => .array .int
  | 3 => .array .int
  | 4 => .object "CubeChecker$NumberSet"
  | 5 => .array .int
  | 6 => .array .int
  | 7 => .array .int
  | 8 => .int
  | _ => .int
abbrev wsX60 : List Cond := u_ws RX6 TX6 10
theorem nmX6 : ∀ a, a < 10 → ∀ b, b < 10 → a ≠ b → (TX6 a).2.1 ≠ (TX6 b).2.1 := by decide +kernel
theorem tyX6_ok : ∀ k, k < 10 → parseFieldDescriptor (TX6 k).2.2.1 = some (tyX6 k) := by decide +kernel
abbrev cX6_init : ByteArray := prog_8_method_1_code
def yX6_init : MethodName := ⟨RX6, "<init>", "(LCubeChecker$Program;LCubeChecker$Meaning;)V"⟩
abbrev cX6_distanceOf : ByteArray := prog_8_method_2_code
def yX6_distanceOf : MethodName := ⟨RX6, "distanceOf", "(I)I"⟩
abbrev cX6_valuesAt : ByteArray := prog_8_method_3_code
def yX6_valuesAt : MethodName := ⟨RX6, "valuesAt", "(I)I"⟩
abbrev cX6_holdsAt : ByteArray := prog_8_method_4_code
def yX6_holdsAt : MethodName := ⟨RX6, "holdsAt", "(I)I"⟩
abbrev cX6_edgeOfRun : ByteArray := prog_8_method_5_code
def yX6_edgeOfRun : MethodName := ⟨RX6, "edgeOfRun", "(I)I"⟩
abbrev cX6_search : ByteArray := prog_8_method_6_code
def yX6_search : MethodName := ⟨RX6, "search", "()V"⟩
abbrev cX6_empty : ByteArray := prog_8_method_7_code
def yX6_empty : MethodName := ⟨RX6, "empty", "()V"⟩
abbrev cX6_endOfGroup : ByteArray := prog_8_method_8_code
def yX6_endOfGroup : MethodName := ⟨RX6, "endOfGroup", "(I)I"⟩
abbrev cX6_goOn : ByteArray := prog_8_method_9_code
def yX6_goOn : MethodName := ⟨RX6, "goOn", "(III)V"⟩
abbrev cX6_goBy : ByteArray := prog_8_method_10_code
def yX6_goBy : MethodName := ⟨RX6, "goBy", "(IIII)V"⟩
abbrev cX6_add : ByteArray := prog_8_method_11_code
def yX6_add : MethodName := ⟨RX6, "add", "(IIII)V"⟩
def RX7 : String := "CubeChecker$Text"
def TX7 : u_T := fun k => match k with
  | 0 => ("CubeChecker$Text", "letters", "[C", true)
  | 1 => ("CubeChecker$Text", "length", "I", false)
  | 2 => ("CubeChecker$Text", "told", "LCubeChecker$Program;", true)
  | _ => ("CubeChecker$Text", "figures", "[I", true)
def tyX7 : Nat → FieldType := fun k => match k with
  | 0 => .array .char
  | 1 => .int
  | 2 => .object "CubeChecker$Program"
  | _ => .array .int
abbrev wsX70 : List Cond := u_ws RX7 TX7 4
theorem nmX7 : ∀ a, a < 4 → ∀ b, b < 4 → a ≠ b → (TX7 a).2.1 ≠ (TX7 b).2.1 := by decide +kernel
theorem tyX7_ok : ∀ k, k < 4 → parseFieldDescriptor (TX7 k).2.2.1 = some (tyX7 k) := by decide +kernel
abbrev cX7_init : ByteArray := prog_9_method_1_code
def yX7_init : MethodName := ⟨RX7, "<init>", "()V"⟩
abbrev cX7_size : ByteArray := prog_9_method_2_code
def yX7_size : MethodName := ⟨RX7, "size", "()I"⟩
abbrev cX7_empty : ByteArray := prog_9_method_3_code
def yX7_empty : MethodName := ⟨RX7, "empty", "()V"⟩
abbrev cX7_add : ByteArray := prog_9_method_4_code
def yX7_add : MethodName := ⟨RX7, "add", "(C)Z"⟩
abbrev cX7_program : ByteArray := prog_9_method_5_code
def yX7_program : MethodName := ⟨RX7, "program", "()LCubeChecker$Program;"⟩
abbrev cX7_firstFault : ByteArray := prog_9_method_6_code
def yX7_firstFault : MethodName := ⟨RX7, "firstFault", "()I"⟩
abbrev cX7_figuresBehind : ByteArray := prog_9_method_7_code
def yX7_figuresBehind : MethodName := ⟨RX7, "figuresBehind", "(C)I"⟩
abbrev cX7_takeFigures : ByteArray := prog_9_method_8_code
def yX7_takeFigures : MethodName := ⟨RX7, "takeFigures", "(II)Z"⟩
abbrev cX7_tell : ByteArray := prog_9_method_9_code
def yX7_tell : MethodName := ⟨RX7, "tell", "(C)Z"⟩
abbrev cX7_tellPlaces : ByteArray := prog_9_method_10_code
def yX7_tellPlaces : MethodName := ⟨RX7, "tellPlaces", "()Z"⟩
abbrev cX7_tellVariable : ByteArray := prog_9_method_11_code
def yX7_tellVariable : MethodName := ⟨RX7, "tellVariable", "()Z"⟩
abbrev cX7_tellComparison : ByteArray := prog_9_method_12_code
def yX7_tellComparison : MethodName := ⟨RX7, "tellComparison", "()Z"⟩
abbrev cX7_tellEdge : ByteArray := prog_9_method_13_code
def yX7_tellEdge : MethodName := ⟨RX7, "tellEdge", "()Z"⟩
abbrev cX7_edgeJoinsAndAsksWell : ByteArray := prog_9_method_14_code
def yX7_edgeJoinsAndAsksWell : MethodName := ⟨RX7, "edgeJoinsAndAsksWell", "()Z"⟩
abbrev cX7_edgeDoesWell : ByteArray := prog_9_method_15_code
def yX7_edgeDoesWell : MethodName := ⟨RX7, "edgeDoesWell", "()Z"⟩
abbrev cX7_isVariable : ByteArray := prog_9_method_16_code
def yX7_isVariable : MethodName := ⟨RX7, "isVariable", "(I)Z"⟩
def RX8 : String := "CubeChecker$Way"
def TX8 : u_T := fun k => match k with
  | 0 => ("CubeChecker$Way", "program", "LCubeChecker$Program;", true)
  | 1 => ("CubeChecker$Way", "meaning", "LCubeChecker$Meaning;", true)
  | 2 => ("CubeChecker$Way", "leaps", "LCubeChecker$Leaps;", true)
  | 3 => ("CubeChecker$Way", "lookedAt", "[I", true)
  | 4 => ("CubeChecker$Way", "row", "[I", true)
  | 5 => ("CubeChecker$Way", "length", "I", false)
  | 6 => ("CubeChecker$Way", "looksThen", "[I", true)
  | 7 => ("CubeChecker$Way", "someCubes", "LCubeChecker$NumberSet;", true)
  | 8 => ("CubeChecker$Way", "otherCubes", "LCubeChecker$NumberSet;", true)
  | 9 => ("CubeChecker$Way", "someValues", "[I", true)
  | 10 => ("CubeChecker$Way", "otherValues", "[I", true)
  | _ => ("CubeChecker$Way", "listed", "LCubeChecker$NumberSet;", true)
def tyX8 : Nat → FieldType := fun k => match k with
  | 0 => .object "CubeChecker$Program"
  | 1 => .object "CubeChecker$Meaning"
  | 2 => .object "CubeChecker$Leaps"
  | 3 => .array .int
  | 4 => .array .int
  | 5 => .int
  | 6 => .array .int
  | 7 => .object "CubeChecker$NumberSet"
  | 8 => .object "CubeChecker$NumberSet"
  | 9 => .array .int
  | 10 => .array .int
  | _ => .object "CubeChecker$NumberSet"
abbrev wsX80 : List Cond := u_ws RX8 TX8 12
theorem nmX8 : ∀ a, a < 12 → ∀ b, b < 12 → a ≠ b → (TX8 a).2.1 ≠ (TX8 b).2.1 := by decide +kernel
theorem tyX8_ok : ∀ k, k < 12 → parseFieldDescriptor (TX8 k).2.2.1 = some (tyX8 k) := by decide +kernel
abbrev cX8_init : ByteArray := prog_10_method_1_code
def yX8_init : MethodName := ⟨RX8, "<init>", "(LCubeChecker$Program;LCubeChecker$Meaning;LCubeChecker$Leaps;[I)V"⟩
abbrev cX8_empty : ByteArray := prog_10_method_2_code
def yX8_empty : MethodName := ⟨RX8, "empty", "()V"⟩
abbrev cX8_putAhead : ByteArray := prog_10_method_3_code
def yX8_putAhead : MethodName := ⟨RX8, "putAhead", "(I)V"⟩
abbrev cX8_length : ByteArray := prog_10_method_4_code
def yX8_length : MethodName := ⟨RX8, "length", "()I"⟩
abbrev cX8_edgeAt : ByteArray := prog_10_method_5_code
def yX8_edgeAt : MethodName := ⟨RX8, "edgeAt", "(I)I"⟩
abbrev cX8_isReal : ByteArray := prog_10_method_6_code
def yX8_isReal : MethodName := ⟨RX8, "isReal", "()Z"⟩
abbrev cX8_far : ByteArray := prog_10_method_7_code
def yX8_far : MethodName := ⟨RX8, "far", "()I"⟩
abbrev cX8_places : ByteArray := prog_10_method_8_code
def yX8_places : MethodName := ⟨RX8, "places", "()I"⟩
abbrev cX8_leastSetThatEnds : ByteArray := prog_10_method_9_code
def yX8_leastSetThatEnds : MethodName := ⟨RX8, "leastSetThatEnds", "()I"⟩
abbrev cX8_listFirstValues : ByteArray := prog_10_method_10_code
def yX8_listFirstValues : MethodName := ⟨RX8, "listFirstValues", "([I)I"⟩
abbrev cX8_listAfter : ByteArray := prog_10_method_11_code
def yX8_listAfter : MethodName := ⟨RX8, "listAfter", "(I[II[I)I"⟩
abbrev cX8_isEndedBy : ByteArray := prog_10_method_12_code
def yX8_isEndedBy : MethodName := ⟨RX8, "isEndedBy", "(II)Z"⟩
def RX9 : String := "CubeChecker"
def TX9 : u_T := fun k => match k with
  | 0 => ("CubeChecker", "text", "LCubeChecker$Text;", true)
  | 1 => ("CubeChecker", "program", "LCubeChecker$Program;", true)
  | 2 => ("CubeChecker", "meaning", "LCubeChecker$Meaning;", true)
  | 3 => ("CubeChecker", "lookedAt", "[I", true)
  | 4 => ("CubeChecker", "history", "LCubeChecker$History;", true)
  | 5 => ("CubeChecker", "realSearch", "LCubeChecker$RealSearch;", false)
  | 6 => ("CubeChecker", "maySearch", "LCubeChecker$MaySearch;", false)
  | 7 => ("CubeChecker", "realSearchIsOld", "Z", false)
  | _ => ("CubeChecker", "maySearchIsOld", "Z", false)
def tyX9 : Nat → FieldType := fun k => match k with
  | 0 => .object "CubeChecker$Text"
  | 1 => .object "CubeChecker$Program"
  | 2 => .object "CubeChecker$Meaning"
  | 3 => .array .int
  | 4 => .object "CubeChecker$History"
  | 5 => .object "CubeChecker$RealSearch"
  | 6 => .object "CubeChecker$MaySearch"
  | 7 => .boolean
  | _ => .boolean
abbrev wsX90 : List Cond := u_ws RX9 TX9 9
theorem nmX9 : ∀ a, a < 9 → ∀ b, b < 9 → a ≠ b → (TX9 a).2.1 ≠ (TX9 b).2.1 := by decide +kernel
theorem tyX9_ok : ∀ k, k < 9 → parseFieldDescriptor (TX9 k).2.2.1 = some (tyX9 k) := by decide +kernel
abbrev cX9_init : ByteArray := prog_1_method_1_code
def yX9_init : MethodName := ⟨RX9, "<init>", "()V"⟩
abbrev cX9_write : ByteArray := prog_1_method_2_code
def yX9_write : MethodName := ⟨RX9, "write", "(I)I"⟩
abbrev cX9_wipe : ByteArray := prog_1_method_3_code
def yX9_wipe : MethodName := ⟨RX9, "wipe", "()I"⟩
abbrev cX9_fault : ByteArray := prog_1_method_4_code
def yX9_fault : MethodName := ⟨RX9, "fault", "()I"⟩
abbrev cX9_lay : ByteArray := prog_1_method_5_code
def yX9_lay : MethodName := ⟨RX9, "lay", "()I"⟩
abbrev cX9_edge : ByteArray := prog_1_method_6_code
def yX9_edge : MethodName := ⟨RX9, "edge", "(II)I"⟩
abbrev cX9_turn : ByteArray := prog_1_method_7_code
def yX9_turn : MethodName := ⟨RX9, "turn", "(I)I"⟩
abbrev cX9_so : ByteArray := prog_1_method_8_code
def yX9_so : MethodName := ⟨RX9, "so", "(IIII)I"⟩
abbrev cX9_gone : ByteArray := prog_1_method_9_code
def yX9_gone : MethodName := ⟨RX9, "gone", "(IIII)I"⟩
abbrev cX9_real : ByteArray := prog_1_method_10_code
def yX9_real : MethodName := ⟨RX9, "real", "(II)I"⟩
abbrev cX9_run : ByteArray := prog_1_method_11_code
def yX9_run : MethodName := ⟨RX9, "run", "(I)I"⟩
abbrev cX9_look : ByteArray := prog_1_method_12_code
def yX9_look : MethodName := ⟨RX9, "look", "(III)I"⟩
abbrev cX9_looked : ByteArray := prog_1_method_13_code
def yX9_looked : MethodName := ⟨RX9, "looked", "(I)I"⟩
abbrev cX9_may : ByteArray := prog_1_method_14_code
def yX9_may : MethodName := ⟨RX9, "may", "(III)I"⟩
abbrev cX9_state : ByteArray := prog_1_method_15_code
def yX9_state : MethodName := ⟨RX9, "state", "(II)I"⟩
abbrev cX9_found : ByteArray := prog_1_method_16_code
def yX9_found : MethodName := ⟨RX9, "found", "(I)I"⟩
abbrev cX9_path : ByteArray := prog_1_method_17_code
def yX9_path : MethodName := ⟨RX9, "path", "(I)I"⟩
abbrev cX9_mend : ByteArray := prog_1_method_18_code
def yX9_mend : MethodName := ⟨RX9, "mend", "()I"⟩
abbrev cX9_check : ByteArray := prog_1_method_19_code
def yX9_check : MethodName := ⟨RX9, "check", "(I)I"⟩
abbrev cX9_undo : ByteArray := prog_1_method_20_code
def yX9_undo : MethodName := ⟨RX9, "undo", "()I"⟩
abbrev cX9_count : ByteArray := prog_1_method_21_code
def yX9_count : MethodName := ⟨RX9, "count", "(I)I"⟩
abbrev cX9_isPlace : ByteArray := prog_1_method_22_code
def yX9_isPlace : MethodName := ⟨RX9, "isPlace", "(I)Z"⟩
abbrev cX9_isComparison : ByteArray := prog_1_method_23_code
def yX9_isComparison : MethodName := ⟨RX9, "isComparison", "(I)Z"⟩
abbrev cX9_isEdge : ByteArray := prog_1_method_24_code
def yX9_isEdge : MethodName := ⟨RX9, "isEdge", "(I)Z"⟩
abbrev cX9_isCube : ByteArray := prog_1_method_25_code
def yX9_isCube : MethodName := ⟨RX9, "isCube", "(I)Z"⟩
abbrev cX9_areValues : ByteArray := prog_1_method_26_code
def yX9_areValues : MethodName := ⟨RX9, "areValues", "(III)Z"⟩
abbrev cX9_isValue : ByteArray := prog_1_method_27_code
def yX9_isValue : MethodName := ⟨RX9, "isValue", "(I)Z"⟩
abbrev cX9_takeText : ByteArray := prog_1_method_28_code
def yX9_takeText : MethodName := ⟨RX9, "takeText", "()Z"⟩
abbrev cX9_forgetSearches : ByteArray := prog_1_method_29_code
def yX9_forgetSearches : MethodName := ⟨RX9, "forgetSearches", "()V"⟩
abbrev cX9_newestReal : ByteArray := prog_1_method_30_code
def yX9_newestReal : MethodName := ⟨RX9, "newestReal", "()LCubeChecker$RealSearch;"⟩
abbrev cX9_newestMay : ByteArray := prog_1_method_31_code
def yX9_newestMay : MethodName := ⟨RX9, "newestMay", "()LCubeChecker$MaySearch;"⟩
abbrev cX9_setThatMends : ByteArray := prog_1_method_32_code
def yX9_setThatMends : MethodName := ⟨RX9, "setThatMends", "(LCubeChecker$MaySearch;)I"⟩
abbrev cX9_lookOnPath : ByteArray := prog_1_method_33_code
def yX9_lookOnPath : MethodName := ⟨RX9, "lookOnPath", "(LCubeChecker$MaySearch;I)V"⟩
abbrev cX9_lookedAtInAll : ByteArray := prog_1_method_34_code
def yX9_lookedAtInAll : MethodName := ⟨RX9, "lookedAtInAll", "()I"⟩
def RX10 : String := "CubeCheckerModel"
def TX10 : u_T := fun k => match k with
  | 0 => ("CubeCheckerModel", "length", "I", false)
  | 1 => ("CubeCheckerModel", "text", "[I", true)
  | 2 => ("CubeCheckerModel", "places", "I", false)
  | 3 => ("CubeCheckerModel", "trap", "I", false)
  | 4 => ("CubeCheckerModel", "variables", "I", false)
  | 5 => ("CubeCheckerModel", "first", "[I", true)
  | 6 => ("CubeCheckerModel", "comparisons", "I", false)
  | 7 => ("CubeCheckerModel", "compare", "[I", true)
  | 8 => ("CubeCheckerModel", "edges", "I", false)
  | 9 => ("CubeCheckerModel", "edge", "[I", true)
  | 10 => ("CubeCheckerModel", "now", "[I", true)
  | 11 => ("CubeCheckerModel", "was", "[I", true)
  | 12 => ("CubeCheckerModel", "changes", "I", false)
  | 13 => ("CubeCheckerModel", "readPlaces", "I", false)
  | 14 => ("CubeCheckerModel", "readTrap", "I", false)
  | 15 => ("CubeCheckerModel", "readVariables", "I", false)
  | 16 => ("CubeCheckerModel", "readFirst", "[I", true)
  | 17 => ("CubeCheckerModel", "readComparisons", "I", false)
  | 18 => ("CubeCheckerModel", "readCompare", "[I", true)
  | 19 => ("CubeCheckerModel", "readEdges", "I", false)
  | 20 => ("CubeCheckerModel", "readEdge", "[I", true)
  | 21 => ("CubeCheckerModel", "far", "[I", true)
  | 22 => ("CubeCheckerModel", "queue", "[I", true)
  | 23 => ("CubeCheckerModel", "queued", "I", false)
  | 24 => ("CubeCheckerModel", "here", "[Z", true)
  | 25 => ("CubeCheckerModel", "there", "[Z", true)
  | 26 => ("CubeCheckerModel", "states", "[I", true)
  | 27 => ("CubeCheckerModel", "from", "[I", true)
  | 28 => ("CubeCheckerModel", "has", "[Z", true)
  | 29 => ("CubeCheckerModel", "many", "I", false)
  | 30 => ("CubeCheckerModel", "cubes", "[Z", true)
  | 31 => ("CubeCheckerModel", "path", "[I", true)
  | 32 => ("CubeCheckerModel", "pathLong", "I", false)
  | _ => ("CubeCheckerModel", "next", "[Z", true)
def tyX10 : Nat → FieldType := fun k => match k with
  | 0 => .int
  | 1 => .array .int
  | 2 => .int
  | 3 => .int
  | 4 => .int
  | 5 => .array .int
  | 6 => .int
  | 7 => .array .int
  | 8 => .int
  | 9 => .array .int
  | 10 => .array .int
  | 11 => .array .int
  | 12 => .int
  | 13 => .int
  | 14 => .int
  | 15 => .int
  | 16 => .array .int
  | 17 => .int
  | 18 => .array .int
  | 19 => .int
  | 20 => .array .int
  | 21 => .array .int
  | 22 => .array .int
  | 23 => .int
  | 24 => .array .boolean
  | 25 => .array .boolean
  | 26 => .array .int
  | 27 => .array .int
  | 28 => .array .boolean
  | 29 => .int
  | 30 => .array .boolean
  | 31 => .array .int
  | 32 => .int
  | _ => .array .boolean
abbrev wsX100 : List Cond := u_ws RX10 TX10 34
theorem nmX10 : ∀ a, a < 34 → ∀ b, b < 34 → a ≠ b → (TX10 a).2.1 ≠ (TX10 b).2.1 := by decide +kernel
theorem tyX10_ok : ∀ k, k < 34 → parseFieldDescriptor (TX10 k).2.2.1 = some (tyX10 k) := by decide +kernel
abbrev cX10_init : ByteArray := prog_12_method_1_code
def yX10_init : MethodName := ⟨RX10, "<init>", "()V"⟩
abbrev cX10_compares : ByteArray := prog_12_method_2_code
def yX10_compares : MethodName := ⟨RX10, "compares", "(IIII)V"⟩
abbrev cX10_joins : ByteArray := prog_12_method_3_code
def yX10_joins : MethodName := ⟨RX10, "joins", "(IIIII)V"⟩
abbrev cX10_acts : ByteArray := prog_12_method_4_code
def yX10_acts : MethodName := ⟨RX10, "acts", "(IIII)V"⟩
abbrev cX10_begins : ByteArray := prog_12_method_5_code
def yX10_begins : MethodName := ⟨RX10, "begins", "()V"⟩
abbrev cX10_isIn : ByteArray := prog_12_method_6_code
def yX10_isIn : MethodName := ⟨RX10, "isIn", "(III)Z"⟩
abbrev cX10_figure : ByteArray := prog_12_method_7_code
def yX10_figure : MethodName := ⟨RX10, "figure", "(I)I"⟩
abbrev cX10_figuresOf : ByteArray := prog_12_method_8_code
def yX10_figuresOf : MethodName := ⟨RX10, "figuresOf", "(I)I"⟩
abbrev cX10_readsPlaces : ByteArray := prog_12_method_9_code
def yX10_readsPlaces : MethodName := ⟨RX10, "readsPlaces", "(I)Z"⟩
abbrev cX10_readsVariable : ByteArray := prog_12_method_10_code
def yX10_readsVariable : MethodName := ⟨RX10, "readsVariable", "(I)Z"⟩
abbrev cX10_readsComparison : ByteArray := prog_12_method_11_code
def yX10_readsComparison : MethodName := ⟨RX10, "readsComparison", "(I)Z"⟩
abbrev cX10_readsEdge : ByteArray := prog_12_method_12_code
def yX10_readsEdge : MethodName := ⟨RX10, "readsEdge", "(I)Z"⟩
abbrev cX10_readsItem : ByteArray := prog_12_method_13_code
def yX10_readsItem : MethodName := ⟨RX10, "readsItem", "(II)Z"⟩
abbrev cX10_reads : ByteArray := prog_12_method_14_code
def yX10_reads : MethodName := ⟨RX10, "reads", "()I"⟩
abbrev cX10_write : ByteArray := prog_12_method_15_code
def yX10_write : MethodName := ⟨RX10, "write", "(I)I"⟩
abbrev cX10_wipe : ByteArray := prog_12_method_16_code
def yX10_wipe : MethodName := ⟨RX10, "wipe", "()I"⟩
abbrev cX10_fault : ByteArray := prog_12_method_17_code
def yX10_fault : MethodName := ⟨RX10, "fault", "()I"⟩
abbrev cX10_lay : ByteArray := prog_12_method_18_code
def yX10_lay : MethodName := ⟨RX10, "lay", "()I"⟩
abbrev cX10_isPlace : ByteArray := prog_12_method_19_code
def yX10_isPlace : MethodName := ⟨RX10, "isPlace", "(I)Z"⟩
abbrev cX10_isComparison : ByteArray := prog_12_method_20_code
def yX10_isComparison : MethodName := ⟨RX10, "isComparison", "(I)Z"⟩
abbrev cX10_isEdge : ByteArray := prog_12_method_21_code
def yX10_isEdge : MethodName := ⟨RX10, "isEdge", "(I)Z"⟩
abbrev cX10_areValues : ByteArray := prog_12_method_22_code
def yX10_areValues : MethodName := ⟨RX10, "areValues", "(III)Z"⟩
abbrev cX10_value : ByteArray := prog_12_method_23_code
def yX10_value : MethodName := ⟨RX10, "value", "(II)I"⟩
abbrev cX10_isThere : ByteArray := prog_12_method_24_code
def yX10_isThere : MethodName := ⟨RX10, "isThere", "(I)Z"⟩
abbrev cX10_isFirst : ByteArray := prog_12_method_25_code
def yX10_isFirst : MethodName := ⟨RX10, "isFirst", "(I)Z"⟩
abbrev cX10_isSo : ByteArray := prog_12_method_26_code
def yX10_isSo : MethodName := ⟨RX10, "isSo", "(II)Z"⟩
abbrev cX10_goes : ByteArray := prog_12_method_27_code
def yX10_goes : MethodName := ⟨RX10, "goes", "(II)I"⟩
abbrev cX10_cube : ByteArray := prog_12_method_28_code
def yX10_cube : MethodName := ⟨RX10, "cube", "(III)I"⟩
abbrev cX10_edge : ByteArray := prog_12_method_29_code
def yX10_edge : MethodName := ⟨RX10, "edge", "(II)I"⟩
abbrev cX10_so : ByteArray := prog_12_method_30_code
def yX10_so : MethodName := ⟨RX10, "so", "(IIII)I"⟩
abbrev cX10_gone : ByteArray := prog_12_method_31_code
def yX10_gone : MethodName := ⟨RX10, "gone", "(IIII)I"⟩
abbrev cX10_keeps : ByteArray := prog_12_method_32_code
def yX10_keeps : MethodName := ⟨RX10, "keeps", "()V"⟩
abbrev cX10_undo : ByteArray := prog_12_method_33_code
def yX10_undo : MethodName := ⟨RX10, "undo", "()I"⟩
abbrev cX10_turn : ByteArray := prog_12_method_34_code
def yX10_turn : MethodName := ⟨RX10, "turn", "(I)I"⟩
abbrev cX10_bits : ByteArray := prog_12_method_35_code
def yX10_bits : MethodName := ⟨RX10, "bits", "(I)I"⟩
abbrev cX10_look : ByteArray := prog_12_method_36_code
def yX10_look : MethodName := ⟨RX10, "look", "(III)I"⟩
abbrev cX10_looked : ByteArray := prog_12_method_37_code
def yX10_looked : MethodName := ⟨RX10, "looked", "(I)I"⟩
abbrev cX10_meets : ByteArray := prog_12_method_38_code
def yX10_meets : MethodName := ⟨RX10, "meets", "(II)V"⟩
abbrev cX10_spreads : ByteArray := prog_12_method_39_code
def yX10_spreads : MethodName := ⟨RX10, "spreads", "()V"⟩
abbrev cX10_nearest : ByteArray := prog_12_method_40_code
def yX10_nearest : MethodName := ⟨RX10, "nearest", "(I)I"⟩
abbrev cX10_real : ByteArray := prog_12_method_41_code
def yX10_real : MethodName := ⟨RX10, "real", "(II)I"⟩
abbrev cX10_prunes : ByteArray := prog_12_method_42_code
def yX10_prunes : MethodName := ⟨RX10, "prunes", "(I)V"⟩
abbrev cX10_leads : ByteArray := prog_12_method_43_code
def yX10_leads : MethodName := ⟨RX10, "leads", "(II)Z"⟩
abbrev cX10_run : ByteArray := prog_12_method_44_code
def yX10_run : MethodName := ⟨RX10, "run", "(I)I"⟩
abbrev cX10_comes : ByteArray := prog_12_method_45_code
def yX10_comes : MethodName := ⟨RX10, "comes", "(II)V"⟩
abbrev cX10_becomes : ByteArray := prog_12_method_46_code
def yX10_becomes : MethodName := ⟨RX10, "becomes", "(II)V"⟩
abbrev cX10_looks : ByteArray := prog_12_method_47_code
def yX10_looks : MethodName := ⟨RX10, "looks", "()V"⟩
abbrev cX10_may : ByteArray := prog_12_method_48_code
def yX10_may : MethodName := ⟨RX10, "may", "(III)I"⟩
abbrev cX10_state : ByteArray := prog_12_method_49_code
def yX10_state : MethodName := ⟨RX10, "state", "(II)I"⟩
abbrev cX10_found : ByteArray := prog_12_method_50_code
def yX10_found : MethodName := ⟨RX10, "found", "(I)I"⟩
abbrev cX10_findsPath : ByteArray := prog_12_method_51_code
def yX10_findsPath : MethodName := ⟨RX10, "findsPath", "()Z"⟩
abbrev cX10_farOfPath : ByteArray := prog_12_method_52_code
def yX10_farOfPath : MethodName := ⟨RX10, "farOfPath", "()I"⟩
abbrev cX10_path : ByteArray := prog_12_method_53_code
def yX10_path : MethodName := ⟨RX10, "path", "(I)I"⟩
abbrev cX10_isEnded : ByteArray := prog_12_method_54_code
def yX10_isEnded : MethodName := ⟨RX10, "isEnded", "(I)Z"⟩
abbrev cX10_setFor : ByteArray := prog_12_method_55_code
def yX10_setFor : MethodName := ⟨RX10, "setFor", "()I"⟩
abbrev cX10_looksMore : ByteArray := prog_12_method_56_code
def yX10_looksMore : MethodName := ⟨RX10, "looksMore", "(I)V"⟩
abbrev cX10_mend : ByteArray := prog_12_method_57_code
def yX10_mend : MethodName := ⟨RX10, "mend", "()I"⟩
abbrev cX10_how : ByteArray := prog_12_method_58_code
def yX10_how : MethodName := ⟨RX10, "how", "()I"⟩
abbrev cX10_check : ByteArray := prog_12_method_59_code
def yX10_check : MethodName := ⟨RX10, "check", "(I)I"⟩
abbrev cX10_count : ByteArray := prog_12_method_60_code
def yX10_count : MethodName := ⟨RX10, "count", "(I)I"⟩
def RJ6 : String := "java/lang/Integer"
abbrev cJ6_bitCount_0f7a4 : ByteArray := prog_13_method_49_code
def yJ6_bitCount_0f7a4 : MethodName := ⟨RJ6, "bitCount", "(I)I"⟩
def RJ9 : String := "java/lang/Math"
abbrev cJ9_max_7cf53 : ByteArray := prog_14_method_65_code
def yJ9_max_7cf53 : MethodName := ⟨RJ9, "max", "(II)I"⟩
abbrev cJ9_min_7cf53 : ByteArray := prog_14_method_69_code
def yJ9_min_7cf53 : MethodName := ⟨RJ9, "min", "(II)I"⟩
def RJ0 : String := "java/lang/String"
abbrev cJ0_length_8abf5 : ByteArray := prog_15_method_54_code
def yJ0_length_8abf5 : MethodName := ⟨RJ0, "length", "()I"⟩
abbrev cJ0_charAt_5068e : ByteArray := prog_15_method_56_code
def yJ0_charAt_5068e : MethodName := ⟨RJ0, "charAt", "(I)C"⟩
abbrev cJ0_coder_7d493 : ByteArray := prog_15_method_152_code
def yJ0_coder_7d493 : MethodName := ⟨RJ0, "coder", "()B"⟩
abbrev cJ0_isLatin1_aae02 : ByteArray := prog_15_method_154_code
def yJ0_isLatin1_aae02 : MethodName := ⟨RJ0, "isLatin1", "()Z"⟩
abbrev cJ0_checkIndex_df160 : ByteArray := prog_15_method_155_code
def yJ0_checkIndex_df160 : MethodName := ⟨RJ0, "checkIndex", "(II)V"⟩
def RJ1 : String := "java/lang/StringLatin1"
abbrev cJ1_charAt_3b067 : ByteArray := prog_16_method_2_code
def yJ1_charAt_3b067 : MethodName := ⟨RJ1, "charAt", "([BI)C"⟩
def RJ2 : String := "java/lang/StringUTF16"
abbrev cJ2_getChar_3b067 : ByteArray := prog_17_method_5_code
def yJ2_getChar_3b067 : MethodName := ⟨RJ2, "getChar", "([BI)C"⟩
abbrev cJ2_length_9d52b : ByteArray := prog_17_method_6_code
def yJ2_length_9d52b : MethodName := ⟨RJ2, "length", "([B)I"⟩
abbrev cJ2_charAt_3b067 : ByteArray := prog_17_method_83_code
def yJ2_charAt_3b067 : MethodName := ⟨RJ2, "charAt", "([BI)C"⟩
abbrev cJ2_checkIndex_2214a : ByteArray := prog_17_method_91_code
def yJ2_checkIndex_2214a : MethodName := ⟨RJ2, "checkIndex", "(I[B)V"⟩
def RJ10 : String := "java/lang/System"
def RJ7 : String := "java/util/Arrays"
abbrev cJ7_fill_53178 : ByteArray := prog_19_method_103_code
def yJ7_fill_53178 : MethodName := ⟨RJ7, "fill", "([II)V"⟩
def RJ3 : String := "jdk/internal/util/Preconditions"
abbrev cJ3_checkIndex_8e157 : ByteArray := prog_20_method_11_code
def yJ3_checkIndex_8e157 : MethodName := ⟨RJ3, "checkIndex", "(IILjava/util/function/BiFunction;)I"⟩
def RL : String := "CubeCheckerLaw"
abbrev cL_law : ByteArray := code
def yL_law : MethodName := ⟨RL, "law", "([I)Z"⟩
abbrev vwCl : List vw_C := [(RX0, TX0, 4), (RX1, TX1, 9), (RX2, TX2, 11), (RX3, TX3, 6), (RX4, TX4, 1), (RX5, TX5, 9), (RX6, TX6, 10), (RX7, TX7, 4), (RX8, TX8, 12), (RX9, TX9, 9), (RX10, TX10, 34)]
/-! the words that hold at every call: those of the tables that a change of the machine keeps -/
def tb_G : List Cond := lw_tbl.filter goodWord
theorem tb_in {c : Cond} (i : Nat) (h : lw_tbl[i]? = some c) (g : goodWord c = true) : c ∈ tb_G := List.mem_filter.mpr ⟨List.mem_of_getElem? h, g⟩
theorem tb_X0 : ∀ w ∈ u_ws RX0 TX0 4, w ∈ tb_G := List.forall_mem_map.mpr (fun k hk => by
  have hk := List.mem_range.mp hk
  match k, hk with
  | 0, _ => exact tb_in 224 (by decide +kernel) (by decide +kernel)
  | 1, _ => exact tb_in 226 (by decide +kernel) (by decide +kernel)
  | 2, _ => exact tb_in 228 (by decide +kernel) (by decide +kernel)
  | 3, _ => exact tb_in 230 (by decide +kernel) (by decide +kernel)
  | k + 4, h => exact absurd h (by omega))
theorem tb_X1 : ∀ w ∈ u_ws RX1 TX1 9, w ∈ tb_G := List.forall_mem_map.mpr (fun k hk => by
  have hk := List.mem_range.mp hk
  match k, hk with
  | 0, _ => exact tb_in 680 (by decide +kernel) (by decide +kernel)
  | 1, _ => exact tb_in 682 (by decide +kernel) (by decide +kernel)
  | 2, _ => exact tb_in 684 (by decide +kernel) (by decide +kernel)
  | 3, _ => exact tb_in 686 (by decide +kernel) (by decide +kernel)
  | 4, _ => exact tb_in 688 (by decide +kernel) (by decide +kernel)
  | 5, _ => exact tb_in 690 (by decide +kernel) (by decide +kernel)
  | 6, _ => exact tb_in 692 (by decide +kernel) (by decide +kernel)
  | 7, _ => exact tb_in 694 (by decide +kernel) (by decide +kernel)
  | 8, _ => exact tb_in 696 (by decide +kernel) (by decide +kernel)
  | k + 9, h => exact absurd h (by omega))
theorem tb_X2 : ∀ w ∈ u_ws RX2 TX2 11, w ∈ tb_G := List.forall_mem_map.mpr (fun k hk => by
  have hk := List.mem_range.mp hk
  match k, hk with
  | 0, _ => exact tb_in 763 (by decide +kernel) (by decide +kernel)
  | 1, _ => exact tb_in 765 (by decide +kernel) (by decide +kernel)
  | 2, _ => exact tb_in 767 (by decide +kernel) (by decide +kernel)
  | 3, _ => exact tb_in 769 (by decide +kernel) (by decide +kernel)
  | 4, _ => exact tb_in 771 (by decide +kernel) (by decide +kernel)
  | 5, _ => exact tb_in 773 (by decide +kernel) (by decide +kernel)
  | 6, _ => exact tb_in 775 (by decide +kernel) (by decide +kernel)
  | 7, _ => exact tb_in 777 (by decide +kernel) (by decide +kernel)
  | 8, _ => exact tb_in 779 (by decide +kernel) (by decide +kernel)
  | 9, _ => exact tb_in 781 (by decide +kernel) (by decide +kernel)
  | 10, _ => exact tb_in 783 (by decide +kernel) (by decide +kernel)
  | k + 11, h => exact absurd h (by omega))
theorem tb_X3 : ∀ w ∈ u_ws RX3 TX3 6, w ∈ tb_G := List.forall_mem_map.mpr (fun k hk => by
  have hk := List.mem_range.mp hk
  match k, hk with
  | 0, _ => exact tb_in 200 (by decide +kernel) (by decide +kernel)
  | 1, _ => exact tb_in 202 (by decide +kernel) (by decide +kernel)
  | 2, _ => exact tb_in 204 (by decide +kernel) (by decide +kernel)
  | 3, _ => exact tb_in 206 (by decide +kernel) (by decide +kernel)
  | 4, _ => exact tb_in 208 (by decide +kernel) (by decide +kernel)
  | 5, _ => exact tb_in 210 (by decide +kernel) (by decide +kernel)
  | k + 6, h => exact absurd h (by omega))
theorem tb_X4 : ∀ w ∈ u_ws RX4 TX4 1, w ∈ tb_G := List.forall_mem_map.mpr (fun k hk => by
  have hk := List.mem_range.mp hk
  match k, hk with
  | 0, _ => exact tb_in 554 (by decide +kernel) (by decide +kernel)
  | k + 1, h => exact absurd h (by omega))
theorem tb_X5 : ∀ w ∈ u_ws RX5 TX5 9, w ∈ tb_G := List.forall_mem_map.mpr (fun k hk => by
  have hk := List.mem_range.mp hk
  match k, hk with
  | 0, _ => exact tb_in 152 (by decide +kernel) (by decide +kernel)
  | 1, _ => exact tb_in 154 (by decide +kernel) (by decide +kernel)
  | 2, _ => exact tb_in 156 (by decide +kernel) (by decide +kernel)
  | 3, _ => exact tb_in 158 (by decide +kernel) (by decide +kernel)
  | 4, _ => exact tb_in 160 (by decide +kernel) (by decide +kernel)
  | 5, _ => exact tb_in 162 (by decide +kernel) (by decide +kernel)
  | 6, _ => exact tb_in 164 (by decide +kernel) (by decide +kernel)
  | 7, _ => exact tb_in 166 (by decide +kernel) (by decide +kernel)
  | 8, _ => exact tb_in 168 (by decide +kernel) (by decide +kernel)
  | k + 9, h => exact absurd h (by omega))
theorem tb_X6 : ∀ w ∈ u_ws RX6 TX6 10, w ∈ tb_G := List.forall_mem_map.mpr (fun k hk => by
  have hk := List.mem_range.mp hk
  match k, hk with
  | 0, _ => exact tb_in 567 (by decide +kernel) (by decide +kernel)
  | 1, _ => exact tb_in 569 (by decide +kernel) (by decide +kernel)
  | 2, _ => exact tb_in 571 (by decide +kernel) (by decide +kernel)
  | 3, _ => exact tb_in 573 (by decide +kernel) (by decide +kernel)
  | 4, _ => exact tb_in 575 (by decide +kernel) (by decide +kernel)
  | 5, _ => exact tb_in 577 (by decide +kernel) (by decide +kernel)
  | 6, _ => exact tb_in 579 (by decide +kernel) (by decide +kernel)
  | 7, _ => exact tb_in 581 (by decide +kernel) (by decide +kernel)
  | 8, _ => exact tb_in 583 (by decide +kernel) (by decide +kernel)
  | 9, _ => exact tb_in 585 (by decide +kernel) (by decide +kernel)
  | k + 10, h => exact absurd h (by omega))
theorem tb_X7 : ∀ w ∈ u_ws RX7 TX7 4, w ∈ tb_G := List.forall_mem_map.mpr (fun k hk => by
  have hk := List.mem_range.mp hk
  match k, hk with
  | 0, _ => exact tb_in 177 (by decide +kernel) (by decide +kernel)
  | 1, _ => exact tb_in 179 (by decide +kernel) (by decide +kernel)
  | 2, _ => exact tb_in 181 (by decide +kernel) (by decide +kernel)
  | 3, _ => exact tb_in 183 (by decide +kernel) (by decide +kernel)
  | k + 4, h => exact absurd h (by omega))
theorem tb_X8 : ∀ w ∈ u_ws RX8 TX8 12, w ∈ tb_G := List.forall_mem_map.mpr (fun k hk => by
  have hk := List.mem_range.mp hk
  match k, hk with
  | 0, _ => exact tb_in 719 (by decide +kernel) (by decide +kernel)
  | 1, _ => exact tb_in 721 (by decide +kernel) (by decide +kernel)
  | 2, _ => exact tb_in 723 (by decide +kernel) (by decide +kernel)
  | 3, _ => exact tb_in 725 (by decide +kernel) (by decide +kernel)
  | 4, _ => exact tb_in 727 (by decide +kernel) (by decide +kernel)
  | 5, _ => exact tb_in 729 (by decide +kernel) (by decide +kernel)
  | 6, _ => exact tb_in 731 (by decide +kernel) (by decide +kernel)
  | 7, _ => exact tb_in 733 (by decide +kernel) (by decide +kernel)
  | 8, _ => exact tb_in 735 (by decide +kernel) (by decide +kernel)
  | 9, _ => exact tb_in 737 (by decide +kernel) (by decide +kernel)
  | 10, _ => exact tb_in 739 (by decide +kernel) (by decide +kernel)
  | 11, _ => exact tb_in 741 (by decide +kernel) (by decide +kernel)
  | k + 12, h => exact absurd h (by omega))
theorem tb_X9 : ∀ w ∈ u_ws RX9 TX9 9, w ∈ tb_G := List.forall_mem_map.mpr (fun k hk => by
  have hk := List.mem_range.mp hk
  match k, hk with
  | 0, _ => exact tb_in 435 (by decide +kernel) (by decide +kernel)
  | 1, _ => exact tb_in 437 (by decide +kernel) (by decide +kernel)
  | 2, _ => exact tb_in 439 (by decide +kernel) (by decide +kernel)
  | 3, _ => exact tb_in 441 (by decide +kernel) (by decide +kernel)
  | 4, _ => exact tb_in 443 (by decide +kernel) (by decide +kernel)
  | 5, _ => exact tb_in 445 (by decide +kernel) (by decide +kernel)
  | 6, _ => exact tb_in 447 (by decide +kernel) (by decide +kernel)
  | 7, _ => exact tb_in 449 (by decide +kernel) (by decide +kernel)
  | 8, _ => exact tb_in 451 (by decide +kernel) (by decide +kernel)
  | k + 9, h => exact absurd h (by omega))
theorem tb_X10 : ∀ w ∈ u_ws RX10 TX10 34, w ∈ tb_G := List.forall_mem_map.mpr (fun k hk => by
  have hk := List.mem_range.mp hk
  match k, hk with
  | 0, _ => exact tb_in 1020 (by decide +kernel) (by decide +kernel)
  | 1, _ => exact tb_in 1022 (by decide +kernel) (by decide +kernel)
  | 2, _ => exact tb_in 1024 (by decide +kernel) (by decide +kernel)
  | 3, _ => exact tb_in 1026 (by decide +kernel) (by decide +kernel)
  | 4, _ => exact tb_in 1028 (by decide +kernel) (by decide +kernel)
  | 5, _ => exact tb_in 1030 (by decide +kernel) (by decide +kernel)
  | 6, _ => exact tb_in 1032 (by decide +kernel) (by decide +kernel)
  | 7, _ => exact tb_in 1034 (by decide +kernel) (by decide +kernel)
  | 8, _ => exact tb_in 1036 (by decide +kernel) (by decide +kernel)
  | 9, _ => exact tb_in 1038 (by decide +kernel) (by decide +kernel)
  | 10, _ => exact tb_in 1040 (by decide +kernel) (by decide +kernel)
  | 11, _ => exact tb_in 1042 (by decide +kernel) (by decide +kernel)
  | 12, _ => exact tb_in 1044 (by decide +kernel) (by decide +kernel)
  | 13, _ => exact tb_in 1046 (by decide +kernel) (by decide +kernel)
  | 14, _ => exact tb_in 1048 (by decide +kernel) (by decide +kernel)
  | 15, _ => exact tb_in 1050 (by decide +kernel) (by decide +kernel)
  | 16, _ => exact tb_in 1052 (by decide +kernel) (by decide +kernel)
  | 17, _ => exact tb_in 1054 (by decide +kernel) (by decide +kernel)
  | 18, _ => exact tb_in 1056 (by decide +kernel) (by decide +kernel)
  | 19, _ => exact tb_in 1058 (by decide +kernel) (by decide +kernel)
  | 20, _ => exact tb_in 1060 (by decide +kernel) (by decide +kernel)
  | 21, _ => exact tb_in 1062 (by decide +kernel) (by decide +kernel)
  | 22, _ => exact tb_in 1064 (by decide +kernel) (by decide +kernel)
  | 23, _ => exact tb_in 1066 (by decide +kernel) (by decide +kernel)
  | 24, _ => exact tb_in 1068 (by decide +kernel) (by decide +kernel)
  | 25, _ => exact tb_in 1070 (by decide +kernel) (by decide +kernel)
  | 26, _ => exact tb_in 1072 (by decide +kernel) (by decide +kernel)
  | 27, _ => exact tb_in 1074 (by decide +kernel) (by decide +kernel)
  | 28, _ => exact tb_in 1076 (by decide +kernel) (by decide +kernel)
  | 29, _ => exact tb_in 1078 (by decide +kernel) (by decide +kernel)
  | 30, _ => exact tb_in 1080 (by decide +kernel) (by decide +kernel)
  | 31, _ => exact tb_in 1082 (by decide +kernel) (by decide +kernel)
  | 32, _ => exact tb_in 1084 (by decide +kernel) (by decide +kernel)
  | 33, _ => exact tb_in 1086 (by decide +kernel) (by decide +kernel)
  | k + 34, h => exact absurd h (by omega))
end
section
/-! groups of cells: kind 0 an object (number in vwCl, how many fields), 1 int[], 2 boolean[], 3 char[] (length, how many rows), 4 int[][] (length, group of its rows) -/
def mm_gl : List (Nat × Nat × Nat) := [(9, 0, 0), (0, 10, 34), (1, 200, 1), (1, 6, 1), (1, 24, 1), (1, 98, 1), (1, 22, 1), (1, 132, 1), (1, 6, 1), (1, 24, 1), (1, 98, 1), (1, 4096, 1), (1, 4096, 1), (2, 512, 1), (2, 512, 1), (1, 2048, 1), (1, 2048, 1), (2, 2048, 1), (2, 256, 1), (1, 2048, 1), (2, 256, 1), (0, 9, 9), (0, 7, 4), (3, 200, 1), (0, 5, 9), (1, 3, 1), (1, 3, 1), (4, 8, 28), (1, 3, 8), (4, 14, 30), (1, 7, 14), (1, 7, 1), (0, 5, 9), (1, 3, 1), (1, 3, 1), (4, 8, 36), (1, 3, 8), (4, 14, 38), (1, 7, 14), (0, 3, 6), (1, 512, 1), (1, 512, 1), (1, 8, 1), (0, 0, 4), (4, 6, 45), (1, 8, 6), (1, 6, 1), (0, 6, 10), (1, 4096, 1), (1, 4096, 1), (0, 4, 1), (1, 128, 1), (1, 8, 1), (1, 8, 1), (1, 8, 1), (0, 1, 9), (4, 14, 57), (1, 512, 14), (1, 14, 1), (1, 14, 1), (1, 512, 1), (1, 257, 1), (0, 4, 1), (1, 8, 1), (0, 4, 1), (1, 8, 1), (0, 8, 12), (1, 2048, 1), (1, 8, 1), (0, 4, 1), (1, 8, 1), (0, 4, 1), (1, 8, 1), (1, 512, 1), (1, 512, 1), (0, 4, 1), (1, 16, 1), (0, 2, 11), (1, 2048, 1), (1, 2048, 1), (0, 4, 1), (1, 64, 1), (0, 4, 1), (1, 8, 1), (0, 4, 1), (1, 8, 1)]
/-- which fields are references, by class -/
def mm_frl : List (List Bool) := [[true, true, false, false], [true, true, true, true, true, true, true, true, true], [true, true, true, true, true, true, true, true, true, false, false], [true, true, true, false, false, false], [true], [false, false, false, false, false, true, true, true, true], [true, true, true, true, true, true, true, true, false, false], [true, false, true, true], [true, true, true, true, true, false, true, true, true, true, true, true], [true, true, true, true, true, true, true, false, false], [false, true, false, false, false, true, false, true, false, true, true, true, false, false, false, false, true, false, true, false, true, true, true, false, true, true, true, true, true, false, true, true, false, true]]
/-- the references of the objects when all are made -/
def mm_rl : List (List (Option (Nat × Int))) := [[], [none, some (2, 0), none, none, none, some (3, 0), none, some (4, 0), none, some (5, 0), some (6, 0), some (7, 0), none, none, none, none, some (8, 0), none, some (9, 0), none, some (10, 0), some (11, 0), some (12, 0), none, some (13, 0), some (14, 0), some (15, 0), some (16, 0), some (17, 0), none, some (18, 0), some (19, 0), none, some (20, 0)], [], [], [], [], [], [], [], [], [], [], [], [], [], [], [], [], [], [], [], [some (22, 0), some (32, 0), some (39, 0), some (42, 0), some (43, 0), none, none, none, none], [some (23, 0), none, some (24, 0), some (31, 0)], [], [none, none, none, none, none, some (25, 0), some (26, 0), some (27, 0), some (29, 0)], [], [], [], [], [], [], [], [none, none, none, none, none, some (33, 0), some (34, 0), some (35, 0), some (37, 0)], [], [], [], [], [], [], [some (32, 0), some (40, 0), some (41, 0), none, none, none], [], [], [], [some (44, 0), some (46, 0), none, none], [], [], [], [some (32, 0), some (39, 0), some (48, 0), some (49, 0), some (50, 0), some (52, 0), some (53, 0), some (54, 0), none, none], [], [], [some (51, 0)], [], [], [], [], [some (32, 0), some (39, 0), some (56, 0), some (58, 0), some (59, 0), some (60, 0), some (61, 0), some (62, 0), some (64, 0)], [], [], [], [], [], [], [some (63, 0)], [], [some (65, 0)], [], [some (32, 0), some (39, 0), some (55, 0), some (42, 0), some (67, 0), none, some (68, 0), some (69, 0), some (71, 0), some (73, 0), some (74, 0), some (75, 0)], [], [], [some (70, 0)], [], [some (72, 0)], [], [], [], [some (76, 0)], [], [some (32, 0), some (55, 0), some (66, 0), some (42, 0), some (78, 0), some (79, 0), some (80, 0), some (82, 0), some (84, 0), none, none], [], [], [some (81, 0)], [], [some (83, 0)], [], [some (85, 0)], []]
-- 1 model
-- 2 m.text
-- 3 m.first
-- 4 m.compare
-- 5 m.edge
-- 6 m.now
-- 7 m.was
-- 8 m.readFirst
-- 9 m.readCompare
-- 10 m.readEdge
-- 11 m.far
-- 12 m.queue
-- 13 m.here
-- 14 m.there
-- 15 m.states
-- 16 m.from
-- 17 m.has
-- 18 m.cubes
-- 19 m.path
-- 20 m.next
-- 21 cc
-- 22 text
-- 23 letters
-- 24 told
-- 25 told.low
-- 26 told.high
-- 27 told.comparison
-- 28 told.comparisonR
-- 29 told.edge
-- 30 told.edgeR
-- 31 figures
-- 32 program
-- 33 program.low
-- 34 program.high
-- 35 program.comparison
-- 36 program.comparisonR
-- 37 program.edge
-- 38 program.edgeR
-- 39 meaning
-- 40 sos
-- 41 mfirst
-- 42 lookedAt
-- 43 history
-- 44 hist
-- 45 histR
-- 46 wants
-- 47 real
-- 48 r.node
-- 49 r.from
-- 50 r.seen
-- 51 r.seen.w
-- 52 r.distance
-- 53 r.realValues
-- 54 r.holds
-- 55 leaps
-- 56 leap
-- 57 leapR
-- 58 leapsN
-- 59 foundFor
-- 60 ordered
-- 61 start
-- 62 l.first
-- 63 l.first.w
-- 64 l.behind
-- 65 l.behind.w
-- 66 way
-- 67 row
-- 68 looksThen
-- 69 someCubes
-- 70 someCubes.w
-- 71 otherCubes
-- 72 otherCubes.w
-- 73 someValues
-- 74 otherValues
-- 75 listed
-- 76 listed.w
-- 77 may
-- 78 y.node
-- 79 y.from
-- 80 y.seen
-- 81 y.seen.w
-- 82 y.now
-- 83 y.now.w
-- 84 y.then
-- 85 y.then.w
end
section
/-! ===== the small machine: values, memory, phases ===== -/
abbrev mm_V : Type := Int ⊕ Option (Nat × Int)
abbrev mm_M : Type := Nat → Int → Int → Int
abbrev mm_B : Type := (Nat → Nat → Option (Nat × Int)) × List Nat
abbrev mm_X : Type := va_G × ClassId × ClassId × ClassId × ClassId
abbrev mm_in (x : Int) : Prop := -2147483648 ≤ x ∧ x < 2147483648
def mm_nth {α : Type} : List α → Nat → Option α
  | [], _ => none
  | a :: _, 0 => some a
  | _ :: r, n + 1 => mm_nth r n
def mm_set {α : Type} : List α → Nat → α → List α
  | [], _, _ => []
  | _ :: r, 0, v => v :: r
  | a :: r, n + 1, v => a :: mm_set r n v
def mm_dv {α : Type} (d : α) : Option α → α
  | none => d
  | some x => x
def mm_gk (g : Nat) : Nat × Nat × Nat := mm_dv (9, 0, 0) (mm_nth mm_gl g)
def mm_fr (c k : Nat) : Bool := mm_dv false (mm_nth (mm_dv [] (mm_nth mm_frl c)) k)
def mm_nr (g : Nat) : Nat := match mm_gk g with
  | (1, _, n) => n
  | (2, _, n) => n
  | (3, _, n) => n
  | _ => 1
def mm_up (w : mm_M) (g : Nat) (j k v : Int) : mm_M := fun g' j' k' => if g' = g ∧ j' = j ∧ k' = k then v else w g' j' k'
def mm_re (α : Nat → Int → Nat) : Option (Nat × Int) → Value
  | none => .null
  | some q => .ref (α q.1 q.2)
def mm_v (α : Nat → Int → Nat) : mm_V → Value
  | .inl x => .int (Int32.ofInt x)
  | .inr r => mm_re α r
def mm_ok (b : mm_B) : mm_V → Prop
  | .inl x => mm_in x
  | .inr none => True
  | .inr (some q) => q.1 ∈ b.2 ∧ 0 ≤ q.2 ∧ q.2 < mm_nr q.1
def mm_cA (X : mm_X) (k : Nat) : ClassId := if k = 1 then X.2.1 else if k = 2 then X.2.2.1 else X.2.2.2.1
def mm_fT (k : Nat) : FieldType := if k = 1 then .int else if k = 2 then .boolean else .char
def mm_ty (X : mm_X) : List (ClassId × FieldType) := [(X.2.1, .int), (X.2.2.1, .boolean), (X.2.2.2.1, .char), (X.2.2.2.2, .array .int)]
def mm_fv (α : Nat → Int → Nat) (b : mm_B) (w : mm_M) (g k : Nat) : Value := if mm_fr (mm_gk g).2.1 k = true then mm_re α (b.1 g k) else .int (Int32.ofInt (w g 0 k))
def mm_ce (X : mm_X) (α : Nat → Int → Nat) (b : mm_B) (w : mm_M) (g : Nat) (j : Int) : va_E :=
  if (mm_gk g).1 = 0 then .inr ((mm_gk g).2.1, (List.range (mm_gk g).2.2).map (mm_fv α b w g))
  else if (mm_gk g).1 = 4 then .inl (X.2.2.2.2, (mm_gk g).2.1, .inr (.inr (.inr (.inr (fun k : Nat => if k < (mm_gk g).2.1 then some (α (mm_gk g).2.2 (k : Int)) else none)))))
  else .inl (mm_cA X (mm_gk g).1, (mm_gk g).2.1, .inl (fun k : Nat => Int32.ofInt (w g j (k : Int))))
def mm_ks (b : mm_B) : List (Nat × Int) := b.2.flatMap fun g => (List.range (mm_nr g)).map fun j : Nat => (g, (j : Int))
def mm_wl (X : mm_X) (α : Nat → Int → Nat) (b : mm_B) (w : mm_M) : va_W := (mm_ks b).map fun q => (α q.1 q.2, mm_ce X α b w q.1 q.2)
/-- the references of a phase lead to what lives -/
def mm_ph (b : mm_B) : Prop := (∀ g ∈ b.2, ∀ k q, b.1 g k = some q → mm_ok b (.inr (some q))) ∧ ∀ g ∈ b.2, (mm_gk g).1 = 4 → (mm_gk g).2.2 ∈ b.2 ∧ mm_nr (mm_gk g).2.2 = (mm_gk g).2.1
def mm_rg (w : mm_M) : Prop := ∀ g j k, mm_in (w g j k)
def mm_Rp (X : mm_X) (α : Nat → Int → Nat) (b : mm_B) (w : mm_M) (H : Heap) (A : Nat → Prop) : Prop := va_P X.1 vwCl (mm_wl X α b w) H ∧ va_D A (mm_wl X α b w) ∧ mm_rg w ∧ mm_ph b
def mm_L (b : mm_B) (α : Nat → Int → Nat) (ls : List (Option mm_V)) (kls : Array Slot) (nL : Nat) : Prop :=
  ls.length = nL ∧ kls.size = nL ∧ lv_wf kls ∧ ∀ i v, mm_nth ls i = some (some v) → kls[i]? = some (.val (mm_v α v)) ∧ mm_ok b v
/-! ===== what else holds of the machine all the time: links to private constructors, the array class of int[][] ===== -/
def mm_nst : List Cond := [.methodLinkNest RX9 18 yX5_init "CubeChecker", .methodLinkNest RX9 38 yX0_init "CubeChecker", .methodLinkNest RX9 9 yX7_init "CubeChecker", .methodLinkNest RX7 17 yX5_init "CubeChecker"]
def va_AOA (ty : FieldType) (U : State) : Prop := (Cond.arrayOver (.array ty)).before #[] U = true
theorem va_AOA.use {ty : FieldType} {A : Array Value} {U : State} (h : va_AOA ty U) : (Cond.arrayOver (.array ty)).before A U = true := h
theorem va_AOA.moved {u U : State} (hvm : u.vm.Alike U.vm) (h : va_AOA .int u) : va_AOA .int U := by
  have h0 := h
  unfold va_AOA Cond.before at h0
  simp only [Cond.holds, Cond.value, beq_iff_eq] at h0
  cases hc : u.vm.findClass (FieldType.array .int).toString with
  | none => simp [hc] at h0
  | some comp =>
    simp only [hc, Option.bind_some, Option.bind_eq_some_iff, Option.map_eq_some_iff] at h0
    obtain ⟨c, hi, k, hk, hb⟩ := h0
    obtain ⟨k', hk', he⟩ := hvm.2.2 _ _ hk
    have hi2 : (U.vm.classes.findIdx? fun (x : Class) => match x.kind with | .array component _ => component == comp | _ => false) = some c := by
      have e1 := va_idx_bare U.vm comp
      have e2 := va_idx_bare u.vm comp
      have e3 : U.vm.bare = u.vm.bare := by first | exact hvm.bare_eq | exact hvm.bare_eq.symm
      rw [e3] at e1
      exact (e1.symm.trans e2).trans hi
    have f1 : U.vm.findClass (FieldType.array .int).toString = some comp := by rw [hvm.findClass]; exact hc
    have hkind : k'.kind = k.kind := by rw [he]
    unfold va_AOA Cond.before Cond.holds
    simp only [Cond.value]
    rw [f1, Option.bind_some]
    refine (congrArg (fun o : Option Nat => (o.bind (fun c => (U.vm.classes[c]?).map fun (k : Class) => match k.kind with | .array _ ty => decide (ty = FieldType.array .int) && decide (U.vm.findClass ("[" ++ (FieldType.array .int).toString) = some c) | _ => false) == some true)) hi2).trans ?_
    rw [Option.bind_some, hk', Option.map_some, hkind, hvm.findClass]
    exact beq_iff_eq.mpr (congrArg some hb)
def mm_E (U : State) : Prop := (∀ w ∈ mm_nst, va_Nw w U) ∧ va_AOA .int U
theorem mm_E.warm {s U : State} (hW : s.WarmedH U.vm) (h : mm_E s) : mm_E U := by
  refine ⟨fun w hw => ?_, va_AOA.moved hW.alike h.2⟩
  have h1 := h.1 w hw
  rcases List.mem_cons.mp hw with rfl | hw
  · exact va_Nw.warmM hW h1
  rcases List.mem_cons.mp hw with rfl | hw
  · exact va_Nw.warmM hW h1
  rcases List.mem_cons.mp hw with rfl | hw
  · exact va_Nw.warmM hW h1
  rcases List.mem_cons.mp hw with rfl | hw
  · exact va_Nw.warmM hW h1
  · cases hw
theorem mm_E.same {u U : State} (h : u.vm = U.vm) (hE : mm_E u) : mm_E U := ⟨fun w hw => va_Nw.same (by
  rcases List.mem_cons.mp hw with rfl | hw
  · rfl
  rcases List.mem_cons.mp hw with rfl | hw
  · rfl
  rcases List.mem_cons.mp hw with rfl | hw
  · rfl
  rcases List.mem_cons.mp hw with rfl | hw
  · rfl
  · cases hw) h (hE.1 w hw), va_AOA.moved (by rw [h]; exact Vm.Alike.refl _) hE.2⟩
/-! ===== a method: name, code, locals' number, answer's type, own class, frames, words of locals, instructions, cuts, field links, method links ===== -/
abbrev mm_I : Type := Nat × Instr × Nat
abbrev mm_F : Type := Nat × Nat × Nat × Nat × Int
abbrev mm_K : Type := (MethodName × ByteArray × Nat × Option FieldType × String) × (Nat × Nat × Nat) × (List mm_I × List Nat × List mm_F × List (Nat × Nat × Nat × MethodName))
def mm_old (b0 b : mm_B) (α0 α : Nat → Int → Nat) : Prop := ∀ g ∈ b0.2, g ∈ b.2 ∧ ∀ j, α g j = α0 g j
def mm_Qc (X : mm_X) (α0 : Nat → Int → Nat) (b0 : mm_B) (A : Nat → Prop) (Q : Option mm_V → mm_B → mm_M → Prop) : Array Value → State → Outcome → State → Prop := fun _ st oc t =>
  (∃ (r : Option mm_V) (b' : mm_B) (w' : mm_M) (α' : Nat → Int → Nat), oc = .returned (r.map (mm_v α')) ∧ Q r b' w' ∧ (∀ v, r = some v → mm_ok b' v) ∧ mm_old b0 b' α0 α' ∧ mm_Rp X α' b' w' t.heap A ∧ va_K X.1 vwCl (mm_ty X) t) ∧ va_F A st t
/-- a field link: the place in the pool, the number of the class, the slot, 0 int 1 boolean 2 a reference -/
def mm_fok (own : String) (q : mm_F) : Prop := ∃ (C : String) (T : u_T) (N : Nat) (ty : Nat → FieldType), vwCl[q.2.1]? = some (C, T, N) ∧ (∀ w ∈ u_ws C T N, w ∈ tb_G) ∧ (∀ k, k < N → parseFieldDescriptor (T k).2.2.1 = some (ty k)) ∧ (∀ a, a < N → ∀ b, b < N → a ≠ b → (T a).2.1 ≠ (T b).2.1) ∧ q.2.2.1 < N ∧
  Cond.fieldLink own q.1 C (T q.2.2.1).2.1 (T q.2.2.1).2.2.1 ∈ tb_G ∧ (T q.2.2.1).1 = C ∧ mm_fr q.2.1 q.2.2.1 = Nat.beq q.2.2.2.1 2 ∧ (q.2.2.1 : Int) = q.2.2.2.2 ∧ (q.2.2.2.1 = 0 → ty q.2.2.1 = .int ∧ (T q.2.2.1).2.2.2 = false) ∧ (q.2.2.2.1 = 1 → ty q.2.2.1 = .boolean ∧ (T q.2.2.1).2.2.2 = false)
def mm_small (nL pc : Nat) : Instr → Bool
  | .bipush n => decide (-128 ≤ n ∧ n < 128)
  | .sipush n => decide (-32768 ≤ n ∧ n < 32768)
  | .iconst n => decide (-1 ≤ n ∧ n < 6)
  | .istore i => decide (i < nL)
  | .astore i => decide (i < nL)
  | .istore_n k => decide (k.val < nL)
  | .astore_n k => decide (k.val < nL)
  | .goto off => decide (0 ≤ (pc : Int) + off)
  | .ifCond _ off => decide (0 ≤ (pc : Int) + off)
  | .if_icmp _ off => decide (0 ≤ (pc : Int) + off)
  | .ifnull off => decide (0 ≤ (pc : Int) + off)
  | .ifnonnull off => decide (0 ≤ (pc : Int) + off)
  | _ => true
/-- how long an instruction is (0: of no fixed length here) -/
def mm_il : Instr → Nat
  | .bipush _ => 2
  | .sipush _ => 3
  | .iload _ => 2
  | .aload _ => 2
  | .istore _ => 2
  | .astore _ => 2
  | .iinc _ _ => 3
  | .getfield _ => 3
  | .putfield _ => 3
  | .ifCond _ _ => 3
  | .if_icmp _ _ => 3
  | .ifnull _ => 3
  | .ifnonnull _ => 3
  | .goto _ => 3
  | .invokevirtual _ => 3
  | .invokespecial _ => 3
  | .invokestatic _ => 3
  | .new _ => 3
  | .newarray _ => 2
  | .multianewarray _ _ => 4
  | .ldc _ => 0
  | .ldc_w _ => 3
  | .tableswitch _ _ _ _ => 0
  | .lookupswitch _ _ => 0
  | _ => 1
def mm_lok (own : String) (q : Nat × Nat × Nat × MethodName) : Prop :=
  (q.2.2.2.cls ≠ "java/lang/invoke/MethodHandle" ∧ q.2.2.2.cls ≠ "java/lang/invoke/VarHandle" ∧ (parseMethodDescriptor q.2.2.2.desc).map (fun d => d.parameters.length) = some q.2.2.1) ∧ Cond.initialized q.2.2.2.cls ∈ tb_G ∧
  (q.2.1 = 0 → Cond.methodLink own q.1 q.2.2.2 ∈ tb_G ∧ Cond.instanceMethod q.2.2.2 ∈ tb_G ∧ Cond.selects q.2.2.2.cls q.2.2.2 q.2.2.2 ∈ tb_G) ∧
  (q.2.1 = 1 → Cond.methodLink own q.1 q.2.2.2 ∈ tb_G ∧ Cond.static q.2.2.2 ∈ tb_G) ∧
  (q.2.1 = 2 → Cond.methodLink own q.1 q.2.2.2 ∈ tb_G ∧ Cond.instanceMethod q.2.2.2 ∈ tb_G ∧ q.2.2.2.name = "<init>") ∧
  (q.2.1 = 3 → Cond.methodLinkNest own q.1 q.2.2.2 "CubeChecker" ∈ mm_nst ∧ Cond.instanceMethod q.2.2.2 ∈ tb_G ∧ q.2.2.2.name = "<init>")
def mm_KO (K : mm_K) : Prop := (∀ q ∈ K.2.2.1, decode K.1.2.1 q.1 = .ok (q.2.1, q.2.2 - q.1) ∧ q.1 ≤ q.2.2 ∧ mm_small K.1.2.2.1 q.1 q.2.1 = true ∧ (mm_il q.2.1 = 0 ∨ q.2.2 = q.1 + mm_il q.2.1)) ∧ (∀ q ∈ K.2.2.2.2.1, mm_fok K.1.2.2.2.2 q) ∧ ∀ q ∈ K.2.2.2.2.2, mm_lok K.1.2.2.2.2 q
def mm_Cx (K : mm_K) (p : Program) (R : Room) (s : State) (m : MethodId) (args : Array Value) (meth : Method) (c : Code) (X : mm_X) : Prop :=
  p.tables.exec = Jvm.exec ∧ c.code = K.1.2.1 ∧ c.maxLocals = K.1.2.2.1 ∧ meth.sig.returnType = K.1.2.2.2.1 ∧ meth.locks = false ∧ s.vm.findClass K.1.2.2.2.2 = some m.cls ∧ (∀ w ∈ tb_G, w.before args s = true) ∧ va_K X.1 vwCl (mm_ty X) s ∧ meth.name = K.1.1.name ∧ R.frames = K.2.1.1 ∧ R.locals = K.2.1.2.1 ∧ mm_KO K ∧ mm_E s
def mm_Z (K : mm_K) (n : Nat × Nat) (ls : List (Option mm_V)) (st : List mm_V) (b : mm_B) (w : mm_M) (p : Program) (R : Room) (s : State) (m : MethodId) (args : Array Value) (meth : Method) (c : Code) (X : mm_X) (α0 : Nat → Int → Nat) (b0 : mm_B) (A : Nat → Prop) (H : Heap) (locs : List Loc) (cells slots : Nat) (α : Nat → Int → Nat) (kls : Array Slot) : Prop :=
  mm_Cx K p R s m args meth c X ∧ mm_Rp X α b w H A ∧ (∀ q, s.heap.size ≤ q → A q) ∧ va_S A s.heap H locs ∧ mm_old b0 b α0 α ∧ mm_L b α ls kls K.1.2.2.1 ∧ (∀ v ∈ st, mm_ok b v) ∧ cells + n.1 ≤ R.cells ∧ slots + n.2 ≤ R.slots
/-- from this frame the method ends, with an answer and a memory that are in Q -/
def mm_Wk (K : mm_K) (n : Nat × Nat) (pc : Nat) (ls : List (Option mm_V)) (st : List mm_V) (b : mm_B) (w : mm_M) (Q : Option mm_V → mm_B → mm_M → Prop) : Prop :=
  ∀ (p : Program) (l : Launch) (e : Env) (R : Room) (s : State) (m : MethodId) (args : Array Value) (below : List Frame) (meth : Method) (c : Code) (X : mm_X) (α0 : Nat → Int → Nat) (b0 : mm_B) (A : Nat → Prop) (H : Heap) (locs : List Loc) (cells slots : Nat) (α : Nat → Int → Nat) (kls : Array Slot),
    mm_Z K n ls st b w p R s m args meth c X α0 b0 A H locs cells slots α kls →
    W p l e R s m args below meth c H locs cells slots (MQ below (mm_Qc X α0 b0 A Q) args s R.cells R.slots A) (F0 m pc kls (st.map (mm_v α)))
/-! ===== what an instruction does ===== -/
def mm_and (x y : Int) : Int := (Int32.ofInt x &&& Int32.ofInt y).toInt
def mm_or (x y : Int) : Int := (Int32.ofInt x ||| Int32.ofInt y).toInt
def mm_xor (x y : Int) : Int := (Int32.ofInt x ^^^ Int32.ofInt y).toInt
def mm_shl (x y : Int) : Int := (Int32.ofInt x <<< (Int32.ofInt y &&& 31)).toInt
def mm_shr (x y : Int) : Int := (Int32.ofInt x >>> (Int32.ofInt y &&& 31)).toInt
def mm_fits : Nat → Int → Prop → Prop
  | 2, x, a => a ∧ (0 ≤ x ∧ x ≤ 1)
  | 3, x, a => a ∧ (0 ≤ x ∧ x < 65536)
  | _, _, a => a
def mm_lnk : List mm_F → Nat → Option mm_F
  | [], _ => none
  | q :: r, i => match Nat.beq q.1 i with
    | true => some q
    | false => mm_lnk r i
abbrev mm_R : Type := List (Option mm_V) × List mm_V × mm_M × Prop
def mm_get (f : Option mm_F) (ls : List (Option mm_V)) (g : Nat) (st : List mm_V) (b : mm_B) (w : mm_M) (a : Prop) : Option mm_R :=
  match f with
  | none => none
  | some (_, c, k, t, ki) => match mm_gk g with
    | (0, c', _) => match Nat.beq c c', Nat.beq t 2 with
      | true, true => some (ls, .inr (b.1 g k) :: st, w, a)
      | true, false => some (ls, .inl (w g 0 ki) :: st, w, a)
      | false, _ => none
    | _ => none
def mm_put (f : Option mm_F) (ls : List (Option mm_V)) (g : Nat) (v : Int) (st : List mm_V) (w : mm_M) (a : Prop) : Option mm_R :=
  match f with
  | none => none
  | some (_, c, k, t, ki) => match mm_gk g with
    | (0, c', _) => match Nat.beq c c', t with
      | true, 0 => some (ls, st, mm_up w g 0 ki v, a)
      | true, 1 => some (ls, st, mm_up w g 0 ki v, a ∧ (0 ≤ v ∧ v ≤ 1))
      | _, _ => none
    | _ => none
def mm_ld (k : Nat) (ls : List (Option mm_V)) (g : Nat) (j i : Int) (st : List mm_V) (w : mm_M) (a : Prop) : Option mm_R :=
  match mm_gk g with
  | (k', n, _) => match Nat.beq k k' with
    | true => some (ls, .inl (w g j i) :: st, w, a ∧ (0 ≤ i ∧ i < n))
    | false => none
def mm_sto (k : Nat) (ls : List (Option mm_V)) (g : Nat) (j i v : Int) (st : List mm_V) (w : mm_M) (a : Prop) : Option mm_R :=
  match mm_gk g with
  | (k', n, _) => match Nat.beq k k' with
    | true => some (ls, st, mm_up w g j i v, mm_fits k v (a ∧ (0 ≤ i ∧ i < n)))
    | false => none
def mm_lda (ls : List (Option mm_V)) (g : Nat) (i : Int) (st : List mm_V) (w : mm_M) (a : Prop) : Option mm_R :=
  match mm_gk g with
  | (4, n, g') => some (ls, .inr (some (g', i)) :: st, w, a ∧ (0 ≤ i ∧ i < n))
  | _ => none
def mm_len (ls : List (Option mm_V)) (g : Nat) (st : List mm_V) (w : mm_M) (a : Prop) : Option mm_R :=
  match mm_gk g with
  | (1, n, _) => some (ls, .inl (n : Int) :: st, w, a)
  | _ => none
def mm_ldv (t : Bool) (ls : List (Option mm_V)) (st : List mm_V) (w : mm_M) (a : Prop) : Option (Option mm_V) → Option mm_R
  | some (some v) => match t, v with
    | true, .inr (some q) => some (ls, .inr (some q) :: st, w, a)
    | false, .inl x => some (ls, .inl x :: st, w, a)
    | _, _ => none
  | _ => none
/-- one instruction, but for branches, calls, ends and what is made -/
def mm_st (fl : List mm_F) (i : Instr) (ls : List (Option mm_V)) (st : List mm_V) (b : mm_B) (w : mm_M) (a : Prop) : Option mm_R :=
  match i, st with
  | .iconst n, st => some (ls, .inl n :: st, w, a)
  | .bipush n, st => some (ls, .inl n :: st, w, a)
  | .sipush n, st => some (ls, .inl n :: st, w, a)
  | .iload i, st => mm_ldv false ls st w a (mm_nth ls i)
  | .iload_n k, st => mm_ldv false ls st w a (mm_nth ls k.val)
  | .aload i, st => mm_ldv true ls st w a (mm_nth ls i)
  | .aload_n k, st => mm_ldv true ls st w a (mm_nth ls k.val)
  | .istore i, .inl x :: st => some (mm_set ls i (some (.inl x)), st, w, a)
  | .istore_n k, .inl x :: st => some (mm_set ls k.val (some (.inl x)), st, w, a)
  | .astore i, .inr (some q) :: st => some (mm_set ls i (some (.inr (some q))), st, w, a)
  | .astore_n k, .inr (some q) :: st => some (mm_set ls k.val (some (.inr (some q))), st, w, a)
  | .iinc i n, st => match mm_nth ls i with
    | some (some (.inl x)) => some (mm_set ls i (some (.inl (x + n))), st, w, a ∧ mm_in (x + n))
    | _ => none
  | .iadd, .inl y :: .inl x :: st => some (ls, .inl (x + y) :: st, w, a ∧ mm_in (x + y))
  | .isub, .inl y :: .inl x :: st => some (ls, .inl (x - y) :: st, w, a ∧ mm_in (x - y))
  | .imul, .inl y :: .inl x :: st => some (ls, .inl (x * y) :: st, w, a ∧ mm_in (x * y))
  | .idiv, .inl y :: .inl x :: st => some (ls, .inl (x / y) :: st, w, a ∧ (0 ≤ x ∧ 0 < y))
  | .irem, .inl y :: .inl x :: st => some (ls, .inl (x % y) :: st, w, a ∧ (0 ≤ x ∧ 0 < y))
  | .iand, .inl y :: .inl x :: st => some (ls, .inl (mm_and x y) :: st, w, a)
  | .ior, .inl y :: .inl x :: st => some (ls, .inl (mm_or x y) :: st, w, a)
  | .ixor, .inl y :: .inl x :: st => some (ls, .inl (mm_xor x y) :: st, w, a)
  | .ishl, .inl y :: .inl x :: st => some (ls, .inl (mm_shl x y) :: st, w, a)
  | .ishr, .inl y :: .inl x :: st => some (ls, .inl (mm_shr x y) :: st, w, a)
  | .ineg, .inl x :: st => some (ls, .inl (-x) :: st, w, a ∧ mm_in (-x))
  | .i2c, .inl x :: st => some (ls, .inl x :: st, w, a ∧ (0 ≤ x ∧ x < 65536))
  | .dup, v :: st => some (ls, v :: v :: st, w, a)
  | .dup2, v :: u :: st => some (ls, v :: u :: v :: u :: st, w, a)
  | .pop, _ :: st => some (ls, st, w, a)
  | .getfield i, .inr (some (g, _)) :: st => mm_get (mm_lnk fl i) ls g st b w a
  | .putfield i, .inl v :: .inr (some (g, _)) :: st => mm_put (mm_lnk fl i) ls g v st w a
  | .iaload, .inl i :: .inr (some (g, j)) :: st => mm_ld 1 ls g j i st w a
  | .baload, .inl i :: .inr (some (g, j)) :: st => mm_ld 2 ls g j i st w a
  | .caload, .inl i :: .inr (some (g, j)) :: st => mm_ld 3 ls g j i st w a
  | .iastore, .inl v :: .inl i :: .inr (some (g, j)) :: st => mm_sto 1 ls g j i v st w a
  | .bastore, .inl v :: .inl i :: .inr (some (g, j)) :: st => mm_sto 2 ls g j i v st w a
  | .castore, .inl v :: .inl i :: .inr (some (g, j)) :: st => mm_sto 3 ls g j i v st w a
  | .aaload, .inl i :: .inr (some (g, _)) :: st => mm_lda ls g i st w a
  | .arraylength, .inr (some (g, _)) :: st => mm_len ls g st w a
  | _, _ => none
end
section
/-! ===== numbers and keys ===== -/
theorem mm_i1 {x : Int} (h : mm_in x) : (Int32.ofInt x).toInt = x := Int32.toInt_ofInt_of_le (by have := h.1; omega) (by have := h.2; omega)
theorem mm_i2 (x : Int32) : mm_in x.toInt := ⟨by have := Int32.le_toInt x; omega, by have := Int32.toInt_lt x; omega⟩
theorem mm_i3 (x : Int32) : Int32.ofInt x.toInt = x := Int32.ofInt_toInt x
theorem mm_i4 {i : Int} {n : Nat} (hn : mm_in i) (h0 : 0 ≤ i) (h1 : i < n) : vp_in (Int32.ofInt i) n ∧ (((Int32.ofInt i).toNatClampNeg : Nat) : Int) = i := by
  have e : (Int32.ofInt i).toNatClampNeg = i.toNat := by
    show (Int32.ofInt i).toInt.toNat = _
    rw [mm_i1 hn]
  refine ⟨fun h => ?_, ?_⟩
  · rcases h with h | h
    · have := Int32.lt_iff_toInt_lt.mp h
      rw [mm_i1 hn] at this
      have h00 : (0 : Int32).toInt = 0 := rfl
      omega
    · rw [e] at h
      omega
  · rw [e]
    omega
theorem mm_i5 {x y : Int} (hx : mm_in x) (hy : mm_in y) : Int32.ofInt x ≤ Int32.ofInt y ↔ x ≤ y := by
  rw [Int32.le_iff_toInt_le, mm_i1 hx, mm_i1 hy]
theorem mm_i6 {x y : Int} (hx : mm_in x) (hy : mm_in y) : Int32.ofInt x < Int32.ofInt y ↔ x < y := by
  rw [Int32.lt_iff_toInt_lt, mm_i1 hx, mm_i1 hy]
theorem mm_i7 {x y : Int} (hx : mm_in x) (hy : mm_in y) : Int32.ofInt x = Int32.ofInt y ↔ x = y := by
  rw [← Int32.toInt_inj, mm_i1 hx, mm_i1 hy]
theorem mm_key {b : mm_B} {g : Nat} {j : Int} (h : mm_ok b (.inr (some (g, j)))) : (g, j) ∈ mm_ks b := by
  obtain ⟨h1, h2, h3⟩ := h
  refine List.mem_flatMap.mpr ⟨g, h1, List.mem_map.mpr ⟨j.toNat, List.mem_range.mpr (by have h3 : j < mm_nr g := h3; have h2 : 0 ≤ j := h2; omega), ?_⟩⟩
  have h2 : 0 ≤ j := h2
  rw [Int.toNat_of_nonneg h2]
theorem mm_keyR {b : mm_B} {g : Nat} {j : Int} (h : (g, j) ∈ mm_ks b) : g ∈ b.2 ∧ 0 ≤ j ∧ j < mm_nr g := by
  obtain ⟨g', h1, h2⟩ := List.mem_flatMap.mp h
  obtain ⟨k, h3, h4⟩ := List.mem_map.mp h2
  have h3 := List.mem_range.mp h3
  cases h4
  exact ⟨h1, by omega, by omega⟩
theorem mm_pos {X : mm_X} {α : Nat → Int → Nat} {b : mm_B} {w : mm_M} {q : Nat × Int} (h : q ∈ mm_ks b) : ∃ k0 : Nat, (mm_ks b)[k0]? = some q ∧ (mm_wl X α b w)[k0]? = some (α q.1 q.2, mm_ce X α b w q.1 q.2) := by
  obtain ⟨k0, hk⟩ := List.mem_iff_getElem?.mp h
  exact ⟨k0, hk, by unfold mm_wl; rw [List.getElem?_map, hk]; rfl⟩
theorem mm_wl_set {X : mm_X} {α : Nat → Int → Nat} {b : mm_B} {w w' : mm_M} {A : Nat → Prop} {k0 : Nat} {g : Nat} {j : Int} (hD : va_D A (mm_wl X α b w)) (hk : (mm_ks b)[k0]? = some (g, j)) {e : va_E} (he : e = mm_ce X α b w' g j) (hw : ∀ q ∈ mm_ks b, q ≠ (g, j) → mm_ce X α b w' q.1 q.2 = mm_ce X α b w q.1 q.2) :
    (mm_wl X α b w).set k0 (α g j, e) = mm_wl X α b w' := by
  apply List.ext_getElem?
  intro i
  by_cases hi : k0 = i
  · subst hi
    have hlt : k0 < (mm_wl X α b w).length := by
      unfold mm_wl
      rw [List.length_map]
      exact (List.getElem?_eq_some_iff.mp hk).1
    rw [List.getElem?_set_self hlt, he]
    unfold mm_wl
    rw [List.getElem?_map, hk]
    rfl
  · rw [List.getElem?_set_ne hi]
    unfold mm_wl
    rw [List.getElem?_map, List.getElem?_map]
    cases hq : (mm_ks b)[i]? with
    | none => rfl
    | some q =>
      have hne : q ≠ (g, j) := by
        intro hh
        subst hh
        refine hi (hD.1 k0 i (α g j, mm_ce X α b w g j) (α g j, mm_ce X α b w g j) ?_ ?_ rfl)
        · unfold mm_wl; rw [List.getElem?_map, hk]; rfl
        · unfold mm_wl; rw [List.getElem?_map, hq]; rfl
      show some (α q.1 q.2, mm_ce X α b w q.1 q.2) = some (α q.1 q.2, mm_ce X α b w' q.1 q.2)
      rw [hw q (List.mem_of_getElem? hq) hne]
theorem mm_ce_arr {X : mm_X} {α : Nat → Int → Nat} {b : mm_B} {w : mm_M} {g : Nat} {j : Int} {k n r : Nat} (h : mm_gk g = (k, n, r)) (hk : k = 1 ∨ k = 2 ∨ k = 3) : mm_ce X α b w g j = .inl (mm_cA X k, n, .inl (fun i : Nat => Int32.ofInt (w g j (i : Int)))) := by
  unfold mm_ce
  rw [h]
  rw [if_neg (show ¬ (k, n, r).1 = 0 by show ¬ k = 0; omega), if_neg (show ¬ (k, n, r).1 = 4 by show ¬ k = 4; omega)]
theorem mm_ce_obj {X : mm_X} {α : Nat → Int → Nat} {b : mm_B} {w : mm_M} {g : Nat} {j : Int} {c n : Nat} (h : mm_gk g = (0, c, n)) : mm_ce X α b w g j = .inr (c, (List.range n).map (mm_fv α b w g)) := by
  unfold mm_ce
  rw [h]
  rw [if_pos rfl]
theorem mm_ce_out {X : mm_X} {α : Nat → Int → Nat} {b : mm_B} {w : mm_M} {g : Nat} {j : Int} {n r : Nat} (h : mm_gk g = (4, n, r)) : mm_ce X α b w g j = .inl (X.2.2.2.2, n, .inr (.inr (.inr (.inr (fun k : Nat => if k < n then some (α r (k : Int)) else none))))) := by
  unfold mm_ce
  rw [h]
  rw [if_neg (show ¬ (4 : Nat) = 0 by decide), if_pos rfl]
theorem mm_nr_obj {g c n : Nat} (h : mm_gk g = (0, c, n)) : mm_nr g = 1 := by
  unfold mm_nr
  rw [h]
  rfl
theorem mm_ce_up {X : mm_X} {α : Nat → Int → Nat} {b : mm_B} {w : mm_M} {g : Nat} {j k v : Int} {q : Nat × Int} (hq : q ∈ mm_ks b) (hg : (g, j) ∈ mm_ks b) (hne : q ≠ (g, j)) : mm_ce X α b (mm_up w g j k v) q.1 q.2 = mm_ce X α b w q.1 q.2 := by
  obtain ⟨g', j'⟩ := q
  show mm_ce X α b (mm_up w g j k v) g' j' = mm_ce X α b w g' j'
  have hu : ∀ z, mm_up w g j k v g' j' z = w g' j' z := fun z => by
    unfold mm_up
    refine if_neg fun h => hne ?_
    rw [h.1, h.2.1]
  unfold mm_ce
  by_cases h0 : (mm_gk g').1 = 0
  · rw [if_pos h0, if_pos h0]
    have hj : j' = 0 := by
      have h1 := mm_keyR hq
      rw [mm_nr_obj (c := (mm_gk g').2.1) (n := (mm_gk g').2.2) (by rw [← h0])] at h1
      omega
    subst hj
    refine congrArg _ (congrArg _ (List.map_congr_left fun z _ => ?_))
    unfold mm_fv
    rw [hu z]
  · rw [if_neg h0, if_neg h0]
    by_cases h4 : (mm_gk g').1 = 4
    · rw [if_pos h4, if_pos h4]
    · rw [if_neg h4, if_neg h4]
      refine congrArg _ (congrArg _ (congrArg _ (congrArg _ (funext fun z => ?_))))
      rw [hu]
theorem mm_rg_up {w : mm_M} {g : Nat} {j k v : Int} (h : mm_rg w) (hv : mm_in v) : mm_rg (mm_up w g j k v) := by
  intro g' j' k'
  unfold mm_up
  split
  · exact hv
  · exact h g' j' k'
theorem mm_up_arr {w : mm_M} {g : Nat} {j k v : Int} (h0 : 0 ≤ k) : (fun i : Nat => Int32.ofInt (mm_up w g j k v g j (i : Int))) = upd (fun i : Nat => Int32.ofInt (w g j (i : Int))) k.toNat (Int32.ofInt v) := by
  funext i
  unfold mm_up upd
  by_cases h : i = k.toNat
  · rw [if_pos ⟨rfl, rfl, by omega⟩, if_pos h]
  · rw [if_neg (fun q => h (by omega)), if_neg h]
end
section
/-! ===== an instruction, a row ===== -/
section MMR
variable {K : mm_K} {n : Nat × Nat} {pc : Nat} {ls : List (Option mm_V)} {st : List mm_V} {b : mm_B} {w : mm_M} {Q : Option mm_V → mm_B → mm_M → Prop}
theorem mm_stL {v u : mm_V} {b : mm_B} {st : List mm_V} (h : ∀ x ∈ v :: st, mm_ok b x) (hu : mm_ok b u) : ∀ x ∈ u :: st, mm_ok b x := fun x hx => by
  rcases List.mem_cons.mp hx with rfl | hx
  · exact hu
  · exact h x (List.mem_cons_of_mem _ hx)
theorem mm_stC {u : mm_V} {b : mm_B} {st : List mm_V} (h : ∀ x ∈ st, mm_ok b x) (hu : mm_ok b u) : ∀ x ∈ u :: st, mm_ok b x := fun x hx => by
  rcases List.mem_cons.mp hx with rfl | hx
  · exact hu
  · exact h x hx
theorem mm_stT {u : mm_V} {b : mm_B} {st : List mm_V} (h : ∀ x ∈ u :: st, mm_ok b x) : ∀ x ∈ st, mm_ok b x := fun x hx => h x (List.mem_cons_of_mem _ hx)
theorem mm_stH {u : mm_V} {b : mm_B} {st : List mm_V} (h : ∀ x ∈ u :: st, mm_ok b x) : mm_ok b u := h u List.mem_cons_self
theorem k_iconst {i : Int} (hd : decode K.1.2.1 pc = .ok (.iconst i, 1)) (hi : mm_in i) (k : mm_Wk K n (pc + 1) ls (.inl i :: st) b w Q) : mm_Wk K n pc ls st b w Q := by
  intro p l e R s m args below meth c X α0 b0 A H locs cells slots α kls ⟨hC, hR, hA, hS, hO, hL, hst, hn⟩
  exact lv_iconst hC.1 hC.2.1 hd rfl (k p l e R s m args below meth c X α0 b0 A H locs cells slots α kls ⟨hC, hR, hA, hS, hO, hL, mm_stC hst hi, hn⟩)
theorem mm_b8 {i : Int} (h : -128 ≤ i ∧ i < 128) : (Int8.ofInt i).toInt32 = Int32.ofInt i := by
  apply Int32.toInt_inj.mp
  rw [mm_i1 ⟨by omega, by omega⟩, Int8.toInt_toInt32, Int8.toInt_ofInt_of_le (by omega) (by omega)]
theorem mm_b16 {i : Int} (h : -32768 ≤ i ∧ i < 32768) : (Int16.ofInt i).toInt32 = Int32.ofInt i := by
  apply Int32.toInt_inj.mp
  rw [mm_i1 ⟨by omega, by omega⟩, Int16.toInt_toInt32, Int16.toInt_ofInt_of_le (by omega) (by omega)]
theorem k_bipush {i : Int} (hd : decode K.1.2.1 pc = .ok (.bipush i, 2)) (hi : -128 ≤ i ∧ i < 128) (k : mm_Wk K n (pc + 2) ls (.inl i :: st) b w Q) : mm_Wk K n pc ls st b w Q := by
  intro p l e R s m args below meth c X α0 b0 A H locs cells slots α kls ⟨hC, hR, hA, hS, hO, hL, hst, hn⟩
  exact lv_bipush hC.1 hC.2.1 hd (mm_b8 hi) (k p l e R s m args below meth c X α0 b0 A H locs cells slots α kls ⟨hC, hR, hA, hS, hO, hL, mm_stC hst ⟨by omega, by omega⟩, hn⟩)
theorem k_sipush {i : Int} (hd : decode K.1.2.1 pc = .ok (.sipush i, 3)) (hi : -32768 ≤ i ∧ i < 32768) (k : mm_Wk K n (pc + 3) ls (.inl i :: st) b w Q) : mm_Wk K n pc ls st b w Q := by
  intro p l e R s m args below meth c X α0 b0 A H locs cells slots α kls ⟨hC, hR, hA, hS, hO, hL, hst, hn⟩
  exact lv_sipush hC.1 hC.2.1 hd (mm_b16 hi) (k p l e R s m args below meth c X α0 b0 A H locs cells slots α kls ⟨hC, hR, hA, hS, hO, hL, mm_stC hst ⟨by omega, by omega⟩, hn⟩)
theorem k_iload {i : Nat} {x : Int} (hd : decode K.1.2.1 pc = .ok (.iload i, 2)) (hl : mm_nth ls i = some (some (.inl x))) (k : mm_Wk K n (pc + 2) ls (.inl x :: st) b w Q) : mm_Wk K n pc ls st b w Q := by
  intro p l e R s m args below meth c X α0 b0 A H locs cells slots α kls ⟨hC, hR, hA, hS, hO, hL, hst, hn⟩
  obtain ⟨h1, h2⟩ := hL.2.2.2 i _ hl
  exact lv_iload hC.1 hC.2.1 hd h1 (k p l e R s m args below meth c X α0 b0 A H locs cells slots α kls ⟨hC, hR, hA, hS, hO, hL, mm_stC hst h2, hn⟩)
theorem k_iload_n {i : Fin 4} {x : Int} (hd : decode K.1.2.1 pc = .ok (.iload_n i, 1)) (hl : mm_nth ls i.val = some (some (.inl x))) (k : mm_Wk K n (pc + 1) ls (.inl x :: st) b w Q) : mm_Wk K n pc ls st b w Q := by
  intro p l e R s m args below meth c X α0 b0 A H locs cells slots α kls ⟨hC, hR, hA, hS, hO, hL, hst, hn⟩
  obtain ⟨h1, h2⟩ := hL.2.2.2 i.val _ hl
  exact lv_iload_n hC.1 hC.2.1 hd rfl h1 (k p l e R s m args below meth c X α0 b0 A H locs cells slots α kls ⟨hC, hR, hA, hS, hO, hL, mm_stC hst h2, hn⟩)
theorem k_aload {i : Nat} {x : Nat × Int} (hd : decode K.1.2.1 pc = .ok (.aload i, 2)) (hl : mm_nth ls i = some (some (.inr (some x)))) (k : mm_Wk K n (pc + 2) ls (.inr (some x) :: st) b w Q) : mm_Wk K n pc ls st b w Q := by
  intro p l e R s m args below meth c X α0 b0 A H locs cells slots α kls ⟨hC, hR, hA, hS, hO, hL, hst, hn⟩
  obtain ⟨h1, h2⟩ := hL.2.2.2 i _ hl
  exact lv_aload hC.1 hC.2.1 hd h1 (k p l e R s m args below meth c X α0 b0 A H locs cells slots α kls ⟨hC, hR, hA, hS, hO, hL, mm_stC hst h2, hn⟩)
theorem k_aload_n {i : Fin 4} {x : Nat × Int} (hd : decode K.1.2.1 pc = .ok (.aload_n i, 1)) (hl : mm_nth ls i.val = some (some (.inr (some x)))) (k : mm_Wk K n (pc + 1) ls (.inr (some x) :: st) b w Q) : mm_Wk K n pc ls st b w Q := by
  intro p l e R s m args below meth c X α0 b0 A H locs cells slots α kls ⟨hC, hR, hA, hS, hO, hL, hst, hn⟩
  obtain ⟨h1, h2⟩ := hL.2.2.2 i.val _ hl
  exact lv_aload_n hC.1 hC.2.1 hd rfl h1 (k p l e R s m args below meth c X α0 b0 A H locs cells slots α kls ⟨hC, hR, hA, hS, hO, hL, mm_stC hst h2, hn⟩)
/-- the list that the kit's rows of stores take -/
def mm_al (α : Nat → Int → Nat) (ls : List (Option mm_V)) : List (Nat × Value) := (List.range ls.length).filterMap fun i => match mm_nth ls i with
  | some (some v) => some (i, mm_v α v)
  | _ => none
theorem mm_nth_lt {α : Type} {l : List α} {i : Nat} {v : α} (h : mm_nth l i = some v) : i < l.length := by
  induction l generalizing i with
  | nil => cases h
  | cons a r ih =>
    cases i with
    | zero => exact Nat.zero_lt_succ _
    | succ i => exact Nat.succ_lt_succ (ih h)
theorem mm_nth_set {α : Type} {l : List α} {i j : Nat} {v : α} : mm_nth (mm_set l i v) j = if i = j ∧ i < l.length then some v else mm_nth l j := by
  induction l generalizing i j with
  | nil => simp [mm_set, mm_nth]
  | cons a r ih =>
    cases i with
    | zero =>
      cases j with
      | zero => simp [mm_set, mm_nth]
      | succ j => simp [mm_set, mm_nth]
    | succ i =>
      cases j with
      | zero => simp [mm_set, mm_nth]
      | succ j =>
        show mm_nth (mm_set r i v) j = _
        rw [ih]
        by_cases h : i = j ∧ i < r.length
        · rw [if_pos h, if_pos ⟨by omega, by simp; omega⟩]
        · rw [if_neg h, if_neg (fun q => h ⟨by omega, by have := q.2; simp at this; omega⟩)]
          rfl
theorem mm_set_length {α : Type} {l : List α} {i : Nat} {v : α} : (mm_set l i v).length = l.length := by
  induction l generalizing i with
  | nil => rfl
  | cons a r ih =>
    cases i with
    | zero => rfl
    | succ i => exact congrArg (· + 1) (ih (i := i))
theorem mm_al_has {α : Nat → Int → Nat} {kls : Array Slot} {nL : Nat} (h : mm_L b α ls kls nL) : lv_has kls nL (mm_al α ls) := by
  refine ⟨h.2.1, h.2.2.1, fun q hq => ?_⟩
  obtain ⟨i, hi, hv⟩ := List.mem_filterMap.mp hq
  cases hn : mm_nth ls i with
  | none => rw [hn] at hv; cases hv
  | some o =>
    cases o with
    | none => rw [hn] at hv; cases hv
    | some v =>
      rw [hn] at hv
      cases hv
      exact (h.2.2.2 i v hn).1
theorem mm_cat (α : Nat → Int → Nat) (v : mm_V) : (mm_v α v).category = 1 := by
  rcases v with x | r
  · rfl
  · cases r <;> rfl
theorem mm_L_set {α : Nat → Int → Nat} {kls kls' : Array Slot} {nL i : Nat} {v : mm_V} (h : mm_L b α ls kls nL) (hv : mm_ok b v) (h' : lv_has kls' nL ((i, mm_v α v) :: (mm_al α ls).filter (fun q => !(q.1 == i) && !(q.1 + 1 == i && q.2.category == 2)))) : mm_L b α (mm_set ls i (some v)) kls' nL := by
  refine ⟨by rw [mm_set_length]; exact h.1, h'.1, h'.2.1, fun j u hj => ?_⟩
  rw [mm_nth_set] at hj
  by_cases hc : i = j ∧ i < ls.length
  · rw [if_pos hc] at hj
    cases hj
    rw [← hc.1]
    exact ⟨h'.2.2 _ List.mem_cons_self, hv⟩
  · rw [if_neg hc] at hj
    have hlt : j < ls.length := mm_nth_lt hj
    refine ⟨h'.2.2 (j, mm_v α u) (List.mem_cons_of_mem _ (List.mem_filter.mpr ⟨List.mem_filterMap.mpr ⟨j, List.mem_range.mpr hlt, by rw [hj]⟩, ?_⟩)), (h.2.2.2 j u hj).2⟩
    have hne : (j == i) = false := by
      refine beq_eq_false_iff_ne.mpr fun e => hc ⟨e.symm, by omega⟩
    show (!(j == i) && !(j + 1 == i && (mm_v α u).category == 2)) = true
    rw [hne, mm_cat]
    simp
theorem k_istore {i : Nat} {x : Int} (hd : decode K.1.2.1 pc = .ok (.istore i, 2)) (hi : i < K.1.2.2.1) (k : mm_Wk K n (pc + 2) (mm_set ls i (some (.inl x))) st b w Q) : mm_Wk K n pc ls (.inl x :: st) b w Q := by
  intro p l e R s m args below meth c X α0 b0 A H locs cells slots α kls ⟨hC, hR, hA, hS, hO, hL, hst, hn⟩
  exact lv_istore hC.1 hC.2.1 hd (mm_al_has hL) hi rfl (fun kls' h' => k p l e R s m args below meth c X α0 b0 A H locs cells slots α kls' ⟨hC, hR, hA, hS, hO, mm_L_set hL (mm_stH hst) h', mm_stT hst, hn⟩)
theorem k_istore_n {i : Fin 4} {x : Int} (hd : decode K.1.2.1 pc = .ok (.istore_n i, 1)) (hi : i.val < K.1.2.2.1) (k : mm_Wk K n (pc + 1) (mm_set ls i.val (some (.inl x))) st b w Q) : mm_Wk K n pc ls (.inl x :: st) b w Q := by
  intro p l e R s m args below meth c X α0 b0 A H locs cells slots α kls ⟨hC, hR, hA, hS, hO, hL, hst, hn⟩
  exact lv_istore_n hC.1 hC.2.1 hd rfl (mm_al_has hL) hi rfl (fun kls' h' => k p l e R s m args below meth c X α0 b0 A H locs cells slots α kls' ⟨hC, hR, hA, hS, hO, mm_L_set hL (mm_stH hst) h', mm_stT hst, hn⟩)
theorem k_astore {i : Nat} {x : Nat × Int} (hd : decode K.1.2.1 pc = .ok (.astore i, 2)) (hi : i < K.1.2.2.1) (k : mm_Wk K n (pc + 2) (mm_set ls i (some (.inr (some x)))) st b w Q) : mm_Wk K n pc ls (.inr (some x) :: st) b w Q := by
  intro p l e R s m args below meth c X α0 b0 A H locs cells slots α kls ⟨hC, hR, hA, hS, hO, hL, hst, hn⟩
  exact lv_astore hC.1 hC.2.1 hd (mm_al_has hL) hi rfl (fun kls' h' => k p l e R s m args below meth c X α0 b0 A H locs cells slots α kls' ⟨hC, hR, hA, hS, hO, mm_L_set (v := .inr (some x)) hL (mm_stH hst) h', mm_stT hst, hn⟩)
theorem k_astore_n {i : Fin 4} {x : Nat × Int} (hd : decode K.1.2.1 pc = .ok (.astore_n i, 1)) (hi : i.val < K.1.2.2.1) (k : mm_Wk K n (pc + 1) (mm_set ls i.val (some (.inr (some x)))) st b w Q) : mm_Wk K n pc ls (.inr (some x) :: st) b w Q := by
  intro p l e R s m args below meth c X α0 b0 A H locs cells slots α kls ⟨hC, hR, hA, hS, hO, hL, hst, hn⟩
  exact lv_astore_n hC.1 hC.2.1 hd rfl (mm_al_has hL) hi rfl (fun kls' h' => k p l e R s m args below meth c X α0 b0 A H locs cells slots α kls' ⟨hC, hR, hA, hS, hO, mm_L_set (v := .inr (some x)) hL (mm_stH hst) h', mm_stT hst, hn⟩)
theorem k_iinc {i : Nat} {x z : Int} (hd : decode K.1.2.1 pc = .ok (.iinc i z, 3)) (hl : mm_nth ls i = some (some (.inl x))) (hz : mm_in (x + z)) (k : mm_Wk K n (pc + 3) (mm_set ls i (some (.inl (x + z)))) st b w Q) : mm_Wk K n pc ls st b w Q := by
  intro p l e R s m args below meth c X α0 b0 A H locs cells slots α kls ⟨hC, hR, hA, hS, hO, hL, hst, hn⟩
  have hlt : i < ls.length := mm_nth_lt hl
  have hm : (i, mm_v α (.inl x)) ∈ mm_al α ls := List.mem_filterMap.mpr ⟨i, List.mem_range.mpr hlt, by rw [hl]⟩
  obtain ⟨k0, hk0⟩ := List.mem_iff_getElem?.mp hm
  exact lv_iinc (v := Int32.ofInt (x + z)) hC.1 hC.2.1 hd (mm_al_has hL) hk0 (Int32.ofInt_add x z).symm (by rw [← hL.1]; exact hlt) rfl (fun kls' h' => k p l e R s m args below meth c X α0 b0 A H locs cells slots α kls' ⟨hC, hR, hA, hS, hO, mm_L_set (v := .inl (x + z)) hL hz h', hst, hn⟩)
end MMR
end
section
/-! ===== arithmetic, stack, fields, arrays ===== -/
section MMR2
variable {K : mm_K} {n : Nat × Nat} {pc : Nat} {ls : List (Option mm_V)} {st : List mm_V} {b : mm_B} {w : mm_M} {Q : Option mm_V → mm_B → mm_M → Prop}
theorem k_iadd {x y : Int} (hd : decode K.1.2.1 pc = .ok (.iadd, 1)) (hz : mm_in (x + y)) (k : mm_Wk K n (pc + 1) ls (.inl (x + y) :: st) b w Q) : mm_Wk K n pc ls (.inl y :: .inl x :: st) b w Q := by
  intro p l e R s m args below meth c X α0 b0 A H locs cells slots α kls ⟨hC, hR, hA, hS, hO, hL, hst, hn⟩
  refine lv_iadd hC.1 hC.2.1 hd ?_
  have k := k p l e R s m args below meth c X α0 b0 A H locs cells slots α kls ⟨hC, hR, hA, hS, hO, hL, mm_stC (mm_stT (mm_stT hst)) hz, hn⟩
  rw [← Int32.ofInt_add]
  exact k
theorem k_isub {x y : Int} (hd : decode K.1.2.1 pc = .ok (.isub, 1)) (hz : mm_in (x - y)) (k : mm_Wk K n (pc + 1) ls (.inl (x - y) :: st) b w Q) : mm_Wk K n pc ls (.inl y :: .inl x :: st) b w Q := by
  intro p l e R s m args below meth c X α0 b0 A H locs cells slots α kls ⟨hC, hR, hA, hS, hO, hL, hst, hn⟩
  refine lv_isub hC.1 hC.2.1 hd ?_
  have k := k p l e R s m args below meth c X α0 b0 A H locs cells slots α kls ⟨hC, hR, hA, hS, hO, hL, mm_stC (mm_stT (mm_stT hst)) hz, hn⟩
  rw [← Int32.ofInt_sub]
  exact k
theorem k_imul {x y : Int} (hd : decode K.1.2.1 pc = .ok (.imul, 1)) (hz : mm_in (x * y)) (k : mm_Wk K n (pc + 1) ls (.inl (x * y) :: st) b w Q) : mm_Wk K n pc ls (.inl y :: .inl x :: st) b w Q := by
  intro p l e R s m args below meth c X α0 b0 A H locs cells slots α kls ⟨hC, hR, hA, hS, hO, hL, hst, hn⟩
  refine lv_imul hC.1 hC.2.1 hd ?_
  have k := k p l e R s m args below meth c X α0 b0 A H locs cells slots α kls ⟨hC, hR, hA, hS, hO, hL, mm_stC (mm_stT (mm_stT hst)) hz, hn⟩
  rw [← Int32.ofInt_mul]
  exact k
theorem mm_nmin {y : Int} (h : mm_in y) (h0 : 0 < y) : ¬ Int32.ofInt y = 0 := fun q => by
  have := congrArg Int32.toInt q
  rw [mm_i1 h] at this
  have h00 : (0 : Int32).toInt = 0 := rfl
  omega
theorem mm_div {x y : Int} (hx : mm_in x) (hy : mm_in y) (h0 : 0 ≤ x) (h1 : 0 < y) : Int32.ofInt x / Int32.ofInt y = Int32.ofInt (x / y) := by
  have hq : x / y ≤ x := Int.ediv_le_self y h0
  have hq0 : 0 ≤ x / y := Int.ediv_nonneg h0 (by omega)
  apply Int32.toInt_inj.mp
  rw [Int32.toInt_div_of_ne_right _ _ (fun q => by have := congrArg Int32.toInt q; rw [mm_i1 hy] at this; have h00 : (-1 : Int32).toInt = -1 := rfl; omega), mm_i1 hx, mm_i1 hy, mm_i1 ⟨by omega, by omega⟩]
  exact Int.tdiv_eq_ediv_of_nonneg h0
theorem k_idiv {x y : Int} (hd : decode K.1.2.1 pc = .ok (.idiv, 1)) (hz : 0 ≤ x ∧ 0 < y) (k : mm_Wk K n (pc + 1) ls (.inl (x / y) :: st) b w Q) : mm_Wk K n pc ls (.inl y :: .inl x :: st) b w Q := by
  intro p l e R s m args below meth c X α0 b0 A H locs cells slots α kls ⟨hC, hR, hA, hS, hO, hL, hst, hn⟩
  have hy : mm_in y := mm_stH hst
  have hx : mm_in x := mm_stH (mm_stT hst)
  refine lv_idiv hC.1 hC.2.1 hd (mm_nmin hy hz.2) ?_
  have k := k p l e R s m args below meth c X α0 b0 A H locs cells slots α kls ⟨hC, hR, hA, hS, hO, hL, mm_stC (mm_stT (mm_stT hst)) ⟨by have := Int.ediv_nonneg hz.1 (Int.le_of_lt hz.2); omega, by have := Int.ediv_le_self y hz.1; have := hx.2; omega⟩, hn⟩
  rw [mm_div hx hy hz.1 hz.2]
  exact k
theorem k_irem {x y : Int} (hd : decode K.1.2.1 pc = .ok (.irem, 1)) (hz : 0 ≤ x ∧ 0 < y) (k : mm_Wk K n (pc + 1) ls (.inl (x % y) :: st) b w Q) : mm_Wk K n pc ls (.inl y :: .inl x :: st) b w Q := by
  intro p l e R s m args below meth c X α0 b0 A H locs cells slots α kls ⟨hC, hR, hA, hS, hO, hL, hst, hn⟩
  have hy : mm_in y := mm_stH hst
  have hx : mm_in x := mm_stH (mm_stT hst)
  refine lv_irem hC.1 hC.2.1 hd (mm_nmin hy hz.2) ?_
  have k := k p l e R s m args below meth c X α0 b0 A H locs cells slots α kls ⟨hC, hR, hA, hS, hO, hL, mm_stC (mm_stT (mm_stT hst)) ⟨by have := Int.emod_nonneg x (show y ≠ 0 by omega); omega, by have := Int.emod_lt_of_pos x hz.2; have := hy.2; omega⟩, hn⟩
  rw [mm_div hx hy hz.1 hz.2, ← Int32.ofInt_mul, ← Int32.ofInt_sub, show x - x / y * y = x % y by have := Int.emod_add_mul_ediv x y; rw [Int.mul_comm] at this; omega]
  exact k
theorem k_iand {x y : Int} (hd : decode K.1.2.1 pc = .ok (.iand, 1)) (k : mm_Wk K n (pc + 1) ls (.inl (mm_and x y) :: st) b w Q) : mm_Wk K n pc ls (.inl y :: .inl x :: st) b w Q := by
  intro p l e R s m args below meth c X α0 b0 A H locs cells slots α kls ⟨hC, hR, hA, hS, hO, hL, hst, hn⟩
  refine lv_iand hC.1 hC.2.1 hd ?_
  have k := k p l e R s m args below meth c X α0 b0 A H locs cells slots α kls ⟨hC, hR, hA, hS, hO, hL, mm_stC (mm_stT (mm_stT hst)) (mm_i2 _), hn⟩
  rw [← mm_i3 (Int32.ofInt x &&& Int32.ofInt y)]
  exact k
theorem k_ior {x y : Int} (hd : decode K.1.2.1 pc = .ok (.ior, 1)) (k : mm_Wk K n (pc + 1) ls (.inl (mm_or x y) :: st) b w Q) : mm_Wk K n pc ls (.inl y :: .inl x :: st) b w Q := by
  intro p l e R s m args below meth c X α0 b0 A H locs cells slots α kls ⟨hC, hR, hA, hS, hO, hL, hst, hn⟩
  refine lv_ior hC.1 hC.2.1 hd ?_
  have k := k p l e R s m args below meth c X α0 b0 A H locs cells slots α kls ⟨hC, hR, hA, hS, hO, hL, mm_stC (mm_stT (mm_stT hst)) (mm_i2 _), hn⟩
  rw [← mm_i3 (Int32.ofInt x ||| Int32.ofInt y)]
  exact k
theorem k_ixor {x y : Int} (hd : decode K.1.2.1 pc = .ok (.ixor, 1)) (k : mm_Wk K n (pc + 1) ls (.inl (mm_xor x y) :: st) b w Q) : mm_Wk K n pc ls (.inl y :: .inl x :: st) b w Q := by
  intro p l e R s m args below meth c X α0 b0 A H locs cells slots α kls ⟨hC, hR, hA, hS, hO, hL, hst, hn⟩
  refine lv_ixor hC.1 hC.2.1 hd ?_
  have k := k p l e R s m args below meth c X α0 b0 A H locs cells slots α kls ⟨hC, hR, hA, hS, hO, hL, mm_stC (mm_stT (mm_stT hst)) (mm_i2 _), hn⟩
  rw [← mm_i3 (Int32.ofInt x ^^^ Int32.ofInt y)]
  exact k
theorem k_ishl {x y : Int} (hd : decode K.1.2.1 pc = .ok (.ishl, 1)) (k : mm_Wk K n (pc + 1) ls (.inl (mm_shl x y) :: st) b w Q) : mm_Wk K n pc ls (.inl y :: .inl x :: st) b w Q := by
  intro p l e R s m args below meth c X α0 b0 A H locs cells slots α kls ⟨hC, hR, hA, hS, hO, hL, hst, hn⟩
  refine lv_ishl hC.1 hC.2.1 hd ?_
  have k := k p l e R s m args below meth c X α0 b0 A H locs cells slots α kls ⟨hC, hR, hA, hS, hO, hL, mm_stC (mm_stT (mm_stT hst)) (mm_i2 _), hn⟩
  rw [← mm_i3 (Int32.ofInt x <<< (Int32.ofInt y &&& 31))]
  exact k
theorem k_ishr {x y : Int} (hd : decode K.1.2.1 pc = .ok (.ishr, 1)) (k : mm_Wk K n (pc + 1) ls (.inl (mm_shr x y) :: st) b w Q) : mm_Wk K n pc ls (.inl y :: .inl x :: st) b w Q := by
  intro p l e R s m args below meth c X α0 b0 A H locs cells slots α kls ⟨hC, hR, hA, hS, hO, hL, hst, hn⟩
  refine lv_ishr hC.1 hC.2.1 hd ?_
  have k := k p l e R s m args below meth c X α0 b0 A H locs cells slots α kls ⟨hC, hR, hA, hS, hO, hL, mm_stC (mm_stT (mm_stT hst)) (mm_i2 _), hn⟩
  rw [← mm_i3 (Int32.ofInt x >>> (Int32.ofInt y &&& 31))]
  exact k
theorem k_ineg {x : Int} (hd : decode K.1.2.1 pc = .ok (.ineg, 1)) (hz : mm_in (-x)) (k : mm_Wk K n (pc + 1) ls (.inl (-x) :: st) b w Q) : mm_Wk K n pc ls (.inl x :: st) b w Q := by
  intro p l e R s m args below meth c X α0 b0 A H locs cells slots α kls ⟨hC, hR, hA, hS, hO, hL, hst, hn⟩
  refine lv_ineg hC.1 hC.2.1 hd ?_
  have k := k p l e R s m args below meth c X α0 b0 A H locs cells slots α kls ⟨hC, hR, hA, hS, hO, hL, mm_stC (mm_stT hst) hz, hn⟩
  rw [← Int32.ofInt_neg]
  exact k
theorem mm_i2c {x : Int} (h : 0 ≤ x ∧ x < 65536) : ((Int32.ofInt x).toUInt32 % 65536).toInt32 = Int32.ofInt x := by
  obtain ⟨k, rfl⟩ : ∃ k : Nat, x = k := ⟨x.toNat, by omega⟩
  have hk : k < 65536 := by omega
  apply Int32.toBitVec_inj.mp
  apply BitVec.eq_of_toNat_eq
  show (((Int32.ofInt (k : Int)).toUInt32 % 65536).toBitVec).toNat = (Int32.ofInt (k : Int)).toBitVec.toNat
  have e : (Int32.ofInt (k : Int)).toBitVec.toNat = k := by
    show (BitVec.ofInt 32 (k : Int)).toNat = k
    rw [BitVec.toNat_ofInt]
    omega
  have e2 : ((Int32.ofInt (k : Int)).toUInt32 % 65536).toNat = k := by
    rw [UInt32.toNat_mod]
    show (Int32.ofInt (k : Int)).toBitVec.toNat % 65536 = k
    rw [e]
    omega
  rw [e]
  exact e2
theorem k_i2c {x : Int} (hd : decode K.1.2.1 pc = .ok (.i2c, 1)) (hz : 0 ≤ x ∧ x < 65536) (k : mm_Wk K n (pc + 1) ls (.inl x :: st) b w Q) : mm_Wk K n pc ls (.inl x :: st) b w Q := by
  intro p l e R s m args below meth c X α0 b0 A H locs cells slots α kls ⟨hC, hR, hA, hS, hO, hL, hst, hn⟩
  exact lv_i2c hC.1 hC.2.1 hd (mm_i2c hz) (k p l e R s m args below meth c X α0 b0 A H locs cells slots α kls ⟨hC, hR, hA, hS, hO, hL, hst, hn⟩)
theorem k_dup {v : mm_V} (hd : decode K.1.2.1 pc = .ok (.dup, 1)) (k : mm_Wk K n (pc + 1) ls (v :: v :: st) b w Q) : mm_Wk K n pc ls (v :: st) b w Q := by
  intro p l e R s m args below meth c X α0 b0 A H locs cells slots α kls ⟨hC, hR, hA, hS, hO, hL, hst, hn⟩
  exact lv_dup hC.1 hC.2.1 hd (mm_cat α v) (k p l e R s m args below meth c X α0 b0 A H locs cells slots α kls ⟨hC, hR, hA, hS, hO, hL, mm_stC hst (mm_stH hst), hn⟩)
theorem k_pop {v : mm_V} (hd : decode K.1.2.1 pc = .ok (.pop, 1)) (k : mm_Wk K n (pc + 1) ls st b w Q) : mm_Wk K n pc ls (v :: st) b w Q := by
  intro p l e R s m args below meth c X α0 b0 A H locs cells slots α kls ⟨hC, hR, hA, hS, hO, hL, hst, hn⟩
  exact lv_pop hC.1 hC.2.1 hd (mm_cat α v) (k p l e R s m args below meth c X α0 b0 A H locs cells slots α kls ⟨hC, hR, hA, hS, hO, hL, mm_stT hst, hn⟩)
theorem mm_nth_mem {α : Type} {l : List α} {i : Nat} {v : α} (h : mm_nth l i = some v) : v ∈ l := by
  induction l generalizing i with
  | nil => cases h
  | cons a r ih =>
    cases i with
    | zero => cases h; exact List.mem_cons_self
    | succ i => exact List.mem_cons_of_mem _ (ih h)
theorem mm_glc : ∀ q ∈ mm_gl, q.1 = 0 → (vwCl[q.2.1]?).map (fun r => r.2.2) = some q.2.2 := by decide +kernel
theorem mm_glN {g c0 N N' : Nat} {C : String} {T : u_T} (hg : mm_gk g = (0, c0, N)) (h : vwCl[c0]? = some (C, T, N')) : N' = N := by
  have hm : (0, c0, N) ∈ mm_gl := by
    unfold mm_gk at hg
    cases hq : mm_nth mm_gl g with
    | none => rw [hq] at hg; cases hg
    | some q =>
      rw [hq] at hg
      have : q = (0, c0, N) := hg
      rw [← this]
      exact mm_nth_mem hq
  have := mm_glc _ hm rfl
  dsimp only at this
  rw [h] at this
  exact Option.some.inj this
theorem k_getI {i : Nat} {g : Nat} {j : Int} {c0 N k0 t : Nat} {ki : Int} (hf : mm_fok K.1.2.2.2.2 (i, c0, k0, t, ki)) (hg : mm_gk g = (0, c0, N)) (hd : decode K.1.2.1 pc = .ok (.getfield i, 3)) {v : mm_V} (hv : v = if Nat.beq t 2 = true then .inr (b.1 g k0) else .inl (w g 0 ki)) (k : mm_Wk K n (pc + 3) ls (v :: st) b w Q) : mm_Wk K n pc ls (.inr (some (g, j)) :: st) b w Q := by
  intro p l e R s m args below meth c X α0 b0 A H locs cells slots α kls ⟨hC, hR, hA, hS, hO, hL, hst, hn⟩
  obtain ⟨C, T, N', ty, h1, h2, h3, h4, h5, h6, h7, h8, hki, -, -⟩ := hf
  have hki : (k0 : Int) = ki := hki
  subst hki
  dsimp only at h1 h5 h6 h7 h8
  have hok := mm_stH hst
  obtain ⟨q0, hk0, hw0⟩ := mm_pos (X := X) (α := α) (w := w) (mm_key hok)
  rw [mm_ce_obj hg] at hw0
  obtain ⟨r, hr1, cell, g1, g2, g3, g4⟩ := hR.1 q0 _ hw0
  have hr : r = (C, T, N') := by rw [h1] at hr1; exact (Option.some.inj hr1).symm
  subst hr
  have hfv : mm_v α v = mm_fv α b w g k0 := by
    unfold mm_fv
    rw [hg, h8, hv]
    split <;> rfl
  have hNN : k0 < N := by rw [← mm_glN hg h1]; exact h5
  have he : ((List.range N).map (mm_fv α b w g))[k0]? = some (mm_v α v) := by
    rw [List.getElem?_map, List.getElem?_range hNN, hfv]
    rfl
  refine va_get hC.1 hC.2.1 hC.2.2.2.2.2.2.1 h2 hC.2.2.2.2.2.1 hC.2.2.2.2.2.2.2.1 hR.1 q0 hw0 h1 k0 h5 (hC.2.2.2.2.2.2.1 _ h6) (fun x hx => by rw [← h7]; exact hx) he hd ?_
  refine k p l e R s m args below meth c X α0 b0 A H locs cells slots α kls ⟨hC, hR, hA, hS, hO, hL, mm_stC (mm_stT hst) ?_, hn⟩
  rw [hv]
  split
  · cases hb : b.1 g k0 with
    | none => trivial
    | some q => exact hR.2.2.2.1 g hok.1 k0 q hb
  · exact hR.2.2.1 g 0 k0
theorem k_dup2 {v u : mm_V} (hd : decode K.1.2.1 pc = .ok (.dup2, 1)) (k : mm_Wk K n (pc + 1) ls (v :: u :: v :: u :: st) b w Q) : mm_Wk K n pc ls (v :: u :: st) b w Q := by
  intro p l e R s m args below meth c X α0 b0 A H locs cells slots α kls ⟨hC, hR, hA, hS, hO, hL, hst, hn⟩
  exact lv_dup2_11 hC.1 hC.2.1 hd (mm_cat α v) (mm_cat α u) (k p l e R s m args below meth c X α0 b0 A H locs cells slots α kls ⟨hC, hR, hA, hS, hO, hL, mm_stC (mm_stC hst (mm_stH (mm_stT hst))) (mm_stH hst), hn⟩)
theorem mm_nar1 {x : Int} (h : 0 ≤ x ∧ x ≤ 1) : narrow .boolean (.int (Int32.ofInt x)) = .int (Int32.ofInt x) := by
  obtain rfl | rfl : x = 0 ∨ x = 1 := by omega
  · rfl
  · rfl
theorem mm_fit1 {x : Int} (h : 0 ≤ x ∧ x ≤ 1) : fits .boolean (.int (Int32.ofInt x)) = true := by
  obtain rfl | rfl : x = 0 ∨ x = 1 := by omega
  · rfl
  · rfl
theorem k_putI {i : Nat} {g : Nat} {j x : Int} {c0 N k0 t : Nat} {ki : Int} (hf : mm_fok K.1.2.2.2.2 (i, c0, k0, t, ki)) (hg : mm_gk g = (0, c0, N)) (ht : t = 0 ∨ (t = 1 ∧ 0 ≤ x ∧ x ≤ 1)) (hd : decode K.1.2.1 pc = .ok (.putfield i, 3)) (k : mm_Wk K n (pc + 3) ls st b (mm_up w g 0 ki x) Q) : mm_Wk K n pc ls (.inl x :: .inr (some (g, j)) :: st) b w Q := by
  intro p l e R s m args below meth c X α0 b0 A H locs cells slots α kls ⟨hC, hR, hA, hS, hO, hL, hst, hn⟩
  obtain ⟨C, T, N', ty, h1, h2, h3, h4, h5, h6, h7, h8, hki, h9, h10⟩ := hf
  have hki : (k0 : Int) = ki := hki
  subst hki
  dsimp only at h1 h5 h6 h7 h8 h9 h10
  have hx : mm_in x := mm_stH hst
  have hok := mm_stH (mm_stT hst)
  have hj : j = 0 := by
    have h1 := mm_keyR (mm_key hok)
    rw [mm_nr_obj hg] at h1
    omega
  subst hj
  obtain ⟨q0, hk0, hw0⟩ := mm_pos (X := X) (α := α) (w := w) (mm_key hok)
  rw [mm_ce_obj hg] at hw0
  have hNN : k0 < N := by rw [← mm_glN hg h1]; exact h5
  have hty : parseFieldDescriptor (T k0).2.2.1 = some (ty k0) := h3 k0 h5
  have hfin : (T k0).2.2.2 = false := by
    rcases ht with ht | ht
    · exact (h9 ht).2
    · exact (h10 ht.1).2
  have hfit : narrow (ty k0) (.int (Int32.ofInt x)) = .int (Int32.ofInt x) ∧ fits (ty k0) (.int (Int32.ofInt x)) = true := by
    rcases ht with ht | ht
    · rw [(h9 ht).1]; exact ⟨rfl, rfl⟩
    · rw [(h10 ht.1).1]; exact ⟨mm_nar1 ht.2, mm_fit1 ht.2⟩
  refine va_put hC.1 hC.2.1 hC.2.2.2.2.2.2.1 h2 ty h3 h4 hC.2.2.2.2.2.1 hC.2.2.2.2.2.2.2.1 hR.1 hR.2.1 hS q0 hw0 h1 k0 h5 (hC.2.2.2.2.2.2.1 _ h6) (fun x hx => by rw [← h7]; exact hx) hfin hty hfit.1 hfit.2 (by simp; exact hNN) hd (fun H1 locs1 hP hD hS => ?_)
  have hset : (mm_wl X α b w).set q0 (α g 0, .inr (c0, ((List.range N).map (mm_fv α b w g)).set k0 (.int (Int32.ofInt x)))) = mm_wl X α b (mm_up w g 0 k0 x) := by
    refine mm_wl_set hR.2.1 hk0 ?_ (fun q hq hne => mm_ce_up hq (mm_key hok) hne)
    rw [mm_ce_obj hg]
    refine congrArg _ (congrArg _ (List.ext_getElem? fun z => ?_))
    by_cases hz : k0 = z
    · subst hz
      rw [List.getElem?_set_self (by simp; exact hNN), List.getElem?_map, List.getElem?_range hNN]
      show _ = some (mm_fv α b (mm_up w g 0 k0 x) g k0)
      unfold mm_fv
      rw [hg, h8]
      have ht2 : Nat.beq t 2 = false := by
        rcases ht with rfl | ⟨rfl, -⟩ <;> rfl
      rw [ht2, if_neg (by decide)]
      unfold mm_up
      rw [if_pos ⟨rfl, rfl, rfl⟩]
    · rw [List.getElem?_set_ne hz, List.getElem?_map, List.getElem?_map]
      cases hr : (List.range N)[z]? with
      | none => rfl
      | some y =>
        have hy : y = z := by
          have := List.getElem?_eq_some_iff.mp hr
          obtain ⟨h, h'⟩ := this
          simp at h'
          exact h'.symm
        subst hy
        show some (mm_fv α b w g y) = some (mm_fv α b (mm_up w g 0 k0 x) g y)
        unfold mm_fv mm_up
        rw [if_neg (show ¬ (g = g ∧ (0 : Int) = 0 ∧ (y : Int) = (k0 : Int)) from fun q => hz (by have := q.2.2; omega))]
  have hP : va_P X.1 vwCl ((mm_wl X α b w).set q0 (α g 0, .inr (c0, ((List.range N).map (mm_fv α b w g)).set k0 (.int (Int32.ofInt x))))) H1 := hP
  have hD : va_D A ((mm_wl X α b w).set q0 (α g 0, .inr (c0, ((List.range N).map (mm_fv α b w g)).set k0 (.int (Int32.ofInt x))))) := hD
  rw [hset] at hP hD
  exact k p l e R s m args below meth c X α0 b0 A H1 locs1 cells slots α kls ⟨hC, ⟨hP, hD, mm_rg_up hR.2.2.1 hx, hR.2.2.2⟩, hA, hS, hO, hL, mm_stT (mm_stT hst), hn⟩
theorem mm_tys {X : mm_X} {k : Nat} (hk : k = 1 ∨ k = 2 ∨ k = 3) : ∃ t0 : Nat, (mm_ty X)[t0]? = some (mm_cA X k, mm_fT k) := by
  rcases hk with rfl | rfl | rfl
  · exact ⟨0, rfl⟩
  · exact ⟨1, rfl⟩
  · exact ⟨2, rfl⟩
theorem k_iaload {g : Nat} {j i : Int} {N r : Nat} (hg : mm_gk g = (1, N, r)) (hi : 0 ≤ i ∧ i < N) (hd : decode K.1.2.1 pc = .ok (.iaload, 1)) (k : mm_Wk K n (pc + 1) ls (.inl (w g j i) :: st) b w Q) : mm_Wk K n pc ls (.inl i :: .inr (some (g, j)) :: st) b w Q := by
  intro p l e R s m args below meth c X α0 b0 A H locs cells slots α kls ⟨hC, hR, hA, hS, hO, hL, hst, hn⟩
  have hx : mm_in i := mm_stH hst
  have hok := mm_stH (mm_stT hst)
  obtain ⟨q0, hk0, hw0⟩ := mm_pos (X := X) (α := α) (w := w) (mm_key hok)
  rw [mm_ce_arr hg (by decide)] at hw0
  obtain ⟨t0, ht0⟩ := mm_tys (X := X) (k := 1) (by decide)
  obtain ⟨h1, h2⟩ := mm_i4 hx hi.1 hi.2
  refine va_iald hC.1 hC.2.1 hC.2.2.2.2.2.2.2.1 hR.1 q0 t0 hw0 ht0 h1 hd ?_
  have k := k p l e R s m args below meth c X α0 b0 A H locs cells slots α kls ⟨hC, hR, hA, hS, hO, hL, mm_stC (mm_stT (mm_stT hst)) (hR.2.2.1 g j i), hn⟩
  rw [h2]
  exact k
theorem k_baload {g : Nat} {j i : Int} {N r : Nat} (hg : mm_gk g = (2, N, r)) (hi : 0 ≤ i ∧ i < N) (hd : decode K.1.2.1 pc = .ok (.baload, 1)) (k : mm_Wk K n (pc + 1) ls (.inl (w g j i) :: st) b w Q) : mm_Wk K n pc ls (.inl i :: .inr (some (g, j)) :: st) b w Q := by
  intro p l e R s m args below meth c X α0 b0 A H locs cells slots α kls ⟨hC, hR, hA, hS, hO, hL, hst, hn⟩
  have hx : mm_in i := mm_stH hst
  have hok := mm_stH (mm_stT hst)
  obtain ⟨q0, hk0, hw0⟩ := mm_pos (X := X) (α := α) (w := w) (mm_key hok)
  rw [mm_ce_arr hg (by decide)] at hw0
  obtain ⟨t0, ht0⟩ := mm_tys (X := X) (k := 2) (by decide)
  obtain ⟨h1, h2⟩ := mm_i4 hx hi.1 hi.2
  refine va_zald hC.1 hC.2.1 hC.2.2.2.2.2.2.2.1 hR.1 q0 t0 hw0 ht0 h1 hd ?_
  have k := k p l e R s m args below meth c X α0 b0 A H locs cells slots α kls ⟨hC, hR, hA, hS, hO, hL, mm_stC (mm_stT (mm_stT hst)) (hR.2.2.1 g j i), hn⟩
  rw [h2]
  exact k
theorem k_caload {g : Nat} {j i : Int} {N r : Nat} (hg : mm_gk g = (3, N, r)) (hi : 0 ≤ i ∧ i < N) (hd : decode K.1.2.1 pc = .ok (.caload, 1)) (k : mm_Wk K n (pc + 1) ls (.inl (w g j i) :: st) b w Q) : mm_Wk K n pc ls (.inl i :: .inr (some (g, j)) :: st) b w Q := by
  intro p l e R s m args below meth c X α0 b0 A H locs cells slots α kls ⟨hC, hR, hA, hS, hO, hL, hst, hn⟩
  have hx : mm_in i := mm_stH hst
  have hok := mm_stH (mm_stT hst)
  obtain ⟨q0, hk0, hw0⟩ := mm_pos (X := X) (α := α) (w := w) (mm_key hok)
  rw [mm_ce_arr hg (by decide)] at hw0
  obtain ⟨t0, ht0⟩ := mm_tys (X := X) (k := 3) (by decide)
  obtain ⟨h1, h2⟩ := mm_i4 hx hi.1 hi.2
  refine va_cald hC.1 hC.2.1 hC.2.2.2.2.2.2.2.1 hR.1 q0 t0 hw0 ht0 h1 hd ?_
  have k := k p l e R s m args below meth c X α0 b0 A H locs cells slots α kls ⟨hC, hR, hA, hS, hO, hL, mm_stC (mm_stT (mm_stT hst)) (hR.2.2.1 g j i), hn⟩
  rw [h2]
  exact k
theorem k_iastore {g : Nat} {j i x : Int} {N r : Nat} (hg : mm_gk g = (1, N, r)) (hi : 0 ≤ i ∧ i < N) (hd : decode K.1.2.1 pc = .ok (.iastore, 1)) (k : mm_Wk K n (pc + 1) ls st b (mm_up w g j i x) Q) : mm_Wk K n pc ls (.inl x :: .inl i :: .inr (some (g, j)) :: st) b w Q := by
  intro p l e R s m args below meth c X α0 b0 A H locs cells slots α kls ⟨hC, hR, hA, hS, hO, hL, hst, hn⟩
  have hx : mm_in x := mm_stH hst
  have hii : mm_in i := mm_stH (mm_stT hst)
  have hok := mm_stH (mm_stT (mm_stT hst))
  obtain ⟨q0, hk0, hw0⟩ := mm_pos (X := X) (α := α) (w := w) (mm_key hok)
  rw [mm_ce_arr hg (by decide)] at hw0
  obtain ⟨t0, ht0⟩ := mm_tys (X := X) (k := 1) (by decide)
  obtain ⟨h1, h2⟩ := mm_i4 hii hi.1 hi.2
  refine va_iast hC.1 hC.2.1 hC.2.2.2.2.2.2.2.1 hR.1 hR.2.1 hS q0 t0 hw0 ht0 h1 hd (fun H1 locs1 hP hD hS => ?_)
  rw [show (Int32.ofInt i).toNatClampNeg = i.toNat by omega, ← mm_up_arr hi.1] at hP hD
  have hset := mm_wl_set (w' := mm_up w g j i x) hR.2.1 hk0 (mm_ce_arr hg (by decide)).symm (fun q hq hne => mm_ce_up hq (mm_key hok) hne)
  rw [hset] at hP hD
  exact k p l e R s m args below meth c X α0 b0 A H1 locs1 cells slots α kls ⟨hC, ⟨hP, hD, mm_rg_up hR.2.2.1 hx, hR.2.2.2⟩, hA, hS, hO, hL, mm_stT (mm_stT (mm_stT hst)), hn⟩
theorem k_bastore {g : Nat} {j i x : Int} {N r : Nat} (hg : mm_gk g = (2, N, r)) (hi : 0 ≤ i ∧ i < N) (hx1 : 0 ≤ x ∧ x ≤ 1) (hd : decode K.1.2.1 pc = .ok (.bastore, 1)) (k : mm_Wk K n (pc + 1) ls st b (mm_up w g j i x) Q) : mm_Wk K n pc ls (.inl x :: .inl i :: .inr (some (g, j)) :: st) b w Q := by
  intro p l e R s m args below meth c X α0 b0 A H locs cells slots α kls ⟨hC, hR, hA, hS, hO, hL, hst, hn⟩
  have hx : mm_in x := mm_stH hst
  have hii : mm_in i := mm_stH (mm_stT hst)
  have hok := mm_stH (mm_stT (mm_stT hst))
  obtain ⟨q0, hk0, hw0⟩ := mm_pos (X := X) (α := α) (w := w) (mm_key hok)
  rw [mm_ce_arr hg (by decide)] at hw0
  obtain ⟨t0, ht0⟩ := mm_tys (X := X) (k := 2) (by decide)
  obtain ⟨h1, h2⟩ := mm_i4 hii hi.1 hi.2
  refine va_zast hC.1 hC.2.1 hC.2.2.2.2.2.2.2.1 hR.1 hR.2.1 hS q0 t0 hw0 ht0 h1 hd (fun H1 locs1 hP hD hS => ?_)
  have hnar : vp_nar .boolean (Int32.ofInt x) = Int32.ofInt x := by
    unfold vp_nar
    rw [mm_nar1 hx1]
  rw [hnar] at hP hD
  rw [show (Int32.ofInt i).toNatClampNeg = i.toNat by omega, ← mm_up_arr hi.1] at hP hD
  have hset := mm_wl_set (w' := mm_up w g j i x) hR.2.1 hk0 (mm_ce_arr hg (by decide)).symm (fun q hq hne => mm_ce_up hq (mm_key hok) hne)
  rw [hset] at hP hD
  exact k p l e R s m args below meth c X α0 b0 A H1 locs1 cells slots α kls ⟨hC, ⟨hP, hD, mm_rg_up hR.2.2.1 hx, hR.2.2.2⟩, hA, hS, hO, hL, mm_stT (mm_stT (mm_stT hst)), hn⟩
theorem k_castore {g : Nat} {j i x : Int} {N r : Nat} (hg : mm_gk g = (3, N, r)) (hi : 0 ≤ i ∧ i < N) (hx1 : 0 ≤ x ∧ x < 65536) (hd : decode K.1.2.1 pc = .ok (.castore, 1)) (k : mm_Wk K n (pc + 1) ls st b (mm_up w g j i x) Q) : mm_Wk K n pc ls (.inl x :: .inl i :: .inr (some (g, j)) :: st) b w Q := by
  intro p l e R s m args below meth c X α0 b0 A H locs cells slots α kls ⟨hC, hR, hA, hS, hO, hL, hst, hn⟩
  have hx : mm_in x := mm_stH hst
  have hii : mm_in i := mm_stH (mm_stT hst)
  have hok := mm_stH (mm_stT (mm_stT hst))
  obtain ⟨q0, hk0, hw0⟩ := mm_pos (X := X) (α := α) (w := w) (mm_key hok)
  rw [mm_ce_arr hg (by decide)] at hw0
  obtain ⟨t0, ht0⟩ := mm_tys (X := X) (k := 3) (by decide)
  obtain ⟨h1, h2⟩ := mm_i4 hii hi.1 hi.2
  refine va_cast hC.1 hC.2.1 hC.2.2.2.2.2.2.2.1 hR.1 hR.2.1 hS q0 t0 hw0 ht0 h1 hd (fun H1 locs1 hP hD hS => ?_)
  have hnar : vp_nar .char (Int32.ofInt x) = Int32.ofInt x := by
    unfold vp_nar
    show ((Int32.ofInt x).toUInt32 % 65536).toInt32 = Int32.ofInt x
    exact mm_i2c hx1
  rw [hnar] at hP hD
  rw [show (Int32.ofInt i).toNatClampNeg = i.toNat by omega, ← mm_up_arr hi.1] at hP hD
  have hset := mm_wl_set (w' := mm_up w g j i x) hR.2.1 hk0 (mm_ce_arr hg (by decide)).symm (fun q hq hne => mm_ce_up hq (mm_key hok) hne)
  rw [hset] at hP hD
  exact k p l e R s m args below meth c X α0 b0 A H1 locs1 cells slots α kls ⟨hC, ⟨hP, hD, mm_rg_up hR.2.2.1 hx, hR.2.2.2⟩, hA, hS, hO, hL, mm_stT (mm_stT (mm_stT hst)), hn⟩
theorem k_aaload {g : Nat} {j i : Int} {N r : Nat} (hg : mm_gk g = (4, N, r)) (hi : 0 ≤ i ∧ i < N) (hd : decode K.1.2.1 pc = .ok (.aaload, 1)) (k : mm_Wk K n (pc + 1) ls (.inr (some (r, i)) :: st) b w Q) : mm_Wk K n pc ls (.inl i :: .inr (some (g, j)) :: st) b w Q := by
  intro p l e R s m args below meth c X α0 b0 A H locs cells slots α kls ⟨hC, hR, hA, hS, hO, hL, hst, hn⟩
  have hx : mm_in i := mm_stH hst
  have hok := mm_stH (mm_stT hst)
  obtain ⟨q0, hk0, hw0⟩ := mm_pos (X := X) (α := α) (w := w) (mm_key hok)
  rw [mm_ce_out hg] at hw0
  obtain ⟨h1, h2⟩ := mm_i4 hx hi.1 hi.2
  have hph := hR.2.2.2.2 g hok.1 (by rw [hg])
  rw [hg] at hph
  have hlt : (Int32.ofInt i).toNatClampNeg < N := by omega
  have hnew : mm_ok b (.inr (some (r, i))) := ⟨hph.1, hi.1, by show i < mm_nr r; rw [hph.2]; exact hi.2⟩
  refine W.aald hC.1 hC.2.1 (hR.1 q0 _ hw0) ((hC.2.2.2.2.2.2.2.1.2 3 (X.2.2.2.2, .array .int) rfl).1 N _) rfl (fun q => by cases q) (by show ¬ (_ ∨ (arrV _ _ _).slots.size ≤ _); rw [arrV_size]; exact h1) (v := .ref (α r i)) (by
      show (arrV _ _ _).slots[_]? = _
      rw [arrV_read _ _ hlt]
      show some (va_rf (if (Int32.ofInt i).toNatClampNeg < N then some (α r (((Int32.ofInt i).toNatClampNeg : Nat) : Int)) else none)) = _
      rw [if_pos hlt, h2]
      rfl) rfl rfl hd ?_
  exact k p l e R s m args below meth c X α0 b0 A H locs cells slots α kls ⟨hC, hR, hA, hS, hO, hL, mm_stC (mm_stT (mm_stT hst)) hnew, hn⟩
theorem k_arraylength {g : Nat} {j : Int} {N r : Nat} (hg : mm_gk g = (1, N, r)) (hN : N < 2147483648) (hd : decode K.1.2.1 pc = .ok (.arraylength, 1)) (k : mm_Wk K n (pc + 1) ls (.inl (N : Int) :: st) b w Q) : mm_Wk K n pc ls (.inr (some (g, j)) :: st) b w Q := by
  intro p l e R s m args below meth c X α0 b0 A H locs cells slots α kls ⟨hC, hR, hA, hS, hO, hL, hst, hn⟩
  have hok := mm_stH hst
  obtain ⟨q0, hk0, hw0⟩ := mm_pos (X := X) (α := α) (w := w) (mm_key hok)
  rw [mm_ce_arr hg (by decide)] at hw0
  obtain ⟨t0, ht0⟩ := mm_tys (X := X) (k := 1) (by decide)
  exact va_alen hC.1 hC.2.1 hC.2.2.2.2.2.2.2.1 hR.1 q0 t0 hw0 ht0 (v := Int32.ofInt (N : Int)) rfl hd (k p l e R s m args below meth c X α0 b0 A H locs cells slots α kls ⟨hC, hR, hA, hS, hO, hL, mm_stC (mm_stT hst) ⟨by omega, by omega⟩, hn⟩)
end MMR2
end
section
/-! ===== many instructions at once ===== -/
section MMR3
variable {K : mm_K} {n : Nat × Nat} {pc : Nat} {ls : List (Option mm_V)} {st : List mm_V} {b : mm_B} {w : mm_M} {Q : Option mm_V → mm_B → mm_M → Prop}
theorem mm_lnk_mem {fl : List mm_F} {i : Nat} {q : mm_F} (h : mm_lnk fl i = some q) : q ∈ fl ∧ q.1 = i := by
  induction fl with
  | nil => cases h
  | cons a r ih =>
    unfold mm_lnk at h
    split at h
    · rename_i hb
      cases h
      exact ⟨List.mem_cons_self, Nat.eq_of_beq_eq_true hb⟩
    · exact ⟨List.mem_cons_of_mem _ (ih h).1, (ih h).2⟩
theorem mm_beq {x y : Nat} (h : Nat.beq x y = true) : x = y := Nat.eq_of_beq_eq_true h
set_option maxHeartbeats 4000000 in
theorem mm_sf {i : Instr} {pc' : Nat} {a a' : Prop} {ls' : List (Option mm_V)} {st' : List mm_V} {w' : mm_M} (hd : decode K.1.2.1 pc = .ok (i, pc' - pc)) (hs : mm_small K.1.2.2.1 pc i = true) (hl : mm_il i = 0 ∨ pc' = pc + mm_il i) (hfl : ∀ q ∈ K.2.2.2.2.1, mm_fok K.1.2.2.2.2 q)
    (h : mm_st K.2.2.2.2.1 i ls st b w a = some (ls', st', w', a')) (ha : a') : a ∧ (mm_Wk K n pc' ls' st' b w' Q → mm_Wk K n pc ls st b w Q) := by
  have hlen : mm_il i ≠ 0 → pc' = pc + mm_il i := fun q => hl.resolve_left q
  have hdd : mm_il i ≠ 0 → decode K.1.2.1 pc = .ok (i, mm_il i) := fun q => by
    have := hlen q
    rw [hd, show pc' - pc = mm_il i by omega]
  unfold mm_st at h
  split at h
  · cases h; rw [hlen (Nat.succ_ne_zero _)]; exact ⟨ha, k_iconst (hdd (Nat.succ_ne_zero _)) (by have := of_decide_eq_true hs; exact ⟨by omega, by omega⟩)⟩
  · cases h; rw [hlen (Nat.succ_ne_zero _)]; exact ⟨ha, k_bipush (hdd (Nat.succ_ne_zero _)) (of_decide_eq_true hs)⟩
  · cases h; rw [hlen (Nat.succ_ne_zero _)]; exact ⟨ha, k_sipush (hdd (Nat.succ_ne_zero _)) (of_decide_eq_true hs)⟩
  · unfold mm_ldv at h
    split at h
    · split at h
      · rename_i h0 _; cases h0
      · cases h; rw [hlen (Nat.succ_ne_zero _)]; exact ⟨ha, k_iload (hdd (Nat.succ_ne_zero _)) (by assumption)⟩
      · cases h
    · cases h
  · unfold mm_ldv at h
    split at h
    · split at h
      · rename_i h0 _; cases h0
      · cases h; rw [hlen (Nat.succ_ne_zero _)]; exact ⟨ha, k_iload_n (hdd (Nat.succ_ne_zero _)) (by assumption)⟩
      · cases h
    · cases h
  · unfold mm_ldv at h
    split at h
    · split at h
      · cases h; rw [hlen (Nat.succ_ne_zero _)]; exact ⟨ha, k_aload (hdd (Nat.succ_ne_zero _)) (by assumption)⟩
      · rename_i h0 _; cases h0
      · cases h
    · cases h
  · unfold mm_ldv at h
    split at h
    · split at h
      · cases h; rw [hlen (Nat.succ_ne_zero _)]; exact ⟨ha, k_aload_n (hdd (Nat.succ_ne_zero _)) (by assumption)⟩
      · rename_i h0 _; cases h0
      · cases h
    · cases h
  · cases h; rw [hlen (Nat.succ_ne_zero _)]; exact ⟨ha, k_istore (hdd (Nat.succ_ne_zero _)) (of_decide_eq_true hs)⟩
  · cases h; rw [hlen (Nat.succ_ne_zero _)]; exact ⟨ha, k_istore_n (hdd (Nat.succ_ne_zero _)) (of_decide_eq_true hs)⟩
  · cases h; rw [hlen (Nat.succ_ne_zero _)]; exact ⟨ha, k_astore (hdd (Nat.succ_ne_zero _)) (of_decide_eq_true hs)⟩
  · cases h; rw [hlen (Nat.succ_ne_zero _)]; exact ⟨ha, k_astore_n (hdd (Nat.succ_ne_zero _)) (of_decide_eq_true hs)⟩
  · split at h
    · rename_i hq; cases h; rw [hlen (Nat.succ_ne_zero _)]; exact ⟨ha.1, k_iinc (hdd (Nat.succ_ne_zero _)) hq ha.2⟩
    · cases h
  · cases h; rw [hlen (Nat.succ_ne_zero _)]; exact ⟨ha.1, k_iadd (hdd (Nat.succ_ne_zero _)) ha.2⟩
  · cases h; rw [hlen (Nat.succ_ne_zero _)]; exact ⟨ha.1, k_isub (hdd (Nat.succ_ne_zero _)) ha.2⟩
  · cases h; rw [hlen (Nat.succ_ne_zero _)]; exact ⟨ha.1, k_imul (hdd (Nat.succ_ne_zero _)) ha.2⟩
  · cases h; rw [hlen (Nat.succ_ne_zero _)]; exact ⟨ha.1, k_idiv (hdd (Nat.succ_ne_zero _)) ha.2⟩
  · cases h; rw [hlen (Nat.succ_ne_zero _)]; exact ⟨ha.1, k_irem (hdd (Nat.succ_ne_zero _)) ha.2⟩
  · cases h; rw [hlen (Nat.succ_ne_zero _)]; exact ⟨ha, k_iand (hdd (Nat.succ_ne_zero _))⟩
  · cases h; rw [hlen (Nat.succ_ne_zero _)]; exact ⟨ha, k_ior (hdd (Nat.succ_ne_zero _))⟩
  · cases h; rw [hlen (Nat.succ_ne_zero _)]; exact ⟨ha, k_ixor (hdd (Nat.succ_ne_zero _))⟩
  · cases h; rw [hlen (Nat.succ_ne_zero _)]; exact ⟨ha, k_ishl (hdd (Nat.succ_ne_zero _))⟩
  · cases h; rw [hlen (Nat.succ_ne_zero _)]; exact ⟨ha, k_ishr (hdd (Nat.succ_ne_zero _))⟩
  · cases h; rw [hlen (Nat.succ_ne_zero _)]; exact ⟨ha.1, k_ineg (hdd (Nat.succ_ne_zero _)) ha.2⟩
  · cases h; rw [hlen (Nat.succ_ne_zero _)]; exact ⟨ha.1, k_i2c (hdd (Nat.succ_ne_zero _)) ha.2⟩
  · cases h; rw [hlen (Nat.succ_ne_zero _)]; exact ⟨ha, k_dup (hdd (Nat.succ_ne_zero _))⟩
  · cases h; rw [hlen (Nat.succ_ne_zero _)]; exact ⟨ha, k_dup2 (hdd (Nat.succ_ne_zero _))⟩
  · cases h; rw [hlen (Nat.succ_ne_zero _)]; exact ⟨ha, k_pop (hdd (Nat.succ_ne_zero _))⟩
  · unfold mm_get at h
    split at h
    · cases h
    · rename_i q1 c0 k0 t0 ki0 hq
      obtain ⟨hm, he⟩ := mm_lnk_mem hq
      have he : q1 = _ := he
      subst he
      split at h
      · rename_i hg
        split at h
        · rename_i hb1 hb2
          cases h
          rw [← mm_beq hb1] at hg
          rw [hlen (Nat.succ_ne_zero _)]
          exact ⟨ha, k_getI (hfl _ hm) hg (hdd (Nat.succ_ne_zero _)) (by rw [if_pos hb2])⟩
        · rename_i hb1 hb2
          cases h
          rw [← mm_beq hb1] at hg
          rw [hlen (Nat.succ_ne_zero _)]
          exact ⟨ha, k_getI (hfl _ hm) hg (hdd (Nat.succ_ne_zero _)) (by rw [if_neg (by rw [hb2]; decide)])⟩
        · cases h
      · cases h
  · unfold mm_put at h
    split at h
    · cases h
    · rename_i q1 c0 k0 t0 ki0 hq
      obtain ⟨hm, he⟩ := mm_lnk_mem hq
      have he : q1 = _ := he
      subst he
      split at h
      · rename_i hg
        split at h
        · rename_i hb1
          cases h
          rw [← mm_beq hb1] at hg
          rw [hlen (Nat.succ_ne_zero _)]
          exact ⟨ha, k_putI (hfl _ hm) hg (Or.inl rfl) (hdd (Nat.succ_ne_zero _))⟩
        · rename_i hb1
          cases h
          rw [← mm_beq hb1] at hg
          rw [hlen (Nat.succ_ne_zero _)]
          exact ⟨ha.1, k_putI (hfl _ hm) hg (Or.inr ⟨rfl, ha.2⟩) (hdd (Nat.succ_ne_zero _))⟩
        · cases h
      · cases h
  · unfold mm_ld at h
    split at h
    rename_i hg
    split at h
    · rename_i hb1; cases h; rw [← mm_beq hb1] at hg; rw [hlen (Nat.succ_ne_zero _)]; exact ⟨ha.1, k_iaload hg ha.2 (hdd (Nat.succ_ne_zero _))⟩
    · cases h
  · unfold mm_ld at h
    split at h
    rename_i hg
    split at h
    · rename_i hb1; cases h; rw [← mm_beq hb1] at hg; rw [hlen (Nat.succ_ne_zero _)]; exact ⟨ha.1, k_baload hg ha.2 (hdd (Nat.succ_ne_zero _))⟩
    · cases h
  · unfold mm_ld at h
    split at h
    rename_i hg
    split at h
    · rename_i hb1; cases h; rw [← mm_beq hb1] at hg; rw [hlen (Nat.succ_ne_zero _)]; exact ⟨ha.1, k_caload hg ha.2 (hdd (Nat.succ_ne_zero _))⟩
    · cases h
  · unfold mm_sto at h
    split at h
    rename_i hg
    split at h
    · rename_i hb1; cases h; rw [← mm_beq hb1] at hg; rw [hlen (Nat.succ_ne_zero _)]; exact ⟨ha.1, k_iastore hg ha.2 (hdd (Nat.succ_ne_zero _))⟩
    · cases h
  · unfold mm_sto at h
    split at h
    rename_i hg
    split at h
    · rename_i hb1; cases h; rw [← mm_beq hb1] at hg; rw [hlen (Nat.succ_ne_zero _)]; exact ⟨ha.1.1, k_bastore hg ha.1.2 ha.2 (hdd (Nat.succ_ne_zero _))⟩
    · cases h
  · unfold mm_sto at h
    split at h
    rename_i hg
    split at h
    · rename_i hb1; cases h; rw [← mm_beq hb1] at hg; rw [hlen (Nat.succ_ne_zero _)]; exact ⟨ha.1.1, k_castore hg ha.1.2 ha.2 (hdd (Nat.succ_ne_zero _))⟩
    · cases h
  · unfold mm_lda at h
    split at h
    · rename_i hg; cases h; rw [hlen (Nat.succ_ne_zero _)]; exact ⟨ha.1, k_aaload hg ha.2 (hdd (Nat.succ_ne_zero _))⟩
    · cases h
  · unfold mm_len at h
    split at h
    · rename_i hg; cases h; rw [hlen (Nat.succ_ne_zero _)]; exact ⟨ha, k_arraylength hg (by
        have hm : ∀ q ∈ mm_gl, q.2.1 < 2147483648 := by decide +kernel
        unfold mm_gk at hg
        generalize hz : mm_nth mm_gl _ = z at hg
        cases z with
        | none => cases hg
        | some q =>
          have hq : q = _ := hg
          have := hm q (mm_nth_mem hz)
          rw [hq] at this
          exact this) (hdd (Nat.succ_ne_zero _))⟩
    · cases h
  · cases h
end MMR3
end
section
/-! ===== straight on to the next branch, call, end, cut ===== -/
def mm_lk : List mm_I → Nat → List mm_I
  | [], _ => []
  | q :: r, pc => match Nat.beq q.1 pc with
    | true => q :: r
    | false => mm_lk r pc
def mm_cut : List Nat → Nat → Bool
  | [], _ => false
  | a :: r, pc => match Nat.beq a pc with
    | true => true
    | false => mm_cut r pc
abbrev mm_S : Type := Nat × List (Option mm_V) × List mm_V × mm_M × Prop
def mm_jmp (i : Instr) (pc : Nat) : Option Nat := match i with
  | .goto off => some ((pc : Int) + off).toNat
  | _ => none
/-- fuel, all instructions, cuts, links, those from here on, the place, the state -/
def mm_run (il : List mm_I) (cuts : List Nat) (fl : List mm_F) : Nat → List mm_I → Nat → List (Option mm_V) → List mm_V → mm_B → mm_M → Prop → mm_S
  | 0, _, pc, ls, st, _, w, a => (pc, ls, st, w, a)
  | _, [], pc, ls, st, _, w, a => (pc, ls, st, w, a)
  | f + 1, q :: r, pc, ls, st, b, w, a => match Nat.beq q.1 pc with
    | false => (pc, ls, st, w, a)
    | true => match mm_jmp q.2.1 q.1 with
      | some t => match mm_cut cuts t with
        | true => (t, ls, st, w, a)
        | false => mm_run il cuts fl f (mm_lk il t) t ls st b w a
      | none => match mm_st fl q.2.1 ls st b w a with
        | none => (pc, ls, st, w, a)
        | some (ls', st', w', a') => match mm_cut cuts q.2.2 with
          | true => (q.2.2, ls', st', w', a')
          | false => mm_run il cuts fl f r q.2.2 ls' st' b w' a'
section MMR4
variable {K : mm_K} {n : Nat × Nat} {pc : Nat} {ls : List (Option mm_V)} {st : List mm_V} {b : mm_B} {w : mm_M} {Q : Option mm_V → mm_B → mm_M → Prop}
theorem mm_lk_sub {il : List mm_I} {pc : Nat} : ∀ q ∈ mm_lk il pc, q ∈ il := by
  induction il with
  | nil => intro q h; cases h
  | cons a r ih =>
    intro q h
    unfold mm_lk at h
    split at h
    · exact h
    · exact List.mem_cons_of_mem _ (ih q h)
theorem k_ko (h : mm_KO K → mm_Wk K n pc ls st b w Q) : mm_Wk K n pc ls st b w Q := by
  intro p l e R s m args below meth c X α0 b0 A H locs cells slots α kls hZ
  exact h hZ.1.2.2.2.2.2.2.2.2.2.2.2.1 p l e R s m args below meth c X α0 b0 A H locs cells slots α kls hZ
theorem k_goto {off : Int} {t : Nat} (hd : decode K.1.2.1 pc = .ok (.goto off, 3)) (ht : (pc : Int) + off = (t : Int)) (k : mm_Wk K n t ls st b w Q) : mm_Wk K n pc ls st b w Q := by
  intro p l e R s m args below meth c X α0 b0 A H locs cells slots α kls hZ
  exact lv_goto hZ.1.1 hZ.1.2.1 hd ht (k p l e R s m args below meth c X α0 b0 A H locs cells slots α kls hZ)
theorem mm_run_ok (hK : mm_KO K) : ∀ (f : Nat) (su : List mm_I), (∀ q ∈ su, q ∈ K.2.2.1) → ∀ (pc : Nat) (ls : List (Option mm_V)) (st : List mm_V) (w : mm_M) (a : Prop) (pc' : Nat) (ls' : List (Option mm_V)) (st' : List mm_V) (w' : mm_M) (a' : Prop),
    mm_run K.2.2.1 K.2.2.2.1 K.2.2.2.2.1 f su pc ls st b w a = (pc', ls', st', w', a') → a' → a ∧ (mm_Wk K n pc' ls' st' b w' Q → mm_Wk K n pc ls st b w Q) := by
  intro f
  induction f with
  | zero =>
    intro su hsu pc ls st w a pc' ls' st' w' a' h ha
    unfold mm_run at h
    cases h
    exact ⟨ha, id⟩
  | succ f ih =>
    intro su hsu pc ls st w a pc' ls' st' w' a' h ha
    cases su with
    | nil =>
      unfold mm_run at h
      cases h
      exact ⟨ha, id⟩
    | cons q r =>
      unfold mm_run at h
      obtain ⟨h1, h2, h3, h4⟩ := hK.1 q (hsu q List.mem_cons_self)
      split at h
      · cases h
        exact ⟨ha, id⟩
      · rename_i hb
        have hpc : q.1 = pc := mm_beq hb
        subst hpc
        split at h
        · rename_i t hj
          have hg : ∃ off, q.2.1 = .goto off ∧ ((q.1 : Int) + off).toNat = t := by
            unfold mm_jmp at hj
            split at hj
            · rename_i off ho
              exact ⟨off, ho, Option.some.inj hj⟩
            · cases hj
          obtain ⟨off, ho, ht⟩ := hg
          rw [ho] at h1 h3 h4
          have h5 : q.2.2 = q.1 + 3 := h4.resolve_left (Nat.succ_ne_zero 2)
          have h6 : 0 ≤ (q.1 : Int) + off := of_decide_eq_true h3
          have hk : mm_Wk K n t ls st b w Q → mm_Wk K n q.1 ls st b w Q := k_goto (off := off) (by rw [h1, show q.2.2 - q.1 = 3 by omega]) (by omega)
          split at h
          · cases h
            exact ⟨ha, hk⟩
          · obtain ⟨g1, g2⟩ := ih (mm_lk K.2.2.1 t) mm_lk_sub t ls st w a pc' ls' st' w' a' h ha
            exact ⟨g1, fun z => hk (g2 z)⟩
        · split at h
          · cases h
            exact ⟨ha, id⟩
          · rename_i hst
            split at h
            · cases h
              exact mm_sf h1 h3 h4 hK.2.1 hst ha
            · obtain ⟨g1, g2⟩ := ih r (fun q hq => hsu q (List.mem_cons_of_mem _ hq)) _ _ _ _ _ _ _ _ _ _ h ha
              obtain ⟨g3, g4⟩ := mm_sf h1 h3 h4 hK.2.1 hst g1
              exact ⟨g3, fun z => g4 (g2 z)⟩
/-- on, as far as it goes straight -/
theorem k_go {pc' : Nat} {ls' : List (Option mm_V)} {st' : List mm_V} {w' : mm_M} {a' : Prop} (h : mm_run K.2.2.1 K.2.2.2.1 K.2.2.2.2.1 400 (mm_lk K.2.2.1 pc) pc ls st b w True = (pc', ls', st', w', a')) (ha : a') (k : mm_Wk K n pc' ls' st' b w' Q) : mm_Wk K n pc ls st b w Q :=
  k_ko fun hK => (mm_run_ok hK 400 _ mm_lk_sub _ _ _ _ _ _ _ _ _ _ h ha).2 k
/-! branches -/
def mm_bq (c : Jvm.ClassFile.Cond) (x y : Int) (t : Nat) (st : List mm_V) : Option (Prop × Nat × List mm_V) := match c with
  | .eq => some (x = y, t, st)
  | .ne => some (¬ x = y, t, st)
  | .lt => some (x < y, t, st)
  | .ge => some (y ≤ x, t, st)
  | .gt => some (y < x, t, st)
  | .le => some (x ≤ y, t, st)
def mm_bra (i : Instr) (pc : Nat) (st : List mm_V) : Option (Prop × Nat × List mm_V) := match i, st with
  | .if_icmp c off, .inl y :: .inl x :: st => mm_bq c x y ((pc : Int) + off).toNat st
  | .ifCond c off, .inl x :: st => mm_bq c x 0 ((pc : Int) + off).toNat st
  | .ifnull off, .inr none :: st => some (True, ((pc : Int) + off).toNat, st)
  | .ifnull off, .inr (some _) :: st => some (False, ((pc : Int) + off).toNat, st)
  | .ifnonnull off, .inr none :: st => some (False, ((pc : Int) + off).toNat, st)
  | .ifnonnull off, .inr (some _) :: st => some (True, ((pc : Int) + off).toNat, st)
  | _, _ => none
def mm_brk (il : List mm_I) (pc : Nat) (st : List mm_V) : Option (Prop × Nat × Nat × List mm_V) := match mm_lk il pc with
  | [] => none
  | q :: _ => match mm_bra q.2.1 q.1 st with
    | some (P, t, st') => some (P, t, q.2.2, st')
    | none => none
theorem mm_lk_hd {il : List mm_I} {pc : Nat} {q : mm_I} {r : List mm_I} (h : mm_lk il pc = q :: r) : q ∈ il ∧ q.1 = pc := by
  refine ⟨mm_lk_sub q (by rw [h]; exact List.mem_cons_self), ?_⟩
  induction il with
  | nil => cases h
  | cons a s ih =>
    unfold mm_lk at h
    split at h
    · rename_i hb
      cases h
      exact mm_beq hb
    · exact ih h
set_option maxHeartbeats 4000000 in
theorem mm_bra_ok {i : Instr} {P : Prop} {t pc' : Nat} {st' : List mm_V} (hd : decode K.1.2.1 pc = .ok (i, pc' - pc)) (hs : mm_small K.1.2.2.1 pc i = true) (hl : mm_il i = 0 ∨ pc' = pc + mm_il i) (h : mm_bra i pc st = some (P, t, st')) (kt : P → mm_Wk K n t ls st' b w Q) (kf : ¬ P → mm_Wk K n pc' ls st' b w Q) : mm_Wk K n pc ls st b w Q := by
  intro p l e R s m args below meth c X α0 b0 A H locs cells slots α kls ⟨hC, hR, hA, hS, hO, hL, hst, hn⟩
  have kt := fun hP hst => kt hP p l e R s m args below meth c X α0 b0 A H locs cells slots α kls ⟨hC, hR, hA, hS, hO, hL, hst, hn⟩
  have kf := fun hP hst => kf hP p l e R s m args below meth c X α0 b0 A H locs cells slots α kls ⟨hC, hR, hA, hS, hO, hL, hst, hn⟩
  have hlen : mm_il i ≠ 0 → pc' = pc + mm_il i := fun q => hl.resolve_left q
  have hdd : mm_il i ≠ 0 → decode K.1.2.1 pc = .ok (i, mm_il i) := fun q => by
    have := hlen q
    rw [hd, show pc' - pc = mm_il i by omega]
  unfold mm_bra at h
  split at h
  · rename_i c0 off y x st0
    have h6 : 0 ≤ (pc : Int) + off := of_decide_eq_true hs
    have h7 : pc' = pc + 3 := hlen (Nat.succ_ne_zero _)
    subst h7
    have h8 := hdd (Nat.succ_ne_zero _)
    have hy : mm_in y := mm_stH hst
    have hx : mm_in x := mm_stH (mm_stT hst)
    have hst2 := mm_stT (mm_stT hst)
    have ht : (pc : Int) + off = (((pc : Int) + off).toNat : Int) := by omega
    cases c0 with
    | eq => cases h; exact lv_icmp_eq hC.1 hC.2.1 h8 ht (fun q => kt ((mm_i7 hx hy).mp q) hst2) (fun q => kf (fun z => q ((mm_i7 hx hy).mpr z)) hst2)
    | ne => cases h; exact lv_icmp_ne hC.1 hC.2.1 h8 ht (fun q => kt (fun z => q ((mm_i7 hx hy).mpr z)) hst2) (fun q => kf (fun z => z ((mm_i7 hx hy).mp q)) hst2)
    | lt => cases h; exact lv_icmp_lt hC.1 hC.2.1 h8 ht (fun q => kt ((mm_i6 hx hy).mp q) hst2) (fun q => kf (fun z => q ((mm_i6 hx hy).mpr z)) hst2)
    | ge => cases h; exact lv_icmp_ge hC.1 hC.2.1 h8 ht (fun q => kt ((mm_i5 hy hx).mp q) hst2) (fun q => kf (fun z => q ((mm_i5 hy hx).mpr z)) hst2)
    | gt => cases h; exact lv_icmp_gt hC.1 hC.2.1 h8 ht (fun q => kt ((mm_i6 hy hx).mp q) hst2) (fun q => kf (fun z => q ((mm_i6 hy hx).mpr z)) hst2)
    | le => cases h; exact lv_icmp_le hC.1 hC.2.1 h8 ht (fun q => kt ((mm_i5 hx hy).mp q) hst2) (fun q => kf (fun z => q ((mm_i5 hx hy).mpr z)) hst2)
  · rename_i c0 off x st0
    have h6 : 0 ≤ (pc : Int) + off := of_decide_eq_true hs
    have h7 : pc' = pc + 3 := hlen (Nat.succ_ne_zero _)
    subst h7
    have h8 := hdd (Nat.succ_ne_zero _)
    have hx : mm_in x := mm_stH hst
    have hy : mm_in 0 := ⟨by decide, by decide⟩
    have hst2 := mm_stT hst
    have ht : (pc : Int) + off = (((pc : Int) + off).toNat : Int) := by omega
    cases c0 with
    | eq => cases h; exact lv_if_eq hC.1 hC.2.1 h8 ht (fun q => kt ((mm_i7 hx hy).mp q) hst2) (fun q => kf (fun z => q ((mm_i7 hx hy).mpr z)) hst2)
    | ne => cases h; exact lv_if_ne hC.1 hC.2.1 h8 ht (fun q => kt (fun z => q ((mm_i7 hx hy).mpr z)) hst2) (fun q => kf (fun z => z ((mm_i7 hx hy).mp q)) hst2)
    | lt => cases h; exact lv_if_lt hC.1 hC.2.1 h8 ht (fun q => kt ((mm_i6 hx hy).mp q) hst2) (fun q => kf (fun z => q ((mm_i6 hx hy).mpr z)) hst2)
    | ge => cases h; exact lv_if_ge hC.1 hC.2.1 h8 ht (fun q => kt ((mm_i5 hy hx).mp q) hst2) (fun q => kf (fun z => q ((mm_i5 hy hx).mpr z)) hst2)
    | gt => cases h; exact lv_if_gt hC.1 hC.2.1 h8 ht (fun q => kt ((mm_i6 hy hx).mp q) hst2) (fun q => kf (fun z => q ((mm_i6 hy hx).mpr z)) hst2)
    | le => cases h; exact lv_if_le hC.1 hC.2.1 h8 ht (fun q => kt ((mm_i5 hx hy).mp q) hst2) (fun q => kf (fun z => q ((mm_i5 hx hy).mpr z)) hst2)
  · cases h
    have h6 : 0 ≤ (pc : Int) + _ := of_decide_eq_true hs
    exact lv_ifnullN hC.1 hC.2.1 (hdd (Nat.succ_ne_zero _)) (by omega) (kt trivial (mm_stT hst))
  · cases h
    have h7 : pc' = pc + 3 := hlen (Nat.succ_ne_zero _)
    subst h7
    exact lv_ifnull hC.1 hC.2.1 (hdd (Nat.succ_ne_zero _)) (kf id (mm_stT hst))
  · cases h
    have h7 : pc' = pc + 3 := hlen (Nat.succ_ne_zero _)
    subst h7
    exact lv_ifnonnullN hC.1 hC.2.1 (hdd (Nat.succ_ne_zero _)) (kf id (mm_stT hst))
  · cases h
    have h6 : 0 ≤ (pc : Int) + _ := of_decide_eq_true hs
    exact lv_ifnonnull hC.1 hC.2.1 (hdd (Nat.succ_ne_zero _)) (by omega) (kt trivial (mm_stT hst))
  · cases h
/-- a branch: the way that is taken if so, the way if not -/
theorem k_br {P : Prop} {t f : Nat} {st' : List mm_V} (h : mm_brk K.2.2.1 pc st = some (P, t, f, st')) (kt : P → mm_Wk K n t ls st' b w Q) (kf : ¬ P → mm_Wk K n f ls st' b w Q) : mm_Wk K n pc ls st b w Q := by
  refine k_ko fun hK => ?_
  unfold mm_brk at h
  split at h
  · cases h
  · rename_i q r hq
    split at h
    · rename_i hb
      cases h
      obtain ⟨hm, he⟩ := mm_lk_hd hq
      obtain ⟨h1, h2, h3, h4⟩ := hK.1 q hm
      subst he
      exact mm_bra_ok h1 h3 h4 hb kt kf
    · cases h
end MMR4
end
section
/-! ===== ends, switches, calls, entries ===== -/
def mm_rtn (ret : Option FieldType) (i : Instr) (st : List mm_V) : Option (Option mm_V × Prop) := match ret, i, st with
  | none, .return_, [] => some (none, True)
  | some .int, .ireturn, [.inl x] => some (some (.inl x), True)
  | some .boolean, .ireturn, [.inl x] => some (some (.inl x), 0 ≤ x ∧ x ≤ 1)
  | some (.object _), .areturn, [.inr (some q)] => some (some (.inr (some q)), True)
  | _, _, _ => none
def mm_rtk (il : List mm_I) (ret : Option FieldType) (pc : Nat) (st : List mm_V) : Option (Option mm_V × Prop) := match mm_lk il pc with
  | [] => none
  | q :: _ => mm_rtn ret q.2.1 st
section MMR5
variable {K : mm_K} {n : Nat × Nat} {pc : Nat} {ls : List (Option mm_V)} {st : List mm_V} {b : mm_B} {w : mm_M} {Q : Option mm_V → mm_B → mm_M → Prop}
theorem k_ret {r : Option mm_V} {a : Prop} (h : mm_rtk K.2.2.1 K.1.2.2.2.1 pc st = some (r, a)) (ha : a) (hq : Q r b w) : mm_Wk K n pc ls st b w Q := by
  refine k_ko fun hK => ?_
  unfold mm_rtk at h
  split at h
  · cases h
  · rename_i q z hlk
    obtain ⟨hm, he⟩ := mm_lk_hd hlk
    obtain ⟨h1, h2, h3, h4⟩ := hK.1 q hm
    subst he
    intro p l e R s m args below meth c X α0 b0 A H locs cells slots α kls ⟨hC, hR, hA, hS, hO, hL, hst, hn⟩
    have hdd : mm_il q.2.1 = 1 → decode K.1.2.1 q.1 = .ok (q.2.1, 1) := fun z => by
      rw [z] at h4
      have h5 := h4.resolve_left (by decide)
      rw [h1, show q.2.2 - q.1 = 1 by omega]
    have hQ : (∀ v, r = some v → mm_ok b v) → ∀ t : State, t.heap = H → s.WarmedH t.vm → mm_Qc X α0 b0 A Q args s (.returned (r.map (mm_v α))) t := fun hok t ht hW =>
      ⟨⟨r, b, w, α, rfl, hq, hok, hO, by rw [ht]; exact hR, va_K.moved hW.alike hC.2.2.2.2.2.2.2.1⟩, hS.F ht⟩
    refine W.widen (k := R.cells) (n := R.slots) (by omega) (by omega) ?_
    unfold mm_rtn at h
    split at h
    · rename_i hr hi
      cases h
      rw [hi] at hdd
      exact W.vret hC.1 hC.2.1 (hC.2.2.2.1.trans hr) (hQ (fun v h => by cases h)) hS.2.2 (hdd rfl) hC.2.2.2.2.1
    · rename_i hr hi
      cases h
      rw [hi] at hdd
      exact W.iret hC.1 hC.2.1 (hC.2.2.2.1.trans hr) (hQ (fun v h => by cases h; exact mm_stH hst)) hS.2.2 (hdd rfl) hC.2.2.2.2.1
    · rename_i hr hi
      cases h
      rw [hi] at hdd
      exact W.zret hC.1 hC.2.1 (hC.2.2.2.1.trans hr) (mm_nar1 ha) (hQ (fun v h => by cases h; exact mm_stH hst)) hS.2.2 (hdd rfl) hC.2.2.2.2.1
    · rename_i hr hi
      cases h
      rw [hi] at hdd
      exact W.aret hC.1 hC.2.1 (hC.2.2.2.1.trans hr) (Or.inl ⟨_, rfl⟩) (Or.inr ⟨_, rfl⟩) (hQ (fun v h => by cases h; exact mm_stH hst)) hS.2.2 (hdd rfl) hC.2.2.2.2.1
    · cases h
/-- what is not known any more of the locals -/
def mm_lw : List (Option mm_V) → List (Option mm_V) → Prop
  | [], [] => True
  | a :: r, a' :: r' => (a' = none ∨ a' = a) ∧ mm_lw r r'
  | _, _ => False
theorem mm_lw_ok {ls ls' : List (Option mm_V)} (h : mm_lw ls ls') : ls'.length = ls.length ∧ ∀ i v, mm_nth ls' i = some (some v) → mm_nth ls i = some (some v) := by
  induction ls generalizing ls' with
  | nil =>
    cases ls' with
    | nil => exact ⟨rfl, fun i v h => h⟩
    | cons a r => exact h.elim
  | cons a r ih =>
    cases ls' with
    | nil => exact h.elim
    | cons a' r' =>
      obtain ⟨h1, h2⟩ := h
      obtain ⟨i1, i2⟩ := ih h2
      refine ⟨congrArg (· + 1) i1, fun i v hv => ?_⟩
      cases i with
      | zero =>
        rcases h1 with rfl | rfl
        · cases hv
        · exact hv
      | succ i => exact i2 i v hv
theorem k_lw {ls' : List (Option mm_V)} (h : mm_lw ls ls') (k : mm_Wk K n pc ls' st b w Q) : mm_Wk K n pc ls st b w Q := by
  intro p l e R s m args below meth c X α0 b0 A H locs cells slots α kls ⟨hC, hR, hA, hS, hO, hL, hst, hn⟩
  obtain ⟨h1, h2⟩ := mm_lw_ok h
  exact k p l e R s m args below meth c X α0 b0 A H locs cells slots α kls ⟨hC, hR, hA, hS, hO, ⟨by rw [h1]; exact hL.1, hL.2.1, hL.2.2.1, fun i v hv => hL.2.2.2 i v (h2 i v hv)⟩, hst, hn⟩
/-- the memory's numbers are ints; so is what the stack and the locals hold -/
theorem k_rg (h : mm_rg w → (∀ v ∈ st, mm_ok b v) → (∀ i v, mm_nth ls i = some (some v) → mm_ok b v) → mm_Wk K n pc ls st b w Q) : mm_Wk K n pc ls st b w Q := by
  intro p l e R s m args below meth c X α0 b0 A H locs cells slots α kls hZ
  exact h hZ.2.1.2.2.1 hZ.2.2.2.2.2.2.1 (fun i v hv => (hZ.2.2.2.2.2.1.2.2.2 i v hv).2) p l e R s m args below meth c X α0 b0 A H locs cells slots α kls hZ
theorem k_conseq {Q' : Option mm_V → mm_B → mm_M → Prop} (k : mm_Wk K n pc ls st b w Q') (h : ∀ r b' w', Q' r b' w' → Q r b' w') : mm_Wk K n pc ls st b w Q := by
  intro p l e R s m args below meth c X α0 b0 A H locs cells slots α kls hZ T hT X9
  obtain ⟨t, a1, o, b1, b2, ⟨⟨r, b', w', α', q1, q2, q3⟩, q4⟩, b4⟩ := k p l e R s m args below meth c X α0 b0 A H locs cells slots α kls hZ T hT X9
  exact ⟨t, a1, o, b1, b2, ⟨⟨r, b', w', α', q1, h _ _ _ q2, q3⟩, q4⟩, b4⟩
end MMR5
/-! calls -/
def mm_rm (K : mm_K) (n : Nat × Nat) : Room := { frames := K.2.1.1, cells := n.1, slots := n.2, locals := K.2.1.2.1 }
def mm_ws (K : mm_K) : List Cond := Cond.code K.1.1 K.1.2.1 K.1.2.2.1 K.1.2.2.2.1 :: tb_G
def mm_Pc (X : mm_X) (α : Nat → Int → Nat) (b : mm_B) (w : mm_M) (as : List mm_V) (sz : Nat) : Array Value → State → Prop :=
  va_Pc (as.map (mm_v α)) (fun U => U.heap.size = sz ∧ va_P X.1 vwCl (mm_wl X α b w) U.heap ∧ va_K X.1 vwCl (mm_ty X) U ∧ va_D (fun _ => True) (mm_wl X α b w) ∧ mm_rg w ∧ mm_ph b ∧ (∀ v ∈ as, mm_ok b v) ∧ mm_E U)
/-- the method's word is in the tables -/
def mm_MO (K : mm_K) : Prop := Cond.code K.1.1 K.1.2.1 K.1.2.2.1 K.1.2.2.2.1 ∈ tb_G ∧ (∀ r : vw_C, vwCl[K.2.1.2.2]? = some r → r.1 = K.1.1.cls) ∧ plainName K.1.1.cls = true ∧ K.1.1.cls = K.1.2.2.2.2
/-- a call of the method ends, with an answer and a memory that are in Q -/
def mm_Ev (K : mm_K) (n : Nat × Nat) (as : List mm_V) (b : mm_B) (w : mm_M) (Q : Option mm_V → mm_B → mm_M → Prop) : Prop :=
  mm_MO K ∧ ∀ (l : Launch) (X : mm_X) (α : Nat → Int → Nat) (sz : Nat), Met l K.1.1 (mm_ws K) (mm_rm K n) (mm_Pc X α b w as sz) (mm_Qc X α b (va_A (mm_wl X α b w) sz) Q) n.1 n.2 (va_A (mm_wl X α b w) sz)
theorem mm_good (K : mm_K) (h : mm_MO K) : GoodIn tb_G (mm_ws K) := by
  have hg : ∀ w ∈ tb_G, (w.onTables && w.keeps) = true ∨ ∃ ty, w = .arrayClass ty := fun w hw => by
    have h2 : goodWord w = true := (List.mem_filter.mp hw).2
    exact good_of_word h2
  intro w hw
  rcases List.mem_cons.mp hw with rfl | hw
  · exact ⟨h.1, hg _ h.1⟩
  · exact ⟨hw, hg w hw⟩
theorem mm_blind {X : mm_X} {α : Nat → Int → Nat} {b : mm_B} {w : mm_M} {as : List mm_V} {sz : Nat} : FrameBlind (mm_Pc X α b w as sz) := by
  intro a U g mk q
  obtain ⟨q0, q1, qP, qK, qD, q2, q3, q4, qE⟩ := q
  exact ⟨q0, q1, qP, va_K.moved (u := U) (U := U.calling g mk a) (Vm.Alike.refl U.vm) qK, qD, q2, q3, q4, mm_E.same (u := U) (U := U.calling g mk a) rfl qE⟩
theorem mm_after {p : Program} {l : Launch} {e : Env} {R : Room} {s : State} {m : MethodId} {args : Array Value} {below : List Frame} {meth : Method} {c : Code} {H : Heap} {locs : List Loc} {cells slots mc ms pc : Nat} {ls : Array Slot} {st0 rest : List Value} {X : mm_X} {α : Nat → Int → Nat} {b : mm_B} {A0 A1 free : Nat → Prop} {H0 : Heap} {Qq : State → Prop} {Q : Option mm_V → mm_B → mm_M → Prop} {a : Array Value}
    (hr : va_Run p l e R s m args below meth c H locs cells slots mc ms (F0 m pc ls st0) rest (mm_Qc X α b A1 Q a) free) (hS : va_S A0 H0 H locs) (hA : ∀ q, q < H.size → A1 q → A0 q) (hf : ∀ q, free q → A0 q)
    (kk : ∀ (r : Option mm_V) (b' : mm_B) (w' : mm_M) (α' : Nat → Int → Nat) (H1 : Heap) (locs1 : List Loc), Q r b' w' → (∀ v, r = some v → mm_ok b' v) → mm_old b b' α α' → mm_Rp X α' b' w' H1 A1 → va_S A0 H0 H1 locs1 → W p l e R s m args below meth c H1 locs1 (cells + mc) (slots + ms) Qq (F0 m (pc + 3) ls ((r.map (mm_v α')).toList ++ rest))) : W p l e R s m args below meth c H locs cells slots Qq (F0 m pc ls st0) := by
  intro T hT X9
  obtain ⟨v, st₀, t, T', L, h0, X', hL, e1, e2, ⟨⟨r, b', w', α', hv, hq, hok, hold, hRp, -⟩, hz, hk⟩, st⟩ := hr T hT X9
  cases hv
  rw [h0] at hz hk
  obtain ⟨t2, a1, b1⟩ := kk r b' w' α' T'.heap (locs ++ L) hq hok hold (by rw [e1]; exact hRp)
    ⟨Nat.le_trans hS.1 (by rw [e1]; exact hz), fun q h1 h2 => by rw [e1, hk q (Nat.lt_of_lt_of_le h1 hS.1) (fun z => h2 (hA q (Nat.lt_of_lt_of_le h1 hS.1) z))]; exact hS.2.1 q h1 h2, fun q hq => by
      rcases List.mem_append.mp hq with h | h
      · exact hS.2.2 q h
      · exact hf _ (hL q h)⟩ T' rfl X'
  exact ⟨t2, st t2 a1, b1⟩
def mm_pu (r : Option mm_V) (st : List mm_V) : List mm_V := match r with
  | none => st
  | some v => v :: st
def mm_pop : Nat → List mm_V → List mm_V → Option (List mm_V × List mm_V)
  | 0, as, st => some (as, st)
  | k + 1, as, v :: st => mm_pop k (v :: as) st
  | _ + 1, _, [] => none
def mm_mlk : List (Nat × Nat × Nat × MethodName) → Nat → Option (Nat × Nat × Nat × MethodName)
  | [], _ => none
  | q :: r, i => match Nat.beq q.1 i with
    | true => some q
    | false => mm_mlk r i
/-- kind, name, arguments, rest of the stack, the place behind -/
def mm_clk (il : List mm_I) (ml : List (Nat × Nat × Nat × MethodName)) (pc : Nat) (st : List mm_V) : Option (Nat × MethodName × List mm_V × List mm_V × Nat) := match mm_lk il pc with
  | [] => none
  | q :: _ => match q.2.1 with
    | .invokevirtual i => match mm_mlk ml i with
      | some (_, 0, np, y) => match mm_pop (np + 1) [] st with
        | some (as, st') => some (0, y, as, st', q.2.2)
        | none => none
      | _ => none
    | .invokestatic i => match mm_mlk ml i with
      | some (_, 1, np, y) => match mm_pop np [] st with
        | some (as, st') => some (1, y, as, st', q.2.2)
        | none => none
      | _ => none
    | .invokespecial i => match mm_mlk ml i with
      | some (_, 2, np, y) => match mm_pop (np + 1) [] st with
        | some (as, st') => some (2, y, as, st', q.2.2)
        | none => none
      | some (_, 3, np, y) => match mm_pop (np + 1) [] st with
        | some (as, st') => some (3, y, as, st', q.2.2)
        | none => none
      | _ => none
    | _ => none
end
section
/-! ===== a call, an entry ===== -/
def mm_rcv (kind : Nat) (as : List mm_V) (cn : Nat) : Bool := match kind, as with
  | 1, _ => true
  | 0, .inr (some (g, _)) :: _ => match mm_gk g with
    | (0, c, _) => Nat.beq c cn
    | _ => false
  | 2, .inr (some _) :: _ => true
  | 3, .inr (some _) :: _ => true
  | _, _ => false
def mm_rok (K K' : mm_K) (st : List mm_V) : Bool := Nat.ble (K'.2.1.1 + 1) K.2.1.1 && Nat.ble (8 + (K'.1.2.2.1 + 11) + K'.2.1.2.1) K.2.1.2.1 && Nat.ble st.length 8
theorem mm_pop_ok : ∀ (k : Nat) (acc st as st' : List mm_V), mm_pop k acc st = some (as, st') → acc.reverse ++ st = as.reverse ++ st' ∧ as.length = k + acc.length := by
  intro k
  induction k with
  | zero =>
    intro acc st as st' h
    cases h
    exact ⟨rfl, by omega⟩
  | succ k ih =>
    intro acc st as st' h
    cases st with
    | nil => cases h
    | cons v st =>
      obtain ⟨h1, h2⟩ := ih (v :: acc) st as st' h
      refine ⟨?_, by rw [h2]; simp; omega⟩
      rw [← h1]
      simp
theorem mm_mlk_mem {ml : List (Nat × Nat × Nat × MethodName)} {i : Nat} {q : Nat × Nat × Nat × MethodName} (h : mm_mlk ml i = some q) : q ∈ ml ∧ q.1 = i := by
  induction ml with
  | nil => cases h
  | cons a r ih =>
    unfold mm_mlk at h
    split at h
    · rename_i hb
      cases h
      exact ⟨List.mem_cons_self, mm_beq hb⟩
    · exact ⟨List.mem_cons_of_mem _ (ih h).1, (ih h).2⟩
theorem mm_sum (α : Nat → Int → Nat) (st : List mm_V) : ((st.map (mm_v α)).map fun v => v.category).sum = st.length := by
  induction st with
  | nil => rfl
  | cons v r ih =>
    show (mm_v α v).category + _ = _
    rw [mm_cat]
    show 1 + ((r.map (mm_v α)).map fun v => v.category).sum = _
    rw [ih]
    simp
    omega
theorem mm_oldL {b b' : mm_B} {α α' : Nat → Int → Nat} (h : mm_old b b' α α') {v : mm_V} (hv : mm_ok b v) : mm_ok b' v ∧ mm_v α' v = mm_v α v := by
  rcases v with x | r
  · exact ⟨hv, rfl⟩
  · cases r with
    | none => exact ⟨trivial, rfl⟩
    | some q =>
      obtain ⟨h1, h2⟩ := h q.1 hv.1
      exact ⟨⟨h1, hv.2⟩, by show Value.ref _ = Value.ref _; rw [h2]⟩
theorem mm_rcv0 {as : List mm_V} {cn : Nat} (h : mm_rcv 0 as cn = true) : ∃ (g : Nat) (j : Int) (r : List mm_V) (N : Nat), as = .inr (some (g, j)) :: r ∧ mm_gk g = (0, cn, N) := by
  match as, h with
  | .inr (some (g, j)) :: r, h =>
    have h : (match mm_gk g with
      | (0, c, _) => Nat.beq c cn
      | _ => false) = true := h
    split at h
    · rename_i c N hg
      rw [mm_beq h] at hg
      exact ⟨g, j, r, N, rfl, hg⟩
    · cases h
theorem mm_rcv2 {kind : Nat} {as : List mm_V} {cn : Nat} (hk : kind = 2 ∨ kind = 3) (h : mm_rcv kind as cn = true) : ∃ (g : Nat) (j : Int) (r : List mm_V), as = .inr (some (g, j)) :: r := by
  rcases hk with rfl | rfl
  · match as, h with
    | .inr (some (g, j)) :: r, h => exact ⟨g, j, r, rfl⟩
  · match as, h with
    | .inr (some (g, j)) :: r, h => exact ⟨g, j, r, rfl⟩
section MMR6
variable {K K' : mm_K} {n : Nat × Nat} {pc : Nat} {ls : List (Option mm_V)} {st : List mm_V} {b : mm_B} {w : mm_M} {Q : Option mm_V → mm_B → mm_M → Prop}
theorem mm_call_tail {n1 n' : Nat × Nat} {pc' : Nat} {st' : List mm_V} {Q1 : Option mm_V → mm_B → mm_M → Prop} (hpc : pc' = pc + 3) (hn1 : n.1 = n1.1 + n'.1 ∧ n.2 = n1.2 + n'.2) (hst' : ∀ v ∈ st', v ∈ st) (hQ : ∀ r b' w', Q1 r b' w' → mm_Wk K n1 pc' ls (mm_pu r st') b' w' Q)
    {p : Program} {l : Launch} {e : Env} {R : Room} {s : State} {m : MethodId} {args : Array Value} {below : List Frame} {meth : Method} {c : Code} {X : mm_X} {α0 : Nat → Int → Nat} {b0 : mm_B} {A : Nat → Prop} {H : Heap} {locs : List Loc} {cells slots : Nat} {α : Nat → Int → Nat} {kls : Array Slot} {a : Array Value}
    (hZ : mm_Z K n ls st b w p R s m args meth c X α0 b0 A H locs cells slots α kls) (hr : va_Run p l e R s m args below meth c H locs cells slots n'.1 n'.2 (F0 m pc kls (st.map (mm_v α))) (st'.map (mm_v α)) (mm_Qc X α b (va_A (mm_wl X α b w) H.size) Q1 a) (va_A (mm_wl X α b w) H.size)) :
    W p l e R s m args below meth c H locs cells slots (MQ below (mm_Qc X α0 b0 A Q) args s R.cells R.slots A) (F0 m pc kls (st.map (mm_v α))) := by
  obtain ⟨hC, hR, hA, hS, hO, hL, hst, hn⟩ := hZ
  have hA1 : ∀ q, va_A (mm_wl X α b w) H.size q → A q := fun q hq => by
    rcases hq with ⟨k, e, hk⟩ | hq
    · exact hR.2.1.2 k _ hk
    · exact hA q (Nat.le_trans hS.1 hq)
  refine mm_after hr hS (fun q _ h => hA1 q h) hA1 ?_
  intro r b' w' α' H1 locs1 hq1 hok hold hRp hS1
  have hk := hQ r b' w' hq1 p l e R s m args below meth c X α0 b0 A H1 locs1 (cells + n'.1) (slots + n'.2) α' kls ⟨hC, ⟨hRp.1, hRp.2.1.weaken (fun _ _ _ h => hA1 _ h), hRp.2.2⟩, hA, hS1, ?_, ?_, ?_, by omega, by omega⟩
  · have e1 : (r.map (mm_v α')).toList ++ st'.map (mm_v α) = (mm_pu r st').map (mm_v α') := by
      have e2 : st'.map (mm_v α) = st'.map (mm_v α') := List.map_congr_left fun v hv => ((mm_oldL hold (hst v (hst' v hv))).2).symm
      cases r with
      | none => exact e2
      | some v => show _ :: _ = _ :: _; rw [e2]; rfl
    rw [e1, ← hpc]
    exact hk
  · intro g hg
    obtain ⟨h1, h2⟩ := hO g hg
    obtain ⟨h3, h4⟩ := hold g h1
    exact ⟨h3, fun j => (h4 j).trans (h2 j)⟩
  · refine ⟨hL.1, hL.2.1, hL.2.2.1, fun i v hv => ?_⟩
    obtain ⟨h1, h2⟩ := hL.2.2.2 i v hv
    obtain ⟨h3, h4⟩ := mm_oldL hold h2
    exact ⟨by rw [h4]; exact h1, h3⟩
  · intro v hv
    cases r with
    | none => exact (mm_oldL hold (hst v (hst' v hv))).1
    | some u =>
      rcases List.mem_cons.mp hv with rfl | hv
      · exact hok v rfl
      · exact (mm_oldL hold (hst v (hst' v hv))).1
/-- a call of a method whose contract is known -/
theorem k_call {n1 n' : Nat × Nat} {kind pc' : Nat} {y : MethodName} {as st' : List mm_V} {Q1 : Option mm_V → mm_B → mm_M → Prop} (h : mm_clk K.2.2.1 K.2.2.2.2.2 pc st = some (kind, y, as, st', pc')) (hE : mm_Ev K' n' as b w Q1) (hy : y = K'.1.1) (hrk : mm_rok K K' st' = true) (hrv : mm_rcv kind as K'.2.1.2.2 = true) (hret : kind = 2 ∨ kind = 3 → K'.1.2.2.2.1 = none)
    (hn1 : n.1 = n1.1 + n'.1 ∧ n.2 = n1.2 + n'.2) (hQ : ∀ r b' w', Q1 r b' w' → mm_Wk K n1 pc' ls (mm_pu r st') b' w' Q) : mm_Wk K n pc ls st b w Q := by
  refine k_ko fun hK => ?_
  subst hy
  intro p l e R s m args below meth c X α0 b0 A H locs cells slots α kls hZ
  have hZ' := hZ
  obtain ⟨hC, hR, hA, hS, hO, hL, hst, hn⟩ := hZ'
  obtain ⟨hMO, hM⟩ := hE
  have hM := hM l X α H.size
  unfold mm_rok at hrk
  simp only [Bool.and_eq_true] at hrk
  obtain ⟨⟨r1, r2⟩, r3⟩ := hrk
  have r1 := Nat.le_of_ble_eq_true r1
  have r2 := Nat.le_of_ble_eq_true r2
  have r3 := Nat.le_of_ble_eq_true r3
  have hrm : (mm_rm K' n').frames + 1 ≤ R.frames ∧ 8 + (K'.1.2.2.1 + 11) + (mm_rm K' n').locals ≤ R.locals := ⟨by rw [hC.2.2.2.2.2.2.2.2.2.1]; exact r1, by rw [hC.2.2.2.2.2.2.2.2.2.2.1]; exact r2⟩
  have hts := hC.2.2.2.2.2.2.1
  have hfit : cells + n'.1 ≤ R.cells ∧ slots + n'.2 ≤ R.slots := by omega
  have hroom : 2 * (F0 m pc kls (st.map (mm_v α))).monitorRoom + ((st'.map (mm_v α)).map fun v => v.category).sum ≤ 8 := lv_room (by rw [mm_sum]; exact r3)
  have hPc : (∀ v ∈ as, v ∈ st) → ∀ U : State, U.heap = H → s.WarmedH U.vm → mm_Pc X α b w as H.size (as.map (mm_v α)).toArray U := fun hsub U hU hW =>
    ⟨rfl, by rw [hU], by rw [hU]; exact hR.1, va_K.moved hW.alike hC.2.2.2.2.2.2.2.1, hR.2.1.weaken (fun _ _ _ _ => trivial), hR.2.2.1, hR.2.2.2, fun v hv => hst v (hsub v hv), mm_E.warm hW hC.2.2.2.2.2.2.2.2.2.2.2.2⟩
  unfold mm_clk at h
  split at h
  · cases h
  · rename_i q z hlk
    obtain ⟨hm, he⟩ := mm_lk_hd hlk
    obtain ⟨h1, h2, h3, h4⟩ := hK.1 q hm
    subst he
    have hdd : mm_il q.2.1 = 3 → decode K.1.2.1 q.1 = .ok (q.2.1, 3) ∧ q.2.2 = q.1 + 3 := fun z => by
      rw [z] at h4
      have h5 := h4.resolve_left (by decide)
      exact ⟨by rw [h1, show q.2.2 - q.1 = 3 by omega], h5⟩
    split at h
    · rename_i i hi
      rw [hi] at hdd
      obtain ⟨hd, hpc⟩ := hdd rfl
      split at h
      · rename_i i' np y' hml
        obtain ⟨hmm, hme⟩ := mm_mlk_mem hml
        have hme : i' = i := hme
        subst hme
        split at h
        · rename_i as' st'' hpop
          simp only [Option.some.injEq, Prod.mk.injEq] at h
          obtain ⟨h0, hy0, ha0, hs0, hp0⟩ := h
          subst h0 hy0 ha0 hs0 hp0
          obtain ⟨p1, p2⟩ := mm_pop_ok _ _ _ _ _ hpop
          obtain ⟨g1, g2, g3, -⟩ := hK.2.2 _ hmm
          obtain ⟨g3, g4, g5⟩ := g3 rfl
          obtain ⟨g, j, as'', N0, rfl, hg⟩ := mm_rcv0 hrv
          have p1 : st = as''.reverse ++ .inr (some (g, j)) :: st'' := by simpa using p1
          have hsub : ∀ v ∈ Sum.inr (some (g, j)) :: as'', v ∈ st := fun v hv => by
            rw [p1]
            rcases List.mem_cons.mp hv with rfl | hv
            · simp
            · simp [hv]
          have hok : mm_ok b (.inr (some (g, j))) := hst _ (hsub _ List.mem_cons_self)
          obtain ⟨q0, hk0, hw0⟩ := mm_pos (X := X) (α := α) (w := w) (mm_key hok)
          rw [mm_ce_obj hg] at hw0
          obtain ⟨r9, hr9, -⟩ := hR.1 q0 _ hw0
          have hrec := va_recv hC.2.2.2.2.2.2.2.1 hR.1 hr9 hw0
          rw [hMO.2.1 r9 hr9] at hrec
          refine mm_call_tail (a := ((Sum.inr (some (g, j)) :: as'').map (mm_v α)).toArray) hpc hn1 (fun v hv => by rw [p1]; simp [hv]) hQ hZ ?_
          exact va_runV (bytes := K'.1.2.1) (maxL := K'.1.2.2.1) (ret := K'.1.2.2.2.1) (n := np) ⟨hC.1, hC.2.1, hC.2.2.1, hC.2.2.2.2.2.1, hts⟩ hM ⟨callB_of np hts (mm_good K' hMO) rfl rfl rfl (hts _ g2) (hts _ g3) g1 hrm, hts _ g4, hts _ g5⟩ ⟨mm_blind, hrec, hPc hsub⟩ rfl (by simp at p2; simp; omega) hL.2.1 (by show st.map (mm_v α) = _; rw [p1]; simp; rfl) hroom hd hfit
        · cases h
      · cases h
    · rename_i i hi
      rw [hi] at hdd
      obtain ⟨hd, hpc⟩ := hdd rfl
      split at h
      · rename_i i' np y' hml
        obtain ⟨hmm, hme⟩ := mm_mlk_mem hml
        have hme : i' = i := hme
        subst hme
        split at h
        · rename_i as' st'' hpop
          simp only [Option.some.injEq, Prod.mk.injEq] at h
          obtain ⟨h0, hy0, ha0, hs0, hp0⟩ := h
          subst h0 hy0 ha0 hs0 hp0
          obtain ⟨p1, p2⟩ := mm_pop_ok _ _ _ _ _ hpop
          obtain ⟨g1, g2, -, g3, -⟩ := hK.2.2 _ hmm
          obtain ⟨g3, g4⟩ := g3 rfl
          have p1 : st = as'.reverse ++ st'' := by simpa using p1
          have hsub : ∀ v ∈ as', v ∈ st := fun v hv => by rw [p1]; simp [hv]
          refine mm_call_tail (a := (as'.map (mm_v α)).toArray) hpc hn1 (fun v hv => by rw [p1]; simp [hv]) hQ hZ ?_
          exact va_runS (bytes := K'.1.2.1) (maxL := K'.1.2.2.1) (ret := K'.1.2.2.2.1) (n := np) ⟨hC.1, hC.2.1, hC.2.2.1, hC.2.2.2.2.2.1, hts⟩ hM ⟨callB_of np hts (mm_good K' hMO) rfl rfl rfl (hts _ g2) (hts _ g3) g1 hrm, hts _ g4⟩ ⟨mm_blind, hPc hsub⟩ rfl (by simp at p2; simp; omega) hL.2.1 (by show st.map (mm_v α) = _; rw [p1]; simp) hroom hd hfit
        · cases h
      · cases h
    · rename_i i hi
      rw [hi] at hdd
      obtain ⟨hd, hpc⟩ := hdd rfl
      split at h
      · rename_i i' np y' hml
        obtain ⟨hmm, hme⟩ := mm_mlk_mem hml
        have hme : i' = i := hme
        subst hme
        split at h
        · rename_i as' st'' hpop
          simp only [Option.some.injEq, Prod.mk.injEq] at h
          obtain ⟨h0, hy0, ha0, hs0, hp0⟩ := h
          subst h0 hy0 ha0 hs0 hp0
          obtain ⟨p1, p2⟩ := mm_pop_ok _ _ _ _ _ hpop
          obtain ⟨g1, g2, -, -, g3, -⟩ := hK.2.2 _ hmm
          obtain ⟨g3, g4, g5⟩ := g3 rfl
          obtain ⟨g, j, as'', rfl⟩ := mm_rcv2 (by decide) hrv
          have p1 : st = as''.reverse ++ .inr (some (g, j)) :: st'' := by simpa using p1
          have hsub : ∀ v ∈ Sum.inr (some (g, j)) :: as'', v ∈ st := fun v hv => by
            rw [p1]
            rcases List.mem_cons.mp hv with rfl | hv
            · simp
            · simp [hv]
          have hno := hret (by decide)
          refine mm_call_tail (a := ((Sum.inr (some (g, j)) :: as'').map (mm_v α)).toArray) hpc hn1 (fun v hv => by rw [p1]; simp [hv]) hQ hZ ?_
          exact va_runI (bytes := K'.1.2.1) (maxL := K'.1.2.2.1) (n := np) ⟨hC.1, hC.2.1, hC.2.2.1, hC.2.2.2.2.2.1, hts⟩ hM ⟨callB_of np hts (mm_good K' hMO) (by unfold mm_ws; rw [hno]) rfl rfl (hts _ g2) (hts _ g3) g1 hrm, g5, hts _ g4⟩ ⟨mm_blind, hPc hsub⟩ rfl (by simp at p2; simp; omega) hL.2.1 (by show st.map (mm_v α) = _; rw [p1]; simp; rfl) hroom hd hfit
        · cases h
      · rename_i i' np y' hml
        obtain ⟨hmm, hme⟩ := mm_mlk_mem hml
        have hme : i' = i := hme
        subst hme
        split at h
        · rename_i as' st'' hpop
          simp only [Option.some.injEq, Prod.mk.injEq] at h
          obtain ⟨h0, hy0, ha0, hs0, hp0⟩ := h
          subst h0 hy0 ha0 hs0 hp0
          obtain ⟨p1, p2⟩ := mm_pop_ok _ _ _ _ _ hpop
          obtain ⟨g1, g2, -, -, -, g3⟩ := hK.2.2 _ hmm
          obtain ⟨g3, g4, g5⟩ := g3 rfl
          obtain ⟨g, j, as'', rfl⟩ := mm_rcv2 (by decide) hrv
          have p1 : st = as''.reverse ++ .inr (some (g, j)) :: st'' := by simpa using p1
          have hsub : ∀ v ∈ Sum.inr (some (g, j)) :: as'', v ∈ st := fun v hv => by
            rw [p1]
            rcases List.mem_cons.mp hv with rfl | hv
            · simp
            · simp [hv]
          have hno := hret (by decide)
          refine mm_call_tail (a := ((Sum.inr (some (g, j)) :: as'').map (mm_v α)).toArray) hpc hn1 (fun v hv => by rw [p1]; simp [hv]) hQ hZ ?_
          exact va_runIN (bytes := K'.1.2.1) (maxL := K'.1.2.2.1) (n := np) ⟨hC.1, hC.2.1, hC.2.2.1, hC.2.2.2.2.2.1, hts⟩ hM ⟨va_cnB np hts (mm_good K' hMO) (by unfold mm_ws; rw [hno]) rfl rfl (hC.2.2.2.2.2.2.2.2.2.2.2.2.1 _ g3) (hts _ g2) g1 hrm, g5, hts _ g4⟩ ⟨mm_blind, hPc hsub⟩ rfl (by simp at p2; simp; omega) hL.2.1 (by show st.map (mm_v α) = _; rw [p1]; simp; rfl) hroom hd hfit
        · cases h
      · cases h
    · cases h
theorem k_call0 {kind pc' : Nat} {y : MethodName} {as st' : List mm_V} {Q1 : Option mm_V → mm_B → mm_M → Prop} (h : mm_clk K.2.2.1 K.2.2.2.2.2 pc st = some (kind, y, as, st', pc')) (hE : mm_Ev K' (0, 0) as b w Q1) (hy : y = K'.1.1) (hrk : mm_rok K K' st' = true) (hrv : mm_rcv kind as K'.2.1.2.2 = true) (hret : kind = 2 ∨ kind = 3 → K'.1.2.2.2.1 = none)
    (hQ : ∀ r b' w', Q1 r b' w' → mm_Wk K n pc' ls (mm_pu r st') b' w' Q) : mm_Wk K n pc ls st b w Q := k_call h hE hy hrk hrv hret ⟨rfl, rfl⟩ hQ
/-- the one answer, phase and memory -/
def mm_pe (r : Option mm_V) (b : mm_B) (w : mm_M) : Option mm_V → mm_B → mm_M → Prop := fun a b' w' => a = r ∧ b' = b ∧ w' = w
theorem k_callp {kind pc' : Nat} {y : MethodName} {as st' : List mm_V} {r : Option mm_V} {b1 : mm_B} {w1 : mm_M} (h : mm_clk K.2.2.1 K.2.2.2.2.2 pc st = some (kind, y, as, st', pc')) (hE : mm_Ev K' (0, 0) as b w (mm_pe r b1 w1)) (hy : y = K'.1.1) (hrk : mm_rok K K' st' = true) (hrv : mm_rcv kind as K'.2.1.2.2 = true) (hret : kind = 2 ∨ kind = 3 → K'.1.2.2.2.1 = none)
    (k : mm_Wk K n pc' ls (mm_pu r st') b1 w1 Q) : mm_Wk K n pc ls st b w Q := k_call0 h hE hy hrk hrv hret (fun _ _ _ q => by obtain ⟨rfl, rfl, rfl⟩ := q; exact k)
def mm_ent (as : List mm_V) (nL : Nat) : List (Option mm_V) := as.map some ++ List.replicate (nL - as.length) none
theorem mm_nth_get {α : Type} (l : List α) (i : Nat) : mm_nth l i = l[i]? := by
  induction l generalizing i with
  | nil => simp [mm_nth]
  | cons a r ih =>
    cases i with
    | zero => rfl
    | succ i => simpa [mm_nth] using ih i
theorem mm_lva (vs : List Value) (h : ∀ v ∈ vs, v.category = 1) : ∀ (k i : Nat) (v : Value), vs[i]? = some v → (k + i, v) ∈ lv_args k vs := by
  induction vs with
  | nil => intro k i v hv; simp at hv
  | cons a r ih =>
    intro k i v hv
    unfold lv_args
    cases i with
    | zero => simp at hv; subst hv; exact List.mem_cons_self
    | succ i =>
      have ha : ¬ a.category = 2 := by rw [h a List.mem_cons_self]; decide
      rw [if_neg ha]
      have := ih (fun v hv => h v (List.mem_cons_of_mem _ hv)) (k + 1) i v (by simpa using hv)
      rw [show k + 1 + i = k + (i + 1) by omega] at this
      exact List.mem_cons_of_mem _ this
theorem mm_lgl (vs : List Value) (h : ∀ v ∈ vs, v.category = 1) : (lg_sl vs).length = vs.length := by
  induction vs with
  | nil => rfl
  | cons a r ih =>
    have ha : ¬ a.category = 2 := by rw [h a List.mem_cons_self]; decide
    have := ih (fun v hv => h v (List.mem_cons_of_mem _ hv))
    simp only [lg_sl] at this
    simp [lg_sl, ha, this]
/-- a contract, out of the walk of the body -/
theorem ev_intro {as : List mm_V} (hKO : mm_KO K) (hMO : mm_MO K) (hlen : as.length ≤ K.1.2.2.1) (k : mm_rg w → (∀ v ∈ as, mm_ok b v) → mm_Wk K n 0 (mm_ent as K.1.2.2.1) [] b w Q) : mm_Ev K n as b w Q := by
  refine ⟨hMO, fun l X α sz => ?_⟩
  refine Met.ofW (cc := K.1.2.1) (maxL := K.1.2.2.1) (ret := K.1.2.2.2.1) hMO.2.2.1 rfl ?_
  intro p e s m args below meth c s₁ B hml hv
  obtain ⟨rfl, hsz, hP, hKk, hD0, hrg, hph, has, hEE⟩ := hv
  have hts := atoms_spec (ws := mm_ws K) B.pre
  have hown : s.vm.findClass K.1.1.cls = some m.cls := findClass_of_methodNamed B.named
  rw [hMO.2.2.2] at hown
  subst hsz
  have hcat : ∀ v ∈ as.map (mm_v α), v.category = 1 := fun v hv => by
    obtain ⟨u, -, rfl⟩ := List.mem_map.mp hv
    exact mm_cat α u
  have hl := lv_entry (as.map (mm_v α)) (n := K.1.2.2.1) (by rw [mm_lgl _ hcat, List.length_map]; exact hlen)
  rw [lg_entry_eq]
  refine k hrg has p l e _ s m _ below meth c X α b (va_A (mm_wl X α b w) s.heap.size) s.heap [] 0 0 α _ ⟨⟨B.exec, B.bytes, hml, B.returns, B.notSynchronized, hown, fun w hw => hts w (List.mem_cons_of_mem _ hw), hKk, (name_of_methodNamed B.named B.method).1, rfl, rfl, hKO, hEE⟩, ⟨hP, hD0.self, hrg, hph⟩, fun q h => Or.inr h, va_S.rf, fun g hg => ⟨hg, fun j => rfl⟩, ⟨?_, hl.1, hl.2.1, ?_⟩, fun v hv => (by cases hv), Nat.le_of_eq (Nat.zero_add _), Nat.le_of_eq (Nat.zero_add _)⟩
  · unfold mm_ent
    simp
    omega
  · intro i v hv
    have hv2 : as[i]? = some v := by
      unfold mm_ent at hv
      rw [mm_nth_get] at hv
      by_cases hi : i < as.length
      · rw [List.getElem?_append_left (by simpa using hi), List.getElem?_map] at hv
        cases h9 : as[i]? with
        | none => rw [h9] at hv; cases hv
        | some u => rw [h9] at hv; cases hv; rfl
      · rw [List.getElem?_append_right (by simp; omega)] at hv
        have := List.mem_of_getElem? hv
        have := (List.mem_replicate.mp this).2
        cases this
    refine ⟨?_, has v (List.mem_of_getElem? hv2)⟩
    have := mm_lva (as.map (mm_v α)) hcat 0 i (mm_v α v) (by rw [List.getElem?_map, hv2]; rfl)
    rw [Nat.zero_add] at this
    exact hl.2.2 _ this
theorem ev_conseq {as : List mm_V} {Q' : Option mm_V → mm_B → mm_M → Prop} (h : mm_Ev K n as b w Q') (hq : ∀ r b' w', Q' r b' w' → Q r b' w') : mm_Ev K n as b w Q := by
  refine ⟨h.1, fun l X α sz => ?_⟩
  intro p e ha hc hk s m args below hf happ hP hT
  obtain ⟨t, o, a1, b1, b2, ⟨⟨⟨r, b', w', α', q1, q2, q3⟩, q4⟩, b4⟩⟩ := h.2 l X α sz p e ha hc hk s m args below hf happ hP hT
  exact ⟨t, o, a1, b1, b2, ⟨⟨⟨r, b', w', α', q1, hq _ _ _ q2, q3⟩, q4⟩, b4⟩⟩
end MMR6
end
