section
-- ===== PART A: goes FIRST, ahead of the names: the tables' words, and 'selects' of the private methods out of them =====
/-- a private method of a class that the tables say can be made, by its rows of tables_1 -/
def lw_okq (q : MethodName × Nat) : Prop := (q.1.cls ≠ "java/lang/invoke/MethodHandle" ∧ q.1.cls ≠ "java/lang/invoke/VarHandle") ∧ Cond.instantiable q.1.cls q.2 ∈ tables_1 ∧ Cond.privateMethod q.1 ∈ tables_1 ∧ Cond.instanceMethod q.1 ∈ tables_1
theorem lw_p0 : lw_okq (⟨"ChartForest$Chart", "empty", "(I)V"⟩, 8) := ⟨⟨by decide +kernel, by decide +kernel⟩, List.mem_of_getElem? (i := 67) (by decide +kernel), List.mem_of_getElem? (i := 186) (by decide +kernel), List.mem_of_getElem? (i := 187) (by decide +kernel)⟩
theorem lw_p1 : lw_okq (⟨"ChartForest$Chart", "put", "(III)V"⟩, 8) := ⟨⟨by decide +kernel, by decide +kernel⟩, List.mem_of_getElem? (i := 67) (by decide +kernel), List.mem_of_getElem? (i := 191) (by decide +kernel), List.mem_of_getElem? (i := 192) (by decide +kernel)⟩
theorem lw_p2 : lw_okq (⟨"ChartForest$Chart", "close", "(I)V"⟩, 8) := ⟨⟨by decide +kernel, by decide +kernel⟩, List.mem_of_getElem? (i := 67) (by decide +kernel), List.mem_of_getElem? (i := 199) (by decide +kernel), List.mem_of_getElem? (i := 200) (by decide +kernel)⟩
theorem lw_p3 : lw_okq (⟨"ChartForest$Chart", "leftSide", "(I)I"⟩, 8) := ⟨⟨by decide +kernel, by decide +kernel⟩, List.mem_of_getElem? (i := 67) (by decide +kernel), List.mem_of_getElem? (i := 203) (by decide +kernel), List.mem_of_getElem? (i := 204) (by decide +kernel)⟩
theorem lw_p4 : lw_okq (⟨"ChartForest$Chart", "complete", "(III)V"⟩, 8) := ⟨⟨by decide +kernel, by decide +kernel⟩, List.mem_of_getElem? (i := 67) (by decide +kernel), List.mem_of_getElem? (i := 211) (by decide +kernel), List.mem_of_getElem? (i := 212) (by decide +kernel)⟩
theorem lw_p5 : lw_okq (⟨"ChartForest$Chart", "advance", "(III)V"⟩, 8) := ⟨⟨by decide +kernel, by decide +kernel⟩, List.mem_of_getElem? (i := 67) (by decide +kernel), List.mem_of_getElem? (i := 215) (by decide +kernel), List.mem_of_getElem? (i := 216) (by decide +kernel)⟩
theorem lw_p6 : lw_okq (⟨"ChartForest$Chart", "predict", "(II)V"⟩, 8) := ⟨⟨by decide +kernel, by decide +kernel⟩, List.mem_of_getElem? (i := 67) (by decide +kernel), List.mem_of_getElem? (i := 222) (by decide +kernel), List.mem_of_getElem? (i := 223) (by decide +kernel)⟩
theorem lw_p7 : lw_okq (⟨"ChartForest$Forest", "findDeriving", "(II)V"⟩, 8) := ⟨⟨by decide +kernel, by decide +kernel⟩, List.mem_of_getElem? (i := 101) (by decide +kernel), List.mem_of_getElem? (i := 271) (by decide +kernel), List.mem_of_getElem? (i := 272) (by decide +kernel)⟩
theorem lw_p8 : lw_okq (⟨"ChartForest$Ways", "gatherRule", "(I)V"⟩, 8) := ⟨⟨by decide +kernel, by decide +kernel⟩, List.mem_of_getElem? (i := 123) (by decide +kernel), List.mem_of_getElem? (i := 283) (by decide +kernel), List.mem_of_getElem? (i := 284) (by decide +kernel)⟩
theorem lw_p9 : lw_okq (⟨"ChartForest$Ways", "keep", "(IIIJ)V"⟩, 8) := ⟨⟨by decide +kernel, by decide +kernel⟩, List.mem_of_getElem? (i := 123) (by decide +kernel), List.mem_of_getElem? (i := 302) (by decide +kernel), List.mem_of_getElem? (i := 303) (by decide +kernel)⟩
theorem lw_p10 : lw_okq (⟨"ChartForest$Forest", "countTrees", "(II)V"⟩, 8) := ⟨⟨by decide +kernel, by decide +kernel⟩, List.mem_of_getElem? (i := 101) (by decide +kernel), List.mem_of_getElem? (i := 307) (by decide +kernel), List.mem_of_getElem? (i := 308) (by decide +kernel)⟩
theorem lw_p11 : lw_okq (⟨"ChartForest$Forest", "meet", "(I)V"⟩, 8) := ⟨⟨by decide +kernel, by decide +kernel⟩, List.mem_of_getElem? (i := 101) (by decide +kernel), List.mem_of_getElem? (i := 330) (by decide +kernel), List.mem_of_getElem? (i := 331) (by decide +kernel)⟩
theorem lw_p12 : lw_okq (⟨"ChartForest$Forest", "gatherCell", "(I)V"⟩, 8) := ⟨⟨by decide +kernel, by decide +kernel⟩, List.mem_of_getElem? (i := 101) (by decide +kernel), List.mem_of_getElem? (i := 334) (by decide +kernel), List.mem_of_getElem? (i := 335) (by decide +kernel)⟩
theorem lw_p13 : lw_okq (⟨"ChartForest$Forest", "meetParts", "(I)V"⟩, 8) := ⟨⟨by decide +kernel, by decide +kernel⟩, List.mem_of_getElem? (i := 101) (by decide +kernel), List.mem_of_getElem? (i := 338) (by decide +kernel), List.mem_of_getElem? (i := 339) (by decide +kernel)⟩
theorem lw_p14 : lw_okq (⟨"ChartForest$Forest", "partCell", "(II)I"⟩, 8) := ⟨⟨by decide +kernel, by decide +kernel⟩, List.mem_of_getElem? (i := 101) (by decide +kernel), List.mem_of_getElem? (i := 347) (by decide +kernel), List.mem_of_getElem? (i := 348) (by decide +kernel)⟩
theorem lw_p15 : lw_okq (⟨"java/lang/Throwable", "fillInStackTrace", "(I)Ljava/lang/Throwable;"⟩, 6) := ⟨⟨by decide +kernel, by decide +kernel⟩, List.mem_of_getElem? (i := 414) (by decide +kernel), List.mem_of_getElem? (i := 412) (by decide +kernel), List.mem_of_getElem? (i := 413) (by decide +kernel)⟩
def lw_privs_1 : List (MethodName × Nat) := [(⟨"ChartForest$Chart", "empty", "(I)V"⟩, 8), (⟨"ChartForest$Chart", "put", "(III)V"⟩, 8), (⟨"ChartForest$Chart", "close", "(I)V"⟩, 8), (⟨"ChartForest$Chart", "leftSide", "(I)I"⟩, 8), (⟨"ChartForest$Chart", "complete", "(III)V"⟩, 8), (⟨"ChartForest$Chart", "advance", "(III)V"⟩, 8), (⟨"ChartForest$Chart", "predict", "(II)V"⟩, 8), (⟨"ChartForest$Forest", "findDeriving", "(II)V"⟩, 8), (⟨"ChartForest$Ways", "gatherRule", "(I)V"⟩, 8), (⟨"ChartForest$Ways", "keep", "(IIIJ)V"⟩, 8), (⟨"ChartForest$Forest", "countTrees", "(II)V"⟩, 8), (⟨"ChartForest$Forest", "meet", "(I)V"⟩, 8), (⟨"ChartForest$Forest", "gatherCell", "(I)V"⟩, 8), (⟨"ChartForest$Forest", "meetParts", "(I)V"⟩, 8), (⟨"ChartForest$Forest", "partCell", "(II)I"⟩, 8), (⟨"java/lang/Throwable", "fillInStackTrace", "(I)Ljava/lang/Throwable;"⟩, 6)]
theorem lw_r1 : ∀ q ∈ lw_privs_1, lw_okq q := List.forall_mem_cons.mpr ⟨lw_p0, List.forall_mem_cons.mpr ⟨lw_p1, List.forall_mem_cons.mpr ⟨lw_p2, List.forall_mem_cons.mpr ⟨lw_p3, List.forall_mem_cons.mpr ⟨lw_p4, List.forall_mem_cons.mpr ⟨lw_p5, List.forall_mem_cons.mpr ⟨lw_p6, List.forall_mem_cons.mpr ⟨lw_p7, List.forall_mem_cons.mpr ⟨lw_p8, List.forall_mem_cons.mpr ⟨lw_p9, List.forall_mem_cons.mpr ⟨lw_p10, List.forall_mem_cons.mpr ⟨lw_p11, List.forall_mem_cons.mpr ⟨lw_p12, List.forall_mem_cons.mpr ⟨lw_p13, List.forall_mem_cons.mpr ⟨lw_p14, List.forall_mem_cons.mpr ⟨lw_p15, fun _ h => absurd h List.not_mem_nil⟩⟩⟩⟩⟩⟩⟩⟩⟩⟩⟩⟩⟩⟩⟩⟩
theorem lw_p16 : lw_okq (⟨"ChartForest$Chart", "nameLeaps", "(I)V"⟩, 8) := ⟨⟨by decide +kernel, by decide +kernel⟩, List.mem_of_getElem? (i := 67) (by decide +kernel), List.mem_of_getElem? (i := 498) (by decide +kernel), List.mem_of_getElem? (i := 499) (by decide +kernel)⟩
theorem lw_p17 : lw_okq (⟨"ChartForest$Chart", "leapItem", "(II)I"⟩, 8) := ⟨⟨by decide +kernel, by decide +kernel⟩, List.mem_of_getElem? (i := 67) (by decide +kernel), List.mem_of_getElem? (i := 502) (by decide +kernel), List.mem_of_getElem? (i := 503) (by decide +kernel)⟩
theorem lw_p18 : lw_okq (⟨"ChartForest$Chart", "loneSlot", "(II)I"⟩, 8) := ⟨⟨by decide +kernel, by decide +kernel⟩, List.mem_of_getElem? (i := 67) (by decide +kernel), List.mem_of_getElem? (i := 506) (by decide +kernel), List.mem_of_getElem? (i := 507) (by decide +kernel)⟩
theorem lw_p19 : lw_okq (⟨"ChartForest", "isSet", "(I)Z"⟩, 4) := ⟨⟨by decide +kernel, by decide +kernel⟩, List.mem_of_getElem? (i := 19) (by decide +kernel), List.mem_of_getElem? (i := 531) (by decide +kernel), List.mem_of_getElem? (i := 532) (by decide +kernel)⟩
theorem lw_p20 : lw_okq (⟨"ChartForest", "isStretch", "(II)Z"⟩, 4) := ⟨⟨by decide +kernel, by decide +kernel⟩, List.mem_of_getElem? (i := 19) (by decide +kernel), List.mem_of_getElem? (i := 575) (by decide +kernel), List.mem_of_getElem? (i := 576) (by decide +kernel)⟩
theorem lw_p21 : lw_okq (⟨"ChartForest$Forest", "push", "(IJ)V"⟩, 8) := ⟨⟨by decide +kernel, by decide +kernel⟩, List.mem_of_getElem? (i := 101) (by decide +kernel), List.mem_of_getElem? (i := 602) (by decide +kernel), List.mem_of_getElem? (i := 603) (by decide +kernel)⟩
theorem lw_p22 : lw_okq (⟨"ChartForest$Forest", "pushParts", "(IJ)V"⟩, 8) := ⟨⟨by decide +kernel, by decide +kernel⟩, List.mem_of_getElem? (i := 101) (by decide +kernel), List.mem_of_getElem? (i := 607) (by decide +kernel), List.mem_of_getElem? (i := 608) (by decide +kernel)⟩
theorem lw_p23 : lw_okq (⟨"ChartForestModel", "makeSet", "(I)V"⟩, 19) := ⟨⟨by decide +kernel, by decide +kernel⟩, List.mem_of_getElem? (i := 617) (by decide +kernel), List.mem_of_getElem? (i := 623) (by decide +kernel), List.mem_of_getElem? (i := 624) (by decide +kernel)⟩
theorem lw_p24 : lw_okq (⟨"ChartForestModel", "behind", "(II)I"⟩, 19) := ⟨⟨by decide +kernel, by decide +kernel⟩, List.mem_of_getElem? (i := 617) (by decide +kernel), List.mem_of_getElem? (i := 627) (by decide +kernel), List.mem_of_getElem? (i := 628) (by decide +kernel)⟩
theorem lw_p25 : lw_okq (⟨"ChartForestModel", "lengthOf", "(I)I"⟩, 19) := ⟨⟨by decide +kernel, by decide +kernel⟩, List.mem_of_getElem? (i := 617) (by decide +kernel), List.mem_of_getElem? (i := 631) (by decide +kernel), List.mem_of_getElem? (i := 632) (by decide +kernel)⟩
theorem lw_p26 : lw_okq (⟨"ChartForestModel", "close", "(I)V"⟩, 19) := ⟨⟨by decide +kernel, by decide +kernel⟩, List.mem_of_getElem? (i := 617) (by decide +kernel), List.mem_of_getElem? (i := 635) (by decide +kernel), List.mem_of_getElem? (i := 636) (by decide +kernel)⟩
theorem lw_p27 : lw_okq (⟨"ChartForestModel", "follow", "(IIII)I"⟩, 19) := ⟨⟨by decide +kernel, by decide +kernel⟩, List.mem_of_getElem? (i := 617) (by decide +kernel), List.mem_of_getElem? (i := 639) (by decide +kernel), List.mem_of_getElem? (i := 640) (by decide +kernel)⟩
theorem lw_p28 : lw_okq (⟨"ChartForestModel", "add", "(IIII)I"⟩, 19) := ⟨⟨by decide +kernel, by decide +kernel⟩, List.mem_of_getElem? (i := 617) (by decide +kernel), List.mem_of_getElem? (i := 646) (by decide +kernel), List.mem_of_getElem? (i := 647) (by decide +kernel)⟩
theorem lw_p29 : lw_okq (⟨"ChartForestModel", "leapOf", "(II)I"⟩, 19) := ⟨⟨by decide +kernel, by decide +kernel⟩, List.mem_of_getElem? (i := 617) (by decide +kernel), List.mem_of_getElem? (i := 653) (by decide +kernel), List.mem_of_getElem? (i := 654) (by decide +kernel)⟩
theorem lw_p30 : lw_okq (⟨"ChartForestModel", "refuse", "(I)I"⟩, 19) := ⟨⟨by decide +kernel, by decide +kernel⟩, List.mem_of_getElem? (i := 617) (by decide +kernel), List.mem_of_getElem? (i := 723) (by decide +kernel), List.mem_of_getElem? (i := 724) (by decide +kernel)⟩
theorem lw_p31 : lw_okq (⟨"ChartForestModel", "expectedIn", "(I)I"⟩, 19) := ⟨⟨by decide +kernel, by decide +kernel⟩, List.mem_of_getElem? (i := 617) (by decide +kernel), List.mem_of_getElem? (i := 734) (by decide +kernel), List.mem_of_getElem? (i := 735) (by decide +kernel)⟩
def lw_privs_2 : List (MethodName × Nat) := [(⟨"ChartForest$Chart", "nameLeaps", "(I)V"⟩, 8), (⟨"ChartForest$Chart", "leapItem", "(II)I"⟩, 8), (⟨"ChartForest$Chart", "loneSlot", "(II)I"⟩, 8), (⟨"ChartForest", "isSet", "(I)Z"⟩, 4), (⟨"ChartForest", "isStretch", "(II)Z"⟩, 4), (⟨"ChartForest$Forest", "push", "(IJ)V"⟩, 8), (⟨"ChartForest$Forest", "pushParts", "(IJ)V"⟩, 8), (⟨"ChartForestModel", "makeSet", "(I)V"⟩, 19), (⟨"ChartForestModel", "behind", "(II)I"⟩, 19), (⟨"ChartForestModel", "lengthOf", "(I)I"⟩, 19), (⟨"ChartForestModel", "close", "(I)V"⟩, 19), (⟨"ChartForestModel", "follow", "(IIII)I"⟩, 19), (⟨"ChartForestModel", "add", "(IIII)I"⟩, 19), (⟨"ChartForestModel", "leapOf", "(II)I"⟩, 19), (⟨"ChartForestModel", "refuse", "(I)I"⟩, 19), (⟨"ChartForestModel", "expectedIn", "(I)I"⟩, 19)]
theorem lw_r2 : ∀ q ∈ lw_privs_2, lw_okq q := List.forall_mem_cons.mpr ⟨lw_p16, List.forall_mem_cons.mpr ⟨lw_p17, List.forall_mem_cons.mpr ⟨lw_p18, List.forall_mem_cons.mpr ⟨lw_p19, List.forall_mem_cons.mpr ⟨lw_p20, List.forall_mem_cons.mpr ⟨lw_p21, List.forall_mem_cons.mpr ⟨lw_p22, List.forall_mem_cons.mpr ⟨lw_p23, List.forall_mem_cons.mpr ⟨lw_p24, List.forall_mem_cons.mpr ⟨lw_p25, List.forall_mem_cons.mpr ⟨lw_p26, List.forall_mem_cons.mpr ⟨lw_p27, List.forall_mem_cons.mpr ⟨lw_p28, List.forall_mem_cons.mpr ⟨lw_p29, List.forall_mem_cons.mpr ⟨lw_p30, List.forall_mem_cons.mpr ⟨lw_p31, fun _ h => absurd h List.not_mem_nil⟩⟩⟩⟩⟩⟩⟩⟩⟩⟩⟩⟩⟩⟩⟩⟩
theorem lw_p32 : lw_okq (⟨"ChartForestModel", "sizeOf", "(I)I"⟩, 19) := ⟨⟨by decide +kernel, by decide +kernel⟩, List.mem_of_getElem? (i := 617) (by decide +kernel), List.mem_of_getElem? (i := 738) (by decide +kernel), List.mem_of_getElem? (i := 739) (by decide +kernel)⟩
theorem lw_p33 : lw_okq (⟨"ChartForestModel", "holds", "(IIII)Z"⟩, 19) := ⟨⟨by decide +kernel, by decide +kernel⟩, List.mem_of_getElem? (i := 617) (by decide +kernel), List.mem_of_getElem? (i := 754) (by decide +kernel), List.mem_of_getElem? (i := 755) (by decide +kernel)⟩
theorem lw_p34 : lw_okq (⟨"ChartForestModel", "isSet", "(I)Z"⟩, 19) := ⟨⟨by decide +kernel, by decide +kernel⟩, List.mem_of_getElem? (i := 617) (by decide +kernel), List.mem_of_getElem? (i := 766) (by decide +kernel), List.mem_of_getElem? (i := 767) (by decide +kernel)⟩
theorem lw_p35 : lw_okq (⟨"ChartForestModel", "isStretch", "(III)Z"⟩, 19) := ⟨⟨by decide +kernel, by decide +kernel⟩, List.mem_of_getElem? (i := 617) (by decide +kernel), List.mem_of_getElem? (i := 782) (by decide +kernel), List.mem_of_getElem? (i := 783) (by decide +kernel)⟩
theorem lw_p36 : lw_okq (⟨"ChartForestModel", "work", "()V"⟩, 19) := ⟨⟨by decide +kernel, by decide +kernel⟩, List.mem_of_getElem? (i := 617) (by decide +kernel), List.mem_of_getElem? (i := 786) (by decide +kernel), List.mem_of_getElem? (i := 787) (by decide +kernel)⟩
theorem lw_p37 : lw_okq (⟨"ChartForestModel", "findDerived", "()V"⟩, 19) := ⟨⟨by decide +kernel, by decide +kernel⟩, List.mem_of_getElem? (i := 617) (by decide +kernel), List.mem_of_getElem? (i := 790) (by decide +kernel), List.mem_of_getElem? (i := 791) (by decide +kernel)⟩
theorem lw_p38 : lw_okq (⟨"ChartForestModel", "waysBy", "(III)I"⟩, 19) := ⟨⟨by decide +kernel, by decide +kernel⟩, List.mem_of_getElem? (i := 617) (by decide +kernel), List.mem_of_getElem? (i := 797) (by decide +kernel), List.mem_of_getElem? (i := 798) (by decide +kernel)⟩
theorem lw_p39 : lw_okq (⟨"ChartForestModel", "firstCuts", "(I)V"⟩, 19) := ⟨⟨by decide +kernel, by decide +kernel⟩, List.mem_of_getElem? (i := 617) (by decide +kernel), List.mem_of_getElem? (i := 801) (by decide +kernel), List.mem_of_getElem? (i := 802) (by decide +kernel)⟩
theorem lw_p40 : lw_okq (⟨"ChartForestModel", "isWay", "(III)Z"⟩, 19) := ⟨⟨by decide +kernel, by decide +kernel⟩, List.mem_of_getElem? (i := 617) (by decide +kernel), List.mem_of_getElem? (i := 805) (by decide +kernel), List.mem_of_getElem? (i := 806) (by decide +kernel)⟩
theorem lw_p41 : lw_okq (⟨"ChartForestModel", "cut", "(IIII)I"⟩, 19) := ⟨⟨by decide +kernel, by decide +kernel⟩, List.mem_of_getElem? (i := 617) (by decide +kernel), List.mem_of_getElem? (i := 809) (by decide +kernel), List.mem_of_getElem? (i := 810) (by decide +kernel)⟩
theorem lw_p42 : lw_okq (⟨"ChartForestModel", "isDerived", "(III)Z"⟩, 19) := ⟨⟨by decide +kernel, by decide +kernel⟩, List.mem_of_getElem? (i := 617) (by decide +kernel), List.mem_of_getElem? (i := 813) (by decide +kernel), List.mem_of_getElem? (i := 814) (by decide +kernel)⟩
theorem lw_p43 : lw_okq (⟨"ChartForestModel", "nextCuts", "(II)Z"⟩, 19) := ⟨⟨by decide +kernel, by decide +kernel⟩, List.mem_of_getElem? (i := 617) (by decide +kernel), List.mem_of_getElem? (i := 817) (by decide +kernel), List.mem_of_getElem? (i := 818) (by decide +kernel)⟩
theorem lw_p44 : lw_okq (⟨"ChartForestModel", "sum", "(III)J"⟩, 19) := ⟨⟨by decide +kernel, by decide +kernel⟩, List.mem_of_getElem? (i := 617) (by decide +kernel), List.mem_of_getElem? (i := 822) (by decide +kernel), List.mem_of_getElem? (i := 823) (by decide +kernel)⟩
theorem lw_p45 : lw_okq (⟨"ChartForestModel", "byWay", "(III)J"⟩, 19) := ⟨⟨by decide +kernel, by decide +kernel⟩, List.mem_of_getElem? (i := 617) (by decide +kernel), List.mem_of_getElem? (i := 826) (by decide +kernel), List.mem_of_getElem? (i := 827) (by decide +kernel)⟩
theorem lw_p46 : lw_okq (⟨"ChartForestModel", "treesOf", "(III)J"⟩, 19) := ⟨⟨by decide +kernel, by decide +kernel⟩, List.mem_of_getElem? (i := 617) (by decide +kernel), List.mem_of_getElem? (i := 838) (by decide +kernel), List.mem_of_getElem? (i := 839) (by decide +kernel)⟩
theorem lw_p47 : lw_okq (⟨"ChartForestModel", "meetAll", "(III)Z"⟩, 19) := ⟨⟨by decide +kernel, by decide +kernel⟩, List.mem_of_getElem? (i := 617) (by decide +kernel), List.mem_of_getElem? (i := 846) (by decide +kernel), List.mem_of_getElem? (i := 847) (by decide +kernel)⟩
def lw_privs_3 : List (MethodName × Nat) := [(⟨"ChartForestModel", "sizeOf", "(I)I"⟩, 19), (⟨"ChartForestModel", "holds", "(IIII)Z"⟩, 19), (⟨"ChartForestModel", "isSet", "(I)Z"⟩, 19), (⟨"ChartForestModel", "isStretch", "(III)Z"⟩, 19), (⟨"ChartForestModel", "work", "()V"⟩, 19), (⟨"ChartForestModel", "findDerived", "()V"⟩, 19), (⟨"ChartForestModel", "waysBy", "(III)I"⟩, 19), (⟨"ChartForestModel", "firstCuts", "(I)V"⟩, 19), (⟨"ChartForestModel", "isWay", "(III)Z"⟩, 19), (⟨"ChartForestModel", "cut", "(IIII)I"⟩, 19), (⟨"ChartForestModel", "isDerived", "(III)Z"⟩, 19), (⟨"ChartForestModel", "nextCuts", "(II)Z"⟩, 19), (⟨"ChartForestModel", "sum", "(III)J"⟩, 19), (⟨"ChartForestModel", "byWay", "(III)J"⟩, 19), (⟨"ChartForestModel", "treesOf", "(III)J"⟩, 19), (⟨"ChartForestModel", "meetAll", "(III)Z"⟩, 19)]
theorem lw_r3 : ∀ q ∈ lw_privs_3, lw_okq q := List.forall_mem_cons.mpr ⟨lw_p32, List.forall_mem_cons.mpr ⟨lw_p33, List.forall_mem_cons.mpr ⟨lw_p34, List.forall_mem_cons.mpr ⟨lw_p35, List.forall_mem_cons.mpr ⟨lw_p36, List.forall_mem_cons.mpr ⟨lw_p37, List.forall_mem_cons.mpr ⟨lw_p38, List.forall_mem_cons.mpr ⟨lw_p39, List.forall_mem_cons.mpr ⟨lw_p40, List.forall_mem_cons.mpr ⟨lw_p41, List.forall_mem_cons.mpr ⟨lw_p42, List.forall_mem_cons.mpr ⟨lw_p43, List.forall_mem_cons.mpr ⟨lw_p44, List.forall_mem_cons.mpr ⟨lw_p45, List.forall_mem_cons.mpr ⟨lw_p46, List.forall_mem_cons.mpr ⟨lw_p47, fun _ h => absurd h List.not_mem_nil⟩⟩⟩⟩⟩⟩⟩⟩⟩⟩⟩⟩⟩⟩⟩⟩
theorem lw_p48 : lw_okq (⟨"ChartForestModel", "meet", "(III)I"⟩, 19) := ⟨⟨by decide +kernel, by decide +kernel⟩, List.mem_of_getElem? (i := 617) (by decide +kernel), List.mem_of_getElem? (i := 850) (by decide +kernel), List.mem_of_getElem? (i := 851) (by decide +kernel)⟩
theorem lw_p49 : lw_okq (⟨"ChartForestModel", "come", "(IJ)V"⟩, 19) := ⟨⟨by decide +kernel, by decide +kernel⟩, List.mem_of_getElem? (i := 617) (by decide +kernel), List.mem_of_getElem? (i := 858) (by decide +kernel), List.mem_of_getElem? (i := 859) (by decide +kernel)⟩
theorem lw_p50 : lw_okq (⟨"ChartForestModel", "takeRoot", "(IJ)I"⟩, 19) := ⟨⟨by decide +kernel, by decide +kernel⟩, List.mem_of_getElem? (i := 617) (by decide +kernel), List.mem_of_getElem? (i := 862) (by decide +kernel), List.mem_of_getElem? (i := 863) (by decide +kernel)⟩
theorem lw_p51 : lw_okq (⟨"ChartForestModel", "comeAll", "(IIIJ)V"⟩, 19) := ⟨⟨by decide +kernel, by decide +kernel⟩, List.mem_of_getElem? (i := 617) (by decide +kernel), List.mem_of_getElem? (i := 866) (by decide +kernel), List.mem_of_getElem? (i := 867) (by decide +kernel)⟩
def lw_privs_4 : List (MethodName × Nat) := [(⟨"ChartForestModel", "meet", "(III)I"⟩, 19), (⟨"ChartForestModel", "come", "(IJ)V"⟩, 19), (⟨"ChartForestModel", "takeRoot", "(IJ)I"⟩, 19), (⟨"ChartForestModel", "comeAll", "(IIIJ)V"⟩, 19)]
theorem lw_r4 : ∀ q ∈ lw_privs_4, lw_okq q := List.forall_mem_cons.mpr ⟨lw_p48, List.forall_mem_cons.mpr ⟨lw_p49, List.forall_mem_cons.mpr ⟨lw_p50, List.forall_mem_cons.mpr ⟨lw_p51, fun _ h => absurd h List.not_mem_nil⟩⟩⟩⟩
def lw_privs : List (MethodName × Nat) := lw_privs_1 ++ (lw_privs_2 ++ (lw_privs_3 ++ (lw_privs_4)))
def lw_tbl : List Cond := k2_sels lw_privs ++ tables_1
theorem lw_privs_ok : ∀ q ∈ lw_privs, lw_okq q := by
  show ∀ q ∈ lw_privs_1 ++ (lw_privs_2 ++ (lw_privs_3 ++ (lw_privs_4))), lw_okq q
  exact List.forall_mem_append.mpr ⟨lw_r1, List.forall_mem_append.mpr ⟨lw_r2, List.forall_mem_append.mpr ⟨lw_r3, lw_r4⟩⟩⟩
end
section
/-! ===== the words that travel: of the tables alone ===== -/
def mj_gw (w : Cond) : Bool := goodWord w || ((w.faceAtom && w.onTables) || (match w with | .fieldLinkNest _ _ _ _ _ _ => true | .methodLinkNest _ _ _ _ => true | .arrayOver (.array _) => true | _ => false))
def mj_tbl : List Cond := lw_tbl.filter mj_gw
/-! ===== the classes of the run and their fields (number, name, descriptor, final) ===== -/
def mj_cf : List (String × List (String × String × Bool)) := [
  ("ChartForest", [("grammar", "LChartForest$Grammar;", true), ("tape", "LChartForest$Tape;", true), ("chart", "LChartForest$Chart;", true), ("forest", "LChartForest$Forest;", true)]),
  ("ChartForest$Grammar", [("count", "I", false), ("lefts", "[I", true), ("behind", "[I", true)]),
  ("ChartForest$Tape", [("length", "I", false), ("terminals", "[I", true)]),
  ("ChartForest$Chart", [("grammar", "LChartForest$Grammar;", true), ("leaping", "Z", true), ("origins", "[[I", true), ("sizes", "[I", true), ("named", "[[I", true), ("agenda", "[I", true), ("agendaSize", "I", false), ("completeHere", "I", false)]),
  ("ChartForest$Forest", [("tape", "LChartForest$Tape;", true), ("counts", "LChartForest$Counts;", true), ("ways", "LChartForest$Ways;", true), ("readyEnds", "I", false), ("cells", "[I", true), ("met", "[Z", true), ("cellCount", "I", false), ("numbers", "[J", true)]),
  ("ChartForest$Counts", [("tape", "LChartForest$Tape;", true), ("table", "[J", true)]),
  ("ChartForest$Ways", [("grammar", "LChartForest$Grammar;", true), ("counts", "LChartForest$Counts;", true), ("from", "I", false), ("to", "I", false), ("count", "I", false), ("rules", "[I", true), ("innerCuts", "[I", true), ("trees", "[J", true)]),
  ("ChartForestModel", [("leaps", "Z", true), ("refusal", "I", false), ("rules", "I", false), ("left", "[I", false), ("lengths", "[I", false), ("body", "[I", false), ("fedCount", "I", false), ("terminals", "[I", false), ("items", "[Z", false), ("worked", "Z", false), ("derives", "[Z", false), ("counted", "[Z", false), ("number", "[J", false), ("met", "[Z", false), ("cutOne", "I", false), ("cutTwo", "I", false), ("todo", "[I", false), ("todoTree", "[J", false), ("todoCount", "I", false)]),
  ("java/lang/IllegalArgumentException", []), ("java/lang/IllegalStateException", []), ("java/lang/IndexOutOfBoundsException", []), ("java/util/NoSuchElementException", [])]
def mj_tb (q : String × List (String × String × Bool)) : vw_C := (q.1, fun k => (q.1, q.2.getD k ("", "", false)), q.2.length)
def mj_cls : List vw_C := mj_cf.map mj_tb
theorem mj_cf_in : mj_cf.all (fun q => (u_ws q.1 (mj_tb q).2.1 q.2.length).all (fun w => decide (w ∈ lw_tbl) && mj_gw w)) = true := by decide +kernel
theorem mj_cf_ty : mj_cf.all (fun q => (List.range q.2.length).all (fun k => (parseFieldDescriptor ((mj_tb q).2.1 k).2.2.1).isSome)) = true := by decide +kernel
theorem mj_cf_nm : mj_cf.all (fun q => (List.range q.2.length).all (fun a => (List.range q.2.length).all (fun b => decide (a ≠ b → ((mj_tb q).2.1 a).2.1 ≠ ((mj_tb q).2.1 b).2.1)))) = true := by decide +kernel
end
section
/-! ===== the tables' words, one by one (by program) ===== -/
theorem mw_0 : Cond.selects "ChartForest$Chart" (⟨"ChartForest$Chart", "empty", "(I)V"⟩ : MethodName) (⟨"ChartForest$Chart", "empty", "(I)V"⟩ : MethodName) ∈ mj_tbl := List.mem_filter.mpr ⟨List.mem_of_getElem? (i := 0) (by decide +kernel), rfl⟩
theorem mw_1 : Cond.selects "ChartForest$Chart" (⟨"ChartForest$Chart", "put", "(III)V"⟩ : MethodName) (⟨"ChartForest$Chart", "put", "(III)V"⟩ : MethodName) ∈ mj_tbl := List.mem_filter.mpr ⟨List.mem_of_getElem? (i := 1) (by decide +kernel), rfl⟩
theorem mw_2 : Cond.selects "ChartForest$Chart" (⟨"ChartForest$Chart", "close", "(I)V"⟩ : MethodName) (⟨"ChartForest$Chart", "close", "(I)V"⟩ : MethodName) ∈ mj_tbl := List.mem_filter.mpr ⟨List.mem_of_getElem? (i := 2) (by decide +kernel), rfl⟩
theorem mw_3 : Cond.selects "ChartForest$Chart" (⟨"ChartForest$Chart", "leftSide", "(I)I"⟩ : MethodName) (⟨"ChartForest$Chart", "leftSide", "(I)I"⟩ : MethodName) ∈ mj_tbl := List.mem_filter.mpr ⟨List.mem_of_getElem? (i := 3) (by decide +kernel), rfl⟩
theorem mw_4 : Cond.selects "ChartForest$Chart" (⟨"ChartForest$Chart", "complete", "(III)V"⟩ : MethodName) (⟨"ChartForest$Chart", "complete", "(III)V"⟩ : MethodName) ∈ mj_tbl := List.mem_filter.mpr ⟨List.mem_of_getElem? (i := 4) (by decide +kernel), rfl⟩
theorem mw_5 : Cond.selects "ChartForest$Chart" (⟨"ChartForest$Chart", "advance", "(III)V"⟩ : MethodName) (⟨"ChartForest$Chart", "advance", "(III)V"⟩ : MethodName) ∈ mj_tbl := List.mem_filter.mpr ⟨List.mem_of_getElem? (i := 5) (by decide +kernel), rfl⟩
theorem mw_6 : Cond.selects "ChartForest$Chart" (⟨"ChartForest$Chart", "predict", "(II)V"⟩ : MethodName) (⟨"ChartForest$Chart", "predict", "(II)V"⟩ : MethodName) ∈ mj_tbl := List.mem_filter.mpr ⟨List.mem_of_getElem? (i := 6) (by decide +kernel), rfl⟩
theorem mw_7 : Cond.selects "ChartForest$Forest" (⟨"ChartForest$Forest", "findDeriving", "(II)V"⟩ : MethodName) (⟨"ChartForest$Forest", "findDeriving", "(II)V"⟩ : MethodName) ∈ mj_tbl := List.mem_filter.mpr ⟨List.mem_of_getElem? (i := 7) (by decide +kernel), rfl⟩
theorem mw_8 : Cond.selects "ChartForest$Ways" (⟨"ChartForest$Ways", "gatherRule", "(I)V"⟩ : MethodName) (⟨"ChartForest$Ways", "gatherRule", "(I)V"⟩ : MethodName) ∈ mj_tbl := List.mem_filter.mpr ⟨List.mem_of_getElem? (i := 8) (by decide +kernel), rfl⟩
theorem mw_9 : Cond.selects "ChartForest$Ways" (⟨"ChartForest$Ways", "keep", "(IIIJ)V"⟩ : MethodName) (⟨"ChartForest$Ways", "keep", "(IIIJ)V"⟩ : MethodName) ∈ mj_tbl := List.mem_filter.mpr ⟨List.mem_of_getElem? (i := 9) (by decide +kernel), rfl⟩
theorem mw_10 : Cond.selects "ChartForest$Forest" (⟨"ChartForest$Forest", "countTrees", "(II)V"⟩ : MethodName) (⟨"ChartForest$Forest", "countTrees", "(II)V"⟩ : MethodName) ∈ mj_tbl := List.mem_filter.mpr ⟨List.mem_of_getElem? (i := 10) (by decide +kernel), rfl⟩
theorem mw_11 : Cond.selects "ChartForest$Forest" (⟨"ChartForest$Forest", "meet", "(I)V"⟩ : MethodName) (⟨"ChartForest$Forest", "meet", "(I)V"⟩ : MethodName) ∈ mj_tbl := List.mem_filter.mpr ⟨List.mem_of_getElem? (i := 11) (by decide +kernel), rfl⟩
theorem mw_12 : Cond.selects "ChartForest$Forest" (⟨"ChartForest$Forest", "gatherCell", "(I)V"⟩ : MethodName) (⟨"ChartForest$Forest", "gatherCell", "(I)V"⟩ : MethodName) ∈ mj_tbl := List.mem_filter.mpr ⟨List.mem_of_getElem? (i := 12) (by decide +kernel), rfl⟩
theorem mw_13 : Cond.selects "ChartForest$Forest" (⟨"ChartForest$Forest", "meetParts", "(I)V"⟩ : MethodName) (⟨"ChartForest$Forest", "meetParts", "(I)V"⟩ : MethodName) ∈ mj_tbl := List.mem_filter.mpr ⟨List.mem_of_getElem? (i := 13) (by decide +kernel), rfl⟩
theorem mw_14 : Cond.selects "ChartForest$Forest" (⟨"ChartForest$Forest", "partCell", "(II)I"⟩ : MethodName) (⟨"ChartForest$Forest", "partCell", "(II)I"⟩ : MethodName) ∈ mj_tbl := List.mem_filter.mpr ⟨List.mem_of_getElem? (i := 14) (by decide +kernel), rfl⟩
theorem mw_15 : Cond.selects "java/lang/Throwable" (⟨"java/lang/Throwable", "fillInStackTrace", "(I)Ljava/lang/Throwable;"⟩ : MethodName) (⟨"java/lang/Throwable", "fillInStackTrace", "(I)Ljava/lang/Throwable;"⟩ : MethodName) ∈ mj_tbl := List.mem_filter.mpr ⟨List.mem_of_getElem? (i := 15) (by decide +kernel), rfl⟩
theorem mw_16 : Cond.selects "ChartForest$Chart" (⟨"ChartForest$Chart", "nameLeaps", "(I)V"⟩ : MethodName) (⟨"ChartForest$Chart", "nameLeaps", "(I)V"⟩ : MethodName) ∈ mj_tbl := List.mem_filter.mpr ⟨List.mem_of_getElem? (i := 16) (by decide +kernel), rfl⟩
theorem mw_17 : Cond.selects "ChartForest$Chart" (⟨"ChartForest$Chart", "leapItem", "(II)I"⟩ : MethodName) (⟨"ChartForest$Chart", "leapItem", "(II)I"⟩ : MethodName) ∈ mj_tbl := List.mem_filter.mpr ⟨List.mem_of_getElem? (i := 17) (by decide +kernel), rfl⟩
theorem mw_18 : Cond.selects "ChartForest$Chart" (⟨"ChartForest$Chart", "loneSlot", "(II)I"⟩ : MethodName) (⟨"ChartForest$Chart", "loneSlot", "(II)I"⟩ : MethodName) ∈ mj_tbl := List.mem_filter.mpr ⟨List.mem_of_getElem? (i := 18) (by decide +kernel), rfl⟩
theorem mw_19 : Cond.selects "ChartForest" (⟨"ChartForest", "isSet", "(I)Z"⟩ : MethodName) (⟨"ChartForest", "isSet", "(I)Z"⟩ : MethodName) ∈ mj_tbl := List.mem_filter.mpr ⟨List.mem_of_getElem? (i := 19) (by decide +kernel), rfl⟩
theorem mw_20 : Cond.selects "ChartForest" (⟨"ChartForest", "isStretch", "(II)Z"⟩ : MethodName) (⟨"ChartForest", "isStretch", "(II)Z"⟩ : MethodName) ∈ mj_tbl := List.mem_filter.mpr ⟨List.mem_of_getElem? (i := 20) (by decide +kernel), rfl⟩
theorem mw_21 : Cond.selects "ChartForest$Forest" (⟨"ChartForest$Forest", "push", "(IJ)V"⟩ : MethodName) (⟨"ChartForest$Forest", "push", "(IJ)V"⟩ : MethodName) ∈ mj_tbl := List.mem_filter.mpr ⟨List.mem_of_getElem? (i := 21) (by decide +kernel), rfl⟩
theorem mw_22 : Cond.selects "ChartForest$Forest" (⟨"ChartForest$Forest", "pushParts", "(IJ)V"⟩ : MethodName) (⟨"ChartForest$Forest", "pushParts", "(IJ)V"⟩ : MethodName) ∈ mj_tbl := List.mem_filter.mpr ⟨List.mem_of_getElem? (i := 22) (by decide +kernel), rfl⟩
theorem mw_23 : Cond.selects "ChartForestModel" (⟨"ChartForestModel", "makeSet", "(I)V"⟩ : MethodName) (⟨"ChartForestModel", "makeSet", "(I)V"⟩ : MethodName) ∈ mj_tbl := List.mem_filter.mpr ⟨List.mem_of_getElem? (i := 23) (by decide +kernel), rfl⟩
theorem mw_24 : Cond.selects "ChartForestModel" (⟨"ChartForestModel", "behind", "(II)I"⟩ : MethodName) (⟨"ChartForestModel", "behind", "(II)I"⟩ : MethodName) ∈ mj_tbl := List.mem_filter.mpr ⟨List.mem_of_getElem? (i := 24) (by decide +kernel), rfl⟩
theorem mw_25 : Cond.selects "ChartForestModel" (⟨"ChartForestModel", "lengthOf", "(I)I"⟩ : MethodName) (⟨"ChartForestModel", "lengthOf", "(I)I"⟩ : MethodName) ∈ mj_tbl := List.mem_filter.mpr ⟨List.mem_of_getElem? (i := 25) (by decide +kernel), rfl⟩
theorem mw_26 : Cond.selects "ChartForestModel" (⟨"ChartForestModel", "close", "(I)V"⟩ : MethodName) (⟨"ChartForestModel", "close", "(I)V"⟩ : MethodName) ∈ mj_tbl := List.mem_filter.mpr ⟨List.mem_of_getElem? (i := 26) (by decide +kernel), rfl⟩
theorem mw_27 : Cond.selects "ChartForestModel" (⟨"ChartForestModel", "follow", "(IIII)I"⟩ : MethodName) (⟨"ChartForestModel", "follow", "(IIII)I"⟩ : MethodName) ∈ mj_tbl := List.mem_filter.mpr ⟨List.mem_of_getElem? (i := 27) (by decide +kernel), rfl⟩
theorem mw_28 : Cond.selects "ChartForestModel" (⟨"ChartForestModel", "add", "(IIII)I"⟩ : MethodName) (⟨"ChartForestModel", "add", "(IIII)I"⟩ : MethodName) ∈ mj_tbl := List.mem_filter.mpr ⟨List.mem_of_getElem? (i := 28) (by decide +kernel), rfl⟩
theorem mw_29 : Cond.selects "ChartForestModel" (⟨"ChartForestModel", "leapOf", "(II)I"⟩ : MethodName) (⟨"ChartForestModel", "leapOf", "(II)I"⟩ : MethodName) ∈ mj_tbl := List.mem_filter.mpr ⟨List.mem_of_getElem? (i := 29) (by decide +kernel), rfl⟩
theorem mw_30 : Cond.selects "ChartForestModel" (⟨"ChartForestModel", "refuse", "(I)I"⟩ : MethodName) (⟨"ChartForestModel", "refuse", "(I)I"⟩ : MethodName) ∈ mj_tbl := List.mem_filter.mpr ⟨List.mem_of_getElem? (i := 30) (by decide +kernel), rfl⟩
theorem mw_31 : Cond.selects "ChartForestModel" (⟨"ChartForestModel", "expectedIn", "(I)I"⟩ : MethodName) (⟨"ChartForestModel", "expectedIn", "(I)I"⟩ : MethodName) ∈ mj_tbl := List.mem_filter.mpr ⟨List.mem_of_getElem? (i := 31) (by decide +kernel), rfl⟩
theorem mw_32 : Cond.selects "ChartForestModel" (⟨"ChartForestModel", "sizeOf", "(I)I"⟩ : MethodName) (⟨"ChartForestModel", "sizeOf", "(I)I"⟩ : MethodName) ∈ mj_tbl := List.mem_filter.mpr ⟨List.mem_of_getElem? (i := 32) (by decide +kernel), rfl⟩
theorem mw_33 : Cond.selects "ChartForestModel" (⟨"ChartForestModel", "holds", "(IIII)Z"⟩ : MethodName) (⟨"ChartForestModel", "holds", "(IIII)Z"⟩ : MethodName) ∈ mj_tbl := List.mem_filter.mpr ⟨List.mem_of_getElem? (i := 33) (by decide +kernel), rfl⟩
theorem mw_34 : Cond.selects "ChartForestModel" (⟨"ChartForestModel", "isSet", "(I)Z"⟩ : MethodName) (⟨"ChartForestModel", "isSet", "(I)Z"⟩ : MethodName) ∈ mj_tbl := List.mem_filter.mpr ⟨List.mem_of_getElem? (i := 34) (by decide +kernel), rfl⟩
theorem mw_35 : Cond.selects "ChartForestModel" (⟨"ChartForestModel", "isStretch", "(III)Z"⟩ : MethodName) (⟨"ChartForestModel", "isStretch", "(III)Z"⟩ : MethodName) ∈ mj_tbl := List.mem_filter.mpr ⟨List.mem_of_getElem? (i := 35) (by decide +kernel), rfl⟩
theorem mw_36 : Cond.selects "ChartForestModel" (⟨"ChartForestModel", "work", "()V"⟩ : MethodName) (⟨"ChartForestModel", "work", "()V"⟩ : MethodName) ∈ mj_tbl := List.mem_filter.mpr ⟨List.mem_of_getElem? (i := 36) (by decide +kernel), rfl⟩
theorem mw_37 : Cond.selects "ChartForestModel" (⟨"ChartForestModel", "findDerived", "()V"⟩ : MethodName) (⟨"ChartForestModel", "findDerived", "()V"⟩ : MethodName) ∈ mj_tbl := List.mem_filter.mpr ⟨List.mem_of_getElem? (i := 37) (by decide +kernel), rfl⟩
theorem mw_38 : Cond.selects "ChartForestModel" (⟨"ChartForestModel", "waysBy", "(III)I"⟩ : MethodName) (⟨"ChartForestModel", "waysBy", "(III)I"⟩ : MethodName) ∈ mj_tbl := List.mem_filter.mpr ⟨List.mem_of_getElem? (i := 38) (by decide +kernel), rfl⟩
theorem mw_39 : Cond.selects "ChartForestModel" (⟨"ChartForestModel", "firstCuts", "(I)V"⟩ : MethodName) (⟨"ChartForestModel", "firstCuts", "(I)V"⟩ : MethodName) ∈ mj_tbl := List.mem_filter.mpr ⟨List.mem_of_getElem? (i := 39) (by decide +kernel), rfl⟩
theorem mw_40 : Cond.selects "ChartForestModel" (⟨"ChartForestModel", "isWay", "(III)Z"⟩ : MethodName) (⟨"ChartForestModel", "isWay", "(III)Z"⟩ : MethodName) ∈ mj_tbl := List.mem_filter.mpr ⟨List.mem_of_getElem? (i := 40) (by decide +kernel), rfl⟩
theorem mw_41 : Cond.selects "ChartForestModel" (⟨"ChartForestModel", "cut", "(IIII)I"⟩ : MethodName) (⟨"ChartForestModel", "cut", "(IIII)I"⟩ : MethodName) ∈ mj_tbl := List.mem_filter.mpr ⟨List.mem_of_getElem? (i := 41) (by decide +kernel), rfl⟩
theorem mw_42 : Cond.selects "ChartForestModel" (⟨"ChartForestModel", "isDerived", "(III)Z"⟩ : MethodName) (⟨"ChartForestModel", "isDerived", "(III)Z"⟩ : MethodName) ∈ mj_tbl := List.mem_filter.mpr ⟨List.mem_of_getElem? (i := 42) (by decide +kernel), rfl⟩
theorem mw_43 : Cond.selects "ChartForestModel" (⟨"ChartForestModel", "nextCuts", "(II)Z"⟩ : MethodName) (⟨"ChartForestModel", "nextCuts", "(II)Z"⟩ : MethodName) ∈ mj_tbl := List.mem_filter.mpr ⟨List.mem_of_getElem? (i := 43) (by decide +kernel), rfl⟩
theorem mw_44 : Cond.selects "ChartForestModel" (⟨"ChartForestModel", "sum", "(III)J"⟩ : MethodName) (⟨"ChartForestModel", "sum", "(III)J"⟩ : MethodName) ∈ mj_tbl := List.mem_filter.mpr ⟨List.mem_of_getElem? (i := 44) (by decide +kernel), rfl⟩
theorem mw_45 : Cond.selects "ChartForestModel" (⟨"ChartForestModel", "byWay", "(III)J"⟩ : MethodName) (⟨"ChartForestModel", "byWay", "(III)J"⟩ : MethodName) ∈ mj_tbl := List.mem_filter.mpr ⟨List.mem_of_getElem? (i := 45) (by decide +kernel), rfl⟩
theorem mw_46 : Cond.selects "ChartForestModel" (⟨"ChartForestModel", "treesOf", "(III)J"⟩ : MethodName) (⟨"ChartForestModel", "treesOf", "(III)J"⟩ : MethodName) ∈ mj_tbl := List.mem_filter.mpr ⟨List.mem_of_getElem? (i := 46) (by decide +kernel), rfl⟩
theorem mw_47 : Cond.selects "ChartForestModel" (⟨"ChartForestModel", "meetAll", "(III)Z"⟩ : MethodName) (⟨"ChartForestModel", "meetAll", "(III)Z"⟩ : MethodName) ∈ mj_tbl := List.mem_filter.mpr ⟨List.mem_of_getElem? (i := 47) (by decide +kernel), rfl⟩
theorem mw_48 : Cond.selects "ChartForestModel" (⟨"ChartForestModel", "meet", "(III)I"⟩ : MethodName) (⟨"ChartForestModel", "meet", "(III)I"⟩ : MethodName) ∈ mj_tbl := List.mem_filter.mpr ⟨List.mem_of_getElem? (i := 48) (by decide +kernel), rfl⟩
theorem mw_49 : Cond.selects "ChartForestModel" (⟨"ChartForestModel", "come", "(IJ)V"⟩ : MethodName) (⟨"ChartForestModel", "come", "(IJ)V"⟩ : MethodName) ∈ mj_tbl := List.mem_filter.mpr ⟨List.mem_of_getElem? (i := 49) (by decide +kernel), rfl⟩
theorem mw_50 : Cond.selects "ChartForestModel" (⟨"ChartForestModel", "takeRoot", "(IJ)I"⟩ : MethodName) (⟨"ChartForestModel", "takeRoot", "(IJ)I"⟩ : MethodName) ∈ mj_tbl := List.mem_filter.mpr ⟨List.mem_of_getElem? (i := 50) (by decide +kernel), rfl⟩
theorem mw_51 : Cond.selects "ChartForestModel" (⟨"ChartForestModel", "comeAll", "(IIIJ)V"⟩ : MethodName) (⟨"ChartForestModel", "comeAll", "(IIIJ)V"⟩ : MethodName) ∈ mj_tbl := List.mem_filter.mpr ⟨List.mem_of_getElem? (i := 51) (by decide +kernel), rfl⟩
theorem mw_52 : (Jvm.Cond.initialized "ChartForestLaw") ∈ mj_tbl := List.mem_filter.mpr ⟨List.mem_of_getElem? (i := 52) (by decide +kernel), rfl⟩
theorem mw_53 : (Jvm.Cond.initialized "ChartForest") ∈ mj_tbl := List.mem_filter.mpr ⟨List.mem_of_getElem? (i := 53) (by decide +kernel), rfl⟩
theorem mw_54 : (Jvm.Cond.initialized "ChartForest$Grammar") ∈ mj_tbl := List.mem_filter.mpr ⟨List.mem_of_getElem? (i := 54) (by decide +kernel), rfl⟩
theorem mw_55 : (Jvm.Cond.initialized "ChartForest$Tape") ∈ mj_tbl := List.mem_filter.mpr ⟨List.mem_of_getElem? (i := 55) (by decide +kernel), rfl⟩
theorem mw_56 : (Jvm.Cond.initialized "ChartForest$Chart") ∈ mj_tbl := List.mem_filter.mpr ⟨List.mem_of_getElem? (i := 56) (by decide +kernel), rfl⟩
theorem mw_57 : (Jvm.Cond.initialized "ChartForest$Forest") ∈ mj_tbl := List.mem_filter.mpr ⟨List.mem_of_getElem? (i := 57) (by decide +kernel), rfl⟩
theorem mw_58 : (Jvm.Cond.initialized "ChartForest$Counts") ∈ mj_tbl := List.mem_filter.mpr ⟨List.mem_of_getElem? (i := 58) (by decide +kernel), rfl⟩
theorem mw_59 : (Jvm.Cond.initialized "ChartForest$Ways") ∈ mj_tbl := List.mem_filter.mpr ⟨List.mem_of_getElem? (i := 59) (by decide +kernel), rfl⟩
theorem mw_60 : (Jvm.Cond.initialized "ChartForestModel") ∈ mj_tbl := List.mem_filter.mpr ⟨List.mem_of_getElem? (i := 60) (by decide +kernel), rfl⟩
theorem mw_61 : (Jvm.Cond.initialized "java/lang/Throwable") ∈ mj_tbl := List.mem_filter.mpr ⟨List.mem_of_getElem? (i := 61) (by decide +kernel), rfl⟩
theorem mw_62 : (Jvm.Cond.initialized "java/lang/Exception") ∈ mj_tbl := List.mem_filter.mpr ⟨List.mem_of_getElem? (i := 62) (by decide +kernel), rfl⟩
theorem mw_63 : (Jvm.Cond.initialized "java/lang/RuntimeException") ∈ mj_tbl := List.mem_filter.mpr ⟨List.mem_of_getElem? (i := 63) (by decide +kernel), rfl⟩
theorem mw_64 : (Jvm.Cond.initialized "java/lang/IllegalArgumentException") ∈ mj_tbl := List.mem_filter.mpr ⟨List.mem_of_getElem? (i := 64) (by decide +kernel), rfl⟩
theorem mw_65 : (Jvm.Cond.initialized "java/lang/IllegalStateException") ∈ mj_tbl := List.mem_filter.mpr ⟨List.mem_of_getElem? (i := 65) (by decide +kernel), rfl⟩
theorem mw_66 : (Jvm.Cond.initialized "java/lang/Math") ∈ mj_tbl := List.mem_filter.mpr ⟨List.mem_of_getElem? (i := 66) (by decide +kernel), rfl⟩
theorem mw_67 : (Jvm.Cond.initialized "java/util/NoSuchElementException") ∈ mj_tbl := List.mem_filter.mpr ⟨List.mem_of_getElem? (i := 67) (by decide +kernel), rfl⟩
theorem mw_68 : (Jvm.Cond.initialized "java/lang/Integer") ∈ mj_tbl := List.mem_filter.mpr ⟨List.mem_of_getElem? (i := 68) (by decide +kernel), rfl⟩
theorem mw_69 : (Jvm.Cond.initialized "java/lang/IndexOutOfBoundsException") ∈ mj_tbl := List.mem_filter.mpr ⟨List.mem_of_getElem? (i := 69) (by decide +kernel), rfl⟩
theorem mw_70 : (Jvm.Cond.classLink "ChartForestLaw" (8 : Nat) "ChartForest") ∈ mj_tbl := List.mem_filter.mpr ⟨List.mem_of_getElem? (i := 70) (by decide +kernel), rfl⟩
theorem mw_71 : (Jvm.Cond.instantiable "ChartForest" (4 : Nat)) ∈ mj_tbl := List.mem_filter.mpr ⟨List.mem_of_getElem? (i := 71) (by decide +kernel), rfl⟩
theorem mw_72 : (Jvm.Cond.methodLink "ChartForestLaw" (56 : Nat) ({ cls := "ChartForest", name := "<init>", desc := "(I)V" } : Jvm.MethodName)) ∈ mj_tbl := List.mem_filter.mpr ⟨List.mem_of_getElem? (i := 72) (by decide +kernel), rfl⟩
theorem mw_73 : (Jvm.Cond.instanceMethod ({ cls := "ChartForest", name := "<init>", desc := "(I)V" } : Jvm.MethodName)) ∈ mj_tbl := List.mem_filter.mpr ⟨List.mem_of_getElem? (i := 73) (by decide +kernel), rfl⟩
theorem mw_74 : (Jvm.Cond.code ({ cls := "ChartForest", name := "<init>", desc := "(I)V" } : Jvm.MethodName) prog_1_method_1_code (2 : Nat) (Option.none : Option Jvm.ClassFile.FieldType)) ∈ mj_tbl := List.mem_filter.mpr ⟨List.mem_of_getElem? (i := 74) (by decide +kernel), rfl⟩
theorem mw_75 : (Jvm.Cond.methodLink "ChartForest" (3 : Nat) ({ cls := "java/lang/Object", name := "<init>", desc := "()V" } : Jvm.MethodName)) ∈ mj_tbl := List.mem_filter.mpr ⟨List.mem_of_getElem? (i := 75) (by decide +kernel), rfl⟩
theorem mw_76 : (Jvm.Cond.instanceMethod ({ cls := "java/lang/Object", name := "<init>", desc := "()V" } : Jvm.MethodName)) ∈ mj_tbl := List.mem_filter.mpr ⟨List.mem_of_getElem? (i := 76) (by decide +kernel), rfl⟩
theorem mw_77 : (Jvm.Cond.code ({ cls := "java/lang/Object", name := "<init>", desc := "()V" } : Jvm.MethodName) object_method_1_code (1 : Nat) (Option.none : Option Jvm.ClassFile.FieldType)) ∈ mj_tbl := List.mem_filter.mpr ⟨List.mem_of_getElem? (i := 77) (by decide +kernel), rfl⟩
theorem mw_78 : (Jvm.Cond.classLink "ChartForest" (9 : Nat) "ChartForest$Grammar") ∈ mj_tbl := List.mem_filter.mpr ⟨List.mem_of_getElem? (i := 78) (by decide +kernel), rfl⟩
theorem mw_79 : (Jvm.Cond.instantiable "ChartForest$Grammar" (3 : Nat)) ∈ mj_tbl := List.mem_filter.mpr ⟨List.mem_of_getElem? (i := 79) (by decide +kernel), rfl⟩
theorem mw_80 : (Jvm.Cond.methodLink "ChartForest" (11 : Nat) ({ cls := "ChartForest$Grammar", name := "<init>", desc := "()V" } : Jvm.MethodName)) ∈ mj_tbl := List.mem_filter.mpr ⟨List.mem_of_getElem? (i := 80) (by decide +kernel), rfl⟩
theorem mw_81 : (Jvm.Cond.instanceMethod ({ cls := "ChartForest$Grammar", name := "<init>", desc := "()V" } : Jvm.MethodName)) ∈ mj_tbl := List.mem_filter.mpr ⟨List.mem_of_getElem? (i := 81) (by decide +kernel), rfl⟩
theorem mw_82 : (Jvm.Cond.code ({ cls := "ChartForest$Grammar", name := "<init>", desc := "()V" } : Jvm.MethodName) prog_5_method_1_code (2 : Nat) (Option.none : Option Jvm.ClassFile.FieldType)) ∈ mj_tbl := List.mem_filter.mpr ⟨List.mem_of_getElem? (i := 82) (by decide +kernel), rfl⟩
theorem mw_83 : (Jvm.Cond.methodLink "ChartForest$Grammar" (3 : Nat) ({ cls := "java/lang/Object", name := "<init>", desc := "()V" } : Jvm.MethodName)) ∈ mj_tbl := List.mem_filter.mpr ⟨List.mem_of_getElem? (i := 83) (by decide +kernel), rfl⟩
theorem mw_84 : (Jvm.Cond.methodLinkNest "ChartForest$Grammar" (18 : Nat) ({ cls := "ChartForest", name := "slotOf", desc := "(II)I" } : Jvm.MethodName) "ChartForest") ∈ mj_tbl := List.mem_filter.mpr ⟨List.mem_of_getElem? (i := 84) (by decide +kernel), rfl⟩
theorem mw_85 : (Jvm.Cond.static ({ cls := "ChartForest", name := "slotOf", desc := "(II)I" } : Jvm.MethodName)) ∈ mj_tbl := List.mem_filter.mpr ⟨List.mem_of_getElem? (i := 85) (by decide +kernel), rfl⟩
theorem mw_86 : (Jvm.Cond.code ({ cls := "ChartForest", name := "slotOf", desc := "(II)I" } : Jvm.MethodName) prog_1_method_22_code (2 : Nat) (Option.some Jvm.ClassFile.FieldType.int)) ∈ mj_tbl := List.mem_filter.mpr ⟨List.mem_of_getElem? (i := 86) (by decide +kernel), rfl⟩
theorem mw_87 : (Jvm.Cond.fieldLink "ChartForest$Grammar" (22 : Nat) "ChartForest$Grammar" "count" "I") ∈ mj_tbl := List.mem_filter.mpr ⟨List.mem_of_getElem? (i := 87) (by decide +kernel), rfl⟩
theorem mw_88 : (Jvm.Cond.fieldLinkNest "ChartForest$Ways" (40 : Nat) "ChartForest$Grammar" "count" "I" "ChartForest") ∈ mj_tbl := List.mem_filter.mpr ⟨List.mem_of_getElem? (i := 88) (by decide +kernel), rfl⟩
theorem mw_89 : (Jvm.Cond.fieldLinkNest "ChartForest" (55 : Nat) "ChartForest$Grammar" "count" "I" "ChartForest") ∈ mj_tbl := List.mem_filter.mpr ⟨List.mem_of_getElem? (i := 89) (by decide +kernel), rfl⟩
theorem mw_90 : (Jvm.Cond.fieldLinkNest "ChartForest$Chart" (95 : Nat) "ChartForest$Grammar" "count" "I" "ChartForest") ∈ mj_tbl := List.mem_filter.mpr ⟨List.mem_of_getElem? (i := 90) (by decide +kernel), rfl⟩
theorem mw_91 : (Jvm.Cond.fieldLink "ChartForest$Grammar" (9 : Nat) "ChartForest$Grammar" "lefts" "[I") ∈ mj_tbl := List.mem_filter.mpr ⟨List.mem_of_getElem? (i := 91) (by decide +kernel), rfl⟩
theorem mw_92 : (Jvm.Cond.fieldLink "ChartForest$Grammar" (15 : Nat) "ChartForest$Grammar" "behind" "[I") ∈ mj_tbl := List.mem_filter.mpr ⟨List.mem_of_getElem? (i := 92) (by decide +kernel), rfl⟩
theorem mw_93 : (Jvm.Cond.fieldLinkNest "ChartForest$Ways" (55 : Nat) "ChartForest$Grammar" "behind" "[I" "ChartForest") ∈ mj_tbl := List.mem_filter.mpr ⟨List.mem_of_getElem? (i := 93) (by decide +kernel), rfl⟩
theorem mw_94 : (Jvm.Cond.fieldLinkNest "ChartForest$Chart" (55 : Nat) "ChartForest$Grammar" "behind" "[I" "ChartForest") ∈ mj_tbl := List.mem_filter.mpr ⟨List.mem_of_getElem? (i := 94) (by decide +kernel), rfl⟩
theorem mw_101 : (Jvm.Cond.superclass "ChartForest$Grammar" "java/lang/Object") ∈ mj_tbl := List.mem_filter.mpr ⟨List.mem_of_getElem? (i := 101) (by decide +kernel), rfl⟩
theorem mw_102 : (Jvm.Cond.arrayClass Jvm.ClassFile.FieldType.int) ∈ mj_tbl := List.mem_filter.mpr ⟨List.mem_of_getElem? (i := 102) (by decide +kernel), rfl⟩
theorem mw_103 : (Jvm.Cond.classLink "ChartForest" (16 : Nat) "ChartForest$Tape") ∈ mj_tbl := List.mem_filter.mpr ⟨List.mem_of_getElem? (i := 103) (by decide +kernel), rfl⟩
theorem mw_104 : (Jvm.Cond.instantiable "ChartForest$Tape" (2 : Nat)) ∈ mj_tbl := List.mem_filter.mpr ⟨List.mem_of_getElem? (i := 104) (by decide +kernel), rfl⟩
theorem mw_105 : (Jvm.Cond.methodLinkNest "ChartForest" (18 : Nat) ({ cls := "ChartForest$Tape", name := "<init>", desc := "()V" } : Jvm.MethodName) "ChartForest") ∈ mj_tbl := List.mem_filter.mpr ⟨List.mem_of_getElem? (i := 105) (by decide +kernel), rfl⟩
theorem mw_106 : (Jvm.Cond.instanceMethod ({ cls := "ChartForest$Tape", name := "<init>", desc := "()V" } : Jvm.MethodName)) ∈ mj_tbl := List.mem_filter.mpr ⟨List.mem_of_getElem? (i := 106) (by decide +kernel), rfl⟩
theorem mw_107 : (Jvm.Cond.code ({ cls := "ChartForest$Tape", name := "<init>", desc := "()V" } : Jvm.MethodName) prog_6_method_1_code (1 : Nat) (Option.none : Option Jvm.ClassFile.FieldType)) ∈ mj_tbl := List.mem_filter.mpr ⟨List.mem_of_getElem? (i := 107) (by decide +kernel), rfl⟩
theorem mw_108 : (Jvm.Cond.methodLink "ChartForest$Tape" (3 : Nat) ({ cls := "java/lang/Object", name := "<init>", desc := "()V" } : Jvm.MethodName)) ∈ mj_tbl := List.mem_filter.mpr ⟨List.mem_of_getElem? (i := 108) (by decide +kernel), rfl⟩
theorem mw_109 : (Jvm.Cond.fieldLink "ChartForest$Tape" (15 : Nat) "ChartForest$Tape" "length" "I") ∈ mj_tbl := List.mem_filter.mpr ⟨List.mem_of_getElem? (i := 109) (by decide +kernel), rfl⟩
theorem mw_110 : (Jvm.Cond.fieldLinkNest "ChartForest" (59 : Nat) "ChartForest$Tape" "length" "I" "ChartForest") ∈ mj_tbl := List.mem_filter.mpr ⟨List.mem_of_getElem? (i := 110) (by decide +kernel), rfl⟩
theorem mw_111 : (Jvm.Cond.fieldLinkNest "ChartForest$Forest" (55 : Nat) "ChartForest$Tape" "length" "I" "ChartForest") ∈ mj_tbl := List.mem_filter.mpr ⟨List.mem_of_getElem? (i := 111) (by decide +kernel), rfl⟩
theorem mw_112 : (Jvm.Cond.fieldLink "ChartForest$Tape" (9 : Nat) "ChartForest$Tape" "terminals" "[I") ∈ mj_tbl := List.mem_filter.mpr ⟨List.mem_of_getElem? (i := 112) (by decide +kernel), rfl⟩
theorem mw_117 : (Jvm.Cond.superclass "ChartForest$Tape" "java/lang/Object") ∈ mj_tbl := List.mem_filter.mpr ⟨List.mem_of_getElem? (i := 117) (by decide +kernel), rfl⟩
theorem mw_118 : (Jvm.Cond.classLink "ChartForest" (23 : Nat) "ChartForest$Chart") ∈ mj_tbl := List.mem_filter.mpr ⟨List.mem_of_getElem? (i := 118) (by decide +kernel), rfl⟩
theorem mw_119 : (Jvm.Cond.instantiable "ChartForest$Chart" (8 : Nat)) ∈ mj_tbl := List.mem_filter.mpr ⟨List.mem_of_getElem? (i := 119) (by decide +kernel), rfl⟩
theorem mw_120 : (Jvm.Cond.methodLink "ChartForest" (25 : Nat) ({ cls := "ChartForest$Chart", name := "<init>", desc := "(LChartForest$Grammar;Z)V" } : Jvm.MethodName)) ∈ mj_tbl := List.mem_filter.mpr ⟨List.mem_of_getElem? (i := 120) (by decide +kernel), rfl⟩
theorem mw_121 : (Jvm.Cond.instanceMethod ({ cls := "ChartForest$Chart", name := "<init>", desc := "(LChartForest$Grammar;Z)V" } : Jvm.MethodName)) ∈ mj_tbl := List.mem_filter.mpr ⟨List.mem_of_getElem? (i := 121) (by decide +kernel), rfl⟩
theorem mw_122 : (Jvm.Cond.code ({ cls := "ChartForest$Chart", name := "<init>", desc := "(LChartForest$Grammar;Z)V" } : Jvm.MethodName) prog_2_method_1_code (3 : Nat) (Option.none : Option Jvm.ClassFile.FieldType)) ∈ mj_tbl := List.mem_filter.mpr ⟨List.mem_of_getElem? (i := 122) (by decide +kernel), rfl⟩
theorem mw_123 : (Jvm.Cond.methodLink "ChartForest$Chart" (3 : Nat) ({ cls := "java/lang/Object", name := "<init>", desc := "()V" } : Jvm.MethodName)) ∈ mj_tbl := List.mem_filter.mpr ⟨List.mem_of_getElem? (i := 123) (by decide +kernel), rfl⟩
theorem mw_124 : (Jvm.Cond.classLink "ChartForest$Chart" (9 : Nat) "[[I") ∈ mj_tbl := List.mem_filter.mpr ⟨List.mem_of_getElem? (i := 124) (by decide +kernel), rfl⟩
theorem mw_125 : (Jvm.Cond.arrayOver (Jvm.ClassFile.FieldType.array Jvm.ClassFile.FieldType.int)) ∈ mj_tbl := List.mem_filter.mpr ⟨List.mem_of_getElem? (i := 125) (by decide +kernel), rfl⟩
theorem mw_126 : (Jvm.Cond.fieldLink "ChartForest$Chart" (26 : Nat) "ChartForest$Chart" "grammar" "LChartForest$Grammar;") ∈ mj_tbl := List.mem_filter.mpr ⟨List.mem_of_getElem? (i := 126) (by decide +kernel), rfl⟩
theorem mw_127 : (Jvm.Cond.fieldLink "ChartForest$Chart" (30 : Nat) "ChartForest$Chart" "leaping" "Z") ∈ mj_tbl := List.mem_filter.mpr ⟨List.mem_of_getElem? (i := 127) (by decide +kernel), rfl⟩
theorem mw_128 : (Jvm.Cond.fieldLink "ChartForest$Chart" (11 : Nat) "ChartForest$Chart" "origins" "[[I") ∈ mj_tbl := List.mem_filter.mpr ⟨List.mem_of_getElem? (i := 128) (by decide +kernel), rfl⟩
theorem mw_129 : (Jvm.Cond.fieldLink "ChartForest$Chart" (16 : Nat) "ChartForest$Chart" "sizes" "[I") ∈ mj_tbl := List.mem_filter.mpr ⟨List.mem_of_getElem? (i := 129) (by decide +kernel), rfl⟩
theorem mw_130 : (Jvm.Cond.fieldLinkNest "ChartForest" (92 : Nat) "ChartForest$Chart" "sizes" "[I" "ChartForest") ∈ mj_tbl := List.mem_filter.mpr ⟨List.mem_of_getElem? (i := 130) (by decide +kernel), rfl⟩
theorem mw_131 : (Jvm.Cond.fieldLink "ChartForest$Chart" (20 : Nat) "ChartForest$Chart" "named" "[[I") ∈ mj_tbl := List.mem_filter.mpr ⟨List.mem_of_getElem? (i := 131) (by decide +kernel), rfl⟩
theorem mw_132 : (Jvm.Cond.fieldLink "ChartForest$Chart" (23 : Nat) "ChartForest$Chart" "agenda" "[I") ∈ mj_tbl := List.mem_filter.mpr ⟨List.mem_of_getElem? (i := 132) (by decide +kernel), rfl⟩
theorem mw_133 : (Jvm.Cond.fieldLink "ChartForest$Chart" (71 : Nat) "ChartForest$Chart" "agendaSize" "I") ∈ mj_tbl := List.mem_filter.mpr ⟨List.mem_of_getElem? (i := 133) (by decide +kernel), rfl⟩
theorem mw_134 : (Jvm.Cond.fieldLink "ChartForest$Chart" (75 : Nat) "ChartForest$Chart" "completeHere" "I") ∈ mj_tbl := List.mem_filter.mpr ⟨List.mem_of_getElem? (i := 134) (by decide +kernel), rfl⟩
theorem mw_151 : (Jvm.Cond.superclass "ChartForest$Chart" "java/lang/Object") ∈ mj_tbl := List.mem_filter.mpr ⟨List.mem_of_getElem? (i := 151) (by decide +kernel), rfl⟩
theorem mw_152 : (Jvm.Cond.classLink "ChartForest" (32 : Nat) "ChartForest$Forest") ∈ mj_tbl := List.mem_filter.mpr ⟨List.mem_of_getElem? (i := 152) (by decide +kernel), rfl⟩
theorem mw_153 : (Jvm.Cond.instantiable "ChartForest$Forest" (8 : Nat)) ∈ mj_tbl := List.mem_filter.mpr ⟨List.mem_of_getElem? (i := 153) (by decide +kernel), rfl⟩
theorem mw_154 : (Jvm.Cond.methodLink "ChartForest" (34 : Nat) ({ cls := "ChartForest$Forest", name := "<init>", desc := "(LChartForest$Grammar;LChartForest$Tape;)V" } : Jvm.MethodName)) ∈ mj_tbl := List.mem_filter.mpr ⟨List.mem_of_getElem? (i := 154) (by decide +kernel), rfl⟩
theorem mw_155 : (Jvm.Cond.instanceMethod ({ cls := "ChartForest$Forest", name := "<init>", desc := "(LChartForest$Grammar;LChartForest$Tape;)V" } : Jvm.MethodName)) ∈ mj_tbl := List.mem_filter.mpr ⟨List.mem_of_getElem? (i := 155) (by decide +kernel), rfl⟩
theorem mw_156 : (Jvm.Cond.code ({ cls := "ChartForest$Forest", name := "<init>", desc := "(LChartForest$Grammar;LChartForest$Tape;)V" } : Jvm.MethodName) prog_4_method_1_code (3 : Nat) (Option.none : Option Jvm.ClassFile.FieldType)) ∈ mj_tbl := List.mem_filter.mpr ⟨List.mem_of_getElem? (i := 156) (by decide +kernel), rfl⟩
theorem mw_157 : (Jvm.Cond.methodLink "ChartForest$Forest" (3 : Nat) ({ cls := "java/lang/Object", name := "<init>", desc := "()V" } : Jvm.MethodName)) ∈ mj_tbl := List.mem_filter.mpr ⟨List.mem_of_getElem? (i := 157) (by decide +kernel), rfl⟩
theorem mw_158 : (Jvm.Cond.classLink "ChartForest$Forest" (27 : Nat) "ChartForest$Counts") ∈ mj_tbl := List.mem_filter.mpr ⟨List.mem_of_getElem? (i := 158) (by decide +kernel), rfl⟩
theorem mw_159 : (Jvm.Cond.instantiable "ChartForest$Counts" (2 : Nat)) ∈ mj_tbl := List.mem_filter.mpr ⟨List.mem_of_getElem? (i := 159) (by decide +kernel), rfl⟩
theorem mw_160 : (Jvm.Cond.methodLink "ChartForest$Forest" (29 : Nat) ({ cls := "ChartForest$Counts", name := "<init>", desc := "(LChartForest$Tape;)V" } : Jvm.MethodName)) ∈ mj_tbl := List.mem_filter.mpr ⟨List.mem_of_getElem? (i := 160) (by decide +kernel), rfl⟩
theorem mw_161 : (Jvm.Cond.instanceMethod ({ cls := "ChartForest$Counts", name := "<init>", desc := "(LChartForest$Tape;)V" } : Jvm.MethodName)) ∈ mj_tbl := List.mem_filter.mpr ⟨List.mem_of_getElem? (i := 161) (by decide +kernel), rfl⟩
theorem mw_162 : (Jvm.Cond.code ({ cls := "ChartForest$Counts", name := "<init>", desc := "(LChartForest$Tape;)V" } : Jvm.MethodName) prog_3_method_1_code (2 : Nat) (Option.none : Option Jvm.ClassFile.FieldType)) ∈ mj_tbl := List.mem_filter.mpr ⟨List.mem_of_getElem? (i := 162) (by decide +kernel), rfl⟩
theorem mw_163 : (Jvm.Cond.methodLink "ChartForest$Counts" (3 : Nat) ({ cls := "java/lang/Object", name := "<init>", desc := "()V" } : Jvm.MethodName)) ∈ mj_tbl := List.mem_filter.mpr ⟨List.mem_of_getElem? (i := 163) (by decide +kernel), rfl⟩
theorem mw_164 : (Jvm.Cond.fieldLink "ChartForest$Counts" (15 : Nat) "ChartForest$Counts" "tape" "LChartForest$Tape;") ∈ mj_tbl := List.mem_filter.mpr ⟨List.mem_of_getElem? (i := 164) (by decide +kernel), rfl⟩
theorem mw_165 : (Jvm.Cond.fieldLink "ChartForest$Counts" (9 : Nat) "ChartForest$Counts" "table" "[J") ∈ mj_tbl := List.mem_filter.mpr ⟨List.mem_of_getElem? (i := 165) (by decide +kernel), rfl⟩
theorem mw_166 : (Jvm.Cond.fieldLinkNest "ChartForest$Forest" (78 : Nat) "ChartForest$Counts" "table" "[J" "ChartForest") ∈ mj_tbl := List.mem_filter.mpr ⟨List.mem_of_getElem? (i := 166) (by decide +kernel), rfl⟩
theorem mw_171 : (Jvm.Cond.superclass "ChartForest$Counts" "java/lang/Object") ∈ mj_tbl := List.mem_filter.mpr ⟨List.mem_of_getElem? (i := 171) (by decide +kernel), rfl⟩
theorem mw_172 : (Jvm.Cond.arrayClass Jvm.ClassFile.FieldType.boolean) ∈ mj_tbl := List.mem_filter.mpr ⟨List.mem_of_getElem? (i := 172) (by decide +kernel), rfl⟩
theorem mw_173 : (Jvm.Cond.arrayClass Jvm.ClassFile.FieldType.long) ∈ mj_tbl := List.mem_filter.mpr ⟨List.mem_of_getElem? (i := 173) (by decide +kernel), rfl⟩
theorem mw_174 : (Jvm.Cond.classLink "ChartForest$Forest" (36 : Nat) "ChartForest$Ways") ∈ mj_tbl := List.mem_filter.mpr ⟨List.mem_of_getElem? (i := 174) (by decide +kernel), rfl⟩
theorem mw_175 : (Jvm.Cond.instantiable "ChartForest$Ways" (8 : Nat)) ∈ mj_tbl := List.mem_filter.mpr ⟨List.mem_of_getElem? (i := 175) (by decide +kernel), rfl⟩
theorem mw_176 : (Jvm.Cond.methodLink "ChartForest$Forest" (38 : Nat) ({ cls := "ChartForest$Ways", name := "<init>", desc := "(LChartForest$Grammar;LChartForest$Counts;)V" } : Jvm.MethodName)) ∈ mj_tbl := List.mem_filter.mpr ⟨List.mem_of_getElem? (i := 176) (by decide +kernel), rfl⟩
theorem mw_177 : (Jvm.Cond.instanceMethod ({ cls := "ChartForest$Ways", name := "<init>", desc := "(LChartForest$Grammar;LChartForest$Counts;)V" } : Jvm.MethodName)) ∈ mj_tbl := List.mem_filter.mpr ⟨List.mem_of_getElem? (i := 177) (by decide +kernel), rfl⟩
theorem mw_178 : (Jvm.Cond.code ({ cls := "ChartForest$Ways", name := "<init>", desc := "(LChartForest$Grammar;LChartForest$Counts;)V" } : Jvm.MethodName) prog_7_method_1_code (3 : Nat) (Option.none : Option Jvm.ClassFile.FieldType)) ∈ mj_tbl := List.mem_filter.mpr ⟨List.mem_of_getElem? (i := 178) (by decide +kernel), rfl⟩
theorem mw_179 : (Jvm.Cond.methodLink "ChartForest$Ways" (3 : Nat) ({ cls := "java/lang/Object", name := "<init>", desc := "()V" } : Jvm.MethodName)) ∈ mj_tbl := List.mem_filter.mpr ⟨List.mem_of_getElem? (i := 179) (by decide +kernel), rfl⟩
theorem mw_180 : (Jvm.Cond.fieldLink "ChartForest$Ways" (22 : Nat) "ChartForest$Ways" "grammar" "LChartForest$Grammar;") ∈ mj_tbl := List.mem_filter.mpr ⟨List.mem_of_getElem? (i := 180) (by decide +kernel), rfl⟩
theorem mw_181 : (Jvm.Cond.fieldLink "ChartForest$Ways" (26 : Nat) "ChartForest$Ways" "counts" "LChartForest$Counts;") ∈ mj_tbl := List.mem_filter.mpr ⟨List.mem_of_getElem? (i := 181) (by decide +kernel), rfl⟩
theorem mw_182 : (Jvm.Cond.fieldLink "ChartForest$Ways" (30 : Nat) "ChartForest$Ways" "from" "I") ∈ mj_tbl := List.mem_filter.mpr ⟨List.mem_of_getElem? (i := 182) (by decide +kernel), rfl⟩
theorem mw_183 : (Jvm.Cond.fieldLink "ChartForest$Ways" (34 : Nat) "ChartForest$Ways" "to" "I") ∈ mj_tbl := List.mem_filter.mpr ⟨List.mem_of_getElem? (i := 183) (by decide +kernel), rfl⟩
theorem mw_184 : (Jvm.Cond.fieldLink "ChartForest$Ways" (37 : Nat) "ChartForest$Ways" "count" "I") ∈ mj_tbl := List.mem_filter.mpr ⟨List.mem_of_getElem? (i := 184) (by decide +kernel), rfl⟩
theorem mw_185 : (Jvm.Cond.fieldLinkNest "ChartForest$Forest" (71 : Nat) "ChartForest$Ways" "count" "I" "ChartForest") ∈ mj_tbl := List.mem_filter.mpr ⟨List.mem_of_getElem? (i := 185) (by decide +kernel), rfl⟩
theorem mw_186 : (Jvm.Cond.fieldLink "ChartForest$Ways" (9 : Nat) "ChartForest$Ways" "rules" "[I") ∈ mj_tbl := List.mem_filter.mpr ⟨List.mem_of_getElem? (i := 186) (by decide +kernel), rfl⟩
theorem mw_187 : (Jvm.Cond.fieldLinkNest "ChartForest$Forest" (128 : Nat) "ChartForest$Ways" "rules" "[I" "ChartForest") ∈ mj_tbl := List.mem_filter.mpr ⟨List.mem_of_getElem? (i := 187) (by decide +kernel), rfl⟩
theorem mw_188 : (Jvm.Cond.fieldLink "ChartForest$Ways" (15 : Nat) "ChartForest$Ways" "innerCuts" "[I") ∈ mj_tbl := List.mem_filter.mpr ⟨List.mem_of_getElem? (i := 188) (by decide +kernel), rfl⟩
theorem mw_189 : (Jvm.Cond.fieldLink "ChartForest$Ways" (18 : Nat) "ChartForest$Ways" "trees" "[J") ∈ mj_tbl := List.mem_filter.mpr ⟨List.mem_of_getElem? (i := 189) (by decide +kernel), rfl⟩
theorem mw_190 : (Jvm.Cond.fieldLinkNest "ChartForest$Forest" (125 : Nat) "ChartForest$Ways" "trees" "[J" "ChartForest") ∈ mj_tbl := List.mem_filter.mpr ⟨List.mem_of_getElem? (i := 190) (by decide +kernel), rfl⟩
theorem mw_207 : (Jvm.Cond.superclass "ChartForest$Ways" "java/lang/Object") ∈ mj_tbl := List.mem_filter.mpr ⟨List.mem_of_getElem? (i := 207) (by decide +kernel), rfl⟩
theorem mw_208 : (Jvm.Cond.fieldLink "ChartForest$Forest" (23 : Nat) "ChartForest$Forest" "tape" "LChartForest$Tape;") ∈ mj_tbl := List.mem_filter.mpr ⟨List.mem_of_getElem? (i := 208) (by decide +kernel), rfl⟩
theorem mw_209 : (Jvm.Cond.fieldLink "ChartForest$Forest" (32 : Nat) "ChartForest$Forest" "counts" "LChartForest$Counts;") ∈ mj_tbl := List.mem_filter.mpr ⟨List.mem_of_getElem? (i := 209) (by decide +kernel), rfl⟩
theorem mw_210 : (Jvm.Cond.fieldLink "ChartForest$Forest" (41 : Nat) "ChartForest$Forest" "ways" "LChartForest$Ways;") ∈ mj_tbl := List.mem_filter.mpr ⟨List.mem_of_getElem? (i := 210) (by decide +kernel), rfl⟩
theorem mw_211 : (Jvm.Cond.fieldLink "ChartForest$Forest" (45 : Nat) "ChartForest$Forest" "readyEnds" "I") ∈ mj_tbl := List.mem_filter.mpr ⟨List.mem_of_getElem? (i := 211) (by decide +kernel), rfl⟩
theorem mw_212 : (Jvm.Cond.fieldLink "ChartForest$Forest" (9 : Nat) "ChartForest$Forest" "cells" "[I") ∈ mj_tbl := List.mem_filter.mpr ⟨List.mem_of_getElem? (i := 212) (by decide +kernel), rfl⟩
theorem mw_213 : (Jvm.Cond.fieldLink "ChartForest$Forest" (15 : Nat) "ChartForest$Forest" "met" "[Z") ∈ mj_tbl := List.mem_filter.mpr ⟨List.mem_of_getElem? (i := 213) (by decide +kernel), rfl⟩
theorem mw_214 : (Jvm.Cond.fieldLink "ChartForest$Forest" (91 : Nat) "ChartForest$Forest" "cellCount" "I") ∈ mj_tbl := List.mem_filter.mpr ⟨List.mem_of_getElem? (i := 214) (by decide +kernel), rfl⟩
theorem mw_215 : (Jvm.Cond.fieldLink "ChartForest$Forest" (19 : Nat) "ChartForest$Forest" "numbers" "[J") ∈ mj_tbl := List.mem_filter.mpr ⟨List.mem_of_getElem? (i := 215) (by decide +kernel), rfl⟩
theorem mw_232 : (Jvm.Cond.superclass "ChartForest$Forest" "java/lang/Object") ∈ mj_tbl := List.mem_filter.mpr ⟨List.mem_of_getElem? (i := 232) (by decide +kernel), rfl⟩
theorem mw_233 : (Jvm.Cond.methodLink "ChartForest" (41 : Nat) ({ cls := "ChartForest$Chart", name := "openFirst", desc := "()V" } : Jvm.MethodName)) ∈ mj_tbl := List.mem_filter.mpr ⟨List.mem_of_getElem? (i := 233) (by decide +kernel), rfl⟩
theorem mw_234 : (Jvm.Cond.instanceMethod ({ cls := "ChartForest$Chart", name := "openFirst", desc := "()V" } : Jvm.MethodName)) ∈ mj_tbl := List.mem_filter.mpr ⟨List.mem_of_getElem? (i := 234) (by decide +kernel), rfl⟩
theorem mw_235 : (Jvm.Cond.selects "ChartForest$Chart" ({ cls := "ChartForest$Chart", name := "openFirst", desc := "()V" } : Jvm.MethodName) ({ cls := "ChartForest$Chart", name := "openFirst", desc := "()V" } : Jvm.MethodName)) ∈ mj_tbl := List.mem_filter.mpr ⟨List.mem_of_getElem? (i := 235) (by decide +kernel), rfl⟩
theorem mw_236 : (Jvm.Cond.code ({ cls := "ChartForest$Chart", name := "openFirst", desc := "()V" } : Jvm.MethodName) prog_2_method_2_code (1 : Nat) (Option.none : Option Jvm.ClassFile.FieldType)) ∈ mj_tbl := List.mem_filter.mpr ⟨List.mem_of_getElem? (i := 236) (by decide +kernel), rfl⟩
theorem mw_237 : (Jvm.Cond.methodLink "ChartForest$Chart" (34 : Nat) ({ cls := "ChartForest$Chart", name := "empty", desc := "(I)V" } : Jvm.MethodName)) ∈ mj_tbl := List.mem_filter.mpr ⟨List.mem_of_getElem? (i := 237) (by decide +kernel), rfl⟩
theorem mw_239 : (Jvm.Cond.instanceMethod ({ cls := "ChartForest$Chart", name := "empty", desc := "(I)V" } : Jvm.MethodName)) ∈ mj_tbl := List.mem_filter.mpr ⟨List.mem_of_getElem? (i := 239) (by decide +kernel), rfl⟩
theorem mw_240 : (Jvm.Cond.code ({ cls := "ChartForest$Chart", name := "empty", desc := "(I)V" } : Jvm.MethodName) prog_2_method_8_code (3 : Nat) (Option.none : Option Jvm.ClassFile.FieldType)) ∈ mj_tbl := List.mem_filter.mpr ⟨List.mem_of_getElem? (i := 240) (by decide +kernel), rfl⟩
theorem mw_241 : (Jvm.Cond.methodLinkNest "ChartForest$Chart" (38 : Nat) ({ cls := "ChartForest", name := "slotOf", desc := "(II)I" } : Jvm.MethodName) "ChartForest") ∈ mj_tbl := List.mem_filter.mpr ⟨List.mem_of_getElem? (i := 241) (by decide +kernel), rfl⟩
theorem mw_242 : (Jvm.Cond.methodLink "ChartForest$Chart" (42 : Nat) ({ cls := "ChartForest$Chart", name := "put", desc := "(III)V" } : Jvm.MethodName)) ∈ mj_tbl := List.mem_filter.mpr ⟨List.mem_of_getElem? (i := 242) (by decide +kernel), rfl⟩
theorem mw_244 : (Jvm.Cond.instanceMethod ({ cls := "ChartForest$Chart", name := "put", desc := "(III)V" } : Jvm.MethodName)) ∈ mj_tbl := List.mem_filter.mpr ⟨List.mem_of_getElem? (i := 244) (by decide +kernel), rfl⟩
theorem mw_245 : (Jvm.Cond.code ({ cls := "ChartForest$Chart", name := "put", desc := "(III)V" } : Jvm.MethodName) prog_2_method_9_code (4 : Nat) (Option.none : Option Jvm.ClassFile.FieldType)) ∈ mj_tbl := List.mem_filter.mpr ⟨List.mem_of_getElem? (i := 245) (by decide +kernel), rfl⟩
theorem mw_246 : (Jvm.Cond.methodLink "ChartForest$Chart" (78 : Nat) ({ cls := "ChartForest$Chart", name := "holds", desc := "(III)Z" } : Jvm.MethodName)) ∈ mj_tbl := List.mem_filter.mpr ⟨List.mem_of_getElem? (i := 246) (by decide +kernel), rfl⟩
theorem mw_247 : (Jvm.Cond.instanceMethod ({ cls := "ChartForest$Chart", name := "holds", desc := "(III)Z" } : Jvm.MethodName)) ∈ mj_tbl := List.mem_filter.mpr ⟨List.mem_of_getElem? (i := 247) (by decide +kernel), rfl⟩
theorem mw_248 : (Jvm.Cond.selects "ChartForest$Chart" ({ cls := "ChartForest$Chart", name := "holds", desc := "(III)Z" } : Jvm.MethodName) ({ cls := "ChartForest$Chart", name := "holds", desc := "(III)Z" } : Jvm.MethodName)) ∈ mj_tbl := List.mem_filter.mpr ⟨List.mem_of_getElem? (i := 248) (by decide +kernel), rfl⟩
theorem mw_249 : (Jvm.Cond.code ({ cls := "ChartForest$Chart", name := "holds", desc := "(III)Z" } : Jvm.MethodName) prog_2_method_4_code (4 : Nat) (Option.some Jvm.ClassFile.FieldType.boolean)) ∈ mj_tbl := List.mem_filter.mpr ⟨List.mem_of_getElem? (i := 249) (by decide +kernel), rfl⟩
theorem mw_250 : (Jvm.Cond.methodLink "ChartForest$Chart" (46 : Nat) ({ cls := "ChartForest$Chart", name := "close", desc := "(I)V" } : Jvm.MethodName)) ∈ mj_tbl := List.mem_filter.mpr ⟨List.mem_of_getElem? (i := 250) (by decide +kernel), rfl⟩
theorem mw_252 : (Jvm.Cond.instanceMethod ({ cls := "ChartForest$Chart", name := "close", desc := "(I)V" } : Jvm.MethodName)) ∈ mj_tbl := List.mem_filter.mpr ⟨List.mem_of_getElem? (i := 252) (by decide +kernel), rfl⟩
theorem mw_253 : (Jvm.Cond.code ({ cls := "ChartForest$Chart", name := "close", desc := "(I)V" } : Jvm.MethodName) prog_2_method_11_code (6 : Nat) (Option.none : Option Jvm.ClassFile.FieldType)) ∈ mj_tbl := List.mem_filter.mpr ⟨List.mem_of_getElem? (i := 253) (by decide +kernel), rfl⟩
theorem mw_254 : (Jvm.Cond.methodLink "ChartForest$Chart" (82 : Nat) ({ cls := "ChartForest$Chart", name := "leftSide", desc := "(I)I" } : Jvm.MethodName)) ∈ mj_tbl := List.mem_filter.mpr ⟨List.mem_of_getElem? (i := 254) (by decide +kernel), rfl⟩
theorem mw_256 : (Jvm.Cond.instanceMethod ({ cls := "ChartForest$Chart", name := "leftSide", desc := "(I)I" } : Jvm.MethodName)) ∈ mj_tbl := List.mem_filter.mpr ⟨List.mem_of_getElem? (i := 256) (by decide +kernel), rfl⟩
theorem mw_257 : (Jvm.Cond.code ({ cls := "ChartForest$Chart", name := "leftSide", desc := "(I)I" } : Jvm.MethodName) prog_2_method_7_code (2 : Nat) (Option.some Jvm.ClassFile.FieldType.int)) ∈ mj_tbl := List.mem_filter.mpr ⟨List.mem_of_getElem? (i := 257) (by decide +kernel), rfl⟩
theorem mw_258 : (Jvm.Cond.methodLink "ChartForest$Chart" (68 : Nat) ({ cls := "ChartForest$Grammar", name := "leftOf", desc := "(I)I" } : Jvm.MethodName)) ∈ mj_tbl := List.mem_filter.mpr ⟨List.mem_of_getElem? (i := 258) (by decide +kernel), rfl⟩
theorem mw_259 : (Jvm.Cond.instanceMethod ({ cls := "ChartForest$Grammar", name := "leftOf", desc := "(I)I" } : Jvm.MethodName)) ∈ mj_tbl := List.mem_filter.mpr ⟨List.mem_of_getElem? (i := 259) (by decide +kernel), rfl⟩
theorem mw_260 : (Jvm.Cond.selects "ChartForest$Grammar" ({ cls := "ChartForest$Grammar", name := "leftOf", desc := "(I)I" } : Jvm.MethodName) ({ cls := "ChartForest$Grammar", name := "leftOf", desc := "(I)I" } : Jvm.MethodName)) ∈ mj_tbl := List.mem_filter.mpr ⟨List.mem_of_getElem? (i := 260) (by decide +kernel), rfl⟩
theorem mw_261 : (Jvm.Cond.code ({ cls := "ChartForest$Grammar", name := "leftOf", desc := "(I)I" } : Jvm.MethodName) prog_5_method_3_code (2 : Nat) (Option.some Jvm.ClassFile.FieldType.int)) ∈ mj_tbl := List.mem_filter.mpr ⟨List.mem_of_getElem? (i := 261) (by decide +kernel), rfl⟩
theorem mw_262 : (Jvm.Cond.methodLink "ChartForest$Chart" (85 : Nat) ({ cls := "ChartForest$Chart", name := "complete", desc := "(III)V" } : Jvm.MethodName)) ∈ mj_tbl := List.mem_filter.mpr ⟨List.mem_of_getElem? (i := 262) (by decide +kernel), rfl⟩
theorem mw_264 : (Jvm.Cond.instanceMethod ({ cls := "ChartForest$Chart", name := "complete", desc := "(III)V" } : Jvm.MethodName)) ∈ mj_tbl := List.mem_filter.mpr ⟨List.mem_of_getElem? (i := 264) (by decide +kernel), rfl⟩
theorem mw_265 : (Jvm.Cond.code ({ cls := "ChartForest$Chart", name := "complete", desc := "(III)V" } : Jvm.MethodName) prog_2_method_13_code (4 : Nat) (Option.none : Option Jvm.ClassFile.FieldType)) ∈ mj_tbl := List.mem_filter.mpr ⟨List.mem_of_getElem? (i := 265) (by decide +kernel), rfl⟩
theorem mw_266 : (Jvm.Cond.methodLink "ChartForest$Chart" (52 : Nat) ({ cls := "ChartForest$Chart", name := "advance", desc := "(III)V" } : Jvm.MethodName)) ∈ mj_tbl := List.mem_filter.mpr ⟨List.mem_of_getElem? (i := 266) (by decide +kernel), rfl⟩
theorem mw_268 : (Jvm.Cond.instanceMethod ({ cls := "ChartForest$Chart", name := "advance", desc := "(III)V" } : Jvm.MethodName)) ∈ mj_tbl := List.mem_filter.mpr ⟨List.mem_of_getElem? (i := 268) (by decide +kernel), rfl⟩
theorem mw_269 : (Jvm.Cond.code ({ cls := "ChartForest$Chart", name := "advance", desc := "(III)V" } : Jvm.MethodName) prog_2_method_10_code (6 : Nat) (Option.none : Option Jvm.ClassFile.FieldType)) ∈ mj_tbl := List.mem_filter.mpr ⟨List.mem_of_getElem? (i := 269) (by decide +kernel), rfl⟩
theorem mw_270 : (Jvm.Cond.methodLinkNest "ChartForest$Chart" (88 : Nat) ({ cls := "ChartForest", name := "isNonterminal", desc := "(I)Z" } : Jvm.MethodName) "ChartForest") ∈ mj_tbl := List.mem_filter.mpr ⟨List.mem_of_getElem? (i := 270) (by decide +kernel), rfl⟩
theorem mw_271 : (Jvm.Cond.static ({ cls := "ChartForest", name := "isNonterminal", desc := "(I)Z" } : Jvm.MethodName)) ∈ mj_tbl := List.mem_filter.mpr ⟨List.mem_of_getElem? (i := 271) (by decide +kernel), rfl⟩
theorem mw_272 : (Jvm.Cond.code ({ cls := "ChartForest", name := "isNonterminal", desc := "(I)Z" } : Jvm.MethodName) prog_1_method_17_code (1 : Nat) (Option.some Jvm.ClassFile.FieldType.boolean)) ∈ mj_tbl := List.mem_filter.mpr ⟨List.mem_of_getElem? (i := 272) (by decide +kernel), rfl⟩
theorem mw_273 : (Jvm.Cond.methodLink "ChartForest$Chart" (91 : Nat) ({ cls := "ChartForest$Chart", name := "predict", desc := "(II)V" } : Jvm.MethodName)) ∈ mj_tbl := List.mem_filter.mpr ⟨List.mem_of_getElem? (i := 273) (by decide +kernel), rfl⟩
theorem mw_275 : (Jvm.Cond.instanceMethod ({ cls := "ChartForest$Chart", name := "predict", desc := "(II)V" } : Jvm.MethodName)) ∈ mj_tbl := List.mem_filter.mpr ⟨List.mem_of_getElem? (i := 275) (by decide +kernel), rfl⟩
theorem mw_276 : (Jvm.Cond.code ({ cls := "ChartForest$Chart", name := "predict", desc := "(II)V" } : Jvm.MethodName) prog_2_method_12_code (4 : Nat) (Option.none : Option Jvm.ClassFile.FieldType)) ∈ mj_tbl := List.mem_filter.mpr ⟨List.mem_of_getElem? (i := 276) (by decide +kernel), rfl⟩
theorem mw_277 : (Jvm.Cond.fieldLink "ChartForest" (12 : Nat) "ChartForest" "grammar" "LChartForest$Grammar;") ∈ mj_tbl := List.mem_filter.mpr ⟨List.mem_of_getElem? (i := 277) (by decide +kernel), rfl⟩
theorem mw_278 : (Jvm.Cond.fieldLink "ChartForest" (19 : Nat) "ChartForest" "tape" "LChartForest$Tape;") ∈ mj_tbl := List.mem_filter.mpr ⟨List.mem_of_getElem? (i := 278) (by decide +kernel), rfl⟩
theorem mw_279 : (Jvm.Cond.fieldLink "ChartForest" (28 : Nat) "ChartForest" "chart" "LChartForest$Chart;") ∈ mj_tbl := List.mem_filter.mpr ⟨List.mem_of_getElem? (i := 279) (by decide +kernel), rfl⟩
theorem mw_280 : (Jvm.Cond.fieldLink "ChartForest" (37 : Nat) "ChartForest" "forest" "LChartForest$Forest;") ∈ mj_tbl := List.mem_filter.mpr ⟨List.mem_of_getElem? (i := 280) (by decide +kernel), rfl⟩
theorem mw_289 : (Jvm.Cond.superclass "ChartForest" "java/lang/Object") ∈ mj_tbl := List.mem_filter.mpr ⟨List.mem_of_getElem? (i := 289) (by decide +kernel), rfl⟩
theorem mw_290 : (Jvm.Cond.methodLink "ChartForestLaw" (77 : Nat) ({ cls := "ChartForest", name := "fed", desc := "()I" } : Jvm.MethodName)) ∈ mj_tbl := List.mem_filter.mpr ⟨List.mem_of_getElem? (i := 290) (by decide +kernel), rfl⟩
theorem mw_291 : (Jvm.Cond.instanceMethod ({ cls := "ChartForest", name := "fed", desc := "()I" } : Jvm.MethodName)) ∈ mj_tbl := List.mem_filter.mpr ⟨List.mem_of_getElem? (i := 291) (by decide +kernel), rfl⟩
theorem mw_292 : (Jvm.Cond.selects "ChartForest" ({ cls := "ChartForest", name := "fed", desc := "()I" } : Jvm.MethodName) ({ cls := "ChartForest", name := "fed", desc := "()I" } : Jvm.MethodName)) ∈ mj_tbl := List.mem_filter.mpr ⟨List.mem_of_getElem? (i := 292) (by decide +kernel), rfl⟩
theorem mw_293 : (Jvm.Cond.code ({ cls := "ChartForest", name := "fed", desc := "()I" } : Jvm.MethodName) prog_1_method_5_code (1 : Nat) (Option.some Jvm.ClassFile.FieldType.int)) ∈ mj_tbl := List.mem_filter.mpr ⟨List.mem_of_getElem? (i := 293) (by decide +kernel), rfl⟩
theorem mw_294 : (Jvm.Cond.methodLink "ChartForestLaw" (81 : Nat) ({ cls := "ChartForest", name := "accepts", desc := "()Z" } : Jvm.MethodName)) ∈ mj_tbl := List.mem_filter.mpr ⟨List.mem_of_getElem? (i := 294) (by decide +kernel), rfl⟩
theorem mw_295 : (Jvm.Cond.instanceMethod ({ cls := "ChartForest", name := "accepts", desc := "()Z" } : Jvm.MethodName)) ∈ mj_tbl := List.mem_filter.mpr ⟨List.mem_of_getElem? (i := 295) (by decide +kernel), rfl⟩
theorem mw_296 : (Jvm.Cond.selects "ChartForest" ({ cls := "ChartForest", name := "accepts", desc := "()Z" } : Jvm.MethodName) ({ cls := "ChartForest", name := "accepts", desc := "()Z" } : Jvm.MethodName)) ∈ mj_tbl := List.mem_filter.mpr ⟨List.mem_of_getElem? (i := 296) (by decide +kernel), rfl⟩
theorem mw_297 : (Jvm.Cond.code ({ cls := "ChartForest", name := "accepts", desc := "()Z" } : Jvm.MethodName) prog_1_method_6_code (1 : Nat) (Option.some Jvm.ClassFile.FieldType.boolean)) ∈ mj_tbl := List.mem_filter.mpr ⟨List.mem_of_getElem? (i := 297) (by decide +kernel), rfl⟩
theorem mw_298 : (Jvm.Cond.methodLink "ChartForest" (96 : Nat) ({ cls := "ChartForest", name := "slotOf", desc := "(II)I" } : Jvm.MethodName)) ∈ mj_tbl := List.mem_filter.mpr ⟨List.mem_of_getElem? (i := 298) (by decide +kernel), rfl⟩
theorem mw_299 : (Jvm.Cond.methodLink "ChartForest" (100 : Nat) ({ cls := "ChartForest$Chart", name := "holds", desc := "(III)Z" } : Jvm.MethodName)) ∈ mj_tbl := List.mem_filter.mpr ⟨List.mem_of_getElem? (i := 299) (by decide +kernel), rfl⟩
theorem mw_300 : (Jvm.Cond.methodLink "ChartForestLaw" (86 : Nat) ({ cls := "ChartForest", name := "expected", desc := "()I" } : Jvm.MethodName)) ∈ mj_tbl := List.mem_filter.mpr ⟨List.mem_of_getElem? (i := 300) (by decide +kernel), rfl⟩
theorem mw_301 : (Jvm.Cond.instanceMethod ({ cls := "ChartForest", name := "expected", desc := "()I" } : Jvm.MethodName)) ∈ mj_tbl := List.mem_filter.mpr ⟨List.mem_of_getElem? (i := 301) (by decide +kernel), rfl⟩
theorem mw_302 : (Jvm.Cond.selects "ChartForest" ({ cls := "ChartForest", name := "expected", desc := "()I" } : Jvm.MethodName) ({ cls := "ChartForest", name := "expected", desc := "()I" } : Jvm.MethodName)) ∈ mj_tbl := List.mem_filter.mpr ⟨List.mem_of_getElem? (i := 302) (by decide +kernel), rfl⟩
theorem mw_303 : (Jvm.Cond.code ({ cls := "ChartForest", name := "expected", desc := "()I" } : Jvm.MethodName) prog_1_method_7_code (1 : Nat) (Option.some Jvm.ClassFile.FieldType.int)) ∈ mj_tbl := List.mem_filter.mpr ⟨List.mem_of_getElem? (i := 303) (by decide +kernel), rfl⟩
theorem mw_304 : (Jvm.Cond.methodLink "ChartForest" (76 : Nat) ({ cls := "ChartForest$Chart", name := "terminalsBehindDots", desc := "(I)I" } : Jvm.MethodName)) ∈ mj_tbl := List.mem_filter.mpr ⟨List.mem_of_getElem? (i := 304) (by decide +kernel), rfl⟩
theorem mw_305 : (Jvm.Cond.instanceMethod ({ cls := "ChartForest$Chart", name := "terminalsBehindDots", desc := "(I)I" } : Jvm.MethodName)) ∈ mj_tbl := List.mem_filter.mpr ⟨List.mem_of_getElem? (i := 305) (by decide +kernel), rfl⟩
theorem mw_306 : (Jvm.Cond.selects "ChartForest$Chart" ({ cls := "ChartForest$Chart", name := "terminalsBehindDots", desc := "(I)I" } : Jvm.MethodName) ({ cls := "ChartForest$Chart", name := "terminalsBehindDots", desc := "(I)I" } : Jvm.MethodName)) ∈ mj_tbl := List.mem_filter.mpr ⟨List.mem_of_getElem? (i := 306) (by decide +kernel), rfl⟩
theorem mw_307 : (Jvm.Cond.code ({ cls := "ChartForest$Chart", name := "terminalsBehindDots", desc := "(I)I" } : Jvm.MethodName) prog_2_method_5_code (5 : Nat) (Option.some Jvm.ClassFile.FieldType.int)) ∈ mj_tbl := List.mem_filter.mpr ⟨List.mem_of_getElem? (i := 307) (by decide +kernel), rfl⟩
theorem mw_308 : (Jvm.Cond.methodLinkNest "ChartForest$Chart" (60 : Nat) ({ cls := "ChartForest", name := "isTerminal", desc := "(I)Z" } : Jvm.MethodName) "ChartForest") ∈ mj_tbl := List.mem_filter.mpr ⟨List.mem_of_getElem? (i := 308) (by decide +kernel), rfl⟩
theorem mw_309 : (Jvm.Cond.static ({ cls := "ChartForest", name := "isTerminal", desc := "(I)Z" } : Jvm.MethodName)) ∈ mj_tbl := List.mem_filter.mpr ⟨List.mem_of_getElem? (i := 309) (by decide +kernel), rfl⟩
theorem mw_310 : (Jvm.Cond.code ({ cls := "ChartForest", name := "isTerminal", desc := "(I)Z" } : Jvm.MethodName) prog_1_method_18_code (1 : Nat) (Option.some Jvm.ClassFile.FieldType.boolean)) ∈ mj_tbl := List.mem_filter.mpr ⟨List.mem_of_getElem? (i := 310) (by decide +kernel), rfl⟩
theorem mw_311 : (Jvm.Cond.methodLinkNest "ChartForest$Chart" (64 : Nat) ({ cls := "ChartForest", name := "terminalBit", desc := "(I)I" } : Jvm.MethodName) "ChartForest") ∈ mj_tbl := List.mem_filter.mpr ⟨List.mem_of_getElem? (i := 311) (by decide +kernel), rfl⟩
theorem mw_312 : (Jvm.Cond.static ({ cls := "ChartForest", name := "terminalBit", desc := "(I)I" } : Jvm.MethodName)) ∈ mj_tbl := List.mem_filter.mpr ⟨List.mem_of_getElem? (i := 312) (by decide +kernel), rfl⟩
theorem mw_313 : (Jvm.Cond.code ({ cls := "ChartForest", name := "terminalBit", desc := "(I)I" } : Jvm.MethodName) prog_1_method_21_code (1 : Nat) (Option.some Jvm.ClassFile.FieldType.int)) ∈ mj_tbl := List.mem_filter.mpr ⟨List.mem_of_getElem? (i := 313) (by decide +kernel), rfl⟩
theorem mw_314 : (Jvm.Cond.methodLink "ChartForestLaw" (107 : Nat) ({ cls := "ChartForest", name := "nodes", desc := "()I" } : Jvm.MethodName)) ∈ mj_tbl := List.mem_filter.mpr ⟨List.mem_of_getElem? (i := 314) (by decide +kernel), rfl⟩
theorem mw_315 : (Jvm.Cond.instanceMethod ({ cls := "ChartForest", name := "nodes", desc := "()I" } : Jvm.MethodName)) ∈ mj_tbl := List.mem_filter.mpr ⟨List.mem_of_getElem? (i := 315) (by decide +kernel), rfl⟩
theorem mw_316 : (Jvm.Cond.selects "ChartForest" ({ cls := "ChartForest", name := "nodes", desc := "()I" } : Jvm.MethodName) ({ cls := "ChartForest", name := "nodes", desc := "()I" } : Jvm.MethodName)) ∈ mj_tbl := List.mem_filter.mpr ⟨List.mem_of_getElem? (i := 316) (by decide +kernel), rfl⟩
theorem mw_317 : (Jvm.Cond.code ({ cls := "ChartForest", name := "nodes", desc := "()I" } : Jvm.MethodName) prog_1_method_13_code (1 : Nat) (Option.some Jvm.ClassFile.FieldType.int)) ∈ mj_tbl := List.mem_filter.mpr ⟨List.mem_of_getElem? (i := 317) (by decide +kernel), rfl⟩
theorem mw_318 : (Jvm.Cond.methodLink "ChartForest" (116 : Nat) ({ cls := "ChartForest$Forest", name := "makeReady", desc := "()V" } : Jvm.MethodName)) ∈ mj_tbl := List.mem_filter.mpr ⟨List.mem_of_getElem? (i := 318) (by decide +kernel), rfl⟩
theorem mw_319 : (Jvm.Cond.instanceMethod ({ cls := "ChartForest$Forest", name := "makeReady", desc := "()V" } : Jvm.MethodName)) ∈ mj_tbl := List.mem_filter.mpr ⟨List.mem_of_getElem? (i := 319) (by decide +kernel), rfl⟩
theorem mw_320 : (Jvm.Cond.selects "ChartForest$Forest" ({ cls := "ChartForest$Forest", name := "makeReady", desc := "()V" } : Jvm.MethodName) ({ cls := "ChartForest$Forest", name := "makeReady", desc := "()V" } : Jvm.MethodName)) ∈ mj_tbl := List.mem_filter.mpr ⟨List.mem_of_getElem? (i := 320) (by decide +kernel), rfl⟩
theorem mw_321 : (Jvm.Cond.code ({ cls := "ChartForest$Forest", name := "makeReady", desc := "()V" } : Jvm.MethodName) prog_4_method_3_code (3 : Nat) (Option.none : Option Jvm.ClassFile.FieldType)) ∈ mj_tbl := List.mem_filter.mpr ⟨List.mem_of_getElem? (i := 321) (by decide +kernel), rfl⟩
theorem mw_322 : (Jvm.Cond.methodLink "ChartForest$Forest" (60 : Nat) ({ cls := "ChartForest$Forest", name := "findDeriving", desc := "(II)V" } : Jvm.MethodName)) ∈ mj_tbl := List.mem_filter.mpr ⟨List.mem_of_getElem? (i := 322) (by decide +kernel), rfl⟩
theorem mw_324 : (Jvm.Cond.instanceMethod ({ cls := "ChartForest$Forest", name := "findDeriving", desc := "(II)V" } : Jvm.MethodName)) ∈ mj_tbl := List.mem_filter.mpr ⟨List.mem_of_getElem? (i := 324) (by decide +kernel), rfl⟩
theorem mw_325 : (Jvm.Cond.code ({ cls := "ChartForest$Forest", name := "findDeriving", desc := "(II)V" } : Jvm.MethodName) prog_4_method_6_code (7 : Nat) (Option.none : Option Jvm.ClassFile.FieldType)) ∈ mj_tbl := List.mem_filter.mpr ⟨List.mem_of_getElem? (i := 325) (by decide +kernel), rfl⟩
theorem mw_326 : (Jvm.Cond.methodLinkNest "ChartForest$Forest" (81 : Nat) ({ cls := "ChartForest", name := "cellOf", desc := "(III)I" } : Jvm.MethodName) "ChartForest") ∈ mj_tbl := List.mem_filter.mpr ⟨List.mem_of_getElem? (i := 326) (by decide +kernel), rfl⟩
theorem mw_327 : (Jvm.Cond.static ({ cls := "ChartForest", name := "cellOf", desc := "(III)I" } : Jvm.MethodName)) ∈ mj_tbl := List.mem_filter.mpr ⟨List.mem_of_getElem? (i := 327) (by decide +kernel), rfl⟩
theorem mw_328 : (Jvm.Cond.code ({ cls := "ChartForest", name := "cellOf", desc := "(III)I" } : Jvm.MethodName) prog_1_method_23_code (3 : Nat) (Option.some Jvm.ClassFile.FieldType.int)) ∈ mj_tbl := List.mem_filter.mpr ⟨List.mem_of_getElem? (i := 328) (by decide +kernel), rfl⟩
theorem mw_329 : (Jvm.Cond.methodLink "ChartForest$Forest" (67 : Nat) ({ cls := "ChartForest$Ways", name := "gather", desc := "(III)V" } : Jvm.MethodName)) ∈ mj_tbl := List.mem_filter.mpr ⟨List.mem_of_getElem? (i := 329) (by decide +kernel), rfl⟩
theorem mw_330 : (Jvm.Cond.instanceMethod ({ cls := "ChartForest$Ways", name := "gather", desc := "(III)V" } : Jvm.MethodName)) ∈ mj_tbl := List.mem_filter.mpr ⟨List.mem_of_getElem? (i := 330) (by decide +kernel), rfl⟩
theorem mw_331 : (Jvm.Cond.selects "ChartForest$Ways" ({ cls := "ChartForest$Ways", name := "gather", desc := "(III)V" } : Jvm.MethodName) ({ cls := "ChartForest$Ways", name := "gather", desc := "(III)V" } : Jvm.MethodName)) ∈ mj_tbl := List.mem_filter.mpr ⟨List.mem_of_getElem? (i := 331) (by decide +kernel), rfl⟩
theorem mw_332 : (Jvm.Cond.code ({ cls := "ChartForest$Ways", name := "gather", desc := "(III)V" } : Jvm.MethodName) prog_7_method_2_code (5 : Nat) (Option.none : Option Jvm.ClassFile.FieldType)) ∈ mj_tbl := List.mem_filter.mpr ⟨List.mem_of_getElem? (i := 332) (by decide +kernel), rfl⟩
theorem mw_333 : (Jvm.Cond.methodLink "ChartForest$Ways" (43 : Nat) ({ cls := "ChartForest$Grammar", name := "leftOf", desc := "(I)I" } : Jvm.MethodName)) ∈ mj_tbl := List.mem_filter.mpr ⟨List.mem_of_getElem? (i := 333) (by decide +kernel), rfl⟩
theorem mw_334 : (Jvm.Cond.methodLink "ChartForest$Ways" (47 : Nat) ({ cls := "ChartForest$Ways", name := "gatherRule", desc := "(I)V" } : Jvm.MethodName)) ∈ mj_tbl := List.mem_filter.mpr ⟨List.mem_of_getElem? (i := 334) (by decide +kernel), rfl⟩
theorem mw_336 : (Jvm.Cond.instanceMethod ({ cls := "ChartForest$Ways", name := "gatherRule", desc := "(I)V" } : Jvm.MethodName)) ∈ mj_tbl := List.mem_filter.mpr ⟨List.mem_of_getElem? (i := 336) (by decide +kernel), rfl⟩
theorem mw_337 : (Jvm.Cond.code ({ cls := "ChartForest$Ways", name := "gatherRule", desc := "(I)V" } : Jvm.MethodName) prog_7_method_3_code (12 : Nat) (Option.none : Option Jvm.ClassFile.FieldType)) ∈ mj_tbl := List.mem_filter.mpr ⟨List.mem_of_getElem? (i := 337) (by decide +kernel), rfl⟩
theorem mw_338 : (Jvm.Cond.methodLinkNest "ChartForest$Ways" (51 : Nat) ({ cls := "ChartForest", name := "slotOf", desc := "(II)I" } : Jvm.MethodName) "ChartForest") ∈ mj_tbl := List.mem_filter.mpr ⟨List.mem_of_getElem? (i := 338) (by decide +kernel), rfl⟩
theorem mw_339 : (Jvm.Cond.methodLink "ChartForest$Ways" (58 : Nat) ({ cls := "ChartForest$Counts", name := "over", desc := "(III)J" } : Jvm.MethodName)) ∈ mj_tbl := List.mem_filter.mpr ⟨List.mem_of_getElem? (i := 339) (by decide +kernel), rfl⟩
theorem mw_340 : (Jvm.Cond.instanceMethod ({ cls := "ChartForest$Counts", name := "over", desc := "(III)J" } : Jvm.MethodName)) ∈ mj_tbl := List.mem_filter.mpr ⟨List.mem_of_getElem? (i := 340) (by decide +kernel), rfl⟩
theorem mw_341 : (Jvm.Cond.selects "ChartForest$Counts" ({ cls := "ChartForest$Counts", name := "over", desc := "(III)J" } : Jvm.MethodName) ({ cls := "ChartForest$Counts", name := "over", desc := "(III)J" } : Jvm.MethodName)) ∈ mj_tbl := List.mem_filter.mpr ⟨List.mem_of_getElem? (i := 341) (by decide +kernel), rfl⟩
theorem mw_342 : (Jvm.Cond.code ({ cls := "ChartForest$Counts", name := "over", desc := "(III)J" } : Jvm.MethodName) prog_3_method_2_code (4 : Nat) (Option.some Jvm.ClassFile.FieldType.long)) ∈ mj_tbl := List.mem_filter.mpr ⟨List.mem_of_getElem? (i := 342) (by decide +kernel), rfl⟩
theorem mw_343 : (Jvm.Cond.methodLink "ChartForest$Counts" (19 : Nat) ({ cls := "ChartForest$Tape", name := "isJust", desc := "(III)Z" } : Jvm.MethodName)) ∈ mj_tbl := List.mem_filter.mpr ⟨List.mem_of_getElem? (i := 343) (by decide +kernel), rfl⟩
theorem mw_344 : (Jvm.Cond.instanceMethod ({ cls := "ChartForest$Tape", name := "isJust", desc := "(III)Z" } : Jvm.MethodName)) ∈ mj_tbl := List.mem_filter.mpr ⟨List.mem_of_getElem? (i := 344) (by decide +kernel), rfl⟩
theorem mw_345 : (Jvm.Cond.selects "ChartForest$Tape" ({ cls := "ChartForest$Tape", name := "isJust", desc := "(III)Z" } : Jvm.MethodName) ({ cls := "ChartForest$Tape", name := "isJust", desc := "(III)Z" } : Jvm.MethodName)) ∈ mj_tbl := List.mem_filter.mpr ⟨List.mem_of_getElem? (i := 345) (by decide +kernel), rfl⟩
theorem mw_346 : (Jvm.Cond.code ({ cls := "ChartForest$Tape", name := "isJust", desc := "(III)Z" } : Jvm.MethodName) prog_6_method_3_code (4 : Nat) (Option.some Jvm.ClassFile.FieldType.boolean)) ∈ mj_tbl := List.mem_filter.mpr ⟨List.mem_of_getElem? (i := 346) (by decide +kernel), rfl⟩
theorem mw_347 : (Jvm.Cond.methodLinkNest "ChartForest$Counts" (25 : Nat) ({ cls := "ChartForest", name := "cellOf", desc := "(III)I" } : Jvm.MethodName) "ChartForest") ∈ mj_tbl := List.mem_filter.mpr ⟨List.mem_of_getElem? (i := 347) (by decide +kernel), rfl⟩
theorem mw_348 : (Jvm.Cond.methodLinkNest "ChartForest$Ways" (64 : Nat) ({ cls := "ChartForest", name := "product", desc := "(JJ)J" } : Jvm.MethodName) "ChartForest") ∈ mj_tbl := List.mem_filter.mpr ⟨List.mem_of_getElem? (i := 348) (by decide +kernel), rfl⟩
theorem mw_349 : (Jvm.Cond.static ({ cls := "ChartForest", name := "product", desc := "(JJ)J" } : Jvm.MethodName)) ∈ mj_tbl := List.mem_filter.mpr ⟨List.mem_of_getElem? (i := 349) (by decide +kernel), rfl⟩
theorem mw_350 : (Jvm.Cond.code ({ cls := "ChartForest", name := "product", desc := "(JJ)J" } : Jvm.MethodName) prog_1_method_25_code (4 : Nat) (Option.some Jvm.ClassFile.FieldType.long)) ∈ mj_tbl := List.mem_filter.mpr ⟨List.mem_of_getElem? (i := 350) (by decide +kernel), rfl⟩
theorem mw_351 : (Jvm.Cond.constantLong "ChartForest" (140 : Nat) (-1 : Int64)) ∈ mj_tbl := List.mem_filter.mpr ⟨List.mem_of_getElem? (i := 351) (by decide +kernel), rfl⟩
theorem mw_352 : (Jvm.Cond.constantLong "ChartForest" (131 : Nat) (1000000000000 : Int64)) ∈ mj_tbl := List.mem_filter.mpr ⟨List.mem_of_getElem? (i := 352) (by decide +kernel), rfl⟩
theorem mw_353 : (Jvm.Cond.methodLink "ChartForest$Ways" (68 : Nat) ({ cls := "ChartForest$Ways", name := "keep", desc := "(IIIJ)V" } : Jvm.MethodName)) ∈ mj_tbl := List.mem_filter.mpr ⟨List.mem_of_getElem? (i := 353) (by decide +kernel), rfl⟩
theorem mw_355 : (Jvm.Cond.instanceMethod ({ cls := "ChartForest$Ways", name := "keep", desc := "(IIIJ)V" } : Jvm.MethodName)) ∈ mj_tbl := List.mem_filter.mpr ⟨List.mem_of_getElem? (i := 355) (by decide +kernel), rfl⟩
theorem mw_356 : (Jvm.Cond.code ({ cls := "ChartForest$Ways", name := "keep", desc := "(IIIJ)V" } : Jvm.MethodName) prog_7_method_4_code (6 : Nat) (Option.none : Option Jvm.ClassFile.FieldType)) ∈ mj_tbl := List.mem_filter.mpr ⟨List.mem_of_getElem? (i := 356) (by decide +kernel), rfl⟩
theorem mw_357 : (Jvm.Cond.constantLong "ChartForest$Forest" (85 : Nat) (-1 : Int64)) ∈ mj_tbl := List.mem_filter.mpr ⟨List.mem_of_getElem? (i := 357) (by decide +kernel), rfl⟩
theorem mw_358 : (Jvm.Cond.methodLink "ChartForest$Forest" (64 : Nat) ({ cls := "ChartForest$Forest", name := "countTrees", desc := "(II)V" } : Jvm.MethodName)) ∈ mj_tbl := List.mem_filter.mpr ⟨List.mem_of_getElem? (i := 358) (by decide +kernel), rfl⟩
theorem mw_360 : (Jvm.Cond.instanceMethod ({ cls := "ChartForest$Forest", name := "countTrees", desc := "(II)V" } : Jvm.MethodName)) ∈ mj_tbl := List.mem_filter.mpr ⟨List.mem_of_getElem? (i := 360) (by decide +kernel), rfl⟩
theorem mw_361 : (Jvm.Cond.code ({ cls := "ChartForest$Forest", name := "countTrees", desc := "(II)V" } : Jvm.MethodName) prog_4_method_7_code (7 : Nat) (Option.none : Option Jvm.ClassFile.FieldType)) ∈ mj_tbl := List.mem_filter.mpr ⟨List.mem_of_getElem? (i := 361) (by decide +kernel), rfl⟩
theorem mw_362 : (Jvm.Cond.methodLink "ChartForest$Forest" (87 : Nat) ({ cls := "ChartForest$Ways", name := "treesOfAll", desc := "()J" } : Jvm.MethodName)) ∈ mj_tbl := List.mem_filter.mpr ⟨List.mem_of_getElem? (i := 362) (by decide +kernel), rfl⟩
theorem mw_363 : (Jvm.Cond.instanceMethod ({ cls := "ChartForest$Ways", name := "treesOfAll", desc := "()J" } : Jvm.MethodName)) ∈ mj_tbl := List.mem_filter.mpr ⟨List.mem_of_getElem? (i := 363) (by decide +kernel), rfl⟩
theorem mw_364 : (Jvm.Cond.selects "ChartForest$Ways" ({ cls := "ChartForest$Ways", name := "treesOfAll", desc := "()J" } : Jvm.MethodName) ({ cls := "ChartForest$Ways", name := "treesOfAll", desc := "()J" } : Jvm.MethodName)) ∈ mj_tbl := List.mem_filter.mpr ⟨List.mem_of_getElem? (i := 364) (by decide +kernel), rfl⟩
theorem mw_365 : (Jvm.Cond.code ({ cls := "ChartForest$Ways", name := "treesOfAll", desc := "()J" } : Jvm.MethodName) prog_7_method_8_code (4 : Nat) (Option.some Jvm.ClassFile.FieldType.long)) ∈ mj_tbl := List.mem_filter.mpr ⟨List.mem_of_getElem? (i := 365) (by decide +kernel), rfl⟩
theorem mw_366 : (Jvm.Cond.methodLinkNest "ChartForest$Ways" (78 : Nat) ({ cls := "ChartForest", name := "sum", desc := "(JJ)J" } : Jvm.MethodName) "ChartForest") ∈ mj_tbl := List.mem_filter.mpr ⟨List.mem_of_getElem? (i := 366) (by decide +kernel), rfl⟩
theorem mw_367 : (Jvm.Cond.static ({ cls := "ChartForest", name := "sum", desc := "(JJ)J" } : Jvm.MethodName)) ∈ mj_tbl := List.mem_filter.mpr ⟨List.mem_of_getElem? (i := 367) (by decide +kernel), rfl⟩
theorem mw_368 : (Jvm.Cond.code ({ cls := "ChartForest", name := "sum", desc := "(JJ)J" } : Jvm.MethodName) prog_1_method_24_code (4 : Nat) (Option.some Jvm.ClassFile.FieldType.long)) ∈ mj_tbl := List.mem_filter.mpr ⟨List.mem_of_getElem? (i := 368) (by decide +kernel), rfl⟩
theorem mw_369 : (Jvm.Cond.methodLink "ChartForest" (142 : Nat) ({ cls := "java/lang/Math", name := "min", desc := "(JJ)J" } : Jvm.MethodName)) ∈ mj_tbl := List.mem_filter.mpr ⟨List.mem_of_getElem? (i := 369) (by decide +kernel), rfl⟩
theorem mw_370 : (Jvm.Cond.static ({ cls := "java/lang/Math", name := "min", desc := "(JJ)J" } : Jvm.MethodName)) ∈ mj_tbl := List.mem_filter.mpr ⟨List.mem_of_getElem? (i := 370) (by decide +kernel), rfl⟩
theorem mw_371 : (Jvm.Cond.code ({ cls := "java/lang/Math", name := "min", desc := "(JJ)J" } : Jvm.MethodName) prog_15_method_70_code (4 : Nat) (Option.some Jvm.ClassFile.FieldType.long)) ∈ mj_tbl := List.mem_filter.mpr ⟨List.mem_of_getElem? (i := 371) (by decide +kernel), rfl⟩
theorem mw_372 : (Jvm.Cond.methodLink "ChartForest" (127 : Nat) ({ cls := "ChartForest$Forest", name := "nodesMet", desc := "()I" } : Jvm.MethodName)) ∈ mj_tbl := List.mem_filter.mpr ⟨List.mem_of_getElem? (i := 372) (by decide +kernel), rfl⟩
theorem mw_373 : (Jvm.Cond.instanceMethod ({ cls := "ChartForest$Forest", name := "nodesMet", desc := "()I" } : Jvm.MethodName)) ∈ mj_tbl := List.mem_filter.mpr ⟨List.mem_of_getElem? (i := 373) (by decide +kernel), rfl⟩
theorem mw_374 : (Jvm.Cond.selects "ChartForest$Forest" ({ cls := "ChartForest$Forest", name := "nodesMet", desc := "()I" } : Jvm.MethodName) ({ cls := "ChartForest$Forest", name := "nodesMet", desc := "()I" } : Jvm.MethodName)) ∈ mj_tbl := List.mem_filter.mpr ⟨List.mem_of_getElem? (i := 374) (by decide +kernel), rfl⟩
theorem mw_375 : (Jvm.Cond.code ({ cls := "ChartForest$Forest", name := "nodesMet", desc := "()I" } : Jvm.MethodName) prog_4_method_8_code (3 : Nat) (Option.some Jvm.ClassFile.FieldType.int)) ∈ mj_tbl := List.mem_filter.mpr ⟨List.mem_of_getElem? (i := 375) (by decide +kernel), rfl⟩
theorem mw_376 : (Jvm.Cond.methodLink "ChartForest$Forest" (94 : Nat) ({ cls := "ChartForest$Forest", name := "treesOver", desc := "(III)J" } : Jvm.MethodName)) ∈ mj_tbl := List.mem_filter.mpr ⟨List.mem_of_getElem? (i := 376) (by decide +kernel), rfl⟩
theorem mw_377 : (Jvm.Cond.instanceMethod ({ cls := "ChartForest$Forest", name := "treesOver", desc := "(III)J" } : Jvm.MethodName)) ∈ mj_tbl := List.mem_filter.mpr ⟨List.mem_of_getElem? (i := 377) (by decide +kernel), rfl⟩
theorem mw_378 : (Jvm.Cond.selects "ChartForest$Forest" ({ cls := "ChartForest$Forest", name := "treesOver", desc := "(III)J" } : Jvm.MethodName) ({ cls := "ChartForest$Forest", name := "treesOver", desc := "(III)J" } : Jvm.MethodName)) ∈ mj_tbl := List.mem_filter.mpr ⟨List.mem_of_getElem? (i := 378) (by decide +kernel), rfl⟩
theorem mw_379 : (Jvm.Cond.code ({ cls := "ChartForest$Forest", name := "treesOver", desc := "(III)J" } : Jvm.MethodName) prog_4_method_5_code (4 : Nat) (Option.some Jvm.ClassFile.FieldType.long)) ∈ mj_tbl := List.mem_filter.mpr ⟨List.mem_of_getElem? (i := 379) (by decide +kernel), rfl⟩
theorem mw_380 : (Jvm.Cond.methodLink "ChartForest$Forest" (74 : Nat) ({ cls := "ChartForest$Counts", name := "over", desc := "(III)J" } : Jvm.MethodName)) ∈ mj_tbl := List.mem_filter.mpr ⟨List.mem_of_getElem? (i := 380) (by decide +kernel), rfl⟩
theorem mw_381 : (Jvm.Cond.methodLink "ChartForest$Forest" (97 : Nat) ({ cls := "ChartForest$Forest", name := "meet", desc := "(I)V" } : Jvm.MethodName)) ∈ mj_tbl := List.mem_filter.mpr ⟨List.mem_of_getElem? (i := 381) (by decide +kernel), rfl⟩
theorem mw_383 : (Jvm.Cond.instanceMethod ({ cls := "ChartForest$Forest", name := "meet", desc := "(I)V" } : Jvm.MethodName)) ∈ mj_tbl := List.mem_filter.mpr ⟨List.mem_of_getElem? (i := 383) (by decide +kernel), rfl⟩
theorem mw_384 : (Jvm.Cond.code ({ cls := "ChartForest$Forest", name := "meet", desc := "(I)V" } : Jvm.MethodName) prog_4_method_12_code (2 : Nat) (Option.none : Option Jvm.ClassFile.FieldType)) ∈ mj_tbl := List.mem_filter.mpr ⟨List.mem_of_getElem? (i := 384) (by decide +kernel), rfl⟩
theorem mw_385 : (Jvm.Cond.methodLink "ChartForest$Forest" (101 : Nat) ({ cls := "ChartForest$Forest", name := "gatherCell", desc := "(I)V" } : Jvm.MethodName)) ∈ mj_tbl := List.mem_filter.mpr ⟨List.mem_of_getElem? (i := 385) (by decide +kernel), rfl⟩
theorem mw_387 : (Jvm.Cond.instanceMethod ({ cls := "ChartForest$Forest", name := "gatherCell", desc := "(I)V" } : Jvm.MethodName)) ∈ mj_tbl := List.mem_filter.mpr ⟨List.mem_of_getElem? (i := 387) (by decide +kernel), rfl⟩
theorem mw_388 : (Jvm.Cond.code ({ cls := "ChartForest$Forest", name := "gatherCell", desc := "(I)V" } : Jvm.MethodName) prog_4_method_9_code (2 : Nat) (Option.none : Option Jvm.ClassFile.FieldType)) ∈ mj_tbl := List.mem_filter.mpr ⟨List.mem_of_getElem? (i := 388) (by decide +kernel), rfl⟩
theorem mw_389 : (Jvm.Cond.methodLink "ChartForest$Forest" (104 : Nat) ({ cls := "ChartForest$Forest", name := "meetParts", desc := "(I)V" } : Jvm.MethodName)) ∈ mj_tbl := List.mem_filter.mpr ⟨List.mem_of_getElem? (i := 389) (by decide +kernel), rfl⟩
theorem mw_391 : (Jvm.Cond.instanceMethod ({ cls := "ChartForest$Forest", name := "meetParts", desc := "(I)V" } : Jvm.MethodName)) ∈ mj_tbl := List.mem_filter.mpr ⟨List.mem_of_getElem? (i := 391) (by decide +kernel), rfl⟩
theorem mw_392 : (Jvm.Cond.code ({ cls := "ChartForest$Forest", name := "meetParts", desc := "(I)V" } : Jvm.MethodName) prog_4_method_10_code (3 : Nat) (Option.none : Option Jvm.ClassFile.FieldType)) ∈ mj_tbl := List.mem_filter.mpr ⟨List.mem_of_getElem? (i := 392) (by decide +kernel), rfl⟩
theorem mw_393 : (Jvm.Cond.methodLink "ChartForest$Forest" (107 : Nat) ({ cls := "ChartForest$Ways", name := "symbolOf", desc := "(II)I" } : Jvm.MethodName)) ∈ mj_tbl := List.mem_filter.mpr ⟨List.mem_of_getElem? (i := 393) (by decide +kernel), rfl⟩
theorem mw_394 : (Jvm.Cond.instanceMethod ({ cls := "ChartForest$Ways", name := "symbolOf", desc := "(II)I" } : Jvm.MethodName)) ∈ mj_tbl := List.mem_filter.mpr ⟨List.mem_of_getElem? (i := 394) (by decide +kernel), rfl⟩
theorem mw_395 : (Jvm.Cond.selects "ChartForest$Ways" ({ cls := "ChartForest$Ways", name := "symbolOf", desc := "(II)I" } : Jvm.MethodName) ({ cls := "ChartForest$Ways", name := "symbolOf", desc := "(II)I" } : Jvm.MethodName)) ∈ mj_tbl := List.mem_filter.mpr ⟨List.mem_of_getElem? (i := 395) (by decide +kernel), rfl⟩
theorem mw_396 : (Jvm.Cond.code ({ cls := "ChartForest$Ways", name := "symbolOf", desc := "(II)I" } : Jvm.MethodName) prog_7_method_5_code (3 : Nat) (Option.some Jvm.ClassFile.FieldType.int)) ∈ mj_tbl := List.mem_filter.mpr ⟨List.mem_of_getElem? (i := 396) (by decide +kernel), rfl⟩
theorem mw_397 : (Jvm.Cond.methodLinkNest "ChartForest$Forest" (110 : Nat) ({ cls := "ChartForest", name := "isNonterminal", desc := "(I)Z" } : Jvm.MethodName) "ChartForest") ∈ mj_tbl := List.mem_filter.mpr ⟨List.mem_of_getElem? (i := 397) (by decide +kernel), rfl⟩
theorem mw_398 : (Jvm.Cond.methodLink "ChartForest$Forest" (114 : Nat) ({ cls := "ChartForest$Forest", name := "partCell", desc := "(II)I" } : Jvm.MethodName)) ∈ mj_tbl := List.mem_filter.mpr ⟨List.mem_of_getElem? (i := 398) (by decide +kernel), rfl⟩
theorem mw_400 : (Jvm.Cond.instanceMethod ({ cls := "ChartForest$Forest", name := "partCell", desc := "(II)I" } : Jvm.MethodName)) ∈ mj_tbl := List.mem_filter.mpr ⟨List.mem_of_getElem? (i := 400) (by decide +kernel), rfl⟩
theorem mw_401 : (Jvm.Cond.code ({ cls := "ChartForest$Forest", name := "partCell", desc := "(II)I" } : Jvm.MethodName) prog_4_method_11_code (3 : Nat) (Option.some Jvm.ClassFile.FieldType.int)) ∈ mj_tbl := List.mem_filter.mpr ⟨List.mem_of_getElem? (i := 401) (by decide +kernel), rfl⟩
theorem mw_402 : (Jvm.Cond.methodLink "ChartForest$Forest" (117 : Nat) ({ cls := "ChartForest$Ways", name := "cutOf", desc := "(II)I" } : Jvm.MethodName)) ∈ mj_tbl := List.mem_filter.mpr ⟨List.mem_of_getElem? (i := 402) (by decide +kernel), rfl⟩
theorem mw_403 : (Jvm.Cond.instanceMethod ({ cls := "ChartForest$Ways", name := "cutOf", desc := "(II)I" } : Jvm.MethodName)) ∈ mj_tbl := List.mem_filter.mpr ⟨List.mem_of_getElem? (i := 403) (by decide +kernel), rfl⟩
theorem mw_404 : (Jvm.Cond.selects "ChartForest$Ways" ({ cls := "ChartForest$Ways", name := "cutOf", desc := "(II)I" } : Jvm.MethodName) ({ cls := "ChartForest$Ways", name := "cutOf", desc := "(II)I" } : Jvm.MethodName)) ∈ mj_tbl := List.mem_filter.mpr ⟨List.mem_of_getElem? (i := 404) (by decide +kernel), rfl⟩
theorem mw_405 : (Jvm.Cond.code ({ cls := "ChartForest$Ways", name := "cutOf", desc := "(II)I" } : Jvm.MethodName) prog_7_method_6_code (3 : Nat) (Option.some Jvm.ClassFile.FieldType.int)) ∈ mj_tbl := List.mem_filter.mpr ⟨List.mem_of_getElem? (i := 405) (by decide +kernel), rfl⟩
theorem mw_406 : (Jvm.Cond.methodLink "ChartForestLaw" (50 : Nat) ({ cls := "ChartForestLaw", name := "cell", desc := "([II)I" } : Jvm.MethodName)) ∈ mj_tbl := List.mem_filter.mpr ⟨List.mem_of_getElem? (i := 406) (by decide +kernel), rfl⟩
theorem mw_407 : (Jvm.Cond.static ({ cls := "ChartForestLaw", name := "cell", desc := "([II)I" } : Jvm.MethodName)) ∈ mj_tbl := List.mem_filter.mpr ⟨List.mem_of_getElem? (i := 407) (by decide +kernel), rfl⟩
theorem mw_408 : (Jvm.Cond.code ({ cls := "ChartForestLaw", name := "cell", desc := "([II)I" } : Jvm.MethodName) method_2_code (2 : Nat) (Option.some Jvm.ClassFile.FieldType.int)) ∈ mj_tbl := List.mem_filter.mpr ⟨List.mem_of_getElem? (i := 408) (by decide +kernel), rfl⟩
theorem mw_409 : (Jvm.Cond.methodLink "ChartForestLaw" (62 : Nat) ({ cls := "ChartForestLaw", name := "rule", desc := "(LChartForest;III[J)I" } : Jvm.MethodName)) ∈ mj_tbl := List.mem_filter.mpr ⟨List.mem_of_getElem? (i := 409) (by decide +kernel), rfl⟩
theorem mw_410 : (Jvm.Cond.static ({ cls := "ChartForestLaw", name := "rule", desc := "(LChartForest;III[J)I" } : Jvm.MethodName)) ∈ mj_tbl := List.mem_filter.mpr ⟨List.mem_of_getElem? (i := 410) (by decide +kernel), rfl⟩
theorem mw_411 : (Jvm.Cond.codeWith ({ cls := "ChartForestLaw", name := "rule", desc := "(LChartForest;III[J)I" } : Jvm.MethodName) method_3_code (6 : Nat) (Option.some Jvm.ClassFile.FieldType.int) [((0 : Nat), (12 : Nat), (15 : Nat), (13 : Nat)), ((0 : Nat), (12 : Nat), (19 : Nat), (15 : Nat))]) ∈ mj_tbl := List.mem_filter.mpr ⟨List.mem_of_getElem? (i := 411) (by decide +kernel), rfl⟩
theorem mw_412 : (Jvm.Cond.classLink "ChartForestLaw" (13 : Nat) "java/lang/IllegalArgumentException") ∈ mj_tbl := List.mem_filter.mpr ⟨List.mem_of_getElem? (i := 412) (by decide +kernel), rfl⟩
theorem mw_413 : (Jvm.Cond.classLink "ChartForestLaw" (15 : Nat) "java/lang/IllegalStateException") ∈ mj_tbl := List.mem_filter.mpr ⟨List.mem_of_getElem? (i := 413) (by decide +kernel), rfl⟩
theorem mw_414 : (Jvm.Cond.methodLink "ChartForestLaw" (7 : Nat) ({ cls := "ChartForest", name := "rule", desc := "(III)I" } : Jvm.MethodName)) ∈ mj_tbl := List.mem_filter.mpr ⟨List.mem_of_getElem? (i := 414) (by decide +kernel), rfl⟩
theorem mw_415 : (Jvm.Cond.instanceMethod ({ cls := "ChartForest", name := "rule", desc := "(III)I" } : Jvm.MethodName)) ∈ mj_tbl := List.mem_filter.mpr ⟨List.mem_of_getElem? (i := 415) (by decide +kernel), rfl⟩
theorem mw_416 : (Jvm.Cond.selects "ChartForest" ({ cls := "ChartForest", name := "rule", desc := "(III)I" } : Jvm.MethodName) ({ cls := "ChartForest", name := "rule", desc := "(III)I" } : Jvm.MethodName)) ∈ mj_tbl := List.mem_filter.mpr ⟨List.mem_of_getElem? (i := 416) (by decide +kernel), rfl⟩
theorem mw_417 : (Jvm.Cond.code ({ cls := "ChartForest", name := "rule", desc := "(III)I" } : Jvm.MethodName) prog_1_method_2_code (4 : Nat) (Option.some Jvm.ClassFile.FieldType.int)) ∈ mj_tbl := List.mem_filter.mpr ⟨List.mem_of_getElem? (i := 417) (by decide +kernel), rfl⟩
theorem mw_418 : (Jvm.Cond.methodLink "ChartForest" (44 : Nat) ({ cls := "ChartForest", name := "isNonterminal", desc := "(I)Z" } : Jvm.MethodName)) ∈ mj_tbl := List.mem_filter.mpr ⟨List.mem_of_getElem? (i := 418) (by decide +kernel), rfl⟩
theorem mw_419 : (Jvm.Cond.methodLink "ChartForest" (48 : Nat) ({ cls := "ChartForest", name := "isBody", desc := "(II)Z" } : Jvm.MethodName)) ∈ mj_tbl := List.mem_filter.mpr ⟨List.mem_of_getElem? (i := 419) (by decide +kernel), rfl⟩
theorem mw_420 : (Jvm.Cond.static ({ cls := "ChartForest", name := "isBody", desc := "(II)Z" } : Jvm.MethodName)) ∈ mj_tbl := List.mem_filter.mpr ⟨List.mem_of_getElem? (i := 420) (by decide +kernel), rfl⟩
theorem mw_421 : (Jvm.Cond.code ({ cls := "ChartForest", name := "isBody", desc := "(II)Z" } : Jvm.MethodName) prog_1_method_19_code (4 : Nat) (Option.some Jvm.ClassFile.FieldType.boolean)) ∈ mj_tbl := List.mem_filter.mpr ⟨List.mem_of_getElem? (i := 421) (by decide +kernel), rfl⟩
theorem mw_422 : (Jvm.Cond.methodLink "ChartForest" (137 : Nat) ({ cls := "ChartForest", name := "symbolIn", desc := "(II)I" } : Jvm.MethodName)) ∈ mj_tbl := List.mem_filter.mpr ⟨List.mem_of_getElem? (i := 422) (by decide +kernel), rfl⟩
theorem mw_423 : (Jvm.Cond.static ({ cls := "ChartForest", name := "symbolIn", desc := "(II)I" } : Jvm.MethodName)) ∈ mj_tbl := List.mem_filter.mpr ⟨List.mem_of_getElem? (i := 423) (by decide +kernel), rfl⟩
theorem mw_424 : (Jvm.Cond.code ({ cls := "ChartForest", name := "symbolIn", desc := "(II)I" } : Jvm.MethodName) prog_1_method_20_code (2 : Nat) (Option.some Jvm.ClassFile.FieldType.int)) ∈ mj_tbl := List.mem_filter.mpr ⟨List.mem_of_getElem? (i := 424) (by decide +kernel), rfl⟩
theorem mw_425 : (Jvm.Cond.methodLink "ChartForest" (73 : Nat) ({ cls := "ChartForest", name := "isTerminal", desc := "(I)Z" } : Jvm.MethodName)) ∈ mj_tbl := List.mem_filter.mpr ⟨List.mem_of_getElem? (i := 425) (by decide +kernel), rfl⟩
theorem mw_426 : (Jvm.Cond.classLink "ChartForest" (52 : Nat) "java/lang/IllegalArgumentException") ∈ mj_tbl := List.mem_filter.mpr ⟨List.mem_of_getElem? (i := 426) (by decide +kernel), rfl⟩
theorem mw_427 : (Jvm.Cond.instantiable "java/lang/IllegalArgumentException" (6 : Nat)) ∈ mj_tbl := List.mem_filter.mpr ⟨List.mem_of_getElem? (i := 427) (by decide +kernel), rfl⟩
theorem mw_428 : (Jvm.Cond.castable "java/lang/IllegalArgumentException" "java/lang/IllegalArgumentException") ∈ mj_tbl := List.mem_filter.mpr ⟨List.mem_of_getElem? (i := 428) (by decide +kernel), rfl⟩
theorem mw_435 : (Jvm.Cond.selects "java/lang/IllegalArgumentException" ({ cls := "java/lang/Throwable", name := "fillInStackTrace", desc := "(I)Ljava/lang/Throwable;" } : Jvm.MethodName) ({ cls := "java/lang/Throwable", name := "fillInStackTrace", desc := "(I)Ljava/lang/Throwable;" } : Jvm.MethodName)) ∈ mj_tbl := List.mem_filter.mpr ⟨List.mem_of_getElem? (i := 435) (by decide +kernel), rfl⟩
theorem mw_436 : (Jvm.Cond.selects "java/lang/IllegalArgumentException" ({ cls := "java/lang/Throwable", name := "fillInStackTrace", desc := "()Ljava/lang/Throwable;" } : Jvm.MethodName) ({ cls := "java/lang/Throwable", name := "fillInStackTrace", desc := "()Ljava/lang/Throwable;" } : Jvm.MethodName)) ∈ mj_tbl := List.mem_filter.mpr ⟨List.mem_of_getElem? (i := 436) (by decide +kernel), rfl⟩
theorem mw_447 : (Jvm.Cond.fieldLink "java/lang/Throwable" (198 : Nat) "java/lang/Throwable" "backtrace" "Ljava/lang/Object;") ∈ mj_tbl := List.mem_filter.mpr ⟨List.mem_of_getElem? (i := 447) (by decide +kernel), rfl⟩
theorem mw_448 : (Jvm.Cond.superclass "java/lang/Throwable" "java/lang/Object") ∈ mj_tbl := List.mem_filter.mpr ⟨List.mem_of_getElem? (i := 448) (by decide +kernel), rfl⟩
theorem mw_449 : (Jvm.Cond.instanceMethod ({ cls := "java/lang/Throwable", name := "<init>", desc := "()V" } : Jvm.MethodName)) ∈ mj_tbl := List.mem_filter.mpr ⟨List.mem_of_getElem? (i := 449) (by decide +kernel), rfl⟩
theorem mw_450 : (Jvm.Cond.code ({ cls := "java/lang/Throwable", name := "<init>", desc := "()V" } : Jvm.MethodName) prog_17_method_1_code (1 : Nat) (Option.none : Option Jvm.ClassFile.FieldType)) ∈ mj_tbl := List.mem_filter.mpr ⟨List.mem_of_getElem? (i := 450) (by decide +kernel), rfl⟩
theorem mw_451 : (Jvm.Cond.methodLink "java/lang/Throwable" (1 : Nat) ({ cls := "java/lang/Object", name := "<init>", desc := "()V" } : Jvm.MethodName)) ∈ mj_tbl := List.mem_filter.mpr ⟨List.mem_of_getElem? (i := 451) (by decide +kernel), rfl⟩
theorem mw_452 : (Jvm.Cond.fieldLink "java/lang/Throwable" (13 : Nat) "java/lang/Throwable" "UNASSIGNED_STACK" "[Ljava/lang/StackTraceElement;") ∈ mj_tbl := List.mem_filter.mpr ⟨List.mem_of_getElem? (i := 452) (by decide +kernel), rfl⟩
theorem mw_454 : (Jvm.Cond.fieldLink "java/lang/Throwable" (20 : Nat) "java/lang/Throwable" "SUPPRESSED_SENTINEL" "Ljava/util/List;") ∈ mj_tbl := List.mem_filter.mpr ⟨List.mem_of_getElem? (i := 454) (by decide +kernel), rfl⟩
theorem mw_456 : (Jvm.Cond.methodLink "java/lang/Throwable" (27 : Nat) ({ cls := "java/lang/Throwable", name := "fillInStackTrace", desc := "()Ljava/lang/Throwable;" } : Jvm.MethodName)) ∈ mj_tbl := List.mem_filter.mpr ⟨List.mem_of_getElem? (i := 456) (by decide +kernel), rfl⟩
theorem mw_457 : (Jvm.Cond.instanceMethod ({ cls := "java/lang/Throwable", name := "fillInStackTrace", desc := "()Ljava/lang/Throwable;" } : Jvm.MethodName)) ∈ mj_tbl := List.mem_filter.mpr ⟨List.mem_of_getElem? (i := 457) (by decide +kernel), rfl⟩
theorem mw_458 : (Jvm.Cond.sameMethod "java/lang/Throwable" "java/lang/Throwable" "fillInStackTrace" "()Ljava/lang/Throwable;") ∈ mj_tbl := List.mem_filter.mpr ⟨List.mem_of_getElem? (i := 458) (by decide +kernel), rfl⟩
theorem mw_459 : (Jvm.Cond.selects "java/lang/IllegalStateException" ({ cls := "java/lang/Throwable", name := "fillInStackTrace", desc := "()Ljava/lang/Throwable;" } : Jvm.MethodName) ({ cls := "java/lang/Throwable", name := "fillInStackTrace", desc := "()Ljava/lang/Throwable;" } : Jvm.MethodName)) ∈ mj_tbl := List.mem_filter.mpr ⟨List.mem_of_getElem? (i := 459) (by decide +kernel), rfl⟩
theorem mw_460 : (Jvm.Cond.selects "java/lang/IndexOutOfBoundsException" ({ cls := "java/lang/Throwable", name := "fillInStackTrace", desc := "()Ljava/lang/Throwable;" } : Jvm.MethodName) ({ cls := "java/lang/Throwable", name := "fillInStackTrace", desc := "()Ljava/lang/Throwable;" } : Jvm.MethodName)) ∈ mj_tbl := List.mem_filter.mpr ⟨List.mem_of_getElem? (i := 460) (by decide +kernel), rfl⟩
theorem mw_461 : (Jvm.Cond.selects "java/util/NoSuchElementException" ({ cls := "java/lang/Throwable", name := "fillInStackTrace", desc := "()Ljava/lang/Throwable;" } : Jvm.MethodName) ({ cls := "java/lang/Throwable", name := "fillInStackTrace", desc := "()Ljava/lang/Throwable;" } : Jvm.MethodName)) ∈ mj_tbl := List.mem_filter.mpr ⟨List.mem_of_getElem? (i := 461) (by decide +kernel), rfl⟩
theorem mw_463 : (Jvm.Cond.methodLink "java/lang/Throwable" (202 : Nat) ({ cls := "java/lang/Throwable", name := "fillInStackTrace", desc := "(I)Ljava/lang/Throwable;" } : Jvm.MethodName)) ∈ mj_tbl := List.mem_filter.mpr ⟨List.mem_of_getElem? (i := 463) (by decide +kernel), rfl⟩
theorem mw_465 : (Jvm.Cond.instanceMethod ({ cls := "java/lang/Throwable", name := "fillInStackTrace", desc := "(I)Ljava/lang/Throwable;" } : Jvm.MethodName)) ∈ mj_tbl := List.mem_filter.mpr ⟨List.mem_of_getElem? (i := 465) (by decide +kernel), rfl⟩
theorem mw_466 : (Jvm.Cond.instantiable "java/lang/Throwable" (6 : Nat)) ∈ mj_tbl := List.mem_filter.mpr ⟨List.mem_of_getElem? (i := 466) (by decide +kernel), rfl⟩
theorem mw_468 : (Jvm.Cond.methodLink "ChartForest" (54 : Nat) ({ cls := "java/lang/IllegalArgumentException", name := "<init>", desc := "()V" } : Jvm.MethodName)) ∈ mj_tbl := List.mem_filter.mpr ⟨List.mem_of_getElem? (i := 468) (by decide +kernel), rfl⟩
theorem mw_469 : (Jvm.Cond.instanceMethod ({ cls := "java/lang/IllegalArgumentException", name := "<init>", desc := "()V" } : Jvm.MethodName)) ∈ mj_tbl := List.mem_filter.mpr ⟨List.mem_of_getElem? (i := 469) (by decide +kernel), rfl⟩
theorem mw_470 : (Jvm.Cond.code ({ cls := "java/lang/IllegalArgumentException", name := "<init>", desc := "()V" } : Jvm.MethodName) prog_11_method_1_code (1 : Nat) (Option.none : Option Jvm.ClassFile.FieldType)) ∈ mj_tbl := List.mem_filter.mpr ⟨List.mem_of_getElem? (i := 470) (by decide +kernel), rfl⟩
theorem mw_471 : (Jvm.Cond.methodLink "java/lang/IllegalArgumentException" (1 : Nat) ({ cls := "java/lang/RuntimeException", name := "<init>", desc := "()V" } : Jvm.MethodName)) ∈ mj_tbl := List.mem_filter.mpr ⟨List.mem_of_getElem? (i := 471) (by decide +kernel), rfl⟩
theorem mw_472 : (Jvm.Cond.instanceMethod ({ cls := "java/lang/RuntimeException", name := "<init>", desc := "()V" } : Jvm.MethodName)) ∈ mj_tbl := List.mem_filter.mpr ⟨List.mem_of_getElem? (i := 472) (by decide +kernel), rfl⟩
theorem mw_473 : (Jvm.Cond.code ({ cls := "java/lang/RuntimeException", name := "<init>", desc := "()V" } : Jvm.MethodName) prog_16_method_1_code (1 : Nat) (Option.none : Option Jvm.ClassFile.FieldType)) ∈ mj_tbl := List.mem_filter.mpr ⟨List.mem_of_getElem? (i := 473) (by decide +kernel), rfl⟩
theorem mw_474 : (Jvm.Cond.methodLink "java/lang/RuntimeException" (1 : Nat) ({ cls := "java/lang/Exception", name := "<init>", desc := "()V" } : Jvm.MethodName)) ∈ mj_tbl := List.mem_filter.mpr ⟨List.mem_of_getElem? (i := 474) (by decide +kernel), rfl⟩
theorem mw_475 : (Jvm.Cond.instanceMethod ({ cls := "java/lang/Exception", name := "<init>", desc := "()V" } : Jvm.MethodName)) ∈ mj_tbl := List.mem_filter.mpr ⟨List.mem_of_getElem? (i := 475) (by decide +kernel), rfl⟩
theorem mw_476 : (Jvm.Cond.code ({ cls := "java/lang/Exception", name := "<init>", desc := "()V" } : Jvm.MethodName) prog_10_method_1_code (1 : Nat) (Option.none : Option Jvm.ClassFile.FieldType)) ∈ mj_tbl := List.mem_filter.mpr ⟨List.mem_of_getElem? (i := 476) (by decide +kernel), rfl⟩
theorem mw_477 : (Jvm.Cond.methodLink "java/lang/Exception" (1 : Nat) ({ cls := "java/lang/Throwable", name := "<init>", desc := "()V" } : Jvm.MethodName)) ∈ mj_tbl := List.mem_filter.mpr ⟨List.mem_of_getElem? (i := 477) (by decide +kernel), rfl⟩
theorem mw_478 : (Jvm.Cond.fieldLink "java/lang/Throwable" (198 : Nat) "java/lang/Throwable" "backtrace" "Ljava/lang/Object;") ∈ mj_tbl := List.mem_filter.mpr ⟨List.mem_of_getElem? (i := 478) (by decide +kernel), rfl⟩
theorem mw_479 : (Jvm.Cond.fieldLink "java/lang/Throwable" (7 : Nat) "java/lang/Throwable" "cause" "Ljava/lang/Throwable;") ∈ mj_tbl := List.mem_filter.mpr ⟨List.mem_of_getElem? (i := 479) (by decide +kernel), rfl⟩
theorem mw_480 : (Jvm.Cond.fieldLink "java/lang/Throwable" (17 : Nat) "java/lang/Throwable" "stackTrace" "[Ljava/lang/StackTraceElement;") ∈ mj_tbl := List.mem_filter.mpr ⟨List.mem_of_getElem? (i := 480) (by decide +kernel), rfl⟩
theorem mw_481 : (Jvm.Cond.fieldLink "java/lang/Throwable" (24 : Nat) "java/lang/Throwable" "suppressedExceptions" "Ljava/util/List;") ∈ mj_tbl := List.mem_filter.mpr ⟨List.mem_of_getElem? (i := 481) (by decide +kernel), rfl⟩
theorem mw_489 : (Jvm.Cond.superclass "java/lang/IllegalArgumentException" "java/lang/RuntimeException") ∈ mj_tbl := List.mem_filter.mpr ⟨List.mem_of_getElem? (i := 489) (by decide +kernel), rfl⟩
theorem mw_490 : (Jvm.Cond.classLink "ChartForest" (62 : Nat) "java/lang/IllegalStateException") ∈ mj_tbl := List.mem_filter.mpr ⟨List.mem_of_getElem? (i := 490) (by decide +kernel), rfl⟩
theorem mw_491 : (Jvm.Cond.instantiable "java/lang/IllegalStateException" (6 : Nat)) ∈ mj_tbl := List.mem_filter.mpr ⟨List.mem_of_getElem? (i := 491) (by decide +kernel), rfl⟩
theorem mw_492 : (Jvm.Cond.castable "java/lang/IllegalStateException" "java/lang/IllegalStateException") ∈ mj_tbl := List.mem_filter.mpr ⟨List.mem_of_getElem? (i := 492) (by decide +kernel), rfl⟩
theorem mw_493 : (Jvm.Cond.selects "java/lang/IllegalStateException" ({ cls := "java/lang/Throwable", name := "fillInStackTrace", desc := "(I)Ljava/lang/Throwable;" } : Jvm.MethodName) ({ cls := "java/lang/Throwable", name := "fillInStackTrace", desc := "(I)Ljava/lang/Throwable;" } : Jvm.MethodName)) ∈ mj_tbl := List.mem_filter.mpr ⟨List.mem_of_getElem? (i := 493) (by decide +kernel), rfl⟩
theorem mw_499 : (Jvm.Cond.methodLink "ChartForest" (64 : Nat) ({ cls := "java/lang/IllegalStateException", name := "<init>", desc := "()V" } : Jvm.MethodName)) ∈ mj_tbl := List.mem_filter.mpr ⟨List.mem_of_getElem? (i := 499) (by decide +kernel), rfl⟩
theorem mw_500 : (Jvm.Cond.instanceMethod ({ cls := "java/lang/IllegalStateException", name := "<init>", desc := "()V" } : Jvm.MethodName)) ∈ mj_tbl := List.mem_filter.mpr ⟨List.mem_of_getElem? (i := 500) (by decide +kernel), rfl⟩
theorem mw_501 : (Jvm.Cond.code ({ cls := "java/lang/IllegalStateException", name := "<init>", desc := "()V" } : Jvm.MethodName) prog_12_method_1_code (1 : Nat) (Option.none : Option Jvm.ClassFile.FieldType)) ∈ mj_tbl := List.mem_filter.mpr ⟨List.mem_of_getElem? (i := 501) (by decide +kernel), rfl⟩
theorem mw_502 : (Jvm.Cond.methodLink "java/lang/IllegalStateException" (1 : Nat) ({ cls := "java/lang/RuntimeException", name := "<init>", desc := "()V" } : Jvm.MethodName)) ∈ mj_tbl := List.mem_filter.mpr ⟨List.mem_of_getElem? (i := 502) (by decide +kernel), rfl⟩
theorem mw_504 : (Jvm.Cond.superclass "java/lang/IllegalStateException" "java/lang/RuntimeException") ∈ mj_tbl := List.mem_filter.mpr ⟨List.mem_of_getElem? (i := 504) (by decide +kernel), rfl⟩
theorem mw_505 : (Jvm.Cond.methodLink "ChartForest" (65 : Nat) ({ cls := "ChartForest$Grammar", name := "append", desc := "(III)V" } : Jvm.MethodName)) ∈ mj_tbl := List.mem_filter.mpr ⟨List.mem_of_getElem? (i := 505) (by decide +kernel), rfl⟩
theorem mw_506 : (Jvm.Cond.instanceMethod ({ cls := "ChartForest$Grammar", name := "append", desc := "(III)V" } : Jvm.MethodName)) ∈ mj_tbl := List.mem_filter.mpr ⟨List.mem_of_getElem? (i := 506) (by decide +kernel), rfl⟩
theorem mw_507 : (Jvm.Cond.selects "ChartForest$Grammar" ({ cls := "ChartForest$Grammar", name := "append", desc := "(III)V" } : Jvm.MethodName) ({ cls := "ChartForest$Grammar", name := "append", desc := "(III)V" } : Jvm.MethodName)) ∈ mj_tbl := List.mem_filter.mpr ⟨List.mem_of_getElem? (i := 507) (by decide +kernel), rfl⟩
theorem mw_508 : (Jvm.Cond.code ({ cls := "ChartForest$Grammar", name := "append", desc := "(III)V" } : Jvm.MethodName) prog_5_method_2_code (5 : Nat) (Option.none : Option Jvm.ClassFile.FieldType)) ∈ mj_tbl := List.mem_filter.mpr ⟨List.mem_of_getElem? (i := 508) (by decide +kernel), rfl⟩
theorem mw_509 : (Jvm.Cond.methodLinkNest "ChartForest$Grammar" (26 : Nat) ({ cls := "ChartForest", name := "symbolIn", desc := "(II)I" } : Jvm.MethodName) "ChartForest") ∈ mj_tbl := List.mem_filter.mpr ⟨List.mem_of_getElem? (i := 509) (by decide +kernel), rfl⟩
theorem mw_510 : (Jvm.Cond.methodLink "ChartForest" (69 : Nat) ({ cls := "ChartForest$Forest", name := "forgetBehind", desc := "(I)V" } : Jvm.MethodName)) ∈ mj_tbl := List.mem_filter.mpr ⟨List.mem_of_getElem? (i := 510) (by decide +kernel), rfl⟩
theorem mw_511 : (Jvm.Cond.instanceMethod ({ cls := "ChartForest$Forest", name := "forgetBehind", desc := "(I)V" } : Jvm.MethodName)) ∈ mj_tbl := List.mem_filter.mpr ⟨List.mem_of_getElem? (i := 511) (by decide +kernel), rfl⟩
theorem mw_512 : (Jvm.Cond.selects "ChartForest$Forest" ({ cls := "ChartForest$Forest", name := "forgetBehind", desc := "(I)V" } : Jvm.MethodName) ({ cls := "ChartForest$Forest", name := "forgetBehind", desc := "(I)V" } : Jvm.MethodName)) ∈ mj_tbl := List.mem_filter.mpr ⟨List.mem_of_getElem? (i := 512) (by decide +kernel), rfl⟩
theorem mw_513 : (Jvm.Cond.code ({ cls := "ChartForest$Forest", name := "forgetBehind", desc := "(I)V" } : Jvm.MethodName) prog_4_method_2_code (2 : Nat) (Option.none : Option Jvm.ClassFile.FieldType)) ∈ mj_tbl := List.mem_filter.mpr ⟨List.mem_of_getElem? (i := 513) (by decide +kernel), rfl⟩
theorem mw_514 : (Jvm.Cond.methodLink "ChartForest$Forest" (49 : Nat) ({ cls := "java/lang/Math", name := "min", desc := "(II)I" } : Jvm.MethodName)) ∈ mj_tbl := List.mem_filter.mpr ⟨List.mem_of_getElem? (i := 514) (by decide +kernel), rfl⟩
theorem mw_515 : (Jvm.Cond.static ({ cls := "java/lang/Math", name := "min", desc := "(II)I" } : Jvm.MethodName)) ∈ mj_tbl := List.mem_filter.mpr ⟨List.mem_of_getElem? (i := 515) (by decide +kernel), rfl⟩
theorem mw_516 : (Jvm.Cond.code ({ cls := "java/lang/Math", name := "min", desc := "(II)I" } : Jvm.MethodName) prog_15_method_69_code (2 : Nat) (Option.some Jvm.ClassFile.FieldType.int)) ∈ mj_tbl := List.mem_filter.mpr ⟨List.mem_of_getElem? (i := 516) (by decide +kernel), rfl⟩
theorem mw_517 : (Jvm.Cond.methodLink "ChartForestLaw" (70 : Nat) ({ cls := "ChartForestLaw", name := "feed", desc := "(LChartForest;I[J)I" } : Jvm.MethodName)) ∈ mj_tbl := List.mem_filter.mpr ⟨List.mem_of_getElem? (i := 517) (by decide +kernel), rfl⟩
theorem mw_518 : (Jvm.Cond.static ({ cls := "ChartForestLaw", name := "feed", desc := "(LChartForest;I[J)I" } : Jvm.MethodName)) ∈ mj_tbl := List.mem_filter.mpr ⟨List.mem_of_getElem? (i := 518) (by decide +kernel), rfl⟩
theorem mw_519 : (Jvm.Cond.codeWith ({ cls := "ChartForestLaw", name := "feed", desc := "(LChartForest;I[J)I" } : Jvm.MethodName) method_4_code (4 : Nat) (Option.some Jvm.ClassFile.FieldType.int) [((0 : Nat), (9 : Nat), (12 : Nat), (13 : Nat)), ((0 : Nat), (9 : Nat), (15 : Nat), (15 : Nat)), ((0 : Nat), (9 : Nat), (18 : Nat), (21 : Nat))]) ∈ mj_tbl := List.mem_filter.mpr ⟨List.mem_of_getElem? (i := 519) (by decide +kernel), rfl⟩
theorem mw_520 : (Jvm.Cond.classLink "ChartForestLaw" (21 : Nat) "java/util/NoSuchElementException") ∈ mj_tbl := List.mem_filter.mpr ⟨List.mem_of_getElem? (i := 520) (by decide +kernel), rfl⟩
theorem mw_521 : (Jvm.Cond.methodLink "ChartForestLaw" (17 : Nat) ({ cls := "ChartForest", name := "feed", desc := "(I)I" } : Jvm.MethodName)) ∈ mj_tbl := List.mem_filter.mpr ⟨List.mem_of_getElem? (i := 521) (by decide +kernel), rfl⟩
theorem mw_522 : (Jvm.Cond.instanceMethod ({ cls := "ChartForest", name := "feed", desc := "(I)I" } : Jvm.MethodName)) ∈ mj_tbl := List.mem_filter.mpr ⟨List.mem_of_getElem? (i := 522) (by decide +kernel), rfl⟩
theorem mw_523 : (Jvm.Cond.selects "ChartForest" ({ cls := "ChartForest", name := "feed", desc := "(I)I" } : Jvm.MethodName) ({ cls := "ChartForest", name := "feed", desc := "(I)I" } : Jvm.MethodName)) ∈ mj_tbl := List.mem_filter.mpr ⟨List.mem_of_getElem? (i := 523) (by decide +kernel), rfl⟩
theorem mw_524 : (Jvm.Cond.code ({ cls := "ChartForest", name := "feed", desc := "(I)I" } : Jvm.MethodName) prog_1_method_3_code (2 : Nat) (Option.some Jvm.ClassFile.FieldType.int)) ∈ mj_tbl := List.mem_filter.mpr ⟨List.mem_of_getElem? (i := 524) (by decide +kernel), rfl⟩
theorem mw_525 : (Jvm.Cond.methodLink "ChartForest" (80 : Nat) ({ cls := "ChartForest", name := "terminalBit", desc := "(I)I" } : Jvm.MethodName)) ∈ mj_tbl := List.mem_filter.mpr ⟨List.mem_of_getElem? (i := 525) (by decide +kernel), rfl⟩
theorem mw_526 : (Jvm.Cond.classLink "ChartForest" (83 : Nat) "java/util/NoSuchElementException") ∈ mj_tbl := List.mem_filter.mpr ⟨List.mem_of_getElem? (i := 526) (by decide +kernel), rfl⟩
theorem mw_527 : (Jvm.Cond.instantiable "java/util/NoSuchElementException" (6 : Nat)) ∈ mj_tbl := List.mem_filter.mpr ⟨List.mem_of_getElem? (i := 527) (by decide +kernel), rfl⟩
theorem mw_528 : (Jvm.Cond.castable "java/util/NoSuchElementException" "java/util/NoSuchElementException") ∈ mj_tbl := List.mem_filter.mpr ⟨List.mem_of_getElem? (i := 528) (by decide +kernel), rfl⟩
theorem mw_529 : (Jvm.Cond.selects "java/util/NoSuchElementException" ({ cls := "java/lang/Throwable", name := "fillInStackTrace", desc := "(I)Ljava/lang/Throwable;" } : Jvm.MethodName) ({ cls := "java/lang/Throwable", name := "fillInStackTrace", desc := "(I)Ljava/lang/Throwable;" } : Jvm.MethodName)) ∈ mj_tbl := List.mem_filter.mpr ⟨List.mem_of_getElem? (i := 529) (by decide +kernel), rfl⟩
theorem mw_535 : (Jvm.Cond.methodLink "ChartForest" (85 : Nat) ({ cls := "java/util/NoSuchElementException", name := "<init>", desc := "()V" } : Jvm.MethodName)) ∈ mj_tbl := List.mem_filter.mpr ⟨List.mem_of_getElem? (i := 535) (by decide +kernel), rfl⟩
theorem mw_536 : (Jvm.Cond.instanceMethod ({ cls := "java/util/NoSuchElementException", name := "<init>", desc := "()V" } : Jvm.MethodName)) ∈ mj_tbl := List.mem_filter.mpr ⟨List.mem_of_getElem? (i := 536) (by decide +kernel), rfl⟩
theorem mw_537 : (Jvm.Cond.code ({ cls := "java/util/NoSuchElementException", name := "<init>", desc := "()V" } : Jvm.MethodName) prog_18_method_1_code (1 : Nat) (Option.none : Option Jvm.ClassFile.FieldType)) ∈ mj_tbl := List.mem_filter.mpr ⟨List.mem_of_getElem? (i := 537) (by decide +kernel), rfl⟩
theorem mw_538 : (Jvm.Cond.methodLink "java/util/NoSuchElementException" (1 : Nat) ({ cls := "java/lang/RuntimeException", name := "<init>", desc := "()V" } : Jvm.MethodName)) ∈ mj_tbl := List.mem_filter.mpr ⟨List.mem_of_getElem? (i := 538) (by decide +kernel), rfl⟩
theorem mw_540 : (Jvm.Cond.superclass "java/util/NoSuchElementException" "java/lang/RuntimeException") ∈ mj_tbl := List.mem_filter.mpr ⟨List.mem_of_getElem? (i := 540) (by decide +kernel), rfl⟩
theorem mw_541 : (Jvm.Cond.methodLink "ChartForest" (86 : Nat) ({ cls := "ChartForest$Tape", name := "append", desc := "(I)V" } : Jvm.MethodName)) ∈ mj_tbl := List.mem_filter.mpr ⟨List.mem_of_getElem? (i := 541) (by decide +kernel), rfl⟩
theorem mw_542 : (Jvm.Cond.instanceMethod ({ cls := "ChartForest$Tape", name := "append", desc := "(I)V" } : Jvm.MethodName)) ∈ mj_tbl := List.mem_filter.mpr ⟨List.mem_of_getElem? (i := 542) (by decide +kernel), rfl⟩
theorem mw_543 : (Jvm.Cond.selects "ChartForest$Tape" ({ cls := "ChartForest$Tape", name := "append", desc := "(I)V" } : Jvm.MethodName) ({ cls := "ChartForest$Tape", name := "append", desc := "(I)V" } : Jvm.MethodName)) ∈ mj_tbl := List.mem_filter.mpr ⟨List.mem_of_getElem? (i := 543) (by decide +kernel), rfl⟩
theorem mw_544 : (Jvm.Cond.code ({ cls := "ChartForest$Tape", name := "append", desc := "(I)V" } : Jvm.MethodName) prog_6_method_2_code (2 : Nat) (Option.none : Option Jvm.ClassFile.FieldType)) ∈ mj_tbl := List.mem_filter.mpr ⟨List.mem_of_getElem? (i := 544) (by decide +kernel), rfl⟩
theorem mw_545 : (Jvm.Cond.methodLink "ChartForest" (88 : Nat) ({ cls := "ChartForest$Chart", name := "openNext", desc := "(II)V" } : Jvm.MethodName)) ∈ mj_tbl := List.mem_filter.mpr ⟨List.mem_of_getElem? (i := 545) (by decide +kernel), rfl⟩
theorem mw_546 : (Jvm.Cond.instanceMethod ({ cls := "ChartForest$Chart", name := "openNext", desc := "(II)V" } : Jvm.MethodName)) ∈ mj_tbl := List.mem_filter.mpr ⟨List.mem_of_getElem? (i := 546) (by decide +kernel), rfl⟩
theorem mw_547 : (Jvm.Cond.selects "ChartForest$Chart" ({ cls := "ChartForest$Chart", name := "openNext", desc := "(II)V" } : Jvm.MethodName) ({ cls := "ChartForest$Chart", name := "openNext", desc := "(II)V" } : Jvm.MethodName)) ∈ mj_tbl := List.mem_filter.mpr ⟨List.mem_of_getElem? (i := 547) (by decide +kernel), rfl⟩
theorem mw_548 : (Jvm.Cond.code ({ cls := "ChartForest$Chart", name := "openNext", desc := "(II)V" } : Jvm.MethodName) prog_2_method_3_code (3 : Nat) (Option.none : Option Jvm.ClassFile.FieldType)) ∈ mj_tbl := List.mem_filter.mpr ⟨List.mem_of_getElem? (i := 548) (by decide +kernel), rfl⟩
theorem mw_549 : (Jvm.Cond.methodLink "ChartForest$Chart" (49 : Nat) ({ cls := "ChartForest$Chart", name := "nameLeaps", desc := "(I)V" } : Jvm.MethodName)) ∈ mj_tbl := List.mem_filter.mpr ⟨List.mem_of_getElem? (i := 549) (by decide +kernel), rfl⟩
theorem mw_551 : (Jvm.Cond.instanceMethod ({ cls := "ChartForest$Chart", name := "nameLeaps", desc := "(I)V" } : Jvm.MethodName)) ∈ mj_tbl := List.mem_filter.mpr ⟨List.mem_of_getElem? (i := 551) (by decide +kernel), rfl⟩
theorem mw_552 : (Jvm.Cond.code ({ cls := "ChartForest$Chart", name := "nameLeaps", desc := "(I)V" } : Jvm.MethodName) prog_2_method_14_code (3 : Nat) (Option.none : Option Jvm.ClassFile.FieldType)) ∈ mj_tbl := List.mem_filter.mpr ⟨List.mem_of_getElem? (i := 552) (by decide +kernel), rfl⟩
theorem mw_553 : (Jvm.Cond.methodLink "ChartForest$Chart" (98 : Nat) ({ cls := "ChartForest$Chart", name := "leapItem", desc := "(II)I" } : Jvm.MethodName)) ∈ mj_tbl := List.mem_filter.mpr ⟨List.mem_of_getElem? (i := 553) (by decide +kernel), rfl⟩
theorem mw_555 : (Jvm.Cond.instanceMethod ({ cls := "ChartForest$Chart", name := "leapItem", desc := "(II)I" } : Jvm.MethodName)) ∈ mj_tbl := List.mem_filter.mpr ⟨List.mem_of_getElem? (i := 555) (by decide +kernel), rfl⟩
theorem mw_556 : (Jvm.Cond.code ({ cls := "ChartForest$Chart", name := "leapItem", desc := "(II)I" } : Jvm.MethodName) prog_2_method_15_code (6 : Nat) (Option.some Jvm.ClassFile.FieldType.int)) ∈ mj_tbl := List.mem_filter.mpr ⟨List.mem_of_getElem? (i := 556) (by decide +kernel), rfl⟩
theorem mw_557 : (Jvm.Cond.methodLink "ChartForest$Chart" (101 : Nat) ({ cls := "ChartForest$Chart", name := "loneSlot", desc := "(II)I" } : Jvm.MethodName)) ∈ mj_tbl := List.mem_filter.mpr ⟨List.mem_of_getElem? (i := 557) (by decide +kernel), rfl⟩
theorem mw_559 : (Jvm.Cond.instanceMethod ({ cls := "ChartForest$Chart", name := "loneSlot", desc := "(II)I" } : Jvm.MethodName)) ∈ mj_tbl := List.mem_filter.mpr ⟨List.mem_of_getElem? (i := 559) (by decide +kernel), rfl⟩
theorem mw_560 : (Jvm.Cond.code ({ cls := "ChartForest$Chart", name := "loneSlot", desc := "(II)I" } : Jvm.MethodName) prog_2_method_16_code (6 : Nat) (Option.some Jvm.ClassFile.FieldType.int)) ∈ mj_tbl := List.mem_filter.mpr ⟨List.mem_of_getElem? (i := 560) (by decide +kernel), rfl⟩
theorem mw_561 : (Jvm.Cond.methodLink "ChartForest$Chart" (104 : Nat) ({ cls := "java/lang/Integer", name := "bitCount", desc := "(I)I" } : Jvm.MethodName)) ∈ mj_tbl := List.mem_filter.mpr ⟨List.mem_of_getElem? (i := 561) (by decide +kernel), rfl⟩
theorem mw_562 : (Jvm.Cond.static ({ cls := "java/lang/Integer", name := "bitCount", desc := "(I)I" } : Jvm.MethodName)) ∈ mj_tbl := List.mem_filter.mpr ⟨List.mem_of_getElem? (i := 562) (by decide +kernel), rfl⟩
theorem mw_563 : (Jvm.Cond.code ({ cls := "java/lang/Integer", name := "bitCount", desc := "(I)I" } : Jvm.MethodName) prog_14_method_49_code (1 : Nat) (Option.some Jvm.ClassFile.FieldType.int)) ∈ mj_tbl := List.mem_filter.mpr ⟨List.mem_of_getElem? (i := 563) (by decide +kernel), rfl⟩
theorem mw_564 : (Jvm.Cond.constant "java/lang/Integer" (265 : Nat) (1431655765 : Int32)) ∈ mj_tbl := List.mem_filter.mpr ⟨List.mem_of_getElem? (i := 564) (by decide +kernel), rfl⟩
theorem mw_565 : (Jvm.Cond.constant "java/lang/Integer" (266 : Nat) (858993459 : Int32)) ∈ mj_tbl := List.mem_filter.mpr ⟨List.mem_of_getElem? (i := 565) (by decide +kernel), rfl⟩
theorem mw_566 : (Jvm.Cond.constant "java/lang/Integer" (267 : Nat) (252645135 : Int32)) ∈ mj_tbl := List.mem_filter.mpr ⟨List.mem_of_getElem? (i := 566) (by decide +kernel), rfl⟩
theorem mw_567 : (Jvm.Cond.methodLink "ChartForestLaw" (74 : Nat) ({ cls := "ChartForestLaw", name := "back", desc := "(LChartForest;I[J)I" } : Jvm.MethodName)) ∈ mj_tbl := List.mem_filter.mpr ⟨List.mem_of_getElem? (i := 567) (by decide +kernel), rfl⟩
theorem mw_568 : (Jvm.Cond.static ({ cls := "ChartForestLaw", name := "back", desc := "(LChartForest;I[J)I" } : Jvm.MethodName)) ∈ mj_tbl := List.mem_filter.mpr ⟨List.mem_of_getElem? (i := 568) (by decide +kernel), rfl⟩
theorem mw_569 : (Jvm.Cond.codeWith ({ cls := "ChartForestLaw", name := "back", desc := "(LChartForest;I[J)I" } : Jvm.MethodName) method_5_code (4 : Nat) (Option.some Jvm.ClassFile.FieldType.int) [((0 : Nat), (9 : Nat), (12 : Nat), (13 : Nat))]) ∈ mj_tbl := List.mem_filter.mpr ⟨List.mem_of_getElem? (i := 569) (by decide +kernel), rfl⟩
theorem mw_570 : (Jvm.Cond.methodLink "ChartForestLaw" (23 : Nat) ({ cls := "ChartForest", name := "back", desc := "(I)I" } : Jvm.MethodName)) ∈ mj_tbl := List.mem_filter.mpr ⟨List.mem_of_getElem? (i := 570) (by decide +kernel), rfl⟩
theorem mw_571 : (Jvm.Cond.instanceMethod ({ cls := "ChartForest", name := "back", desc := "(I)I" } : Jvm.MethodName)) ∈ mj_tbl := List.mem_filter.mpr ⟨List.mem_of_getElem? (i := 571) (by decide +kernel), rfl⟩
theorem mw_572 : (Jvm.Cond.selects "ChartForest" ({ cls := "ChartForest", name := "back", desc := "(I)I" } : Jvm.MethodName) ({ cls := "ChartForest", name := "back", desc := "(I)I" } : Jvm.MethodName)) ∈ mj_tbl := List.mem_filter.mpr ⟨List.mem_of_getElem? (i := 572) (by decide +kernel), rfl⟩
theorem mw_573 : (Jvm.Cond.code ({ cls := "ChartForest", name := "back", desc := "(I)I" } : Jvm.MethodName) prog_1_method_4_code (2 : Nat) (Option.some Jvm.ClassFile.FieldType.int)) ∈ mj_tbl := List.mem_filter.mpr ⟨List.mem_of_getElem? (i := 573) (by decide +kernel), rfl⟩
theorem mw_574 : (Jvm.Cond.methodLink "ChartForestLaw" (90 : Nat) ({ cls := "ChartForestLaw", name := "items", desc := "(LChartForest;I[J)I" } : Jvm.MethodName)) ∈ mj_tbl := List.mem_filter.mpr ⟨List.mem_of_getElem? (i := 574) (by decide +kernel), rfl⟩
theorem mw_575 : (Jvm.Cond.static ({ cls := "ChartForestLaw", name := "items", desc := "(LChartForest;I[J)I" } : Jvm.MethodName)) ∈ mj_tbl := List.mem_filter.mpr ⟨List.mem_of_getElem? (i := 575) (by decide +kernel), rfl⟩
theorem mw_576 : (Jvm.Cond.codeWith ({ cls := "ChartForestLaw", name := "items", desc := "(LChartForest;I[J)I" } : Jvm.MethodName) method_6_code (4 : Nat) (Option.some Jvm.ClassFile.FieldType.int) [((0 : Nat), (9 : Nat), (12 : Nat), (29 : Nat))]) ∈ mj_tbl := List.mem_filter.mpr ⟨List.mem_of_getElem? (i := 576) (by decide +kernel), rfl⟩
theorem mw_577 : (Jvm.Cond.classLink "ChartForestLaw" (29 : Nat) "java/lang/IndexOutOfBoundsException") ∈ mj_tbl := List.mem_filter.mpr ⟨List.mem_of_getElem? (i := 577) (by decide +kernel), rfl⟩
theorem mw_578 : (Jvm.Cond.methodLink "ChartForestLaw" (26 : Nat) ({ cls := "ChartForest", name := "items", desc := "(I)I" } : Jvm.MethodName)) ∈ mj_tbl := List.mem_filter.mpr ⟨List.mem_of_getElem? (i := 578) (by decide +kernel), rfl⟩
theorem mw_579 : (Jvm.Cond.instanceMethod ({ cls := "ChartForest", name := "items", desc := "(I)I" } : Jvm.MethodName)) ∈ mj_tbl := List.mem_filter.mpr ⟨List.mem_of_getElem? (i := 579) (by decide +kernel), rfl⟩
theorem mw_580 : (Jvm.Cond.selects "ChartForest" ({ cls := "ChartForest", name := "items", desc := "(I)I" } : Jvm.MethodName) ({ cls := "ChartForest", name := "items", desc := "(I)I" } : Jvm.MethodName)) ∈ mj_tbl := List.mem_filter.mpr ⟨List.mem_of_getElem? (i := 580) (by decide +kernel), rfl⟩
theorem mw_581 : (Jvm.Cond.code ({ cls := "ChartForest", name := "items", desc := "(I)I" } : Jvm.MethodName) prog_1_method_8_code (2 : Nat) (Option.some Jvm.ClassFile.FieldType.int)) ∈ mj_tbl := List.mem_filter.mpr ⟨List.mem_of_getElem? (i := 581) (by decide +kernel), rfl⟩
theorem mw_582 : (Jvm.Cond.methodLink "ChartForest" (104 : Nat) ({ cls := "ChartForest", name := "isSet", desc := "(I)Z" } : Jvm.MethodName)) ∈ mj_tbl := List.mem_filter.mpr ⟨List.mem_of_getElem? (i := 582) (by decide +kernel), rfl⟩
theorem mw_584 : (Jvm.Cond.instanceMethod ({ cls := "ChartForest", name := "isSet", desc := "(I)Z" } : Jvm.MethodName)) ∈ mj_tbl := List.mem_filter.mpr ⟨List.mem_of_getElem? (i := 584) (by decide +kernel), rfl⟩
theorem mw_585 : (Jvm.Cond.code ({ cls := "ChartForest", name := "isSet", desc := "(I)Z" } : Jvm.MethodName) prog_1_method_15_code (2 : Nat) (Option.some Jvm.ClassFile.FieldType.boolean)) ∈ mj_tbl := List.mem_filter.mpr ⟨List.mem_of_getElem? (i := 585) (by decide +kernel), rfl⟩
theorem mw_586 : (Jvm.Cond.classLink "ChartForest" (107 : Nat) "java/lang/IndexOutOfBoundsException") ∈ mj_tbl := List.mem_filter.mpr ⟨List.mem_of_getElem? (i := 586) (by decide +kernel), rfl⟩
theorem mw_587 : (Jvm.Cond.instantiable "java/lang/IndexOutOfBoundsException" (6 : Nat)) ∈ mj_tbl := List.mem_filter.mpr ⟨List.mem_of_getElem? (i := 587) (by decide +kernel), rfl⟩
theorem mw_588 : (Jvm.Cond.castable "java/lang/IndexOutOfBoundsException" "java/lang/IndexOutOfBoundsException") ∈ mj_tbl := List.mem_filter.mpr ⟨List.mem_of_getElem? (i := 588) (by decide +kernel), rfl⟩
theorem mw_589 : (Jvm.Cond.selects "java/lang/IndexOutOfBoundsException" ({ cls := "java/lang/Throwable", name := "fillInStackTrace", desc := "(I)Ljava/lang/Throwable;" } : Jvm.MethodName) ({ cls := "java/lang/Throwable", name := "fillInStackTrace", desc := "(I)Ljava/lang/Throwable;" } : Jvm.MethodName)) ∈ mj_tbl := List.mem_filter.mpr ⟨List.mem_of_getElem? (i := 589) (by decide +kernel), rfl⟩
theorem mw_595 : (Jvm.Cond.methodLink "ChartForest" (109 : Nat) ({ cls := "java/lang/IndexOutOfBoundsException", name := "<init>", desc := "()V" } : Jvm.MethodName)) ∈ mj_tbl := List.mem_filter.mpr ⟨List.mem_of_getElem? (i := 595) (by decide +kernel), rfl⟩
theorem mw_596 : (Jvm.Cond.instanceMethod ({ cls := "java/lang/IndexOutOfBoundsException", name := "<init>", desc := "()V" } : Jvm.MethodName)) ∈ mj_tbl := List.mem_filter.mpr ⟨List.mem_of_getElem? (i := 596) (by decide +kernel), rfl⟩
theorem mw_597 : (Jvm.Cond.code ({ cls := "java/lang/IndexOutOfBoundsException", name := "<init>", desc := "()V" } : Jvm.MethodName) prog_13_method_1_code (1 : Nat) (Option.none : Option Jvm.ClassFile.FieldType)) ∈ mj_tbl := List.mem_filter.mpr ⟨List.mem_of_getElem? (i := 597) (by decide +kernel), rfl⟩
theorem mw_598 : (Jvm.Cond.methodLink "java/lang/IndexOutOfBoundsException" (1 : Nat) ({ cls := "java/lang/RuntimeException", name := "<init>", desc := "()V" } : Jvm.MethodName)) ∈ mj_tbl := List.mem_filter.mpr ⟨List.mem_of_getElem? (i := 598) (by decide +kernel), rfl⟩
theorem mw_600 : (Jvm.Cond.superclass "java/lang/IndexOutOfBoundsException" "java/lang/RuntimeException") ∈ mj_tbl := List.mem_filter.mpr ⟨List.mem_of_getElem? (i := 600) (by decide +kernel), rfl⟩
theorem mw_601 : (Jvm.Cond.methodLink "ChartForestLaw" (93 : Nat) ({ cls := "ChartForestLaw", name := "has", desc := "(LChartForest;IIII[J)I" } : Jvm.MethodName)) ∈ mj_tbl := List.mem_filter.mpr ⟨List.mem_of_getElem? (i := 601) (by decide +kernel), rfl⟩
theorem mw_602 : (Jvm.Cond.static ({ cls := "ChartForestLaw", name := "has", desc := "(LChartForest;IIII[J)I" } : Jvm.MethodName)) ∈ mj_tbl := List.mem_filter.mpr ⟨List.mem_of_getElem? (i := 602) (by decide +kernel), rfl⟩
theorem mw_603 : (Jvm.Cond.codeWith ({ cls := "ChartForestLaw", name := "has", desc := "(LChartForest;IIII[J)I" } : Jvm.MethodName) method_7_code (7 : Nat) (Option.some Jvm.ClassFile.FieldType.int) [((0 : Nat), (21 : Nat), (24 : Nat), (29 : Nat))]) ∈ mj_tbl := List.mem_filter.mpr ⟨List.mem_of_getElem? (i := 603) (by decide +kernel), rfl⟩
theorem mw_604 : (Jvm.Cond.methodLink "ChartForestLaw" (31 : Nat) ({ cls := "ChartForest", name := "has", desc := "(IIII)Z" } : Jvm.MethodName)) ∈ mj_tbl := List.mem_filter.mpr ⟨List.mem_of_getElem? (i := 604) (by decide +kernel), rfl⟩
theorem mw_605 : (Jvm.Cond.instanceMethod ({ cls := "ChartForest", name := "has", desc := "(IIII)Z" } : Jvm.MethodName)) ∈ mj_tbl := List.mem_filter.mpr ⟨List.mem_of_getElem? (i := 605) (by decide +kernel), rfl⟩
theorem mw_606 : (Jvm.Cond.selects "ChartForest" ({ cls := "ChartForest", name := "has", desc := "(IIII)Z" } : Jvm.MethodName) ({ cls := "ChartForest", name := "has", desc := "(IIII)Z" } : Jvm.MethodName)) ∈ mj_tbl := List.mem_filter.mpr ⟨List.mem_of_getElem? (i := 606) (by decide +kernel), rfl⟩
theorem mw_607 : (Jvm.Cond.code ({ cls := "ChartForest", name := "has", desc := "(IIII)Z" } : Jvm.MethodName) prog_1_method_9_code (5 : Nat) (Option.some Jvm.ClassFile.FieldType.boolean)) ∈ mj_tbl := List.mem_filter.mpr ⟨List.mem_of_getElem? (i := 607) (by decide +kernel), rfl⟩
theorem mw_608 : (Jvm.Cond.methodLink "ChartForestLaw" (97 : Nat) ({ cls := "ChartForestLaw", name := "leap", desc := "(LChartForest;II[J)I" } : Jvm.MethodName)) ∈ mj_tbl := List.mem_filter.mpr ⟨List.mem_of_getElem? (i := 608) (by decide +kernel), rfl⟩
theorem mw_609 : (Jvm.Cond.static ({ cls := "ChartForestLaw", name := "leap", desc := "(LChartForest;II[J)I" } : Jvm.MethodName)) ∈ mj_tbl := List.mem_filter.mpr ⟨List.mem_of_getElem? (i := 609) (by decide +kernel), rfl⟩
theorem mw_610 : (Jvm.Cond.codeWith ({ cls := "ChartForestLaw", name := "leap", desc := "(LChartForest;II[J)I" } : Jvm.MethodName) method_8_code (5 : Nat) (Option.some Jvm.ClassFile.FieldType.int) [((0 : Nat), (10 : Nat), (13 : Nat), (29 : Nat))]) ∈ mj_tbl := List.mem_filter.mpr ⟨List.mem_of_getElem? (i := 610) (by decide +kernel), rfl⟩
theorem mw_611 : (Jvm.Cond.methodLink "ChartForestLaw" (35 : Nat) ({ cls := "ChartForest", name := "leap", desc := "(II)I" } : Jvm.MethodName)) ∈ mj_tbl := List.mem_filter.mpr ⟨List.mem_of_getElem? (i := 611) (by decide +kernel), rfl⟩
theorem mw_612 : (Jvm.Cond.instanceMethod ({ cls := "ChartForest", name := "leap", desc := "(II)I" } : Jvm.MethodName)) ∈ mj_tbl := List.mem_filter.mpr ⟨List.mem_of_getElem? (i := 612) (by decide +kernel), rfl⟩
theorem mw_613 : (Jvm.Cond.selects "ChartForest" ({ cls := "ChartForest", name := "leap", desc := "(II)I" } : Jvm.MethodName) ({ cls := "ChartForest", name := "leap", desc := "(II)I" } : Jvm.MethodName)) ∈ mj_tbl := List.mem_filter.mpr ⟨List.mem_of_getElem? (i := 613) (by decide +kernel), rfl⟩
theorem mw_614 : (Jvm.Cond.code ({ cls := "ChartForest", name := "leap", desc := "(II)I" } : Jvm.MethodName) prog_1_method_10_code (3 : Nat) (Option.some Jvm.ClassFile.FieldType.int)) ∈ mj_tbl := List.mem_filter.mpr ⟨List.mem_of_getElem? (i := 614) (by decide +kernel), rfl⟩
theorem mw_615 : (Jvm.Cond.methodLink "ChartForest" (110 : Nat) ({ cls := "ChartForest$Chart", name := "writtenLeap", desc := "(II)I" } : Jvm.MethodName)) ∈ mj_tbl := List.mem_filter.mpr ⟨List.mem_of_getElem? (i := 615) (by decide +kernel), rfl⟩
theorem mw_616 : (Jvm.Cond.instanceMethod ({ cls := "ChartForest$Chart", name := "writtenLeap", desc := "(II)I" } : Jvm.MethodName)) ∈ mj_tbl := List.mem_filter.mpr ⟨List.mem_of_getElem? (i := 616) (by decide +kernel), rfl⟩
theorem mw_617 : (Jvm.Cond.selects "ChartForest$Chart" ({ cls := "ChartForest$Chart", name := "writtenLeap", desc := "(II)I" } : Jvm.MethodName) ({ cls := "ChartForest$Chart", name := "writtenLeap", desc := "(II)I" } : Jvm.MethodName)) ∈ mj_tbl := List.mem_filter.mpr ⟨List.mem_of_getElem? (i := 617) (by decide +kernel), rfl⟩
theorem mw_618 : (Jvm.Cond.code ({ cls := "ChartForest$Chart", name := "writtenLeap", desc := "(II)I" } : Jvm.MethodName) prog_2_method_6_code (5 : Nat) (Option.some Jvm.ClassFile.FieldType.int)) ∈ mj_tbl := List.mem_filter.mpr ⟨List.mem_of_getElem? (i := 618) (by decide +kernel), rfl⟩
theorem mw_619 : (Jvm.Cond.methodLink "ChartForestLaw" (101 : Nat) ({ cls := "ChartForestLaw", name := "ways", desc := "(LChartForest;III[J)I" } : Jvm.MethodName)) ∈ mj_tbl := List.mem_filter.mpr ⟨List.mem_of_getElem? (i := 619) (by decide +kernel), rfl⟩
theorem mw_620 : (Jvm.Cond.static ({ cls := "ChartForestLaw", name := "ways", desc := "(LChartForest;III[J)I" } : Jvm.MethodName)) ∈ mj_tbl := List.mem_filter.mpr ⟨List.mem_of_getElem? (i := 620) (by decide +kernel), rfl⟩
theorem mw_621 : (Jvm.Cond.codeWith ({ cls := "ChartForestLaw", name := "ways", desc := "(LChartForest;III[J)I" } : Jvm.MethodName) method_9_code (6 : Nat) (Option.some Jvm.ClassFile.FieldType.int) [((0 : Nat), (12 : Nat), (15 : Nat), (29 : Nat))]) ∈ mj_tbl := List.mem_filter.mpr ⟨List.mem_of_getElem? (i := 621) (by decide +kernel), rfl⟩
theorem mw_622 : (Jvm.Cond.methodLink "ChartForestLaw" (39 : Nat) ({ cls := "ChartForest", name := "ways", desc := "(III)I" } : Jvm.MethodName)) ∈ mj_tbl := List.mem_filter.mpr ⟨List.mem_of_getElem? (i := 622) (by decide +kernel), rfl⟩
theorem mw_623 : (Jvm.Cond.instanceMethod ({ cls := "ChartForest", name := "ways", desc := "(III)I" } : Jvm.MethodName)) ∈ mj_tbl := List.mem_filter.mpr ⟨List.mem_of_getElem? (i := 623) (by decide +kernel), rfl⟩
theorem mw_624 : (Jvm.Cond.selects "ChartForest" ({ cls := "ChartForest", name := "ways", desc := "(III)I" } : Jvm.MethodName) ({ cls := "ChartForest", name := "ways", desc := "(III)I" } : Jvm.MethodName)) ∈ mj_tbl := List.mem_filter.mpr ⟨List.mem_of_getElem? (i := 624) (by decide +kernel), rfl⟩
theorem mw_625 : (Jvm.Cond.code ({ cls := "ChartForest", name := "ways", desc := "(III)I" } : Jvm.MethodName) prog_1_method_11_code (4 : Nat) (Option.some Jvm.ClassFile.FieldType.int)) ∈ mj_tbl := List.mem_filter.mpr ⟨List.mem_of_getElem? (i := 625) (by decide +kernel), rfl⟩
theorem mw_626 : (Jvm.Cond.methodLink "ChartForest" (113 : Nat) ({ cls := "ChartForest", name := "isStretch", desc := "(II)Z" } : Jvm.MethodName)) ∈ mj_tbl := List.mem_filter.mpr ⟨List.mem_of_getElem? (i := 626) (by decide +kernel), rfl⟩
theorem mw_628 : (Jvm.Cond.instanceMethod ({ cls := "ChartForest", name := "isStretch", desc := "(II)Z" } : Jvm.MethodName)) ∈ mj_tbl := List.mem_filter.mpr ⟨List.mem_of_getElem? (i := 628) (by decide +kernel), rfl⟩
theorem mw_629 : (Jvm.Cond.code ({ cls := "ChartForest", name := "isStretch", desc := "(II)Z" } : Jvm.MethodName) prog_1_method_16_code (3 : Nat) (Option.some Jvm.ClassFile.FieldType.boolean)) ∈ mj_tbl := List.mem_filter.mpr ⟨List.mem_of_getElem? (i := 629) (by decide +kernel), rfl⟩
theorem mw_630 : (Jvm.Cond.methodLink "ChartForest" (119 : Nat) ({ cls := "ChartForest$Forest", name := "waysOver", desc := "(III)I" } : Jvm.MethodName)) ∈ mj_tbl := List.mem_filter.mpr ⟨List.mem_of_getElem? (i := 630) (by decide +kernel), rfl⟩
theorem mw_631 : (Jvm.Cond.instanceMethod ({ cls := "ChartForest$Forest", name := "waysOver", desc := "(III)I" } : Jvm.MethodName)) ∈ mj_tbl := List.mem_filter.mpr ⟨List.mem_of_getElem? (i := 631) (by decide +kernel), rfl⟩
theorem mw_632 : (Jvm.Cond.selects "ChartForest$Forest" ({ cls := "ChartForest$Forest", name := "waysOver", desc := "(III)I" } : Jvm.MethodName) ({ cls := "ChartForest$Forest", name := "waysOver", desc := "(III)I" } : Jvm.MethodName)) ∈ mj_tbl := List.mem_filter.mpr ⟨List.mem_of_getElem? (i := 632) (by decide +kernel), rfl⟩
theorem mw_633 : (Jvm.Cond.code ({ cls := "ChartForest$Forest", name := "waysOver", desc := "(III)I" } : Jvm.MethodName) prog_4_method_4_code (4 : Nat) (Option.some Jvm.ClassFile.FieldType.int)) ∈ mj_tbl := List.mem_filter.mpr ⟨List.mem_of_getElem? (i := 633) (by decide +kernel), rfl⟩
theorem mw_634 : (Jvm.Cond.methodLink "ChartForestLaw" (104 : Nat) ({ cls := "ChartForestLaw", name := "trees", desc := "(LChartForest;III[J)I" } : Jvm.MethodName)) ∈ mj_tbl := List.mem_filter.mpr ⟨List.mem_of_getElem? (i := 634) (by decide +kernel), rfl⟩
theorem mw_635 : (Jvm.Cond.static ({ cls := "ChartForestLaw", name := "trees", desc := "(LChartForest;III[J)I" } : Jvm.MethodName)) ∈ mj_tbl := List.mem_filter.mpr ⟨List.mem_of_getElem? (i := 635) (by decide +kernel), rfl⟩
theorem mw_636 : (Jvm.Cond.codeWith ({ cls := "ChartForestLaw", name := "trees", desc := "(LChartForest;III[J)I" } : Jvm.MethodName) method_10_code (6 : Nat) (Option.some Jvm.ClassFile.FieldType.int) [((0 : Nat), (11 : Nat), (14 : Nat), (29 : Nat))]) ∈ mj_tbl := List.mem_filter.mpr ⟨List.mem_of_getElem? (i := 636) (by decide +kernel), rfl⟩
theorem mw_637 : (Jvm.Cond.methodLink "ChartForestLaw" (42 : Nat) ({ cls := "ChartForest", name := "trees", desc := "(III)J" } : Jvm.MethodName)) ∈ mj_tbl := List.mem_filter.mpr ⟨List.mem_of_getElem? (i := 637) (by decide +kernel), rfl⟩
theorem mw_638 : (Jvm.Cond.instanceMethod ({ cls := "ChartForest", name := "trees", desc := "(III)J" } : Jvm.MethodName)) ∈ mj_tbl := List.mem_filter.mpr ⟨List.mem_of_getElem? (i := 638) (by decide +kernel), rfl⟩
theorem mw_639 : (Jvm.Cond.selects "ChartForest" ({ cls := "ChartForest", name := "trees", desc := "(III)J" } : Jvm.MethodName) ({ cls := "ChartForest", name := "trees", desc := "(III)J" } : Jvm.MethodName)) ∈ mj_tbl := List.mem_filter.mpr ⟨List.mem_of_getElem? (i := 639) (by decide +kernel), rfl⟩
theorem mw_640 : (Jvm.Cond.code ({ cls := "ChartForest", name := "trees", desc := "(III)J" } : Jvm.MethodName) prog_1_method_12_code (4 : Nat) (Option.some Jvm.ClassFile.FieldType.long)) ∈ mj_tbl := List.mem_filter.mpr ⟨List.mem_of_getElem? (i := 640) (by decide +kernel), rfl⟩
theorem mw_641 : (Jvm.Cond.methodLink "ChartForest" (123 : Nat) ({ cls := "ChartForest$Forest", name := "treesOver", desc := "(III)J" } : Jvm.MethodName)) ∈ mj_tbl := List.mem_filter.mpr ⟨List.mem_of_getElem? (i := 641) (by decide +kernel), rfl⟩
theorem mw_642 : (Jvm.Cond.methodLink "ChartForestLaw" (113 : Nat) ({ cls := "ChartForestLaw", name := "tree", desc := "(LChartForest;JI[J)I" } : Jvm.MethodName)) ∈ mj_tbl := List.mem_filter.mpr ⟨List.mem_of_getElem? (i := 642) (by decide +kernel), rfl⟩
theorem mw_643 : (Jvm.Cond.static ({ cls := "ChartForestLaw", name := "tree", desc := "(LChartForest;JI[J)I" } : Jvm.MethodName)) ∈ mj_tbl := List.mem_filter.mpr ⟨List.mem_of_getElem? (i := 643) (by decide +kernel), rfl⟩
theorem mw_644 : (Jvm.Cond.codeWith ({ cls := "ChartForestLaw", name := "tree", desc := "(LChartForest;JI[J)I" } : Jvm.MethodName) method_11_code (6 : Nat) (Option.some Jvm.ClassFile.FieldType.int) [((0 : Nat), (11 : Nat), (14 : Nat), (21 : Nat))]) ∈ mj_tbl := List.mem_filter.mpr ⟨List.mem_of_getElem? (i := 644) (by decide +kernel), rfl⟩
theorem mw_645 : (Jvm.Cond.methodLink "ChartForestLaw" (46 : Nat) ({ cls := "ChartForest", name := "tree", desc := "(JI)I" } : Jvm.MethodName)) ∈ mj_tbl := List.mem_filter.mpr ⟨List.mem_of_getElem? (i := 645) (by decide +kernel), rfl⟩
theorem mw_646 : (Jvm.Cond.instanceMethod ({ cls := "ChartForest", name := "tree", desc := "(JI)I" } : Jvm.MethodName)) ∈ mj_tbl := List.mem_filter.mpr ⟨List.mem_of_getElem? (i := 646) (by decide +kernel), rfl⟩
theorem mw_647 : (Jvm.Cond.selects "ChartForest" ({ cls := "ChartForest", name := "tree", desc := "(JI)I" } : Jvm.MethodName) ({ cls := "ChartForest", name := "tree", desc := "(JI)I" } : Jvm.MethodName)) ∈ mj_tbl := List.mem_filter.mpr ⟨List.mem_of_getElem? (i := 647) (by decide +kernel), rfl⟩
theorem mw_648 : (Jvm.Cond.code ({ cls := "ChartForest", name := "tree", desc := "(JI)I" } : Jvm.MethodName) prog_1_method_14_code (7 : Nat) (Option.some Jvm.ClassFile.FieldType.int)) ∈ mj_tbl := List.mem_filter.mpr ⟨List.mem_of_getElem? (i := 648) (by decide +kernel), rfl⟩
theorem mw_649 : (Jvm.Cond.methodLink "ChartForest" (133 : Nat) ({ cls := "ChartForest$Forest", name := "ruleAt", desc := "(JI)I" } : Jvm.MethodName)) ∈ mj_tbl := List.mem_filter.mpr ⟨List.mem_of_getElem? (i := 649) (by decide +kernel), rfl⟩
theorem mw_650 : (Jvm.Cond.instanceMethod ({ cls := "ChartForest$Forest", name := "ruleAt", desc := "(JI)I" } : Jvm.MethodName)) ∈ mj_tbl := List.mem_filter.mpr ⟨List.mem_of_getElem? (i := 650) (by decide +kernel), rfl⟩
theorem mw_651 : (Jvm.Cond.selects "ChartForest$Forest" ({ cls := "ChartForest$Forest", name := "ruleAt", desc := "(JI)I" } : Jvm.MethodName) ({ cls := "ChartForest$Forest", name := "ruleAt", desc := "(JI)I" } : Jvm.MethodName)) ∈ mj_tbl := List.mem_filter.mpr ⟨List.mem_of_getElem? (i := 651) (by decide +kernel), rfl⟩
theorem mw_652 : (Jvm.Cond.code ({ cls := "ChartForest$Forest", name := "ruleAt", desc := "(JI)I" } : Jvm.MethodName) prog_4_method_13_code (8 : Nat) (Option.some Jvm.ClassFile.FieldType.int)) ∈ mj_tbl := List.mem_filter.mpr ⟨List.mem_of_getElem? (i := 652) (by decide +kernel), rfl⟩
theorem mw_653 : (Jvm.Cond.methodLink "ChartForest$Forest" (120 : Nat) ({ cls := "ChartForest$Forest", name := "push", desc := "(IJ)V" } : Jvm.MethodName)) ∈ mj_tbl := List.mem_filter.mpr ⟨List.mem_of_getElem? (i := 653) (by decide +kernel), rfl⟩
theorem mw_655 : (Jvm.Cond.instanceMethod ({ cls := "ChartForest$Forest", name := "push", desc := "(IJ)V" } : Jvm.MethodName)) ∈ mj_tbl := List.mem_filter.mpr ⟨List.mem_of_getElem? (i := 655) (by decide +kernel), rfl⟩
theorem mw_656 : (Jvm.Cond.code ({ cls := "ChartForest$Forest", name := "push", desc := "(IJ)V" } : Jvm.MethodName) prog_4_method_15_code (4 : Nat) (Option.none : Option Jvm.ClassFile.FieldType)) ∈ mj_tbl := List.mem_filter.mpr ⟨List.mem_of_getElem? (i := 656) (by decide +kernel), rfl⟩
theorem mw_657 : (Jvm.Cond.constant "ChartForest$Forest" (124 : Nat) (1000000 : Int32)) ∈ mj_tbl := List.mem_filter.mpr ⟨List.mem_of_getElem? (i := 657) (by decide +kernel), rfl⟩
theorem mw_658 : (Jvm.Cond.methodLink "ChartForest$Forest" (131 : Nat) ({ cls := "ChartForest$Forest", name := "pushParts", desc := "(IJ)V" } : Jvm.MethodName)) ∈ mj_tbl := List.mem_filter.mpr ⟨List.mem_of_getElem? (i := 658) (by decide +kernel), rfl⟩
theorem mw_660 : (Jvm.Cond.instanceMethod ({ cls := "ChartForest$Forest", name := "pushParts", desc := "(IJ)V" } : Jvm.MethodName)) ∈ mj_tbl := List.mem_filter.mpr ⟨List.mem_of_getElem? (i := 660) (by decide +kernel), rfl⟩
theorem mw_661 : (Jvm.Cond.code ({ cls := "ChartForest$Forest", name := "pushParts", desc := "(IJ)V" } : Jvm.MethodName) prog_4_method_14_code (9 : Nat) (Option.none : Option Jvm.ClassFile.FieldType)) ∈ mj_tbl := List.mem_filter.mpr ⟨List.mem_of_getElem? (i := 661) (by decide +kernel), rfl⟩
theorem mw_662 : (Jvm.Cond.methodLink "ChartForest$Forest" (134 : Nat) ({ cls := "ChartForest$Ways", name := "treesOfPart", desc := "(II)J" } : Jvm.MethodName)) ∈ mj_tbl := List.mem_filter.mpr ⟨List.mem_of_getElem? (i := 662) (by decide +kernel), rfl⟩
theorem mw_663 : (Jvm.Cond.instanceMethod ({ cls := "ChartForest$Ways", name := "treesOfPart", desc := "(II)J" } : Jvm.MethodName)) ∈ mj_tbl := List.mem_filter.mpr ⟨List.mem_of_getElem? (i := 663) (by decide +kernel), rfl⟩
theorem mw_664 : (Jvm.Cond.selects "ChartForest$Ways" ({ cls := "ChartForest$Ways", name := "treesOfPart", desc := "(II)J" } : Jvm.MethodName) ({ cls := "ChartForest$Ways", name := "treesOfPart", desc := "(II)J" } : Jvm.MethodName)) ∈ mj_tbl := List.mem_filter.mpr ⟨List.mem_of_getElem? (i := 664) (by decide +kernel), rfl⟩
theorem mw_665 : (Jvm.Cond.code ({ cls := "ChartForest$Ways", name := "treesOfPart", desc := "(II)J" } : Jvm.MethodName) prog_7_method_7_code (3 : Nat) (Option.some Jvm.ClassFile.FieldType.long)) ∈ mj_tbl := List.mem_filter.mpr ⟨List.mem_of_getElem? (i := 665) (by decide +kernel), rfl⟩
theorem mw_666 : (Jvm.Cond.methodLink "ChartForest$Ways" (72 : Nat) ({ cls := "ChartForest$Ways", name := "symbolOf", desc := "(II)I" } : Jvm.MethodName)) ∈ mj_tbl := List.mem_filter.mpr ⟨List.mem_of_getElem? (i := 666) (by decide +kernel), rfl⟩
theorem mw_667 : (Jvm.Cond.methodLink "ChartForest$Ways" (75 : Nat) ({ cls := "ChartForest$Ways", name := "cutOf", desc := "(II)I" } : Jvm.MethodName)) ∈ mj_tbl := List.mem_filter.mpr ⟨List.mem_of_getElem? (i := 667) (by decide +kernel), rfl⟩
theorem mw_668 : (Jvm.Cond.classLink "ChartForestLaw" (59 : Nat) "ChartForestModel") ∈ mj_tbl := List.mem_filter.mpr ⟨List.mem_of_getElem? (i := 668) (by decide +kernel), rfl⟩
theorem mw_669 : (Jvm.Cond.instantiable "ChartForestModel" (19 : Nat)) ∈ mj_tbl := List.mem_filter.mpr ⟨List.mem_of_getElem? (i := 669) (by decide +kernel), rfl⟩
theorem mw_670 : (Jvm.Cond.methodLink "ChartForestLaw" (61 : Nat) ({ cls := "ChartForestModel", name := "<init>", desc := "(I)V" } : Jvm.MethodName)) ∈ mj_tbl := List.mem_filter.mpr ⟨List.mem_of_getElem? (i := 670) (by decide +kernel), rfl⟩
theorem mw_671 : (Jvm.Cond.instanceMethod ({ cls := "ChartForestModel", name := "<init>", desc := "(I)V" } : Jvm.MethodName)) ∈ mj_tbl := List.mem_filter.mpr ⟨List.mem_of_getElem? (i := 671) (by decide +kernel), rfl⟩
theorem mw_672 : (Jvm.Cond.code ({ cls := "ChartForestModel", name := "<init>", desc := "(I)V" } : Jvm.MethodName) prog_9_method_1_code (2 : Nat) (Option.none : Option Jvm.ClassFile.FieldType)) ∈ mj_tbl := List.mem_filter.mpr ⟨List.mem_of_getElem? (i := 672) (by decide +kernel), rfl⟩
theorem mw_673 : (Jvm.Cond.methodLink "ChartForestModel" (1 : Nat) ({ cls := "java/lang/Object", name := "<init>", desc := "()V" } : Jvm.MethodName)) ∈ mj_tbl := List.mem_filter.mpr ⟨List.mem_of_getElem? (i := 673) (by decide +kernel), rfl⟩
theorem mw_674 : (Jvm.Cond.methodLink "ChartForestModel" (49 : Nat) ({ cls := "ChartForestModel", name := "makeSet", desc := "(I)V" } : Jvm.MethodName)) ∈ mj_tbl := List.mem_filter.mpr ⟨List.mem_of_getElem? (i := 674) (by decide +kernel), rfl⟩
theorem mw_676 : (Jvm.Cond.instanceMethod ({ cls := "ChartForestModel", name := "makeSet", desc := "(I)V" } : Jvm.MethodName)) ∈ mj_tbl := List.mem_filter.mpr ⟨List.mem_of_getElem? (i := 676) (by decide +kernel), rfl⟩
theorem mw_677 : (Jvm.Cond.code ({ cls := "ChartForestModel", name := "makeSet", desc := "(I)V" } : Jvm.MethodName) prog_9_method_14_code (4 : Nat) (Option.none : Option Jvm.ClassFile.FieldType)) ∈ mj_tbl := List.mem_filter.mpr ⟨List.mem_of_getElem? (i := 677) (by decide +kernel), rfl⟩
theorem mw_678 : (Jvm.Cond.methodLink "ChartForestModel" (65 : Nat) ({ cls := "ChartForestModel", name := "behind", desc := "(II)I" } : Jvm.MethodName)) ∈ mj_tbl := List.mem_filter.mpr ⟨List.mem_of_getElem? (i := 678) (by decide +kernel), rfl⟩
theorem mw_680 : (Jvm.Cond.instanceMethod ({ cls := "ChartForestModel", name := "behind", desc := "(II)I" } : Jvm.MethodName)) ∈ mj_tbl := List.mem_filter.mpr ⟨List.mem_of_getElem? (i := 680) (by decide +kernel), rfl⟩
theorem mw_681 : (Jvm.Cond.code ({ cls := "ChartForestModel", name := "behind", desc := "(II)I" } : Jvm.MethodName) prog_9_method_7_code (3 : Nat) (Option.some Jvm.ClassFile.FieldType.int)) ∈ mj_tbl := List.mem_filter.mpr ⟨List.mem_of_getElem? (i := 681) (by decide +kernel), rfl⟩
theorem mw_682 : (Jvm.Cond.methodLink "ChartForestModel" (57 : Nat) ({ cls := "ChartForestModel", name := "lengthOf", desc := "(I)I" } : Jvm.MethodName)) ∈ mj_tbl := List.mem_filter.mpr ⟨List.mem_of_getElem? (i := 682) (by decide +kernel), rfl⟩
theorem mw_684 : (Jvm.Cond.instanceMethod ({ cls := "ChartForestModel", name := "lengthOf", desc := "(I)I" } : Jvm.MethodName)) ∈ mj_tbl := List.mem_filter.mpr ⟨List.mem_of_getElem? (i := 684) (by decide +kernel), rfl⟩
theorem mw_685 : (Jvm.Cond.code ({ cls := "ChartForestModel", name := "lengthOf", desc := "(I)I" } : Jvm.MethodName) prog_9_method_6_code (2 : Nat) (Option.some Jvm.ClassFile.FieldType.int)) ∈ mj_tbl := List.mem_filter.mpr ⟨List.mem_of_getElem? (i := 685) (by decide +kernel), rfl⟩
theorem mw_686 : (Jvm.Cond.methodLink "ChartForestModel" (88 : Nat) ({ cls := "ChartForestModel", name := "close", desc := "(I)V" } : Jvm.MethodName)) ∈ mj_tbl := List.mem_filter.mpr ⟨List.mem_of_getElem? (i := 686) (by decide +kernel), rfl⟩
theorem mw_688 : (Jvm.Cond.instanceMethod ({ cls := "ChartForestModel", name := "close", desc := "(I)V" } : Jvm.MethodName)) ∈ mj_tbl := List.mem_filter.mpr ⟨List.mem_of_getElem? (i := 688) (by decide +kernel), rfl⟩
theorem mw_689 : (Jvm.Cond.code ({ cls := "ChartForestModel", name := "close", desc := "(I)V" } : Jvm.MethodName) prog_9_method_13_code (5 : Nat) (Option.none : Option Jvm.ClassFile.FieldType)) ∈ mj_tbl := List.mem_filter.mpr ⟨List.mem_of_getElem? (i := 689) (by decide +kernel), rfl⟩
theorem mw_690 : (Jvm.Cond.methodLink "ChartForestModel" (82 : Nat) ({ cls := "ChartForestModel", name := "follow", desc := "(IIII)I" } : Jvm.MethodName)) ∈ mj_tbl := List.mem_filter.mpr ⟨List.mem_of_getElem? (i := 690) (by decide +kernel), rfl⟩
theorem mw_692 : (Jvm.Cond.instanceMethod ({ cls := "ChartForestModel", name := "follow", desc := "(IIII)I" } : Jvm.MethodName)) ∈ mj_tbl := List.mem_filter.mpr ⟨List.mem_of_getElem? (i := 692) (by decide +kernel), rfl⟩
theorem mw_693 : (Jvm.Cond.code ({ cls := "ChartForestModel", name := "follow", desc := "(IIII)I" } : Jvm.MethodName) prog_9_method_12_code (9 : Nat) (Option.some Jvm.ClassFile.FieldType.int)) ∈ mj_tbl := List.mem_filter.mpr ⟨List.mem_of_getElem? (i := 693) (by decide +kernel), rfl⟩
theorem mw_694 : (Jvm.Cond.methodLink "ChartForestModel" (69 : Nat) ({ cls := "ChartForestModel", name := "isNonterminal", desc := "(I)Z" } : Jvm.MethodName)) ∈ mj_tbl := List.mem_filter.mpr ⟨List.mem_of_getElem? (i := 694) (by decide +kernel), rfl⟩
theorem mw_695 : (Jvm.Cond.static ({ cls := "ChartForestModel", name := "isNonterminal", desc := "(I)Z" } : Jvm.MethodName)) ∈ mj_tbl := List.mem_filter.mpr ⟨List.mem_of_getElem? (i := 695) (by decide +kernel), rfl⟩
theorem mw_696 : (Jvm.Cond.code ({ cls := "ChartForestModel", name := "isNonterminal", desc := "(I)Z" } : Jvm.MethodName) prog_9_method_4_code (1 : Nat) (Option.some Jvm.ClassFile.FieldType.boolean)) ∈ mj_tbl := List.mem_filter.mpr ⟨List.mem_of_getElem? (i := 696) (by decide +kernel), rfl⟩
theorem mw_697 : (Jvm.Cond.methodLink "ChartForestModel" (76 : Nat) ({ cls := "ChartForestModel", name := "add", desc := "(IIII)I" } : Jvm.MethodName)) ∈ mj_tbl := List.mem_filter.mpr ⟨List.mem_of_getElem? (i := 697) (by decide +kernel), rfl⟩
theorem mw_699 : (Jvm.Cond.instanceMethod ({ cls := "ChartForestModel", name := "add", desc := "(IIII)I" } : Jvm.MethodName)) ∈ mj_tbl := List.mem_filter.mpr ⟨List.mem_of_getElem? (i := 699) (by decide +kernel), rfl⟩
theorem mw_700 : (Jvm.Cond.code ({ cls := "ChartForestModel", name := "add", desc := "(IIII)I" } : Jvm.MethodName) prog_9_method_10_code (6 : Nat) (Option.some Jvm.ClassFile.FieldType.int)) ∈ mj_tbl := List.mem_filter.mpr ⟨List.mem_of_getElem? (i := 700) (by decide +kernel), rfl⟩
theorem mw_701 : (Jvm.Cond.methodLink "ChartForestModel" (61 : Nat) ({ cls := "ChartForestModel", name := "place", desc := "(IIII)I" } : Jvm.MethodName)) ∈ mj_tbl := List.mem_filter.mpr ⟨List.mem_of_getElem? (i := 701) (by decide +kernel), rfl⟩
theorem mw_702 : (Jvm.Cond.static ({ cls := "ChartForestModel", name := "place", desc := "(IIII)I" } : Jvm.MethodName)) ∈ mj_tbl := List.mem_filter.mpr ⟨List.mem_of_getElem? (i := 702) (by decide +kernel), rfl⟩
theorem mw_703 : (Jvm.Cond.code ({ cls := "ChartForestModel", name := "place", desc := "(IIII)I" } : Jvm.MethodName) prog_9_method_8_code (4 : Nat) (Option.some Jvm.ClassFile.FieldType.int)) ∈ mj_tbl := List.mem_filter.mpr ⟨List.mem_of_getElem? (i := 703) (by decide +kernel), rfl⟩
theorem mw_704 : (Jvm.Cond.methodLink "ChartForestModel" (79 : Nat) ({ cls := "ChartForestModel", name := "leapOf", desc := "(II)I" } : Jvm.MethodName)) ∈ mj_tbl := List.mem_filter.mpr ⟨List.mem_of_getElem? (i := 704) (by decide +kernel), rfl⟩
theorem mw_706 : (Jvm.Cond.instanceMethod ({ cls := "ChartForestModel", name := "leapOf", desc := "(II)I" } : Jvm.MethodName)) ∈ mj_tbl := List.mem_filter.mpr ⟨List.mem_of_getElem? (i := 706) (by decide +kernel), rfl⟩
theorem mw_707 : (Jvm.Cond.code ({ cls := "ChartForestModel", name := "leapOf", desc := "(II)I" } : Jvm.MethodName) prog_9_method_11_code (12 : Nat) (Option.some Jvm.ClassFile.FieldType.int)) ∈ mj_tbl := List.mem_filter.mpr ⟨List.mem_of_getElem? (i := 707) (by decide +kernel), rfl⟩
theorem mw_708 : (Jvm.Cond.fieldLink "ChartForestModel" (45 : Nat) "ChartForestModel" "leaps" "Z") ∈ mj_tbl := List.mem_filter.mpr ⟨List.mem_of_getElem? (i := 708) (by decide +kernel), rfl⟩
theorem mw_709 : (Jvm.Cond.fieldLink "ChartForestModel" (53 : Nat) "ChartForestModel" "refusal" "I") ∈ mj_tbl := List.mem_filter.mpr ⟨List.mem_of_getElem? (i := 709) (by decide +kernel), rfl⟩
theorem mw_710 : (Jvm.Cond.fieldLink "ChartForestModel" (73 : Nat) "ChartForestModel" "rules" "I") ∈ mj_tbl := List.mem_filter.mpr ⟨List.mem_of_getElem? (i := 710) (by decide +kernel), rfl⟩
theorem mw_711 : (Jvm.Cond.fieldLink "ChartForestModel" (7 : Nat) "ChartForestModel" "left" "[I") ∈ mj_tbl := List.mem_filter.mpr ⟨List.mem_of_getElem? (i := 711) (by decide +kernel), rfl⟩
theorem mw_712 : (Jvm.Cond.fieldLink "ChartForestModel" (13 : Nat) "ChartForestModel" "lengths" "[I") ∈ mj_tbl := List.mem_filter.mpr ⟨List.mem_of_getElem? (i := 712) (by decide +kernel), rfl⟩
theorem mw_713 : (Jvm.Cond.fieldLink "ChartForestModel" (16 : Nat) "ChartForestModel" "body" "[I") ∈ mj_tbl := List.mem_filter.mpr ⟨List.mem_of_getElem? (i := 713) (by decide +kernel), rfl⟩
theorem mw_714 : (Jvm.Cond.fieldLink "ChartForestModel" (97 : Nat) "ChartForestModel" "fedCount" "I") ∈ mj_tbl := List.mem_filter.mpr ⟨List.mem_of_getElem? (i := 714) (by decide +kernel), rfl⟩
theorem mw_715 : (Jvm.Cond.fieldLink "ChartForestModel" (19 : Nat) "ChartForestModel" "terminals" "[I") ∈ mj_tbl := List.mem_filter.mpr ⟨List.mem_of_getElem? (i := 715) (by decide +kernel), rfl⟩
theorem mw_716 : (Jvm.Cond.fieldLink "ChartForestModel" (22 : Nat) "ChartForestModel" "items" "[Z") ∈ mj_tbl := List.mem_filter.mpr ⟨List.mem_of_getElem? (i := 716) (by decide +kernel), rfl⟩
theorem mw_717 : (Jvm.Cond.fieldLink "ChartForestModel" (85 : Nat) "ChartForestModel" "worked" "Z") ∈ mj_tbl := List.mem_filter.mpr ⟨List.mem_of_getElem? (i := 717) (by decide +kernel), rfl⟩
theorem mw_718 : (Jvm.Cond.fieldLink "ChartForestModel" (26 : Nat) "ChartForestModel" "derives" "[Z") ∈ mj_tbl := List.mem_filter.mpr ⟨List.mem_of_getElem? (i := 718) (by decide +kernel), rfl⟩
theorem mw_719 : (Jvm.Cond.fieldLink "ChartForestModel" (29 : Nat) "ChartForestModel" "counted" "[Z") ∈ mj_tbl := List.mem_filter.mpr ⟨List.mem_of_getElem? (i := 719) (by decide +kernel), rfl⟩
theorem mw_720 : (Jvm.Cond.fieldLink "ChartForestModel" (32 : Nat) "ChartForestModel" "number" "[J") ∈ mj_tbl := List.mem_filter.mpr ⟨List.mem_of_getElem? (i := 720) (by decide +kernel), rfl⟩
theorem mw_721 : (Jvm.Cond.fieldLink "ChartForestModel" (36 : Nat) "ChartForestModel" "met" "[Z") ∈ mj_tbl := List.mem_filter.mpr ⟨List.mem_of_getElem? (i := 721) (by decide +kernel), rfl⟩
theorem mw_722 : (Jvm.Cond.fieldLink "ChartForestModel" (117 : Nat) "ChartForestModel" "cutOne" "I") ∈ mj_tbl := List.mem_filter.mpr ⟨List.mem_of_getElem? (i := 722) (by decide +kernel), rfl⟩
theorem mw_723 : (Jvm.Cond.fieldLink "ChartForestModel" (120 : Nat) "ChartForestModel" "cutTwo" "I") ∈ mj_tbl := List.mem_filter.mpr ⟨List.mem_of_getElem? (i := 723) (by decide +kernel), rfl⟩
theorem mw_724 : (Jvm.Cond.fieldLink "ChartForestModel" (39 : Nat) "ChartForestModel" "todo" "[I") ∈ mj_tbl := List.mem_filter.mpr ⟨List.mem_of_getElem? (i := 724) (by decide +kernel), rfl⟩
theorem mw_725 : (Jvm.Cond.fieldLink "ChartForestModel" (42 : Nat) "ChartForestModel" "todoTree" "[J") ∈ mj_tbl := List.mem_filter.mpr ⟨List.mem_of_getElem? (i := 725) (by decide +kernel), rfl⟩
theorem mw_726 : (Jvm.Cond.fieldLink "ChartForestModel" (176 : Nat) "ChartForestModel" "todoCount" "I") ∈ mj_tbl := List.mem_filter.mpr ⟨List.mem_of_getElem? (i := 726) (by decide +kernel), rfl⟩
theorem mw_765 : (Jvm.Cond.superclass "ChartForestModel" "java/lang/Object") ∈ mj_tbl := List.mem_filter.mpr ⟨List.mem_of_getElem? (i := 765) (by decide +kernel), rfl⟩
theorem mw_766 : (Jvm.Cond.methodLink "ChartForestLaw" (66 : Nat) ({ cls := "ChartForestModel", name := "thrown", desc := "()I" } : Jvm.MethodName)) ∈ mj_tbl := List.mem_filter.mpr ⟨List.mem_of_getElem? (i := 766) (by decide +kernel), rfl⟩
theorem mw_767 : (Jvm.Cond.instanceMethod ({ cls := "ChartForestModel", name := "thrown", desc := "()I" } : Jvm.MethodName)) ∈ mj_tbl := List.mem_filter.mpr ⟨List.mem_of_getElem? (i := 767) (by decide +kernel), rfl⟩
theorem mw_768 : (Jvm.Cond.selects "ChartForestModel" ({ cls := "ChartForestModel", name := "thrown", desc := "()I" } : Jvm.MethodName) ({ cls := "ChartForestModel", name := "thrown", desc := "()I" } : Jvm.MethodName)) ∈ mj_tbl := List.mem_filter.mpr ⟨List.mem_of_getElem? (i := 768) (by decide +kernel), rfl⟩
theorem mw_769 : (Jvm.Cond.code ({ cls := "ChartForestModel", name := "thrown", desc := "()I" } : Jvm.MethodName) prog_9_method_2_code (1 : Nat) (Option.some Jvm.ClassFile.FieldType.int)) ∈ mj_tbl := List.mem_filter.mpr ⟨List.mem_of_getElem? (i := 769) (by decide +kernel), rfl⟩
theorem mw_770 : (Jvm.Cond.methodLink "ChartForestLaw" (65 : Nat) ({ cls := "ChartForestModel", name := "rule", desc := "(III)I" } : Jvm.MethodName)) ∈ mj_tbl := List.mem_filter.mpr ⟨List.mem_of_getElem? (i := 770) (by decide +kernel), rfl⟩
theorem mw_771 : (Jvm.Cond.instanceMethod ({ cls := "ChartForestModel", name := "rule", desc := "(III)I" } : Jvm.MethodName)) ∈ mj_tbl := List.mem_filter.mpr ⟨List.mem_of_getElem? (i := 771) (by decide +kernel), rfl⟩
theorem mw_772 : (Jvm.Cond.selects "ChartForestModel" ({ cls := "ChartForestModel", name := "rule", desc := "(III)I" } : Jvm.MethodName) ({ cls := "ChartForestModel", name := "rule", desc := "(III)I" } : Jvm.MethodName)) ∈ mj_tbl := List.mem_filter.mpr ⟨List.mem_of_getElem? (i := 772) (by decide +kernel), rfl⟩
theorem mw_773 : (Jvm.Cond.code ({ cls := "ChartForestModel", name := "rule", desc := "(III)I" } : Jvm.MethodName) prog_9_method_16_code (6 : Nat) (Option.some Jvm.ClassFile.FieldType.int)) ∈ mj_tbl := List.mem_filter.mpr ⟨List.mem_of_getElem? (i := 773) (by decide +kernel), rfl⟩
theorem mw_774 : (Jvm.Cond.methodLink "ChartForestModel" (91 : Nat) ({ cls := "ChartForestModel", name := "refuse", desc := "(I)I" } : Jvm.MethodName)) ∈ mj_tbl := List.mem_filter.mpr ⟨List.mem_of_getElem? (i := 774) (by decide +kernel), rfl⟩
theorem mw_776 : (Jvm.Cond.instanceMethod ({ cls := "ChartForestModel", name := "refuse", desc := "(I)I" } : Jvm.MethodName)) ∈ mj_tbl := List.mem_filter.mpr ⟨List.mem_of_getElem? (i := 776) (by decide +kernel), rfl⟩
theorem mw_777 : (Jvm.Cond.code ({ cls := "ChartForestModel", name := "refuse", desc := "(I)I" } : Jvm.MethodName) prog_9_method_3_code (2 : Nat) (Option.some Jvm.ClassFile.FieldType.int)) ∈ mj_tbl := List.mem_filter.mpr ⟨List.mem_of_getElem? (i := 777) (by decide +kernel), rfl⟩
theorem mw_778 : (Jvm.Cond.methodLink "ChartForestModel" (94 : Nat) ({ cls := "ChartForestModel", name := "isTerminal", desc := "(I)Z" } : Jvm.MethodName)) ∈ mj_tbl := List.mem_filter.mpr ⟨List.mem_of_getElem? (i := 778) (by decide +kernel), rfl⟩
theorem mw_779 : (Jvm.Cond.static ({ cls := "ChartForestModel", name := "isTerminal", desc := "(I)Z" } : Jvm.MethodName)) ∈ mj_tbl := List.mem_filter.mpr ⟨List.mem_of_getElem? (i := 779) (by decide +kernel), rfl⟩
theorem mw_780 : (Jvm.Cond.code ({ cls := "ChartForestModel", name := "isTerminal", desc := "(I)Z" } : Jvm.MethodName) prog_9_method_5_code (1 : Nat) (Option.some Jvm.ClassFile.FieldType.boolean)) ∈ mj_tbl := List.mem_filter.mpr ⟨List.mem_of_getElem? (i := 780) (by decide +kernel), rfl⟩
theorem mw_781 : (Jvm.Cond.methodLink "ChartForestLaw" (73 : Nat) ({ cls := "ChartForestModel", name := "feed", desc := "(I)I" } : Jvm.MethodName)) ∈ mj_tbl := List.mem_filter.mpr ⟨List.mem_of_getElem? (i := 781) (by decide +kernel), rfl⟩
theorem mw_782 : (Jvm.Cond.instanceMethod ({ cls := "ChartForestModel", name := "feed", desc := "(I)I" } : Jvm.MethodName)) ∈ mj_tbl := List.mem_filter.mpr ⟨List.mem_of_getElem? (i := 782) (by decide +kernel), rfl⟩
theorem mw_783 : (Jvm.Cond.selects "ChartForestModel" ({ cls := "ChartForestModel", name := "feed", desc := "(I)I" } : Jvm.MethodName) ({ cls := "ChartForestModel", name := "feed", desc := "(I)I" } : Jvm.MethodName)) ∈ mj_tbl := List.mem_filter.mpr ⟨List.mem_of_getElem? (i := 783) (by decide +kernel), rfl⟩
theorem mw_784 : (Jvm.Cond.code ({ cls := "ChartForestModel", name := "feed", desc := "(I)I" } : Jvm.MethodName) prog_9_method_18_code (2 : Nat) (Option.some Jvm.ClassFile.FieldType.int)) ∈ mj_tbl := List.mem_filter.mpr ⟨List.mem_of_getElem? (i := 784) (by decide +kernel), rfl⟩
theorem mw_785 : (Jvm.Cond.methodLink "ChartForestModel" (100 : Nat) ({ cls := "ChartForestModel", name := "expectedIn", desc := "(I)I" } : Jvm.MethodName)) ∈ mj_tbl := List.mem_filter.mpr ⟨List.mem_of_getElem? (i := 785) (by decide +kernel), rfl⟩
theorem mw_787 : (Jvm.Cond.instanceMethod ({ cls := "ChartForestModel", name := "expectedIn", desc := "(I)I" } : Jvm.MethodName)) ∈ mj_tbl := List.mem_filter.mpr ⟨List.mem_of_getElem? (i := 787) (by decide +kernel), rfl⟩
theorem mw_788 : (Jvm.Cond.code ({ cls := "ChartForestModel", name := "expectedIn", desc := "(I)I" } : Jvm.MethodName) prog_9_method_17_code (5 : Nat) (Option.some Jvm.ClassFile.FieldType.int)) ∈ mj_tbl := List.mem_filter.mpr ⟨List.mem_of_getElem? (i := 788) (by decide +kernel), rfl⟩
theorem mw_789 : (Jvm.Cond.methodLink "ChartForestModel" (103 : Nat) ({ cls := "ChartForestModel", name := "sizeOf", desc := "(I)I" } : Jvm.MethodName)) ∈ mj_tbl := List.mem_filter.mpr ⟨List.mem_of_getElem? (i := 789) (by decide +kernel), rfl⟩
theorem mw_791 : (Jvm.Cond.instanceMethod ({ cls := "ChartForestModel", name := "sizeOf", desc := "(I)I" } : Jvm.MethodName)) ∈ mj_tbl := List.mem_filter.mpr ⟨List.mem_of_getElem? (i := 791) (by decide +kernel), rfl⟩
theorem mw_792 : (Jvm.Cond.code ({ cls := "ChartForestModel", name := "sizeOf", desc := "(I)I" } : Jvm.MethodName) prog_9_method_15_code (4 : Nat) (Option.some Jvm.ClassFile.FieldType.int)) ∈ mj_tbl := List.mem_filter.mpr ⟨List.mem_of_getElem? (i := 792) (by decide +kernel), rfl⟩
theorem mw_793 : (Jvm.Cond.methodLink "ChartForestLaw" (76 : Nat) ({ cls := "ChartForestModel", name := "back", desc := "(I)I" } : Jvm.MethodName)) ∈ mj_tbl := List.mem_filter.mpr ⟨List.mem_of_getElem? (i := 793) (by decide +kernel), rfl⟩
theorem mw_794 : (Jvm.Cond.instanceMethod ({ cls := "ChartForestModel", name := "back", desc := "(I)I" } : Jvm.MethodName)) ∈ mj_tbl := List.mem_filter.mpr ⟨List.mem_of_getElem? (i := 794) (by decide +kernel), rfl⟩
theorem mw_795 : (Jvm.Cond.selects "ChartForestModel" ({ cls := "ChartForestModel", name := "back", desc := "(I)I" } : Jvm.MethodName) ({ cls := "ChartForestModel", name := "back", desc := "(I)I" } : Jvm.MethodName)) ∈ mj_tbl := List.mem_filter.mpr ⟨List.mem_of_getElem? (i := 795) (by decide +kernel), rfl⟩
theorem mw_796 : (Jvm.Cond.code ({ cls := "ChartForestModel", name := "back", desc := "(I)I" } : Jvm.MethodName) prog_9_method_19_code (2 : Nat) (Option.some Jvm.ClassFile.FieldType.int)) ∈ mj_tbl := List.mem_filter.mpr ⟨List.mem_of_getElem? (i := 796) (by decide +kernel), rfl⟩
theorem mw_797 : (Jvm.Cond.methodLink "ChartForestLaw" (80 : Nat) ({ cls := "ChartForestModel", name := "fed", desc := "()I" } : Jvm.MethodName)) ∈ mj_tbl := List.mem_filter.mpr ⟨List.mem_of_getElem? (i := 797) (by decide +kernel), rfl⟩
theorem mw_798 : (Jvm.Cond.instanceMethod ({ cls := "ChartForestModel", name := "fed", desc := "()I" } : Jvm.MethodName)) ∈ mj_tbl := List.mem_filter.mpr ⟨List.mem_of_getElem? (i := 798) (by decide +kernel), rfl⟩
theorem mw_799 : (Jvm.Cond.selects "ChartForestModel" ({ cls := "ChartForestModel", name := "fed", desc := "()I" } : Jvm.MethodName) ({ cls := "ChartForestModel", name := "fed", desc := "()I" } : Jvm.MethodName)) ∈ mj_tbl := List.mem_filter.mpr ⟨List.mem_of_getElem? (i := 799) (by decide +kernel), rfl⟩
theorem mw_800 : (Jvm.Cond.code ({ cls := "ChartForestModel", name := "fed", desc := "()I" } : Jvm.MethodName) prog_9_method_20_code (1 : Nat) (Option.some Jvm.ClassFile.FieldType.int)) ∈ mj_tbl := List.mem_filter.mpr ⟨List.mem_of_getElem? (i := 800) (by decide +kernel), rfl⟩
theorem mw_801 : (Jvm.Cond.methodLink "ChartForestLaw" (85 : Nat) ({ cls := "ChartForestModel", name := "accepts", desc := "()Z" } : Jvm.MethodName)) ∈ mj_tbl := List.mem_filter.mpr ⟨List.mem_of_getElem? (i := 801) (by decide +kernel), rfl⟩
theorem mw_802 : (Jvm.Cond.instanceMethod ({ cls := "ChartForestModel", name := "accepts", desc := "()Z" } : Jvm.MethodName)) ∈ mj_tbl := List.mem_filter.mpr ⟨List.mem_of_getElem? (i := 802) (by decide +kernel), rfl⟩
theorem mw_803 : (Jvm.Cond.selects "ChartForestModel" ({ cls := "ChartForestModel", name := "accepts", desc := "()Z" } : Jvm.MethodName) ({ cls := "ChartForestModel", name := "accepts", desc := "()Z" } : Jvm.MethodName)) ∈ mj_tbl := List.mem_filter.mpr ⟨List.mem_of_getElem? (i := 803) (by decide +kernel), rfl⟩
theorem mw_804 : (Jvm.Cond.code ({ cls := "ChartForestModel", name := "accepts", desc := "()Z" } : Jvm.MethodName) prog_9_method_21_code (1 : Nat) (Option.some Jvm.ClassFile.FieldType.boolean)) ∈ mj_tbl := List.mem_filter.mpr ⟨List.mem_of_getElem? (i := 804) (by decide +kernel), rfl⟩
theorem mw_805 : (Jvm.Cond.methodLink "ChartForestModel" (106 : Nat) ({ cls := "ChartForestModel", name := "holds", desc := "(IIII)Z" } : Jvm.MethodName)) ∈ mj_tbl := List.mem_filter.mpr ⟨List.mem_of_getElem? (i := 805) (by decide +kernel), rfl⟩
theorem mw_807 : (Jvm.Cond.instanceMethod ({ cls := "ChartForestModel", name := "holds", desc := "(IIII)Z" } : Jvm.MethodName)) ∈ mj_tbl := List.mem_filter.mpr ⟨List.mem_of_getElem? (i := 807) (by decide +kernel), rfl⟩
theorem mw_808 : (Jvm.Cond.code ({ cls := "ChartForestModel", name := "holds", desc := "(IIII)Z" } : Jvm.MethodName) prog_9_method_9_code (5 : Nat) (Option.some Jvm.ClassFile.FieldType.boolean)) ∈ mj_tbl := List.mem_filter.mpr ⟨List.mem_of_getElem? (i := 808) (by decide +kernel), rfl⟩
theorem mw_809 : (Jvm.Cond.methodLink "ChartForestLaw" (89 : Nat) ({ cls := "ChartForestModel", name := "expected", desc := "()I" } : Jvm.MethodName)) ∈ mj_tbl := List.mem_filter.mpr ⟨List.mem_of_getElem? (i := 809) (by decide +kernel), rfl⟩
theorem mw_810 : (Jvm.Cond.instanceMethod ({ cls := "ChartForestModel", name := "expected", desc := "()I" } : Jvm.MethodName)) ∈ mj_tbl := List.mem_filter.mpr ⟨List.mem_of_getElem? (i := 810) (by decide +kernel), rfl⟩
theorem mw_811 : (Jvm.Cond.selects "ChartForestModel" ({ cls := "ChartForestModel", name := "expected", desc := "()I" } : Jvm.MethodName) ({ cls := "ChartForestModel", name := "expected", desc := "()I" } : Jvm.MethodName)) ∈ mj_tbl := List.mem_filter.mpr ⟨List.mem_of_getElem? (i := 811) (by decide +kernel), rfl⟩
theorem mw_812 : (Jvm.Cond.code ({ cls := "ChartForestModel", name := "expected", desc := "()I" } : Jvm.MethodName) prog_9_method_22_code (1 : Nat) (Option.some Jvm.ClassFile.FieldType.int)) ∈ mj_tbl := List.mem_filter.mpr ⟨List.mem_of_getElem? (i := 812) (by decide +kernel), rfl⟩
theorem mw_813 : (Jvm.Cond.methodLink "ChartForestLaw" (92 : Nat) ({ cls := "ChartForestModel", name := "items", desc := "(I)I" } : Jvm.MethodName)) ∈ mj_tbl := List.mem_filter.mpr ⟨List.mem_of_getElem? (i := 813) (by decide +kernel), rfl⟩
theorem mw_814 : (Jvm.Cond.instanceMethod ({ cls := "ChartForestModel", name := "items", desc := "(I)I" } : Jvm.MethodName)) ∈ mj_tbl := List.mem_filter.mpr ⟨List.mem_of_getElem? (i := 814) (by decide +kernel), rfl⟩
theorem mw_815 : (Jvm.Cond.selects "ChartForestModel" ({ cls := "ChartForestModel", name := "items", desc := "(I)I" } : Jvm.MethodName) ({ cls := "ChartForestModel", name := "items", desc := "(I)I" } : Jvm.MethodName)) ∈ mj_tbl := List.mem_filter.mpr ⟨List.mem_of_getElem? (i := 815) (by decide +kernel), rfl⟩
theorem mw_816 : (Jvm.Cond.code ({ cls := "ChartForestModel", name := "items", desc := "(I)I" } : Jvm.MethodName) prog_9_method_24_code (2 : Nat) (Option.some Jvm.ClassFile.FieldType.int)) ∈ mj_tbl := List.mem_filter.mpr ⟨List.mem_of_getElem? (i := 816) (by decide +kernel), rfl⟩
theorem mw_817 : (Jvm.Cond.methodLink "ChartForestModel" (110 : Nat) ({ cls := "ChartForestModel", name := "isSet", desc := "(I)Z" } : Jvm.MethodName)) ∈ mj_tbl := List.mem_filter.mpr ⟨List.mem_of_getElem? (i := 817) (by decide +kernel), rfl⟩
theorem mw_819 : (Jvm.Cond.instanceMethod ({ cls := "ChartForestModel", name := "isSet", desc := "(I)Z" } : Jvm.MethodName)) ∈ mj_tbl := List.mem_filter.mpr ⟨List.mem_of_getElem? (i := 819) (by decide +kernel), rfl⟩
theorem mw_820 : (Jvm.Cond.code ({ cls := "ChartForestModel", name := "isSet", desc := "(I)Z" } : Jvm.MethodName) prog_9_method_23_code (2 : Nat) (Option.some Jvm.ClassFile.FieldType.boolean)) ∈ mj_tbl := List.mem_filter.mpr ⟨List.mem_of_getElem? (i := 820) (by decide +kernel), rfl⟩
theorem mw_821 : (Jvm.Cond.methodLink "ChartForestLaw" (96 : Nat) ({ cls := "ChartForestModel", name := "has", desc := "(IIII)Z" } : Jvm.MethodName)) ∈ mj_tbl := List.mem_filter.mpr ⟨List.mem_of_getElem? (i := 821) (by decide +kernel), rfl⟩
theorem mw_822 : (Jvm.Cond.instanceMethod ({ cls := "ChartForestModel", name := "has", desc := "(IIII)Z" } : Jvm.MethodName)) ∈ mj_tbl := List.mem_filter.mpr ⟨List.mem_of_getElem? (i := 822) (by decide +kernel), rfl⟩
theorem mw_823 : (Jvm.Cond.selects "ChartForestModel" ({ cls := "ChartForestModel", name := "has", desc := "(IIII)Z" } : Jvm.MethodName) ({ cls := "ChartForestModel", name := "has", desc := "(IIII)Z" } : Jvm.MethodName)) ∈ mj_tbl := List.mem_filter.mpr ⟨List.mem_of_getElem? (i := 823) (by decide +kernel), rfl⟩
theorem mw_824 : (Jvm.Cond.code ({ cls := "ChartForestModel", name := "has", desc := "(IIII)Z" } : Jvm.MethodName) prog_9_method_25_code (5 : Nat) (Option.some Jvm.ClassFile.FieldType.boolean)) ∈ mj_tbl := List.mem_filter.mpr ⟨List.mem_of_getElem? (i := 824) (by decide +kernel), rfl⟩
theorem mw_825 : (Jvm.Cond.methodLink "ChartForestLaw" (100 : Nat) ({ cls := "ChartForestModel", name := "leap", desc := "(II)I" } : Jvm.MethodName)) ∈ mj_tbl := List.mem_filter.mpr ⟨List.mem_of_getElem? (i := 825) (by decide +kernel), rfl⟩
theorem mw_826 : (Jvm.Cond.instanceMethod ({ cls := "ChartForestModel", name := "leap", desc := "(II)I" } : Jvm.MethodName)) ∈ mj_tbl := List.mem_filter.mpr ⟨List.mem_of_getElem? (i := 826) (by decide +kernel), rfl⟩
theorem mw_827 : (Jvm.Cond.selects "ChartForestModel" ({ cls := "ChartForestModel", name := "leap", desc := "(II)I" } : Jvm.MethodName) ({ cls := "ChartForestModel", name := "leap", desc := "(II)I" } : Jvm.MethodName)) ∈ mj_tbl := List.mem_filter.mpr ⟨List.mem_of_getElem? (i := 827) (by decide +kernel), rfl⟩
theorem mw_828 : (Jvm.Cond.code ({ cls := "ChartForestModel", name := "leap", desc := "(II)I" } : Jvm.MethodName) prog_9_method_26_code (4 : Nat) (Option.some Jvm.ClassFile.FieldType.int)) ∈ mj_tbl := List.mem_filter.mpr ⟨List.mem_of_getElem? (i := 828) (by decide +kernel), rfl⟩
theorem mw_829 : (Jvm.Cond.methodLink "ChartForestLaw" (103 : Nat) ({ cls := "ChartForestModel", name := "ways", desc := "(III)I" } : Jvm.MethodName)) ∈ mj_tbl := List.mem_filter.mpr ⟨List.mem_of_getElem? (i := 829) (by decide +kernel), rfl⟩
theorem mw_830 : (Jvm.Cond.instanceMethod ({ cls := "ChartForestModel", name := "ways", desc := "(III)I" } : Jvm.MethodName)) ∈ mj_tbl := List.mem_filter.mpr ⟨List.mem_of_getElem? (i := 830) (by decide +kernel), rfl⟩
theorem mw_831 : (Jvm.Cond.selects "ChartForestModel" ({ cls := "ChartForestModel", name := "ways", desc := "(III)I" } : Jvm.MethodName) ({ cls := "ChartForestModel", name := "ways", desc := "(III)I" } : Jvm.MethodName)) ∈ mj_tbl := List.mem_filter.mpr ⟨List.mem_of_getElem? (i := 831) (by decide +kernel), rfl⟩
theorem mw_832 : (Jvm.Cond.code ({ cls := "ChartForestModel", name := "ways", desc := "(III)I" } : Jvm.MethodName) prog_9_method_40_code (6 : Nat) (Option.some Jvm.ClassFile.FieldType.int)) ∈ mj_tbl := List.mem_filter.mpr ⟨List.mem_of_getElem? (i := 832) (by decide +kernel), rfl⟩
theorem mw_833 : (Jvm.Cond.methodLink "ChartForestModel" (161 : Nat) ({ cls := "ChartForestModel", name := "isStretch", desc := "(III)Z" } : Jvm.MethodName)) ∈ mj_tbl := List.mem_filter.mpr ⟨List.mem_of_getElem? (i := 833) (by decide +kernel), rfl⟩
theorem mw_835 : (Jvm.Cond.instanceMethod ({ cls := "ChartForestModel", name := "isStretch", desc := "(III)Z" } : Jvm.MethodName)) ∈ mj_tbl := List.mem_filter.mpr ⟨List.mem_of_getElem? (i := 835) (by decide +kernel), rfl⟩
theorem mw_836 : (Jvm.Cond.code ({ cls := "ChartForestModel", name := "isStretch", desc := "(III)Z" } : Jvm.MethodName) prog_9_method_39_code (4 : Nat) (Option.some Jvm.ClassFile.FieldType.boolean)) ∈ mj_tbl := List.mem_filter.mpr ⟨List.mem_of_getElem? (i := 836) (by decide +kernel), rfl⟩
theorem mw_837 : (Jvm.Cond.methodLink "ChartForestModel" (164 : Nat) ({ cls := "ChartForestModel", name := "work", desc := "()V" } : Jvm.MethodName)) ∈ mj_tbl := List.mem_filter.mpr ⟨List.mem_of_getElem? (i := 837) (by decide +kernel), rfl⟩
theorem mw_839 : (Jvm.Cond.instanceMethod ({ cls := "ChartForestModel", name := "work", desc := "()V" } : Jvm.MethodName)) ∈ mj_tbl := List.mem_filter.mpr ⟨List.mem_of_getElem? (i := 839) (by decide +kernel), rfl⟩
theorem mw_840 : (Jvm.Cond.code ({ cls := "ChartForestModel", name := "work", desc := "()V" } : Jvm.MethodName) prog_9_method_38_code (8 : Nat) (Option.none : Option Jvm.ClassFile.FieldType)) ∈ mj_tbl := List.mem_filter.mpr ⟨List.mem_of_getElem? (i := 840) (by decide +kernel), rfl⟩
theorem mw_841 : (Jvm.Cond.methodLink "ChartForestModel" (155 : Nat) ({ cls := "ChartForestModel", name := "findDerived", desc := "()V" } : Jvm.MethodName)) ∈ mj_tbl := List.mem_filter.mpr ⟨List.mem_of_getElem? (i := 841) (by decide +kernel), rfl⟩
theorem mw_843 : (Jvm.Cond.instanceMethod ({ cls := "ChartForestModel", name := "findDerived", desc := "()V" } : Jvm.MethodName)) ∈ mj_tbl := List.mem_filter.mpr ⟨List.mem_of_getElem? (i := 843) (by decide +kernel), rfl⟩
theorem mw_844 : (Jvm.Cond.code ({ cls := "ChartForestModel", name := "findDerived", desc := "()V" } : Jvm.MethodName) prog_9_method_34_code (6 : Nat) (Option.none : Option Jvm.ClassFile.FieldType)) ∈ mj_tbl := List.mem_filter.mpr ⟨List.mem_of_getElem? (i := 844) (by decide +kernel), rfl⟩
theorem mw_845 : (Jvm.Cond.methodLink "ChartForestModel" (113 : Nat) ({ cls := "ChartForestModel", name := "node", desc := "(III)I" } : Jvm.MethodName)) ∈ mj_tbl := List.mem_filter.mpr ⟨List.mem_of_getElem? (i := 845) (by decide +kernel), rfl⟩
theorem mw_846 : (Jvm.Cond.static ({ cls := "ChartForestModel", name := "node", desc := "(III)I" } : Jvm.MethodName)) ∈ mj_tbl := List.mem_filter.mpr ⟨List.mem_of_getElem? (i := 846) (by decide +kernel), rfl⟩
theorem mw_847 : (Jvm.Cond.code ({ cls := "ChartForestModel", name := "node", desc := "(III)I" } : Jvm.MethodName) prog_9_method_27_code (3 : Nat) (Option.some Jvm.ClassFile.FieldType.int)) ∈ mj_tbl := List.mem_filter.mpr ⟨List.mem_of_getElem? (i := 847) (by decide +kernel), rfl⟩
theorem mw_848 : (Jvm.Cond.methodLink "ChartForestModel" (140 : Nat) ({ cls := "ChartForestModel", name := "waysBy", desc := "(III)I" } : Jvm.MethodName)) ∈ mj_tbl := List.mem_filter.mpr ⟨List.mem_of_getElem? (i := 848) (by decide +kernel), rfl⟩
theorem mw_850 : (Jvm.Cond.instanceMethod ({ cls := "ChartForestModel", name := "waysBy", desc := "(III)I" } : Jvm.MethodName)) ∈ mj_tbl := List.mem_filter.mpr ⟨List.mem_of_getElem? (i := 850) (by decide +kernel), rfl⟩
theorem mw_851 : (Jvm.Cond.code ({ cls := "ChartForestModel", name := "waysBy", desc := "(III)I" } : Jvm.MethodName) prog_9_method_33_code (6 : Nat) (Option.some Jvm.ClassFile.FieldType.int)) ∈ mj_tbl := List.mem_filter.mpr ⟨List.mem_of_getElem? (i := 851) (by decide +kernel), rfl⟩
theorem mw_852 : (Jvm.Cond.methodLink "ChartForestModel" (130 : Nat) ({ cls := "ChartForestModel", name := "firstCuts", desc := "(I)V" } : Jvm.MethodName)) ∈ mj_tbl := List.mem_filter.mpr ⟨List.mem_of_getElem? (i := 852) (by decide +kernel), rfl⟩
theorem mw_854 : (Jvm.Cond.instanceMethod ({ cls := "ChartForestModel", name := "firstCuts", desc := "(I)V" } : Jvm.MethodName)) ∈ mj_tbl := List.mem_filter.mpr ⟨List.mem_of_getElem? (i := 854) (by decide +kernel), rfl⟩
theorem mw_855 : (Jvm.Cond.code ({ cls := "ChartForestModel", name := "firstCuts", desc := "(I)V" } : Jvm.MethodName) prog_9_method_31_code (2 : Nat) (Option.none : Option Jvm.ClassFile.FieldType)) ∈ mj_tbl := List.mem_filter.mpr ⟨List.mem_of_getElem? (i := 855) (by decide +kernel), rfl⟩
theorem mw_856 : (Jvm.Cond.methodLink "ChartForestModel" (133 : Nat) ({ cls := "ChartForestModel", name := "isWay", desc := "(III)Z" } : Jvm.MethodName)) ∈ mj_tbl := List.mem_filter.mpr ⟨List.mem_of_getElem? (i := 856) (by decide +kernel), rfl⟩
theorem mw_858 : (Jvm.Cond.instanceMethod ({ cls := "ChartForestModel", name := "isWay", desc := "(III)Z" } : Jvm.MethodName)) ∈ mj_tbl := List.mem_filter.mpr ⟨List.mem_of_getElem? (i := 858) (by decide +kernel), rfl⟩
theorem mw_859 : (Jvm.Cond.code ({ cls := "ChartForestModel", name := "isWay", desc := "(III)Z" } : Jvm.MethodName) prog_9_method_30_code (8 : Nat) (Option.some Jvm.ClassFile.FieldType.boolean)) ∈ mj_tbl := List.mem_filter.mpr ⟨List.mem_of_getElem? (i := 859) (by decide +kernel), rfl⟩
theorem mw_860 : (Jvm.Cond.methodLink "ChartForestModel" (123 : Nat) ({ cls := "ChartForestModel", name := "cut", desc := "(IIII)I" } : Jvm.MethodName)) ∈ mj_tbl := List.mem_filter.mpr ⟨List.mem_of_getElem? (i := 860) (by decide +kernel), rfl⟩
theorem mw_862 : (Jvm.Cond.instanceMethod ({ cls := "ChartForestModel", name := "cut", desc := "(IIII)I" } : Jvm.MethodName)) ∈ mj_tbl := List.mem_filter.mpr ⟨List.mem_of_getElem? (i := 862) (by decide +kernel), rfl⟩
theorem mw_863 : (Jvm.Cond.code ({ cls := "ChartForestModel", name := "cut", desc := "(IIII)I" } : Jvm.MethodName) prog_9_method_29_code (5 : Nat) (Option.some Jvm.ClassFile.FieldType.int)) ∈ mj_tbl := List.mem_filter.mpr ⟨List.mem_of_getElem? (i := 863) (by decide +kernel), rfl⟩
theorem mw_864 : (Jvm.Cond.methodLink "ChartForestModel" (126 : Nat) ({ cls := "ChartForestModel", name := "isDerived", desc := "(III)Z" } : Jvm.MethodName)) ∈ mj_tbl := List.mem_filter.mpr ⟨List.mem_of_getElem? (i := 864) (by decide +kernel), rfl⟩
theorem mw_866 : (Jvm.Cond.instanceMethod ({ cls := "ChartForestModel", name := "isDerived", desc := "(III)Z" } : Jvm.MethodName)) ∈ mj_tbl := List.mem_filter.mpr ⟨List.mem_of_getElem? (i := 866) (by decide +kernel), rfl⟩
theorem mw_867 : (Jvm.Cond.code ({ cls := "ChartForestModel", name := "isDerived", desc := "(III)Z" } : Jvm.MethodName) prog_9_method_28_code (4 : Nat) (Option.some Jvm.ClassFile.FieldType.boolean)) ∈ mj_tbl := List.mem_filter.mpr ⟨List.mem_of_getElem? (i := 867) (by decide +kernel), rfl⟩
theorem mw_868 : (Jvm.Cond.methodLink "ChartForestModel" (136 : Nat) ({ cls := "ChartForestModel", name := "nextCuts", desc := "(II)Z" } : Jvm.MethodName)) ∈ mj_tbl := List.mem_filter.mpr ⟨List.mem_of_getElem? (i := 868) (by decide +kernel), rfl⟩
theorem mw_870 : (Jvm.Cond.instanceMethod ({ cls := "ChartForestModel", name := "nextCuts", desc := "(II)Z" } : Jvm.MethodName)) ∈ mj_tbl := List.mem_filter.mpr ⟨List.mem_of_getElem? (i := 870) (by decide +kernel), rfl⟩
theorem mw_871 : (Jvm.Cond.code ({ cls := "ChartForestModel", name := "nextCuts", desc := "(II)Z" } : Jvm.MethodName) prog_9_method_32_code (3 : Nat) (Option.some Jvm.ClassFile.FieldType.boolean)) ∈ mj_tbl := List.mem_filter.mpr ⟨List.mem_of_getElem? (i := 871) (by decide +kernel), rfl⟩
theorem mw_872 : (Jvm.Cond.constantLong "ChartForestModel" (145 : Nat) (-1 : Int64)) ∈ mj_tbl := List.mem_filter.mpr ⟨List.mem_of_getElem? (i := 872) (by decide +kernel), rfl⟩
theorem mw_873 : (Jvm.Cond.methodLink "ChartForestModel" (158 : Nat) ({ cls := "ChartForestModel", name := "sum", desc := "(III)J" } : Jvm.MethodName)) ∈ mj_tbl := List.mem_filter.mpr ⟨List.mem_of_getElem? (i := 873) (by decide +kernel), rfl⟩
theorem mw_875 : (Jvm.Cond.instanceMethod ({ cls := "ChartForestModel", name := "sum", desc := "(III)J" } : Jvm.MethodName)) ∈ mj_tbl := List.mem_filter.mpr ⟨List.mem_of_getElem? (i := 875) (by decide +kernel), rfl⟩
theorem mw_876 : (Jvm.Cond.code ({ cls := "ChartForestModel", name := "sum", desc := "(III)J" } : Jvm.MethodName) prog_9_method_37_code (10 : Nat) (Option.some Jvm.ClassFile.FieldType.long)) ∈ mj_tbl := List.mem_filter.mpr ⟨List.mem_of_getElem? (i := 876) (by decide +kernel), rfl⟩
theorem mw_877 : (Jvm.Cond.methodLink "ChartForestModel" (151 : Nat) ({ cls := "ChartForestModel", name := "byWay", desc := "(III)J" } : Jvm.MethodName)) ∈ mj_tbl := List.mem_filter.mpr ⟨List.mem_of_getElem? (i := 877) (by decide +kernel), rfl⟩
theorem mw_879 : (Jvm.Cond.instanceMethod ({ cls := "ChartForestModel", name := "byWay", desc := "(III)J" } : Jvm.MethodName)) ∈ mj_tbl := List.mem_filter.mpr ⟨List.mem_of_getElem? (i := 879) (by decide +kernel), rfl⟩
theorem mw_880 : (Jvm.Cond.code ({ cls := "ChartForestModel", name := "byWay", desc := "(III)J" } : Jvm.MethodName) prog_9_method_36_code (10 : Nat) (Option.some Jvm.ClassFile.FieldType.long)) ∈ mj_tbl := List.mem_filter.mpr ⟨List.mem_of_getElem? (i := 880) (by decide +kernel), rfl⟩
theorem mw_881 : (Jvm.Cond.methodLink "ChartForestModel" (147 : Nat) ({ cls := "ChartForestModel", name := "times", desc := "(JJ)J" } : Jvm.MethodName)) ∈ mj_tbl := List.mem_filter.mpr ⟨List.mem_of_getElem? (i := 881) (by decide +kernel), rfl⟩
theorem mw_882 : (Jvm.Cond.static ({ cls := "ChartForestModel", name := "times", desc := "(JJ)J" } : Jvm.MethodName)) ∈ mj_tbl := List.mem_filter.mpr ⟨List.mem_of_getElem? (i := 882) (by decide +kernel), rfl⟩
theorem mw_883 : (Jvm.Cond.code ({ cls := "ChartForestModel", name := "times", desc := "(JJ)J" } : Jvm.MethodName) prog_9_method_35_code (4 : Nat) (Option.some Jvm.ClassFile.FieldType.long)) ∈ mj_tbl := List.mem_filter.mpr ⟨List.mem_of_getElem? (i := 883) (by decide +kernel), rfl⟩
theorem mw_884 : (Jvm.Cond.constantLong "ChartForestModel" (143 : Nat) (1000000000000 : Int64)) ∈ mj_tbl := List.mem_filter.mpr ⟨List.mem_of_getElem? (i := 884) (by decide +kernel), rfl⟩
theorem mw_885 : (Jvm.Cond.methodLink "ChartForestLaw" (106 : Nat) ({ cls := "ChartForestModel", name := "trees", desc := "(III)J" } : Jvm.MethodName)) ∈ mj_tbl := List.mem_filter.mpr ⟨List.mem_of_getElem? (i := 885) (by decide +kernel), rfl⟩
theorem mw_886 : (Jvm.Cond.instanceMethod ({ cls := "ChartForestModel", name := "trees", desc := "(III)J" } : Jvm.MethodName)) ∈ mj_tbl := List.mem_filter.mpr ⟨List.mem_of_getElem? (i := 886) (by decide +kernel), rfl⟩
theorem mw_887 : (Jvm.Cond.selects "ChartForestModel" ({ cls := "ChartForestModel", name := "trees", desc := "(III)J" } : Jvm.MethodName) ({ cls := "ChartForestModel", name := "trees", desc := "(III)J" } : Jvm.MethodName)) ∈ mj_tbl := List.mem_filter.mpr ⟨List.mem_of_getElem? (i := 887) (by decide +kernel), rfl⟩
theorem mw_888 : (Jvm.Cond.code ({ cls := "ChartForestModel", name := "trees", desc := "(III)J" } : Jvm.MethodName) prog_9_method_42_code (4 : Nat) (Option.some Jvm.ClassFile.FieldType.long)) ∈ mj_tbl := List.mem_filter.mpr ⟨List.mem_of_getElem? (i := 888) (by decide +kernel), rfl⟩
theorem mw_889 : (Jvm.Cond.methodLink "ChartForestModel" (167 : Nat) ({ cls := "ChartForestModel", name := "treesOf", desc := "(III)J" } : Jvm.MethodName)) ∈ mj_tbl := List.mem_filter.mpr ⟨List.mem_of_getElem? (i := 889) (by decide +kernel), rfl⟩
theorem mw_891 : (Jvm.Cond.instanceMethod ({ cls := "ChartForestModel", name := "treesOf", desc := "(III)J" } : Jvm.MethodName)) ∈ mj_tbl := List.mem_filter.mpr ⟨List.mem_of_getElem? (i := 891) (by decide +kernel), rfl⟩
theorem mw_892 : (Jvm.Cond.code ({ cls := "ChartForestModel", name := "treesOf", desc := "(III)J" } : Jvm.MethodName) prog_9_method_41_code (5 : Nat) (Option.some Jvm.ClassFile.FieldType.long)) ∈ mj_tbl := List.mem_filter.mpr ⟨List.mem_of_getElem? (i := 892) (by decide +kernel), rfl⟩
theorem mw_893 : (Jvm.Cond.methodLink "ChartForestLaw" (110 : Nat) ({ cls := "ChartForestModel", name := "nodes", desc := "()I" } : Jvm.MethodName)) ∈ mj_tbl := List.mem_filter.mpr ⟨List.mem_of_getElem? (i := 893) (by decide +kernel), rfl⟩
theorem mw_894 : (Jvm.Cond.instanceMethod ({ cls := "ChartForestModel", name := "nodes", desc := "()I" } : Jvm.MethodName)) ∈ mj_tbl := List.mem_filter.mpr ⟨List.mem_of_getElem? (i := 894) (by decide +kernel), rfl⟩
theorem mw_895 : (Jvm.Cond.selects "ChartForestModel" ({ cls := "ChartForestModel", name := "nodes", desc := "()I" } : Jvm.MethodName) ({ cls := "ChartForestModel", name := "nodes", desc := "()I" } : Jvm.MethodName)) ∈ mj_tbl := List.mem_filter.mpr ⟨List.mem_of_getElem? (i := 895) (by decide +kernel), rfl⟩
theorem mw_896 : (Jvm.Cond.code ({ cls := "ChartForestModel", name := "nodes", desc := "()I" } : Jvm.MethodName) prog_9_method_45_code (4 : Nat) (Option.some Jvm.ClassFile.FieldType.int)) ∈ mj_tbl := List.mem_filter.mpr ⟨List.mem_of_getElem? (i := 896) (by decide +kernel), rfl⟩
theorem mw_897 : (Jvm.Cond.methodLink "ChartForestModel" (173 : Nat) ({ cls := "ChartForestModel", name := "meetAll", desc := "(III)Z" } : Jvm.MethodName)) ∈ mj_tbl := List.mem_filter.mpr ⟨List.mem_of_getElem? (i := 897) (by decide +kernel), rfl⟩
theorem mw_899 : (Jvm.Cond.instanceMethod ({ cls := "ChartForestModel", name := "meetAll", desc := "(III)Z" } : Jvm.MethodName)) ∈ mj_tbl := List.mem_filter.mpr ⟨List.mem_of_getElem? (i := 899) (by decide +kernel), rfl⟩
theorem mw_900 : (Jvm.Cond.code ({ cls := "ChartForestModel", name := "meetAll", desc := "(III)Z" } : Jvm.MethodName) prog_9_method_44_code (7 : Nat) (Option.some Jvm.ClassFile.FieldType.boolean)) ∈ mj_tbl := List.mem_filter.mpr ⟨List.mem_of_getElem? (i := 900) (by decide +kernel), rfl⟩
theorem mw_901 : (Jvm.Cond.methodLink "ChartForestModel" (170 : Nat) ({ cls := "ChartForestModel", name := "meet", desc := "(III)I" } : Jvm.MethodName)) ∈ mj_tbl := List.mem_filter.mpr ⟨List.mem_of_getElem? (i := 901) (by decide +kernel), rfl⟩
theorem mw_903 : (Jvm.Cond.instanceMethod ({ cls := "ChartForestModel", name := "meet", desc := "(III)I" } : Jvm.MethodName)) ∈ mj_tbl := List.mem_filter.mpr ⟨List.mem_of_getElem? (i := 903) (by decide +kernel), rfl⟩
theorem mw_904 : (Jvm.Cond.code ({ cls := "ChartForestModel", name := "meet", desc := "(III)I" } : Jvm.MethodName) prog_9_method_43_code (9 : Nat) (Option.some Jvm.ClassFile.FieldType.int)) ∈ mj_tbl := List.mem_filter.mpr ⟨List.mem_of_getElem? (i := 904) (by decide +kernel), rfl⟩
theorem mw_905 : (Jvm.Cond.methodLink "ChartForestLaw" (116 : Nat) ({ cls := "ChartForestModel", name := "tree", desc := "(JI)I" } : Jvm.MethodName)) ∈ mj_tbl := List.mem_filter.mpr ⟨List.mem_of_getElem? (i := 905) (by decide +kernel), rfl⟩
theorem mw_906 : (Jvm.Cond.instanceMethod ({ cls := "ChartForestModel", name := "tree", desc := "(JI)I" } : Jvm.MethodName)) ∈ mj_tbl := List.mem_filter.mpr ⟨List.mem_of_getElem? (i := 906) (by decide +kernel), rfl⟩
theorem mw_907 : (Jvm.Cond.selects "ChartForestModel" ({ cls := "ChartForestModel", name := "tree", desc := "(JI)I" } : Jvm.MethodName) ({ cls := "ChartForestModel", name := "tree", desc := "(JI)I" } : Jvm.MethodName)) ∈ mj_tbl := List.mem_filter.mpr ⟨List.mem_of_getElem? (i := 907) (by decide +kernel), rfl⟩
theorem mw_908 : (Jvm.Cond.code ({ cls := "ChartForestModel", name := "tree", desc := "(JI)I" } : Jvm.MethodName) prog_9_method_49_code (8 : Nat) (Option.some Jvm.ClassFile.FieldType.int)) ∈ mj_tbl := List.mem_filter.mpr ⟨List.mem_of_getElem? (i := 908) (by decide +kernel), rfl⟩
theorem mw_909 : (Jvm.Cond.methodLink "ChartForestModel" (179 : Nat) ({ cls := "ChartForestModel", name := "come", desc := "(IJ)V" } : Jvm.MethodName)) ∈ mj_tbl := List.mem_filter.mpr ⟨List.mem_of_getElem? (i := 909) (by decide +kernel), rfl⟩
theorem mw_911 : (Jvm.Cond.instanceMethod ({ cls := "ChartForestModel", name := "come", desc := "(IJ)V" } : Jvm.MethodName)) ∈ mj_tbl := List.mem_filter.mpr ⟨List.mem_of_getElem? (i := 911) (by decide +kernel), rfl⟩
theorem mw_912 : (Jvm.Cond.code ({ cls := "ChartForestModel", name := "come", desc := "(IJ)V" } : Jvm.MethodName) prog_9_method_46_code (4 : Nat) (Option.none : Option Jvm.ClassFile.FieldType)) ∈ mj_tbl := List.mem_filter.mpr ⟨List.mem_of_getElem? (i := 912) (by decide +kernel), rfl⟩
theorem mw_913 : (Jvm.Cond.methodLink "ChartForestModel" (187 : Nat) ({ cls := "ChartForestModel", name := "takeRoot", desc := "(IJ)I" } : Jvm.MethodName)) ∈ mj_tbl := List.mem_filter.mpr ⟨List.mem_of_getElem? (i := 913) (by decide +kernel), rfl⟩
theorem mw_915 : (Jvm.Cond.instanceMethod ({ cls := "ChartForestModel", name := "takeRoot", desc := "(IJ)I" } : Jvm.MethodName)) ∈ mj_tbl := List.mem_filter.mpr ⟨List.mem_of_getElem? (i := 915) (by decide +kernel), rfl⟩
theorem mw_916 : (Jvm.Cond.code ({ cls := "ChartForestModel", name := "takeRoot", desc := "(IJ)I" } : Jvm.MethodName) prog_9_method_48_code (13 : Nat) (Option.some Jvm.ClassFile.FieldType.int)) ∈ mj_tbl := List.mem_filter.mpr ⟨List.mem_of_getElem? (i := 916) (by decide +kernel), rfl⟩
theorem mw_917 : (Jvm.Cond.methodLink "ChartForestModel" (183 : Nat) ({ cls := "ChartForestModel", name := "comeAll", desc := "(IIIJ)V" } : Jvm.MethodName)) ∈ mj_tbl := List.mem_filter.mpr ⟨List.mem_of_getElem? (i := 917) (by decide +kernel), rfl⟩
theorem mw_919 : (Jvm.Cond.instanceMethod ({ cls := "ChartForestModel", name := "comeAll", desc := "(IIIJ)V" } : Jvm.MethodName)) ∈ mj_tbl := List.mem_filter.mpr ⟨List.mem_of_getElem? (i := 919) (by decide +kernel), rfl⟩
theorem mw_920 : (Jvm.Cond.code ({ cls := "ChartForestModel", name := "comeAll", desc := "(IIIJ)V" } : Jvm.MethodName) prog_9_method_47_code (11 : Nat) (Option.none : Option Jvm.ClassFile.FieldType)) ∈ mj_tbl := List.mem_filter.mpr ⟨List.mem_of_getElem? (i := 920) (by decide +kernel), rfl⟩
theorem mw_921 : (Jvm.Cond.constantLong "ChartForestLaw" (111 : Nat) (4294967295 : Int64)) ∈ mj_tbl := List.mem_filter.mpr ⟨List.mem_of_getElem? (i := 921) (by decide +kernel), rfl⟩
theorem mw_922 : (Jvm.Cond.sameMethod "java/lang/Throwable" "java/lang/Throwable" "fillInStackTrace" "(I)Ljava/lang/Throwable;") ∈ mj_tbl := List.mem_filter.mpr ⟨List.mem_of_getElem? (i := 922) (by decide +kernel), rfl⟩
end
section
/-! ===== the small machine: whole numbers instead of words, places instead of addresses ===== -/
abbrev mj_V : Type := Int ⊕ Int ⊕ Option (Nat × Nat) ⊕ Unit
abbrev mj_C : Type := (Nat × Nat × (Nat → Int)) ⊕ (Nat × Nat × (Nat → Nat → Int)) ⊕ (Nat × List mj_V)
abbrev mj_M : Type := List mj_C
abbrev mj_L : Type := List (Option mj_V)
abbrev mj_S : Type := Nat × mj_L × List mj_V × mj_M
abbrev mj_O : Type := Option mj_V ⊕ Nat
/-- the run: launch, classes' numbers and slots, the law's start, the script's address, its length, its ints -/
abbrev mj_G : Type := Launch × va_G × State × Nat × Nat × (Nat → Int32)
/-- the method: own name of its class file, its name, code, number of locals, what it returns -/
abbrev mj_Y : Type := String × MethodName × ByteArray × Nat × Option FieldType
/-- how far behind the first new address the cell at a place lies -/
def mj_o (p : Nat) : Nat := p + (if 7 < p then 13 else 0) + (if 9 < p then 13 else 0)
theorem mj_o_lt {p q : Nat} (h : p < q) : mj_o (p + 1) ≤ mj_o q := by
  unfold mj_o
  split <;> split <;> split <;> split <;> omega
theorem mj_o_s (p : Nat) : mj_o p < mj_o (p + 1) := by
  unfold mj_o
  split <;> split <;> split <;> split <;> omega
/-- the value of the machine that a small value stands for -/
def mj_tr (b z : Nat) : mj_V → Value
  | .inl x => .int (Int32.ofInt x)
  | .inr (.inl x) => .long (Int64.ofInt x)
  | .inr (.inr (.inl none)) => .null
  | .inr (.inr (.inl (some r))) => .ref (z + mj_o r.1 + r.2)
  | .inr (.inr (.inr _)) => .ref b
def mj_cat : mj_V → Nat
  | .inr (.inl _) => 2
  | _ => 1
theorem mj_tr_cat (b z : Nat) (w : mj_V) : (mj_tr b z w).category = mj_cat w := by
  rcases w with x | x | (_ | r) | x <;> rfl
def mj_i (x : Int) : Prop := -2147483648 ≤ x ∧ x < 2147483648
def mj_l (x : Int) : Prop := -9223372036854775808 ≤ x ∧ x < 9223372036854775808
theorem mj_ti {x : Int} (h : mj_i x) : (Int32.ofInt x).toInt = x := Int32.toInt_ofInt_of_le h.1 h.2
theorem mj_tl {x : Int} (h : mj_l x) : (Int64.ofInt x).toInt = x := Int64.toInt_ofInt_of_le h.1 h.2
theorem mj_lt {x y : Int} (hx : mj_i x) (hy : mj_i y) : Int32.ofInt x < Int32.ofInt y ↔ x < y := by
  rw [Int32.lt_iff_toInt_lt, mj_ti hx, mj_ti hy]
theorem mj_le {x y : Int} (hx : mj_i x) (hy : mj_i y) : Int32.ofInt x ≤ Int32.ofInt y ↔ x ≤ y := by
  rw [Int32.le_iff_toInt_le, mj_ti hx, mj_ti hy]
theorem mj_eq {x y : Int} (hx : mj_i x) (hy : mj_i y) : Int32.ofInt x = Int32.ofInt y ↔ x = y := by
  rw [← Int32.toInt_inj, mj_ti hx, mj_ti hy]
theorem mj_i0 : mj_i 0 := ⟨by decide, by decide⟩
theorem mj_cl {x : Int} (hx : mj_i x) : (Int32.ofInt x).toNatClampNeg = x.toNat := Int32.toNatClampNeg_ofInt_of_le hx.1 hx.2
theorem mj_in_ {x : Int} {n : Nat} (h0 : 0 ≤ x) (h1 : x < n) (hx : mj_i x) : ¬ (Int32.ofInt x < 0 ∨ n ≤ (Int32.ofInt x).toNatClampNeg) := by
  rw [mj_cl hx]
  rintro (h | h)
  · have h2 : Int32.ofInt x < Int32.ofInt 0 := h
    rw [mj_lt hx mj_i0] at h2
    omega
  · omega
def mj_shl (x y : Int) : Int := (Int32.ofInt x <<< (Int32.ofInt y &&& 31)).toInt
def mj_shr (x y : Int) : Int := (Int32.ofInt x >>> (Int32.ofInt y &&& 31)).toInt
def mj_ush (x y : Int) : Int := ((Int32.ofInt x).toUInt32 >>> ((Int32.ofInt y).toUInt32 &&& Int32.toUInt32 31)).toInt32.toInt
def mj_and (x y : Int) : Int := (Int32.ofInt x &&& Int32.ofInt y).toInt
def mj_ior (x y : Int) : Int := (Int32.ofInt x ||| Int32.ofInt y).toInt
def mj_lan (x y : Int) : Int := (Int64.ofInt x &&& Int64.ofInt y).toInt
def mj_lor (x y : Int) : Int := (Int64.ofInt x ||| Int64.ofInt y).toInt
def mj_lsh (x y : Int) : Int := (Int64.ofInt x <<< ((Int32.ofInt y).toInt64 &&& 63)).toInt
def mj_cmp (x y : Int) : Int := if y < x then 1 else if x = y then 0 else -1
def mj_num (k : Nat) (x : Int) : Value := if k = 2 then .long (Int64.ofInt x) else .int (Int32.ofInt x)
def mj_ty (k : Nat) : FieldType := if k = 0 then .int else if k = 1 then .boolean else .long
/-- an array cell of the heap that holds n values -/
def mj_arr (s0 : State) (H : Heap) (a : Nat) (ty : FieldType) (n : Nat) (f : Nat → Value) : Prop :=
  ∃ c : Cell, H[a]? = some c ∧ s0.isArrayOf c ty ∧ c.vm = .none ∧ c.slots.size = n ∧ ∀ j, j < n → c.slots[j]? = some (f j)
/-- what the heap holds for the cell at a place; z: the first new address -/
def mj_cell (D : va_G) (s0 : State) (b z p : Nat) (H : Heap) : mj_C → Prop
  | .inl (k, n, f) => mj_arr s0 H (z + mj_o p) (mj_ty k) n (fun j => mj_num k (f j))
  | .inr (.inl (n, k, g)) => mj_o p + n + 1 ≤ mj_o (p + 1) ∧ mj_arr s0 H (z + mj_o p) (.array .int) n (fun i => .ref (z + mj_o p + (i + 1))) ∧ ∀ i, i < n → mj_arr s0 H (z + mj_o p + (i + 1)) .int k (fun j => .int (Int32.ofInt (g i j)))
  | .inr (.inr (ci, fs)) => ∃ r : vw_C, mj_cls[ci]? = some r ∧ t_OB (z + mj_o p) (D.1 ci) r.2.2 (D.2 ci) H (fun k => mj_tr b z (fs.getD k (.inl 0)))
def mj_W (D : va_G) (s0 : State) (b : Nat) (M : mj_M) (H : Heap) : Prop :=
  H.size = s0.heap.size + mj_o M.length ∧ ∀ (p : Nat) (c : mj_C), M[p]? = some c → mj_cell D s0 b s0.heap.size p H c
theorem mj_arr.kept {s0 : State} {H H1 : Heap} {a : Nat} {ty : FieldType} {n : Nat} {f : Nat → Value} (h : mj_arr s0 H a ty n f) (hq : H1[a]? = H[a]?) : mj_arr s0 H1 a ty n f := by
  obtain ⟨c, h1, h2⟩ := h
  exact ⟨c, hq.trans h1, h2⟩
theorem mj_cell.kept {D : va_G} {s0 : State} {b z p : Nat} {H H1 : Heap} {c : mj_C} (h : mj_cell D s0 b z p H c) (hq : ∀ A : Nat, z + mj_o p ≤ A → A < z + mj_o (p + 1) → H1[A]? = H[A]?) : mj_cell D s0 b z p H1 c := by
  have h0 : H1[z + mj_o p]? = H[z + mj_o p]? := hq _ (Nat.le_refl _) (by have := mj_o_s p; omega)
  rcases c with ⟨k, n, f⟩ | ⟨n, k, g⟩ | ⟨ci, fs⟩
  · exact mj_arr.kept h h0
  · obtain ⟨h1, h2, h3⟩ := h
    exact ⟨h1, h2.kept h0, fun i hi => (h3 i hi).kept (hq _ (by omega) (by omega))⟩
  · obtain ⟨r, hr, hb⟩ := h
    exact ⟨r, hr, hb.kept h0⟩
/-- one cell changes, at addresses of its own; the others stay -/
theorem mj_W.set {D : va_G} {s0 : State} {b p : Nat} {M : mj_M} {H H1 : Heap} {c0 c1 : mj_C} (h : mj_W D s0 b M H) (hp : M[p]? = some c0) (hz : H1.size = H.size)
    (ho : ∀ A : Nat, (A < s0.heap.size + mj_o p ∨ s0.heap.size + mj_o (p + 1) ≤ A) → H1[A]? = H[A]?) (hc : mj_cell D s0 b s0.heap.size p H1 c1) : mj_W D s0 b (M.set p c1) H1 := by
  have hlt : p < M.length := (List.getElem?_eq_some_iff.mp hp).1
  refine ⟨by rw [hz, h.1, List.length_set], fun q c hq => ?_⟩
  by_cases e : p = q
  · subst e
    rw [List.getElem?_set_self hlt] at hq
    cases hq
    exact hc
  · rw [List.getElem?_set_ne e] at hq
    refine (h.2 q c hq).kept fun A h1 h2 => ho A ?_
    rcases Nat.lt_or_ge p q with h3 | h3
    · have := mj_o_lt h3
      right; omega
    · have h4 : q < p := by omega
      have := mj_o_lt h4
      left; omega
/-- locals -/
def mj_ls (b z : Nat) (ls : Array Slot) (lv : mj_L) : Prop := ls.size = lv.length ∧ lv_wf ls ∧ ∀ (i : Nat) (w : mj_V), lv[i]? = some (some w) → ls[i]? = some (.val (mj_tr b z w))
/-- the place before i no longer holds a long -/
def mj_clr (lv : mj_L) (i : Nat) : mj_L := match i with
  | 0 => lv
  | j + 1 => match lv[j]? with
    | some (some (.inr (.inl _))) => lv.set j none
    | _ => lv
def mj_st1 (lv : mj_L) (i : Nat) (w : mj_V) : mj_L := (mj_clr lv i).set i (some w)
def mj_st2 (lv : mj_L) (i : Nat) (w : mj_V) : mj_L := ((mj_clr lv i).set (i + 1) none).set i (some w)
theorem mj_clr_len (lv : mj_L) (i : Nat) : (mj_clr lv i).length = lv.length := by
  unfold mj_clr
  split
  · rfl
  · split
    · simp
    · rfl
theorem mj_clr_at {lv : mj_L} {i j : Nat} {w : mj_V} (h : (mj_clr lv i)[j]? = some (some w)) : lv[j]? = some (some w) ∧ (j + 1 = i → mj_cat w ≠ 2) := by
  unfold mj_clr at h
  split at h
  · exact ⟨h, fun e => by omega⟩
  · rename_i k
    split at h
    · rename_i y hy
      by_cases e : k = j
      · subst e
        rw [List.getElem?_set_self (List.getElem?_eq_some_iff.mp hy).1] at h
        cases h
      · rw [List.getElem?_set_ne e] at h
        exact ⟨h, fun q => by omega⟩
    · rename_i hn
      refine ⟨h, fun e => ?_⟩
      have e2 : j = k := by omega
      subst e2
      rcases w with x | x | x
      · intro q; cases q
      · exact absurd h (hn x)
      · rcases x with x | x <;> (intro q; cases q)
def mj_pr (b z : Nat) (lv : mj_L) : List (Nat × Value) := (List.range lv.length).filterMap fun i => match lv[i]? with
  | some (some w) => some (i, mj_tr b z w)
  | _ => none
theorem mj_pr_in {b z : Nat} {lv : mj_L} {i : Nat} {w : mj_V} (h : lv[i]? = some (some w)) : (i, mj_tr b z w) ∈ mj_pr b z lv :=
  List.mem_filterMap.mpr ⟨i, List.mem_range.mpr (List.getElem?_eq_some_iff.mp h).1, by simp [h]⟩
theorem mj_has {b z : Nat} {ls : Array Slot} {lv : mj_L} (h : mj_ls b z ls lv) : lv_has ls lv.length (mj_pr b z lv) := by
  refine ⟨h.1, h.2.1, fun q hq => ?_⟩
  obtain ⟨i, -, hi⟩ := List.mem_filterMap.mp hq
  split at hi
  · rename_i w hw
    cases hi
    exact h.2.2 i w hw
  · cases hi
theorem mj_ls_st1 {b z : Nat} {ls' : Array Slot} {lv : mj_L} {i : Nat} {w : mj_V} (hi : i < lv.length)
    (h : lv_has ls' lv.length ((i, mj_tr b z w) :: (mj_pr b z lv).filter (fun q => !(q.1 == i) && !(q.1 + 1 == i && q.2.category == 2)))) : mj_ls b z ls' (mj_st1 lv i w) := by
  refine ⟨by rw [h.1, mj_st1, List.length_set, mj_clr_len], h.2.1, fun j w' hj => ?_⟩
  by_cases e : i = j
  · subst e
    rw [mj_st1, List.getElem?_set_self (by rw [mj_clr_len]; exact hi)] at hj
    cases hj
    exact h.2.2 _ List.mem_cons_self
  · rw [mj_st1, List.getElem?_set_ne e] at hj
    obtain ⟨h1, h2⟩ := mj_clr_at hj
    refine h.2.2 (j, mj_tr b z w') (List.mem_cons_of_mem _ (List.mem_filter.mpr ⟨mj_pr_in h1, ?_⟩))
    by_cases e3 : j + 1 = i
    · have := h2 e3
      simp [mj_tr_cat, this, Ne.symm e]
    · simp [e3, Ne.symm e]
theorem mj_ls_st2 {b z : Nat} {ls' : Array Slot} {lv : mj_L} {i : Nat} {w : mj_V} (hi : i + 1 < lv.length)
    (h : lv_has ls' lv.length ((i, mj_tr b z w) :: (mj_pr b z lv).filter (fun q => !(q.1 == i) && (!(q.1 == i + 1) && !(q.1 + 1 == i && q.2.category == 2))))) : mj_ls b z ls' (mj_st2 lv i w) := by
  refine ⟨by rw [h.1, mj_st2, List.length_set, List.length_set, mj_clr_len], h.2.1, fun j w' hj => ?_⟩
  by_cases e : i = j
  · subst e
    rw [mj_st2, List.getElem?_set_self (by rw [List.length_set, mj_clr_len]; omega)] at hj
    cases hj
    exact h.2.2 _ List.mem_cons_self
  · rw [mj_st2, List.getElem?_set_ne e] at hj
    by_cases e1 : i + 1 = j
    · subst e1
      rw [List.getElem?_set_self (by rw [mj_clr_len]; exact hi)] at hj
      cases hj
    · rw [List.getElem?_set_ne e1] at hj
      obtain ⟨h1, h2⟩ := mj_clr_at hj
      refine h.2.2 (j, mj_tr b z w') (List.mem_cons_of_mem _ (List.mem_filter.mpr ⟨mj_pr_in h1, ?_⟩))
      by_cases e3 : j + 1 = i
      · have := h2 e3
        simp [mj_tr_cat, this, Ne.symm e, Ne.symm e1]
      · simp [e3, Ne.symm e, Ne.symm e1]
/-- what is known of the run -/
def mj_F (g : mj_G) : Prop := va_K g.2.1 mj_cls [] g.2.2.1 ∧ va_X g.2.2.2.1 g.2.2.2.2.1 g.2.2.2.2.2 g.2.2.1 g.2.2.1.heap ∧ g.2.2.2.1 < g.2.2.1.heap.size ∧ g.2.2.2.2.1 ≤ 2561 ∧ (∀ w ∈ lw_tbl, w.before #[Value.ref g.2.2.2.1] g.2.2.1 = true) ∧ g.1.stackTraces = false
/-- what holds where the machine stands in a method's body -/
def mj_K (g : mj_G) (Y : mj_Y) (d kc ks : Nat) (lv : mj_L) (M : mj_M) (p : Program) (R : Room) (s : State) (m : MethodId) (args : Array Value) (meth : Method) (c : Code) (H : Heap) (ls : Array Slot) (locs : List Loc) (cells slots : Nat) : Prop :=
  (p.tables.exec = Jvm.exec ∧ c.code = Y.2.2.1 ∧ c.maxLocals = Y.2.2.2.1 ∧ s.vm.findClass Y.1 = some m.cls ∧ (∀ w ∈ mj_tbl, w.before args s = true) ∧ meth.locks = false ∧ meth.sig.returnType = Y.2.2.2.2 ∧ meth.name = Y.2.1.name ∧ g.2.2.1.vm.Alike s.vm ∧ g.2.2.1.heap.size ≤ s.heap.size ∧ s.methodNamed? Y.2.1 = some m) ∧
  (d ≤ R.frames ∧ 40 * d ≤ R.locals ∧ cells + kc ≤ R.cells ∧ slots + ks ≤ R.slots) ∧
  mj_W g.2.1 g.2.2.1 g.2.2.2.1 M H ∧ (∀ q, q < g.2.2.1.heap.size → H[q]? = g.2.2.1.heap[q]?) ∧ (mj_ls g.2.2.2.1 g.2.2.1.heap.size ls lv ∧ lv.length = Y.2.2.2.1) ∧ ∀ q ∈ locs, g.2.2.1.heap.size ≤ q.base
def mj_Q (g : mj_G) (Post : mj_O → mj_M → Prop) (o : Outcome) (t : State) : Prop :=
  ∃ (r : mj_O) (M : mj_M), Post r M ∧ (match r with | .inl v => o = .returned (v.map (mj_tr g.2.2.2.1 g.2.2.1.heap.size)) | .inr q => o = .threw (g.2.2.1.heap.size + mj_o q)) ∧ mj_W g.2.1 g.2.2.1 g.2.2.2.1 M t.heap ∧ ∀ q, q < g.2.2.1.heap.size → t.heap[q]? = g.2.2.1.heap[q]?
def mj_Z (g : mj_G) (Post : mj_O → mj_M → Prop) (below : List Frame) (s : State) (kc ks : Nat) : State → Prop := fun t =>
  ∃ o, t.status = .running ∧ Ended t below o ∧ mj_Q g Post o t ∧ s.WarmedH t.vm ∧ ∃ L : List Loc, s.sameButNew ({ t with vm := s.vm } : State) L kc ks ∧ ∀ q ∈ L, g.2.2.1.heap.size ≤ q.base
/-- from every standing that shows S the method comes to an end that shows Post -/
def mj_J (g : mj_G) (Y : mj_Y) (d kc ks : Nat) (S : mj_S) (Post : mj_O → mj_M → Prop) : Prop :=
  mj_F g → ∀ (p : Program) (e : Env) (R : Room) (s : State) (m : MethodId) (args : Array Value) (below : List Frame) (meth : Method) (c : Code) (H : Heap) (ls : Array Slot) (locs : List Loc) (cells slots : Nat),
    mj_K g Y d kc ks S.2.1 S.2.2.2 p R s m args meth c H ls locs cells slots →
    W p g.1 e R s m args below meth c H locs cells slots (mj_Z g Post below s (cells + kc) (slots + ks)) (F0 m S.1 ls (S.2.2.1.map (mj_tr g.2.2.2.1 g.2.2.1.heap.size)))
section MJ
variable {g : mj_G} {Y : mj_Y} {d kc ks pc : Nat} {lv : mj_L} {st : List mj_V} {M : mj_M} {Post : mj_O → mj_M → Prop}
theorem mj_r_iconst {n x : Int} (hd : decode Y.2.2.1 pc = .ok (.iconst n, 1)) (hv : Int32.ofInt n = Int32.ofInt x) (k : mj_J g Y d kc ks (pc + 1, lv, .inl x :: st, M) Post) : mj_J g Y d kc ks (pc, lv, st, M) Post := by
  intro hG p e R s m args below meth c H ls locs cells slots hK
  have h := k hG p e R s m args below meth c H ls locs cells slots hK
  exact lv_iconst hK.1.1 hK.1.2.1 hd hv h
theorem mj_r_bipush {n x : Int} (hd : decode Y.2.2.1 pc = .ok (.bipush n, 2)) (hv : (Int8.ofInt n).toInt32 = Int32.ofInt x) (k : mj_J g Y d kc ks (pc + 2, lv, .inl x :: st, M) Post) : mj_J g Y d kc ks (pc, lv, st, M) Post := by
  intro hG p e R s m args below meth c H ls locs cells slots hK
  have h := k hG p e R s m args below meth c H ls locs cells slots hK
  exact lv_bipush hK.1.1 hK.1.2.1 hd hv h
theorem mj_r_sipush {n x : Int} (hd : decode Y.2.2.1 pc = .ok (.sipush n, 3)) (hv : (Int16.ofInt n).toInt32 = Int32.ofInt x) (k : mj_J g Y d kc ks (pc + 3, lv, .inl x :: st, M) Post) : mj_J g Y d kc ks (pc, lv, st, M) Post := by
  intro hG p e R s m args below meth c H ls locs cells slots hK
  have h := k hG p e R s m args below meth c H ls locs cells slots hK
  exact lv_sipush hK.1.1 hK.1.2.1 hd hv h
theorem mj_r_lconst {n : Fin 2} {x : Int} (hd : decode Y.2.2.1 pc = .ok (.lconst n, 1)) (hv : Int64.ofNat (n : Nat) = Int64.ofInt x) (k : mj_J g Y d kc ks (pc + 1, lv, .inr (.inl x) :: st, M) Post) : mj_J g Y d kc ks (pc, lv, st, M) Post := by
  intro hG p e R s m args below meth c H ls locs cells slots hK
  have h := k hG p e R s m args below meth c H ls locs cells slots hK
  exact lv_lconst hK.1.1 hK.1.2.1 hd hv h
theorem mj_r_ldc {n : Nat} {x : Int} (hd : decode Y.2.2.1 pc = .ok (.ldc n, 2)) (hw : Cond.constant Y.1 n (Int32.ofInt x) ∈ mj_tbl) (k : mj_J g Y d kc ks (pc + 2, lv, .inl x :: st, M) Post) : mj_J g Y d kc ks (pc, lv, st, M) Post := by
  intro hG p e R s m args below meth c H ls locs cells slots hK
  have h := k hG p e R s m args below meth c H ls locs cells slots hK
  exact lv_ldc hK.1.1 hK.1.2.1 hK.1.2.2.2.1 (hK.1.2.2.2.2.1 _ hw) hd h
theorem mj_r_ldc_w {n : Nat} {x : Int} (hd : decode Y.2.2.1 pc = .ok (.ldc_w n, 3)) (hw : Cond.constant Y.1 n (Int32.ofInt x) ∈ mj_tbl) (k : mj_J g Y d kc ks (pc + 3, lv, .inl x :: st, M) Post) : mj_J g Y d kc ks (pc, lv, st, M) Post := by
  intro hG p e R s m args below meth c H ls locs cells slots hK
  have h := k hG p e R s m args below meth c H ls locs cells slots hK
  exact lv_ldcw hK.1.1 hK.1.2.1 hK.1.2.2.2.1 (hK.1.2.2.2.2.1 _ hw) hd h
theorem mj_r_ldc2_w {n : Nat} {x : Int} (hd : decode Y.2.2.1 pc = .ok (.ldc2_w n, 3)) (hw : Cond.constantLong Y.1 n (Int64.ofInt x) ∈ mj_tbl) (k : mj_J g Y d kc ks (pc + 3, lv, .inr (.inl x) :: st, M) Post) : mj_J g Y d kc ks (pc, lv, st, M) Post := by
  intro hG p e R s m args below meth c H ls locs cells slots hK
  have h := k hG p e R s m args below meth c H ls locs cells slots hK
  exact lv_ldc2 hK.1.1 hK.1.2.1 hK.1.2.2.2.1 (hK.1.2.2.2.2.1 _ hw) hd h
theorem mj_r_iload {i : Nat} {x : Int} (hd : decode Y.2.2.1 pc = .ok (.iload i, 2)) (hl : lv[i]? = some (some (.inl x))) (k : mj_J g Y d kc ks (pc + 2, lv, .inl x :: st, M) Post) : mj_J g Y d kc ks (pc, lv, st, M) Post := by
  intro hG p e R s m args below meth c H ls locs cells slots hK
  have h := k hG p e R s m args below meth c H ls locs cells slots hK
  exact lv_iload hK.1.1 hK.1.2.1 hd (hK.2.2.2.2.1.1.2.2 i _ hl) h
theorem mj_r_iload_n {i : Fin 4} {x : Int} (hd : decode Y.2.2.1 pc = .ok (.iload_n i, 1)) (hl : lv[(i : Nat)]? = some (some (.inl x))) (k : mj_J g Y d kc ks (pc + 1, lv, .inl x :: st, M) Post) : mj_J g Y d kc ks (pc, lv, st, M) Post := by
  intro hG p e R s m args below meth c H ls locs cells slots hK
  have h := k hG p e R s m args below meth c H ls locs cells slots hK
  exact lv_iload_n hK.1.1 hK.1.2.1 hd rfl (hK.2.2.2.2.1.1.2.2 i _ hl) h
theorem mj_r_lload {i : Nat} {x : Int} (hd : decode Y.2.2.1 pc = .ok (.lload i, 2)) (hl : lv[i]? = some (some (.inr (.inl x)))) (k : mj_J g Y d kc ks (pc + 2, lv, .inr (.inl x) :: st, M) Post) : mj_J g Y d kc ks (pc, lv, st, M) Post := by
  intro hG p e R s m args below meth c H ls locs cells slots hK
  have h := k hG p e R s m args below meth c H ls locs cells slots hK
  exact lv_lload hK.1.1 hK.1.2.1 hd (hK.2.2.2.2.1.1.2.2 i _ hl) h
theorem mj_r_lload_n {i : Fin 4} {x : Int} (hd : decode Y.2.2.1 pc = .ok (.lload_n i, 1)) (hl : lv[(i : Nat)]? = some (some (.inr (.inl x)))) (k : mj_J g Y d kc ks (pc + 1, lv, .inr (.inl x) :: st, M) Post) : mj_J g Y d kc ks (pc, lv, st, M) Post := by
  intro hG p e R s m args below meth c H ls locs cells slots hK
  have h := k hG p e R s m args below meth c H ls locs cells slots hK
  exact lv_lload_n hK.1.1 hK.1.2.1 hd rfl (hK.2.2.2.2.1.1.2.2 i _ hl) h
theorem mj_r_aload {i : Nat} {r : Nat × Nat} (hd : decode Y.2.2.1 pc = .ok (.aload i, 2)) (hl : lv[i]? = some (some (.inr (.inr (.inl (some r)))))) (k : mj_J g Y d kc ks (pc + 2, lv, .inr (.inr (.inl (some r))) :: st, M) Post) : mj_J g Y d kc ks (pc, lv, st, M) Post := by
  intro hG p e R s m args below meth c H ls locs cells slots hK
  have h := k hG p e R s m args below meth c H ls locs cells slots hK
  exact lv_aload hK.1.1 hK.1.2.1 hd (hK.2.2.2.2.1.1.2.2 i _ hl) h
theorem mj_r_aload_n {i : Fin 4} {r : Nat × Nat} (hd : decode Y.2.2.1 pc = .ok (.aload_n i, 1)) (hl : lv[(i : Nat)]? = some (some (.inr (.inr (.inl (some r)))))) (k : mj_J g Y d kc ks (pc + 1, lv, .inr (.inr (.inl (some r))) :: st, M) Post) : mj_J g Y d kc ks (pc, lv, st, M) Post := by
  intro hG p e R s m args below meth c H ls locs cells slots hK
  have h := k hG p e R s m args below meth c H ls locs cells slots hK
  exact lv_aload_n hK.1.1 hK.1.2.1 hd rfl (hK.2.2.2.2.1.1.2.2 i _ hl) h
theorem mj_r_aloadS {i : Nat} {u : Unit} (hd : decode Y.2.2.1 pc = .ok (.aload i, 2)) (hl : lv[i]? = some (some (.inr (.inr (.inr u))))) (k : mj_J g Y d kc ks (pc + 2, lv, .inr (.inr (.inr u)) :: st, M) Post) : mj_J g Y d kc ks (pc, lv, st, M) Post := by
  intro hG p e R s m args below meth c H ls locs cells slots hK
  have h := k hG p e R s m args below meth c H ls locs cells slots hK
  exact lv_aload hK.1.1 hK.1.2.1 hd (hK.2.2.2.2.1.1.2.2 i _ hl) h
theorem mj_r_aload_nS {i : Fin 4} {u : Unit} (hd : decode Y.2.2.1 pc = .ok (.aload_n i, 1)) (hl : lv[(i : Nat)]? = some (some (.inr (.inr (.inr u))))) (k : mj_J g Y d kc ks (pc + 1, lv, .inr (.inr (.inr u)) :: st, M) Post) : mj_J g Y d kc ks (pc, lv, st, M) Post := by
  intro hG p e R s m args below meth c H ls locs cells slots hK
  have h := k hG p e R s m args below meth c H ls locs cells slots hK
  exact lv_aload_n hK.1.1 hK.1.2.1 hd rfl (hK.2.2.2.2.1.1.2.2 i _ hl) h
/-- the same standing with other locals -/
theorem mj_K.loc {lv' : mj_L} {p : Program} {R : Room} {s : State} {m : MethodId} {args : Array Value} {meth : Method} {c : Code} {H : Heap} {ls ls' : Array Slot} {locs : List Loc} {cells slots : Nat} (hK : mj_K g Y d kc ks lv M p R s m args meth c H ls locs cells slots) (h : mj_ls g.2.2.2.1 g.2.2.1.heap.size ls' lv') (hl : lv'.length = lv.length) : mj_K g Y d kc ks lv' M p R s m args meth c H ls' locs cells slots :=
  ⟨hK.1, hK.2.1, hK.2.2.1, hK.2.2.2.1, ⟨h, hl.trans hK.2.2.2.2.1.2⟩, hK.2.2.2.2.2⟩
theorem mj_st1_len (lv : mj_L) (i : Nat) (w : mj_V) : (mj_st1 lv i w).length = lv.length := by rw [mj_st1, List.length_set, mj_clr_len]
theorem mj_st2_len (lv : mj_L) (i : Nat) (w : mj_V) : (mj_st2 lv i w).length = lv.length := by rw [mj_st2, List.length_set, List.length_set, mj_clr_len]
theorem mj_r_istore {i : Nat} {x : Int} (hd : decode Y.2.2.1 pc = .ok (.istore i, 2)) (hi0 : Nat.blt i lv.length = true) (k : mj_J g Y d kc ks (pc + 2, mj_st1 lv i (.inl x), st, M) Post) : mj_J g Y d kc ks (pc, lv, .inl x :: st, M) Post := by
  intro hG p e R s m args below meth c H ls locs cells slots hK
  have hi := Nat.blt_eq.mp hi0
  refine lv_istore hK.1.1 hK.1.2.1 hd (mj_has hK.2.2.2.2.1.1) hi rfl fun ls2 h2 => ?_
  exact k hG p e R s m args below meth c H ls2 locs cells slots (hK.loc (mj_ls_st1 hi h2) (mj_st1_len _ _ _))
theorem mj_r_istore_n {i : Fin 4} {x : Int} (hd : decode Y.2.2.1 pc = .ok (.istore_n i, 1)) (hi0 : Nat.blt (i : Nat) lv.length = true) (k : mj_J g Y d kc ks (pc + 1, mj_st1 lv (i : Nat) (.inl x), st, M) Post) : mj_J g Y d kc ks (pc, lv, .inl x :: st, M) Post := by
  intro hG p e R s m args below meth c H ls locs cells slots hK
  have hi := Nat.blt_eq.mp hi0
  refine lv_istore_n hK.1.1 hK.1.2.1 hd rfl (mj_has hK.2.2.2.2.1.1) hi rfl fun ls2 h2 => ?_
  exact k hG p e R s m args below meth c H ls2 locs cells slots (hK.loc (mj_ls_st1 hi h2) (mj_st1_len _ _ _))
theorem mj_r_lstore {i : Nat} {x : Int} (hd : decode Y.2.2.1 pc = .ok (.lstore i, 2)) (hi0 : Nat.blt (i + 1) lv.length = true) (k : mj_J g Y d kc ks (pc + 2, mj_st2 lv i (.inr (.inl x)), st, M) Post) : mj_J g Y d kc ks (pc, lv, .inr (.inl x) :: st, M) Post := by
  intro hG p e R s m args below meth c H ls locs cells slots hK
  have hi := Nat.blt_eq.mp hi0
  refine lv_lstore hK.1.1 hK.1.2.1 hd (mj_has hK.2.2.2.2.1.1) hi rfl fun ls2 h2 => ?_
  exact k hG p e R s m args below meth c H ls2 locs cells slots (hK.loc (mj_ls_st2 hi h2) (mj_st2_len _ _ _))
theorem mj_r_lstore_n {i : Fin 4} {x : Int} (hd : decode Y.2.2.1 pc = .ok (.lstore_n i, 1)) (hi0 : Nat.blt ((i : Nat) + 1) lv.length = true) (k : mj_J g Y d kc ks (pc + 1, mj_st2 lv (i : Nat) (.inr (.inl x)), st, M) Post) : mj_J g Y d kc ks (pc, lv, .inr (.inl x) :: st, M) Post := by
  intro hG p e R s m args below meth c H ls locs cells slots hK
  have hi := Nat.blt_eq.mp hi0
  refine lv_lstore_n hK.1.1 hK.1.2.1 hd rfl (mj_has hK.2.2.2.2.1.1) hi rfl fun ls2 h2 => ?_
  exact k hG p e R s m args below meth c H ls2 locs cells slots (hK.loc (mj_ls_st2 hi h2) (mj_st2_len _ _ _))
theorem mj_r_astore {i : Nat} {r : Nat × Nat} (hd : decode Y.2.2.1 pc = .ok (.astore i, 2)) (hi0 : Nat.blt i lv.length = true) (k : mj_J g Y d kc ks (pc + 2, mj_st1 lv i (.inr (.inr (.inl (some r)))), st, M) Post) : mj_J g Y d kc ks (pc, lv, .inr (.inr (.inl (some r))) :: st, M) Post := by
  intro hG p e R s m args below meth c H ls locs cells slots hK
  have hi := Nat.blt_eq.mp hi0
  refine lv_astore hK.1.1 hK.1.2.1 hd (mj_has hK.2.2.2.2.1.1) hi rfl fun ls2 h2 => ?_
  exact k hG p e R s m args below meth c H ls2 locs cells slots (hK.loc (mj_ls_st1 hi h2) (mj_st1_len _ _ _))
theorem mj_r_astore_n {i : Fin 4} {r : Nat × Nat} (hd : decode Y.2.2.1 pc = .ok (.astore_n i, 1)) (hi0 : Nat.blt (i : Nat) lv.length = true) (k : mj_J g Y d kc ks (pc + 1, mj_st1 lv (i : Nat) (.inr (.inr (.inl (some r)))), st, M) Post) : mj_J g Y d kc ks (pc, lv, .inr (.inr (.inl (some r))) :: st, M) Post := by
  intro hG p e R s m args below meth c H ls locs cells slots hK
  have hi := Nat.blt_eq.mp hi0
  refine lv_astore_n hK.1.1 hK.1.2.1 hd rfl (mj_has hK.2.2.2.2.1.1) hi rfl fun ls2 h2 => ?_
  exact k hG p e R s m args below meth c H ls2 locs cells slots (hK.loc (mj_ls_st1 hi h2) (mj_st1_len _ _ _))
theorem mj_r_astoreS {i : Nat} {u : Unit} (hd : decode Y.2.2.1 pc = .ok (.astore i, 2)) (hi0 : Nat.blt i lv.length = true) (k : mj_J g Y d kc ks (pc + 2, mj_st1 lv i (.inr (.inr (.inr u))), st, M) Post) : mj_J g Y d kc ks (pc, lv, .inr (.inr (.inr u)) :: st, M) Post := by
  intro hG p e R s m args below meth c H ls locs cells slots hK
  have hi := Nat.blt_eq.mp hi0
  refine lv_astore hK.1.1 hK.1.2.1 hd (mj_has hK.2.2.2.2.1.1) hi rfl fun ls2 h2 => ?_
  exact k hG p e R s m args below meth c H ls2 locs cells slots (hK.loc (mj_ls_st1 hi h2) (mj_st1_len _ _ _))
theorem mj_r_astoreS_n {i : Fin 4} {u : Unit} (hd : decode Y.2.2.1 pc = .ok (.astore_n i, 1)) (hi0 : Nat.blt (i : Nat) lv.length = true) (k : mj_J g Y d kc ks (pc + 1, mj_st1 lv (i : Nat) (.inr (.inr (.inr u))), st, M) Post) : mj_J g Y d kc ks (pc, lv, .inr (.inr (.inr u)) :: st, M) Post := by
  intro hG p e R s m args below meth c H ls locs cells slots hK
  have hi := Nat.blt_eq.mp hi0
  refine lv_astore_n hK.1.1 hK.1.2.1 hd rfl (mj_has hK.2.2.2.2.1.1) hi rfl fun ls2 h2 => ?_
  exact k hG p e R s m args below meth c H ls2 locs cells slots (hK.loc (mj_ls_st1 hi h2) (mj_st1_len _ _ _))
theorem mj_r_iinc {i : Nat} {n x : Int} (hd : decode Y.2.2.1 pc = .ok (.iinc i n, 3)) (hl : lv[i]? = some (some (.inl x))) (k : mj_J g Y d kc ks (pc + 3, mj_st1 lv i (.inl (x + n)), st, M) Post) : mj_J g Y d kc ks (pc, lv, st, M) Post := by
  intro hG p e R s m args below meth c H ls locs cells slots hK
  have hi : i < lv.length := (List.getElem?_eq_some_iff.mp hl).1
  obtain ⟨j, hj⟩ := List.getElem?_of_mem (mj_pr_in (b := g.2.2.2.1) (z := g.2.2.1.heap.size) hl)
  refine lv_iinc hK.1.1 hK.1.2.1 hd (mj_has hK.2.2.2.2.1.1) hj (v := Int32.ofInt (x + n)) (by rw [Int32.ofInt_add]) hi rfl fun ls2 h2 => ?_
  exact k hG p e R s m args below meth c H ls2 locs cells slots (hK.loc (mj_ls_st1 (w := .inl (x + n)) hi h2) (mj_st1_len _ _ _))
theorem mj_r_iadd {x y : Int} (hd : decode Y.2.2.1 pc = .ok (.iadd, 1)) (k : mj_J g Y d kc ks (pc + 1, lv, .inl (x + y) :: st, M) Post) : mj_J g Y d kc ks (pc, lv, .inl y :: .inl x :: st, M) Post := by
  intro hG p e R s m args below meth c H ls locs cells slots hK
  have h := k hG p e R s m args below meth c H ls locs cells slots hK
  exact lv_iadd hK.1.1 hK.1.2.1 hd (by rw [← Int32.ofInt_add]; exact h)
theorem mj_r_isub {x y : Int} (hd : decode Y.2.2.1 pc = .ok (.isub, 1)) (k : mj_J g Y d kc ks (pc + 1, lv, .inl (x - y) :: st, M) Post) : mj_J g Y d kc ks (pc, lv, .inl y :: .inl x :: st, M) Post := by
  intro hG p e R s m args below meth c H ls locs cells slots hK
  have h := k hG p e R s m args below meth c H ls locs cells slots hK
  exact lv_isub hK.1.1 hK.1.2.1 hd (by rw [← Int32.ofInt_sub]; exact h)
theorem mj_r_imul {x y : Int} (hd : decode Y.2.2.1 pc = .ok (.imul, 1)) (k : mj_J g Y d kc ks (pc + 1, lv, .inl (x * y) :: st, M) Post) : mj_J g Y d kc ks (pc, lv, .inl y :: .inl x :: st, M) Post := by
  intro hG p e R s m args below meth c H ls locs cells slots hK
  have h := k hG p e R s m args below meth c H ls locs cells slots hK
  exact lv_imul hK.1.1 hK.1.2.1 hd (by rw [← Int32.ofInt_mul]; exact h)
theorem mj_r_ladd {x y : Int} (hd : decode Y.2.2.1 pc = .ok (.ladd, 1)) (k : mj_J g Y d kc ks (pc + 1, lv, .inr (.inl (x + y)) :: st, M) Post) : mj_J g Y d kc ks (pc, lv, .inr (.inl y) :: .inr (.inl x) :: st, M) Post := by
  intro hG p e R s m args below meth c H ls locs cells slots hK
  have h := k hG p e R s m args below meth c H ls locs cells slots hK
  exact lv_ladd hK.1.1 hK.1.2.1 hd (by rw [← Int64.ofInt_add]; exact h)
theorem mj_r_lsub {x y : Int} (hd : decode Y.2.2.1 pc = .ok (.lsub, 1)) (k : mj_J g Y d kc ks (pc + 1, lv, .inr (.inl (x - y)) :: st, M) Post) : mj_J g Y d kc ks (pc, lv, .inr (.inl y) :: .inr (.inl x) :: st, M) Post := by
  intro hG p e R s m args below meth c H ls locs cells slots hK
  have h := k hG p e R s m args below meth c H ls locs cells slots hK
  exact lv_lsub hK.1.1 hK.1.2.1 hd (by rw [← Int64.ofInt_sub]; exact h)
theorem mj_r_lmul {x y : Int} (hd : decode Y.2.2.1 pc = .ok (.lmul, 1)) (k : mj_J g Y d kc ks (pc + 1, lv, .inr (.inl (x * y)) :: st, M) Post) : mj_J g Y d kc ks (pc, lv, .inr (.inl y) :: .inr (.inl x) :: st, M) Post := by
  intro hG p e R s m args below meth c H ls locs cells slots hK
  have h := k hG p e R s m args below meth c H ls locs cells slots hK
  exact lv_lmul hK.1.1 hK.1.2.1 hd (by rw [← Int64.ofInt_mul]; exact h)
theorem mj_r_ishl {x y : Int} (hd : decode Y.2.2.1 pc = .ok (.ishl, 1)) (k : mj_J g Y d kc ks (pc + 1, lv, .inl (mj_shl x y) :: st, M) Post) : mj_J g Y d kc ks (pc, lv, .inl y :: .inl x :: st, M) Post := by
  intro hG p e R s m args below meth c H ls locs cells slots hK
  have h := k hG p e R s m args below meth c H ls locs cells slots hK
  have e1 : Int32.ofInt (mj_shl x y) = Int32.ofInt x <<< (Int32.ofInt y &&& 31) := Int32.ofInt_toInt _
  exact lv_ishl hK.1.1 hK.1.2.1 hd (by rw [← e1]; exact h)
theorem mj_r_ishr {x y : Int} (hd : decode Y.2.2.1 pc = .ok (.ishr, 1)) (k : mj_J g Y d kc ks (pc + 1, lv, .inl (mj_shr x y) :: st, M) Post) : mj_J g Y d kc ks (pc, lv, .inl y :: .inl x :: st, M) Post := by
  intro hG p e R s m args below meth c H ls locs cells slots hK
  have h := k hG p e R s m args below meth c H ls locs cells slots hK
  have e1 : Int32.ofInt (mj_shr x y) = Int32.ofInt x >>> (Int32.ofInt y &&& 31) := Int32.ofInt_toInt _
  exact lv_ishr hK.1.1 hK.1.2.1 hd (by rw [← e1]; exact h)
theorem mj_r_iand {x y : Int} (hd : decode Y.2.2.1 pc = .ok (.iand, 1)) (k : mj_J g Y d kc ks (pc + 1, lv, .inl (mj_and x y) :: st, M) Post) : mj_J g Y d kc ks (pc, lv, .inl y :: .inl x :: st, M) Post := by
  intro hG p e R s m args below meth c H ls locs cells slots hK
  have h := k hG p e R s m args below meth c H ls locs cells slots hK
  have e1 : Int32.ofInt (mj_and x y) = Int32.ofInt x &&& Int32.ofInt y := Int32.ofInt_toInt _
  exact lv_iand hK.1.1 hK.1.2.1 hd (by rw [← e1]; exact h)
theorem mj_r_ior {x y : Int} (hd : decode Y.2.2.1 pc = .ok (.ior, 1)) (k : mj_J g Y d kc ks (pc + 1, lv, .inl (mj_ior x y) :: st, M) Post) : mj_J g Y d kc ks (pc, lv, .inl y :: .inl x :: st, M) Post := by
  intro hG p e R s m args below meth c H ls locs cells slots hK
  have h := k hG p e R s m args below meth c H ls locs cells slots hK
  have e1 : Int32.ofInt (mj_ior x y) = Int32.ofInt x ||| Int32.ofInt y := Int32.ofInt_toInt _
  exact lv_ior hK.1.1 hK.1.2.1 hd (by rw [← e1]; exact h)
theorem mj_r_iushr {x y : Int} (hd : decode Y.2.2.1 pc = .ok (.iushr, 1)) (k : mj_J g Y d kc ks (pc + 1, lv, .inl (mj_ush x y) :: st, M) Post) : mj_J g Y d kc ks (pc, lv, .inl y :: .inl x :: st, M) Post := by
  intro hG p e R s m args below meth c H ls locs cells slots hK
  have h := k hG p e R s m args below meth c H ls locs cells slots hK
  exact lv_iushr hK.1.1 hK.1.2.1 hd (v := Int32.ofInt (mj_ush x y)) (by rw [mj_ush, Int32.ofInt_toInt]) h
theorem mj_r_land {x y : Int} (hd : decode Y.2.2.1 pc = .ok (.land, 1)) (k : mj_J g Y d kc ks (pc + 1, lv, .inr (.inl (mj_lan x y)) :: st, M) Post) : mj_J g Y d kc ks (pc, lv, .inr (.inl y) :: .inr (.inl x) :: st, M) Post := by
  intro hG p e R s m args below meth c H ls locs cells slots hK
  have h := k hG p e R s m args below meth c H ls locs cells slots hK
  have e1 : Int64.ofInt (mj_lan x y) = Int64.ofInt x &&& Int64.ofInt y := Int64.ofInt_toInt _
  exact lv_land hK.1.1 hK.1.2.1 hd (by rw [← e1]; exact h)
theorem mj_r_lor {x y : Int} (hd : decode Y.2.2.1 pc = .ok (.lor, 1)) (k : mj_J g Y d kc ks (pc + 1, lv, .inr (.inl (mj_lor x y)) :: st, M) Post) : mj_J g Y d kc ks (pc, lv, .inr (.inl y) :: .inr (.inl x) :: st, M) Post := by
  intro hG p e R s m args below meth c H ls locs cells slots hK
  have h := k hG p e R s m args below meth c H ls locs cells slots hK
  have e1 : Int64.ofInt (mj_lor x y) = Int64.ofInt x ||| Int64.ofInt y := Int64.ofInt_toInt _
  exact lv_lor hK.1.1 hK.1.2.1 hd (by rw [← e1]; exact h)
theorem mj_r_lshl {x y : Int} (hd : decode Y.2.2.1 pc = .ok (.lshl, 1)) (k : mj_J g Y d kc ks (pc + 1, lv, .inr (.inl (mj_lsh x y)) :: st, M) Post) : mj_J g Y d kc ks (pc, lv, .inl y :: .inr (.inl x) :: st, M) Post := by
  intro hG p e R s m args below meth c H ls locs cells slots hK
  have h := k hG p e R s m args below meth c H ls locs cells slots hK
  exact lv_lshl hK.1.1 hK.1.2.1 hd (v := Int64.ofInt (mj_lsh x y)) (by rw [mj_lsh, Int64.ofInt_toInt]) h
theorem mj_r_i2l {x : Int} (hd : decode Y.2.2.1 pc = .ok (.i2l, 1)) (hx : mj_i x) (k : mj_J g Y d kc ks (pc + 1, lv, .inr (.inl x) :: st, M) Post) : mj_J g Y d kc ks (pc, lv, .inl x :: st, M) Post := by
  intro hG p e R s m args below meth c H ls locs cells slots hK
  have h := k hG p e R s m args below meth c H ls locs cells slots hK
  exact lv_i2l hK.1.1 hK.1.2.1 hd (v := Int64.ofInt x) (by rw [← Int64.ofInt_toInt (Int32.ofInt x).toInt64, Int32.toInt_toInt64, mj_ti hx]) h
theorem mj_div {x y : Int} (hx : mj_i x) (hy : mj_i y) (h0 : 0 ≤ x) (h1 : 0 < y) : Int32.ofInt x / Int32.ofInt y = Int32.ofInt (x / y) := by
  rw [← Int32.toInt_inj, Int32.toInt_div_of_ne_right _ _ (fun q => by rw [← Int32.toInt_inj, mj_ti hy] at q; have : y = -1 := q; omega), mj_ti hx, mj_ti hy, Int.tdiv_eq_ediv_of_nonneg h0, mj_ti]
  have := Int.ediv_le_self y h0
  have := Int.ediv_nonneg h0 (Int.le_of_lt h1)
  unfold mj_i at *
  omega
theorem mj_rem {x y : Int} (hx : mj_i x) (hy : mj_i y) (h0 : 0 ≤ x) (h1 : 0 < y) : Int32.ofInt x - Int32.ofInt x / Int32.ofInt y * Int32.ofInt y = Int32.ofInt (x % y) := by
  rw [mj_div hx hy h0 h1, ← Int32.ofInt_mul, ← Int32.ofInt_sub]
  congr 1
  have := Int.emod_add_mul_ediv x y
  rw [Int.mul_comm] at this
  omega
theorem mj_ldiv {x y : Int} (hx : mj_l x) (hy : mj_l y) (h0 : 0 ≤ x) (h1 : 0 < y) : Int64.ofInt x / Int64.ofInt y = Int64.ofInt (x / y) := by
  rw [← Int64.toInt_inj, Int64.toInt_div_of_ne_right _ _ (fun q => by rw [← Int64.toInt_inj, mj_tl hy] at q; have : y = -1 := q; omega), mj_tl hx, mj_tl hy, Int.tdiv_eq_ediv_of_nonneg h0, mj_tl]
  have := Int.ediv_le_self y h0
  have := Int.ediv_nonneg h0 (Int.le_of_lt h1)
  unfold mj_l at *
  omega
theorem mj_lrem {x y : Int} (hx : mj_l x) (hy : mj_l y) (h0 : 0 ≤ x) (h1 : 0 < y) : Int64.ofInt x - Int64.ofInt x / Int64.ofInt y * Int64.ofInt y = Int64.ofInt (x % y) := by
  rw [mj_ldiv hx hy h0 h1, ← Int64.ofInt_mul, ← Int64.ofInt_sub]
  congr 1
  have := Int.emod_add_mul_ediv x y
  rw [Int.mul_comm] at this
  omega
theorem mj_ne0 {y : Int} (hy : mj_i y) (h : 0 < y) : ¬ Int32.ofInt y = 0 := fun q => by
  have q2 : Int32.ofInt y = Int32.ofInt 0 := q
  rw [mj_eq hy mj_i0] at q2
  omega
theorem mj_lne0 {y : Int} (hy : mj_l y) (h : 0 < y) : ¬ Int64.ofInt y = 0 := fun q => by
  rw [← Int64.toInt_inj, mj_tl hy] at q
  have : y = 0 := q
  omega
theorem mj_r_idiv {x y : Int} (hd : decode Y.2.2.1 pc = .ok (.idiv, 1)) (hx : mj_i x) (hy : mj_i y) (h0 : 0 ≤ x) (h1 : 0 < y) (k : mj_J g Y d kc ks (pc + 1, lv, .inl (x / y) :: st, M) Post) : mj_J g Y d kc ks (pc, lv, .inl y :: .inl x :: st, M) Post := by
  intro hG p e R s m args below meth c H ls locs cells slots hK
  have h := k hG p e R s m args below meth c H ls locs cells slots hK
  exact lv_idiv hK.1.1 hK.1.2.1 hd (mj_ne0 hy h1) (by rw [mj_div hx hy h0 h1]; exact h)
theorem mj_r_irem {x y : Int} (hd : decode Y.2.2.1 pc = .ok (.irem, 1)) (hx : mj_i x) (hy : mj_i y) (h0 : 0 ≤ x) (h1 : 0 < y) (k : mj_J g Y d kc ks (pc + 1, lv, .inl (x % y) :: st, M) Post) : mj_J g Y d kc ks (pc, lv, .inl y :: .inl x :: st, M) Post := by
  intro hG p e R s m args below meth c H ls locs cells slots hK
  have h := k hG p e R s m args below meth c H ls locs cells slots hK
  exact lv_irem hK.1.1 hK.1.2.1 hd (mj_ne0 hy h1) (by rw [mj_rem hx hy h0 h1]; exact h)
theorem mj_r_ldiv {x y : Int} (hd : decode Y.2.2.1 pc = .ok (.ldiv, 1)) (hx : mj_l x) (hy : mj_l y) (h0 : 0 ≤ x) (h1 : 0 < y) (k : mj_J g Y d kc ks (pc + 1, lv, .inr (.inl (x / y)) :: st, M) Post) : mj_J g Y d kc ks (pc, lv, .inr (.inl y) :: .inr (.inl x) :: st, M) Post := by
  intro hG p e R s m args below meth c H ls locs cells slots hK
  have h := k hG p e R s m args below meth c H ls locs cells slots hK
  exact lv_ldiv hK.1.1 hK.1.2.1 hd (mj_lne0 hy h1) (by rw [mj_ldiv hx hy h0 h1]; exact h)
theorem mj_r_lrem {x y : Int} (hd : decode Y.2.2.1 pc = .ok (.lrem, 1)) (hx : mj_l x) (hy : mj_l y) (h0 : 0 ≤ x) (h1 : 0 < y) (k : mj_J g Y d kc ks (pc + 1, lv, .inr (.inl (x % y)) :: st, M) Post) : mj_J g Y d kc ks (pc, lv, .inr (.inl y) :: .inr (.inl x) :: st, M) Post := by
  intro hG p e R s m args below meth c H ls locs cells slots hK
  have h := k hG p e R s m args below meth c H ls locs cells slots hK
  exact lv_lrem hK.1.1 hK.1.2.1 hd (mj_lne0 hy h1) (by rw [mj_lrem hx hy h0 h1]; exact h)
theorem mj_cmp_of {x y : Int} (hx : mj_l x) (hy : mj_l y) : lg_cmp (Int64.ofInt x) (Int64.ofInt y) = Int32.ofInt (mj_cmp x y) := by
  have e1 : (Int64.ofInt x > Int64.ofInt y) ↔ y < x := by rw [gt_iff_lt, Int64.lt_iff_toInt_lt, mj_tl hx, mj_tl hy]
  have e2 : (Int64.ofInt x = Int64.ofInt y) ↔ x = y := by rw [← Int64.toInt_inj, mj_tl hx, mj_tl hy]
  unfold lg_cmp mj_cmp
  simp only [e1, e2]
  split
  · rfl
  · split <;> rfl
theorem mj_r_lcmp {x y : Int} (hd : decode Y.2.2.1 pc = .ok (.lcmp, 1)) (hx : mj_l x) (hy : mj_l y) (k : mj_J g Y d kc ks (pc + 1, lv, .inl (mj_cmp x y) :: st, M) Post) : mj_J g Y d kc ks (pc, lv, .inr (.inl y) :: .inr (.inl x) :: st, M) Post := by
  intro hG p e R s m args below meth c H ls locs cells slots hK
  have h := k hG p e R s m args below meth c H ls locs cells slots hK
  exact W.lcmp hK.1.1 hK.1.2.1 hd (by rw [mj_cmp_of hx hy]; exact h)
theorem mj_r_dup {w : mj_V} (hd : decode Y.2.2.1 pc = .ok (.dup, 1)) (hc : mj_cat w = 1) (k : mj_J g Y d kc ks (pc + 1, lv, w :: w :: st, M) Post) : mj_J g Y d kc ks (pc, lv, w :: st, M) Post := by
  intro hG p e R s m args below meth c H ls locs cells slots hK
  have h := k hG p e R s m args below meth c H ls locs cells slots hK
  exact lv_dup hK.1.1 hK.1.2.1 hd (by rw [mj_tr_cat]; exact hc) h
theorem mj_r_dup2 {w v : mj_V} (hd : decode Y.2.2.1 pc = .ok (.dup2, 1)) (hc : mj_cat w = 1) (hv : mj_cat v = 1) (k : mj_J g Y d kc ks (pc + 1, lv, w :: v :: w :: v :: st, M) Post) : mj_J g Y d kc ks (pc, lv, w :: v :: st, M) Post := by
  intro hG p e R s m args below meth c H ls locs cells slots hK
  have h := k hG p e R s m args below meth c H ls locs cells slots hK
  exact lv_dup2_11 hK.1.1 hK.1.2.1 hd (by rw [mj_tr_cat]; exact hc) (by rw [mj_tr_cat]; exact hv) h
theorem mj_r_goto {off : Int} {tgt : Nat} (hd : decode Y.2.2.1 pc = .ok (.goto off, 3)) (ht : (pc : Int) + off = (tgt : Int)) (k : mj_J g Y d kc ks (tgt, lv, st, M) Post) : mj_J g Y d kc ks (pc, lv, st, M) Post := by
  intro hG p e R s m args below meth c H ls locs cells slots hK
  exact lv_goto hK.1.1 hK.1.2.1 hd ht (k hG p e R s m args below meth c H ls locs cells slots hK)
theorem mj_r_icmp_eq {x y : Int} {off : Int} {tgt : Nat} (hd : decode Y.2.2.1 pc = .ok (.if_icmp .eq off, 3)) (ht : (pc : Int) + off = (tgt : Int)) (hx : mj_i x) (hy : mj_i y) (k : mj_J g Y d kc ks (if x = y then tgt else pc + 3, lv, st, M) Post) : mj_J g Y d kc ks (pc, lv, .inl y :: .inl x :: st, M) Post := by
  intro hG p e R s m args below meth c H ls locs cells slots hK
  have h := k hG p e R s m args below meth c H ls locs cells slots hK
  exact lv_icmp_eq hK.1.1 hK.1.2.1 hd ht (fun q => by
    have q2 : (Int32.ofInt x = Int32.ofInt y) := q
    rw [mj_eq hx hy] at q2
    have q3 : (x = y) := by omega
    simp only [if_pos q3] at h
    exact h)
    (fun q => by
    have q2 : ¬ (Int32.ofInt x = Int32.ofInt y) := q
    rw [mj_eq hx hy] at q2
    have q3 : ¬ (x = y) := by omega
    simp only [if_neg q3] at h
    exact h)
theorem mj_r_if_eq {x : Int} {off : Int} {tgt : Nat} (hd : decode Y.2.2.1 pc = .ok (.ifCond .eq off, 3)) (ht : (pc : Int) + off = (tgt : Int)) (hx : mj_i x) (k : mj_J g Y d kc ks (if x = 0 then tgt else pc + 3, lv, st, M) Post) : mj_J g Y d kc ks (pc, lv, .inl x :: st, M) Post := by
  intro hG p e R s m args below meth c H ls locs cells slots hK
  have h := k hG p e R s m args below meth c H ls locs cells slots hK
  exact lv_if_eq hK.1.1 hK.1.2.1 hd ht (fun q => by
    have q2 : (Int32.ofInt x = Int32.ofInt 0) := q
    rw [mj_eq hx mj_i0] at q2
    have q3 : (x = 0) := by omega
    simp only [if_pos q3] at h
    exact h)
    (fun q => by
    have q2 : ¬ (Int32.ofInt x = Int32.ofInt 0) := q
    rw [mj_eq hx mj_i0] at q2
    have q3 : ¬ (x = 0) := by omega
    simp only [if_neg q3] at h
    exact h)
theorem mj_r_icmp_ne {x y : Int} {off : Int} {tgt : Nat} (hd : decode Y.2.2.1 pc = .ok (.if_icmp .ne off, 3)) (ht : (pc : Int) + off = (tgt : Int)) (hx : mj_i x) (hy : mj_i y) (k : mj_J g Y d kc ks (if x = y then pc + 3 else tgt, lv, st, M) Post) : mj_J g Y d kc ks (pc, lv, .inl y :: .inl x :: st, M) Post := by
  intro hG p e R s m args below meth c H ls locs cells slots hK
  have h := k hG p e R s m args below meth c H ls locs cells slots hK
  exact lv_icmp_ne hK.1.1 hK.1.2.1 hd ht (fun q => by
    have q2 : ¬ (Int32.ofInt x = Int32.ofInt y) := q
    rw [mj_eq hx hy] at q2
    have q3 : ¬ (x = y) := by omega
    simp only [if_neg q3] at h
    exact h)
    (fun q => by
    have q2 : (Int32.ofInt x = Int32.ofInt y) := q
    rw [mj_eq hx hy] at q2
    have q3 : (x = y) := by omega
    simp only [if_pos q3] at h
    exact h)
theorem mj_r_if_ne {x : Int} {off : Int} {tgt : Nat} (hd : decode Y.2.2.1 pc = .ok (.ifCond .ne off, 3)) (ht : (pc : Int) + off = (tgt : Int)) (hx : mj_i x) (k : mj_J g Y d kc ks (if x = 0 then pc + 3 else tgt, lv, st, M) Post) : mj_J g Y d kc ks (pc, lv, .inl x :: st, M) Post := by
  intro hG p e R s m args below meth c H ls locs cells slots hK
  have h := k hG p e R s m args below meth c H ls locs cells slots hK
  exact lv_if_ne hK.1.1 hK.1.2.1 hd ht (fun q => by
    have q2 : ¬ (Int32.ofInt x = Int32.ofInt 0) := q
    rw [mj_eq hx mj_i0] at q2
    have q3 : ¬ (x = 0) := by omega
    simp only [if_neg q3] at h
    exact h)
    (fun q => by
    have q2 : (Int32.ofInt x = Int32.ofInt 0) := q
    rw [mj_eq hx mj_i0] at q2
    have q3 : (x = 0) := by omega
    simp only [if_pos q3] at h
    exact h)
theorem mj_r_icmp_lt {x y : Int} {off : Int} {tgt : Nat} (hd : decode Y.2.2.1 pc = .ok (.if_icmp .lt off, 3)) (ht : (pc : Int) + off = (tgt : Int)) (hx : mj_i x) (hy : mj_i y) (k : mj_J g Y d kc ks (if x < y then tgt else pc + 3, lv, st, M) Post) : mj_J g Y d kc ks (pc, lv, .inl y :: .inl x :: st, M) Post := by
  intro hG p e R s m args below meth c H ls locs cells slots hK
  have h := k hG p e R s m args below meth c H ls locs cells slots hK
  exact lv_icmp_lt hK.1.1 hK.1.2.1 hd ht (fun q => by
    have q2 : (Int32.ofInt x < Int32.ofInt y) := q
    rw [mj_lt hx hy] at q2
    have q3 : (x < y) := by omega
    simp only [if_pos q3] at h
    exact h)
    (fun q => by
    have q2 : ¬ (Int32.ofInt x < Int32.ofInt y) := q
    rw [mj_lt hx hy] at q2
    have q3 : ¬ (x < y) := by omega
    simp only [if_neg q3] at h
    exact h)
theorem mj_r_if_lt {x : Int} {off : Int} {tgt : Nat} (hd : decode Y.2.2.1 pc = .ok (.ifCond .lt off, 3)) (ht : (pc : Int) + off = (tgt : Int)) (hx : mj_i x) (k : mj_J g Y d kc ks (if x < 0 then tgt else pc + 3, lv, st, M) Post) : mj_J g Y d kc ks (pc, lv, .inl x :: st, M) Post := by
  intro hG p e R s m args below meth c H ls locs cells slots hK
  have h := k hG p e R s m args below meth c H ls locs cells slots hK
  exact lv_if_lt hK.1.1 hK.1.2.1 hd ht (fun q => by
    have q2 : (Int32.ofInt x < Int32.ofInt 0) := q
    rw [mj_lt hx mj_i0] at q2
    have q3 : (x < 0) := by omega
    simp only [if_pos q3] at h
    exact h)
    (fun q => by
    have q2 : ¬ (Int32.ofInt x < Int32.ofInt 0) := q
    rw [mj_lt hx mj_i0] at q2
    have q3 : ¬ (x < 0) := by omega
    simp only [if_neg q3] at h
    exact h)
theorem mj_r_icmp_ge {x y : Int} {off : Int} {tgt : Nat} (hd : decode Y.2.2.1 pc = .ok (.if_icmp .ge off, 3)) (ht : (pc : Int) + off = (tgt : Int)) (hx : mj_i x) (hy : mj_i y) (k : mj_J g Y d kc ks (if x < y then pc + 3 else tgt, lv, st, M) Post) : mj_J g Y d kc ks (pc, lv, .inl y :: .inl x :: st, M) Post := by
  intro hG p e R s m args below meth c H ls locs cells slots hK
  have h := k hG p e R s m args below meth c H ls locs cells slots hK
  exact lv_icmp_ge hK.1.1 hK.1.2.1 hd ht (fun q => by
    have q2 : (Int32.ofInt y ≤ Int32.ofInt x) := q
    rw [mj_le hy hx] at q2
    have q3 : ¬ (x < y) := by omega
    simp only [if_neg q3] at h
    exact h)
    (fun q => by
    have q2 : ¬ (Int32.ofInt y ≤ Int32.ofInt x) := q
    rw [mj_le hy hx] at q2
    have q3 : (x < y) := by omega
    simp only [if_pos q3] at h
    exact h)
theorem mj_r_if_ge {x : Int} {off : Int} {tgt : Nat} (hd : decode Y.2.2.1 pc = .ok (.ifCond .ge off, 3)) (ht : (pc : Int) + off = (tgt : Int)) (hx : mj_i x) (k : mj_J g Y d kc ks (if x < 0 then pc + 3 else tgt, lv, st, M) Post) : mj_J g Y d kc ks (pc, lv, .inl x :: st, M) Post := by
  intro hG p e R s m args below meth c H ls locs cells slots hK
  have h := k hG p e R s m args below meth c H ls locs cells slots hK
  exact lv_if_ge hK.1.1 hK.1.2.1 hd ht (fun q => by
    have q2 : (Int32.ofInt 0 ≤ Int32.ofInt x) := q
    rw [mj_le mj_i0 hx] at q2
    have q3 : ¬ (x < 0) := by omega
    simp only [if_neg q3] at h
    exact h)
    (fun q => by
    have q2 : ¬ (Int32.ofInt 0 ≤ Int32.ofInt x) := q
    rw [mj_le mj_i0 hx] at q2
    have q3 : (x < 0) := by omega
    simp only [if_pos q3] at h
    exact h)
theorem mj_r_icmp_gt {x y : Int} {off : Int} {tgt : Nat} (hd : decode Y.2.2.1 pc = .ok (.if_icmp .gt off, 3)) (ht : (pc : Int) + off = (tgt : Int)) (hx : mj_i x) (hy : mj_i y) (k : mj_J g Y d kc ks (if y < x then tgt else pc + 3, lv, st, M) Post) : mj_J g Y d kc ks (pc, lv, .inl y :: .inl x :: st, M) Post := by
  intro hG p e R s m args below meth c H ls locs cells slots hK
  have h := k hG p e R s m args below meth c H ls locs cells slots hK
  exact lv_icmp_gt hK.1.1 hK.1.2.1 hd ht (fun q => by
    have q2 : (Int32.ofInt y < Int32.ofInt x) := q
    rw [mj_lt hy hx] at q2
    have q3 : (y < x) := by omega
    simp only [if_pos q3] at h
    exact h)
    (fun q => by
    have q2 : ¬ (Int32.ofInt y < Int32.ofInt x) := q
    rw [mj_lt hy hx] at q2
    have q3 : ¬ (y < x) := by omega
    simp only [if_neg q3] at h
    exact h)
theorem mj_r_if_gt {x : Int} {off : Int} {tgt : Nat} (hd : decode Y.2.2.1 pc = .ok (.ifCond .gt off, 3)) (ht : (pc : Int) + off = (tgt : Int)) (hx : mj_i x) (k : mj_J g Y d kc ks (if 0 < x then tgt else pc + 3, lv, st, M) Post) : mj_J g Y d kc ks (pc, lv, .inl x :: st, M) Post := by
  intro hG p e R s m args below meth c H ls locs cells slots hK
  have h := k hG p e R s m args below meth c H ls locs cells slots hK
  exact lv_if_gt hK.1.1 hK.1.2.1 hd ht (fun q => by
    have q2 : (Int32.ofInt 0 < Int32.ofInt x) := q
    rw [mj_lt mj_i0 hx] at q2
    have q3 : (0 < x) := by omega
    simp only [if_pos q3] at h
    exact h)
    (fun q => by
    have q2 : ¬ (Int32.ofInt 0 < Int32.ofInt x) := q
    rw [mj_lt mj_i0 hx] at q2
    have q3 : ¬ (0 < x) := by omega
    simp only [if_neg q3] at h
    exact h)
theorem mj_r_icmp_le {x y : Int} {off : Int} {tgt : Nat} (hd : decode Y.2.2.1 pc = .ok (.if_icmp .le off, 3)) (ht : (pc : Int) + off = (tgt : Int)) (hx : mj_i x) (hy : mj_i y) (k : mj_J g Y d kc ks (if y < x then pc + 3 else tgt, lv, st, M) Post) : mj_J g Y d kc ks (pc, lv, .inl y :: .inl x :: st, M) Post := by
  intro hG p e R s m args below meth c H ls locs cells slots hK
  have h := k hG p e R s m args below meth c H ls locs cells slots hK
  exact lv_icmp_le hK.1.1 hK.1.2.1 hd ht (fun q => by
    have q2 : (Int32.ofInt x ≤ Int32.ofInt y) := q
    rw [mj_le hx hy] at q2
    have q3 : ¬ (y < x) := by omega
    simp only [if_neg q3] at h
    exact h)
    (fun q => by
    have q2 : ¬ (Int32.ofInt x ≤ Int32.ofInt y) := q
    rw [mj_le hx hy] at q2
    have q3 : (y < x) := by omega
    simp only [if_pos q3] at h
    exact h)
theorem mj_r_if_le {x : Int} {off : Int} {tgt : Nat} (hd : decode Y.2.2.1 pc = .ok (.ifCond .le off, 3)) (ht : (pc : Int) + off = (tgt : Int)) (hx : mj_i x) (k : mj_J g Y d kc ks (if 0 < x then pc + 3 else tgt, lv, st, M) Post) : mj_J g Y d kc ks (pc, lv, .inl x :: st, M) Post := by
  intro hG p e R s m args below meth c H ls locs cells slots hK
  have h := k hG p e R s m args below meth c H ls locs cells slots hK
  exact lv_if_le hK.1.1 hK.1.2.1 hd ht (fun q => by
    have q2 : (Int32.ofInt x ≤ Int32.ofInt 0) := q
    rw [mj_le hx mj_i0] at q2
    have q3 : ¬ (0 < x) := by omega
    simp only [if_neg q3] at h
    exact h)
    (fun q => by
    have q2 : ¬ (Int32.ofInt x ≤ Int32.ofInt 0) := q
    rw [mj_le hx mj_i0] at q2
    have q3 : (0 < x) := by omega
    simp only [if_pos q3] at h
    exact h)
theorem mj_r_table {dflt lo hi : Int} {offs : Array Int} {len : Nat} {x : Int} {tg : Nat → Nat} {td : Nat} (hd : decode Y.2.2.1 pc = .ok (.tableswitch dflt lo hi offs, len)) (hx : mj_i x) (h1 : (pc : Int) + dflt = (td : Int)) (h2 : ∀ j : Nat, (j : Int) ≤ hi - lo → ∃ off, offs[j]? = some off ∧ (pc : Int) + off = (tg j : Int)) (k : mj_J g Y d kc ks (if x < lo ∨ hi < x then td else tg (x - lo).toNat, lv, st, M) Post) : mj_J g Y d kc ks (pc, lv, .inl x :: st, M) Post := by
  intro hG p e R s m args below meth c H ls locs cells slots hK
  have h := k hG p e R s m args below meth c H ls locs cells slots hK
  by_cases q : x < lo ∨ hi < x
  · simp only [if_pos q] at h
    exact lv_tableOut hK.1.1 hK.1.2.1 hd (by rw [mj_ti hx]; exact q) h1 h
  · simp only [if_neg q] at h
    obtain ⟨off, e1, e2⟩ := h2 (x - lo).toNat (by omega)
    exact lv_tableIn hK.1.1 hK.1.2.1 hd (by rw [mj_ti hx]; omega) (by rw [mj_ti hx]; omega) (by rw [mj_ti hx]; exact e1) e2 h
end MJ
end
section
/-! ===== the small machine's memory: fields and elements ===== -/
theorem mj_arr.to {s0 : State} {H : Heap} {a : Nat} {ty : FieldType} {n : Nat} {f f' : Nat → Value} (h : mj_arr s0 H a ty n f) (e : ∀ j, j < n → f j = f' j) : mj_arr s0 H a ty n f' := by
  obtain ⟨c, h1, h2, h3, h4, h5⟩ := h
  exact ⟨c, h1, h2, h3, h4, fun j hj => by rw [← e j hj]; exact h5 j hj⟩
theorem mj_arr_set {s0 : State} {H1 : Heap} {a : Nat} {ty : FieldType} {n i : Nat} {f : Nat → Value} {c : Cell} (v : Value) (ha : s0.isArrayOf c ty) (hv : c.vm = .none) (hs : c.slots.size = n) (hf : ∀ j, j < n → c.slots[j]? = some (f j)) (h1 : H1[a]? = some (c.setSlot i v)) :
    mj_arr s0 H1 a ty n (fun j => if j = i then v else f j) := by
  refine ⟨_, h1, ha, hv, by rw [k2_slotsz]; exact hs, fun j hj => ?_⟩
  by_cases e : j = i
  · subst e
    rw [Cell.slots_setSlot_self _ (by rw [hs]; exact hj)]
    simp
  · rw [slot_ne _ _ (Ne.symm e), hf j hj]
    simp [e]
def mj_up (f : Nat → Int) (i : Nat) (v : Int) : Nat → Int := fun j => if j = i then v else f j
def mj_up2 (f : Nat → Nat → Int) (i j : Nat) (v : Int) : Nat → Nat → Int := fun a b => if a = i ∧ b = j then v else f a b
section MJM
variable {g : mj_G} {Y : mj_Y} {d kc ks pc : Nat} {lv : mj_L} {st : List mj_V} {M : mj_M} {Post : mj_O → mj_M → Prop}
/-- the same standing with one cell changed -/
theorem mj_K.mem {p : Program} {R : Room} {s : State} {m : MethodId} {args : Array Value} {meth : Method} {c : Code} {H H1 : Heap} {ls : Array Slot} {locs L : List Loc} {cells slots p0 : Nat} {c0 c1 : mj_C} (hK : mj_K g Y d kc ks lv M p R s m args meth c H ls locs cells slots) (hp : M[p0]? = some c0) (hz : H1.size = H.size)
    (ho : ∀ A : Nat, (A < g.2.2.1.heap.size + mj_o p0 ∨ g.2.2.1.heap.size + mj_o (p0 + 1) ≤ A) → H1[A]? = H[A]?) (hc : mj_cell g.2.1 g.2.2.1 g.2.2.2.1 g.2.2.1.heap.size p0 H1 c1) (hL : ∀ q ∈ L, g.2.2.1.heap.size ≤ q.base) : mj_K g Y d kc ks lv (M.set p0 c1) p R s m args meth c H1 ls (locs ++ L) cells slots := by
  refine ⟨hK.1, hK.2.1, hK.2.2.1.set hp hz ho hc, fun q hq => ?_, hK.2.2.2.2.1, fun q hq => ?_⟩
  · rw [ho q (Or.inl (by omega))]
    exact hK.2.2.2.1 q hq
  · rcases List.mem_append.mp hq with h | h
    · exact hK.2.2.2.2.2 q h
    · exact hL q h
theorem mj_cls_at {ci : Nat} {q : String × List (String × String × Bool)} (h : mj_cf[ci]? = some q) : mj_cls[ci]? = some (mj_tb q) := by
  rw [mj_cls, List.getElem?_map, h]
  rfl
theorem mj_tb_at {C : String} {fl : List (String × String × Bool)} {k : Nat} {f : String × String × Bool} (h : fl[k]? = some f) : (mj_tb (C, fl)).2.1 k = (C, f.1, f.2.1, f.2.2) := by
  simp [mj_tb, List.getD, h]
theorem mj_in {ci : Nat} {q : String × List (String × String × Bool)} (h : mj_cf[ci]? = some q) : ∀ w ∈ u_ws q.1 (mj_tb q).2.1 q.2.length, w ∈ mj_tbl := by
  intro w hw
  have h1 := List.all_eq_true.mp mj_cf_in q (List.mem_of_getElem? h)
  obtain ⟨h2, h3⟩ := Bool.and_eq_true_iff.mp (List.all_eq_true.mp h1 w hw)
  exact List.mem_filter.mpr ⟨of_decide_eq_true h2, h3⟩
theorem mj_ty_at {ci : Nat} {q : String × List (String × String × Bool)} (h : mj_cf[ci]? = some q) : ∀ k, k < q.2.length → parseFieldDescriptor ((mj_tb q).2.1 k).2.2.1 = some ((parseFieldDescriptor ((mj_tb q).2.1 k).2.2.1).getD .int) := by
  intro k hk
  have h1 := List.all_eq_true.mp mj_cf_ty q (List.mem_of_getElem? h)
  have h2 := List.all_eq_true.mp h1 k (List.mem_range.mpr hk)
  cases e : parseFieldDescriptor ((mj_tb q).2.1 k).2.2.1 with
  | none => rw [e] at h2; cases h2
  | some t => rfl
theorem mj_nm_at {ci : Nat} {q : String × List (String × String × Bool)} (h : mj_cf[ci]? = some q) : ∀ a, a < q.2.length → ∀ b, b < q.2.length → a ≠ b → ((mj_tb q).2.1 a).2.1 ≠ ((mj_tb q).2.1 b).2.1 := by
  intro a ha b hb hab
  have h1 := List.all_eq_true.mp mj_cf_nm q (List.mem_of_getElem? h)
  have h2 := List.all_eq_true.mp (List.all_eq_true.mp h1 a (List.mem_range.mpr ha)) b (List.mem_range.mpr hb)
  have h3 := of_decide_eq_true h2
  exact h3 hab
/-- what a standing knows of a field of one of the classes -/
theorem mj_field {p : Program} {R : Room} {s : State} {m : MethodId} {args : Array Value} {meth : Method} {c : Code} {H : Heap} {ls : Array Slot} {locs : List Loc} {cells slots : Nat} (hG : mj_F g) (hK : mj_K g Y d kc ks lv M p R s m args meth c H ls locs cells slots)
    {ci k p0 : Nat} {C : String} {fl : List (String × String × Bool)} {fd : String × String × Bool} {fs : List mj_V} (hc : mj_cf[ci]? = some (C, fl)) (hf : fl[k]? = some fd) (hM : M[p0]? = some (.inr (.inr (ci, fs)))) :
    ∃ (cell : Cell) (cf : Nat) (kf : Class) (fi : Nat) (f : Field) (kC : Class), H[g.2.2.1.heap.size + mj_o p0]? = some cell ∧ cell.cls = g.2.1.1 ci ∧ cell.vm = .none ∧ (∀ j, j < fl.length → cell.slots[g.2.1.2 ci j]? = some (mj_tr g.2.2.2.1 g.2.2.1.heap.size (fs.getD j (.inl 0)))) ∧
      s.fieldFound? C fd.1 fd.2.1 = some (cf, kf, fi, f) ∧ f.slot = g.2.1.2 ci k ∧ f.isStatic = false ∧ s.vm.findClass C = some (g.2.1.1 ci) ∧ s.vm.classes[g.2.1.1 ci]? = some kC ∧ kC.kind = .ordinary ∧
      (∀ x y, x < fl.length → y < fl.length → x ≠ y → g.2.1.2 ci x ≠ g.2.1.2 ci y) ∧ (u_lay C (mj_tb (C, fl)).2.1 k).before args s = true := by
  have hcl := mj_cls_at hc
  have hk : k < fl.length := (List.getElem?_eq_some_iff.mp hf).1
  have hT := mj_tb_at (C := C) hf
  obtain ⟨r, hr, cell, q1, q2, q3, q4⟩ := hK.2.2.1.2 p0 _ hM
  have hr2 : r = mj_tb (C, fl) := Option.some.inj (hr.symm.trans hcl)
  subst hr2
  have hKs : va_K g.2.1 mj_cls [] s := hG.1.moved hK.1.2.2.2.2.2.2.2.2.1
  obtain ⟨hS, hfc, kC, hkC, hkind⟩ := hKs.1 ci _ hcl
  obtain ⟨cf, kf, fi, f, hi, hsl⟩ := hS k hk
  have hts := hK.1.2.2.2.2.1
  have hlay := u_lays (T := (mj_tb (C, fl)).2.1) hts (mj_in hc) hk
  rw [hT] at hi hlay
  refine ⟨cell, cf, kf, fi, f, kC, q1, q2, q3, q4, hi, hsl, (u_facts hfc hkC hlay hi).1, hfc, hkC, hkind, ?_, hts _ (mj_in hc _ (u_in_lay hk))⟩
  exact va_apart (own := Y.1) hts (mj_in hc) _ (mj_ty_at hc) (mj_nm_at hc) hKs hcl
theorem mj_r_getf {ci k idx p0 : Nat} {C nm ds : String} {fin : Bool} {fl : List (String × String × Bool)} {fs : List mj_V} {w : mj_V} (hd : decode Y.2.2.1 pc = .ok (.getfield idx, 3)) (hc : mj_cf[ci]? = some (C, fl)) (hf : fl[k]? = some (nm, ds, fin))
    (hw : Cond.fieldLink Y.1 idx C nm ds ∈ mj_tbl ∨ Cond.fieldLinkNest Y.1 idx C nm ds "ChartForest" ∈ mj_tbl) (hM : M[p0]? = some (.inr (.inr (ci, fs)))) (hv : fs[k]? = some w) (kk : mj_J g Y d kc ks (pc + 3, lv, w :: st, M) Post) : mj_J g Y d kc ks (pc, lv, .inr (.inr (.inl (some (p0, 0)))) :: st, M) Post := by
  intro hG p e R s m args below meth c H ls locs cells slots hK
  have h := kk hG p e R s m args below meth c H ls locs cells slots hK
  obtain ⟨cell, cf, kf, fi, f, kC, q1, q2, q3, q4, hi, hsl, hst, -⟩ := mj_field hG hK hc hf hM
  have hk : k < fl.length := (List.getElem?_eq_some_iff.mp hf).1
  have hv' : cell.slots[f.slot]? = some (mj_tr g.2.2.2.1 g.2.2.1.heap.size w) := by
    rw [hsl, q4 k hk]
    simp [List.getD, hv]
  rcases hw with hw | hw
  · exact W.getf hK.1.1 hK.1.2.1 hK.1.2.2.2.1 (hK.1.2.2.2.2.1 _ hw) hi hst q1 (by rw [q3]; exact fun h => by cases h) hv' rfl rfl hd h
  · exact va_Wgetf hK.1.1 hK.1.2.1 hK.1.2.2.2.1 (hK.1.2.2.2.2.1 _ hw) hi hst q1 (by rw [q3]; exact fun h => by cases h) hv' rfl rfl hd h
/-- a value that may stand in a field of this descriptor -/
def mj_fits (b z : Nat) (ds : String) (w : mj_V) : Prop := ∃ ty : FieldType, parseFieldDescriptor ds = some ty ∧ narrow ty (mj_tr b z w) = mj_tr b z w ∧ fits ty (mj_tr b z w) = true
theorem mj_obj_set {H1 : Heap} {p0 ci k : Nat} {C : String} {fl : List (String × String × Bool)} {fs : List mj_V} {cell : Cell} {f : Field} (w : mj_V) (hc : mj_cf[ci]? = some (C, fl)) (hk : k < fl.length) (hkl : k < fs.length) (hsl : f.slot = g.2.1.2 ci k) (q2 : cell.cls = g.2.1.1 ci) (q3 : cell.vm = .none)
    (q4 : ∀ j, j < fl.length → cell.slots[g.2.1.2 ci j]? = some (mj_tr g.2.2.2.1 g.2.2.1.heap.size (fs.getD j (.inl 0)))) (hap : ∀ x y, x < fl.length → y < fl.length → x ≠ y → g.2.1.2 ci x ≠ g.2.1.2 ci y)
    (h1 : H1[g.2.2.1.heap.size + mj_o p0]? = some (cell.setSlot f.slot (mj_tr g.2.2.2.1 g.2.2.1.heap.size w))) : mj_cell g.2.1 g.2.2.1 g.2.2.2.1 g.2.2.1.heap.size p0 H1 (.inr (.inr (ci, fs.set k w))) := by
  refine ⟨_, mj_cls_at hc, _, h1, q2, q3, fun j hj => ?_⟩
  rw [hsl, t_set q4 hap hk _ j hj, updV]
  by_cases e : j = k
  · subst e
    simp [List.getD, hkl]
  · simp [List.getD, e, List.getElem?_set_ne (Ne.symm e)]
theorem mj_r_putf {ci k idx p0 : Nat} {C nm ds : String} {fl : List (String × String × Bool)} {fs : List mj_V} {w : mj_V} (hd : decode Y.2.2.1 pc = .ok (.putfield idx, 3)) (hc : mj_cf[ci]? = some (C, fl)) (hf : fl[k]? = some (nm, ds, false))
    (hw : Cond.fieldLink Y.1 idx C nm ds ∈ mj_tbl ∨ Cond.fieldLinkNest Y.1 idx C nm ds "ChartForest" ∈ mj_tbl) (hM : M[p0]? = some (.inr (.inr (ci, fs)))) (hkl : k < fs.length) (hft : ∀ b z, mj_fits b z ds w) (kk : mj_J g Y d kc ks (pc + 3, lv, st, M.set p0 (.inr (.inr (ci, fs.set k w)))) Post) : mj_J g Y d kc ks (pc, lv, w :: .inr (.inr (.inl (some (p0, 0)))) :: st, M) Post := by
  intro hG p e R s m args below meth c H ls locs cells slots hK
  obtain ⟨cell, cf, kf, fi, f, kC, q1, q2, q3, q4, hi, hsl, hst, hfc, hkC, hkind, hap, hlay⟩ := mj_field hG hK hc hf hM
  have hk : k < fl.length := (List.getElem?_eq_some_iff.mp hf).1
  have hT := mj_tb_at (C := C) hf
  have hl : (Cond.lays C C nm ds).before args s = true := by
    unfold u_lay at hlay
    rw [hT] at hlay
    exact hlay
  obtain ⟨ty, t1, t2, t3⟩ := hft g.2.2.2.1 g.2.2.1.heap.size
  have hS := u_store hfc hkC hkind hl hi t1 t2 t3
  rw [← q2] at hS
  have hlt : f.slot < cell.slots.size := by
    rw [hsl]
    exact k2_hasslot (q4 k hk)
  have fin : ∀ H' : Heap, H'[g.2.2.1.heap.size + mj_o p0]? = some (cell.setSlot f.slot (mj_tr g.2.2.2.1 g.2.2.1.heap.size w)) → H'.size = H.size → (∀ q, q ≠ g.2.2.1.heap.size + mj_o p0 → H'[q]? = H[q]?) →
      W p g.1 e R s m args below meth c H' (locs ++ [⟨g.2.2.1.heap.size + mj_o p0, f.slot⟩]) cells slots (mj_Z g Post below s (cells + kc) (slots + ks)) (F0 m (pc + 3) ls (st.map (mj_tr g.2.2.2.1 g.2.2.1.heap.size))) := by
    intro H' h1 h2 h3
    refine kk hG p e R s m args below meth c H' ls _ cells slots (hK.mem hM h2 (fun A hA => h3 A (by have := mj_o_s p0; omega)) (mj_obj_set w hc hk hkl hsl q2 q3 q4 hap h1) (fun q hq => ?_))
    rw [List.mem_singleton.mp hq]
    exact Nat.le_add_right _ _
  rcases hw with hw | hw
  · exact W.putK hK.1.1 hK.1.2.1 ⟨hK.1.2.2.2.1, hK.1.2.2.2.2.1 _ hw, ⟨cf, kf, fi, hi⟩, hst⟩ hS q1 q3 hlt rfl rfl hd fin
  · exact va_WputK hK.1.1 hK.1.2.1 hK.1.2.2.2.1 (hK.1.2.2.2.2.1 _ hw) hi hst hS q1 q3 hlt rfl rfl hd fin
theorem mj_r_putF {ci k idx p0 : Nat} {nm ds : String} {fl : List (String × String × Bool)} {fs : List mj_V} {w : mj_V} (hd : decode Y.2.2.1 pc = .ok (.putfield idx, 3)) (hc : mj_cf[ci]? = some (Y.1, fl)) (hf : fl[k]? = some (nm, ds, true)) (hi0 : Y.2.1.name = "<init>")
    (hw : Cond.fieldLink Y.1 idx Y.1 nm ds ∈ mj_tbl) (hM : M[p0]? = some (.inr (.inr (ci, fs)))) (hkl : k < fs.length) (hft : ∀ b z, mj_fits b z ds w) (kk : mj_J g Y d kc ks (pc + 3, lv, st, M.set p0 (.inr (.inr (ci, fs.set k w)))) Post) : mj_J g Y d kc ks (pc, lv, w :: .inr (.inr (.inl (some (p0, 0)))) :: st, M) Post := by
  intro hG p e R s m args below meth c H ls locs cells slots hK
  obtain ⟨cell, cf, kf, fi, f, kC, q1, q2, q3, q4, hi, hsl, hst, hfc, hkC, hkind, hap, hlay⟩ := mj_field hG hK hc hf hM
  have hk : k < fl.length := (List.getElem?_eq_some_iff.mp hf).1
  have hT := mj_tb_at (C := Y.1) hf
  have hl : (Cond.laysFinal Y.1 Y.1 nm ds).before args s = true := by
    unfold u_lay at hlay
    rw [hT] at hlay
    exact hlay
  obtain ⟨ty, t1, t2, t3⟩ := hft g.2.2.2.1 g.2.2.1.heap.size
  have hS := u_fits hfc hkC hkind (Or.inr hl) hi t1 t2 t3
  rw [← q2] at hS
  have hlt : f.slot < cell.slots.size := by
    rw [hsl]
    exact k2_hasslot (q4 k hk)
  have hown := hK.1.2.2.2.1
  have hcf : m.cls = cf := by
    obtain ⟨_, _, c', _, _, _, -, -, hf', -, -, -, hown2, -⟩ := Cond.laysFinal_spec hl
    have e1 : c' = cf := by have := hi.symm.trans hf'; simp at this; exact this.1.symm
    rw [← e1]; exact Option.some.inj (hown.symm.trans hown2)
  refine W.putFinK hK.1.1 hK.1.2.1 hown (hK.1.2.2.2.2.1 _ hw) hi hst hcf (hK.1.2.2.2.2.2.2.2.1.trans hi0) hS q1 q3 hlt rfl rfl hd ?_
  intro H' h1 h2 h3
  refine kk hG p e R s m args below meth c H' ls _ cells slots (hK.mem hM h2 (fun A hA => h3 A (show (A : Nat) ≠ g.2.2.1.heap.size + mj_o p0 by have := mj_o_s p0; omega)) (mj_obj_set w hc hk hkl hsl q2 q3 q4 hap h1) (fun q hq => ?_))
  rw [List.mem_singleton.mp hq]
  exact Nat.le_add_right _ _
theorem mj_r_iald {p0 n : Nat} {f : Nat → Int} {x : Int} (hd : decode Y.2.2.1 pc = .ok (.iaload, 1)) (hM : M[p0]? = some (.inl (0, n, f))) (hx : mj_i x) (h0 : 0 ≤ x) (h1 : x < n) (kk : mj_J g Y d kc ks (pc + 1, lv, .inl (f x.toNat) :: st, M) Post) : mj_J g Y d kc ks (pc, lv, .inl x :: .inr (.inr (.inl (some (p0, 0)))) :: st, M) Post := by
  intro hG p e R s m args below meth c H ls locs cells slots hK
  have h := kk hG p e R s m args below meth c H ls locs cells slots hK
  obtain ⟨cell, q1, q2, q3, q4, q5⟩ := hK.2.2.1.2 p0 _ hM
  exact W.iald hK.1.1 hK.1.2.1 q1 (State.isArrayOf_alike hK.1.2.2.2.2.2.2.2.2.1 q2) (by rw [q3]; exact fun h => by cases h) (by rw [q4]; exact mj_in_ h0 h1 hx) (by rw [mj_cl hx]; exact q5 _ (by omega)) rfl rfl hd h
theorem mj_r_zald {p0 n : Nat} {f : Nat → Int} {x : Int} (hd : decode Y.2.2.1 pc = .ok (.baload, 1)) (hM : M[p0]? = some (.inl (1, n, f))) (hx : mj_i x) (h0 : 0 ≤ x) (h1 : x < n) (kk : mj_J g Y d kc ks (pc + 1, lv, .inl (f x.toNat) :: st, M) Post) : mj_J g Y d kc ks (pc, lv, .inl x :: .inr (.inr (.inl (some (p0, 0)))) :: st, M) Post := by
  intro hG p e R s m args below meth c H ls locs cells slots hK
  have h := kk hG p e R s m args below meth c H ls locs cells slots hK
  obtain ⟨cell, q1, q2, q3, q4, q5⟩ := hK.2.2.1.2 p0 _ hM
  exact W.zald hK.1.1 hK.1.2.1 q1 (State.isArrayOf_alike hK.1.2.2.2.2.2.2.2.2.1 q2) (by rw [q3]; exact fun h => by cases h) (by rw [q4]; exact mj_in_ h0 h1 hx) (by rw [mj_cl hx]; exact q5 _ (by omega)) rfl rfl hd h
theorem mj_r_lald {p0 n : Nat} {f : Nat → Int} {x : Int} (hd : decode Y.2.2.1 pc = .ok (.laload, 1)) (hM : M[p0]? = some (.inl (2, n, f))) (hx : mj_i x) (h0 : 0 ≤ x) (h1 : x < n) (kk : mj_J g Y d kc ks (pc + 1, lv, .inr (.inl (f x.toNat)) :: st, M) Post) : mj_J g Y d kc ks (pc, lv, .inl x :: .inr (.inr (.inl (some (p0, 0)))) :: st, M) Post := by
  intro hG p e R s m args below meth c H ls locs cells slots hK
  have h := kk hG p e R s m args below meth c H ls locs cells slots hK
  obtain ⟨cell, q1, q2, q3, q4, q5⟩ := hK.2.2.1.2 p0 _ hM
  exact W.lald hK.1.1 hK.1.2.1 q1 (State.isArrayOf_alike hK.1.2.2.2.2.2.2.2.2.1 q2) (by rw [q3]; exact fun h => by cases h) (by rw [q4]; exact mj_in_ h0 h1 hx) (by rw [mj_cl hx]; exact q5 _ (by omega)) rfl rfl hd h
theorem mj_r_aald {p0 n k0 : Nat} {f : Nat → Nat → Int} {x : Int} (hd : decode Y.2.2.1 pc = .ok (.aaload, 1)) (hM : M[p0]? = some (.inr (.inl (n, k0, f)))) (hx : mj_i x) (h0 : 0 ≤ x) (h1 : x < n) (kk : mj_J g Y d kc ks (pc + 1, lv, .inr (.inr (.inl (some (p0, x.toNat + 1)))) :: st, M) Post) : mj_J g Y d kc ks (pc, lv, .inl x :: .inr (.inr (.inl (some (p0, 0)))) :: st, M) Post := by
  intro hG p e R s m args below meth c H ls locs cells slots hK
  have h := kk hG p e R s m args below meth c H ls locs cells slots hK
  obtain ⟨-, ⟨cell, q1, q2, q3, q4, q5⟩, -⟩ := hK.2.2.1.2 p0 _ hM
  exact W.aald hK.1.1 hK.1.2.1 q1 (State.isArrayOf_alike hK.1.2.2.2.2.2.2.2.2.1 q2) rfl (by rw [q3]; exact fun h => by cases h) (by rw [q4]; exact mj_in_ h0 h1 hx) (by rw [mj_cl hx]; exact q5 _ (by omega)) rfl rfl hd h
theorem mj_r_gald {p0 n k0 r : Nat} {f : Nat → Nat → Int} {x : Int} (hd : decode Y.2.2.1 pc = .ok (.iaload, 1)) (hM : M[p0]? = some (.inr (.inl (n, k0, f)))) (hr : r < n) (hx : mj_i x) (h0 : 0 ≤ x) (h1 : x < k0) (kk : mj_J g Y d kc ks (pc + 1, lv, .inl (f r x.toNat) :: st, M) Post) : mj_J g Y d kc ks (pc, lv, .inl x :: .inr (.inr (.inl (some (p0, r + 1)))) :: st, M) Post := by
  intro hG p e R s m args below meth c H ls locs cells slots hK
  have h := kk hG p e R s m args below meth c H ls locs cells slots hK
  obtain ⟨-, -, hrow⟩ := hK.2.2.1.2 p0 _ hM
  obtain ⟨cell, q1, q2, q3, q4, q5⟩ := hrow r hr
  exact W.iald hK.1.1 hK.1.2.1 q1 (State.isArrayOf_alike hK.1.2.2.2.2.2.2.2.2.1 q2) (by rw [q3]; exact fun h => by cases h) (by rw [q4]; exact mj_in_ h0 h1 hx) (by rw [mj_cl hx]; exact q5 _ (by omega)) rfl rfl hd h
theorem mj_r_iast {p0 n : Nat} {f : Nat → Int} {x y : Int} (hd : decode Y.2.2.1 pc = .ok (.iastore, 1)) (hM : M[p0]? = some (.inl (0, n, f))) (hx : mj_i x) (h0 : 0 ≤ x) (h1 : x < n) (kk : mj_J g Y d kc ks (pc + 1, lv, st, M.set p0 (.inl (0, n, mj_up f x.toNat y))) Post) : mj_J g Y d kc ks (pc, lv, .inl y :: .inl x :: .inr (.inr (.inl (some (p0, 0)))) :: st, M) Post := by
  intro hG p e R s m args below meth c H ls locs cells slots hK
  obtain ⟨cell, q1, q2, q3, q4, q5⟩ := hK.2.2.1.2 p0 _ hM
  refine W.iast hK.1.1 hK.1.2.1 q1 (State.isArrayOf_alike hK.1.2.2.2.2.2.2.2.2.1 q2) (by rw [q3]; exact fun h => by cases h) (by rw [q4]; exact mj_in_ h0 h1 hx) rfl rfl hd ?_
  intro H' e1 e2 e3
  rw [mj_cl hx] at e1
  refine kk hG p e R s m args below meth c H' ls _ cells slots (hK.mem hM e2 (fun A hA => e3 A (show (A : Nat) ≠ g.2.2.1.heap.size + mj_o p0 by have := mj_o_s p0; omega)) ?_ (fun q hq => ?_))
  · refine mj_arr.to (mj_arr_set _ q2 q3 q4 q5 e1) fun j hj => ?_
    unfold mj_up
    by_cases e : j = x.toNat
    · simp [e, mj_num]
    · simp [e]
  · rw [List.mem_singleton.mp hq]
    exact Nat.le_add_right _ _
theorem mj_nb {y : Int} (h : y = 0 ∨ y = 1) : narrow .boolean (.int (Int32.ofInt y)) = .int (Int32.ofInt y) := by
  rcases h with rfl | rfl <;> rfl
theorem mj_r_zast {p0 n : Nat} {f : Nat → Int} {x y : Int} (hd : decode Y.2.2.1 pc = .ok (.bastore, 1)) (hM : M[p0]? = some (.inl (1, n, f))) (hx : mj_i x) (h0 : 0 ≤ x) (h1 : x < n) (hy : y = 0 ∨ y = 1) (kk : mj_J g Y d kc ks (pc + 1, lv, st, M.set p0 (.inl (1, n, mj_up f x.toNat y))) Post) : mj_J g Y d kc ks (pc, lv, .inl y :: .inl x :: .inr (.inr (.inl (some (p0, 0)))) :: st, M) Post := by
  intro hG p e R s m args below meth c H ls locs cells slots hK
  obtain ⟨cell, q1, q2, q3, q4, q5⟩ := hK.2.2.1.2 p0 _ hM
  refine W.zast hK.1.1 hK.1.2.1 q1 (State.isArrayOf_alike hK.1.2.2.2.2.2.2.2.2.1 q2) (by rw [q3]; exact fun h => by cases h) (by rw [q4]; exact mj_in_ h0 h1 hx) rfl rfl hd ?_
  intro H' e1 e2 e3
  rw [mj_cl hx, mj_nb hy] at e1
  refine kk hG p e R s m args below meth c H' ls _ cells slots (hK.mem hM e2 (fun A hA => e3 A (show (A : Nat) ≠ g.2.2.1.heap.size + mj_o p0 by have := mj_o_s p0; omega)) ?_ (fun q hq => ?_))
  · refine mj_arr.to (mj_arr_set _ q2 q3 q4 q5 e1) fun j hj => ?_
    unfold mj_up
    by_cases e : j = x.toNat
    · simp [e, mj_num]
    · simp [e]
  · rw [List.mem_singleton.mp hq]
    exact Nat.le_add_right _ _
theorem mj_r_last {p0 n : Nat} {f : Nat → Int} {x y : Int} (hd : decode Y.2.2.1 pc = .ok (.lastore, 1)) (hM : M[p0]? = some (.inl (2, n, f))) (hx : mj_i x) (h0 : 0 ≤ x) (h1 : x < n) (kk : mj_J g Y d kc ks (pc + 1, lv, st, M.set p0 (.inl (2, n, mj_up f x.toNat y))) Post) : mj_J g Y d kc ks (pc, lv, .inr (.inl y) :: .inl x :: .inr (.inr (.inl (some (p0, 0)))) :: st, M) Post := by
  intro hG p e R s m args below meth c H ls locs cells slots hK
  obtain ⟨cell, q1, q2, q3, q4, q5⟩ := hK.2.2.1.2 p0 _ hM
  refine W.last hK.1.1 hK.1.2.1 q1 (State.isArrayOf_alike hK.1.2.2.2.2.2.2.2.2.1 q2) (by rw [q3]; exact fun h => by cases h) (by rw [q4]; exact mj_in_ h0 h1 hx) rfl rfl hd ?_
  intro H' e1 e2 e3
  rw [mj_cl hx] at e1
  refine kk hG p e R s m args below meth c H' ls _ cells slots (hK.mem hM e2 (fun A hA => e3 A (show (A : Nat) ≠ g.2.2.1.heap.size + mj_o p0 by have := mj_o_s p0; omega)) ?_ (fun q hq => ?_))
  · refine mj_arr.to (mj_arr_set _ q2 q3 q4 q5 e1) fun j hj => ?_
    unfold mj_up
    by_cases e : j = x.toNat
    · simp [e, mj_num]
    · simp [e]
  · rw [List.mem_singleton.mp hq]
    exact Nat.le_add_right _ _
theorem mj_r_gast {p0 n k0 r : Nat} {f : Nat → Nat → Int} {x y : Int} (hd : decode Y.2.2.1 pc = .ok (.iastore, 1)) (hM : M[p0]? = some (.inr (.inl (n, k0, f)))) (hr : r < n) (hx : mj_i x) (h0 : 0 ≤ x) (h1 : x < k0) (kk : mj_J g Y d kc ks (pc + 1, lv, st, M.set p0 (.inr (.inl (n, k0, mj_up2 f r x.toNat y)))) Post) : mj_J g Y d kc ks (pc, lv, .inl y :: .inl x :: .inr (.inr (.inl (some (p0, r + 1)))) :: st, M) Post := by
  intro hG p e R s m args below meth c H ls locs cells slots hK
  obtain ⟨hsz, hhd, hrow⟩ := hK.2.2.1.2 p0 _ hM
  obtain ⟨cell, q1, q2, q3, q4, q5⟩ := hrow r hr
  refine W.iast hK.1.1 hK.1.2.1 q1 (State.isArrayOf_alike hK.1.2.2.2.2.2.2.2.2.1 q2) (by rw [q3]; exact fun h => by cases h) (by rw [q4]; exact mj_in_ h0 h1 hx) rfl rfl hd ?_
  intro H' e1 e2 e3
  rw [mj_cl hx] at e1
  refine kk hG p e R s m args below meth c H' ls _ cells slots (hK.mem hM e2 (fun A hA => e3 A (show (A : Nat) ≠ g.2.2.1.heap.size + mj_o p0 + (r + 1) by have := mj_o_s p0; omega)) ⟨hsz, hhd.kept (e3 (g.2.2.1.heap.size + mj_o p0) (show (g.2.2.1.heap.size + mj_o p0 : Nat) ≠ g.2.2.1.heap.size + mj_o p0 + (r + 1) by omega)), fun i hi => ?_⟩ (fun q hq => ?_))
  · by_cases e : i = r
    · subst e
      refine mj_arr.to (mj_arr_set _ q2 q3 q4 q5 e1) fun j hj => ?_
      unfold mj_up2
      by_cases e : j = x.toNat
      · simp [e]
      · simp [e]
    · refine mj_arr.to ((hrow i hi).kept (e3 (g.2.2.1.heap.size + mj_o p0 + (i + 1)) (show (g.2.2.1.heap.size + mj_o p0 + (i + 1) : Nat) ≠ g.2.2.1.heap.size + mj_o p0 + (r + 1) by omega))) fun j hj => ?_
      unfold mj_up2
      simp [e]
  · rw [List.mem_singleton.mp hq]
    show _ ≤ _ + _ + _
    omega
theorem mj_len {n : Nat} (h : n < 2147483648) : n.toInt32 = Int32.ofInt (n : Int) := by
  rw [← Int32.toInt_inj, mj_ti ⟨by omega, by omega⟩]
  exact Int32.toInt_ofNat_of_lt h
theorem mj_r_alen {p0 n k0 : Nat} {f : Nat → Int} (hd : decode Y.2.2.1 pc = .ok (.arraylength, 1)) (hM : M[p0]? = some (.inl (k0, n, f))) (hn : n < 2147483648) (kk : mj_J g Y d kc ks (pc + 1, lv, .inl (n : Int) :: st, M) Post) : mj_J g Y d kc ks (pc, lv, .inr (.inr (.inl (some (p0, 0)))) :: st, M) Post := by
  intro hG p e R s m args below meth c H ls locs cells slots hK
  have h := kk hG p e R s m args below meth c H ls locs cells slots hK
  obtain ⟨cell, q1, q2, q3, q4, q5⟩ := hK.2.2.1.2 p0 _ hM
  exact W.alen hK.1.1 hK.1.2.1 q1 (State.isArrayOf_alike hK.1.2.2.2.2.2.2.2.2.1 q2) (by rw [q4]; exact mj_len hn) rfl rfl hd h
theorem mj_r_slen {u : Unit} (hd : decode Y.2.2.1 pc = .ok (.arraylength, 1)) (kk : mj_J g Y d kc ks (pc + 1, lv, .inl (g.2.2.2.2.1 : Int) :: st, M) Post) : mj_J g Y d kc ks (pc, lv, .inr (.inr (.inr u)) :: st, M) Post := by
  intro hG p e R s m args below meth c H ls locs cells slots hK
  have h := kk hG p e R s m args below meth c H ls locs cells slots hK
  obtain ⟨-, ⟨scr, q1, q2, q3, q4, q5⟩, hb, hl, -⟩ := hG
  exact W.alen hK.1.1 hK.1.2.1 (by rw [hK.2.2.2.1 _ hb]; exact q1) (State.isArrayOf_alike hK.1.2.2.2.2.2.2.2.2.1 q2) (by rw [q4]; exact mj_len (by omega)) rfl rfl hd h
theorem mj_r_sald {u : Unit} {x : Int} (hd : decode Y.2.2.1 pc = .ok (.iaload, 1)) (hx : mj_i x) (h0 : 0 ≤ x) (h1 : x < g.2.2.2.2.1) (kk : mj_J g Y d kc ks (pc + 1, lv, .inl (g.2.2.2.2.2 x.toNat).toInt :: st, M) Post) : mj_J g Y d kc ks (pc, lv, .inl x :: .inr (.inr (.inr u)) :: st, M) Post := by
  intro hG p e R s m args below meth c H ls locs cells slots hK
  have h := kk hG p e R s m args below meth c H ls locs cells slots hK
  obtain ⟨-, ⟨scr, q1, q2, q3, q4, q5⟩, hb, hl, -⟩ := hG
  refine W.iald (v := .int (g.2.2.2.2.2 x.toNat)) hK.1.1 hK.1.2.1 (by rw [hK.2.2.2.1 _ hb]; exact q1) (State.isArrayOf_alike hK.1.2.2.2.2.2.2.2.2.1 q2) q3 (by rw [q4]; exact mj_in_ h0 h1 hx) (by rw [mj_cl hx]; exact q5 _ (by omega)) rfl rfl hd ?_
  have e1 : Value.int (g.2.2.2.2.2 x.toNat) = mj_tr g.2.2.2.1 g.2.2.1.heap.size (.inl (g.2.2.2.2.2 x.toNat).toInt) := by
    show _ = Value.int (Int32.ofInt _)
    rw [Int32.ofInt_toInt]
  rw [e1]
  exact h
end MJM
end
section
/-! ===== the small machine: ends and calls ===== -/
theorem mj_mono {p : Program} {l : Launch} {e : Env} {R : Room} {s : State} {m : MethodId} {args : Array Value} {below : List Frame} {meth : Method} {c : Code} {H : Heap} {locs : List Loc} {cells slots : Nat} {Q Q' : State → Prop} {g : JFrame} (h : ∀ t, Q t → Q' t) (k : W p l e R s m args below meth c H locs cells slots Q g) : W p l e R s m args below meth c H locs cells slots Q' g := by
  intro T hT X
  obtain ⟨t, a, b⟩ := k T hT X
  exact ⟨t, a, h t b⟩
theorem mj_MQ_Z {g : mj_G} {Post : mj_O → mj_M → Prop} {below : List Frame} {s : State} {args : Array Value} {kc ks : Nat} {t : State} (h : MQ below (fun _ _ o t => mj_Q g Post o t) args s kc ks (fun q => g.2.2.1.heap.size ≤ q) t) : mj_Z g Post below s kc ks t := by
  obtain ⟨o, h1, h2, h3, L, ⟨-, h4, h5⟩, h6⟩ := h
  exact ⟨o, h1, h2, h3, h4, L, h5, h6⟩
section MJE
variable {g : mj_G} {Y : mj_Y} {d kc ks pc : Nat} {lv : mj_L} {st : List mj_V} {M : mj_M} {Post : mj_O → mj_M → Prop}
theorem mj_Q_of {p : Program} {R : Room} {s : State} {m : MethodId} {args : Array Value} {meth : Method} {c : Code} {H : Heap} {ls : Array Slot} {locs : List Loc} {cells slots : Nat} (hK : mj_K g Y d kc ks lv M p R s m args meth c H ls locs cells slots) {v : Option mj_V} (hp : Post (.inl v) M) {t : State} (ht : t.heap = H) : mj_Q g Post (.returned (v.map (mj_tr g.2.2.2.1 g.2.2.1.heap.size))) t :=
  ⟨.inl v, M, hp, rfl, by rw [ht]; exact hK.2.2.1, fun q hq => by rw [ht]; exact hK.2.2.2.1 q hq⟩
theorem mj_r_iret {x : Int} (hd : decode Y.2.2.1 pc = .ok (.ireturn, 1)) (hr : Y.2.2.2.2 = some .int) (hp : Post (.inl (some (.inl x))) M) : mj_J g Y d kc ks (pc, lv, [.inl x], M) Post := by
  intro hG p e R s m args below meth c H ls locs cells slots hK
  refine W.widen (k := cells + kc) (n := slots + ks) (Nat.le_add_right _ _) (Nat.le_add_right _ _) (mj_mono (fun t h => mj_MQ_Z (args := args) h) ?_)
  exact W.iret hK.1.1 hK.1.2.1 (hK.1.2.2.2.2.2.2.1.trans hr) (fun t ht _ => mj_Q_of (v := some (.inl x)) hK hp ht) hK.2.2.2.2.2 hd hK.1.2.2.2.2.2.1
theorem mj_r_zret {x : Int} (hd : decode Y.2.2.1 pc = .ok (.ireturn, 1)) (hr : Y.2.2.2.2 = some .boolean) (hx : x = 0 ∨ x = 1) (hp : Post (.inl (some (.inl x))) M) : mj_J g Y d kc ks (pc, lv, [.inl x], M) Post := by
  intro hG p e R s m args below meth c H ls locs cells slots hK
  refine W.widen (k := cells + kc) (n := slots + ks) (Nat.le_add_right _ _) (Nat.le_add_right _ _) (mj_mono (fun t h => mj_MQ_Z (args := args) h) ?_)
  exact W.zret hK.1.1 hK.1.2.1 (hK.1.2.2.2.2.2.2.1.trans hr) (mj_nb hx) (fun t ht _ => mj_Q_of (v := some (.inl x)) hK hp ht) hK.2.2.2.2.2 hd hK.1.2.2.2.2.2.1
theorem mj_r_lret {x : Int} (hd : decode Y.2.2.1 pc = .ok (.lreturn, 1)) (hr : Y.2.2.2.2 = some .long) (hp : Post (.inl (some (.inr (.inl x)))) M) : mj_J g Y d kc ks (pc, lv, [.inr (.inl x)], M) Post := by
  intro hG p e R s m args below meth c H ls locs cells slots hK
  refine W.widen (k := cells + kc) (n := slots + ks) (Nat.le_add_right _ _) (Nat.le_add_right _ _) (mj_mono (fun t h => mj_MQ_Z (args := args) h) ?_)
  exact W.lret hK.1.1 hK.1.2.1 (hK.1.2.2.2.2.2.2.1.trans hr) (fun t ht _ => mj_Q_of (v := some (.inr (.inl x))) hK hp ht) hK.2.2.2.2.2 hd hK.1.2.2.2.2.2.1
theorem mj_r_vret (hd : decode Y.2.2.1 pc = .ok (.return_, 1)) (hr : Y.2.2.2.2 = none) (hp : Post (.inl none) M) : mj_J g Y d kc ks (pc, lv, [], M) Post := by
  intro hG p e R s m args below meth c H ls locs cells slots hK
  refine W.widen (k := cells + kc) (n := slots + ks) (Nat.le_add_right _ _) (Nat.le_add_right _ _) (mj_mono (fun t h => mj_MQ_Z (args := args) h) ?_)
  exact W.vret hK.1.1 hK.1.2.1 (hK.1.2.2.2.2.2.2.1.trans hr) (fun t ht _ => mj_Q_of (v := none) hK hp ht) hK.2.2.2.2.2 hd hK.1.2.2.2.2.2.1
/-- fewer known locals -/
theorem mj_r_less {lv' : mj_L} (hl : lv'.length = lv.length) (h : ∀ (i : Nat) (w : mj_V), lv'[i]? = some (some w) → lv[i]? = some (some w)) (k : mj_J g Y d kc ks (pc, lv', st, M) Post) : mj_J g Y d kc ks (pc, lv, st, M) Post := by
  intro hG p e R s m args below meth c H ls locs cells slots hK
  have h1 := hK.2.2.2.2.1.1
  exact k hG p e R s m args below meth c H ls locs cells slots (hK.loc ⟨h1.1.trans hl.symm, h1.2.1, fun i w hw => h1.2.2 i w (h i w hw)⟩ hl)
theorem mj_J.weaken {S : mj_S} {Post' : mj_O → mj_M → Prop} (h : ∀ o M, Post' o M → Post o M) (k : mj_J g Y d kc ks S Post') : mj_J g Y d kc ks S Post := by
  intro hG p e R s m args below meth c H ls locs cells slots hK
  refine mj_mono ?_ (k hG p e R s m args below meth c H ls locs cells slots hK)
  rintro t ⟨o, h1, h2, ⟨r, M', h3, h4⟩, h5⟩
  exact ⟨o, h1, h2, ⟨r, M', h _ _ h3, h4⟩, h5⟩
end MJE
/-! ===== the words travel ===== -/
theorem mj_warm {w : Cond} (hw : w ∈ mj_tbl) {args a' : Array Value} {s U : State} (hb : w.before args s = true) (hW : s.WarmedH U.vm) : w.before a' U = true := by
  have h := (List.mem_filter.mp hw).2
  unfold mj_gw at h
  rcases Bool.or_eq_true_iff.mp h with h1 | h1
  · exact word_at hW (good_of_word h1) hb
  · rcases Bool.or_eq_true_iff.mp h1 with h2 | h2
    · obtain ⟨h3, h4⟩ := Bool.and_eq_true_iff.mp h2
      have h5 := Cond.faceAtom_setVm (args := args) hW.alike w h3 hb
      have h6 := Cond.onTables_vm (A := args) (A' := a') (U := s) (U' := U) U.vm w h4
      rw [h6] at h5
      exact h5
    · split at h2
      · exact va_Nw.use rfl (va_Nw.warmF hW (va_Nw.of rfl hb))
      · exact va_Nw.use rfl (va_Nw.warmM hW (va_Nw.of rfl hb))
      · exact over_moved hW.alike hb
      · cases h2
/-! ===== a method's entry ===== -/
def mj_e1 (vs : List mj_V) : mj_L := vs.flatMap fun w => if mj_cat w = 2 then [some w, none] else [some w]
def mj_ent (vs : List mj_V) (n : Nat) : mj_L := mj_e1 vs ++ List.replicate (n - (mj_e1 vs).length) none
def mj_ps (b z : Nat) : Option mj_V → Slot
  | some w => .val (mj_tr b z w)
  | none => .second
theorem mj_sl (b z : Nat) (vs : List mj_V) : lg_sl (vs.map (mj_tr b z)) = (mj_e1 vs).map (mj_ps b z) := by
  induction vs with
  | nil => rfl
  | cons w vs ih =>
    simp only [lg_sl, mj_e1, List.map_cons, List.flatMap_cons, List.map_append, mj_tr_cat] at ih ⊢
    rw [ih]
    congr 1
    split <;> rfl
theorem mj_ent_ls {b z n : Nat} {vs : List mj_V} (h : (mj_e1 vs).length ≤ n) : mj_ls b z ((lg_sl (vs.map (mj_tr b z)) ++ List.replicate (n - (lg_sl (vs.map (mj_tr b z))).length) Slot.unset).toArray) (mj_ent vs n) := by
  have h0 : (lg_sl (vs.map (mj_tr b z))).length ≤ n := by rw [mj_sl, List.length_map]; exact h
  have h1 := lv_entry (vs.map (mj_tr b z)) h0
  refine ⟨?_, h1.2.1, fun i w hw => ?_⟩
  · rw [h1.1, mj_ent, List.length_append, List.length_replicate]
    omega
  · unfold mj_ent at hw
    rw [List.getElem?_append] at hw
    rw [mj_sl]
    simp only [List.getElem?_toArray]
    split at hw
    · rename_i hi
      rw [List.getElem?_append_left (by rw [List.length_map]; exact hi), List.getElem?_map, hw]
      rfl
    · rw [List.getElem?_replicate] at hw
      split at hw <;> cases hw
def mj_ws (Y : mj_Y) : List Cond := Cond.code Y.2.1 Y.2.2.1 Y.2.2.2.1 Y.2.2.2.2 :: mj_tbl
def mj_Pc (g : mj_G) (M : mj_M) (vs : List mj_V) : Array Value → State → Prop := fun a U =>
  a = (vs.map (mj_tr g.2.2.2.1 g.2.2.1.heap.size)).toArray ∧ g.2.2.1.vm.Alike U.vm ∧ g.2.2.1.heap.size ≤ U.heap.size ∧ mj_W g.2.1 g.2.2.1 g.2.2.2.1 M U.heap ∧ ∀ q, q < g.2.2.1.heap.size → U.heap[q]? = g.2.2.1.heap[q]?
theorem mj_Pc_blind (g : mj_G) (M : mj_M) (vs : List mj_V) : FrameBlind (mj_Pc g M vs) := fun a U f mk h => h
def mj_rm (d kc ks : Nat) : Room := { frames := d, cells := kc, slots := ks, locals := 40 * d }
section MJC
variable {g : mj_G} {Y Y' : mj_Y} {d kc ks pc : Nat} {lv : mj_L} {st : List mj_V} {M : mj_M} {Post : mj_O → mj_M → Prop}
theorem mj_met (hG : mj_F g) {vs : List mj_V} (hY : Y.2.1.cls = Y.1) (hpl : plainName Y.1 = true) (hn : (mj_e1 vs).length ≤ Y.2.2.2.1) (k : mj_J g Y d kc ks (0, mj_ent vs Y.2.2.2.1, [], M) Post) (hnt : ∀ q M', ¬ Post (.inr q) M') :
    Met g.1 Y.2.1 (mj_ws Y) (mj_rm d kc ks) (mj_Pc g M vs) (fun _ _ o t => mj_Q g Post o t) kc ks (fun q => g.2.2.1.heap.size ≤ q) := by
  refine Met.ofW (cc := Y.2.2.1) (maxL := Y.2.2.2.1) (ret := Y.2.2.2.2) (by rw [hY]; exact hpl) rfl ?_
  intro p e s m args below meth c s₁ B hml hv
  obtain ⟨ha, hal, hsz, hW, hold⟩ := hv
  have hts := atoms_spec (ws := mj_ws Y) B.pre
  have hown : s.vm.findClass Y.1 = some m.cls := by rw [← hY]; exact findClass_of_methodNamed B.named
  have hin := (name_of_methodNamed B.named B.method).1
  have hx := B.exec
  have hb := B.bytes
  have hr := B.returns
  have hlk := B.notSynchronized
  have hnd := B.named
  clear B
  subst ha
  rw [lg_entry_eq]
  have hK : mj_K g Y d kc ks (mj_ent vs Y.2.2.2.1) M p (mj_rm d kc ks) s m (vs.map (mj_tr g.2.2.2.1 g.2.2.1.heap.size)).toArray meth c s.heap _ [] 0 0 :=
    ⟨⟨hx, hb, hml, hown, fun w hw => hts w (List.mem_cons_of_mem _ hw), hlk, hr, hin, hal, hsz, hnd⟩, ⟨Nat.le_refl _, Nat.le_refl _, by rw [Nat.zero_add]; exact Nat.le_refl _, by rw [Nat.zero_add]; exact Nat.le_refl _⟩, hW, hold, ⟨mj_ent_ls hn, by
      rw [mj_ent, List.length_append, List.length_replicate]
      omega⟩, fun q hq => by cases hq⟩
  refine mj_mono ?_ (k hG p e _ s m _ below meth c s.heap _ [] 0 0 hK)
  rintro t ⟨o, h1, h2, h3, h4, L, h5, h6⟩
  refine ⟨o, h1, h2, h3, L, ⟨?_, h4, ?_⟩, h6⟩
  · obtain ⟨r, M', hp, hm, -⟩ := h3
    cases r with
    | inl v => exact ⟨_, hm⟩
    | inr q => exact absurd hp (hnt _ _)
  · rw [Nat.zero_add, Nat.zero_add] at h5
    exact h5
/-- behind a call -/
theorem mj_after {kc' ks' kc2 ks2 : Nat} {Post' : mj_O → mj_M → Prop} (hG : mj_F g) {p : Program} {e : Env} {R : Room} {s : State} {m : MethodId} {args : Array Value} {below : List Frame} {meth : Method} {c : Code} {H : Heap} {ls : Array Slot} {locs : List Loc} {cells slots : Nat} {top : List Value}
    (hK : mj_K g Y d (kc' + kc2) (ks' + ks2) lv M p R s m args meth c H ls locs cells slots) (run : va_Run p g.1 e R s m args below meth c H locs cells slots kc' ks' (F0 m pc ls top) (st.map (mj_tr g.2.2.2.1 g.2.2.1.heap.size)) (fun _ o t => mj_Q g Post' o t) (fun q => g.2.2.1.heap.size ≤ q))
    (hP : ∀ r M1, Post' r M1 → ∃ v, r = .inl v ∧ mj_J g Y d kc2 ks2 (pc + 3, lv, v.toList ++ st, M1) Post) : W p g.1 e R s m args below meth c H locs cells slots (mj_Z g Post below s (cells + (kc' + kc2)) (slots + (ks' + ks2))) (F0 m pc ls top) := by
  intro T hT X
  obtain ⟨v, st₀, t, T', L, h0, X', hL, e1, e2, ⟨r, M1, hp, hm, hw1, hold⟩, stp⟩ := run T hT X
  obtain ⟨v', rfl, hJ⟩ := hP r M1 hp
  have hv : v = v'.map (mj_tr g.2.2.2.1 g.2.2.1.heap.size) := Outcome.returned.inj hm
  subst hv
  have hK' : mj_K g Y d kc2 ks2 lv M1 p R s m args meth c T'.heap ls (locs ++ L) (cells + kc') (slots + ks') :=
    ⟨hK.1, ⟨hK.2.1.1, hK.2.1.2.1, by have := hK.2.1.2.2.1; omega, by have := hK.2.1.2.2.2; omega⟩, by rw [e1]; exact hw1, fun q hq => by rw [e1]; exact hold q hq, hK.2.2.2.2.1, fun q hq => (List.mem_append.mp hq).elim (hK.2.2.2.2.2 q) (hL q)⟩
  obtain ⟨t2, a1, b1⟩ := hJ hG p e R s m args below meth c T'.heap ls _ _ _ hK' T' rfl X'
  refine ⟨t2, stp t2 ?_, ?_⟩
  · have e3 : (v'.toList ++ st).map (mj_tr g.2.2.2.1 g.2.2.1.heap.size) = (v'.map (mj_tr g.2.2.2.1 g.2.2.1.heap.size)).toList ++ st.map (mj_tr g.2.2.2.1 g.2.2.1.heap.size) := by cases v' <;> rfl
    rw [← e3]
    exact a1
  · rw [← Nat.add_assoc, ← Nat.add_assoc]
    exact b1
/-- what is known of a method that is called -/
def mj_yk (Y : mj_Y) (n : Nat) : Prop := Cond.code Y.2.1 Y.2.2.1 Y.2.2.2.1 Y.2.2.2.2 ∈ mj_tbl ∧ Cond.initialized Y.1 ∈ mj_tbl ∧ (Y.2.1.cls = Y.1 ∧ plainName Y.1 = true ∧ Y.1 ≠ "java/lang/invoke/MethodHandle" ∧ Y.1 ≠ "java/lang/invoke/VarHandle") ∧ Y.2.2.2.1 ≤ 21 ∧ (parseMethodDescriptor Y.2.1.desc).map (fun q => q.parameters.length) = some n
theorem mj_room {d' kc' ks' kc2 ks2 : Nat} {p : Program} {R : Room} {s : State} {m : MethodId} {args : Array Value} {meth : Method} {c : Code} {H : Heap} {ls : Array Slot} {locs : List Loc} {cells slots n : Nat} (hK : mj_K g Y (d' + 1) (kc' + kc2) (ks' + ks2) lv M p R s m args meth c H ls locs cells slots) (hy : mj_yk Y' n) :
    ((mj_rm d' kc' ks').cells = kc' ∧ (mj_rm d' kc' ks').slots = ks' ∧ (mj_rm d' kc' ks').frames + 1 ≤ R.frames ∧ 8 + (Y'.2.2.2.1 + 11) + (mj_rm d' kc' ks').locals ≤ R.locals ∧ (∀ w ∈ mj_ws Y', ∀ (a' : Array Value) (U : State), s.WarmedH U.vm → w.before a' U = true) ∧ Cond.code Y'.2.1 Y'.2.2.1 Y'.2.2.2.1 Y'.2.2.2.2 ∈ mj_ws Y') ∧
      (Cond.code Y'.2.1 Y'.2.2.1 Y'.2.2.2.1 Y'.2.2.2.2).before args s = true ∧ (Cond.initialized Y'.2.1.cls).before args s = true ∧ (Y'.2.1.cls ≠ "java/lang/invoke/MethodHandle" ∧ Y'.2.1.cls ≠ "java/lang/invoke/VarHandle") ∧ (∀ sig, parseMethodDescriptor Y'.2.1.desc = some sig → n = sig.parameters.length) := by
  obtain ⟨h1, h2, ⟨h3, h4, h5, h6⟩, h7, h8⟩ := hy
  have hts := hK.1.2.2.2.2.1
  have hr := hK.2.1
  refine ⟨⟨rfl, rfl, hr.1, ?_, ?_, List.mem_cons_self⟩, hts _ h1, ?_, ⟨?_, ?_⟩, ?_⟩
  · have h9 := hr.2.1
    show 8 + (Y'.2.2.2.1 + 11) + 40 * d' ≤ R.locals
    omega
  · intro w hw a' U hU
    rcases List.mem_cons.mp hw with rfl | hw
    · exact mj_warm h1 (hts _ h1) hU
    · exact mj_warm hw (hts _ hw) hU
  · rw [h3]; exact hts _ h2
  · rw [h3]; exact h5
  · rw [h3]; exact h6
  · intro sig h
    rw [h] at h8
    exact (Option.some.inj h8).symm
theorem mj_pre {p : Program} {R : Room} {s : State} {m : MethodId} {args : Array Value} {meth : Method} {c : Code} {H : Heap} {ls : Array Slot} {locs : List Loc} {cells slots : Nat} (hK : mj_K g Y d kc ks lv M p R s m args meth c H ls locs cells slots) (vs : List mj_V) (hz : g.2.2.1.heap.size ≤ H.size) :
    ∀ U : State, U.heap = H → s.WarmedH U.vm → mj_Pc g M vs (vs.map (mj_tr g.2.2.2.1 g.2.2.1.heap.size)).toArray U := by
  intro U hU hW
  exact ⟨rfl, hK.1.2.2.2.2.2.2.2.2.1.trans hW.alike, by rw [hU]; exact hz, by rw [hU]; exact hK.2.2.1, fun q hq => by rw [hU]; exact hK.2.2.2.1 q hq⟩
theorem mj_callS {d' kc' ks' kc2 ks2 idx n : Nat} {vs stk : List mj_V} (hd : decode Y.2.2.1 pc = .ok (.invokestatic idx, 3)) (hy : mj_yk Y' n) (hl : Cond.methodLink Y.1 idx Y'.2.1 ∈ mj_tbl ∨ Cond.methodLinkNest Y.1 idx Y'.2.1 "ChartForest" ∈ mj_tbl) (hs : Cond.static Y'.2.1 ∈ mj_tbl)
    (hstk : stk = vs.reverse ++ st) (hn : vs.length = n) (he : (mj_e1 vs).length ≤ Y'.2.2.2.1) (hst : (st.map mj_cat).sum ≤ 8)
    (k : mj_J g Y' d' kc' ks' (0, mj_ent vs Y'.2.2.2.1, [], M) (fun r M1 => ∃ v, r = .inl v ∧ mj_J g Y (d' + 1) kc2 ks2 (pc + 3, lv, v.toList ++ st, M1) Post)) : mj_J g Y (d' + 1) (kc' + kc2) (ks' + ks2) (pc, lv, stk, M) Post := by
  intro hG p e R s m args below meth c H ls locs cells slots hK
  subst hstk
  obtain ⟨hr, hr1, hr2, hr3, hr4⟩ := mj_room (kc' := kc') (ks' := ks') hK hy
  have hts := hK.1.2.2.2.2.1
  have hM := mj_met hG hy.2.2.1.1 hy.2.2.1.2.1 he k (fun q M' h => by obtain ⟨v, h, -⟩ := h; cases h)
  have hz : g.2.2.1.heap.size ≤ H.size := by rw [hK.2.2.1.1]; exact Nat.le_add_right _ _
  have hf : cells + kc' ≤ R.cells ∧ slots + ks' ≤ R.slots := ⟨by have := hK.2.1.2.2.1; omega, by have := hK.2.1.2.2.2; omega⟩
  have S : CallFix p m c Y.2.2.1 Y.2.2.2.1 s args mj_tbl Y.1 := ⟨hK.1.1, hK.1.2.1, hK.1.2.2.1, hK.1.2.2.2.1, hts⟩
  have hroom : 2 * (F0 m pc ls ((vs.reverse ++ st).map (mj_tr g.2.2.2.1 g.2.2.1.heap.size))).monitorRoom + ((st.map (mj_tr g.2.2.2.1 g.2.2.1.heap.size)).map fun v => v.category).sum ≤ 8 := by
    refine lv_room ?_
    rw [List.map_map]
    have e1 : ((fun v : Value => v.category) ∘ mj_tr g.2.2.2.1 g.2.2.1.heap.size) = mj_cat := funext fun w => mj_tr_cat _ _ w
    rw [e1]; exact hst
  have hstack : (F0 m pc ls ((vs.reverse ++ st).map (mj_tr g.2.2.2.1 g.2.2.1.heap.size))).stack = (vs.map (mj_tr g.2.2.2.1 g.2.2.1.heap.size)).reverse ++ st.map (mj_tr g.2.2.2.1 g.2.2.1.heap.size) := by
    show (vs.reverse ++ st).map _ = _
    rw [List.map_append, List.map_reverse]
  have hsize : (F0 m pc ls ((vs.reverse ++ st).map (mj_tr g.2.2.2.1 g.2.2.1.heap.size))).locals.size = Y.2.2.2.1 := hK.2.2.2.2.1.1.1.trans hK.2.2.2.2.1.2
  have hp : PreS s H (mj_Pc g M vs) (vs.map (mj_tr g.2.2.2.1 g.2.2.1.heap.size)) := ⟨mj_Pc_blind g M vs, mj_pre hK vs hz⟩
  rcases hl with hl | hl
  · exact mj_after hG hK (va_runS S hM ⟨⟨hr.1, hr.2.1, hr.2.2.1, hr.2.2.2.1, hr.2.2.2.2.1, hr.2.2.2.2.2, hr1, hr2, hr3, hr4, hts _ hl⟩, hts _ hs⟩ hp rfl (by rw [List.length_map]; exact hn) hsize hstack hroom hd hf) (fun r M1 h => h)
  · exact mj_after hG hK (va_runSN S hM ⟨⟨hr, hr1, hr2, hr3, hr4, hts _ hl⟩, hts _ hs, trivial⟩ hp rfl (by rw [List.length_map]; exact hn) hsize hstack hroom hd hf) (fun r M1 h => h)
theorem mj_callV {d' kc' ks' kc2 ks2 idx n p0 ci : Nat} {vs stk : List mj_V} {fl : List (String × String × Bool)} {fs : List mj_V} (hd : decode Y.2.2.1 pc = .ok (.invokevirtual idx, 3)) (hy : mj_yk Y' n) (hl : Cond.methodLink Y.1 idx Y'.2.1 ∈ mj_tbl ∨ Cond.methodLinkNest Y.1 idx Y'.2.1 "ChartForest" ∈ mj_tbl) (hs : Cond.instanceMethod Y'.2.1 ∈ mj_tbl) (hse : Cond.selects Y'.1 Y'.2.1 Y'.2.1 ∈ mj_tbl)
    (hc : mj_cf[ci]? = some (Y'.1, fl)) (hM0 : M[p0]? = some (.inr (.inr (ci, fs)))) (hstk : stk = vs.reverse ++ .inr (.inr (.inl (some (p0, 0)))) :: st) (hn : vs.length = n) (he : (mj_e1 (.inr (.inr (.inl (some (p0, 0)))) :: vs)).length ≤ Y'.2.2.2.1) (hst : (st.map mj_cat).sum ≤ 8)
    (k : mj_J g Y' d' kc' ks' (0, mj_ent (.inr (.inr (.inl (some (p0, 0)))) :: vs) Y'.2.2.2.1, [], M) (fun r M1 => ∃ v, r = .inl v ∧ mj_J g Y (d' + 1) kc2 ks2 (pc + 3, lv, v.toList ++ st, M1) Post)) : mj_J g Y (d' + 1) (kc' + kc2) (ks' + ks2) (pc, lv, stk, M) Post := by
  intro hG p e R s m args below meth c H ls locs cells slots hK
  subst hstk
  obtain ⟨hr, hr1, hr2, hr3, hr4⟩ := mj_room (kc' := kc') (ks' := ks') hK hy
  have hts := hK.1.2.2.2.2.1
  have hM := mj_met hG hy.2.2.1.1 hy.2.2.1.2.1 he k (fun q M' h => by obtain ⟨v, h, -⟩ := h; cases h)
  have hz : g.2.2.1.heap.size ≤ H.size := by rw [hK.2.2.1.1]; exact Nat.le_add_right _ _
  have hf : cells + kc' ≤ R.cells ∧ slots + ks' ≤ R.slots := ⟨by have := hK.2.1.2.2.1; omega, by have := hK.2.1.2.2.2; omega⟩
  have S : CallFix p m c Y.2.2.1 Y.2.2.2.1 s args mj_tbl Y.1 := ⟨hK.1.1, hK.1.2.1, hK.1.2.2.1, hK.1.2.2.2.1, hts⟩
  have hroom : 2 * (F0 m pc ls ((vs.reverse ++ .inr (.inr (.inl (some (p0, 0)))) :: st).map (mj_tr g.2.2.2.1 g.2.2.1.heap.size))).monitorRoom + ((st.map (mj_tr g.2.2.2.1 g.2.2.1.heap.size)).map fun v => v.category).sum ≤ 8 := by
    refine lv_room ?_
    rw [List.map_map]
    have e1 : ((fun v : Value => v.category) ∘ mj_tr g.2.2.2.1 g.2.2.1.heap.size) = mj_cat := funext fun w => mj_tr_cat _ _ w
    rw [e1]; exact hst
  have hstack : (F0 m pc ls ((vs.reverse ++ .inr (.inr (.inl (some (p0, 0)))) :: st).map (mj_tr g.2.2.2.1 g.2.2.1.heap.size))).stack = (vs.map (mj_tr g.2.2.2.1 g.2.2.1.heap.size)).reverse ++ .ref (g.2.2.1.heap.size + mj_o p0) :: st.map (mj_tr g.2.2.2.1 g.2.2.1.heap.size) := by
    show (vs.reverse ++ .inr (.inr (.inl (some (p0, 0)))) :: st).map _ = _
    rw [List.map_append, List.map_reverse]
    rfl
  have hsize : (F0 m pc ls ((vs.reverse ++ .inr (.inr (.inl (some (p0, 0)))) :: st).map (mj_tr g.2.2.2.1 g.2.2.1.heap.size))).locals.size = Y.2.2.2.1 := hK.2.2.2.2.1.1.1.trans hK.2.2.2.2.1.2
  have hcl := mj_cls_at hc
  obtain ⟨r, hr0, cell, q1, q2, q3, q4⟩ := hK.2.2.1.2 p0 _ hM0
  have hKs : va_K g.2.1 mj_cls [] s := hG.1.moved hK.1.2.2.2.2.2.2.2.2.1
  obtain ⟨-, hfc, -⟩ := hKs.1 ci _ hcl
  have hp : PreV s H Y'.1 (g.2.2.1.heap.size + mj_o p0) (mj_Pc g M (.inr (.inr (.inl (some (p0, 0)))) :: vs)) (vs.map (mj_tr g.2.2.2.1 g.2.2.1.heap.size)) := ⟨mj_Pc_blind _ _ _, ⟨cell, q1, by rw [q3]; rfl, by rw [q2]; exact hfc⟩, mj_pre hK (.inr (.inr (.inl (some (p0, 0)))) :: vs) hz⟩
  rcases hl with hl | hl
  · exact mj_after hG hK (va_runV S hM ⟨⟨hr.1, hr.2.1, hr.2.2.1, hr.2.2.2.1, hr.2.2.2.2.1, hr.2.2.2.2.2, hr1, hr2, hr3, hr4, hts _ hl⟩, hts _ hs, hts _ hse⟩ hp rfl (by rw [List.length_map]; exact hn) hsize hstack hroom hd hf) (fun r M1 h => h)
  · exact mj_after hG hK (va_runVN S hM ⟨⟨hr, hr1, hr2, hr3, hr4, hts _ hl⟩, hts _ hs, hts _ hse⟩ hp rfl (by rw [List.length_map]; exact hn) hsize hstack hroom hd hf) (fun r M1 h => h)
theorem mj_callI {d' kc' ks' kc2 ks2 idx n : Nat} {r0 : Nat × Nat} {vs stk : List mj_V} (hd : decode Y.2.2.1 pc = .ok (.invokespecial idx, 3)) (hy : mj_yk Y' n) (hret : Y'.2.2.2.2 = none) (hnm : Y'.2.1.name = "<init>") (hl : Cond.methodLink Y.1 idx Y'.2.1 ∈ mj_tbl ∨ Cond.methodLinkNest Y.1 idx Y'.2.1 "ChartForest" ∈ mj_tbl) (hs : Cond.instanceMethod Y'.2.1 ∈ mj_tbl)
    (hstk : stk = vs.reverse ++ .inr (.inr (.inl (some r0))) :: st) (hn : vs.length = n) (he : (mj_e1 (.inr (.inr (.inl (some r0))) :: vs)).length ≤ Y'.2.2.2.1) (hst : (st.map mj_cat).sum ≤ 8)
    (k : mj_J g Y' d' kc' ks' (0, mj_ent (.inr (.inr (.inl (some r0))) :: vs) Y'.2.2.2.1, [], M) (fun r M1 => ∃ v, r = .inl v ∧ mj_J g Y (d' + 1) kc2 ks2 (pc + 3, lv, v.toList ++ st, M1) Post)) : mj_J g Y (d' + 1) (kc' + kc2) (ks' + ks2) (pc, lv, stk, M) Post := by
  intro hG p e R s m args below meth c H ls locs cells slots hK
  subst hstk
  obtain ⟨hr, hr1, hr2, hr3, hr4⟩ := mj_room (kc' := kc') (ks' := ks') hK hy
  have hts := hK.1.2.2.2.2.1
  have hM := mj_met hG hy.2.2.1.1 hy.2.2.1.2.1 he k (fun q M' h => by obtain ⟨v, h, -⟩ := h; cases h)
  have hz : g.2.2.1.heap.size ≤ H.size := by rw [hK.2.2.1.1]; exact Nat.le_add_right _ _
  have hf : cells + kc' ≤ R.cells ∧ slots + ks' ≤ R.slots := ⟨by have := hK.2.1.2.2.1; omega, by have := hK.2.1.2.2.2; omega⟩
  have S : CallFix p m c Y.2.2.1 Y.2.2.2.1 s args mj_tbl Y.1 := ⟨hK.1.1, hK.1.2.1, hK.1.2.2.1, hK.1.2.2.2.1, hts⟩
  have hroom : 2 * (F0 m pc ls ((vs.reverse ++ .inr (.inr (.inl (some r0))) :: st).map (mj_tr g.2.2.2.1 g.2.2.1.heap.size))).monitorRoom + ((st.map (mj_tr g.2.2.2.1 g.2.2.1.heap.size)).map fun v => v.category).sum ≤ 8 := by
    refine lv_room ?_
    rw [List.map_map]
    have e1 : ((fun v : Value => v.category) ∘ mj_tr g.2.2.2.1 g.2.2.1.heap.size) = mj_cat := funext fun w => mj_tr_cat _ _ w
    rw [e1]; exact hst
  have hstack : (F0 m pc ls ((vs.reverse ++ .inr (.inr (.inl (some r0))) :: st).map (mj_tr g.2.2.2.1 g.2.2.1.heap.size))).stack = (vs.map (mj_tr g.2.2.2.1 g.2.2.1.heap.size)).reverse ++ .ref (g.2.2.1.heap.size + mj_o r0.1 + r0.2) :: st.map (mj_tr g.2.2.2.1 g.2.2.1.heap.size) := by
    show (vs.reverse ++ .inr (.inr (.inl (some r0))) :: st).map _ = _
    rw [List.map_append, List.map_reverse]
    rfl
  have hsize : (F0 m pc ls ((vs.reverse ++ .inr (.inr (.inl (some r0))) :: st).map (mj_tr g.2.2.2.1 g.2.2.1.heap.size))).locals.size = Y.2.2.2.1 := hK.2.2.2.2.1.1.1.trans hK.2.2.2.2.1.2
  have hp : PreS s H (mj_Pc g M (.inr (.inr (.inl (some r0))) :: vs)) (.ref (g.2.2.1.heap.size + mj_o r0.1 + r0.2) :: vs.map (mj_tr g.2.2.2.1 g.2.2.1.heap.size)) := ⟨mj_Pc_blind _ _ _, mj_pre hK (.inr (.inr (.inl (some r0))) :: vs) hz⟩
  rw [hret] at hr hr1
  rcases hl with hl | hl
  · exact mj_after hG hK (va_runI S hM ⟨⟨hr.1, hr.2.1, hr.2.2.1, hr.2.2.2.1, hr.2.2.2.2.1, hr.2.2.2.2.2, hr1, hr2, hr3, hr4, hts _ hl⟩, hnm, hts _ hs⟩ hp rfl (by rw [List.length_map]; exact hn) hsize hstack hroom hd hf) (fun r M1 h => h)
  · exact mj_after hG hK (va_runIN S hM ⟨⟨hr, hr1, hr2, hr3, hr4, hts _ hl⟩, hnm, hts _ hs⟩ hp rfl (by rw [List.length_map]; exact hn) hsize hstack hroom hd hf) (fun r M1 h => h)
end MJC
end
section
/-! ===== the world behind the constructors: every reference is fixed, every number stands in one function of place, index, column ===== -/
abbrev mj_w : Type := Nat → Int → Int → Int
abbrev mj_Sh : Type := (Nat × Nat) ⊕ (Nat × Nat) ⊕ (Nat × List (Option Nat))
def mj_sh : List mj_Sh := [
  .inr (.inr (0, [some 1, some 4, some 6, some 11])),
  .inr (.inr (1, [none, some 2, some 3])), .inl (0, 10), .inl (0, 44),
  .inr (.inr (2, [none, some 5])), .inl (0, 12),
  .inr (.inr (3, [some 1, none, some 7, some 8, some 9, some 10, none, none])), .inr (.inl (13, 44)), .inl (0, 13), .inr (.inl (13, 5)), .inl (0, 572),
  .inr (.inr (4, [some 4, some 15, some 17, none, some 12, some 13, none, some 14])), .inl (0, 845), .inl (1, 845), .inl (2, 845),
  .inr (.inr (5, [some 4, some 16])), .inl (2, 845),
  .inr (.inr (6, [some 1, some 15, none, none, none, some 18, some 19, some 20])), .inl (0, 910), .inl (0, 910), .inl (2, 910),
  .inr (.inr (7, [none, none, none, some 22, some 23, some 24, none, some 25, some 26, none, some 27, some 28, some 29, some 30, none, none, some 31, some 32, none])),
  .inl (0, 10), .inl (0, 10), .inl (0, 30), .inl (0, 12), .inl (1, 7436), .inl (1, 845), .inl (1, 845), .inl (2, 845), .inl (1, 845), .inl (0, 900), .inl (2, 900),
  .inl (2, 1)]
def mj_fl : List (Option Nat) → Nat → (Int → Int → Int) → List mj_V
  | [], _, _ => []
  | none :: r, k, f => .inl (f (k : Int) 0) :: mj_fl r (k + 1) f
  | some q :: r, k, f => .inr (.inr (.inl (some (q, 0)))) :: mj_fl r (k + 1) f
def mj_sk (s : mj_Sh) (f : Int → Int → Int) : mj_C := match s with
  | .inl (k, n) => .inl (k, n, fun i => f (i : Int) 0)
  | .inr (.inl (n, k)) => .inr (.inl (n, k, fun i j => f (i : Int) (j : Int)))
  | .inr (.inr (ci, l)) => .inr (.inr (ci, mj_fl l 0 f))
def mj_mem (nn : Nat) (xs : mj_M) (w : mj_w) : mj_M := (List.range nn).map (fun p => mj_sk (mj_sh.getD p (.inl (0, 0))) (w p)) ++ xs
def mj_wu (w : mj_w) (p : Nat) (i j v : Int) : mj_w := fun q a b => if q = p ∧ a = i ∧ b = j then v else w q a b
theorem mj_wu_s (w : mj_w) (p : Nat) (i j v : Int) : mj_wu w p i j v p i j = v := by simp [mj_wu]
theorem mj_wu_n {w : mj_w} {p q : Nat} {i j a b v : Int} (h : ¬ (q = p ∧ a = i ∧ b = j)) : mj_wu w p i j v q a b = w q a b := by simp [mj_wu, h]
theorem mj_wu_p {w : mj_w} {p q : Nat} {i j a b v : Int} (h : q ≠ p) : mj_wu w p i j v q a b = w q a b := by simp [mj_wu, h]
theorem mj_mem_at {nn p : Nat} {xs : mj_M} {w : mj_w} {s : mj_Sh} (hp : p < nn) (hs : mj_sh[p]? = some s) : (mj_mem nn xs w)[p]? = some (mj_sk s (w p)) := by
  rw [mj_mem, List.getElem?_append_left (by rw [List.length_map, List.length_range]; exact hp), List.getElem?_map, List.getElem?_range hp]
  simp [List.getD, hs]
theorem mj_mem_set {nn p : Nat} {xs : mj_M} {w w' : mj_w} {s : mj_Sh} {c : mj_C} (hp : p < nn) (hs : mj_sh[p]? = some s) (hc : c = mj_sk s (w' p)) (ho : ∀ q, q ≠ p → w' q = w q) : (mj_mem nn xs w).set p c = mj_mem nn xs w' := by
  subst hc
  apply List.ext_getElem?
  intro q
  by_cases e : p = q
  · subst e
    rw [List.getElem?_set_self (by rw [mj_mem, List.length_append, List.length_map, List.length_range]; omega), mj_mem_at hp hs]
  · rw [List.getElem?_set_ne e, mj_mem, mj_mem, List.getElem?_append, List.getElem?_append]
    simp only [List.length_map, List.length_range, List.getElem?_map]
    split
    · rename_i h
      rw [List.getElem?_range h]
      simp [ho q (Ne.symm e)]
    · rfl
theorem mj_fl_len (l : List (Option Nat)) (k : Nat) (f : Int → Int → Int) : (mj_fl l k f).length = l.length := by
  induction l generalizing k with
  | nil => rfl
  | cons a r ih => cases a <;> simp [mj_fl, ih]
theorem mj_fl_i {l : List (Option Nat)} {j k : Nat} {f : Int → Int → Int} (h : l[j]? = some none) : (mj_fl l k f)[j]? = some (.inl (f ((k + j : Nat) : Int) 0)) := by
  induction l generalizing j k with
  | nil => cases h
  | cons a r ih =>
    cases j with
    | zero =>
      cases a with
      | none => rfl
      | some q => cases h
    | succ j =>
      have h2 : r[j]? = some none := h
      have h3 := ih (k := k + 1) h2
      rw [show k + 1 + j = k + (j + 1) by omega] at h3
      cases a <;> exact h3
theorem mj_fl_r {l : List (Option Nat)} {j k q : Nat} {f : Int → Int → Int} (h : l[j]? = some (some q)) : (mj_fl l k f)[j]? = some (.inr (.inr (.inl (some (q, 0))))) := by
  induction l generalizing j k with
  | nil => cases h
  | cons a r ih =>
    cases j with
    | zero =>
      cases a with
      | none => cases h
      | some q' => cases h; rfl
    | succ j =>
      have h2 : r[j]? = some (some q) := h
      cases a <;> exact ih (k := k + 1) h2
theorem mj_fl_set {l : List (Option Nat)} {j k : Nat} {f f' : Int → Int → Int} {x : Int} (h : l[j]? = some none) (hx : f' ((k + j : Nat) : Int) 0 = x) (ho : ∀ i : Nat, i ≠ k + j → f' (i : Int) 0 = f (i : Int) 0) : (mj_fl l k f).set j (.inl x) = mj_fl l k f' := by
  induction l generalizing j k with
  | nil => cases h
  | cons a r ih =>
    cases j with
    | zero =>
      cases a with
      | none =>
        show .inl x :: mj_fl r (k + 1) f = .inl (f' (k : Int) 0) :: mj_fl r (k + 1) f'
        have e1 : ∀ (r : List (Option Nat)) (n : Nat), k < n → mj_fl r n f = mj_fl r n f' := by
          intro r
          induction r with
          | nil => intros; rfl
          | cons a r ih =>
            intro n hn
            cases a with
            | none => simp only [mj_fl]; rw [ih (n + 1) (by omega), ho n (by omega)]
            | some q => simp only [mj_fl]; rw [ih (n + 1) (by omega)]
        rw [e1 r (k + 1) (by omega), ← hx]
        rfl
      | some q => cases h
    | succ j =>
      have h2 : r[j]? = some none := h
      have h3 := ih (k := k + 1) h2 (by rw [show k + 1 + j = k + (j + 1) by omega]; exact hx) (fun i hi => ho i (by omega))
      cases a with
      | none =>
        show .inl (f (k : Int) 0) :: (mj_fl r (k + 1) f).set j (.inl x) = .inl (f' (k : Int) 0) :: mj_fl r (k + 1) f'
        rw [h3, ho k (by omega)]
      | some q =>
        show .inr (.inr (.inl (some (q, 0)))) :: (mj_fl r (k + 1) f).set j (.inl x) = .inr (.inr (.inl (some (q, 0)))) :: mj_fl r (k + 1) f'
        rw [h3]
/-- a number's field, a reference's field -/
def mj_fI (p k : Nat) (C nm ds : String) (fin : Bool) : Prop := ∃ ci l fl, mj_sh[p]? = some (.inr (.inr (ci, l))) ∧ mj_cf[ci]? = some (C, fl) ∧ fl[k]? = some (nm, ds, fin) ∧ l[k]? = some none
def mj_fR (p k q : Nat) (C nm ds : String) (fin : Bool) : Prop := ∃ ci l fl, mj_sh[p]? = some (.inr (.inr (ci, l))) ∧ mj_cf[ci]? = some (C, fl) ∧ fl[k]? = some (nm, ds, fin) ∧ l[k]? = some (some q)
/-- a call's end in the world -/
def mj_P (nn : Nat) (xs : mj_M) (Post : Option mj_V → mj_w → Prop) : mj_O → mj_M → Prop := fun o M => ∃ v w, o = .inl v ∧ M = mj_mem nn xs w ∧ Post v w
section MJW
variable {g : mj_G} {Y Y' : mj_Y} {d kc ks pc nn N0 : Nat} {lv : mj_L} {st : List mj_V} {xs : mj_M} {w : mj_w} {Post : mj_O → mj_M → Prop}
theorem mj_q_geti {p k idx : Nat} {C nm ds : String} {fin : Bool} (hd : decode Y.2.2.1 pc = .ok (.getfield idx, 3)) (hf : mj_fI p k C nm ds fin) (hw : Cond.fieldLink Y.1 idx C nm ds ∈ mj_tbl ∨ Cond.fieldLinkNest Y.1 idx C nm ds "ChartForest" ∈ mj_tbl) (hb : Nat.blt p N0 = true) (hn : N0 ≤ nn)
    (kk : mj_J g Y d kc ks (pc + 3, lv, .inl (w p (k : Int) 0) :: st, mj_mem nn xs w) Post) : mj_J g Y d kc ks (pc, lv, .inr (.inr (.inl (some (p, 0)))) :: st, mj_mem nn xs w) Post := by
  obtain ⟨ci, l, fl, h1, h2, h3, h4⟩ := hf
  have hp : p < nn := Nat.lt_of_lt_of_le (Nat.blt_eq.mp hb) hn
  refine mj_r_getf hd h2 h3 hw (mj_mem_at hp h1) (w := .inl (w p (k : Int) 0)) ?_ kk
  rw [mj_fl_i h4, Nat.zero_add]
theorem mj_q_getr {p k q idx : Nat} {C nm ds : String} {fin : Bool} (hd : decode Y.2.2.1 pc = .ok (.getfield idx, 3)) (hf : mj_fR p k q C nm ds fin) (hw : Cond.fieldLink Y.1 idx C nm ds ∈ mj_tbl ∨ Cond.fieldLinkNest Y.1 idx C nm ds "ChartForest" ∈ mj_tbl) (hb : Nat.blt p N0 = true) (hn : N0 ≤ nn)
    (kk : mj_J g Y d kc ks (pc + 3, lv, .inr (.inr (.inl (some (q, 0)))) :: st, mj_mem nn xs w) Post) : mj_J g Y d kc ks (pc, lv, .inr (.inr (.inl (some (p, 0)))) :: st, mj_mem nn xs w) Post := by
  obtain ⟨ci, l, fl, h1, h2, h3, h4⟩ := hf
  have hp : p < nn := Nat.lt_of_lt_of_le (Nat.blt_eq.mp hb) hn
  exact mj_r_getf hd h2 h3 hw (mj_mem_at hp h1) (mj_fl_r h4) kk
theorem mj_fit_I (x : Int) : ∀ b z, mj_fits b z "I" (.inl x) := fun b z => ⟨.int, by decide +kernel, rfl, rfl⟩
theorem mj_fit_Z {x : Int} (h : x = 0 ∨ x = 1) : ∀ b z, mj_fits b z "Z" (.inl x) := fun b z => ⟨.boolean, by decide +kernel, mj_nb h, by rcases h with rfl | rfl <;> rfl⟩
theorem mj_q_put {p k idx : Nat} {C nm ds : String} {x : Int} (hd : decode Y.2.2.1 pc = .ok (.putfield idx, 3)) (hf : mj_fI p k C nm ds false) (hft : ∀ b z, mj_fits b z ds (.inl x)) (hw : Cond.fieldLink Y.1 idx C nm ds ∈ mj_tbl ∨ Cond.fieldLinkNest Y.1 idx C nm ds "ChartForest" ∈ mj_tbl) (hb : Nat.blt p N0 = true) (hn : N0 ≤ nn)
    (kk : ∀ w1, w1 = mj_wu w p (k : Int) 0 x → mj_J g Y d kc ks (pc + 3, lv, st, mj_mem nn xs w1) Post) : mj_J g Y d kc ks (pc, lv, .inl x :: .inr (.inr (.inl (some (p, 0)))) :: st, mj_mem nn xs w) Post := by
  obtain ⟨ci, l, fl, h1, h2, h3, h4⟩ := hf
  have hp : p < nn := Nat.lt_of_lt_of_le (Nat.blt_eq.mp hb) hn
  refine mj_r_putf hd h2 h3 hw (mj_mem_at hp h1) (by rw [mj_fl_len]; exact (List.getElem?_eq_some_iff.mp h4).1) hft ?_
  rw [mj_mem_set (w' := mj_wu w p (k : Int) 0 x) hp h1 ?_ ?_]
  · exact kk _ rfl
  · show _ = Sum.inr (Sum.inr (ci, mj_fl l 0 _))
    rw [mj_fl_set (f' := mj_wu w p (k : Int) 0 x p) h4]
    · rw [Nat.zero_add]; exact mj_wu_s _ _ _ _ _
    · intro i hi
      exact mj_wu_n (fun q => hi (by have := q.2.1; omega))
  · intro q hq
    funext a b
    exact mj_wu_p hq
theorem mj_q_iald {p n : Nat} {x : Int} (hd : decode Y.2.2.1 pc = .ok (.iaload, 1)) (hs : mj_sh[p]? = some (.inl (0, n))) (hb : Nat.blt p N0 = true) (hn : N0 ≤ nn) (hz : Nat.blt n 2147483648 = true) (h0 : 0 ≤ x) (h1 : x < (n : Int))
    (kk : mj_J g Y d kc ks (pc + 1, lv, .inl (w p x 0) :: st, mj_mem nn xs w) Post) : mj_J g Y d kc ks (pc, lv, .inl x :: .inr (.inr (.inl (some (p, 0)))) :: st, mj_mem nn xs w) Post := by
  have hp : p < nn := Nat.lt_of_lt_of_le (Nat.blt_eq.mp hb) hn
  have hz2 := Nat.blt_eq.mp hz
  refine mj_r_iald hd (mj_mem_at hp hs) ⟨by omega, by omega⟩ h0 h1 ?_
  rw [Int.toNat_of_nonneg h0]
  exact kk
theorem mj_q_zald {p n : Nat} {x : Int} (hd : decode Y.2.2.1 pc = .ok (.baload, 1)) (hs : mj_sh[p]? = some (.inl (1, n))) (hb : Nat.blt p N0 = true) (hn : N0 ≤ nn) (hz : Nat.blt n 2147483648 = true) (h0 : 0 ≤ x) (h1 : x < (n : Int))
    (kk : mj_J g Y d kc ks (pc + 1, lv, .inl (w p x 0) :: st, mj_mem nn xs w) Post) : mj_J g Y d kc ks (pc, lv, .inl x :: .inr (.inr (.inl (some (p, 0)))) :: st, mj_mem nn xs w) Post := by
  have hp : p < nn := Nat.lt_of_lt_of_le (Nat.blt_eq.mp hb) hn
  have hz2 := Nat.blt_eq.mp hz
  refine mj_r_zald hd (mj_mem_at hp hs) ⟨by omega, by omega⟩ h0 h1 ?_
  rw [Int.toNat_of_nonneg h0]
  exact kk
theorem mj_q_lald {p n : Nat} {x : Int} (hd : decode Y.2.2.1 pc = .ok (.laload, 1)) (hs : mj_sh[p]? = some (.inl (2, n))) (hb : Nat.blt p N0 = true) (hn : N0 ≤ nn) (hz : Nat.blt n 2147483648 = true) (h0 : 0 ≤ x) (h1 : x < (n : Int))
    (kk : mj_J g Y d kc ks (pc + 1, lv, .inr (.inl (w p x 0)) :: st, mj_mem nn xs w) Post) : mj_J g Y d kc ks (pc, lv, .inl x :: .inr (.inr (.inl (some (p, 0)))) :: st, mj_mem nn xs w) Post := by
  have hp : p < nn := Nat.lt_of_lt_of_le (Nat.blt_eq.mp hb) hn
  have hz2 := Nat.blt_eq.mp hz
  refine mj_r_lald hd (mj_mem_at hp hs) ⟨by omega, by omega⟩ h0 h1 ?_
  rw [Int.toNat_of_nonneg h0]
  exact kk
theorem mj_q_iast {p n : Nat} {x y : Int} (hd : decode Y.2.2.1 pc = .ok (.iastore, 1)) (hs : mj_sh[p]? = some (.inl (0, n))) (hb : Nat.blt p N0 = true) (hn : N0 ≤ nn) (hz : Nat.blt n 2147483648 = true) (h0 : 0 ≤ x) (h1 : x < (n : Int))
    (kk : ∀ w1, w1 = mj_wu w p x 0 y → mj_J g Y d kc ks (pc + 1, lv, st, mj_mem nn xs w1) Post) : mj_J g Y d kc ks (pc, lv, .inl y :: .inl x :: .inr (.inr (.inl (some (p, 0)))) :: st, mj_mem nn xs w) Post := by
  have hp : p < nn := Nat.lt_of_lt_of_le (Nat.blt_eq.mp hb) hn
  have hz2 := Nat.blt_eq.mp hz
  refine mj_r_iast hd (mj_mem_at hp hs) ⟨by omega, by omega⟩ h0 h1 ?_
  rw [mj_mem_set (w' := mj_wu w p x 0 y) hp hs ?_ ?_]
  · exact kk _ rfl
  · show _ = Sum.inl (0, n, _)
    congr 3
    funext j
    unfold mj_up mj_wu
    by_cases e : j = x.toNat
    · subst e
      simp [Int.toNat_of_nonneg h0]
    · have e2 : ¬ (j : Int) = x := by omega
      simp [e, e2]
  · intro q hq
    funext a b
    exact mj_wu_p hq
theorem mj_q_zast {p n : Nat} {x y : Int} (hd : decode Y.2.2.1 pc = .ok (.bastore, 1)) (hs : mj_sh[p]? = some (.inl (1, n))) (hb : Nat.blt p N0 = true) (hn : N0 ≤ nn) (hz : Nat.blt n 2147483648 = true) (h0 : 0 ≤ x) (h1 : x < (n : Int)) (hy : y = 0 ∨ y = 1)
    (kk : ∀ w1, w1 = mj_wu w p x 0 y → mj_J g Y d kc ks (pc + 1, lv, st, mj_mem nn xs w1) Post) : mj_J g Y d kc ks (pc, lv, .inl y :: .inl x :: .inr (.inr (.inl (some (p, 0)))) :: st, mj_mem nn xs w) Post := by
  have hp : p < nn := Nat.lt_of_lt_of_le (Nat.blt_eq.mp hb) hn
  have hz2 := Nat.blt_eq.mp hz
  refine mj_r_zast hd (mj_mem_at hp hs) ⟨by omega, by omega⟩ h0 h1 hy ?_
  rw [mj_mem_set (w' := mj_wu w p x 0 y) hp hs ?_ ?_]
  · exact kk _ rfl
  · show _ = Sum.inl (1, n, _)
    congr 3
    funext j
    unfold mj_up mj_wu
    by_cases e : j = x.toNat
    · subst e
      simp [Int.toNat_of_nonneg h0]
    · have e2 : ¬ (j : Int) = x := by omega
      simp [e, e2]
  · intro q hq
    funext a b
    exact mj_wu_p hq
theorem mj_q_last {p n : Nat} {x y : Int} (hd : decode Y.2.2.1 pc = .ok (.lastore, 1)) (hs : mj_sh[p]? = some (.inl (2, n))) (hb : Nat.blt p N0 = true) (hn : N0 ≤ nn) (hz : Nat.blt n 2147483648 = true) (h0 : 0 ≤ x) (h1 : x < (n : Int))
    (kk : ∀ w1, w1 = mj_wu w p x 0 y → mj_J g Y d kc ks (pc + 1, lv, st, mj_mem nn xs w1) Post) : mj_J g Y d kc ks (pc, lv, .inr (.inl y) :: .inl x :: .inr (.inr (.inl (some (p, 0)))) :: st, mj_mem nn xs w) Post := by
  have hp : p < nn := Nat.lt_of_lt_of_le (Nat.blt_eq.mp hb) hn
  have hz2 := Nat.blt_eq.mp hz
  refine mj_r_last hd (mj_mem_at hp hs) ⟨by omega, by omega⟩ h0 h1 ?_
  rw [mj_mem_set (w' := mj_wu w p x 0 y) hp hs ?_ ?_]
  · exact kk _ rfl
  · show _ = Sum.inl (2, n, _)
    congr 3
    funext j
    unfold mj_up mj_wu
    by_cases e : j = x.toNat
    · subst e
      simp [Int.toNat_of_nonneg h0]
    · have e2 : ¬ (j : Int) = x := by omega
      simp [e, e2]
  · intro q hq
    funext a b
    exact mj_wu_p hq
theorem mj_q_aald {p n k0 : Nat} {x : Int} (hd : decode Y.2.2.1 pc = .ok (.aaload, 1)) (hs : mj_sh[p]? = some (.inr (.inl (n, k0)))) (hb : Nat.blt p N0 = true) (hn : N0 ≤ nn) (hz : Nat.blt n 2147483648 = true) (h0 : 0 ≤ x) (h1 : x < (n : Int))
    (kk : mj_J g Y d kc ks (pc + 1, lv, .inr (.inr (.inl (some (p, x.toNat + 1)))) :: st, mj_mem nn xs w) Post) : mj_J g Y d kc ks (pc, lv, .inl x :: .inr (.inr (.inl (some (p, 0)))) :: st, mj_mem nn xs w) Post := by
  have hp : p < nn := Nat.lt_of_lt_of_le (Nat.blt_eq.mp hb) hn
  have hz2 := Nat.blt_eq.mp hz
  exact mj_r_aald hd (mj_mem_at hp hs) ⟨by omega, by omega⟩ h0 h1 kk
theorem mj_q_gald {p n k0 : Nat} {r x : Int} (hd : decode Y.2.2.1 pc = .ok (.iaload, 1)) (hs : mj_sh[p]? = some (.inr (.inl (n, k0)))) (hb : Nat.blt p N0 = true) (hn : N0 ≤ nn) (hz : Nat.blt k0 2147483648 = true) (hr0 : 0 ≤ r) (hr1 : r < (n : Int)) (h0 : 0 ≤ x) (h1 : x < (k0 : Int))
    (kk : mj_J g Y d kc ks (pc + 1, lv, .inl (w p r x) :: st, mj_mem nn xs w) Post) : mj_J g Y d kc ks (pc, lv, .inl x :: .inr (.inr (.inl (some (p, r.toNat + 1)))) :: st, mj_mem nn xs w) Post := by
  have hp : p < nn := Nat.lt_of_lt_of_le (Nat.blt_eq.mp hb) hn
  have hz2 := Nat.blt_eq.mp hz
  refine mj_r_gald hd (mj_mem_at hp hs) (by omega) ⟨by omega, by omega⟩ h0 h1 ?_
  rw [Int.toNat_of_nonneg h0, Int.toNat_of_nonneg hr0]
  exact kk
theorem mj_q_gast {p n k0 : Nat} {r x y : Int} (hd : decode Y.2.2.1 pc = .ok (.iastore, 1)) (hs : mj_sh[p]? = some (.inr (.inl (n, k0)))) (hb : Nat.blt p N0 = true) (hn : N0 ≤ nn) (hz : Nat.blt k0 2147483648 = true) (hr0 : 0 ≤ r) (hr1 : r < (n : Int)) (h0 : 0 ≤ x) (h1 : x < (k0 : Int))
    (kk : ∀ w1, w1 = mj_wu w p r x y → mj_J g Y d kc ks (pc + 1, lv, st, mj_mem nn xs w1) Post) : mj_J g Y d kc ks (pc, lv, .inl y :: .inl x :: .inr (.inr (.inl (some (p, r.toNat + 1)))) :: st, mj_mem nn xs w) Post := by
  have hp : p < nn := Nat.lt_of_lt_of_le (Nat.blt_eq.mp hb) hn
  have hz2 := Nat.blt_eq.mp hz
  refine mj_r_gast hd (mj_mem_at hp hs) (by omega) ⟨by omega, by omega⟩ h0 h1 ?_
  rw [mj_mem_set (w' := mj_wu w p r x y) hp hs ?_ ?_]
  · exact kk _ rfl
  · show _ = Sum.inr (Sum.inl (n, k0, _))
    congr 4
    funext i j
    unfold mj_up2 mj_wu
    by_cases e : i = r.toNat ∧ j = x.toNat
    · obtain ⟨rfl, rfl⟩ := e
      simp [Int.toNat_of_nonneg h0, Int.toNat_of_nonneg hr0]
    · have e2 : ¬ ((i : Int) = r ∧ (j : Int) = x) := by omega
      simp [e, e2]
  · intro q hq
    funext a b
    exact mj_wu_p hq
theorem mj_q_alen {p n k0 : Nat} (hd : decode Y.2.2.1 pc = .ok (.arraylength, 1)) (hs : mj_sh[p]? = some (.inl (k0, n))) (hb : Nat.blt p N0 = true) (hn : N0 ≤ nn) (hz : Nat.blt n 2147483648 = true)
    (kk : mj_J g Y d kc ks (pc + 1, lv, .inl (n : Int) :: st, mj_mem nn xs w) Post) : mj_J g Y d kc ks (pc, lv, .inr (.inr (.inl (some (p, 0)))) :: st, mj_mem nn xs w) Post := by
  have hp : p < nn := Nat.lt_of_lt_of_le (Nat.blt_eq.mp hb) hn
  exact mj_r_alen hd (mj_mem_at hp hs) (Nat.blt_eq.mp hz) kk
/-- a number whose width is known stands for itself -/
theorem mj_w_eq {w w' : mj_w} (h : w = w') (k : mj_J g Y d kc ks (pc, lv, st, mj_mem nn xs w') Post) : mj_J g Y d kc ks (pc, lv, st, mj_mem nn xs w) Post := h ▸ k
end MJW
theorem mj_wd (i : Nat) {w : Cond} (h : lw_tbl[i]? = some w) (hg : mj_gw w = true) : w ∈ mj_tbl := List.mem_filter.mpr ⟨List.mem_of_getElem? h, hg⟩
section MJV
variable {g : mj_G} {Y Y' : mj_Y} {d d' kc ks pc nn N0 idx : Nat} {lv : mj_L} {st : List mj_V} {xs : mj_M} {w : mj_w} {Post : mj_O → mj_M → Prop}
theorem mj_q_S (n : Nat) {vs stk : List mj_V} (hd : decode Y.2.2.1 pc = .ok (.invokestatic idx, 3)) (hy : mj_yk Y' n) (hl : Cond.methodLink Y.1 idx Y'.2.1 ∈ mj_tbl ∨ Cond.methodLinkNest Y.1 idx Y'.2.1 "ChartForest" ∈ mj_tbl) (hs : Cond.static Y'.2.1 ∈ mj_tbl)
    (hstk : stk = vs.reverse ++ st) (hn : vs.length = n) (he : Nat.ble (mj_e1 vs).length Y'.2.2.2.1 = true) (hst : Nat.ble (st.map mj_cat).sum 8 = true)
    (k : mj_J g Y' d' 0 0 (0, mj_ent vs Y'.2.2.2.1, [], mj_mem nn xs w) (mj_P nn xs (fun v w1 => mj_J g Y (d' + 1) kc ks (pc + 3, lv, v.toList ++ st, mj_mem nn xs w1) Post))) : mj_J g Y (d' + 1) kc ks (pc, lv, stk, mj_mem nn xs w) Post := by
  have h := mj_callS (kc' := 0) (ks' := 0) (kc2 := kc) (ks2 := ks) (Post := Post) hd hy hl hs hstk hn (Nat.le_of_ble_eq_true he) (Nat.le_of_ble_eq_true hst) (k.weaken (fun o M h => by obtain ⟨v, w1, rfl, rfl, h⟩ := h; exact ⟨v, rfl, h⟩))
  rwa [Nat.zero_add, Nat.zero_add] at h
theorem mj_q_V (n : Nat) {p ci : Nat} {vs stk : List mj_V} {l : List (Option Nat)} {fl : List (String × String × Bool)} (hd : decode Y.2.2.1 pc = .ok (.invokevirtual idx, 3)) (hy : mj_yk Y' n) (hl : Cond.methodLink Y.1 idx Y'.2.1 ∈ mj_tbl ∨ Cond.methodLinkNest Y.1 idx Y'.2.1 "ChartForest" ∈ mj_tbl) (hs : Cond.instanceMethod Y'.2.1 ∈ mj_tbl) (hse : Cond.selects Y'.1 Y'.2.1 Y'.2.1 ∈ mj_tbl)
    (hsh : mj_sh[p]? = some (.inr (.inr (ci, l)))) (hc : mj_cf[ci]? = some (Y'.1, fl)) (hb : Nat.blt p N0 = true) (hn0 : N0 ≤ nn) (hstk : stk = vs.reverse ++ .inr (.inr (.inl (some (p, 0)))) :: st) (hn : vs.length = n) (he : Nat.ble (mj_e1 (.inr (.inr (.inl (some (p, 0)))) :: vs)).length Y'.2.2.2.1 = true) (hst : Nat.ble (st.map mj_cat).sum 8 = true)
    (k : mj_J g Y' d' 0 0 (0, mj_ent (.inr (.inr (.inl (some (p, 0)))) :: vs) Y'.2.2.2.1, [], mj_mem nn xs w) (mj_P nn xs (fun v w1 => mj_J g Y (d' + 1) kc ks (pc + 3, lv, v.toList ++ st, mj_mem nn xs w1) Post))) : mj_J g Y (d' + 1) kc ks (pc, lv, stk, mj_mem nn xs w) Post := by
  have h := mj_callV (kc' := 0) (ks' := 0) (kc2 := kc) (ks2 := ks) (Post := Post) hd hy hl hs hse hc (mj_mem_at (Nat.lt_of_lt_of_le (Nat.blt_eq.mp hb) hn0) hsh) hstk hn (Nat.le_of_ble_eq_true he) (Nat.le_of_ble_eq_true hst) (k.weaken (fun o M h => by obtain ⟨v, w1, rfl, rfl, h⟩ := h; exact ⟨v, rfl, h⟩))
  rwa [Nat.zero_add, Nat.zero_add] at h
theorem mj_q_ret {Post : Option mj_V → mj_w → Prop} {v : Option mj_V} (h : Post v w) : mj_P nn xs Post (.inl v) (mj_mem nn xs w) := ⟨v, w, rfl, rfl, h⟩
theorem mj_wk {S : mj_S} {A B : Option mj_V → mj_w → Prop} (k : mj_J g Y d kc ks S (mj_P nn xs A)) (h : ∀ v w1, A v w1 → B v w1) : mj_J g Y d kc ks S (mj_P nn xs B) :=
  k.weaken (fun o M hP => by obtain ⟨v, w1, e1, e2, h3⟩ := hP; exact ⟨v, w1, e1, e2, h v w1 h3⟩)
theorem mj_q_S0i (hd : decode Y.2.2.1 pc = .ok (.invokestatic idx, 3)) (hy : mj_yk Y' 0) (hl : Cond.methodLink Y.1 idx Y'.2.1 ∈ mj_tbl ∨ Cond.methodLinkNest Y.1 idx Y'.2.1 "ChartForest" ∈ mj_tbl) (hs : Cond.static Y'.2.1 ∈ mj_tbl) (he : Nat.ble (mj_e1 []).length Y'.2.2.2.1 = true) (hst : Nat.ble (st.map mj_cat).sum 8 = true)
    (k : mj_J g Y' d' 0 0 (0, mj_ent [] Y'.2.2.2.1, [], mj_mem nn xs w) (mj_P nn xs (fun v w1 => ∃ x : Int, v = some (.inl x) ∧ mj_J g Y (d' + 1) kc ks (pc + 3, lv, .inl x :: st, mj_mem nn xs w1) Post))) : mj_J g Y (d' + 1) kc ks (pc, lv, st, mj_mem nn xs w) Post :=
  mj_q_S 0 (vs := []) hd hy hl hs rfl rfl he hst (mj_wk k (fun v w1 h => by obtain ⟨x, rfl, h⟩ := h; exact h))
theorem mj_q_V0i {p ci : Nat} {l : List (Option Nat)} {fl : List (String × String × Bool)} (hd : decode Y.2.2.1 pc = .ok (.invokevirtual idx, 3)) (hy : mj_yk Y' 0) (hl : Cond.methodLink Y.1 idx Y'.2.1 ∈ mj_tbl ∨ Cond.methodLinkNest Y.1 idx Y'.2.1 "ChartForest" ∈ mj_tbl) (hs : Cond.instanceMethod Y'.2.1 ∈ mj_tbl) (hse : Cond.selects Y'.1 Y'.2.1 Y'.2.1 ∈ mj_tbl)
    (hsh : mj_sh[p]? = some (.inr (.inr (ci, l)))) (hc : mj_cf[ci]? = some (Y'.1, fl)) (hb : Nat.blt p N0 = true) (hn0 : N0 ≤ nn) (he : Nat.ble (mj_e1 [.inr (.inr (.inl (some (p, 0))))]).length Y'.2.2.2.1 = true) (hst : Nat.ble (st.map mj_cat).sum 8 = true)
    (k : mj_J g Y' d' 0 0 (0, mj_ent [.inr (.inr (.inl (some (p, 0))))] Y'.2.2.2.1, [], mj_mem nn xs w) (mj_P nn xs (fun v w1 => ∃ x : Int, v = some (.inl x) ∧ mj_J g Y (d' + 1) kc ks (pc + 3, lv, .inl x :: st, mj_mem nn xs w1) Post))) : mj_J g Y (d' + 1) kc ks (pc, lv, .inr (.inr (.inl (some (p, 0)))) :: st, mj_mem nn xs w) Post :=
  mj_q_V 0 (vs := []) hd hy hl hs hse hsh hc hb hn0 rfl rfl he hst (mj_wk k (fun v w1 h => by obtain ⟨x, rfl, h⟩ := h; exact h))
theorem mj_q_S0l (hd : decode Y.2.2.1 pc = .ok (.invokestatic idx, 3)) (hy : mj_yk Y' 0) (hl : Cond.methodLink Y.1 idx Y'.2.1 ∈ mj_tbl ∨ Cond.methodLinkNest Y.1 idx Y'.2.1 "ChartForest" ∈ mj_tbl) (hs : Cond.static Y'.2.1 ∈ mj_tbl) (he : Nat.ble (mj_e1 []).length Y'.2.2.2.1 = true) (hst : Nat.ble (st.map mj_cat).sum 8 = true)
    (k : mj_J g Y' d' 0 0 (0, mj_ent [] Y'.2.2.2.1, [], mj_mem nn xs w) (mj_P nn xs (fun v w1 => ∃ x : Int, v = some (.inr (.inl x)) ∧ mj_J g Y (d' + 1) kc ks (pc + 3, lv, .inr (.inl x) :: st, mj_mem nn xs w1) Post))) : mj_J g Y (d' + 1) kc ks (pc, lv, st, mj_mem nn xs w) Post :=
  mj_q_S 0 (vs := []) hd hy hl hs rfl rfl he hst (mj_wk k (fun v w1 h => by obtain ⟨x, rfl, h⟩ := h; exact h))
theorem mj_q_V0l {p ci : Nat} {l : List (Option Nat)} {fl : List (String × String × Bool)} (hd : decode Y.2.2.1 pc = .ok (.invokevirtual idx, 3)) (hy : mj_yk Y' 0) (hl : Cond.methodLink Y.1 idx Y'.2.1 ∈ mj_tbl ∨ Cond.methodLinkNest Y.1 idx Y'.2.1 "ChartForest" ∈ mj_tbl) (hs : Cond.instanceMethod Y'.2.1 ∈ mj_tbl) (hse : Cond.selects Y'.1 Y'.2.1 Y'.2.1 ∈ mj_tbl)
    (hsh : mj_sh[p]? = some (.inr (.inr (ci, l)))) (hc : mj_cf[ci]? = some (Y'.1, fl)) (hb : Nat.blt p N0 = true) (hn0 : N0 ≤ nn) (he : Nat.ble (mj_e1 [.inr (.inr (.inl (some (p, 0))))]).length Y'.2.2.2.1 = true) (hst : Nat.ble (st.map mj_cat).sum 8 = true)
    (k : mj_J g Y' d' 0 0 (0, mj_ent [.inr (.inr (.inl (some (p, 0))))] Y'.2.2.2.1, [], mj_mem nn xs w) (mj_P nn xs (fun v w1 => ∃ x : Int, v = some (.inr (.inl x)) ∧ mj_J g Y (d' + 1) kc ks (pc + 3, lv, .inr (.inl x) :: st, mj_mem nn xs w1) Post))) : mj_J g Y (d' + 1) kc ks (pc, lv, .inr (.inr (.inl (some (p, 0)))) :: st, mj_mem nn xs w) Post :=
  mj_q_V 0 (vs := []) hd hy hl hs hse hsh hc hb hn0 rfl rfl he hst (mj_wk k (fun v w1 h => by obtain ⟨x, rfl, h⟩ := h; exact h))
theorem mj_q_S0v (hd : decode Y.2.2.1 pc = .ok (.invokestatic idx, 3)) (hy : mj_yk Y' 0) (hl : Cond.methodLink Y.1 idx Y'.2.1 ∈ mj_tbl ∨ Cond.methodLinkNest Y.1 idx Y'.2.1 "ChartForest" ∈ mj_tbl) (hs : Cond.static Y'.2.1 ∈ mj_tbl) (he : Nat.ble (mj_e1 []).length Y'.2.2.2.1 = true) (hst : Nat.ble (st.map mj_cat).sum 8 = true)
    (k : mj_J g Y' d' 0 0 (0, mj_ent [] Y'.2.2.2.1, [], mj_mem nn xs w) (mj_P nn xs (fun v w1 => v = none ∧ mj_J g Y (d' + 1) kc ks (pc + 3, lv, st, mj_mem nn xs w1) Post))) : mj_J g Y (d' + 1) kc ks (pc, lv, st, mj_mem nn xs w) Post :=
  mj_q_S 0 (vs := []) hd hy hl hs rfl rfl he hst (mj_wk k (fun v w1 h => by obtain ⟨rfl, h⟩ := h; exact h))
theorem mj_q_V0v {p ci : Nat} {l : List (Option Nat)} {fl : List (String × String × Bool)} (hd : decode Y.2.2.1 pc = .ok (.invokevirtual idx, 3)) (hy : mj_yk Y' 0) (hl : Cond.methodLink Y.1 idx Y'.2.1 ∈ mj_tbl ∨ Cond.methodLinkNest Y.1 idx Y'.2.1 "ChartForest" ∈ mj_tbl) (hs : Cond.instanceMethod Y'.2.1 ∈ mj_tbl) (hse : Cond.selects Y'.1 Y'.2.1 Y'.2.1 ∈ mj_tbl)
    (hsh : mj_sh[p]? = some (.inr (.inr (ci, l)))) (hc : mj_cf[ci]? = some (Y'.1, fl)) (hb : Nat.blt p N0 = true) (hn0 : N0 ≤ nn) (he : Nat.ble (mj_e1 [.inr (.inr (.inl (some (p, 0))))]).length Y'.2.2.2.1 = true) (hst : Nat.ble (st.map mj_cat).sum 8 = true)
    (k : mj_J g Y' d' 0 0 (0, mj_ent [.inr (.inr (.inl (some (p, 0))))] Y'.2.2.2.1, [], mj_mem nn xs w) (mj_P nn xs (fun v w1 => v = none ∧ mj_J g Y (d' + 1) kc ks (pc + 3, lv, st, mj_mem nn xs w1) Post))) : mj_J g Y (d' + 1) kc ks (pc, lv, .inr (.inr (.inl (some (p, 0)))) :: st, mj_mem nn xs w) Post :=
  mj_q_V 0 (vs := []) hd hy hl hs hse hsh hc hb hn0 rfl rfl he hst (mj_wk k (fun v w1 h => by obtain ⟨rfl, h⟩ := h; exact h))
theorem mj_q_S1i {v0 : mj_V} (hd : decode Y.2.2.1 pc = .ok (.invokestatic idx, 3)) (hy : mj_yk Y' 1) (hl : Cond.methodLink Y.1 idx Y'.2.1 ∈ mj_tbl ∨ Cond.methodLinkNest Y.1 idx Y'.2.1 "ChartForest" ∈ mj_tbl) (hs : Cond.static Y'.2.1 ∈ mj_tbl) (he : Nat.ble (mj_e1 [v0]).length Y'.2.2.2.1 = true) (hst : Nat.ble (st.map mj_cat).sum 8 = true)
    (k : mj_J g Y' d' 0 0 (0, mj_ent [v0] Y'.2.2.2.1, [], mj_mem nn xs w) (mj_P nn xs (fun v w1 => ∃ x : Int, v = some (.inl x) ∧ mj_J g Y (d' + 1) kc ks (pc + 3, lv, .inl x :: st, mj_mem nn xs w1) Post))) : mj_J g Y (d' + 1) kc ks (pc, lv, v0 :: st, mj_mem nn xs w) Post :=
  mj_q_S 1 (vs := [v0]) hd hy hl hs rfl rfl he hst (mj_wk k (fun v w1 h => by obtain ⟨x, rfl, h⟩ := h; exact h))
theorem mj_q_V1i {p ci : Nat} {l : List (Option Nat)} {fl : List (String × String × Bool)} {v0 : mj_V} (hd : decode Y.2.2.1 pc = .ok (.invokevirtual idx, 3)) (hy : mj_yk Y' 1) (hl : Cond.methodLink Y.1 idx Y'.2.1 ∈ mj_tbl ∨ Cond.methodLinkNest Y.1 idx Y'.2.1 "ChartForest" ∈ mj_tbl) (hs : Cond.instanceMethod Y'.2.1 ∈ mj_tbl) (hse : Cond.selects Y'.1 Y'.2.1 Y'.2.1 ∈ mj_tbl)
    (hsh : mj_sh[p]? = some (.inr (.inr (ci, l)))) (hc : mj_cf[ci]? = some (Y'.1, fl)) (hb : Nat.blt p N0 = true) (hn0 : N0 ≤ nn) (he : Nat.ble (mj_e1 [.inr (.inr (.inl (some (p, 0)))), v0]).length Y'.2.2.2.1 = true) (hst : Nat.ble (st.map mj_cat).sum 8 = true)
    (k : mj_J g Y' d' 0 0 (0, mj_ent [.inr (.inr (.inl (some (p, 0)))), v0] Y'.2.2.2.1, [], mj_mem nn xs w) (mj_P nn xs (fun v w1 => ∃ x : Int, v = some (.inl x) ∧ mj_J g Y (d' + 1) kc ks (pc + 3, lv, .inl x :: st, mj_mem nn xs w1) Post))) : mj_J g Y (d' + 1) kc ks (pc, lv, v0 :: .inr (.inr (.inl (some (p, 0)))) :: st, mj_mem nn xs w) Post :=
  mj_q_V 1 (vs := [v0]) hd hy hl hs hse hsh hc hb hn0 rfl rfl he hst (mj_wk k (fun v w1 h => by obtain ⟨x, rfl, h⟩ := h; exact h))
theorem mj_q_S1l {v0 : mj_V} (hd : decode Y.2.2.1 pc = .ok (.invokestatic idx, 3)) (hy : mj_yk Y' 1) (hl : Cond.methodLink Y.1 idx Y'.2.1 ∈ mj_tbl ∨ Cond.methodLinkNest Y.1 idx Y'.2.1 "ChartForest" ∈ mj_tbl) (hs : Cond.static Y'.2.1 ∈ mj_tbl) (he : Nat.ble (mj_e1 [v0]).length Y'.2.2.2.1 = true) (hst : Nat.ble (st.map mj_cat).sum 8 = true)
    (k : mj_J g Y' d' 0 0 (0, mj_ent [v0] Y'.2.2.2.1, [], mj_mem nn xs w) (mj_P nn xs (fun v w1 => ∃ x : Int, v = some (.inr (.inl x)) ∧ mj_J g Y (d' + 1) kc ks (pc + 3, lv, .inr (.inl x) :: st, mj_mem nn xs w1) Post))) : mj_J g Y (d' + 1) kc ks (pc, lv, v0 :: st, mj_mem nn xs w) Post :=
  mj_q_S 1 (vs := [v0]) hd hy hl hs rfl rfl he hst (mj_wk k (fun v w1 h => by obtain ⟨x, rfl, h⟩ := h; exact h))
theorem mj_q_V1l {p ci : Nat} {l : List (Option Nat)} {fl : List (String × String × Bool)} {v0 : mj_V} (hd : decode Y.2.2.1 pc = .ok (.invokevirtual idx, 3)) (hy : mj_yk Y' 1) (hl : Cond.methodLink Y.1 idx Y'.2.1 ∈ mj_tbl ∨ Cond.methodLinkNest Y.1 idx Y'.2.1 "ChartForest" ∈ mj_tbl) (hs : Cond.instanceMethod Y'.2.1 ∈ mj_tbl) (hse : Cond.selects Y'.1 Y'.2.1 Y'.2.1 ∈ mj_tbl)
    (hsh : mj_sh[p]? = some (.inr (.inr (ci, l)))) (hc : mj_cf[ci]? = some (Y'.1, fl)) (hb : Nat.blt p N0 = true) (hn0 : N0 ≤ nn) (he : Nat.ble (mj_e1 [.inr (.inr (.inl (some (p, 0)))), v0]).length Y'.2.2.2.1 = true) (hst : Nat.ble (st.map mj_cat).sum 8 = true)
    (k : mj_J g Y' d' 0 0 (0, mj_ent [.inr (.inr (.inl (some (p, 0)))), v0] Y'.2.2.2.1, [], mj_mem nn xs w) (mj_P nn xs (fun v w1 => ∃ x : Int, v = some (.inr (.inl x)) ∧ mj_J g Y (d' + 1) kc ks (pc + 3, lv, .inr (.inl x) :: st, mj_mem nn xs w1) Post))) : mj_J g Y (d' + 1) kc ks (pc, lv, v0 :: .inr (.inr (.inl (some (p, 0)))) :: st, mj_mem nn xs w) Post :=
  mj_q_V 1 (vs := [v0]) hd hy hl hs hse hsh hc hb hn0 rfl rfl he hst (mj_wk k (fun v w1 h => by obtain ⟨x, rfl, h⟩ := h; exact h))
theorem mj_q_S1v {v0 : mj_V} (hd : decode Y.2.2.1 pc = .ok (.invokestatic idx, 3)) (hy : mj_yk Y' 1) (hl : Cond.methodLink Y.1 idx Y'.2.1 ∈ mj_tbl ∨ Cond.methodLinkNest Y.1 idx Y'.2.1 "ChartForest" ∈ mj_tbl) (hs : Cond.static Y'.2.1 ∈ mj_tbl) (he : Nat.ble (mj_e1 [v0]).length Y'.2.2.2.1 = true) (hst : Nat.ble (st.map mj_cat).sum 8 = true)
    (k : mj_J g Y' d' 0 0 (0, mj_ent [v0] Y'.2.2.2.1, [], mj_mem nn xs w) (mj_P nn xs (fun v w1 => v = none ∧ mj_J g Y (d' + 1) kc ks (pc + 3, lv, st, mj_mem nn xs w1) Post))) : mj_J g Y (d' + 1) kc ks (pc, lv, v0 :: st, mj_mem nn xs w) Post :=
  mj_q_S 1 (vs := [v0]) hd hy hl hs rfl rfl he hst (mj_wk k (fun v w1 h => by obtain ⟨rfl, h⟩ := h; exact h))
theorem mj_q_V1v {p ci : Nat} {l : List (Option Nat)} {fl : List (String × String × Bool)} {v0 : mj_V} (hd : decode Y.2.2.1 pc = .ok (.invokevirtual idx, 3)) (hy : mj_yk Y' 1) (hl : Cond.methodLink Y.1 idx Y'.2.1 ∈ mj_tbl ∨ Cond.methodLinkNest Y.1 idx Y'.2.1 "ChartForest" ∈ mj_tbl) (hs : Cond.instanceMethod Y'.2.1 ∈ mj_tbl) (hse : Cond.selects Y'.1 Y'.2.1 Y'.2.1 ∈ mj_tbl)
    (hsh : mj_sh[p]? = some (.inr (.inr (ci, l)))) (hc : mj_cf[ci]? = some (Y'.1, fl)) (hb : Nat.blt p N0 = true) (hn0 : N0 ≤ nn) (he : Nat.ble (mj_e1 [.inr (.inr (.inl (some (p, 0)))), v0]).length Y'.2.2.2.1 = true) (hst : Nat.ble (st.map mj_cat).sum 8 = true)
    (k : mj_J g Y' d' 0 0 (0, mj_ent [.inr (.inr (.inl (some (p, 0)))), v0] Y'.2.2.2.1, [], mj_mem nn xs w) (mj_P nn xs (fun v w1 => v = none ∧ mj_J g Y (d' + 1) kc ks (pc + 3, lv, st, mj_mem nn xs w1) Post))) : mj_J g Y (d' + 1) kc ks (pc, lv, v0 :: .inr (.inr (.inl (some (p, 0)))) :: st, mj_mem nn xs w) Post :=
  mj_q_V 1 (vs := [v0]) hd hy hl hs hse hsh hc hb hn0 rfl rfl he hst (mj_wk k (fun v w1 h => by obtain ⟨rfl, h⟩ := h; exact h))
theorem mj_q_S2i {v0 v1 : mj_V} (hd : decode Y.2.2.1 pc = .ok (.invokestatic idx, 3)) (hy : mj_yk Y' 2) (hl : Cond.methodLink Y.1 idx Y'.2.1 ∈ mj_tbl ∨ Cond.methodLinkNest Y.1 idx Y'.2.1 "ChartForest" ∈ mj_tbl) (hs : Cond.static Y'.2.1 ∈ mj_tbl) (he : Nat.ble (mj_e1 [v0, v1]).length Y'.2.2.2.1 = true) (hst : Nat.ble (st.map mj_cat).sum 8 = true)
    (k : mj_J g Y' d' 0 0 (0, mj_ent [v0, v1] Y'.2.2.2.1, [], mj_mem nn xs w) (mj_P nn xs (fun v w1 => ∃ x : Int, v = some (.inl x) ∧ mj_J g Y (d' + 1) kc ks (pc + 3, lv, .inl x :: st, mj_mem nn xs w1) Post))) : mj_J g Y (d' + 1) kc ks (pc, lv, v1 :: v0 :: st, mj_mem nn xs w) Post :=
  mj_q_S 2 (vs := [v0, v1]) hd hy hl hs rfl rfl he hst (mj_wk k (fun v w1 h => by obtain ⟨x, rfl, h⟩ := h; exact h))
theorem mj_q_V2i {p ci : Nat} {l : List (Option Nat)} {fl : List (String × String × Bool)} {v0 v1 : mj_V} (hd : decode Y.2.2.1 pc = .ok (.invokevirtual idx, 3)) (hy : mj_yk Y' 2) (hl : Cond.methodLink Y.1 idx Y'.2.1 ∈ mj_tbl ∨ Cond.methodLinkNest Y.1 idx Y'.2.1 "ChartForest" ∈ mj_tbl) (hs : Cond.instanceMethod Y'.2.1 ∈ mj_tbl) (hse : Cond.selects Y'.1 Y'.2.1 Y'.2.1 ∈ mj_tbl)
    (hsh : mj_sh[p]? = some (.inr (.inr (ci, l)))) (hc : mj_cf[ci]? = some (Y'.1, fl)) (hb : Nat.blt p N0 = true) (hn0 : N0 ≤ nn) (he : Nat.ble (mj_e1 [.inr (.inr (.inl (some (p, 0)))), v0, v1]).length Y'.2.2.2.1 = true) (hst : Nat.ble (st.map mj_cat).sum 8 = true)
    (k : mj_J g Y' d' 0 0 (0, mj_ent [.inr (.inr (.inl (some (p, 0)))), v0, v1] Y'.2.2.2.1, [], mj_mem nn xs w) (mj_P nn xs (fun v w1 => ∃ x : Int, v = some (.inl x) ∧ mj_J g Y (d' + 1) kc ks (pc + 3, lv, .inl x :: st, mj_mem nn xs w1) Post))) : mj_J g Y (d' + 1) kc ks (pc, lv, v1 :: v0 :: .inr (.inr (.inl (some (p, 0)))) :: st, mj_mem nn xs w) Post :=
  mj_q_V 2 (vs := [v0, v1]) hd hy hl hs hse hsh hc hb hn0 rfl rfl he hst (mj_wk k (fun v w1 h => by obtain ⟨x, rfl, h⟩ := h; exact h))
theorem mj_q_S2l {v0 v1 : mj_V} (hd : decode Y.2.2.1 pc = .ok (.invokestatic idx, 3)) (hy : mj_yk Y' 2) (hl : Cond.methodLink Y.1 idx Y'.2.1 ∈ mj_tbl ∨ Cond.methodLinkNest Y.1 idx Y'.2.1 "ChartForest" ∈ mj_tbl) (hs : Cond.static Y'.2.1 ∈ mj_tbl) (he : Nat.ble (mj_e1 [v0, v1]).length Y'.2.2.2.1 = true) (hst : Nat.ble (st.map mj_cat).sum 8 = true)
    (k : mj_J g Y' d' 0 0 (0, mj_ent [v0, v1] Y'.2.2.2.1, [], mj_mem nn xs w) (mj_P nn xs (fun v w1 => ∃ x : Int, v = some (.inr (.inl x)) ∧ mj_J g Y (d' + 1) kc ks (pc + 3, lv, .inr (.inl x) :: st, mj_mem nn xs w1) Post))) : mj_J g Y (d' + 1) kc ks (pc, lv, v1 :: v0 :: st, mj_mem nn xs w) Post :=
  mj_q_S 2 (vs := [v0, v1]) hd hy hl hs rfl rfl he hst (mj_wk k (fun v w1 h => by obtain ⟨x, rfl, h⟩ := h; exact h))
theorem mj_q_V2l {p ci : Nat} {l : List (Option Nat)} {fl : List (String × String × Bool)} {v0 v1 : mj_V} (hd : decode Y.2.2.1 pc = .ok (.invokevirtual idx, 3)) (hy : mj_yk Y' 2) (hl : Cond.methodLink Y.1 idx Y'.2.1 ∈ mj_tbl ∨ Cond.methodLinkNest Y.1 idx Y'.2.1 "ChartForest" ∈ mj_tbl) (hs : Cond.instanceMethod Y'.2.1 ∈ mj_tbl) (hse : Cond.selects Y'.1 Y'.2.1 Y'.2.1 ∈ mj_tbl)
    (hsh : mj_sh[p]? = some (.inr (.inr (ci, l)))) (hc : mj_cf[ci]? = some (Y'.1, fl)) (hb : Nat.blt p N0 = true) (hn0 : N0 ≤ nn) (he : Nat.ble (mj_e1 [.inr (.inr (.inl (some (p, 0)))), v0, v1]).length Y'.2.2.2.1 = true) (hst : Nat.ble (st.map mj_cat).sum 8 = true)
    (k : mj_J g Y' d' 0 0 (0, mj_ent [.inr (.inr (.inl (some (p, 0)))), v0, v1] Y'.2.2.2.1, [], mj_mem nn xs w) (mj_P nn xs (fun v w1 => ∃ x : Int, v = some (.inr (.inl x)) ∧ mj_J g Y (d' + 1) kc ks (pc + 3, lv, .inr (.inl x) :: st, mj_mem nn xs w1) Post))) : mj_J g Y (d' + 1) kc ks (pc, lv, v1 :: v0 :: .inr (.inr (.inl (some (p, 0)))) :: st, mj_mem nn xs w) Post :=
  mj_q_V 2 (vs := [v0, v1]) hd hy hl hs hse hsh hc hb hn0 rfl rfl he hst (mj_wk k (fun v w1 h => by obtain ⟨x, rfl, h⟩ := h; exact h))
theorem mj_q_S2v {v0 v1 : mj_V} (hd : decode Y.2.2.1 pc = .ok (.invokestatic idx, 3)) (hy : mj_yk Y' 2) (hl : Cond.methodLink Y.1 idx Y'.2.1 ∈ mj_tbl ∨ Cond.methodLinkNest Y.1 idx Y'.2.1 "ChartForest" ∈ mj_tbl) (hs : Cond.static Y'.2.1 ∈ mj_tbl) (he : Nat.ble (mj_e1 [v0, v1]).length Y'.2.2.2.1 = true) (hst : Nat.ble (st.map mj_cat).sum 8 = true)
    (k : mj_J g Y' d' 0 0 (0, mj_ent [v0, v1] Y'.2.2.2.1, [], mj_mem nn xs w) (mj_P nn xs (fun v w1 => v = none ∧ mj_J g Y (d' + 1) kc ks (pc + 3, lv, st, mj_mem nn xs w1) Post))) : mj_J g Y (d' + 1) kc ks (pc, lv, v1 :: v0 :: st, mj_mem nn xs w) Post :=
  mj_q_S 2 (vs := [v0, v1]) hd hy hl hs rfl rfl he hst (mj_wk k (fun v w1 h => by obtain ⟨rfl, h⟩ := h; exact h))
theorem mj_q_V2v {p ci : Nat} {l : List (Option Nat)} {fl : List (String × String × Bool)} {v0 v1 : mj_V} (hd : decode Y.2.2.1 pc = .ok (.invokevirtual idx, 3)) (hy : mj_yk Y' 2) (hl : Cond.methodLink Y.1 idx Y'.2.1 ∈ mj_tbl ∨ Cond.methodLinkNest Y.1 idx Y'.2.1 "ChartForest" ∈ mj_tbl) (hs : Cond.instanceMethod Y'.2.1 ∈ mj_tbl) (hse : Cond.selects Y'.1 Y'.2.1 Y'.2.1 ∈ mj_tbl)
    (hsh : mj_sh[p]? = some (.inr (.inr (ci, l)))) (hc : mj_cf[ci]? = some (Y'.1, fl)) (hb : Nat.blt p N0 = true) (hn0 : N0 ≤ nn) (he : Nat.ble (mj_e1 [.inr (.inr (.inl (some (p, 0)))), v0, v1]).length Y'.2.2.2.1 = true) (hst : Nat.ble (st.map mj_cat).sum 8 = true)
    (k : mj_J g Y' d' 0 0 (0, mj_ent [.inr (.inr (.inl (some (p, 0)))), v0, v1] Y'.2.2.2.1, [], mj_mem nn xs w) (mj_P nn xs (fun v w1 => v = none ∧ mj_J g Y (d' + 1) kc ks (pc + 3, lv, st, mj_mem nn xs w1) Post))) : mj_J g Y (d' + 1) kc ks (pc, lv, v1 :: v0 :: .inr (.inr (.inl (some (p, 0)))) :: st, mj_mem nn xs w) Post :=
  mj_q_V 2 (vs := [v0, v1]) hd hy hl hs hse hsh hc hb hn0 rfl rfl he hst (mj_wk k (fun v w1 h => by obtain ⟨rfl, h⟩ := h; exact h))
theorem mj_q_S3i {v0 v1 v2 : mj_V} (hd : decode Y.2.2.1 pc = .ok (.invokestatic idx, 3)) (hy : mj_yk Y' 3) (hl : Cond.methodLink Y.1 idx Y'.2.1 ∈ mj_tbl ∨ Cond.methodLinkNest Y.1 idx Y'.2.1 "ChartForest" ∈ mj_tbl) (hs : Cond.static Y'.2.1 ∈ mj_tbl) (he : Nat.ble (mj_e1 [v0, v1, v2]).length Y'.2.2.2.1 = true) (hst : Nat.ble (st.map mj_cat).sum 8 = true)
    (k : mj_J g Y' d' 0 0 (0, mj_ent [v0, v1, v2] Y'.2.2.2.1, [], mj_mem nn xs w) (mj_P nn xs (fun v w1 => ∃ x : Int, v = some (.inl x) ∧ mj_J g Y (d' + 1) kc ks (pc + 3, lv, .inl x :: st, mj_mem nn xs w1) Post))) : mj_J g Y (d' + 1) kc ks (pc, lv, v2 :: v1 :: v0 :: st, mj_mem nn xs w) Post :=
  mj_q_S 3 (vs := [v0, v1, v2]) hd hy hl hs rfl rfl he hst (mj_wk k (fun v w1 h => by obtain ⟨x, rfl, h⟩ := h; exact h))
theorem mj_q_V3i {p ci : Nat} {l : List (Option Nat)} {fl : List (String × String × Bool)} {v0 v1 v2 : mj_V} (hd : decode Y.2.2.1 pc = .ok (.invokevirtual idx, 3)) (hy : mj_yk Y' 3) (hl : Cond.methodLink Y.1 idx Y'.2.1 ∈ mj_tbl ∨ Cond.methodLinkNest Y.1 idx Y'.2.1 "ChartForest" ∈ mj_tbl) (hs : Cond.instanceMethod Y'.2.1 ∈ mj_tbl) (hse : Cond.selects Y'.1 Y'.2.1 Y'.2.1 ∈ mj_tbl)
    (hsh : mj_sh[p]? = some (.inr (.inr (ci, l)))) (hc : mj_cf[ci]? = some (Y'.1, fl)) (hb : Nat.blt p N0 = true) (hn0 : N0 ≤ nn) (he : Nat.ble (mj_e1 [.inr (.inr (.inl (some (p, 0)))), v0, v1, v2]).length Y'.2.2.2.1 = true) (hst : Nat.ble (st.map mj_cat).sum 8 = true)
    (k : mj_J g Y' d' 0 0 (0, mj_ent [.inr (.inr (.inl (some (p, 0)))), v0, v1, v2] Y'.2.2.2.1, [], mj_mem nn xs w) (mj_P nn xs (fun v w1 => ∃ x : Int, v = some (.inl x) ∧ mj_J g Y (d' + 1) kc ks (pc + 3, lv, .inl x :: st, mj_mem nn xs w1) Post))) : mj_J g Y (d' + 1) kc ks (pc, lv, v2 :: v1 :: v0 :: .inr (.inr (.inl (some (p, 0)))) :: st, mj_mem nn xs w) Post :=
  mj_q_V 3 (vs := [v0, v1, v2]) hd hy hl hs hse hsh hc hb hn0 rfl rfl he hst (mj_wk k (fun v w1 h => by obtain ⟨x, rfl, h⟩ := h; exact h))
theorem mj_q_S3l {v0 v1 v2 : mj_V} (hd : decode Y.2.2.1 pc = .ok (.invokestatic idx, 3)) (hy : mj_yk Y' 3) (hl : Cond.methodLink Y.1 idx Y'.2.1 ∈ mj_tbl ∨ Cond.methodLinkNest Y.1 idx Y'.2.1 "ChartForest" ∈ mj_tbl) (hs : Cond.static Y'.2.1 ∈ mj_tbl) (he : Nat.ble (mj_e1 [v0, v1, v2]).length Y'.2.2.2.1 = true) (hst : Nat.ble (st.map mj_cat).sum 8 = true)
    (k : mj_J g Y' d' 0 0 (0, mj_ent [v0, v1, v2] Y'.2.2.2.1, [], mj_mem nn xs w) (mj_P nn xs (fun v w1 => ∃ x : Int, v = some (.inr (.inl x)) ∧ mj_J g Y (d' + 1) kc ks (pc + 3, lv, .inr (.inl x) :: st, mj_mem nn xs w1) Post))) : mj_J g Y (d' + 1) kc ks (pc, lv, v2 :: v1 :: v0 :: st, mj_mem nn xs w) Post :=
  mj_q_S 3 (vs := [v0, v1, v2]) hd hy hl hs rfl rfl he hst (mj_wk k (fun v w1 h => by obtain ⟨x, rfl, h⟩ := h; exact h))
theorem mj_q_V3l {p ci : Nat} {l : List (Option Nat)} {fl : List (String × String × Bool)} {v0 v1 v2 : mj_V} (hd : decode Y.2.2.1 pc = .ok (.invokevirtual idx, 3)) (hy : mj_yk Y' 3) (hl : Cond.methodLink Y.1 idx Y'.2.1 ∈ mj_tbl ∨ Cond.methodLinkNest Y.1 idx Y'.2.1 "ChartForest" ∈ mj_tbl) (hs : Cond.instanceMethod Y'.2.1 ∈ mj_tbl) (hse : Cond.selects Y'.1 Y'.2.1 Y'.2.1 ∈ mj_tbl)
    (hsh : mj_sh[p]? = some (.inr (.inr (ci, l)))) (hc : mj_cf[ci]? = some (Y'.1, fl)) (hb : Nat.blt p N0 = true) (hn0 : N0 ≤ nn) (he : Nat.ble (mj_e1 [.inr (.inr (.inl (some (p, 0)))), v0, v1, v2]).length Y'.2.2.2.1 = true) (hst : Nat.ble (st.map mj_cat).sum 8 = true)
    (k : mj_J g Y' d' 0 0 (0, mj_ent [.inr (.inr (.inl (some (p, 0)))), v0, v1, v2] Y'.2.2.2.1, [], mj_mem nn xs w) (mj_P nn xs (fun v w1 => ∃ x : Int, v = some (.inr (.inl x)) ∧ mj_J g Y (d' + 1) kc ks (pc + 3, lv, .inr (.inl x) :: st, mj_mem nn xs w1) Post))) : mj_J g Y (d' + 1) kc ks (pc, lv, v2 :: v1 :: v0 :: .inr (.inr (.inl (some (p, 0)))) :: st, mj_mem nn xs w) Post :=
  mj_q_V 3 (vs := [v0, v1, v2]) hd hy hl hs hse hsh hc hb hn0 rfl rfl he hst (mj_wk k (fun v w1 h => by obtain ⟨x, rfl, h⟩ := h; exact h))
theorem mj_q_S3v {v0 v1 v2 : mj_V} (hd : decode Y.2.2.1 pc = .ok (.invokestatic idx, 3)) (hy : mj_yk Y' 3) (hl : Cond.methodLink Y.1 idx Y'.2.1 ∈ mj_tbl ∨ Cond.methodLinkNest Y.1 idx Y'.2.1 "ChartForest" ∈ mj_tbl) (hs : Cond.static Y'.2.1 ∈ mj_tbl) (he : Nat.ble (mj_e1 [v0, v1, v2]).length Y'.2.2.2.1 = true) (hst : Nat.ble (st.map mj_cat).sum 8 = true)
    (k : mj_J g Y' d' 0 0 (0, mj_ent [v0, v1, v2] Y'.2.2.2.1, [], mj_mem nn xs w) (mj_P nn xs (fun v w1 => v = none ∧ mj_J g Y (d' + 1) kc ks (pc + 3, lv, st, mj_mem nn xs w1) Post))) : mj_J g Y (d' + 1) kc ks (pc, lv, v2 :: v1 :: v0 :: st, mj_mem nn xs w) Post :=
  mj_q_S 3 (vs := [v0, v1, v2]) hd hy hl hs rfl rfl he hst (mj_wk k (fun v w1 h => by obtain ⟨rfl, h⟩ := h; exact h))
theorem mj_q_V3v {p ci : Nat} {l : List (Option Nat)} {fl : List (String × String × Bool)} {v0 v1 v2 : mj_V} (hd : decode Y.2.2.1 pc = .ok (.invokevirtual idx, 3)) (hy : mj_yk Y' 3) (hl : Cond.methodLink Y.1 idx Y'.2.1 ∈ mj_tbl ∨ Cond.methodLinkNest Y.1 idx Y'.2.1 "ChartForest" ∈ mj_tbl) (hs : Cond.instanceMethod Y'.2.1 ∈ mj_tbl) (hse : Cond.selects Y'.1 Y'.2.1 Y'.2.1 ∈ mj_tbl)
    (hsh : mj_sh[p]? = some (.inr (.inr (ci, l)))) (hc : mj_cf[ci]? = some (Y'.1, fl)) (hb : Nat.blt p N0 = true) (hn0 : N0 ≤ nn) (he : Nat.ble (mj_e1 [.inr (.inr (.inl (some (p, 0)))), v0, v1, v2]).length Y'.2.2.2.1 = true) (hst : Nat.ble (st.map mj_cat).sum 8 = true)
    (k : mj_J g Y' d' 0 0 (0, mj_ent [.inr (.inr (.inl (some (p, 0)))), v0, v1, v2] Y'.2.2.2.1, [], mj_mem nn xs w) (mj_P nn xs (fun v w1 => v = none ∧ mj_J g Y (d' + 1) kc ks (pc + 3, lv, st, mj_mem nn xs w1) Post))) : mj_J g Y (d' + 1) kc ks (pc, lv, v2 :: v1 :: v0 :: .inr (.inr (.inl (some (p, 0)))) :: st, mj_mem nn xs w) Post :=
  mj_q_V 3 (vs := [v0, v1, v2]) hd hy hl hs hse hsh hc hb hn0 rfl rfl he hst (mj_wk k (fun v w1 h => by obtain ⟨rfl, h⟩ := h; exact h))
theorem mj_q_S4i {v0 v1 v2 v3 : mj_V} (hd : decode Y.2.2.1 pc = .ok (.invokestatic idx, 3)) (hy : mj_yk Y' 4) (hl : Cond.methodLink Y.1 idx Y'.2.1 ∈ mj_tbl ∨ Cond.methodLinkNest Y.1 idx Y'.2.1 "ChartForest" ∈ mj_tbl) (hs : Cond.static Y'.2.1 ∈ mj_tbl) (he : Nat.ble (mj_e1 [v0, v1, v2, v3]).length Y'.2.2.2.1 = true) (hst : Nat.ble (st.map mj_cat).sum 8 = true)
    (k : mj_J g Y' d' 0 0 (0, mj_ent [v0, v1, v2, v3] Y'.2.2.2.1, [], mj_mem nn xs w) (mj_P nn xs (fun v w1 => ∃ x : Int, v = some (.inl x) ∧ mj_J g Y (d' + 1) kc ks (pc + 3, lv, .inl x :: st, mj_mem nn xs w1) Post))) : mj_J g Y (d' + 1) kc ks (pc, lv, v3 :: v2 :: v1 :: v0 :: st, mj_mem nn xs w) Post :=
  mj_q_S 4 (vs := [v0, v1, v2, v3]) hd hy hl hs rfl rfl he hst (mj_wk k (fun v w1 h => by obtain ⟨x, rfl, h⟩ := h; exact h))
theorem mj_q_V4i {p ci : Nat} {l : List (Option Nat)} {fl : List (String × String × Bool)} {v0 v1 v2 v3 : mj_V} (hd : decode Y.2.2.1 pc = .ok (.invokevirtual idx, 3)) (hy : mj_yk Y' 4) (hl : Cond.methodLink Y.1 idx Y'.2.1 ∈ mj_tbl ∨ Cond.methodLinkNest Y.1 idx Y'.2.1 "ChartForest" ∈ mj_tbl) (hs : Cond.instanceMethod Y'.2.1 ∈ mj_tbl) (hse : Cond.selects Y'.1 Y'.2.1 Y'.2.1 ∈ mj_tbl)
    (hsh : mj_sh[p]? = some (.inr (.inr (ci, l)))) (hc : mj_cf[ci]? = some (Y'.1, fl)) (hb : Nat.blt p N0 = true) (hn0 : N0 ≤ nn) (he : Nat.ble (mj_e1 [.inr (.inr (.inl (some (p, 0)))), v0, v1, v2, v3]).length Y'.2.2.2.1 = true) (hst : Nat.ble (st.map mj_cat).sum 8 = true)
    (k : mj_J g Y' d' 0 0 (0, mj_ent [.inr (.inr (.inl (some (p, 0)))), v0, v1, v2, v3] Y'.2.2.2.1, [], mj_mem nn xs w) (mj_P nn xs (fun v w1 => ∃ x : Int, v = some (.inl x) ∧ mj_J g Y (d' + 1) kc ks (pc + 3, lv, .inl x :: st, mj_mem nn xs w1) Post))) : mj_J g Y (d' + 1) kc ks (pc, lv, v3 :: v2 :: v1 :: v0 :: .inr (.inr (.inl (some (p, 0)))) :: st, mj_mem nn xs w) Post :=
  mj_q_V 4 (vs := [v0, v1, v2, v3]) hd hy hl hs hse hsh hc hb hn0 rfl rfl he hst (mj_wk k (fun v w1 h => by obtain ⟨x, rfl, h⟩ := h; exact h))
theorem mj_q_S4l {v0 v1 v2 v3 : mj_V} (hd : decode Y.2.2.1 pc = .ok (.invokestatic idx, 3)) (hy : mj_yk Y' 4) (hl : Cond.methodLink Y.1 idx Y'.2.1 ∈ mj_tbl ∨ Cond.methodLinkNest Y.1 idx Y'.2.1 "ChartForest" ∈ mj_tbl) (hs : Cond.static Y'.2.1 ∈ mj_tbl) (he : Nat.ble (mj_e1 [v0, v1, v2, v3]).length Y'.2.2.2.1 = true) (hst : Nat.ble (st.map mj_cat).sum 8 = true)
    (k : mj_J g Y' d' 0 0 (0, mj_ent [v0, v1, v2, v3] Y'.2.2.2.1, [], mj_mem nn xs w) (mj_P nn xs (fun v w1 => ∃ x : Int, v = some (.inr (.inl x)) ∧ mj_J g Y (d' + 1) kc ks (pc + 3, lv, .inr (.inl x) :: st, mj_mem nn xs w1) Post))) : mj_J g Y (d' + 1) kc ks (pc, lv, v3 :: v2 :: v1 :: v0 :: st, mj_mem nn xs w) Post :=
  mj_q_S 4 (vs := [v0, v1, v2, v3]) hd hy hl hs rfl rfl he hst (mj_wk k (fun v w1 h => by obtain ⟨x, rfl, h⟩ := h; exact h))
theorem mj_q_V4l {p ci : Nat} {l : List (Option Nat)} {fl : List (String × String × Bool)} {v0 v1 v2 v3 : mj_V} (hd : decode Y.2.2.1 pc = .ok (.invokevirtual idx, 3)) (hy : mj_yk Y' 4) (hl : Cond.methodLink Y.1 idx Y'.2.1 ∈ mj_tbl ∨ Cond.methodLinkNest Y.1 idx Y'.2.1 "ChartForest" ∈ mj_tbl) (hs : Cond.instanceMethod Y'.2.1 ∈ mj_tbl) (hse : Cond.selects Y'.1 Y'.2.1 Y'.2.1 ∈ mj_tbl)
    (hsh : mj_sh[p]? = some (.inr (.inr (ci, l)))) (hc : mj_cf[ci]? = some (Y'.1, fl)) (hb : Nat.blt p N0 = true) (hn0 : N0 ≤ nn) (he : Nat.ble (mj_e1 [.inr (.inr (.inl (some (p, 0)))), v0, v1, v2, v3]).length Y'.2.2.2.1 = true) (hst : Nat.ble (st.map mj_cat).sum 8 = true)
    (k : mj_J g Y' d' 0 0 (0, mj_ent [.inr (.inr (.inl (some (p, 0)))), v0, v1, v2, v3] Y'.2.2.2.1, [], mj_mem nn xs w) (mj_P nn xs (fun v w1 => ∃ x : Int, v = some (.inr (.inl x)) ∧ mj_J g Y (d' + 1) kc ks (pc + 3, lv, .inr (.inl x) :: st, mj_mem nn xs w1) Post))) : mj_J g Y (d' + 1) kc ks (pc, lv, v3 :: v2 :: v1 :: v0 :: .inr (.inr (.inl (some (p, 0)))) :: st, mj_mem nn xs w) Post :=
  mj_q_V 4 (vs := [v0, v1, v2, v3]) hd hy hl hs hse hsh hc hb hn0 rfl rfl he hst (mj_wk k (fun v w1 h => by obtain ⟨x, rfl, h⟩ := h; exact h))
theorem mj_q_S4v {v0 v1 v2 v3 : mj_V} (hd : decode Y.2.2.1 pc = .ok (.invokestatic idx, 3)) (hy : mj_yk Y' 4) (hl : Cond.methodLink Y.1 idx Y'.2.1 ∈ mj_tbl ∨ Cond.methodLinkNest Y.1 idx Y'.2.1 "ChartForest" ∈ mj_tbl) (hs : Cond.static Y'.2.1 ∈ mj_tbl) (he : Nat.ble (mj_e1 [v0, v1, v2, v3]).length Y'.2.2.2.1 = true) (hst : Nat.ble (st.map mj_cat).sum 8 = true)
    (k : mj_J g Y' d' 0 0 (0, mj_ent [v0, v1, v2, v3] Y'.2.2.2.1, [], mj_mem nn xs w) (mj_P nn xs (fun v w1 => v = none ∧ mj_J g Y (d' + 1) kc ks (pc + 3, lv, st, mj_mem nn xs w1) Post))) : mj_J g Y (d' + 1) kc ks (pc, lv, v3 :: v2 :: v1 :: v0 :: st, mj_mem nn xs w) Post :=
  mj_q_S 4 (vs := [v0, v1, v2, v3]) hd hy hl hs rfl rfl he hst (mj_wk k (fun v w1 h => by obtain ⟨rfl, h⟩ := h; exact h))
theorem mj_q_V4v {p ci : Nat} {l : List (Option Nat)} {fl : List (String × String × Bool)} {v0 v1 v2 v3 : mj_V} (hd : decode Y.2.2.1 pc = .ok (.invokevirtual idx, 3)) (hy : mj_yk Y' 4) (hl : Cond.methodLink Y.1 idx Y'.2.1 ∈ mj_tbl ∨ Cond.methodLinkNest Y.1 idx Y'.2.1 "ChartForest" ∈ mj_tbl) (hs : Cond.instanceMethod Y'.2.1 ∈ mj_tbl) (hse : Cond.selects Y'.1 Y'.2.1 Y'.2.1 ∈ mj_tbl)
    (hsh : mj_sh[p]? = some (.inr (.inr (ci, l)))) (hc : mj_cf[ci]? = some (Y'.1, fl)) (hb : Nat.blt p N0 = true) (hn0 : N0 ≤ nn) (he : Nat.ble (mj_e1 [.inr (.inr (.inl (some (p, 0)))), v0, v1, v2, v3]).length Y'.2.2.2.1 = true) (hst : Nat.ble (st.map mj_cat).sum 8 = true)
    (k : mj_J g Y' d' 0 0 (0, mj_ent [.inr (.inr (.inl (some (p, 0)))), v0, v1, v2, v3] Y'.2.2.2.1, [], mj_mem nn xs w) (mj_P nn xs (fun v w1 => v = none ∧ mj_J g Y (d' + 1) kc ks (pc + 3, lv, st, mj_mem nn xs w1) Post))) : mj_J g Y (d' + 1) kc ks (pc, lv, v3 :: v2 :: v1 :: v0 :: .inr (.inr (.inl (some (p, 0)))) :: st, mj_mem nn xs w) Post :=
  mj_q_V 4 (vs := [v0, v1, v2, v3]) hd hy hl hs hse hsh hc hb hn0 rfl rfl he hst (mj_wk k (fun v w1 h => by obtain ⟨rfl, h⟩ := h; exact h))
theorem mj_q_S5i {v0 v1 v2 v3 v4 : mj_V} (hd : decode Y.2.2.1 pc = .ok (.invokestatic idx, 3)) (hy : mj_yk Y' 5) (hl : Cond.methodLink Y.1 idx Y'.2.1 ∈ mj_tbl ∨ Cond.methodLinkNest Y.1 idx Y'.2.1 "ChartForest" ∈ mj_tbl) (hs : Cond.static Y'.2.1 ∈ mj_tbl) (he : Nat.ble (mj_e1 [v0, v1, v2, v3, v4]).length Y'.2.2.2.1 = true) (hst : Nat.ble (st.map mj_cat).sum 8 = true)
    (k : mj_J g Y' d' 0 0 (0, mj_ent [v0, v1, v2, v3, v4] Y'.2.2.2.1, [], mj_mem nn xs w) (mj_P nn xs (fun v w1 => ∃ x : Int, v = some (.inl x) ∧ mj_J g Y (d' + 1) kc ks (pc + 3, lv, .inl x :: st, mj_mem nn xs w1) Post))) : mj_J g Y (d' + 1) kc ks (pc, lv, v4 :: v3 :: v2 :: v1 :: v0 :: st, mj_mem nn xs w) Post :=
  mj_q_S 5 (vs := [v0, v1, v2, v3, v4]) hd hy hl hs rfl rfl he hst (mj_wk k (fun v w1 h => by obtain ⟨x, rfl, h⟩ := h; exact h))
theorem mj_q_V5i {p ci : Nat} {l : List (Option Nat)} {fl : List (String × String × Bool)} {v0 v1 v2 v3 v4 : mj_V} (hd : decode Y.2.2.1 pc = .ok (.invokevirtual idx, 3)) (hy : mj_yk Y' 5) (hl : Cond.methodLink Y.1 idx Y'.2.1 ∈ mj_tbl ∨ Cond.methodLinkNest Y.1 idx Y'.2.1 "ChartForest" ∈ mj_tbl) (hs : Cond.instanceMethod Y'.2.1 ∈ mj_tbl) (hse : Cond.selects Y'.1 Y'.2.1 Y'.2.1 ∈ mj_tbl)
    (hsh : mj_sh[p]? = some (.inr (.inr (ci, l)))) (hc : mj_cf[ci]? = some (Y'.1, fl)) (hb : Nat.blt p N0 = true) (hn0 : N0 ≤ nn) (he : Nat.ble (mj_e1 [.inr (.inr (.inl (some (p, 0)))), v0, v1, v2, v3, v4]).length Y'.2.2.2.1 = true) (hst : Nat.ble (st.map mj_cat).sum 8 = true)
    (k : mj_J g Y' d' 0 0 (0, mj_ent [.inr (.inr (.inl (some (p, 0)))), v0, v1, v2, v3, v4] Y'.2.2.2.1, [], mj_mem nn xs w) (mj_P nn xs (fun v w1 => ∃ x : Int, v = some (.inl x) ∧ mj_J g Y (d' + 1) kc ks (pc + 3, lv, .inl x :: st, mj_mem nn xs w1) Post))) : mj_J g Y (d' + 1) kc ks (pc, lv, v4 :: v3 :: v2 :: v1 :: v0 :: .inr (.inr (.inl (some (p, 0)))) :: st, mj_mem nn xs w) Post :=
  mj_q_V 5 (vs := [v0, v1, v2, v3, v4]) hd hy hl hs hse hsh hc hb hn0 rfl rfl he hst (mj_wk k (fun v w1 h => by obtain ⟨x, rfl, h⟩ := h; exact h))
theorem mj_q_S5l {v0 v1 v2 v3 v4 : mj_V} (hd : decode Y.2.2.1 pc = .ok (.invokestatic idx, 3)) (hy : mj_yk Y' 5) (hl : Cond.methodLink Y.1 idx Y'.2.1 ∈ mj_tbl ∨ Cond.methodLinkNest Y.1 idx Y'.2.1 "ChartForest" ∈ mj_tbl) (hs : Cond.static Y'.2.1 ∈ mj_tbl) (he : Nat.ble (mj_e1 [v0, v1, v2, v3, v4]).length Y'.2.2.2.1 = true) (hst : Nat.ble (st.map mj_cat).sum 8 = true)
    (k : mj_J g Y' d' 0 0 (0, mj_ent [v0, v1, v2, v3, v4] Y'.2.2.2.1, [], mj_mem nn xs w) (mj_P nn xs (fun v w1 => ∃ x : Int, v = some (.inr (.inl x)) ∧ mj_J g Y (d' + 1) kc ks (pc + 3, lv, .inr (.inl x) :: st, mj_mem nn xs w1) Post))) : mj_J g Y (d' + 1) kc ks (pc, lv, v4 :: v3 :: v2 :: v1 :: v0 :: st, mj_mem nn xs w) Post :=
  mj_q_S 5 (vs := [v0, v1, v2, v3, v4]) hd hy hl hs rfl rfl he hst (mj_wk k (fun v w1 h => by obtain ⟨x, rfl, h⟩ := h; exact h))
theorem mj_q_V5l {p ci : Nat} {l : List (Option Nat)} {fl : List (String × String × Bool)} {v0 v1 v2 v3 v4 : mj_V} (hd : decode Y.2.2.1 pc = .ok (.invokevirtual idx, 3)) (hy : mj_yk Y' 5) (hl : Cond.methodLink Y.1 idx Y'.2.1 ∈ mj_tbl ∨ Cond.methodLinkNest Y.1 idx Y'.2.1 "ChartForest" ∈ mj_tbl) (hs : Cond.instanceMethod Y'.2.1 ∈ mj_tbl) (hse : Cond.selects Y'.1 Y'.2.1 Y'.2.1 ∈ mj_tbl)
    (hsh : mj_sh[p]? = some (.inr (.inr (ci, l)))) (hc : mj_cf[ci]? = some (Y'.1, fl)) (hb : Nat.blt p N0 = true) (hn0 : N0 ≤ nn) (he : Nat.ble (mj_e1 [.inr (.inr (.inl (some (p, 0)))), v0, v1, v2, v3, v4]).length Y'.2.2.2.1 = true) (hst : Nat.ble (st.map mj_cat).sum 8 = true)
    (k : mj_J g Y' d' 0 0 (0, mj_ent [.inr (.inr (.inl (some (p, 0)))), v0, v1, v2, v3, v4] Y'.2.2.2.1, [], mj_mem nn xs w) (mj_P nn xs (fun v w1 => ∃ x : Int, v = some (.inr (.inl x)) ∧ mj_J g Y (d' + 1) kc ks (pc + 3, lv, .inr (.inl x) :: st, mj_mem nn xs w1) Post))) : mj_J g Y (d' + 1) kc ks (pc, lv, v4 :: v3 :: v2 :: v1 :: v0 :: .inr (.inr (.inl (some (p, 0)))) :: st, mj_mem nn xs w) Post :=
  mj_q_V 5 (vs := [v0, v1, v2, v3, v4]) hd hy hl hs hse hsh hc hb hn0 rfl rfl he hst (mj_wk k (fun v w1 h => by obtain ⟨x, rfl, h⟩ := h; exact h))
theorem mj_q_S5v {v0 v1 v2 v3 v4 : mj_V} (hd : decode Y.2.2.1 pc = .ok (.invokestatic idx, 3)) (hy : mj_yk Y' 5) (hl : Cond.methodLink Y.1 idx Y'.2.1 ∈ mj_tbl ∨ Cond.methodLinkNest Y.1 idx Y'.2.1 "ChartForest" ∈ mj_tbl) (hs : Cond.static Y'.2.1 ∈ mj_tbl) (he : Nat.ble (mj_e1 [v0, v1, v2, v3, v4]).length Y'.2.2.2.1 = true) (hst : Nat.ble (st.map mj_cat).sum 8 = true)
    (k : mj_J g Y' d' 0 0 (0, mj_ent [v0, v1, v2, v3, v4] Y'.2.2.2.1, [], mj_mem nn xs w) (mj_P nn xs (fun v w1 => v = none ∧ mj_J g Y (d' + 1) kc ks (pc + 3, lv, st, mj_mem nn xs w1) Post))) : mj_J g Y (d' + 1) kc ks (pc, lv, v4 :: v3 :: v2 :: v1 :: v0 :: st, mj_mem nn xs w) Post :=
  mj_q_S 5 (vs := [v0, v1, v2, v3, v4]) hd hy hl hs rfl rfl he hst (mj_wk k (fun v w1 h => by obtain ⟨rfl, h⟩ := h; exact h))
theorem mj_q_V5v {p ci : Nat} {l : List (Option Nat)} {fl : List (String × String × Bool)} {v0 v1 v2 v3 v4 : mj_V} (hd : decode Y.2.2.1 pc = .ok (.invokevirtual idx, 3)) (hy : mj_yk Y' 5) (hl : Cond.methodLink Y.1 idx Y'.2.1 ∈ mj_tbl ∨ Cond.methodLinkNest Y.1 idx Y'.2.1 "ChartForest" ∈ mj_tbl) (hs : Cond.instanceMethod Y'.2.1 ∈ mj_tbl) (hse : Cond.selects Y'.1 Y'.2.1 Y'.2.1 ∈ mj_tbl)
    (hsh : mj_sh[p]? = some (.inr (.inr (ci, l)))) (hc : mj_cf[ci]? = some (Y'.1, fl)) (hb : Nat.blt p N0 = true) (hn0 : N0 ≤ nn) (he : Nat.ble (mj_e1 [.inr (.inr (.inl (some (p, 0)))), v0, v1, v2, v3, v4]).length Y'.2.2.2.1 = true) (hst : Nat.ble (st.map mj_cat).sum 8 = true)
    (k : mj_J g Y' d' 0 0 (0, mj_ent [.inr (.inr (.inl (some (p, 0)))), v0, v1, v2, v3, v4] Y'.2.2.2.1, [], mj_mem nn xs w) (mj_P nn xs (fun v w1 => v = none ∧ mj_J g Y (d' + 1) kc ks (pc + 3, lv, st, mj_mem nn xs w1) Post))) : mj_J g Y (d' + 1) kc ks (pc, lv, v4 :: v3 :: v2 :: v1 :: v0 :: .inr (.inr (.inl (some (p, 0)))) :: st, mj_mem nn xs w) Post :=
  mj_q_V 5 (vs := [v0, v1, v2, v3, v4]) hd hy hl hs hse hsh hc hb hn0 rfl rfl he hst (mj_wk k (fun v w1 h => by obtain ⟨rfl, h⟩ := h; exact h))
end MJV
/-! ===== decode rows of a method in one, locals by parts, branches in two ===== -/
def mj_dec (c : ByteArray) (l : List (Nat × Instr × Nat)) : Bool := l.all fun q => decide (decode c q.1 = .ok (q.2.1, q.2.2))
theorem mj_d {c : ByteArray} {l : List (Nat × Instr × Nat)} (h : mj_dec c l = true) (n : Nat) {q : Nat × Instr × Nat} (hq : l[n]? = some q) : decode c q.1 = .ok (q.2.1, q.2.2) :=
  of_decide_eq_true (List.all_eq_true.mp h q (List.mem_of_getElem? hq))
def mj_sub : mj_L → mj_L → Prop
  | [], [] => True
  | a :: r, b :: q => (a = none ∨ a = b) ∧ mj_sub r q
  | _, _ => False
theorem mj_sub_of : ∀ {a b : mj_L}, mj_sub a b → a.length = b.length ∧ ∀ (i : Nat) (w : mj_V), a[i]? = some (some w) → b[i]? = some (some w)
  | [], [], _ => ⟨rfl, fun _ _ h => h⟩
  | a :: r, b :: q, h => by
    obtain ⟨h1, h2⟩ := mj_sub_of h.2
    refine ⟨by rw [List.length_cons, List.length_cons, h1], fun i w hw => ?_⟩
    cases i with
    | zero =>
      have hw2 : a = some w := Option.some.inj hw
      rcases h.1 with e | e
      · rw [e] at hw2; cases hw2
      · rw [← e, hw2]; rfl
    | succ i => exact h2 i w hw
  | [], _ :: _, h => h.elim
  | _ :: _, [], h => h.elim
theorem mj_ik {x : Int} (h : (decide (-2147483648 ≤ x) && decide (x < 2147483648)) = true) : mj_i x := by
  simp at h
  exact h
theorem mj_lk {x : Int} (h : (decide (-9223372036854775808 ≤ x) && decide (x < 9223372036854775808)) = true) : mj_l x := by
  simp at h
  exact h
section MJB
variable {g : mj_G} {Y : mj_Y} {d kc ks pc : Nat} {lv : mj_L} {st : List mj_V} {M : mj_M} {Post : mj_O → mj_M → Prop}
theorem mj_r_sub {lv' : mj_L} (h : mj_sub lv' lv) (k : mj_J g Y d kc ks (pc, lv', st, M) Post) : mj_J g Y d kc ks (pc, lv, st, M) Post := mj_r_less (mj_sub_of h).1 (mj_sub_of h).2 k
theorem mj_s_icmp_eq {x y : Int} {off : Int} {tgt : Nat} (hd : decode Y.2.2.1 pc = .ok (.if_icmp .eq off, 3)) (ht : (pc : Int) + off = (tgt : Int)) (hx : mj_i x) (hy : mj_i y) (kt : x = y → mj_J g Y d kc ks (tgt, lv, st, M) Post) (kf : ¬ x = y → mj_J g Y d kc ks (pc + 3, lv, st, M) Post) : mj_J g Y d kc ks (pc, lv, .inl y :: .inl x :: st, M) Post := by
  refine mj_r_icmp_eq hd ht hx hy ?_
  by_cases q : x = y
  · rw [if_pos q]; exact kt q
  · rw [if_neg q]; exact kf q
theorem mj_s_if_eq {x : Int} {off : Int} {tgt : Nat} (hd : decode Y.2.2.1 pc = .ok (.ifCond .eq off, 3)) (ht : (pc : Int) + off = (tgt : Int)) (hx : mj_i x) (kt : x = 0 → mj_J g Y d kc ks (tgt, lv, st, M) Post) (kf : ¬ x = 0 → mj_J g Y d kc ks (pc + 3, lv, st, M) Post) : mj_J g Y d kc ks (pc, lv, .inl x :: st, M) Post := by
  refine mj_r_if_eq hd ht hx ?_
  by_cases q : x = 0
  · rw [if_pos q]; exact kt q
  · rw [if_neg q]; exact kf q
theorem mj_s_icmp_ne {x y : Int} {off : Int} {tgt : Nat} (hd : decode Y.2.2.1 pc = .ok (.if_icmp .ne off, 3)) (ht : (pc : Int) + off = (tgt : Int)) (hx : mj_i x) (hy : mj_i y) (kt : x = y → mj_J g Y d kc ks (pc + 3, lv, st, M) Post) (kf : ¬ x = y → mj_J g Y d kc ks (tgt, lv, st, M) Post) : mj_J g Y d kc ks (pc, lv, .inl y :: .inl x :: st, M) Post := by
  refine mj_r_icmp_ne hd ht hx hy ?_
  by_cases q : x = y
  · rw [if_pos q]; exact kt q
  · rw [if_neg q]; exact kf q
theorem mj_s_if_ne {x : Int} {off : Int} {tgt : Nat} (hd : decode Y.2.2.1 pc = .ok (.ifCond .ne off, 3)) (ht : (pc : Int) + off = (tgt : Int)) (hx : mj_i x) (kt : x = 0 → mj_J g Y d kc ks (pc + 3, lv, st, M) Post) (kf : ¬ x = 0 → mj_J g Y d kc ks (tgt, lv, st, M) Post) : mj_J g Y d kc ks (pc, lv, .inl x :: st, M) Post := by
  refine mj_r_if_ne hd ht hx ?_
  by_cases q : x = 0
  · rw [if_pos q]; exact kt q
  · rw [if_neg q]; exact kf q
theorem mj_s_icmp_lt {x y : Int} {off : Int} {tgt : Nat} (hd : decode Y.2.2.1 pc = .ok (.if_icmp .lt off, 3)) (ht : (pc : Int) + off = (tgt : Int)) (hx : mj_i x) (hy : mj_i y) (kt : x < y → mj_J g Y d kc ks (tgt, lv, st, M) Post) (kf : ¬ x < y → mj_J g Y d kc ks (pc + 3, lv, st, M) Post) : mj_J g Y d kc ks (pc, lv, .inl y :: .inl x :: st, M) Post := by
  refine mj_r_icmp_lt hd ht hx hy ?_
  by_cases q : x < y
  · rw [if_pos q]; exact kt q
  · rw [if_neg q]; exact kf q
theorem mj_s_if_lt {x : Int} {off : Int} {tgt : Nat} (hd : decode Y.2.2.1 pc = .ok (.ifCond .lt off, 3)) (ht : (pc : Int) + off = (tgt : Int)) (hx : mj_i x) (kt : x < 0 → mj_J g Y d kc ks (tgt, lv, st, M) Post) (kf : ¬ x < 0 → mj_J g Y d kc ks (pc + 3, lv, st, M) Post) : mj_J g Y d kc ks (pc, lv, .inl x :: st, M) Post := by
  refine mj_r_if_lt hd ht hx ?_
  by_cases q : x < 0
  · rw [if_pos q]; exact kt q
  · rw [if_neg q]; exact kf q
theorem mj_s_icmp_ge {x y : Int} {off : Int} {tgt : Nat} (hd : decode Y.2.2.1 pc = .ok (.if_icmp .ge off, 3)) (ht : (pc : Int) + off = (tgt : Int)) (hx : mj_i x) (hy : mj_i y) (kt : x < y → mj_J g Y d kc ks (pc + 3, lv, st, M) Post) (kf : ¬ x < y → mj_J g Y d kc ks (tgt, lv, st, M) Post) : mj_J g Y d kc ks (pc, lv, .inl y :: .inl x :: st, M) Post := by
  refine mj_r_icmp_ge hd ht hx hy ?_
  by_cases q : x < y
  · rw [if_pos q]; exact kt q
  · rw [if_neg q]; exact kf q
theorem mj_s_if_ge {x : Int} {off : Int} {tgt : Nat} (hd : decode Y.2.2.1 pc = .ok (.ifCond .ge off, 3)) (ht : (pc : Int) + off = (tgt : Int)) (hx : mj_i x) (kt : x < 0 → mj_J g Y d kc ks (pc + 3, lv, st, M) Post) (kf : ¬ x < 0 → mj_J g Y d kc ks (tgt, lv, st, M) Post) : mj_J g Y d kc ks (pc, lv, .inl x :: st, M) Post := by
  refine mj_r_if_ge hd ht hx ?_
  by_cases q : x < 0
  · rw [if_pos q]; exact kt q
  · rw [if_neg q]; exact kf q
theorem mj_s_icmp_gt {x y : Int} {off : Int} {tgt : Nat} (hd : decode Y.2.2.1 pc = .ok (.if_icmp .gt off, 3)) (ht : (pc : Int) + off = (tgt : Int)) (hx : mj_i x) (hy : mj_i y) (kt : y < x → mj_J g Y d kc ks (tgt, lv, st, M) Post) (kf : ¬ y < x → mj_J g Y d kc ks (pc + 3, lv, st, M) Post) : mj_J g Y d kc ks (pc, lv, .inl y :: .inl x :: st, M) Post := by
  refine mj_r_icmp_gt hd ht hx hy ?_
  by_cases q : y < x
  · rw [if_pos q]; exact kt q
  · rw [if_neg q]; exact kf q
theorem mj_s_if_gt {x : Int} {off : Int} {tgt : Nat} (hd : decode Y.2.2.1 pc = .ok (.ifCond .gt off, 3)) (ht : (pc : Int) + off = (tgt : Int)) (hx : mj_i x) (kt : 0 < x → mj_J g Y d kc ks (tgt, lv, st, M) Post) (kf : ¬ 0 < x → mj_J g Y d kc ks (pc + 3, lv, st, M) Post) : mj_J g Y d kc ks (pc, lv, .inl x :: st, M) Post := by
  refine mj_r_if_gt hd ht hx ?_
  by_cases q : 0 < x
  · rw [if_pos q]; exact kt q
  · rw [if_neg q]; exact kf q
theorem mj_s_icmp_le {x y : Int} {off : Int} {tgt : Nat} (hd : decode Y.2.2.1 pc = .ok (.if_icmp .le off, 3)) (ht : (pc : Int) + off = (tgt : Int)) (hx : mj_i x) (hy : mj_i y) (kt : y < x → mj_J g Y d kc ks (pc + 3, lv, st, M) Post) (kf : ¬ y < x → mj_J g Y d kc ks (tgt, lv, st, M) Post) : mj_J g Y d kc ks (pc, lv, .inl y :: .inl x :: st, M) Post := by
  refine mj_r_icmp_le hd ht hx hy ?_
  by_cases q : y < x
  · rw [if_pos q]; exact kt q
  · rw [if_neg q]; exact kf q
theorem mj_s_if_le {x : Int} {off : Int} {tgt : Nat} (hd : decode Y.2.2.1 pc = .ok (.ifCond .le off, 3)) (ht : (pc : Int) + off = (tgt : Int)) (hx : mj_i x) (kt : 0 < x → mj_J g Y d kc ks (pc + 3, lv, st, M) Post) (kf : ¬ 0 < x → mj_J g Y d kc ks (tgt, lv, st, M) Post) : mj_J g Y d kc ks (pc, lv, .inl x :: st, M) Post := by
  refine mj_r_if_le hd ht hx ?_
  by_cases q : 0 < x
  · rw [if_pos q]; exact kt q
  · rw [if_neg q]; exact kf q
/-- a compare of longs and the branch behind it -/
theorem mj_s_l_eq {x y : Int} {off : Int} {tgt : Nat} (hd0 : decode Y.2.2.1 pc = .ok (.lcmp, 1)) (hd : decode Y.2.2.1 (pc + 1) = .ok (.ifCond .eq off, 3)) (ht : ((pc + 1 : Nat) : Int) + off = (tgt : Int)) (hx : mj_l x) (hy : mj_l y) (kt : x = y → mj_J g Y d kc ks (tgt, lv, st, M) Post) (kf : ¬ x = y → mj_J g Y d kc ks (pc + 1 + 3, lv, st, M) Post) : mj_J g Y d kc ks (pc, lv, .inr (.inl y) :: .inr (.inl x) :: st, M) Post := by
  refine mj_r_lcmp hd0 hx hy ?_
  have hi : mj_i (mj_cmp x y) := by
    unfold mj_cmp mj_i
    split
    · omega
    · split <;> omega
  have e : (mj_cmp x y = 0) ↔ x = y := by
    unfold mj_cmp
    split
    · omega
    · split <;> omega
  refine mj_s_if_eq hd ht hi (fun q => kt (e.mp q)) (fun q => kf (fun q2 => q (e.mpr q2)))
theorem mj_s_l_ne {x y : Int} {off : Int} {tgt : Nat} (hd0 : decode Y.2.2.1 pc = .ok (.lcmp, 1)) (hd : decode Y.2.2.1 (pc + 1) = .ok (.ifCond .ne off, 3)) (ht : ((pc + 1 : Nat) : Int) + off = (tgt : Int)) (hx : mj_l x) (hy : mj_l y) (kt : x = y → mj_J g Y d kc ks (pc + 1 + 3, lv, st, M) Post) (kf : ¬ x = y → mj_J g Y d kc ks (tgt, lv, st, M) Post) : mj_J g Y d kc ks (pc, lv, .inr (.inl y) :: .inr (.inl x) :: st, M) Post := by
  refine mj_r_lcmp hd0 hx hy ?_
  have hi : mj_i (mj_cmp x y) := by
    unfold mj_cmp mj_i
    split
    · omega
    · split <;> omega
  have e : (mj_cmp x y = 0) ↔ x = y := by
    unfold mj_cmp
    split
    · omega
    · split <;> omega
  refine mj_s_if_ne hd ht hi (fun q => kt (e.mp q)) (fun q => kf (fun q2 => q (e.mpr q2)))
theorem mj_s_l_lt {x y : Int} {off : Int} {tgt : Nat} (hd0 : decode Y.2.2.1 pc = .ok (.lcmp, 1)) (hd : decode Y.2.2.1 (pc + 1) = .ok (.ifCond .lt off, 3)) (ht : ((pc + 1 : Nat) : Int) + off = (tgt : Int)) (hx : mj_l x) (hy : mj_l y) (kt : x < y → mj_J g Y d kc ks (tgt, lv, st, M) Post) (kf : ¬ x < y → mj_J g Y d kc ks (pc + 1 + 3, lv, st, M) Post) : mj_J g Y d kc ks (pc, lv, .inr (.inl y) :: .inr (.inl x) :: st, M) Post := by
  refine mj_r_lcmp hd0 hx hy ?_
  have hi : mj_i (mj_cmp x y) := by
    unfold mj_cmp mj_i
    split
    · omega
    · split <;> omega
  have e : (mj_cmp x y < 0) ↔ x < y := by
    unfold mj_cmp
    split
    · omega
    · split <;> omega
  refine mj_s_if_lt hd ht hi (fun q => kt (e.mp q)) (fun q => kf (fun q2 => q (e.mpr q2)))
theorem mj_s_l_ge {x y : Int} {off : Int} {tgt : Nat} (hd0 : decode Y.2.2.1 pc = .ok (.lcmp, 1)) (hd : decode Y.2.2.1 (pc + 1) = .ok (.ifCond .ge off, 3)) (ht : ((pc + 1 : Nat) : Int) + off = (tgt : Int)) (hx : mj_l x) (hy : mj_l y) (kt : x < y → mj_J g Y d kc ks (pc + 1 + 3, lv, st, M) Post) (kf : ¬ x < y → mj_J g Y d kc ks (tgt, lv, st, M) Post) : mj_J g Y d kc ks (pc, lv, .inr (.inl y) :: .inr (.inl x) :: st, M) Post := by
  refine mj_r_lcmp hd0 hx hy ?_
  have hi : mj_i (mj_cmp x y) := by
    unfold mj_cmp mj_i
    split
    · omega
    · split <;> omega
  have e : (mj_cmp x y < 0) ↔ x < y := by
    unfold mj_cmp
    split
    · omega
    · split <;> omega
  refine mj_s_if_ge hd ht hi (fun q => kt (e.mp q)) (fun q => kf (fun q2 => q (e.mpr q2)))
theorem mj_s_l_gt {x y : Int} {off : Int} {tgt : Nat} (hd0 : decode Y.2.2.1 pc = .ok (.lcmp, 1)) (hd : decode Y.2.2.1 (pc + 1) = .ok (.ifCond .gt off, 3)) (ht : ((pc + 1 : Nat) : Int) + off = (tgt : Int)) (hx : mj_l x) (hy : mj_l y) (kt : y < x → mj_J g Y d kc ks (tgt, lv, st, M) Post) (kf : ¬ y < x → mj_J g Y d kc ks (pc + 1 + 3, lv, st, M) Post) : mj_J g Y d kc ks (pc, lv, .inr (.inl y) :: .inr (.inl x) :: st, M) Post := by
  refine mj_r_lcmp hd0 hx hy ?_
  have hi : mj_i (mj_cmp x y) := by
    unfold mj_cmp mj_i
    split
    · omega
    · split <;> omega
  have e : (0 < mj_cmp x y) ↔ y < x := by
    unfold mj_cmp
    split
    · omega
    · split <;> omega
  refine mj_s_if_gt hd ht hi (fun q => kt (e.mp q)) (fun q => kf (fun q2 => q (e.mpr q2)))
theorem mj_s_l_le {x y : Int} {off : Int} {tgt : Nat} (hd0 : decode Y.2.2.1 pc = .ok (.lcmp, 1)) (hd : decode Y.2.2.1 (pc + 1) = .ok (.ifCond .le off, 3)) (ht : ((pc + 1 : Nat) : Int) + off = (tgt : Int)) (hx : mj_l x) (hy : mj_l y) (kt : y < x → mj_J g Y d kc ks (pc + 1 + 3, lv, st, M) Post) (kf : ¬ y < x → mj_J g Y d kc ks (tgt, lv, st, M) Post) : mj_J g Y d kc ks (pc, lv, .inr (.inl y) :: .inr (.inl x) :: st, M) Post := by
  refine mj_r_lcmp hd0 hx hy ?_
  have hi : mj_i (mj_cmp x y) := by
    unfold mj_cmp mj_i
    split
    · omega
    · split <;> omega
  have e : (0 < mj_cmp x y) ↔ y < x := by
    unfold mj_cmp
    split
    · omega
    · split <;> omega
  refine mj_s_if_le hd ht hi (fun q => kt (e.mp q)) (fun q => kf (fun q2 => q (e.mpr q2)))
theorem mj_s_table {dflt lo hi : Int} {offs : Array Int} {len : Nat} {x : Int} (hd : decode Y.2.2.1 pc = .ok (.tableswitch dflt lo hi offs, len)) (hx : mj_i x) (kd : x < lo ∨ hi < x → ∃ td : Nat, (pc : Int) + dflt = (td : Int) ∧ mj_J g Y d kc ks (td, lv, st, M) Post)
    (kt : ∀ j : Nat, (j : Int) ≤ hi - lo → x = lo + j → ∃ (off : Int) (td : Nat), offs[j]? = some off ∧ (pc : Int) + off = (td : Int) ∧ mj_J g Y d kc ks (td, lv, st, M) Post) : mj_J g Y d kc ks (pc, lv, .inl x :: st, M) Post := by
  intro hG p e R s m args below meth c H ls locs cells slots hK
  by_cases q : x < lo ∨ hi < x
  · obtain ⟨td, h1, k⟩ := kd q
    exact lv_tableOut hK.1.1 hK.1.2.1 hd (by rw [mj_ti hx]; exact q) h1 (k hG p e R s m args below meth c H ls locs cells slots hK)
  · obtain ⟨off, td, e1, e2, k⟩ := kt (x - lo).toNat (by omega) (by omega)
    exact lv_tableIn hK.1.1 hK.1.2.1 hd (by rw [mj_ti hx]; omega) (by rw [mj_ti hx]; omega) (by rw [mj_ti hx]; exact e1) e2 (k hG p e R s m args below meth c H ls locs cells slots hK)
theorem mj_r_dup_x1 {v u : mj_V} (hd : decode Y.2.2.1 pc = .ok (.dup_x1, 1)) (hc : mj_cat v = 1) (hv : mj_cat u = 1) (k : mj_J g Y d kc ks (pc + 1, lv, v :: u :: v :: st, M) Post) : mj_J g Y d kc ks (pc, lv, v :: u :: st, M) Post := by
  intro hG p e R s m args below meth c H ls locs cells slots hK
  have h := k hG p e R s m args below meth c H ls locs cells slots hK
  exact lv_dup_x1 hK.1.1 hK.1.2.1 hd (by rw [mj_tr_cat]; exact hc) (by rw [mj_tr_cat]; exact hv) h
theorem mj_r_dup_x2 {v u t : mj_V} (hd : decode Y.2.2.1 pc = .ok (.dup_x2, 1)) (hc : mj_cat v = 1) (hv : mj_cat u = 1) (ht : mj_cat t = 1) (k : mj_J g Y d kc ks (pc + 1, lv, v :: u :: t :: v :: st, M) Post) : mj_J g Y d kc ks (pc, lv, v :: u :: t :: st, M) Post := by
  intro hG p e R s m args below meth c H ls locs cells slots hK
  have h := k hG p e R s m args below meth c H ls locs cells slots hK
  exact lv_dup_x2 hK.1.1 hK.1.2.1 hd (by rw [mj_tr_cat]; exact hc) (by rw [mj_tr_cat]; exact hv) (by rw [mj_tr_cat]; exact ht) h
end MJB
abbrev mj_R (p : Nat) : mj_V := .inr (.inr (.inl (some (p, 0))))
theorem f_0_0 : mj_fR 0 0 1 "ChartForest" "grammar" "LChartForest$Grammar;" true := ⟨_, _, _, rfl, rfl, rfl, rfl⟩
theorem f_0_1 : mj_fR 0 1 4 "ChartForest" "tape" "LChartForest$Tape;" true := ⟨_, _, _, rfl, rfl, rfl, rfl⟩
theorem f_0_2 : mj_fR 0 2 6 "ChartForest" "chart" "LChartForest$Chart;" true := ⟨_, _, _, rfl, rfl, rfl, rfl⟩
theorem f_0_3 : mj_fR 0 3 11 "ChartForest" "forest" "LChartForest$Forest;" true := ⟨_, _, _, rfl, rfl, rfl, rfl⟩
theorem f_1_0 : mj_fI 1 0 "ChartForest$Grammar" "count" "I" false := ⟨_, _, _, rfl, rfl, rfl, rfl⟩
theorem f_1_1 : mj_fR 1 1 2 "ChartForest$Grammar" "lefts" "[I" true := ⟨_, _, _, rfl, rfl, rfl, rfl⟩
theorem f_1_2 : mj_fR 1 2 3 "ChartForest$Grammar" "behind" "[I" true := ⟨_, _, _, rfl, rfl, rfl, rfl⟩
theorem f_4_0 : mj_fI 4 0 "ChartForest$Tape" "length" "I" false := ⟨_, _, _, rfl, rfl, rfl, rfl⟩
theorem f_4_1 : mj_fR 4 1 5 "ChartForest$Tape" "terminals" "[I" true := ⟨_, _, _, rfl, rfl, rfl, rfl⟩
theorem f_6_0 : mj_fR 6 0 1 "ChartForest$Chart" "grammar" "LChartForest$Grammar;" true := ⟨_, _, _, rfl, rfl, rfl, rfl⟩
theorem f_6_1 : mj_fI 6 1 "ChartForest$Chart" "leaping" "Z" true := ⟨_, _, _, rfl, rfl, rfl, rfl⟩
theorem f_6_2 : mj_fR 6 2 7 "ChartForest$Chart" "origins" "[[I" true := ⟨_, _, _, rfl, rfl, rfl, rfl⟩
theorem f_6_3 : mj_fR 6 3 8 "ChartForest$Chart" "sizes" "[I" true := ⟨_, _, _, rfl, rfl, rfl, rfl⟩
theorem f_6_4 : mj_fR 6 4 9 "ChartForest$Chart" "named" "[[I" true := ⟨_, _, _, rfl, rfl, rfl, rfl⟩
theorem f_6_5 : mj_fR 6 5 10 "ChartForest$Chart" "agenda" "[I" true := ⟨_, _, _, rfl, rfl, rfl, rfl⟩
theorem f_6_6 : mj_fI 6 6 "ChartForest$Chart" "agendaSize" "I" false := ⟨_, _, _, rfl, rfl, rfl, rfl⟩
theorem f_6_7 : mj_fI 6 7 "ChartForest$Chart" "completeHere" "I" false := ⟨_, _, _, rfl, rfl, rfl, rfl⟩
theorem f_11_0 : mj_fR 11 0 4 "ChartForest$Forest" "tape" "LChartForest$Tape;" true := ⟨_, _, _, rfl, rfl, rfl, rfl⟩
theorem f_11_1 : mj_fR 11 1 15 "ChartForest$Forest" "counts" "LChartForest$Counts;" true := ⟨_, _, _, rfl, rfl, rfl, rfl⟩
theorem f_11_2 : mj_fR 11 2 17 "ChartForest$Forest" "ways" "LChartForest$Ways;" true := ⟨_, _, _, rfl, rfl, rfl, rfl⟩
theorem f_11_3 : mj_fI 11 3 "ChartForest$Forest" "readyEnds" "I" false := ⟨_, _, _, rfl, rfl, rfl, rfl⟩
theorem f_11_4 : mj_fR 11 4 12 "ChartForest$Forest" "cells" "[I" true := ⟨_, _, _, rfl, rfl, rfl, rfl⟩
theorem f_11_5 : mj_fR 11 5 13 "ChartForest$Forest" "met" "[Z" true := ⟨_, _, _, rfl, rfl, rfl, rfl⟩
theorem f_11_6 : mj_fI 11 6 "ChartForest$Forest" "cellCount" "I" false := ⟨_, _, _, rfl, rfl, rfl, rfl⟩
theorem f_11_7 : mj_fR 11 7 14 "ChartForest$Forest" "numbers" "[J" true := ⟨_, _, _, rfl, rfl, rfl, rfl⟩
theorem f_15_0 : mj_fR 15 0 4 "ChartForest$Counts" "tape" "LChartForest$Tape;" true := ⟨_, _, _, rfl, rfl, rfl, rfl⟩
theorem f_15_1 : mj_fR 15 1 16 "ChartForest$Counts" "table" "[J" true := ⟨_, _, _, rfl, rfl, rfl, rfl⟩
theorem f_17_0 : mj_fR 17 0 1 "ChartForest$Ways" "grammar" "LChartForest$Grammar;" true := ⟨_, _, _, rfl, rfl, rfl, rfl⟩
theorem f_17_1 : mj_fR 17 1 15 "ChartForest$Ways" "counts" "LChartForest$Counts;" true := ⟨_, _, _, rfl, rfl, rfl, rfl⟩
theorem f_17_2 : mj_fI 17 2 "ChartForest$Ways" "from" "I" false := ⟨_, _, _, rfl, rfl, rfl, rfl⟩
theorem f_17_3 : mj_fI 17 3 "ChartForest$Ways" "to" "I" false := ⟨_, _, _, rfl, rfl, rfl, rfl⟩
theorem f_17_4 : mj_fI 17 4 "ChartForest$Ways" "count" "I" false := ⟨_, _, _, rfl, rfl, rfl, rfl⟩
theorem f_17_5 : mj_fR 17 5 18 "ChartForest$Ways" "rules" "[I" true := ⟨_, _, _, rfl, rfl, rfl, rfl⟩
theorem f_17_6 : mj_fR 17 6 19 "ChartForest$Ways" "innerCuts" "[I" true := ⟨_, _, _, rfl, rfl, rfl, rfl⟩
theorem f_17_7 : mj_fR 17 7 20 "ChartForest$Ways" "trees" "[J" true := ⟨_, _, _, rfl, rfl, rfl, rfl⟩
theorem f_21_0 : mj_fI 21 0 "ChartForestModel" "leaps" "Z" true := ⟨_, _, _, rfl, rfl, rfl, rfl⟩
theorem f_21_1 : mj_fI 21 1 "ChartForestModel" "refusal" "I" false := ⟨_, _, _, rfl, rfl, rfl, rfl⟩
theorem f_21_2 : mj_fI 21 2 "ChartForestModel" "rules" "I" false := ⟨_, _, _, rfl, rfl, rfl, rfl⟩
theorem f_21_3 : mj_fR 21 3 22 "ChartForestModel" "left" "[I" false := ⟨_, _, _, rfl, rfl, rfl, rfl⟩
theorem f_21_4 : mj_fR 21 4 23 "ChartForestModel" "lengths" "[I" false := ⟨_, _, _, rfl, rfl, rfl, rfl⟩
theorem f_21_5 : mj_fR 21 5 24 "ChartForestModel" "body" "[I" false := ⟨_, _, _, rfl, rfl, rfl, rfl⟩
theorem f_21_6 : mj_fI 21 6 "ChartForestModel" "fedCount" "I" false := ⟨_, _, _, rfl, rfl, rfl, rfl⟩
theorem f_21_7 : mj_fR 21 7 25 "ChartForestModel" "terminals" "[I" false := ⟨_, _, _, rfl, rfl, rfl, rfl⟩
theorem f_21_8 : mj_fR 21 8 26 "ChartForestModel" "items" "[Z" false := ⟨_, _, _, rfl, rfl, rfl, rfl⟩
theorem f_21_9 : mj_fI 21 9 "ChartForestModel" "worked" "Z" false := ⟨_, _, _, rfl, rfl, rfl, rfl⟩
theorem f_21_10 : mj_fR 21 10 27 "ChartForestModel" "derives" "[Z" false := ⟨_, _, _, rfl, rfl, rfl, rfl⟩
theorem f_21_11 : mj_fR 21 11 28 "ChartForestModel" "counted" "[Z" false := ⟨_, _, _, rfl, rfl, rfl, rfl⟩
theorem f_21_12 : mj_fR 21 12 29 "ChartForestModel" "number" "[J" false := ⟨_, _, _, rfl, rfl, rfl, rfl⟩
theorem f_21_13 : mj_fR 21 13 30 "ChartForestModel" "met" "[Z" false := ⟨_, _, _, rfl, rfl, rfl, rfl⟩
theorem f_21_14 : mj_fI 21 14 "ChartForestModel" "cutOne" "I" false := ⟨_, _, _, rfl, rfl, rfl, rfl⟩
theorem f_21_15 : mj_fI 21 15 "ChartForestModel" "cutTwo" "I" false := ⟨_, _, _, rfl, rfl, rfl, rfl⟩
theorem f_21_16 : mj_fR 21 16 31 "ChartForestModel" "todo" "[I" false := ⟨_, _, _, rfl, rfl, rfl, rfl⟩
theorem f_21_17 : mj_fR 21 17 32 "ChartForestModel" "todoTree" "[J" false := ⟨_, _, _, rfl, rfl, rfl, rfl⟩
theorem f_21_18 : mj_fI 21 18 "ChartForestModel" "todoCount" "I" false := ⟨_, _, _, rfl, rfl, rfl, rfl⟩
end
section
/-! ===== numbers and bits ===== -/
theorem mj_bv {x : Int} (h0 : 0 ≤ x) (h1 : x < 4294967296) : (BitVec.ofInt 32 x).toNat = x.toNat := by
  rw [BitVec.toNat_ofInt]
  congr 1
  exact Int.emod_eq_of_lt h0 h1
theorem mj_bvI {v : BitVec 32} (h : v.toNat < 2147483648) : v.toInt = (v.toNat : Int) := BitVec.toInt_eq_toNat_of_lt (by omega)
theorem mj_and_nat {x y : Int} (hx0 : 0 ≤ x) (hx : x < 2147483648) (hy0 : 0 ≤ y) (hy : y < 2147483648) : mj_and x y = ((x.toNat &&& y.toNat : Nat) : Int) := by
  show (BitVec.ofInt 32 x &&& BitVec.ofInt 32 y).toInt = _
  have h : (BitVec.ofInt 32 x &&& BitVec.ofInt 32 y).toNat = x.toNat &&& y.toNat := by
    rw [BitVec.toNat_and, mj_bv hx0 (by omega), mj_bv hy0 (by omega)]
  have h2 : x.toNat &&& y.toNat ≤ x.toNat := Nat.and_le_left
  rw [mj_bvI (by omega), h]
theorem mj_ior_nat {x y : Int} (hx0 : 0 ≤ x) (hx : x < 2147483648) (hy0 : 0 ≤ y) (hy : y < 2147483648) : mj_ior x y = ((x.toNat ||| y.toNat : Nat) : Int) := by
  show (BitVec.ofInt 32 x ||| BitVec.ofInt 32 y).toInt = _
  have h : (BitVec.ofInt 32 x ||| BitVec.ofInt 32 y).toNat = x.toNat ||| y.toNat := by
    rw [BitVec.toNat_or, mj_bv hx0 (by omega), mj_bv hy0 (by omega)]
  have h2 : x.toNat ||| y.toNat < 2 ^ 31 := Nat.or_lt_two_pow (by omega) (by omega)
  rw [mj_bvI (by omega), h]
theorem mj_ush_nat {x k : Int} (hx0 : 0 ≤ x) (hx : x < 2147483648) (hk0 : 0 ≤ k) (hk : k < 32) : mj_ush x k = ((x.toNat >>> k.toNat : Nat) : Int) := by
  show (BitVec.ofInt 32 x >>> ((BitVec.ofInt 32 k &&& 31#32) % 32#32)).toInt = _
  have hk2 : ((BitVec.ofInt 32 k &&& 31#32) % 32#32).toNat = k.toNat := by
    rw [BitVec.toNat_umod, BitVec.toNat_and, mj_bv hk0 (by omega)]
    show (k.toNat &&& 31) % 32 = k.toNat
    rw [show (31 : Nat) = 2 ^ 5 - 1 by decide, Nat.and_two_pow_sub_one_eq_mod]
    omega
  have h : (BitVec.ofInt 32 x >>> ((BitVec.ofInt 32 k &&& 31#32) % 32#32)).toNat = x.toNat >>> k.toNat := by
    rw [BitVec.ushiftRight_eq', BitVec.toNat_ushiftRight, mj_bv hx0 (by omega), hk2]
  have h2 : x.toNat >>> k.toNat ≤ x.toNat := by
    rw [Nat.shiftRight_eq_div_pow]
    exact Nat.div_le_self _ _
  rw [mj_bvI (by omega), h]
theorem mj_and1 {x : Int} (hx0 : 0 ≤ x) (hx : x < 2147483648) : mj_and x 1 = x % 2 := by
  rw [mj_and_nat hx0 hx (by decide) (by decide)]
  show ((x.toNat &&& 1 : Nat) : Int) = _
  rw [Nat.and_one_is_mod]
  omega
theorem mj_and15 {x : Int} (hx0 : 0 ≤ x) (hx : x < 2147483648) : mj_and x 15 = x % 16 := by
  rw [mj_and_nat hx0 hx (by decide) (by decide)]
  show ((x.toNat &&& (2 ^ 4 - 1) : Nat) : Int) = _
  rw [Nat.and_two_pow_sub_one_eq_mod]
  omega
/-- bit o of x -/
def mj_t (x o : Int) : Bool := x.toNat.testBit o.toNat
theorem mj_bit_of {x o : Int} (hx0 : 0 ≤ x) (hx : x < 2147483648) (ho0 : 0 ≤ o) (ho : o < 32) : mj_and (mj_ush x o) 1 = if mj_t x o then 1 else 0 := by
  rw [mj_ush_nat hx0 hx ho0 ho]
  have h2 : x.toNat >>> o.toNat ≤ x.toNat := by
    rw [Nat.shiftRight_eq_div_pow]
    exact Nat.div_le_self _ _
  unfold mj_t
  rw [Nat.testBit_eq_decide_div_mod_eq, ← Nat.shiftRight_eq_div_pow]
  generalize x.toNat >>> o.toNat = q at h2
  rw [mj_and1 (by omega) (by omega)]
  by_cases e : q % 2 = 1
  · rw [if_pos (by simp [e])]
    omega
  · rw [if_neg (by simp [e])]
    omega
theorem mj_shl1 {k : Int} (h0 : 0 ≤ k) (h1 : k < 13) : mj_shl 1 k = 2 ^ k.toNat := by
  have h : k = 0 ∨ k = 1 ∨ k = 2 ∨ k = 3 ∨ k = 4 ∨ k = 5 ∨ k = 6 ∨ k = 7 ∨ k = 8 ∨ k = 9 ∨ k = 10 ∨ k = 11 ∨ k = 12 := by omega
  rcases h with rfl | rfl | rfl | rfl | rfl | rfl | rfl | rfl | rfl | rfl | rfl | rfl | rfl <;> decide
theorem mj_t_or {x o k : Int} (hx0 : 0 ≤ x) (hx : x < 8192) (ho0 : 0 ≤ o) (ho : o < 13) : mj_t (mj_ior x (mj_shl 1 o)) k = (mj_t x k || decide (k.toNat = o.toNat)) ∧ 0 ≤ mj_ior x (mj_shl 1 o) ∧ mj_ior x (mj_shl 1 o) < 8192 := by
  rw [mj_shl1 ho0 ho]
  have hp : (2 : Int) ^ o.toNat = ((2 ^ o.toNat : Nat) : Int) := by simp
  have hlt : 2 ^ o.toNat < 2 ^ 13 := Nat.pow_lt_pow_right (by decide) (by omega)
  have ht : ∀ k : Nat, (2 ^ o.toNat).testBit k = decide (o.toNat = k) := fun k => Nat.testBit_two_pow
  rw [hp]
  generalize 2 ^ o.toNat = P at hlt ht
  have hP : P < 8192 := hlt
  have e : (P : Int).toNat = P := Int.toNat_natCast P
  rw [mj_ior_nat hx0 (by omega) (by omega) (by omega), e]
  unfold mj_t
  refine ⟨?_, by omega, ?_⟩
  · rw [Int.toNat_natCast, Nat.testBit_or, ht]
    congr 1
    simp [eq_comm]
  · have h2 : x.toNat ||| P < 2 ^ 13 := Nat.or_lt_two_pow (by omega) hlt
    omega
theorem mj_t_zero (k : Int) : mj_t 0 k = false := by simp [mj_t]
theorem mj_t_ne {x : Int} (hx0 : 0 ≤ x) (hx : x < 8192) : x ≠ 0 ↔ ∃ o : Int, 0 ≤ o ∧ o < 13 ∧ mj_t x o = true := by
  constructor
  · intro h
    obtain ⟨i, hi⟩ := Nat.exists_testBit_of_ne_zero (x := x.toNat) (by omega)
    refine ⟨(i : Int), by omega, ?_, by unfold mj_t; simpa using hi⟩
    by_cases e : i < 13
    · omega
    · exfalso
      have h2 : x.toNat < 2 ^ i := Nat.lt_of_lt_of_le (by omega : x.toNat < 2 ^ 13) (Nat.pow_le_pow_right (by decide) (by omega))
      rw [Nat.testBit_lt_two_pow h2] at hi
      cases hi
  · rintro ⟨o, -, -, h⟩ rfl
    rw [mj_t_zero] at h
    cases h
end
section
/-! ===== how many below n ===== -/
def mj_cn (f : Nat → Bool) : Nat → Nat
  | 0 => 0
  | n + 1 => mj_cn f n + (if f n then 1 else 0)
theorem mj_cn_le (f : Nat → Bool) : ∀ n, mj_cn f n ≤ n
  | 0 => Nat.le_refl _
  | n + 1 => by
    have h := mj_cn_le f n
    simp only [mj_cn]
    split <;> omega
theorem mj_cn_lt {f : Nat → Bool} {k : Nat} (hk : f k = false) : ∀ n, k < n → mj_cn f n < n
  | 0, h => by omega
  | n + 1, h => by
    simp only [mj_cn]
    by_cases e : k = n
    · subst e
      have := mj_cn_le f k
      simp [hk]
      omega
    · have := mj_cn_lt hk n (by omega)
      split <;> omega
theorem mj_cn_congr {f g : Nat → Bool} : ∀ n, (∀ k, k < n → f k = g k) → mj_cn f n = mj_cn g n
  | 0, _ => rfl
  | n + 1, h => by
    simp only [mj_cn]
    rw [mj_cn_congr n (fun k hk => h k (by omega)), h n (by omega)]
theorem mj_cn_set {f g : Nat → Bool} {k : Nat} (hk : f k = false) (hg : g k = true) : ∀ n, k < n → (∀ j, j < n → j ≠ k → g j = f j) → mj_cn g n = mj_cn f n + 1
  | 0, h, _ => by omega
  | n + 1, h, ho => by
    simp only [mj_cn]
    by_cases e : k = n
    · subst e
      rw [mj_cn_congr (f := g) (g := f) k (fun j hj => ho j (by omega) (by omega))]
      simp [hk, hg]
    · rw [mj_cn_set hk hg n (by omega) (fun j hj => ho j (by omega)), ho n (by omega) (fun q => e q.symm)]
      omega
theorem mj_cn_zero {f : Nat → Bool} (n : Nat) (h : ∀ k, k < n → f k = false) : mj_cn f n = 0 := by
  induction n with
  | zero => rfl
  | succ n ih => simp [mj_cn, ih (fun k hk => h k (by omega)), h n (by omega)]
end
section
/-! ===== Math.min ===== -/
def mj_min (x y : Int) : Int := if y < x then y else x
theorem mj_min_eq (x y : Int) : mj_min x y = min x y := by
  unfold mj_min
  split <;> omega
section MJN
variable {g : mj_G} {Y : mj_Y} {d kc ks pc idx : Nat} {lv : mj_L} {st : List mj_V} {M : mj_M} {Post : mj_O → mj_M → Prop}
theorem mj_cats (b z : Nat) (st : List mj_V) : ((st.map (mj_tr b z)).map fun v => v.category) = st.map mj_cat := by
  rw [List.map_map]
  congr 1
  exact funext fun w => mj_tr_cat b z w
theorem mj_r_minI {x y : Int} (hd : decode Y.2.2.1 pc = .ok (.invokestatic idx, 3)) (hl : Cond.methodLink Y.1 idx Lib.Math.min.name ∈ mj_tbl) (hs : Cond.static Lib.Math.min.name ∈ mj_tbl) (hi : Cond.initialized "java/lang/Math" ∈ mj_tbl) (hc : Cond.code Lib.Math.min.name Lib.Math.min.code 2 (some .int) ∈ mj_tbl)
    (hst : Nat.ble (st.map mj_cat).sum 8 = true) (hx : mj_i x) (hy : mj_i y) (k : mj_J g Y (d + 1) kc ks (pc + 3, lv, .inl (mj_min x y) :: st, M) Post) : mj_J g Y (d + 1) kc ks (pc, lv, .inl y :: .inl x :: st, M) Post := by
  intro hG p e R s m args below meth c H ls locs cells slots hK
  have h := k hG p e R s m args below meth c H ls locs cells slots hK
  have hts := hK.1.2.2.2.2.1
  have hst2 := Nat.le_of_ble_eq_true hst
  have hr := hK.2.1
  refine va_mmin hK.1.1 hK.1.2.1 ?_ hK.1.2.2.2.1 (hts _ hl) (hts _ hs) (hts _ hi) (hts _ hc) (by omega) ?_ (by omega) (by omega) hd ?_
  · rw [hK.1.2.2.1, ← hK.2.2.2.2.1.2, hK.2.2.2.2.1.1.1]
  · rw [mj_cats]
    omega
  · have e1 : (if Int32.ofInt y < Int32.ofInt x then Int32.ofInt y else Int32.ofInt x) = Int32.ofInt (mj_min x y) := by
      unfold mj_min
      simp only [mj_lt hy hx]
      split <;> rfl
    rw [e1]
    exact h
theorem mj_r_minL {x y : Int} (hd : decode Y.2.2.1 pc = .ok (.invokestatic idx, 3)) (hl : Cond.methodLink Y.1 idx Lib.MathLoose.min_long.x ∈ mj_tbl) (hs : Cond.static Lib.MathLoose.min_long.x ∈ mj_tbl) (hi : Cond.initialized "java/lang/Math" ∈ mj_tbl) (hc : Cond.code Lib.MathLoose.min_long.x Lib.MathLoose.min_long.code 4 (some .long) ∈ mj_tbl)
    (hst : Nat.ble (st.map mj_cat).sum 8 = true) (hx : mj_l x) (hy : mj_l y) (k : mj_J g Y (d + 1) kc ks (pc + 3, lv, .inr (.inl (mj_min x y)) :: st, M) Post) : mj_J g Y (d + 1) kc ks (pc, lv, .inr (.inl y) :: .inr (.inl x) :: st, M) Post := by
  intro hG p e R s m args below meth c H ls locs cells slots hK
  have h := k hG p e R s m args below meth c H ls locs cells slots hK
  have hts := hK.1.2.2.2.2.1
  have hst2 := Nat.le_of_ble_eq_true hst
  have hr := hK.2.1
  refine va_mmin_long hK.1.1 hK.1.2.1 ?_ hK.1.2.2.2.1 (hts _ hl) (hts _ hs) (hts _ hi) (hts _ hc) (by omega) ?_ (by omega) (by omega) hd ?_
  · rw [hK.1.2.2.1, ← hK.2.2.2.2.1.2, hK.2.2.2.2.1.1.1]
  · rw [mj_cats]
    omega
  · have hlt : Int64.ofInt y < Int64.ofInt x ↔ y < x := by rw [Int64.lt_iff_toInt_lt, mj_tl hx, mj_tl hy]
    have e1 : (if Int64.ofInt y < Int64.ofInt x then Int64.ofInt y else Int64.ofInt x) = Int64.ofInt (mj_min x y) := by
      unfold mj_min
      simp only [hlt]
      split <;> rfl
    rw [e1]
    exact h
end MJN
end
section
/-! ===== the methods: bytes, decode rows, words (by program) ===== -/
abbrev y_CF_slotOf : mj_Y := ("ChartForest", ⟨"ChartForest", "slotOf", "(II)I"⟩, prog_1_method_22_code, 2, some .int)
theorem k_CF_slotOf : mj_dec y_CF_slotOf.2.2.1 [(0, .iload_n 0, 1), (1, .iconst 1, 1), (2, .iadd, 1), (3, .iconst 4, 1), (4, .imul, 1), (5, .iload_n 1, 1), (6, .iadd, 1), (7, .ireturn, 1)] = true := by decide +kernel
theorem h_CF_slotOf : mj_yk y_CF_slotOf 2 := ⟨mw_86, mw_53, ⟨rfl, by decide +kernel, by decide +kernel, by decide +kernel⟩, by decide, by decide +kernel⟩
abbrev y_Ch_openFirst : mj_Y := ("ChartForest$Chart", ⟨"ChartForest$Chart", "openFirst", "()V"⟩, prog_2_method_2_code, 1, none)
theorem k_Ch_openFirst : mj_dec y_Ch_openFirst.2.2.1 [(0, .aload_n 0, 1), (1, .iconst 0, 1), (2, .invokevirtual 34, 3), (5, .aload_n 0, 1), (6, .iconst 0, 1), (7, .iconst (-1), 1), (8, .iconst 0, 1), (9, .invokestatic 38, 3), (12, .iconst 0, 1), (13, .invokevirtual 42, 3), (16, .aload_n 0, 1), (17, .iconst 0, 1), (18, .invokevirtual 46, 3), (21, .return_, 1)] = true := by decide +kernel
theorem h_Ch_openFirst : mj_yk y_Ch_openFirst 0 := ⟨mw_236, mw_56, ⟨rfl, by decide +kernel, by decide +kernel, by decide +kernel⟩, by decide, by decide +kernel⟩
abbrev y_Ch_empty : mj_Y := ("ChartForest$Chart", ⟨"ChartForest$Chart", "empty", "(I)V"⟩, prog_2_method_8_code, 3, none)
theorem k_Ch_empty : mj_dec y_Ch_empty.2.2.1 [(0, .iconst 0, 1), (1, .istore_n 2, 1), (2, .iload_n 2, 1), (3, .bipush 44, 2), (5, .if_icmp .ge 18, 3), (8, .aload_n 0, 1), (9, .getfield 11, 3), (12, .iload_n 1, 1), (13, .aaload, 1), (14, .iload_n 2, 1), (15, .iconst 0, 1), (16, .iastore, 1), (17, .iinc 2 1, 3), (20, .goto (-18), 3), (23, .aload_n 0, 1), (24, .getfield 16, 3), (27, .iload_n 1, 1), (28, .iconst 0, 1), (29, .iastore, 1), (30, .aload_n 0, 1), (31, .iconst 0, 1), (32, .putfield 71, 3), (35, .aload_n 0, 1), (36, .iconst 0, 1), (37, .putfield 75, 3), (40, .return_, 1)] = true := by decide +kernel
theorem h_Ch_empty : mj_yk y_Ch_empty 1 := ⟨mw_240, mw_56, ⟨rfl, by decide +kernel, by decide +kernel, by decide +kernel⟩, by decide, by decide +kernel⟩
abbrev y_Ch_put : mj_Y := ("ChartForest$Chart", ⟨"ChartForest$Chart", "put", "(III)V"⟩, prog_2_method_9_code, 4, none)
theorem k_Ch_put : mj_dec y_Ch_put.2.2.1 [(0, .aload_n 0, 1), (1, .iload_n 1, 1), (2, .iload_n 2, 1), (3, .iload_n 3, 1), (4, .invokevirtual 78, 3), (7, .ifCond .ne 64, 3), (10, .aload_n 0, 1), (11, .getfield 71, 3), (14, .aload_n 0, 1), (15, .getfield 23, 3), (18, .arraylength, 1), (19, .if_icmp .ge 52, 3), (22, .aload_n 0, 1), (23, .getfield 11, 3), (26, .iload_n 1, 1), (27, .aaload, 1), (28, .iload_n 2, 1), (29, .dup2, 1), (30, .iaload, 1), (31, .iconst 1, 1), (32, .iload_n 3, 1), (33, .ishl, 1), (34, .ior, 1), (35, .iastore, 1), (36, .aload_n 0, 1), (37, .getfield 16, 3), (40, .iload_n 1, 1), (41, .dup2, 1), (42, .iaload, 1), (43, .iconst 1, 1), (44, .iadd, 1), (45, .iastore, 1), (46, .aload_n 0, 1), (47, .getfield 23, 3), (50, .aload_n 0, 1), (51, .getfield 71, 3), (54, .iload_n 2, 1), (55, .bipush 13, 2), (57, .imul, 1), (58, .iload_n 3, 1), (59, .iadd, 1), (60, .iastore, 1), (61, .aload_n 0, 1), (62, .dup, 1), (63, .getfield 71, 3), (66, .iconst 1, 1), (67, .iadd, 1), (68, .putfield 71, 3), (71, .return_, 1)] = true := by decide +kernel
theorem h_Ch_put : mj_yk y_Ch_put 3 := ⟨mw_245, mw_56, ⟨rfl, by decide +kernel, by decide +kernel, by decide +kernel⟩, by decide, by decide +kernel⟩
abbrev y_Ch_holds : mj_Y := ("ChartForest$Chart", ⟨"ChartForest$Chart", "holds", "(III)Z"⟩, prog_2_method_4_code, 4, some .boolean)
theorem k_Ch_holds : mj_dec y_Ch_holds.2.2.1 [(0, .aload_n 0, 1), (1, .getfield 11, 3), (4, .iload_n 1, 1), (5, .aaload, 1), (6, .iload_n 2, 1), (7, .iaload, 1), (8, .iload_n 3, 1), (9, .iushr, 1), (10, .iconst 1, 1), (11, .iand, 1), (12, .ifCond .eq 7, 3), (15, .iconst 1, 1), (16, .goto 4, 3), (19, .iconst 0, 1), (20, .ireturn, 1)] = true := by decide +kernel
theorem h_Ch_holds : mj_yk y_Ch_holds 3 := ⟨mw_249, mw_56, ⟨rfl, by decide +kernel, by decide +kernel, by decide +kernel⟩, by decide, by decide +kernel⟩
abbrev y_Ch_close : mj_Y := ("ChartForest$Chart", ⟨"ChartForest$Chart", "close", "(I)V"⟩, prog_2_method_11_code, 6, none)
theorem k_Ch_close : mj_dec y_Ch_close.2.2.1 [(0, .iconst 0, 1), (1, .istore_n 2, 1), (2, .iload_n 2, 1), (3, .aload_n 0, 1), (4, .getfield 71, 3), (7, .if_icmp .ge 108, 3), (10, .iload_n 2, 1), (11, .aload_n 0, 1), (12, .getfield 23, 3), (15, .arraylength, 1), (16, .if_icmp .ge 99, 3), (19, .aload_n 0, 1), (20, .getfield 23, 3), (23, .iload_n 2, 1), (24, .iaload, 1), (25, .bipush 13, 2), (27, .idiv, 1), (28, .istore_n 3, 1), (29, .aload_n 0, 1), (30, .getfield 23, 3), (33, .iload_n 2, 1), (34, .iaload, 1), (35, .bipush 13, 2), (37, .irem, 1), (38, .istore 4, 2), (40, .aload_n 0, 1), (41, .getfield 26, 3), (44, .getfield 55, 3), (47, .iload_n 3, 1), (48, .iaload, 1), (49, .istore 5, 2), (51, .iload 5, 2), (53, .iconst (-1), 1), (54, .if_icmp .ne 18, 3), (57, .aload_n 0, 1), (58, .iload_n 1, 1), (59, .aload_n 0, 1), (60, .iload_n 3, 1), (61, .invokevirtual 82, 3), (64, .iload 4, 2), (66, .invokevirtual 85, 3), (69, .goto 40, 3), (72, .iload 5, 2), (74, .invokestatic 88, 3), (77, .ifCond .eq 32, 3), (80, .aload_n 0, 1), (81, .iload_n 1, 1), (82, .iload 5, 2), (84, .invokevirtual 91, 3), (87, .aload_n 0, 1), (88, .getfield 75, 3), (91, .iload 5, 2), (93, .iushr, 1), (94, .iconst 1, 1), (95, .iand, 1), (96, .ifCond .eq 13, 3), (99, .aload_n 0, 1), (100, .iload_n 1, 1), (101, .iload_n 3, 1), (102, .iconst 1, 1), (103, .iadd, 1), (104, .iload 4, 2), (106, .invokevirtual 42, 3), (109, .iinc 2 1, 3), (112, .goto (-110), 3), (115, .return_, 1)] = true := by decide +kernel
theorem h_Ch_close : mj_yk y_Ch_close 1 := ⟨mw_253, mw_56, ⟨rfl, by decide +kernel, by decide +kernel, by decide +kernel⟩, by decide, by decide +kernel⟩
abbrev y_Ch_leftSide : mj_Y := ("ChartForest$Chart", ⟨"ChartForest$Chart", "leftSide", "(I)I"⟩, prog_2_method_7_code, 2, some .int)
theorem k_Ch_leftSide : mj_dec y_Ch_leftSide.2.2.1 [(0, .aload_n 0, 1), (1, .getfield 26, 3), (4, .iload_n 1, 1), (5, .iconst 4, 1), (6, .idiv, 1), (7, .iconst 1, 1), (8, .isub, 1), (9, .invokevirtual 68, 3), (12, .ireturn, 1)] = true := by decide +kernel
theorem h_Ch_leftSide : mj_yk y_Ch_leftSide 1 := ⟨mw_257, mw_56, ⟨rfl, by decide +kernel, by decide +kernel, by decide +kernel⟩, by decide, by decide +kernel⟩
abbrev y_Gr_leftOf : mj_Y := ("ChartForest$Grammar", ⟨"ChartForest$Grammar", "leftOf", "(I)I"⟩, prog_5_method_3_code, 2, some .int)
theorem k_Gr_leftOf : mj_dec y_Gr_leftOf.2.2.1 [(0, .iload_n 1, 1), (1, .ifCond .lt 20, 3), (4, .iload_n 1, 1), (5, .aload_n 0, 1), (6, .getfield 22, 3), (9, .if_icmp .ge 12, 3), (12, .aload_n 0, 1), (13, .getfield 9, 3), (16, .iload_n 1, 1), (17, .iaload, 1), (18, .goto 4, 3), (21, .iconst (-1), 1), (22, .ireturn, 1)] = true := by decide +kernel
theorem h_Gr_leftOf : mj_yk y_Gr_leftOf 1 := ⟨mw_261, mw_54, ⟨rfl, by decide +kernel, by decide +kernel, by decide +kernel⟩, by decide, by decide +kernel⟩
abbrev y_Ch_complete : mj_Y := ("ChartForest$Chart", ⟨"ChartForest$Chart", "complete", "(III)V"⟩, prog_2_method_13_code, 4, none)
theorem k_Ch_complete : mj_dec y_Ch_complete.2.2.1 [(0, .iload_n 2, 1), (1, .iconst (-1), 1), (2, .if_icmp .ne 4, 3), (5, .return_, 1), (6, .iload_n 3, 1), (7, .iload_n 1, 1), (8, .if_icmp .ne 15, 3), (11, .aload_n 0, 1), (12, .dup, 1), (13, .getfield 75, 3), (16, .iconst 1, 1), (17, .iload_n 2, 1), (18, .ishl, 1), (19, .ior, 1), (20, .putfield 75, 3), (23, .iload_n 3, 1), (24, .iload_n 1, 1), (25, .if_icmp .ge 45, 3), (28, .aload_n 0, 1), (29, .getfield 20, 3), (32, .iload_n 3, 1), (33, .aaload, 1), (34, .iload_n 2, 1), (35, .iaload, 1), (36, .iconst (-1), 1), (37, .if_icmp .eq 33, 3), (40, .aload_n 0, 1), (41, .iload_n 1, 1), (42, .aload_n 0, 1), (43, .getfield 20, 3), (46, .iload_n 3, 1), (47, .aaload, 1), (48, .iload_n 2, 1), (49, .iaload, 1), (50, .bipush 13, 2), (52, .idiv, 1), (53, .aload_n 0, 1), (54, .getfield 20, 3), (57, .iload_n 3, 1), (58, .aaload, 1), (59, .iload_n 2, 1), (60, .iaload, 1), (61, .bipush 13, 2), (63, .irem, 1), (64, .invokevirtual 42, 3), (67, .goto 10, 3), (70, .aload_n 0, 1), (71, .iload_n 3, 1), (72, .iload_n 2, 1), (73, .iload_n 1, 1), (74, .invokevirtual 52, 3), (77, .return_, 1)] = true := by decide +kernel
theorem h_Ch_complete : mj_yk y_Ch_complete 3 := ⟨mw_265, mw_56, ⟨rfl, by decide +kernel, by decide +kernel, by decide +kernel⟩, by decide, by decide +kernel⟩
abbrev y_Ch_advance : mj_Y := ("ChartForest$Chart", ⟨"ChartForest$Chart", "advance", "(III)V"⟩, prog_2_method_10_code, 6, none)
theorem k_Ch_advance : mj_dec y_Ch_advance.2.2.1 [(0, .iconst 0, 1), (1, .istore 4, 2), (3, .iload 4, 2), (5, .bipush 44, 2), (7, .if_icmp .ge 73, 3), (10, .aload_n 0, 1), (11, .getfield 11, 3), (14, .iload_n 1, 1), (15, .aaload, 1), (16, .iload 4, 2), (18, .iaload, 1), (19, .ifCond .eq 55, 3), (22, .aload_n 0, 1), (23, .getfield 26, 3), (26, .getfield 55, 3), (29, .iload 4, 2), (31, .iaload, 1), (32, .iload_n 2, 1), (33, .if_icmp .ne 41, 3), (36, .iconst 0, 1), (37, .istore 5, 2), (39, .iload 5, 2), (41, .iload_n 1, 1), (42, .if_icmp .gt 32, 3), (45, .aload_n 0, 1), (46, .iload_n 1, 1), (47, .iload 4, 2), (49, .iload 5, 2), (51, .invokevirtual 78, 3), (54, .ifCond .eq 14, 3), (57, .aload_n 0, 1), (58, .iload_n 3, 1), (59, .iload 4, 2), (61, .iconst 1, 1), (62, .iadd, 1), (63, .iload 5, 2), (65, .invokevirtual 42, 3), (68, .iinc 5 1, 3), (71, .goto (-32), 3), (74, .iinc 4 1, 3), (77, .goto (-74), 3), (80, .return_, 1)] = true := by decide +kernel
theorem h_Ch_advance : mj_yk y_Ch_advance 3 := ⟨mw_269, mw_56, ⟨rfl, by decide +kernel, by decide +kernel, by decide +kernel⟩, by decide, by decide +kernel⟩
abbrev y_CF_isNonterminal : mj_Y := ("ChartForest", ⟨"ChartForest", "isNonterminal", "(I)Z"⟩, prog_1_method_17_code, 1, some .boolean)
theorem k_CF_isNonterminal : mj_dec y_CF_isNonterminal.2.2.1 [(0, .iload_n 0, 1), (1, .ifCond .lt 12, 3), (4, .iload_n 0, 1), (5, .iconst 5, 1), (6, .if_icmp .ge 7, 3), (9, .iconst 1, 1), (10, .goto 4, 3), (13, .iconst 0, 1), (14, .ireturn, 1)] = true := by decide +kernel
theorem h_CF_isNonterminal : mj_yk y_CF_isNonterminal 1 := ⟨mw_272, mw_53, ⟨rfl, by decide +kernel, by decide +kernel, by decide +kernel⟩, by decide, by decide +kernel⟩
abbrev y_Ch_predict : mj_Y := ("ChartForest$Chart", ⟨"ChartForest$Chart", "predict", "(II)V"⟩, prog_2_method_12_code, 4, none)
theorem k_Ch_predict : mj_dec y_Ch_predict.2.2.1 [(0, .iconst 0, 1), (1, .istore_n 3, 1), (2, .iload_n 3, 1), (3, .aload_n 0, 1), (4, .getfield 26, 3), (7, .getfield 95, 3), (10, .if_icmp .ge 32, 3), (13, .aload_n 0, 1), (14, .getfield 26, 3), (17, .iload_n 3, 1), (18, .invokevirtual 68, 3), (21, .iload_n 2, 1), (22, .if_icmp .ne 14, 3), (25, .aload_n 0, 1), (26, .iload_n 1, 1), (27, .iload_n 3, 1), (28, .iconst 0, 1), (29, .invokestatic 38, 3), (32, .iload_n 1, 1), (33, .invokevirtual 42, 3), (36, .iinc 3 1, 3), (39, .goto (-37), 3), (42, .return_, 1)] = true := by decide +kernel
theorem h_Ch_predict : mj_yk y_Ch_predict 2 := ⟨mw_276, mw_56, ⟨rfl, by decide +kernel, by decide +kernel, by decide +kernel⟩, by decide, by decide +kernel⟩
abbrev y_CF_fed : mj_Y := ("ChartForest", ⟨"ChartForest", "fed", "()I"⟩, prog_1_method_5_code, 1, some .int)
theorem k_CF_fed : mj_dec y_CF_fed.2.2.1 [(0, .aload_n 0, 1), (1, .getfield 19, 3), (4, .getfield 59, 3), (7, .ireturn, 1)] = true := by decide +kernel
theorem h_CF_fed : mj_yk y_CF_fed 0 := ⟨mw_293, mw_53, ⟨rfl, by decide +kernel, by decide +kernel, by decide +kernel⟩, by decide, by decide +kernel⟩
abbrev y_CF_accepts : mj_Y := ("ChartForest", ⟨"ChartForest", "accepts", "()Z"⟩, prog_1_method_6_code, 1, some .boolean)
theorem k_CF_accepts : mj_dec y_CF_accepts.2.2.1 [(0, .aload_n 0, 1), (1, .getfield 28, 3), (4, .aload_n 0, 1), (5, .getfield 19, 3), (8, .getfield 59, 3), (11, .iconst (-1), 1), (12, .iconst 1, 1), (13, .invokestatic 96, 3), (16, .iconst 0, 1), (17, .invokevirtual 100, 3), (20, .ireturn, 1)] = true := by decide +kernel
theorem h_CF_accepts : mj_yk y_CF_accepts 0 := ⟨mw_297, mw_53, ⟨rfl, by decide +kernel, by decide +kernel, by decide +kernel⟩, by decide, by decide +kernel⟩
abbrev y_CF_expected : mj_Y := ("ChartForest", ⟨"ChartForest", "expected", "()I"⟩, prog_1_method_7_code, 1, some .int)
theorem k_CF_expected : mj_dec y_CF_expected.2.2.1 [(0, .aload_n 0, 1), (1, .getfield 28, 3), (4, .aload_n 0, 1), (5, .getfield 19, 3), (8, .getfield 59, 3), (11, .invokevirtual 76, 3), (14, .ireturn, 1)] = true := by decide +kernel
theorem h_CF_expected : mj_yk y_CF_expected 0 := ⟨mw_303, mw_53, ⟨rfl, by decide +kernel, by decide +kernel, by decide +kernel⟩, by decide, by decide +kernel⟩
abbrev y_Ch_terminalsBehindDots : mj_Y := ("ChartForest$Chart", ⟨"ChartForest$Chart", "terminalsBehindDots", "(I)I"⟩, prog_2_method_5_code, 5, some .int)
theorem k_Ch_terminalsBehindDots : mj_dec y_Ch_terminalsBehindDots.2.2.1 [(0, .iconst 0, 1), (1, .istore_n 2, 1), (2, .iconst 0, 1), (3, .istore_n 3, 1), (4, .iload_n 3, 1), (5, .bipush 44, 2), (7, .if_icmp .ge 47, 3), (10, .aload_n 0, 1), (11, .getfield 26, 3), (14, .getfield 55, 3), (17, .iload_n 3, 1), (18, .iaload, 1), (19, .istore 4, 2), (21, .aload_n 0, 1), (22, .getfield 11, 3), (25, .iload_n 1, 1), (26, .aaload, 1), (27, .iload_n 3, 1), (28, .iaload, 1), (29, .ifCond .eq 19, 3), (32, .iload 4, 2), (34, .invokestatic 60, 3), (37, .ifCond .eq 11, 3), (40, .iload_n 2, 1), (41, .iload 4, 2), (43, .invokestatic 64, 3), (46, .ior, 1), (47, .istore_n 2, 1), (48, .iinc 3 1, 3), (51, .goto (-47), 3), (54, .iload_n 2, 1), (55, .ireturn, 1)] = true := by decide +kernel
theorem h_Ch_terminalsBehindDots : mj_yk y_Ch_terminalsBehindDots 1 := ⟨mw_307, mw_56, ⟨rfl, by decide +kernel, by decide +kernel, by decide +kernel⟩, by decide, by decide +kernel⟩
abbrev y_CF_isTerminal : mj_Y := ("ChartForest", ⟨"ChartForest", "isTerminal", "(I)Z"⟩, prog_1_method_18_code, 1, some .boolean)
theorem k_CF_isTerminal : mj_dec y_CF_isTerminal.2.2.1 [(0, .iload_n 0, 1), (1, .bipush 8, 2), (3, .if_icmp .lt 13, 3), (6, .iload_n 0, 1), (7, .bipush 11, 2), (9, .if_icmp .gt 7, 3), (12, .iconst 1, 1), (13, .goto 4, 3), (16, .iconst 0, 1), (17, .ireturn, 1)] = true := by decide +kernel
theorem h_CF_isTerminal : mj_yk y_CF_isTerminal 1 := ⟨mw_310, mw_53, ⟨rfl, by decide +kernel, by decide +kernel, by decide +kernel⟩, by decide, by decide +kernel⟩
abbrev y_CF_terminalBit : mj_Y := ("ChartForest", ⟨"ChartForest", "terminalBit", "(I)I"⟩, prog_1_method_21_code, 1, some .int)
theorem k_CF_terminalBit : mj_dec y_CF_terminalBit.2.2.1 [(0, .iconst 1, 1), (1, .iload_n 0, 1), (2, .bipush 8, 2), (4, .isub, 1), (5, .ishl, 1), (6, .ireturn, 1)] = true := by decide +kernel
theorem h_CF_terminalBit : mj_yk y_CF_terminalBit 1 := ⟨mw_313, mw_53, ⟨rfl, by decide +kernel, by decide +kernel, by decide +kernel⟩, by decide, by decide +kernel⟩
abbrev y_CF_nodes : mj_Y := ("ChartForest", ⟨"ChartForest", "nodes", "()I"⟩, prog_1_method_13_code, 1, some .int)
theorem k_CF_nodes : mj_dec y_CF_nodes.2.2.1 [(0, .aload_n 0, 1), (1, .getfield 37, 3), (4, .invokevirtual 116, 3), (7, .aload_n 0, 1), (8, .getfield 37, 3), (11, .invokevirtual 127, 3), (14, .ireturn, 1)] = true := by decide +kernel
theorem h_CF_nodes : mj_yk y_CF_nodes 0 := ⟨mw_317, mw_53, ⟨rfl, by decide +kernel, by decide +kernel, by decide +kernel⟩, by decide, by decide +kernel⟩
abbrev y_Fo_makeReady : mj_Y := ("ChartForest$Forest", ⟨"ChartForest$Forest", "makeReady", "()V"⟩, prog_4_method_3_code, 3, none)
theorem k_Fo_makeReady : mj_dec y_Fo_makeReady.2.2.1 [(0, .aload_n 0, 1), (1, .getfield 45, 3), (4, .istore_n 1, 1), (5, .iload_n 1, 1), (6, .aload_n 0, 1), (7, .getfield 23, 3), (10, .getfield 55, 3), (13, .if_icmp .gt 33, 3), (16, .iload_n 1, 1), (17, .istore_n 2, 1), (18, .iload_n 2, 1), (19, .ifCond .lt 21, 3), (22, .aload_n 0, 1), (23, .iload_n 2, 1), (24, .iload_n 1, 1), (25, .invokevirtual 60, 3), (28, .aload_n 0, 1), (29, .iload_n 2, 1), (30, .iload_n 1, 1), (31, .invokevirtual 64, 3), (34, .iinc 2 (-1), 3), (37, .goto (-19), 3), (40, .iinc 1 1, 3), (43, .goto (-38), 3), (46, .aload_n 0, 1), (47, .aload_n 0, 1), (48, .getfield 23, 3), (51, .getfield 55, 3), (54, .iconst 1, 1), (55, .iadd, 1), (56, .putfield 45, 3), (59, .return_, 1)] = true := by decide +kernel
theorem h_Fo_makeReady : mj_yk y_Fo_makeReady 0 := ⟨mw_321, mw_57, ⟨rfl, by decide +kernel, by decide +kernel, by decide +kernel⟩, by decide, by decide +kernel⟩
abbrev y_Fo_findDeriving : mj_Y := ("ChartForest$Forest", ⟨"ChartForest$Forest", "findDeriving", "(II)V"⟩, prog_4_method_6_code, 7, none)
theorem k_Fo_findDeriving : mj_dec y_Fo_findDeriving.2.2.1 [(0, .iconst 0, 1), (1, .istore_n 3, 1), (2, .iload_n 3, 1), (3, .iconst 5, 1), (4, .if_icmp .ge 24, 3), (7, .aload_n 0, 1), (8, .getfield 32, 3), (11, .getfield 78, 3), (14, .iload_n 3, 1), (15, .iload_n 1, 1), (16, .iload_n 2, 1), (17, .invokestatic 81, 3), (20, .lconst 0, 1), (21, .lastore, 1), (22, .iinc 3 1, 3), (25, .goto (-23), 3), (28, .iconst 1, 1), (29, .istore_n 3, 1), (30, .iconst 0, 1), (31, .istore 4, 2), (33, .iload_n 3, 1), (34, .ifCond .eq 114, 3), (37, .iload 4, 2), (39, .iconst 5, 1), (40, .if_icmp .ge 108, 3), (43, .iconst 0, 1), (44, .istore_n 3, 1), (45, .iconst 0, 1), (46, .istore 5, 2), (48, .iload 5, 2), (50, .iconst 5, 1), (51, .if_icmp .ge 91, 3), (54, .iload 5, 2), (56, .iload_n 1, 1), (57, .iload_n 2, 1), (58, .invokestatic 81, 3), (61, .istore 6, 2), (63, .aload_n 0, 1), (64, .getfield 32, 3), (67, .getfield 78, 3), (70, .iload 6, 2), (72, .laload, 1), (73, .lconst 0, 1), (74, .lcmp, 1), (75, .ifCond .ne 61, 3), (78, .aload_n 0, 1), (79, .getfield 41, 3), (82, .iload 5, 2), (84, .iload_n 1, 1), (85, .iload_n 2, 1), (86, .invokevirtual 67, 3), (89, .aload_n 0, 1), (90, .getfield 32, 3), (93, .getfield 78, 3), (96, .iload 6, 2), (98, .aload_n 0, 1), (99, .getfield 41, 3), (102, .getfield 71, 3), (105, .ifCond .le 9, 3), (108, .ldc2_w 85, 3), (111, .goto 4, 3), (114, .lconst 0, 1), (115, .lastore, 1), (116, .iload_n 3, 1), (117, .ifCond .ne 13, 3), (120, .aload_n 0, 1), (121, .getfield 41, 3), (124, .getfield 71, 3), (127, .ifCond .le 7, 3), (130, .iconst 1, 1), (131, .goto 4, 3), (134, .iconst 0, 1), (135, .istore_n 3, 1), (136, .iinc 5 1, 3), (139, .goto (-91), 3), (142, .iinc 4 1, 3), (145, .goto (-112), 3), (148, .return_, 1)] = true := by decide +kernel
theorem h_Fo_findDeriving : mj_yk y_Fo_findDeriving 2 := ⟨mw_325, mw_57, ⟨rfl, by decide +kernel, by decide +kernel, by decide +kernel⟩, by decide, by decide +kernel⟩
abbrev y_CF_cellOf : mj_Y := ("ChartForest", ⟨"ChartForest", "cellOf", "(III)I"⟩, prog_1_method_23_code, 3, some .int)
theorem k_CF_cellOf : mj_dec y_CF_cellOf.2.2.1 [(0, .iload_n 0, 1), (1, .bipush 13, 2), (3, .imul, 1), (4, .iload_n 1, 1), (5, .iadd, 1), (6, .bipush 13, 2), (8, .imul, 1), (9, .iload_n 2, 1), (10, .iadd, 1), (11, .ireturn, 1)] = true := by decide +kernel
theorem h_CF_cellOf : mj_yk y_CF_cellOf 3 := ⟨mw_328, mw_53, ⟨rfl, by decide +kernel, by decide +kernel, by decide +kernel⟩, by decide, by decide +kernel⟩
abbrev y_Wa_gather : mj_Y := ("ChartForest$Ways", ⟨"ChartForest$Ways", "gather", "(III)V"⟩, prog_7_method_2_code, 5, none)
theorem k_Wa_gather : mj_dec y_Wa_gather.2.2.1 [(0, .aload_n 0, 1), (1, .iload_n 2, 1), (2, .putfield 30, 3), (5, .aload_n 0, 1), (6, .iload_n 3, 1), (7, .putfield 34, 3), (10, .aload_n 0, 1), (11, .iconst 0, 1), (12, .putfield 37, 3), (15, .iconst 0, 1), (16, .istore 4, 2), (18, .iload 4, 2), (20, .aload_n 0, 1), (21, .getfield 22, 3), (24, .getfield 40, 3), (27, .if_icmp .ge 28, 3), (30, .aload_n 0, 1), (31, .getfield 22, 3), (34, .iload 4, 2), (36, .invokevirtual 43, 3), (39, .iload_n 1, 1), (40, .if_icmp .ne 9, 3), (43, .aload_n 0, 1), (44, .iload 4, 2), (46, .invokevirtual 47, 3), (49, .iinc 4 1, 3), (52, .goto (-34), 3), (55, .return_, 1)] = true := by decide +kernel
theorem h_Wa_gather : mj_yk y_Wa_gather 3 := ⟨mw_332, mw_59, ⟨rfl, by decide +kernel, by decide +kernel, by decide +kernel⟩, by decide, by decide +kernel⟩
abbrev y_Wa_gatherRule : mj_Y := ("ChartForest$Ways", ⟨"ChartForest$Ways", "gatherRule", "(I)V"⟩, prog_7_method_3_code, 12, none)
theorem k_Wa_gatherRule : mj_dec y_Wa_gatherRule.2.2.1 [(0, .iload_n 1, 1), (1, .iconst 0, 1), (2, .invokestatic 51, 3), (5, .istore_n 2, 1), (6, .aload_n 0, 1), (7, .getfield 22, 3), (10, .getfield 55, 3), (13, .iload_n 2, 1), (14, .iaload, 1), (15, .istore_n 3, 1), (16, .aload_n 0, 1), (17, .getfield 22, 3), (20, .getfield 55, 3), (23, .iload_n 2, 1), (24, .iconst 1, 1), (25, .iadd, 1), (26, .iaload, 1), (27, .istore 4, 2), (29, .aload_n 0, 1), (30, .getfield 22, 3), (33, .getfield 55, 3), (36, .iload_n 2, 1), (37, .iconst 2, 1), (38, .iadd, 1), (39, .iaload, 1), (40, .istore 5, 2), (42, .iload 4, 2), (44, .iconst (-1), 1), (45, .if_icmp .ne 10, 3), (48, .aload_n 0, 1), (49, .getfield 34, 3), (52, .goto 7, 3), (55, .aload_n 0, 1), (56, .getfield 30, 3), (59, .istore 6, 2), (61, .iload 6, 2), (63, .aload_n 0, 1), (64, .getfield 34, 3), (67, .if_icmp .gt 123, 3), (70, .aload_n 0, 1), (71, .getfield 26, 3), (74, .iload_n 3, 1), (75, .aload_n 0, 1), (76, .getfield 30, 3), (79, .iload 6, 2), (81, .invokevirtual 58, 3), (84, .lstore 7, 2), (86, .lload 7, 2), (88, .lconst 0, 1), (89, .lcmp, 1), (90, .ifCond .ne 6, 3), (93, .goto 91, 3), (96, .iload 5, 2), (98, .iconst (-1), 1), (99, .if_icmp .ne 10, 3), (102, .aload_n 0, 1), (103, .getfield 34, 3), (106, .goto 5, 3), (109, .iload 6, 2), (111, .istore 9, 2), (113, .iload 9, 2), (115, .aload_n 0, 1), (116, .getfield 34, 3), (119, .if_icmp .gt 65, 3), (122, .lload 7, 2), (124, .aload_n 0, 1), (125, .getfield 26, 3), (128, .iload 4, 2), (130, .iload 6, 2), (132, .iload 9, 2), (134, .invokevirtual 58, 3), (137, .invokestatic 64, 3), (140, .lstore 10, 2), (142, .lload 10, 2), (144, .lconst 0, 1), (145, .lcmp, 1), (146, .ifCond .eq 32, 3), (149, .aload_n 0, 1), (150, .iload_n 1, 1), (151, .iload 6, 2), (153, .iload 9, 2), (155, .lload 10, 2), (157, .aload_n 0, 1), (158, .getfield 26, 3), (161, .iload 5, 2), (163, .iload 9, 2), (165, .aload_n 0, 1), (166, .getfield 34, 3), (169, .invokevirtual 58, 3), (172, .invokestatic 64, 3), (175, .invokevirtual 68, 3), (178, .iinc 9 1, 3), (181, .goto (-68), 3), (184, .iinc 6 1, 3), (187, .goto (-126), 3), (190, .return_, 1)] = true := by decide +kernel
theorem h_Wa_gatherRule : mj_yk y_Wa_gatherRule 1 := ⟨mw_337, mw_59, ⟨rfl, by decide +kernel, by decide +kernel, by decide +kernel⟩, by decide, by decide +kernel⟩
abbrev y_Co_over : mj_Y := ("ChartForest$Counts", ⟨"ChartForest$Counts", "over", "(III)J"⟩, prog_3_method_2_code, 4, some .long)
theorem k_Co_over : mj_dec y_Co_over.2.2.1 [(0, .iload_n 1, 1), (1, .iconst (-1), 1), (2, .if_icmp .ne 14, 3), (5, .iload_n 2, 1), (6, .iload_n 3, 1), (7, .if_icmp .ne 7, 3), (10, .lconst 1, 1), (11, .goto 4, 3), (14, .lconst 0, 1), (15, .lreturn, 1), (16, .iload_n 1, 1), (17, .bipush 8, 2), (19, .if_icmp .lt 22, 3), (22, .aload_n 0, 1), (23, .getfield 15, 3), (26, .iload_n 1, 1), (27, .iload_n 2, 1), (28, .iload_n 3, 1), (29, .invokevirtual 19, 3), (32, .ifCond .eq 7, 3), (35, .lconst 1, 1), (36, .goto 4, 3), (39, .lconst 0, 1), (40, .lreturn, 1), (41, .aload_n 0, 1), (42, .getfield 9, 3), (45, .iload_n 1, 1), (46, .iload_n 2, 1), (47, .iload_n 3, 1), (48, .invokestatic 25, 3), (51, .laload, 1), (52, .lreturn, 1)] = true := by decide +kernel
theorem h_Co_over : mj_yk y_Co_over 3 := ⟨mw_342, mw_58, ⟨rfl, by decide +kernel, by decide +kernel, by decide +kernel⟩, by decide, by decide +kernel⟩
abbrev y_Ta_isJust : mj_Y := ("ChartForest$Tape", ⟨"ChartForest$Tape", "isJust", "(III)Z"⟩, prog_6_method_3_code, 4, some .boolean)
theorem k_Ta_isJust : mj_dec y_Ta_isJust.2.2.1 [(0, .iload_n 3, 1), (1, .iload_n 2, 1), (2, .iconst 1, 1), (3, .iadd, 1), (4, .if_icmp .ne 29, 3), (7, .iload_n 2, 1), (8, .ifCond .lt 25, 3), (11, .iload_n 2, 1), (12, .aload_n 0, 1), (13, .getfield 15, 3), (16, .if_icmp .ge 17, 3), (19, .aload_n 0, 1), (20, .getfield 9, 3), (23, .iload_n 2, 1), (24, .iaload, 1), (25, .iload_n 1, 1), (26, .if_icmp .ne 7, 3), (29, .iconst 1, 1), (30, .goto 4, 3), (33, .iconst 0, 1), (34, .ireturn, 1)] = true := by decide +kernel
theorem h_Ta_isJust : mj_yk y_Ta_isJust 3 := ⟨mw_346, mw_55, ⟨rfl, by decide +kernel, by decide +kernel, by decide +kernel⟩, by decide, by decide +kernel⟩
abbrev y_CF_product : mj_Y := ("ChartForest", ⟨"ChartForest", "product", "(JJ)J"⟩, prog_1_method_25_code, 4, some .long)
theorem k_CF_product : mj_dec y_CF_product.2.2.1 [(0, .lload_n 0, 1), (1, .lconst 0, 1), (2, .lcmp, 1), (3, .ifCond .eq 9, 3), (6, .lload_n 2, 1), (7, .lconst 0, 1), (8, .lcmp, 1), (9, .ifCond .ne 5, 3), (12, .lconst 0, 1), (13, .lreturn, 1), (14, .lload_n 0, 1), (15, .ldc2_w 140, 3), (18, .lcmp, 1), (19, .ifCond .eq 11, 3), (22, .lload_n 2, 1), (23, .ldc2_w 140, 3), (26, .lcmp, 1), (27, .ifCond .ne 7, 3), (30, .ldc2_w 140, 3), (33, .lreturn, 1), (34, .lload_n 0, 1), (35, .ldc2_w 131, 3), (38, .lload_n 2, 1), (39, .ldiv, 1), (40, .lcmp, 1), (41, .ifCond .le 9, 3), (44, .ldc2_w 131, 3), (47, .goto 6, 3), (50, .lload_n 0, 1), (51, .lload_n 2, 1), (52, .lmul, 1), (53, .lreturn, 1)] = true := by decide +kernel
theorem h_CF_product : mj_yk y_CF_product 2 := ⟨mw_350, mw_53, ⟨rfl, by decide +kernel, by decide +kernel, by decide +kernel⟩, by decide, by decide +kernel⟩
abbrev y_Wa_keep : mj_Y := ("ChartForest$Ways", ⟨"ChartForest$Ways", "keep", "(IIIJ)V"⟩, prog_7_method_4_code, 6, none)
theorem k_Wa_keep : mj_dec y_Wa_keep.2.2.1 [(0, .lload 4, 2), (2, .lconst 0, 1), (3, .lcmp, 1), (4, .ifCond .eq 59, 3), (7, .aload_n 0, 1), (8, .getfield 37, 3), (11, .sipush 910, 3), (14, .if_icmp .ge 49, 3), (17, .aload_n 0, 1), (18, .getfield 9, 3), (21, .aload_n 0, 1), (22, .getfield 37, 3), (25, .iload_n 1, 1), (26, .iastore, 1), (27, .aload_n 0, 1), (28, .getfield 15, 3), (31, .aload_n 0, 1), (32, .getfield 37, 3), (35, .iload_n 2, 1), (36, .bipush 13, 2), (38, .imul, 1), (39, .iload_n 3, 1), (40, .iadd, 1), (41, .iastore, 1), (42, .aload_n 0, 1), (43, .getfield 18, 3), (46, .aload_n 0, 1), (47, .getfield 37, 3), (50, .lload 4, 2), (52, .lastore, 1), (53, .aload_n 0, 1), (54, .dup, 1), (55, .getfield 37, 3), (58, .iconst 1, 1), (59, .iadd, 1), (60, .putfield 37, 3), (63, .return_, 1)] = true := by decide +kernel
theorem h_Wa_keep : mj_yk y_Wa_keep 4 := ⟨mw_356, mw_59, ⟨rfl, by decide +kernel, by decide +kernel, by decide +kernel⟩, by decide, by decide +kernel⟩
abbrev y_Fo_countTrees : mj_Y := ("ChartForest$Forest", ⟨"ChartForest$Forest", "countTrees", "(II)V"⟩, prog_4_method_7_code, 7, none)
theorem k_Fo_countTrees : mj_dec y_Fo_countTrees.2.2.1 [(0, .iconst 1, 1), (1, .istore_n 3, 1), (2, .iconst 0, 1), (3, .istore 4, 2), (5, .iload_n 3, 1), (6, .ifCond .eq 113, 3), (9, .iload 4, 2), (11, .iconst 5, 1), (12, .if_icmp .ge 107, 3), (15, .iconst 0, 1), (16, .istore_n 3, 1), (17, .iconst 0, 1), (18, .istore 5, 2), (20, .iload 5, 2), (22, .iconst 5, 1), (23, .if_icmp .ge 90, 3), (26, .iload 5, 2), (28, .iload_n 1, 1), (29, .iload_n 2, 1), (30, .invokestatic 81, 3), (33, .istore 6, 2), (35, .aload_n 0, 1), (36, .getfield 32, 3), (39, .getfield 78, 3), (42, .iload 6, 2), (44, .laload, 1), (45, .ldc2_w 85, 3), (48, .lcmp, 1), (49, .ifCond .ne 58, 3), (52, .aload_n 0, 1), (53, .getfield 41, 3), (56, .iload 5, 2), (58, .iload_n 1, 1), (59, .iload_n 2, 1), (60, .invokevirtual 67, 3), (63, .aload_n 0, 1), (64, .getfield 32, 3), (67, .getfield 78, 3), (70, .iload 6, 2), (72, .aload_n 0, 1), (73, .getfield 41, 3), (76, .invokevirtual 87, 3), (79, .lastore, 1), (80, .iload_n 3, 1), (81, .ifCond .ne 20, 3), (84, .aload_n 0, 1), (85, .getfield 32, 3), (88, .getfield 78, 3), (91, .iload 6, 2), (93, .laload, 1), (94, .ldc2_w 85, 3), (97, .lcmp, 1), (98, .ifCond .eq 7, 3), (101, .iconst 1, 1), (102, .goto 4, 3), (105, .iconst 0, 1), (106, .istore_n 3, 1), (107, .iinc 5 1, 3), (110, .goto (-90), 3), (113, .iinc 4 1, 3), (116, .goto (-111), 3), (119, .return_, 1)] = true := by decide +kernel
theorem h_Fo_countTrees : mj_yk y_Fo_countTrees 2 := ⟨mw_361, mw_57, ⟨rfl, by decide +kernel, by decide +kernel, by decide +kernel⟩, by decide, by decide +kernel⟩
abbrev y_Wa_treesOfAll : mj_Y := ("ChartForest$Ways", ⟨"ChartForest$Ways", "treesOfAll", "()J"⟩, prog_7_method_8_code, 4, some .long)
theorem k_Wa_treesOfAll : mj_dec y_Wa_treesOfAll.2.2.1 [(0, .lconst 0, 1), (1, .lstore_n 1, 1), (2, .iconst 0, 1), (3, .istore_n 3, 1), (4, .iload_n 3, 1), (5, .aload_n 0, 1), (6, .getfield 37, 3), (9, .if_icmp .ge 20, 3), (12, .lload_n 1, 1), (13, .aload_n 0, 1), (14, .getfield 18, 3), (17, .iload_n 3, 1), (18, .laload, 1), (19, .invokestatic 78, 3), (22, .lstore_n 1, 1), (23, .iinc 3 1, 3), (26, .goto (-22), 3), (29, .lload_n 1, 1), (30, .lreturn, 1)] = true := by decide +kernel
theorem h_Wa_treesOfAll : mj_yk y_Wa_treesOfAll 0 := ⟨mw_365, mw_59, ⟨rfl, by decide +kernel, by decide +kernel, by decide +kernel⟩, by decide, by decide +kernel⟩
abbrev y_CF_sum : mj_Y := ("ChartForest", ⟨"ChartForest", "sum", "(JJ)J"⟩, prog_1_method_24_code, 4, some .long)
theorem k_CF_sum : mj_dec y_CF_sum.2.2.1 [(0, .lload_n 0, 1), (1, .ldc2_w 140, 3), (4, .lcmp, 1), (5, .ifCond .eq 11, 3), (8, .lload_n 2, 1), (9, .ldc2_w 140, 3), (12, .lcmp, 1), (13, .ifCond .ne 7, 3), (16, .ldc2_w 140, 3), (19, .lreturn, 1), (20, .ldc2_w 131, 3), (23, .lload_n 0, 1), (24, .lload_n 2, 1), (25, .ladd, 1), (26, .invokestatic 142, 3), (29, .lreturn, 1)] = true := by decide +kernel
theorem h_CF_sum : mj_yk y_CF_sum 2 := ⟨mw_368, mw_53, ⟨rfl, by decide +kernel, by decide +kernel, by decide +kernel⟩, by decide, by decide +kernel⟩
abbrev y_Fo_nodesMet : mj_Y := ("ChartForest$Forest", ⟨"ChartForest$Forest", "nodesMet", "()I"⟩, prog_4_method_8_code, 3, some .int)
theorem k_Fo_nodesMet : mj_dec y_Fo_nodesMet.2.2.1 [(0, .iconst 0, 1), (1, .istore_n 1, 1), (2, .iload_n 1, 1), (3, .sipush 845, 3), (6, .if_icmp .ge 16, 3), (9, .aload_n 0, 1), (10, .getfield 15, 3), (13, .iload_n 1, 1), (14, .iconst 0, 1), (15, .bastore, 1), (16, .iinc 1 1, 3), (19, .goto (-17), 3), (22, .aload_n 0, 1), (23, .iconst 0, 1), (24, .putfield 91, 3), (27, .aload_n 0, 1), (28, .iconst 0, 1), (29, .iconst 0, 1), (30, .aload_n 0, 1), (31, .getfield 23, 3), (34, .getfield 55, 3), (37, .invokevirtual 94, 3), (40, .lconst 0, 1), (41, .lcmp, 1), (42, .ifCond .eq 19, 3), (45, .aload_n 0, 1), (46, .iconst 0, 1), (47, .iconst 0, 1), (48, .aload_n 0, 1), (49, .getfield 23, 3), (52, .getfield 55, 3), (55, .invokestatic 81, 3), (58, .invokevirtual 97, 3), (61, .iconst 0, 1), (62, .istore_n 1, 1), (63, .iload_n 1, 1), (64, .aload_n 0, 1), (65, .getfield 91, 3), (68, .if_icmp .ge 50, 3), (71, .iload_n 1, 1), (72, .sipush 845, 3), (75, .if_icmp .ge 43, 3), (78, .aload_n 0, 1), (79, .aload_n 0, 1), (80, .getfield 9, 3), (83, .iload_n 1, 1), (84, .iaload, 1), (85, .invokevirtual 101, 3), (88, .iconst 0, 1), (89, .istore_n 2, 1), (90, .iload_n 2, 1), (91, .aload_n 0, 1), (92, .getfield 41, 3), (95, .getfield 71, 3), (98, .if_icmp .ge 14, 3), (101, .aload_n 0, 1), (102, .iload_n 2, 1), (103, .invokevirtual 104, 3), (106, .iinc 2 1, 3), (109, .goto (-19), 3), (112, .iinc 1 1, 3), (115, .goto (-52), 3), (118, .aload_n 0, 1), (119, .getfield 91, 3), (122, .ireturn, 1)] = true := by decide +kernel
theorem h_Fo_nodesMet : mj_yk y_Fo_nodesMet 0 := ⟨mw_375, mw_57, ⟨rfl, by decide +kernel, by decide +kernel, by decide +kernel⟩, by decide, by decide +kernel⟩
abbrev y_Fo_treesOver : mj_Y := ("ChartForest$Forest", ⟨"ChartForest$Forest", "treesOver", "(III)J"⟩, prog_4_method_5_code, 4, some .long)
theorem k_Fo_treesOver : mj_dec y_Fo_treesOver.2.2.1 [(0, .aload_n 0, 1), (1, .getfield 32, 3), (4, .iload_n 1, 1), (5, .iload_n 2, 1), (6, .iload_n 3, 1), (7, .invokevirtual 74, 3), (10, .lreturn, 1)] = true := by decide +kernel
theorem h_Fo_treesOver : mj_yk y_Fo_treesOver 3 := ⟨mw_379, mw_57, ⟨rfl, by decide +kernel, by decide +kernel, by decide +kernel⟩, by decide, by decide +kernel⟩
abbrev y_Fo_meet : mj_Y := ("ChartForest$Forest", ⟨"ChartForest$Forest", "meet", "(I)V"⟩, prog_4_method_12_code, 2, none)
theorem k_Fo_meet : mj_dec y_Fo_meet.2.2.1 [(0, .aload_n 0, 1), (1, .getfield 15, 3), (4, .iload_n 1, 1), (5, .baload, 1), (6, .ifCond .ne 40, 3), (9, .aload_n 0, 1), (10, .getfield 91, 3), (13, .sipush 845, 3), (16, .if_icmp .ge 30, 3), (19, .aload_n 0, 1), (20, .getfield 15, 3), (23, .iload_n 1, 1), (24, .iconst 1, 1), (25, .bastore, 1), (26, .aload_n 0, 1), (27, .getfield 9, 3), (30, .aload_n 0, 1), (31, .getfield 91, 3), (34, .iload_n 1, 1), (35, .iastore, 1), (36, .aload_n 0, 1), (37, .dup, 1), (38, .getfield 91, 3), (41, .iconst 1, 1), (42, .iadd, 1), (43, .putfield 91, 3), (46, .return_, 1)] = true := by decide +kernel
theorem h_Fo_meet : mj_yk y_Fo_meet 1 := ⟨mw_384, mw_57, ⟨rfl, by decide +kernel, by decide +kernel, by decide +kernel⟩, by decide, by decide +kernel⟩
abbrev y_Fo_gatherCell : mj_Y := ("ChartForest$Forest", ⟨"ChartForest$Forest", "gatherCell", "(I)V"⟩, prog_4_method_9_code, 2, none)
theorem k_Fo_gatherCell : mj_dec y_Fo_gatherCell.2.2.1 [(0, .aload_n 0, 1), (1, .getfield 41, 3), (4, .iload_n 1, 1), (5, .sipush 169, 3), (8, .idiv, 1), (9, .iload_n 1, 1), (10, .bipush 13, 2), (12, .idiv, 1), (13, .bipush 13, 2), (15, .irem, 1), (16, .iload_n 1, 1), (17, .bipush 13, 2), (19, .irem, 1), (20, .invokevirtual 67, 3), (23, .return_, 1)] = true := by decide +kernel
theorem h_Fo_gatherCell : mj_yk y_Fo_gatherCell 1 := ⟨mw_388, mw_57, ⟨rfl, by decide +kernel, by decide +kernel, by decide +kernel⟩, by decide, by decide +kernel⟩
abbrev y_Fo_meetParts : mj_Y := ("ChartForest$Forest", ⟨"ChartForest$Forest", "meetParts", "(I)V"⟩, prog_4_method_10_code, 3, none)
theorem k_Fo_meetParts : mj_dec y_Fo_meetParts.2.2.1 [(0, .iconst 0, 1), (1, .istore_n 2, 1), (2, .iload_n 2, 1), (3, .iconst 3, 1), (4, .if_icmp .ge 34, 3), (7, .aload_n 0, 1), (8, .getfield 41, 3), (11, .iload_n 1, 1), (12, .iload_n 2, 1), (13, .invokevirtual 107, 3), (16, .invokestatic 110, 3), (19, .ifCond .eq 13, 3), (22, .aload_n 0, 1), (23, .aload_n 0, 1), (24, .iload_n 1, 1), (25, .iload_n 2, 1), (26, .invokevirtual 114, 3), (29, .invokevirtual 97, 3), (32, .iinc 2 1, 3), (35, .goto (-33), 3), (38, .return_, 1)] = true := by decide +kernel
theorem h_Fo_meetParts : mj_yk y_Fo_meetParts 1 := ⟨mw_392, mw_57, ⟨rfl, by decide +kernel, by decide +kernel, by decide +kernel⟩, by decide, by decide +kernel⟩
abbrev y_Wa_symbolOf : mj_Y := ("ChartForest$Ways", ⟨"ChartForest$Ways", "symbolOf", "(II)I"⟩, prog_7_method_5_code, 3, some .int)
theorem k_Wa_symbolOf : mj_dec y_Wa_symbolOf.2.2.1 [(0, .aload_n 0, 1), (1, .getfield 22, 3), (4, .getfield 55, 3), (7, .aload_n 0, 1), (8, .getfield 9, 3), (11, .iload_n 1, 1), (12, .iaload, 1), (13, .iload_n 2, 1), (14, .invokestatic 51, 3), (17, .iaload, 1), (18, .ireturn, 1)] = true := by decide +kernel
theorem h_Wa_symbolOf : mj_yk y_Wa_symbolOf 2 := ⟨mw_396, mw_59, ⟨rfl, by decide +kernel, by decide +kernel, by decide +kernel⟩, by decide, by decide +kernel⟩
abbrev y_Fo_partCell : mj_Y := ("ChartForest$Forest", ⟨"ChartForest$Forest", "partCell", "(II)I"⟩, prog_4_method_11_code, 3, some .int)
theorem k_Fo_partCell : mj_dec y_Fo_partCell.2.2.1 [(0, .aload_n 0, 1), (1, .getfield 41, 3), (4, .iload_n 1, 1), (5, .iload_n 2, 1), (6, .invokevirtual 107, 3), (9, .aload_n 0, 1), (10, .getfield 41, 3), (13, .iload_n 1, 1), (14, .iload_n 2, 1), (15, .invokevirtual 117, 3), (18, .aload_n 0, 1), (19, .getfield 41, 3), (22, .iload_n 1, 1), (23, .iload_n 2, 1), (24, .iconst 1, 1), (25, .iadd, 1), (26, .invokevirtual 117, 3), (29, .invokestatic 81, 3), (32, .ireturn, 1)] = true := by decide +kernel
theorem h_Fo_partCell : mj_yk y_Fo_partCell 2 := ⟨mw_401, mw_57, ⟨rfl, by decide +kernel, by decide +kernel, by decide +kernel⟩, by decide, by decide +kernel⟩
abbrev y_Wa_cutOf : mj_Y := ("ChartForest$Ways", ⟨"ChartForest$Ways", "cutOf", "(II)I"⟩, prog_7_method_6_code, 3, some .int)
theorem k_Wa_cutOf : mj_dec y_Wa_cutOf.2.2.1 [(0, .iload_n 2, 1), (1, .tableswitch 52 0 2 #[27, 32, 42], 27), (28, .aload_n 0, 1), (29, .getfield 30, 3), (32, .ireturn, 1), (33, .aload_n 0, 1), (34, .getfield 15, 3), (37, .iload_n 1, 1), (38, .iaload, 1), (39, .bipush 13, 2), (41, .idiv, 1), (42, .ireturn, 1), (43, .aload_n 0, 1), (44, .getfield 15, 3), (47, .iload_n 1, 1), (48, .iaload, 1), (49, .bipush 13, 2), (51, .irem, 1), (52, .ireturn, 1), (53, .aload_n 0, 1), (54, .getfield 34, 3), (57, .ireturn, 1)] = true := by decide +kernel
theorem h_Wa_cutOf : mj_yk y_Wa_cutOf 2 := ⟨mw_405, mw_59, ⟨rfl, by decide +kernel, by decide +kernel, by decide +kernel⟩, by decide, by decide +kernel⟩
abbrev y_CF_rule : mj_Y := ("ChartForest", ⟨"ChartForest", "rule", "(III)I"⟩, prog_1_method_2_code, 4, some .int)
theorem k_CF_rule : mj_dec y_CF_rule.2.2.1 [(0, .iload_n 1, 1), (1, .invokestatic 44, 3), (4, .ifCond .eq 11, 3), (7, .iload_n 2, 1), (8, .iload_n 3, 1), (9, .invokestatic 48, 3), (12, .ifCond .ne 11, 3), (15, .new 52, 3), (18, .dup, 1), (19, .invokespecial 54, 3), (22, .athrow, 1), (23, .aload_n 0, 1), (24, .getfield 12, 3), (27, .getfield 55, 3), (30, .bipush 10, 2), (32, .if_icmp .ge 13, 3), (35, .aload_n 0, 1), (36, .getfield 19, 3), (39, .getfield 59, 3), (42, .ifCond .le 11, 3), (45, .new 62, 3), (48, .dup, 1), (49, .invokespecial 64, 3), (52, .athrow, 1), (53, .aload_n 0, 1), (54, .getfield 12, 3), (57, .iload_n 1, 1), (58, .iload_n 2, 1), (59, .iload_n 3, 1), (60, .invokevirtual 65, 3), (63, .aload_n 0, 1), (64, .getfield 28, 3), (67, .invokevirtual 41, 3), (70, .aload_n 0, 1), (71, .getfield 37, 3), (74, .iconst (-1), 1), (75, .invokevirtual 69, 3), (78, .aload_n 0, 1), (79, .getfield 12, 3), (82, .getfield 55, 3), (85, .iconst 1, 1), (86, .isub, 1), (87, .ireturn, 1)] = true := by decide +kernel
theorem h_CF_rule : mj_yk y_CF_rule 3 := ⟨mw_417, mw_53, ⟨rfl, by decide +kernel, by decide +kernel, by decide +kernel⟩, by decide, by decide +kernel⟩
abbrev y_CF_isBody : mj_Y := ("ChartForest", ⟨"ChartForest", "isBody", "(II)Z"⟩, prog_1_method_19_code, 4, some .boolean)
theorem k_CF_isBody : mj_dec y_CF_isBody.2.2.1 [(0, .iload_n 0, 1), (1, .ifCond .lt 8, 3), (4, .iload_n 0, 1), (5, .iconst 3, 1), (6, .if_icmp .le 5, 3), (9, .iconst 0, 1), (10, .ireturn, 1), (11, .iconst 0, 1), (12, .istore_n 2, 1), (13, .iload_n 2, 1), (14, .iload_n 0, 1), (15, .if_icmp .ge 31, 3), (18, .iload_n 1, 1), (19, .iload_n 2, 1), (20, .invokestatic 137, 3), (23, .istore_n 3, 1), (24, .iload_n 3, 1), (25, .invokestatic 44, 3), (28, .ifCond .ne 12, 3), (31, .iload_n 3, 1), (32, .invokestatic 73, 3), (35, .ifCond .ne 5, 3), (38, .iconst 0, 1), (39, .ireturn, 1), (40, .iinc 2 1, 3), (43, .goto (-30), 3), (46, .iload_n 1, 1), (47, .iconst 4, 1), (48, .iload_n 0, 1), (49, .imul, 1), (50, .iushr, 1), (51, .ifCond .ne 7, 3), (54, .iconst 1, 1), (55, .goto 4, 3), (58, .iconst 0, 1), (59, .ireturn, 1)] = true := by decide +kernel
theorem h_CF_isBody : mj_yk y_CF_isBody 2 := ⟨mw_421, mw_53, ⟨rfl, by decide +kernel, by decide +kernel, by decide +kernel⟩, by decide, by decide +kernel⟩
abbrev y_CF_symbolIn : mj_Y := ("ChartForest", ⟨"ChartForest", "symbolIn", "(II)I"⟩, prog_1_method_20_code, 2, some .int)
theorem k_CF_symbolIn : mj_dec y_CF_symbolIn.2.2.1 [(0, .iload_n 0, 1), (1, .iconst 4, 1), (2, .iload_n 1, 1), (3, .imul, 1), (4, .iushr, 1), (5, .bipush 15, 2), (7, .iand, 1), (8, .ireturn, 1)] = true := by decide +kernel
theorem h_CF_symbolIn : mj_yk y_CF_symbolIn 2 := ⟨mw_424, mw_53, ⟨rfl, by decide +kernel, by decide +kernel, by decide +kernel⟩, by decide, by decide +kernel⟩
abbrev y_Gr_append : mj_Y := ("ChartForest$Grammar", ⟨"ChartForest$Grammar", "append", "(III)V"⟩, prog_5_method_2_code, 5, none)
theorem k_Gr_append : mj_dec y_Gr_append.2.2.1 [(0, .aload_n 0, 1), (1, .getfield 22, 3), (4, .bipush 10, 2), (6, .if_icmp .ge 63, 3), (9, .iload_n 2, 1), (10, .iconst 3, 1), (11, .if_icmp .gt 58, 3), (14, .aload_n 0, 1), (15, .getfield 9, 3), (18, .aload_n 0, 1), (19, .getfield 22, 3), (22, .iload_n 1, 1), (23, .iastore, 1), (24, .iconst 0, 1), (25, .istore 4, 2), (27, .iload 4, 2), (29, .iload_n 2, 1), (30, .if_icmp .ge 29, 3), (33, .aload_n 0, 1), (34, .getfield 15, 3), (37, .aload_n 0, 1), (38, .getfield 22, 3), (41, .iload 4, 2), (43, .invokestatic 18, 3), (46, .iload_n 3, 1), (47, .iload 4, 2), (49, .invokestatic 26, 3), (52, .iastore, 1), (53, .iinc 4 1, 3), (56, .goto (-29), 3), (59, .aload_n 0, 1), (60, .dup, 1), (61, .getfield 22, 3), (64, .iconst 1, 1), (65, .iadd, 1), (66, .putfield 22, 3), (69, .return_, 1)] = true := by decide +kernel
theorem h_Gr_append : mj_yk y_Gr_append 3 := ⟨mw_508, mw_54, ⟨rfl, by decide +kernel, by decide +kernel, by decide +kernel⟩, by decide, by decide +kernel⟩
abbrev y_Fo_forgetBehind : mj_Y := ("ChartForest$Forest", ⟨"ChartForest$Forest", "forgetBehind", "(I)V"⟩, prog_4_method_2_code, 2, none)
theorem k_Fo_forgetBehind : mj_dec y_Fo_forgetBehind.2.2.1 [(0, .aload_n 0, 1), (1, .aload_n 0, 1), (2, .getfield 45, 3), (5, .iload_n 1, 1), (6, .iconst 1, 1), (7, .iadd, 1), (8, .invokestatic 49, 3), (11, .putfield 45, 3), (14, .return_, 1)] = true := by decide +kernel
theorem h_Fo_forgetBehind : mj_yk y_Fo_forgetBehind 1 := ⟨mw_513, mw_57, ⟨rfl, by decide +kernel, by decide +kernel, by decide +kernel⟩, by decide, by decide +kernel⟩
abbrev y_CF_feed : mj_Y := ("ChartForest", ⟨"ChartForest", "feed", "(I)I"⟩, prog_1_method_3_code, 2, some .int)
theorem k_CF_feed : mj_dec y_CF_feed.2.2.1 [(0, .iload_n 1, 1), (1, .invokestatic 73, 3), (4, .ifCond .ne 11, 3), (7, .new 52, 3), (10, .dup, 1), (11, .invokespecial 54, 3), (14, .athrow, 1), (15, .aload_n 0, 1), (16, .getfield 19, 3), (19, .getfield 59, 3), (22, .bipush 12, 2), (24, .if_icmp .lt 11, 3), (27, .new 62, 3), (30, .dup, 1), (31, .invokespecial 64, 3), (34, .athrow, 1), (35, .aload_n 0, 1), (36, .getfield 28, 3), (39, .aload_n 0, 1), (40, .getfield 19, 3), (43, .getfield 59, 3), (46, .invokevirtual 76, 3), (49, .iload_n 1, 1), (50, .invokestatic 80, 3), (53, .iand, 1), (54, .ifCond .ne 11, 3), (57, .new 83, 3), (60, .dup, 1), (61, .invokespecial 85, 3), (64, .athrow, 1), (65, .aload_n 0, 1), (66, .getfield 19, 3), (69, .iload_n 1, 1), (70, .invokevirtual 86, 3), (73, .aload_n 0, 1), (74, .getfield 28, 3), (77, .aload_n 0, 1), (78, .getfield 19, 3), (81, .getfield 59, 3), (84, .iload_n 1, 1), (85, .invokevirtual 88, 3), (88, .aload_n 0, 1), (89, .getfield 28, 3), (92, .getfield 92, 3), (95, .aload_n 0, 1), (96, .getfield 19, 3), (99, .getfield 59, 3), (102, .iaload, 1), (103, .ireturn, 1)] = true := by decide +kernel
theorem h_CF_feed : mj_yk y_CF_feed 1 := ⟨mw_524, mw_53, ⟨rfl, by decide +kernel, by decide +kernel, by decide +kernel⟩, by decide, by decide +kernel⟩
abbrev y_Ta_append : mj_Y := ("ChartForest$Tape", ⟨"ChartForest$Tape", "append", "(I)V"⟩, prog_6_method_2_code, 2, none)
theorem k_Ta_append : mj_dec y_Ta_append.2.2.1 [(0, .aload_n 0, 1), (1, .getfield 15, 3), (4, .bipush 12, 2), (6, .if_icmp .ge 23, 3), (9, .aload_n 0, 1), (10, .getfield 9, 3), (13, .aload_n 0, 1), (14, .getfield 15, 3), (17, .iload_n 1, 1), (18, .iastore, 1), (19, .aload_n 0, 1), (20, .dup, 1), (21, .getfield 15, 3), (24, .iconst 1, 1), (25, .iadd, 1), (26, .putfield 15, 3), (29, .return_, 1)] = true := by decide +kernel
theorem h_Ta_append : mj_yk y_Ta_append 1 := ⟨mw_544, mw_55, ⟨rfl, by decide +kernel, by decide +kernel, by decide +kernel⟩, by decide, by decide +kernel⟩
abbrev y_Ch_openNext : mj_Y := ("ChartForest$Chart", ⟨"ChartForest$Chart", "openNext", "(II)V"⟩, prog_2_method_3_code, 3, none)
theorem k_Ch_openNext : mj_dec y_Ch_openNext.2.2.1 [(0, .aload_n 0, 1), (1, .iload_n 1, 1), (2, .iconst 1, 1), (3, .isub, 1), (4, .invokevirtual 49, 3), (7, .aload_n 0, 1), (8, .iload_n 1, 1), (9, .invokevirtual 34, 3), (12, .aload_n 0, 1), (13, .iload_n 1, 1), (14, .iconst 1, 1), (15, .isub, 1), (16, .iload_n 2, 1), (17, .iload_n 1, 1), (18, .invokevirtual 52, 3), (21, .aload_n 0, 1), (22, .iload_n 1, 1), (23, .invokevirtual 46, 3), (26, .return_, 1)] = true := by decide +kernel
theorem h_Ch_openNext : mj_yk y_Ch_openNext 2 := ⟨mw_548, mw_56, ⟨rfl, by decide +kernel, by decide +kernel, by decide +kernel⟩, by decide, by decide +kernel⟩
abbrev y_Ch_nameLeaps : mj_Y := ("ChartForest$Chart", ⟨"ChartForest$Chart", "nameLeaps", "(I)V"⟩, prog_2_method_14_code, 3, none)
theorem k_Ch_nameLeaps : mj_dec y_Ch_nameLeaps.2.2.1 [(0, .iconst 0, 1), (1, .istore_n 2, 1), (2, .iload_n 2, 1), (3, .iconst 5, 1), (4, .if_icmp .ge 34, 3), (7, .aload_n 0, 1), (8, .getfield 20, 3), (11, .iload_n 1, 1), (12, .aaload, 1), (13, .iload_n 2, 1), (14, .aload_n 0, 1), (15, .getfield 30, 3), (18, .ifCond .eq 12, 3), (21, .aload_n 0, 1), (22, .iload_n 1, 1), (23, .iload_n 2, 1), (24, .invokevirtual 98, 3), (27, .goto 4, 3), (30, .iconst (-1), 1), (31, .iastore, 1), (32, .iinc 2 1, 3), (35, .goto (-33), 3), (38, .return_, 1)] = true := by decide +kernel
theorem h_Ch_nameLeaps : mj_yk y_Ch_nameLeaps 1 := ⟨mw_552, mw_56, ⟨rfl, by decide +kernel, by decide +kernel, by decide +kernel⟩, by decide, by decide +kernel⟩
abbrev y_Ch_leapItem : mj_Y := ("ChartForest$Chart", ⟨"ChartForest$Chart", "leapItem", "(II)I"⟩, prog_2_method_15_code, 6, some .int)
theorem k_Ch_leapItem : mj_dec y_Ch_leapItem.2.2.1 [(0, .aload_n 0, 1), (1, .iload_n 1, 1), (2, .iload_n 2, 1), (3, .invokevirtual 101, 3), (6, .istore_n 3, 1), (7, .iload_n 3, 1), (8, .iconst (-1), 1), (9, .if_icmp .eq 18, 3), (12, .aload_n 0, 1), (13, .getfield 26, 3), (16, .getfield 55, 3), (19, .iload_n 3, 1), (20, .iconst 1, 1), (21, .iadd, 1), (22, .iaload, 1), (23, .iconst (-1), 1), (24, .if_icmp .eq 5, 3), (27, .iconst (-1), 1), (28, .ireturn, 1), (29, .aload_n 0, 1), (30, .getfield 11, 3), (33, .iload_n 1, 1), (34, .aaload, 1), (35, .iload_n 3, 1), (36, .iaload, 1), (37, .iconst 1, 1), (38, .isub, 1), (39, .invokestatic 104, 3), (42, .istore 4, 2), (44, .aload_n 0, 1), (45, .iload_n 3, 1), (46, .invokevirtual 82, 3), (49, .istore 5, 2), (51, .iload 4, 2), (53, .iload_n 1, 1), (54, .if_icmp .ge 34, 3), (57, .iload 5, 2), (59, .iconst (-1), 1), (60, .if_icmp .eq 28, 3), (63, .aload_n 0, 1), (64, .getfield 20, 3), (67, .iload 4, 2), (69, .aaload, 1), (70, .iload 5, 2), (72, .iaload, 1), (73, .iconst (-1), 1), (74, .if_icmp .eq 14, 3), (77, .aload_n 0, 1), (78, .getfield 20, 3), (81, .iload 4, 2), (83, .aaload, 1), (84, .iload 5, 2), (86, .iaload, 1), (87, .ireturn, 1), (88, .iload_n 3, 1), (89, .iconst 1, 1), (90, .iadd, 1), (91, .bipush 13, 2), (93, .imul, 1), (94, .iload 4, 2), (96, .iadd, 1), (97, .ireturn, 1)] = true := by decide +kernel
theorem h_Ch_leapItem : mj_yk y_Ch_leapItem 2 := ⟨mw_556, mw_56, ⟨rfl, by decide +kernel, by decide +kernel, by decide +kernel⟩, by decide, by decide +kernel⟩
abbrev y_Ch_loneSlot : mj_Y := ("ChartForest$Chart", ⟨"ChartForest$Chart", "loneSlot", "(II)I"⟩, prog_2_method_16_code, 6, some .int)
theorem k_Ch_loneSlot : mj_dec y_Ch_loneSlot.2.2.1 [(0, .iconst 0, 1), (1, .istore_n 3, 1), (2, .iconst (-1), 1), (3, .istore 4, 2), (5, .iconst 0, 1), (6, .istore 5, 2), (8, .iload 5, 2), (10, .bipush 44, 2), (12, .if_icmp .ge 54, 3), (15, .aload_n 0, 1), (16, .getfield 11, 3), (19, .iload_n 1, 1), (20, .aaload, 1), (21, .iload 5, 2), (23, .iaload, 1), (24, .ifCond .eq 36, 3), (27, .aload_n 0, 1), (28, .getfield 26, 3), (31, .getfield 55, 3), (34, .iload 5, 2), (36, .iaload, 1), (37, .iload_n 2, 1), (38, .if_icmp .ne 22, 3), (41, .iload_n 3, 1), (42, .aload_n 0, 1), (43, .getfield 11, 3), (46, .iload_n 1, 1), (47, .aaload, 1), (48, .iload 5, 2), (50, .iaload, 1), (51, .invokestatic 104, 3), (54, .iadd, 1), (55, .istore_n 3, 1), (56, .iload 5, 2), (58, .istore 4, 2), (60, .iinc 5 1, 3), (63, .goto (-55), 3), (66, .iload_n 3, 1), (67, .iconst 1, 1), (68, .if_icmp .ne 8, 3), (71, .iload 4, 2), (73, .goto 4, 3), (76, .iconst (-1), 1), (77, .ireturn, 1)] = true := by decide +kernel
theorem h_Ch_loneSlot : mj_yk y_Ch_loneSlot 2 := ⟨mw_560, mw_56, ⟨rfl, by decide +kernel, by decide +kernel, by decide +kernel⟩, by decide, by decide +kernel⟩
abbrev y_J_Integer_bitCount_I : mj_Y := ("java/lang/Integer", ⟨"java/lang/Integer", "bitCount", "(I)I"⟩, prog_14_method_49_code, 1, some .int)
theorem k_J_Integer_bitCount_I : mj_dec y_J_Integer_bitCount_I.2.2.1 [(0, .iload_n 0, 1), (1, .iload_n 0, 1), (2, .iconst 1, 1), (3, .iushr, 1), (4, .ldc_w 265, 3), (7, .iand, 1), (8, .isub, 1), (9, .istore_n 0, 1), (10, .iload_n 0, 1), (11, .ldc_w 266, 3), (14, .iand, 1), (15, .iload_n 0, 1), (16, .iconst 2, 1), (17, .iushr, 1), (18, .ldc_w 266, 3), (21, .iand, 1), (22, .iadd, 1), (23, .istore_n 0, 1), (24, .iload_n 0, 1), (25, .iload_n 0, 1), (26, .iconst 4, 1), (27, .iushr, 1), (28, .iadd, 1), (29, .ldc_w 267, 3), (32, .iand, 1), (33, .istore_n 0, 1), (34, .iload_n 0, 1), (35, .iload_n 0, 1), (36, .bipush 8, 2), (38, .iushr, 1), (39, .iadd, 1), (40, .istore_n 0, 1), (41, .iload_n 0, 1), (42, .iload_n 0, 1), (43, .bipush 16, 2), (45, .iushr, 1), (46, .iadd, 1), (47, .istore_n 0, 1), (48, .iload_n 0, 1), (49, .bipush 63, 2), (51, .iand, 1), (52, .ireturn, 1)] = true := by decide +kernel
theorem h_J_Integer_bitCount_I : mj_yk y_J_Integer_bitCount_I 1 := ⟨mw_563, mw_68, ⟨rfl, by decide +kernel, by decide +kernel, by decide +kernel⟩, by decide, by decide +kernel⟩
abbrev y_CF_back : mj_Y := ("ChartForest", ⟨"ChartForest", "back", "(I)I"⟩, prog_1_method_4_code, 2, some .int)
theorem k_CF_back : mj_dec y_CF_back.2.2.1 [(0, .iload_n 1, 1), (1, .ifCond .lt 14, 3), (4, .iload_n 1, 1), (5, .aload_n 0, 1), (6, .getfield 19, 3), (9, .getfield 59, 3), (12, .if_icmp .le 11, 3), (15, .new 52, 3), (18, .dup, 1), (19, .invokespecial 54, 3), (22, .athrow, 1), (23, .aload_n 0, 1), (24, .getfield 19, 3), (27, .dup, 1), (28, .getfield 59, 3), (31, .iload_n 1, 1), (32, .isub, 1), (33, .putfield 59, 3), (36, .aload_n 0, 1), (37, .getfield 37, 3), (40, .aload_n 0, 1), (41, .getfield 19, 3), (44, .getfield 59, 3), (47, .invokevirtual 69, 3), (50, .aload_n 0, 1), (51, .getfield 19, 3), (54, .getfield 59, 3), (57, .ireturn, 1)] = true := by decide +kernel
theorem h_CF_back : mj_yk y_CF_back 1 := ⟨mw_573, mw_53, ⟨rfl, by decide +kernel, by decide +kernel, by decide +kernel⟩, by decide, by decide +kernel⟩
abbrev y_CF_items : mj_Y := ("ChartForest", ⟨"ChartForest", "items", "(I)I"⟩, prog_1_method_8_code, 2, some .int)
theorem k_CF_items : mj_dec y_CF_items.2.2.1 [(0, .aload_n 0, 1), (1, .iload_n 1, 1), (2, .invokevirtual 104, 3), (5, .ifCond .ne 11, 3), (8, .new 107, 3), (11, .dup, 1), (12, .invokespecial 109, 3), (15, .athrow, 1), (16, .aload_n 0, 1), (17, .getfield 28, 3), (20, .getfield 92, 3), (23, .iload_n 1, 1), (24, .iaload, 1), (25, .ireturn, 1)] = true := by decide +kernel
theorem h_CF_items : mj_yk y_CF_items 1 := ⟨mw_581, mw_53, ⟨rfl, by decide +kernel, by decide +kernel, by decide +kernel⟩, by decide, by decide +kernel⟩
abbrev y_CF_isSet : mj_Y := ("ChartForest", ⟨"ChartForest", "isSet", "(I)Z"⟩, prog_1_method_15_code, 2, some .boolean)
theorem k_CF_isSet : mj_dec y_CF_isSet.2.2.1 [(0, .iload_n 1, 1), (1, .ifCond .lt 18, 3), (4, .iload_n 1, 1), (5, .aload_n 0, 1), (6, .getfield 19, 3), (9, .getfield 59, 3), (12, .if_icmp .gt 7, 3), (15, .iconst 1, 1), (16, .goto 4, 3), (19, .iconst 0, 1), (20, .ireturn, 1)] = true := by decide +kernel
theorem h_CF_isSet : mj_yk y_CF_isSet 1 := ⟨mw_585, mw_53, ⟨rfl, by decide +kernel, by decide +kernel, by decide +kernel⟩, by decide, by decide +kernel⟩
abbrev y_CF_has : mj_Y := ("ChartForest", ⟨"ChartForest", "has", "(IIII)Z"⟩, prog_1_method_9_code, 5, some .boolean)
theorem k_CF_has : mj_dec y_CF_has.2.2.1 [(0, .aload_n 0, 1), (1, .iload_n 1, 1), (2, .invokevirtual 104, 3), (5, .ifCond .ne 11, 3), (8, .new 107, 3), (11, .dup, 1), (12, .invokespecial 109, 3), (15, .athrow, 1), (16, .iload_n 2, 1), (17, .iconst (-1), 1), (18, .if_icmp .lt 32, 3), (21, .iload_n 2, 1), (22, .aload_n 0, 1), (23, .getfield 12, 3), (26, .getfield 55, 3), (29, .if_icmp .ge 21, 3), (32, .iload_n 3, 1), (33, .ifCond .lt 17, 3), (36, .iload_n 3, 1), (37, .iconst 4, 1), (38, .if_icmp .ge 12, 3), (41, .aload_n 0, 1), (42, .iload 4, 2), (44, .invokevirtual 104, 3), (47, .ifCond .ne 5, 3), (50, .iconst 0, 1), (51, .ireturn, 1), (52, .aload_n 0, 1), (53, .getfield 28, 3), (56, .iload_n 1, 1), (57, .iload_n 2, 1), (58, .iload_n 3, 1), (59, .invokestatic 96, 3), (62, .iload 4, 2), (64, .invokevirtual 100, 3), (67, .ireturn, 1)] = true := by decide +kernel
theorem h_CF_has : mj_yk y_CF_has 4 := ⟨mw_607, mw_53, ⟨rfl, by decide +kernel, by decide +kernel, by decide +kernel⟩, by decide, by decide +kernel⟩
abbrev y_CF_leap : mj_Y := ("ChartForest", ⟨"ChartForest", "leap", "(II)I"⟩, prog_1_method_10_code, 3, some .int)
theorem k_CF_leap : mj_dec y_CF_leap.2.2.1 [(0, .aload_n 0, 1), (1, .iload_n 1, 1), (2, .invokevirtual 104, 3), (5, .ifCond .eq 10, 3), (8, .iload_n 2, 1), (9, .invokestatic 44, 3), (12, .ifCond .ne 11, 3), (15, .new 107, 3), (18, .dup, 1), (19, .invokespecial 109, 3), (22, .athrow, 1), (23, .iload_n 1, 1), (24, .aload_n 0, 1), (25, .getfield 19, 3), (28, .getfield 59, 3), (31, .if_icmp .ne 5, 3), (34, .iconst (-1), 1), (35, .ireturn, 1), (36, .aload_n 0, 1), (37, .getfield 28, 3), (40, .iload_n 1, 1), (41, .iload_n 2, 1), (42, .invokevirtual 110, 3), (45, .ireturn, 1)] = true := by decide +kernel
theorem h_CF_leap : mj_yk y_CF_leap 2 := ⟨mw_614, mw_53, ⟨rfl, by decide +kernel, by decide +kernel, by decide +kernel⟩, by decide, by decide +kernel⟩
abbrev y_Ch_writtenLeap : mj_Y := ("ChartForest$Chart", ⟨"ChartForest$Chart", "writtenLeap", "(II)I"⟩, prog_2_method_6_code, 5, some .int)
theorem k_Ch_writtenLeap : mj_dec y_Ch_writtenLeap.2.2.1 [(0, .aload_n 0, 1), (1, .getfield 20, 3), (4, .iload_n 1, 1), (5, .aaload, 1), (6, .iload_n 2, 1), (7, .iaload, 1), (8, .istore_n 3, 1), (9, .iload_n 3, 1), (10, .iconst (-1), 1), (11, .if_icmp .ne 5, 3), (14, .iconst (-1), 1), (15, .ireturn, 1), (16, .iload_n 3, 1), (17, .bipush 13, 2), (19, .idiv, 1), (20, .istore 4, 2), (22, .sipush 1000, 3), (25, .iload 4, 2), (27, .iconst 4, 1), (28, .idiv, 1), (29, .imul, 1), (30, .bipush 100, 2), (32, .iload 4, 2), (34, .iconst 4, 1), (35, .irem, 1), (36, .imul, 1), (37, .iadd, 1), (38, .iload_n 3, 1), (39, .bipush 13, 2), (41, .irem, 1), (42, .iadd, 1), (43, .ireturn, 1)] = true := by decide +kernel
theorem h_Ch_writtenLeap : mj_yk y_Ch_writtenLeap 2 := ⟨mw_618, mw_56, ⟨rfl, by decide +kernel, by decide +kernel, by decide +kernel⟩, by decide, by decide +kernel⟩
abbrev y_CF_ways : mj_Y := ("ChartForest", ⟨"ChartForest", "ways", "(III)I"⟩, prog_1_method_11_code, 4, some .int)
theorem k_CF_ways : mj_dec y_CF_ways.2.2.1 [(0, .iload_n 1, 1), (1, .invokestatic 44, 3), (4, .ifCond .eq 12, 3), (7, .aload_n 0, 1), (8, .iload_n 2, 1), (9, .iload_n 3, 1), (10, .invokevirtual 113, 3), (13, .ifCond .ne 11, 3), (16, .new 107, 3), (19, .dup, 1), (20, .invokespecial 109, 3), (23, .athrow, 1), (24, .aload_n 0, 1), (25, .getfield 37, 3), (28, .invokevirtual 116, 3), (31, .aload_n 0, 1), (32, .getfield 37, 3), (35, .iload_n 1, 1), (36, .iload_n 2, 1), (37, .iload_n 3, 1), (38, .invokevirtual 119, 3), (41, .ireturn, 1)] = true := by decide +kernel
theorem h_CF_ways : mj_yk y_CF_ways 3 := ⟨mw_625, mw_53, ⟨rfl, by decide +kernel, by decide +kernel, by decide +kernel⟩, by decide, by decide +kernel⟩
abbrev y_CF_isStretch : mj_Y := ("ChartForest", ⟨"ChartForest", "isStretch", "(II)Z"⟩, prog_1_method_16_code, 3, some .boolean)
theorem k_CF_isStretch : mj_dec y_CF_isStretch.2.2.1 [(0, .iload_n 1, 1), (1, .ifCond .lt 23, 3), (4, .iload_n 1, 1), (5, .iload_n 2, 1), (6, .if_icmp .gt 18, 3), (9, .iload_n 2, 1), (10, .aload_n 0, 1), (11, .getfield 19, 3), (14, .getfield 59, 3), (17, .if_icmp .gt 7, 3), (20, .iconst 1, 1), (21, .goto 4, 3), (24, .iconst 0, 1), (25, .ireturn, 1)] = true := by decide +kernel
theorem h_CF_isStretch : mj_yk y_CF_isStretch 2 := ⟨mw_629, mw_53, ⟨rfl, by decide +kernel, by decide +kernel, by decide +kernel⟩, by decide, by decide +kernel⟩
abbrev y_Fo_waysOver : mj_Y := ("ChartForest$Forest", ⟨"ChartForest$Forest", "waysOver", "(III)I"⟩, prog_4_method_4_code, 4, some .int)
theorem k_Fo_waysOver : mj_dec y_Fo_waysOver.2.2.1 [(0, .aload_n 0, 1), (1, .getfield 41, 3), (4, .iload_n 1, 1), (5, .iload_n 2, 1), (6, .iload_n 3, 1), (7, .invokevirtual 67, 3), (10, .aload_n 0, 1), (11, .getfield 41, 3), (14, .getfield 71, 3), (17, .ireturn, 1)] = true := by decide +kernel
theorem h_Fo_waysOver : mj_yk y_Fo_waysOver 3 := ⟨mw_633, mw_57, ⟨rfl, by decide +kernel, by decide +kernel, by decide +kernel⟩, by decide, by decide +kernel⟩
abbrev y_CF_trees : mj_Y := ("ChartForest", ⟨"ChartForest", "trees", "(III)J"⟩, prog_1_method_12_code, 4, some .long)
theorem k_CF_trees : mj_dec y_CF_trees.2.2.1 [(0, .iload_n 1, 1), (1, .invokestatic 44, 3), (4, .ifCond .eq 12, 3), (7, .aload_n 0, 1), (8, .iload_n 2, 1), (9, .iload_n 3, 1), (10, .invokevirtual 113, 3), (13, .ifCond .ne 11, 3), (16, .new 107, 3), (19, .dup, 1), (20, .invokespecial 109, 3), (23, .athrow, 1), (24, .aload_n 0, 1), (25, .getfield 37, 3), (28, .invokevirtual 116, 3), (31, .aload_n 0, 1), (32, .getfield 37, 3), (35, .iload_n 1, 1), (36, .iload_n 2, 1), (37, .iload_n 3, 1), (38, .invokevirtual 123, 3), (41, .lreturn, 1)] = true := by decide +kernel
theorem h_CF_trees : mj_yk y_CF_trees 3 := ⟨mw_640, mw_53, ⟨rfl, by decide +kernel, by decide +kernel, by decide +kernel⟩, by decide, by decide +kernel⟩
abbrev y_CF_tree : mj_Y := ("ChartForest", ⟨"ChartForest", "tree", "(JI)I"⟩, prog_1_method_14_code, 7, some .int)
theorem k_CF_tree : mj_dec y_CF_tree.2.2.1 [(0, .aload_n 0, 1), (1, .getfield 37, 3), (4, .invokevirtual 116, 3), (7, .aload_n 0, 1), (8, .getfield 37, 3), (11, .iconst 0, 1), (12, .iconst 0, 1), (13, .aload_n 0, 1), (14, .getfield 19, 3), (17, .getfield 59, 3), (20, .invokevirtual 123, 3), (23, .lstore 4, 2), (25, .lload 4, 2), (27, .ldc2_w 131, 3), (30, .lcmp, 1), (31, .ifCond .ge 20, 3), (34, .lload_n 1, 1), (35, .lconst 0, 1), (36, .lcmp, 1), (37, .ifCond .lt 14, 3), (40, .lload_n 1, 1), (41, .lload 4, 2), (43, .lcmp, 1), (44, .ifCond .ge 7, 3), (47, .iload_n 3, 1), (48, .ifCond .ge 11, 3), (51, .new 83, 3), (54, .dup, 1), (55, .invokespecial 85, 3), (58, .athrow, 1), (59, .aload_n 0, 1), (60, .getfield 37, 3), (63, .lload_n 1, 1), (64, .iload_n 3, 1), (65, .invokevirtual 133, 3), (68, .istore 6, 2), (70, .iload 6, 2), (72, .iconst (-1), 1), (73, .if_icmp .ne 11, 3), (76, .new 83, 3), (79, .dup, 1), (80, .invokespecial 85, 3), (83, .athrow, 1), (84, .iload 6, 2), (86, .ireturn, 1)] = true := by decide +kernel
theorem h_CF_tree : mj_yk y_CF_tree 2 := ⟨mw_648, mw_53, ⟨rfl, by decide +kernel, by decide +kernel, by decide +kernel⟩, by decide, by decide +kernel⟩
abbrev y_Fo_ruleAt : mj_Y := ("ChartForest$Forest", ⟨"ChartForest$Forest", "ruleAt", "(JI)I"⟩, prog_4_method_13_code, 8, some .int)
theorem k_Fo_ruleAt : mj_dec y_Fo_ruleAt.2.2.1 [(0, .aload_n 0, 1), (1, .iconst 0, 1), (2, .putfield 91, 3), (5, .aload_n 0, 1), (6, .iconst 0, 1), (7, .iconst 0, 1), (8, .aload_n 0, 1), (9, .getfield 23, 3), (12, .getfield 55, 3), (15, .invokestatic 81, 3), (18, .lload_n 1, 1), (19, .invokevirtual 120, 3), (22, .iconst 0, 1), (23, .istore 4, 2), (25, .iload 4, 2), (27, .ldc 124, 2), (29, .if_icmp .ge 129, 3), (32, .aload_n 0, 1), (33, .getfield 91, 3), (36, .ifCond .le 122, 3), (39, .aload_n 0, 1), (40, .dup, 1), (41, .getfield 91, 3), (44, .iconst 1, 1), (45, .isub, 1), (46, .putfield 91, 3), (49, .aload_n 0, 1), (50, .getfield 19, 3), (53, .aload_n 0, 1), (54, .getfield 91, 3), (57, .laload, 1), (58, .lstore 5, 2), (60, .aload_n 0, 1), (61, .aload_n 0, 1), (62, .getfield 9, 3), (65, .aload_n 0, 1), (66, .getfield 91, 3), (69, .iaload, 1), (70, .invokevirtual 101, 3), (73, .iconst 0, 1), (74, .istore 7, 2), (76, .iload 7, 2), (78, .aload_n 0, 1), (79, .getfield 41, 3), (82, .getfield 71, 3), (85, .iconst 1, 1), (86, .isub, 1), (87, .if_icmp .ge 40, 3), (90, .lload 5, 2), (92, .aload_n 0, 1), (93, .getfield 41, 3), (96, .getfield 125, 3), (99, .iload 7, 2), (101, .laload, 1), (102, .lcmp, 1), (103, .ifCond .lt 24, 3), (106, .lload 5, 2), (108, .aload_n 0, 1), (109, .getfield 41, 3), (112, .getfield 125, 3), (115, .iload 7, 2), (117, .laload, 1), (118, .lsub, 1), (119, .lstore 5, 2), (121, .iinc 7 1, 3), (124, .goto (-48), 3), (127, .iload 4, 2), (129, .iload_n 3, 1), (130, .if_icmp .ne 14, 3), (133, .aload_n 0, 1), (134, .getfield 41, 3), (137, .getfield 128, 3), (140, .iload 7, 2), (142, .iaload, 1), (143, .ireturn, 1), (144, .aload_n 0, 1), (145, .iload 7, 2), (147, .lload 5, 2), (149, .invokevirtual 131, 3), (152, .iinc 4 1, 3), (155, .goto (-130), 3), (158, .iconst (-1), 1), (159, .ireturn, 1)] = true := by decide +kernel
theorem h_Fo_ruleAt : mj_yk y_Fo_ruleAt 2 := ⟨mw_652, mw_57, ⟨rfl, by decide +kernel, by decide +kernel, by decide +kernel⟩, by decide, by decide +kernel⟩
abbrev y_Fo_push : mj_Y := ("ChartForest$Forest", ⟨"ChartForest$Forest", "push", "(IJ)V"⟩, prog_4_method_15_code, 4, none)
theorem k_Fo_push : mj_dec y_Fo_push.2.2.1 [(0, .aload_n 0, 1), (1, .getfield 91, 3), (4, .sipush 845, 3), (7, .if_icmp .ge 33, 3), (10, .aload_n 0, 1), (11, .getfield 9, 3), (14, .aload_n 0, 1), (15, .getfield 91, 3), (18, .iload_n 1, 1), (19, .iastore, 1), (20, .aload_n 0, 1), (21, .getfield 19, 3), (24, .aload_n 0, 1), (25, .getfield 91, 3), (28, .lload_n 2, 1), (29, .lastore, 1), (30, .aload_n 0, 1), (31, .dup, 1), (32, .getfield 91, 3), (35, .iconst 1, 1), (36, .iadd, 1), (37, .putfield 91, 3), (40, .return_, 1)] = true := by decide +kernel
theorem h_Fo_push : mj_yk y_Fo_push 2 := ⟨mw_656, mw_57, ⟨rfl, by decide +kernel, by decide +kernel, by decide +kernel⟩, by decide, by decide +kernel⟩
abbrev y_Fo_pushParts : mj_Y := ("ChartForest$Forest", ⟨"ChartForest$Forest", "pushParts", "(IJ)V"⟩, prog_4_method_14_code, 9, none)
theorem k_Fo_pushParts : mj_dec y_Fo_pushParts.2.2.1 [(0, .lload_n 2, 1), (1, .lstore 4, 2), (3, .iconst 2, 1), (4, .istore 6, 2), (6, .iload 6, 2), (8, .ifCond .lt 67, 3), (11, .aload_n 0, 1), (12, .getfield 41, 3), (15, .iload_n 1, 1), (16, .iload 6, 2), (18, .invokevirtual 134, 3), (21, .lstore 7, 2), (23, .aload_n 0, 1), (24, .getfield 41, 3), (27, .iload_n 1, 1), (28, .iload 6, 2), (30, .invokevirtual 107, 3), (33, .invokestatic 110, 3), (36, .ifCond .eq 33, 3), (39, .lload 7, 2), (41, .lconst 0, 1), (42, .lcmp, 1), (43, .ifCond .le 26, 3), (46, .aload_n 0, 1), (47, .aload_n 0, 1), (48, .iload_n 1, 1), (49, .iload 6, 2), (51, .invokevirtual 114, 3), (54, .lload 4, 2), (56, .lload 7, 2), (58, .lrem, 1), (59, .invokevirtual 120, 3), (62, .lload 4, 2), (64, .lload 7, 2), (66, .ldiv, 1), (67, .lstore 4, 2), (69, .iinc 6 (-1), 3), (72, .goto (-66), 3), (75, .return_, 1)] = true := by decide +kernel
theorem h_Fo_pushParts : mj_yk y_Fo_pushParts 2 := ⟨mw_661, mw_57, ⟨rfl, by decide +kernel, by decide +kernel, by decide +kernel⟩, by decide, by decide +kernel⟩
abbrev y_Wa_treesOfPart : mj_Y := ("ChartForest$Ways", ⟨"ChartForest$Ways", "treesOfPart", "(II)J"⟩, prog_7_method_7_code, 3, some .long)
theorem k_Wa_treesOfPart : mj_dec y_Wa_treesOfPart.2.2.1 [(0, .aload_n 0, 1), (1, .getfield 26, 3), (4, .aload_n 0, 1), (5, .iload_n 1, 1), (6, .iload_n 2, 1), (7, .invokevirtual 72, 3), (10, .aload_n 0, 1), (11, .iload_n 1, 1), (12, .iload_n 2, 1), (13, .invokevirtual 75, 3), (16, .aload_n 0, 1), (17, .iload_n 1, 1), (18, .iload_n 2, 1), (19, .iconst 1, 1), (20, .iadd, 1), (21, .invokevirtual 75, 3), (24, .invokevirtual 58, 3), (27, .lreturn, 1)] = true := by decide +kernel
theorem h_Wa_treesOfPart : mj_yk y_Wa_treesOfPart 2 := ⟨mw_665, mw_59, ⟨rfl, by decide +kernel, by decide +kernel, by decide +kernel⟩, by decide, by decide +kernel⟩
abbrev y_Mo_makeSet : mj_Y := ("ChartForestModel", ⟨"ChartForestModel", "makeSet", "(I)V"⟩, prog_9_method_14_code, 4, none)
theorem k_Mo_makeSet : mj_dec y_Mo_makeSet.2.2.1 [(0, .aload_n 0, 1), (1, .iconst 0, 1), (2, .putfield 85, 3), (5, .iconst 0, 1), (6, .istore_n 2, 1), (7, .iload_n 2, 1), (8, .sipush 572, 3), (11, .if_icmp .ge 22, 3), (14, .aload_n 0, 1), (15, .getfield 22, 3), (18, .sipush 572, 3), (21, .iload_n 1, 1), (22, .imul, 1), (23, .iload_n 2, 1), (24, .iadd, 1), (25, .iconst 0, 1), (26, .bastore, 1), (27, .iinc 2 1, 3), (30, .goto (-23), 3), (33, .iload_n 1, 1), (34, .ifCond .ne 10, 3), (37, .aload_n 0, 1), (38, .getfield 22, 3), (41, .iconst 0, 1), (42, .iconst 1, 1), (43, .bastore, 1), (44, .iconst 0, 1), (45, .istore_n 2, 1), (46, .iload_n 2, 1), (47, .sipush 572, 3), (50, .if_icmp .ge 84, 3), (53, .iload_n 1, 1), (54, .ifCond .le 80, 3), (57, .aload_n 0, 1), (58, .getfield 22, 3), (61, .sipush 572, 3), (64, .iload_n 1, 1), (65, .iconst 1, 1), (66, .isub, 1), (67, .imul, 1), (68, .iload_n 2, 1), (69, .iadd, 1), (70, .baload, 1), (71, .ifCond .eq 35, 3), (74, .aload_n 0, 1), (75, .iload_n 2, 1), (76, .bipush 52, 2), (78, .idiv, 1), (79, .iconst 1, 1), (80, .isub, 1), (81, .iload_n 2, 1), (82, .bipush 52, 2), (84, .irem, 1), (85, .bipush 13, 2), (87, .idiv, 1), (88, .invokevirtual 65, 3), (91, .aload_n 0, 1), (92, .getfield 19, 3), (95, .iload_n 1, 1), (96, .iconst 1, 1), (97, .isub, 1), (98, .iaload, 1), (99, .if_icmp .ne 7, 3), (102, .iconst 1, 1), (103, .goto 4, 3), (106, .iconst 0, 1), (107, .istore_n 3, 1), (108, .iload_n 3, 1), (109, .ifCond .eq 19, 3), (112, .aload_n 0, 1), (113, .getfield 22, 3), (116, .sipush 572, 3), (119, .iload_n 1, 1), (120, .imul, 1), (121, .iload_n 2, 1), (122, .iadd, 1), (123, .bipush 13, 2), (125, .iadd, 1), (126, .iconst 1, 1), (127, .bastore, 1), (128, .iinc 2 1, 3), (131, .goto (-85), 3), (134, .aload_n 0, 1), (135, .iload_n 1, 1), (136, .invokevirtual 88, 3), (139, .return_, 1)] = true := by decide +kernel
theorem h_Mo_makeSet : mj_yk y_Mo_makeSet 1 := ⟨mw_677, mw_60, ⟨rfl, by decide +kernel, by decide +kernel, by decide +kernel⟩, by decide, by decide +kernel⟩
abbrev y_Mo_behind : mj_Y := ("ChartForestModel", ⟨"ChartForestModel", "behind", "(II)I"⟩, prog_9_method_7_code, 3, some .int)
theorem k_Mo_behind : mj_dec y_Mo_behind.2.2.1 [(0, .iload_n 2, 1), (1, .aload_n 0, 1), (2, .iload_n 1, 1), (3, .invokevirtual 57, 3), (6, .if_icmp .lt 7, 3), (9, .iconst (-1), 1), (10, .goto 21, 3), (13, .iload_n 1, 1), (14, .ifCond .ge 7, 3), (17, .iconst 0, 1), (18, .goto 13, 3), (21, .aload_n 0, 1), (22, .getfield 16, 3), (25, .iconst 3, 1), (26, .iload_n 1, 1), (27, .imul, 1), (28, .iload_n 2, 1), (29, .iadd, 1), (30, .iaload, 1), (31, .ireturn, 1)] = true := by decide +kernel
theorem h_Mo_behind : mj_yk y_Mo_behind 2 := ⟨mw_681, mw_60, ⟨rfl, by decide +kernel, by decide +kernel, by decide +kernel⟩, by decide, by decide +kernel⟩
abbrev y_Mo_lengthOf : mj_Y := ("ChartForestModel", ⟨"ChartForestModel", "lengthOf", "(I)I"⟩, prog_9_method_6_code, 2, some .int)
theorem k_Mo_lengthOf : mj_dec y_Mo_lengthOf.2.2.1 [(0, .iload_n 1, 1), (1, .ifCond .ge 7, 3), (4, .iconst 1, 1), (5, .goto 9, 3), (8, .aload_n 0, 1), (9, .getfield 13, 3), (12, .iload_n 1, 1), (13, .iaload, 1), (14, .ireturn, 1)] = true := by decide +kernel
theorem h_Mo_lengthOf : mj_yk y_Mo_lengthOf 1 := ⟨mw_685, mw_60, ⟨rfl, by decide +kernel, by decide +kernel, by decide +kernel⟩, by decide, by decide +kernel⟩
abbrev y_Mo_close : mj_Y := ("ChartForestModel", ⟨"ChartForestModel", "close", "(I)V"⟩, prog_9_method_13_code, 5, none)
theorem k_Mo_close : mj_dec y_Mo_close.2.2.1 [(0, .iconst 1, 1), (1, .istore_n 2, 1), (2, .iload_n 2, 1), (3, .ifCond .eq 77, 3), (6, .iconst 0, 1), (7, .istore_n 2, 1), (8, .iconst 0, 1), (9, .istore_n 3, 1), (10, .iload_n 3, 1), (11, .sipush 572, 3), (14, .if_icmp .ge 63, 3), (17, .aload_n 0, 1), (18, .getfield 22, 3), (21, .sipush 572, 3), (24, .iload_n 1, 1), (25, .imul, 1), (26, .iload_n 3, 1), (27, .iadd, 1), (28, .baload, 1), (29, .ifCond .eq 42, 3), (32, .aload_n 0, 1), (33, .iload_n 1, 1), (34, .iload_n 3, 1), (35, .bipush 52, 2), (37, .idiv, 1), (38, .iconst 1, 1), (39, .isub, 1), (40, .iload_n 3, 1), (41, .bipush 52, 2), (43, .irem, 1), (44, .bipush 13, 2), (46, .idiv, 1), (47, .iload_n 3, 1), (48, .bipush 13, 2), (50, .irem, 1), (51, .invokevirtual 82, 3), (54, .istore 4, 2), (56, .iload_n 2, 1), (57, .ifCond .ne 8, 3), (60, .iload 4, 2), (62, .ifCond .le 7, 3), (65, .iconst 1, 1), (66, .goto 4, 3), (69, .iconst 0, 1), (70, .istore_n 2, 1), (71, .iinc 3 1, 3), (74, .goto (-64), 3), (77, .goto (-75), 3), (80, .return_, 1)] = true := by decide +kernel
theorem h_Mo_close : mj_yk y_Mo_close 1 := ⟨mw_689, mw_60, ⟨rfl, by decide +kernel, by decide +kernel, by decide +kernel⟩, by decide, by decide +kernel⟩
abbrev y_Mo_follow : mj_Y := ("ChartForestModel", ⟨"ChartForestModel", "follow", "(IIII)I"⟩, prog_9_method_12_code, 9, some .int)
theorem k_Mo_follow : mj_dec y_Mo_follow.2.2.1 [(0, .aload_n 0, 1), (1, .iload_n 2, 1), (2, .iload_n 3, 1), (3, .invokevirtual 65, 3), (6, .istore 5, 2), (8, .iconst 0, 1), (9, .istore 6, 2), (11, .iload 5, 2), (13, .invokestatic 69, 3), (16, .ifCond .eq 51, 3), (19, .iconst 0, 1), (20, .istore 7, 2), (22, .iload 7, 2), (24, .aload_n 0, 1), (25, .getfield 73, 3), (28, .if_icmp .ge 39, 3), (31, .iload 6, 2), (33, .aload_n 0, 1), (34, .getfield 7, 3), (37, .iload 7, 2), (39, .iaload, 1), (40, .iload 5, 2), (42, .if_icmp .ne 15, 3), (45, .aload_n 0, 1), (46, .iload_n 1, 1), (47, .iload 7, 2), (49, .iconst 0, 1), (50, .iload_n 1, 1), (51, .invokevirtual 76, 3), (54, .goto 4, 3), (57, .iconst 0, 1), (58, .iadd, 1), (59, .istore 6, 2), (61, .iinc 7 1, 3), (64, .goto (-42), 3), (67, .iload 5, 2), (69, .ifCond .ge 7, 3), (72, .iload_n 2, 1), (73, .ifCond .ge 6, 3), (76, .iload 6, 2), (78, .ireturn, 1), (79, .aload_n 0, 1), (80, .getfield 45, 3), (83, .ifCond .eq 24, 3), (86, .iload 4, 2), (88, .iload_n 1, 1), (89, .if_icmp .ge 18, 3), (92, .aload_n 0, 1), (93, .iload 4, 2), (95, .aload_n 0, 1), (96, .getfield 7, 3), (99, .iload_n 2, 1), (100, .iaload, 1), (101, .invokevirtual 79, 3), (104, .goto 4, 3), (107, .iconst (-1), 1), (108, .istore 7, 2), (110, .iload 7, 2), (112, .ifCond .lt 32, 3), (115, .iload 6, 2), (117, .aload_n 0, 1), (118, .iload_n 1, 1), (119, .iload 7, 2), (121, .bipush 52, 2), (123, .idiv, 1), (124, .iconst 1, 1), (125, .isub, 1), (126, .iload 7, 2), (128, .bipush 52, 2), (130, .irem, 1), (131, .bipush 13, 2), (133, .idiv, 1), (134, .iload 7, 2), (136, .bipush 13, 2), (138, .irem, 1), (139, .invokevirtual 76, 3), (142, .iadd, 1), (143, .ireturn, 1), (144, .iconst 0, 1), (145, .istore 8, 2), (147, .iload 8, 2), (149, .sipush 572, 3), (152, .if_icmp .ge 86, 3), (155, .aload_n 0, 1), (156, .getfield 22, 3), (159, .sipush 572, 3), (162, .iload 4, 2), (164, .imul, 1), (165, .iload 8, 2), (167, .iadd, 1), (168, .baload, 1), (169, .ifCond .eq 63, 3), (172, .aload_n 0, 1), (173, .iload 8, 2), (175, .bipush 52, 2), (177, .idiv, 1), (178, .iconst 1, 1), (179, .isub, 1), (180, .iload 8, 2), (182, .bipush 52, 2), (184, .irem, 1), (185, .bipush 13, 2), (187, .idiv, 1), (188, .invokevirtual 65, 3), (191, .aload_n 0, 1), (192, .getfield 7, 3), (195, .iload_n 2, 1), (196, .iaload, 1), (197, .if_icmp .ne 35, 3), (200, .iload 6, 2), (202, .aload_n 0, 1), (203, .iload_n 1, 1), (204, .iload 8, 2), (206, .bipush 52, 2), (208, .idiv, 1), (209, .iconst 1, 1), (210, .isub, 1), (211, .iload 8, 2), (213, .bipush 52, 2), (215, .irem, 1), (216, .bipush 13, 2), (218, .idiv, 1), (219, .iconst 1, 1), (220, .iadd, 1), (221, .iload 8, 2), (223, .bipush 13, 2), (225, .irem, 1), (226, .invokevirtual 76, 3), (229, .iadd, 1), (230, .istore 6, 2), (232, .iinc 8 1, 3), (235, .goto (-88), 3), (238, .iload 6, 2), (240, .ireturn, 1)] = true := by decide +kernel
theorem h_Mo_follow : mj_yk y_Mo_follow 4 := ⟨mw_693, mw_60, ⟨rfl, by decide +kernel, by decide +kernel, by decide +kernel⟩, by decide, by decide +kernel⟩
abbrev y_Mo_isNonterminal : mj_Y := ("ChartForestModel", ⟨"ChartForestModel", "isNonterminal", "(I)Z"⟩, prog_9_method_4_code, 1, some .boolean)
theorem k_Mo_isNonterminal : mj_dec y_Mo_isNonterminal.2.2.1 [(0, .iload_n 0, 1), (1, .ifCond .lt 12, 3), (4, .iload_n 0, 1), (5, .iconst 4, 1), (6, .if_icmp .gt 7, 3), (9, .iconst 1, 1), (10, .goto 4, 3), (13, .iconst 0, 1), (14, .ireturn, 1)] = true := by decide +kernel
theorem h_Mo_isNonterminal : mj_yk y_Mo_isNonterminal 1 := ⟨mw_696, mw_60, ⟨rfl, by decide +kernel, by decide +kernel, by decide +kernel⟩, by decide, by decide +kernel⟩
abbrev y_Mo_add : mj_Y := ("ChartForestModel", ⟨"ChartForestModel", "add", "(IIII)I"⟩, prog_9_method_10_code, 6, some .int)
theorem k_Mo_add : mj_dec y_Mo_add.2.2.1 [(0, .iload_n 1, 1), (1, .iload_n 2, 1), (2, .iload_n 3, 1), (3, .iload 4, 2), (5, .invokestatic 61, 3), (8, .istore 5, 2), (10, .aload_n 0, 1), (11, .getfield 22, 3), (14, .iload 5, 2), (16, .baload, 1), (17, .ifCond .eq 5, 3), (20, .iconst 0, 1), (21, .ireturn, 1), (22, .aload_n 0, 1), (23, .getfield 22, 3), (26, .iload 5, 2), (28, .iconst 1, 1), (29, .bastore, 1), (30, .iconst 1, 1), (31, .ireturn, 1)] = true := by decide +kernel
theorem h_Mo_add : mj_yk y_Mo_add 4 := ⟨mw_700, mw_60, ⟨rfl, by decide +kernel, by decide +kernel, by decide +kernel⟩, by decide, by decide +kernel⟩
abbrev y_Mo_place : mj_Y := ("ChartForestModel", ⟨"ChartForestModel", "place", "(IIII)I"⟩, prog_9_method_8_code, 4, some .int)
theorem k_Mo_place : mj_dec y_Mo_place.2.2.1 [(0, .sipush 572, 3), (3, .iload_n 0, 1), (4, .imul, 1), (5, .bipush 52, 2), (7, .iload_n 1, 1), (8, .iconst 1, 1), (9, .iadd, 1), (10, .imul, 1), (11, .iadd, 1), (12, .bipush 13, 2), (14, .iload_n 2, 1), (15, .imul, 1), (16, .iadd, 1), (17, .iload_n 3, 1), (18, .iadd, 1), (19, .ireturn, 1)] = true := by decide +kernel
theorem h_Mo_place : mj_yk y_Mo_place 4 := ⟨mw_703, mw_60, ⟨rfl, by decide +kernel, by decide +kernel, by decide +kernel⟩, by decide, by decide +kernel⟩
abbrev y_Mo_leapOf : mj_Y := ("ChartForestModel", ⟨"ChartForestModel", "leapOf", "(II)I"⟩, prog_9_method_11_code, 12, some .int)
theorem k_Mo_leapOf : mj_dec y_Mo_leapOf.2.2.1 [(0, .iconst (-1), 1), (1, .istore_n 3, 1), (2, .iload_n 1, 1), (3, .istore 4, 2), (5, .iload_n 2, 1), (6, .istore 5, 2), (8, .iload 4, 2), (10, .ifCond .lt 181, 3), (13, .iconst 0, 1), (14, .istore 6, 2), (16, .iconst 0, 1), (17, .istore 7, 2), (19, .iconst 0, 1), (20, .istore 8, 2), (22, .iload 8, 2), (24, .sipush 572, 3), (27, .if_icmp .ge 57, 3), (30, .aload_n 0, 1), (31, .getfield 22, 3), (34, .sipush 572, 3), (37, .iload 4, 2), (39, .imul, 1), (40, .iload 8, 2), (42, .iadd, 1), (43, .baload, 1), (44, .ifCond .eq 34, 3), (47, .aload_n 0, 1), (48, .iload 8, 2), (50, .bipush 52, 2), (52, .idiv, 1), (53, .iconst 1, 1), (54, .isub, 1), (55, .iload 8, 2), (57, .bipush 52, 2), (59, .irem, 1), (60, .bipush 13, 2), (62, .idiv, 1), (63, .invokevirtual 65, 3), (66, .iload 5, 2), (68, .if_icmp .ne 10, 3), (71, .iinc 6 1, 3), (74, .iload 8, 2), (76, .istore 7, 2), (78, .iinc 8 1, 3), (81, .goto (-59), 3), (84, .iload 7, 2), (86, .bipush 52, 2), (88, .idiv, 1), (89, .iconst 1, 1), (90, .isub, 1), (91, .istore 8, 2), (93, .iload 7, 2), (95, .bipush 52, 2), (97, .irem, 1), (98, .bipush 13, 2), (100, .idiv, 1), (101, .istore 9, 2), (103, .iload 7, 2), (105, .bipush 13, 2), (107, .irem, 1), (108, .istore 10, 2), (110, .iload 6, 2), (112, .iconst 1, 1), (113, .if_icmp .ne 16, 3), (116, .iload 9, 2), (118, .iconst 1, 1), (119, .iadd, 1), (120, .aload_n 0, 1), (121, .iload 8, 2), (123, .invokevirtual 57, 3), (126, .if_icmp .eq 5, 3), (129, .iload_n 3, 1), (130, .ireturn, 1), (131, .iload 7, 2), (133, .bipush 13, 2), (135, .iadd, 1), (136, .istore_n 3, 1), (137, .iload 10, 2), (139, .iload 4, 2), (141, .if_icmp .ge 12, 3), (144, .iload 8, 2), (146, .ifCond .lt 7, 3), (149, .iconst 1, 1), (150, .goto 4, 3), (153, .iconst 0, 1), (154, .istore 11, 2), (156, .iload 11, 2), (158, .ifCond .eq 13, 3), (161, .aload_n 0, 1), (162, .getfield 7, 3), (165, .iload 8, 2), (167, .iaload, 1), (168, .goto 5, 3), (171, .iload 5, 2), (173, .istore 5, 2), (175, .iload 11, 2), (177, .ifCond .eq 8, 3), (180, .iload 10, 2), (182, .goto 4, 3), (185, .iconst (-1), 1), (186, .istore 4, 2), (188, .goto (-180), 3), (191, .iload_n 3, 1), (192, .ireturn, 1)] = true := by decide +kernel
theorem h_Mo_leapOf : mj_yk y_Mo_leapOf 2 := ⟨mw_707, mw_60, ⟨rfl, by decide +kernel, by decide +kernel, by decide +kernel⟩, by decide, by decide +kernel⟩
abbrev y_Mo_thrown : mj_Y := ("ChartForestModel", ⟨"ChartForestModel", "thrown", "()I"⟩, prog_9_method_2_code, 1, some .int)
theorem k_Mo_thrown : mj_dec y_Mo_thrown.2.2.1 [(0, .aload_n 0, 1), (1, .getfield 53, 3), (4, .ireturn, 1)] = true := by decide +kernel
theorem h_Mo_thrown : mj_yk y_Mo_thrown 0 := ⟨mw_769, mw_60, ⟨rfl, by decide +kernel, by decide +kernel, by decide +kernel⟩, by decide, by decide +kernel⟩
abbrev y_Mo_rule : mj_Y := ("ChartForestModel", ⟨"ChartForestModel", "rule", "(III)I"⟩, prog_9_method_16_code, 6, some .int)
theorem k_Mo_rule : mj_dec y_Mo_rule.2.2.1 [(0, .aload_n 0, 1), (1, .iconst 0, 1), (2, .putfield 53, 3), (5, .iload_n 1, 1), (6, .invokestatic 69, 3), (9, .ifCond .eq 20, 3), (12, .iload_n 2, 1), (13, .ifCond .lt 16, 3), (16, .iload_n 2, 1), (17, .iconst 3, 1), (18, .if_icmp .gt 11, 3), (21, .iload_n 3, 1), (22, .iconst 4, 1), (23, .iload_n 2, 1), (24, .imul, 1), (25, .iushr, 1), (26, .ifCond .eq 9, 3), (29, .aload_n 0, 1), (30, .iconst 1, 1), (31, .invokevirtual 91, 3), (34, .ireturn, 1), (35, .iconst 0, 1), (36, .istore 4, 2), (38, .iload 4, 2), (40, .iload_n 2, 1), (41, .if_icmp .ge 42, 3), (44, .iload_n 3, 1), (45, .iconst 4, 1), (46, .iload 4, 2), (48, .imul, 1), (49, .ishr, 1), (50, .bipush 15, 2), (52, .iand, 1), (53, .istore 5, 2), (55, .iload 5, 2), (57, .invokestatic 69, 3), (60, .ifCond .ne 17, 3), (63, .iload 5, 2), (65, .invokestatic 94, 3), (68, .ifCond .ne 9, 3), (71, .aload_n 0, 1), (72, .iconst 1, 1), (73, .invokevirtual 91, 3), (76, .ireturn, 1), (77, .iinc 4 1, 3), (80, .goto (-42), 3), (83, .aload_n 0, 1), (84, .getfield 73, 3), (87, .bipush 10, 2), (89, .if_icmp .eq 10, 3), (92, .aload_n 0, 1), (93, .getfield 97, 3), (96, .ifCond .le 9, 3), (99, .aload_n 0, 1), (100, .iconst 2, 1), (101, .invokevirtual 91, 3), (104, .ireturn, 1), (105, .aload_n 0, 1), (106, .getfield 7, 3), (109, .aload_n 0, 1), (110, .getfield 73, 3), (113, .iload_n 1, 1), (114, .iastore, 1), (115, .aload_n 0, 1), (116, .getfield 13, 3), (119, .aload_n 0, 1), (120, .getfield 73, 3), (123, .iload_n 2, 1), (124, .iastore, 1), (125, .iconst 0, 1), (126, .istore 4, 2), (128, .iload 4, 2), (130, .iload_n 2, 1), (131, .if_icmp .ge 32, 3), (134, .aload_n 0, 1), (135, .getfield 16, 3), (138, .iconst 3, 1), (139, .aload_n 0, 1), (140, .getfield 73, 3), (143, .imul, 1), (144, .iload 4, 2), (146, .iadd, 1), (147, .iload_n 3, 1), (148, .iconst 4, 1), (149, .iload 4, 2), (151, .imul, 1), (152, .ishr, 1), (153, .bipush 15, 2), (155, .iand, 1), (156, .iastore, 1), (157, .iinc 4 1, 3), (160, .goto (-32), 3), (163, .aload_n 0, 1), (164, .dup, 1), (165, .getfield 73, 3), (168, .iconst 1, 1), (169, .iadd, 1), (170, .putfield 73, 3), (173, .aload_n 0, 1), (174, .iconst 0, 1), (175, .invokevirtual 49, 3), (178, .aload_n 0, 1), (179, .getfield 73, 3), (182, .iconst 1, 1), (183, .isub, 1), (184, .ireturn, 1)] = true := by decide +kernel
theorem h_Mo_rule : mj_yk y_Mo_rule 3 := ⟨mw_773, mw_60, ⟨rfl, by decide +kernel, by decide +kernel, by decide +kernel⟩, by decide, by decide +kernel⟩
abbrev y_Mo_refuse : mj_Y := ("ChartForestModel", ⟨"ChartForestModel", "refuse", "(I)I"⟩, prog_9_method_3_code, 2, some .int)
theorem k_Mo_refuse : mj_dec y_Mo_refuse.2.2.1 [(0, .aload_n 0, 1), (1, .iload_n 1, 1), (2, .putfield 53, 3), (5, .iconst 0, 1), (6, .ireturn, 1)] = true := by decide +kernel
theorem h_Mo_refuse : mj_yk y_Mo_refuse 1 := ⟨mw_777, mw_60, ⟨rfl, by decide +kernel, by decide +kernel, by decide +kernel⟩, by decide, by decide +kernel⟩
abbrev y_Mo_isTerminal : mj_Y := ("ChartForestModel", ⟨"ChartForestModel", "isTerminal", "(I)Z"⟩, prog_9_method_5_code, 1, some .boolean)
theorem k_Mo_isTerminal : mj_dec y_Mo_isTerminal.2.2.1 [(0, .iload_n 0, 1), (1, .bipush 8, 2), (3, .if_icmp .lt 13, 3), (6, .iload_n 0, 1), (7, .bipush 11, 2), (9, .if_icmp .gt 7, 3), (12, .iconst 1, 1), (13, .goto 4, 3), (16, .iconst 0, 1), (17, .ireturn, 1)] = true := by decide +kernel
theorem h_Mo_isTerminal : mj_yk y_Mo_isTerminal 1 := ⟨mw_780, mw_60, ⟨rfl, by decide +kernel, by decide +kernel, by decide +kernel⟩, by decide, by decide +kernel⟩
abbrev y_Mo_feed : mj_Y := ("ChartForestModel", ⟨"ChartForestModel", "feed", "(I)I"⟩, prog_9_method_18_code, 2, some .int)
theorem k_Mo_feed : mj_dec y_Mo_feed.2.2.1 [(0, .aload_n 0, 1), (1, .iconst 0, 1), (2, .putfield 53, 3), (5, .iload_n 1, 1), (6, .invokestatic 94, 3), (9, .ifCond .ne 9, 3), (12, .aload_n 0, 1), (13, .iconst 1, 1), (14, .invokevirtual 91, 3), (17, .ireturn, 1), (18, .aload_n 0, 1), (19, .getfield 97, 3), (22, .bipush 12, 2), (24, .if_icmp .ne 9, 3), (27, .aload_n 0, 1), (28, .iconst 2, 1), (29, .invokevirtual 91, 3), (32, .ireturn, 1), (33, .aload_n 0, 1), (34, .aload_n 0, 1), (35, .getfield 97, 3), (38, .invokevirtual 100, 3), (41, .iload_n 1, 1), (42, .bipush 8, 2), (44, .isub, 1), (45, .ishr, 1), (46, .iconst 1, 1), (47, .iand, 1), (48, .ifCond .ne 9, 3), (51, .aload_n 0, 1), (52, .iconst 3, 1), (53, .invokevirtual 91, 3), (56, .ireturn, 1), (57, .aload_n 0, 1), (58, .getfield 19, 3), (61, .aload_n 0, 1), (62, .getfield 97, 3), (65, .iload_n 1, 1), (66, .iastore, 1), (67, .aload_n 0, 1), (68, .dup, 1), (69, .getfield 97, 3), (72, .iconst 1, 1), (73, .iadd, 1), (74, .putfield 97, 3), (77, .aload_n 0, 1), (78, .aload_n 0, 1), (79, .getfield 97, 3), (82, .invokevirtual 49, 3), (85, .aload_n 0, 1), (86, .aload_n 0, 1), (87, .getfield 97, 3), (90, .invokevirtual 103, 3), (93, .ireturn, 1)] = true := by decide +kernel
theorem h_Mo_feed : mj_yk y_Mo_feed 1 := ⟨mw_784, mw_60, ⟨rfl, by decide +kernel, by decide +kernel, by decide +kernel⟩, by decide, by decide +kernel⟩
abbrev y_Mo_expectedIn : mj_Y := ("ChartForestModel", ⟨"ChartForestModel", "expectedIn", "(I)I"⟩, prog_9_method_17_code, 5, some .int)
theorem k_Mo_expectedIn : mj_dec y_Mo_expectedIn.2.2.1 [(0, .iconst 0, 1), (1, .istore_n 2, 1), (2, .iconst 0, 1), (3, .istore_n 3, 1), (4, .iload_n 3, 1), (5, .sipush 572, 3), (8, .if_icmp .ge 68, 3), (11, .aload_n 0, 1), (12, .getfield 22, 3), (15, .sipush 572, 3), (18, .iload_n 1, 1), (19, .imul, 1), (20, .iload_n 3, 1), (21, .iadd, 1), (22, .baload, 1), (23, .ifCond .eq 23, 3), (26, .aload_n 0, 1), (27, .iload_n 3, 1), (28, .bipush 52, 2), (30, .idiv, 1), (31, .iconst 1, 1), (32, .isub, 1), (33, .iload_n 3, 1), (34, .bipush 52, 2), (36, .irem, 1), (37, .bipush 13, 2), (39, .idiv, 1), (40, .invokevirtual 65, 3), (43, .goto 4, 3), (46, .iconst (-1), 1), (47, .istore 4, 2), (49, .iload_n 2, 1), (50, .iload 4, 2), (52, .bipush 8, 2), (54, .if_icmp .lt 13, 3), (57, .iconst 1, 1), (58, .iload 4, 2), (60, .bipush 8, 2), (62, .isub, 1), (63, .ishl, 1), (64, .goto 4, 3), (67, .iconst 0, 1), (68, .ior, 1), (69, .istore_n 2, 1), (70, .iinc 3 1, 3), (73, .goto (-69), 3), (76, .iload_n 2, 1), (77, .ireturn, 1)] = true := by decide +kernel
theorem h_Mo_expectedIn : mj_yk y_Mo_expectedIn 1 := ⟨mw_788, mw_60, ⟨rfl, by decide +kernel, by decide +kernel, by decide +kernel⟩, by decide, by decide +kernel⟩
abbrev y_Mo_sizeOf : mj_Y := ("ChartForestModel", ⟨"ChartForestModel", "sizeOf", "(I)I"⟩, prog_9_method_15_code, 4, some .int)
theorem k_Mo_sizeOf : mj_dec y_Mo_sizeOf.2.2.1 [(0, .iconst 0, 1), (1, .istore_n 2, 1), (2, .iconst 0, 1), (3, .istore_n 3, 1), (4, .iload_n 3, 1), (5, .sipush 572, 3), (8, .if_icmp .ge 32, 3), (11, .iload_n 2, 1), (12, .aload_n 0, 1), (13, .getfield 22, 3), (16, .sipush 572, 3), (19, .iload_n 1, 1), (20, .imul, 1), (21, .iload_n 3, 1), (22, .iadd, 1), (23, .baload, 1), (24, .ifCond .eq 7, 3), (27, .iconst 1, 1), (28, .goto 4, 3), (31, .iconst 0, 1), (32, .iadd, 1), (33, .istore_n 2, 1), (34, .iinc 3 1, 3), (37, .goto (-33), 3), (40, .iload_n 2, 1), (41, .ireturn, 1)] = true := by decide +kernel
theorem h_Mo_sizeOf : mj_yk y_Mo_sizeOf 1 := ⟨mw_792, mw_60, ⟨rfl, by decide +kernel, by decide +kernel, by decide +kernel⟩, by decide, by decide +kernel⟩
abbrev y_Mo_back : mj_Y := ("ChartForestModel", ⟨"ChartForestModel", "back", "(I)I"⟩, prog_9_method_19_code, 2, some .int)
theorem k_Mo_back : mj_dec y_Mo_back.2.2.1 [(0, .aload_n 0, 1), (1, .iconst 0, 1), (2, .putfield 53, 3), (5, .iload_n 1, 1), (6, .ifCond .lt 11, 3), (9, .iload_n 1, 1), (10, .aload_n 0, 1), (11, .getfield 97, 3), (14, .if_icmp .le 9, 3), (17, .aload_n 0, 1), (18, .iconst 1, 1), (19, .invokevirtual 91, 3), (22, .ireturn, 1), (23, .aload_n 0, 1), (24, .dup, 1), (25, .getfield 97, 3), (28, .iload_n 1, 1), (29, .isub, 1), (30, .putfield 97, 3), (33, .aload_n 0, 1), (34, .iconst 0, 1), (35, .putfield 85, 3), (38, .aload_n 0, 1), (39, .getfield 97, 3), (42, .ireturn, 1)] = true := by decide +kernel
theorem h_Mo_back : mj_yk y_Mo_back 1 := ⟨mw_796, mw_60, ⟨rfl, by decide +kernel, by decide +kernel, by decide +kernel⟩, by decide, by decide +kernel⟩
abbrev y_Mo_fed : mj_Y := ("ChartForestModel", ⟨"ChartForestModel", "fed", "()I"⟩, prog_9_method_20_code, 1, some .int)
theorem k_Mo_fed : mj_dec y_Mo_fed.2.2.1 [(0, .aload_n 0, 1), (1, .iconst 0, 1), (2, .putfield 53, 3), (5, .aload_n 0, 1), (6, .getfield 97, 3), (9, .ireturn, 1)] = true := by decide +kernel
theorem h_Mo_fed : mj_yk y_Mo_fed 0 := ⟨mw_800, mw_60, ⟨rfl, by decide +kernel, by decide +kernel, by decide +kernel⟩, by decide, by decide +kernel⟩
abbrev y_Mo_accepts : mj_Y := ("ChartForestModel", ⟨"ChartForestModel", "accepts", "()Z"⟩, prog_9_method_21_code, 1, some .boolean)
theorem k_Mo_accepts : mj_dec y_Mo_accepts.2.2.1 [(0, .aload_n 0, 1), (1, .iconst 0, 1), (2, .putfield 53, 3), (5, .aload_n 0, 1), (6, .aload_n 0, 1), (7, .getfield 97, 3), (10, .iconst (-1), 1), (11, .iconst 1, 1), (12, .iconst 0, 1), (13, .invokevirtual 106, 3), (16, .ireturn, 1)] = true := by decide +kernel
theorem h_Mo_accepts : mj_yk y_Mo_accepts 0 := ⟨mw_804, mw_60, ⟨rfl, by decide +kernel, by decide +kernel, by decide +kernel⟩, by decide, by decide +kernel⟩
abbrev y_Mo_holds : mj_Y := ("ChartForestModel", ⟨"ChartForestModel", "holds", "(IIII)Z"⟩, prog_9_method_9_code, 5, some .boolean)
theorem k_Mo_holds : mj_dec y_Mo_holds.2.2.1 [(0, .aload_n 0, 1), (1, .getfield 22, 3), (4, .iload_n 1, 1), (5, .iload_n 2, 1), (6, .iload_n 3, 1), (7, .iload 4, 2), (9, .invokestatic 61, 3), (12, .baload, 1), (13, .ireturn, 1)] = true := by decide +kernel
theorem h_Mo_holds : mj_yk y_Mo_holds 4 := ⟨mw_808, mw_60, ⟨rfl, by decide +kernel, by decide +kernel, by decide +kernel⟩, by decide, by decide +kernel⟩
abbrev y_Mo_expected : mj_Y := ("ChartForestModel", ⟨"ChartForestModel", "expected", "()I"⟩, prog_9_method_22_code, 1, some .int)
theorem k_Mo_expected : mj_dec y_Mo_expected.2.2.1 [(0, .aload_n 0, 1), (1, .iconst 0, 1), (2, .putfield 53, 3), (5, .aload_n 0, 1), (6, .aload_n 0, 1), (7, .getfield 97, 3), (10, .invokevirtual 100, 3), (13, .ireturn, 1)] = true := by decide +kernel
theorem h_Mo_expected : mj_yk y_Mo_expected 0 := ⟨mw_812, mw_60, ⟨rfl, by decide +kernel, by decide +kernel, by decide +kernel⟩, by decide, by decide +kernel⟩
abbrev y_Mo_items : mj_Y := ("ChartForestModel", ⟨"ChartForestModel", "items", "(I)I"⟩, prog_9_method_24_code, 2, some .int)
theorem k_Mo_items : mj_dec y_Mo_items.2.2.1 [(0, .aload_n 0, 1), (1, .iconst 0, 1), (2, .putfield 53, 3), (5, .aload_n 0, 1), (6, .iload_n 1, 1), (7, .invokevirtual 110, 3), (10, .ifCond .eq 11, 3), (13, .aload_n 0, 1), (14, .iload_n 1, 1), (15, .invokevirtual 103, 3), (18, .goto 8, 3), (21, .aload_n 0, 1), (22, .iconst 1, 1), (23, .invokevirtual 91, 3), (26, .ireturn, 1)] = true := by decide +kernel
theorem h_Mo_items : mj_yk y_Mo_items 1 := ⟨mw_816, mw_60, ⟨rfl, by decide +kernel, by decide +kernel, by decide +kernel⟩, by decide, by decide +kernel⟩
abbrev y_Mo_isSet : mj_Y := ("ChartForestModel", ⟨"ChartForestModel", "isSet", "(I)Z"⟩, prog_9_method_23_code, 2, some .boolean)
theorem k_Mo_isSet : mj_dec y_Mo_isSet.2.2.1 [(0, .iload_n 1, 1), (1, .ifCond .lt 15, 3), (4, .iload_n 1, 1), (5, .aload_n 0, 1), (6, .getfield 97, 3), (9, .if_icmp .gt 7, 3), (12, .iconst 1, 1), (13, .goto 4, 3), (16, .iconst 0, 1), (17, .ireturn, 1)] = true := by decide +kernel
theorem h_Mo_isSet : mj_yk y_Mo_isSet 1 := ⟨mw_820, mw_60, ⟨rfl, by decide +kernel, by decide +kernel, by decide +kernel⟩, by decide, by decide +kernel⟩
abbrev y_Mo_has : mj_Y := ("ChartForestModel", ⟨"ChartForestModel", "has", "(IIII)Z"⟩, prog_9_method_25_code, 5, some .boolean)
theorem k_Mo_has : mj_dec y_Mo_has.2.2.1 [(0, .aload_n 0, 1), (1, .aload_n 0, 1), (2, .iload_n 1, 1), (3, .invokevirtual 110, 3), (6, .ifCond .eq 7, 3), (9, .iconst 0, 1), (10, .goto 4, 3), (13, .iconst 1, 1), (14, .putfield 53, 3), (17, .aload_n 0, 1), (18, .getfield 53, 3), (21, .ifCond .ne 38, 3), (24, .iload_n 2, 1), (25, .iconst (-1), 1), (26, .if_icmp .lt 33, 3), (29, .iload_n 2, 1), (30, .aload_n 0, 1), (31, .getfield 73, 3), (34, .if_icmp .ge 25, 3), (37, .iload_n 3, 1), (38, .ifCond .lt 21, 3), (41, .iload_n 3, 1), (42, .aload_n 0, 1), (43, .iload_n 2, 1), (44, .invokevirtual 57, 3), (47, .if_icmp .gt 12, 3), (50, .aload_n 0, 1), (51, .iload 4, 2), (53, .invokevirtual 110, 3), (56, .ifCond .ne 5, 3), (59, .iconst 0, 1), (60, .ireturn, 1), (61, .aload_n 0, 1), (62, .iload_n 1, 1), (63, .iload_n 2, 1), (64, .iload_n 3, 1), (65, .iload 4, 2), (67, .invokevirtual 106, 3), (70, .ireturn, 1)] = true := by decide +kernel
theorem h_Mo_has : mj_yk y_Mo_has 4 := ⟨mw_824, mw_60, ⟨rfl, by decide +kernel, by decide +kernel, by decide +kernel⟩, by decide, by decide +kernel⟩
abbrev y_Mo_leap : mj_Y := ("ChartForestModel", ⟨"ChartForestModel", "leap", "(II)I"⟩, prog_9_method_26_code, 4, some .int)
theorem k_Mo_leap : mj_dec y_Mo_leap.2.2.1 [(0, .aload_n 0, 1), (1, .iconst 0, 1), (2, .putfield 53, 3), (5, .aload_n 0, 1), (6, .iload_n 1, 1), (7, .invokevirtual 110, 3), (10, .ifCond .eq 10, 3), (13, .iload_n 2, 1), (14, .invokestatic 69, 3), (17, .ifCond .ne 9, 3), (20, .aload_n 0, 1), (21, .iconst 1, 1), (22, .invokevirtual 91, 3), (25, .ireturn, 1), (26, .aload_n 0, 1), (27, .getfield 45, 3), (30, .ifCond .eq 20, 3), (33, .iload_n 1, 1), (34, .aload_n 0, 1), (35, .getfield 97, 3), (38, .if_icmp .ge 12, 3), (41, .aload_n 0, 1), (42, .iload_n 1, 1), (43, .iload_n 2, 1), (44, .invokevirtual 79, 3), (47, .goto 4, 3), (50, .iconst (-1), 1), (51, .istore_n 3, 1), (52, .iload_n 3, 1), (53, .ifCond .ge 7, 3), (56, .iconst (-1), 1), (57, .goto 27, 3), (60, .sipush 1000, 3), (63, .iload_n 3, 1), (64, .bipush 52, 2), (66, .idiv, 1), (67, .imul, 1), (68, .bipush 100, 2), (70, .iload_n 3, 1), (71, .bipush 52, 2), (73, .irem, 1), (74, .bipush 13, 2), (76, .idiv, 1), (77, .imul, 1), (78, .iadd, 1), (79, .iload_n 3, 1), (80, .bipush 13, 2), (82, .irem, 1), (83, .iadd, 1), (84, .ireturn, 1)] = true := by decide +kernel
theorem h_Mo_leap : mj_yk y_Mo_leap 2 := ⟨mw_828, mw_60, ⟨rfl, by decide +kernel, by decide +kernel, by decide +kernel⟩, by decide, by decide +kernel⟩
abbrev y_Mo_ways : mj_Y := ("ChartForestModel", ⟨"ChartForestModel", "ways", "(III)I"⟩, prog_9_method_40_code, 6, some .int)
theorem k_Mo_ways : mj_dec y_Mo_ways.2.2.1 [(0, .aload_n 0, 1), (1, .iconst 0, 1), (2, .putfield 53, 3), (5, .aload_n 0, 1), (6, .iload_n 1, 1), (7, .iload_n 2, 1), (8, .iload_n 3, 1), (9, .invokevirtual 161, 3), (12, .ifCond .ne 9, 3), (15, .aload_n 0, 1), (16, .iconst 1, 1), (17, .invokevirtual 91, 3), (20, .ireturn, 1), (21, .aload_n 0, 1), (22, .invokevirtual 164, 3), (25, .iconst 0, 1), (26, .istore 4, 2), (28, .iconst 0, 1), (29, .istore 5, 2), (31, .iload 5, 2), (33, .aload_n 0, 1), (34, .getfield 73, 3), (37, .if_icmp .ge 37, 3), (40, .iload 4, 2), (42, .aload_n 0, 1), (43, .getfield 7, 3), (46, .iload 5, 2), (48, .iaload, 1), (49, .iload_n 1, 1), (50, .if_icmp .ne 14, 3), (53, .aload_n 0, 1), (54, .iload 5, 2), (56, .iload_n 2, 1), (57, .iload_n 3, 1), (58, .invokevirtual 140, 3), (61, .goto 4, 3), (64, .iconst 0, 1), (65, .iadd, 1), (66, .istore 4, 2), (68, .iinc 5 1, 3), (71, .goto (-40), 3), (74, .iload 4, 2), (76, .ireturn, 1)] = true := by decide +kernel
theorem h_Mo_ways : mj_yk y_Mo_ways 3 := ⟨mw_832, mw_60, ⟨rfl, by decide +kernel, by decide +kernel, by decide +kernel⟩, by decide, by decide +kernel⟩
abbrev y_Mo_isStretch : mj_Y := ("ChartForestModel", ⟨"ChartForestModel", "isStretch", "(III)Z"⟩, prog_9_method_39_code, 4, some .boolean)
theorem k_Mo_isStretch : mj_dec y_Mo_isStretch.2.2.1 [(0, .iload_n 1, 1), (1, .invokestatic 69, 3), (4, .ifCond .eq 24, 3), (7, .iload_n 2, 1), (8, .ifCond .lt 20, 3), (11, .iload_n 2, 1), (12, .iload_n 3, 1), (13, .if_icmp .gt 15, 3), (16, .iload_n 3, 1), (17, .aload_n 0, 1), (18, .getfield 97, 3), (21, .if_icmp .gt 7, 3), (24, .iconst 1, 1), (25, .goto 4, 3), (28, .iconst 0, 1), (29, .ireturn, 1)] = true := by decide +kernel
theorem h_Mo_isStretch : mj_yk y_Mo_isStretch 3 := ⟨mw_836, mw_60, ⟨rfl, by decide +kernel, by decide +kernel, by decide +kernel⟩, by decide, by decide +kernel⟩
abbrev y_Mo_work : mj_Y := ("ChartForestModel", ⟨"ChartForestModel", "work", "()V"⟩, prog_9_method_38_code, 8, none)
theorem k_Mo_work : mj_dec y_Mo_work.2.2.1 [(0, .aload_n 0, 1), (1, .getfield 85, 3), (4, .ifCond .eq 4, 3), (7, .return_, 1), (8, .aload_n 0, 1), (9, .iconst 1, 1), (10, .putfield 85, 3), (13, .aload_n 0, 1), (14, .invokevirtual 155, 3), (17, .iconst 0, 1), (18, .istore_n 1, 1), (19, .iload_n 1, 1), (20, .sipush 845, 3), (23, .if_icmp .ge 16, 3), (26, .aload_n 0, 1), (27, .getfield 29, 3), (30, .iload_n 1, 1), (31, .iconst 0, 1), (32, .bastore, 1), (33, .iinc 1 1, 3), (36, .goto (-17), 3), (39, .iconst 1, 1), (40, .istore_n 1, 1), (41, .iload_n 1, 1), (42, .ifCond .eq 116, 3), (45, .iconst 0, 1), (46, .istore_n 1, 1), (47, .iconst 0, 1), (48, .istore_n 2, 1), (49, .iload_n 2, 1), (50, .iconst 5, 1), (51, .if_icmp .ge 104, 3), (54, .iconst 0, 1), (55, .istore_n 3, 1), (56, .iload_n 3, 1), (57, .aload_n 0, 1), (58, .getfield 97, 3), (61, .if_icmp .gt 88, 3), (64, .iload_n 3, 1), (65, .istore 4, 2), (67, .iload 4, 2), (69, .aload_n 0, 1), (70, .getfield 97, 3), (73, .if_icmp .gt 70, 3), (76, .iload_n 2, 1), (77, .iload_n 3, 1), (78, .iload 4, 2), (80, .invokestatic 113, 3), (83, .istore 5, 2), (85, .aload_n 0, 1), (86, .getfield 29, 3), (89, .iload 5, 2), (91, .baload, 1), (92, .ifCond .eq 9, 3), (95, .ldc2_w 145, 3), (98, .goto 11, 3), (101, .aload_n 0, 1), (102, .iload_n 2, 1), (103, .iload_n 3, 1), (104, .iload 4, 2), (106, .invokevirtual 158, 3), (109, .lstore 6, 2), (111, .lload 6, 2), (113, .lconst 0, 1), (114, .lcmp, 1), (115, .ifCond .lt 22, 3), (118, .aload_n 0, 1), (119, .getfield 29, 3), (122, .iload 5, 2), (124, .iconst 1, 1), (125, .bastore, 1), (126, .aload_n 0, 1), (127, .getfield 32, 3), (130, .iload 5, 2), (132, .lload 6, 2), (134, .lastore, 1), (135, .iconst 1, 1), (136, .istore_n 1, 1), (137, .iinc 4 1, 3), (140, .goto (-73), 3), (143, .iinc 3 1, 3), (146, .goto (-90), 3), (149, .iinc 2 1, 3), (152, .goto (-103), 3), (155, .goto (-114), 3), (158, .return_, 1)] = true := by decide +kernel
theorem h_Mo_work : mj_yk y_Mo_work 0 := ⟨mw_840, mw_60, ⟨rfl, by decide +kernel, by decide +kernel, by decide +kernel⟩, by decide, by decide +kernel⟩
abbrev y_Mo_findDerived : mj_Y := ("ChartForestModel", ⟨"ChartForestModel", "findDerived", "()V"⟩, prog_9_method_34_code, 6, none)
theorem k_Mo_findDerived : mj_dec y_Mo_findDerived.2.2.1 [(0, .iconst 0, 1), (1, .istore_n 1, 1), (2, .iload_n 1, 1), (3, .sipush 845, 3), (6, .if_icmp .ge 16, 3), (9, .aload_n 0, 1), (10, .getfield 26, 3), (13, .iload_n 1, 1), (14, .iconst 0, 1), (15, .bastore, 1), (16, .iinc 1 1, 3), (19, .goto (-17), 3), (22, .iconst 1, 1), (23, .istore_n 1, 1), (24, .iload_n 1, 1), (25, .ifCond .eq 103, 3), (28, .iconst 0, 1), (29, .istore_n 1, 1), (30, .iconst 0, 1), (31, .istore_n 2, 1), (32, .iload_n 2, 1), (33, .aload_n 0, 1), (34, .getfield 73, 3), (37, .if_icmp .ge 88, 3), (40, .iconst 0, 1), (41, .istore_n 3, 1), (42, .iload_n 3, 1), (43, .aload_n 0, 1), (44, .getfield 97, 3), (47, .if_icmp .gt 72, 3), (50, .iload_n 3, 1), (51, .istore 4, 2), (53, .iload 4, 2), (55, .aload_n 0, 1), (56, .getfield 97, 3), (59, .if_icmp .gt 54, 3), (62, .aload_n 0, 1), (63, .getfield 7, 3), (66, .iload_n 2, 1), (67, .iaload, 1), (68, .iload_n 3, 1), (69, .iload 4, 2), (71, .invokestatic 113, 3), (74, .istore 5, 2), (76, .aload_n 0, 1), (77, .getfield 26, 3), (80, .iload 5, 2), (82, .baload, 1), (83, .ifCond .ne 24, 3), (86, .aload_n 0, 1), (87, .iload_n 2, 1), (88, .iload_n 3, 1), (89, .iload 4, 2), (91, .invokevirtual 140, 3), (94, .ifCond .le 13, 3), (97, .aload_n 0, 1), (98, .getfield 26, 3), (101, .iload 5, 2), (103, .iconst 1, 1), (104, .bastore, 1), (105, .iconst 1, 1), (106, .istore_n 1, 1), (107, .iinc 4 1, 3), (110, .goto (-57), 3), (113, .iinc 3 1, 3), (116, .goto (-74), 3), (119, .iinc 2 1, 3), (122, .goto (-90), 3), (125, .goto (-101), 3), (128, .return_, 1)] = true := by decide +kernel
theorem h_Mo_findDerived : mj_yk y_Mo_findDerived 0 := ⟨mw_844, mw_60, ⟨rfl, by decide +kernel, by decide +kernel, by decide +kernel⟩, by decide, by decide +kernel⟩
abbrev y_Mo_node : mj_Y := ("ChartForestModel", ⟨"ChartForestModel", "node", "(III)I"⟩, prog_9_method_27_code, 3, some .int)
theorem k_Mo_node : mj_dec y_Mo_node.2.2.1 [(0, .sipush 169, 3), (3, .iload_n 0, 1), (4, .imul, 1), (5, .bipush 13, 2), (7, .iload_n 1, 1), (8, .imul, 1), (9, .iadd, 1), (10, .iload_n 2, 1), (11, .iadd, 1), (12, .ireturn, 1)] = true := by decide +kernel
theorem h_Mo_node : mj_yk y_Mo_node 3 := ⟨mw_847, mw_60, ⟨rfl, by decide +kernel, by decide +kernel, by decide +kernel⟩, by decide, by decide +kernel⟩
abbrev y_Mo_waysBy : mj_Y := ("ChartForestModel", ⟨"ChartForestModel", "waysBy", "(III)I"⟩, prog_9_method_33_code, 6, some .int)
theorem k_Mo_waysBy : mj_dec y_Mo_waysBy.2.2.1 [(0, .iconst 0, 1), (1, .istore 4, 2), (3, .iconst 1, 1), (4, .istore 5, 2), (6, .aload_n 0, 1), (7, .iload_n 2, 1), (8, .invokevirtual 130, 3), (11, .iload 5, 2), (13, .ifCond .eq 34, 3), (16, .iload 4, 2), (18, .aload_n 0, 1), (19, .iload_n 1, 1), (20, .iload_n 2, 1), (21, .iload_n 3, 1), (22, .invokevirtual 133, 3), (25, .ifCond .eq 7, 3), (28, .iconst 1, 1), (29, .goto 4, 3), (32, .iconst 0, 1), (33, .iadd, 1), (34, .istore 4, 2), (36, .aload_n 0, 1), (37, .iload_n 1, 1), (38, .iload_n 3, 1), (39, .invokevirtual 136, 3), (42, .istore 5, 2), (44, .goto (-33), 3), (47, .iload 4, 2), (49, .ireturn, 1)] = true := by decide +kernel
theorem h_Mo_waysBy : mj_yk y_Mo_waysBy 3 := ⟨mw_851, mw_60, ⟨rfl, by decide +kernel, by decide +kernel, by decide +kernel⟩, by decide, by decide +kernel⟩
abbrev y_Mo_firstCuts : mj_Y := ("ChartForestModel", ⟨"ChartForestModel", "firstCuts", "(I)V"⟩, prog_9_method_31_code, 2, none)
theorem k_Mo_firstCuts : mj_dec y_Mo_firstCuts.2.2.1 [(0, .aload_n 0, 1), (1, .iload_n 1, 1), (2, .putfield 117, 3), (5, .aload_n 0, 1), (6, .iload_n 1, 1), (7, .putfield 120, 3), (10, .return_, 1)] = true := by decide +kernel
theorem h_Mo_firstCuts : mj_yk y_Mo_firstCuts 1 := ⟨mw_855, mw_60, ⟨rfl, by decide +kernel, by decide +kernel, by decide +kernel⟩, by decide, by decide +kernel⟩
abbrev y_Mo_isWay : mj_Y := ("ChartForestModel", ⟨"ChartForestModel", "isWay", "(III)Z"⟩, prog_9_method_30_code, 8, some .boolean)
theorem k_Mo_isWay : mj_dec y_Mo_isWay.2.2.1 [(0, .aload_n 0, 1), (1, .getfield 13, 3), (4, .iload_n 1, 1), (5, .iaload, 1), (6, .ifCond .ne 14, 3), (9, .iload_n 2, 1), (10, .iload_n 3, 1), (11, .if_icmp .ne 7, 3), (14, .iconst 1, 1), (15, .goto 4, 3), (18, .iconst 0, 1), (19, .ireturn, 1), (20, .iconst 1, 1), (21, .istore 4, 2), (23, .iconst 0, 1), (24, .istore 5, 2), (26, .iload 5, 2), (28, .aload_n 0, 1), (29, .getfield 13, 3), (32, .iload_n 1, 1), (33, .iaload, 1), (34, .if_icmp .ge 74, 3), (37, .aload_n 0, 1), (38, .iload_n 1, 1), (39, .iload 5, 2), (41, .iload_n 2, 1), (42, .iload_n 3, 1), (43, .invokevirtual 123, 3), (46, .istore 6, 2), (48, .aload_n 0, 1), (49, .iload_n 1, 1), (50, .iload 5, 2), (52, .iconst 1, 1), (53, .iadd, 1), (54, .iload_n 2, 1), (55, .iload_n 3, 1), (56, .invokevirtual 123, 3), (59, .istore 7, 2), (61, .iload 4, 2), (63, .ifCond .eq 36, 3), (66, .iload 6, 2), (68, .iload 7, 2), (70, .if_icmp .gt 29, 3), (73, .aload_n 0, 1), (74, .aload_n 0, 1), (75, .getfield 16, 3), (78, .iconst 3, 1), (79, .iload_n 1, 1), (80, .imul, 1), (81, .iload 5, 2), (83, .iadd, 1), (84, .iaload, 1), (85, .iload 6, 2), (87, .iload 7, 2), (89, .invokevirtual 126, 3), (92, .ifCond .eq 7, 3), (95, .iconst 1, 1), (96, .goto 4, 3), (99, .iconst 0, 1), (100, .istore 4, 2), (102, .iinc 5 1, 3), (105, .goto (-79), 3), (108, .iload 4, 2), (110, .ireturn, 1)] = true := by decide +kernel
theorem h_Mo_isWay : mj_yk y_Mo_isWay 3 := ⟨mw_859, mw_60, ⟨rfl, by decide +kernel, by decide +kernel, by decide +kernel⟩, by decide, by decide +kernel⟩
abbrev y_Mo_cut : mj_Y := ("ChartForestModel", ⟨"ChartForestModel", "cut", "(IIII)I"⟩, prog_9_method_29_code, 5, some .int)
theorem k_Mo_cut : mj_dec y_Mo_cut.2.2.1 [(0, .iload_n 2, 1), (1, .ifCond .ne 7, 3), (4, .iload_n 3, 1), (5, .goto 34, 3), (8, .iload_n 2, 1), (9, .aload_n 0, 1), (10, .getfield 13, 3), (13, .iload_n 1, 1), (14, .iaload, 1), (15, .if_icmp .ne 8, 3), (18, .iload 4, 2), (20, .goto 19, 3), (23, .iload_n 2, 1), (24, .iconst 1, 1), (25, .if_icmp .ne 10, 3), (28, .aload_n 0, 1), (29, .getfield 117, 3), (32, .goto 7, 3), (35, .aload_n 0, 1), (36, .getfield 120, 3), (39, .ireturn, 1)] = true := by decide +kernel
theorem h_Mo_cut : mj_yk y_Mo_cut 4 := ⟨mw_863, mw_60, ⟨rfl, by decide +kernel, by decide +kernel, by decide +kernel⟩, by decide, by decide +kernel⟩
abbrev y_Mo_isDerived : mj_Y := ("ChartForestModel", ⟨"ChartForestModel", "isDerived", "(III)Z"⟩, prog_9_method_28_code, 4, some .boolean)
theorem k_Mo_isDerived : mj_dec y_Mo_isDerived.2.2.1 [(0, .iload_n 1, 1), (1, .bipush 8, 2), (3, .if_icmp .lt 28, 3), (6, .iload_n 3, 1), (7, .iload_n 2, 1), (8, .iconst 1, 1), (9, .iadd, 1), (10, .if_icmp .ne 17, 3), (13, .aload_n 0, 1), (14, .getfield 19, 3), (17, .iload_n 2, 1), (18, .iaload, 1), (19, .iload_n 1, 1), (20, .if_icmp .ne 7, 3), (23, .iconst 1, 1), (24, .goto 18, 3), (27, .iconst 0, 1), (28, .goto 14, 3), (31, .aload_n 0, 1), (32, .getfield 26, 3), (35, .iload_n 1, 1), (36, .iload_n 2, 1), (37, .iload_n 3, 1), (38, .invokestatic 113, 3), (41, .baload, 1), (42, .ireturn, 1)] = true := by decide +kernel
theorem h_Mo_isDerived : mj_yk y_Mo_isDerived 3 := ⟨mw_867, mw_60, ⟨rfl, by decide +kernel, by decide +kernel, by decide +kernel⟩, by decide, by decide +kernel⟩
abbrev y_Mo_nextCuts : mj_Y := ("ChartForestModel", ⟨"ChartForestModel", "nextCuts", "(II)Z"⟩, prog_9_method_32_code, 3, some .boolean)
theorem k_Mo_nextCuts : mj_dec y_Mo_nextCuts.2.2.1 [(0, .aload_n 0, 1), (1, .getfield 13, 3), (4, .iload_n 1, 1), (5, .iaload, 1), (6, .iconst 3, 1), (7, .if_icmp .ne 23, 3), (10, .aload_n 0, 1), (11, .getfield 120, 3), (14, .iload_n 2, 1), (15, .if_icmp .ge 15, 3), (18, .aload_n 0, 1), (19, .dup, 1), (20, .getfield 120, 3), (23, .iconst 1, 1), (24, .iadd, 1), (25, .putfield 120, 3), (28, .iconst 1, 1), (29, .ireturn, 1), (30, .aload_n 0, 1), (31, .getfield 13, 3), (34, .iload_n 1, 1), (35, .iaload, 1), (36, .iconst 2, 1), (37, .if_icmp .lt 11, 3), (40, .aload_n 0, 1), (41, .getfield 117, 3), (44, .iload_n 2, 1), (45, .if_icmp .ne 5, 3), (48, .iconst 0, 1), (49, .ireturn, 1), (50, .aload_n 0, 1), (51, .dup, 1), (52, .getfield 117, 3), (55, .iconst 1, 1), (56, .iadd, 1), (57, .putfield 117, 3), (60, .aload_n 0, 1), (61, .aload_n 0, 1), (62, .getfield 117, 3), (65, .putfield 120, 3), (68, .iconst 1, 1), (69, .ireturn, 1)] = true := by decide +kernel
theorem h_Mo_nextCuts : mj_yk y_Mo_nextCuts 2 := ⟨mw_871, mw_60, ⟨rfl, by decide +kernel, by decide +kernel, by decide +kernel⟩, by decide, by decide +kernel⟩
abbrev y_Mo_sum : mj_Y := ("ChartForestModel", ⟨"ChartForestModel", "sum", "(III)J"⟩, prog_9_method_37_code, 10, some .long)
theorem k_Mo_sum : mj_dec y_Mo_sum.2.2.1 [(0, .lconst 0, 1), (1, .lstore 4, 2), (3, .iconst 0, 1), (4, .istore 6, 2), (6, .iload 6, 2), (8, .aload_n 0, 1), (9, .getfield 73, 3), (12, .if_icmp .ge 106, 3), (15, .aload_n 0, 1), (16, .getfield 7, 3), (19, .iload 6, 2), (21, .iaload, 1), (22, .iload_n 1, 1), (23, .if_icmp .ne 7, 3), (26, .iconst 1, 1), (27, .goto 4, 3), (30, .iconst 0, 1), (31, .istore 7, 2), (33, .aload_n 0, 1), (34, .iload_n 2, 1), (35, .invokevirtual 130, 3), (38, .iload 7, 2), (40, .ifCond .eq 72, 3), (43, .aload_n 0, 1), (44, .iload 6, 2), (46, .iload_n 2, 1), (47, .iload_n 3, 1), (48, .invokevirtual 133, 3), (51, .ifCond .eq 49, 3), (54, .aload_n 0, 1), (55, .iload 6, 2), (57, .iload_n 2, 1), (58, .iload_n 3, 1), (59, .invokevirtual 151, 3), (62, .lstore 8, 2), (64, .lload 8, 2), (66, .lconst 0, 1), (67, .lcmp, 1), (68, .ifCond .ge 7, 3), (71, .ldc2_w 145, 3), (74, .lreturn, 1), (75, .lload 4, 2), (77, .lload 8, 2), (79, .ladd, 1), (80, .ldc2_w 143, 3), (83, .lcmp, 1), (84, .ifCond .le 9, 3), (87, .ldc2_w 143, 3), (90, .goto 8, 3), (93, .lload 4, 2), (95, .lload 8, 2), (97, .ladd, 1), (98, .lstore 4, 2), (100, .aload_n 0, 1), (101, .iload 6, 2), (103, .iload_n 3, 1), (104, .invokevirtual 136, 3), (107, .istore 7, 2), (109, .goto (-71), 3), (112, .iinc 6 1, 3), (115, .goto (-109), 3), (118, .lload 4, 2), (120, .lreturn, 1)] = true := by decide +kernel
theorem h_Mo_sum : mj_yk y_Mo_sum 3 := ⟨mw_876, mw_60, ⟨rfl, by decide +kernel, by decide +kernel, by decide +kernel⟩, by decide, by decide +kernel⟩
abbrev y_Mo_byWay : mj_Y := ("ChartForestModel", ⟨"ChartForestModel", "byWay", "(III)J"⟩, prog_9_method_36_code, 10, some .long)
theorem k_Mo_byWay : mj_dec y_Mo_byWay.2.2.1 [(0, .lconst 1, 1), (1, .lstore 4, 2), (3, .iconst 0, 1), (4, .istore 6, 2), (6, .iload 6, 2), (8, .aload_n 0, 1), (9, .getfield 13, 3), (12, .iload_n 1, 1), (13, .iaload, 1), (14, .if_icmp .ge 107, 3), (17, .aload_n 0, 1), (18, .getfield 16, 3), (21, .iconst 3, 1), (22, .iload_n 1, 1), (23, .imul, 1), (24, .iload 6, 2), (26, .iadd, 1), (27, .iaload, 1), (28, .istore 7, 2), (30, .aload_n 0, 1), (31, .iload_n 1, 1), (32, .iload 6, 2), (34, .iload_n 2, 1), (35, .iload_n 3, 1), (36, .invokevirtual 123, 3), (39, .istore 8, 2), (41, .aload_n 0, 1), (42, .iload_n 1, 1), (43, .iload 6, 2), (45, .iconst 1, 1), (46, .iadd, 1), (47, .iload_n 2, 1), (48, .iload_n 3, 1), (49, .invokevirtual 123, 3), (52, .istore 9, 2), (54, .iload 7, 2), (56, .bipush 8, 2), (58, .if_icmp .ge 24, 3), (61, .aload_n 0, 1), (62, .getfield 29, 3), (65, .iload 7, 2), (67, .iload 8, 2), (69, .iload 9, 2), (71, .invokestatic 113, 3), (74, .baload, 1), (75, .ifCond .ne 7, 3), (78, .ldc2_w 145, 3), (81, .lreturn, 1), (82, .iload 7, 2), (84, .bipush 8, 2), (86, .if_icmp .ge 25, 3), (89, .lload 4, 2), (91, .aload_n 0, 1), (92, .getfield 32, 3), (95, .iload 7, 2), (97, .iload 8, 2), (99, .iload 9, 2), (101, .invokestatic 113, 3), (104, .laload, 1), (105, .invokestatic 147, 3), (108, .goto 5, 3), (111, .lload 4, 2), (113, .lstore 4, 2), (115, .iinc 6 1, 3), (118, .goto (-112), 3), (121, .lload 4, 2), (123, .lreturn, 1)] = true := by decide +kernel
theorem h_Mo_byWay : mj_yk y_Mo_byWay 3 := ⟨mw_880, mw_60, ⟨rfl, by decide +kernel, by decide +kernel, by decide +kernel⟩, by decide, by decide +kernel⟩
abbrev y_Mo_times : mj_Y := ("ChartForestModel", ⟨"ChartForestModel", "times", "(JJ)J"⟩, prog_9_method_35_code, 4, some .long)
theorem k_Mo_times : mj_dec y_Mo_times.2.2.1 [(0, .lload_n 0, 1), (1, .lconst 0, 1), (2, .lcmp, 1), (3, .ifCond .eq 9, 3), (6, .lload_n 2, 1), (7, .lconst 0, 1), (8, .lcmp, 1), (9, .ifCond .ne 5, 3), (12, .lconst 0, 1), (13, .lreturn, 1), (14, .lload_n 2, 1), (15, .ldc2_w 143, 3), (18, .lload_n 0, 1), (19, .ladd, 1), (20, .lconst 1, 1), (21, .lsub, 1), (22, .lload_n 0, 1), (23, .ldiv, 1), (24, .lcmp, 1), (25, .ifCond .lt 9, 3), (28, .ldc2_w 143, 3), (31, .goto 6, 3), (34, .lload_n 0, 1), (35, .lload_n 2, 1), (36, .lmul, 1), (37, .lreturn, 1)] = true := by decide +kernel
theorem h_Mo_times : mj_yk y_Mo_times 2 := ⟨mw_883, mw_60, ⟨rfl, by decide +kernel, by decide +kernel, by decide +kernel⟩, by decide, by decide +kernel⟩
abbrev y_Mo_trees : mj_Y := ("ChartForestModel", ⟨"ChartForestModel", "trees", "(III)J"⟩, prog_9_method_42_code, 4, some .long)
theorem k_Mo_trees : mj_dec y_Mo_trees.2.2.1 [(0, .aload_n 0, 1), (1, .iconst 0, 1), (2, .putfield 53, 3), (5, .aload_n 0, 1), (6, .iload_n 1, 1), (7, .iload_n 2, 1), (8, .iload_n 3, 1), (9, .invokevirtual 161, 3), (12, .ifCond .ne 10, 3), (15, .aload_n 0, 1), (16, .iconst 1, 1), (17, .putfield 53, 3), (20, .lconst 0, 1), (21, .lreturn, 1), (22, .aload_n 0, 1), (23, .invokevirtual 164, 3), (26, .aload_n 0, 1), (27, .iload_n 1, 1), (28, .iload_n 2, 1), (29, .iload_n 3, 1), (30, .invokevirtual 167, 3), (33, .lreturn, 1)] = true := by decide +kernel
theorem h_Mo_trees : mj_yk y_Mo_trees 3 := ⟨mw_888, mw_60, ⟨rfl, by decide +kernel, by decide +kernel, by decide +kernel⟩, by decide, by decide +kernel⟩
abbrev y_Mo_treesOf : mj_Y := ("ChartForestModel", ⟨"ChartForestModel", "treesOf", "(III)J"⟩, prog_9_method_41_code, 5, some .long)
theorem k_Mo_treesOf : mj_dec y_Mo_treesOf.2.2.1 [(0, .iload_n 1, 1), (1, .iload_n 2, 1), (2, .iload_n 3, 1), (3, .invokestatic 113, 3), (6, .istore 4, 2), (8, .aload_n 0, 1), (9, .getfield 29, 3), (12, .iload 4, 2), (14, .baload, 1), (15, .ifCond .eq 13, 3), (18, .aload_n 0, 1), (19, .getfield 32, 3), (22, .iload 4, 2), (24, .laload, 1), (25, .goto 6, 3), (28, .ldc2_w 145, 3), (31, .lreturn, 1)] = true := by decide +kernel
theorem h_Mo_treesOf : mj_yk y_Mo_treesOf 3 := ⟨mw_892, mw_60, ⟨rfl, by decide +kernel, by decide +kernel, by decide +kernel⟩, by decide, by decide +kernel⟩
abbrev y_Mo_nodes : mj_Y := ("ChartForestModel", ⟨"ChartForestModel", "nodes", "()I"⟩, prog_9_method_45_code, 4, some .int)
theorem k_Mo_nodes : mj_dec y_Mo_nodes.2.2.1 [(0, .aload_n 0, 1), (1, .iconst 0, 1), (2, .putfield 53, 3), (5, .aload_n 0, 1), (6, .invokevirtual 164, 3), (9, .aload_n 0, 1), (10, .getfield 26, 3), (13, .iconst 0, 1), (14, .iconst 0, 1), (15, .aload_n 0, 1), (16, .getfield 97, 3), (19, .invokestatic 113, 3), (22, .baload, 1), (23, .ifCond .ne 5, 3), (26, .iconst 0, 1), (27, .ireturn, 1), (28, .iconst 0, 1), (29, .istore_n 1, 1), (30, .iload_n 1, 1), (31, .sipush 845, 3), (34, .if_icmp .ge 16, 3), (37, .aload_n 0, 1), (38, .getfield 36, 3), (41, .iload_n 1, 1), (42, .iconst 0, 1), (43, .bastore, 1), (44, .iinc 1 1, 3), (47, .goto (-17), 3), (50, .aload_n 0, 1), (51, .getfield 36, 3), (54, .iconst 0, 1), (55, .iconst 0, 1), (56, .aload_n 0, 1), (57, .getfield 97, 3), (60, .invokestatic 113, 3), (63, .iconst 1, 1), (64, .bastore, 1), (65, .iconst 1, 1), (66, .istore_n 1, 1), (67, .iload_n 1, 1), (68, .ifCond .eq 76, 3), (71, .iconst 0, 1), (72, .istore_n 1, 1), (73, .iconst 0, 1), (74, .istore_n 2, 1), (75, .iload_n 2, 1), (76, .sipush 845, 3), (79, .if_icmp .ge 62, 3), (82, .aload_n 0, 1), (83, .getfield 36, 3), (86, .iload_n 2, 1), (87, .baload, 1), (88, .ifCond .eq 31, 3), (91, .aload_n 0, 1), (92, .iload_n 2, 1), (93, .sipush 169, 3), (96, .idiv, 1), (97, .iload_n 2, 1), (98, .sipush 169, 3), (101, .irem, 1), (102, .bipush 13, 2), (104, .idiv, 1), (105, .iload_n 2, 1), (106, .bipush 13, 2), (108, .irem, 1), (109, .invokevirtual 173, 3), (112, .ifCond .eq 7, 3), (115, .iconst 1, 1), (116, .goto 4, 3), (119, .iconst 0, 1), (120, .istore_n 3, 1), (121, .iload_n 1, 1), (122, .ifCond .ne 7, 3), (125, .iload_n 3, 1), (126, .ifCond .eq 7, 3), (129, .iconst 1, 1), (130, .goto 4, 3), (133, .iconst 0, 1), (134, .istore_n 1, 1), (135, .iinc 2 1, 3), (138, .goto (-63), 3), (141, .goto (-74), 3), (144, .iconst 0, 1), (145, .istore_n 2, 1), (146, .iconst 0, 1), (147, .istore_n 3, 1), (148, .iload_n 3, 1), (149, .sipush 845, 3), (152, .if_icmp .ge 26, 3), (155, .iload_n 2, 1), (156, .aload_n 0, 1), (157, .getfield 36, 3), (160, .iload_n 3, 1), (161, .baload, 1), (162, .ifCond .eq 7, 3), (165, .iconst 1, 1), (166, .goto 4, 3), (169, .iconst 0, 1), (170, .iadd, 1), (171, .istore_n 2, 1), (172, .iinc 3 1, 3), (175, .goto (-27), 3), (178, .iload_n 2, 1), (179, .ireturn, 1)] = true := by decide +kernel
theorem h_Mo_nodes : mj_yk y_Mo_nodes 0 := ⟨mw_896, mw_60, ⟨rfl, by decide +kernel, by decide +kernel, by decide +kernel⟩, by decide, by decide +kernel⟩
abbrev y_Mo_meetAll : mj_Y := ("ChartForestModel", ⟨"ChartForestModel", "meetAll", "(III)Z"⟩, prog_9_method_44_code, 7, some .boolean)
theorem k_Mo_meetAll : mj_dec y_Mo_meetAll.2.2.1 [(0, .iconst 0, 1), (1, .istore 4, 2), (3, .iconst 0, 1), (4, .istore 5, 2), (6, .iload 5, 2), (8, .aload_n 0, 1), (9, .getfield 73, 3), (12, .if_icmp .ge 77, 3), (15, .aload_n 0, 1), (16, .getfield 7, 3), (19, .iload 5, 2), (21, .iaload, 1), (22, .iload_n 1, 1), (23, .if_icmp .ne 7, 3), (26, .iconst 1, 1), (27, .goto 4, 3), (30, .iconst 0, 1), (31, .istore 6, 2), (33, .aload_n 0, 1), (34, .iload_n 2, 1), (35, .invokevirtual 130, 3), (38, .iload 6, 2), (40, .ifCond .eq 43, 3), (43, .iload 4, 2), (45, .aload_n 0, 1), (46, .iload 5, 2), (48, .iload_n 2, 1), (49, .iload_n 3, 1), (50, .invokevirtual 133, 3), (53, .ifCond .eq 14, 3), (56, .aload_n 0, 1), (57, .iload 5, 2), (59, .iload_n 2, 1), (60, .iload_n 3, 1), (61, .invokevirtual 170, 3), (64, .goto 4, 3), (67, .iconst 0, 1), (68, .iadd, 1), (69, .istore 4, 2), (71, .aload_n 0, 1), (72, .iload 5, 2), (74, .iload_n 3, 1), (75, .invokevirtual 136, 3), (78, .istore 6, 2), (80, .goto (-42), 3), (83, .iinc 5 1, 3), (86, .goto (-80), 3), (89, .iload 4, 2), (91, .ifCond .le 7, 3), (94, .iconst 1, 1), (95, .goto 4, 3), (98, .iconst 0, 1), (99, .ireturn, 1)] = true := by decide +kernel
theorem h_Mo_meetAll : mj_yk y_Mo_meetAll 3 := ⟨mw_900, mw_60, ⟨rfl, by decide +kernel, by decide +kernel, by decide +kernel⟩, by decide, by decide +kernel⟩
abbrev y_Mo_meet : mj_Y := ("ChartForestModel", ⟨"ChartForestModel", "meet", "(III)I"⟩, prog_9_method_43_code, 9, some .int)
theorem k_Mo_meet : mj_dec y_Mo_meet.2.2.1 [(0, .iconst 0, 1), (1, .istore 4, 2), (3, .iconst 0, 1), (4, .istore 5, 2), (6, .iload 5, 2), (8, .aload_n 0, 1), (9, .getfield 13, 3), (12, .iload_n 1, 1), (13, .iaload, 1), (14, .if_icmp .ge 88, 3), (17, .aload_n 0, 1), (18, .getfield 16, 3), (21, .iconst 3, 1), (22, .iload_n 1, 1), (23, .imul, 1), (24, .iload 5, 2), (26, .iadd, 1), (27, .iaload, 1), (28, .istore 6, 2), (30, .aload_n 0, 1), (31, .iload_n 1, 1), (32, .iload 5, 2), (34, .iload_n 2, 1), (35, .iload_n 3, 1), (36, .invokevirtual 123, 3), (39, .istore 7, 2), (41, .aload_n 0, 1), (42, .iload_n 1, 1), (43, .iload 5, 2), (45, .iconst 1, 1), (46, .iadd, 1), (47, .iload_n 2, 1), (48, .iload_n 3, 1), (49, .invokevirtual 123, 3), (52, .istore 8, 2), (54, .iload 6, 2), (56, .bipush 8, 2), (58, .if_icmp .ge 38, 3), (61, .aload_n 0, 1), (62, .getfield 36, 3), (65, .iload 6, 2), (67, .iload 7, 2), (69, .iload 8, 2), (71, .invokestatic 113, 3), (74, .baload, 1), (75, .ifCond .ne 21, 3), (78, .aload_n 0, 1), (79, .getfield 36, 3), (82, .iload 6, 2), (84, .iload 7, 2), (86, .iload 8, 2), (88, .invokestatic 113, 3), (91, .iconst 1, 1), (92, .bastore, 1), (93, .iconst 1, 1), (94, .istore 4, 2), (96, .iinc 5 1, 3), (99, .goto (-93), 3), (102, .iload 4, 2), (104, .ireturn, 1)] = true := by decide +kernel
theorem h_Mo_meet : mj_yk y_Mo_meet 3 := ⟨mw_904, mw_60, ⟨rfl, by decide +kernel, by decide +kernel, by decide +kernel⟩, by decide, by decide +kernel⟩
abbrev y_Mo_tree : mj_Y := ("ChartForestModel", ⟨"ChartForestModel", "tree", "(JI)I"⟩, prog_9_method_49_code, 8, some .int)
theorem k_Mo_tree : mj_dec y_Mo_tree.2.2.1 [(0, .aload_n 0, 1), (1, .iconst 0, 1), (2, .putfield 53, 3), (5, .aload_n 0, 1), (6, .invokevirtual 164, 3), (9, .aload_n 0, 1), (10, .iconst 0, 1), (11, .iconst 0, 1), (12, .aload_n 0, 1), (13, .getfield 97, 3), (16, .invokevirtual 167, 3), (19, .lstore 4, 2), (21, .lload 4, 2), (23, .lconst 0, 1), (24, .lcmp, 1), (25, .ifCond .lt 29, 3), (28, .lload 4, 2), (30, .ldc2_w 143, 3), (33, .lcmp, 1), (34, .ifCond .ge 20, 3), (37, .lload_n 1, 1), (38, .lconst 0, 1), (39, .lcmp, 1), (40, .ifCond .lt 14, 3), (43, .lload_n 1, 1), (44, .lload 4, 2), (46, .lcmp, 1), (47, .ifCond .ge 7, 3), (50, .iload_n 3, 1), (51, .ifCond .ge 9, 3), (54, .aload_n 0, 1), (55, .iconst 1, 1), (56, .invokevirtual 91, 3), (59, .ireturn, 1), (60, .aload_n 0, 1), (61, .iconst 0, 1), (62, .putfield 176, 3), (65, .aload_n 0, 1), (66, .iconst 0, 1), (67, .iconst 0, 1), (68, .aload_n 0, 1), (69, .getfield 97, 3), (72, .invokestatic 113, 3), (75, .lload_n 1, 1), (76, .invokevirtual 179, 3), (79, .iconst 0, 1), (80, .istore 6, 2), (82, .aload_n 0, 1), (83, .getfield 176, 3), (86, .ifCond .le 52, 3), (89, .aload_n 0, 1), (90, .dup, 1), (91, .getfield 176, 3), (94, .iconst 1, 1), (95, .isub, 1), (96, .putfield 176, 3), (99, .aload_n 0, 1), (100, .aload_n 0, 1), (101, .getfield 39, 3), (104, .aload_n 0, 1), (105, .getfield 176, 3), (108, .iaload, 1), (109, .aload_n 0, 1), (110, .getfield 42, 3), (113, .aload_n 0, 1), (114, .getfield 176, 3), (117, .laload, 1), (118, .invokevirtual 187, 3), (121, .istore 7, 2), (123, .iload 6, 2), (125, .iload_n 3, 1), (126, .if_icmp .ne 6, 3), (129, .iload 7, 2), (131, .ireturn, 1), (132, .iinc 6 1, 3), (135, .goto (-53), 3), (138, .aload_n 0, 1), (139, .iconst 1, 1), (140, .invokevirtual 91, 3), (143, .ireturn, 1)] = true := by decide +kernel
theorem h_Mo_tree : mj_yk y_Mo_tree 2 := ⟨mw_908, mw_60, ⟨rfl, by decide +kernel, by decide +kernel, by decide +kernel⟩, by decide, by decide +kernel⟩
abbrev y_Mo_come : mj_Y := ("ChartForestModel", ⟨"ChartForestModel", "come", "(IJ)V"⟩, prog_9_method_46_code, 4, none)
theorem k_Mo_come : mj_dec y_Mo_come.2.2.1 [(0, .aload_n 0, 1), (1, .getfield 39, 3), (4, .aload_n 0, 1), (5, .getfield 176, 3), (8, .iload_n 1, 1), (9, .iastore, 1), (10, .aload_n 0, 1), (11, .getfield 42, 3), (14, .aload_n 0, 1), (15, .getfield 176, 3), (18, .lload_n 2, 1), (19, .lastore, 1), (20, .aload_n 0, 1), (21, .dup, 1), (22, .getfield 176, 3), (25, .iconst 1, 1), (26, .iadd, 1), (27, .putfield 176, 3), (30, .return_, 1)] = true := by decide +kernel
theorem h_Mo_come : mj_yk y_Mo_come 2 := ⟨mw_912, mw_60, ⟨rfl, by decide +kernel, by decide +kernel, by decide +kernel⟩, by decide, by decide +kernel⟩
abbrev y_Mo_takeRoot : mj_Y := ("ChartForestModel", ⟨"ChartForestModel", "takeRoot", "(IJ)I"⟩, prog_9_method_48_code, 13, some .int)
theorem k_Mo_takeRoot : mj_dec y_Mo_takeRoot.2.2.1 [(0, .iload_n 1, 1), (1, .sipush 169, 3), (4, .idiv, 1), (5, .istore 4, 2), (7, .iload_n 1, 1), (8, .sipush 169, 3), (11, .irem, 1), (12, .bipush 13, 2), (14, .idiv, 1), (15, .istore 5, 2), (17, .iload_n 1, 1), (18, .bipush 13, 2), (20, .irem, 1), (21, .istore 6, 2), (23, .lload_n 2, 1), (24, .lstore 7, 2), (26, .iconst 0, 1), (27, .istore 9, 2), (29, .iload 9, 2), (31, .aload_n 0, 1), (32, .getfield 73, 3), (35, .if_icmp .ge 107, 3), (38, .aload_n 0, 1), (39, .getfield 7, 3), (42, .iload 9, 2), (44, .iaload, 1), (45, .iload 4, 2), (47, .if_icmp .ne 7, 3), (50, .iconst 1, 1), (51, .goto 4, 3), (54, .iconst 0, 1), (55, .istore 10, 2), (57, .aload_n 0, 1), (58, .iload 5, 2), (60, .invokevirtual 130, 3), (63, .iload 10, 2), (65, .ifCond .eq 71, 3), (68, .aload_n 0, 1), (69, .iload 9, 2), (71, .iload 5, 2), (73, .iload 6, 2), (75, .invokevirtual 133, 3), (78, .ifCond .eq 45, 3), (81, .aload_n 0, 1), (82, .iload 9, 2), (84, .iload 5, 2), (86, .iload 6, 2), (88, .invokevirtual 151, 3), (91, .lstore 11, 2), (93, .lload 7, 2), (95, .lload 11, 2), (97, .lcmp, 1), (98, .ifCond .ge 18, 3), (101, .aload_n 0, 1), (102, .iload 9, 2), (104, .iload 5, 2), (106, .iload 6, 2), (108, .lload 7, 2), (110, .invokevirtual 183, 3), (113, .iload 9, 2), (115, .ireturn, 1), (116, .lload 7, 2), (118, .lload 11, 2), (120, .lsub, 1), (121, .lstore 7, 2), (123, .aload_n 0, 1), (124, .iload 9, 2), (126, .iload 6, 2), (128, .invokevirtual 136, 3), (131, .istore 10, 2), (133, .goto (-70), 3), (136, .iinc 9 1, 3), (139, .goto (-110), 3), (142, .iconst (-1), 1), (143, .ireturn, 1)] = true := by decide +kernel
theorem h_Mo_takeRoot : mj_yk y_Mo_takeRoot 2 := ⟨mw_916, mw_60, ⟨rfl, by decide +kernel, by decide +kernel, by decide +kernel⟩, by decide, by decide +kernel⟩
abbrev y_Mo_comeAll : mj_Y := ("ChartForestModel", ⟨"ChartForestModel", "comeAll", "(IIIJ)V"⟩, prog_9_method_47_code, 11, none)
theorem k_Mo_comeAll : mj_dec y_Mo_comeAll.2.2.1 [(0, .lload 4, 2), (2, .lstore 6, 2), (4, .aload_n 0, 1), (5, .getfield 13, 3), (8, .iload_n 1, 1), (9, .iaload, 1), (10, .iconst 1, 1), (11, .isub, 1), (12, .istore 8, 2), (14, .iload 8, 2), (16, .ifCond .lt 84, 3), (19, .aload_n 0, 1), (20, .getfield 16, 3), (23, .iconst 3, 1), (24, .iload_n 1, 1), (25, .imul, 1), (26, .iload 8, 2), (28, .iadd, 1), (29, .iaload, 1), (30, .istore 9, 2), (32, .iload 9, 2), (34, .bipush 8, 2), (36, .if_icmp .ge 58, 3), (39, .iload 9, 2), (41, .aload_n 0, 1), (42, .iload_n 1, 1), (43, .iload 8, 2), (45, .iload_n 2, 1), (46, .iload_n 3, 1), (47, .invokevirtual 123, 3), (50, .aload_n 0, 1), (51, .iload_n 1, 1), (52, .iload 8, 2), (54, .iconst 1, 1), (55, .iadd, 1), (56, .iload_n 2, 1), (57, .iload_n 3, 1), (58, .invokevirtual 123, 3), (61, .invokestatic 113, 3), (64, .istore 10, 2), (66, .aload_n 0, 1), (67, .iload 10, 2), (69, .lload 6, 2), (71, .aload_n 0, 1), (72, .getfield 32, 3), (75, .iload 10, 2), (77, .laload, 1), (78, .lrem, 1), (79, .invokevirtual 179, 3), (82, .lload 6, 2), (84, .aload_n 0, 1), (85, .getfield 32, 3), (88, .iload 10, 2), (90, .laload, 1), (91, .ldiv, 1), (92, .lstore 6, 2), (94, .iinc 8 (-1), 3), (97, .goto (-83), 3), (100, .return_, 1)] = true := by decide +kernel
theorem h_Mo_comeAll : mj_yk y_Mo_comeAll 4 := ⟨mw_920, mw_60, ⟨rfl, by decide +kernel, by decide +kernel, by decide +kernel⟩, by decide, by decide +kernel⟩
end
section
/-! ===== decode rows (by program) ===== -/
theorem d_CF_slotOf_0 : decode y_CF_slotOf.2.2.1 0 = .ok (.iload_n 0, 1) := mj_d (q := (0, .iload_n 0, 1)) k_CF_slotOf 0 rfl
theorem d_CF_slotOf_1 : decode y_CF_slotOf.2.2.1 1 = .ok (.iconst 1, 1) := mj_d (q := (1, .iconst 1, 1)) k_CF_slotOf 1 rfl
theorem d_CF_slotOf_2 : decode y_CF_slotOf.2.2.1 2 = .ok (.iadd, 1) := mj_d (q := (2, .iadd, 1)) k_CF_slotOf 2 rfl
theorem d_CF_slotOf_3 : decode y_CF_slotOf.2.2.1 3 = .ok (.iconst 4, 1) := mj_d (q := (3, .iconst 4, 1)) k_CF_slotOf 3 rfl
theorem d_CF_slotOf_4 : decode y_CF_slotOf.2.2.1 4 = .ok (.imul, 1) := mj_d (q := (4, .imul, 1)) k_CF_slotOf 4 rfl
theorem d_CF_slotOf_5 : decode y_CF_slotOf.2.2.1 5 = .ok (.iload_n 1, 1) := mj_d (q := (5, .iload_n 1, 1)) k_CF_slotOf 5 rfl
theorem d_CF_slotOf_6 : decode y_CF_slotOf.2.2.1 6 = .ok (.iadd, 1) := mj_d (q := (6, .iadd, 1)) k_CF_slotOf 6 rfl
theorem d_CF_slotOf_7 : decode y_CF_slotOf.2.2.1 7 = .ok (.ireturn, 1) := mj_d (q := (7, .ireturn, 1)) k_CF_slotOf 7 rfl
theorem d_Ch_openFirst_0 : decode y_Ch_openFirst.2.2.1 0 = .ok (.aload_n 0, 1) := mj_d (q := (0, .aload_n 0, 1)) k_Ch_openFirst 0 rfl
theorem d_Ch_openFirst_1 : decode y_Ch_openFirst.2.2.1 1 = .ok (.iconst 0, 1) := mj_d (q := (1, .iconst 0, 1)) k_Ch_openFirst 1 rfl
theorem d_Ch_openFirst_2 : decode y_Ch_openFirst.2.2.1 2 = .ok (.invokevirtual 34, 3) := mj_d (q := (2, .invokevirtual 34, 3)) k_Ch_openFirst 2 rfl
theorem d_Ch_openFirst_5 : decode y_Ch_openFirst.2.2.1 5 = .ok (.aload_n 0, 1) := mj_d (q := (5, .aload_n 0, 1)) k_Ch_openFirst 3 rfl
theorem d_Ch_openFirst_6 : decode y_Ch_openFirst.2.2.1 6 = .ok (.iconst 0, 1) := mj_d (q := (6, .iconst 0, 1)) k_Ch_openFirst 4 rfl
theorem d_Ch_openFirst_7 : decode y_Ch_openFirst.2.2.1 7 = .ok (.iconst (-1), 1) := mj_d (q := (7, .iconst (-1), 1)) k_Ch_openFirst 5 rfl
theorem d_Ch_openFirst_8 : decode y_Ch_openFirst.2.2.1 8 = .ok (.iconst 0, 1) := mj_d (q := (8, .iconst 0, 1)) k_Ch_openFirst 6 rfl
theorem d_Ch_openFirst_9 : decode y_Ch_openFirst.2.2.1 9 = .ok (.invokestatic 38, 3) := mj_d (q := (9, .invokestatic 38, 3)) k_Ch_openFirst 7 rfl
theorem d_Ch_openFirst_12 : decode y_Ch_openFirst.2.2.1 12 = .ok (.iconst 0, 1) := mj_d (q := (12, .iconst 0, 1)) k_Ch_openFirst 8 rfl
theorem d_Ch_openFirst_13 : decode y_Ch_openFirst.2.2.1 13 = .ok (.invokevirtual 42, 3) := mj_d (q := (13, .invokevirtual 42, 3)) k_Ch_openFirst 9 rfl
theorem d_Ch_openFirst_16 : decode y_Ch_openFirst.2.2.1 16 = .ok (.aload_n 0, 1) := mj_d (q := (16, .aload_n 0, 1)) k_Ch_openFirst 10 rfl
theorem d_Ch_openFirst_17 : decode y_Ch_openFirst.2.2.1 17 = .ok (.iconst 0, 1) := mj_d (q := (17, .iconst 0, 1)) k_Ch_openFirst 11 rfl
theorem d_Ch_openFirst_18 : decode y_Ch_openFirst.2.2.1 18 = .ok (.invokevirtual 46, 3) := mj_d (q := (18, .invokevirtual 46, 3)) k_Ch_openFirst 12 rfl
theorem d_Ch_openFirst_21 : decode y_Ch_openFirst.2.2.1 21 = .ok (.return_, 1) := mj_d (q := (21, .return_, 1)) k_Ch_openFirst 13 rfl
theorem d_Ch_empty_0 : decode y_Ch_empty.2.2.1 0 = .ok (.iconst 0, 1) := mj_d (q := (0, .iconst 0, 1)) k_Ch_empty 0 rfl
theorem d_Ch_empty_1 : decode y_Ch_empty.2.2.1 1 = .ok (.istore_n 2, 1) := mj_d (q := (1, .istore_n 2, 1)) k_Ch_empty 1 rfl
theorem d_Ch_empty_2 : decode y_Ch_empty.2.2.1 2 = .ok (.iload_n 2, 1) := mj_d (q := (2, .iload_n 2, 1)) k_Ch_empty 2 rfl
theorem d_Ch_empty_3 : decode y_Ch_empty.2.2.1 3 = .ok (.bipush 44, 2) := mj_d (q := (3, .bipush 44, 2)) k_Ch_empty 3 rfl
theorem d_Ch_empty_5 : decode y_Ch_empty.2.2.1 5 = .ok (.if_icmp .ge 18, 3) := mj_d (q := (5, .if_icmp .ge 18, 3)) k_Ch_empty 4 rfl
theorem d_Ch_empty_8 : decode y_Ch_empty.2.2.1 8 = .ok (.aload_n 0, 1) := mj_d (q := (8, .aload_n 0, 1)) k_Ch_empty 5 rfl
theorem d_Ch_empty_9 : decode y_Ch_empty.2.2.1 9 = .ok (.getfield 11, 3) := mj_d (q := (9, .getfield 11, 3)) k_Ch_empty 6 rfl
theorem d_Ch_empty_12 : decode y_Ch_empty.2.2.1 12 = .ok (.iload_n 1, 1) := mj_d (q := (12, .iload_n 1, 1)) k_Ch_empty 7 rfl
theorem d_Ch_empty_13 : decode y_Ch_empty.2.2.1 13 = .ok (.aaload, 1) := mj_d (q := (13, .aaload, 1)) k_Ch_empty 8 rfl
theorem d_Ch_empty_14 : decode y_Ch_empty.2.2.1 14 = .ok (.iload_n 2, 1) := mj_d (q := (14, .iload_n 2, 1)) k_Ch_empty 9 rfl
theorem d_Ch_empty_15 : decode y_Ch_empty.2.2.1 15 = .ok (.iconst 0, 1) := mj_d (q := (15, .iconst 0, 1)) k_Ch_empty 10 rfl
theorem d_Ch_empty_16 : decode y_Ch_empty.2.2.1 16 = .ok (.iastore, 1) := mj_d (q := (16, .iastore, 1)) k_Ch_empty 11 rfl
theorem d_Ch_empty_17 : decode y_Ch_empty.2.2.1 17 = .ok (.iinc 2 1, 3) := mj_d (q := (17, .iinc 2 1, 3)) k_Ch_empty 12 rfl
theorem d_Ch_empty_20 : decode y_Ch_empty.2.2.1 20 = .ok (.goto (-18), 3) := mj_d (q := (20, .goto (-18), 3)) k_Ch_empty 13 rfl
theorem d_Ch_empty_23 : decode y_Ch_empty.2.2.1 23 = .ok (.aload_n 0, 1) := mj_d (q := (23, .aload_n 0, 1)) k_Ch_empty 14 rfl
theorem d_Ch_empty_24 : decode y_Ch_empty.2.2.1 24 = .ok (.getfield 16, 3) := mj_d (q := (24, .getfield 16, 3)) k_Ch_empty 15 rfl
theorem d_Ch_empty_27 : decode y_Ch_empty.2.2.1 27 = .ok (.iload_n 1, 1) := mj_d (q := (27, .iload_n 1, 1)) k_Ch_empty 16 rfl
theorem d_Ch_empty_28 : decode y_Ch_empty.2.2.1 28 = .ok (.iconst 0, 1) := mj_d (q := (28, .iconst 0, 1)) k_Ch_empty 17 rfl
theorem d_Ch_empty_29 : decode y_Ch_empty.2.2.1 29 = .ok (.iastore, 1) := mj_d (q := (29, .iastore, 1)) k_Ch_empty 18 rfl
theorem d_Ch_empty_30 : decode y_Ch_empty.2.2.1 30 = .ok (.aload_n 0, 1) := mj_d (q := (30, .aload_n 0, 1)) k_Ch_empty 19 rfl
theorem d_Ch_empty_31 : decode y_Ch_empty.2.2.1 31 = .ok (.iconst 0, 1) := mj_d (q := (31, .iconst 0, 1)) k_Ch_empty 20 rfl
theorem d_Ch_empty_32 : decode y_Ch_empty.2.2.1 32 = .ok (.putfield 71, 3) := mj_d (q := (32, .putfield 71, 3)) k_Ch_empty 21 rfl
theorem d_Ch_empty_35 : decode y_Ch_empty.2.2.1 35 = .ok (.aload_n 0, 1) := mj_d (q := (35, .aload_n 0, 1)) k_Ch_empty 22 rfl
theorem d_Ch_empty_36 : decode y_Ch_empty.2.2.1 36 = .ok (.iconst 0, 1) := mj_d (q := (36, .iconst 0, 1)) k_Ch_empty 23 rfl
theorem d_Ch_empty_37 : decode y_Ch_empty.2.2.1 37 = .ok (.putfield 75, 3) := mj_d (q := (37, .putfield 75, 3)) k_Ch_empty 24 rfl
theorem d_Ch_empty_40 : decode y_Ch_empty.2.2.1 40 = .ok (.return_, 1) := mj_d (q := (40, .return_, 1)) k_Ch_empty 25 rfl
theorem d_Ch_put_0 : decode y_Ch_put.2.2.1 0 = .ok (.aload_n 0, 1) := mj_d (q := (0, .aload_n 0, 1)) k_Ch_put 0 rfl
theorem d_Ch_put_1 : decode y_Ch_put.2.2.1 1 = .ok (.iload_n 1, 1) := mj_d (q := (1, .iload_n 1, 1)) k_Ch_put 1 rfl
theorem d_Ch_put_2 : decode y_Ch_put.2.2.1 2 = .ok (.iload_n 2, 1) := mj_d (q := (2, .iload_n 2, 1)) k_Ch_put 2 rfl
theorem d_Ch_put_3 : decode y_Ch_put.2.2.1 3 = .ok (.iload_n 3, 1) := mj_d (q := (3, .iload_n 3, 1)) k_Ch_put 3 rfl
theorem d_Ch_put_4 : decode y_Ch_put.2.2.1 4 = .ok (.invokevirtual 78, 3) := mj_d (q := (4, .invokevirtual 78, 3)) k_Ch_put 4 rfl
theorem d_Ch_put_7 : decode y_Ch_put.2.2.1 7 = .ok (.ifCond .ne 64, 3) := mj_d (q := (7, .ifCond .ne 64, 3)) k_Ch_put 5 rfl
theorem d_Ch_put_10 : decode y_Ch_put.2.2.1 10 = .ok (.aload_n 0, 1) := mj_d (q := (10, .aload_n 0, 1)) k_Ch_put 6 rfl
theorem d_Ch_put_11 : decode y_Ch_put.2.2.1 11 = .ok (.getfield 71, 3) := mj_d (q := (11, .getfield 71, 3)) k_Ch_put 7 rfl
theorem d_Ch_put_14 : decode y_Ch_put.2.2.1 14 = .ok (.aload_n 0, 1) := mj_d (q := (14, .aload_n 0, 1)) k_Ch_put 8 rfl
theorem d_Ch_put_15 : decode y_Ch_put.2.2.1 15 = .ok (.getfield 23, 3) := mj_d (q := (15, .getfield 23, 3)) k_Ch_put 9 rfl
theorem d_Ch_put_18 : decode y_Ch_put.2.2.1 18 = .ok (.arraylength, 1) := mj_d (q := (18, .arraylength, 1)) k_Ch_put 10 rfl
theorem d_Ch_put_19 : decode y_Ch_put.2.2.1 19 = .ok (.if_icmp .ge 52, 3) := mj_d (q := (19, .if_icmp .ge 52, 3)) k_Ch_put 11 rfl
theorem d_Ch_put_22 : decode y_Ch_put.2.2.1 22 = .ok (.aload_n 0, 1) := mj_d (q := (22, .aload_n 0, 1)) k_Ch_put 12 rfl
theorem d_Ch_put_23 : decode y_Ch_put.2.2.1 23 = .ok (.getfield 11, 3) := mj_d (q := (23, .getfield 11, 3)) k_Ch_put 13 rfl
theorem d_Ch_put_26 : decode y_Ch_put.2.2.1 26 = .ok (.iload_n 1, 1) := mj_d (q := (26, .iload_n 1, 1)) k_Ch_put 14 rfl
theorem d_Ch_put_27 : decode y_Ch_put.2.2.1 27 = .ok (.aaload, 1) := mj_d (q := (27, .aaload, 1)) k_Ch_put 15 rfl
theorem d_Ch_put_28 : decode y_Ch_put.2.2.1 28 = .ok (.iload_n 2, 1) := mj_d (q := (28, .iload_n 2, 1)) k_Ch_put 16 rfl
theorem d_Ch_put_29 : decode y_Ch_put.2.2.1 29 = .ok (.dup2, 1) := mj_d (q := (29, .dup2, 1)) k_Ch_put 17 rfl
theorem d_Ch_put_30 : decode y_Ch_put.2.2.1 30 = .ok (.iaload, 1) := mj_d (q := (30, .iaload, 1)) k_Ch_put 18 rfl
theorem d_Ch_put_31 : decode y_Ch_put.2.2.1 31 = .ok (.iconst 1, 1) := mj_d (q := (31, .iconst 1, 1)) k_Ch_put 19 rfl
theorem d_Ch_put_32 : decode y_Ch_put.2.2.1 32 = .ok (.iload_n 3, 1) := mj_d (q := (32, .iload_n 3, 1)) k_Ch_put 20 rfl
theorem d_Ch_put_33 : decode y_Ch_put.2.2.1 33 = .ok (.ishl, 1) := mj_d (q := (33, .ishl, 1)) k_Ch_put 21 rfl
theorem d_Ch_put_34 : decode y_Ch_put.2.2.1 34 = .ok (.ior, 1) := mj_d (q := (34, .ior, 1)) k_Ch_put 22 rfl
theorem d_Ch_put_35 : decode y_Ch_put.2.2.1 35 = .ok (.iastore, 1) := mj_d (q := (35, .iastore, 1)) k_Ch_put 23 rfl
theorem d_Ch_put_36 : decode y_Ch_put.2.2.1 36 = .ok (.aload_n 0, 1) := mj_d (q := (36, .aload_n 0, 1)) k_Ch_put 24 rfl
theorem d_Ch_put_37 : decode y_Ch_put.2.2.1 37 = .ok (.getfield 16, 3) := mj_d (q := (37, .getfield 16, 3)) k_Ch_put 25 rfl
theorem d_Ch_put_40 : decode y_Ch_put.2.2.1 40 = .ok (.iload_n 1, 1) := mj_d (q := (40, .iload_n 1, 1)) k_Ch_put 26 rfl
theorem d_Ch_put_41 : decode y_Ch_put.2.2.1 41 = .ok (.dup2, 1) := mj_d (q := (41, .dup2, 1)) k_Ch_put 27 rfl
theorem d_Ch_put_42 : decode y_Ch_put.2.2.1 42 = .ok (.iaload, 1) := mj_d (q := (42, .iaload, 1)) k_Ch_put 28 rfl
theorem d_Ch_put_43 : decode y_Ch_put.2.2.1 43 = .ok (.iconst 1, 1) := mj_d (q := (43, .iconst 1, 1)) k_Ch_put 29 rfl
theorem d_Ch_put_44 : decode y_Ch_put.2.2.1 44 = .ok (.iadd, 1) := mj_d (q := (44, .iadd, 1)) k_Ch_put 30 rfl
theorem d_Ch_put_45 : decode y_Ch_put.2.2.1 45 = .ok (.iastore, 1) := mj_d (q := (45, .iastore, 1)) k_Ch_put 31 rfl
theorem d_Ch_put_46 : decode y_Ch_put.2.2.1 46 = .ok (.aload_n 0, 1) := mj_d (q := (46, .aload_n 0, 1)) k_Ch_put 32 rfl
theorem d_Ch_put_47 : decode y_Ch_put.2.2.1 47 = .ok (.getfield 23, 3) := mj_d (q := (47, .getfield 23, 3)) k_Ch_put 33 rfl
theorem d_Ch_put_50 : decode y_Ch_put.2.2.1 50 = .ok (.aload_n 0, 1) := mj_d (q := (50, .aload_n 0, 1)) k_Ch_put 34 rfl
theorem d_Ch_put_51 : decode y_Ch_put.2.2.1 51 = .ok (.getfield 71, 3) := mj_d (q := (51, .getfield 71, 3)) k_Ch_put 35 rfl
theorem d_Ch_put_54 : decode y_Ch_put.2.2.1 54 = .ok (.iload_n 2, 1) := mj_d (q := (54, .iload_n 2, 1)) k_Ch_put 36 rfl
theorem d_Ch_put_55 : decode y_Ch_put.2.2.1 55 = .ok (.bipush 13, 2) := mj_d (q := (55, .bipush 13, 2)) k_Ch_put 37 rfl
theorem d_Ch_put_57 : decode y_Ch_put.2.2.1 57 = .ok (.imul, 1) := mj_d (q := (57, .imul, 1)) k_Ch_put 38 rfl
theorem d_Ch_put_58 : decode y_Ch_put.2.2.1 58 = .ok (.iload_n 3, 1) := mj_d (q := (58, .iload_n 3, 1)) k_Ch_put 39 rfl
theorem d_Ch_put_59 : decode y_Ch_put.2.2.1 59 = .ok (.iadd, 1) := mj_d (q := (59, .iadd, 1)) k_Ch_put 40 rfl
theorem d_Ch_put_60 : decode y_Ch_put.2.2.1 60 = .ok (.iastore, 1) := mj_d (q := (60, .iastore, 1)) k_Ch_put 41 rfl
theorem d_Ch_put_61 : decode y_Ch_put.2.2.1 61 = .ok (.aload_n 0, 1) := mj_d (q := (61, .aload_n 0, 1)) k_Ch_put 42 rfl
theorem d_Ch_put_62 : decode y_Ch_put.2.2.1 62 = .ok (.dup, 1) := mj_d (q := (62, .dup, 1)) k_Ch_put 43 rfl
theorem d_Ch_put_63 : decode y_Ch_put.2.2.1 63 = .ok (.getfield 71, 3) := mj_d (q := (63, .getfield 71, 3)) k_Ch_put 44 rfl
theorem d_Ch_put_66 : decode y_Ch_put.2.2.1 66 = .ok (.iconst 1, 1) := mj_d (q := (66, .iconst 1, 1)) k_Ch_put 45 rfl
theorem d_Ch_put_67 : decode y_Ch_put.2.2.1 67 = .ok (.iadd, 1) := mj_d (q := (67, .iadd, 1)) k_Ch_put 46 rfl
theorem d_Ch_put_68 : decode y_Ch_put.2.2.1 68 = .ok (.putfield 71, 3) := mj_d (q := (68, .putfield 71, 3)) k_Ch_put 47 rfl
theorem d_Ch_put_71 : decode y_Ch_put.2.2.1 71 = .ok (.return_, 1) := mj_d (q := (71, .return_, 1)) k_Ch_put 48 rfl
theorem d_Ch_holds_0 : decode y_Ch_holds.2.2.1 0 = .ok (.aload_n 0, 1) := mj_d (q := (0, .aload_n 0, 1)) k_Ch_holds 0 rfl
theorem d_Ch_holds_1 : decode y_Ch_holds.2.2.1 1 = .ok (.getfield 11, 3) := mj_d (q := (1, .getfield 11, 3)) k_Ch_holds 1 rfl
theorem d_Ch_holds_4 : decode y_Ch_holds.2.2.1 4 = .ok (.iload_n 1, 1) := mj_d (q := (4, .iload_n 1, 1)) k_Ch_holds 2 rfl
theorem d_Ch_holds_5 : decode y_Ch_holds.2.2.1 5 = .ok (.aaload, 1) := mj_d (q := (5, .aaload, 1)) k_Ch_holds 3 rfl
theorem d_Ch_holds_6 : decode y_Ch_holds.2.2.1 6 = .ok (.iload_n 2, 1) := mj_d (q := (6, .iload_n 2, 1)) k_Ch_holds 4 rfl
theorem d_Ch_holds_7 : decode y_Ch_holds.2.2.1 7 = .ok (.iaload, 1) := mj_d (q := (7, .iaload, 1)) k_Ch_holds 5 rfl
theorem d_Ch_holds_8 : decode y_Ch_holds.2.2.1 8 = .ok (.iload_n 3, 1) := mj_d (q := (8, .iload_n 3, 1)) k_Ch_holds 6 rfl
theorem d_Ch_holds_9 : decode y_Ch_holds.2.2.1 9 = .ok (.iushr, 1) := mj_d (q := (9, .iushr, 1)) k_Ch_holds 7 rfl
theorem d_Ch_holds_10 : decode y_Ch_holds.2.2.1 10 = .ok (.iconst 1, 1) := mj_d (q := (10, .iconst 1, 1)) k_Ch_holds 8 rfl
theorem d_Ch_holds_11 : decode y_Ch_holds.2.2.1 11 = .ok (.iand, 1) := mj_d (q := (11, .iand, 1)) k_Ch_holds 9 rfl
theorem d_Ch_holds_12 : decode y_Ch_holds.2.2.1 12 = .ok (.ifCond .eq 7, 3) := mj_d (q := (12, .ifCond .eq 7, 3)) k_Ch_holds 10 rfl
theorem d_Ch_holds_15 : decode y_Ch_holds.2.2.1 15 = .ok (.iconst 1, 1) := mj_d (q := (15, .iconst 1, 1)) k_Ch_holds 11 rfl
theorem d_Ch_holds_16 : decode y_Ch_holds.2.2.1 16 = .ok (.goto 4, 3) := mj_d (q := (16, .goto 4, 3)) k_Ch_holds 12 rfl
theorem d_Ch_holds_19 : decode y_Ch_holds.2.2.1 19 = .ok (.iconst 0, 1) := mj_d (q := (19, .iconst 0, 1)) k_Ch_holds 13 rfl
theorem d_Ch_holds_20 : decode y_Ch_holds.2.2.1 20 = .ok (.ireturn, 1) := mj_d (q := (20, .ireturn, 1)) k_Ch_holds 14 rfl
theorem d_Ch_close_0 : decode y_Ch_close.2.2.1 0 = .ok (.iconst 0, 1) := mj_d (q := (0, .iconst 0, 1)) k_Ch_close 0 rfl
theorem d_Ch_close_1 : decode y_Ch_close.2.2.1 1 = .ok (.istore_n 2, 1) := mj_d (q := (1, .istore_n 2, 1)) k_Ch_close 1 rfl
theorem d_Ch_close_2 : decode y_Ch_close.2.2.1 2 = .ok (.iload_n 2, 1) := mj_d (q := (2, .iload_n 2, 1)) k_Ch_close 2 rfl
theorem d_Ch_close_3 : decode y_Ch_close.2.2.1 3 = .ok (.aload_n 0, 1) := mj_d (q := (3, .aload_n 0, 1)) k_Ch_close 3 rfl
theorem d_Ch_close_4 : decode y_Ch_close.2.2.1 4 = .ok (.getfield 71, 3) := mj_d (q := (4, .getfield 71, 3)) k_Ch_close 4 rfl
theorem d_Ch_close_7 : decode y_Ch_close.2.2.1 7 = .ok (.if_icmp .ge 108, 3) := mj_d (q := (7, .if_icmp .ge 108, 3)) k_Ch_close 5 rfl
theorem d_Ch_close_10 : decode y_Ch_close.2.2.1 10 = .ok (.iload_n 2, 1) := mj_d (q := (10, .iload_n 2, 1)) k_Ch_close 6 rfl
theorem d_Ch_close_11 : decode y_Ch_close.2.2.1 11 = .ok (.aload_n 0, 1) := mj_d (q := (11, .aload_n 0, 1)) k_Ch_close 7 rfl
theorem d_Ch_close_12 : decode y_Ch_close.2.2.1 12 = .ok (.getfield 23, 3) := mj_d (q := (12, .getfield 23, 3)) k_Ch_close 8 rfl
theorem d_Ch_close_15 : decode y_Ch_close.2.2.1 15 = .ok (.arraylength, 1) := mj_d (q := (15, .arraylength, 1)) k_Ch_close 9 rfl
theorem d_Ch_close_16 : decode y_Ch_close.2.2.1 16 = .ok (.if_icmp .ge 99, 3) := mj_d (q := (16, .if_icmp .ge 99, 3)) k_Ch_close 10 rfl
theorem d_Ch_close_19 : decode y_Ch_close.2.2.1 19 = .ok (.aload_n 0, 1) := mj_d (q := (19, .aload_n 0, 1)) k_Ch_close 11 rfl
theorem d_Ch_close_20 : decode y_Ch_close.2.2.1 20 = .ok (.getfield 23, 3) := mj_d (q := (20, .getfield 23, 3)) k_Ch_close 12 rfl
theorem d_Ch_close_23 : decode y_Ch_close.2.2.1 23 = .ok (.iload_n 2, 1) := mj_d (q := (23, .iload_n 2, 1)) k_Ch_close 13 rfl
theorem d_Ch_close_24 : decode y_Ch_close.2.2.1 24 = .ok (.iaload, 1) := mj_d (q := (24, .iaload, 1)) k_Ch_close 14 rfl
theorem d_Ch_close_25 : decode y_Ch_close.2.2.1 25 = .ok (.bipush 13, 2) := mj_d (q := (25, .bipush 13, 2)) k_Ch_close 15 rfl
theorem d_Ch_close_27 : decode y_Ch_close.2.2.1 27 = .ok (.idiv, 1) := mj_d (q := (27, .idiv, 1)) k_Ch_close 16 rfl
theorem d_Ch_close_28 : decode y_Ch_close.2.2.1 28 = .ok (.istore_n 3, 1) := mj_d (q := (28, .istore_n 3, 1)) k_Ch_close 17 rfl
theorem d_Ch_close_29 : decode y_Ch_close.2.2.1 29 = .ok (.aload_n 0, 1) := mj_d (q := (29, .aload_n 0, 1)) k_Ch_close 18 rfl
theorem d_Ch_close_30 : decode y_Ch_close.2.2.1 30 = .ok (.getfield 23, 3) := mj_d (q := (30, .getfield 23, 3)) k_Ch_close 19 rfl
theorem d_Ch_close_33 : decode y_Ch_close.2.2.1 33 = .ok (.iload_n 2, 1) := mj_d (q := (33, .iload_n 2, 1)) k_Ch_close 20 rfl
theorem d_Ch_close_34 : decode y_Ch_close.2.2.1 34 = .ok (.iaload, 1) := mj_d (q := (34, .iaload, 1)) k_Ch_close 21 rfl
theorem d_Ch_close_35 : decode y_Ch_close.2.2.1 35 = .ok (.bipush 13, 2) := mj_d (q := (35, .bipush 13, 2)) k_Ch_close 22 rfl
theorem d_Ch_close_37 : decode y_Ch_close.2.2.1 37 = .ok (.irem, 1) := mj_d (q := (37, .irem, 1)) k_Ch_close 23 rfl
theorem d_Ch_close_38 : decode y_Ch_close.2.2.1 38 = .ok (.istore 4, 2) := mj_d (q := (38, .istore 4, 2)) k_Ch_close 24 rfl
theorem d_Ch_close_40 : decode y_Ch_close.2.2.1 40 = .ok (.aload_n 0, 1) := mj_d (q := (40, .aload_n 0, 1)) k_Ch_close 25 rfl
theorem d_Ch_close_41 : decode y_Ch_close.2.2.1 41 = .ok (.getfield 26, 3) := mj_d (q := (41, .getfield 26, 3)) k_Ch_close 26 rfl
theorem d_Ch_close_44 : decode y_Ch_close.2.2.1 44 = .ok (.getfield 55, 3) := mj_d (q := (44, .getfield 55, 3)) k_Ch_close 27 rfl
theorem d_Ch_close_47 : decode y_Ch_close.2.2.1 47 = .ok (.iload_n 3, 1) := mj_d (q := (47, .iload_n 3, 1)) k_Ch_close 28 rfl
theorem d_Ch_close_48 : decode y_Ch_close.2.2.1 48 = .ok (.iaload, 1) := mj_d (q := (48, .iaload, 1)) k_Ch_close 29 rfl
theorem d_Ch_close_49 : decode y_Ch_close.2.2.1 49 = .ok (.istore 5, 2) := mj_d (q := (49, .istore 5, 2)) k_Ch_close 30 rfl
theorem d_Ch_close_51 : decode y_Ch_close.2.2.1 51 = .ok (.iload 5, 2) := mj_d (q := (51, .iload 5, 2)) k_Ch_close 31 rfl
theorem d_Ch_close_53 : decode y_Ch_close.2.2.1 53 = .ok (.iconst (-1), 1) := mj_d (q := (53, .iconst (-1), 1)) k_Ch_close 32 rfl
theorem d_Ch_close_54 : decode y_Ch_close.2.2.1 54 = .ok (.if_icmp .ne 18, 3) := mj_d (q := (54, .if_icmp .ne 18, 3)) k_Ch_close 33 rfl
theorem d_Ch_close_57 : decode y_Ch_close.2.2.1 57 = .ok (.aload_n 0, 1) := mj_d (q := (57, .aload_n 0, 1)) k_Ch_close 34 rfl
theorem d_Ch_close_58 : decode y_Ch_close.2.2.1 58 = .ok (.iload_n 1, 1) := mj_d (q := (58, .iload_n 1, 1)) k_Ch_close 35 rfl
theorem d_Ch_close_59 : decode y_Ch_close.2.2.1 59 = .ok (.aload_n 0, 1) := mj_d (q := (59, .aload_n 0, 1)) k_Ch_close 36 rfl
theorem d_Ch_close_60 : decode y_Ch_close.2.2.1 60 = .ok (.iload_n 3, 1) := mj_d (q := (60, .iload_n 3, 1)) k_Ch_close 37 rfl
theorem d_Ch_close_61 : decode y_Ch_close.2.2.1 61 = .ok (.invokevirtual 82, 3) := mj_d (q := (61, .invokevirtual 82, 3)) k_Ch_close 38 rfl
theorem d_Ch_close_64 : decode y_Ch_close.2.2.1 64 = .ok (.iload 4, 2) := mj_d (q := (64, .iload 4, 2)) k_Ch_close 39 rfl
theorem d_Ch_close_66 : decode y_Ch_close.2.2.1 66 = .ok (.invokevirtual 85, 3) := mj_d (q := (66, .invokevirtual 85, 3)) k_Ch_close 40 rfl
theorem d_Ch_close_69 : decode y_Ch_close.2.2.1 69 = .ok (.goto 40, 3) := mj_d (q := (69, .goto 40, 3)) k_Ch_close 41 rfl
theorem d_Ch_close_72 : decode y_Ch_close.2.2.1 72 = .ok (.iload 5, 2) := mj_d (q := (72, .iload 5, 2)) k_Ch_close 42 rfl
theorem d_Ch_close_74 : decode y_Ch_close.2.2.1 74 = .ok (.invokestatic 88, 3) := mj_d (q := (74, .invokestatic 88, 3)) k_Ch_close 43 rfl
theorem d_Ch_close_77 : decode y_Ch_close.2.2.1 77 = .ok (.ifCond .eq 32, 3) := mj_d (q := (77, .ifCond .eq 32, 3)) k_Ch_close 44 rfl
theorem d_Ch_close_80 : decode y_Ch_close.2.2.1 80 = .ok (.aload_n 0, 1) := mj_d (q := (80, .aload_n 0, 1)) k_Ch_close 45 rfl
theorem d_Ch_close_81 : decode y_Ch_close.2.2.1 81 = .ok (.iload_n 1, 1) := mj_d (q := (81, .iload_n 1, 1)) k_Ch_close 46 rfl
theorem d_Ch_close_82 : decode y_Ch_close.2.2.1 82 = .ok (.iload 5, 2) := mj_d (q := (82, .iload 5, 2)) k_Ch_close 47 rfl
theorem d_Ch_close_84 : decode y_Ch_close.2.2.1 84 = .ok (.invokevirtual 91, 3) := mj_d (q := (84, .invokevirtual 91, 3)) k_Ch_close 48 rfl
theorem d_Ch_close_87 : decode y_Ch_close.2.2.1 87 = .ok (.aload_n 0, 1) := mj_d (q := (87, .aload_n 0, 1)) k_Ch_close 49 rfl
theorem d_Ch_close_88 : decode y_Ch_close.2.2.1 88 = .ok (.getfield 75, 3) := mj_d (q := (88, .getfield 75, 3)) k_Ch_close 50 rfl
theorem d_Ch_close_91 : decode y_Ch_close.2.2.1 91 = .ok (.iload 5, 2) := mj_d (q := (91, .iload 5, 2)) k_Ch_close 51 rfl
theorem d_Ch_close_93 : decode y_Ch_close.2.2.1 93 = .ok (.iushr, 1) := mj_d (q := (93, .iushr, 1)) k_Ch_close 52 rfl
theorem d_Ch_close_94 : decode y_Ch_close.2.2.1 94 = .ok (.iconst 1, 1) := mj_d (q := (94, .iconst 1, 1)) k_Ch_close 53 rfl
theorem d_Ch_close_95 : decode y_Ch_close.2.2.1 95 = .ok (.iand, 1) := mj_d (q := (95, .iand, 1)) k_Ch_close 54 rfl
theorem d_Ch_close_96 : decode y_Ch_close.2.2.1 96 = .ok (.ifCond .eq 13, 3) := mj_d (q := (96, .ifCond .eq 13, 3)) k_Ch_close 55 rfl
theorem d_Ch_close_99 : decode y_Ch_close.2.2.1 99 = .ok (.aload_n 0, 1) := mj_d (q := (99, .aload_n 0, 1)) k_Ch_close 56 rfl
theorem d_Ch_close_100 : decode y_Ch_close.2.2.1 100 = .ok (.iload_n 1, 1) := mj_d (q := (100, .iload_n 1, 1)) k_Ch_close 57 rfl
theorem d_Ch_close_101 : decode y_Ch_close.2.2.1 101 = .ok (.iload_n 3, 1) := mj_d (q := (101, .iload_n 3, 1)) k_Ch_close 58 rfl
theorem d_Ch_close_102 : decode y_Ch_close.2.2.1 102 = .ok (.iconst 1, 1) := mj_d (q := (102, .iconst 1, 1)) k_Ch_close 59 rfl
theorem d_Ch_close_103 : decode y_Ch_close.2.2.1 103 = .ok (.iadd, 1) := mj_d (q := (103, .iadd, 1)) k_Ch_close 60 rfl
theorem d_Ch_close_104 : decode y_Ch_close.2.2.1 104 = .ok (.iload 4, 2) := mj_d (q := (104, .iload 4, 2)) k_Ch_close 61 rfl
theorem d_Ch_close_106 : decode y_Ch_close.2.2.1 106 = .ok (.invokevirtual 42, 3) := mj_d (q := (106, .invokevirtual 42, 3)) k_Ch_close 62 rfl
theorem d_Ch_close_109 : decode y_Ch_close.2.2.1 109 = .ok (.iinc 2 1, 3) := mj_d (q := (109, .iinc 2 1, 3)) k_Ch_close 63 rfl
theorem d_Ch_close_112 : decode y_Ch_close.2.2.1 112 = .ok (.goto (-110), 3) := mj_d (q := (112, .goto (-110), 3)) k_Ch_close 64 rfl
theorem d_Ch_close_115 : decode y_Ch_close.2.2.1 115 = .ok (.return_, 1) := mj_d (q := (115, .return_, 1)) k_Ch_close 65 rfl
theorem d_Ch_leftSide_0 : decode y_Ch_leftSide.2.2.1 0 = .ok (.aload_n 0, 1) := mj_d (q := (0, .aload_n 0, 1)) k_Ch_leftSide 0 rfl
theorem d_Ch_leftSide_1 : decode y_Ch_leftSide.2.2.1 1 = .ok (.getfield 26, 3) := mj_d (q := (1, .getfield 26, 3)) k_Ch_leftSide 1 rfl
theorem d_Ch_leftSide_4 : decode y_Ch_leftSide.2.2.1 4 = .ok (.iload_n 1, 1) := mj_d (q := (4, .iload_n 1, 1)) k_Ch_leftSide 2 rfl
theorem d_Ch_leftSide_5 : decode y_Ch_leftSide.2.2.1 5 = .ok (.iconst 4, 1) := mj_d (q := (5, .iconst 4, 1)) k_Ch_leftSide 3 rfl
theorem d_Ch_leftSide_6 : decode y_Ch_leftSide.2.2.1 6 = .ok (.idiv, 1) := mj_d (q := (6, .idiv, 1)) k_Ch_leftSide 4 rfl
theorem d_Ch_leftSide_7 : decode y_Ch_leftSide.2.2.1 7 = .ok (.iconst 1, 1) := mj_d (q := (7, .iconst 1, 1)) k_Ch_leftSide 5 rfl
theorem d_Ch_leftSide_8 : decode y_Ch_leftSide.2.2.1 8 = .ok (.isub, 1) := mj_d (q := (8, .isub, 1)) k_Ch_leftSide 6 rfl
theorem d_Ch_leftSide_9 : decode y_Ch_leftSide.2.2.1 9 = .ok (.invokevirtual 68, 3) := mj_d (q := (9, .invokevirtual 68, 3)) k_Ch_leftSide 7 rfl
theorem d_Ch_leftSide_12 : decode y_Ch_leftSide.2.2.1 12 = .ok (.ireturn, 1) := mj_d (q := (12, .ireturn, 1)) k_Ch_leftSide 8 rfl
theorem d_Gr_leftOf_0 : decode y_Gr_leftOf.2.2.1 0 = .ok (.iload_n 1, 1) := mj_d (q := (0, .iload_n 1, 1)) k_Gr_leftOf 0 rfl
theorem d_Gr_leftOf_1 : decode y_Gr_leftOf.2.2.1 1 = .ok (.ifCond .lt 20, 3) := mj_d (q := (1, .ifCond .lt 20, 3)) k_Gr_leftOf 1 rfl
theorem d_Gr_leftOf_4 : decode y_Gr_leftOf.2.2.1 4 = .ok (.iload_n 1, 1) := mj_d (q := (4, .iload_n 1, 1)) k_Gr_leftOf 2 rfl
theorem d_Gr_leftOf_5 : decode y_Gr_leftOf.2.2.1 5 = .ok (.aload_n 0, 1) := mj_d (q := (5, .aload_n 0, 1)) k_Gr_leftOf 3 rfl
theorem d_Gr_leftOf_6 : decode y_Gr_leftOf.2.2.1 6 = .ok (.getfield 22, 3) := mj_d (q := (6, .getfield 22, 3)) k_Gr_leftOf 4 rfl
theorem d_Gr_leftOf_9 : decode y_Gr_leftOf.2.2.1 9 = .ok (.if_icmp .ge 12, 3) := mj_d (q := (9, .if_icmp .ge 12, 3)) k_Gr_leftOf 5 rfl
theorem d_Gr_leftOf_12 : decode y_Gr_leftOf.2.2.1 12 = .ok (.aload_n 0, 1) := mj_d (q := (12, .aload_n 0, 1)) k_Gr_leftOf 6 rfl
theorem d_Gr_leftOf_13 : decode y_Gr_leftOf.2.2.1 13 = .ok (.getfield 9, 3) := mj_d (q := (13, .getfield 9, 3)) k_Gr_leftOf 7 rfl
theorem d_Gr_leftOf_16 : decode y_Gr_leftOf.2.2.1 16 = .ok (.iload_n 1, 1) := mj_d (q := (16, .iload_n 1, 1)) k_Gr_leftOf 8 rfl
theorem d_Gr_leftOf_17 : decode y_Gr_leftOf.2.2.1 17 = .ok (.iaload, 1) := mj_d (q := (17, .iaload, 1)) k_Gr_leftOf 9 rfl
theorem d_Gr_leftOf_18 : decode y_Gr_leftOf.2.2.1 18 = .ok (.goto 4, 3) := mj_d (q := (18, .goto 4, 3)) k_Gr_leftOf 10 rfl
theorem d_Gr_leftOf_21 : decode y_Gr_leftOf.2.2.1 21 = .ok (.iconst (-1), 1) := mj_d (q := (21, .iconst (-1), 1)) k_Gr_leftOf 11 rfl
theorem d_Gr_leftOf_22 : decode y_Gr_leftOf.2.2.1 22 = .ok (.ireturn, 1) := mj_d (q := (22, .ireturn, 1)) k_Gr_leftOf 12 rfl
theorem d_Ch_complete_0 : decode y_Ch_complete.2.2.1 0 = .ok (.iload_n 2, 1) := mj_d (q := (0, .iload_n 2, 1)) k_Ch_complete 0 rfl
theorem d_Ch_complete_1 : decode y_Ch_complete.2.2.1 1 = .ok (.iconst (-1), 1) := mj_d (q := (1, .iconst (-1), 1)) k_Ch_complete 1 rfl
theorem d_Ch_complete_2 : decode y_Ch_complete.2.2.1 2 = .ok (.if_icmp .ne 4, 3) := mj_d (q := (2, .if_icmp .ne 4, 3)) k_Ch_complete 2 rfl
theorem d_Ch_complete_5 : decode y_Ch_complete.2.2.1 5 = .ok (.return_, 1) := mj_d (q := (5, .return_, 1)) k_Ch_complete 3 rfl
theorem d_Ch_complete_6 : decode y_Ch_complete.2.2.1 6 = .ok (.iload_n 3, 1) := mj_d (q := (6, .iload_n 3, 1)) k_Ch_complete 4 rfl
theorem d_Ch_complete_7 : decode y_Ch_complete.2.2.1 7 = .ok (.iload_n 1, 1) := mj_d (q := (7, .iload_n 1, 1)) k_Ch_complete 5 rfl
theorem d_Ch_complete_8 : decode y_Ch_complete.2.2.1 8 = .ok (.if_icmp .ne 15, 3) := mj_d (q := (8, .if_icmp .ne 15, 3)) k_Ch_complete 6 rfl
theorem d_Ch_complete_11 : decode y_Ch_complete.2.2.1 11 = .ok (.aload_n 0, 1) := mj_d (q := (11, .aload_n 0, 1)) k_Ch_complete 7 rfl
theorem d_Ch_complete_12 : decode y_Ch_complete.2.2.1 12 = .ok (.dup, 1) := mj_d (q := (12, .dup, 1)) k_Ch_complete 8 rfl
theorem d_Ch_complete_13 : decode y_Ch_complete.2.2.1 13 = .ok (.getfield 75, 3) := mj_d (q := (13, .getfield 75, 3)) k_Ch_complete 9 rfl
theorem d_Ch_complete_16 : decode y_Ch_complete.2.2.1 16 = .ok (.iconst 1, 1) := mj_d (q := (16, .iconst 1, 1)) k_Ch_complete 10 rfl
theorem d_Ch_complete_17 : decode y_Ch_complete.2.2.1 17 = .ok (.iload_n 2, 1) := mj_d (q := (17, .iload_n 2, 1)) k_Ch_complete 11 rfl
theorem d_Ch_complete_18 : decode y_Ch_complete.2.2.1 18 = .ok (.ishl, 1) := mj_d (q := (18, .ishl, 1)) k_Ch_complete 12 rfl
theorem d_Ch_complete_19 : decode y_Ch_complete.2.2.1 19 = .ok (.ior, 1) := mj_d (q := (19, .ior, 1)) k_Ch_complete 13 rfl
theorem d_Ch_complete_20 : decode y_Ch_complete.2.2.1 20 = .ok (.putfield 75, 3) := mj_d (q := (20, .putfield 75, 3)) k_Ch_complete 14 rfl
theorem d_Ch_complete_23 : decode y_Ch_complete.2.2.1 23 = .ok (.iload_n 3, 1) := mj_d (q := (23, .iload_n 3, 1)) k_Ch_complete 15 rfl
theorem d_Ch_complete_24 : decode y_Ch_complete.2.2.1 24 = .ok (.iload_n 1, 1) := mj_d (q := (24, .iload_n 1, 1)) k_Ch_complete 16 rfl
theorem d_Ch_complete_25 : decode y_Ch_complete.2.2.1 25 = .ok (.if_icmp .ge 45, 3) := mj_d (q := (25, .if_icmp .ge 45, 3)) k_Ch_complete 17 rfl
theorem d_Ch_complete_28 : decode y_Ch_complete.2.2.1 28 = .ok (.aload_n 0, 1) := mj_d (q := (28, .aload_n 0, 1)) k_Ch_complete 18 rfl
theorem d_Ch_complete_29 : decode y_Ch_complete.2.2.1 29 = .ok (.getfield 20, 3) := mj_d (q := (29, .getfield 20, 3)) k_Ch_complete 19 rfl
theorem d_Ch_complete_32 : decode y_Ch_complete.2.2.1 32 = .ok (.iload_n 3, 1) := mj_d (q := (32, .iload_n 3, 1)) k_Ch_complete 20 rfl
theorem d_Ch_complete_33 : decode y_Ch_complete.2.2.1 33 = .ok (.aaload, 1) := mj_d (q := (33, .aaload, 1)) k_Ch_complete 21 rfl
theorem d_Ch_complete_34 : decode y_Ch_complete.2.2.1 34 = .ok (.iload_n 2, 1) := mj_d (q := (34, .iload_n 2, 1)) k_Ch_complete 22 rfl
theorem d_Ch_complete_35 : decode y_Ch_complete.2.2.1 35 = .ok (.iaload, 1) := mj_d (q := (35, .iaload, 1)) k_Ch_complete 23 rfl
theorem d_Ch_complete_36 : decode y_Ch_complete.2.2.1 36 = .ok (.iconst (-1), 1) := mj_d (q := (36, .iconst (-1), 1)) k_Ch_complete 24 rfl
theorem d_Ch_complete_37 : decode y_Ch_complete.2.2.1 37 = .ok (.if_icmp .eq 33, 3) := mj_d (q := (37, .if_icmp .eq 33, 3)) k_Ch_complete 25 rfl
theorem d_Ch_complete_40 : decode y_Ch_complete.2.2.1 40 = .ok (.aload_n 0, 1) := mj_d (q := (40, .aload_n 0, 1)) k_Ch_complete 26 rfl
theorem d_Ch_complete_41 : decode y_Ch_complete.2.2.1 41 = .ok (.iload_n 1, 1) := mj_d (q := (41, .iload_n 1, 1)) k_Ch_complete 27 rfl
theorem d_Ch_complete_42 : decode y_Ch_complete.2.2.1 42 = .ok (.aload_n 0, 1) := mj_d (q := (42, .aload_n 0, 1)) k_Ch_complete 28 rfl
theorem d_Ch_complete_43 : decode y_Ch_complete.2.2.1 43 = .ok (.getfield 20, 3) := mj_d (q := (43, .getfield 20, 3)) k_Ch_complete 29 rfl
theorem d_Ch_complete_46 : decode y_Ch_complete.2.2.1 46 = .ok (.iload_n 3, 1) := mj_d (q := (46, .iload_n 3, 1)) k_Ch_complete 30 rfl
theorem d_Ch_complete_47 : decode y_Ch_complete.2.2.1 47 = .ok (.aaload, 1) := mj_d (q := (47, .aaload, 1)) k_Ch_complete 31 rfl
theorem d_Ch_complete_48 : decode y_Ch_complete.2.2.1 48 = .ok (.iload_n 2, 1) := mj_d (q := (48, .iload_n 2, 1)) k_Ch_complete 32 rfl
theorem d_Ch_complete_49 : decode y_Ch_complete.2.2.1 49 = .ok (.iaload, 1) := mj_d (q := (49, .iaload, 1)) k_Ch_complete 33 rfl
theorem d_Ch_complete_50 : decode y_Ch_complete.2.2.1 50 = .ok (.bipush 13, 2) := mj_d (q := (50, .bipush 13, 2)) k_Ch_complete 34 rfl
theorem d_Ch_complete_52 : decode y_Ch_complete.2.2.1 52 = .ok (.idiv, 1) := mj_d (q := (52, .idiv, 1)) k_Ch_complete 35 rfl
theorem d_Ch_complete_53 : decode y_Ch_complete.2.2.1 53 = .ok (.aload_n 0, 1) := mj_d (q := (53, .aload_n 0, 1)) k_Ch_complete 36 rfl
theorem d_Ch_complete_54 : decode y_Ch_complete.2.2.1 54 = .ok (.getfield 20, 3) := mj_d (q := (54, .getfield 20, 3)) k_Ch_complete 37 rfl
theorem d_Ch_complete_57 : decode y_Ch_complete.2.2.1 57 = .ok (.iload_n 3, 1) := mj_d (q := (57, .iload_n 3, 1)) k_Ch_complete 38 rfl
theorem d_Ch_complete_58 : decode y_Ch_complete.2.2.1 58 = .ok (.aaload, 1) := mj_d (q := (58, .aaload, 1)) k_Ch_complete 39 rfl
theorem d_Ch_complete_59 : decode y_Ch_complete.2.2.1 59 = .ok (.iload_n 2, 1) := mj_d (q := (59, .iload_n 2, 1)) k_Ch_complete 40 rfl
theorem d_Ch_complete_60 : decode y_Ch_complete.2.2.1 60 = .ok (.iaload, 1) := mj_d (q := (60, .iaload, 1)) k_Ch_complete 41 rfl
theorem d_Ch_complete_61 : decode y_Ch_complete.2.2.1 61 = .ok (.bipush 13, 2) := mj_d (q := (61, .bipush 13, 2)) k_Ch_complete 42 rfl
theorem d_Ch_complete_63 : decode y_Ch_complete.2.2.1 63 = .ok (.irem, 1) := mj_d (q := (63, .irem, 1)) k_Ch_complete 43 rfl
theorem d_Ch_complete_64 : decode y_Ch_complete.2.2.1 64 = .ok (.invokevirtual 42, 3) := mj_d (q := (64, .invokevirtual 42, 3)) k_Ch_complete 44 rfl
theorem d_Ch_complete_67 : decode y_Ch_complete.2.2.1 67 = .ok (.goto 10, 3) := mj_d (q := (67, .goto 10, 3)) k_Ch_complete 45 rfl
theorem d_Ch_complete_70 : decode y_Ch_complete.2.2.1 70 = .ok (.aload_n 0, 1) := mj_d (q := (70, .aload_n 0, 1)) k_Ch_complete 46 rfl
theorem d_Ch_complete_71 : decode y_Ch_complete.2.2.1 71 = .ok (.iload_n 3, 1) := mj_d (q := (71, .iload_n 3, 1)) k_Ch_complete 47 rfl
theorem d_Ch_complete_72 : decode y_Ch_complete.2.2.1 72 = .ok (.iload_n 2, 1) := mj_d (q := (72, .iload_n 2, 1)) k_Ch_complete 48 rfl
theorem d_Ch_complete_73 : decode y_Ch_complete.2.2.1 73 = .ok (.iload_n 1, 1) := mj_d (q := (73, .iload_n 1, 1)) k_Ch_complete 49 rfl
theorem d_Ch_complete_74 : decode y_Ch_complete.2.2.1 74 = .ok (.invokevirtual 52, 3) := mj_d (q := (74, .invokevirtual 52, 3)) k_Ch_complete 50 rfl
theorem d_Ch_complete_77 : decode y_Ch_complete.2.2.1 77 = .ok (.return_, 1) := mj_d (q := (77, .return_, 1)) k_Ch_complete 51 rfl
theorem d_Ch_advance_0 : decode y_Ch_advance.2.2.1 0 = .ok (.iconst 0, 1) := mj_d (q := (0, .iconst 0, 1)) k_Ch_advance 0 rfl
theorem d_Ch_advance_1 : decode y_Ch_advance.2.2.1 1 = .ok (.istore 4, 2) := mj_d (q := (1, .istore 4, 2)) k_Ch_advance 1 rfl
theorem d_Ch_advance_3 : decode y_Ch_advance.2.2.1 3 = .ok (.iload 4, 2) := mj_d (q := (3, .iload 4, 2)) k_Ch_advance 2 rfl
theorem d_Ch_advance_5 : decode y_Ch_advance.2.2.1 5 = .ok (.bipush 44, 2) := mj_d (q := (5, .bipush 44, 2)) k_Ch_advance 3 rfl
theorem d_Ch_advance_7 : decode y_Ch_advance.2.2.1 7 = .ok (.if_icmp .ge 73, 3) := mj_d (q := (7, .if_icmp .ge 73, 3)) k_Ch_advance 4 rfl
theorem d_Ch_advance_10 : decode y_Ch_advance.2.2.1 10 = .ok (.aload_n 0, 1) := mj_d (q := (10, .aload_n 0, 1)) k_Ch_advance 5 rfl
theorem d_Ch_advance_11 : decode y_Ch_advance.2.2.1 11 = .ok (.getfield 11, 3) := mj_d (q := (11, .getfield 11, 3)) k_Ch_advance 6 rfl
theorem d_Ch_advance_14 : decode y_Ch_advance.2.2.1 14 = .ok (.iload_n 1, 1) := mj_d (q := (14, .iload_n 1, 1)) k_Ch_advance 7 rfl
theorem d_Ch_advance_15 : decode y_Ch_advance.2.2.1 15 = .ok (.aaload, 1) := mj_d (q := (15, .aaload, 1)) k_Ch_advance 8 rfl
theorem d_Ch_advance_16 : decode y_Ch_advance.2.2.1 16 = .ok (.iload 4, 2) := mj_d (q := (16, .iload 4, 2)) k_Ch_advance 9 rfl
theorem d_Ch_advance_18 : decode y_Ch_advance.2.2.1 18 = .ok (.iaload, 1) := mj_d (q := (18, .iaload, 1)) k_Ch_advance 10 rfl
theorem d_Ch_advance_19 : decode y_Ch_advance.2.2.1 19 = .ok (.ifCond .eq 55, 3) := mj_d (q := (19, .ifCond .eq 55, 3)) k_Ch_advance 11 rfl
theorem d_Ch_advance_22 : decode y_Ch_advance.2.2.1 22 = .ok (.aload_n 0, 1) := mj_d (q := (22, .aload_n 0, 1)) k_Ch_advance 12 rfl
theorem d_Ch_advance_23 : decode y_Ch_advance.2.2.1 23 = .ok (.getfield 26, 3) := mj_d (q := (23, .getfield 26, 3)) k_Ch_advance 13 rfl
theorem d_Ch_advance_26 : decode y_Ch_advance.2.2.1 26 = .ok (.getfield 55, 3) := mj_d (q := (26, .getfield 55, 3)) k_Ch_advance 14 rfl
theorem d_Ch_advance_29 : decode y_Ch_advance.2.2.1 29 = .ok (.iload 4, 2) := mj_d (q := (29, .iload 4, 2)) k_Ch_advance 15 rfl
theorem d_Ch_advance_31 : decode y_Ch_advance.2.2.1 31 = .ok (.iaload, 1) := mj_d (q := (31, .iaload, 1)) k_Ch_advance 16 rfl
theorem d_Ch_advance_32 : decode y_Ch_advance.2.2.1 32 = .ok (.iload_n 2, 1) := mj_d (q := (32, .iload_n 2, 1)) k_Ch_advance 17 rfl
theorem d_Ch_advance_33 : decode y_Ch_advance.2.2.1 33 = .ok (.if_icmp .ne 41, 3) := mj_d (q := (33, .if_icmp .ne 41, 3)) k_Ch_advance 18 rfl
theorem d_Ch_advance_36 : decode y_Ch_advance.2.2.1 36 = .ok (.iconst 0, 1) := mj_d (q := (36, .iconst 0, 1)) k_Ch_advance 19 rfl
theorem d_Ch_advance_37 : decode y_Ch_advance.2.2.1 37 = .ok (.istore 5, 2) := mj_d (q := (37, .istore 5, 2)) k_Ch_advance 20 rfl
theorem d_Ch_advance_39 : decode y_Ch_advance.2.2.1 39 = .ok (.iload 5, 2) := mj_d (q := (39, .iload 5, 2)) k_Ch_advance 21 rfl
theorem d_Ch_advance_41 : decode y_Ch_advance.2.2.1 41 = .ok (.iload_n 1, 1) := mj_d (q := (41, .iload_n 1, 1)) k_Ch_advance 22 rfl
theorem d_Ch_advance_42 : decode y_Ch_advance.2.2.1 42 = .ok (.if_icmp .gt 32, 3) := mj_d (q := (42, .if_icmp .gt 32, 3)) k_Ch_advance 23 rfl
theorem d_Ch_advance_45 : decode y_Ch_advance.2.2.1 45 = .ok (.aload_n 0, 1) := mj_d (q := (45, .aload_n 0, 1)) k_Ch_advance 24 rfl
theorem d_Ch_advance_46 : decode y_Ch_advance.2.2.1 46 = .ok (.iload_n 1, 1) := mj_d (q := (46, .iload_n 1, 1)) k_Ch_advance 25 rfl
theorem d_Ch_advance_47 : decode y_Ch_advance.2.2.1 47 = .ok (.iload 4, 2) := mj_d (q := (47, .iload 4, 2)) k_Ch_advance 26 rfl
theorem d_Ch_advance_49 : decode y_Ch_advance.2.2.1 49 = .ok (.iload 5, 2) := mj_d (q := (49, .iload 5, 2)) k_Ch_advance 27 rfl
theorem d_Ch_advance_51 : decode y_Ch_advance.2.2.1 51 = .ok (.invokevirtual 78, 3) := mj_d (q := (51, .invokevirtual 78, 3)) k_Ch_advance 28 rfl
theorem d_Ch_advance_54 : decode y_Ch_advance.2.2.1 54 = .ok (.ifCond .eq 14, 3) := mj_d (q := (54, .ifCond .eq 14, 3)) k_Ch_advance 29 rfl
theorem d_Ch_advance_57 : decode y_Ch_advance.2.2.1 57 = .ok (.aload_n 0, 1) := mj_d (q := (57, .aload_n 0, 1)) k_Ch_advance 30 rfl
theorem d_Ch_advance_58 : decode y_Ch_advance.2.2.1 58 = .ok (.iload_n 3, 1) := mj_d (q := (58, .iload_n 3, 1)) k_Ch_advance 31 rfl
theorem d_Ch_advance_59 : decode y_Ch_advance.2.2.1 59 = .ok (.iload 4, 2) := mj_d (q := (59, .iload 4, 2)) k_Ch_advance 32 rfl
theorem d_Ch_advance_61 : decode y_Ch_advance.2.2.1 61 = .ok (.iconst 1, 1) := mj_d (q := (61, .iconst 1, 1)) k_Ch_advance 33 rfl
theorem d_Ch_advance_62 : decode y_Ch_advance.2.2.1 62 = .ok (.iadd, 1) := mj_d (q := (62, .iadd, 1)) k_Ch_advance 34 rfl
theorem d_Ch_advance_63 : decode y_Ch_advance.2.2.1 63 = .ok (.iload 5, 2) := mj_d (q := (63, .iload 5, 2)) k_Ch_advance 35 rfl
theorem d_Ch_advance_65 : decode y_Ch_advance.2.2.1 65 = .ok (.invokevirtual 42, 3) := mj_d (q := (65, .invokevirtual 42, 3)) k_Ch_advance 36 rfl
theorem d_Ch_advance_68 : decode y_Ch_advance.2.2.1 68 = .ok (.iinc 5 1, 3) := mj_d (q := (68, .iinc 5 1, 3)) k_Ch_advance 37 rfl
theorem d_Ch_advance_71 : decode y_Ch_advance.2.2.1 71 = .ok (.goto (-32), 3) := mj_d (q := (71, .goto (-32), 3)) k_Ch_advance 38 rfl
theorem d_Ch_advance_74 : decode y_Ch_advance.2.2.1 74 = .ok (.iinc 4 1, 3) := mj_d (q := (74, .iinc 4 1, 3)) k_Ch_advance 39 rfl
theorem d_Ch_advance_77 : decode y_Ch_advance.2.2.1 77 = .ok (.goto (-74), 3) := mj_d (q := (77, .goto (-74), 3)) k_Ch_advance 40 rfl
theorem d_Ch_advance_80 : decode y_Ch_advance.2.2.1 80 = .ok (.return_, 1) := mj_d (q := (80, .return_, 1)) k_Ch_advance 41 rfl
theorem d_CF_isNonterminal_0 : decode y_CF_isNonterminal.2.2.1 0 = .ok (.iload_n 0, 1) := mj_d (q := (0, .iload_n 0, 1)) k_CF_isNonterminal 0 rfl
theorem d_CF_isNonterminal_1 : decode y_CF_isNonterminal.2.2.1 1 = .ok (.ifCond .lt 12, 3) := mj_d (q := (1, .ifCond .lt 12, 3)) k_CF_isNonterminal 1 rfl
theorem d_CF_isNonterminal_4 : decode y_CF_isNonterminal.2.2.1 4 = .ok (.iload_n 0, 1) := mj_d (q := (4, .iload_n 0, 1)) k_CF_isNonterminal 2 rfl
theorem d_CF_isNonterminal_5 : decode y_CF_isNonterminal.2.2.1 5 = .ok (.iconst 5, 1) := mj_d (q := (5, .iconst 5, 1)) k_CF_isNonterminal 3 rfl
theorem d_CF_isNonterminal_6 : decode y_CF_isNonterminal.2.2.1 6 = .ok (.if_icmp .ge 7, 3) := mj_d (q := (6, .if_icmp .ge 7, 3)) k_CF_isNonterminal 4 rfl
theorem d_CF_isNonterminal_9 : decode y_CF_isNonterminal.2.2.1 9 = .ok (.iconst 1, 1) := mj_d (q := (9, .iconst 1, 1)) k_CF_isNonterminal 5 rfl
theorem d_CF_isNonterminal_10 : decode y_CF_isNonterminal.2.2.1 10 = .ok (.goto 4, 3) := mj_d (q := (10, .goto 4, 3)) k_CF_isNonterminal 6 rfl
theorem d_CF_isNonterminal_13 : decode y_CF_isNonterminal.2.2.1 13 = .ok (.iconst 0, 1) := mj_d (q := (13, .iconst 0, 1)) k_CF_isNonterminal 7 rfl
theorem d_CF_isNonterminal_14 : decode y_CF_isNonterminal.2.2.1 14 = .ok (.ireturn, 1) := mj_d (q := (14, .ireturn, 1)) k_CF_isNonterminal 8 rfl
theorem d_Ch_predict_0 : decode y_Ch_predict.2.2.1 0 = .ok (.iconst 0, 1) := mj_d (q := (0, .iconst 0, 1)) k_Ch_predict 0 rfl
theorem d_Ch_predict_1 : decode y_Ch_predict.2.2.1 1 = .ok (.istore_n 3, 1) := mj_d (q := (1, .istore_n 3, 1)) k_Ch_predict 1 rfl
theorem d_Ch_predict_2 : decode y_Ch_predict.2.2.1 2 = .ok (.iload_n 3, 1) := mj_d (q := (2, .iload_n 3, 1)) k_Ch_predict 2 rfl
theorem d_Ch_predict_3 : decode y_Ch_predict.2.2.1 3 = .ok (.aload_n 0, 1) := mj_d (q := (3, .aload_n 0, 1)) k_Ch_predict 3 rfl
theorem d_Ch_predict_4 : decode y_Ch_predict.2.2.1 4 = .ok (.getfield 26, 3) := mj_d (q := (4, .getfield 26, 3)) k_Ch_predict 4 rfl
theorem d_Ch_predict_7 : decode y_Ch_predict.2.2.1 7 = .ok (.getfield 95, 3) := mj_d (q := (7, .getfield 95, 3)) k_Ch_predict 5 rfl
theorem d_Ch_predict_10 : decode y_Ch_predict.2.2.1 10 = .ok (.if_icmp .ge 32, 3) := mj_d (q := (10, .if_icmp .ge 32, 3)) k_Ch_predict 6 rfl
theorem d_Ch_predict_13 : decode y_Ch_predict.2.2.1 13 = .ok (.aload_n 0, 1) := mj_d (q := (13, .aload_n 0, 1)) k_Ch_predict 7 rfl
theorem d_Ch_predict_14 : decode y_Ch_predict.2.2.1 14 = .ok (.getfield 26, 3) := mj_d (q := (14, .getfield 26, 3)) k_Ch_predict 8 rfl
theorem d_Ch_predict_17 : decode y_Ch_predict.2.2.1 17 = .ok (.iload_n 3, 1) := mj_d (q := (17, .iload_n 3, 1)) k_Ch_predict 9 rfl
theorem d_Ch_predict_18 : decode y_Ch_predict.2.2.1 18 = .ok (.invokevirtual 68, 3) := mj_d (q := (18, .invokevirtual 68, 3)) k_Ch_predict 10 rfl
theorem d_Ch_predict_21 : decode y_Ch_predict.2.2.1 21 = .ok (.iload_n 2, 1) := mj_d (q := (21, .iload_n 2, 1)) k_Ch_predict 11 rfl
theorem d_Ch_predict_22 : decode y_Ch_predict.2.2.1 22 = .ok (.if_icmp .ne 14, 3) := mj_d (q := (22, .if_icmp .ne 14, 3)) k_Ch_predict 12 rfl
theorem d_Ch_predict_25 : decode y_Ch_predict.2.2.1 25 = .ok (.aload_n 0, 1) := mj_d (q := (25, .aload_n 0, 1)) k_Ch_predict 13 rfl
theorem d_Ch_predict_26 : decode y_Ch_predict.2.2.1 26 = .ok (.iload_n 1, 1) := mj_d (q := (26, .iload_n 1, 1)) k_Ch_predict 14 rfl
theorem d_Ch_predict_27 : decode y_Ch_predict.2.2.1 27 = .ok (.iload_n 3, 1) := mj_d (q := (27, .iload_n 3, 1)) k_Ch_predict 15 rfl
theorem d_Ch_predict_28 : decode y_Ch_predict.2.2.1 28 = .ok (.iconst 0, 1) := mj_d (q := (28, .iconst 0, 1)) k_Ch_predict 16 rfl
theorem d_Ch_predict_29 : decode y_Ch_predict.2.2.1 29 = .ok (.invokestatic 38, 3) := mj_d (q := (29, .invokestatic 38, 3)) k_Ch_predict 17 rfl
theorem d_Ch_predict_32 : decode y_Ch_predict.2.2.1 32 = .ok (.iload_n 1, 1) := mj_d (q := (32, .iload_n 1, 1)) k_Ch_predict 18 rfl
theorem d_Ch_predict_33 : decode y_Ch_predict.2.2.1 33 = .ok (.invokevirtual 42, 3) := mj_d (q := (33, .invokevirtual 42, 3)) k_Ch_predict 19 rfl
theorem d_Ch_predict_36 : decode y_Ch_predict.2.2.1 36 = .ok (.iinc 3 1, 3) := mj_d (q := (36, .iinc 3 1, 3)) k_Ch_predict 20 rfl
theorem d_Ch_predict_39 : decode y_Ch_predict.2.2.1 39 = .ok (.goto (-37), 3) := mj_d (q := (39, .goto (-37), 3)) k_Ch_predict 21 rfl
theorem d_Ch_predict_42 : decode y_Ch_predict.2.2.1 42 = .ok (.return_, 1) := mj_d (q := (42, .return_, 1)) k_Ch_predict 22 rfl
theorem d_CF_fed_0 : decode y_CF_fed.2.2.1 0 = .ok (.aload_n 0, 1) := mj_d (q := (0, .aload_n 0, 1)) k_CF_fed 0 rfl
theorem d_CF_fed_1 : decode y_CF_fed.2.2.1 1 = .ok (.getfield 19, 3) := mj_d (q := (1, .getfield 19, 3)) k_CF_fed 1 rfl
theorem d_CF_fed_4 : decode y_CF_fed.2.2.1 4 = .ok (.getfield 59, 3) := mj_d (q := (4, .getfield 59, 3)) k_CF_fed 2 rfl
theorem d_CF_fed_7 : decode y_CF_fed.2.2.1 7 = .ok (.ireturn, 1) := mj_d (q := (7, .ireturn, 1)) k_CF_fed 3 rfl
theorem d_CF_accepts_0 : decode y_CF_accepts.2.2.1 0 = .ok (.aload_n 0, 1) := mj_d (q := (0, .aload_n 0, 1)) k_CF_accepts 0 rfl
theorem d_CF_accepts_1 : decode y_CF_accepts.2.2.1 1 = .ok (.getfield 28, 3) := mj_d (q := (1, .getfield 28, 3)) k_CF_accepts 1 rfl
theorem d_CF_accepts_4 : decode y_CF_accepts.2.2.1 4 = .ok (.aload_n 0, 1) := mj_d (q := (4, .aload_n 0, 1)) k_CF_accepts 2 rfl
theorem d_CF_accepts_5 : decode y_CF_accepts.2.2.1 5 = .ok (.getfield 19, 3) := mj_d (q := (5, .getfield 19, 3)) k_CF_accepts 3 rfl
theorem d_CF_accepts_8 : decode y_CF_accepts.2.2.1 8 = .ok (.getfield 59, 3) := mj_d (q := (8, .getfield 59, 3)) k_CF_accepts 4 rfl
theorem d_CF_accepts_11 : decode y_CF_accepts.2.2.1 11 = .ok (.iconst (-1), 1) := mj_d (q := (11, .iconst (-1), 1)) k_CF_accepts 5 rfl
theorem d_CF_accepts_12 : decode y_CF_accepts.2.2.1 12 = .ok (.iconst 1, 1) := mj_d (q := (12, .iconst 1, 1)) k_CF_accepts 6 rfl
theorem d_CF_accepts_13 : decode y_CF_accepts.2.2.1 13 = .ok (.invokestatic 96, 3) := mj_d (q := (13, .invokestatic 96, 3)) k_CF_accepts 7 rfl
theorem d_CF_accepts_16 : decode y_CF_accepts.2.2.1 16 = .ok (.iconst 0, 1) := mj_d (q := (16, .iconst 0, 1)) k_CF_accepts 8 rfl
theorem d_CF_accepts_17 : decode y_CF_accepts.2.2.1 17 = .ok (.invokevirtual 100, 3) := mj_d (q := (17, .invokevirtual 100, 3)) k_CF_accepts 9 rfl
theorem d_CF_accepts_20 : decode y_CF_accepts.2.2.1 20 = .ok (.ireturn, 1) := mj_d (q := (20, .ireturn, 1)) k_CF_accepts 10 rfl
theorem d_CF_expected_0 : decode y_CF_expected.2.2.1 0 = .ok (.aload_n 0, 1) := mj_d (q := (0, .aload_n 0, 1)) k_CF_expected 0 rfl
theorem d_CF_expected_1 : decode y_CF_expected.2.2.1 1 = .ok (.getfield 28, 3) := mj_d (q := (1, .getfield 28, 3)) k_CF_expected 1 rfl
theorem d_CF_expected_4 : decode y_CF_expected.2.2.1 4 = .ok (.aload_n 0, 1) := mj_d (q := (4, .aload_n 0, 1)) k_CF_expected 2 rfl
theorem d_CF_expected_5 : decode y_CF_expected.2.2.1 5 = .ok (.getfield 19, 3) := mj_d (q := (5, .getfield 19, 3)) k_CF_expected 3 rfl
theorem d_CF_expected_8 : decode y_CF_expected.2.2.1 8 = .ok (.getfield 59, 3) := mj_d (q := (8, .getfield 59, 3)) k_CF_expected 4 rfl
theorem d_CF_expected_11 : decode y_CF_expected.2.2.1 11 = .ok (.invokevirtual 76, 3) := mj_d (q := (11, .invokevirtual 76, 3)) k_CF_expected 5 rfl
theorem d_CF_expected_14 : decode y_CF_expected.2.2.1 14 = .ok (.ireturn, 1) := mj_d (q := (14, .ireturn, 1)) k_CF_expected 6 rfl
theorem d_Ch_terminalsBehindDots_0 : decode y_Ch_terminalsBehindDots.2.2.1 0 = .ok (.iconst 0, 1) := mj_d (q := (0, .iconst 0, 1)) k_Ch_terminalsBehindDots 0 rfl
theorem d_Ch_terminalsBehindDots_1 : decode y_Ch_terminalsBehindDots.2.2.1 1 = .ok (.istore_n 2, 1) := mj_d (q := (1, .istore_n 2, 1)) k_Ch_terminalsBehindDots 1 rfl
theorem d_Ch_terminalsBehindDots_2 : decode y_Ch_terminalsBehindDots.2.2.1 2 = .ok (.iconst 0, 1) := mj_d (q := (2, .iconst 0, 1)) k_Ch_terminalsBehindDots 2 rfl
theorem d_Ch_terminalsBehindDots_3 : decode y_Ch_terminalsBehindDots.2.2.1 3 = .ok (.istore_n 3, 1) := mj_d (q := (3, .istore_n 3, 1)) k_Ch_terminalsBehindDots 3 rfl
theorem d_Ch_terminalsBehindDots_4 : decode y_Ch_terminalsBehindDots.2.2.1 4 = .ok (.iload_n 3, 1) := mj_d (q := (4, .iload_n 3, 1)) k_Ch_terminalsBehindDots 4 rfl
theorem d_Ch_terminalsBehindDots_5 : decode y_Ch_terminalsBehindDots.2.2.1 5 = .ok (.bipush 44, 2) := mj_d (q := (5, .bipush 44, 2)) k_Ch_terminalsBehindDots 5 rfl
theorem d_Ch_terminalsBehindDots_7 : decode y_Ch_terminalsBehindDots.2.2.1 7 = .ok (.if_icmp .ge 47, 3) := mj_d (q := (7, .if_icmp .ge 47, 3)) k_Ch_terminalsBehindDots 6 rfl
theorem d_Ch_terminalsBehindDots_10 : decode y_Ch_terminalsBehindDots.2.2.1 10 = .ok (.aload_n 0, 1) := mj_d (q := (10, .aload_n 0, 1)) k_Ch_terminalsBehindDots 7 rfl
theorem d_Ch_terminalsBehindDots_11 : decode y_Ch_terminalsBehindDots.2.2.1 11 = .ok (.getfield 26, 3) := mj_d (q := (11, .getfield 26, 3)) k_Ch_terminalsBehindDots 8 rfl
theorem d_Ch_terminalsBehindDots_14 : decode y_Ch_terminalsBehindDots.2.2.1 14 = .ok (.getfield 55, 3) := mj_d (q := (14, .getfield 55, 3)) k_Ch_terminalsBehindDots 9 rfl
theorem d_Ch_terminalsBehindDots_17 : decode y_Ch_terminalsBehindDots.2.2.1 17 = .ok (.iload_n 3, 1) := mj_d (q := (17, .iload_n 3, 1)) k_Ch_terminalsBehindDots 10 rfl
theorem d_Ch_terminalsBehindDots_18 : decode y_Ch_terminalsBehindDots.2.2.1 18 = .ok (.iaload, 1) := mj_d (q := (18, .iaload, 1)) k_Ch_terminalsBehindDots 11 rfl
theorem d_Ch_terminalsBehindDots_19 : decode y_Ch_terminalsBehindDots.2.2.1 19 = .ok (.istore 4, 2) := mj_d (q := (19, .istore 4, 2)) k_Ch_terminalsBehindDots 12 rfl
theorem d_Ch_terminalsBehindDots_21 : decode y_Ch_terminalsBehindDots.2.2.1 21 = .ok (.aload_n 0, 1) := mj_d (q := (21, .aload_n 0, 1)) k_Ch_terminalsBehindDots 13 rfl
theorem d_Ch_terminalsBehindDots_22 : decode y_Ch_terminalsBehindDots.2.2.1 22 = .ok (.getfield 11, 3) := mj_d (q := (22, .getfield 11, 3)) k_Ch_terminalsBehindDots 14 rfl
theorem d_Ch_terminalsBehindDots_25 : decode y_Ch_terminalsBehindDots.2.2.1 25 = .ok (.iload_n 1, 1) := mj_d (q := (25, .iload_n 1, 1)) k_Ch_terminalsBehindDots 15 rfl
theorem d_Ch_terminalsBehindDots_26 : decode y_Ch_terminalsBehindDots.2.2.1 26 = .ok (.aaload, 1) := mj_d (q := (26, .aaload, 1)) k_Ch_terminalsBehindDots 16 rfl
theorem d_Ch_terminalsBehindDots_27 : decode y_Ch_terminalsBehindDots.2.2.1 27 = .ok (.iload_n 3, 1) := mj_d (q := (27, .iload_n 3, 1)) k_Ch_terminalsBehindDots 17 rfl
theorem d_Ch_terminalsBehindDots_28 : decode y_Ch_terminalsBehindDots.2.2.1 28 = .ok (.iaload, 1) := mj_d (q := (28, .iaload, 1)) k_Ch_terminalsBehindDots 18 rfl
theorem d_Ch_terminalsBehindDots_29 : decode y_Ch_terminalsBehindDots.2.2.1 29 = .ok (.ifCond .eq 19, 3) := mj_d (q := (29, .ifCond .eq 19, 3)) k_Ch_terminalsBehindDots 19 rfl
theorem d_Ch_terminalsBehindDots_32 : decode y_Ch_terminalsBehindDots.2.2.1 32 = .ok (.iload 4, 2) := mj_d (q := (32, .iload 4, 2)) k_Ch_terminalsBehindDots 20 rfl
theorem d_Ch_terminalsBehindDots_34 : decode y_Ch_terminalsBehindDots.2.2.1 34 = .ok (.invokestatic 60, 3) := mj_d (q := (34, .invokestatic 60, 3)) k_Ch_terminalsBehindDots 21 rfl
theorem d_Ch_terminalsBehindDots_37 : decode y_Ch_terminalsBehindDots.2.2.1 37 = .ok (.ifCond .eq 11, 3) := mj_d (q := (37, .ifCond .eq 11, 3)) k_Ch_terminalsBehindDots 22 rfl
theorem d_Ch_terminalsBehindDots_40 : decode y_Ch_terminalsBehindDots.2.2.1 40 = .ok (.iload_n 2, 1) := mj_d (q := (40, .iload_n 2, 1)) k_Ch_terminalsBehindDots 23 rfl
theorem d_Ch_terminalsBehindDots_41 : decode y_Ch_terminalsBehindDots.2.2.1 41 = .ok (.iload 4, 2) := mj_d (q := (41, .iload 4, 2)) k_Ch_terminalsBehindDots 24 rfl
theorem d_Ch_terminalsBehindDots_43 : decode y_Ch_terminalsBehindDots.2.2.1 43 = .ok (.invokestatic 64, 3) := mj_d (q := (43, .invokestatic 64, 3)) k_Ch_terminalsBehindDots 25 rfl
theorem d_Ch_terminalsBehindDots_46 : decode y_Ch_terminalsBehindDots.2.2.1 46 = .ok (.ior, 1) := mj_d (q := (46, .ior, 1)) k_Ch_terminalsBehindDots 26 rfl
theorem d_Ch_terminalsBehindDots_47 : decode y_Ch_terminalsBehindDots.2.2.1 47 = .ok (.istore_n 2, 1) := mj_d (q := (47, .istore_n 2, 1)) k_Ch_terminalsBehindDots 27 rfl
theorem d_Ch_terminalsBehindDots_48 : decode y_Ch_terminalsBehindDots.2.2.1 48 = .ok (.iinc 3 1, 3) := mj_d (q := (48, .iinc 3 1, 3)) k_Ch_terminalsBehindDots 28 rfl
theorem d_Ch_terminalsBehindDots_51 : decode y_Ch_terminalsBehindDots.2.2.1 51 = .ok (.goto (-47), 3) := mj_d (q := (51, .goto (-47), 3)) k_Ch_terminalsBehindDots 29 rfl
theorem d_Ch_terminalsBehindDots_54 : decode y_Ch_terminalsBehindDots.2.2.1 54 = .ok (.iload_n 2, 1) := mj_d (q := (54, .iload_n 2, 1)) k_Ch_terminalsBehindDots 30 rfl
theorem d_Ch_terminalsBehindDots_55 : decode y_Ch_terminalsBehindDots.2.2.1 55 = .ok (.ireturn, 1) := mj_d (q := (55, .ireturn, 1)) k_Ch_terminalsBehindDots 31 rfl
theorem d_CF_isTerminal_0 : decode y_CF_isTerminal.2.2.1 0 = .ok (.iload_n 0, 1) := mj_d (q := (0, .iload_n 0, 1)) k_CF_isTerminal 0 rfl
theorem d_CF_isTerminal_1 : decode y_CF_isTerminal.2.2.1 1 = .ok (.bipush 8, 2) := mj_d (q := (1, .bipush 8, 2)) k_CF_isTerminal 1 rfl
theorem d_CF_isTerminal_3 : decode y_CF_isTerminal.2.2.1 3 = .ok (.if_icmp .lt 13, 3) := mj_d (q := (3, .if_icmp .lt 13, 3)) k_CF_isTerminal 2 rfl
theorem d_CF_isTerminal_6 : decode y_CF_isTerminal.2.2.1 6 = .ok (.iload_n 0, 1) := mj_d (q := (6, .iload_n 0, 1)) k_CF_isTerminal 3 rfl
theorem d_CF_isTerminal_7 : decode y_CF_isTerminal.2.2.1 7 = .ok (.bipush 11, 2) := mj_d (q := (7, .bipush 11, 2)) k_CF_isTerminal 4 rfl
theorem d_CF_isTerminal_9 : decode y_CF_isTerminal.2.2.1 9 = .ok (.if_icmp .gt 7, 3) := mj_d (q := (9, .if_icmp .gt 7, 3)) k_CF_isTerminal 5 rfl
theorem d_CF_isTerminal_12 : decode y_CF_isTerminal.2.2.1 12 = .ok (.iconst 1, 1) := mj_d (q := (12, .iconst 1, 1)) k_CF_isTerminal 6 rfl
theorem d_CF_isTerminal_13 : decode y_CF_isTerminal.2.2.1 13 = .ok (.goto 4, 3) := mj_d (q := (13, .goto 4, 3)) k_CF_isTerminal 7 rfl
theorem d_CF_isTerminal_16 : decode y_CF_isTerminal.2.2.1 16 = .ok (.iconst 0, 1) := mj_d (q := (16, .iconst 0, 1)) k_CF_isTerminal 8 rfl
theorem d_CF_isTerminal_17 : decode y_CF_isTerminal.2.2.1 17 = .ok (.ireturn, 1) := mj_d (q := (17, .ireturn, 1)) k_CF_isTerminal 9 rfl
theorem d_CF_terminalBit_0 : decode y_CF_terminalBit.2.2.1 0 = .ok (.iconst 1, 1) := mj_d (q := (0, .iconst 1, 1)) k_CF_terminalBit 0 rfl
theorem d_CF_terminalBit_1 : decode y_CF_terminalBit.2.2.1 1 = .ok (.iload_n 0, 1) := mj_d (q := (1, .iload_n 0, 1)) k_CF_terminalBit 1 rfl
theorem d_CF_terminalBit_2 : decode y_CF_terminalBit.2.2.1 2 = .ok (.bipush 8, 2) := mj_d (q := (2, .bipush 8, 2)) k_CF_terminalBit 2 rfl
theorem d_CF_terminalBit_4 : decode y_CF_terminalBit.2.2.1 4 = .ok (.isub, 1) := mj_d (q := (4, .isub, 1)) k_CF_terminalBit 3 rfl
theorem d_CF_terminalBit_5 : decode y_CF_terminalBit.2.2.1 5 = .ok (.ishl, 1) := mj_d (q := (5, .ishl, 1)) k_CF_terminalBit 4 rfl
theorem d_CF_terminalBit_6 : decode y_CF_terminalBit.2.2.1 6 = .ok (.ireturn, 1) := mj_d (q := (6, .ireturn, 1)) k_CF_terminalBit 5 rfl
theorem d_CF_nodes_0 : decode y_CF_nodes.2.2.1 0 = .ok (.aload_n 0, 1) := mj_d (q := (0, .aload_n 0, 1)) k_CF_nodes 0 rfl
theorem d_CF_nodes_1 : decode y_CF_nodes.2.2.1 1 = .ok (.getfield 37, 3) := mj_d (q := (1, .getfield 37, 3)) k_CF_nodes 1 rfl
theorem d_CF_nodes_4 : decode y_CF_nodes.2.2.1 4 = .ok (.invokevirtual 116, 3) := mj_d (q := (4, .invokevirtual 116, 3)) k_CF_nodes 2 rfl
theorem d_CF_nodes_7 : decode y_CF_nodes.2.2.1 7 = .ok (.aload_n 0, 1) := mj_d (q := (7, .aload_n 0, 1)) k_CF_nodes 3 rfl
theorem d_CF_nodes_8 : decode y_CF_nodes.2.2.1 8 = .ok (.getfield 37, 3) := mj_d (q := (8, .getfield 37, 3)) k_CF_nodes 4 rfl
theorem d_CF_nodes_11 : decode y_CF_nodes.2.2.1 11 = .ok (.invokevirtual 127, 3) := mj_d (q := (11, .invokevirtual 127, 3)) k_CF_nodes 5 rfl
theorem d_CF_nodes_14 : decode y_CF_nodes.2.2.1 14 = .ok (.ireturn, 1) := mj_d (q := (14, .ireturn, 1)) k_CF_nodes 6 rfl
theorem d_Fo_makeReady_0 : decode y_Fo_makeReady.2.2.1 0 = .ok (.aload_n 0, 1) := mj_d (q := (0, .aload_n 0, 1)) k_Fo_makeReady 0 rfl
theorem d_Fo_makeReady_1 : decode y_Fo_makeReady.2.2.1 1 = .ok (.getfield 45, 3) := mj_d (q := (1, .getfield 45, 3)) k_Fo_makeReady 1 rfl
theorem d_Fo_makeReady_4 : decode y_Fo_makeReady.2.2.1 4 = .ok (.istore_n 1, 1) := mj_d (q := (4, .istore_n 1, 1)) k_Fo_makeReady 2 rfl
theorem d_Fo_makeReady_5 : decode y_Fo_makeReady.2.2.1 5 = .ok (.iload_n 1, 1) := mj_d (q := (5, .iload_n 1, 1)) k_Fo_makeReady 3 rfl
theorem d_Fo_makeReady_6 : decode y_Fo_makeReady.2.2.1 6 = .ok (.aload_n 0, 1) := mj_d (q := (6, .aload_n 0, 1)) k_Fo_makeReady 4 rfl
theorem d_Fo_makeReady_7 : decode y_Fo_makeReady.2.2.1 7 = .ok (.getfield 23, 3) := mj_d (q := (7, .getfield 23, 3)) k_Fo_makeReady 5 rfl
theorem d_Fo_makeReady_10 : decode y_Fo_makeReady.2.2.1 10 = .ok (.getfield 55, 3) := mj_d (q := (10, .getfield 55, 3)) k_Fo_makeReady 6 rfl
theorem d_Fo_makeReady_13 : decode y_Fo_makeReady.2.2.1 13 = .ok (.if_icmp .gt 33, 3) := mj_d (q := (13, .if_icmp .gt 33, 3)) k_Fo_makeReady 7 rfl
theorem d_Fo_makeReady_16 : decode y_Fo_makeReady.2.2.1 16 = .ok (.iload_n 1, 1) := mj_d (q := (16, .iload_n 1, 1)) k_Fo_makeReady 8 rfl
theorem d_Fo_makeReady_17 : decode y_Fo_makeReady.2.2.1 17 = .ok (.istore_n 2, 1) := mj_d (q := (17, .istore_n 2, 1)) k_Fo_makeReady 9 rfl
theorem d_Fo_makeReady_18 : decode y_Fo_makeReady.2.2.1 18 = .ok (.iload_n 2, 1) := mj_d (q := (18, .iload_n 2, 1)) k_Fo_makeReady 10 rfl
theorem d_Fo_makeReady_19 : decode y_Fo_makeReady.2.2.1 19 = .ok (.ifCond .lt 21, 3) := mj_d (q := (19, .ifCond .lt 21, 3)) k_Fo_makeReady 11 rfl
theorem d_Fo_makeReady_22 : decode y_Fo_makeReady.2.2.1 22 = .ok (.aload_n 0, 1) := mj_d (q := (22, .aload_n 0, 1)) k_Fo_makeReady 12 rfl
theorem d_Fo_makeReady_23 : decode y_Fo_makeReady.2.2.1 23 = .ok (.iload_n 2, 1) := mj_d (q := (23, .iload_n 2, 1)) k_Fo_makeReady 13 rfl
theorem d_Fo_makeReady_24 : decode y_Fo_makeReady.2.2.1 24 = .ok (.iload_n 1, 1) := mj_d (q := (24, .iload_n 1, 1)) k_Fo_makeReady 14 rfl
theorem d_Fo_makeReady_25 : decode y_Fo_makeReady.2.2.1 25 = .ok (.invokevirtual 60, 3) := mj_d (q := (25, .invokevirtual 60, 3)) k_Fo_makeReady 15 rfl
theorem d_Fo_makeReady_28 : decode y_Fo_makeReady.2.2.1 28 = .ok (.aload_n 0, 1) := mj_d (q := (28, .aload_n 0, 1)) k_Fo_makeReady 16 rfl
theorem d_Fo_makeReady_29 : decode y_Fo_makeReady.2.2.1 29 = .ok (.iload_n 2, 1) := mj_d (q := (29, .iload_n 2, 1)) k_Fo_makeReady 17 rfl
theorem d_Fo_makeReady_30 : decode y_Fo_makeReady.2.2.1 30 = .ok (.iload_n 1, 1) := mj_d (q := (30, .iload_n 1, 1)) k_Fo_makeReady 18 rfl
theorem d_Fo_makeReady_31 : decode y_Fo_makeReady.2.2.1 31 = .ok (.invokevirtual 64, 3) := mj_d (q := (31, .invokevirtual 64, 3)) k_Fo_makeReady 19 rfl
theorem d_Fo_makeReady_34 : decode y_Fo_makeReady.2.2.1 34 = .ok (.iinc 2 (-1), 3) := mj_d (q := (34, .iinc 2 (-1), 3)) k_Fo_makeReady 20 rfl
theorem d_Fo_makeReady_37 : decode y_Fo_makeReady.2.2.1 37 = .ok (.goto (-19), 3) := mj_d (q := (37, .goto (-19), 3)) k_Fo_makeReady 21 rfl
theorem d_Fo_makeReady_40 : decode y_Fo_makeReady.2.2.1 40 = .ok (.iinc 1 1, 3) := mj_d (q := (40, .iinc 1 1, 3)) k_Fo_makeReady 22 rfl
theorem d_Fo_makeReady_43 : decode y_Fo_makeReady.2.2.1 43 = .ok (.goto (-38), 3) := mj_d (q := (43, .goto (-38), 3)) k_Fo_makeReady 23 rfl
theorem d_Fo_makeReady_46 : decode y_Fo_makeReady.2.2.1 46 = .ok (.aload_n 0, 1) := mj_d (q := (46, .aload_n 0, 1)) k_Fo_makeReady 24 rfl
theorem d_Fo_makeReady_47 : decode y_Fo_makeReady.2.2.1 47 = .ok (.aload_n 0, 1) := mj_d (q := (47, .aload_n 0, 1)) k_Fo_makeReady 25 rfl
theorem d_Fo_makeReady_48 : decode y_Fo_makeReady.2.2.1 48 = .ok (.getfield 23, 3) := mj_d (q := (48, .getfield 23, 3)) k_Fo_makeReady 26 rfl
theorem d_Fo_makeReady_51 : decode y_Fo_makeReady.2.2.1 51 = .ok (.getfield 55, 3) := mj_d (q := (51, .getfield 55, 3)) k_Fo_makeReady 27 rfl
theorem d_Fo_makeReady_54 : decode y_Fo_makeReady.2.2.1 54 = .ok (.iconst 1, 1) := mj_d (q := (54, .iconst 1, 1)) k_Fo_makeReady 28 rfl
theorem d_Fo_makeReady_55 : decode y_Fo_makeReady.2.2.1 55 = .ok (.iadd, 1) := mj_d (q := (55, .iadd, 1)) k_Fo_makeReady 29 rfl
theorem d_Fo_makeReady_56 : decode y_Fo_makeReady.2.2.1 56 = .ok (.putfield 45, 3) := mj_d (q := (56, .putfield 45, 3)) k_Fo_makeReady 30 rfl
theorem d_Fo_makeReady_59 : decode y_Fo_makeReady.2.2.1 59 = .ok (.return_, 1) := mj_d (q := (59, .return_, 1)) k_Fo_makeReady 31 rfl
theorem d_Fo_findDeriving_0 : decode y_Fo_findDeriving.2.2.1 0 = .ok (.iconst 0, 1) := mj_d (q := (0, .iconst 0, 1)) k_Fo_findDeriving 0 rfl
theorem d_Fo_findDeriving_1 : decode y_Fo_findDeriving.2.2.1 1 = .ok (.istore_n 3, 1) := mj_d (q := (1, .istore_n 3, 1)) k_Fo_findDeriving 1 rfl
theorem d_Fo_findDeriving_2 : decode y_Fo_findDeriving.2.2.1 2 = .ok (.iload_n 3, 1) := mj_d (q := (2, .iload_n 3, 1)) k_Fo_findDeriving 2 rfl
theorem d_Fo_findDeriving_3 : decode y_Fo_findDeriving.2.2.1 3 = .ok (.iconst 5, 1) := mj_d (q := (3, .iconst 5, 1)) k_Fo_findDeriving 3 rfl
theorem d_Fo_findDeriving_4 : decode y_Fo_findDeriving.2.2.1 4 = .ok (.if_icmp .ge 24, 3) := mj_d (q := (4, .if_icmp .ge 24, 3)) k_Fo_findDeriving 4 rfl
theorem d_Fo_findDeriving_7 : decode y_Fo_findDeriving.2.2.1 7 = .ok (.aload_n 0, 1) := mj_d (q := (7, .aload_n 0, 1)) k_Fo_findDeriving 5 rfl
theorem d_Fo_findDeriving_8 : decode y_Fo_findDeriving.2.2.1 8 = .ok (.getfield 32, 3) := mj_d (q := (8, .getfield 32, 3)) k_Fo_findDeriving 6 rfl
theorem d_Fo_findDeriving_11 : decode y_Fo_findDeriving.2.2.1 11 = .ok (.getfield 78, 3) := mj_d (q := (11, .getfield 78, 3)) k_Fo_findDeriving 7 rfl
theorem d_Fo_findDeriving_14 : decode y_Fo_findDeriving.2.2.1 14 = .ok (.iload_n 3, 1) := mj_d (q := (14, .iload_n 3, 1)) k_Fo_findDeriving 8 rfl
theorem d_Fo_findDeriving_15 : decode y_Fo_findDeriving.2.2.1 15 = .ok (.iload_n 1, 1) := mj_d (q := (15, .iload_n 1, 1)) k_Fo_findDeriving 9 rfl
theorem d_Fo_findDeriving_16 : decode y_Fo_findDeriving.2.2.1 16 = .ok (.iload_n 2, 1) := mj_d (q := (16, .iload_n 2, 1)) k_Fo_findDeriving 10 rfl
theorem d_Fo_findDeriving_17 : decode y_Fo_findDeriving.2.2.1 17 = .ok (.invokestatic 81, 3) := mj_d (q := (17, .invokestatic 81, 3)) k_Fo_findDeriving 11 rfl
theorem d_Fo_findDeriving_20 : decode y_Fo_findDeriving.2.2.1 20 = .ok (.lconst 0, 1) := mj_d (q := (20, .lconst 0, 1)) k_Fo_findDeriving 12 rfl
theorem d_Fo_findDeriving_21 : decode y_Fo_findDeriving.2.2.1 21 = .ok (.lastore, 1) := mj_d (q := (21, .lastore, 1)) k_Fo_findDeriving 13 rfl
theorem d_Fo_findDeriving_22 : decode y_Fo_findDeriving.2.2.1 22 = .ok (.iinc 3 1, 3) := mj_d (q := (22, .iinc 3 1, 3)) k_Fo_findDeriving 14 rfl
theorem d_Fo_findDeriving_25 : decode y_Fo_findDeriving.2.2.1 25 = .ok (.goto (-23), 3) := mj_d (q := (25, .goto (-23), 3)) k_Fo_findDeriving 15 rfl
theorem d_Fo_findDeriving_28 : decode y_Fo_findDeriving.2.2.1 28 = .ok (.iconst 1, 1) := mj_d (q := (28, .iconst 1, 1)) k_Fo_findDeriving 16 rfl
theorem d_Fo_findDeriving_29 : decode y_Fo_findDeriving.2.2.1 29 = .ok (.istore_n 3, 1) := mj_d (q := (29, .istore_n 3, 1)) k_Fo_findDeriving 17 rfl
theorem d_Fo_findDeriving_30 : decode y_Fo_findDeriving.2.2.1 30 = .ok (.iconst 0, 1) := mj_d (q := (30, .iconst 0, 1)) k_Fo_findDeriving 18 rfl
theorem d_Fo_findDeriving_31 : decode y_Fo_findDeriving.2.2.1 31 = .ok (.istore 4, 2) := mj_d (q := (31, .istore 4, 2)) k_Fo_findDeriving 19 rfl
theorem d_Fo_findDeriving_33 : decode y_Fo_findDeriving.2.2.1 33 = .ok (.iload_n 3, 1) := mj_d (q := (33, .iload_n 3, 1)) k_Fo_findDeriving 20 rfl
theorem d_Fo_findDeriving_34 : decode y_Fo_findDeriving.2.2.1 34 = .ok (.ifCond .eq 114, 3) := mj_d (q := (34, .ifCond .eq 114, 3)) k_Fo_findDeriving 21 rfl
theorem d_Fo_findDeriving_37 : decode y_Fo_findDeriving.2.2.1 37 = .ok (.iload 4, 2) := mj_d (q := (37, .iload 4, 2)) k_Fo_findDeriving 22 rfl
theorem d_Fo_findDeriving_39 : decode y_Fo_findDeriving.2.2.1 39 = .ok (.iconst 5, 1) := mj_d (q := (39, .iconst 5, 1)) k_Fo_findDeriving 23 rfl
theorem d_Fo_findDeriving_40 : decode y_Fo_findDeriving.2.2.1 40 = .ok (.if_icmp .ge 108, 3) := mj_d (q := (40, .if_icmp .ge 108, 3)) k_Fo_findDeriving 24 rfl
theorem d_Fo_findDeriving_43 : decode y_Fo_findDeriving.2.2.1 43 = .ok (.iconst 0, 1) := mj_d (q := (43, .iconst 0, 1)) k_Fo_findDeriving 25 rfl
theorem d_Fo_findDeriving_44 : decode y_Fo_findDeriving.2.2.1 44 = .ok (.istore_n 3, 1) := mj_d (q := (44, .istore_n 3, 1)) k_Fo_findDeriving 26 rfl
theorem d_Fo_findDeriving_45 : decode y_Fo_findDeriving.2.2.1 45 = .ok (.iconst 0, 1) := mj_d (q := (45, .iconst 0, 1)) k_Fo_findDeriving 27 rfl
theorem d_Fo_findDeriving_46 : decode y_Fo_findDeriving.2.2.1 46 = .ok (.istore 5, 2) := mj_d (q := (46, .istore 5, 2)) k_Fo_findDeriving 28 rfl
theorem d_Fo_findDeriving_48 : decode y_Fo_findDeriving.2.2.1 48 = .ok (.iload 5, 2) := mj_d (q := (48, .iload 5, 2)) k_Fo_findDeriving 29 rfl
theorem d_Fo_findDeriving_50 : decode y_Fo_findDeriving.2.2.1 50 = .ok (.iconst 5, 1) := mj_d (q := (50, .iconst 5, 1)) k_Fo_findDeriving 30 rfl
theorem d_Fo_findDeriving_51 : decode y_Fo_findDeriving.2.2.1 51 = .ok (.if_icmp .ge 91, 3) := mj_d (q := (51, .if_icmp .ge 91, 3)) k_Fo_findDeriving 31 rfl
theorem d_Fo_findDeriving_54 : decode y_Fo_findDeriving.2.2.1 54 = .ok (.iload 5, 2) := mj_d (q := (54, .iload 5, 2)) k_Fo_findDeriving 32 rfl
theorem d_Fo_findDeriving_56 : decode y_Fo_findDeriving.2.2.1 56 = .ok (.iload_n 1, 1) := mj_d (q := (56, .iload_n 1, 1)) k_Fo_findDeriving 33 rfl
theorem d_Fo_findDeriving_57 : decode y_Fo_findDeriving.2.2.1 57 = .ok (.iload_n 2, 1) := mj_d (q := (57, .iload_n 2, 1)) k_Fo_findDeriving 34 rfl
theorem d_Fo_findDeriving_58 : decode y_Fo_findDeriving.2.2.1 58 = .ok (.invokestatic 81, 3) := mj_d (q := (58, .invokestatic 81, 3)) k_Fo_findDeriving 35 rfl
theorem d_Fo_findDeriving_61 : decode y_Fo_findDeriving.2.2.1 61 = .ok (.istore 6, 2) := mj_d (q := (61, .istore 6, 2)) k_Fo_findDeriving 36 rfl
theorem d_Fo_findDeriving_63 : decode y_Fo_findDeriving.2.2.1 63 = .ok (.aload_n 0, 1) := mj_d (q := (63, .aload_n 0, 1)) k_Fo_findDeriving 37 rfl
theorem d_Fo_findDeriving_64 : decode y_Fo_findDeriving.2.2.1 64 = .ok (.getfield 32, 3) := mj_d (q := (64, .getfield 32, 3)) k_Fo_findDeriving 38 rfl
theorem d_Fo_findDeriving_67 : decode y_Fo_findDeriving.2.2.1 67 = .ok (.getfield 78, 3) := mj_d (q := (67, .getfield 78, 3)) k_Fo_findDeriving 39 rfl
theorem d_Fo_findDeriving_70 : decode y_Fo_findDeriving.2.2.1 70 = .ok (.iload 6, 2) := mj_d (q := (70, .iload 6, 2)) k_Fo_findDeriving 40 rfl
theorem d_Fo_findDeriving_72 : decode y_Fo_findDeriving.2.2.1 72 = .ok (.laload, 1) := mj_d (q := (72, .laload, 1)) k_Fo_findDeriving 41 rfl
theorem d_Fo_findDeriving_73 : decode y_Fo_findDeriving.2.2.1 73 = .ok (.lconst 0, 1) := mj_d (q := (73, .lconst 0, 1)) k_Fo_findDeriving 42 rfl
theorem d_Fo_findDeriving_74 : decode y_Fo_findDeriving.2.2.1 74 = .ok (.lcmp, 1) := mj_d (q := (74, .lcmp, 1)) k_Fo_findDeriving 43 rfl
theorem d_Fo_findDeriving_75 : decode y_Fo_findDeriving.2.2.1 75 = .ok (.ifCond .ne 61, 3) := mj_d (q := (75, .ifCond .ne 61, 3)) k_Fo_findDeriving 44 rfl
theorem d_Fo_findDeriving_78 : decode y_Fo_findDeriving.2.2.1 78 = .ok (.aload_n 0, 1) := mj_d (q := (78, .aload_n 0, 1)) k_Fo_findDeriving 45 rfl
theorem d_Fo_findDeriving_79 : decode y_Fo_findDeriving.2.2.1 79 = .ok (.getfield 41, 3) := mj_d (q := (79, .getfield 41, 3)) k_Fo_findDeriving 46 rfl
theorem d_Fo_findDeriving_82 : decode y_Fo_findDeriving.2.2.1 82 = .ok (.iload 5, 2) := mj_d (q := (82, .iload 5, 2)) k_Fo_findDeriving 47 rfl
theorem d_Fo_findDeriving_84 : decode y_Fo_findDeriving.2.2.1 84 = .ok (.iload_n 1, 1) := mj_d (q := (84, .iload_n 1, 1)) k_Fo_findDeriving 48 rfl
theorem d_Fo_findDeriving_85 : decode y_Fo_findDeriving.2.2.1 85 = .ok (.iload_n 2, 1) := mj_d (q := (85, .iload_n 2, 1)) k_Fo_findDeriving 49 rfl
theorem d_Fo_findDeriving_86 : decode y_Fo_findDeriving.2.2.1 86 = .ok (.invokevirtual 67, 3) := mj_d (q := (86, .invokevirtual 67, 3)) k_Fo_findDeriving 50 rfl
theorem d_Fo_findDeriving_89 : decode y_Fo_findDeriving.2.2.1 89 = .ok (.aload_n 0, 1) := mj_d (q := (89, .aload_n 0, 1)) k_Fo_findDeriving 51 rfl
theorem d_Fo_findDeriving_90 : decode y_Fo_findDeriving.2.2.1 90 = .ok (.getfield 32, 3) := mj_d (q := (90, .getfield 32, 3)) k_Fo_findDeriving 52 rfl
theorem d_Fo_findDeriving_93 : decode y_Fo_findDeriving.2.2.1 93 = .ok (.getfield 78, 3) := mj_d (q := (93, .getfield 78, 3)) k_Fo_findDeriving 53 rfl
theorem d_Fo_findDeriving_96 : decode y_Fo_findDeriving.2.2.1 96 = .ok (.iload 6, 2) := mj_d (q := (96, .iload 6, 2)) k_Fo_findDeriving 54 rfl
theorem d_Fo_findDeriving_98 : decode y_Fo_findDeriving.2.2.1 98 = .ok (.aload_n 0, 1) := mj_d (q := (98, .aload_n 0, 1)) k_Fo_findDeriving 55 rfl
theorem d_Fo_findDeriving_99 : decode y_Fo_findDeriving.2.2.1 99 = .ok (.getfield 41, 3) := mj_d (q := (99, .getfield 41, 3)) k_Fo_findDeriving 56 rfl
theorem d_Fo_findDeriving_102 : decode y_Fo_findDeriving.2.2.1 102 = .ok (.getfield 71, 3) := mj_d (q := (102, .getfield 71, 3)) k_Fo_findDeriving 57 rfl
theorem d_Fo_findDeriving_105 : decode y_Fo_findDeriving.2.2.1 105 = .ok (.ifCond .le 9, 3) := mj_d (q := (105, .ifCond .le 9, 3)) k_Fo_findDeriving 58 rfl
theorem d_Fo_findDeriving_108 : decode y_Fo_findDeriving.2.2.1 108 = .ok (.ldc2_w 85, 3) := mj_d (q := (108, .ldc2_w 85, 3)) k_Fo_findDeriving 59 rfl
theorem d_Fo_findDeriving_111 : decode y_Fo_findDeriving.2.2.1 111 = .ok (.goto 4, 3) := mj_d (q := (111, .goto 4, 3)) k_Fo_findDeriving 60 rfl
theorem d_Fo_findDeriving_114 : decode y_Fo_findDeriving.2.2.1 114 = .ok (.lconst 0, 1) := mj_d (q := (114, .lconst 0, 1)) k_Fo_findDeriving 61 rfl
theorem d_Fo_findDeriving_115 : decode y_Fo_findDeriving.2.2.1 115 = .ok (.lastore, 1) := mj_d (q := (115, .lastore, 1)) k_Fo_findDeriving 62 rfl
theorem d_Fo_findDeriving_116 : decode y_Fo_findDeriving.2.2.1 116 = .ok (.iload_n 3, 1) := mj_d (q := (116, .iload_n 3, 1)) k_Fo_findDeriving 63 rfl
theorem d_Fo_findDeriving_117 : decode y_Fo_findDeriving.2.2.1 117 = .ok (.ifCond .ne 13, 3) := mj_d (q := (117, .ifCond .ne 13, 3)) k_Fo_findDeriving 64 rfl
theorem d_Fo_findDeriving_120 : decode y_Fo_findDeriving.2.2.1 120 = .ok (.aload_n 0, 1) := mj_d (q := (120, .aload_n 0, 1)) k_Fo_findDeriving 65 rfl
theorem d_Fo_findDeriving_121 : decode y_Fo_findDeriving.2.2.1 121 = .ok (.getfield 41, 3) := mj_d (q := (121, .getfield 41, 3)) k_Fo_findDeriving 66 rfl
theorem d_Fo_findDeriving_124 : decode y_Fo_findDeriving.2.2.1 124 = .ok (.getfield 71, 3) := mj_d (q := (124, .getfield 71, 3)) k_Fo_findDeriving 67 rfl
theorem d_Fo_findDeriving_127 : decode y_Fo_findDeriving.2.2.1 127 = .ok (.ifCond .le 7, 3) := mj_d (q := (127, .ifCond .le 7, 3)) k_Fo_findDeriving 68 rfl
theorem d_Fo_findDeriving_130 : decode y_Fo_findDeriving.2.2.1 130 = .ok (.iconst 1, 1) := mj_d (q := (130, .iconst 1, 1)) k_Fo_findDeriving 69 rfl
theorem d_Fo_findDeriving_131 : decode y_Fo_findDeriving.2.2.1 131 = .ok (.goto 4, 3) := mj_d (q := (131, .goto 4, 3)) k_Fo_findDeriving 70 rfl
theorem d_Fo_findDeriving_134 : decode y_Fo_findDeriving.2.2.1 134 = .ok (.iconst 0, 1) := mj_d (q := (134, .iconst 0, 1)) k_Fo_findDeriving 71 rfl
theorem d_Fo_findDeriving_135 : decode y_Fo_findDeriving.2.2.1 135 = .ok (.istore_n 3, 1) := mj_d (q := (135, .istore_n 3, 1)) k_Fo_findDeriving 72 rfl
theorem d_Fo_findDeriving_136 : decode y_Fo_findDeriving.2.2.1 136 = .ok (.iinc 5 1, 3) := mj_d (q := (136, .iinc 5 1, 3)) k_Fo_findDeriving 73 rfl
theorem d_Fo_findDeriving_139 : decode y_Fo_findDeriving.2.2.1 139 = .ok (.goto (-91), 3) := mj_d (q := (139, .goto (-91), 3)) k_Fo_findDeriving 74 rfl
theorem d_Fo_findDeriving_142 : decode y_Fo_findDeriving.2.2.1 142 = .ok (.iinc 4 1, 3) := mj_d (q := (142, .iinc 4 1, 3)) k_Fo_findDeriving 75 rfl
theorem d_Fo_findDeriving_145 : decode y_Fo_findDeriving.2.2.1 145 = .ok (.goto (-112), 3) := mj_d (q := (145, .goto (-112), 3)) k_Fo_findDeriving 76 rfl
theorem d_Fo_findDeriving_148 : decode y_Fo_findDeriving.2.2.1 148 = .ok (.return_, 1) := mj_d (q := (148, .return_, 1)) k_Fo_findDeriving 77 rfl
theorem d_CF_cellOf_0 : decode y_CF_cellOf.2.2.1 0 = .ok (.iload_n 0, 1) := mj_d (q := (0, .iload_n 0, 1)) k_CF_cellOf 0 rfl
theorem d_CF_cellOf_1 : decode y_CF_cellOf.2.2.1 1 = .ok (.bipush 13, 2) := mj_d (q := (1, .bipush 13, 2)) k_CF_cellOf 1 rfl
theorem d_CF_cellOf_3 : decode y_CF_cellOf.2.2.1 3 = .ok (.imul, 1) := mj_d (q := (3, .imul, 1)) k_CF_cellOf 2 rfl
theorem d_CF_cellOf_4 : decode y_CF_cellOf.2.2.1 4 = .ok (.iload_n 1, 1) := mj_d (q := (4, .iload_n 1, 1)) k_CF_cellOf 3 rfl
theorem d_CF_cellOf_5 : decode y_CF_cellOf.2.2.1 5 = .ok (.iadd, 1) := mj_d (q := (5, .iadd, 1)) k_CF_cellOf 4 rfl
theorem d_CF_cellOf_6 : decode y_CF_cellOf.2.2.1 6 = .ok (.bipush 13, 2) := mj_d (q := (6, .bipush 13, 2)) k_CF_cellOf 5 rfl
theorem d_CF_cellOf_8 : decode y_CF_cellOf.2.2.1 8 = .ok (.imul, 1) := mj_d (q := (8, .imul, 1)) k_CF_cellOf 6 rfl
theorem d_CF_cellOf_9 : decode y_CF_cellOf.2.2.1 9 = .ok (.iload_n 2, 1) := mj_d (q := (9, .iload_n 2, 1)) k_CF_cellOf 7 rfl
theorem d_CF_cellOf_10 : decode y_CF_cellOf.2.2.1 10 = .ok (.iadd, 1) := mj_d (q := (10, .iadd, 1)) k_CF_cellOf 8 rfl
theorem d_CF_cellOf_11 : decode y_CF_cellOf.2.2.1 11 = .ok (.ireturn, 1) := mj_d (q := (11, .ireturn, 1)) k_CF_cellOf 9 rfl
theorem d_Wa_gather_0 : decode y_Wa_gather.2.2.1 0 = .ok (.aload_n 0, 1) := mj_d (q := (0, .aload_n 0, 1)) k_Wa_gather 0 rfl
theorem d_Wa_gather_1 : decode y_Wa_gather.2.2.1 1 = .ok (.iload_n 2, 1) := mj_d (q := (1, .iload_n 2, 1)) k_Wa_gather 1 rfl
theorem d_Wa_gather_2 : decode y_Wa_gather.2.2.1 2 = .ok (.putfield 30, 3) := mj_d (q := (2, .putfield 30, 3)) k_Wa_gather 2 rfl
theorem d_Wa_gather_5 : decode y_Wa_gather.2.2.1 5 = .ok (.aload_n 0, 1) := mj_d (q := (5, .aload_n 0, 1)) k_Wa_gather 3 rfl
theorem d_Wa_gather_6 : decode y_Wa_gather.2.2.1 6 = .ok (.iload_n 3, 1) := mj_d (q := (6, .iload_n 3, 1)) k_Wa_gather 4 rfl
theorem d_Wa_gather_7 : decode y_Wa_gather.2.2.1 7 = .ok (.putfield 34, 3) := mj_d (q := (7, .putfield 34, 3)) k_Wa_gather 5 rfl
theorem d_Wa_gather_10 : decode y_Wa_gather.2.2.1 10 = .ok (.aload_n 0, 1) := mj_d (q := (10, .aload_n 0, 1)) k_Wa_gather 6 rfl
theorem d_Wa_gather_11 : decode y_Wa_gather.2.2.1 11 = .ok (.iconst 0, 1) := mj_d (q := (11, .iconst 0, 1)) k_Wa_gather 7 rfl
theorem d_Wa_gather_12 : decode y_Wa_gather.2.2.1 12 = .ok (.putfield 37, 3) := mj_d (q := (12, .putfield 37, 3)) k_Wa_gather 8 rfl
theorem d_Wa_gather_15 : decode y_Wa_gather.2.2.1 15 = .ok (.iconst 0, 1) := mj_d (q := (15, .iconst 0, 1)) k_Wa_gather 9 rfl
theorem d_Wa_gather_16 : decode y_Wa_gather.2.2.1 16 = .ok (.istore 4, 2) := mj_d (q := (16, .istore 4, 2)) k_Wa_gather 10 rfl
theorem d_Wa_gather_18 : decode y_Wa_gather.2.2.1 18 = .ok (.iload 4, 2) := mj_d (q := (18, .iload 4, 2)) k_Wa_gather 11 rfl
theorem d_Wa_gather_20 : decode y_Wa_gather.2.2.1 20 = .ok (.aload_n 0, 1) := mj_d (q := (20, .aload_n 0, 1)) k_Wa_gather 12 rfl
theorem d_Wa_gather_21 : decode y_Wa_gather.2.2.1 21 = .ok (.getfield 22, 3) := mj_d (q := (21, .getfield 22, 3)) k_Wa_gather 13 rfl
theorem d_Wa_gather_24 : decode y_Wa_gather.2.2.1 24 = .ok (.getfield 40, 3) := mj_d (q := (24, .getfield 40, 3)) k_Wa_gather 14 rfl
theorem d_Wa_gather_27 : decode y_Wa_gather.2.2.1 27 = .ok (.if_icmp .ge 28, 3) := mj_d (q := (27, .if_icmp .ge 28, 3)) k_Wa_gather 15 rfl
theorem d_Wa_gather_30 : decode y_Wa_gather.2.2.1 30 = .ok (.aload_n 0, 1) := mj_d (q := (30, .aload_n 0, 1)) k_Wa_gather 16 rfl
theorem d_Wa_gather_31 : decode y_Wa_gather.2.2.1 31 = .ok (.getfield 22, 3) := mj_d (q := (31, .getfield 22, 3)) k_Wa_gather 17 rfl
theorem d_Wa_gather_34 : decode y_Wa_gather.2.2.1 34 = .ok (.iload 4, 2) := mj_d (q := (34, .iload 4, 2)) k_Wa_gather 18 rfl
theorem d_Wa_gather_36 : decode y_Wa_gather.2.2.1 36 = .ok (.invokevirtual 43, 3) := mj_d (q := (36, .invokevirtual 43, 3)) k_Wa_gather 19 rfl
theorem d_Wa_gather_39 : decode y_Wa_gather.2.2.1 39 = .ok (.iload_n 1, 1) := mj_d (q := (39, .iload_n 1, 1)) k_Wa_gather 20 rfl
theorem d_Wa_gather_40 : decode y_Wa_gather.2.2.1 40 = .ok (.if_icmp .ne 9, 3) := mj_d (q := (40, .if_icmp .ne 9, 3)) k_Wa_gather 21 rfl
theorem d_Wa_gather_43 : decode y_Wa_gather.2.2.1 43 = .ok (.aload_n 0, 1) := mj_d (q := (43, .aload_n 0, 1)) k_Wa_gather 22 rfl
theorem d_Wa_gather_44 : decode y_Wa_gather.2.2.1 44 = .ok (.iload 4, 2) := mj_d (q := (44, .iload 4, 2)) k_Wa_gather 23 rfl
theorem d_Wa_gather_46 : decode y_Wa_gather.2.2.1 46 = .ok (.invokevirtual 47, 3) := mj_d (q := (46, .invokevirtual 47, 3)) k_Wa_gather 24 rfl
theorem d_Wa_gather_49 : decode y_Wa_gather.2.2.1 49 = .ok (.iinc 4 1, 3) := mj_d (q := (49, .iinc 4 1, 3)) k_Wa_gather 25 rfl
theorem d_Wa_gather_52 : decode y_Wa_gather.2.2.1 52 = .ok (.goto (-34), 3) := mj_d (q := (52, .goto (-34), 3)) k_Wa_gather 26 rfl
theorem d_Wa_gather_55 : decode y_Wa_gather.2.2.1 55 = .ok (.return_, 1) := mj_d (q := (55, .return_, 1)) k_Wa_gather 27 rfl
theorem d_Wa_gatherRule_0 : decode y_Wa_gatherRule.2.2.1 0 = .ok (.iload_n 1, 1) := mj_d (q := (0, .iload_n 1, 1)) k_Wa_gatherRule 0 rfl
theorem d_Wa_gatherRule_1 : decode y_Wa_gatherRule.2.2.1 1 = .ok (.iconst 0, 1) := mj_d (q := (1, .iconst 0, 1)) k_Wa_gatherRule 1 rfl
theorem d_Wa_gatherRule_2 : decode y_Wa_gatherRule.2.2.1 2 = .ok (.invokestatic 51, 3) := mj_d (q := (2, .invokestatic 51, 3)) k_Wa_gatherRule 2 rfl
theorem d_Wa_gatherRule_5 : decode y_Wa_gatherRule.2.2.1 5 = .ok (.istore_n 2, 1) := mj_d (q := (5, .istore_n 2, 1)) k_Wa_gatherRule 3 rfl
theorem d_Wa_gatherRule_6 : decode y_Wa_gatherRule.2.2.1 6 = .ok (.aload_n 0, 1) := mj_d (q := (6, .aload_n 0, 1)) k_Wa_gatherRule 4 rfl
theorem d_Wa_gatherRule_7 : decode y_Wa_gatherRule.2.2.1 7 = .ok (.getfield 22, 3) := mj_d (q := (7, .getfield 22, 3)) k_Wa_gatherRule 5 rfl
theorem d_Wa_gatherRule_10 : decode y_Wa_gatherRule.2.2.1 10 = .ok (.getfield 55, 3) := mj_d (q := (10, .getfield 55, 3)) k_Wa_gatherRule 6 rfl
theorem d_Wa_gatherRule_13 : decode y_Wa_gatherRule.2.2.1 13 = .ok (.iload_n 2, 1) := mj_d (q := (13, .iload_n 2, 1)) k_Wa_gatherRule 7 rfl
theorem d_Wa_gatherRule_14 : decode y_Wa_gatherRule.2.2.1 14 = .ok (.iaload, 1) := mj_d (q := (14, .iaload, 1)) k_Wa_gatherRule 8 rfl
theorem d_Wa_gatherRule_15 : decode y_Wa_gatherRule.2.2.1 15 = .ok (.istore_n 3, 1) := mj_d (q := (15, .istore_n 3, 1)) k_Wa_gatherRule 9 rfl
theorem d_Wa_gatherRule_16 : decode y_Wa_gatherRule.2.2.1 16 = .ok (.aload_n 0, 1) := mj_d (q := (16, .aload_n 0, 1)) k_Wa_gatherRule 10 rfl
theorem d_Wa_gatherRule_17 : decode y_Wa_gatherRule.2.2.1 17 = .ok (.getfield 22, 3) := mj_d (q := (17, .getfield 22, 3)) k_Wa_gatherRule 11 rfl
theorem d_Wa_gatherRule_20 : decode y_Wa_gatherRule.2.2.1 20 = .ok (.getfield 55, 3) := mj_d (q := (20, .getfield 55, 3)) k_Wa_gatherRule 12 rfl
theorem d_Wa_gatherRule_23 : decode y_Wa_gatherRule.2.2.1 23 = .ok (.iload_n 2, 1) := mj_d (q := (23, .iload_n 2, 1)) k_Wa_gatherRule 13 rfl
theorem d_Wa_gatherRule_24 : decode y_Wa_gatherRule.2.2.1 24 = .ok (.iconst 1, 1) := mj_d (q := (24, .iconst 1, 1)) k_Wa_gatherRule 14 rfl
theorem d_Wa_gatherRule_25 : decode y_Wa_gatherRule.2.2.1 25 = .ok (.iadd, 1) := mj_d (q := (25, .iadd, 1)) k_Wa_gatherRule 15 rfl
theorem d_Wa_gatherRule_26 : decode y_Wa_gatherRule.2.2.1 26 = .ok (.iaload, 1) := mj_d (q := (26, .iaload, 1)) k_Wa_gatherRule 16 rfl
theorem d_Wa_gatherRule_27 : decode y_Wa_gatherRule.2.2.1 27 = .ok (.istore 4, 2) := mj_d (q := (27, .istore 4, 2)) k_Wa_gatherRule 17 rfl
theorem d_Wa_gatherRule_29 : decode y_Wa_gatherRule.2.2.1 29 = .ok (.aload_n 0, 1) := mj_d (q := (29, .aload_n 0, 1)) k_Wa_gatherRule 18 rfl
theorem d_Wa_gatherRule_30 : decode y_Wa_gatherRule.2.2.1 30 = .ok (.getfield 22, 3) := mj_d (q := (30, .getfield 22, 3)) k_Wa_gatherRule 19 rfl
theorem d_Wa_gatherRule_33 : decode y_Wa_gatherRule.2.2.1 33 = .ok (.getfield 55, 3) := mj_d (q := (33, .getfield 55, 3)) k_Wa_gatherRule 20 rfl
theorem d_Wa_gatherRule_36 : decode y_Wa_gatherRule.2.2.1 36 = .ok (.iload_n 2, 1) := mj_d (q := (36, .iload_n 2, 1)) k_Wa_gatherRule 21 rfl
theorem d_Wa_gatherRule_37 : decode y_Wa_gatherRule.2.2.1 37 = .ok (.iconst 2, 1) := mj_d (q := (37, .iconst 2, 1)) k_Wa_gatherRule 22 rfl
theorem d_Wa_gatherRule_38 : decode y_Wa_gatherRule.2.2.1 38 = .ok (.iadd, 1) := mj_d (q := (38, .iadd, 1)) k_Wa_gatherRule 23 rfl
theorem d_Wa_gatherRule_39 : decode y_Wa_gatherRule.2.2.1 39 = .ok (.iaload, 1) := mj_d (q := (39, .iaload, 1)) k_Wa_gatherRule 24 rfl
theorem d_Wa_gatherRule_40 : decode y_Wa_gatherRule.2.2.1 40 = .ok (.istore 5, 2) := mj_d (q := (40, .istore 5, 2)) k_Wa_gatherRule 25 rfl
theorem d_Wa_gatherRule_42 : decode y_Wa_gatherRule.2.2.1 42 = .ok (.iload 4, 2) := mj_d (q := (42, .iload 4, 2)) k_Wa_gatherRule 26 rfl
theorem d_Wa_gatherRule_44 : decode y_Wa_gatherRule.2.2.1 44 = .ok (.iconst (-1), 1) := mj_d (q := (44, .iconst (-1), 1)) k_Wa_gatherRule 27 rfl
theorem d_Wa_gatherRule_45 : decode y_Wa_gatherRule.2.2.1 45 = .ok (.if_icmp .ne 10, 3) := mj_d (q := (45, .if_icmp .ne 10, 3)) k_Wa_gatherRule 28 rfl
theorem d_Wa_gatherRule_48 : decode y_Wa_gatherRule.2.2.1 48 = .ok (.aload_n 0, 1) := mj_d (q := (48, .aload_n 0, 1)) k_Wa_gatherRule 29 rfl
theorem d_Wa_gatherRule_49 : decode y_Wa_gatherRule.2.2.1 49 = .ok (.getfield 34, 3) := mj_d (q := (49, .getfield 34, 3)) k_Wa_gatherRule 30 rfl
theorem d_Wa_gatherRule_52 : decode y_Wa_gatherRule.2.2.1 52 = .ok (.goto 7, 3) := mj_d (q := (52, .goto 7, 3)) k_Wa_gatherRule 31 rfl
theorem d_Wa_gatherRule_55 : decode y_Wa_gatherRule.2.2.1 55 = .ok (.aload_n 0, 1) := mj_d (q := (55, .aload_n 0, 1)) k_Wa_gatherRule 32 rfl
theorem d_Wa_gatherRule_56 : decode y_Wa_gatherRule.2.2.1 56 = .ok (.getfield 30, 3) := mj_d (q := (56, .getfield 30, 3)) k_Wa_gatherRule 33 rfl
theorem d_Wa_gatherRule_59 : decode y_Wa_gatherRule.2.2.1 59 = .ok (.istore 6, 2) := mj_d (q := (59, .istore 6, 2)) k_Wa_gatherRule 34 rfl
theorem d_Wa_gatherRule_61 : decode y_Wa_gatherRule.2.2.1 61 = .ok (.iload 6, 2) := mj_d (q := (61, .iload 6, 2)) k_Wa_gatherRule 35 rfl
theorem d_Wa_gatherRule_63 : decode y_Wa_gatherRule.2.2.1 63 = .ok (.aload_n 0, 1) := mj_d (q := (63, .aload_n 0, 1)) k_Wa_gatherRule 36 rfl
theorem d_Wa_gatherRule_64 : decode y_Wa_gatherRule.2.2.1 64 = .ok (.getfield 34, 3) := mj_d (q := (64, .getfield 34, 3)) k_Wa_gatherRule 37 rfl
theorem d_Wa_gatherRule_67 : decode y_Wa_gatherRule.2.2.1 67 = .ok (.if_icmp .gt 123, 3) := mj_d (q := (67, .if_icmp .gt 123, 3)) k_Wa_gatherRule 38 rfl
theorem d_Wa_gatherRule_70 : decode y_Wa_gatherRule.2.2.1 70 = .ok (.aload_n 0, 1) := mj_d (q := (70, .aload_n 0, 1)) k_Wa_gatherRule 39 rfl
theorem d_Wa_gatherRule_71 : decode y_Wa_gatherRule.2.2.1 71 = .ok (.getfield 26, 3) := mj_d (q := (71, .getfield 26, 3)) k_Wa_gatherRule 40 rfl
theorem d_Wa_gatherRule_74 : decode y_Wa_gatherRule.2.2.1 74 = .ok (.iload_n 3, 1) := mj_d (q := (74, .iload_n 3, 1)) k_Wa_gatherRule 41 rfl
theorem d_Wa_gatherRule_75 : decode y_Wa_gatherRule.2.2.1 75 = .ok (.aload_n 0, 1) := mj_d (q := (75, .aload_n 0, 1)) k_Wa_gatherRule 42 rfl
theorem d_Wa_gatherRule_76 : decode y_Wa_gatherRule.2.2.1 76 = .ok (.getfield 30, 3) := mj_d (q := (76, .getfield 30, 3)) k_Wa_gatherRule 43 rfl
theorem d_Wa_gatherRule_79 : decode y_Wa_gatherRule.2.2.1 79 = .ok (.iload 6, 2) := mj_d (q := (79, .iload 6, 2)) k_Wa_gatherRule 44 rfl
theorem d_Wa_gatherRule_81 : decode y_Wa_gatherRule.2.2.1 81 = .ok (.invokevirtual 58, 3) := mj_d (q := (81, .invokevirtual 58, 3)) k_Wa_gatherRule 45 rfl
theorem d_Wa_gatherRule_84 : decode y_Wa_gatherRule.2.2.1 84 = .ok (.lstore 7, 2) := mj_d (q := (84, .lstore 7, 2)) k_Wa_gatherRule 46 rfl
theorem d_Wa_gatherRule_86 : decode y_Wa_gatherRule.2.2.1 86 = .ok (.lload 7, 2) := mj_d (q := (86, .lload 7, 2)) k_Wa_gatherRule 47 rfl
theorem d_Wa_gatherRule_88 : decode y_Wa_gatherRule.2.2.1 88 = .ok (.lconst 0, 1) := mj_d (q := (88, .lconst 0, 1)) k_Wa_gatherRule 48 rfl
theorem d_Wa_gatherRule_89 : decode y_Wa_gatherRule.2.2.1 89 = .ok (.lcmp, 1) := mj_d (q := (89, .lcmp, 1)) k_Wa_gatherRule 49 rfl
theorem d_Wa_gatherRule_90 : decode y_Wa_gatherRule.2.2.1 90 = .ok (.ifCond .ne 6, 3) := mj_d (q := (90, .ifCond .ne 6, 3)) k_Wa_gatherRule 50 rfl
theorem d_Wa_gatherRule_93 : decode y_Wa_gatherRule.2.2.1 93 = .ok (.goto 91, 3) := mj_d (q := (93, .goto 91, 3)) k_Wa_gatherRule 51 rfl
theorem d_Wa_gatherRule_96 : decode y_Wa_gatherRule.2.2.1 96 = .ok (.iload 5, 2) := mj_d (q := (96, .iload 5, 2)) k_Wa_gatherRule 52 rfl
theorem d_Wa_gatherRule_98 : decode y_Wa_gatherRule.2.2.1 98 = .ok (.iconst (-1), 1) := mj_d (q := (98, .iconst (-1), 1)) k_Wa_gatherRule 53 rfl
theorem d_Wa_gatherRule_99 : decode y_Wa_gatherRule.2.2.1 99 = .ok (.if_icmp .ne 10, 3) := mj_d (q := (99, .if_icmp .ne 10, 3)) k_Wa_gatherRule 54 rfl
theorem d_Wa_gatherRule_102 : decode y_Wa_gatherRule.2.2.1 102 = .ok (.aload_n 0, 1) := mj_d (q := (102, .aload_n 0, 1)) k_Wa_gatherRule 55 rfl
theorem d_Wa_gatherRule_103 : decode y_Wa_gatherRule.2.2.1 103 = .ok (.getfield 34, 3) := mj_d (q := (103, .getfield 34, 3)) k_Wa_gatherRule 56 rfl
theorem d_Wa_gatherRule_106 : decode y_Wa_gatherRule.2.2.1 106 = .ok (.goto 5, 3) := mj_d (q := (106, .goto 5, 3)) k_Wa_gatherRule 57 rfl
theorem d_Wa_gatherRule_109 : decode y_Wa_gatherRule.2.2.1 109 = .ok (.iload 6, 2) := mj_d (q := (109, .iload 6, 2)) k_Wa_gatherRule 58 rfl
theorem d_Wa_gatherRule_111 : decode y_Wa_gatherRule.2.2.1 111 = .ok (.istore 9, 2) := mj_d (q := (111, .istore 9, 2)) k_Wa_gatherRule 59 rfl
theorem d_Wa_gatherRule_113 : decode y_Wa_gatherRule.2.2.1 113 = .ok (.iload 9, 2) := mj_d (q := (113, .iload 9, 2)) k_Wa_gatherRule 60 rfl
theorem d_Wa_gatherRule_115 : decode y_Wa_gatherRule.2.2.1 115 = .ok (.aload_n 0, 1) := mj_d (q := (115, .aload_n 0, 1)) k_Wa_gatherRule 61 rfl
theorem d_Wa_gatherRule_116 : decode y_Wa_gatherRule.2.2.1 116 = .ok (.getfield 34, 3) := mj_d (q := (116, .getfield 34, 3)) k_Wa_gatherRule 62 rfl
theorem d_Wa_gatherRule_119 : decode y_Wa_gatherRule.2.2.1 119 = .ok (.if_icmp .gt 65, 3) := mj_d (q := (119, .if_icmp .gt 65, 3)) k_Wa_gatherRule 63 rfl
theorem d_Wa_gatherRule_122 : decode y_Wa_gatherRule.2.2.1 122 = .ok (.lload 7, 2) := mj_d (q := (122, .lload 7, 2)) k_Wa_gatherRule 64 rfl
theorem d_Wa_gatherRule_124 : decode y_Wa_gatherRule.2.2.1 124 = .ok (.aload_n 0, 1) := mj_d (q := (124, .aload_n 0, 1)) k_Wa_gatherRule 65 rfl
theorem d_Wa_gatherRule_125 : decode y_Wa_gatherRule.2.2.1 125 = .ok (.getfield 26, 3) := mj_d (q := (125, .getfield 26, 3)) k_Wa_gatherRule 66 rfl
theorem d_Wa_gatherRule_128 : decode y_Wa_gatherRule.2.2.1 128 = .ok (.iload 4, 2) := mj_d (q := (128, .iload 4, 2)) k_Wa_gatherRule 67 rfl
theorem d_Wa_gatherRule_130 : decode y_Wa_gatherRule.2.2.1 130 = .ok (.iload 6, 2) := mj_d (q := (130, .iload 6, 2)) k_Wa_gatherRule 68 rfl
theorem d_Wa_gatherRule_132 : decode y_Wa_gatherRule.2.2.1 132 = .ok (.iload 9, 2) := mj_d (q := (132, .iload 9, 2)) k_Wa_gatherRule 69 rfl
theorem d_Wa_gatherRule_134 : decode y_Wa_gatherRule.2.2.1 134 = .ok (.invokevirtual 58, 3) := mj_d (q := (134, .invokevirtual 58, 3)) k_Wa_gatherRule 70 rfl
theorem d_Wa_gatherRule_137 : decode y_Wa_gatherRule.2.2.1 137 = .ok (.invokestatic 64, 3) := mj_d (q := (137, .invokestatic 64, 3)) k_Wa_gatherRule 71 rfl
theorem d_Wa_gatherRule_140 : decode y_Wa_gatherRule.2.2.1 140 = .ok (.lstore 10, 2) := mj_d (q := (140, .lstore 10, 2)) k_Wa_gatherRule 72 rfl
theorem d_Wa_gatherRule_142 : decode y_Wa_gatherRule.2.2.1 142 = .ok (.lload 10, 2) := mj_d (q := (142, .lload 10, 2)) k_Wa_gatherRule 73 rfl
theorem d_Wa_gatherRule_144 : decode y_Wa_gatherRule.2.2.1 144 = .ok (.lconst 0, 1) := mj_d (q := (144, .lconst 0, 1)) k_Wa_gatherRule 74 rfl
theorem d_Wa_gatherRule_145 : decode y_Wa_gatherRule.2.2.1 145 = .ok (.lcmp, 1) := mj_d (q := (145, .lcmp, 1)) k_Wa_gatherRule 75 rfl
theorem d_Wa_gatherRule_146 : decode y_Wa_gatherRule.2.2.1 146 = .ok (.ifCond .eq 32, 3) := mj_d (q := (146, .ifCond .eq 32, 3)) k_Wa_gatherRule 76 rfl
theorem d_Wa_gatherRule_149 : decode y_Wa_gatherRule.2.2.1 149 = .ok (.aload_n 0, 1) := mj_d (q := (149, .aload_n 0, 1)) k_Wa_gatherRule 77 rfl
theorem d_Wa_gatherRule_150 : decode y_Wa_gatherRule.2.2.1 150 = .ok (.iload_n 1, 1) := mj_d (q := (150, .iload_n 1, 1)) k_Wa_gatherRule 78 rfl
theorem d_Wa_gatherRule_151 : decode y_Wa_gatherRule.2.2.1 151 = .ok (.iload 6, 2) := mj_d (q := (151, .iload 6, 2)) k_Wa_gatherRule 79 rfl
theorem d_Wa_gatherRule_153 : decode y_Wa_gatherRule.2.2.1 153 = .ok (.iload 9, 2) := mj_d (q := (153, .iload 9, 2)) k_Wa_gatherRule 80 rfl
theorem d_Wa_gatherRule_155 : decode y_Wa_gatherRule.2.2.1 155 = .ok (.lload 10, 2) := mj_d (q := (155, .lload 10, 2)) k_Wa_gatherRule 81 rfl
theorem d_Wa_gatherRule_157 : decode y_Wa_gatherRule.2.2.1 157 = .ok (.aload_n 0, 1) := mj_d (q := (157, .aload_n 0, 1)) k_Wa_gatherRule 82 rfl
theorem d_Wa_gatherRule_158 : decode y_Wa_gatherRule.2.2.1 158 = .ok (.getfield 26, 3) := mj_d (q := (158, .getfield 26, 3)) k_Wa_gatherRule 83 rfl
theorem d_Wa_gatherRule_161 : decode y_Wa_gatherRule.2.2.1 161 = .ok (.iload 5, 2) := mj_d (q := (161, .iload 5, 2)) k_Wa_gatherRule 84 rfl
theorem d_Wa_gatherRule_163 : decode y_Wa_gatherRule.2.2.1 163 = .ok (.iload 9, 2) := mj_d (q := (163, .iload 9, 2)) k_Wa_gatherRule 85 rfl
theorem d_Wa_gatherRule_165 : decode y_Wa_gatherRule.2.2.1 165 = .ok (.aload_n 0, 1) := mj_d (q := (165, .aload_n 0, 1)) k_Wa_gatherRule 86 rfl
theorem d_Wa_gatherRule_166 : decode y_Wa_gatherRule.2.2.1 166 = .ok (.getfield 34, 3) := mj_d (q := (166, .getfield 34, 3)) k_Wa_gatherRule 87 rfl
theorem d_Wa_gatherRule_169 : decode y_Wa_gatherRule.2.2.1 169 = .ok (.invokevirtual 58, 3) := mj_d (q := (169, .invokevirtual 58, 3)) k_Wa_gatherRule 88 rfl
theorem d_Wa_gatherRule_172 : decode y_Wa_gatherRule.2.2.1 172 = .ok (.invokestatic 64, 3) := mj_d (q := (172, .invokestatic 64, 3)) k_Wa_gatherRule 89 rfl
theorem d_Wa_gatherRule_175 : decode y_Wa_gatherRule.2.2.1 175 = .ok (.invokevirtual 68, 3) := mj_d (q := (175, .invokevirtual 68, 3)) k_Wa_gatherRule 90 rfl
theorem d_Wa_gatherRule_178 : decode y_Wa_gatherRule.2.2.1 178 = .ok (.iinc 9 1, 3) := mj_d (q := (178, .iinc 9 1, 3)) k_Wa_gatherRule 91 rfl
theorem d_Wa_gatherRule_181 : decode y_Wa_gatherRule.2.2.1 181 = .ok (.goto (-68), 3) := mj_d (q := (181, .goto (-68), 3)) k_Wa_gatherRule 92 rfl
theorem d_Wa_gatherRule_184 : decode y_Wa_gatherRule.2.2.1 184 = .ok (.iinc 6 1, 3) := mj_d (q := (184, .iinc 6 1, 3)) k_Wa_gatherRule 93 rfl
theorem d_Wa_gatherRule_187 : decode y_Wa_gatherRule.2.2.1 187 = .ok (.goto (-126), 3) := mj_d (q := (187, .goto (-126), 3)) k_Wa_gatherRule 94 rfl
theorem d_Wa_gatherRule_190 : decode y_Wa_gatherRule.2.2.1 190 = .ok (.return_, 1) := mj_d (q := (190, .return_, 1)) k_Wa_gatherRule 95 rfl
theorem d_Co_over_0 : decode y_Co_over.2.2.1 0 = .ok (.iload_n 1, 1) := mj_d (q := (0, .iload_n 1, 1)) k_Co_over 0 rfl
theorem d_Co_over_1 : decode y_Co_over.2.2.1 1 = .ok (.iconst (-1), 1) := mj_d (q := (1, .iconst (-1), 1)) k_Co_over 1 rfl
theorem d_Co_over_2 : decode y_Co_over.2.2.1 2 = .ok (.if_icmp .ne 14, 3) := mj_d (q := (2, .if_icmp .ne 14, 3)) k_Co_over 2 rfl
theorem d_Co_over_5 : decode y_Co_over.2.2.1 5 = .ok (.iload_n 2, 1) := mj_d (q := (5, .iload_n 2, 1)) k_Co_over 3 rfl
theorem d_Co_over_6 : decode y_Co_over.2.2.1 6 = .ok (.iload_n 3, 1) := mj_d (q := (6, .iload_n 3, 1)) k_Co_over 4 rfl
theorem d_Co_over_7 : decode y_Co_over.2.2.1 7 = .ok (.if_icmp .ne 7, 3) := mj_d (q := (7, .if_icmp .ne 7, 3)) k_Co_over 5 rfl
theorem d_Co_over_10 : decode y_Co_over.2.2.1 10 = .ok (.lconst 1, 1) := mj_d (q := (10, .lconst 1, 1)) k_Co_over 6 rfl
theorem d_Co_over_11 : decode y_Co_over.2.2.1 11 = .ok (.goto 4, 3) := mj_d (q := (11, .goto 4, 3)) k_Co_over 7 rfl
theorem d_Co_over_14 : decode y_Co_over.2.2.1 14 = .ok (.lconst 0, 1) := mj_d (q := (14, .lconst 0, 1)) k_Co_over 8 rfl
theorem d_Co_over_15 : decode y_Co_over.2.2.1 15 = .ok (.lreturn, 1) := mj_d (q := (15, .lreturn, 1)) k_Co_over 9 rfl
theorem d_Co_over_16 : decode y_Co_over.2.2.1 16 = .ok (.iload_n 1, 1) := mj_d (q := (16, .iload_n 1, 1)) k_Co_over 10 rfl
theorem d_Co_over_17 : decode y_Co_over.2.2.1 17 = .ok (.bipush 8, 2) := mj_d (q := (17, .bipush 8, 2)) k_Co_over 11 rfl
theorem d_Co_over_19 : decode y_Co_over.2.2.1 19 = .ok (.if_icmp .lt 22, 3) := mj_d (q := (19, .if_icmp .lt 22, 3)) k_Co_over 12 rfl
theorem d_Co_over_22 : decode y_Co_over.2.2.1 22 = .ok (.aload_n 0, 1) := mj_d (q := (22, .aload_n 0, 1)) k_Co_over 13 rfl
theorem d_Co_over_23 : decode y_Co_over.2.2.1 23 = .ok (.getfield 15, 3) := mj_d (q := (23, .getfield 15, 3)) k_Co_over 14 rfl
theorem d_Co_over_26 : decode y_Co_over.2.2.1 26 = .ok (.iload_n 1, 1) := mj_d (q := (26, .iload_n 1, 1)) k_Co_over 15 rfl
theorem d_Co_over_27 : decode y_Co_over.2.2.1 27 = .ok (.iload_n 2, 1) := mj_d (q := (27, .iload_n 2, 1)) k_Co_over 16 rfl
theorem d_Co_over_28 : decode y_Co_over.2.2.1 28 = .ok (.iload_n 3, 1) := mj_d (q := (28, .iload_n 3, 1)) k_Co_over 17 rfl
theorem d_Co_over_29 : decode y_Co_over.2.2.1 29 = .ok (.invokevirtual 19, 3) := mj_d (q := (29, .invokevirtual 19, 3)) k_Co_over 18 rfl
theorem d_Co_over_32 : decode y_Co_over.2.2.1 32 = .ok (.ifCond .eq 7, 3) := mj_d (q := (32, .ifCond .eq 7, 3)) k_Co_over 19 rfl
theorem d_Co_over_35 : decode y_Co_over.2.2.1 35 = .ok (.lconst 1, 1) := mj_d (q := (35, .lconst 1, 1)) k_Co_over 20 rfl
theorem d_Co_over_36 : decode y_Co_over.2.2.1 36 = .ok (.goto 4, 3) := mj_d (q := (36, .goto 4, 3)) k_Co_over 21 rfl
theorem d_Co_over_39 : decode y_Co_over.2.2.1 39 = .ok (.lconst 0, 1) := mj_d (q := (39, .lconst 0, 1)) k_Co_over 22 rfl
theorem d_Co_over_40 : decode y_Co_over.2.2.1 40 = .ok (.lreturn, 1) := mj_d (q := (40, .lreturn, 1)) k_Co_over 23 rfl
theorem d_Co_over_41 : decode y_Co_over.2.2.1 41 = .ok (.aload_n 0, 1) := mj_d (q := (41, .aload_n 0, 1)) k_Co_over 24 rfl
theorem d_Co_over_42 : decode y_Co_over.2.2.1 42 = .ok (.getfield 9, 3) := mj_d (q := (42, .getfield 9, 3)) k_Co_over 25 rfl
theorem d_Co_over_45 : decode y_Co_over.2.2.1 45 = .ok (.iload_n 1, 1) := mj_d (q := (45, .iload_n 1, 1)) k_Co_over 26 rfl
theorem d_Co_over_46 : decode y_Co_over.2.2.1 46 = .ok (.iload_n 2, 1) := mj_d (q := (46, .iload_n 2, 1)) k_Co_over 27 rfl
theorem d_Co_over_47 : decode y_Co_over.2.2.1 47 = .ok (.iload_n 3, 1) := mj_d (q := (47, .iload_n 3, 1)) k_Co_over 28 rfl
theorem d_Co_over_48 : decode y_Co_over.2.2.1 48 = .ok (.invokestatic 25, 3) := mj_d (q := (48, .invokestatic 25, 3)) k_Co_over 29 rfl
theorem d_Co_over_51 : decode y_Co_over.2.2.1 51 = .ok (.laload, 1) := mj_d (q := (51, .laload, 1)) k_Co_over 30 rfl
theorem d_Co_over_52 : decode y_Co_over.2.2.1 52 = .ok (.lreturn, 1) := mj_d (q := (52, .lreturn, 1)) k_Co_over 31 rfl
theorem d_Ta_isJust_0 : decode y_Ta_isJust.2.2.1 0 = .ok (.iload_n 3, 1) := mj_d (q := (0, .iload_n 3, 1)) k_Ta_isJust 0 rfl
theorem d_Ta_isJust_1 : decode y_Ta_isJust.2.2.1 1 = .ok (.iload_n 2, 1) := mj_d (q := (1, .iload_n 2, 1)) k_Ta_isJust 1 rfl
theorem d_Ta_isJust_2 : decode y_Ta_isJust.2.2.1 2 = .ok (.iconst 1, 1) := mj_d (q := (2, .iconst 1, 1)) k_Ta_isJust 2 rfl
theorem d_Ta_isJust_3 : decode y_Ta_isJust.2.2.1 3 = .ok (.iadd, 1) := mj_d (q := (3, .iadd, 1)) k_Ta_isJust 3 rfl
theorem d_Ta_isJust_4 : decode y_Ta_isJust.2.2.1 4 = .ok (.if_icmp .ne 29, 3) := mj_d (q := (4, .if_icmp .ne 29, 3)) k_Ta_isJust 4 rfl
theorem d_Ta_isJust_7 : decode y_Ta_isJust.2.2.1 7 = .ok (.iload_n 2, 1) := mj_d (q := (7, .iload_n 2, 1)) k_Ta_isJust 5 rfl
theorem d_Ta_isJust_8 : decode y_Ta_isJust.2.2.1 8 = .ok (.ifCond .lt 25, 3) := mj_d (q := (8, .ifCond .lt 25, 3)) k_Ta_isJust 6 rfl
theorem d_Ta_isJust_11 : decode y_Ta_isJust.2.2.1 11 = .ok (.iload_n 2, 1) := mj_d (q := (11, .iload_n 2, 1)) k_Ta_isJust 7 rfl
theorem d_Ta_isJust_12 : decode y_Ta_isJust.2.2.1 12 = .ok (.aload_n 0, 1) := mj_d (q := (12, .aload_n 0, 1)) k_Ta_isJust 8 rfl
theorem d_Ta_isJust_13 : decode y_Ta_isJust.2.2.1 13 = .ok (.getfield 15, 3) := mj_d (q := (13, .getfield 15, 3)) k_Ta_isJust 9 rfl
theorem d_Ta_isJust_16 : decode y_Ta_isJust.2.2.1 16 = .ok (.if_icmp .ge 17, 3) := mj_d (q := (16, .if_icmp .ge 17, 3)) k_Ta_isJust 10 rfl
theorem d_Ta_isJust_19 : decode y_Ta_isJust.2.2.1 19 = .ok (.aload_n 0, 1) := mj_d (q := (19, .aload_n 0, 1)) k_Ta_isJust 11 rfl
theorem d_Ta_isJust_20 : decode y_Ta_isJust.2.2.1 20 = .ok (.getfield 9, 3) := mj_d (q := (20, .getfield 9, 3)) k_Ta_isJust 12 rfl
theorem d_Ta_isJust_23 : decode y_Ta_isJust.2.2.1 23 = .ok (.iload_n 2, 1) := mj_d (q := (23, .iload_n 2, 1)) k_Ta_isJust 13 rfl
theorem d_Ta_isJust_24 : decode y_Ta_isJust.2.2.1 24 = .ok (.iaload, 1) := mj_d (q := (24, .iaload, 1)) k_Ta_isJust 14 rfl
theorem d_Ta_isJust_25 : decode y_Ta_isJust.2.2.1 25 = .ok (.iload_n 1, 1) := mj_d (q := (25, .iload_n 1, 1)) k_Ta_isJust 15 rfl
theorem d_Ta_isJust_26 : decode y_Ta_isJust.2.2.1 26 = .ok (.if_icmp .ne 7, 3) := mj_d (q := (26, .if_icmp .ne 7, 3)) k_Ta_isJust 16 rfl
theorem d_Ta_isJust_29 : decode y_Ta_isJust.2.2.1 29 = .ok (.iconst 1, 1) := mj_d (q := (29, .iconst 1, 1)) k_Ta_isJust 17 rfl
theorem d_Ta_isJust_30 : decode y_Ta_isJust.2.2.1 30 = .ok (.goto 4, 3) := mj_d (q := (30, .goto 4, 3)) k_Ta_isJust 18 rfl
theorem d_Ta_isJust_33 : decode y_Ta_isJust.2.2.1 33 = .ok (.iconst 0, 1) := mj_d (q := (33, .iconst 0, 1)) k_Ta_isJust 19 rfl
theorem d_Ta_isJust_34 : decode y_Ta_isJust.2.2.1 34 = .ok (.ireturn, 1) := mj_d (q := (34, .ireturn, 1)) k_Ta_isJust 20 rfl
theorem d_CF_product_0 : decode y_CF_product.2.2.1 0 = .ok (.lload_n 0, 1) := mj_d (q := (0, .lload_n 0, 1)) k_CF_product 0 rfl
theorem d_CF_product_1 : decode y_CF_product.2.2.1 1 = .ok (.lconst 0, 1) := mj_d (q := (1, .lconst 0, 1)) k_CF_product 1 rfl
theorem d_CF_product_2 : decode y_CF_product.2.2.1 2 = .ok (.lcmp, 1) := mj_d (q := (2, .lcmp, 1)) k_CF_product 2 rfl
theorem d_CF_product_3 : decode y_CF_product.2.2.1 3 = .ok (.ifCond .eq 9, 3) := mj_d (q := (3, .ifCond .eq 9, 3)) k_CF_product 3 rfl
theorem d_CF_product_6 : decode y_CF_product.2.2.1 6 = .ok (.lload_n 2, 1) := mj_d (q := (6, .lload_n 2, 1)) k_CF_product 4 rfl
theorem d_CF_product_7 : decode y_CF_product.2.2.1 7 = .ok (.lconst 0, 1) := mj_d (q := (7, .lconst 0, 1)) k_CF_product 5 rfl
theorem d_CF_product_8 : decode y_CF_product.2.2.1 8 = .ok (.lcmp, 1) := mj_d (q := (8, .lcmp, 1)) k_CF_product 6 rfl
theorem d_CF_product_9 : decode y_CF_product.2.2.1 9 = .ok (.ifCond .ne 5, 3) := mj_d (q := (9, .ifCond .ne 5, 3)) k_CF_product 7 rfl
theorem d_CF_product_12 : decode y_CF_product.2.2.1 12 = .ok (.lconst 0, 1) := mj_d (q := (12, .lconst 0, 1)) k_CF_product 8 rfl
theorem d_CF_product_13 : decode y_CF_product.2.2.1 13 = .ok (.lreturn, 1) := mj_d (q := (13, .lreturn, 1)) k_CF_product 9 rfl
theorem d_CF_product_14 : decode y_CF_product.2.2.1 14 = .ok (.lload_n 0, 1) := mj_d (q := (14, .lload_n 0, 1)) k_CF_product 10 rfl
theorem d_CF_product_15 : decode y_CF_product.2.2.1 15 = .ok (.ldc2_w 140, 3) := mj_d (q := (15, .ldc2_w 140, 3)) k_CF_product 11 rfl
theorem d_CF_product_18 : decode y_CF_product.2.2.1 18 = .ok (.lcmp, 1) := mj_d (q := (18, .lcmp, 1)) k_CF_product 12 rfl
theorem d_CF_product_19 : decode y_CF_product.2.2.1 19 = .ok (.ifCond .eq 11, 3) := mj_d (q := (19, .ifCond .eq 11, 3)) k_CF_product 13 rfl
theorem d_CF_product_22 : decode y_CF_product.2.2.1 22 = .ok (.lload_n 2, 1) := mj_d (q := (22, .lload_n 2, 1)) k_CF_product 14 rfl
theorem d_CF_product_23 : decode y_CF_product.2.2.1 23 = .ok (.ldc2_w 140, 3) := mj_d (q := (23, .ldc2_w 140, 3)) k_CF_product 15 rfl
theorem d_CF_product_26 : decode y_CF_product.2.2.1 26 = .ok (.lcmp, 1) := mj_d (q := (26, .lcmp, 1)) k_CF_product 16 rfl
theorem d_CF_product_27 : decode y_CF_product.2.2.1 27 = .ok (.ifCond .ne 7, 3) := mj_d (q := (27, .ifCond .ne 7, 3)) k_CF_product 17 rfl
theorem d_CF_product_30 : decode y_CF_product.2.2.1 30 = .ok (.ldc2_w 140, 3) := mj_d (q := (30, .ldc2_w 140, 3)) k_CF_product 18 rfl
theorem d_CF_product_33 : decode y_CF_product.2.2.1 33 = .ok (.lreturn, 1) := mj_d (q := (33, .lreturn, 1)) k_CF_product 19 rfl
theorem d_CF_product_34 : decode y_CF_product.2.2.1 34 = .ok (.lload_n 0, 1) := mj_d (q := (34, .lload_n 0, 1)) k_CF_product 20 rfl
theorem d_CF_product_35 : decode y_CF_product.2.2.1 35 = .ok (.ldc2_w 131, 3) := mj_d (q := (35, .ldc2_w 131, 3)) k_CF_product 21 rfl
theorem d_CF_product_38 : decode y_CF_product.2.2.1 38 = .ok (.lload_n 2, 1) := mj_d (q := (38, .lload_n 2, 1)) k_CF_product 22 rfl
theorem d_CF_product_39 : decode y_CF_product.2.2.1 39 = .ok (.ldiv, 1) := mj_d (q := (39, .ldiv, 1)) k_CF_product 23 rfl
theorem d_CF_product_40 : decode y_CF_product.2.2.1 40 = .ok (.lcmp, 1) := mj_d (q := (40, .lcmp, 1)) k_CF_product 24 rfl
theorem d_CF_product_41 : decode y_CF_product.2.2.1 41 = .ok (.ifCond .le 9, 3) := mj_d (q := (41, .ifCond .le 9, 3)) k_CF_product 25 rfl
theorem d_CF_product_44 : decode y_CF_product.2.2.1 44 = .ok (.ldc2_w 131, 3) := mj_d (q := (44, .ldc2_w 131, 3)) k_CF_product 26 rfl
theorem d_CF_product_47 : decode y_CF_product.2.2.1 47 = .ok (.goto 6, 3) := mj_d (q := (47, .goto 6, 3)) k_CF_product 27 rfl
theorem d_CF_product_50 : decode y_CF_product.2.2.1 50 = .ok (.lload_n 0, 1) := mj_d (q := (50, .lload_n 0, 1)) k_CF_product 28 rfl
theorem d_CF_product_51 : decode y_CF_product.2.2.1 51 = .ok (.lload_n 2, 1) := mj_d (q := (51, .lload_n 2, 1)) k_CF_product 29 rfl
theorem d_CF_product_52 : decode y_CF_product.2.2.1 52 = .ok (.lmul, 1) := mj_d (q := (52, .lmul, 1)) k_CF_product 30 rfl
theorem d_CF_product_53 : decode y_CF_product.2.2.1 53 = .ok (.lreturn, 1) := mj_d (q := (53, .lreturn, 1)) k_CF_product 31 rfl
theorem d_Wa_keep_0 : decode y_Wa_keep.2.2.1 0 = .ok (.lload 4, 2) := mj_d (q := (0, .lload 4, 2)) k_Wa_keep 0 rfl
theorem d_Wa_keep_2 : decode y_Wa_keep.2.2.1 2 = .ok (.lconst 0, 1) := mj_d (q := (2, .lconst 0, 1)) k_Wa_keep 1 rfl
theorem d_Wa_keep_3 : decode y_Wa_keep.2.2.1 3 = .ok (.lcmp, 1) := mj_d (q := (3, .lcmp, 1)) k_Wa_keep 2 rfl
theorem d_Wa_keep_4 : decode y_Wa_keep.2.2.1 4 = .ok (.ifCond .eq 59, 3) := mj_d (q := (4, .ifCond .eq 59, 3)) k_Wa_keep 3 rfl
theorem d_Wa_keep_7 : decode y_Wa_keep.2.2.1 7 = .ok (.aload_n 0, 1) := mj_d (q := (7, .aload_n 0, 1)) k_Wa_keep 4 rfl
theorem d_Wa_keep_8 : decode y_Wa_keep.2.2.1 8 = .ok (.getfield 37, 3) := mj_d (q := (8, .getfield 37, 3)) k_Wa_keep 5 rfl
theorem d_Wa_keep_11 : decode y_Wa_keep.2.2.1 11 = .ok (.sipush 910, 3) := mj_d (q := (11, .sipush 910, 3)) k_Wa_keep 6 rfl
theorem d_Wa_keep_14 : decode y_Wa_keep.2.2.1 14 = .ok (.if_icmp .ge 49, 3) := mj_d (q := (14, .if_icmp .ge 49, 3)) k_Wa_keep 7 rfl
theorem d_Wa_keep_17 : decode y_Wa_keep.2.2.1 17 = .ok (.aload_n 0, 1) := mj_d (q := (17, .aload_n 0, 1)) k_Wa_keep 8 rfl
theorem d_Wa_keep_18 : decode y_Wa_keep.2.2.1 18 = .ok (.getfield 9, 3) := mj_d (q := (18, .getfield 9, 3)) k_Wa_keep 9 rfl
theorem d_Wa_keep_21 : decode y_Wa_keep.2.2.1 21 = .ok (.aload_n 0, 1) := mj_d (q := (21, .aload_n 0, 1)) k_Wa_keep 10 rfl
theorem d_Wa_keep_22 : decode y_Wa_keep.2.2.1 22 = .ok (.getfield 37, 3) := mj_d (q := (22, .getfield 37, 3)) k_Wa_keep 11 rfl
theorem d_Wa_keep_25 : decode y_Wa_keep.2.2.1 25 = .ok (.iload_n 1, 1) := mj_d (q := (25, .iload_n 1, 1)) k_Wa_keep 12 rfl
theorem d_Wa_keep_26 : decode y_Wa_keep.2.2.1 26 = .ok (.iastore, 1) := mj_d (q := (26, .iastore, 1)) k_Wa_keep 13 rfl
theorem d_Wa_keep_27 : decode y_Wa_keep.2.2.1 27 = .ok (.aload_n 0, 1) := mj_d (q := (27, .aload_n 0, 1)) k_Wa_keep 14 rfl
theorem d_Wa_keep_28 : decode y_Wa_keep.2.2.1 28 = .ok (.getfield 15, 3) := mj_d (q := (28, .getfield 15, 3)) k_Wa_keep 15 rfl
theorem d_Wa_keep_31 : decode y_Wa_keep.2.2.1 31 = .ok (.aload_n 0, 1) := mj_d (q := (31, .aload_n 0, 1)) k_Wa_keep 16 rfl
theorem d_Wa_keep_32 : decode y_Wa_keep.2.2.1 32 = .ok (.getfield 37, 3) := mj_d (q := (32, .getfield 37, 3)) k_Wa_keep 17 rfl
theorem d_Wa_keep_35 : decode y_Wa_keep.2.2.1 35 = .ok (.iload_n 2, 1) := mj_d (q := (35, .iload_n 2, 1)) k_Wa_keep 18 rfl
theorem d_Wa_keep_36 : decode y_Wa_keep.2.2.1 36 = .ok (.bipush 13, 2) := mj_d (q := (36, .bipush 13, 2)) k_Wa_keep 19 rfl
theorem d_Wa_keep_38 : decode y_Wa_keep.2.2.1 38 = .ok (.imul, 1) := mj_d (q := (38, .imul, 1)) k_Wa_keep 20 rfl
theorem d_Wa_keep_39 : decode y_Wa_keep.2.2.1 39 = .ok (.iload_n 3, 1) := mj_d (q := (39, .iload_n 3, 1)) k_Wa_keep 21 rfl
theorem d_Wa_keep_40 : decode y_Wa_keep.2.2.1 40 = .ok (.iadd, 1) := mj_d (q := (40, .iadd, 1)) k_Wa_keep 22 rfl
theorem d_Wa_keep_41 : decode y_Wa_keep.2.2.1 41 = .ok (.iastore, 1) := mj_d (q := (41, .iastore, 1)) k_Wa_keep 23 rfl
theorem d_Wa_keep_42 : decode y_Wa_keep.2.2.1 42 = .ok (.aload_n 0, 1) := mj_d (q := (42, .aload_n 0, 1)) k_Wa_keep 24 rfl
theorem d_Wa_keep_43 : decode y_Wa_keep.2.2.1 43 = .ok (.getfield 18, 3) := mj_d (q := (43, .getfield 18, 3)) k_Wa_keep 25 rfl
theorem d_Wa_keep_46 : decode y_Wa_keep.2.2.1 46 = .ok (.aload_n 0, 1) := mj_d (q := (46, .aload_n 0, 1)) k_Wa_keep 26 rfl
theorem d_Wa_keep_47 : decode y_Wa_keep.2.2.1 47 = .ok (.getfield 37, 3) := mj_d (q := (47, .getfield 37, 3)) k_Wa_keep 27 rfl
theorem d_Wa_keep_50 : decode y_Wa_keep.2.2.1 50 = .ok (.lload 4, 2) := mj_d (q := (50, .lload 4, 2)) k_Wa_keep 28 rfl
theorem d_Wa_keep_52 : decode y_Wa_keep.2.2.1 52 = .ok (.lastore, 1) := mj_d (q := (52, .lastore, 1)) k_Wa_keep 29 rfl
theorem d_Wa_keep_53 : decode y_Wa_keep.2.2.1 53 = .ok (.aload_n 0, 1) := mj_d (q := (53, .aload_n 0, 1)) k_Wa_keep 30 rfl
theorem d_Wa_keep_54 : decode y_Wa_keep.2.2.1 54 = .ok (.dup, 1) := mj_d (q := (54, .dup, 1)) k_Wa_keep 31 rfl
theorem d_Wa_keep_55 : decode y_Wa_keep.2.2.1 55 = .ok (.getfield 37, 3) := mj_d (q := (55, .getfield 37, 3)) k_Wa_keep 32 rfl
theorem d_Wa_keep_58 : decode y_Wa_keep.2.2.1 58 = .ok (.iconst 1, 1) := mj_d (q := (58, .iconst 1, 1)) k_Wa_keep 33 rfl
theorem d_Wa_keep_59 : decode y_Wa_keep.2.2.1 59 = .ok (.iadd, 1) := mj_d (q := (59, .iadd, 1)) k_Wa_keep 34 rfl
theorem d_Wa_keep_60 : decode y_Wa_keep.2.2.1 60 = .ok (.putfield 37, 3) := mj_d (q := (60, .putfield 37, 3)) k_Wa_keep 35 rfl
theorem d_Wa_keep_63 : decode y_Wa_keep.2.2.1 63 = .ok (.return_, 1) := mj_d (q := (63, .return_, 1)) k_Wa_keep 36 rfl
theorem d_Fo_countTrees_0 : decode y_Fo_countTrees.2.2.1 0 = .ok (.iconst 1, 1) := mj_d (q := (0, .iconst 1, 1)) k_Fo_countTrees 0 rfl
theorem d_Fo_countTrees_1 : decode y_Fo_countTrees.2.2.1 1 = .ok (.istore_n 3, 1) := mj_d (q := (1, .istore_n 3, 1)) k_Fo_countTrees 1 rfl
theorem d_Fo_countTrees_2 : decode y_Fo_countTrees.2.2.1 2 = .ok (.iconst 0, 1) := mj_d (q := (2, .iconst 0, 1)) k_Fo_countTrees 2 rfl
theorem d_Fo_countTrees_3 : decode y_Fo_countTrees.2.2.1 3 = .ok (.istore 4, 2) := mj_d (q := (3, .istore 4, 2)) k_Fo_countTrees 3 rfl
theorem d_Fo_countTrees_5 : decode y_Fo_countTrees.2.2.1 5 = .ok (.iload_n 3, 1) := mj_d (q := (5, .iload_n 3, 1)) k_Fo_countTrees 4 rfl
theorem d_Fo_countTrees_6 : decode y_Fo_countTrees.2.2.1 6 = .ok (.ifCond .eq 113, 3) := mj_d (q := (6, .ifCond .eq 113, 3)) k_Fo_countTrees 5 rfl
theorem d_Fo_countTrees_9 : decode y_Fo_countTrees.2.2.1 9 = .ok (.iload 4, 2) := mj_d (q := (9, .iload 4, 2)) k_Fo_countTrees 6 rfl
theorem d_Fo_countTrees_11 : decode y_Fo_countTrees.2.2.1 11 = .ok (.iconst 5, 1) := mj_d (q := (11, .iconst 5, 1)) k_Fo_countTrees 7 rfl
theorem d_Fo_countTrees_12 : decode y_Fo_countTrees.2.2.1 12 = .ok (.if_icmp .ge 107, 3) := mj_d (q := (12, .if_icmp .ge 107, 3)) k_Fo_countTrees 8 rfl
theorem d_Fo_countTrees_15 : decode y_Fo_countTrees.2.2.1 15 = .ok (.iconst 0, 1) := mj_d (q := (15, .iconst 0, 1)) k_Fo_countTrees 9 rfl
theorem d_Fo_countTrees_16 : decode y_Fo_countTrees.2.2.1 16 = .ok (.istore_n 3, 1) := mj_d (q := (16, .istore_n 3, 1)) k_Fo_countTrees 10 rfl
theorem d_Fo_countTrees_17 : decode y_Fo_countTrees.2.2.1 17 = .ok (.iconst 0, 1) := mj_d (q := (17, .iconst 0, 1)) k_Fo_countTrees 11 rfl
theorem d_Fo_countTrees_18 : decode y_Fo_countTrees.2.2.1 18 = .ok (.istore 5, 2) := mj_d (q := (18, .istore 5, 2)) k_Fo_countTrees 12 rfl
theorem d_Fo_countTrees_20 : decode y_Fo_countTrees.2.2.1 20 = .ok (.iload 5, 2) := mj_d (q := (20, .iload 5, 2)) k_Fo_countTrees 13 rfl
theorem d_Fo_countTrees_22 : decode y_Fo_countTrees.2.2.1 22 = .ok (.iconst 5, 1) := mj_d (q := (22, .iconst 5, 1)) k_Fo_countTrees 14 rfl
theorem d_Fo_countTrees_23 : decode y_Fo_countTrees.2.2.1 23 = .ok (.if_icmp .ge 90, 3) := mj_d (q := (23, .if_icmp .ge 90, 3)) k_Fo_countTrees 15 rfl
theorem d_Fo_countTrees_26 : decode y_Fo_countTrees.2.2.1 26 = .ok (.iload 5, 2) := mj_d (q := (26, .iload 5, 2)) k_Fo_countTrees 16 rfl
theorem d_Fo_countTrees_28 : decode y_Fo_countTrees.2.2.1 28 = .ok (.iload_n 1, 1) := mj_d (q := (28, .iload_n 1, 1)) k_Fo_countTrees 17 rfl
theorem d_Fo_countTrees_29 : decode y_Fo_countTrees.2.2.1 29 = .ok (.iload_n 2, 1) := mj_d (q := (29, .iload_n 2, 1)) k_Fo_countTrees 18 rfl
theorem d_Fo_countTrees_30 : decode y_Fo_countTrees.2.2.1 30 = .ok (.invokestatic 81, 3) := mj_d (q := (30, .invokestatic 81, 3)) k_Fo_countTrees 19 rfl
theorem d_Fo_countTrees_33 : decode y_Fo_countTrees.2.2.1 33 = .ok (.istore 6, 2) := mj_d (q := (33, .istore 6, 2)) k_Fo_countTrees 20 rfl
theorem d_Fo_countTrees_35 : decode y_Fo_countTrees.2.2.1 35 = .ok (.aload_n 0, 1) := mj_d (q := (35, .aload_n 0, 1)) k_Fo_countTrees 21 rfl
theorem d_Fo_countTrees_36 : decode y_Fo_countTrees.2.2.1 36 = .ok (.getfield 32, 3) := mj_d (q := (36, .getfield 32, 3)) k_Fo_countTrees 22 rfl
theorem d_Fo_countTrees_39 : decode y_Fo_countTrees.2.2.1 39 = .ok (.getfield 78, 3) := mj_d (q := (39, .getfield 78, 3)) k_Fo_countTrees 23 rfl
theorem d_Fo_countTrees_42 : decode y_Fo_countTrees.2.2.1 42 = .ok (.iload 6, 2) := mj_d (q := (42, .iload 6, 2)) k_Fo_countTrees 24 rfl
theorem d_Fo_countTrees_44 : decode y_Fo_countTrees.2.2.1 44 = .ok (.laload, 1) := mj_d (q := (44, .laload, 1)) k_Fo_countTrees 25 rfl
theorem d_Fo_countTrees_45 : decode y_Fo_countTrees.2.2.1 45 = .ok (.ldc2_w 85, 3) := mj_d (q := (45, .ldc2_w 85, 3)) k_Fo_countTrees 26 rfl
theorem d_Fo_countTrees_48 : decode y_Fo_countTrees.2.2.1 48 = .ok (.lcmp, 1) := mj_d (q := (48, .lcmp, 1)) k_Fo_countTrees 27 rfl
theorem d_Fo_countTrees_49 : decode y_Fo_countTrees.2.2.1 49 = .ok (.ifCond .ne 58, 3) := mj_d (q := (49, .ifCond .ne 58, 3)) k_Fo_countTrees 28 rfl
theorem d_Fo_countTrees_52 : decode y_Fo_countTrees.2.2.1 52 = .ok (.aload_n 0, 1) := mj_d (q := (52, .aload_n 0, 1)) k_Fo_countTrees 29 rfl
theorem d_Fo_countTrees_53 : decode y_Fo_countTrees.2.2.1 53 = .ok (.getfield 41, 3) := mj_d (q := (53, .getfield 41, 3)) k_Fo_countTrees 30 rfl
theorem d_Fo_countTrees_56 : decode y_Fo_countTrees.2.2.1 56 = .ok (.iload 5, 2) := mj_d (q := (56, .iload 5, 2)) k_Fo_countTrees 31 rfl
theorem d_Fo_countTrees_58 : decode y_Fo_countTrees.2.2.1 58 = .ok (.iload_n 1, 1) := mj_d (q := (58, .iload_n 1, 1)) k_Fo_countTrees 32 rfl
theorem d_Fo_countTrees_59 : decode y_Fo_countTrees.2.2.1 59 = .ok (.iload_n 2, 1) := mj_d (q := (59, .iload_n 2, 1)) k_Fo_countTrees 33 rfl
theorem d_Fo_countTrees_60 : decode y_Fo_countTrees.2.2.1 60 = .ok (.invokevirtual 67, 3) := mj_d (q := (60, .invokevirtual 67, 3)) k_Fo_countTrees 34 rfl
theorem d_Fo_countTrees_63 : decode y_Fo_countTrees.2.2.1 63 = .ok (.aload_n 0, 1) := mj_d (q := (63, .aload_n 0, 1)) k_Fo_countTrees 35 rfl
theorem d_Fo_countTrees_64 : decode y_Fo_countTrees.2.2.1 64 = .ok (.getfield 32, 3) := mj_d (q := (64, .getfield 32, 3)) k_Fo_countTrees 36 rfl
theorem d_Fo_countTrees_67 : decode y_Fo_countTrees.2.2.1 67 = .ok (.getfield 78, 3) := mj_d (q := (67, .getfield 78, 3)) k_Fo_countTrees 37 rfl
theorem d_Fo_countTrees_70 : decode y_Fo_countTrees.2.2.1 70 = .ok (.iload 6, 2) := mj_d (q := (70, .iload 6, 2)) k_Fo_countTrees 38 rfl
theorem d_Fo_countTrees_72 : decode y_Fo_countTrees.2.2.1 72 = .ok (.aload_n 0, 1) := mj_d (q := (72, .aload_n 0, 1)) k_Fo_countTrees 39 rfl
theorem d_Fo_countTrees_73 : decode y_Fo_countTrees.2.2.1 73 = .ok (.getfield 41, 3) := mj_d (q := (73, .getfield 41, 3)) k_Fo_countTrees 40 rfl
theorem d_Fo_countTrees_76 : decode y_Fo_countTrees.2.2.1 76 = .ok (.invokevirtual 87, 3) := mj_d (q := (76, .invokevirtual 87, 3)) k_Fo_countTrees 41 rfl
theorem d_Fo_countTrees_79 : decode y_Fo_countTrees.2.2.1 79 = .ok (.lastore, 1) := mj_d (q := (79, .lastore, 1)) k_Fo_countTrees 42 rfl
theorem d_Fo_countTrees_80 : decode y_Fo_countTrees.2.2.1 80 = .ok (.iload_n 3, 1) := mj_d (q := (80, .iload_n 3, 1)) k_Fo_countTrees 43 rfl
theorem d_Fo_countTrees_81 : decode y_Fo_countTrees.2.2.1 81 = .ok (.ifCond .ne 20, 3) := mj_d (q := (81, .ifCond .ne 20, 3)) k_Fo_countTrees 44 rfl
theorem d_Fo_countTrees_84 : decode y_Fo_countTrees.2.2.1 84 = .ok (.aload_n 0, 1) := mj_d (q := (84, .aload_n 0, 1)) k_Fo_countTrees 45 rfl
theorem d_Fo_countTrees_85 : decode y_Fo_countTrees.2.2.1 85 = .ok (.getfield 32, 3) := mj_d (q := (85, .getfield 32, 3)) k_Fo_countTrees 46 rfl
theorem d_Fo_countTrees_88 : decode y_Fo_countTrees.2.2.1 88 = .ok (.getfield 78, 3) := mj_d (q := (88, .getfield 78, 3)) k_Fo_countTrees 47 rfl
theorem d_Fo_countTrees_91 : decode y_Fo_countTrees.2.2.1 91 = .ok (.iload 6, 2) := mj_d (q := (91, .iload 6, 2)) k_Fo_countTrees 48 rfl
theorem d_Fo_countTrees_93 : decode y_Fo_countTrees.2.2.1 93 = .ok (.laload, 1) := mj_d (q := (93, .laload, 1)) k_Fo_countTrees 49 rfl
theorem d_Fo_countTrees_94 : decode y_Fo_countTrees.2.2.1 94 = .ok (.ldc2_w 85, 3) := mj_d (q := (94, .ldc2_w 85, 3)) k_Fo_countTrees 50 rfl
theorem d_Fo_countTrees_97 : decode y_Fo_countTrees.2.2.1 97 = .ok (.lcmp, 1) := mj_d (q := (97, .lcmp, 1)) k_Fo_countTrees 51 rfl
theorem d_Fo_countTrees_98 : decode y_Fo_countTrees.2.2.1 98 = .ok (.ifCond .eq 7, 3) := mj_d (q := (98, .ifCond .eq 7, 3)) k_Fo_countTrees 52 rfl
theorem d_Fo_countTrees_101 : decode y_Fo_countTrees.2.2.1 101 = .ok (.iconst 1, 1) := mj_d (q := (101, .iconst 1, 1)) k_Fo_countTrees 53 rfl
theorem d_Fo_countTrees_102 : decode y_Fo_countTrees.2.2.1 102 = .ok (.goto 4, 3) := mj_d (q := (102, .goto 4, 3)) k_Fo_countTrees 54 rfl
theorem d_Fo_countTrees_105 : decode y_Fo_countTrees.2.2.1 105 = .ok (.iconst 0, 1) := mj_d (q := (105, .iconst 0, 1)) k_Fo_countTrees 55 rfl
theorem d_Fo_countTrees_106 : decode y_Fo_countTrees.2.2.1 106 = .ok (.istore_n 3, 1) := mj_d (q := (106, .istore_n 3, 1)) k_Fo_countTrees 56 rfl
theorem d_Fo_countTrees_107 : decode y_Fo_countTrees.2.2.1 107 = .ok (.iinc 5 1, 3) := mj_d (q := (107, .iinc 5 1, 3)) k_Fo_countTrees 57 rfl
theorem d_Fo_countTrees_110 : decode y_Fo_countTrees.2.2.1 110 = .ok (.goto (-90), 3) := mj_d (q := (110, .goto (-90), 3)) k_Fo_countTrees 58 rfl
theorem d_Fo_countTrees_113 : decode y_Fo_countTrees.2.2.1 113 = .ok (.iinc 4 1, 3) := mj_d (q := (113, .iinc 4 1, 3)) k_Fo_countTrees 59 rfl
theorem d_Fo_countTrees_116 : decode y_Fo_countTrees.2.2.1 116 = .ok (.goto (-111), 3) := mj_d (q := (116, .goto (-111), 3)) k_Fo_countTrees 60 rfl
theorem d_Fo_countTrees_119 : decode y_Fo_countTrees.2.2.1 119 = .ok (.return_, 1) := mj_d (q := (119, .return_, 1)) k_Fo_countTrees 61 rfl
theorem d_Wa_treesOfAll_0 : decode y_Wa_treesOfAll.2.2.1 0 = .ok (.lconst 0, 1) := mj_d (q := (0, .lconst 0, 1)) k_Wa_treesOfAll 0 rfl
theorem d_Wa_treesOfAll_1 : decode y_Wa_treesOfAll.2.2.1 1 = .ok (.lstore_n 1, 1) := mj_d (q := (1, .lstore_n 1, 1)) k_Wa_treesOfAll 1 rfl
theorem d_Wa_treesOfAll_2 : decode y_Wa_treesOfAll.2.2.1 2 = .ok (.iconst 0, 1) := mj_d (q := (2, .iconst 0, 1)) k_Wa_treesOfAll 2 rfl
theorem d_Wa_treesOfAll_3 : decode y_Wa_treesOfAll.2.2.1 3 = .ok (.istore_n 3, 1) := mj_d (q := (3, .istore_n 3, 1)) k_Wa_treesOfAll 3 rfl
theorem d_Wa_treesOfAll_4 : decode y_Wa_treesOfAll.2.2.1 4 = .ok (.iload_n 3, 1) := mj_d (q := (4, .iload_n 3, 1)) k_Wa_treesOfAll 4 rfl
theorem d_Wa_treesOfAll_5 : decode y_Wa_treesOfAll.2.2.1 5 = .ok (.aload_n 0, 1) := mj_d (q := (5, .aload_n 0, 1)) k_Wa_treesOfAll 5 rfl
theorem d_Wa_treesOfAll_6 : decode y_Wa_treesOfAll.2.2.1 6 = .ok (.getfield 37, 3) := mj_d (q := (6, .getfield 37, 3)) k_Wa_treesOfAll 6 rfl
theorem d_Wa_treesOfAll_9 : decode y_Wa_treesOfAll.2.2.1 9 = .ok (.if_icmp .ge 20, 3) := mj_d (q := (9, .if_icmp .ge 20, 3)) k_Wa_treesOfAll 7 rfl
theorem d_Wa_treesOfAll_12 : decode y_Wa_treesOfAll.2.2.1 12 = .ok (.lload_n 1, 1) := mj_d (q := (12, .lload_n 1, 1)) k_Wa_treesOfAll 8 rfl
theorem d_Wa_treesOfAll_13 : decode y_Wa_treesOfAll.2.2.1 13 = .ok (.aload_n 0, 1) := mj_d (q := (13, .aload_n 0, 1)) k_Wa_treesOfAll 9 rfl
theorem d_Wa_treesOfAll_14 : decode y_Wa_treesOfAll.2.2.1 14 = .ok (.getfield 18, 3) := mj_d (q := (14, .getfield 18, 3)) k_Wa_treesOfAll 10 rfl
theorem d_Wa_treesOfAll_17 : decode y_Wa_treesOfAll.2.2.1 17 = .ok (.iload_n 3, 1) := mj_d (q := (17, .iload_n 3, 1)) k_Wa_treesOfAll 11 rfl
theorem d_Wa_treesOfAll_18 : decode y_Wa_treesOfAll.2.2.1 18 = .ok (.laload, 1) := mj_d (q := (18, .laload, 1)) k_Wa_treesOfAll 12 rfl
theorem d_Wa_treesOfAll_19 : decode y_Wa_treesOfAll.2.2.1 19 = .ok (.invokestatic 78, 3) := mj_d (q := (19, .invokestatic 78, 3)) k_Wa_treesOfAll 13 rfl
theorem d_Wa_treesOfAll_22 : decode y_Wa_treesOfAll.2.2.1 22 = .ok (.lstore_n 1, 1) := mj_d (q := (22, .lstore_n 1, 1)) k_Wa_treesOfAll 14 rfl
theorem d_Wa_treesOfAll_23 : decode y_Wa_treesOfAll.2.2.1 23 = .ok (.iinc 3 1, 3) := mj_d (q := (23, .iinc 3 1, 3)) k_Wa_treesOfAll 15 rfl
theorem d_Wa_treesOfAll_26 : decode y_Wa_treesOfAll.2.2.1 26 = .ok (.goto (-22), 3) := mj_d (q := (26, .goto (-22), 3)) k_Wa_treesOfAll 16 rfl
theorem d_Wa_treesOfAll_29 : decode y_Wa_treesOfAll.2.2.1 29 = .ok (.lload_n 1, 1) := mj_d (q := (29, .lload_n 1, 1)) k_Wa_treesOfAll 17 rfl
theorem d_Wa_treesOfAll_30 : decode y_Wa_treesOfAll.2.2.1 30 = .ok (.lreturn, 1) := mj_d (q := (30, .lreturn, 1)) k_Wa_treesOfAll 18 rfl
theorem d_CF_sum_0 : decode y_CF_sum.2.2.1 0 = .ok (.lload_n 0, 1) := mj_d (q := (0, .lload_n 0, 1)) k_CF_sum 0 rfl
theorem d_CF_sum_1 : decode y_CF_sum.2.2.1 1 = .ok (.ldc2_w 140, 3) := mj_d (q := (1, .ldc2_w 140, 3)) k_CF_sum 1 rfl
theorem d_CF_sum_4 : decode y_CF_sum.2.2.1 4 = .ok (.lcmp, 1) := mj_d (q := (4, .lcmp, 1)) k_CF_sum 2 rfl
theorem d_CF_sum_5 : decode y_CF_sum.2.2.1 5 = .ok (.ifCond .eq 11, 3) := mj_d (q := (5, .ifCond .eq 11, 3)) k_CF_sum 3 rfl
theorem d_CF_sum_8 : decode y_CF_sum.2.2.1 8 = .ok (.lload_n 2, 1) := mj_d (q := (8, .lload_n 2, 1)) k_CF_sum 4 rfl
theorem d_CF_sum_9 : decode y_CF_sum.2.2.1 9 = .ok (.ldc2_w 140, 3) := mj_d (q := (9, .ldc2_w 140, 3)) k_CF_sum 5 rfl
theorem d_CF_sum_12 : decode y_CF_sum.2.2.1 12 = .ok (.lcmp, 1) := mj_d (q := (12, .lcmp, 1)) k_CF_sum 6 rfl
theorem d_CF_sum_13 : decode y_CF_sum.2.2.1 13 = .ok (.ifCond .ne 7, 3) := mj_d (q := (13, .ifCond .ne 7, 3)) k_CF_sum 7 rfl
theorem d_CF_sum_16 : decode y_CF_sum.2.2.1 16 = .ok (.ldc2_w 140, 3) := mj_d (q := (16, .ldc2_w 140, 3)) k_CF_sum 8 rfl
theorem d_CF_sum_19 : decode y_CF_sum.2.2.1 19 = .ok (.lreturn, 1) := mj_d (q := (19, .lreturn, 1)) k_CF_sum 9 rfl
theorem d_CF_sum_20 : decode y_CF_sum.2.2.1 20 = .ok (.ldc2_w 131, 3) := mj_d (q := (20, .ldc2_w 131, 3)) k_CF_sum 10 rfl
theorem d_CF_sum_23 : decode y_CF_sum.2.2.1 23 = .ok (.lload_n 0, 1) := mj_d (q := (23, .lload_n 0, 1)) k_CF_sum 11 rfl
theorem d_CF_sum_24 : decode y_CF_sum.2.2.1 24 = .ok (.lload_n 2, 1) := mj_d (q := (24, .lload_n 2, 1)) k_CF_sum 12 rfl
theorem d_CF_sum_25 : decode y_CF_sum.2.2.1 25 = .ok (.ladd, 1) := mj_d (q := (25, .ladd, 1)) k_CF_sum 13 rfl
theorem d_CF_sum_26 : decode y_CF_sum.2.2.1 26 = .ok (.invokestatic 142, 3) := mj_d (q := (26, .invokestatic 142, 3)) k_CF_sum 14 rfl
theorem d_CF_sum_29 : decode y_CF_sum.2.2.1 29 = .ok (.lreturn, 1) := mj_d (q := (29, .lreturn, 1)) k_CF_sum 15 rfl
theorem d_Fo_nodesMet_0 : decode y_Fo_nodesMet.2.2.1 0 = .ok (.iconst 0, 1) := mj_d (q := (0, .iconst 0, 1)) k_Fo_nodesMet 0 rfl
theorem d_Fo_nodesMet_1 : decode y_Fo_nodesMet.2.2.1 1 = .ok (.istore_n 1, 1) := mj_d (q := (1, .istore_n 1, 1)) k_Fo_nodesMet 1 rfl
theorem d_Fo_nodesMet_2 : decode y_Fo_nodesMet.2.2.1 2 = .ok (.iload_n 1, 1) := mj_d (q := (2, .iload_n 1, 1)) k_Fo_nodesMet 2 rfl
theorem d_Fo_nodesMet_3 : decode y_Fo_nodesMet.2.2.1 3 = .ok (.sipush 845, 3) := mj_d (q := (3, .sipush 845, 3)) k_Fo_nodesMet 3 rfl
theorem d_Fo_nodesMet_6 : decode y_Fo_nodesMet.2.2.1 6 = .ok (.if_icmp .ge 16, 3) := mj_d (q := (6, .if_icmp .ge 16, 3)) k_Fo_nodesMet 4 rfl
theorem d_Fo_nodesMet_9 : decode y_Fo_nodesMet.2.2.1 9 = .ok (.aload_n 0, 1) := mj_d (q := (9, .aload_n 0, 1)) k_Fo_nodesMet 5 rfl
theorem d_Fo_nodesMet_10 : decode y_Fo_nodesMet.2.2.1 10 = .ok (.getfield 15, 3) := mj_d (q := (10, .getfield 15, 3)) k_Fo_nodesMet 6 rfl
theorem d_Fo_nodesMet_13 : decode y_Fo_nodesMet.2.2.1 13 = .ok (.iload_n 1, 1) := mj_d (q := (13, .iload_n 1, 1)) k_Fo_nodesMet 7 rfl
theorem d_Fo_nodesMet_14 : decode y_Fo_nodesMet.2.2.1 14 = .ok (.iconst 0, 1) := mj_d (q := (14, .iconst 0, 1)) k_Fo_nodesMet 8 rfl
theorem d_Fo_nodesMet_15 : decode y_Fo_nodesMet.2.2.1 15 = .ok (.bastore, 1) := mj_d (q := (15, .bastore, 1)) k_Fo_nodesMet 9 rfl
theorem d_Fo_nodesMet_16 : decode y_Fo_nodesMet.2.2.1 16 = .ok (.iinc 1 1, 3) := mj_d (q := (16, .iinc 1 1, 3)) k_Fo_nodesMet 10 rfl
theorem d_Fo_nodesMet_19 : decode y_Fo_nodesMet.2.2.1 19 = .ok (.goto (-17), 3) := mj_d (q := (19, .goto (-17), 3)) k_Fo_nodesMet 11 rfl
theorem d_Fo_nodesMet_22 : decode y_Fo_nodesMet.2.2.1 22 = .ok (.aload_n 0, 1) := mj_d (q := (22, .aload_n 0, 1)) k_Fo_nodesMet 12 rfl
theorem d_Fo_nodesMet_23 : decode y_Fo_nodesMet.2.2.1 23 = .ok (.iconst 0, 1) := mj_d (q := (23, .iconst 0, 1)) k_Fo_nodesMet 13 rfl
theorem d_Fo_nodesMet_24 : decode y_Fo_nodesMet.2.2.1 24 = .ok (.putfield 91, 3) := mj_d (q := (24, .putfield 91, 3)) k_Fo_nodesMet 14 rfl
theorem d_Fo_nodesMet_27 : decode y_Fo_nodesMet.2.2.1 27 = .ok (.aload_n 0, 1) := mj_d (q := (27, .aload_n 0, 1)) k_Fo_nodesMet 15 rfl
theorem d_Fo_nodesMet_28 : decode y_Fo_nodesMet.2.2.1 28 = .ok (.iconst 0, 1) := mj_d (q := (28, .iconst 0, 1)) k_Fo_nodesMet 16 rfl
theorem d_Fo_nodesMet_29 : decode y_Fo_nodesMet.2.2.1 29 = .ok (.iconst 0, 1) := mj_d (q := (29, .iconst 0, 1)) k_Fo_nodesMet 17 rfl
theorem d_Fo_nodesMet_30 : decode y_Fo_nodesMet.2.2.1 30 = .ok (.aload_n 0, 1) := mj_d (q := (30, .aload_n 0, 1)) k_Fo_nodesMet 18 rfl
theorem d_Fo_nodesMet_31 : decode y_Fo_nodesMet.2.2.1 31 = .ok (.getfield 23, 3) := mj_d (q := (31, .getfield 23, 3)) k_Fo_nodesMet 19 rfl
theorem d_Fo_nodesMet_34 : decode y_Fo_nodesMet.2.2.1 34 = .ok (.getfield 55, 3) := mj_d (q := (34, .getfield 55, 3)) k_Fo_nodesMet 20 rfl
theorem d_Fo_nodesMet_37 : decode y_Fo_nodesMet.2.2.1 37 = .ok (.invokevirtual 94, 3) := mj_d (q := (37, .invokevirtual 94, 3)) k_Fo_nodesMet 21 rfl
theorem d_Fo_nodesMet_40 : decode y_Fo_nodesMet.2.2.1 40 = .ok (.lconst 0, 1) := mj_d (q := (40, .lconst 0, 1)) k_Fo_nodesMet 22 rfl
theorem d_Fo_nodesMet_41 : decode y_Fo_nodesMet.2.2.1 41 = .ok (.lcmp, 1) := mj_d (q := (41, .lcmp, 1)) k_Fo_nodesMet 23 rfl
theorem d_Fo_nodesMet_42 : decode y_Fo_nodesMet.2.2.1 42 = .ok (.ifCond .eq 19, 3) := mj_d (q := (42, .ifCond .eq 19, 3)) k_Fo_nodesMet 24 rfl
theorem d_Fo_nodesMet_45 : decode y_Fo_nodesMet.2.2.1 45 = .ok (.aload_n 0, 1) := mj_d (q := (45, .aload_n 0, 1)) k_Fo_nodesMet 25 rfl
theorem d_Fo_nodesMet_46 : decode y_Fo_nodesMet.2.2.1 46 = .ok (.iconst 0, 1) := mj_d (q := (46, .iconst 0, 1)) k_Fo_nodesMet 26 rfl
theorem d_Fo_nodesMet_47 : decode y_Fo_nodesMet.2.2.1 47 = .ok (.iconst 0, 1) := mj_d (q := (47, .iconst 0, 1)) k_Fo_nodesMet 27 rfl
theorem d_Fo_nodesMet_48 : decode y_Fo_nodesMet.2.2.1 48 = .ok (.aload_n 0, 1) := mj_d (q := (48, .aload_n 0, 1)) k_Fo_nodesMet 28 rfl
theorem d_Fo_nodesMet_49 : decode y_Fo_nodesMet.2.2.1 49 = .ok (.getfield 23, 3) := mj_d (q := (49, .getfield 23, 3)) k_Fo_nodesMet 29 rfl
theorem d_Fo_nodesMet_52 : decode y_Fo_nodesMet.2.2.1 52 = .ok (.getfield 55, 3) := mj_d (q := (52, .getfield 55, 3)) k_Fo_nodesMet 30 rfl
theorem d_Fo_nodesMet_55 : decode y_Fo_nodesMet.2.2.1 55 = .ok (.invokestatic 81, 3) := mj_d (q := (55, .invokestatic 81, 3)) k_Fo_nodesMet 31 rfl
theorem d_Fo_nodesMet_58 : decode y_Fo_nodesMet.2.2.1 58 = .ok (.invokevirtual 97, 3) := mj_d (q := (58, .invokevirtual 97, 3)) k_Fo_nodesMet 32 rfl
theorem d_Fo_nodesMet_61 : decode y_Fo_nodesMet.2.2.1 61 = .ok (.iconst 0, 1) := mj_d (q := (61, .iconst 0, 1)) k_Fo_nodesMet 33 rfl
theorem d_Fo_nodesMet_62 : decode y_Fo_nodesMet.2.2.1 62 = .ok (.istore_n 1, 1) := mj_d (q := (62, .istore_n 1, 1)) k_Fo_nodesMet 34 rfl
theorem d_Fo_nodesMet_63 : decode y_Fo_nodesMet.2.2.1 63 = .ok (.iload_n 1, 1) := mj_d (q := (63, .iload_n 1, 1)) k_Fo_nodesMet 35 rfl
theorem d_Fo_nodesMet_64 : decode y_Fo_nodesMet.2.2.1 64 = .ok (.aload_n 0, 1) := mj_d (q := (64, .aload_n 0, 1)) k_Fo_nodesMet 36 rfl
theorem d_Fo_nodesMet_65 : decode y_Fo_nodesMet.2.2.1 65 = .ok (.getfield 91, 3) := mj_d (q := (65, .getfield 91, 3)) k_Fo_nodesMet 37 rfl
theorem d_Fo_nodesMet_68 : decode y_Fo_nodesMet.2.2.1 68 = .ok (.if_icmp .ge 50, 3) := mj_d (q := (68, .if_icmp .ge 50, 3)) k_Fo_nodesMet 38 rfl
theorem d_Fo_nodesMet_71 : decode y_Fo_nodesMet.2.2.1 71 = .ok (.iload_n 1, 1) := mj_d (q := (71, .iload_n 1, 1)) k_Fo_nodesMet 39 rfl
theorem d_Fo_nodesMet_72 : decode y_Fo_nodesMet.2.2.1 72 = .ok (.sipush 845, 3) := mj_d (q := (72, .sipush 845, 3)) k_Fo_nodesMet 40 rfl
theorem d_Fo_nodesMet_75 : decode y_Fo_nodesMet.2.2.1 75 = .ok (.if_icmp .ge 43, 3) := mj_d (q := (75, .if_icmp .ge 43, 3)) k_Fo_nodesMet 41 rfl
theorem d_Fo_nodesMet_78 : decode y_Fo_nodesMet.2.2.1 78 = .ok (.aload_n 0, 1) := mj_d (q := (78, .aload_n 0, 1)) k_Fo_nodesMet 42 rfl
theorem d_Fo_nodesMet_79 : decode y_Fo_nodesMet.2.2.1 79 = .ok (.aload_n 0, 1) := mj_d (q := (79, .aload_n 0, 1)) k_Fo_nodesMet 43 rfl
theorem d_Fo_nodesMet_80 : decode y_Fo_nodesMet.2.2.1 80 = .ok (.getfield 9, 3) := mj_d (q := (80, .getfield 9, 3)) k_Fo_nodesMet 44 rfl
theorem d_Fo_nodesMet_83 : decode y_Fo_nodesMet.2.2.1 83 = .ok (.iload_n 1, 1) := mj_d (q := (83, .iload_n 1, 1)) k_Fo_nodesMet 45 rfl
theorem d_Fo_nodesMet_84 : decode y_Fo_nodesMet.2.2.1 84 = .ok (.iaload, 1) := mj_d (q := (84, .iaload, 1)) k_Fo_nodesMet 46 rfl
theorem d_Fo_nodesMet_85 : decode y_Fo_nodesMet.2.2.1 85 = .ok (.invokevirtual 101, 3) := mj_d (q := (85, .invokevirtual 101, 3)) k_Fo_nodesMet 47 rfl
theorem d_Fo_nodesMet_88 : decode y_Fo_nodesMet.2.2.1 88 = .ok (.iconst 0, 1) := mj_d (q := (88, .iconst 0, 1)) k_Fo_nodesMet 48 rfl
theorem d_Fo_nodesMet_89 : decode y_Fo_nodesMet.2.2.1 89 = .ok (.istore_n 2, 1) := mj_d (q := (89, .istore_n 2, 1)) k_Fo_nodesMet 49 rfl
theorem d_Fo_nodesMet_90 : decode y_Fo_nodesMet.2.2.1 90 = .ok (.iload_n 2, 1) := mj_d (q := (90, .iload_n 2, 1)) k_Fo_nodesMet 50 rfl
theorem d_Fo_nodesMet_91 : decode y_Fo_nodesMet.2.2.1 91 = .ok (.aload_n 0, 1) := mj_d (q := (91, .aload_n 0, 1)) k_Fo_nodesMet 51 rfl
theorem d_Fo_nodesMet_92 : decode y_Fo_nodesMet.2.2.1 92 = .ok (.getfield 41, 3) := mj_d (q := (92, .getfield 41, 3)) k_Fo_nodesMet 52 rfl
theorem d_Fo_nodesMet_95 : decode y_Fo_nodesMet.2.2.1 95 = .ok (.getfield 71, 3) := mj_d (q := (95, .getfield 71, 3)) k_Fo_nodesMet 53 rfl
theorem d_Fo_nodesMet_98 : decode y_Fo_nodesMet.2.2.1 98 = .ok (.if_icmp .ge 14, 3) := mj_d (q := (98, .if_icmp .ge 14, 3)) k_Fo_nodesMet 54 rfl
theorem d_Fo_nodesMet_101 : decode y_Fo_nodesMet.2.2.1 101 = .ok (.aload_n 0, 1) := mj_d (q := (101, .aload_n 0, 1)) k_Fo_nodesMet 55 rfl
theorem d_Fo_nodesMet_102 : decode y_Fo_nodesMet.2.2.1 102 = .ok (.iload_n 2, 1) := mj_d (q := (102, .iload_n 2, 1)) k_Fo_nodesMet 56 rfl
theorem d_Fo_nodesMet_103 : decode y_Fo_nodesMet.2.2.1 103 = .ok (.invokevirtual 104, 3) := mj_d (q := (103, .invokevirtual 104, 3)) k_Fo_nodesMet 57 rfl
theorem d_Fo_nodesMet_106 : decode y_Fo_nodesMet.2.2.1 106 = .ok (.iinc 2 1, 3) := mj_d (q := (106, .iinc 2 1, 3)) k_Fo_nodesMet 58 rfl
theorem d_Fo_nodesMet_109 : decode y_Fo_nodesMet.2.2.1 109 = .ok (.goto (-19), 3) := mj_d (q := (109, .goto (-19), 3)) k_Fo_nodesMet 59 rfl
theorem d_Fo_nodesMet_112 : decode y_Fo_nodesMet.2.2.1 112 = .ok (.iinc 1 1, 3) := mj_d (q := (112, .iinc 1 1, 3)) k_Fo_nodesMet 60 rfl
theorem d_Fo_nodesMet_115 : decode y_Fo_nodesMet.2.2.1 115 = .ok (.goto (-52), 3) := mj_d (q := (115, .goto (-52), 3)) k_Fo_nodesMet 61 rfl
theorem d_Fo_nodesMet_118 : decode y_Fo_nodesMet.2.2.1 118 = .ok (.aload_n 0, 1) := mj_d (q := (118, .aload_n 0, 1)) k_Fo_nodesMet 62 rfl
theorem d_Fo_nodesMet_119 : decode y_Fo_nodesMet.2.2.1 119 = .ok (.getfield 91, 3) := mj_d (q := (119, .getfield 91, 3)) k_Fo_nodesMet 63 rfl
theorem d_Fo_nodesMet_122 : decode y_Fo_nodesMet.2.2.1 122 = .ok (.ireturn, 1) := mj_d (q := (122, .ireturn, 1)) k_Fo_nodesMet 64 rfl
theorem d_Fo_treesOver_0 : decode y_Fo_treesOver.2.2.1 0 = .ok (.aload_n 0, 1) := mj_d (q := (0, .aload_n 0, 1)) k_Fo_treesOver 0 rfl
theorem d_Fo_treesOver_1 : decode y_Fo_treesOver.2.2.1 1 = .ok (.getfield 32, 3) := mj_d (q := (1, .getfield 32, 3)) k_Fo_treesOver 1 rfl
theorem d_Fo_treesOver_4 : decode y_Fo_treesOver.2.2.1 4 = .ok (.iload_n 1, 1) := mj_d (q := (4, .iload_n 1, 1)) k_Fo_treesOver 2 rfl
theorem d_Fo_treesOver_5 : decode y_Fo_treesOver.2.2.1 5 = .ok (.iload_n 2, 1) := mj_d (q := (5, .iload_n 2, 1)) k_Fo_treesOver 3 rfl
theorem d_Fo_treesOver_6 : decode y_Fo_treesOver.2.2.1 6 = .ok (.iload_n 3, 1) := mj_d (q := (6, .iload_n 3, 1)) k_Fo_treesOver 4 rfl
theorem d_Fo_treesOver_7 : decode y_Fo_treesOver.2.2.1 7 = .ok (.invokevirtual 74, 3) := mj_d (q := (7, .invokevirtual 74, 3)) k_Fo_treesOver 5 rfl
theorem d_Fo_treesOver_10 : decode y_Fo_treesOver.2.2.1 10 = .ok (.lreturn, 1) := mj_d (q := (10, .lreturn, 1)) k_Fo_treesOver 6 rfl
theorem d_Fo_meet_0 : decode y_Fo_meet.2.2.1 0 = .ok (.aload_n 0, 1) := mj_d (q := (0, .aload_n 0, 1)) k_Fo_meet 0 rfl
theorem d_Fo_meet_1 : decode y_Fo_meet.2.2.1 1 = .ok (.getfield 15, 3) := mj_d (q := (1, .getfield 15, 3)) k_Fo_meet 1 rfl
theorem d_Fo_meet_4 : decode y_Fo_meet.2.2.1 4 = .ok (.iload_n 1, 1) := mj_d (q := (4, .iload_n 1, 1)) k_Fo_meet 2 rfl
theorem d_Fo_meet_5 : decode y_Fo_meet.2.2.1 5 = .ok (.baload, 1) := mj_d (q := (5, .baload, 1)) k_Fo_meet 3 rfl
theorem d_Fo_meet_6 : decode y_Fo_meet.2.2.1 6 = .ok (.ifCond .ne 40, 3) := mj_d (q := (6, .ifCond .ne 40, 3)) k_Fo_meet 4 rfl
theorem d_Fo_meet_9 : decode y_Fo_meet.2.2.1 9 = .ok (.aload_n 0, 1) := mj_d (q := (9, .aload_n 0, 1)) k_Fo_meet 5 rfl
theorem d_Fo_meet_10 : decode y_Fo_meet.2.2.1 10 = .ok (.getfield 91, 3) := mj_d (q := (10, .getfield 91, 3)) k_Fo_meet 6 rfl
theorem d_Fo_meet_13 : decode y_Fo_meet.2.2.1 13 = .ok (.sipush 845, 3) := mj_d (q := (13, .sipush 845, 3)) k_Fo_meet 7 rfl
theorem d_Fo_meet_16 : decode y_Fo_meet.2.2.1 16 = .ok (.if_icmp .ge 30, 3) := mj_d (q := (16, .if_icmp .ge 30, 3)) k_Fo_meet 8 rfl
theorem d_Fo_meet_19 : decode y_Fo_meet.2.2.1 19 = .ok (.aload_n 0, 1) := mj_d (q := (19, .aload_n 0, 1)) k_Fo_meet 9 rfl
theorem d_Fo_meet_20 : decode y_Fo_meet.2.2.1 20 = .ok (.getfield 15, 3) := mj_d (q := (20, .getfield 15, 3)) k_Fo_meet 10 rfl
theorem d_Fo_meet_23 : decode y_Fo_meet.2.2.1 23 = .ok (.iload_n 1, 1) := mj_d (q := (23, .iload_n 1, 1)) k_Fo_meet 11 rfl
theorem d_Fo_meet_24 : decode y_Fo_meet.2.2.1 24 = .ok (.iconst 1, 1) := mj_d (q := (24, .iconst 1, 1)) k_Fo_meet 12 rfl
theorem d_Fo_meet_25 : decode y_Fo_meet.2.2.1 25 = .ok (.bastore, 1) := mj_d (q := (25, .bastore, 1)) k_Fo_meet 13 rfl
theorem d_Fo_meet_26 : decode y_Fo_meet.2.2.1 26 = .ok (.aload_n 0, 1) := mj_d (q := (26, .aload_n 0, 1)) k_Fo_meet 14 rfl
theorem d_Fo_meet_27 : decode y_Fo_meet.2.2.1 27 = .ok (.getfield 9, 3) := mj_d (q := (27, .getfield 9, 3)) k_Fo_meet 15 rfl
theorem d_Fo_meet_30 : decode y_Fo_meet.2.2.1 30 = .ok (.aload_n 0, 1) := mj_d (q := (30, .aload_n 0, 1)) k_Fo_meet 16 rfl
theorem d_Fo_meet_31 : decode y_Fo_meet.2.2.1 31 = .ok (.getfield 91, 3) := mj_d (q := (31, .getfield 91, 3)) k_Fo_meet 17 rfl
theorem d_Fo_meet_34 : decode y_Fo_meet.2.2.1 34 = .ok (.iload_n 1, 1) := mj_d (q := (34, .iload_n 1, 1)) k_Fo_meet 18 rfl
theorem d_Fo_meet_35 : decode y_Fo_meet.2.2.1 35 = .ok (.iastore, 1) := mj_d (q := (35, .iastore, 1)) k_Fo_meet 19 rfl
theorem d_Fo_meet_36 : decode y_Fo_meet.2.2.1 36 = .ok (.aload_n 0, 1) := mj_d (q := (36, .aload_n 0, 1)) k_Fo_meet 20 rfl
theorem d_Fo_meet_37 : decode y_Fo_meet.2.2.1 37 = .ok (.dup, 1) := mj_d (q := (37, .dup, 1)) k_Fo_meet 21 rfl
theorem d_Fo_meet_38 : decode y_Fo_meet.2.2.1 38 = .ok (.getfield 91, 3) := mj_d (q := (38, .getfield 91, 3)) k_Fo_meet 22 rfl
theorem d_Fo_meet_41 : decode y_Fo_meet.2.2.1 41 = .ok (.iconst 1, 1) := mj_d (q := (41, .iconst 1, 1)) k_Fo_meet 23 rfl
theorem d_Fo_meet_42 : decode y_Fo_meet.2.2.1 42 = .ok (.iadd, 1) := mj_d (q := (42, .iadd, 1)) k_Fo_meet 24 rfl
theorem d_Fo_meet_43 : decode y_Fo_meet.2.2.1 43 = .ok (.putfield 91, 3) := mj_d (q := (43, .putfield 91, 3)) k_Fo_meet 25 rfl
theorem d_Fo_meet_46 : decode y_Fo_meet.2.2.1 46 = .ok (.return_, 1) := mj_d (q := (46, .return_, 1)) k_Fo_meet 26 rfl
theorem d_Fo_gatherCell_0 : decode y_Fo_gatherCell.2.2.1 0 = .ok (.aload_n 0, 1) := mj_d (q := (0, .aload_n 0, 1)) k_Fo_gatherCell 0 rfl
theorem d_Fo_gatherCell_1 : decode y_Fo_gatherCell.2.2.1 1 = .ok (.getfield 41, 3) := mj_d (q := (1, .getfield 41, 3)) k_Fo_gatherCell 1 rfl
theorem d_Fo_gatherCell_4 : decode y_Fo_gatherCell.2.2.1 4 = .ok (.iload_n 1, 1) := mj_d (q := (4, .iload_n 1, 1)) k_Fo_gatherCell 2 rfl
theorem d_Fo_gatherCell_5 : decode y_Fo_gatherCell.2.2.1 5 = .ok (.sipush 169, 3) := mj_d (q := (5, .sipush 169, 3)) k_Fo_gatherCell 3 rfl
theorem d_Fo_gatherCell_8 : decode y_Fo_gatherCell.2.2.1 8 = .ok (.idiv, 1) := mj_d (q := (8, .idiv, 1)) k_Fo_gatherCell 4 rfl
theorem d_Fo_gatherCell_9 : decode y_Fo_gatherCell.2.2.1 9 = .ok (.iload_n 1, 1) := mj_d (q := (9, .iload_n 1, 1)) k_Fo_gatherCell 5 rfl
theorem d_Fo_gatherCell_10 : decode y_Fo_gatherCell.2.2.1 10 = .ok (.bipush 13, 2) := mj_d (q := (10, .bipush 13, 2)) k_Fo_gatherCell 6 rfl
theorem d_Fo_gatherCell_12 : decode y_Fo_gatherCell.2.2.1 12 = .ok (.idiv, 1) := mj_d (q := (12, .idiv, 1)) k_Fo_gatherCell 7 rfl
theorem d_Fo_gatherCell_13 : decode y_Fo_gatherCell.2.2.1 13 = .ok (.bipush 13, 2) := mj_d (q := (13, .bipush 13, 2)) k_Fo_gatherCell 8 rfl
theorem d_Fo_gatherCell_15 : decode y_Fo_gatherCell.2.2.1 15 = .ok (.irem, 1) := mj_d (q := (15, .irem, 1)) k_Fo_gatherCell 9 rfl
theorem d_Fo_gatherCell_16 : decode y_Fo_gatherCell.2.2.1 16 = .ok (.iload_n 1, 1) := mj_d (q := (16, .iload_n 1, 1)) k_Fo_gatherCell 10 rfl
theorem d_Fo_gatherCell_17 : decode y_Fo_gatherCell.2.2.1 17 = .ok (.bipush 13, 2) := mj_d (q := (17, .bipush 13, 2)) k_Fo_gatherCell 11 rfl
theorem d_Fo_gatherCell_19 : decode y_Fo_gatherCell.2.2.1 19 = .ok (.irem, 1) := mj_d (q := (19, .irem, 1)) k_Fo_gatherCell 12 rfl
theorem d_Fo_gatherCell_20 : decode y_Fo_gatherCell.2.2.1 20 = .ok (.invokevirtual 67, 3) := mj_d (q := (20, .invokevirtual 67, 3)) k_Fo_gatherCell 13 rfl
theorem d_Fo_gatherCell_23 : decode y_Fo_gatherCell.2.2.1 23 = .ok (.return_, 1) := mj_d (q := (23, .return_, 1)) k_Fo_gatherCell 14 rfl
theorem d_Fo_meetParts_0 : decode y_Fo_meetParts.2.2.1 0 = .ok (.iconst 0, 1) := mj_d (q := (0, .iconst 0, 1)) k_Fo_meetParts 0 rfl
theorem d_Fo_meetParts_1 : decode y_Fo_meetParts.2.2.1 1 = .ok (.istore_n 2, 1) := mj_d (q := (1, .istore_n 2, 1)) k_Fo_meetParts 1 rfl
theorem d_Fo_meetParts_2 : decode y_Fo_meetParts.2.2.1 2 = .ok (.iload_n 2, 1) := mj_d (q := (2, .iload_n 2, 1)) k_Fo_meetParts 2 rfl
theorem d_Fo_meetParts_3 : decode y_Fo_meetParts.2.2.1 3 = .ok (.iconst 3, 1) := mj_d (q := (3, .iconst 3, 1)) k_Fo_meetParts 3 rfl
theorem d_Fo_meetParts_4 : decode y_Fo_meetParts.2.2.1 4 = .ok (.if_icmp .ge 34, 3) := mj_d (q := (4, .if_icmp .ge 34, 3)) k_Fo_meetParts 4 rfl
theorem d_Fo_meetParts_7 : decode y_Fo_meetParts.2.2.1 7 = .ok (.aload_n 0, 1) := mj_d (q := (7, .aload_n 0, 1)) k_Fo_meetParts 5 rfl
theorem d_Fo_meetParts_8 : decode y_Fo_meetParts.2.2.1 8 = .ok (.getfield 41, 3) := mj_d (q := (8, .getfield 41, 3)) k_Fo_meetParts 6 rfl
theorem d_Fo_meetParts_11 : decode y_Fo_meetParts.2.2.1 11 = .ok (.iload_n 1, 1) := mj_d (q := (11, .iload_n 1, 1)) k_Fo_meetParts 7 rfl
theorem d_Fo_meetParts_12 : decode y_Fo_meetParts.2.2.1 12 = .ok (.iload_n 2, 1) := mj_d (q := (12, .iload_n 2, 1)) k_Fo_meetParts 8 rfl
theorem d_Fo_meetParts_13 : decode y_Fo_meetParts.2.2.1 13 = .ok (.invokevirtual 107, 3) := mj_d (q := (13, .invokevirtual 107, 3)) k_Fo_meetParts 9 rfl
theorem d_Fo_meetParts_16 : decode y_Fo_meetParts.2.2.1 16 = .ok (.invokestatic 110, 3) := mj_d (q := (16, .invokestatic 110, 3)) k_Fo_meetParts 10 rfl
theorem d_Fo_meetParts_19 : decode y_Fo_meetParts.2.2.1 19 = .ok (.ifCond .eq 13, 3) := mj_d (q := (19, .ifCond .eq 13, 3)) k_Fo_meetParts 11 rfl
theorem d_Fo_meetParts_22 : decode y_Fo_meetParts.2.2.1 22 = .ok (.aload_n 0, 1) := mj_d (q := (22, .aload_n 0, 1)) k_Fo_meetParts 12 rfl
theorem d_Fo_meetParts_23 : decode y_Fo_meetParts.2.2.1 23 = .ok (.aload_n 0, 1) := mj_d (q := (23, .aload_n 0, 1)) k_Fo_meetParts 13 rfl
theorem d_Fo_meetParts_24 : decode y_Fo_meetParts.2.2.1 24 = .ok (.iload_n 1, 1) := mj_d (q := (24, .iload_n 1, 1)) k_Fo_meetParts 14 rfl
theorem d_Fo_meetParts_25 : decode y_Fo_meetParts.2.2.1 25 = .ok (.iload_n 2, 1) := mj_d (q := (25, .iload_n 2, 1)) k_Fo_meetParts 15 rfl
theorem d_Fo_meetParts_26 : decode y_Fo_meetParts.2.2.1 26 = .ok (.invokevirtual 114, 3) := mj_d (q := (26, .invokevirtual 114, 3)) k_Fo_meetParts 16 rfl
theorem d_Fo_meetParts_29 : decode y_Fo_meetParts.2.2.1 29 = .ok (.invokevirtual 97, 3) := mj_d (q := (29, .invokevirtual 97, 3)) k_Fo_meetParts 17 rfl
theorem d_Fo_meetParts_32 : decode y_Fo_meetParts.2.2.1 32 = .ok (.iinc 2 1, 3) := mj_d (q := (32, .iinc 2 1, 3)) k_Fo_meetParts 18 rfl
theorem d_Fo_meetParts_35 : decode y_Fo_meetParts.2.2.1 35 = .ok (.goto (-33), 3) := mj_d (q := (35, .goto (-33), 3)) k_Fo_meetParts 19 rfl
theorem d_Fo_meetParts_38 : decode y_Fo_meetParts.2.2.1 38 = .ok (.return_, 1) := mj_d (q := (38, .return_, 1)) k_Fo_meetParts 20 rfl
theorem d_Wa_symbolOf_0 : decode y_Wa_symbolOf.2.2.1 0 = .ok (.aload_n 0, 1) := mj_d (q := (0, .aload_n 0, 1)) k_Wa_symbolOf 0 rfl
theorem d_Wa_symbolOf_1 : decode y_Wa_symbolOf.2.2.1 1 = .ok (.getfield 22, 3) := mj_d (q := (1, .getfield 22, 3)) k_Wa_symbolOf 1 rfl
theorem d_Wa_symbolOf_4 : decode y_Wa_symbolOf.2.2.1 4 = .ok (.getfield 55, 3) := mj_d (q := (4, .getfield 55, 3)) k_Wa_symbolOf 2 rfl
theorem d_Wa_symbolOf_7 : decode y_Wa_symbolOf.2.2.1 7 = .ok (.aload_n 0, 1) := mj_d (q := (7, .aload_n 0, 1)) k_Wa_symbolOf 3 rfl
theorem d_Wa_symbolOf_8 : decode y_Wa_symbolOf.2.2.1 8 = .ok (.getfield 9, 3) := mj_d (q := (8, .getfield 9, 3)) k_Wa_symbolOf 4 rfl
theorem d_Wa_symbolOf_11 : decode y_Wa_symbolOf.2.2.1 11 = .ok (.iload_n 1, 1) := mj_d (q := (11, .iload_n 1, 1)) k_Wa_symbolOf 5 rfl
theorem d_Wa_symbolOf_12 : decode y_Wa_symbolOf.2.2.1 12 = .ok (.iaload, 1) := mj_d (q := (12, .iaload, 1)) k_Wa_symbolOf 6 rfl
theorem d_Wa_symbolOf_13 : decode y_Wa_symbolOf.2.2.1 13 = .ok (.iload_n 2, 1) := mj_d (q := (13, .iload_n 2, 1)) k_Wa_symbolOf 7 rfl
theorem d_Wa_symbolOf_14 : decode y_Wa_symbolOf.2.2.1 14 = .ok (.invokestatic 51, 3) := mj_d (q := (14, .invokestatic 51, 3)) k_Wa_symbolOf 8 rfl
theorem d_Wa_symbolOf_17 : decode y_Wa_symbolOf.2.2.1 17 = .ok (.iaload, 1) := mj_d (q := (17, .iaload, 1)) k_Wa_symbolOf 9 rfl
theorem d_Wa_symbolOf_18 : decode y_Wa_symbolOf.2.2.1 18 = .ok (.ireturn, 1) := mj_d (q := (18, .ireturn, 1)) k_Wa_symbolOf 10 rfl
theorem d_Fo_partCell_0 : decode y_Fo_partCell.2.2.1 0 = .ok (.aload_n 0, 1) := mj_d (q := (0, .aload_n 0, 1)) k_Fo_partCell 0 rfl
theorem d_Fo_partCell_1 : decode y_Fo_partCell.2.2.1 1 = .ok (.getfield 41, 3) := mj_d (q := (1, .getfield 41, 3)) k_Fo_partCell 1 rfl
theorem d_Fo_partCell_4 : decode y_Fo_partCell.2.2.1 4 = .ok (.iload_n 1, 1) := mj_d (q := (4, .iload_n 1, 1)) k_Fo_partCell 2 rfl
theorem d_Fo_partCell_5 : decode y_Fo_partCell.2.2.1 5 = .ok (.iload_n 2, 1) := mj_d (q := (5, .iload_n 2, 1)) k_Fo_partCell 3 rfl
theorem d_Fo_partCell_6 : decode y_Fo_partCell.2.2.1 6 = .ok (.invokevirtual 107, 3) := mj_d (q := (6, .invokevirtual 107, 3)) k_Fo_partCell 4 rfl
theorem d_Fo_partCell_9 : decode y_Fo_partCell.2.2.1 9 = .ok (.aload_n 0, 1) := mj_d (q := (9, .aload_n 0, 1)) k_Fo_partCell 5 rfl
theorem d_Fo_partCell_10 : decode y_Fo_partCell.2.2.1 10 = .ok (.getfield 41, 3) := mj_d (q := (10, .getfield 41, 3)) k_Fo_partCell 6 rfl
theorem d_Fo_partCell_13 : decode y_Fo_partCell.2.2.1 13 = .ok (.iload_n 1, 1) := mj_d (q := (13, .iload_n 1, 1)) k_Fo_partCell 7 rfl
theorem d_Fo_partCell_14 : decode y_Fo_partCell.2.2.1 14 = .ok (.iload_n 2, 1) := mj_d (q := (14, .iload_n 2, 1)) k_Fo_partCell 8 rfl
theorem d_Fo_partCell_15 : decode y_Fo_partCell.2.2.1 15 = .ok (.invokevirtual 117, 3) := mj_d (q := (15, .invokevirtual 117, 3)) k_Fo_partCell 9 rfl
theorem d_Fo_partCell_18 : decode y_Fo_partCell.2.2.1 18 = .ok (.aload_n 0, 1) := mj_d (q := (18, .aload_n 0, 1)) k_Fo_partCell 10 rfl
theorem d_Fo_partCell_19 : decode y_Fo_partCell.2.2.1 19 = .ok (.getfield 41, 3) := mj_d (q := (19, .getfield 41, 3)) k_Fo_partCell 11 rfl
theorem d_Fo_partCell_22 : decode y_Fo_partCell.2.2.1 22 = .ok (.iload_n 1, 1) := mj_d (q := (22, .iload_n 1, 1)) k_Fo_partCell 12 rfl
theorem d_Fo_partCell_23 : decode y_Fo_partCell.2.2.1 23 = .ok (.iload_n 2, 1) := mj_d (q := (23, .iload_n 2, 1)) k_Fo_partCell 13 rfl
theorem d_Fo_partCell_24 : decode y_Fo_partCell.2.2.1 24 = .ok (.iconst 1, 1) := mj_d (q := (24, .iconst 1, 1)) k_Fo_partCell 14 rfl
theorem d_Fo_partCell_25 : decode y_Fo_partCell.2.2.1 25 = .ok (.iadd, 1) := mj_d (q := (25, .iadd, 1)) k_Fo_partCell 15 rfl
theorem d_Fo_partCell_26 : decode y_Fo_partCell.2.2.1 26 = .ok (.invokevirtual 117, 3) := mj_d (q := (26, .invokevirtual 117, 3)) k_Fo_partCell 16 rfl
theorem d_Fo_partCell_29 : decode y_Fo_partCell.2.2.1 29 = .ok (.invokestatic 81, 3) := mj_d (q := (29, .invokestatic 81, 3)) k_Fo_partCell 17 rfl
theorem d_Fo_partCell_32 : decode y_Fo_partCell.2.2.1 32 = .ok (.ireturn, 1) := mj_d (q := (32, .ireturn, 1)) k_Fo_partCell 18 rfl
theorem d_Wa_cutOf_0 : decode y_Wa_cutOf.2.2.1 0 = .ok (.iload_n 2, 1) := mj_d (q := (0, .iload_n 2, 1)) k_Wa_cutOf 0 rfl
theorem d_Wa_cutOf_1 : decode y_Wa_cutOf.2.2.1 1 = .ok (.tableswitch 52 0 2 #[27, 32, 42], 27) := mj_d (q := (1, .tableswitch 52 0 2 #[27, 32, 42], 27)) k_Wa_cutOf 1 rfl
theorem d_Wa_cutOf_28 : decode y_Wa_cutOf.2.2.1 28 = .ok (.aload_n 0, 1) := mj_d (q := (28, .aload_n 0, 1)) k_Wa_cutOf 2 rfl
theorem d_Wa_cutOf_29 : decode y_Wa_cutOf.2.2.1 29 = .ok (.getfield 30, 3) := mj_d (q := (29, .getfield 30, 3)) k_Wa_cutOf 3 rfl
theorem d_Wa_cutOf_32 : decode y_Wa_cutOf.2.2.1 32 = .ok (.ireturn, 1) := mj_d (q := (32, .ireturn, 1)) k_Wa_cutOf 4 rfl
theorem d_Wa_cutOf_33 : decode y_Wa_cutOf.2.2.1 33 = .ok (.aload_n 0, 1) := mj_d (q := (33, .aload_n 0, 1)) k_Wa_cutOf 5 rfl
theorem d_Wa_cutOf_34 : decode y_Wa_cutOf.2.2.1 34 = .ok (.getfield 15, 3) := mj_d (q := (34, .getfield 15, 3)) k_Wa_cutOf 6 rfl
theorem d_Wa_cutOf_37 : decode y_Wa_cutOf.2.2.1 37 = .ok (.iload_n 1, 1) := mj_d (q := (37, .iload_n 1, 1)) k_Wa_cutOf 7 rfl
theorem d_Wa_cutOf_38 : decode y_Wa_cutOf.2.2.1 38 = .ok (.iaload, 1) := mj_d (q := (38, .iaload, 1)) k_Wa_cutOf 8 rfl
theorem d_Wa_cutOf_39 : decode y_Wa_cutOf.2.2.1 39 = .ok (.bipush 13, 2) := mj_d (q := (39, .bipush 13, 2)) k_Wa_cutOf 9 rfl
theorem d_Wa_cutOf_41 : decode y_Wa_cutOf.2.2.1 41 = .ok (.idiv, 1) := mj_d (q := (41, .idiv, 1)) k_Wa_cutOf 10 rfl
theorem d_Wa_cutOf_42 : decode y_Wa_cutOf.2.2.1 42 = .ok (.ireturn, 1) := mj_d (q := (42, .ireturn, 1)) k_Wa_cutOf 11 rfl
theorem d_Wa_cutOf_43 : decode y_Wa_cutOf.2.2.1 43 = .ok (.aload_n 0, 1) := mj_d (q := (43, .aload_n 0, 1)) k_Wa_cutOf 12 rfl
theorem d_Wa_cutOf_44 : decode y_Wa_cutOf.2.2.1 44 = .ok (.getfield 15, 3) := mj_d (q := (44, .getfield 15, 3)) k_Wa_cutOf 13 rfl
theorem d_Wa_cutOf_47 : decode y_Wa_cutOf.2.2.1 47 = .ok (.iload_n 1, 1) := mj_d (q := (47, .iload_n 1, 1)) k_Wa_cutOf 14 rfl
theorem d_Wa_cutOf_48 : decode y_Wa_cutOf.2.2.1 48 = .ok (.iaload, 1) := mj_d (q := (48, .iaload, 1)) k_Wa_cutOf 15 rfl
theorem d_Wa_cutOf_49 : decode y_Wa_cutOf.2.2.1 49 = .ok (.bipush 13, 2) := mj_d (q := (49, .bipush 13, 2)) k_Wa_cutOf 16 rfl
theorem d_Wa_cutOf_51 : decode y_Wa_cutOf.2.2.1 51 = .ok (.irem, 1) := mj_d (q := (51, .irem, 1)) k_Wa_cutOf 17 rfl
theorem d_Wa_cutOf_52 : decode y_Wa_cutOf.2.2.1 52 = .ok (.ireturn, 1) := mj_d (q := (52, .ireturn, 1)) k_Wa_cutOf 18 rfl
theorem d_Wa_cutOf_53 : decode y_Wa_cutOf.2.2.1 53 = .ok (.aload_n 0, 1) := mj_d (q := (53, .aload_n 0, 1)) k_Wa_cutOf 19 rfl
theorem d_Wa_cutOf_54 : decode y_Wa_cutOf.2.2.1 54 = .ok (.getfield 34, 3) := mj_d (q := (54, .getfield 34, 3)) k_Wa_cutOf 20 rfl
theorem d_Wa_cutOf_57 : decode y_Wa_cutOf.2.2.1 57 = .ok (.ireturn, 1) := mj_d (q := (57, .ireturn, 1)) k_Wa_cutOf 21 rfl
theorem d_CF_rule_0 : decode y_CF_rule.2.2.1 0 = .ok (.iload_n 1, 1) := mj_d (q := (0, .iload_n 1, 1)) k_CF_rule 0 rfl
theorem d_CF_rule_1 : decode y_CF_rule.2.2.1 1 = .ok (.invokestatic 44, 3) := mj_d (q := (1, .invokestatic 44, 3)) k_CF_rule 1 rfl
theorem d_CF_rule_4 : decode y_CF_rule.2.2.1 4 = .ok (.ifCond .eq 11, 3) := mj_d (q := (4, .ifCond .eq 11, 3)) k_CF_rule 2 rfl
theorem d_CF_rule_7 : decode y_CF_rule.2.2.1 7 = .ok (.iload_n 2, 1) := mj_d (q := (7, .iload_n 2, 1)) k_CF_rule 3 rfl
theorem d_CF_rule_8 : decode y_CF_rule.2.2.1 8 = .ok (.iload_n 3, 1) := mj_d (q := (8, .iload_n 3, 1)) k_CF_rule 4 rfl
theorem d_CF_rule_9 : decode y_CF_rule.2.2.1 9 = .ok (.invokestatic 48, 3) := mj_d (q := (9, .invokestatic 48, 3)) k_CF_rule 5 rfl
theorem d_CF_rule_12 : decode y_CF_rule.2.2.1 12 = .ok (.ifCond .ne 11, 3) := mj_d (q := (12, .ifCond .ne 11, 3)) k_CF_rule 6 rfl
theorem d_CF_rule_15 : decode y_CF_rule.2.2.1 15 = .ok (.new 52, 3) := mj_d (q := (15, .new 52, 3)) k_CF_rule 7 rfl
theorem d_CF_rule_18 : decode y_CF_rule.2.2.1 18 = .ok (.dup, 1) := mj_d (q := (18, .dup, 1)) k_CF_rule 8 rfl
theorem d_CF_rule_19 : decode y_CF_rule.2.2.1 19 = .ok (.invokespecial 54, 3) := mj_d (q := (19, .invokespecial 54, 3)) k_CF_rule 9 rfl
theorem d_CF_rule_22 : decode y_CF_rule.2.2.1 22 = .ok (.athrow, 1) := mj_d (q := (22, .athrow, 1)) k_CF_rule 10 rfl
theorem d_CF_rule_23 : decode y_CF_rule.2.2.1 23 = .ok (.aload_n 0, 1) := mj_d (q := (23, .aload_n 0, 1)) k_CF_rule 11 rfl
theorem d_CF_rule_24 : decode y_CF_rule.2.2.1 24 = .ok (.getfield 12, 3) := mj_d (q := (24, .getfield 12, 3)) k_CF_rule 12 rfl
theorem d_CF_rule_27 : decode y_CF_rule.2.2.1 27 = .ok (.getfield 55, 3) := mj_d (q := (27, .getfield 55, 3)) k_CF_rule 13 rfl
theorem d_CF_rule_30 : decode y_CF_rule.2.2.1 30 = .ok (.bipush 10, 2) := mj_d (q := (30, .bipush 10, 2)) k_CF_rule 14 rfl
theorem d_CF_rule_32 : decode y_CF_rule.2.2.1 32 = .ok (.if_icmp .ge 13, 3) := mj_d (q := (32, .if_icmp .ge 13, 3)) k_CF_rule 15 rfl
theorem d_CF_rule_35 : decode y_CF_rule.2.2.1 35 = .ok (.aload_n 0, 1) := mj_d (q := (35, .aload_n 0, 1)) k_CF_rule 16 rfl
theorem d_CF_rule_36 : decode y_CF_rule.2.2.1 36 = .ok (.getfield 19, 3) := mj_d (q := (36, .getfield 19, 3)) k_CF_rule 17 rfl
theorem d_CF_rule_39 : decode y_CF_rule.2.2.1 39 = .ok (.getfield 59, 3) := mj_d (q := (39, .getfield 59, 3)) k_CF_rule 18 rfl
theorem d_CF_rule_42 : decode y_CF_rule.2.2.1 42 = .ok (.ifCond .le 11, 3) := mj_d (q := (42, .ifCond .le 11, 3)) k_CF_rule 19 rfl
theorem d_CF_rule_45 : decode y_CF_rule.2.2.1 45 = .ok (.new 62, 3) := mj_d (q := (45, .new 62, 3)) k_CF_rule 20 rfl
theorem d_CF_rule_48 : decode y_CF_rule.2.2.1 48 = .ok (.dup, 1) := mj_d (q := (48, .dup, 1)) k_CF_rule 21 rfl
theorem d_CF_rule_49 : decode y_CF_rule.2.2.1 49 = .ok (.invokespecial 64, 3) := mj_d (q := (49, .invokespecial 64, 3)) k_CF_rule 22 rfl
theorem d_CF_rule_52 : decode y_CF_rule.2.2.1 52 = .ok (.athrow, 1) := mj_d (q := (52, .athrow, 1)) k_CF_rule 23 rfl
theorem d_CF_rule_53 : decode y_CF_rule.2.2.1 53 = .ok (.aload_n 0, 1) := mj_d (q := (53, .aload_n 0, 1)) k_CF_rule 24 rfl
theorem d_CF_rule_54 : decode y_CF_rule.2.2.1 54 = .ok (.getfield 12, 3) := mj_d (q := (54, .getfield 12, 3)) k_CF_rule 25 rfl
theorem d_CF_rule_57 : decode y_CF_rule.2.2.1 57 = .ok (.iload_n 1, 1) := mj_d (q := (57, .iload_n 1, 1)) k_CF_rule 26 rfl
theorem d_CF_rule_58 : decode y_CF_rule.2.2.1 58 = .ok (.iload_n 2, 1) := mj_d (q := (58, .iload_n 2, 1)) k_CF_rule 27 rfl
theorem d_CF_rule_59 : decode y_CF_rule.2.2.1 59 = .ok (.iload_n 3, 1) := mj_d (q := (59, .iload_n 3, 1)) k_CF_rule 28 rfl
theorem d_CF_rule_60 : decode y_CF_rule.2.2.1 60 = .ok (.invokevirtual 65, 3) := mj_d (q := (60, .invokevirtual 65, 3)) k_CF_rule 29 rfl
theorem d_CF_rule_63 : decode y_CF_rule.2.2.1 63 = .ok (.aload_n 0, 1) := mj_d (q := (63, .aload_n 0, 1)) k_CF_rule 30 rfl
theorem d_CF_rule_64 : decode y_CF_rule.2.2.1 64 = .ok (.getfield 28, 3) := mj_d (q := (64, .getfield 28, 3)) k_CF_rule 31 rfl
theorem d_CF_rule_67 : decode y_CF_rule.2.2.1 67 = .ok (.invokevirtual 41, 3) := mj_d (q := (67, .invokevirtual 41, 3)) k_CF_rule 32 rfl
theorem d_CF_rule_70 : decode y_CF_rule.2.2.1 70 = .ok (.aload_n 0, 1) := mj_d (q := (70, .aload_n 0, 1)) k_CF_rule 33 rfl
theorem d_CF_rule_71 : decode y_CF_rule.2.2.1 71 = .ok (.getfield 37, 3) := mj_d (q := (71, .getfield 37, 3)) k_CF_rule 34 rfl
theorem d_CF_rule_74 : decode y_CF_rule.2.2.1 74 = .ok (.iconst (-1), 1) := mj_d (q := (74, .iconst (-1), 1)) k_CF_rule 35 rfl
theorem d_CF_rule_75 : decode y_CF_rule.2.2.1 75 = .ok (.invokevirtual 69, 3) := mj_d (q := (75, .invokevirtual 69, 3)) k_CF_rule 36 rfl
theorem d_CF_rule_78 : decode y_CF_rule.2.2.1 78 = .ok (.aload_n 0, 1) := mj_d (q := (78, .aload_n 0, 1)) k_CF_rule 37 rfl
theorem d_CF_rule_79 : decode y_CF_rule.2.2.1 79 = .ok (.getfield 12, 3) := mj_d (q := (79, .getfield 12, 3)) k_CF_rule 38 rfl
theorem d_CF_rule_82 : decode y_CF_rule.2.2.1 82 = .ok (.getfield 55, 3) := mj_d (q := (82, .getfield 55, 3)) k_CF_rule 39 rfl
theorem d_CF_rule_85 : decode y_CF_rule.2.2.1 85 = .ok (.iconst 1, 1) := mj_d (q := (85, .iconst 1, 1)) k_CF_rule 40 rfl
theorem d_CF_rule_86 : decode y_CF_rule.2.2.1 86 = .ok (.isub, 1) := mj_d (q := (86, .isub, 1)) k_CF_rule 41 rfl
theorem d_CF_rule_87 : decode y_CF_rule.2.2.1 87 = .ok (.ireturn, 1) := mj_d (q := (87, .ireturn, 1)) k_CF_rule 42 rfl
theorem d_CF_isBody_0 : decode y_CF_isBody.2.2.1 0 = .ok (.iload_n 0, 1) := mj_d (q := (0, .iload_n 0, 1)) k_CF_isBody 0 rfl
theorem d_CF_isBody_1 : decode y_CF_isBody.2.2.1 1 = .ok (.ifCond .lt 8, 3) := mj_d (q := (1, .ifCond .lt 8, 3)) k_CF_isBody 1 rfl
theorem d_CF_isBody_4 : decode y_CF_isBody.2.2.1 4 = .ok (.iload_n 0, 1) := mj_d (q := (4, .iload_n 0, 1)) k_CF_isBody 2 rfl
theorem d_CF_isBody_5 : decode y_CF_isBody.2.2.1 5 = .ok (.iconst 3, 1) := mj_d (q := (5, .iconst 3, 1)) k_CF_isBody 3 rfl
theorem d_CF_isBody_6 : decode y_CF_isBody.2.2.1 6 = .ok (.if_icmp .le 5, 3) := mj_d (q := (6, .if_icmp .le 5, 3)) k_CF_isBody 4 rfl
theorem d_CF_isBody_9 : decode y_CF_isBody.2.2.1 9 = .ok (.iconst 0, 1) := mj_d (q := (9, .iconst 0, 1)) k_CF_isBody 5 rfl
theorem d_CF_isBody_10 : decode y_CF_isBody.2.2.1 10 = .ok (.ireturn, 1) := mj_d (q := (10, .ireturn, 1)) k_CF_isBody 6 rfl
theorem d_CF_isBody_11 : decode y_CF_isBody.2.2.1 11 = .ok (.iconst 0, 1) := mj_d (q := (11, .iconst 0, 1)) k_CF_isBody 7 rfl
theorem d_CF_isBody_12 : decode y_CF_isBody.2.2.1 12 = .ok (.istore_n 2, 1) := mj_d (q := (12, .istore_n 2, 1)) k_CF_isBody 8 rfl
theorem d_CF_isBody_13 : decode y_CF_isBody.2.2.1 13 = .ok (.iload_n 2, 1) := mj_d (q := (13, .iload_n 2, 1)) k_CF_isBody 9 rfl
theorem d_CF_isBody_14 : decode y_CF_isBody.2.2.1 14 = .ok (.iload_n 0, 1) := mj_d (q := (14, .iload_n 0, 1)) k_CF_isBody 10 rfl
theorem d_CF_isBody_15 : decode y_CF_isBody.2.2.1 15 = .ok (.if_icmp .ge 31, 3) := mj_d (q := (15, .if_icmp .ge 31, 3)) k_CF_isBody 11 rfl
theorem d_CF_isBody_18 : decode y_CF_isBody.2.2.1 18 = .ok (.iload_n 1, 1) := mj_d (q := (18, .iload_n 1, 1)) k_CF_isBody 12 rfl
theorem d_CF_isBody_19 : decode y_CF_isBody.2.2.1 19 = .ok (.iload_n 2, 1) := mj_d (q := (19, .iload_n 2, 1)) k_CF_isBody 13 rfl
theorem d_CF_isBody_20 : decode y_CF_isBody.2.2.1 20 = .ok (.invokestatic 137, 3) := mj_d (q := (20, .invokestatic 137, 3)) k_CF_isBody 14 rfl
theorem d_CF_isBody_23 : decode y_CF_isBody.2.2.1 23 = .ok (.istore_n 3, 1) := mj_d (q := (23, .istore_n 3, 1)) k_CF_isBody 15 rfl
theorem d_CF_isBody_24 : decode y_CF_isBody.2.2.1 24 = .ok (.iload_n 3, 1) := mj_d (q := (24, .iload_n 3, 1)) k_CF_isBody 16 rfl
theorem d_CF_isBody_25 : decode y_CF_isBody.2.2.1 25 = .ok (.invokestatic 44, 3) := mj_d (q := (25, .invokestatic 44, 3)) k_CF_isBody 17 rfl
theorem d_CF_isBody_28 : decode y_CF_isBody.2.2.1 28 = .ok (.ifCond .ne 12, 3) := mj_d (q := (28, .ifCond .ne 12, 3)) k_CF_isBody 18 rfl
theorem d_CF_isBody_31 : decode y_CF_isBody.2.2.1 31 = .ok (.iload_n 3, 1) := mj_d (q := (31, .iload_n 3, 1)) k_CF_isBody 19 rfl
theorem d_CF_isBody_32 : decode y_CF_isBody.2.2.1 32 = .ok (.invokestatic 73, 3) := mj_d (q := (32, .invokestatic 73, 3)) k_CF_isBody 20 rfl
theorem d_CF_isBody_35 : decode y_CF_isBody.2.2.1 35 = .ok (.ifCond .ne 5, 3) := mj_d (q := (35, .ifCond .ne 5, 3)) k_CF_isBody 21 rfl
theorem d_CF_isBody_38 : decode y_CF_isBody.2.2.1 38 = .ok (.iconst 0, 1) := mj_d (q := (38, .iconst 0, 1)) k_CF_isBody 22 rfl
theorem d_CF_isBody_39 : decode y_CF_isBody.2.2.1 39 = .ok (.ireturn, 1) := mj_d (q := (39, .ireturn, 1)) k_CF_isBody 23 rfl
theorem d_CF_isBody_40 : decode y_CF_isBody.2.2.1 40 = .ok (.iinc 2 1, 3) := mj_d (q := (40, .iinc 2 1, 3)) k_CF_isBody 24 rfl
theorem d_CF_isBody_43 : decode y_CF_isBody.2.2.1 43 = .ok (.goto (-30), 3) := mj_d (q := (43, .goto (-30), 3)) k_CF_isBody 25 rfl
theorem d_CF_isBody_46 : decode y_CF_isBody.2.2.1 46 = .ok (.iload_n 1, 1) := mj_d (q := (46, .iload_n 1, 1)) k_CF_isBody 26 rfl
theorem d_CF_isBody_47 : decode y_CF_isBody.2.2.1 47 = .ok (.iconst 4, 1) := mj_d (q := (47, .iconst 4, 1)) k_CF_isBody 27 rfl
theorem d_CF_isBody_48 : decode y_CF_isBody.2.2.1 48 = .ok (.iload_n 0, 1) := mj_d (q := (48, .iload_n 0, 1)) k_CF_isBody 28 rfl
theorem d_CF_isBody_49 : decode y_CF_isBody.2.2.1 49 = .ok (.imul, 1) := mj_d (q := (49, .imul, 1)) k_CF_isBody 29 rfl
theorem d_CF_isBody_50 : decode y_CF_isBody.2.2.1 50 = .ok (.iushr, 1) := mj_d (q := (50, .iushr, 1)) k_CF_isBody 30 rfl
theorem d_CF_isBody_51 : decode y_CF_isBody.2.2.1 51 = .ok (.ifCond .ne 7, 3) := mj_d (q := (51, .ifCond .ne 7, 3)) k_CF_isBody 31 rfl
theorem d_CF_isBody_54 : decode y_CF_isBody.2.2.1 54 = .ok (.iconst 1, 1) := mj_d (q := (54, .iconst 1, 1)) k_CF_isBody 32 rfl
theorem d_CF_isBody_55 : decode y_CF_isBody.2.2.1 55 = .ok (.goto 4, 3) := mj_d (q := (55, .goto 4, 3)) k_CF_isBody 33 rfl
theorem d_CF_isBody_58 : decode y_CF_isBody.2.2.1 58 = .ok (.iconst 0, 1) := mj_d (q := (58, .iconst 0, 1)) k_CF_isBody 34 rfl
theorem d_CF_isBody_59 : decode y_CF_isBody.2.2.1 59 = .ok (.ireturn, 1) := mj_d (q := (59, .ireturn, 1)) k_CF_isBody 35 rfl
theorem d_CF_symbolIn_0 : decode y_CF_symbolIn.2.2.1 0 = .ok (.iload_n 0, 1) := mj_d (q := (0, .iload_n 0, 1)) k_CF_symbolIn 0 rfl
theorem d_CF_symbolIn_1 : decode y_CF_symbolIn.2.2.1 1 = .ok (.iconst 4, 1) := mj_d (q := (1, .iconst 4, 1)) k_CF_symbolIn 1 rfl
theorem d_CF_symbolIn_2 : decode y_CF_symbolIn.2.2.1 2 = .ok (.iload_n 1, 1) := mj_d (q := (2, .iload_n 1, 1)) k_CF_symbolIn 2 rfl
theorem d_CF_symbolIn_3 : decode y_CF_symbolIn.2.2.1 3 = .ok (.imul, 1) := mj_d (q := (3, .imul, 1)) k_CF_symbolIn 3 rfl
theorem d_CF_symbolIn_4 : decode y_CF_symbolIn.2.2.1 4 = .ok (.iushr, 1) := mj_d (q := (4, .iushr, 1)) k_CF_symbolIn 4 rfl
theorem d_CF_symbolIn_5 : decode y_CF_symbolIn.2.2.1 5 = .ok (.bipush 15, 2) := mj_d (q := (5, .bipush 15, 2)) k_CF_symbolIn 5 rfl
theorem d_CF_symbolIn_7 : decode y_CF_symbolIn.2.2.1 7 = .ok (.iand, 1) := mj_d (q := (7, .iand, 1)) k_CF_symbolIn 6 rfl
theorem d_CF_symbolIn_8 : decode y_CF_symbolIn.2.2.1 8 = .ok (.ireturn, 1) := mj_d (q := (8, .ireturn, 1)) k_CF_symbolIn 7 rfl
theorem d_Gr_append_0 : decode y_Gr_append.2.2.1 0 = .ok (.aload_n 0, 1) := mj_d (q := (0, .aload_n 0, 1)) k_Gr_append 0 rfl
theorem d_Gr_append_1 : decode y_Gr_append.2.2.1 1 = .ok (.getfield 22, 3) := mj_d (q := (1, .getfield 22, 3)) k_Gr_append 1 rfl
theorem d_Gr_append_4 : decode y_Gr_append.2.2.1 4 = .ok (.bipush 10, 2) := mj_d (q := (4, .bipush 10, 2)) k_Gr_append 2 rfl
theorem d_Gr_append_6 : decode y_Gr_append.2.2.1 6 = .ok (.if_icmp .ge 63, 3) := mj_d (q := (6, .if_icmp .ge 63, 3)) k_Gr_append 3 rfl
theorem d_Gr_append_9 : decode y_Gr_append.2.2.1 9 = .ok (.iload_n 2, 1) := mj_d (q := (9, .iload_n 2, 1)) k_Gr_append 4 rfl
theorem d_Gr_append_10 : decode y_Gr_append.2.2.1 10 = .ok (.iconst 3, 1) := mj_d (q := (10, .iconst 3, 1)) k_Gr_append 5 rfl
theorem d_Gr_append_11 : decode y_Gr_append.2.2.1 11 = .ok (.if_icmp .gt 58, 3) := mj_d (q := (11, .if_icmp .gt 58, 3)) k_Gr_append 6 rfl
theorem d_Gr_append_14 : decode y_Gr_append.2.2.1 14 = .ok (.aload_n 0, 1) := mj_d (q := (14, .aload_n 0, 1)) k_Gr_append 7 rfl
theorem d_Gr_append_15 : decode y_Gr_append.2.2.1 15 = .ok (.getfield 9, 3) := mj_d (q := (15, .getfield 9, 3)) k_Gr_append 8 rfl
theorem d_Gr_append_18 : decode y_Gr_append.2.2.1 18 = .ok (.aload_n 0, 1) := mj_d (q := (18, .aload_n 0, 1)) k_Gr_append 9 rfl
theorem d_Gr_append_19 : decode y_Gr_append.2.2.1 19 = .ok (.getfield 22, 3) := mj_d (q := (19, .getfield 22, 3)) k_Gr_append 10 rfl
theorem d_Gr_append_22 : decode y_Gr_append.2.2.1 22 = .ok (.iload_n 1, 1) := mj_d (q := (22, .iload_n 1, 1)) k_Gr_append 11 rfl
theorem d_Gr_append_23 : decode y_Gr_append.2.2.1 23 = .ok (.iastore, 1) := mj_d (q := (23, .iastore, 1)) k_Gr_append 12 rfl
theorem d_Gr_append_24 : decode y_Gr_append.2.2.1 24 = .ok (.iconst 0, 1) := mj_d (q := (24, .iconst 0, 1)) k_Gr_append 13 rfl
theorem d_Gr_append_25 : decode y_Gr_append.2.2.1 25 = .ok (.istore 4, 2) := mj_d (q := (25, .istore 4, 2)) k_Gr_append 14 rfl
theorem d_Gr_append_27 : decode y_Gr_append.2.2.1 27 = .ok (.iload 4, 2) := mj_d (q := (27, .iload 4, 2)) k_Gr_append 15 rfl
theorem d_Gr_append_29 : decode y_Gr_append.2.2.1 29 = .ok (.iload_n 2, 1) := mj_d (q := (29, .iload_n 2, 1)) k_Gr_append 16 rfl
theorem d_Gr_append_30 : decode y_Gr_append.2.2.1 30 = .ok (.if_icmp .ge 29, 3) := mj_d (q := (30, .if_icmp .ge 29, 3)) k_Gr_append 17 rfl
theorem d_Gr_append_33 : decode y_Gr_append.2.2.1 33 = .ok (.aload_n 0, 1) := mj_d (q := (33, .aload_n 0, 1)) k_Gr_append 18 rfl
theorem d_Gr_append_34 : decode y_Gr_append.2.2.1 34 = .ok (.getfield 15, 3) := mj_d (q := (34, .getfield 15, 3)) k_Gr_append 19 rfl
theorem d_Gr_append_37 : decode y_Gr_append.2.2.1 37 = .ok (.aload_n 0, 1) := mj_d (q := (37, .aload_n 0, 1)) k_Gr_append 20 rfl
theorem d_Gr_append_38 : decode y_Gr_append.2.2.1 38 = .ok (.getfield 22, 3) := mj_d (q := (38, .getfield 22, 3)) k_Gr_append 21 rfl
theorem d_Gr_append_41 : decode y_Gr_append.2.2.1 41 = .ok (.iload 4, 2) := mj_d (q := (41, .iload 4, 2)) k_Gr_append 22 rfl
theorem d_Gr_append_43 : decode y_Gr_append.2.2.1 43 = .ok (.invokestatic 18, 3) := mj_d (q := (43, .invokestatic 18, 3)) k_Gr_append 23 rfl
theorem d_Gr_append_46 : decode y_Gr_append.2.2.1 46 = .ok (.iload_n 3, 1) := mj_d (q := (46, .iload_n 3, 1)) k_Gr_append 24 rfl
theorem d_Gr_append_47 : decode y_Gr_append.2.2.1 47 = .ok (.iload 4, 2) := mj_d (q := (47, .iload 4, 2)) k_Gr_append 25 rfl
theorem d_Gr_append_49 : decode y_Gr_append.2.2.1 49 = .ok (.invokestatic 26, 3) := mj_d (q := (49, .invokestatic 26, 3)) k_Gr_append 26 rfl
theorem d_Gr_append_52 : decode y_Gr_append.2.2.1 52 = .ok (.iastore, 1) := mj_d (q := (52, .iastore, 1)) k_Gr_append 27 rfl
theorem d_Gr_append_53 : decode y_Gr_append.2.2.1 53 = .ok (.iinc 4 1, 3) := mj_d (q := (53, .iinc 4 1, 3)) k_Gr_append 28 rfl
theorem d_Gr_append_56 : decode y_Gr_append.2.2.1 56 = .ok (.goto (-29), 3) := mj_d (q := (56, .goto (-29), 3)) k_Gr_append 29 rfl
theorem d_Gr_append_59 : decode y_Gr_append.2.2.1 59 = .ok (.aload_n 0, 1) := mj_d (q := (59, .aload_n 0, 1)) k_Gr_append 30 rfl
theorem d_Gr_append_60 : decode y_Gr_append.2.2.1 60 = .ok (.dup, 1) := mj_d (q := (60, .dup, 1)) k_Gr_append 31 rfl
theorem d_Gr_append_61 : decode y_Gr_append.2.2.1 61 = .ok (.getfield 22, 3) := mj_d (q := (61, .getfield 22, 3)) k_Gr_append 32 rfl
theorem d_Gr_append_64 : decode y_Gr_append.2.2.1 64 = .ok (.iconst 1, 1) := mj_d (q := (64, .iconst 1, 1)) k_Gr_append 33 rfl
theorem d_Gr_append_65 : decode y_Gr_append.2.2.1 65 = .ok (.iadd, 1) := mj_d (q := (65, .iadd, 1)) k_Gr_append 34 rfl
theorem d_Gr_append_66 : decode y_Gr_append.2.2.1 66 = .ok (.putfield 22, 3) := mj_d (q := (66, .putfield 22, 3)) k_Gr_append 35 rfl
theorem d_Gr_append_69 : decode y_Gr_append.2.2.1 69 = .ok (.return_, 1) := mj_d (q := (69, .return_, 1)) k_Gr_append 36 rfl
theorem d_Fo_forgetBehind_0 : decode y_Fo_forgetBehind.2.2.1 0 = .ok (.aload_n 0, 1) := mj_d (q := (0, .aload_n 0, 1)) k_Fo_forgetBehind 0 rfl
theorem d_Fo_forgetBehind_1 : decode y_Fo_forgetBehind.2.2.1 1 = .ok (.aload_n 0, 1) := mj_d (q := (1, .aload_n 0, 1)) k_Fo_forgetBehind 1 rfl
theorem d_Fo_forgetBehind_2 : decode y_Fo_forgetBehind.2.2.1 2 = .ok (.getfield 45, 3) := mj_d (q := (2, .getfield 45, 3)) k_Fo_forgetBehind 2 rfl
theorem d_Fo_forgetBehind_5 : decode y_Fo_forgetBehind.2.2.1 5 = .ok (.iload_n 1, 1) := mj_d (q := (5, .iload_n 1, 1)) k_Fo_forgetBehind 3 rfl
theorem d_Fo_forgetBehind_6 : decode y_Fo_forgetBehind.2.2.1 6 = .ok (.iconst 1, 1) := mj_d (q := (6, .iconst 1, 1)) k_Fo_forgetBehind 4 rfl
theorem d_Fo_forgetBehind_7 : decode y_Fo_forgetBehind.2.2.1 7 = .ok (.iadd, 1) := mj_d (q := (7, .iadd, 1)) k_Fo_forgetBehind 5 rfl
theorem d_Fo_forgetBehind_8 : decode y_Fo_forgetBehind.2.2.1 8 = .ok (.invokestatic 49, 3) := mj_d (q := (8, .invokestatic 49, 3)) k_Fo_forgetBehind 6 rfl
theorem d_Fo_forgetBehind_11 : decode y_Fo_forgetBehind.2.2.1 11 = .ok (.putfield 45, 3) := mj_d (q := (11, .putfield 45, 3)) k_Fo_forgetBehind 7 rfl
theorem d_Fo_forgetBehind_14 : decode y_Fo_forgetBehind.2.2.1 14 = .ok (.return_, 1) := mj_d (q := (14, .return_, 1)) k_Fo_forgetBehind 8 rfl
theorem d_CF_feed_0 : decode y_CF_feed.2.2.1 0 = .ok (.iload_n 1, 1) := mj_d (q := (0, .iload_n 1, 1)) k_CF_feed 0 rfl
theorem d_CF_feed_1 : decode y_CF_feed.2.2.1 1 = .ok (.invokestatic 73, 3) := mj_d (q := (1, .invokestatic 73, 3)) k_CF_feed 1 rfl
theorem d_CF_feed_4 : decode y_CF_feed.2.2.1 4 = .ok (.ifCond .ne 11, 3) := mj_d (q := (4, .ifCond .ne 11, 3)) k_CF_feed 2 rfl
theorem d_CF_feed_7 : decode y_CF_feed.2.2.1 7 = .ok (.new 52, 3) := mj_d (q := (7, .new 52, 3)) k_CF_feed 3 rfl
theorem d_CF_feed_10 : decode y_CF_feed.2.2.1 10 = .ok (.dup, 1) := mj_d (q := (10, .dup, 1)) k_CF_feed 4 rfl
theorem d_CF_feed_11 : decode y_CF_feed.2.2.1 11 = .ok (.invokespecial 54, 3) := mj_d (q := (11, .invokespecial 54, 3)) k_CF_feed 5 rfl
theorem d_CF_feed_14 : decode y_CF_feed.2.2.1 14 = .ok (.athrow, 1) := mj_d (q := (14, .athrow, 1)) k_CF_feed 6 rfl
theorem d_CF_feed_15 : decode y_CF_feed.2.2.1 15 = .ok (.aload_n 0, 1) := mj_d (q := (15, .aload_n 0, 1)) k_CF_feed 7 rfl
theorem d_CF_feed_16 : decode y_CF_feed.2.2.1 16 = .ok (.getfield 19, 3) := mj_d (q := (16, .getfield 19, 3)) k_CF_feed 8 rfl
theorem d_CF_feed_19 : decode y_CF_feed.2.2.1 19 = .ok (.getfield 59, 3) := mj_d (q := (19, .getfield 59, 3)) k_CF_feed 9 rfl
theorem d_CF_feed_22 : decode y_CF_feed.2.2.1 22 = .ok (.bipush 12, 2) := mj_d (q := (22, .bipush 12, 2)) k_CF_feed 10 rfl
theorem d_CF_feed_24 : decode y_CF_feed.2.2.1 24 = .ok (.if_icmp .lt 11, 3) := mj_d (q := (24, .if_icmp .lt 11, 3)) k_CF_feed 11 rfl
theorem d_CF_feed_27 : decode y_CF_feed.2.2.1 27 = .ok (.new 62, 3) := mj_d (q := (27, .new 62, 3)) k_CF_feed 12 rfl
theorem d_CF_feed_30 : decode y_CF_feed.2.2.1 30 = .ok (.dup, 1) := mj_d (q := (30, .dup, 1)) k_CF_feed 13 rfl
theorem d_CF_feed_31 : decode y_CF_feed.2.2.1 31 = .ok (.invokespecial 64, 3) := mj_d (q := (31, .invokespecial 64, 3)) k_CF_feed 14 rfl
theorem d_CF_feed_34 : decode y_CF_feed.2.2.1 34 = .ok (.athrow, 1) := mj_d (q := (34, .athrow, 1)) k_CF_feed 15 rfl
theorem d_CF_feed_35 : decode y_CF_feed.2.2.1 35 = .ok (.aload_n 0, 1) := mj_d (q := (35, .aload_n 0, 1)) k_CF_feed 16 rfl
theorem d_CF_feed_36 : decode y_CF_feed.2.2.1 36 = .ok (.getfield 28, 3) := mj_d (q := (36, .getfield 28, 3)) k_CF_feed 17 rfl
theorem d_CF_feed_39 : decode y_CF_feed.2.2.1 39 = .ok (.aload_n 0, 1) := mj_d (q := (39, .aload_n 0, 1)) k_CF_feed 18 rfl
theorem d_CF_feed_40 : decode y_CF_feed.2.2.1 40 = .ok (.getfield 19, 3) := mj_d (q := (40, .getfield 19, 3)) k_CF_feed 19 rfl
theorem d_CF_feed_43 : decode y_CF_feed.2.2.1 43 = .ok (.getfield 59, 3) := mj_d (q := (43, .getfield 59, 3)) k_CF_feed 20 rfl
theorem d_CF_feed_46 : decode y_CF_feed.2.2.1 46 = .ok (.invokevirtual 76, 3) := mj_d (q := (46, .invokevirtual 76, 3)) k_CF_feed 21 rfl
theorem d_CF_feed_49 : decode y_CF_feed.2.2.1 49 = .ok (.iload_n 1, 1) := mj_d (q := (49, .iload_n 1, 1)) k_CF_feed 22 rfl
theorem d_CF_feed_50 : decode y_CF_feed.2.2.1 50 = .ok (.invokestatic 80, 3) := mj_d (q := (50, .invokestatic 80, 3)) k_CF_feed 23 rfl
theorem d_CF_feed_53 : decode y_CF_feed.2.2.1 53 = .ok (.iand, 1) := mj_d (q := (53, .iand, 1)) k_CF_feed 24 rfl
theorem d_CF_feed_54 : decode y_CF_feed.2.2.1 54 = .ok (.ifCond .ne 11, 3) := mj_d (q := (54, .ifCond .ne 11, 3)) k_CF_feed 25 rfl
theorem d_CF_feed_57 : decode y_CF_feed.2.2.1 57 = .ok (.new 83, 3) := mj_d (q := (57, .new 83, 3)) k_CF_feed 26 rfl
theorem d_CF_feed_60 : decode y_CF_feed.2.2.1 60 = .ok (.dup, 1) := mj_d (q := (60, .dup, 1)) k_CF_feed 27 rfl
theorem d_CF_feed_61 : decode y_CF_feed.2.2.1 61 = .ok (.invokespecial 85, 3) := mj_d (q := (61, .invokespecial 85, 3)) k_CF_feed 28 rfl
theorem d_CF_feed_64 : decode y_CF_feed.2.2.1 64 = .ok (.athrow, 1) := mj_d (q := (64, .athrow, 1)) k_CF_feed 29 rfl
theorem d_CF_feed_65 : decode y_CF_feed.2.2.1 65 = .ok (.aload_n 0, 1) := mj_d (q := (65, .aload_n 0, 1)) k_CF_feed 30 rfl
theorem d_CF_feed_66 : decode y_CF_feed.2.2.1 66 = .ok (.getfield 19, 3) := mj_d (q := (66, .getfield 19, 3)) k_CF_feed 31 rfl
theorem d_CF_feed_69 : decode y_CF_feed.2.2.1 69 = .ok (.iload_n 1, 1) := mj_d (q := (69, .iload_n 1, 1)) k_CF_feed 32 rfl
theorem d_CF_feed_70 : decode y_CF_feed.2.2.1 70 = .ok (.invokevirtual 86, 3) := mj_d (q := (70, .invokevirtual 86, 3)) k_CF_feed 33 rfl
theorem d_CF_feed_73 : decode y_CF_feed.2.2.1 73 = .ok (.aload_n 0, 1) := mj_d (q := (73, .aload_n 0, 1)) k_CF_feed 34 rfl
theorem d_CF_feed_74 : decode y_CF_feed.2.2.1 74 = .ok (.getfield 28, 3) := mj_d (q := (74, .getfield 28, 3)) k_CF_feed 35 rfl
theorem d_CF_feed_77 : decode y_CF_feed.2.2.1 77 = .ok (.aload_n 0, 1) := mj_d (q := (77, .aload_n 0, 1)) k_CF_feed 36 rfl
theorem d_CF_feed_78 : decode y_CF_feed.2.2.1 78 = .ok (.getfield 19, 3) := mj_d (q := (78, .getfield 19, 3)) k_CF_feed 37 rfl
theorem d_CF_feed_81 : decode y_CF_feed.2.2.1 81 = .ok (.getfield 59, 3) := mj_d (q := (81, .getfield 59, 3)) k_CF_feed 38 rfl
theorem d_CF_feed_84 : decode y_CF_feed.2.2.1 84 = .ok (.iload_n 1, 1) := mj_d (q := (84, .iload_n 1, 1)) k_CF_feed 39 rfl
theorem d_CF_feed_85 : decode y_CF_feed.2.2.1 85 = .ok (.invokevirtual 88, 3) := mj_d (q := (85, .invokevirtual 88, 3)) k_CF_feed 40 rfl
theorem d_CF_feed_88 : decode y_CF_feed.2.2.1 88 = .ok (.aload_n 0, 1) := mj_d (q := (88, .aload_n 0, 1)) k_CF_feed 41 rfl
theorem d_CF_feed_89 : decode y_CF_feed.2.2.1 89 = .ok (.getfield 28, 3) := mj_d (q := (89, .getfield 28, 3)) k_CF_feed 42 rfl
theorem d_CF_feed_92 : decode y_CF_feed.2.2.1 92 = .ok (.getfield 92, 3) := mj_d (q := (92, .getfield 92, 3)) k_CF_feed 43 rfl
theorem d_CF_feed_95 : decode y_CF_feed.2.2.1 95 = .ok (.aload_n 0, 1) := mj_d (q := (95, .aload_n 0, 1)) k_CF_feed 44 rfl
theorem d_CF_feed_96 : decode y_CF_feed.2.2.1 96 = .ok (.getfield 19, 3) := mj_d (q := (96, .getfield 19, 3)) k_CF_feed 45 rfl
theorem d_CF_feed_99 : decode y_CF_feed.2.2.1 99 = .ok (.getfield 59, 3) := mj_d (q := (99, .getfield 59, 3)) k_CF_feed 46 rfl
theorem d_CF_feed_102 : decode y_CF_feed.2.2.1 102 = .ok (.iaload, 1) := mj_d (q := (102, .iaload, 1)) k_CF_feed 47 rfl
theorem d_CF_feed_103 : decode y_CF_feed.2.2.1 103 = .ok (.ireturn, 1) := mj_d (q := (103, .ireturn, 1)) k_CF_feed 48 rfl
theorem d_Ta_append_0 : decode y_Ta_append.2.2.1 0 = .ok (.aload_n 0, 1) := mj_d (q := (0, .aload_n 0, 1)) k_Ta_append 0 rfl
theorem d_Ta_append_1 : decode y_Ta_append.2.2.1 1 = .ok (.getfield 15, 3) := mj_d (q := (1, .getfield 15, 3)) k_Ta_append 1 rfl
theorem d_Ta_append_4 : decode y_Ta_append.2.2.1 4 = .ok (.bipush 12, 2) := mj_d (q := (4, .bipush 12, 2)) k_Ta_append 2 rfl
theorem d_Ta_append_6 : decode y_Ta_append.2.2.1 6 = .ok (.if_icmp .ge 23, 3) := mj_d (q := (6, .if_icmp .ge 23, 3)) k_Ta_append 3 rfl
theorem d_Ta_append_9 : decode y_Ta_append.2.2.1 9 = .ok (.aload_n 0, 1) := mj_d (q := (9, .aload_n 0, 1)) k_Ta_append 4 rfl
theorem d_Ta_append_10 : decode y_Ta_append.2.2.1 10 = .ok (.getfield 9, 3) := mj_d (q := (10, .getfield 9, 3)) k_Ta_append 5 rfl
theorem d_Ta_append_13 : decode y_Ta_append.2.2.1 13 = .ok (.aload_n 0, 1) := mj_d (q := (13, .aload_n 0, 1)) k_Ta_append 6 rfl
theorem d_Ta_append_14 : decode y_Ta_append.2.2.1 14 = .ok (.getfield 15, 3) := mj_d (q := (14, .getfield 15, 3)) k_Ta_append 7 rfl
theorem d_Ta_append_17 : decode y_Ta_append.2.2.1 17 = .ok (.iload_n 1, 1) := mj_d (q := (17, .iload_n 1, 1)) k_Ta_append 8 rfl
theorem d_Ta_append_18 : decode y_Ta_append.2.2.1 18 = .ok (.iastore, 1) := mj_d (q := (18, .iastore, 1)) k_Ta_append 9 rfl
theorem d_Ta_append_19 : decode y_Ta_append.2.2.1 19 = .ok (.aload_n 0, 1) := mj_d (q := (19, .aload_n 0, 1)) k_Ta_append 10 rfl
theorem d_Ta_append_20 : decode y_Ta_append.2.2.1 20 = .ok (.dup, 1) := mj_d (q := (20, .dup, 1)) k_Ta_append 11 rfl
theorem d_Ta_append_21 : decode y_Ta_append.2.2.1 21 = .ok (.getfield 15, 3) := mj_d (q := (21, .getfield 15, 3)) k_Ta_append 12 rfl
theorem d_Ta_append_24 : decode y_Ta_append.2.2.1 24 = .ok (.iconst 1, 1) := mj_d (q := (24, .iconst 1, 1)) k_Ta_append 13 rfl
theorem d_Ta_append_25 : decode y_Ta_append.2.2.1 25 = .ok (.iadd, 1) := mj_d (q := (25, .iadd, 1)) k_Ta_append 14 rfl
theorem d_Ta_append_26 : decode y_Ta_append.2.2.1 26 = .ok (.putfield 15, 3) := mj_d (q := (26, .putfield 15, 3)) k_Ta_append 15 rfl
theorem d_Ta_append_29 : decode y_Ta_append.2.2.1 29 = .ok (.return_, 1) := mj_d (q := (29, .return_, 1)) k_Ta_append 16 rfl
theorem d_Ch_openNext_0 : decode y_Ch_openNext.2.2.1 0 = .ok (.aload_n 0, 1) := mj_d (q := (0, .aload_n 0, 1)) k_Ch_openNext 0 rfl
theorem d_Ch_openNext_1 : decode y_Ch_openNext.2.2.1 1 = .ok (.iload_n 1, 1) := mj_d (q := (1, .iload_n 1, 1)) k_Ch_openNext 1 rfl
theorem d_Ch_openNext_2 : decode y_Ch_openNext.2.2.1 2 = .ok (.iconst 1, 1) := mj_d (q := (2, .iconst 1, 1)) k_Ch_openNext 2 rfl
theorem d_Ch_openNext_3 : decode y_Ch_openNext.2.2.1 3 = .ok (.isub, 1) := mj_d (q := (3, .isub, 1)) k_Ch_openNext 3 rfl
theorem d_Ch_openNext_4 : decode y_Ch_openNext.2.2.1 4 = .ok (.invokevirtual 49, 3) := mj_d (q := (4, .invokevirtual 49, 3)) k_Ch_openNext 4 rfl
theorem d_Ch_openNext_7 : decode y_Ch_openNext.2.2.1 7 = .ok (.aload_n 0, 1) := mj_d (q := (7, .aload_n 0, 1)) k_Ch_openNext 5 rfl
theorem d_Ch_openNext_8 : decode y_Ch_openNext.2.2.1 8 = .ok (.iload_n 1, 1) := mj_d (q := (8, .iload_n 1, 1)) k_Ch_openNext 6 rfl
theorem d_Ch_openNext_9 : decode y_Ch_openNext.2.2.1 9 = .ok (.invokevirtual 34, 3) := mj_d (q := (9, .invokevirtual 34, 3)) k_Ch_openNext 7 rfl
theorem d_Ch_openNext_12 : decode y_Ch_openNext.2.2.1 12 = .ok (.aload_n 0, 1) := mj_d (q := (12, .aload_n 0, 1)) k_Ch_openNext 8 rfl
theorem d_Ch_openNext_13 : decode y_Ch_openNext.2.2.1 13 = .ok (.iload_n 1, 1) := mj_d (q := (13, .iload_n 1, 1)) k_Ch_openNext 9 rfl
theorem d_Ch_openNext_14 : decode y_Ch_openNext.2.2.1 14 = .ok (.iconst 1, 1) := mj_d (q := (14, .iconst 1, 1)) k_Ch_openNext 10 rfl
theorem d_Ch_openNext_15 : decode y_Ch_openNext.2.2.1 15 = .ok (.isub, 1) := mj_d (q := (15, .isub, 1)) k_Ch_openNext 11 rfl
theorem d_Ch_openNext_16 : decode y_Ch_openNext.2.2.1 16 = .ok (.iload_n 2, 1) := mj_d (q := (16, .iload_n 2, 1)) k_Ch_openNext 12 rfl
theorem d_Ch_openNext_17 : decode y_Ch_openNext.2.2.1 17 = .ok (.iload_n 1, 1) := mj_d (q := (17, .iload_n 1, 1)) k_Ch_openNext 13 rfl
theorem d_Ch_openNext_18 : decode y_Ch_openNext.2.2.1 18 = .ok (.invokevirtual 52, 3) := mj_d (q := (18, .invokevirtual 52, 3)) k_Ch_openNext 14 rfl
theorem d_Ch_openNext_21 : decode y_Ch_openNext.2.2.1 21 = .ok (.aload_n 0, 1) := mj_d (q := (21, .aload_n 0, 1)) k_Ch_openNext 15 rfl
theorem d_Ch_openNext_22 : decode y_Ch_openNext.2.2.1 22 = .ok (.iload_n 1, 1) := mj_d (q := (22, .iload_n 1, 1)) k_Ch_openNext 16 rfl
theorem d_Ch_openNext_23 : decode y_Ch_openNext.2.2.1 23 = .ok (.invokevirtual 46, 3) := mj_d (q := (23, .invokevirtual 46, 3)) k_Ch_openNext 17 rfl
theorem d_Ch_openNext_26 : decode y_Ch_openNext.2.2.1 26 = .ok (.return_, 1) := mj_d (q := (26, .return_, 1)) k_Ch_openNext 18 rfl
theorem d_Ch_nameLeaps_0 : decode y_Ch_nameLeaps.2.2.1 0 = .ok (.iconst 0, 1) := mj_d (q := (0, .iconst 0, 1)) k_Ch_nameLeaps 0 rfl
theorem d_Ch_nameLeaps_1 : decode y_Ch_nameLeaps.2.2.1 1 = .ok (.istore_n 2, 1) := mj_d (q := (1, .istore_n 2, 1)) k_Ch_nameLeaps 1 rfl
theorem d_Ch_nameLeaps_2 : decode y_Ch_nameLeaps.2.2.1 2 = .ok (.iload_n 2, 1) := mj_d (q := (2, .iload_n 2, 1)) k_Ch_nameLeaps 2 rfl
theorem d_Ch_nameLeaps_3 : decode y_Ch_nameLeaps.2.2.1 3 = .ok (.iconst 5, 1) := mj_d (q := (3, .iconst 5, 1)) k_Ch_nameLeaps 3 rfl
theorem d_Ch_nameLeaps_4 : decode y_Ch_nameLeaps.2.2.1 4 = .ok (.if_icmp .ge 34, 3) := mj_d (q := (4, .if_icmp .ge 34, 3)) k_Ch_nameLeaps 4 rfl
theorem d_Ch_nameLeaps_7 : decode y_Ch_nameLeaps.2.2.1 7 = .ok (.aload_n 0, 1) := mj_d (q := (7, .aload_n 0, 1)) k_Ch_nameLeaps 5 rfl
theorem d_Ch_nameLeaps_8 : decode y_Ch_nameLeaps.2.2.1 8 = .ok (.getfield 20, 3) := mj_d (q := (8, .getfield 20, 3)) k_Ch_nameLeaps 6 rfl
theorem d_Ch_nameLeaps_11 : decode y_Ch_nameLeaps.2.2.1 11 = .ok (.iload_n 1, 1) := mj_d (q := (11, .iload_n 1, 1)) k_Ch_nameLeaps 7 rfl
theorem d_Ch_nameLeaps_12 : decode y_Ch_nameLeaps.2.2.1 12 = .ok (.aaload, 1) := mj_d (q := (12, .aaload, 1)) k_Ch_nameLeaps 8 rfl
theorem d_Ch_nameLeaps_13 : decode y_Ch_nameLeaps.2.2.1 13 = .ok (.iload_n 2, 1) := mj_d (q := (13, .iload_n 2, 1)) k_Ch_nameLeaps 9 rfl
theorem d_Ch_nameLeaps_14 : decode y_Ch_nameLeaps.2.2.1 14 = .ok (.aload_n 0, 1) := mj_d (q := (14, .aload_n 0, 1)) k_Ch_nameLeaps 10 rfl
theorem d_Ch_nameLeaps_15 : decode y_Ch_nameLeaps.2.2.1 15 = .ok (.getfield 30, 3) := mj_d (q := (15, .getfield 30, 3)) k_Ch_nameLeaps 11 rfl
theorem d_Ch_nameLeaps_18 : decode y_Ch_nameLeaps.2.2.1 18 = .ok (.ifCond .eq 12, 3) := mj_d (q := (18, .ifCond .eq 12, 3)) k_Ch_nameLeaps 12 rfl
theorem d_Ch_nameLeaps_21 : decode y_Ch_nameLeaps.2.2.1 21 = .ok (.aload_n 0, 1) := mj_d (q := (21, .aload_n 0, 1)) k_Ch_nameLeaps 13 rfl
theorem d_Ch_nameLeaps_22 : decode y_Ch_nameLeaps.2.2.1 22 = .ok (.iload_n 1, 1) := mj_d (q := (22, .iload_n 1, 1)) k_Ch_nameLeaps 14 rfl
theorem d_Ch_nameLeaps_23 : decode y_Ch_nameLeaps.2.2.1 23 = .ok (.iload_n 2, 1) := mj_d (q := (23, .iload_n 2, 1)) k_Ch_nameLeaps 15 rfl
theorem d_Ch_nameLeaps_24 : decode y_Ch_nameLeaps.2.2.1 24 = .ok (.invokevirtual 98, 3) := mj_d (q := (24, .invokevirtual 98, 3)) k_Ch_nameLeaps 16 rfl
theorem d_Ch_nameLeaps_27 : decode y_Ch_nameLeaps.2.2.1 27 = .ok (.goto 4, 3) := mj_d (q := (27, .goto 4, 3)) k_Ch_nameLeaps 17 rfl
theorem d_Ch_nameLeaps_30 : decode y_Ch_nameLeaps.2.2.1 30 = .ok (.iconst (-1), 1) := mj_d (q := (30, .iconst (-1), 1)) k_Ch_nameLeaps 18 rfl
theorem d_Ch_nameLeaps_31 : decode y_Ch_nameLeaps.2.2.1 31 = .ok (.iastore, 1) := mj_d (q := (31, .iastore, 1)) k_Ch_nameLeaps 19 rfl
theorem d_Ch_nameLeaps_32 : decode y_Ch_nameLeaps.2.2.1 32 = .ok (.iinc 2 1, 3) := mj_d (q := (32, .iinc 2 1, 3)) k_Ch_nameLeaps 20 rfl
theorem d_Ch_nameLeaps_35 : decode y_Ch_nameLeaps.2.2.1 35 = .ok (.goto (-33), 3) := mj_d (q := (35, .goto (-33), 3)) k_Ch_nameLeaps 21 rfl
theorem d_Ch_nameLeaps_38 : decode y_Ch_nameLeaps.2.2.1 38 = .ok (.return_, 1) := mj_d (q := (38, .return_, 1)) k_Ch_nameLeaps 22 rfl
theorem d_Ch_leapItem_0 : decode y_Ch_leapItem.2.2.1 0 = .ok (.aload_n 0, 1) := mj_d (q := (0, .aload_n 0, 1)) k_Ch_leapItem 0 rfl
theorem d_Ch_leapItem_1 : decode y_Ch_leapItem.2.2.1 1 = .ok (.iload_n 1, 1) := mj_d (q := (1, .iload_n 1, 1)) k_Ch_leapItem 1 rfl
theorem d_Ch_leapItem_2 : decode y_Ch_leapItem.2.2.1 2 = .ok (.iload_n 2, 1) := mj_d (q := (2, .iload_n 2, 1)) k_Ch_leapItem 2 rfl
theorem d_Ch_leapItem_3 : decode y_Ch_leapItem.2.2.1 3 = .ok (.invokevirtual 101, 3) := mj_d (q := (3, .invokevirtual 101, 3)) k_Ch_leapItem 3 rfl
theorem d_Ch_leapItem_6 : decode y_Ch_leapItem.2.2.1 6 = .ok (.istore_n 3, 1) := mj_d (q := (6, .istore_n 3, 1)) k_Ch_leapItem 4 rfl
theorem d_Ch_leapItem_7 : decode y_Ch_leapItem.2.2.1 7 = .ok (.iload_n 3, 1) := mj_d (q := (7, .iload_n 3, 1)) k_Ch_leapItem 5 rfl
theorem d_Ch_leapItem_8 : decode y_Ch_leapItem.2.2.1 8 = .ok (.iconst (-1), 1) := mj_d (q := (8, .iconst (-1), 1)) k_Ch_leapItem 6 rfl
theorem d_Ch_leapItem_9 : decode y_Ch_leapItem.2.2.1 9 = .ok (.if_icmp .eq 18, 3) := mj_d (q := (9, .if_icmp .eq 18, 3)) k_Ch_leapItem 7 rfl
theorem d_Ch_leapItem_12 : decode y_Ch_leapItem.2.2.1 12 = .ok (.aload_n 0, 1) := mj_d (q := (12, .aload_n 0, 1)) k_Ch_leapItem 8 rfl
theorem d_Ch_leapItem_13 : decode y_Ch_leapItem.2.2.1 13 = .ok (.getfield 26, 3) := mj_d (q := (13, .getfield 26, 3)) k_Ch_leapItem 9 rfl
theorem d_Ch_leapItem_16 : decode y_Ch_leapItem.2.2.1 16 = .ok (.getfield 55, 3) := mj_d (q := (16, .getfield 55, 3)) k_Ch_leapItem 10 rfl
theorem d_Ch_leapItem_19 : decode y_Ch_leapItem.2.2.1 19 = .ok (.iload_n 3, 1) := mj_d (q := (19, .iload_n 3, 1)) k_Ch_leapItem 11 rfl
theorem d_Ch_leapItem_20 : decode y_Ch_leapItem.2.2.1 20 = .ok (.iconst 1, 1) := mj_d (q := (20, .iconst 1, 1)) k_Ch_leapItem 12 rfl
theorem d_Ch_leapItem_21 : decode y_Ch_leapItem.2.2.1 21 = .ok (.iadd, 1) := mj_d (q := (21, .iadd, 1)) k_Ch_leapItem 13 rfl
theorem d_Ch_leapItem_22 : decode y_Ch_leapItem.2.2.1 22 = .ok (.iaload, 1) := mj_d (q := (22, .iaload, 1)) k_Ch_leapItem 14 rfl
theorem d_Ch_leapItem_23 : decode y_Ch_leapItem.2.2.1 23 = .ok (.iconst (-1), 1) := mj_d (q := (23, .iconst (-1), 1)) k_Ch_leapItem 15 rfl
theorem d_Ch_leapItem_24 : decode y_Ch_leapItem.2.2.1 24 = .ok (.if_icmp .eq 5, 3) := mj_d (q := (24, .if_icmp .eq 5, 3)) k_Ch_leapItem 16 rfl
theorem d_Ch_leapItem_27 : decode y_Ch_leapItem.2.2.1 27 = .ok (.iconst (-1), 1) := mj_d (q := (27, .iconst (-1), 1)) k_Ch_leapItem 17 rfl
theorem d_Ch_leapItem_28 : decode y_Ch_leapItem.2.2.1 28 = .ok (.ireturn, 1) := mj_d (q := (28, .ireturn, 1)) k_Ch_leapItem 18 rfl
theorem d_Ch_leapItem_29 : decode y_Ch_leapItem.2.2.1 29 = .ok (.aload_n 0, 1) := mj_d (q := (29, .aload_n 0, 1)) k_Ch_leapItem 19 rfl
theorem d_Ch_leapItem_30 : decode y_Ch_leapItem.2.2.1 30 = .ok (.getfield 11, 3) := mj_d (q := (30, .getfield 11, 3)) k_Ch_leapItem 20 rfl
theorem d_Ch_leapItem_33 : decode y_Ch_leapItem.2.2.1 33 = .ok (.iload_n 1, 1) := mj_d (q := (33, .iload_n 1, 1)) k_Ch_leapItem 21 rfl
theorem d_Ch_leapItem_34 : decode y_Ch_leapItem.2.2.1 34 = .ok (.aaload, 1) := mj_d (q := (34, .aaload, 1)) k_Ch_leapItem 22 rfl
theorem d_Ch_leapItem_35 : decode y_Ch_leapItem.2.2.1 35 = .ok (.iload_n 3, 1) := mj_d (q := (35, .iload_n 3, 1)) k_Ch_leapItem 23 rfl
theorem d_Ch_leapItem_36 : decode y_Ch_leapItem.2.2.1 36 = .ok (.iaload, 1) := mj_d (q := (36, .iaload, 1)) k_Ch_leapItem 24 rfl
theorem d_Ch_leapItem_37 : decode y_Ch_leapItem.2.2.1 37 = .ok (.iconst 1, 1) := mj_d (q := (37, .iconst 1, 1)) k_Ch_leapItem 25 rfl
theorem d_Ch_leapItem_38 : decode y_Ch_leapItem.2.2.1 38 = .ok (.isub, 1) := mj_d (q := (38, .isub, 1)) k_Ch_leapItem 26 rfl
theorem d_Ch_leapItem_39 : decode y_Ch_leapItem.2.2.1 39 = .ok (.invokestatic 104, 3) := mj_d (q := (39, .invokestatic 104, 3)) k_Ch_leapItem 27 rfl
theorem d_Ch_leapItem_42 : decode y_Ch_leapItem.2.2.1 42 = .ok (.istore 4, 2) := mj_d (q := (42, .istore 4, 2)) k_Ch_leapItem 28 rfl
theorem d_Ch_leapItem_44 : decode y_Ch_leapItem.2.2.1 44 = .ok (.aload_n 0, 1) := mj_d (q := (44, .aload_n 0, 1)) k_Ch_leapItem 29 rfl
theorem d_Ch_leapItem_45 : decode y_Ch_leapItem.2.2.1 45 = .ok (.iload_n 3, 1) := mj_d (q := (45, .iload_n 3, 1)) k_Ch_leapItem 30 rfl
theorem d_Ch_leapItem_46 : decode y_Ch_leapItem.2.2.1 46 = .ok (.invokevirtual 82, 3) := mj_d (q := (46, .invokevirtual 82, 3)) k_Ch_leapItem 31 rfl
theorem d_Ch_leapItem_49 : decode y_Ch_leapItem.2.2.1 49 = .ok (.istore 5, 2) := mj_d (q := (49, .istore 5, 2)) k_Ch_leapItem 32 rfl
theorem d_Ch_leapItem_51 : decode y_Ch_leapItem.2.2.1 51 = .ok (.iload 4, 2) := mj_d (q := (51, .iload 4, 2)) k_Ch_leapItem 33 rfl
theorem d_Ch_leapItem_53 : decode y_Ch_leapItem.2.2.1 53 = .ok (.iload_n 1, 1) := mj_d (q := (53, .iload_n 1, 1)) k_Ch_leapItem 34 rfl
theorem d_Ch_leapItem_54 : decode y_Ch_leapItem.2.2.1 54 = .ok (.if_icmp .ge 34, 3) := mj_d (q := (54, .if_icmp .ge 34, 3)) k_Ch_leapItem 35 rfl
theorem d_Ch_leapItem_57 : decode y_Ch_leapItem.2.2.1 57 = .ok (.iload 5, 2) := mj_d (q := (57, .iload 5, 2)) k_Ch_leapItem 36 rfl
theorem d_Ch_leapItem_59 : decode y_Ch_leapItem.2.2.1 59 = .ok (.iconst (-1), 1) := mj_d (q := (59, .iconst (-1), 1)) k_Ch_leapItem 37 rfl
theorem d_Ch_leapItem_60 : decode y_Ch_leapItem.2.2.1 60 = .ok (.if_icmp .eq 28, 3) := mj_d (q := (60, .if_icmp .eq 28, 3)) k_Ch_leapItem 38 rfl
theorem d_Ch_leapItem_63 : decode y_Ch_leapItem.2.2.1 63 = .ok (.aload_n 0, 1) := mj_d (q := (63, .aload_n 0, 1)) k_Ch_leapItem 39 rfl
theorem d_Ch_leapItem_64 : decode y_Ch_leapItem.2.2.1 64 = .ok (.getfield 20, 3) := mj_d (q := (64, .getfield 20, 3)) k_Ch_leapItem 40 rfl
theorem d_Ch_leapItem_67 : decode y_Ch_leapItem.2.2.1 67 = .ok (.iload 4, 2) := mj_d (q := (67, .iload 4, 2)) k_Ch_leapItem 41 rfl
theorem d_Ch_leapItem_69 : decode y_Ch_leapItem.2.2.1 69 = .ok (.aaload, 1) := mj_d (q := (69, .aaload, 1)) k_Ch_leapItem 42 rfl
theorem d_Ch_leapItem_70 : decode y_Ch_leapItem.2.2.1 70 = .ok (.iload 5, 2) := mj_d (q := (70, .iload 5, 2)) k_Ch_leapItem 43 rfl
theorem d_Ch_leapItem_72 : decode y_Ch_leapItem.2.2.1 72 = .ok (.iaload, 1) := mj_d (q := (72, .iaload, 1)) k_Ch_leapItem 44 rfl
theorem d_Ch_leapItem_73 : decode y_Ch_leapItem.2.2.1 73 = .ok (.iconst (-1), 1) := mj_d (q := (73, .iconst (-1), 1)) k_Ch_leapItem 45 rfl
theorem d_Ch_leapItem_74 : decode y_Ch_leapItem.2.2.1 74 = .ok (.if_icmp .eq 14, 3) := mj_d (q := (74, .if_icmp .eq 14, 3)) k_Ch_leapItem 46 rfl
theorem d_Ch_leapItem_77 : decode y_Ch_leapItem.2.2.1 77 = .ok (.aload_n 0, 1) := mj_d (q := (77, .aload_n 0, 1)) k_Ch_leapItem 47 rfl
theorem d_Ch_leapItem_78 : decode y_Ch_leapItem.2.2.1 78 = .ok (.getfield 20, 3) := mj_d (q := (78, .getfield 20, 3)) k_Ch_leapItem 48 rfl
theorem d_Ch_leapItem_81 : decode y_Ch_leapItem.2.2.1 81 = .ok (.iload 4, 2) := mj_d (q := (81, .iload 4, 2)) k_Ch_leapItem 49 rfl
theorem d_Ch_leapItem_83 : decode y_Ch_leapItem.2.2.1 83 = .ok (.aaload, 1) := mj_d (q := (83, .aaload, 1)) k_Ch_leapItem 50 rfl
theorem d_Ch_leapItem_84 : decode y_Ch_leapItem.2.2.1 84 = .ok (.iload 5, 2) := mj_d (q := (84, .iload 5, 2)) k_Ch_leapItem 51 rfl
theorem d_Ch_leapItem_86 : decode y_Ch_leapItem.2.2.1 86 = .ok (.iaload, 1) := mj_d (q := (86, .iaload, 1)) k_Ch_leapItem 52 rfl
theorem d_Ch_leapItem_87 : decode y_Ch_leapItem.2.2.1 87 = .ok (.ireturn, 1) := mj_d (q := (87, .ireturn, 1)) k_Ch_leapItem 53 rfl
theorem d_Ch_leapItem_88 : decode y_Ch_leapItem.2.2.1 88 = .ok (.iload_n 3, 1) := mj_d (q := (88, .iload_n 3, 1)) k_Ch_leapItem 54 rfl
theorem d_Ch_leapItem_89 : decode y_Ch_leapItem.2.2.1 89 = .ok (.iconst 1, 1) := mj_d (q := (89, .iconst 1, 1)) k_Ch_leapItem 55 rfl
theorem d_Ch_leapItem_90 : decode y_Ch_leapItem.2.2.1 90 = .ok (.iadd, 1) := mj_d (q := (90, .iadd, 1)) k_Ch_leapItem 56 rfl
theorem d_Ch_leapItem_91 : decode y_Ch_leapItem.2.2.1 91 = .ok (.bipush 13, 2) := mj_d (q := (91, .bipush 13, 2)) k_Ch_leapItem 57 rfl
theorem d_Ch_leapItem_93 : decode y_Ch_leapItem.2.2.1 93 = .ok (.imul, 1) := mj_d (q := (93, .imul, 1)) k_Ch_leapItem 58 rfl
theorem d_Ch_leapItem_94 : decode y_Ch_leapItem.2.2.1 94 = .ok (.iload 4, 2) := mj_d (q := (94, .iload 4, 2)) k_Ch_leapItem 59 rfl
theorem d_Ch_leapItem_96 : decode y_Ch_leapItem.2.2.1 96 = .ok (.iadd, 1) := mj_d (q := (96, .iadd, 1)) k_Ch_leapItem 60 rfl
theorem d_Ch_leapItem_97 : decode y_Ch_leapItem.2.2.1 97 = .ok (.ireturn, 1) := mj_d (q := (97, .ireturn, 1)) k_Ch_leapItem 61 rfl
theorem d_Ch_loneSlot_0 : decode y_Ch_loneSlot.2.2.1 0 = .ok (.iconst 0, 1) := mj_d (q := (0, .iconst 0, 1)) k_Ch_loneSlot 0 rfl
theorem d_Ch_loneSlot_1 : decode y_Ch_loneSlot.2.2.1 1 = .ok (.istore_n 3, 1) := mj_d (q := (1, .istore_n 3, 1)) k_Ch_loneSlot 1 rfl
theorem d_Ch_loneSlot_2 : decode y_Ch_loneSlot.2.2.1 2 = .ok (.iconst (-1), 1) := mj_d (q := (2, .iconst (-1), 1)) k_Ch_loneSlot 2 rfl
theorem d_Ch_loneSlot_3 : decode y_Ch_loneSlot.2.2.1 3 = .ok (.istore 4, 2) := mj_d (q := (3, .istore 4, 2)) k_Ch_loneSlot 3 rfl
theorem d_Ch_loneSlot_5 : decode y_Ch_loneSlot.2.2.1 5 = .ok (.iconst 0, 1) := mj_d (q := (5, .iconst 0, 1)) k_Ch_loneSlot 4 rfl
theorem d_Ch_loneSlot_6 : decode y_Ch_loneSlot.2.2.1 6 = .ok (.istore 5, 2) := mj_d (q := (6, .istore 5, 2)) k_Ch_loneSlot 5 rfl
theorem d_Ch_loneSlot_8 : decode y_Ch_loneSlot.2.2.1 8 = .ok (.iload 5, 2) := mj_d (q := (8, .iload 5, 2)) k_Ch_loneSlot 6 rfl
theorem d_Ch_loneSlot_10 : decode y_Ch_loneSlot.2.2.1 10 = .ok (.bipush 44, 2) := mj_d (q := (10, .bipush 44, 2)) k_Ch_loneSlot 7 rfl
theorem d_Ch_loneSlot_12 : decode y_Ch_loneSlot.2.2.1 12 = .ok (.if_icmp .ge 54, 3) := mj_d (q := (12, .if_icmp .ge 54, 3)) k_Ch_loneSlot 8 rfl
theorem d_Ch_loneSlot_15 : decode y_Ch_loneSlot.2.2.1 15 = .ok (.aload_n 0, 1) := mj_d (q := (15, .aload_n 0, 1)) k_Ch_loneSlot 9 rfl
theorem d_Ch_loneSlot_16 : decode y_Ch_loneSlot.2.2.1 16 = .ok (.getfield 11, 3) := mj_d (q := (16, .getfield 11, 3)) k_Ch_loneSlot 10 rfl
theorem d_Ch_loneSlot_19 : decode y_Ch_loneSlot.2.2.1 19 = .ok (.iload_n 1, 1) := mj_d (q := (19, .iload_n 1, 1)) k_Ch_loneSlot 11 rfl
theorem d_Ch_loneSlot_20 : decode y_Ch_loneSlot.2.2.1 20 = .ok (.aaload, 1) := mj_d (q := (20, .aaload, 1)) k_Ch_loneSlot 12 rfl
theorem d_Ch_loneSlot_21 : decode y_Ch_loneSlot.2.2.1 21 = .ok (.iload 5, 2) := mj_d (q := (21, .iload 5, 2)) k_Ch_loneSlot 13 rfl
theorem d_Ch_loneSlot_23 : decode y_Ch_loneSlot.2.2.1 23 = .ok (.iaload, 1) := mj_d (q := (23, .iaload, 1)) k_Ch_loneSlot 14 rfl
theorem d_Ch_loneSlot_24 : decode y_Ch_loneSlot.2.2.1 24 = .ok (.ifCond .eq 36, 3) := mj_d (q := (24, .ifCond .eq 36, 3)) k_Ch_loneSlot 15 rfl
theorem d_Ch_loneSlot_27 : decode y_Ch_loneSlot.2.2.1 27 = .ok (.aload_n 0, 1) := mj_d (q := (27, .aload_n 0, 1)) k_Ch_loneSlot 16 rfl
theorem d_Ch_loneSlot_28 : decode y_Ch_loneSlot.2.2.1 28 = .ok (.getfield 26, 3) := mj_d (q := (28, .getfield 26, 3)) k_Ch_loneSlot 17 rfl
theorem d_Ch_loneSlot_31 : decode y_Ch_loneSlot.2.2.1 31 = .ok (.getfield 55, 3) := mj_d (q := (31, .getfield 55, 3)) k_Ch_loneSlot 18 rfl
theorem d_Ch_loneSlot_34 : decode y_Ch_loneSlot.2.2.1 34 = .ok (.iload 5, 2) := mj_d (q := (34, .iload 5, 2)) k_Ch_loneSlot 19 rfl
theorem d_Ch_loneSlot_36 : decode y_Ch_loneSlot.2.2.1 36 = .ok (.iaload, 1) := mj_d (q := (36, .iaload, 1)) k_Ch_loneSlot 20 rfl
theorem d_Ch_loneSlot_37 : decode y_Ch_loneSlot.2.2.1 37 = .ok (.iload_n 2, 1) := mj_d (q := (37, .iload_n 2, 1)) k_Ch_loneSlot 21 rfl
theorem d_Ch_loneSlot_38 : decode y_Ch_loneSlot.2.2.1 38 = .ok (.if_icmp .ne 22, 3) := mj_d (q := (38, .if_icmp .ne 22, 3)) k_Ch_loneSlot 22 rfl
theorem d_Ch_loneSlot_41 : decode y_Ch_loneSlot.2.2.1 41 = .ok (.iload_n 3, 1) := mj_d (q := (41, .iload_n 3, 1)) k_Ch_loneSlot 23 rfl
theorem d_Ch_loneSlot_42 : decode y_Ch_loneSlot.2.2.1 42 = .ok (.aload_n 0, 1) := mj_d (q := (42, .aload_n 0, 1)) k_Ch_loneSlot 24 rfl
theorem d_Ch_loneSlot_43 : decode y_Ch_loneSlot.2.2.1 43 = .ok (.getfield 11, 3) := mj_d (q := (43, .getfield 11, 3)) k_Ch_loneSlot 25 rfl
theorem d_Ch_loneSlot_46 : decode y_Ch_loneSlot.2.2.1 46 = .ok (.iload_n 1, 1) := mj_d (q := (46, .iload_n 1, 1)) k_Ch_loneSlot 26 rfl
theorem d_Ch_loneSlot_47 : decode y_Ch_loneSlot.2.2.1 47 = .ok (.aaload, 1) := mj_d (q := (47, .aaload, 1)) k_Ch_loneSlot 27 rfl
theorem d_Ch_loneSlot_48 : decode y_Ch_loneSlot.2.2.1 48 = .ok (.iload 5, 2) := mj_d (q := (48, .iload 5, 2)) k_Ch_loneSlot 28 rfl
theorem d_Ch_loneSlot_50 : decode y_Ch_loneSlot.2.2.1 50 = .ok (.iaload, 1) := mj_d (q := (50, .iaload, 1)) k_Ch_loneSlot 29 rfl
theorem d_Ch_loneSlot_51 : decode y_Ch_loneSlot.2.2.1 51 = .ok (.invokestatic 104, 3) := mj_d (q := (51, .invokestatic 104, 3)) k_Ch_loneSlot 30 rfl
theorem d_Ch_loneSlot_54 : decode y_Ch_loneSlot.2.2.1 54 = .ok (.iadd, 1) := mj_d (q := (54, .iadd, 1)) k_Ch_loneSlot 31 rfl
theorem d_Ch_loneSlot_55 : decode y_Ch_loneSlot.2.2.1 55 = .ok (.istore_n 3, 1) := mj_d (q := (55, .istore_n 3, 1)) k_Ch_loneSlot 32 rfl
theorem d_Ch_loneSlot_56 : decode y_Ch_loneSlot.2.2.1 56 = .ok (.iload 5, 2) := mj_d (q := (56, .iload 5, 2)) k_Ch_loneSlot 33 rfl
theorem d_Ch_loneSlot_58 : decode y_Ch_loneSlot.2.2.1 58 = .ok (.istore 4, 2) := mj_d (q := (58, .istore 4, 2)) k_Ch_loneSlot 34 rfl
theorem d_Ch_loneSlot_60 : decode y_Ch_loneSlot.2.2.1 60 = .ok (.iinc 5 1, 3) := mj_d (q := (60, .iinc 5 1, 3)) k_Ch_loneSlot 35 rfl
theorem d_Ch_loneSlot_63 : decode y_Ch_loneSlot.2.2.1 63 = .ok (.goto (-55), 3) := mj_d (q := (63, .goto (-55), 3)) k_Ch_loneSlot 36 rfl
theorem d_Ch_loneSlot_66 : decode y_Ch_loneSlot.2.2.1 66 = .ok (.iload_n 3, 1) := mj_d (q := (66, .iload_n 3, 1)) k_Ch_loneSlot 37 rfl
theorem d_Ch_loneSlot_67 : decode y_Ch_loneSlot.2.2.1 67 = .ok (.iconst 1, 1) := mj_d (q := (67, .iconst 1, 1)) k_Ch_loneSlot 38 rfl
theorem d_Ch_loneSlot_68 : decode y_Ch_loneSlot.2.2.1 68 = .ok (.if_icmp .ne 8, 3) := mj_d (q := (68, .if_icmp .ne 8, 3)) k_Ch_loneSlot 39 rfl
theorem d_Ch_loneSlot_71 : decode y_Ch_loneSlot.2.2.1 71 = .ok (.iload 4, 2) := mj_d (q := (71, .iload 4, 2)) k_Ch_loneSlot 40 rfl
theorem d_Ch_loneSlot_73 : decode y_Ch_loneSlot.2.2.1 73 = .ok (.goto 4, 3) := mj_d (q := (73, .goto 4, 3)) k_Ch_loneSlot 41 rfl
theorem d_Ch_loneSlot_76 : decode y_Ch_loneSlot.2.2.1 76 = .ok (.iconst (-1), 1) := mj_d (q := (76, .iconst (-1), 1)) k_Ch_loneSlot 42 rfl
theorem d_Ch_loneSlot_77 : decode y_Ch_loneSlot.2.2.1 77 = .ok (.ireturn, 1) := mj_d (q := (77, .ireturn, 1)) k_Ch_loneSlot 43 rfl
theorem d_J_Integer_bitCount_I_0 : decode y_J_Integer_bitCount_I.2.2.1 0 = .ok (.iload_n 0, 1) := mj_d (q := (0, .iload_n 0, 1)) k_J_Integer_bitCount_I 0 rfl
theorem d_J_Integer_bitCount_I_1 : decode y_J_Integer_bitCount_I.2.2.1 1 = .ok (.iload_n 0, 1) := mj_d (q := (1, .iload_n 0, 1)) k_J_Integer_bitCount_I 1 rfl
theorem d_J_Integer_bitCount_I_2 : decode y_J_Integer_bitCount_I.2.2.1 2 = .ok (.iconst 1, 1) := mj_d (q := (2, .iconst 1, 1)) k_J_Integer_bitCount_I 2 rfl
theorem d_J_Integer_bitCount_I_3 : decode y_J_Integer_bitCount_I.2.2.1 3 = .ok (.iushr, 1) := mj_d (q := (3, .iushr, 1)) k_J_Integer_bitCount_I 3 rfl
theorem d_J_Integer_bitCount_I_4 : decode y_J_Integer_bitCount_I.2.2.1 4 = .ok (.ldc_w 265, 3) := mj_d (q := (4, .ldc_w 265, 3)) k_J_Integer_bitCount_I 4 rfl
theorem d_J_Integer_bitCount_I_7 : decode y_J_Integer_bitCount_I.2.2.1 7 = .ok (.iand, 1) := mj_d (q := (7, .iand, 1)) k_J_Integer_bitCount_I 5 rfl
theorem d_J_Integer_bitCount_I_8 : decode y_J_Integer_bitCount_I.2.2.1 8 = .ok (.isub, 1) := mj_d (q := (8, .isub, 1)) k_J_Integer_bitCount_I 6 rfl
theorem d_J_Integer_bitCount_I_9 : decode y_J_Integer_bitCount_I.2.2.1 9 = .ok (.istore_n 0, 1) := mj_d (q := (9, .istore_n 0, 1)) k_J_Integer_bitCount_I 7 rfl
theorem d_J_Integer_bitCount_I_10 : decode y_J_Integer_bitCount_I.2.2.1 10 = .ok (.iload_n 0, 1) := mj_d (q := (10, .iload_n 0, 1)) k_J_Integer_bitCount_I 8 rfl
theorem d_J_Integer_bitCount_I_11 : decode y_J_Integer_bitCount_I.2.2.1 11 = .ok (.ldc_w 266, 3) := mj_d (q := (11, .ldc_w 266, 3)) k_J_Integer_bitCount_I 9 rfl
theorem d_J_Integer_bitCount_I_14 : decode y_J_Integer_bitCount_I.2.2.1 14 = .ok (.iand, 1) := mj_d (q := (14, .iand, 1)) k_J_Integer_bitCount_I 10 rfl
theorem d_J_Integer_bitCount_I_15 : decode y_J_Integer_bitCount_I.2.2.1 15 = .ok (.iload_n 0, 1) := mj_d (q := (15, .iload_n 0, 1)) k_J_Integer_bitCount_I 11 rfl
theorem d_J_Integer_bitCount_I_16 : decode y_J_Integer_bitCount_I.2.2.1 16 = .ok (.iconst 2, 1) := mj_d (q := (16, .iconst 2, 1)) k_J_Integer_bitCount_I 12 rfl
theorem d_J_Integer_bitCount_I_17 : decode y_J_Integer_bitCount_I.2.2.1 17 = .ok (.iushr, 1) := mj_d (q := (17, .iushr, 1)) k_J_Integer_bitCount_I 13 rfl
theorem d_J_Integer_bitCount_I_18 : decode y_J_Integer_bitCount_I.2.2.1 18 = .ok (.ldc_w 266, 3) := mj_d (q := (18, .ldc_w 266, 3)) k_J_Integer_bitCount_I 14 rfl
theorem d_J_Integer_bitCount_I_21 : decode y_J_Integer_bitCount_I.2.2.1 21 = .ok (.iand, 1) := mj_d (q := (21, .iand, 1)) k_J_Integer_bitCount_I 15 rfl
theorem d_J_Integer_bitCount_I_22 : decode y_J_Integer_bitCount_I.2.2.1 22 = .ok (.iadd, 1) := mj_d (q := (22, .iadd, 1)) k_J_Integer_bitCount_I 16 rfl
theorem d_J_Integer_bitCount_I_23 : decode y_J_Integer_bitCount_I.2.2.1 23 = .ok (.istore_n 0, 1) := mj_d (q := (23, .istore_n 0, 1)) k_J_Integer_bitCount_I 17 rfl
theorem d_J_Integer_bitCount_I_24 : decode y_J_Integer_bitCount_I.2.2.1 24 = .ok (.iload_n 0, 1) := mj_d (q := (24, .iload_n 0, 1)) k_J_Integer_bitCount_I 18 rfl
theorem d_J_Integer_bitCount_I_25 : decode y_J_Integer_bitCount_I.2.2.1 25 = .ok (.iload_n 0, 1) := mj_d (q := (25, .iload_n 0, 1)) k_J_Integer_bitCount_I 19 rfl
theorem d_J_Integer_bitCount_I_26 : decode y_J_Integer_bitCount_I.2.2.1 26 = .ok (.iconst 4, 1) := mj_d (q := (26, .iconst 4, 1)) k_J_Integer_bitCount_I 20 rfl
theorem d_J_Integer_bitCount_I_27 : decode y_J_Integer_bitCount_I.2.2.1 27 = .ok (.iushr, 1) := mj_d (q := (27, .iushr, 1)) k_J_Integer_bitCount_I 21 rfl
theorem d_J_Integer_bitCount_I_28 : decode y_J_Integer_bitCount_I.2.2.1 28 = .ok (.iadd, 1) := mj_d (q := (28, .iadd, 1)) k_J_Integer_bitCount_I 22 rfl
theorem d_J_Integer_bitCount_I_29 : decode y_J_Integer_bitCount_I.2.2.1 29 = .ok (.ldc_w 267, 3) := mj_d (q := (29, .ldc_w 267, 3)) k_J_Integer_bitCount_I 23 rfl
theorem d_J_Integer_bitCount_I_32 : decode y_J_Integer_bitCount_I.2.2.1 32 = .ok (.iand, 1) := mj_d (q := (32, .iand, 1)) k_J_Integer_bitCount_I 24 rfl
theorem d_J_Integer_bitCount_I_33 : decode y_J_Integer_bitCount_I.2.2.1 33 = .ok (.istore_n 0, 1) := mj_d (q := (33, .istore_n 0, 1)) k_J_Integer_bitCount_I 25 rfl
theorem d_J_Integer_bitCount_I_34 : decode y_J_Integer_bitCount_I.2.2.1 34 = .ok (.iload_n 0, 1) := mj_d (q := (34, .iload_n 0, 1)) k_J_Integer_bitCount_I 26 rfl
theorem d_J_Integer_bitCount_I_35 : decode y_J_Integer_bitCount_I.2.2.1 35 = .ok (.iload_n 0, 1) := mj_d (q := (35, .iload_n 0, 1)) k_J_Integer_bitCount_I 27 rfl
theorem d_J_Integer_bitCount_I_36 : decode y_J_Integer_bitCount_I.2.2.1 36 = .ok (.bipush 8, 2) := mj_d (q := (36, .bipush 8, 2)) k_J_Integer_bitCount_I 28 rfl
theorem d_J_Integer_bitCount_I_38 : decode y_J_Integer_bitCount_I.2.2.1 38 = .ok (.iushr, 1) := mj_d (q := (38, .iushr, 1)) k_J_Integer_bitCount_I 29 rfl
theorem d_J_Integer_bitCount_I_39 : decode y_J_Integer_bitCount_I.2.2.1 39 = .ok (.iadd, 1) := mj_d (q := (39, .iadd, 1)) k_J_Integer_bitCount_I 30 rfl
theorem d_J_Integer_bitCount_I_40 : decode y_J_Integer_bitCount_I.2.2.1 40 = .ok (.istore_n 0, 1) := mj_d (q := (40, .istore_n 0, 1)) k_J_Integer_bitCount_I 31 rfl
theorem d_J_Integer_bitCount_I_41 : decode y_J_Integer_bitCount_I.2.2.1 41 = .ok (.iload_n 0, 1) := mj_d (q := (41, .iload_n 0, 1)) k_J_Integer_bitCount_I 32 rfl
theorem d_J_Integer_bitCount_I_42 : decode y_J_Integer_bitCount_I.2.2.1 42 = .ok (.iload_n 0, 1) := mj_d (q := (42, .iload_n 0, 1)) k_J_Integer_bitCount_I 33 rfl
theorem d_J_Integer_bitCount_I_43 : decode y_J_Integer_bitCount_I.2.2.1 43 = .ok (.bipush 16, 2) := mj_d (q := (43, .bipush 16, 2)) k_J_Integer_bitCount_I 34 rfl
theorem d_J_Integer_bitCount_I_45 : decode y_J_Integer_bitCount_I.2.2.1 45 = .ok (.iushr, 1) := mj_d (q := (45, .iushr, 1)) k_J_Integer_bitCount_I 35 rfl
theorem d_J_Integer_bitCount_I_46 : decode y_J_Integer_bitCount_I.2.2.1 46 = .ok (.iadd, 1) := mj_d (q := (46, .iadd, 1)) k_J_Integer_bitCount_I 36 rfl
theorem d_J_Integer_bitCount_I_47 : decode y_J_Integer_bitCount_I.2.2.1 47 = .ok (.istore_n 0, 1) := mj_d (q := (47, .istore_n 0, 1)) k_J_Integer_bitCount_I 37 rfl
theorem d_J_Integer_bitCount_I_48 : decode y_J_Integer_bitCount_I.2.2.1 48 = .ok (.iload_n 0, 1) := mj_d (q := (48, .iload_n 0, 1)) k_J_Integer_bitCount_I 38 rfl
theorem d_J_Integer_bitCount_I_49 : decode y_J_Integer_bitCount_I.2.2.1 49 = .ok (.bipush 63, 2) := mj_d (q := (49, .bipush 63, 2)) k_J_Integer_bitCount_I 39 rfl
theorem d_J_Integer_bitCount_I_51 : decode y_J_Integer_bitCount_I.2.2.1 51 = .ok (.iand, 1) := mj_d (q := (51, .iand, 1)) k_J_Integer_bitCount_I 40 rfl
theorem d_J_Integer_bitCount_I_52 : decode y_J_Integer_bitCount_I.2.2.1 52 = .ok (.ireturn, 1) := mj_d (q := (52, .ireturn, 1)) k_J_Integer_bitCount_I 41 rfl
theorem d_CF_back_0 : decode y_CF_back.2.2.1 0 = .ok (.iload_n 1, 1) := mj_d (q := (0, .iload_n 1, 1)) k_CF_back 0 rfl
theorem d_CF_back_1 : decode y_CF_back.2.2.1 1 = .ok (.ifCond .lt 14, 3) := mj_d (q := (1, .ifCond .lt 14, 3)) k_CF_back 1 rfl
theorem d_CF_back_4 : decode y_CF_back.2.2.1 4 = .ok (.iload_n 1, 1) := mj_d (q := (4, .iload_n 1, 1)) k_CF_back 2 rfl
theorem d_CF_back_5 : decode y_CF_back.2.2.1 5 = .ok (.aload_n 0, 1) := mj_d (q := (5, .aload_n 0, 1)) k_CF_back 3 rfl
theorem d_CF_back_6 : decode y_CF_back.2.2.1 6 = .ok (.getfield 19, 3) := mj_d (q := (6, .getfield 19, 3)) k_CF_back 4 rfl
theorem d_CF_back_9 : decode y_CF_back.2.2.1 9 = .ok (.getfield 59, 3) := mj_d (q := (9, .getfield 59, 3)) k_CF_back 5 rfl
theorem d_CF_back_12 : decode y_CF_back.2.2.1 12 = .ok (.if_icmp .le 11, 3) := mj_d (q := (12, .if_icmp .le 11, 3)) k_CF_back 6 rfl
theorem d_CF_back_15 : decode y_CF_back.2.2.1 15 = .ok (.new 52, 3) := mj_d (q := (15, .new 52, 3)) k_CF_back 7 rfl
theorem d_CF_back_18 : decode y_CF_back.2.2.1 18 = .ok (.dup, 1) := mj_d (q := (18, .dup, 1)) k_CF_back 8 rfl
theorem d_CF_back_19 : decode y_CF_back.2.2.1 19 = .ok (.invokespecial 54, 3) := mj_d (q := (19, .invokespecial 54, 3)) k_CF_back 9 rfl
theorem d_CF_back_22 : decode y_CF_back.2.2.1 22 = .ok (.athrow, 1) := mj_d (q := (22, .athrow, 1)) k_CF_back 10 rfl
theorem d_CF_back_23 : decode y_CF_back.2.2.1 23 = .ok (.aload_n 0, 1) := mj_d (q := (23, .aload_n 0, 1)) k_CF_back 11 rfl
theorem d_CF_back_24 : decode y_CF_back.2.2.1 24 = .ok (.getfield 19, 3) := mj_d (q := (24, .getfield 19, 3)) k_CF_back 12 rfl
theorem d_CF_back_27 : decode y_CF_back.2.2.1 27 = .ok (.dup, 1) := mj_d (q := (27, .dup, 1)) k_CF_back 13 rfl
theorem d_CF_back_28 : decode y_CF_back.2.2.1 28 = .ok (.getfield 59, 3) := mj_d (q := (28, .getfield 59, 3)) k_CF_back 14 rfl
theorem d_CF_back_31 : decode y_CF_back.2.2.1 31 = .ok (.iload_n 1, 1) := mj_d (q := (31, .iload_n 1, 1)) k_CF_back 15 rfl
theorem d_CF_back_32 : decode y_CF_back.2.2.1 32 = .ok (.isub, 1) := mj_d (q := (32, .isub, 1)) k_CF_back 16 rfl
theorem d_CF_back_33 : decode y_CF_back.2.2.1 33 = .ok (.putfield 59, 3) := mj_d (q := (33, .putfield 59, 3)) k_CF_back 17 rfl
theorem d_CF_back_36 : decode y_CF_back.2.2.1 36 = .ok (.aload_n 0, 1) := mj_d (q := (36, .aload_n 0, 1)) k_CF_back 18 rfl
theorem d_CF_back_37 : decode y_CF_back.2.2.1 37 = .ok (.getfield 37, 3) := mj_d (q := (37, .getfield 37, 3)) k_CF_back 19 rfl
theorem d_CF_back_40 : decode y_CF_back.2.2.1 40 = .ok (.aload_n 0, 1) := mj_d (q := (40, .aload_n 0, 1)) k_CF_back 20 rfl
theorem d_CF_back_41 : decode y_CF_back.2.2.1 41 = .ok (.getfield 19, 3) := mj_d (q := (41, .getfield 19, 3)) k_CF_back 21 rfl
theorem d_CF_back_44 : decode y_CF_back.2.2.1 44 = .ok (.getfield 59, 3) := mj_d (q := (44, .getfield 59, 3)) k_CF_back 22 rfl
theorem d_CF_back_47 : decode y_CF_back.2.2.1 47 = .ok (.invokevirtual 69, 3) := mj_d (q := (47, .invokevirtual 69, 3)) k_CF_back 23 rfl
theorem d_CF_back_50 : decode y_CF_back.2.2.1 50 = .ok (.aload_n 0, 1) := mj_d (q := (50, .aload_n 0, 1)) k_CF_back 24 rfl
theorem d_CF_back_51 : decode y_CF_back.2.2.1 51 = .ok (.getfield 19, 3) := mj_d (q := (51, .getfield 19, 3)) k_CF_back 25 rfl
theorem d_CF_back_54 : decode y_CF_back.2.2.1 54 = .ok (.getfield 59, 3) := mj_d (q := (54, .getfield 59, 3)) k_CF_back 26 rfl
theorem d_CF_back_57 : decode y_CF_back.2.2.1 57 = .ok (.ireturn, 1) := mj_d (q := (57, .ireturn, 1)) k_CF_back 27 rfl
theorem d_CF_items_0 : decode y_CF_items.2.2.1 0 = .ok (.aload_n 0, 1) := mj_d (q := (0, .aload_n 0, 1)) k_CF_items 0 rfl
theorem d_CF_items_1 : decode y_CF_items.2.2.1 1 = .ok (.iload_n 1, 1) := mj_d (q := (1, .iload_n 1, 1)) k_CF_items 1 rfl
theorem d_CF_items_2 : decode y_CF_items.2.2.1 2 = .ok (.invokevirtual 104, 3) := mj_d (q := (2, .invokevirtual 104, 3)) k_CF_items 2 rfl
theorem d_CF_items_5 : decode y_CF_items.2.2.1 5 = .ok (.ifCond .ne 11, 3) := mj_d (q := (5, .ifCond .ne 11, 3)) k_CF_items 3 rfl
theorem d_CF_items_8 : decode y_CF_items.2.2.1 8 = .ok (.new 107, 3) := mj_d (q := (8, .new 107, 3)) k_CF_items 4 rfl
theorem d_CF_items_11 : decode y_CF_items.2.2.1 11 = .ok (.dup, 1) := mj_d (q := (11, .dup, 1)) k_CF_items 5 rfl
theorem d_CF_items_12 : decode y_CF_items.2.2.1 12 = .ok (.invokespecial 109, 3) := mj_d (q := (12, .invokespecial 109, 3)) k_CF_items 6 rfl
theorem d_CF_items_15 : decode y_CF_items.2.2.1 15 = .ok (.athrow, 1) := mj_d (q := (15, .athrow, 1)) k_CF_items 7 rfl
theorem d_CF_items_16 : decode y_CF_items.2.2.1 16 = .ok (.aload_n 0, 1) := mj_d (q := (16, .aload_n 0, 1)) k_CF_items 8 rfl
theorem d_CF_items_17 : decode y_CF_items.2.2.1 17 = .ok (.getfield 28, 3) := mj_d (q := (17, .getfield 28, 3)) k_CF_items 9 rfl
theorem d_CF_items_20 : decode y_CF_items.2.2.1 20 = .ok (.getfield 92, 3) := mj_d (q := (20, .getfield 92, 3)) k_CF_items 10 rfl
theorem d_CF_items_23 : decode y_CF_items.2.2.1 23 = .ok (.iload_n 1, 1) := mj_d (q := (23, .iload_n 1, 1)) k_CF_items 11 rfl
theorem d_CF_items_24 : decode y_CF_items.2.2.1 24 = .ok (.iaload, 1) := mj_d (q := (24, .iaload, 1)) k_CF_items 12 rfl
theorem d_CF_items_25 : decode y_CF_items.2.2.1 25 = .ok (.ireturn, 1) := mj_d (q := (25, .ireturn, 1)) k_CF_items 13 rfl
theorem d_CF_isSet_0 : decode y_CF_isSet.2.2.1 0 = .ok (.iload_n 1, 1) := mj_d (q := (0, .iload_n 1, 1)) k_CF_isSet 0 rfl
theorem d_CF_isSet_1 : decode y_CF_isSet.2.2.1 1 = .ok (.ifCond .lt 18, 3) := mj_d (q := (1, .ifCond .lt 18, 3)) k_CF_isSet 1 rfl
theorem d_CF_isSet_4 : decode y_CF_isSet.2.2.1 4 = .ok (.iload_n 1, 1) := mj_d (q := (4, .iload_n 1, 1)) k_CF_isSet 2 rfl
theorem d_CF_isSet_5 : decode y_CF_isSet.2.2.1 5 = .ok (.aload_n 0, 1) := mj_d (q := (5, .aload_n 0, 1)) k_CF_isSet 3 rfl
theorem d_CF_isSet_6 : decode y_CF_isSet.2.2.1 6 = .ok (.getfield 19, 3) := mj_d (q := (6, .getfield 19, 3)) k_CF_isSet 4 rfl
theorem d_CF_isSet_9 : decode y_CF_isSet.2.2.1 9 = .ok (.getfield 59, 3) := mj_d (q := (9, .getfield 59, 3)) k_CF_isSet 5 rfl
theorem d_CF_isSet_12 : decode y_CF_isSet.2.2.1 12 = .ok (.if_icmp .gt 7, 3) := mj_d (q := (12, .if_icmp .gt 7, 3)) k_CF_isSet 6 rfl
theorem d_CF_isSet_15 : decode y_CF_isSet.2.2.1 15 = .ok (.iconst 1, 1) := mj_d (q := (15, .iconst 1, 1)) k_CF_isSet 7 rfl
theorem d_CF_isSet_16 : decode y_CF_isSet.2.2.1 16 = .ok (.goto 4, 3) := mj_d (q := (16, .goto 4, 3)) k_CF_isSet 8 rfl
theorem d_CF_isSet_19 : decode y_CF_isSet.2.2.1 19 = .ok (.iconst 0, 1) := mj_d (q := (19, .iconst 0, 1)) k_CF_isSet 9 rfl
theorem d_CF_isSet_20 : decode y_CF_isSet.2.2.1 20 = .ok (.ireturn, 1) := mj_d (q := (20, .ireturn, 1)) k_CF_isSet 10 rfl
theorem d_CF_has_0 : decode y_CF_has.2.2.1 0 = .ok (.aload_n 0, 1) := mj_d (q := (0, .aload_n 0, 1)) k_CF_has 0 rfl
theorem d_CF_has_1 : decode y_CF_has.2.2.1 1 = .ok (.iload_n 1, 1) := mj_d (q := (1, .iload_n 1, 1)) k_CF_has 1 rfl
theorem d_CF_has_2 : decode y_CF_has.2.2.1 2 = .ok (.invokevirtual 104, 3) := mj_d (q := (2, .invokevirtual 104, 3)) k_CF_has 2 rfl
theorem d_CF_has_5 : decode y_CF_has.2.2.1 5 = .ok (.ifCond .ne 11, 3) := mj_d (q := (5, .ifCond .ne 11, 3)) k_CF_has 3 rfl
theorem d_CF_has_8 : decode y_CF_has.2.2.1 8 = .ok (.new 107, 3) := mj_d (q := (8, .new 107, 3)) k_CF_has 4 rfl
theorem d_CF_has_11 : decode y_CF_has.2.2.1 11 = .ok (.dup, 1) := mj_d (q := (11, .dup, 1)) k_CF_has 5 rfl
theorem d_CF_has_12 : decode y_CF_has.2.2.1 12 = .ok (.invokespecial 109, 3) := mj_d (q := (12, .invokespecial 109, 3)) k_CF_has 6 rfl
theorem d_CF_has_15 : decode y_CF_has.2.2.1 15 = .ok (.athrow, 1) := mj_d (q := (15, .athrow, 1)) k_CF_has 7 rfl
theorem d_CF_has_16 : decode y_CF_has.2.2.1 16 = .ok (.iload_n 2, 1) := mj_d (q := (16, .iload_n 2, 1)) k_CF_has 8 rfl
theorem d_CF_has_17 : decode y_CF_has.2.2.1 17 = .ok (.iconst (-1), 1) := mj_d (q := (17, .iconst (-1), 1)) k_CF_has 9 rfl
theorem d_CF_has_18 : decode y_CF_has.2.2.1 18 = .ok (.if_icmp .lt 32, 3) := mj_d (q := (18, .if_icmp .lt 32, 3)) k_CF_has 10 rfl
theorem d_CF_has_21 : decode y_CF_has.2.2.1 21 = .ok (.iload_n 2, 1) := mj_d (q := (21, .iload_n 2, 1)) k_CF_has 11 rfl
theorem d_CF_has_22 : decode y_CF_has.2.2.1 22 = .ok (.aload_n 0, 1) := mj_d (q := (22, .aload_n 0, 1)) k_CF_has 12 rfl
theorem d_CF_has_23 : decode y_CF_has.2.2.1 23 = .ok (.getfield 12, 3) := mj_d (q := (23, .getfield 12, 3)) k_CF_has 13 rfl
theorem d_CF_has_26 : decode y_CF_has.2.2.1 26 = .ok (.getfield 55, 3) := mj_d (q := (26, .getfield 55, 3)) k_CF_has 14 rfl
theorem d_CF_has_29 : decode y_CF_has.2.2.1 29 = .ok (.if_icmp .ge 21, 3) := mj_d (q := (29, .if_icmp .ge 21, 3)) k_CF_has 15 rfl
theorem d_CF_has_32 : decode y_CF_has.2.2.1 32 = .ok (.iload_n 3, 1) := mj_d (q := (32, .iload_n 3, 1)) k_CF_has 16 rfl
theorem d_CF_has_33 : decode y_CF_has.2.2.1 33 = .ok (.ifCond .lt 17, 3) := mj_d (q := (33, .ifCond .lt 17, 3)) k_CF_has 17 rfl
theorem d_CF_has_36 : decode y_CF_has.2.2.1 36 = .ok (.iload_n 3, 1) := mj_d (q := (36, .iload_n 3, 1)) k_CF_has 18 rfl
theorem d_CF_has_37 : decode y_CF_has.2.2.1 37 = .ok (.iconst 4, 1) := mj_d (q := (37, .iconst 4, 1)) k_CF_has 19 rfl
theorem d_CF_has_38 : decode y_CF_has.2.2.1 38 = .ok (.if_icmp .ge 12, 3) := mj_d (q := (38, .if_icmp .ge 12, 3)) k_CF_has 20 rfl
theorem d_CF_has_41 : decode y_CF_has.2.2.1 41 = .ok (.aload_n 0, 1) := mj_d (q := (41, .aload_n 0, 1)) k_CF_has 21 rfl
theorem d_CF_has_42 : decode y_CF_has.2.2.1 42 = .ok (.iload 4, 2) := mj_d (q := (42, .iload 4, 2)) k_CF_has 22 rfl
theorem d_CF_has_44 : decode y_CF_has.2.2.1 44 = .ok (.invokevirtual 104, 3) := mj_d (q := (44, .invokevirtual 104, 3)) k_CF_has 23 rfl
theorem d_CF_has_47 : decode y_CF_has.2.2.1 47 = .ok (.ifCond .ne 5, 3) := mj_d (q := (47, .ifCond .ne 5, 3)) k_CF_has 24 rfl
theorem d_CF_has_50 : decode y_CF_has.2.2.1 50 = .ok (.iconst 0, 1) := mj_d (q := (50, .iconst 0, 1)) k_CF_has 25 rfl
theorem d_CF_has_51 : decode y_CF_has.2.2.1 51 = .ok (.ireturn, 1) := mj_d (q := (51, .ireturn, 1)) k_CF_has 26 rfl
theorem d_CF_has_52 : decode y_CF_has.2.2.1 52 = .ok (.aload_n 0, 1) := mj_d (q := (52, .aload_n 0, 1)) k_CF_has 27 rfl
theorem d_CF_has_53 : decode y_CF_has.2.2.1 53 = .ok (.getfield 28, 3) := mj_d (q := (53, .getfield 28, 3)) k_CF_has 28 rfl
theorem d_CF_has_56 : decode y_CF_has.2.2.1 56 = .ok (.iload_n 1, 1) := mj_d (q := (56, .iload_n 1, 1)) k_CF_has 29 rfl
theorem d_CF_has_57 : decode y_CF_has.2.2.1 57 = .ok (.iload_n 2, 1) := mj_d (q := (57, .iload_n 2, 1)) k_CF_has 30 rfl
theorem d_CF_has_58 : decode y_CF_has.2.2.1 58 = .ok (.iload_n 3, 1) := mj_d (q := (58, .iload_n 3, 1)) k_CF_has 31 rfl
theorem d_CF_has_59 : decode y_CF_has.2.2.1 59 = .ok (.invokestatic 96, 3) := mj_d (q := (59, .invokestatic 96, 3)) k_CF_has 32 rfl
theorem d_CF_has_62 : decode y_CF_has.2.2.1 62 = .ok (.iload 4, 2) := mj_d (q := (62, .iload 4, 2)) k_CF_has 33 rfl
theorem d_CF_has_64 : decode y_CF_has.2.2.1 64 = .ok (.invokevirtual 100, 3) := mj_d (q := (64, .invokevirtual 100, 3)) k_CF_has 34 rfl
theorem d_CF_has_67 : decode y_CF_has.2.2.1 67 = .ok (.ireturn, 1) := mj_d (q := (67, .ireturn, 1)) k_CF_has 35 rfl
theorem d_CF_leap_0 : decode y_CF_leap.2.2.1 0 = .ok (.aload_n 0, 1) := mj_d (q := (0, .aload_n 0, 1)) k_CF_leap 0 rfl
theorem d_CF_leap_1 : decode y_CF_leap.2.2.1 1 = .ok (.iload_n 1, 1) := mj_d (q := (1, .iload_n 1, 1)) k_CF_leap 1 rfl
theorem d_CF_leap_2 : decode y_CF_leap.2.2.1 2 = .ok (.invokevirtual 104, 3) := mj_d (q := (2, .invokevirtual 104, 3)) k_CF_leap 2 rfl
theorem d_CF_leap_5 : decode y_CF_leap.2.2.1 5 = .ok (.ifCond .eq 10, 3) := mj_d (q := (5, .ifCond .eq 10, 3)) k_CF_leap 3 rfl
theorem d_CF_leap_8 : decode y_CF_leap.2.2.1 8 = .ok (.iload_n 2, 1) := mj_d (q := (8, .iload_n 2, 1)) k_CF_leap 4 rfl
theorem d_CF_leap_9 : decode y_CF_leap.2.2.1 9 = .ok (.invokestatic 44, 3) := mj_d (q := (9, .invokestatic 44, 3)) k_CF_leap 5 rfl
theorem d_CF_leap_12 : decode y_CF_leap.2.2.1 12 = .ok (.ifCond .ne 11, 3) := mj_d (q := (12, .ifCond .ne 11, 3)) k_CF_leap 6 rfl
theorem d_CF_leap_15 : decode y_CF_leap.2.2.1 15 = .ok (.new 107, 3) := mj_d (q := (15, .new 107, 3)) k_CF_leap 7 rfl
theorem d_CF_leap_18 : decode y_CF_leap.2.2.1 18 = .ok (.dup, 1) := mj_d (q := (18, .dup, 1)) k_CF_leap 8 rfl
theorem d_CF_leap_19 : decode y_CF_leap.2.2.1 19 = .ok (.invokespecial 109, 3) := mj_d (q := (19, .invokespecial 109, 3)) k_CF_leap 9 rfl
theorem d_CF_leap_22 : decode y_CF_leap.2.2.1 22 = .ok (.athrow, 1) := mj_d (q := (22, .athrow, 1)) k_CF_leap 10 rfl
theorem d_CF_leap_23 : decode y_CF_leap.2.2.1 23 = .ok (.iload_n 1, 1) := mj_d (q := (23, .iload_n 1, 1)) k_CF_leap 11 rfl
theorem d_CF_leap_24 : decode y_CF_leap.2.2.1 24 = .ok (.aload_n 0, 1) := mj_d (q := (24, .aload_n 0, 1)) k_CF_leap 12 rfl
theorem d_CF_leap_25 : decode y_CF_leap.2.2.1 25 = .ok (.getfield 19, 3) := mj_d (q := (25, .getfield 19, 3)) k_CF_leap 13 rfl
theorem d_CF_leap_28 : decode y_CF_leap.2.2.1 28 = .ok (.getfield 59, 3) := mj_d (q := (28, .getfield 59, 3)) k_CF_leap 14 rfl
theorem d_CF_leap_31 : decode y_CF_leap.2.2.1 31 = .ok (.if_icmp .ne 5, 3) := mj_d (q := (31, .if_icmp .ne 5, 3)) k_CF_leap 15 rfl
theorem d_CF_leap_34 : decode y_CF_leap.2.2.1 34 = .ok (.iconst (-1), 1) := mj_d (q := (34, .iconst (-1), 1)) k_CF_leap 16 rfl
theorem d_CF_leap_35 : decode y_CF_leap.2.2.1 35 = .ok (.ireturn, 1) := mj_d (q := (35, .ireturn, 1)) k_CF_leap 17 rfl
theorem d_CF_leap_36 : decode y_CF_leap.2.2.1 36 = .ok (.aload_n 0, 1) := mj_d (q := (36, .aload_n 0, 1)) k_CF_leap 18 rfl
theorem d_CF_leap_37 : decode y_CF_leap.2.2.1 37 = .ok (.getfield 28, 3) := mj_d (q := (37, .getfield 28, 3)) k_CF_leap 19 rfl
theorem d_CF_leap_40 : decode y_CF_leap.2.2.1 40 = .ok (.iload_n 1, 1) := mj_d (q := (40, .iload_n 1, 1)) k_CF_leap 20 rfl
theorem d_CF_leap_41 : decode y_CF_leap.2.2.1 41 = .ok (.iload_n 2, 1) := mj_d (q := (41, .iload_n 2, 1)) k_CF_leap 21 rfl
theorem d_CF_leap_42 : decode y_CF_leap.2.2.1 42 = .ok (.invokevirtual 110, 3) := mj_d (q := (42, .invokevirtual 110, 3)) k_CF_leap 22 rfl
theorem d_CF_leap_45 : decode y_CF_leap.2.2.1 45 = .ok (.ireturn, 1) := mj_d (q := (45, .ireturn, 1)) k_CF_leap 23 rfl
theorem d_Ch_writtenLeap_0 : decode y_Ch_writtenLeap.2.2.1 0 = .ok (.aload_n 0, 1) := mj_d (q := (0, .aload_n 0, 1)) k_Ch_writtenLeap 0 rfl
theorem d_Ch_writtenLeap_1 : decode y_Ch_writtenLeap.2.2.1 1 = .ok (.getfield 20, 3) := mj_d (q := (1, .getfield 20, 3)) k_Ch_writtenLeap 1 rfl
theorem d_Ch_writtenLeap_4 : decode y_Ch_writtenLeap.2.2.1 4 = .ok (.iload_n 1, 1) := mj_d (q := (4, .iload_n 1, 1)) k_Ch_writtenLeap 2 rfl
theorem d_Ch_writtenLeap_5 : decode y_Ch_writtenLeap.2.2.1 5 = .ok (.aaload, 1) := mj_d (q := (5, .aaload, 1)) k_Ch_writtenLeap 3 rfl
theorem d_Ch_writtenLeap_6 : decode y_Ch_writtenLeap.2.2.1 6 = .ok (.iload_n 2, 1) := mj_d (q := (6, .iload_n 2, 1)) k_Ch_writtenLeap 4 rfl
theorem d_Ch_writtenLeap_7 : decode y_Ch_writtenLeap.2.2.1 7 = .ok (.iaload, 1) := mj_d (q := (7, .iaload, 1)) k_Ch_writtenLeap 5 rfl
theorem d_Ch_writtenLeap_8 : decode y_Ch_writtenLeap.2.2.1 8 = .ok (.istore_n 3, 1) := mj_d (q := (8, .istore_n 3, 1)) k_Ch_writtenLeap 6 rfl
theorem d_Ch_writtenLeap_9 : decode y_Ch_writtenLeap.2.2.1 9 = .ok (.iload_n 3, 1) := mj_d (q := (9, .iload_n 3, 1)) k_Ch_writtenLeap 7 rfl
theorem d_Ch_writtenLeap_10 : decode y_Ch_writtenLeap.2.2.1 10 = .ok (.iconst (-1), 1) := mj_d (q := (10, .iconst (-1), 1)) k_Ch_writtenLeap 8 rfl
theorem d_Ch_writtenLeap_11 : decode y_Ch_writtenLeap.2.2.1 11 = .ok (.if_icmp .ne 5, 3) := mj_d (q := (11, .if_icmp .ne 5, 3)) k_Ch_writtenLeap 9 rfl
theorem d_Ch_writtenLeap_14 : decode y_Ch_writtenLeap.2.2.1 14 = .ok (.iconst (-1), 1) := mj_d (q := (14, .iconst (-1), 1)) k_Ch_writtenLeap 10 rfl
theorem d_Ch_writtenLeap_15 : decode y_Ch_writtenLeap.2.2.1 15 = .ok (.ireturn, 1) := mj_d (q := (15, .ireturn, 1)) k_Ch_writtenLeap 11 rfl
theorem d_Ch_writtenLeap_16 : decode y_Ch_writtenLeap.2.2.1 16 = .ok (.iload_n 3, 1) := mj_d (q := (16, .iload_n 3, 1)) k_Ch_writtenLeap 12 rfl
theorem d_Ch_writtenLeap_17 : decode y_Ch_writtenLeap.2.2.1 17 = .ok (.bipush 13, 2) := mj_d (q := (17, .bipush 13, 2)) k_Ch_writtenLeap 13 rfl
theorem d_Ch_writtenLeap_19 : decode y_Ch_writtenLeap.2.2.1 19 = .ok (.idiv, 1) := mj_d (q := (19, .idiv, 1)) k_Ch_writtenLeap 14 rfl
theorem d_Ch_writtenLeap_20 : decode y_Ch_writtenLeap.2.2.1 20 = .ok (.istore 4, 2) := mj_d (q := (20, .istore 4, 2)) k_Ch_writtenLeap 15 rfl
theorem d_Ch_writtenLeap_22 : decode y_Ch_writtenLeap.2.2.1 22 = .ok (.sipush 1000, 3) := mj_d (q := (22, .sipush 1000, 3)) k_Ch_writtenLeap 16 rfl
theorem d_Ch_writtenLeap_25 : decode y_Ch_writtenLeap.2.2.1 25 = .ok (.iload 4, 2) := mj_d (q := (25, .iload 4, 2)) k_Ch_writtenLeap 17 rfl
theorem d_Ch_writtenLeap_27 : decode y_Ch_writtenLeap.2.2.1 27 = .ok (.iconst 4, 1) := mj_d (q := (27, .iconst 4, 1)) k_Ch_writtenLeap 18 rfl
theorem d_Ch_writtenLeap_28 : decode y_Ch_writtenLeap.2.2.1 28 = .ok (.idiv, 1) := mj_d (q := (28, .idiv, 1)) k_Ch_writtenLeap 19 rfl
theorem d_Ch_writtenLeap_29 : decode y_Ch_writtenLeap.2.2.1 29 = .ok (.imul, 1) := mj_d (q := (29, .imul, 1)) k_Ch_writtenLeap 20 rfl
theorem d_Ch_writtenLeap_30 : decode y_Ch_writtenLeap.2.2.1 30 = .ok (.bipush 100, 2) := mj_d (q := (30, .bipush 100, 2)) k_Ch_writtenLeap 21 rfl
theorem d_Ch_writtenLeap_32 : decode y_Ch_writtenLeap.2.2.1 32 = .ok (.iload 4, 2) := mj_d (q := (32, .iload 4, 2)) k_Ch_writtenLeap 22 rfl
theorem d_Ch_writtenLeap_34 : decode y_Ch_writtenLeap.2.2.1 34 = .ok (.iconst 4, 1) := mj_d (q := (34, .iconst 4, 1)) k_Ch_writtenLeap 23 rfl
theorem d_Ch_writtenLeap_35 : decode y_Ch_writtenLeap.2.2.1 35 = .ok (.irem, 1) := mj_d (q := (35, .irem, 1)) k_Ch_writtenLeap 24 rfl
theorem d_Ch_writtenLeap_36 : decode y_Ch_writtenLeap.2.2.1 36 = .ok (.imul, 1) := mj_d (q := (36, .imul, 1)) k_Ch_writtenLeap 25 rfl
theorem d_Ch_writtenLeap_37 : decode y_Ch_writtenLeap.2.2.1 37 = .ok (.iadd, 1) := mj_d (q := (37, .iadd, 1)) k_Ch_writtenLeap 26 rfl
theorem d_Ch_writtenLeap_38 : decode y_Ch_writtenLeap.2.2.1 38 = .ok (.iload_n 3, 1) := mj_d (q := (38, .iload_n 3, 1)) k_Ch_writtenLeap 27 rfl
theorem d_Ch_writtenLeap_39 : decode y_Ch_writtenLeap.2.2.1 39 = .ok (.bipush 13, 2) := mj_d (q := (39, .bipush 13, 2)) k_Ch_writtenLeap 28 rfl
theorem d_Ch_writtenLeap_41 : decode y_Ch_writtenLeap.2.2.1 41 = .ok (.irem, 1) := mj_d (q := (41, .irem, 1)) k_Ch_writtenLeap 29 rfl
theorem d_Ch_writtenLeap_42 : decode y_Ch_writtenLeap.2.2.1 42 = .ok (.iadd, 1) := mj_d (q := (42, .iadd, 1)) k_Ch_writtenLeap 30 rfl
theorem d_Ch_writtenLeap_43 : decode y_Ch_writtenLeap.2.2.1 43 = .ok (.ireturn, 1) := mj_d (q := (43, .ireturn, 1)) k_Ch_writtenLeap 31 rfl
theorem d_CF_ways_0 : decode y_CF_ways.2.2.1 0 = .ok (.iload_n 1, 1) := mj_d (q := (0, .iload_n 1, 1)) k_CF_ways 0 rfl
theorem d_CF_ways_1 : decode y_CF_ways.2.2.1 1 = .ok (.invokestatic 44, 3) := mj_d (q := (1, .invokestatic 44, 3)) k_CF_ways 1 rfl
theorem d_CF_ways_4 : decode y_CF_ways.2.2.1 4 = .ok (.ifCond .eq 12, 3) := mj_d (q := (4, .ifCond .eq 12, 3)) k_CF_ways 2 rfl
theorem d_CF_ways_7 : decode y_CF_ways.2.2.1 7 = .ok (.aload_n 0, 1) := mj_d (q := (7, .aload_n 0, 1)) k_CF_ways 3 rfl
theorem d_CF_ways_8 : decode y_CF_ways.2.2.1 8 = .ok (.iload_n 2, 1) := mj_d (q := (8, .iload_n 2, 1)) k_CF_ways 4 rfl
theorem d_CF_ways_9 : decode y_CF_ways.2.2.1 9 = .ok (.iload_n 3, 1) := mj_d (q := (9, .iload_n 3, 1)) k_CF_ways 5 rfl
theorem d_CF_ways_10 : decode y_CF_ways.2.2.1 10 = .ok (.invokevirtual 113, 3) := mj_d (q := (10, .invokevirtual 113, 3)) k_CF_ways 6 rfl
theorem d_CF_ways_13 : decode y_CF_ways.2.2.1 13 = .ok (.ifCond .ne 11, 3) := mj_d (q := (13, .ifCond .ne 11, 3)) k_CF_ways 7 rfl
theorem d_CF_ways_16 : decode y_CF_ways.2.2.1 16 = .ok (.new 107, 3) := mj_d (q := (16, .new 107, 3)) k_CF_ways 8 rfl
theorem d_CF_ways_19 : decode y_CF_ways.2.2.1 19 = .ok (.dup, 1) := mj_d (q := (19, .dup, 1)) k_CF_ways 9 rfl
theorem d_CF_ways_20 : decode y_CF_ways.2.2.1 20 = .ok (.invokespecial 109, 3) := mj_d (q := (20, .invokespecial 109, 3)) k_CF_ways 10 rfl
theorem d_CF_ways_23 : decode y_CF_ways.2.2.1 23 = .ok (.athrow, 1) := mj_d (q := (23, .athrow, 1)) k_CF_ways 11 rfl
theorem d_CF_ways_24 : decode y_CF_ways.2.2.1 24 = .ok (.aload_n 0, 1) := mj_d (q := (24, .aload_n 0, 1)) k_CF_ways 12 rfl
theorem d_CF_ways_25 : decode y_CF_ways.2.2.1 25 = .ok (.getfield 37, 3) := mj_d (q := (25, .getfield 37, 3)) k_CF_ways 13 rfl
theorem d_CF_ways_28 : decode y_CF_ways.2.2.1 28 = .ok (.invokevirtual 116, 3) := mj_d (q := (28, .invokevirtual 116, 3)) k_CF_ways 14 rfl
theorem d_CF_ways_31 : decode y_CF_ways.2.2.1 31 = .ok (.aload_n 0, 1) := mj_d (q := (31, .aload_n 0, 1)) k_CF_ways 15 rfl
theorem d_CF_ways_32 : decode y_CF_ways.2.2.1 32 = .ok (.getfield 37, 3) := mj_d (q := (32, .getfield 37, 3)) k_CF_ways 16 rfl
theorem d_CF_ways_35 : decode y_CF_ways.2.2.1 35 = .ok (.iload_n 1, 1) := mj_d (q := (35, .iload_n 1, 1)) k_CF_ways 17 rfl
theorem d_CF_ways_36 : decode y_CF_ways.2.2.1 36 = .ok (.iload_n 2, 1) := mj_d (q := (36, .iload_n 2, 1)) k_CF_ways 18 rfl
theorem d_CF_ways_37 : decode y_CF_ways.2.2.1 37 = .ok (.iload_n 3, 1) := mj_d (q := (37, .iload_n 3, 1)) k_CF_ways 19 rfl
theorem d_CF_ways_38 : decode y_CF_ways.2.2.1 38 = .ok (.invokevirtual 119, 3) := mj_d (q := (38, .invokevirtual 119, 3)) k_CF_ways 20 rfl
theorem d_CF_ways_41 : decode y_CF_ways.2.2.1 41 = .ok (.ireturn, 1) := mj_d (q := (41, .ireturn, 1)) k_CF_ways 21 rfl
theorem d_CF_isStretch_0 : decode y_CF_isStretch.2.2.1 0 = .ok (.iload_n 1, 1) := mj_d (q := (0, .iload_n 1, 1)) k_CF_isStretch 0 rfl
theorem d_CF_isStretch_1 : decode y_CF_isStretch.2.2.1 1 = .ok (.ifCond .lt 23, 3) := mj_d (q := (1, .ifCond .lt 23, 3)) k_CF_isStretch 1 rfl
theorem d_CF_isStretch_4 : decode y_CF_isStretch.2.2.1 4 = .ok (.iload_n 1, 1) := mj_d (q := (4, .iload_n 1, 1)) k_CF_isStretch 2 rfl
theorem d_CF_isStretch_5 : decode y_CF_isStretch.2.2.1 5 = .ok (.iload_n 2, 1) := mj_d (q := (5, .iload_n 2, 1)) k_CF_isStretch 3 rfl
theorem d_CF_isStretch_6 : decode y_CF_isStretch.2.2.1 6 = .ok (.if_icmp .gt 18, 3) := mj_d (q := (6, .if_icmp .gt 18, 3)) k_CF_isStretch 4 rfl
theorem d_CF_isStretch_9 : decode y_CF_isStretch.2.2.1 9 = .ok (.iload_n 2, 1) := mj_d (q := (9, .iload_n 2, 1)) k_CF_isStretch 5 rfl
theorem d_CF_isStretch_10 : decode y_CF_isStretch.2.2.1 10 = .ok (.aload_n 0, 1) := mj_d (q := (10, .aload_n 0, 1)) k_CF_isStretch 6 rfl
theorem d_CF_isStretch_11 : decode y_CF_isStretch.2.2.1 11 = .ok (.getfield 19, 3) := mj_d (q := (11, .getfield 19, 3)) k_CF_isStretch 7 rfl
theorem d_CF_isStretch_14 : decode y_CF_isStretch.2.2.1 14 = .ok (.getfield 59, 3) := mj_d (q := (14, .getfield 59, 3)) k_CF_isStretch 8 rfl
theorem d_CF_isStretch_17 : decode y_CF_isStretch.2.2.1 17 = .ok (.if_icmp .gt 7, 3) := mj_d (q := (17, .if_icmp .gt 7, 3)) k_CF_isStretch 9 rfl
theorem d_CF_isStretch_20 : decode y_CF_isStretch.2.2.1 20 = .ok (.iconst 1, 1) := mj_d (q := (20, .iconst 1, 1)) k_CF_isStretch 10 rfl
theorem d_CF_isStretch_21 : decode y_CF_isStretch.2.2.1 21 = .ok (.goto 4, 3) := mj_d (q := (21, .goto 4, 3)) k_CF_isStretch 11 rfl
theorem d_CF_isStretch_24 : decode y_CF_isStretch.2.2.1 24 = .ok (.iconst 0, 1) := mj_d (q := (24, .iconst 0, 1)) k_CF_isStretch 12 rfl
theorem d_CF_isStretch_25 : decode y_CF_isStretch.2.2.1 25 = .ok (.ireturn, 1) := mj_d (q := (25, .ireturn, 1)) k_CF_isStretch 13 rfl
theorem d_Fo_waysOver_0 : decode y_Fo_waysOver.2.2.1 0 = .ok (.aload_n 0, 1) := mj_d (q := (0, .aload_n 0, 1)) k_Fo_waysOver 0 rfl
theorem d_Fo_waysOver_1 : decode y_Fo_waysOver.2.2.1 1 = .ok (.getfield 41, 3) := mj_d (q := (1, .getfield 41, 3)) k_Fo_waysOver 1 rfl
theorem d_Fo_waysOver_4 : decode y_Fo_waysOver.2.2.1 4 = .ok (.iload_n 1, 1) := mj_d (q := (4, .iload_n 1, 1)) k_Fo_waysOver 2 rfl
theorem d_Fo_waysOver_5 : decode y_Fo_waysOver.2.2.1 5 = .ok (.iload_n 2, 1) := mj_d (q := (5, .iload_n 2, 1)) k_Fo_waysOver 3 rfl
theorem d_Fo_waysOver_6 : decode y_Fo_waysOver.2.2.1 6 = .ok (.iload_n 3, 1) := mj_d (q := (6, .iload_n 3, 1)) k_Fo_waysOver 4 rfl
theorem d_Fo_waysOver_7 : decode y_Fo_waysOver.2.2.1 7 = .ok (.invokevirtual 67, 3) := mj_d (q := (7, .invokevirtual 67, 3)) k_Fo_waysOver 5 rfl
theorem d_Fo_waysOver_10 : decode y_Fo_waysOver.2.2.1 10 = .ok (.aload_n 0, 1) := mj_d (q := (10, .aload_n 0, 1)) k_Fo_waysOver 6 rfl
theorem d_Fo_waysOver_11 : decode y_Fo_waysOver.2.2.1 11 = .ok (.getfield 41, 3) := mj_d (q := (11, .getfield 41, 3)) k_Fo_waysOver 7 rfl
theorem d_Fo_waysOver_14 : decode y_Fo_waysOver.2.2.1 14 = .ok (.getfield 71, 3) := mj_d (q := (14, .getfield 71, 3)) k_Fo_waysOver 8 rfl
theorem d_Fo_waysOver_17 : decode y_Fo_waysOver.2.2.1 17 = .ok (.ireturn, 1) := mj_d (q := (17, .ireturn, 1)) k_Fo_waysOver 9 rfl
theorem d_CF_trees_0 : decode y_CF_trees.2.2.1 0 = .ok (.iload_n 1, 1) := mj_d (q := (0, .iload_n 1, 1)) k_CF_trees 0 rfl
theorem d_CF_trees_1 : decode y_CF_trees.2.2.1 1 = .ok (.invokestatic 44, 3) := mj_d (q := (1, .invokestatic 44, 3)) k_CF_trees 1 rfl
theorem d_CF_trees_4 : decode y_CF_trees.2.2.1 4 = .ok (.ifCond .eq 12, 3) := mj_d (q := (4, .ifCond .eq 12, 3)) k_CF_trees 2 rfl
theorem d_CF_trees_7 : decode y_CF_trees.2.2.1 7 = .ok (.aload_n 0, 1) := mj_d (q := (7, .aload_n 0, 1)) k_CF_trees 3 rfl
theorem d_CF_trees_8 : decode y_CF_trees.2.2.1 8 = .ok (.iload_n 2, 1) := mj_d (q := (8, .iload_n 2, 1)) k_CF_trees 4 rfl
theorem d_CF_trees_9 : decode y_CF_trees.2.2.1 9 = .ok (.iload_n 3, 1) := mj_d (q := (9, .iload_n 3, 1)) k_CF_trees 5 rfl
theorem d_CF_trees_10 : decode y_CF_trees.2.2.1 10 = .ok (.invokevirtual 113, 3) := mj_d (q := (10, .invokevirtual 113, 3)) k_CF_trees 6 rfl
theorem d_CF_trees_13 : decode y_CF_trees.2.2.1 13 = .ok (.ifCond .ne 11, 3) := mj_d (q := (13, .ifCond .ne 11, 3)) k_CF_trees 7 rfl
theorem d_CF_trees_16 : decode y_CF_trees.2.2.1 16 = .ok (.new 107, 3) := mj_d (q := (16, .new 107, 3)) k_CF_trees 8 rfl
theorem d_CF_trees_19 : decode y_CF_trees.2.2.1 19 = .ok (.dup, 1) := mj_d (q := (19, .dup, 1)) k_CF_trees 9 rfl
theorem d_CF_trees_20 : decode y_CF_trees.2.2.1 20 = .ok (.invokespecial 109, 3) := mj_d (q := (20, .invokespecial 109, 3)) k_CF_trees 10 rfl
theorem d_CF_trees_23 : decode y_CF_trees.2.2.1 23 = .ok (.athrow, 1) := mj_d (q := (23, .athrow, 1)) k_CF_trees 11 rfl
theorem d_CF_trees_24 : decode y_CF_trees.2.2.1 24 = .ok (.aload_n 0, 1) := mj_d (q := (24, .aload_n 0, 1)) k_CF_trees 12 rfl
theorem d_CF_trees_25 : decode y_CF_trees.2.2.1 25 = .ok (.getfield 37, 3) := mj_d (q := (25, .getfield 37, 3)) k_CF_trees 13 rfl
theorem d_CF_trees_28 : decode y_CF_trees.2.2.1 28 = .ok (.invokevirtual 116, 3) := mj_d (q := (28, .invokevirtual 116, 3)) k_CF_trees 14 rfl
theorem d_CF_trees_31 : decode y_CF_trees.2.2.1 31 = .ok (.aload_n 0, 1) := mj_d (q := (31, .aload_n 0, 1)) k_CF_trees 15 rfl
theorem d_CF_trees_32 : decode y_CF_trees.2.2.1 32 = .ok (.getfield 37, 3) := mj_d (q := (32, .getfield 37, 3)) k_CF_trees 16 rfl
theorem d_CF_trees_35 : decode y_CF_trees.2.2.1 35 = .ok (.iload_n 1, 1) := mj_d (q := (35, .iload_n 1, 1)) k_CF_trees 17 rfl
theorem d_CF_trees_36 : decode y_CF_trees.2.2.1 36 = .ok (.iload_n 2, 1) := mj_d (q := (36, .iload_n 2, 1)) k_CF_trees 18 rfl
theorem d_CF_trees_37 : decode y_CF_trees.2.2.1 37 = .ok (.iload_n 3, 1) := mj_d (q := (37, .iload_n 3, 1)) k_CF_trees 19 rfl
theorem d_CF_trees_38 : decode y_CF_trees.2.2.1 38 = .ok (.invokevirtual 123, 3) := mj_d (q := (38, .invokevirtual 123, 3)) k_CF_trees 20 rfl
theorem d_CF_trees_41 : decode y_CF_trees.2.2.1 41 = .ok (.lreturn, 1) := mj_d (q := (41, .lreturn, 1)) k_CF_trees 21 rfl
theorem d_CF_tree_0 : decode y_CF_tree.2.2.1 0 = .ok (.aload_n 0, 1) := mj_d (q := (0, .aload_n 0, 1)) k_CF_tree 0 rfl
theorem d_CF_tree_1 : decode y_CF_tree.2.2.1 1 = .ok (.getfield 37, 3) := mj_d (q := (1, .getfield 37, 3)) k_CF_tree 1 rfl
theorem d_CF_tree_4 : decode y_CF_tree.2.2.1 4 = .ok (.invokevirtual 116, 3) := mj_d (q := (4, .invokevirtual 116, 3)) k_CF_tree 2 rfl
theorem d_CF_tree_7 : decode y_CF_tree.2.2.1 7 = .ok (.aload_n 0, 1) := mj_d (q := (7, .aload_n 0, 1)) k_CF_tree 3 rfl
theorem d_CF_tree_8 : decode y_CF_tree.2.2.1 8 = .ok (.getfield 37, 3) := mj_d (q := (8, .getfield 37, 3)) k_CF_tree 4 rfl
theorem d_CF_tree_11 : decode y_CF_tree.2.2.1 11 = .ok (.iconst 0, 1) := mj_d (q := (11, .iconst 0, 1)) k_CF_tree 5 rfl
theorem d_CF_tree_12 : decode y_CF_tree.2.2.1 12 = .ok (.iconst 0, 1) := mj_d (q := (12, .iconst 0, 1)) k_CF_tree 6 rfl
theorem d_CF_tree_13 : decode y_CF_tree.2.2.1 13 = .ok (.aload_n 0, 1) := mj_d (q := (13, .aload_n 0, 1)) k_CF_tree 7 rfl
theorem d_CF_tree_14 : decode y_CF_tree.2.2.1 14 = .ok (.getfield 19, 3) := mj_d (q := (14, .getfield 19, 3)) k_CF_tree 8 rfl
theorem d_CF_tree_17 : decode y_CF_tree.2.2.1 17 = .ok (.getfield 59, 3) := mj_d (q := (17, .getfield 59, 3)) k_CF_tree 9 rfl
theorem d_CF_tree_20 : decode y_CF_tree.2.2.1 20 = .ok (.invokevirtual 123, 3) := mj_d (q := (20, .invokevirtual 123, 3)) k_CF_tree 10 rfl
theorem d_CF_tree_23 : decode y_CF_tree.2.2.1 23 = .ok (.lstore 4, 2) := mj_d (q := (23, .lstore 4, 2)) k_CF_tree 11 rfl
theorem d_CF_tree_25 : decode y_CF_tree.2.2.1 25 = .ok (.lload 4, 2) := mj_d (q := (25, .lload 4, 2)) k_CF_tree 12 rfl
theorem d_CF_tree_27 : decode y_CF_tree.2.2.1 27 = .ok (.ldc2_w 131, 3) := mj_d (q := (27, .ldc2_w 131, 3)) k_CF_tree 13 rfl
theorem d_CF_tree_30 : decode y_CF_tree.2.2.1 30 = .ok (.lcmp, 1) := mj_d (q := (30, .lcmp, 1)) k_CF_tree 14 rfl
theorem d_CF_tree_31 : decode y_CF_tree.2.2.1 31 = .ok (.ifCond .ge 20, 3) := mj_d (q := (31, .ifCond .ge 20, 3)) k_CF_tree 15 rfl
theorem d_CF_tree_34 : decode y_CF_tree.2.2.1 34 = .ok (.lload_n 1, 1) := mj_d (q := (34, .lload_n 1, 1)) k_CF_tree 16 rfl
theorem d_CF_tree_35 : decode y_CF_tree.2.2.1 35 = .ok (.lconst 0, 1) := mj_d (q := (35, .lconst 0, 1)) k_CF_tree 17 rfl
theorem d_CF_tree_36 : decode y_CF_tree.2.2.1 36 = .ok (.lcmp, 1) := mj_d (q := (36, .lcmp, 1)) k_CF_tree 18 rfl
theorem d_CF_tree_37 : decode y_CF_tree.2.2.1 37 = .ok (.ifCond .lt 14, 3) := mj_d (q := (37, .ifCond .lt 14, 3)) k_CF_tree 19 rfl
theorem d_CF_tree_40 : decode y_CF_tree.2.2.1 40 = .ok (.lload_n 1, 1) := mj_d (q := (40, .lload_n 1, 1)) k_CF_tree 20 rfl
theorem d_CF_tree_41 : decode y_CF_tree.2.2.1 41 = .ok (.lload 4, 2) := mj_d (q := (41, .lload 4, 2)) k_CF_tree 21 rfl
theorem d_CF_tree_43 : decode y_CF_tree.2.2.1 43 = .ok (.lcmp, 1) := mj_d (q := (43, .lcmp, 1)) k_CF_tree 22 rfl
theorem d_CF_tree_44 : decode y_CF_tree.2.2.1 44 = .ok (.ifCond .ge 7, 3) := mj_d (q := (44, .ifCond .ge 7, 3)) k_CF_tree 23 rfl
theorem d_CF_tree_47 : decode y_CF_tree.2.2.1 47 = .ok (.iload_n 3, 1) := mj_d (q := (47, .iload_n 3, 1)) k_CF_tree 24 rfl
theorem d_CF_tree_48 : decode y_CF_tree.2.2.1 48 = .ok (.ifCond .ge 11, 3) := mj_d (q := (48, .ifCond .ge 11, 3)) k_CF_tree 25 rfl
theorem d_CF_tree_51 : decode y_CF_tree.2.2.1 51 = .ok (.new 83, 3) := mj_d (q := (51, .new 83, 3)) k_CF_tree 26 rfl
theorem d_CF_tree_54 : decode y_CF_tree.2.2.1 54 = .ok (.dup, 1) := mj_d (q := (54, .dup, 1)) k_CF_tree 27 rfl
theorem d_CF_tree_55 : decode y_CF_tree.2.2.1 55 = .ok (.invokespecial 85, 3) := mj_d (q := (55, .invokespecial 85, 3)) k_CF_tree 28 rfl
theorem d_CF_tree_58 : decode y_CF_tree.2.2.1 58 = .ok (.athrow, 1) := mj_d (q := (58, .athrow, 1)) k_CF_tree 29 rfl
theorem d_CF_tree_59 : decode y_CF_tree.2.2.1 59 = .ok (.aload_n 0, 1) := mj_d (q := (59, .aload_n 0, 1)) k_CF_tree 30 rfl
theorem d_CF_tree_60 : decode y_CF_tree.2.2.1 60 = .ok (.getfield 37, 3) := mj_d (q := (60, .getfield 37, 3)) k_CF_tree 31 rfl
theorem d_CF_tree_63 : decode y_CF_tree.2.2.1 63 = .ok (.lload_n 1, 1) := mj_d (q := (63, .lload_n 1, 1)) k_CF_tree 32 rfl
theorem d_CF_tree_64 : decode y_CF_tree.2.2.1 64 = .ok (.iload_n 3, 1) := mj_d (q := (64, .iload_n 3, 1)) k_CF_tree 33 rfl
theorem d_CF_tree_65 : decode y_CF_tree.2.2.1 65 = .ok (.invokevirtual 133, 3) := mj_d (q := (65, .invokevirtual 133, 3)) k_CF_tree 34 rfl
theorem d_CF_tree_68 : decode y_CF_tree.2.2.1 68 = .ok (.istore 6, 2) := mj_d (q := (68, .istore 6, 2)) k_CF_tree 35 rfl
theorem d_CF_tree_70 : decode y_CF_tree.2.2.1 70 = .ok (.iload 6, 2) := mj_d (q := (70, .iload 6, 2)) k_CF_tree 36 rfl
theorem d_CF_tree_72 : decode y_CF_tree.2.2.1 72 = .ok (.iconst (-1), 1) := mj_d (q := (72, .iconst (-1), 1)) k_CF_tree 37 rfl
theorem d_CF_tree_73 : decode y_CF_tree.2.2.1 73 = .ok (.if_icmp .ne 11, 3) := mj_d (q := (73, .if_icmp .ne 11, 3)) k_CF_tree 38 rfl
theorem d_CF_tree_76 : decode y_CF_tree.2.2.1 76 = .ok (.new 83, 3) := mj_d (q := (76, .new 83, 3)) k_CF_tree 39 rfl
theorem d_CF_tree_79 : decode y_CF_tree.2.2.1 79 = .ok (.dup, 1) := mj_d (q := (79, .dup, 1)) k_CF_tree 40 rfl
theorem d_CF_tree_80 : decode y_CF_tree.2.2.1 80 = .ok (.invokespecial 85, 3) := mj_d (q := (80, .invokespecial 85, 3)) k_CF_tree 41 rfl
theorem d_CF_tree_83 : decode y_CF_tree.2.2.1 83 = .ok (.athrow, 1) := mj_d (q := (83, .athrow, 1)) k_CF_tree 42 rfl
theorem d_CF_tree_84 : decode y_CF_tree.2.2.1 84 = .ok (.iload 6, 2) := mj_d (q := (84, .iload 6, 2)) k_CF_tree 43 rfl
theorem d_CF_tree_86 : decode y_CF_tree.2.2.1 86 = .ok (.ireturn, 1) := mj_d (q := (86, .ireturn, 1)) k_CF_tree 44 rfl
theorem d_Fo_ruleAt_0 : decode y_Fo_ruleAt.2.2.1 0 = .ok (.aload_n 0, 1) := mj_d (q := (0, .aload_n 0, 1)) k_Fo_ruleAt 0 rfl
theorem d_Fo_ruleAt_1 : decode y_Fo_ruleAt.2.2.1 1 = .ok (.iconst 0, 1) := mj_d (q := (1, .iconst 0, 1)) k_Fo_ruleAt 1 rfl
theorem d_Fo_ruleAt_2 : decode y_Fo_ruleAt.2.2.1 2 = .ok (.putfield 91, 3) := mj_d (q := (2, .putfield 91, 3)) k_Fo_ruleAt 2 rfl
theorem d_Fo_ruleAt_5 : decode y_Fo_ruleAt.2.2.1 5 = .ok (.aload_n 0, 1) := mj_d (q := (5, .aload_n 0, 1)) k_Fo_ruleAt 3 rfl
theorem d_Fo_ruleAt_6 : decode y_Fo_ruleAt.2.2.1 6 = .ok (.iconst 0, 1) := mj_d (q := (6, .iconst 0, 1)) k_Fo_ruleAt 4 rfl
theorem d_Fo_ruleAt_7 : decode y_Fo_ruleAt.2.2.1 7 = .ok (.iconst 0, 1) := mj_d (q := (7, .iconst 0, 1)) k_Fo_ruleAt 5 rfl
theorem d_Fo_ruleAt_8 : decode y_Fo_ruleAt.2.2.1 8 = .ok (.aload_n 0, 1) := mj_d (q := (8, .aload_n 0, 1)) k_Fo_ruleAt 6 rfl
theorem d_Fo_ruleAt_9 : decode y_Fo_ruleAt.2.2.1 9 = .ok (.getfield 23, 3) := mj_d (q := (9, .getfield 23, 3)) k_Fo_ruleAt 7 rfl
theorem d_Fo_ruleAt_12 : decode y_Fo_ruleAt.2.2.1 12 = .ok (.getfield 55, 3) := mj_d (q := (12, .getfield 55, 3)) k_Fo_ruleAt 8 rfl
theorem d_Fo_ruleAt_15 : decode y_Fo_ruleAt.2.2.1 15 = .ok (.invokestatic 81, 3) := mj_d (q := (15, .invokestatic 81, 3)) k_Fo_ruleAt 9 rfl
theorem d_Fo_ruleAt_18 : decode y_Fo_ruleAt.2.2.1 18 = .ok (.lload_n 1, 1) := mj_d (q := (18, .lload_n 1, 1)) k_Fo_ruleAt 10 rfl
theorem d_Fo_ruleAt_19 : decode y_Fo_ruleAt.2.2.1 19 = .ok (.invokevirtual 120, 3) := mj_d (q := (19, .invokevirtual 120, 3)) k_Fo_ruleAt 11 rfl
theorem d_Fo_ruleAt_22 : decode y_Fo_ruleAt.2.2.1 22 = .ok (.iconst 0, 1) := mj_d (q := (22, .iconst 0, 1)) k_Fo_ruleAt 12 rfl
theorem d_Fo_ruleAt_23 : decode y_Fo_ruleAt.2.2.1 23 = .ok (.istore 4, 2) := mj_d (q := (23, .istore 4, 2)) k_Fo_ruleAt 13 rfl
theorem d_Fo_ruleAt_25 : decode y_Fo_ruleAt.2.2.1 25 = .ok (.iload 4, 2) := mj_d (q := (25, .iload 4, 2)) k_Fo_ruleAt 14 rfl
theorem d_Fo_ruleAt_27 : decode y_Fo_ruleAt.2.2.1 27 = .ok (.ldc 124, 2) := mj_d (q := (27, .ldc 124, 2)) k_Fo_ruleAt 15 rfl
theorem d_Fo_ruleAt_29 : decode y_Fo_ruleAt.2.2.1 29 = .ok (.if_icmp .ge 129, 3) := mj_d (q := (29, .if_icmp .ge 129, 3)) k_Fo_ruleAt 16 rfl
theorem d_Fo_ruleAt_32 : decode y_Fo_ruleAt.2.2.1 32 = .ok (.aload_n 0, 1) := mj_d (q := (32, .aload_n 0, 1)) k_Fo_ruleAt 17 rfl
theorem d_Fo_ruleAt_33 : decode y_Fo_ruleAt.2.2.1 33 = .ok (.getfield 91, 3) := mj_d (q := (33, .getfield 91, 3)) k_Fo_ruleAt 18 rfl
theorem d_Fo_ruleAt_36 : decode y_Fo_ruleAt.2.2.1 36 = .ok (.ifCond .le 122, 3) := mj_d (q := (36, .ifCond .le 122, 3)) k_Fo_ruleAt 19 rfl
theorem d_Fo_ruleAt_39 : decode y_Fo_ruleAt.2.2.1 39 = .ok (.aload_n 0, 1) := mj_d (q := (39, .aload_n 0, 1)) k_Fo_ruleAt 20 rfl
theorem d_Fo_ruleAt_40 : decode y_Fo_ruleAt.2.2.1 40 = .ok (.dup, 1) := mj_d (q := (40, .dup, 1)) k_Fo_ruleAt 21 rfl
theorem d_Fo_ruleAt_41 : decode y_Fo_ruleAt.2.2.1 41 = .ok (.getfield 91, 3) := mj_d (q := (41, .getfield 91, 3)) k_Fo_ruleAt 22 rfl
theorem d_Fo_ruleAt_44 : decode y_Fo_ruleAt.2.2.1 44 = .ok (.iconst 1, 1) := mj_d (q := (44, .iconst 1, 1)) k_Fo_ruleAt 23 rfl
theorem d_Fo_ruleAt_45 : decode y_Fo_ruleAt.2.2.1 45 = .ok (.isub, 1) := mj_d (q := (45, .isub, 1)) k_Fo_ruleAt 24 rfl
theorem d_Fo_ruleAt_46 : decode y_Fo_ruleAt.2.2.1 46 = .ok (.putfield 91, 3) := mj_d (q := (46, .putfield 91, 3)) k_Fo_ruleAt 25 rfl
theorem d_Fo_ruleAt_49 : decode y_Fo_ruleAt.2.2.1 49 = .ok (.aload_n 0, 1) := mj_d (q := (49, .aload_n 0, 1)) k_Fo_ruleAt 26 rfl
theorem d_Fo_ruleAt_50 : decode y_Fo_ruleAt.2.2.1 50 = .ok (.getfield 19, 3) := mj_d (q := (50, .getfield 19, 3)) k_Fo_ruleAt 27 rfl
theorem d_Fo_ruleAt_53 : decode y_Fo_ruleAt.2.2.1 53 = .ok (.aload_n 0, 1) := mj_d (q := (53, .aload_n 0, 1)) k_Fo_ruleAt 28 rfl
theorem d_Fo_ruleAt_54 : decode y_Fo_ruleAt.2.2.1 54 = .ok (.getfield 91, 3) := mj_d (q := (54, .getfield 91, 3)) k_Fo_ruleAt 29 rfl
theorem d_Fo_ruleAt_57 : decode y_Fo_ruleAt.2.2.1 57 = .ok (.laload, 1) := mj_d (q := (57, .laload, 1)) k_Fo_ruleAt 30 rfl
theorem d_Fo_ruleAt_58 : decode y_Fo_ruleAt.2.2.1 58 = .ok (.lstore 5, 2) := mj_d (q := (58, .lstore 5, 2)) k_Fo_ruleAt 31 rfl
theorem d_Fo_ruleAt_60 : decode y_Fo_ruleAt.2.2.1 60 = .ok (.aload_n 0, 1) := mj_d (q := (60, .aload_n 0, 1)) k_Fo_ruleAt 32 rfl
theorem d_Fo_ruleAt_61 : decode y_Fo_ruleAt.2.2.1 61 = .ok (.aload_n 0, 1) := mj_d (q := (61, .aload_n 0, 1)) k_Fo_ruleAt 33 rfl
theorem d_Fo_ruleAt_62 : decode y_Fo_ruleAt.2.2.1 62 = .ok (.getfield 9, 3) := mj_d (q := (62, .getfield 9, 3)) k_Fo_ruleAt 34 rfl
theorem d_Fo_ruleAt_65 : decode y_Fo_ruleAt.2.2.1 65 = .ok (.aload_n 0, 1) := mj_d (q := (65, .aload_n 0, 1)) k_Fo_ruleAt 35 rfl
theorem d_Fo_ruleAt_66 : decode y_Fo_ruleAt.2.2.1 66 = .ok (.getfield 91, 3) := mj_d (q := (66, .getfield 91, 3)) k_Fo_ruleAt 36 rfl
theorem d_Fo_ruleAt_69 : decode y_Fo_ruleAt.2.2.1 69 = .ok (.iaload, 1) := mj_d (q := (69, .iaload, 1)) k_Fo_ruleAt 37 rfl
theorem d_Fo_ruleAt_70 : decode y_Fo_ruleAt.2.2.1 70 = .ok (.invokevirtual 101, 3) := mj_d (q := (70, .invokevirtual 101, 3)) k_Fo_ruleAt 38 rfl
theorem d_Fo_ruleAt_73 : decode y_Fo_ruleAt.2.2.1 73 = .ok (.iconst 0, 1) := mj_d (q := (73, .iconst 0, 1)) k_Fo_ruleAt 39 rfl
theorem d_Fo_ruleAt_74 : decode y_Fo_ruleAt.2.2.1 74 = .ok (.istore 7, 2) := mj_d (q := (74, .istore 7, 2)) k_Fo_ruleAt 40 rfl
theorem d_Fo_ruleAt_76 : decode y_Fo_ruleAt.2.2.1 76 = .ok (.iload 7, 2) := mj_d (q := (76, .iload 7, 2)) k_Fo_ruleAt 41 rfl
theorem d_Fo_ruleAt_78 : decode y_Fo_ruleAt.2.2.1 78 = .ok (.aload_n 0, 1) := mj_d (q := (78, .aload_n 0, 1)) k_Fo_ruleAt 42 rfl
theorem d_Fo_ruleAt_79 : decode y_Fo_ruleAt.2.2.1 79 = .ok (.getfield 41, 3) := mj_d (q := (79, .getfield 41, 3)) k_Fo_ruleAt 43 rfl
theorem d_Fo_ruleAt_82 : decode y_Fo_ruleAt.2.2.1 82 = .ok (.getfield 71, 3) := mj_d (q := (82, .getfield 71, 3)) k_Fo_ruleAt 44 rfl
theorem d_Fo_ruleAt_85 : decode y_Fo_ruleAt.2.2.1 85 = .ok (.iconst 1, 1) := mj_d (q := (85, .iconst 1, 1)) k_Fo_ruleAt 45 rfl
theorem d_Fo_ruleAt_86 : decode y_Fo_ruleAt.2.2.1 86 = .ok (.isub, 1) := mj_d (q := (86, .isub, 1)) k_Fo_ruleAt 46 rfl
theorem d_Fo_ruleAt_87 : decode y_Fo_ruleAt.2.2.1 87 = .ok (.if_icmp .ge 40, 3) := mj_d (q := (87, .if_icmp .ge 40, 3)) k_Fo_ruleAt 47 rfl
theorem d_Fo_ruleAt_90 : decode y_Fo_ruleAt.2.2.1 90 = .ok (.lload 5, 2) := mj_d (q := (90, .lload 5, 2)) k_Fo_ruleAt 48 rfl
theorem d_Fo_ruleAt_92 : decode y_Fo_ruleAt.2.2.1 92 = .ok (.aload_n 0, 1) := mj_d (q := (92, .aload_n 0, 1)) k_Fo_ruleAt 49 rfl
theorem d_Fo_ruleAt_93 : decode y_Fo_ruleAt.2.2.1 93 = .ok (.getfield 41, 3) := mj_d (q := (93, .getfield 41, 3)) k_Fo_ruleAt 50 rfl
theorem d_Fo_ruleAt_96 : decode y_Fo_ruleAt.2.2.1 96 = .ok (.getfield 125, 3) := mj_d (q := (96, .getfield 125, 3)) k_Fo_ruleAt 51 rfl
theorem d_Fo_ruleAt_99 : decode y_Fo_ruleAt.2.2.1 99 = .ok (.iload 7, 2) := mj_d (q := (99, .iload 7, 2)) k_Fo_ruleAt 52 rfl
theorem d_Fo_ruleAt_101 : decode y_Fo_ruleAt.2.2.1 101 = .ok (.laload, 1) := mj_d (q := (101, .laload, 1)) k_Fo_ruleAt 53 rfl
theorem d_Fo_ruleAt_102 : decode y_Fo_ruleAt.2.2.1 102 = .ok (.lcmp, 1) := mj_d (q := (102, .lcmp, 1)) k_Fo_ruleAt 54 rfl
theorem d_Fo_ruleAt_103 : decode y_Fo_ruleAt.2.2.1 103 = .ok (.ifCond .lt 24, 3) := mj_d (q := (103, .ifCond .lt 24, 3)) k_Fo_ruleAt 55 rfl
theorem d_Fo_ruleAt_106 : decode y_Fo_ruleAt.2.2.1 106 = .ok (.lload 5, 2) := mj_d (q := (106, .lload 5, 2)) k_Fo_ruleAt 56 rfl
theorem d_Fo_ruleAt_108 : decode y_Fo_ruleAt.2.2.1 108 = .ok (.aload_n 0, 1) := mj_d (q := (108, .aload_n 0, 1)) k_Fo_ruleAt 57 rfl
theorem d_Fo_ruleAt_109 : decode y_Fo_ruleAt.2.2.1 109 = .ok (.getfield 41, 3) := mj_d (q := (109, .getfield 41, 3)) k_Fo_ruleAt 58 rfl
theorem d_Fo_ruleAt_112 : decode y_Fo_ruleAt.2.2.1 112 = .ok (.getfield 125, 3) := mj_d (q := (112, .getfield 125, 3)) k_Fo_ruleAt 59 rfl
theorem d_Fo_ruleAt_115 : decode y_Fo_ruleAt.2.2.1 115 = .ok (.iload 7, 2) := mj_d (q := (115, .iload 7, 2)) k_Fo_ruleAt 60 rfl
theorem d_Fo_ruleAt_117 : decode y_Fo_ruleAt.2.2.1 117 = .ok (.laload, 1) := mj_d (q := (117, .laload, 1)) k_Fo_ruleAt 61 rfl
theorem d_Fo_ruleAt_118 : decode y_Fo_ruleAt.2.2.1 118 = .ok (.lsub, 1) := mj_d (q := (118, .lsub, 1)) k_Fo_ruleAt 62 rfl
theorem d_Fo_ruleAt_119 : decode y_Fo_ruleAt.2.2.1 119 = .ok (.lstore 5, 2) := mj_d (q := (119, .lstore 5, 2)) k_Fo_ruleAt 63 rfl
theorem d_Fo_ruleAt_121 : decode y_Fo_ruleAt.2.2.1 121 = .ok (.iinc 7 1, 3) := mj_d (q := (121, .iinc 7 1, 3)) k_Fo_ruleAt 64 rfl
theorem d_Fo_ruleAt_124 : decode y_Fo_ruleAt.2.2.1 124 = .ok (.goto (-48), 3) := mj_d (q := (124, .goto (-48), 3)) k_Fo_ruleAt 65 rfl
theorem d_Fo_ruleAt_127 : decode y_Fo_ruleAt.2.2.1 127 = .ok (.iload 4, 2) := mj_d (q := (127, .iload 4, 2)) k_Fo_ruleAt 66 rfl
theorem d_Fo_ruleAt_129 : decode y_Fo_ruleAt.2.2.1 129 = .ok (.iload_n 3, 1) := mj_d (q := (129, .iload_n 3, 1)) k_Fo_ruleAt 67 rfl
theorem d_Fo_ruleAt_130 : decode y_Fo_ruleAt.2.2.1 130 = .ok (.if_icmp .ne 14, 3) := mj_d (q := (130, .if_icmp .ne 14, 3)) k_Fo_ruleAt 68 rfl
theorem d_Fo_ruleAt_133 : decode y_Fo_ruleAt.2.2.1 133 = .ok (.aload_n 0, 1) := mj_d (q := (133, .aload_n 0, 1)) k_Fo_ruleAt 69 rfl
theorem d_Fo_ruleAt_134 : decode y_Fo_ruleAt.2.2.1 134 = .ok (.getfield 41, 3) := mj_d (q := (134, .getfield 41, 3)) k_Fo_ruleAt 70 rfl
theorem d_Fo_ruleAt_137 : decode y_Fo_ruleAt.2.2.1 137 = .ok (.getfield 128, 3) := mj_d (q := (137, .getfield 128, 3)) k_Fo_ruleAt 71 rfl
theorem d_Fo_ruleAt_140 : decode y_Fo_ruleAt.2.2.1 140 = .ok (.iload 7, 2) := mj_d (q := (140, .iload 7, 2)) k_Fo_ruleAt 72 rfl
theorem d_Fo_ruleAt_142 : decode y_Fo_ruleAt.2.2.1 142 = .ok (.iaload, 1) := mj_d (q := (142, .iaload, 1)) k_Fo_ruleAt 73 rfl
theorem d_Fo_ruleAt_143 : decode y_Fo_ruleAt.2.2.1 143 = .ok (.ireturn, 1) := mj_d (q := (143, .ireturn, 1)) k_Fo_ruleAt 74 rfl
theorem d_Fo_ruleAt_144 : decode y_Fo_ruleAt.2.2.1 144 = .ok (.aload_n 0, 1) := mj_d (q := (144, .aload_n 0, 1)) k_Fo_ruleAt 75 rfl
theorem d_Fo_ruleAt_145 : decode y_Fo_ruleAt.2.2.1 145 = .ok (.iload 7, 2) := mj_d (q := (145, .iload 7, 2)) k_Fo_ruleAt 76 rfl
theorem d_Fo_ruleAt_147 : decode y_Fo_ruleAt.2.2.1 147 = .ok (.lload 5, 2) := mj_d (q := (147, .lload 5, 2)) k_Fo_ruleAt 77 rfl
theorem d_Fo_ruleAt_149 : decode y_Fo_ruleAt.2.2.1 149 = .ok (.invokevirtual 131, 3) := mj_d (q := (149, .invokevirtual 131, 3)) k_Fo_ruleAt 78 rfl
theorem d_Fo_ruleAt_152 : decode y_Fo_ruleAt.2.2.1 152 = .ok (.iinc 4 1, 3) := mj_d (q := (152, .iinc 4 1, 3)) k_Fo_ruleAt 79 rfl
theorem d_Fo_ruleAt_155 : decode y_Fo_ruleAt.2.2.1 155 = .ok (.goto (-130), 3) := mj_d (q := (155, .goto (-130), 3)) k_Fo_ruleAt 80 rfl
theorem d_Fo_ruleAt_158 : decode y_Fo_ruleAt.2.2.1 158 = .ok (.iconst (-1), 1) := mj_d (q := (158, .iconst (-1), 1)) k_Fo_ruleAt 81 rfl
theorem d_Fo_ruleAt_159 : decode y_Fo_ruleAt.2.2.1 159 = .ok (.ireturn, 1) := mj_d (q := (159, .ireturn, 1)) k_Fo_ruleAt 82 rfl
theorem d_Fo_push_0 : decode y_Fo_push.2.2.1 0 = .ok (.aload_n 0, 1) := mj_d (q := (0, .aload_n 0, 1)) k_Fo_push 0 rfl
theorem d_Fo_push_1 : decode y_Fo_push.2.2.1 1 = .ok (.getfield 91, 3) := mj_d (q := (1, .getfield 91, 3)) k_Fo_push 1 rfl
theorem d_Fo_push_4 : decode y_Fo_push.2.2.1 4 = .ok (.sipush 845, 3) := mj_d (q := (4, .sipush 845, 3)) k_Fo_push 2 rfl
theorem d_Fo_push_7 : decode y_Fo_push.2.2.1 7 = .ok (.if_icmp .ge 33, 3) := mj_d (q := (7, .if_icmp .ge 33, 3)) k_Fo_push 3 rfl
theorem d_Fo_push_10 : decode y_Fo_push.2.2.1 10 = .ok (.aload_n 0, 1) := mj_d (q := (10, .aload_n 0, 1)) k_Fo_push 4 rfl
theorem d_Fo_push_11 : decode y_Fo_push.2.2.1 11 = .ok (.getfield 9, 3) := mj_d (q := (11, .getfield 9, 3)) k_Fo_push 5 rfl
theorem d_Fo_push_14 : decode y_Fo_push.2.2.1 14 = .ok (.aload_n 0, 1) := mj_d (q := (14, .aload_n 0, 1)) k_Fo_push 6 rfl
theorem d_Fo_push_15 : decode y_Fo_push.2.2.1 15 = .ok (.getfield 91, 3) := mj_d (q := (15, .getfield 91, 3)) k_Fo_push 7 rfl
theorem d_Fo_push_18 : decode y_Fo_push.2.2.1 18 = .ok (.iload_n 1, 1) := mj_d (q := (18, .iload_n 1, 1)) k_Fo_push 8 rfl
theorem d_Fo_push_19 : decode y_Fo_push.2.2.1 19 = .ok (.iastore, 1) := mj_d (q := (19, .iastore, 1)) k_Fo_push 9 rfl
theorem d_Fo_push_20 : decode y_Fo_push.2.2.1 20 = .ok (.aload_n 0, 1) := mj_d (q := (20, .aload_n 0, 1)) k_Fo_push 10 rfl
theorem d_Fo_push_21 : decode y_Fo_push.2.2.1 21 = .ok (.getfield 19, 3) := mj_d (q := (21, .getfield 19, 3)) k_Fo_push 11 rfl
theorem d_Fo_push_24 : decode y_Fo_push.2.2.1 24 = .ok (.aload_n 0, 1) := mj_d (q := (24, .aload_n 0, 1)) k_Fo_push 12 rfl
theorem d_Fo_push_25 : decode y_Fo_push.2.2.1 25 = .ok (.getfield 91, 3) := mj_d (q := (25, .getfield 91, 3)) k_Fo_push 13 rfl
theorem d_Fo_push_28 : decode y_Fo_push.2.2.1 28 = .ok (.lload_n 2, 1) := mj_d (q := (28, .lload_n 2, 1)) k_Fo_push 14 rfl
theorem d_Fo_push_29 : decode y_Fo_push.2.2.1 29 = .ok (.lastore, 1) := mj_d (q := (29, .lastore, 1)) k_Fo_push 15 rfl
theorem d_Fo_push_30 : decode y_Fo_push.2.2.1 30 = .ok (.aload_n 0, 1) := mj_d (q := (30, .aload_n 0, 1)) k_Fo_push 16 rfl
theorem d_Fo_push_31 : decode y_Fo_push.2.2.1 31 = .ok (.dup, 1) := mj_d (q := (31, .dup, 1)) k_Fo_push 17 rfl
theorem d_Fo_push_32 : decode y_Fo_push.2.2.1 32 = .ok (.getfield 91, 3) := mj_d (q := (32, .getfield 91, 3)) k_Fo_push 18 rfl
theorem d_Fo_push_35 : decode y_Fo_push.2.2.1 35 = .ok (.iconst 1, 1) := mj_d (q := (35, .iconst 1, 1)) k_Fo_push 19 rfl
theorem d_Fo_push_36 : decode y_Fo_push.2.2.1 36 = .ok (.iadd, 1) := mj_d (q := (36, .iadd, 1)) k_Fo_push 20 rfl
theorem d_Fo_push_37 : decode y_Fo_push.2.2.1 37 = .ok (.putfield 91, 3) := mj_d (q := (37, .putfield 91, 3)) k_Fo_push 21 rfl
theorem d_Fo_push_40 : decode y_Fo_push.2.2.1 40 = .ok (.return_, 1) := mj_d (q := (40, .return_, 1)) k_Fo_push 22 rfl
theorem d_Fo_pushParts_0 : decode y_Fo_pushParts.2.2.1 0 = .ok (.lload_n 2, 1) := mj_d (q := (0, .lload_n 2, 1)) k_Fo_pushParts 0 rfl
theorem d_Fo_pushParts_1 : decode y_Fo_pushParts.2.2.1 1 = .ok (.lstore 4, 2) := mj_d (q := (1, .lstore 4, 2)) k_Fo_pushParts 1 rfl
theorem d_Fo_pushParts_3 : decode y_Fo_pushParts.2.2.1 3 = .ok (.iconst 2, 1) := mj_d (q := (3, .iconst 2, 1)) k_Fo_pushParts 2 rfl
theorem d_Fo_pushParts_4 : decode y_Fo_pushParts.2.2.1 4 = .ok (.istore 6, 2) := mj_d (q := (4, .istore 6, 2)) k_Fo_pushParts 3 rfl
theorem d_Fo_pushParts_6 : decode y_Fo_pushParts.2.2.1 6 = .ok (.iload 6, 2) := mj_d (q := (6, .iload 6, 2)) k_Fo_pushParts 4 rfl
theorem d_Fo_pushParts_8 : decode y_Fo_pushParts.2.2.1 8 = .ok (.ifCond .lt 67, 3) := mj_d (q := (8, .ifCond .lt 67, 3)) k_Fo_pushParts 5 rfl
theorem d_Fo_pushParts_11 : decode y_Fo_pushParts.2.2.1 11 = .ok (.aload_n 0, 1) := mj_d (q := (11, .aload_n 0, 1)) k_Fo_pushParts 6 rfl
theorem d_Fo_pushParts_12 : decode y_Fo_pushParts.2.2.1 12 = .ok (.getfield 41, 3) := mj_d (q := (12, .getfield 41, 3)) k_Fo_pushParts 7 rfl
theorem d_Fo_pushParts_15 : decode y_Fo_pushParts.2.2.1 15 = .ok (.iload_n 1, 1) := mj_d (q := (15, .iload_n 1, 1)) k_Fo_pushParts 8 rfl
theorem d_Fo_pushParts_16 : decode y_Fo_pushParts.2.2.1 16 = .ok (.iload 6, 2) := mj_d (q := (16, .iload 6, 2)) k_Fo_pushParts 9 rfl
theorem d_Fo_pushParts_18 : decode y_Fo_pushParts.2.2.1 18 = .ok (.invokevirtual 134, 3) := mj_d (q := (18, .invokevirtual 134, 3)) k_Fo_pushParts 10 rfl
theorem d_Fo_pushParts_21 : decode y_Fo_pushParts.2.2.1 21 = .ok (.lstore 7, 2) := mj_d (q := (21, .lstore 7, 2)) k_Fo_pushParts 11 rfl
theorem d_Fo_pushParts_23 : decode y_Fo_pushParts.2.2.1 23 = .ok (.aload_n 0, 1) := mj_d (q := (23, .aload_n 0, 1)) k_Fo_pushParts 12 rfl
theorem d_Fo_pushParts_24 : decode y_Fo_pushParts.2.2.1 24 = .ok (.getfield 41, 3) := mj_d (q := (24, .getfield 41, 3)) k_Fo_pushParts 13 rfl
theorem d_Fo_pushParts_27 : decode y_Fo_pushParts.2.2.1 27 = .ok (.iload_n 1, 1) := mj_d (q := (27, .iload_n 1, 1)) k_Fo_pushParts 14 rfl
theorem d_Fo_pushParts_28 : decode y_Fo_pushParts.2.2.1 28 = .ok (.iload 6, 2) := mj_d (q := (28, .iload 6, 2)) k_Fo_pushParts 15 rfl
theorem d_Fo_pushParts_30 : decode y_Fo_pushParts.2.2.1 30 = .ok (.invokevirtual 107, 3) := mj_d (q := (30, .invokevirtual 107, 3)) k_Fo_pushParts 16 rfl
theorem d_Fo_pushParts_33 : decode y_Fo_pushParts.2.2.1 33 = .ok (.invokestatic 110, 3) := mj_d (q := (33, .invokestatic 110, 3)) k_Fo_pushParts 17 rfl
theorem d_Fo_pushParts_36 : decode y_Fo_pushParts.2.2.1 36 = .ok (.ifCond .eq 33, 3) := mj_d (q := (36, .ifCond .eq 33, 3)) k_Fo_pushParts 18 rfl
theorem d_Fo_pushParts_39 : decode y_Fo_pushParts.2.2.1 39 = .ok (.lload 7, 2) := mj_d (q := (39, .lload 7, 2)) k_Fo_pushParts 19 rfl
theorem d_Fo_pushParts_41 : decode y_Fo_pushParts.2.2.1 41 = .ok (.lconst 0, 1) := mj_d (q := (41, .lconst 0, 1)) k_Fo_pushParts 20 rfl
theorem d_Fo_pushParts_42 : decode y_Fo_pushParts.2.2.1 42 = .ok (.lcmp, 1) := mj_d (q := (42, .lcmp, 1)) k_Fo_pushParts 21 rfl
theorem d_Fo_pushParts_43 : decode y_Fo_pushParts.2.2.1 43 = .ok (.ifCond .le 26, 3) := mj_d (q := (43, .ifCond .le 26, 3)) k_Fo_pushParts 22 rfl
theorem d_Fo_pushParts_46 : decode y_Fo_pushParts.2.2.1 46 = .ok (.aload_n 0, 1) := mj_d (q := (46, .aload_n 0, 1)) k_Fo_pushParts 23 rfl
theorem d_Fo_pushParts_47 : decode y_Fo_pushParts.2.2.1 47 = .ok (.aload_n 0, 1) := mj_d (q := (47, .aload_n 0, 1)) k_Fo_pushParts 24 rfl
theorem d_Fo_pushParts_48 : decode y_Fo_pushParts.2.2.1 48 = .ok (.iload_n 1, 1) := mj_d (q := (48, .iload_n 1, 1)) k_Fo_pushParts 25 rfl
theorem d_Fo_pushParts_49 : decode y_Fo_pushParts.2.2.1 49 = .ok (.iload 6, 2) := mj_d (q := (49, .iload 6, 2)) k_Fo_pushParts 26 rfl
theorem d_Fo_pushParts_51 : decode y_Fo_pushParts.2.2.1 51 = .ok (.invokevirtual 114, 3) := mj_d (q := (51, .invokevirtual 114, 3)) k_Fo_pushParts 27 rfl
theorem d_Fo_pushParts_54 : decode y_Fo_pushParts.2.2.1 54 = .ok (.lload 4, 2) := mj_d (q := (54, .lload 4, 2)) k_Fo_pushParts 28 rfl
theorem d_Fo_pushParts_56 : decode y_Fo_pushParts.2.2.1 56 = .ok (.lload 7, 2) := mj_d (q := (56, .lload 7, 2)) k_Fo_pushParts 29 rfl
theorem d_Fo_pushParts_58 : decode y_Fo_pushParts.2.2.1 58 = .ok (.lrem, 1) := mj_d (q := (58, .lrem, 1)) k_Fo_pushParts 30 rfl
theorem d_Fo_pushParts_59 : decode y_Fo_pushParts.2.2.1 59 = .ok (.invokevirtual 120, 3) := mj_d (q := (59, .invokevirtual 120, 3)) k_Fo_pushParts 31 rfl
theorem d_Fo_pushParts_62 : decode y_Fo_pushParts.2.2.1 62 = .ok (.lload 4, 2) := mj_d (q := (62, .lload 4, 2)) k_Fo_pushParts 32 rfl
theorem d_Fo_pushParts_64 : decode y_Fo_pushParts.2.2.1 64 = .ok (.lload 7, 2) := mj_d (q := (64, .lload 7, 2)) k_Fo_pushParts 33 rfl
theorem d_Fo_pushParts_66 : decode y_Fo_pushParts.2.2.1 66 = .ok (.ldiv, 1) := mj_d (q := (66, .ldiv, 1)) k_Fo_pushParts 34 rfl
theorem d_Fo_pushParts_67 : decode y_Fo_pushParts.2.2.1 67 = .ok (.lstore 4, 2) := mj_d (q := (67, .lstore 4, 2)) k_Fo_pushParts 35 rfl
theorem d_Fo_pushParts_69 : decode y_Fo_pushParts.2.2.1 69 = .ok (.iinc 6 (-1), 3) := mj_d (q := (69, .iinc 6 (-1), 3)) k_Fo_pushParts 36 rfl
theorem d_Fo_pushParts_72 : decode y_Fo_pushParts.2.2.1 72 = .ok (.goto (-66), 3) := mj_d (q := (72, .goto (-66), 3)) k_Fo_pushParts 37 rfl
theorem d_Fo_pushParts_75 : decode y_Fo_pushParts.2.2.1 75 = .ok (.return_, 1) := mj_d (q := (75, .return_, 1)) k_Fo_pushParts 38 rfl
theorem d_Wa_treesOfPart_0 : decode y_Wa_treesOfPart.2.2.1 0 = .ok (.aload_n 0, 1) := mj_d (q := (0, .aload_n 0, 1)) k_Wa_treesOfPart 0 rfl
theorem d_Wa_treesOfPart_1 : decode y_Wa_treesOfPart.2.2.1 1 = .ok (.getfield 26, 3) := mj_d (q := (1, .getfield 26, 3)) k_Wa_treesOfPart 1 rfl
theorem d_Wa_treesOfPart_4 : decode y_Wa_treesOfPart.2.2.1 4 = .ok (.aload_n 0, 1) := mj_d (q := (4, .aload_n 0, 1)) k_Wa_treesOfPart 2 rfl
theorem d_Wa_treesOfPart_5 : decode y_Wa_treesOfPart.2.2.1 5 = .ok (.iload_n 1, 1) := mj_d (q := (5, .iload_n 1, 1)) k_Wa_treesOfPart 3 rfl
theorem d_Wa_treesOfPart_6 : decode y_Wa_treesOfPart.2.2.1 6 = .ok (.iload_n 2, 1) := mj_d (q := (6, .iload_n 2, 1)) k_Wa_treesOfPart 4 rfl
theorem d_Wa_treesOfPart_7 : decode y_Wa_treesOfPart.2.2.1 7 = .ok (.invokevirtual 72, 3) := mj_d (q := (7, .invokevirtual 72, 3)) k_Wa_treesOfPart 5 rfl
theorem d_Wa_treesOfPart_10 : decode y_Wa_treesOfPart.2.2.1 10 = .ok (.aload_n 0, 1) := mj_d (q := (10, .aload_n 0, 1)) k_Wa_treesOfPart 6 rfl
theorem d_Wa_treesOfPart_11 : decode y_Wa_treesOfPart.2.2.1 11 = .ok (.iload_n 1, 1) := mj_d (q := (11, .iload_n 1, 1)) k_Wa_treesOfPart 7 rfl
theorem d_Wa_treesOfPart_12 : decode y_Wa_treesOfPart.2.2.1 12 = .ok (.iload_n 2, 1) := mj_d (q := (12, .iload_n 2, 1)) k_Wa_treesOfPart 8 rfl
theorem d_Wa_treesOfPart_13 : decode y_Wa_treesOfPart.2.2.1 13 = .ok (.invokevirtual 75, 3) := mj_d (q := (13, .invokevirtual 75, 3)) k_Wa_treesOfPart 9 rfl
theorem d_Wa_treesOfPart_16 : decode y_Wa_treesOfPart.2.2.1 16 = .ok (.aload_n 0, 1) := mj_d (q := (16, .aload_n 0, 1)) k_Wa_treesOfPart 10 rfl
theorem d_Wa_treesOfPart_17 : decode y_Wa_treesOfPart.2.2.1 17 = .ok (.iload_n 1, 1) := mj_d (q := (17, .iload_n 1, 1)) k_Wa_treesOfPart 11 rfl
theorem d_Wa_treesOfPart_18 : decode y_Wa_treesOfPart.2.2.1 18 = .ok (.iload_n 2, 1) := mj_d (q := (18, .iload_n 2, 1)) k_Wa_treesOfPart 12 rfl
theorem d_Wa_treesOfPart_19 : decode y_Wa_treesOfPart.2.2.1 19 = .ok (.iconst 1, 1) := mj_d (q := (19, .iconst 1, 1)) k_Wa_treesOfPart 13 rfl
theorem d_Wa_treesOfPart_20 : decode y_Wa_treesOfPart.2.2.1 20 = .ok (.iadd, 1) := mj_d (q := (20, .iadd, 1)) k_Wa_treesOfPart 14 rfl
theorem d_Wa_treesOfPart_21 : decode y_Wa_treesOfPart.2.2.1 21 = .ok (.invokevirtual 75, 3) := mj_d (q := (21, .invokevirtual 75, 3)) k_Wa_treesOfPart 15 rfl
theorem d_Wa_treesOfPart_24 : decode y_Wa_treesOfPart.2.2.1 24 = .ok (.invokevirtual 58, 3) := mj_d (q := (24, .invokevirtual 58, 3)) k_Wa_treesOfPart 16 rfl
theorem d_Wa_treesOfPart_27 : decode y_Wa_treesOfPart.2.2.1 27 = .ok (.lreturn, 1) := mj_d (q := (27, .lreturn, 1)) k_Wa_treesOfPart 17 rfl
theorem d_Mo_makeSet_0 : decode y_Mo_makeSet.2.2.1 0 = .ok (.aload_n 0, 1) := mj_d (q := (0, .aload_n 0, 1)) k_Mo_makeSet 0 rfl
theorem d_Mo_makeSet_1 : decode y_Mo_makeSet.2.2.1 1 = .ok (.iconst 0, 1) := mj_d (q := (1, .iconst 0, 1)) k_Mo_makeSet 1 rfl
theorem d_Mo_makeSet_2 : decode y_Mo_makeSet.2.2.1 2 = .ok (.putfield 85, 3) := mj_d (q := (2, .putfield 85, 3)) k_Mo_makeSet 2 rfl
theorem d_Mo_makeSet_5 : decode y_Mo_makeSet.2.2.1 5 = .ok (.iconst 0, 1) := mj_d (q := (5, .iconst 0, 1)) k_Mo_makeSet 3 rfl
theorem d_Mo_makeSet_6 : decode y_Mo_makeSet.2.2.1 6 = .ok (.istore_n 2, 1) := mj_d (q := (6, .istore_n 2, 1)) k_Mo_makeSet 4 rfl
theorem d_Mo_makeSet_7 : decode y_Mo_makeSet.2.2.1 7 = .ok (.iload_n 2, 1) := mj_d (q := (7, .iload_n 2, 1)) k_Mo_makeSet 5 rfl
theorem d_Mo_makeSet_8 : decode y_Mo_makeSet.2.2.1 8 = .ok (.sipush 572, 3) := mj_d (q := (8, .sipush 572, 3)) k_Mo_makeSet 6 rfl
theorem d_Mo_makeSet_11 : decode y_Mo_makeSet.2.2.1 11 = .ok (.if_icmp .ge 22, 3) := mj_d (q := (11, .if_icmp .ge 22, 3)) k_Mo_makeSet 7 rfl
theorem d_Mo_makeSet_14 : decode y_Mo_makeSet.2.2.1 14 = .ok (.aload_n 0, 1) := mj_d (q := (14, .aload_n 0, 1)) k_Mo_makeSet 8 rfl
theorem d_Mo_makeSet_15 : decode y_Mo_makeSet.2.2.1 15 = .ok (.getfield 22, 3) := mj_d (q := (15, .getfield 22, 3)) k_Mo_makeSet 9 rfl
theorem d_Mo_makeSet_18 : decode y_Mo_makeSet.2.2.1 18 = .ok (.sipush 572, 3) := mj_d (q := (18, .sipush 572, 3)) k_Mo_makeSet 10 rfl
theorem d_Mo_makeSet_21 : decode y_Mo_makeSet.2.2.1 21 = .ok (.iload_n 1, 1) := mj_d (q := (21, .iload_n 1, 1)) k_Mo_makeSet 11 rfl
theorem d_Mo_makeSet_22 : decode y_Mo_makeSet.2.2.1 22 = .ok (.imul, 1) := mj_d (q := (22, .imul, 1)) k_Mo_makeSet 12 rfl
theorem d_Mo_makeSet_23 : decode y_Mo_makeSet.2.2.1 23 = .ok (.iload_n 2, 1) := mj_d (q := (23, .iload_n 2, 1)) k_Mo_makeSet 13 rfl
theorem d_Mo_makeSet_24 : decode y_Mo_makeSet.2.2.1 24 = .ok (.iadd, 1) := mj_d (q := (24, .iadd, 1)) k_Mo_makeSet 14 rfl
theorem d_Mo_makeSet_25 : decode y_Mo_makeSet.2.2.1 25 = .ok (.iconst 0, 1) := mj_d (q := (25, .iconst 0, 1)) k_Mo_makeSet 15 rfl
theorem d_Mo_makeSet_26 : decode y_Mo_makeSet.2.2.1 26 = .ok (.bastore, 1) := mj_d (q := (26, .bastore, 1)) k_Mo_makeSet 16 rfl
theorem d_Mo_makeSet_27 : decode y_Mo_makeSet.2.2.1 27 = .ok (.iinc 2 1, 3) := mj_d (q := (27, .iinc 2 1, 3)) k_Mo_makeSet 17 rfl
theorem d_Mo_makeSet_30 : decode y_Mo_makeSet.2.2.1 30 = .ok (.goto (-23), 3) := mj_d (q := (30, .goto (-23), 3)) k_Mo_makeSet 18 rfl
theorem d_Mo_makeSet_33 : decode y_Mo_makeSet.2.2.1 33 = .ok (.iload_n 1, 1) := mj_d (q := (33, .iload_n 1, 1)) k_Mo_makeSet 19 rfl
theorem d_Mo_makeSet_34 : decode y_Mo_makeSet.2.2.1 34 = .ok (.ifCond .ne 10, 3) := mj_d (q := (34, .ifCond .ne 10, 3)) k_Mo_makeSet 20 rfl
theorem d_Mo_makeSet_37 : decode y_Mo_makeSet.2.2.1 37 = .ok (.aload_n 0, 1) := mj_d (q := (37, .aload_n 0, 1)) k_Mo_makeSet 21 rfl
theorem d_Mo_makeSet_38 : decode y_Mo_makeSet.2.2.1 38 = .ok (.getfield 22, 3) := mj_d (q := (38, .getfield 22, 3)) k_Mo_makeSet 22 rfl
theorem d_Mo_makeSet_41 : decode y_Mo_makeSet.2.2.1 41 = .ok (.iconst 0, 1) := mj_d (q := (41, .iconst 0, 1)) k_Mo_makeSet 23 rfl
theorem d_Mo_makeSet_42 : decode y_Mo_makeSet.2.2.1 42 = .ok (.iconst 1, 1) := mj_d (q := (42, .iconst 1, 1)) k_Mo_makeSet 24 rfl
theorem d_Mo_makeSet_43 : decode y_Mo_makeSet.2.2.1 43 = .ok (.bastore, 1) := mj_d (q := (43, .bastore, 1)) k_Mo_makeSet 25 rfl
theorem d_Mo_makeSet_44 : decode y_Mo_makeSet.2.2.1 44 = .ok (.iconst 0, 1) := mj_d (q := (44, .iconst 0, 1)) k_Mo_makeSet 26 rfl
theorem d_Mo_makeSet_45 : decode y_Mo_makeSet.2.2.1 45 = .ok (.istore_n 2, 1) := mj_d (q := (45, .istore_n 2, 1)) k_Mo_makeSet 27 rfl
theorem d_Mo_makeSet_46 : decode y_Mo_makeSet.2.2.1 46 = .ok (.iload_n 2, 1) := mj_d (q := (46, .iload_n 2, 1)) k_Mo_makeSet 28 rfl
theorem d_Mo_makeSet_47 : decode y_Mo_makeSet.2.2.1 47 = .ok (.sipush 572, 3) := mj_d (q := (47, .sipush 572, 3)) k_Mo_makeSet 29 rfl
theorem d_Mo_makeSet_50 : decode y_Mo_makeSet.2.2.1 50 = .ok (.if_icmp .ge 84, 3) := mj_d (q := (50, .if_icmp .ge 84, 3)) k_Mo_makeSet 30 rfl
theorem d_Mo_makeSet_53 : decode y_Mo_makeSet.2.2.1 53 = .ok (.iload_n 1, 1) := mj_d (q := (53, .iload_n 1, 1)) k_Mo_makeSet 31 rfl
theorem d_Mo_makeSet_54 : decode y_Mo_makeSet.2.2.1 54 = .ok (.ifCond .le 80, 3) := mj_d (q := (54, .ifCond .le 80, 3)) k_Mo_makeSet 32 rfl
theorem d_Mo_makeSet_57 : decode y_Mo_makeSet.2.2.1 57 = .ok (.aload_n 0, 1) := mj_d (q := (57, .aload_n 0, 1)) k_Mo_makeSet 33 rfl
theorem d_Mo_makeSet_58 : decode y_Mo_makeSet.2.2.1 58 = .ok (.getfield 22, 3) := mj_d (q := (58, .getfield 22, 3)) k_Mo_makeSet 34 rfl
theorem d_Mo_makeSet_61 : decode y_Mo_makeSet.2.2.1 61 = .ok (.sipush 572, 3) := mj_d (q := (61, .sipush 572, 3)) k_Mo_makeSet 35 rfl
theorem d_Mo_makeSet_64 : decode y_Mo_makeSet.2.2.1 64 = .ok (.iload_n 1, 1) := mj_d (q := (64, .iload_n 1, 1)) k_Mo_makeSet 36 rfl
theorem d_Mo_makeSet_65 : decode y_Mo_makeSet.2.2.1 65 = .ok (.iconst 1, 1) := mj_d (q := (65, .iconst 1, 1)) k_Mo_makeSet 37 rfl
theorem d_Mo_makeSet_66 : decode y_Mo_makeSet.2.2.1 66 = .ok (.isub, 1) := mj_d (q := (66, .isub, 1)) k_Mo_makeSet 38 rfl
theorem d_Mo_makeSet_67 : decode y_Mo_makeSet.2.2.1 67 = .ok (.imul, 1) := mj_d (q := (67, .imul, 1)) k_Mo_makeSet 39 rfl
theorem d_Mo_makeSet_68 : decode y_Mo_makeSet.2.2.1 68 = .ok (.iload_n 2, 1) := mj_d (q := (68, .iload_n 2, 1)) k_Mo_makeSet 40 rfl
theorem d_Mo_makeSet_69 : decode y_Mo_makeSet.2.2.1 69 = .ok (.iadd, 1) := mj_d (q := (69, .iadd, 1)) k_Mo_makeSet 41 rfl
theorem d_Mo_makeSet_70 : decode y_Mo_makeSet.2.2.1 70 = .ok (.baload, 1) := mj_d (q := (70, .baload, 1)) k_Mo_makeSet 42 rfl
theorem d_Mo_makeSet_71 : decode y_Mo_makeSet.2.2.1 71 = .ok (.ifCond .eq 35, 3) := mj_d (q := (71, .ifCond .eq 35, 3)) k_Mo_makeSet 43 rfl
theorem d_Mo_makeSet_74 : decode y_Mo_makeSet.2.2.1 74 = .ok (.aload_n 0, 1) := mj_d (q := (74, .aload_n 0, 1)) k_Mo_makeSet 44 rfl
theorem d_Mo_makeSet_75 : decode y_Mo_makeSet.2.2.1 75 = .ok (.iload_n 2, 1) := mj_d (q := (75, .iload_n 2, 1)) k_Mo_makeSet 45 rfl
theorem d_Mo_makeSet_76 : decode y_Mo_makeSet.2.2.1 76 = .ok (.bipush 52, 2) := mj_d (q := (76, .bipush 52, 2)) k_Mo_makeSet 46 rfl
theorem d_Mo_makeSet_78 : decode y_Mo_makeSet.2.2.1 78 = .ok (.idiv, 1) := mj_d (q := (78, .idiv, 1)) k_Mo_makeSet 47 rfl
theorem d_Mo_makeSet_79 : decode y_Mo_makeSet.2.2.1 79 = .ok (.iconst 1, 1) := mj_d (q := (79, .iconst 1, 1)) k_Mo_makeSet 48 rfl
theorem d_Mo_makeSet_80 : decode y_Mo_makeSet.2.2.1 80 = .ok (.isub, 1) := mj_d (q := (80, .isub, 1)) k_Mo_makeSet 49 rfl
theorem d_Mo_makeSet_81 : decode y_Mo_makeSet.2.2.1 81 = .ok (.iload_n 2, 1) := mj_d (q := (81, .iload_n 2, 1)) k_Mo_makeSet 50 rfl
theorem d_Mo_makeSet_82 : decode y_Mo_makeSet.2.2.1 82 = .ok (.bipush 52, 2) := mj_d (q := (82, .bipush 52, 2)) k_Mo_makeSet 51 rfl
theorem d_Mo_makeSet_84 : decode y_Mo_makeSet.2.2.1 84 = .ok (.irem, 1) := mj_d (q := (84, .irem, 1)) k_Mo_makeSet 52 rfl
theorem d_Mo_makeSet_85 : decode y_Mo_makeSet.2.2.1 85 = .ok (.bipush 13, 2) := mj_d (q := (85, .bipush 13, 2)) k_Mo_makeSet 53 rfl
theorem d_Mo_makeSet_87 : decode y_Mo_makeSet.2.2.1 87 = .ok (.idiv, 1) := mj_d (q := (87, .idiv, 1)) k_Mo_makeSet 54 rfl
theorem d_Mo_makeSet_88 : decode y_Mo_makeSet.2.2.1 88 = .ok (.invokevirtual 65, 3) := mj_d (q := (88, .invokevirtual 65, 3)) k_Mo_makeSet 55 rfl
theorem d_Mo_makeSet_91 : decode y_Mo_makeSet.2.2.1 91 = .ok (.aload_n 0, 1) := mj_d (q := (91, .aload_n 0, 1)) k_Mo_makeSet 56 rfl
theorem d_Mo_makeSet_92 : decode y_Mo_makeSet.2.2.1 92 = .ok (.getfield 19, 3) := mj_d (q := (92, .getfield 19, 3)) k_Mo_makeSet 57 rfl
theorem d_Mo_makeSet_95 : decode y_Mo_makeSet.2.2.1 95 = .ok (.iload_n 1, 1) := mj_d (q := (95, .iload_n 1, 1)) k_Mo_makeSet 58 rfl
theorem d_Mo_makeSet_96 : decode y_Mo_makeSet.2.2.1 96 = .ok (.iconst 1, 1) := mj_d (q := (96, .iconst 1, 1)) k_Mo_makeSet 59 rfl
theorem d_Mo_makeSet_97 : decode y_Mo_makeSet.2.2.1 97 = .ok (.isub, 1) := mj_d (q := (97, .isub, 1)) k_Mo_makeSet 60 rfl
theorem d_Mo_makeSet_98 : decode y_Mo_makeSet.2.2.1 98 = .ok (.iaload, 1) := mj_d (q := (98, .iaload, 1)) k_Mo_makeSet 61 rfl
theorem d_Mo_makeSet_99 : decode y_Mo_makeSet.2.2.1 99 = .ok (.if_icmp .ne 7, 3) := mj_d (q := (99, .if_icmp .ne 7, 3)) k_Mo_makeSet 62 rfl
theorem d_Mo_makeSet_102 : decode y_Mo_makeSet.2.2.1 102 = .ok (.iconst 1, 1) := mj_d (q := (102, .iconst 1, 1)) k_Mo_makeSet 63 rfl
theorem d_Mo_makeSet_103 : decode y_Mo_makeSet.2.2.1 103 = .ok (.goto 4, 3) := mj_d (q := (103, .goto 4, 3)) k_Mo_makeSet 64 rfl
theorem d_Mo_makeSet_106 : decode y_Mo_makeSet.2.2.1 106 = .ok (.iconst 0, 1) := mj_d (q := (106, .iconst 0, 1)) k_Mo_makeSet 65 rfl
theorem d_Mo_makeSet_107 : decode y_Mo_makeSet.2.2.1 107 = .ok (.istore_n 3, 1) := mj_d (q := (107, .istore_n 3, 1)) k_Mo_makeSet 66 rfl
theorem d_Mo_makeSet_108 : decode y_Mo_makeSet.2.2.1 108 = .ok (.iload_n 3, 1) := mj_d (q := (108, .iload_n 3, 1)) k_Mo_makeSet 67 rfl
theorem d_Mo_makeSet_109 : decode y_Mo_makeSet.2.2.1 109 = .ok (.ifCond .eq 19, 3) := mj_d (q := (109, .ifCond .eq 19, 3)) k_Mo_makeSet 68 rfl
theorem d_Mo_makeSet_112 : decode y_Mo_makeSet.2.2.1 112 = .ok (.aload_n 0, 1) := mj_d (q := (112, .aload_n 0, 1)) k_Mo_makeSet 69 rfl
theorem d_Mo_makeSet_113 : decode y_Mo_makeSet.2.2.1 113 = .ok (.getfield 22, 3) := mj_d (q := (113, .getfield 22, 3)) k_Mo_makeSet 70 rfl
theorem d_Mo_makeSet_116 : decode y_Mo_makeSet.2.2.1 116 = .ok (.sipush 572, 3) := mj_d (q := (116, .sipush 572, 3)) k_Mo_makeSet 71 rfl
theorem d_Mo_makeSet_119 : decode y_Mo_makeSet.2.2.1 119 = .ok (.iload_n 1, 1) := mj_d (q := (119, .iload_n 1, 1)) k_Mo_makeSet 72 rfl
theorem d_Mo_makeSet_120 : decode y_Mo_makeSet.2.2.1 120 = .ok (.imul, 1) := mj_d (q := (120, .imul, 1)) k_Mo_makeSet 73 rfl
theorem d_Mo_makeSet_121 : decode y_Mo_makeSet.2.2.1 121 = .ok (.iload_n 2, 1) := mj_d (q := (121, .iload_n 2, 1)) k_Mo_makeSet 74 rfl
theorem d_Mo_makeSet_122 : decode y_Mo_makeSet.2.2.1 122 = .ok (.iadd, 1) := mj_d (q := (122, .iadd, 1)) k_Mo_makeSet 75 rfl
theorem d_Mo_makeSet_123 : decode y_Mo_makeSet.2.2.1 123 = .ok (.bipush 13, 2) := mj_d (q := (123, .bipush 13, 2)) k_Mo_makeSet 76 rfl
theorem d_Mo_makeSet_125 : decode y_Mo_makeSet.2.2.1 125 = .ok (.iadd, 1) := mj_d (q := (125, .iadd, 1)) k_Mo_makeSet 77 rfl
theorem d_Mo_makeSet_126 : decode y_Mo_makeSet.2.2.1 126 = .ok (.iconst 1, 1) := mj_d (q := (126, .iconst 1, 1)) k_Mo_makeSet 78 rfl
theorem d_Mo_makeSet_127 : decode y_Mo_makeSet.2.2.1 127 = .ok (.bastore, 1) := mj_d (q := (127, .bastore, 1)) k_Mo_makeSet 79 rfl
theorem d_Mo_makeSet_128 : decode y_Mo_makeSet.2.2.1 128 = .ok (.iinc 2 1, 3) := mj_d (q := (128, .iinc 2 1, 3)) k_Mo_makeSet 80 rfl
theorem d_Mo_makeSet_131 : decode y_Mo_makeSet.2.2.1 131 = .ok (.goto (-85), 3) := mj_d (q := (131, .goto (-85), 3)) k_Mo_makeSet 81 rfl
theorem d_Mo_makeSet_134 : decode y_Mo_makeSet.2.2.1 134 = .ok (.aload_n 0, 1) := mj_d (q := (134, .aload_n 0, 1)) k_Mo_makeSet 82 rfl
theorem d_Mo_makeSet_135 : decode y_Mo_makeSet.2.2.1 135 = .ok (.iload_n 1, 1) := mj_d (q := (135, .iload_n 1, 1)) k_Mo_makeSet 83 rfl
theorem d_Mo_makeSet_136 : decode y_Mo_makeSet.2.2.1 136 = .ok (.invokevirtual 88, 3) := mj_d (q := (136, .invokevirtual 88, 3)) k_Mo_makeSet 84 rfl
theorem d_Mo_makeSet_139 : decode y_Mo_makeSet.2.2.1 139 = .ok (.return_, 1) := mj_d (q := (139, .return_, 1)) k_Mo_makeSet 85 rfl
theorem d_Mo_behind_0 : decode y_Mo_behind.2.2.1 0 = .ok (.iload_n 2, 1) := mj_d (q := (0, .iload_n 2, 1)) k_Mo_behind 0 rfl
theorem d_Mo_behind_1 : decode y_Mo_behind.2.2.1 1 = .ok (.aload_n 0, 1) := mj_d (q := (1, .aload_n 0, 1)) k_Mo_behind 1 rfl
theorem d_Mo_behind_2 : decode y_Mo_behind.2.2.1 2 = .ok (.iload_n 1, 1) := mj_d (q := (2, .iload_n 1, 1)) k_Mo_behind 2 rfl
theorem d_Mo_behind_3 : decode y_Mo_behind.2.2.1 3 = .ok (.invokevirtual 57, 3) := mj_d (q := (3, .invokevirtual 57, 3)) k_Mo_behind 3 rfl
theorem d_Mo_behind_6 : decode y_Mo_behind.2.2.1 6 = .ok (.if_icmp .lt 7, 3) := mj_d (q := (6, .if_icmp .lt 7, 3)) k_Mo_behind 4 rfl
theorem d_Mo_behind_9 : decode y_Mo_behind.2.2.1 9 = .ok (.iconst (-1), 1) := mj_d (q := (9, .iconst (-1), 1)) k_Mo_behind 5 rfl
theorem d_Mo_behind_10 : decode y_Mo_behind.2.2.1 10 = .ok (.goto 21, 3) := mj_d (q := (10, .goto 21, 3)) k_Mo_behind 6 rfl
theorem d_Mo_behind_13 : decode y_Mo_behind.2.2.1 13 = .ok (.iload_n 1, 1) := mj_d (q := (13, .iload_n 1, 1)) k_Mo_behind 7 rfl
theorem d_Mo_behind_14 : decode y_Mo_behind.2.2.1 14 = .ok (.ifCond .ge 7, 3) := mj_d (q := (14, .ifCond .ge 7, 3)) k_Mo_behind 8 rfl
theorem d_Mo_behind_17 : decode y_Mo_behind.2.2.1 17 = .ok (.iconst 0, 1) := mj_d (q := (17, .iconst 0, 1)) k_Mo_behind 9 rfl
theorem d_Mo_behind_18 : decode y_Mo_behind.2.2.1 18 = .ok (.goto 13, 3) := mj_d (q := (18, .goto 13, 3)) k_Mo_behind 10 rfl
theorem d_Mo_behind_21 : decode y_Mo_behind.2.2.1 21 = .ok (.aload_n 0, 1) := mj_d (q := (21, .aload_n 0, 1)) k_Mo_behind 11 rfl
theorem d_Mo_behind_22 : decode y_Mo_behind.2.2.1 22 = .ok (.getfield 16, 3) := mj_d (q := (22, .getfield 16, 3)) k_Mo_behind 12 rfl
theorem d_Mo_behind_25 : decode y_Mo_behind.2.2.1 25 = .ok (.iconst 3, 1) := mj_d (q := (25, .iconst 3, 1)) k_Mo_behind 13 rfl
theorem d_Mo_behind_26 : decode y_Mo_behind.2.2.1 26 = .ok (.iload_n 1, 1) := mj_d (q := (26, .iload_n 1, 1)) k_Mo_behind 14 rfl
theorem d_Mo_behind_27 : decode y_Mo_behind.2.2.1 27 = .ok (.imul, 1) := mj_d (q := (27, .imul, 1)) k_Mo_behind 15 rfl
theorem d_Mo_behind_28 : decode y_Mo_behind.2.2.1 28 = .ok (.iload_n 2, 1) := mj_d (q := (28, .iload_n 2, 1)) k_Mo_behind 16 rfl
theorem d_Mo_behind_29 : decode y_Mo_behind.2.2.1 29 = .ok (.iadd, 1) := mj_d (q := (29, .iadd, 1)) k_Mo_behind 17 rfl
theorem d_Mo_behind_30 : decode y_Mo_behind.2.2.1 30 = .ok (.iaload, 1) := mj_d (q := (30, .iaload, 1)) k_Mo_behind 18 rfl
theorem d_Mo_behind_31 : decode y_Mo_behind.2.2.1 31 = .ok (.ireturn, 1) := mj_d (q := (31, .ireturn, 1)) k_Mo_behind 19 rfl
theorem d_Mo_lengthOf_0 : decode y_Mo_lengthOf.2.2.1 0 = .ok (.iload_n 1, 1) := mj_d (q := (0, .iload_n 1, 1)) k_Mo_lengthOf 0 rfl
theorem d_Mo_lengthOf_1 : decode y_Mo_lengthOf.2.2.1 1 = .ok (.ifCond .ge 7, 3) := mj_d (q := (1, .ifCond .ge 7, 3)) k_Mo_lengthOf 1 rfl
theorem d_Mo_lengthOf_4 : decode y_Mo_lengthOf.2.2.1 4 = .ok (.iconst 1, 1) := mj_d (q := (4, .iconst 1, 1)) k_Mo_lengthOf 2 rfl
theorem d_Mo_lengthOf_5 : decode y_Mo_lengthOf.2.2.1 5 = .ok (.goto 9, 3) := mj_d (q := (5, .goto 9, 3)) k_Mo_lengthOf 3 rfl
theorem d_Mo_lengthOf_8 : decode y_Mo_lengthOf.2.2.1 8 = .ok (.aload_n 0, 1) := mj_d (q := (8, .aload_n 0, 1)) k_Mo_lengthOf 4 rfl
theorem d_Mo_lengthOf_9 : decode y_Mo_lengthOf.2.2.1 9 = .ok (.getfield 13, 3) := mj_d (q := (9, .getfield 13, 3)) k_Mo_lengthOf 5 rfl
theorem d_Mo_lengthOf_12 : decode y_Mo_lengthOf.2.2.1 12 = .ok (.iload_n 1, 1) := mj_d (q := (12, .iload_n 1, 1)) k_Mo_lengthOf 6 rfl
theorem d_Mo_lengthOf_13 : decode y_Mo_lengthOf.2.2.1 13 = .ok (.iaload, 1) := mj_d (q := (13, .iaload, 1)) k_Mo_lengthOf 7 rfl
theorem d_Mo_lengthOf_14 : decode y_Mo_lengthOf.2.2.1 14 = .ok (.ireturn, 1) := mj_d (q := (14, .ireturn, 1)) k_Mo_lengthOf 8 rfl
theorem d_Mo_close_0 : decode y_Mo_close.2.2.1 0 = .ok (.iconst 1, 1) := mj_d (q := (0, .iconst 1, 1)) k_Mo_close 0 rfl
theorem d_Mo_close_1 : decode y_Mo_close.2.2.1 1 = .ok (.istore_n 2, 1) := mj_d (q := (1, .istore_n 2, 1)) k_Mo_close 1 rfl
theorem d_Mo_close_2 : decode y_Mo_close.2.2.1 2 = .ok (.iload_n 2, 1) := mj_d (q := (2, .iload_n 2, 1)) k_Mo_close 2 rfl
theorem d_Mo_close_3 : decode y_Mo_close.2.2.1 3 = .ok (.ifCond .eq 77, 3) := mj_d (q := (3, .ifCond .eq 77, 3)) k_Mo_close 3 rfl
theorem d_Mo_close_6 : decode y_Mo_close.2.2.1 6 = .ok (.iconst 0, 1) := mj_d (q := (6, .iconst 0, 1)) k_Mo_close 4 rfl
theorem d_Mo_close_7 : decode y_Mo_close.2.2.1 7 = .ok (.istore_n 2, 1) := mj_d (q := (7, .istore_n 2, 1)) k_Mo_close 5 rfl
theorem d_Mo_close_8 : decode y_Mo_close.2.2.1 8 = .ok (.iconst 0, 1) := mj_d (q := (8, .iconst 0, 1)) k_Mo_close 6 rfl
theorem d_Mo_close_9 : decode y_Mo_close.2.2.1 9 = .ok (.istore_n 3, 1) := mj_d (q := (9, .istore_n 3, 1)) k_Mo_close 7 rfl
theorem d_Mo_close_10 : decode y_Mo_close.2.2.1 10 = .ok (.iload_n 3, 1) := mj_d (q := (10, .iload_n 3, 1)) k_Mo_close 8 rfl
theorem d_Mo_close_11 : decode y_Mo_close.2.2.1 11 = .ok (.sipush 572, 3) := mj_d (q := (11, .sipush 572, 3)) k_Mo_close 9 rfl
theorem d_Mo_close_14 : decode y_Mo_close.2.2.1 14 = .ok (.if_icmp .ge 63, 3) := mj_d (q := (14, .if_icmp .ge 63, 3)) k_Mo_close 10 rfl
theorem d_Mo_close_17 : decode y_Mo_close.2.2.1 17 = .ok (.aload_n 0, 1) := mj_d (q := (17, .aload_n 0, 1)) k_Mo_close 11 rfl
theorem d_Mo_close_18 : decode y_Mo_close.2.2.1 18 = .ok (.getfield 22, 3) := mj_d (q := (18, .getfield 22, 3)) k_Mo_close 12 rfl
theorem d_Mo_close_21 : decode y_Mo_close.2.2.1 21 = .ok (.sipush 572, 3) := mj_d (q := (21, .sipush 572, 3)) k_Mo_close 13 rfl
theorem d_Mo_close_24 : decode y_Mo_close.2.2.1 24 = .ok (.iload_n 1, 1) := mj_d (q := (24, .iload_n 1, 1)) k_Mo_close 14 rfl
theorem d_Mo_close_25 : decode y_Mo_close.2.2.1 25 = .ok (.imul, 1) := mj_d (q := (25, .imul, 1)) k_Mo_close 15 rfl
theorem d_Mo_close_26 : decode y_Mo_close.2.2.1 26 = .ok (.iload_n 3, 1) := mj_d (q := (26, .iload_n 3, 1)) k_Mo_close 16 rfl
theorem d_Mo_close_27 : decode y_Mo_close.2.2.1 27 = .ok (.iadd, 1) := mj_d (q := (27, .iadd, 1)) k_Mo_close 17 rfl
theorem d_Mo_close_28 : decode y_Mo_close.2.2.1 28 = .ok (.baload, 1) := mj_d (q := (28, .baload, 1)) k_Mo_close 18 rfl
theorem d_Mo_close_29 : decode y_Mo_close.2.2.1 29 = .ok (.ifCond .eq 42, 3) := mj_d (q := (29, .ifCond .eq 42, 3)) k_Mo_close 19 rfl
theorem d_Mo_close_32 : decode y_Mo_close.2.2.1 32 = .ok (.aload_n 0, 1) := mj_d (q := (32, .aload_n 0, 1)) k_Mo_close 20 rfl
theorem d_Mo_close_33 : decode y_Mo_close.2.2.1 33 = .ok (.iload_n 1, 1) := mj_d (q := (33, .iload_n 1, 1)) k_Mo_close 21 rfl
theorem d_Mo_close_34 : decode y_Mo_close.2.2.1 34 = .ok (.iload_n 3, 1) := mj_d (q := (34, .iload_n 3, 1)) k_Mo_close 22 rfl
theorem d_Mo_close_35 : decode y_Mo_close.2.2.1 35 = .ok (.bipush 52, 2) := mj_d (q := (35, .bipush 52, 2)) k_Mo_close 23 rfl
theorem d_Mo_close_37 : decode y_Mo_close.2.2.1 37 = .ok (.idiv, 1) := mj_d (q := (37, .idiv, 1)) k_Mo_close 24 rfl
theorem d_Mo_close_38 : decode y_Mo_close.2.2.1 38 = .ok (.iconst 1, 1) := mj_d (q := (38, .iconst 1, 1)) k_Mo_close 25 rfl
theorem d_Mo_close_39 : decode y_Mo_close.2.2.1 39 = .ok (.isub, 1) := mj_d (q := (39, .isub, 1)) k_Mo_close 26 rfl
theorem d_Mo_close_40 : decode y_Mo_close.2.2.1 40 = .ok (.iload_n 3, 1) := mj_d (q := (40, .iload_n 3, 1)) k_Mo_close 27 rfl
theorem d_Mo_close_41 : decode y_Mo_close.2.2.1 41 = .ok (.bipush 52, 2) := mj_d (q := (41, .bipush 52, 2)) k_Mo_close 28 rfl
theorem d_Mo_close_43 : decode y_Mo_close.2.2.1 43 = .ok (.irem, 1) := mj_d (q := (43, .irem, 1)) k_Mo_close 29 rfl
theorem d_Mo_close_44 : decode y_Mo_close.2.2.1 44 = .ok (.bipush 13, 2) := mj_d (q := (44, .bipush 13, 2)) k_Mo_close 30 rfl
theorem d_Mo_close_46 : decode y_Mo_close.2.2.1 46 = .ok (.idiv, 1) := mj_d (q := (46, .idiv, 1)) k_Mo_close 31 rfl
theorem d_Mo_close_47 : decode y_Mo_close.2.2.1 47 = .ok (.iload_n 3, 1) := mj_d (q := (47, .iload_n 3, 1)) k_Mo_close 32 rfl
theorem d_Mo_close_48 : decode y_Mo_close.2.2.1 48 = .ok (.bipush 13, 2) := mj_d (q := (48, .bipush 13, 2)) k_Mo_close 33 rfl
theorem d_Mo_close_50 : decode y_Mo_close.2.2.1 50 = .ok (.irem, 1) := mj_d (q := (50, .irem, 1)) k_Mo_close 34 rfl
theorem d_Mo_close_51 : decode y_Mo_close.2.2.1 51 = .ok (.invokevirtual 82, 3) := mj_d (q := (51, .invokevirtual 82, 3)) k_Mo_close 35 rfl
theorem d_Mo_close_54 : decode y_Mo_close.2.2.1 54 = .ok (.istore 4, 2) := mj_d (q := (54, .istore 4, 2)) k_Mo_close 36 rfl
theorem d_Mo_close_56 : decode y_Mo_close.2.2.1 56 = .ok (.iload_n 2, 1) := mj_d (q := (56, .iload_n 2, 1)) k_Mo_close 37 rfl
theorem d_Mo_close_57 : decode y_Mo_close.2.2.1 57 = .ok (.ifCond .ne 8, 3) := mj_d (q := (57, .ifCond .ne 8, 3)) k_Mo_close 38 rfl
theorem d_Mo_close_60 : decode y_Mo_close.2.2.1 60 = .ok (.iload 4, 2) := mj_d (q := (60, .iload 4, 2)) k_Mo_close 39 rfl
theorem d_Mo_close_62 : decode y_Mo_close.2.2.1 62 = .ok (.ifCond .le 7, 3) := mj_d (q := (62, .ifCond .le 7, 3)) k_Mo_close 40 rfl
theorem d_Mo_close_65 : decode y_Mo_close.2.2.1 65 = .ok (.iconst 1, 1) := mj_d (q := (65, .iconst 1, 1)) k_Mo_close 41 rfl
theorem d_Mo_close_66 : decode y_Mo_close.2.2.1 66 = .ok (.goto 4, 3) := mj_d (q := (66, .goto 4, 3)) k_Mo_close 42 rfl
theorem d_Mo_close_69 : decode y_Mo_close.2.2.1 69 = .ok (.iconst 0, 1) := mj_d (q := (69, .iconst 0, 1)) k_Mo_close 43 rfl
theorem d_Mo_close_70 : decode y_Mo_close.2.2.1 70 = .ok (.istore_n 2, 1) := mj_d (q := (70, .istore_n 2, 1)) k_Mo_close 44 rfl
theorem d_Mo_close_71 : decode y_Mo_close.2.2.1 71 = .ok (.iinc 3 1, 3) := mj_d (q := (71, .iinc 3 1, 3)) k_Mo_close 45 rfl
theorem d_Mo_close_74 : decode y_Mo_close.2.2.1 74 = .ok (.goto (-64), 3) := mj_d (q := (74, .goto (-64), 3)) k_Mo_close 46 rfl
theorem d_Mo_close_77 : decode y_Mo_close.2.2.1 77 = .ok (.goto (-75), 3) := mj_d (q := (77, .goto (-75), 3)) k_Mo_close 47 rfl
theorem d_Mo_close_80 : decode y_Mo_close.2.2.1 80 = .ok (.return_, 1) := mj_d (q := (80, .return_, 1)) k_Mo_close 48 rfl
theorem d_Mo_follow_0 : decode y_Mo_follow.2.2.1 0 = .ok (.aload_n 0, 1) := mj_d (q := (0, .aload_n 0, 1)) k_Mo_follow 0 rfl
theorem d_Mo_follow_1 : decode y_Mo_follow.2.2.1 1 = .ok (.iload_n 2, 1) := mj_d (q := (1, .iload_n 2, 1)) k_Mo_follow 1 rfl
theorem d_Mo_follow_2 : decode y_Mo_follow.2.2.1 2 = .ok (.iload_n 3, 1) := mj_d (q := (2, .iload_n 3, 1)) k_Mo_follow 2 rfl
theorem d_Mo_follow_3 : decode y_Mo_follow.2.2.1 3 = .ok (.invokevirtual 65, 3) := mj_d (q := (3, .invokevirtual 65, 3)) k_Mo_follow 3 rfl
theorem d_Mo_follow_6 : decode y_Mo_follow.2.2.1 6 = .ok (.istore 5, 2) := mj_d (q := (6, .istore 5, 2)) k_Mo_follow 4 rfl
theorem d_Mo_follow_8 : decode y_Mo_follow.2.2.1 8 = .ok (.iconst 0, 1) := mj_d (q := (8, .iconst 0, 1)) k_Mo_follow 5 rfl
theorem d_Mo_follow_9 : decode y_Mo_follow.2.2.1 9 = .ok (.istore 6, 2) := mj_d (q := (9, .istore 6, 2)) k_Mo_follow 6 rfl
theorem d_Mo_follow_11 : decode y_Mo_follow.2.2.1 11 = .ok (.iload 5, 2) := mj_d (q := (11, .iload 5, 2)) k_Mo_follow 7 rfl
theorem d_Mo_follow_13 : decode y_Mo_follow.2.2.1 13 = .ok (.invokestatic 69, 3) := mj_d (q := (13, .invokestatic 69, 3)) k_Mo_follow 8 rfl
theorem d_Mo_follow_16 : decode y_Mo_follow.2.2.1 16 = .ok (.ifCond .eq 51, 3) := mj_d (q := (16, .ifCond .eq 51, 3)) k_Mo_follow 9 rfl
theorem d_Mo_follow_19 : decode y_Mo_follow.2.2.1 19 = .ok (.iconst 0, 1) := mj_d (q := (19, .iconst 0, 1)) k_Mo_follow 10 rfl
theorem d_Mo_follow_20 : decode y_Mo_follow.2.2.1 20 = .ok (.istore 7, 2) := mj_d (q := (20, .istore 7, 2)) k_Mo_follow 11 rfl
theorem d_Mo_follow_22 : decode y_Mo_follow.2.2.1 22 = .ok (.iload 7, 2) := mj_d (q := (22, .iload 7, 2)) k_Mo_follow 12 rfl
theorem d_Mo_follow_24 : decode y_Mo_follow.2.2.1 24 = .ok (.aload_n 0, 1) := mj_d (q := (24, .aload_n 0, 1)) k_Mo_follow 13 rfl
theorem d_Mo_follow_25 : decode y_Mo_follow.2.2.1 25 = .ok (.getfield 73, 3) := mj_d (q := (25, .getfield 73, 3)) k_Mo_follow 14 rfl
theorem d_Mo_follow_28 : decode y_Mo_follow.2.2.1 28 = .ok (.if_icmp .ge 39, 3) := mj_d (q := (28, .if_icmp .ge 39, 3)) k_Mo_follow 15 rfl
theorem d_Mo_follow_31 : decode y_Mo_follow.2.2.1 31 = .ok (.iload 6, 2) := mj_d (q := (31, .iload 6, 2)) k_Mo_follow 16 rfl
theorem d_Mo_follow_33 : decode y_Mo_follow.2.2.1 33 = .ok (.aload_n 0, 1) := mj_d (q := (33, .aload_n 0, 1)) k_Mo_follow 17 rfl
theorem d_Mo_follow_34 : decode y_Mo_follow.2.2.1 34 = .ok (.getfield 7, 3) := mj_d (q := (34, .getfield 7, 3)) k_Mo_follow 18 rfl
theorem d_Mo_follow_37 : decode y_Mo_follow.2.2.1 37 = .ok (.iload 7, 2) := mj_d (q := (37, .iload 7, 2)) k_Mo_follow 19 rfl
theorem d_Mo_follow_39 : decode y_Mo_follow.2.2.1 39 = .ok (.iaload, 1) := mj_d (q := (39, .iaload, 1)) k_Mo_follow 20 rfl
theorem d_Mo_follow_40 : decode y_Mo_follow.2.2.1 40 = .ok (.iload 5, 2) := mj_d (q := (40, .iload 5, 2)) k_Mo_follow 21 rfl
theorem d_Mo_follow_42 : decode y_Mo_follow.2.2.1 42 = .ok (.if_icmp .ne 15, 3) := mj_d (q := (42, .if_icmp .ne 15, 3)) k_Mo_follow 22 rfl
theorem d_Mo_follow_45 : decode y_Mo_follow.2.2.1 45 = .ok (.aload_n 0, 1) := mj_d (q := (45, .aload_n 0, 1)) k_Mo_follow 23 rfl
theorem d_Mo_follow_46 : decode y_Mo_follow.2.2.1 46 = .ok (.iload_n 1, 1) := mj_d (q := (46, .iload_n 1, 1)) k_Mo_follow 24 rfl
theorem d_Mo_follow_47 : decode y_Mo_follow.2.2.1 47 = .ok (.iload 7, 2) := mj_d (q := (47, .iload 7, 2)) k_Mo_follow 25 rfl
theorem d_Mo_follow_49 : decode y_Mo_follow.2.2.1 49 = .ok (.iconst 0, 1) := mj_d (q := (49, .iconst 0, 1)) k_Mo_follow 26 rfl
theorem d_Mo_follow_50 : decode y_Mo_follow.2.2.1 50 = .ok (.iload_n 1, 1) := mj_d (q := (50, .iload_n 1, 1)) k_Mo_follow 27 rfl
theorem d_Mo_follow_51 : decode y_Mo_follow.2.2.1 51 = .ok (.invokevirtual 76, 3) := mj_d (q := (51, .invokevirtual 76, 3)) k_Mo_follow 28 rfl
theorem d_Mo_follow_54 : decode y_Mo_follow.2.2.1 54 = .ok (.goto 4, 3) := mj_d (q := (54, .goto 4, 3)) k_Mo_follow 29 rfl
theorem d_Mo_follow_57 : decode y_Mo_follow.2.2.1 57 = .ok (.iconst 0, 1) := mj_d (q := (57, .iconst 0, 1)) k_Mo_follow 30 rfl
theorem d_Mo_follow_58 : decode y_Mo_follow.2.2.1 58 = .ok (.iadd, 1) := mj_d (q := (58, .iadd, 1)) k_Mo_follow 31 rfl
theorem d_Mo_follow_59 : decode y_Mo_follow.2.2.1 59 = .ok (.istore 6, 2) := mj_d (q := (59, .istore 6, 2)) k_Mo_follow 32 rfl
theorem d_Mo_follow_61 : decode y_Mo_follow.2.2.1 61 = .ok (.iinc 7 1, 3) := mj_d (q := (61, .iinc 7 1, 3)) k_Mo_follow 33 rfl
theorem d_Mo_follow_64 : decode y_Mo_follow.2.2.1 64 = .ok (.goto (-42), 3) := mj_d (q := (64, .goto (-42), 3)) k_Mo_follow 34 rfl
theorem d_Mo_follow_67 : decode y_Mo_follow.2.2.1 67 = .ok (.iload 5, 2) := mj_d (q := (67, .iload 5, 2)) k_Mo_follow 35 rfl
theorem d_Mo_follow_69 : decode y_Mo_follow.2.2.1 69 = .ok (.ifCond .ge 7, 3) := mj_d (q := (69, .ifCond .ge 7, 3)) k_Mo_follow 36 rfl
theorem d_Mo_follow_72 : decode y_Mo_follow.2.2.1 72 = .ok (.iload_n 2, 1) := mj_d (q := (72, .iload_n 2, 1)) k_Mo_follow 37 rfl
theorem d_Mo_follow_73 : decode y_Mo_follow.2.2.1 73 = .ok (.ifCond .ge 6, 3) := mj_d (q := (73, .ifCond .ge 6, 3)) k_Mo_follow 38 rfl
theorem d_Mo_follow_76 : decode y_Mo_follow.2.2.1 76 = .ok (.iload 6, 2) := mj_d (q := (76, .iload 6, 2)) k_Mo_follow 39 rfl
theorem d_Mo_follow_78 : decode y_Mo_follow.2.2.1 78 = .ok (.ireturn, 1) := mj_d (q := (78, .ireturn, 1)) k_Mo_follow 40 rfl
theorem d_Mo_follow_79 : decode y_Mo_follow.2.2.1 79 = .ok (.aload_n 0, 1) := mj_d (q := (79, .aload_n 0, 1)) k_Mo_follow 41 rfl
theorem d_Mo_follow_80 : decode y_Mo_follow.2.2.1 80 = .ok (.getfield 45, 3) := mj_d (q := (80, .getfield 45, 3)) k_Mo_follow 42 rfl
theorem d_Mo_follow_83 : decode y_Mo_follow.2.2.1 83 = .ok (.ifCond .eq 24, 3) := mj_d (q := (83, .ifCond .eq 24, 3)) k_Mo_follow 43 rfl
theorem d_Mo_follow_86 : decode y_Mo_follow.2.2.1 86 = .ok (.iload 4, 2) := mj_d (q := (86, .iload 4, 2)) k_Mo_follow 44 rfl
theorem d_Mo_follow_88 : decode y_Mo_follow.2.2.1 88 = .ok (.iload_n 1, 1) := mj_d (q := (88, .iload_n 1, 1)) k_Mo_follow 45 rfl
theorem d_Mo_follow_89 : decode y_Mo_follow.2.2.1 89 = .ok (.if_icmp .ge 18, 3) := mj_d (q := (89, .if_icmp .ge 18, 3)) k_Mo_follow 46 rfl
theorem d_Mo_follow_92 : decode y_Mo_follow.2.2.1 92 = .ok (.aload_n 0, 1) := mj_d (q := (92, .aload_n 0, 1)) k_Mo_follow 47 rfl
theorem d_Mo_follow_93 : decode y_Mo_follow.2.2.1 93 = .ok (.iload 4, 2) := mj_d (q := (93, .iload 4, 2)) k_Mo_follow 48 rfl
theorem d_Mo_follow_95 : decode y_Mo_follow.2.2.1 95 = .ok (.aload_n 0, 1) := mj_d (q := (95, .aload_n 0, 1)) k_Mo_follow 49 rfl
theorem d_Mo_follow_96 : decode y_Mo_follow.2.2.1 96 = .ok (.getfield 7, 3) := mj_d (q := (96, .getfield 7, 3)) k_Mo_follow 50 rfl
theorem d_Mo_follow_99 : decode y_Mo_follow.2.2.1 99 = .ok (.iload_n 2, 1) := mj_d (q := (99, .iload_n 2, 1)) k_Mo_follow 51 rfl
theorem d_Mo_follow_100 : decode y_Mo_follow.2.2.1 100 = .ok (.iaload, 1) := mj_d (q := (100, .iaload, 1)) k_Mo_follow 52 rfl
theorem d_Mo_follow_101 : decode y_Mo_follow.2.2.1 101 = .ok (.invokevirtual 79, 3) := mj_d (q := (101, .invokevirtual 79, 3)) k_Mo_follow 53 rfl
theorem d_Mo_follow_104 : decode y_Mo_follow.2.2.1 104 = .ok (.goto 4, 3) := mj_d (q := (104, .goto 4, 3)) k_Mo_follow 54 rfl
theorem d_Mo_follow_107 : decode y_Mo_follow.2.2.1 107 = .ok (.iconst (-1), 1) := mj_d (q := (107, .iconst (-1), 1)) k_Mo_follow 55 rfl
theorem d_Mo_follow_108 : decode y_Mo_follow.2.2.1 108 = .ok (.istore 7, 2) := mj_d (q := (108, .istore 7, 2)) k_Mo_follow 56 rfl
theorem d_Mo_follow_110 : decode y_Mo_follow.2.2.1 110 = .ok (.iload 7, 2) := mj_d (q := (110, .iload 7, 2)) k_Mo_follow 57 rfl
theorem d_Mo_follow_112 : decode y_Mo_follow.2.2.1 112 = .ok (.ifCond .lt 32, 3) := mj_d (q := (112, .ifCond .lt 32, 3)) k_Mo_follow 58 rfl
theorem d_Mo_follow_115 : decode y_Mo_follow.2.2.1 115 = .ok (.iload 6, 2) := mj_d (q := (115, .iload 6, 2)) k_Mo_follow 59 rfl
theorem d_Mo_follow_117 : decode y_Mo_follow.2.2.1 117 = .ok (.aload_n 0, 1) := mj_d (q := (117, .aload_n 0, 1)) k_Mo_follow 60 rfl
theorem d_Mo_follow_118 : decode y_Mo_follow.2.2.1 118 = .ok (.iload_n 1, 1) := mj_d (q := (118, .iload_n 1, 1)) k_Mo_follow 61 rfl
theorem d_Mo_follow_119 : decode y_Mo_follow.2.2.1 119 = .ok (.iload 7, 2) := mj_d (q := (119, .iload 7, 2)) k_Mo_follow 62 rfl
theorem d_Mo_follow_121 : decode y_Mo_follow.2.2.1 121 = .ok (.bipush 52, 2) := mj_d (q := (121, .bipush 52, 2)) k_Mo_follow 63 rfl
theorem d_Mo_follow_123 : decode y_Mo_follow.2.2.1 123 = .ok (.idiv, 1) := mj_d (q := (123, .idiv, 1)) k_Mo_follow 64 rfl
theorem d_Mo_follow_124 : decode y_Mo_follow.2.2.1 124 = .ok (.iconst 1, 1) := mj_d (q := (124, .iconst 1, 1)) k_Mo_follow 65 rfl
theorem d_Mo_follow_125 : decode y_Mo_follow.2.2.1 125 = .ok (.isub, 1) := mj_d (q := (125, .isub, 1)) k_Mo_follow 66 rfl
theorem d_Mo_follow_126 : decode y_Mo_follow.2.2.1 126 = .ok (.iload 7, 2) := mj_d (q := (126, .iload 7, 2)) k_Mo_follow 67 rfl
theorem d_Mo_follow_128 : decode y_Mo_follow.2.2.1 128 = .ok (.bipush 52, 2) := mj_d (q := (128, .bipush 52, 2)) k_Mo_follow 68 rfl
theorem d_Mo_follow_130 : decode y_Mo_follow.2.2.1 130 = .ok (.irem, 1) := mj_d (q := (130, .irem, 1)) k_Mo_follow 69 rfl
theorem d_Mo_follow_131 : decode y_Mo_follow.2.2.1 131 = .ok (.bipush 13, 2) := mj_d (q := (131, .bipush 13, 2)) k_Mo_follow 70 rfl
theorem d_Mo_follow_133 : decode y_Mo_follow.2.2.1 133 = .ok (.idiv, 1) := mj_d (q := (133, .idiv, 1)) k_Mo_follow 71 rfl
theorem d_Mo_follow_134 : decode y_Mo_follow.2.2.1 134 = .ok (.iload 7, 2) := mj_d (q := (134, .iload 7, 2)) k_Mo_follow 72 rfl
theorem d_Mo_follow_136 : decode y_Mo_follow.2.2.1 136 = .ok (.bipush 13, 2) := mj_d (q := (136, .bipush 13, 2)) k_Mo_follow 73 rfl
theorem d_Mo_follow_138 : decode y_Mo_follow.2.2.1 138 = .ok (.irem, 1) := mj_d (q := (138, .irem, 1)) k_Mo_follow 74 rfl
theorem d_Mo_follow_139 : decode y_Mo_follow.2.2.1 139 = .ok (.invokevirtual 76, 3) := mj_d (q := (139, .invokevirtual 76, 3)) k_Mo_follow 75 rfl
theorem d_Mo_follow_142 : decode y_Mo_follow.2.2.1 142 = .ok (.iadd, 1) := mj_d (q := (142, .iadd, 1)) k_Mo_follow 76 rfl
theorem d_Mo_follow_143 : decode y_Mo_follow.2.2.1 143 = .ok (.ireturn, 1) := mj_d (q := (143, .ireturn, 1)) k_Mo_follow 77 rfl
theorem d_Mo_follow_144 : decode y_Mo_follow.2.2.1 144 = .ok (.iconst 0, 1) := mj_d (q := (144, .iconst 0, 1)) k_Mo_follow 78 rfl
theorem d_Mo_follow_145 : decode y_Mo_follow.2.2.1 145 = .ok (.istore 8, 2) := mj_d (q := (145, .istore 8, 2)) k_Mo_follow 79 rfl
theorem d_Mo_follow_147 : decode y_Mo_follow.2.2.1 147 = .ok (.iload 8, 2) := mj_d (q := (147, .iload 8, 2)) k_Mo_follow 80 rfl
theorem d_Mo_follow_149 : decode y_Mo_follow.2.2.1 149 = .ok (.sipush 572, 3) := mj_d (q := (149, .sipush 572, 3)) k_Mo_follow 81 rfl
theorem d_Mo_follow_152 : decode y_Mo_follow.2.2.1 152 = .ok (.if_icmp .ge 86, 3) := mj_d (q := (152, .if_icmp .ge 86, 3)) k_Mo_follow 82 rfl
theorem d_Mo_follow_155 : decode y_Mo_follow.2.2.1 155 = .ok (.aload_n 0, 1) := mj_d (q := (155, .aload_n 0, 1)) k_Mo_follow 83 rfl
theorem d_Mo_follow_156 : decode y_Mo_follow.2.2.1 156 = .ok (.getfield 22, 3) := mj_d (q := (156, .getfield 22, 3)) k_Mo_follow 84 rfl
theorem d_Mo_follow_159 : decode y_Mo_follow.2.2.1 159 = .ok (.sipush 572, 3) := mj_d (q := (159, .sipush 572, 3)) k_Mo_follow 85 rfl
theorem d_Mo_follow_162 : decode y_Mo_follow.2.2.1 162 = .ok (.iload 4, 2) := mj_d (q := (162, .iload 4, 2)) k_Mo_follow 86 rfl
theorem d_Mo_follow_164 : decode y_Mo_follow.2.2.1 164 = .ok (.imul, 1) := mj_d (q := (164, .imul, 1)) k_Mo_follow 87 rfl
theorem d_Mo_follow_165 : decode y_Mo_follow.2.2.1 165 = .ok (.iload 8, 2) := mj_d (q := (165, .iload 8, 2)) k_Mo_follow 88 rfl
theorem d_Mo_follow_167 : decode y_Mo_follow.2.2.1 167 = .ok (.iadd, 1) := mj_d (q := (167, .iadd, 1)) k_Mo_follow 89 rfl
theorem d_Mo_follow_168 : decode y_Mo_follow.2.2.1 168 = .ok (.baload, 1) := mj_d (q := (168, .baload, 1)) k_Mo_follow 90 rfl
theorem d_Mo_follow_169 : decode y_Mo_follow.2.2.1 169 = .ok (.ifCond .eq 63, 3) := mj_d (q := (169, .ifCond .eq 63, 3)) k_Mo_follow 91 rfl
theorem d_Mo_follow_172 : decode y_Mo_follow.2.2.1 172 = .ok (.aload_n 0, 1) := mj_d (q := (172, .aload_n 0, 1)) k_Mo_follow 92 rfl
theorem d_Mo_follow_173 : decode y_Mo_follow.2.2.1 173 = .ok (.iload 8, 2) := mj_d (q := (173, .iload 8, 2)) k_Mo_follow 93 rfl
theorem d_Mo_follow_175 : decode y_Mo_follow.2.2.1 175 = .ok (.bipush 52, 2) := mj_d (q := (175, .bipush 52, 2)) k_Mo_follow 94 rfl
theorem d_Mo_follow_177 : decode y_Mo_follow.2.2.1 177 = .ok (.idiv, 1) := mj_d (q := (177, .idiv, 1)) k_Mo_follow 95 rfl
theorem d_Mo_follow_178 : decode y_Mo_follow.2.2.1 178 = .ok (.iconst 1, 1) := mj_d (q := (178, .iconst 1, 1)) k_Mo_follow 96 rfl
theorem d_Mo_follow_179 : decode y_Mo_follow.2.2.1 179 = .ok (.isub, 1) := mj_d (q := (179, .isub, 1)) k_Mo_follow 97 rfl
theorem d_Mo_follow_180 : decode y_Mo_follow.2.2.1 180 = .ok (.iload 8, 2) := mj_d (q := (180, .iload 8, 2)) k_Mo_follow 98 rfl
theorem d_Mo_follow_182 : decode y_Mo_follow.2.2.1 182 = .ok (.bipush 52, 2) := mj_d (q := (182, .bipush 52, 2)) k_Mo_follow 99 rfl
theorem d_Mo_follow_184 : decode y_Mo_follow.2.2.1 184 = .ok (.irem, 1) := mj_d (q := (184, .irem, 1)) k_Mo_follow 100 rfl
theorem d_Mo_follow_185 : decode y_Mo_follow.2.2.1 185 = .ok (.bipush 13, 2) := mj_d (q := (185, .bipush 13, 2)) k_Mo_follow 101 rfl
theorem d_Mo_follow_187 : decode y_Mo_follow.2.2.1 187 = .ok (.idiv, 1) := mj_d (q := (187, .idiv, 1)) k_Mo_follow 102 rfl
theorem d_Mo_follow_188 : decode y_Mo_follow.2.2.1 188 = .ok (.invokevirtual 65, 3) := mj_d (q := (188, .invokevirtual 65, 3)) k_Mo_follow 103 rfl
theorem d_Mo_follow_191 : decode y_Mo_follow.2.2.1 191 = .ok (.aload_n 0, 1) := mj_d (q := (191, .aload_n 0, 1)) k_Mo_follow 104 rfl
theorem d_Mo_follow_192 : decode y_Mo_follow.2.2.1 192 = .ok (.getfield 7, 3) := mj_d (q := (192, .getfield 7, 3)) k_Mo_follow 105 rfl
theorem d_Mo_follow_195 : decode y_Mo_follow.2.2.1 195 = .ok (.iload_n 2, 1) := mj_d (q := (195, .iload_n 2, 1)) k_Mo_follow 106 rfl
theorem d_Mo_follow_196 : decode y_Mo_follow.2.2.1 196 = .ok (.iaload, 1) := mj_d (q := (196, .iaload, 1)) k_Mo_follow 107 rfl
theorem d_Mo_follow_197 : decode y_Mo_follow.2.2.1 197 = .ok (.if_icmp .ne 35, 3) := mj_d (q := (197, .if_icmp .ne 35, 3)) k_Mo_follow 108 rfl
theorem d_Mo_follow_200 : decode y_Mo_follow.2.2.1 200 = .ok (.iload 6, 2) := mj_d (q := (200, .iload 6, 2)) k_Mo_follow 109 rfl
theorem d_Mo_follow_202 : decode y_Mo_follow.2.2.1 202 = .ok (.aload_n 0, 1) := mj_d (q := (202, .aload_n 0, 1)) k_Mo_follow 110 rfl
theorem d_Mo_follow_203 : decode y_Mo_follow.2.2.1 203 = .ok (.iload_n 1, 1) := mj_d (q := (203, .iload_n 1, 1)) k_Mo_follow 111 rfl
theorem d_Mo_follow_204 : decode y_Mo_follow.2.2.1 204 = .ok (.iload 8, 2) := mj_d (q := (204, .iload 8, 2)) k_Mo_follow 112 rfl
theorem d_Mo_follow_206 : decode y_Mo_follow.2.2.1 206 = .ok (.bipush 52, 2) := mj_d (q := (206, .bipush 52, 2)) k_Mo_follow 113 rfl
theorem d_Mo_follow_208 : decode y_Mo_follow.2.2.1 208 = .ok (.idiv, 1) := mj_d (q := (208, .idiv, 1)) k_Mo_follow 114 rfl
theorem d_Mo_follow_209 : decode y_Mo_follow.2.2.1 209 = .ok (.iconst 1, 1) := mj_d (q := (209, .iconst 1, 1)) k_Mo_follow 115 rfl
theorem d_Mo_follow_210 : decode y_Mo_follow.2.2.1 210 = .ok (.isub, 1) := mj_d (q := (210, .isub, 1)) k_Mo_follow 116 rfl
theorem d_Mo_follow_211 : decode y_Mo_follow.2.2.1 211 = .ok (.iload 8, 2) := mj_d (q := (211, .iload 8, 2)) k_Mo_follow 117 rfl
theorem d_Mo_follow_213 : decode y_Mo_follow.2.2.1 213 = .ok (.bipush 52, 2) := mj_d (q := (213, .bipush 52, 2)) k_Mo_follow 118 rfl
theorem d_Mo_follow_215 : decode y_Mo_follow.2.2.1 215 = .ok (.irem, 1) := mj_d (q := (215, .irem, 1)) k_Mo_follow 119 rfl
theorem d_Mo_follow_216 : decode y_Mo_follow.2.2.1 216 = .ok (.bipush 13, 2) := mj_d (q := (216, .bipush 13, 2)) k_Mo_follow 120 rfl
theorem d_Mo_follow_218 : decode y_Mo_follow.2.2.1 218 = .ok (.idiv, 1) := mj_d (q := (218, .idiv, 1)) k_Mo_follow 121 rfl
theorem d_Mo_follow_219 : decode y_Mo_follow.2.2.1 219 = .ok (.iconst 1, 1) := mj_d (q := (219, .iconst 1, 1)) k_Mo_follow 122 rfl
theorem d_Mo_follow_220 : decode y_Mo_follow.2.2.1 220 = .ok (.iadd, 1) := mj_d (q := (220, .iadd, 1)) k_Mo_follow 123 rfl
theorem d_Mo_follow_221 : decode y_Mo_follow.2.2.1 221 = .ok (.iload 8, 2) := mj_d (q := (221, .iload 8, 2)) k_Mo_follow 124 rfl
theorem d_Mo_follow_223 : decode y_Mo_follow.2.2.1 223 = .ok (.bipush 13, 2) := mj_d (q := (223, .bipush 13, 2)) k_Mo_follow 125 rfl
theorem d_Mo_follow_225 : decode y_Mo_follow.2.2.1 225 = .ok (.irem, 1) := mj_d (q := (225, .irem, 1)) k_Mo_follow 126 rfl
theorem d_Mo_follow_226 : decode y_Mo_follow.2.2.1 226 = .ok (.invokevirtual 76, 3) := mj_d (q := (226, .invokevirtual 76, 3)) k_Mo_follow 127 rfl
theorem d_Mo_follow_229 : decode y_Mo_follow.2.2.1 229 = .ok (.iadd, 1) := mj_d (q := (229, .iadd, 1)) k_Mo_follow 128 rfl
theorem d_Mo_follow_230 : decode y_Mo_follow.2.2.1 230 = .ok (.istore 6, 2) := mj_d (q := (230, .istore 6, 2)) k_Mo_follow 129 rfl
theorem d_Mo_follow_232 : decode y_Mo_follow.2.2.1 232 = .ok (.iinc 8 1, 3) := mj_d (q := (232, .iinc 8 1, 3)) k_Mo_follow 130 rfl
theorem d_Mo_follow_235 : decode y_Mo_follow.2.2.1 235 = .ok (.goto (-88), 3) := mj_d (q := (235, .goto (-88), 3)) k_Mo_follow 131 rfl
theorem d_Mo_follow_238 : decode y_Mo_follow.2.2.1 238 = .ok (.iload 6, 2) := mj_d (q := (238, .iload 6, 2)) k_Mo_follow 132 rfl
theorem d_Mo_follow_240 : decode y_Mo_follow.2.2.1 240 = .ok (.ireturn, 1) := mj_d (q := (240, .ireturn, 1)) k_Mo_follow 133 rfl
theorem d_Mo_isNonterminal_0 : decode y_Mo_isNonterminal.2.2.1 0 = .ok (.iload_n 0, 1) := mj_d (q := (0, .iload_n 0, 1)) k_Mo_isNonterminal 0 rfl
theorem d_Mo_isNonterminal_1 : decode y_Mo_isNonterminal.2.2.1 1 = .ok (.ifCond .lt 12, 3) := mj_d (q := (1, .ifCond .lt 12, 3)) k_Mo_isNonterminal 1 rfl
theorem d_Mo_isNonterminal_4 : decode y_Mo_isNonterminal.2.2.1 4 = .ok (.iload_n 0, 1) := mj_d (q := (4, .iload_n 0, 1)) k_Mo_isNonterminal 2 rfl
theorem d_Mo_isNonterminal_5 : decode y_Mo_isNonterminal.2.2.1 5 = .ok (.iconst 4, 1) := mj_d (q := (5, .iconst 4, 1)) k_Mo_isNonterminal 3 rfl
theorem d_Mo_isNonterminal_6 : decode y_Mo_isNonterminal.2.2.1 6 = .ok (.if_icmp .gt 7, 3) := mj_d (q := (6, .if_icmp .gt 7, 3)) k_Mo_isNonterminal 4 rfl
theorem d_Mo_isNonterminal_9 : decode y_Mo_isNonterminal.2.2.1 9 = .ok (.iconst 1, 1) := mj_d (q := (9, .iconst 1, 1)) k_Mo_isNonterminal 5 rfl
theorem d_Mo_isNonterminal_10 : decode y_Mo_isNonterminal.2.2.1 10 = .ok (.goto 4, 3) := mj_d (q := (10, .goto 4, 3)) k_Mo_isNonterminal 6 rfl
theorem d_Mo_isNonterminal_13 : decode y_Mo_isNonterminal.2.2.1 13 = .ok (.iconst 0, 1) := mj_d (q := (13, .iconst 0, 1)) k_Mo_isNonterminal 7 rfl
theorem d_Mo_isNonterminal_14 : decode y_Mo_isNonterminal.2.2.1 14 = .ok (.ireturn, 1) := mj_d (q := (14, .ireturn, 1)) k_Mo_isNonterminal 8 rfl
theorem d_Mo_add_0 : decode y_Mo_add.2.2.1 0 = .ok (.iload_n 1, 1) := mj_d (q := (0, .iload_n 1, 1)) k_Mo_add 0 rfl
theorem d_Mo_add_1 : decode y_Mo_add.2.2.1 1 = .ok (.iload_n 2, 1) := mj_d (q := (1, .iload_n 2, 1)) k_Mo_add 1 rfl
theorem d_Mo_add_2 : decode y_Mo_add.2.2.1 2 = .ok (.iload_n 3, 1) := mj_d (q := (2, .iload_n 3, 1)) k_Mo_add 2 rfl
theorem d_Mo_add_3 : decode y_Mo_add.2.2.1 3 = .ok (.iload 4, 2) := mj_d (q := (3, .iload 4, 2)) k_Mo_add 3 rfl
theorem d_Mo_add_5 : decode y_Mo_add.2.2.1 5 = .ok (.invokestatic 61, 3) := mj_d (q := (5, .invokestatic 61, 3)) k_Mo_add 4 rfl
theorem d_Mo_add_8 : decode y_Mo_add.2.2.1 8 = .ok (.istore 5, 2) := mj_d (q := (8, .istore 5, 2)) k_Mo_add 5 rfl
theorem d_Mo_add_10 : decode y_Mo_add.2.2.1 10 = .ok (.aload_n 0, 1) := mj_d (q := (10, .aload_n 0, 1)) k_Mo_add 6 rfl
theorem d_Mo_add_11 : decode y_Mo_add.2.2.1 11 = .ok (.getfield 22, 3) := mj_d (q := (11, .getfield 22, 3)) k_Mo_add 7 rfl
theorem d_Mo_add_14 : decode y_Mo_add.2.2.1 14 = .ok (.iload 5, 2) := mj_d (q := (14, .iload 5, 2)) k_Mo_add 8 rfl
theorem d_Mo_add_16 : decode y_Mo_add.2.2.1 16 = .ok (.baload, 1) := mj_d (q := (16, .baload, 1)) k_Mo_add 9 rfl
theorem d_Mo_add_17 : decode y_Mo_add.2.2.1 17 = .ok (.ifCond .eq 5, 3) := mj_d (q := (17, .ifCond .eq 5, 3)) k_Mo_add 10 rfl
theorem d_Mo_add_20 : decode y_Mo_add.2.2.1 20 = .ok (.iconst 0, 1) := mj_d (q := (20, .iconst 0, 1)) k_Mo_add 11 rfl
theorem d_Mo_add_21 : decode y_Mo_add.2.2.1 21 = .ok (.ireturn, 1) := mj_d (q := (21, .ireturn, 1)) k_Mo_add 12 rfl
theorem d_Mo_add_22 : decode y_Mo_add.2.2.1 22 = .ok (.aload_n 0, 1) := mj_d (q := (22, .aload_n 0, 1)) k_Mo_add 13 rfl
theorem d_Mo_add_23 : decode y_Mo_add.2.2.1 23 = .ok (.getfield 22, 3) := mj_d (q := (23, .getfield 22, 3)) k_Mo_add 14 rfl
theorem d_Mo_add_26 : decode y_Mo_add.2.2.1 26 = .ok (.iload 5, 2) := mj_d (q := (26, .iload 5, 2)) k_Mo_add 15 rfl
theorem d_Mo_add_28 : decode y_Mo_add.2.2.1 28 = .ok (.iconst 1, 1) := mj_d (q := (28, .iconst 1, 1)) k_Mo_add 16 rfl
theorem d_Mo_add_29 : decode y_Mo_add.2.2.1 29 = .ok (.bastore, 1) := mj_d (q := (29, .bastore, 1)) k_Mo_add 17 rfl
theorem d_Mo_add_30 : decode y_Mo_add.2.2.1 30 = .ok (.iconst 1, 1) := mj_d (q := (30, .iconst 1, 1)) k_Mo_add 18 rfl
theorem d_Mo_add_31 : decode y_Mo_add.2.2.1 31 = .ok (.ireturn, 1) := mj_d (q := (31, .ireturn, 1)) k_Mo_add 19 rfl
theorem d_Mo_place_0 : decode y_Mo_place.2.2.1 0 = .ok (.sipush 572, 3) := mj_d (q := (0, .sipush 572, 3)) k_Mo_place 0 rfl
theorem d_Mo_place_3 : decode y_Mo_place.2.2.1 3 = .ok (.iload_n 0, 1) := mj_d (q := (3, .iload_n 0, 1)) k_Mo_place 1 rfl
theorem d_Mo_place_4 : decode y_Mo_place.2.2.1 4 = .ok (.imul, 1) := mj_d (q := (4, .imul, 1)) k_Mo_place 2 rfl
theorem d_Mo_place_5 : decode y_Mo_place.2.2.1 5 = .ok (.bipush 52, 2) := mj_d (q := (5, .bipush 52, 2)) k_Mo_place 3 rfl
theorem d_Mo_place_7 : decode y_Mo_place.2.2.1 7 = .ok (.iload_n 1, 1) := mj_d (q := (7, .iload_n 1, 1)) k_Mo_place 4 rfl
theorem d_Mo_place_8 : decode y_Mo_place.2.2.1 8 = .ok (.iconst 1, 1) := mj_d (q := (8, .iconst 1, 1)) k_Mo_place 5 rfl
theorem d_Mo_place_9 : decode y_Mo_place.2.2.1 9 = .ok (.iadd, 1) := mj_d (q := (9, .iadd, 1)) k_Mo_place 6 rfl
theorem d_Mo_place_10 : decode y_Mo_place.2.2.1 10 = .ok (.imul, 1) := mj_d (q := (10, .imul, 1)) k_Mo_place 7 rfl
theorem d_Mo_place_11 : decode y_Mo_place.2.2.1 11 = .ok (.iadd, 1) := mj_d (q := (11, .iadd, 1)) k_Mo_place 8 rfl
theorem d_Mo_place_12 : decode y_Mo_place.2.2.1 12 = .ok (.bipush 13, 2) := mj_d (q := (12, .bipush 13, 2)) k_Mo_place 9 rfl
theorem d_Mo_place_14 : decode y_Mo_place.2.2.1 14 = .ok (.iload_n 2, 1) := mj_d (q := (14, .iload_n 2, 1)) k_Mo_place 10 rfl
theorem d_Mo_place_15 : decode y_Mo_place.2.2.1 15 = .ok (.imul, 1) := mj_d (q := (15, .imul, 1)) k_Mo_place 11 rfl
theorem d_Mo_place_16 : decode y_Mo_place.2.2.1 16 = .ok (.iadd, 1) := mj_d (q := (16, .iadd, 1)) k_Mo_place 12 rfl
theorem d_Mo_place_17 : decode y_Mo_place.2.2.1 17 = .ok (.iload_n 3, 1) := mj_d (q := (17, .iload_n 3, 1)) k_Mo_place 13 rfl
theorem d_Mo_place_18 : decode y_Mo_place.2.2.1 18 = .ok (.iadd, 1) := mj_d (q := (18, .iadd, 1)) k_Mo_place 14 rfl
theorem d_Mo_place_19 : decode y_Mo_place.2.2.1 19 = .ok (.ireturn, 1) := mj_d (q := (19, .ireturn, 1)) k_Mo_place 15 rfl
theorem d_Mo_leapOf_0 : decode y_Mo_leapOf.2.2.1 0 = .ok (.iconst (-1), 1) := mj_d (q := (0, .iconst (-1), 1)) k_Mo_leapOf 0 rfl
theorem d_Mo_leapOf_1 : decode y_Mo_leapOf.2.2.1 1 = .ok (.istore_n 3, 1) := mj_d (q := (1, .istore_n 3, 1)) k_Mo_leapOf 1 rfl
theorem d_Mo_leapOf_2 : decode y_Mo_leapOf.2.2.1 2 = .ok (.iload_n 1, 1) := mj_d (q := (2, .iload_n 1, 1)) k_Mo_leapOf 2 rfl
theorem d_Mo_leapOf_3 : decode y_Mo_leapOf.2.2.1 3 = .ok (.istore 4, 2) := mj_d (q := (3, .istore 4, 2)) k_Mo_leapOf 3 rfl
theorem d_Mo_leapOf_5 : decode y_Mo_leapOf.2.2.1 5 = .ok (.iload_n 2, 1) := mj_d (q := (5, .iload_n 2, 1)) k_Mo_leapOf 4 rfl
theorem d_Mo_leapOf_6 : decode y_Mo_leapOf.2.2.1 6 = .ok (.istore 5, 2) := mj_d (q := (6, .istore 5, 2)) k_Mo_leapOf 5 rfl
theorem d_Mo_leapOf_8 : decode y_Mo_leapOf.2.2.1 8 = .ok (.iload 4, 2) := mj_d (q := (8, .iload 4, 2)) k_Mo_leapOf 6 rfl
theorem d_Mo_leapOf_10 : decode y_Mo_leapOf.2.2.1 10 = .ok (.ifCond .lt 181, 3) := mj_d (q := (10, .ifCond .lt 181, 3)) k_Mo_leapOf 7 rfl
theorem d_Mo_leapOf_13 : decode y_Mo_leapOf.2.2.1 13 = .ok (.iconst 0, 1) := mj_d (q := (13, .iconst 0, 1)) k_Mo_leapOf 8 rfl
theorem d_Mo_leapOf_14 : decode y_Mo_leapOf.2.2.1 14 = .ok (.istore 6, 2) := mj_d (q := (14, .istore 6, 2)) k_Mo_leapOf 9 rfl
theorem d_Mo_leapOf_16 : decode y_Mo_leapOf.2.2.1 16 = .ok (.iconst 0, 1) := mj_d (q := (16, .iconst 0, 1)) k_Mo_leapOf 10 rfl
theorem d_Mo_leapOf_17 : decode y_Mo_leapOf.2.2.1 17 = .ok (.istore 7, 2) := mj_d (q := (17, .istore 7, 2)) k_Mo_leapOf 11 rfl
theorem d_Mo_leapOf_19 : decode y_Mo_leapOf.2.2.1 19 = .ok (.iconst 0, 1) := mj_d (q := (19, .iconst 0, 1)) k_Mo_leapOf 12 rfl
theorem d_Mo_leapOf_20 : decode y_Mo_leapOf.2.2.1 20 = .ok (.istore 8, 2) := mj_d (q := (20, .istore 8, 2)) k_Mo_leapOf 13 rfl
theorem d_Mo_leapOf_22 : decode y_Mo_leapOf.2.2.1 22 = .ok (.iload 8, 2) := mj_d (q := (22, .iload 8, 2)) k_Mo_leapOf 14 rfl
theorem d_Mo_leapOf_24 : decode y_Mo_leapOf.2.2.1 24 = .ok (.sipush 572, 3) := mj_d (q := (24, .sipush 572, 3)) k_Mo_leapOf 15 rfl
theorem d_Mo_leapOf_27 : decode y_Mo_leapOf.2.2.1 27 = .ok (.if_icmp .ge 57, 3) := mj_d (q := (27, .if_icmp .ge 57, 3)) k_Mo_leapOf 16 rfl
theorem d_Mo_leapOf_30 : decode y_Mo_leapOf.2.2.1 30 = .ok (.aload_n 0, 1) := mj_d (q := (30, .aload_n 0, 1)) k_Mo_leapOf 17 rfl
theorem d_Mo_leapOf_31 : decode y_Mo_leapOf.2.2.1 31 = .ok (.getfield 22, 3) := mj_d (q := (31, .getfield 22, 3)) k_Mo_leapOf 18 rfl
theorem d_Mo_leapOf_34 : decode y_Mo_leapOf.2.2.1 34 = .ok (.sipush 572, 3) := mj_d (q := (34, .sipush 572, 3)) k_Mo_leapOf 19 rfl
theorem d_Mo_leapOf_37 : decode y_Mo_leapOf.2.2.1 37 = .ok (.iload 4, 2) := mj_d (q := (37, .iload 4, 2)) k_Mo_leapOf 20 rfl
theorem d_Mo_leapOf_39 : decode y_Mo_leapOf.2.2.1 39 = .ok (.imul, 1) := mj_d (q := (39, .imul, 1)) k_Mo_leapOf 21 rfl
theorem d_Mo_leapOf_40 : decode y_Mo_leapOf.2.2.1 40 = .ok (.iload 8, 2) := mj_d (q := (40, .iload 8, 2)) k_Mo_leapOf 22 rfl
theorem d_Mo_leapOf_42 : decode y_Mo_leapOf.2.2.1 42 = .ok (.iadd, 1) := mj_d (q := (42, .iadd, 1)) k_Mo_leapOf 23 rfl
theorem d_Mo_leapOf_43 : decode y_Mo_leapOf.2.2.1 43 = .ok (.baload, 1) := mj_d (q := (43, .baload, 1)) k_Mo_leapOf 24 rfl
theorem d_Mo_leapOf_44 : decode y_Mo_leapOf.2.2.1 44 = .ok (.ifCond .eq 34, 3) := mj_d (q := (44, .ifCond .eq 34, 3)) k_Mo_leapOf 25 rfl
theorem d_Mo_leapOf_47 : decode y_Mo_leapOf.2.2.1 47 = .ok (.aload_n 0, 1) := mj_d (q := (47, .aload_n 0, 1)) k_Mo_leapOf 26 rfl
theorem d_Mo_leapOf_48 : decode y_Mo_leapOf.2.2.1 48 = .ok (.iload 8, 2) := mj_d (q := (48, .iload 8, 2)) k_Mo_leapOf 27 rfl
theorem d_Mo_leapOf_50 : decode y_Mo_leapOf.2.2.1 50 = .ok (.bipush 52, 2) := mj_d (q := (50, .bipush 52, 2)) k_Mo_leapOf 28 rfl
theorem d_Mo_leapOf_52 : decode y_Mo_leapOf.2.2.1 52 = .ok (.idiv, 1) := mj_d (q := (52, .idiv, 1)) k_Mo_leapOf 29 rfl
theorem d_Mo_leapOf_53 : decode y_Mo_leapOf.2.2.1 53 = .ok (.iconst 1, 1) := mj_d (q := (53, .iconst 1, 1)) k_Mo_leapOf 30 rfl
theorem d_Mo_leapOf_54 : decode y_Mo_leapOf.2.2.1 54 = .ok (.isub, 1) := mj_d (q := (54, .isub, 1)) k_Mo_leapOf 31 rfl
theorem d_Mo_leapOf_55 : decode y_Mo_leapOf.2.2.1 55 = .ok (.iload 8, 2) := mj_d (q := (55, .iload 8, 2)) k_Mo_leapOf 32 rfl
theorem d_Mo_leapOf_57 : decode y_Mo_leapOf.2.2.1 57 = .ok (.bipush 52, 2) := mj_d (q := (57, .bipush 52, 2)) k_Mo_leapOf 33 rfl
theorem d_Mo_leapOf_59 : decode y_Mo_leapOf.2.2.1 59 = .ok (.irem, 1) := mj_d (q := (59, .irem, 1)) k_Mo_leapOf 34 rfl
theorem d_Mo_leapOf_60 : decode y_Mo_leapOf.2.2.1 60 = .ok (.bipush 13, 2) := mj_d (q := (60, .bipush 13, 2)) k_Mo_leapOf 35 rfl
theorem d_Mo_leapOf_62 : decode y_Mo_leapOf.2.2.1 62 = .ok (.idiv, 1) := mj_d (q := (62, .idiv, 1)) k_Mo_leapOf 36 rfl
theorem d_Mo_leapOf_63 : decode y_Mo_leapOf.2.2.1 63 = .ok (.invokevirtual 65, 3) := mj_d (q := (63, .invokevirtual 65, 3)) k_Mo_leapOf 37 rfl
theorem d_Mo_leapOf_66 : decode y_Mo_leapOf.2.2.1 66 = .ok (.iload 5, 2) := mj_d (q := (66, .iload 5, 2)) k_Mo_leapOf 38 rfl
theorem d_Mo_leapOf_68 : decode y_Mo_leapOf.2.2.1 68 = .ok (.if_icmp .ne 10, 3) := mj_d (q := (68, .if_icmp .ne 10, 3)) k_Mo_leapOf 39 rfl
theorem d_Mo_leapOf_71 : decode y_Mo_leapOf.2.2.1 71 = .ok (.iinc 6 1, 3) := mj_d (q := (71, .iinc 6 1, 3)) k_Mo_leapOf 40 rfl
theorem d_Mo_leapOf_74 : decode y_Mo_leapOf.2.2.1 74 = .ok (.iload 8, 2) := mj_d (q := (74, .iload 8, 2)) k_Mo_leapOf 41 rfl
theorem d_Mo_leapOf_76 : decode y_Mo_leapOf.2.2.1 76 = .ok (.istore 7, 2) := mj_d (q := (76, .istore 7, 2)) k_Mo_leapOf 42 rfl
theorem d_Mo_leapOf_78 : decode y_Mo_leapOf.2.2.1 78 = .ok (.iinc 8 1, 3) := mj_d (q := (78, .iinc 8 1, 3)) k_Mo_leapOf 43 rfl
theorem d_Mo_leapOf_81 : decode y_Mo_leapOf.2.2.1 81 = .ok (.goto (-59), 3) := mj_d (q := (81, .goto (-59), 3)) k_Mo_leapOf 44 rfl
theorem d_Mo_leapOf_84 : decode y_Mo_leapOf.2.2.1 84 = .ok (.iload 7, 2) := mj_d (q := (84, .iload 7, 2)) k_Mo_leapOf 45 rfl
theorem d_Mo_leapOf_86 : decode y_Mo_leapOf.2.2.1 86 = .ok (.bipush 52, 2) := mj_d (q := (86, .bipush 52, 2)) k_Mo_leapOf 46 rfl
theorem d_Mo_leapOf_88 : decode y_Mo_leapOf.2.2.1 88 = .ok (.idiv, 1) := mj_d (q := (88, .idiv, 1)) k_Mo_leapOf 47 rfl
theorem d_Mo_leapOf_89 : decode y_Mo_leapOf.2.2.1 89 = .ok (.iconst 1, 1) := mj_d (q := (89, .iconst 1, 1)) k_Mo_leapOf 48 rfl
theorem d_Mo_leapOf_90 : decode y_Mo_leapOf.2.2.1 90 = .ok (.isub, 1) := mj_d (q := (90, .isub, 1)) k_Mo_leapOf 49 rfl
theorem d_Mo_leapOf_91 : decode y_Mo_leapOf.2.2.1 91 = .ok (.istore 8, 2) := mj_d (q := (91, .istore 8, 2)) k_Mo_leapOf 50 rfl
theorem d_Mo_leapOf_93 : decode y_Mo_leapOf.2.2.1 93 = .ok (.iload 7, 2) := mj_d (q := (93, .iload 7, 2)) k_Mo_leapOf 51 rfl
theorem d_Mo_leapOf_95 : decode y_Mo_leapOf.2.2.1 95 = .ok (.bipush 52, 2) := mj_d (q := (95, .bipush 52, 2)) k_Mo_leapOf 52 rfl
theorem d_Mo_leapOf_97 : decode y_Mo_leapOf.2.2.1 97 = .ok (.irem, 1) := mj_d (q := (97, .irem, 1)) k_Mo_leapOf 53 rfl
theorem d_Mo_leapOf_98 : decode y_Mo_leapOf.2.2.1 98 = .ok (.bipush 13, 2) := mj_d (q := (98, .bipush 13, 2)) k_Mo_leapOf 54 rfl
theorem d_Mo_leapOf_100 : decode y_Mo_leapOf.2.2.1 100 = .ok (.idiv, 1) := mj_d (q := (100, .idiv, 1)) k_Mo_leapOf 55 rfl
theorem d_Mo_leapOf_101 : decode y_Mo_leapOf.2.2.1 101 = .ok (.istore 9, 2) := mj_d (q := (101, .istore 9, 2)) k_Mo_leapOf 56 rfl
theorem d_Mo_leapOf_103 : decode y_Mo_leapOf.2.2.1 103 = .ok (.iload 7, 2) := mj_d (q := (103, .iload 7, 2)) k_Mo_leapOf 57 rfl
theorem d_Mo_leapOf_105 : decode y_Mo_leapOf.2.2.1 105 = .ok (.bipush 13, 2) := mj_d (q := (105, .bipush 13, 2)) k_Mo_leapOf 58 rfl
theorem d_Mo_leapOf_107 : decode y_Mo_leapOf.2.2.1 107 = .ok (.irem, 1) := mj_d (q := (107, .irem, 1)) k_Mo_leapOf 59 rfl
theorem d_Mo_leapOf_108 : decode y_Mo_leapOf.2.2.1 108 = .ok (.istore 10, 2) := mj_d (q := (108, .istore 10, 2)) k_Mo_leapOf 60 rfl
theorem d_Mo_leapOf_110 : decode y_Mo_leapOf.2.2.1 110 = .ok (.iload 6, 2) := mj_d (q := (110, .iload 6, 2)) k_Mo_leapOf 61 rfl
theorem d_Mo_leapOf_112 : decode y_Mo_leapOf.2.2.1 112 = .ok (.iconst 1, 1) := mj_d (q := (112, .iconst 1, 1)) k_Mo_leapOf 62 rfl
theorem d_Mo_leapOf_113 : decode y_Mo_leapOf.2.2.1 113 = .ok (.if_icmp .ne 16, 3) := mj_d (q := (113, .if_icmp .ne 16, 3)) k_Mo_leapOf 63 rfl
theorem d_Mo_leapOf_116 : decode y_Mo_leapOf.2.2.1 116 = .ok (.iload 9, 2) := mj_d (q := (116, .iload 9, 2)) k_Mo_leapOf 64 rfl
theorem d_Mo_leapOf_118 : decode y_Mo_leapOf.2.2.1 118 = .ok (.iconst 1, 1) := mj_d (q := (118, .iconst 1, 1)) k_Mo_leapOf 65 rfl
theorem d_Mo_leapOf_119 : decode y_Mo_leapOf.2.2.1 119 = .ok (.iadd, 1) := mj_d (q := (119, .iadd, 1)) k_Mo_leapOf 66 rfl
theorem d_Mo_leapOf_120 : decode y_Mo_leapOf.2.2.1 120 = .ok (.aload_n 0, 1) := mj_d (q := (120, .aload_n 0, 1)) k_Mo_leapOf 67 rfl
theorem d_Mo_leapOf_121 : decode y_Mo_leapOf.2.2.1 121 = .ok (.iload 8, 2) := mj_d (q := (121, .iload 8, 2)) k_Mo_leapOf 68 rfl
theorem d_Mo_leapOf_123 : decode y_Mo_leapOf.2.2.1 123 = .ok (.invokevirtual 57, 3) := mj_d (q := (123, .invokevirtual 57, 3)) k_Mo_leapOf 69 rfl
theorem d_Mo_leapOf_126 : decode y_Mo_leapOf.2.2.1 126 = .ok (.if_icmp .eq 5, 3) := mj_d (q := (126, .if_icmp .eq 5, 3)) k_Mo_leapOf 70 rfl
theorem d_Mo_leapOf_129 : decode y_Mo_leapOf.2.2.1 129 = .ok (.iload_n 3, 1) := mj_d (q := (129, .iload_n 3, 1)) k_Mo_leapOf 71 rfl
theorem d_Mo_leapOf_130 : decode y_Mo_leapOf.2.2.1 130 = .ok (.ireturn, 1) := mj_d (q := (130, .ireturn, 1)) k_Mo_leapOf 72 rfl
theorem d_Mo_leapOf_131 : decode y_Mo_leapOf.2.2.1 131 = .ok (.iload 7, 2) := mj_d (q := (131, .iload 7, 2)) k_Mo_leapOf 73 rfl
theorem d_Mo_leapOf_133 : decode y_Mo_leapOf.2.2.1 133 = .ok (.bipush 13, 2) := mj_d (q := (133, .bipush 13, 2)) k_Mo_leapOf 74 rfl
theorem d_Mo_leapOf_135 : decode y_Mo_leapOf.2.2.1 135 = .ok (.iadd, 1) := mj_d (q := (135, .iadd, 1)) k_Mo_leapOf 75 rfl
theorem d_Mo_leapOf_136 : decode y_Mo_leapOf.2.2.1 136 = .ok (.istore_n 3, 1) := mj_d (q := (136, .istore_n 3, 1)) k_Mo_leapOf 76 rfl
theorem d_Mo_leapOf_137 : decode y_Mo_leapOf.2.2.1 137 = .ok (.iload 10, 2) := mj_d (q := (137, .iload 10, 2)) k_Mo_leapOf 77 rfl
theorem d_Mo_leapOf_139 : decode y_Mo_leapOf.2.2.1 139 = .ok (.iload 4, 2) := mj_d (q := (139, .iload 4, 2)) k_Mo_leapOf 78 rfl
theorem d_Mo_leapOf_141 : decode y_Mo_leapOf.2.2.1 141 = .ok (.if_icmp .ge 12, 3) := mj_d (q := (141, .if_icmp .ge 12, 3)) k_Mo_leapOf 79 rfl
theorem d_Mo_leapOf_144 : decode y_Mo_leapOf.2.2.1 144 = .ok (.iload 8, 2) := mj_d (q := (144, .iload 8, 2)) k_Mo_leapOf 80 rfl
theorem d_Mo_leapOf_146 : decode y_Mo_leapOf.2.2.1 146 = .ok (.ifCond .lt 7, 3) := mj_d (q := (146, .ifCond .lt 7, 3)) k_Mo_leapOf 81 rfl
theorem d_Mo_leapOf_149 : decode y_Mo_leapOf.2.2.1 149 = .ok (.iconst 1, 1) := mj_d (q := (149, .iconst 1, 1)) k_Mo_leapOf 82 rfl
theorem d_Mo_leapOf_150 : decode y_Mo_leapOf.2.2.1 150 = .ok (.goto 4, 3) := mj_d (q := (150, .goto 4, 3)) k_Mo_leapOf 83 rfl
theorem d_Mo_leapOf_153 : decode y_Mo_leapOf.2.2.1 153 = .ok (.iconst 0, 1) := mj_d (q := (153, .iconst 0, 1)) k_Mo_leapOf 84 rfl
theorem d_Mo_leapOf_154 : decode y_Mo_leapOf.2.2.1 154 = .ok (.istore 11, 2) := mj_d (q := (154, .istore 11, 2)) k_Mo_leapOf 85 rfl
theorem d_Mo_leapOf_156 : decode y_Mo_leapOf.2.2.1 156 = .ok (.iload 11, 2) := mj_d (q := (156, .iload 11, 2)) k_Mo_leapOf 86 rfl
theorem d_Mo_leapOf_158 : decode y_Mo_leapOf.2.2.1 158 = .ok (.ifCond .eq 13, 3) := mj_d (q := (158, .ifCond .eq 13, 3)) k_Mo_leapOf 87 rfl
theorem d_Mo_leapOf_161 : decode y_Mo_leapOf.2.2.1 161 = .ok (.aload_n 0, 1) := mj_d (q := (161, .aload_n 0, 1)) k_Mo_leapOf 88 rfl
theorem d_Mo_leapOf_162 : decode y_Mo_leapOf.2.2.1 162 = .ok (.getfield 7, 3) := mj_d (q := (162, .getfield 7, 3)) k_Mo_leapOf 89 rfl
theorem d_Mo_leapOf_165 : decode y_Mo_leapOf.2.2.1 165 = .ok (.iload 8, 2) := mj_d (q := (165, .iload 8, 2)) k_Mo_leapOf 90 rfl
theorem d_Mo_leapOf_167 : decode y_Mo_leapOf.2.2.1 167 = .ok (.iaload, 1) := mj_d (q := (167, .iaload, 1)) k_Mo_leapOf 91 rfl
theorem d_Mo_leapOf_168 : decode y_Mo_leapOf.2.2.1 168 = .ok (.goto 5, 3) := mj_d (q := (168, .goto 5, 3)) k_Mo_leapOf 92 rfl
theorem d_Mo_leapOf_171 : decode y_Mo_leapOf.2.2.1 171 = .ok (.iload 5, 2) := mj_d (q := (171, .iload 5, 2)) k_Mo_leapOf 93 rfl
theorem d_Mo_leapOf_173 : decode y_Mo_leapOf.2.2.1 173 = .ok (.istore 5, 2) := mj_d (q := (173, .istore 5, 2)) k_Mo_leapOf 94 rfl
theorem d_Mo_leapOf_175 : decode y_Mo_leapOf.2.2.1 175 = .ok (.iload 11, 2) := mj_d (q := (175, .iload 11, 2)) k_Mo_leapOf 95 rfl
theorem d_Mo_leapOf_177 : decode y_Mo_leapOf.2.2.1 177 = .ok (.ifCond .eq 8, 3) := mj_d (q := (177, .ifCond .eq 8, 3)) k_Mo_leapOf 96 rfl
theorem d_Mo_leapOf_180 : decode y_Mo_leapOf.2.2.1 180 = .ok (.iload 10, 2) := mj_d (q := (180, .iload 10, 2)) k_Mo_leapOf 97 rfl
theorem d_Mo_leapOf_182 : decode y_Mo_leapOf.2.2.1 182 = .ok (.goto 4, 3) := mj_d (q := (182, .goto 4, 3)) k_Mo_leapOf 98 rfl
theorem d_Mo_leapOf_185 : decode y_Mo_leapOf.2.2.1 185 = .ok (.iconst (-1), 1) := mj_d (q := (185, .iconst (-1), 1)) k_Mo_leapOf 99 rfl
theorem d_Mo_leapOf_186 : decode y_Mo_leapOf.2.2.1 186 = .ok (.istore 4, 2) := mj_d (q := (186, .istore 4, 2)) k_Mo_leapOf 100 rfl
theorem d_Mo_leapOf_188 : decode y_Mo_leapOf.2.2.1 188 = .ok (.goto (-180), 3) := mj_d (q := (188, .goto (-180), 3)) k_Mo_leapOf 101 rfl
theorem d_Mo_leapOf_191 : decode y_Mo_leapOf.2.2.1 191 = .ok (.iload_n 3, 1) := mj_d (q := (191, .iload_n 3, 1)) k_Mo_leapOf 102 rfl
theorem d_Mo_leapOf_192 : decode y_Mo_leapOf.2.2.1 192 = .ok (.ireturn, 1) := mj_d (q := (192, .ireturn, 1)) k_Mo_leapOf 103 rfl
theorem d_Mo_thrown_0 : decode y_Mo_thrown.2.2.1 0 = .ok (.aload_n 0, 1) := mj_d (q := (0, .aload_n 0, 1)) k_Mo_thrown 0 rfl
theorem d_Mo_thrown_1 : decode y_Mo_thrown.2.2.1 1 = .ok (.getfield 53, 3) := mj_d (q := (1, .getfield 53, 3)) k_Mo_thrown 1 rfl
theorem d_Mo_thrown_4 : decode y_Mo_thrown.2.2.1 4 = .ok (.ireturn, 1) := mj_d (q := (4, .ireturn, 1)) k_Mo_thrown 2 rfl
theorem d_Mo_rule_0 : decode y_Mo_rule.2.2.1 0 = .ok (.aload_n 0, 1) := mj_d (q := (0, .aload_n 0, 1)) k_Mo_rule 0 rfl
theorem d_Mo_rule_1 : decode y_Mo_rule.2.2.1 1 = .ok (.iconst 0, 1) := mj_d (q := (1, .iconst 0, 1)) k_Mo_rule 1 rfl
theorem d_Mo_rule_2 : decode y_Mo_rule.2.2.1 2 = .ok (.putfield 53, 3) := mj_d (q := (2, .putfield 53, 3)) k_Mo_rule 2 rfl
theorem d_Mo_rule_5 : decode y_Mo_rule.2.2.1 5 = .ok (.iload_n 1, 1) := mj_d (q := (5, .iload_n 1, 1)) k_Mo_rule 3 rfl
theorem d_Mo_rule_6 : decode y_Mo_rule.2.2.1 6 = .ok (.invokestatic 69, 3) := mj_d (q := (6, .invokestatic 69, 3)) k_Mo_rule 4 rfl
theorem d_Mo_rule_9 : decode y_Mo_rule.2.2.1 9 = .ok (.ifCond .eq 20, 3) := mj_d (q := (9, .ifCond .eq 20, 3)) k_Mo_rule 5 rfl
theorem d_Mo_rule_12 : decode y_Mo_rule.2.2.1 12 = .ok (.iload_n 2, 1) := mj_d (q := (12, .iload_n 2, 1)) k_Mo_rule 6 rfl
theorem d_Mo_rule_13 : decode y_Mo_rule.2.2.1 13 = .ok (.ifCond .lt 16, 3) := mj_d (q := (13, .ifCond .lt 16, 3)) k_Mo_rule 7 rfl
theorem d_Mo_rule_16 : decode y_Mo_rule.2.2.1 16 = .ok (.iload_n 2, 1) := mj_d (q := (16, .iload_n 2, 1)) k_Mo_rule 8 rfl
theorem d_Mo_rule_17 : decode y_Mo_rule.2.2.1 17 = .ok (.iconst 3, 1) := mj_d (q := (17, .iconst 3, 1)) k_Mo_rule 9 rfl
theorem d_Mo_rule_18 : decode y_Mo_rule.2.2.1 18 = .ok (.if_icmp .gt 11, 3) := mj_d (q := (18, .if_icmp .gt 11, 3)) k_Mo_rule 10 rfl
theorem d_Mo_rule_21 : decode y_Mo_rule.2.2.1 21 = .ok (.iload_n 3, 1) := mj_d (q := (21, .iload_n 3, 1)) k_Mo_rule 11 rfl
theorem d_Mo_rule_22 : decode y_Mo_rule.2.2.1 22 = .ok (.iconst 4, 1) := mj_d (q := (22, .iconst 4, 1)) k_Mo_rule 12 rfl
theorem d_Mo_rule_23 : decode y_Mo_rule.2.2.1 23 = .ok (.iload_n 2, 1) := mj_d (q := (23, .iload_n 2, 1)) k_Mo_rule 13 rfl
theorem d_Mo_rule_24 : decode y_Mo_rule.2.2.1 24 = .ok (.imul, 1) := mj_d (q := (24, .imul, 1)) k_Mo_rule 14 rfl
theorem d_Mo_rule_25 : decode y_Mo_rule.2.2.1 25 = .ok (.iushr, 1) := mj_d (q := (25, .iushr, 1)) k_Mo_rule 15 rfl
theorem d_Mo_rule_26 : decode y_Mo_rule.2.2.1 26 = .ok (.ifCond .eq 9, 3) := mj_d (q := (26, .ifCond .eq 9, 3)) k_Mo_rule 16 rfl
theorem d_Mo_rule_29 : decode y_Mo_rule.2.2.1 29 = .ok (.aload_n 0, 1) := mj_d (q := (29, .aload_n 0, 1)) k_Mo_rule 17 rfl
theorem d_Mo_rule_30 : decode y_Mo_rule.2.2.1 30 = .ok (.iconst 1, 1) := mj_d (q := (30, .iconst 1, 1)) k_Mo_rule 18 rfl
theorem d_Mo_rule_31 : decode y_Mo_rule.2.2.1 31 = .ok (.invokevirtual 91, 3) := mj_d (q := (31, .invokevirtual 91, 3)) k_Mo_rule 19 rfl
theorem d_Mo_rule_34 : decode y_Mo_rule.2.2.1 34 = .ok (.ireturn, 1) := mj_d (q := (34, .ireturn, 1)) k_Mo_rule 20 rfl
theorem d_Mo_rule_35 : decode y_Mo_rule.2.2.1 35 = .ok (.iconst 0, 1) := mj_d (q := (35, .iconst 0, 1)) k_Mo_rule 21 rfl
theorem d_Mo_rule_36 : decode y_Mo_rule.2.2.1 36 = .ok (.istore 4, 2) := mj_d (q := (36, .istore 4, 2)) k_Mo_rule 22 rfl
theorem d_Mo_rule_38 : decode y_Mo_rule.2.2.1 38 = .ok (.iload 4, 2) := mj_d (q := (38, .iload 4, 2)) k_Mo_rule 23 rfl
theorem d_Mo_rule_40 : decode y_Mo_rule.2.2.1 40 = .ok (.iload_n 2, 1) := mj_d (q := (40, .iload_n 2, 1)) k_Mo_rule 24 rfl
theorem d_Mo_rule_41 : decode y_Mo_rule.2.2.1 41 = .ok (.if_icmp .ge 42, 3) := mj_d (q := (41, .if_icmp .ge 42, 3)) k_Mo_rule 25 rfl
theorem d_Mo_rule_44 : decode y_Mo_rule.2.2.1 44 = .ok (.iload_n 3, 1) := mj_d (q := (44, .iload_n 3, 1)) k_Mo_rule 26 rfl
theorem d_Mo_rule_45 : decode y_Mo_rule.2.2.1 45 = .ok (.iconst 4, 1) := mj_d (q := (45, .iconst 4, 1)) k_Mo_rule 27 rfl
theorem d_Mo_rule_46 : decode y_Mo_rule.2.2.1 46 = .ok (.iload 4, 2) := mj_d (q := (46, .iload 4, 2)) k_Mo_rule 28 rfl
theorem d_Mo_rule_48 : decode y_Mo_rule.2.2.1 48 = .ok (.imul, 1) := mj_d (q := (48, .imul, 1)) k_Mo_rule 29 rfl
theorem d_Mo_rule_49 : decode y_Mo_rule.2.2.1 49 = .ok (.ishr, 1) := mj_d (q := (49, .ishr, 1)) k_Mo_rule 30 rfl
theorem d_Mo_rule_50 : decode y_Mo_rule.2.2.1 50 = .ok (.bipush 15, 2) := mj_d (q := (50, .bipush 15, 2)) k_Mo_rule 31 rfl
theorem d_Mo_rule_52 : decode y_Mo_rule.2.2.1 52 = .ok (.iand, 1) := mj_d (q := (52, .iand, 1)) k_Mo_rule 32 rfl
theorem d_Mo_rule_53 : decode y_Mo_rule.2.2.1 53 = .ok (.istore 5, 2) := mj_d (q := (53, .istore 5, 2)) k_Mo_rule 33 rfl
theorem d_Mo_rule_55 : decode y_Mo_rule.2.2.1 55 = .ok (.iload 5, 2) := mj_d (q := (55, .iload 5, 2)) k_Mo_rule 34 rfl
theorem d_Mo_rule_57 : decode y_Mo_rule.2.2.1 57 = .ok (.invokestatic 69, 3) := mj_d (q := (57, .invokestatic 69, 3)) k_Mo_rule 35 rfl
theorem d_Mo_rule_60 : decode y_Mo_rule.2.2.1 60 = .ok (.ifCond .ne 17, 3) := mj_d (q := (60, .ifCond .ne 17, 3)) k_Mo_rule 36 rfl
theorem d_Mo_rule_63 : decode y_Mo_rule.2.2.1 63 = .ok (.iload 5, 2) := mj_d (q := (63, .iload 5, 2)) k_Mo_rule 37 rfl
theorem d_Mo_rule_65 : decode y_Mo_rule.2.2.1 65 = .ok (.invokestatic 94, 3) := mj_d (q := (65, .invokestatic 94, 3)) k_Mo_rule 38 rfl
theorem d_Mo_rule_68 : decode y_Mo_rule.2.2.1 68 = .ok (.ifCond .ne 9, 3) := mj_d (q := (68, .ifCond .ne 9, 3)) k_Mo_rule 39 rfl
theorem d_Mo_rule_71 : decode y_Mo_rule.2.2.1 71 = .ok (.aload_n 0, 1) := mj_d (q := (71, .aload_n 0, 1)) k_Mo_rule 40 rfl
theorem d_Mo_rule_72 : decode y_Mo_rule.2.2.1 72 = .ok (.iconst 1, 1) := mj_d (q := (72, .iconst 1, 1)) k_Mo_rule 41 rfl
theorem d_Mo_rule_73 : decode y_Mo_rule.2.2.1 73 = .ok (.invokevirtual 91, 3) := mj_d (q := (73, .invokevirtual 91, 3)) k_Mo_rule 42 rfl
theorem d_Mo_rule_76 : decode y_Mo_rule.2.2.1 76 = .ok (.ireturn, 1) := mj_d (q := (76, .ireturn, 1)) k_Mo_rule 43 rfl
theorem d_Mo_rule_77 : decode y_Mo_rule.2.2.1 77 = .ok (.iinc 4 1, 3) := mj_d (q := (77, .iinc 4 1, 3)) k_Mo_rule 44 rfl
theorem d_Mo_rule_80 : decode y_Mo_rule.2.2.1 80 = .ok (.goto (-42), 3) := mj_d (q := (80, .goto (-42), 3)) k_Mo_rule 45 rfl
theorem d_Mo_rule_83 : decode y_Mo_rule.2.2.1 83 = .ok (.aload_n 0, 1) := mj_d (q := (83, .aload_n 0, 1)) k_Mo_rule 46 rfl
theorem d_Mo_rule_84 : decode y_Mo_rule.2.2.1 84 = .ok (.getfield 73, 3) := mj_d (q := (84, .getfield 73, 3)) k_Mo_rule 47 rfl
theorem d_Mo_rule_87 : decode y_Mo_rule.2.2.1 87 = .ok (.bipush 10, 2) := mj_d (q := (87, .bipush 10, 2)) k_Mo_rule 48 rfl
theorem d_Mo_rule_89 : decode y_Mo_rule.2.2.1 89 = .ok (.if_icmp .eq 10, 3) := mj_d (q := (89, .if_icmp .eq 10, 3)) k_Mo_rule 49 rfl
theorem d_Mo_rule_92 : decode y_Mo_rule.2.2.1 92 = .ok (.aload_n 0, 1) := mj_d (q := (92, .aload_n 0, 1)) k_Mo_rule 50 rfl
theorem d_Mo_rule_93 : decode y_Mo_rule.2.2.1 93 = .ok (.getfield 97, 3) := mj_d (q := (93, .getfield 97, 3)) k_Mo_rule 51 rfl
theorem d_Mo_rule_96 : decode y_Mo_rule.2.2.1 96 = .ok (.ifCond .le 9, 3) := mj_d (q := (96, .ifCond .le 9, 3)) k_Mo_rule 52 rfl
theorem d_Mo_rule_99 : decode y_Mo_rule.2.2.1 99 = .ok (.aload_n 0, 1) := mj_d (q := (99, .aload_n 0, 1)) k_Mo_rule 53 rfl
theorem d_Mo_rule_100 : decode y_Mo_rule.2.2.1 100 = .ok (.iconst 2, 1) := mj_d (q := (100, .iconst 2, 1)) k_Mo_rule 54 rfl
theorem d_Mo_rule_101 : decode y_Mo_rule.2.2.1 101 = .ok (.invokevirtual 91, 3) := mj_d (q := (101, .invokevirtual 91, 3)) k_Mo_rule 55 rfl
theorem d_Mo_rule_104 : decode y_Mo_rule.2.2.1 104 = .ok (.ireturn, 1) := mj_d (q := (104, .ireturn, 1)) k_Mo_rule 56 rfl
theorem d_Mo_rule_105 : decode y_Mo_rule.2.2.1 105 = .ok (.aload_n 0, 1) := mj_d (q := (105, .aload_n 0, 1)) k_Mo_rule 57 rfl
theorem d_Mo_rule_106 : decode y_Mo_rule.2.2.1 106 = .ok (.getfield 7, 3) := mj_d (q := (106, .getfield 7, 3)) k_Mo_rule 58 rfl
theorem d_Mo_rule_109 : decode y_Mo_rule.2.2.1 109 = .ok (.aload_n 0, 1) := mj_d (q := (109, .aload_n 0, 1)) k_Mo_rule 59 rfl
theorem d_Mo_rule_110 : decode y_Mo_rule.2.2.1 110 = .ok (.getfield 73, 3) := mj_d (q := (110, .getfield 73, 3)) k_Mo_rule 60 rfl
theorem d_Mo_rule_113 : decode y_Mo_rule.2.2.1 113 = .ok (.iload_n 1, 1) := mj_d (q := (113, .iload_n 1, 1)) k_Mo_rule 61 rfl
theorem d_Mo_rule_114 : decode y_Mo_rule.2.2.1 114 = .ok (.iastore, 1) := mj_d (q := (114, .iastore, 1)) k_Mo_rule 62 rfl
theorem d_Mo_rule_115 : decode y_Mo_rule.2.2.1 115 = .ok (.aload_n 0, 1) := mj_d (q := (115, .aload_n 0, 1)) k_Mo_rule 63 rfl
theorem d_Mo_rule_116 : decode y_Mo_rule.2.2.1 116 = .ok (.getfield 13, 3) := mj_d (q := (116, .getfield 13, 3)) k_Mo_rule 64 rfl
theorem d_Mo_rule_119 : decode y_Mo_rule.2.2.1 119 = .ok (.aload_n 0, 1) := mj_d (q := (119, .aload_n 0, 1)) k_Mo_rule 65 rfl
theorem d_Mo_rule_120 : decode y_Mo_rule.2.2.1 120 = .ok (.getfield 73, 3) := mj_d (q := (120, .getfield 73, 3)) k_Mo_rule 66 rfl
theorem d_Mo_rule_123 : decode y_Mo_rule.2.2.1 123 = .ok (.iload_n 2, 1) := mj_d (q := (123, .iload_n 2, 1)) k_Mo_rule 67 rfl
theorem d_Mo_rule_124 : decode y_Mo_rule.2.2.1 124 = .ok (.iastore, 1) := mj_d (q := (124, .iastore, 1)) k_Mo_rule 68 rfl
theorem d_Mo_rule_125 : decode y_Mo_rule.2.2.1 125 = .ok (.iconst 0, 1) := mj_d (q := (125, .iconst 0, 1)) k_Mo_rule 69 rfl
theorem d_Mo_rule_126 : decode y_Mo_rule.2.2.1 126 = .ok (.istore 4, 2) := mj_d (q := (126, .istore 4, 2)) k_Mo_rule 70 rfl
theorem d_Mo_rule_128 : decode y_Mo_rule.2.2.1 128 = .ok (.iload 4, 2) := mj_d (q := (128, .iload 4, 2)) k_Mo_rule 71 rfl
theorem d_Mo_rule_130 : decode y_Mo_rule.2.2.1 130 = .ok (.iload_n 2, 1) := mj_d (q := (130, .iload_n 2, 1)) k_Mo_rule 72 rfl
theorem d_Mo_rule_131 : decode y_Mo_rule.2.2.1 131 = .ok (.if_icmp .ge 32, 3) := mj_d (q := (131, .if_icmp .ge 32, 3)) k_Mo_rule 73 rfl
theorem d_Mo_rule_134 : decode y_Mo_rule.2.2.1 134 = .ok (.aload_n 0, 1) := mj_d (q := (134, .aload_n 0, 1)) k_Mo_rule 74 rfl
theorem d_Mo_rule_135 : decode y_Mo_rule.2.2.1 135 = .ok (.getfield 16, 3) := mj_d (q := (135, .getfield 16, 3)) k_Mo_rule 75 rfl
theorem d_Mo_rule_138 : decode y_Mo_rule.2.2.1 138 = .ok (.iconst 3, 1) := mj_d (q := (138, .iconst 3, 1)) k_Mo_rule 76 rfl
theorem d_Mo_rule_139 : decode y_Mo_rule.2.2.1 139 = .ok (.aload_n 0, 1) := mj_d (q := (139, .aload_n 0, 1)) k_Mo_rule 77 rfl
theorem d_Mo_rule_140 : decode y_Mo_rule.2.2.1 140 = .ok (.getfield 73, 3) := mj_d (q := (140, .getfield 73, 3)) k_Mo_rule 78 rfl
theorem d_Mo_rule_143 : decode y_Mo_rule.2.2.1 143 = .ok (.imul, 1) := mj_d (q := (143, .imul, 1)) k_Mo_rule 79 rfl
theorem d_Mo_rule_144 : decode y_Mo_rule.2.2.1 144 = .ok (.iload 4, 2) := mj_d (q := (144, .iload 4, 2)) k_Mo_rule 80 rfl
theorem d_Mo_rule_146 : decode y_Mo_rule.2.2.1 146 = .ok (.iadd, 1) := mj_d (q := (146, .iadd, 1)) k_Mo_rule 81 rfl
theorem d_Mo_rule_147 : decode y_Mo_rule.2.2.1 147 = .ok (.iload_n 3, 1) := mj_d (q := (147, .iload_n 3, 1)) k_Mo_rule 82 rfl
theorem d_Mo_rule_148 : decode y_Mo_rule.2.2.1 148 = .ok (.iconst 4, 1) := mj_d (q := (148, .iconst 4, 1)) k_Mo_rule 83 rfl
theorem d_Mo_rule_149 : decode y_Mo_rule.2.2.1 149 = .ok (.iload 4, 2) := mj_d (q := (149, .iload 4, 2)) k_Mo_rule 84 rfl
theorem d_Mo_rule_151 : decode y_Mo_rule.2.2.1 151 = .ok (.imul, 1) := mj_d (q := (151, .imul, 1)) k_Mo_rule 85 rfl
theorem d_Mo_rule_152 : decode y_Mo_rule.2.2.1 152 = .ok (.ishr, 1) := mj_d (q := (152, .ishr, 1)) k_Mo_rule 86 rfl
theorem d_Mo_rule_153 : decode y_Mo_rule.2.2.1 153 = .ok (.bipush 15, 2) := mj_d (q := (153, .bipush 15, 2)) k_Mo_rule 87 rfl
theorem d_Mo_rule_155 : decode y_Mo_rule.2.2.1 155 = .ok (.iand, 1) := mj_d (q := (155, .iand, 1)) k_Mo_rule 88 rfl
theorem d_Mo_rule_156 : decode y_Mo_rule.2.2.1 156 = .ok (.iastore, 1) := mj_d (q := (156, .iastore, 1)) k_Mo_rule 89 rfl
theorem d_Mo_rule_157 : decode y_Mo_rule.2.2.1 157 = .ok (.iinc 4 1, 3) := mj_d (q := (157, .iinc 4 1, 3)) k_Mo_rule 90 rfl
theorem d_Mo_rule_160 : decode y_Mo_rule.2.2.1 160 = .ok (.goto (-32), 3) := mj_d (q := (160, .goto (-32), 3)) k_Mo_rule 91 rfl
theorem d_Mo_rule_163 : decode y_Mo_rule.2.2.1 163 = .ok (.aload_n 0, 1) := mj_d (q := (163, .aload_n 0, 1)) k_Mo_rule 92 rfl
theorem d_Mo_rule_164 : decode y_Mo_rule.2.2.1 164 = .ok (.dup, 1) := mj_d (q := (164, .dup, 1)) k_Mo_rule 93 rfl
theorem d_Mo_rule_165 : decode y_Mo_rule.2.2.1 165 = .ok (.getfield 73, 3) := mj_d (q := (165, .getfield 73, 3)) k_Mo_rule 94 rfl
theorem d_Mo_rule_168 : decode y_Mo_rule.2.2.1 168 = .ok (.iconst 1, 1) := mj_d (q := (168, .iconst 1, 1)) k_Mo_rule 95 rfl
theorem d_Mo_rule_169 : decode y_Mo_rule.2.2.1 169 = .ok (.iadd, 1) := mj_d (q := (169, .iadd, 1)) k_Mo_rule 96 rfl
theorem d_Mo_rule_170 : decode y_Mo_rule.2.2.1 170 = .ok (.putfield 73, 3) := mj_d (q := (170, .putfield 73, 3)) k_Mo_rule 97 rfl
theorem d_Mo_rule_173 : decode y_Mo_rule.2.2.1 173 = .ok (.aload_n 0, 1) := mj_d (q := (173, .aload_n 0, 1)) k_Mo_rule 98 rfl
theorem d_Mo_rule_174 : decode y_Mo_rule.2.2.1 174 = .ok (.iconst 0, 1) := mj_d (q := (174, .iconst 0, 1)) k_Mo_rule 99 rfl
theorem d_Mo_rule_175 : decode y_Mo_rule.2.2.1 175 = .ok (.invokevirtual 49, 3) := mj_d (q := (175, .invokevirtual 49, 3)) k_Mo_rule 100 rfl
theorem d_Mo_rule_178 : decode y_Mo_rule.2.2.1 178 = .ok (.aload_n 0, 1) := mj_d (q := (178, .aload_n 0, 1)) k_Mo_rule 101 rfl
theorem d_Mo_rule_179 : decode y_Mo_rule.2.2.1 179 = .ok (.getfield 73, 3) := mj_d (q := (179, .getfield 73, 3)) k_Mo_rule 102 rfl
theorem d_Mo_rule_182 : decode y_Mo_rule.2.2.1 182 = .ok (.iconst 1, 1) := mj_d (q := (182, .iconst 1, 1)) k_Mo_rule 103 rfl
theorem d_Mo_rule_183 : decode y_Mo_rule.2.2.1 183 = .ok (.isub, 1) := mj_d (q := (183, .isub, 1)) k_Mo_rule 104 rfl
theorem d_Mo_rule_184 : decode y_Mo_rule.2.2.1 184 = .ok (.ireturn, 1) := mj_d (q := (184, .ireturn, 1)) k_Mo_rule 105 rfl
theorem d_Mo_refuse_0 : decode y_Mo_refuse.2.2.1 0 = .ok (.aload_n 0, 1) := mj_d (q := (0, .aload_n 0, 1)) k_Mo_refuse 0 rfl
theorem d_Mo_refuse_1 : decode y_Mo_refuse.2.2.1 1 = .ok (.iload_n 1, 1) := mj_d (q := (1, .iload_n 1, 1)) k_Mo_refuse 1 rfl
theorem d_Mo_refuse_2 : decode y_Mo_refuse.2.2.1 2 = .ok (.putfield 53, 3) := mj_d (q := (2, .putfield 53, 3)) k_Mo_refuse 2 rfl
theorem d_Mo_refuse_5 : decode y_Mo_refuse.2.2.1 5 = .ok (.iconst 0, 1) := mj_d (q := (5, .iconst 0, 1)) k_Mo_refuse 3 rfl
theorem d_Mo_refuse_6 : decode y_Mo_refuse.2.2.1 6 = .ok (.ireturn, 1) := mj_d (q := (6, .ireturn, 1)) k_Mo_refuse 4 rfl
theorem d_Mo_isTerminal_0 : decode y_Mo_isTerminal.2.2.1 0 = .ok (.iload_n 0, 1) := mj_d (q := (0, .iload_n 0, 1)) k_Mo_isTerminal 0 rfl
theorem d_Mo_isTerminal_1 : decode y_Mo_isTerminal.2.2.1 1 = .ok (.bipush 8, 2) := mj_d (q := (1, .bipush 8, 2)) k_Mo_isTerminal 1 rfl
theorem d_Mo_isTerminal_3 : decode y_Mo_isTerminal.2.2.1 3 = .ok (.if_icmp .lt 13, 3) := mj_d (q := (3, .if_icmp .lt 13, 3)) k_Mo_isTerminal 2 rfl
theorem d_Mo_isTerminal_6 : decode y_Mo_isTerminal.2.2.1 6 = .ok (.iload_n 0, 1) := mj_d (q := (6, .iload_n 0, 1)) k_Mo_isTerminal 3 rfl
theorem d_Mo_isTerminal_7 : decode y_Mo_isTerminal.2.2.1 7 = .ok (.bipush 11, 2) := mj_d (q := (7, .bipush 11, 2)) k_Mo_isTerminal 4 rfl
theorem d_Mo_isTerminal_9 : decode y_Mo_isTerminal.2.2.1 9 = .ok (.if_icmp .gt 7, 3) := mj_d (q := (9, .if_icmp .gt 7, 3)) k_Mo_isTerminal 5 rfl
theorem d_Mo_isTerminal_12 : decode y_Mo_isTerminal.2.2.1 12 = .ok (.iconst 1, 1) := mj_d (q := (12, .iconst 1, 1)) k_Mo_isTerminal 6 rfl
theorem d_Mo_isTerminal_13 : decode y_Mo_isTerminal.2.2.1 13 = .ok (.goto 4, 3) := mj_d (q := (13, .goto 4, 3)) k_Mo_isTerminal 7 rfl
theorem d_Mo_isTerminal_16 : decode y_Mo_isTerminal.2.2.1 16 = .ok (.iconst 0, 1) := mj_d (q := (16, .iconst 0, 1)) k_Mo_isTerminal 8 rfl
theorem d_Mo_isTerminal_17 : decode y_Mo_isTerminal.2.2.1 17 = .ok (.ireturn, 1) := mj_d (q := (17, .ireturn, 1)) k_Mo_isTerminal 9 rfl
theorem d_Mo_feed_0 : decode y_Mo_feed.2.2.1 0 = .ok (.aload_n 0, 1) := mj_d (q := (0, .aload_n 0, 1)) k_Mo_feed 0 rfl
theorem d_Mo_feed_1 : decode y_Mo_feed.2.2.1 1 = .ok (.iconst 0, 1) := mj_d (q := (1, .iconst 0, 1)) k_Mo_feed 1 rfl
theorem d_Mo_feed_2 : decode y_Mo_feed.2.2.1 2 = .ok (.putfield 53, 3) := mj_d (q := (2, .putfield 53, 3)) k_Mo_feed 2 rfl
theorem d_Mo_feed_5 : decode y_Mo_feed.2.2.1 5 = .ok (.iload_n 1, 1) := mj_d (q := (5, .iload_n 1, 1)) k_Mo_feed 3 rfl
theorem d_Mo_feed_6 : decode y_Mo_feed.2.2.1 6 = .ok (.invokestatic 94, 3) := mj_d (q := (6, .invokestatic 94, 3)) k_Mo_feed 4 rfl
theorem d_Mo_feed_9 : decode y_Mo_feed.2.2.1 9 = .ok (.ifCond .ne 9, 3) := mj_d (q := (9, .ifCond .ne 9, 3)) k_Mo_feed 5 rfl
theorem d_Mo_feed_12 : decode y_Mo_feed.2.2.1 12 = .ok (.aload_n 0, 1) := mj_d (q := (12, .aload_n 0, 1)) k_Mo_feed 6 rfl
theorem d_Mo_feed_13 : decode y_Mo_feed.2.2.1 13 = .ok (.iconst 1, 1) := mj_d (q := (13, .iconst 1, 1)) k_Mo_feed 7 rfl
theorem d_Mo_feed_14 : decode y_Mo_feed.2.2.1 14 = .ok (.invokevirtual 91, 3) := mj_d (q := (14, .invokevirtual 91, 3)) k_Mo_feed 8 rfl
theorem d_Mo_feed_17 : decode y_Mo_feed.2.2.1 17 = .ok (.ireturn, 1) := mj_d (q := (17, .ireturn, 1)) k_Mo_feed 9 rfl
theorem d_Mo_feed_18 : decode y_Mo_feed.2.2.1 18 = .ok (.aload_n 0, 1) := mj_d (q := (18, .aload_n 0, 1)) k_Mo_feed 10 rfl
theorem d_Mo_feed_19 : decode y_Mo_feed.2.2.1 19 = .ok (.getfield 97, 3) := mj_d (q := (19, .getfield 97, 3)) k_Mo_feed 11 rfl
theorem d_Mo_feed_22 : decode y_Mo_feed.2.2.1 22 = .ok (.bipush 12, 2) := mj_d (q := (22, .bipush 12, 2)) k_Mo_feed 12 rfl
theorem d_Mo_feed_24 : decode y_Mo_feed.2.2.1 24 = .ok (.if_icmp .ne 9, 3) := mj_d (q := (24, .if_icmp .ne 9, 3)) k_Mo_feed 13 rfl
theorem d_Mo_feed_27 : decode y_Mo_feed.2.2.1 27 = .ok (.aload_n 0, 1) := mj_d (q := (27, .aload_n 0, 1)) k_Mo_feed 14 rfl
theorem d_Mo_feed_28 : decode y_Mo_feed.2.2.1 28 = .ok (.iconst 2, 1) := mj_d (q := (28, .iconst 2, 1)) k_Mo_feed 15 rfl
theorem d_Mo_feed_29 : decode y_Mo_feed.2.2.1 29 = .ok (.invokevirtual 91, 3) := mj_d (q := (29, .invokevirtual 91, 3)) k_Mo_feed 16 rfl
theorem d_Mo_feed_32 : decode y_Mo_feed.2.2.1 32 = .ok (.ireturn, 1) := mj_d (q := (32, .ireturn, 1)) k_Mo_feed 17 rfl
theorem d_Mo_feed_33 : decode y_Mo_feed.2.2.1 33 = .ok (.aload_n 0, 1) := mj_d (q := (33, .aload_n 0, 1)) k_Mo_feed 18 rfl
theorem d_Mo_feed_34 : decode y_Mo_feed.2.2.1 34 = .ok (.aload_n 0, 1) := mj_d (q := (34, .aload_n 0, 1)) k_Mo_feed 19 rfl
theorem d_Mo_feed_35 : decode y_Mo_feed.2.2.1 35 = .ok (.getfield 97, 3) := mj_d (q := (35, .getfield 97, 3)) k_Mo_feed 20 rfl
theorem d_Mo_feed_38 : decode y_Mo_feed.2.2.1 38 = .ok (.invokevirtual 100, 3) := mj_d (q := (38, .invokevirtual 100, 3)) k_Mo_feed 21 rfl
theorem d_Mo_feed_41 : decode y_Mo_feed.2.2.1 41 = .ok (.iload_n 1, 1) := mj_d (q := (41, .iload_n 1, 1)) k_Mo_feed 22 rfl
theorem d_Mo_feed_42 : decode y_Mo_feed.2.2.1 42 = .ok (.bipush 8, 2) := mj_d (q := (42, .bipush 8, 2)) k_Mo_feed 23 rfl
theorem d_Mo_feed_44 : decode y_Mo_feed.2.2.1 44 = .ok (.isub, 1) := mj_d (q := (44, .isub, 1)) k_Mo_feed 24 rfl
theorem d_Mo_feed_45 : decode y_Mo_feed.2.2.1 45 = .ok (.ishr, 1) := mj_d (q := (45, .ishr, 1)) k_Mo_feed 25 rfl
theorem d_Mo_feed_46 : decode y_Mo_feed.2.2.1 46 = .ok (.iconst 1, 1) := mj_d (q := (46, .iconst 1, 1)) k_Mo_feed 26 rfl
theorem d_Mo_feed_47 : decode y_Mo_feed.2.2.1 47 = .ok (.iand, 1) := mj_d (q := (47, .iand, 1)) k_Mo_feed 27 rfl
theorem d_Mo_feed_48 : decode y_Mo_feed.2.2.1 48 = .ok (.ifCond .ne 9, 3) := mj_d (q := (48, .ifCond .ne 9, 3)) k_Mo_feed 28 rfl
theorem d_Mo_feed_51 : decode y_Mo_feed.2.2.1 51 = .ok (.aload_n 0, 1) := mj_d (q := (51, .aload_n 0, 1)) k_Mo_feed 29 rfl
theorem d_Mo_feed_52 : decode y_Mo_feed.2.2.1 52 = .ok (.iconst 3, 1) := mj_d (q := (52, .iconst 3, 1)) k_Mo_feed 30 rfl
theorem d_Mo_feed_53 : decode y_Mo_feed.2.2.1 53 = .ok (.invokevirtual 91, 3) := mj_d (q := (53, .invokevirtual 91, 3)) k_Mo_feed 31 rfl
theorem d_Mo_feed_56 : decode y_Mo_feed.2.2.1 56 = .ok (.ireturn, 1) := mj_d (q := (56, .ireturn, 1)) k_Mo_feed 32 rfl
theorem d_Mo_feed_57 : decode y_Mo_feed.2.2.1 57 = .ok (.aload_n 0, 1) := mj_d (q := (57, .aload_n 0, 1)) k_Mo_feed 33 rfl
theorem d_Mo_feed_58 : decode y_Mo_feed.2.2.1 58 = .ok (.getfield 19, 3) := mj_d (q := (58, .getfield 19, 3)) k_Mo_feed 34 rfl
theorem d_Mo_feed_61 : decode y_Mo_feed.2.2.1 61 = .ok (.aload_n 0, 1) := mj_d (q := (61, .aload_n 0, 1)) k_Mo_feed 35 rfl
theorem d_Mo_feed_62 : decode y_Mo_feed.2.2.1 62 = .ok (.getfield 97, 3) := mj_d (q := (62, .getfield 97, 3)) k_Mo_feed 36 rfl
theorem d_Mo_feed_65 : decode y_Mo_feed.2.2.1 65 = .ok (.iload_n 1, 1) := mj_d (q := (65, .iload_n 1, 1)) k_Mo_feed 37 rfl
theorem d_Mo_feed_66 : decode y_Mo_feed.2.2.1 66 = .ok (.iastore, 1) := mj_d (q := (66, .iastore, 1)) k_Mo_feed 38 rfl
theorem d_Mo_feed_67 : decode y_Mo_feed.2.2.1 67 = .ok (.aload_n 0, 1) := mj_d (q := (67, .aload_n 0, 1)) k_Mo_feed 39 rfl
theorem d_Mo_feed_68 : decode y_Mo_feed.2.2.1 68 = .ok (.dup, 1) := mj_d (q := (68, .dup, 1)) k_Mo_feed 40 rfl
theorem d_Mo_feed_69 : decode y_Mo_feed.2.2.1 69 = .ok (.getfield 97, 3) := mj_d (q := (69, .getfield 97, 3)) k_Mo_feed 41 rfl
theorem d_Mo_feed_72 : decode y_Mo_feed.2.2.1 72 = .ok (.iconst 1, 1) := mj_d (q := (72, .iconst 1, 1)) k_Mo_feed 42 rfl
theorem d_Mo_feed_73 : decode y_Mo_feed.2.2.1 73 = .ok (.iadd, 1) := mj_d (q := (73, .iadd, 1)) k_Mo_feed 43 rfl
theorem d_Mo_feed_74 : decode y_Mo_feed.2.2.1 74 = .ok (.putfield 97, 3) := mj_d (q := (74, .putfield 97, 3)) k_Mo_feed 44 rfl
theorem d_Mo_feed_77 : decode y_Mo_feed.2.2.1 77 = .ok (.aload_n 0, 1) := mj_d (q := (77, .aload_n 0, 1)) k_Mo_feed 45 rfl
theorem d_Mo_feed_78 : decode y_Mo_feed.2.2.1 78 = .ok (.aload_n 0, 1) := mj_d (q := (78, .aload_n 0, 1)) k_Mo_feed 46 rfl
theorem d_Mo_feed_79 : decode y_Mo_feed.2.2.1 79 = .ok (.getfield 97, 3) := mj_d (q := (79, .getfield 97, 3)) k_Mo_feed 47 rfl
theorem d_Mo_feed_82 : decode y_Mo_feed.2.2.1 82 = .ok (.invokevirtual 49, 3) := mj_d (q := (82, .invokevirtual 49, 3)) k_Mo_feed 48 rfl
theorem d_Mo_feed_85 : decode y_Mo_feed.2.2.1 85 = .ok (.aload_n 0, 1) := mj_d (q := (85, .aload_n 0, 1)) k_Mo_feed 49 rfl
theorem d_Mo_feed_86 : decode y_Mo_feed.2.2.1 86 = .ok (.aload_n 0, 1) := mj_d (q := (86, .aload_n 0, 1)) k_Mo_feed 50 rfl
theorem d_Mo_feed_87 : decode y_Mo_feed.2.2.1 87 = .ok (.getfield 97, 3) := mj_d (q := (87, .getfield 97, 3)) k_Mo_feed 51 rfl
theorem d_Mo_feed_90 : decode y_Mo_feed.2.2.1 90 = .ok (.invokevirtual 103, 3) := mj_d (q := (90, .invokevirtual 103, 3)) k_Mo_feed 52 rfl
theorem d_Mo_feed_93 : decode y_Mo_feed.2.2.1 93 = .ok (.ireturn, 1) := mj_d (q := (93, .ireturn, 1)) k_Mo_feed 53 rfl
theorem d_Mo_expectedIn_0 : decode y_Mo_expectedIn.2.2.1 0 = .ok (.iconst 0, 1) := mj_d (q := (0, .iconst 0, 1)) k_Mo_expectedIn 0 rfl
theorem d_Mo_expectedIn_1 : decode y_Mo_expectedIn.2.2.1 1 = .ok (.istore_n 2, 1) := mj_d (q := (1, .istore_n 2, 1)) k_Mo_expectedIn 1 rfl
theorem d_Mo_expectedIn_2 : decode y_Mo_expectedIn.2.2.1 2 = .ok (.iconst 0, 1) := mj_d (q := (2, .iconst 0, 1)) k_Mo_expectedIn 2 rfl
theorem d_Mo_expectedIn_3 : decode y_Mo_expectedIn.2.2.1 3 = .ok (.istore_n 3, 1) := mj_d (q := (3, .istore_n 3, 1)) k_Mo_expectedIn 3 rfl
theorem d_Mo_expectedIn_4 : decode y_Mo_expectedIn.2.2.1 4 = .ok (.iload_n 3, 1) := mj_d (q := (4, .iload_n 3, 1)) k_Mo_expectedIn 4 rfl
theorem d_Mo_expectedIn_5 : decode y_Mo_expectedIn.2.2.1 5 = .ok (.sipush 572, 3) := mj_d (q := (5, .sipush 572, 3)) k_Mo_expectedIn 5 rfl
theorem d_Mo_expectedIn_8 : decode y_Mo_expectedIn.2.2.1 8 = .ok (.if_icmp .ge 68, 3) := mj_d (q := (8, .if_icmp .ge 68, 3)) k_Mo_expectedIn 6 rfl
theorem d_Mo_expectedIn_11 : decode y_Mo_expectedIn.2.2.1 11 = .ok (.aload_n 0, 1) := mj_d (q := (11, .aload_n 0, 1)) k_Mo_expectedIn 7 rfl
theorem d_Mo_expectedIn_12 : decode y_Mo_expectedIn.2.2.1 12 = .ok (.getfield 22, 3) := mj_d (q := (12, .getfield 22, 3)) k_Mo_expectedIn 8 rfl
theorem d_Mo_expectedIn_15 : decode y_Mo_expectedIn.2.2.1 15 = .ok (.sipush 572, 3) := mj_d (q := (15, .sipush 572, 3)) k_Mo_expectedIn 9 rfl
theorem d_Mo_expectedIn_18 : decode y_Mo_expectedIn.2.2.1 18 = .ok (.iload_n 1, 1) := mj_d (q := (18, .iload_n 1, 1)) k_Mo_expectedIn 10 rfl
theorem d_Mo_expectedIn_19 : decode y_Mo_expectedIn.2.2.1 19 = .ok (.imul, 1) := mj_d (q := (19, .imul, 1)) k_Mo_expectedIn 11 rfl
theorem d_Mo_expectedIn_20 : decode y_Mo_expectedIn.2.2.1 20 = .ok (.iload_n 3, 1) := mj_d (q := (20, .iload_n 3, 1)) k_Mo_expectedIn 12 rfl
theorem d_Mo_expectedIn_21 : decode y_Mo_expectedIn.2.2.1 21 = .ok (.iadd, 1) := mj_d (q := (21, .iadd, 1)) k_Mo_expectedIn 13 rfl
theorem d_Mo_expectedIn_22 : decode y_Mo_expectedIn.2.2.1 22 = .ok (.baload, 1) := mj_d (q := (22, .baload, 1)) k_Mo_expectedIn 14 rfl
theorem d_Mo_expectedIn_23 : decode y_Mo_expectedIn.2.2.1 23 = .ok (.ifCond .eq 23, 3) := mj_d (q := (23, .ifCond .eq 23, 3)) k_Mo_expectedIn 15 rfl
theorem d_Mo_expectedIn_26 : decode y_Mo_expectedIn.2.2.1 26 = .ok (.aload_n 0, 1) := mj_d (q := (26, .aload_n 0, 1)) k_Mo_expectedIn 16 rfl
theorem d_Mo_expectedIn_27 : decode y_Mo_expectedIn.2.2.1 27 = .ok (.iload_n 3, 1) := mj_d (q := (27, .iload_n 3, 1)) k_Mo_expectedIn 17 rfl
theorem d_Mo_expectedIn_28 : decode y_Mo_expectedIn.2.2.1 28 = .ok (.bipush 52, 2) := mj_d (q := (28, .bipush 52, 2)) k_Mo_expectedIn 18 rfl
theorem d_Mo_expectedIn_30 : decode y_Mo_expectedIn.2.2.1 30 = .ok (.idiv, 1) := mj_d (q := (30, .idiv, 1)) k_Mo_expectedIn 19 rfl
theorem d_Mo_expectedIn_31 : decode y_Mo_expectedIn.2.2.1 31 = .ok (.iconst 1, 1) := mj_d (q := (31, .iconst 1, 1)) k_Mo_expectedIn 20 rfl
theorem d_Mo_expectedIn_32 : decode y_Mo_expectedIn.2.2.1 32 = .ok (.isub, 1) := mj_d (q := (32, .isub, 1)) k_Mo_expectedIn 21 rfl
theorem d_Mo_expectedIn_33 : decode y_Mo_expectedIn.2.2.1 33 = .ok (.iload_n 3, 1) := mj_d (q := (33, .iload_n 3, 1)) k_Mo_expectedIn 22 rfl
theorem d_Mo_expectedIn_34 : decode y_Mo_expectedIn.2.2.1 34 = .ok (.bipush 52, 2) := mj_d (q := (34, .bipush 52, 2)) k_Mo_expectedIn 23 rfl
theorem d_Mo_expectedIn_36 : decode y_Mo_expectedIn.2.2.1 36 = .ok (.irem, 1) := mj_d (q := (36, .irem, 1)) k_Mo_expectedIn 24 rfl
theorem d_Mo_expectedIn_37 : decode y_Mo_expectedIn.2.2.1 37 = .ok (.bipush 13, 2) := mj_d (q := (37, .bipush 13, 2)) k_Mo_expectedIn 25 rfl
theorem d_Mo_expectedIn_39 : decode y_Mo_expectedIn.2.2.1 39 = .ok (.idiv, 1) := mj_d (q := (39, .idiv, 1)) k_Mo_expectedIn 26 rfl
theorem d_Mo_expectedIn_40 : decode y_Mo_expectedIn.2.2.1 40 = .ok (.invokevirtual 65, 3) := mj_d (q := (40, .invokevirtual 65, 3)) k_Mo_expectedIn 27 rfl
theorem d_Mo_expectedIn_43 : decode y_Mo_expectedIn.2.2.1 43 = .ok (.goto 4, 3) := mj_d (q := (43, .goto 4, 3)) k_Mo_expectedIn 28 rfl
theorem d_Mo_expectedIn_46 : decode y_Mo_expectedIn.2.2.1 46 = .ok (.iconst (-1), 1) := mj_d (q := (46, .iconst (-1), 1)) k_Mo_expectedIn 29 rfl
theorem d_Mo_expectedIn_47 : decode y_Mo_expectedIn.2.2.1 47 = .ok (.istore 4, 2) := mj_d (q := (47, .istore 4, 2)) k_Mo_expectedIn 30 rfl
theorem d_Mo_expectedIn_49 : decode y_Mo_expectedIn.2.2.1 49 = .ok (.iload_n 2, 1) := mj_d (q := (49, .iload_n 2, 1)) k_Mo_expectedIn 31 rfl
theorem d_Mo_expectedIn_50 : decode y_Mo_expectedIn.2.2.1 50 = .ok (.iload 4, 2) := mj_d (q := (50, .iload 4, 2)) k_Mo_expectedIn 32 rfl
theorem d_Mo_expectedIn_52 : decode y_Mo_expectedIn.2.2.1 52 = .ok (.bipush 8, 2) := mj_d (q := (52, .bipush 8, 2)) k_Mo_expectedIn 33 rfl
theorem d_Mo_expectedIn_54 : decode y_Mo_expectedIn.2.2.1 54 = .ok (.if_icmp .lt 13, 3) := mj_d (q := (54, .if_icmp .lt 13, 3)) k_Mo_expectedIn 34 rfl
theorem d_Mo_expectedIn_57 : decode y_Mo_expectedIn.2.2.1 57 = .ok (.iconst 1, 1) := mj_d (q := (57, .iconst 1, 1)) k_Mo_expectedIn 35 rfl
theorem d_Mo_expectedIn_58 : decode y_Mo_expectedIn.2.2.1 58 = .ok (.iload 4, 2) := mj_d (q := (58, .iload 4, 2)) k_Mo_expectedIn 36 rfl
theorem d_Mo_expectedIn_60 : decode y_Mo_expectedIn.2.2.1 60 = .ok (.bipush 8, 2) := mj_d (q := (60, .bipush 8, 2)) k_Mo_expectedIn 37 rfl
theorem d_Mo_expectedIn_62 : decode y_Mo_expectedIn.2.2.1 62 = .ok (.isub, 1) := mj_d (q := (62, .isub, 1)) k_Mo_expectedIn 38 rfl
theorem d_Mo_expectedIn_63 : decode y_Mo_expectedIn.2.2.1 63 = .ok (.ishl, 1) := mj_d (q := (63, .ishl, 1)) k_Mo_expectedIn 39 rfl
theorem d_Mo_expectedIn_64 : decode y_Mo_expectedIn.2.2.1 64 = .ok (.goto 4, 3) := mj_d (q := (64, .goto 4, 3)) k_Mo_expectedIn 40 rfl
theorem d_Mo_expectedIn_67 : decode y_Mo_expectedIn.2.2.1 67 = .ok (.iconst 0, 1) := mj_d (q := (67, .iconst 0, 1)) k_Mo_expectedIn 41 rfl
theorem d_Mo_expectedIn_68 : decode y_Mo_expectedIn.2.2.1 68 = .ok (.ior, 1) := mj_d (q := (68, .ior, 1)) k_Mo_expectedIn 42 rfl
theorem d_Mo_expectedIn_69 : decode y_Mo_expectedIn.2.2.1 69 = .ok (.istore_n 2, 1) := mj_d (q := (69, .istore_n 2, 1)) k_Mo_expectedIn 43 rfl
theorem d_Mo_expectedIn_70 : decode y_Mo_expectedIn.2.2.1 70 = .ok (.iinc 3 1, 3) := mj_d (q := (70, .iinc 3 1, 3)) k_Mo_expectedIn 44 rfl
theorem d_Mo_expectedIn_73 : decode y_Mo_expectedIn.2.2.1 73 = .ok (.goto (-69), 3) := mj_d (q := (73, .goto (-69), 3)) k_Mo_expectedIn 45 rfl
theorem d_Mo_expectedIn_76 : decode y_Mo_expectedIn.2.2.1 76 = .ok (.iload_n 2, 1) := mj_d (q := (76, .iload_n 2, 1)) k_Mo_expectedIn 46 rfl
theorem d_Mo_expectedIn_77 : decode y_Mo_expectedIn.2.2.1 77 = .ok (.ireturn, 1) := mj_d (q := (77, .ireturn, 1)) k_Mo_expectedIn 47 rfl
theorem d_Mo_sizeOf_0 : decode y_Mo_sizeOf.2.2.1 0 = .ok (.iconst 0, 1) := mj_d (q := (0, .iconst 0, 1)) k_Mo_sizeOf 0 rfl
theorem d_Mo_sizeOf_1 : decode y_Mo_sizeOf.2.2.1 1 = .ok (.istore_n 2, 1) := mj_d (q := (1, .istore_n 2, 1)) k_Mo_sizeOf 1 rfl
theorem d_Mo_sizeOf_2 : decode y_Mo_sizeOf.2.2.1 2 = .ok (.iconst 0, 1) := mj_d (q := (2, .iconst 0, 1)) k_Mo_sizeOf 2 rfl
theorem d_Mo_sizeOf_3 : decode y_Mo_sizeOf.2.2.1 3 = .ok (.istore_n 3, 1) := mj_d (q := (3, .istore_n 3, 1)) k_Mo_sizeOf 3 rfl
theorem d_Mo_sizeOf_4 : decode y_Mo_sizeOf.2.2.1 4 = .ok (.iload_n 3, 1) := mj_d (q := (4, .iload_n 3, 1)) k_Mo_sizeOf 4 rfl
theorem d_Mo_sizeOf_5 : decode y_Mo_sizeOf.2.2.1 5 = .ok (.sipush 572, 3) := mj_d (q := (5, .sipush 572, 3)) k_Mo_sizeOf 5 rfl
theorem d_Mo_sizeOf_8 : decode y_Mo_sizeOf.2.2.1 8 = .ok (.if_icmp .ge 32, 3) := mj_d (q := (8, .if_icmp .ge 32, 3)) k_Mo_sizeOf 6 rfl
theorem d_Mo_sizeOf_11 : decode y_Mo_sizeOf.2.2.1 11 = .ok (.iload_n 2, 1) := mj_d (q := (11, .iload_n 2, 1)) k_Mo_sizeOf 7 rfl
theorem d_Mo_sizeOf_12 : decode y_Mo_sizeOf.2.2.1 12 = .ok (.aload_n 0, 1) := mj_d (q := (12, .aload_n 0, 1)) k_Mo_sizeOf 8 rfl
theorem d_Mo_sizeOf_13 : decode y_Mo_sizeOf.2.2.1 13 = .ok (.getfield 22, 3) := mj_d (q := (13, .getfield 22, 3)) k_Mo_sizeOf 9 rfl
theorem d_Mo_sizeOf_16 : decode y_Mo_sizeOf.2.2.1 16 = .ok (.sipush 572, 3) := mj_d (q := (16, .sipush 572, 3)) k_Mo_sizeOf 10 rfl
theorem d_Mo_sizeOf_19 : decode y_Mo_sizeOf.2.2.1 19 = .ok (.iload_n 1, 1) := mj_d (q := (19, .iload_n 1, 1)) k_Mo_sizeOf 11 rfl
theorem d_Mo_sizeOf_20 : decode y_Mo_sizeOf.2.2.1 20 = .ok (.imul, 1) := mj_d (q := (20, .imul, 1)) k_Mo_sizeOf 12 rfl
theorem d_Mo_sizeOf_21 : decode y_Mo_sizeOf.2.2.1 21 = .ok (.iload_n 3, 1) := mj_d (q := (21, .iload_n 3, 1)) k_Mo_sizeOf 13 rfl
theorem d_Mo_sizeOf_22 : decode y_Mo_sizeOf.2.2.1 22 = .ok (.iadd, 1) := mj_d (q := (22, .iadd, 1)) k_Mo_sizeOf 14 rfl
theorem d_Mo_sizeOf_23 : decode y_Mo_sizeOf.2.2.1 23 = .ok (.baload, 1) := mj_d (q := (23, .baload, 1)) k_Mo_sizeOf 15 rfl
theorem d_Mo_sizeOf_24 : decode y_Mo_sizeOf.2.2.1 24 = .ok (.ifCond .eq 7, 3) := mj_d (q := (24, .ifCond .eq 7, 3)) k_Mo_sizeOf 16 rfl
theorem d_Mo_sizeOf_27 : decode y_Mo_sizeOf.2.2.1 27 = .ok (.iconst 1, 1) := mj_d (q := (27, .iconst 1, 1)) k_Mo_sizeOf 17 rfl
theorem d_Mo_sizeOf_28 : decode y_Mo_sizeOf.2.2.1 28 = .ok (.goto 4, 3) := mj_d (q := (28, .goto 4, 3)) k_Mo_sizeOf 18 rfl
theorem d_Mo_sizeOf_31 : decode y_Mo_sizeOf.2.2.1 31 = .ok (.iconst 0, 1) := mj_d (q := (31, .iconst 0, 1)) k_Mo_sizeOf 19 rfl
theorem d_Mo_sizeOf_32 : decode y_Mo_sizeOf.2.2.1 32 = .ok (.iadd, 1) := mj_d (q := (32, .iadd, 1)) k_Mo_sizeOf 20 rfl
theorem d_Mo_sizeOf_33 : decode y_Mo_sizeOf.2.2.1 33 = .ok (.istore_n 2, 1) := mj_d (q := (33, .istore_n 2, 1)) k_Mo_sizeOf 21 rfl
theorem d_Mo_sizeOf_34 : decode y_Mo_sizeOf.2.2.1 34 = .ok (.iinc 3 1, 3) := mj_d (q := (34, .iinc 3 1, 3)) k_Mo_sizeOf 22 rfl
theorem d_Mo_sizeOf_37 : decode y_Mo_sizeOf.2.2.1 37 = .ok (.goto (-33), 3) := mj_d (q := (37, .goto (-33), 3)) k_Mo_sizeOf 23 rfl
theorem d_Mo_sizeOf_40 : decode y_Mo_sizeOf.2.2.1 40 = .ok (.iload_n 2, 1) := mj_d (q := (40, .iload_n 2, 1)) k_Mo_sizeOf 24 rfl
theorem d_Mo_sizeOf_41 : decode y_Mo_sizeOf.2.2.1 41 = .ok (.ireturn, 1) := mj_d (q := (41, .ireturn, 1)) k_Mo_sizeOf 25 rfl
theorem d_Mo_back_0 : decode y_Mo_back.2.2.1 0 = .ok (.aload_n 0, 1) := mj_d (q := (0, .aload_n 0, 1)) k_Mo_back 0 rfl
theorem d_Mo_back_1 : decode y_Mo_back.2.2.1 1 = .ok (.iconst 0, 1) := mj_d (q := (1, .iconst 0, 1)) k_Mo_back 1 rfl
theorem d_Mo_back_2 : decode y_Mo_back.2.2.1 2 = .ok (.putfield 53, 3) := mj_d (q := (2, .putfield 53, 3)) k_Mo_back 2 rfl
theorem d_Mo_back_5 : decode y_Mo_back.2.2.1 5 = .ok (.iload_n 1, 1) := mj_d (q := (5, .iload_n 1, 1)) k_Mo_back 3 rfl
theorem d_Mo_back_6 : decode y_Mo_back.2.2.1 6 = .ok (.ifCond .lt 11, 3) := mj_d (q := (6, .ifCond .lt 11, 3)) k_Mo_back 4 rfl
theorem d_Mo_back_9 : decode y_Mo_back.2.2.1 9 = .ok (.iload_n 1, 1) := mj_d (q := (9, .iload_n 1, 1)) k_Mo_back 5 rfl
theorem d_Mo_back_10 : decode y_Mo_back.2.2.1 10 = .ok (.aload_n 0, 1) := mj_d (q := (10, .aload_n 0, 1)) k_Mo_back 6 rfl
theorem d_Mo_back_11 : decode y_Mo_back.2.2.1 11 = .ok (.getfield 97, 3) := mj_d (q := (11, .getfield 97, 3)) k_Mo_back 7 rfl
theorem d_Mo_back_14 : decode y_Mo_back.2.2.1 14 = .ok (.if_icmp .le 9, 3) := mj_d (q := (14, .if_icmp .le 9, 3)) k_Mo_back 8 rfl
theorem d_Mo_back_17 : decode y_Mo_back.2.2.1 17 = .ok (.aload_n 0, 1) := mj_d (q := (17, .aload_n 0, 1)) k_Mo_back 9 rfl
theorem d_Mo_back_18 : decode y_Mo_back.2.2.1 18 = .ok (.iconst 1, 1) := mj_d (q := (18, .iconst 1, 1)) k_Mo_back 10 rfl
theorem d_Mo_back_19 : decode y_Mo_back.2.2.1 19 = .ok (.invokevirtual 91, 3) := mj_d (q := (19, .invokevirtual 91, 3)) k_Mo_back 11 rfl
theorem d_Mo_back_22 : decode y_Mo_back.2.2.1 22 = .ok (.ireturn, 1) := mj_d (q := (22, .ireturn, 1)) k_Mo_back 12 rfl
theorem d_Mo_back_23 : decode y_Mo_back.2.2.1 23 = .ok (.aload_n 0, 1) := mj_d (q := (23, .aload_n 0, 1)) k_Mo_back 13 rfl
theorem d_Mo_back_24 : decode y_Mo_back.2.2.1 24 = .ok (.dup, 1) := mj_d (q := (24, .dup, 1)) k_Mo_back 14 rfl
theorem d_Mo_back_25 : decode y_Mo_back.2.2.1 25 = .ok (.getfield 97, 3) := mj_d (q := (25, .getfield 97, 3)) k_Mo_back 15 rfl
theorem d_Mo_back_28 : decode y_Mo_back.2.2.1 28 = .ok (.iload_n 1, 1) := mj_d (q := (28, .iload_n 1, 1)) k_Mo_back 16 rfl
theorem d_Mo_back_29 : decode y_Mo_back.2.2.1 29 = .ok (.isub, 1) := mj_d (q := (29, .isub, 1)) k_Mo_back 17 rfl
theorem d_Mo_back_30 : decode y_Mo_back.2.2.1 30 = .ok (.putfield 97, 3) := mj_d (q := (30, .putfield 97, 3)) k_Mo_back 18 rfl
theorem d_Mo_back_33 : decode y_Mo_back.2.2.1 33 = .ok (.aload_n 0, 1) := mj_d (q := (33, .aload_n 0, 1)) k_Mo_back 19 rfl
theorem d_Mo_back_34 : decode y_Mo_back.2.2.1 34 = .ok (.iconst 0, 1) := mj_d (q := (34, .iconst 0, 1)) k_Mo_back 20 rfl
theorem d_Mo_back_35 : decode y_Mo_back.2.2.1 35 = .ok (.putfield 85, 3) := mj_d (q := (35, .putfield 85, 3)) k_Mo_back 21 rfl
theorem d_Mo_back_38 : decode y_Mo_back.2.2.1 38 = .ok (.aload_n 0, 1) := mj_d (q := (38, .aload_n 0, 1)) k_Mo_back 22 rfl
theorem d_Mo_back_39 : decode y_Mo_back.2.2.1 39 = .ok (.getfield 97, 3) := mj_d (q := (39, .getfield 97, 3)) k_Mo_back 23 rfl
theorem d_Mo_back_42 : decode y_Mo_back.2.2.1 42 = .ok (.ireturn, 1) := mj_d (q := (42, .ireturn, 1)) k_Mo_back 24 rfl
theorem d_Mo_fed_0 : decode y_Mo_fed.2.2.1 0 = .ok (.aload_n 0, 1) := mj_d (q := (0, .aload_n 0, 1)) k_Mo_fed 0 rfl
theorem d_Mo_fed_1 : decode y_Mo_fed.2.2.1 1 = .ok (.iconst 0, 1) := mj_d (q := (1, .iconst 0, 1)) k_Mo_fed 1 rfl
theorem d_Mo_fed_2 : decode y_Mo_fed.2.2.1 2 = .ok (.putfield 53, 3) := mj_d (q := (2, .putfield 53, 3)) k_Mo_fed 2 rfl
theorem d_Mo_fed_5 : decode y_Mo_fed.2.2.1 5 = .ok (.aload_n 0, 1) := mj_d (q := (5, .aload_n 0, 1)) k_Mo_fed 3 rfl
theorem d_Mo_fed_6 : decode y_Mo_fed.2.2.1 6 = .ok (.getfield 97, 3) := mj_d (q := (6, .getfield 97, 3)) k_Mo_fed 4 rfl
theorem d_Mo_fed_9 : decode y_Mo_fed.2.2.1 9 = .ok (.ireturn, 1) := mj_d (q := (9, .ireturn, 1)) k_Mo_fed 5 rfl
theorem d_Mo_accepts_0 : decode y_Mo_accepts.2.2.1 0 = .ok (.aload_n 0, 1) := mj_d (q := (0, .aload_n 0, 1)) k_Mo_accepts 0 rfl
theorem d_Mo_accepts_1 : decode y_Mo_accepts.2.2.1 1 = .ok (.iconst 0, 1) := mj_d (q := (1, .iconst 0, 1)) k_Mo_accepts 1 rfl
theorem d_Mo_accepts_2 : decode y_Mo_accepts.2.2.1 2 = .ok (.putfield 53, 3) := mj_d (q := (2, .putfield 53, 3)) k_Mo_accepts 2 rfl
theorem d_Mo_accepts_5 : decode y_Mo_accepts.2.2.1 5 = .ok (.aload_n 0, 1) := mj_d (q := (5, .aload_n 0, 1)) k_Mo_accepts 3 rfl
theorem d_Mo_accepts_6 : decode y_Mo_accepts.2.2.1 6 = .ok (.aload_n 0, 1) := mj_d (q := (6, .aload_n 0, 1)) k_Mo_accepts 4 rfl
theorem d_Mo_accepts_7 : decode y_Mo_accepts.2.2.1 7 = .ok (.getfield 97, 3) := mj_d (q := (7, .getfield 97, 3)) k_Mo_accepts 5 rfl
theorem d_Mo_accepts_10 : decode y_Mo_accepts.2.2.1 10 = .ok (.iconst (-1), 1) := mj_d (q := (10, .iconst (-1), 1)) k_Mo_accepts 6 rfl
theorem d_Mo_accepts_11 : decode y_Mo_accepts.2.2.1 11 = .ok (.iconst 1, 1) := mj_d (q := (11, .iconst 1, 1)) k_Mo_accepts 7 rfl
theorem d_Mo_accepts_12 : decode y_Mo_accepts.2.2.1 12 = .ok (.iconst 0, 1) := mj_d (q := (12, .iconst 0, 1)) k_Mo_accepts 8 rfl
theorem d_Mo_accepts_13 : decode y_Mo_accepts.2.2.1 13 = .ok (.invokevirtual 106, 3) := mj_d (q := (13, .invokevirtual 106, 3)) k_Mo_accepts 9 rfl
theorem d_Mo_accepts_16 : decode y_Mo_accepts.2.2.1 16 = .ok (.ireturn, 1) := mj_d (q := (16, .ireturn, 1)) k_Mo_accepts 10 rfl
theorem d_Mo_holds_0 : decode y_Mo_holds.2.2.1 0 = .ok (.aload_n 0, 1) := mj_d (q := (0, .aload_n 0, 1)) k_Mo_holds 0 rfl
theorem d_Mo_holds_1 : decode y_Mo_holds.2.2.1 1 = .ok (.getfield 22, 3) := mj_d (q := (1, .getfield 22, 3)) k_Mo_holds 1 rfl
theorem d_Mo_holds_4 : decode y_Mo_holds.2.2.1 4 = .ok (.iload_n 1, 1) := mj_d (q := (4, .iload_n 1, 1)) k_Mo_holds 2 rfl
theorem d_Mo_holds_5 : decode y_Mo_holds.2.2.1 5 = .ok (.iload_n 2, 1) := mj_d (q := (5, .iload_n 2, 1)) k_Mo_holds 3 rfl
theorem d_Mo_holds_6 : decode y_Mo_holds.2.2.1 6 = .ok (.iload_n 3, 1) := mj_d (q := (6, .iload_n 3, 1)) k_Mo_holds 4 rfl
theorem d_Mo_holds_7 : decode y_Mo_holds.2.2.1 7 = .ok (.iload 4, 2) := mj_d (q := (7, .iload 4, 2)) k_Mo_holds 5 rfl
theorem d_Mo_holds_9 : decode y_Mo_holds.2.2.1 9 = .ok (.invokestatic 61, 3) := mj_d (q := (9, .invokestatic 61, 3)) k_Mo_holds 6 rfl
theorem d_Mo_holds_12 : decode y_Mo_holds.2.2.1 12 = .ok (.baload, 1) := mj_d (q := (12, .baload, 1)) k_Mo_holds 7 rfl
theorem d_Mo_holds_13 : decode y_Mo_holds.2.2.1 13 = .ok (.ireturn, 1) := mj_d (q := (13, .ireturn, 1)) k_Mo_holds 8 rfl
theorem d_Mo_expected_0 : decode y_Mo_expected.2.2.1 0 = .ok (.aload_n 0, 1) := mj_d (q := (0, .aload_n 0, 1)) k_Mo_expected 0 rfl
theorem d_Mo_expected_1 : decode y_Mo_expected.2.2.1 1 = .ok (.iconst 0, 1) := mj_d (q := (1, .iconst 0, 1)) k_Mo_expected 1 rfl
theorem d_Mo_expected_2 : decode y_Mo_expected.2.2.1 2 = .ok (.putfield 53, 3) := mj_d (q := (2, .putfield 53, 3)) k_Mo_expected 2 rfl
theorem d_Mo_expected_5 : decode y_Mo_expected.2.2.1 5 = .ok (.aload_n 0, 1) := mj_d (q := (5, .aload_n 0, 1)) k_Mo_expected 3 rfl
theorem d_Mo_expected_6 : decode y_Mo_expected.2.2.1 6 = .ok (.aload_n 0, 1) := mj_d (q := (6, .aload_n 0, 1)) k_Mo_expected 4 rfl
theorem d_Mo_expected_7 : decode y_Mo_expected.2.2.1 7 = .ok (.getfield 97, 3) := mj_d (q := (7, .getfield 97, 3)) k_Mo_expected 5 rfl
theorem d_Mo_expected_10 : decode y_Mo_expected.2.2.1 10 = .ok (.invokevirtual 100, 3) := mj_d (q := (10, .invokevirtual 100, 3)) k_Mo_expected 6 rfl
theorem d_Mo_expected_13 : decode y_Mo_expected.2.2.1 13 = .ok (.ireturn, 1) := mj_d (q := (13, .ireturn, 1)) k_Mo_expected 7 rfl
theorem d_Mo_items_0 : decode y_Mo_items.2.2.1 0 = .ok (.aload_n 0, 1) := mj_d (q := (0, .aload_n 0, 1)) k_Mo_items 0 rfl
theorem d_Mo_items_1 : decode y_Mo_items.2.2.1 1 = .ok (.iconst 0, 1) := mj_d (q := (1, .iconst 0, 1)) k_Mo_items 1 rfl
theorem d_Mo_items_2 : decode y_Mo_items.2.2.1 2 = .ok (.putfield 53, 3) := mj_d (q := (2, .putfield 53, 3)) k_Mo_items 2 rfl
theorem d_Mo_items_5 : decode y_Mo_items.2.2.1 5 = .ok (.aload_n 0, 1) := mj_d (q := (5, .aload_n 0, 1)) k_Mo_items 3 rfl
theorem d_Mo_items_6 : decode y_Mo_items.2.2.1 6 = .ok (.iload_n 1, 1) := mj_d (q := (6, .iload_n 1, 1)) k_Mo_items 4 rfl
theorem d_Mo_items_7 : decode y_Mo_items.2.2.1 7 = .ok (.invokevirtual 110, 3) := mj_d (q := (7, .invokevirtual 110, 3)) k_Mo_items 5 rfl
theorem d_Mo_items_10 : decode y_Mo_items.2.2.1 10 = .ok (.ifCond .eq 11, 3) := mj_d (q := (10, .ifCond .eq 11, 3)) k_Mo_items 6 rfl
theorem d_Mo_items_13 : decode y_Mo_items.2.2.1 13 = .ok (.aload_n 0, 1) := mj_d (q := (13, .aload_n 0, 1)) k_Mo_items 7 rfl
theorem d_Mo_items_14 : decode y_Mo_items.2.2.1 14 = .ok (.iload_n 1, 1) := mj_d (q := (14, .iload_n 1, 1)) k_Mo_items 8 rfl
theorem d_Mo_items_15 : decode y_Mo_items.2.2.1 15 = .ok (.invokevirtual 103, 3) := mj_d (q := (15, .invokevirtual 103, 3)) k_Mo_items 9 rfl
theorem d_Mo_items_18 : decode y_Mo_items.2.2.1 18 = .ok (.goto 8, 3) := mj_d (q := (18, .goto 8, 3)) k_Mo_items 10 rfl
theorem d_Mo_items_21 : decode y_Mo_items.2.2.1 21 = .ok (.aload_n 0, 1) := mj_d (q := (21, .aload_n 0, 1)) k_Mo_items 11 rfl
theorem d_Mo_items_22 : decode y_Mo_items.2.2.1 22 = .ok (.iconst 1, 1) := mj_d (q := (22, .iconst 1, 1)) k_Mo_items 12 rfl
theorem d_Mo_items_23 : decode y_Mo_items.2.2.1 23 = .ok (.invokevirtual 91, 3) := mj_d (q := (23, .invokevirtual 91, 3)) k_Mo_items 13 rfl
theorem d_Mo_items_26 : decode y_Mo_items.2.2.1 26 = .ok (.ireturn, 1) := mj_d (q := (26, .ireturn, 1)) k_Mo_items 14 rfl
theorem d_Mo_isSet_0 : decode y_Mo_isSet.2.2.1 0 = .ok (.iload_n 1, 1) := mj_d (q := (0, .iload_n 1, 1)) k_Mo_isSet 0 rfl
theorem d_Mo_isSet_1 : decode y_Mo_isSet.2.2.1 1 = .ok (.ifCond .lt 15, 3) := mj_d (q := (1, .ifCond .lt 15, 3)) k_Mo_isSet 1 rfl
theorem d_Mo_isSet_4 : decode y_Mo_isSet.2.2.1 4 = .ok (.iload_n 1, 1) := mj_d (q := (4, .iload_n 1, 1)) k_Mo_isSet 2 rfl
theorem d_Mo_isSet_5 : decode y_Mo_isSet.2.2.1 5 = .ok (.aload_n 0, 1) := mj_d (q := (5, .aload_n 0, 1)) k_Mo_isSet 3 rfl
theorem d_Mo_isSet_6 : decode y_Mo_isSet.2.2.1 6 = .ok (.getfield 97, 3) := mj_d (q := (6, .getfield 97, 3)) k_Mo_isSet 4 rfl
theorem d_Mo_isSet_9 : decode y_Mo_isSet.2.2.1 9 = .ok (.if_icmp .gt 7, 3) := mj_d (q := (9, .if_icmp .gt 7, 3)) k_Mo_isSet 5 rfl
theorem d_Mo_isSet_12 : decode y_Mo_isSet.2.2.1 12 = .ok (.iconst 1, 1) := mj_d (q := (12, .iconst 1, 1)) k_Mo_isSet 6 rfl
theorem d_Mo_isSet_13 : decode y_Mo_isSet.2.2.1 13 = .ok (.goto 4, 3) := mj_d (q := (13, .goto 4, 3)) k_Mo_isSet 7 rfl
theorem d_Mo_isSet_16 : decode y_Mo_isSet.2.2.1 16 = .ok (.iconst 0, 1) := mj_d (q := (16, .iconst 0, 1)) k_Mo_isSet 8 rfl
theorem d_Mo_isSet_17 : decode y_Mo_isSet.2.2.1 17 = .ok (.ireturn, 1) := mj_d (q := (17, .ireturn, 1)) k_Mo_isSet 9 rfl
theorem d_Mo_has_0 : decode y_Mo_has.2.2.1 0 = .ok (.aload_n 0, 1) := mj_d (q := (0, .aload_n 0, 1)) k_Mo_has 0 rfl
theorem d_Mo_has_1 : decode y_Mo_has.2.2.1 1 = .ok (.aload_n 0, 1) := mj_d (q := (1, .aload_n 0, 1)) k_Mo_has 1 rfl
theorem d_Mo_has_2 : decode y_Mo_has.2.2.1 2 = .ok (.iload_n 1, 1) := mj_d (q := (2, .iload_n 1, 1)) k_Mo_has 2 rfl
theorem d_Mo_has_3 : decode y_Mo_has.2.2.1 3 = .ok (.invokevirtual 110, 3) := mj_d (q := (3, .invokevirtual 110, 3)) k_Mo_has 3 rfl
theorem d_Mo_has_6 : decode y_Mo_has.2.2.1 6 = .ok (.ifCond .eq 7, 3) := mj_d (q := (6, .ifCond .eq 7, 3)) k_Mo_has 4 rfl
theorem d_Mo_has_9 : decode y_Mo_has.2.2.1 9 = .ok (.iconst 0, 1) := mj_d (q := (9, .iconst 0, 1)) k_Mo_has 5 rfl
theorem d_Mo_has_10 : decode y_Mo_has.2.2.1 10 = .ok (.goto 4, 3) := mj_d (q := (10, .goto 4, 3)) k_Mo_has 6 rfl
theorem d_Mo_has_13 : decode y_Mo_has.2.2.1 13 = .ok (.iconst 1, 1) := mj_d (q := (13, .iconst 1, 1)) k_Mo_has 7 rfl
theorem d_Mo_has_14 : decode y_Mo_has.2.2.1 14 = .ok (.putfield 53, 3) := mj_d (q := (14, .putfield 53, 3)) k_Mo_has 8 rfl
theorem d_Mo_has_17 : decode y_Mo_has.2.2.1 17 = .ok (.aload_n 0, 1) := mj_d (q := (17, .aload_n 0, 1)) k_Mo_has 9 rfl
theorem d_Mo_has_18 : decode y_Mo_has.2.2.1 18 = .ok (.getfield 53, 3) := mj_d (q := (18, .getfield 53, 3)) k_Mo_has 10 rfl
theorem d_Mo_has_21 : decode y_Mo_has.2.2.1 21 = .ok (.ifCond .ne 38, 3) := mj_d (q := (21, .ifCond .ne 38, 3)) k_Mo_has 11 rfl
theorem d_Mo_has_24 : decode y_Mo_has.2.2.1 24 = .ok (.iload_n 2, 1) := mj_d (q := (24, .iload_n 2, 1)) k_Mo_has 12 rfl
theorem d_Mo_has_25 : decode y_Mo_has.2.2.1 25 = .ok (.iconst (-1), 1) := mj_d (q := (25, .iconst (-1), 1)) k_Mo_has 13 rfl
theorem d_Mo_has_26 : decode y_Mo_has.2.2.1 26 = .ok (.if_icmp .lt 33, 3) := mj_d (q := (26, .if_icmp .lt 33, 3)) k_Mo_has 14 rfl
theorem d_Mo_has_29 : decode y_Mo_has.2.2.1 29 = .ok (.iload_n 2, 1) := mj_d (q := (29, .iload_n 2, 1)) k_Mo_has 15 rfl
theorem d_Mo_has_30 : decode y_Mo_has.2.2.1 30 = .ok (.aload_n 0, 1) := mj_d (q := (30, .aload_n 0, 1)) k_Mo_has 16 rfl
theorem d_Mo_has_31 : decode y_Mo_has.2.2.1 31 = .ok (.getfield 73, 3) := mj_d (q := (31, .getfield 73, 3)) k_Mo_has 17 rfl
theorem d_Mo_has_34 : decode y_Mo_has.2.2.1 34 = .ok (.if_icmp .ge 25, 3) := mj_d (q := (34, .if_icmp .ge 25, 3)) k_Mo_has 18 rfl
theorem d_Mo_has_37 : decode y_Mo_has.2.2.1 37 = .ok (.iload_n 3, 1) := mj_d (q := (37, .iload_n 3, 1)) k_Mo_has 19 rfl
theorem d_Mo_has_38 : decode y_Mo_has.2.2.1 38 = .ok (.ifCond .lt 21, 3) := mj_d (q := (38, .ifCond .lt 21, 3)) k_Mo_has 20 rfl
theorem d_Mo_has_41 : decode y_Mo_has.2.2.1 41 = .ok (.iload_n 3, 1) := mj_d (q := (41, .iload_n 3, 1)) k_Mo_has 21 rfl
theorem d_Mo_has_42 : decode y_Mo_has.2.2.1 42 = .ok (.aload_n 0, 1) := mj_d (q := (42, .aload_n 0, 1)) k_Mo_has 22 rfl
theorem d_Mo_has_43 : decode y_Mo_has.2.2.1 43 = .ok (.iload_n 2, 1) := mj_d (q := (43, .iload_n 2, 1)) k_Mo_has 23 rfl
theorem d_Mo_has_44 : decode y_Mo_has.2.2.1 44 = .ok (.invokevirtual 57, 3) := mj_d (q := (44, .invokevirtual 57, 3)) k_Mo_has 24 rfl
theorem d_Mo_has_47 : decode y_Mo_has.2.2.1 47 = .ok (.if_icmp .gt 12, 3) := mj_d (q := (47, .if_icmp .gt 12, 3)) k_Mo_has 25 rfl
theorem d_Mo_has_50 : decode y_Mo_has.2.2.1 50 = .ok (.aload_n 0, 1) := mj_d (q := (50, .aload_n 0, 1)) k_Mo_has 26 rfl
theorem d_Mo_has_51 : decode y_Mo_has.2.2.1 51 = .ok (.iload 4, 2) := mj_d (q := (51, .iload 4, 2)) k_Mo_has 27 rfl
theorem d_Mo_has_53 : decode y_Mo_has.2.2.1 53 = .ok (.invokevirtual 110, 3) := mj_d (q := (53, .invokevirtual 110, 3)) k_Mo_has 28 rfl
theorem d_Mo_has_56 : decode y_Mo_has.2.2.1 56 = .ok (.ifCond .ne 5, 3) := mj_d (q := (56, .ifCond .ne 5, 3)) k_Mo_has 29 rfl
theorem d_Mo_has_59 : decode y_Mo_has.2.2.1 59 = .ok (.iconst 0, 1) := mj_d (q := (59, .iconst 0, 1)) k_Mo_has 30 rfl
theorem d_Mo_has_60 : decode y_Mo_has.2.2.1 60 = .ok (.ireturn, 1) := mj_d (q := (60, .ireturn, 1)) k_Mo_has 31 rfl
theorem d_Mo_has_61 : decode y_Mo_has.2.2.1 61 = .ok (.aload_n 0, 1) := mj_d (q := (61, .aload_n 0, 1)) k_Mo_has 32 rfl
theorem d_Mo_has_62 : decode y_Mo_has.2.2.1 62 = .ok (.iload_n 1, 1) := mj_d (q := (62, .iload_n 1, 1)) k_Mo_has 33 rfl
theorem d_Mo_has_63 : decode y_Mo_has.2.2.1 63 = .ok (.iload_n 2, 1) := mj_d (q := (63, .iload_n 2, 1)) k_Mo_has 34 rfl
theorem d_Mo_has_64 : decode y_Mo_has.2.2.1 64 = .ok (.iload_n 3, 1) := mj_d (q := (64, .iload_n 3, 1)) k_Mo_has 35 rfl
theorem d_Mo_has_65 : decode y_Mo_has.2.2.1 65 = .ok (.iload 4, 2) := mj_d (q := (65, .iload 4, 2)) k_Mo_has 36 rfl
theorem d_Mo_has_67 : decode y_Mo_has.2.2.1 67 = .ok (.invokevirtual 106, 3) := mj_d (q := (67, .invokevirtual 106, 3)) k_Mo_has 37 rfl
theorem d_Mo_has_70 : decode y_Mo_has.2.2.1 70 = .ok (.ireturn, 1) := mj_d (q := (70, .ireturn, 1)) k_Mo_has 38 rfl
theorem d_Mo_leap_0 : decode y_Mo_leap.2.2.1 0 = .ok (.aload_n 0, 1) := mj_d (q := (0, .aload_n 0, 1)) k_Mo_leap 0 rfl
theorem d_Mo_leap_1 : decode y_Mo_leap.2.2.1 1 = .ok (.iconst 0, 1) := mj_d (q := (1, .iconst 0, 1)) k_Mo_leap 1 rfl
theorem d_Mo_leap_2 : decode y_Mo_leap.2.2.1 2 = .ok (.putfield 53, 3) := mj_d (q := (2, .putfield 53, 3)) k_Mo_leap 2 rfl
theorem d_Mo_leap_5 : decode y_Mo_leap.2.2.1 5 = .ok (.aload_n 0, 1) := mj_d (q := (5, .aload_n 0, 1)) k_Mo_leap 3 rfl
theorem d_Mo_leap_6 : decode y_Mo_leap.2.2.1 6 = .ok (.iload_n 1, 1) := mj_d (q := (6, .iload_n 1, 1)) k_Mo_leap 4 rfl
theorem d_Mo_leap_7 : decode y_Mo_leap.2.2.1 7 = .ok (.invokevirtual 110, 3) := mj_d (q := (7, .invokevirtual 110, 3)) k_Mo_leap 5 rfl
theorem d_Mo_leap_10 : decode y_Mo_leap.2.2.1 10 = .ok (.ifCond .eq 10, 3) := mj_d (q := (10, .ifCond .eq 10, 3)) k_Mo_leap 6 rfl
theorem d_Mo_leap_13 : decode y_Mo_leap.2.2.1 13 = .ok (.iload_n 2, 1) := mj_d (q := (13, .iload_n 2, 1)) k_Mo_leap 7 rfl
theorem d_Mo_leap_14 : decode y_Mo_leap.2.2.1 14 = .ok (.invokestatic 69, 3) := mj_d (q := (14, .invokestatic 69, 3)) k_Mo_leap 8 rfl
theorem d_Mo_leap_17 : decode y_Mo_leap.2.2.1 17 = .ok (.ifCond .ne 9, 3) := mj_d (q := (17, .ifCond .ne 9, 3)) k_Mo_leap 9 rfl
theorem d_Mo_leap_20 : decode y_Mo_leap.2.2.1 20 = .ok (.aload_n 0, 1) := mj_d (q := (20, .aload_n 0, 1)) k_Mo_leap 10 rfl
theorem d_Mo_leap_21 : decode y_Mo_leap.2.2.1 21 = .ok (.iconst 1, 1) := mj_d (q := (21, .iconst 1, 1)) k_Mo_leap 11 rfl
theorem d_Mo_leap_22 : decode y_Mo_leap.2.2.1 22 = .ok (.invokevirtual 91, 3) := mj_d (q := (22, .invokevirtual 91, 3)) k_Mo_leap 12 rfl
theorem d_Mo_leap_25 : decode y_Mo_leap.2.2.1 25 = .ok (.ireturn, 1) := mj_d (q := (25, .ireturn, 1)) k_Mo_leap 13 rfl
theorem d_Mo_leap_26 : decode y_Mo_leap.2.2.1 26 = .ok (.aload_n 0, 1) := mj_d (q := (26, .aload_n 0, 1)) k_Mo_leap 14 rfl
theorem d_Mo_leap_27 : decode y_Mo_leap.2.2.1 27 = .ok (.getfield 45, 3) := mj_d (q := (27, .getfield 45, 3)) k_Mo_leap 15 rfl
theorem d_Mo_leap_30 : decode y_Mo_leap.2.2.1 30 = .ok (.ifCond .eq 20, 3) := mj_d (q := (30, .ifCond .eq 20, 3)) k_Mo_leap 16 rfl
theorem d_Mo_leap_33 : decode y_Mo_leap.2.2.1 33 = .ok (.iload_n 1, 1) := mj_d (q := (33, .iload_n 1, 1)) k_Mo_leap 17 rfl
theorem d_Mo_leap_34 : decode y_Mo_leap.2.2.1 34 = .ok (.aload_n 0, 1) := mj_d (q := (34, .aload_n 0, 1)) k_Mo_leap 18 rfl
theorem d_Mo_leap_35 : decode y_Mo_leap.2.2.1 35 = .ok (.getfield 97, 3) := mj_d (q := (35, .getfield 97, 3)) k_Mo_leap 19 rfl
theorem d_Mo_leap_38 : decode y_Mo_leap.2.2.1 38 = .ok (.if_icmp .ge 12, 3) := mj_d (q := (38, .if_icmp .ge 12, 3)) k_Mo_leap 20 rfl
theorem d_Mo_leap_41 : decode y_Mo_leap.2.2.1 41 = .ok (.aload_n 0, 1) := mj_d (q := (41, .aload_n 0, 1)) k_Mo_leap 21 rfl
theorem d_Mo_leap_42 : decode y_Mo_leap.2.2.1 42 = .ok (.iload_n 1, 1) := mj_d (q := (42, .iload_n 1, 1)) k_Mo_leap 22 rfl
theorem d_Mo_leap_43 : decode y_Mo_leap.2.2.1 43 = .ok (.iload_n 2, 1) := mj_d (q := (43, .iload_n 2, 1)) k_Mo_leap 23 rfl
theorem d_Mo_leap_44 : decode y_Mo_leap.2.2.1 44 = .ok (.invokevirtual 79, 3) := mj_d (q := (44, .invokevirtual 79, 3)) k_Mo_leap 24 rfl
theorem d_Mo_leap_47 : decode y_Mo_leap.2.2.1 47 = .ok (.goto 4, 3) := mj_d (q := (47, .goto 4, 3)) k_Mo_leap 25 rfl
theorem d_Mo_leap_50 : decode y_Mo_leap.2.2.1 50 = .ok (.iconst (-1), 1) := mj_d (q := (50, .iconst (-1), 1)) k_Mo_leap 26 rfl
theorem d_Mo_leap_51 : decode y_Mo_leap.2.2.1 51 = .ok (.istore_n 3, 1) := mj_d (q := (51, .istore_n 3, 1)) k_Mo_leap 27 rfl
theorem d_Mo_leap_52 : decode y_Mo_leap.2.2.1 52 = .ok (.iload_n 3, 1) := mj_d (q := (52, .iload_n 3, 1)) k_Mo_leap 28 rfl
theorem d_Mo_leap_53 : decode y_Mo_leap.2.2.1 53 = .ok (.ifCond .ge 7, 3) := mj_d (q := (53, .ifCond .ge 7, 3)) k_Mo_leap 29 rfl
theorem d_Mo_leap_56 : decode y_Mo_leap.2.2.1 56 = .ok (.iconst (-1), 1) := mj_d (q := (56, .iconst (-1), 1)) k_Mo_leap 30 rfl
theorem d_Mo_leap_57 : decode y_Mo_leap.2.2.1 57 = .ok (.goto 27, 3) := mj_d (q := (57, .goto 27, 3)) k_Mo_leap 31 rfl
theorem d_Mo_leap_60 : decode y_Mo_leap.2.2.1 60 = .ok (.sipush 1000, 3) := mj_d (q := (60, .sipush 1000, 3)) k_Mo_leap 32 rfl
theorem d_Mo_leap_63 : decode y_Mo_leap.2.2.1 63 = .ok (.iload_n 3, 1) := mj_d (q := (63, .iload_n 3, 1)) k_Mo_leap 33 rfl
theorem d_Mo_leap_64 : decode y_Mo_leap.2.2.1 64 = .ok (.bipush 52, 2) := mj_d (q := (64, .bipush 52, 2)) k_Mo_leap 34 rfl
theorem d_Mo_leap_66 : decode y_Mo_leap.2.2.1 66 = .ok (.idiv, 1) := mj_d (q := (66, .idiv, 1)) k_Mo_leap 35 rfl
theorem d_Mo_leap_67 : decode y_Mo_leap.2.2.1 67 = .ok (.imul, 1) := mj_d (q := (67, .imul, 1)) k_Mo_leap 36 rfl
theorem d_Mo_leap_68 : decode y_Mo_leap.2.2.1 68 = .ok (.bipush 100, 2) := mj_d (q := (68, .bipush 100, 2)) k_Mo_leap 37 rfl
theorem d_Mo_leap_70 : decode y_Mo_leap.2.2.1 70 = .ok (.iload_n 3, 1) := mj_d (q := (70, .iload_n 3, 1)) k_Mo_leap 38 rfl
theorem d_Mo_leap_71 : decode y_Mo_leap.2.2.1 71 = .ok (.bipush 52, 2) := mj_d (q := (71, .bipush 52, 2)) k_Mo_leap 39 rfl
theorem d_Mo_leap_73 : decode y_Mo_leap.2.2.1 73 = .ok (.irem, 1) := mj_d (q := (73, .irem, 1)) k_Mo_leap 40 rfl
theorem d_Mo_leap_74 : decode y_Mo_leap.2.2.1 74 = .ok (.bipush 13, 2) := mj_d (q := (74, .bipush 13, 2)) k_Mo_leap 41 rfl
theorem d_Mo_leap_76 : decode y_Mo_leap.2.2.1 76 = .ok (.idiv, 1) := mj_d (q := (76, .idiv, 1)) k_Mo_leap 42 rfl
theorem d_Mo_leap_77 : decode y_Mo_leap.2.2.1 77 = .ok (.imul, 1) := mj_d (q := (77, .imul, 1)) k_Mo_leap 43 rfl
theorem d_Mo_leap_78 : decode y_Mo_leap.2.2.1 78 = .ok (.iadd, 1) := mj_d (q := (78, .iadd, 1)) k_Mo_leap 44 rfl
theorem d_Mo_leap_79 : decode y_Mo_leap.2.2.1 79 = .ok (.iload_n 3, 1) := mj_d (q := (79, .iload_n 3, 1)) k_Mo_leap 45 rfl
theorem d_Mo_leap_80 : decode y_Mo_leap.2.2.1 80 = .ok (.bipush 13, 2) := mj_d (q := (80, .bipush 13, 2)) k_Mo_leap 46 rfl
theorem d_Mo_leap_82 : decode y_Mo_leap.2.2.1 82 = .ok (.irem, 1) := mj_d (q := (82, .irem, 1)) k_Mo_leap 47 rfl
theorem d_Mo_leap_83 : decode y_Mo_leap.2.2.1 83 = .ok (.iadd, 1) := mj_d (q := (83, .iadd, 1)) k_Mo_leap 48 rfl
theorem d_Mo_leap_84 : decode y_Mo_leap.2.2.1 84 = .ok (.ireturn, 1) := mj_d (q := (84, .ireturn, 1)) k_Mo_leap 49 rfl
theorem d_Mo_ways_0 : decode y_Mo_ways.2.2.1 0 = .ok (.aload_n 0, 1) := mj_d (q := (0, .aload_n 0, 1)) k_Mo_ways 0 rfl
theorem d_Mo_ways_1 : decode y_Mo_ways.2.2.1 1 = .ok (.iconst 0, 1) := mj_d (q := (1, .iconst 0, 1)) k_Mo_ways 1 rfl
theorem d_Mo_ways_2 : decode y_Mo_ways.2.2.1 2 = .ok (.putfield 53, 3) := mj_d (q := (2, .putfield 53, 3)) k_Mo_ways 2 rfl
theorem d_Mo_ways_5 : decode y_Mo_ways.2.2.1 5 = .ok (.aload_n 0, 1) := mj_d (q := (5, .aload_n 0, 1)) k_Mo_ways 3 rfl
theorem d_Mo_ways_6 : decode y_Mo_ways.2.2.1 6 = .ok (.iload_n 1, 1) := mj_d (q := (6, .iload_n 1, 1)) k_Mo_ways 4 rfl
theorem d_Mo_ways_7 : decode y_Mo_ways.2.2.1 7 = .ok (.iload_n 2, 1) := mj_d (q := (7, .iload_n 2, 1)) k_Mo_ways 5 rfl
theorem d_Mo_ways_8 : decode y_Mo_ways.2.2.1 8 = .ok (.iload_n 3, 1) := mj_d (q := (8, .iload_n 3, 1)) k_Mo_ways 6 rfl
theorem d_Mo_ways_9 : decode y_Mo_ways.2.2.1 9 = .ok (.invokevirtual 161, 3) := mj_d (q := (9, .invokevirtual 161, 3)) k_Mo_ways 7 rfl
theorem d_Mo_ways_12 : decode y_Mo_ways.2.2.1 12 = .ok (.ifCond .ne 9, 3) := mj_d (q := (12, .ifCond .ne 9, 3)) k_Mo_ways 8 rfl
theorem d_Mo_ways_15 : decode y_Mo_ways.2.2.1 15 = .ok (.aload_n 0, 1) := mj_d (q := (15, .aload_n 0, 1)) k_Mo_ways 9 rfl
theorem d_Mo_ways_16 : decode y_Mo_ways.2.2.1 16 = .ok (.iconst 1, 1) := mj_d (q := (16, .iconst 1, 1)) k_Mo_ways 10 rfl
theorem d_Mo_ways_17 : decode y_Mo_ways.2.2.1 17 = .ok (.invokevirtual 91, 3) := mj_d (q := (17, .invokevirtual 91, 3)) k_Mo_ways 11 rfl
theorem d_Mo_ways_20 : decode y_Mo_ways.2.2.1 20 = .ok (.ireturn, 1) := mj_d (q := (20, .ireturn, 1)) k_Mo_ways 12 rfl
theorem d_Mo_ways_21 : decode y_Mo_ways.2.2.1 21 = .ok (.aload_n 0, 1) := mj_d (q := (21, .aload_n 0, 1)) k_Mo_ways 13 rfl
theorem d_Mo_ways_22 : decode y_Mo_ways.2.2.1 22 = .ok (.invokevirtual 164, 3) := mj_d (q := (22, .invokevirtual 164, 3)) k_Mo_ways 14 rfl
theorem d_Mo_ways_25 : decode y_Mo_ways.2.2.1 25 = .ok (.iconst 0, 1) := mj_d (q := (25, .iconst 0, 1)) k_Mo_ways 15 rfl
theorem d_Mo_ways_26 : decode y_Mo_ways.2.2.1 26 = .ok (.istore 4, 2) := mj_d (q := (26, .istore 4, 2)) k_Mo_ways 16 rfl
theorem d_Mo_ways_28 : decode y_Mo_ways.2.2.1 28 = .ok (.iconst 0, 1) := mj_d (q := (28, .iconst 0, 1)) k_Mo_ways 17 rfl
theorem d_Mo_ways_29 : decode y_Mo_ways.2.2.1 29 = .ok (.istore 5, 2) := mj_d (q := (29, .istore 5, 2)) k_Mo_ways 18 rfl
theorem d_Mo_ways_31 : decode y_Mo_ways.2.2.1 31 = .ok (.iload 5, 2) := mj_d (q := (31, .iload 5, 2)) k_Mo_ways 19 rfl
theorem d_Mo_ways_33 : decode y_Mo_ways.2.2.1 33 = .ok (.aload_n 0, 1) := mj_d (q := (33, .aload_n 0, 1)) k_Mo_ways 20 rfl
theorem d_Mo_ways_34 : decode y_Mo_ways.2.2.1 34 = .ok (.getfield 73, 3) := mj_d (q := (34, .getfield 73, 3)) k_Mo_ways 21 rfl
theorem d_Mo_ways_37 : decode y_Mo_ways.2.2.1 37 = .ok (.if_icmp .ge 37, 3) := mj_d (q := (37, .if_icmp .ge 37, 3)) k_Mo_ways 22 rfl
theorem d_Mo_ways_40 : decode y_Mo_ways.2.2.1 40 = .ok (.iload 4, 2) := mj_d (q := (40, .iload 4, 2)) k_Mo_ways 23 rfl
theorem d_Mo_ways_42 : decode y_Mo_ways.2.2.1 42 = .ok (.aload_n 0, 1) := mj_d (q := (42, .aload_n 0, 1)) k_Mo_ways 24 rfl
theorem d_Mo_ways_43 : decode y_Mo_ways.2.2.1 43 = .ok (.getfield 7, 3) := mj_d (q := (43, .getfield 7, 3)) k_Mo_ways 25 rfl
theorem d_Mo_ways_46 : decode y_Mo_ways.2.2.1 46 = .ok (.iload 5, 2) := mj_d (q := (46, .iload 5, 2)) k_Mo_ways 26 rfl
theorem d_Mo_ways_48 : decode y_Mo_ways.2.2.1 48 = .ok (.iaload, 1) := mj_d (q := (48, .iaload, 1)) k_Mo_ways 27 rfl
theorem d_Mo_ways_49 : decode y_Mo_ways.2.2.1 49 = .ok (.iload_n 1, 1) := mj_d (q := (49, .iload_n 1, 1)) k_Mo_ways 28 rfl
theorem d_Mo_ways_50 : decode y_Mo_ways.2.2.1 50 = .ok (.if_icmp .ne 14, 3) := mj_d (q := (50, .if_icmp .ne 14, 3)) k_Mo_ways 29 rfl
theorem d_Mo_ways_53 : decode y_Mo_ways.2.2.1 53 = .ok (.aload_n 0, 1) := mj_d (q := (53, .aload_n 0, 1)) k_Mo_ways 30 rfl
theorem d_Mo_ways_54 : decode y_Mo_ways.2.2.1 54 = .ok (.iload 5, 2) := mj_d (q := (54, .iload 5, 2)) k_Mo_ways 31 rfl
theorem d_Mo_ways_56 : decode y_Mo_ways.2.2.1 56 = .ok (.iload_n 2, 1) := mj_d (q := (56, .iload_n 2, 1)) k_Mo_ways 32 rfl
theorem d_Mo_ways_57 : decode y_Mo_ways.2.2.1 57 = .ok (.iload_n 3, 1) := mj_d (q := (57, .iload_n 3, 1)) k_Mo_ways 33 rfl
theorem d_Mo_ways_58 : decode y_Mo_ways.2.2.1 58 = .ok (.invokevirtual 140, 3) := mj_d (q := (58, .invokevirtual 140, 3)) k_Mo_ways 34 rfl
theorem d_Mo_ways_61 : decode y_Mo_ways.2.2.1 61 = .ok (.goto 4, 3) := mj_d (q := (61, .goto 4, 3)) k_Mo_ways 35 rfl
theorem d_Mo_ways_64 : decode y_Mo_ways.2.2.1 64 = .ok (.iconst 0, 1) := mj_d (q := (64, .iconst 0, 1)) k_Mo_ways 36 rfl
theorem d_Mo_ways_65 : decode y_Mo_ways.2.2.1 65 = .ok (.iadd, 1) := mj_d (q := (65, .iadd, 1)) k_Mo_ways 37 rfl
theorem d_Mo_ways_66 : decode y_Mo_ways.2.2.1 66 = .ok (.istore 4, 2) := mj_d (q := (66, .istore 4, 2)) k_Mo_ways 38 rfl
theorem d_Mo_ways_68 : decode y_Mo_ways.2.2.1 68 = .ok (.iinc 5 1, 3) := mj_d (q := (68, .iinc 5 1, 3)) k_Mo_ways 39 rfl
theorem d_Mo_ways_71 : decode y_Mo_ways.2.2.1 71 = .ok (.goto (-40), 3) := mj_d (q := (71, .goto (-40), 3)) k_Mo_ways 40 rfl
theorem d_Mo_ways_74 : decode y_Mo_ways.2.2.1 74 = .ok (.iload 4, 2) := mj_d (q := (74, .iload 4, 2)) k_Mo_ways 41 rfl
theorem d_Mo_ways_76 : decode y_Mo_ways.2.2.1 76 = .ok (.ireturn, 1) := mj_d (q := (76, .ireturn, 1)) k_Mo_ways 42 rfl
theorem d_Mo_isStretch_0 : decode y_Mo_isStretch.2.2.1 0 = .ok (.iload_n 1, 1) := mj_d (q := (0, .iload_n 1, 1)) k_Mo_isStretch 0 rfl
theorem d_Mo_isStretch_1 : decode y_Mo_isStretch.2.2.1 1 = .ok (.invokestatic 69, 3) := mj_d (q := (1, .invokestatic 69, 3)) k_Mo_isStretch 1 rfl
theorem d_Mo_isStretch_4 : decode y_Mo_isStretch.2.2.1 4 = .ok (.ifCond .eq 24, 3) := mj_d (q := (4, .ifCond .eq 24, 3)) k_Mo_isStretch 2 rfl
theorem d_Mo_isStretch_7 : decode y_Mo_isStretch.2.2.1 7 = .ok (.iload_n 2, 1) := mj_d (q := (7, .iload_n 2, 1)) k_Mo_isStretch 3 rfl
theorem d_Mo_isStretch_8 : decode y_Mo_isStretch.2.2.1 8 = .ok (.ifCond .lt 20, 3) := mj_d (q := (8, .ifCond .lt 20, 3)) k_Mo_isStretch 4 rfl
theorem d_Mo_isStretch_11 : decode y_Mo_isStretch.2.2.1 11 = .ok (.iload_n 2, 1) := mj_d (q := (11, .iload_n 2, 1)) k_Mo_isStretch 5 rfl
theorem d_Mo_isStretch_12 : decode y_Mo_isStretch.2.2.1 12 = .ok (.iload_n 3, 1) := mj_d (q := (12, .iload_n 3, 1)) k_Mo_isStretch 6 rfl
theorem d_Mo_isStretch_13 : decode y_Mo_isStretch.2.2.1 13 = .ok (.if_icmp .gt 15, 3) := mj_d (q := (13, .if_icmp .gt 15, 3)) k_Mo_isStretch 7 rfl
theorem d_Mo_isStretch_16 : decode y_Mo_isStretch.2.2.1 16 = .ok (.iload_n 3, 1) := mj_d (q := (16, .iload_n 3, 1)) k_Mo_isStretch 8 rfl
theorem d_Mo_isStretch_17 : decode y_Mo_isStretch.2.2.1 17 = .ok (.aload_n 0, 1) := mj_d (q := (17, .aload_n 0, 1)) k_Mo_isStretch 9 rfl
theorem d_Mo_isStretch_18 : decode y_Mo_isStretch.2.2.1 18 = .ok (.getfield 97, 3) := mj_d (q := (18, .getfield 97, 3)) k_Mo_isStretch 10 rfl
theorem d_Mo_isStretch_21 : decode y_Mo_isStretch.2.2.1 21 = .ok (.if_icmp .gt 7, 3) := mj_d (q := (21, .if_icmp .gt 7, 3)) k_Mo_isStretch 11 rfl
theorem d_Mo_isStretch_24 : decode y_Mo_isStretch.2.2.1 24 = .ok (.iconst 1, 1) := mj_d (q := (24, .iconst 1, 1)) k_Mo_isStretch 12 rfl
theorem d_Mo_isStretch_25 : decode y_Mo_isStretch.2.2.1 25 = .ok (.goto 4, 3) := mj_d (q := (25, .goto 4, 3)) k_Mo_isStretch 13 rfl
theorem d_Mo_isStretch_28 : decode y_Mo_isStretch.2.2.1 28 = .ok (.iconst 0, 1) := mj_d (q := (28, .iconst 0, 1)) k_Mo_isStretch 14 rfl
theorem d_Mo_isStretch_29 : decode y_Mo_isStretch.2.2.1 29 = .ok (.ireturn, 1) := mj_d (q := (29, .ireturn, 1)) k_Mo_isStretch 15 rfl
theorem d_Mo_work_0 : decode y_Mo_work.2.2.1 0 = .ok (.aload_n 0, 1) := mj_d (q := (0, .aload_n 0, 1)) k_Mo_work 0 rfl
theorem d_Mo_work_1 : decode y_Mo_work.2.2.1 1 = .ok (.getfield 85, 3) := mj_d (q := (1, .getfield 85, 3)) k_Mo_work 1 rfl
theorem d_Mo_work_4 : decode y_Mo_work.2.2.1 4 = .ok (.ifCond .eq 4, 3) := mj_d (q := (4, .ifCond .eq 4, 3)) k_Mo_work 2 rfl
theorem d_Mo_work_7 : decode y_Mo_work.2.2.1 7 = .ok (.return_, 1) := mj_d (q := (7, .return_, 1)) k_Mo_work 3 rfl
theorem d_Mo_work_8 : decode y_Mo_work.2.2.1 8 = .ok (.aload_n 0, 1) := mj_d (q := (8, .aload_n 0, 1)) k_Mo_work 4 rfl
theorem d_Mo_work_9 : decode y_Mo_work.2.2.1 9 = .ok (.iconst 1, 1) := mj_d (q := (9, .iconst 1, 1)) k_Mo_work 5 rfl
theorem d_Mo_work_10 : decode y_Mo_work.2.2.1 10 = .ok (.putfield 85, 3) := mj_d (q := (10, .putfield 85, 3)) k_Mo_work 6 rfl
theorem d_Mo_work_13 : decode y_Mo_work.2.2.1 13 = .ok (.aload_n 0, 1) := mj_d (q := (13, .aload_n 0, 1)) k_Mo_work 7 rfl
theorem d_Mo_work_14 : decode y_Mo_work.2.2.1 14 = .ok (.invokevirtual 155, 3) := mj_d (q := (14, .invokevirtual 155, 3)) k_Mo_work 8 rfl
theorem d_Mo_work_17 : decode y_Mo_work.2.2.1 17 = .ok (.iconst 0, 1) := mj_d (q := (17, .iconst 0, 1)) k_Mo_work 9 rfl
theorem d_Mo_work_18 : decode y_Mo_work.2.2.1 18 = .ok (.istore_n 1, 1) := mj_d (q := (18, .istore_n 1, 1)) k_Mo_work 10 rfl
theorem d_Mo_work_19 : decode y_Mo_work.2.2.1 19 = .ok (.iload_n 1, 1) := mj_d (q := (19, .iload_n 1, 1)) k_Mo_work 11 rfl
theorem d_Mo_work_20 : decode y_Mo_work.2.2.1 20 = .ok (.sipush 845, 3) := mj_d (q := (20, .sipush 845, 3)) k_Mo_work 12 rfl
theorem d_Mo_work_23 : decode y_Mo_work.2.2.1 23 = .ok (.if_icmp .ge 16, 3) := mj_d (q := (23, .if_icmp .ge 16, 3)) k_Mo_work 13 rfl
theorem d_Mo_work_26 : decode y_Mo_work.2.2.1 26 = .ok (.aload_n 0, 1) := mj_d (q := (26, .aload_n 0, 1)) k_Mo_work 14 rfl
theorem d_Mo_work_27 : decode y_Mo_work.2.2.1 27 = .ok (.getfield 29, 3) := mj_d (q := (27, .getfield 29, 3)) k_Mo_work 15 rfl
theorem d_Mo_work_30 : decode y_Mo_work.2.2.1 30 = .ok (.iload_n 1, 1) := mj_d (q := (30, .iload_n 1, 1)) k_Mo_work 16 rfl
theorem d_Mo_work_31 : decode y_Mo_work.2.2.1 31 = .ok (.iconst 0, 1) := mj_d (q := (31, .iconst 0, 1)) k_Mo_work 17 rfl
theorem d_Mo_work_32 : decode y_Mo_work.2.2.1 32 = .ok (.bastore, 1) := mj_d (q := (32, .bastore, 1)) k_Mo_work 18 rfl
theorem d_Mo_work_33 : decode y_Mo_work.2.2.1 33 = .ok (.iinc 1 1, 3) := mj_d (q := (33, .iinc 1 1, 3)) k_Mo_work 19 rfl
theorem d_Mo_work_36 : decode y_Mo_work.2.2.1 36 = .ok (.goto (-17), 3) := mj_d (q := (36, .goto (-17), 3)) k_Mo_work 20 rfl
theorem d_Mo_work_39 : decode y_Mo_work.2.2.1 39 = .ok (.iconst 1, 1) := mj_d (q := (39, .iconst 1, 1)) k_Mo_work 21 rfl
theorem d_Mo_work_40 : decode y_Mo_work.2.2.1 40 = .ok (.istore_n 1, 1) := mj_d (q := (40, .istore_n 1, 1)) k_Mo_work 22 rfl
theorem d_Mo_work_41 : decode y_Mo_work.2.2.1 41 = .ok (.iload_n 1, 1) := mj_d (q := (41, .iload_n 1, 1)) k_Mo_work 23 rfl
theorem d_Mo_work_42 : decode y_Mo_work.2.2.1 42 = .ok (.ifCond .eq 116, 3) := mj_d (q := (42, .ifCond .eq 116, 3)) k_Mo_work 24 rfl
theorem d_Mo_work_45 : decode y_Mo_work.2.2.1 45 = .ok (.iconst 0, 1) := mj_d (q := (45, .iconst 0, 1)) k_Mo_work 25 rfl
theorem d_Mo_work_46 : decode y_Mo_work.2.2.1 46 = .ok (.istore_n 1, 1) := mj_d (q := (46, .istore_n 1, 1)) k_Mo_work 26 rfl
theorem d_Mo_work_47 : decode y_Mo_work.2.2.1 47 = .ok (.iconst 0, 1) := mj_d (q := (47, .iconst 0, 1)) k_Mo_work 27 rfl
theorem d_Mo_work_48 : decode y_Mo_work.2.2.1 48 = .ok (.istore_n 2, 1) := mj_d (q := (48, .istore_n 2, 1)) k_Mo_work 28 rfl
theorem d_Mo_work_49 : decode y_Mo_work.2.2.1 49 = .ok (.iload_n 2, 1) := mj_d (q := (49, .iload_n 2, 1)) k_Mo_work 29 rfl
theorem d_Mo_work_50 : decode y_Mo_work.2.2.1 50 = .ok (.iconst 5, 1) := mj_d (q := (50, .iconst 5, 1)) k_Mo_work 30 rfl
theorem d_Mo_work_51 : decode y_Mo_work.2.2.1 51 = .ok (.if_icmp .ge 104, 3) := mj_d (q := (51, .if_icmp .ge 104, 3)) k_Mo_work 31 rfl
theorem d_Mo_work_54 : decode y_Mo_work.2.2.1 54 = .ok (.iconst 0, 1) := mj_d (q := (54, .iconst 0, 1)) k_Mo_work 32 rfl
theorem d_Mo_work_55 : decode y_Mo_work.2.2.1 55 = .ok (.istore_n 3, 1) := mj_d (q := (55, .istore_n 3, 1)) k_Mo_work 33 rfl
theorem d_Mo_work_56 : decode y_Mo_work.2.2.1 56 = .ok (.iload_n 3, 1) := mj_d (q := (56, .iload_n 3, 1)) k_Mo_work 34 rfl
theorem d_Mo_work_57 : decode y_Mo_work.2.2.1 57 = .ok (.aload_n 0, 1) := mj_d (q := (57, .aload_n 0, 1)) k_Mo_work 35 rfl
theorem d_Mo_work_58 : decode y_Mo_work.2.2.1 58 = .ok (.getfield 97, 3) := mj_d (q := (58, .getfield 97, 3)) k_Mo_work 36 rfl
theorem d_Mo_work_61 : decode y_Mo_work.2.2.1 61 = .ok (.if_icmp .gt 88, 3) := mj_d (q := (61, .if_icmp .gt 88, 3)) k_Mo_work 37 rfl
theorem d_Mo_work_64 : decode y_Mo_work.2.2.1 64 = .ok (.iload_n 3, 1) := mj_d (q := (64, .iload_n 3, 1)) k_Mo_work 38 rfl
theorem d_Mo_work_65 : decode y_Mo_work.2.2.1 65 = .ok (.istore 4, 2) := mj_d (q := (65, .istore 4, 2)) k_Mo_work 39 rfl
theorem d_Mo_work_67 : decode y_Mo_work.2.2.1 67 = .ok (.iload 4, 2) := mj_d (q := (67, .iload 4, 2)) k_Mo_work 40 rfl
theorem d_Mo_work_69 : decode y_Mo_work.2.2.1 69 = .ok (.aload_n 0, 1) := mj_d (q := (69, .aload_n 0, 1)) k_Mo_work 41 rfl
theorem d_Mo_work_70 : decode y_Mo_work.2.2.1 70 = .ok (.getfield 97, 3) := mj_d (q := (70, .getfield 97, 3)) k_Mo_work 42 rfl
theorem d_Mo_work_73 : decode y_Mo_work.2.2.1 73 = .ok (.if_icmp .gt 70, 3) := mj_d (q := (73, .if_icmp .gt 70, 3)) k_Mo_work 43 rfl
theorem d_Mo_work_76 : decode y_Mo_work.2.2.1 76 = .ok (.iload_n 2, 1) := mj_d (q := (76, .iload_n 2, 1)) k_Mo_work 44 rfl
theorem d_Mo_work_77 : decode y_Mo_work.2.2.1 77 = .ok (.iload_n 3, 1) := mj_d (q := (77, .iload_n 3, 1)) k_Mo_work 45 rfl
theorem d_Mo_work_78 : decode y_Mo_work.2.2.1 78 = .ok (.iload 4, 2) := mj_d (q := (78, .iload 4, 2)) k_Mo_work 46 rfl
theorem d_Mo_work_80 : decode y_Mo_work.2.2.1 80 = .ok (.invokestatic 113, 3) := mj_d (q := (80, .invokestatic 113, 3)) k_Mo_work 47 rfl
theorem d_Mo_work_83 : decode y_Mo_work.2.2.1 83 = .ok (.istore 5, 2) := mj_d (q := (83, .istore 5, 2)) k_Mo_work 48 rfl
theorem d_Mo_work_85 : decode y_Mo_work.2.2.1 85 = .ok (.aload_n 0, 1) := mj_d (q := (85, .aload_n 0, 1)) k_Mo_work 49 rfl
theorem d_Mo_work_86 : decode y_Mo_work.2.2.1 86 = .ok (.getfield 29, 3) := mj_d (q := (86, .getfield 29, 3)) k_Mo_work 50 rfl
theorem d_Mo_work_89 : decode y_Mo_work.2.2.1 89 = .ok (.iload 5, 2) := mj_d (q := (89, .iload 5, 2)) k_Mo_work 51 rfl
theorem d_Mo_work_91 : decode y_Mo_work.2.2.1 91 = .ok (.baload, 1) := mj_d (q := (91, .baload, 1)) k_Mo_work 52 rfl
theorem d_Mo_work_92 : decode y_Mo_work.2.2.1 92 = .ok (.ifCond .eq 9, 3) := mj_d (q := (92, .ifCond .eq 9, 3)) k_Mo_work 53 rfl
theorem d_Mo_work_95 : decode y_Mo_work.2.2.1 95 = .ok (.ldc2_w 145, 3) := mj_d (q := (95, .ldc2_w 145, 3)) k_Mo_work 54 rfl
theorem d_Mo_work_98 : decode y_Mo_work.2.2.1 98 = .ok (.goto 11, 3) := mj_d (q := (98, .goto 11, 3)) k_Mo_work 55 rfl
theorem d_Mo_work_101 : decode y_Mo_work.2.2.1 101 = .ok (.aload_n 0, 1) := mj_d (q := (101, .aload_n 0, 1)) k_Mo_work 56 rfl
theorem d_Mo_work_102 : decode y_Mo_work.2.2.1 102 = .ok (.iload_n 2, 1) := mj_d (q := (102, .iload_n 2, 1)) k_Mo_work 57 rfl
theorem d_Mo_work_103 : decode y_Mo_work.2.2.1 103 = .ok (.iload_n 3, 1) := mj_d (q := (103, .iload_n 3, 1)) k_Mo_work 58 rfl
theorem d_Mo_work_104 : decode y_Mo_work.2.2.1 104 = .ok (.iload 4, 2) := mj_d (q := (104, .iload 4, 2)) k_Mo_work 59 rfl
theorem d_Mo_work_106 : decode y_Mo_work.2.2.1 106 = .ok (.invokevirtual 158, 3) := mj_d (q := (106, .invokevirtual 158, 3)) k_Mo_work 60 rfl
theorem d_Mo_work_109 : decode y_Mo_work.2.2.1 109 = .ok (.lstore 6, 2) := mj_d (q := (109, .lstore 6, 2)) k_Mo_work 61 rfl
theorem d_Mo_work_111 : decode y_Mo_work.2.2.1 111 = .ok (.lload 6, 2) := mj_d (q := (111, .lload 6, 2)) k_Mo_work 62 rfl
theorem d_Mo_work_113 : decode y_Mo_work.2.2.1 113 = .ok (.lconst 0, 1) := mj_d (q := (113, .lconst 0, 1)) k_Mo_work 63 rfl
theorem d_Mo_work_114 : decode y_Mo_work.2.2.1 114 = .ok (.lcmp, 1) := mj_d (q := (114, .lcmp, 1)) k_Mo_work 64 rfl
theorem d_Mo_work_115 : decode y_Mo_work.2.2.1 115 = .ok (.ifCond .lt 22, 3) := mj_d (q := (115, .ifCond .lt 22, 3)) k_Mo_work 65 rfl
theorem d_Mo_work_118 : decode y_Mo_work.2.2.1 118 = .ok (.aload_n 0, 1) := mj_d (q := (118, .aload_n 0, 1)) k_Mo_work 66 rfl
theorem d_Mo_work_119 : decode y_Mo_work.2.2.1 119 = .ok (.getfield 29, 3) := mj_d (q := (119, .getfield 29, 3)) k_Mo_work 67 rfl
theorem d_Mo_work_122 : decode y_Mo_work.2.2.1 122 = .ok (.iload 5, 2) := mj_d (q := (122, .iload 5, 2)) k_Mo_work 68 rfl
theorem d_Mo_work_124 : decode y_Mo_work.2.2.1 124 = .ok (.iconst 1, 1) := mj_d (q := (124, .iconst 1, 1)) k_Mo_work 69 rfl
theorem d_Mo_work_125 : decode y_Mo_work.2.2.1 125 = .ok (.bastore, 1) := mj_d (q := (125, .bastore, 1)) k_Mo_work 70 rfl
theorem d_Mo_work_126 : decode y_Mo_work.2.2.1 126 = .ok (.aload_n 0, 1) := mj_d (q := (126, .aload_n 0, 1)) k_Mo_work 71 rfl
theorem d_Mo_work_127 : decode y_Mo_work.2.2.1 127 = .ok (.getfield 32, 3) := mj_d (q := (127, .getfield 32, 3)) k_Mo_work 72 rfl
theorem d_Mo_work_130 : decode y_Mo_work.2.2.1 130 = .ok (.iload 5, 2) := mj_d (q := (130, .iload 5, 2)) k_Mo_work 73 rfl
theorem d_Mo_work_132 : decode y_Mo_work.2.2.1 132 = .ok (.lload 6, 2) := mj_d (q := (132, .lload 6, 2)) k_Mo_work 74 rfl
theorem d_Mo_work_134 : decode y_Mo_work.2.2.1 134 = .ok (.lastore, 1) := mj_d (q := (134, .lastore, 1)) k_Mo_work 75 rfl
theorem d_Mo_work_135 : decode y_Mo_work.2.2.1 135 = .ok (.iconst 1, 1) := mj_d (q := (135, .iconst 1, 1)) k_Mo_work 76 rfl
theorem d_Mo_work_136 : decode y_Mo_work.2.2.1 136 = .ok (.istore_n 1, 1) := mj_d (q := (136, .istore_n 1, 1)) k_Mo_work 77 rfl
theorem d_Mo_work_137 : decode y_Mo_work.2.2.1 137 = .ok (.iinc 4 1, 3) := mj_d (q := (137, .iinc 4 1, 3)) k_Mo_work 78 rfl
theorem d_Mo_work_140 : decode y_Mo_work.2.2.1 140 = .ok (.goto (-73), 3) := mj_d (q := (140, .goto (-73), 3)) k_Mo_work 79 rfl
theorem d_Mo_work_143 : decode y_Mo_work.2.2.1 143 = .ok (.iinc 3 1, 3) := mj_d (q := (143, .iinc 3 1, 3)) k_Mo_work 80 rfl
theorem d_Mo_work_146 : decode y_Mo_work.2.2.1 146 = .ok (.goto (-90), 3) := mj_d (q := (146, .goto (-90), 3)) k_Mo_work 81 rfl
theorem d_Mo_work_149 : decode y_Mo_work.2.2.1 149 = .ok (.iinc 2 1, 3) := mj_d (q := (149, .iinc 2 1, 3)) k_Mo_work 82 rfl
theorem d_Mo_work_152 : decode y_Mo_work.2.2.1 152 = .ok (.goto (-103), 3) := mj_d (q := (152, .goto (-103), 3)) k_Mo_work 83 rfl
theorem d_Mo_work_155 : decode y_Mo_work.2.2.1 155 = .ok (.goto (-114), 3) := mj_d (q := (155, .goto (-114), 3)) k_Mo_work 84 rfl
theorem d_Mo_work_158 : decode y_Mo_work.2.2.1 158 = .ok (.return_, 1) := mj_d (q := (158, .return_, 1)) k_Mo_work 85 rfl
theorem d_Mo_findDerived_0 : decode y_Mo_findDerived.2.2.1 0 = .ok (.iconst 0, 1) := mj_d (q := (0, .iconst 0, 1)) k_Mo_findDerived 0 rfl
theorem d_Mo_findDerived_1 : decode y_Mo_findDerived.2.2.1 1 = .ok (.istore_n 1, 1) := mj_d (q := (1, .istore_n 1, 1)) k_Mo_findDerived 1 rfl
theorem d_Mo_findDerived_2 : decode y_Mo_findDerived.2.2.1 2 = .ok (.iload_n 1, 1) := mj_d (q := (2, .iload_n 1, 1)) k_Mo_findDerived 2 rfl
theorem d_Mo_findDerived_3 : decode y_Mo_findDerived.2.2.1 3 = .ok (.sipush 845, 3) := mj_d (q := (3, .sipush 845, 3)) k_Mo_findDerived 3 rfl
theorem d_Mo_findDerived_6 : decode y_Mo_findDerived.2.2.1 6 = .ok (.if_icmp .ge 16, 3) := mj_d (q := (6, .if_icmp .ge 16, 3)) k_Mo_findDerived 4 rfl
theorem d_Mo_findDerived_9 : decode y_Mo_findDerived.2.2.1 9 = .ok (.aload_n 0, 1) := mj_d (q := (9, .aload_n 0, 1)) k_Mo_findDerived 5 rfl
theorem d_Mo_findDerived_10 : decode y_Mo_findDerived.2.2.1 10 = .ok (.getfield 26, 3) := mj_d (q := (10, .getfield 26, 3)) k_Mo_findDerived 6 rfl
theorem d_Mo_findDerived_13 : decode y_Mo_findDerived.2.2.1 13 = .ok (.iload_n 1, 1) := mj_d (q := (13, .iload_n 1, 1)) k_Mo_findDerived 7 rfl
theorem d_Mo_findDerived_14 : decode y_Mo_findDerived.2.2.1 14 = .ok (.iconst 0, 1) := mj_d (q := (14, .iconst 0, 1)) k_Mo_findDerived 8 rfl
theorem d_Mo_findDerived_15 : decode y_Mo_findDerived.2.2.1 15 = .ok (.bastore, 1) := mj_d (q := (15, .bastore, 1)) k_Mo_findDerived 9 rfl
theorem d_Mo_findDerived_16 : decode y_Mo_findDerived.2.2.1 16 = .ok (.iinc 1 1, 3) := mj_d (q := (16, .iinc 1 1, 3)) k_Mo_findDerived 10 rfl
theorem d_Mo_findDerived_19 : decode y_Mo_findDerived.2.2.1 19 = .ok (.goto (-17), 3) := mj_d (q := (19, .goto (-17), 3)) k_Mo_findDerived 11 rfl
theorem d_Mo_findDerived_22 : decode y_Mo_findDerived.2.2.1 22 = .ok (.iconst 1, 1) := mj_d (q := (22, .iconst 1, 1)) k_Mo_findDerived 12 rfl
theorem d_Mo_findDerived_23 : decode y_Mo_findDerived.2.2.1 23 = .ok (.istore_n 1, 1) := mj_d (q := (23, .istore_n 1, 1)) k_Mo_findDerived 13 rfl
theorem d_Mo_findDerived_24 : decode y_Mo_findDerived.2.2.1 24 = .ok (.iload_n 1, 1) := mj_d (q := (24, .iload_n 1, 1)) k_Mo_findDerived 14 rfl
theorem d_Mo_findDerived_25 : decode y_Mo_findDerived.2.2.1 25 = .ok (.ifCond .eq 103, 3) := mj_d (q := (25, .ifCond .eq 103, 3)) k_Mo_findDerived 15 rfl
theorem d_Mo_findDerived_28 : decode y_Mo_findDerived.2.2.1 28 = .ok (.iconst 0, 1) := mj_d (q := (28, .iconst 0, 1)) k_Mo_findDerived 16 rfl
theorem d_Mo_findDerived_29 : decode y_Mo_findDerived.2.2.1 29 = .ok (.istore_n 1, 1) := mj_d (q := (29, .istore_n 1, 1)) k_Mo_findDerived 17 rfl
theorem d_Mo_findDerived_30 : decode y_Mo_findDerived.2.2.1 30 = .ok (.iconst 0, 1) := mj_d (q := (30, .iconst 0, 1)) k_Mo_findDerived 18 rfl
theorem d_Mo_findDerived_31 : decode y_Mo_findDerived.2.2.1 31 = .ok (.istore_n 2, 1) := mj_d (q := (31, .istore_n 2, 1)) k_Mo_findDerived 19 rfl
theorem d_Mo_findDerived_32 : decode y_Mo_findDerived.2.2.1 32 = .ok (.iload_n 2, 1) := mj_d (q := (32, .iload_n 2, 1)) k_Mo_findDerived 20 rfl
theorem d_Mo_findDerived_33 : decode y_Mo_findDerived.2.2.1 33 = .ok (.aload_n 0, 1) := mj_d (q := (33, .aload_n 0, 1)) k_Mo_findDerived 21 rfl
theorem d_Mo_findDerived_34 : decode y_Mo_findDerived.2.2.1 34 = .ok (.getfield 73, 3) := mj_d (q := (34, .getfield 73, 3)) k_Mo_findDerived 22 rfl
theorem d_Mo_findDerived_37 : decode y_Mo_findDerived.2.2.1 37 = .ok (.if_icmp .ge 88, 3) := mj_d (q := (37, .if_icmp .ge 88, 3)) k_Mo_findDerived 23 rfl
theorem d_Mo_findDerived_40 : decode y_Mo_findDerived.2.2.1 40 = .ok (.iconst 0, 1) := mj_d (q := (40, .iconst 0, 1)) k_Mo_findDerived 24 rfl
theorem d_Mo_findDerived_41 : decode y_Mo_findDerived.2.2.1 41 = .ok (.istore_n 3, 1) := mj_d (q := (41, .istore_n 3, 1)) k_Mo_findDerived 25 rfl
theorem d_Mo_findDerived_42 : decode y_Mo_findDerived.2.2.1 42 = .ok (.iload_n 3, 1) := mj_d (q := (42, .iload_n 3, 1)) k_Mo_findDerived 26 rfl
theorem d_Mo_findDerived_43 : decode y_Mo_findDerived.2.2.1 43 = .ok (.aload_n 0, 1) := mj_d (q := (43, .aload_n 0, 1)) k_Mo_findDerived 27 rfl
theorem d_Mo_findDerived_44 : decode y_Mo_findDerived.2.2.1 44 = .ok (.getfield 97, 3) := mj_d (q := (44, .getfield 97, 3)) k_Mo_findDerived 28 rfl
theorem d_Mo_findDerived_47 : decode y_Mo_findDerived.2.2.1 47 = .ok (.if_icmp .gt 72, 3) := mj_d (q := (47, .if_icmp .gt 72, 3)) k_Mo_findDerived 29 rfl
theorem d_Mo_findDerived_50 : decode y_Mo_findDerived.2.2.1 50 = .ok (.iload_n 3, 1) := mj_d (q := (50, .iload_n 3, 1)) k_Mo_findDerived 30 rfl
theorem d_Mo_findDerived_51 : decode y_Mo_findDerived.2.2.1 51 = .ok (.istore 4, 2) := mj_d (q := (51, .istore 4, 2)) k_Mo_findDerived 31 rfl
theorem d_Mo_findDerived_53 : decode y_Mo_findDerived.2.2.1 53 = .ok (.iload 4, 2) := mj_d (q := (53, .iload 4, 2)) k_Mo_findDerived 32 rfl
theorem d_Mo_findDerived_55 : decode y_Mo_findDerived.2.2.1 55 = .ok (.aload_n 0, 1) := mj_d (q := (55, .aload_n 0, 1)) k_Mo_findDerived 33 rfl
theorem d_Mo_findDerived_56 : decode y_Mo_findDerived.2.2.1 56 = .ok (.getfield 97, 3) := mj_d (q := (56, .getfield 97, 3)) k_Mo_findDerived 34 rfl
theorem d_Mo_findDerived_59 : decode y_Mo_findDerived.2.2.1 59 = .ok (.if_icmp .gt 54, 3) := mj_d (q := (59, .if_icmp .gt 54, 3)) k_Mo_findDerived 35 rfl
theorem d_Mo_findDerived_62 : decode y_Mo_findDerived.2.2.1 62 = .ok (.aload_n 0, 1) := mj_d (q := (62, .aload_n 0, 1)) k_Mo_findDerived 36 rfl
theorem d_Mo_findDerived_63 : decode y_Mo_findDerived.2.2.1 63 = .ok (.getfield 7, 3) := mj_d (q := (63, .getfield 7, 3)) k_Mo_findDerived 37 rfl
theorem d_Mo_findDerived_66 : decode y_Mo_findDerived.2.2.1 66 = .ok (.iload_n 2, 1) := mj_d (q := (66, .iload_n 2, 1)) k_Mo_findDerived 38 rfl
theorem d_Mo_findDerived_67 : decode y_Mo_findDerived.2.2.1 67 = .ok (.iaload, 1) := mj_d (q := (67, .iaload, 1)) k_Mo_findDerived 39 rfl
theorem d_Mo_findDerived_68 : decode y_Mo_findDerived.2.2.1 68 = .ok (.iload_n 3, 1) := mj_d (q := (68, .iload_n 3, 1)) k_Mo_findDerived 40 rfl
theorem d_Mo_findDerived_69 : decode y_Mo_findDerived.2.2.1 69 = .ok (.iload 4, 2) := mj_d (q := (69, .iload 4, 2)) k_Mo_findDerived 41 rfl
theorem d_Mo_findDerived_71 : decode y_Mo_findDerived.2.2.1 71 = .ok (.invokestatic 113, 3) := mj_d (q := (71, .invokestatic 113, 3)) k_Mo_findDerived 42 rfl
theorem d_Mo_findDerived_74 : decode y_Mo_findDerived.2.2.1 74 = .ok (.istore 5, 2) := mj_d (q := (74, .istore 5, 2)) k_Mo_findDerived 43 rfl
theorem d_Mo_findDerived_76 : decode y_Mo_findDerived.2.2.1 76 = .ok (.aload_n 0, 1) := mj_d (q := (76, .aload_n 0, 1)) k_Mo_findDerived 44 rfl
theorem d_Mo_findDerived_77 : decode y_Mo_findDerived.2.2.1 77 = .ok (.getfield 26, 3) := mj_d (q := (77, .getfield 26, 3)) k_Mo_findDerived 45 rfl
theorem d_Mo_findDerived_80 : decode y_Mo_findDerived.2.2.1 80 = .ok (.iload 5, 2) := mj_d (q := (80, .iload 5, 2)) k_Mo_findDerived 46 rfl
theorem d_Mo_findDerived_82 : decode y_Mo_findDerived.2.2.1 82 = .ok (.baload, 1) := mj_d (q := (82, .baload, 1)) k_Mo_findDerived 47 rfl
theorem d_Mo_findDerived_83 : decode y_Mo_findDerived.2.2.1 83 = .ok (.ifCond .ne 24, 3) := mj_d (q := (83, .ifCond .ne 24, 3)) k_Mo_findDerived 48 rfl
theorem d_Mo_findDerived_86 : decode y_Mo_findDerived.2.2.1 86 = .ok (.aload_n 0, 1) := mj_d (q := (86, .aload_n 0, 1)) k_Mo_findDerived 49 rfl
theorem d_Mo_findDerived_87 : decode y_Mo_findDerived.2.2.1 87 = .ok (.iload_n 2, 1) := mj_d (q := (87, .iload_n 2, 1)) k_Mo_findDerived 50 rfl
theorem d_Mo_findDerived_88 : decode y_Mo_findDerived.2.2.1 88 = .ok (.iload_n 3, 1) := mj_d (q := (88, .iload_n 3, 1)) k_Mo_findDerived 51 rfl
theorem d_Mo_findDerived_89 : decode y_Mo_findDerived.2.2.1 89 = .ok (.iload 4, 2) := mj_d (q := (89, .iload 4, 2)) k_Mo_findDerived 52 rfl
theorem d_Mo_findDerived_91 : decode y_Mo_findDerived.2.2.1 91 = .ok (.invokevirtual 140, 3) := mj_d (q := (91, .invokevirtual 140, 3)) k_Mo_findDerived 53 rfl
theorem d_Mo_findDerived_94 : decode y_Mo_findDerived.2.2.1 94 = .ok (.ifCond .le 13, 3) := mj_d (q := (94, .ifCond .le 13, 3)) k_Mo_findDerived 54 rfl
theorem d_Mo_findDerived_97 : decode y_Mo_findDerived.2.2.1 97 = .ok (.aload_n 0, 1) := mj_d (q := (97, .aload_n 0, 1)) k_Mo_findDerived 55 rfl
theorem d_Mo_findDerived_98 : decode y_Mo_findDerived.2.2.1 98 = .ok (.getfield 26, 3) := mj_d (q := (98, .getfield 26, 3)) k_Mo_findDerived 56 rfl
theorem d_Mo_findDerived_101 : decode y_Mo_findDerived.2.2.1 101 = .ok (.iload 5, 2) := mj_d (q := (101, .iload 5, 2)) k_Mo_findDerived 57 rfl
theorem d_Mo_findDerived_103 : decode y_Mo_findDerived.2.2.1 103 = .ok (.iconst 1, 1) := mj_d (q := (103, .iconst 1, 1)) k_Mo_findDerived 58 rfl
theorem d_Mo_findDerived_104 : decode y_Mo_findDerived.2.2.1 104 = .ok (.bastore, 1) := mj_d (q := (104, .bastore, 1)) k_Mo_findDerived 59 rfl
theorem d_Mo_findDerived_105 : decode y_Mo_findDerived.2.2.1 105 = .ok (.iconst 1, 1) := mj_d (q := (105, .iconst 1, 1)) k_Mo_findDerived 60 rfl
theorem d_Mo_findDerived_106 : decode y_Mo_findDerived.2.2.1 106 = .ok (.istore_n 1, 1) := mj_d (q := (106, .istore_n 1, 1)) k_Mo_findDerived 61 rfl
theorem d_Mo_findDerived_107 : decode y_Mo_findDerived.2.2.1 107 = .ok (.iinc 4 1, 3) := mj_d (q := (107, .iinc 4 1, 3)) k_Mo_findDerived 62 rfl
theorem d_Mo_findDerived_110 : decode y_Mo_findDerived.2.2.1 110 = .ok (.goto (-57), 3) := mj_d (q := (110, .goto (-57), 3)) k_Mo_findDerived 63 rfl
theorem d_Mo_findDerived_113 : decode y_Mo_findDerived.2.2.1 113 = .ok (.iinc 3 1, 3) := mj_d (q := (113, .iinc 3 1, 3)) k_Mo_findDerived 64 rfl
theorem d_Mo_findDerived_116 : decode y_Mo_findDerived.2.2.1 116 = .ok (.goto (-74), 3) := mj_d (q := (116, .goto (-74), 3)) k_Mo_findDerived 65 rfl
theorem d_Mo_findDerived_119 : decode y_Mo_findDerived.2.2.1 119 = .ok (.iinc 2 1, 3) := mj_d (q := (119, .iinc 2 1, 3)) k_Mo_findDerived 66 rfl
theorem d_Mo_findDerived_122 : decode y_Mo_findDerived.2.2.1 122 = .ok (.goto (-90), 3) := mj_d (q := (122, .goto (-90), 3)) k_Mo_findDerived 67 rfl
theorem d_Mo_findDerived_125 : decode y_Mo_findDerived.2.2.1 125 = .ok (.goto (-101), 3) := mj_d (q := (125, .goto (-101), 3)) k_Mo_findDerived 68 rfl
theorem d_Mo_findDerived_128 : decode y_Mo_findDerived.2.2.1 128 = .ok (.return_, 1) := mj_d (q := (128, .return_, 1)) k_Mo_findDerived 69 rfl
theorem d_Mo_node_0 : decode y_Mo_node.2.2.1 0 = .ok (.sipush 169, 3) := mj_d (q := (0, .sipush 169, 3)) k_Mo_node 0 rfl
theorem d_Mo_node_3 : decode y_Mo_node.2.2.1 3 = .ok (.iload_n 0, 1) := mj_d (q := (3, .iload_n 0, 1)) k_Mo_node 1 rfl
theorem d_Mo_node_4 : decode y_Mo_node.2.2.1 4 = .ok (.imul, 1) := mj_d (q := (4, .imul, 1)) k_Mo_node 2 rfl
theorem d_Mo_node_5 : decode y_Mo_node.2.2.1 5 = .ok (.bipush 13, 2) := mj_d (q := (5, .bipush 13, 2)) k_Mo_node 3 rfl
theorem d_Mo_node_7 : decode y_Mo_node.2.2.1 7 = .ok (.iload_n 1, 1) := mj_d (q := (7, .iload_n 1, 1)) k_Mo_node 4 rfl
theorem d_Mo_node_8 : decode y_Mo_node.2.2.1 8 = .ok (.imul, 1) := mj_d (q := (8, .imul, 1)) k_Mo_node 5 rfl
theorem d_Mo_node_9 : decode y_Mo_node.2.2.1 9 = .ok (.iadd, 1) := mj_d (q := (9, .iadd, 1)) k_Mo_node 6 rfl
theorem d_Mo_node_10 : decode y_Mo_node.2.2.1 10 = .ok (.iload_n 2, 1) := mj_d (q := (10, .iload_n 2, 1)) k_Mo_node 7 rfl
theorem d_Mo_node_11 : decode y_Mo_node.2.2.1 11 = .ok (.iadd, 1) := mj_d (q := (11, .iadd, 1)) k_Mo_node 8 rfl
theorem d_Mo_node_12 : decode y_Mo_node.2.2.1 12 = .ok (.ireturn, 1) := mj_d (q := (12, .ireturn, 1)) k_Mo_node 9 rfl
theorem d_Mo_waysBy_0 : decode y_Mo_waysBy.2.2.1 0 = .ok (.iconst 0, 1) := mj_d (q := (0, .iconst 0, 1)) k_Mo_waysBy 0 rfl
theorem d_Mo_waysBy_1 : decode y_Mo_waysBy.2.2.1 1 = .ok (.istore 4, 2) := mj_d (q := (1, .istore 4, 2)) k_Mo_waysBy 1 rfl
theorem d_Mo_waysBy_3 : decode y_Mo_waysBy.2.2.1 3 = .ok (.iconst 1, 1) := mj_d (q := (3, .iconst 1, 1)) k_Mo_waysBy 2 rfl
theorem d_Mo_waysBy_4 : decode y_Mo_waysBy.2.2.1 4 = .ok (.istore 5, 2) := mj_d (q := (4, .istore 5, 2)) k_Mo_waysBy 3 rfl
theorem d_Mo_waysBy_6 : decode y_Mo_waysBy.2.2.1 6 = .ok (.aload_n 0, 1) := mj_d (q := (6, .aload_n 0, 1)) k_Mo_waysBy 4 rfl
theorem d_Mo_waysBy_7 : decode y_Mo_waysBy.2.2.1 7 = .ok (.iload_n 2, 1) := mj_d (q := (7, .iload_n 2, 1)) k_Mo_waysBy 5 rfl
theorem d_Mo_waysBy_8 : decode y_Mo_waysBy.2.2.1 8 = .ok (.invokevirtual 130, 3) := mj_d (q := (8, .invokevirtual 130, 3)) k_Mo_waysBy 6 rfl
theorem d_Mo_waysBy_11 : decode y_Mo_waysBy.2.2.1 11 = .ok (.iload 5, 2) := mj_d (q := (11, .iload 5, 2)) k_Mo_waysBy 7 rfl
theorem d_Mo_waysBy_13 : decode y_Mo_waysBy.2.2.1 13 = .ok (.ifCond .eq 34, 3) := mj_d (q := (13, .ifCond .eq 34, 3)) k_Mo_waysBy 8 rfl
theorem d_Mo_waysBy_16 : decode y_Mo_waysBy.2.2.1 16 = .ok (.iload 4, 2) := mj_d (q := (16, .iload 4, 2)) k_Mo_waysBy 9 rfl
theorem d_Mo_waysBy_18 : decode y_Mo_waysBy.2.2.1 18 = .ok (.aload_n 0, 1) := mj_d (q := (18, .aload_n 0, 1)) k_Mo_waysBy 10 rfl
theorem d_Mo_waysBy_19 : decode y_Mo_waysBy.2.2.1 19 = .ok (.iload_n 1, 1) := mj_d (q := (19, .iload_n 1, 1)) k_Mo_waysBy 11 rfl
theorem d_Mo_waysBy_20 : decode y_Mo_waysBy.2.2.1 20 = .ok (.iload_n 2, 1) := mj_d (q := (20, .iload_n 2, 1)) k_Mo_waysBy 12 rfl
theorem d_Mo_waysBy_21 : decode y_Mo_waysBy.2.2.1 21 = .ok (.iload_n 3, 1) := mj_d (q := (21, .iload_n 3, 1)) k_Mo_waysBy 13 rfl
theorem d_Mo_waysBy_22 : decode y_Mo_waysBy.2.2.1 22 = .ok (.invokevirtual 133, 3) := mj_d (q := (22, .invokevirtual 133, 3)) k_Mo_waysBy 14 rfl
theorem d_Mo_waysBy_25 : decode y_Mo_waysBy.2.2.1 25 = .ok (.ifCond .eq 7, 3) := mj_d (q := (25, .ifCond .eq 7, 3)) k_Mo_waysBy 15 rfl
theorem d_Mo_waysBy_28 : decode y_Mo_waysBy.2.2.1 28 = .ok (.iconst 1, 1) := mj_d (q := (28, .iconst 1, 1)) k_Mo_waysBy 16 rfl
theorem d_Mo_waysBy_29 : decode y_Mo_waysBy.2.2.1 29 = .ok (.goto 4, 3) := mj_d (q := (29, .goto 4, 3)) k_Mo_waysBy 17 rfl
theorem d_Mo_waysBy_32 : decode y_Mo_waysBy.2.2.1 32 = .ok (.iconst 0, 1) := mj_d (q := (32, .iconst 0, 1)) k_Mo_waysBy 18 rfl
theorem d_Mo_waysBy_33 : decode y_Mo_waysBy.2.2.1 33 = .ok (.iadd, 1) := mj_d (q := (33, .iadd, 1)) k_Mo_waysBy 19 rfl
theorem d_Mo_waysBy_34 : decode y_Mo_waysBy.2.2.1 34 = .ok (.istore 4, 2) := mj_d (q := (34, .istore 4, 2)) k_Mo_waysBy 20 rfl
theorem d_Mo_waysBy_36 : decode y_Mo_waysBy.2.2.1 36 = .ok (.aload_n 0, 1) := mj_d (q := (36, .aload_n 0, 1)) k_Mo_waysBy 21 rfl
theorem d_Mo_waysBy_37 : decode y_Mo_waysBy.2.2.1 37 = .ok (.iload_n 1, 1) := mj_d (q := (37, .iload_n 1, 1)) k_Mo_waysBy 22 rfl
theorem d_Mo_waysBy_38 : decode y_Mo_waysBy.2.2.1 38 = .ok (.iload_n 3, 1) := mj_d (q := (38, .iload_n 3, 1)) k_Mo_waysBy 23 rfl
theorem d_Mo_waysBy_39 : decode y_Mo_waysBy.2.2.1 39 = .ok (.invokevirtual 136, 3) := mj_d (q := (39, .invokevirtual 136, 3)) k_Mo_waysBy 24 rfl
theorem d_Mo_waysBy_42 : decode y_Mo_waysBy.2.2.1 42 = .ok (.istore 5, 2) := mj_d (q := (42, .istore 5, 2)) k_Mo_waysBy 25 rfl
theorem d_Mo_waysBy_44 : decode y_Mo_waysBy.2.2.1 44 = .ok (.goto (-33), 3) := mj_d (q := (44, .goto (-33), 3)) k_Mo_waysBy 26 rfl
theorem d_Mo_waysBy_47 : decode y_Mo_waysBy.2.2.1 47 = .ok (.iload 4, 2) := mj_d (q := (47, .iload 4, 2)) k_Mo_waysBy 27 rfl
theorem d_Mo_waysBy_49 : decode y_Mo_waysBy.2.2.1 49 = .ok (.ireturn, 1) := mj_d (q := (49, .ireturn, 1)) k_Mo_waysBy 28 rfl
theorem d_Mo_firstCuts_0 : decode y_Mo_firstCuts.2.2.1 0 = .ok (.aload_n 0, 1) := mj_d (q := (0, .aload_n 0, 1)) k_Mo_firstCuts 0 rfl
theorem d_Mo_firstCuts_1 : decode y_Mo_firstCuts.2.2.1 1 = .ok (.iload_n 1, 1) := mj_d (q := (1, .iload_n 1, 1)) k_Mo_firstCuts 1 rfl
theorem d_Mo_firstCuts_2 : decode y_Mo_firstCuts.2.2.1 2 = .ok (.putfield 117, 3) := mj_d (q := (2, .putfield 117, 3)) k_Mo_firstCuts 2 rfl
theorem d_Mo_firstCuts_5 : decode y_Mo_firstCuts.2.2.1 5 = .ok (.aload_n 0, 1) := mj_d (q := (5, .aload_n 0, 1)) k_Mo_firstCuts 3 rfl
theorem d_Mo_firstCuts_6 : decode y_Mo_firstCuts.2.2.1 6 = .ok (.iload_n 1, 1) := mj_d (q := (6, .iload_n 1, 1)) k_Mo_firstCuts 4 rfl
theorem d_Mo_firstCuts_7 : decode y_Mo_firstCuts.2.2.1 7 = .ok (.putfield 120, 3) := mj_d (q := (7, .putfield 120, 3)) k_Mo_firstCuts 5 rfl
theorem d_Mo_firstCuts_10 : decode y_Mo_firstCuts.2.2.1 10 = .ok (.return_, 1) := mj_d (q := (10, .return_, 1)) k_Mo_firstCuts 6 rfl
theorem d_Mo_isWay_0 : decode y_Mo_isWay.2.2.1 0 = .ok (.aload_n 0, 1) := mj_d (q := (0, .aload_n 0, 1)) k_Mo_isWay 0 rfl
theorem d_Mo_isWay_1 : decode y_Mo_isWay.2.2.1 1 = .ok (.getfield 13, 3) := mj_d (q := (1, .getfield 13, 3)) k_Mo_isWay 1 rfl
theorem d_Mo_isWay_4 : decode y_Mo_isWay.2.2.1 4 = .ok (.iload_n 1, 1) := mj_d (q := (4, .iload_n 1, 1)) k_Mo_isWay 2 rfl
theorem d_Mo_isWay_5 : decode y_Mo_isWay.2.2.1 5 = .ok (.iaload, 1) := mj_d (q := (5, .iaload, 1)) k_Mo_isWay 3 rfl
theorem d_Mo_isWay_6 : decode y_Mo_isWay.2.2.1 6 = .ok (.ifCond .ne 14, 3) := mj_d (q := (6, .ifCond .ne 14, 3)) k_Mo_isWay 4 rfl
theorem d_Mo_isWay_9 : decode y_Mo_isWay.2.2.1 9 = .ok (.iload_n 2, 1) := mj_d (q := (9, .iload_n 2, 1)) k_Mo_isWay 5 rfl
theorem d_Mo_isWay_10 : decode y_Mo_isWay.2.2.1 10 = .ok (.iload_n 3, 1) := mj_d (q := (10, .iload_n 3, 1)) k_Mo_isWay 6 rfl
theorem d_Mo_isWay_11 : decode y_Mo_isWay.2.2.1 11 = .ok (.if_icmp .ne 7, 3) := mj_d (q := (11, .if_icmp .ne 7, 3)) k_Mo_isWay 7 rfl
theorem d_Mo_isWay_14 : decode y_Mo_isWay.2.2.1 14 = .ok (.iconst 1, 1) := mj_d (q := (14, .iconst 1, 1)) k_Mo_isWay 8 rfl
theorem d_Mo_isWay_15 : decode y_Mo_isWay.2.2.1 15 = .ok (.goto 4, 3) := mj_d (q := (15, .goto 4, 3)) k_Mo_isWay 9 rfl
theorem d_Mo_isWay_18 : decode y_Mo_isWay.2.2.1 18 = .ok (.iconst 0, 1) := mj_d (q := (18, .iconst 0, 1)) k_Mo_isWay 10 rfl
theorem d_Mo_isWay_19 : decode y_Mo_isWay.2.2.1 19 = .ok (.ireturn, 1) := mj_d (q := (19, .ireturn, 1)) k_Mo_isWay 11 rfl
theorem d_Mo_isWay_20 : decode y_Mo_isWay.2.2.1 20 = .ok (.iconst 1, 1) := mj_d (q := (20, .iconst 1, 1)) k_Mo_isWay 12 rfl
theorem d_Mo_isWay_21 : decode y_Mo_isWay.2.2.1 21 = .ok (.istore 4, 2) := mj_d (q := (21, .istore 4, 2)) k_Mo_isWay 13 rfl
theorem d_Mo_isWay_23 : decode y_Mo_isWay.2.2.1 23 = .ok (.iconst 0, 1) := mj_d (q := (23, .iconst 0, 1)) k_Mo_isWay 14 rfl
theorem d_Mo_isWay_24 : decode y_Mo_isWay.2.2.1 24 = .ok (.istore 5, 2) := mj_d (q := (24, .istore 5, 2)) k_Mo_isWay 15 rfl
theorem d_Mo_isWay_26 : decode y_Mo_isWay.2.2.1 26 = .ok (.iload 5, 2) := mj_d (q := (26, .iload 5, 2)) k_Mo_isWay 16 rfl
theorem d_Mo_isWay_28 : decode y_Mo_isWay.2.2.1 28 = .ok (.aload_n 0, 1) := mj_d (q := (28, .aload_n 0, 1)) k_Mo_isWay 17 rfl
theorem d_Mo_isWay_29 : decode y_Mo_isWay.2.2.1 29 = .ok (.getfield 13, 3) := mj_d (q := (29, .getfield 13, 3)) k_Mo_isWay 18 rfl
theorem d_Mo_isWay_32 : decode y_Mo_isWay.2.2.1 32 = .ok (.iload_n 1, 1) := mj_d (q := (32, .iload_n 1, 1)) k_Mo_isWay 19 rfl
theorem d_Mo_isWay_33 : decode y_Mo_isWay.2.2.1 33 = .ok (.iaload, 1) := mj_d (q := (33, .iaload, 1)) k_Mo_isWay 20 rfl
theorem d_Mo_isWay_34 : decode y_Mo_isWay.2.2.1 34 = .ok (.if_icmp .ge 74, 3) := mj_d (q := (34, .if_icmp .ge 74, 3)) k_Mo_isWay 21 rfl
theorem d_Mo_isWay_37 : decode y_Mo_isWay.2.2.1 37 = .ok (.aload_n 0, 1) := mj_d (q := (37, .aload_n 0, 1)) k_Mo_isWay 22 rfl
theorem d_Mo_isWay_38 : decode y_Mo_isWay.2.2.1 38 = .ok (.iload_n 1, 1) := mj_d (q := (38, .iload_n 1, 1)) k_Mo_isWay 23 rfl
theorem d_Mo_isWay_39 : decode y_Mo_isWay.2.2.1 39 = .ok (.iload 5, 2) := mj_d (q := (39, .iload 5, 2)) k_Mo_isWay 24 rfl
theorem d_Mo_isWay_41 : decode y_Mo_isWay.2.2.1 41 = .ok (.iload_n 2, 1) := mj_d (q := (41, .iload_n 2, 1)) k_Mo_isWay 25 rfl
theorem d_Mo_isWay_42 : decode y_Mo_isWay.2.2.1 42 = .ok (.iload_n 3, 1) := mj_d (q := (42, .iload_n 3, 1)) k_Mo_isWay 26 rfl
theorem d_Mo_isWay_43 : decode y_Mo_isWay.2.2.1 43 = .ok (.invokevirtual 123, 3) := mj_d (q := (43, .invokevirtual 123, 3)) k_Mo_isWay 27 rfl
theorem d_Mo_isWay_46 : decode y_Mo_isWay.2.2.1 46 = .ok (.istore 6, 2) := mj_d (q := (46, .istore 6, 2)) k_Mo_isWay 28 rfl
theorem d_Mo_isWay_48 : decode y_Mo_isWay.2.2.1 48 = .ok (.aload_n 0, 1) := mj_d (q := (48, .aload_n 0, 1)) k_Mo_isWay 29 rfl
theorem d_Mo_isWay_49 : decode y_Mo_isWay.2.2.1 49 = .ok (.iload_n 1, 1) := mj_d (q := (49, .iload_n 1, 1)) k_Mo_isWay 30 rfl
theorem d_Mo_isWay_50 : decode y_Mo_isWay.2.2.1 50 = .ok (.iload 5, 2) := mj_d (q := (50, .iload 5, 2)) k_Mo_isWay 31 rfl
theorem d_Mo_isWay_52 : decode y_Mo_isWay.2.2.1 52 = .ok (.iconst 1, 1) := mj_d (q := (52, .iconst 1, 1)) k_Mo_isWay 32 rfl
theorem d_Mo_isWay_53 : decode y_Mo_isWay.2.2.1 53 = .ok (.iadd, 1) := mj_d (q := (53, .iadd, 1)) k_Mo_isWay 33 rfl
theorem d_Mo_isWay_54 : decode y_Mo_isWay.2.2.1 54 = .ok (.iload_n 2, 1) := mj_d (q := (54, .iload_n 2, 1)) k_Mo_isWay 34 rfl
theorem d_Mo_isWay_55 : decode y_Mo_isWay.2.2.1 55 = .ok (.iload_n 3, 1) := mj_d (q := (55, .iload_n 3, 1)) k_Mo_isWay 35 rfl
theorem d_Mo_isWay_56 : decode y_Mo_isWay.2.2.1 56 = .ok (.invokevirtual 123, 3) := mj_d (q := (56, .invokevirtual 123, 3)) k_Mo_isWay 36 rfl
theorem d_Mo_isWay_59 : decode y_Mo_isWay.2.2.1 59 = .ok (.istore 7, 2) := mj_d (q := (59, .istore 7, 2)) k_Mo_isWay 37 rfl
theorem d_Mo_isWay_61 : decode y_Mo_isWay.2.2.1 61 = .ok (.iload 4, 2) := mj_d (q := (61, .iload 4, 2)) k_Mo_isWay 38 rfl
theorem d_Mo_isWay_63 : decode y_Mo_isWay.2.2.1 63 = .ok (.ifCond .eq 36, 3) := mj_d (q := (63, .ifCond .eq 36, 3)) k_Mo_isWay 39 rfl
theorem d_Mo_isWay_66 : decode y_Mo_isWay.2.2.1 66 = .ok (.iload 6, 2) := mj_d (q := (66, .iload 6, 2)) k_Mo_isWay 40 rfl
theorem d_Mo_isWay_68 : decode y_Mo_isWay.2.2.1 68 = .ok (.iload 7, 2) := mj_d (q := (68, .iload 7, 2)) k_Mo_isWay 41 rfl
theorem d_Mo_isWay_70 : decode y_Mo_isWay.2.2.1 70 = .ok (.if_icmp .gt 29, 3) := mj_d (q := (70, .if_icmp .gt 29, 3)) k_Mo_isWay 42 rfl
theorem d_Mo_isWay_73 : decode y_Mo_isWay.2.2.1 73 = .ok (.aload_n 0, 1) := mj_d (q := (73, .aload_n 0, 1)) k_Mo_isWay 43 rfl
theorem d_Mo_isWay_74 : decode y_Mo_isWay.2.2.1 74 = .ok (.aload_n 0, 1) := mj_d (q := (74, .aload_n 0, 1)) k_Mo_isWay 44 rfl
theorem d_Mo_isWay_75 : decode y_Mo_isWay.2.2.1 75 = .ok (.getfield 16, 3) := mj_d (q := (75, .getfield 16, 3)) k_Mo_isWay 45 rfl
theorem d_Mo_isWay_78 : decode y_Mo_isWay.2.2.1 78 = .ok (.iconst 3, 1) := mj_d (q := (78, .iconst 3, 1)) k_Mo_isWay 46 rfl
theorem d_Mo_isWay_79 : decode y_Mo_isWay.2.2.1 79 = .ok (.iload_n 1, 1) := mj_d (q := (79, .iload_n 1, 1)) k_Mo_isWay 47 rfl
theorem d_Mo_isWay_80 : decode y_Mo_isWay.2.2.1 80 = .ok (.imul, 1) := mj_d (q := (80, .imul, 1)) k_Mo_isWay 48 rfl
theorem d_Mo_isWay_81 : decode y_Mo_isWay.2.2.1 81 = .ok (.iload 5, 2) := mj_d (q := (81, .iload 5, 2)) k_Mo_isWay 49 rfl
theorem d_Mo_isWay_83 : decode y_Mo_isWay.2.2.1 83 = .ok (.iadd, 1) := mj_d (q := (83, .iadd, 1)) k_Mo_isWay 50 rfl
theorem d_Mo_isWay_84 : decode y_Mo_isWay.2.2.1 84 = .ok (.iaload, 1) := mj_d (q := (84, .iaload, 1)) k_Mo_isWay 51 rfl
theorem d_Mo_isWay_85 : decode y_Mo_isWay.2.2.1 85 = .ok (.iload 6, 2) := mj_d (q := (85, .iload 6, 2)) k_Mo_isWay 52 rfl
theorem d_Mo_isWay_87 : decode y_Mo_isWay.2.2.1 87 = .ok (.iload 7, 2) := mj_d (q := (87, .iload 7, 2)) k_Mo_isWay 53 rfl
theorem d_Mo_isWay_89 : decode y_Mo_isWay.2.2.1 89 = .ok (.invokevirtual 126, 3) := mj_d (q := (89, .invokevirtual 126, 3)) k_Mo_isWay 54 rfl
theorem d_Mo_isWay_92 : decode y_Mo_isWay.2.2.1 92 = .ok (.ifCond .eq 7, 3) := mj_d (q := (92, .ifCond .eq 7, 3)) k_Mo_isWay 55 rfl
theorem d_Mo_isWay_95 : decode y_Mo_isWay.2.2.1 95 = .ok (.iconst 1, 1) := mj_d (q := (95, .iconst 1, 1)) k_Mo_isWay 56 rfl
theorem d_Mo_isWay_96 : decode y_Mo_isWay.2.2.1 96 = .ok (.goto 4, 3) := mj_d (q := (96, .goto 4, 3)) k_Mo_isWay 57 rfl
theorem d_Mo_isWay_99 : decode y_Mo_isWay.2.2.1 99 = .ok (.iconst 0, 1) := mj_d (q := (99, .iconst 0, 1)) k_Mo_isWay 58 rfl
theorem d_Mo_isWay_100 : decode y_Mo_isWay.2.2.1 100 = .ok (.istore 4, 2) := mj_d (q := (100, .istore 4, 2)) k_Mo_isWay 59 rfl
theorem d_Mo_isWay_102 : decode y_Mo_isWay.2.2.1 102 = .ok (.iinc 5 1, 3) := mj_d (q := (102, .iinc 5 1, 3)) k_Mo_isWay 60 rfl
theorem d_Mo_isWay_105 : decode y_Mo_isWay.2.2.1 105 = .ok (.goto (-79), 3) := mj_d (q := (105, .goto (-79), 3)) k_Mo_isWay 61 rfl
theorem d_Mo_isWay_108 : decode y_Mo_isWay.2.2.1 108 = .ok (.iload 4, 2) := mj_d (q := (108, .iload 4, 2)) k_Mo_isWay 62 rfl
theorem d_Mo_isWay_110 : decode y_Mo_isWay.2.2.1 110 = .ok (.ireturn, 1) := mj_d (q := (110, .ireturn, 1)) k_Mo_isWay 63 rfl
theorem d_Mo_cut_0 : decode y_Mo_cut.2.2.1 0 = .ok (.iload_n 2, 1) := mj_d (q := (0, .iload_n 2, 1)) k_Mo_cut 0 rfl
theorem d_Mo_cut_1 : decode y_Mo_cut.2.2.1 1 = .ok (.ifCond .ne 7, 3) := mj_d (q := (1, .ifCond .ne 7, 3)) k_Mo_cut 1 rfl
theorem d_Mo_cut_4 : decode y_Mo_cut.2.2.1 4 = .ok (.iload_n 3, 1) := mj_d (q := (4, .iload_n 3, 1)) k_Mo_cut 2 rfl
theorem d_Mo_cut_5 : decode y_Mo_cut.2.2.1 5 = .ok (.goto 34, 3) := mj_d (q := (5, .goto 34, 3)) k_Mo_cut 3 rfl
theorem d_Mo_cut_8 : decode y_Mo_cut.2.2.1 8 = .ok (.iload_n 2, 1) := mj_d (q := (8, .iload_n 2, 1)) k_Mo_cut 4 rfl
theorem d_Mo_cut_9 : decode y_Mo_cut.2.2.1 9 = .ok (.aload_n 0, 1) := mj_d (q := (9, .aload_n 0, 1)) k_Mo_cut 5 rfl
theorem d_Mo_cut_10 : decode y_Mo_cut.2.2.1 10 = .ok (.getfield 13, 3) := mj_d (q := (10, .getfield 13, 3)) k_Mo_cut 6 rfl
theorem d_Mo_cut_13 : decode y_Mo_cut.2.2.1 13 = .ok (.iload_n 1, 1) := mj_d (q := (13, .iload_n 1, 1)) k_Mo_cut 7 rfl
theorem d_Mo_cut_14 : decode y_Mo_cut.2.2.1 14 = .ok (.iaload, 1) := mj_d (q := (14, .iaload, 1)) k_Mo_cut 8 rfl
theorem d_Mo_cut_15 : decode y_Mo_cut.2.2.1 15 = .ok (.if_icmp .ne 8, 3) := mj_d (q := (15, .if_icmp .ne 8, 3)) k_Mo_cut 9 rfl
theorem d_Mo_cut_18 : decode y_Mo_cut.2.2.1 18 = .ok (.iload 4, 2) := mj_d (q := (18, .iload 4, 2)) k_Mo_cut 10 rfl
theorem d_Mo_cut_20 : decode y_Mo_cut.2.2.1 20 = .ok (.goto 19, 3) := mj_d (q := (20, .goto 19, 3)) k_Mo_cut 11 rfl
theorem d_Mo_cut_23 : decode y_Mo_cut.2.2.1 23 = .ok (.iload_n 2, 1) := mj_d (q := (23, .iload_n 2, 1)) k_Mo_cut 12 rfl
theorem d_Mo_cut_24 : decode y_Mo_cut.2.2.1 24 = .ok (.iconst 1, 1) := mj_d (q := (24, .iconst 1, 1)) k_Mo_cut 13 rfl
theorem d_Mo_cut_25 : decode y_Mo_cut.2.2.1 25 = .ok (.if_icmp .ne 10, 3) := mj_d (q := (25, .if_icmp .ne 10, 3)) k_Mo_cut 14 rfl
theorem d_Mo_cut_28 : decode y_Mo_cut.2.2.1 28 = .ok (.aload_n 0, 1) := mj_d (q := (28, .aload_n 0, 1)) k_Mo_cut 15 rfl
theorem d_Mo_cut_29 : decode y_Mo_cut.2.2.1 29 = .ok (.getfield 117, 3) := mj_d (q := (29, .getfield 117, 3)) k_Mo_cut 16 rfl
theorem d_Mo_cut_32 : decode y_Mo_cut.2.2.1 32 = .ok (.goto 7, 3) := mj_d (q := (32, .goto 7, 3)) k_Mo_cut 17 rfl
theorem d_Mo_cut_35 : decode y_Mo_cut.2.2.1 35 = .ok (.aload_n 0, 1) := mj_d (q := (35, .aload_n 0, 1)) k_Mo_cut 18 rfl
theorem d_Mo_cut_36 : decode y_Mo_cut.2.2.1 36 = .ok (.getfield 120, 3) := mj_d (q := (36, .getfield 120, 3)) k_Mo_cut 19 rfl
theorem d_Mo_cut_39 : decode y_Mo_cut.2.2.1 39 = .ok (.ireturn, 1) := mj_d (q := (39, .ireturn, 1)) k_Mo_cut 20 rfl
theorem d_Mo_isDerived_0 : decode y_Mo_isDerived.2.2.1 0 = .ok (.iload_n 1, 1) := mj_d (q := (0, .iload_n 1, 1)) k_Mo_isDerived 0 rfl
theorem d_Mo_isDerived_1 : decode y_Mo_isDerived.2.2.1 1 = .ok (.bipush 8, 2) := mj_d (q := (1, .bipush 8, 2)) k_Mo_isDerived 1 rfl
theorem d_Mo_isDerived_3 : decode y_Mo_isDerived.2.2.1 3 = .ok (.if_icmp .lt 28, 3) := mj_d (q := (3, .if_icmp .lt 28, 3)) k_Mo_isDerived 2 rfl
theorem d_Mo_isDerived_6 : decode y_Mo_isDerived.2.2.1 6 = .ok (.iload_n 3, 1) := mj_d (q := (6, .iload_n 3, 1)) k_Mo_isDerived 3 rfl
theorem d_Mo_isDerived_7 : decode y_Mo_isDerived.2.2.1 7 = .ok (.iload_n 2, 1) := mj_d (q := (7, .iload_n 2, 1)) k_Mo_isDerived 4 rfl
theorem d_Mo_isDerived_8 : decode y_Mo_isDerived.2.2.1 8 = .ok (.iconst 1, 1) := mj_d (q := (8, .iconst 1, 1)) k_Mo_isDerived 5 rfl
theorem d_Mo_isDerived_9 : decode y_Mo_isDerived.2.2.1 9 = .ok (.iadd, 1) := mj_d (q := (9, .iadd, 1)) k_Mo_isDerived 6 rfl
theorem d_Mo_isDerived_10 : decode y_Mo_isDerived.2.2.1 10 = .ok (.if_icmp .ne 17, 3) := mj_d (q := (10, .if_icmp .ne 17, 3)) k_Mo_isDerived 7 rfl
theorem d_Mo_isDerived_13 : decode y_Mo_isDerived.2.2.1 13 = .ok (.aload_n 0, 1) := mj_d (q := (13, .aload_n 0, 1)) k_Mo_isDerived 8 rfl
theorem d_Mo_isDerived_14 : decode y_Mo_isDerived.2.2.1 14 = .ok (.getfield 19, 3) := mj_d (q := (14, .getfield 19, 3)) k_Mo_isDerived 9 rfl
theorem d_Mo_isDerived_17 : decode y_Mo_isDerived.2.2.1 17 = .ok (.iload_n 2, 1) := mj_d (q := (17, .iload_n 2, 1)) k_Mo_isDerived 10 rfl
theorem d_Mo_isDerived_18 : decode y_Mo_isDerived.2.2.1 18 = .ok (.iaload, 1) := mj_d (q := (18, .iaload, 1)) k_Mo_isDerived 11 rfl
theorem d_Mo_isDerived_19 : decode y_Mo_isDerived.2.2.1 19 = .ok (.iload_n 1, 1) := mj_d (q := (19, .iload_n 1, 1)) k_Mo_isDerived 12 rfl
theorem d_Mo_isDerived_20 : decode y_Mo_isDerived.2.2.1 20 = .ok (.if_icmp .ne 7, 3) := mj_d (q := (20, .if_icmp .ne 7, 3)) k_Mo_isDerived 13 rfl
theorem d_Mo_isDerived_23 : decode y_Mo_isDerived.2.2.1 23 = .ok (.iconst 1, 1) := mj_d (q := (23, .iconst 1, 1)) k_Mo_isDerived 14 rfl
theorem d_Mo_isDerived_24 : decode y_Mo_isDerived.2.2.1 24 = .ok (.goto 18, 3) := mj_d (q := (24, .goto 18, 3)) k_Mo_isDerived 15 rfl
theorem d_Mo_isDerived_27 : decode y_Mo_isDerived.2.2.1 27 = .ok (.iconst 0, 1) := mj_d (q := (27, .iconst 0, 1)) k_Mo_isDerived 16 rfl
theorem d_Mo_isDerived_28 : decode y_Mo_isDerived.2.2.1 28 = .ok (.goto 14, 3) := mj_d (q := (28, .goto 14, 3)) k_Mo_isDerived 17 rfl
theorem d_Mo_isDerived_31 : decode y_Mo_isDerived.2.2.1 31 = .ok (.aload_n 0, 1) := mj_d (q := (31, .aload_n 0, 1)) k_Mo_isDerived 18 rfl
theorem d_Mo_isDerived_32 : decode y_Mo_isDerived.2.2.1 32 = .ok (.getfield 26, 3) := mj_d (q := (32, .getfield 26, 3)) k_Mo_isDerived 19 rfl
theorem d_Mo_isDerived_35 : decode y_Mo_isDerived.2.2.1 35 = .ok (.iload_n 1, 1) := mj_d (q := (35, .iload_n 1, 1)) k_Mo_isDerived 20 rfl
theorem d_Mo_isDerived_36 : decode y_Mo_isDerived.2.2.1 36 = .ok (.iload_n 2, 1) := mj_d (q := (36, .iload_n 2, 1)) k_Mo_isDerived 21 rfl
theorem d_Mo_isDerived_37 : decode y_Mo_isDerived.2.2.1 37 = .ok (.iload_n 3, 1) := mj_d (q := (37, .iload_n 3, 1)) k_Mo_isDerived 22 rfl
theorem d_Mo_isDerived_38 : decode y_Mo_isDerived.2.2.1 38 = .ok (.invokestatic 113, 3) := mj_d (q := (38, .invokestatic 113, 3)) k_Mo_isDerived 23 rfl
theorem d_Mo_isDerived_41 : decode y_Mo_isDerived.2.2.1 41 = .ok (.baload, 1) := mj_d (q := (41, .baload, 1)) k_Mo_isDerived 24 rfl
theorem d_Mo_isDerived_42 : decode y_Mo_isDerived.2.2.1 42 = .ok (.ireturn, 1) := mj_d (q := (42, .ireturn, 1)) k_Mo_isDerived 25 rfl
theorem d_Mo_nextCuts_0 : decode y_Mo_nextCuts.2.2.1 0 = .ok (.aload_n 0, 1) := mj_d (q := (0, .aload_n 0, 1)) k_Mo_nextCuts 0 rfl
theorem d_Mo_nextCuts_1 : decode y_Mo_nextCuts.2.2.1 1 = .ok (.getfield 13, 3) := mj_d (q := (1, .getfield 13, 3)) k_Mo_nextCuts 1 rfl
theorem d_Mo_nextCuts_4 : decode y_Mo_nextCuts.2.2.1 4 = .ok (.iload_n 1, 1) := mj_d (q := (4, .iload_n 1, 1)) k_Mo_nextCuts 2 rfl
theorem d_Mo_nextCuts_5 : decode y_Mo_nextCuts.2.2.1 5 = .ok (.iaload, 1) := mj_d (q := (5, .iaload, 1)) k_Mo_nextCuts 3 rfl
theorem d_Mo_nextCuts_6 : decode y_Mo_nextCuts.2.2.1 6 = .ok (.iconst 3, 1) := mj_d (q := (6, .iconst 3, 1)) k_Mo_nextCuts 4 rfl
theorem d_Mo_nextCuts_7 : decode y_Mo_nextCuts.2.2.1 7 = .ok (.if_icmp .ne 23, 3) := mj_d (q := (7, .if_icmp .ne 23, 3)) k_Mo_nextCuts 5 rfl
theorem d_Mo_nextCuts_10 : decode y_Mo_nextCuts.2.2.1 10 = .ok (.aload_n 0, 1) := mj_d (q := (10, .aload_n 0, 1)) k_Mo_nextCuts 6 rfl
theorem d_Mo_nextCuts_11 : decode y_Mo_nextCuts.2.2.1 11 = .ok (.getfield 120, 3) := mj_d (q := (11, .getfield 120, 3)) k_Mo_nextCuts 7 rfl
theorem d_Mo_nextCuts_14 : decode y_Mo_nextCuts.2.2.1 14 = .ok (.iload_n 2, 1) := mj_d (q := (14, .iload_n 2, 1)) k_Mo_nextCuts 8 rfl
theorem d_Mo_nextCuts_15 : decode y_Mo_nextCuts.2.2.1 15 = .ok (.if_icmp .ge 15, 3) := mj_d (q := (15, .if_icmp .ge 15, 3)) k_Mo_nextCuts 9 rfl
theorem d_Mo_nextCuts_18 : decode y_Mo_nextCuts.2.2.1 18 = .ok (.aload_n 0, 1) := mj_d (q := (18, .aload_n 0, 1)) k_Mo_nextCuts 10 rfl
theorem d_Mo_nextCuts_19 : decode y_Mo_nextCuts.2.2.1 19 = .ok (.dup, 1) := mj_d (q := (19, .dup, 1)) k_Mo_nextCuts 11 rfl
theorem d_Mo_nextCuts_20 : decode y_Mo_nextCuts.2.2.1 20 = .ok (.getfield 120, 3) := mj_d (q := (20, .getfield 120, 3)) k_Mo_nextCuts 12 rfl
theorem d_Mo_nextCuts_23 : decode y_Mo_nextCuts.2.2.1 23 = .ok (.iconst 1, 1) := mj_d (q := (23, .iconst 1, 1)) k_Mo_nextCuts 13 rfl
theorem d_Mo_nextCuts_24 : decode y_Mo_nextCuts.2.2.1 24 = .ok (.iadd, 1) := mj_d (q := (24, .iadd, 1)) k_Mo_nextCuts 14 rfl
theorem d_Mo_nextCuts_25 : decode y_Mo_nextCuts.2.2.1 25 = .ok (.putfield 120, 3) := mj_d (q := (25, .putfield 120, 3)) k_Mo_nextCuts 15 rfl
theorem d_Mo_nextCuts_28 : decode y_Mo_nextCuts.2.2.1 28 = .ok (.iconst 1, 1) := mj_d (q := (28, .iconst 1, 1)) k_Mo_nextCuts 16 rfl
theorem d_Mo_nextCuts_29 : decode y_Mo_nextCuts.2.2.1 29 = .ok (.ireturn, 1) := mj_d (q := (29, .ireturn, 1)) k_Mo_nextCuts 17 rfl
theorem d_Mo_nextCuts_30 : decode y_Mo_nextCuts.2.2.1 30 = .ok (.aload_n 0, 1) := mj_d (q := (30, .aload_n 0, 1)) k_Mo_nextCuts 18 rfl
theorem d_Mo_nextCuts_31 : decode y_Mo_nextCuts.2.2.1 31 = .ok (.getfield 13, 3) := mj_d (q := (31, .getfield 13, 3)) k_Mo_nextCuts 19 rfl
theorem d_Mo_nextCuts_34 : decode y_Mo_nextCuts.2.2.1 34 = .ok (.iload_n 1, 1) := mj_d (q := (34, .iload_n 1, 1)) k_Mo_nextCuts 20 rfl
theorem d_Mo_nextCuts_35 : decode y_Mo_nextCuts.2.2.1 35 = .ok (.iaload, 1) := mj_d (q := (35, .iaload, 1)) k_Mo_nextCuts 21 rfl
theorem d_Mo_nextCuts_36 : decode y_Mo_nextCuts.2.2.1 36 = .ok (.iconst 2, 1) := mj_d (q := (36, .iconst 2, 1)) k_Mo_nextCuts 22 rfl
theorem d_Mo_nextCuts_37 : decode y_Mo_nextCuts.2.2.1 37 = .ok (.if_icmp .lt 11, 3) := mj_d (q := (37, .if_icmp .lt 11, 3)) k_Mo_nextCuts 23 rfl
theorem d_Mo_nextCuts_40 : decode y_Mo_nextCuts.2.2.1 40 = .ok (.aload_n 0, 1) := mj_d (q := (40, .aload_n 0, 1)) k_Mo_nextCuts 24 rfl
theorem d_Mo_nextCuts_41 : decode y_Mo_nextCuts.2.2.1 41 = .ok (.getfield 117, 3) := mj_d (q := (41, .getfield 117, 3)) k_Mo_nextCuts 25 rfl
theorem d_Mo_nextCuts_44 : decode y_Mo_nextCuts.2.2.1 44 = .ok (.iload_n 2, 1) := mj_d (q := (44, .iload_n 2, 1)) k_Mo_nextCuts 26 rfl
theorem d_Mo_nextCuts_45 : decode y_Mo_nextCuts.2.2.1 45 = .ok (.if_icmp .ne 5, 3) := mj_d (q := (45, .if_icmp .ne 5, 3)) k_Mo_nextCuts 27 rfl
theorem d_Mo_nextCuts_48 : decode y_Mo_nextCuts.2.2.1 48 = .ok (.iconst 0, 1) := mj_d (q := (48, .iconst 0, 1)) k_Mo_nextCuts 28 rfl
theorem d_Mo_nextCuts_49 : decode y_Mo_nextCuts.2.2.1 49 = .ok (.ireturn, 1) := mj_d (q := (49, .ireturn, 1)) k_Mo_nextCuts 29 rfl
theorem d_Mo_nextCuts_50 : decode y_Mo_nextCuts.2.2.1 50 = .ok (.aload_n 0, 1) := mj_d (q := (50, .aload_n 0, 1)) k_Mo_nextCuts 30 rfl
theorem d_Mo_nextCuts_51 : decode y_Mo_nextCuts.2.2.1 51 = .ok (.dup, 1) := mj_d (q := (51, .dup, 1)) k_Mo_nextCuts 31 rfl
theorem d_Mo_nextCuts_52 : decode y_Mo_nextCuts.2.2.1 52 = .ok (.getfield 117, 3) := mj_d (q := (52, .getfield 117, 3)) k_Mo_nextCuts 32 rfl
theorem d_Mo_nextCuts_55 : decode y_Mo_nextCuts.2.2.1 55 = .ok (.iconst 1, 1) := mj_d (q := (55, .iconst 1, 1)) k_Mo_nextCuts 33 rfl
theorem d_Mo_nextCuts_56 : decode y_Mo_nextCuts.2.2.1 56 = .ok (.iadd, 1) := mj_d (q := (56, .iadd, 1)) k_Mo_nextCuts 34 rfl
theorem d_Mo_nextCuts_57 : decode y_Mo_nextCuts.2.2.1 57 = .ok (.putfield 117, 3) := mj_d (q := (57, .putfield 117, 3)) k_Mo_nextCuts 35 rfl
theorem d_Mo_nextCuts_60 : decode y_Mo_nextCuts.2.2.1 60 = .ok (.aload_n 0, 1) := mj_d (q := (60, .aload_n 0, 1)) k_Mo_nextCuts 36 rfl
theorem d_Mo_nextCuts_61 : decode y_Mo_nextCuts.2.2.1 61 = .ok (.aload_n 0, 1) := mj_d (q := (61, .aload_n 0, 1)) k_Mo_nextCuts 37 rfl
theorem d_Mo_nextCuts_62 : decode y_Mo_nextCuts.2.2.1 62 = .ok (.getfield 117, 3) := mj_d (q := (62, .getfield 117, 3)) k_Mo_nextCuts 38 rfl
theorem d_Mo_nextCuts_65 : decode y_Mo_nextCuts.2.2.1 65 = .ok (.putfield 120, 3) := mj_d (q := (65, .putfield 120, 3)) k_Mo_nextCuts 39 rfl
theorem d_Mo_nextCuts_68 : decode y_Mo_nextCuts.2.2.1 68 = .ok (.iconst 1, 1) := mj_d (q := (68, .iconst 1, 1)) k_Mo_nextCuts 40 rfl
theorem d_Mo_nextCuts_69 : decode y_Mo_nextCuts.2.2.1 69 = .ok (.ireturn, 1) := mj_d (q := (69, .ireturn, 1)) k_Mo_nextCuts 41 rfl
theorem d_Mo_sum_0 : decode y_Mo_sum.2.2.1 0 = .ok (.lconst 0, 1) := mj_d (q := (0, .lconst 0, 1)) k_Mo_sum 0 rfl
theorem d_Mo_sum_1 : decode y_Mo_sum.2.2.1 1 = .ok (.lstore 4, 2) := mj_d (q := (1, .lstore 4, 2)) k_Mo_sum 1 rfl
theorem d_Mo_sum_3 : decode y_Mo_sum.2.2.1 3 = .ok (.iconst 0, 1) := mj_d (q := (3, .iconst 0, 1)) k_Mo_sum 2 rfl
theorem d_Mo_sum_4 : decode y_Mo_sum.2.2.1 4 = .ok (.istore 6, 2) := mj_d (q := (4, .istore 6, 2)) k_Mo_sum 3 rfl
theorem d_Mo_sum_6 : decode y_Mo_sum.2.2.1 6 = .ok (.iload 6, 2) := mj_d (q := (6, .iload 6, 2)) k_Mo_sum 4 rfl
theorem d_Mo_sum_8 : decode y_Mo_sum.2.2.1 8 = .ok (.aload_n 0, 1) := mj_d (q := (8, .aload_n 0, 1)) k_Mo_sum 5 rfl
theorem d_Mo_sum_9 : decode y_Mo_sum.2.2.1 9 = .ok (.getfield 73, 3) := mj_d (q := (9, .getfield 73, 3)) k_Mo_sum 6 rfl
theorem d_Mo_sum_12 : decode y_Mo_sum.2.2.1 12 = .ok (.if_icmp .ge 106, 3) := mj_d (q := (12, .if_icmp .ge 106, 3)) k_Mo_sum 7 rfl
theorem d_Mo_sum_15 : decode y_Mo_sum.2.2.1 15 = .ok (.aload_n 0, 1) := mj_d (q := (15, .aload_n 0, 1)) k_Mo_sum 8 rfl
theorem d_Mo_sum_16 : decode y_Mo_sum.2.2.1 16 = .ok (.getfield 7, 3) := mj_d (q := (16, .getfield 7, 3)) k_Mo_sum 9 rfl
theorem d_Mo_sum_19 : decode y_Mo_sum.2.2.1 19 = .ok (.iload 6, 2) := mj_d (q := (19, .iload 6, 2)) k_Mo_sum 10 rfl
theorem d_Mo_sum_21 : decode y_Mo_sum.2.2.1 21 = .ok (.iaload, 1) := mj_d (q := (21, .iaload, 1)) k_Mo_sum 11 rfl
theorem d_Mo_sum_22 : decode y_Mo_sum.2.2.1 22 = .ok (.iload_n 1, 1) := mj_d (q := (22, .iload_n 1, 1)) k_Mo_sum 12 rfl
theorem d_Mo_sum_23 : decode y_Mo_sum.2.2.1 23 = .ok (.if_icmp .ne 7, 3) := mj_d (q := (23, .if_icmp .ne 7, 3)) k_Mo_sum 13 rfl
theorem d_Mo_sum_26 : decode y_Mo_sum.2.2.1 26 = .ok (.iconst 1, 1) := mj_d (q := (26, .iconst 1, 1)) k_Mo_sum 14 rfl
theorem d_Mo_sum_27 : decode y_Mo_sum.2.2.1 27 = .ok (.goto 4, 3) := mj_d (q := (27, .goto 4, 3)) k_Mo_sum 15 rfl
theorem d_Mo_sum_30 : decode y_Mo_sum.2.2.1 30 = .ok (.iconst 0, 1) := mj_d (q := (30, .iconst 0, 1)) k_Mo_sum 16 rfl
theorem d_Mo_sum_31 : decode y_Mo_sum.2.2.1 31 = .ok (.istore 7, 2) := mj_d (q := (31, .istore 7, 2)) k_Mo_sum 17 rfl
theorem d_Mo_sum_33 : decode y_Mo_sum.2.2.1 33 = .ok (.aload_n 0, 1) := mj_d (q := (33, .aload_n 0, 1)) k_Mo_sum 18 rfl
theorem d_Mo_sum_34 : decode y_Mo_sum.2.2.1 34 = .ok (.iload_n 2, 1) := mj_d (q := (34, .iload_n 2, 1)) k_Mo_sum 19 rfl
theorem d_Mo_sum_35 : decode y_Mo_sum.2.2.1 35 = .ok (.invokevirtual 130, 3) := mj_d (q := (35, .invokevirtual 130, 3)) k_Mo_sum 20 rfl
theorem d_Mo_sum_38 : decode y_Mo_sum.2.2.1 38 = .ok (.iload 7, 2) := mj_d (q := (38, .iload 7, 2)) k_Mo_sum 21 rfl
theorem d_Mo_sum_40 : decode y_Mo_sum.2.2.1 40 = .ok (.ifCond .eq 72, 3) := mj_d (q := (40, .ifCond .eq 72, 3)) k_Mo_sum 22 rfl
theorem d_Mo_sum_43 : decode y_Mo_sum.2.2.1 43 = .ok (.aload_n 0, 1) := mj_d (q := (43, .aload_n 0, 1)) k_Mo_sum 23 rfl
theorem d_Mo_sum_44 : decode y_Mo_sum.2.2.1 44 = .ok (.iload 6, 2) := mj_d (q := (44, .iload 6, 2)) k_Mo_sum 24 rfl
theorem d_Mo_sum_46 : decode y_Mo_sum.2.2.1 46 = .ok (.iload_n 2, 1) := mj_d (q := (46, .iload_n 2, 1)) k_Mo_sum 25 rfl
theorem d_Mo_sum_47 : decode y_Mo_sum.2.2.1 47 = .ok (.iload_n 3, 1) := mj_d (q := (47, .iload_n 3, 1)) k_Mo_sum 26 rfl
theorem d_Mo_sum_48 : decode y_Mo_sum.2.2.1 48 = .ok (.invokevirtual 133, 3) := mj_d (q := (48, .invokevirtual 133, 3)) k_Mo_sum 27 rfl
theorem d_Mo_sum_51 : decode y_Mo_sum.2.2.1 51 = .ok (.ifCond .eq 49, 3) := mj_d (q := (51, .ifCond .eq 49, 3)) k_Mo_sum 28 rfl
theorem d_Mo_sum_54 : decode y_Mo_sum.2.2.1 54 = .ok (.aload_n 0, 1) := mj_d (q := (54, .aload_n 0, 1)) k_Mo_sum 29 rfl
theorem d_Mo_sum_55 : decode y_Mo_sum.2.2.1 55 = .ok (.iload 6, 2) := mj_d (q := (55, .iload 6, 2)) k_Mo_sum 30 rfl
theorem d_Mo_sum_57 : decode y_Mo_sum.2.2.1 57 = .ok (.iload_n 2, 1) := mj_d (q := (57, .iload_n 2, 1)) k_Mo_sum 31 rfl
theorem d_Mo_sum_58 : decode y_Mo_sum.2.2.1 58 = .ok (.iload_n 3, 1) := mj_d (q := (58, .iload_n 3, 1)) k_Mo_sum 32 rfl
theorem d_Mo_sum_59 : decode y_Mo_sum.2.2.1 59 = .ok (.invokevirtual 151, 3) := mj_d (q := (59, .invokevirtual 151, 3)) k_Mo_sum 33 rfl
theorem d_Mo_sum_62 : decode y_Mo_sum.2.2.1 62 = .ok (.lstore 8, 2) := mj_d (q := (62, .lstore 8, 2)) k_Mo_sum 34 rfl
theorem d_Mo_sum_64 : decode y_Mo_sum.2.2.1 64 = .ok (.lload 8, 2) := mj_d (q := (64, .lload 8, 2)) k_Mo_sum 35 rfl
theorem d_Mo_sum_66 : decode y_Mo_sum.2.2.1 66 = .ok (.lconst 0, 1) := mj_d (q := (66, .lconst 0, 1)) k_Mo_sum 36 rfl
theorem d_Mo_sum_67 : decode y_Mo_sum.2.2.1 67 = .ok (.lcmp, 1) := mj_d (q := (67, .lcmp, 1)) k_Mo_sum 37 rfl
theorem d_Mo_sum_68 : decode y_Mo_sum.2.2.1 68 = .ok (.ifCond .ge 7, 3) := mj_d (q := (68, .ifCond .ge 7, 3)) k_Mo_sum 38 rfl
theorem d_Mo_sum_71 : decode y_Mo_sum.2.2.1 71 = .ok (.ldc2_w 145, 3) := mj_d (q := (71, .ldc2_w 145, 3)) k_Mo_sum 39 rfl
theorem d_Mo_sum_74 : decode y_Mo_sum.2.2.1 74 = .ok (.lreturn, 1) := mj_d (q := (74, .lreturn, 1)) k_Mo_sum 40 rfl
theorem d_Mo_sum_75 : decode y_Mo_sum.2.2.1 75 = .ok (.lload 4, 2) := mj_d (q := (75, .lload 4, 2)) k_Mo_sum 41 rfl
theorem d_Mo_sum_77 : decode y_Mo_sum.2.2.1 77 = .ok (.lload 8, 2) := mj_d (q := (77, .lload 8, 2)) k_Mo_sum 42 rfl
theorem d_Mo_sum_79 : decode y_Mo_sum.2.2.1 79 = .ok (.ladd, 1) := mj_d (q := (79, .ladd, 1)) k_Mo_sum 43 rfl
theorem d_Mo_sum_80 : decode y_Mo_sum.2.2.1 80 = .ok (.ldc2_w 143, 3) := mj_d (q := (80, .ldc2_w 143, 3)) k_Mo_sum 44 rfl
theorem d_Mo_sum_83 : decode y_Mo_sum.2.2.1 83 = .ok (.lcmp, 1) := mj_d (q := (83, .lcmp, 1)) k_Mo_sum 45 rfl
theorem d_Mo_sum_84 : decode y_Mo_sum.2.2.1 84 = .ok (.ifCond .le 9, 3) := mj_d (q := (84, .ifCond .le 9, 3)) k_Mo_sum 46 rfl
theorem d_Mo_sum_87 : decode y_Mo_sum.2.2.1 87 = .ok (.ldc2_w 143, 3) := mj_d (q := (87, .ldc2_w 143, 3)) k_Mo_sum 47 rfl
theorem d_Mo_sum_90 : decode y_Mo_sum.2.2.1 90 = .ok (.goto 8, 3) := mj_d (q := (90, .goto 8, 3)) k_Mo_sum 48 rfl
theorem d_Mo_sum_93 : decode y_Mo_sum.2.2.1 93 = .ok (.lload 4, 2) := mj_d (q := (93, .lload 4, 2)) k_Mo_sum 49 rfl
theorem d_Mo_sum_95 : decode y_Mo_sum.2.2.1 95 = .ok (.lload 8, 2) := mj_d (q := (95, .lload 8, 2)) k_Mo_sum 50 rfl
theorem d_Mo_sum_97 : decode y_Mo_sum.2.2.1 97 = .ok (.ladd, 1) := mj_d (q := (97, .ladd, 1)) k_Mo_sum 51 rfl
theorem d_Mo_sum_98 : decode y_Mo_sum.2.2.1 98 = .ok (.lstore 4, 2) := mj_d (q := (98, .lstore 4, 2)) k_Mo_sum 52 rfl
theorem d_Mo_sum_100 : decode y_Mo_sum.2.2.1 100 = .ok (.aload_n 0, 1) := mj_d (q := (100, .aload_n 0, 1)) k_Mo_sum 53 rfl
theorem d_Mo_sum_101 : decode y_Mo_sum.2.2.1 101 = .ok (.iload 6, 2) := mj_d (q := (101, .iload 6, 2)) k_Mo_sum 54 rfl
theorem d_Mo_sum_103 : decode y_Mo_sum.2.2.1 103 = .ok (.iload_n 3, 1) := mj_d (q := (103, .iload_n 3, 1)) k_Mo_sum 55 rfl
theorem d_Mo_sum_104 : decode y_Mo_sum.2.2.1 104 = .ok (.invokevirtual 136, 3) := mj_d (q := (104, .invokevirtual 136, 3)) k_Mo_sum 56 rfl
theorem d_Mo_sum_107 : decode y_Mo_sum.2.2.1 107 = .ok (.istore 7, 2) := mj_d (q := (107, .istore 7, 2)) k_Mo_sum 57 rfl
theorem d_Mo_sum_109 : decode y_Mo_sum.2.2.1 109 = .ok (.goto (-71), 3) := mj_d (q := (109, .goto (-71), 3)) k_Mo_sum 58 rfl
theorem d_Mo_sum_112 : decode y_Mo_sum.2.2.1 112 = .ok (.iinc 6 1, 3) := mj_d (q := (112, .iinc 6 1, 3)) k_Mo_sum 59 rfl
theorem d_Mo_sum_115 : decode y_Mo_sum.2.2.1 115 = .ok (.goto (-109), 3) := mj_d (q := (115, .goto (-109), 3)) k_Mo_sum 60 rfl
theorem d_Mo_sum_118 : decode y_Mo_sum.2.2.1 118 = .ok (.lload 4, 2) := mj_d (q := (118, .lload 4, 2)) k_Mo_sum 61 rfl
theorem d_Mo_sum_120 : decode y_Mo_sum.2.2.1 120 = .ok (.lreturn, 1) := mj_d (q := (120, .lreturn, 1)) k_Mo_sum 62 rfl
theorem d_Mo_byWay_0 : decode y_Mo_byWay.2.2.1 0 = .ok (.lconst 1, 1) := mj_d (q := (0, .lconst 1, 1)) k_Mo_byWay 0 rfl
theorem d_Mo_byWay_1 : decode y_Mo_byWay.2.2.1 1 = .ok (.lstore 4, 2) := mj_d (q := (1, .lstore 4, 2)) k_Mo_byWay 1 rfl
theorem d_Mo_byWay_3 : decode y_Mo_byWay.2.2.1 3 = .ok (.iconst 0, 1) := mj_d (q := (3, .iconst 0, 1)) k_Mo_byWay 2 rfl
theorem d_Mo_byWay_4 : decode y_Mo_byWay.2.2.1 4 = .ok (.istore 6, 2) := mj_d (q := (4, .istore 6, 2)) k_Mo_byWay 3 rfl
theorem d_Mo_byWay_6 : decode y_Mo_byWay.2.2.1 6 = .ok (.iload 6, 2) := mj_d (q := (6, .iload 6, 2)) k_Mo_byWay 4 rfl
theorem d_Mo_byWay_8 : decode y_Mo_byWay.2.2.1 8 = .ok (.aload_n 0, 1) := mj_d (q := (8, .aload_n 0, 1)) k_Mo_byWay 5 rfl
theorem d_Mo_byWay_9 : decode y_Mo_byWay.2.2.1 9 = .ok (.getfield 13, 3) := mj_d (q := (9, .getfield 13, 3)) k_Mo_byWay 6 rfl
theorem d_Mo_byWay_12 : decode y_Mo_byWay.2.2.1 12 = .ok (.iload_n 1, 1) := mj_d (q := (12, .iload_n 1, 1)) k_Mo_byWay 7 rfl
theorem d_Mo_byWay_13 : decode y_Mo_byWay.2.2.1 13 = .ok (.iaload, 1) := mj_d (q := (13, .iaload, 1)) k_Mo_byWay 8 rfl
theorem d_Mo_byWay_14 : decode y_Mo_byWay.2.2.1 14 = .ok (.if_icmp .ge 107, 3) := mj_d (q := (14, .if_icmp .ge 107, 3)) k_Mo_byWay 9 rfl
theorem d_Mo_byWay_17 : decode y_Mo_byWay.2.2.1 17 = .ok (.aload_n 0, 1) := mj_d (q := (17, .aload_n 0, 1)) k_Mo_byWay 10 rfl
theorem d_Mo_byWay_18 : decode y_Mo_byWay.2.2.1 18 = .ok (.getfield 16, 3) := mj_d (q := (18, .getfield 16, 3)) k_Mo_byWay 11 rfl
theorem d_Mo_byWay_21 : decode y_Mo_byWay.2.2.1 21 = .ok (.iconst 3, 1) := mj_d (q := (21, .iconst 3, 1)) k_Mo_byWay 12 rfl
theorem d_Mo_byWay_22 : decode y_Mo_byWay.2.2.1 22 = .ok (.iload_n 1, 1) := mj_d (q := (22, .iload_n 1, 1)) k_Mo_byWay 13 rfl
theorem d_Mo_byWay_23 : decode y_Mo_byWay.2.2.1 23 = .ok (.imul, 1) := mj_d (q := (23, .imul, 1)) k_Mo_byWay 14 rfl
theorem d_Mo_byWay_24 : decode y_Mo_byWay.2.2.1 24 = .ok (.iload 6, 2) := mj_d (q := (24, .iload 6, 2)) k_Mo_byWay 15 rfl
theorem d_Mo_byWay_26 : decode y_Mo_byWay.2.2.1 26 = .ok (.iadd, 1) := mj_d (q := (26, .iadd, 1)) k_Mo_byWay 16 rfl
theorem d_Mo_byWay_27 : decode y_Mo_byWay.2.2.1 27 = .ok (.iaload, 1) := mj_d (q := (27, .iaload, 1)) k_Mo_byWay 17 rfl
theorem d_Mo_byWay_28 : decode y_Mo_byWay.2.2.1 28 = .ok (.istore 7, 2) := mj_d (q := (28, .istore 7, 2)) k_Mo_byWay 18 rfl
theorem d_Mo_byWay_30 : decode y_Mo_byWay.2.2.1 30 = .ok (.aload_n 0, 1) := mj_d (q := (30, .aload_n 0, 1)) k_Mo_byWay 19 rfl
theorem d_Mo_byWay_31 : decode y_Mo_byWay.2.2.1 31 = .ok (.iload_n 1, 1) := mj_d (q := (31, .iload_n 1, 1)) k_Mo_byWay 20 rfl
theorem d_Mo_byWay_32 : decode y_Mo_byWay.2.2.1 32 = .ok (.iload 6, 2) := mj_d (q := (32, .iload 6, 2)) k_Mo_byWay 21 rfl
theorem d_Mo_byWay_34 : decode y_Mo_byWay.2.2.1 34 = .ok (.iload_n 2, 1) := mj_d (q := (34, .iload_n 2, 1)) k_Mo_byWay 22 rfl
theorem d_Mo_byWay_35 : decode y_Mo_byWay.2.2.1 35 = .ok (.iload_n 3, 1) := mj_d (q := (35, .iload_n 3, 1)) k_Mo_byWay 23 rfl
theorem d_Mo_byWay_36 : decode y_Mo_byWay.2.2.1 36 = .ok (.invokevirtual 123, 3) := mj_d (q := (36, .invokevirtual 123, 3)) k_Mo_byWay 24 rfl
theorem d_Mo_byWay_39 : decode y_Mo_byWay.2.2.1 39 = .ok (.istore 8, 2) := mj_d (q := (39, .istore 8, 2)) k_Mo_byWay 25 rfl
theorem d_Mo_byWay_41 : decode y_Mo_byWay.2.2.1 41 = .ok (.aload_n 0, 1) := mj_d (q := (41, .aload_n 0, 1)) k_Mo_byWay 26 rfl
theorem d_Mo_byWay_42 : decode y_Mo_byWay.2.2.1 42 = .ok (.iload_n 1, 1) := mj_d (q := (42, .iload_n 1, 1)) k_Mo_byWay 27 rfl
theorem d_Mo_byWay_43 : decode y_Mo_byWay.2.2.1 43 = .ok (.iload 6, 2) := mj_d (q := (43, .iload 6, 2)) k_Mo_byWay 28 rfl
theorem d_Mo_byWay_45 : decode y_Mo_byWay.2.2.1 45 = .ok (.iconst 1, 1) := mj_d (q := (45, .iconst 1, 1)) k_Mo_byWay 29 rfl
theorem d_Mo_byWay_46 : decode y_Mo_byWay.2.2.1 46 = .ok (.iadd, 1) := mj_d (q := (46, .iadd, 1)) k_Mo_byWay 30 rfl
theorem d_Mo_byWay_47 : decode y_Mo_byWay.2.2.1 47 = .ok (.iload_n 2, 1) := mj_d (q := (47, .iload_n 2, 1)) k_Mo_byWay 31 rfl
theorem d_Mo_byWay_48 : decode y_Mo_byWay.2.2.1 48 = .ok (.iload_n 3, 1) := mj_d (q := (48, .iload_n 3, 1)) k_Mo_byWay 32 rfl
theorem d_Mo_byWay_49 : decode y_Mo_byWay.2.2.1 49 = .ok (.invokevirtual 123, 3) := mj_d (q := (49, .invokevirtual 123, 3)) k_Mo_byWay 33 rfl
theorem d_Mo_byWay_52 : decode y_Mo_byWay.2.2.1 52 = .ok (.istore 9, 2) := mj_d (q := (52, .istore 9, 2)) k_Mo_byWay 34 rfl
theorem d_Mo_byWay_54 : decode y_Mo_byWay.2.2.1 54 = .ok (.iload 7, 2) := mj_d (q := (54, .iload 7, 2)) k_Mo_byWay 35 rfl
theorem d_Mo_byWay_56 : decode y_Mo_byWay.2.2.1 56 = .ok (.bipush 8, 2) := mj_d (q := (56, .bipush 8, 2)) k_Mo_byWay 36 rfl
theorem d_Mo_byWay_58 : decode y_Mo_byWay.2.2.1 58 = .ok (.if_icmp .ge 24, 3) := mj_d (q := (58, .if_icmp .ge 24, 3)) k_Mo_byWay 37 rfl
theorem d_Mo_byWay_61 : decode y_Mo_byWay.2.2.1 61 = .ok (.aload_n 0, 1) := mj_d (q := (61, .aload_n 0, 1)) k_Mo_byWay 38 rfl
theorem d_Mo_byWay_62 : decode y_Mo_byWay.2.2.1 62 = .ok (.getfield 29, 3) := mj_d (q := (62, .getfield 29, 3)) k_Mo_byWay 39 rfl
theorem d_Mo_byWay_65 : decode y_Mo_byWay.2.2.1 65 = .ok (.iload 7, 2) := mj_d (q := (65, .iload 7, 2)) k_Mo_byWay 40 rfl
theorem d_Mo_byWay_67 : decode y_Mo_byWay.2.2.1 67 = .ok (.iload 8, 2) := mj_d (q := (67, .iload 8, 2)) k_Mo_byWay 41 rfl
theorem d_Mo_byWay_69 : decode y_Mo_byWay.2.2.1 69 = .ok (.iload 9, 2) := mj_d (q := (69, .iload 9, 2)) k_Mo_byWay 42 rfl
theorem d_Mo_byWay_71 : decode y_Mo_byWay.2.2.1 71 = .ok (.invokestatic 113, 3) := mj_d (q := (71, .invokestatic 113, 3)) k_Mo_byWay 43 rfl
theorem d_Mo_byWay_74 : decode y_Mo_byWay.2.2.1 74 = .ok (.baload, 1) := mj_d (q := (74, .baload, 1)) k_Mo_byWay 44 rfl
theorem d_Mo_byWay_75 : decode y_Mo_byWay.2.2.1 75 = .ok (.ifCond .ne 7, 3) := mj_d (q := (75, .ifCond .ne 7, 3)) k_Mo_byWay 45 rfl
theorem d_Mo_byWay_78 : decode y_Mo_byWay.2.2.1 78 = .ok (.ldc2_w 145, 3) := mj_d (q := (78, .ldc2_w 145, 3)) k_Mo_byWay 46 rfl
theorem d_Mo_byWay_81 : decode y_Mo_byWay.2.2.1 81 = .ok (.lreturn, 1) := mj_d (q := (81, .lreturn, 1)) k_Mo_byWay 47 rfl
theorem d_Mo_byWay_82 : decode y_Mo_byWay.2.2.1 82 = .ok (.iload 7, 2) := mj_d (q := (82, .iload 7, 2)) k_Mo_byWay 48 rfl
theorem d_Mo_byWay_84 : decode y_Mo_byWay.2.2.1 84 = .ok (.bipush 8, 2) := mj_d (q := (84, .bipush 8, 2)) k_Mo_byWay 49 rfl
theorem d_Mo_byWay_86 : decode y_Mo_byWay.2.2.1 86 = .ok (.if_icmp .ge 25, 3) := mj_d (q := (86, .if_icmp .ge 25, 3)) k_Mo_byWay 50 rfl
theorem d_Mo_byWay_89 : decode y_Mo_byWay.2.2.1 89 = .ok (.lload 4, 2) := mj_d (q := (89, .lload 4, 2)) k_Mo_byWay 51 rfl
theorem d_Mo_byWay_91 : decode y_Mo_byWay.2.2.1 91 = .ok (.aload_n 0, 1) := mj_d (q := (91, .aload_n 0, 1)) k_Mo_byWay 52 rfl
theorem d_Mo_byWay_92 : decode y_Mo_byWay.2.2.1 92 = .ok (.getfield 32, 3) := mj_d (q := (92, .getfield 32, 3)) k_Mo_byWay 53 rfl
theorem d_Mo_byWay_95 : decode y_Mo_byWay.2.2.1 95 = .ok (.iload 7, 2) := mj_d (q := (95, .iload 7, 2)) k_Mo_byWay 54 rfl
theorem d_Mo_byWay_97 : decode y_Mo_byWay.2.2.1 97 = .ok (.iload 8, 2) := mj_d (q := (97, .iload 8, 2)) k_Mo_byWay 55 rfl
theorem d_Mo_byWay_99 : decode y_Mo_byWay.2.2.1 99 = .ok (.iload 9, 2) := mj_d (q := (99, .iload 9, 2)) k_Mo_byWay 56 rfl
theorem d_Mo_byWay_101 : decode y_Mo_byWay.2.2.1 101 = .ok (.invokestatic 113, 3) := mj_d (q := (101, .invokestatic 113, 3)) k_Mo_byWay 57 rfl
theorem d_Mo_byWay_104 : decode y_Mo_byWay.2.2.1 104 = .ok (.laload, 1) := mj_d (q := (104, .laload, 1)) k_Mo_byWay 58 rfl
theorem d_Mo_byWay_105 : decode y_Mo_byWay.2.2.1 105 = .ok (.invokestatic 147, 3) := mj_d (q := (105, .invokestatic 147, 3)) k_Mo_byWay 59 rfl
theorem d_Mo_byWay_108 : decode y_Mo_byWay.2.2.1 108 = .ok (.goto 5, 3) := mj_d (q := (108, .goto 5, 3)) k_Mo_byWay 60 rfl
theorem d_Mo_byWay_111 : decode y_Mo_byWay.2.2.1 111 = .ok (.lload 4, 2) := mj_d (q := (111, .lload 4, 2)) k_Mo_byWay 61 rfl
theorem d_Mo_byWay_113 : decode y_Mo_byWay.2.2.1 113 = .ok (.lstore 4, 2) := mj_d (q := (113, .lstore 4, 2)) k_Mo_byWay 62 rfl
theorem d_Mo_byWay_115 : decode y_Mo_byWay.2.2.1 115 = .ok (.iinc 6 1, 3) := mj_d (q := (115, .iinc 6 1, 3)) k_Mo_byWay 63 rfl
theorem d_Mo_byWay_118 : decode y_Mo_byWay.2.2.1 118 = .ok (.goto (-112), 3) := mj_d (q := (118, .goto (-112), 3)) k_Mo_byWay 64 rfl
theorem d_Mo_byWay_121 : decode y_Mo_byWay.2.2.1 121 = .ok (.lload 4, 2) := mj_d (q := (121, .lload 4, 2)) k_Mo_byWay 65 rfl
theorem d_Mo_byWay_123 : decode y_Mo_byWay.2.2.1 123 = .ok (.lreturn, 1) := mj_d (q := (123, .lreturn, 1)) k_Mo_byWay 66 rfl
theorem d_Mo_times_0 : decode y_Mo_times.2.2.1 0 = .ok (.lload_n 0, 1) := mj_d (q := (0, .lload_n 0, 1)) k_Mo_times 0 rfl
theorem d_Mo_times_1 : decode y_Mo_times.2.2.1 1 = .ok (.lconst 0, 1) := mj_d (q := (1, .lconst 0, 1)) k_Mo_times 1 rfl
theorem d_Mo_times_2 : decode y_Mo_times.2.2.1 2 = .ok (.lcmp, 1) := mj_d (q := (2, .lcmp, 1)) k_Mo_times 2 rfl
theorem d_Mo_times_3 : decode y_Mo_times.2.2.1 3 = .ok (.ifCond .eq 9, 3) := mj_d (q := (3, .ifCond .eq 9, 3)) k_Mo_times 3 rfl
theorem d_Mo_times_6 : decode y_Mo_times.2.2.1 6 = .ok (.lload_n 2, 1) := mj_d (q := (6, .lload_n 2, 1)) k_Mo_times 4 rfl
theorem d_Mo_times_7 : decode y_Mo_times.2.2.1 7 = .ok (.lconst 0, 1) := mj_d (q := (7, .lconst 0, 1)) k_Mo_times 5 rfl
theorem d_Mo_times_8 : decode y_Mo_times.2.2.1 8 = .ok (.lcmp, 1) := mj_d (q := (8, .lcmp, 1)) k_Mo_times 6 rfl
theorem d_Mo_times_9 : decode y_Mo_times.2.2.1 9 = .ok (.ifCond .ne 5, 3) := mj_d (q := (9, .ifCond .ne 5, 3)) k_Mo_times 7 rfl
theorem d_Mo_times_12 : decode y_Mo_times.2.2.1 12 = .ok (.lconst 0, 1) := mj_d (q := (12, .lconst 0, 1)) k_Mo_times 8 rfl
theorem d_Mo_times_13 : decode y_Mo_times.2.2.1 13 = .ok (.lreturn, 1) := mj_d (q := (13, .lreturn, 1)) k_Mo_times 9 rfl
theorem d_Mo_times_14 : decode y_Mo_times.2.2.1 14 = .ok (.lload_n 2, 1) := mj_d (q := (14, .lload_n 2, 1)) k_Mo_times 10 rfl
theorem d_Mo_times_15 : decode y_Mo_times.2.2.1 15 = .ok (.ldc2_w 143, 3) := mj_d (q := (15, .ldc2_w 143, 3)) k_Mo_times 11 rfl
theorem d_Mo_times_18 : decode y_Mo_times.2.2.1 18 = .ok (.lload_n 0, 1) := mj_d (q := (18, .lload_n 0, 1)) k_Mo_times 12 rfl
theorem d_Mo_times_19 : decode y_Mo_times.2.2.1 19 = .ok (.ladd, 1) := mj_d (q := (19, .ladd, 1)) k_Mo_times 13 rfl
theorem d_Mo_times_20 : decode y_Mo_times.2.2.1 20 = .ok (.lconst 1, 1) := mj_d (q := (20, .lconst 1, 1)) k_Mo_times 14 rfl
theorem d_Mo_times_21 : decode y_Mo_times.2.2.1 21 = .ok (.lsub, 1) := mj_d (q := (21, .lsub, 1)) k_Mo_times 15 rfl
theorem d_Mo_times_22 : decode y_Mo_times.2.2.1 22 = .ok (.lload_n 0, 1) := mj_d (q := (22, .lload_n 0, 1)) k_Mo_times 16 rfl
theorem d_Mo_times_23 : decode y_Mo_times.2.2.1 23 = .ok (.ldiv, 1) := mj_d (q := (23, .ldiv, 1)) k_Mo_times 17 rfl
theorem d_Mo_times_24 : decode y_Mo_times.2.2.1 24 = .ok (.lcmp, 1) := mj_d (q := (24, .lcmp, 1)) k_Mo_times 18 rfl
theorem d_Mo_times_25 : decode y_Mo_times.2.2.1 25 = .ok (.ifCond .lt 9, 3) := mj_d (q := (25, .ifCond .lt 9, 3)) k_Mo_times 19 rfl
theorem d_Mo_times_28 : decode y_Mo_times.2.2.1 28 = .ok (.ldc2_w 143, 3) := mj_d (q := (28, .ldc2_w 143, 3)) k_Mo_times 20 rfl
theorem d_Mo_times_31 : decode y_Mo_times.2.2.1 31 = .ok (.goto 6, 3) := mj_d (q := (31, .goto 6, 3)) k_Mo_times 21 rfl
theorem d_Mo_times_34 : decode y_Mo_times.2.2.1 34 = .ok (.lload_n 0, 1) := mj_d (q := (34, .lload_n 0, 1)) k_Mo_times 22 rfl
theorem d_Mo_times_35 : decode y_Mo_times.2.2.1 35 = .ok (.lload_n 2, 1) := mj_d (q := (35, .lload_n 2, 1)) k_Mo_times 23 rfl
theorem d_Mo_times_36 : decode y_Mo_times.2.2.1 36 = .ok (.lmul, 1) := mj_d (q := (36, .lmul, 1)) k_Mo_times 24 rfl
theorem d_Mo_times_37 : decode y_Mo_times.2.2.1 37 = .ok (.lreturn, 1) := mj_d (q := (37, .lreturn, 1)) k_Mo_times 25 rfl
theorem d_Mo_trees_0 : decode y_Mo_trees.2.2.1 0 = .ok (.aload_n 0, 1) := mj_d (q := (0, .aload_n 0, 1)) k_Mo_trees 0 rfl
theorem d_Mo_trees_1 : decode y_Mo_trees.2.2.1 1 = .ok (.iconst 0, 1) := mj_d (q := (1, .iconst 0, 1)) k_Mo_trees 1 rfl
theorem d_Mo_trees_2 : decode y_Mo_trees.2.2.1 2 = .ok (.putfield 53, 3) := mj_d (q := (2, .putfield 53, 3)) k_Mo_trees 2 rfl
theorem d_Mo_trees_5 : decode y_Mo_trees.2.2.1 5 = .ok (.aload_n 0, 1) := mj_d (q := (5, .aload_n 0, 1)) k_Mo_trees 3 rfl
theorem d_Mo_trees_6 : decode y_Mo_trees.2.2.1 6 = .ok (.iload_n 1, 1) := mj_d (q := (6, .iload_n 1, 1)) k_Mo_trees 4 rfl
theorem d_Mo_trees_7 : decode y_Mo_trees.2.2.1 7 = .ok (.iload_n 2, 1) := mj_d (q := (7, .iload_n 2, 1)) k_Mo_trees 5 rfl
theorem d_Mo_trees_8 : decode y_Mo_trees.2.2.1 8 = .ok (.iload_n 3, 1) := mj_d (q := (8, .iload_n 3, 1)) k_Mo_trees 6 rfl
theorem d_Mo_trees_9 : decode y_Mo_trees.2.2.1 9 = .ok (.invokevirtual 161, 3) := mj_d (q := (9, .invokevirtual 161, 3)) k_Mo_trees 7 rfl
theorem d_Mo_trees_12 : decode y_Mo_trees.2.2.1 12 = .ok (.ifCond .ne 10, 3) := mj_d (q := (12, .ifCond .ne 10, 3)) k_Mo_trees 8 rfl
theorem d_Mo_trees_15 : decode y_Mo_trees.2.2.1 15 = .ok (.aload_n 0, 1) := mj_d (q := (15, .aload_n 0, 1)) k_Mo_trees 9 rfl
theorem d_Mo_trees_16 : decode y_Mo_trees.2.2.1 16 = .ok (.iconst 1, 1) := mj_d (q := (16, .iconst 1, 1)) k_Mo_trees 10 rfl
theorem d_Mo_trees_17 : decode y_Mo_trees.2.2.1 17 = .ok (.putfield 53, 3) := mj_d (q := (17, .putfield 53, 3)) k_Mo_trees 11 rfl
theorem d_Mo_trees_20 : decode y_Mo_trees.2.2.1 20 = .ok (.lconst 0, 1) := mj_d (q := (20, .lconst 0, 1)) k_Mo_trees 12 rfl
theorem d_Mo_trees_21 : decode y_Mo_trees.2.2.1 21 = .ok (.lreturn, 1) := mj_d (q := (21, .lreturn, 1)) k_Mo_trees 13 rfl
theorem d_Mo_trees_22 : decode y_Mo_trees.2.2.1 22 = .ok (.aload_n 0, 1) := mj_d (q := (22, .aload_n 0, 1)) k_Mo_trees 14 rfl
theorem d_Mo_trees_23 : decode y_Mo_trees.2.2.1 23 = .ok (.invokevirtual 164, 3) := mj_d (q := (23, .invokevirtual 164, 3)) k_Mo_trees 15 rfl
theorem d_Mo_trees_26 : decode y_Mo_trees.2.2.1 26 = .ok (.aload_n 0, 1) := mj_d (q := (26, .aload_n 0, 1)) k_Mo_trees 16 rfl
theorem d_Mo_trees_27 : decode y_Mo_trees.2.2.1 27 = .ok (.iload_n 1, 1) := mj_d (q := (27, .iload_n 1, 1)) k_Mo_trees 17 rfl
theorem d_Mo_trees_28 : decode y_Mo_trees.2.2.1 28 = .ok (.iload_n 2, 1) := mj_d (q := (28, .iload_n 2, 1)) k_Mo_trees 18 rfl
theorem d_Mo_trees_29 : decode y_Mo_trees.2.2.1 29 = .ok (.iload_n 3, 1) := mj_d (q := (29, .iload_n 3, 1)) k_Mo_trees 19 rfl
theorem d_Mo_trees_30 : decode y_Mo_trees.2.2.1 30 = .ok (.invokevirtual 167, 3) := mj_d (q := (30, .invokevirtual 167, 3)) k_Mo_trees 20 rfl
theorem d_Mo_trees_33 : decode y_Mo_trees.2.2.1 33 = .ok (.lreturn, 1) := mj_d (q := (33, .lreturn, 1)) k_Mo_trees 21 rfl
theorem d_Mo_treesOf_0 : decode y_Mo_treesOf.2.2.1 0 = .ok (.iload_n 1, 1) := mj_d (q := (0, .iload_n 1, 1)) k_Mo_treesOf 0 rfl
theorem d_Mo_treesOf_1 : decode y_Mo_treesOf.2.2.1 1 = .ok (.iload_n 2, 1) := mj_d (q := (1, .iload_n 2, 1)) k_Mo_treesOf 1 rfl
theorem d_Mo_treesOf_2 : decode y_Mo_treesOf.2.2.1 2 = .ok (.iload_n 3, 1) := mj_d (q := (2, .iload_n 3, 1)) k_Mo_treesOf 2 rfl
theorem d_Mo_treesOf_3 : decode y_Mo_treesOf.2.2.1 3 = .ok (.invokestatic 113, 3) := mj_d (q := (3, .invokestatic 113, 3)) k_Mo_treesOf 3 rfl
theorem d_Mo_treesOf_6 : decode y_Mo_treesOf.2.2.1 6 = .ok (.istore 4, 2) := mj_d (q := (6, .istore 4, 2)) k_Mo_treesOf 4 rfl
theorem d_Mo_treesOf_8 : decode y_Mo_treesOf.2.2.1 8 = .ok (.aload_n 0, 1) := mj_d (q := (8, .aload_n 0, 1)) k_Mo_treesOf 5 rfl
theorem d_Mo_treesOf_9 : decode y_Mo_treesOf.2.2.1 9 = .ok (.getfield 29, 3) := mj_d (q := (9, .getfield 29, 3)) k_Mo_treesOf 6 rfl
theorem d_Mo_treesOf_12 : decode y_Mo_treesOf.2.2.1 12 = .ok (.iload 4, 2) := mj_d (q := (12, .iload 4, 2)) k_Mo_treesOf 7 rfl
theorem d_Mo_treesOf_14 : decode y_Mo_treesOf.2.2.1 14 = .ok (.baload, 1) := mj_d (q := (14, .baload, 1)) k_Mo_treesOf 8 rfl
theorem d_Mo_treesOf_15 : decode y_Mo_treesOf.2.2.1 15 = .ok (.ifCond .eq 13, 3) := mj_d (q := (15, .ifCond .eq 13, 3)) k_Mo_treesOf 9 rfl
theorem d_Mo_treesOf_18 : decode y_Mo_treesOf.2.2.1 18 = .ok (.aload_n 0, 1) := mj_d (q := (18, .aload_n 0, 1)) k_Mo_treesOf 10 rfl
theorem d_Mo_treesOf_19 : decode y_Mo_treesOf.2.2.1 19 = .ok (.getfield 32, 3) := mj_d (q := (19, .getfield 32, 3)) k_Mo_treesOf 11 rfl
theorem d_Mo_treesOf_22 : decode y_Mo_treesOf.2.2.1 22 = .ok (.iload 4, 2) := mj_d (q := (22, .iload 4, 2)) k_Mo_treesOf 12 rfl
theorem d_Mo_treesOf_24 : decode y_Mo_treesOf.2.2.1 24 = .ok (.laload, 1) := mj_d (q := (24, .laload, 1)) k_Mo_treesOf 13 rfl
theorem d_Mo_treesOf_25 : decode y_Mo_treesOf.2.2.1 25 = .ok (.goto 6, 3) := mj_d (q := (25, .goto 6, 3)) k_Mo_treesOf 14 rfl
theorem d_Mo_treesOf_28 : decode y_Mo_treesOf.2.2.1 28 = .ok (.ldc2_w 145, 3) := mj_d (q := (28, .ldc2_w 145, 3)) k_Mo_treesOf 15 rfl
theorem d_Mo_treesOf_31 : decode y_Mo_treesOf.2.2.1 31 = .ok (.lreturn, 1) := mj_d (q := (31, .lreturn, 1)) k_Mo_treesOf 16 rfl
theorem d_Mo_nodes_0 : decode y_Mo_nodes.2.2.1 0 = .ok (.aload_n 0, 1) := mj_d (q := (0, .aload_n 0, 1)) k_Mo_nodes 0 rfl
theorem d_Mo_nodes_1 : decode y_Mo_nodes.2.2.1 1 = .ok (.iconst 0, 1) := mj_d (q := (1, .iconst 0, 1)) k_Mo_nodes 1 rfl
theorem d_Mo_nodes_2 : decode y_Mo_nodes.2.2.1 2 = .ok (.putfield 53, 3) := mj_d (q := (2, .putfield 53, 3)) k_Mo_nodes 2 rfl
theorem d_Mo_nodes_5 : decode y_Mo_nodes.2.2.1 5 = .ok (.aload_n 0, 1) := mj_d (q := (5, .aload_n 0, 1)) k_Mo_nodes 3 rfl
theorem d_Mo_nodes_6 : decode y_Mo_nodes.2.2.1 6 = .ok (.invokevirtual 164, 3) := mj_d (q := (6, .invokevirtual 164, 3)) k_Mo_nodes 4 rfl
theorem d_Mo_nodes_9 : decode y_Mo_nodes.2.2.1 9 = .ok (.aload_n 0, 1) := mj_d (q := (9, .aload_n 0, 1)) k_Mo_nodes 5 rfl
theorem d_Mo_nodes_10 : decode y_Mo_nodes.2.2.1 10 = .ok (.getfield 26, 3) := mj_d (q := (10, .getfield 26, 3)) k_Mo_nodes 6 rfl
theorem d_Mo_nodes_13 : decode y_Mo_nodes.2.2.1 13 = .ok (.iconst 0, 1) := mj_d (q := (13, .iconst 0, 1)) k_Mo_nodes 7 rfl
theorem d_Mo_nodes_14 : decode y_Mo_nodes.2.2.1 14 = .ok (.iconst 0, 1) := mj_d (q := (14, .iconst 0, 1)) k_Mo_nodes 8 rfl
theorem d_Mo_nodes_15 : decode y_Mo_nodes.2.2.1 15 = .ok (.aload_n 0, 1) := mj_d (q := (15, .aload_n 0, 1)) k_Mo_nodes 9 rfl
theorem d_Mo_nodes_16 : decode y_Mo_nodes.2.2.1 16 = .ok (.getfield 97, 3) := mj_d (q := (16, .getfield 97, 3)) k_Mo_nodes 10 rfl
theorem d_Mo_nodes_19 : decode y_Mo_nodes.2.2.1 19 = .ok (.invokestatic 113, 3) := mj_d (q := (19, .invokestatic 113, 3)) k_Mo_nodes 11 rfl
theorem d_Mo_nodes_22 : decode y_Mo_nodes.2.2.1 22 = .ok (.baload, 1) := mj_d (q := (22, .baload, 1)) k_Mo_nodes 12 rfl
theorem d_Mo_nodes_23 : decode y_Mo_nodes.2.2.1 23 = .ok (.ifCond .ne 5, 3) := mj_d (q := (23, .ifCond .ne 5, 3)) k_Mo_nodes 13 rfl
theorem d_Mo_nodes_26 : decode y_Mo_nodes.2.2.1 26 = .ok (.iconst 0, 1) := mj_d (q := (26, .iconst 0, 1)) k_Mo_nodes 14 rfl
theorem d_Mo_nodes_27 : decode y_Mo_nodes.2.2.1 27 = .ok (.ireturn, 1) := mj_d (q := (27, .ireturn, 1)) k_Mo_nodes 15 rfl
theorem d_Mo_nodes_28 : decode y_Mo_nodes.2.2.1 28 = .ok (.iconst 0, 1) := mj_d (q := (28, .iconst 0, 1)) k_Mo_nodes 16 rfl
theorem d_Mo_nodes_29 : decode y_Mo_nodes.2.2.1 29 = .ok (.istore_n 1, 1) := mj_d (q := (29, .istore_n 1, 1)) k_Mo_nodes 17 rfl
theorem d_Mo_nodes_30 : decode y_Mo_nodes.2.2.1 30 = .ok (.iload_n 1, 1) := mj_d (q := (30, .iload_n 1, 1)) k_Mo_nodes 18 rfl
theorem d_Mo_nodes_31 : decode y_Mo_nodes.2.2.1 31 = .ok (.sipush 845, 3) := mj_d (q := (31, .sipush 845, 3)) k_Mo_nodes 19 rfl
theorem d_Mo_nodes_34 : decode y_Mo_nodes.2.2.1 34 = .ok (.if_icmp .ge 16, 3) := mj_d (q := (34, .if_icmp .ge 16, 3)) k_Mo_nodes 20 rfl
theorem d_Mo_nodes_37 : decode y_Mo_nodes.2.2.1 37 = .ok (.aload_n 0, 1) := mj_d (q := (37, .aload_n 0, 1)) k_Mo_nodes 21 rfl
theorem d_Mo_nodes_38 : decode y_Mo_nodes.2.2.1 38 = .ok (.getfield 36, 3) := mj_d (q := (38, .getfield 36, 3)) k_Mo_nodes 22 rfl
theorem d_Mo_nodes_41 : decode y_Mo_nodes.2.2.1 41 = .ok (.iload_n 1, 1) := mj_d (q := (41, .iload_n 1, 1)) k_Mo_nodes 23 rfl
theorem d_Mo_nodes_42 : decode y_Mo_nodes.2.2.1 42 = .ok (.iconst 0, 1) := mj_d (q := (42, .iconst 0, 1)) k_Mo_nodes 24 rfl
theorem d_Mo_nodes_43 : decode y_Mo_nodes.2.2.1 43 = .ok (.bastore, 1) := mj_d (q := (43, .bastore, 1)) k_Mo_nodes 25 rfl
theorem d_Mo_nodes_44 : decode y_Mo_nodes.2.2.1 44 = .ok (.iinc 1 1, 3) := mj_d (q := (44, .iinc 1 1, 3)) k_Mo_nodes 26 rfl
theorem d_Mo_nodes_47 : decode y_Mo_nodes.2.2.1 47 = .ok (.goto (-17), 3) := mj_d (q := (47, .goto (-17), 3)) k_Mo_nodes 27 rfl
theorem d_Mo_nodes_50 : decode y_Mo_nodes.2.2.1 50 = .ok (.aload_n 0, 1) := mj_d (q := (50, .aload_n 0, 1)) k_Mo_nodes 28 rfl
theorem d_Mo_nodes_51 : decode y_Mo_nodes.2.2.1 51 = .ok (.getfield 36, 3) := mj_d (q := (51, .getfield 36, 3)) k_Mo_nodes 29 rfl
theorem d_Mo_nodes_54 : decode y_Mo_nodes.2.2.1 54 = .ok (.iconst 0, 1) := mj_d (q := (54, .iconst 0, 1)) k_Mo_nodes 30 rfl
theorem d_Mo_nodes_55 : decode y_Mo_nodes.2.2.1 55 = .ok (.iconst 0, 1) := mj_d (q := (55, .iconst 0, 1)) k_Mo_nodes 31 rfl
theorem d_Mo_nodes_56 : decode y_Mo_nodes.2.2.1 56 = .ok (.aload_n 0, 1) := mj_d (q := (56, .aload_n 0, 1)) k_Mo_nodes 32 rfl
theorem d_Mo_nodes_57 : decode y_Mo_nodes.2.2.1 57 = .ok (.getfield 97, 3) := mj_d (q := (57, .getfield 97, 3)) k_Mo_nodes 33 rfl
theorem d_Mo_nodes_60 : decode y_Mo_nodes.2.2.1 60 = .ok (.invokestatic 113, 3) := mj_d (q := (60, .invokestatic 113, 3)) k_Mo_nodes 34 rfl
theorem d_Mo_nodes_63 : decode y_Mo_nodes.2.2.1 63 = .ok (.iconst 1, 1) := mj_d (q := (63, .iconst 1, 1)) k_Mo_nodes 35 rfl
theorem d_Mo_nodes_64 : decode y_Mo_nodes.2.2.1 64 = .ok (.bastore, 1) := mj_d (q := (64, .bastore, 1)) k_Mo_nodes 36 rfl
theorem d_Mo_nodes_65 : decode y_Mo_nodes.2.2.1 65 = .ok (.iconst 1, 1) := mj_d (q := (65, .iconst 1, 1)) k_Mo_nodes 37 rfl
theorem d_Mo_nodes_66 : decode y_Mo_nodes.2.2.1 66 = .ok (.istore_n 1, 1) := mj_d (q := (66, .istore_n 1, 1)) k_Mo_nodes 38 rfl
theorem d_Mo_nodes_67 : decode y_Mo_nodes.2.2.1 67 = .ok (.iload_n 1, 1) := mj_d (q := (67, .iload_n 1, 1)) k_Mo_nodes 39 rfl
theorem d_Mo_nodes_68 : decode y_Mo_nodes.2.2.1 68 = .ok (.ifCond .eq 76, 3) := mj_d (q := (68, .ifCond .eq 76, 3)) k_Mo_nodes 40 rfl
theorem d_Mo_nodes_71 : decode y_Mo_nodes.2.2.1 71 = .ok (.iconst 0, 1) := mj_d (q := (71, .iconst 0, 1)) k_Mo_nodes 41 rfl
theorem d_Mo_nodes_72 : decode y_Mo_nodes.2.2.1 72 = .ok (.istore_n 1, 1) := mj_d (q := (72, .istore_n 1, 1)) k_Mo_nodes 42 rfl
theorem d_Mo_nodes_73 : decode y_Mo_nodes.2.2.1 73 = .ok (.iconst 0, 1) := mj_d (q := (73, .iconst 0, 1)) k_Mo_nodes 43 rfl
theorem d_Mo_nodes_74 : decode y_Mo_nodes.2.2.1 74 = .ok (.istore_n 2, 1) := mj_d (q := (74, .istore_n 2, 1)) k_Mo_nodes 44 rfl
theorem d_Mo_nodes_75 : decode y_Mo_nodes.2.2.1 75 = .ok (.iload_n 2, 1) := mj_d (q := (75, .iload_n 2, 1)) k_Mo_nodes 45 rfl
theorem d_Mo_nodes_76 : decode y_Mo_nodes.2.2.1 76 = .ok (.sipush 845, 3) := mj_d (q := (76, .sipush 845, 3)) k_Mo_nodes 46 rfl
theorem d_Mo_nodes_79 : decode y_Mo_nodes.2.2.1 79 = .ok (.if_icmp .ge 62, 3) := mj_d (q := (79, .if_icmp .ge 62, 3)) k_Mo_nodes 47 rfl
theorem d_Mo_nodes_82 : decode y_Mo_nodes.2.2.1 82 = .ok (.aload_n 0, 1) := mj_d (q := (82, .aload_n 0, 1)) k_Mo_nodes 48 rfl
theorem d_Mo_nodes_83 : decode y_Mo_nodes.2.2.1 83 = .ok (.getfield 36, 3) := mj_d (q := (83, .getfield 36, 3)) k_Mo_nodes 49 rfl
theorem d_Mo_nodes_86 : decode y_Mo_nodes.2.2.1 86 = .ok (.iload_n 2, 1) := mj_d (q := (86, .iload_n 2, 1)) k_Mo_nodes 50 rfl
theorem d_Mo_nodes_87 : decode y_Mo_nodes.2.2.1 87 = .ok (.baload, 1) := mj_d (q := (87, .baload, 1)) k_Mo_nodes 51 rfl
theorem d_Mo_nodes_88 : decode y_Mo_nodes.2.2.1 88 = .ok (.ifCond .eq 31, 3) := mj_d (q := (88, .ifCond .eq 31, 3)) k_Mo_nodes 52 rfl
theorem d_Mo_nodes_91 : decode y_Mo_nodes.2.2.1 91 = .ok (.aload_n 0, 1) := mj_d (q := (91, .aload_n 0, 1)) k_Mo_nodes 53 rfl
theorem d_Mo_nodes_92 : decode y_Mo_nodes.2.2.1 92 = .ok (.iload_n 2, 1) := mj_d (q := (92, .iload_n 2, 1)) k_Mo_nodes 54 rfl
theorem d_Mo_nodes_93 : decode y_Mo_nodes.2.2.1 93 = .ok (.sipush 169, 3) := mj_d (q := (93, .sipush 169, 3)) k_Mo_nodes 55 rfl
theorem d_Mo_nodes_96 : decode y_Mo_nodes.2.2.1 96 = .ok (.idiv, 1) := mj_d (q := (96, .idiv, 1)) k_Mo_nodes 56 rfl
theorem d_Mo_nodes_97 : decode y_Mo_nodes.2.2.1 97 = .ok (.iload_n 2, 1) := mj_d (q := (97, .iload_n 2, 1)) k_Mo_nodes 57 rfl
theorem d_Mo_nodes_98 : decode y_Mo_nodes.2.2.1 98 = .ok (.sipush 169, 3) := mj_d (q := (98, .sipush 169, 3)) k_Mo_nodes 58 rfl
theorem d_Mo_nodes_101 : decode y_Mo_nodes.2.2.1 101 = .ok (.irem, 1) := mj_d (q := (101, .irem, 1)) k_Mo_nodes 59 rfl
theorem d_Mo_nodes_102 : decode y_Mo_nodes.2.2.1 102 = .ok (.bipush 13, 2) := mj_d (q := (102, .bipush 13, 2)) k_Mo_nodes 60 rfl
theorem d_Mo_nodes_104 : decode y_Mo_nodes.2.2.1 104 = .ok (.idiv, 1) := mj_d (q := (104, .idiv, 1)) k_Mo_nodes 61 rfl
theorem d_Mo_nodes_105 : decode y_Mo_nodes.2.2.1 105 = .ok (.iload_n 2, 1) := mj_d (q := (105, .iload_n 2, 1)) k_Mo_nodes 62 rfl
theorem d_Mo_nodes_106 : decode y_Mo_nodes.2.2.1 106 = .ok (.bipush 13, 2) := mj_d (q := (106, .bipush 13, 2)) k_Mo_nodes 63 rfl
theorem d_Mo_nodes_108 : decode y_Mo_nodes.2.2.1 108 = .ok (.irem, 1) := mj_d (q := (108, .irem, 1)) k_Mo_nodes 64 rfl
theorem d_Mo_nodes_109 : decode y_Mo_nodes.2.2.1 109 = .ok (.invokevirtual 173, 3) := mj_d (q := (109, .invokevirtual 173, 3)) k_Mo_nodes 65 rfl
theorem d_Mo_nodes_112 : decode y_Mo_nodes.2.2.1 112 = .ok (.ifCond .eq 7, 3) := mj_d (q := (112, .ifCond .eq 7, 3)) k_Mo_nodes 66 rfl
theorem d_Mo_nodes_115 : decode y_Mo_nodes.2.2.1 115 = .ok (.iconst 1, 1) := mj_d (q := (115, .iconst 1, 1)) k_Mo_nodes 67 rfl
theorem d_Mo_nodes_116 : decode y_Mo_nodes.2.2.1 116 = .ok (.goto 4, 3) := mj_d (q := (116, .goto 4, 3)) k_Mo_nodes 68 rfl
theorem d_Mo_nodes_119 : decode y_Mo_nodes.2.2.1 119 = .ok (.iconst 0, 1) := mj_d (q := (119, .iconst 0, 1)) k_Mo_nodes 69 rfl
theorem d_Mo_nodes_120 : decode y_Mo_nodes.2.2.1 120 = .ok (.istore_n 3, 1) := mj_d (q := (120, .istore_n 3, 1)) k_Mo_nodes 70 rfl
theorem d_Mo_nodes_121 : decode y_Mo_nodes.2.2.1 121 = .ok (.iload_n 1, 1) := mj_d (q := (121, .iload_n 1, 1)) k_Mo_nodes 71 rfl
theorem d_Mo_nodes_122 : decode y_Mo_nodes.2.2.1 122 = .ok (.ifCond .ne 7, 3) := mj_d (q := (122, .ifCond .ne 7, 3)) k_Mo_nodes 72 rfl
theorem d_Mo_nodes_125 : decode y_Mo_nodes.2.2.1 125 = .ok (.iload_n 3, 1) := mj_d (q := (125, .iload_n 3, 1)) k_Mo_nodes 73 rfl
theorem d_Mo_nodes_126 : decode y_Mo_nodes.2.2.1 126 = .ok (.ifCond .eq 7, 3) := mj_d (q := (126, .ifCond .eq 7, 3)) k_Mo_nodes 74 rfl
theorem d_Mo_nodes_129 : decode y_Mo_nodes.2.2.1 129 = .ok (.iconst 1, 1) := mj_d (q := (129, .iconst 1, 1)) k_Mo_nodes 75 rfl
theorem d_Mo_nodes_130 : decode y_Mo_nodes.2.2.1 130 = .ok (.goto 4, 3) := mj_d (q := (130, .goto 4, 3)) k_Mo_nodes 76 rfl
theorem d_Mo_nodes_133 : decode y_Mo_nodes.2.2.1 133 = .ok (.iconst 0, 1) := mj_d (q := (133, .iconst 0, 1)) k_Mo_nodes 77 rfl
theorem d_Mo_nodes_134 : decode y_Mo_nodes.2.2.1 134 = .ok (.istore_n 1, 1) := mj_d (q := (134, .istore_n 1, 1)) k_Mo_nodes 78 rfl
theorem d_Mo_nodes_135 : decode y_Mo_nodes.2.2.1 135 = .ok (.iinc 2 1, 3) := mj_d (q := (135, .iinc 2 1, 3)) k_Mo_nodes 79 rfl
theorem d_Mo_nodes_138 : decode y_Mo_nodes.2.2.1 138 = .ok (.goto (-63), 3) := mj_d (q := (138, .goto (-63), 3)) k_Mo_nodes 80 rfl
theorem d_Mo_nodes_141 : decode y_Mo_nodes.2.2.1 141 = .ok (.goto (-74), 3) := mj_d (q := (141, .goto (-74), 3)) k_Mo_nodes 81 rfl
theorem d_Mo_nodes_144 : decode y_Mo_nodes.2.2.1 144 = .ok (.iconst 0, 1) := mj_d (q := (144, .iconst 0, 1)) k_Mo_nodes 82 rfl
theorem d_Mo_nodes_145 : decode y_Mo_nodes.2.2.1 145 = .ok (.istore_n 2, 1) := mj_d (q := (145, .istore_n 2, 1)) k_Mo_nodes 83 rfl
theorem d_Mo_nodes_146 : decode y_Mo_nodes.2.2.1 146 = .ok (.iconst 0, 1) := mj_d (q := (146, .iconst 0, 1)) k_Mo_nodes 84 rfl
theorem d_Mo_nodes_147 : decode y_Mo_nodes.2.2.1 147 = .ok (.istore_n 3, 1) := mj_d (q := (147, .istore_n 3, 1)) k_Mo_nodes 85 rfl
theorem d_Mo_nodes_148 : decode y_Mo_nodes.2.2.1 148 = .ok (.iload_n 3, 1) := mj_d (q := (148, .iload_n 3, 1)) k_Mo_nodes 86 rfl
theorem d_Mo_nodes_149 : decode y_Mo_nodes.2.2.1 149 = .ok (.sipush 845, 3) := mj_d (q := (149, .sipush 845, 3)) k_Mo_nodes 87 rfl
theorem d_Mo_nodes_152 : decode y_Mo_nodes.2.2.1 152 = .ok (.if_icmp .ge 26, 3) := mj_d (q := (152, .if_icmp .ge 26, 3)) k_Mo_nodes 88 rfl
theorem d_Mo_nodes_155 : decode y_Mo_nodes.2.2.1 155 = .ok (.iload_n 2, 1) := mj_d (q := (155, .iload_n 2, 1)) k_Mo_nodes 89 rfl
theorem d_Mo_nodes_156 : decode y_Mo_nodes.2.2.1 156 = .ok (.aload_n 0, 1) := mj_d (q := (156, .aload_n 0, 1)) k_Mo_nodes 90 rfl
theorem d_Mo_nodes_157 : decode y_Mo_nodes.2.2.1 157 = .ok (.getfield 36, 3) := mj_d (q := (157, .getfield 36, 3)) k_Mo_nodes 91 rfl
theorem d_Mo_nodes_160 : decode y_Mo_nodes.2.2.1 160 = .ok (.iload_n 3, 1) := mj_d (q := (160, .iload_n 3, 1)) k_Mo_nodes 92 rfl
theorem d_Mo_nodes_161 : decode y_Mo_nodes.2.2.1 161 = .ok (.baload, 1) := mj_d (q := (161, .baload, 1)) k_Mo_nodes 93 rfl
theorem d_Mo_nodes_162 : decode y_Mo_nodes.2.2.1 162 = .ok (.ifCond .eq 7, 3) := mj_d (q := (162, .ifCond .eq 7, 3)) k_Mo_nodes 94 rfl
theorem d_Mo_nodes_165 : decode y_Mo_nodes.2.2.1 165 = .ok (.iconst 1, 1) := mj_d (q := (165, .iconst 1, 1)) k_Mo_nodes 95 rfl
theorem d_Mo_nodes_166 : decode y_Mo_nodes.2.2.1 166 = .ok (.goto 4, 3) := mj_d (q := (166, .goto 4, 3)) k_Mo_nodes 96 rfl
theorem d_Mo_nodes_169 : decode y_Mo_nodes.2.2.1 169 = .ok (.iconst 0, 1) := mj_d (q := (169, .iconst 0, 1)) k_Mo_nodes 97 rfl
theorem d_Mo_nodes_170 : decode y_Mo_nodes.2.2.1 170 = .ok (.iadd, 1) := mj_d (q := (170, .iadd, 1)) k_Mo_nodes 98 rfl
theorem d_Mo_nodes_171 : decode y_Mo_nodes.2.2.1 171 = .ok (.istore_n 2, 1) := mj_d (q := (171, .istore_n 2, 1)) k_Mo_nodes 99 rfl
theorem d_Mo_nodes_172 : decode y_Mo_nodes.2.2.1 172 = .ok (.iinc 3 1, 3) := mj_d (q := (172, .iinc 3 1, 3)) k_Mo_nodes 100 rfl
theorem d_Mo_nodes_175 : decode y_Mo_nodes.2.2.1 175 = .ok (.goto (-27), 3) := mj_d (q := (175, .goto (-27), 3)) k_Mo_nodes 101 rfl
theorem d_Mo_nodes_178 : decode y_Mo_nodes.2.2.1 178 = .ok (.iload_n 2, 1) := mj_d (q := (178, .iload_n 2, 1)) k_Mo_nodes 102 rfl
theorem d_Mo_nodes_179 : decode y_Mo_nodes.2.2.1 179 = .ok (.ireturn, 1) := mj_d (q := (179, .ireturn, 1)) k_Mo_nodes 103 rfl
theorem d_Mo_meetAll_0 : decode y_Mo_meetAll.2.2.1 0 = .ok (.iconst 0, 1) := mj_d (q := (0, .iconst 0, 1)) k_Mo_meetAll 0 rfl
theorem d_Mo_meetAll_1 : decode y_Mo_meetAll.2.2.1 1 = .ok (.istore 4, 2) := mj_d (q := (1, .istore 4, 2)) k_Mo_meetAll 1 rfl
theorem d_Mo_meetAll_3 : decode y_Mo_meetAll.2.2.1 3 = .ok (.iconst 0, 1) := mj_d (q := (3, .iconst 0, 1)) k_Mo_meetAll 2 rfl
theorem d_Mo_meetAll_4 : decode y_Mo_meetAll.2.2.1 4 = .ok (.istore 5, 2) := mj_d (q := (4, .istore 5, 2)) k_Mo_meetAll 3 rfl
theorem d_Mo_meetAll_6 : decode y_Mo_meetAll.2.2.1 6 = .ok (.iload 5, 2) := mj_d (q := (6, .iload 5, 2)) k_Mo_meetAll 4 rfl
theorem d_Mo_meetAll_8 : decode y_Mo_meetAll.2.2.1 8 = .ok (.aload_n 0, 1) := mj_d (q := (8, .aload_n 0, 1)) k_Mo_meetAll 5 rfl
theorem d_Mo_meetAll_9 : decode y_Mo_meetAll.2.2.1 9 = .ok (.getfield 73, 3) := mj_d (q := (9, .getfield 73, 3)) k_Mo_meetAll 6 rfl
theorem d_Mo_meetAll_12 : decode y_Mo_meetAll.2.2.1 12 = .ok (.if_icmp .ge 77, 3) := mj_d (q := (12, .if_icmp .ge 77, 3)) k_Mo_meetAll 7 rfl
theorem d_Mo_meetAll_15 : decode y_Mo_meetAll.2.2.1 15 = .ok (.aload_n 0, 1) := mj_d (q := (15, .aload_n 0, 1)) k_Mo_meetAll 8 rfl
theorem d_Mo_meetAll_16 : decode y_Mo_meetAll.2.2.1 16 = .ok (.getfield 7, 3) := mj_d (q := (16, .getfield 7, 3)) k_Mo_meetAll 9 rfl
theorem d_Mo_meetAll_19 : decode y_Mo_meetAll.2.2.1 19 = .ok (.iload 5, 2) := mj_d (q := (19, .iload 5, 2)) k_Mo_meetAll 10 rfl
theorem d_Mo_meetAll_21 : decode y_Mo_meetAll.2.2.1 21 = .ok (.iaload, 1) := mj_d (q := (21, .iaload, 1)) k_Mo_meetAll 11 rfl
theorem d_Mo_meetAll_22 : decode y_Mo_meetAll.2.2.1 22 = .ok (.iload_n 1, 1) := mj_d (q := (22, .iload_n 1, 1)) k_Mo_meetAll 12 rfl
theorem d_Mo_meetAll_23 : decode y_Mo_meetAll.2.2.1 23 = .ok (.if_icmp .ne 7, 3) := mj_d (q := (23, .if_icmp .ne 7, 3)) k_Mo_meetAll 13 rfl
theorem d_Mo_meetAll_26 : decode y_Mo_meetAll.2.2.1 26 = .ok (.iconst 1, 1) := mj_d (q := (26, .iconst 1, 1)) k_Mo_meetAll 14 rfl
theorem d_Mo_meetAll_27 : decode y_Mo_meetAll.2.2.1 27 = .ok (.goto 4, 3) := mj_d (q := (27, .goto 4, 3)) k_Mo_meetAll 15 rfl
theorem d_Mo_meetAll_30 : decode y_Mo_meetAll.2.2.1 30 = .ok (.iconst 0, 1) := mj_d (q := (30, .iconst 0, 1)) k_Mo_meetAll 16 rfl
theorem d_Mo_meetAll_31 : decode y_Mo_meetAll.2.2.1 31 = .ok (.istore 6, 2) := mj_d (q := (31, .istore 6, 2)) k_Mo_meetAll 17 rfl
theorem d_Mo_meetAll_33 : decode y_Mo_meetAll.2.2.1 33 = .ok (.aload_n 0, 1) := mj_d (q := (33, .aload_n 0, 1)) k_Mo_meetAll 18 rfl
theorem d_Mo_meetAll_34 : decode y_Mo_meetAll.2.2.1 34 = .ok (.iload_n 2, 1) := mj_d (q := (34, .iload_n 2, 1)) k_Mo_meetAll 19 rfl
theorem d_Mo_meetAll_35 : decode y_Mo_meetAll.2.2.1 35 = .ok (.invokevirtual 130, 3) := mj_d (q := (35, .invokevirtual 130, 3)) k_Mo_meetAll 20 rfl
theorem d_Mo_meetAll_38 : decode y_Mo_meetAll.2.2.1 38 = .ok (.iload 6, 2) := mj_d (q := (38, .iload 6, 2)) k_Mo_meetAll 21 rfl
theorem d_Mo_meetAll_40 : decode y_Mo_meetAll.2.2.1 40 = .ok (.ifCond .eq 43, 3) := mj_d (q := (40, .ifCond .eq 43, 3)) k_Mo_meetAll 22 rfl
theorem d_Mo_meetAll_43 : decode y_Mo_meetAll.2.2.1 43 = .ok (.iload 4, 2) := mj_d (q := (43, .iload 4, 2)) k_Mo_meetAll 23 rfl
theorem d_Mo_meetAll_45 : decode y_Mo_meetAll.2.2.1 45 = .ok (.aload_n 0, 1) := mj_d (q := (45, .aload_n 0, 1)) k_Mo_meetAll 24 rfl
theorem d_Mo_meetAll_46 : decode y_Mo_meetAll.2.2.1 46 = .ok (.iload 5, 2) := mj_d (q := (46, .iload 5, 2)) k_Mo_meetAll 25 rfl
theorem d_Mo_meetAll_48 : decode y_Mo_meetAll.2.2.1 48 = .ok (.iload_n 2, 1) := mj_d (q := (48, .iload_n 2, 1)) k_Mo_meetAll 26 rfl
theorem d_Mo_meetAll_49 : decode y_Mo_meetAll.2.2.1 49 = .ok (.iload_n 3, 1) := mj_d (q := (49, .iload_n 3, 1)) k_Mo_meetAll 27 rfl
theorem d_Mo_meetAll_50 : decode y_Mo_meetAll.2.2.1 50 = .ok (.invokevirtual 133, 3) := mj_d (q := (50, .invokevirtual 133, 3)) k_Mo_meetAll 28 rfl
theorem d_Mo_meetAll_53 : decode y_Mo_meetAll.2.2.1 53 = .ok (.ifCond .eq 14, 3) := mj_d (q := (53, .ifCond .eq 14, 3)) k_Mo_meetAll 29 rfl
theorem d_Mo_meetAll_56 : decode y_Mo_meetAll.2.2.1 56 = .ok (.aload_n 0, 1) := mj_d (q := (56, .aload_n 0, 1)) k_Mo_meetAll 30 rfl
theorem d_Mo_meetAll_57 : decode y_Mo_meetAll.2.2.1 57 = .ok (.iload 5, 2) := mj_d (q := (57, .iload 5, 2)) k_Mo_meetAll 31 rfl
theorem d_Mo_meetAll_59 : decode y_Mo_meetAll.2.2.1 59 = .ok (.iload_n 2, 1) := mj_d (q := (59, .iload_n 2, 1)) k_Mo_meetAll 32 rfl
theorem d_Mo_meetAll_60 : decode y_Mo_meetAll.2.2.1 60 = .ok (.iload_n 3, 1) := mj_d (q := (60, .iload_n 3, 1)) k_Mo_meetAll 33 rfl
theorem d_Mo_meetAll_61 : decode y_Mo_meetAll.2.2.1 61 = .ok (.invokevirtual 170, 3) := mj_d (q := (61, .invokevirtual 170, 3)) k_Mo_meetAll 34 rfl
theorem d_Mo_meetAll_64 : decode y_Mo_meetAll.2.2.1 64 = .ok (.goto 4, 3) := mj_d (q := (64, .goto 4, 3)) k_Mo_meetAll 35 rfl
theorem d_Mo_meetAll_67 : decode y_Mo_meetAll.2.2.1 67 = .ok (.iconst 0, 1) := mj_d (q := (67, .iconst 0, 1)) k_Mo_meetAll 36 rfl
theorem d_Mo_meetAll_68 : decode y_Mo_meetAll.2.2.1 68 = .ok (.iadd, 1) := mj_d (q := (68, .iadd, 1)) k_Mo_meetAll 37 rfl
theorem d_Mo_meetAll_69 : decode y_Mo_meetAll.2.2.1 69 = .ok (.istore 4, 2) := mj_d (q := (69, .istore 4, 2)) k_Mo_meetAll 38 rfl
theorem d_Mo_meetAll_71 : decode y_Mo_meetAll.2.2.1 71 = .ok (.aload_n 0, 1) := mj_d (q := (71, .aload_n 0, 1)) k_Mo_meetAll 39 rfl
theorem d_Mo_meetAll_72 : decode y_Mo_meetAll.2.2.1 72 = .ok (.iload 5, 2) := mj_d (q := (72, .iload 5, 2)) k_Mo_meetAll 40 rfl
theorem d_Mo_meetAll_74 : decode y_Mo_meetAll.2.2.1 74 = .ok (.iload_n 3, 1) := mj_d (q := (74, .iload_n 3, 1)) k_Mo_meetAll 41 rfl
theorem d_Mo_meetAll_75 : decode y_Mo_meetAll.2.2.1 75 = .ok (.invokevirtual 136, 3) := mj_d (q := (75, .invokevirtual 136, 3)) k_Mo_meetAll 42 rfl
theorem d_Mo_meetAll_78 : decode y_Mo_meetAll.2.2.1 78 = .ok (.istore 6, 2) := mj_d (q := (78, .istore 6, 2)) k_Mo_meetAll 43 rfl
theorem d_Mo_meetAll_80 : decode y_Mo_meetAll.2.2.1 80 = .ok (.goto (-42), 3) := mj_d (q := (80, .goto (-42), 3)) k_Mo_meetAll 44 rfl
theorem d_Mo_meetAll_83 : decode y_Mo_meetAll.2.2.1 83 = .ok (.iinc 5 1, 3) := mj_d (q := (83, .iinc 5 1, 3)) k_Mo_meetAll 45 rfl
theorem d_Mo_meetAll_86 : decode y_Mo_meetAll.2.2.1 86 = .ok (.goto (-80), 3) := mj_d (q := (86, .goto (-80), 3)) k_Mo_meetAll 46 rfl
theorem d_Mo_meetAll_89 : decode y_Mo_meetAll.2.2.1 89 = .ok (.iload 4, 2) := mj_d (q := (89, .iload 4, 2)) k_Mo_meetAll 47 rfl
theorem d_Mo_meetAll_91 : decode y_Mo_meetAll.2.2.1 91 = .ok (.ifCond .le 7, 3) := mj_d (q := (91, .ifCond .le 7, 3)) k_Mo_meetAll 48 rfl
theorem d_Mo_meetAll_94 : decode y_Mo_meetAll.2.2.1 94 = .ok (.iconst 1, 1) := mj_d (q := (94, .iconst 1, 1)) k_Mo_meetAll 49 rfl
theorem d_Mo_meetAll_95 : decode y_Mo_meetAll.2.2.1 95 = .ok (.goto 4, 3) := mj_d (q := (95, .goto 4, 3)) k_Mo_meetAll 50 rfl
theorem d_Mo_meetAll_98 : decode y_Mo_meetAll.2.2.1 98 = .ok (.iconst 0, 1) := mj_d (q := (98, .iconst 0, 1)) k_Mo_meetAll 51 rfl
theorem d_Mo_meetAll_99 : decode y_Mo_meetAll.2.2.1 99 = .ok (.ireturn, 1) := mj_d (q := (99, .ireturn, 1)) k_Mo_meetAll 52 rfl
theorem d_Mo_meet_0 : decode y_Mo_meet.2.2.1 0 = .ok (.iconst 0, 1) := mj_d (q := (0, .iconst 0, 1)) k_Mo_meet 0 rfl
theorem d_Mo_meet_1 : decode y_Mo_meet.2.2.1 1 = .ok (.istore 4, 2) := mj_d (q := (1, .istore 4, 2)) k_Mo_meet 1 rfl
theorem d_Mo_meet_3 : decode y_Mo_meet.2.2.1 3 = .ok (.iconst 0, 1) := mj_d (q := (3, .iconst 0, 1)) k_Mo_meet 2 rfl
theorem d_Mo_meet_4 : decode y_Mo_meet.2.2.1 4 = .ok (.istore 5, 2) := mj_d (q := (4, .istore 5, 2)) k_Mo_meet 3 rfl
theorem d_Mo_meet_6 : decode y_Mo_meet.2.2.1 6 = .ok (.iload 5, 2) := mj_d (q := (6, .iload 5, 2)) k_Mo_meet 4 rfl
theorem d_Mo_meet_8 : decode y_Mo_meet.2.2.1 8 = .ok (.aload_n 0, 1) := mj_d (q := (8, .aload_n 0, 1)) k_Mo_meet 5 rfl
theorem d_Mo_meet_9 : decode y_Mo_meet.2.2.1 9 = .ok (.getfield 13, 3) := mj_d (q := (9, .getfield 13, 3)) k_Mo_meet 6 rfl
theorem d_Mo_meet_12 : decode y_Mo_meet.2.2.1 12 = .ok (.iload_n 1, 1) := mj_d (q := (12, .iload_n 1, 1)) k_Mo_meet 7 rfl
theorem d_Mo_meet_13 : decode y_Mo_meet.2.2.1 13 = .ok (.iaload, 1) := mj_d (q := (13, .iaload, 1)) k_Mo_meet 8 rfl
theorem d_Mo_meet_14 : decode y_Mo_meet.2.2.1 14 = .ok (.if_icmp .ge 88, 3) := mj_d (q := (14, .if_icmp .ge 88, 3)) k_Mo_meet 9 rfl
theorem d_Mo_meet_17 : decode y_Mo_meet.2.2.1 17 = .ok (.aload_n 0, 1) := mj_d (q := (17, .aload_n 0, 1)) k_Mo_meet 10 rfl
theorem d_Mo_meet_18 : decode y_Mo_meet.2.2.1 18 = .ok (.getfield 16, 3) := mj_d (q := (18, .getfield 16, 3)) k_Mo_meet 11 rfl
theorem d_Mo_meet_21 : decode y_Mo_meet.2.2.1 21 = .ok (.iconst 3, 1) := mj_d (q := (21, .iconst 3, 1)) k_Mo_meet 12 rfl
theorem d_Mo_meet_22 : decode y_Mo_meet.2.2.1 22 = .ok (.iload_n 1, 1) := mj_d (q := (22, .iload_n 1, 1)) k_Mo_meet 13 rfl
theorem d_Mo_meet_23 : decode y_Mo_meet.2.2.1 23 = .ok (.imul, 1) := mj_d (q := (23, .imul, 1)) k_Mo_meet 14 rfl
theorem d_Mo_meet_24 : decode y_Mo_meet.2.2.1 24 = .ok (.iload 5, 2) := mj_d (q := (24, .iload 5, 2)) k_Mo_meet 15 rfl
theorem d_Mo_meet_26 : decode y_Mo_meet.2.2.1 26 = .ok (.iadd, 1) := mj_d (q := (26, .iadd, 1)) k_Mo_meet 16 rfl
theorem d_Mo_meet_27 : decode y_Mo_meet.2.2.1 27 = .ok (.iaload, 1) := mj_d (q := (27, .iaload, 1)) k_Mo_meet 17 rfl
theorem d_Mo_meet_28 : decode y_Mo_meet.2.2.1 28 = .ok (.istore 6, 2) := mj_d (q := (28, .istore 6, 2)) k_Mo_meet 18 rfl
theorem d_Mo_meet_30 : decode y_Mo_meet.2.2.1 30 = .ok (.aload_n 0, 1) := mj_d (q := (30, .aload_n 0, 1)) k_Mo_meet 19 rfl
theorem d_Mo_meet_31 : decode y_Mo_meet.2.2.1 31 = .ok (.iload_n 1, 1) := mj_d (q := (31, .iload_n 1, 1)) k_Mo_meet 20 rfl
theorem d_Mo_meet_32 : decode y_Mo_meet.2.2.1 32 = .ok (.iload 5, 2) := mj_d (q := (32, .iload 5, 2)) k_Mo_meet 21 rfl
theorem d_Mo_meet_34 : decode y_Mo_meet.2.2.1 34 = .ok (.iload_n 2, 1) := mj_d (q := (34, .iload_n 2, 1)) k_Mo_meet 22 rfl
theorem d_Mo_meet_35 : decode y_Mo_meet.2.2.1 35 = .ok (.iload_n 3, 1) := mj_d (q := (35, .iload_n 3, 1)) k_Mo_meet 23 rfl
theorem d_Mo_meet_36 : decode y_Mo_meet.2.2.1 36 = .ok (.invokevirtual 123, 3) := mj_d (q := (36, .invokevirtual 123, 3)) k_Mo_meet 24 rfl
theorem d_Mo_meet_39 : decode y_Mo_meet.2.2.1 39 = .ok (.istore 7, 2) := mj_d (q := (39, .istore 7, 2)) k_Mo_meet 25 rfl
theorem d_Mo_meet_41 : decode y_Mo_meet.2.2.1 41 = .ok (.aload_n 0, 1) := mj_d (q := (41, .aload_n 0, 1)) k_Mo_meet 26 rfl
theorem d_Mo_meet_42 : decode y_Mo_meet.2.2.1 42 = .ok (.iload_n 1, 1) := mj_d (q := (42, .iload_n 1, 1)) k_Mo_meet 27 rfl
theorem d_Mo_meet_43 : decode y_Mo_meet.2.2.1 43 = .ok (.iload 5, 2) := mj_d (q := (43, .iload 5, 2)) k_Mo_meet 28 rfl
theorem d_Mo_meet_45 : decode y_Mo_meet.2.2.1 45 = .ok (.iconst 1, 1) := mj_d (q := (45, .iconst 1, 1)) k_Mo_meet 29 rfl
theorem d_Mo_meet_46 : decode y_Mo_meet.2.2.1 46 = .ok (.iadd, 1) := mj_d (q := (46, .iadd, 1)) k_Mo_meet 30 rfl
theorem d_Mo_meet_47 : decode y_Mo_meet.2.2.1 47 = .ok (.iload_n 2, 1) := mj_d (q := (47, .iload_n 2, 1)) k_Mo_meet 31 rfl
theorem d_Mo_meet_48 : decode y_Mo_meet.2.2.1 48 = .ok (.iload_n 3, 1) := mj_d (q := (48, .iload_n 3, 1)) k_Mo_meet 32 rfl
theorem d_Mo_meet_49 : decode y_Mo_meet.2.2.1 49 = .ok (.invokevirtual 123, 3) := mj_d (q := (49, .invokevirtual 123, 3)) k_Mo_meet 33 rfl
theorem d_Mo_meet_52 : decode y_Mo_meet.2.2.1 52 = .ok (.istore 8, 2) := mj_d (q := (52, .istore 8, 2)) k_Mo_meet 34 rfl
theorem d_Mo_meet_54 : decode y_Mo_meet.2.2.1 54 = .ok (.iload 6, 2) := mj_d (q := (54, .iload 6, 2)) k_Mo_meet 35 rfl
theorem d_Mo_meet_56 : decode y_Mo_meet.2.2.1 56 = .ok (.bipush 8, 2) := mj_d (q := (56, .bipush 8, 2)) k_Mo_meet 36 rfl
theorem d_Mo_meet_58 : decode y_Mo_meet.2.2.1 58 = .ok (.if_icmp .ge 38, 3) := mj_d (q := (58, .if_icmp .ge 38, 3)) k_Mo_meet 37 rfl
theorem d_Mo_meet_61 : decode y_Mo_meet.2.2.1 61 = .ok (.aload_n 0, 1) := mj_d (q := (61, .aload_n 0, 1)) k_Mo_meet 38 rfl
theorem d_Mo_meet_62 : decode y_Mo_meet.2.2.1 62 = .ok (.getfield 36, 3) := mj_d (q := (62, .getfield 36, 3)) k_Mo_meet 39 rfl
theorem d_Mo_meet_65 : decode y_Mo_meet.2.2.1 65 = .ok (.iload 6, 2) := mj_d (q := (65, .iload 6, 2)) k_Mo_meet 40 rfl
theorem d_Mo_meet_67 : decode y_Mo_meet.2.2.1 67 = .ok (.iload 7, 2) := mj_d (q := (67, .iload 7, 2)) k_Mo_meet 41 rfl
theorem d_Mo_meet_69 : decode y_Mo_meet.2.2.1 69 = .ok (.iload 8, 2) := mj_d (q := (69, .iload 8, 2)) k_Mo_meet 42 rfl
theorem d_Mo_meet_71 : decode y_Mo_meet.2.2.1 71 = .ok (.invokestatic 113, 3) := mj_d (q := (71, .invokestatic 113, 3)) k_Mo_meet 43 rfl
theorem d_Mo_meet_74 : decode y_Mo_meet.2.2.1 74 = .ok (.baload, 1) := mj_d (q := (74, .baload, 1)) k_Mo_meet 44 rfl
theorem d_Mo_meet_75 : decode y_Mo_meet.2.2.1 75 = .ok (.ifCond .ne 21, 3) := mj_d (q := (75, .ifCond .ne 21, 3)) k_Mo_meet 45 rfl
theorem d_Mo_meet_78 : decode y_Mo_meet.2.2.1 78 = .ok (.aload_n 0, 1) := mj_d (q := (78, .aload_n 0, 1)) k_Mo_meet 46 rfl
theorem d_Mo_meet_79 : decode y_Mo_meet.2.2.1 79 = .ok (.getfield 36, 3) := mj_d (q := (79, .getfield 36, 3)) k_Mo_meet 47 rfl
theorem d_Mo_meet_82 : decode y_Mo_meet.2.2.1 82 = .ok (.iload 6, 2) := mj_d (q := (82, .iload 6, 2)) k_Mo_meet 48 rfl
theorem d_Mo_meet_84 : decode y_Mo_meet.2.2.1 84 = .ok (.iload 7, 2) := mj_d (q := (84, .iload 7, 2)) k_Mo_meet 49 rfl
theorem d_Mo_meet_86 : decode y_Mo_meet.2.2.1 86 = .ok (.iload 8, 2) := mj_d (q := (86, .iload 8, 2)) k_Mo_meet 50 rfl
theorem d_Mo_meet_88 : decode y_Mo_meet.2.2.1 88 = .ok (.invokestatic 113, 3) := mj_d (q := (88, .invokestatic 113, 3)) k_Mo_meet 51 rfl
theorem d_Mo_meet_91 : decode y_Mo_meet.2.2.1 91 = .ok (.iconst 1, 1) := mj_d (q := (91, .iconst 1, 1)) k_Mo_meet 52 rfl
theorem d_Mo_meet_92 : decode y_Mo_meet.2.2.1 92 = .ok (.bastore, 1) := mj_d (q := (92, .bastore, 1)) k_Mo_meet 53 rfl
theorem d_Mo_meet_93 : decode y_Mo_meet.2.2.1 93 = .ok (.iconst 1, 1) := mj_d (q := (93, .iconst 1, 1)) k_Mo_meet 54 rfl
theorem d_Mo_meet_94 : decode y_Mo_meet.2.2.1 94 = .ok (.istore 4, 2) := mj_d (q := (94, .istore 4, 2)) k_Mo_meet 55 rfl
theorem d_Mo_meet_96 : decode y_Mo_meet.2.2.1 96 = .ok (.iinc 5 1, 3) := mj_d (q := (96, .iinc 5 1, 3)) k_Mo_meet 56 rfl
theorem d_Mo_meet_99 : decode y_Mo_meet.2.2.1 99 = .ok (.goto (-93), 3) := mj_d (q := (99, .goto (-93), 3)) k_Mo_meet 57 rfl
theorem d_Mo_meet_102 : decode y_Mo_meet.2.2.1 102 = .ok (.iload 4, 2) := mj_d (q := (102, .iload 4, 2)) k_Mo_meet 58 rfl
theorem d_Mo_meet_104 : decode y_Mo_meet.2.2.1 104 = .ok (.ireturn, 1) := mj_d (q := (104, .ireturn, 1)) k_Mo_meet 59 rfl
theorem d_Mo_tree_0 : decode y_Mo_tree.2.2.1 0 = .ok (.aload_n 0, 1) := mj_d (q := (0, .aload_n 0, 1)) k_Mo_tree 0 rfl
theorem d_Mo_tree_1 : decode y_Mo_tree.2.2.1 1 = .ok (.iconst 0, 1) := mj_d (q := (1, .iconst 0, 1)) k_Mo_tree 1 rfl
theorem d_Mo_tree_2 : decode y_Mo_tree.2.2.1 2 = .ok (.putfield 53, 3) := mj_d (q := (2, .putfield 53, 3)) k_Mo_tree 2 rfl
theorem d_Mo_tree_5 : decode y_Mo_tree.2.2.1 5 = .ok (.aload_n 0, 1) := mj_d (q := (5, .aload_n 0, 1)) k_Mo_tree 3 rfl
theorem d_Mo_tree_6 : decode y_Mo_tree.2.2.1 6 = .ok (.invokevirtual 164, 3) := mj_d (q := (6, .invokevirtual 164, 3)) k_Mo_tree 4 rfl
theorem d_Mo_tree_9 : decode y_Mo_tree.2.2.1 9 = .ok (.aload_n 0, 1) := mj_d (q := (9, .aload_n 0, 1)) k_Mo_tree 5 rfl
theorem d_Mo_tree_10 : decode y_Mo_tree.2.2.1 10 = .ok (.iconst 0, 1) := mj_d (q := (10, .iconst 0, 1)) k_Mo_tree 6 rfl
theorem d_Mo_tree_11 : decode y_Mo_tree.2.2.1 11 = .ok (.iconst 0, 1) := mj_d (q := (11, .iconst 0, 1)) k_Mo_tree 7 rfl
theorem d_Mo_tree_12 : decode y_Mo_tree.2.2.1 12 = .ok (.aload_n 0, 1) := mj_d (q := (12, .aload_n 0, 1)) k_Mo_tree 8 rfl
theorem d_Mo_tree_13 : decode y_Mo_tree.2.2.1 13 = .ok (.getfield 97, 3) := mj_d (q := (13, .getfield 97, 3)) k_Mo_tree 9 rfl
theorem d_Mo_tree_16 : decode y_Mo_tree.2.2.1 16 = .ok (.invokevirtual 167, 3) := mj_d (q := (16, .invokevirtual 167, 3)) k_Mo_tree 10 rfl
theorem d_Mo_tree_19 : decode y_Mo_tree.2.2.1 19 = .ok (.lstore 4, 2) := mj_d (q := (19, .lstore 4, 2)) k_Mo_tree 11 rfl
theorem d_Mo_tree_21 : decode y_Mo_tree.2.2.1 21 = .ok (.lload 4, 2) := mj_d (q := (21, .lload 4, 2)) k_Mo_tree 12 rfl
theorem d_Mo_tree_23 : decode y_Mo_tree.2.2.1 23 = .ok (.lconst 0, 1) := mj_d (q := (23, .lconst 0, 1)) k_Mo_tree 13 rfl
theorem d_Mo_tree_24 : decode y_Mo_tree.2.2.1 24 = .ok (.lcmp, 1) := mj_d (q := (24, .lcmp, 1)) k_Mo_tree 14 rfl
theorem d_Mo_tree_25 : decode y_Mo_tree.2.2.1 25 = .ok (.ifCond .lt 29, 3) := mj_d (q := (25, .ifCond .lt 29, 3)) k_Mo_tree 15 rfl
theorem d_Mo_tree_28 : decode y_Mo_tree.2.2.1 28 = .ok (.lload 4, 2) := mj_d (q := (28, .lload 4, 2)) k_Mo_tree 16 rfl
theorem d_Mo_tree_30 : decode y_Mo_tree.2.2.1 30 = .ok (.ldc2_w 143, 3) := mj_d (q := (30, .ldc2_w 143, 3)) k_Mo_tree 17 rfl
theorem d_Mo_tree_33 : decode y_Mo_tree.2.2.1 33 = .ok (.lcmp, 1) := mj_d (q := (33, .lcmp, 1)) k_Mo_tree 18 rfl
theorem d_Mo_tree_34 : decode y_Mo_tree.2.2.1 34 = .ok (.ifCond .ge 20, 3) := mj_d (q := (34, .ifCond .ge 20, 3)) k_Mo_tree 19 rfl
theorem d_Mo_tree_37 : decode y_Mo_tree.2.2.1 37 = .ok (.lload_n 1, 1) := mj_d (q := (37, .lload_n 1, 1)) k_Mo_tree 20 rfl
theorem d_Mo_tree_38 : decode y_Mo_tree.2.2.1 38 = .ok (.lconst 0, 1) := mj_d (q := (38, .lconst 0, 1)) k_Mo_tree 21 rfl
theorem d_Mo_tree_39 : decode y_Mo_tree.2.2.1 39 = .ok (.lcmp, 1) := mj_d (q := (39, .lcmp, 1)) k_Mo_tree 22 rfl
theorem d_Mo_tree_40 : decode y_Mo_tree.2.2.1 40 = .ok (.ifCond .lt 14, 3) := mj_d (q := (40, .ifCond .lt 14, 3)) k_Mo_tree 23 rfl
theorem d_Mo_tree_43 : decode y_Mo_tree.2.2.1 43 = .ok (.lload_n 1, 1) := mj_d (q := (43, .lload_n 1, 1)) k_Mo_tree 24 rfl
theorem d_Mo_tree_44 : decode y_Mo_tree.2.2.1 44 = .ok (.lload 4, 2) := mj_d (q := (44, .lload 4, 2)) k_Mo_tree 25 rfl
theorem d_Mo_tree_46 : decode y_Mo_tree.2.2.1 46 = .ok (.lcmp, 1) := mj_d (q := (46, .lcmp, 1)) k_Mo_tree 26 rfl
theorem d_Mo_tree_47 : decode y_Mo_tree.2.2.1 47 = .ok (.ifCond .ge 7, 3) := mj_d (q := (47, .ifCond .ge 7, 3)) k_Mo_tree 27 rfl
theorem d_Mo_tree_50 : decode y_Mo_tree.2.2.1 50 = .ok (.iload_n 3, 1) := mj_d (q := (50, .iload_n 3, 1)) k_Mo_tree 28 rfl
theorem d_Mo_tree_51 : decode y_Mo_tree.2.2.1 51 = .ok (.ifCond .ge 9, 3) := mj_d (q := (51, .ifCond .ge 9, 3)) k_Mo_tree 29 rfl
theorem d_Mo_tree_54 : decode y_Mo_tree.2.2.1 54 = .ok (.aload_n 0, 1) := mj_d (q := (54, .aload_n 0, 1)) k_Mo_tree 30 rfl
theorem d_Mo_tree_55 : decode y_Mo_tree.2.2.1 55 = .ok (.iconst 1, 1) := mj_d (q := (55, .iconst 1, 1)) k_Mo_tree 31 rfl
theorem d_Mo_tree_56 : decode y_Mo_tree.2.2.1 56 = .ok (.invokevirtual 91, 3) := mj_d (q := (56, .invokevirtual 91, 3)) k_Mo_tree 32 rfl
theorem d_Mo_tree_59 : decode y_Mo_tree.2.2.1 59 = .ok (.ireturn, 1) := mj_d (q := (59, .ireturn, 1)) k_Mo_tree 33 rfl
theorem d_Mo_tree_60 : decode y_Mo_tree.2.2.1 60 = .ok (.aload_n 0, 1) := mj_d (q := (60, .aload_n 0, 1)) k_Mo_tree 34 rfl
theorem d_Mo_tree_61 : decode y_Mo_tree.2.2.1 61 = .ok (.iconst 0, 1) := mj_d (q := (61, .iconst 0, 1)) k_Mo_tree 35 rfl
theorem d_Mo_tree_62 : decode y_Mo_tree.2.2.1 62 = .ok (.putfield 176, 3) := mj_d (q := (62, .putfield 176, 3)) k_Mo_tree 36 rfl
theorem d_Mo_tree_65 : decode y_Mo_tree.2.2.1 65 = .ok (.aload_n 0, 1) := mj_d (q := (65, .aload_n 0, 1)) k_Mo_tree 37 rfl
theorem d_Mo_tree_66 : decode y_Mo_tree.2.2.1 66 = .ok (.iconst 0, 1) := mj_d (q := (66, .iconst 0, 1)) k_Mo_tree 38 rfl
theorem d_Mo_tree_67 : decode y_Mo_tree.2.2.1 67 = .ok (.iconst 0, 1) := mj_d (q := (67, .iconst 0, 1)) k_Mo_tree 39 rfl
theorem d_Mo_tree_68 : decode y_Mo_tree.2.2.1 68 = .ok (.aload_n 0, 1) := mj_d (q := (68, .aload_n 0, 1)) k_Mo_tree 40 rfl
theorem d_Mo_tree_69 : decode y_Mo_tree.2.2.1 69 = .ok (.getfield 97, 3) := mj_d (q := (69, .getfield 97, 3)) k_Mo_tree 41 rfl
theorem d_Mo_tree_72 : decode y_Mo_tree.2.2.1 72 = .ok (.invokestatic 113, 3) := mj_d (q := (72, .invokestatic 113, 3)) k_Mo_tree 42 rfl
theorem d_Mo_tree_75 : decode y_Mo_tree.2.2.1 75 = .ok (.lload_n 1, 1) := mj_d (q := (75, .lload_n 1, 1)) k_Mo_tree 43 rfl
theorem d_Mo_tree_76 : decode y_Mo_tree.2.2.1 76 = .ok (.invokevirtual 179, 3) := mj_d (q := (76, .invokevirtual 179, 3)) k_Mo_tree 44 rfl
theorem d_Mo_tree_79 : decode y_Mo_tree.2.2.1 79 = .ok (.iconst 0, 1) := mj_d (q := (79, .iconst 0, 1)) k_Mo_tree 45 rfl
theorem d_Mo_tree_80 : decode y_Mo_tree.2.2.1 80 = .ok (.istore 6, 2) := mj_d (q := (80, .istore 6, 2)) k_Mo_tree 46 rfl
theorem d_Mo_tree_82 : decode y_Mo_tree.2.2.1 82 = .ok (.aload_n 0, 1) := mj_d (q := (82, .aload_n 0, 1)) k_Mo_tree 47 rfl
theorem d_Mo_tree_83 : decode y_Mo_tree.2.2.1 83 = .ok (.getfield 176, 3) := mj_d (q := (83, .getfield 176, 3)) k_Mo_tree 48 rfl
theorem d_Mo_tree_86 : decode y_Mo_tree.2.2.1 86 = .ok (.ifCond .le 52, 3) := mj_d (q := (86, .ifCond .le 52, 3)) k_Mo_tree 49 rfl
theorem d_Mo_tree_89 : decode y_Mo_tree.2.2.1 89 = .ok (.aload_n 0, 1) := mj_d (q := (89, .aload_n 0, 1)) k_Mo_tree 50 rfl
theorem d_Mo_tree_90 : decode y_Mo_tree.2.2.1 90 = .ok (.dup, 1) := mj_d (q := (90, .dup, 1)) k_Mo_tree 51 rfl
theorem d_Mo_tree_91 : decode y_Mo_tree.2.2.1 91 = .ok (.getfield 176, 3) := mj_d (q := (91, .getfield 176, 3)) k_Mo_tree 52 rfl
theorem d_Mo_tree_94 : decode y_Mo_tree.2.2.1 94 = .ok (.iconst 1, 1) := mj_d (q := (94, .iconst 1, 1)) k_Mo_tree 53 rfl
theorem d_Mo_tree_95 : decode y_Mo_tree.2.2.1 95 = .ok (.isub, 1) := mj_d (q := (95, .isub, 1)) k_Mo_tree 54 rfl
theorem d_Mo_tree_96 : decode y_Mo_tree.2.2.1 96 = .ok (.putfield 176, 3) := mj_d (q := (96, .putfield 176, 3)) k_Mo_tree 55 rfl
theorem d_Mo_tree_99 : decode y_Mo_tree.2.2.1 99 = .ok (.aload_n 0, 1) := mj_d (q := (99, .aload_n 0, 1)) k_Mo_tree 56 rfl
theorem d_Mo_tree_100 : decode y_Mo_tree.2.2.1 100 = .ok (.aload_n 0, 1) := mj_d (q := (100, .aload_n 0, 1)) k_Mo_tree 57 rfl
theorem d_Mo_tree_101 : decode y_Mo_tree.2.2.1 101 = .ok (.getfield 39, 3) := mj_d (q := (101, .getfield 39, 3)) k_Mo_tree 58 rfl
theorem d_Mo_tree_104 : decode y_Mo_tree.2.2.1 104 = .ok (.aload_n 0, 1) := mj_d (q := (104, .aload_n 0, 1)) k_Mo_tree 59 rfl
theorem d_Mo_tree_105 : decode y_Mo_tree.2.2.1 105 = .ok (.getfield 176, 3) := mj_d (q := (105, .getfield 176, 3)) k_Mo_tree 60 rfl
theorem d_Mo_tree_108 : decode y_Mo_tree.2.2.1 108 = .ok (.iaload, 1) := mj_d (q := (108, .iaload, 1)) k_Mo_tree 61 rfl
theorem d_Mo_tree_109 : decode y_Mo_tree.2.2.1 109 = .ok (.aload_n 0, 1) := mj_d (q := (109, .aload_n 0, 1)) k_Mo_tree 62 rfl
theorem d_Mo_tree_110 : decode y_Mo_tree.2.2.1 110 = .ok (.getfield 42, 3) := mj_d (q := (110, .getfield 42, 3)) k_Mo_tree 63 rfl
theorem d_Mo_tree_113 : decode y_Mo_tree.2.2.1 113 = .ok (.aload_n 0, 1) := mj_d (q := (113, .aload_n 0, 1)) k_Mo_tree 64 rfl
theorem d_Mo_tree_114 : decode y_Mo_tree.2.2.1 114 = .ok (.getfield 176, 3) := mj_d (q := (114, .getfield 176, 3)) k_Mo_tree 65 rfl
theorem d_Mo_tree_117 : decode y_Mo_tree.2.2.1 117 = .ok (.laload, 1) := mj_d (q := (117, .laload, 1)) k_Mo_tree 66 rfl
theorem d_Mo_tree_118 : decode y_Mo_tree.2.2.1 118 = .ok (.invokevirtual 187, 3) := mj_d (q := (118, .invokevirtual 187, 3)) k_Mo_tree 67 rfl
theorem d_Mo_tree_121 : decode y_Mo_tree.2.2.1 121 = .ok (.istore 7, 2) := mj_d (q := (121, .istore 7, 2)) k_Mo_tree 68 rfl
theorem d_Mo_tree_123 : decode y_Mo_tree.2.2.1 123 = .ok (.iload 6, 2) := mj_d (q := (123, .iload 6, 2)) k_Mo_tree 69 rfl
theorem d_Mo_tree_125 : decode y_Mo_tree.2.2.1 125 = .ok (.iload_n 3, 1) := mj_d (q := (125, .iload_n 3, 1)) k_Mo_tree 70 rfl
theorem d_Mo_tree_126 : decode y_Mo_tree.2.2.1 126 = .ok (.if_icmp .ne 6, 3) := mj_d (q := (126, .if_icmp .ne 6, 3)) k_Mo_tree 71 rfl
theorem d_Mo_tree_129 : decode y_Mo_tree.2.2.1 129 = .ok (.iload 7, 2) := mj_d (q := (129, .iload 7, 2)) k_Mo_tree 72 rfl
theorem d_Mo_tree_131 : decode y_Mo_tree.2.2.1 131 = .ok (.ireturn, 1) := mj_d (q := (131, .ireturn, 1)) k_Mo_tree 73 rfl
theorem d_Mo_tree_132 : decode y_Mo_tree.2.2.1 132 = .ok (.iinc 6 1, 3) := mj_d (q := (132, .iinc 6 1, 3)) k_Mo_tree 74 rfl
theorem d_Mo_tree_135 : decode y_Mo_tree.2.2.1 135 = .ok (.goto (-53), 3) := mj_d (q := (135, .goto (-53), 3)) k_Mo_tree 75 rfl
theorem d_Mo_tree_138 : decode y_Mo_tree.2.2.1 138 = .ok (.aload_n 0, 1) := mj_d (q := (138, .aload_n 0, 1)) k_Mo_tree 76 rfl
theorem d_Mo_tree_139 : decode y_Mo_tree.2.2.1 139 = .ok (.iconst 1, 1) := mj_d (q := (139, .iconst 1, 1)) k_Mo_tree 77 rfl
theorem d_Mo_tree_140 : decode y_Mo_tree.2.2.1 140 = .ok (.invokevirtual 91, 3) := mj_d (q := (140, .invokevirtual 91, 3)) k_Mo_tree 78 rfl
theorem d_Mo_tree_143 : decode y_Mo_tree.2.2.1 143 = .ok (.ireturn, 1) := mj_d (q := (143, .ireturn, 1)) k_Mo_tree 79 rfl
theorem d_Mo_come_0 : decode y_Mo_come.2.2.1 0 = .ok (.aload_n 0, 1) := mj_d (q := (0, .aload_n 0, 1)) k_Mo_come 0 rfl
theorem d_Mo_come_1 : decode y_Mo_come.2.2.1 1 = .ok (.getfield 39, 3) := mj_d (q := (1, .getfield 39, 3)) k_Mo_come 1 rfl
theorem d_Mo_come_4 : decode y_Mo_come.2.2.1 4 = .ok (.aload_n 0, 1) := mj_d (q := (4, .aload_n 0, 1)) k_Mo_come 2 rfl
theorem d_Mo_come_5 : decode y_Mo_come.2.2.1 5 = .ok (.getfield 176, 3) := mj_d (q := (5, .getfield 176, 3)) k_Mo_come 3 rfl
theorem d_Mo_come_8 : decode y_Mo_come.2.2.1 8 = .ok (.iload_n 1, 1) := mj_d (q := (8, .iload_n 1, 1)) k_Mo_come 4 rfl
theorem d_Mo_come_9 : decode y_Mo_come.2.2.1 9 = .ok (.iastore, 1) := mj_d (q := (9, .iastore, 1)) k_Mo_come 5 rfl
theorem d_Mo_come_10 : decode y_Mo_come.2.2.1 10 = .ok (.aload_n 0, 1) := mj_d (q := (10, .aload_n 0, 1)) k_Mo_come 6 rfl
theorem d_Mo_come_11 : decode y_Mo_come.2.2.1 11 = .ok (.getfield 42, 3) := mj_d (q := (11, .getfield 42, 3)) k_Mo_come 7 rfl
theorem d_Mo_come_14 : decode y_Mo_come.2.2.1 14 = .ok (.aload_n 0, 1) := mj_d (q := (14, .aload_n 0, 1)) k_Mo_come 8 rfl
theorem d_Mo_come_15 : decode y_Mo_come.2.2.1 15 = .ok (.getfield 176, 3) := mj_d (q := (15, .getfield 176, 3)) k_Mo_come 9 rfl
theorem d_Mo_come_18 : decode y_Mo_come.2.2.1 18 = .ok (.lload_n 2, 1) := mj_d (q := (18, .lload_n 2, 1)) k_Mo_come 10 rfl
theorem d_Mo_come_19 : decode y_Mo_come.2.2.1 19 = .ok (.lastore, 1) := mj_d (q := (19, .lastore, 1)) k_Mo_come 11 rfl
theorem d_Mo_come_20 : decode y_Mo_come.2.2.1 20 = .ok (.aload_n 0, 1) := mj_d (q := (20, .aload_n 0, 1)) k_Mo_come 12 rfl
theorem d_Mo_come_21 : decode y_Mo_come.2.2.1 21 = .ok (.dup, 1) := mj_d (q := (21, .dup, 1)) k_Mo_come 13 rfl
theorem d_Mo_come_22 : decode y_Mo_come.2.2.1 22 = .ok (.getfield 176, 3) := mj_d (q := (22, .getfield 176, 3)) k_Mo_come 14 rfl
theorem d_Mo_come_25 : decode y_Mo_come.2.2.1 25 = .ok (.iconst 1, 1) := mj_d (q := (25, .iconst 1, 1)) k_Mo_come 15 rfl
theorem d_Mo_come_26 : decode y_Mo_come.2.2.1 26 = .ok (.iadd, 1) := mj_d (q := (26, .iadd, 1)) k_Mo_come 16 rfl
theorem d_Mo_come_27 : decode y_Mo_come.2.2.1 27 = .ok (.putfield 176, 3) := mj_d (q := (27, .putfield 176, 3)) k_Mo_come 17 rfl
theorem d_Mo_come_30 : decode y_Mo_come.2.2.1 30 = .ok (.return_, 1) := mj_d (q := (30, .return_, 1)) k_Mo_come 18 rfl
theorem d_Mo_takeRoot_0 : decode y_Mo_takeRoot.2.2.1 0 = .ok (.iload_n 1, 1) := mj_d (q := (0, .iload_n 1, 1)) k_Mo_takeRoot 0 rfl
theorem d_Mo_takeRoot_1 : decode y_Mo_takeRoot.2.2.1 1 = .ok (.sipush 169, 3) := mj_d (q := (1, .sipush 169, 3)) k_Mo_takeRoot 1 rfl
theorem d_Mo_takeRoot_4 : decode y_Mo_takeRoot.2.2.1 4 = .ok (.idiv, 1) := mj_d (q := (4, .idiv, 1)) k_Mo_takeRoot 2 rfl
theorem d_Mo_takeRoot_5 : decode y_Mo_takeRoot.2.2.1 5 = .ok (.istore 4, 2) := mj_d (q := (5, .istore 4, 2)) k_Mo_takeRoot 3 rfl
theorem d_Mo_takeRoot_7 : decode y_Mo_takeRoot.2.2.1 7 = .ok (.iload_n 1, 1) := mj_d (q := (7, .iload_n 1, 1)) k_Mo_takeRoot 4 rfl
theorem d_Mo_takeRoot_8 : decode y_Mo_takeRoot.2.2.1 8 = .ok (.sipush 169, 3) := mj_d (q := (8, .sipush 169, 3)) k_Mo_takeRoot 5 rfl
theorem d_Mo_takeRoot_11 : decode y_Mo_takeRoot.2.2.1 11 = .ok (.irem, 1) := mj_d (q := (11, .irem, 1)) k_Mo_takeRoot 6 rfl
theorem d_Mo_takeRoot_12 : decode y_Mo_takeRoot.2.2.1 12 = .ok (.bipush 13, 2) := mj_d (q := (12, .bipush 13, 2)) k_Mo_takeRoot 7 rfl
theorem d_Mo_takeRoot_14 : decode y_Mo_takeRoot.2.2.1 14 = .ok (.idiv, 1) := mj_d (q := (14, .idiv, 1)) k_Mo_takeRoot 8 rfl
theorem d_Mo_takeRoot_15 : decode y_Mo_takeRoot.2.2.1 15 = .ok (.istore 5, 2) := mj_d (q := (15, .istore 5, 2)) k_Mo_takeRoot 9 rfl
theorem d_Mo_takeRoot_17 : decode y_Mo_takeRoot.2.2.1 17 = .ok (.iload_n 1, 1) := mj_d (q := (17, .iload_n 1, 1)) k_Mo_takeRoot 10 rfl
theorem d_Mo_takeRoot_18 : decode y_Mo_takeRoot.2.2.1 18 = .ok (.bipush 13, 2) := mj_d (q := (18, .bipush 13, 2)) k_Mo_takeRoot 11 rfl
theorem d_Mo_takeRoot_20 : decode y_Mo_takeRoot.2.2.1 20 = .ok (.irem, 1) := mj_d (q := (20, .irem, 1)) k_Mo_takeRoot 12 rfl
theorem d_Mo_takeRoot_21 : decode y_Mo_takeRoot.2.2.1 21 = .ok (.istore 6, 2) := mj_d (q := (21, .istore 6, 2)) k_Mo_takeRoot 13 rfl
theorem d_Mo_takeRoot_23 : decode y_Mo_takeRoot.2.2.1 23 = .ok (.lload_n 2, 1) := mj_d (q := (23, .lload_n 2, 1)) k_Mo_takeRoot 14 rfl
theorem d_Mo_takeRoot_24 : decode y_Mo_takeRoot.2.2.1 24 = .ok (.lstore 7, 2) := mj_d (q := (24, .lstore 7, 2)) k_Mo_takeRoot 15 rfl
theorem d_Mo_takeRoot_26 : decode y_Mo_takeRoot.2.2.1 26 = .ok (.iconst 0, 1) := mj_d (q := (26, .iconst 0, 1)) k_Mo_takeRoot 16 rfl
theorem d_Mo_takeRoot_27 : decode y_Mo_takeRoot.2.2.1 27 = .ok (.istore 9, 2) := mj_d (q := (27, .istore 9, 2)) k_Mo_takeRoot 17 rfl
theorem d_Mo_takeRoot_29 : decode y_Mo_takeRoot.2.2.1 29 = .ok (.iload 9, 2) := mj_d (q := (29, .iload 9, 2)) k_Mo_takeRoot 18 rfl
theorem d_Mo_takeRoot_31 : decode y_Mo_takeRoot.2.2.1 31 = .ok (.aload_n 0, 1) := mj_d (q := (31, .aload_n 0, 1)) k_Mo_takeRoot 19 rfl
theorem d_Mo_takeRoot_32 : decode y_Mo_takeRoot.2.2.1 32 = .ok (.getfield 73, 3) := mj_d (q := (32, .getfield 73, 3)) k_Mo_takeRoot 20 rfl
theorem d_Mo_takeRoot_35 : decode y_Mo_takeRoot.2.2.1 35 = .ok (.if_icmp .ge 107, 3) := mj_d (q := (35, .if_icmp .ge 107, 3)) k_Mo_takeRoot 21 rfl
theorem d_Mo_takeRoot_38 : decode y_Mo_takeRoot.2.2.1 38 = .ok (.aload_n 0, 1) := mj_d (q := (38, .aload_n 0, 1)) k_Mo_takeRoot 22 rfl
theorem d_Mo_takeRoot_39 : decode y_Mo_takeRoot.2.2.1 39 = .ok (.getfield 7, 3) := mj_d (q := (39, .getfield 7, 3)) k_Mo_takeRoot 23 rfl
theorem d_Mo_takeRoot_42 : decode y_Mo_takeRoot.2.2.1 42 = .ok (.iload 9, 2) := mj_d (q := (42, .iload 9, 2)) k_Mo_takeRoot 24 rfl
theorem d_Mo_takeRoot_44 : decode y_Mo_takeRoot.2.2.1 44 = .ok (.iaload, 1) := mj_d (q := (44, .iaload, 1)) k_Mo_takeRoot 25 rfl
theorem d_Mo_takeRoot_45 : decode y_Mo_takeRoot.2.2.1 45 = .ok (.iload 4, 2) := mj_d (q := (45, .iload 4, 2)) k_Mo_takeRoot 26 rfl
theorem d_Mo_takeRoot_47 : decode y_Mo_takeRoot.2.2.1 47 = .ok (.if_icmp .ne 7, 3) := mj_d (q := (47, .if_icmp .ne 7, 3)) k_Mo_takeRoot 27 rfl
theorem d_Mo_takeRoot_50 : decode y_Mo_takeRoot.2.2.1 50 = .ok (.iconst 1, 1) := mj_d (q := (50, .iconst 1, 1)) k_Mo_takeRoot 28 rfl
theorem d_Mo_takeRoot_51 : decode y_Mo_takeRoot.2.2.1 51 = .ok (.goto 4, 3) := mj_d (q := (51, .goto 4, 3)) k_Mo_takeRoot 29 rfl
theorem d_Mo_takeRoot_54 : decode y_Mo_takeRoot.2.2.1 54 = .ok (.iconst 0, 1) := mj_d (q := (54, .iconst 0, 1)) k_Mo_takeRoot 30 rfl
theorem d_Mo_takeRoot_55 : decode y_Mo_takeRoot.2.2.1 55 = .ok (.istore 10, 2) := mj_d (q := (55, .istore 10, 2)) k_Mo_takeRoot 31 rfl
theorem d_Mo_takeRoot_57 : decode y_Mo_takeRoot.2.2.1 57 = .ok (.aload_n 0, 1) := mj_d (q := (57, .aload_n 0, 1)) k_Mo_takeRoot 32 rfl
theorem d_Mo_takeRoot_58 : decode y_Mo_takeRoot.2.2.1 58 = .ok (.iload 5, 2) := mj_d (q := (58, .iload 5, 2)) k_Mo_takeRoot 33 rfl
theorem d_Mo_takeRoot_60 : decode y_Mo_takeRoot.2.2.1 60 = .ok (.invokevirtual 130, 3) := mj_d (q := (60, .invokevirtual 130, 3)) k_Mo_takeRoot 34 rfl
theorem d_Mo_takeRoot_63 : decode y_Mo_takeRoot.2.2.1 63 = .ok (.iload 10, 2) := mj_d (q := (63, .iload 10, 2)) k_Mo_takeRoot 35 rfl
theorem d_Mo_takeRoot_65 : decode y_Mo_takeRoot.2.2.1 65 = .ok (.ifCond .eq 71, 3) := mj_d (q := (65, .ifCond .eq 71, 3)) k_Mo_takeRoot 36 rfl
theorem d_Mo_takeRoot_68 : decode y_Mo_takeRoot.2.2.1 68 = .ok (.aload_n 0, 1) := mj_d (q := (68, .aload_n 0, 1)) k_Mo_takeRoot 37 rfl
theorem d_Mo_takeRoot_69 : decode y_Mo_takeRoot.2.2.1 69 = .ok (.iload 9, 2) := mj_d (q := (69, .iload 9, 2)) k_Mo_takeRoot 38 rfl
theorem d_Mo_takeRoot_71 : decode y_Mo_takeRoot.2.2.1 71 = .ok (.iload 5, 2) := mj_d (q := (71, .iload 5, 2)) k_Mo_takeRoot 39 rfl
theorem d_Mo_takeRoot_73 : decode y_Mo_takeRoot.2.2.1 73 = .ok (.iload 6, 2) := mj_d (q := (73, .iload 6, 2)) k_Mo_takeRoot 40 rfl
theorem d_Mo_takeRoot_75 : decode y_Mo_takeRoot.2.2.1 75 = .ok (.invokevirtual 133, 3) := mj_d (q := (75, .invokevirtual 133, 3)) k_Mo_takeRoot 41 rfl
theorem d_Mo_takeRoot_78 : decode y_Mo_takeRoot.2.2.1 78 = .ok (.ifCond .eq 45, 3) := mj_d (q := (78, .ifCond .eq 45, 3)) k_Mo_takeRoot 42 rfl
theorem d_Mo_takeRoot_81 : decode y_Mo_takeRoot.2.2.1 81 = .ok (.aload_n 0, 1) := mj_d (q := (81, .aload_n 0, 1)) k_Mo_takeRoot 43 rfl
theorem d_Mo_takeRoot_82 : decode y_Mo_takeRoot.2.2.1 82 = .ok (.iload 9, 2) := mj_d (q := (82, .iload 9, 2)) k_Mo_takeRoot 44 rfl
theorem d_Mo_takeRoot_84 : decode y_Mo_takeRoot.2.2.1 84 = .ok (.iload 5, 2) := mj_d (q := (84, .iload 5, 2)) k_Mo_takeRoot 45 rfl
theorem d_Mo_takeRoot_86 : decode y_Mo_takeRoot.2.2.1 86 = .ok (.iload 6, 2) := mj_d (q := (86, .iload 6, 2)) k_Mo_takeRoot 46 rfl
theorem d_Mo_takeRoot_88 : decode y_Mo_takeRoot.2.2.1 88 = .ok (.invokevirtual 151, 3) := mj_d (q := (88, .invokevirtual 151, 3)) k_Mo_takeRoot 47 rfl
theorem d_Mo_takeRoot_91 : decode y_Mo_takeRoot.2.2.1 91 = .ok (.lstore 11, 2) := mj_d (q := (91, .lstore 11, 2)) k_Mo_takeRoot 48 rfl
theorem d_Mo_takeRoot_93 : decode y_Mo_takeRoot.2.2.1 93 = .ok (.lload 7, 2) := mj_d (q := (93, .lload 7, 2)) k_Mo_takeRoot 49 rfl
theorem d_Mo_takeRoot_95 : decode y_Mo_takeRoot.2.2.1 95 = .ok (.lload 11, 2) := mj_d (q := (95, .lload 11, 2)) k_Mo_takeRoot 50 rfl
theorem d_Mo_takeRoot_97 : decode y_Mo_takeRoot.2.2.1 97 = .ok (.lcmp, 1) := mj_d (q := (97, .lcmp, 1)) k_Mo_takeRoot 51 rfl
theorem d_Mo_takeRoot_98 : decode y_Mo_takeRoot.2.2.1 98 = .ok (.ifCond .ge 18, 3) := mj_d (q := (98, .ifCond .ge 18, 3)) k_Mo_takeRoot 52 rfl
theorem d_Mo_takeRoot_101 : decode y_Mo_takeRoot.2.2.1 101 = .ok (.aload_n 0, 1) := mj_d (q := (101, .aload_n 0, 1)) k_Mo_takeRoot 53 rfl
theorem d_Mo_takeRoot_102 : decode y_Mo_takeRoot.2.2.1 102 = .ok (.iload 9, 2) := mj_d (q := (102, .iload 9, 2)) k_Mo_takeRoot 54 rfl
theorem d_Mo_takeRoot_104 : decode y_Mo_takeRoot.2.2.1 104 = .ok (.iload 5, 2) := mj_d (q := (104, .iload 5, 2)) k_Mo_takeRoot 55 rfl
theorem d_Mo_takeRoot_106 : decode y_Mo_takeRoot.2.2.1 106 = .ok (.iload 6, 2) := mj_d (q := (106, .iload 6, 2)) k_Mo_takeRoot 56 rfl
theorem d_Mo_takeRoot_108 : decode y_Mo_takeRoot.2.2.1 108 = .ok (.lload 7, 2) := mj_d (q := (108, .lload 7, 2)) k_Mo_takeRoot 57 rfl
theorem d_Mo_takeRoot_110 : decode y_Mo_takeRoot.2.2.1 110 = .ok (.invokevirtual 183, 3) := mj_d (q := (110, .invokevirtual 183, 3)) k_Mo_takeRoot 58 rfl
theorem d_Mo_takeRoot_113 : decode y_Mo_takeRoot.2.2.1 113 = .ok (.iload 9, 2) := mj_d (q := (113, .iload 9, 2)) k_Mo_takeRoot 59 rfl
theorem d_Mo_takeRoot_115 : decode y_Mo_takeRoot.2.2.1 115 = .ok (.ireturn, 1) := mj_d (q := (115, .ireturn, 1)) k_Mo_takeRoot 60 rfl
theorem d_Mo_takeRoot_116 : decode y_Mo_takeRoot.2.2.1 116 = .ok (.lload 7, 2) := mj_d (q := (116, .lload 7, 2)) k_Mo_takeRoot 61 rfl
theorem d_Mo_takeRoot_118 : decode y_Mo_takeRoot.2.2.1 118 = .ok (.lload 11, 2) := mj_d (q := (118, .lload 11, 2)) k_Mo_takeRoot 62 rfl
theorem d_Mo_takeRoot_120 : decode y_Mo_takeRoot.2.2.1 120 = .ok (.lsub, 1) := mj_d (q := (120, .lsub, 1)) k_Mo_takeRoot 63 rfl
theorem d_Mo_takeRoot_121 : decode y_Mo_takeRoot.2.2.1 121 = .ok (.lstore 7, 2) := mj_d (q := (121, .lstore 7, 2)) k_Mo_takeRoot 64 rfl
theorem d_Mo_takeRoot_123 : decode y_Mo_takeRoot.2.2.1 123 = .ok (.aload_n 0, 1) := mj_d (q := (123, .aload_n 0, 1)) k_Mo_takeRoot 65 rfl
theorem d_Mo_takeRoot_124 : decode y_Mo_takeRoot.2.2.1 124 = .ok (.iload 9, 2) := mj_d (q := (124, .iload 9, 2)) k_Mo_takeRoot 66 rfl
theorem d_Mo_takeRoot_126 : decode y_Mo_takeRoot.2.2.1 126 = .ok (.iload 6, 2) := mj_d (q := (126, .iload 6, 2)) k_Mo_takeRoot 67 rfl
theorem d_Mo_takeRoot_128 : decode y_Mo_takeRoot.2.2.1 128 = .ok (.invokevirtual 136, 3) := mj_d (q := (128, .invokevirtual 136, 3)) k_Mo_takeRoot 68 rfl
theorem d_Mo_takeRoot_131 : decode y_Mo_takeRoot.2.2.1 131 = .ok (.istore 10, 2) := mj_d (q := (131, .istore 10, 2)) k_Mo_takeRoot 69 rfl
theorem d_Mo_takeRoot_133 : decode y_Mo_takeRoot.2.2.1 133 = .ok (.goto (-70), 3) := mj_d (q := (133, .goto (-70), 3)) k_Mo_takeRoot 70 rfl
theorem d_Mo_takeRoot_136 : decode y_Mo_takeRoot.2.2.1 136 = .ok (.iinc 9 1, 3) := mj_d (q := (136, .iinc 9 1, 3)) k_Mo_takeRoot 71 rfl
theorem d_Mo_takeRoot_139 : decode y_Mo_takeRoot.2.2.1 139 = .ok (.goto (-110), 3) := mj_d (q := (139, .goto (-110), 3)) k_Mo_takeRoot 72 rfl
theorem d_Mo_takeRoot_142 : decode y_Mo_takeRoot.2.2.1 142 = .ok (.iconst (-1), 1) := mj_d (q := (142, .iconst (-1), 1)) k_Mo_takeRoot 73 rfl
theorem d_Mo_takeRoot_143 : decode y_Mo_takeRoot.2.2.1 143 = .ok (.ireturn, 1) := mj_d (q := (143, .ireturn, 1)) k_Mo_takeRoot 74 rfl
theorem d_Mo_comeAll_0 : decode y_Mo_comeAll.2.2.1 0 = .ok (.lload 4, 2) := mj_d (q := (0, .lload 4, 2)) k_Mo_comeAll 0 rfl
theorem d_Mo_comeAll_2 : decode y_Mo_comeAll.2.2.1 2 = .ok (.lstore 6, 2) := mj_d (q := (2, .lstore 6, 2)) k_Mo_comeAll 1 rfl
theorem d_Mo_comeAll_4 : decode y_Mo_comeAll.2.2.1 4 = .ok (.aload_n 0, 1) := mj_d (q := (4, .aload_n 0, 1)) k_Mo_comeAll 2 rfl
theorem d_Mo_comeAll_5 : decode y_Mo_comeAll.2.2.1 5 = .ok (.getfield 13, 3) := mj_d (q := (5, .getfield 13, 3)) k_Mo_comeAll 3 rfl
theorem d_Mo_comeAll_8 : decode y_Mo_comeAll.2.2.1 8 = .ok (.iload_n 1, 1) := mj_d (q := (8, .iload_n 1, 1)) k_Mo_comeAll 4 rfl
theorem d_Mo_comeAll_9 : decode y_Mo_comeAll.2.2.1 9 = .ok (.iaload, 1) := mj_d (q := (9, .iaload, 1)) k_Mo_comeAll 5 rfl
theorem d_Mo_comeAll_10 : decode y_Mo_comeAll.2.2.1 10 = .ok (.iconst 1, 1) := mj_d (q := (10, .iconst 1, 1)) k_Mo_comeAll 6 rfl
theorem d_Mo_comeAll_11 : decode y_Mo_comeAll.2.2.1 11 = .ok (.isub, 1) := mj_d (q := (11, .isub, 1)) k_Mo_comeAll 7 rfl
theorem d_Mo_comeAll_12 : decode y_Mo_comeAll.2.2.1 12 = .ok (.istore 8, 2) := mj_d (q := (12, .istore 8, 2)) k_Mo_comeAll 8 rfl
theorem d_Mo_comeAll_14 : decode y_Mo_comeAll.2.2.1 14 = .ok (.iload 8, 2) := mj_d (q := (14, .iload 8, 2)) k_Mo_comeAll 9 rfl
theorem d_Mo_comeAll_16 : decode y_Mo_comeAll.2.2.1 16 = .ok (.ifCond .lt 84, 3) := mj_d (q := (16, .ifCond .lt 84, 3)) k_Mo_comeAll 10 rfl
theorem d_Mo_comeAll_19 : decode y_Mo_comeAll.2.2.1 19 = .ok (.aload_n 0, 1) := mj_d (q := (19, .aload_n 0, 1)) k_Mo_comeAll 11 rfl
theorem d_Mo_comeAll_20 : decode y_Mo_comeAll.2.2.1 20 = .ok (.getfield 16, 3) := mj_d (q := (20, .getfield 16, 3)) k_Mo_comeAll 12 rfl
theorem d_Mo_comeAll_23 : decode y_Mo_comeAll.2.2.1 23 = .ok (.iconst 3, 1) := mj_d (q := (23, .iconst 3, 1)) k_Mo_comeAll 13 rfl
theorem d_Mo_comeAll_24 : decode y_Mo_comeAll.2.2.1 24 = .ok (.iload_n 1, 1) := mj_d (q := (24, .iload_n 1, 1)) k_Mo_comeAll 14 rfl
theorem d_Mo_comeAll_25 : decode y_Mo_comeAll.2.2.1 25 = .ok (.imul, 1) := mj_d (q := (25, .imul, 1)) k_Mo_comeAll 15 rfl
theorem d_Mo_comeAll_26 : decode y_Mo_comeAll.2.2.1 26 = .ok (.iload 8, 2) := mj_d (q := (26, .iload 8, 2)) k_Mo_comeAll 16 rfl
theorem d_Mo_comeAll_28 : decode y_Mo_comeAll.2.2.1 28 = .ok (.iadd, 1) := mj_d (q := (28, .iadd, 1)) k_Mo_comeAll 17 rfl
theorem d_Mo_comeAll_29 : decode y_Mo_comeAll.2.2.1 29 = .ok (.iaload, 1) := mj_d (q := (29, .iaload, 1)) k_Mo_comeAll 18 rfl
theorem d_Mo_comeAll_30 : decode y_Mo_comeAll.2.2.1 30 = .ok (.istore 9, 2) := mj_d (q := (30, .istore 9, 2)) k_Mo_comeAll 19 rfl
theorem d_Mo_comeAll_32 : decode y_Mo_comeAll.2.2.1 32 = .ok (.iload 9, 2) := mj_d (q := (32, .iload 9, 2)) k_Mo_comeAll 20 rfl
theorem d_Mo_comeAll_34 : decode y_Mo_comeAll.2.2.1 34 = .ok (.bipush 8, 2) := mj_d (q := (34, .bipush 8, 2)) k_Mo_comeAll 21 rfl
theorem d_Mo_comeAll_36 : decode y_Mo_comeAll.2.2.1 36 = .ok (.if_icmp .ge 58, 3) := mj_d (q := (36, .if_icmp .ge 58, 3)) k_Mo_comeAll 22 rfl
theorem d_Mo_comeAll_39 : decode y_Mo_comeAll.2.2.1 39 = .ok (.iload 9, 2) := mj_d (q := (39, .iload 9, 2)) k_Mo_comeAll 23 rfl
theorem d_Mo_comeAll_41 : decode y_Mo_comeAll.2.2.1 41 = .ok (.aload_n 0, 1) := mj_d (q := (41, .aload_n 0, 1)) k_Mo_comeAll 24 rfl
theorem d_Mo_comeAll_42 : decode y_Mo_comeAll.2.2.1 42 = .ok (.iload_n 1, 1) := mj_d (q := (42, .iload_n 1, 1)) k_Mo_comeAll 25 rfl
theorem d_Mo_comeAll_43 : decode y_Mo_comeAll.2.2.1 43 = .ok (.iload 8, 2) := mj_d (q := (43, .iload 8, 2)) k_Mo_comeAll 26 rfl
theorem d_Mo_comeAll_45 : decode y_Mo_comeAll.2.2.1 45 = .ok (.iload_n 2, 1) := mj_d (q := (45, .iload_n 2, 1)) k_Mo_comeAll 27 rfl
theorem d_Mo_comeAll_46 : decode y_Mo_comeAll.2.2.1 46 = .ok (.iload_n 3, 1) := mj_d (q := (46, .iload_n 3, 1)) k_Mo_comeAll 28 rfl
theorem d_Mo_comeAll_47 : decode y_Mo_comeAll.2.2.1 47 = .ok (.invokevirtual 123, 3) := mj_d (q := (47, .invokevirtual 123, 3)) k_Mo_comeAll 29 rfl
theorem d_Mo_comeAll_50 : decode y_Mo_comeAll.2.2.1 50 = .ok (.aload_n 0, 1) := mj_d (q := (50, .aload_n 0, 1)) k_Mo_comeAll 30 rfl
theorem d_Mo_comeAll_51 : decode y_Mo_comeAll.2.2.1 51 = .ok (.iload_n 1, 1) := mj_d (q := (51, .iload_n 1, 1)) k_Mo_comeAll 31 rfl
theorem d_Mo_comeAll_52 : decode y_Mo_comeAll.2.2.1 52 = .ok (.iload 8, 2) := mj_d (q := (52, .iload 8, 2)) k_Mo_comeAll 32 rfl
theorem d_Mo_comeAll_54 : decode y_Mo_comeAll.2.2.1 54 = .ok (.iconst 1, 1) := mj_d (q := (54, .iconst 1, 1)) k_Mo_comeAll 33 rfl
theorem d_Mo_comeAll_55 : decode y_Mo_comeAll.2.2.1 55 = .ok (.iadd, 1) := mj_d (q := (55, .iadd, 1)) k_Mo_comeAll 34 rfl
theorem d_Mo_comeAll_56 : decode y_Mo_comeAll.2.2.1 56 = .ok (.iload_n 2, 1) := mj_d (q := (56, .iload_n 2, 1)) k_Mo_comeAll 35 rfl
theorem d_Mo_comeAll_57 : decode y_Mo_comeAll.2.2.1 57 = .ok (.iload_n 3, 1) := mj_d (q := (57, .iload_n 3, 1)) k_Mo_comeAll 36 rfl
theorem d_Mo_comeAll_58 : decode y_Mo_comeAll.2.2.1 58 = .ok (.invokevirtual 123, 3) := mj_d (q := (58, .invokevirtual 123, 3)) k_Mo_comeAll 37 rfl
theorem d_Mo_comeAll_61 : decode y_Mo_comeAll.2.2.1 61 = .ok (.invokestatic 113, 3) := mj_d (q := (61, .invokestatic 113, 3)) k_Mo_comeAll 38 rfl
theorem d_Mo_comeAll_64 : decode y_Mo_comeAll.2.2.1 64 = .ok (.istore 10, 2) := mj_d (q := (64, .istore 10, 2)) k_Mo_comeAll 39 rfl
theorem d_Mo_comeAll_66 : decode y_Mo_comeAll.2.2.1 66 = .ok (.aload_n 0, 1) := mj_d (q := (66, .aload_n 0, 1)) k_Mo_comeAll 40 rfl
theorem d_Mo_comeAll_67 : decode y_Mo_comeAll.2.2.1 67 = .ok (.iload 10, 2) := mj_d (q := (67, .iload 10, 2)) k_Mo_comeAll 41 rfl
theorem d_Mo_comeAll_69 : decode y_Mo_comeAll.2.2.1 69 = .ok (.lload 6, 2) := mj_d (q := (69, .lload 6, 2)) k_Mo_comeAll 42 rfl
theorem d_Mo_comeAll_71 : decode y_Mo_comeAll.2.2.1 71 = .ok (.aload_n 0, 1) := mj_d (q := (71, .aload_n 0, 1)) k_Mo_comeAll 43 rfl
theorem d_Mo_comeAll_72 : decode y_Mo_comeAll.2.2.1 72 = .ok (.getfield 32, 3) := mj_d (q := (72, .getfield 32, 3)) k_Mo_comeAll 44 rfl
theorem d_Mo_comeAll_75 : decode y_Mo_comeAll.2.2.1 75 = .ok (.iload 10, 2) := mj_d (q := (75, .iload 10, 2)) k_Mo_comeAll 45 rfl
theorem d_Mo_comeAll_77 : decode y_Mo_comeAll.2.2.1 77 = .ok (.laload, 1) := mj_d (q := (77, .laload, 1)) k_Mo_comeAll 46 rfl
theorem d_Mo_comeAll_78 : decode y_Mo_comeAll.2.2.1 78 = .ok (.lrem, 1) := mj_d (q := (78, .lrem, 1)) k_Mo_comeAll 47 rfl
theorem d_Mo_comeAll_79 : decode y_Mo_comeAll.2.2.1 79 = .ok (.invokevirtual 179, 3) := mj_d (q := (79, .invokevirtual 179, 3)) k_Mo_comeAll 48 rfl
theorem d_Mo_comeAll_82 : decode y_Mo_comeAll.2.2.1 82 = .ok (.lload 6, 2) := mj_d (q := (82, .lload 6, 2)) k_Mo_comeAll 49 rfl
theorem d_Mo_comeAll_84 : decode y_Mo_comeAll.2.2.1 84 = .ok (.aload_n 0, 1) := mj_d (q := (84, .aload_n 0, 1)) k_Mo_comeAll 50 rfl
theorem d_Mo_comeAll_85 : decode y_Mo_comeAll.2.2.1 85 = .ok (.getfield 32, 3) := mj_d (q := (85, .getfield 32, 3)) k_Mo_comeAll 51 rfl
theorem d_Mo_comeAll_88 : decode y_Mo_comeAll.2.2.1 88 = .ok (.iload 10, 2) := mj_d (q := (88, .iload 10, 2)) k_Mo_comeAll 52 rfl
theorem d_Mo_comeAll_90 : decode y_Mo_comeAll.2.2.1 90 = .ok (.laload, 1) := mj_d (q := (90, .laload, 1)) k_Mo_comeAll 53 rfl
theorem d_Mo_comeAll_91 : decode y_Mo_comeAll.2.2.1 91 = .ok (.ldiv, 1) := mj_d (q := (91, .ldiv, 1)) k_Mo_comeAll 54 rfl
theorem d_Mo_comeAll_92 : decode y_Mo_comeAll.2.2.1 92 = .ok (.lstore 6, 2) := mj_d (q := (92, .lstore 6, 2)) k_Mo_comeAll 55 rfl
theorem d_Mo_comeAll_94 : decode y_Mo_comeAll.2.2.1 94 = .ok (.iinc 8 (-1), 3) := mj_d (q := (94, .iinc 8 (-1), 3)) k_Mo_comeAll 56 rfl
theorem d_Mo_comeAll_97 : decode y_Mo_comeAll.2.2.1 97 = .ok (.goto (-83), 3) := mj_d (q := (97, .goto (-83), 3)) k_Mo_comeAll 57 rfl
theorem d_Mo_comeAll_100 : decode y_Mo_comeAll.2.2.1 100 = .ok (.return_, 1) := mj_d (q := (100, .return_, 1)) k_Mo_comeAll 58 rfl
end
