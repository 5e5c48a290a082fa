section
-- ===== PART A: goes FIRST, ahead of the names: the tables' words, and 'selects' of the private methods out of them =====
/-- a private method of a class that the tables say can be made, by its rows of tables_1 -/
def lw_okq (q : MethodName × Nat) : Prop := (q.1.cls ≠ "java/lang/invoke/MethodHandle" ∧ q.1.cls ≠ "java/lang/invoke/VarHandle") ∧ Cond.instantiable q.1.cls q.2 ∈ tables_1 ∧ Cond.privateMethod q.1 ∈ tables_1 ∧ Cond.instanceMethod q.1 ∈ tables_1
theorem lw_p0 : lw_okq (⟨"ChartForest$Chart", "empty", "(I)V"⟩, 8) := ⟨⟨by decide +kernel, by decide +kernel⟩, List.mem_of_getElem? (i := 67) (by decide +kernel), List.mem_of_getElem? (i := 186) (by decide +kernel), List.mem_of_getElem? (i := 187) (by decide +kernel)⟩
theorem lw_p1 : lw_okq (⟨"ChartForest$Chart", "put", "(III)V"⟩, 8) := ⟨⟨by decide +kernel, by decide +kernel⟩, List.mem_of_getElem? (i := 67) (by decide +kernel), List.mem_of_getElem? (i := 191) (by decide +kernel), List.mem_of_getElem? (i := 192) (by decide +kernel)⟩
theorem lw_p2 : lw_okq (⟨"ChartForest$Chart", "close", "(I)V"⟩, 8) := ⟨⟨by decide +kernel, by decide +kernel⟩, List.mem_of_getElem? (i := 67) (by decide +kernel), List.mem_of_getElem? (i := 199) (by decide +kernel), List.mem_of_getElem? (i := 200) (by decide +kernel)⟩
theorem lw_p3 : lw_okq (⟨"ChartForest$Chart", "leftSide", "(I)I"⟩, 8) := ⟨⟨by decide +kernel, by decide +kernel⟩, List.mem_of_getElem? (i := 67) (by decide +kernel), List.mem_of_getElem? (i := 203) (by decide +kernel), List.mem_of_getElem? (i := 204) (by decide +kernel)⟩
theorem lw_p4 : lw_okq (⟨"ChartForest$Chart", "complete", "(III)V"⟩, 8) := ⟨⟨by decide +kernel, by decide +kernel⟩, List.mem_of_getElem? (i := 67) (by decide +kernel), List.mem_of_getElem? (i := 211) (by decide +kernel), List.mem_of_getElem? (i := 212) (by decide +kernel)⟩
theorem lw_p5 : lw_okq (⟨"ChartForest$Chart", "advance", "(III)V"⟩, 8) := ⟨⟨by decide +kernel, by decide +kernel⟩, List.mem_of_getElem? (i := 67) (by decide +kernel), List.mem_of_getElem? (i := 215) (by decide +kernel), List.mem_of_getElem? (i := 216) (by decide +kernel)⟩
theorem lw_p6 : lw_okq (⟨"ChartForest$Chart", "predict", "(II)V"⟩, 8) := ⟨⟨by decide +kernel, by decide +kernel⟩, List.mem_of_getElem? (i := 67) (by decide +kernel), List.mem_of_getElem? (i := 222) (by decide +kernel), List.mem_of_getElem? (i := 223) (by decide +kernel)⟩
theorem lw_p7 : lw_okq (⟨"ChartForest$Forest", "findDeriving", "(II)V"⟩, 8) := ⟨⟨by decide +kernel, by decide +kernel⟩, List.mem_of_getElem? (i := 101) (by decide +kernel), List.mem_of_getElem? (i := 271) (by decide +kernel), List.mem_of_getElem? (i := 272) (by decide +kernel)⟩
theorem lw_p8 : lw_okq (⟨"ChartForest$Ways", "gatherRule", "(I)V"⟩, 8) := ⟨⟨by decide +kernel, by decide +kernel⟩, List.mem_of_getElem? (i := 123) (by decide +kernel), List.mem_of_getElem? (i := 283) (by decide +kernel), List.mem_of_getElem? (i := 284) (by decide +kernel)⟩
theorem lw_p9 : lw_okq (⟨"ChartForest$Ways", "keep", "(IIIJ)V"⟩, 8) := ⟨⟨by decide +kernel, by decide +kernel⟩, List.mem_of_getElem? (i := 123) (by decide +kernel), List.mem_of_getElem? (i := 302) (by decide +kernel), List.mem_of_getElem? (i := 303) (by decide +kernel)⟩
theorem lw_p10 : lw_okq (⟨"ChartForest$Forest", "countTrees", "(II)V"⟩, 8) := ⟨⟨by decide +kernel, by decide +kernel⟩, List.mem_of_getElem? (i := 101) (by decide +kernel), List.mem_of_getElem? (i := 307) (by decide +kernel), List.mem_of_getElem? (i := 308) (by decide +kernel)⟩
theorem lw_p11 : lw_okq (⟨"ChartForest$Forest", "meet", "(I)V"⟩, 8) := ⟨⟨by decide +kernel, by decide +kernel⟩, List.mem_of_getElem? (i := 101) (by decide +kernel), List.mem_of_getElem? (i := 330) (by decide +kernel), List.mem_of_getElem? (i := 331) (by decide +kernel)⟩
theorem lw_p12 : lw_okq (⟨"ChartForest$Forest", "gatherCell", "(I)V"⟩, 8) := ⟨⟨by decide +kernel, by decide +kernel⟩, List.mem_of_getElem? (i := 101) (by decide +kernel), List.mem_of_getElem? (i := 334) (by decide +kernel), List.mem_of_getElem? (i := 335) (by decide +kernel)⟩
theorem lw_p13 : lw_okq (⟨"ChartForest$Forest", "meetParts", "(I)V"⟩, 8) := ⟨⟨by decide +kernel, by decide +kernel⟩, List.mem_of_getElem? (i := 101) (by decide +kernel), List.mem_of_getElem? (i := 338) (by decide +kernel), List.mem_of_getElem? (i := 339) (by decide +kernel)⟩
theorem lw_p14 : lw_okq (⟨"ChartForest$Forest", "partCell", "(II)I"⟩, 8) := ⟨⟨by decide +kernel, by decide +kernel⟩, List.mem_of_getElem? (i := 101) (by decide +kernel), List.mem_of_getElem? (i := 347) (by decide +kernel), List.mem_of_getElem? (i := 348) (by decide +kernel)⟩
theorem lw_p15 : lw_okq (⟨"java/lang/Throwable", "fillInStackTrace", "(I)Ljava/lang/Throwable;"⟩, 6) := ⟨⟨by decide +kernel, by decide +kernel⟩, List.mem_of_getElem? (i := 414) (by decide +kernel), List.mem_of_getElem? (i := 412) (by decide +kernel), List.mem_of_getElem? (i := 413) (by decide +kernel)⟩
def lw_privs_1 : List (MethodName × Nat) := [(⟨"ChartForest$Chart", "empty", "(I)V"⟩, 8), (⟨"ChartForest$Chart", "put", "(III)V"⟩, 8), (⟨"ChartForest$Chart", "close", "(I)V"⟩, 8), (⟨"ChartForest$Chart", "leftSide", "(I)I"⟩, 8), (⟨"ChartForest$Chart", "complete", "(III)V"⟩, 8), (⟨"ChartForest$Chart", "advance", "(III)V"⟩, 8), (⟨"ChartForest$Chart", "predict", "(II)V"⟩, 8), (⟨"ChartForest$Forest", "findDeriving", "(II)V"⟩, 8), (⟨"ChartForest$Ways", "gatherRule", "(I)V"⟩, 8), (⟨"ChartForest$Ways", "keep", "(IIIJ)V"⟩, 8), (⟨"ChartForest$Forest", "countTrees", "(II)V"⟩, 8), (⟨"ChartForest$Forest", "meet", "(I)V"⟩, 8), (⟨"ChartForest$Forest", "gatherCell", "(I)V"⟩, 8), (⟨"ChartForest$Forest", "meetParts", "(I)V"⟩, 8), (⟨"ChartForest$Forest", "partCell", "(II)I"⟩, 8), (⟨"java/lang/Throwable", "fillInStackTrace", "(I)Ljava/lang/Throwable;"⟩, 6)]
theorem lw_r1 : ∀ q ∈ lw_privs_1, lw_okq q := List.forall_mem_cons.mpr ⟨lw_p0, List.forall_mem_cons.mpr ⟨lw_p1, List.forall_mem_cons.mpr ⟨lw_p2, List.forall_mem_cons.mpr ⟨lw_p3, List.forall_mem_cons.mpr ⟨lw_p4, List.forall_mem_cons.mpr ⟨lw_p5, List.forall_mem_cons.mpr ⟨lw_p6, List.forall_mem_cons.mpr ⟨lw_p7, List.forall_mem_cons.mpr ⟨lw_p8, List.forall_mem_cons.mpr ⟨lw_p9, List.forall_mem_cons.mpr ⟨lw_p10, List.forall_mem_cons.mpr ⟨lw_p11, List.forall_mem_cons.mpr ⟨lw_p12, List.forall_mem_cons.mpr ⟨lw_p13, List.forall_mem_cons.mpr ⟨lw_p14, List.forall_mem_cons.mpr ⟨lw_p15, fun _ h => absurd h List.not_mem_nil⟩⟩⟩⟩⟩⟩⟩⟩⟩⟩⟩⟩⟩⟩⟩⟩
theorem lw_p16 : lw_okq (⟨"ChartForest$Chart", "nameLeaps", "(I)V"⟩, 8) := ⟨⟨by decide +kernel, by decide +kernel⟩, List.mem_of_getElem? (i := 67) (by decide +kernel), List.mem_of_getElem? (i := 498) (by decide +kernel), List.mem_of_getElem? (i := 499) (by decide +kernel)⟩
theorem lw_p17 : lw_okq (⟨"ChartForest$Chart", "leapItem", "(II)I"⟩, 8) := ⟨⟨by decide +kernel, by decide +kernel⟩, List.mem_of_getElem? (i := 67) (by decide +kernel), List.mem_of_getElem? (i := 502) (by decide +kernel), List.mem_of_getElem? (i := 503) (by decide +kernel)⟩
theorem lw_p18 : lw_okq (⟨"ChartForest$Chart", "loneSlot", "(II)I"⟩, 8) := ⟨⟨by decide +kernel, by decide +kernel⟩, List.mem_of_getElem? (i := 67) (by decide +kernel), List.mem_of_getElem? (i := 506) (by decide +kernel), List.mem_of_getElem? (i := 507) (by decide +kernel)⟩
theorem lw_p19 : lw_okq (⟨"ChartForest", "isSet", "(I)Z"⟩, 4) := ⟨⟨by decide +kernel, by decide +kernel⟩, List.mem_of_getElem? (i := 19) (by decide +kernel), List.mem_of_getElem? (i := 531) (by decide +kernel), List.mem_of_getElem? (i := 532) (by decide +kernel)⟩
theorem lw_p20 : lw_okq (⟨"ChartForest", "isStretch", "(II)Z"⟩, 4) := ⟨⟨by decide +kernel, by decide +kernel⟩, List.mem_of_getElem? (i := 19) (by decide +kernel), List.mem_of_getElem? (i := 575) (by decide +kernel), List.mem_of_getElem? (i := 576) (by decide +kernel)⟩
theorem lw_p21 : lw_okq (⟨"ChartForest$Forest", "push", "(IJ)V"⟩, 8) := ⟨⟨by decide +kernel, by decide +kernel⟩, List.mem_of_getElem? (i := 101) (by decide +kernel), List.mem_of_getElem? (i := 602) (by decide +kernel), List.mem_of_getElem? (i := 603) (by decide +kernel)⟩
theorem lw_p22 : lw_okq (⟨"ChartForest$Forest", "pushParts", "(IJ)V"⟩, 8) := ⟨⟨by decide +kernel, by decide +kernel⟩, List.mem_of_getElem? (i := 101) (by decide +kernel), List.mem_of_getElem? (i := 607) (by decide +kernel), List.mem_of_getElem? (i := 608) (by decide +kernel)⟩
theorem lw_p23 : lw_okq (⟨"ChartForestModel", "makeSet", "(I)V"⟩, 19) := ⟨⟨by decide +kernel, by decide +kernel⟩, List.mem_of_getElem? (i := 617) (by decide +kernel), List.mem_of_getElem? (i := 623) (by decide +kernel), List.mem_of_getElem? (i := 624) (by decide +kernel)⟩
theorem lw_p24 : lw_okq (⟨"ChartForestModel", "behind", "(II)I"⟩, 19) := ⟨⟨by decide +kernel, by decide +kernel⟩, List.mem_of_getElem? (i := 617) (by decide +kernel), List.mem_of_getElem? (i := 627) (by decide +kernel), List.mem_of_getElem? (i := 628) (by decide +kernel)⟩
theorem lw_p25 : lw_okq (⟨"ChartForestModel", "lengthOf", "(I)I"⟩, 19) := ⟨⟨by decide +kernel, by decide +kernel⟩, List.mem_of_getElem? (i := 617) (by decide +kernel), List.mem_of_getElem? (i := 631) (by decide +kernel), List.mem_of_getElem? (i := 632) (by decide +kernel)⟩
theorem lw_p26 : lw_okq (⟨"ChartForestModel", "close", "(I)V"⟩, 19) := ⟨⟨by decide +kernel, by decide +kernel⟩, List.mem_of_getElem? (i := 617) (by decide +kernel), List.mem_of_getElem? (i := 635) (by decide +kernel), List.mem_of_getElem? (i := 636) (by decide +kernel)⟩
theorem lw_p27 : lw_okq (⟨"ChartForestModel", "follow", "(IIII)I"⟩, 19) := ⟨⟨by decide +kernel, by decide +kernel⟩, List.mem_of_getElem? (i := 617) (by decide +kernel), List.mem_of_getElem? (i := 639) (by decide +kernel), List.mem_of_getElem? (i := 640) (by decide +kernel)⟩
theorem lw_p28 : lw_okq (⟨"ChartForestModel", "add", "(IIII)I"⟩, 19) := ⟨⟨by decide +kernel, by decide +kernel⟩, List.mem_of_getElem? (i := 617) (by decide +kernel), List.mem_of_getElem? (i := 646) (by decide +kernel), List.mem_of_getElem? (i := 647) (by decide +kernel)⟩
theorem lw_p29 : lw_okq (⟨"ChartForestModel", "leapOf", "(II)I"⟩, 19) := ⟨⟨by decide +kernel, by decide +kernel⟩, List.mem_of_getElem? (i := 617) (by decide +kernel), List.mem_of_getElem? (i := 653) (by decide +kernel), List.mem_of_getElem? (i := 654) (by decide +kernel)⟩
theorem lw_p30 : lw_okq (⟨"ChartForestModel", "refuse", "(I)I"⟩, 19) := ⟨⟨by decide +kernel, by decide +kernel⟩, List.mem_of_getElem? (i := 617) (by decide +kernel), List.mem_of_getElem? (i := 723) (by decide +kernel), List.mem_of_getElem? (i := 724) (by decide +kernel)⟩
theorem lw_p31 : lw_okq (⟨"ChartForestModel", "expectedIn", "(I)I"⟩, 19) := ⟨⟨by decide +kernel, by decide +kernel⟩, List.mem_of_getElem? (i := 617) (by decide +kernel), List.mem_of_getElem? (i := 734) (by decide +kernel), List.mem_of_getElem? (i := 735) (by decide +kernel)⟩
def lw_privs_2 : List (MethodName × Nat) := [(⟨"ChartForest$Chart", "nameLeaps", "(I)V"⟩, 8), (⟨"ChartForest$Chart", "leapItem", "(II)I"⟩, 8), (⟨"ChartForest$Chart", "loneSlot", "(II)I"⟩, 8), (⟨"ChartForest", "isSet", "(I)Z"⟩, 4), (⟨"ChartForest", "isStretch", "(II)Z"⟩, 4), (⟨"ChartForest$Forest", "push", "(IJ)V"⟩, 8), (⟨"ChartForest$Forest", "pushParts", "(IJ)V"⟩, 8), (⟨"ChartForestModel", "makeSet", "(I)V"⟩, 19), (⟨"ChartForestModel", "behind", "(II)I"⟩, 19), (⟨"ChartForestModel", "lengthOf", "(I)I"⟩, 19), (⟨"ChartForestModel", "close", "(I)V"⟩, 19), (⟨"ChartForestModel", "follow", "(IIII)I"⟩, 19), (⟨"ChartForestModel", "add", "(IIII)I"⟩, 19), (⟨"ChartForestModel", "leapOf", "(II)I"⟩, 19), (⟨"ChartForestModel", "refuse", "(I)I"⟩, 19), (⟨"ChartForestModel", "expectedIn", "(I)I"⟩, 19)]
theorem lw_r2 : ∀ q ∈ lw_privs_2, lw_okq q := List.forall_mem_cons.mpr ⟨lw_p16, List.forall_mem_cons.mpr ⟨lw_p17, List.forall_mem_cons.mpr ⟨lw_p18, List.forall_mem_cons.mpr ⟨lw_p19, List.forall_mem_cons.mpr ⟨lw_p20, List.forall_mem_cons.mpr ⟨lw_p21, List.forall_mem_cons.mpr ⟨lw_p22, List.forall_mem_cons.mpr ⟨lw_p23, List.forall_mem_cons.mpr ⟨lw_p24, List.forall_mem_cons.mpr ⟨lw_p25, List.forall_mem_cons.mpr ⟨lw_p26, List.forall_mem_cons.mpr ⟨lw_p27, List.forall_mem_cons.mpr ⟨lw_p28, List.forall_mem_cons.mpr ⟨lw_p29, List.forall_mem_cons.mpr ⟨lw_p30, List.forall_mem_cons.mpr ⟨lw_p31, fun _ h => absurd h List.not_mem_nil⟩⟩⟩⟩⟩⟩⟩⟩⟩⟩⟩⟩⟩⟩⟩⟩
theorem lw_p32 : lw_okq (⟨"ChartForestModel", "sizeOf", "(I)I"⟩, 19) := ⟨⟨by decide +kernel, by decide +kernel⟩, List.mem_of_getElem? (i := 617) (by decide +kernel), List.mem_of_getElem? (i := 738) (by decide +kernel), List.mem_of_getElem? (i := 739) (by decide +kernel)⟩
theorem lw_p33 : lw_okq (⟨"ChartForestModel", "holds", "(IIII)Z"⟩, 19) := ⟨⟨by decide +kernel, by decide +kernel⟩, List.mem_of_getElem? (i := 617) (by decide +kernel), List.mem_of_getElem? (i := 754) (by decide +kernel), List.mem_of_getElem? (i := 755) (by decide +kernel)⟩
theorem lw_p34 : lw_okq (⟨"ChartForestModel", "isSet", "(I)Z"⟩, 19) := ⟨⟨by decide +kernel, by decide +kernel⟩, List.mem_of_getElem? (i := 617) (by decide +kernel), List.mem_of_getElem? (i := 766) (by decide +kernel), List.mem_of_getElem? (i := 767) (by decide +kernel)⟩
theorem lw_p35 : lw_okq (⟨"ChartForestModel", "isStretch", "(III)Z"⟩, 19) := ⟨⟨by decide +kernel, by decide +kernel⟩, List.mem_of_getElem? (i := 617) (by decide +kernel), List.mem_of_getElem? (i := 782) (by decide +kernel), List.mem_of_getElem? (i := 783) (by decide +kernel)⟩
theorem lw_p36 : lw_okq (⟨"ChartForestModel", "work", "()V"⟩, 19) := ⟨⟨by decide +kernel, by decide +kernel⟩, List.mem_of_getElem? (i := 617) (by decide +kernel), List.mem_of_getElem? (i := 786) (by decide +kernel), List.mem_of_getElem? (i := 787) (by decide +kernel)⟩
theorem lw_p37 : lw_okq (⟨"ChartForestModel", "findDerived", "()V"⟩, 19) := ⟨⟨by decide +kernel, by decide +kernel⟩, List.mem_of_getElem? (i := 617) (by decide +kernel), List.mem_of_getElem? (i := 790) (by decide +kernel), List.mem_of_getElem? (i := 791) (by decide +kernel)⟩
theorem lw_p38 : lw_okq (⟨"ChartForestModel", "waysBy", "(III)I"⟩, 19) := ⟨⟨by decide +kernel, by decide +kernel⟩, List.mem_of_getElem? (i := 617) (by decide +kernel), List.mem_of_getElem? (i := 797) (by decide +kernel), List.mem_of_getElem? (i := 798) (by decide +kernel)⟩
theorem lw_p39 : lw_okq (⟨"ChartForestModel", "firstCuts", "(I)V"⟩, 19) := ⟨⟨by decide +kernel, by decide +kernel⟩, List.mem_of_getElem? (i := 617) (by decide +kernel), List.mem_of_getElem? (i := 801) (by decide +kernel), List.mem_of_getElem? (i := 802) (by decide +kernel)⟩
theorem lw_p40 : lw_okq (⟨"ChartForestModel", "isWay", "(III)Z"⟩, 19) := ⟨⟨by decide +kernel, by decide +kernel⟩, List.mem_of_getElem? (i := 617) (by decide +kernel), List.mem_of_getElem? (i := 805) (by decide +kernel), List.mem_of_getElem? (i := 806) (by decide +kernel)⟩
theorem lw_p41 : lw_okq (⟨"ChartForestModel", "cut", "(IIII)I"⟩, 19) := ⟨⟨by decide +kernel, by decide +kernel⟩, List.mem_of_getElem? (i := 617) (by decide +kernel), List.mem_of_getElem? (i := 809) (by decide +kernel), List.mem_of_getElem? (i := 810) (by decide +kernel)⟩
theorem lw_p42 : lw_okq (⟨"ChartForestModel", "isDerived", "(III)Z"⟩, 19) := ⟨⟨by decide +kernel, by decide +kernel⟩, List.mem_of_getElem? (i := 617) (by decide +kernel), List.mem_of_getElem? (i := 813) (by decide +kernel), List.mem_of_getElem? (i := 814) (by decide +kernel)⟩
theorem lw_p43 : lw_okq (⟨"ChartForestModel", "nextCuts", "(II)Z"⟩, 19) := ⟨⟨by decide +kernel, by decide +kernel⟩, List.mem_of_getElem? (i := 617) (by decide +kernel), List.mem_of_getElem? (i := 817) (by decide +kernel), List.mem_of_getElem? (i := 818) (by decide +kernel)⟩
theorem lw_p44 : lw_okq (⟨"ChartForestModel", "sum", "(III)J"⟩, 19) := ⟨⟨by decide +kernel, by decide +kernel⟩, List.mem_of_getElem? (i := 617) (by decide +kernel), List.mem_of_getElem? (i := 822) (by decide +kernel), List.mem_of_getElem? (i := 823) (by decide +kernel)⟩
theorem lw_p45 : lw_okq (⟨"ChartForestModel", "byWay", "(III)J"⟩, 19) := ⟨⟨by decide +kernel, by decide +kernel⟩, List.mem_of_getElem? (i := 617) (by decide +kernel), List.mem_of_getElem? (i := 826) (by decide +kernel), List.mem_of_getElem? (i := 827) (by decide +kernel)⟩
theorem lw_p46 : lw_okq (⟨"ChartForestModel", "treesOf", "(III)J"⟩, 19) := ⟨⟨by decide +kernel, by decide +kernel⟩, List.mem_of_getElem? (i := 617) (by decide +kernel), List.mem_of_getElem? (i := 838) (by decide +kernel), List.mem_of_getElem? (i := 839) (by decide +kernel)⟩
theorem lw_p47 : lw_okq (⟨"ChartForestModel", "meetAll", "(III)Z"⟩, 19) := ⟨⟨by decide +kernel, by decide +kernel⟩, List.mem_of_getElem? (i := 617) (by decide +kernel), List.mem_of_getElem? (i := 846) (by decide +kernel), List.mem_of_getElem? (i := 847) (by decide +kernel)⟩
def lw_privs_3 : List (MethodName × Nat) := [(⟨"ChartForestModel", "sizeOf", "(I)I"⟩, 19), (⟨"ChartForestModel", "holds", "(IIII)Z"⟩, 19), (⟨"ChartForestModel", "isSet", "(I)Z"⟩, 19), (⟨"ChartForestModel", "isStretch", "(III)Z"⟩, 19), (⟨"ChartForestModel", "work", "()V"⟩, 19), (⟨"ChartForestModel", "findDerived", "()V"⟩, 19), (⟨"ChartForestModel", "waysBy", "(III)I"⟩, 19), (⟨"ChartForestModel", "firstCuts", "(I)V"⟩, 19), (⟨"ChartForestModel", "isWay", "(III)Z"⟩, 19), (⟨"ChartForestModel", "cut", "(IIII)I"⟩, 19), (⟨"ChartForestModel", "isDerived", "(III)Z"⟩, 19), (⟨"ChartForestModel", "nextCuts", "(II)Z"⟩, 19), (⟨"ChartForestModel", "sum", "(III)J"⟩, 19), (⟨"ChartForestModel", "byWay", "(III)J"⟩, 19), (⟨"ChartForestModel", "treesOf", "(III)J"⟩, 19), (⟨"ChartForestModel", "meetAll", "(III)Z"⟩, 19)]
theorem lw_r3 : ∀ q ∈ lw_privs_3, lw_okq q := List.forall_mem_cons.mpr ⟨lw_p32, List.forall_mem_cons.mpr ⟨lw_p33, List.forall_mem_cons.mpr ⟨lw_p34, List.forall_mem_cons.mpr ⟨lw_p35, List.forall_mem_cons.mpr ⟨lw_p36, List.forall_mem_cons.mpr ⟨lw_p37, List.forall_mem_cons.mpr ⟨lw_p38, List.forall_mem_cons.mpr ⟨lw_p39, List.forall_mem_cons.mpr ⟨lw_p40, List.forall_mem_cons.mpr ⟨lw_p41, List.forall_mem_cons.mpr ⟨lw_p42, List.forall_mem_cons.mpr ⟨lw_p43, List.forall_mem_cons.mpr ⟨lw_p44, List.forall_mem_cons.mpr ⟨lw_p45, List.forall_mem_cons.mpr ⟨lw_p46, List.forall_mem_cons.mpr ⟨lw_p47, fun _ h => absurd h List.not_mem_nil⟩⟩⟩⟩⟩⟩⟩⟩⟩⟩⟩⟩⟩⟩⟩⟩
theorem lw_p48 : lw_okq (⟨"ChartForestModel", "meet", "(III)I"⟩, 19) := ⟨⟨by decide +kernel, by decide +kernel⟩, List.mem_of_getElem? (i := 617) (by decide +kernel), List.mem_of_getElem? (i := 850) (by decide +kernel), List.mem_of_getElem? (i := 851) (by decide +kernel)⟩
theorem lw_p49 : lw_okq (⟨"ChartForestModel", "come", "(IJ)V"⟩, 19) := ⟨⟨by decide +kernel, by decide +kernel⟩, List.mem_of_getElem? (i := 617) (by decide +kernel), List.mem_of_getElem? (i := 858) (by decide +kernel), List.mem_of_getElem? (i := 859) (by decide +kernel)⟩
theorem lw_p50 : lw_okq (⟨"ChartForestModel", "takeRoot", "(IJ)I"⟩, 19) := ⟨⟨by decide +kernel, by decide +kernel⟩, List.mem_of_getElem? (i := 617) (by decide +kernel), List.mem_of_getElem? (i := 862) (by decide +kernel), List.mem_of_getElem? (i := 863) (by decide +kernel)⟩
theorem lw_p51 : lw_okq (⟨"ChartForestModel", "comeAll", "(IIIJ)V"⟩, 19) := ⟨⟨by decide +kernel, by decide +kernel⟩, List.mem_of_getElem? (i := 617) (by decide +kernel), List.mem_of_getElem? (i := 866) (by decide +kernel), List.mem_of_getElem? (i := 867) (by decide +kernel)⟩
def lw_privs_4 : List (MethodName × Nat) := [(⟨"ChartForestModel", "meet", "(III)I"⟩, 19), (⟨"ChartForestModel", "come", "(IJ)V"⟩, 19), (⟨"ChartForestModel", "takeRoot", "(IJ)I"⟩, 19), (⟨"ChartForestModel", "comeAll", "(IIIJ)V"⟩, 19)]
theorem lw_r4 : ∀ q ∈ lw_privs_4, lw_okq q := List.forall_mem_cons.mpr ⟨lw_p48, List.forall_mem_cons.mpr ⟨lw_p49, List.forall_mem_cons.mpr ⟨lw_p50, List.forall_mem_cons.mpr ⟨lw_p51, fun _ h => absurd h List.not_mem_nil⟩⟩⟩⟩
def lw_privs : List (MethodName × Nat) := lw_privs_1 ++ (lw_privs_2 ++ (lw_privs_3 ++ (lw_privs_4)))
def lw_tbl : List Cond := k2_sels lw_privs ++ tables_1
theorem lw_privs_ok : ∀ q ∈ lw_privs, lw_okq q := by
  show ∀ q ∈ lw_privs_1 ++ (lw_privs_2 ++ (lw_privs_3 ++ (lw_privs_4))), lw_okq q
  exact List.forall_mem_append.mpr ⟨lw_r1, List.forall_mem_append.mpr ⟨lw_r2, List.forall_mem_append.mpr ⟨lw_r3, lw_r4⟩⟩⟩
end
section
/-! ===== the classes of the run and their fields (number, name, descriptor, final) ===== -/
def mj_cf : List (String × List (String × String × Bool)) := [
  ("ChartForest", [("grammar", "LChartForest$Grammar;", true), ("tape", "LChartForest$Tape;", true), ("chart", "LChartForest$Chart;", true), ("forest", "LChartForest$Forest;", true)]),
  ("ChartForest$Grammar", [("count", "I", false), ("lefts", "[I", true), ("behind", "[I", true)]),
  ("ChartForest$Tape", [("length", "I", false), ("terminals", "[I", true)]),
  ("ChartForest$Chart", [("grammar", "LChartForest$Grammar;", true), ("leaping", "Z", true), ("origins", "[[I", true), ("sizes", "[I", true), ("named", "[[I", true), ("agenda", "[I", true), ("agendaSize", "I", false), ("completeHere", "I", false)]),
  ("ChartForest$Forest", [("tape", "LChartForest$Tape;", true), ("counts", "LChartForest$Counts;", true), ("ways", "LChartForest$Ways;", true), ("readyEnds", "I", false), ("cells", "[I", true), ("met", "[Z", true), ("cellCount", "I", false), ("numbers", "[J", true)]),
  ("ChartForest$Counts", [("tape", "LChartForest$Tape;", true), ("table", "[J", true)]),
  ("ChartForest$Ways", [("grammar", "LChartForest$Grammar;", true), ("counts", "LChartForest$Counts;", true), ("from", "I", false), ("to", "I", false), ("count", "I", false), ("rules", "[I", true), ("innerCuts", "[I", true), ("trees", "[J", true)]),
  ("ChartForestModel", [("leaps", "Z", true), ("refusal", "I", false), ("rules", "I", false), ("left", "[I", false), ("lengths", "[I", false), ("body", "[I", false), ("fedCount", "I", false), ("terminals", "[I", false), ("items", "[Z", false), ("worked", "Z", false), ("derives", "[Z", false), ("counted", "[Z", false), ("number", "[J", false), ("met", "[Z", false), ("cutOne", "I", false), ("cutTwo", "I", false), ("todo", "[I", false), ("todoTree", "[J", false), ("todoCount", "I", false)]),
  ("java/lang/IllegalArgumentException", []), ("java/lang/IllegalStateException", []), ("java/lang/IndexOutOfBoundsException", []), ("java/util/NoSuchElementException", [])]
def mj_tb (q : String × List (String × String × Bool)) : vw_C := (q.1, fun k => (q.1, q.2.getD k ("", "", false)), q.2.length)
def mj_cls : List vw_C := mj_cf.map mj_tb
theorem mj_cf_in : mj_cf.all (fun q => (u_ws q.1 (mj_tb q).2.1 q.2.length).all (fun w => decide (w ∈ lw_tbl))) = true := by decide +kernel
theorem mj_cf_ty : mj_cf.all (fun q => (List.range q.2.length).all (fun k => (parseFieldDescriptor ((mj_tb q).2.1 k).2.2.1).isSome)) = true := by decide +kernel
theorem mj_cf_nm : mj_cf.all (fun q => (List.range q.2.length).all (fun a => (List.range q.2.length).all (fun b => decide (a ≠ b → ((mj_tb q).2.1 a).2.1 ≠ ((mj_tb q).2.1 b).2.1)))) = true := by decide +kernel
end
section
/-! ===== the small machine: whole numbers instead of words, places instead of addresses ===== -/
abbrev mj_V : Type := Int ⊕ Int ⊕ Option (Nat × Nat) ⊕ Unit
abbrev mj_C : Type := (Nat × Nat × (Nat → Int)) ⊕ (Nat × Nat × (Nat → Nat → Int)) ⊕ (Nat × List mj_V)
abbrev mj_M : Type := List mj_C
abbrev mj_L : Type := List (Option mj_V)
abbrev mj_S : Type := Nat × mj_L × List mj_V × mj_M
abbrev mj_O : Type := Option mj_V ⊕ Nat
/-- the run: launch, classes' numbers and slots, the law's start, the script's address, its length, its ints -/
abbrev mj_G : Type := Launch × va_G × State × Nat × Nat × (Nat → Int32)
/-- the method: own name of its class file, its name, code, number of locals, what it returns -/
abbrev mj_Y : Type := String × MethodName × ByteArray × Nat × Option FieldType
/-- how far behind the first new address the cell at a place lies -/
def mj_o (p : Nat) : Nat := p + (if 7 < p then 13 else 0) + (if 9 < p then 13 else 0)
theorem mj_o_lt {p q : Nat} (h : p < q) : mj_o (p + 1) ≤ mj_o q := by
  unfold mj_o
  split <;> split <;> split <;> split <;> omega
theorem mj_o_s (p : Nat) : mj_o p < mj_o (p + 1) := by
  unfold mj_o
  split <;> split <;> split <;> split <;> omega
/-- the value of the machine that a small value stands for -/
def mj_tr (b z : Nat) : mj_V → Value
  | .inl x => .int (Int32.ofInt x)
  | .inr (.inl x) => .long (Int64.ofInt x)
  | .inr (.inr (.inl none)) => .null
  | .inr (.inr (.inl (some r))) => .ref (z + mj_o r.1 + r.2)
  | .inr (.inr (.inr _)) => .ref b
def mj_cat : mj_V → Nat
  | .inr (.inl _) => 2
  | _ => 1
theorem mj_tr_cat (b z : Nat) (w : mj_V) : (mj_tr b z w).category = mj_cat w := by
  rcases w with x | x | (_ | r) | x <;> rfl
def mj_i (x : Int) : Prop := -2147483648 ≤ x ∧ x < 2147483648
def mj_l (x : Int) : Prop := -9223372036854775808 ≤ x ∧ x < 9223372036854775808
theorem mj_ti {x : Int} (h : mj_i x) : (Int32.ofInt x).toInt = x := Int32.toInt_ofInt_of_le h.1 h.2
theorem mj_tl {x : Int} (h : mj_l x) : (Int64.ofInt x).toInt = x := Int64.toInt_ofInt_of_le h.1 h.2
theorem mj_lt {x y : Int} (hx : mj_i x) (hy : mj_i y) : Int32.ofInt x < Int32.ofInt y ↔ x < y := by
  rw [Int32.lt_iff_toInt_lt, mj_ti hx, mj_ti hy]
theorem mj_le {x y : Int} (hx : mj_i x) (hy : mj_i y) : Int32.ofInt x ≤ Int32.ofInt y ↔ x ≤ y := by
  rw [Int32.le_iff_toInt_le, mj_ti hx, mj_ti hy]
theorem mj_eq {x y : Int} (hx : mj_i x) (hy : mj_i y) : Int32.ofInt x = Int32.ofInt y ↔ x = y := by
  rw [← Int32.toInt_inj, mj_ti hx, mj_ti hy]
theorem mj_i0 : mj_i 0 := ⟨by decide, by decide⟩
theorem mj_cl {x : Int} (hx : mj_i x) : (Int32.ofInt x).toNatClampNeg = x.toNat := Int32.toNatClampNeg_ofInt_of_le hx.1 hx.2
theorem mj_in_ {x : Int} {n : Nat} (h0 : 0 ≤ x) (h1 : x < n) (hx : mj_i x) : ¬ (Int32.ofInt x < 0 ∨ n ≤ (Int32.ofInt x).toNatClampNeg) := by
  rw [mj_cl hx]
  rintro (h | h)
  · have h2 : Int32.ofInt x < Int32.ofInt 0 := h
    rw [mj_lt hx mj_i0] at h2
    omega
  · omega
def mj_shl (x y : Int) : Int := (Int32.ofInt x <<< (Int32.ofInt y &&& 31)).toInt
def mj_shr (x y : Int) : Int := (Int32.ofInt x >>> (Int32.ofInt y &&& 31)).toInt
def mj_ush (x y : Int) : Int := ((Int32.ofInt x).toUInt32 >>> ((Int32.ofInt y).toUInt32 &&& Int32.toUInt32 31)).toInt32.toInt
def mj_and (x y : Int) : Int := (Int32.ofInt x &&& Int32.ofInt y).toInt
def mj_ior (x y : Int) : Int := (Int32.ofInt x ||| Int32.ofInt y).toInt
def mj_lan (x y : Int) : Int := (Int64.ofInt x &&& Int64.ofInt y).toInt
def mj_lor (x y : Int) : Int := (Int64.ofInt x ||| Int64.ofInt y).toInt
def mj_lsh (x y : Int) : Int := (Int64.ofInt x <<< ((Int32.ofInt y).toInt64 &&& 63)).toInt
def mj_cmp (x y : Int) : Int := if y < x then 1 else if x = y then 0 else -1
def mj_num (k : Nat) (x : Int) : Value := if k = 2 then .long (Int64.ofInt x) else .int (Int32.ofInt x)
def mj_ty (k : Nat) : FieldType := if k = 0 then .int else if k = 1 then .boolean else .long
/-- an array cell of the heap that holds n values -/
def mj_arr (s0 : State) (H : Heap) (a : Nat) (ty : FieldType) (n : Nat) (f : Nat → Value) : Prop :=
  ∃ c : Cell, H[a]? = some c ∧ s0.isArrayOf c ty ∧ c.vm = .none ∧ c.slots.size = n ∧ ∀ j, j < n → c.slots[j]? = some (f j)
/-- what the heap holds for the cell at a place; z: the first new address -/
def mj_cell (D : va_G) (s0 : State) (b z p : Nat) (H : Heap) : mj_C → Prop
  | .inl (k, n, f) => mj_arr s0 H (z + mj_o p) (mj_ty k) n (fun j => mj_num k (f j))
  | .inr (.inl (n, k, g)) => mj_o p + n + 1 ≤ mj_o (p + 1) ∧ mj_arr s0 H (z + mj_o p) (.array .int) n (fun i => .ref (z + mj_o p + (i + 1))) ∧ ∀ i, i < n → mj_arr s0 H (z + mj_o p + (i + 1)) .int k (fun j => .int (Int32.ofInt (g i j)))
  | .inr (.inr (ci, fs)) => ∃ r : vw_C, mj_cls[ci]? = some r ∧ t_OB (z + mj_o p) (D.1 ci) r.2.2 (D.2 ci) H (fun k => mj_tr b z (fs.getD k (.inl 0)))
def mj_W (D : va_G) (s0 : State) (b : Nat) (M : mj_M) (H : Heap) : Prop :=
  H.size = s0.heap.size + mj_o M.length ∧ ∀ (p : Nat) (c : mj_C), M[p]? = some c → mj_cell D s0 b s0.heap.size p H c
theorem mj_arr.kept {s0 : State} {H H1 : Heap} {a : Nat} {ty : FieldType} {n : Nat} {f : Nat → Value} (h : mj_arr s0 H a ty n f) (hq : H1[a]? = H[a]?) : mj_arr s0 H1 a ty n f := by
  obtain ⟨c, h1, h2⟩ := h
  exact ⟨c, hq.trans h1, h2⟩
theorem mj_cell.kept {D : va_G} {s0 : State} {b z p : Nat} {H H1 : Heap} {c : mj_C} (h : mj_cell D s0 b z p H c) (hq : ∀ A : Nat, z + mj_o p ≤ A → A < z + mj_o (p + 1) → H1[A]? = H[A]?) : mj_cell D s0 b z p H1 c := by
  have h0 : H1[z + mj_o p]? = H[z + mj_o p]? := hq _ (Nat.le_refl _) (by have := mj_o_s p; omega)
  rcases c with ⟨k, n, f⟩ | ⟨n, k, g⟩ | ⟨ci, fs⟩
  · exact mj_arr.kept h h0
  · obtain ⟨h1, h2, h3⟩ := h
    exact ⟨h1, h2.kept h0, fun i hi => (h3 i hi).kept (hq _ (by omega) (by omega))⟩
  · obtain ⟨r, hr, hb⟩ := h
    exact ⟨r, hr, hb.kept h0⟩
/-- one cell changes, at addresses of its own; the others stay -/
theorem mj_W.set {D : va_G} {s0 : State} {b p : Nat} {M : mj_M} {H H1 : Heap} {c0 c1 : mj_C} (h : mj_W D s0 b M H) (hp : M[p]? = some c0) (hz : H1.size = H.size)
    (ho : ∀ A : Nat, (A < s0.heap.size + mj_o p ∨ s0.heap.size + mj_o (p + 1) ≤ A) → H1[A]? = H[A]?) (hc : mj_cell D s0 b s0.heap.size p H1 c1) : mj_W D s0 b (M.set p c1) H1 := by
  have hlt : p < M.length := (List.getElem?_eq_some_iff.mp hp).1
  refine ⟨by rw [hz, h.1, List.length_set], fun q c hq => ?_⟩
  by_cases e : p = q
  · subst e
    rw [List.getElem?_set_self hlt] at hq
    cases hq
    exact hc
  · rw [List.getElem?_set_ne e] at hq
    refine (h.2 q c hq).kept fun A h1 h2 => ho A ?_
    rcases Nat.lt_or_ge p q with h3 | h3
    · have := mj_o_lt h3
      right; omega
    · have h4 : q < p := by omega
      have := mj_o_lt h4
      left; omega
/-- locals -/
def mj_ls (b z : Nat) (ls : Array Slot) (lv : mj_L) : Prop := ls.size = lv.length ∧ lv_wf ls ∧ ∀ (i : Nat) (w : mj_V), lv[i]? = some (some w) → ls[i]? = some (.val (mj_tr b z w))
/-- the place before i no longer holds a long -/
def mj_clr (lv : mj_L) (i : Nat) : mj_L := match i with
  | 0 => lv
  | j + 1 => match lv[j]? with
    | some (some (.inr (.inl _))) => lv.set j none
    | _ => lv
def mj_st1 (lv : mj_L) (i : Nat) (w : mj_V) : mj_L := (mj_clr lv i).set i (some w)
def mj_st2 (lv : mj_L) (i : Nat) (w : mj_V) : mj_L := ((mj_clr lv i).set (i + 1) none).set i (some w)
theorem mj_clr_len (lv : mj_L) (i : Nat) : (mj_clr lv i).length = lv.length := by
  unfold mj_clr
  split
  · rfl
  · split
    · simp
    · rfl
theorem mj_clr_at {lv : mj_L} {i j : Nat} {w : mj_V} (h : (mj_clr lv i)[j]? = some (some w)) : lv[j]? = some (some w) ∧ (j + 1 = i → mj_cat w ≠ 2) := by
  unfold mj_clr at h
  split at h
  · exact ⟨h, fun e => by omega⟩
  · rename_i k
    split at h
    · rename_i y hy
      by_cases e : k = j
      · subst e
        rw [List.getElem?_set_self (List.getElem?_eq_some_iff.mp hy).1] at h
        cases h
      · rw [List.getElem?_set_ne e] at h
        exact ⟨h, fun q => by omega⟩
    · rename_i hn
      refine ⟨h, fun e => ?_⟩
      have e2 : j = k := by omega
      subst e2
      rcases w with x | x | x
      · intro q; cases q
      · exact absurd h (hn x)
      · rcases x with x | x <;> (intro q; cases q)
def mj_pr (b z : Nat) (lv : mj_L) : List (Nat × Value) := (List.range lv.length).filterMap fun i => match lv[i]? with
  | some (some w) => some (i, mj_tr b z w)
  | _ => none
theorem mj_pr_in {b z : Nat} {lv : mj_L} {i : Nat} {w : mj_V} (h : lv[i]? = some (some w)) : (i, mj_tr b z w) ∈ mj_pr b z lv :=
  List.mem_filterMap.mpr ⟨i, List.mem_range.mpr (List.getElem?_eq_some_iff.mp h).1, by simp [h]⟩
theorem mj_has {b z : Nat} {ls : Array Slot} {lv : mj_L} (h : mj_ls b z ls lv) : lv_has ls lv.length (mj_pr b z lv) := by
  refine ⟨h.1, h.2.1, fun q hq => ?_⟩
  obtain ⟨i, -, hi⟩ := List.mem_filterMap.mp hq
  split at hi
  · rename_i w hw
    cases hi
    exact h.2.2 i w hw
  · cases hi
theorem mj_ls_st1 {b z : Nat} {ls' : Array Slot} {lv : mj_L} {i : Nat} {w : mj_V} (hi : i < lv.length)
    (h : lv_has ls' lv.length ((i, mj_tr b z w) :: (mj_pr b z lv).filter (fun q => !(q.1 == i) && !(q.1 + 1 == i && q.2.category == 2)))) : mj_ls b z ls' (mj_st1 lv i w) := by
  refine ⟨by rw [h.1, mj_st1, List.length_set, mj_clr_len], h.2.1, fun j w' hj => ?_⟩
  by_cases e : i = j
  · subst e
    rw [mj_st1, List.getElem?_set_self (by rw [mj_clr_len]; exact hi)] at hj
    cases hj
    exact h.2.2 _ List.mem_cons_self
  · rw [mj_st1, List.getElem?_set_ne e] at hj
    obtain ⟨h1, h2⟩ := mj_clr_at hj
    refine h.2.2 (j, mj_tr b z w') (List.mem_cons_of_mem _ (List.mem_filter.mpr ⟨mj_pr_in h1, ?_⟩))
    by_cases e3 : j + 1 = i
    · have := h2 e3
      simp [mj_tr_cat, this, Ne.symm e]
    · simp [e3, Ne.symm e]
theorem mj_ls_st2 {b z : Nat} {ls' : Array Slot} {lv : mj_L} {i : Nat} {w : mj_V} (hi : i + 1 < lv.length)
    (h : lv_has ls' lv.length ((i, mj_tr b z w) :: (mj_pr b z lv).filter (fun q => !(q.1 == i) && (!(q.1 == i + 1) && !(q.1 + 1 == i && q.2.category == 2))))) : mj_ls b z ls' (mj_st2 lv i w) := by
  refine ⟨by rw [h.1, mj_st2, List.length_set, List.length_set, mj_clr_len], h.2.1, fun j w' hj => ?_⟩
  by_cases e : i = j
  · subst e
    rw [mj_st2, List.getElem?_set_self (by rw [List.length_set, mj_clr_len]; omega)] at hj
    cases hj
    exact h.2.2 _ List.mem_cons_self
  · rw [mj_st2, List.getElem?_set_ne e] at hj
    by_cases e1 : i + 1 = j
    · subst e1
      rw [List.getElem?_set_self (by rw [mj_clr_len]; exact hi)] at hj
      cases hj
    · rw [List.getElem?_set_ne e1] at hj
      obtain ⟨h1, h2⟩ := mj_clr_at hj
      refine h.2.2 (j, mj_tr b z w') (List.mem_cons_of_mem _ (List.mem_filter.mpr ⟨mj_pr_in h1, ?_⟩))
      by_cases e3 : j + 1 = i
      · have := h2 e3
        simp [mj_tr_cat, this, Ne.symm e, Ne.symm e1]
      · simp [e3, Ne.symm e, Ne.symm e1]
/-- what is known of the run -/
def mj_F (g : mj_G) : Prop := va_K g.2.1 mj_cls [] g.2.2.1 ∧ va_X g.2.2.2.1 g.2.2.2.2.1 g.2.2.2.2.2 g.2.2.1 g.2.2.1.heap ∧ g.2.2.2.1 < g.2.2.1.heap.size ∧ g.2.2.2.2.1 ≤ 2561 ∧ (∀ w ∈ lw_tbl, w.before #[Value.ref g.2.2.2.1] g.2.2.1 = true) ∧ g.1.stackTraces = false
/-- what holds where the machine stands in a method's body -/
def mj_K (g : mj_G) (Y : mj_Y) (d kc ks : Nat) (lv : mj_L) (M : mj_M) (p : Program) (R : Room) (s : State) (m : MethodId) (args : Array Value) (meth : Method) (c : Code) (H : Heap) (ls : Array Slot) (locs : List Loc) (cells slots : Nat) : Prop :=
  (p.tables.exec = Jvm.exec ∧ c.code = Y.2.2.1 ∧ c.maxLocals = Y.2.2.2.1 ∧ s.vm.findClass Y.1 = some m.cls ∧ (∀ w ∈ lw_tbl, w.before args s = true) ∧ meth.locks = false ∧ meth.sig.returnType = Y.2.2.2.2 ∧ meth.name = Y.2.1.name ∧ g.2.2.1.vm.Alike s.vm ∧ g.2.2.1.heap.size ≤ s.heap.size ∧ s.methodNamed? Y.2.1 = some m) ∧
  (d ≤ R.frames ∧ 40 * d ≤ R.locals ∧ cells + kc ≤ R.cells ∧ slots + ks ≤ R.slots) ∧
  mj_W g.2.1 g.2.2.1 g.2.2.2.1 M H ∧ (∀ q, q < g.2.2.1.heap.size → H[q]? = g.2.2.1.heap[q]?) ∧ (mj_ls g.2.2.2.1 g.2.2.1.heap.size ls lv ∧ lv.length = Y.2.2.2.1) ∧ ∀ q ∈ locs, g.2.2.1.heap.size ≤ q.base
def mj_Q (g : mj_G) (Post : mj_O → mj_M → Prop) (o : Outcome) (t : State) : Prop :=
  ∃ (r : mj_O) (M : mj_M), Post r M ∧ (match r with | .inl v => o = .returned (v.map (mj_tr g.2.2.2.1 g.2.2.1.heap.size)) | .inr q => o = .threw (g.2.2.1.heap.size + mj_o q)) ∧ mj_W g.2.1 g.2.2.1 g.2.2.2.1 M t.heap ∧ ∀ q, q < g.2.2.1.heap.size → t.heap[q]? = g.2.2.1.heap[q]?
def mj_Z (g : mj_G) (Post : mj_O → mj_M → Prop) (below : List Frame) (s : State) (kc ks : Nat) : State → Prop := fun t =>
  ∃ o, t.status = .running ∧ Ended t below o ∧ mj_Q g Post o t ∧ s.WarmedH t.vm ∧ ∃ L : List Loc, s.sameButNew ({ t with vm := s.vm } : State) L kc ks ∧ ∀ q ∈ L, g.2.2.1.heap.size ≤ q.base
/-- from every standing that shows S the method comes to an end that shows Post -/
def mj_J (g : mj_G) (Y : mj_Y) (d kc ks : Nat) (S : mj_S) (Post : mj_O → mj_M → Prop) : Prop :=
  mj_F g → ∀ (p : Program) (e : Env) (R : Room) (s : State) (m : MethodId) (args : Array Value) (below : List Frame) (meth : Method) (c : Code) (H : Heap) (ls : Array Slot) (locs : List Loc) (cells slots : Nat),
    mj_K g Y d kc ks S.2.1 S.2.2.2 p R s m args meth c H ls locs cells slots →
    W p g.1 e R s m args below meth c H locs cells slots (mj_Z g Post below s (cells + kc) (slots + ks)) (F0 m S.1 ls (S.2.2.1.map (mj_tr g.2.2.2.1 g.2.2.1.heap.size)))
section MJ
variable {g : mj_G} {Y : mj_Y} {d kc ks pc : Nat} {lv : mj_L} {st : List mj_V} {M : mj_M} {Post : mj_O → mj_M → Prop}
theorem mj_r_iconst {n x : Int} (hd : decode Y.2.2.1 pc = .ok (.iconst n, 1)) (hv : Int32.ofInt n = Int32.ofInt x) (k : mj_J g Y d kc ks (pc + 1, lv, .inl x :: st, M) Post) : mj_J g Y d kc ks (pc, lv, st, M) Post := by
  intro hG p e R s m args below meth c H ls locs cells slots hK
  have h := k hG p e R s m args below meth c H ls locs cells slots hK
  exact lv_iconst hK.1.1 hK.1.2.1 hd hv h
theorem mj_r_bipush {n x : Int} (hd : decode Y.2.2.1 pc = .ok (.bipush n, 2)) (hv : (Int8.ofInt n).toInt32 = Int32.ofInt x) (k : mj_J g Y d kc ks (pc + 2, lv, .inl x :: st, M) Post) : mj_J g Y d kc ks (pc, lv, st, M) Post := by
  intro hG p e R s m args below meth c H ls locs cells slots hK
  have h := k hG p e R s m args below meth c H ls locs cells slots hK
  exact lv_bipush hK.1.1 hK.1.2.1 hd hv h
theorem mj_r_sipush {n x : Int} (hd : decode Y.2.2.1 pc = .ok (.sipush n, 3)) (hv : (Int16.ofInt n).toInt32 = Int32.ofInt x) (k : mj_J g Y d kc ks (pc + 3, lv, .inl x :: st, M) Post) : mj_J g Y d kc ks (pc, lv, st, M) Post := by
  intro hG p e R s m args below meth c H ls locs cells slots hK
  have h := k hG p e R s m args below meth c H ls locs cells slots hK
  exact lv_sipush hK.1.1 hK.1.2.1 hd hv h
theorem mj_r_lconst {n : Fin 2} {x : Int} (hd : decode Y.2.2.1 pc = .ok (.lconst n, 1)) (hv : Int64.ofNat (n : Nat) = Int64.ofInt x) (k : mj_J g Y d kc ks (pc + 1, lv, .inr (.inl x) :: st, M) Post) : mj_J g Y d kc ks (pc, lv, st, M) Post := by
  intro hG p e R s m args below meth c H ls locs cells slots hK
  have h := k hG p e R s m args below meth c H ls locs cells slots hK
  exact lv_lconst hK.1.1 hK.1.2.1 hd hv h
theorem mj_r_ldc {n : Nat} {x : Int} (hd : decode Y.2.2.1 pc = .ok (.ldc n, 2)) (hw : Cond.constant Y.1 n (Int32.ofInt x) ∈ lw_tbl) (k : mj_J g Y d kc ks (pc + 2, lv, .inl x :: st, M) Post) : mj_J g Y d kc ks (pc, lv, st, M) Post := by
  intro hG p e R s m args below meth c H ls locs cells slots hK
  have h := k hG p e R s m args below meth c H ls locs cells slots hK
  exact lv_ldc hK.1.1 hK.1.2.1 hK.1.2.2.2.1 (hK.1.2.2.2.2.1 _ hw) hd h
theorem mj_r_ldc_w {n : Nat} {x : Int} (hd : decode Y.2.2.1 pc = .ok (.ldc_w n, 3)) (hw : Cond.constant Y.1 n (Int32.ofInt x) ∈ lw_tbl) (k : mj_J g Y d kc ks (pc + 3, lv, .inl x :: st, M) Post) : mj_J g Y d kc ks (pc, lv, st, M) Post := by
  intro hG p e R s m args below meth c H ls locs cells slots hK
  have h := k hG p e R s m args below meth c H ls locs cells slots hK
  exact lv_ldcw hK.1.1 hK.1.2.1 hK.1.2.2.2.1 (hK.1.2.2.2.2.1 _ hw) hd h
theorem mj_r_ldc2_w {n : Nat} {x : Int} (hd : decode Y.2.2.1 pc = .ok (.ldc2_w n, 3)) (hw : Cond.constantLong Y.1 n (Int64.ofInt x) ∈ lw_tbl) (k : mj_J g Y d kc ks (pc + 3, lv, .inr (.inl x) :: st, M) Post) : mj_J g Y d kc ks (pc, lv, st, M) Post := by
  intro hG p e R s m args below meth c H ls locs cells slots hK
  have h := k hG p e R s m args below meth c H ls locs cells slots hK
  exact lv_ldc2 hK.1.1 hK.1.2.1 hK.1.2.2.2.1 (hK.1.2.2.2.2.1 _ hw) hd h
theorem mj_r_iload {i : Nat} {x : Int} (hd : decode Y.2.2.1 pc = .ok (.iload i, 2)) (hl : lv[i]? = some (some (.inl x))) (k : mj_J g Y d kc ks (pc + 2, lv, .inl x :: st, M) Post) : mj_J g Y d kc ks (pc, lv, st, M) Post := by
  intro hG p e R s m args below meth c H ls locs cells slots hK
  have h := k hG p e R s m args below meth c H ls locs cells slots hK
  exact lv_iload hK.1.1 hK.1.2.1 hd (hK.2.2.2.2.1.1.2.2 i _ hl) h
theorem mj_r_iload_n {i : Fin 4} {x : Int} (hd : decode Y.2.2.1 pc = .ok (.iload_n i, 1)) (hl : lv[(i : Nat)]? = some (some (.inl x))) (k : mj_J g Y d kc ks (pc + 1, lv, .inl x :: st, M) Post) : mj_J g Y d kc ks (pc, lv, st, M) Post := by
  intro hG p e R s m args below meth c H ls locs cells slots hK
  have h := k hG p e R s m args below meth c H ls locs cells slots hK
  exact lv_iload_n hK.1.1 hK.1.2.1 hd rfl (hK.2.2.2.2.1.1.2.2 i _ hl) h
theorem mj_r_lload {i : Nat} {x : Int} (hd : decode Y.2.2.1 pc = .ok (.lload i, 2)) (hl : lv[i]? = some (some (.inr (.inl x)))) (k : mj_J g Y d kc ks (pc + 2, lv, .inr (.inl x) :: st, M) Post) : mj_J g Y d kc ks (pc, lv, st, M) Post := by
  intro hG p e R s m args below meth c H ls locs cells slots hK
  have h := k hG p e R s m args below meth c H ls locs cells slots hK
  exact lv_lload hK.1.1 hK.1.2.1 hd (hK.2.2.2.2.1.1.2.2 i _ hl) h
theorem mj_r_lload_n {i : Fin 4} {x : Int} (hd : decode Y.2.2.1 pc = .ok (.lload_n i, 1)) (hl : lv[(i : Nat)]? = some (some (.inr (.inl x)))) (k : mj_J g Y d kc ks (pc + 1, lv, .inr (.inl x) :: st, M) Post) : mj_J g Y d kc ks (pc, lv, st, M) Post := by
  intro hG p e R s m args below meth c H ls locs cells slots hK
  have h := k hG p e R s m args below meth c H ls locs cells slots hK
  exact lv_lload_n hK.1.1 hK.1.2.1 hd rfl (hK.2.2.2.2.1.1.2.2 i _ hl) h
theorem mj_r_aload {i : Nat} {r : Nat × Nat} (hd : decode Y.2.2.1 pc = .ok (.aload i, 2)) (hl : lv[i]? = some (some (.inr (.inr (.inl (some r)))))) (k : mj_J g Y d kc ks (pc + 2, lv, .inr (.inr (.inl (some r))) :: st, M) Post) : mj_J g Y d kc ks (pc, lv, st, M) Post := by
  intro hG p e R s m args below meth c H ls locs cells slots hK
  have h := k hG p e R s m args below meth c H ls locs cells slots hK
  exact lv_aload hK.1.1 hK.1.2.1 hd (hK.2.2.2.2.1.1.2.2 i _ hl) h
theorem mj_r_aload_n {i : Fin 4} {r : Nat × Nat} (hd : decode Y.2.2.1 pc = .ok (.aload_n i, 1)) (hl : lv[(i : Nat)]? = some (some (.inr (.inr (.inl (some r)))))) (k : mj_J g Y d kc ks (pc + 1, lv, .inr (.inr (.inl (some r))) :: st, M) Post) : mj_J g Y d kc ks (pc, lv, st, M) Post := by
  intro hG p e R s m args below meth c H ls locs cells slots hK
  have h := k hG p e R s m args below meth c H ls locs cells slots hK
  exact lv_aload_n hK.1.1 hK.1.2.1 hd rfl (hK.2.2.2.2.1.1.2.2 i _ hl) h
theorem mj_r_aloadS {i : Nat} {u : Unit} (hd : decode Y.2.2.1 pc = .ok (.aload i, 2)) (hl : lv[i]? = some (some (.inr (.inr (.inr u))))) (k : mj_J g Y d kc ks (pc + 2, lv, .inr (.inr (.inr u)) :: st, M) Post) : mj_J g Y d kc ks (pc, lv, st, M) Post := by
  intro hG p e R s m args below meth c H ls locs cells slots hK
  have h := k hG p e R s m args below meth c H ls locs cells slots hK
  exact lv_aload hK.1.1 hK.1.2.1 hd (hK.2.2.2.2.1.1.2.2 i _ hl) h
theorem mj_r_aload_nS {i : Fin 4} {u : Unit} (hd : decode Y.2.2.1 pc = .ok (.aload_n i, 1)) (hl : lv[(i : Nat)]? = some (some (.inr (.inr (.inr u))))) (k : mj_J g Y d kc ks (pc + 1, lv, .inr (.inr (.inr u)) :: st, M) Post) : mj_J g Y d kc ks (pc, lv, st, M) Post := by
  intro hG p e R s m args below meth c H ls locs cells slots hK
  have h := k hG p e R s m args below meth c H ls locs cells slots hK
  exact lv_aload_n hK.1.1 hK.1.2.1 hd rfl (hK.2.2.2.2.1.1.2.2 i _ hl) h
/-- the same standing with other locals -/
theorem mj_K.loc {lv' : mj_L} {p : Program} {R : Room} {s : State} {m : MethodId} {args : Array Value} {meth : Method} {c : Code} {H : Heap} {ls ls' : Array Slot} {locs : List Loc} {cells slots : Nat} (hK : mj_K g Y d kc ks lv M p R s m args meth c H ls locs cells slots) (h : mj_ls g.2.2.2.1 g.2.2.1.heap.size ls' lv') (hl : lv'.length = lv.length) : mj_K g Y d kc ks lv' M p R s m args meth c H ls' locs cells slots :=
  ⟨hK.1, hK.2.1, hK.2.2.1, hK.2.2.2.1, ⟨h, hl.trans hK.2.2.2.2.1.2⟩, hK.2.2.2.2.2⟩
theorem mj_st1_len (lv : mj_L) (i : Nat) (w : mj_V) : (mj_st1 lv i w).length = lv.length := by rw [mj_st1, List.length_set, mj_clr_len]
theorem mj_st2_len (lv : mj_L) (i : Nat) (w : mj_V) : (mj_st2 lv i w).length = lv.length := by rw [mj_st2, List.length_set, List.length_set, mj_clr_len]
theorem mj_r_istore {i : Nat} {x : Int} (hd : decode Y.2.2.1 pc = .ok (.istore i, 2)) (hi0 : Nat.blt i lv.length = true) (k : mj_J g Y d kc ks (pc + 2, mj_st1 lv i (.inl x), st, M) Post) : mj_J g Y d kc ks (pc, lv, .inl x :: st, M) Post := by
  intro hG p e R s m args below meth c H ls locs cells slots hK
  have hi := Nat.blt_eq.mp hi0
  refine lv_istore hK.1.1 hK.1.2.1 hd (mj_has hK.2.2.2.2.1.1) hi rfl fun ls2 h2 => ?_
  exact k hG p e R s m args below meth c H ls2 locs cells slots (hK.loc (mj_ls_st1 hi h2) (mj_st1_len _ _ _))
theorem mj_r_istore_n {i : Fin 4} {x : Int} (hd : decode Y.2.2.1 pc = .ok (.istore_n i, 1)) (hi0 : Nat.blt (i : Nat) lv.length = true) (k : mj_J g Y d kc ks (pc + 1, mj_st1 lv (i : Nat) (.inl x), st, M) Post) : mj_J g Y d kc ks (pc, lv, .inl x :: st, M) Post := by
  intro hG p e R s m args below meth c H ls locs cells slots hK
  have hi := Nat.blt_eq.mp hi0
  refine lv_istore_n hK.1.1 hK.1.2.1 hd rfl (mj_has hK.2.2.2.2.1.1) hi rfl fun ls2 h2 => ?_
  exact k hG p e R s m args below meth c H ls2 locs cells slots (hK.loc (mj_ls_st1 hi h2) (mj_st1_len _ _ _))
theorem mj_r_lstore {i : Nat} {x : Int} (hd : decode Y.2.2.1 pc = .ok (.lstore i, 2)) (hi0 : Nat.blt (i + 1) lv.length = true) (k : mj_J g Y d kc ks (pc + 2, mj_st2 lv i (.inr (.inl x)), st, M) Post) : mj_J g Y d kc ks (pc, lv, .inr (.inl x) :: st, M) Post := by
  intro hG p e R s m args below meth c H ls locs cells slots hK
  have hi := Nat.blt_eq.mp hi0
  refine lv_lstore hK.1.1 hK.1.2.1 hd (mj_has hK.2.2.2.2.1.1) hi rfl fun ls2 h2 => ?_
  exact k hG p e R s m args below meth c H ls2 locs cells slots (hK.loc (mj_ls_st2 hi h2) (mj_st2_len _ _ _))
theorem mj_r_lstore_n {i : Fin 4} {x : Int} (hd : decode Y.2.2.1 pc = .ok (.lstore_n i, 1)) (hi0 : Nat.blt ((i : Nat) + 1) lv.length = true) (k : mj_J g Y d kc ks (pc + 1, mj_st2 lv (i : Nat) (.inr (.inl x)), st, M) Post) : mj_J g Y d kc ks (pc, lv, .inr (.inl x) :: st, M) Post := by
  intro hG p e R s m args below meth c H ls locs cells slots hK
  have hi := Nat.blt_eq.mp hi0
  refine lv_lstore_n hK.1.1 hK.1.2.1 hd rfl (mj_has hK.2.2.2.2.1.1) hi rfl fun ls2 h2 => ?_
  exact k hG p e R s m args below meth c H ls2 locs cells slots (hK.loc (mj_ls_st2 hi h2) (mj_st2_len _ _ _))
theorem mj_r_astore {i : Nat} {r : Nat × Nat} (hd : decode Y.2.2.1 pc = .ok (.astore i, 2)) (hi0 : Nat.blt i lv.length = true) (k : mj_J g Y d kc ks (pc + 2, mj_st1 lv i (.inr (.inr (.inl (some r)))), st, M) Post) : mj_J g Y d kc ks (pc, lv, .inr (.inr (.inl (some r))) :: st, M) Post := by
  intro hG p e R s m args below meth c H ls locs cells slots hK
  have hi := Nat.blt_eq.mp hi0
  refine lv_astore hK.1.1 hK.1.2.1 hd (mj_has hK.2.2.2.2.1.1) hi rfl fun ls2 h2 => ?_
  exact k hG p e R s m args below meth c H ls2 locs cells slots (hK.loc (mj_ls_st1 hi h2) (mj_st1_len _ _ _))
theorem mj_r_astore_n {i : Fin 4} {r : Nat × Nat} (hd : decode Y.2.2.1 pc = .ok (.astore_n i, 1)) (hi0 : Nat.blt (i : Nat) lv.length = true) (k : mj_J g Y d kc ks (pc + 1, mj_st1 lv (i : Nat) (.inr (.inr (.inl (some r)))), st, M) Post) : mj_J g Y d kc ks (pc, lv, .inr (.inr (.inl (some r))) :: st, M) Post := by
  intro hG p e R s m args below meth c H ls locs cells slots hK
  have hi := Nat.blt_eq.mp hi0
  refine lv_astore_n hK.1.1 hK.1.2.1 hd rfl (mj_has hK.2.2.2.2.1.1) hi rfl fun ls2 h2 => ?_
  exact k hG p e R s m args below meth c H ls2 locs cells slots (hK.loc (mj_ls_st1 hi h2) (mj_st1_len _ _ _))
theorem mj_r_astoreS {i : Nat} {u : Unit} (hd : decode Y.2.2.1 pc = .ok (.astore i, 2)) (hi0 : Nat.blt i lv.length = true) (k : mj_J g Y d kc ks (pc + 2, mj_st1 lv i (.inr (.inr (.inr u))), st, M) Post) : mj_J g Y d kc ks (pc, lv, .inr (.inr (.inr u)) :: st, M) Post := by
  intro hG p e R s m args below meth c H ls locs cells slots hK
  have hi := Nat.blt_eq.mp hi0
  refine lv_astore hK.1.1 hK.1.2.1 hd (mj_has hK.2.2.2.2.1.1) hi rfl fun ls2 h2 => ?_
  exact k hG p e R s m args below meth c H ls2 locs cells slots (hK.loc (mj_ls_st1 hi h2) (mj_st1_len _ _ _))
theorem mj_r_astoreS_n {i : Fin 4} {u : Unit} (hd : decode Y.2.2.1 pc = .ok (.astore_n i, 1)) (hi0 : Nat.blt (i : Nat) lv.length = true) (k : mj_J g Y d kc ks (pc + 1, mj_st1 lv (i : Nat) (.inr (.inr (.inr u))), st, M) Post) : mj_J g Y d kc ks (pc, lv, .inr (.inr (.inr u)) :: st, M) Post := by
  intro hG p e R s m args below meth c H ls locs cells slots hK
  have hi := Nat.blt_eq.mp hi0
  refine lv_astore_n hK.1.1 hK.1.2.1 hd rfl (mj_has hK.2.2.2.2.1.1) hi rfl fun ls2 h2 => ?_
  exact k hG p e R s m args below meth c H ls2 locs cells slots (hK.loc (mj_ls_st1 hi h2) (mj_st1_len _ _ _))
theorem mj_r_iinc {i : Nat} {n x : Int} (hd : decode Y.2.2.1 pc = .ok (.iinc i n, 3)) (hl : lv[i]? = some (some (.inl x))) (k : mj_J g Y d kc ks (pc + 3, mj_st1 lv i (.inl (x + n)), st, M) Post) : mj_J g Y d kc ks (pc, lv, st, M) Post := by
  intro hG p e R s m args below meth c H ls locs cells slots hK
  have hi : i < lv.length := (List.getElem?_eq_some_iff.mp hl).1
  obtain ⟨j, hj⟩ := List.getElem?_of_mem (mj_pr_in (b := g.2.2.2.1) (z := g.2.2.1.heap.size) hl)
  refine lv_iinc hK.1.1 hK.1.2.1 hd (mj_has hK.2.2.2.2.1.1) hj (v := Int32.ofInt (x + n)) (by rw [Int32.ofInt_add]) hi rfl fun ls2 h2 => ?_
  exact k hG p e R s m args below meth c H ls2 locs cells slots (hK.loc (mj_ls_st1 (w := .inl (x + n)) hi h2) (mj_st1_len _ _ _))
theorem mj_r_iadd {x y : Int} (hd : decode Y.2.2.1 pc = .ok (.iadd, 1)) (k : mj_J g Y d kc ks (pc + 1, lv, .inl (x + y) :: st, M) Post) : mj_J g Y d kc ks (pc, lv, .inl y :: .inl x :: st, M) Post := by
  intro hG p e R s m args below meth c H ls locs cells slots hK
  have h := k hG p e R s m args below meth c H ls locs cells slots hK
  exact lv_iadd hK.1.1 hK.1.2.1 hd (by rw [← Int32.ofInt_add]; exact h)
theorem mj_r_isub {x y : Int} (hd : decode Y.2.2.1 pc = .ok (.isub, 1)) (k : mj_J g Y d kc ks (pc + 1, lv, .inl (x - y) :: st, M) Post) : mj_J g Y d kc ks (pc, lv, .inl y :: .inl x :: st, M) Post := by
  intro hG p e R s m args below meth c H ls locs cells slots hK
  have h := k hG p e R s m args below meth c H ls locs cells slots hK
  exact lv_isub hK.1.1 hK.1.2.1 hd (by rw [← Int32.ofInt_sub]; exact h)
theorem mj_r_imul {x y : Int} (hd : decode Y.2.2.1 pc = .ok (.imul, 1)) (k : mj_J g Y d kc ks (pc + 1, lv, .inl (x * y) :: st, M) Post) : mj_J g Y d kc ks (pc, lv, .inl y :: .inl x :: st, M) Post := by
  intro hG p e R s m args below meth c H ls locs cells slots hK
  have h := k hG p e R s m args below meth c H ls locs cells slots hK
  exact lv_imul hK.1.1 hK.1.2.1 hd (by rw [← Int32.ofInt_mul]; exact h)
theorem mj_r_ladd {x y : Int} (hd : decode Y.2.2.1 pc = .ok (.ladd, 1)) (k : mj_J g Y d kc ks (pc + 1, lv, .inr (.inl (x + y)) :: st, M) Post) : mj_J g Y d kc ks (pc, lv, .inr (.inl y) :: .inr (.inl x) :: st, M) Post := by
  intro hG p e R s m args below meth c H ls locs cells slots hK
  have h := k hG p e R s m args below meth c H ls locs cells slots hK
  exact lv_ladd hK.1.1 hK.1.2.1 hd (by rw [← Int64.ofInt_add]; exact h)
theorem mj_r_lsub {x y : Int} (hd : decode Y.2.2.1 pc = .ok (.lsub, 1)) (k : mj_J g Y d kc ks (pc + 1, lv, .inr (.inl (x - y)) :: st, M) Post) : mj_J g Y d kc ks (pc, lv, .inr (.inl y) :: .inr (.inl x) :: st, M) Post := by
  intro hG p e R s m args below meth c H ls locs cells slots hK
  have h := k hG p e R s m args below meth c H ls locs cells slots hK
  exact lv_lsub hK.1.1 hK.1.2.1 hd (by rw [← Int64.ofInt_sub]; exact h)
theorem mj_r_lmul {x y : Int} (hd : decode Y.2.2.1 pc = .ok (.lmul, 1)) (k : mj_J g Y d kc ks (pc + 1, lv, .inr (.inl (x * y)) :: st, M) Post) : mj_J g Y d kc ks (pc, lv, .inr (.inl y) :: .inr (.inl x) :: st, M) Post := by
  intro hG p e R s m args below meth c H ls locs cells slots hK
  have h := k hG p e R s m args below meth c H ls locs cells slots hK
  exact lv_lmul hK.1.1 hK.1.2.1 hd (by rw [← Int64.ofInt_mul]; exact h)
theorem mj_r_ishl {x y : Int} (hd : decode Y.2.2.1 pc = .ok (.ishl, 1)) (k : mj_J g Y d kc ks (pc + 1, lv, .inl (mj_shl x y) :: st, M) Post) : mj_J g Y d kc ks (pc, lv, .inl y :: .inl x :: st, M) Post := by
  intro hG p e R s m args below meth c H ls locs cells slots hK
  have h := k hG p e R s m args below meth c H ls locs cells slots hK
  have e1 : Int32.ofInt (mj_shl x y) = Int32.ofInt x <<< (Int32.ofInt y &&& 31) := Int32.ofInt_toInt _
  exact lv_ishl hK.1.1 hK.1.2.1 hd (by rw [← e1]; exact h)
theorem mj_r_ishr {x y : Int} (hd : decode Y.2.2.1 pc = .ok (.ishr, 1)) (k : mj_J g Y d kc ks (pc + 1, lv, .inl (mj_shr x y) :: st, M) Post) : mj_J g Y d kc ks (pc, lv, .inl y :: .inl x :: st, M) Post := by
  intro hG p e R s m args below meth c H ls locs cells slots hK
  have h := k hG p e R s m args below meth c H ls locs cells slots hK
  have e1 : Int32.ofInt (mj_shr x y) = Int32.ofInt x >>> (Int32.ofInt y &&& 31) := Int32.ofInt_toInt _
  exact lv_ishr hK.1.1 hK.1.2.1 hd (by rw [← e1]; exact h)
theorem mj_r_iand {x y : Int} (hd : decode Y.2.2.1 pc = .ok (.iand, 1)) (k : mj_J g Y d kc ks (pc + 1, lv, .inl (mj_and x y) :: st, M) Post) : mj_J g Y d kc ks (pc, lv, .inl y :: .inl x :: st, M) Post := by
  intro hG p e R s m args below meth c H ls locs cells slots hK
  have h := k hG p e R s m args below meth c H ls locs cells slots hK
  have e1 : Int32.ofInt (mj_and x y) = Int32.ofInt x &&& Int32.ofInt y := Int32.ofInt_toInt _
  exact lv_iand hK.1.1 hK.1.2.1 hd (by rw [← e1]; exact h)
theorem mj_r_ior {x y : Int} (hd : decode Y.2.2.1 pc = .ok (.ior, 1)) (k : mj_J g Y d kc ks (pc + 1, lv, .inl (mj_ior x y) :: st, M) Post) : mj_J g Y d kc ks (pc, lv, .inl y :: .inl x :: st, M) Post := by
  intro hG p e R s m args below meth c H ls locs cells slots hK
  have h := k hG p e R s m args below meth c H ls locs cells slots hK
  have e1 : Int32.ofInt (mj_ior x y) = Int32.ofInt x ||| Int32.ofInt y := Int32.ofInt_toInt _
  exact lv_ior hK.1.1 hK.1.2.1 hd (by rw [← e1]; exact h)
theorem mj_r_iushr {x y : Int} (hd : decode Y.2.2.1 pc = .ok (.iushr, 1)) (k : mj_J g Y d kc ks (pc + 1, lv, .inl (mj_ush x y) :: st, M) Post) : mj_J g Y d kc ks (pc, lv, .inl y :: .inl x :: st, M) Post := by
  intro hG p e R s m args below meth c H ls locs cells slots hK
  have h := k hG p e R s m args below meth c H ls locs cells slots hK
  exact lv_iushr hK.1.1 hK.1.2.1 hd (v := Int32.ofInt (mj_ush x y)) (by rw [mj_ush, Int32.ofInt_toInt]) h
theorem mj_r_land {x y : Int} (hd : decode Y.2.2.1 pc = .ok (.land, 1)) (k : mj_J g Y d kc ks (pc + 1, lv, .inr (.inl (mj_lan x y)) :: st, M) Post) : mj_J g Y d kc ks (pc, lv, .inr (.inl y) :: .inr (.inl x) :: st, M) Post := by
  intro hG p e R s m args below meth c H ls locs cells slots hK
  have h := k hG p e R s m args below meth c H ls locs cells slots hK
  have e1 : Int64.ofInt (mj_lan x y) = Int64.ofInt x &&& Int64.ofInt y := Int64.ofInt_toInt _
  exact lv_land hK.1.1 hK.1.2.1 hd (by rw [← e1]; exact h)
theorem mj_r_lor {x y : Int} (hd : decode Y.2.2.1 pc = .ok (.lor, 1)) (k : mj_J g Y d kc ks (pc + 1, lv, .inr (.inl (mj_lor x y)) :: st, M) Post) : mj_J g Y d kc ks (pc, lv, .inr (.inl y) :: .inr (.inl x) :: st, M) Post := by
  intro hG p e R s m args below meth c H ls locs cells slots hK
  have h := k hG p e R s m args below meth c H ls locs cells slots hK
  have e1 : Int64.ofInt (mj_lor x y) = Int64.ofInt x ||| Int64.ofInt y := Int64.ofInt_toInt _
  exact lv_lor hK.1.1 hK.1.2.1 hd (by rw [← e1]; exact h)
theorem mj_r_lshl {x y : Int} (hd : decode Y.2.2.1 pc = .ok (.lshl, 1)) (k : mj_J g Y d kc ks (pc + 1, lv, .inr (.inl (mj_lsh x y)) :: st, M) Post) : mj_J g Y d kc ks (pc, lv, .inl y :: .inr (.inl x) :: st, M) Post := by
  intro hG p e R s m args below meth c H ls locs cells slots hK
  have h := k hG p e R s m args below meth c H ls locs cells slots hK
  exact lv_lshl hK.1.1 hK.1.2.1 hd (v := Int64.ofInt (mj_lsh x y)) (by rw [mj_lsh, Int64.ofInt_toInt]) h
theorem mj_r_i2l {x : Int} (hd : decode Y.2.2.1 pc = .ok (.i2l, 1)) (hx : mj_i x) (k : mj_J g Y d kc ks (pc + 1, lv, .inr (.inl x) :: st, M) Post) : mj_J g Y d kc ks (pc, lv, .inl x :: st, M) Post := by
  intro hG p e R s m args below meth c H ls locs cells slots hK
  have h := k hG p e R s m args below meth c H ls locs cells slots hK
  exact lv_i2l hK.1.1 hK.1.2.1 hd (v := Int64.ofInt x) (by rw [← Int64.ofInt_toInt (Int32.ofInt x).toInt64, Int32.toInt_toInt64, mj_ti hx]) h
theorem mj_div {x y : Int} (hx : mj_i x) (hy : mj_i y) (h0 : 0 ≤ x) (h1 : 0 < y) : Int32.ofInt x / Int32.ofInt y = Int32.ofInt (x / y) := by
  rw [← Int32.toInt_inj, Int32.toInt_div_of_ne_right _ _ (fun q => by rw [← Int32.toInt_inj, mj_ti hy] at q; have : y = -1 := q; omega), mj_ti hx, mj_ti hy, Int.tdiv_eq_ediv_of_nonneg h0, mj_ti]
  have := Int.ediv_le_self y h0
  have := Int.ediv_nonneg h0 (Int.le_of_lt h1)
  unfold mj_i at *
  omega
theorem mj_rem {x y : Int} (hx : mj_i x) (hy : mj_i y) (h0 : 0 ≤ x) (h1 : 0 < y) : Int32.ofInt x - Int32.ofInt x / Int32.ofInt y * Int32.ofInt y = Int32.ofInt (x % y) := by
  rw [mj_div hx hy h0 h1, ← Int32.ofInt_mul, ← Int32.ofInt_sub]
  congr 1
  have := Int.emod_add_mul_ediv x y
  rw [Int.mul_comm] at this
  omega
theorem mj_ldiv {x y : Int} (hx : mj_l x) (hy : mj_l y) (h0 : 0 ≤ x) (h1 : 0 < y) : Int64.ofInt x / Int64.ofInt y = Int64.ofInt (x / y) := by
  rw [← Int64.toInt_inj, Int64.toInt_div_of_ne_right _ _ (fun q => by rw [← Int64.toInt_inj, mj_tl hy] at q; have : y = -1 := q; omega), mj_tl hx, mj_tl hy, Int.tdiv_eq_ediv_of_nonneg h0, mj_tl]
  have := Int.ediv_le_self y h0
  have := Int.ediv_nonneg h0 (Int.le_of_lt h1)
  unfold mj_l at *
  omega
theorem mj_lrem {x y : Int} (hx : mj_l x) (hy : mj_l y) (h0 : 0 ≤ x) (h1 : 0 < y) : Int64.ofInt x - Int64.ofInt x / Int64.ofInt y * Int64.ofInt y = Int64.ofInt (x % y) := by
  rw [mj_ldiv hx hy h0 h1, ← Int64.ofInt_mul, ← Int64.ofInt_sub]
  congr 1
  have := Int.emod_add_mul_ediv x y
  rw [Int.mul_comm] at this
  omega
theorem mj_ne0 {y : Int} (hy : mj_i y) (h : 0 < y) : ¬ Int32.ofInt y = 0 := fun q => by
  have q2 : Int32.ofInt y = Int32.ofInt 0 := q
  rw [mj_eq hy mj_i0] at q2
  omega
theorem mj_lne0 {y : Int} (hy : mj_l y) (h : 0 < y) : ¬ Int64.ofInt y = 0 := fun q => by
  rw [← Int64.toInt_inj, mj_tl hy] at q
  have : y = 0 := q
  omega
theorem mj_r_idiv {x y : Int} (hd : decode Y.2.2.1 pc = .ok (.idiv, 1)) (hx : mj_i x) (hy : mj_i y) (h0 : 0 ≤ x) (h1 : 0 < y) (k : mj_J g Y d kc ks (pc + 1, lv, .inl (x / y) :: st, M) Post) : mj_J g Y d kc ks (pc, lv, .inl y :: .inl x :: st, M) Post := by
  intro hG p e R s m args below meth c H ls locs cells slots hK
  have h := k hG p e R s m args below meth c H ls locs cells slots hK
  exact lv_idiv hK.1.1 hK.1.2.1 hd (mj_ne0 hy h1) (by rw [mj_div hx hy h0 h1]; exact h)
theorem mj_r_irem {x y : Int} (hd : decode Y.2.2.1 pc = .ok (.irem, 1)) (hx : mj_i x) (hy : mj_i y) (h0 : 0 ≤ x) (h1 : 0 < y) (k : mj_J g Y d kc ks (pc + 1, lv, .inl (x % y) :: st, M) Post) : mj_J g Y d kc ks (pc, lv, .inl y :: .inl x :: st, M) Post := by
  intro hG p e R s m args below meth c H ls locs cells slots hK
  have h := k hG p e R s m args below meth c H ls locs cells slots hK
  exact lv_irem hK.1.1 hK.1.2.1 hd (mj_ne0 hy h1) (by rw [mj_rem hx hy h0 h1]; exact h)
theorem mj_r_ldiv {x y : Int} (hd : decode Y.2.2.1 pc = .ok (.ldiv, 1)) (hx : mj_l x) (hy : mj_l y) (h0 : 0 ≤ x) (h1 : 0 < y) (k : mj_J g Y d kc ks (pc + 1, lv, .inr (.inl (x / y)) :: st, M) Post) : mj_J g Y d kc ks (pc, lv, .inr (.inl y) :: .inr (.inl x) :: st, M) Post := by
  intro hG p e R s m args below meth c H ls locs cells slots hK
  have h := k hG p e R s m args below meth c H ls locs cells slots hK
  exact lv_ldiv hK.1.1 hK.1.2.1 hd (mj_lne0 hy h1) (by rw [mj_ldiv hx hy h0 h1]; exact h)
theorem mj_r_lrem {x y : Int} (hd : decode Y.2.2.1 pc = .ok (.lrem, 1)) (hx : mj_l x) (hy : mj_l y) (h0 : 0 ≤ x) (h1 : 0 < y) (k : mj_J g Y d kc ks (pc + 1, lv, .inr (.inl (x % y)) :: st, M) Post) : mj_J g Y d kc ks (pc, lv, .inr (.inl y) :: .inr (.inl x) :: st, M) Post := by
  intro hG p e R s m args below meth c H ls locs cells slots hK
  have h := k hG p e R s m args below meth c H ls locs cells slots hK
  exact lv_lrem hK.1.1 hK.1.2.1 hd (mj_lne0 hy h1) (by rw [mj_lrem hx hy h0 h1]; exact h)
theorem mj_cmp_of {x y : Int} (hx : mj_l x) (hy : mj_l y) : lg_cmp (Int64.ofInt x) (Int64.ofInt y) = Int32.ofInt (mj_cmp x y) := by
  have e1 : (Int64.ofInt x > Int64.ofInt y) ↔ y < x := by rw [gt_iff_lt, Int64.lt_iff_toInt_lt, mj_tl hx, mj_tl hy]
  have e2 : (Int64.ofInt x = Int64.ofInt y) ↔ x = y := by rw [← Int64.toInt_inj, mj_tl hx, mj_tl hy]
  unfold lg_cmp mj_cmp
  simp only [e1, e2]
  split
  · rfl
  · split <;> rfl
theorem mj_r_lcmp {x y : Int} (hd : decode Y.2.2.1 pc = .ok (.lcmp, 1)) (hx : mj_l x) (hy : mj_l y) (k : mj_J g Y d kc ks (pc + 1, lv, .inl (mj_cmp x y) :: st, M) Post) : mj_J g Y d kc ks (pc, lv, .inr (.inl y) :: .inr (.inl x) :: st, M) Post := by
  intro hG p e R s m args below meth c H ls locs cells slots hK
  have h := k hG p e R s m args below meth c H ls locs cells slots hK
  exact W.lcmp hK.1.1 hK.1.2.1 hd (by rw [mj_cmp_of hx hy]; exact h)
theorem mj_r_dup {w : mj_V} (hd : decode Y.2.2.1 pc = .ok (.dup, 1)) (hc : mj_cat w = 1) (k : mj_J g Y d kc ks (pc + 1, lv, w :: w :: st, M) Post) : mj_J g Y d kc ks (pc, lv, w :: st, M) Post := by
  intro hG p e R s m args below meth c H ls locs cells slots hK
  have h := k hG p e R s m args below meth c H ls locs cells slots hK
  exact lv_dup hK.1.1 hK.1.2.1 hd (by rw [mj_tr_cat]; exact hc) h
theorem mj_r_dup2 {w v : mj_V} (hd : decode Y.2.2.1 pc = .ok (.dup2, 1)) (hc : mj_cat w = 1) (hv : mj_cat v = 1) (k : mj_J g Y d kc ks (pc + 1, lv, w :: v :: w :: v :: st, M) Post) : mj_J g Y d kc ks (pc, lv, w :: v :: st, M) Post := by
  intro hG p e R s m args below meth c H ls locs cells slots hK
  have h := k hG p e R s m args below meth c H ls locs cells slots hK
  exact lv_dup2_11 hK.1.1 hK.1.2.1 hd (by rw [mj_tr_cat]; exact hc) (by rw [mj_tr_cat]; exact hv) h
theorem mj_r_goto {off : Int} {tgt : Nat} (hd : decode Y.2.2.1 pc = .ok (.goto off, 3)) (ht : (pc : Int) + off = (tgt : Int)) (k : mj_J g Y d kc ks (tgt, lv, st, M) Post) : mj_J g Y d kc ks (pc, lv, st, M) Post := by
  intro hG p e R s m args below meth c H ls locs cells slots hK
  exact lv_goto hK.1.1 hK.1.2.1 hd ht (k hG p e R s m args below meth c H ls locs cells slots hK)
theorem mj_r_icmp_eq {x y : Int} {off : Int} {tgt : Nat} (hd : decode Y.2.2.1 pc = .ok (.if_icmp .eq off, 3)) (ht : (pc : Int) + off = (tgt : Int)) (hx : mj_i x) (hy : mj_i y) (k : mj_J g Y d kc ks (if x = y then tgt else pc + 3, lv, st, M) Post) : mj_J g Y d kc ks (pc, lv, .inl y :: .inl x :: st, M) Post := by
  intro hG p e R s m args below meth c H ls locs cells slots hK
  have h := k hG p e R s m args below meth c H ls locs cells slots hK
  exact lv_icmp_eq hK.1.1 hK.1.2.1 hd ht (fun q => by
    have q2 : (Int32.ofInt x = Int32.ofInt y) := q
    rw [mj_eq hx hy] at q2
    have q3 : (x = y) := by omega
    simp only [if_pos q3] at h
    exact h)
    (fun q => by
    have q2 : ¬ (Int32.ofInt x = Int32.ofInt y) := q
    rw [mj_eq hx hy] at q2
    have q3 : ¬ (x = y) := by omega
    simp only [if_neg q3] at h
    exact h)
theorem mj_r_if_eq {x : Int} {off : Int} {tgt : Nat} (hd : decode Y.2.2.1 pc = .ok (.ifCond .eq off, 3)) (ht : (pc : Int) + off = (tgt : Int)) (hx : mj_i x) (k : mj_J g Y d kc ks (if x = 0 then tgt else pc + 3, lv, st, M) Post) : mj_J g Y d kc ks (pc, lv, .inl x :: st, M) Post := by
  intro hG p e R s m args below meth c H ls locs cells slots hK
  have h := k hG p e R s m args below meth c H ls locs cells slots hK
  exact lv_if_eq hK.1.1 hK.1.2.1 hd ht (fun q => by
    have q2 : (Int32.ofInt x = Int32.ofInt 0) := q
    rw [mj_eq hx mj_i0] at q2
    have q3 : (x = 0) := by omega
    simp only [if_pos q3] at h
    exact h)
    (fun q => by
    have q2 : ¬ (Int32.ofInt x = Int32.ofInt 0) := q
    rw [mj_eq hx mj_i0] at q2
    have q3 : ¬ (x = 0) := by omega
    simp only [if_neg q3] at h
    exact h)
theorem mj_r_icmp_ne {x y : Int} {off : Int} {tgt : Nat} (hd : decode Y.2.2.1 pc = .ok (.if_icmp .ne off, 3)) (ht : (pc : Int) + off = (tgt : Int)) (hx : mj_i x) (hy : mj_i y) (k : mj_J g Y d kc ks (if x = y then pc + 3 else tgt, lv, st, M) Post) : mj_J g Y d kc ks (pc, lv, .inl y :: .inl x :: st, M) Post := by
  intro hG p e R s m args below meth c H ls locs cells slots hK
  have h := k hG p e R s m args below meth c H ls locs cells slots hK
  exact lv_icmp_ne hK.1.1 hK.1.2.1 hd ht (fun q => by
    have q2 : ¬ (Int32.ofInt x = Int32.ofInt y) := q
    rw [mj_eq hx hy] at q2
    have q3 : ¬ (x = y) := by omega
    simp only [if_neg q3] at h
    exact h)
    (fun q => by
    have q2 : (Int32.ofInt x = Int32.ofInt y) := q
    rw [mj_eq hx hy] at q2
    have q3 : (x = y) := by omega
    simp only [if_pos q3] at h
    exact h)
theorem mj_r_if_ne {x : Int} {off : Int} {tgt : Nat} (hd : decode Y.2.2.1 pc = .ok (.ifCond .ne off, 3)) (ht : (pc : Int) + off = (tgt : Int)) (hx : mj_i x) (k : mj_J g Y d kc ks (if x = 0 then pc + 3 else tgt, lv, st, M) Post) : mj_J g Y d kc ks (pc, lv, .inl x :: st, M) Post := by
  intro hG p e R s m args below meth c H ls locs cells slots hK
  have h := k hG p e R s m args below meth c H ls locs cells slots hK
  exact lv_if_ne hK.1.1 hK.1.2.1 hd ht (fun q => by
    have q2 : ¬ (Int32.ofInt x = Int32.ofInt 0) := q
    rw [mj_eq hx mj_i0] at q2
    have q3 : ¬ (x = 0) := by omega
    simp only [if_neg q3] at h
    exact h)
    (fun q => by
    have q2 : (Int32.ofInt x = Int32.ofInt 0) := q
    rw [mj_eq hx mj_i0] at q2
    have q3 : (x = 0) := by omega
    simp only [if_pos q3] at h
    exact h)
theorem mj_r_icmp_lt {x y : Int} {off : Int} {tgt : Nat} (hd : decode Y.2.2.1 pc = .ok (.if_icmp .lt off, 3)) (ht : (pc : Int) + off = (tgt : Int)) (hx : mj_i x) (hy : mj_i y) (k : mj_J g Y d kc ks (if x < y then tgt else pc + 3, lv, st, M) Post) : mj_J g Y d kc ks (pc, lv, .inl y :: .inl x :: st, M) Post := by
  intro hG p e R s m args below meth c H ls locs cells slots hK
  have h := k hG p e R s m args below meth c H ls locs cells slots hK
  exact lv_icmp_lt hK.1.1 hK.1.2.1 hd ht (fun q => by
    have q2 : (Int32.ofInt x < Int32.ofInt y) := q
    rw [mj_lt hx hy] at q2
    have q3 : (x < y) := by omega
    simp only [if_pos q3] at h
    exact h)
    (fun q => by
    have q2 : ¬ (Int32.ofInt x < Int32.ofInt y) := q
    rw [mj_lt hx hy] at q2
    have q3 : ¬ (x < y) := by omega
    simp only [if_neg q3] at h
    exact h)
theorem mj_r_if_lt {x : Int} {off : Int} {tgt : Nat} (hd : decode Y.2.2.1 pc = .ok (.ifCond .lt off, 3)) (ht : (pc : Int) + off = (tgt : Int)) (hx : mj_i x) (k : mj_J g Y d kc ks (if x < 0 then tgt else pc + 3, lv, st, M) Post) : mj_J g Y d kc ks (pc, lv, .inl x :: st, M) Post := by
  intro hG p e R s m args below meth c H ls locs cells slots hK
  have h := k hG p e R s m args below meth c H ls locs cells slots hK
  exact lv_if_lt hK.1.1 hK.1.2.1 hd ht (fun q => by
    have q2 : (Int32.ofInt x < Int32.ofInt 0) := q
    rw [mj_lt hx mj_i0] at q2
    have q3 : (x < 0) := by omega
    simp only [if_pos q3] at h
    exact h)
    (fun q => by
    have q2 : ¬ (Int32.ofInt x < Int32.ofInt 0) := q
    rw [mj_lt hx mj_i0] at q2
    have q3 : ¬ (x < 0) := by omega
    simp only [if_neg q3] at h
    exact h)
theorem mj_r_icmp_ge {x y : Int} {off : Int} {tgt : Nat} (hd : decode Y.2.2.1 pc = .ok (.if_icmp .ge off, 3)) (ht : (pc : Int) + off = (tgt : Int)) (hx : mj_i x) (hy : mj_i y) (k : mj_J g Y d kc ks (if x < y then pc + 3 else tgt, lv, st, M) Post) : mj_J g Y d kc ks (pc, lv, .inl y :: .inl x :: st, M) Post := by
  intro hG p e R s m args below meth c H ls locs cells slots hK
  have h := k hG p e R s m args below meth c H ls locs cells slots hK
  exact lv_icmp_ge hK.1.1 hK.1.2.1 hd ht (fun q => by
    have q2 : (Int32.ofInt y ≤ Int32.ofInt x) := q
    rw [mj_le hy hx] at q2
    have q3 : ¬ (x < y) := by omega
    simp only [if_neg q3] at h
    exact h)
    (fun q => by
    have q2 : ¬ (Int32.ofInt y ≤ Int32.ofInt x) := q
    rw [mj_le hy hx] at q2
    have q3 : (x < y) := by omega
    simp only [if_pos q3] at h
    exact h)
theorem mj_r_if_ge {x : Int} {off : Int} {tgt : Nat} (hd : decode Y.2.2.1 pc = .ok (.ifCond .ge off, 3)) (ht : (pc : Int) + off = (tgt : Int)) (hx : mj_i x) (k : mj_J g Y d kc ks (if x < 0 then pc + 3 else tgt, lv, st, M) Post) : mj_J g Y d kc ks (pc, lv, .inl x :: st, M) Post := by
  intro hG p e R s m args below meth c H ls locs cells slots hK
  have h := k hG p e R s m args below meth c H ls locs cells slots hK
  exact lv_if_ge hK.1.1 hK.1.2.1 hd ht (fun q => by
    have q2 : (Int32.ofInt 0 ≤ Int32.ofInt x) := q
    rw [mj_le mj_i0 hx] at q2
    have q3 : ¬ (x < 0) := by omega
    simp only [if_neg q3] at h
    exact h)
    (fun q => by
    have q2 : ¬ (Int32.ofInt 0 ≤ Int32.ofInt x) := q
    rw [mj_le mj_i0 hx] at q2
    have q3 : (x < 0) := by omega
    simp only [if_pos q3] at h
    exact h)
theorem mj_r_icmp_gt {x y : Int} {off : Int} {tgt : Nat} (hd : decode Y.2.2.1 pc = .ok (.if_icmp .gt off, 3)) (ht : (pc : Int) + off = (tgt : Int)) (hx : mj_i x) (hy : mj_i y) (k : mj_J g Y d kc ks (if y < x then tgt else pc + 3, lv, st, M) Post) : mj_J g Y d kc ks (pc, lv, .inl y :: .inl x :: st, M) Post := by
  intro hG p e R s m args below meth c H ls locs cells slots hK
  have h := k hG p e R s m args below meth c H ls locs cells slots hK
  exact lv_icmp_gt hK.1.1 hK.1.2.1 hd ht (fun q => by
    have q2 : (Int32.ofInt y < Int32.ofInt x) := q
    rw [mj_lt hy hx] at q2
    have q3 : (y < x) := by omega
    simp only [if_pos q3] at h
    exact h)
    (fun q => by
    have q2 : ¬ (Int32.ofInt y < Int32.ofInt x) := q
    rw [mj_lt hy hx] at q2
    have q3 : ¬ (y < x) := by omega
    simp only [if_neg q3] at h
    exact h)
theorem mj_r_if_gt {x : Int} {off : Int} {tgt : Nat} (hd : decode Y.2.2.1 pc = .ok (.ifCond .gt off, 3)) (ht : (pc : Int) + off = (tgt : Int)) (hx : mj_i x) (k : mj_J g Y d kc ks (if 0 < x then tgt else pc + 3, lv, st, M) Post) : mj_J g Y d kc ks (pc, lv, .inl x :: st, M) Post := by
  intro hG p e R s m args below meth c H ls locs cells slots hK
  have h := k hG p e R s m args below meth c H ls locs cells slots hK
  exact lv_if_gt hK.1.1 hK.1.2.1 hd ht (fun q => by
    have q2 : (Int32.ofInt 0 < Int32.ofInt x) := q
    rw [mj_lt mj_i0 hx] at q2
    have q3 : (0 < x) := by omega
    simp only [if_pos q3] at h
    exact h)
    (fun q => by
    have q2 : ¬ (Int32.ofInt 0 < Int32.ofInt x) := q
    rw [mj_lt mj_i0 hx] at q2
    have q3 : ¬ (0 < x) := by omega
    simp only [if_neg q3] at h
    exact h)
theorem mj_r_icmp_le {x y : Int} {off : Int} {tgt : Nat} (hd : decode Y.2.2.1 pc = .ok (.if_icmp .le off, 3)) (ht : (pc : Int) + off = (tgt : Int)) (hx : mj_i x) (hy : mj_i y) (k : mj_J g Y d kc ks (if y < x then pc + 3 else tgt, lv, st, M) Post) : mj_J g Y d kc ks (pc, lv, .inl y :: .inl x :: st, M) Post := by
  intro hG p e R s m args below meth c H ls locs cells slots hK
  have h := k hG p e R s m args below meth c H ls locs cells slots hK
  exact lv_icmp_le hK.1.1 hK.1.2.1 hd ht (fun q => by
    have q2 : (Int32.ofInt x ≤ Int32.ofInt y) := q
    rw [mj_le hx hy] at q2
    have q3 : ¬ (y < x) := by omega
    simp only [if_neg q3] at h
    exact h)
    (fun q => by
    have q2 : ¬ (Int32.ofInt x ≤ Int32.ofInt y) := q
    rw [mj_le hx hy] at q2
    have q3 : (y < x) := by omega
    simp only [if_pos q3] at h
    exact h)
theorem mj_r_if_le {x : Int} {off : Int} {tgt : Nat} (hd : decode Y.2.2.1 pc = .ok (.ifCond .le off, 3)) (ht : (pc : Int) + off = (tgt : Int)) (hx : mj_i x) (k : mj_J g Y d kc ks (if 0 < x then pc + 3 else tgt, lv, st, M) Post) : mj_J g Y d kc ks (pc, lv, .inl x :: st, M) Post := by
  intro hG p e R s m args below meth c H ls locs cells slots hK
  have h := k hG p e R s m args below meth c H ls locs cells slots hK
  exact lv_if_le hK.1.1 hK.1.2.1 hd ht (fun q => by
    have q2 : (Int32.ofInt x ≤ Int32.ofInt 0) := q
    rw [mj_le hx mj_i0] at q2
    have q3 : ¬ (0 < x) := by omega
    simp only [if_neg q3] at h
    exact h)
    (fun q => by
    have q2 : ¬ (Int32.ofInt x ≤ Int32.ofInt 0) := q
    rw [mj_le hx mj_i0] at q2
    have q3 : (0 < x) := by omega
    simp only [if_pos q3] at h
    exact h)
theorem mj_r_table {dflt lo hi : Int} {offs : Array Int} {len : Nat} {x : Int} {tg : Nat → Nat} {td : Nat} (hd : decode Y.2.2.1 pc = .ok (.tableswitch dflt lo hi offs, len)) (hx : mj_i x) (h1 : (pc : Int) + dflt = (td : Int)) (h2 : ∀ j : Nat, (j : Int) ≤ hi - lo → ∃ off, offs[j]? = some off ∧ (pc : Int) + off = (tg j : Int)) (k : mj_J g Y d kc ks (if x < lo ∨ hi < x then td else tg (x - lo).toNat, lv, st, M) Post) : mj_J g Y d kc ks (pc, lv, .inl x :: st, M) Post := by
  intro hG p e R s m args below meth c H ls locs cells slots hK
  have h := k hG p e R s m args below meth c H ls locs cells slots hK
  by_cases q : x < lo ∨ hi < x
  · simp only [if_pos q] at h
    exact lv_tableOut hK.1.1 hK.1.2.1 hd (by rw [mj_ti hx]; exact q) h1 h
  · simp only [if_neg q] at h
    obtain ⟨off, e1, e2⟩ := h2 (x - lo).toNat (by omega)
    exact lv_tableIn hK.1.1 hK.1.2.1 hd (by rw [mj_ti hx]; omega) (by rw [mj_ti hx]; omega) (by rw [mj_ti hx]; exact e1) e2 h
end MJ
end
section
/-! ===== the small machine's memory: fields and elements ===== -/
theorem mj_arr.to {s0 : State} {H : Heap} {a : Nat} {ty : FieldType} {n : Nat} {f f' : Nat → Value} (h : mj_arr s0 H a ty n f) (e : ∀ j, j < n → f j = f' j) : mj_arr s0 H a ty n f' := by
  obtain ⟨c, h1, h2, h3, h4, h5⟩ := h
  exact ⟨c, h1, h2, h3, h4, fun j hj => by rw [← e j hj]; exact h5 j hj⟩
theorem mj_arr_set {s0 : State} {H1 : Heap} {a : Nat} {ty : FieldType} {n i : Nat} {f : Nat → Value} {c : Cell} (v : Value) (ha : s0.isArrayOf c ty) (hv : c.vm = .none) (hs : c.slots.size = n) (hf : ∀ j, j < n → c.slots[j]? = some (f j)) (h1 : H1[a]? = some (c.setSlot i v)) :
    mj_arr s0 H1 a ty n (fun j => if j = i then v else f j) := by
  refine ⟨_, h1, ha, hv, by rw [k2_slotsz]; exact hs, fun j hj => ?_⟩
  by_cases e : j = i
  · subst e
    rw [Cell.slots_setSlot_self _ (by rw [hs]; exact hj)]
    simp
  · rw [slot_ne _ _ (Ne.symm e), hf j hj]
    simp [e]
def mj_up (f : Nat → Int) (i : Nat) (v : Int) : Nat → Int := fun j => if j = i then v else f j
def mj_up2 (f : Nat → Nat → Int) (i j : Nat) (v : Int) : Nat → Nat → Int := fun a b => if a = i ∧ b = j then v else f a b
section MJM
variable {g : mj_G} {Y : mj_Y} {d kc ks pc : Nat} {lv : mj_L} {st : List mj_V} {M : mj_M} {Post : mj_O → mj_M → Prop}
/-- the same standing with one cell changed -/
theorem mj_K.mem {p : Program} {R : Room} {s : State} {m : MethodId} {args : Array Value} {meth : Method} {c : Code} {H H1 : Heap} {ls : Array Slot} {locs L : List Loc} {cells slots p0 : Nat} {c0 c1 : mj_C} (hK : mj_K g Y d kc ks lv M p R s m args meth c H ls locs cells slots) (hp : M[p0]? = some c0) (hz : H1.size = H.size)
    (ho : ∀ A : Nat, (A < g.2.2.1.heap.size + mj_o p0 ∨ g.2.2.1.heap.size + mj_o (p0 + 1) ≤ A) → H1[A]? = H[A]?) (hc : mj_cell g.2.1 g.2.2.1 g.2.2.2.1 g.2.2.1.heap.size p0 H1 c1) (hL : ∀ q ∈ L, g.2.2.1.heap.size ≤ q.base) : mj_K g Y d kc ks lv (M.set p0 c1) p R s m args meth c H1 ls (locs ++ L) cells slots := by
  refine ⟨hK.1, hK.2.1, hK.2.2.1.set hp hz ho hc, fun q hq => ?_, hK.2.2.2.2.1, fun q hq => ?_⟩
  · rw [ho q (Or.inl (by omega))]
    exact hK.2.2.2.1 q hq
  · rcases List.mem_append.mp hq with h | h
    · exact hK.2.2.2.2.2 q h
    · exact hL q h
theorem mj_cls_at {ci : Nat} {q : String × List (String × String × Bool)} (h : mj_cf[ci]? = some q) : mj_cls[ci]? = some (mj_tb q) := by
  rw [mj_cls, List.getElem?_map, h]
  rfl
theorem mj_tb_at {C : String} {fl : List (String × String × Bool)} {k : Nat} {f : String × String × Bool} (h : fl[k]? = some f) : (mj_tb (C, fl)).2.1 k = (C, f.1, f.2.1, f.2.2) := by
  simp [mj_tb, List.getD, h]
theorem mj_in {ci : Nat} {q : String × List (String × String × Bool)} (h : mj_cf[ci]? = some q) : ∀ w ∈ u_ws q.1 (mj_tb q).2.1 q.2.length, w ∈ lw_tbl := by
  intro w hw
  have h1 := List.all_eq_true.mp mj_cf_in q (List.mem_of_getElem? h)
  exact of_decide_eq_true (List.all_eq_true.mp h1 w hw)
theorem mj_ty_at {ci : Nat} {q : String × List (String × String × Bool)} (h : mj_cf[ci]? = some q) : ∀ k, k < q.2.length → parseFieldDescriptor ((mj_tb q).2.1 k).2.2.1 = some ((parseFieldDescriptor ((mj_tb q).2.1 k).2.2.1).getD .int) := by
  intro k hk
  have h1 := List.all_eq_true.mp mj_cf_ty q (List.mem_of_getElem? h)
  have h2 := List.all_eq_true.mp h1 k (List.mem_range.mpr hk)
  cases e : parseFieldDescriptor ((mj_tb q).2.1 k).2.2.1 with
  | none => rw [e] at h2; cases h2
  | some t => rfl
theorem mj_nm_at {ci : Nat} {q : String × List (String × String × Bool)} (h : mj_cf[ci]? = some q) : ∀ a, a < q.2.length → ∀ b, b < q.2.length → a ≠ b → ((mj_tb q).2.1 a).2.1 ≠ ((mj_tb q).2.1 b).2.1 := by
  intro a ha b hb hab
  have h1 := List.all_eq_true.mp mj_cf_nm q (List.mem_of_getElem? h)
  have h2 := List.all_eq_true.mp (List.all_eq_true.mp h1 a (List.mem_range.mpr ha)) b (List.mem_range.mpr hb)
  have h3 := of_decide_eq_true h2
  exact h3 hab
/-- what a standing knows of a field of one of the classes -/
theorem mj_field {p : Program} {R : Room} {s : State} {m : MethodId} {args : Array Value} {meth : Method} {c : Code} {H : Heap} {ls : Array Slot} {locs : List Loc} {cells slots : Nat} (hG : mj_F g) (hK : mj_K g Y d kc ks lv M p R s m args meth c H ls locs cells slots)
    {ci k p0 : Nat} {C : String} {fl : List (String × String × Bool)} {fd : String × String × Bool} {fs : List mj_V} (hc : mj_cf[ci]? = some (C, fl)) (hf : fl[k]? = some fd) (hM : M[p0]? = some (.inr (.inr (ci, fs)))) :
    ∃ (cell : Cell) (cf : Nat) (kf : Class) (fi : Nat) (f : Field) (kC : Class), H[g.2.2.1.heap.size + mj_o p0]? = some cell ∧ cell.cls = g.2.1.1 ci ∧ cell.vm = .none ∧ (∀ j, j < fl.length → cell.slots[g.2.1.2 ci j]? = some (mj_tr g.2.2.2.1 g.2.2.1.heap.size (fs.getD j (.inl 0)))) ∧
      s.fieldFound? C fd.1 fd.2.1 = some (cf, kf, fi, f) ∧ f.slot = g.2.1.2 ci k ∧ f.isStatic = false ∧ s.vm.findClass C = some (g.2.1.1 ci) ∧ s.vm.classes[g.2.1.1 ci]? = some kC ∧ kC.kind = .ordinary ∧
      (∀ x y, x < fl.length → y < fl.length → x ≠ y → g.2.1.2 ci x ≠ g.2.1.2 ci y) ∧ (u_lay C (mj_tb (C, fl)).2.1 k).before args s = true := by
  have hcl := mj_cls_at hc
  have hk : k < fl.length := (List.getElem?_eq_some_iff.mp hf).1
  have hT := mj_tb_at (C := C) hf
  obtain ⟨r, hr, cell, q1, q2, q3, q4⟩ := hK.2.2.1.2 p0 _ hM
  have hr2 : r = mj_tb (C, fl) := Option.some.inj (hr.symm.trans hcl)
  subst hr2
  have hKs : va_K g.2.1 mj_cls [] s := hG.1.moved hK.1.2.2.2.2.2.2.2.2.1
  obtain ⟨hS, hfc, kC, hkC, hkind⟩ := hKs.1 ci _ hcl
  obtain ⟨cf, kf, fi, f, hi, hsl⟩ := hS k hk
  have hts := hK.1.2.2.2.2.1
  have hlay := u_lays (T := (mj_tb (C, fl)).2.1) hts (mj_in hc) hk
  rw [hT] at hi hlay
  refine ⟨cell, cf, kf, fi, f, kC, q1, q2, q3, q4, hi, hsl, (u_facts hfc hkC hlay hi).1, hfc, hkC, hkind, ?_, hts _ (mj_in hc _ (u_in_lay hk))⟩
  exact va_apart (own := Y.1) hts (mj_in hc) _ (mj_ty_at hc) (mj_nm_at hc) hKs hcl
theorem mj_r_getf {ci k idx p0 : Nat} {C nm ds : String} {fin : Bool} {fl : List (String × String × Bool)} {fs : List mj_V} {w : mj_V} (hd : decode Y.2.2.1 pc = .ok (.getfield idx, 3)) (hc : mj_cf[ci]? = some (C, fl)) (hf : fl[k]? = some (nm, ds, fin))
    (hw : Cond.fieldLink Y.1 idx C nm ds ∈ lw_tbl ∨ Cond.fieldLinkNest Y.1 idx C nm ds "ChartForest" ∈ lw_tbl) (hM : M[p0]? = some (.inr (.inr (ci, fs)))) (hv : fs[k]? = some w) (kk : mj_J g Y d kc ks (pc + 3, lv, w :: st, M) Post) : mj_J g Y d kc ks (pc, lv, .inr (.inr (.inl (some (p0, 0)))) :: st, M) Post := by
  intro hG p e R s m args below meth c H ls locs cells slots hK
  have h := kk hG p e R s m args below meth c H ls locs cells slots hK
  obtain ⟨cell, cf, kf, fi, f, kC, q1, q2, q3, q4, hi, hsl, hst, -⟩ := mj_field hG hK hc hf hM
  have hk : k < fl.length := (List.getElem?_eq_some_iff.mp hf).1
  have hv' : cell.slots[f.slot]? = some (mj_tr g.2.2.2.1 g.2.2.1.heap.size w) := by
    rw [hsl, q4 k hk]
    simp [List.getD, hv]
  rcases hw with hw | hw
  · exact W.getf hK.1.1 hK.1.2.1 hK.1.2.2.2.1 (hK.1.2.2.2.2.1 _ hw) hi hst q1 (by rw [q3]; exact fun h => by cases h) hv' rfl rfl hd h
  · exact va_Wgetf hK.1.1 hK.1.2.1 hK.1.2.2.2.1 (hK.1.2.2.2.2.1 _ hw) hi hst q1 (by rw [q3]; exact fun h => by cases h) hv' rfl rfl hd h
/-- a value that may stand in a field of this descriptor -/
def mj_fits (b z : Nat) (ds : String) (w : mj_V) : Prop := ∃ ty : FieldType, parseFieldDescriptor ds = some ty ∧ narrow ty (mj_tr b z w) = mj_tr b z w ∧ fits ty (mj_tr b z w) = true
theorem mj_obj_set {H1 : Heap} {p0 ci k : Nat} {C : String} {fl : List (String × String × Bool)} {fs : List mj_V} {cell : Cell} {f : Field} (w : mj_V) (hc : mj_cf[ci]? = some (C, fl)) (hk : k < fl.length) (hkl : k < fs.length) (hsl : f.slot = g.2.1.2 ci k) (q2 : cell.cls = g.2.1.1 ci) (q3 : cell.vm = .none)
    (q4 : ∀ j, j < fl.length → cell.slots[g.2.1.2 ci j]? = some (mj_tr g.2.2.2.1 g.2.2.1.heap.size (fs.getD j (.inl 0)))) (hap : ∀ x y, x < fl.length → y < fl.length → x ≠ y → g.2.1.2 ci x ≠ g.2.1.2 ci y)
    (h1 : H1[g.2.2.1.heap.size + mj_o p0]? = some (cell.setSlot f.slot (mj_tr g.2.2.2.1 g.2.2.1.heap.size w))) : mj_cell g.2.1 g.2.2.1 g.2.2.2.1 g.2.2.1.heap.size p0 H1 (.inr (.inr (ci, fs.set k w))) := by
  refine ⟨_, mj_cls_at hc, _, h1, q2, q3, fun j hj => ?_⟩
  rw [hsl, t_set q4 hap hk _ j hj, updV]
  by_cases e : j = k
  · subst e
    simp [List.getD, hkl]
  · simp [List.getD, e, List.getElem?_set_ne (Ne.symm e)]
theorem mj_r_putf {ci k idx p0 : Nat} {C nm ds : String} {fl : List (String × String × Bool)} {fs : List mj_V} {w : mj_V} (hd : decode Y.2.2.1 pc = .ok (.putfield idx, 3)) (hc : mj_cf[ci]? = some (C, fl)) (hf : fl[k]? = some (nm, ds, false))
    (hw : Cond.fieldLink Y.1 idx C nm ds ∈ lw_tbl ∨ Cond.fieldLinkNest Y.1 idx C nm ds "ChartForest" ∈ lw_tbl) (hM : M[p0]? = some (.inr (.inr (ci, fs)))) (hkl : k < fs.length) (hft : ∀ b z, mj_fits b z ds w) (kk : mj_J g Y d kc ks (pc + 3, lv, st, M.set p0 (.inr (.inr (ci, fs.set k w)))) Post) : mj_J g Y d kc ks (pc, lv, w :: .inr (.inr (.inl (some (p0, 0)))) :: st, M) Post := by
  intro hG p e R s m args below meth c H ls locs cells slots hK
  obtain ⟨cell, cf, kf, fi, f, kC, q1, q2, q3, q4, hi, hsl, hst, hfc, hkC, hkind, hap, hlay⟩ := mj_field hG hK hc hf hM
  have hk : k < fl.length := (List.getElem?_eq_some_iff.mp hf).1
  have hT := mj_tb_at (C := C) hf
  have hl : (Cond.lays C C nm ds).before args s = true := by
    unfold u_lay at hlay
    rw [hT] at hlay
    exact hlay
  obtain ⟨ty, t1, t2, t3⟩ := hft g.2.2.2.1 g.2.2.1.heap.size
  have hS := u_store hfc hkC hkind hl hi t1 t2 t3
  rw [← q2] at hS
  have hlt : f.slot < cell.slots.size := by
    rw [hsl]
    exact k2_hasslot (q4 k hk)
  have fin : ∀ H' : Heap, H'[g.2.2.1.heap.size + mj_o p0]? = some (cell.setSlot f.slot (mj_tr g.2.2.2.1 g.2.2.1.heap.size w)) → H'.size = H.size → (∀ q, q ≠ g.2.2.1.heap.size + mj_o p0 → H'[q]? = H[q]?) →
      W p g.1 e R s m args below meth c H' (locs ++ [⟨g.2.2.1.heap.size + mj_o p0, f.slot⟩]) cells slots (mj_Z g Post below s (cells + kc) (slots + ks)) (F0 m (pc + 3) ls (st.map (mj_tr g.2.2.2.1 g.2.2.1.heap.size))) := by
    intro H' h1 h2 h3
    refine kk hG p e R s m args below meth c H' ls _ cells slots (hK.mem hM h2 (fun A hA => h3 A (by have := mj_o_s p0; omega)) (mj_obj_set w hc hk hkl hsl q2 q3 q4 hap h1) (fun q hq => ?_))
    rw [List.mem_singleton.mp hq]
    exact Nat.le_add_right _ _
  rcases hw with hw | hw
  · exact W.putK hK.1.1 hK.1.2.1 ⟨hK.1.2.2.2.1, hK.1.2.2.2.2.1 _ hw, ⟨cf, kf, fi, hi⟩, hst⟩ hS q1 q3 hlt rfl rfl hd fin
  · exact va_WputK hK.1.1 hK.1.2.1 hK.1.2.2.2.1 (hK.1.2.2.2.2.1 _ hw) hi hst hS q1 q3 hlt rfl rfl hd fin
theorem mj_r_putF {ci k idx p0 : Nat} {nm ds : String} {fl : List (String × String × Bool)} {fs : List mj_V} {w : mj_V} (hd : decode Y.2.2.1 pc = .ok (.putfield idx, 3)) (hc : mj_cf[ci]? = some (Y.1, fl)) (hf : fl[k]? = some (nm, ds, true)) (hi0 : Y.2.1.name = "<init>")
    (hw : Cond.fieldLink Y.1 idx Y.1 nm ds ∈ lw_tbl) (hM : M[p0]? = some (.inr (.inr (ci, fs)))) (hkl : k < fs.length) (hft : ∀ b z, mj_fits b z ds w) (kk : mj_J g Y d kc ks (pc + 3, lv, st, M.set p0 (.inr (.inr (ci, fs.set k w)))) Post) : mj_J g Y d kc ks (pc, lv, w :: .inr (.inr (.inl (some (p0, 0)))) :: st, M) Post := by
  intro hG p e R s m args below meth c H ls locs cells slots hK
  obtain ⟨cell, cf, kf, fi, f, kC, q1, q2, q3, q4, hi, hsl, hst, hfc, hkC, hkind, hap, hlay⟩ := mj_field hG hK hc hf hM
  have hk : k < fl.length := (List.getElem?_eq_some_iff.mp hf).1
  have hT := mj_tb_at (C := Y.1) hf
  have hl : (Cond.laysFinal Y.1 Y.1 nm ds).before args s = true := by
    unfold u_lay at hlay
    rw [hT] at hlay
    exact hlay
  obtain ⟨ty, t1, t2, t3⟩ := hft g.2.2.2.1 g.2.2.1.heap.size
  have hS := u_fits hfc hkC hkind (Or.inr hl) hi t1 t2 t3
  rw [← q2] at hS
  have hlt : f.slot < cell.slots.size := by
    rw [hsl]
    exact k2_hasslot (q4 k hk)
  have hown := hK.1.2.2.2.1
  have hcf : m.cls = cf := by
    obtain ⟨_, _, c', _, _, _, -, -, hf', -, -, -, hown2, -⟩ := Cond.laysFinal_spec hl
    have e1 : c' = cf := by have := hi.symm.trans hf'; simp at this; exact this.1.symm
    rw [← e1]; exact Option.some.inj (hown.symm.trans hown2)
  refine W.putFinK hK.1.1 hK.1.2.1 hown (hK.1.2.2.2.2.1 _ hw) hi hst hcf (hK.1.2.2.2.2.2.2.2.1.trans hi0) hS q1 q3 hlt rfl rfl hd ?_
  intro H' h1 h2 h3
  refine kk hG p e R s m args below meth c H' ls _ cells slots (hK.mem hM h2 (fun A hA => h3 A (by have := mj_o_s p0; omega)) (mj_obj_set w hc hk hkl hsl q2 q3 q4 hap h1) (fun q hq => ?_))
  rw [List.mem_singleton.mp hq]
  exact Nat.le_add_right _ _
theorem mj_r_iald {p0 n : Nat} {f : Nat → Int} {x : Int} (hd : decode Y.2.2.1 pc = .ok (.iaload, 1)) (hM : M[p0]? = some (.inl (0, n, f))) (hx : mj_i x) (h0 : 0 ≤ x) (h1 : x < n) (kk : mj_J g Y d kc ks (pc + 1, lv, .inl (f x.toNat) :: st, M) Post) : mj_J g Y d kc ks (pc, lv, .inl x :: .inr (.inr (.inl (some (p0, 0)))) :: st, M) Post := by
  intro hG p e R s m args below meth c H ls locs cells slots hK
  have h := kk hG p e R s m args below meth c H ls locs cells slots hK
  obtain ⟨cell, q1, q2, q3, q4, q5⟩ := hK.2.2.1.2 p0 _ hM
  exact W.iald hK.1.1 hK.1.2.1 q1 (State.isArrayOf_alike hK.1.2.2.2.2.2.2.2.2.1 q2) (by rw [q3]; exact fun h => by cases h) (by rw [q4]; exact mj_in_ h0 h1 hx) (by rw [mj_cl hx]; exact q5 _ (by omega)) rfl rfl hd h
theorem mj_r_zald {p0 n : Nat} {f : Nat → Int} {x : Int} (hd : decode Y.2.2.1 pc = .ok (.baload, 1)) (hM : M[p0]? = some (.inl (1, n, f))) (hx : mj_i x) (h0 : 0 ≤ x) (h1 : x < n) (kk : mj_J g Y d kc ks (pc + 1, lv, .inl (f x.toNat) :: st, M) Post) : mj_J g Y d kc ks (pc, lv, .inl x :: .inr (.inr (.inl (some (p0, 0)))) :: st, M) Post := by
  intro hG p e R s m args below meth c H ls locs cells slots hK
  have h := kk hG p e R s m args below meth c H ls locs cells slots hK
  obtain ⟨cell, q1, q2, q3, q4, q5⟩ := hK.2.2.1.2 p0 _ hM
  exact W.zald hK.1.1 hK.1.2.1 q1 (State.isArrayOf_alike hK.1.2.2.2.2.2.2.2.2.1 q2) (by rw [q3]; exact fun h => by cases h) (by rw [q4]; exact mj_in_ h0 h1 hx) (by rw [mj_cl hx]; exact q5 _ (by omega)) rfl rfl hd h
theorem mj_r_lald {p0 n : Nat} {f : Nat → Int} {x : Int} (hd : decode Y.2.2.1 pc = .ok (.laload, 1)) (hM : M[p0]? = some (.inl (2, n, f))) (hx : mj_i x) (h0 : 0 ≤ x) (h1 : x < n) (kk : mj_J g Y d kc ks (pc + 1, lv, .inr (.inl (f x.toNat)) :: st, M) Post) : mj_J g Y d kc ks (pc, lv, .inl x :: .inr (.inr (.inl (some (p0, 0)))) :: st, M) Post := by
  intro hG p e R s m args below meth c H ls locs cells slots hK
  have h := kk hG p e R s m args below meth c H ls locs cells slots hK
  obtain ⟨cell, q1, q2, q3, q4, q5⟩ := hK.2.2.1.2 p0 _ hM
  exact W.lald hK.1.1 hK.1.2.1 q1 (State.isArrayOf_alike hK.1.2.2.2.2.2.2.2.2.1 q2) (by rw [q3]; exact fun h => by cases h) (by rw [q4]; exact mj_in_ h0 h1 hx) (by rw [mj_cl hx]; exact q5 _ (by omega)) rfl rfl hd h
theorem mj_r_aald {p0 n k0 : Nat} {f : Nat → Nat → Int} {x : Int} (hd : decode Y.2.2.1 pc = .ok (.aaload, 1)) (hM : M[p0]? = some (.inr (.inl (n, k0, f)))) (hx : mj_i x) (h0 : 0 ≤ x) (h1 : x < n) (kk : mj_J g Y d kc ks (pc + 1, lv, .inr (.inr (.inl (some (p0, x.toNat + 1)))) :: st, M) Post) : mj_J g Y d kc ks (pc, lv, .inl x :: .inr (.inr (.inl (some (p0, 0)))) :: st, M) Post := by
  intro hG p e R s m args below meth c H ls locs cells slots hK
  have h := kk hG p e R s m args below meth c H ls locs cells slots hK
  obtain ⟨-, ⟨cell, q1, q2, q3, q4, q5⟩, -⟩ := hK.2.2.1.2 p0 _ hM
  exact W.aald hK.1.1 hK.1.2.1 q1 (State.isArrayOf_alike hK.1.2.2.2.2.2.2.2.2.1 q2) rfl (by rw [q3]; exact fun h => by cases h) (by rw [q4]; exact mj_in_ h0 h1 hx) (by rw [mj_cl hx]; exact q5 _ (by omega)) rfl rfl hd h
theorem mj_r_gald {p0 n k0 r : Nat} {f : Nat → Nat → Int} {x : Int} (hd : decode Y.2.2.1 pc = .ok (.iaload, 1)) (hM : M[p0]? = some (.inr (.inl (n, k0, f)))) (hr : r < n) (hx : mj_i x) (h0 : 0 ≤ x) (h1 : x < k0) (kk : mj_J g Y d kc ks (pc + 1, lv, .inl (f r x.toNat) :: st, M) Post) : mj_J g Y d kc ks (pc, lv, .inl x :: .inr (.inr (.inl (some (p0, r + 1)))) :: st, M) Post := by
  intro hG p e R s m args below meth c H ls locs cells slots hK
  have h := kk hG p e R s m args below meth c H ls locs cells slots hK
  obtain ⟨-, -, hrow⟩ := hK.2.2.1.2 p0 _ hM
  obtain ⟨cell, q1, q2, q3, q4, q5⟩ := hrow r hr
  exact W.iald hK.1.1 hK.1.2.1 q1 (State.isArrayOf_alike hK.1.2.2.2.2.2.2.2.2.1 q2) (by rw [q3]; exact fun h => by cases h) (by rw [q4]; exact mj_in_ h0 h1 hx) (by rw [mj_cl hx]; exact q5 _ (by omega)) rfl rfl hd h
theorem mj_r_iast {p0 n : Nat} {f : Nat → Int} {x y : Int} (hd : decode Y.2.2.1 pc = .ok (.iastore, 1)) (hM : M[p0]? = some (.inl (0, n, f))) (hx : mj_i x) (h0 : 0 ≤ x) (h1 : x < n) (kk : mj_J g Y d kc ks (pc + 1, lv, st, M.set p0 (.inl (0, n, mj_up f x.toNat y))) Post) : mj_J g Y d kc ks (pc, lv, .inl y :: .inl x :: .inr (.inr (.inl (some (p0, 0)))) :: st, M) Post := by
  intro hG p e R s m args below meth c H ls locs cells slots hK
  obtain ⟨cell, q1, q2, q3, q4, q5⟩ := hK.2.2.1.2 p0 _ hM
  refine W.iast hK.1.1 hK.1.2.1 q1 (State.isArrayOf_alike hK.1.2.2.2.2.2.2.2.2.1 q2) (by rw [q3]; exact fun h => by cases h) (by rw [q4]; exact mj_in_ h0 h1 hx) rfl rfl hd ?_
  intro H' e1 e2 e3
  rw [mj_cl hx] at e1
  refine kk hG p e R s m args below meth c H' ls _ cells slots (hK.mem hM e2 (fun A hA => e3 A (by have := mj_o_s p0; omega)) ?_ (fun q hq => ?_))
  · refine mj_arr.to (mj_arr_set _ q2 q3 q4 q5 e1) fun j hj => ?_
    unfold mj_up
    by_cases e : j = x.toNat
    · simp [e, mj_num]
    · simp [e]
  · rw [List.mem_singleton.mp hq]
    exact Nat.le_add_right _ _
theorem mj_nb {y : Int} (h : y = 0 ∨ y = 1) : narrow .boolean (.int (Int32.ofInt y)) = .int (Int32.ofInt y) := by
  rcases h with rfl | rfl <;> rfl
theorem mj_r_zast {p0 n : Nat} {f : Nat → Int} {x y : Int} (hd : decode Y.2.2.1 pc = .ok (.bastore, 1)) (hM : M[p0]? = some (.inl (1, n, f))) (hx : mj_i x) (h0 : 0 ≤ x) (h1 : x < n) (hy : y = 0 ∨ y = 1) (kk : mj_J g Y d kc ks (pc + 1, lv, st, M.set p0 (.inl (1, n, mj_up f x.toNat y))) Post) : mj_J g Y d kc ks (pc, lv, .inl y :: .inl x :: .inr (.inr (.inl (some (p0, 0)))) :: st, M) Post := by
  intro hG p e R s m args below meth c H ls locs cells slots hK
  obtain ⟨cell, q1, q2, q3, q4, q5⟩ := hK.2.2.1.2 p0 _ hM
  refine W.zast hK.1.1 hK.1.2.1 q1 (State.isArrayOf_alike hK.1.2.2.2.2.2.2.2.2.1 q2) (by rw [q3]; exact fun h => by cases h) (by rw [q4]; exact mj_in_ h0 h1 hx) rfl rfl hd ?_
  intro H' e1 e2 e3
  rw [mj_cl hx, mj_nb hy] at e1
  refine kk hG p e R s m args below meth c H' ls _ cells slots (hK.mem hM e2 (fun A hA => e3 A (by have := mj_o_s p0; omega)) ?_ (fun q hq => ?_))
  · refine mj_arr.to (mj_arr_set _ q2 q3 q4 q5 e1) fun j hj => ?_
    unfold mj_up
    by_cases e : j = x.toNat
    · simp [e, mj_num]
    · simp [e]
  · rw [List.mem_singleton.mp hq]
    exact Nat.le_add_right _ _
theorem mj_r_last {p0 n : Nat} {f : Nat → Int} {x y : Int} (hd : decode Y.2.2.1 pc = .ok (.lastore, 1)) (hM : M[p0]? = some (.inl (2, n, f))) (hx : mj_i x) (h0 : 0 ≤ x) (h1 : x < n) (kk : mj_J g Y d kc ks (pc + 1, lv, st, M.set p0 (.inl (2, n, mj_up f x.toNat y))) Post) : mj_J g Y d kc ks (pc, lv, .inr (.inl y) :: .inl x :: .inr (.inr (.inl (some (p0, 0)))) :: st, M) Post := by
  intro hG p e R s m args below meth c H ls locs cells slots hK
  obtain ⟨cell, q1, q2, q3, q4, q5⟩ := hK.2.2.1.2 p0 _ hM
  refine W.last hK.1.1 hK.1.2.1 q1 (State.isArrayOf_alike hK.1.2.2.2.2.2.2.2.2.1 q2) (by rw [q3]; exact fun h => by cases h) (by rw [q4]; exact mj_in_ h0 h1 hx) rfl rfl hd ?_
  intro H' e1 e2 e3
  rw [mj_cl hx] at e1
  refine kk hG p e R s m args below meth c H' ls _ cells slots (hK.mem hM e2 (fun A hA => e3 A (by have := mj_o_s p0; omega)) ?_ (fun q hq => ?_))
  · refine mj_arr.to (mj_arr_set _ q2 q3 q4 q5 e1) fun j hj => ?_
    unfold mj_up
    by_cases e : j = x.toNat
    · simp [e, mj_num]
    · simp [e]
  · rw [List.mem_singleton.mp hq]
    exact Nat.le_add_right _ _
theorem mj_r_gast {p0 n k0 r : Nat} {f : Nat → Nat → Int} {x y : Int} (hd : decode Y.2.2.1 pc = .ok (.iastore, 1)) (hM : M[p0]? = some (.inr (.inl (n, k0, f)))) (hr : r < n) (hx : mj_i x) (h0 : 0 ≤ x) (h1 : x < k0) (kk : mj_J g Y d kc ks (pc + 1, lv, st, M.set p0 (.inr (.inl (n, k0, mj_up2 f r x.toNat y)))) Post) : mj_J g Y d kc ks (pc, lv, .inl y :: .inl x :: .inr (.inr (.inl (some (p0, r + 1)))) :: st, M) Post := by
  intro hG p e R s m args below meth c H ls locs cells slots hK
  obtain ⟨hsz, hhd, hrow⟩ := hK.2.2.1.2 p0 _ hM
  obtain ⟨cell, q1, q2, q3, q4, q5⟩ := hrow r hr
  refine W.iast hK.1.1 hK.1.2.1 q1 (State.isArrayOf_alike hK.1.2.2.2.2.2.2.2.2.1 q2) (by rw [q3]; exact fun h => by cases h) (by rw [q4]; exact mj_in_ h0 h1 hx) rfl rfl hd ?_
  intro H' e1 e2 e3
  rw [mj_cl hx] at e1
  refine kk hG p e R s m args below meth c H' ls _ cells slots (hK.mem hM e2 (fun A hA => e3 A (by have := mj_o_s p0; omega)) ⟨hsz, hhd.kept (e3 _ (by omega)), fun i hi => ?_⟩ (fun q hq => ?_))
  · by_cases e : i = r
    · subst e
      refine mj_arr.to (mj_arr_set _ q2 q3 q4 q5 e1) fun j hj => ?_
      unfold mj_up2
      by_cases e : j = x.toNat
      · simp [e]
      · simp [e]
    · refine mj_arr.to ((hrow i hi).kept (e3 _ (by omega))) fun j hj => ?_
      unfold mj_up2
      simp [e]
  · rw [List.mem_singleton.mp hq]
    show _ ≤ _ + _ + _
    omega
theorem mj_len {n : Nat} (h : n < 2147483648) : n.toInt32 = Int32.ofInt (n : Int) := by
  rw [Int32.ofInt_natCast]
  rfl
theorem mj_r_alen {p0 n k0 : Nat} {f : Nat → Int} (hd : decode Y.2.2.1 pc = .ok (.arraylength, 1)) (hM : M[p0]? = some (.inl (k0, n, f))) (hn : n < 2147483648) (kk : mj_J g Y d kc ks (pc + 1, lv, .inl (n : Int) :: st, M) Post) : mj_J g Y d kc ks (pc, lv, .inr (.inr (.inl (some (p0, 0)))) :: st, M) Post := by
  intro hG p e R s m args below meth c H ls locs cells slots hK
  have h := kk hG p e R s m args below meth c H ls locs cells slots hK
  obtain ⟨cell, q1, q2, q3, q4, q5⟩ := hK.2.2.1.2 p0 _ hM
  exact W.alen hK.1.1 hK.1.2.1 q1 (State.isArrayOf_alike hK.1.2.2.2.2.2.2.2.2.1 q2) (by rw [q4]; exact mj_len hn) rfl rfl hd h
theorem mj_r_slen {u : Unit} (hd : decode Y.2.2.1 pc = .ok (.arraylength, 1)) (kk : mj_J g Y d kc ks (pc + 1, lv, .inl (g.2.2.2.2.1 : Int) :: st, M) Post) : mj_J g Y d kc ks (pc, lv, .inr (.inr (.inr u)) :: st, M) Post := by
  intro hG p e R s m args below meth c H ls locs cells slots hK
  have h := kk hG p e R s m args below meth c H ls locs cells slots hK
  obtain ⟨-, ⟨scr, q1, q2, q3, q4, q5⟩, hb, hl, -⟩ := hG
  exact W.alen hK.1.1 hK.1.2.1 (by rw [hK.2.2.2.1 _ hb]; exact q1) (State.isArrayOf_alike hK.1.2.2.2.2.2.2.2.2.1 q2) (by rw [q4]; exact mj_len (by omega)) rfl rfl hd h
theorem mj_r_sald {u : Unit} {x : Int} (hd : decode Y.2.2.1 pc = .ok (.iaload, 1)) (hx : mj_i x) (h0 : 0 ≤ x) (h1 : x < g.2.2.2.2.1) (kk : mj_J g Y d kc ks (pc + 1, lv, .inl (g.2.2.2.2.2 x.toNat).toInt :: st, M) Post) : mj_J g Y d kc ks (pc, lv, .inl x :: .inr (.inr (.inr u)) :: st, M) Post := by
  intro hG p e R s m args below meth c H ls locs cells slots hK
  have h := kk hG p e R s m args below meth c H ls locs cells slots hK
  obtain ⟨-, ⟨scr, q1, q2, q3, q4, q5⟩, hb, hl, -⟩ := hG
  refine W.iald (v := .int (g.2.2.2.2.2 x.toNat)) hK.1.1 hK.1.2.1 (by rw [hK.2.2.2.1 _ hb]; exact q1) (State.isArrayOf_alike hK.1.2.2.2.2.2.2.2.2.1 q2) q3 (by rw [q4]; exact mj_in_ h0 h1 hx) (by rw [mj_cl hx]; exact q5 _ (by omega)) rfl rfl hd ?_
  have e1 : Value.int (g.2.2.2.2.2 x.toNat) = mj_tr g.2.2.2.1 g.2.2.1.heap.size (.inl (g.2.2.2.2.2 x.toNat).toInt) := by
    show _ = Value.int (Int32.ofInt _)
    rw [Int32.ofInt_toInt]
  rw [e1]
  exact h
end MJM
end
