section
-- ===== PART A: goes FIRST, ahead of the names: the tables' words, and 'selects' of the private methods out of them =====
/-- a private method of a class that the tables say can be made, by its rows of tables_1 -/
def lw_okq (q : MethodName × Nat) : Prop := (q.1.cls ≠ "java/lang/invoke/MethodHandle" ∧ q.1.cls ≠ "java/lang/invoke/VarHandle") ∧ Cond.instantiable q.1.cls q.2 ∈ tables_1 ∧ Cond.privateMethod q.1 ∈ tables_1 ∧ Cond.instanceMethod q.1 ∈ tables_1
theorem lw_p0 : lw_okq (⟨"ChartForest$Chart", "empty", "(I)V"⟩, 8) := ⟨⟨by decide +kernel, by decide +kernel⟩, List.mem_of_getElem? (i := 67) (by decide +kernel), List.mem_of_getElem? (i := 186) (by decide +kernel), List.mem_of_getElem? (i := 187) (by decide +kernel)⟩
theorem lw_p1 : lw_okq (⟨"ChartForest$Chart", "put", "(III)V"⟩, 8) := ⟨⟨by decide +kernel, by decide +kernel⟩, List.mem_of_getElem? (i := 67) (by decide +kernel), List.mem_of_getElem? (i := 191) (by decide +kernel), List.mem_of_getElem? (i := 192) (by decide +kernel)⟩
theorem lw_p2 : lw_okq (⟨"ChartForest$Chart", "close", "(I)V"⟩, 8) := ⟨⟨by decide +kernel, by decide +kernel⟩, List.mem_of_getElem? (i := 67) (by decide +kernel), List.mem_of_getElem? (i := 199) (by decide +kernel), List.mem_of_getElem? (i := 200) (by decide +kernel)⟩
theorem lw_p3 : lw_okq (⟨"ChartForest$Chart", "leftSide", "(I)I"⟩, 8) := ⟨⟨by decide +kernel, by decide +kernel⟩, List.mem_of_getElem? (i := 67) (by decide +kernel), List.mem_of_getElem? (i := 203) (by decide +kernel), List.mem_of_getElem? (i := 204) (by decide +kernel)⟩
theorem lw_p4 : lw_okq (⟨"ChartForest$Chart", "complete", "(III)V"⟩, 8) := ⟨⟨by decide +kernel, by decide +kernel⟩, List.mem_of_getElem? (i := 67) (by decide +kernel), List.mem_of_getElem? (i := 211) (by decide +kernel), List.mem_of_getElem? (i := 212) (by decide +kernel)⟩
theorem lw_p5 : lw_okq (⟨"ChartForest$Chart", "advance", "(III)V"⟩, 8) := ⟨⟨by decide +kernel, by decide +kernel⟩, List.mem_of_getElem? (i := 67) (by decide +kernel), List.mem_of_getElem? (i := 215) (by decide +kernel), List.mem_of_getElem? (i := 216) (by decide +kernel)⟩
theorem lw_p6 : lw_okq (⟨"ChartForest$Chart", "predict", "(II)V"⟩, 8) := ⟨⟨by decide +kernel, by decide +kernel⟩, List.mem_of_getElem? (i := 67) (by decide +kernel), List.mem_of_getElem? (i := 222) (by decide +kernel), List.mem_of_getElem? (i := 223) (by decide +kernel)⟩
theorem lw_p7 : lw_okq (⟨"ChartForest$Forest", "findDeriving", "(II)V"⟩, 8) := ⟨⟨by decide +kernel, by decide +kernel⟩, List.mem_of_getElem? (i := 101) (by decide +kernel), List.mem_of_getElem? (i := 271) (by decide +kernel), List.mem_of_getElem? (i := 272) (by decide +kernel)⟩
theorem lw_p8 : lw_okq (⟨"ChartForest$Ways", "gatherRule", "(I)V"⟩, 8) := ⟨⟨by decide +kernel, by decide +kernel⟩, List.mem_of_getElem? (i := 123) (by decide +kernel), List.mem_of_getElem? (i := 283) (by decide +kernel), List.mem_of_getElem? (i := 284) (by decide +kernel)⟩
theorem lw_p9 : lw_okq (⟨"ChartForest$Ways", "keep", "(IIIJ)V"⟩, 8) := ⟨⟨by decide +kernel, by decide +kernel⟩, List.mem_of_getElem? (i := 123) (by decide +kernel), List.mem_of_getElem? (i := 302) (by decide +kernel), List.mem_of_getElem? (i := 303) (by decide +kernel)⟩
theorem lw_p10 : lw_okq (⟨"ChartForest$Forest", "countTrees", "(II)V"⟩, 8) := ⟨⟨by decide +kernel, by decide +kernel⟩, List.mem_of_getElem? (i := 101) (by decide +kernel), List.mem_of_getElem? (i := 307) (by decide +kernel), List.mem_of_getElem? (i := 308) (by decide +kernel)⟩
theorem lw_p11 : lw_okq (⟨"ChartForest$Forest", "meet", "(I)V"⟩, 8) := ⟨⟨by decide +kernel, by decide +kernel⟩, List.mem_of_getElem? (i := 101) (by decide +kernel), List.mem_of_getElem? (i := 330) (by decide +kernel), List.mem_of_getElem? (i := 331) (by decide +kernel)⟩
theorem lw_p12 : lw_okq (⟨"ChartForest$Forest", "gatherCell", "(I)V"⟩, 8) := ⟨⟨by decide +kernel, by decide +kernel⟩, List.mem_of_getElem? (i := 101) (by decide +kernel), List.mem_of_getElem? (i := 334) (by decide +kernel), List.mem_of_getElem? (i := 335) (by decide +kernel)⟩
theorem lw_p13 : lw_okq (⟨"ChartForest$Forest", "meetParts", "(I)V"⟩, 8) := ⟨⟨by decide +kernel, by decide +kernel⟩, List.mem_of_getElem? (i := 101) (by decide +kernel), List.mem_of_getElem? (i := 338) (by decide +kernel), List.mem_of_getElem? (i := 339) (by decide +kernel)⟩
theorem lw_p14 : lw_okq (⟨"ChartForest$Forest", "partCell", "(II)I"⟩, 8) := ⟨⟨by decide +kernel, by decide +kernel⟩, List.mem_of_getElem? (i := 101) (by decide +kernel), List.mem_of_getElem? (i := 347) (by decide +kernel), List.mem_of_getElem? (i := 348) (by decide +kernel)⟩
theorem lw_p15 : lw_okq (⟨"java/lang/Throwable", "fillInStackTrace", "(I)Ljava/lang/Throwable;"⟩, 6) := ⟨⟨by decide +kernel, by decide +kernel⟩, List.mem_of_getElem? (i := 414) (by decide +kernel), List.mem_of_getElem? (i := 412) (by decide +kernel), List.mem_of_getElem? (i := 413) (by decide +kernel)⟩
def lw_privs_1 : List (MethodName × Nat) := [(⟨"ChartForest$Chart", "empty", "(I)V"⟩, 8), (⟨"ChartForest$Chart", "put", "(III)V"⟩, 8), (⟨"ChartForest$Chart", "close", "(I)V"⟩, 8), (⟨"ChartForest$Chart", "leftSide", "(I)I"⟩, 8), (⟨"ChartForest$Chart", "complete", "(III)V"⟩, 8), (⟨"ChartForest$Chart", "advance", "(III)V"⟩, 8), (⟨"ChartForest$Chart", "predict", "(II)V"⟩, 8), (⟨"ChartForest$Forest", "findDeriving", "(II)V"⟩, 8), (⟨"ChartForest$Ways", "gatherRule", "(I)V"⟩, 8), (⟨"ChartForest$Ways", "keep", "(IIIJ)V"⟩, 8), (⟨"ChartForest$Forest", "countTrees", "(II)V"⟩, 8), (⟨"ChartForest$Forest", "meet", "(I)V"⟩, 8), (⟨"ChartForest$Forest", "gatherCell", "(I)V"⟩, 8), (⟨"ChartForest$Forest", "meetParts", "(I)V"⟩, 8), (⟨"ChartForest$Forest", "partCell", "(II)I"⟩, 8), (⟨"java/lang/Throwable", "fillInStackTrace", "(I)Ljava/lang/Throwable;"⟩, 6)]
theorem lw_r1 : ∀ q ∈ lw_privs_1, lw_okq q := List.forall_mem_cons.mpr ⟨lw_p0, List.forall_mem_cons.mpr ⟨lw_p1, List.forall_mem_cons.mpr ⟨lw_p2, List.forall_mem_cons.mpr ⟨lw_p3, List.forall_mem_cons.mpr ⟨lw_p4, List.forall_mem_cons.mpr ⟨lw_p5, List.forall_mem_cons.mpr ⟨lw_p6, List.forall_mem_cons.mpr ⟨lw_p7, List.forall_mem_cons.mpr ⟨lw_p8, List.forall_mem_cons.mpr ⟨lw_p9, List.forall_mem_cons.mpr ⟨lw_p10, List.forall_mem_cons.mpr ⟨lw_p11, List.forall_mem_cons.mpr ⟨lw_p12, List.forall_mem_cons.mpr ⟨lw_p13, List.forall_mem_cons.mpr ⟨lw_p14, List.forall_mem_cons.mpr ⟨lw_p15, fun _ h => absurd h List.not_mem_nil⟩⟩⟩⟩⟩⟩⟩⟩⟩⟩⟩⟩⟩⟩⟩⟩
theorem lw_p16 : lw_okq (⟨"ChartForest$Chart", "nameLeaps", "(I)V"⟩, 8) := ⟨⟨by decide +kernel, by decide +kernel⟩, List.mem_of_getElem? (i := 67) (by decide +kernel), List.mem_of_getElem? (i := 498) (by decide +kernel), List.mem_of_getElem? (i := 499) (by decide +kernel)⟩
theorem lw_p17 : lw_okq (⟨"ChartForest$Chart", "leapItem", "(II)I"⟩, 8) := ⟨⟨by decide +kernel, by decide +kernel⟩, List.mem_of_getElem? (i := 67) (by decide +kernel), List.mem_of_getElem? (i := 502) (by decide +kernel), List.mem_of_getElem? (i := 503) (by decide +kernel)⟩
theorem lw_p18 : lw_okq (⟨"ChartForest$Chart", "loneSlot", "(II)I"⟩, 8) := ⟨⟨by decide +kernel, by decide +kernel⟩, List.mem_of_getElem? (i := 67) (by decide +kernel), List.mem_of_getElem? (i := 506) (by decide +kernel), List.mem_of_getElem? (i := 507) (by decide +kernel)⟩
theorem lw_p19 : lw_okq (⟨"ChartForest", "isSet", "(I)Z"⟩, 4) := ⟨⟨by decide +kernel, by decide +kernel⟩, List.mem_of_getElem? (i := 19) (by decide +kernel), List.mem_of_getElem? (i := 531) (by decide +kernel), List.mem_of_getElem? (i := 532) (by decide +kernel)⟩
theorem lw_p20 : lw_okq (⟨"ChartForest", "isStretch", "(II)Z"⟩, 4) := ⟨⟨by decide +kernel, by decide +kernel⟩, List.mem_of_getElem? (i := 19) (by decide +kernel), List.mem_of_getElem? (i := 575) (by decide +kernel), List.mem_of_getElem? (i := 576) (by decide +kernel)⟩
theorem lw_p21 : lw_okq (⟨"ChartForest$Forest", "push", "(IJ)V"⟩, 8) := ⟨⟨by decide +kernel, by decide +kernel⟩, List.mem_of_getElem? (i := 101) (by decide +kernel), List.mem_of_getElem? (i := 602) (by decide +kernel), List.mem_of_getElem? (i := 603) (by decide +kernel)⟩
theorem lw_p22 : lw_okq (⟨"ChartForest$Forest", "pushParts", "(IJ)V"⟩, 8) := ⟨⟨by decide +kernel, by decide +kernel⟩, List.mem_of_getElem? (i := 101) (by decide +kernel), List.mem_of_getElem? (i := 607) (by decide +kernel), List.mem_of_getElem? (i := 608) (by decide +kernel)⟩
theorem lw_p23 : lw_okq (⟨"ChartForestModel", "makeSet", "(I)V"⟩, 19) := ⟨⟨by decide +kernel, by decide +kernel⟩, List.mem_of_getElem? (i := 617) (by decide +kernel), List.mem_of_getElem? (i := 623) (by decide +kernel), List.mem_of_getElem? (i := 624) (by decide +kernel)⟩
theorem lw_p24 : lw_okq (⟨"ChartForestModel", "behind", "(II)I"⟩, 19) := ⟨⟨by decide +kernel, by decide +kernel⟩, List.mem_of_getElem? (i := 617) (by decide +kernel), List.mem_of_getElem? (i := 627) (by decide +kernel), List.mem_of_getElem? (i := 628) (by decide +kernel)⟩
theorem lw_p25 : lw_okq (⟨"ChartForestModel", "lengthOf", "(I)I"⟩, 19) := ⟨⟨by decide +kernel, by decide +kernel⟩, List.mem_of_getElem? (i := 617) (by decide +kernel), List.mem_of_getElem? (i := 631) (by decide +kernel), List.mem_of_getElem? (i := 632) (by decide +kernel)⟩
theorem lw_p26 : lw_okq (⟨"ChartForestModel", "close", "(I)V"⟩, 19) := ⟨⟨by decide +kernel, by decide +kernel⟩, List.mem_of_getElem? (i := 617) (by decide +kernel), List.mem_of_getElem? (i := 635) (by decide +kernel), List.mem_of_getElem? (i := 636) (by decide +kernel)⟩
theorem lw_p27 : lw_okq (⟨"ChartForestModel", "follow", "(IIII)I"⟩, 19) := ⟨⟨by decide +kernel, by decide +kernel⟩, List.mem_of_getElem? (i := 617) (by decide +kernel), List.mem_of_getElem? (i := 639) (by decide +kernel), List.mem_of_getElem? (i := 640) (by decide +kernel)⟩
theorem lw_p28 : lw_okq (⟨"ChartForestModel", "add", "(IIII)I"⟩, 19) := ⟨⟨by decide +kernel, by decide +kernel⟩, List.mem_of_getElem? (i := 617) (by decide +kernel), List.mem_of_getElem? (i := 646) (by decide +kernel), List.mem_of_getElem? (i := 647) (by decide +kernel)⟩
theorem lw_p29 : lw_okq (⟨"ChartForestModel", "leapOf", "(II)I"⟩, 19) := ⟨⟨by decide +kernel, by decide +kernel⟩, List.mem_of_getElem? (i := 617) (by decide +kernel), List.mem_of_getElem? (i := 653) (by decide +kernel), List.mem_of_getElem? (i := 654) (by decide +kernel)⟩
theorem lw_p30 : lw_okq (⟨"ChartForestModel", "refuse", "(I)I"⟩, 19) := ⟨⟨by decide +kernel, by decide +kernel⟩, List.mem_of_getElem? (i := 617) (by decide +kernel), List.mem_of_getElem? (i := 723) (by decide +kernel), List.mem_of_getElem? (i := 724) (by decide +kernel)⟩
theorem lw_p31 : lw_okq (⟨"ChartForestModel", "expectedIn", "(I)I"⟩, 19) := ⟨⟨by decide +kernel, by decide +kernel⟩, List.mem_of_getElem? (i := 617) (by decide +kernel), List.mem_of_getElem? (i := 734) (by decide +kernel), List.mem_of_getElem? (i := 735) (by decide +kernel)⟩
def lw_privs_2 : List (MethodName × Nat) := [(⟨"ChartForest$Chart", "nameLeaps", "(I)V"⟩, 8), (⟨"ChartForest$Chart", "leapItem", "(II)I"⟩, 8), (⟨"ChartForest$Chart", "loneSlot", "(II)I"⟩, 8), (⟨"ChartForest", "isSet", "(I)Z"⟩, 4), (⟨"ChartForest", "isStretch", "(II)Z"⟩, 4), (⟨"ChartForest$Forest", "push", "(IJ)V"⟩, 8), (⟨"ChartForest$Forest", "pushParts", "(IJ)V"⟩, 8), (⟨"ChartForestModel", "makeSet", "(I)V"⟩, 19), (⟨"ChartForestModel", "behind", "(II)I"⟩, 19), (⟨"ChartForestModel", "lengthOf", "(I)I"⟩, 19), (⟨"ChartForestModel", "close", "(I)V"⟩, 19), (⟨"ChartForestModel", "follow", "(IIII)I"⟩, 19), (⟨"ChartForestModel", "add", "(IIII)I"⟩, 19), (⟨"ChartForestModel", "leapOf", "(II)I"⟩, 19), (⟨"ChartForestModel", "refuse", "(I)I"⟩, 19), (⟨"ChartForestModel", "expectedIn", "(I)I"⟩, 19)]
theorem lw_r2 : ∀ q ∈ lw_privs_2, lw_okq q := List.forall_mem_cons.mpr ⟨lw_p16, List.forall_mem_cons.mpr ⟨lw_p17, List.forall_mem_cons.mpr ⟨lw_p18, List.forall_mem_cons.mpr ⟨lw_p19, List.forall_mem_cons.mpr ⟨lw_p20, List.forall_mem_cons.mpr ⟨lw_p21, List.forall_mem_cons.mpr ⟨lw_p22, List.forall_mem_cons.mpr ⟨lw_p23, List.forall_mem_cons.mpr ⟨lw_p24, List.forall_mem_cons.mpr ⟨lw_p25, List.forall_mem_cons.mpr ⟨lw_p26, List.forall_mem_cons.mpr ⟨lw_p27, List.forall_mem_cons.mpr ⟨lw_p28, List.forall_mem_cons.mpr ⟨lw_p29, List.forall_mem_cons.mpr ⟨lw_p30, List.forall_mem_cons.mpr ⟨lw_p31, fun _ h => absurd h List.not_mem_nil⟩⟩⟩⟩⟩⟩⟩⟩⟩⟩⟩⟩⟩⟩⟩⟩
theorem lw_p32 : lw_okq (⟨"ChartForestModel", "sizeOf", "(I)I"⟩, 19) := ⟨⟨by decide +kernel, by decide +kernel⟩, List.mem_of_getElem? (i := 617) (by decide +kernel), List.mem_of_getElem? (i := 738) (by decide +kernel), List.mem_of_getElem? (i := 739) (by decide +kernel)⟩
theorem lw_p33 : lw_okq (⟨"ChartForestModel", "holds", "(IIII)Z"⟩, 19) := ⟨⟨by decide +kernel, by decide +kernel⟩, List.mem_of_getElem? (i := 617) (by decide +kernel), List.mem_of_getElem? (i := 754) (by decide +kernel), List.mem_of_getElem? (i := 755) (by decide +kernel)⟩
theorem lw_p34 : lw_okq (⟨"ChartForestModel", "isSet", "(I)Z"⟩, 19) := ⟨⟨by decide +kernel, by decide +kernel⟩, List.mem_of_getElem? (i := 617) (by decide +kernel), List.mem_of_getElem? (i := 766) (by decide +kernel), List.mem_of_getElem? (i := 767) (by decide +kernel)⟩
theorem lw_p35 : lw_okq (⟨"ChartForestModel", "isStretch", "(III)Z"⟩, 19) := ⟨⟨by decide +kernel, by decide +kernel⟩, List.mem_of_getElem? (i := 617) (by decide +kernel), List.mem_of_getElem? (i := 782) (by decide +kernel), List.mem_of_getElem? (i := 783) (by decide +kernel)⟩
theorem lw_p36 : lw_okq (⟨"ChartForestModel", "work", "()V"⟩, 19) := ⟨⟨by decide +kernel, by decide +kernel⟩, List.mem_of_getElem? (i := 617) (by decide +kernel), List.mem_of_getElem? (i := 786) (by decide +kernel), List.mem_of_getElem? (i := 787) (by decide +kernel)⟩
theorem lw_p37 : lw_okq (⟨"ChartForestModel", "findDerived", "()V"⟩, 19) := ⟨⟨by decide +kernel, by decide +kernel⟩, List.mem_of_getElem? (i := 617) (by decide +kernel), List.mem_of_getElem? (i := 790) (by decide +kernel), List.mem_of_getElem? (i := 791) (by decide +kernel)⟩
theorem lw_p38 : lw_okq (⟨"ChartForestModel", "waysBy", "(III)I"⟩, 19) := ⟨⟨by decide +kernel, by decide +kernel⟩, List.mem_of_getElem? (i := 617) (by decide +kernel), List.mem_of_getElem? (i := 797) (by decide +kernel), List.mem_of_getElem? (i := 798) (by decide +kernel)⟩
theorem lw_p39 : lw_okq (⟨"ChartForestModel", "firstCuts", "(I)V"⟩, 19) := ⟨⟨by decide +kernel, by decide +kernel⟩, List.mem_of_getElem? (i := 617) (by decide +kernel), List.mem_of_getElem? (i := 801) (by decide +kernel), List.mem_of_getElem? (i := 802) (by decide +kernel)⟩
theorem lw_p40 : lw_okq (⟨"ChartForestModel", "isWay", "(III)Z"⟩, 19) := ⟨⟨by decide +kernel, by decide +kernel⟩, List.mem_of_getElem? (i := 617) (by decide +kernel), List.mem_of_getElem? (i := 805) (by decide +kernel), List.mem_of_getElem? (i := 806) (by decide +kernel)⟩
theorem lw_p41 : lw_okq (⟨"ChartForestModel", "cut", "(IIII)I"⟩, 19) := ⟨⟨by decide +kernel, by decide +kernel⟩, List.mem_of_getElem? (i := 617) (by decide +kernel), List.mem_of_getElem? (i := 809) (by decide +kernel), List.mem_of_getElem? (i := 810) (by decide +kernel)⟩
theorem lw_p42 : lw_okq (⟨"ChartForestModel", "isDerived", "(III)Z"⟩, 19) := ⟨⟨by decide +kernel, by decide +kernel⟩, List.mem_of_getElem? (i := 617) (by decide +kernel), List.mem_of_getElem? (i := 813) (by decide +kernel), List.mem_of_getElem? (i := 814) (by decide +kernel)⟩
theorem lw_p43 : lw_okq (⟨"ChartForestModel", "nextCuts", "(II)Z"⟩, 19) := ⟨⟨by decide +kernel, by decide +kernel⟩, List.mem_of_getElem? (i := 617) (by decide +kernel), List.mem_of_getElem? (i := 817) (by decide +kernel), List.mem_of_getElem? (i := 818) (by decide +kernel)⟩
theorem lw_p44 : lw_okq (⟨"ChartForestModel", "sum", "(III)J"⟩, 19) := ⟨⟨by decide +kernel, by decide +kernel⟩, List.mem_of_getElem? (i := 617) (by decide +kernel), List.mem_of_getElem? (i := 822) (by decide +kernel), List.mem_of_getElem? (i := 823) (by decide +kernel)⟩
theorem lw_p45 : lw_okq (⟨"ChartForestModel", "byWay", "(III)J"⟩, 19) := ⟨⟨by decide +kernel, by decide +kernel⟩, List.mem_of_getElem? (i := 617) (by decide +kernel), List.mem_of_getElem? (i := 826) (by decide +kernel), List.mem_of_getElem? (i := 827) (by decide +kernel)⟩
theorem lw_p46 : lw_okq (⟨"ChartForestModel", "treesOf", "(III)J"⟩, 19) := ⟨⟨by decide +kernel, by decide +kernel⟩, List.mem_of_getElem? (i := 617) (by decide +kernel), List.mem_of_getElem? (i := 838) (by decide +kernel), List.mem_of_getElem? (i := 839) (by decide +kernel)⟩
theorem lw_p47 : lw_okq (⟨"ChartForestModel", "meetAll", "(III)Z"⟩, 19) := ⟨⟨by decide +kernel, by decide +kernel⟩, List.mem_of_getElem? (i := 617) (by decide +kernel), List.mem_of_getElem? (i := 846) (by decide +kernel), List.mem_of_getElem? (i := 847) (by decide +kernel)⟩
def lw_privs_3 : List (MethodName × Nat) := [(⟨"ChartForestModel", "sizeOf", "(I)I"⟩, 19), (⟨"ChartForestModel", "holds", "(IIII)Z"⟩, 19), (⟨"ChartForestModel", "isSet", "(I)Z"⟩, 19), (⟨"ChartForestModel", "isStretch", "(III)Z"⟩, 19), (⟨"ChartForestModel", "work", "()V"⟩, 19), (⟨"ChartForestModel", "findDerived", "()V"⟩, 19), (⟨"ChartForestModel", "waysBy", "(III)I"⟩, 19), (⟨"ChartForestModel", "firstCuts", "(I)V"⟩, 19), (⟨"ChartForestModel", "isWay", "(III)Z"⟩, 19), (⟨"ChartForestModel", "cut", "(IIII)I"⟩, 19), (⟨"ChartForestModel", "isDerived", "(III)Z"⟩, 19), (⟨"ChartForestModel", "nextCuts", "(II)Z"⟩, 19), (⟨"ChartForestModel", "sum", "(III)J"⟩, 19), (⟨"ChartForestModel", "byWay", "(III)J"⟩, 19), (⟨"ChartForestModel", "treesOf", "(III)J"⟩, 19), (⟨"ChartForestModel", "meetAll", "(III)Z"⟩, 19)]
theorem lw_r3 : ∀ q ∈ lw_privs_3, lw_okq q := List.forall_mem_cons.mpr ⟨lw_p32, List.forall_mem_cons.mpr ⟨lw_p33, List.forall_mem_cons.mpr ⟨lw_p34, List.forall_mem_cons.mpr ⟨lw_p35, List.forall_mem_cons.mpr ⟨lw_p36, List.forall_mem_cons.mpr ⟨lw_p37, List.forall_mem_cons.mpr ⟨lw_p38, List.forall_mem_cons.mpr ⟨lw_p39, List.forall_mem_cons.mpr ⟨lw_p40, List.forall_mem_cons.mpr ⟨lw_p41, List.forall_mem_cons.mpr ⟨lw_p42, List.forall_mem_cons.mpr ⟨lw_p43, List.forall_mem_cons.mpr ⟨lw_p44, List.forall_mem_cons.mpr ⟨lw_p45, List.forall_mem_cons.mpr ⟨lw_p46, List.forall_mem_cons.mpr ⟨lw_p47, fun _ h => absurd h List.not_mem_nil⟩⟩⟩⟩⟩⟩⟩⟩⟩⟩⟩⟩⟩⟩⟩⟩
theorem lw_p48 : lw_okq (⟨"ChartForestModel", "meet", "(III)I"⟩, 19) := ⟨⟨by decide +kernel, by decide +kernel⟩, List.mem_of_getElem? (i := 617) (by decide +kernel), List.mem_of_getElem? (i := 850) (by decide +kernel), List.mem_of_getElem? (i := 851) (by decide +kernel)⟩
theorem lw_p49 : lw_okq (⟨"ChartForestModel", "come", "(IJ)V"⟩, 19) := ⟨⟨by decide +kernel, by decide +kernel⟩, List.mem_of_getElem? (i := 617) (by decide +kernel), List.mem_of_getElem? (i := 858) (by decide +kernel), List.mem_of_getElem? (i := 859) (by decide +kernel)⟩
theorem lw_p50 : lw_okq (⟨"ChartForestModel", "takeRoot", "(IJ)I"⟩, 19) := ⟨⟨by decide +kernel, by decide +kernel⟩, List.mem_of_getElem? (i := 617) (by decide +kernel), List.mem_of_getElem? (i := 862) (by decide +kernel), List.mem_of_getElem? (i := 863) (by decide +kernel)⟩
theorem lw_p51 : lw_okq (⟨"ChartForestModel", "comeAll", "(IIIJ)V"⟩, 19) := ⟨⟨by decide +kernel, by decide +kernel⟩, List.mem_of_getElem? (i := 617) (by decide +kernel), List.mem_of_getElem? (i := 866) (by decide +kernel), List.mem_of_getElem? (i := 867) (by decide +kernel)⟩
def lw_privs_4 : List (MethodName × Nat) := [(⟨"ChartForestModel", "meet", "(III)I"⟩, 19), (⟨"ChartForestModel", "come", "(IJ)V"⟩, 19), (⟨"ChartForestModel", "takeRoot", "(IJ)I"⟩, 19), (⟨"ChartForestModel", "comeAll", "(IIIJ)V"⟩, 19)]
theorem lw_r4 : ∀ q ∈ lw_privs_4, lw_okq q := List.forall_mem_cons.mpr ⟨lw_p48, List.forall_mem_cons.mpr ⟨lw_p49, List.forall_mem_cons.mpr ⟨lw_p50, List.forall_mem_cons.mpr ⟨lw_p51, fun _ h => absurd h List.not_mem_nil⟩⟩⟩⟩
def lw_privs : List (MethodName × Nat) := lw_privs_1 ++ (lw_privs_2 ++ (lw_privs_3 ++ (lw_privs_4)))
def lw_tbl : List Cond := k2_sels lw_privs ++ tables_1
theorem lw_privs_ok : ∀ q ∈ lw_privs, lw_okq q := by
  show ∀ q ∈ lw_privs_1 ++ (lw_privs_2 ++ (lw_privs_3 ++ (lw_privs_4))), lw_okq q
  exact List.forall_mem_append.mpr ⟨lw_r1, List.forall_mem_append.mpr ⟨lw_r2, List.forall_mem_append.mpr ⟨lw_r3, lw_r4⟩⟩⟩
end
section
/-! ===== the words that travel: of the tables alone ===== -/
def mj_gw (w : Cond) : Bool := goodWord w || ((w.faceAtom && w.onTables) || (match w with | .fieldLinkNest _ _ _ _ _ _ => true | .methodLinkNest _ _ _ _ => true | .arrayOver (.array _) => true | _ => false))
def mj_tbl : List Cond := lw_tbl.filter mj_gw
/-! ===== the classes of the run and their fields (number, name, descriptor, final) ===== -/
def mj_cf : List (String × List (String × String × Bool)) := [
  ("ChartForest", [("grammar", "LChartForest$Grammar;", true), ("tape", "LChartForest$Tape;", true), ("chart", "LChartForest$Chart;", true), ("forest", "LChartForest$Forest;", true)]),
  ("ChartForest$Grammar", [("count", "I", false), ("lefts", "[I", true), ("behind", "[I", true)]),
  ("ChartForest$Tape", [("length", "I", false), ("terminals", "[I", true)]),
  ("ChartForest$Chart", [("grammar", "LChartForest$Grammar;", true), ("leaping", "Z", true), ("origins", "[[I", true), ("sizes", "[I", true), ("named", "[[I", true), ("agenda", "[I", true), ("agendaSize", "I", false), ("completeHere", "I", false)]),
  ("ChartForest$Forest", [("tape", "LChartForest$Tape;", true), ("counts", "LChartForest$Counts;", true), ("ways", "LChartForest$Ways;", true), ("readyEnds", "I", false), ("cells", "[I", true), ("met", "[Z", true), ("cellCount", "I", false), ("numbers", "[J", true)]),
  ("ChartForest$Counts", [("tape", "LChartForest$Tape;", true), ("table", "[J", true)]),
  ("ChartForest$Ways", [("grammar", "LChartForest$Grammar;", true), ("counts", "LChartForest$Counts;", true), ("from", "I", false), ("to", "I", false), ("count", "I", false), ("rules", "[I", true), ("innerCuts", "[I", true), ("trees", "[J", true)]),
  ("ChartForestModel", [("leaps", "Z", true), ("refusal", "I", false), ("rules", "I", false), ("left", "[I", false), ("lengths", "[I", false), ("body", "[I", false), ("fedCount", "I", false), ("terminals", "[I", false), ("items", "[Z", false), ("worked", "Z", false), ("derives", "[Z", false), ("counted", "[Z", false), ("number", "[J", false), ("met", "[Z", false), ("cutOne", "I", false), ("cutTwo", "I", false), ("todo", "[I", false), ("todoTree", "[J", false), ("todoCount", "I", false)]),
  ("java/lang/IllegalArgumentException", []), ("java/lang/IllegalStateException", []), ("java/lang/IndexOutOfBoundsException", []), ("java/util/NoSuchElementException", [])]
def mj_tb (q : String × List (String × String × Bool)) : vw_C := (q.1, fun k => (q.1, q.2.getD k ("", "", false)), q.2.length)
def mj_cls : List vw_C := mj_cf.map mj_tb
theorem mj_cf_in : mj_cf.all (fun q => (u_ws q.1 (mj_tb q).2.1 q.2.length).all (fun w => decide (w ∈ lw_tbl) && mj_gw w)) = true := by decide +kernel
theorem mj_cf_ty : mj_cf.all (fun q => (List.range q.2.length).all (fun k => (parseFieldDescriptor ((mj_tb q).2.1 k).2.2.1).isSome)) = true := by decide +kernel
theorem mj_cf_nm : mj_cf.all (fun q => (List.range q.2.length).all (fun a => (List.range q.2.length).all (fun b => decide (a ≠ b → ((mj_tb q).2.1 a).2.1 ≠ ((mj_tb q).2.1 b).2.1)))) = true := by decide +kernel
end
section
/-! ===== the small machine: whole numbers instead of words, places instead of addresses ===== -/
abbrev mj_V : Type := Int ⊕ Int ⊕ Option (Nat × Nat) ⊕ Unit
abbrev mj_C : Type := (Nat × Nat × (Nat → Int)) ⊕ (Nat × Nat × (Nat → Nat → Int)) ⊕ (Nat × List mj_V)
abbrev mj_M : Type := List mj_C
abbrev mj_L : Type := List (Option mj_V)
abbrev mj_S : Type := Nat × mj_L × List mj_V × mj_M
abbrev mj_O : Type := Option mj_V ⊕ Nat
/-- the run: launch, classes' numbers and slots, the law's start, the script's address, its length, its ints -/
abbrev mj_G : Type := Launch × va_G × State × Nat × Nat × (Nat → Int32)
/-- the method: own name of its class file, its name, code, number of locals, what it returns -/
abbrev mj_Y : Type := String × MethodName × ByteArray × Nat × Option FieldType
/-- how far behind the first new address the cell at a place lies -/
def mj_o (p : Nat) : Nat := p + (if 7 < p then 13 else 0) + (if 9 < p then 13 else 0)
theorem mj_o_lt {p q : Nat} (h : p < q) : mj_o (p + 1) ≤ mj_o q := by
  unfold mj_o
  split <;> split <;> split <;> split <;> omega
theorem mj_o_s (p : Nat) : mj_o p < mj_o (p + 1) := by
  unfold mj_o
  split <;> split <;> split <;> split <;> omega
/-- the value of the machine that a small value stands for -/
def mj_tr (b z : Nat) : mj_V → Value
  | .inl x => .int (Int32.ofInt x)
  | .inr (.inl x) => .long (Int64.ofInt x)
  | .inr (.inr (.inl none)) => .null
  | .inr (.inr (.inl (some r))) => .ref (z + mj_o r.1 + r.2)
  | .inr (.inr (.inr _)) => .ref b
def mj_cat : mj_V → Nat
  | .inr (.inl _) => 2
  | _ => 1
theorem mj_tr_cat (b z : Nat) (w : mj_V) : (mj_tr b z w).category = mj_cat w := by
  rcases w with x | x | (_ | r) | x <;> rfl
def mj_i (x : Int) : Prop := -2147483648 ≤ x ∧ x < 2147483648
def mj_l (x : Int) : Prop := -9223372036854775808 ≤ x ∧ x < 9223372036854775808
theorem mj_ti {x : Int} (h : mj_i x) : (Int32.ofInt x).toInt = x := Int32.toInt_ofInt_of_le h.1 h.2
theorem mj_tl {x : Int} (h : mj_l x) : (Int64.ofInt x).toInt = x := Int64.toInt_ofInt_of_le h.1 h.2
theorem mj_lt {x y : Int} (hx : mj_i x) (hy : mj_i y) : Int32.ofInt x < Int32.ofInt y ↔ x < y := by
  rw [Int32.lt_iff_toInt_lt, mj_ti hx, mj_ti hy]
theorem mj_le {x y : Int} (hx : mj_i x) (hy : mj_i y) : Int32.ofInt x ≤ Int32.ofInt y ↔ x ≤ y := by
  rw [Int32.le_iff_toInt_le, mj_ti hx, mj_ti hy]
theorem mj_eq {x y : Int} (hx : mj_i x) (hy : mj_i y) : Int32.ofInt x = Int32.ofInt y ↔ x = y := by
  rw [← Int32.toInt_inj, mj_ti hx, mj_ti hy]
theorem mj_i0 : mj_i 0 := ⟨by decide, by decide⟩
theorem mj_cl {x : Int} (hx : mj_i x) : (Int32.ofInt x).toNatClampNeg = x.toNat := Int32.toNatClampNeg_ofInt_of_le hx.1 hx.2
theorem mj_in_ {x : Int} {n : Nat} (h0 : 0 ≤ x) (h1 : x < n) (hx : mj_i x) : ¬ (Int32.ofInt x < 0 ∨ n ≤ (Int32.ofInt x).toNatClampNeg) := by
  rw [mj_cl hx]
  rintro (h | h)
  · have h2 : Int32.ofInt x < Int32.ofInt 0 := h
    rw [mj_lt hx mj_i0] at h2
    omega
  · omega
def mj_shl (x y : Int) : Int := (Int32.ofInt x <<< (Int32.ofInt y &&& 31)).toInt
def mj_shr (x y : Int) : Int := (Int32.ofInt x >>> (Int32.ofInt y &&& 31)).toInt
def mj_ush (x y : Int) : Int := ((Int32.ofInt x).toUInt32 >>> ((Int32.ofInt y).toUInt32 &&& Int32.toUInt32 31)).toInt32.toInt
def mj_and (x y : Int) : Int := (Int32.ofInt x &&& Int32.ofInt y).toInt
def mj_ior (x y : Int) : Int := (Int32.ofInt x ||| Int32.ofInt y).toInt
def mj_lan (x y : Int) : Int := (Int64.ofInt x &&& Int64.ofInt y).toInt
def mj_lor (x y : Int) : Int := (Int64.ofInt x ||| Int64.ofInt y).toInt
def mj_lsh (x y : Int) : Int := (Int64.ofInt x <<< ((Int32.ofInt y).toInt64 &&& 63)).toInt
def mj_cmp (x y : Int) : Int := if y < x then 1 else if x = y then 0 else -1
def mj_num (k : Nat) (x : Int) : Value := if k = 2 then .long (Int64.ofInt x) else .int (Int32.ofInt x)
def mj_ty (k : Nat) : FieldType := if k = 0 then .int else if k = 1 then .boolean else .long
/-- an array cell of the heap that holds n values -/
def mj_arr (s0 : State) (H : Heap) (a : Nat) (ty : FieldType) (n : Nat) (f : Nat → Value) : Prop :=
  ∃ c : Cell, H[a]? = some c ∧ s0.isArrayOf c ty ∧ c.vm = .none ∧ c.slots.size = n ∧ ∀ j, j < n → c.slots[j]? = some (f j)
/-- what the heap holds for the cell at a place; z: the first new address -/
def mj_cell (D : va_G) (s0 : State) (b z p : Nat) (H : Heap) : mj_C → Prop
  | .inl (k, n, f) => mj_arr s0 H (z + mj_o p) (mj_ty k) n (fun j => mj_num k (f j))
  | .inr (.inl (n, k, g)) => mj_o p + n + 1 ≤ mj_o (p + 1) ∧ mj_arr s0 H (z + mj_o p) (.array .int) n (fun i => .ref (z + mj_o p + (i + 1))) ∧ ∀ i, i < n → mj_arr s0 H (z + mj_o p + (i + 1)) .int k (fun j => .int (Int32.ofInt (g i j)))
  | .inr (.inr (ci, fs)) => ∃ r : vw_C, mj_cls[ci]? = some r ∧ t_OB (z + mj_o p) (D.1 ci) r.2.2 (D.2 ci) H (fun k => mj_tr b z (fs.getD k (.inl 0)))
def mj_W (D : va_G) (s0 : State) (b : Nat) (M : mj_M) (H : Heap) : Prop :=
  H.size = s0.heap.size + mj_o M.length ∧ ∀ (p : Nat) (c : mj_C), M[p]? = some c → mj_cell D s0 b s0.heap.size p H c
theorem mj_arr.kept {s0 : State} {H H1 : Heap} {a : Nat} {ty : FieldType} {n : Nat} {f : Nat → Value} (h : mj_arr s0 H a ty n f) (hq : H1[a]? = H[a]?) : mj_arr s0 H1 a ty n f := by
  obtain ⟨c, h1, h2⟩ := h
  exact ⟨c, hq.trans h1, h2⟩
theorem mj_cell.kept {D : va_G} {s0 : State} {b z p : Nat} {H H1 : Heap} {c : mj_C} (h : mj_cell D s0 b z p H c) (hq : ∀ A : Nat, z + mj_o p ≤ A → A < z + mj_o (p + 1) → H1[A]? = H[A]?) : mj_cell D s0 b z p H1 c := by
  have h0 : H1[z + mj_o p]? = H[z + mj_o p]? := hq _ (Nat.le_refl _) (by have := mj_o_s p; omega)
  rcases c with ⟨k, n, f⟩ | ⟨n, k, g⟩ | ⟨ci, fs⟩
  · exact mj_arr.kept h h0
  · obtain ⟨h1, h2, h3⟩ := h
    exact ⟨h1, h2.kept h0, fun i hi => (h3 i hi).kept (hq _ (by omega) (by omega))⟩
  · obtain ⟨r, hr, hb⟩ := h
    exact ⟨r, hr, hb.kept h0⟩
/-- one cell changes, at addresses of its own; the others stay -/
theorem mj_W.set {D : va_G} {s0 : State} {b p : Nat} {M : mj_M} {H H1 : Heap} {c0 c1 : mj_C} (h : mj_W D s0 b M H) (hp : M[p]? = some c0) (hz : H1.size = H.size)
    (ho : ∀ A : Nat, (A < s0.heap.size + mj_o p ∨ s0.heap.size + mj_o (p + 1) ≤ A) → H1[A]? = H[A]?) (hc : mj_cell D s0 b s0.heap.size p H1 c1) : mj_W D s0 b (M.set p c1) H1 := by
  have hlt : p < M.length := (List.getElem?_eq_some_iff.mp hp).1
  refine ⟨by rw [hz, h.1, List.length_set], fun q c hq => ?_⟩
  by_cases e : p = q
  · subst e
    rw [List.getElem?_set_self hlt] at hq
    cases hq
    exact hc
  · rw [List.getElem?_set_ne e] at hq
    refine (h.2 q c hq).kept fun A h1 h2 => ho A ?_
    rcases Nat.lt_or_ge p q with h3 | h3
    · have := mj_o_lt h3
      right; omega
    · have h4 : q < p := by omega
      have := mj_o_lt h4
      left; omega
/-- locals -/
def mj_ls (b z : Nat) (ls : Array Slot) (lv : mj_L) : Prop := ls.size = lv.length ∧ lv_wf ls ∧ ∀ (i : Nat) (w : mj_V), lv[i]? = some (some w) → ls[i]? = some (.val (mj_tr b z w))
/-- the place before i no longer holds a long -/
def mj_clr (lv : mj_L) (i : Nat) : mj_L := match i with
  | 0 => lv
  | j + 1 => match lv[j]? with
    | some (some (.inr (.inl _))) => lv.set j none
    | _ => lv
def mj_st1 (lv : mj_L) (i : Nat) (w : mj_V) : mj_L := (mj_clr lv i).set i (some w)
def mj_st2 (lv : mj_L) (i : Nat) (w : mj_V) : mj_L := ((mj_clr lv i).set (i + 1) none).set i (some w)
theorem mj_clr_len (lv : mj_L) (i : Nat) : (mj_clr lv i).length = lv.length := by
  unfold mj_clr
  split
  · rfl
  · split
    · simp
    · rfl
theorem mj_clr_at {lv : mj_L} {i j : Nat} {w : mj_V} (h : (mj_clr lv i)[j]? = some (some w)) : lv[j]? = some (some w) ∧ (j + 1 = i → mj_cat w ≠ 2) := by
  unfold mj_clr at h
  split at h
  · exact ⟨h, fun e => by omega⟩
  · rename_i k
    split at h
    · rename_i y hy
      by_cases e : k = j
      · subst e
        rw [List.getElem?_set_self (List.getElem?_eq_some_iff.mp hy).1] at h
        cases h
      · rw [List.getElem?_set_ne e] at h
        exact ⟨h, fun q => by omega⟩
    · rename_i hn
      refine ⟨h, fun e => ?_⟩
      have e2 : j = k := by omega
      subst e2
      rcases w with x | x | x
      · intro q; cases q
      · exact absurd h (hn x)
      · rcases x with x | x <;> (intro q; cases q)
def mj_pr (b z : Nat) (lv : mj_L) : List (Nat × Value) := (List.range lv.length).filterMap fun i => match lv[i]? with
  | some (some w) => some (i, mj_tr b z w)
  | _ => none
theorem mj_pr_in {b z : Nat} {lv : mj_L} {i : Nat} {w : mj_V} (h : lv[i]? = some (some w)) : (i, mj_tr b z w) ∈ mj_pr b z lv :=
  List.mem_filterMap.mpr ⟨i, List.mem_range.mpr (List.getElem?_eq_some_iff.mp h).1, by simp [h]⟩
theorem mj_has {b z : Nat} {ls : Array Slot} {lv : mj_L} (h : mj_ls b z ls lv) : lv_has ls lv.length (mj_pr b z lv) := by
  refine ⟨h.1, h.2.1, fun q hq => ?_⟩
  obtain ⟨i, -, hi⟩ := List.mem_filterMap.mp hq
  split at hi
  · rename_i w hw
    cases hi
    exact h.2.2 i w hw
  · cases hi
theorem mj_ls_st1 {b z : Nat} {ls' : Array Slot} {lv : mj_L} {i : Nat} {w : mj_V} (hi : i < lv.length)
    (h : lv_has ls' lv.length ((i, mj_tr b z w) :: (mj_pr b z lv).filter (fun q => !(q.1 == i) && !(q.1 + 1 == i && q.2.category == 2)))) : mj_ls b z ls' (mj_st1 lv i w) := by
  refine ⟨by rw [h.1, mj_st1, List.length_set, mj_clr_len], h.2.1, fun j w' hj => ?_⟩
  by_cases e : i = j
  · subst e
    rw [mj_st1, List.getElem?_set_self (by rw [mj_clr_len]; exact hi)] at hj
    cases hj
    exact h.2.2 _ List.mem_cons_self
  · rw [mj_st1, List.getElem?_set_ne e] at hj
    obtain ⟨h1, h2⟩ := mj_clr_at hj
    refine h.2.2 (j, mj_tr b z w') (List.mem_cons_of_mem _ (List.mem_filter.mpr ⟨mj_pr_in h1, ?_⟩))
    by_cases e3 : j + 1 = i
    · have := h2 e3
      simp [mj_tr_cat, this, Ne.symm e]
    · simp [e3, Ne.symm e]
theorem mj_ls_st2 {b z : Nat} {ls' : Array Slot} {lv : mj_L} {i : Nat} {w : mj_V} (hi : i + 1 < lv.length)
    (h : lv_has ls' lv.length ((i, mj_tr b z w) :: (mj_pr b z lv).filter (fun q => !(q.1 == i) && (!(q.1 == i + 1) && !(q.1 + 1 == i && q.2.category == 2))))) : mj_ls b z ls' (mj_st2 lv i w) := by
  refine ⟨by rw [h.1, mj_st2, List.length_set, List.length_set, mj_clr_len], h.2.1, fun j w' hj => ?_⟩
  by_cases e : i = j
  · subst e
    rw [mj_st2, List.getElem?_set_self (by rw [List.length_set, mj_clr_len]; omega)] at hj
    cases hj
    exact h.2.2 _ List.mem_cons_self
  · rw [mj_st2, List.getElem?_set_ne e] at hj
    by_cases e1 : i + 1 = j
    · subst e1
      rw [List.getElem?_set_self (by rw [mj_clr_len]; exact hi)] at hj
      cases hj
    · rw [List.getElem?_set_ne e1] at hj
      obtain ⟨h1, h2⟩ := mj_clr_at hj
      refine h.2.2 (j, mj_tr b z w') (List.mem_cons_of_mem _ (List.mem_filter.mpr ⟨mj_pr_in h1, ?_⟩))
      by_cases e3 : j + 1 = i
      · have := h2 e3
        simp [mj_tr_cat, this, Ne.symm e, Ne.symm e1]
      · simp [e3, Ne.symm e, Ne.symm e1]
/-- what is known of the run -/
def mj_F (g : mj_G) : Prop := va_K g.2.1 mj_cls [] g.2.2.1 ∧ va_X g.2.2.2.1 g.2.2.2.2.1 g.2.2.2.2.2 g.2.2.1 g.2.2.1.heap ∧ g.2.2.2.1 < g.2.2.1.heap.size ∧ g.2.2.2.2.1 ≤ 2561 ∧ (∀ w ∈ lw_tbl, w.before #[Value.ref g.2.2.2.1] g.2.2.1 = true) ∧ g.1.stackTraces = false
/-- what holds where the machine stands in a method's body -/
def mj_K (g : mj_G) (Y : mj_Y) (d kc ks : Nat) (lv : mj_L) (M : mj_M) (p : Program) (R : Room) (s : State) (m : MethodId) (args : Array Value) (meth : Method) (c : Code) (H : Heap) (ls : Array Slot) (locs : List Loc) (cells slots : Nat) : Prop :=
  (p.tables.exec = Jvm.exec ∧ c.code = Y.2.2.1 ∧ c.maxLocals = Y.2.2.2.1 ∧ s.vm.findClass Y.1 = some m.cls ∧ (∀ w ∈ mj_tbl, w.before args s = true) ∧ meth.locks = false ∧ meth.sig.returnType = Y.2.2.2.2 ∧ meth.name = Y.2.1.name ∧ g.2.2.1.vm.Alike s.vm ∧ g.2.2.1.heap.size ≤ s.heap.size ∧ s.methodNamed? Y.2.1 = some m) ∧
  (d ≤ R.frames ∧ 40 * d ≤ R.locals ∧ cells + kc ≤ R.cells ∧ slots + ks ≤ R.slots) ∧
  mj_W g.2.1 g.2.2.1 g.2.2.2.1 M H ∧ (∀ q, q < g.2.2.1.heap.size → H[q]? = g.2.2.1.heap[q]?) ∧ (mj_ls g.2.2.2.1 g.2.2.1.heap.size ls lv ∧ lv.length = Y.2.2.2.1) ∧ ∀ q ∈ locs, g.2.2.1.heap.size ≤ q.base
def mj_Q (g : mj_G) (Post : mj_O → mj_M → Prop) (o : Outcome) (t : State) : Prop :=
  ∃ (r : mj_O) (M : mj_M), Post r M ∧ (match r with | .inl v => o = .returned (v.map (mj_tr g.2.2.2.1 g.2.2.1.heap.size)) | .inr q => o = .threw (g.2.2.1.heap.size + mj_o q)) ∧ mj_W g.2.1 g.2.2.1 g.2.2.2.1 M t.heap ∧ ∀ q, q < g.2.2.1.heap.size → t.heap[q]? = g.2.2.1.heap[q]?
def mj_Z (g : mj_G) (Post : mj_O → mj_M → Prop) (below : List Frame) (s : State) (kc ks : Nat) : State → Prop := fun t =>
  ∃ o, t.status = .running ∧ Ended t below o ∧ mj_Q g Post o t ∧ s.WarmedH t.vm ∧ ∃ L : List Loc, s.sameButNew ({ t with vm := s.vm } : State) L kc ks ∧ ∀ q ∈ L, g.2.2.1.heap.size ≤ q.base
/-- from every standing that shows S the method comes to an end that shows Post -/
def mj_J (g : mj_G) (Y : mj_Y) (d kc ks : Nat) (S : mj_S) (Post : mj_O → mj_M → Prop) : Prop :=
  mj_F g → ∀ (p : Program) (e : Env) (R : Room) (s : State) (m : MethodId) (args : Array Value) (below : List Frame) (meth : Method) (c : Code) (H : Heap) (ls : Array Slot) (locs : List Loc) (cells slots : Nat),
    mj_K g Y d kc ks S.2.1 S.2.2.2 p R s m args meth c H ls locs cells slots →
    W p g.1 e R s m args below meth c H locs cells slots (mj_Z g Post below s (cells + kc) (slots + ks)) (F0 m S.1 ls (S.2.2.1.map (mj_tr g.2.2.2.1 g.2.2.1.heap.size)))
section MJ
variable {g : mj_G} {Y : mj_Y} {d kc ks pc : Nat} {lv : mj_L} {st : List mj_V} {M : mj_M} {Post : mj_O → mj_M → Prop}
theorem mj_r_iconst {n x : Int} (hd : decode Y.2.2.1 pc = .ok (.iconst n, 1)) (hv : Int32.ofInt n = Int32.ofInt x) (k : mj_J g Y d kc ks (pc + 1, lv, .inl x :: st, M) Post) : mj_J g Y d kc ks (pc, lv, st, M) Post := by
  intro hG p e R s m args below meth c H ls locs cells slots hK
  have h := k hG p e R s m args below meth c H ls locs cells slots hK
  exact lv_iconst hK.1.1 hK.1.2.1 hd hv h
theorem mj_r_bipush {n x : Int} (hd : decode Y.2.2.1 pc = .ok (.bipush n, 2)) (hv : (Int8.ofInt n).toInt32 = Int32.ofInt x) (k : mj_J g Y d kc ks (pc + 2, lv, .inl x :: st, M) Post) : mj_J g Y d kc ks (pc, lv, st, M) Post := by
  intro hG p e R s m args below meth c H ls locs cells slots hK
  have h := k hG p e R s m args below meth c H ls locs cells slots hK
  exact lv_bipush hK.1.1 hK.1.2.1 hd hv h
theorem mj_r_sipush {n x : Int} (hd : decode Y.2.2.1 pc = .ok (.sipush n, 3)) (hv : (Int16.ofInt n).toInt32 = Int32.ofInt x) (k : mj_J g Y d kc ks (pc + 3, lv, .inl x :: st, M) Post) : mj_J g Y d kc ks (pc, lv, st, M) Post := by
  intro hG p e R s m args below meth c H ls locs cells slots hK
  have h := k hG p e R s m args below meth c H ls locs cells slots hK
  exact lv_sipush hK.1.1 hK.1.2.1 hd hv h
theorem mj_r_lconst {n : Fin 2} {x : Int} (hd : decode Y.2.2.1 pc = .ok (.lconst n, 1)) (hv : Int64.ofNat (n : Nat) = Int64.ofInt x) (k : mj_J g Y d kc ks (pc + 1, lv, .inr (.inl x) :: st, M) Post) : mj_J g Y d kc ks (pc, lv, st, M) Post := by
  intro hG p e R s m args below meth c H ls locs cells slots hK
  have h := k hG p e R s m args below meth c H ls locs cells slots hK
  exact lv_lconst hK.1.1 hK.1.2.1 hd hv h
theorem mj_r_ldc {n : Nat} {x : Int} (hd : decode Y.2.2.1 pc = .ok (.ldc n, 2)) (hw : Cond.constant Y.1 n (Int32.ofInt x) ∈ mj_tbl) (k : mj_J g Y d kc ks (pc + 2, lv, .inl x :: st, M) Post) : mj_J g Y d kc ks (pc, lv, st, M) Post := by
  intro hG p e R s m args below meth c H ls locs cells slots hK
  have h := k hG p e R s m args below meth c H ls locs cells slots hK
  exact lv_ldc hK.1.1 hK.1.2.1 hK.1.2.2.2.1 (hK.1.2.2.2.2.1 _ hw) hd h
theorem mj_r_ldc_w {n : Nat} {x : Int} (hd : decode Y.2.2.1 pc = .ok (.ldc_w n, 3)) (hw : Cond.constant Y.1 n (Int32.ofInt x) ∈ mj_tbl) (k : mj_J g Y d kc ks (pc + 3, lv, .inl x :: st, M) Post) : mj_J g Y d kc ks (pc, lv, st, M) Post := by
  intro hG p e R s m args below meth c H ls locs cells slots hK
  have h := k hG p e R s m args below meth c H ls locs cells slots hK
  exact lv_ldcw hK.1.1 hK.1.2.1 hK.1.2.2.2.1 (hK.1.2.2.2.2.1 _ hw) hd h
theorem mj_r_ldc2_w {n : Nat} {x : Int} (hd : decode Y.2.2.1 pc = .ok (.ldc2_w n, 3)) (hw : Cond.constantLong Y.1 n (Int64.ofInt x) ∈ mj_tbl) (k : mj_J g Y d kc ks (pc + 3, lv, .inr (.inl x) :: st, M) Post) : mj_J g Y d kc ks (pc, lv, st, M) Post := by
  intro hG p e R s m args below meth c H ls locs cells slots hK
  have h := k hG p e R s m args below meth c H ls locs cells slots hK
  exact lv_ldc2 hK.1.1 hK.1.2.1 hK.1.2.2.2.1 (hK.1.2.2.2.2.1 _ hw) hd h
theorem mj_r_iload {i : Nat} {x : Int} (hd : decode Y.2.2.1 pc = .ok (.iload i, 2)) (hl : lv[i]? = some (some (.inl x))) (k : mj_J g Y d kc ks (pc + 2, lv, .inl x :: st, M) Post) : mj_J g Y d kc ks (pc, lv, st, M) Post := by
  intro hG p e R s m args below meth c H ls locs cells slots hK
  have h := k hG p e R s m args below meth c H ls locs cells slots hK
  exact lv_iload hK.1.1 hK.1.2.1 hd (hK.2.2.2.2.1.1.2.2 i _ hl) h
theorem mj_r_iload_n {i : Fin 4} {x : Int} (hd : decode Y.2.2.1 pc = .ok (.iload_n i, 1)) (hl : lv[(i : Nat)]? = some (some (.inl x))) (k : mj_J g Y d kc ks (pc + 1, lv, .inl x :: st, M) Post) : mj_J g Y d kc ks (pc, lv, st, M) Post := by
  intro hG p e R s m args below meth c H ls locs cells slots hK
  have h := k hG p e R s m args below meth c H ls locs cells slots hK
  exact lv_iload_n hK.1.1 hK.1.2.1 hd rfl (hK.2.2.2.2.1.1.2.2 i _ hl) h
theorem mj_r_lload {i : Nat} {x : Int} (hd : decode Y.2.2.1 pc = .ok (.lload i, 2)) (hl : lv[i]? = some (some (.inr (.inl x)))) (k : mj_J g Y d kc ks (pc + 2, lv, .inr (.inl x) :: st, M) Post) : mj_J g Y d kc ks (pc, lv, st, M) Post := by
  intro hG p e R s m args below meth c H ls locs cells slots hK
  have h := k hG p e R s m args below meth c H ls locs cells slots hK
  exact lv_lload hK.1.1 hK.1.2.1 hd (hK.2.2.2.2.1.1.2.2 i _ hl) h
theorem mj_r_lload_n {i : Fin 4} {x : Int} (hd : decode Y.2.2.1 pc = .ok (.lload_n i, 1)) (hl : lv[(i : Nat)]? = some (some (.inr (.inl x)))) (k : mj_J g Y d kc ks (pc + 1, lv, .inr (.inl x) :: st, M) Post) : mj_J g Y d kc ks (pc, lv, st, M) Post := by
  intro hG p e R s m args below meth c H ls locs cells slots hK
  have h := k hG p e R s m args below meth c H ls locs cells slots hK
  exact lv_lload_n hK.1.1 hK.1.2.1 hd rfl (hK.2.2.2.2.1.1.2.2 i _ hl) h
theorem mj_r_aload {i : Nat} {r : Nat × Nat} (hd : decode Y.2.2.1 pc = .ok (.aload i, 2)) (hl : lv[i]? = some (some (.inr (.inr (.inl (some r)))))) (k : mj_J g Y d kc ks (pc + 2, lv, .inr (.inr (.inl (some r))) :: st, M) Post) : mj_J g Y d kc ks (pc, lv, st, M) Post := by
  intro hG p e R s m args below meth c H ls locs cells slots hK
  have h := k hG p e R s m args below meth c H ls locs cells slots hK
  exact lv_aload hK.1.1 hK.1.2.1 hd (hK.2.2.2.2.1.1.2.2 i _ hl) h
theorem mj_r_aload_n {i : Fin 4} {r : Nat × Nat} (hd : decode Y.2.2.1 pc = .ok (.aload_n i, 1)) (hl : lv[(i : Nat)]? = some (some (.inr (.inr (.inl (some r)))))) (k : mj_J g Y d kc ks (pc + 1, lv, .inr (.inr (.inl (some r))) :: st, M) Post) : mj_J g Y d kc ks (pc, lv, st, M) Post := by
  intro hG p e R s m args below meth c H ls locs cells slots hK
  have h := k hG p e R s m args below meth c H ls locs cells slots hK
  exact lv_aload_n hK.1.1 hK.1.2.1 hd rfl (hK.2.2.2.2.1.1.2.2 i _ hl) h
theorem mj_r_aloadS {i : Nat} {u : Unit} (hd : decode Y.2.2.1 pc = .ok (.aload i, 2)) (hl : lv[i]? = some (some (.inr (.inr (.inr u))))) (k : mj_J g Y d kc ks (pc + 2, lv, .inr (.inr (.inr u)) :: st, M) Post) : mj_J g Y d kc ks (pc, lv, st, M) Post := by
  intro hG p e R s m args below meth c H ls locs cells slots hK
  have h := k hG p e R s m args below meth c H ls locs cells slots hK
  exact lv_aload hK.1.1 hK.1.2.1 hd (hK.2.2.2.2.1.1.2.2 i _ hl) h
theorem mj_r_aload_nS {i : Fin 4} {u : Unit} (hd : decode Y.2.2.1 pc = .ok (.aload_n i, 1)) (hl : lv[(i : Nat)]? = some (some (.inr (.inr (.inr u))))) (k : mj_J g Y d kc ks (pc + 1, lv, .inr (.inr (.inr u)) :: st, M) Post) : mj_J g Y d kc ks (pc, lv, st, M) Post := by
  intro hG p e R s m args below meth c H ls locs cells slots hK
  have h := k hG p e R s m args below meth c H ls locs cells slots hK
  exact lv_aload_n hK.1.1 hK.1.2.1 hd rfl (hK.2.2.2.2.1.1.2.2 i _ hl) h
/-- the same standing with other locals -/
theorem mj_K.loc {lv' : mj_L} {p : Program} {R : Room} {s : State} {m : MethodId} {args : Array Value} {meth : Method} {c : Code} {H : Heap} {ls ls' : Array Slot} {locs : List Loc} {cells slots : Nat} (hK : mj_K g Y d kc ks lv M p R s m args meth c H ls locs cells slots) (h : mj_ls g.2.2.2.1 g.2.2.1.heap.size ls' lv') (hl : lv'.length = lv.length) : mj_K g Y d kc ks lv' M p R s m args meth c H ls' locs cells slots :=
  ⟨hK.1, hK.2.1, hK.2.2.1, hK.2.2.2.1, ⟨h, hl.trans hK.2.2.2.2.1.2⟩, hK.2.2.2.2.2⟩
theorem mj_st1_len (lv : mj_L) (i : Nat) (w : mj_V) : (mj_st1 lv i w).length = lv.length := by rw [mj_st1, List.length_set, mj_clr_len]
theorem mj_st2_len (lv : mj_L) (i : Nat) (w : mj_V) : (mj_st2 lv i w).length = lv.length := by rw [mj_st2, List.length_set, List.length_set, mj_clr_len]
theorem mj_r_istore {i : Nat} {x : Int} (hd : decode Y.2.2.1 pc = .ok (.istore i, 2)) (hi0 : Nat.blt i lv.length = true) (k : mj_J g Y d kc ks (pc + 2, mj_st1 lv i (.inl x), st, M) Post) : mj_J g Y d kc ks (pc, lv, .inl x :: st, M) Post := by
  intro hG p e R s m args below meth c H ls locs cells slots hK
  have hi := Nat.blt_eq.mp hi0
  refine lv_istore hK.1.1 hK.1.2.1 hd (mj_has hK.2.2.2.2.1.1) hi rfl fun ls2 h2 => ?_
  exact k hG p e R s m args below meth c H ls2 locs cells slots (hK.loc (mj_ls_st1 hi h2) (mj_st1_len _ _ _))
theorem mj_r_istore_n {i : Fin 4} {x : Int} (hd : decode Y.2.2.1 pc = .ok (.istore_n i, 1)) (hi0 : Nat.blt (i : Nat) lv.length = true) (k : mj_J g Y d kc ks (pc + 1, mj_st1 lv (i : Nat) (.inl x), st, M) Post) : mj_J g Y d kc ks (pc, lv, .inl x :: st, M) Post := by
  intro hG p e R s m args below meth c H ls locs cells slots hK
  have hi := Nat.blt_eq.mp hi0
  refine lv_istore_n hK.1.1 hK.1.2.1 hd rfl (mj_has hK.2.2.2.2.1.1) hi rfl fun ls2 h2 => ?_
  exact k hG p e R s m args below meth c H ls2 locs cells slots (hK.loc (mj_ls_st1 hi h2) (mj_st1_len _ _ _))
theorem mj_r_lstore {i : Nat} {x : Int} (hd : decode Y.2.2.1 pc = .ok (.lstore i, 2)) (hi0 : Nat.blt (i + 1) lv.length = true) (k : mj_J g Y d kc ks (pc + 2, mj_st2 lv i (.inr (.inl x)), st, M) Post) : mj_J g Y d kc ks (pc, lv, .inr (.inl x) :: st, M) Post := by
  intro hG p e R s m args below meth c H ls locs cells slots hK
  have hi := Nat.blt_eq.mp hi0
  refine lv_lstore hK.1.1 hK.1.2.1 hd (mj_has hK.2.2.2.2.1.1) hi rfl fun ls2 h2 => ?_
  exact k hG p e R s m args below meth c H ls2 locs cells slots (hK.loc (mj_ls_st2 hi h2) (mj_st2_len _ _ _))
theorem mj_r_lstore_n {i : Fin 4} {x : Int} (hd : decode Y.2.2.1 pc = .ok (.lstore_n i, 1)) (hi0 : Nat.blt ((i : Nat) + 1) lv.length = true) (k : mj_J g Y d kc ks (pc + 1, mj_st2 lv (i : Nat) (.inr (.inl x)), st, M) Post) : mj_J g Y d kc ks (pc, lv, .inr (.inl x) :: st, M) Post := by
  intro hG p e R s m args below meth c H ls locs cells slots hK
  have hi := Nat.blt_eq.mp hi0
  refine lv_lstore_n hK.1.1 hK.1.2.1 hd rfl (mj_has hK.2.2.2.2.1.1) hi rfl fun ls2 h2 => ?_
  exact k hG p e R s m args below meth c H ls2 locs cells slots (hK.loc (mj_ls_st2 hi h2) (mj_st2_len _ _ _))
theorem mj_r_astore {i : Nat} {r : Nat × Nat} (hd : decode Y.2.2.1 pc = .ok (.astore i, 2)) (hi0 : Nat.blt i lv.length = true) (k : mj_J g Y d kc ks (pc + 2, mj_st1 lv i (.inr (.inr (.inl (some r)))), st, M) Post) : mj_J g Y d kc ks (pc, lv, .inr (.inr (.inl (some r))) :: st, M) Post := by
  intro hG p e R s m args below meth c H ls locs cells slots hK
  have hi := Nat.blt_eq.mp hi0
  refine lv_astore hK.1.1 hK.1.2.1 hd (mj_has hK.2.2.2.2.1.1) hi rfl fun ls2 h2 => ?_
  exact k hG p e R s m args below meth c H ls2 locs cells slots (hK.loc (mj_ls_st1 hi h2) (mj_st1_len _ _ _))
theorem mj_r_astore_n {i : Fin 4} {r : Nat × Nat} (hd : decode Y.2.2.1 pc = .ok (.astore_n i, 1)) (hi0 : Nat.blt (i : Nat) lv.length = true) (k : mj_J g Y d kc ks (pc + 1, mj_st1 lv (i : Nat) (.inr (.inr (.inl (some r)))), st, M) Post) : mj_J g Y d kc ks (pc, lv, .inr (.inr (.inl (some r))) :: st, M) Post := by
  intro hG p e R s m args below meth c H ls locs cells slots hK
  have hi := Nat.blt_eq.mp hi0
  refine lv_astore_n hK.1.1 hK.1.2.1 hd rfl (mj_has hK.2.2.2.2.1.1) hi rfl fun ls2 h2 => ?_
  exact k hG p e R s m args below meth c H ls2 locs cells slots (hK.loc (mj_ls_st1 hi h2) (mj_st1_len _ _ _))
theorem mj_r_astoreS {i : Nat} {u : Unit} (hd : decode Y.2.2.1 pc = .ok (.astore i, 2)) (hi0 : Nat.blt i lv.length = true) (k : mj_J g Y d kc ks (pc + 2, mj_st1 lv i (.inr (.inr (.inr u))), st, M) Post) : mj_J g Y d kc ks (pc, lv, .inr (.inr (.inr u)) :: st, M) Post := by
  intro hG p e R s m args below meth c H ls locs cells slots hK
  have hi := Nat.blt_eq.mp hi0
  refine lv_astore hK.1.1 hK.1.2.1 hd (mj_has hK.2.2.2.2.1.1) hi rfl fun ls2 h2 => ?_
  exact k hG p e R s m args below meth c H ls2 locs cells slots (hK.loc (mj_ls_st1 hi h2) (mj_st1_len _ _ _))
theorem mj_r_astoreS_n {i : Fin 4} {u : Unit} (hd : decode Y.2.2.1 pc = .ok (.astore_n i, 1)) (hi0 : Nat.blt (i : Nat) lv.length = true) (k : mj_J g Y d kc ks (pc + 1, mj_st1 lv (i : Nat) (.inr (.inr (.inr u))), st, M) Post) : mj_J g Y d kc ks (pc, lv, .inr (.inr (.inr u)) :: st, M) Post := by
  intro hG p e R s m args below meth c H ls locs cells slots hK
  have hi := Nat.blt_eq.mp hi0
  refine lv_astore_n hK.1.1 hK.1.2.1 hd rfl (mj_has hK.2.2.2.2.1.1) hi rfl fun ls2 h2 => ?_
  exact k hG p e R s m args below meth c H ls2 locs cells slots (hK.loc (mj_ls_st1 hi h2) (mj_st1_len _ _ _))
theorem mj_r_iinc {i : Nat} {n x : Int} (hd : decode Y.2.2.1 pc = .ok (.iinc i n, 3)) (hl : lv[i]? = some (some (.inl x))) (k : mj_J g Y d kc ks (pc + 3, mj_st1 lv i (.inl (x + n)), st, M) Post) : mj_J g Y d kc ks (pc, lv, st, M) Post := by
  intro hG p e R s m args below meth c H ls locs cells slots hK
  have hi : i < lv.length := (List.getElem?_eq_some_iff.mp hl).1
  obtain ⟨j, hj⟩ := List.getElem?_of_mem (mj_pr_in (b := g.2.2.2.1) (z := g.2.2.1.heap.size) hl)
  refine lv_iinc hK.1.1 hK.1.2.1 hd (mj_has hK.2.2.2.2.1.1) hj (v := Int32.ofInt (x + n)) (by rw [Int32.ofInt_add]) hi rfl fun ls2 h2 => ?_
  exact k hG p e R s m args below meth c H ls2 locs cells slots (hK.loc (mj_ls_st1 (w := .inl (x + n)) hi h2) (mj_st1_len _ _ _))
theorem mj_r_iadd {x y : Int} (hd : decode Y.2.2.1 pc = .ok (.iadd, 1)) (k : mj_J g Y d kc ks (pc + 1, lv, .inl (x + y) :: st, M) Post) : mj_J g Y d kc ks (pc, lv, .inl y :: .inl x :: st, M) Post := by
  intro hG p e R s m args below meth c H ls locs cells slots hK
  have h := k hG p e R s m args below meth c H ls locs cells slots hK
  exact lv_iadd hK.1.1 hK.1.2.1 hd (by rw [← Int32.ofInt_add]; exact h)
theorem mj_r_isub {x y : Int} (hd : decode Y.2.2.1 pc = .ok (.isub, 1)) (k : mj_J g Y d kc ks (pc + 1, lv, .inl (x - y) :: st, M) Post) : mj_J g Y d kc ks (pc, lv, .inl y :: .inl x :: st, M) Post := by
  intro hG p e R s m args below meth c H ls locs cells slots hK
  have h := k hG p e R s m args below meth c H ls locs cells slots hK
  exact lv_isub hK.1.1 hK.1.2.1 hd (by rw [← Int32.ofInt_sub]; exact h)
theorem mj_r_imul {x y : Int} (hd : decode Y.2.2.1 pc = .ok (.imul, 1)) (k : mj_J g Y d kc ks (pc + 1, lv, .inl (x * y) :: st, M) Post) : mj_J g Y d kc ks (pc, lv, .inl y :: .inl x :: st, M) Post := by
  intro hG p e R s m args below meth c H ls locs cells slots hK
  have h := k hG p e R s m args below meth c H ls locs cells slots hK
  exact lv_imul hK.1.1 hK.1.2.1 hd (by rw [← Int32.ofInt_mul]; exact h)
theorem mj_r_ladd {x y : Int} (hd : decode Y.2.2.1 pc = .ok (.ladd, 1)) (k : mj_J g Y d kc ks (pc + 1, lv, .inr (.inl (x + y)) :: st, M) Post) : mj_J g Y d kc ks (pc, lv, .inr (.inl y) :: .inr (.inl x) :: st, M) Post := by
  intro hG p e R s m args below meth c H ls locs cells slots hK
  have h := k hG p e R s m args below meth c H ls locs cells slots hK
  exact lv_ladd hK.1.1 hK.1.2.1 hd (by rw [← Int64.ofInt_add]; exact h)
theorem mj_r_lsub {x y : Int} (hd : decode Y.2.2.1 pc = .ok (.lsub, 1)) (k : mj_J g Y d kc ks (pc + 1, lv, .inr (.inl (x - y)) :: st, M) Post) : mj_J g Y d kc ks (pc, lv, .inr (.inl y) :: .inr (.inl x) :: st, M) Post := by
  intro hG p e R s m args below meth c H ls locs cells slots hK
  have h := k hG p e R s m args below meth c H ls locs cells slots hK
  exact lv_lsub hK.1.1 hK.1.2.1 hd (by rw [← Int64.ofInt_sub]; exact h)
theorem mj_r_lmul {x y : Int} (hd : decode Y.2.2.1 pc = .ok (.lmul, 1)) (k : mj_J g Y d kc ks (pc + 1, lv, .inr (.inl (x * y)) :: st, M) Post) : mj_J g Y d kc ks (pc, lv, .inr (.inl y) :: .inr (.inl x) :: st, M) Post := by
  intro hG p e R s m args below meth c H ls locs cells slots hK
  have h := k hG p e R s m args below meth c H ls locs cells slots hK
  exact lv_lmul hK.1.1 hK.1.2.1 hd (by rw [← Int64.ofInt_mul]; exact h)
theorem mj_r_ishl {x y : Int} (hd : decode Y.2.2.1 pc = .ok (.ishl, 1)) (k : mj_J g Y d kc ks (pc + 1, lv, .inl (mj_shl x y) :: st, M) Post) : mj_J g Y d kc ks (pc, lv, .inl y :: .inl x :: st, M) Post := by
  intro hG p e R s m args below meth c H ls locs cells slots hK
  have h := k hG p e R s m args below meth c H ls locs cells slots hK
  have e1 : Int32.ofInt (mj_shl x y) = Int32.ofInt x <<< (Int32.ofInt y &&& 31) := Int32.ofInt_toInt _
  exact lv_ishl hK.1.1 hK.1.2.1 hd (by rw [← e1]; exact h)
theorem mj_r_ishr {x y : Int} (hd : decode Y.2.2.1 pc = .ok (.ishr, 1)) (k : mj_J g Y d kc ks (pc + 1, lv, .inl (mj_shr x y) :: st, M) Post) : mj_J g Y d kc ks (pc, lv, .inl y :: .inl x :: st, M) Post := by
  intro hG p e R s m args below meth c H ls locs cells slots hK
  have h := k hG p e R s m args below meth c H ls locs cells slots hK
  have e1 : Int32.ofInt (mj_shr x y) = Int32.ofInt x >>> (Int32.ofInt y &&& 31) := Int32.ofInt_toInt _
  exact lv_ishr hK.1.1 hK.1.2.1 hd (by rw [← e1]; exact h)
theorem mj_r_iand {x y : Int} (hd : decode Y.2.2.1 pc = .ok (.iand, 1)) (k : mj_J g Y d kc ks (pc + 1, lv, .inl (mj_and x y) :: st, M) Post) : mj_J g Y d kc ks (pc, lv, .inl y :: .inl x :: st, M) Post := by
  intro hG p e R s m args below meth c H ls locs cells slots hK
  have h := k hG p e R s m args below meth c H ls locs cells slots hK
  have e1 : Int32.ofInt (mj_and x y) = Int32.ofInt x &&& Int32.ofInt y := Int32.ofInt_toInt _
  exact lv_iand hK.1.1 hK.1.2.1 hd (by rw [← e1]; exact h)
theorem mj_r_ior {x y : Int} (hd : decode Y.2.2.1 pc = .ok (.ior, 1)) (k : mj_J g Y d kc ks (pc + 1, lv, .inl (mj_ior x y) :: st, M) Post) : mj_J g Y d kc ks (pc, lv, .inl y :: .inl x :: st, M) Post := by
  intro hG p e R s m args below meth c H ls locs cells slots hK
  have h := k hG p e R s m args below meth c H ls locs cells slots hK
  have e1 : Int32.ofInt (mj_ior x y) = Int32.ofInt x ||| Int32.ofInt y := Int32.ofInt_toInt _
  exact lv_ior hK.1.1 hK.1.2.1 hd (by rw [← e1]; exact h)
theorem mj_r_iushr {x y : Int} (hd : decode Y.2.2.1 pc = .ok (.iushr, 1)) (k : mj_J g Y d kc ks (pc + 1, lv, .inl (mj_ush x y) :: st, M) Post) : mj_J g Y d kc ks (pc, lv, .inl y :: .inl x :: st, M) Post := by
  intro hG p e R s m args below meth c H ls locs cells slots hK
  have h := k hG p e R s m args below meth c H ls locs cells slots hK
  exact lv_iushr hK.1.1 hK.1.2.1 hd (v := Int32.ofInt (mj_ush x y)) (by rw [mj_ush, Int32.ofInt_toInt]) h
theorem mj_r_land {x y : Int} (hd : decode Y.2.2.1 pc = .ok (.land, 1)) (k : mj_J g Y d kc ks (pc + 1, lv, .inr (.inl (mj_lan x y)) :: st, M) Post) : mj_J g Y d kc ks (pc, lv, .inr (.inl y) :: .inr (.inl x) :: st, M) Post := by
  intro hG p e R s m args below meth c H ls locs cells slots hK
  have h := k hG p e R s m args below meth c H ls locs cells slots hK
  have e1 : Int64.ofInt (mj_lan x y) = Int64.ofInt x &&& Int64.ofInt y := Int64.ofInt_toInt _
  exact lv_land hK.1.1 hK.1.2.1 hd (by rw [← e1]; exact h)
theorem mj_r_lor {x y : Int} (hd : decode Y.2.2.1 pc = .ok (.lor, 1)) (k : mj_J g Y d kc ks (pc + 1, lv, .inr (.inl (mj_lor x y)) :: st, M) Post) : mj_J g Y d kc ks (pc, lv, .inr (.inl y) :: .inr (.inl x) :: st, M) Post := by
  intro hG p e R s m args below meth c H ls locs cells slots hK
  have h := k hG p e R s m args below meth c H ls locs cells slots hK
  have e1 : Int64.ofInt (mj_lor x y) = Int64.ofInt x ||| Int64.ofInt y := Int64.ofInt_toInt _
  exact lv_lor hK.1.1 hK.1.2.1 hd (by rw [← e1]; exact h)
theorem mj_r_lshl {x y : Int} (hd : decode Y.2.2.1 pc = .ok (.lshl, 1)) (k : mj_J g Y d kc ks (pc + 1, lv, .inr (.inl (mj_lsh x y)) :: st, M) Post) : mj_J g Y d kc ks (pc, lv, .inl y :: .inr (.inl x) :: st, M) Post := by
  intro hG p e R s m args below meth c H ls locs cells slots hK
  have h := k hG p e R s m args below meth c H ls locs cells slots hK
  exact lv_lshl hK.1.1 hK.1.2.1 hd (v := Int64.ofInt (mj_lsh x y)) (by rw [mj_lsh, Int64.ofInt_toInt]) h
theorem mj_r_i2l {x : Int} (hd : decode Y.2.2.1 pc = .ok (.i2l, 1)) (hx : mj_i x) (k : mj_J g Y d kc ks (pc + 1, lv, .inr (.inl x) :: st, M) Post) : mj_J g Y d kc ks (pc, lv, .inl x :: st, M) Post := by
  intro hG p e R s m args below meth c H ls locs cells slots hK
  have h := k hG p e R s m args below meth c H ls locs cells slots hK
  exact lv_i2l hK.1.1 hK.1.2.1 hd (v := Int64.ofInt x) (by rw [← Int64.ofInt_toInt (Int32.ofInt x).toInt64, Int32.toInt_toInt64, mj_ti hx]) h
theorem mj_div {x y : Int} (hx : mj_i x) (hy : mj_i y) (h0 : 0 ≤ x) (h1 : 0 < y) : Int32.ofInt x / Int32.ofInt y = Int32.ofInt (x / y) := by
  rw [← Int32.toInt_inj, Int32.toInt_div_of_ne_right _ _ (fun q => by rw [← Int32.toInt_inj, mj_ti hy] at q; have : y = -1 := q; omega), mj_ti hx, mj_ti hy, Int.tdiv_eq_ediv_of_nonneg h0, mj_ti]
  have := Int.ediv_le_self y h0
  have := Int.ediv_nonneg h0 (Int.le_of_lt h1)
  unfold mj_i at *
  omega
theorem mj_rem {x y : Int} (hx : mj_i x) (hy : mj_i y) (h0 : 0 ≤ x) (h1 : 0 < y) : Int32.ofInt x - Int32.ofInt x / Int32.ofInt y * Int32.ofInt y = Int32.ofInt (x % y) := by
  rw [mj_div hx hy h0 h1, ← Int32.ofInt_mul, ← Int32.ofInt_sub]
  congr 1
  have := Int.emod_add_mul_ediv x y
  rw [Int.mul_comm] at this
  omega
theorem mj_ldiv {x y : Int} (hx : mj_l x) (hy : mj_l y) (h0 : 0 ≤ x) (h1 : 0 < y) : Int64.ofInt x / Int64.ofInt y = Int64.ofInt (x / y) := by
  rw [← Int64.toInt_inj, Int64.toInt_div_of_ne_right _ _ (fun q => by rw [← Int64.toInt_inj, mj_tl hy] at q; have : y = -1 := q; omega), mj_tl hx, mj_tl hy, Int.tdiv_eq_ediv_of_nonneg h0, mj_tl]
  have := Int.ediv_le_self y h0
  have := Int.ediv_nonneg h0 (Int.le_of_lt h1)
  unfold mj_l at *
  omega
theorem mj_lrem {x y : Int} (hx : mj_l x) (hy : mj_l y) (h0 : 0 ≤ x) (h1 : 0 < y) : Int64.ofInt x - Int64.ofInt x / Int64.ofInt y * Int64.ofInt y = Int64.ofInt (x % y) := by
  rw [mj_ldiv hx hy h0 h1, ← Int64.ofInt_mul, ← Int64.ofInt_sub]
  congr 1
  have := Int.emod_add_mul_ediv x y
  rw [Int.mul_comm] at this
  omega
theorem mj_ne0 {y : Int} (hy : mj_i y) (h : 0 < y) : ¬ Int32.ofInt y = 0 := fun q => by
  have q2 : Int32.ofInt y = Int32.ofInt 0 := q
  rw [mj_eq hy mj_i0] at q2
  omega
theorem mj_lne0 {y : Int} (hy : mj_l y) (h : 0 < y) : ¬ Int64.ofInt y = 0 := fun q => by
  rw [← Int64.toInt_inj, mj_tl hy] at q
  have : y = 0 := q
  omega
theorem mj_r_idiv {x y : Int} (hd : decode Y.2.2.1 pc = .ok (.idiv, 1)) (hx : mj_i x) (hy : mj_i y) (h0 : 0 ≤ x) (h1 : 0 < y) (k : mj_J g Y d kc ks (pc + 1, lv, .inl (x / y) :: st, M) Post) : mj_J g Y d kc ks (pc, lv, .inl y :: .inl x :: st, M) Post := by
  intro hG p e R s m args below meth c H ls locs cells slots hK
  have h := k hG p e R s m args below meth c H ls locs cells slots hK
  exact lv_idiv hK.1.1 hK.1.2.1 hd (mj_ne0 hy h1) (by rw [mj_div hx hy h0 h1]; exact h)
theorem mj_r_irem {x y : Int} (hd : decode Y.2.2.1 pc = .ok (.irem, 1)) (hx : mj_i x) (hy : mj_i y) (h0 : 0 ≤ x) (h1 : 0 < y) (k : mj_J g Y d kc ks (pc + 1, lv, .inl (x % y) :: st, M) Post) : mj_J g Y d kc ks (pc, lv, .inl y :: .inl x :: st, M) Post := by
  intro hG p e R s m args below meth c H ls locs cells slots hK
  have h := k hG p e R s m args below meth c H ls locs cells slots hK
  exact lv_irem hK.1.1 hK.1.2.1 hd (mj_ne0 hy h1) (by rw [mj_rem hx hy h0 h1]; exact h)
theorem mj_r_ldiv {x y : Int} (hd : decode Y.2.2.1 pc = .ok (.ldiv, 1)) (hx : mj_l x) (hy : mj_l y) (h0 : 0 ≤ x) (h1 : 0 < y) (k : mj_J g Y d kc ks (pc + 1, lv, .inr (.inl (x / y)) :: st, M) Post) : mj_J g Y d kc ks (pc, lv, .inr (.inl y) :: .inr (.inl x) :: st, M) Post := by
  intro hG p e R s m args below meth c H ls locs cells slots hK
  have h := k hG p e R s m args below meth c H ls locs cells slots hK
  exact lv_ldiv hK.1.1 hK.1.2.1 hd (mj_lne0 hy h1) (by rw [mj_ldiv hx hy h0 h1]; exact h)
theorem mj_r_lrem {x y : Int} (hd : decode Y.2.2.1 pc = .ok (.lrem, 1)) (hx : mj_l x) (hy : mj_l y) (h0 : 0 ≤ x) (h1 : 0 < y) (k : mj_J g Y d kc ks (pc + 1, lv, .inr (.inl (x % y)) :: st, M) Post) : mj_J g Y d kc ks (pc, lv, .inr (.inl y) :: .inr (.inl x) :: st, M) Post := by
  intro hG p e R s m args below meth c H ls locs cells slots hK
  have h := k hG p e R s m args below meth c H ls locs cells slots hK
  exact lv_lrem hK.1.1 hK.1.2.1 hd (mj_lne0 hy h1) (by rw [mj_lrem hx hy h0 h1]; exact h)
theorem mj_cmp_of {x y : Int} (hx : mj_l x) (hy : mj_l y) : lg_cmp (Int64.ofInt x) (Int64.ofInt y) = Int32.ofInt (mj_cmp x y) := by
  have e1 : (Int64.ofInt x > Int64.ofInt y) ↔ y < x := by rw [gt_iff_lt, Int64.lt_iff_toInt_lt, mj_tl hx, mj_tl hy]
  have e2 : (Int64.ofInt x = Int64.ofInt y) ↔ x = y := by rw [← Int64.toInt_inj, mj_tl hx, mj_tl hy]
  unfold lg_cmp mj_cmp
  simp only [e1, e2]
  split
  · rfl
  · split <;> rfl
theorem mj_r_lcmp {x y : Int} (hd : decode Y.2.2.1 pc = .ok (.lcmp, 1)) (hx : mj_l x) (hy : mj_l y) (k : mj_J g Y d kc ks (pc + 1, lv, .inl (mj_cmp x y) :: st, M) Post) : mj_J g Y d kc ks (pc, lv, .inr (.inl y) :: .inr (.inl x) :: st, M) Post := by
  intro hG p e R s m args below meth c H ls locs cells slots hK
  have h := k hG p e R s m args below meth c H ls locs cells slots hK
  exact W.lcmp hK.1.1 hK.1.2.1 hd (by rw [mj_cmp_of hx hy]; exact h)
theorem mj_r_dup {w : mj_V} (hd : decode Y.2.2.1 pc = .ok (.dup, 1)) (hc : mj_cat w = 1) (k : mj_J g Y d kc ks (pc + 1, lv, w :: w :: st, M) Post) : mj_J g Y d kc ks (pc, lv, w :: st, M) Post := by
  intro hG p e R s m args below meth c H ls locs cells slots hK
  have h := k hG p e R s m args below meth c H ls locs cells slots hK
  exact lv_dup hK.1.1 hK.1.2.1 hd (by rw [mj_tr_cat]; exact hc) h
theorem mj_r_dup2 {w v : mj_V} (hd : decode Y.2.2.1 pc = .ok (.dup2, 1)) (hc : mj_cat w = 1) (hv : mj_cat v = 1) (k : mj_J g Y d kc ks (pc + 1, lv, w :: v :: w :: v :: st, M) Post) : mj_J g Y d kc ks (pc, lv, w :: v :: st, M) Post := by
  intro hG p e R s m args below meth c H ls locs cells slots hK
  have h := k hG p e R s m args below meth c H ls locs cells slots hK
  exact lv_dup2_11 hK.1.1 hK.1.2.1 hd (by rw [mj_tr_cat]; exact hc) (by rw [mj_tr_cat]; exact hv) h
theorem mj_r_goto {off : Int} {tgt : Nat} (hd : decode Y.2.2.1 pc = .ok (.goto off, 3)) (ht : (pc : Int) + off = (tgt : Int)) (k : mj_J g Y d kc ks (tgt, lv, st, M) Post) : mj_J g Y d kc ks (pc, lv, st, M) Post := by
  intro hG p e R s m args below meth c H ls locs cells slots hK
  exact lv_goto hK.1.1 hK.1.2.1 hd ht (k hG p e R s m args below meth c H ls locs cells slots hK)
theorem mj_r_icmp_eq {x y : Int} {off : Int} {tgt : Nat} (hd : decode Y.2.2.1 pc = .ok (.if_icmp .eq off, 3)) (ht : (pc : Int) + off = (tgt : Int)) (hx : mj_i x) (hy : mj_i y) (k : mj_J g Y d kc ks (if x = y then tgt else pc + 3, lv, st, M) Post) : mj_J g Y d kc ks (pc, lv, .inl y :: .inl x :: st, M) Post := by
  intro hG p e R s m args below meth c H ls locs cells slots hK
  have h := k hG p e R s m args below meth c H ls locs cells slots hK
  exact lv_icmp_eq hK.1.1 hK.1.2.1 hd ht (fun q => by
    have q2 : (Int32.ofInt x = Int32.ofInt y) := q
    rw [mj_eq hx hy] at q2
    have q3 : (x = y) := by omega
    simp only [if_pos q3] at h
    exact h)
    (fun q => by
    have q2 : ¬ (Int32.ofInt x = Int32.ofInt y) := q
    rw [mj_eq hx hy] at q2
    have q3 : ¬ (x = y) := by omega
    simp only [if_neg q3] at h
    exact h)
theorem mj_r_if_eq {x : Int} {off : Int} {tgt : Nat} (hd : decode Y.2.2.1 pc = .ok (.ifCond .eq off, 3)) (ht : (pc : Int) + off = (tgt : Int)) (hx : mj_i x) (k : mj_J g Y d kc ks (if x = 0 then tgt else pc + 3, lv, st, M) Post) : mj_J g Y d kc ks (pc, lv, .inl x :: st, M) Post := by
  intro hG p e R s m args below meth c H ls locs cells slots hK
  have h := k hG p e R s m args below meth c H ls locs cells slots hK
  exact lv_if_eq hK.1.1 hK.1.2.1 hd ht (fun q => by
    have q2 : (Int32.ofInt x = Int32.ofInt 0) := q
    rw [mj_eq hx mj_i0] at q2
    have q3 : (x = 0) := by omega
    simp only [if_pos q3] at h
    exact h)
    (fun q => by
    have q2 : ¬ (Int32.ofInt x = Int32.ofInt 0) := q
    rw [mj_eq hx mj_i0] at q2
    have q3 : ¬ (x = 0) := by omega
    simp only [if_neg q3] at h
    exact h)
theorem mj_r_icmp_ne {x y : Int} {off : Int} {tgt : Nat} (hd : decode Y.2.2.1 pc = .ok (.if_icmp .ne off, 3)) (ht : (pc : Int) + off = (tgt : Int)) (hx : mj_i x) (hy : mj_i y) (k : mj_J g Y d kc ks (if x = y then pc + 3 else tgt, lv, st, M) Post) : mj_J g Y d kc ks (pc, lv, .inl y :: .inl x :: st, M) Post := by
  intro hG p e R s m args below meth c H ls locs cells slots hK
  have h := k hG p e R s m args below meth c H ls locs cells slots hK
  exact lv_icmp_ne hK.1.1 hK.1.2.1 hd ht (fun q => by
    have q2 : ¬ (Int32.ofInt x = Int32.ofInt y) := q
    rw [mj_eq hx hy] at q2
    have q3 : ¬ (x = y) := by omega
    simp only [if_neg q3] at h
    exact h)
    (fun q => by
    have q2 : (Int32.ofInt x = Int32.ofInt y) := q
    rw [mj_eq hx hy] at q2
    have q3 : (x = y) := by omega
    simp only [if_pos q3] at h
    exact h)
theorem mj_r_if_ne {x : Int} {off : Int} {tgt : Nat} (hd : decode Y.2.2.1 pc = .ok (.ifCond .ne off, 3)) (ht : (pc : Int) + off = (tgt : Int)) (hx : mj_i x) (k : mj_J g Y d kc ks (if x = 0 then pc + 3 else tgt, lv, st, M) Post) : mj_J g Y d kc ks (pc, lv, .inl x :: st, M) Post := by
  intro hG p e R s m args below meth c H ls locs cells slots hK
  have h := k hG p e R s m args below meth c H ls locs cells slots hK
  exact lv_if_ne hK.1.1 hK.1.2.1 hd ht (fun q => by
    have q2 : ¬ (Int32.ofInt x = Int32.ofInt 0) := q
    rw [mj_eq hx mj_i0] at q2
    have q3 : ¬ (x = 0) := by omega
    simp only [if_neg q3] at h
    exact h)
    (fun q => by
    have q2 : (Int32.ofInt x = Int32.ofInt 0) := q
    rw [mj_eq hx mj_i0] at q2
    have q3 : (x = 0) := by omega
    simp only [if_pos q3] at h
    exact h)
theorem mj_r_icmp_lt {x y : Int} {off : Int} {tgt : Nat} (hd : decode Y.2.2.1 pc = .ok (.if_icmp .lt off, 3)) (ht : (pc : Int) + off = (tgt : Int)) (hx : mj_i x) (hy : mj_i y) (k : mj_J g Y d kc ks (if x < y then tgt else pc + 3, lv, st, M) Post) : mj_J g Y d kc ks (pc, lv, .inl y :: .inl x :: st, M) Post := by
  intro hG p e R s m args below meth c H ls locs cells slots hK
  have h := k hG p e R s m args below meth c H ls locs cells slots hK
  exact lv_icmp_lt hK.1.1 hK.1.2.1 hd ht (fun q => by
    have q2 : (Int32.ofInt x < Int32.ofInt y) := q
    rw [mj_lt hx hy] at q2
    have q3 : (x < y) := by omega
    simp only [if_pos q3] at h
    exact h)
    (fun q => by
    have q2 : ¬ (Int32.ofInt x < Int32.ofInt y) := q
    rw [mj_lt hx hy] at q2
    have q3 : ¬ (x < y) := by omega
    simp only [if_neg q3] at h
    exact h)
theorem mj_r_if_lt {x : Int} {off : Int} {tgt : Nat} (hd : decode Y.2.2.1 pc = .ok (.ifCond .lt off, 3)) (ht : (pc : Int) + off = (tgt : Int)) (hx : mj_i x) (k : mj_J g Y d kc ks (if x < 0 then tgt else pc + 3, lv, st, M) Post) : mj_J g Y d kc ks (pc, lv, .inl x :: st, M) Post := by
  intro hG p e R s m args below meth c H ls locs cells slots hK
  have h := k hG p e R s m args below meth c H ls locs cells slots hK
  exact lv_if_lt hK.1.1 hK.1.2.1 hd ht (fun q => by
    have q2 : (Int32.ofInt x < Int32.ofInt 0) := q
    rw [mj_lt hx mj_i0] at q2
    have q3 : (x < 0) := by omega
    simp only [if_pos q3] at h
    exact h)
    (fun q => by
    have q2 : ¬ (Int32.ofInt x < Int32.ofInt 0) := q
    rw [mj_lt hx mj_i0] at q2
    have q3 : ¬ (x < 0) := by omega
    simp only [if_neg q3] at h
    exact h)
theorem mj_r_icmp_ge {x y : Int} {off : Int} {tgt : Nat} (hd : decode Y.2.2.1 pc = .ok (.if_icmp .ge off, 3)) (ht : (pc : Int) + off = (tgt : Int)) (hx : mj_i x) (hy : mj_i y) (k : mj_J g Y d kc ks (if x < y then pc + 3 else tgt, lv, st, M) Post) : mj_J g Y d kc ks (pc, lv, .inl y :: .inl x :: st, M) Post := by
  intro hG p e R s m args below meth c H ls locs cells slots hK
  have h := k hG p e R s m args below meth c H ls locs cells slots hK
  exact lv_icmp_ge hK.1.1 hK.1.2.1 hd ht (fun q => by
    have q2 : (Int32.ofInt y ≤ Int32.ofInt x) := q
    rw [mj_le hy hx] at q2
    have q3 : ¬ (x < y) := by omega
    simp only [if_neg q3] at h
    exact h)
    (fun q => by
    have q2 : ¬ (Int32.ofInt y ≤ Int32.ofInt x) := q
    rw [mj_le hy hx] at q2
    have q3 : (x < y) := by omega
    simp only [if_pos q3] at h
    exact h)
theorem mj_r_if_ge {x : Int} {off : Int} {tgt : Nat} (hd : decode Y.2.2.1 pc = .ok (.ifCond .ge off, 3)) (ht : (pc : Int) + off = (tgt : Int)) (hx : mj_i x) (k : mj_J g Y d kc ks (if x < 0 then pc + 3 else tgt, lv, st, M) Post) : mj_J g Y d kc ks (pc, lv, .inl x :: st, M) Post := by
  intro hG p e R s m args below meth c H ls locs cells slots hK
  have h := k hG p e R s m args below meth c H ls locs cells slots hK
  exact lv_if_ge hK.1.1 hK.1.2.1 hd ht (fun q => by
    have q2 : (Int32.ofInt 0 ≤ Int32.ofInt x) := q
    rw [mj_le mj_i0 hx] at q2
    have q3 : ¬ (x < 0) := by omega
    simp only [if_neg q3] at h
    exact h)
    (fun q => by
    have q2 : ¬ (Int32.ofInt 0 ≤ Int32.ofInt x) := q
    rw [mj_le mj_i0 hx] at q2
    have q3 : (x < 0) := by omega
    simp only [if_pos q3] at h
    exact h)
theorem mj_r_icmp_gt {x y : Int} {off : Int} {tgt : Nat} (hd : decode Y.2.2.1 pc = .ok (.if_icmp .gt off, 3)) (ht : (pc : Int) + off = (tgt : Int)) (hx : mj_i x) (hy : mj_i y) (k : mj_J g Y d kc ks (if y < x then tgt else pc + 3, lv, st, M) Post) : mj_J g Y d kc ks (pc, lv, .inl y :: .inl x :: st, M) Post := by
  intro hG p e R s m args below meth c H ls locs cells slots hK
  have h := k hG p e R s m args below meth c H ls locs cells slots hK
  exact lv_icmp_gt hK.1.1 hK.1.2.1 hd ht (fun q => by
    have q2 : (Int32.ofInt y < Int32.ofInt x) := q
    rw [mj_lt hy hx] at q2
    have q3 : (y < x) := by omega
    simp only [if_pos q3] at h
    exact h)
    (fun q => by
    have q2 : ¬ (Int32.ofInt y < Int32.ofInt x) := q
    rw [mj_lt hy hx] at q2
    have q3 : ¬ (y < x) := by omega
    simp only [if_neg q3] at h
    exact h)
theorem mj_r_if_gt {x : Int} {off : Int} {tgt : Nat} (hd : decode Y.2.2.1 pc = .ok (.ifCond .gt off, 3)) (ht : (pc : Int) + off = (tgt : Int)) (hx : mj_i x) (k : mj_J g Y d kc ks (if 0 < x then tgt else pc + 3, lv, st, M) Post) : mj_J g Y d kc ks (pc, lv, .inl x :: st, M) Post := by
  intro hG p e R s m args below meth c H ls locs cells slots hK
  have h := k hG p e R s m args below meth c H ls locs cells slots hK
  exact lv_if_gt hK.1.1 hK.1.2.1 hd ht (fun q => by
    have q2 : (Int32.ofInt 0 < Int32.ofInt x) := q
    rw [mj_lt mj_i0 hx] at q2
    have q3 : (0 < x) := by omega
    simp only [if_pos q3] at h
    exact h)
    (fun q => by
    have q2 : ¬ (Int32.ofInt 0 < Int32.ofInt x) := q
    rw [mj_lt mj_i0 hx] at q2
    have q3 : ¬ (0 < x) := by omega
    simp only [if_neg q3] at h
    exact h)
theorem mj_r_icmp_le {x y : Int} {off : Int} {tgt : Nat} (hd : decode Y.2.2.1 pc = .ok (.if_icmp .le off, 3)) (ht : (pc : Int) + off = (tgt : Int)) (hx : mj_i x) (hy : mj_i y) (k : mj_J g Y d kc ks (if y < x then pc + 3 else tgt, lv, st, M) Post) : mj_J g Y d kc ks (pc, lv, .inl y :: .inl x :: st, M) Post := by
  intro hG p e R s m args below meth c H ls locs cells slots hK
  have h := k hG p e R s m args below meth c H ls locs cells slots hK
  exact lv_icmp_le hK.1.1 hK.1.2.1 hd ht (fun q => by
    have q2 : (Int32.ofInt x ≤ Int32.ofInt y) := q
    rw [mj_le hx hy] at q2
    have q3 : ¬ (y < x) := by omega
    simp only [if_neg q3] at h
    exact h)
    (fun q => by
    have q2 : ¬ (Int32.ofInt x ≤ Int32.ofInt y) := q
    rw [mj_le hx hy] at q2
    have q3 : (y < x) := by omega
    simp only [if_pos q3] at h
    exact h)
theorem mj_r_if_le {x : Int} {off : Int} {tgt : Nat} (hd : decode Y.2.2.1 pc = .ok (.ifCond .le off, 3)) (ht : (pc : Int) + off = (tgt : Int)) (hx : mj_i x) (k : mj_J g Y d kc ks (if 0 < x then pc + 3 else tgt, lv, st, M) Post) : mj_J g Y d kc ks (pc, lv, .inl x :: st, M) Post := by
  intro hG p e R s m args below meth c H ls locs cells slots hK
  have h := k hG p e R s m args below meth c H ls locs cells slots hK
  exact lv_if_le hK.1.1 hK.1.2.1 hd ht (fun q => by
    have q2 : (Int32.ofInt x ≤ Int32.ofInt 0) := q
    rw [mj_le hx mj_i0] at q2
    have q3 : ¬ (0 < x) := by omega
    simp only [if_neg q3] at h
    exact h)
    (fun q => by
    have q2 : ¬ (Int32.ofInt x ≤ Int32.ofInt 0) := q
    rw [mj_le hx mj_i0] at q2
    have q3 : (0 < x) := by omega
    simp only [if_pos q3] at h
    exact h)
theorem mj_r_table {dflt lo hi : Int} {offs : Array Int} {len : Nat} {x : Int} {tg : Nat → Nat} {td : Nat} (hd : decode Y.2.2.1 pc = .ok (.tableswitch dflt lo hi offs, len)) (hx : mj_i x) (h1 : (pc : Int) + dflt = (td : Int)) (h2 : ∀ j : Nat, (j : Int) ≤ hi - lo → ∃ off, offs[j]? = some off ∧ (pc : Int) + off = (tg j : Int)) (k : mj_J g Y d kc ks (if x < lo ∨ hi < x then td else tg (x - lo).toNat, lv, st, M) Post) : mj_J g Y d kc ks (pc, lv, .inl x :: st, M) Post := by
  intro hG p e R s m args below meth c H ls locs cells slots hK
  have h := k hG p e R s m args below meth c H ls locs cells slots hK
  by_cases q : x < lo ∨ hi < x
  · simp only [if_pos q] at h
    exact lv_tableOut hK.1.1 hK.1.2.1 hd (by rw [mj_ti hx]; exact q) h1 h
  · simp only [if_neg q] at h
    obtain ⟨off, e1, e2⟩ := h2 (x - lo).toNat (by omega)
    exact lv_tableIn hK.1.1 hK.1.2.1 hd (by rw [mj_ti hx]; omega) (by rw [mj_ti hx]; omega) (by rw [mj_ti hx]; exact e1) e2 h
end MJ
end
section
/-! ===== the small machine's memory: fields and elements ===== -/
theorem mj_arr.to {s0 : State} {H : Heap} {a : Nat} {ty : FieldType} {n : Nat} {f f' : Nat → Value} (h : mj_arr s0 H a ty n f) (e : ∀ j, j < n → f j = f' j) : mj_arr s0 H a ty n f' := by
  obtain ⟨c, h1, h2, h3, h4, h5⟩ := h
  exact ⟨c, h1, h2, h3, h4, fun j hj => by rw [← e j hj]; exact h5 j hj⟩
theorem mj_arr_set {s0 : State} {H1 : Heap} {a : Nat} {ty : FieldType} {n i : Nat} {f : Nat → Value} {c : Cell} (v : Value) (ha : s0.isArrayOf c ty) (hv : c.vm = .none) (hs : c.slots.size = n) (hf : ∀ j, j < n → c.slots[j]? = some (f j)) (h1 : H1[a]? = some (c.setSlot i v)) :
    mj_arr s0 H1 a ty n (fun j => if j = i then v else f j) := by
  refine ⟨_, h1, ha, hv, by rw [k2_slotsz]; exact hs, fun j hj => ?_⟩
  by_cases e : j = i
  · subst e
    rw [Cell.slots_setSlot_self _ (by rw [hs]; exact hj)]
    simp
  · rw [slot_ne _ _ (Ne.symm e), hf j hj]
    simp [e]
def mj_up (f : Nat → Int) (i : Nat) (v : Int) : Nat → Int := fun j => if j = i then v else f j
def mj_up2 (f : Nat → Nat → Int) (i j : Nat) (v : Int) : Nat → Nat → Int := fun a b => if a = i ∧ b = j then v else f a b
section MJM
variable {g : mj_G} {Y : mj_Y} {d kc ks pc : Nat} {lv : mj_L} {st : List mj_V} {M : mj_M} {Post : mj_O → mj_M → Prop}
/-- the same standing with one cell changed -/
theorem mj_K.mem {p : Program} {R : Room} {s : State} {m : MethodId} {args : Array Value} {meth : Method} {c : Code} {H H1 : Heap} {ls : Array Slot} {locs L : List Loc} {cells slots p0 : Nat} {c0 c1 : mj_C} (hK : mj_K g Y d kc ks lv M p R s m args meth c H ls locs cells slots) (hp : M[p0]? = some c0) (hz : H1.size = H.size)
    (ho : ∀ A : Nat, (A < g.2.2.1.heap.size + mj_o p0 ∨ g.2.2.1.heap.size + mj_o (p0 + 1) ≤ A) → H1[A]? = H[A]?) (hc : mj_cell g.2.1 g.2.2.1 g.2.2.2.1 g.2.2.1.heap.size p0 H1 c1) (hL : ∀ q ∈ L, g.2.2.1.heap.size ≤ q.base) : mj_K g Y d kc ks lv (M.set p0 c1) p R s m args meth c H1 ls (locs ++ L) cells slots := by
  refine ⟨hK.1, hK.2.1, hK.2.2.1.set hp hz ho hc, fun q hq => ?_, hK.2.2.2.2.1, fun q hq => ?_⟩
  · rw [ho q (Or.inl (by omega))]
    exact hK.2.2.2.1 q hq
  · rcases List.mem_append.mp hq with h | h
    · exact hK.2.2.2.2.2 q h
    · exact hL q h
theorem mj_cls_at {ci : Nat} {q : String × List (String × String × Bool)} (h : mj_cf[ci]? = some q) : mj_cls[ci]? = some (mj_tb q) := by
  rw [mj_cls, List.getElem?_map, h]
  rfl
theorem mj_tb_at {C : String} {fl : List (String × String × Bool)} {k : Nat} {f : String × String × Bool} (h : fl[k]? = some f) : (mj_tb (C, fl)).2.1 k = (C, f.1, f.2.1, f.2.2) := by
  simp [mj_tb, List.getD, h]
theorem mj_in {ci : Nat} {q : String × List (String × String × Bool)} (h : mj_cf[ci]? = some q) : ∀ w ∈ u_ws q.1 (mj_tb q).2.1 q.2.length, w ∈ mj_tbl := by
  intro w hw
  have h1 := List.all_eq_true.mp mj_cf_in q (List.mem_of_getElem? h)
  obtain ⟨h2, h3⟩ := Bool.and_eq_true_iff.mp (List.all_eq_true.mp h1 w hw)
  exact List.mem_filter.mpr ⟨of_decide_eq_true h2, h3⟩
theorem mj_ty_at {ci : Nat} {q : String × List (String × String × Bool)} (h : mj_cf[ci]? = some q) : ∀ k, k < q.2.length → parseFieldDescriptor ((mj_tb q).2.1 k).2.2.1 = some ((parseFieldDescriptor ((mj_tb q).2.1 k).2.2.1).getD .int) := by
  intro k hk
  have h1 := List.all_eq_true.mp mj_cf_ty q (List.mem_of_getElem? h)
  have h2 := List.all_eq_true.mp h1 k (List.mem_range.mpr hk)
  cases e : parseFieldDescriptor ((mj_tb q).2.1 k).2.2.1 with
  | none => rw [e] at h2; cases h2
  | some t => rfl
theorem mj_nm_at {ci : Nat} {q : String × List (String × String × Bool)} (h : mj_cf[ci]? = some q) : ∀ a, a < q.2.length → ∀ b, b < q.2.length → a ≠ b → ((mj_tb q).2.1 a).2.1 ≠ ((mj_tb q).2.1 b).2.1 := by
  intro a ha b hb hab
  have h1 := List.all_eq_true.mp mj_cf_nm q (List.mem_of_getElem? h)
  have h2 := List.all_eq_true.mp (List.all_eq_true.mp h1 a (List.mem_range.mpr ha)) b (List.mem_range.mpr hb)
  have h3 := of_decide_eq_true h2
  exact h3 hab
/-- what a standing knows of a field of one of the classes -/
theorem mj_field {p : Program} {R : Room} {s : State} {m : MethodId} {args : Array Value} {meth : Method} {c : Code} {H : Heap} {ls : Array Slot} {locs : List Loc} {cells slots : Nat} (hG : mj_F g) (hK : mj_K g Y d kc ks lv M p R s m args meth c H ls locs cells slots)
    {ci k p0 : Nat} {C : String} {fl : List (String × String × Bool)} {fd : String × String × Bool} {fs : List mj_V} (hc : mj_cf[ci]? = some (C, fl)) (hf : fl[k]? = some fd) (hM : M[p0]? = some (.inr (.inr (ci, fs)))) :
    ∃ (cell : Cell) (cf : Nat) (kf : Class) (fi : Nat) (f : Field) (kC : Class), H[g.2.2.1.heap.size + mj_o p0]? = some cell ∧ cell.cls = g.2.1.1 ci ∧ cell.vm = .none ∧ (∀ j, j < fl.length → cell.slots[g.2.1.2 ci j]? = some (mj_tr g.2.2.2.1 g.2.2.1.heap.size (fs.getD j (.inl 0)))) ∧
      s.fieldFound? C fd.1 fd.2.1 = some (cf, kf, fi, f) ∧ f.slot = g.2.1.2 ci k ∧ f.isStatic = false ∧ s.vm.findClass C = some (g.2.1.1 ci) ∧ s.vm.classes[g.2.1.1 ci]? = some kC ∧ kC.kind = .ordinary ∧
      (∀ x y, x < fl.length → y < fl.length → x ≠ y → g.2.1.2 ci x ≠ g.2.1.2 ci y) ∧ (u_lay C (mj_tb (C, fl)).2.1 k).before args s = true := by
  have hcl := mj_cls_at hc
  have hk : k < fl.length := (List.getElem?_eq_some_iff.mp hf).1
  have hT := mj_tb_at (C := C) hf
  obtain ⟨r, hr, cell, q1, q2, q3, q4⟩ := hK.2.2.1.2 p0 _ hM
  have hr2 : r = mj_tb (C, fl) := Option.some.inj (hr.symm.trans hcl)
  subst hr2
  have hKs : va_K g.2.1 mj_cls [] s := hG.1.moved hK.1.2.2.2.2.2.2.2.2.1
  obtain ⟨hS, hfc, kC, hkC, hkind⟩ := hKs.1 ci _ hcl
  obtain ⟨cf, kf, fi, f, hi, hsl⟩ := hS k hk
  have hts := hK.1.2.2.2.2.1
  have hlay := u_lays (T := (mj_tb (C, fl)).2.1) hts (mj_in hc) hk
  rw [hT] at hi hlay
  refine ⟨cell, cf, kf, fi, f, kC, q1, q2, q3, q4, hi, hsl, (u_facts hfc hkC hlay hi).1, hfc, hkC, hkind, ?_, hts _ (mj_in hc _ (u_in_lay hk))⟩
  exact va_apart (own := Y.1) hts (mj_in hc) _ (mj_ty_at hc) (mj_nm_at hc) hKs hcl
theorem mj_r_getf {ci k idx p0 : Nat} {C nm ds : String} {fin : Bool} {fl : List (String × String × Bool)} {fs : List mj_V} {w : mj_V} (hd : decode Y.2.2.1 pc = .ok (.getfield idx, 3)) (hc : mj_cf[ci]? = some (C, fl)) (hf : fl[k]? = some (nm, ds, fin))
    (hw : Cond.fieldLink Y.1 idx C nm ds ∈ mj_tbl ∨ Cond.fieldLinkNest Y.1 idx C nm ds "ChartForest" ∈ mj_tbl) (hM : M[p0]? = some (.inr (.inr (ci, fs)))) (hv : fs[k]? = some w) (kk : mj_J g Y d kc ks (pc + 3, lv, w :: st, M) Post) : mj_J g Y d kc ks (pc, lv, .inr (.inr (.inl (some (p0, 0)))) :: st, M) Post := by
  intro hG p e R s m args below meth c H ls locs cells slots hK
  have h := kk hG p e R s m args below meth c H ls locs cells slots hK
  obtain ⟨cell, cf, kf, fi, f, kC, q1, q2, q3, q4, hi, hsl, hst, -⟩ := mj_field hG hK hc hf hM
  have hk : k < fl.length := (List.getElem?_eq_some_iff.mp hf).1
  have hv' : cell.slots[f.slot]? = some (mj_tr g.2.2.2.1 g.2.2.1.heap.size w) := by
    rw [hsl, q4 k hk]
    simp [List.getD, hv]
  rcases hw with hw | hw
  · exact W.getf hK.1.1 hK.1.2.1 hK.1.2.2.2.1 (hK.1.2.2.2.2.1 _ hw) hi hst q1 (by rw [q3]; exact fun h => by cases h) hv' rfl rfl hd h
  · exact va_Wgetf hK.1.1 hK.1.2.1 hK.1.2.2.2.1 (hK.1.2.2.2.2.1 _ hw) hi hst q1 (by rw [q3]; exact fun h => by cases h) hv' rfl rfl hd h
/-- a value that may stand in a field of this descriptor -/
def mj_fits (b z : Nat) (ds : String) (w : mj_V) : Prop := ∃ ty : FieldType, parseFieldDescriptor ds = some ty ∧ narrow ty (mj_tr b z w) = mj_tr b z w ∧ fits ty (mj_tr b z w) = true
theorem mj_obj_set {H1 : Heap} {p0 ci k : Nat} {C : String} {fl : List (String × String × Bool)} {fs : List mj_V} {cell : Cell} {f : Field} (w : mj_V) (hc : mj_cf[ci]? = some (C, fl)) (hk : k < fl.length) (hkl : k < fs.length) (hsl : f.slot = g.2.1.2 ci k) (q2 : cell.cls = g.2.1.1 ci) (q3 : cell.vm = .none)
    (q4 : ∀ j, j < fl.length → cell.slots[g.2.1.2 ci j]? = some (mj_tr g.2.2.2.1 g.2.2.1.heap.size (fs.getD j (.inl 0)))) (hap : ∀ x y, x < fl.length → y < fl.length → x ≠ y → g.2.1.2 ci x ≠ g.2.1.2 ci y)
    (h1 : H1[g.2.2.1.heap.size + mj_o p0]? = some (cell.setSlot f.slot (mj_tr g.2.2.2.1 g.2.2.1.heap.size w))) : mj_cell g.2.1 g.2.2.1 g.2.2.2.1 g.2.2.1.heap.size p0 H1 (.inr (.inr (ci, fs.set k w))) := by
  refine ⟨_, mj_cls_at hc, _, h1, q2, q3, fun j hj => ?_⟩
  rw [hsl, t_set q4 hap hk _ j hj, updV]
  by_cases e : j = k
  · subst e
    simp [List.getD, hkl]
  · simp [List.getD, e, List.getElem?_set_ne (Ne.symm e)]
theorem mj_r_putf {ci k idx p0 : Nat} {C nm ds : String} {fl : List (String × String × Bool)} {fs : List mj_V} {w : mj_V} (hd : decode Y.2.2.1 pc = .ok (.putfield idx, 3)) (hc : mj_cf[ci]? = some (C, fl)) (hf : fl[k]? = some (nm, ds, false))
    (hw : Cond.fieldLink Y.1 idx C nm ds ∈ mj_tbl ∨ Cond.fieldLinkNest Y.1 idx C nm ds "ChartForest" ∈ mj_tbl) (hM : M[p0]? = some (.inr (.inr (ci, fs)))) (hkl : k < fs.length) (hft : ∀ b z, mj_fits b z ds w) (kk : mj_J g Y d kc ks (pc + 3, lv, st, M.set p0 (.inr (.inr (ci, fs.set k w)))) Post) : mj_J g Y d kc ks (pc, lv, w :: .inr (.inr (.inl (some (p0, 0)))) :: st, M) Post := by
  intro hG p e R s m args below meth c H ls locs cells slots hK
  obtain ⟨cell, cf, kf, fi, f, kC, q1, q2, q3, q4, hi, hsl, hst, hfc, hkC, hkind, hap, hlay⟩ := mj_field hG hK hc hf hM
  have hk : k < fl.length := (List.getElem?_eq_some_iff.mp hf).1
  have hT := mj_tb_at (C := C) hf
  have hl : (Cond.lays C C nm ds).before args s = true := by
    unfold u_lay at hlay
    rw [hT] at hlay
    exact hlay
  obtain ⟨ty, t1, t2, t3⟩ := hft g.2.2.2.1 g.2.2.1.heap.size
  have hS := u_store hfc hkC hkind hl hi t1 t2 t3
  rw [← q2] at hS
  have hlt : f.slot < cell.slots.size := by
    rw [hsl]
    exact k2_hasslot (q4 k hk)
  have fin : ∀ H' : Heap, H'[g.2.2.1.heap.size + mj_o p0]? = some (cell.setSlot f.slot (mj_tr g.2.2.2.1 g.2.2.1.heap.size w)) → H'.size = H.size → (∀ q, q ≠ g.2.2.1.heap.size + mj_o p0 → H'[q]? = H[q]?) →
      W p g.1 e R s m args below meth c H' (locs ++ [⟨g.2.2.1.heap.size + mj_o p0, f.slot⟩]) cells slots (mj_Z g Post below s (cells + kc) (slots + ks)) (F0 m (pc + 3) ls (st.map (mj_tr g.2.2.2.1 g.2.2.1.heap.size))) := by
    intro H' h1 h2 h3
    refine kk hG p e R s m args below meth c H' ls _ cells slots (hK.mem hM h2 (fun A hA => h3 A (by have := mj_o_s p0; omega)) (mj_obj_set w hc hk hkl hsl q2 q3 q4 hap h1) (fun q hq => ?_))
    rw [List.mem_singleton.mp hq]
    exact Nat.le_add_right _ _
  rcases hw with hw | hw
  · exact W.putK hK.1.1 hK.1.2.1 ⟨hK.1.2.2.2.1, hK.1.2.2.2.2.1 _ hw, ⟨cf, kf, fi, hi⟩, hst⟩ hS q1 q3 hlt rfl rfl hd fin
  · exact va_WputK hK.1.1 hK.1.2.1 hK.1.2.2.2.1 (hK.1.2.2.2.2.1 _ hw) hi hst hS q1 q3 hlt rfl rfl hd fin
theorem mj_r_putF {ci k idx p0 : Nat} {nm ds : String} {fl : List (String × String × Bool)} {fs : List mj_V} {w : mj_V} (hd : decode Y.2.2.1 pc = .ok (.putfield idx, 3)) (hc : mj_cf[ci]? = some (Y.1, fl)) (hf : fl[k]? = some (nm, ds, true)) (hi0 : Y.2.1.name = "<init>")
    (hw : Cond.fieldLink Y.1 idx Y.1 nm ds ∈ mj_tbl) (hM : M[p0]? = some (.inr (.inr (ci, fs)))) (hkl : k < fs.length) (hft : ∀ b z, mj_fits b z ds w) (kk : mj_J g Y d kc ks (pc + 3, lv, st, M.set p0 (.inr (.inr (ci, fs.set k w)))) Post) : mj_J g Y d kc ks (pc, lv, w :: .inr (.inr (.inl (some (p0, 0)))) :: st, M) Post := by
  intro hG p e R s m args below meth c H ls locs cells slots hK
  obtain ⟨cell, cf, kf, fi, f, kC, q1, q2, q3, q4, hi, hsl, hst, hfc, hkC, hkind, hap, hlay⟩ := mj_field hG hK hc hf hM
  have hk : k < fl.length := (List.getElem?_eq_some_iff.mp hf).1
  have hT := mj_tb_at (C := Y.1) hf
  have hl : (Cond.laysFinal Y.1 Y.1 nm ds).before args s = true := by
    unfold u_lay at hlay
    rw [hT] at hlay
    exact hlay
  obtain ⟨ty, t1, t2, t3⟩ := hft g.2.2.2.1 g.2.2.1.heap.size
  have hS := u_fits hfc hkC hkind (Or.inr hl) hi t1 t2 t3
  rw [← q2] at hS
  have hlt : f.slot < cell.slots.size := by
    rw [hsl]
    exact k2_hasslot (q4 k hk)
  have hown := hK.1.2.2.2.1
  have hcf : m.cls = cf := by
    obtain ⟨_, _, c', _, _, _, -, -, hf', -, -, -, hown2, -⟩ := Cond.laysFinal_spec hl
    have e1 : c' = cf := by have := hi.symm.trans hf'; simp at this; exact this.1.symm
    rw [← e1]; exact Option.some.inj (hown.symm.trans hown2)
  refine W.putFinK hK.1.1 hK.1.2.1 hown (hK.1.2.2.2.2.1 _ hw) hi hst hcf (hK.1.2.2.2.2.2.2.2.1.trans hi0) hS q1 q3 hlt rfl rfl hd ?_
  intro H' h1 h2 h3
  refine kk hG p e R s m args below meth c H' ls _ cells slots (hK.mem hM h2 (fun A hA => h3 A (show (A : Nat) ≠ g.2.2.1.heap.size + mj_o p0 by have := mj_o_s p0; omega)) (mj_obj_set w hc hk hkl hsl q2 q3 q4 hap h1) (fun q hq => ?_))
  rw [List.mem_singleton.mp hq]
  exact Nat.le_add_right _ _
theorem mj_r_iald {p0 n : Nat} {f : Nat → Int} {x : Int} (hd : decode Y.2.2.1 pc = .ok (.iaload, 1)) (hM : M[p0]? = some (.inl (0, n, f))) (hx : mj_i x) (h0 : 0 ≤ x) (h1 : x < n) (kk : mj_J g Y d kc ks (pc + 1, lv, .inl (f x.toNat) :: st, M) Post) : mj_J g Y d kc ks (pc, lv, .inl x :: .inr (.inr (.inl (some (p0, 0)))) :: st, M) Post := by
  intro hG p e R s m args below meth c H ls locs cells slots hK
  have h := kk hG p e R s m args below meth c H ls locs cells slots hK
  obtain ⟨cell, q1, q2, q3, q4, q5⟩ := hK.2.2.1.2 p0 _ hM
  exact W.iald hK.1.1 hK.1.2.1 q1 (State.isArrayOf_alike hK.1.2.2.2.2.2.2.2.2.1 q2) (by rw [q3]; exact fun h => by cases h) (by rw [q4]; exact mj_in_ h0 h1 hx) (by rw [mj_cl hx]; exact q5 _ (by omega)) rfl rfl hd h
theorem mj_r_zald {p0 n : Nat} {f : Nat → Int} {x : Int} (hd : decode Y.2.2.1 pc = .ok (.baload, 1)) (hM : M[p0]? = some (.inl (1, n, f))) (hx : mj_i x) (h0 : 0 ≤ x) (h1 : x < n) (kk : mj_J g Y d kc ks (pc + 1, lv, .inl (f x.toNat) :: st, M) Post) : mj_J g Y d kc ks (pc, lv, .inl x :: .inr (.inr (.inl (some (p0, 0)))) :: st, M) Post := by
  intro hG p e R s m args below meth c H ls locs cells slots hK
  have h := kk hG p e R s m args below meth c H ls locs cells slots hK
  obtain ⟨cell, q1, q2, q3, q4, q5⟩ := hK.2.2.1.2 p0 _ hM
  exact W.zald hK.1.1 hK.1.2.1 q1 (State.isArrayOf_alike hK.1.2.2.2.2.2.2.2.2.1 q2) (by rw [q3]; exact fun h => by cases h) (by rw [q4]; exact mj_in_ h0 h1 hx) (by rw [mj_cl hx]; exact q5 _ (by omega)) rfl rfl hd h
theorem mj_r_lald {p0 n : Nat} {f : Nat → Int} {x : Int} (hd : decode Y.2.2.1 pc = .ok (.laload, 1)) (hM : M[p0]? = some (.inl (2, n, f))) (hx : mj_i x) (h0 : 0 ≤ x) (h1 : x < n) (kk : mj_J g Y d kc ks (pc + 1, lv, .inr (.inl (f x.toNat)) :: st, M) Post) : mj_J g Y d kc ks (pc, lv, .inl x :: .inr (.inr (.inl (some (p0, 0)))) :: st, M) Post := by
  intro hG p e R s m args below meth c H ls locs cells slots hK
  have h := kk hG p e R s m args below meth c H ls locs cells slots hK
  obtain ⟨cell, q1, q2, q3, q4, q5⟩ := hK.2.2.1.2 p0 _ hM
  exact W.lald hK.1.1 hK.1.2.1 q1 (State.isArrayOf_alike hK.1.2.2.2.2.2.2.2.2.1 q2) (by rw [q3]; exact fun h => by cases h) (by rw [q4]; exact mj_in_ h0 h1 hx) (by rw [mj_cl hx]; exact q5 _ (by omega)) rfl rfl hd h
theorem mj_r_aald {p0 n k0 : Nat} {f : Nat → Nat → Int} {x : Int} (hd : decode Y.2.2.1 pc = .ok (.aaload, 1)) (hM : M[p0]? = some (.inr (.inl (n, k0, f)))) (hx : mj_i x) (h0 : 0 ≤ x) (h1 : x < n) (kk : mj_J g Y d kc ks (pc + 1, lv, .inr (.inr (.inl (some (p0, x.toNat + 1)))) :: st, M) Post) : mj_J g Y d kc ks (pc, lv, .inl x :: .inr (.inr (.inl (some (p0, 0)))) :: st, M) Post := by
  intro hG p e R s m args below meth c H ls locs cells slots hK
  have h := kk hG p e R s m args below meth c H ls locs cells slots hK
  obtain ⟨-, ⟨cell, q1, q2, q3, q4, q5⟩, -⟩ := hK.2.2.1.2 p0 _ hM
  exact W.aald hK.1.1 hK.1.2.1 q1 (State.isArrayOf_alike hK.1.2.2.2.2.2.2.2.2.1 q2) rfl (by rw [q3]; exact fun h => by cases h) (by rw [q4]; exact mj_in_ h0 h1 hx) (by rw [mj_cl hx]; exact q5 _ (by omega)) rfl rfl hd h
theorem mj_r_gald {p0 n k0 r : Nat} {f : Nat → Nat → Int} {x : Int} (hd : decode Y.2.2.1 pc = .ok (.iaload, 1)) (hM : M[p0]? = some (.inr (.inl (n, k0, f)))) (hr : r < n) (hx : mj_i x) (h0 : 0 ≤ x) (h1 : x < k0) (kk : mj_J g Y d kc ks (pc + 1, lv, .inl (f r x.toNat) :: st, M) Post) : mj_J g Y d kc ks (pc, lv, .inl x :: .inr (.inr (.inl (some (p0, r + 1)))) :: st, M) Post := by
  intro hG p e R s m args below meth c H ls locs cells slots hK
  have h := kk hG p e R s m args below meth c H ls locs cells slots hK
  obtain ⟨-, -, hrow⟩ := hK.2.2.1.2 p0 _ hM
  obtain ⟨cell, q1, q2, q3, q4, q5⟩ := hrow r hr
  exact W.iald hK.1.1 hK.1.2.1 q1 (State.isArrayOf_alike hK.1.2.2.2.2.2.2.2.2.1 q2) (by rw [q3]; exact fun h => by cases h) (by rw [q4]; exact mj_in_ h0 h1 hx) (by rw [mj_cl hx]; exact q5 _ (by omega)) rfl rfl hd h
theorem mj_r_iast {p0 n : Nat} {f : Nat → Int} {x y : Int} (hd : decode Y.2.2.1 pc = .ok (.iastore, 1)) (hM : M[p0]? = some (.inl (0, n, f))) (hx : mj_i x) (h0 : 0 ≤ x) (h1 : x < n) (kk : mj_J g Y d kc ks (pc + 1, lv, st, M.set p0 (.inl (0, n, mj_up f x.toNat y))) Post) : mj_J g Y d kc ks (pc, lv, .inl y :: .inl x :: .inr (.inr (.inl (some (p0, 0)))) :: st, M) Post := by
  intro hG p e R s m args below meth c H ls locs cells slots hK
  obtain ⟨cell, q1, q2, q3, q4, q5⟩ := hK.2.2.1.2 p0 _ hM
  refine W.iast hK.1.1 hK.1.2.1 q1 (State.isArrayOf_alike hK.1.2.2.2.2.2.2.2.2.1 q2) (by rw [q3]; exact fun h => by cases h) (by rw [q4]; exact mj_in_ h0 h1 hx) rfl rfl hd ?_
  intro H' e1 e2 e3
  rw [mj_cl hx] at e1
  refine kk hG p e R s m args below meth c H' ls _ cells slots (hK.mem hM e2 (fun A hA => e3 A (show (A : Nat) ≠ g.2.2.1.heap.size + mj_o p0 by have := mj_o_s p0; omega)) ?_ (fun q hq => ?_))
  · refine mj_arr.to (mj_arr_set _ q2 q3 q4 q5 e1) fun j hj => ?_
    unfold mj_up
    by_cases e : j = x.toNat
    · simp [e, mj_num]
    · simp [e]
  · rw [List.mem_singleton.mp hq]
    exact Nat.le_add_right _ _
theorem mj_nb {y : Int} (h : y = 0 ∨ y = 1) : narrow .boolean (.int (Int32.ofInt y)) = .int (Int32.ofInt y) := by
  rcases h with rfl | rfl <;> rfl
theorem mj_r_zast {p0 n : Nat} {f : Nat → Int} {x y : Int} (hd : decode Y.2.2.1 pc = .ok (.bastore, 1)) (hM : M[p0]? = some (.inl (1, n, f))) (hx : mj_i x) (h0 : 0 ≤ x) (h1 : x < n) (hy : y = 0 ∨ y = 1) (kk : mj_J g Y d kc ks (pc + 1, lv, st, M.set p0 (.inl (1, n, mj_up f x.toNat y))) Post) : mj_J g Y d kc ks (pc, lv, .inl y :: .inl x :: .inr (.inr (.inl (some (p0, 0)))) :: st, M) Post := by
  intro hG p e R s m args below meth c H ls locs cells slots hK
  obtain ⟨cell, q1, q2, q3, q4, q5⟩ := hK.2.2.1.2 p0 _ hM
  refine W.zast hK.1.1 hK.1.2.1 q1 (State.isArrayOf_alike hK.1.2.2.2.2.2.2.2.2.1 q2) (by rw [q3]; exact fun h => by cases h) (by rw [q4]; exact mj_in_ h0 h1 hx) rfl rfl hd ?_
  intro H' e1 e2 e3
  rw [mj_cl hx, mj_nb hy] at e1
  refine kk hG p e R s m args below meth c H' ls _ cells slots (hK.mem hM e2 (fun A hA => e3 A (show (A : Nat) ≠ g.2.2.1.heap.size + mj_o p0 by have := mj_o_s p0; omega)) ?_ (fun q hq => ?_))
  · refine mj_arr.to (mj_arr_set _ q2 q3 q4 q5 e1) fun j hj => ?_
    unfold mj_up
    by_cases e : j = x.toNat
    · simp [e, mj_num]
    · simp [e]
  · rw [List.mem_singleton.mp hq]
    exact Nat.le_add_right _ _
theorem mj_r_last {p0 n : Nat} {f : Nat → Int} {x y : Int} (hd : decode Y.2.2.1 pc = .ok (.lastore, 1)) (hM : M[p0]? = some (.inl (2, n, f))) (hx : mj_i x) (h0 : 0 ≤ x) (h1 : x < n) (kk : mj_J g Y d kc ks (pc + 1, lv, st, M.set p0 (.inl (2, n, mj_up f x.toNat y))) Post) : mj_J g Y d kc ks (pc, lv, .inr (.inl y) :: .inl x :: .inr (.inr (.inl (some (p0, 0)))) :: st, M) Post := by
  intro hG p e R s m args below meth c H ls locs cells slots hK
  obtain ⟨cell, q1, q2, q3, q4, q5⟩ := hK.2.2.1.2 p0 _ hM
  refine W.last hK.1.1 hK.1.2.1 q1 (State.isArrayOf_alike hK.1.2.2.2.2.2.2.2.2.1 q2) (by rw [q3]; exact fun h => by cases h) (by rw [q4]; exact mj_in_ h0 h1 hx) rfl rfl hd ?_
  intro H' e1 e2 e3
  rw [mj_cl hx] at e1
  refine kk hG p e R s m args below meth c H' ls _ cells slots (hK.mem hM e2 (fun A hA => e3 A (show (A : Nat) ≠ g.2.2.1.heap.size + mj_o p0 by have := mj_o_s p0; omega)) ?_ (fun q hq => ?_))
  · refine mj_arr.to (mj_arr_set _ q2 q3 q4 q5 e1) fun j hj => ?_
    unfold mj_up
    by_cases e : j = x.toNat
    · simp [e, mj_num]
    · simp [e]
  · rw [List.mem_singleton.mp hq]
    exact Nat.le_add_right _ _
theorem mj_r_gast {p0 n k0 r : Nat} {f : Nat → Nat → Int} {x y : Int} (hd : decode Y.2.2.1 pc = .ok (.iastore, 1)) (hM : M[p0]? = some (.inr (.inl (n, k0, f)))) (hr : r < n) (hx : mj_i x) (h0 : 0 ≤ x) (h1 : x < k0) (kk : mj_J g Y d kc ks (pc + 1, lv, st, M.set p0 (.inr (.inl (n, k0, mj_up2 f r x.toNat y)))) Post) : mj_J g Y d kc ks (pc, lv, .inl y :: .inl x :: .inr (.inr (.inl (some (p0, r + 1)))) :: st, M) Post := by
  intro hG p e R s m args below meth c H ls locs cells slots hK
  obtain ⟨hsz, hhd, hrow⟩ := hK.2.2.1.2 p0 _ hM
  obtain ⟨cell, q1, q2, q3, q4, q5⟩ := hrow r hr
  refine W.iast hK.1.1 hK.1.2.1 q1 (State.isArrayOf_alike hK.1.2.2.2.2.2.2.2.2.1 q2) (by rw [q3]; exact fun h => by cases h) (by rw [q4]; exact mj_in_ h0 h1 hx) rfl rfl hd ?_
  intro H' e1 e2 e3
  rw [mj_cl hx] at e1
  refine kk hG p e R s m args below meth c H' ls _ cells slots (hK.mem hM e2 (fun A hA => e3 A (show (A : Nat) ≠ g.2.2.1.heap.size + mj_o p0 + (r + 1) by have := mj_o_s p0; omega)) ⟨hsz, hhd.kept (e3 (g.2.2.1.heap.size + mj_o p0) (show (g.2.2.1.heap.size + mj_o p0 : Nat) ≠ g.2.2.1.heap.size + mj_o p0 + (r + 1) by omega)), fun i hi => ?_⟩ (fun q hq => ?_))
  · by_cases e : i = r
    · subst e
      refine mj_arr.to (mj_arr_set _ q2 q3 q4 q5 e1) fun j hj => ?_
      unfold mj_up2
      by_cases e : j = x.toNat
      · simp [e]
      · simp [e]
    · refine mj_arr.to ((hrow i hi).kept (e3 (g.2.2.1.heap.size + mj_o p0 + (i + 1)) (show (g.2.2.1.heap.size + mj_o p0 + (i + 1) : Nat) ≠ g.2.2.1.heap.size + mj_o p0 + (r + 1) by omega))) fun j hj => ?_
      unfold mj_up2
      simp [e]
  · rw [List.mem_singleton.mp hq]
    show _ ≤ _ + _ + _
    omega
theorem mj_len {n : Nat} (h : n < 2147483648) : n.toInt32 = Int32.ofInt (n : Int) := by
  rw [← Int32.toInt_inj, mj_ti ⟨by omega, by omega⟩]
  exact Int32.toInt_ofNat_of_lt h
theorem mj_r_alen {p0 n k0 : Nat} {f : Nat → Int} (hd : decode Y.2.2.1 pc = .ok (.arraylength, 1)) (hM : M[p0]? = some (.inl (k0, n, f))) (hn : n < 2147483648) (kk : mj_J g Y d kc ks (pc + 1, lv, .inl (n : Int) :: st, M) Post) : mj_J g Y d kc ks (pc, lv, .inr (.inr (.inl (some (p0, 0)))) :: st, M) Post := by
  intro hG p e R s m args below meth c H ls locs cells slots hK
  have h := kk hG p e R s m args below meth c H ls locs cells slots hK
  obtain ⟨cell, q1, q2, q3, q4, q5⟩ := hK.2.2.1.2 p0 _ hM
  exact W.alen hK.1.1 hK.1.2.1 q1 (State.isArrayOf_alike hK.1.2.2.2.2.2.2.2.2.1 q2) (by rw [q4]; exact mj_len hn) rfl rfl hd h
theorem mj_r_slen {u : Unit} (hd : decode Y.2.2.1 pc = .ok (.arraylength, 1)) (kk : mj_J g Y d kc ks (pc + 1, lv, .inl (g.2.2.2.2.1 : Int) :: st, M) Post) : mj_J g Y d kc ks (pc, lv, .inr (.inr (.inr u)) :: st, M) Post := by
  intro hG p e R s m args below meth c H ls locs cells slots hK
  have h := kk hG p e R s m args below meth c H ls locs cells slots hK
  obtain ⟨-, ⟨scr, q1, q2, q3, q4, q5⟩, hb, hl, -⟩ := hG
  exact W.alen hK.1.1 hK.1.2.1 (by rw [hK.2.2.2.1 _ hb]; exact q1) (State.isArrayOf_alike hK.1.2.2.2.2.2.2.2.2.1 q2) (by rw [q4]; exact mj_len (by omega)) rfl rfl hd h
theorem mj_r_sald {u : Unit} {x : Int} (hd : decode Y.2.2.1 pc = .ok (.iaload, 1)) (hx : mj_i x) (h0 : 0 ≤ x) (h1 : x < g.2.2.2.2.1) (kk : mj_J g Y d kc ks (pc + 1, lv, .inl (g.2.2.2.2.2 x.toNat).toInt :: st, M) Post) : mj_J g Y d kc ks (pc, lv, .inl x :: .inr (.inr (.inr u)) :: st, M) Post := by
  intro hG p e R s m args below meth c H ls locs cells slots hK
  have h := kk hG p e R s m args below meth c H ls locs cells slots hK
  obtain ⟨-, ⟨scr, q1, q2, q3, q4, q5⟩, hb, hl, -⟩ := hG
  refine W.iald (v := .int (g.2.2.2.2.2 x.toNat)) hK.1.1 hK.1.2.1 (by rw [hK.2.2.2.1 _ hb]; exact q1) (State.isArrayOf_alike hK.1.2.2.2.2.2.2.2.2.1 q2) q3 (by rw [q4]; exact mj_in_ h0 h1 hx) (by rw [mj_cl hx]; exact q5 _ (by omega)) rfl rfl hd ?_
  have e1 : Value.int (g.2.2.2.2.2 x.toNat) = mj_tr g.2.2.2.1 g.2.2.1.heap.size (.inl (g.2.2.2.2.2 x.toNat).toInt) := by
    show _ = Value.int (Int32.ofInt _)
    rw [Int32.ofInt_toInt]
  rw [e1]
  exact h
end MJM
end
section
/-! ===== the small machine: ends and calls ===== -/
theorem mj_mono {p : Program} {l : Launch} {e : Env} {R : Room} {s : State} {m : MethodId} {args : Array Value} {below : List Frame} {meth : Method} {c : Code} {H : Heap} {locs : List Loc} {cells slots : Nat} {Q Q' : State → Prop} {g : JFrame} (h : ∀ t, Q t → Q' t) (k : W p l e R s m args below meth c H locs cells slots Q g) : W p l e R s m args below meth c H locs cells slots Q' g := by
  intro T hT X
  obtain ⟨t, a, b⟩ := k T hT X
  exact ⟨t, a, h t b⟩
theorem mj_MQ_Z {g : mj_G} {Post : mj_O → mj_M → Prop} {below : List Frame} {s : State} {args : Array Value} {kc ks : Nat} {t : State} (h : MQ below (fun _ _ o t => mj_Q g Post o t) args s kc ks (fun q => g.2.2.1.heap.size ≤ q) t) : mj_Z g Post below s kc ks t := by
  obtain ⟨o, h1, h2, h3, L, ⟨-, h4, h5⟩, h6⟩ := h
  exact ⟨o, h1, h2, h3, h4, L, h5, h6⟩
section MJE
variable {g : mj_G} {Y : mj_Y} {d kc ks pc : Nat} {lv : mj_L} {st : List mj_V} {M : mj_M} {Post : mj_O → mj_M → Prop}
theorem mj_Q_of {p : Program} {R : Room} {s : State} {m : MethodId} {args : Array Value} {meth : Method} {c : Code} {H : Heap} {ls : Array Slot} {locs : List Loc} {cells slots : Nat} (hK : mj_K g Y d kc ks lv M p R s m args meth c H ls locs cells slots) {v : Option mj_V} (hp : Post (.inl v) M) {t : State} (ht : t.heap = H) : mj_Q g Post (.returned (v.map (mj_tr g.2.2.2.1 g.2.2.1.heap.size))) t :=
  ⟨.inl v, M, hp, rfl, by rw [ht]; exact hK.2.2.1, fun q hq => by rw [ht]; exact hK.2.2.2.1 q hq⟩
theorem mj_r_iret {x : Int} (hd : decode Y.2.2.1 pc = .ok (.ireturn, 1)) (hr : Y.2.2.2.2 = some .int) (hp : Post (.inl (some (.inl x))) M) : mj_J g Y d kc ks (pc, lv, [.inl x], M) Post := by
  intro hG p e R s m args below meth c H ls locs cells slots hK
  refine W.widen (k := cells + kc) (n := slots + ks) (Nat.le_add_right _ _) (Nat.le_add_right _ _) (mj_mono (fun t h => mj_MQ_Z (args := args) h) ?_)
  exact W.iret hK.1.1 hK.1.2.1 (hK.1.2.2.2.2.2.2.1.trans hr) (fun t ht _ => mj_Q_of (v := some (.inl x)) hK hp ht) hK.2.2.2.2.2 hd hK.1.2.2.2.2.2.1
theorem mj_r_zret {x : Int} (hd : decode Y.2.2.1 pc = .ok (.ireturn, 1)) (hr : Y.2.2.2.2 = some .boolean) (hx : x = 0 ∨ x = 1) (hp : Post (.inl (some (.inl x))) M) : mj_J g Y d kc ks (pc, lv, [.inl x], M) Post := by
  intro hG p e R s m args below meth c H ls locs cells slots hK
  refine W.widen (k := cells + kc) (n := slots + ks) (Nat.le_add_right _ _) (Nat.le_add_right _ _) (mj_mono (fun t h => mj_MQ_Z (args := args) h) ?_)
  exact W.zret hK.1.1 hK.1.2.1 (hK.1.2.2.2.2.2.2.1.trans hr) (mj_nb hx) (fun t ht _ => mj_Q_of (v := some (.inl x)) hK hp ht) hK.2.2.2.2.2 hd hK.1.2.2.2.2.2.1
theorem mj_r_lret {x : Int} (hd : decode Y.2.2.1 pc = .ok (.lreturn, 1)) (hr : Y.2.2.2.2 = some .long) (hp : Post (.inl (some (.inr (.inl x)))) M) : mj_J g Y d kc ks (pc, lv, [.inr (.inl x)], M) Post := by
  intro hG p e R s m args below meth c H ls locs cells slots hK
  refine W.widen (k := cells + kc) (n := slots + ks) (Nat.le_add_right _ _) (Nat.le_add_right _ _) (mj_mono (fun t h => mj_MQ_Z (args := args) h) ?_)
  exact W.lret hK.1.1 hK.1.2.1 (hK.1.2.2.2.2.2.2.1.trans hr) (fun t ht _ => mj_Q_of (v := some (.inr (.inl x))) hK hp ht) hK.2.2.2.2.2 hd hK.1.2.2.2.2.2.1
theorem mj_r_vret (hd : decode Y.2.2.1 pc = .ok (.return_, 1)) (hr : Y.2.2.2.2 = none) (hp : Post (.inl none) M) : mj_J g Y d kc ks (pc, lv, [], M) Post := by
  intro hG p e R s m args below meth c H ls locs cells slots hK
  refine W.widen (k := cells + kc) (n := slots + ks) (Nat.le_add_right _ _) (Nat.le_add_right _ _) (mj_mono (fun t h => mj_MQ_Z (args := args) h) ?_)
  exact W.vret hK.1.1 hK.1.2.1 (hK.1.2.2.2.2.2.2.1.trans hr) (fun t ht _ => mj_Q_of (v := none) hK hp ht) hK.2.2.2.2.2 hd hK.1.2.2.2.2.2.1
/-- fewer known locals -/
theorem mj_r_less {lv' : mj_L} (hl : lv'.length = lv.length) (h : ∀ (i : Nat) (w : mj_V), lv'[i]? = some (some w) → lv[i]? = some (some w)) (k : mj_J g Y d kc ks (pc, lv', st, M) Post) : mj_J g Y d kc ks (pc, lv, st, M) Post := by
  intro hG p e R s m args below meth c H ls locs cells slots hK
  have h1 := hK.2.2.2.2.1.1
  exact k hG p e R s m args below meth c H ls locs cells slots (hK.loc ⟨h1.1.trans hl.symm, h1.2.1, fun i w hw => h1.2.2 i w (h i w hw)⟩ hl)
theorem mj_J.weaken {S : mj_S} {Post' : mj_O → mj_M → Prop} (h : ∀ o M, Post' o M → Post o M) (k : mj_J g Y d kc ks S Post') : mj_J g Y d kc ks S Post := by
  intro hG p e R s m args below meth c H ls locs cells slots hK
  refine mj_mono ?_ (k hG p e R s m args below meth c H ls locs cells slots hK)
  rintro t ⟨o, h1, h2, ⟨r, M', h3, h4⟩, h5⟩
  exact ⟨o, h1, h2, ⟨r, M', h _ _ h3, h4⟩, h5⟩
end MJE
/-! ===== the words travel ===== -/
theorem mj_warm {w : Cond} (hw : w ∈ mj_tbl) {args a' : Array Value} {s U : State} (hb : w.before args s = true) (hW : s.WarmedH U.vm) : w.before a' U = true := by
  have h := (List.mem_filter.mp hw).2
  unfold mj_gw at h
  rcases Bool.or_eq_true_iff.mp h with h1 | h1
  · exact word_at hW (good_of_word h1) hb
  · rcases Bool.or_eq_true_iff.mp h1 with h2 | h2
    · obtain ⟨h3, h4⟩ := Bool.and_eq_true_iff.mp h2
      have h5 := Cond.faceAtom_setVm (args := args) hW.alike w h3 hb
      have h6 := Cond.onTables_vm (A := args) (A' := a') (U := s) (U' := U) U.vm w h4
      rw [h6] at h5
      exact h5
    · split at h2
      · exact va_Nw.use rfl (va_Nw.warmF hW (va_Nw.of rfl hb))
      · exact va_Nw.use rfl (va_Nw.warmM hW (va_Nw.of rfl hb))
      · exact over_moved hW.alike hb
      · cases h2
/-! ===== a method's entry ===== -/
def mj_e1 (vs : List mj_V) : mj_L := vs.flatMap fun w => if mj_cat w = 2 then [some w, none] else [some w]
def mj_ent (vs : List mj_V) (n : Nat) : mj_L := mj_e1 vs ++ List.replicate (n - (mj_e1 vs).length) none
def mj_ps (b z : Nat) : Option mj_V → Slot
  | some w => .val (mj_tr b z w)
  | none => .second
theorem mj_sl (b z : Nat) (vs : List mj_V) : lg_sl (vs.map (mj_tr b z)) = (mj_e1 vs).map (mj_ps b z) := by
  induction vs with
  | nil => rfl
  | cons w vs ih =>
    simp only [lg_sl, mj_e1, List.map_cons, List.flatMap_cons, List.map_append, mj_tr_cat] at ih ⊢
    rw [ih]
    congr 1
    split <;> rfl
theorem mj_ent_ls {b z n : Nat} {vs : List mj_V} (h : (mj_e1 vs).length ≤ n) : mj_ls b z ((lg_sl (vs.map (mj_tr b z)) ++ List.replicate (n - (lg_sl (vs.map (mj_tr b z))).length) Slot.unset).toArray) (mj_ent vs n) := by
  have h0 : (lg_sl (vs.map (mj_tr b z))).length ≤ n := by rw [mj_sl, List.length_map]; exact h
  have h1 := lv_entry (vs.map (mj_tr b z)) h0
  refine ⟨?_, h1.2.1, fun i w hw => ?_⟩
  · rw [h1.1, mj_ent, List.length_append, List.length_replicate]
    omega
  · unfold mj_ent at hw
    rw [List.getElem?_append] at hw
    rw [mj_sl]
    simp only [List.getElem?_toArray]
    split at hw
    · rename_i hi
      rw [List.getElem?_append_left (by rw [List.length_map]; exact hi), List.getElem?_map, hw]
      rfl
    · rw [List.getElem?_replicate] at hw
      split at hw <;> cases hw
def mj_ws (Y : mj_Y) : List Cond := Cond.code Y.2.1 Y.2.2.1 Y.2.2.2.1 Y.2.2.2.2 :: mj_tbl
def mj_Pc (g : mj_G) (M : mj_M) (vs : List mj_V) : Array Value → State → Prop := fun a U =>
  a = (vs.map (mj_tr g.2.2.2.1 g.2.2.1.heap.size)).toArray ∧ g.2.2.1.vm.Alike U.vm ∧ g.2.2.1.heap.size ≤ U.heap.size ∧ mj_W g.2.1 g.2.2.1 g.2.2.2.1 M U.heap ∧ ∀ q, q < g.2.2.1.heap.size → U.heap[q]? = g.2.2.1.heap[q]?
theorem mj_Pc_blind (g : mj_G) (M : mj_M) (vs : List mj_V) : FrameBlind (mj_Pc g M vs) := fun a U f mk h => h
def mj_rm (d kc ks : Nat) : Room := { frames := d, cells := kc, slots := ks, locals := 40 * d }
section MJC
variable {g : mj_G} {Y Y' : mj_Y} {d kc ks pc : Nat} {lv : mj_L} {st : List mj_V} {M : mj_M} {Post : mj_O → mj_M → Prop}
theorem mj_met (hG : mj_F g) {vs : List mj_V} (hY : Y.2.1.cls = Y.1) (hpl : plainName Y.1 = true) (hn : (mj_e1 vs).length ≤ Y.2.2.2.1) (k : mj_J g Y d kc ks (0, mj_ent vs Y.2.2.2.1, [], M) Post) (hnt : ∀ q M', ¬ Post (.inr q) M') :
    Met g.1 Y.2.1 (mj_ws Y) (mj_rm d kc ks) (mj_Pc g M vs) (fun _ _ o t => mj_Q g Post o t) kc ks (fun q => g.2.2.1.heap.size ≤ q) := by
  refine Met.ofW (cc := Y.2.2.1) (maxL := Y.2.2.2.1) (ret := Y.2.2.2.2) (by rw [hY]; exact hpl) rfl ?_
  intro p e s m args below meth c s₁ B hml hv
  obtain ⟨ha, hal, hsz, hW, hold⟩ := hv
  have hts := atoms_spec (ws := mj_ws Y) B.pre
  have hown : s.vm.findClass Y.1 = some m.cls := by rw [← hY]; exact findClass_of_methodNamed B.named
  have hin := (name_of_methodNamed B.named B.method).1
  have hx := B.exec
  have hb := B.bytes
  have hr := B.returns
  have hlk := B.notSynchronized
  have hnd := B.named
  clear B
  subst ha
  rw [lg_entry_eq]
  have hK : mj_K g Y d kc ks (mj_ent vs Y.2.2.2.1) M p (mj_rm d kc ks) s m (vs.map (mj_tr g.2.2.2.1 g.2.2.1.heap.size)).toArray meth c s.heap _ [] 0 0 :=
    ⟨⟨hx, hb, hml, hown, fun w hw => hts w (List.mem_cons_of_mem _ hw), hlk, hr, hin, hal, hsz, hnd⟩, ⟨Nat.le_refl _, Nat.le_refl _, by rw [Nat.zero_add]; exact Nat.le_refl _, by rw [Nat.zero_add]; exact Nat.le_refl _⟩, hW, hold, ⟨mj_ent_ls hn, by
      rw [mj_ent, List.length_append, List.length_replicate]
      omega⟩, fun q hq => by cases hq⟩
  refine mj_mono ?_ (k hG p e _ s m _ below meth c s.heap _ [] 0 0 hK)
  rintro t ⟨o, h1, h2, h3, h4, L, h5, h6⟩
  refine ⟨o, h1, h2, h3, L, ⟨?_, h4, ?_⟩, h6⟩
  · obtain ⟨r, M', hp, hm, -⟩ := h3
    cases r with
    | inl v => exact ⟨_, hm⟩
    | inr q => exact absurd hp (hnt _ _)
  · rw [Nat.zero_add, Nat.zero_add] at h5
    exact h5
/-- behind a call -/
theorem mj_after {kc' ks' kc2 ks2 : Nat} {Post' : mj_O → mj_M → Prop} (hG : mj_F g) {p : Program} {e : Env} {R : Room} {s : State} {m : MethodId} {args : Array Value} {below : List Frame} {meth : Method} {c : Code} {H : Heap} {ls : Array Slot} {locs : List Loc} {cells slots : Nat} {top : List Value}
    (hK : mj_K g Y d (kc' + kc2) (ks' + ks2) lv M p R s m args meth c H ls locs cells slots) (run : va_Run p g.1 e R s m args below meth c H locs cells slots kc' ks' (F0 m pc ls top) (st.map (mj_tr g.2.2.2.1 g.2.2.1.heap.size)) (fun _ o t => mj_Q g Post' o t) (fun q => g.2.2.1.heap.size ≤ q))
    (hP : ∀ r M1, Post' r M1 → ∃ v, r = .inl v ∧ mj_J g Y d kc2 ks2 (pc + 3, lv, v.toList ++ st, M1) Post) : W p g.1 e R s m args below meth c H locs cells slots (mj_Z g Post below s (cells + (kc' + kc2)) (slots + (ks' + ks2))) (F0 m pc ls top) := by
  intro T hT X
  obtain ⟨v, st₀, t, T', L, h0, X', hL, e1, e2, ⟨r, M1, hp, hm, hw1, hold⟩, stp⟩ := run T hT X
  obtain ⟨v', rfl, hJ⟩ := hP r M1 hp
  have hv : v = v'.map (mj_tr g.2.2.2.1 g.2.2.1.heap.size) := Outcome.returned.inj hm
  subst hv
  have hK' : mj_K g Y d kc2 ks2 lv M1 p R s m args meth c T'.heap ls (locs ++ L) (cells + kc') (slots + ks') :=
    ⟨hK.1, ⟨hK.2.1.1, hK.2.1.2.1, by have := hK.2.1.2.2.1; omega, by have := hK.2.1.2.2.2; omega⟩, by rw [e1]; exact hw1, fun q hq => by rw [e1]; exact hold q hq, hK.2.2.2.2.1, fun q hq => (List.mem_append.mp hq).elim (hK.2.2.2.2.2 q) (hL q)⟩
  obtain ⟨t2, a1, b1⟩ := hJ hG p e R s m args below meth c T'.heap ls _ _ _ hK' T' rfl X'
  refine ⟨t2, stp t2 ?_, ?_⟩
  · have e3 : (v'.toList ++ st).map (mj_tr g.2.2.2.1 g.2.2.1.heap.size) = (v'.map (mj_tr g.2.2.2.1 g.2.2.1.heap.size)).toList ++ st.map (mj_tr g.2.2.2.1 g.2.2.1.heap.size) := by cases v' <;> rfl
    rw [← e3]
    exact a1
  · rw [← Nat.add_assoc, ← Nat.add_assoc]
    exact b1
/-- what is known of a method that is called -/
def mj_yk (Y : mj_Y) (n : Nat) : Prop := Cond.code Y.2.1 Y.2.2.1 Y.2.2.2.1 Y.2.2.2.2 ∈ mj_tbl ∧ Cond.initialized Y.1 ∈ mj_tbl ∧ (Y.2.1.cls = Y.1 ∧ plainName Y.1 = true ∧ Y.1 ≠ "java/lang/invoke/MethodHandle" ∧ Y.1 ≠ "java/lang/invoke/VarHandle") ∧ Y.2.2.2.1 ≤ 21 ∧ (parseMethodDescriptor Y.2.1.desc).map (fun q => q.parameters.length) = some n
theorem mj_room {d' kc' ks' kc2 ks2 : Nat} {p : Program} {R : Room} {s : State} {m : MethodId} {args : Array Value} {meth : Method} {c : Code} {H : Heap} {ls : Array Slot} {locs : List Loc} {cells slots n : Nat} (hK : mj_K g Y (d' + 1) (kc' + kc2) (ks' + ks2) lv M p R s m args meth c H ls locs cells slots) (hy : mj_yk Y' n) :
    ((mj_rm d' kc' ks').cells = kc' ∧ (mj_rm d' kc' ks').slots = ks' ∧ (mj_rm d' kc' ks').frames + 1 ≤ R.frames ∧ 8 + (Y'.2.2.2.1 + 11) + (mj_rm d' kc' ks').locals ≤ R.locals ∧ (∀ w ∈ mj_ws Y', ∀ (a' : Array Value) (U : State), s.WarmedH U.vm → w.before a' U = true) ∧ Cond.code Y'.2.1 Y'.2.2.1 Y'.2.2.2.1 Y'.2.2.2.2 ∈ mj_ws Y') ∧
      (Cond.code Y'.2.1 Y'.2.2.1 Y'.2.2.2.1 Y'.2.2.2.2).before args s = true ∧ (Cond.initialized Y'.2.1.cls).before args s = true ∧ (Y'.2.1.cls ≠ "java/lang/invoke/MethodHandle" ∧ Y'.2.1.cls ≠ "java/lang/invoke/VarHandle") ∧ (∀ sig, parseMethodDescriptor Y'.2.1.desc = some sig → n = sig.parameters.length) := by
  obtain ⟨h1, h2, ⟨h3, h4, h5, h6⟩, h7, h8⟩ := hy
  have hts := hK.1.2.2.2.2.1
  have hr := hK.2.1
  refine ⟨⟨rfl, rfl, hr.1, ?_, ?_, List.mem_cons_self⟩, hts _ h1, ?_, ⟨?_, ?_⟩, ?_⟩
  · have h9 := hr.2.1
    show 8 + (Y'.2.2.2.1 + 11) + 40 * d' ≤ R.locals
    omega
  · intro w hw a' U hU
    rcases List.mem_cons.mp hw with rfl | hw
    · exact mj_warm h1 (hts _ h1) hU
    · exact mj_warm hw (hts _ hw) hU
  · rw [h3]; exact hts _ h2
  · rw [h3]; exact h5
  · rw [h3]; exact h6
  · intro sig h
    rw [h] at h8
    exact (Option.some.inj h8).symm
theorem mj_pre {p : Program} {R : Room} {s : State} {m : MethodId} {args : Array Value} {meth : Method} {c : Code} {H : Heap} {ls : Array Slot} {locs : List Loc} {cells slots : Nat} (hK : mj_K g Y d kc ks lv M p R s m args meth c H ls locs cells slots) (vs : List mj_V) (hz : g.2.2.1.heap.size ≤ H.size) :
    ∀ U : State, U.heap = H → s.WarmedH U.vm → mj_Pc g M vs (vs.map (mj_tr g.2.2.2.1 g.2.2.1.heap.size)).toArray U := by
  intro U hU hW
  exact ⟨rfl, hK.1.2.2.2.2.2.2.2.2.1.trans hW.alike, by rw [hU]; exact hz, by rw [hU]; exact hK.2.2.1, fun q hq => by rw [hU]; exact hK.2.2.2.1 q hq⟩
theorem mj_callS {d' kc' ks' kc2 ks2 idx n : Nat} {vs stk : List mj_V} (hd : decode Y.2.2.1 pc = .ok (.invokestatic idx, 3)) (hy : mj_yk Y' n) (hl : Cond.methodLink Y.1 idx Y'.2.1 ∈ mj_tbl ∨ Cond.methodLinkNest Y.1 idx Y'.2.1 "ChartForest" ∈ mj_tbl) (hs : Cond.static Y'.2.1 ∈ mj_tbl)
    (hstk : stk = vs.reverse ++ st) (hn : vs.length = n) (he : (mj_e1 vs).length ≤ Y'.2.2.2.1) (hst : (st.map mj_cat).sum ≤ 8)
    (k : mj_J g Y' d' kc' ks' (0, mj_ent vs Y'.2.2.2.1, [], M) (fun r M1 => ∃ v, r = .inl v ∧ mj_J g Y (d' + 1) kc2 ks2 (pc + 3, lv, v.toList ++ st, M1) Post)) : mj_J g Y (d' + 1) (kc' + kc2) (ks' + ks2) (pc, lv, stk, M) Post := by
  intro hG p e R s m args below meth c H ls locs cells slots hK
  subst hstk
  obtain ⟨hr, hr1, hr2, hr3, hr4⟩ := mj_room (kc' := kc') (ks' := ks') hK hy
  have hts := hK.1.2.2.2.2.1
  have hM := mj_met hG hy.2.2.1.1 hy.2.2.1.2.1 he k (fun q M' h => by obtain ⟨v, h, -⟩ := h; cases h)
  have hz : g.2.2.1.heap.size ≤ H.size := by rw [hK.2.2.1.1]; exact Nat.le_add_right _ _
  have hf : cells + kc' ≤ R.cells ∧ slots + ks' ≤ R.slots := ⟨by have := hK.2.1.2.2.1; omega, by have := hK.2.1.2.2.2; omega⟩
  have S : CallFix p m c Y.2.2.1 Y.2.2.2.1 s args mj_tbl Y.1 := ⟨hK.1.1, hK.1.2.1, hK.1.2.2.1, hK.1.2.2.2.1, hts⟩
  have hroom : 2 * (F0 m pc ls ((vs.reverse ++ st).map (mj_tr g.2.2.2.1 g.2.2.1.heap.size))).monitorRoom + ((st.map (mj_tr g.2.2.2.1 g.2.2.1.heap.size)).map fun v => v.category).sum ≤ 8 := by
    refine lv_room ?_
    rw [List.map_map]
    have e1 : ((fun v : Value => v.category) ∘ mj_tr g.2.2.2.1 g.2.2.1.heap.size) = mj_cat := funext fun w => mj_tr_cat _ _ w
    rw [e1]; exact hst
  have hstack : (F0 m pc ls ((vs.reverse ++ st).map (mj_tr g.2.2.2.1 g.2.2.1.heap.size))).stack = (vs.map (mj_tr g.2.2.2.1 g.2.2.1.heap.size)).reverse ++ st.map (mj_tr g.2.2.2.1 g.2.2.1.heap.size) := by
    show (vs.reverse ++ st).map _ = _
    rw [List.map_append, List.map_reverse]
  have hsize : (F0 m pc ls ((vs.reverse ++ st).map (mj_tr g.2.2.2.1 g.2.2.1.heap.size))).locals.size = Y.2.2.2.1 := hK.2.2.2.2.1.1.1.trans hK.2.2.2.2.1.2
  have hp : PreS s H (mj_Pc g M vs) (vs.map (mj_tr g.2.2.2.1 g.2.2.1.heap.size)) := ⟨mj_Pc_blind g M vs, mj_pre hK vs hz⟩
  rcases hl with hl | hl
  · exact mj_after hG hK (va_runS S hM ⟨⟨hr.1, hr.2.1, hr.2.2.1, hr.2.2.2.1, hr.2.2.2.2.1, hr.2.2.2.2.2, hr1, hr2, hr3, hr4, hts _ hl⟩, hts _ hs⟩ hp rfl (by rw [List.length_map]; exact hn) hsize hstack hroom hd hf) (fun r M1 h => h)
  · exact mj_after hG hK (va_runSN S hM ⟨⟨hr, hr1, hr2, hr3, hr4, hts _ hl⟩, hts _ hs, trivial⟩ hp rfl (by rw [List.length_map]; exact hn) hsize hstack hroom hd hf) (fun r M1 h => h)
theorem mj_callV {d' kc' ks' kc2 ks2 idx n p0 ci : Nat} {vs stk : List mj_V} {fl : List (String × String × Bool)} {fs : List mj_V} (hd : decode Y.2.2.1 pc = .ok (.invokevirtual idx, 3)) (hy : mj_yk Y' n) (hl : Cond.methodLink Y.1 idx Y'.2.1 ∈ mj_tbl ∨ Cond.methodLinkNest Y.1 idx Y'.2.1 "ChartForest" ∈ mj_tbl) (hs : Cond.instanceMethod Y'.2.1 ∈ mj_tbl) (hse : Cond.selects Y'.1 Y'.2.1 Y'.2.1 ∈ mj_tbl)
    (hc : mj_cf[ci]? = some (Y'.1, fl)) (hM0 : M[p0]? = some (.inr (.inr (ci, fs)))) (hstk : stk = vs.reverse ++ .inr (.inr (.inl (some (p0, 0)))) :: st) (hn : vs.length = n) (he : (mj_e1 (.inr (.inr (.inl (some (p0, 0)))) :: vs)).length ≤ Y'.2.2.2.1) (hst : (st.map mj_cat).sum ≤ 8)
    (k : mj_J g Y' d' kc' ks' (0, mj_ent (.inr (.inr (.inl (some (p0, 0)))) :: vs) Y'.2.2.2.1, [], M) (fun r M1 => ∃ v, r = .inl v ∧ mj_J g Y (d' + 1) kc2 ks2 (pc + 3, lv, v.toList ++ st, M1) Post)) : mj_J g Y (d' + 1) (kc' + kc2) (ks' + ks2) (pc, lv, stk, M) Post := by
  intro hG p e R s m args below meth c H ls locs cells slots hK
  subst hstk
  obtain ⟨hr, hr1, hr2, hr3, hr4⟩ := mj_room (kc' := kc') (ks' := ks') hK hy
  have hts := hK.1.2.2.2.2.1
  have hM := mj_met hG hy.2.2.1.1 hy.2.2.1.2.1 he k (fun q M' h => by obtain ⟨v, h, -⟩ := h; cases h)
  have hz : g.2.2.1.heap.size ≤ H.size := by rw [hK.2.2.1.1]; exact Nat.le_add_right _ _
  have hf : cells + kc' ≤ R.cells ∧ slots + ks' ≤ R.slots := ⟨by have := hK.2.1.2.2.1; omega, by have := hK.2.1.2.2.2; omega⟩
  have S : CallFix p m c Y.2.2.1 Y.2.2.2.1 s args mj_tbl Y.1 := ⟨hK.1.1, hK.1.2.1, hK.1.2.2.1, hK.1.2.2.2.1, hts⟩
  have hroom : 2 * (F0 m pc ls ((vs.reverse ++ .inr (.inr (.inl (some (p0, 0)))) :: st).map (mj_tr g.2.2.2.1 g.2.2.1.heap.size))).monitorRoom + ((st.map (mj_tr g.2.2.2.1 g.2.2.1.heap.size)).map fun v => v.category).sum ≤ 8 := by
    refine lv_room ?_
    rw [List.map_map]
    have e1 : ((fun v : Value => v.category) ∘ mj_tr g.2.2.2.1 g.2.2.1.heap.size) = mj_cat := funext fun w => mj_tr_cat _ _ w
    rw [e1]; exact hst
  have hstack : (F0 m pc ls ((vs.reverse ++ .inr (.inr (.inl (some (p0, 0)))) :: st).map (mj_tr g.2.2.2.1 g.2.2.1.heap.size))).stack = (vs.map (mj_tr g.2.2.2.1 g.2.2.1.heap.size)).reverse ++ .ref (g.2.2.1.heap.size + mj_o p0) :: st.map (mj_tr g.2.2.2.1 g.2.2.1.heap.size) := by
    show (vs.reverse ++ .inr (.inr (.inl (some (p0, 0)))) :: st).map _ = _
    rw [List.map_append, List.map_reverse]
    rfl
  have hsize : (F0 m pc ls ((vs.reverse ++ .inr (.inr (.inl (some (p0, 0)))) :: st).map (mj_tr g.2.2.2.1 g.2.2.1.heap.size))).locals.size = Y.2.2.2.1 := hK.2.2.2.2.1.1.1.trans hK.2.2.2.2.1.2
  have hcl := mj_cls_at hc
  obtain ⟨r, hr0, cell, q1, q2, q3, q4⟩ := hK.2.2.1.2 p0 _ hM0
  have hKs : va_K g.2.1 mj_cls [] s := hG.1.moved hK.1.2.2.2.2.2.2.2.2.1
  obtain ⟨-, hfc, -⟩ := hKs.1 ci _ hcl
  have hp : PreV s H Y'.1 (g.2.2.1.heap.size + mj_o p0) (mj_Pc g M (.inr (.inr (.inl (some (p0, 0)))) :: vs)) (vs.map (mj_tr g.2.2.2.1 g.2.2.1.heap.size)) := ⟨mj_Pc_blind _ _ _, ⟨cell, q1, by rw [q3]; rfl, by rw [q2]; exact hfc⟩, mj_pre hK (.inr (.inr (.inl (some (p0, 0)))) :: vs) hz⟩
  rcases hl with hl | hl
  · exact mj_after hG hK (va_runV S hM ⟨⟨hr.1, hr.2.1, hr.2.2.1, hr.2.2.2.1, hr.2.2.2.2.1, hr.2.2.2.2.2, hr1, hr2, hr3, hr4, hts _ hl⟩, hts _ hs, hts _ hse⟩ hp rfl (by rw [List.length_map]; exact hn) hsize hstack hroom hd hf) (fun r M1 h => h)
  · exact mj_after hG hK (va_runVN S hM ⟨⟨hr, hr1, hr2, hr3, hr4, hts _ hl⟩, hts _ hs, hts _ hse⟩ hp rfl (by rw [List.length_map]; exact hn) hsize hstack hroom hd hf) (fun r M1 h => h)
theorem mj_callI {d' kc' ks' kc2 ks2 idx n : Nat} {r0 : Nat × Nat} {vs stk : List mj_V} (hd : decode Y.2.2.1 pc = .ok (.invokespecial idx, 3)) (hy : mj_yk Y' n) (hret : Y'.2.2.2.2 = none) (hnm : Y'.2.1.name = "<init>") (hl : Cond.methodLink Y.1 idx Y'.2.1 ∈ mj_tbl ∨ Cond.methodLinkNest Y.1 idx Y'.2.1 "ChartForest" ∈ mj_tbl) (hs : Cond.instanceMethod Y'.2.1 ∈ mj_tbl)
    (hstk : stk = vs.reverse ++ .inr (.inr (.inl (some r0))) :: st) (hn : vs.length = n) (he : (mj_e1 (.inr (.inr (.inl (some r0))) :: vs)).length ≤ Y'.2.2.2.1) (hst : (st.map mj_cat).sum ≤ 8)
    (k : mj_J g Y' d' kc' ks' (0, mj_ent (.inr (.inr (.inl (some r0))) :: vs) Y'.2.2.2.1, [], M) (fun r M1 => ∃ v, r = .inl v ∧ mj_J g Y (d' + 1) kc2 ks2 (pc + 3, lv, v.toList ++ st, M1) Post)) : mj_J g Y (d' + 1) (kc' + kc2) (ks' + ks2) (pc, lv, stk, M) Post := by
  intro hG p e R s m args below meth c H ls locs cells slots hK
  subst hstk
  obtain ⟨hr, hr1, hr2, hr3, hr4⟩ := mj_room (kc' := kc') (ks' := ks') hK hy
  have hts := hK.1.2.2.2.2.1
  have hM := mj_met hG hy.2.2.1.1 hy.2.2.1.2.1 he k (fun q M' h => by obtain ⟨v, h, -⟩ := h; cases h)
  have hz : g.2.2.1.heap.size ≤ H.size := by rw [hK.2.2.1.1]; exact Nat.le_add_right _ _
  have hf : cells + kc' ≤ R.cells ∧ slots + ks' ≤ R.slots := ⟨by have := hK.2.1.2.2.1; omega, by have := hK.2.1.2.2.2; omega⟩
  have S : CallFix p m c Y.2.2.1 Y.2.2.2.1 s args mj_tbl Y.1 := ⟨hK.1.1, hK.1.2.1, hK.1.2.2.1, hK.1.2.2.2.1, hts⟩
  have hroom : 2 * (F0 m pc ls ((vs.reverse ++ .inr (.inr (.inl (some r0))) :: st).map (mj_tr g.2.2.2.1 g.2.2.1.heap.size))).monitorRoom + ((st.map (mj_tr g.2.2.2.1 g.2.2.1.heap.size)).map fun v => v.category).sum ≤ 8 := by
    refine lv_room ?_
    rw [List.map_map]
    have e1 : ((fun v : Value => v.category) ∘ mj_tr g.2.2.2.1 g.2.2.1.heap.size) = mj_cat := funext fun w => mj_tr_cat _ _ w
    rw [e1]; exact hst
  have hstack : (F0 m pc ls ((vs.reverse ++ .inr (.inr (.inl (some r0))) :: st).map (mj_tr g.2.2.2.1 g.2.2.1.heap.size))).stack = (vs.map (mj_tr g.2.2.2.1 g.2.2.1.heap.size)).reverse ++ .ref (g.2.2.1.heap.size + mj_o r0.1 + r0.2) :: st.map (mj_tr g.2.2.2.1 g.2.2.1.heap.size) := by
    show (vs.reverse ++ .inr (.inr (.inl (some r0))) :: st).map _ = _
    rw [List.map_append, List.map_reverse]
    rfl
  have hsize : (F0 m pc ls ((vs.reverse ++ .inr (.inr (.inl (some r0))) :: st).map (mj_tr g.2.2.2.1 g.2.2.1.heap.size))).locals.size = Y.2.2.2.1 := hK.2.2.2.2.1.1.1.trans hK.2.2.2.2.1.2
  have hp : PreS s H (mj_Pc g M (.inr (.inr (.inl (some r0))) :: vs)) (.ref (g.2.2.1.heap.size + mj_o r0.1 + r0.2) :: vs.map (mj_tr g.2.2.2.1 g.2.2.1.heap.size)) := ⟨mj_Pc_blind _ _ _, mj_pre hK (.inr (.inr (.inl (some r0))) :: vs) hz⟩
  rw [hret] at hr hr1
  rcases hl with hl | hl
  · exact mj_after hG hK (va_runI S hM ⟨⟨hr.1, hr.2.1, hr.2.2.1, hr.2.2.2.1, hr.2.2.2.2.1, hr.2.2.2.2.2, hr1, hr2, hr3, hr4, hts _ hl⟩, hnm, hts _ hs⟩ hp rfl (by rw [List.length_map]; exact hn) hsize hstack hroom hd hf) (fun r M1 h => h)
  · exact mj_after hG hK (va_runIN S hM ⟨⟨hr, hr1, hr2, hr3, hr4, hts _ hl⟩, hnm, hts _ hs⟩ hp rfl (by rw [List.length_map]; exact hn) hsize hstack hroom hd hf) (fun r M1 h => h)
end MJC
end
section
/-! ===== the world behind the constructors: every reference is fixed, every number stands in one function of place, index, column ===== -/
abbrev mj_w : Type := Nat → Int → Int → Int
abbrev mj_Sh : Type := (Nat × Nat) ⊕ (Nat × Nat) ⊕ (Nat × List (Option Nat))
def mj_sh : List mj_Sh := [
  .inr (.inr (0, [some 1, some 4, some 6, some 11])),
  .inr (.inr (1, [none, some 2, some 3])), .inl (0, 10), .inl (0, 44),
  .inr (.inr (2, [none, some 5])), .inl (0, 12),
  .inr (.inr (3, [some 1, none, some 7, some 8, some 9, some 10, none, none])), .inr (.inl (13, 44)), .inl (0, 13), .inr (.inl (13, 5)), .inl (0, 572),
  .inr (.inr (4, [some 4, some 15, some 17, none, some 12, some 13, none, some 14])), .inl (0, 845), .inl (1, 845), .inl (2, 845),
  .inr (.inr (5, [some 4, some 16])), .inl (2, 845),
  .inr (.inr (6, [some 1, some 15, none, none, none, some 18, some 19, some 20])), .inl (0, 910), .inl (0, 910), .inl (2, 910),
  .inr (.inr (7, [none, none, none, some 22, some 23, some 24, none, some 25, some 26, none, some 27, some 28, some 29, some 30, none, none, some 31, some 32, none])),
  .inl (0, 10), .inl (0, 10), .inl (0, 30), .inl (0, 12), .inl (1, 7436), .inl (1, 845), .inl (1, 845), .inl (2, 845), .inl (1, 845), .inl (0, 900), .inl (2, 900),
  .inl (2, 1)]
def mj_fl : List (Option Nat) → Nat → (Int → Int → Int) → List mj_V
  | [], _, _ => []
  | none :: r, k, f => .inl (f (k : Int) 0) :: mj_fl r (k + 1) f
  | some q :: r, k, f => .inr (.inr (.inl (some (q, 0)))) :: mj_fl r (k + 1) f
def mj_sk (s : mj_Sh) (f : Int → Int → Int) : mj_C := match s with
  | .inl (k, n) => .inl (k, n, fun i => f (i : Int) 0)
  | .inr (.inl (n, k)) => .inr (.inl (n, k, fun i j => f (i : Int) (j : Int)))
  | .inr (.inr (ci, l)) => .inr (.inr (ci, mj_fl l 0 f))
def mj_mem (nn : Nat) (xs : mj_M) (w : mj_w) : mj_M := (List.range nn).map (fun p => mj_sk (mj_sh.getD p (.inl (0, 0))) (w p)) ++ xs
def mj_wu (w : mj_w) (p : Nat) (i j v : Int) : mj_w := fun q a b => if q = p ∧ a = i ∧ b = j then v else w q a b
theorem mj_wu_s (w : mj_w) (p : Nat) (i j v : Int) : mj_wu w p i j v p i j = v := by simp [mj_wu]
theorem mj_wu_n {w : mj_w} {p q : Nat} {i j a b v : Int} (h : ¬ (q = p ∧ a = i ∧ b = j)) : mj_wu w p i j v q a b = w q a b := by simp [mj_wu, h]
theorem mj_wu_p {w : mj_w} {p q : Nat} {i j a b v : Int} (h : q ≠ p) : mj_wu w p i j v q a b = w q a b := by simp [mj_wu, h]
theorem mj_mem_at {nn p : Nat} {xs : mj_M} {w : mj_w} {s : mj_Sh} (hp : p < nn) (hs : mj_sh[p]? = some s) : (mj_mem nn xs w)[p]? = some (mj_sk s (w p)) := by
  rw [mj_mem, List.getElem?_append_left (by rw [List.length_map, List.length_range]; exact hp), List.getElem?_map, List.getElem?_range hp]
  simp [List.getD, hs]
theorem mj_mem_set {nn p : Nat} {xs : mj_M} {w w' : mj_w} {s : mj_Sh} {c : mj_C} (hp : p < nn) (hs : mj_sh[p]? = some s) (hc : c = mj_sk s (w' p)) (ho : ∀ q, q ≠ p → w' q = w q) : (mj_mem nn xs w).set p c = mj_mem nn xs w' := by
  subst hc
  apply List.ext_getElem?
  intro q
  by_cases e : p = q
  · subst e
    rw [List.getElem?_set_self (by rw [mj_mem, List.length_append, List.length_map, List.length_range]; omega), mj_mem_at hp hs]
  · rw [List.getElem?_set_ne e, mj_mem, mj_mem, List.getElem?_append, List.getElem?_append]
    simp only [List.length_map, List.length_range, List.getElem?_map]
    split
    · rename_i h
      rw [List.getElem?_range h]
      simp [ho q (Ne.symm e)]
    · rfl
theorem mj_fl_len (l : List (Option Nat)) (k : Nat) (f : Int → Int → Int) : (mj_fl l k f).length = l.length := by
  induction l generalizing k with
  | nil => rfl
  | cons a r ih => cases a <;> simp [mj_fl, ih]
theorem mj_fl_i {l : List (Option Nat)} {j k : Nat} {f : Int → Int → Int} (h : l[j]? = some none) : (mj_fl l k f)[j]? = some (.inl (f ((k + j : Nat) : Int) 0)) := by
  induction l generalizing j k with
  | nil => cases h
  | cons a r ih =>
    cases j with
    | zero =>
      cases a with
      | none => rfl
      | some q => cases h
    | succ j =>
      have h2 : r[j]? = some none := h
      have h3 := ih (k := k + 1) h2
      rw [show k + 1 + j = k + (j + 1) by omega] at h3
      cases a <;> exact h3
theorem mj_fl_r {l : List (Option Nat)} {j k q : Nat} {f : Int → Int → Int} (h : l[j]? = some (some q)) : (mj_fl l k f)[j]? = some (.inr (.inr (.inl (some (q, 0))))) := by
  induction l generalizing j k with
  | nil => cases h
  | cons a r ih =>
    cases j with
    | zero =>
      cases a with
      | none => cases h
      | some q' => cases h; rfl
    | succ j =>
      have h2 : r[j]? = some (some q) := h
      cases a <;> exact ih (k := k + 1) h2
theorem mj_fl_set {l : List (Option Nat)} {j k : Nat} {f f' : Int → Int → Int} {x : Int} (h : l[j]? = some none) (hx : f' ((k + j : Nat) : Int) 0 = x) (ho : ∀ i : Nat, i ≠ k + j → f' (i : Int) 0 = f (i : Int) 0) : (mj_fl l k f).set j (.inl x) = mj_fl l k f' := by
  induction l generalizing j k with
  | nil => cases h
  | cons a r ih =>
    cases j with
    | zero =>
      cases a with
      | none =>
        show .inl x :: mj_fl r (k + 1) f = .inl (f' (k : Int) 0) :: mj_fl r (k + 1) f'
        have e1 : ∀ (r : List (Option Nat)) (n : Nat), k < n → mj_fl r n f = mj_fl r n f' := by
          intro r
          induction r with
          | nil => intros; rfl
          | cons a r ih =>
            intro n hn
            cases a with
            | none => simp only [mj_fl]; rw [ih (n + 1) (by omega), ho n (by omega)]
            | some q => simp only [mj_fl]; rw [ih (n + 1) (by omega)]
        rw [e1 r (k + 1) (by omega), ← hx]
        rfl
      | some q => cases h
    | succ j =>
      have h2 : r[j]? = some none := h
      have h3 := ih (k := k + 1) h2 (by rw [show k + 1 + j = k + (j + 1) by omega]; exact hx) (fun i hi => ho i (by omega))
      cases a with
      | none =>
        show .inl (f (k : Int) 0) :: (mj_fl r (k + 1) f).set j (.inl x) = .inl (f' (k : Int) 0) :: mj_fl r (k + 1) f'
        rw [h3, ho k (by omega)]
      | some q =>
        show .inr (.inr (.inl (some (q, 0)))) :: (mj_fl r (k + 1) f).set j (.inl x) = .inr (.inr (.inl (some (q, 0)))) :: mj_fl r (k + 1) f'
        rw [h3]
/-- a number's field, a reference's field -/
def mj_fI (p k : Nat) (C nm ds : String) (fin : Bool) : Prop := ∃ ci l fl, mj_sh[p]? = some (.inr (.inr (ci, l))) ∧ mj_cf[ci]? = some (C, fl) ∧ fl[k]? = some (nm, ds, fin) ∧ l[k]? = some none
def mj_fR (p k q : Nat) (C nm ds : String) (fin : Bool) : Prop := ∃ ci l fl, mj_sh[p]? = some (.inr (.inr (ci, l))) ∧ mj_cf[ci]? = some (C, fl) ∧ fl[k]? = some (nm, ds, fin) ∧ l[k]? = some (some q)
/-- a call's end in the world -/
def mj_P (nn : Nat) (xs : mj_M) (Post : Option mj_V → mj_w → Prop) : mj_O → mj_M → Prop := fun o M => ∃ v w, o = .inl v ∧ M = mj_mem nn xs w ∧ Post v w
section MJW
variable {g : mj_G} {Y Y' : mj_Y} {d kc ks pc nn N0 : Nat} {lv : mj_L} {st : List mj_V} {xs : mj_M} {w : mj_w} {Post : mj_O → mj_M → Prop}
theorem mj_q_geti {p k idx : Nat} {C nm ds : String} {fin : Bool} (hd : decode Y.2.2.1 pc = .ok (.getfield idx, 3)) (hf : mj_fI p k C nm ds fin) (hw : Cond.fieldLink Y.1 idx C nm ds ∈ mj_tbl ∨ Cond.fieldLinkNest Y.1 idx C nm ds "ChartForest" ∈ mj_tbl) (hb : Nat.blt p N0 = true) (hn : N0 ≤ nn)
    (kk : mj_J g Y d kc ks (pc + 3, lv, .inl (w p (k : Int) 0) :: st, mj_mem nn xs w) Post) : mj_J g Y d kc ks (pc, lv, .inr (.inr (.inl (some (p, 0)))) :: st, mj_mem nn xs w) Post := by
  obtain ⟨ci, l, fl, h1, h2, h3, h4⟩ := hf
  have hp : p < nn := Nat.lt_of_lt_of_le (Nat.blt_eq.mp hb) hn
  refine mj_r_getf hd h2 h3 hw (mj_mem_at hp h1) (w := .inl (w p (k : Int) 0)) ?_ kk
  rw [mj_fl_i h4, Nat.zero_add]
theorem mj_q_getr {p k q idx : Nat} {C nm ds : String} {fin : Bool} (hd : decode Y.2.2.1 pc = .ok (.getfield idx, 3)) (hf : mj_fR p k q C nm ds fin) (hw : Cond.fieldLink Y.1 idx C nm ds ∈ mj_tbl ∨ Cond.fieldLinkNest Y.1 idx C nm ds "ChartForest" ∈ mj_tbl) (hb : Nat.blt p N0 = true) (hn : N0 ≤ nn)
    (kk : mj_J g Y d kc ks (pc + 3, lv, .inr (.inr (.inl (some (q, 0)))) :: st, mj_mem nn xs w) Post) : mj_J g Y d kc ks (pc, lv, .inr (.inr (.inl (some (p, 0)))) :: st, mj_mem nn xs w) Post := by
  obtain ⟨ci, l, fl, h1, h2, h3, h4⟩ := hf
  have hp : p < nn := Nat.lt_of_lt_of_le (Nat.blt_eq.mp hb) hn
  exact mj_r_getf hd h2 h3 hw (mj_mem_at hp h1) (mj_fl_r h4) kk
theorem mj_fit_I (x : Int) : ∀ b z, mj_fits b z "I" (.inl x) := fun b z => ⟨.int, by decide +kernel, rfl, rfl⟩
theorem mj_fit_Z {x : Int} (h : x = 0 ∨ x = 1) : ∀ b z, mj_fits b z "Z" (.inl x) := fun b z => ⟨.boolean, by decide +kernel, mj_nb h, by rcases h with rfl | rfl <;> rfl⟩
theorem mj_q_put {p k idx : Nat} {C nm ds : String} {x : Int} (hd : decode Y.2.2.1 pc = .ok (.putfield idx, 3)) (hf : mj_fI p k C nm ds false) (hft : ∀ b z, mj_fits b z ds (.inl x)) (hw : Cond.fieldLink Y.1 idx C nm ds ∈ mj_tbl ∨ Cond.fieldLinkNest Y.1 idx C nm ds "ChartForest" ∈ mj_tbl) (hb : Nat.blt p N0 = true) (hn : N0 ≤ nn)
    (kk : ∀ w1, w1 = mj_wu w p (k : Int) 0 x → mj_J g Y d kc ks (pc + 3, lv, st, mj_mem nn xs w1) Post) : mj_J g Y d kc ks (pc, lv, .inl x :: .inr (.inr (.inl (some (p, 0)))) :: st, mj_mem nn xs w) Post := by
  obtain ⟨ci, l, fl, h1, h2, h3, h4⟩ := hf
  have hp : p < nn := Nat.lt_of_lt_of_le (Nat.blt_eq.mp hb) hn
  refine mj_r_putf hd h2 h3 hw (mj_mem_at hp h1) (by rw [mj_fl_len]; exact (List.getElem?_eq_some_iff.mp h4).1) hft ?_
  rw [mj_mem_set (w' := mj_wu w p (k : Int) 0 x) hp h1 ?_ ?_]
  · exact kk _ rfl
  · show _ = Sum.inr (Sum.inr (ci, mj_fl l 0 _))
    rw [mj_fl_set (f' := mj_wu w p (k : Int) 0 x p) h4]
    · rw [Nat.zero_add]; exact mj_wu_s _ _ _ _ _
    · intro i hi
      exact mj_wu_n (fun q => hi (by have := q.2.1; omega))
  · intro q hq
    funext a b
    exact mj_wu_p hq
theorem mj_q_iald {p n : Nat} {x : Int} (hd : decode Y.2.2.1 pc = .ok (.iaload, 1)) (hs : mj_sh[p]? = some (.inl (0, n))) (hb : Nat.blt p N0 = true) (hn : N0 ≤ nn) (hz : Nat.blt n 2147483648 = true) (h0 : 0 ≤ x) (h1 : x < (n : Int))
    (kk : mj_J g Y d kc ks (pc + 1, lv, .inl (w p x 0) :: st, mj_mem nn xs w) Post) : mj_J g Y d kc ks (pc, lv, .inl x :: .inr (.inr (.inl (some (p, 0)))) :: st, mj_mem nn xs w) Post := by
  have hp : p < nn := Nat.lt_of_lt_of_le (Nat.blt_eq.mp hb) hn
  have hz2 := Nat.blt_eq.mp hz
  refine mj_r_iald hd (mj_mem_at hp hs) ⟨by omega, by omega⟩ h0 h1 ?_
  rw [Int.toNat_of_nonneg h0]
  exact kk
theorem mj_q_zald {p n : Nat} {x : Int} (hd : decode Y.2.2.1 pc = .ok (.baload, 1)) (hs : mj_sh[p]? = some (.inl (1, n))) (hb : Nat.blt p N0 = true) (hn : N0 ≤ nn) (hz : Nat.blt n 2147483648 = true) (h0 : 0 ≤ x) (h1 : x < (n : Int))
    (kk : mj_J g Y d kc ks (pc + 1, lv, .inl (w p x 0) :: st, mj_mem nn xs w) Post) : mj_J g Y d kc ks (pc, lv, .inl x :: .inr (.inr (.inl (some (p, 0)))) :: st, mj_mem nn xs w) Post := by
  have hp : p < nn := Nat.lt_of_lt_of_le (Nat.blt_eq.mp hb) hn
  have hz2 := Nat.blt_eq.mp hz
  refine mj_r_zald hd (mj_mem_at hp hs) ⟨by omega, by omega⟩ h0 h1 ?_
  rw [Int.toNat_of_nonneg h0]
  exact kk
theorem mj_q_lald {p n : Nat} {x : Int} (hd : decode Y.2.2.1 pc = .ok (.laload, 1)) (hs : mj_sh[p]? = some (.inl (2, n))) (hb : Nat.blt p N0 = true) (hn : N0 ≤ nn) (hz : Nat.blt n 2147483648 = true) (h0 : 0 ≤ x) (h1 : x < (n : Int))
    (kk : mj_J g Y d kc ks (pc + 1, lv, .inr (.inl (w p x 0)) :: st, mj_mem nn xs w) Post) : mj_J g Y d kc ks (pc, lv, .inl x :: .inr (.inr (.inl (some (p, 0)))) :: st, mj_mem nn xs w) Post := by
  have hp : p < nn := Nat.lt_of_lt_of_le (Nat.blt_eq.mp hb) hn
  have hz2 := Nat.blt_eq.mp hz
  refine mj_r_lald hd (mj_mem_at hp hs) ⟨by omega, by omega⟩ h0 h1 ?_
  rw [Int.toNat_of_nonneg h0]
  exact kk
theorem mj_q_iast {p n : Nat} {x y : Int} (hd : decode Y.2.2.1 pc = .ok (.iastore, 1)) (hs : mj_sh[p]? = some (.inl (0, n))) (hb : Nat.blt p N0 = true) (hn : N0 ≤ nn) (hz : Nat.blt n 2147483648 = true) (h0 : 0 ≤ x) (h1 : x < (n : Int))
    (kk : ∀ w1, w1 = mj_wu w p x 0 y → mj_J g Y d kc ks (pc + 1, lv, st, mj_mem nn xs w1) Post) : mj_J g Y d kc ks (pc, lv, .inl y :: .inl x :: .inr (.inr (.inl (some (p, 0)))) :: st, mj_mem nn xs w) Post := by
  have hp : p < nn := Nat.lt_of_lt_of_le (Nat.blt_eq.mp hb) hn
  have hz2 := Nat.blt_eq.mp hz
  refine mj_r_iast hd (mj_mem_at hp hs) ⟨by omega, by omega⟩ h0 h1 ?_
  rw [mj_mem_set (w' := mj_wu w p x 0 y) hp hs ?_ ?_]
  · exact kk _ rfl
  · show _ = Sum.inl (0, n, _)
    congr 3
    funext j
    unfold mj_up mj_wu
    by_cases e : j = x.toNat
    · subst e
      simp [Int.toNat_of_nonneg h0]
    · have e2 : ¬ (j : Int) = x := by omega
      simp [e, e2]
  · intro q hq
    funext a b
    exact mj_wu_p hq
theorem mj_q_zast {p n : Nat} {x y : Int} (hd : decode Y.2.2.1 pc = .ok (.bastore, 1)) (hs : mj_sh[p]? = some (.inl (1, n))) (hb : Nat.blt p N0 = true) (hn : N0 ≤ nn) (hz : Nat.blt n 2147483648 = true) (h0 : 0 ≤ x) (h1 : x < (n : Int)) (hy : y = 0 ∨ y = 1)
    (kk : ∀ w1, w1 = mj_wu w p x 0 y → mj_J g Y d kc ks (pc + 1, lv, st, mj_mem nn xs w1) Post) : mj_J g Y d kc ks (pc, lv, .inl y :: .inl x :: .inr (.inr (.inl (some (p, 0)))) :: st, mj_mem nn xs w) Post := by
  have hp : p < nn := Nat.lt_of_lt_of_le (Nat.blt_eq.mp hb) hn
  have hz2 := Nat.blt_eq.mp hz
  refine mj_r_zast hd (mj_mem_at hp hs) ⟨by omega, by omega⟩ h0 h1 hy ?_
  rw [mj_mem_set (w' := mj_wu w p x 0 y) hp hs ?_ ?_]
  · exact kk _ rfl
  · show _ = Sum.inl (1, n, _)
    congr 3
    funext j
    unfold mj_up mj_wu
    by_cases e : j = x.toNat
    · subst e
      simp [Int.toNat_of_nonneg h0]
    · have e2 : ¬ (j : Int) = x := by omega
      simp [e, e2]
  · intro q hq
    funext a b
    exact mj_wu_p hq
theorem mj_q_last {p n : Nat} {x y : Int} (hd : decode Y.2.2.1 pc = .ok (.lastore, 1)) (hs : mj_sh[p]? = some (.inl (2, n))) (hb : Nat.blt p N0 = true) (hn : N0 ≤ nn) (hz : Nat.blt n 2147483648 = true) (h0 : 0 ≤ x) (h1 : x < (n : Int))
    (kk : ∀ w1, w1 = mj_wu w p x 0 y → mj_J g Y d kc ks (pc + 1, lv, st, mj_mem nn xs w1) Post) : mj_J g Y d kc ks (pc, lv, .inr (.inl y) :: .inl x :: .inr (.inr (.inl (some (p, 0)))) :: st, mj_mem nn xs w) Post := by
  have hp : p < nn := Nat.lt_of_lt_of_le (Nat.blt_eq.mp hb) hn
  have hz2 := Nat.blt_eq.mp hz
  refine mj_r_last hd (mj_mem_at hp hs) ⟨by omega, by omega⟩ h0 h1 ?_
  rw [mj_mem_set (w' := mj_wu w p x 0 y) hp hs ?_ ?_]
  · exact kk _ rfl
  · show _ = Sum.inl (2, n, _)
    congr 3
    funext j
    unfold mj_up mj_wu
    by_cases e : j = x.toNat
    · subst e
      simp [Int.toNat_of_nonneg h0]
    · have e2 : ¬ (j : Int) = x := by omega
      simp [e, e2]
  · intro q hq
    funext a b
    exact mj_wu_p hq
theorem mj_q_aald {p n k0 : Nat} {x : Int} (hd : decode Y.2.2.1 pc = .ok (.aaload, 1)) (hs : mj_sh[p]? = some (.inr (.inl (n, k0)))) (hb : Nat.blt p N0 = true) (hn : N0 ≤ nn) (hz : Nat.blt n 2147483648 = true) (h0 : 0 ≤ x) (h1 : x < (n : Int))
    (kk : mj_J g Y d kc ks (pc + 1, lv, .inr (.inr (.inl (some (p, x.toNat + 1)))) :: st, mj_mem nn xs w) Post) : mj_J g Y d kc ks (pc, lv, .inl x :: .inr (.inr (.inl (some (p, 0)))) :: st, mj_mem nn xs w) Post := by
  have hp : p < nn := Nat.lt_of_lt_of_le (Nat.blt_eq.mp hb) hn
  have hz2 := Nat.blt_eq.mp hz
  exact mj_r_aald hd (mj_mem_at hp hs) ⟨by omega, by omega⟩ h0 h1 kk
theorem mj_q_gald {p n k0 : Nat} {r x : Int} (hd : decode Y.2.2.1 pc = .ok (.iaload, 1)) (hs : mj_sh[p]? = some (.inr (.inl (n, k0)))) (hb : Nat.blt p N0 = true) (hn : N0 ≤ nn) (hz : Nat.blt k0 2147483648 = true) (hr0 : 0 ≤ r) (hr1 : r < (n : Int)) (h0 : 0 ≤ x) (h1 : x < (k0 : Int))
    (kk : mj_J g Y d kc ks (pc + 1, lv, .inl (w p r x) :: st, mj_mem nn xs w) Post) : mj_J g Y d kc ks (pc, lv, .inl x :: .inr (.inr (.inl (some (p, r.toNat + 1)))) :: st, mj_mem nn xs w) Post := by
  have hp : p < nn := Nat.lt_of_lt_of_le (Nat.blt_eq.mp hb) hn
  have hz2 := Nat.blt_eq.mp hz
  refine mj_r_gald hd (mj_mem_at hp hs) (by omega) ⟨by omega, by omega⟩ h0 h1 ?_
  rw [Int.toNat_of_nonneg h0, Int.toNat_of_nonneg hr0]
  exact kk
theorem mj_q_gast {p n k0 : Nat} {r x y : Int} (hd : decode Y.2.2.1 pc = .ok (.iastore, 1)) (hs : mj_sh[p]? = some (.inr (.inl (n, k0)))) (hb : Nat.blt p N0 = true) (hn : N0 ≤ nn) (hz : Nat.blt k0 2147483648 = true) (hr0 : 0 ≤ r) (hr1 : r < (n : Int)) (h0 : 0 ≤ x) (h1 : x < (k0 : Int))
    (kk : ∀ w1, w1 = mj_wu w p r x y → mj_J g Y d kc ks (pc + 1, lv, st, mj_mem nn xs w1) Post) : mj_J g Y d kc ks (pc, lv, .inl y :: .inl x :: .inr (.inr (.inl (some (p, r.toNat + 1)))) :: st, mj_mem nn xs w) Post := by
  have hp : p < nn := Nat.lt_of_lt_of_le (Nat.blt_eq.mp hb) hn
  have hz2 := Nat.blt_eq.mp hz
  refine mj_r_gast hd (mj_mem_at hp hs) (by omega) ⟨by omega, by omega⟩ h0 h1 ?_
  rw [mj_mem_set (w' := mj_wu w p r x y) hp hs ?_ ?_]
  · exact kk _ rfl
  · show _ = Sum.inr (Sum.inl (n, k0, _))
    congr 4
    funext i j
    unfold mj_up2 mj_wu
    by_cases e : i = r.toNat ∧ j = x.toNat
    · obtain ⟨rfl, rfl⟩ := e
      simp [Int.toNat_of_nonneg h0, Int.toNat_of_nonneg hr0]
    · have e2 : ¬ ((i : Int) = r ∧ (j : Int) = x) := by omega
      simp [e, e2]
  · intro q hq
    funext a b
    exact mj_wu_p hq
theorem mj_q_alen {p n k0 : Nat} (hd : decode Y.2.2.1 pc = .ok (.arraylength, 1)) (hs : mj_sh[p]? = some (.inl (k0, n))) (hb : Nat.blt p N0 = true) (hn : N0 ≤ nn) (hz : Nat.blt n 2147483648 = true)
    (kk : mj_J g Y d kc ks (pc + 1, lv, .inl (n : Int) :: st, mj_mem nn xs w) Post) : mj_J g Y d kc ks (pc, lv, .inr (.inr (.inl (some (p, 0)))) :: st, mj_mem nn xs w) Post := by
  have hp : p < nn := Nat.lt_of_lt_of_le (Nat.blt_eq.mp hb) hn
  exact mj_r_alen hd (mj_mem_at hp hs) (Nat.blt_eq.mp hz) kk
/-- a number whose width is known stands for itself -/
theorem mj_w_eq {w w' : mj_w} (h : w = w') (k : mj_J g Y d kc ks (pc, lv, st, mj_mem nn xs w') Post) : mj_J g Y d kc ks (pc, lv, st, mj_mem nn xs w) Post := h ▸ k
end MJW
theorem mj_wd (i : Nat) {w : Cond} (h : lw_tbl[i]? = some w) (hg : mj_gw w = true) : w ∈ mj_tbl := List.mem_filter.mpr ⟨List.mem_of_getElem? h, hg⟩
section MJV
variable {g : mj_G} {Y Y' : mj_Y} {d d' kc ks pc nn N0 idx : Nat} {lv : mj_L} {st : List mj_V} {xs : mj_M} {w : mj_w} {Post : mj_O → mj_M → Prop}
theorem mj_q_S (n : Nat) {vs stk : List mj_V} (hd : decode Y.2.2.1 pc = .ok (.invokestatic idx, 3)) (hy : mj_yk Y' n) (hl : Cond.methodLink Y.1 idx Y'.2.1 ∈ mj_tbl ∨ Cond.methodLinkNest Y.1 idx Y'.2.1 "ChartForest" ∈ mj_tbl) (hs : Cond.static Y'.2.1 ∈ mj_tbl)
    (hstk : stk = vs.reverse ++ st) (hn : vs.length = n) (he : Nat.ble (mj_e1 vs).length Y'.2.2.2.1 = true) (hst : Nat.ble (st.map mj_cat).sum 8 = true)
    (k : mj_J g Y' d' 0 0 (0, mj_ent vs Y'.2.2.2.1, [], mj_mem nn xs w) (mj_P nn xs (fun v w1 => mj_J g Y (d' + 1) kc ks (pc + 3, lv, v.toList ++ st, mj_mem nn xs w1) Post))) : mj_J g Y (d' + 1) kc ks (pc, lv, stk, mj_mem nn xs w) Post := by
  have h := mj_callS (kc' := 0) (ks' := 0) (kc2 := kc) (ks2 := ks) (Post := Post) hd hy hl hs hstk hn (Nat.le_of_ble_eq_true he) (Nat.le_of_ble_eq_true hst) (k.weaken (fun o M h => by obtain ⟨v, w1, rfl, rfl, h⟩ := h; exact ⟨v, rfl, h⟩))
  rwa [Nat.zero_add, Nat.zero_add] at h
theorem mj_q_V (n : Nat) {p ci : Nat} {vs stk : List mj_V} {l : List (Option Nat)} {fl : List (String × String × Bool)} (hd : decode Y.2.2.1 pc = .ok (.invokevirtual idx, 3)) (hy : mj_yk Y' n) (hl : Cond.methodLink Y.1 idx Y'.2.1 ∈ mj_tbl ∨ Cond.methodLinkNest Y.1 idx Y'.2.1 "ChartForest" ∈ mj_tbl) (hs : Cond.instanceMethod Y'.2.1 ∈ mj_tbl) (hse : Cond.selects Y'.1 Y'.2.1 Y'.2.1 ∈ mj_tbl)
    (hsh : mj_sh[p]? = some (.inr (.inr (ci, l)))) (hc : mj_cf[ci]? = some (Y'.1, fl)) (hb : Nat.blt p N0 = true) (hn0 : N0 ≤ nn) (hstk : stk = vs.reverse ++ .inr (.inr (.inl (some (p, 0)))) :: st) (hn : vs.length = n) (he : Nat.ble (mj_e1 (.inr (.inr (.inl (some (p, 0)))) :: vs)).length Y'.2.2.2.1 = true) (hst : Nat.ble (st.map mj_cat).sum 8 = true)
    (k : mj_J g Y' d' 0 0 (0, mj_ent (.inr (.inr (.inl (some (p, 0)))) :: vs) Y'.2.2.2.1, [], mj_mem nn xs w) (mj_P nn xs (fun v w1 => mj_J g Y (d' + 1) kc ks (pc + 3, lv, v.toList ++ st, mj_mem nn xs w1) Post))) : mj_J g Y (d' + 1) kc ks (pc, lv, stk, mj_mem nn xs w) Post := by
  have h := mj_callV (kc' := 0) (ks' := 0) (kc2 := kc) (ks2 := ks) (Post := Post) hd hy hl hs hse hc (mj_mem_at (Nat.lt_of_lt_of_le (Nat.blt_eq.mp hb) hn0) hsh) hstk hn (Nat.le_of_ble_eq_true he) (Nat.le_of_ble_eq_true hst) (k.weaken (fun o M h => by obtain ⟨v, w1, rfl, rfl, h⟩ := h; exact ⟨v, rfl, h⟩))
  rwa [Nat.zero_add, Nat.zero_add] at h
theorem mj_q_ret {Post : Option mj_V → mj_w → Prop} {v : Option mj_V} (h : Post v w) : mj_P nn xs Post (.inl v) (mj_mem nn xs w) := ⟨v, w, rfl, rfl, h⟩
theorem mj_wk {S : mj_S} {A B : Option mj_V → mj_w → Prop} (k : mj_J g Y d kc ks S (mj_P nn xs A)) (h : ∀ v w1, A v w1 → B v w1) : mj_J g Y d kc ks S (mj_P nn xs B) :=
  k.weaken (fun o M hP => by obtain ⟨v, w1, e1, e2, h3⟩ := hP; exact ⟨v, w1, e1, e2, h v w1 h3⟩)
theorem mj_q_S0i (hd : decode Y.2.2.1 pc = .ok (.invokestatic idx, 3)) (hy : mj_yk Y' 0) (hl : Cond.methodLink Y.1 idx Y'.2.1 ∈ mj_tbl ∨ Cond.methodLinkNest Y.1 idx Y'.2.1 "ChartForest" ∈ mj_tbl) (hs : Cond.static Y'.2.1 ∈ mj_tbl) (he : Nat.ble (mj_e1 []).length Y'.2.2.2.1 = true) (hst : Nat.ble (st.map mj_cat).sum 8 = true)
    (k : mj_J g Y' d' 0 0 (0, mj_ent [] Y'.2.2.2.1, [], mj_mem nn xs w) (mj_P nn xs (fun v w1 => ∃ x : Int, v = some (.inl x) ∧ mj_J g Y (d' + 1) kc ks (pc + 3, lv, .inl x :: st, mj_mem nn xs w1) Post))) : mj_J g Y (d' + 1) kc ks (pc, lv, st, mj_mem nn xs w) Post :=
  mj_q_S 0 (vs := []) hd hy hl hs rfl rfl he hst (mj_wk k (fun v w1 h => by obtain ⟨x, rfl, h⟩ := h; exact h))
theorem mj_q_V0i {p ci : Nat} {l : List (Option Nat)} {fl : List (String × String × Bool)} (hd : decode Y.2.2.1 pc = .ok (.invokevirtual idx, 3)) (hy : mj_yk Y' 0) (hl : Cond.methodLink Y.1 idx Y'.2.1 ∈ mj_tbl ∨ Cond.methodLinkNest Y.1 idx Y'.2.1 "ChartForest" ∈ mj_tbl) (hs : Cond.instanceMethod Y'.2.1 ∈ mj_tbl) (hse : Cond.selects Y'.1 Y'.2.1 Y'.2.1 ∈ mj_tbl)
    (hsh : mj_sh[p]? = some (.inr (.inr (ci, l)))) (hc : mj_cf[ci]? = some (Y'.1, fl)) (hb : Nat.blt p N0 = true) (hn0 : N0 ≤ nn) (he : Nat.ble (mj_e1 [.inr (.inr (.inl (some (p, 0))))]).length Y'.2.2.2.1 = true) (hst : Nat.ble (st.map mj_cat).sum 8 = true)
    (k : mj_J g Y' d' 0 0 (0, mj_ent [.inr (.inr (.inl (some (p, 0))))] Y'.2.2.2.1, [], mj_mem nn xs w) (mj_P nn xs (fun v w1 => ∃ x : Int, v = some (.inl x) ∧ mj_J g Y (d' + 1) kc ks (pc + 3, lv, .inl x :: st, mj_mem nn xs w1) Post))) : mj_J g Y (d' + 1) kc ks (pc, lv, .inr (.inr (.inl (some (p, 0)))) :: st, mj_mem nn xs w) Post :=
  mj_q_V 0 (vs := []) hd hy hl hs hse hsh hc hb hn0 rfl rfl he hst (mj_wk k (fun v w1 h => by obtain ⟨x, rfl, h⟩ := h; exact h))
theorem mj_q_S0l (hd : decode Y.2.2.1 pc = .ok (.invokestatic idx, 3)) (hy : mj_yk Y' 0) (hl : Cond.methodLink Y.1 idx Y'.2.1 ∈ mj_tbl ∨ Cond.methodLinkNest Y.1 idx Y'.2.1 "ChartForest" ∈ mj_tbl) (hs : Cond.static Y'.2.1 ∈ mj_tbl) (he : Nat.ble (mj_e1 []).length Y'.2.2.2.1 = true) (hst : Nat.ble (st.map mj_cat).sum 8 = true)
    (k : mj_J g Y' d' 0 0 (0, mj_ent [] Y'.2.2.2.1, [], mj_mem nn xs w) (mj_P nn xs (fun v w1 => ∃ x : Int, v = some (.inr (.inl x)) ∧ mj_J g Y (d' + 1) kc ks (pc + 3, lv, .inr (.inl x) :: st, mj_mem nn xs w1) Post))) : mj_J g Y (d' + 1) kc ks (pc, lv, st, mj_mem nn xs w) Post :=
  mj_q_S 0 (vs := []) hd hy hl hs rfl rfl he hst (mj_wk k (fun v w1 h => by obtain ⟨x, rfl, h⟩ := h; exact h))
theorem mj_q_V0l {p ci : Nat} {l : List (Option Nat)} {fl : List (String × String × Bool)} (hd : decode Y.2.2.1 pc = .ok (.invokevirtual idx, 3)) (hy : mj_yk Y' 0) (hl : Cond.methodLink Y.1 idx Y'.2.1 ∈ mj_tbl ∨ Cond.methodLinkNest Y.1 idx Y'.2.1 "ChartForest" ∈ mj_tbl) (hs : Cond.instanceMethod Y'.2.1 ∈ mj_tbl) (hse : Cond.selects Y'.1 Y'.2.1 Y'.2.1 ∈ mj_tbl)
    (hsh : mj_sh[p]? = some (.inr (.inr (ci, l)))) (hc : mj_cf[ci]? = some (Y'.1, fl)) (hb : Nat.blt p N0 = true) (hn0 : N0 ≤ nn) (he : Nat.ble (mj_e1 [.inr (.inr (.inl (some (p, 0))))]).length Y'.2.2.2.1 = true) (hst : Nat.ble (st.map mj_cat).sum 8 = true)
    (k : mj_J g Y' d' 0 0 (0, mj_ent [.inr (.inr (.inl (some (p, 0))))] Y'.2.2.2.1, [], mj_mem nn xs w) (mj_P nn xs (fun v w1 => ∃ x : Int, v = some (.inr (.inl x)) ∧ mj_J g Y (d' + 1) kc ks (pc + 3, lv, .inr (.inl x) :: st, mj_mem nn xs w1) Post))) : mj_J g Y (d' + 1) kc ks (pc, lv, .inr (.inr (.inl (some (p, 0)))) :: st, mj_mem nn xs w) Post :=
  mj_q_V 0 (vs := []) hd hy hl hs hse hsh hc hb hn0 rfl rfl he hst (mj_wk k (fun v w1 h => by obtain ⟨x, rfl, h⟩ := h; exact h))
theorem mj_q_S0v (hd : decode Y.2.2.1 pc = .ok (.invokestatic idx, 3)) (hy : mj_yk Y' 0) (hl : Cond.methodLink Y.1 idx Y'.2.1 ∈ mj_tbl ∨ Cond.methodLinkNest Y.1 idx Y'.2.1 "ChartForest" ∈ mj_tbl) (hs : Cond.static Y'.2.1 ∈ mj_tbl) (he : Nat.ble (mj_e1 []).length Y'.2.2.2.1 = true) (hst : Nat.ble (st.map mj_cat).sum 8 = true)
    (k : mj_J g Y' d' 0 0 (0, mj_ent [] Y'.2.2.2.1, [], mj_mem nn xs w) (mj_P nn xs (fun v w1 => v = none ∧ mj_J g Y (d' + 1) kc ks (pc + 3, lv, st, mj_mem nn xs w1) Post))) : mj_J g Y (d' + 1) kc ks (pc, lv, st, mj_mem nn xs w) Post :=
  mj_q_S 0 (vs := []) hd hy hl hs rfl rfl he hst (mj_wk k (fun v w1 h => by obtain ⟨rfl, h⟩ := h; exact h))
theorem mj_q_V0v {p ci : Nat} {l : List (Option Nat)} {fl : List (String × String × Bool)} (hd : decode Y.2.2.1 pc = .ok (.invokevirtual idx, 3)) (hy : mj_yk Y' 0) (hl : Cond.methodLink Y.1 idx Y'.2.1 ∈ mj_tbl ∨ Cond.methodLinkNest Y.1 idx Y'.2.1 "ChartForest" ∈ mj_tbl) (hs : Cond.instanceMethod Y'.2.1 ∈ mj_tbl) (hse : Cond.selects Y'.1 Y'.2.1 Y'.2.1 ∈ mj_tbl)
    (hsh : mj_sh[p]? = some (.inr (.inr (ci, l)))) (hc : mj_cf[ci]? = some (Y'.1, fl)) (hb : Nat.blt p N0 = true) (hn0 : N0 ≤ nn) (he : Nat.ble (mj_e1 [.inr (.inr (.inl (some (p, 0))))]).length Y'.2.2.2.1 = true) (hst : Nat.ble (st.map mj_cat).sum 8 = true)
    (k : mj_J g Y' d' 0 0 (0, mj_ent [.inr (.inr (.inl (some (p, 0))))] Y'.2.2.2.1, [], mj_mem nn xs w) (mj_P nn xs (fun v w1 => v = none ∧ mj_J g Y (d' + 1) kc ks (pc + 3, lv, st, mj_mem nn xs w1) Post))) : mj_J g Y (d' + 1) kc ks (pc, lv, .inr (.inr (.inl (some (p, 0)))) :: st, mj_mem nn xs w) Post :=
  mj_q_V 0 (vs := []) hd hy hl hs hse hsh hc hb hn0 rfl rfl he hst (mj_wk k (fun v w1 h => by obtain ⟨rfl, h⟩ := h; exact h))
theorem mj_q_S1i {v0 : mj_V} (hd : decode Y.2.2.1 pc = .ok (.invokestatic idx, 3)) (hy : mj_yk Y' 1) (hl : Cond.methodLink Y.1 idx Y'.2.1 ∈ mj_tbl ∨ Cond.methodLinkNest Y.1 idx Y'.2.1 "ChartForest" ∈ mj_tbl) (hs : Cond.static Y'.2.1 ∈ mj_tbl) (he : Nat.ble (mj_e1 [v0]).length Y'.2.2.2.1 = true) (hst : Nat.ble (st.map mj_cat).sum 8 = true)
    (k : mj_J g Y' d' 0 0 (0, mj_ent [v0] Y'.2.2.2.1, [], mj_mem nn xs w) (mj_P nn xs (fun v w1 => ∃ x : Int, v = some (.inl x) ∧ mj_J g Y (d' + 1) kc ks (pc + 3, lv, .inl x :: st, mj_mem nn xs w1) Post))) : mj_J g Y (d' + 1) kc ks (pc, lv, v0 :: st, mj_mem nn xs w) Post :=
  mj_q_S 1 (vs := [v0]) hd hy hl hs rfl rfl he hst (mj_wk k (fun v w1 h => by obtain ⟨x, rfl, h⟩ := h; exact h))
theorem mj_q_V1i {p ci : Nat} {l : List (Option Nat)} {fl : List (String × String × Bool)} {v0 : mj_V} (hd : decode Y.2.2.1 pc = .ok (.invokevirtual idx, 3)) (hy : mj_yk Y' 1) (hl : Cond.methodLink Y.1 idx Y'.2.1 ∈ mj_tbl ∨ Cond.methodLinkNest Y.1 idx Y'.2.1 "ChartForest" ∈ mj_tbl) (hs : Cond.instanceMethod Y'.2.1 ∈ mj_tbl) (hse : Cond.selects Y'.1 Y'.2.1 Y'.2.1 ∈ mj_tbl)
    (hsh : mj_sh[p]? = some (.inr (.inr (ci, l)))) (hc : mj_cf[ci]? = some (Y'.1, fl)) (hb : Nat.blt p N0 = true) (hn0 : N0 ≤ nn) (he : Nat.ble (mj_e1 [.inr (.inr (.inl (some (p, 0)))), v0]).length Y'.2.2.2.1 = true) (hst : Nat.ble (st.map mj_cat).sum 8 = true)
    (k : mj_J g Y' d' 0 0 (0, mj_ent [.inr (.inr (.inl (some (p, 0)))), v0] Y'.2.2.2.1, [], mj_mem nn xs w) (mj_P nn xs (fun v w1 => ∃ x : Int, v = some (.inl x) ∧ mj_J g Y (d' + 1) kc ks (pc + 3, lv, .inl x :: st, mj_mem nn xs w1) Post))) : mj_J g Y (d' + 1) kc ks (pc, lv, v0 :: .inr (.inr (.inl (some (p, 0)))) :: st, mj_mem nn xs w) Post :=
  mj_q_V 1 (vs := [v0]) hd hy hl hs hse hsh hc hb hn0 rfl rfl he hst (mj_wk k (fun v w1 h => by obtain ⟨x, rfl, h⟩ := h; exact h))
theorem mj_q_S1l {v0 : mj_V} (hd : decode Y.2.2.1 pc = .ok (.invokestatic idx, 3)) (hy : mj_yk Y' 1) (hl : Cond.methodLink Y.1 idx Y'.2.1 ∈ mj_tbl ∨ Cond.methodLinkNest Y.1 idx Y'.2.1 "ChartForest" ∈ mj_tbl) (hs : Cond.static Y'.2.1 ∈ mj_tbl) (he : Nat.ble (mj_e1 [v0]).length Y'.2.2.2.1 = true) (hst : Nat.ble (st.map mj_cat).sum 8 = true)
    (k : mj_J g Y' d' 0 0 (0, mj_ent [v0] Y'.2.2.2.1, [], mj_mem nn xs w) (mj_P nn xs (fun v w1 => ∃ x : Int, v = some (.inr (.inl x)) ∧ mj_J g Y (d' + 1) kc ks (pc + 3, lv, .inr (.inl x) :: st, mj_mem nn xs w1) Post))) : mj_J g Y (d' + 1) kc ks (pc, lv, v0 :: st, mj_mem nn xs w) Post :=
  mj_q_S 1 (vs := [v0]) hd hy hl hs rfl rfl he hst (mj_wk k (fun v w1 h => by obtain ⟨x, rfl, h⟩ := h; exact h))
theorem mj_q_V1l {p ci : Nat} {l : List (Option Nat)} {fl : List (String × String × Bool)} {v0 : mj_V} (hd : decode Y.2.2.1 pc = .ok (.invokevirtual idx, 3)) (hy : mj_yk Y' 1) (hl : Cond.methodLink Y.1 idx Y'.2.1 ∈ mj_tbl ∨ Cond.methodLinkNest Y.1 idx Y'.2.1 "ChartForest" ∈ mj_tbl) (hs : Cond.instanceMethod Y'.2.1 ∈ mj_tbl) (hse : Cond.selects Y'.1 Y'.2.1 Y'.2.1 ∈ mj_tbl)
    (hsh : mj_sh[p]? = some (.inr (.inr (ci, l)))) (hc : mj_cf[ci]? = some (Y'.1, fl)) (hb : Nat.blt p N0 = true) (hn0 : N0 ≤ nn) (he : Nat.ble (mj_e1 [.inr (.inr (.inl (some (p, 0)))), v0]).length Y'.2.2.2.1 = true) (hst : Nat.ble (st.map mj_cat).sum 8 = true)
    (k : mj_J g Y' d' 0 0 (0, mj_ent [.inr (.inr (.inl (some (p, 0)))), v0] Y'.2.2.2.1, [], mj_mem nn xs w) (mj_P nn xs (fun v w1 => ∃ x : Int, v = some (.inr (.inl x)) ∧ mj_J g Y (d' + 1) kc ks (pc + 3, lv, .inr (.inl x) :: st, mj_mem nn xs w1) Post))) : mj_J g Y (d' + 1) kc ks (pc, lv, v0 :: .inr (.inr (.inl (some (p, 0)))) :: st, mj_mem nn xs w) Post :=
  mj_q_V 1 (vs := [v0]) hd hy hl hs hse hsh hc hb hn0 rfl rfl he hst (mj_wk k (fun v w1 h => by obtain ⟨x, rfl, h⟩ := h; exact h))
theorem mj_q_S1v {v0 : mj_V} (hd : decode Y.2.2.1 pc = .ok (.invokestatic idx, 3)) (hy : mj_yk Y' 1) (hl : Cond.methodLink Y.1 idx Y'.2.1 ∈ mj_tbl ∨ Cond.methodLinkNest Y.1 idx Y'.2.1 "ChartForest" ∈ mj_tbl) (hs : Cond.static Y'.2.1 ∈ mj_tbl) (he : Nat.ble (mj_e1 [v0]).length Y'.2.2.2.1 = true) (hst : Nat.ble (st.map mj_cat).sum 8 = true)
    (k : mj_J g Y' d' 0 0 (0, mj_ent [v0] Y'.2.2.2.1, [], mj_mem nn xs w) (mj_P nn xs (fun v w1 => v = none ∧ mj_J g Y (d' + 1) kc ks (pc + 3, lv, st, mj_mem nn xs w1) Post))) : mj_J g Y (d' + 1) kc ks (pc, lv, v0 :: st, mj_mem nn xs w) Post :=
  mj_q_S 1 (vs := [v0]) hd hy hl hs rfl rfl he hst (mj_wk k (fun v w1 h => by obtain ⟨rfl, h⟩ := h; exact h))
theorem mj_q_V1v {p ci : Nat} {l : List (Option Nat)} {fl : List (String × String × Bool)} {v0 : mj_V} (hd : decode Y.2.2.1 pc = .ok (.invokevirtual idx, 3)) (hy : mj_yk Y' 1) (hl : Cond.methodLink Y.1 idx Y'.2.1 ∈ mj_tbl ∨ Cond.methodLinkNest Y.1 idx Y'.2.1 "ChartForest" ∈ mj_tbl) (hs : Cond.instanceMethod Y'.2.1 ∈ mj_tbl) (hse : Cond.selects Y'.1 Y'.2.1 Y'.2.1 ∈ mj_tbl)
    (hsh : mj_sh[p]? = some (.inr (.inr (ci, l)))) (hc : mj_cf[ci]? = some (Y'.1, fl)) (hb : Nat.blt p N0 = true) (hn0 : N0 ≤ nn) (he : Nat.ble (mj_e1 [.inr (.inr (.inl (some (p, 0)))), v0]).length Y'.2.2.2.1 = true) (hst : Nat.ble (st.map mj_cat).sum 8 = true)
    (k : mj_J g Y' d' 0 0 (0, mj_ent [.inr (.inr (.inl (some (p, 0)))), v0] Y'.2.2.2.1, [], mj_mem nn xs w) (mj_P nn xs (fun v w1 => v = none ∧ mj_J g Y (d' + 1) kc ks (pc + 3, lv, st, mj_mem nn xs w1) Post))) : mj_J g Y (d' + 1) kc ks (pc, lv, v0 :: .inr (.inr (.inl (some (p, 0)))) :: st, mj_mem nn xs w) Post :=
  mj_q_V 1 (vs := [v0]) hd hy hl hs hse hsh hc hb hn0 rfl rfl he hst (mj_wk k (fun v w1 h => by obtain ⟨rfl, h⟩ := h; exact h))
theorem mj_q_S2i {v0 v1 : mj_V} (hd : decode Y.2.2.1 pc = .ok (.invokestatic idx, 3)) (hy : mj_yk Y' 2) (hl : Cond.methodLink Y.1 idx Y'.2.1 ∈ mj_tbl ∨ Cond.methodLinkNest Y.1 idx Y'.2.1 "ChartForest" ∈ mj_tbl) (hs : Cond.static Y'.2.1 ∈ mj_tbl) (he : Nat.ble (mj_e1 [v0, v1]).length Y'.2.2.2.1 = true) (hst : Nat.ble (st.map mj_cat).sum 8 = true)
    (k : mj_J g Y' d' 0 0 (0, mj_ent [v0, v1] Y'.2.2.2.1, [], mj_mem nn xs w) (mj_P nn xs (fun v w1 => ∃ x : Int, v = some (.inl x) ∧ mj_J g Y (d' + 1) kc ks (pc + 3, lv, .inl x :: st, mj_mem nn xs w1) Post))) : mj_J g Y (d' + 1) kc ks (pc, lv, v1 :: v0 :: st, mj_mem nn xs w) Post :=
  mj_q_S 2 (vs := [v0, v1]) hd hy hl hs rfl rfl he hst (mj_wk k (fun v w1 h => by obtain ⟨x, rfl, h⟩ := h; exact h))
theorem mj_q_V2i {p ci : Nat} {l : List (Option Nat)} {fl : List (String × String × Bool)} {v0 v1 : mj_V} (hd : decode Y.2.2.1 pc = .ok (.invokevirtual idx, 3)) (hy : mj_yk Y' 2) (hl : Cond.methodLink Y.1 idx Y'.2.1 ∈ mj_tbl ∨ Cond.methodLinkNest Y.1 idx Y'.2.1 "ChartForest" ∈ mj_tbl) (hs : Cond.instanceMethod Y'.2.1 ∈ mj_tbl) (hse : Cond.selects Y'.1 Y'.2.1 Y'.2.1 ∈ mj_tbl)
    (hsh : mj_sh[p]? = some (.inr (.inr (ci, l)))) (hc : mj_cf[ci]? = some (Y'.1, fl)) (hb : Nat.blt p N0 = true) (hn0 : N0 ≤ nn) (he : Nat.ble (mj_e1 [.inr (.inr (.inl (some (p, 0)))), v0, v1]).length Y'.2.2.2.1 = true) (hst : Nat.ble (st.map mj_cat).sum 8 = true)
    (k : mj_J g Y' d' 0 0 (0, mj_ent [.inr (.inr (.inl (some (p, 0)))), v0, v1] Y'.2.2.2.1, [], mj_mem nn xs w) (mj_P nn xs (fun v w1 => ∃ x : Int, v = some (.inl x) ∧ mj_J g Y (d' + 1) kc ks (pc + 3, lv, .inl x :: st, mj_mem nn xs w1) Post))) : mj_J g Y (d' + 1) kc ks (pc, lv, v1 :: v0 :: .inr (.inr (.inl (some (p, 0)))) :: st, mj_mem nn xs w) Post :=
  mj_q_V 2 (vs := [v0, v1]) hd hy hl hs hse hsh hc hb hn0 rfl rfl he hst (mj_wk k (fun v w1 h => by obtain ⟨x, rfl, h⟩ := h; exact h))
theorem mj_q_S2l {v0 v1 : mj_V} (hd : decode Y.2.2.1 pc = .ok (.invokestatic idx, 3)) (hy : mj_yk Y' 2) (hl : Cond.methodLink Y.1 idx Y'.2.1 ∈ mj_tbl ∨ Cond.methodLinkNest Y.1 idx Y'.2.1 "ChartForest" ∈ mj_tbl) (hs : Cond.static Y'.2.1 ∈ mj_tbl) (he : Nat.ble (mj_e1 [v0, v1]).length Y'.2.2.2.1 = true) (hst : Nat.ble (st.map mj_cat).sum 8 = true)
    (k : mj_J g Y' d' 0 0 (0, mj_ent [v0, v1] Y'.2.2.2.1, [], mj_mem nn xs w) (mj_P nn xs (fun v w1 => ∃ x : Int, v = some (.inr (.inl x)) ∧ mj_J g Y (d' + 1) kc ks (pc + 3, lv, .inr (.inl x) :: st, mj_mem nn xs w1) Post))) : mj_J g Y (d' + 1) kc ks (pc, lv, v1 :: v0 :: st, mj_mem nn xs w) Post :=
  mj_q_S 2 (vs := [v0, v1]) hd hy hl hs rfl rfl he hst (mj_wk k (fun v w1 h => by obtain ⟨x, rfl, h⟩ := h; exact h))
theorem mj_q_V2l {p ci : Nat} {l : List (Option Nat)} {fl : List (String × String × Bool)} {v0 v1 : mj_V} (hd : decode Y.2.2.1 pc = .ok (.invokevirtual idx, 3)) (hy : mj_yk Y' 2) (hl : Cond.methodLink Y.1 idx Y'.2.1 ∈ mj_tbl ∨ Cond.methodLinkNest Y.1 idx Y'.2.1 "ChartForest" ∈ mj_tbl) (hs : Cond.instanceMethod Y'.2.1 ∈ mj_tbl) (hse : Cond.selects Y'.1 Y'.2.1 Y'.2.1 ∈ mj_tbl)
    (hsh : mj_sh[p]? = some (.inr (.inr (ci, l)))) (hc : mj_cf[ci]? = some (Y'.1, fl)) (hb : Nat.blt p N0 = true) (hn0 : N0 ≤ nn) (he : Nat.ble (mj_e1 [.inr (.inr (.inl (some (p, 0)))), v0, v1]).length Y'.2.2.2.1 = true) (hst : Nat.ble (st.map mj_cat).sum 8 = true)
    (k : mj_J g Y' d' 0 0 (0, mj_ent [.inr (.inr (.inl (some (p, 0)))), v0, v1] Y'.2.2.2.1, [], mj_mem nn xs w) (mj_P nn xs (fun v w1 => ∃ x : Int, v = some (.inr (.inl x)) ∧ mj_J g Y (d' + 1) kc ks (pc + 3, lv, .inr (.inl x) :: st, mj_mem nn xs w1) Post))) : mj_J g Y (d' + 1) kc ks (pc, lv, v1 :: v0 :: .inr (.inr (.inl (some (p, 0)))) :: st, mj_mem nn xs w) Post :=
  mj_q_V 2 (vs := [v0, v1]) hd hy hl hs hse hsh hc hb hn0 rfl rfl he hst (mj_wk k (fun v w1 h => by obtain ⟨x, rfl, h⟩ := h; exact h))
theorem mj_q_S2v {v0 v1 : mj_V} (hd : decode Y.2.2.1 pc = .ok (.invokestatic idx, 3)) (hy : mj_yk Y' 2) (hl : Cond.methodLink Y.1 idx Y'.2.1 ∈ mj_tbl ∨ Cond.methodLinkNest Y.1 idx Y'.2.1 "ChartForest" ∈ mj_tbl) (hs : Cond.static Y'.2.1 ∈ mj_tbl) (he : Nat.ble (mj_e1 [v0, v1]).length Y'.2.2.2.1 = true) (hst : Nat.ble (st.map mj_cat).sum 8 = true)
    (k : mj_J g Y' d' 0 0 (0, mj_ent [v0, v1] Y'.2.2.2.1, [], mj_mem nn xs w) (mj_P nn xs (fun v w1 => v = none ∧ mj_J g Y (d' + 1) kc ks (pc + 3, lv, st, mj_mem nn xs w1) Post))) : mj_J g Y (d' + 1) kc ks (pc, lv, v1 :: v0 :: st, mj_mem nn xs w) Post :=
  mj_q_S 2 (vs := [v0, v1]) hd hy hl hs rfl rfl he hst (mj_wk k (fun v w1 h => by obtain ⟨rfl, h⟩ := h; exact h))
theorem mj_q_V2v {p ci : Nat} {l : List (Option Nat)} {fl : List (String × String × Bool)} {v0 v1 : mj_V} (hd : decode Y.2.2.1 pc = .ok (.invokevirtual idx, 3)) (hy : mj_yk Y' 2) (hl : Cond.methodLink Y.1 idx Y'.2.1 ∈ mj_tbl ∨ Cond.methodLinkNest Y.1 idx Y'.2.1 "ChartForest" ∈ mj_tbl) (hs : Cond.instanceMethod Y'.2.1 ∈ mj_tbl) (hse : Cond.selects Y'.1 Y'.2.1 Y'.2.1 ∈ mj_tbl)
    (hsh : mj_sh[p]? = some (.inr (.inr (ci, l)))) (hc : mj_cf[ci]? = some (Y'.1, fl)) (hb : Nat.blt p N0 = true) (hn0 : N0 ≤ nn) (he : Nat.ble (mj_e1 [.inr (.inr (.inl (some (p, 0)))), v0, v1]).length Y'.2.2.2.1 = true) (hst : Nat.ble (st.map mj_cat).sum 8 = true)
    (k : mj_J g Y' d' 0 0 (0, mj_ent [.inr (.inr (.inl (some (p, 0)))), v0, v1] Y'.2.2.2.1, [], mj_mem nn xs w) (mj_P nn xs (fun v w1 => v = none ∧ mj_J g Y (d' + 1) kc ks (pc + 3, lv, st, mj_mem nn xs w1) Post))) : mj_J g Y (d' + 1) kc ks (pc, lv, v1 :: v0 :: .inr (.inr (.inl (some (p, 0)))) :: st, mj_mem nn xs w) Post :=
  mj_q_V 2 (vs := [v0, v1]) hd hy hl hs hse hsh hc hb hn0 rfl rfl he hst (mj_wk k (fun v w1 h => by obtain ⟨rfl, h⟩ := h; exact h))
theorem mj_q_S3i {v0 v1 v2 : mj_V} (hd : decode Y.2.2.1 pc = .ok (.invokestatic idx, 3)) (hy : mj_yk Y' 3) (hl : Cond.methodLink Y.1 idx Y'.2.1 ∈ mj_tbl ∨ Cond.methodLinkNest Y.1 idx Y'.2.1 "ChartForest" ∈ mj_tbl) (hs : Cond.static Y'.2.1 ∈ mj_tbl) (he : Nat.ble (mj_e1 [v0, v1, v2]).length Y'.2.2.2.1 = true) (hst : Nat.ble (st.map mj_cat).sum 8 = true)
    (k : mj_J g Y' d' 0 0 (0, mj_ent [v0, v1, v2] Y'.2.2.2.1, [], mj_mem nn xs w) (mj_P nn xs (fun v w1 => ∃ x : Int, v = some (.inl x) ∧ mj_J g Y (d' + 1) kc ks (pc + 3, lv, .inl x :: st, mj_mem nn xs w1) Post))) : mj_J g Y (d' + 1) kc ks (pc, lv, v2 :: v1 :: v0 :: st, mj_mem nn xs w) Post :=
  mj_q_S 3 (vs := [v0, v1, v2]) hd hy hl hs rfl rfl he hst (mj_wk k (fun v w1 h => by obtain ⟨x, rfl, h⟩ := h; exact h))
theorem mj_q_V3i {p ci : Nat} {l : List (Option Nat)} {fl : List (String × String × Bool)} {v0 v1 v2 : mj_V} (hd : decode Y.2.2.1 pc = .ok (.invokevirtual idx, 3)) (hy : mj_yk Y' 3) (hl : Cond.methodLink Y.1 idx Y'.2.1 ∈ mj_tbl ∨ Cond.methodLinkNest Y.1 idx Y'.2.1 "ChartForest" ∈ mj_tbl) (hs : Cond.instanceMethod Y'.2.1 ∈ mj_tbl) (hse : Cond.selects Y'.1 Y'.2.1 Y'.2.1 ∈ mj_tbl)
    (hsh : mj_sh[p]? = some (.inr (.inr (ci, l)))) (hc : mj_cf[ci]? = some (Y'.1, fl)) (hb : Nat.blt p N0 = true) (hn0 : N0 ≤ nn) (he : Nat.ble (mj_e1 [.inr (.inr (.inl (some (p, 0)))), v0, v1, v2]).length Y'.2.2.2.1 = true) (hst : Nat.ble (st.map mj_cat).sum 8 = true)
    (k : mj_J g Y' d' 0 0 (0, mj_ent [.inr (.inr (.inl (some (p, 0)))), v0, v1, v2] Y'.2.2.2.1, [], mj_mem nn xs w) (mj_P nn xs (fun v w1 => ∃ x : Int, v = some (.inl x) ∧ mj_J g Y (d' + 1) kc ks (pc + 3, lv, .inl x :: st, mj_mem nn xs w1) Post))) : mj_J g Y (d' + 1) kc ks (pc, lv, v2 :: v1 :: v0 :: .inr (.inr (.inl (some (p, 0)))) :: st, mj_mem nn xs w) Post :=
  mj_q_V 3 (vs := [v0, v1, v2]) hd hy hl hs hse hsh hc hb hn0 rfl rfl he hst (mj_wk k (fun v w1 h => by obtain ⟨x, rfl, h⟩ := h; exact h))
theorem mj_q_S3l {v0 v1 v2 : mj_V} (hd : decode Y.2.2.1 pc = .ok (.invokestatic idx, 3)) (hy : mj_yk Y' 3) (hl : Cond.methodLink Y.1 idx Y'.2.1 ∈ mj_tbl ∨ Cond.methodLinkNest Y.1 idx Y'.2.1 "ChartForest" ∈ mj_tbl) (hs : Cond.static Y'.2.1 ∈ mj_tbl) (he : Nat.ble (mj_e1 [v0, v1, v2]).length Y'.2.2.2.1 = true) (hst : Nat.ble (st.map mj_cat).sum 8 = true)
    (k : mj_J g Y' d' 0 0 (0, mj_ent [v0, v1, v2] Y'.2.2.2.1, [], mj_mem nn xs w) (mj_P nn xs (fun v w1 => ∃ x : Int, v = some (.inr (.inl x)) ∧ mj_J g Y (d' + 1) kc ks (pc + 3, lv, .inr (.inl x) :: st, mj_mem nn xs w1) Post))) : mj_J g Y (d' + 1) kc ks (pc, lv, v2 :: v1 :: v0 :: st, mj_mem nn xs w) Post :=
  mj_q_S 3 (vs := [v0, v1, v2]) hd hy hl hs rfl rfl he hst (mj_wk k (fun v w1 h => by obtain ⟨x, rfl, h⟩ := h; exact h))
theorem mj_q_V3l {p ci : Nat} {l : List (Option Nat)} {fl : List (String × String × Bool)} {v0 v1 v2 : mj_V} (hd : decode Y.2.2.1 pc = .ok (.invokevirtual idx, 3)) (hy : mj_yk Y' 3) (hl : Cond.methodLink Y.1 idx Y'.2.1 ∈ mj_tbl ∨ Cond.methodLinkNest Y.1 idx Y'.2.1 "ChartForest" ∈ mj_tbl) (hs : Cond.instanceMethod Y'.2.1 ∈ mj_tbl) (hse : Cond.selects Y'.1 Y'.2.1 Y'.2.1 ∈ mj_tbl)
    (hsh : mj_sh[p]? = some (.inr (.inr (ci, l)))) (hc : mj_cf[ci]? = some (Y'.1, fl)) (hb : Nat.blt p N0 = true) (hn0 : N0 ≤ nn) (he : Nat.ble (mj_e1 [.inr (.inr (.inl (some (p, 0)))), v0, v1, v2]).length Y'.2.2.2.1 = true) (hst : Nat.ble (st.map mj_cat).sum 8 = true)
    (k : mj_J g Y' d' 0 0 (0, mj_ent [.inr (.inr (.inl (some (p, 0)))), v0, v1, v2] Y'.2.2.2.1, [], mj_mem nn xs w) (mj_P nn xs (fun v w1 => ∃ x : Int, v = some (.inr (.inl x)) ∧ mj_J g Y (d' + 1) kc ks (pc + 3, lv, .inr (.inl x) :: st, mj_mem nn xs w1) Post))) : mj_J g Y (d' + 1) kc ks (pc, lv, v2 :: v1 :: v0 :: .inr (.inr (.inl (some (p, 0)))) :: st, mj_mem nn xs w) Post :=
  mj_q_V 3 (vs := [v0, v1, v2]) hd hy hl hs hse hsh hc hb hn0 rfl rfl he hst (mj_wk k (fun v w1 h => by obtain ⟨x, rfl, h⟩ := h; exact h))
theorem mj_q_S3v {v0 v1 v2 : mj_V} (hd : decode Y.2.2.1 pc = .ok (.invokestatic idx, 3)) (hy : mj_yk Y' 3) (hl : Cond.methodLink Y.1 idx Y'.2.1 ∈ mj_tbl ∨ Cond.methodLinkNest Y.1 idx Y'.2.1 "ChartForest" ∈ mj_tbl) (hs : Cond.static Y'.2.1 ∈ mj_tbl) (he : Nat.ble (mj_e1 [v0, v1, v2]).length Y'.2.2.2.1 = true) (hst : Nat.ble (st.map mj_cat).sum 8 = true)
    (k : mj_J g Y' d' 0 0 (0, mj_ent [v0, v1, v2] Y'.2.2.2.1, [], mj_mem nn xs w) (mj_P nn xs (fun v w1 => v = none ∧ mj_J g Y (d' + 1) kc ks (pc + 3, lv, st, mj_mem nn xs w1) Post))) : mj_J g Y (d' + 1) kc ks (pc, lv, v2 :: v1 :: v0 :: st, mj_mem nn xs w) Post :=
  mj_q_S 3 (vs := [v0, v1, v2]) hd hy hl hs rfl rfl he hst (mj_wk k (fun v w1 h => by obtain ⟨rfl, h⟩ := h; exact h))
theorem mj_q_V3v {p ci : Nat} {l : List (Option Nat)} {fl : List (String × String × Bool)} {v0 v1 v2 : mj_V} (hd : decode Y.2.2.1 pc = .ok (.invokevirtual idx, 3)) (hy : mj_yk Y' 3) (hl : Cond.methodLink Y.1 idx Y'.2.1 ∈ mj_tbl ∨ Cond.methodLinkNest Y.1 idx Y'.2.1 "ChartForest" ∈ mj_tbl) (hs : Cond.instanceMethod Y'.2.1 ∈ mj_tbl) (hse : Cond.selects Y'.1 Y'.2.1 Y'.2.1 ∈ mj_tbl)
    (hsh : mj_sh[p]? = some (.inr (.inr (ci, l)))) (hc : mj_cf[ci]? = some (Y'.1, fl)) (hb : Nat.blt p N0 = true) (hn0 : N0 ≤ nn) (he : Nat.ble (mj_e1 [.inr (.inr (.inl (some (p, 0)))), v0, v1, v2]).length Y'.2.2.2.1 = true) (hst : Nat.ble (st.map mj_cat).sum 8 = true)
    (k : mj_J g Y' d' 0 0 (0, mj_ent [.inr (.inr (.inl (some (p, 0)))), v0, v1, v2] Y'.2.2.2.1, [], mj_mem nn xs w) (mj_P nn xs (fun v w1 => v = none ∧ mj_J g Y (d' + 1) kc ks (pc + 3, lv, st, mj_mem nn xs w1) Post))) : mj_J g Y (d' + 1) kc ks (pc, lv, v2 :: v1 :: v0 :: .inr (.inr (.inl (some (p, 0)))) :: st, mj_mem nn xs w) Post :=
  mj_q_V 3 (vs := [v0, v1, v2]) hd hy hl hs hse hsh hc hb hn0 rfl rfl he hst (mj_wk k (fun v w1 h => by obtain ⟨rfl, h⟩ := h; exact h))
theorem mj_q_S4i {v0 v1 v2 v3 : mj_V} (hd : decode Y.2.2.1 pc = .ok (.invokestatic idx, 3)) (hy : mj_yk Y' 4) (hl : Cond.methodLink Y.1 idx Y'.2.1 ∈ mj_tbl ∨ Cond.methodLinkNest Y.1 idx Y'.2.1 "ChartForest" ∈ mj_tbl) (hs : Cond.static Y'.2.1 ∈ mj_tbl) (he : Nat.ble (mj_e1 [v0, v1, v2, v3]).length Y'.2.2.2.1 = true) (hst : Nat.ble (st.map mj_cat).sum 8 = true)
    (k : mj_J g Y' d' 0 0 (0, mj_ent [v0, v1, v2, v3] Y'.2.2.2.1, [], mj_mem nn xs w) (mj_P nn xs (fun v w1 => ∃ x : Int, v = some (.inl x) ∧ mj_J g Y (d' + 1) kc ks (pc + 3, lv, .inl x :: st, mj_mem nn xs w1) Post))) : mj_J g Y (d' + 1) kc ks (pc, lv, v3 :: v2 :: v1 :: v0 :: st, mj_mem nn xs w) Post :=
  mj_q_S 4 (vs := [v0, v1, v2, v3]) hd hy hl hs rfl rfl he hst (mj_wk k (fun v w1 h => by obtain ⟨x, rfl, h⟩ := h; exact h))
theorem mj_q_V4i {p ci : Nat} {l : List (Option Nat)} {fl : List (String × String × Bool)} {v0 v1 v2 v3 : mj_V} (hd : decode Y.2.2.1 pc = .ok (.invokevirtual idx, 3)) (hy : mj_yk Y' 4) (hl : Cond.methodLink Y.1 idx Y'.2.1 ∈ mj_tbl ∨ Cond.methodLinkNest Y.1 idx Y'.2.1 "ChartForest" ∈ mj_tbl) (hs : Cond.instanceMethod Y'.2.1 ∈ mj_tbl) (hse : Cond.selects Y'.1 Y'.2.1 Y'.2.1 ∈ mj_tbl)
    (hsh : mj_sh[p]? = some (.inr (.inr (ci, l)))) (hc : mj_cf[ci]? = some (Y'.1, fl)) (hb : Nat.blt p N0 = true) (hn0 : N0 ≤ nn) (he : Nat.ble (mj_e1 [.inr (.inr (.inl (some (p, 0)))), v0, v1, v2, v3]).length Y'.2.2.2.1 = true) (hst : Nat.ble (st.map mj_cat).sum 8 = true)
    (k : mj_J g Y' d' 0 0 (0, mj_ent [.inr (.inr (.inl (some (p, 0)))), v0, v1, v2, v3] Y'.2.2.2.1, [], mj_mem nn xs w) (mj_P nn xs (fun v w1 => ∃ x : Int, v = some (.inl x) ∧ mj_J g Y (d' + 1) kc ks (pc + 3, lv, .inl x :: st, mj_mem nn xs w1) Post))) : mj_J g Y (d' + 1) kc ks (pc, lv, v3 :: v2 :: v1 :: v0 :: .inr (.inr (.inl (some (p, 0)))) :: st, mj_mem nn xs w) Post :=
  mj_q_V 4 (vs := [v0, v1, v2, v3]) hd hy hl hs hse hsh hc hb hn0 rfl rfl he hst (mj_wk k (fun v w1 h => by obtain ⟨x, rfl, h⟩ := h; exact h))
theorem mj_q_S4l {v0 v1 v2 v3 : mj_V} (hd : decode Y.2.2.1 pc = .ok (.invokestatic idx, 3)) (hy : mj_yk Y' 4) (hl : Cond.methodLink Y.1 idx Y'.2.1 ∈ mj_tbl ∨ Cond.methodLinkNest Y.1 idx Y'.2.1 "ChartForest" ∈ mj_tbl) (hs : Cond.static Y'.2.1 ∈ mj_tbl) (he : Nat.ble (mj_e1 [v0, v1, v2, v3]).length Y'.2.2.2.1 = true) (hst : Nat.ble (st.map mj_cat).sum 8 = true)
    (k : mj_J g Y' d' 0 0 (0, mj_ent [v0, v1, v2, v3] Y'.2.2.2.1, [], mj_mem nn xs w) (mj_P nn xs (fun v w1 => ∃ x : Int, v = some (.inr (.inl x)) ∧ mj_J g Y (d' + 1) kc ks (pc + 3, lv, .inr (.inl x) :: st, mj_mem nn xs w1) Post))) : mj_J g Y (d' + 1) kc ks (pc, lv, v3 :: v2 :: v1 :: v0 :: st, mj_mem nn xs w) Post :=
  mj_q_S 4 (vs := [v0, v1, v2, v3]) hd hy hl hs rfl rfl he hst (mj_wk k (fun v w1 h => by obtain ⟨x, rfl, h⟩ := h; exact h))
theorem mj_q_V4l {p ci : Nat} {l : List (Option Nat)} {fl : List (String × String × Bool)} {v0 v1 v2 v3 : mj_V} (hd : decode Y.2.2.1 pc = .ok (.invokevirtual idx, 3)) (hy : mj_yk Y' 4) (hl : Cond.methodLink Y.1 idx Y'.2.1 ∈ mj_tbl ∨ Cond.methodLinkNest Y.1 idx Y'.2.1 "ChartForest" ∈ mj_tbl) (hs : Cond.instanceMethod Y'.2.1 ∈ mj_tbl) (hse : Cond.selects Y'.1 Y'.2.1 Y'.2.1 ∈ mj_tbl)
    (hsh : mj_sh[p]? = some (.inr (.inr (ci, l)))) (hc : mj_cf[ci]? = some (Y'.1, fl)) (hb : Nat.blt p N0 = true) (hn0 : N0 ≤ nn) (he : Nat.ble (mj_e1 [.inr (.inr (.inl (some (p, 0)))), v0, v1, v2, v3]).length Y'.2.2.2.1 = true) (hst : Nat.ble (st.map mj_cat).sum 8 = true)
    (k : mj_J g Y' d' 0 0 (0, mj_ent [.inr (.inr (.inl (some (p, 0)))), v0, v1, v2, v3] Y'.2.2.2.1, [], mj_mem nn xs w) (mj_P nn xs (fun v w1 => ∃ x : Int, v = some (.inr (.inl x)) ∧ mj_J g Y (d' + 1) kc ks (pc + 3, lv, .inr (.inl x) :: st, mj_mem nn xs w1) Post))) : mj_J g Y (d' + 1) kc ks (pc, lv, v3 :: v2 :: v1 :: v0 :: .inr (.inr (.inl (some (p, 0)))) :: st, mj_mem nn xs w) Post :=
  mj_q_V 4 (vs := [v0, v1, v2, v3]) hd hy hl hs hse hsh hc hb hn0 rfl rfl he hst (mj_wk k (fun v w1 h => by obtain ⟨x, rfl, h⟩ := h; exact h))
theorem mj_q_S4v {v0 v1 v2 v3 : mj_V} (hd : decode Y.2.2.1 pc = .ok (.invokestatic idx, 3)) (hy : mj_yk Y' 4) (hl : Cond.methodLink Y.1 idx Y'.2.1 ∈ mj_tbl ∨ Cond.methodLinkNest Y.1 idx Y'.2.1 "ChartForest" ∈ mj_tbl) (hs : Cond.static Y'.2.1 ∈ mj_tbl) (he : Nat.ble (mj_e1 [v0, v1, v2, v3]).length Y'.2.2.2.1 = true) (hst : Nat.ble (st.map mj_cat).sum 8 = true)
    (k : mj_J g Y' d' 0 0 (0, mj_ent [v0, v1, v2, v3] Y'.2.2.2.1, [], mj_mem nn xs w) (mj_P nn xs (fun v w1 => v = none ∧ mj_J g Y (d' + 1) kc ks (pc + 3, lv, st, mj_mem nn xs w1) Post))) : mj_J g Y (d' + 1) kc ks (pc, lv, v3 :: v2 :: v1 :: v0 :: st, mj_mem nn xs w) Post :=
  mj_q_S 4 (vs := [v0, v1, v2, v3]) hd hy hl hs rfl rfl he hst (mj_wk k (fun v w1 h => by obtain ⟨rfl, h⟩ := h; exact h))
theorem mj_q_V4v {p ci : Nat} {l : List (Option Nat)} {fl : List (String × String × Bool)} {v0 v1 v2 v3 : mj_V} (hd : decode Y.2.2.1 pc = .ok (.invokevirtual idx, 3)) (hy : mj_yk Y' 4) (hl : Cond.methodLink Y.1 idx Y'.2.1 ∈ mj_tbl ∨ Cond.methodLinkNest Y.1 idx Y'.2.1 "ChartForest" ∈ mj_tbl) (hs : Cond.instanceMethod Y'.2.1 ∈ mj_tbl) (hse : Cond.selects Y'.1 Y'.2.1 Y'.2.1 ∈ mj_tbl)
    (hsh : mj_sh[p]? = some (.inr (.inr (ci, l)))) (hc : mj_cf[ci]? = some (Y'.1, fl)) (hb : Nat.blt p N0 = true) (hn0 : N0 ≤ nn) (he : Nat.ble (mj_e1 [.inr (.inr (.inl (some (p, 0)))), v0, v1, v2, v3]).length Y'.2.2.2.1 = true) (hst : Nat.ble (st.map mj_cat).sum 8 = true)
    (k : mj_J g Y' d' 0 0 (0, mj_ent [.inr (.inr (.inl (some (p, 0)))), v0, v1, v2, v3] Y'.2.2.2.1, [], mj_mem nn xs w) (mj_P nn xs (fun v w1 => v = none ∧ mj_J g Y (d' + 1) kc ks (pc + 3, lv, st, mj_mem nn xs w1) Post))) : mj_J g Y (d' + 1) kc ks (pc, lv, v3 :: v2 :: v1 :: v0 :: .inr (.inr (.inl (some (p, 0)))) :: st, mj_mem nn xs w) Post :=
  mj_q_V 4 (vs := [v0, v1, v2, v3]) hd hy hl hs hse hsh hc hb hn0 rfl rfl he hst (mj_wk k (fun v w1 h => by obtain ⟨rfl, h⟩ := h; exact h))
theorem mj_q_S5i {v0 v1 v2 v3 v4 : mj_V} (hd : decode Y.2.2.1 pc = .ok (.invokestatic idx, 3)) (hy : mj_yk Y' 5) (hl : Cond.methodLink Y.1 idx Y'.2.1 ∈ mj_tbl ∨ Cond.methodLinkNest Y.1 idx Y'.2.1 "ChartForest" ∈ mj_tbl) (hs : Cond.static Y'.2.1 ∈ mj_tbl) (he : Nat.ble (mj_e1 [v0, v1, v2, v3, v4]).length Y'.2.2.2.1 = true) (hst : Nat.ble (st.map mj_cat).sum 8 = true)
    (k : mj_J g Y' d' 0 0 (0, mj_ent [v0, v1, v2, v3, v4] Y'.2.2.2.1, [], mj_mem nn xs w) (mj_P nn xs (fun v w1 => ∃ x : Int, v = some (.inl x) ∧ mj_J g Y (d' + 1) kc ks (pc + 3, lv, .inl x :: st, mj_mem nn xs w1) Post))) : mj_J g Y (d' + 1) kc ks (pc, lv, v4 :: v3 :: v2 :: v1 :: v0 :: st, mj_mem nn xs w) Post :=
  mj_q_S 5 (vs := [v0, v1, v2, v3, v4]) hd hy hl hs rfl rfl he hst (mj_wk k (fun v w1 h => by obtain ⟨x, rfl, h⟩ := h; exact h))
theorem mj_q_V5i {p ci : Nat} {l : List (Option Nat)} {fl : List (String × String × Bool)} {v0 v1 v2 v3 v4 : mj_V} (hd : decode Y.2.2.1 pc = .ok (.invokevirtual idx, 3)) (hy : mj_yk Y' 5) (hl : Cond.methodLink Y.1 idx Y'.2.1 ∈ mj_tbl ∨ Cond.methodLinkNest Y.1 idx Y'.2.1 "ChartForest" ∈ mj_tbl) (hs : Cond.instanceMethod Y'.2.1 ∈ mj_tbl) (hse : Cond.selects Y'.1 Y'.2.1 Y'.2.1 ∈ mj_tbl)
    (hsh : mj_sh[p]? = some (.inr (.inr (ci, l)))) (hc : mj_cf[ci]? = some (Y'.1, fl)) (hb : Nat.blt p N0 = true) (hn0 : N0 ≤ nn) (he : Nat.ble (mj_e1 [.inr (.inr (.inl (some (p, 0)))), v0, v1, v2, v3, v4]).length Y'.2.2.2.1 = true) (hst : Nat.ble (st.map mj_cat).sum 8 = true)
    (k : mj_J g Y' d' 0 0 (0, mj_ent [.inr (.inr (.inl (some (p, 0)))), v0, v1, v2, v3, v4] Y'.2.2.2.1, [], mj_mem nn xs w) (mj_P nn xs (fun v w1 => ∃ x : Int, v = some (.inl x) ∧ mj_J g Y (d' + 1) kc ks (pc + 3, lv, .inl x :: st, mj_mem nn xs w1) Post))) : mj_J g Y (d' + 1) kc ks (pc, lv, v4 :: v3 :: v2 :: v1 :: v0 :: .inr (.inr (.inl (some (p, 0)))) :: st, mj_mem nn xs w) Post :=
  mj_q_V 5 (vs := [v0, v1, v2, v3, v4]) hd hy hl hs hse hsh hc hb hn0 rfl rfl he hst (mj_wk k (fun v w1 h => by obtain ⟨x, rfl, h⟩ := h; exact h))
theorem mj_q_S5l {v0 v1 v2 v3 v4 : mj_V} (hd : decode Y.2.2.1 pc = .ok (.invokestatic idx, 3)) (hy : mj_yk Y' 5) (hl : Cond.methodLink Y.1 idx Y'.2.1 ∈ mj_tbl ∨ Cond.methodLinkNest Y.1 idx Y'.2.1 "ChartForest" ∈ mj_tbl) (hs : Cond.static Y'.2.1 ∈ mj_tbl) (he : Nat.ble (mj_e1 [v0, v1, v2, v3, v4]).length Y'.2.2.2.1 = true) (hst : Nat.ble (st.map mj_cat).sum 8 = true)
    (k : mj_J g Y' d' 0 0 (0, mj_ent [v0, v1, v2, v3, v4] Y'.2.2.2.1, [], mj_mem nn xs w) (mj_P nn xs (fun v w1 => ∃ x : Int, v = some (.inr (.inl x)) ∧ mj_J g Y (d' + 1) kc ks (pc + 3, lv, .inr (.inl x) :: st, mj_mem nn xs w1) Post))) : mj_J g Y (d' + 1) kc ks (pc, lv, v4 :: v3 :: v2 :: v1 :: v0 :: st, mj_mem nn xs w) Post :=
  mj_q_S 5 (vs := [v0, v1, v2, v3, v4]) hd hy hl hs rfl rfl he hst (mj_wk k (fun v w1 h => by obtain ⟨x, rfl, h⟩ := h; exact h))
theorem mj_q_V5l {p ci : Nat} {l : List (Option Nat)} {fl : List (String × String × Bool)} {v0 v1 v2 v3 v4 : mj_V} (hd : decode Y.2.2.1 pc = .ok (.invokevirtual idx, 3)) (hy : mj_yk Y' 5) (hl : Cond.methodLink Y.1 idx Y'.2.1 ∈ mj_tbl ∨ Cond.methodLinkNest Y.1 idx Y'.2.1 "ChartForest" ∈ mj_tbl) (hs : Cond.instanceMethod Y'.2.1 ∈ mj_tbl) (hse : Cond.selects Y'.1 Y'.2.1 Y'.2.1 ∈ mj_tbl)
    (hsh : mj_sh[p]? = some (.inr (.inr (ci, l)))) (hc : mj_cf[ci]? = some (Y'.1, fl)) (hb : Nat.blt p N0 = true) (hn0 : N0 ≤ nn) (he : Nat.ble (mj_e1 [.inr (.inr (.inl (some (p, 0)))), v0, v1, v2, v3, v4]).length Y'.2.2.2.1 = true) (hst : Nat.ble (st.map mj_cat).sum 8 = true)
    (k : mj_J g Y' d' 0 0 (0, mj_ent [.inr (.inr (.inl (some (p, 0)))), v0, v1, v2, v3, v4] Y'.2.2.2.1, [], mj_mem nn xs w) (mj_P nn xs (fun v w1 => ∃ x : Int, v = some (.inr (.inl x)) ∧ mj_J g Y (d' + 1) kc ks (pc + 3, lv, .inr (.inl x) :: st, mj_mem nn xs w1) Post))) : mj_J g Y (d' + 1) kc ks (pc, lv, v4 :: v3 :: v2 :: v1 :: v0 :: .inr (.inr (.inl (some (p, 0)))) :: st, mj_mem nn xs w) Post :=
  mj_q_V 5 (vs := [v0, v1, v2, v3, v4]) hd hy hl hs hse hsh hc hb hn0 rfl rfl he hst (mj_wk k (fun v w1 h => by obtain ⟨x, rfl, h⟩ := h; exact h))
theorem mj_q_S5v {v0 v1 v2 v3 v4 : mj_V} (hd : decode Y.2.2.1 pc = .ok (.invokestatic idx, 3)) (hy : mj_yk Y' 5) (hl : Cond.methodLink Y.1 idx Y'.2.1 ∈ mj_tbl ∨ Cond.methodLinkNest Y.1 idx Y'.2.1 "ChartForest" ∈ mj_tbl) (hs : Cond.static Y'.2.1 ∈ mj_tbl) (he : Nat.ble (mj_e1 [v0, v1, v2, v3, v4]).length Y'.2.2.2.1 = true) (hst : Nat.ble (st.map mj_cat).sum 8 = true)
    (k : mj_J g Y' d' 0 0 (0, mj_ent [v0, v1, v2, v3, v4] Y'.2.2.2.1, [], mj_mem nn xs w) (mj_P nn xs (fun v w1 => v = none ∧ mj_J g Y (d' + 1) kc ks (pc + 3, lv, st, mj_mem nn xs w1) Post))) : mj_J g Y (d' + 1) kc ks (pc, lv, v4 :: v3 :: v2 :: v1 :: v0 :: st, mj_mem nn xs w) Post :=
  mj_q_S 5 (vs := [v0, v1, v2, v3, v4]) hd hy hl hs rfl rfl he hst (mj_wk k (fun v w1 h => by obtain ⟨rfl, h⟩ := h; exact h))
theorem mj_q_V5v {p ci : Nat} {l : List (Option Nat)} {fl : List (String × String × Bool)} {v0 v1 v2 v3 v4 : mj_V} (hd : decode Y.2.2.1 pc = .ok (.invokevirtual idx, 3)) (hy : mj_yk Y' 5) (hl : Cond.methodLink Y.1 idx Y'.2.1 ∈ mj_tbl ∨ Cond.methodLinkNest Y.1 idx Y'.2.1 "ChartForest" ∈ mj_tbl) (hs : Cond.instanceMethod Y'.2.1 ∈ mj_tbl) (hse : Cond.selects Y'.1 Y'.2.1 Y'.2.1 ∈ mj_tbl)
    (hsh : mj_sh[p]? = some (.inr (.inr (ci, l)))) (hc : mj_cf[ci]? = some (Y'.1, fl)) (hb : Nat.blt p N0 = true) (hn0 : N0 ≤ nn) (he : Nat.ble (mj_e1 [.inr (.inr (.inl (some (p, 0)))), v0, v1, v2, v3, v4]).length Y'.2.2.2.1 = true) (hst : Nat.ble (st.map mj_cat).sum 8 = true)
    (k : mj_J g Y' d' 0 0 (0, mj_ent [.inr (.inr (.inl (some (p, 0)))), v0, v1, v2, v3, v4] Y'.2.2.2.1, [], mj_mem nn xs w) (mj_P nn xs (fun v w1 => v = none ∧ mj_J g Y (d' + 1) kc ks (pc + 3, lv, st, mj_mem nn xs w1) Post))) : mj_J g Y (d' + 1) kc ks (pc, lv, v4 :: v3 :: v2 :: v1 :: v0 :: .inr (.inr (.inl (some (p, 0)))) :: st, mj_mem nn xs w) Post :=
  mj_q_V 5 (vs := [v0, v1, v2, v3, v4]) hd hy hl hs hse hsh hc hb hn0 rfl rfl he hst (mj_wk k (fun v w1 h => by obtain ⟨rfl, h⟩ := h; exact h))
end MJV
/-! ===== decode rows of a method in one, locals by parts, branches in two ===== -/
def mj_dec (c : ByteArray) (l : List (Nat × Instr × Nat)) : Bool := l.all fun q => decide (decode c q.1 = .ok (q.2.1, q.2.2))
theorem mj_d {c : ByteArray} {l : List (Nat × Instr × Nat)} (h : mj_dec c l = true) (n : Nat) {q : Nat × Instr × Nat} (hq : l[n]? = some q) : decode c q.1 = .ok (q.2.1, q.2.2) :=
  of_decide_eq_true (List.all_eq_true.mp h q (List.mem_of_getElem? hq))
def mj_sub : mj_L → mj_L → Prop
  | [], [] => True
  | a :: r, b :: q => (a = none ∨ a = b) ∧ mj_sub r q
  | _, _ => False
theorem mj_sub_of : ∀ {a b : mj_L}, mj_sub a b → a.length = b.length ∧ ∀ (i : Nat) (w : mj_V), a[i]? = some (some w) → b[i]? = some (some w)
  | [], [], _ => ⟨rfl, fun _ _ h => h⟩
  | a :: r, b :: q, h => by
    obtain ⟨h1, h2⟩ := mj_sub_of h.2
    refine ⟨by rw [List.length_cons, List.length_cons, h1], fun i w hw => ?_⟩
    cases i with
    | zero =>
      have hw2 : a = some w := Option.some.inj hw
      rcases h.1 with e | e
      · rw [e] at hw2; cases hw2
      · rw [← e, hw2]; rfl
    | succ i => exact h2 i w hw
  | [], _ :: _, h => h.elim
  | _ :: _, [], h => h.elim
theorem mj_ik {x : Int} (h : (decide (-2147483648 ≤ x) && decide (x < 2147483648)) = true) : mj_i x := by
  simp at h
  exact h
theorem mj_lk {x : Int} (h : (decide (-9223372036854775808 ≤ x) && decide (x < 9223372036854775808)) = true) : mj_l x := by
  simp at h
  exact h
section MJB
variable {g : mj_G} {Y : mj_Y} {d kc ks pc : Nat} {lv : mj_L} {st : List mj_V} {M : mj_M} {Post : mj_O → mj_M → Prop}
theorem mj_r_sub {lv' : mj_L} (h : mj_sub lv' lv) (k : mj_J g Y d kc ks (pc, lv', st, M) Post) : mj_J g Y d kc ks (pc, lv, st, M) Post := mj_r_less (mj_sub_of h).1 (mj_sub_of h).2 k
theorem mj_s_icmp_eq {x y : Int} {off : Int} {tgt : Nat} (hd : decode Y.2.2.1 pc = .ok (.if_icmp .eq off, 3)) (ht : (pc : Int) + off = (tgt : Int)) (hx : mj_i x) (hy : mj_i y) (kt : x = y → mj_J g Y d kc ks (tgt, lv, st, M) Post) (kf : ¬ x = y → mj_J g Y d kc ks (pc + 3, lv, st, M) Post) : mj_J g Y d kc ks (pc, lv, .inl y :: .inl x :: st, M) Post := by
  refine mj_r_icmp_eq hd ht hx hy ?_
  by_cases q : x = y
  · rw [if_pos q]; exact kt q
  · rw [if_neg q]; exact kf q
theorem mj_s_if_eq {x : Int} {off : Int} {tgt : Nat} (hd : decode Y.2.2.1 pc = .ok (.ifCond .eq off, 3)) (ht : (pc : Int) + off = (tgt : Int)) (hx : mj_i x) (kt : x = 0 → mj_J g Y d kc ks (tgt, lv, st, M) Post) (kf : ¬ x = 0 → mj_J g Y d kc ks (pc + 3, lv, st, M) Post) : mj_J g Y d kc ks (pc, lv, .inl x :: st, M) Post := by
  refine mj_r_if_eq hd ht hx ?_
  by_cases q : x = 0
  · rw [if_pos q]; exact kt q
  · rw [if_neg q]; exact kf q
theorem mj_s_icmp_ne {x y : Int} {off : Int} {tgt : Nat} (hd : decode Y.2.2.1 pc = .ok (.if_icmp .ne off, 3)) (ht : (pc : Int) + off = (tgt : Int)) (hx : mj_i x) (hy : mj_i y) (kt : x = y → mj_J g Y d kc ks (pc + 3, lv, st, M) Post) (kf : ¬ x = y → mj_J g Y d kc ks (tgt, lv, st, M) Post) : mj_J g Y d kc ks (pc, lv, .inl y :: .inl x :: st, M) Post := by
  refine mj_r_icmp_ne hd ht hx hy ?_
  by_cases q : x = y
  · rw [if_pos q]; exact kt q
  · rw [if_neg q]; exact kf q
theorem mj_s_if_ne {x : Int} {off : Int} {tgt : Nat} (hd : decode Y.2.2.1 pc = .ok (.ifCond .ne off, 3)) (ht : (pc : Int) + off = (tgt : Int)) (hx : mj_i x) (kt : x = 0 → mj_J g Y d kc ks (pc + 3, lv, st, M) Post) (kf : ¬ x = 0 → mj_J g Y d kc ks (tgt, lv, st, M) Post) : mj_J g Y d kc ks (pc, lv, .inl x :: st, M) Post := by
  refine mj_r_if_ne hd ht hx ?_
  by_cases q : x = 0
  · rw [if_pos q]; exact kt q
  · rw [if_neg q]; exact kf q
theorem mj_s_icmp_lt {x y : Int} {off : Int} {tgt : Nat} (hd : decode Y.2.2.1 pc = .ok (.if_icmp .lt off, 3)) (ht : (pc : Int) + off = (tgt : Int)) (hx : mj_i x) (hy : mj_i y) (kt : x < y → mj_J g Y d kc ks (tgt, lv, st, M) Post) (kf : ¬ x < y → mj_J g Y d kc ks (pc + 3, lv, st, M) Post) : mj_J g Y d kc ks (pc, lv, .inl y :: .inl x :: st, M) Post := by
  refine mj_r_icmp_lt hd ht hx hy ?_
  by_cases q : x < y
  · rw [if_pos q]; exact kt q
  · rw [if_neg q]; exact kf q
theorem mj_s_if_lt {x : Int} {off : Int} {tgt : Nat} (hd : decode Y.2.2.1 pc = .ok (.ifCond .lt off, 3)) (ht : (pc : Int) + off = (tgt : Int)) (hx : mj_i x) (kt : x < 0 → mj_J g Y d kc ks (tgt, lv, st, M) Post) (kf : ¬ x < 0 → mj_J g Y d kc ks (pc + 3, lv, st, M) Post) : mj_J g Y d kc ks (pc, lv, .inl x :: st, M) Post := by
  refine mj_r_if_lt hd ht hx ?_
  by_cases q : x < 0
  · rw [if_pos q]; exact kt q
  · rw [if_neg q]; exact kf q
theorem mj_s_icmp_ge {x y : Int} {off : Int} {tgt : Nat} (hd : decode Y.2.2.1 pc = .ok (.if_icmp .ge off, 3)) (ht : (pc : Int) + off = (tgt : Int)) (hx : mj_i x) (hy : mj_i y) (kt : x < y → mj_J g Y d kc ks (pc + 3, lv, st, M) Post) (kf : ¬ x < y → mj_J g Y d kc ks (tgt, lv, st, M) Post) : mj_J g Y d kc ks (pc, lv, .inl y :: .inl x :: st, M) Post := by
  refine mj_r_icmp_ge hd ht hx hy ?_
  by_cases q : x < y
  · rw [if_pos q]; exact kt q
  · rw [if_neg q]; exact kf q
theorem mj_s_if_ge {x : Int} {off : Int} {tgt : Nat} (hd : decode Y.2.2.1 pc = .ok (.ifCond .ge off, 3)) (ht : (pc : Int) + off = (tgt : Int)) (hx : mj_i x) (kt : x < 0 → mj_J g Y d kc ks (pc + 3, lv, st, M) Post) (kf : ¬ x < 0 → mj_J g Y d kc ks (tgt, lv, st, M) Post) : mj_J g Y d kc ks (pc, lv, .inl x :: st, M) Post := by
  refine mj_r_if_ge hd ht hx ?_
  by_cases q : x < 0
  · rw [if_pos q]; exact kt q
  · rw [if_neg q]; exact kf q
theorem mj_s_icmp_gt {x y : Int} {off : Int} {tgt : Nat} (hd : decode Y.2.2.1 pc = .ok (.if_icmp .gt off, 3)) (ht : (pc : Int) + off = (tgt : Int)) (hx : mj_i x) (hy : mj_i y) (kt : y < x → mj_J g Y d kc ks (tgt, lv, st, M) Post) (kf : ¬ y < x → mj_J g Y d kc ks (pc + 3, lv, st, M) Post) : mj_J g Y d kc ks (pc, lv, .inl y :: .inl x :: st, M) Post := by
  refine mj_r_icmp_gt hd ht hx hy ?_
  by_cases q : y < x
  · rw [if_pos q]; exact kt q
  · rw [if_neg q]; exact kf q
theorem mj_s_if_gt {x : Int} {off : Int} {tgt : Nat} (hd : decode Y.2.2.1 pc = .ok (.ifCond .gt off, 3)) (ht : (pc : Int) + off = (tgt : Int)) (hx : mj_i x) (kt : 0 < x → mj_J g Y d kc ks (tgt, lv, st, M) Post) (kf : ¬ 0 < x → mj_J g Y d kc ks (pc + 3, lv, st, M) Post) : mj_J g Y d kc ks (pc, lv, .inl x :: st, M) Post := by
  refine mj_r_if_gt hd ht hx ?_
  by_cases q : 0 < x
  · rw [if_pos q]; exact kt q
  · rw [if_neg q]; exact kf q
theorem mj_s_icmp_le {x y : Int} {off : Int} {tgt : Nat} (hd : decode Y.2.2.1 pc = .ok (.if_icmp .le off, 3)) (ht : (pc : Int) + off = (tgt : Int)) (hx : mj_i x) (hy : mj_i y) (kt : y < x → mj_J g Y d kc ks (pc + 3, lv, st, M) Post) (kf : ¬ y < x → mj_J g Y d kc ks (tgt, lv, st, M) Post) : mj_J g Y d kc ks (pc, lv, .inl y :: .inl x :: st, M) Post := by
  refine mj_r_icmp_le hd ht hx hy ?_
  by_cases q : y < x
  · rw [if_pos q]; exact kt q
  · rw [if_neg q]; exact kf q
theorem mj_s_if_le {x : Int} {off : Int} {tgt : Nat} (hd : decode Y.2.2.1 pc = .ok (.ifCond .le off, 3)) (ht : (pc : Int) + off = (tgt : Int)) (hx : mj_i x) (kt : 0 < x → mj_J g Y d kc ks (pc + 3, lv, st, M) Post) (kf : ¬ 0 < x → mj_J g Y d kc ks (tgt, lv, st, M) Post) : mj_J g Y d kc ks (pc, lv, .inl x :: st, M) Post := by
  refine mj_r_if_le hd ht hx ?_
  by_cases q : 0 < x
  · rw [if_pos q]; exact kt q
  · rw [if_neg q]; exact kf q
/-- a compare of longs and the branch behind it -/
theorem mj_s_l_eq {x y : Int} {off : Int} {tgt : Nat} (hd0 : decode Y.2.2.1 pc = .ok (.lcmp, 1)) (hd : decode Y.2.2.1 (pc + 1) = .ok (.ifCond .eq off, 3)) (ht : ((pc + 1 : Nat) : Int) + off = (tgt : Int)) (hx : mj_l x) (hy : mj_l y) (kt : x = y → mj_J g Y d kc ks (tgt, lv, st, M) Post) (kf : ¬ x = y → mj_J g Y d kc ks (pc + 1 + 3, lv, st, M) Post) : mj_J g Y d kc ks (pc, lv, .inr (.inl y) :: .inr (.inl x) :: st, M) Post := by
  refine mj_r_lcmp hd0 hx hy ?_
  have hi : mj_i (mj_cmp x y) := by
    unfold mj_cmp mj_i
    split
    · omega
    · split <;> omega
  have e : (mj_cmp x y = 0) ↔ x = y := by
    unfold mj_cmp
    split
    · omega
    · split <;> omega
  refine mj_s_if_eq hd ht hi (fun q => kt (e.mp q)) (fun q => kf (fun q2 => q (e.mpr q2)))
theorem mj_s_l_ne {x y : Int} {off : Int} {tgt : Nat} (hd0 : decode Y.2.2.1 pc = .ok (.lcmp, 1)) (hd : decode Y.2.2.1 (pc + 1) = .ok (.ifCond .ne off, 3)) (ht : ((pc + 1 : Nat) : Int) + off = (tgt : Int)) (hx : mj_l x) (hy : mj_l y) (kt : x = y → mj_J g Y d kc ks (pc + 1 + 3, lv, st, M) Post) (kf : ¬ x = y → mj_J g Y d kc ks (tgt, lv, st, M) Post) : mj_J g Y d kc ks (pc, lv, .inr (.inl y) :: .inr (.inl x) :: st, M) Post := by
  refine mj_r_lcmp hd0 hx hy ?_
  have hi : mj_i (mj_cmp x y) := by
    unfold mj_cmp mj_i
    split
    · omega
    · split <;> omega
  have e : (mj_cmp x y = 0) ↔ x = y := by
    unfold mj_cmp
    split
    · omega
    · split <;> omega
  refine mj_s_if_ne hd ht hi (fun q => kt (e.mp q)) (fun q => kf (fun q2 => q (e.mpr q2)))
theorem mj_s_l_lt {x y : Int} {off : Int} {tgt : Nat} (hd0 : decode Y.2.2.1 pc = .ok (.lcmp, 1)) (hd : decode Y.2.2.1 (pc + 1) = .ok (.ifCond .lt off, 3)) (ht : ((pc + 1 : Nat) : Int) + off = (tgt : Int)) (hx : mj_l x) (hy : mj_l y) (kt : x < y → mj_J g Y d kc ks (tgt, lv, st, M) Post) (kf : ¬ x < y → mj_J g Y d kc ks (pc + 1 + 3, lv, st, M) Post) : mj_J g Y d kc ks (pc, lv, .inr (.inl y) :: .inr (.inl x) :: st, M) Post := by
  refine mj_r_lcmp hd0 hx hy ?_
  have hi : mj_i (mj_cmp x y) := by
    unfold mj_cmp mj_i
    split
    · omega
    · split <;> omega
  have e : (mj_cmp x y < 0) ↔ x < y := by
    unfold mj_cmp
    split
    · omega
    · split <;> omega
  refine mj_s_if_lt hd ht hi (fun q => kt (e.mp q)) (fun q => kf (fun q2 => q (e.mpr q2)))
theorem mj_s_l_ge {x y : Int} {off : Int} {tgt : Nat} (hd0 : decode Y.2.2.1 pc = .ok (.lcmp, 1)) (hd : decode Y.2.2.1 (pc + 1) = .ok (.ifCond .ge off, 3)) (ht : ((pc + 1 : Nat) : Int) + off = (tgt : Int)) (hx : mj_l x) (hy : mj_l y) (kt : x < y → mj_J g Y d kc ks (pc + 1 + 3, lv, st, M) Post) (kf : ¬ x < y → mj_J g Y d kc ks (tgt, lv, st, M) Post) : mj_J g Y d kc ks (pc, lv, .inr (.inl y) :: .inr (.inl x) :: st, M) Post := by
  refine mj_r_lcmp hd0 hx hy ?_
  have hi : mj_i (mj_cmp x y) := by
    unfold mj_cmp mj_i
    split
    · omega
    · split <;> omega
  have e : (mj_cmp x y < 0) ↔ x < y := by
    unfold mj_cmp
    split
    · omega
    · split <;> omega
  refine mj_s_if_ge hd ht hi (fun q => kt (e.mp q)) (fun q => kf (fun q2 => q (e.mpr q2)))
theorem mj_s_l_gt {x y : Int} {off : Int} {tgt : Nat} (hd0 : decode Y.2.2.1 pc = .ok (.lcmp, 1)) (hd : decode Y.2.2.1 (pc + 1) = .ok (.ifCond .gt off, 3)) (ht : ((pc + 1 : Nat) : Int) + off = (tgt : Int)) (hx : mj_l x) (hy : mj_l y) (kt : y < x → mj_J g Y d kc ks (tgt, lv, st, M) Post) (kf : ¬ y < x → mj_J g Y d kc ks (pc + 1 + 3, lv, st, M) Post) : mj_J g Y d kc ks (pc, lv, .inr (.inl y) :: .inr (.inl x) :: st, M) Post := by
  refine mj_r_lcmp hd0 hx hy ?_
  have hi : mj_i (mj_cmp x y) := by
    unfold mj_cmp mj_i
    split
    · omega
    · split <;> omega
  have e : (0 < mj_cmp x y) ↔ y < x := by
    unfold mj_cmp
    split
    · omega
    · split <;> omega
  refine mj_s_if_gt hd ht hi (fun q => kt (e.mp q)) (fun q => kf (fun q2 => q (e.mpr q2)))
theorem mj_s_l_le {x y : Int} {off : Int} {tgt : Nat} (hd0 : decode Y.2.2.1 pc = .ok (.lcmp, 1)) (hd : decode Y.2.2.1 (pc + 1) = .ok (.ifCond .le off, 3)) (ht : ((pc + 1 : Nat) : Int) + off = (tgt : Int)) (hx : mj_l x) (hy : mj_l y) (kt : y < x → mj_J g Y d kc ks (pc + 1 + 3, lv, st, M) Post) (kf : ¬ y < x → mj_J g Y d kc ks (tgt, lv, st, M) Post) : mj_J g Y d kc ks (pc, lv, .inr (.inl y) :: .inr (.inl x) :: st, M) Post := by
  refine mj_r_lcmp hd0 hx hy ?_
  have hi : mj_i (mj_cmp x y) := by
    unfold mj_cmp mj_i
    split
    · omega
    · split <;> omega
  have e : (0 < mj_cmp x y) ↔ y < x := by
    unfold mj_cmp
    split
    · omega
    · split <;> omega
  refine mj_s_if_le hd ht hi (fun q => kt (e.mp q)) (fun q => kf (fun q2 => q (e.mpr q2)))
theorem mj_s_table {dflt lo hi : Int} {offs : Array Int} {len : Nat} {x : Int} (hd : decode Y.2.2.1 pc = .ok (.tableswitch dflt lo hi offs, len)) (hx : mj_i x) (kd : x < lo ∨ hi < x → ∃ td : Nat, (pc : Int) + dflt = (td : Int) ∧ mj_J g Y d kc ks (td, lv, st, M) Post)
    (kt : ∀ j : Nat, (j : Int) ≤ hi - lo → x = lo + j → ∃ (off : Int) (td : Nat), offs[j]? = some off ∧ (pc : Int) + off = (td : Int) ∧ mj_J g Y d kc ks (td, lv, st, M) Post) : mj_J g Y d kc ks (pc, lv, .inl x :: st, M) Post := by
  intro hG p e R s m args below meth c H ls locs cells slots hK
  by_cases q : x < lo ∨ hi < x
  · obtain ⟨td, h1, k⟩ := kd q
    exact lv_tableOut hK.1.1 hK.1.2.1 hd (by rw [mj_ti hx]; exact q) h1 (k hG p e R s m args below meth c H ls locs cells slots hK)
  · obtain ⟨off, td, e1, e2, k⟩ := kt (x - lo).toNat (by omega) (by omega)
    exact lv_tableIn hK.1.1 hK.1.2.1 hd (by rw [mj_ti hx]; omega) (by rw [mj_ti hx]; omega) (by rw [mj_ti hx]; exact e1) e2 (k hG p e R s m args below meth c H ls locs cells slots hK)
theorem mj_r_dup_x1 {v u : mj_V} (hd : decode Y.2.2.1 pc = .ok (.dup_x1, 1)) (hc : mj_cat v = 1) (hv : mj_cat u = 1) (k : mj_J g Y d kc ks (pc + 1, lv, v :: u :: v :: st, M) Post) : mj_J g Y d kc ks (pc, lv, v :: u :: st, M) Post := by
  intro hG p e R s m args below meth c H ls locs cells slots hK
  have h := k hG p e R s m args below meth c H ls locs cells slots hK
  exact lv_dup_x1 hK.1.1 hK.1.2.1 hd (by rw [mj_tr_cat]; exact hc) (by rw [mj_tr_cat]; exact hv) h
theorem mj_r_dup_x2 {v u t : mj_V} (hd : decode Y.2.2.1 pc = .ok (.dup_x2, 1)) (hc : mj_cat v = 1) (hv : mj_cat u = 1) (ht : mj_cat t = 1) (k : mj_J g Y d kc ks (pc + 1, lv, v :: u :: t :: v :: st, M) Post) : mj_J g Y d kc ks (pc, lv, v :: u :: t :: st, M) Post := by
  intro hG p e R s m args below meth c H ls locs cells slots hK
  have h := k hG p e R s m args below meth c H ls locs cells slots hK
  exact lv_dup_x2 hK.1.1 hK.1.2.1 hd (by rw [mj_tr_cat]; exact hc) (by rw [mj_tr_cat]; exact hv) (by rw [mj_tr_cat]; exact ht) h
end MJB
abbrev mj_R (p : Nat) : mj_V := .inr (.inr (.inl (some (p, 0))))
theorem f_0_0 : mj_fR 0 0 1 "ChartForest" "grammar" "LChartForest$Grammar;" true := ⟨_, _, _, rfl, rfl, rfl, rfl⟩
theorem f_0_1 : mj_fR 0 1 4 "ChartForest" "tape" "LChartForest$Tape;" true := ⟨_, _, _, rfl, rfl, rfl, rfl⟩
theorem f_0_2 : mj_fR 0 2 6 "ChartForest" "chart" "LChartForest$Chart;" true := ⟨_, _, _, rfl, rfl, rfl, rfl⟩
theorem f_0_3 : mj_fR 0 3 11 "ChartForest" "forest" "LChartForest$Forest;" true := ⟨_, _, _, rfl, rfl, rfl, rfl⟩
theorem f_1_0 : mj_fI 1 0 "ChartForest$Grammar" "count" "I" false := ⟨_, _, _, rfl, rfl, rfl, rfl⟩
theorem f_1_1 : mj_fR 1 1 2 "ChartForest$Grammar" "lefts" "[I" true := ⟨_, _, _, rfl, rfl, rfl, rfl⟩
theorem f_1_2 : mj_fR 1 2 3 "ChartForest$Grammar" "behind" "[I" true := ⟨_, _, _, rfl, rfl, rfl, rfl⟩
theorem f_4_0 : mj_fI 4 0 "ChartForest$Tape" "length" "I" false := ⟨_, _, _, rfl, rfl, rfl, rfl⟩
theorem f_4_1 : mj_fR 4 1 5 "ChartForest$Tape" "terminals" "[I" true := ⟨_, _, _, rfl, rfl, rfl, rfl⟩
theorem f_6_0 : mj_fR 6 0 1 "ChartForest$Chart" "grammar" "LChartForest$Grammar;" true := ⟨_, _, _, rfl, rfl, rfl, rfl⟩
theorem f_6_1 : mj_fI 6 1 "ChartForest$Chart" "leaping" "Z" true := ⟨_, _, _, rfl, rfl, rfl, rfl⟩
theorem f_6_2 : mj_fR 6 2 7 "ChartForest$Chart" "origins" "[[I" true := ⟨_, _, _, rfl, rfl, rfl, rfl⟩
theorem f_6_3 : mj_fR 6 3 8 "ChartForest$Chart" "sizes" "[I" true := ⟨_, _, _, rfl, rfl, rfl, rfl⟩
theorem f_6_4 : mj_fR 6 4 9 "ChartForest$Chart" "named" "[[I" true := ⟨_, _, _, rfl, rfl, rfl, rfl⟩
theorem f_6_5 : mj_fR 6 5 10 "ChartForest$Chart" "agenda" "[I" true := ⟨_, _, _, rfl, rfl, rfl, rfl⟩
theorem f_6_6 : mj_fI 6 6 "ChartForest$Chart" "agendaSize" "I" false := ⟨_, _, _, rfl, rfl, rfl, rfl⟩
theorem f_6_7 : mj_fI 6 7 "ChartForest$Chart" "completeHere" "I" false := ⟨_, _, _, rfl, rfl, rfl, rfl⟩
theorem f_11_0 : mj_fR 11 0 4 "ChartForest$Forest" "tape" "LChartForest$Tape;" true := ⟨_, _, _, rfl, rfl, rfl, rfl⟩
theorem f_11_1 : mj_fR 11 1 15 "ChartForest$Forest" "counts" "LChartForest$Counts;" true := ⟨_, _, _, rfl, rfl, rfl, rfl⟩
theorem f_11_2 : mj_fR 11 2 17 "ChartForest$Forest" "ways" "LChartForest$Ways;" true := ⟨_, _, _, rfl, rfl, rfl, rfl⟩
theorem f_11_3 : mj_fI 11 3 "ChartForest$Forest" "readyEnds" "I" false := ⟨_, _, _, rfl, rfl, rfl, rfl⟩
theorem f_11_4 : mj_fR 11 4 12 "ChartForest$Forest" "cells" "[I" true := ⟨_, _, _, rfl, rfl, rfl, rfl⟩
theorem f_11_5 : mj_fR 11 5 13 "ChartForest$Forest" "met" "[Z" true := ⟨_, _, _, rfl, rfl, rfl, rfl⟩
theorem f_11_6 : mj_fI 11 6 "ChartForest$Forest" "cellCount" "I" false := ⟨_, _, _, rfl, rfl, rfl, rfl⟩
theorem f_11_7 : mj_fR 11 7 14 "ChartForest$Forest" "numbers" "[J" true := ⟨_, _, _, rfl, rfl, rfl, rfl⟩
theorem f_15_0 : mj_fR 15 0 4 "ChartForest$Counts" "tape" "LChartForest$Tape;" true := ⟨_, _, _, rfl, rfl, rfl, rfl⟩
theorem f_15_1 : mj_fR 15 1 16 "ChartForest$Counts" "table" "[J" true := ⟨_, _, _, rfl, rfl, rfl, rfl⟩
theorem f_17_0 : mj_fR 17 0 1 "ChartForest$Ways" "grammar" "LChartForest$Grammar;" true := ⟨_, _, _, rfl, rfl, rfl, rfl⟩
theorem f_17_1 : mj_fR 17 1 15 "ChartForest$Ways" "counts" "LChartForest$Counts;" true := ⟨_, _, _, rfl, rfl, rfl, rfl⟩
theorem f_17_2 : mj_fI 17 2 "ChartForest$Ways" "from" "I" false := ⟨_, _, _, rfl, rfl, rfl, rfl⟩
theorem f_17_3 : mj_fI 17 3 "ChartForest$Ways" "to" "I" false := ⟨_, _, _, rfl, rfl, rfl, rfl⟩
theorem f_17_4 : mj_fI 17 4 "ChartForest$Ways" "count" "I" false := ⟨_, _, _, rfl, rfl, rfl, rfl⟩
theorem f_17_5 : mj_fR 17 5 18 "ChartForest$Ways" "rules" "[I" true := ⟨_, _, _, rfl, rfl, rfl, rfl⟩
theorem f_17_6 : mj_fR 17 6 19 "ChartForest$Ways" "innerCuts" "[I" true := ⟨_, _, _, rfl, rfl, rfl, rfl⟩
theorem f_17_7 : mj_fR 17 7 20 "ChartForest$Ways" "trees" "[J" true := ⟨_, _, _, rfl, rfl, rfl, rfl⟩
theorem f_21_0 : mj_fI 21 0 "ChartForestModel" "leaps" "Z" true := ⟨_, _, _, rfl, rfl, rfl, rfl⟩
theorem f_21_1 : mj_fI 21 1 "ChartForestModel" "refusal" "I" false := ⟨_, _, _, rfl, rfl, rfl, rfl⟩
theorem f_21_2 : mj_fI 21 2 "ChartForestModel" "rules" "I" false := ⟨_, _, _, rfl, rfl, rfl, rfl⟩
theorem f_21_3 : mj_fR 21 3 22 "ChartForestModel" "left" "[I" false := ⟨_, _, _, rfl, rfl, rfl, rfl⟩
theorem f_21_4 : mj_fR 21 4 23 "ChartForestModel" "lengths" "[I" false := ⟨_, _, _, rfl, rfl, rfl, rfl⟩
theorem f_21_5 : mj_fR 21 5 24 "ChartForestModel" "body" "[I" false := ⟨_, _, _, rfl, rfl, rfl, rfl⟩
theorem f_21_6 : mj_fI 21 6 "ChartForestModel" "fedCount" "I" false := ⟨_, _, _, rfl, rfl, rfl, rfl⟩
theorem f_21_7 : mj_fR 21 7 25 "ChartForestModel" "terminals" "[I" false := ⟨_, _, _, rfl, rfl, rfl, rfl⟩
theorem f_21_8 : mj_fR 21 8 26 "ChartForestModel" "items" "[Z" false := ⟨_, _, _, rfl, rfl, rfl, rfl⟩
theorem f_21_9 : mj_fI 21 9 "ChartForestModel" "worked" "Z" false := ⟨_, _, _, rfl, rfl, rfl, rfl⟩
theorem f_21_10 : mj_fR 21 10 27 "ChartForestModel" "derives" "[Z" false := ⟨_, _, _, rfl, rfl, rfl, rfl⟩
theorem f_21_11 : mj_fR 21 11 28 "ChartForestModel" "counted" "[Z" false := ⟨_, _, _, rfl, rfl, rfl, rfl⟩
theorem f_21_12 : mj_fR 21 12 29 "ChartForestModel" "number" "[J" false := ⟨_, _, _, rfl, rfl, rfl, rfl⟩
theorem f_21_13 : mj_fR 21 13 30 "ChartForestModel" "met" "[Z" false := ⟨_, _, _, rfl, rfl, rfl, rfl⟩
theorem f_21_14 : mj_fI 21 14 "ChartForestModel" "cutOne" "I" false := ⟨_, _, _, rfl, rfl, rfl, rfl⟩
theorem f_21_15 : mj_fI 21 15 "ChartForestModel" "cutTwo" "I" false := ⟨_, _, _, rfl, rfl, rfl, rfl⟩
theorem f_21_16 : mj_fR 21 16 31 "ChartForestModel" "todo" "[I" false := ⟨_, _, _, rfl, rfl, rfl, rfl⟩
theorem f_21_17 : mj_fR 21 17 32 "ChartForestModel" "todoTree" "[J" false := ⟨_, _, _, rfl, rfl, rfl, rfl⟩
theorem f_21_18 : mj_fI 21 18 "ChartForestModel" "todoCount" "I" false := ⟨_, _, _, rfl, rfl, rfl, rfl⟩
end
