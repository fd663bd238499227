section
-- ===== PART A: goes FIRST, ahead of the names: the tables' words, and 'selects' of the private methods out of them =====
/-- a private method of a class that the tables say can be made, by its rows of tables_1 -/
def lw_okq (q : MethodName × Nat) : Prop := (q.1.cls ≠ "java/lang/invoke/MethodHandle" ∧ q.1.cls ≠ "java/lang/invoke/VarHandle") ∧ Cond.instantiable q.1.cls q.2 ∈ tables_1 ∧ Cond.privateMethod q.1 ∈ tables_1 ∧ Cond.instanceMethod q.1 ∈ tables_1
theorem lw_p0 : lw_okq (⟨"WorkOrders$BestOrder", "extend", "(IIIII)V"⟩, 7) := ⟨⟨by decide +kernel, by decide +kernel⟩, List.mem_of_getElem? (i := 86) (by decide +kernel), List.mem_of_getElem? (i := 376) (by decide +kernel), List.mem_of_getElem? (i := 377) (by decide +kernel)⟩
theorem lw_p1 : lw_okq (⟨"WorkOrders$BestOrder", "keepIfLess", "(I)V"⟩, 7) := ⟨⟨by decide +kernel, by decide +kernel⟩, List.mem_of_getElem? (i := 86) (by decide +kernel), List.mem_of_getElem? (i := 380) (by decide +kernel), List.mem_of_getElem? (i := 381) (by decide +kernel)⟩
theorem lw_p2 : lw_okq (⟨"WorkOrders$BestOrder", "notLess", "(III)I"⟩, 7) := ⟨⟨by decide +kernel, by decide +kernel⟩, List.mem_of_getElem? (i := 86) (by decide +kernel), List.mem_of_getElem? (i := 410) (by decide +kernel), List.mem_of_getElem? (i := 411) (by decide +kernel)⟩
theorem lw_p3 : lw_okq (⟨"WorkOrders$BestOrder", "triedAsGood", "(IIII)Z"⟩, 7) := ⟨⟨by decide +kernel, by decide +kernel⟩, List.mem_of_getElem? (i := 86) (by decide +kernel), List.mem_of_getElem? (i := 415) (by decide +kernel), List.mem_of_getElem? (i := 416) (by decide +kernel)⟩
theorem lw_p4 : lw_okq (⟨"WorkOrders$BenchRules", "lastOf", "(II)I"⟩, 3) := ⟨⟨by decide +kernel, by decide +kernel⟩, List.mem_of_getElem? (i := 116) (by decide +kernel), List.mem_of_getElem? (i := 435) (by decide +kernel), List.mem_of_getElem? (i := 436) (by decide +kernel)⟩
theorem lw_p5 : lw_okq (⟨"WorkOrders$BenchRules", "leaders", "(I)I"⟩, 3) := ⟨⟨by decide +kernel, by decide +kernel⟩, List.mem_of_getElem? (i := 116) (by decide +kernel), List.mem_of_getElem? (i := 439) (by decide +kernel), List.mem_of_getElem? (i := 440) (by decide +kernel)⟩
theorem lw_p6 : lw_okq (⟨"WorkOrders$BenchRules", "orderByDue", "()V"⟩, 3) := ⟨⟨by decide +kernel, by decide +kernel⟩, List.mem_of_getElem? (i := 116) (by decide +kernel), List.mem_of_getElem? (i := 454) (by decide +kernel), List.mem_of_getElem? (i := 455) (by decide +kernel)⟩
theorem lw_p7 : lw_okq (⟨"WorkOrders$BenchRules", "longestOf", "(II)I"⟩, 3) := ⟨⟨by decide +kernel, by decide +kernel⟩, List.mem_of_getElem? (i := 116) (by decide +kernel), List.mem_of_getElem? (i := 458) (by decide +kernel), List.mem_of_getElem? (i := 459) (by decide +kernel)⟩
theorem lw_p8 : lw_okq (⟨"WorkOrders$BrokenWork", "begin", "()V"⟩, 4) := ⟨⟨by decide +kernel, by decide +kernel⟩, List.mem_of_getElem? (i := 134) (by decide +kernel), List.mem_of_getElem? (i := 470) (by decide +kernel), List.mem_of_getElem? (i := 471) (by decide +kernel)⟩
theorem lw_p9 : lw_okq (⟨"WorkOrders$BrokenWork", "workOn", "(I)I"⟩, 4) := ⟨⟨by decide +kernel, by decide +kernel⟩, List.mem_of_getElem? (i := 134) (by decide +kernel), List.mem_of_getElem? (i := 475) (by decide +kernel), List.mem_of_getElem? (i := 476) (by decide +kernel)⟩
theorem lw_p10 : lw_okq (⟨"WorkOrders$BrokenWork", "over", "(II)I"⟩, 4) := ⟨⟨by decide +kernel, by decide +kernel⟩, List.mem_of_getElem? (i := 134) (by decide +kernel), List.mem_of_getElem? (i := 486) (by decide +kernel), List.mem_of_getElem? (i := 487) (by decide +kernel)⟩
theorem lw_p11 : lw_okq (⟨"WorkOrders$BrokenWork", "isSooner", "(II)Z"⟩, 4) := ⟨⟨by decide +kernel, by decide +kernel⟩, List.mem_of_getElem? (i := 134) (by decide +kernel), List.mem_of_getElem? (i := 490) (by decide +kernel), List.mem_of_getElem? (i := 491) (by decide +kernel)⟩
theorem lw_p12 : lw_okq (⟨"WorkOrders$Row", "roomAhead", "(II)I"⟩, 5) := ⟨⟨by decide +kernel, by decide +kernel⟩, List.mem_of_getElem? (i := 155) (by decide +kernel), List.mem_of_getElem? (i := 536) (by decide +kernel), List.mem_of_getElem? (i := 537) (by decide +kernel)⟩
theorem lw_p13 : lw_okq (⟨"WorkOrders$RowRule", "goesAhead", "(II)Z"⟩, 2) := ⟨⟨by decide +kernel, by decide +kernel⟩, List.mem_of_getElem? (i := 213) (by decide +kernel), List.mem_of_getElem? (i := 572) (by decide +kernel), List.mem_of_getElem? (i := 573) (by decide +kernel)⟩
theorem lw_p14 : lw_okq (⟨"WorkOrders$RowRule", "isShorterFirst", "(I)Z"⟩, 2) := ⟨⟨by decide +kernel, by decide +kernel⟩, List.mem_of_getElem? (i := 213) (by decide +kernel), List.mem_of_getElem? (i := 576) (by decide +kernel), List.mem_of_getElem? (i := 577) (by decide +kernel)⟩
theorem lw_p15 : lw_okq (⟨"WorkOrders$Row", "notSoonerBy", "(I)I"⟩, 5) := ⟨⟨by decide +kernel, by decide +kernel⟩, List.mem_of_getElem? (i := 155) (by decide +kernel), List.mem_of_getElem? (i := 601) (by decide +kernel), List.mem_of_getElem? (i := 602) (by decide +kernel)⟩
def lw_privs_1 : List (MethodName × Nat) := [(⟨"WorkOrders$BestOrder", "extend", "(IIIII)V"⟩, 7), (⟨"WorkOrders$BestOrder", "keepIfLess", "(I)V"⟩, 7), (⟨"WorkOrders$BestOrder", "notLess", "(III)I"⟩, 7), (⟨"WorkOrders$BestOrder", "triedAsGood", "(IIII)Z"⟩, 7), (⟨"WorkOrders$BenchRules", "lastOf", "(II)I"⟩, 3), (⟨"WorkOrders$BenchRules", "leaders", "(I)I"⟩, 3), (⟨"WorkOrders$BenchRules", "orderByDue", "()V"⟩, 3), (⟨"WorkOrders$BenchRules", "longestOf", "(II)I"⟩, 3), (⟨"WorkOrders$BrokenWork", "begin", "()V"⟩, 4), (⟨"WorkOrders$BrokenWork", "workOn", "(I)I"⟩, 4), (⟨"WorkOrders$BrokenWork", "over", "(II)I"⟩, 4), (⟨"WorkOrders$BrokenWork", "isSooner", "(II)Z"⟩, 4), (⟨"WorkOrders$Row", "roomAhead", "(II)I"⟩, 5), (⟨"WorkOrders$RowRule", "goesAhead", "(II)Z"⟩, 2), (⟨"WorkOrders$RowRule", "isShorterFirst", "(I)Z"⟩, 2), (⟨"WorkOrders$Row", "notSoonerBy", "(I)I"⟩, 5)]
theorem lw_r1 : ∀ q ∈ lw_privs_1, lw_okq q := List.forall_mem_cons.mpr ⟨lw_p0, List.forall_mem_cons.mpr ⟨lw_p1, List.forall_mem_cons.mpr ⟨lw_p2, List.forall_mem_cons.mpr ⟨lw_p3, List.forall_mem_cons.mpr ⟨lw_p4, List.forall_mem_cons.mpr ⟨lw_p5, List.forall_mem_cons.mpr ⟨lw_p6, List.forall_mem_cons.mpr ⟨lw_p7, List.forall_mem_cons.mpr ⟨lw_p8, List.forall_mem_cons.mpr ⟨lw_p9, List.forall_mem_cons.mpr ⟨lw_p10, List.forall_mem_cons.mpr ⟨lw_p11, List.forall_mem_cons.mpr ⟨lw_p12, List.forall_mem_cons.mpr ⟨lw_p13, List.forall_mem_cons.mpr ⟨lw_p14, List.forall_mem_cons.mpr ⟨lw_p15, fun _ h => absurd h List.not_mem_nil⟩⟩⟩⟩⟩⟩⟩⟩⟩⟩⟩⟩⟩⟩⟩⟩
theorem lw_p16 : lw_okq (⟨"WorkOrders$BestInRow", "extend", "(III)V"⟩, 7) := ⟨⟨by decide +kernel, by decide +kernel⟩, List.mem_of_getElem? (i := 182) (by decide +kernel), List.mem_of_getElem? (i := 611) (by decide +kernel), List.mem_of_getElem? (i := 612) (by decide +kernel)⟩
theorem lw_p17 : lw_okq (⟨"WorkOrders$BestInRow", "keepIfSooner", "(I)V"⟩, 7) := ⟨⟨by decide +kernel, by decide +kernel⟩, List.mem_of_getElem? (i := 182) (by decide +kernel), List.mem_of_getElem? (i := 615) (by decide +kernel), List.mem_of_getElem? (i := 616) (by decide +kernel)⟩
theorem lw_p18 : lw_okq (⟨"WorkOrders$BestInRow", "endsAtLeast", "(III)I"⟩, 7) := ⟨⟨by decide +kernel, by decide +kernel⟩, List.mem_of_getElem? (i := 182) (by decide +kernel), List.mem_of_getElem? (i := 622) (by decide +kernel), List.mem_of_getElem? (i := 623) (by decide +kernel)⟩
theorem lw_p19 : lw_okq (⟨"WorkOrders$TwoWorks", "layOut", "(I)I"⟩, 6) := ⟨⟨by decide +kernel, by decide +kernel⟩, List.mem_of_getElem? (i := 227) (by decide +kernel), List.mem_of_getElem? (i := 666) (by decide +kernel), List.mem_of_getElem? (i := 667) (by decide +kernel)⟩
theorem lw_p20 : lw_okq (⟨"WorkOrders$TwoWorks", "fewestTo", "(II)I"⟩, 6) := ⟨⟨by decide +kernel, by decide +kernel⟩, List.mem_of_getElem? (i := 227) (by decide +kernel), List.mem_of_getElem? (i := 670) (by decide +kernel), List.mem_of_getElem? (i := 671) (by decide +kernel)⟩
theorem lw_p21 : lw_okq (⟨"WorkOrders$Tree", "all", "()I"⟩, 6) := ⟨⟨by decide +kernel, by decide +kernel⟩, List.mem_of_getElem? (i := 254) (by decide +kernel), List.mem_of_getElem? (i := 704) (by decide +kernel), List.mem_of_getElem? (i := 705) (by decide +kernel)⟩
theorem lw_p22 : lw_okq (⟨"WorkOrders$Tree", "freeBehind", "(I)I"⟩, 6) := ⟨⟨by decide +kernel, by decide +kernel⟩, List.mem_of_getElem? (i := 254) (by decide +kernel), List.mem_of_getElem? (i := 708) (by decide +kernel), List.mem_of_getElem? (i := 709) (by decide +kernel)⟩
theorem lw_p23 : lw_okq (⟨"WorkOrders$Tree", "highestOf", "(I)I"⟩, 6) := ⟨⟨by decide +kernel, by decide +kernel⟩, List.mem_of_getElem? (i := 254) (by decide +kernel), List.mem_of_getElem? (i := 713) (by decide +kernel), List.mem_of_getElem? (i := 714) (by decide +kernel)⟩
theorem lw_p24 : lw_okq (⟨"WorkOrders$Tree", "takeFrom", "(IIII)V"⟩, 6) := ⟨⟨by decide +kernel, by decide +kernel⟩, List.mem_of_getElem? (i := 254) (by decide +kernel), List.mem_of_getElem? (i := 742) (by decide +kernel), List.mem_of_getElem? (i := 743) (by decide +kernel)⟩
theorem lw_p25 : lw_okq (⟨"WorkOrders$Tree", "atOrAbove", "(I)I"⟩, 6) := ⟨⟨by decide +kernel, by decide +kernel⟩, List.mem_of_getElem? (i := 254) (by decide +kernel), List.mem_of_getElem? (i := 750) (by decide +kernel), List.mem_of_getElem? (i := 751) (by decide +kernel)⟩
theorem lw_p26 : lw_okq (⟨"WorkOrders$Tree", "cutUp", "(I)I"⟩, 6) := ⟨⟨by decide +kernel, by decide +kernel⟩, List.mem_of_getElem? (i := 254) (by decide +kernel), List.mem_of_getElem? (i := 754) (by decide +kernel), List.mem_of_getElem? (i := 755) (by decide +kernel)⟩
theorem lw_p27 : lw_okq (⟨"WorkOrdersModel", "isWork", "(I)Z"⟩, 27) := ⟨⟨by decide +kernel, by decide +kernel⟩, List.mem_of_getElem? (i := 798) (by decide +kernel), List.mem_of_getElem? (i := 898) (by decide +kernel), List.mem_of_getElem? (i := 899) (by decide +kernel)⟩
theorem lw_p28 : lw_okq (⟨"WorkOrdersModel", "allAhead", "(I)I"⟩, 27) := ⟨⟨by decide +kernel, by decide +kernel⟩, List.mem_of_getElem? (i := 798) (by decide +kernel), List.mem_of_getElem? (i := 911) (by decide +kernel), List.mem_of_getElem? (i := 912) (by decide +kernel)⟩
theorem lw_p29 : lw_okq (⟨"WorkOrdersModel", "isPlace", "(I)Z"⟩, 27) := ⟨⟨by decide +kernel, by decide +kernel⟩, List.mem_of_getElem? (i := 798) (by decide +kernel), List.mem_of_getElem? (i := 926) (by decide +kernel), List.mem_of_getElem? (i := 927) (by decide +kernel)⟩
theorem lw_p30 : lw_okq (⟨"WorkOrdersModel", "goOver", "(I)I"⟩, 27) := ⟨⟨by decide +kernel, by decide +kernel⟩, List.mem_of_getElem? (i := 798) (by decide +kernel), List.mem_of_getElem? (i := 931) (by decide +kernel), List.mem_of_getElem? (i := 932) (by decide +kernel)⟩
theorem lw_p31 : lw_okq (⟨"WorkOrdersModel", "firstOrder", "()V"⟩, 27) := ⟨⟨by decide +kernel, by decide +kernel⟩, List.mem_of_getElem? (i := 798) (by decide +kernel), List.mem_of_getElem? (i := 935) (by decide +kernel), List.mem_of_getElem? (i := 936) (by decide +kernel)⟩
def lw_privs_2 : List (MethodName × Nat) := [(⟨"WorkOrders$BestInRow", "extend", "(III)V"⟩, 7), (⟨"WorkOrders$BestInRow", "keepIfSooner", "(I)V"⟩, 7), (⟨"WorkOrders$BestInRow", "endsAtLeast", "(III)I"⟩, 7), (⟨"WorkOrders$TwoWorks", "layOut", "(I)I"⟩, 6), (⟨"WorkOrders$TwoWorks", "fewestTo", "(II)I"⟩, 6), (⟨"WorkOrders$Tree", "all", "()I"⟩, 6), (⟨"WorkOrders$Tree", "freeBehind", "(I)I"⟩, 6), (⟨"WorkOrders$Tree", "highestOf", "(I)I"⟩, 6), (⟨"WorkOrders$Tree", "takeFrom", "(IIII)V"⟩, 6), (⟨"WorkOrders$Tree", "atOrAbove", "(I)I"⟩, 6), (⟨"WorkOrders$Tree", "cutUp", "(I)I"⟩, 6), (⟨"WorkOrdersModel", "isWork", "(I)Z"⟩, 27), (⟨"WorkOrdersModel", "allAhead", "(I)I"⟩, 27), (⟨"WorkOrdersModel", "isPlace", "(I)Z"⟩, 27), (⟨"WorkOrdersModel", "goOver", "(I)I"⟩, 27), (⟨"WorkOrdersModel", "firstOrder", "()V"⟩, 27)]
theorem lw_r2 : ∀ q ∈ lw_privs_2, lw_okq q := List.forall_mem_cons.mpr ⟨lw_p16, List.forall_mem_cons.mpr ⟨lw_p17, List.forall_mem_cons.mpr ⟨lw_p18, List.forall_mem_cons.mpr ⟨lw_p19, List.forall_mem_cons.mpr ⟨lw_p20, List.forall_mem_cons.mpr ⟨lw_p21, List.forall_mem_cons.mpr ⟨lw_p22, List.forall_mem_cons.mpr ⟨lw_p23, List.forall_mem_cons.mpr ⟨lw_p24, List.forall_mem_cons.mpr ⟨lw_p25, List.forall_mem_cons.mpr ⟨lw_p26, List.forall_mem_cons.mpr ⟨lw_p27, List.forall_mem_cons.mpr ⟨lw_p28, List.forall_mem_cons.mpr ⟨lw_p29, List.forall_mem_cons.mpr ⟨lw_p30, List.forall_mem_cons.mpr ⟨lw_p31, fun _ h => absurd h List.not_mem_nil⟩⟩⟩⟩⟩⟩⟩⟩⟩⟩⟩⟩⟩⟩⟩⟩
theorem lw_p32 : lw_okq (⟨"WorkOrdersModel", "isLawful", "()Z"⟩, 27) := ⟨⟨by decide +kernel, by decide +kernel⟩, List.mem_of_getElem? (i := 798) (by decide +kernel), List.mem_of_getElem? (i := 939) (by decide +kernel), List.mem_of_getElem? (i := 940) (by decide +kernel)⟩
theorem lw_p33 : lw_okq (⟨"WorkOrdersModel", "rowEnd", "(IZ)I"⟩, 27) := ⟨⟨by decide +kernel, by decide +kernel⟩, List.mem_of_getElem? (i := 798) (by decide +kernel), List.mem_of_getElem? (i := 943) (by decide +kernel), List.mem_of_getElem? (i := 944) (by decide +kernel)⟩
theorem lw_p34 : lw_okq (⟨"WorkOrdersModel", "leaves", "(IIII)I"⟩, 27) := ⟨⟨by decide +kernel, by decide +kernel⟩, List.mem_of_getElem? (i := 798) (by decide +kernel), List.mem_of_getElem? (i := 947) (by decide +kernel), List.mem_of_getElem? (i := 948) (by decide +kernel)⟩
theorem lw_p35 : lw_okq (⟨"WorkOrdersModel", "makes", "(I)I"⟩, 27) := ⟨⟨by decide +kernel, by decide +kernel⟩, List.mem_of_getElem? (i := 798) (by decide +kernel), List.mem_of_getElem? (i := 951) (by decide +kernel), List.mem_of_getElem? (i := 952) (by decide +kernel)⟩
theorem lw_p36 : lw_okq (⟨"WorkOrdersModel", "nextOrder", "()Z"⟩, 27) := ⟨⟨by decide +kernel, by decide +kernel⟩, List.mem_of_getElem? (i := 798) (by decide +kernel), List.mem_of_getElem? (i := 955) (by decide +kernel), List.mem_of_getElem? (i := 956) (by decide +kernel)⟩
theorem lw_p37 : lw_okq (⟨"WorkOrdersModel", "swap", "(II)V"⟩, 27) := ⟨⟨by decide +kernel, by decide +kernel⟩, List.mem_of_getElem? (i := 798) (by decide +kernel), List.mem_of_getElem? (i := 959) (by decide +kernel), List.mem_of_getElem? (i := 960) (by decide +kernel)⟩
theorem lw_p38 : lw_okq (⟨"WorkOrdersModel", "byDue", "()V"⟩, 27) := ⟨⟨by decide +kernel, by decide +kernel⟩, List.mem_of_getElem? (i := 798) (by decide +kernel), List.mem_of_getElem? (i := 971) (by decide +kernel), List.mem_of_getElem? (i := 972) (by decide +kernel)⟩
theorem lw_p39 : lw_okq (⟨"WorkOrdersModel", "goBroken", "()I"⟩, 27) := ⟨⟨by decide +kernel, by decide +kernel⟩, List.mem_of_getElem? (i := 798) (by decide +kernel), List.mem_of_getElem? (i := 979) (by decide +kernel), List.mem_of_getElem? (i := 980) (by decide +kernel)⟩
theorem lw_p40 : lw_okq (⟨"WorkOrdersModel", "isSooner", "(II)Z"⟩, 27) := ⟨⟨by decide +kernel, by decide +kernel⟩, List.mem_of_getElem? (i := 798) (by decide +kernel), List.mem_of_getElem? (i := 1019) (by decide +kernel), List.mem_of_getElem? (i := 1020) (by decide +kernel)⟩
theorem lw_p41 : lw_okq (⟨"WorkOrdersModel", "allMinutes", "(I)I"⟩, 27) := ⟨⟨by decide +kernel, by decide +kernel⟩, List.mem_of_getElem? (i := 798) (by decide +kernel), List.mem_of_getElem? (i := 1047) (by decide +kernel), List.mem_of_getElem? (i := 1048) (by decide +kernel)⟩
theorem lw_p42 : lw_okq (⟨"WorkOrdersModel", "benchAt", "(II)I"⟩, 27) := ⟨⟨by decide +kernel, by decide +kernel⟩, List.mem_of_getElem? (i := 798) (by decide +kernel), List.mem_of_getElem? (i := 1052) (by decide +kernel), List.mem_of_getElem? (i := 1053) (by decide +kernel)⟩
theorem lw_p43 : lw_okq (⟨"WorkOrdersModel", "heldAt", "(II)I"⟩, 27) := ⟨⟨by decide +kernel, by decide +kernel⟩, List.mem_of_getElem? (i := 798) (by decide +kernel), List.mem_of_getElem? (i := 1056) (by decide +kernel), List.mem_of_getElem? (i := 1057) (by decide +kernel)⟩
theorem lw_p44 : lw_okq (⟨"WorkOrdersModel", "freeBehind", "(I)I"⟩, 27) := ⟨⟨by decide +kernel, by decide +kernel⟩, List.mem_of_getElem? (i := 798) (by decide +kernel), List.mem_of_getElem? (i := 1076) (by decide +kernel), List.mem_of_getElem? (i := 1077) (by decide +kernel)⟩
theorem lw_p45 : lw_okq (⟨"WorkOrdersModel", "levelOf", "(I)I"⟩, 27) := ⟨⟨by decide +kernel, by decide +kernel⟩, List.mem_of_getElem? (i := 798) (by decide +kernel), List.mem_of_getElem? (i := 1080) (by decide +kernel), List.mem_of_getElem? (i := 1081) (by decide +kernel)⟩
theorem lw_p46 : lw_okq (⟨"WorkOrdersModel", "leastMinutes", "()I"⟩, 27) := ⟨⟨by decide +kernel, by decide +kernel⟩, List.mem_of_getElem? (i := 798) (by decide +kernel), List.mem_of_getElem? (i := 1088) (by decide +kernel), List.mem_of_getElem? (i := 1089) (by decide +kernel)⟩
def lw_privs_3 : List (MethodName × Nat) := [(⟨"WorkOrdersModel", "isLawful", "()Z"⟩, 27), (⟨"WorkOrdersModel", "rowEnd", "(IZ)I"⟩, 27), (⟨"WorkOrdersModel", "leaves", "(IIII)I"⟩, 27), (⟨"WorkOrdersModel", "makes", "(I)I"⟩, 27), (⟨"WorkOrdersModel", "nextOrder", "()Z"⟩, 27), (⟨"WorkOrdersModel", "swap", "(II)V"⟩, 27), (⟨"WorkOrdersModel", "byDue", "()V"⟩, 27), (⟨"WorkOrdersModel", "goBroken", "()I"⟩, 27), (⟨"WorkOrdersModel", "isSooner", "(II)Z"⟩, 27), (⟨"WorkOrdersModel", "allMinutes", "(I)I"⟩, 27), (⟨"WorkOrdersModel", "benchAt", "(II)I"⟩, 27), (⟨"WorkOrdersModel", "heldAt", "(II)I"⟩, 27), (⟨"WorkOrdersModel", "freeBehind", "(I)I"⟩, 27), (⟨"WorkOrdersModel", "levelOf", "(I)I"⟩, 27), (⟨"WorkOrdersModel", "leastMinutes", "()I"⟩, 27)]
theorem lw_r3 : ∀ q ∈ lw_privs_3, lw_okq q := List.forall_mem_cons.mpr ⟨lw_p32, List.forall_mem_cons.mpr ⟨lw_p33, List.forall_mem_cons.mpr ⟨lw_p34, List.forall_mem_cons.mpr ⟨lw_p35, List.forall_mem_cons.mpr ⟨lw_p36, List.forall_mem_cons.mpr ⟨lw_p37, List.forall_mem_cons.mpr ⟨lw_p38, List.forall_mem_cons.mpr ⟨lw_p39, List.forall_mem_cons.mpr ⟨lw_p40, List.forall_mem_cons.mpr ⟨lw_p41, List.forall_mem_cons.mpr ⟨lw_p42, List.forall_mem_cons.mpr ⟨lw_p43, List.forall_mem_cons.mpr ⟨lw_p44, List.forall_mem_cons.mpr ⟨lw_p45, List.forall_mem_cons.mpr ⟨lw_p46, fun _ h => absurd h List.not_mem_nil⟩⟩⟩⟩⟩⟩⟩⟩⟩⟩⟩⟩⟩⟩⟩
def lw_privs : List (MethodName × Nat) := lw_privs_1 ++ (lw_privs_2 ++ (lw_privs_3))
def lw_tbl : List Cond := k2_sels lw_privs ++ tables_1
theorem lw_privs_ok : ∀ q ∈ lw_privs, lw_okq q := by
  show ∀ q ∈ lw_privs_1 ++ (lw_privs_2 ++ (lw_privs_3)), lw_okq q
  exact List.forall_mem_append.mpr ⟨lw_r1, List.forall_mem_append.mpr ⟨lw_r2, lw_r3⟩⟩
end
section
def RX0 : String := "WorkOrders$BenchRules"
def TX0 : u_T := fun k => match k with
  | 0 => ("WorkOrders$BenchRules", "works", "LWorkOrders$Works;", true)
  | 1 => ("WorkOrders$BenchRules", "order", "[I", true)
  | _ => ("WorkOrders$BenchRules", "greatestLate", "I", false)
def tyX0 : Nat → FieldType := fun k => match k with
  | 0 => .object "WorkOrders$Works"
  | 1 => .array .int
  | _ => .int
abbrev wsX00 : List Cond := u_ws RX0 TX0 3
theorem nmX0 : ∀ a, a < 3 → ∀ b, b < 3 → a ≠ b → (TX0 a).2.1 ≠ (TX0 b).2.1 := by decide +kernel
theorem tyX0_ok : ∀ k, k < 3 → parseFieldDescriptor (TX0 k).2.2.1 = some (tyX0 k) := by decide +kernel
abbrev cX0_init : ByteArray := prog_2_method_1_code
def yX0_init : MethodName := ⟨RX0, "<init>", "(LWorkOrders$Works;)V"⟩
abbrev cX0_orderFromBehind : ByteArray := prog_2_method_2_code
def yX0_orderFromBehind : MethodName := ⟨RX0, "orderFromBehind", "()V"⟩
abbrev cX0_lastOf : ByteArray := prog_2_method_3_code
def yX0_lastOf : MethodName := ⟨RX0, "lastOf", "(II)I"⟩
abbrev cX0_leaders : ByteArray := prog_2_method_4_code
def yX0_leaders : MethodName := ⟨RX0, "leaders", "(I)I"⟩
abbrev cX0_fewestLate : ByteArray := prog_2_method_5_code
def yX0_fewestLate : MethodName := ⟨RX0, "fewestLate", "()I"⟩
abbrev cX0_orderByDue : ByteArray := prog_2_method_6_code
def yX0_orderByDue : MethodName := ⟨RX0, "orderByDue", "()V"⟩
abbrev cX0_longestOf : ByteArray := prog_2_method_7_code
def yX0_longestOf : MethodName := ⟨RX0, "longestOf", "(II)I"⟩
def RX1 : String := "WorkOrders$BestInRow"
def TX1 : u_T := fun k => match k with
  | 0 => ("WorkOrders$BestInRow", "works", "LWorkOrders$Works;", true)
  | 1 => ("WorkOrders$BestInRow", "row", "LWorkOrders$Row;", true)
  | 2 => ("WorkOrders$BestInRow", "order", "[I", true)
  | 3 => ("WorkOrders$BestInRow", "lastEnd", "I", false)
  | 4 => ("WorkOrders$BestInRow", "notSooner", "I", false)
  | 5 => ("WorkOrders$BestInRow", "trial", "[I", true)
  | _ => ("WorkOrders$BestInRow", "behind", "[[I", true)
def tyX1 : Nat → FieldType := fun k => match k with
  | 0 => .object "WorkOrders$Works"
  | 1 => .object "WorkOrders$Row"
  | 2 => .array .int
  | 3 => .int
  | 4 => .int
  | 5 => .array .int
  | _ => .array (.array .int)
abbrev wsX10 : List Cond := u_ws RX1 TX1 7
theorem nmX1 : ∀ a, a < 7 → ∀ b, b < 7 → a ≠ b → (TX1 a).2.1 ≠ (TX1 b).2.1 := by decide +kernel
theorem tyX1_ok : ∀ k, k < 7 → parseFieldDescriptor (TX1 k).2.2.1 = some (tyX1 k) := by decide +kernel
abbrev cX1_init : ByteArray := prog_3_method_1_code
def yX1_init : MethodName := ⟨RX1, "<init>", "(LWorkOrders$Works;LWorkOrders$Row;)V"⟩
abbrev cX1_seek : ByteArray := prog_3_method_2_code
def yX1_seek : MethodName := ⟨RX1, "seek", "()V"⟩
abbrev cX1_extend : ByteArray := prog_3_method_3_code
def yX1_extend : MethodName := ⟨RX1, "extend", "(III)V"⟩
abbrev cX1_keepIfSooner : ByteArray := prog_3_method_4_code
def yX1_keepIfSooner : MethodName := ⟨RX1, "keepIfSooner", "(I)V"⟩
abbrev cX1_endsAtLeast : ByteArray := prog_3_method_5_code
def yX1_endsAtLeast : MethodName := ⟨RX1, "endsAtLeast", "(III)I"⟩
def RX2 : String := "WorkOrders$BestOrder"
def TX2 : u_T := fun k => match k with
  | 0 => ("WorkOrders$BestOrder", "works", "LWorkOrders$Works;", true)
  | 1 => ("WorkOrders$BestOrder", "order", "[I", true)
  | 2 => ("WorkOrders$BestOrder", "made", "I", false)
  | 3 => ("WorkOrders$BestOrder", "aim", "I", false)
  | 4 => ("WorkOrders$BestOrder", "trial", "[I", true)
  | 5 => ("WorkOrders$BestOrder", "triedEnd", "[I", true)
  | _ => ("WorkOrders$BestOrder", "triedMade", "[I", true)
def tyX2 : Nat → FieldType := fun k => match k with
  | 0 => .object "WorkOrders$Works"
  | 1 => .array .int
  | 2 => .int
  | 3 => .int
  | 4 => .array .int
  | 5 => .array .int
  | _ => .array .int
abbrev wsX20 : List Cond := u_ws RX2 TX2 7
theorem nmX2 : ∀ a, a < 7 → ∀ b, b < 7 → a ≠ b → (TX2 a).2.1 ≠ (TX2 b).2.1 := by decide +kernel
theorem tyX2_ok : ∀ k, k < 7 → parseFieldDescriptor (TX2 k).2.2.1 = some (tyX2 k) := by decide +kernel
abbrev cX2_init : ByteArray := prog_4_method_1_code
def yX2_init : MethodName := ⟨RX2, "<init>", "(LWorkOrders$Works;)V"⟩
abbrev cX2_seek : ByteArray := prog_4_method_2_code
def yX2_seek : MethodName := ⟨RX2, "seek", "(I)V"⟩
abbrev cX2_extend : ByteArray := prog_4_method_3_code
def yX2_extend : MethodName := ⟨RX2, "extend", "(IIIII)V"⟩
abbrev cX2_keepIfLess : ByteArray := prog_4_method_4_code
def yX2_keepIfLess : MethodName := ⟨RX2, "keepIfLess", "(I)V"⟩
abbrev cX2_notLess : ByteArray := prog_4_method_5_code
def yX2_notLess : MethodName := ⟨RX2, "notLess", "(III)I"⟩
abbrev cX2_triedAsGood : ByteArray := prog_4_method_6_code
def yX2_triedAsGood : MethodName := ⟨RX2, "triedAsGood", "(IIII)Z"⟩
def RX3 : String := "WorkOrders$BrokenWork"
def TX3 : u_T := fun k => match k with
  | 0 => ("WorkOrders$BrokenWork", "works", "LWorkOrders$Works;", true)
  | 1 => ("WorkOrders$BrokenWork", "whyFrom", "I", false)
  | 2 => ("WorkOrders$BrokenWork", "whyTill", "I", false)
  | _ => ("WorkOrders$BrokenWork", "left", "[I", true)
def tyX3 : Nat → FieldType := fun k => match k with
  | 0 => .object "WorkOrders$Works"
  | 1 => .int
  | 2 => .int
  | _ => .array .int
abbrev wsX30 : List Cond := u_ws RX3 TX3 4
theorem nmX3 : ∀ a, a < 4 → ∀ b, b < 4 → a ≠ b → (TX3 a).2.1 ≠ (TX3 b).2.1 := by decide +kernel
theorem tyX3_ok : ∀ k, k < 4 → parseFieldDescriptor (TX3 k).2.2.1 = some (tyX3 k) := by decide +kernel
abbrev cX3_init : ByteArray := prog_5_method_1_code
def yX3_init : MethodName := ⟨RX3, "<init>", "(LWorkOrders$Works;)V"⟩
abbrev cX3_greatestLate : ByteArray := prog_5_method_2_code
def yX3_greatestLate : MethodName := ⟨RX3, "greatestLate", "()I"⟩
abbrev cX3_workIn : ByteArray := prog_5_method_3_code
def yX3_workIn : MethodName := ⟨RX3, "workIn", "(I)I"⟩
abbrev cX3_begin : ByteArray := prog_5_method_4_code
def yX3_begin : MethodName := ⟨RX3, "begin", "()V"⟩
abbrev cX3_workOn : ByteArray := prog_5_method_5_code
def yX3_workOn : MethodName := ⟨RX3, "workOn", "(I)I"⟩
abbrev cX3_findWhy : ByteArray := prog_5_method_6_code
def yX3_findWhy : MethodName := ⟨RX3, "findWhy", "()V"⟩
abbrev cX3_isSooner : ByteArray := prog_5_method_7_code
def yX3_isSooner : MethodName := ⟨RX3, "isSooner", "(II)Z"⟩
abbrev cX3_over : ByteArray := prog_5_method_8_code
def yX3_over : MethodName := ⟨RX3, "over", "(II)I"⟩
def RX4 : String := "WorkOrders$Row"
def TX4 : u_T := fun k => match k with
  | 0 => ("WorkOrders$Row", "works", "LWorkOrders$Works;", true)
  | 1 => ("WorkOrders$Row", "size", "I", false)
  | 2 => ("WorkOrders$Row", "ways", "[I", true)
  | 3 => ("WorkOrders$Row", "begins", "[[I", true)
  | _ => ("WorkOrders$Row", "leaves", "[[I", true)
def tyX4 : Nat → FieldType := fun k => match k with
  | 0 => .object "WorkOrders$Works"
  | 1 => .int
  | 2 => .array .int
  | 3 => .array (.array .int)
  | _ => .array (.array .int)
abbrev wsX40 : List Cond := u_ws RX4 TX4 5
theorem nmX4 : ∀ a, a < 5 → ∀ b, b < 5 → a ≠ b → (TX4 a).2.1 ≠ (TX4 b).2.1 := by decide +kernel
theorem tyX4_ok : ∀ k, k < 5 → parseFieldDescriptor (TX4 k).2.2.1 = some (tyX4 k) := by decide +kernel
abbrev cX4_init : ByteArray := prog_6_method_1_code
def yX4_init : MethodName := ⟨RX4, "<init>", "(LWorkOrders$Works;)V"⟩
abbrev cX4_lastEnd : ByteArray := prog_6_method_2_code
def yX4_lastEnd : MethodName := ⟨RX4, "lastEnd", "([I)I"⟩
abbrev cX4_send : ByteArray := prog_6_method_3_code
def yX4_send : MethodName := ⟨RX4, "send", "(II)I"⟩
abbrev cX4_roomAhead : ByteArray := prog_6_method_4_code
def yX4_roomAhead : MethodName := ⟨RX4, "roomAhead", "(II)I"⟩
abbrev cX4_timeBetween : ByteArray := prog_6_method_5_code
def yX4_timeBetween : MethodName := ⟨RX4, "timeBetween", "(III)I"⟩
abbrev cX4_notSooner : ByteArray := prog_6_method_6_code
def yX4_notSooner : MethodName := ⟨RX4, "notSooner", "()I"⟩
abbrev cX4_notSoonerBy : ByteArray := prog_6_method_7_code
def yX4_notSoonerBy : MethodName := ⟨RX4, "notSoonerBy", "(I)I"⟩
abbrev cX4_foldInto : ByteArray := prog_6_method_8_code
def yX4_foldInto : MethodName := ⟨RX4, "foldInto", "(J)J"⟩
def RX5 : String := "WorkOrders$RowRule"
def TX5 : u_T := fun k => match k with
  | 0 => ("WorkOrders$RowRule", "works", "LWorkOrders$Works;", true)
  | _ => ("WorkOrders$RowRule", "order", "[I", true)
def tyX5 : Nat → FieldType := fun k => match k with
  | 0 => .object "WorkOrders$Works"
  | _ => .array .int
abbrev wsX50 : List Cond := u_ws RX5 TX5 2
theorem nmX5 : ∀ a, a < 2 → ∀ b, b < 2 → a ≠ b → (TX5 a).2.1 ≠ (TX5 b).2.1 := by decide +kernel
theorem tyX5_ok : ∀ k, k < 2 → parseFieldDescriptor (TX5 k).2.2.1 = some (tyX5 k) := by decide +kernel
abbrev cX5_init : ByteArray := prog_7_method_1_code
def yX5_init : MethodName := ⟨RX5, "<init>", "(LWorkOrders$Works;)V"⟩
abbrev cX5_putInOrder : ByteArray := prog_7_method_2_code
def yX5_putInOrder : MethodName := ⟨RX5, "putInOrder", "()V"⟩
abbrev cX5_goesAhead : ByteArray := prog_7_method_3_code
def yX5_goesAhead : MethodName := ⟨RX5, "goesAhead", "(II)Z"⟩
abbrev cX5_isShorterFirst : ByteArray := prog_7_method_4_code
def yX5_isShorterFirst : MethodName := ⟨RX5, "isShorterFirst", "(I)Z"⟩
abbrev cX5_lastEnd : ByteArray := prog_7_method_5_code
def yX5_lastEnd : MethodName := ⟨RX5, "lastEnd", "()I"⟩
abbrev cX5_inAnyOrder : ByteArray := prog_7_method_6_code
def yX5_inAnyOrder : MethodName := ⟨RX5, "inAnyOrder", "()I"⟩
def RX6 : String := "WorkOrders$ToldOrder"
def TX6 : u_T := fun k => match k with
  | 0 => ("WorkOrders$ToldOrder", "size", "I", false)
  | 1 => ("WorkOrders$ToldOrder", "members", "I", false)
  | _ => ("WorkOrders$ToldOrder", "order", "[I", true)
def tyX6 : Nat → FieldType := fun k => match k with
  | 0 => .int
  | 1 => .int
  | _ => .array .int
abbrev wsX60 : List Cond := u_ws RX6 TX6 3
theorem nmX6 : ∀ a, a < 3 → ∀ b, b < 3 → a ≠ b → (TX6 a).2.1 ≠ (TX6 b).2.1 := by decide +kernel
theorem tyX6_ok : ∀ k, k < 3 → parseFieldDescriptor (TX6 k).2.2.1 = some (tyX6 k) := by decide +kernel
abbrev cX6_init : ByteArray := prog_8_method_1_code
def yX6_init : MethodName := ⟨RX6, "<init>", "()V"⟩
abbrev cX6_holds : ByteArray := prog_8_method_2_code
def yX6_holds : MethodName := ⟨RX6, "holds", "(I)Z"⟩
abbrev cX6_add : ByteArray := prog_8_method_3_code
def yX6_add : MethodName := ⟨RX6, "add", "(I)I"⟩
abbrev cX6_empty : ByteArray := prog_8_method_4_code
def yX6_empty : MethodName := ⟨RX6, "empty", "()I"⟩
abbrev cX6_foldInto : ByteArray := prog_8_method_5_code
def yX6_foldInto : MethodName := ⟨RX6, "foldInto", "(J)J"⟩
def RX7 : String := "WorkOrders$Tree"
def TX7 : u_T := fun k => match k with
  | 0 => ("WorkOrders$Tree", "size", "I", false)
  | 1 => ("WorkOrders$Tree", "likeBenches", "I", false)
  | 2 => ("WorkOrders$Tree", "minuteOf", "[I", true)
  | 3 => ("WorkOrders$Tree", "hangsOn", "[I", true)
  | 4 => ("WorkOrders$Tree", "levelOf", "[I", true)
  | _ => ("WorkOrders$Tree", "fewest", "[B", true)
def tyX7 : Nat → FieldType := fun k => match k with
  | 0 => .int
  | 1 => .int
  | 2 => .array .int
  | 3 => .array .int
  | 4 => .array .int
  | _ => .array .byte
abbrev wsX70 : List Cond := u_ws RX7 TX7 6
theorem nmX7 : ∀ a, a < 6 → ∀ b, b < 6 → a ≠ b → (TX7 a).2.1 ≠ (TX7 b).2.1 := by decide +kernel
theorem tyX7_ok : ∀ k, k < 6 → parseFieldDescriptor (TX7 k).2.2.1 = some (tyX7 k) := by decide +kernel
abbrev cX7_init : ByteArray := prog_9_method_1_code
def yX7_init : MethodName := ⟨RX7, "<init>", "()V"⟩
abbrev cX7_add : ByteArray := prog_9_method_2_code
def yX7_add : MethodName := ⟨RX7, "add", "(I)I"⟩
abbrev cX7_empty : ByteArray := prog_9_method_3_code
def yX7_empty : MethodName := ⟨RX7, "empty", "()I"⟩
abbrev cX7_all : ByteArray := prog_9_method_4_code
def yX7_all : MethodName := ⟨RX7, "all", "()I"⟩
abbrev cX7_freeBehind : ByteArray := prog_9_method_5_code
def yX7_freeBehind : MethodName := ⟨RX7, "freeBehind", "(I)I"⟩
abbrev cX7_goByLevels : ByteArray := prog_9_method_6_code
def yX7_goByLevels : MethodName := ⟨RX7, "goByLevels", "()I"⟩
abbrev cX7_highestOf : ByteArray := prog_9_method_7_code
def yX7_highestOf : MethodName := ⟨RX7, "highestOf", "(I)I"⟩
abbrev cX7_leastMinutes : ByteArray := prog_9_method_8_code
def yX7_leastMinutes : MethodName := ⟨RX7, "leastMinutes", "()I"⟩
abbrev cX7_takeFrom : ByteArray := prog_9_method_9_code
def yX7_takeFrom : MethodName := ⟨RX7, "takeFrom", "(IIII)V"⟩
abbrev cX7_notSooner : ByteArray := prog_9_method_10_code
def yX7_notSooner : MethodName := ⟨RX7, "notSooner", "()I"⟩
abbrev cX7_atOrAbove : ByteArray := prog_9_method_11_code
def yX7_atOrAbove : MethodName := ⟨RX7, "atOrAbove", "(I)I"⟩
abbrev cX7_cutUp : ByteArray := prog_9_method_12_code
def yX7_cutUp : MethodName := ⟨RX7, "cutUp", "(I)I"⟩
abbrev cX7_foldInto : ByteArray := prog_9_method_13_code
def yX7_foldInto : MethodName := ⟨RX7, "foldInto", "(J)J"⟩
def RX8 : String := "WorkOrders$TwoWorks"
def TX8 : u_T := fun k => match k with
  | 0 => ("WorkOrders$TwoWorks", "sizes", "[I", true)
  | 1 => ("WorkOrders$TwoWorks", "benchOf", "[[I", true)
  | 2 => ("WorkOrders$TwoWorks", "minutesOf", "[[I", true)
  | 3 => ("WorkOrders$TwoWorks", "minuteOn", "[[I", true)
  | 4 => ("WorkOrders$TwoWorks", "held", "[[I", true)
  | _ => ("WorkOrders$TwoWorks", "fewest", "[[I", true)
def tyX8 : Nat → FieldType := fun k => match k with
  | 0 => .array .int
  | 1 => .array (.array .int)
  | 2 => .array (.array .int)
  | 3 => .array (.array .int)
  | 4 => .array (.array .int)
  | _ => .array (.array .int)
abbrev wsX80 : List Cond := u_ws RX8 TX8 6
theorem nmX8 : ∀ a, a < 6 → ∀ b, b < 6 → a ≠ b → (TX8 a).2.1 ≠ (TX8 b).2.1 := by decide +kernel
theorem tyX8_ok : ∀ k, k < 6 → parseFieldDescriptor (TX8 k).2.2.1 = some (tyX8 k) := by decide +kernel
abbrev cX8_init : ByteArray := prog_10_method_1_code
def yX8_init : MethodName := ⟨RX8, "<init>", "()V"⟩
abbrev cX8_add : ByteArray := prog_10_method_2_code
def yX8_add : MethodName := ⟨RX8, "add", "(III)I"⟩
abbrev cX8_empty : ByteArray := prog_10_method_3_code
def yX8_empty : MethodName := ⟨RX8, "empty", "()I"⟩
abbrev cX8_fewestMinutes : ByteArray := prog_10_method_4_code
def yX8_fewestMinutes : MethodName := ⟨RX8, "fewestMinutes", "()I"⟩
abbrev cX8_layOut : ByteArray := prog_10_method_5_code
def yX8_layOut : MethodName := ⟨RX8, "layOut", "(I)I"⟩
abbrev cX8_fewestTo : ByteArray := prog_10_method_6_code
def yX8_fewestTo : MethodName := ⟨RX8, "fewestTo", "(II)I"⟩
abbrev cX8_foldInto : ByteArray := prog_10_method_7_code
def yX8_foldInto : MethodName := ⟨RX8, "foldInto", "(J)J"⟩
def RX9 : String := "WorkOrders$Works"
def TX9 : u_T := fun k => match k with
  | 0 => ("WorkOrders$Works", "size", "I", false)
  | 1 => ("WorkOrders$Works", "traits", "[[I", true)
  | 2 => ("WorkOrders$Works", "aheadOf", "[I", true)
  | 3 => ("WorkOrders$Works", "changes", "[[I", true)
  | _ => ("WorkOrders$Works", "times", "[[I", true)
def tyX9 : Nat → FieldType := fun k => match k with
  | 0 => .int
  | 1 => .array (.array .int)
  | 2 => .array .int
  | 3 => .array (.array .int)
  | _ => .array (.array .int)
abbrev wsX90 : List Cond := u_ws RX9 TX9 5
theorem nmX9 : ∀ a, a < 5 → ∀ b, b < 5 → a ≠ b → (TX9 a).2.1 ≠ (TX9 b).2.1 := by decide +kernel
theorem tyX9_ok : ∀ k, k < 5 → parseFieldDescriptor (TX9 k).2.2.1 = some (tyX9 k) := by decide +kernel
abbrev cX9_init : ByteArray := prog_11_method_1_code
def yX9_init : MethodName := ⟨RX9, "<init>", "()V"⟩
abbrev cX9_add : ByteArray := prog_11_method_2_code
def yX9_add : MethodName := ⟨RX9, "add", "(I)I"⟩
abbrev cX9_has : ByteArray := prog_11_method_3_code
def yX9_has : MethodName := ⟨RX9, "has", "(I)Z"⟩
abbrev cX9_all : ByteArray := prog_11_method_4_code
def yX9_all : MethodName := ⟨RX9, "all", "()I"⟩
abbrev cX9_isToldAhead : ByteArray := prog_11_method_5_code
def yX9_isToldAhead : MethodName := ⟨RX9, "isToldAhead", "(II)Z"⟩
abbrev cX9_tellAhead : ByteArray := prog_11_method_6_code
def yX9_tellAhead : MethodName := ⟨RX9, "tellAhead", "(IIZ)V"⟩
abbrev cX9_isAheadByOthersToo : ByteArray := prog_11_method_7_code
def yX9_isAheadByOthersToo : MethodName := ⟨RX9, "isAheadByOthersToo", "(II)Z"⟩
abbrev cX9_mayFollow : ByteArray := prog_11_method_8_code
def yX9_mayFollow : MethodName := ⟨RX9, "mayFollow", "(II)Z"⟩
abbrev cX9_keepsAhead : ByteArray := prog_11_method_9_code
def yX9_keepsAhead : MethodName := ⟨RX9, "keepsAhead", "([I)Z"⟩
abbrev cX9_allLong : ByteArray := prog_11_method_10_code
def yX9_allLong : MethodName := ⟨RX9, "allLong", "()I"⟩
abbrev cX9_late : ByteArray := prog_11_method_11_code
def yX9_late : MethodName := ⟨RX9, "late", "(II)I"⟩
abbrev cX9_endBehind : ByteArray := prog_11_method_12_code
def yX9_endBehind : MethodName := ⟨RX9, "endBehind", "(II)I"⟩
abbrev cX9_changeFor : ByteArray := prog_11_method_13_code
def yX9_changeFor : MethodName := ⟨RX9, "changeFor", "(II)I"⟩
abbrev cX9_gathered : ByteArray := prog_11_method_14_code
def yX9_gathered : MethodName := ⟨RX9, "gathered", "(IIII)I"⟩
abbrev cX9_makes : ByteArray := prog_11_method_15_code
def yX9_makes : MethodName := ⟨RX9, "makes", "(I[I)I"⟩
abbrev cX9_foldInto : ByteArray := prog_11_method_16_code
def yX9_foldInto : MethodName := ⟨RX9, "foldInto", "(J)J"⟩
def RX10 : String := "WorkOrders"
def TX10 : u_T := fun k => match k with
  | 0 => ("WorkOrders", "works", "LWorkOrders$Works;", true)
  | 1 => ("WorkOrders", "told", "LWorkOrders$ToldOrder;", true)
  | 2 => ("WorkOrders", "bestOrder", "LWorkOrders$BestOrder;", true)
  | 3 => ("WorkOrders", "benchRules", "LWorkOrders$BenchRules;", true)
  | 4 => ("WorkOrders", "brokenWork", "LWorkOrders$BrokenWork;", true)
  | 5 => ("WorkOrders", "row", "LWorkOrders$Row;", true)
  | 6 => ("WorkOrders", "bestInRow", "LWorkOrders$BestInRow;", true)
  | 7 => ("WorkOrders", "rowRule", "LWorkOrders$RowRule;", true)
  | 8 => ("WorkOrders", "twoWorks", "LWorkOrders$TwoWorks;", true)
  | _ => ("WorkOrders", "tree", "LWorkOrders$Tree;", true)
def tyX10 : Nat → FieldType := fun k => match k with
  | 0 => .object "WorkOrders$Works"
  | 1 => .object "WorkOrders$ToldOrder"
  | 2 => .object "WorkOrders$BestOrder"
  | 3 => .object "WorkOrders$BenchRules"
  | 4 => .object "WorkOrders$BrokenWork"
  | 5 => .object "WorkOrders$Row"
  | 6 => .object "WorkOrders$BestInRow"
  | 7 => .object "WorkOrders$RowRule"
  | 8 => .object "WorkOrders$TwoWorks"
  | _ => .object "WorkOrders$Tree"
abbrev wsX100 : List Cond := u_ws RX10 TX10 10
theorem nmX10 : ∀ a, a < 10 → ∀ b, b < 10 → a ≠ b → (TX10 a).2.1 ≠ (TX10 b).2.1 := by decide +kernel
theorem tyX10_ok : ∀ k, k < 10 → parseFieldDescriptor (TX10 k).2.2.1 = some (tyX10 k) := by decide +kernel
abbrev cX10_init : ByteArray := prog_1_method_1_code
def yX10_init : MethodName := ⟨RX10, "<init>", "()V"⟩
abbrev cX10_work : ByteArray := prog_1_method_2_code
def yX10_work : MethodName := ⟨RX10, "work", "(I)I"⟩
abbrev cX10_put : ByteArray := prog_1_method_3_code
def yX10_put : MethodName := ⟨RX10, "put", "(III)I"⟩
abbrev cX10_ahead : ByteArray := prog_1_method_4_code
def yX10_ahead : MethodName := ⟨RX10, "ahead", "(IIZ)I"⟩
abbrev cX10_change : ByteArray := prog_1_method_5_code
def yX10_change : MethodName := ⟨RX10, "change", "(III)I"⟩
abbrev cX10_best : ByteArray := prog_1_method_6_code
def yX10_best : MethodName := ⟨RX10, "best", "(II)I"⟩
abbrev cX10_lastFirst : ByteArray := prog_1_method_7_code
def yX10_lastFirst : MethodName := ⟨RX10, "lastFirst", "(I)I"⟩
abbrev cX10_onTime : ByteArray := prog_1_method_8_code
def yX10_onTime : MethodName := ⟨RX10, "onTime", "()I"⟩
abbrev cX10_broken : ByteArray := prog_1_method_9_code
def yX10_broken : MethodName := ⟨RX10, "broken", "(I)I"⟩
abbrev cX10_minute : ByteArray := prog_1_method_10_code
def yX10_minute : MethodName := ⟨RX10, "minute", "(I)I"⟩
abbrev cX10_next : ByteArray := prog_1_method_11_code
def yX10_next : MethodName := ⟨RX10, "next", "(I)I"⟩
abbrev cX10_anew : ByteArray := prog_1_method_12_code
def yX10_anew : MethodName := ⟨RX10, "anew", "()I"⟩
abbrev cX10_judge : ByteArray := prog_1_method_13_code
def yX10_judge : MethodName := ⟨RX10, "judge", "(I)I"⟩
abbrev cX10_benches : ByteArray := prog_1_method_14_code
def yX10_benches : MethodName := ⟨RX10, "benches", "(I)I"⟩
abbrev cX10_needs : ByteArray := prog_1_method_15_code
def yX10_needs : MethodName := ⟨RX10, "needs", "(III)I"⟩
abbrev cX10_way : ByteArray := prog_1_method_16_code
def yX10_way : MethodName := ⟨RX10, "way", "(II)I"⟩
abbrev cX10_byRule : ByteArray := prog_1_method_17_code
def yX10_byRule : MethodName := ⟨RX10, "byRule", "(I)I"⟩
abbrev cX10_bestRow : ByteArray := prog_1_method_18_code
def yX10_bestRow : MethodName := ⟨RX10, "bestRow", "(I)I"⟩
abbrev cX10_bound : ByteArray := prog_1_method_19_code
def yX10_bound : MethodName := ⟨RX10, "bound", "()I"⟩
abbrev cX10_any : ByteArray := prog_1_method_20_code
def yX10_any : MethodName := ⟨RX10, "any", "()I"⟩
abbrev cX10_step : ByteArray := prog_1_method_21_code
def yX10_step : MethodName := ⟨RX10, "step", "(III)I"⟩
abbrev cX10_clear : ByteArray := prog_1_method_22_code
def yX10_clear : MethodName := ⟨RX10, "clear", "()I"⟩
abbrev cX10_walk : ByteArray := prog_1_method_23_code
def yX10_walk : MethodName := ⟨RX10, "walk", "()I"⟩
abbrev cX10_leaf : ByteArray := prog_1_method_24_code
def yX10_leaf : MethodName := ⟨RX10, "leaf", "(I)I"⟩
abbrev cX10_fell : ByteArray := prog_1_method_25_code
def yX10_fell : MethodName := ⟨RX10, "fell", "()I"⟩
abbrev cX10_likes : ByteArray := prog_1_method_26_code
def yX10_likes : MethodName := ⟨RX10, "likes", "(I)I"⟩
abbrev cX10_levels : ByteArray := prog_1_method_27_code
def yX10_levels : MethodName := ⟨RX10, "levels", "(I)I"⟩
abbrev cX10_least : ByteArray := prog_1_method_28_code
def yX10_least : MethodName := ⟨RX10, "least", "(I)I"⟩
abbrev cX10_count : ByteArray := prog_1_method_29_code
def yX10_count : MethodName := ⟨RX10, "count", "(I)I"⟩
abbrev cX10_digest : ByteArray := prog_1_method_30_code
def yX10_digest : MethodName := ⟨RX10, "digest", "()J"⟩
abbrev cX10_isFrom : ByteArray := prog_1_method_31_code
def yX10_isFrom : MethodName := ⟨RX10, "isFrom", "(III)Z"⟩
abbrev cX10_isIn : ByteArray := prog_1_method_32_code
def yX10_isIn : MethodName := ⟨RX10, "isIn", "(II)Z"⟩
abbrev cX10_fold : ByteArray := prog_1_method_33_code
def yX10_fold : MethodName := ⟨RX10, "fold", "(JI)J"⟩
def RX11 : String := "WorkOrdersModel"
def TX11 : u_T := fun k => match k with
  | 0 => ("WorkOrdersModel", "many", "I", false)
  | 1 => ("WorkOrdersModel", "longs", "[I", true)
  | 2 => ("WorkOrdersModel", "comes", "[I", true)
  | 3 => ("WorkOrdersModel", "dues", "[I", true)
  | 4 => ("WorkOrdersModel", "weights", "[I", true)
  | 5 => ("WorkOrdersModel", "tools", "[I", true)
  | 6 => ("WorkOrdersModel", "aheads", "[I", true)
  | 7 => ("WorkOrdersModel", "changes", "[I", true)
  | 8 => ("WorkOrdersModel", "needs", "[I", true)
  | 9 => ("WorkOrdersModel", "benches", "I", false)
  | 10 => ("WorkOrdersModel", "ways", "[I", true)
  | 11 => ("WorkOrdersModel", "told", "[I", true)
  | 12 => ("WorkOrdersModel", "toldMany", "I", false)
  | 13 => ("WorkOrdersModel", "steps", "[I", true)
  | 14 => ("WorkOrdersModel", "stepMany", "[I", true)
  | 15 => ("WorkOrdersModel", "leaves", "I", false)
  | 16 => ("WorkOrdersModel", "hangs", "[I", true)
  | 17 => ("WorkOrdersModel", "likes", "I", false)
  | 18 => ("WorkOrdersModel", "order", "[I", true)
  | 19 => ("WorkOrdersModel", "best", "[I", true)
  | 20 => ("WorkOrdersModel", "minutes", "[I", true)
  | 21 => ("WorkOrdersModel", "lefts", "[I", true)
  | 22 => ("WorkOrdersModel", "begins", "[I", true)
  | 23 => ("WorkOrdersModel", "left", "[I", true)
  | 24 => ("WorkOrdersModel", "walked", "[I", true)
  | 25 => ("WorkOrdersModel", "minuteOf", "[I", true)
  | _ => ("WorkOrdersModel", "soonest", "[I", true)
def tyX11 : Nat → FieldType := fun k => match k with
  | 0 => .int
  | 1 => .array .int
  | 2 => .array .int
  | 3 => .array .int
  | 4 => .array .int
  | 5 => .array .int
  | 6 => .array .int
  | 7 => .array .int
  | 8 => .array .int
  | 9 => .int
  | 10 => .array .int
  | 11 => .array .int
  | 12 => .int
  | 13 => .array .int
  | 14 => .array .int
  | 15 => .int
  | 16 => .array .int
  | 17 => .int
  | 18 => .array .int
  | 19 => .array .int
  | 20 => .array .int
  | 21 => .array .int
  | 22 => .array .int
  | 23 => .array .int
  | 24 => .array .int
  | 25 => .array .int
  | _ => .array .int
abbrev wsX110 : List Cond := u_ws RX11 TX11 27
theorem nmX11 : ∀ a, a < 27 → ∀ b, b < 27 → a ≠ b → (TX11 a).2.1 ≠ (TX11 b).2.1 := by decide +kernel
theorem tyX11_ok : ∀ k, k < 27 → parseFieldDescriptor (TX11 k).2.2.1 = some (tyX11 k) := by decide +kernel
abbrev cX11_init : ByteArray := prog_13_method_1_code
def yX11_init : MethodName := ⟨RX11, "<init>", "()V"⟩
abbrev cX11_in : ByteArray := prog_13_method_3_code
def yX11_in : MethodName := ⟨RX11, "in", "(JJJ)Z"⟩
abbrev cX11_isWork : ByteArray := prog_13_method_4_code
def yX11_isWork : MethodName := ⟨RX11, "isWork", "(I)Z"⟩
abbrev cX11_work : ByteArray := prog_13_method_5_code
def yX11_work : MethodName := ⟨RX11, "work", "(I)I"⟩
abbrev cX11_put : ByteArray := prog_13_method_6_code
def yX11_put : MethodName := ⟨RX11, "put", "(III)I"⟩
abbrev cX11_allAhead : ByteArray := prog_13_method_7_code
def yX11_allAhead : MethodName := ⟨RX11, "allAhead", "(I)I"⟩
abbrev cX11_ahead : ByteArray := prog_13_method_8_code
def yX11_ahead : MethodName := ⟨RX11, "ahead", "(IIZ)I"⟩
abbrev cX11_isTool : ByteArray := prog_13_method_9_code
def yX11_isTool : MethodName := ⟨RX11, "isTool", "(I)Z"⟩
abbrev cX11_change : ByteArray := prog_13_method_10_code
def yX11_change : MethodName := ⟨RX11, "change", "(III)I"⟩
abbrev cX11_isLawful : ByteArray := prog_13_method_11_code
def yX11_isLawful : MethodName := ⟨RX11, "isLawful", "()Z"⟩
abbrev cX11_makes : ByteArray := prog_13_method_12_code
def yX11_makes : MethodName := ⟨RX11, "makes", "(I)I"⟩
abbrev cX11_firstOrder : ByteArray := prog_13_method_13_code
def yX11_firstOrder : MethodName := ⟨RX11, "firstOrder", "()V"⟩
abbrev cX11_nextOrder : ByteArray := prog_13_method_14_code
def yX11_nextOrder : MethodName := ⟨RX11, "nextOrder", "()Z"⟩
abbrev cX11_swap : ByteArray := prog_13_method_15_code
def yX11_swap : MethodName := ⟨RX11, "swap", "(II)V"⟩
abbrev cX11_goOver : ByteArray := prog_13_method_16_code
def yX11_goOver : MethodName := ⟨RX11, "goOver", "(I)I"⟩
abbrev cX11_isPlace : ByteArray := prog_13_method_17_code
def yX11_isPlace : MethodName := ⟨RX11, "isPlace", "(I)Z"⟩
abbrev cX11_best : ByteArray := prog_13_method_18_code
def yX11_best : MethodName := ⟨RX11, "best", "(II)I"⟩
abbrev cX11_lastFirst : ByteArray := prog_13_method_19_code
def yX11_lastFirst : MethodName := ⟨RX11, "lastFirst", "(I)I"⟩
abbrev cX11_byDue : ByteArray := prog_13_method_20_code
def yX11_byDue : MethodName := ⟨RX11, "byDue", "()V"⟩
abbrev cX11_onTime : ByteArray := prog_13_method_21_code
def yX11_onTime : MethodName := ⟨RX11, "onTime", "()I"⟩
abbrev cX11_goBroken : ByteArray := prog_13_method_22_code
def yX11_goBroken : MethodName := ⟨RX11, "goBroken", "()I"⟩
abbrev cX11_broken : ByteArray := prog_13_method_23_code
def yX11_broken : MethodName := ⟨RX11, "broken", "(I)I"⟩
abbrev cX11_minute : ByteArray := prog_13_method_24_code
def yX11_minute : MethodName := ⟨RX11, "minute", "(I)I"⟩
abbrev cX11_next : ByteArray := prog_13_method_25_code
def yX11_next : MethodName := ⟨RX11, "next", "(I)I"⟩
abbrev cX11_anew : ByteArray := prog_13_method_26_code
def yX11_anew : MethodName := ⟨RX11, "anew", "()I"⟩
abbrev cX11_judge : ByteArray := prog_13_method_27_code
def yX11_judge : MethodName := ⟨RX11, "judge", "(I)I"⟩
abbrev cX11_rowEnd : ByteArray := prog_13_method_28_code
def yX11_rowEnd : MethodName := ⟨RX11, "rowEnd", "(IZ)I"⟩
abbrev cX11_leaves : ByteArray := prog_13_method_29_code
def yX11_leaves : MethodName := ⟨RX11, "leaves", "(IIII)I"⟩
abbrev cX11_benches : ByteArray := prog_13_method_30_code
def yX11_benches : MethodName := ⟨RX11, "benches", "(I)I"⟩
abbrev cX11_needs : ByteArray := prog_13_method_31_code
def yX11_needs : MethodName := ⟨RX11, "needs", "(III)I"⟩
abbrev cX11_way : ByteArray := prog_13_method_32_code
def yX11_way : MethodName := ⟨RX11, "way", "(II)I"⟩
abbrev cX11_isSooner : ByteArray := prog_13_method_33_code
def yX11_isSooner : MethodName := ⟨RX11, "isSooner", "(II)Z"⟩
abbrev cX11_byRule : ByteArray := prog_13_method_34_code
def yX11_byRule : MethodName := ⟨RX11, "byRule", "(I)I"⟩
abbrev cX11_bestRow : ByteArray := prog_13_method_35_code
def yX11_bestRow : MethodName := ⟨RX11, "bestRow", "(I)I"⟩
abbrev cX11_bound : ByteArray := prog_13_method_36_code
def yX11_bound : MethodName := ⟨RX11, "bound", "()I"⟩
abbrev cX11_any : ByteArray := prog_13_method_37_code
def yX11_any : MethodName := ⟨RX11, "any", "()I"⟩
abbrev cX11_step : ByteArray := prog_13_method_38_code
def yX11_step : MethodName := ⟨RX11, "step", "(III)I"⟩
abbrev cX11_clear : ByteArray := prog_13_method_39_code
def yX11_clear : MethodName := ⟨RX11, "clear", "()I"⟩
abbrev cX11_allMinutes : ByteArray := prog_13_method_40_code
def yX11_allMinutes : MethodName := ⟨RX11, "allMinutes", "(I)I"⟩
abbrev cX11_benchAt : ByteArray := prog_13_method_41_code
def yX11_benchAt : MethodName := ⟨RX11, "benchAt", "(II)I"⟩
abbrev cX11_heldAt : ByteArray := prog_13_method_42_code
def yX11_heldAt : MethodName := ⟨RX11, "heldAt", "(II)I"⟩
abbrev cX11_walk : ByteArray := prog_13_method_43_code
def yX11_walk : MethodName := ⟨RX11, "walk", "()I"⟩
abbrev cX11_leaf : ByteArray := prog_13_method_44_code
def yX11_leaf : MethodName := ⟨RX11, "leaf", "(I)I"⟩
abbrev cX11_fell : ByteArray := prog_13_method_45_code
def yX11_fell : MethodName := ⟨RX11, "fell", "()I"⟩
abbrev cX11_likes : ByteArray := prog_13_method_46_code
def yX11_likes : MethodName := ⟨RX11, "likes", "(I)I"⟩
abbrev cX11_levelOf : ByteArray := prog_13_method_47_code
def yX11_levelOf : MethodName := ⟨RX11, "levelOf", "(I)I"⟩
abbrev cX11_freeBehind : ByteArray := prog_13_method_48_code
def yX11_freeBehind : MethodName := ⟨RX11, "freeBehind", "(I)I"⟩
abbrev cX11_levels : ByteArray := prog_13_method_49_code
def yX11_levels : MethodName := ⟨RX11, "levels", "(I)I"⟩
abbrev cX11_size : ByteArray := prog_13_method_50_code
def yX11_size : MethodName := ⟨RX11, "size", "(I)I"⟩
abbrev cX11_leastMinutes : ByteArray := prog_13_method_51_code
def yX11_leastMinutes : MethodName := ⟨RX11, "leastMinutes", "()I"⟩
abbrev cX11_least : ByteArray := prog_13_method_52_code
def yX11_least : MethodName := ⟨RX11, "least", "(I)I"⟩
abbrev cX11_count : ByteArray := prog_13_method_53_code
def yX11_count : MethodName := ⟨RX11, "count", "(I)I"⟩
abbrev cX11_sums : ByteArray := prog_13_method_54_code
def yX11_sums : MethodName := ⟨RX11, "sums", "(J[III)J"⟩
abbrev cX11_digest : ByteArray := prog_13_method_55_code
def yX11_digest : MethodName := ⟨RX11, "digest", "()J"⟩
def RJ6 : String := "java/lang/Integer"
def TJ6 : u_T := fun k => match k with
  | _ => ("", "", "", false)
def tyJ6 : Nat → FieldType := fun k => match k with
  | _ => .int
abbrev wsJ60 : List Cond := u_ws RJ6 TJ6 0
theorem nmJ6 : ∀ a, a < 0 → ∀ b, b < 0 → a ≠ b → (TJ6 a).2.1 ≠ (TJ6 b).2.1 := by decide +kernel
theorem tyJ6_ok : ∀ k, k < 0 → parseFieldDescriptor (TJ6 k).2.2.1 = some (tyJ6 k) := by decide +kernel
abbrev cJ6_numberOfTrailingZeros_0f7a4 : ByteArray := prog_14_method_48_code
def yJ6_numberOfTrailingZeros_0f7a4 : MethodName := ⟨RJ6, "numberOfTrailingZeros", "(I)I"⟩
abbrev cJ6_bitCount_0f7a4 : ByteArray := prog_14_method_49_code
def yJ6_bitCount_0f7a4 : MethodName := ⟨RJ6, "bitCount", "(I)I"⟩
def RJ9 : String := "java/lang/Math"
def TJ9 : u_T := fun k => match k with
  | _ => ("", "", "", false)
def tyJ9 : Nat → FieldType := fun k => match k with
  | _ => .int
abbrev wsJ90 : List Cond := u_ws RJ9 TJ9 0
theorem nmJ9 : ∀ a, a < 0 → ∀ b, b < 0 → a ≠ b → (TJ9 a).2.1 ≠ (TJ9 b).2.1 := by decide +kernel
theorem tyJ9_ok : ∀ k, k < 0 → parseFieldDescriptor (TJ9 k).2.2.1 = some (tyJ9 k) := by decide +kernel
abbrev cJ9_max_7cf53 : ByteArray := prog_15_method_65_code
def yJ9_max_7cf53 : MethodName := ⟨RJ9, "max", "(II)I"⟩
abbrev cJ9_min_7cf53 : ByteArray := prog_15_method_69_code
def yJ9_min_7cf53 : MethodName := ⟨RJ9, "min", "(II)I"⟩
def RJ10 : String := "java/lang/System"
def TJ10 : u_T := fun k => match k with
  | _ => ("", "", "", false)
def tyJ10 : Nat → FieldType := fun k => match k with
  | _ => .int
abbrev wsJ100 : List Cond := u_ws RJ10 TJ10 0
theorem nmJ10 : ∀ a, a < 0 → ∀ b, b < 0 → a ≠ b → (TJ10 a).2.1 ≠ (TJ10 b).2.1 := by decide +kernel
theorem tyJ10_ok : ∀ k, k < 0 → parseFieldDescriptor (TJ10 k).2.2.1 = some (tyJ10 k) := by decide +kernel
def RJ7 : String := "java/util/Arrays"
def TJ7 : u_T := fun k => match k with
  | _ => ("", "", "", false)
def tyJ7 : Nat → FieldType := fun k => match k with
  | _ => .int
abbrev wsJ70 : List Cond := u_ws RJ7 TJ7 0
theorem nmJ7 : ∀ a, a < 0 → ∀ b, b < 0 → a ≠ b → (TJ7 a).2.1 ≠ (TJ7 b).2.1 := by decide +kernel
theorem tyJ7_ok : ∀ k, k < 0 → parseFieldDescriptor (TJ7 k).2.2.1 = some (tyJ7 k) := by decide +kernel
abbrev cJ7_rangeCheck_23922 : ByteArray := prog_17_method_30_code
def yJ7_rangeCheck_23922 : MethodName := ⟨RJ7, "rangeCheck", "(III)V"⟩
abbrev cJ7_fill_53178 : ByteArray := prog_17_method_103_code
def yJ7_fill_53178 : MethodName := ⟨RJ7, "fill", "([II)V"⟩
abbrev cJ7_fill_eb02e : ByteArray := prog_17_method_110_code
def yJ7_fill_eb02e : MethodName := ⟨RJ7, "fill", "([BIIB)V"⟩
def RL : String := "WorkOrdersLaw"
abbrev cL_law : ByteArray := code
def yL_law : MethodName := ⟨RL, "law", "([I)Z"⟩
abbrev vwCl : List vw_C := [(RX0, TX0, 3), (RX1, TX1, 7), (RX2, TX2, 7), (RX3, TX3, 4), (RX4, TX4, 5), (RX5, TX5, 2), (RX6, TX6, 3), (RX7, TX7, 6), (RX8, TX8, 6), (RX9, TX9, 5), (RX10, TX10, 10), (RX11, TX11, 27)]
end
section
/-! The layer: one memory of numbers for the whole world, and rows over it. -/
abbrev Mem : Type := Nat → Nat → Int
def wr (μ : Mem) (c i : Nat) (v : Int) : Mem := fun a => if a = c then (fun j => if j = i then v else μ c j) else μ a
abbrev AV : Type := Int ⊕ (Int ⊕ Nat)
abbrev Iv (x : Int) : AV := Sum.inl x
abbrev Lv (x : Int) : AV := Sum.inr (Sum.inl x)
abbrev Rv (c : Nat) : AV := Sum.inr (Sum.inr c)
def cv (q : Nat → Nat) : AV → Value
  | Sum.inl x => Value.int (Int32.ofInt x)
  | Sum.inr (Sum.inl x) => Value.long (Int64.ofInt x)
  | Sum.inr (Sum.inr c) => Value.ref (q c)
def inR (x : Int) : Prop := -2147483648 ≤ x ∧ x ≤ 2147483647
def inRL (x : Int) : Prop := -9223372036854775808 ≤ x ∧ x ≤ 9223372036854775807
def okA : AV → Prop
  | Sum.inl x => inR x
  | Sum.inr (Sum.inl x) => inRL x
  | Sum.inr (Sum.inr _) => True
def isL : AV → Bool
  | Sum.inr (Sum.inl _) => true
  | _ => false
def RngM (μ : Mem) : Prop := ∀ c i, inR (μ c i)
def wrap (x : Int) : Int := x.bmod 4294967296
def wrapL (x : Int) : Int := x.bmod 18446744073709551616
def iand (a b : Int) : Int := (Int32.ofInt a &&& Int32.ofInt b).toInt
def ior (a b : Int) : Int := (Int32.ofInt a ||| Int32.ofInt b).toInt
def ixor (a b : Int) : Int := (Int32.ofInt a ^^^ Int32.ofInt b).toInt
def ishl (a b : Int) : Int := (Int32.ofInt a <<< (Int32.ofInt b &&& 31)).toInt
def ishr (a b : Int) : Int := (Int32.ofInt a >>> (Int32.ofInt b &&& 31)).toInt
def iushr (a b : Int) : Int := ((Int32.ofInt a).toUInt32 >>> ((Int32.ofInt b).toUInt32 &&& Int32.toUInt32 31)).toInt32.toInt
def idv (a b : Int) : Int := (Int32.ofInt a / Int32.ofInt b).toInt
def i2b (a : Int) : Int := (Int32.ofInt a).toInt8.toInt32.toInt
def imax (a b : Int) : Int := if a < b then b else a
def imin (a b : Int) : Int := if b < a then b else a
def lcp (a b : Int) : Int := if b < a then 1 else if a = b then 0 else -1
theorem wrap_rng (x : Int) : inR (wrap x) := by
  unfold wrap inR
  have h1 := Int.le_bmod (x := x) (m := 4294967296) (by decide)
  have h2 := Int.bmod_lt (x := x) (m := 4294967296) (by decide)
  constructor <;> omega
theorem wrapL_rng (x : Int) : inRL (wrapL x) := by
  unfold wrapL inRL
  have h1 := Int.le_bmod (x := x) (m := 18446744073709551616) (by decide)
  have h2 := Int.bmod_lt (x := x) (m := 18446744073709551616) (by decide)
  constructor <;> omega
theorem ofI_toInt {x : Int} (h : inR x) : (Int32.ofInt x).toInt = x := by
  rw [Int32.toInt_ofInt]
  unfold inR at h
  exact Int.bmod_eq_of_le (by simp [Int32.size]; omega) (by simp [Int32.size]; omega)
theorem ofL_toInt {x : Int} (h : inRL x) : (Int64.ofInt x).toInt = x := by
  rw [Int64.toInt_ofInt]
  unfold inRL at h
  exact Int.bmod_eq_of_le (by simp [Int64.size]; omega) (by simp [Int64.size]; omega)
theorem ofI_wrap (x : Int) : Int32.ofInt (wrap x) = Int32.ofInt x := by
  apply Int32.toInt_inj.mp
  rw [ofI_toInt (wrap_rng x), Int32.toInt_ofInt]
  rfl
theorem ofL_wrap (x : Int) : Int64.ofInt (wrapL x) = Int64.ofInt x := by
  apply Int64.toInt_inj.mp
  rw [ofL_toInt (wrapL_rng x), Int64.toInt_ofInt]
  rfl
theorem wrap_id {x : Int} (h1 : -2147483648 ≤ x) (h2 : x ≤ 2147483647) : wrap x = x := by
  unfold wrap
  exact Int.bmod_eq_of_le (by omega) (by omega)
theorem toInt_rng (x : Int32) : inR x.toInt := ⟨Int32.le_toInt x, by have := Int32.toInt_lt x; omega⟩
theorem i32_lt {a b : Int} (ha : inR a) (hb : inR b) : Int32.ofInt a < Int32.ofInt b ↔ a < b := by
  rw [Int32.lt_iff_toInt_lt, ofI_toInt ha, ofI_toInt hb]
theorem i32_le {a b : Int} (ha : inR a) (hb : inR b) : Int32.ofInt a ≤ Int32.ofInt b ↔ a ≤ b := by
  rw [Int32.le_iff_toInt_le, ofI_toInt ha, ofI_toInt hb]
theorem i32_eq {a b : Int} (ha : inR a) (hb : inR b) : Int32.ofInt a = Int32.ofInt b ↔ a = b := by
  rw [← Int32.toInt_inj, ofI_toInt ha, ofI_toInt hb]
theorem inR0 : inR 0 := by unfold inR; omega
theorem ofI0 : Int32.ofInt 0 = 0 := rfl
theorem i32_clamp {a : Int} (h0 : 0 ≤ a) (h1 : inR a) : (Int32.ofInt a).toNatClampNeg = a.toNat := by
  unfold Int32.toNatClampNeg
  show (Int32.ofInt a).toInt.toNat = _
  rw [ofI_toInt h1]
theorem i32_in {a : Int} {n : Nat} (h0 : 0 ≤ a) (h1 : a < n) (h2 : inR a) : vp_in (Int32.ofInt a) n := by
  rw [vp_in_iff, ofI_toInt h2]
  exact ⟨h0, h1⟩
def okW : Cond → Bool
  | .methodLinkNest .. => true
  | .fieldLinkNest .. => true
  | w => goodWord w
/-- the words that a method may count on, at every state -/
def tb : List Cond := lw_tbl.filter okW
theorem tbm {w : Cond} (h : w ∈ lw_tbl) (ho : okW w = true) : w ∈ tb := List.mem_filter.mpr ⟨h, ho⟩
end
section
/-! The world: its cells by number, and the judgement V. -/
abbrev Wc : Type := (Nat → Nat) × va_G × (ClassId × ClassId × ClassId)
def objT : List (Nat × List (Option Nat)) := [
  (10, [some 1, some 2, some 3, some 4, some 5, some 6, some 7, some 8, some 9, some 10]),
  (9, [none, some 12, some 74, some 13, some 14]),
  (6, [none, none, some 75]),
  (2, [some 1, some 76, none, none, some 77, some 78, some 79]),
  (0, [some 1, some 80, none]),
  (3, [some 1, none, none, some 81]),
  (4, [some 1, none, some 82, some 15, some 16]),
  (1, [some 1, some 6, some 83, none, none, some 84, some 17]),
  (5, [some 1, some 85]),
  (8, [some 86, some 18, some 19, some 20, some 21, some 22]),
  (7, [none, none, some 87, some 88, some 89, some 23]),
  (11, [none, some 90, some 91, some 92, some 93, some 94, some 95, some 96, some 97, none, some 98, some 99, none, some 100, some 101, none, some 102, none, some 103, some 104, some 105, some 106, some 107, some 108, some 109, some 110, some 111])]
def outT : List (Nat × Nat) := [(5, 24), (3, 29), (8, 32), (8, 40), (8, 48), (8, 56), (2, 64), (2, 66), (2, 68), (2, 70), (2, 72)]
def lenT : List Nat := [4096, 8, 8, 8, 8, 8, 3, 3, 3, 4, 4, 4, 4, 4, 4, 4, 4, 4, 4, 4, 4, 4, 4, 4, 4, 4, 4, 4, 4, 4, 4, 4, 4, 4, 4, 4, 4, 4, 4, 4, 4, 6, 6, 6, 6, 120, 120, 121, 121, 121, 121, 8, 8, 8, 8, 768, 768, 8, 8, 4, 8, 8, 8, 2, 12, 12, 12, 8, 8, 8, 8, 8, 8, 9, 32, 4, 8, 24, 2, 12, 8, 8, 1000, 8, 32, 32, 14641, 12, 4096]
def len (c : Nat) : Nat := lenT.getD (c - 23) 0
def flds (q : Nat → Nat) (f : Nat → Int) : Nat → List (Option Nat) → List Value
  | _, [] => []
  | k, none :: r => Value.int (Int32.ofInt (f k)) :: flds q f (k + 1) r
  | k, some c :: r => Value.ref (q c) :: flds q f (k + 1) r
def ce (g : Wc) (μ : Mem) (c : Nat) : va_E := match objT[c]? with
  | some o => .inr (o.1, flds g.1 (μ c) 0 o.2)
  | none => match outT[c - 12]? with
    | some o => .inl (g.2.2.2.2, o.1, .inr (.inr (.inr (.inr (fun i => if i < o.1 then some (g.1 (o.2 + i)) else none)))))
    | none => .inl (if c = 23 then g.2.2.2.1 else g.2.2.1, len c, .inl (fun i => Int32.ofInt (μ c i)))
def HW (g : Wc) (μ : Mem) (H : Heap) : Prop := (∀ c, c < 112 → va_at g.2.1 vwCl (g.1 c, ce g μ c) H) ∧ ∀ c d, c < 112 → d < 112 → g.1 c = g.1 d → c = d
def Aq (g : Wc) : Nat → Prop := fun a => ∃ c, c < 112 ∧ a = g.1 c
def tyl (g : Wc) : List (ClassId × FieldType) := [(g.2.2.1, .int), (g.2.2.2.1, .byte), (g.2.2.2.2, .array .int)]
def stT : List (List Int) := [[1, 0, 0, 0, 0], [40, 99, 300, 20, 2], [1, 0, 300, 1, 0]]
def stv (k j : Nat) : Int := (stT.getD k []).getD j 0
def Zs (g : Wc) (U : State) (H : Heap) : Prop :=
  (va_Z "WorkOrders" "LEAST_TRAIT" "[I" (.ref (g.1 112)) (Aq g) U H ∧ va_T .int (g.1 112) 5 (fun j => .int (Int32.ofInt (stv 0 j))) (Aq g) U H) ∧
  (va_Z "WorkOrders" "MOST_TRAIT" "[I" (.ref (g.1 113)) (Aq g) U H ∧ va_T .int (g.1 113) 5 (fun j => .int (Int32.ofInt (stv 1 j))) (Aq g) U H) ∧
  (va_Z "WorkOrders" "FIRST_TRAIT" "[I" (.ref (g.1 114)) (Aq g) U H ∧ va_T .int (g.1 114) 5 (fun j => .int (Int32.ofInt (stv 2 j))) (Aq g) U H)
/-- what a state has of the tables and the statics -/
def Sd (g : Wc) (U : State) : Prop := (∀ w ∈ tb, ∀ A : Array Value, w.before A U = true) ∧ va_K g.2.1 vwCl (tyl g) U ∧ Zs g U U.heap
def Wd (g : Wc) (μ : Mem) (U : State) : Prop := Sd g U ∧ HW g μ U.heap ∧ RngM μ
abbrev Cx : Type := (Program × Launch × Env × Room) × (State × MethodId × Array Value × List Frame) × (Method × Code × (State → Prop)) × (Nat × Nat)
def WX (X : Cx) (H : Heap) (locs : List Loc) (f : JFrame) : Prop := W X.1.1 X.1.2.1 X.1.2.2.1 X.1.2.2.2 X.2.1.1 X.2.1.2.1 X.2.1.2.2.1 X.2.1.2.2.2 X.2.2.1.1 X.2.2.1.2.1 H locs X.2.2.2.1 X.2.2.2.2 X.2.2.1.2.2 f
def cvl (g : Wc) (lv : List (Nat × AV)) : List (Nat × Value) := lv.map (fun q => (q.1, cv g.1 q.2))
def V (g : Wc) (X : Cx) (nL : Nat) (μ : Mem) (lv : List (Nat × AV)) (pc : Nat) (st : List AV) : Prop :=
  (∀ q ∈ lv, okA q.2) → (∀ a ∈ st, okA a) → RngM μ → ∀ (H : Heap) (locs : List Loc) (ls : Array Slot), HW g μ H → va_S (Aq g) X.2.1.1.heap H locs → lv_has ls nL (cvl g lv) → WX X H locs (F0 X.2.1.2.1 pc ls (st.map (cv g.1)))
def Fx (g : Wc) (X : Cx) (cc : ByteArray) (own : String) (nL h : Nat) : Prop :=
  X.1.1.tables.exec = Jvm.exec ∧ X.2.2.1.2.1.code = cc ∧ X.2.2.1.2.1.maxLocals = nL ∧ X.2.1.1.vm.findClass own = some X.2.1.2.1.cls ∧ Sd g X.2.1.1 ∧
  (h ≤ X.1.2.2.2.frames ∧ 41 * h ≤ X.1.2.2.2.locals ∧ X.2.2.2.1 ≤ X.1.2.2.2.cells ∧ X.2.2.2.2 ≤ X.1.2.2.2.slots) ∧ X.2.2.1.1.locks = false
section RowsA
variable {g : Wc} {X : Cx} {cc : ByteArray} {own : String} {nL h : Nat} {μ : Mem} {lv lv' : List (Nat × AV)} {pc : Nat} {st : List AV}
theorem V.sub (ks : List Nat) (hl : ks.filterMap (fun k => lv[k]?) = lv') (kk : V g X nL μ lv' pc st) : V g X nL μ lv pc st := by
  intro h1 h2 h3 H locs ls h4 h5 h6
  refine kk (fun q hq => h1 q ?_) h2 h3 H locs ls h4 h5 (lv_sub h6 ks ?_)
  · rw [← hl] at hq
    obtain ⟨k, -, hk⟩ := List.mem_filterMap.mp hq
    exact List.mem_of_getElem? hk
  · rw [← hl]
    unfold lv_pick cvl
    rw [List.map_filterMap]
    congr 1
    funext k
    rw [List.getElem?_map]
theorem r_iconst {n : Int} (F : Fx g X cc own nL h) (hd : decode cc pc = .ok (.iconst n, 1)) (hr : inR n) (kk : V g X nL μ lv (pc + 1) (Iv n :: st)) : V g X nL μ lv pc st := by
  intro h1 h2 h3 H locs ls h4 h5 h6
  exact lv_iconst F.1 F.2.1 hd rfl (kk h1 (List.forall_mem_cons.mpr ⟨hr, h2⟩) h3 H locs ls h4 h5 h6)
theorem r_bipush {n : Int} (F : Fx g X cc own nL h) (hd : decode cc pc = .ok (.bipush n, 2)) (hr : inR n) (hv : (Int8.ofInt n).toInt32 = Int32.ofInt n) (kk : V g X nL μ lv (pc + 2) (Iv n :: st)) : V g X nL μ lv pc st := by
  intro h1 h2 h3 H locs ls h4 h5 h6
  exact lv_bipush F.1 F.2.1 hd hv (kk h1 (List.forall_mem_cons.mpr ⟨hr, h2⟩) h3 H locs ls h4 h5 h6)
theorem r_sipush {n : Int} (F : Fx g X cc own nL h) (hd : decode cc pc = .ok (.sipush n, 3)) (hr : inR n) (hv : (Int16.ofInt n).toInt32 = Int32.ofInt n) (kk : V g X nL μ lv (pc + 3) (Iv n :: st)) : V g X nL μ lv pc st := by
  intro h1 h2 h3 H locs ls h4 h5 h6
  exact lv_sipush F.1 F.2.1 hd hv (kk h1 (List.forall_mem_cons.mpr ⟨hr, h2⟩) h3 H locs ls h4 h5 h6)
theorem r_lconst {n : Fin 2} {x : Int} (F : Fx g X cc own nL h) (hd : decode cc pc = .ok (.lconst n, 1)) (hr : inRL x) (hv : Int64.ofNat (n : Nat) = Int64.ofInt x) (kk : V g X nL μ lv (pc + 1) (Lv x :: st)) : V g X nL μ lv pc st := by
  intro h1 h2 h3 H locs ls h4 h5 h6
  exact lv_lconst F.1 F.2.1 hd hv (kk h1 (List.forall_mem_cons.mpr ⟨hr, h2⟩) h3 H locs ls h4 h5 h6)
theorem cvl_at {k i : Nat} {a : AV} (hk : lv[k]? = some (i, a)) : (cvl g lv)[k]? = some (i, cv g.1 a) := by
  unfold cvl
  rw [List.getElem?_map, hk]
  rfl
theorem lv_ok {k i : Nat} {a : AV} (hk : lv[k]? = some (i, a)) (h1 : ∀ q ∈ lv, okA q.2) : okA a := h1 (i, a) (List.mem_of_getElem? hk)
theorem r_iload_n {j : Fin 4} {i : Nat} {a : Int} (k : Nat) (F : Fx g X cc own nL h) (hd : decode cc pc = .ok (.iload_n j, 1)) (hi : (j : Nat) = i) (hk : lv[k]? = some (i, Iv a)) (kk : V g X nL μ lv (pc + 1) (Iv a :: st)) : V g X nL μ lv pc st := by
  intro h1 h2 h3 H locs ls h4 h5 h6
  exact lv_iload_n F.1 F.2.1 hd hi (lv_at h6 k (cvl_at hk)) (kk h1 (List.forall_mem_cons.mpr ⟨lv_ok hk h1, h2⟩) h3 H locs ls h4 h5 h6)
theorem r_iload {i : Nat} {a : Int} (k : Nat) (F : Fx g X cc own nL h) (hd : decode cc pc = .ok (.iload i, 2)) (hk : lv[k]? = some (i, Iv a)) (kk : V g X nL μ lv (pc + 2) (Iv a :: st)) : V g X nL μ lv pc st := by
  intro h1 h2 h3 H locs ls h4 h5 h6
  exact lv_iload F.1 F.2.1 hd (lv_at h6 k (cvl_at hk)) (kk h1 (List.forall_mem_cons.mpr ⟨lv_ok hk h1, h2⟩) h3 H locs ls h4 h5 h6)
theorem r_lload_n {j : Fin 4} {i : Nat} {a : Int} (k : Nat) (F : Fx g X cc own nL h) (hd : decode cc pc = .ok (.lload_n j, 1)) (hi : (j : Nat) = i) (hk : lv[k]? = some (i, Lv a)) (kk : V g X nL μ lv (pc + 1) (Lv a :: st)) : V g X nL μ lv pc st := by
  intro h1 h2 h3 H locs ls h4 h5 h6
  exact lv_lload_n F.1 F.2.1 hd hi (lv_at h6 k (cvl_at hk)) (kk h1 (List.forall_mem_cons.mpr ⟨lv_ok hk h1, h2⟩) h3 H locs ls h4 h5 h6)
theorem r_lload {i : Nat} {a : Int} (k : Nat) (F : Fx g X cc own nL h) (hd : decode cc pc = .ok (.lload i, 2)) (hk : lv[k]? = some (i, Lv a)) (kk : V g X nL μ lv (pc + 2) (Lv a :: st)) : V g X nL μ lv pc st := by
  intro h1 h2 h3 H locs ls h4 h5 h6
  exact lv_lload F.1 F.2.1 hd (lv_at h6 k (cvl_at hk)) (kk h1 (List.forall_mem_cons.mpr ⟨lv_ok hk h1, h2⟩) h3 H locs ls h4 h5 h6)
theorem r_aload_n {j : Fin 4} {i c : Nat} (k : Nat) (F : Fx g X cc own nL h) (hd : decode cc pc = .ok (.aload_n j, 1)) (hi : (j : Nat) = i) (hk : lv[k]? = some (i, Rv c)) (kk : V g X nL μ lv (pc + 1) (Rv c :: st)) : V g X nL μ lv pc st := by
  intro h1 h2 h3 H locs ls h4 h5 h6
  exact lv_aload_n F.1 F.2.1 hd hi (lv_at h6 k (cvl_at hk)) (kk h1 (List.forall_mem_cons.mpr ⟨trivial, h2⟩) h3 H locs ls h4 h5 h6)
theorem r_aload {i c : Nat} (k : Nat) (F : Fx g X cc own nL h) (hd : decode cc pc = .ok (.aload i, 2)) (hk : lv[k]? = some (i, Rv c)) (kk : V g X nL μ lv (pc + 2) (Rv c :: st)) : V g X nL μ lv pc st := by
  intro h1 h2 h3 H locs ls h4 h5 h6
  exact lv_aload F.1 F.2.1 hd (lv_at h6 k (cvl_at hk)) (kk h1 (List.forall_mem_cons.mpr ⟨trivial, h2⟩) h3 H locs ls h4 h5 h6)
theorem cat_cv (a : AV) : ((cv g.1 a).category == 2) = isL a := by
  rcases a with a | a | a <;> rfl
theorem cvl_st1 {i : Nat} {a : AV} (hl : (i, a) :: lv.filter (fun q => !(q.1 == i) && !(q.1 + 1 == i && isL q.2)) = lv') : (i, cv g.1 a) :: (cvl g lv).filter (fun q => !(q.1 == i) && !(q.1 + 1 == i && q.2.category == 2)) = cvl g lv' := by
  rw [← hl]
  unfold cvl
  rw [List.map_cons, List.filter_map]
  congr 3
  funext q
  simp only [Function.comp, cat_cv]
theorem cvl_st2 {i : Nat} {a : AV} (hl : (i, a) :: lv.filter (fun q => !(q.1 == i) && (!(q.1 == i + 1) && !(q.1 + 1 == i && isL q.2))) = lv') : (i, cv g.1 a) :: (cvl g lv).filter (fun q => !(q.1 == i) && (!(q.1 == i + 1) && !(q.1 + 1 == i && q.2.category == 2))) = cvl g lv' := by
  rw [← hl]
  unfold cvl
  rw [List.map_cons, List.filter_map]
  congr 3
  funext q
  simp only [Function.comp, cat_cv]
theorem ok_st1 {i : Nat} {a : AV} {P : Nat × AV → Bool} (hl : (i, a) :: lv.filter P = lv') (h1 : ∀ q ∈ lv, okA q.2) (ha : okA a) : ∀ q ∈ lv', okA q.2 := by
  rw [← hl]
  exact List.forall_mem_cons.mpr ⟨ha, fun q hq => h1 q (List.mem_filter.mp hq).1⟩
theorem r_istore_n {j : Fin 4} {i : Nat} {a : Int} (F : Fx g X cc own nL h) (hd : decode cc pc = .ok (.istore_n j, 1)) (hi : (j : Nat) = i) (hn : i < nL) (hl : (i, Iv a) :: lv.filter (fun q => !(q.1 == i) && !(q.1 + 1 == i && isL q.2)) = lv') (kk : V g X nL μ lv' (pc + 1) st) : V g X nL μ lv pc (Iv a :: st) := by
  intro h1 h2 h3 H locs ls h4 h5 h6
  have h2' := List.forall_mem_cons.mp h2
  exact lv_istore_n F.1 F.2.1 hd hi h6 hn (cvl_st1 hl) (fun ls' hl' => kk (ok_st1 hl h1 h2'.1) h2'.2 h3 H locs ls' h4 h5 hl')
theorem r_istore {i : Nat} {a : Int} (F : Fx g X cc own nL h) (hd : decode cc pc = .ok (.istore i, 2)) (hn : i < nL) (hl : (i, Iv a) :: lv.filter (fun q => !(q.1 == i) && !(q.1 + 1 == i && isL q.2)) = lv') (kk : V g X nL μ lv' (pc + 2) st) : V g X nL μ lv pc (Iv a :: st) := by
  intro h1 h2 h3 H locs ls h4 h5 h6
  have h2' := List.forall_mem_cons.mp h2
  exact lv_istore F.1 F.2.1 hd h6 hn (cvl_st1 hl) (fun ls' hl' => kk (ok_st1 hl h1 h2'.1) h2'.2 h3 H locs ls' h4 h5 hl')
theorem r_astore_n {j : Fin 4} {i c : Nat} (F : Fx g X cc own nL h) (hd : decode cc pc = .ok (.astore_n j, 1)) (hi : (j : Nat) = i) (hn : i < nL) (hl : (i, Rv c) :: lv.filter (fun q => !(q.1 == i) && !(q.1 + 1 == i && isL q.2)) = lv') (kk : V g X nL μ lv' (pc + 1) st) : V g X nL μ lv pc (Rv c :: st) := by
  intro h1 h2 h3 H locs ls h4 h5 h6
  have h2' := List.forall_mem_cons.mp h2
  exact lv_astore_n F.1 F.2.1 hd hi h6 hn (cvl_st1 hl) (fun ls' hl' => kk (ok_st1 hl h1 trivial) h2'.2 h3 H locs ls' h4 h5 hl')
theorem r_astore {i c : Nat} (F : Fx g X cc own nL h) (hd : decode cc pc = .ok (.astore i, 2)) (hn : i < nL) (hl : (i, Rv c) :: lv.filter (fun q => !(q.1 == i) && !(q.1 + 1 == i && isL q.2)) = lv') (kk : V g X nL μ lv' (pc + 2) st) : V g X nL μ lv pc (Rv c :: st) := by
  intro h1 h2 h3 H locs ls h4 h5 h6
  have h2' := List.forall_mem_cons.mp h2
  exact lv_astore F.1 F.2.1 hd h6 hn (cvl_st1 hl) (fun ls' hl' => kk (ok_st1 hl h1 trivial) h2'.2 h3 H locs ls' h4 h5 hl')
theorem r_lstore_n {j : Fin 4} {i : Nat} {a : Int} (F : Fx g X cc own nL h) (hd : decode cc pc = .ok (.lstore_n j, 1)) (hi : (j : Nat) = i) (hn : i + 1 < nL) (hl : (i, Lv a) :: lv.filter (fun q => !(q.1 == i) && (!(q.1 == i + 1) && !(q.1 + 1 == i && isL q.2))) = lv') (kk : V g X nL μ lv' (pc + 1) st) : V g X nL μ lv pc (Lv a :: st) := by
  intro h1 h2 h3 H locs ls h4 h5 h6
  have h2' := List.forall_mem_cons.mp h2
  exact lv_lstore_n F.1 F.2.1 hd hi h6 hn (cvl_st2 hl) (fun ls' hl' => kk (ok_st1 hl h1 h2'.1) h2'.2 h3 H locs ls' h4 h5 hl')
theorem r_lstore {i : Nat} {a : Int} (F : Fx g X cc own nL h) (hd : decode cc pc = .ok (.lstore i, 2)) (hn : i + 1 < nL) (hl : (i, Lv a) :: lv.filter (fun q => !(q.1 == i) && (!(q.1 == i + 1) && !(q.1 + 1 == i && isL q.2))) = lv') (kk : V g X nL μ lv' (pc + 2) st) : V g X nL μ lv pc (Lv a :: st) := by
  intro h1 h2 h3 H locs ls h4 h5 h6
  have h2' := List.forall_mem_cons.mp h2
  exact lv_lstore F.1 F.2.1 hd h6 hn (cvl_st2 hl) (fun ls' hl' => kk (ok_st1 hl h1 h2'.1) h2'.2 h3 H locs ls' h4 h5 hl')
theorem r_iinc {i : Nat} {n a : Int} (k : Nat) (F : Fx g X cc own nL h) (hd : decode cc pc = .ok (.iinc i n, 3)) (hk : lv[k]? = some (i, Iv a)) (hn : i < nL) (hl : (i, Iv (wrap (a + n))) :: lv.filter (fun q => !(q.1 == i) && !(q.1 + 1 == i && isL q.2)) = lv') (kk : V g X nL μ lv' (pc + 3) st) : V g X nL μ lv pc st := by
  intro h1 h2 h3 H locs ls h4 h5 h6
  exact lv_iinc F.1 F.2.1 hd h6 (cvl_at hk) (by rw [ofI_wrap, Int32.ofInt_add]) hn (cvl_st1 hl) (fun ls' hl' => kk (ok_st1 hl h1 (wrap_rng _)) h2 h3 H locs ls' h4 h5 hl')
end RowsA
end
section
/-! Rows of arithmetic, the stack, branches. -/
section RowsB
variable {g : Wc} {X : Cx} {cc : ByteArray} {own : String} {nL h : Nat} {μ : Mem} {lv : List (Nat × AV)} {pc : Nat} {st : List AV} {a b : Int}
theorem r_iadd (F : Fx g X cc own nL h) (hd : decode cc pc = .ok (.iadd, 1)) (kk : V g X nL μ lv (pc + 1) (Iv (wrap (a + b)) :: st)) : V g X nL μ lv pc (Iv b :: Iv a :: st) := by
  intro h1 h2 h3 H locs ls h4 h5 h6
  have h2' := (List.forall_mem_cons.mp (List.forall_mem_cons.mp h2).2).2
  have hk := kk h1 (List.forall_mem_cons.mpr ⟨wrap_rng _, h2'⟩) h3 H locs ls h4 h5 h6
  have e : Int32.ofInt (wrap (a + b)) = Int32.ofInt a + Int32.ofInt b := by rw [ofI_wrap, Int32.ofInt_add]
  rw [List.map_cons, show cv g.1 (Iv (wrap (a + b))) = Value.int (Int32.ofInt (wrap (a + b))) from rfl, e] at hk
  exact lv_iadd F.1 F.2.1 hd hk
theorem r_isub (F : Fx g X cc own nL h) (hd : decode cc pc = .ok (.isub, 1)) (kk : V g X nL μ lv (pc + 1) (Iv (wrap (a - b)) :: st)) : V g X nL μ lv pc (Iv b :: Iv a :: st) := by
  intro h1 h2 h3 H locs ls h4 h5 h6
  have h2' := (List.forall_mem_cons.mp (List.forall_mem_cons.mp h2).2).2
  have hk := kk h1 (List.forall_mem_cons.mpr ⟨wrap_rng _, h2'⟩) h3 H locs ls h4 h5 h6
  have e : Int32.ofInt (wrap (a - b)) = Int32.ofInt a - Int32.ofInt b := by rw [ofI_wrap, Int32.ofInt_sub]
  rw [List.map_cons, show cv g.1 (Iv (wrap (a - b))) = Value.int (Int32.ofInt (wrap (a - b))) from rfl, e] at hk
  exact lv_isub F.1 F.2.1 hd hk
theorem r_imul (F : Fx g X cc own nL h) (hd : decode cc pc = .ok (.imul, 1)) (kk : V g X nL μ lv (pc + 1) (Iv (wrap (a * b)) :: st)) : V g X nL μ lv pc (Iv b :: Iv a :: st) := by
  intro h1 h2 h3 H locs ls h4 h5 h6
  have h2' := (List.forall_mem_cons.mp (List.forall_mem_cons.mp h2).2).2
  have hk := kk h1 (List.forall_mem_cons.mpr ⟨wrap_rng _, h2'⟩) h3 H locs ls h4 h5 h6
  have e : Int32.ofInt (wrap (a * b)) = Int32.ofInt a * Int32.ofInt b := by rw [ofI_wrap, Int32.ofInt_mul]
  rw [List.map_cons, show cv g.1 (Iv (wrap (a * b))) = Value.int (Int32.ofInt (wrap (a * b))) from rfl, e] at hk
  exact lv_imul F.1 F.2.1 hd hk
theorem r_iand (F : Fx g X cc own nL h) (hd : decode cc pc = .ok (.iand, 1)) (kk : V g X nL μ lv (pc + 1) (Iv (iand a b) :: st)) : V g X nL μ lv pc (Iv b :: Iv a :: st) := by
  intro h1 h2 h3 H locs ls h4 h5 h6
  have h2' := (List.forall_mem_cons.mp (List.forall_mem_cons.mp h2).2).2
  have hk := kk h1 (List.forall_mem_cons.mpr ⟨toInt_rng _, h2'⟩) h3 H locs ls h4 h5 h6
  have e : Int32.ofInt (iand a b) = Int32.ofInt a &&& Int32.ofInt b := Int32.ofInt_toInt _
  rw [List.map_cons, show cv g.1 (Iv (iand a b)) = Value.int (Int32.ofInt (iand a b)) from rfl, e] at hk
  exact lv_iand F.1 F.2.1 hd hk
theorem r_ior (F : Fx g X cc own nL h) (hd : decode cc pc = .ok (.ior, 1)) (kk : V g X nL μ lv (pc + 1) (Iv (ior a b) :: st)) : V g X nL μ lv pc (Iv b :: Iv a :: st) := by
  intro h1 h2 h3 H locs ls h4 h5 h6
  have h2' := (List.forall_mem_cons.mp (List.forall_mem_cons.mp h2).2).2
  have hk := kk h1 (List.forall_mem_cons.mpr ⟨toInt_rng _, h2'⟩) h3 H locs ls h4 h5 h6
  have e : Int32.ofInt (ior a b) = Int32.ofInt a ||| Int32.ofInt b := Int32.ofInt_toInt _
  rw [List.map_cons, show cv g.1 (Iv (ior a b)) = Value.int (Int32.ofInt (ior a b)) from rfl, e] at hk
  exact lv_ior F.1 F.2.1 hd hk
theorem r_ixor (F : Fx g X cc own nL h) (hd : decode cc pc = .ok (.ixor, 1)) (kk : V g X nL μ lv (pc + 1) (Iv (ixor a b) :: st)) : V g X nL μ lv pc (Iv b :: Iv a :: st) := by
  intro h1 h2 h3 H locs ls h4 h5 h6
  have h2' := (List.forall_mem_cons.mp (List.forall_mem_cons.mp h2).2).2
  have hk := kk h1 (List.forall_mem_cons.mpr ⟨toInt_rng _, h2'⟩) h3 H locs ls h4 h5 h6
  have e : Int32.ofInt (ixor a b) = Int32.ofInt a ^^^ Int32.ofInt b := Int32.ofInt_toInt _
  rw [List.map_cons, show cv g.1 (Iv (ixor a b)) = Value.int (Int32.ofInt (ixor a b)) from rfl, e] at hk
  exact lv_ixor F.1 F.2.1 hd hk
theorem r_ishl (F : Fx g X cc own nL h) (hd : decode cc pc = .ok (.ishl, 1)) (kk : V g X nL μ lv (pc + 1) (Iv (ishl a b) :: st)) : V g X nL μ lv pc (Iv b :: Iv a :: st) := by
  intro h1 h2 h3 H locs ls h4 h5 h6
  have h2' := (List.forall_mem_cons.mp (List.forall_mem_cons.mp h2).2).2
  have hk := kk h1 (List.forall_mem_cons.mpr ⟨toInt_rng _, h2'⟩) h3 H locs ls h4 h5 h6
  have e : Int32.ofInt (ishl a b) = Int32.ofInt a <<< (Int32.ofInt b &&& 31) := Int32.ofInt_toInt _
  rw [List.map_cons, show cv g.1 (Iv (ishl a b)) = Value.int (Int32.ofInt (ishl a b)) from rfl, e] at hk
  exact lv_ishl F.1 F.2.1 hd hk
theorem r_ishr (F : Fx g X cc own nL h) (hd : decode cc pc = .ok (.ishr, 1)) (kk : V g X nL μ lv (pc + 1) (Iv (ishr a b) :: st)) : V g X nL μ lv pc (Iv b :: Iv a :: st) := by
  intro h1 h2 h3 H locs ls h4 h5 h6
  have h2' := (List.forall_mem_cons.mp (List.forall_mem_cons.mp h2).2).2
  have hk := kk h1 (List.forall_mem_cons.mpr ⟨toInt_rng _, h2'⟩) h3 H locs ls h4 h5 h6
  have e : Int32.ofInt (ishr a b) = Int32.ofInt a >>> (Int32.ofInt b &&& 31) := Int32.ofInt_toInt _
  rw [List.map_cons, show cv g.1 (Iv (ishr a b)) = Value.int (Int32.ofInt (ishr a b)) from rfl, e] at hk
  exact lv_ishr F.1 F.2.1 hd hk
theorem r_iushr (F : Fx g X cc own nL h) (hd : decode cc pc = .ok (.iushr, 1)) (kk : V g X nL μ lv (pc + 1) (Iv (iushr a b) :: st)) : V g X nL μ lv pc (Iv b :: Iv a :: st) := by
  intro h1 h2 h3 H locs ls h4 h5 h6
  have h2' := (List.forall_mem_cons.mp (List.forall_mem_cons.mp h2).2).2
  have hk := kk h1 (List.forall_mem_cons.mpr ⟨toInt_rng _, h2'⟩) h3 H locs ls h4 h5 h6
  exact lv_iushr F.1 F.2.1 hd (Int32.ofInt_toInt _).symm hk
theorem r_idiv (F : Fx g X cc own nL h) (hd : decode cc pc = .ok (.idiv, 1)) (hb : ¬ b = 0) (kk : V g X nL μ lv (pc + 1) (Iv (idv a b) :: st)) : V g X nL μ lv pc (Iv b :: Iv a :: st) := by
  intro h1 h2 h3 H locs ls h4 h5 h6
  have hb1 : inR b := (List.forall_mem_cons.mp h2).1
  have h2' := (List.forall_mem_cons.mp (List.forall_mem_cons.mp h2).2).2
  have hk := kk h1 (List.forall_mem_cons.mpr ⟨toInt_rng _, h2'⟩) h3 H locs ls h4 h5 h6
  have e : Int32.ofInt (idv a b) = Int32.ofInt a / Int32.ofInt b := Int32.ofInt_toInt _
  rw [List.map_cons, show cv g.1 (Iv (idv a b)) = Value.int (Int32.ofInt (idv a b)) from rfl, e] at hk
  exact lv_idiv F.1 F.2.1 hd (fun q => hb ((i32_eq hb1 inR0).mp q)) hk
theorem r_i2b (F : Fx g X cc own nL h) (hd : decode cc pc = .ok (.i2b, 1)) (kk : V g X nL μ lv (pc + 1) (Iv (i2b a) :: st)) : V g X nL μ lv pc (Iv a :: st) := by
  intro h1 h2 h3 H locs ls h4 h5 h6
  have h2' := (List.forall_mem_cons.mp h2).2
  have hk := kk h1 (List.forall_mem_cons.mpr ⟨toInt_rng _, h2'⟩) h3 H locs ls h4 h5 h6
  exact lv_i2b F.1 F.2.1 hd (Int32.ofInt_toInt _).symm hk
theorem inR_L {x : Int} (h : inR x) : inRL x := by unfold inR at h; unfold inRL; omega
theorem i2l_eq {x : Int} (h : inR x) : (Int32.ofInt x).toInt64 = Int64.ofInt x := by
  apply Int64.toInt_inj.mp
  rw [Int32.toInt_toInt64, ofI_toInt h, ofL_toInt (inR_L h)]
theorem r_i2l (F : Fx g X cc own nL h) (hd : decode cc pc = .ok (.i2l, 1)) (kk : V g X nL μ lv (pc + 1) (Lv a :: st)) : V g X nL μ lv pc (Iv a :: st) := by
  intro h1 h2 h3 H locs ls h4 h5 h6
  have h2' := List.forall_mem_cons.mp h2
  have hk := kk h1 (List.forall_mem_cons.mpr ⟨inR_L h2'.1, h2'.2⟩) h3 H locs ls h4 h5 h6
  exact lv_i2l F.1 F.2.1 hd (i2l_eq h2'.1) hk
theorem r_ladd (F : Fx g X cc own nL h) (hd : decode cc pc = .ok (.ladd, 1)) (kk : V g X nL μ lv (pc + 1) (Lv (wrapL (a + b)) :: st)) : V g X nL μ lv pc (Lv b :: Lv a :: st) := by
  intro h1 h2 h3 H locs ls h4 h5 h6
  have h2' := (List.forall_mem_cons.mp (List.forall_mem_cons.mp h2).2).2
  have hk := kk h1 (List.forall_mem_cons.mpr ⟨wrapL_rng _, h2'⟩) h3 H locs ls h4 h5 h6
  have e : Int64.ofInt (wrapL (a + b)) = Int64.ofInt a + Int64.ofInt b := by rw [ofL_wrap, Int64.ofInt_add]
  rw [List.map_cons, show cv g.1 (Lv (wrapL (a + b))) = Value.long (Int64.ofInt (wrapL (a + b))) from rfl, e] at hk
  exact lv_ladd F.1 F.2.1 hd hk
theorem r_lmul (F : Fx g X cc own nL h) (hd : decode cc pc = .ok (.lmul, 1)) (kk : V g X nL μ lv (pc + 1) (Lv (wrapL (a * b)) :: st)) : V g X nL μ lv pc (Lv b :: Lv a :: st) := by
  intro h1 h2 h3 H locs ls h4 h5 h6
  have h2' := (List.forall_mem_cons.mp (List.forall_mem_cons.mp h2).2).2
  have hk := kk h1 (List.forall_mem_cons.mpr ⟨wrapL_rng _, h2'⟩) h3 H locs ls h4 h5 h6
  have e : Int64.ofInt (wrapL (a * b)) = Int64.ofInt a * Int64.ofInt b := by rw [ofL_wrap, Int64.ofInt_mul]
  rw [List.map_cons, show cv g.1 (Lv (wrapL (a * b))) = Value.long (Int64.ofInt (wrapL (a * b))) from rfl, e] at hk
  exact lv_lmul F.1 F.2.1 hd hk
theorem lcp_rng (a b : Int) : inR (lcp a b) := by
  unfold lcp inR
  repeat' split
  all_goals omega
theorem lcp_eq {a b : Int} (ha : inRL a) (hb : inRL b) : Int32.ofInt (lcp a b) = lg_cmp (Int64.ofInt a) (Int64.ofInt b) := by
  unfold lcp lg_cmp
  simp only [gt_iff_lt, Int64.lt_iff_toInt_lt, ← Int64.toInt_inj, ofL_toInt ha, ofL_toInt hb]
  repeat' split
  all_goals first | rfl | omega
theorem r_lcmp (F : Fx g X cc own nL h) (hd : decode cc pc = .ok (.lcmp, 1)) (kk : V g X nL μ lv (pc + 1) (Iv (lcp a b) :: st)) : V g X nL μ lv pc (Lv b :: Lv a :: st) := by
  intro h1 h2 h3 H locs ls h4 h5 h6
  have hb := (List.forall_mem_cons.mp h2).1
  have ha := (List.forall_mem_cons.mp (List.forall_mem_cons.mp h2).2).1
  have h2' := (List.forall_mem_cons.mp (List.forall_mem_cons.mp h2).2).2
  have hk := kk h1 (List.forall_mem_cons.mpr ⟨lcp_rng _ _, h2'⟩) h3 H locs ls h4 h5 h6
  rw [List.map_cons, show cv g.1 (Iv (lcp a b)) = Value.int (Int32.ofInt (lcp a b)) from rfl, lcp_eq ha hb] at hk
  exact W.lcmp F.1 F.2.1 hd hk
theorem r_dup {x : AV} (F : Fx g X cc own nL h) (hd : decode cc pc = .ok (.dup, 1)) (hx : isL x = false) (kk : V g X nL μ lv (pc + 1) (x :: x :: st)) : V g X nL μ lv pc (x :: st) := by
  intro h1 h2 h3 H locs ls h4 h5 h6
  have h2' := List.forall_mem_cons.mp h2
  exact lv_dup F.1 F.2.1 hd (by rcases x with x | x | x <;> first | rfl | cases hx) (kk h1 (List.forall_mem_cons.mpr ⟨h2'.1, h2⟩) h3 H locs ls h4 h5 h6)
theorem r_pop {x : AV} (F : Fx g X cc own nL h) (hd : decode cc pc = .ok (.pop, 1)) (hx : isL x = false) (kk : V g X nL μ lv (pc + 1) st) : V g X nL μ lv pc (x :: st) := by
  intro h1 h2 h3 H locs ls h4 h5 h6
  have h2' := List.forall_mem_cons.mp h2
  exact lv_pop F.1 F.2.1 hd (by rcases x with x | x | x <;> first | rfl | cases hx) (kk h1 h2'.2 h3 H locs ls h4 h5 h6)
theorem r_dup_x1 {x y : AV} (F : Fx g X cc own nL h) (hd : decode cc pc = .ok (.dup_x1, 1)) (hx : isL x = false) (hy : isL y = false) (kk : V g X nL μ lv (pc + 1) (x :: y :: x :: st)) : V g X nL μ lv pc (x :: y :: st) := by
  intro h1 h2 h3 H locs ls h4 h5 h6
  have h2' := List.forall_mem_cons.mp h2
  have h2'' := List.forall_mem_cons.mp h2'.2
  exact lv_dup_x1 F.1 F.2.1 hd (by rcases x with x | x | x <;> first | rfl | cases hx) (by rcases y with x | x | x <;> first | rfl | cases hy) (kk h1 (List.forall_mem_cons.mpr ⟨h2'.1, List.forall_mem_cons.mpr ⟨h2''.1, List.forall_mem_cons.mpr ⟨h2'.1, h2''.2⟩⟩⟩) h3 H locs ls h4 h5 h6)
theorem r_dup2 {x y : AV} (F : Fx g X cc own nL h) (hd : decode cc pc = .ok (.dup2, 1)) (hx : isL x = false) (hy : isL y = false) (kk : V g X nL μ lv (pc + 1) (x :: y :: x :: y :: st)) : V g X nL μ lv pc (x :: y :: st) := by
  intro h1 h2 h3 H locs ls h4 h5 h6
  have h2' := List.forall_mem_cons.mp h2
  have h2'' := List.forall_mem_cons.mp h2'.2
  exact lv_dup2_11 F.1 F.2.1 hd (by rcases x with x | x | x <;> first | rfl | cases hx) (by rcases y with x | x | x <;> first | rfl | cases hy) (kk h1 (List.forall_mem_cons.mpr ⟨h2'.1, List.forall_mem_cons.mpr ⟨h2''.1, h2⟩⟩) h3 H locs ls h4 h5 h6)
theorem r_goto {off : Int} {tgt : Nat} (F : Fx g X cc own nL h) (hd : decode cc pc = .ok (.goto off, 3)) (ht : (pc : Int) + off = (tgt : Int)) (kk : V g X nL μ lv tgt st) : V g X nL μ lv pc st := by
  intro h1 h2 h3 H locs ls h4 h5 h6
  exact lv_goto F.1 F.2.1 hd ht (kk h1 h2 h3 H locs ls h4 h5 h6)
theorem r_icmp_eq {off : Int} {tgt : Nat} (F : Fx g X cc own nL h) (hd : decode cc pc = .ok (.if_icmp .eq off, 3)) (ht : (pc : Int) + off = (tgt : Int)) (k1 : a = b → V g X nL μ lv tgt st) (k2 : ¬ (a = b) → V g X nL μ lv (pc + 3) st) : V g X nL μ lv pc (Iv b :: Iv a :: st) := by
  intro h1 h2 h3 H locs ls h4 h5 h6
  have hb : inR b := (List.forall_mem_cons.mp h2).1
  have ha : inR a := (List.forall_mem_cons.mp (List.forall_mem_cons.mp h2).2).1
  have h2' := (List.forall_mem_cons.mp (List.forall_mem_cons.mp h2).2).2
  exact lv_icmp_eq F.1 F.2.1 hd ht (fun q => k1 ((i32_eq ha hb).mp q) h1 h2' h3 H locs ls h4 h5 h6) (fun q => k2 (fun z => q ((i32_eq ha hb).mpr z)) h1 h2' h3 H locs ls h4 h5 h6)
theorem r_if_eq {off : Int} {tgt : Nat} (F : Fx g X cc own nL h) (hd : decode cc pc = .ok (.ifCond .eq off, 3)) (ht : (pc : Int) + off = (tgt : Int)) (k1 : a = 0 → V g X nL μ lv tgt st) (k2 : ¬ (a = 0) → V g X nL μ lv (pc + 3) st) : V g X nL μ lv pc (Iv a :: st) := by
  intro h1 h2 h3 H locs ls h4 h5 h6
  have ha : inR a := (List.forall_mem_cons.mp h2).1
  have h2' := (List.forall_mem_cons.mp h2).2
  exact lv_if_eq F.1 F.2.1 hd ht (fun q => k1 ((i32_eq ha inR0).mp q) h1 h2' h3 H locs ls h4 h5 h6) (fun q => k2 (fun z => q ((i32_eq ha inR0).mpr z)) h1 h2' h3 H locs ls h4 h5 h6)
theorem r_icmp_ne {off : Int} {tgt : Nat} (F : Fx g X cc own nL h) (hd : decode cc pc = .ok (.if_icmp .ne off, 3)) (ht : (pc : Int) + off = (tgt : Int)) (k1 : ¬ a = b → V g X nL μ lv tgt st) (k2 : a = b → V g X nL μ lv (pc + 3) st) : V g X nL μ lv pc (Iv b :: Iv a :: st) := by
  intro h1 h2 h3 H locs ls h4 h5 h6
  have hb : inR b := (List.forall_mem_cons.mp h2).1
  have ha : inR a := (List.forall_mem_cons.mp (List.forall_mem_cons.mp h2).2).1
  have h2' := (List.forall_mem_cons.mp (List.forall_mem_cons.mp h2).2).2
  exact lv_icmp_ne F.1 F.2.1 hd ht (fun q => k1 ((not_congr (i32_eq ha hb)).mp q) h1 h2' h3 H locs ls h4 h5 h6) (fun q => k2 ((i32_eq ha hb).mp q) h1 h2' h3 H locs ls h4 h5 h6)
theorem r_if_ne {off : Int} {tgt : Nat} (F : Fx g X cc own nL h) (hd : decode cc pc = .ok (.ifCond .ne off, 3)) (ht : (pc : Int) + off = (tgt : Int)) (k1 : ¬ a = 0 → V g X nL μ lv tgt st) (k2 : a = 0 → V g X nL μ lv (pc + 3) st) : V g X nL μ lv pc (Iv a :: st) := by
  intro h1 h2 h3 H locs ls h4 h5 h6
  have ha : inR a := (List.forall_mem_cons.mp h2).1
  have h2' := (List.forall_mem_cons.mp h2).2
  exact lv_if_ne F.1 F.2.1 hd ht (fun q => k1 ((not_congr (i32_eq ha inR0)).mp q) h1 h2' h3 H locs ls h4 h5 h6) (fun q => k2 ((i32_eq ha inR0).mp q) h1 h2' h3 H locs ls h4 h5 h6)
theorem r_icmp_lt {off : Int} {tgt : Nat} (F : Fx g X cc own nL h) (hd : decode cc pc = .ok (.if_icmp .lt off, 3)) (ht : (pc : Int) + off = (tgt : Int)) (k1 : a < b → V g X nL μ lv tgt st) (k2 : ¬ (a < b) → V g X nL μ lv (pc + 3) st) : V g X nL μ lv pc (Iv b :: Iv a :: st) := by
  intro h1 h2 h3 H locs ls h4 h5 h6
  have hb : inR b := (List.forall_mem_cons.mp h2).1
  have ha : inR a := (List.forall_mem_cons.mp (List.forall_mem_cons.mp h2).2).1
  have h2' := (List.forall_mem_cons.mp (List.forall_mem_cons.mp h2).2).2
  exact lv_icmp_lt F.1 F.2.1 hd ht (fun q => k1 ((i32_lt ha hb).mp q) h1 h2' h3 H locs ls h4 h5 h6) (fun q => k2 (fun z => q ((i32_lt ha hb).mpr z)) h1 h2' h3 H locs ls h4 h5 h6)
theorem r_if_lt {off : Int} {tgt : Nat} (F : Fx g X cc own nL h) (hd : decode cc pc = .ok (.ifCond .lt off, 3)) (ht : (pc : Int) + off = (tgt : Int)) (k1 : a < 0 → V g X nL μ lv tgt st) (k2 : ¬ (a < 0) → V g X nL μ lv (pc + 3) st) : V g X nL μ lv pc (Iv a :: st) := by
  intro h1 h2 h3 H locs ls h4 h5 h6
  have ha : inR a := (List.forall_mem_cons.mp h2).1
  have h2' := (List.forall_mem_cons.mp h2).2
  exact lv_if_lt F.1 F.2.1 hd ht (fun q => k1 ((i32_lt ha inR0).mp q) h1 h2' h3 H locs ls h4 h5 h6) (fun q => k2 (fun z => q ((i32_lt ha inR0).mpr z)) h1 h2' h3 H locs ls h4 h5 h6)
theorem r_icmp_ge {off : Int} {tgt : Nat} (F : Fx g X cc own nL h) (hd : decode cc pc = .ok (.if_icmp .ge off, 3)) (ht : (pc : Int) + off = (tgt : Int)) (k1 : b ≤ a → V g X nL μ lv tgt st) (k2 : ¬ (b ≤ a) → V g X nL μ lv (pc + 3) st) : V g X nL μ lv pc (Iv b :: Iv a :: st) := by
  intro h1 h2 h3 H locs ls h4 h5 h6
  have hb : inR b := (List.forall_mem_cons.mp h2).1
  have ha : inR a := (List.forall_mem_cons.mp (List.forall_mem_cons.mp h2).2).1
  have h2' := (List.forall_mem_cons.mp (List.forall_mem_cons.mp h2).2).2
  exact lv_icmp_ge F.1 F.2.1 hd ht (fun q => k1 ((i32_le hb ha).mp q) h1 h2' h3 H locs ls h4 h5 h6) (fun q => k2 (fun z => q ((i32_le hb ha).mpr z)) h1 h2' h3 H locs ls h4 h5 h6)
theorem r_if_ge {off : Int} {tgt : Nat} (F : Fx g X cc own nL h) (hd : decode cc pc = .ok (.ifCond .ge off, 3)) (ht : (pc : Int) + off = (tgt : Int)) (k1 : 0 ≤ a → V g X nL μ lv tgt st) (k2 : ¬ (0 ≤ a) → V g X nL μ lv (pc + 3) st) : V g X nL μ lv pc (Iv a :: st) := by
  intro h1 h2 h3 H locs ls h4 h5 h6
  have ha : inR a := (List.forall_mem_cons.mp h2).1
  have h2' := (List.forall_mem_cons.mp h2).2
  exact lv_if_ge F.1 F.2.1 hd ht (fun q => k1 ((i32_le inR0 ha).mp q) h1 h2' h3 H locs ls h4 h5 h6) (fun q => k2 (fun z => q ((i32_le inR0 ha).mpr z)) h1 h2' h3 H locs ls h4 h5 h6)
theorem r_icmp_gt {off : Int} {tgt : Nat} (F : Fx g X cc own nL h) (hd : decode cc pc = .ok (.if_icmp .gt off, 3)) (ht : (pc : Int) + off = (tgt : Int)) (k1 : b < a → V g X nL μ lv tgt st) (k2 : ¬ (b < a) → V g X nL μ lv (pc + 3) st) : V g X nL μ lv pc (Iv b :: Iv a :: st) := by
  intro h1 h2 h3 H locs ls h4 h5 h6
  have hb : inR b := (List.forall_mem_cons.mp h2).1
  have ha : inR a := (List.forall_mem_cons.mp (List.forall_mem_cons.mp h2).2).1
  have h2' := (List.forall_mem_cons.mp (List.forall_mem_cons.mp h2).2).2
  exact lv_icmp_gt F.1 F.2.1 hd ht (fun q => k1 ((i32_lt hb ha).mp q) h1 h2' h3 H locs ls h4 h5 h6) (fun q => k2 (fun z => q ((i32_lt hb ha).mpr z)) h1 h2' h3 H locs ls h4 h5 h6)
theorem r_if_gt {off : Int} {tgt : Nat} (F : Fx g X cc own nL h) (hd : decode cc pc = .ok (.ifCond .gt off, 3)) (ht : (pc : Int) + off = (tgt : Int)) (k1 : 0 < a → V g X nL μ lv tgt st) (k2 : ¬ (0 < a) → V g X nL μ lv (pc + 3) st) : V g X nL μ lv pc (Iv a :: st) := by
  intro h1 h2 h3 H locs ls h4 h5 h6
  have ha : inR a := (List.forall_mem_cons.mp h2).1
  have h2' := (List.forall_mem_cons.mp h2).2
  exact lv_if_gt F.1 F.2.1 hd ht (fun q => k1 ((i32_lt inR0 ha).mp q) h1 h2' h3 H locs ls h4 h5 h6) (fun q => k2 (fun z => q ((i32_lt inR0 ha).mpr z)) h1 h2' h3 H locs ls h4 h5 h6)
theorem r_icmp_le {off : Int} {tgt : Nat} (F : Fx g X cc own nL h) (hd : decode cc pc = .ok (.if_icmp .le off, 3)) (ht : (pc : Int) + off = (tgt : Int)) (k1 : a ≤ b → V g X nL μ lv tgt st) (k2 : ¬ (a ≤ b) → V g X nL μ lv (pc + 3) st) : V g X nL μ lv pc (Iv b :: Iv a :: st) := by
  intro h1 h2 h3 H locs ls h4 h5 h6
  have hb : inR b := (List.forall_mem_cons.mp h2).1
  have ha : inR a := (List.forall_mem_cons.mp (List.forall_mem_cons.mp h2).2).1
  have h2' := (List.forall_mem_cons.mp (List.forall_mem_cons.mp h2).2).2
  exact lv_icmp_le F.1 F.2.1 hd ht (fun q => k1 ((i32_le ha hb).mp q) h1 h2' h3 H locs ls h4 h5 h6) (fun q => k2 (fun z => q ((i32_le ha hb).mpr z)) h1 h2' h3 H locs ls h4 h5 h6)
theorem r_if_le {off : Int} {tgt : Nat} (F : Fx g X cc own nL h) (hd : decode cc pc = .ok (.ifCond .le off, 3)) (ht : (pc : Int) + off = (tgt : Int)) (k1 : a ≤ 0 → V g X nL μ lv tgt st) (k2 : ¬ (a ≤ 0) → V g X nL μ lv (pc + 3) st) : V g X nL μ lv pc (Iv a :: st) := by
  intro h1 h2 h3 H locs ls h4 h5 h6
  have ha : inR a := (List.forall_mem_cons.mp h2).1
  have h2' := (List.forall_mem_cons.mp h2).2
  exact lv_if_le F.1 F.2.1 hd ht (fun q => k1 ((i32_le ha inR0).mp q) h1 h2' h3 H locs ls h4 h5 h6) (fun q => k2 (fun z => q ((i32_le ha inR0).mpr z)) h1 h2' h3 H locs ls h4 h5 h6)
theorem r_tableOut {dflt lo hi : Int} {offs : Array Int} {ln tgt : Nat} (F : Fx g X cc own nL h) (hd : decode cc pc = .ok (.tableswitch dflt lo hi offs, ln)) (hh : a < lo ∨ hi < a) (ht : (pc : Int) + dflt = (tgt : Int)) (kk : V g X nL μ lv tgt st) : V g X nL μ lv pc (Iv a :: st) := by
  intro h1 h2 h3 H locs ls h4 h5 h6
  have ha : inR a := (List.forall_mem_cons.mp h2).1
  exact lv_tableOut F.1 F.2.1 hd (by rw [ofI_toInt ha]; exact hh) ht (kk h1 (List.forall_mem_cons.mp h2).2 h3 H locs ls h4 h5 h6)
theorem r_tableIn {dflt lo hi off : Int} {offs : Array Int} {ln tgt : Nat} (F : Fx g X cc own nL h) (hd : decode cc pc = .ok (.tableswitch dflt lo hi offs, ln)) (hh1 : lo ≤ a) (hh2 : a ≤ hi) (ho : offs[(a - lo).toNat]? = some off) (ht : (pc : Int) + off = (tgt : Int)) (kk : V g X nL μ lv tgt st) : V g X nL μ lv pc (Iv a :: st) := by
  intro h1 h2 h3 H locs ls h4 h5 h6
  have ha : inR a := (List.forall_mem_cons.mp h2).1
  exact lv_tableIn F.1 F.2.1 hd (by rw [ofI_toInt ha]; omega) (by rw [ofI_toInt ha]; omega) (by rw [ofI_toInt ha]; exact ho) ht (kk h1 (List.forall_mem_cons.mp h2).2 h3 H locs ls h4 h5 h6)
end RowsB
end
section
/-! Rows of the heap. -/
def wsl (g : Wc) (μ : Mem) : va_W := (List.range 112).map (fun c => (g.1 c, ce g μ c))
theorem wsl_at {g : Wc} {μ : Mem} {c : Nat} (hc : c < 112) : (wsl g μ)[c]? = some (g.1 c, ce g μ c) := by
  unfold wsl
  rw [List.getElem?_map, List.getElem?_range hc]
  rfl
theorem wsl_lt {g : Wc} {μ : Mem} {k : Nat} {q : Nat × va_E} (h : (wsl g μ)[k]? = some q) : k < 112 ∧ q = (g.1 k, ce g μ k) := by
  have hk : k < 112 := by
    have := (List.getElem?_eq_some_iff.mp h).1
    simpa [wsl] using this
  refine ⟨hk, ?_⟩
  rw [wsl_at hk] at h
  exact (Option.some.inj h).symm
theorem HW.P {g : Wc} {μ : Mem} {H : Heap} (h : HW g μ H) : va_P g.2.1 vwCl (wsl g μ) H := by
  intro k q hq
  obtain ⟨hk, rfl⟩ := wsl_lt hq
  exact h.1 k hk
theorem HW.D {g : Wc} {μ : Mem} {H : Heap} (h : HW g μ H) : va_D (Aq g) (wsl g μ) := by
  refine ⟨fun i j p q hp hq e => ?_, fun k q hq => ?_⟩
  · obtain ⟨hi, rfl⟩ := wsl_lt hp
    obtain ⟨hj, rfl⟩ := wsl_lt hq
    exact h.2 i j hi hj e
  · obtain ⟨hk, rfl⟩ := wsl_lt hq
    exact ⟨k, hk, rfl⟩
theorem HW.of {g : Wc} {μ μ' : Mem} {H H1 : Heap} (h : HW g μ H) (hP : va_P g.2.1 vwCl (wsl g μ') H1) : HW g μ' H1 :=
  ⟨fun c hc => hP c _ (wsl_at hc), h.2⟩
theorem ce_congr {g : Wc} {μ μ' : Mem} {c : Nat} (h : μ c = μ' c) : ce g μ c = ce g μ' c := by
  unfold ce
  rw [h]
theorem wsl_set {g : Wc} {μ μ' : Mem} {c : Nat} {e : va_E} (hc : c < 112) (ho : ∀ d, d ≠ c → μ' d = μ d) (he : ce g μ' c = e) : (wsl g μ).set c (g.1 c, e) = wsl g μ' := by
  apply List.ext_getElem?
  intro k
  rw [List.getElem?_set]
  by_cases hk : c = k
  · subst hk
    rw [if_pos rfl, wsl_at hc, he, if_pos (by simp [wsl]; exact hc)]
  · rw [if_neg hk]
    by_cases h2 : k < 112
    · rw [wsl_at h2, wsl_at h2, ce_congr (ho k (fun q => hk q.symm))]
    · rw [List.getElem?_eq_none (by simp [wsl]; omega), List.getElem?_eq_none (by simp [wsl]; omega)]
theorem wr_ne {μ : Mem} {c i d : Nat} {v : Int} (h : d ≠ c) : wr μ c i v d = μ d := by unfold wr; rw [if_neg h]
theorem wr_eq {μ : Mem} {c i : Nat} {v : Int} : wr μ c i v c = fun j => if j = i then v else μ c j := by unfold wr; rw [if_pos rfl]
theorem wr_rng {μ : Mem} {c i : Nat} {v : Int} (h : RngM μ) (hv : inR v) : RngM (wr μ c i v) := by
  intro a j
  unfold wr
  by_cases h1 : a = c
  · rw [if_pos h1]
    by_cases h2 : j = i
    · simp only [h2, if_true]; exact hv
    · simp only [h2, if_false]; exact h c j
  · rw [if_neg h1]; exact h a j
theorem ce_obj {g : Wc} {μ : Mem} {c : Nat} {o : Nat × List (Option Nat)} (h : objT[c]? = some o) : ce g μ c = .inr (o.1, flds g.1 (μ c) 0 o.2) := by
  unfold ce; rw [h]
theorem objT_none {c : Nat} (h : 12 ≤ c) : objT[c]? = none := List.getElem?_eq_none (by simp [objT]; exact h)
theorem outT_none {c : Nat} (h : 23 ≤ c) : outT[c - 12]? = none := List.getElem?_eq_none (by simp [outT]; omega)
theorem ce_int {g : Wc} {μ : Mem} {c : Nat} (h : 24 ≤ c) : ce g μ c = .inl (g.2.2.1, len c, .inl (fun i => Int32.ofInt (μ c i))) := by
  unfold ce
  rw [objT_none (by omega), outT_none (by omega)]
  show Sum.inl (if c = 23 then g.2.2.2.1 else g.2.2.1, len c, _) = _
  rw [if_neg (by omega)]
theorem ce_byte {g : Wc} {μ : Mem} : ce g μ 23 = .inl (g.2.2.2.1, 4096, .inl (fun i => Int32.ofInt (μ 23 i))) := rfl
theorem ce_out {g : Wc} {μ : Mem} {c n b : Nat} (h : 12 ≤ c) (ho : outT[c - 12]? = some (n, b)) : ce g μ c = .inl (g.2.2.2.2, n, .inr (.inr (.inr (.inr (fun i => if i < n then some (g.1 (b + i)) else none))))) := by
  unfold ce
  rw [objT_none h, ho]
theorem flds_I {q : Nat → Nat} {f : Nat → Int} : ∀ {o : List (Option Nat)} {j k : Nat}, o[k]? = some none → (flds q f j o)[k]? = some (Value.int (Int32.ofInt (f (j + k))))
  | [], _, _, h => by simp at h
  | none :: r, j, 0, _ => rfl
  | some c :: r, j, 0, h => by simp at h
  | none :: r, j, k + 1, h => by
    have := flds_I (q := q) (f := f) (o := r) (j := j + 1) (k := k) (by simpa using h)
    simpa [flds, Nat.add_assoc, Nat.add_comm 1 k] using this
  | some c :: r, j, k + 1, h => by
    have := flds_I (q := q) (f := f) (o := r) (j := j + 1) (k := k) (by simpa using h)
    simpa [flds, Nat.add_assoc, Nat.add_comm 1 k] using this
theorem flds_R {q : Nat → Nat} {f : Nat → Int} {d : Nat} : ∀ {o : List (Option Nat)} {j k : Nat}, o[k]? = some (some d) → (flds q f j o)[k]? = some (Value.ref (q d))
  | [], _, _, h => by simp at h
  | none :: r, j, 0, h => by simp at h
  | some c :: r, j, 0, h => by
    simp at h
    subst h
    rfl
  | none :: r, j, k + 1, h => by
    have := flds_R (q := q) (f := f) (d := d) (o := r) (j := j + 1) (k := k) (by simpa using h)
    simpa [flds] using this
  | some c :: r, j, k + 1, h => by
    have := flds_R (q := q) (f := f) (d := d) (o := r) (j := j + 1) (k := k) (by simpa using h)
    simpa [flds] using this
theorem flds_len {q : Nat → Nat} {f : Nat → Int} : ∀ {o : List (Option Nat)} {j : Nat}, (flds q f j o).length = o.length
  | [], _ => rfl
  | none :: r, j => by simp [flds, flds_len (o := r)]
  | some c :: r, j => by simp [flds, flds_len (o := r)]
theorem flds_set {q : Nat → Nat} {f f' : Nat → Int} : ∀ {o : List (Option Nat)} {j k : Nat}, o[k]? = some none → (∀ i, i ≠ j + k → f' i = f i) → (flds q f j o).set k (Value.int (Int32.ofInt (f' (j + k)))) = flds q f' j o
  | [], _, _, h, _ => by simp at h
  | none :: r, j, 0, _, hf => by
    show Value.int (Int32.ofInt (f' (j + 0))) :: flds q f (j + 1) r = Value.int (Int32.ofInt (f' j)) :: flds q f' (j + 1) r
    rw [Nat.add_zero]
    congr 1
    exact flds_cg (fun i hi => (hf i (by omega)).symm)
  | some c :: r, j, 0, h, _ => by simp at h
  | none :: r, j, k + 1, h, hf => by
    have := flds_set (q := q) (f := f) (f' := f') (o := r) (j := j + 1) (k := k) (by simpa using h) (fun i hi => hf i (by omega))
    show Value.int (Int32.ofInt (f j)) :: (flds q f (j + 1) r).set k _ = Value.int (Int32.ofInt (f' j)) :: flds q f' (j + 1) r
    rw [show j + (k + 1) = j + 1 + k by omega, this, hf j (by omega)]
  | some c :: r, j, k + 1, h, hf => by
    have := flds_set (q := q) (f := f) (f' := f') (o := r) (j := j + 1) (k := k) (by simpa using h) (fun i hi => hf i (by omega))
    show Value.ref (q c) :: (flds q f (j + 1) r).set k _ = Value.ref (q c) :: flds q f' (j + 1) r
    rw [show j + (k + 1) = j + 1 + k by omega, this]
where
  flds_cg {q : Nat → Nat} {f f' : Nat → Int} : ∀ {o : List (Option Nat)} {j : Nat}, (∀ i, j ≤ i → f i = f' i) → flds q f j o = flds q f' j o
  | [], _, _ => rfl
  | none :: r, j, hf => by
    show Value.int (Int32.ofInt (f j)) :: flds q f (j + 1) r = Value.int (Int32.ofInt (f' j)) :: flds q f' (j + 1) r
    rw [hf j (Nat.le_refl j), flds_cg (o := r) (fun i hi => hf i (by omega))]
  | some c :: r, j, hf => by
    show Value.ref (q c) :: flds q f (j + 1) r = Value.ref (q c) :: flds q f' (j + 1) r
    rw [flds_cg (o := r) (fun i hi => hf i (by omega))]
def catS (st : List AV) : Nat := (st.map (fun a => if isL a then 2 else 1)).sum
theorem catS_eq (q : Nat → Nat) (st : List AV) : ((st.map (cv q)).map fun v => v.category).sum = catS st := by
  unfold catS
  rw [List.map_map]
  congr 2
  funext a
  rcases a with a | a | a <;> rfl
section RowsC
variable {g : Wc} {X : Cx} {cc : ByteArray} {own : String} {nL h : Nat} {μ : Mem} {lv : List (Nat × AV)} {pc : Nat} {st : List AV} {a b : Int}
theorem Fx.ts (F : Fx g X cc own nL h) : ∀ w ∈ tb, w.before X.2.1.2.2.1 X.2.1.1 = true := fun w hw => F.2.2.2.2.1.1 w hw _
theorem r_getI {c ci k N idx : Nat} {C : String} {T : u_T} {o : List (Option Nat)} (F : Fx g X cc own nL h) (hin : ∀ w ∈ u_ws C T N, w ∈ tb) (hcl : vwCl[ci]? = some (C, T, N)) (hc : c < 112) (ho : objT[c]? = some (ci, o)) (hk : k < N) (hok : o[k]? = some none)
    (hlk : Cond.fieldLink own idx (T k).1 (T k).2.1 (T k).2.2.1 ∈ tb) (hd : decode cc pc = .ok (.getfield idx, 3)) (kk : V g X nL μ lv (pc + 3) (Iv (μ c k) :: st)) : V g X nL μ lv pc (Rv c :: st) := by
  intro h1 h2 h3 H locs ls h4 h5 h6
  have h2' := (List.forall_mem_cons.mp h2).2
  have hkk := kk h1 (List.forall_mem_cons.mpr ⟨h3 c k, h2'⟩) h3 H locs ls h4 h5 h6
  refine va_get (D := g.2.1) (ws := wsl g μ) (v := Value.int (Int32.ofInt (μ c k))) F.1 F.2.1 F.ts hin F.2.2.2.1 F.2.2.2.2.1.2.1 h4.P c (by rw [wsl_at hc, ce_obj ho]) hcl k hk (F.ts _ hlk) (fun _ z => z) (by rw [flds_I hok, Nat.zero_add]) hd hkk
theorem r_getR {c ci k N idx d : Nat} {C : String} {T : u_T} {o : List (Option Nat)} (F : Fx g X cc own nL h) (hin : ∀ w ∈ u_ws C T N, w ∈ tb) (hcl : vwCl[ci]? = some (C, T, N)) (hc : c < 112) (ho : objT[c]? = some (ci, o)) (hk : k < N) (hok : o[k]? = some (some d))
    (hlk : Cond.fieldLink own idx (T k).1 (T k).2.1 (T k).2.2.1 ∈ tb) (hd : decode cc pc = .ok (.getfield idx, 3)) (kk : V g X nL μ lv (pc + 3) (Rv d :: st)) : V g X nL μ lv pc (Rv c :: st) := by
  intro h1 h2 h3 H locs ls h4 h5 h6
  have h2' := (List.forall_mem_cons.mp h2).2
  have hkk := kk h1 (List.forall_mem_cons.mpr ⟨trivial, h2'⟩) h3 H locs ls h4 h5 h6
  refine va_get (D := g.2.1) (ws := wsl g μ) (v := Value.ref (g.1 d)) F.1 F.2.1 F.ts hin F.2.2.2.1 F.2.2.2.2.1.2.1 h4.P c (by rw [wsl_at hc, ce_obj ho]) hcl k hk (F.ts _ hlk) (fun _ z => z) (flds_R hok) hd hkk
theorem r_putI {c ci k N idx : Nat} {C : String} {T : u_T} {o : List (Option Nat)} (F : Fx g X cc own nL h) (hin : ∀ w ∈ u_ws C T N, w ∈ tb) (ty0 : Nat → FieldType) (hty : ∀ k, k < N → parseFieldDescriptor (T k).2.2.1 = some (ty0 k)) (hnm : ∀ a, a < N → ∀ b, b < N → a ≠ b → (T a).2.1 ≠ (T b).2.1)
    (hcl : vwCl[ci]? = some (C, T, N)) (hc : c < 112) (ho : objT[c]? = some (ci, o)) (hk : k < N) (hok : o[k]? = some none) (hlk : Cond.fieldLink own idx (T k).1 (T k).2.1 (T k).2.2.1 ∈ tb) (hfin : (T k).2.2.2 = false) (hI : ty0 k = .int) (hd : decode cc pc = .ok (.putfield idx, 3)) (kk : V g X nL (wr μ c k a) lv (pc + 3) st) : V g X nL μ lv pc (Iv a :: Rv c :: st) := by
  intro h1 h2 h3 H locs ls h4 h5 h6
  have ha : inR a := (List.forall_mem_cons.mp h2).1
  have h2' := (List.forall_mem_cons.mp (List.forall_mem_cons.mp h2).2).2
  have hl : k < o.length := (List.getElem?_eq_some_iff.mp hok).1
  refine va_put (D := g.2.1) (ws := wsl g μ) (ty := .int) (v := Value.int (Int32.ofInt a)) F.1 F.2.1 F.ts hin ty0 hty hnm F.2.2.2.1 F.2.2.2.2.1.2.1 h4.P h4.D h5 c (by rw [wsl_at hc, ce_obj ho]) hcl k hk (F.ts _ hlk) (fun _ z => z) hfin (by rw [hty k hk, hI]) rfl rfl (by rw [flds_len]; exact hl) hd (fun H1 locs1 hP hD hS => ?_)
  have e : (wsl g μ).set c (g.1 c, .inr (ci, (flds g.1 (μ c) 0 o).set k (Value.int (Int32.ofInt a)))) = wsl g (wr μ c k a) := by
    refine wsl_set hc (fun d hdc => wr_ne hdc) ?_
    rw [ce_obj ho]
    have hs := flds_set (q := g.1) (f := μ c) (f' := wr μ c k a c) (o := o) (j := 0) (k := k) hok (fun i hi => by rw [wr_eq]; simp only; rw [if_neg (by omega)])
    rw [← hs, wr_eq]
    simp
  rw [e] at hP
  exact kk h1 h2' (wr_rng h3 ha) H1 locs1 ls (h4.of hP) hS h6
theorem r_iald {c n : Nat} (F : Fx g X cc own nL h) (hc1 : 24 ≤ c) (hc2 : c < 112) (hn : len c = n) (hi : 0 ≤ a ∧ a < n) (hd : decode cc pc = .ok (.iaload, 1)) (kk : V g X nL μ lv (pc + 1) (Iv (μ c a.toNat) :: st)) : V g X nL μ lv pc (Iv a :: Rv c :: st) := by
  intro h1 h2 h3 H locs ls h4 h5 h6
  have ha : inR a := (List.forall_mem_cons.mp h2).1
  have h2' := (List.forall_mem_cons.mp (List.forall_mem_cons.mp h2).2).2
  have hkk := kk h1 (List.forall_mem_cons.mpr ⟨h3 c _, h2'⟩) h3 H locs ls h4 h5 h6
  refine va_iald (D := g.2.1) (ws := wsl g μ) F.1 F.2.1 F.2.2.2.2.1.2.1 h4.P c 0 (by rw [wsl_at hc2, ce_int hc1]) rfl (i32_in hi.1 (by rw [hn]; exact hi.2) ha) hd ?_
  rw [i32_clamp hi.1 ha]
  exact hkk
theorem r_iast {c n : Nat} {x : Int} (F : Fx g X cc own nL h) (hc1 : 24 ≤ c) (hc2 : c < 112) (hn : len c = n) (hi : 0 ≤ a ∧ a < n) (hd : decode cc pc = .ok (.iastore, 1)) (kk : V g X nL (wr μ c a.toNat x) lv (pc + 1) st) : V g X nL μ lv pc (Iv x :: Iv a :: Rv c :: st) := by
  intro h1 h2 h3 H locs ls h4 h5 h6
  have hx : inR x := (List.forall_mem_cons.mp h2).1
  have ha : inR a := (List.forall_mem_cons.mp (List.forall_mem_cons.mp h2).2).1
  have h2' := (List.forall_mem_cons.mp (List.forall_mem_cons.mp (List.forall_mem_cons.mp h2).2).2).2
  refine va_iast (D := g.2.1) (ws := wsl g μ) F.1 F.2.1 F.2.2.2.2.1.2.1 h4.P h4.D h5 c 0 (by rw [wsl_at hc2, ce_int hc1]) rfl (i32_in hi.1 (by rw [hn]; exact hi.2) ha) hd (fun H1 locs1 hP hD hS => ?_)
  have e : (wsl g μ).set c (g.1 c, .inl (g.2.2.1, len c, .inl (upd (fun i => Int32.ofInt (μ c i)) (Int32.ofInt a).toNatClampNeg (Int32.ofInt x)))) = wsl g (wr μ c a.toNat x) := by
    refine wsl_set hc2 (fun d hdc => wr_ne hdc) ?_
    rw [ce_int hc1, wr_eq, i32_clamp hi.1 ha]
    congr 4
    funext j
    unfold upd
    by_cases hj : j = a.toNat
    · simp only [hj, if_true]
    · simp only [hj, if_false]
  rw [e] at hP
  exact kk h1 h2' (wr_rng h3 hx) H1 locs1 ls (h4.of hP) hS h6
theorem r_bald (F : Fx g X cc own nL h) (hi : 0 ≤ a ∧ a < 4096) (hd : decode cc pc = .ok (.baload, 1)) (kk : V g X nL μ lv (pc + 1) (Iv (μ 23 a.toNat) :: st)) : V g X nL μ lv pc (Iv a :: Rv 23 :: st) := by
  intro h1 h2 h3 H locs ls h4 h5 h6
  have ha : inR a := (List.forall_mem_cons.mp h2).1
  have h2' := (List.forall_mem_cons.mp (List.forall_mem_cons.mp h2).2).2
  have hkk := kk h1 (List.forall_mem_cons.mpr ⟨h3 23 _, h2'⟩) h3 H locs ls h4 h5 h6
  refine va_bald (D := g.2.1) (ws := wsl g μ) F.1 F.2.1 F.2.2.2.2.1.2.1 h4.P 23 1 (by rw [wsl_at (by omega), ce_byte]) rfl (i32_in (n := 4096) hi.1 hi.2 ha) hd ?_
  rw [i32_clamp hi.1 ha]
  exact hkk
theorem i8_id {x : Int} (h1 : -128 ≤ x) (h2 : x ≤ 127) : (Int32.ofInt x).toInt8.toInt32 = Int32.ofInt x := by
  apply Int32.toInt_inj.mp
  have hr : inR x := by unfold inR; omega
  rw [Int8.toInt_toInt32, Int32.toInt_toInt8, ofI_toInt hr]
  exact Int.bmod_eq_of_le (by simp; omega) (by simp; omega)
theorem r_bast {x : Int} (F : Fx g X cc own nL h) (hi : 0 ≤ a ∧ a < 4096) (hx2 : -128 ≤ x ∧ x ≤ 127) (hd : decode cc pc = .ok (.bastore, 1)) (kk : V g X nL (wr μ 23 a.toNat x) lv (pc + 1) st) : V g X nL μ lv pc (Iv x :: Iv a :: Rv 23 :: st) := by
  intro h1 h2 h3 H locs ls h4 h5 h6
  have hx : inR x := (List.forall_mem_cons.mp h2).1
  have ha : inR a := (List.forall_mem_cons.mp (List.forall_mem_cons.mp h2).2).1
  have h2' := (List.forall_mem_cons.mp (List.forall_mem_cons.mp (List.forall_mem_cons.mp h2).2).2).2
  refine va_bast (D := g.2.1) (ws := wsl g μ) F.1 F.2.1 F.2.2.2.2.1.2.1 h4.P h4.D h5 23 1 (by rw [wsl_at (by omega), ce_byte]) rfl (i32_in (n := 4096) hi.1 hi.2 ha) hd (fun H1 locs1 hP hD hS => ?_)
  have e : (wsl g μ).set 23 (g.1 23, .inl (g.2.2.2.1, 4096, .inl (upd (fun i => Int32.ofInt (μ 23 i)) (Int32.ofInt a).toNatClampNeg (vp_nar .byte (Int32.ofInt x))))) = wsl g (wr μ 23 a.toNat x) := by
    refine wsl_set (by omega) (fun d hdc => wr_ne hdc) ?_
    rw [ce_byte, wr_eq, i32_clamp hi.1 ha, vp_nar_byte, i8_id hx2.1 hx2.2]
    congr 4
    funext j
    unfold upd
    by_cases hj : j = a.toNat
    · simp only [hj, if_true]
    · simp only [hj, if_false]
  rw [e] at hP
  exact kk h1 h2' (wr_rng h3 hx) H1 locs1 ls (h4.of hP) hS h6
theorem r_aald {c n d : Nat} (F : Fx g X cc own nL h) (hc1 : 12 ≤ c) (hc2 : c < 112) (ho : outT[c - 12]? = some (n, d)) (hi : 0 ≤ a ∧ a < n) (hd : decode cc pc = .ok (.aaload, 1)) (kk : V g X nL μ lv (pc + 1) (Rv (d + a.toNat) :: st)) : V g X nL μ lv pc (Iv a :: Rv c :: st) := by
  intro h1 h2 h3 H locs ls h4 h5 h6
  have ha : inR a := (List.forall_mem_cons.mp h2).1
  have h2' := (List.forall_mem_cons.mp (List.forall_mem_cons.mp h2).2).2
  have hkk := kk h1 (List.forall_mem_cons.mpr ⟨trivial, h2'⟩) h3 H locs ls h4 h5 h6
  have hcell := h4.P c _ (wsl_at hc2)
  rw [ce_out hc1 ho] at hcell
  have hlt : (Int32.ofInt a).toNatClampNeg < n := by rw [i32_clamp hi.1 ha]; omega
  refine W.aald (v := Value.ref (g.1 (d + a.toNat))) (ty := .array .int) F.1 F.2.1 hcell ((F.2.2.2.2.1.2.1.2 2 _ rfl).1 n _) rfl (fun q => by cases q) ?_ ?_ rfl rfl hd hkk
  · show ¬ (_ ∨ (arrV _ _ _).slots.size ≤ _)
    rw [arrV_size]
    exact i32_in hi.1 hi.2 ha
  · show (arrV _ _ _).slots[_]? = _
    rw [arrV_read _ _ hlt, i32_clamp hi.1 ha]
    dsimp only
    rw [if_pos (by omega)]
    rfl
end RowsC
end
section
/-! Moving the tables' words, the statics; statics and constants as rows. -/
def onW : Cond → Bool
  | .arrayClass _ => true
  | w => w.onTables
theorem lw_on : tb.all onW = true := by decide +kernel
theorem word_any {w : Cond} (hw : w ∈ tb) {A : Array Value} {U : State} (h : w.before A U = true) (B : Array Value) : w.before B U = true := by
  have h1 := List.all_eq_true.mp lw_on w hw
  cases w <;> first | exact va_any (by exact h1) h | exact h
theorem word_mv {w : Cond} (hw : w ∈ tb) {s U : State} (hW : s.WarmedH U.vm) (h : ∀ A : Array Value, w.before A s = true) : ∀ A : Array Value, w.before A U = true := by
  have h1 := (List.mem_filter.mp hw).2
  intro A
  cases w
  case methodLinkNest => exact va_Nw.use rfl (va_Nw.warmM hW (h #[]))
  case fieldLinkNest => exact va_Nw.use rfl (va_Nw.warmF hW (h #[]))
  all_goals exact word_at hW (good_of_word h1) (h #[])
theorem Zs.mv {g : Wc} {s U : State} {H : Heap} (hvm : s.vm.Alike U.vm) (hS : ∀ q, q < s.heap.size → ¬ Aq g q → H[q]? = s.heap[q]?) (h : Zs g s s.heap) : Zs g U H := by
  obtain ⟨⟨a1, a2⟩, ⟨b1, b2⟩, c1, c2⟩ := h
  exact ⟨⟨(a1.kept hS).moved hvm, (a2.kept hS).moved hvm⟩, ⟨(b1.kept hS).moved hvm, (b2.kept hS).moved hvm⟩, (c1.kept hS).moved hvm, (c2.kept hS).moved hvm⟩
theorem Sd.mv {g : Wc} {s U : State} {H : Heap} {locs : List Loc} (hW : s.WarmedH U.vm) (hS : va_S (Aq g) s.heap H locs) (hU : U.heap = H) (h : Sd g s) : Sd g U :=
  ⟨fun w hw => word_mv hw hW (h.1 w hw), va_K.moved hW.alike h.2.1, by rw [hU]; exact Zs.mv hW.alike hS.2.1 h.2.2⟩
end
section
/-! Statics, constants, Math, returns, entries, calls. -/
abbrev Pst : Type := Int → Mem → Prop
def QI (g : Wc) (Post : Pst) : Array Value → State → Outcome → State → Prop := va_Qi (S := Int × Mem) (fun r u => r = Int32.ofInt u.1 ∧ inR u.1 ∧ Post u.1 u.2) (fun u t => Wd g u.2 t) (Aq g)
def QL (g : Wc) (Post : Pst) : Array Value → State → Outcome → State → Prop := va_Ql (S := Int × Mem) (fun r u => r = Int64.ofInt u.1 ∧ inRL u.1 ∧ Post u.1 u.2) (fun u t => Wd g u.2 t) (Aq g)
def QV (g : Wc) (Post : Pst) : Array Value → State → Outcome → State → Prop := va_Qv (S := Mem) (fun u => Post 0 u) (fun u t => Wd g u t) (Aq g)
def Rt (g : Wc) (X : Cx) (Qc : Array Value → State → Outcome → State → Prop) : Prop := X.2.2.1.2.2 = MQ X.2.1.2.2.2 Qc X.2.1.2.2.1 X.2.1.1 X.2.2.2.1 X.2.2.2.2 (Aq g)
def Mt (g : Wc) (l : Launch) (y : MethodName) (cc : ByteArray) (nL : Nat) (ret : Option FieldType) (h : Nat) (avs : List AV) (μ : Mem) (Qc : Array Value → State → Outcome → State → Prop) : Prop :=
  Met l y [.code y cc nL ret] { frames := h, cells := 0, slots := 0, locals := 41 * h } (fun a U => a = (avs.map (cv g.1)).toArray ∧ Wd g μ U) Qc 0 0 (Aq g)
def lva : Nat → List AV → List (Nat × AV)
  | _, [] => []
  | k, a :: r => (k, a) :: lva (k + (if isL a then 2 else 1)) r
theorem lva_eq (g : Wc) : ∀ (k : Nat) (avs : List AV), lv_args k (avs.map (cv g.1)) = cvl g (lva k avs)
  | _, [] => rfl
  | k, a :: r => by
    have ih := fun k => lva_eq g k r
    rcases a with a | a | a
    · show _ :: lv_args (k + 1) _ = _ :: cvl g (lva (k + 1) r)
      rw [ih]
    · show _ :: lv_args (k + 2) _ = _ :: cvl g (lva (k + 2) r)
      rw [ih]
    · show _ :: lv_args (k + 1) _ = _ :: cvl g (lva (k + 1) r)
      rw [ih]
theorem lva_ok : ∀ (k : Nat) (avs : List AV), (∀ a ∈ avs, okA a) → ∀ q ∈ lva k avs, okA q.2
  | _, [], _ => fun q h => by cases h
  | k, a :: r, h => by
    have h' := List.forall_mem_cons.mp h
    exact List.forall_mem_cons.mpr ⟨h'.1, lva_ok _ r h'.2⟩
section RowsD
variable {g : Wc} {X : Cx} {cc : ByteArray} {own : String} {nL h : Nat} {μ : Mem} {lv : List (Nat × AV)} {pc : Nat} {st : List AV} {a b : Int} {Post : Pst}
theorem r_iret (F : Fx g X cc own nL h) (hR : Rt g X (QI g Post)) (hr : X.2.2.1.1.sig.returnType = some .int) (hd : decode cc pc = .ok (.ireturn, 1)) (hp : Post a μ) : V g X nL μ lv pc [Iv a] := by
  intro h1 h2 h3 H locs ls h4 h5 h6
  obtain ⟨⟨p, l, e, R⟩, ⟨s, m, args, below⟩, ⟨meth, c, Q⟩, ⟨kc, ks⟩⟩ := X
  have hQ : Q = MQ below (QI g Post) args s kc ks (Aq g) := hR
  subst hQ
  have ha : inR a := (List.forall_mem_cons.mp h2).1
  exact W.iret (v := Int32.ofInt a) F.1 F.2.1 hr (fun t ht hW => ⟨⟨Int32.ofInt a, (a, μ), rfl, ⟨rfl, ha, hp⟩, Sd.mv hW h5 ht F.2.2.2.2.1, by rw [ht]; exact h4, h3⟩, h5.F ht⟩) h5.2.2 hd F.2.2.2.2.2.2
theorem r_zret (F : Fx g X cc own nL h) (hR : Rt g X (QI g Post)) (hr : X.2.2.1.1.sig.returnType = some .boolean) (hd : decode cc pc = .ok (.ireturn, 1)) (h01 : a = 0 ∨ a = 1) (hp : Post a μ) : V g X nL μ lv pc [Iv a] := by
  intro h1 h2 h3 H locs ls h4 h5 h6
  obtain ⟨⟨p, l, e, R⟩, ⟨s, m, args, below⟩, ⟨meth, c, Q⟩, ⟨kc, ks⟩⟩ := X
  have hQ : Q = MQ below (QI g Post) args s kc ks (Aq g) := hR
  subst hQ
  have ha : inR a := (List.forall_mem_cons.mp h2).1
  exact W.zret (ty := .boolean) (v := Int32.ofInt a) F.1 F.2.1 hr (by rcases h01 with rfl | rfl <;> rfl) (fun t ht hW => ⟨⟨Int32.ofInt a, (a, μ), rfl, ⟨rfl, ha, hp⟩, Sd.mv hW h5 ht F.2.2.2.2.1, by rw [ht]; exact h4, h3⟩, h5.F ht⟩) h5.2.2 hd F.2.2.2.2.2.2
theorem r_lret (F : Fx g X cc own nL h) (hR : Rt g X (QL g Post)) (hr : X.2.2.1.1.sig.returnType = some .long) (hd : decode cc pc = .ok (.lreturn, 1)) (hp : Post a μ) : V g X nL μ lv pc [Lv a] := by
  intro h1 h2 h3 H locs ls h4 h5 h6
  obtain ⟨⟨p, l, e, R⟩, ⟨s, m, args, below⟩, ⟨meth, c, Q⟩, ⟨kc, ks⟩⟩ := X
  have hQ : Q = MQ below (QL g Post) args s kc ks (Aq g) := hR
  subst hQ
  have ha : inRL a := (List.forall_mem_cons.mp h2).1
  exact W.lret (v := Int64.ofInt a) F.1 F.2.1 hr (fun t ht hW => ⟨⟨Int64.ofInt a, (a, μ), rfl, ⟨rfl, ha, hp⟩, Sd.mv hW h5 ht F.2.2.2.2.1, by rw [ht]; exact h4, h3⟩, h5.F ht⟩) h5.2.2 hd F.2.2.2.2.2.2
theorem r_vret (F : Fx g X cc own nL h) (hR : Rt g X (QV g Post)) (hr : X.2.2.1.1.sig.returnType = none) (hd : decode cc pc = .ok (.return_, 1)) (hp : Post 0 μ) : V g X nL μ lv pc [] := by
  intro h1 h2 h3 H locs ls h4 h5 h6
  obtain ⟨⟨p, l, e, R⟩, ⟨s, m, args, below⟩, ⟨meth, c, Q⟩, ⟨kc, ks⟩⟩ := X
  have hQ : Q = MQ below (QV g Post) args s kc ks (Aq g) := hR
  subst hQ
  exact W.vret F.1 F.2.1 hr (fun t ht hW => ⟨⟨μ, rfl, hp, Sd.mv hW h5 ht F.2.2.2.2.1, by rw [ht]; exact h4, h3⟩, h5.F ht⟩) h5.2.2 hd F.2.2.2.2.2.2
theorem r_ldc {idx : Nat} {v : Int32} {x : Int} (F : Fx g X cc own nL h) (hw : Cond.constant own idx v ∈ tb) (hv : v = Int32.ofInt x) (hx : inR x) (hd : decode cc pc = .ok (.ldc idx, 2)) (kk : V g X nL μ lv (pc + 2) (Iv x :: st)) : V g X nL μ lv pc st := by
  intro h1 h2 h3 H locs ls h4 h5 h6
  subst hv
  exact lv_ldc F.1 F.2.1 F.2.2.2.1 (F.ts _ hw) hd (kk h1 (List.forall_mem_cons.mpr ⟨hx, h2⟩) h3 H locs ls h4 h5 h6)
theorem r_ldcw {idx : Nat} {v : Int32} {x : Int} (F : Fx g X cc own nL h) (hw : Cond.constant own idx v ∈ tb) (hv : v = Int32.ofInt x) (hx : inR x) (hd : decode cc pc = .ok (.ldc_w idx, 3)) (kk : V g X nL μ lv (pc + 3) (Iv x :: st)) : V g X nL μ lv pc st := by
  intro h1 h2 h3 H locs ls h4 h5 h6
  subst hv
  exact lv_ldcw F.1 F.2.1 F.2.2.2.1 (F.ts _ hw) hd (kk h1 (List.forall_mem_cons.mpr ⟨hx, h2⟩) h3 H locs ls h4 h5 h6)
theorem r_ldc2 {idx : Nat} {v : Int64} {x : Int} (F : Fx g X cc own nL h) (hw : Cond.constantLong own idx v ∈ tb) (hv : v = Int64.ofInt x) (hx : inRL x) (hd : decode cc pc = .ok (.ldc2_w idx, 3)) (kk : V g X nL μ lv (pc + 3) (Lv x :: st)) : V g X nL μ lv pc st := by
  intro h1 h2 h3 H locs ls h4 h5 h6
  subst hv
  exact lv_ldc2 F.1 F.2.1 F.2.2.2.1 (F.ts _ hw) hd (kk h1 (List.forall_mem_cons.mpr ⟨hx, h2⟩) h3 H locs ls h4 h5 h6)
theorem imax_rng {a b : Int} (ha : inR a) (hb : inR b) : inR (imax a b) := by unfold imax; split <;> assumption
theorem imin_rng {a b : Int} (ha : inR a) (hb : inR b) : inR (imin a b) := by unfold imin; split <;> assumption
theorem r_max {idx : Nat} (F : Fx g X cc own nL h) (hh : 1 ≤ h) (hlk : Cond.methodLink own idx Lib.Math.max.name ∈ tb) (hs : Cond.static Lib.Math.max.name ∈ tb) (hi : Cond.initialized "java/lang/Math" ∈ tb) (hc : Cond.code Lib.Math.max.name Lib.Math.max.code 2 (some .int) ∈ tb) (hst : catS st ≤ 8) (hd : decode cc pc = .ok (.invokestatic idx, 3)) (kk : V g X nL μ lv (pc + 3) (Iv (imax a b) :: st)) : V g X nL μ lv pc (Iv b :: Iv a :: st) := by
  intro h1 h2 h3 H locs ls h4 h5 h6
  have hb : inR b := (List.forall_mem_cons.mp h2).1
  have ha : inR a := (List.forall_mem_cons.mp (List.forall_mem_cons.mp h2).2).1
  have h2' := (List.forall_mem_cons.mp (List.forall_mem_cons.mp h2).2).2
  have hk := kk h1 (List.forall_mem_cons.mpr ⟨imax_rng ha hb, h2'⟩) h3 H locs ls h4 h5 h6
  have hF := F.2.2.2.2.2.1
  refine va_mmax F.1 F.2.1 (F.2.2.1.trans h6.1.symm) F.2.2.2.1 (F.ts _ hlk) (F.ts _ hs) (F.ts _ hi) (F.ts _ hc) (by omega) (by rw [catS_eq]; omega) hF.2.2.1 hF.2.2.2 hd ?_
  have e : (if Int32.ofInt a < Int32.ofInt b then Int32.ofInt b else Int32.ofInt a) = Int32.ofInt (imax a b) := by
    unfold imax
    simp only [i32_lt ha hb]
    split <;> rfl
  rw [e]
  exact hk
theorem r_min {idx : Nat} (F : Fx g X cc own nL h) (hh : 1 ≤ h) (hlk : Cond.methodLink own idx Lib.Math.min.name ∈ tb) (hs : Cond.static Lib.Math.min.name ∈ tb) (hi : Cond.initialized "java/lang/Math" ∈ tb) (hc : Cond.code Lib.Math.min.name Lib.Math.min.code 2 (some .int) ∈ tb) (hst : catS st ≤ 8) (hd : decode cc pc = .ok (.invokestatic idx, 3)) (kk : V g X nL μ lv (pc + 3) (Iv (imin a b) :: st)) : V g X nL μ lv pc (Iv b :: Iv a :: st) := by
  intro h1 h2 h3 H locs ls h4 h5 h6
  have hb : inR b := (List.forall_mem_cons.mp h2).1
  have ha : inR a := (List.forall_mem_cons.mp (List.forall_mem_cons.mp h2).2).1
  have h2' := (List.forall_mem_cons.mp (List.forall_mem_cons.mp h2).2).2
  have hk := kk h1 (List.forall_mem_cons.mpr ⟨imin_rng ha hb, h2'⟩) h3 H locs ls h4 h5 h6
  have hF := F.2.2.2.2.2.1
  refine va_mmin F.1 F.2.1 (F.2.2.1.trans h6.1.symm) F.2.2.2.1 (F.ts _ hlk) (F.ts _ hs) (F.ts _ hi) (F.ts _ hc) (by omega) (by rw [catS_eq]; omega) hF.2.2.1 hF.2.2.2 hd ?_
  have e : (if Int32.ofInt b < Int32.ofInt a then Int32.ofInt b else Int32.ofInt a) = Int32.ofInt (imin a b) := by
    unfold imin
    simp only [i32_lt hb ha]
    split <;> rfl
  rw [e]
  exact hk
end RowsD
section Enter
variable {g : Wc} {l : Launch} {y : MethodName} {cc : ByteArray} {nL h : Nat} {ret : Option FieldType} {own : String} {avs : List AV} {μ : Mem} {Qc : Array Value → State → Outcome → State → Prop}
theorem enter (hy : plainName y.cls = true) (hown : y.cls = own) (hn : (lg_sl (avs.map (cv g.1))).length ≤ nL) (hok : ∀ a ∈ avs, okA a)
    (hb : ∀ X : Cx, X.1.2.1 = l → Fx g X cc own nL h → X.2.2.1.1.sig.returnType = ret → Rt g X Qc → V g X nL μ (lva 0 avs) 0 []) : Mt g l y cc nL ret h avs μ Qc := by
  refine Met.ofW (cc := cc) (maxL := nL) (ret := ret) hy rfl ?_
  intro p e s m args below meth c s₁ B hml hv
  obtain ⟨rfl, hSd, hHW, hM⟩ := hv
  have hk := hb ((p, l, e, { frames := h, cells := 0, slots := 0, locals := 41 * h }), (s, m, (avs.map (cv g.1)).toArray, below), (meth, c, MQ below Qc (avs.map (cv g.1)).toArray s 0 0 (Aq g)), (0, 0)) rfl ⟨B.exec, B.bytes, hml, by rw [← hown]; exact findClass_of_methodNamed B.named, hSd, ⟨Nat.le_refl h, Nat.le_refl _, Nat.zero_le _, Nat.zero_le _⟩, B.notSynchronized⟩ B.returns rfl
  have hl := lv_entry (avs.map (cv g.1)) (n := nL) hn
  rw [lg_entry_eq]
  rw [lva_eq] at hl
  exact hk (lva_ok 0 avs hok) (fun a ha => by cases ha) hM s.heap [] _ hHW va_S.rf hl
end Enter
end
section
/-! Calls; arraycopy; the static arrays. -/
section RowsE
variable {g : Wc} {X : Cx} {cc : ByteArray} {own : String} {nL h : Nat} {μ : Mem} {lv : List (Nat × AV)} {pc : Nat} {st : List AV} {a b : Int} {Post : Pst}
theorem r_gets0 {idx : Nat} (F : Fx g X cc own nL h) (hlk : Cond.fieldLink own idx "WorkOrders" "LEAST_TRAIT" "[I" ∈ tb) (hd : decode cc pc = .ok (.getstatic idx, 3)) (kk : V g X nL μ lv (pc + 3) (Rv 112 :: st)) : V g X nL μ lv pc st := by
  intro h1 h2 h3 H locs ls h4 h5 h6
  exact va_gets F.1 F.2.1 F.2.2.2.2.1.2.2.1.1 h5 F.2.2.2.1 (F.ts _ hlk) (fun _ z => z) hd (kk h1 (List.forall_mem_cons.mpr ⟨trivial, h2⟩) h3 H locs ls h4 h5 h6)
theorem r_gets1 {idx : Nat} (F : Fx g X cc own nL h) (hlk : Cond.fieldLink own idx "WorkOrders" "MOST_TRAIT" "[I" ∈ tb) (hd : decode cc pc = .ok (.getstatic idx, 3)) (kk : V g X nL μ lv (pc + 3) (Rv 113 :: st)) : V g X nL μ lv pc st := by
  intro h1 h2 h3 H locs ls h4 h5 h6
  exact va_gets F.1 F.2.1 F.2.2.2.2.1.2.2.2.1.1 h5 F.2.2.2.1 (F.ts _ hlk) (fun _ z => z) hd (kk h1 (List.forall_mem_cons.mpr ⟨trivial, h2⟩) h3 H locs ls h4 h5 h6)
theorem r_gets2N {idx : Nat} {host : String} (F : Fx g X cc own nL h) (hlk : Cond.fieldLinkNest own idx "WorkOrders" "FIRST_TRAIT" "[I" host ∈ tb) (hd : decode cc pc = .ok (.getstatic idx, 3)) (kk : V g X nL μ lv (pc + 3) (Rv 114 :: st)) : V g X nL μ lv pc st := by
  intro h1 h2 h3 H locs ls h4 h5 h6
  exact va_getsN F.1 F.2.1 F.2.2.2.2.1.2.2.2.2.1 h5 F.2.2.2.1 (F.ts _ hlk) (fun _ z => z) hd (kk h1 (List.forall_mem_cons.mpr ⟨trivial, h2⟩) h3 H locs ls h4 h5 h6)
theorem stv_rng {k j : Nat} : inR (stv k j) := by
  have h : ∀ l ∈ stT, ∀ x ∈ l, -2147483648 ≤ x ∧ x ≤ 2147483647 := by decide
  unfold stv inR
  rw [List.getD_eq_getElem?_getD]
  cases h1 : (stT.getD k [])[j]? with
  | none => exact ⟨by decide, by decide⟩
  | some x =>
    have hx := List.mem_of_getElem? h1
    rw [List.getD_eq_getElem?_getD] at hx
    cases h2 : stT[k]? with
    | none => rw [h2] at hx; cases hx
    | some l => rw [h2] at hx; exact h l (List.mem_of_getElem? h2) x hx
theorem r_tald0 (F : Fx g X cc own nL h) (hi : 0 ≤ a ∧ a < 5) (hd : decode cc pc = .ok (.iaload, 1)) (kk : V g X nL μ lv (pc + 1) (Iv (stv 0 a.toNat) :: st)) : V g X nL μ lv pc (Iv a :: Rv 112 :: st) := by
  intro h1 h2 h3 H locs ls h4 h5 h6
  have ha : inR a := (List.forall_mem_cons.mp h2).1
  have h2' := (List.forall_mem_cons.mp (List.forall_mem_cons.mp h2).2).2
  exact va_ti F.1 F.2.1 F.2.2.2.2.1.2.2.1.2 h5 (i32_in (n := 5) hi.1 hi.2 ha) (by rw [i32_clamp hi.1 ha]; rfl) hd (kk h1 (List.forall_mem_cons.mpr ⟨stv_rng, h2'⟩) h3 H locs ls h4 h5 h6)
theorem r_tald1 (F : Fx g X cc own nL h) (hi : 0 ≤ a ∧ a < 5) (hd : decode cc pc = .ok (.iaload, 1)) (kk : V g X nL μ lv (pc + 1) (Iv (stv 1 a.toNat) :: st)) : V g X nL μ lv pc (Iv a :: Rv 113 :: st) := by
  intro h1 h2 h3 H locs ls h4 h5 h6
  have ha : inR a := (List.forall_mem_cons.mp h2).1
  have h2' := (List.forall_mem_cons.mp (List.forall_mem_cons.mp h2).2).2
  exact va_ti F.1 F.2.1 F.2.2.2.2.1.2.2.2.1.2 h5 (i32_in (n := 5) hi.1 hi.2 ha) (by rw [i32_clamp hi.1 ha]; rfl) hd (kk h1 (List.forall_mem_cons.mpr ⟨stv_rng, h2'⟩) h3 H locs ls h4 h5 h6)
theorem r_tald2 (F : Fx g X cc own nL h) (hi : 0 ≤ a ∧ a < 5) (hd : decode cc pc = .ok (.iaload, 1)) (kk : V g X nL μ lv (pc + 1) (Iv (stv 2 a.toNat) :: st)) : V g X nL μ lv pc (Iv a :: Rv 114 :: st) := by
  intro h1 h2 h3 H locs ls h4 h5 h6
  have ha : inR a := (List.forall_mem_cons.mp h2).1
  have h2' := (List.forall_mem_cons.mp (List.forall_mem_cons.mp h2).2).2
  exact va_ti F.1 F.2.1 F.2.2.2.2.1.2.2.2.2.2 h5 (i32_in (n := 5) hi.1 hi.2 ha) (by rw [i32_clamp hi.1 ha]; rfl) hd (kk h1 (List.forall_mem_cons.mpr ⟨stv_rng, h2'⟩) h3 H locs ls h4 h5 h6)
/-- the length of an int array of the world -/
theorem r_alen {c n : Nat} (F : Fx g X cc own nL h) (hc1 : 24 ≤ c) (hc2 : c < 112) (hn : len c = n) (hn2 : n < 2147483648) (hd : decode cc pc = .ok (.arraylength, 1)) (kk : V g X nL μ lv (pc + 1) (Iv (n : Int) :: st)) : V g X nL μ lv pc (Rv c :: st) := by
  intro h1 h2 h3 H locs ls h4 h5 h6
  have h2' := (List.forall_mem_cons.mp h2).2
  refine va_alen (D := g.2.1) (ws := wsl g μ) F.1 F.2.1 F.2.2.2.2.1.2.1 h4.P c 0 (by rw [wsl_at hc2, ce_int hc1]) rfl (v := Int32.ofInt (n : Int)) ?_ hd (kk h1 (List.forall_mem_cons.mpr ⟨⟨by omega, by omega⟩, h2'⟩) h3 H locs ls h4 h5 h6)
  show Int32.ofNat (len c) = _
  rw [hn]
  exact Int32.toInt_inj.mp ((nI_toInt (n := n) (by omega)).trans (ofI_toInt (x := (n : Int)) ⟨by omega, by omega⟩).symm)
def cpm (μ : Mem) (c d sp dp n : Nat) : Mem := fun x => if x = d then (fun j => if dp ≤ j ∧ j < dp + n then μ c (sp + (j - dp)) else μ d j) else μ x
theorem r_copy {idx c d n0 n1 : Nat} {sp dp n : Int} (F : Fx g X cc own nL h) (hh : 1 ≤ h) (hlk : Cond.methodLink own idx arraycopyName ∈ tb) (hnat : Cond.native arraycopyName ∈ tb) (hs : Cond.static arraycopyName ∈ tb) (hi : Cond.initialized "java/lang/System" ∈ tb)
    (hc1 : 24 ≤ c) (hc2 : c < 112) (hd1 : 24 ≤ d) (hd2 : d < 112) (hn0 : len c = n0) (hn1 : len d = n1) (hg : (0 ≤ sp ∧ 0 ≤ dp) ∧ 0 ≤ n ∧ sp + n ≤ n0 ∧ dp + n ≤ n1) (hst : catS st ≤ 8) (hd : decode cc pc = .ok (.invokestatic idx, 3))
    (kk : V g X nL (cpm μ c d sp.toNat dp.toNat n.toNat) lv (pc + 3) st) : V g X nL μ lv pc (Iv n :: Iv dp :: Rv d :: Iv sp :: Rv c :: st) := by
  intro h1 h2 h3 H locs ls h4 h5 h6
  have q1 := List.forall_mem_cons.mp h2
  have q2 := List.forall_mem_cons.mp q1.2
  have q3 := List.forall_mem_cons.mp q2.2
  have q4 := List.forall_mem_cons.mp q3.2
  have q5 := List.forall_mem_cons.mp q4.2
  have hn : inR n := q1.1
  have hdp : inR dp := q2.1
  have hsp : inR sp := q4.1
  have hF := F.2.2.2.2.2.1
  have c1 := i32_clamp hg.1.1 hsp
  have c2 := i32_clamp hg.1.2 hdp
  have c3 := i32_clamp hg.2.1 hn
  have nn : ∀ {x : Int}, inR x → 0 ≤ x → ¬ Int32.ofInt x < 0 := fun {x} hx h0 q => by
    have := (i32_lt hx inR0).mp q
    omega
  refine va_copyi (D := g.2.1) (ws := wsl g μ) (ty := .int) F.1 F.2.1 (F.2.2.1.trans h6.1.symm) F.2.2.2.1 (F.ts _ hlk) (F.ts _ hnat) (F.ts _ hs) (F.ts _ hi) F.2.2.2.2.1.2.1 h4.P h4.D h5 c d 0 0 (by rw [wsl_at hc2, ce_int hc1]) (by rw [wsl_at hd2, ce_int hd1]) rfl rfl rfl (nn hsp hg.1.1) (nn hdp hg.1.2) (nn hn hg.2.1)
    (by rw [c1, c3, hn0]; omega) (by rw [c2, c3, hn1]; omega) (fun _ _ => rfl) (by omega) ?_ hd (fun H1 locs1 hP hD hS => ?_)
  · rw [catS_eq]
    have : nativeFrameWords "java/lang/System" "arraycopy" 5 ≤ 20 := by decide +kernel
    omega
  · have e : (wsl g μ).set d (g.1 d, .inl (g.2.2.1, len d, .inl (va_cpy (fun i => Int32.ofInt (μ c i)) (fun i => Int32.ofInt (μ d i)) (Int32.ofInt sp).toNatClampNeg (Int32.ofInt dp).toNatClampNeg (Int32.ofInt n).toNatClampNeg))) = wsl g (cpm μ c d sp.toNat dp.toNat n.toNat) := by
      refine wsl_set hd2 (fun x hx => by unfold cpm; rw [if_neg hx]) ?_
      rw [ce_int hd1, c1, c2, c3]
      congr 4
      funext j
      unfold cpm
      rw [if_pos rfl]
      by_cases hj : dp.toNat ≤ j ∧ j < dp.toNat + n.toNat
      · rw [pk_cpy_in hj.1 hj.2]; simp only [hj, and_self, if_true]
      · rw [pk_cpy_out (by omega)]; simp only [hj, if_false]
    rw [e] at hP
    refine kk h1 q5.2 ?_ H1 locs1 ls (h4.of hP) hS h6
    intro x j
    unfold cpm
    by_cases hx : x = d
    · rw [if_pos hx]
      by_cases hj : dp.toNat ≤ j ∧ j < dp.toNat + n.toNat
      · simp only [hj, and_self, if_true]; exact h3 c _
      · simp only [hj, if_false]; exact h3 d _
    · rw [if_neg hx]; exact h3 x j
/-- what of a callee's name and place is the same at every call -/
def Cal (y : MethodName) (bytes : ByteArray) (maxL : Nat) (ret : Option FieldType) (n : Nat) : Prop :=
  Cond.code y bytes maxL ret ∈ tb ∧ Cond.initialized y.cls ∈ tb ∧ (y.cls ≠ "java/lang/invoke/MethodHandle" ∧ y.cls ≠ "java/lang/invoke/VarHandle" ∧ (parseMethodDescriptor y.desc).map (fun d => d.parameters.length) = some n) ∧ maxL ≤ 20
def CalV (y : MethodName) (c ci : Nat) (C : String) : Prop := Cond.instanceMethod y ∈ tb ∧ Cond.selects C y y ∈ tb ∧ c < 112 ∧ (∃ o, objT[c]? = some (ci, o)) ∧ ∃ T N, vwCl[ci]? = some (C, T, N)
theorem good1 {y : MethodName} {bytes : ByteArray} {maxL n : Nat} {ret : Option FieldType} (hC : Cal y bytes maxL ret n) : GoodIn tb [Cond.code y bytes maxL ret] := fun w hw => by
  rw [List.mem_singleton.mp hw]
  exact ⟨hC.1, Or.inl rfl⟩
theorem blind (g : Wc) (avs : List AV) (μ : Mem) : FrameBlind (fun a U => a = (avs.map (cv g.1)).toArray ∧ Wd g μ U) := fun a U fr mk q => ⟨q.1, ⟨fun w hw => word_mv (s := U) (U := U.calling fr mk a) hw (State.WarmedH.refl U) (q.2.1.1 w hw), va_K.moved (u := U) (U := U.calling fr mk a) (Vm.Alike.refl U.vm) q.2.1.2.1, Zs.mv (s := U) (U := U.calling fr mk a) (Vm.Alike.refl U.vm) (fun _ _ _ => rfl) q.2.1.2.2⟩, q.2.2⟩
theorem preS {avs : List AV} {H : Heap} {locs : List Loc} (F : Fx g X cc own nL h) (h3 : RngM μ) (h4 : HW g μ H) (h5 : va_S (Aq g) X.2.1.1.heap H locs) : PreS X.2.1.1 H (fun a U => a = (avs.map (cv g.1)).toArray ∧ Wd g μ U) (avs.map (cv g.1)) :=
  ⟨blind g avs μ, fun U hU hW => ⟨rfl, Sd.mv hW h5 hU F.2.2.2.2.1, by rw [hU]; exact h4, h3⟩⟩
theorem preV {c ci : Nat} {y : MethodName} {C : String} {avs : List AV} {H : Heap} {locs : List Loc} (F : Fx g X cc own nL h) (hV : CalV y c ci C) (h3 : RngM μ) (h4 : HW g μ H) (h5 : va_S (Aq g) X.2.1.1.heap H locs) : PreV X.2.1.1 H C (g.1 c) (fun a U => a = ((Rv c :: avs).map (cv g.1)).toArray ∧ Wd g μ U) (avs.map (cv g.1)) := by
  obtain ⟨-, -, hc, ⟨o, ho⟩, T, N, hcl⟩ := hV
  exact ⟨blind g (Rv c :: avs) μ, va_recv F.2.2.2.2.1.2.1 h4.P (ci := ci) (q0 := c) hcl (by rw [wsl_at hc, ce_obj ho]), fun U hU hW => ⟨rfl, Sd.mv hW h5 hU F.2.2.2.2.1, by rw [hU]; exact h4, h3⟩⟩
theorem cbOf {y : MethodName} {bytes : ByteArray} {maxL idx n h' : Nat} {ret : Option FieldType} (F : Fx g X cc own nL h) (hC : Cal y bytes maxL ret n) (hh : h' < h) (hlk : Cond.methodLink own idx y ∈ tb) :
    CallB X.1.2.2.2 X.2.1.1 X.2.1.2.2.1 own idx y bytes maxL ret [Cond.code y bytes maxL ret] { frames := h', cells := 0, slots := 0, locals := 41 * h' } 0 0 n := by
  have hF := F.2.2.2.2.2.1
  have hm := hC.2.2.2
  exact callB_of n F.ts (good1 hC) rfl rfl rfl (F.ts _ hC.2.1) (F.ts _ hlk) hC.2.2.1 ⟨by show h' + 1 ≤ _; omega, by show 8 + (maxL + 11) + 41 * h' ≤ _; omega⟩
theorem cnOf {y : MethodName} {bytes : ByteArray} {maxL idx n h' : Nat} {host : String} {ret : Option FieldType} (F : Fx g X cc own nL h) (hC : Cal y bytes maxL ret n) (hh : h' < h) (hlk : Cond.methodLinkNest own idx y host ∈ tb) :
    va_CN X.1.2.2.2 X.2.1.1 X.2.1.2.2.1 own idx y host bytes maxL ret [Cond.code y bytes maxL ret] { frames := h', cells := 0, slots := 0, locals := 41 * h' } 0 0 n := by
  have hF := F.2.2.2.2.2.1
  have hm := hC.2.2.2
  exact va_cnB n F.ts (good1 hC) rfl rfl rfl (F.2.2.2.2.1.1 _ hlk #[]) (F.ts _ hC.2.1) hC.2.2.1 ⟨by show h' + 1 ≤ _; omega, by show 8 + (maxL + 11) + 41 * h' ≤ _; omega⟩
theorem roomOk (hst : catS st ≤ 8) {m : MethodId} {ls : Array Slot} {st0 : List Value} : 2 * (F0 m pc ls st0).monitorRoom + ((st.map (cv g.1)).map fun v => v.category).sum ≤ 8 := lv_room (by rw [catS_eq]; exact hst)
theorem r_callI {c ci idx n h' maxL : Nat} {y : MethodName} {bytes : ByteArray} {ret : Option FieldType} {C : String} {avs sr : List AV} (F : Fx g X cc own nL h) (hM : Mt g X.1.2.1 y bytes maxL ret h' (Rv c :: avs) μ (QI g Post)) (hh : h' < h) (hC : Cal y bytes maxL ret n) (hV : CalV y c ci C) (hlk : Cond.methodLink own idx y ∈ tb) (hn : avs.length = n) (hsr : sr = avs.reverse ++ Rv c :: st) (hst : catS st ≤ 8)
    (hd : decode cc pc = .ok (.invokevirtual idx, 3)) (kk : ∀ r μ', Post r μ' → V g X nL μ' lv (pc + 3) (Iv r :: st)) : V g X nL μ lv pc sr := by
  subst hsr
  intro h1 h2 h3 H locs ls h4 h5 h6
  have h2' : ∀ a ∈ st, okA a := fun a ha => h2 a (List.mem_append_right _ (List.mem_cons_of_mem _ ha))
  have hF := F.2.2.2.2.2.1
  refine va_calli (va_runV (As := avs.map (cv g.1)) (rest := st.map (cv g.1)) (b := g.1 c) ⟨F.1, F.2.1, F.2.2.1, F.2.2.2.1, F.ts⟩ hM ⟨cbOf F hC hh hlk, F.ts _ hV.1, F.ts _ hV.2.1⟩ (preV F hV h3 h4 h5) rfl (by rw [List.length_map]; exact hn) h6.1 (by show List.map _ _ = _; rw [List.map_append, List.map_reverse]; rfl) (roomOk hst) hd ⟨hF.2.2.1, hF.2.2.2⟩) h5 (fun _ _ z => z) (fun _ z => z) (fun r u t H1 locs1 ht hvm hp hB _ _ hS => ?_)
  obtain ⟨r0, μ'⟩ := u
  obtain ⟨rfl, hr0, hpost⟩ := hp
  refine kk r0 μ' hpost h1 (List.forall_mem_cons.mpr ⟨hr0, h2'⟩) hB.2.2 H1 locs1 ls (by rw [← ht]; exact hB.2.1) hS h6
theorem r_callL {c ci idx n h' maxL : Nat} {y : MethodName} {bytes : ByteArray} {ret : Option FieldType} {C : String} {avs sr : List AV} (F : Fx g X cc own nL h) (hM : Mt g X.1.2.1 y bytes maxL ret h' (Rv c :: avs) μ (QL g Post)) (hh : h' < h) (hC : Cal y bytes maxL ret n) (hV : CalV y c ci C) (hlk : Cond.methodLink own idx y ∈ tb) (hn : avs.length = n) (hsr : sr = avs.reverse ++ Rv c :: st) (hst : catS st ≤ 8)
    (hd : decode cc pc = .ok (.invokevirtual idx, 3)) (kk : ∀ r μ', Post r μ' → V g X nL μ' lv (pc + 3) (Lv r :: st)) : V g X nL μ lv pc sr := by
  subst hsr
  intro h1 h2 h3 H locs ls h4 h5 h6
  have h2' : ∀ a ∈ st, okA a := fun a ha => h2 a (List.mem_append_right _ (List.mem_cons_of_mem _ ha))
  have hF := F.2.2.2.2.2.1
  refine va_calll (va_runV (As := avs.map (cv g.1)) (rest := st.map (cv g.1)) (b := g.1 c) ⟨F.1, F.2.1, F.2.2.1, F.2.2.2.1, F.ts⟩ hM ⟨cbOf F hC hh hlk, F.ts _ hV.1, F.ts _ hV.2.1⟩ (preV F hV h3 h4 h5) rfl (by rw [List.length_map]; exact hn) h6.1 (by show List.map _ _ = _; rw [List.map_append, List.map_reverse]; rfl) (roomOk hst) hd ⟨hF.2.2.1, hF.2.2.2⟩) h5 (fun _ _ z => z) (fun _ z => z) (fun r u t H1 locs1 ht hvm hp hB _ _ hS => ?_)
  obtain ⟨r0, μ'⟩ := u
  obtain ⟨rfl, hr0, hpost⟩ := hp
  refine kk r0 μ' hpost h1 (List.forall_mem_cons.mpr ⟨hr0, h2'⟩) hB.2.2 H1 locs1 ls (by rw [← ht]; exact hB.2.1) hS h6
theorem r_callV {c ci idx n h' maxL : Nat} {y : MethodName} {bytes : ByteArray} {ret : Option FieldType} {C : String} {avs sr : List AV} (F : Fx g X cc own nL h) (hM : Mt g X.1.2.1 y bytes maxL ret h' (Rv c :: avs) μ (QV g Post)) (hh : h' < h) (hC : Cal y bytes maxL ret n) (hV : CalV y c ci C) (hlk : Cond.methodLink own idx y ∈ tb) (hn : avs.length = n) (hsr : sr = avs.reverse ++ Rv c :: st) (hst : catS st ≤ 8)
    (hd : decode cc pc = .ok (.invokevirtual idx, 3)) (kk : ∀ μ', Post 0 μ' → V g X nL μ' lv (pc + 3) st) : V g X nL μ lv pc sr := by
  subst hsr
  intro h1 h2 h3 H locs ls h4 h5 h6
  have h2' : ∀ a ∈ st, okA a := fun a ha => h2 a (List.mem_append_right _ (List.mem_cons_of_mem _ ha))
  have hF := F.2.2.2.2.2.1
  refine va_callv (va_runV (As := avs.map (cv g.1)) (rest := st.map (cv g.1)) (b := g.1 c) ⟨F.1, F.2.1, F.2.2.1, F.2.2.2.1, F.ts⟩ hM ⟨cbOf F hC hh hlk, F.ts _ hV.1, F.ts _ hV.2.1⟩ (preV F hV h3 h4 h5) rfl (by rw [List.length_map]; exact hn) h6.1 (by show List.map _ _ = _; rw [List.map_append, List.map_reverse]; rfl) (roomOk hst) hd ⟨hF.2.2.1, hF.2.2.2⟩) h5 (fun _ _ z => z) (fun _ z => z) (fun u t H1 locs1 ht hvm hp hB _ _ hS => ?_)
  exact kk u hp h1 h2' hB.2.2 H1 locs1 ls (by rw [← ht]; exact hB.2.1) hS h6
theorem r_callSI {idx n h' maxL : Nat} {y : MethodName} {bytes : ByteArray} {ret : Option FieldType} {avs sr : List AV} (F : Fx g X cc own nL h) (hM : Mt g X.1.2.1 y bytes maxL ret h' avs μ (QI g Post)) (hh : h' < h) (hC : Cal y bytes maxL ret n) (hs : Cond.static y ∈ tb) (hlk : Cond.methodLink own idx y ∈ tb) (hn : avs.length = n) (hsr : sr = avs.reverse ++ st) (hst : catS st ≤ 8)
    (hd : decode cc pc = .ok (.invokestatic idx, 3)) (kk : ∀ r μ', Post r μ' → V g X nL μ' lv (pc + 3) (Iv r :: st)) : V g X nL μ lv pc sr := by
  subst hsr
  intro h1 h2 h3 H locs ls h4 h5 h6
  have h2' : ∀ a ∈ st, okA a := fun a ha => h2 a (List.mem_append_right _ ha)
  have hF := F.2.2.2.2.2.1
  refine va_calli (va_runS (As := avs.map (cv g.1)) (rest := st.map (cv g.1)) ⟨F.1, F.2.1, F.2.2.1, F.2.2.2.1, F.ts⟩ hM ⟨cbOf F hC hh hlk, F.ts _ hs⟩ (preS F h3 h4 h5) rfl (by rw [List.length_map]; exact hn) h6.1 (by show List.map _ _ = _; rw [List.map_append, List.map_reverse]) (roomOk hst) hd ⟨hF.2.2.1, hF.2.2.2⟩) h5 (fun _ _ z => z) (fun _ z => z) (fun r u t H1 locs1 ht hvm hp hB _ _ hS => ?_)
  obtain ⟨r0, μ'⟩ := u
  obtain ⟨rfl, hr0, hpost⟩ := hp
  refine kk r0 μ' hpost h1 (List.forall_mem_cons.mpr ⟨hr0, h2'⟩) hB.2.2 H1 locs1 ls (by rw [← ht]; exact hB.2.1) hS h6
theorem r_callSL {idx n h' maxL : Nat} {y : MethodName} {bytes : ByteArray} {ret : Option FieldType} {avs sr : List AV} (F : Fx g X cc own nL h) (hM : Mt g X.1.2.1 y bytes maxL ret h' avs μ (QL g Post)) (hh : h' < h) (hC : Cal y bytes maxL ret n) (hs : Cond.static y ∈ tb) (hlk : Cond.methodLink own idx y ∈ tb) (hn : avs.length = n) (hsr : sr = avs.reverse ++ st) (hst : catS st ≤ 8)
    (hd : decode cc pc = .ok (.invokestatic idx, 3)) (kk : ∀ r μ', Post r μ' → V g X nL μ' lv (pc + 3) (Lv r :: st)) : V g X nL μ lv pc sr := by
  subst hsr
  intro h1 h2 h3 H locs ls h4 h5 h6
  have h2' : ∀ a ∈ st, okA a := fun a ha => h2 a (List.mem_append_right _ ha)
  have hF := F.2.2.2.2.2.1
  refine va_calll (va_runS (As := avs.map (cv g.1)) (rest := st.map (cv g.1)) ⟨F.1, F.2.1, F.2.2.1, F.2.2.2.1, F.ts⟩ hM ⟨cbOf F hC hh hlk, F.ts _ hs⟩ (preS F h3 h4 h5) rfl (by rw [List.length_map]; exact hn) h6.1 (by show List.map _ _ = _; rw [List.map_append, List.map_reverse]) (roomOk hst) hd ⟨hF.2.2.1, hF.2.2.2⟩) h5 (fun _ _ z => z) (fun _ z => z) (fun r u t H1 locs1 ht hvm hp hB _ _ hS => ?_)
  obtain ⟨r0, μ'⟩ := u
  obtain ⟨rfl, hr0, hpost⟩ := hp
  refine kk r0 μ' hpost h1 (List.forall_mem_cons.mpr ⟨hr0, h2'⟩) hB.2.2 H1 locs1 ls (by rw [← ht]; exact hB.2.1) hS h6
theorem r_callSV {idx n h' maxL : Nat} {y : MethodName} {bytes : ByteArray} {ret : Option FieldType} {avs sr : List AV} (F : Fx g X cc own nL h) (hM : Mt g X.1.2.1 y bytes maxL ret h' avs μ (QV g Post)) (hh : h' < h) (hC : Cal y bytes maxL ret n) (hs : Cond.static y ∈ tb) (hlk : Cond.methodLink own idx y ∈ tb) (hn : avs.length = n) (hsr : sr = avs.reverse ++ st) (hst : catS st ≤ 8)
    (hd : decode cc pc = .ok (.invokestatic idx, 3)) (kk : ∀ μ', Post 0 μ' → V g X nL μ' lv (pc + 3) st) : V g X nL μ lv pc sr := by
  subst hsr
  intro h1 h2 h3 H locs ls h4 h5 h6
  have h2' : ∀ a ∈ st, okA a := fun a ha => h2 a (List.mem_append_right _ ha)
  have hF := F.2.2.2.2.2.1
  refine va_callv (va_runS (As := avs.map (cv g.1)) (rest := st.map (cv g.1)) ⟨F.1, F.2.1, F.2.2.1, F.2.2.2.1, F.ts⟩ hM ⟨cbOf F hC hh hlk, F.ts _ hs⟩ (preS F h3 h4 h5) rfl (by rw [List.length_map]; exact hn) h6.1 (by show List.map _ _ = _; rw [List.map_append, List.map_reverse]) (roomOk hst) hd ⟨hF.2.2.1, hF.2.2.2⟩) h5 (fun _ _ z => z) (fun _ z => z) (fun u t H1 locs1 ht hvm hp hB _ _ hS => ?_)
  exact kk u hp h1 h2' hB.2.2 H1 locs1 ls (by rw [← ht]; exact hB.2.1) hS h6
theorem r_callNI {idx n h' maxL : Nat} {y : MethodName} {host : String} {bytes : ByteArray} {ret : Option FieldType} {avs sr : List AV} (F : Fx g X cc own nL h) (hM : Mt g X.1.2.1 y bytes maxL ret h' avs μ (QI g Post)) (hh : h' < h) (hC : Cal y bytes maxL ret n) (hs : Cond.static y ∈ tb) (hlk : Cond.methodLinkNest own idx y host ∈ tb) (hn : avs.length = n) (hsr : sr = avs.reverse ++ st) (hst : catS st ≤ 8)
    (hd : decode cc pc = .ok (.invokestatic idx, 3)) (kk : ∀ r μ', Post r μ' → V g X nL μ' lv (pc + 3) (Iv r :: st)) : V g X nL μ lv pc sr := by
  subst hsr
  intro h1 h2 h3 H locs ls h4 h5 h6
  have h2' : ∀ a ∈ st, okA a := fun a ha => h2 a (List.mem_append_right _ ha)
  have hF := F.2.2.2.2.2.1
  refine va_calli (va_runSN (As := avs.map (cv g.1)) (rest := st.map (cv g.1)) ⟨F.1, F.2.1, F.2.2.1, F.2.2.2.1, F.ts⟩ hM ⟨cnOf F hC hh hlk, F.ts _ hs, trivial⟩ (preS F h3 h4 h5) rfl (by rw [List.length_map]; exact hn) h6.1 (by show List.map _ _ = _; rw [List.map_append, List.map_reverse]) (roomOk hst) hd ⟨hF.2.2.1, hF.2.2.2⟩) h5 (fun _ _ z => z) (fun _ z => z) (fun r u t H1 locs1 ht hvm hp hB _ _ hS => ?_)
  obtain ⟨r0, μ'⟩ := u
  obtain ⟨rfl, hr0, hpost⟩ := hp
  refine kk r0 μ' hpost h1 (List.forall_mem_cons.mpr ⟨hr0, h2'⟩) hB.2.2 H1 locs1 ls (by rw [← ht]; exact hB.2.1) hS h6
theorem r_callNL {idx n h' maxL : Nat} {y : MethodName} {host : String} {bytes : ByteArray} {ret : Option FieldType} {avs sr : List AV} (F : Fx g X cc own nL h) (hM : Mt g X.1.2.1 y bytes maxL ret h' avs μ (QL g Post)) (hh : h' < h) (hC : Cal y bytes maxL ret n) (hs : Cond.static y ∈ tb) (hlk : Cond.methodLinkNest own idx y host ∈ tb) (hn : avs.length = n) (hsr : sr = avs.reverse ++ st) (hst : catS st ≤ 8)
    (hd : decode cc pc = .ok (.invokestatic idx, 3)) (kk : ∀ r μ', Post r μ' → V g X nL μ' lv (pc + 3) (Lv r :: st)) : V g X nL μ lv pc sr := by
  subst hsr
  intro h1 h2 h3 H locs ls h4 h5 h6
  have h2' : ∀ a ∈ st, okA a := fun a ha => h2 a (List.mem_append_right _ ha)
  have hF := F.2.2.2.2.2.1
  refine va_calll (va_runSN (As := avs.map (cv g.1)) (rest := st.map (cv g.1)) ⟨F.1, F.2.1, F.2.2.1, F.2.2.2.1, F.ts⟩ hM ⟨cnOf F hC hh hlk, F.ts _ hs, trivial⟩ (preS F h3 h4 h5) rfl (by rw [List.length_map]; exact hn) h6.1 (by show List.map _ _ = _; rw [List.map_append, List.map_reverse]) (roomOk hst) hd ⟨hF.2.2.1, hF.2.2.2⟩) h5 (fun _ _ z => z) (fun _ z => z) (fun r u t H1 locs1 ht hvm hp hB _ _ hS => ?_)
  obtain ⟨r0, μ'⟩ := u
  obtain ⟨rfl, hr0, hpost⟩ := hp
  refine kk r0 μ' hpost h1 (List.forall_mem_cons.mpr ⟨hr0, h2'⟩) hB.2.2 H1 locs1 ls (by rw [← ht]; exact hB.2.1) hS h6
end RowsE
end
