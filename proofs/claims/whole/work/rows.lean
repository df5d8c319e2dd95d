section
-- ===== PART A: goes FIRST, ahead of the names: the tables' words, and 'selects' of the private methods out of them =====
/-- a private method of a class that the tables say can be made, by its rows of tables_1 -/
def lw_okq (q : MethodName × Nat) : Prop := (q.1.cls ≠ "java/lang/invoke/MethodHandle" ∧ q.1.cls ≠ "java/lang/invoke/VarHandle") ∧ Cond.instantiable q.1.cls q.2 ∈ tables_1 ∧ Cond.privateMethod q.1 ∈ tables_1 ∧ Cond.instanceMethod q.1 ∈ tables_1
theorem lw_p0 : lw_okq (⟨"ColumnCasts", "columnRefusal", "(I)I"⟩, 19) := ⟨⟨by decide +kernel, by decide +kernel⟩, List.mem_of_getElem? (i := 22) (by decide +kernel), List.mem_of_getElem? (i := 306) (by decide +kernel), List.mem_of_getElem? (i := 307) (by decide +kernel)⟩
theorem lw_p1 : lw_okq (⟨"ColumnCasts", "refused", "(I)I"⟩, 19) := ⟨⟨by decide +kernel, by decide +kernel⟩, List.mem_of_getElem? (i := 22) (by decide +kernel), List.mem_of_getElem? (i := 310) (by decide +kernel), List.mem_of_getElem? (i := 311) (by decide +kernel)⟩
theorem lw_p2 : lw_okq (⟨"ColumnCasts", "askRefusal", "(III)I"⟩, 19) := ⟨⟨by decide +kernel, by decide +kernel⟩, List.mem_of_getElem? (i := 22) (by decide +kernel), List.mem_of_getElem? (i := 322) (by decide +kernel), List.mem_of_getElem? (i := 323) (by decide +kernel)⟩
theorem lw_p3 : lw_okq (⟨"ColumnCasts", "isRow", "(I)Z"⟩, 19) := ⟨⟨by decide +kernel, by decide +kernel⟩, List.mem_of_getElem? (i := 22) (by decide +kernel), List.mem_of_getElem? (i := 326) (by decide +kernel), List.mem_of_getElem? (i := 327) (by decide +kernel)⟩
theorem lw_p4 : lw_okq (⟨"ColumnCasts", "writeRefusal", "(III)I"⟩, 19) := ⟨⟨by decide +kernel, by decide +kernel⟩, List.mem_of_getElem? (i := 22) (by decide +kernel), List.mem_of_getElem? (i := 384) (by decide +kernel), List.mem_of_getElem? (i := 385) (by decide +kernel)⟩
theorem lw_p5 : lw_okq (⟨"ColumnCasts", "makeWritten", "(IIJ)V"⟩, 19) := ⟨⟨by decide +kernel, by decide +kernel⟩, List.mem_of_getElem? (i := 22) (by decide +kernel), List.mem_of_getElem? (i := 391) (by decide +kernel), List.mem_of_getElem? (i := 392) (by decide +kernel)⟩
theorem lw_p6 : lw_okq (⟨"ColumnCasts", "columnsRefusal", "(II)I"⟩, 19) := ⟨⟨by decide +kernel, by decide +kernel⟩, List.mem_of_getElem? (i := 22) (by decide +kernel), List.mem_of_getElem? (i := 417) (by decide +kernel), List.mem_of_getElem? (i := 418) (by decide +kernel)⟩
theorem lw_p7 : lw_okq (⟨"ColumnCasts", "isStretch", "(II)Z"⟩, 19) := ⟨⟨by decide +kernel, by decide +kernel⟩, List.mem_of_getElem? (i := 22) (by decide +kernel), List.mem_of_getElem? (i := 421) (by decide +kernel), List.mem_of_getElem? (i := 422) (by decide +kernel)⟩
theorem lw_p8 : lw_okq (⟨"ColumnCasts", "isSame", "(LColumnCasts$Column;II)Z"⟩, 19) := ⟨⟨by decide +kernel, by decide +kernel⟩, List.mem_of_getElem? (i := 22) (by decide +kernel), List.mem_of_getElem? (i := 440) (by decide +kernel), List.mem_of_getElem? (i := 441) (by decide +kernel)⟩
theorem lw_p9 : lw_okq (⟨"ColumnCasts", "emptyCells", "(LColumnCasts$Column;)I"⟩, 19) := ⟨⟨by decide +kernel, by decide +kernel⟩, List.mem_of_getElem? (i := 22) (by decide +kernel), List.mem_of_getElem? (i := 452) (by decide +kernel), List.mem_of_getElem? (i := 453) (by decide +kernel)⟩
theorem lw_p10 : lw_okq (⟨"ColumnCasts", "unlikeCells", "(LColumnCasts$Column;)I"⟩, 19) := ⟨⟨by decide +kernel, by decide +kernel⟩, List.mem_of_getElem? (i := 22) (by decide +kernel), List.mem_of_getElem? (i := 456) (by decide +kernel), List.mem_of_getElem? (i := 457) (by decide +kernel)⟩
theorem lw_p11 : lw_okq (⟨"ColumnCasts", "cellsNotAhead", "(LColumnCasts$Column;)I"⟩, 19) := ⟨⟨by decide +kernel, by decide +kernel⟩, List.mem_of_getElem? (i := 22) (by decide +kernel), List.mem_of_getElem? (i := 460) (by decide +kernel), List.mem_of_getElem? (i := 461) (by decide +kernel)⟩
theorem lw_p12 : lw_okq (⟨"ColumnCasts", "passes", "(LColumnCasts$Filter;I)Z"⟩, 19) := ⟨⟨by decide +kernel, by decide +kernel⟩, List.mem_of_getElem? (i := 22) (by decide +kernel), List.mem_of_getElem? (i := 516) (by decide +kernel), List.mem_of_getElem? (i := 517) (by decide +kernel)⟩
theorem lw_p13 : lw_okq (⟨"ColumnCasts", "insertInOrder", "(LColumnCasts$View;)V"⟩, 19) := ⟨⟨by decide +kernel, by decide +kernel⟩, List.mem_of_getElem? (i := 22) (by decide +kernel), List.mem_of_getElem? (i := 558) (by decide +kernel), List.mem_of_getElem? (i := 559) (by decide +kernel)⟩
theorem lw_p14 : lw_okq (⟨"ColumnCasts", "isAhead", "(II)Z"⟩, 19) := ⟨⟨by decide +kernel, by decide +kernel⟩, List.mem_of_getElem? (i := 22) (by decide +kernel), List.mem_of_getElem? (i := 562) (by decide +kernel), List.mem_of_getElem? (i := 563) (by decide +kernel)⟩
theorem lw_p15 : lw_okq (⟨"ColumnCasts", "countLeft", "(LColumnCasts$View;)V"⟩, 19) := ⟨⟨by decide +kernel, by decide +kernel⟩, List.mem_of_getElem? (i := 22) (by decide +kernel), List.mem_of_getElem? (i := 578) (by decide +kernel), List.mem_of_getElem? (i := 579) (by decide +kernel)⟩
def lw_privs_1 : List (MethodName × Nat) := [(⟨"ColumnCasts", "columnRefusal", "(I)I"⟩, 19), (⟨"ColumnCasts", "refused", "(I)I"⟩, 19), (⟨"ColumnCasts", "askRefusal", "(III)I"⟩, 19), (⟨"ColumnCasts", "isRow", "(I)Z"⟩, 19), (⟨"ColumnCasts", "writeRefusal", "(III)I"⟩, 19), (⟨"ColumnCasts", "makeWritten", "(IIJ)V"⟩, 19), (⟨"ColumnCasts", "columnsRefusal", "(II)I"⟩, 19), (⟨"ColumnCasts", "isStretch", "(II)Z"⟩, 19), (⟨"ColumnCasts", "isSame", "(LColumnCasts$Column;II)Z"⟩, 19), (⟨"ColumnCasts", "emptyCells", "(LColumnCasts$Column;)I"⟩, 19), (⟨"ColumnCasts", "unlikeCells", "(LColumnCasts$Column;)I"⟩, 19), (⟨"ColumnCasts", "cellsNotAhead", "(LColumnCasts$Column;)I"⟩, 19), (⟨"ColumnCasts", "passes", "(LColumnCasts$Filter;I)Z"⟩, 19), (⟨"ColumnCasts", "insertInOrder", "(LColumnCasts$View;)V"⟩, 19), (⟨"ColumnCasts", "isAhead", "(II)Z"⟩, 19), (⟨"ColumnCasts", "countLeft", "(LColumnCasts$View;)V"⟩, 19)]
theorem lw_r1 : ∀ q ∈ lw_privs_1, lw_okq q := List.forall_mem_cons.mpr ⟨lw_p0, List.forall_mem_cons.mpr ⟨lw_p1, List.forall_mem_cons.mpr ⟨lw_p2, List.forall_mem_cons.mpr ⟨lw_p3, List.forall_mem_cons.mpr ⟨lw_p4, List.forall_mem_cons.mpr ⟨lw_p5, List.forall_mem_cons.mpr ⟨lw_p6, List.forall_mem_cons.mpr ⟨lw_p7, List.forall_mem_cons.mpr ⟨lw_p8, List.forall_mem_cons.mpr ⟨lw_p9, List.forall_mem_cons.mpr ⟨lw_p10, List.forall_mem_cons.mpr ⟨lw_p11, List.forall_mem_cons.mpr ⟨lw_p12, List.forall_mem_cons.mpr ⟨lw_p13, List.forall_mem_cons.mpr ⟨lw_p14, List.forall_mem_cons.mpr ⟨lw_p15, fun _ h => absurd h List.not_mem_nil⟩⟩⟩⟩⟩⟩⟩⟩⟩⟩⟩⟩⟩⟩⟩⟩
theorem lw_p16 : lw_okq (⟨"ColumnCasts", "countFewest", "()V"⟩, 19) := ⟨⟨by decide +kernel, by decide +kernel⟩, List.mem_of_getElem? (i := 22) (by decide +kernel), List.mem_of_getElem? (i := 582) (by decide +kernel), List.mem_of_getElem? (i := 583) (by decide +kernel)⟩
theorem lw_p17 : lw_okq (⟨"ColumnCasts", "filterAt", "(I)I"⟩, 19) := ⟨⟨by decide +kernel, by decide +kernel⟩, List.mem_of_getElem? (i := 22) (by decide +kernel), List.mem_of_getElem? (i := 586) (by decide +kernel), List.mem_of_getElem? (i := 587) (by decide +kernel)⟩
theorem lw_p18 : lw_okq (⟨"ColumnCasts", "isBestNext", "(II)Z"⟩, 19) := ⟨⟨by decide +kernel, by decide +kernel⟩, List.mem_of_getElem? (i := 22) (by decide +kernel), List.mem_of_getElem? (i := 590) (by decide +kernel), List.mem_of_getElem? (i := 591) (by decide +kernel)⟩
theorem lw_p19 : lw_okq (⟨"ColumnCasts", "filtersStood", "(I)I"⟩, 19) := ⟨⟨by decide +kernel, by decide +kernel⟩, List.mem_of_getElem? (i := 22) (by decide +kernel), List.mem_of_getElem? (i := 598) (by decide +kernel), List.mem_of_getElem? (i := 599) (by decide +kernel)⟩
theorem lw_p20 : lw_okq (⟨"ColumnCasts", "groupsOf", "(LColumnCasts$View;LColumnCasts$Column;)I"⟩, 19) := ⟨⟨by decide +kernel, by decide +kernel⟩, List.mem_of_getElem? (i := 22) (by decide +kernel), List.mem_of_getElem? (i := 615) (by decide +kernel), List.mem_of_getElem? (i := 616) (by decide +kernel)⟩
theorem lw_p21 : lw_okq (⟨"ColumnCasts", "isLead", "(LColumnCasts$View;LColumnCasts$Column;I)Z"⟩, 19) := ⟨⟨by decide +kernel, by decide +kernel⟩, List.mem_of_getElem? (i := 22) (by decide +kernel), List.mem_of_getElem? (i := 619) (by decide +kernel), List.mem_of_getElem? (i := 620) (by decide +kernel)⟩
theorem lw_p22 : lw_okq (⟨"ColumnCasts", "leadOf", "(LColumnCasts$View;LColumnCasts$Column;I)I"⟩, 19) := ⟨⟨by decide +kernel, by decide +kernel⟩, List.mem_of_getElem? (i := 22) (by decide +kernel), List.mem_of_getElem? (i := 623) (by decide +kernel), List.mem_of_getElem? (i := 624) (by decide +kernel)⟩
theorem lw_p23 : lw_okq (⟨"ColumnCasts", "membersOf", "(LColumnCasts$View;LColumnCasts$Column;I)I"⟩, 19) := ⟨⟨by decide +kernel, by decide +kernel⟩, List.mem_of_getElem? (i := 22) (by decide +kernel), List.mem_of_getElem? (i := 627) (by decide +kernel), List.mem_of_getElem? (i := 628) (by decide +kernel)⟩
theorem lw_p24 : lw_okq (⟨"ColumnCasts", "hasReals", "(LColumnCasts$View;LColumnCasts$Column;ILColumnCasts$Column;)Z"⟩, 19) := ⟨⟨by decide +kernel, by decide +kernel⟩, List.mem_of_getElem? (i := 22) (by decide +kernel), List.mem_of_getElem? (i := 635) (by decide +kernel), List.mem_of_getElem? (i := 636) (by decide +kernel)⟩
theorem lw_p25 : lw_okq (⟨"ColumnCasts", "loadSummand", "(LColumnCasts$View;LColumnCasts$Column;ILColumnCasts$Column;I)Z"⟩, 19) := ⟨⟨by decide +kernel, by decide +kernel⟩, List.mem_of_getElem? (i := 22) (by decide +kernel), List.mem_of_getElem? (i := 639) (by decide +kernel), List.mem_of_getElem? (i := 640) (by decide +kernel)⟩
theorem lw_p26 : lw_okq (⟨"ColumnCasts", "sumReals", "(LColumnCasts$View;LColumnCasts$Column;ILColumnCasts$Column;)I"⟩, 19) := ⟨⟨by decide +kernel, by decide +kernel⟩, List.mem_of_getElem? (i := 22) (by decide +kernel), List.mem_of_getElem? (i := 645) (by decide +kernel), List.mem_of_getElem? (i := 646) (by decide +kernel)⟩
theorem lw_p27 : lw_okq (⟨"ColumnCasts", "sumWholes", "(LColumnCasts$View;LColumnCasts$Column;ILColumnCasts$Column;)I"⟩, 19) := ⟨⟨by decide +kernel, by decide +kernel⟩, List.mem_of_getElem? (i := 22) (by decide +kernel), List.mem_of_getElem? (i := 650) (by decide +kernel), List.mem_of_getElem? (i := 651) (by decide +kernel)⟩
theorem lw_p28 : lw_okq (⟨"ColumnCasts", "firstLost", "(LColumnCasts$Column;I)I"⟩, 19) := ⟨⟨by decide +kernel, by decide +kernel⟩, List.mem_of_getElem? (i := 22) (by decide +kernel), List.mem_of_getElem? (i := 658) (by decide +kernel), List.mem_of_getElem? (i := 659) (by decide +kernel)⟩
theorem lw_p29 : lw_okq (⟨"ColumnCasts", "comesBack", "(LColumnCasts$Cell;I)Z"⟩, 19) := ⟨⟨by decide +kernel, by decide +kernel⟩, List.mem_of_getElem? (i := 22) (by decide +kernel), List.mem_of_getElem? (i := 662) (by decide +kernel), List.mem_of_getElem? (i := 663) (by decide +kernel)⟩
theorem lw_p30 : lw_okq (⟨"ColumnCastsModel", "renews", "(II)V"⟩, 19) := ⟨⟨by decide +kernel, by decide +kernel⟩, List.mem_of_getElem? (i := 870) (by decide +kernel), List.mem_of_getElem? (i := 942) (by decide +kernel), List.mem_of_getElem? (i := 943) (by decide +kernel)⟩
theorem lw_p31 : lw_okq (⟨"ColumnCastsModel", "kind", "(I)I"⟩, 19) := ⟨⟨by decide +kernel, by decide +kernel⟩, List.mem_of_getElem? (i := 870) (by decide +kernel), List.mem_of_getElem? (i := 946) (by decide +kernel), List.mem_of_getElem? (i := 947) (by decide +kernel)⟩
def lw_privs_2 : List (MethodName × Nat) := [(⟨"ColumnCasts", "countFewest", "()V"⟩, 19), (⟨"ColumnCasts", "filterAt", "(I)I"⟩, 19), (⟨"ColumnCasts", "isBestNext", "(II)Z"⟩, 19), (⟨"ColumnCasts", "filtersStood", "(I)I"⟩, 19), (⟨"ColumnCasts", "groupsOf", "(LColumnCasts$View;LColumnCasts$Column;)I"⟩, 19), (⟨"ColumnCasts", "isLead", "(LColumnCasts$View;LColumnCasts$Column;I)Z"⟩, 19), (⟨"ColumnCasts", "leadOf", "(LColumnCasts$View;LColumnCasts$Column;I)I"⟩, 19), (⟨"ColumnCasts", "membersOf", "(LColumnCasts$View;LColumnCasts$Column;I)I"⟩, 19), (⟨"ColumnCasts", "hasReals", "(LColumnCasts$View;LColumnCasts$Column;ILColumnCasts$Column;)Z"⟩, 19), (⟨"ColumnCasts", "loadSummand", "(LColumnCasts$View;LColumnCasts$Column;ILColumnCasts$Column;I)Z"⟩, 19), (⟨"ColumnCasts", "sumReals", "(LColumnCasts$View;LColumnCasts$Column;ILColumnCasts$Column;)I"⟩, 19), (⟨"ColumnCasts", "sumWholes", "(LColumnCasts$View;LColumnCasts$Column;ILColumnCasts$Column;)I"⟩, 19), (⟨"ColumnCasts", "firstLost", "(LColumnCasts$Column;I)I"⟩, 19), (⟨"ColumnCasts", "comesBack", "(LColumnCasts$Cell;I)Z"⟩, 19), (⟨"ColumnCastsModel", "renews", "(II)V"⟩, 19), (⟨"ColumnCastsModel", "kind", "(I)I"⟩, 19)]
theorem lw_r2 : ∀ q ∈ lw_privs_2, lw_okq q := List.forall_mem_cons.mpr ⟨lw_p16, List.forall_mem_cons.mpr ⟨lw_p17, List.forall_mem_cons.mpr ⟨lw_p18, List.forall_mem_cons.mpr ⟨lw_p19, List.forall_mem_cons.mpr ⟨lw_p20, List.forall_mem_cons.mpr ⟨lw_p21, List.forall_mem_cons.mpr ⟨lw_p22, List.forall_mem_cons.mpr ⟨lw_p23, List.forall_mem_cons.mpr ⟨lw_p24, List.forall_mem_cons.mpr ⟨lw_p25, List.forall_mem_cons.mpr ⟨lw_p26, List.forall_mem_cons.mpr ⟨lw_p27, List.forall_mem_cons.mpr ⟨lw_p28, List.forall_mem_cons.mpr ⟨lw_p29, List.forall_mem_cons.mpr ⟨lw_p30, List.forall_mem_cons.mpr ⟨lw_p31, fun _ h => absurd h List.not_mem_nil⟩⟩⟩⟩⟩⟩⟩⟩⟩⟩⟩⟩⟩⟩⟩⟩
theorem lw_p32 : lw_okq (⟨"ColumnCastsModel", "puts", "(IIIJ)V"⟩, 19) := ⟨⟨by decide +kernel, by decide +kernel⟩, List.mem_of_getElem? (i := 870) (by decide +kernel), List.mem_of_getElem? (i := 950) (by decide +kernel), List.mem_of_getElem? (i := 951) (by decide +kernel)⟩
theorem lw_p33 : lw_okq (⟨"ColumnCastsModel", "comes", "(I)I"⟩, 19) := ⟨⟨by decide +kernel, by decide +kernel⟩, List.mem_of_getElem? (i := 870) (by decide +kernel), List.mem_of_getElem? (i := 962) (by decide +kernel), List.mem_of_getElem? (i := 963) (by decide +kernel)⟩
theorem lw_p34 : lw_okq (⟨"ColumnCastsModel", "amiss", "(I)I"⟩, 19) := ⟨⟨by decide +kernel, by decide +kernel⟩, List.mem_of_getElem? (i := 870) (by decide +kernel), List.mem_of_getElem? (i := 970) (by decide +kernel), List.mem_of_getElem? (i := 971) (by decide +kernel)⟩
theorem lw_p35 : lw_okq (⟨"ColumnCastsModel", "refuses", "(I)I"⟩, 19) := ⟨⟨by decide +kernel, by decide +kernel⟩, List.mem_of_getElem? (i := 870) (by decide +kernel), List.mem_of_getElem? (i := 975) (by decide +kernel), List.mem_of_getElem? (i := 976) (by decide +kernel)⟩
theorem lw_p36 : lw_okq (⟨"ColumnCastsModel", "isRow", "(I)Z"⟩, 19) := ⟨⟨by decide +kernel, by decide +kernel⟩, List.mem_of_getElem? (i := 870) (by decide +kernel), List.mem_of_getElem? (i := 988) (by decide +kernel), List.mem_of_getElem? (i := 989) (by decide +kernel)⟩
theorem lw_p37 : lw_okq (⟨"ColumnCastsModel", "sortAt", "(II)I"⟩, 19) := ⟨⟨by decide +kernel, by decide +kernel⟩, List.mem_of_getElem? (i := 870) (by decide +kernel), List.mem_of_getElem? (i := 992) (by decide +kernel), List.mem_of_getElem? (i := 993) (by decide +kernel)⟩
theorem lw_p38 : lw_okq (⟨"ColumnCastsModel", "numberAt", "(II)J"⟩, 19) := ⟨⟨by decide +kernel, by decide +kernel⟩, List.mem_of_getElem? (i := 870) (by decide +kernel), List.mem_of_getElem? (i := 999) (by decide +kernel), List.mem_of_getElem? (i := 1000) (by decide +kernel)⟩
theorem lw_p39 : lw_okq (⟨"ColumnCastsModel", "boxAmiss", "(III)I"⟩, 19) := ⟨⟨by decide +kernel, by decide +kernel⟩, List.mem_of_getElem? (i := 870) (by decide +kernel), List.mem_of_getElem? (i := 1058) (by decide +kernel), List.mem_of_getElem? (i := 1059) (by decide +kernel)⟩
theorem lw_p40 : lw_okq (⟨"ColumnCastsModel", "isColumn", "(I)Z"⟩, 19) := ⟨⟨by decide +kernel, by decide +kernel⟩, List.mem_of_getElem? (i := 870) (by decide +kernel), List.mem_of_getElem? (i := 1075) (by decide +kernel), List.mem_of_getElem? (i := 1076) (by decide +kernel)⟩
theorem lw_p41 : lw_okq (⟨"ColumnCastsModel", "areSame", "(IIII)Z"⟩, 19) := ⟨⟨by decide +kernel, by decide +kernel⟩, List.mem_of_getElem? (i := 870) (by decide +kernel), List.mem_of_getElem? (i := 1083) (by decide +kernel), List.mem_of_getElem? (i := 1084) (by decide +kernel)⟩
theorem lw_p42 : lw_okq (⟨"ColumnCastsModel", "ranked", "(III)I"⟩, 19) := ⟨⟨by decide +kernel, by decide +kernel⟩, List.mem_of_getElem? (i := 870) (by decide +kernel), List.mem_of_getElem? (i := 1092) (by decide +kernel), List.mem_of_getElem? (i := 1093) (by decide +kernel)⟩
theorem lw_p43 : lw_okq (⟨"ColumnCastsModel", "seen", "(II)I"⟩, 19) := ⟨⟨by decide +kernel, by decide +kernel⟩, List.mem_of_getElem? (i := 870) (by decide +kernel), List.mem_of_getElem? (i := 1123) (by decide +kernel), List.mem_of_getElem? (i := 1124) (by decide +kernel)⟩
theorem lw_p44 : lw_okq (⟨"ColumnCastsModel", "stands", "(IIIIJ)Z"⟩, 19) := ⟨⟨by decide +kernel, by decide +kernel⟩, List.mem_of_getElem? (i := 870) (by decide +kernel), List.mem_of_getElem? (i := 1135) (by decide +kernel), List.mem_of_getElem? (i := 1136) (by decide +kernel)⟩
theorem lw_p45 : lw_okq (⟨"ColumnCastsModel", "isAhead", "(II)Z"⟩, 19) := ⟨⟨by decide +kernel, by decide +kernel⟩, List.mem_of_getElem? (i := 870) (by decide +kernel), List.mem_of_getElem? (i := 1150) (by decide +kernel), List.mem_of_getElem? (i := 1151) (by decide +kernel)⟩
theorem lw_p46 : lw_okq (⟨"ColumnCastsModel", "laysSets", "(I)V"⟩, 19) := ⟨⟨by decide +kernel, by decide +kernel⟩, List.mem_of_getElem? (i := 870) (by decide +kernel), List.mem_of_getElem? (i := 1162) (by decide +kernel), List.mem_of_getElem? (i := 1163) (by decide +kernel)⟩
theorem lw_p47 : lw_okq (⟨"ColumnCastsModel", "passes", "(II)Z"⟩, 19) := ⟨⟨by decide +kernel, by decide +kernel⟩, List.mem_of_getElem? (i := 870) (by decide +kernel), List.mem_of_getElem? (i := 1166) (by decide +kernel), List.mem_of_getElem? (i := 1167) (by decide +kernel)⟩
def lw_privs_3 : List (MethodName × Nat) := [(⟨"ColumnCastsModel", "puts", "(IIIJ)V"⟩, 19), (⟨"ColumnCastsModel", "comes", "(I)I"⟩, 19), (⟨"ColumnCastsModel", "amiss", "(I)I"⟩, 19), (⟨"ColumnCastsModel", "refuses", "(I)I"⟩, 19), (⟨"ColumnCastsModel", "isRow", "(I)Z"⟩, 19), (⟨"ColumnCastsModel", "sortAt", "(II)I"⟩, 19), (⟨"ColumnCastsModel", "numberAt", "(II)J"⟩, 19), (⟨"ColumnCastsModel", "boxAmiss", "(III)I"⟩, 19), (⟨"ColumnCastsModel", "isColumn", "(I)Z"⟩, 19), (⟨"ColumnCastsModel", "areSame", "(IIII)Z"⟩, 19), (⟨"ColumnCastsModel", "ranked", "(III)I"⟩, 19), (⟨"ColumnCastsModel", "seen", "(II)I"⟩, 19), (⟨"ColumnCastsModel", "stands", "(IIIIJ)Z"⟩, 19), (⟨"ColumnCastsModel", "isAhead", "(II)Z"⟩, 19), (⟨"ColumnCastsModel", "laysSets", "(I)V"⟩, 19), (⟨"ColumnCastsModel", "passes", "(II)Z"⟩, 19)]
theorem lw_r3 : ∀ q ∈ lw_privs_3, lw_okq q := List.forall_mem_cons.mpr ⟨lw_p32, List.forall_mem_cons.mpr ⟨lw_p33, List.forall_mem_cons.mpr ⟨lw_p34, List.forall_mem_cons.mpr ⟨lw_p35, List.forall_mem_cons.mpr ⟨lw_p36, List.forall_mem_cons.mpr ⟨lw_p37, List.forall_mem_cons.mpr ⟨lw_p38, List.forall_mem_cons.mpr ⟨lw_p39, List.forall_mem_cons.mpr ⟨lw_p40, List.forall_mem_cons.mpr ⟨lw_p41, List.forall_mem_cons.mpr ⟨lw_p42, List.forall_mem_cons.mpr ⟨lw_p43, List.forall_mem_cons.mpr ⟨lw_p44, List.forall_mem_cons.mpr ⟨lw_p45, List.forall_mem_cons.mpr ⟨lw_p46, List.forall_mem_cons.mpr ⟨lw_p47, fun _ h => absurd h List.not_mem_nil⟩⟩⟩⟩⟩⟩⟩⟩⟩⟩⟩⟩⟩⟩⟩⟩
theorem lw_p48 : lw_okq (⟨"ColumnCastsModel", "orders", "(IIJI)V"⟩, 19) := ⟨⟨by decide +kernel, by decide +kernel⟩, List.mem_of_getElem? (i := 870) (by decide +kernel), List.mem_of_getElem? (i := 1170) (by decide +kernel), List.mem_of_getElem? (i := 1171) (by decide +kernel)⟩
theorem lw_p49 : lw_okq (⟨"ColumnCastsModel", "grouped", "(III)I"⟩, 19) := ⟨⟨by decide +kernel, by decide +kernel⟩, List.mem_of_getElem? (i := 870) (by decide +kernel), List.mem_of_getElem? (i := 1193) (by decide +kernel), List.mem_of_getElem? (i := 1194) (by decide +kernel)⟩
theorem lw_p50 : lw_okq (⟨"ColumnCastsModel", "lost", "(II)I"⟩, 19) := ⟨⟨by decide +kernel, by decide +kernel⟩, List.mem_of_getElem? (i := 870) (by decide +kernel), List.mem_of_getElem? (i := 1205) (by decide +kernel), List.mem_of_getElem? (i := 1206) (by decide +kernel)⟩
theorem lw_p51 : lw_okq (⟨"ColumnCastsModel", "comesBack", "(III)Z"⟩, 19) := ⟨⟨by decide +kernel, by decide +kernel⟩, List.mem_of_getElem? (i := 870) (by decide +kernel), List.mem_of_getElem? (i := 1209) (by decide +kernel), List.mem_of_getElem? (i := 1210) (by decide +kernel)⟩
theorem lw_p52 : lw_okq (⟨"ColumnCastsModel", "here", "()I"⟩, 19) := ⟨⟨by decide +kernel, by decide +kernel⟩, List.mem_of_getElem? (i := 870) (by decide +kernel), List.mem_of_getElem? (i := 1236) (by decide +kernel), List.mem_of_getElem? (i := 1237) (by decide +kernel)⟩
theorem lw_p53 : lw_okq (⟨"ColumnCastsModel", "fails", "()V"⟩, 19) := ⟨⟨by decide +kernel, by decide +kernel⟩, List.mem_of_getElem? (i := 870) (by decide +kernel), List.mem_of_getElem? (i := 1300) (by decide +kernel), List.mem_of_getElem? (i := 1301) (by decide +kernel)⟩
theorem lw_p54 : lw_okq (⟨"ColumnCastsModel", "takes", "(I)Z"⟩, 19) := ⟨⟨by decide +kernel, by decide +kernel⟩, List.mem_of_getElem? (i := 870) (by decide +kernel), List.mem_of_getElem? (i := 1304) (by decide +kernel), List.mem_of_getElem? (i := 1305) (by decide +kernel)⟩
theorem lw_p55 : lw_okq (⟨"ColumnCastsModel", "item", "(II)V"⟩, 19) := ⟨⟨by decide +kernel, by decide +kernel⟩, List.mem_of_getElem? (i := 870) (by decide +kernel), List.mem_of_getElem? (i := 1308) (by decide +kernel), List.mem_of_getElem? (i := 1309) (by decide +kernel)⟩
theorem lw_p56 : lw_okq (⟨"ColumnCastsModel", "word", "()J"⟩, 19) := ⟨⟨by decide +kernel, by decide +kernel⟩, List.mem_of_getElem? (i := 870) (by decide +kernel), List.mem_of_getElem? (i := 1312) (by decide +kernel), List.mem_of_getElem? (i := 1313) (by decide +kernel)⟩
theorem lw_p57 : lw_okq (⟨"ColumnCastsModel", "number", "()J"⟩, 19) := ⟨⟨by decide +kernel, by decide +kernel⟩, List.mem_of_getElem? (i := 870) (by decide +kernel), List.mem_of_getElem? (i := 1318) (by decide +kernel), List.mem_of_getElem? (i := 1319) (by decide +kernel)⟩
theorem lw_p58 : lw_okq (⟨"ColumnCastsModel", "writes", "(I)V"⟩, 19) := ⟨⟨by decide +kernel, by decide +kernel⟩, List.mem_of_getElem? (i := 870) (by decide +kernel), List.mem_of_getElem? (i := 1329) (by decide +kernel), List.mem_of_getElem? (i := 1330) (by decide +kernel)⟩
theorem lw_p59 : lw_okq (⟨"ColumnCastsModel", "writesCell", "(IIJ)V"⟩, 19) := ⟨⟨by decide +kernel, by decide +kernel⟩, List.mem_of_getElem? (i := 870) (by decide +kernel), List.mem_of_getElem? (i := 1333) (by decide +kernel), List.mem_of_getElem? (i := 1334) (by decide +kernel)⟩
theorem lw_p60 : lw_okq (⟨"ColumnCastsModel", "writesNumber", "(J)V"⟩, 19) := ⟨⟨by decide +kernel, by decide +kernel⟩, List.mem_of_getElem? (i := 870) (by decide +kernel), List.mem_of_getElem? (i := 1337) (by decide +kernel), List.mem_of_getElem? (i := 1338) (by decide +kernel)⟩
def lw_privs_4 : List (MethodName × Nat) := [(⟨"ColumnCastsModel", "orders", "(IIJI)V"⟩, 19), (⟨"ColumnCastsModel", "grouped", "(III)I"⟩, 19), (⟨"ColumnCastsModel", "lost", "(II)I"⟩, 19), (⟨"ColumnCastsModel", "comesBack", "(III)Z"⟩, 19), (⟨"ColumnCastsModel", "here", "()I"⟩, 19), (⟨"ColumnCastsModel", "fails", "()V"⟩, 19), (⟨"ColumnCastsModel", "takes", "(I)Z"⟩, 19), (⟨"ColumnCastsModel", "item", "(II)V"⟩, 19), (⟨"ColumnCastsModel", "word", "()J"⟩, 19), (⟨"ColumnCastsModel", "number", "()J"⟩, 19), (⟨"ColumnCastsModel", "writes", "(I)V"⟩, 19), (⟨"ColumnCastsModel", "writesCell", "(IIJ)V"⟩, 19), (⟨"ColumnCastsModel", "writesNumber", "(J)V"⟩, 19)]
theorem lw_r4 : ∀ q ∈ lw_privs_4, lw_okq q := List.forall_mem_cons.mpr ⟨lw_p48, List.forall_mem_cons.mpr ⟨lw_p49, List.forall_mem_cons.mpr ⟨lw_p50, List.forall_mem_cons.mpr ⟨lw_p51, List.forall_mem_cons.mpr ⟨lw_p52, List.forall_mem_cons.mpr ⟨lw_p53, List.forall_mem_cons.mpr ⟨lw_p54, List.forall_mem_cons.mpr ⟨lw_p55, List.forall_mem_cons.mpr ⟨lw_p56, List.forall_mem_cons.mpr ⟨lw_p57, List.forall_mem_cons.mpr ⟨lw_p58, List.forall_mem_cons.mpr ⟨lw_p59, List.forall_mem_cons.mpr ⟨lw_p60, fun _ h => absurd h List.not_mem_nil⟩⟩⟩⟩⟩⟩⟩⟩⟩⟩⟩⟩⟩
def lw_privs : List (MethodName × Nat) := lw_privs_1 ++ (lw_privs_2 ++ (lw_privs_3 ++ (lw_privs_4)))
def lw_tbl : List Cond := k2_sels lw_privs ++ tables_1
theorem lw_privs_ok : ∀ q ∈ lw_privs, lw_okq q := by
  show ∀ q ∈ lw_privs_1 ++ (lw_privs_2 ++ (lw_privs_3 ++ (lw_privs_4))), lw_okq q
  exact List.forall_mem_append.mpr ⟨lw_r1, List.forall_mem_append.mpr ⟨lw_r2, List.forall_mem_append.mpr ⟨lw_r3, lw_r4⟩⟩⟩
/-- the streams that the claim lets the run draw from -/
abbrev lw_cs : List Choice := [Jvm.Choice.named "NaN.bits", Jvm.Choice.named "NaN.copy"]
theorem lw_bits : nanBits ∈ lw_cs := by first | decide | exact List.mem_cons_self | simp [lw_cs, nanBits]

def RX0 : String := "ColumnCasts$Cell"
def TX0 : u_T := fun k => match k with
  | 0 => ("ColumnCasts$Cell", "kind", "I", false)
  | 1 => ("ColumnCasts$Cell", "number", "J", false)
  | _ => ("ColumnCasts$Cell", "real", "D", false)
def tyX0 : Nat → FieldType := fun k => match k with
  | 0 => .int
  | 1 => .long
  | _ => .double
abbrev wsX00 : List Cond := u_ws RX0 TX0 3
theorem nmX0 : ∀ a, a < 3 → ∀ b, b < 3 → a ≠ b → (TX0 a).2.1 ≠ (TX0 b).2.1 := by decide +kernel
theorem tyX0_ok : ∀ k, k < 3 → parseFieldDescriptor (TX0 k).2.2.1 = some (tyX0 k) := by decide +kernel
abbrev cX0_init : ByteArray := prog_2_method_1_code
def yX0_init : MethodName := ⟨RX0, "<init>", "()V"⟩
abbrev cX0_setEmpty : ByteArray := prog_2_method_2_code
def yX0_setEmpty : MethodName := ⟨RX0, "setEmpty", "()V"⟩
abbrev cX0_setWord : ByteArray := prog_2_method_3_code
def yX0_setWord : MethodName := ⟨RX0, "setWord", "(J)V"⟩
abbrev cX0_setWhole : ByteArray := prog_2_method_4_code
def yX0_setWhole : MethodName := ⟨RX0, "setWhole", "(IJ)V"⟩
abbrev cX0_setReal : ByteArray := prog_2_method_5_code
def yX0_setReal : MethodName := ⟨RX0, "setReal", "(ID)V"⟩
abbrev cX0_copyFrom : ByteArray := prog_2_method_6_code
def yX0_copyFrom : MethodName := ⟨RX0, "copyFrom", "(LColumnCasts$Cell;)V"⟩
abbrev cX0_isBox : ByteArray := prog_2_method_7_code
def yX0_isBox : MethodName := ⟨RX0, "isBox", "()Z"⟩
abbrev cX0_isNumber : ByteArray := prog_2_method_8_code
def yX0_isNumber : MethodName := ⟨RX0, "isNumber", "()Z"⟩
abbrev cX0_isWhole : ByteArray := prog_2_method_9_code
def yX0_isWhole : MethodName := ⟨RX0, "isWhole", "()Z"⟩
abbrev cX0_make : ByteArray := prog_2_method_10_code
def yX0_make : MethodName := ⟨RX0, "make", "(IJ)V"⟩
abbrev cX0_turnInto : ByteArray := prog_2_method_11_code
def yX0_turnInto : MethodName := ⟨RX0, "turnInto", "(I)V"⟩
abbrev cX0_turnReal : ByteArray := prog_2_method_12_code
def yX0_turnReal : MethodName := ⟨RX0, "turnReal", "(ID)V"⟩
abbrev cX0_turnWhole : ByteArray := prog_2_method_13_code
def yX0_turnWhole : MethodName := ⟨RX0, "turnWhole", "(IJ)V"⟩
abbrev cX0_lowestBits : ByteArray := prog_2_method_14_code
def yX0_lowestBits : MethodName := ⟨RX0, "lowestBits", "(IJ)J"⟩
abbrev cX0_bits : ByteArray := prog_2_method_15_code
def yX0_bits : MethodName := ⟨RX0, "bits", "()J"⟩
abbrev cX0_realBits : ByteArray := prog_2_method_16_code
def yX0_realBits : MethodName := ⟨RX0, "realBits", "(III)J"⟩
abbrev cX0_isSame : ByteArray := prog_2_method_17_code
def yX0_isSame : MethodName := ⟨RX0, "isSame", "(LColumnCasts$Cell;)Z"⟩
abbrev cX0_family : ByteArray := prog_2_method_18_code
def yX0_family : MethodName := ⟨RX0, "family", "()I"⟩
abbrev cX0_place : ByteArray := prog_2_method_19_code
def yX0_place : MethodName := ⟨RX0, "place", "()J"⟩
abbrev cX0_rankAgainst : ByteArray := prog_2_method_20_code
def yX0_rankAgainst : MethodName := ⟨RX0, "rankAgainst", "(LColumnCasts$Cell;)I"⟩
abbrev cX0_hasWorthWith : ByteArray := prog_2_method_21_code
def yX0_hasWorthWith : MethodName := ⟨RX0, "hasWorthWith", "(LColumnCasts$Cell;)Z"⟩
abbrev cX0_worthAgainst : ByteArray := prog_2_method_22_code
def yX0_worthAgainst : MethodName := ⟨RX0, "worthAgainst", "(LColumnCasts$Cell;)I"⟩
abbrev cX0_fits : ByteArray := prog_2_method_23_code
def yX0_fits : MethodName := ⟨RX0, "fits", "(LColumnCasts$Cell;)Z"⟩
abbrev cX0_stands : ByteArray := prog_2_method_24_code
def yX0_stands : MethodName := ⟨RX0, "stands", "(ILColumnCasts$Cell;)Z"⟩
def RX1 : String := "ColumnCasts$Column"
def TX1 : u_T := fun k => match k with
  | 0 => ("ColumnCasts$Column", "kind", "I", false)
  | 1 => ("ColumnCasts$Column", "isGone", "Z", false)
  | 2 => ("ColumnCasts$Column", "kinds", "[I", true)
  | 3 => ("ColumnCasts$Column", "numbers", "[J", true)
  | _ => ("ColumnCasts$Column", "reals", "[D", true)
def tyX1 : Nat → FieldType := fun k => match k with
  | 0 => .int
  | 1 => .boolean
  | 2 => .array .int
  | 3 => .array .long
  | _ => .array .double
abbrev wsX10 : List Cond := u_ws RX1 TX1 5
theorem nmX1 : ∀ a, a < 5 → ∀ b, b < 5 → a ≠ b → (TX1 a).2.1 ≠ (TX1 b).2.1 := by decide +kernel
theorem tyX1_ok : ∀ k, k < 5 → parseFieldDescriptor (TX1 k).2.2.1 = some (tyX1 k) := by decide +kernel
abbrev cX1_init : ByteArray := prog_3_method_1_code
def yX1_init : MethodName := ⟨RX1, "<init>", "()V"⟩
abbrev cX1_load : ByteArray := prog_3_method_2_code
def yX1_load : MethodName := ⟨RX1, "load", "(ILColumnCasts$Cell;)V"⟩
abbrev cX1_store : ByteArray := prog_3_method_3_code
def yX1_store : MethodName := ⟨RX1, "store", "(ILColumnCasts$Cell;)V"⟩
abbrev cX1_begin : ByteArray := prog_3_method_4_code
def yX1_begin : MethodName := ⟨RX1, "begin", "(II)V"⟩
abbrev cX1_renew : ByteArray := prog_3_method_5_code
def yX1_renew : MethodName := ⟨RX1, "renew", "(II)V"⟩
abbrev cX1_take : ByteArray := prog_3_method_6_code
def yX1_take : MethodName := ⟨RX1, "take", "(LColumnCasts$Column;III)V"⟩
abbrev cX1_copyFrom : ByteArray := prog_3_method_7_code
def yX1_copyFrom : MethodName := ⟨RX1, "copyFrom", "(LColumnCasts$Column;)V"⟩
def RX2 : String := "ColumnCasts$Filter"
def TX2 : u_T := fun k => match k with
  | 0 => ("ColumnCasts$Filter", "column", "I", false)
  | 1 => ("ColumnCasts$Filter", "test", "I", false)
  | _ => ("ColumnCasts$Filter", "told", "LColumnCasts$Cell;", true)
def tyX2 : Nat → FieldType := fun k => match k with
  | 0 => .int
  | 1 => .int
  | _ => .object "ColumnCasts$Cell"
abbrev wsX20 : List Cond := u_ws RX2 TX2 3
theorem nmX2 : ∀ a, a < 3 → ∀ b, b < 3 → a ≠ b → (TX2 a).2.1 ≠ (TX2 b).2.1 := by decide +kernel
theorem tyX2_ok : ∀ k, k < 3 → parseFieldDescriptor (TX2 k).2.2.1 = some (tyX2 k) := by decide +kernel
abbrev cX2_init : ByteArray := prog_4_method_1_code
def yX2_init : MethodName := ⟨RX2, "<init>", "()V"⟩
abbrev cX2_set : ByteArray := prog_4_method_2_code
def yX2_set : MethodName := ⟨RX2, "set", "(IIIJ)V"⟩
abbrev cX2_copyFrom : ByteArray := prog_4_method_3_code
def yX2_copyFrom : MethodName := ⟨RX2, "copyFrom", "(LColumnCasts$Filter;)V"⟩
def RX3 : String := "ColumnCasts$Spelling"
def TX3 : u_T := fun k => match k with
  | 0 => ("ColumnCasts$Spelling", "length", "I", false)
  | _ => ("ColumnCasts$Spelling", "signs", "[I", true)
def tyX3 : Nat → FieldType := fun k => match k with
  | 0 => .int
  | _ => .array .int
abbrev wsX30 : List Cond := u_ws RX3 TX3 2
theorem nmX3 : ∀ a, a < 2 → ∀ b, b < 2 → a ≠ b → (TX3 a).2.1 ≠ (TX3 b).2.1 := by decide +kernel
theorem tyX3_ok : ∀ k, k < 2 → parseFieldDescriptor (TX3 k).2.2.1 = some (tyX3 k) := by decide +kernel
abbrev cX3_init : ByteArray := prog_5_method_1_code
def yX3_init : MethodName := ⟨RX3, "<init>", "()V"⟩
abbrev cX3_add : ByteArray := prog_5_method_2_code
def yX3_add : MethodName := ⟨RX3, "add", "(I)V"⟩
abbrev cX3_begin : ByteArray := prog_5_method_3_code
def yX3_begin : MethodName := ⟨RX3, "begin", "(I)V"⟩
abbrev cX3_end : ByteArray := prog_5_method_4_code
def yX3_end : MethodName := ⟨RX3, "end", "()V"⟩
abbrev cX3_addKind : ByteArray := prog_5_method_5_code
def yX3_addKind : MethodName := ⟨RX3, "addKind", "(I)V"⟩
abbrev cX3_addItem : ByteArray := prog_5_method_6_code
def yX3_addItem : MethodName := ⟨RX3, "addItem", "(ILColumnCasts$Cell;Z)V"⟩
abbrev cX3_addWord : ByteArray := prog_5_method_7_code
def yX3_addWord : MethodName := ⟨RX3, "addWord", "(J)V"⟩
abbrev cX3_addNumber : ByteArray := prog_5_method_8_code
def yX3_addNumber : MethodName := ⟨RX3, "addNumber", "(J)V"⟩
abbrev cX3_turnRound : ByteArray := prog_5_method_9_code
def yX3_turnRound : MethodName := ⟨RX3, "turnRound", "(II)V"⟩
def RX4 : String := "ColumnCasts$Table"
def TX4 : u_T := fun k => match k with
  | 0 => ("ColumnCasts$Table", "rows", "I", false)
  | 1 => ("ColumnCasts$Table", "came", "I", false)
  | 2 => ("ColumnCasts$Table", "keyCount", "I", false)
  | 3 => ("ColumnCasts$Table", "filterCount", "I", false)
  | 4 => ("ColumnCasts$Table", "columns", "[LColumnCasts$Column;", true)
  | 5 => ("ColumnCasts$Table", "views", "[LColumnCasts$View;", true)
  | 6 => ("ColumnCasts$Table", "keys", "[I", true)
  | 7 => ("ColumnCasts$Table", "isTurned", "[Z", true)
  | _ => ("ColumnCasts$Table", "filters", "[LColumnCasts$Filter;", true)
def tyX4 : Nat → FieldType := fun k => match k with
  | 0 => .int
  | 1 => .int
  | 2 => .int
  | 3 => .int
  | 4 => .array (.object "ColumnCasts$Column")
  | 5 => .array (.object "ColumnCasts$View")
  | 6 => .array .int
  | 7 => .array .boolean
  | _ => .array (.object "ColumnCasts$Filter")
abbrev wsX40 : List Cond := u_ws RX4 TX4 9
theorem nmX4 : ∀ a, a < 9 → ∀ b, b < 9 → a ≠ b → (TX4 a).2.1 ≠ (TX4 b).2.1 := by decide +kernel
theorem tyX4_ok : ∀ k, k < 9 → parseFieldDescriptor (TX4 k).2.2.1 = some (tyX4 k) := by decide +kernel
abbrev cX4_init : ByteArray := prog_6_method_1_code
def yX4_init : MethodName := ⟨RX4, "<init>", "()V"⟩
abbrev cX4_resize : ByteArray := prog_6_method_2_code
def yX4_resize : MethodName := ⟨RX4, "resize", "(I)V"⟩
abbrev cX4_nextColumn : ByteArray := prog_6_method_3_code
def yX4_nextColumn : MethodName := ⟨RX4, "nextColumn", "()LColumnCasts$Column;"⟩
abbrev cX4_addKey : ByteArray := prog_6_method_4_code
def yX4_addKey : MethodName := ⟨RX4, "addKey", "(IZ)V"⟩
abbrev cX4_nextFilter : ByteArray := prog_6_method_5_code
def yX4_nextFilter : MethodName := ⟨RX4, "nextFilter", "()LColumnCasts$Filter;"⟩
abbrev cX4_copyFrom : ByteArray := prog_6_method_6_code
def yX4_copyFrom : MethodName := ⟨RX4, "copyFrom", "(LColumnCasts$Table;)V"⟩
def RX5 : String := "ColumnCasts$Text"
def TX5 : u_T := fun k => match k with
  | 0 => ("ColumnCasts$Text", "length", "I", false)
  | 1 => ("ColumnCasts$Text", "place", "I", false)
  | 2 => ("ColumnCasts$Text", "signs", "[I", true)
  | _ => ("ColumnCasts$Text", "item", "LColumnCasts$Cell;", true)
def tyX5 : Nat → FieldType := fun k => match k with
  | 0 => .int
  | 1 => .int
  | 2 => .array .int
  | _ => .object "ColumnCasts$Cell"
abbrev wsX50 : List Cond := u_ws RX5 TX5 4
theorem nmX5 : ∀ a, a < 4 → ∀ b, b < 4 → a ≠ b → (TX5 a).2.1 ≠ (TX5 b).2.1 := by decide +kernel
theorem tyX5_ok : ∀ k, k < 4 → parseFieldDescriptor (TX5 k).2.2.1 = some (tyX5 k) := by decide +kernel
abbrev cX5_init : ByteArray := prog_7_method_1_code
def yX5_init : MethodName := ⟨RX5, "<init>", "()V"⟩
abbrev cX5_add : ByteArray := prog_7_method_2_code
def yX5_add : MethodName := ⟨RX5, "add", "(I)V"⟩
abbrev cX5_sign : ByteArray := prog_7_method_3_code
def yX5_sign : MethodName := ⟨RX5, "sign", "()I"⟩
abbrev cX5_skip : ByteArray := prog_7_method_4_code
def yX5_skip : MethodName := ⟨RX5, "skip", "(I)Z"⟩
abbrev cX5_isLetter : ByteArray := prog_7_method_5_code
def yX5_isLetter : MethodName := ⟨RX5, "isLetter", "()Z"⟩
abbrev cX5_isDigit : ByteArray := prog_7_method_6_code
def yX5_isDigit : MethodName := ⟨RX5, "isDigit", "()Z"⟩
abbrev cX5_parse : ByteArray := prog_7_method_7_code
def yX5_parse : MethodName := ⟨RX5, "parse", "(LColumnCasts$Column;I)Z"⟩
abbrev cX5_takeKind : ByteArray := prog_7_method_8_code
def yX5_takeKind : MethodName := ⟨RX5, "takeKind", "(I)I"⟩
abbrev cX5_takeItems : ByteArray := prog_7_method_9_code
def yX5_takeItems : MethodName := ⟨RX5, "takeItems", "(LColumnCasts$Column;I)Z"⟩
abbrev cX5_takeItem : ByteArray := prog_7_method_10_code
def yX5_takeItem : MethodName := ⟨RX5, "takeItem", "(I)Z"⟩
abbrev cX5_takeBox : ByteArray := prog_7_method_11_code
def yX5_takeBox : MethodName := ⟨RX5, "takeBox", "(I)Z"⟩
abbrev cX5_takeWord : ByteArray := prog_7_method_12_code
def yX5_takeWord : MethodName := ⟨RX5, "takeWord", "()Z"⟩
def RX6 : String := "ColumnCasts$View"
def TX6 : u_T := fun k => match k with
  | 0 => ("ColumnCasts$View", "length", "I", false)
  | _ => ("ColumnCasts$View", "rows", "[I", true)
def tyX6 : Nat → FieldType := fun k => match k with
  | 0 => .int
  | _ => .array .int
abbrev wsX60 : List Cond := u_ws RX6 TX6 2
theorem nmX6 : ∀ a, a < 2 → ∀ b, b < 2 → a ≠ b → (TX6 a).2.1 ≠ (TX6 b).2.1 := by decide +kernel
theorem tyX6_ok : ∀ k, k < 2 → parseFieldDescriptor (TX6 k).2.2.1 = some (tyX6 k) := by decide +kernel
abbrev cX6_init : ByteArray := prog_8_method_1_code
def yX6_init : MethodName := ⟨RX6, "<init>", "()V"⟩
abbrev cX6_showAll : ByteArray := prog_8_method_2_code
def yX6_showAll : MethodName := ⟨RX6, "showAll", "(I)V"⟩
abbrev cX6_append : ByteArray := prog_8_method_3_code
def yX6_append : MethodName := ⟨RX6, "append", "(II)V"⟩
abbrev cX6_resize : ByteArray := prog_8_method_4_code
def yX6_resize : MethodName := ⟨RX6, "resize", "(II)V"⟩
abbrev cX6_keepThose : ByteArray := prog_8_method_5_code
def yX6_keepThose : MethodName := ⟨RX6, "keepThose", "([Z)V"⟩
abbrev cX6_copyFrom : ByteArray := prog_8_method_6_code
def yX6_copyFrom : MethodName := ⟨RX6, "copyFrom", "(LColumnCasts$View;)V"⟩
def RX7 : String := "ColumnCasts"
def TX7 : u_T := fun k => match k with
  | 0 => ("ColumnCasts", "table", "LColumnCasts$Table;", true)
  | 1 => ("ColumnCasts", "imaged", "LColumnCasts$Table;", true)
  | 2 => ("ColumnCasts", "isImaged", "Z", false)
  | 3 => ("ColumnCasts", "text", "LColumnCasts$Text;", true)
  | 4 => ("ColumnCasts", "spelling", "LColumnCasts$Spelling;", true)
  | 5 => ("ColumnCasts", "fresh", "LColumnCasts$Column;", true)
  | 6 => ("ColumnCasts", "told", "LColumnCasts$Filter;", true)
  | 7 => ("ColumnCasts", "cell", "LColumnCasts$Cell;", true)
  | 8 => ("ColumnCasts", "other", "LColumnCasts$Cell;", true)
  | 9 => ("ColumnCasts", "turned", "LColumnCasts$Cell;", true)
  | 10 => ("ColumnCasts", "stoodBefore", "[I", true)
  | 11 => ("ColumnCasts", "stays", "[Z", true)
  | 12 => ("ColumnCasts", "passed", "[I", true)
  | 13 => ("ColumnCasts", "left", "[I", true)
  | 14 => ("ColumnCasts", "fewest", "[I", true)
  | 15 => ("ColumnCasts", "latest", "J", false)
  | 16 => ("ColumnCasts", "beyondRefused", "I", false)
  | 17 => ("ColumnCasts", "otherRefused", "I", false)
  | _ => ("ColumnCasts", "nothingRefused", "I", false)
def tyX7 : Nat → FieldType := fun k => match k with
  | 0 => .object "ColumnCasts$Table"
  | 1 => .object "ColumnCasts$Table"
  | 2 => .boolean
  | 3 => .object "ColumnCasts$Text"
  | 4 => .object "ColumnCasts$Spelling"
  | 5 => .object "ColumnCasts$Column"
  | 6 => .object "ColumnCasts$Filter"
  | 7 => .object "ColumnCasts$Cell"
  | 8 => .object "ColumnCasts$Cell"
  | 9 => .object "ColumnCasts$Cell"
  | 10 => .array .int
  | 11 => .array .boolean
  | 12 => .array .int
  | 13 => .array .int
  | 14 => .array .int
  | 15 => .long
  | 16 => .int
  | 17 => .int
  | _ => .int
abbrev wsX70 : List Cond := u_ws RX7 TX7 19
theorem nmX7 : ∀ a, a < 19 → ∀ b, b < 19 → a ≠ b → (TX7 a).2.1 ≠ (TX7 b).2.1 := by decide +kernel
theorem tyX7_ok : ∀ k, k < 19 → parseFieldDescriptor (TX7 k).2.2.1 = some (tyX7 k) := by decide +kernel
abbrev cX7_init : ByteArray := prog_1_method_1_code
def yX7_init : MethodName := ⟨RX7, "<init>", "()V"⟩
abbrev cX7_size : ByteArray := prog_1_method_2_code
def yX7_size : MethodName := ⟨RX7, "size", "(I)I"⟩
abbrev cX7_column : ByteArray := prog_1_method_3_code
def yX7_column : MethodName := ⟨RX7, "column", "(I)I"⟩
abbrev cX7_drop : ByteArray := prog_1_method_4_code
def yX7_drop : MethodName := ⟨RX7, "drop", "(I)I"⟩
abbrev cX7_kindOf : ByteArray := prog_1_method_5_code
def yX7_kindOf : MethodName := ⟨RX7, "kindOf", "(I)I"⟩
abbrev cX7_ask : ByteArray := prog_1_method_6_code
def yX7_ask : MethodName := ⟨RX7, "ask", "(III)I"⟩
abbrev cX7_got : ByteArray := prog_1_method_7_code
def yX7_got : MethodName := ⟨RX7, "got", "()J"⟩
abbrev cX7_write : ByteArray := prog_1_method_8_code
def yX7_write : MethodName := ⟨RX7, "write", "(IIIJ)I"⟩
abbrev cX7_bring : ByteArray := prog_1_method_9_code
def yX7_bring : MethodName := ⟨RX7, "bring", "(IIIII)I"⟩
abbrev cX7_swap : ByteArray := prog_1_method_10_code
def yX7_swap : MethodName := ⟨RX7, "swap", "(II)I"⟩
abbrev cX7_differs : ByteArray := prog_1_method_11_code
def yX7_differs : MethodName := ⟨RX7, "differs", "(II)I"⟩
abbrev cX7_of : ByteArray := prog_1_method_12_code
def yX7_of : MethodName := ⟨RX7, "of", "(II)I"⟩
abbrev cX7_view : ByteArray := prog_1_method_13_code
def yX7_view : MethodName := ⟨RX7, "view", "(I)I"⟩
abbrev cX7_viewed : ByteArray := prog_1_method_14_code
def yX7_viewed : MethodName := ⟨RX7, "viewed", "(II)I"⟩
abbrev cX7_keep : ByteArray := prog_1_method_15_code
def yX7_keep : MethodName := ⟨RX7, "keep", "(IIIIJ)I"⟩
abbrev cX7_key : ByteArray := prog_1_method_16_code
def yX7_key : MethodName := ⟨RX7, "key", "(IZ)I"⟩
abbrev cX7_sort : ByteArray := prog_1_method_17_code
def yX7_sort : MethodName := ⟨RX7, "sort", "(I)I"⟩
abbrev cX7_filter : ByteArray := prog_1_method_18_code
def yX7_filter : MethodName := ⟨RX7, "filter", "(IIIJ)I"⟩
abbrev cX7_order : ByteArray := prog_1_method_19_code
def yX7_order : MethodName := ⟨RX7, "order", "(II)I"⟩
abbrev cX7_looked : ByteArray := prog_1_method_20_code
def yX7_looked : MethodName := ⟨RX7, "looked", "(I)I"⟩
abbrev cX7_run : ByteArray := prog_1_method_21_code
def yX7_run : MethodName := ⟨RX7, "run", "(I)I"⟩
abbrev cX7_pair : ByteArray := prog_1_method_22_code
def yX7_pair : MethodName := ⟨RX7, "pair", "(III)I"⟩
abbrev cX7_group : ByteArray := prog_1_method_23_code
def yX7_group : MethodName := ⟨RX7, "group", "(IIII)I"⟩
abbrev cX7_sum : ByteArray := prog_1_method_24_code
def yX7_sum : MethodName := ⟨RX7, "sum", "(IIII)I"⟩
abbrev cX7_loses : ByteArray := prog_1_method_25_code
def yX7_loses : MethodName := ⟨RX7, "loses", "(II)I"⟩
abbrev cX7_casts : ByteArray := prog_1_method_26_code
def yX7_casts : MethodName := ⟨RX7, "casts", "(I)I"⟩
abbrev cX7_cast : ByteArray := prog_1_method_27_code
def yX7_cast : MethodName := ⟨RX7, "cast", "(II)I"⟩
abbrev cX7_feed : ByteArray := prog_1_method_28_code
def yX7_feed : MethodName := ⟨RX7, "feed", "(I)I"⟩
abbrev cX7_read : ByteArray := prog_1_method_29_code
def yX7_read : MethodName := ⟨RX7, "read", "()I"⟩
abbrev cX7_spelled : ByteArray := prog_1_method_30_code
def yX7_spelled : MethodName := ⟨RX7, "spelled", "(II)I"⟩
abbrev cX7_image : ByteArray := prog_1_method_31_code
def yX7_image : MethodName := ⟨RX7, "image", "()I"⟩
abbrev cX7_undo : ByteArray := prog_1_method_32_code
def yX7_undo : MethodName := ⟨RX7, "undo", "()I"⟩
abbrev cX7_count : ByteArray := prog_1_method_33_code
def yX7_count : MethodName := ⟨RX7, "count", "(I)I"⟩
abbrev cX7_refused : ByteArray := prog_1_method_34_code
def yX7_refused : MethodName := ⟨RX7, "refused", "(I)I"⟩
abbrev cX7_columnRefusal : ByteArray := prog_1_method_35_code
def yX7_columnRefusal : MethodName := ⟨RX7, "columnRefusal", "(I)I"⟩
abbrev cX7_columnsRefusal : ByteArray := prog_1_method_36_code
def yX7_columnsRefusal : MethodName := ⟨RX7, "columnsRefusal", "(II)I"⟩
abbrev cX7_askRefusal : ByteArray := prog_1_method_37_code
def yX7_askRefusal : MethodName := ⟨RX7, "askRefusal", "(III)I"⟩
abbrev cX7_writeRefusal : ByteArray := prog_1_method_38_code
def yX7_writeRefusal : MethodName := ⟨RX7, "writeRefusal", "(III)I"⟩
abbrev cX7_takesBox : ByteArray := prog_1_method_39_code
def yX7_takesBox : MethodName := ⟨RX7, "takesBox", "(II)Z"⟩
abbrev cX7_widens : ByteArray := prog_1_method_40_code
def yX7_widens : MethodName := ⟨RX7, "widens", "(II)Z"⟩
abbrev cX7_isWayToWrite : ByteArray := prog_1_method_41_code
def yX7_isWayToWrite : MethodName := ⟨RX7, "isWayToWrite", "(I)Z"⟩
abbrev cX7_isKind : ByteArray := prog_1_method_42_code
def yX7_isKind : MethodName := ⟨RX7, "isKind", "(I)Z"⟩
abbrev cX7_isWord : ByteArray := prog_1_method_43_code
def yX7_isWord : MethodName := ⟨RX7, "isWord", "(J)Z"⟩
abbrev cX7_isView : ByteArray := prog_1_method_44_code
def yX7_isView : MethodName := ⟨RX7, "isView", "(I)Z"⟩
abbrev cX7_isTest : ByteArray := prog_1_method_45_code
def yX7_isTest : MethodName := ⟨RX7, "isTest", "(IIJ)Z"⟩
abbrev cX7_isRow : ByteArray := prog_1_method_46_code
def yX7_isRow : MethodName := ⟨RX7, "isRow", "(I)Z"⟩
abbrev cX7_isStretch : ByteArray := prog_1_method_47_code
def yX7_isStretch : MethodName := ⟨RX7, "isStretch", "(II)Z"⟩
abbrev cX7_makeWritten : ByteArray := prog_1_method_48_code
def yX7_makeWritten : MethodName := ⟨RX7, "makeWritten", "(IIJ)V"⟩
abbrev cX7_isSame : ByteArray := prog_1_method_49_code
def yX7_isSame : MethodName := ⟨RX7, "isSame", "(LColumnCasts$Column;II)Z"⟩
abbrev cX7_emptyCells : ByteArray := prog_1_method_50_code
def yX7_emptyCells : MethodName := ⟨RX7, "emptyCells", "(LColumnCasts$Column;)I"⟩
abbrev cX7_unlikeCells : ByteArray := prog_1_method_51_code
def yX7_unlikeCells : MethodName := ⟨RX7, "unlikeCells", "(LColumnCasts$Column;)I"⟩
abbrev cX7_cellsNotAhead : ByteArray := prog_1_method_52_code
def yX7_cellsNotAhead : MethodName := ⟨RX7, "cellsNotAhead", "(LColumnCasts$Column;)I"⟩
abbrev cX7_insertInOrder : ByteArray := prog_1_method_53_code
def yX7_insertInOrder : MethodName := ⟨RX7, "insertInOrder", "(LColumnCasts$View;)V"⟩
abbrev cX7_isAhead : ByteArray := prog_1_method_54_code
def yX7_isAhead : MethodName := ⟨RX7, "isAhead", "(II)Z"⟩
abbrev cX7_passes : ByteArray := prog_1_method_55_code
def yX7_passes : MethodName := ⟨RX7, "passes", "(LColumnCasts$Filter;I)Z"⟩
abbrev cX7_filtersStood : ByteArray := prog_1_method_56_code
def yX7_filtersStood : MethodName := ⟨RX7, "filtersStood", "(I)I"⟩
abbrev cX7_countLeft : ByteArray := prog_1_method_57_code
def yX7_countLeft : MethodName := ⟨RX7, "countLeft", "(LColumnCasts$View;)V"⟩
abbrev cX7_countFewest : ByteArray := prog_1_method_58_code
def yX7_countFewest : MethodName := ⟨RX7, "countFewest", "()V"⟩
abbrev cX7_filterAt : ByteArray := prog_1_method_59_code
def yX7_filterAt : MethodName := ⟨RX7, "filterAt", "(I)I"⟩
abbrev cX7_isBestNext : ByteArray := prog_1_method_60_code
def yX7_isBestNext : MethodName := ⟨RX7, "isBestNext", "(II)Z"⟩
abbrev cX7_isLead : ByteArray := prog_1_method_61_code
def yX7_isLead : MethodName := ⟨RX7, "isLead", "(LColumnCasts$View;LColumnCasts$Column;I)Z"⟩
abbrev cX7_groupsOf : ByteArray := prog_1_method_62_code
def yX7_groupsOf : MethodName := ⟨RX7, "groupsOf", "(LColumnCasts$View;LColumnCasts$Column;)I"⟩
abbrev cX7_leadOf : ByteArray := prog_1_method_63_code
def yX7_leadOf : MethodName := ⟨RX7, "leadOf", "(LColumnCasts$View;LColumnCasts$Column;I)I"⟩
abbrev cX7_membersOf : ByteArray := prog_1_method_64_code
def yX7_membersOf : MethodName := ⟨RX7, "membersOf", "(LColumnCasts$View;LColumnCasts$Column;I)I"⟩
abbrev cX7_loadSummand : ByteArray := prog_1_method_65_code
def yX7_loadSummand : MethodName := ⟨RX7, "loadSummand", "(LColumnCasts$View;LColumnCasts$Column;ILColumnCasts$Column;I)Z"⟩
abbrev cX7_hasReals : ByteArray := prog_1_method_66_code
def yX7_hasReals : MethodName := ⟨RX7, "hasReals", "(LColumnCasts$View;LColumnCasts$Column;ILColumnCasts$Column;)Z"⟩
abbrev cX7_sumReals : ByteArray := prog_1_method_67_code
def yX7_sumReals : MethodName := ⟨RX7, "sumReals", "(LColumnCasts$View;LColumnCasts$Column;ILColumnCasts$Column;)I"⟩
abbrev cX7_sumWholes : ByteArray := prog_1_method_68_code
def yX7_sumWholes : MethodName := ⟨RX7, "sumWholes", "(LColumnCasts$View;LColumnCasts$Column;ILColumnCasts$Column;)I"⟩
abbrev cX7_boxKindIn : ByteArray := prog_1_method_69_code
def yX7_boxKindIn : MethodName := ⟨RX7, "boxKindIn", "(I)I"⟩
abbrev cX7_firstLost : ByteArray := prog_1_method_70_code
def yX7_firstLost : MethodName := ⟨RX7, "firstLost", "(LColumnCasts$Column;I)I"⟩
abbrev cX7_comesBack : ByteArray := prog_1_method_71_code
def yX7_comesBack : MethodName := ⟨RX7, "comesBack", "(LColumnCasts$Cell;I)Z"⟩
def RX8 : String := "ColumnCastsModel"
def TX8 : u_T := fun k => match k with
  | 0 => ("ColumnCastsModel", "s", "[I", true)
  | 1 => ("ColumnCastsModel", "v", "[J", true)
  | 2 => ("ColumnCastsModel", "keptInts", "[I", true)
  | 3 => ("ColumnCastsModel", "keptLongs", "[J", true)
  | 4 => ("ColumnCastsModel", "isKept", "Z", false)
  | 5 => ("ColumnCastsModel", "got", "J", false)
  | 6 => ("ColumnCastsModel", "refused", "[I", true)
  | 7 => ("ColumnCastsModel", "sorts", "[I", true)
  | 8 => ("ColumnCastsModel", "numbers", "[J", true)
  | 9 => ("ColumnCastsModel", "sets", "[J", true)
  | 10 => ("ColumnCastsModel", "best", "[I", true)
  | 11 => ("ColumnCastsModel", "tried", "[I", true)
  | 12 => ("ColumnCastsModel", "least", "I", false)
  | 13 => ("ColumnCastsModel", "text", "[I", true)
  | 14 => ("ColumnCastsModel", "texted", "I", false)
  | 15 => ("ColumnCastsModel", "at", "I", false)
  | 16 => ("ColumnCastsModel", "fault", "I", false)
  | 17 => ("ColumnCastsModel", "spelled", "[I", true)
  | _ => ("ColumnCastsModel", "length", "I", false)
def tyX8 : Nat → FieldType := fun k => match k with
  | 0 => .array .int
  | 1 => .array .long
  | 2 => .array .int
  | 3 => .array .long
  | 4 => .boolean
  | 5 => .long
  | 6 => .array .int
  | 7 => .array .int
  | 8 => .array .long
  | 9 => .array .long
  | 10 => .array .int
  | 11 => .array .int
  | 12 => .int
  | 13 => .array .int
  | 14 => .int
  | 15 => .int
  | 16 => .int
  | 17 => .array .int
  | _ => .int
abbrev wsX80 : List Cond := u_ws RX8 TX8 19
theorem nmX8 : ∀ a, a < 19 → ∀ b, b < 19 → a ≠ b → (TX8 a).2.1 ≠ (TX8 b).2.1 := by decide +kernel
theorem tyX8_ok : ∀ k, k < 19 → parseFieldDescriptor (TX8 k).2.2.1 = some (tyX8 k) := by decide +kernel
abbrev cX8_init : ByteArray := prog_10_method_1_code
def yX8_init : MethodName := ⟨RX8, "<init>", "()V"⟩
abbrev cX8_isIn : ByteArray := prog_10_method_2_code
def yX8_isIn : MethodName := ⟨RX8, "isIn", "(JJJ)Z"⟩
abbrev cX8_refuses : ByteArray := prog_10_method_3_code
def yX8_refuses : MethodName := ⟨RX8, "refuses", "(I)I"⟩
abbrev cX8_place : ByteArray := prog_10_method_4_code
def yX8_place : MethodName := ⟨RX8, "place", "(II)I"⟩
abbrev cX8_sortAt : ByteArray := prog_10_method_5_code
def yX8_sortAt : MethodName := ⟨RX8, "sortAt", "(II)I"⟩
abbrev cX8_numberAt : ByteArray := prog_10_method_6_code
def yX8_numberAt : MethodName := ⟨RX8, "numberAt", "(II)J"⟩
abbrev cX8_puts : ByteArray := prog_10_method_7_code
def yX8_puts : MethodName := ⟨RX8, "puts", "(IIIJ)V"⟩
abbrev cX8_isRow : ByteArray := prog_10_method_8_code
def yX8_isRow : MethodName := ⟨RX8, "isRow", "(I)Z"⟩
abbrev cX8_amiss : ByteArray := prog_10_method_9_code
def yX8_amiss : MethodName := ⟨RX8, "amiss", "(I)I"⟩
abbrev cX8_kind : ByteArray := prog_10_method_10_code
def yX8_kind : MethodName := ⟨RX8, "kind", "(I)I"⟩
abbrev cX8_renews : ByteArray := prog_10_method_11_code
def yX8_renews : MethodName := ⟨RX8, "renews", "(II)V"⟩
abbrev cX8_size : ByteArray := prog_10_method_12_code
def yX8_size : MethodName := ⟨RX8, "size", "(I)I"⟩
abbrev cX8_comes : ByteArray := prog_10_method_13_code
def yX8_comes : MethodName := ⟨RX8, "comes", "(I)I"⟩
abbrev cX8_column : ByteArray := prog_10_method_14_code
def yX8_column : MethodName := ⟨RX8, "column", "(I)I"⟩
abbrev cX8_drop : ByteArray := prog_10_method_15_code
def yX8_drop : MethodName := ⟨RX8, "drop", "(I)I"⟩
abbrev cX8_kindOf : ByteArray := prog_10_method_16_code
def yX8_kindOf : MethodName := ⟨RX8, "kindOf", "(I)I"⟩
abbrev cX8_widens : ByteArray := prog_10_method_17_code
def yX8_widens : MethodName := ⟨RX8, "widens", "(II)Z"⟩
abbrev cX8_floatOf : ByteArray := prog_10_method_18_code
def yX8_floatOf : MethodName := ⟨RX8, "floatOf", "(J)F"⟩
abbrev cX8_doubleOf : ByteArray := prog_10_method_19_code
def yX8_doubleOf : MethodName := ⟨RX8, "doubleOf", "(J)D"⟩
abbrev cX8_valueOf : ByteArray := prog_10_method_20_code
def yX8_valueOf : MethodName := ⟨RX8, "valueOf", "(IJ)D"⟩
abbrev cX8_ofFloat : ByteArray := prog_10_method_21_code
def yX8_ofFloat : MethodName := ⟨RX8, "ofFloat", "(F)J"⟩
abbrev cX8_ofDouble : ByteArray := prog_10_method_22_code
def yX8_ofDouble : MethodName := ⟨RX8, "ofDouble", "(D)J"⟩
abbrev cX8_castOf : ByteArray := prog_10_method_23_code
def yX8_castOf : MethodName := ⟨RX8, "castOf", "(IJI)J"⟩
abbrev cX8_made : ByteArray := prog_10_method_24_code
def yX8_made : MethodName := ⟨RX8, "made", "(IJ)J"⟩
abbrev cX8_ask : ByteArray := prog_10_method_25_code
def yX8_ask : MethodName := ⟨RX8, "ask", "(III)I"⟩
abbrev cX8_got : ByteArray := prog_10_method_26_code
def yX8_got : MethodName := ⟨RX8, "got", "()J"⟩
abbrev cX8_boxAmiss : ByteArray := prog_10_method_27_code
def yX8_boxAmiss : MethodName := ⟨RX8, "boxAmiss", "(III)I"⟩
abbrev cX8_write : ByteArray := prog_10_method_28_code
def yX8_write : MethodName := ⟨RX8, "write", "(IIIJ)I"⟩
abbrev cX8_bring : ByteArray := prog_10_method_29_code
def yX8_bring : MethodName := ⟨RX8, "bring", "(IIIII)I"⟩
abbrev cX8_isColumn : ByteArray := prog_10_method_30_code
def yX8_isColumn : MethodName := ⟨RX8, "isColumn", "(I)Z"⟩
abbrev cX8_swap : ByteArray := prog_10_method_31_code
def yX8_swap : MethodName := ⟨RX8, "swap", "(II)I"⟩
abbrev cX8_areSame : ByteArray := prog_10_method_32_code
def yX8_areSame : MethodName := ⟨RX8, "areSame", "(IIII)Z"⟩
abbrev cX8_differs : ByteArray := prog_10_method_33_code
def yX8_differs : MethodName := ⟨RX8, "differs", "(II)I"⟩
abbrev cX8_against : ByteArray := prog_10_method_34_code
def yX8_against : MethodName := ⟨RX8, "against", "(DD)I"⟩
abbrev cX8_against_ : ByteArray := prog_10_method_35_code
def yX8_against_ : MethodName := ⟨RX8, "against", "(JJ)I"⟩
abbrev cX8_book : ByteArray := prog_10_method_36_code
def yX8_book : MethodName := ⟨RX8, "book", "(J)I"⟩
abbrev cX8_classOf : ByteArray := prog_10_method_37_code
def yX8_classOf : MethodName := ⟨RX8, "classOf", "(I)I"⟩
abbrev cX8_ranked : ByteArray := prog_10_method_38_code
def yX8_ranked : MethodName := ⟨RX8, "ranked", "(IJIJ)I"⟩
abbrev cX8_held : ByteArray := prog_10_method_39_code
def yX8_held : MethodName := ⟨RX8, "held", "(IJIJ)I"⟩
abbrev cX8_ranked_ : ByteArray := prog_10_method_40_code
def yX8_ranked_ : MethodName := ⟨RX8, "ranked", "(III)I"⟩
abbrev cX8_of : ByteArray := prog_10_method_41_code
def yX8_of : MethodName := ⟨RX8, "of", "(II)I"⟩
abbrev cX8_isView : ByteArray := prog_10_method_42_code
def yX8_isView : MethodName := ⟨RX8, "isView", "(I)Z"⟩
abbrev cX8_seen : ByteArray := prog_10_method_43_code
def yX8_seen : MethodName := ⟨RX8, "seen", "(II)I"⟩
abbrev cX8_view : ByteArray := prog_10_method_44_code
def yX8_view : MethodName := ⟨RX8, "view", "(I)I"⟩
abbrev cX8_viewed : ByteArray := prog_10_method_45_code
def yX8_viewed : MethodName := ⟨RX8, "viewed", "(II)I"⟩
abbrev cX8_isTold : ByteArray := prog_10_method_46_code
def yX8_isTold : MethodName := ⟨RX8, "isTold", "(IIJ)Z"⟩
abbrev cX8_stands : ByteArray := prog_10_method_47_code
def yX8_stands : MethodName := ⟨RX8, "stands", "(IIIIJ)Z"⟩
abbrev cX8_keep : ByteArray := prog_10_method_48_code
def yX8_keep : MethodName := ⟨RX8, "keep", "(IIIIJ)I"⟩
abbrev cX8_key : ByteArray := prog_10_method_49_code
def yX8_key : MethodName := ⟨RX8, "key", "(IZ)I"⟩
abbrev cX8_isAhead : ByteArray := prog_10_method_50_code
def yX8_isAhead : MethodName := ⟨RX8, "isAhead", "(II)Z"⟩
abbrev cX8_sort : ByteArray := prog_10_method_51_code
def yX8_sort : MethodName := ⟨RX8, "sort", "(I)I"⟩
abbrev cX8_filter : ByteArray := prog_10_method_52_code
def yX8_filter : MethodName := ⟨RX8, "filter", "(IIIJ)I"⟩
abbrev cX8_passes : ByteArray := prog_10_method_53_code
def yX8_passes : MethodName := ⟨RX8, "passes", "(II)Z"⟩
abbrev cX8_laysSets : ByteArray := prog_10_method_54_code
def yX8_laysSets : MethodName := ⟨RX8, "laysSets", "(I)V"⟩
abbrev cX8_many : ByteArray := prog_10_method_55_code
def yX8_many : MethodName := ⟨RX8, "many", "(J)I"⟩
abbrev cX8_orders : ByteArray := prog_10_method_56_code
def yX8_orders : MethodName := ⟨RX8, "orders", "(IIJI)V"⟩
abbrev cX8_order : ByteArray := prog_10_method_57_code
def yX8_order : MethodName := ⟨RX8, "order", "(II)I"⟩
abbrev cX8_looked : ByteArray := prog_10_method_58_code
def yX8_looked : MethodName := ⟨RX8, "looked", "(I)I"⟩
abbrev cX8_run : ByteArray := prog_10_method_59_code
def yX8_run : MethodName := ⟨RX8, "run", "(I)I"⟩
abbrev cX8_pair : ByteArray := prog_10_method_60_code
def yX8_pair : MethodName := ⟨RX8, "pair", "(III)I"⟩
abbrev cX8_grouped : ByteArray := prog_10_method_61_code
def yX8_grouped : MethodName := ⟨RX8, "grouped", "(III)I"⟩
abbrev cX8_group : ByteArray := prog_10_method_62_code
def yX8_group : MethodName := ⟨RX8, "group", "(IIII)I"⟩
abbrev cX8_sum : ByteArray := prog_10_method_63_code
def yX8_sum : MethodName := ⟨RX8, "sum", "(IIII)I"⟩
abbrev cX8_sortBy : ByteArray := prog_10_method_64_code
def yX8_sortBy : MethodName := ⟨RX8, "sortBy", "(II)I"⟩
abbrev cX8_numberBy : ByteArray := prog_10_method_65_code
def yX8_numberBy : MethodName := ⟨RX8, "numberBy", "(IJI)J"⟩
abbrev cX8_comesBack : ByteArray := prog_10_method_66_code
def yX8_comesBack : MethodName := ⟨RX8, "comesBack", "(III)Z"⟩
abbrev cX8_lost : ByteArray := prog_10_method_67_code
def yX8_lost : MethodName := ⟨RX8, "lost", "(II)I"⟩
abbrev cX8_loses : ByteArray := prog_10_method_68_code
def yX8_loses : MethodName := ⟨RX8, "loses", "(II)I"⟩
abbrev cX8_casts : ByteArray := prog_10_method_69_code
def yX8_casts : MethodName := ⟨RX8, "casts", "(I)I"⟩
abbrev cX8_cast : ByteArray := prog_10_method_70_code
def yX8_cast : MethodName := ⟨RX8, "cast", "(II)I"⟩
abbrev cX8_feed : ByteArray := prog_10_method_71_code
def yX8_feed : MethodName := ⟨RX8, "feed", "(I)I"⟩
abbrev cX8_here : ByteArray := prog_10_method_72_code
def yX8_here : MethodName := ⟨RX8, "here", "()I"⟩
abbrev cX8_fails : ByteArray := prog_10_method_73_code
def yX8_fails : MethodName := ⟨RX8, "fails", "()V"⟩
abbrev cX8_takes : ByteArray := prog_10_method_74_code
def yX8_takes : MethodName := ⟨RX8, "takes", "(I)Z"⟩
abbrev cX8_number : ByteArray := prog_10_method_75_code
def yX8_number : MethodName := ⟨RX8, "number", "()J"⟩
abbrev cX8_word : ByteArray := prog_10_method_76_code
def yX8_word : MethodName := ⟨RX8, "word", "()J"⟩
abbrev cX8_item : ByteArray := prog_10_method_77_code
def yX8_item : MethodName := ⟨RX8, "item", "(II)V"⟩
abbrev cX8_read : ByteArray := prog_10_method_78_code
def yX8_read : MethodName := ⟨RX8, "read", "()I"⟩
abbrev cX8_writes : ByteArray := prog_10_method_79_code
def yX8_writes : MethodName := ⟨RX8, "writes", "(I)V"⟩
abbrev cX8_writesNumber : ByteArray := prog_10_method_80_code
def yX8_writesNumber : MethodName := ⟨RX8, "writesNumber", "(J)V"⟩
abbrev cX8_writesCell : ByteArray := prog_10_method_81_code
def yX8_writesCell : MethodName := ⟨RX8, "writesCell", "(IIJ)V"⟩
abbrev cX8_spelled : ByteArray := prog_10_method_82_code
def yX8_spelled : MethodName := ⟨RX8, "spelled", "(II)I"⟩
abbrev cX8_image : ByteArray := prog_10_method_83_code
def yX8_image : MethodName := ⟨RX8, "image", "()I"⟩
abbrev cX8_undo : ByteArray := prog_10_method_84_code
def yX8_undo : MethodName := ⟨RX8, "undo", "()I"⟩
abbrev cX8_count : ByteArray := prog_10_method_85_code
def yX8_count : MethodName := ⟨RX8, "count", "(I)I"⟩
def RJ11 : String := "java/lang/Character"
def TJ11 : u_T := fun k => match k with
  | _ => ("", "", "", false)
def tyJ11 : Nat → FieldType := fun k => match k with
  | _ => .int
abbrev wsJ110 : List Cond := u_ws RJ11 TJ11 0
theorem nmJ11 : ∀ a, a < 0 → ∀ b, b < 0 → a ≠ b → (TJ11 a).2.1 ≠ (TJ11 b).2.1 := by decide +kernel
theorem tyJ11_ok : ∀ k, k < 0 → parseFieldDescriptor (TJ11 k).2.2.1 = some (tyJ11 k) := by decide +kernel
abbrev cJ11_isValidCodePoint_9a6ad : ByteArray := prog_11_method_11_code
def yJ11_isValidCodePoint_9a6ad : MethodName := ⟨RJ11, "isValidCodePoint", "(I)Z"⟩
abbrev cJ11_highSurrogate_5068e : ByteArray := prog_11_method_28_code
def yJ11_highSurrogate_5068e : MethodName := ⟨RJ11, "highSurrogate", "(I)C"⟩
abbrev cJ11_lowSurrogate_5068e : ByteArray := prog_11_method_29_code
def yJ11_lowSurrogate_5068e : MethodName := ⟨RJ11, "lowSurrogate", "(I)C"⟩
def RJxe99ae : String := "java/lang/Double"
def TJxe99ae : u_T := fun k => match k with
  | _ => ("", "", "", false)
def tyJxe99ae : Nat → FieldType := fun k => match k with
  | _ => .int
abbrev wsJxe99ae0 : List Cond := u_ws RJxe99ae TJxe99ae 0
theorem nmJxe99ae : ∀ a, a < 0 → ∀ b, b < 0 → a ≠ b → (TJxe99ae a).2.1 ≠ (TJxe99ae b).2.1 := by decide +kernel
theorem tyJxe99ae_ok : ∀ k, k < 0 → parseFieldDescriptor (TJxe99ae k).2.2.1 = some (tyJxe99ae k) := by decide +kernel
abbrev cJxe99ae_isNaN_b9ae7 : ByteArray := prog_12_method_6_code
def yJxe99ae_isNaN_b9ae7 : MethodName := ⟨RJxe99ae, "isNaN", "(D)Z"⟩
abbrev cJxe99ae_doubleToLongBits_ccdee : ByteArray := prog_12_method_23_code
def yJxe99ae_doubleToLongBits_ccdee : MethodName := ⟨RJxe99ae, "doubleToLongBits", "(D)J"⟩
def RJxf58ca : String := "java/lang/Float"
def TJxf58ca : u_T := fun k => match k with
  | _ => ("", "", "", false)
def tyJxf58ca : Nat → FieldType := fun k => match k with
  | _ => .int
abbrev wsJxf58ca0 : List Cond := u_ws RJxf58ca TJxf58ca 0
theorem nmJxf58ca : ∀ a, a < 0 → ∀ b, b < 0 → a ≠ b → (TJxf58ca a).2.1 ≠ (TJxf58ca b).2.1 := by decide +kernel
theorem tyJxf58ca_ok : ∀ k, k < 0 → parseFieldDescriptor (TJxf58ca k).2.2.1 = some (tyJxf58ca k) := by decide +kernel
abbrev cJxf58ca_isNaN_12338 : ByteArray := prog_13_method_6_code
def yJxf58ca_isNaN_12338 : MethodName := ⟨RJxf58ca, "isNaN", "(F)Z"⟩
abbrev cJxf58ca_floatToIntBits_5c35a : ByteArray := prog_13_method_24_code
def yJxf58ca_floatToIntBits_5c35a : MethodName := ⟨RJxf58ca, "floatToIntBits", "(F)I"⟩
def RJ6 : String := "java/lang/Integer"
def TJ6 : u_T := fun k => match k with
  | _ => ("", "", "", false)
def tyJ6 : Nat → FieldType := fun k => match k with
  | _ => .int
abbrev wsJ60 : List Cond := u_ws RJ6 TJ6 0
theorem nmJ6 : ∀ a, a < 0 → ∀ b, b < 0 → a ≠ b → (TJ6 a).2.1 ≠ (TJ6 b).2.1 := by decide +kernel
theorem tyJ6_ok : ∀ k, k < 0 → parseFieldDescriptor (TJ6 k).2.2.1 = some (tyJ6 k) := by decide +kernel
abbrev cJ6_compare_7cf53 : ByteArray := prog_14_method_40_code
def yJ6_compare_7cf53 : MethodName := ⟨RJ6, "compare", "(II)I"⟩
def RJ13 : String := "java/lang/Long"
def TJ13 : u_T := fun k => match k with
  | _ => ("", "", "", false)
def tyJ13 : Nat → FieldType := fun k => match k with
  | _ => .int
abbrev wsJ130 : List Cond := u_ws RJ13 TJ13 0
theorem nmJ13 : ∀ a, a < 0 → ∀ b, b < 0 → a ≠ b → (TJ13 a).2.1 ≠ (TJ13 b).2.1 := by decide +kernel
theorem tyJ13_ok : ∀ k, k < 0 → parseFieldDescriptor (TJ13 k).2.2.1 = some (tyJ13 k) := by decide +kernel
abbrev cJ13_compare_74951 : ByteArray := prog_15_method_42_code
def yJ13_compare_74951 : MethodName := ⟨RJ13, "compare", "(JJ)I"⟩
def RJ9 : String := "java/lang/Math"
def TJ9 : u_T := fun k => match k with
  | _ => ("", "", "", false)
def tyJ9 : Nat → FieldType := fun k => match k with
  | _ => .int
abbrev wsJ90 : List Cond := u_ws RJ9 TJ9 0
theorem nmJ9 : ∀ a, a < 0 → ∀ b, b < 0 → a ≠ b → (TJ9 a).2.1 ≠ (TJ9 b).2.1 := by decide +kernel
theorem tyJ9_ok : ∀ k, k < 0 → parseFieldDescriptor (TJ9 k).2.2.1 = some (tyJ9 k) := by decide +kernel
abbrev cJ9_max_7cf53 : ByteArray := prog_16_method_65_code
def yJ9_max_7cf53 : MethodName := ⟨RJ9, "max", "(II)I"⟩
abbrev cJ9_min_7cf53 : ByteArray := prog_16_method_69_code
def yJ9_min_7cf53 : MethodName := ⟨RJ9, "min", "(II)I"⟩
def RJ0 : String := "java/lang/String"
def TJ0 : u_T := fun k => match k with
  | _ => ("", "", "", false)
def tyJ0 : Nat → FieldType := fun k => match k with
  | _ => .int
abbrev wsJ00 : List Cond := u_ws RJ0 TJ0 0
theorem nmJ0 : ∀ a, a < 0 → ∀ b, b < 0 → a ≠ b → (TJ0 a).2.1 ≠ (TJ0 b).2.1 := by decide +kernel
theorem tyJ0_ok : ∀ k, k < 0 → parseFieldDescriptor (TJ0 k).2.2.1 = some (tyJ0 k) := by decide +kernel
abbrev cJ0_length_8abf5 : ByteArray := prog_17_method_54_code
def yJ0_length_8abf5 : MethodName := ⟨RJ0, "length", "()I"⟩
abbrev cJ0_charAt_5068e : ByteArray := prog_17_method_56_code
def yJ0_charAt_5068e : MethodName := ⟨RJ0, "charAt", "(I)C"⟩
abbrev cJ0_indexOf_0f7a4 : ByteArray := prog_17_method_79_code
def yJ0_indexOf_0f7a4 : MethodName := ⟨RJ0, "indexOf", "(I)I"⟩
abbrev cJ0_indexOf_7cf53 : ByteArray := prog_17_method_80_code
def yJ0_indexOf_7cf53 : MethodName := ⟨RJ0, "indexOf", "(II)I"⟩
abbrev cJ0_coder_7d493 : ByteArray := prog_17_method_152_code
def yJ0_coder_7d493 : MethodName := ⟨RJ0, "coder", "()B"⟩
abbrev cJ0_isLatin1_aae02 : ByteArray := prog_17_method_154_code
def yJ0_isLatin1_aae02 : MethodName := ⟨RJ0, "isLatin1", "()Z"⟩
abbrev cJ0_checkIndex_df160 : ByteArray := prog_17_method_155_code
def yJ0_checkIndex_df160 : MethodName := ⟨RJ0, "checkIndex", "(II)V"⟩
abbrev cJ0_checkBoundsBeginEnd_23922 : ByteArray := prog_17_method_158_code
def yJ0_checkBoundsBeginEnd_23922 : MethodName := ⟨RJ0, "checkBoundsBeginEnd", "(III)V"⟩
def RJ1 : String := "java/lang/StringLatin1"
def TJ1 : u_T := fun k => match k with
  | _ => ("", "", "", false)
def tyJ1 : Nat → FieldType := fun k => match k with
  | _ => .int
abbrev wsJ10 : List Cond := u_ws RJ1 TJ1 0
theorem nmJ1 : ∀ a, a < 0 → ∀ b, b < 0 → a ≠ b → (TJ1 a).2.1 ≠ (TJ1 b).2.1 := by decide +kernel
theorem tyJ1_ok : ∀ k, k < 0 → parseFieldDescriptor (TJ1 k).2.2.1 = some (tyJ1 k) := by decide +kernel
abbrev cJ1_charAt_3b067 : ByteArray := prog_18_method_2_code
def yJ1_charAt_3b067 : MethodName := ⟨RJ1, "charAt", "([BI)C"⟩
abbrev cJ1_canEncode_9a6ad : ByteArray := prog_18_method_4_code
def yJ1_canEncode_9a6ad : MethodName := ⟨RJ1, "canEncode", "(I)Z"⟩
abbrev cJ1_indexOf_4cfef : ByteArray := prog_18_method_22_code
def yJ1_indexOf_4cfef : MethodName := ⟨RJ1, "indexOf", "([BIII)I"⟩
abbrev cJ1_indexOfChar_4cfef : ByteArray := prog_18_method_23_code
def yJ1_indexOfChar_4cfef : MethodName := ⟨RJ1, "indexOfChar", "([BIII)I"⟩
def RJ2 : String := "java/lang/StringUTF16"
def TJ2 : u_T := fun k => match k with
  | _ => ("", "", "", false)
def tyJ2 : Nat → FieldType := fun k => match k with
  | _ => .int
abbrev wsJ20 : List Cond := u_ws RJ2 TJ2 0
theorem nmJ2 : ∀ a, a < 0 → ∀ b, b < 0 → a ≠ b → (TJ2 a).2.1 ≠ (TJ2 b).2.1 := by decide +kernel
theorem tyJ2_ok : ∀ k, k < 0 → parseFieldDescriptor (TJ2 k).2.2.1 = some (tyJ2 k) := by decide +kernel
abbrev cJ2_getChar_3b067 : ByteArray := prog_19_method_5_code
def yJ2_getChar_3b067 : MethodName := ⟨RJ2, "getChar", "([BI)C"⟩
abbrev cJ2_length_9d52b : ByteArray := prog_19_method_6_code
def yJ2_length_9d52b : MethodName := ⟨RJ2, "length", "([B)I"⟩
abbrev cJ2_indexOf_4cfef : ByteArray := prog_19_method_40_code
def yJ2_indexOf_4cfef : MethodName := ⟨RJ2, "indexOf", "([BIII)I"⟩
abbrev cJ2_indexOfChar_4cfef : ByteArray := prog_19_method_47_code
def yJ2_indexOfChar_4cfef : MethodName := ⟨RJ2, "indexOfChar", "([BIII)I"⟩
abbrev cJ2_indexOfCharUnsafe_4cfef : ByteArray := prog_19_method_48_code
def yJ2_indexOfCharUnsafe_4cfef : MethodName := ⟨RJ2, "indexOfCharUnsafe", "([BIII)I"⟩
abbrev cJ2_indexOfSupplementary_4cfef : ByteArray := prog_19_method_49_code
def yJ2_indexOfSupplementary_4cfef : MethodName := ⟨RJ2, "indexOfSupplementary", "([BIII)I"⟩
abbrev cJ2_charAt_3b067 : ByteArray := prog_19_method_83_code
def yJ2_charAt_3b067 : MethodName := ⟨RJ2, "charAt", "([BI)C"⟩
abbrev cJ2_checkIndex_2214a : ByteArray := prog_19_method_91_code
def yJ2_checkIndex_2214a : MethodName := ⟨RJ2, "checkIndex", "(I[B)V"⟩
abbrev cJ2_checkBoundsBeginEnd_d044e : ByteArray := prog_19_method_93_code
def yJ2_checkBoundsBeginEnd_d044e : MethodName := ⟨RJ2, "checkBoundsBeginEnd", "(II[B)V"⟩
def RJ10 : String := "java/lang/System"
def TJ10 : u_T := fun k => match k with
  | _ => ("", "", "", false)
def tyJ10 : Nat → FieldType := fun k => match k with
  | _ => .int
abbrev wsJ100 : List Cond := u_ws RJ10 TJ10 0
theorem nmJ10 : ∀ a, a < 0 → ∀ b, b < 0 → a ≠ b → (TJ10 a).2.1 ≠ (TJ10 b).2.1 := by decide +kernel
theorem tyJ10_ok : ∀ k, k < 0 → parseFieldDescriptor (TJ10 k).2.2.1 = some (tyJ10 k) := by decide +kernel
def RJ3 : String := "jdk/internal/util/Preconditions"
def TJ3 : u_T := fun k => match k with
  | _ => ("", "", "", false)
def tyJ3 : Nat → FieldType := fun k => match k with
  | _ => .int
abbrev wsJ30 : List Cond := u_ws RJ3 TJ3 0
theorem nmJ3 : ∀ a, a < 0 → ∀ b, b < 0 → a ≠ b → (TJ3 a).2.1 ≠ (TJ3 b).2.1 := by decide +kernel
theorem tyJ3_ok : ∀ k, k < 0 → parseFieldDescriptor (TJ3 k).2.2.1 = some (tyJ3 k) := by decide +kernel
abbrev cJ3_checkIndex_8e157 : ByteArray := prog_21_method_11_code
def yJ3_checkIndex_8e157 : MethodName := ⟨RJ3, "checkIndex", "(IILjava/util/function/BiFunction;)I"⟩
abbrev cJ3_checkFromToIndex_8c36e : ByteArray := prog_21_method_12_code
def yJ3_checkFromToIndex_8c36e : MethodName := ⟨RJ3, "checkFromToIndex", "(IIILjava/util/function/BiFunction;)I"⟩
def RL : String := "ColumnCastsLaw"
abbrev cL_law : ByteArray := code
abbrev vwCl : List vw_C := [(RX0, TX0, 3), (RX1, TX1, 5), (RX2, TX2, 3), (RX3, TX3, 2), (RX4, TX4, 9), (RX5, TX5, 4), (RX6, TX6, 2), (RX7, TX7, 19), (RX8, TX8, 19)]
end
section
/-! ===== THE MINI MACHINE: memory, world, what a run from a point comes to ===== -/
abbrev mmMem : Type := (Nat → Nat → Int32) × (Nat → Nat → Int64) × (Nat → Nat → UInt64)
abbrev mmMi : Type := MethodName × ByteArray × Nat × Option FieldType
abbrev mmMI : Type := Nat × Instr × Nat × Nat × Nat × Nat × Value × mmMi
def mmTab : List Nat := [4, 14, 15, 10, 13, 16] ++ (List.replicate 12 [1, 10, 11, 12]).flatten ++ (List.replicate 2 [6, 10]).flatten ++ (List.replicate 6 [2, 0]).flatten
def mmKDl : List Nat := [7] ++ mmTab ++ mmTab ++ [5, 10, 0, 3, 10, 1, 10, 11, 12, 2, 0, 0, 0, 0, 10, 13, 10, 10, 10] ++ [8, 10, 11, 10, 11, 10, 10, 11, 11, 10, 10, 10, 10]
def mmTabL : List Nat := [0, 12, 2, 4, 4, 6] ++ (List.replicate 12 [0, 40, 40, 40]).flatten ++ (List.replicate 2 [0, 40]).flatten ++ (List.replicate 6 [0, 0]).flatten
def mmLENl : List Nat := [0] ++ mmTabL ++ mmTabL ++ [0, 100, 0, 0, 1000, 0, 40, 40, 40, 0, 0, 0, 0, 0, 40, 40, 40, 64, 64] ++ [0, 616, 486, 616, 486, 3, 40, 40, 7, 6, 6, 100, 1000]
/-- the kind of the cell at a place: 0 .. 8 an object of that class, 10 .. 13 a row of ints, longs, doubles, booleans, 14 .. 16 of columns, views, filters -/
def mmKD (a : Nat) : Nat := mmKDl.getD a 99
def mmLEN (a : Nat) : Nat := mmLENl.getD a 0
def mmNF (ci : Nat) : Nat := [3, 5, 3, 2, 9, 4, 2, 19, 19].getD ci 0
/-- the sort of a field: 0 int, 1 long, 2 double, 3 a reference -/
def mmFT (ci k : Nat) : Nat := ([[0, 1, 2], [0, 0, 3, 3, 3], [0, 0, 3], [0, 3], [0, 0, 0, 0, 3, 3, 3, 3, 3], [0, 0, 3, 3], [0, 3], [3, 3, 0, 3, 3, 3, 3, 3, 3, 3, 3, 3, 3, 3, 3, 1, 0, 0, 0], [3, 3, 3, 3, 0, 1, 3, 3, 3, 3, 3, 3, 0, 3, 0, 0, 0, 3, 0]].getD ci []).getD k 9
/-- where a reference leads: they never move -/
def mmRF (kd a i : Nat) : Nat := match kd with
  | 1 => a + (i - 1)
  | 2 => a + 1
  | 3 => a + 1
  | 4 => a + (i - 3)
  | 5 => a + (i - 1)
  | 6 => a + 1
  | 7 => [1, 71, 0, 141, 144, 146, 150, 152, 153, 154, 155, 156, 157, 158, 159].getD i 0
  | 8 => [161, 162, 163, 164, 0, 0, 165, 166, 167, 168, 169, 170, 0, 171, 0, 0, 0, 172].getD i 0
  | 14 => a + 5 + 4 * i
  | 15 => a + 52 + 2 * i
  | _ => a + 53 + 2 * i
def mmFV (B : Nat) (μ : mmMem) (a ci k : Nat) : Value := match mmFT ci k with
  | 0 => .int (μ.1 a k)
  | 1 => .long (μ.2.1 a k)
  | 2 => .double (μ.2.2 a k)
  | _ => .ref (B + mmRF ci a k)
def mmE (B : Nat) (cA : Nat → ClassId) (μ : mmMem) (a : Nat) : va_E := match mmKD a with
  | 10 => .inl (cA 0, mmLEN a, .inl (μ.1 a))
  | 11 => .inl (cA 1, mmLEN a, .inr (.inl (μ.2.1 a)))
  | 12 => .inl (cA 2, mmLEN a, .inr (.inr (.inr (.inl (μ.2.2 a)))))
  | 13 => .inl (cA 3, mmLEN a, .inl (μ.1 a))
  | 14 => .inl (cA 4, mmLEN a, .inr (.inr (.inr (.inr fun i => some (B + mmRF 14 a i)))))
  | 15 => .inl (cA 5, mmLEN a, .inr (.inr (.inr (.inr fun i => some (B + mmRF 15 a i)))))
  | 16 => .inl (cA 6, mmLEN a, .inr (.inr (.inr (.inr fun i => some (B + mmRF 16 a i)))))
  | ci => .inr (ci, (List.range (mmNF ci)).map (mmFV B μ a ci))
def mmW (B : Nat) (cA : Nat → ClassId) (μ : mmMem) : va_W := (List.range 173).map fun a => (B + a, mmE B cA μ a)
def mmTys (cA : Nat → ClassId) : List (ClassId × FieldType) := [(cA 0, .int), (cA 1, .long), (cA 2, .double), (cA 3, .boolean), (cA 4, .object RX1), (cA 5, .object RX6), (cA 6, .object RX2)]
def sI (μ : mmMem) (a i : Nat) (x : Int32) : mmMem := (fun b => if b = a then upd (μ.1 a) i x else μ.1 b, μ.2)
def sJ (μ : mmMem) (a i : Nat) (x : Int64) : mmMem := (μ.1, fun b => if b = a then vp_updL (μ.2.1 a) i x else μ.2.1 b, μ.2.2)
def sD (μ : mmMem) (a i : Nat) (x : UInt64) : mmMem := (μ.1, μ.2.1, fun b => if b = a then vf_upd (μ.2.2 a) i x else μ.2.2 b)
def cI (μ : mmMem) (a b sp dp n : Nat) : mmMem := (fun q => if q = b then va_cpy (μ.1 a) (μ.1 b) sp dp n else μ.1 q, μ.2)
def cJ (μ : mmMem) (a b sp dp n : Nat) : mmMem := (μ.1, fun q => if q = b then va_cpy (μ.2.1 a) (μ.2.1 b) sp dp n else μ.2.1 q, μ.2.2)
def cD (μ : mmMem) (a b sp dp n : Nat) : mmMem := (μ.1, μ.2.1, fun q => if q = b then va_cpy (μ.2.2 a) (μ.2.2 b) sp dp n else μ.2.2 q)
theorem mmKD_lt {a : Nat} (h : mmKD a < 99) : a < 173 := by
  rcases Nat.lt_or_ge a 173 with q | q
  · exact q
  · exfalso
    have hl : mmKDl.length = 173 := by decide +kernel
    have : mmKD a = 99 := by
      unfold mmKD
      rw [List.getD_eq_getElem?_getD, List.getElem?_eq_none (by rw [hl]; exact q)]
      rfl
    omega
theorem mmW_get {B : Nat} {cA : Nat → ClassId} {μ : mmMem} {a : Nat} (h : a < 173) : (mmW B cA μ)[a]? = some (B + a, mmE B cA μ a) := by
  simp [mmW, h]
theorem mmW_inv {B : Nat} {cA : Nat → ClassId} {μ : mmMem} {k : Nat} {q : Nat × va_E} (h : (mmW B cA μ)[k]? = some q) : k < 173 ∧ q.1 = B + k := by
  have hk : k < 173 := by
    have h1 := (List.getElem?_eq_some_iff.mp h).1
    simpa [mmW] using h1
  rw [mmW_get hk] at h
  cases h
  exact ⟨hk, rfl⟩
theorem mmW_D {B : Nat} {cA : Nat → ClassId} {μ : mmMem} : va_D (fun q => B ≤ q) (mmW B cA μ) := by
  refine ⟨fun i j p q hi hj h => ?_, fun k q hk => ?_⟩
  · have h1 := (mmW_inv hi).2
    have h2 := (mmW_inv hj).2
    omega
  · have h1 := (mmW_inv hk).2
    show B ≤ q.1
    omega
theorem mm_mapset {α : Type} {n a : Nat} {f g : Nat → α} {y : α} (ha : a < n) (h : ∀ b, b ≠ a → f b = g b) (hy : y = g a) : ((List.range n).map f).set a y = (List.range n).map g := by
  refine List.ext_getElem (by simp) (fun i h1 h2 => ?_)
  simp only [List.getElem_set, List.getElem_map, List.getElem_range]
  by_cases hi : a = i
  · subst hi
    simp [hy]
  · rw [if_neg hi]
    exact h i (fun q => hi q.symm)
theorem mmE_of {B : Nat} {cA : Nat → ClassId} {μ ν : mmMem} {b : Nat} (h1 : μ.1 b = ν.1 b) (h2 : μ.2.1 b = ν.2.1 b) (h3 : μ.2.2 b = ν.2.2 b) : mmE B cA μ b = mmE B cA ν b := by
  unfold mmE
  have hf : ∀ ci, mmFV B μ b ci = mmFV B ν b ci := fun ci => by
    funext k
    simp only [mmFV, h1, h2, h3]
  split <;> simp only [h1, h2, h3, hf]
theorem mmW_set {B : Nat} {cA : Nat → ClassId} {μ ν : mmMem} {a : Nat} {e : va_E} (ha : a < 173) (h1 : ∀ b, b ≠ a → μ.1 b = ν.1 b) (h2 : ∀ b, b ≠ a → μ.2.1 b = ν.2.1 b) (h3 : ∀ b, b ≠ a → μ.2.2 b = ν.2.2 b) (he : e = mmE B cA ν a) : (mmW B cA μ).set a (B + a, e) = mmW B cA ν := by
  refine mm_mapset ha (fun b hb => ?_) (by rw [he])
  rw [mmE_of (h1 b hb) (h2 b hb) (h3 b hb)]
theorem mmE_obj {B : Nat} {cA : Nat → ClassId} {μ : mmMem} {a ci : Nat} (h : mmKD a = ci) (hc : ci < 10) : mmE B cA μ a = .inr (ci, (List.range (mmNF ci)).map (mmFV B μ a ci)) := by
  unfold mmE
  rw [h]
  split <;> first | (exfalso; omega) | rfl
/-- values: references are told from the base on; the String constant is .retAddr -/
def mmV (B : Nat) (sk : Nat → Nat) : Value → Value
  | .ref k => .ref (B + k)
  | .retAddr _ => .ref (sk 0)
  | v => v
theorem mmV_cat (B : Nat) (sk : Nat → Nat) (v : Value) (h : v.category = 1) : (mmV B sk v).category = 1 := by
  cases v <;> first | rfl | exact h
def mmT : List Cond := lw_tbl.filter goodWord
theorem mm_in (i : Nat) {w : Cond} (h : lw_tbl[i]? = some w) (hg : goodWord w = true) : w ∈ mmT := List.mem_filter.mpr ⟨List.mem_of_getElem? h, hg⟩
theorem mm_good : GoodIn lw_tbl mmT := fun w hw => ⟨(List.mem_filter.mp hw).1, good_of_word (List.mem_filter.mp hw).2⟩
theorem mm_goodT : GoodIn mmT mmT := fun w hw => ⟨hw, good_of_word (List.mem_filter.mp hw).2⟩
def mmWs (M : mmMi) : List Cond := .code M.1 M.2.1 M.2.2.1 M.2.2.2 :: mmT
def mmRm (d : Nat) : Room := { frames := d, cells := 0, slots := 0, locals := 100 * d }
def mmNest : List (String × Nat × MethodName) := [(RX4, 37, yX1_init), (RX4, 38, yX6_init), (RX4, 39, yX2_init), (RX2, 11, yX0_init), (RX7, 21, yX5_init), (RX5, 17, yX0_init), (RX7, 28, yX3_init), (RX7, 35, yX1_init), (RX7, 42, yX2_init), (RX7, 49, yX0_init), (RX5, 76, yX7_boxKindIn)]
/-- what stands of a state, whatever the memory -/
def mmS (B : Nat) (H0 : Heap) (sk sv : Nat → Nat) (D : va_G) (cA : Nat → ClassId) (U : State) : Prop :=
  H0.size = B ∧ va_K D vwCl (mmTys cA) U ∧ vk_R RX5 51 "zbcsilfdwon" (sk 0) U ∧ vk_R RX3 26 "zbcsilfdwon" (sk 0) U ∧ vk_R RX8 282 "zbcsilfdwon" (sk 0) U ∧
  vk_S 1 [11] [[122, 98, 99, 115, 105, 108, 102, 100, 119, 111, 110]] sk sv (fun q => B ≤ q) U H0 ∧ va_Z "java/lang/String" "COMPACT_STRINGS" "Z" (.int 1) (fun q => B ≤ q) U H0 ∧
  (∃ v, (v = .null ∨ ∃ t, v = .ref t) ∧ va_Z "jdk/internal/util/Preconditions" "SIOOBE_FORMATTER" "Ljava/util/function/BiFunction;" v (fun q => B ≤ q) U H0) ∧
  ∀ q ∈ mmNest, va_Nw (.methodLinkNest q.1 q.2.1 q.2.2 "ColumnCasts") U
theorem mmS.warm {B : Nat} {H0 : Heap} {sk sv : Nat → Nat} {D : va_G} {cA : Nat → ClassId} {s U : State} (hW : s.WarmedH U.vm) (h : mmS B H0 sk sv D cA s) : mmS B H0 sk sv D cA U := by
  obtain ⟨h0, h1, h2, h3, h4, h5, h6, ⟨v, hv, h7⟩, h8⟩ := h
  exact ⟨h0, va_K.moved hW.alike h1, vk_R.warm hW h2, vk_R.warm hW h3, vk_R.warm hW h4, vk_S.moved hW.alike h5, va_Z.moved hW.alike h6, ⟨v, hv, va_Z.moved hW.alike h7⟩, fun q hq => va_Nw.warmM hW (h8 q hq)⟩
theorem mmS.same {B : Nat} {H0 : Heap} {sk sv : Nat → Nat} {D : va_G} {cA : Nat → ClassId} {s U : State} (hv : U.vm = s.vm) (h : mmS B H0 sk sv D cA s) : mmS B H0 sk sv D cA U := by
  obtain ⟨h0, h1, h2, h3, h4, h5, h6, ⟨v, hvv, h7⟩, h8⟩ := h
  have hA : s.vm.Alike U.vm := by rw [hv]; exact Vm.Alike.refl s.vm
  exact ⟨h0, va_K.moved hA h1, vk_R.same hv h2, vk_R.same hv h3, vk_R.same hv h4, vk_S.moved hA h5, va_Z.moved hA h6, ⟨v, hvv, va_Z.moved hA h7⟩, fun q hq => va_Nw.same rfl hv.symm (h8 q hq)⟩
/-- the heap holds the memory, and below the base it is as it was -/
def mmH (B : Nat) (H0 : Heap) (D : va_G) (cA : Nat → ClassId) (μ : mmMem) (H : Heap) : Prop := H.size = B + 173 ∧ (∀ q : Nat, q < B → H[q]? = H0[q]?) ∧ va_P D vwCl (mmW B cA μ) H
def mmPc (B : Nat) (H0 : Heap) (sk sv : Nat → Nat) (D : va_G) (cA : Nat → ClassId) (as : List Value) (μ : mmMem) : Array Value → State → Prop := fun a U => a = (as.map (mmV B sk)).toArray ∧ mmH B H0 D cA μ U.heap ∧ mmS B H0 sk sv D cA U
def mmQc (B : Nat) (H0 : Heap) (sk : Nat → Nat) (D : va_G) (cA : Nat → ClassId) (P : Option Value → mmMem → Prop) : Array Value → State → Outcome → State → Prop := fun _ _ oc t => ∃ (v : Option Value) (ν : mmMem), oc = .returned (v.map (mmV B sk)) ∧ P v ν ∧ mmH B H0 D cA ν t.heap
/-- a call of M, at depth d: comes back, and what it answers and leaves is as P says -/
def mmCall (d : Nat) (M : mmMi) (as : List Value) (μ : mmMem) (P : Option Value → mmMem → Prop) : Prop :=
  ∀ (l : Launch) (B : Nat) (H0 : Heap) (sk sv : Nat → Nat) (D : va_G) (cA : Nat → ClassId), Met l M.1 (mmWs M) (mmRm d) (mmPc B H0 sk sv D cA as μ) (mmQc B H0 sk D cA P) 0 0 (fun q => B ≤ q)
/-- what a callee's words say, virtual (st = false) or static, n parameters -/
def mmGd (M : mmMi) (st : Bool) (n : Nat) : Prop := Cond.code M.1 M.2.1 M.2.2.1 M.2.2.2 ∈ mmT ∧ Cond.initialized M.1.cls ∈ mmT ∧ (M.1.cls ≠ "java/lang/invoke/MethodHandle" ∧ M.1.cls ≠ "java/lang/invoke/VarHandle" ∧ (parseMethodDescriptor M.1.desc).map (fun d => d.parameters.length) = some n) ∧ M.2.2.1 ≤ 60 ∧
  (if st = true then Cond.static M.1 ∈ mmT else (Cond.instanceMethod M.1 ∈ mmT ∧ Cond.selects M.1.cls M.1 M.1 ∈ mmT))
def mmCU (d : Nat) (M : mmMi) (st : Bool) (n : Nat) (as : List Value) (μ : mmMem) (P : Option Value → mmMem → Prop) : Prop := mmGd M st n ∧ as.length = (match st with | true => n | false => n + 1) ∧ ∃ d', d' < d ∧ ∃ P' : Option Value → mmMem → Prop, (∀ v ν, P' v ν → P v ν) ∧ mmCall d' M as μ P'
/-! the same by what comes back -/
def mmP0 (K : mmMem → Prop) : Option Value → mmMem → Prop := fun v ν => match v with
  | none => K ν
  | _ => False
def mmPI (K : Int32 → mmMem → Prop) : Option Value → mmMem → Prop := fun v ν => match v with
  | some (.int x) => K x ν
  | _ => False
theorem mmPI_ok {K : Int32 → mmMem → Prop} {v : Option Value} {ν : mmMem} (h : mmPI K v ν) : ∃ x, v = some (.int x) ∧ K x ν := by
  unfold mmPI at h
  split at h
  · exact ⟨_, rfl, h⟩
  · exact h.elim
def mmPJ (K : Int64 → mmMem → Prop) : Option Value → mmMem → Prop := fun v ν => match v with
  | some (.long x) => K x ν
  | _ => False
theorem mmPJ_ok {K : Int64 → mmMem → Prop} {v : Option Value} {ν : mmMem} (h : mmPJ K v ν) : ∃ x, v = some (.long x) ∧ K x ν := by
  unfold mmPJ at h
  split at h
  · exact ⟨_, rfl, h⟩
  · exact h.elim
def mmPF (K : UInt32 → mmMem → Prop) : Option Value → mmMem → Prop := fun v ν => match v with
  | some (.float x) => K x ν
  | _ => False
theorem mmPF_ok {K : UInt32 → mmMem → Prop} {v : Option Value} {ν : mmMem} (h : mmPF K v ν) : ∃ x, v = some (.float x) ∧ K x ν := by
  unfold mmPF at h
  split at h
  · exact ⟨_, rfl, h⟩
  · exact h.elim
def mmPD (K : UInt64 → mmMem → Prop) : Option Value → mmMem → Prop := fun v ν => match v with
  | some (.double x) => K x ν
  | _ => False
theorem mmPD_ok {K : UInt64 → mmMem → Prop} {v : Option Value} {ν : mmMem} (h : mmPD K v ν) : ∃ x, v = some (.double x) ∧ K x ν := by
  unfold mmPD at h
  split at h
  · exact ⟨_, rfl, h⟩
  · exact h.elim
def mmPA (K : Nat → mmMem → Prop) : Option Value → mmMem → Prop := fun v ν => match v with
  | some (.ref x) => K x ν
  | _ => False
theorem mmPA_ok {K : Nat → mmMem → Prop} {v : Option Value} {ν : mmMem} (h : mmPA K v ν) : ∃ x, v = some (.ref x) ∧ K x ν := by
  unfold mmPA at h
  split at h
  · exact ⟨_, rfl, h⟩
  · exact h.elim
theorem mmP0_ok {K : mmMem → Prop} {v : Option Value} {ν : mmMem} (h : mmP0 K v ν) : v = none ∧ K ν := by
  unfold mmP0 at h
  split at h
  · exact ⟨rfl, h⟩
  · exact h.elim
def mmC0 (d : Nat) (M : mmMi) (st : Bool) (n : Nat) (as : List Value) (μ : mmMem) (K : mmMem → Prop) : Prop := mmCU d M st n as μ (mmP0 K)
def mmCI (d : Nat) (M : mmMi) (st : Bool) (n : Nat) (as : List Value) (μ : mmMem) (K : Int32 → mmMem → Prop) : Prop := mmCU d M st n as μ (mmPI K)
def mmCJ (d : Nat) (M : mmMi) (st : Bool) (n : Nat) (as : List Value) (μ : mmMem) (K : Int64 → mmMem → Prop) : Prop := mmCU d M st n as μ (mmPJ K)
def mmCF (d : Nat) (M : mmMi) (st : Bool) (n : Nat) (as : List Value) (μ : mmMem) (K : UInt32 → mmMem → Prop) : Prop := mmCU d M st n as μ (mmPF K)
def mmCD (d : Nat) (M : mmMi) (st : Bool) (n : Nat) (as : List Value) (μ : mmMem) (K : UInt64 → mmMem → Prop) : Prop := mmCU d M st n as μ (mmPD K)
def mmCA (d : Nat) (M : mmMi) (st : Bool) (n : Nat) (as : List Value) (μ : mmMem) (K : Nat → mmMem → Prop) : Prop := mmCU d M st n as μ (mmPA K)
def mmCl (d : Nat) (M : mmMi) (st : Bool) (n : Nat) (as : List Value) (μ : mmMem) (r : List Value) (K : List Value → mmMem → Prop) : Prop := match M.2.2.2 with
  | none => mmC0 d M st n as μ fun ν => K r ν
  | some .long => mmCJ d M st n as μ fun x ν => K (.long x :: r) ν
  | some .float => mmCF d M st n as μ fun x ν => K (.float x :: r) ν
  | some .double => mmCD d M st n as μ fun x ν => K (.double x :: r) ν
  | some (.object _) => mmCA d M st n as μ fun x ν => K (.ref x :: r) ν
  | some _ => mmCI d M st n as μ fun x ν => K (.int x :: r) ν
theorem mmCU.mono {d : Nat} {M : mmMi} {st : Bool} {n : Nat} {as : List Value} {μ : mmMem} {P Q : Option Value → mmMem → Prop} (h : mmCU d M st n as μ P) (hq : ∀ v ν, P v ν → Q v ν) : mmCU d M st n as μ Q := by
  obtain ⟨h1, h2, d', h3, P', h4, h5⟩ := h
  exact ⟨h1, h2, d', h3, P', fun v ν h => hq v ν (h4 v ν h), h5⟩
theorem mmCl_ok {d : Nat} {M : mmMi} {st : Bool} {n : Nat} {as : List Value} {μ : mmMem} {r : List Value} {K : List Value → mmMem → Prop} (h : mmCl d M st n as μ r K) : mmCU d M st n as μ fun v ν => K (v.toList ++ r) ν := by
  unfold mmCl at h
  split at h
  · exact h.mono (fun v ν h => by obtain ⟨rfl, h⟩ := mmP0_ok h; exact h)
  · exact h.mono (fun v ν h => by obtain ⟨x, rfl, h⟩ := mmPJ_ok h; exact h)
  · exact h.mono (fun v ν h => by obtain ⟨x, rfl, h⟩ := mmPF_ok h; exact h)
  · exact h.mono (fun v ν h => by obtain ⟨x, rfl, h⟩ := mmPD_ok h; exact h)
  · exact h.mono (fun v ν h => by obtain ⟨x, rfl, h⟩ := mmPA_ok h; exact h)
  · exact h.mono (fun v ν h => by obtain ⟨x, rfl, h⟩ := mmPI_ok h; exact h)
/-- locals, by their places; .retAddr 7 stands for 'not known' -/
def mmLs (B : Nat) (sk : Nat → Nat) (ls : Array Slot) (n : Nat) (L : List Value) : Prop := ∃ lv, lv_has ls n lv ∧ ∀ (i : Nat) (v : Value), L[i]? = some v → v ≠ .retAddr 7 → (i, mmV B sk v) ∈ lv
def mmEnds (d : Nat) (M : mmMi) (pc : Nat) (L st : List Value) (μ : mmMem) (P : Option Value → mmMem → Prop) : Prop :=
  ∀ (p : Program) (l : Launch) (e : Env) (s : State) (m : MethodId) (args : Array Value) (below : List Frame) (meth : Method) (c : Code) (H : Heap) (locs : List Loc) (B : Nat) (H0 : Heap) (sk sv : Nat → Nat) (D : va_G) (cA : Nat → ClassId) (ls : Array Slot),
    p.tables.exec = Jvm.exec → c.code = M.2.1 → meth.sig.returnType = M.2.2.2 → c.maxLocals = M.2.2.1 → s.vm.findClass M.1.cls = some m.cls → (∀ w ∈ mmT, w.before args s = true) → meth.locks = false →
    mmS B H0 sk sv D cA s → mmLs B sk ls M.2.2.1 L → mmH B H0 D cA μ H → va_S (fun q => B ≤ q) s.heap H locs → s.heap.size = B + 173 →
    W p l e (mmRm d) s m args below meth c H locs 0 0 (MQ below (mmQc B H0 sk D cA P) args s 0 0 (fun q => B ≤ q)) (F0 m pc ls (st.map (mmV B sk)))
def mget : List Value → Nat → Value
  | [], _ => .retAddr 7
  | a :: _, 0 => a
  | _ :: l, n + 1 => mget l n
def mset : List Value → Nat → Value → List Value
  | [], _, _ => []
  | _ :: l, 0, v => v :: l
  | a :: l, n + 1, v => a :: mset l n v
/-- a store: f = 1: the local ahead is not known from then on (it may be cut in two) -/
def mst1 (f : Nat) (L : List Value) (i : Nat) (v : Value) : List Value := match f with
  | 0 => mset L i v
  | _ + 1 => match i with
    | 0 => mset L 0 v
    | j + 1 => mset (mset L j (.retAddr 7)) (j + 1) v
def mst2 (f : Nat) (L : List Value) (i : Nat) (v : Value) : List Value := mset (mst1 f L i v) (i + 1) (.retAddr 7)
/-- what the local ahead must be for a store with f = 0 -/
def mok1 (f : Nat) (L : List Value) (i : Nat) : Prop := match f with
  | 0 => match i with
    | 0 => True
    | j + 1 => (mget L j).category = 1
  | _ + 1 => True
theorem mget_some {L : List Value} {i : Nat} {v : Value} (h : mget L i = v) (hv : v ≠ .retAddr 7) : L[i]? = some v := by
  induction L generalizing i with
  | nil => exact absurd h.symm hv
  | cons a l ih =>
    cases i with
    | zero => simpa [mget] using h
    | succ j => simpa using ih h
theorem mget_eq {L : List Value} {i : Nat} {v : Value} (h : L[i]? = some v) : mget L i = v := by
  induction L generalizing i with
  | nil => simp at h
  | cons a l ih =>
    cases i with
    | zero => simpa [mget] using h
    | succ j => exact ih (by simpa using h)
theorem mset_get {L : List Value} {i j : Nat} {v w : Value} (h : (mset L i v)[j]? = some w) : (j = i ∧ w = v) ∨ (j ≠ i ∧ L[j]? = some w) := by
  induction L generalizing i j with
  | nil => simp [mset] at h
  | cons a l ih =>
    cases i with
    | zero =>
      cases j with
      | zero => left; exact ⟨rfl, by simpa [mset] using h.symm⟩
      | succ j => right; exact ⟨by omega, by simpa [mset] using h⟩
    | succ i =>
      cases j with
      | zero => right; exact ⟨by omega, by simpa [mset] using h⟩
      | succ j =>
        rcases ih (i := i) (j := j) (by simpa [mset] using h) with ⟨h1, h2⟩ | ⟨h1, h2⟩
        · left; exact ⟨by omega, h2⟩
        · right; exact ⟨by omega, by simpa using h2⟩
theorem mmLs.at {B : Nat} {sk : Nat → Nat} {ls : Array Slot} {n : Nat} {L : List Value} (h : mmLs B sk ls n L) {i : Nat} {v : Value} (hg : mget L i = v) (hv : v ≠ .retAddr 7) : ls[i]? = some (.val (mmV B sk v)) := by
  obtain ⟨lv, h1, h2⟩ := h
  exact h1.2.2 _ (h2 i v (mget_some hg hv) hv)
theorem mst1_get {f i j : Nat} {L : List Value} {v w : Value} (hok : mok1 f L i) (hj : (mst1 f L i v)[j]? = some w) (hw : w ≠ .retAddr 7) : (j = i ∧ w = v) ∨ (j ≠ i ∧ L[j]? = some w ∧ (j + 1 = i → w.category = 1)) := by
  have plain : (∀ k, i = k + 1 → (mget L k).category = 1) → (mset L i v)[j]? = some w → (j = i ∧ w = v) ∨ (j ≠ i ∧ L[j]? = some w ∧ (j + 1 = i → w.category = 1)) := by
    intro hc h
    rcases mset_get h with ⟨a, b⟩ | ⟨a, b⟩
    · exact Or.inl ⟨a, b⟩
    · exact Or.inr ⟨a, b, fun hji => by rw [← mget_eq b]; exact hc j hji.symm⟩
  cases f with
  | zero =>
    refine plain (fun k hk => ?_) hj
    subst hk
    exact hok
  | succ f =>
    cases i with
    | zero => exact plain (fun k hk => by omega) hj
    | succ i =>
      rcases mset_get (show (mset (mset L i (.retAddr 7)) (i + 1) v)[j]? = some w from hj) with ⟨a, b⟩ | ⟨a, b⟩
      · exact Or.inl ⟨a, b⟩
      · rcases mset_get b with ⟨a2, b2⟩ | ⟨a2, b2⟩
        · exact absurd b2 hw
        · exact Or.inr ⟨a, b2, fun q => by omega⟩
theorem mmLs.st1 {B : Nat} {sk : Nat → Nat} {ls' : Array Slot} {n : Nat} {L : List Value} {lv : List (Nat × Value)} (f i : Nat) (v : Value) (h2 : ∀ (i : Nat) (v : Value), L[i]? = some v → v ≠ .retAddr 7 → (i, mmV B sk v) ∈ lv) (hok : mok1 f L i) {x : Value} (hx : x = mmV B sk v)
    (h' : lv_has ls' n ((i, x) :: lv.filter (fun q => !(q.1 == i) && !(q.1 + 1 == i && q.2.category == 2)))) : mmLs B sk ls' n (mst1 f L i v) := by
  subst hx
  refine ⟨_, h', fun j w hj hw => ?_⟩
  rcases mst1_get hok hj hw with ⟨rfl, rfl⟩ | ⟨a, b, c⟩
  · exact List.mem_cons_self
  · refine List.mem_cons_of_mem _ (List.mem_filter.mpr ⟨h2 j w b hw, ?_⟩)
    by_cases hji : j + 1 = i
    · have h3 := mmV_cat B sk w (c hji)
      simp [a, h3]
    · simp [a, hji]
theorem mmLs.st2 {B : Nat} {sk : Nat → Nat} {ls' : Array Slot} {n : Nat} {L : List Value} {lv : List (Nat × Value)} (f i : Nat) (v : Value) (h2 : ∀ (i : Nat) (v : Value), L[i]? = some v → v ≠ .retAddr 7 → (i, mmV B sk v) ∈ lv) (hok : mok1 f L i) {x : Value} (hx : x = mmV B sk v)
    (h' : lv_has ls' n ((i, x) :: lv.filter (fun q => !(q.1 == i) && (!(q.1 == i + 1) && !(q.1 + 1 == i && q.2.category == 2))))) : mmLs B sk ls' n (mst2 f L i v) := by
  subst hx
  refine ⟨_, h', fun j w hj hw => ?_⟩
  rcases mset_get hj with ⟨-, h⟩ | ⟨hne, hj⟩
  · exact absurd h hw
  rcases mst1_get hok hj hw with ⟨rfl, rfl⟩ | ⟨a, b, c⟩
  · exact List.mem_cons_self
  · refine List.mem_cons_of_mem _ (List.mem_filter.mpr ⟨h2 j w b hw, ?_⟩)
    by_cases hji : j + 1 = i
    · have h3 := mmV_cat B sk w (c hji)
      simp [a, hne, h3]
    · simp [a, hne, hji]
/-! what stands on the stack -/
def pI (st : List Value) (k : Int32 → List Value → Prop) : Prop := match st with
  | .int x :: r => k x r
  | _ => False
def pJ (st : List Value) (k : Int64 → List Value → Prop) : Prop := match st with
  | .long x :: r => k x r
  | _ => False
def pF (st : List Value) (k : UInt32 → List Value → Prop) : Prop := match st with
  | .float x :: r => k x r
  | _ => False
def pD (st : List Value) (k : UInt64 → List Value → Prop) : Prop := match st with
  | .double x :: r => k x r
  | _ => False
def pA (st : List Value) (k : Nat → List Value → Prop) : Prop := match st with
  | .ref x :: r => k x r
  | _ => False
theorem pI_ok {st : List Value} {k : Int32 → List Value → Prop} (h : pI st k) : ∃ x r, st = .int x :: r ∧ k x r := by
  unfold pI at h
  split at h
  · exact ⟨_, _, rfl, h⟩
  · exact h.elim
theorem pJ_ok {st : List Value} {k : Int64 → List Value → Prop} (h : pJ st k) : ∃ x r, st = .long x :: r ∧ k x r := by
  unfold pJ at h
  split at h
  · exact ⟨_, _, rfl, h⟩
  · exact h.elim
theorem pF_ok {st : List Value} {k : UInt32 → List Value → Prop} (h : pF st k) : ∃ x r, st = .float x :: r ∧ k x r := by
  unfold pF at h
  split at h
  · exact ⟨_, _, rfl, h⟩
  · exact h.elim
theorem pD_ok {st : List Value} {k : UInt64 → List Value → Prop} (h : pD st k) : ∃ x r, st = .double x :: r ∧ k x r := by
  unfold pD at h
  split at h
  · exact ⟨_, _, rfl, h⟩
  · exact h.elim
theorem pA_ok {st : List Value} {k : Nat → List Value → Prop} (h : pA st k) : ∃ x r, st = .ref x :: r ∧ k x r := by
  unfold pA at h
  split at h
  · exact ⟨_, _, rfl, h⟩
  · exact h.elim
/-- n of the stack, the deepest first, and what lies below -/
def mpop : Nat → List Value → List Value → List Value × List Value
  | 0, acc, st => (acc, st)
  | _ + 1, acc, [] => (acc, [])
  | n + 1, acc, v :: st => mpop n (v :: acc) st
theorem mpop_ok (n : Nat) : ∀ (acc st as r : List Value), mpop n acc st = (as, r) → ∃ bs, as = bs.reverse ++ acc ∧ st = bs ++ r ∧ bs.length ≤ n := by
  induction n with
  | zero =>
    intro acc st as r h
    simp only [mpop, Prod.mk.injEq] at h
    exact ⟨[], by simp [h.1], by simp [h.2], Nat.le_refl 0⟩
  | succ n ih =>
    intro acc st as r h
    cases st with
    | nil =>
      simp only [mpop, Prod.mk.injEq] at h
      exact ⟨[], by simp [h.1], by simp [← h.2], Nat.zero_le _⟩
    | cons v st =>
      obtain ⟨bs, h1, h2, h3⟩ := ih (v :: acc) st as r h
      exact ⟨v :: bs, by simp [h1], by simp [h2], by simp; omega⟩
def mcat : List Value → Nat
  | [] => 0
  | v :: l => v.category + mcat l
theorem mcat_ok (B : Nat) (sk : Nat → Nat) (l : List Value) : ((l.map (mmV B sk)).map fun v => v.category).sum = mcat l := by
  induction l with
  | nil => rfl
  | cons v l ih =>
    simp only [List.map_cons, List.sum_cons, mcat, ih]
    congr 1
    cases v <;> rfl
end
section
/-! ===== what an instruction asks and does ===== -/
def gI (L : List Value) (i : Nat) (k : Int32 → Prop) : Prop := match mget L i with
  | .int x => k x
  | _ => False
def gJ (L : List Value) (i : Nat) (k : Int64 → Prop) : Prop := match mget L i with
  | .long x => k x
  | _ => False
def gF (L : List Value) (i : Nat) (k : UInt32 → Prop) : Prop := match mget L i with
  | .float x => k x
  | _ => False
def gD (L : List Value) (i : Nat) (k : UInt64 → Prop) : Prop := match mget L i with
  | .double x => k x
  | _ => False
def gA (L : List Value) (i : Nat) (k : Nat → Prop) : Prop := match mget L i with
  | .ref x => k x
  | _ => False
theorem gI_ok {L : List Value} {i : Nat} {k : Int32 → Prop} (h : gI L i k) : ∃ x, mget L i = .int x ∧ k x := by
  unfold gI at h
  split at h
  · exact ⟨_, by assumption, h⟩
  · exact h.elim
theorem gJ_ok {L : List Value} {i : Nat} {k : Int64 → Prop} (h : gJ L i k) : ∃ x, mget L i = .long x ∧ k x := by
  unfold gJ at h
  split at h
  · exact ⟨_, by assumption, h⟩
  · exact h.elim
theorem gF_ok {L : List Value} {i : Nat} {k : UInt32 → Prop} (h : gF L i k) : ∃ x, mget L i = .float x ∧ k x := by
  unfold gF at h
  split at h
  · exact ⟨_, by assumption, h⟩
  · exact h.elim
theorem gD_ok {L : List Value} {i : Nat} {k : UInt64 → Prop} (h : gD L i k) : ∃ x, mget L i = .double x ∧ k x := by
  unfold gD at h
  split at h
  · exact ⟨_, by assumption, h⟩
  · exact h.elim
theorem gA_ok {L : List Value} {i : Nat} {k : Nat → Prop} (h : gA L i k) : ∃ x, mget L i = .ref x ∧ k x := by
  unfold gA at h
  split at h
  · exact ⟨_, by assumption, h⟩
  · exact h.elim
/-- goes on where the flag stands -/
def mif (b : Bool) (k : Prop) : Prop := match b with
  | true => k
  | false => False
theorem mif_ok {b : Bool} {k : Prop} (h : mif b k) : b = true ∧ k := by
  cases b
  · exact h.elim
  · exact ⟨rfl, h⟩
def mk1 (f : Nat) (L : List Value) (i : Nat) : Bool := match f with
  | 0 => match i with
    | 0 => true
    | j + 1 => Nat.beq (mget L j).category 1
  | _ + 1 => true
theorem mk1_ok {f i : Nat} {L : List Value} (h : mk1 f L i = true) : mok1 f L i := by
  cases f with
  | succ f => exact trivial
  | zero =>
    cases i with
    | zero => exact trivial
    | succ j => exact Nat.eq_of_beq_eq_true h
def mmCt (c : ClassFile.Cond) (x y : Int32) : Prop := match c with
  | .eq => x = y
  | .ne => ¬ x = y
  | .lt => x < y
  | .ge => y ≤ x
  | .gt => y < x
  | .le => x ≤ y
def mmCf (c : ClassFile.Cond) (x y : Int32) : Prop := match c with
  | .eq => ¬ x = y
  | .ne => x = y
  | .lt => ¬ x < y
  | .ge => ¬ y ≤ x
  | .gt => ¬ y < x
  | .le => ¬ x ≤ y
def mmGf (μ : mmMem) (ci a k : Nat) : Value := match mmFT ci k with
  | 0 => .int (μ.1 a k)
  | 1 => .long (μ.2.1 a k)
  | 2 => .double (μ.2.2 a k)
  | _ => .ref (mmRF ci a k)
def mmBool (ci k : Nat) : Bool := match ci, k with
  | 1, 1 => true
  | 7, 2 => true
  | 8, 4 => true
  | _, _ => false
/-- the goals of a tableswitch, from the number lo on -/
def mmTs (pc : Nat) (x : Int32) (E : Nat → Prop) : Int → List Int → Prop
  | _, [] => True
  | lo, off :: t => (x.toInt = lo → E ((pc : Int) + off).toNat) ∧ mmTs pc x E (lo + 1) t
def mmLk (pc : Nat) (x : Int32) (E : Nat → Prop) (d : Int) : List (Int × Int) → Prop
  | [] => E ((pc : Int) + d).toNat
  | q :: t => (x.toInt = q.1 → E ((pc : Int) + q.2).toNat) ∧ (¬ x.toInt = q.1 → mmLk pc x E d t)
def mbl (x : Int32) (k : Prop) : Prop := match (x == 0 || x == 1) with
  | true => k
  | false => (x = 0 ∨ x = 1) ∧ k
theorem mbl_ok {x : Int32} {k : Prop} (h : mbl x k) : (x = 0 ∨ x = 1) ∧ k := by
  unfold mbl at h
  split at h
  · rename_i hb
    exact ⟨by simpa using hb, h⟩
  · exact h
theorem mbl_i {x : Int32} {k : Prop} (h : x = 0 ∨ x = 1) (hk : k) : mbl x k := by
  unfold mbl
  split
  · exact hk
  · exact ⟨h, hk⟩
def mmRI (rt : Option FieldType) (x : Int32) (k : Prop) : Prop := match rt with
  | some .int => k
  | some .boolean => mbl x k
  | _ => False
def wpI (d : Nat) (M : mmMi) (P : Option Value → mmMem → Prop) (q : mmMI) (k : List Value → List Value → mmMem → Prop) (L st : List Value) (μ : mmMem) : Prop :=
  match q with
  | (pc, i, _, _, a, b, v, Mc) => match i with
    | .iconst _ => k L (v :: st) μ
    | .bipush _ => k L (v :: st) μ
    | .sipush _ => k L (v :: st) μ
    | .lconst _ => k L (v :: st) μ
    | .dconst _ => k L (v :: st) μ
    | .ldc _ => k L (v :: st) μ
    | .ldc_w _ => k L (v :: st) μ
    | .ldc2_w _ => k L (v :: st) μ
    | .aload i => gA L i fun x => k L (.ref x :: st) μ
    | .aload_n i => gA L i fun x => k L (.ref x :: st) μ
    | .iload i => gI L i fun x => k L (.int x :: st) μ
    | .iload_n i => gI L i fun x => k L (.int x :: st) μ
    | .lload i => gJ L i fun x => k L (.long x :: st) μ
    | .lload_n i => gJ L i fun x => k L (.long x :: st) μ
    | .fload i => gF L i fun x => k L (.float x :: st) μ
    | .fload_n i => gF L i fun x => k L (.float x :: st) μ
    | .dload i => gD L i fun x => k L (.double x :: st) μ
    | .dload_n i => gD L i fun x => k L (.double x :: st) μ
    | .istore i => pI st fun x r => mif (mk1 a L i) (k (mst1 a L i (.int x)) r μ)
    | .istore_n i => pI st fun x r => mif (mk1 a L i) (k (mst1 a L i (.int x)) r μ)
    | .astore i => pA st fun x r => mif (mk1 a L i) (k (mst1 a L i (.ref x)) r μ)
    | .astore_n i => pA st fun x r => mif (mk1 a L i) (k (mst1 a L i (.ref x)) r μ)
    | .lstore i => pJ st fun x r => mif (mk1 a L i) (k (mst2 a L i (.long x)) r μ)
    | .lstore_n i => pJ st fun x r => mif (mk1 a L i) (k (mst2 a L i (.long x)) r μ)
    | .dstore i => pD st fun x r => mif (mk1 a L i) (k (mst2 a L i (.double x)) r μ)
    | .dstore_n i => pD st fun x r => mif (mk1 a L i) (k (mst2 a L i (.double x)) r μ)
    | .iinc i _ => gI L i fun x => mif (mk1 a L i) (pI [v] fun y _ => k (mst1 a L i (.int (x + y))) st μ)
    | .iadd => pI st fun y r => pI r fun x r => k L (.int (x + y) :: r) μ
    | .isub => pI st fun y r => pI r fun x r => k L (.int (x - y) :: r) μ
    | .imul => pI st fun y r => pI r fun x r => k L (.int (x * y) :: r) μ
    | .iand => pI st fun y r => pI r fun x r => k L (.int (x &&& y) :: r) μ
    | .ior => pI st fun y r => pI r fun x r => k L (.int (x ||| y) :: r) μ
    | .idiv => pI st fun y r => pI r fun x r => ¬ y = 0 ∧ k L (.int (x / y) :: r) μ
    | .irem => pI st fun y r => pI r fun x r => ¬ y = 0 ∧ k L (.int (x - x / y * y) :: r) μ
    | .ishl => pI st fun y r => pI r fun x r => k L (.int (x <<< (y &&& 31)) :: r) μ
    | .ishr => pI st fun y r => pI r fun x r => k L (.int (x >>> (y &&& 31)) :: r) μ
    | .ineg => pI st fun x r => k L (.int (-x) :: r) μ
    | .ladd => pJ st fun y r => pJ r fun x r => k L (.long (x + y) :: r) μ
    | .lsub => pJ st fun y r => pJ r fun x r => k L (.long (x - y) :: r) μ
    | .lmul => pJ st fun y r => pJ r fun x r => k L (.long (x * y) :: r) μ
    | .land => pJ st fun y r => pJ r fun x r => k L (.long (x &&& y) :: r) μ
    | .lor => pJ st fun y r => pJ r fun x r => k L (.long (x ||| y) :: r) μ
    | .lxor => pJ st fun y r => pJ r fun x r => k L (.long (x ^^^ y) :: r) μ
    | .ldiv => pJ st fun y r => pJ r fun x r => ¬ y = 0 ∧ k L (.long (x / y) :: r) μ
    | .lrem => pJ st fun y r => pJ r fun x r => ¬ y = 0 ∧ k L (.long (x - x / y * y) :: r) μ
    | .lneg => pJ st fun x r => k L (.long (-x) :: r) μ
    | .lshl => pI st fun y r => pJ r fun x r => k L (.long (x <<< (y.toInt64 &&& 63)) :: r) μ
    | .lcmp => pJ st fun y r => pJ r fun x r => k L (.int (lg_cmp x y) :: r) μ
    | .i2l => pI st fun x r => k L (.long x.toInt64 :: r) μ
    | .l2i => pJ st fun x r => k L (.int x.toInt32 :: r) μ
    | .i2b => pI st fun x r => k L (.int x.toInt8.toInt32 :: r) μ
    | .i2s => pI st fun x r => k L (.int x.toInt16.toInt32 :: r) μ
    | .i2c => pI st fun x r => k L (.int (x.toUInt32 % 65536).toInt32 :: r) μ
    | .l2d => pJ st fun x r => k L (.double (FP.l2d x) :: r) μ
    | .l2f => pJ st fun x r => k L (.float (FP.l2f x) :: r) μ
    | .f2d => pF st fun x r => vf_n64 (FP.f2d x) ∧ k L (.double (FP.f2d x) :: r) μ
    | .d2f => pD st fun x r => vf_n32 (FP.d2f x) ∧ k L (.float (FP.d2f x) :: r) μ
    | .d2l => pD st fun x r => k L (.long (FP.d2l x) :: r) μ
    | .d2i => pD st fun x r => k L (.int (FP.d2i x) :: r) μ
    | .f2l => pF st fun x r => k L (.long (FP.f2l x) :: r) μ
    | .dneg => pD st fun x r => k L (.double (FP.dneg x) :: r) μ
    | .dadd => pD st fun y r => pD r fun x r => vf_n64 (FP.dadd x y) ∧ k L (.double (FP.dadd x y) :: r) μ
    | .dsub => pD st fun y r => pD r fun x r => vf_n64 (FP.dsub x y) ∧ k L (.double (FP.dsub x y) :: r) μ
    | .dmul => pD st fun y r => pD r fun x r => vf_n64 (FP.dmul x y) ∧ k L (.double (FP.dmul x y) :: r) μ
    | .ddiv => pD st fun y r => pD r fun x r => vf_n64 (FP.ddiv x y) ∧ k L (.double (FP.ddiv x y) :: r) μ
    | .fmul => pF st fun y r => pF r fun x r => vf_n32 (FP.fmul x y) ∧ k L (.float (FP.fmul x y) :: r) μ
    | .fdiv => pF st fun y r => pF r fun x r => vf_n32 (FP.fdiv x y) ∧ k L (.float (FP.fdiv x y) :: r) μ
    | .dcmp op => pD st fun y r => pD r fun x r => k L (.int (Op.cmpValue (FP.dcmp x y) op) :: r) μ
    | .dup => (match st with
      | v :: r => mif (Nat.beq v.category 1) (k L (v :: v :: r) μ)
      | _ => False)
    | .dup2 => (match st with
      | v :: r => (match v.category with
        | 2 => k L (v :: v :: r) μ
        | 1 => (match r with
          | w :: r => mif (Nat.beq w.category 1) (k L (v :: w :: v :: w :: r) μ)
          | _ => False)
        | _ => False)
      | _ => False)
    | .ifCond c _ => pI st fun x r => (mmCt c x 0 → mmEnds d M a L r μ P) ∧ (mmCf c x 0 → k L r μ)
    | .if_icmp c _ => pI st fun y r => pI r fun x r => (mmCt c x y → mmEnds d M a L r μ P) ∧ (mmCf c x y → k L r μ)
    | .goto _ => mmEnds d M a L st μ P
    | .tableswitch dflt lo hi offs => pI st fun x r => (x.toInt < lo ∨ hi < x.toInt → mmEnds d M ((pc : Int) + dflt).toNat L r μ P) ∧ mmTs pc x (fun t => mmEnds d M t L r μ P) lo offs.toList
    | .lookupswitch dflt ps => pI st fun x r => mmLk pc x (fun t => mmEnds d M t L r μ P) dflt ps.toList
    | .getfield _ => pA st fun o r => mmKD o = a ∧ k L (mmGf μ a o b :: r) μ
    | .putfield _ => (match mmFT a b with
      | 0 => pI st fun x r => pA r fun o r => mmKD o = a ∧ (match mmBool a b with
        | true => mbl x (k L r (sI μ o b x))
        | false => k L r (sI μ o b x))
      | 1 => pJ st fun x r => pA r fun o r => mmKD o = a ∧ k L r (sJ μ o b x)
      | 2 => pD st fun x r => pA r fun o r => mmKD o = a ∧ k L r (sD μ o b x)
      | _ => False)
    | .iaload => pI st fun j r => pA r fun o r => mmKD o = 10 ∧ vp_in j (mmLEN o) ∧ k L (.int (μ.1 o j.toNatClampNeg) :: r) μ
    | .laload => pI st fun j r => pA r fun o r => mmKD o = 11 ∧ vp_in j (mmLEN o) ∧ k L (.long (μ.2.1 o j.toNatClampNeg) :: r) μ
    | .daload => pI st fun j r => pA r fun o r => mmKD o = 12 ∧ vp_in j (mmLEN o) ∧ k L (.double (μ.2.2 o j.toNatClampNeg) :: r) μ
    | .baload => pI st fun j r => pA r fun o r => mmKD o = 13 ∧ vp_in j (mmLEN o) ∧ k L (.int (μ.1 o j.toNatClampNeg) :: r) μ
    | .aaload => pI st fun j r => pA r fun o r => mmKD o = a ∧ vp_in j (mmLEN o) ∧ k L (.ref (mmRF a o j.toNatClampNeg) :: r) μ
    | .iastore => pI st fun x r => pI r fun j r => pA r fun o r => mmKD o = 10 ∧ vp_in j (mmLEN o) ∧ k L r (sI μ o j.toNatClampNeg x)
    | .lastore => pJ st fun x r => pI r fun j r => pA r fun o r => mmKD o = 11 ∧ vp_in j (mmLEN o) ∧ k L r (sJ μ o j.toNatClampNeg x)
    | .dastore => pD st fun x r => pI r fun j r => pA r fun o r => mmKD o = 12 ∧ vp_in j (mmLEN o) ∧ k L r (sD μ o j.toNatClampNeg x)
    | .bastore => pI st fun x r => pI r fun j r => pA r fun o r => mmKD o = 13 ∧ vp_in j (mmLEN o) ∧ k L r (sI μ o j.toNatClampNeg (vp_nar .boolean x))
    | .arraylength => pA st fun o r => mmKD o = a ∧ k L (.int (Int32.ofNat (mmLEN o)) :: r) μ
    | .invokevirtual _ => (match mpop a [] st with
      | (as, .ref o :: r) => mmKD o = b ∧ mif (Nat.ble (mcat r) 8) (mmCl d Mc false a (.ref o :: as) μ r fun st ν => k L st ν)
      | (as, .retAddr x :: r) => mif (Nat.beq b 98) (mif (Nat.ble (mcat r) 8) (mmCl d Mc false a (.retAddr x :: as) μ r fun st ν => k L st ν))
      | _ => False)
    | .invokestatic _ => (match b with
      | 0 => (match mpop a [] st with
        | (as, r) => mif (Nat.ble (mcat r) 8) (mmCl d Mc true a as μ r fun st ν => k L st ν))
      | 1 => (match mpop a [] st with
        | (as, r) => mif (Nat.ble (mcat r) 8) (mmCl d Mc true a as μ r fun st ν => k L st ν))
      | _ => pI st fun n r => pI r fun dp r => pA r fun y r => pI r fun sp r => pA r fun x r => 1 ≤ d ∧ mmKD x = b ∧ mmKD y = b ∧ ¬ sp < 0 ∧ ¬ dp < 0 ∧ ¬ n < 0 ∧ sp.toNatClampNeg + n.toNatClampNeg ≤ mmLEN x ∧ dp.toNatClampNeg + n.toNatClampNeg ≤ mmLEN y ∧ mif (Nat.ble (mcat r) 8) (match b with
        | 10 => k L r (cI μ x y sp.toNatClampNeg dp.toNatClampNeg n.toNatClampNeg)
        | 11 => k L r (cJ μ x y sp.toNatClampNeg dp.toNatClampNeg n.toNatClampNeg)
        | 12 => k L r (cD μ x y sp.toNatClampNeg dp.toNatClampNeg n.toNatClampNeg)
        | _ => False))
    | .ireturn => (match st with
      | [.int x] => mmRI M.2.2.2 x (P (some (.int x)) μ)
      | _ => False)
    | .lreturn => (match st with
      | [.long x] => P (some (.long x)) μ
      | _ => False)
    | .dreturn => (match st with
      | [.double x] => P (some (.double x)) μ
      | _ => False)
    | .freturn => (match st with
      | [.float x] => P (some (.float x)) μ
      | _ => False)
    | .areturn => (match st with
      | [.ref x] => P (some (.ref x)) μ
      | _ => False)
    | .return_ => (match st with
      | [] => P none μ
      | _ => False)
    | _ => False
/-- a stretch of rows, from its first on; e: where it goes on behind its last -/
def wpS (d : Nat) (M : mmMi) (P : Option Value → mmMem → Prop) (e : Nat) : List mmMI → List Value → List Value → mmMem → Prop
  | [], L, st, μ => mmEnds d M e L st μ P
  | q :: t, L, st, μ => wpI d M P q (fun L st μ => wpS d M P e t L st μ) L st μ
/-! ===== that the rows are the class's own ===== -/
def mmOkX (M : mmMi) (q : mmMI) : Bool := match q with
  | (pc, i, len, w, a, b, v, Mc) => match i with
    | .iconst n => len == 1 && decide (v = .int (Int32.ofInt n))
    | .bipush n => len == 2 && decide (v = .int (Int8.ofInt n).toInt32)
    | .sipush n => len == 3 && decide (v = .int (Int16.ofInt n).toInt32)
    | .lconst n => len == 1 && decide (v = .long (Int64.ofNat (n : Nat)))
    | .dconst n => len == 1 && (match n with
      | 0 => decide (v = .double FP.dconst0)
      | 1 => decide (v = .double FP.dconst1))
    | .ldc idx => len == 2 && (match v with
      | .int x => decide (lw_tbl[w]? = some (.constant M.1.cls idx x))
      | .float x => decide (lw_tbl[w]? = some (.constantFloat M.1.cls idx x))
      | .retAddr 0 => decide ((M.1.cls = RX5 ∧ idx = 51) ∨ (M.1.cls = RX3 ∧ idx = 26) ∨ (M.1.cls = RX8 ∧ idx = 282))
      | _ => false)
    | .ldc_w idx => len == 3 && (match v with
      | .int x => decide (lw_tbl[w]? = some (.constant M.1.cls idx x))
      | _ => false)
    | .ldc2_w idx => len == 3 && (match v with
      | .long x => decide (lw_tbl[w]? = some (.constantLong M.1.cls idx x))
      | .double x => decide (lw_tbl[w]? = some (.constantDouble M.1.cls idx x))
      | _ => false)
    | .aload _ | .iload _ | .lload _ | .fload _ | .dload _ => len == 2
    | .aload_n _ | .iload_n _ | .lload_n _ | .fload_n _ | .dload_n _ => len == 1
    | .istore i | .astore i => len == 2 && decide (i < M.2.2.1)
    | .istore_n i | .astore_n i => len == 1 && decide ((i : Nat) < M.2.2.1)
    | .lstore i | .dstore i => len == 2 && decide (i + 1 < M.2.2.1)
    | .lstore_n i | .dstore_n i => len == 1 && decide ((i : Nat) + 1 < M.2.2.1)
    | .iinc i n => len == 3 && decide (i < M.2.2.1) && decide (v = .int (Int32.ofInt n))
    | .ifCond _ off | .if_icmp _ off | .goto off => len == 3 && decide ((pc : Int) + off = (a : Int))
    | .tableswitch dflt lo hi offs => decide (0 ≤ (pc : Int) + dflt) && offs.toList.all (fun f => decide (0 ≤ (pc : Int) + f)) && decide (hi - lo + 1 = (offs.toList.length : Int))
    | .lookupswitch dflt ps => decide (0 ≤ (pc : Int) + dflt) && ps.toList.all (fun f => decide (0 ≤ (pc : Int) + f.2)) && (ps.toList.zip (ps.toList.drop 1)).all (fun (a, next) => a.1 < next.1)
    | .getfield idx => len == 3 && (match vwCl[a]? with
      | some (_, T, N) => decide (b < N) && decide (lw_tbl[w]? = some (.fieldLink M.1.cls idx (T b).1 (T b).2.1 (T b).2.2.1))
      | none => false)
    | .putfield idx => len == 3 && (match vwCl[a]? with
      | some (_, T, N) => decide (b < N) && decide (lw_tbl[w]? = some (.fieldLink M.1.cls idx (T b).1 (T b).2.1 (T b).2.2.1)) && decide ((T b).2.2.2 = false)
      | none => false)
    | .aaload => len == 1 && decide (a = 14 ∨ a = 15 ∨ a = 16)
    | .arraylength => len == 1 && decide (a = 10 ∨ a = 11 ∨ a = 12 ∨ a = 13)
    | .invokevirtual idx => len == 3 && decide (lw_tbl[w]? = some (.methodLink M.1.cls idx Mc.1)) && (match b with
      | 98 => decide (Mc.1.cls = "java/lang/String")
      | _ => decide ((vwCl[b]?).map (fun q => q.1) = some Mc.1.cls))
    | .invokestatic idx => len == 3 && (match b with
      | 0 => decide (lw_tbl[w]? = some (.methodLink M.1.cls idx Mc.1))
      | 1 => decide ((M.1.cls, idx, Mc.1) ∈ mmNest)
      | _ => decide (lw_tbl[w]? = some (.methodLink M.1.cls idx arraycopyName)))
    | .lreturn => len == 1 && decide (M.2.2.2 = some .long)
    | .freturn => len == 1 && decide (M.2.2.2 = some .float)
    | .dreturn => len == 1 && decide (M.2.2.2 = some .double)
    | .areturn => len == 1 && (match M.2.2.2 with
      | some (.object _) => true
      | _ => false)
    | .return_ => len == 1 && decide (M.2.2.2 = none)
    | _ => len == 1
def mmOkI (M : mmMi) (q : mmMI) : Bool := decide (decode M.2.1 q.1 = .ok (q.2.1, q.2.2.1)) && mmOkX M q
def mmHead : List mmMI → Nat → Nat
  | [], e => e
  | q :: _, _ => q.1
def mmOk (M : mmMi) (e : Nat) : List mmMI → Bool
  | [] => true
  | q :: t => mmOkI M q && (q.1 + q.2.2.1 == mmHead t e) && mmOk M e t
end
section
/-! ===== the kit's rows do it ===== -/
theorem mmOkI_ok {M : mmMi} {q : mmMI} (h : mmOkI M q = true) : decode M.2.1 q.1 = .ok (q.2.1, q.2.2.1) ∧ mmOkX M q = true := by
  unfold mmOkI at h
  rw [Bool.and_eq_true, decide_eq_true_eq] at h
  exact h
theorem mm_word {M : mmMi} {w : Nat} {x : Cond} {args : Array Value} {s : State} (hts : ∀ w ∈ mmT, w.before args s = true) (h : lw_tbl[w]? = some x) (hg : goodWord x = true) : x.before args s = true := hts x (mm_in w h hg)
theorem mm_sz {p : Program} {l : Launch} {e : Env} {R : Room} {s : State} {m : MethodId} {args : Array Value} {below : List Frame} {meth : Method} {c : Code} {H : Heap} {locs : List Loc} {cells slots : Nat} {Q : State → Prop} {g : JFrame} (k : H.size ≤ s.heap.size + cells → W p l e R s m args below meth c H locs cells slots Q g) : W p l e R s m args below meth c H locs cells slots Q g := by
  intro T hT X
  have h := X.heapSize
  rw [hT] at h
  exact k h T hT X
theorem mmV_Gf (B : Nat) (sk : Nat → Nat) (μ : mmMem) (ci a k : Nat) : mmV B sk (mmGf μ ci a k) = mmFV B μ a ci k := by
  unfold mmGf mmFV
  split <;> simp_all [mmV]
theorem mm_fs {B : Nat} {μ : mmMem} {o ci k : Nat} (hk : k < mmNF ci) : ((List.range (mmNF ci)).map (mmFV B μ o ci))[k]? = some (mmFV B μ o ci k) := by
  simp [hk]

theorem mmE_10 {B : Nat} {cA : Nat → ClassId} {μ : mmMem} {a : Nat} (h : mmKD a = 10) : (mmW B cA μ)[a]? = some (B + a, .inl (cA 0, mmLEN a, .inl (μ.1 a))) := by
  rw [mmW_get (mmKD_lt (by rw [h]; decide))]
  unfold mmE
  rw [h]
  rfl
theorem mmE_11 {B : Nat} {cA : Nat → ClassId} {μ : mmMem} {a : Nat} (h : mmKD a = 11) : (mmW B cA μ)[a]? = some (B + a, .inl (cA 1, mmLEN a, .inr (.inl (μ.2.1 a)))) := by
  rw [mmW_get (mmKD_lt (by rw [h]; decide))]
  unfold mmE
  rw [h]
  rfl
theorem mmE_12 {B : Nat} {cA : Nat → ClassId} {μ : mmMem} {a : Nat} (h : mmKD a = 12) : (mmW B cA μ)[a]? = some (B + a, .inl (cA 2, mmLEN a, .inr (.inr (.inr (.inl (μ.2.2 a)))))) := by
  rw [mmW_get (mmKD_lt (by rw [h]; decide))]
  unfold mmE
  rw [h]
  rfl
theorem mmE_13 {B : Nat} {cA : Nat → ClassId} {μ : mmMem} {a : Nat} (h : mmKD a = 13) : (mmW B cA μ)[a]? = some (B + a, .inl (cA 3, mmLEN a, .inl (μ.1 a))) := by
  rw [mmW_get (mmKD_lt (by rw [h]; decide))]
  unfold mmE
  rw [h]
  rfl
theorem mmE_14 {B : Nat} {cA : Nat → ClassId} {μ : mmMem} {a : Nat} (h : mmKD a = 14) : (mmW B cA μ)[a]? = some (B + a, .inl (cA 4, mmLEN a, .inr (.inr (.inr (.inr fun i => some (B + mmRF 14 a i)))))) := by
  rw [mmW_get (mmKD_lt (by rw [h]; decide))]
  unfold mmE
  rw [h]
  rfl
theorem mmE_15 {B : Nat} {cA : Nat → ClassId} {μ : mmMem} {a : Nat} (h : mmKD a = 15) : (mmW B cA μ)[a]? = some (B + a, .inl (cA 5, mmLEN a, .inr (.inr (.inr (.inr fun i => some (B + mmRF 15 a i)))))) := by
  rw [mmW_get (mmKD_lt (by rw [h]; decide))]
  unfold mmE
  rw [h]
  rfl
theorem mmE_16 {B : Nat} {cA : Nat → ClassId} {μ : mmMem} {a : Nat} (h : mmKD a = 16) : (mmW B cA μ)[a]? = some (B + a, .inl (cA 6, mmLEN a, .inr (.inr (.inr (.inr fun i => some (B + mmRF 16 a i)))))) := by
  rw [mmW_get (mmKD_lt (by rw [h]; decide))]
  unfold mmE
  rw [h]
  rfl
theorem mmE_o {B : Nat} {cA : Nat → ClassId} {μ : mmMem} {a ci : Nat} (h : mmKD a = ci) (hc : ci < 10) : (mmW B cA μ)[a]? = some (B + a, .inr (ci, (List.range (mmNF ci)).map (mmFV B μ a ci))) := by
  rw [mmW_get (mmKD_lt (by omega)), mmE_obj h hc]

theorem mm_uw0 : ∀ w ∈ u_ws RX0 TX0 3, w ∈ mmT := by
  have h1 : ∀ w ∈ u_ws RX0 TX0 3, w ∈ lw_tbl := by decide +kernel
  have h2 : ∀ w ∈ u_ws RX0 TX0 3, goodWord w = true := by decide +kernel
  exact fun w hw => List.mem_filter.mpr ⟨h1 w hw, h2 w hw⟩
theorem mm_ty0 : ∀ k, k < 3 → (mmFT 0 k = 0 → (tyX0 k = .int ∧ mmBool 0 k = false) ∨ (tyX0 k = .boolean ∧ mmBool 0 k = true)) ∧ (mmFT 0 k = 1 → tyX0 k = .long) ∧ (mmFT 0 k = 2 → tyX0 k = .double) := by decide +kernel
theorem mm_uw1 : ∀ w ∈ u_ws RX1 TX1 5, w ∈ mmT := by
  have h1 : ∀ w ∈ u_ws RX1 TX1 5, w ∈ lw_tbl := by decide +kernel
  have h2 : ∀ w ∈ u_ws RX1 TX1 5, goodWord w = true := by decide +kernel
  exact fun w hw => List.mem_filter.mpr ⟨h1 w hw, h2 w hw⟩
theorem mm_ty1 : ∀ k, k < 5 → (mmFT 1 k = 0 → (tyX1 k = .int ∧ mmBool 1 k = false) ∨ (tyX1 k = .boolean ∧ mmBool 1 k = true)) ∧ (mmFT 1 k = 1 → tyX1 k = .long) ∧ (mmFT 1 k = 2 → tyX1 k = .double) := by decide +kernel
theorem mm_uw2 : ∀ w ∈ u_ws RX2 TX2 3, w ∈ mmT := by
  have h1 : ∀ w ∈ u_ws RX2 TX2 3, w ∈ lw_tbl := by decide +kernel
  have h2 : ∀ w ∈ u_ws RX2 TX2 3, goodWord w = true := by decide +kernel
  exact fun w hw => List.mem_filter.mpr ⟨h1 w hw, h2 w hw⟩
theorem mm_ty2 : ∀ k, k < 3 → (mmFT 2 k = 0 → (tyX2 k = .int ∧ mmBool 2 k = false) ∨ (tyX2 k = .boolean ∧ mmBool 2 k = true)) ∧ (mmFT 2 k = 1 → tyX2 k = .long) ∧ (mmFT 2 k = 2 → tyX2 k = .double) := by decide +kernel
theorem mm_uw3 : ∀ w ∈ u_ws RX3 TX3 2, w ∈ mmT := by
  have h1 : ∀ w ∈ u_ws RX3 TX3 2, w ∈ lw_tbl := by decide +kernel
  have h2 : ∀ w ∈ u_ws RX3 TX3 2, goodWord w = true := by decide +kernel
  exact fun w hw => List.mem_filter.mpr ⟨h1 w hw, h2 w hw⟩
theorem mm_ty3 : ∀ k, k < 2 → (mmFT 3 k = 0 → (tyX3 k = .int ∧ mmBool 3 k = false) ∨ (tyX3 k = .boolean ∧ mmBool 3 k = true)) ∧ (mmFT 3 k = 1 → tyX3 k = .long) ∧ (mmFT 3 k = 2 → tyX3 k = .double) := by decide +kernel
theorem mm_uw4 : ∀ w ∈ u_ws RX4 TX4 9, w ∈ mmT := by
  have h1 : ∀ w ∈ u_ws RX4 TX4 9, w ∈ lw_tbl := by decide +kernel
  have h2 : ∀ w ∈ u_ws RX4 TX4 9, goodWord w = true := by decide +kernel
  exact fun w hw => List.mem_filter.mpr ⟨h1 w hw, h2 w hw⟩
theorem mm_ty4 : ∀ k, k < 9 → (mmFT 4 k = 0 → (tyX4 k = .int ∧ mmBool 4 k = false) ∨ (tyX4 k = .boolean ∧ mmBool 4 k = true)) ∧ (mmFT 4 k = 1 → tyX4 k = .long) ∧ (mmFT 4 k = 2 → tyX4 k = .double) := by decide +kernel
theorem mm_uw5 : ∀ w ∈ u_ws RX5 TX5 4, w ∈ mmT := by
  have h1 : ∀ w ∈ u_ws RX5 TX5 4, w ∈ lw_tbl := by decide +kernel
  have h2 : ∀ w ∈ u_ws RX5 TX5 4, goodWord w = true := by decide +kernel
  exact fun w hw => List.mem_filter.mpr ⟨h1 w hw, h2 w hw⟩
theorem mm_ty5 : ∀ k, k < 4 → (mmFT 5 k = 0 → (tyX5 k = .int ∧ mmBool 5 k = false) ∨ (tyX5 k = .boolean ∧ mmBool 5 k = true)) ∧ (mmFT 5 k = 1 → tyX5 k = .long) ∧ (mmFT 5 k = 2 → tyX5 k = .double) := by decide +kernel
theorem mm_uw6 : ∀ w ∈ u_ws RX6 TX6 2, w ∈ mmT := by
  have h1 : ∀ w ∈ u_ws RX6 TX6 2, w ∈ lw_tbl := by decide +kernel
  have h2 : ∀ w ∈ u_ws RX6 TX6 2, goodWord w = true := by decide +kernel
  exact fun w hw => List.mem_filter.mpr ⟨h1 w hw, h2 w hw⟩
theorem mm_ty6 : ∀ k, k < 2 → (mmFT 6 k = 0 → (tyX6 k = .int ∧ mmBool 6 k = false) ∨ (tyX6 k = .boolean ∧ mmBool 6 k = true)) ∧ (mmFT 6 k = 1 → tyX6 k = .long) ∧ (mmFT 6 k = 2 → tyX6 k = .double) := by decide +kernel
theorem mm_uw7 : ∀ w ∈ u_ws RX7 TX7 19, w ∈ mmT := by
  have h1 : ∀ w ∈ u_ws RX7 TX7 19, w ∈ lw_tbl := by decide +kernel
  have h2 : ∀ w ∈ u_ws RX7 TX7 19, goodWord w = true := by decide +kernel
  exact fun w hw => List.mem_filter.mpr ⟨h1 w hw, h2 w hw⟩
theorem mm_ty7 : ∀ k, k < 19 → (mmFT 7 k = 0 → (tyX7 k = .int ∧ mmBool 7 k = false) ∨ (tyX7 k = .boolean ∧ mmBool 7 k = true)) ∧ (mmFT 7 k = 1 → tyX7 k = .long) ∧ (mmFT 7 k = 2 → tyX7 k = .double) := by decide +kernel
theorem mm_uw8 : ∀ w ∈ u_ws RX8 TX8 19, w ∈ mmT := by
  have h1 : ∀ w ∈ u_ws RX8 TX8 19, w ∈ lw_tbl := by decide +kernel
  have h2 : ∀ w ∈ u_ws RX8 TX8 19, goodWord w = true := by decide +kernel
  exact fun w hw => List.mem_filter.mpr ⟨h1 w hw, h2 w hw⟩
theorem mm_ty8 : ∀ k, k < 19 → (mmFT 8 k = 0 → (tyX8 k = .int ∧ mmBool 8 k = false) ∨ (tyX8 k = .boolean ∧ mmBool 8 k = true)) ∧ (mmFT 8 k = 1 → tyX8 k = .long) ∧ (mmFT 8 k = 2 → tyX8 k = .double) := by decide +kernel
theorem mm_cls {ci : Nat} {C : String} {T : u_T} {N : Nat} (h : vwCl[ci]? = some (C, T, N)) : ci < 10 ∧ N = mmNF ci ∧ (∀ w ∈ u_ws C T N, w ∈ mmT) ∧ (∀ a, a < N → ∀ b, b < N → a ≠ b → (T a).2.1 ≠ (T b).2.1) ∧
    ∃ ty : Nat → FieldType, (∀ k, k < N → parseFieldDescriptor (T k).2.2.1 = some (ty k)) ∧ ∀ k, k < N → (mmFT ci k = 0 → (ty k = .int ∧ mmBool ci k = false) ∨ (ty k = .boolean ∧ mmBool ci k = true)) ∧ (mmFT ci k = 1 → ty k = .long) ∧ (mmFT ci k = 2 → ty k = .double) := by
  match ci, h with
  | 0, h => cases h; exact ⟨by decide, rfl, mm_uw0, nmX0, tyX0, tyX0_ok, mm_ty0⟩
  | 1, h => cases h; exact ⟨by decide, rfl, mm_uw1, nmX1, tyX1, tyX1_ok, mm_ty1⟩
  | 2, h => cases h; exact ⟨by decide, rfl, mm_uw2, nmX2, tyX2, tyX2_ok, mm_ty2⟩
  | 3, h => cases h; exact ⟨by decide, rfl, mm_uw3, nmX3, tyX3, tyX3_ok, mm_ty3⟩
  | 4, h => cases h; exact ⟨by decide, rfl, mm_uw4, nmX4, tyX4, tyX4_ok, mm_ty4⟩
  | 5, h => cases h; exact ⟨by decide, rfl, mm_uw5, nmX5, tyX5, tyX5_ok, mm_ty5⟩
  | 6, h => cases h; exact ⟨by decide, rfl, mm_uw6, nmX6, tyX6, tyX6_ok, mm_ty6⟩
  | 7, h => cases h; exact ⟨by decide, rfl, mm_uw7, nmX7, tyX7, tyX7_ok, mm_ty7⟩
  | 8, h => cases h; exact ⟨by decide, rfl, mm_uw8, nmX8, tyX8, tyX8_ok, mm_ty8⟩
  | n + 9, h => simp [vwCl] at h
theorem st_iconst {d : Nat} {M : mmMi} {P : Option Value → mmMem → Prop} {k : List Value → List Value → mmMem → Prop} {L st : List Value} {μ : mmMem} {pc len w a b : Nat} {v : Value} {Mc : mmMi} {n : Int} (hok : mmOkI M (pc, .iconst n, len, w, a, b, v, Mc) = true) (hk : ∀ L st μ, k L st μ → mmEnds d M (pc + len) L st μ P) (h : wpI d M P (pc, .iconst n, len, w, a, b, v, Mc) k L st μ) : mmEnds d M pc L st μ P := by
  obtain ⟨hd, hX⟩ := mmOkI_ok hok
  dsimp only at hd
  obtain ⟨rfl, rfl⟩ : len = 1 ∧ v = _ := by simpa [mmOkX] using hX
  intro p l e s m args below meth c H locs B H0 sk sv D cA ls hx hb hr hml hown hts hlk hS hls hH hF hB
  exact lv_iconst hx hb hd rfl (hk _ _ _ h p l e s m args below meth c H locs B H0 sk sv D cA ls hx hb hr hml hown hts hlk hS hls hH hF hB)
theorem st_bipush {d : Nat} {M : mmMi} {P : Option Value → mmMem → Prop} {k : List Value → List Value → mmMem → Prop} {L st : List Value} {μ : mmMem} {pc len w a b : Nat} {v : Value} {Mc : mmMi} {n : Int} (hok : mmOkI M (pc, .bipush n, len, w, a, b, v, Mc) = true) (hk : ∀ L st μ, k L st μ → mmEnds d M (pc + len) L st μ P) (h : wpI d M P (pc, .bipush n, len, w, a, b, v, Mc) k L st μ) : mmEnds d M pc L st μ P := by
  obtain ⟨hd, hX⟩ := mmOkI_ok hok
  dsimp only at hd
  obtain ⟨rfl, rfl⟩ : len = 2 ∧ v = _ := by simpa [mmOkX] using hX
  intro p l e s m args below meth c H locs B H0 sk sv D cA ls hx hb hr hml hown hts hlk hS hls hH hF hB
  exact lv_bipush hx hb hd rfl (hk _ _ _ h p l e s m args below meth c H locs B H0 sk sv D cA ls hx hb hr hml hown hts hlk hS hls hH hF hB)
theorem st_sipush {d : Nat} {M : mmMi} {P : Option Value → mmMem → Prop} {k : List Value → List Value → mmMem → Prop} {L st : List Value} {μ : mmMem} {pc len w a b : Nat} {v : Value} {Mc : mmMi} {n : Int} (hok : mmOkI M (pc, .sipush n, len, w, a, b, v, Mc) = true) (hk : ∀ L st μ, k L st μ → mmEnds d M (pc + len) L st μ P) (h : wpI d M P (pc, .sipush n, len, w, a, b, v, Mc) k L st μ) : mmEnds d M pc L st μ P := by
  obtain ⟨hd, hX⟩ := mmOkI_ok hok
  dsimp only at hd
  obtain ⟨rfl, rfl⟩ : len = 3 ∧ v = _ := by simpa [mmOkX] using hX
  intro p l e s m args below meth c H locs B H0 sk sv D cA ls hx hb hr hml hown hts hlk hS hls hH hF hB
  exact lv_sipush hx hb hd rfl (hk _ _ _ h p l e s m args below meth c H locs B H0 sk sv D cA ls hx hb hr hml hown hts hlk hS hls hH hF hB)
theorem st_lconst {d : Nat} {M : mmMi} {P : Option Value → mmMem → Prop} {k : List Value → List Value → mmMem → Prop} {L st : List Value} {μ : mmMem} {pc len w a b : Nat} {v : Value} {Mc : mmMi} {n : Fin 2} (hok : mmOkI M (pc, .lconst n, len, w, a, b, v, Mc) = true) (hk : ∀ L st μ, k L st μ → mmEnds d M (pc + len) L st μ P) (h : wpI d M P (pc, .lconst n, len, w, a, b, v, Mc) k L st μ) : mmEnds d M pc L st μ P := by
  obtain ⟨hd, hX⟩ := mmOkI_ok hok
  dsimp only at hd
  obtain ⟨rfl, rfl⟩ : len = 1 ∧ v = _ := by simpa [mmOkX] using hX
  intro p l e s m args below meth c H locs B H0 sk sv D cA ls hx hb hr hml hown hts hlk hS hls hH hF hB
  exact lv_lconst hx hb hd rfl (hk _ _ _ h p l e s m args below meth c H locs B H0 sk sv D cA ls hx hb hr hml hown hts hlk hS hls hH hF hB)
theorem st_dconst {d : Nat} {M : mmMi} {P : Option Value → mmMem → Prop} {k : List Value → List Value → mmMem → Prop} {L st : List Value} {μ : mmMem} {pc len w a b : Nat} {v : Value} {Mc : mmMi} {n : Fin 2} (hok : mmOkI M (pc, .dconst n, len, w, a, b, v, Mc) = true) (hk : ∀ L st μ, k L st μ → mmEnds d M (pc + len) L st μ P) (h : wpI d M P (pc, .dconst n, len, w, a, b, v, Mc) k L st μ) : mmEnds d M pc L st μ P := by
  obtain ⟨hd, hX⟩ := mmOkI_ok hok
  dsimp only at hd
  match n, hd, hX, hok, h with
  | 0, hd, hX, hok, h =>
    obtain ⟨rfl, rfl⟩ : len = 1 ∧ v = _ := by simpa [mmOkX] using hX
    intro p l e s m args below meth c H locs B H0 sk sv D cA ls hx hb hr hml hown hts hlk hS hls hH hF hB
    exact lv_dconst0 hx hb hd (hk _ _ _ h p l e s m args below meth c H locs B H0 sk sv D cA ls hx hb hr hml hown hts hlk hS hls hH hF hB)
  | 1, hd, hX, hok, h =>
    obtain ⟨rfl, rfl⟩ : len = 1 ∧ v = _ := by simpa [mmOkX] using hX
    intro p l e s m args below meth c H locs B H0 sk sv D cA ls hx hb hr hml hown hts hlk hS hls hH hF hB
    exact lv_dconst1 hx hb hd (hk _ _ _ h p l e s m args below meth c H locs B H0 sk sv D cA ls hx hb hr hml hown hts hlk hS hls hH hF hB)
theorem st_ldc {d : Nat} {M : mmMi} {P : Option Value → mmMem → Prop} {k : List Value → List Value → mmMem → Prop} {L st : List Value} {μ : mmMem} {pc len w a b : Nat} {v : Value} {Mc : mmMi} {n : Nat} (hok : mmOkI M (pc, .ldc n, len, w, a, b, v, Mc) = true) (hk : ∀ L st μ, k L st μ → mmEnds d M (pc + len) L st μ P) (h : wpI d M P (pc, .ldc n, len, w, a, b, v, Mc) k L st μ) : mmEnds d M pc L st μ P := by
  obtain ⟨hd, hX⟩ := mmOkI_ok hok
  dsimp only at hd
  cases v with
  | int x =>
    obtain ⟨rfl, hw⟩ : len = 2 ∧ lw_tbl[w]? = some (.constant M.1.cls n x) := by simpa [mmOkX] using hX
    intro p l e s m args below meth c H locs B H0 sk sv D cA ls hx hb hr hml hown hts hlk hS hls hH hF hB
    exact lv_ldc hx hb hown (mm_word (M := M) hts hw rfl) hd (hk _ _ _ h p l e s m args below meth c H locs B H0 sk sv D cA ls hx hb hr hml hown hts hlk hS hls hH hF hB)
  | float x =>
    obtain ⟨rfl, hw⟩ : len = 2 ∧ lw_tbl[w]? = some (.constantFloat M.1.cls n x) := by simpa [mmOkX] using hX
    intro p l e s m args below meth c H locs B H0 sk sv D cA ls hx hb hr hml hown hts hlk hS hls hH hF hB
    exact lv_ldcf hx hb hown (mm_word (M := M) hts hw rfl) hd (hk _ _ _ h p l e s m args below meth c H locs B H0 sk sv D cA ls hx hb hr hml hown hts hlk hS hls hH hF hB)
  | retAddr x =>
    match x, hX, h, hok with
    | 0, hX, h, hok =>
      obtain ⟨rfl, hw⟩ : len = 2 ∧ ((M.1.cls = RX5 ∧ n = 51) ∨ (M.1.cls = RX3 ∧ n = 26) ∨ (M.1.cls = RX8 ∧ n = 282)) := by simpa [mmOkX] using hX
      intro p l e s m args below meth c H locs B H0 sk sv D cA ls hx hb hr hml hown hts hlk hS hls hH hF hB
      refine va_ldcS (own := M.1.cls) (tx := "zbcsilfdwon") (q := sk 0) hx hb hown ?_ hd (hk _ _ _ h p l e s m args below meth c H locs B H0 sk sv D cA ls hx hb hr hml hown hts hlk hS hls hH hF hB)
      obtain ⟨-, -, h2, h3, h4, -⟩ := hS
      rcases hw with ⟨e1, rfl⟩ | ⟨e1, rfl⟩ | ⟨e1, rfl⟩
      · rw [e1]; exact h2
      · rw [e1]; exact h3
      · rw [e1]; exact h4
    | x + 1, hX, h, hok => simp [mmOkX] at hX
  | _ => simp [mmOkX] at hX
theorem st_ldc_w {d : Nat} {M : mmMi} {P : Option Value → mmMem → Prop} {k : List Value → List Value → mmMem → Prop} {L st : List Value} {μ : mmMem} {pc len w a b : Nat} {v : Value} {Mc : mmMi} {n : Nat} (hok : mmOkI M (pc, .ldc_w n, len, w, a, b, v, Mc) = true) (hk : ∀ L st μ, k L st μ → mmEnds d M (pc + len) L st μ P) (h : wpI d M P (pc, .ldc_w n, len, w, a, b, v, Mc) k L st μ) : mmEnds d M pc L st μ P := by
  obtain ⟨hd, hX⟩ := mmOkI_ok hok
  dsimp only at hd
  cases v with
  | int x =>
    obtain ⟨rfl, hw⟩ : len = 3 ∧ lw_tbl[w]? = some (.constant M.1.cls n x) := by simpa [mmOkX] using hX
    intro p l e s m args below meth c H locs B H0 sk sv D cA ls hx hb hr hml hown hts hlk hS hls hH hF hB
    exact lv_ldcw hx hb hown (mm_word (M := M) hts hw rfl) hd (hk _ _ _ h p l e s m args below meth c H locs B H0 sk sv D cA ls hx hb hr hml hown hts hlk hS hls hH hF hB)
  | _ => simp [mmOkX] at hX
theorem st_ldc2_w {d : Nat} {M : mmMi} {P : Option Value → mmMem → Prop} {k : List Value → List Value → mmMem → Prop} {L st : List Value} {μ : mmMem} {pc len w a b : Nat} {v : Value} {Mc : mmMi} {n : Nat} (hok : mmOkI M (pc, .ldc2_w n, len, w, a, b, v, Mc) = true) (hk : ∀ L st μ, k L st μ → mmEnds d M (pc + len) L st μ P) (h : wpI d M P (pc, .ldc2_w n, len, w, a, b, v, Mc) k L st μ) : mmEnds d M pc L st μ P := by
  obtain ⟨hd, hX⟩ := mmOkI_ok hok
  dsimp only at hd
  cases v with
  | long x =>
    obtain ⟨rfl, hw⟩ : len = 3 ∧ lw_tbl[w]? = some (.constantLong M.1.cls n x) := by simpa [mmOkX] using hX
    intro p l e s m args below meth c H locs B H0 sk sv D cA ls hx hb hr hml hown hts hlk hS hls hH hF hB
    exact lv_ldc2 hx hb hown (mm_word (M := M) hts hw rfl) hd (hk _ _ _ h p l e s m args below meth c H locs B H0 sk sv D cA ls hx hb hr hml hown hts hlk hS hls hH hF hB)
  | double x =>
    obtain ⟨rfl, hw⟩ : len = 3 ∧ lw_tbl[w]? = some (.constantDouble M.1.cls n x) := by simpa [mmOkX] using hX
    intro p l e s m args below meth c H locs B H0 sk sv D cA ls hx hb hr hml hown hts hlk hS hls hH hF hB
    exact lv_ldc2d hx hb hown (mm_word (M := M) hts hw rfl) hd (hk _ _ _ h p l e s m args below meth c H locs B H0 sk sv D cA ls hx hb hr hml hown hts hlk hS hls hH hF hB)
  | _ => simp [mmOkX] at hX
theorem st_iload {d : Nat} {M : mmMi} {P : Option Value → mmMem → Prop} {k : List Value → List Value → mmMem → Prop} {L st : List Value} {μ : mmMem} {pc len w a b : Nat} {v : Value} {Mc : mmMi} {i : Nat} (hok : mmOkI M (pc, .iload i, len, w, a, b, v, Mc) = true) (hk : ∀ L st μ, k L st μ → mmEnds d M (pc + len) L st μ P) (h : wpI d M P (pc, .iload i, len, w, a, b, v, Mc) k L st μ) : mmEnds d M pc L st μ P := by
  obtain ⟨hd, hX⟩ := mmOkI_ok hok
  dsimp only at hd
  obtain rfl : len = 2 := by simpa [mmOkX] using hX
  obtain ⟨x, hg, h⟩ := gI_ok h
  intro p l e s m args below meth c H locs B H0 sk sv D cA ls hx hb hr hml hown hts hlk hS hls hH hF hB
  exact lv_iload hx hb hd (hls.at hg (fun hq => by cases hq)) (hk _ _ _ h p l e s m args below meth c H locs B H0 sk sv D cA ls hx hb hr hml hown hts hlk hS hls hH hF hB)
theorem st_iload_n {d : Nat} {M : mmMi} {P : Option Value → mmMem → Prop} {k : List Value → List Value → mmMem → Prop} {L st : List Value} {μ : mmMem} {pc len w a b : Nat} {v : Value} {Mc : mmMi} {i : Fin 4} (hok : mmOkI M (pc, .iload_n i, len, w, a, b, v, Mc) = true) (hk : ∀ L st μ, k L st μ → mmEnds d M (pc + len) L st μ P) (h : wpI d M P (pc, .iload_n i, len, w, a, b, v, Mc) k L st μ) : mmEnds d M pc L st μ P := by
  obtain ⟨hd, hX⟩ := mmOkI_ok hok
  dsimp only at hd
  obtain rfl : len = 1 := by simpa [mmOkX] using hX
  obtain ⟨x, hg, h⟩ := gI_ok h
  intro p l e s m args below meth c H locs B H0 sk sv D cA ls hx hb hr hml hown hts hlk hS hls hH hF hB
  exact lv_iload_n hx hb hd rfl (hls.at hg (fun hq => by cases hq)) (hk _ _ _ h p l e s m args below meth c H locs B H0 sk sv D cA ls hx hb hr hml hown hts hlk hS hls hH hF hB)
theorem st_lload {d : Nat} {M : mmMi} {P : Option Value → mmMem → Prop} {k : List Value → List Value → mmMem → Prop} {L st : List Value} {μ : mmMem} {pc len w a b : Nat} {v : Value} {Mc : mmMi} {i : Nat} (hok : mmOkI M (pc, .lload i, len, w, a, b, v, Mc) = true) (hk : ∀ L st μ, k L st μ → mmEnds d M (pc + len) L st μ P) (h : wpI d M P (pc, .lload i, len, w, a, b, v, Mc) k L st μ) : mmEnds d M pc L st μ P := by
  obtain ⟨hd, hX⟩ := mmOkI_ok hok
  dsimp only at hd
  obtain rfl : len = 2 := by simpa [mmOkX] using hX
  obtain ⟨x, hg, h⟩ := gJ_ok h
  intro p l e s m args below meth c H locs B H0 sk sv D cA ls hx hb hr hml hown hts hlk hS hls hH hF hB
  exact lv_lload hx hb hd (hls.at hg (fun hq => by cases hq)) (hk _ _ _ h p l e s m args below meth c H locs B H0 sk sv D cA ls hx hb hr hml hown hts hlk hS hls hH hF hB)
theorem st_lload_n {d : Nat} {M : mmMi} {P : Option Value → mmMem → Prop} {k : List Value → List Value → mmMem → Prop} {L st : List Value} {μ : mmMem} {pc len w a b : Nat} {v : Value} {Mc : mmMi} {i : Fin 4} (hok : mmOkI M (pc, .lload_n i, len, w, a, b, v, Mc) = true) (hk : ∀ L st μ, k L st μ → mmEnds d M (pc + len) L st μ P) (h : wpI d M P (pc, .lload_n i, len, w, a, b, v, Mc) k L st μ) : mmEnds d M pc L st μ P := by
  obtain ⟨hd, hX⟩ := mmOkI_ok hok
  dsimp only at hd
  obtain rfl : len = 1 := by simpa [mmOkX] using hX
  obtain ⟨x, hg, h⟩ := gJ_ok h
  intro p l e s m args below meth c H locs B H0 sk sv D cA ls hx hb hr hml hown hts hlk hS hls hH hF hB
  exact lv_lload_n hx hb hd rfl (hls.at hg (fun hq => by cases hq)) (hk _ _ _ h p l e s m args below meth c H locs B H0 sk sv D cA ls hx hb hr hml hown hts hlk hS hls hH hF hB)
theorem st_fload {d : Nat} {M : mmMi} {P : Option Value → mmMem → Prop} {k : List Value → List Value → mmMem → Prop} {L st : List Value} {μ : mmMem} {pc len w a b : Nat} {v : Value} {Mc : mmMi} {i : Nat} (hok : mmOkI M (pc, .fload i, len, w, a, b, v, Mc) = true) (hk : ∀ L st μ, k L st μ → mmEnds d M (pc + len) L st μ P) (h : wpI d M P (pc, .fload i, len, w, a, b, v, Mc) k L st μ) : mmEnds d M pc L st μ P := by
  obtain ⟨hd, hX⟩ := mmOkI_ok hok
  dsimp only at hd
  obtain rfl : len = 2 := by simpa [mmOkX] using hX
  obtain ⟨x, hg, h⟩ := gF_ok h
  intro p l e s m args below meth c H locs B H0 sk sv D cA ls hx hb hr hml hown hts hlk hS hls hH hF hB
  exact lv_fload hx hb hd (hls.at hg (fun hq => by cases hq)) (hk _ _ _ h p l e s m args below meth c H locs B H0 sk sv D cA ls hx hb hr hml hown hts hlk hS hls hH hF hB)
theorem st_fload_n {d : Nat} {M : mmMi} {P : Option Value → mmMem → Prop} {k : List Value → List Value → mmMem → Prop} {L st : List Value} {μ : mmMem} {pc len w a b : Nat} {v : Value} {Mc : mmMi} {i : Fin 4} (hok : mmOkI M (pc, .fload_n i, len, w, a, b, v, Mc) = true) (hk : ∀ L st μ, k L st μ → mmEnds d M (pc + len) L st μ P) (h : wpI d M P (pc, .fload_n i, len, w, a, b, v, Mc) k L st μ) : mmEnds d M pc L st μ P := by
  obtain ⟨hd, hX⟩ := mmOkI_ok hok
  dsimp only at hd
  obtain rfl : len = 1 := by simpa [mmOkX] using hX
  obtain ⟨x, hg, h⟩ := gF_ok h
  intro p l e s m args below meth c H locs B H0 sk sv D cA ls hx hb hr hml hown hts hlk hS hls hH hF hB
  exact lv_fload_n hx hb hd rfl (hls.at hg (fun hq => by cases hq)) (hk _ _ _ h p l e s m args below meth c H locs B H0 sk sv D cA ls hx hb hr hml hown hts hlk hS hls hH hF hB)
theorem st_dload {d : Nat} {M : mmMi} {P : Option Value → mmMem → Prop} {k : List Value → List Value → mmMem → Prop} {L st : List Value} {μ : mmMem} {pc len w a b : Nat} {v : Value} {Mc : mmMi} {i : Nat} (hok : mmOkI M (pc, .dload i, len, w, a, b, v, Mc) = true) (hk : ∀ L st μ, k L st μ → mmEnds d M (pc + len) L st μ P) (h : wpI d M P (pc, .dload i, len, w, a, b, v, Mc) k L st μ) : mmEnds d M pc L st μ P := by
  obtain ⟨hd, hX⟩ := mmOkI_ok hok
  dsimp only at hd
  obtain rfl : len = 2 := by simpa [mmOkX] using hX
  obtain ⟨x, hg, h⟩ := gD_ok h
  intro p l e s m args below meth c H locs B H0 sk sv D cA ls hx hb hr hml hown hts hlk hS hls hH hF hB
  exact lv_dload hx hb hd (hls.at hg (fun hq => by cases hq)) (hk _ _ _ h p l e s m args below meth c H locs B H0 sk sv D cA ls hx hb hr hml hown hts hlk hS hls hH hF hB)
theorem st_dload_n {d : Nat} {M : mmMi} {P : Option Value → mmMem → Prop} {k : List Value → List Value → mmMem → Prop} {L st : List Value} {μ : mmMem} {pc len w a b : Nat} {v : Value} {Mc : mmMi} {i : Fin 4} (hok : mmOkI M (pc, .dload_n i, len, w, a, b, v, Mc) = true) (hk : ∀ L st μ, k L st μ → mmEnds d M (pc + len) L st μ P) (h : wpI d M P (pc, .dload_n i, len, w, a, b, v, Mc) k L st μ) : mmEnds d M pc L st μ P := by
  obtain ⟨hd, hX⟩ := mmOkI_ok hok
  dsimp only at hd
  obtain rfl : len = 1 := by simpa [mmOkX] using hX
  obtain ⟨x, hg, h⟩ := gD_ok h
  intro p l e s m args below meth c H locs B H0 sk sv D cA ls hx hb hr hml hown hts hlk hS hls hH hF hB
  exact lv_dload_n hx hb hd rfl (hls.at hg (fun hq => by cases hq)) (hk _ _ _ h p l e s m args below meth c H locs B H0 sk sv D cA ls hx hb hr hml hown hts hlk hS hls hH hF hB)
theorem st_aload {d : Nat} {M : mmMi} {P : Option Value → mmMem → Prop} {k : List Value → List Value → mmMem → Prop} {L st : List Value} {μ : mmMem} {pc len w a b : Nat} {v : Value} {Mc : mmMi} {i : Nat} (hok : mmOkI M (pc, .aload i, len, w, a, b, v, Mc) = true) (hk : ∀ L st μ, k L st μ → mmEnds d M (pc + len) L st μ P) (h : wpI d M P (pc, .aload i, len, w, a, b, v, Mc) k L st μ) : mmEnds d M pc L st μ P := by
  obtain ⟨hd, hX⟩ := mmOkI_ok hok
  dsimp only at hd
  obtain rfl : len = 2 := by simpa [mmOkX] using hX
  obtain ⟨x, hg, h⟩ := gA_ok h
  intro p l e s m args below meth c H locs B H0 sk sv D cA ls hx hb hr hml hown hts hlk hS hls hH hF hB
  exact lv_aload hx hb hd (hls.at hg (fun hq => by cases hq)) (hk _ _ _ h p l e s m args below meth c H locs B H0 sk sv D cA ls hx hb hr hml hown hts hlk hS hls hH hF hB)
theorem st_aload_n {d : Nat} {M : mmMi} {P : Option Value → mmMem → Prop} {k : List Value → List Value → mmMem → Prop} {L st : List Value} {μ : mmMem} {pc len w a b : Nat} {v : Value} {Mc : mmMi} {i : Fin 4} (hok : mmOkI M (pc, .aload_n i, len, w, a, b, v, Mc) = true) (hk : ∀ L st μ, k L st μ → mmEnds d M (pc + len) L st μ P) (h : wpI d M P (pc, .aload_n i, len, w, a, b, v, Mc) k L st μ) : mmEnds d M pc L st μ P := by
  obtain ⟨hd, hX⟩ := mmOkI_ok hok
  dsimp only at hd
  obtain rfl : len = 1 := by simpa [mmOkX] using hX
  obtain ⟨x, hg, h⟩ := gA_ok h
  intro p l e s m args below meth c H locs B H0 sk sv D cA ls hx hb hr hml hown hts hlk hS hls hH hF hB
  exact lv_aload_n hx hb hd rfl (hls.at hg (fun hq => by cases hq)) (hk _ _ _ h p l e s m args below meth c H locs B H0 sk sv D cA ls hx hb hr hml hown hts hlk hS hls hH hF hB)
theorem st_istore {d : Nat} {M : mmMi} {P : Option Value → mmMem → Prop} {k : List Value → List Value → mmMem → Prop} {L st : List Value} {μ : mmMem} {pc len w a b : Nat} {v : Value} {Mc : mmMi} {i : Nat} (hok : mmOkI M (pc, .istore i, len, w, a, b, v, Mc) = true) (hk : ∀ L st μ, k L st μ → mmEnds d M (pc + len) L st μ P) (h : wpI d M P (pc, .istore i, len, w, a, b, v, Mc) k L st μ) : mmEnds d M pc L st μ P := by
  obtain ⟨hd, hX⟩ := mmOkI_ok hok
  dsimp only at hd
  obtain ⟨rfl, hi⟩ : len = 2 ∧ i < M.2.2.1 := by simpa [mmOkX] using hX
  obtain ⟨x, r, rfl, h⟩ := pI_ok h
  obtain ⟨hm, h⟩ := mif_ok h
  intro p l e s m args below meth c H locs B H0 sk sv D cA ls hx hb hr hml hown hts hlk hS hls hH hF hB
  obtain ⟨lv, hlv, hmem⟩ := hls
  exact lv_istore hx hb hd hlv hi rfl (fun ls2 hls2 => hk _ _ _ h p l e s m args below meth c H locs B H0 sk sv D cA _ hx hb hr hml hown hts hlk hS (mmLs.st1 a i (.int x) hmem (mk1_ok hm) rfl hls2) hH hF hB)
theorem st_istore_n {d : Nat} {M : mmMi} {P : Option Value → mmMem → Prop} {k : List Value → List Value → mmMem → Prop} {L st : List Value} {μ : mmMem} {pc len w a b : Nat} {v : Value} {Mc : mmMi} {i : Fin 4} (hok : mmOkI M (pc, .istore_n i, len, w, a, b, v, Mc) = true) (hk : ∀ L st μ, k L st μ → mmEnds d M (pc + len) L st μ P) (h : wpI d M P (pc, .istore_n i, len, w, a, b, v, Mc) k L st μ) : mmEnds d M pc L st μ P := by
  obtain ⟨hd, hX⟩ := mmOkI_ok hok
  dsimp only at hd
  obtain ⟨rfl, hi⟩ : len = 1 ∧ (i : Nat) < M.2.2.1 := by simpa [mmOkX] using hX
  obtain ⟨x, r, rfl, h⟩ := pI_ok h
  obtain ⟨hm, h⟩ := mif_ok h
  intro p l e s m args below meth c H locs B H0 sk sv D cA ls hx hb hr hml hown hts hlk hS hls hH hF hB
  obtain ⟨lv, hlv, hmem⟩ := hls
  exact lv_istore_n hx hb hd rfl hlv hi rfl (fun ls2 hls2 => hk _ _ _ h p l e s m args below meth c H locs B H0 sk sv D cA _ hx hb hr hml hown hts hlk hS (mmLs.st1 a i (.int x) hmem (mk1_ok hm) rfl hls2) hH hF hB)
theorem st_astore {d : Nat} {M : mmMi} {P : Option Value → mmMem → Prop} {k : List Value → List Value → mmMem → Prop} {L st : List Value} {μ : mmMem} {pc len w a b : Nat} {v : Value} {Mc : mmMi} {i : Nat} (hok : mmOkI M (pc, .astore i, len, w, a, b, v, Mc) = true) (hk : ∀ L st μ, k L st μ → mmEnds d M (pc + len) L st μ P) (h : wpI d M P (pc, .astore i, len, w, a, b, v, Mc) k L st μ) : mmEnds d M pc L st μ P := by
  obtain ⟨hd, hX⟩ := mmOkI_ok hok
  dsimp only at hd
  obtain ⟨rfl, hi⟩ : len = 2 ∧ i < M.2.2.1 := by simpa [mmOkX] using hX
  obtain ⟨x, r, rfl, h⟩ := pA_ok h
  obtain ⟨hm, h⟩ := mif_ok h
  intro p l e s m args below meth c H locs B H0 sk sv D cA ls hx hb hr hml hown hts hlk hS hls hH hF hB
  obtain ⟨lv, hlv, hmem⟩ := hls
  exact lv_astore hx hb hd hlv hi rfl (fun ls2 hls2 => hk _ _ _ h p l e s m args below meth c H locs B H0 sk sv D cA _ hx hb hr hml hown hts hlk hS (mmLs.st1 a i (.ref x) hmem (mk1_ok hm) rfl hls2) hH hF hB)
theorem st_astore_n {d : Nat} {M : mmMi} {P : Option Value → mmMem → Prop} {k : List Value → List Value → mmMem → Prop} {L st : List Value} {μ : mmMem} {pc len w a b : Nat} {v : Value} {Mc : mmMi} {i : Fin 4} (hok : mmOkI M (pc, .astore_n i, len, w, a, b, v, Mc) = true) (hk : ∀ L st μ, k L st μ → mmEnds d M (pc + len) L st μ P) (h : wpI d M P (pc, .astore_n i, len, w, a, b, v, Mc) k L st μ) : mmEnds d M pc L st μ P := by
  obtain ⟨hd, hX⟩ := mmOkI_ok hok
  dsimp only at hd
  obtain ⟨rfl, hi⟩ : len = 1 ∧ (i : Nat) < M.2.2.1 := by simpa [mmOkX] using hX
  obtain ⟨x, r, rfl, h⟩ := pA_ok h
  obtain ⟨hm, h⟩ := mif_ok h
  intro p l e s m args below meth c H locs B H0 sk sv D cA ls hx hb hr hml hown hts hlk hS hls hH hF hB
  obtain ⟨lv, hlv, hmem⟩ := hls
  exact lv_astore_n hx hb hd rfl hlv hi rfl (fun ls2 hls2 => hk _ _ _ h p l e s m args below meth c H locs B H0 sk sv D cA _ hx hb hr hml hown hts hlk hS (mmLs.st1 a i (.ref x) hmem (mk1_ok hm) rfl hls2) hH hF hB)
theorem st_lstore {d : Nat} {M : mmMi} {P : Option Value → mmMem → Prop} {k : List Value → List Value → mmMem → Prop} {L st : List Value} {μ : mmMem} {pc len w a b : Nat} {v : Value} {Mc : mmMi} {i : Nat} (hok : mmOkI M (pc, .lstore i, len, w, a, b, v, Mc) = true) (hk : ∀ L st μ, k L st μ → mmEnds d M (pc + len) L st μ P) (h : wpI d M P (pc, .lstore i, len, w, a, b, v, Mc) k L st μ) : mmEnds d M pc L st μ P := by
  obtain ⟨hd, hX⟩ := mmOkI_ok hok
  dsimp only at hd
  obtain ⟨rfl, hi⟩ : len = 2 ∧ i + 1 < M.2.2.1 := by simpa [mmOkX] using hX
  obtain ⟨x, r, rfl, h⟩ := pJ_ok h
  obtain ⟨hm, h⟩ := mif_ok h
  intro p l e s m args below meth c H locs B H0 sk sv D cA ls hx hb hr hml hown hts hlk hS hls hH hF hB
  obtain ⟨lv, hlv, hmem⟩ := hls
  exact lv_lstore hx hb hd hlv hi rfl (fun ls2 hls2 => hk _ _ _ h p l e s m args below meth c H locs B H0 sk sv D cA _ hx hb hr hml hown hts hlk hS (mmLs.st2 a i (.long x) hmem (mk1_ok hm) rfl hls2) hH hF hB)
theorem st_lstore_n {d : Nat} {M : mmMi} {P : Option Value → mmMem → Prop} {k : List Value → List Value → mmMem → Prop} {L st : List Value} {μ : mmMem} {pc len w a b : Nat} {v : Value} {Mc : mmMi} {i : Fin 4} (hok : mmOkI M (pc, .lstore_n i, len, w, a, b, v, Mc) = true) (hk : ∀ L st μ, k L st μ → mmEnds d M (pc + len) L st μ P) (h : wpI d M P (pc, .lstore_n i, len, w, a, b, v, Mc) k L st μ) : mmEnds d M pc L st μ P := by
  obtain ⟨hd, hX⟩ := mmOkI_ok hok
  dsimp only at hd
  obtain ⟨rfl, hi⟩ : len = 1 ∧ (i : Nat) + 1 < M.2.2.1 := by simpa [mmOkX] using hX
  obtain ⟨x, r, rfl, h⟩ := pJ_ok h
  obtain ⟨hm, h⟩ := mif_ok h
  intro p l e s m args below meth c H locs B H0 sk sv D cA ls hx hb hr hml hown hts hlk hS hls hH hF hB
  obtain ⟨lv, hlv, hmem⟩ := hls
  exact lv_lstore_n hx hb hd rfl hlv hi rfl (fun ls2 hls2 => hk _ _ _ h p l e s m args below meth c H locs B H0 sk sv D cA _ hx hb hr hml hown hts hlk hS (mmLs.st2 a i (.long x) hmem (mk1_ok hm) rfl hls2) hH hF hB)
theorem st_dstore {d : Nat} {M : mmMi} {P : Option Value → mmMem → Prop} {k : List Value → List Value → mmMem → Prop} {L st : List Value} {μ : mmMem} {pc len w a b : Nat} {v : Value} {Mc : mmMi} {i : Nat} (hok : mmOkI M (pc, .dstore i, len, w, a, b, v, Mc) = true) (hk : ∀ L st μ, k L st μ → mmEnds d M (pc + len) L st μ P) (h : wpI d M P (pc, .dstore i, len, w, a, b, v, Mc) k L st μ) : mmEnds d M pc L st μ P := by
  obtain ⟨hd, hX⟩ := mmOkI_ok hok
  dsimp only at hd
  obtain ⟨rfl, hi⟩ : len = 2 ∧ i + 1 < M.2.2.1 := by simpa [mmOkX] using hX
  obtain ⟨x, r, rfl, h⟩ := pD_ok h
  obtain ⟨hm, h⟩ := mif_ok h
  intro p l e s m args below meth c H locs B H0 sk sv D cA ls hx hb hr hml hown hts hlk hS hls hH hF hB
  obtain ⟨lv, hlv, hmem⟩ := hls
  exact lv_dstore hx hb hd hlv hi rfl (fun ls2 hls2 => hk _ _ _ h p l e s m args below meth c H locs B H0 sk sv D cA _ hx hb hr hml hown hts hlk hS (mmLs.st2 a i (.double x) hmem (mk1_ok hm) rfl hls2) hH hF hB)
theorem st_dstore_n {d : Nat} {M : mmMi} {P : Option Value → mmMem → Prop} {k : List Value → List Value → mmMem → Prop} {L st : List Value} {μ : mmMem} {pc len w a b : Nat} {v : Value} {Mc : mmMi} {i : Fin 4} (hok : mmOkI M (pc, .dstore_n i, len, w, a, b, v, Mc) = true) (hk : ∀ L st μ, k L st μ → mmEnds d M (pc + len) L st μ P) (h : wpI d M P (pc, .dstore_n i, len, w, a, b, v, Mc) k L st μ) : mmEnds d M pc L st μ P := by
  obtain ⟨hd, hX⟩ := mmOkI_ok hok
  dsimp only at hd
  obtain ⟨rfl, hi⟩ : len = 1 ∧ (i : Nat) + 1 < M.2.2.1 := by simpa [mmOkX] using hX
  obtain ⟨x, r, rfl, h⟩ := pD_ok h
  obtain ⟨hm, h⟩ := mif_ok h
  intro p l e s m args below meth c H locs B H0 sk sv D cA ls hx hb hr hml hown hts hlk hS hls hH hF hB
  obtain ⟨lv, hlv, hmem⟩ := hls
  exact lv_dstore_n hx hb hd rfl hlv hi rfl (fun ls2 hls2 => hk _ _ _ h p l e s m args below meth c H locs B H0 sk sv D cA _ hx hb hr hml hown hts hlk hS (mmLs.st2 a i (.double x) hmem (mk1_ok hm) rfl hls2) hH hF hB)
theorem st_iinc {d : Nat} {M : mmMi} {P : Option Value → mmMem → Prop} {k : List Value → List Value → mmMem → Prop} {L st : List Value} {μ : mmMem} {pc len w a b : Nat} {v : Value} {Mc : mmMi} {i : Nat} {n : Int} (hok : mmOkI M (pc, .iinc i n, len, w, a, b, v, Mc) = true) (hk : ∀ L st μ, k L st μ → mmEnds d M (pc + len) L st μ P) (h : wpI d M P (pc, .iinc i n, len, w, a, b, v, Mc) k L st μ) : mmEnds d M pc L st μ P := by
  obtain ⟨hd, hX⟩ := mmOkI_ok hok
  dsimp only at hd
  obtain ⟨⟨rfl, hi⟩, rfl⟩ : (len = 3 ∧ i < M.2.2.1) ∧ v = .int (Int32.ofInt n) := by simpa [mmOkX] using hX
  obtain ⟨x, hg, h⟩ := gI_ok h
  obtain ⟨hm, h⟩ := mif_ok h
  intro p l e s m args below meth c H locs B H0 sk sv D cA ls hx hb hr hml hown hts hlk hS hls hH hF hB
  obtain ⟨lv, hlv, hmem⟩ := hls
  obtain ⟨j, hj⟩ := List.getElem?_of_mem (hmem i (.int x) (mget_some hg (fun hq => by cases hq)) (fun hq => by cases hq))
  exact lv_iinc hx hb hd hlv hj rfl hi rfl (fun ls2 hls2 => hk _ _ _ h p l e s m args below meth c H locs B H0 sk sv D cA _ hx hb hr hml hown hts hlk hS (mmLs.st1 a i (.int (x + Int32.ofInt n)) hmem (mk1_ok hm) rfl hls2) hH hF hB)
theorem st_iadd {d : Nat} {M : mmMi} {P : Option Value → mmMem → Prop} {k : List Value → List Value → mmMem → Prop} {L st : List Value} {μ : mmMem} {pc len w a b : Nat} {v : Value} {Mc : mmMi} (hok : mmOkI M (pc, .iadd, len, w, a, b, v, Mc) = true) (hk : ∀ L st μ, k L st μ → mmEnds d M (pc + len) L st μ P) (h : wpI d M P (pc, .iadd, len, w, a, b, v, Mc) k L st μ) : mmEnds d M pc L st μ P := by
  obtain ⟨hd, hX⟩ := mmOkI_ok hok
  dsimp only at hd
  obtain rfl : len = 1 := by simpa [mmOkX] using hX
  obtain ⟨y, r, rfl, h⟩ := pI_ok h
  obtain ⟨x, r, rfl, h⟩ := pI_ok h
  intro p l e s m args below meth c H locs B H0 sk sv D cA ls hx hb hr hml hown hts hlk hS hls hH hF hB
  exact lv_iadd hx hb hd (hk _ _ _ h p l e s m args below meth c H locs B H0 sk sv D cA ls hx hb hr hml hown hts hlk hS hls hH hF hB)
theorem st_isub {d : Nat} {M : mmMi} {P : Option Value → mmMem → Prop} {k : List Value → List Value → mmMem → Prop} {L st : List Value} {μ : mmMem} {pc len w a b : Nat} {v : Value} {Mc : mmMi} (hok : mmOkI M (pc, .isub, len, w, a, b, v, Mc) = true) (hk : ∀ L st μ, k L st μ → mmEnds d M (pc + len) L st μ P) (h : wpI d M P (pc, .isub, len, w, a, b, v, Mc) k L st μ) : mmEnds d M pc L st μ P := by
  obtain ⟨hd, hX⟩ := mmOkI_ok hok
  dsimp only at hd
  obtain rfl : len = 1 := by simpa [mmOkX] using hX
  obtain ⟨y, r, rfl, h⟩ := pI_ok h
  obtain ⟨x, r, rfl, h⟩ := pI_ok h
  intro p l e s m args below meth c H locs B H0 sk sv D cA ls hx hb hr hml hown hts hlk hS hls hH hF hB
  exact lv_isub hx hb hd (hk _ _ _ h p l e s m args below meth c H locs B H0 sk sv D cA ls hx hb hr hml hown hts hlk hS hls hH hF hB)
theorem st_imul {d : Nat} {M : mmMi} {P : Option Value → mmMem → Prop} {k : List Value → List Value → mmMem → Prop} {L st : List Value} {μ : mmMem} {pc len w a b : Nat} {v : Value} {Mc : mmMi} (hok : mmOkI M (pc, .imul, len, w, a, b, v, Mc) = true) (hk : ∀ L st μ, k L st μ → mmEnds d M (pc + len) L st μ P) (h : wpI d M P (pc, .imul, len, w, a, b, v, Mc) k L st μ) : mmEnds d M pc L st μ P := by
  obtain ⟨hd, hX⟩ := mmOkI_ok hok
  dsimp only at hd
  obtain rfl : len = 1 := by simpa [mmOkX] using hX
  obtain ⟨y, r, rfl, h⟩ := pI_ok h
  obtain ⟨x, r, rfl, h⟩ := pI_ok h
  intro p l e s m args below meth c H locs B H0 sk sv D cA ls hx hb hr hml hown hts hlk hS hls hH hF hB
  exact lv_imul hx hb hd (hk _ _ _ h p l e s m args below meth c H locs B H0 sk sv D cA ls hx hb hr hml hown hts hlk hS hls hH hF hB)
theorem st_iand {d : Nat} {M : mmMi} {P : Option Value → mmMem → Prop} {k : List Value → List Value → mmMem → Prop} {L st : List Value} {μ : mmMem} {pc len w a b : Nat} {v : Value} {Mc : mmMi} (hok : mmOkI M (pc, .iand, len, w, a, b, v, Mc) = true) (hk : ∀ L st μ, k L st μ → mmEnds d M (pc + len) L st μ P) (h : wpI d M P (pc, .iand, len, w, a, b, v, Mc) k L st μ) : mmEnds d M pc L st μ P := by
  obtain ⟨hd, hX⟩ := mmOkI_ok hok
  dsimp only at hd
  obtain rfl : len = 1 := by simpa [mmOkX] using hX
  obtain ⟨y, r, rfl, h⟩ := pI_ok h
  obtain ⟨x, r, rfl, h⟩ := pI_ok h
  intro p l e s m args below meth c H locs B H0 sk sv D cA ls hx hb hr hml hown hts hlk hS hls hH hF hB
  exact lv_iand hx hb hd (hk _ _ _ h p l e s m args below meth c H locs B H0 sk sv D cA ls hx hb hr hml hown hts hlk hS hls hH hF hB)
theorem st_ior {d : Nat} {M : mmMi} {P : Option Value → mmMem → Prop} {k : List Value → List Value → mmMem → Prop} {L st : List Value} {μ : mmMem} {pc len w a b : Nat} {v : Value} {Mc : mmMi} (hok : mmOkI M (pc, .ior, len, w, a, b, v, Mc) = true) (hk : ∀ L st μ, k L st μ → mmEnds d M (pc + len) L st μ P) (h : wpI d M P (pc, .ior, len, w, a, b, v, Mc) k L st μ) : mmEnds d M pc L st μ P := by
  obtain ⟨hd, hX⟩ := mmOkI_ok hok
  dsimp only at hd
  obtain rfl : len = 1 := by simpa [mmOkX] using hX
  obtain ⟨y, r, rfl, h⟩ := pI_ok h
  obtain ⟨x, r, rfl, h⟩ := pI_ok h
  intro p l e s m args below meth c H locs B H0 sk sv D cA ls hx hb hr hml hown hts hlk hS hls hH hF hB
  exact lv_ior hx hb hd (hk _ _ _ h p l e s m args below meth c H locs B H0 sk sv D cA ls hx hb hr hml hown hts hlk hS hls hH hF hB)
theorem st_ishl {d : Nat} {M : mmMi} {P : Option Value → mmMem → Prop} {k : List Value → List Value → mmMem → Prop} {L st : List Value} {μ : mmMem} {pc len w a b : Nat} {v : Value} {Mc : mmMi} (hok : mmOkI M (pc, .ishl, len, w, a, b, v, Mc) = true) (hk : ∀ L st μ, k L st μ → mmEnds d M (pc + len) L st μ P) (h : wpI d M P (pc, .ishl, len, w, a, b, v, Mc) k L st μ) : mmEnds d M pc L st μ P := by
  obtain ⟨hd, hX⟩ := mmOkI_ok hok
  dsimp only at hd
  obtain rfl : len = 1 := by simpa [mmOkX] using hX
  obtain ⟨y, r, rfl, h⟩ := pI_ok h
  obtain ⟨x, r, rfl, h⟩ := pI_ok h
  intro p l e s m args below meth c H locs B H0 sk sv D cA ls hx hb hr hml hown hts hlk hS hls hH hF hB
  exact lv_ishl hx hb hd (hk _ _ _ h p l e s m args below meth c H locs B H0 sk sv D cA ls hx hb hr hml hown hts hlk hS hls hH hF hB)
theorem st_ishr {d : Nat} {M : mmMi} {P : Option Value → mmMem → Prop} {k : List Value → List Value → mmMem → Prop} {L st : List Value} {μ : mmMem} {pc len w a b : Nat} {v : Value} {Mc : mmMi} (hok : mmOkI M (pc, .ishr, len, w, a, b, v, Mc) = true) (hk : ∀ L st μ, k L st μ → mmEnds d M (pc + len) L st μ P) (h : wpI d M P (pc, .ishr, len, w, a, b, v, Mc) k L st μ) : mmEnds d M pc L st μ P := by
  obtain ⟨hd, hX⟩ := mmOkI_ok hok
  dsimp only at hd
  obtain rfl : len = 1 := by simpa [mmOkX] using hX
  obtain ⟨y, r, rfl, h⟩ := pI_ok h
  obtain ⟨x, r, rfl, h⟩ := pI_ok h
  intro p l e s m args below meth c H locs B H0 sk sv D cA ls hx hb hr hml hown hts hlk hS hls hH hF hB
  exact lv_ishr hx hb hd (hk _ _ _ h p l e s m args below meth c H locs B H0 sk sv D cA ls hx hb hr hml hown hts hlk hS hls hH hF hB)
theorem st_idiv {d : Nat} {M : mmMi} {P : Option Value → mmMem → Prop} {k : List Value → List Value → mmMem → Prop} {L st : List Value} {μ : mmMem} {pc len w a b : Nat} {v : Value} {Mc : mmMi} (hok : mmOkI M (pc, .idiv, len, w, a, b, v, Mc) = true) (hk : ∀ L st μ, k L st μ → mmEnds d M (pc + len) L st μ P) (h : wpI d M P (pc, .idiv, len, w, a, b, v, Mc) k L st μ) : mmEnds d M pc L st μ P := by
  obtain ⟨hd, hX⟩ := mmOkI_ok hok
  dsimp only at hd
  obtain rfl : len = 1 := by simpa [mmOkX] using hX
  obtain ⟨y, r, rfl, h⟩ := pI_ok h
  obtain ⟨x, r, rfl, h⟩ := pI_ok h
  intro p l e s m args below meth c H locs B H0 sk sv D cA ls hx hb hr hml hown hts hlk hS hls hH hF hB
  exact lv_idiv hx hb hd h.1 (hk _ _ _ h.2 p l e s m args below meth c H locs B H0 sk sv D cA ls hx hb hr hml hown hts hlk hS hls hH hF hB)
theorem st_irem {d : Nat} {M : mmMi} {P : Option Value → mmMem → Prop} {k : List Value → List Value → mmMem → Prop} {L st : List Value} {μ : mmMem} {pc len w a b : Nat} {v : Value} {Mc : mmMi} (hok : mmOkI M (pc, .irem, len, w, a, b, v, Mc) = true) (hk : ∀ L st μ, k L st μ → mmEnds d M (pc + len) L st μ P) (h : wpI d M P (pc, .irem, len, w, a, b, v, Mc) k L st μ) : mmEnds d M pc L st μ P := by
  obtain ⟨hd, hX⟩ := mmOkI_ok hok
  dsimp only at hd
  obtain rfl : len = 1 := by simpa [mmOkX] using hX
  obtain ⟨y, r, rfl, h⟩ := pI_ok h
  obtain ⟨x, r, rfl, h⟩ := pI_ok h
  intro p l e s m args below meth c H locs B H0 sk sv D cA ls hx hb hr hml hown hts hlk hS hls hH hF hB
  exact lv_irem hx hb hd h.1 (hk _ _ _ h.2 p l e s m args below meth c H locs B H0 sk sv D cA ls hx hb hr hml hown hts hlk hS hls hH hF hB)
theorem st_ladd {d : Nat} {M : mmMi} {P : Option Value → mmMem → Prop} {k : List Value → List Value → mmMem → Prop} {L st : List Value} {μ : mmMem} {pc len w a b : Nat} {v : Value} {Mc : mmMi} (hok : mmOkI M (pc, .ladd, len, w, a, b, v, Mc) = true) (hk : ∀ L st μ, k L st μ → mmEnds d M (pc + len) L st μ P) (h : wpI d M P (pc, .ladd, len, w, a, b, v, Mc) k L st μ) : mmEnds d M pc L st μ P := by
  obtain ⟨hd, hX⟩ := mmOkI_ok hok
  dsimp only at hd
  obtain rfl : len = 1 := by simpa [mmOkX] using hX
  obtain ⟨y, r, rfl, h⟩ := pJ_ok h
  obtain ⟨x, r, rfl, h⟩ := pJ_ok h
  intro p l e s m args below meth c H locs B H0 sk sv D cA ls hx hb hr hml hown hts hlk hS hls hH hF hB
  exact lv_ladd hx hb hd (hk _ _ _ h p l e s m args below meth c H locs B H0 sk sv D cA ls hx hb hr hml hown hts hlk hS hls hH hF hB)
theorem st_lsub {d : Nat} {M : mmMi} {P : Option Value → mmMem → Prop} {k : List Value → List Value → mmMem → Prop} {L st : List Value} {μ : mmMem} {pc len w a b : Nat} {v : Value} {Mc : mmMi} (hok : mmOkI M (pc, .lsub, len, w, a, b, v, Mc) = true) (hk : ∀ L st μ, k L st μ → mmEnds d M (pc + len) L st μ P) (h : wpI d M P (pc, .lsub, len, w, a, b, v, Mc) k L st μ) : mmEnds d M pc L st μ P := by
  obtain ⟨hd, hX⟩ := mmOkI_ok hok
  dsimp only at hd
  obtain rfl : len = 1 := by simpa [mmOkX] using hX
  obtain ⟨y, r, rfl, h⟩ := pJ_ok h
  obtain ⟨x, r, rfl, h⟩ := pJ_ok h
  intro p l e s m args below meth c H locs B H0 sk sv D cA ls hx hb hr hml hown hts hlk hS hls hH hF hB
  exact lv_lsub hx hb hd (hk _ _ _ h p l e s m args below meth c H locs B H0 sk sv D cA ls hx hb hr hml hown hts hlk hS hls hH hF hB)
theorem st_lmul {d : Nat} {M : mmMi} {P : Option Value → mmMem → Prop} {k : List Value → List Value → mmMem → Prop} {L st : List Value} {μ : mmMem} {pc len w a b : Nat} {v : Value} {Mc : mmMi} (hok : mmOkI M (pc, .lmul, len, w, a, b, v, Mc) = true) (hk : ∀ L st μ, k L st μ → mmEnds d M (pc + len) L st μ P) (h : wpI d M P (pc, .lmul, len, w, a, b, v, Mc) k L st μ) : mmEnds d M pc L st μ P := by
  obtain ⟨hd, hX⟩ := mmOkI_ok hok
  dsimp only at hd
  obtain rfl : len = 1 := by simpa [mmOkX] using hX
  obtain ⟨y, r, rfl, h⟩ := pJ_ok h
  obtain ⟨x, r, rfl, h⟩ := pJ_ok h
  intro p l e s m args below meth c H locs B H0 sk sv D cA ls hx hb hr hml hown hts hlk hS hls hH hF hB
  exact lv_lmul hx hb hd (hk _ _ _ h p l e s m args below meth c H locs B H0 sk sv D cA ls hx hb hr hml hown hts hlk hS hls hH hF hB)
theorem st_land {d : Nat} {M : mmMi} {P : Option Value → mmMem → Prop} {k : List Value → List Value → mmMem → Prop} {L st : List Value} {μ : mmMem} {pc len w a b : Nat} {v : Value} {Mc : mmMi} (hok : mmOkI M (pc, .land, len, w, a, b, v, Mc) = true) (hk : ∀ L st μ, k L st μ → mmEnds d M (pc + len) L st μ P) (h : wpI d M P (pc, .land, len, w, a, b, v, Mc) k L st μ) : mmEnds d M pc L st μ P := by
  obtain ⟨hd, hX⟩ := mmOkI_ok hok
  dsimp only at hd
  obtain rfl : len = 1 := by simpa [mmOkX] using hX
  obtain ⟨y, r, rfl, h⟩ := pJ_ok h
  obtain ⟨x, r, rfl, h⟩ := pJ_ok h
  intro p l e s m args below meth c H locs B H0 sk sv D cA ls hx hb hr hml hown hts hlk hS hls hH hF hB
  exact lv_land hx hb hd (hk _ _ _ h p l e s m args below meth c H locs B H0 sk sv D cA ls hx hb hr hml hown hts hlk hS hls hH hF hB)
theorem st_lor {d : Nat} {M : mmMi} {P : Option Value → mmMem → Prop} {k : List Value → List Value → mmMem → Prop} {L st : List Value} {μ : mmMem} {pc len w a b : Nat} {v : Value} {Mc : mmMi} (hok : mmOkI M (pc, .lor, len, w, a, b, v, Mc) = true) (hk : ∀ L st μ, k L st μ → mmEnds d M (pc + len) L st μ P) (h : wpI d M P (pc, .lor, len, w, a, b, v, Mc) k L st μ) : mmEnds d M pc L st μ P := by
  obtain ⟨hd, hX⟩ := mmOkI_ok hok
  dsimp only at hd
  obtain rfl : len = 1 := by simpa [mmOkX] using hX
  obtain ⟨y, r, rfl, h⟩ := pJ_ok h
  obtain ⟨x, r, rfl, h⟩ := pJ_ok h
  intro p l e s m args below meth c H locs B H0 sk sv D cA ls hx hb hr hml hown hts hlk hS hls hH hF hB
  exact lv_lor hx hb hd (hk _ _ _ h p l e s m args below meth c H locs B H0 sk sv D cA ls hx hb hr hml hown hts hlk hS hls hH hF hB)
theorem st_lxor {d : Nat} {M : mmMi} {P : Option Value → mmMem → Prop} {k : List Value → List Value → mmMem → Prop} {L st : List Value} {μ : mmMem} {pc len w a b : Nat} {v : Value} {Mc : mmMi} (hok : mmOkI M (pc, .lxor, len, w, a, b, v, Mc) = true) (hk : ∀ L st μ, k L st μ → mmEnds d M (pc + len) L st μ P) (h : wpI d M P (pc, .lxor, len, w, a, b, v, Mc) k L st μ) : mmEnds d M pc L st μ P := by
  obtain ⟨hd, hX⟩ := mmOkI_ok hok
  dsimp only at hd
  obtain rfl : len = 1 := by simpa [mmOkX] using hX
  obtain ⟨y, r, rfl, h⟩ := pJ_ok h
  obtain ⟨x, r, rfl, h⟩ := pJ_ok h
  intro p l e s m args below meth c H locs B H0 sk sv D cA ls hx hb hr hml hown hts hlk hS hls hH hF hB
  exact lv_lxor hx hb hd (hk _ _ _ h p l e s m args below meth c H locs B H0 sk sv D cA ls hx hb hr hml hown hts hlk hS hls hH hF hB)
theorem st_lcmp {d : Nat} {M : mmMi} {P : Option Value → mmMem → Prop} {k : List Value → List Value → mmMem → Prop} {L st : List Value} {μ : mmMem} {pc len w a b : Nat} {v : Value} {Mc : mmMi} (hok : mmOkI M (pc, .lcmp, len, w, a, b, v, Mc) = true) (hk : ∀ L st μ, k L st μ → mmEnds d M (pc + len) L st μ P) (h : wpI d M P (pc, .lcmp, len, w, a, b, v, Mc) k L st μ) : mmEnds d M pc L st μ P := by
  obtain ⟨hd, hX⟩ := mmOkI_ok hok
  dsimp only at hd
  obtain rfl : len = 1 := by simpa [mmOkX] using hX
  obtain ⟨y, r, rfl, h⟩ := pJ_ok h
  obtain ⟨x, r, rfl, h⟩ := pJ_ok h
  intro p l e s m args below meth c H locs B H0 sk sv D cA ls hx hb hr hml hown hts hlk hS hls hH hF hB
  exact W.lcmp hx hb hd (hk _ _ _ h p l e s m args below meth c H locs B H0 sk sv D cA ls hx hb hr hml hown hts hlk hS hls hH hF hB)
theorem st_ldiv {d : Nat} {M : mmMi} {P : Option Value → mmMem → Prop} {k : List Value → List Value → mmMem → Prop} {L st : List Value} {μ : mmMem} {pc len w a b : Nat} {v : Value} {Mc : mmMi} (hok : mmOkI M (pc, .ldiv, len, w, a, b, v, Mc) = true) (hk : ∀ L st μ, k L st μ → mmEnds d M (pc + len) L st μ P) (h : wpI d M P (pc, .ldiv, len, w, a, b, v, Mc) k L st μ) : mmEnds d M pc L st μ P := by
  obtain ⟨hd, hX⟩ := mmOkI_ok hok
  dsimp only at hd
  obtain rfl : len = 1 := by simpa [mmOkX] using hX
  obtain ⟨y, r, rfl, h⟩ := pJ_ok h
  obtain ⟨x, r, rfl, h⟩ := pJ_ok h
  intro p l e s m args below meth c H locs B H0 sk sv D cA ls hx hb hr hml hown hts hlk hS hls hH hF hB
  exact lv_ldiv hx hb hd h.1 (hk _ _ _ h.2 p l e s m args below meth c H locs B H0 sk sv D cA ls hx hb hr hml hown hts hlk hS hls hH hF hB)
theorem st_lrem {d : Nat} {M : mmMi} {P : Option Value → mmMem → Prop} {k : List Value → List Value → mmMem → Prop} {L st : List Value} {μ : mmMem} {pc len w a b : Nat} {v : Value} {Mc : mmMi} (hok : mmOkI M (pc, .lrem, len, w, a, b, v, Mc) = true) (hk : ∀ L st μ, k L st μ → mmEnds d M (pc + len) L st μ P) (h : wpI d M P (pc, .lrem, len, w, a, b, v, Mc) k L st μ) : mmEnds d M pc L st μ P := by
  obtain ⟨hd, hX⟩ := mmOkI_ok hok
  dsimp only at hd
  obtain rfl : len = 1 := by simpa [mmOkX] using hX
  obtain ⟨y, r, rfl, h⟩ := pJ_ok h
  obtain ⟨x, r, rfl, h⟩ := pJ_ok h
  intro p l e s m args below meth c H locs B H0 sk sv D cA ls hx hb hr hml hown hts hlk hS hls hH hF hB
  exact lv_lrem hx hb hd h.1 (hk _ _ _ h.2 p l e s m args below meth c H locs B H0 sk sv D cA ls hx hb hr hml hown hts hlk hS hls hH hF hB)
theorem st_ineg {d : Nat} {M : mmMi} {P : Option Value → mmMem → Prop} {k : List Value → List Value → mmMem → Prop} {L st : List Value} {μ : mmMem} {pc len w a b : Nat} {v : Value} {Mc : mmMi} (hok : mmOkI M (pc, .ineg, len, w, a, b, v, Mc) = true) (hk : ∀ L st μ, k L st μ → mmEnds d M (pc + len) L st μ P) (h : wpI d M P (pc, .ineg, len, w, a, b, v, Mc) k L st μ) : mmEnds d M pc L st μ P := by
  obtain ⟨hd, hX⟩ := mmOkI_ok hok
  dsimp only at hd
  obtain rfl : len = 1 := by simpa [mmOkX] using hX
  obtain ⟨x, r, rfl, h⟩ := pI_ok h
  intro p l e s m args below meth c H locs B H0 sk sv D cA ls hx hb hr hml hown hts hlk hS hls hH hF hB
  exact lv_ineg hx hb hd (hk _ _ _ h p l e s m args below meth c H locs B H0 sk sv D cA ls hx hb hr hml hown hts hlk hS hls hH hF hB)
theorem st_lneg {d : Nat} {M : mmMi} {P : Option Value → mmMem → Prop} {k : List Value → List Value → mmMem → Prop} {L st : List Value} {μ : mmMem} {pc len w a b : Nat} {v : Value} {Mc : mmMi} (hok : mmOkI M (pc, .lneg, len, w, a, b, v, Mc) = true) (hk : ∀ L st μ, k L st μ → mmEnds d M (pc + len) L st μ P) (h : wpI d M P (pc, .lneg, len, w, a, b, v, Mc) k L st μ) : mmEnds d M pc L st μ P := by
  obtain ⟨hd, hX⟩ := mmOkI_ok hok
  dsimp only at hd
  obtain rfl : len = 1 := by simpa [mmOkX] using hX
  obtain ⟨x, r, rfl, h⟩ := pJ_ok h
  intro p l e s m args below meth c H locs B H0 sk sv D cA ls hx hb hr hml hown hts hlk hS hls hH hF hB
  exact lv_lneg hx hb hd (hk _ _ _ h p l e s m args below meth c H locs B H0 sk sv D cA ls hx hb hr hml hown hts hlk hS hls hH hF hB)
theorem st_l2d {d : Nat} {M : mmMi} {P : Option Value → mmMem → Prop} {k : List Value → List Value → mmMem → Prop} {L st : List Value} {μ : mmMem} {pc len w a b : Nat} {v : Value} {Mc : mmMi} (hok : mmOkI M (pc, .l2d, len, w, a, b, v, Mc) = true) (hk : ∀ L st μ, k L st μ → mmEnds d M (pc + len) L st μ P) (h : wpI d M P (pc, .l2d, len, w, a, b, v, Mc) k L st μ) : mmEnds d M pc L st μ P := by
  obtain ⟨hd, hX⟩ := mmOkI_ok hok
  dsimp only at hd
  obtain rfl : len = 1 := by simpa [mmOkX] using hX
  obtain ⟨x, r, rfl, h⟩ := pJ_ok h
  intro p l e s m args below meth c H locs B H0 sk sv D cA ls hx hb hr hml hown hts hlk hS hls hH hF hB
  exact lv_l2d hx hb hd (hk _ _ _ h p l e s m args below meth c H locs B H0 sk sv D cA ls hx hb hr hml hown hts hlk hS hls hH hF hB)
theorem st_l2f {d : Nat} {M : mmMi} {P : Option Value → mmMem → Prop} {k : List Value → List Value → mmMem → Prop} {L st : List Value} {μ : mmMem} {pc len w a b : Nat} {v : Value} {Mc : mmMi} (hok : mmOkI M (pc, .l2f, len, w, a, b, v, Mc) = true) (hk : ∀ L st μ, k L st μ → mmEnds d M (pc + len) L st μ P) (h : wpI d M P (pc, .l2f, len, w, a, b, v, Mc) k L st μ) : mmEnds d M pc L st μ P := by
  obtain ⟨hd, hX⟩ := mmOkI_ok hok
  dsimp only at hd
  obtain rfl : len = 1 := by simpa [mmOkX] using hX
  obtain ⟨x, r, rfl, h⟩ := pJ_ok h
  intro p l e s m args below meth c H locs B H0 sk sv D cA ls hx hb hr hml hown hts hlk hS hls hH hF hB
  exact lv_l2f hx hb hd (hk _ _ _ h p l e s m args below meth c H locs B H0 sk sv D cA ls hx hb hr hml hown hts hlk hS hls hH hF hB)
theorem st_d2l {d : Nat} {M : mmMi} {P : Option Value → mmMem → Prop} {k : List Value → List Value → mmMem → Prop} {L st : List Value} {μ : mmMem} {pc len w a b : Nat} {v : Value} {Mc : mmMi} (hok : mmOkI M (pc, .d2l, len, w, a, b, v, Mc) = true) (hk : ∀ L st μ, k L st μ → mmEnds d M (pc + len) L st μ P) (h : wpI d M P (pc, .d2l, len, w, a, b, v, Mc) k L st μ) : mmEnds d M pc L st μ P := by
  obtain ⟨hd, hX⟩ := mmOkI_ok hok
  dsimp only at hd
  obtain rfl : len = 1 := by simpa [mmOkX] using hX
  obtain ⟨x, r, rfl, h⟩ := pD_ok h
  intro p l e s m args below meth c H locs B H0 sk sv D cA ls hx hb hr hml hown hts hlk hS hls hH hF hB
  exact lv_d2l hx hb hd (hk _ _ _ h p l e s m args below meth c H locs B H0 sk sv D cA ls hx hb hr hml hown hts hlk hS hls hH hF hB)
theorem st_d2i {d : Nat} {M : mmMi} {P : Option Value → mmMem → Prop} {k : List Value → List Value → mmMem → Prop} {L st : List Value} {μ : mmMem} {pc len w a b : Nat} {v : Value} {Mc : mmMi} (hok : mmOkI M (pc, .d2i, len, w, a, b, v, Mc) = true) (hk : ∀ L st μ, k L st μ → mmEnds d M (pc + len) L st μ P) (h : wpI d M P (pc, .d2i, len, w, a, b, v, Mc) k L st μ) : mmEnds d M pc L st μ P := by
  obtain ⟨hd, hX⟩ := mmOkI_ok hok
  dsimp only at hd
  obtain rfl : len = 1 := by simpa [mmOkX] using hX
  obtain ⟨x, r, rfl, h⟩ := pD_ok h
  intro p l e s m args below meth c H locs B H0 sk sv D cA ls hx hb hr hml hown hts hlk hS hls hH hF hB
  exact lv_d2i hx hb hd (hk _ _ _ h p l e s m args below meth c H locs B H0 sk sv D cA ls hx hb hr hml hown hts hlk hS hls hH hF hB)
theorem st_f2l {d : Nat} {M : mmMi} {P : Option Value → mmMem → Prop} {k : List Value → List Value → mmMem → Prop} {L st : List Value} {μ : mmMem} {pc len w a b : Nat} {v : Value} {Mc : mmMi} (hok : mmOkI M (pc, .f2l, len, w, a, b, v, Mc) = true) (hk : ∀ L st μ, k L st μ → mmEnds d M (pc + len) L st μ P) (h : wpI d M P (pc, .f2l, len, w, a, b, v, Mc) k L st μ) : mmEnds d M pc L st μ P := by
  obtain ⟨hd, hX⟩ := mmOkI_ok hok
  dsimp only at hd
  obtain rfl : len = 1 := by simpa [mmOkX] using hX
  obtain ⟨x, r, rfl, h⟩ := pF_ok h
  intro p l e s m args below meth c H locs B H0 sk sv D cA ls hx hb hr hml hown hts hlk hS hls hH hF hB
  exact lv_f2l hx hb hd (hk _ _ _ h p l e s m args below meth c H locs B H0 sk sv D cA ls hx hb hr hml hown hts hlk hS hls hH hF hB)
theorem st_dneg {d : Nat} {M : mmMi} {P : Option Value → mmMem → Prop} {k : List Value → List Value → mmMem → Prop} {L st : List Value} {μ : mmMem} {pc len w a b : Nat} {v : Value} {Mc : mmMi} (hok : mmOkI M (pc, .dneg, len, w, a, b, v, Mc) = true) (hk : ∀ L st μ, k L st μ → mmEnds d M (pc + len) L st μ P) (h : wpI d M P (pc, .dneg, len, w, a, b, v, Mc) k L st μ) : mmEnds d M pc L st μ P := by
  obtain ⟨hd, hX⟩ := mmOkI_ok hok
  dsimp only at hd
  obtain rfl : len = 1 := by simpa [mmOkX] using hX
  obtain ⟨x, r, rfl, h⟩ := pD_ok h
  intro p l e s m args below meth c H locs B H0 sk sv D cA ls hx hb hr hml hown hts hlk hS hls hH hF hB
  exact lv_dneg hx hb hd (hk _ _ _ h p l e s m args below meth c H locs B H0 sk sv D cA ls hx hb hr hml hown hts hlk hS hls hH hF hB)
theorem st_i2l {d : Nat} {M : mmMi} {P : Option Value → mmMem → Prop} {k : List Value → List Value → mmMem → Prop} {L st : List Value} {μ : mmMem} {pc len w a b : Nat} {v : Value} {Mc : mmMi} (hok : mmOkI M (pc, .i2l, len, w, a, b, v, Mc) = true) (hk : ∀ L st μ, k L st μ → mmEnds d M (pc + len) L st μ P) (h : wpI d M P (pc, .i2l, len, w, a, b, v, Mc) k L st μ) : mmEnds d M pc L st μ P := by
  obtain ⟨hd, hX⟩ := mmOkI_ok hok
  dsimp only at hd
  obtain rfl : len = 1 := by simpa [mmOkX] using hX
  obtain ⟨x, r, rfl, h⟩ := pI_ok h
  intro p l e s m args below meth c H locs B H0 sk sv D cA ls hx hb hr hml hown hts hlk hS hls hH hF hB
  exact lv_i2l hx hb hd rfl (hk _ _ _ h p l e s m args below meth c H locs B H0 sk sv D cA ls hx hb hr hml hown hts hlk hS hls hH hF hB)
theorem st_l2i {d : Nat} {M : mmMi} {P : Option Value → mmMem → Prop} {k : List Value → List Value → mmMem → Prop} {L st : List Value} {μ : mmMem} {pc len w a b : Nat} {v : Value} {Mc : mmMi} (hok : mmOkI M (pc, .l2i, len, w, a, b, v, Mc) = true) (hk : ∀ L st μ, k L st μ → mmEnds d M (pc + len) L st μ P) (h : wpI d M P (pc, .l2i, len, w, a, b, v, Mc) k L st μ) : mmEnds d M pc L st μ P := by
  obtain ⟨hd, hX⟩ := mmOkI_ok hok
  dsimp only at hd
  obtain rfl : len = 1 := by simpa [mmOkX] using hX
  obtain ⟨x, r, rfl, h⟩ := pJ_ok h
  intro p l e s m args below meth c H locs B H0 sk sv D cA ls hx hb hr hml hown hts hlk hS hls hH hF hB
  exact lv_l2i hx hb hd rfl (hk _ _ _ h p l e s m args below meth c H locs B H0 sk sv D cA ls hx hb hr hml hown hts hlk hS hls hH hF hB)
theorem st_i2b {d : Nat} {M : mmMi} {P : Option Value → mmMem → Prop} {k : List Value → List Value → mmMem → Prop} {L st : List Value} {μ : mmMem} {pc len w a b : Nat} {v : Value} {Mc : mmMi} (hok : mmOkI M (pc, .i2b, len, w, a, b, v, Mc) = true) (hk : ∀ L st μ, k L st μ → mmEnds d M (pc + len) L st μ P) (h : wpI d M P (pc, .i2b, len, w, a, b, v, Mc) k L st μ) : mmEnds d M pc L st μ P := by
  obtain ⟨hd, hX⟩ := mmOkI_ok hok
  dsimp only at hd
  obtain rfl : len = 1 := by simpa [mmOkX] using hX
  obtain ⟨x, r, rfl, h⟩ := pI_ok h
  intro p l e s m args below meth c H locs B H0 sk sv D cA ls hx hb hr hml hown hts hlk hS hls hH hF hB
  exact lv_i2b hx hb hd rfl (hk _ _ _ h p l e s m args below meth c H locs B H0 sk sv D cA ls hx hb hr hml hown hts hlk hS hls hH hF hB)
theorem st_i2s {d : Nat} {M : mmMi} {P : Option Value → mmMem → Prop} {k : List Value → List Value → mmMem → Prop} {L st : List Value} {μ : mmMem} {pc len w a b : Nat} {v : Value} {Mc : mmMi} (hok : mmOkI M (pc, .i2s, len, w, a, b, v, Mc) = true) (hk : ∀ L st μ, k L st μ → mmEnds d M (pc + len) L st μ P) (h : wpI d M P (pc, .i2s, len, w, a, b, v, Mc) k L st μ) : mmEnds d M pc L st μ P := by
  obtain ⟨hd, hX⟩ := mmOkI_ok hok
  dsimp only at hd
  obtain rfl : len = 1 := by simpa [mmOkX] using hX
  obtain ⟨x, r, rfl, h⟩ := pI_ok h
  intro p l e s m args below meth c H locs B H0 sk sv D cA ls hx hb hr hml hown hts hlk hS hls hH hF hB
  exact lv_i2s hx hb hd rfl (hk _ _ _ h p l e s m args below meth c H locs B H0 sk sv D cA ls hx hb hr hml hown hts hlk hS hls hH hF hB)
theorem st_i2c {d : Nat} {M : mmMi} {P : Option Value → mmMem → Prop} {k : List Value → List Value → mmMem → Prop} {L st : List Value} {μ : mmMem} {pc len w a b : Nat} {v : Value} {Mc : mmMi} (hok : mmOkI M (pc, .i2c, len, w, a, b, v, Mc) = true) (hk : ∀ L st μ, k L st μ → mmEnds d M (pc + len) L st μ P) (h : wpI d M P (pc, .i2c, len, w, a, b, v, Mc) k L st μ) : mmEnds d M pc L st μ P := by
  obtain ⟨hd, hX⟩ := mmOkI_ok hok
  dsimp only at hd
  obtain rfl : len = 1 := by simpa [mmOkX] using hX
  obtain ⟨x, r, rfl, h⟩ := pI_ok h
  intro p l e s m args below meth c H locs B H0 sk sv D cA ls hx hb hr hml hown hts hlk hS hls hH hF hB
  exact lv_i2c hx hb hd rfl (hk _ _ _ h p l e s m args below meth c H locs B H0 sk sv D cA ls hx hb hr hml hown hts hlk hS hls hH hF hB)
theorem st_lshl {d : Nat} {M : mmMi} {P : Option Value → mmMem → Prop} {k : List Value → List Value → mmMem → Prop} {L st : List Value} {μ : mmMem} {pc len w a b : Nat} {v : Value} {Mc : mmMi} (hok : mmOkI M (pc, .lshl, len, w, a, b, v, Mc) = true) (hk : ∀ L st μ, k L st μ → mmEnds d M (pc + len) L st μ P) (h : wpI d M P (pc, .lshl, len, w, a, b, v, Mc) k L st μ) : mmEnds d M pc L st μ P := by
  obtain ⟨hd, hX⟩ := mmOkI_ok hok
  dsimp only at hd
  obtain rfl : len = 1 := by simpa [mmOkX] using hX
  obtain ⟨y, r, rfl, h⟩ := pI_ok h
  obtain ⟨x, r, rfl, h⟩ := pJ_ok h
  intro p l e s m args below meth c H locs B H0 sk sv D cA ls hx hb hr hml hown hts hlk hS hls hH hF hB
  exact lv_lshl hx hb hd rfl (hk _ _ _ h p l e s m args below meth c H locs B H0 sk sv D cA ls hx hb hr hml hown hts hlk hS hls hH hF hB)
theorem st_f2d {d : Nat} {M : mmMi} {P : Option Value → mmMem → Prop} {k : List Value → List Value → mmMem → Prop} {L st : List Value} {μ : mmMem} {pc len w a b : Nat} {v : Value} {Mc : mmMi} (hok : mmOkI M (pc, .f2d, len, w, a, b, v, Mc) = true) (hk : ∀ L st μ, k L st μ → mmEnds d M (pc + len) L st μ P) (h : wpI d M P (pc, .f2d, len, w, a, b, v, Mc) k L st μ) : mmEnds d M pc L st μ P := by
  obtain ⟨hd, hX⟩ := mmOkI_ok hok
  dsimp only at hd
  obtain rfl : len = 1 := by simpa [mmOkX] using hX
  obtain ⟨x, r, rfl, h⟩ := pF_ok h
  intro p l e s m args below meth c H locs B H0 sk sv D cA ls hx hb hr hml hown hts hlk hS hls hH hF hB
  exact lv_f2d hx hb hd h.1 (hk _ _ _ h.2 p l e s m args below meth c H locs B H0 sk sv D cA ls hx hb hr hml hown hts hlk hS hls hH hF hB)
theorem st_d2f {d : Nat} {M : mmMi} {P : Option Value → mmMem → Prop} {k : List Value → List Value → mmMem → Prop} {L st : List Value} {μ : mmMem} {pc len w a b : Nat} {v : Value} {Mc : mmMi} (hok : mmOkI M (pc, .d2f, len, w, a, b, v, Mc) = true) (hk : ∀ L st μ, k L st μ → mmEnds d M (pc + len) L st μ P) (h : wpI d M P (pc, .d2f, len, w, a, b, v, Mc) k L st μ) : mmEnds d M pc L st μ P := by
  obtain ⟨hd, hX⟩ := mmOkI_ok hok
  dsimp only at hd
  obtain rfl : len = 1 := by simpa [mmOkX] using hX
  obtain ⟨x, r, rfl, h⟩ := pD_ok h
  intro p l e s m args below meth c H locs B H0 sk sv D cA ls hx hb hr hml hown hts hlk hS hls hH hF hB
  exact lv_d2f hx hb hd h.1 (hk _ _ _ h.2 p l e s m args below meth c H locs B H0 sk sv D cA ls hx hb hr hml hown hts hlk hS hls hH hF hB)
theorem st_dadd {d : Nat} {M : mmMi} {P : Option Value → mmMem → Prop} {k : List Value → List Value → mmMem → Prop} {L st : List Value} {μ : mmMem} {pc len w a b : Nat} {v : Value} {Mc : mmMi} (hok : mmOkI M (pc, .dadd, len, w, a, b, v, Mc) = true) (hk : ∀ L st μ, k L st μ → mmEnds d M (pc + len) L st μ P) (h : wpI d M P (pc, .dadd, len, w, a, b, v, Mc) k L st μ) : mmEnds d M pc L st μ P := by
  obtain ⟨hd, hX⟩ := mmOkI_ok hok
  dsimp only at hd
  obtain rfl : len = 1 := by simpa [mmOkX] using hX
  obtain ⟨y, r, rfl, h⟩ := pD_ok h
  obtain ⟨x, r, rfl, h⟩ := pD_ok h
  intro p l e s m args below meth c H locs B H0 sk sv D cA ls hx hb hr hml hown hts hlk hS hls hH hF hB
  exact lv_dadd hx hb hd h.1 (hk _ _ _ h.2 p l e s m args below meth c H locs B H0 sk sv D cA ls hx hb hr hml hown hts hlk hS hls hH hF hB)
theorem st_dsub {d : Nat} {M : mmMi} {P : Option Value → mmMem → Prop} {k : List Value → List Value → mmMem → Prop} {L st : List Value} {μ : mmMem} {pc len w a b : Nat} {v : Value} {Mc : mmMi} (hok : mmOkI M (pc, .dsub, len, w, a, b, v, Mc) = true) (hk : ∀ L st μ, k L st μ → mmEnds d M (pc + len) L st μ P) (h : wpI d M P (pc, .dsub, len, w, a, b, v, Mc) k L st μ) : mmEnds d M pc L st μ P := by
  obtain ⟨hd, hX⟩ := mmOkI_ok hok
  dsimp only at hd
  obtain rfl : len = 1 := by simpa [mmOkX] using hX
  obtain ⟨y, r, rfl, h⟩ := pD_ok h
  obtain ⟨x, r, rfl, h⟩ := pD_ok h
  intro p l e s m args below meth c H locs B H0 sk sv D cA ls hx hb hr hml hown hts hlk hS hls hH hF hB
  exact lv_dsub hx hb hd h.1 (hk _ _ _ h.2 p l e s m args below meth c H locs B H0 sk sv D cA ls hx hb hr hml hown hts hlk hS hls hH hF hB)
theorem st_dmul {d : Nat} {M : mmMi} {P : Option Value → mmMem → Prop} {k : List Value → List Value → mmMem → Prop} {L st : List Value} {μ : mmMem} {pc len w a b : Nat} {v : Value} {Mc : mmMi} (hok : mmOkI M (pc, .dmul, len, w, a, b, v, Mc) = true) (hk : ∀ L st μ, k L st μ → mmEnds d M (pc + len) L st μ P) (h : wpI d M P (pc, .dmul, len, w, a, b, v, Mc) k L st μ) : mmEnds d M pc L st μ P := by
  obtain ⟨hd, hX⟩ := mmOkI_ok hok
  dsimp only at hd
  obtain rfl : len = 1 := by simpa [mmOkX] using hX
  obtain ⟨y, r, rfl, h⟩ := pD_ok h
  obtain ⟨x, r, rfl, h⟩ := pD_ok h
  intro p l e s m args below meth c H locs B H0 sk sv D cA ls hx hb hr hml hown hts hlk hS hls hH hF hB
  exact lv_dmul hx hb hd h.1 (hk _ _ _ h.2 p l e s m args below meth c H locs B H0 sk sv D cA ls hx hb hr hml hown hts hlk hS hls hH hF hB)
theorem st_ddiv {d : Nat} {M : mmMi} {P : Option Value → mmMem → Prop} {k : List Value → List Value → mmMem → Prop} {L st : List Value} {μ : mmMem} {pc len w a b : Nat} {v : Value} {Mc : mmMi} (hok : mmOkI M (pc, .ddiv, len, w, a, b, v, Mc) = true) (hk : ∀ L st μ, k L st μ → mmEnds d M (pc + len) L st μ P) (h : wpI d M P (pc, .ddiv, len, w, a, b, v, Mc) k L st μ) : mmEnds d M pc L st μ P := by
  obtain ⟨hd, hX⟩ := mmOkI_ok hok
  dsimp only at hd
  obtain rfl : len = 1 := by simpa [mmOkX] using hX
  obtain ⟨y, r, rfl, h⟩ := pD_ok h
  obtain ⟨x, r, rfl, h⟩ := pD_ok h
  intro p l e s m args below meth c H locs B H0 sk sv D cA ls hx hb hr hml hown hts hlk hS hls hH hF hB
  exact lv_ddiv hx hb hd h.1 (hk _ _ _ h.2 p l e s m args below meth c H locs B H0 sk sv D cA ls hx hb hr hml hown hts hlk hS hls hH hF hB)
theorem st_fmul {d : Nat} {M : mmMi} {P : Option Value → mmMem → Prop} {k : List Value → List Value → mmMem → Prop} {L st : List Value} {μ : mmMem} {pc len w a b : Nat} {v : Value} {Mc : mmMi} (hok : mmOkI M (pc, .fmul, len, w, a, b, v, Mc) = true) (hk : ∀ L st μ, k L st μ → mmEnds d M (pc + len) L st μ P) (h : wpI d M P (pc, .fmul, len, w, a, b, v, Mc) k L st μ) : mmEnds d M pc L st μ P := by
  obtain ⟨hd, hX⟩ := mmOkI_ok hok
  dsimp only at hd
  obtain rfl : len = 1 := by simpa [mmOkX] using hX
  obtain ⟨y, r, rfl, h⟩ := pF_ok h
  obtain ⟨x, r, rfl, h⟩ := pF_ok h
  intro p l e s m args below meth c H locs B H0 sk sv D cA ls hx hb hr hml hown hts hlk hS hls hH hF hB
  exact lv_fmul hx hb hd h.1 (hk _ _ _ h.2 p l e s m args below meth c H locs B H0 sk sv D cA ls hx hb hr hml hown hts hlk hS hls hH hF hB)
theorem st_fdiv {d : Nat} {M : mmMi} {P : Option Value → mmMem → Prop} {k : List Value → List Value → mmMem → Prop} {L st : List Value} {μ : mmMem} {pc len w a b : Nat} {v : Value} {Mc : mmMi} (hok : mmOkI M (pc, .fdiv, len, w, a, b, v, Mc) = true) (hk : ∀ L st μ, k L st μ → mmEnds d M (pc + len) L st μ P) (h : wpI d M P (pc, .fdiv, len, w, a, b, v, Mc) k L st μ) : mmEnds d M pc L st μ P := by
  obtain ⟨hd, hX⟩ := mmOkI_ok hok
  dsimp only at hd
  obtain rfl : len = 1 := by simpa [mmOkX] using hX
  obtain ⟨y, r, rfl, h⟩ := pF_ok h
  obtain ⟨x, r, rfl, h⟩ := pF_ok h
  intro p l e s m args below meth c H locs B H0 sk sv D cA ls hx hb hr hml hown hts hlk hS hls hH hF hB
  exact lv_fdiv hx hb hd h.1 (hk _ _ _ h.2 p l e s m args below meth c H locs B H0 sk sv D cA ls hx hb hr hml hown hts hlk hS hls hH hF hB)
theorem st_dcmp {d : Nat} {M : mmMi} {P : Option Value → mmMem → Prop} {k : List Value → List Value → mmMem → Prop} {L st : List Value} {μ : mmMem} {pc len w a b : Nat} {v : Value} {Mc : mmMi} {op : CmpOp} (hok : mmOkI M (pc, .dcmp op, len, w, a, b, v, Mc) = true) (hk : ∀ L st μ, k L st μ → mmEnds d M (pc + len) L st μ P) (h : wpI d M P (pc, .dcmp op, len, w, a, b, v, Mc) k L st μ) : mmEnds d M pc L st μ P := by
  obtain ⟨hd, hX⟩ := mmOkI_ok hok
  dsimp only at hd
  obtain rfl : len = 1 := by simpa [mmOkX] using hX
  obtain ⟨y, r, rfl, h⟩ := pD_ok h
  obtain ⟨x, r, rfl, h⟩ := pD_ok h
  intro p l e s m args below meth c H locs B H0 sk sv D cA ls hx hb hr hml hown hts hlk hS hls hH hF hB
  exact lv_dcmp hx hb hd (hk _ _ _ h p l e s m args below meth c H locs B H0 sk sv D cA ls hx hb hr hml hown hts hlk hS hls hH hF hB)
theorem st_dup {d : Nat} {M : mmMi} {P : Option Value → mmMem → Prop} {k : List Value → List Value → mmMem → Prop} {L st : List Value} {μ : mmMem} {pc len w a b : Nat} {v : Value} {Mc : mmMi} (hok : mmOkI M (pc, .dup, len, w, a, b, v, Mc) = true) (hk : ∀ L st μ, k L st μ → mmEnds d M (pc + len) L st μ P) (h : wpI d M P (pc, .dup, len, w, a, b, v, Mc) k L st μ) : mmEnds d M pc L st μ P := by
  obtain ⟨hd, hX⟩ := mmOkI_ok hok
  dsimp only at hd
  obtain rfl : len = 1 := by simpa [mmOkX] using hX
  cases st with
  | nil => exact absurd h id
  | cons v1 r =>
    obtain ⟨h1, h⟩ := mif_ok h
    intro p l e s m args below meth c H locs B H0 sk sv D cA ls hx hb hr hml hown hts hlk hS hls hH hF hB
    exact lv_dup hx hb hd (mmV_cat B sk v1 (Nat.eq_of_beq_eq_true h1)) (hk _ _ _ h p l e s m args below meth c H locs B H0 sk sv D cA ls hx hb hr hml hown hts hlk hS hls hH hF hB)
theorem mmV_cat2 (B : Nat) (sk : Nat → Nat) (v : Value) : (mmV B sk v).category = v.category := by
  cases v <;> rfl
theorem st_dup2 {d : Nat} {M : mmMi} {P : Option Value → mmMem → Prop} {k : List Value → List Value → mmMem → Prop} {L st : List Value} {μ : mmMem} {pc len w a b : Nat} {v : Value} {Mc : mmMi} (hok : mmOkI M (pc, .dup2, len, w, a, b, v, Mc) = true) (hk : ∀ L st μ, k L st μ → mmEnds d M (pc + len) L st μ P) (h : wpI d M P (pc, .dup2, len, w, a, b, v, Mc) k L st μ) : mmEnds d M pc L st μ P := by
  obtain ⟨hd, hX⟩ := mmOkI_ok hok
  dsimp only at hd
  obtain rfl : len = 1 := by simpa [mmOkX] using hX
  cases st with
  | nil => exact absurd h id
  | cons v1 r =>
    by_cases c2 : v1.category = 2
    · have h : k L (v1 :: v1 :: r) μ := by
        simp only [wpI, c2] at h
        exact h
      intro p l e s m args below meth c H locs B H0 sk sv D cA ls hx hb hr hml hown hts hlk hS hls hH hF hB
      exact lv_dup2_2 hx hb hd (by rw [mmV_cat2]; exact c2) (hk _ _ _ h p l e s m args below meth c H locs B H0 sk sv D cA ls hx hb hr hml hown hts hlk hS hls hH hF hB)
    · have c1 : v1.category = 1 := by cases v1 <;> first | rfl | exact absurd rfl c2
      cases r with
      | nil =>
        simp only [wpI, c1] at h
      | cons v2 r =>
        have h : mif (Nat.beq v2.category 1) (k L (v1 :: v2 :: v1 :: v2 :: r) μ) := by
          simp only [wpI, c1] at h
          exact h
        obtain ⟨h1, h⟩ := mif_ok h
        intro p l e s m args below meth c H locs B H0 sk sv D cA ls hx hb hr hml hown hts hlk hS hls hH hF hB
        exact lv_dup2_11 hx hb hd (by rw [mmV_cat2]; exact c1) (by rw [mmV_cat2]; exact Nat.eq_of_beq_eq_true h1) (hk _ _ _ h p l e s m args below meth c H locs B H0 sk sv D cA ls hx hb hr hml hown hts hlk hS hls hH hF hB)
theorem st_ifCond {d : Nat} {M : mmMi} {P : Option Value → mmMem → Prop} {k : List Value → List Value → mmMem → Prop} {L st : List Value} {μ : mmMem} {pc len w a b : Nat} {v : Value} {Mc : mmMi} {cc : ClassFile.Cond} {off : Int} (hok : mmOkI M (pc, .ifCond cc off, len, w, a, b, v, Mc) = true) (hk : ∀ L st μ, k L st μ → mmEnds d M (pc + len) L st μ P) (h : wpI d M P (pc, .ifCond cc off, len, w, a, b, v, Mc) k L st μ) : mmEnds d M pc L st μ P := by
  obtain ⟨hd, hX⟩ := mmOkI_ok hok
  dsimp only at hd
  obtain ⟨rfl, ht⟩ : len = 3 ∧ (pc : Int) + off = (a : Int) := by simpa [mmOkX] using hX
  obtain ⟨x, r, rfl, h⟩ := pI_ok h
  intro p l e s m args below meth c H locs B H0 sk sv D cA ls hx hb hr hml hown hts hlk hS hls hH hF hB
  cases cc with
  | eq => exact lv_if_eq hx hb hd ht (fun q => h.1 q p l e s m args below meth c H locs B H0 sk sv D cA ls hx hb hr hml hown hts hlk hS hls hH hF hB) (fun q => hk _ _ _ (h.2 q) p l e s m args below meth c H locs B H0 sk sv D cA ls hx hb hr hml hown hts hlk hS hls hH hF hB)
  | ne => exact lv_if_ne hx hb hd ht (fun q => h.1 q p l e s m args below meth c H locs B H0 sk sv D cA ls hx hb hr hml hown hts hlk hS hls hH hF hB) (fun q => hk _ _ _ (h.2 q) p l e s m args below meth c H locs B H0 sk sv D cA ls hx hb hr hml hown hts hlk hS hls hH hF hB)
  | lt => exact lv_if_lt hx hb hd ht (fun q => h.1 q p l e s m args below meth c H locs B H0 sk sv D cA ls hx hb hr hml hown hts hlk hS hls hH hF hB) (fun q => hk _ _ _ (h.2 q) p l e s m args below meth c H locs B H0 sk sv D cA ls hx hb hr hml hown hts hlk hS hls hH hF hB)
  | ge => exact lv_if_ge hx hb hd ht (fun q => h.1 q p l e s m args below meth c H locs B H0 sk sv D cA ls hx hb hr hml hown hts hlk hS hls hH hF hB) (fun q => hk _ _ _ (h.2 q) p l e s m args below meth c H locs B H0 sk sv D cA ls hx hb hr hml hown hts hlk hS hls hH hF hB)
  | gt => exact lv_if_gt hx hb hd ht (fun q => h.1 q p l e s m args below meth c H locs B H0 sk sv D cA ls hx hb hr hml hown hts hlk hS hls hH hF hB) (fun q => hk _ _ _ (h.2 q) p l e s m args below meth c H locs B H0 sk sv D cA ls hx hb hr hml hown hts hlk hS hls hH hF hB)
  | le => exact lv_if_le hx hb hd ht (fun q => h.1 q p l e s m args below meth c H locs B H0 sk sv D cA ls hx hb hr hml hown hts hlk hS hls hH hF hB) (fun q => hk _ _ _ (h.2 q) p l e s m args below meth c H locs B H0 sk sv D cA ls hx hb hr hml hown hts hlk hS hls hH hF hB)

theorem st_if_icmp {d : Nat} {M : mmMi} {P : Option Value → mmMem → Prop} {k : List Value → List Value → mmMem → Prop} {L st : List Value} {μ : mmMem} {pc len w a b : Nat} {v : Value} {Mc : mmMi} {cc : ClassFile.Cond} {off : Int} (hok : mmOkI M (pc, .if_icmp cc off, len, w, a, b, v, Mc) = true) (hk : ∀ L st μ, k L st μ → mmEnds d M (pc + len) L st μ P) (h : wpI d M P (pc, .if_icmp cc off, len, w, a, b, v, Mc) k L st μ) : mmEnds d M pc L st μ P := by
  obtain ⟨hd, hX⟩ := mmOkI_ok hok
  dsimp only at hd
  obtain ⟨rfl, ht⟩ : len = 3 ∧ (pc : Int) + off = (a : Int) := by simpa [mmOkX] using hX
  obtain ⟨y, r, rfl, h⟩ := pI_ok h
  obtain ⟨x, r, rfl, h⟩ := pI_ok h
  intro p l e s m args below meth c H locs B H0 sk sv D cA ls hx hb hr hml hown hts hlk hS hls hH hF hB
  cases cc with
  | eq => exact lv_icmp_eq hx hb hd ht (fun q => h.1 q p l e s m args below meth c H locs B H0 sk sv D cA ls hx hb hr hml hown hts hlk hS hls hH hF hB) (fun q => hk _ _ _ (h.2 q) p l e s m args below meth c H locs B H0 sk sv D cA ls hx hb hr hml hown hts hlk hS hls hH hF hB)
  | ne => exact lv_icmp_ne hx hb hd ht (fun q => h.1 q p l e s m args below meth c H locs B H0 sk sv D cA ls hx hb hr hml hown hts hlk hS hls hH hF hB) (fun q => hk _ _ _ (h.2 q) p l e s m args below meth c H locs B H0 sk sv D cA ls hx hb hr hml hown hts hlk hS hls hH hF hB)
  | lt => exact lv_icmp_lt hx hb hd ht (fun q => h.1 q p l e s m args below meth c H locs B H0 sk sv D cA ls hx hb hr hml hown hts hlk hS hls hH hF hB) (fun q => hk _ _ _ (h.2 q) p l e s m args below meth c H locs B H0 sk sv D cA ls hx hb hr hml hown hts hlk hS hls hH hF hB)
  | ge => exact lv_icmp_ge hx hb hd ht (fun q => h.1 q p l e s m args below meth c H locs B H0 sk sv D cA ls hx hb hr hml hown hts hlk hS hls hH hF hB) (fun q => hk _ _ _ (h.2 q) p l e s m args below meth c H locs B H0 sk sv D cA ls hx hb hr hml hown hts hlk hS hls hH hF hB)
  | gt => exact lv_icmp_gt hx hb hd ht (fun q => h.1 q p l e s m args below meth c H locs B H0 sk sv D cA ls hx hb hr hml hown hts hlk hS hls hH hF hB) (fun q => hk _ _ _ (h.2 q) p l e s m args below meth c H locs B H0 sk sv D cA ls hx hb hr hml hown hts hlk hS hls hH hF hB)
  | le => exact lv_icmp_le hx hb hd ht (fun q => h.1 q p l e s m args below meth c H locs B H0 sk sv D cA ls hx hb hr hml hown hts hlk hS hls hH hF hB) (fun q => hk _ _ _ (h.2 q) p l e s m args below meth c H locs B H0 sk sv D cA ls hx hb hr hml hown hts hlk hS hls hH hF hB)

theorem st_goto {d : Nat} {M : mmMi} {P : Option Value → mmMem → Prop} {k : List Value → List Value → mmMem → Prop} {L st : List Value} {μ : mmMem} {pc len w a b : Nat} {v : Value} {Mc : mmMi} {off : Int} (hok : mmOkI M (pc, .goto off, len, w, a, b, v, Mc) = true) (hk : ∀ L st μ, k L st μ → mmEnds d M (pc + len) L st μ P) (h : wpI d M P (pc, .goto off, len, w, a, b, v, Mc) k L st μ) : mmEnds d M pc L st μ P := by
  obtain ⟨hd, hX⟩ := mmOkI_ok hok
  dsimp only at hd
  obtain ⟨rfl, ht⟩ : len = 3 ∧ (pc : Int) + off = (a : Int) := by simpa [mmOkX] using hX
  intro p l e s m args below meth c H locs B H0 sk sv D cA ls hx hb hr hml hown hts hlk hS hls hH hF hB
  exact lv_goto hx hb hd ht (h p l e s m args below meth c H locs B H0 sk sv D cA ls hx hb hr hml hown hts hlk hS hls hH hF hB)
theorem mmTs_at {pc : Nat} {x : Int32} {E : Nat → Prop} : ∀ (l : List Int) (lo : Int), mmTs pc x E lo l → ∀ (j : Nat) (off : Int), l[j]? = some off → x.toInt = lo + (j : Int) → E ((pc : Int) + off).toNat
  | [], lo, _, j, off, hj, _ => by simp at hj
  | f :: t, lo, h, j, off, hj, hx => by
    cases j with
    | zero =>
      simp only [List.getElem?_cons_zero, Option.some.injEq] at hj
      subst hj
      exact h.1 (by simpa using hx)
    | succ j => exact mmTs_at t (lo + 1) h.2 j off (by simpa using hj) (by rw [hx]; omega)
theorem mmLk_at {pc : Nat} {x : Int32} {E : Nat → Prop} {d : Int} : ∀ (l : List (Int × Int)), mmLk pc x E d l → E ((pc : Int) + Op.lookupswitch.offset l d x.toInt).toNat
  | [], h => h
  | (qa, qo) :: t, h => by
    rw [Op.lookupswitch.offset_cons]
    by_cases hq : qa = x.toInt
    · rw [if_pos hq]
      exact h.1 hq.symm
    · rw [if_neg hq]
      exact mmLk_at t (h.2 (fun z => hq z.symm))
theorem mmLk_nn {pc : Nat} {x d : Int} : ∀ (l : List (Int × Int)), 0 ≤ (pc : Int) + d → (∀ f ∈ l, 0 ≤ (pc : Int) + f.2) → 0 ≤ (pc : Int) + Op.lookupswitch.offset l d x
  | [], hd, _ => hd
  | (qa, qo) :: t, hd, h => by
    rw [Op.lookupswitch.offset_cons]
    by_cases hq : qa = x
    · rw [if_pos hq]
      exact h _ List.mem_cons_self
    · rw [if_neg hq]
      exact mmLk_nn t hd (fun f hf => h f (List.mem_cons_of_mem _ hf))
theorem st_tableswitch {d : Nat} {M : mmMi} {P : Option Value → mmMem → Prop} {k : List Value → List Value → mmMem → Prop} {L st : List Value} {μ : mmMem} {pc len w a b : Nat} {v : Value} {Mc : mmMi} {dflt lo hi : Int} {offs : Array Int} (hok : mmOkI M (pc, .tableswitch dflt lo hi offs, len, w, a, b, v, Mc) = true) (hk : ∀ L st μ, k L st μ → mmEnds d M (pc + len) L st μ P) (h : wpI d M P (pc, .tableswitch dflt lo hi offs, len, w, a, b, v, Mc) k L st μ) : mmEnds d M pc L st μ P := by
  obtain ⟨hd, hX⟩ := mmOkI_ok hok
  dsimp only at hd
  obtain ⟨⟨h1, h2⟩, h3⟩ : (0 ≤ (pc : Int) + dflt ∧ ∀ f ∈ offs.toList, 0 ≤ (pc : Int) + f) ∧ hi - lo + 1 = (offs.toList.length : Int) := by
    simp only [mmOkX, Bool.and_eq_true, decide_eq_true_eq, List.all_eq_true] at hX
    exact hX
  obtain ⟨x, r, rfl, h⟩ := pI_ok h
  intro p l e s m args below meth c H locs B H0 sk sv D cA ls hx hb hr hml hown hts hlk hS hls hH hF hB
  by_cases hout : x.toInt < lo ∨ hi < x.toInt
  · exact lv_tableOut hx hb hd hout (Int.toNat_of_nonneg h1).symm (h.1 hout p l e s m args below meth c H locs B H0 sk sv D cA ls hx hb hr hml hown hts hlk hS hls hH hF hB)
  · have hj : (x.toInt - lo).toNat < offs.toList.length := by omega
    have hg : offs.toList[(x.toInt - lo).toNat]? = some offs.toList[(x.toInt - lo).toNat] := List.getElem?_eq_getElem hj
    have hnn := h2 _ (List.getElem_mem hj)
    refine lv_tableIn hx hb hd (fun q => hout (Or.inl q)) (fun q => hout (Or.inr q)) (by rw [← Array.getElem?_toList]; exact hg) (Int.toNat_of_nonneg hnn).symm ?_
    exact mmTs_at offs.toList lo h.2 _ _ hg (by omega) p l e s m args below meth c H locs B H0 sk sv D cA ls hx hb hr hml hown hts hlk hS hls hH hF hB
theorem st_lookupswitch {d : Nat} {M : mmMi} {P : Option Value → mmMem → Prop} {k : List Value → List Value → mmMem → Prop} {L st : List Value} {μ : mmMem} {pc len w a b : Nat} {v : Value} {Mc : mmMi} {dflt : Int} {ps : Array (Int × Int)} (hok : mmOkI M (pc, .lookupswitch dflt ps, len, w, a, b, v, Mc) = true) (hk : ∀ L st μ, k L st μ → mmEnds d M (pc + len) L st μ P) (h : wpI d M P (pc, .lookupswitch dflt ps, len, w, a, b, v, Mc) k L st μ) : mmEnds d M pc L st μ P := by
  obtain ⟨hd, hX⟩ := mmOkI_ok hok
  dsimp only at hd
  obtain ⟨⟨h1, h2⟩, h3⟩ : (0 ≤ (pc : Int) + dflt ∧ ∀ f ∈ ps.toList, 0 ≤ (pc : Int) + f.2) ∧ (ps.toList.zip (ps.toList.drop 1)).all (fun (a, next) => a.1 < next.1) = true := by
    simp only [mmOkX, Bool.and_eq_true, decide_eq_true_eq] at hX
    refine ⟨⟨hX.1.1, fun f hf => ?_⟩, hX.2⟩
    have h9 := List.all_eq_true.mp hX.1.2 f hf
    simpa using h9
  obtain ⟨x, r, rfl, h⟩ := pI_ok h
  intro p l e s m args below meth c H locs B H0 sk sv D cA ls hx hb hr hml hown hts hlk hS hls hH hF hB
  exact lv_lookup hx hb hd h3 rfl (Int.toNat_of_nonneg (mmLk_nn ps.toList h1 h2)).symm (mmLk_at ps.toList h p l e s m args below meth c H locs B H0 sk sv D cA ls hx hb hr hml hown hts hlk hS hls hH hF hB)
theorem st_getfield {d : Nat} {M : mmMi} {P : Option Value → mmMem → Prop} {k : List Value → List Value → mmMem → Prop} {L st : List Value} {μ : mmMem} {pc len w a b : Nat} {v : Value} {Mc : mmMi} {n : Nat} (hok : mmOkI M (pc, .getfield n, len, w, a, b, v, Mc) = true) (hk : ∀ L st μ, k L st μ → mmEnds d M (pc + len) L st μ P) (h : wpI d M P (pc, .getfield n, len, w, a, b, v, Mc) k L st μ) : mmEnds d M pc L st μ P := by
  obtain ⟨hd, hX⟩ := mmOkI_ok hok
  dsimp only at hd
  simp only [mmOkX, Bool.and_eq_true, beq_iff_eq] at hX
  obtain ⟨rfl, hX⟩ := hX
  obtain ⟨o, r, rfl, hKD, h⟩ := pA_ok h
  cases hc : vwCl[a]? with
  | none => rw [hc] at hX; cases hX
  | some q =>
    obtain ⟨C, T, N⟩ := q
    rw [hc] at hX
    simp only [Bool.and_eq_true, decide_eq_true_eq] at hX
    obtain ⟨hb9, hw⟩ := hX
    obtain ⟨hci, rfl, hin, -, -⟩ := mm_cls hc
    intro p l e s m args below meth c H locs B H0 sk sv D cA ls hx hb hr hml hown hts hlk hS hls hH hF hB
    have h9 := hk _ _ _ h p l e s m args below meth c H locs B H0 sk sv D cA ls hx hb hr hml hown hts hlk hS hls hH hF hB
    rw [List.map_cons, mmV_Gf] at h9
    exact va_get (C := C) (T := T) (N := mmNF a) (own := M.1.cls) hx hb hts hin hown hS.2.1 hH.2.2 o (mmE_o hKD hci) hc b hb9 (mm_word (M := M) hts hw rfl) (fun _ q => q) (mm_fs hb9) hd h9
theorem mm_next {B : Nat} {H0 : Heap} {D : va_G} {cA : Nat → ClassId} {μ ν : mmMem} {H H1 H2 : Heap} {locs locs1 : List Loc} (hH : mmH B H0 D cA μ H) (hF : va_S (fun q => B ≤ q) H2 H locs) (hB : H2.size = B + 173) (hP : va_P D vwCl (mmW B cA ν) H1) (hS1 : va_S (fun q => B ≤ q) H2 H1 locs1) (hsz : H1.size ≤ H2.size + 0) : mmH B H0 D cA ν H1 := by
  refine ⟨by have := hS1.1; omega, fun q hq => ?_, hP⟩
  have h1 := hS1.2.1 q (by omega) (by simpa using hq)
  have h2 := hF.2.1 q (by omega) (by simpa using hq)
  rw [h1, ← h2]
  exact hH.2.1 q hq
theorem mm_fset {B : Nat} {μ ν : mmMem} {a ci k : Nat} {y : Value} (hk : k < mmNF ci) (h : ∀ j, j ≠ k → mmFV B μ a ci j = mmFV B ν a ci j) (hy : y = mmFV B ν a ci k) : ((List.range (mmNF ci)).map (mmFV B μ a ci)).set k y = (List.range (mmNF ci)).map (mmFV B ν a ci) := mm_mapset hk h hy
theorem mm_oset {B : Nat} {cA : Nat → ClassId} {μ ν : mmMem} {a ci k : Nat} {y : Value} (hKD : mmKD a = ci) (hci : ci < 10) (hk : k < mmNF ci) (h1 : ∀ b, b ≠ a → μ.1 b = ν.1 b) (h2 : ∀ b, b ≠ a → μ.2.1 b = ν.2.1 b) (h3 : ∀ b, b ≠ a → μ.2.2 b = ν.2.2 b) (h : ∀ j, j ≠ k → mmFV B μ a ci j = mmFV B ν a ci j) (hy : y = mmFV B ν a ci k) :
    (mmW B cA μ).set a (B + a, .inr (ci, ((List.range (mmNF ci)).map (mmFV B μ a ci)).set k y)) = mmW B cA ν := by
  refine mmW_set (mmKD_lt (by omega)) h1 h2 h3 ?_
  rw [mm_fset hk h hy, mmE_obj hKD hci]
theorem sI_fv {B : Nat} {μ : mmMem} {a ci k : Nat} {x : Int32} (j : Nat) (hj : j ≠ k) : mmFV B μ a ci j = mmFV B (sI μ a k x) a ci j := by
  unfold mmFV
  split <;> simp [sI, upd, hj]
theorem sJ_fv {B : Nat} {μ : mmMem} {a ci k : Nat} {x : Int64} (j : Nat) (hj : j ≠ k) : mmFV B μ a ci j = mmFV B (sJ μ a k x) a ci j := by
  unfold mmFV
  split <;> simp [sJ, vp_updL, hj]
theorem sD_fv {B : Nat} {μ : mmMem} {a ci k : Nat} {x : UInt64} (j : Nat) (hj : j ≠ k) : mmFV B μ a ci j = mmFV B (sD μ a k x) a ci j := by
  unfold mmFV
  split <;> simp [sD, vf_upd, hj]
theorem st_putfield {d : Nat} {M : mmMi} {P : Option Value → mmMem → Prop} {k : List Value → List Value → mmMem → Prop} {L st : List Value} {μ : mmMem} {pc len w a b : Nat} {v : Value} {Mc : mmMi} {n : Nat} (hok : mmOkI M (pc, .putfield n, len, w, a, b, v, Mc) = true) (hk : ∀ L st μ, k L st μ → mmEnds d M (pc + len) L st μ P) (h : wpI d M P (pc, .putfield n, len, w, a, b, v, Mc) k L st μ) : mmEnds d M pc L st μ P := by
  obtain ⟨hd, hX⟩ := mmOkI_ok hok
  dsimp only at hd
  simp only [mmOkX, Bool.and_eq_true, beq_iff_eq] at hX
  obtain ⟨rfl, hX⟩ := hX
  cases hc : vwCl[a]? with
  | none => rw [hc] at hX; cases hX
  | some q =>
    obtain ⟨C, T, N⟩ := q
    rw [hc] at hX
    simp only [Bool.and_eq_true, decide_eq_true_eq] at hX
    obtain ⟨⟨hb9, hw⟩, hfin⟩ := hX
    obtain ⟨hci, rfl, hin, hnm, ty, hty, hsort⟩ := mm_cls hc
    obtain ⟨s0, s1, s2⟩ := hsort b hb9
    have h4 : mmFT a b = 0 ∨ mmFT a b = 1 ∨ mmFT a b = 2 ∨ 3 ≤ mmFT a b := by omega
    rcases h4 with hft | hft | hft | hft
    · have h : pI st fun x r => pA r fun o r => mmKD o = a ∧ (mmBool a b = true → x = 0 ∨ x = 1) ∧ k L r (sI μ o b x) := by
        simp only [wpI, hft] at h
        obtain ⟨x, r, rfl, h⟩ := pI_ok h
        obtain ⟨o, r, rfl, hKD, h⟩ := pA_ok h
        refine ⟨hKD, ?_⟩
        cases hbb : mmBool a b with
        | true => rw [hbb] at h; exact ⟨fun _ => (mbl_ok h).1, (mbl_ok h).2⟩
        | false => rw [hbb] at h; exact ⟨fun q => Bool.noConfusion q, h⟩
      obtain ⟨x, r, rfl, h⟩ := pI_ok h
      obtain ⟨o, r, rfl, hKD, hbo, h⟩ := pA_ok h
      have hn : narrow (ty b) (.int x) = .int x ∧ fits (ty b) (.int x) = true := by
        rcases s0 hft with ⟨h5, -⟩ | ⟨h5, h6⟩
        · rw [h5]; exact ⟨rfl, rfl⟩
        · rw [h5]
          rcases hbo h6 with rfl | rfl
          · exact ⟨rfl, rfl⟩
          · exact ⟨rfl, rfl⟩
      intro p l e s m args below meth c H locs B H0 sk sv D cA ls hx hb hr hml hown hts hlk hS hls hH hF hB
      refine va_put (C := C) (T := T) (N := mmNF a) (own := M.1.cls) hx hb hts hin ty hty hnm hown hS.2.1 hH.2.2 mmW_D hF o (mmE_o hKD hci) hc b hb9 (mm_word (M := M) hts hw rfl) (fun _ q => q) hfin (hty b hb9) hn.1 hn.2 (by simpa using hb9) hd (fun H1 locs1 hP1 hD1 hS1 => mm_sz fun hsz => ?_)
      have e9 := mm_oset (B := B) (cA := cA) (μ := μ) (ν := sI μ o b x) hKD hci hb9 (fun q hq => by simp [sI, hq]) (fun q hq => by simp [sI, hq]) (fun q hq => by simp [sI, hq]) (fun j hj => sI_fv j hj) rfl
      have e8 : mmFV B (sI μ o b x) o a b = mmV B sk (mmGf (sI μ o b x) a o b) := (mmV_Gf B sk _ a o b).symm
      have hP9 : va_P D vwCl (mmW B cA (sI μ o b x)) H1 := by
        rw [← e9]
        have e7 : mmFV B (sI μ o b x) o a b = .int x := by simp [mmFV, hft, sI, upd, vp_updL, vf_upd]
        rw [e7]
        exact hP1
      exact hk _ _ _ h p l e s m args below meth c H1 locs1 B H0 sk sv D cA ls hx hb hr hml hown hts hlk hS hls (mm_next hH hF hB hP9 hS1 hsz) hS1 hB
    · have h : pJ st fun x r => pA r fun o r => mmKD o = a ∧ k L r (sJ μ o b x) := by
        simp only [wpI, hft] at h
        exact h
      obtain ⟨x, r, rfl, h⟩ := pJ_ok h
      obtain ⟨o, r, rfl, hKD, h⟩ := pA_ok h
      intro p l e s m args below meth c H locs B H0 sk sv D cA ls hx hb hr hml hown hts hlk hS hls hH hF hB
      refine va_put (C := C) (T := T) (N := mmNF a) (own := M.1.cls) hx hb hts hin ty hty hnm hown hS.2.1 hH.2.2 mmW_D hF o (mmE_o hKD hci) hc b hb9 (mm_word (M := M) hts hw rfl) (fun _ q => q) hfin (hty b hb9) (by rw [s1 hft]; rfl) (by rw [s1 hft]; rfl) (by simpa using hb9) hd (fun H1 locs1 hP1 hD1 hS1 => mm_sz fun hsz => ?_)
      have e9 := mm_oset (B := B) (cA := cA) (μ := μ) (ν := sJ μ o b x) hKD hci hb9 (fun q hq => by simp [sJ, hq]) (fun q hq => by simp [sJ, hq]) (fun q hq => by simp [sJ, hq]) (fun j hj => sJ_fv j hj) rfl
      have e8 : mmFV B (sJ μ o b x) o a b = mmV B sk (mmGf (sJ μ o b x) a o b) := (mmV_Gf B sk _ a o b).symm
      have hP9 : va_P D vwCl (mmW B cA (sJ μ o b x)) H1 := by
        rw [← e9]
        have e7 : mmFV B (sJ μ o b x) o a b = .long x := by simp [mmFV, hft, sJ, upd, vp_updL, vf_upd]
        rw [e7]
        exact hP1
      exact hk _ _ _ h p l e s m args below meth c H1 locs1 B H0 sk sv D cA ls hx hb hr hml hown hts hlk hS hls (mm_next hH hF hB hP9 hS1 hsz) hS1 hB
    · have h : pD st fun x r => pA r fun o r => mmKD o = a ∧ k L r (sD μ o b x) := by
        simp only [wpI, hft] at h
        exact h
      obtain ⟨x, r, rfl, h⟩ := pD_ok h
      obtain ⟨o, r, rfl, hKD, h⟩ := pA_ok h
      intro p l e s m args below meth c H locs B H0 sk sv D cA ls hx hb hr hml hown hts hlk hS hls hH hF hB
      refine va_put (C := C) (T := T) (N := mmNF a) (own := M.1.cls) hx hb hts hin ty hty hnm hown hS.2.1 hH.2.2 mmW_D hF o (mmE_o hKD hci) hc b hb9 (mm_word (M := M) hts hw rfl) (fun _ q => q) hfin (hty b hb9) (by rw [s2 hft]; rfl) (by rw [s2 hft]; rfl) (by simpa using hb9) hd (fun H1 locs1 hP1 hD1 hS1 => mm_sz fun hsz => ?_)
      have e9 := mm_oset (B := B) (cA := cA) (μ := μ) (ν := sD μ o b x) hKD hci hb9 (fun q hq => by simp [sD, hq]) (fun q hq => by simp [sD, hq]) (fun q hq => by simp [sD, hq]) (fun j hj => sD_fv j hj) rfl
      have e8 : mmFV B (sD μ o b x) o a b = mmV B sk (mmGf (sD μ o b x) a o b) := (mmV_Gf B sk _ a o b).symm
      have hP9 : va_P D vwCl (mmW B cA (sD μ o b x)) H1 := by
        rw [← e9]
        have e7 : mmFV B (sD μ o b x) o a b = .double x := by simp [mmFV, hft, sD, upd, vp_updL, vf_upd]
        rw [e7]
        exact hP1
      exact hk _ _ _ h p l e s m args below meth c H1 locs1 B H0 sk sv D cA ls hx hb hr hml hown hts hlk hS hls (mm_next hH hF hB hP9 hS1 hsz) hS1 hB
    · exfalso
      revert h
      simp only [wpI]
      split <;> first | omega | exact id
theorem st_iaload {d : Nat} {M : mmMi} {P : Option Value → mmMem → Prop} {k : List Value → List Value → mmMem → Prop} {L st : List Value} {μ : mmMem} {pc len w a b : Nat} {v : Value} {Mc : mmMi} (hok : mmOkI M (pc, .iaload, len, w, a, b, v, Mc) = true) (hk : ∀ L st μ, k L st μ → mmEnds d M (pc + len) L st μ P) (h : wpI d M P (pc, .iaload, len, w, a, b, v, Mc) k L st μ) : mmEnds d M pc L st μ P := by
  obtain ⟨hd, hX⟩ := mmOkI_ok hok
  dsimp only at hd
  obtain rfl : len = 1 := by simpa [mmOkX] using hX
  obtain ⟨j, r, rfl, h⟩ := pI_ok h
  obtain ⟨o, r, rfl, hKD, hin, h⟩ := pA_ok h
  intro p l e s m args below meth c H locs B H0 sk sv D cA ls hx hb hr hml hown hts hlk hS hls hH hF hB
  exact va_iald (t0 := 0) hx hb hS.2.1 hH.2.2 o (mmE_10 hKD) rfl hin hd (hk _ _ _ h p l e s m args below meth c H locs B H0 sk sv D cA ls hx hb hr hml hown hts hlk hS hls hH hF hB)
theorem st_laload {d : Nat} {M : mmMi} {P : Option Value → mmMem → Prop} {k : List Value → List Value → mmMem → Prop} {L st : List Value} {μ : mmMem} {pc len w a b : Nat} {v : Value} {Mc : mmMi} (hok : mmOkI M (pc, .laload, len, w, a, b, v, Mc) = true) (hk : ∀ L st μ, k L st μ → mmEnds d M (pc + len) L st μ P) (h : wpI d M P (pc, .laload, len, w, a, b, v, Mc) k L st μ) : mmEnds d M pc L st μ P := by
  obtain ⟨hd, hX⟩ := mmOkI_ok hok
  dsimp only at hd
  obtain rfl : len = 1 := by simpa [mmOkX] using hX
  obtain ⟨j, r, rfl, h⟩ := pI_ok h
  obtain ⟨o, r, rfl, hKD, hin, h⟩ := pA_ok h
  intro p l e s m args below meth c H locs B H0 sk sv D cA ls hx hb hr hml hown hts hlk hS hls hH hF hB
  exact va_lald (t0 := 1) hx hb hS.2.1 hH.2.2 o (mmE_11 hKD) rfl hin hd (hk _ _ _ h p l e s m args below meth c H locs B H0 sk sv D cA ls hx hb hr hml hown hts hlk hS hls hH hF hB)
theorem st_daload {d : Nat} {M : mmMi} {P : Option Value → mmMem → Prop} {k : List Value → List Value → mmMem → Prop} {L st : List Value} {μ : mmMem} {pc len w a b : Nat} {v : Value} {Mc : mmMi} (hok : mmOkI M (pc, .daload, len, w, a, b, v, Mc) = true) (hk : ∀ L st μ, k L st μ → mmEnds d M (pc + len) L st μ P) (h : wpI d M P (pc, .daload, len, w, a, b, v, Mc) k L st μ) : mmEnds d M pc L st μ P := by
  obtain ⟨hd, hX⟩ := mmOkI_ok hok
  dsimp only at hd
  obtain rfl : len = 1 := by simpa [mmOkX] using hX
  obtain ⟨j, r, rfl, h⟩ := pI_ok h
  obtain ⟨o, r, rfl, hKD, hin, h⟩ := pA_ok h
  intro p l e s m args below meth c H locs B H0 sk sv D cA ls hx hb hr hml hown hts hlk hS hls hH hF hB
  exact va_dald (t0 := 2) hx hb hS.2.1 hH.2.2 o (mmE_12 hKD) rfl hin hd (hk _ _ _ h p l e s m args below meth c H locs B H0 sk sv D cA ls hx hb hr hml hown hts hlk hS hls hH hF hB)
theorem st_baload {d : Nat} {M : mmMi} {P : Option Value → mmMem → Prop} {k : List Value → List Value → mmMem → Prop} {L st : List Value} {μ : mmMem} {pc len w a b : Nat} {v : Value} {Mc : mmMi} (hok : mmOkI M (pc, .baload, len, w, a, b, v, Mc) = true) (hk : ∀ L st μ, k L st μ → mmEnds d M (pc + len) L st μ P) (h : wpI d M P (pc, .baload, len, w, a, b, v, Mc) k L st μ) : mmEnds d M pc L st μ P := by
  obtain ⟨hd, hX⟩ := mmOkI_ok hok
  dsimp only at hd
  obtain rfl : len = 1 := by simpa [mmOkX] using hX
  obtain ⟨j, r, rfl, h⟩ := pI_ok h
  obtain ⟨o, r, rfl, hKD, hin, h⟩ := pA_ok h
  intro p l e s m args below meth c H locs B H0 sk sv D cA ls hx hb hr hml hown hts hlk hS hls hH hF hB
  exact va_zald (t0 := 3) hx hb hS.2.1 hH.2.2 o (mmE_13 hKD) rfl hin hd (hk _ _ _ h p l e s m args below meth c H locs B H0 sk sv D cA ls hx hb hr hml hown hts hlk hS hls hH hF hB)
theorem st_aaload {d : Nat} {M : mmMi} {P : Option Value → mmMem → Prop} {k : List Value → List Value → mmMem → Prop} {L st : List Value} {μ : mmMem} {pc len w a b : Nat} {v : Value} {Mc : mmMi} (hok : mmOkI M (pc, .aaload, len, w, a, b, v, Mc) = true) (hk : ∀ L st μ, k L st μ → mmEnds d M (pc + len) L st μ P) (h : wpI d M P (pc, .aaload, len, w, a, b, v, Mc) k L st μ) : mmEnds d M pc L st μ P := by
  obtain ⟨hd, hX⟩ := mmOkI_ok hok
  dsimp only at hd
  obtain ⟨rfl, ha⟩ : len = 1 ∧ (a = 14 ∨ a = 15 ∨ a = 16) := by simpa [mmOkX] using hX
  obtain ⟨j, r, rfl, h⟩ := pI_ok h
  obtain ⟨o, r, rfl, hKD, hin, hh⟩ := pA_ok h
  intro p l e s m args below meth c H locs B H0 sk sv D cA ls hx hb hr hml hown hts hlk hS hls hH hF hB
  rcases ha with rfl | rfl | rfl
  · exact va_aldq (t0 := 4) hx hb hS.2.1 hH.2.2 o (mmE_14 hKD) rfl hin hd (hk _ _ _ hh p l e s m args below meth c H locs B H0 sk sv D cA ls hx hb hr hml hown hts hlk hS hls hH hF hB)
  · exact va_aldq (t0 := 5) hx hb hS.2.1 hH.2.2 o (mmE_15 hKD) rfl hin hd (hk _ _ _ hh p l e s m args below meth c H locs B H0 sk sv D cA ls hx hb hr hml hown hts hlk hS hls hH hF hB)
  · exact va_aldq (t0 := 6) hx hb hS.2.1 hH.2.2 o (mmE_16 hKD) rfl hin hd (hk _ _ _ hh p l e s m args below meth c H locs B H0 sk sv D cA ls hx hb hr hml hown hts hlk hS hls hH hF hB)
theorem st_iastore {d : Nat} {M : mmMi} {P : Option Value → mmMem → Prop} {k : List Value → List Value → mmMem → Prop} {L st : List Value} {μ : mmMem} {pc len w a b : Nat} {v : Value} {Mc : mmMi} (hok : mmOkI M (pc, .iastore, len, w, a, b, v, Mc) = true) (hk : ∀ L st μ, k L st μ → mmEnds d M (pc + len) L st μ P) (h : wpI d M P (pc, .iastore, len, w, a, b, v, Mc) k L st μ) : mmEnds d M pc L st μ P := by
  obtain ⟨hd, hX⟩ := mmOkI_ok hok
  dsimp only at hd
  obtain rfl : len = 1 := by simpa [mmOkX] using hX
  obtain ⟨x, r, rfl, h⟩ := pI_ok h
  obtain ⟨j, r, rfl, h⟩ := pI_ok h
  obtain ⟨o, r, rfl, hKD, hin, h⟩ := pA_ok h
  intro p l e s m args below meth c H locs B H0 sk sv D cA ls hx hb hr hml hown hts hlk hS hls hH hF hB
  refine va_iast (t0 := 0) hx hb hS.2.1 hH.2.2 mmW_D hF o (mmE_10 hKD) rfl hin hd (fun H1 locs1 hP1 hD1 hS1 => mm_sz fun hsz => ?_)
  have h7 : o < 173 := mmKD_lt (by rw [hKD]; decide)
  have h8 := mmE_10 (B := B) (cA := cA) (μ := sI μ o j.toNatClampNeg x) hKD
  rw [mmW_get h7] at h8
  have h6 := congrArg Prod.snd (Option.some.inj h8)
  dsimp only at h6
  have e9 := mmW_set (B := B) (cA := cA) (μ := μ) (ν := sI μ o j.toNatClampNeg x) h7 (fun q hq => by simp [sI, hq]) (fun q hq => by simp [sI, hq]) (fun q hq => by simp [sI, hq]) h6.symm
  have hP9 : va_P D vwCl (mmW B cA (sI μ o j.toNatClampNeg x)) H1 := by
    rw [← e9]
    simpa [sI] using hP1
  exact hk _ _ _ h p l e s m args below meth c H1 locs1 B H0 sk sv D cA ls hx hb hr hml hown hts hlk hS hls (mm_next hH hF hB hP9 hS1 hsz) hS1 hB
theorem st_lastore {d : Nat} {M : mmMi} {P : Option Value → mmMem → Prop} {k : List Value → List Value → mmMem → Prop} {L st : List Value} {μ : mmMem} {pc len w a b : Nat} {v : Value} {Mc : mmMi} (hok : mmOkI M (pc, .lastore, len, w, a, b, v, Mc) = true) (hk : ∀ L st μ, k L st μ → mmEnds d M (pc + len) L st μ P) (h : wpI d M P (pc, .lastore, len, w, a, b, v, Mc) k L st μ) : mmEnds d M pc L st μ P := by
  obtain ⟨hd, hX⟩ := mmOkI_ok hok
  dsimp only at hd
  obtain rfl : len = 1 := by simpa [mmOkX] using hX
  obtain ⟨x, r, rfl, h⟩ := pJ_ok h
  obtain ⟨j, r, rfl, h⟩ := pI_ok h
  obtain ⟨o, r, rfl, hKD, hin, h⟩ := pA_ok h
  intro p l e s m args below meth c H locs B H0 sk sv D cA ls hx hb hr hml hown hts hlk hS hls hH hF hB
  refine va_last (t0 := 1) hx hb hS.2.1 hH.2.2 mmW_D hF o (mmE_11 hKD) rfl hin hd (fun H1 locs1 hP1 hD1 hS1 => mm_sz fun hsz => ?_)
  have h7 : o < 173 := mmKD_lt (by rw [hKD]; decide)
  have h8 := mmE_11 (B := B) (cA := cA) (μ := sJ μ o j.toNatClampNeg x) hKD
  rw [mmW_get h7] at h8
  have h6 := congrArg Prod.snd (Option.some.inj h8)
  dsimp only at h6
  have e9 := mmW_set (B := B) (cA := cA) (μ := μ) (ν := sJ μ o j.toNatClampNeg x) h7 (fun q hq => by simp [sJ, hq]) (fun q hq => by simp [sJ, hq]) (fun q hq => by simp [sJ, hq]) h6.symm
  have hP9 : va_P D vwCl (mmW B cA (sJ μ o j.toNatClampNeg x)) H1 := by
    rw [← e9]
    simpa [sJ] using hP1
  exact hk _ _ _ h p l e s m args below meth c H1 locs1 B H0 sk sv D cA ls hx hb hr hml hown hts hlk hS hls (mm_next hH hF hB hP9 hS1 hsz) hS1 hB
theorem st_dastore {d : Nat} {M : mmMi} {P : Option Value → mmMem → Prop} {k : List Value → List Value → mmMem → Prop} {L st : List Value} {μ : mmMem} {pc len w a b : Nat} {v : Value} {Mc : mmMi} (hok : mmOkI M (pc, .dastore, len, w, a, b, v, Mc) = true) (hk : ∀ L st μ, k L st μ → mmEnds d M (pc + len) L st μ P) (h : wpI d M P (pc, .dastore, len, w, a, b, v, Mc) k L st μ) : mmEnds d M pc L st μ P := by
  obtain ⟨hd, hX⟩ := mmOkI_ok hok
  dsimp only at hd
  obtain rfl : len = 1 := by simpa [mmOkX] using hX
  obtain ⟨x, r, rfl, h⟩ := pD_ok h
  obtain ⟨j, r, rfl, h⟩ := pI_ok h
  obtain ⟨o, r, rfl, hKD, hin, h⟩ := pA_ok h
  intro p l e s m args below meth c H locs B H0 sk sv D cA ls hx hb hr hml hown hts hlk hS hls hH hF hB
  refine va_dast (t0 := 2) hx hb hS.2.1 hH.2.2 mmW_D hF o (mmE_12 hKD) rfl hin hd (fun H1 locs1 hP1 hD1 hS1 => mm_sz fun hsz => ?_)
  have h7 : o < 173 := mmKD_lt (by rw [hKD]; decide)
  have h8 := mmE_12 (B := B) (cA := cA) (μ := sD μ o j.toNatClampNeg x) hKD
  rw [mmW_get h7] at h8
  have h6 := congrArg Prod.snd (Option.some.inj h8)
  dsimp only at h6
  have e9 := mmW_set (B := B) (cA := cA) (μ := μ) (ν := sD μ o j.toNatClampNeg x) h7 (fun q hq => by simp [sD, hq]) (fun q hq => by simp [sD, hq]) (fun q hq => by simp [sD, hq]) h6.symm
  have hP9 : va_P D vwCl (mmW B cA (sD μ o j.toNatClampNeg x)) H1 := by
    rw [← e9]
    simpa [sD] using hP1
  exact hk _ _ _ h p l e s m args below meth c H1 locs1 B H0 sk sv D cA ls hx hb hr hml hown hts hlk hS hls (mm_next hH hF hB hP9 hS1 hsz) hS1 hB
theorem st_bastore {d : Nat} {M : mmMi} {P : Option Value → mmMem → Prop} {k : List Value → List Value → mmMem → Prop} {L st : List Value} {μ : mmMem} {pc len w a b : Nat} {v : Value} {Mc : mmMi} (hok : mmOkI M (pc, .bastore, len, w, a, b, v, Mc) = true) (hk : ∀ L st μ, k L st μ → mmEnds d M (pc + len) L st μ P) (h : wpI d M P (pc, .bastore, len, w, a, b, v, Mc) k L st μ) : mmEnds d M pc L st μ P := by
  obtain ⟨hd, hX⟩ := mmOkI_ok hok
  dsimp only at hd
  obtain rfl : len = 1 := by simpa [mmOkX] using hX
  obtain ⟨x, r, rfl, h⟩ := pI_ok h
  obtain ⟨j, r, rfl, h⟩ := pI_ok h
  obtain ⟨o, r, rfl, hKD, hin, h⟩ := pA_ok h
  intro p l e s m args below meth c H locs B H0 sk sv D cA ls hx hb hr hml hown hts hlk hS hls hH hF hB
  refine va_zast (t0 := 3) hx hb hS.2.1 hH.2.2 mmW_D hF o (mmE_13 hKD) rfl hin hd (fun H1 locs1 hP1 hD1 hS1 => mm_sz fun hsz => ?_)
  have h7 : o < 173 := mmKD_lt (by rw [hKD]; decide)
  have h8 := mmE_13 (B := B) (cA := cA) (μ := sI μ o j.toNatClampNeg (vp_nar .boolean x)) hKD
  rw [mmW_get h7] at h8
  have h6 := congrArg Prod.snd (Option.some.inj h8)
  dsimp only at h6
  have e9 := mmW_set (B := B) (cA := cA) (μ := μ) (ν := sI μ o j.toNatClampNeg (vp_nar .boolean x)) h7 (fun q hq => by simp [sI, hq]) (fun q hq => by simp [sI, hq]) (fun q hq => by simp [sI, hq]) h6.symm
  have hP9 : va_P D vwCl (mmW B cA (sI μ o j.toNatClampNeg (vp_nar .boolean x))) H1 := by
    rw [← e9]
    simpa [sI] using hP1
  exact hk _ _ _ h p l e s m args below meth c H1 locs1 B H0 sk sv D cA ls hx hb hr hml hown hts hlk hS hls (mm_next hH hF hB hP9 hS1 hsz) hS1 hB
theorem st_arraylength {d : Nat} {M : mmMi} {P : Option Value → mmMem → Prop} {k : List Value → List Value → mmMem → Prop} {L st : List Value} {μ : mmMem} {pc len w a b : Nat} {v : Value} {Mc : mmMi} (hok : mmOkI M (pc, .arraylength, len, w, a, b, v, Mc) = true) (hk : ∀ L st μ, k L st μ → mmEnds d M (pc + len) L st μ P) (h : wpI d M P (pc, .arraylength, len, w, a, b, v, Mc) k L st μ) : mmEnds d M pc L st μ P := by
  obtain ⟨hd, hX⟩ := mmOkI_ok hok
  dsimp only at hd
  obtain ⟨rfl, ha⟩ : len = 1 ∧ (a = 10 ∨ a = 11 ∨ a = 12 ∨ a = 13) := by simpa [mmOkX] using hX
  obtain ⟨o, r, rfl, hKD, hh⟩ := pA_ok h
  intro p l e s m args below meth c H locs B H0 sk sv D cA ls hx hb hr hml hown hts hlk hS hls hH hF hB
  rcases ha with rfl | rfl | rfl | rfl
  · exact va_alen (t0 := 0) hx hb hS.2.1 hH.2.2 o (mmE_10 hKD) rfl rfl hd (hk _ _ _ hh p l e s m args below meth c H locs B H0 sk sv D cA ls hx hb hr hml hown hts hlk hS hls hH hF hB)
  · exact va_alen (t0 := 1) hx hb hS.2.1 hH.2.2 o (mmE_11 hKD) rfl rfl hd (hk _ _ _ hh p l e s m args below meth c H locs B H0 sk sv D cA ls hx hb hr hml hown hts hlk hS hls hH hF hB)
  · exact va_alen (t0 := 2) hx hb hS.2.1 hH.2.2 o (mmE_12 hKD) rfl rfl hd (hk _ _ _ hh p l e s m args below meth c H locs B H0 sk sv D cA ls hx hb hr hml hown hts hlk hS hls hH hF hB)
  · exact va_alen (t0 := 3) hx hb hS.2.1 hH.2.2 o (mmE_13 hKD) rfl rfl hd (hk _ _ _ hh p l e s m args below meth c H locs B H0 sk sv D cA ls hx hb hr hml hown hts hlk hS hls hH hF hB)
theorem st_ireturn {d : Nat} {M : mmMi} {P : Option Value → mmMem → Prop} {k : List Value → List Value → mmMem → Prop} {L st : List Value} {μ : mmMem} {pc len w a b : Nat} {v : Value} {Mc : mmMi} (hok : mmOkI M (pc, .ireturn, len, w, a, b, v, Mc) = true) (hk : ∀ L st μ, k L st μ → mmEnds d M (pc + len) L st μ P) (h : wpI d M P (pc, .ireturn, len, w, a, b, v, Mc) k L st μ) : mmEnds d M pc L st μ P := by
  obtain ⟨hd, hX⟩ := mmOkI_ok hok
  dsimp only at hd
  obtain rfl : len = 1 := by simpa [mmOkX] using hX
  match st, h with
  | [.int x], h =>
    have h : mmRI M.2.2.2 x (P (some (.int x)) μ) := h
    unfold mmRI at h
    split at h
    · rename_i hret
      intro p l e s m args below meth c H locs B H0 sk sv D cA ls hx hb hr hml hown hts hlk hS hls hH hF hB
      exact W.zret hx hb (hr.trans hret) (ty := .int) rfl (fun t ht hW => ⟨some (.int x), μ, rfl, h, ht ▸ hH⟩) hF.2.2 hd hlk
    · rename_i hret
      obtain ⟨h1, h⟩ := mbl_ok h
      intro p l e s m args below meth c H locs B H0 sk sv D cA ls hx hb hr hml hown hts hlk hS hls hH hF hB
      exact W.zret hx hb (hr.trans hret) (ty := .boolean) (by rcases h1 with rfl | rfl <;> rfl) (fun t ht hW => ⟨some (.int x), μ, rfl, h, ht ▸ hH⟩) hF.2.2 hd hlk
    · exact h.elim
theorem st_lreturn {d : Nat} {M : mmMi} {P : Option Value → mmMem → Prop} {k : List Value → List Value → mmMem → Prop} {L st : List Value} {μ : mmMem} {pc len w a b : Nat} {v : Value} {Mc : mmMi} (hok : mmOkI M (pc, .lreturn, len, w, a, b, v, Mc) = true) (hk : ∀ L st μ, k L st μ → mmEnds d M (pc + len) L st μ P) (h : wpI d M P (pc, .lreturn, len, w, a, b, v, Mc) k L st μ) : mmEnds d M pc L st μ P := by
  obtain ⟨hd, hX⟩ := mmOkI_ok hok
  dsimp only at hd
  obtain ⟨rfl, hret⟩ : len = 1 ∧ M.2.2.2 = some .long := by simpa [mmOkX] using hX
  match st, h with
  | [.long x], h =>
    intro p l e s m args below meth c H locs B H0 sk sv D cA ls hx hb hr hml hown hts hlk hS hls hH hF hB
    exact W.lret hx hb (hr.trans hret) (fun t ht hW => ⟨some (.long x), μ, rfl, h, ht ▸ hH⟩) hF.2.2 hd hlk
theorem st_dreturn {d : Nat} {M : mmMi} {P : Option Value → mmMem → Prop} {k : List Value → List Value → mmMem → Prop} {L st : List Value} {μ : mmMem} {pc len w a b : Nat} {v : Value} {Mc : mmMi} (hok : mmOkI M (pc, .dreturn, len, w, a, b, v, Mc) = true) (hk : ∀ L st μ, k L st μ → mmEnds d M (pc + len) L st μ P) (h : wpI d M P (pc, .dreturn, len, w, a, b, v, Mc) k L st μ) : mmEnds d M pc L st μ P := by
  obtain ⟨hd, hX⟩ := mmOkI_ok hok
  dsimp only at hd
  obtain ⟨rfl, hret⟩ : len = 1 ∧ M.2.2.2 = some .double := by simpa [mmOkX] using hX
  match st, h with
  | [.double x], h =>
    intro p l e s m args below meth c H locs B H0 sk sv D cA ls hx hb hr hml hown hts hlk hS hls hH hF hB
    exact W.dret hx hb (hr.trans hret) (fun t ht hW => ⟨some (.double x), μ, rfl, h, ht ▸ hH⟩) hF.2.2 hd hlk
theorem st_freturn {d : Nat} {M : mmMi} {P : Option Value → mmMem → Prop} {k : List Value → List Value → mmMem → Prop} {L st : List Value} {μ : mmMem} {pc len w a b : Nat} {v : Value} {Mc : mmMi} (hok : mmOkI M (pc, .freturn, len, w, a, b, v, Mc) = true) (hk : ∀ L st μ, k L st μ → mmEnds d M (pc + len) L st μ P) (h : wpI d M P (pc, .freturn, len, w, a, b, v, Mc) k L st μ) : mmEnds d M pc L st μ P := by
  obtain ⟨hd, hX⟩ := mmOkI_ok hok
  dsimp only at hd
  obtain ⟨rfl, hret⟩ : len = 1 ∧ M.2.2.2 = some .float := by simpa [mmOkX] using hX
  match st, h with
  | [.float x], h =>
    intro p l e s m args below meth c H locs B H0 sk sv D cA ls hx hb hr hml hown hts hlk hS hls hH hF hB
    exact W.fret hx hb (hr.trans hret) (fun t ht hW => ⟨some (.float x), μ, rfl, h, ht ▸ hH⟩) hF.2.2 hd hlk
theorem st_areturn {d : Nat} {M : mmMi} {P : Option Value → mmMem → Prop} {k : List Value → List Value → mmMem → Prop} {L st : List Value} {μ : mmMem} {pc len w a b : Nat} {v : Value} {Mc : mmMi} (hok : mmOkI M (pc, .areturn, len, w, a, b, v, Mc) = true) (hk : ∀ L st μ, k L st μ → mmEnds d M (pc + len) L st μ P) (h : wpI d M P (pc, .areturn, len, w, a, b, v, Mc) k L st μ) : mmEnds d M pc L st μ P := by
  obtain ⟨hd, hX⟩ := mmOkI_ok hok
  dsimp only at hd
  have hX2 : (len == 1 && (match M.2.2.2 with
      | some (.object _) => true
      | _ => false)) = true := hX
  rw [Bool.and_eq_true, beq_iff_eq] at hX2
  obtain ⟨rfl, hX2⟩ := hX2
  obtain ⟨n, hret⟩ : ∃ n, M.2.2.2 = some (.object n) := by
    split at hX2
    · exact ⟨_, by assumption⟩
    · cases hX2
  match st, h with
  | [.ref x], h =>
    intro p l e s m args below meth c H locs B H0 sk sv D cA ls hx hb hr hml hown hts hlk hS hls hH hF hB
    exact W.aret hx hb (hr.trans hret) (Or.inl ⟨n, rfl⟩) (Or.inr ⟨_, rfl⟩) (fun t ht hW => ⟨some (.ref x), μ, rfl, h, ht ▸ hH⟩) hF.2.2 hd hlk
theorem st_return_ {d : Nat} {M : mmMi} {P : Option Value → mmMem → Prop} {k : List Value → List Value → mmMem → Prop} {L st : List Value} {μ : mmMem} {pc len w a b : Nat} {v : Value} {Mc : mmMi} (hok : mmOkI M (pc, .return_, len, w, a, b, v, Mc) = true) (hk : ∀ L st μ, k L st μ → mmEnds d M (pc + len) L st μ P) (h : wpI d M P (pc, .return_, len, w, a, b, v, Mc) k L st μ) : mmEnds d M pc L st μ P := by
  obtain ⟨hd, hX⟩ := mmOkI_ok hok
  dsimp only at hd
  obtain ⟨rfl, hret⟩ : len = 1 ∧ M.2.2.2 = none := by simpa [mmOkX] using hX
  match st, h with
  | [], h =>
    intro p l e s m args below meth c H locs B H0 sk sv D cA ls hx hb hr hml hown hts hlk hS hls hH hF hB
    exact W.vret hx hb (hr.trans hret) (fun t ht hW => ⟨none, μ, rfl, h, ht ▸ hH⟩) hF.2.2 hd hlk
end
section
/-! ===== calls ===== -/
theorem mm_use {p : Program} {l : Launch} {e : Env} {R : Room} {s : State} {m : MethodId} {args : Array Value} {below : List Frame} {meth : Method} {c : Code} {H : Heap} {locs : List Loc} {pc : Nat} {ls : Array Slot} {st0 rest : List Value} {Q : State → Prop} {B : Nat} {H0 : Heap} {sk : Nat → Nat} {D : va_G} {cA : Nat → ClassId} {P : Option Value → mmMem → Prop} {a : Array Value} {μ : mmMem}
    (hr : va_Run p l e R s m args below meth c H locs 0 0 0 0 (F0 m pc ls st0) rest (mmQc B H0 sk D cA P a) (fun q => B ≤ q)) (hH : mmH B H0 D cA μ H) (hF : va_S (fun q => B ≤ q) s.heap H locs) (hB : s.heap.size = B + 173)
    (kk : ∀ (v : Option Value) (ν : mmMem) (H1 : Heap) (locs1 : List Loc), P v ν → mmH B H0 D cA ν H1 → va_S (fun q => B ≤ q) s.heap H1 locs1 → W p l e R s m args below meth c H1 locs1 0 0 Q (F0 m (pc + 3) ls ((v.map (mmV B sk)).toList ++ rest))) :
    W p l e R s m args below meth c H locs 0 0 Q (F0 m pc ls st0) := by
  intro T hT X
  obtain ⟨v, st₀, t, T', L, h0, X', hL, e1, e2, ⟨v', ν, hv, hp, hh⟩, st⟩ := hr T hT X
  cases hv
  have hh1 : mmH B H0 D cA ν T'.heap := by rw [e1]; exact hh
  have hv1 : va_S (fun q => B ≤ q) s.heap T'.heap (locs ++ L) := by
    refine ⟨by rw [hh1.1, hB]; exact Nat.le_refl _, fun q h1 h2 => ?_, fun q hq => ?_⟩
    · have hq : q < B := Nat.not_le.mp h2
      rw [hh1.2.1 q hq, ← hH.2.1 q hq]
      exact hF.2.1 q h1 h2
    · rcases List.mem_append.mp hq with h | h
      · exact hF.2.2 q h
      · exact hL q h
  obtain ⟨t2, a1, b1⟩ := kk v' ν T'.heap (locs ++ L) hp hh1 hv1 T' rfl X'
  exact ⟨t2, st t2 a1, b1⟩
theorem mm_goodWs {M : mmMi} (h : Cond.code M.1 M.2.1 M.2.2.1 M.2.2.2 ∈ mmT) : GoodIn mmT (mmWs M) := fun w hw => by
  rcases List.mem_cons.mp hw with rfl | hw
  · exact mm_goodT _ h
  · exact mm_goodT _ hw
theorem mm_blind {B : Nat} {H0 : Heap} {sk sv : Nat → Nat} {D : va_G} {cA : Nat → ClassId} {as : List Value} {μ : mmMem} : FrameBlind (mmPc B H0 sk sv D cA as μ) := fun a U g mk h => ⟨h.1, h.2.1, mmS.same rfl h.2.2⟩
theorem mm_pre {B : Nat} {H0 : Heap} {sk sv : Nat → Nat} {D : va_G} {cA : Nat → ClassId} {as : List Value} {μ : mmMem} {s U : State} {H : Heap} (hH : mmH B H0 D cA μ H) (hS : mmS B H0 sk sv D cA s) (hU : U.heap = H) (hW : s.WarmedH U.vm) : mmPc B H0 sk sv D cA as μ (as.map (mmV B sk)).toArray U := ⟨rfl, by rw [hU]; exact hH, mmS.warm hW hS⟩
theorem mm_rest {B : Nat} {sk : Nat → Nat} {m : MethodId} {pc : Nat} {ls : Array Slot} {st r : List Value} (h : Nat.ble (mcat r) 8 = true) : 2 * (F0 m pc ls st).monitorRoom + ((r.map (mmV B sk)).map fun v => v.category).sum ≤ 8 := by
  refine lv_room ?_
  rw [mcat_ok]
  exact Nat.le_of_ble_eq_true h
theorem mm_callB {d d' : Nat} {M Mc : mmMi} {st : Bool} {a n : Nat} {s : State} {args : Array Value} (hg : mmGd Mc st a) (hd' : d' < d) (hts : ∀ w ∈ mmT, w.before args s = true) (hl : (Cond.methodLink M.1.cls n Mc.1).before args s = true) : CallB (mmRm d) s args M.1.cls n Mc.1 Mc.2.1 Mc.2.2.1 Mc.2.2.2 (mmWs Mc) (mmRm d') 0 0 a :=
  callB_of a hts (mm_goodWs hg.1) rfl rfl rfl (hts _ hg.2.1) hl hg.2.2.1 ⟨hd', by have := hg.2.2.2.1; show 8 + (Mc.2.2.1 + 11) + 100 * d' ≤ 100 * d; omega⟩

theorem st_invokestatic0 {d : Nat} {M : mmMi} {P : Option Value → mmMem → Prop} {k : List Value → List Value → mmMem → Prop} {L st : List Value} {μ : mmMem} {pc len w a n : Nat} {v : Value} {Mc : mmMi} (hok : mmOkI M (pc, .invokestatic n, len, w, a, 0, v, Mc) = true) (hk : ∀ L st μ, k L st μ → mmEnds d M (pc + len) L st μ P) (h : wpI d M P (pc, .invokestatic n, len, w, a, 0, v, Mc) k L st μ) : mmEnds d M pc L st μ P := by
  obtain ⟨hd, hX⟩ := mmOkI_ok hok
  dsimp only at hd
  obtain ⟨rfl, hw⟩ : len = 3 ∧ lw_tbl[w]? = some (.methodLink M.1.cls n Mc.1) := by simpa [mmOkX] using hX
  cases hp : mpop a [] st with
  | mk as r =>
    have h : mif (Nat.ble (mcat r) 8) (mmCl d Mc true a as μ r fun st ν => k L st ν) := by
      simp only [wpI, hp] at h
      exact h
    obtain ⟨hc8, h⟩ := mif_ok h
    obtain ⟨hg, hlen, d', hd', P', hmo, hcall⟩ := mmCl_ok h
    obtain ⟨bs, e1, rfl, -⟩ := mpop_ok a [] st as r hp
    rw [List.append_nil] at e1
    subst e1
    intro p l e s m args below meth c H locs B H0 sk sv D cA ls hx hb hr hml hown hts hlk hS hls hH hF hB
    have hls1 : ls.size = M.2.2.1 := hls.choose_spec.1.1
    refine mm_use (rest := r.map (mmV B sk)) (va_runS (As := bs.reverse.map (mmV B sk)) (own := M.1.cls) ⟨hx, hb, hml, hown, hts⟩ (hcall l B H0 sk sv D cA) ⟨mm_callB hg hd' hts (mm_word (M := M) hts hw rfl), hts _ (by simpa using hg.2.2.2.2)⟩ ⟨mm_blind, fun U hU hW => mm_pre hH hS hU hW⟩ rfl (by simpa using hlen) hls1 (by simp) (mm_rest hc8) hd ⟨Nat.le_refl _, Nat.le_refl _⟩) hH hF hB (fun v ν H1 locs1 hP hH1 hS1 => ?_)
    have h9 := hk _ _ _ (hmo _ _ hP) p l e s m args below meth c H1 locs1 B H0 sk sv D cA ls hx hb hr hml hown hts hlk hS hls hH1 hS1 hB
    cases v with
    | none => exact h9
    | some v => exact h9
theorem st_invokestatic1 {d : Nat} {M : mmMi} {P : Option Value → mmMem → Prop} {k : List Value → List Value → mmMem → Prop} {L st : List Value} {μ : mmMem} {pc len w a n : Nat} {v : Value} {Mc : mmMi} (hok : mmOkI M (pc, .invokestatic n, len, w, a, 1, v, Mc) = true) (hk : ∀ L st μ, k L st μ → mmEnds d M (pc + len) L st μ P) (h : wpI d M P (pc, .invokestatic n, len, w, a, 1, v, Mc) k L st μ) : mmEnds d M pc L st μ P := by
  obtain ⟨hd, hX⟩ := mmOkI_ok hok
  dsimp only at hd
  obtain ⟨rfl, hw⟩ : len = 3 ∧ (M.1.cls, n, Mc.1) ∈ mmNest := by simpa [mmOkX] using hX
  cases hp : mpop a [] st with
  | mk as r =>
    have h : mif (Nat.ble (mcat r) 8) (mmCl d Mc true a as μ r fun st ν => k L st ν) := by
      simp only [wpI, hp] at h
      exact h
    obtain ⟨hc8, h⟩ := mif_ok h
    obtain ⟨hg, hlen, d', hd', P', hmo, hcall⟩ := mmCl_ok h
    obtain ⟨bs, e1, rfl, -⟩ := mpop_ok a [] st as r hp
    rw [List.append_nil] at e1
    subst e1
    intro p l e s m args below meth c H locs B H0 sk sv D cA ls hx hb hr hml hown hts hlk hS hls hH hF hB
    have hls1 : ls.size = M.2.2.1 := hls.choose_spec.1.1
    have hnest := hS.2.2.2.2.2.2.2.2 _ hw
    refine mm_use (rest := r.map (mmV B sk)) (va_runSN (As := bs.reverse.map (mmV B sk)) (own := M.1.cls) (host := "ColumnCasts") ⟨hx, hb, hml, hown, hts⟩ (hcall l B H0 sk sv D cA) ⟨va_cnB a hts (mm_goodWs hg.1) rfl rfl rfl hnest (hts _ hg.2.1) hg.2.2.1 ⟨hd', by have := hg.2.2.2.1; show 8 + (Mc.2.2.1 + 11) + 100 * d' ≤ 100 * d; omega⟩, hts _ (by simpa using hg.2.2.2.2), trivial⟩ ⟨mm_blind, fun U hU hW => mm_pre hH hS hU hW⟩ rfl (by simpa using hlen) hls1 (by simp) (mm_rest hc8) hd ⟨Nat.le_refl _, Nat.le_refl _⟩) hH hF hB (fun v ν H1 locs1 hP hH1 hS1 => ?_)
    have h9 := hk _ _ _ (hmo _ _ hP) p l e s m args below meth c H1 locs1 B H0 sk sv D cA ls hx hb hr hml hown hts hlk hS hls hH1 hS1 hB
    cases v with
    | none => exact h9
    | some v => exact h9
theorem st_invokevirtual {d : Nat} {M : mmMi} {P : Option Value → mmMem → Prop} {k : List Value → List Value → mmMem → Prop} {L st : List Value} {μ : mmMem} {pc len w a b n : Nat} {v : Value} {Mc : mmMi} (hok : mmOkI M (pc, .invokevirtual n, len, w, a, b, v, Mc) = true) (hk : ∀ L st μ, k L st μ → mmEnds d M (pc + len) L st μ P) (h : wpI d M P (pc, .invokevirtual n, len, w, a, b, v, Mc) k L st μ) : mmEnds d M pc L st μ P := by
  obtain ⟨hd, hX⟩ := mmOkI_ok hok
  dsimp only at hd
  simp only [mmOkX, Bool.and_eq_true, beq_iff_eq, decide_eq_true_eq] at hX
  obtain ⟨⟨rfl, hw⟩, hX⟩ := hX
  cases hp : mpop a [] st with
  | mk as r0 =>
    obtain ⟨bs, e1, rfl, -⟩ := mpop_ok a [] st as r0 hp
    rw [List.append_nil] at e1
    subst e1
    match r0, hp, h with
    | .ref o :: r, hp, h =>
      have h : mmKD o = b ∧ mif (Nat.ble (mcat r) 8) (mmCl d Mc false a (.ref o :: bs.reverse) μ r fun st ν => k L st ν) := by
        simp only [wpI, hp] at h
        exact h
      obtain ⟨hKD, h⟩ := h
      obtain ⟨hc8, h⟩ := mif_ok h
      obtain ⟨hg, hlen, d', hd', P', hmo, hcall⟩ := mmCl_ok h
      by_cases hb99 : b = 98
      · exfalso
        have h1 : mmKD o = 98 := hKD.trans hb99
        have h2 : ∀ a, a < 173 → mmKD a ≠ 98 := by decide +kernel
        exact h2 o (mmKD_lt (by omega)) h1
      have hX : (vwCl[b]?).map (fun q => q.1) = some Mc.1.cls := by
        split at hX
        · exact absurd rfl hb99
        · simpa using hX
      intro p l e s m args below meth c H locs B H0 sk sv D cA ls hx hb hr hml hown hts hlk hS hls hH hF hB
      have hls1 : ls.size = M.2.2.1 := hls.choose_spec.1.1
      obtain ⟨⟨C, T, N⟩, hc, hC⟩ := Option.map_eq_some_iff.mp hX
      dsimp only at hC
      subst hC
      obtain ⟨hci, -⟩ := mm_cls hc
      have hgv : Cond.instanceMethod Mc.1 ∈ mmT ∧ Cond.selects Mc.1.cls Mc.1 Mc.1 ∈ mmT := by simpa using hg.2.2.2.2
      refine mm_use (rest := r.map (mmV B sk)) (va_runV (As := bs.reverse.map (mmV B sk)) (b := B + o) (C := Mc.1.cls) (own := M.1.cls) ⟨hx, hb, hml, hown, hts⟩ (hcall l B H0 sk sv D cA) ⟨mm_callB hg hd' hts (mm_word (M := M) hts hw rfl), hts _ hgv.1, hts _ hgv.2⟩ ⟨mm_blind, va_recv hS.2.1 hH.2.2 hc (mmE_o hKD hci), fun U hU hW => mm_pre (as := .ref o :: bs.reverse) hH hS hU hW⟩ rfl (by simpa using hlen) hls1 (by simp [mmV]) (mm_rest hc8) hd ⟨Nat.le_refl _, Nat.le_refl _⟩) hH hF hB (fun v ν H1 locs1 hP hH1 hS1 => ?_)
      have h9 := hk _ _ _ (hmo _ _ hP) p l e s m args below meth c H1 locs1 B H0 sk sv D cA ls hx hb hr hml hown hts hlk hS hls hH1 hS1 hB
      cases v with
      | none => exact h9
      | some v => exact h9
    | .retAddr x :: r, hp, h =>
      have h : mif (Nat.beq b 98) (mif (Nat.ble (mcat r) 8) (mmCl d Mc false a (.retAddr x :: bs.reverse) μ r fun st ν => k L st ν)) := by
        simp only [wpI, hp] at h
        exact h
      obtain ⟨hb9, h⟩ := mif_ok h
      obtain ⟨hc8, h⟩ := mif_ok h
      obtain ⟨hg, hlen, d', hd', P', hmo, hcall⟩ := mmCl_ok h
      have hb99 : b = 98 := Nat.eq_of_beq_eq_true hb9
      subst hb99
      have hC : Mc.1.cls = "java/lang/String" := by simpa using hX
      intro p l e s m args below meth c H locs B H0 sk sv D cA ls hx hb hr hml hown hts hlk hS hls hH hF hB
      have hls1 : ls.size = M.2.2.1 := hls.choose_spec.1.1
      have hgv : Cond.instanceMethod Mc.1 ∈ mmT ∧ Cond.selects Mc.1.cls Mc.1 Mc.1 ∈ mmT := by simpa using hg.2.2.2.2
      obtain ⟨cellS, g1, g2, g3, g4⟩ := (hS.2.2.2.2.2.1.1 0 (by omega)).1
      have hq : sk 0 < B := Nat.not_le.mp g4
      refine mm_use (rest := r.map (mmV B sk)) (va_runV (As := bs.reverse.map (mmV B sk)) (b := sk 0) (C := Mc.1.cls) (own := M.1.cls) ⟨hx, hb, hml, hown, hts⟩ (hcall l B H0 sk sv D cA) ⟨mm_callB hg hd' hts (mm_word (M := M) hts hw rfl), hts _ hgv.1, hts _ hgv.2⟩ ⟨mm_blind, ⟨cellS, by rw [hH.2.1 _ hq]; exact g1, g2, by rw [hC]; exact g3⟩, fun U hU hW => mm_pre (as := .retAddr x :: bs.reverse) hH hS hU hW⟩ rfl (by simpa using hlen) hls1 (by simp [mmV]) (mm_rest hc8) hd ⟨Nat.le_refl _, Nat.le_refl _⟩) hH hF hB (fun v ν H1 locs1 hP hH1 hS1 => ?_)
      have h9 := hk _ _ _ (hmo _ _ hP) p l e s m args below meth c H1 locs1 B H0 sk sv D cA ls hx hb hr hml hown hts hlk hS hls hH1 hS1 hB
      cases v with
      | none => exact h9
      | some v => exact h9
    | [], hp, h => simp only [wpI, hp] at h
    | .int _ :: _, hp, h => simp [wpI, hp] at h
    | .long _ :: _, hp, h => simp [wpI, hp] at h
    | .float _ :: _, hp, h => simp [wpI, hp] at h
    | .double _ :: _, hp, h => simp [wpI, hp] at h
    | .null :: _, hp, h => simp [wpI, hp] at h
theorem mm_acNat : Cond.native arraycopyName ∈ mmT := mm_in 491 (by decide +kernel) rfl
theorem mm_acSt : Cond.static arraycopyName ∈ mmT := mm_in 490 (by decide +kernel) rfl
theorem mm_acIni : Cond.initialized "java/lang/System" ∈ mmT := mm_in 73 (by decide +kernel) rfl
theorem st_arraycopy {d : Nat} {M : mmMi} {P : Option Value → mmMem → Prop} {k : List Value → List Value → mmMem → Prop} {L st : List Value} {μ : mmMem} {pc len w a b n : Nat} {v : Value} {Mc : mmMi} (hbb : b = 10 ∨ b = 11 ∨ b = 12) (hok : mmOkI M (pc, .invokestatic n, len, w, a, b, v, Mc) = true) (hk : ∀ L st μ, k L st μ → mmEnds d M (pc + len) L st μ P) (h : wpI d M P (pc, .invokestatic n, len, w, a, b, v, Mc) k L st μ) : mmEnds d M pc L st μ P := by
  obtain ⟨hd, hX⟩ := mmOkI_ok hok
  dsimp only at hd
  obtain ⟨rfl, hw⟩ : len = 3 ∧ lw_tbl[w]? = some (.methodLink M.1.cls n arraycopyName) := by
    rcases hbb with rfl | rfl | rfl <;> simpa [mmOkX] using hX
  rcases hbb with rfl | rfl | rfl
  · obtain ⟨n1, r, rfl, h⟩ := pI_ok h
    obtain ⟨dp, r, rfl, h⟩ := pI_ok h
    obtain ⟨y, r, rfl, h⟩ := pA_ok h
    obtain ⟨sp, r, rfl, h⟩ := pI_ok h
    obtain ⟨x, r, rfl, h1d, hKx, hKy, hsp, hdp, hn, hl1, hl2, h⟩ := pA_ok h
    obtain ⟨hc8, h⟩ := mif_ok h
    intro p l e s m args below meth c H locs B H0 sk sv D cA ls hx hb hr hml hown hts hlk hS hls hH hF hB
    have hls1 : ls.size = M.2.2.1 := hls.choose_spec.1.1
    have h7 : y < 173 := mmKD_lt (by rw [hKy]; decide)
    have h8 := mmE_10 (B := B) (cA := cA) (μ := cI μ x y sp.toNatClampNeg dp.toNatClampNeg n1.toNatClampNeg) hKy
    rw [mmW_get h7] at h8
    have h6 := congrArg Prod.snd (Option.some.inj h8)
    dsimp only at h6
    have e9 := mmW_set (B := B) (cA := cA) (μ := μ) (ν := cI μ x y sp.toNatClampNeg dp.toNatClampNeg n1.toNatClampNeg) h7 (fun q hq => by simp [cI, hq]) (fun q hq => by simp [cI, hq]) (fun q hq => by simp [cI, hq]) h6.symm
    refine va_copyi (own := M.1.cls) (t0 := 0) (t1 := 0) hx hb (hml.trans hls1.symm) hown (mm_word (M := M) hts hw rfl) (hts _ mm_acNat) (hts _ mm_acSt) (hts _ mm_acIni) hS.2.1 hH.2.2 mmW_D hF x y (mmE_10 hKx) (mmE_10 hKy) rfl rfl rfl hsp hdp hn hl1 hl2 (fun i hi => rfl) h1d (by rw [mcat_ok]; have := Nat.le_of_ble_eq_true hc8; show mcat r + (7 + 11) ≤ 100 * d; omega) hd (fun H1 locs1 hP1 hD1 hS1 => mm_sz fun hsz => ?_)
    have hP9 : va_P D vwCl (mmW B cA (cI μ x y sp.toNatClampNeg dp.toNatClampNeg n1.toNatClampNeg)) H1 := by
      rw [← e9]
      simpa [cI] using hP1
    exact hk _ _ _ h p l e s m args below meth c H1 locs1 B H0 sk sv D cA ls hx hb hr hml hown hts hlk hS hls (mm_next hH hF hB hP9 hS1 hsz) hS1 hB
  · obtain ⟨n1, r, rfl, h⟩ := pI_ok h
    obtain ⟨dp, r, rfl, h⟩ := pI_ok h
    obtain ⟨y, r, rfl, h⟩ := pA_ok h
    obtain ⟨sp, r, rfl, h⟩ := pI_ok h
    obtain ⟨x, r, rfl, h1d, hKx, hKy, hsp, hdp, hn, hl1, hl2, h⟩ := pA_ok h
    obtain ⟨hc8, h⟩ := mif_ok h
    intro p l e s m args below meth c H locs B H0 sk sv D cA ls hx hb hr hml hown hts hlk hS hls hH hF hB
    have hls1 : ls.size = M.2.2.1 := hls.choose_spec.1.1
    have h7 : y < 173 := mmKD_lt (by rw [hKy]; decide)
    have h8 := mmE_11 (B := B) (cA := cA) (μ := cJ μ x y sp.toNatClampNeg dp.toNatClampNeg n1.toNatClampNeg) hKy
    rw [mmW_get h7] at h8
    have h6 := congrArg Prod.snd (Option.some.inj h8)
    dsimp only at h6
    have e9 := mmW_set (B := B) (cA := cA) (μ := μ) (ν := cJ μ x y sp.toNatClampNeg dp.toNatClampNeg n1.toNatClampNeg) h7 (fun q hq => by simp [cJ, hq]) (fun q hq => by simp [cJ, hq]) (fun q hq => by simp [cJ, hq]) h6.symm
    refine va_copyl (own := M.1.cls) (t0 := 1) (t1 := 1) hx hb (hml.trans hls1.symm) hown (mm_word (M := M) hts hw rfl) (hts _ mm_acNat) (hts _ mm_acSt) (hts _ mm_acIni) hS.2.1 hH.2.2 mmW_D hF x y (mmE_11 hKx) (mmE_11 hKy) rfl rfl rfl hsp hdp hn hl1 hl2 (fun i hi => rfl) h1d (by rw [mcat_ok]; have := Nat.le_of_ble_eq_true hc8; show mcat r + (7 + 11) ≤ 100 * d; omega) hd (fun H1 locs1 hP1 hD1 hS1 => mm_sz fun hsz => ?_)
    have hP9 : va_P D vwCl (mmW B cA (cJ μ x y sp.toNatClampNeg dp.toNatClampNeg n1.toNatClampNeg)) H1 := by
      rw [← e9]
      simpa [cJ] using hP1
    exact hk _ _ _ h p l e s m args below meth c H1 locs1 B H0 sk sv D cA ls hx hb hr hml hown hts hlk hS hls (mm_next hH hF hB hP9 hS1 hsz) hS1 hB
  · obtain ⟨n1, r, rfl, h⟩ := pI_ok h
    obtain ⟨dp, r, rfl, h⟩ := pI_ok h
    obtain ⟨y, r, rfl, h⟩ := pA_ok h
    obtain ⟨sp, r, rfl, h⟩ := pI_ok h
    obtain ⟨x, r, rfl, h1d, hKx, hKy, hsp, hdp, hn, hl1, hl2, h⟩ := pA_ok h
    obtain ⟨hc8, h⟩ := mif_ok h
    intro p l e s m args below meth c H locs B H0 sk sv D cA ls hx hb hr hml hown hts hlk hS hls hH hF hB
    have hls1 : ls.size = M.2.2.1 := hls.choose_spec.1.1
    have h7 : y < 173 := mmKD_lt (by rw [hKy]; decide)
    have h8 := mmE_12 (B := B) (cA := cA) (μ := cD μ x y sp.toNatClampNeg dp.toNatClampNeg n1.toNatClampNeg) hKy
    rw [mmW_get h7] at h8
    have h6 := congrArg Prod.snd (Option.some.inj h8)
    dsimp only at h6
    have e9 := mmW_set (B := B) (cA := cA) (μ := μ) (ν := cD μ x y sp.toNatClampNeg dp.toNatClampNeg n1.toNatClampNeg) h7 (fun q hq => by simp [cD, hq]) (fun q hq => by simp [cD, hq]) (fun q hq => by simp [cD, hq]) h6.symm
    refine va_copyd (own := M.1.cls) (t0 := 2) (t1 := 2) hx hb (hml.trans hls1.symm) hown (mm_word (M := M) hts hw rfl) (hts _ mm_acNat) (hts _ mm_acSt) (hts _ mm_acIni) hS.2.1 hH.2.2 mmW_D hF x y (mmE_12 hKx) (mmE_12 hKy) rfl rfl rfl hsp hdp hn hl1 hl2 (fun i hi => rfl) h1d (by rw [mcat_ok]; have := Nat.le_of_ble_eq_true hc8; show mcat r + (7 + 11) ≤ 100 * d; omega) hd (fun H1 locs1 hP1 hD1 hS1 => mm_sz fun hsz => ?_)
    have hP9 : va_P D vwCl (mmW B cA (cD μ x y sp.toNatClampNeg dp.toNatClampNeg n1.toNatClampNeg)) H1 := by
      rw [← e9]
      simpa [cD] using hP1
    exact hk _ _ _ h p l e s m args below meth c H1 locs1 B H0 sk sv D cA ls hx hb hr hml hown hts hlk hS hls (mm_next hH hF hB hP9 hS1 hsz) hS1 hB
end
section
/-! ===== an instruction, a stretch, a whole method ===== -/
theorem mm_step {d : Nat} {M : mmMi} {P : Option Value → mmMem → Prop} {k : List Value → List Value → mmMem → Prop} {L st : List Value} {μ : mmMem} (q : mmMI) (hok : mmOkI M q = true) (hk : ∀ L st μ, k L st μ → mmEnds d M (q.1 + q.2.2.1) L st μ P) (h : wpI d M P q k L st μ) : mmEnds d M q.1 L st μ P := by
  obtain ⟨pc, i, len, w, a, b, v, Mc⟩ := q
  dsimp only at hk ⊢
  cases i with
  | iconst x0 => exact st_iconst hok hk h
  | bipush x0 => exact st_bipush hok hk h
  | sipush x0 => exact st_sipush hok hk h
  | lconst x0 => exact st_lconst hok hk h
  | dconst x0 => exact st_dconst hok hk h
  | ldc x0 => exact st_ldc hok hk h
  | ldc_w x0 => exact st_ldc_w hok hk h
  | ldc2_w x0 => exact st_ldc2_w hok hk h
  | aload x0 => exact st_aload hok hk h
  | aload_n x0 => exact st_aload_n hok hk h
  | iload x0 => exact st_iload hok hk h
  | iload_n x0 => exact st_iload_n hok hk h
  | lload x0 => exact st_lload hok hk h
  | lload_n x0 => exact st_lload_n hok hk h
  | fload x0 => exact st_fload hok hk h
  | fload_n x0 => exact st_fload_n hok hk h
  | dload x0 => exact st_dload hok hk h
  | dload_n x0 => exact st_dload_n hok hk h
  | istore x0 => exact st_istore hok hk h
  | istore_n x0 => exact st_istore_n hok hk h
  | astore x0 => exact st_astore hok hk h
  | astore_n x0 => exact st_astore_n hok hk h
  | lstore x0 => exact st_lstore hok hk h
  | lstore_n x0 => exact st_lstore_n hok hk h
  | dstore x0 => exact st_dstore hok hk h
  | dstore_n x0 => exact st_dstore_n hok hk h
  | iinc x0 x1 => exact st_iinc hok hk h
  | iadd => exact st_iadd hok hk h
  | isub => exact st_isub hok hk h
  | imul => exact st_imul hok hk h
  | iand => exact st_iand hok hk h
  | ior => exact st_ior hok hk h
  | idiv => exact st_idiv hok hk h
  | irem => exact st_irem hok hk h
  | ishl => exact st_ishl hok hk h
  | ishr => exact st_ishr hok hk h
  | ineg => exact st_ineg hok hk h
  | ladd => exact st_ladd hok hk h
  | lsub => exact st_lsub hok hk h
  | lmul => exact st_lmul hok hk h
  | land => exact st_land hok hk h
  | lor => exact st_lor hok hk h
  | lxor => exact st_lxor hok hk h
  | ldiv => exact st_ldiv hok hk h
  | lrem => exact st_lrem hok hk h
  | lneg => exact st_lneg hok hk h
  | lshl => exact st_lshl hok hk h
  | lcmp => exact st_lcmp hok hk h
  | i2l => exact st_i2l hok hk h
  | l2i => exact st_l2i hok hk h
  | i2b => exact st_i2b hok hk h
  | i2s => exact st_i2s hok hk h
  | i2c => exact st_i2c hok hk h
  | l2d => exact st_l2d hok hk h
  | l2f => exact st_l2f hok hk h
  | f2d => exact st_f2d hok hk h
  | d2f => exact st_d2f hok hk h
  | d2l => exact st_d2l hok hk h
  | d2i => exact st_d2i hok hk h
  | f2l => exact st_f2l hok hk h
  | dneg => exact st_dneg hok hk h
  | dadd => exact st_dadd hok hk h
  | dsub => exact st_dsub hok hk h
  | dmul => exact st_dmul hok hk h
  | ddiv => exact st_ddiv hok hk h
  | fmul => exact st_fmul hok hk h
  | fdiv => exact st_fdiv hok hk h
  | dcmp x0 => exact st_dcmp hok hk h
  | dup => exact st_dup hok hk h
  | dup2 => exact st_dup2 hok hk h
  | ifCond x0 x1 => exact st_ifCond hok hk h
  | if_icmp x0 x1 => exact st_if_icmp hok hk h
  | goto x0 => exact st_goto hok hk h
  | tableswitch x0 x1 x2 x3 => exact st_tableswitch hok hk h
  | lookupswitch x0 x1 => exact st_lookupswitch hok hk h
  | getfield x0 => exact st_getfield hok hk h
  | putfield x0 => exact st_putfield hok hk h
  | iaload => exact st_iaload hok hk h
  | laload => exact st_laload hok hk h
  | daload => exact st_daload hok hk h
  | baload => exact st_baload hok hk h
  | aaload => exact st_aaload hok hk h
  | iastore => exact st_iastore hok hk h
  | lastore => exact st_lastore hok hk h
  | dastore => exact st_dastore hok hk h
  | bastore => exact st_bastore hok hk h
  | arraylength => exact st_arraylength hok hk h
  | invokevirtual x0 => exact st_invokevirtual hok hk h
  | invokestatic n =>
    by_cases hb0 : b = 0
    · subst hb0
      exact st_invokestatic0 hok hk h
    · by_cases hb1 : b = 1
      · subst hb1
        exact st_invokestatic1 hok hk h
      · by_cases hbb : b = 10 ∨ b = 11 ∨ b = 12
        · exact st_arraycopy hbb hok hk h
        · exfalso
          unfold wpI at h
          dsimp only at h
          split at h
          · exact hb0 rfl
          · exact hb1 rfl
          · obtain ⟨n1, r1, q1, h1⟩ := pI_ok h
            obtain ⟨dp, r2, q2, h2⟩ := pI_ok h1
            obtain ⟨y, r3, q3, h3⟩ := pA_ok h2
            obtain ⟨sp, r4, q4, h4⟩ := pI_ok h3
            obtain ⟨x, r5, q5, h1d, hKx, hKy, hsp, hdp, hn, hl1, hl2, h5⟩ := pA_ok h4
            obtain ⟨hc8, h6⟩ := mif_ok h5
            split at h6
            · exact hbb (Or.inl rfl)
            · exact hbb (Or.inr (Or.inl rfl))
            · exact hbb (Or.inr (Or.inr rfl))
            · exact h6
  | ireturn => exact st_ireturn hok hk h
  | lreturn => exact st_lreturn hok hk h
  | dreturn => exact st_dreturn hok hk h
  | freturn => exact st_freturn hok hk h
  | areturn => exact st_areturn hok hk h
  | return_ => exact st_return_ hok hk h
  | _ => exact False.elim h
theorem mm_segE {d : Nat} {M : mmMi} {P : Option Value → mmMem → Prop} {e : Nat} : ∀ (seg : List mmMI) {L st : List Value} {μ : mmMem}, mmOk M e seg = true → wpS d M P e seg L st μ → mmEnds d M (mmHead seg e) L st μ P
  | [], _, _, _, _, h => h
  | q :: t, L, st, μ, ho, h => by
    simp only [mmOk, Bool.and_eq_true, beq_iff_eq] at ho
    obtain ⟨⟨h1, h2⟩, h3⟩ := ho
    refine mm_step q h1 (fun L st μ hh => ?_) h
    rw [h2]
    exact mm_segE t h3 hh
theorem mm_seg {d : Nat} {M : mmMi} {P : Option Value → mmMem → Prop} {e : Nat} {q : mmMI} {t : List mmMI} {L st : List Value} {μ : mmMem} (ho : mmOk M e (q :: t) = true) (h : wpS d M P e (q :: t) L st μ) : mmEnds d M q.1 L st μ P := mm_segE (q :: t) ho h
theorem mmEnds.mono {d : Nat} {M : mmMi} {pc : Nat} {L st : List Value} {μ : mmMem} {P Q : Option Value → mmMem → Prop} (h : mmEnds d M pc L st μ P) (hq : ∀ v ν, P v ν → Q v ν) : mmEnds d M pc L st μ Q := by
  intro p l e s m args below meth c H locs B H0 sk sv D cA ls hx hb hr hml hown hts hlk hS hls hH hF hB T hT X
  obtain ⟨t, a1, o, b1, b2, ⟨v, ν, e1, e2, e3⟩, b4⟩ := h p l e s m args below meth c H locs B H0 sk sv D cA ls hx hb hr hml hown hts hlk hS hls hH hF hB T hT X
  exact ⟨t, a1, o, b1, b2, ⟨v, ν, e1, hq v ν e2, e3⟩, b4⟩
/-! ===== trees of stretches: J says what a jump comes to ===== -/
def wpJ (J : Nat → List Value → List Value → mmMem → Prop) (d : Nat) (M : mmMi) (P : Option Value → mmMem → Prop) (q : mmMI) (k : List Value → List Value → mmMem → Prop) (L st : List Value) (μ : mmMem) : Prop :=
  match q with
  | (pc, i, len, w, a, b, v, Mc) => match i with
    | .ifCond c _ => pI st fun x r => (mmCt c x 0 → J a L r μ) ∧ (mmCf c x 0 → k L r μ)
    | .if_icmp c _ => pI st fun y r => pI r fun x r => (mmCt c x y → J a L r μ) ∧ (mmCf c x y → k L r μ)
    | .goto _ => J a L st μ
    | .tableswitch dflt lo hi offs => pI st fun x r => (x.toInt < lo ∨ hi < x.toInt → J ((pc : Int) + dflt).toNat L r μ) ∧ mmTs pc x (fun t => J t L r μ) lo offs.toList
    | .lookupswitch dflt ps => pI st fun x r => mmLk pc x (fun t => J t L r μ) dflt ps.toList
    | i => wpI d M P (pc, i, len, w, a, b, v, Mc) k L st μ
theorem mmTs_mono {pc : Nat} {x : Int32} {E F : Nat → Prop} (h : ∀ t, E t → F t) : ∀ (l : List Int) (lo : Int), mmTs pc x E lo l → mmTs pc x F lo l
  | [], _, _ => trivial
  | _ :: l, lo, q => ⟨fun e => h _ (q.1 e), mmTs_mono h l (lo + 1) q.2⟩
theorem mmLk_mono {pc : Nat} {x : Int32} {E F : Nat → Prop} {d : Int} (h : ∀ t, E t → F t) : ∀ (l : List (Int × Int)), mmLk pc x E d l → mmLk pc x F d l
  | [], q => h _ q
  | _ :: l, q => ⟨fun e => h _ (q.1 e), fun e => mmLk_mono h l (q.2 e)⟩
theorem wpJ_ok {J : Nat → List Value → List Value → mmMem → Prop} {d : Nat} {M : mmMi} {P : Option Value → mmMem → Prop} {q : mmMI} {k : List Value → List Value → mmMem → Prop} {L st : List Value} {μ : mmMem} (hJ : ∀ a L st μ, J a L st μ → mmEnds d M a L st μ P) (h : wpJ J d M P q k L st μ) : wpI d M P q k L st μ := by
  obtain ⟨pc, i, len, w, a, b, v, Mc⟩ := q
  cases i with
  | ifCond c n =>
    obtain ⟨x, r, rfl, h⟩ := pI_ok h
    exact ⟨fun e => hJ _ _ _ _ (h.1 e), h.2⟩
  | if_icmp c n =>
    obtain ⟨y, r, rfl, h⟩ := pI_ok h
    obtain ⟨x, r, rfl, h⟩ := pI_ok h
    exact ⟨fun e => hJ _ _ _ _ (h.1 e), h.2⟩
  | goto n => exact hJ _ _ _ _ h
  | tableswitch f lo hi offs =>
    obtain ⟨x, r, rfl, h⟩ := pI_ok h
    exact ⟨fun e => hJ _ _ _ _ (h.1 e), mmTs_mono (fun t => hJ t L r μ) _ _ h.2⟩
  | lookupswitch f ps =>
    obtain ⟨x, r, rfl, h⟩ := pI_ok h
    exact mmLk_mono (fun t => hJ t L r μ) _ h
  | _ => exact h
def wpC (J : Nat → List Value → List Value → mmMem → Prop) (d : Nat) (M : mmMi) (P : Option Value → mmMem → Prop) (e : Nat) : List mmMI → List Value → List Value → mmMem → Prop
  | [], L, st, μ => J e L st μ
  | q :: t, L, st, μ => wpJ J d M P q (fun L st μ => wpC J d M P e t L st μ) L st μ
theorem wpC_ok {J : Nat → List Value → List Value → mmMem → Prop} {d : Nat} {M : mmMi} {P : Option Value → mmMem → Prop} {e : Nat} (hJ : ∀ a L st μ, J a L st μ → mmEnds d M a L st μ P) : ∀ (seg : List mmMI) {L st : List Value} {μ : mmMem}, mmOk M e seg = true → wpC J d M P e seg L st μ → mmEnds d M (mmHead seg e) L st μ P
  | [], _, _, _, _, h => hJ _ _ _ _ h
  | q :: t, L, st, μ, ho, h => by
    simp only [mmOk, Bool.and_eq_true, beq_iff_eq] at ho
    obtain ⟨⟨h1, h2⟩, h3⟩ := ho
    refine mm_step q h1 (fun L st μ hh => ?_) (wpJ_ok hJ h)
    rw [h2]
    exact wpC_ok hJ t h3 hh
/-- blocks: where each begins, its rows, where it goes on behind them -/
abbrev mmBl : Type := List (Nat × List mmMI × Nat)
def mmFind : mmBl → Nat → Option (List mmMI × Nat)
  | [], _ => none
  | q :: t, pc => match Nat.beq q.1 pc with
    | true => some q.2
    | false => mmFind t pc
def wpT (bl : mmBl) (d : Nat) (M : mmMi) (P : Option Value → mmMem → Prop) : Nat → Nat → List Value → List Value → mmMem → Prop
  | 0, pc, L, st, μ => mmEnds d M pc L st μ P
  | n + 1, pc, L, st, μ => match mmFind bl pc with
    | some (seg, e) => wpC (wpT bl d M P n) d M P e seg L st μ
    | none => mmEnds d M pc L st μ P
def mmOkB (M : mmMi) (bl : mmBl) : Bool := bl.all fun q => mmOk M q.2.2 q.2.1 && Nat.beq (mmHead q.2.1 q.2.2) q.1
theorem mmFind_ok {bl : mmBl} {pc : Nat} {q : List mmMI × Nat} (h : mmFind bl pc = some q) : (pc, q) ∈ bl := by
  induction bl with
  | nil => cases h
  | cons x t ih =>
    unfold mmFind at h
    split at h
    · rename_i hb
      have := Nat.eq_of_beq_eq_true hb
      cases h
      subst this
      exact List.mem_cons_self
    · exact List.mem_cons_of_mem _ (ih h)
theorem wpT_ok {bl : mmBl} {d : Nat} {M : mmMi} {P : Option Value → mmMem → Prop} (hb : mmOkB M bl = true) : ∀ (n pc : Nat) (L st : List Value) (μ : mmMem), wpT bl d M P n pc L st μ → mmEnds d M pc L st μ P
  | 0, _, _, _, _, h => h
  | n + 1, pc, L, st, μ, h => by
    unfold wpT at h
    split at h
    · rename_i seg e hf
      have h1 := List.all_eq_true.mp hb _ (mmFind_ok hf)
      simp only [Bool.and_eq_true] at h1
      have h2 := wpC_ok (wpT_ok hb n) seg h1.1 h
      rwa [Nat.eq_of_beq_eq_true h1.2] at h2
    · exact h
/-- from a block on, the blocks of bl opened as they come -/
theorem mm_tree {bl : mmBl} {d : Nat} {M : mmMi} {P : Option Value → mmMem → Prop} (n : Nat) {e : Nat} {seg : List mmMI} {pc : Nat} {L st : List Value} {μ : mmMem} (hb : mmOkB M bl = true) (ho : mmOkB M [(pc, seg, e)] = true) (h : wpC (wpT bl d M P n) d M P e seg L st μ) : mmEnds d M pc L st μ P := by
  simp only [mmOkB, List.all_cons, List.all_nil, Bool.and_true, Bool.and_eq_true] at ho
  have h2 := wpC_ok (wpT_ok hb n) seg ho.1 h
  rwa [Nat.eq_of_beq_eq_true ho.2] at h2
/-- locals where a method begins -/
def mmLo : Nat → List Value → List Value
  | n, [] => List.replicate n (.retAddr 7)
  | n, v :: l => match v with
    | .long _ => v :: .retAddr 7 :: mmLo (n - 2) l
    | .double _ => v :: .retAddr 7 :: mmLo (n - 2) l
    | _ => v :: mmLo (n - 1) l
theorem mmLo_mem (B : Nat) (sk : Nat → Nat) : ∀ (as : List Value) (n off i : Nat) (v : Value), (mmLo n as)[i]? = some v → v ≠ .retAddr 7 → (off + i, mmV B sk v) ∈ lv_args off (as.map (mmV B sk)) := by
  intro as
  induction as with
  | nil =>
    intro n off i v h hv
    simp only [mmLo, List.getElem?_replicate] at h
    split at h
    · cases h
      exact absurd rfl hv
    · cases h
  | cons a l ih =>
    intro n off i v h hv
    have one : ∀ (m : Nat), (a :: mmLo m l)[i]? = some v → (mmV B sk a).category = 1 → (off + i, mmV B sk v) ∈ lv_args off ((a :: l).map (mmV B sk)) := by
      intro m hh hc
      cases i with
      | zero =>
        cases hh
        simp [lv_args]
      | succ i =>
        have := ih m (off + 1) i v (by simpa using hh) hv
        simp only [List.map_cons, lv_args, hc, List.mem_cons]
        right
        have e1 : off + 1 + i = off + (i + 1) := by omega
        rwa [e1] at this
    have two : ∀ (m : Nat), (a :: Value.retAddr 7 :: mmLo m l)[i]? = some v → (mmV B sk a).category = 2 → (off + i, mmV B sk v) ∈ lv_args off ((a :: l).map (mmV B sk)) := by
      intro m hh hc
      match i, hh with
      | 0, hh =>
        cases hh
        simp [lv_args]
      | 1, hh =>
        cases hh
        exact absurd rfl hv
      | i + 2, hh =>
        have := ih m (off + 2) i v (by simpa using hh) hv
        simp only [List.map_cons, lv_args, hc, List.mem_cons]
        right
        have e1 : off + 2 + i = off + (i + 2) := by omega
        rwa [e1] at this
    cases a with
    | long x => exact two _ h rfl
    | double x => exact two _ h rfl
    | _ => exact one _ h rfl
theorem mm_sl (B : Nat) (sk : Nat → Nat) : ∀ as : List Value, (lg_sl (as.map (mmV B sk))).length = mcat as := by
  intro as
  induction as with
  | nil => rfl
  | cons a l ih =>
    have e : lg_sl ((a :: l).map (mmV B sk)) = (if (mmV B sk a).category = 2 then [Slot.val (mmV B sk a), .second] else [.val (mmV B sk a)]) ++ lg_sl (l.map (mmV B sk)) := by simp [lg_sl]
    rw [e, List.length_append, ih, mcat]
    cases a <;> rfl
theorem mmCall.of {d : Nat} {M : mmMi} {as : List Value} {μ : mmMem} {P : Option Value → mmMem → Prop} (hy : plainName M.1.cls = true) (hn : Nat.ble (mcat as) M.2.2.1 = true) (h : mmEnds d M 0 (mmLo M.2.2.1 as) [] μ P) : mmCall d M as μ P := by
  intro l B H0 sk sv D cA
  refine Met.ofW (cc := M.2.1) (maxL := M.2.2.1) (ret := M.2.2.2) hy rfl ?_
  intro p e s m args below meth c s₁ Bd hml hP
  obtain ⟨rfl, hH, hS⟩ := hP
  have hts := atoms_spec (ws := mmWs M) Bd.pre
  rw [lg_entry_eq]
  have hen := lv_entry (as.map (mmV B sk)) (n := M.2.2.1) (by rw [mm_sl]; exact Nat.le_of_ble_eq_true hn)
  exact h p l e s m _ below meth c s.heap [] B H0 sk sv D cA _ Bd.exec Bd.bytes Bd.returns hml (findClass_of_methodNamed Bd.named) (fun w hw => hts w (List.mem_cons_of_mem _ hw)) Bd.notSynchronized hS ⟨lv_args 0 _, hen, fun i v h1 h2 => by simpa using mmLo_mem B sk as _ 0 i v h1 h2⟩ hH ⟨Nat.le_refl _, fun q _ _ => rfl, fun q hq => by cases hq⟩ hH.1
theorem mmCU.of {d d' : Nat} {M : mmMi} {st : Bool} {n : Nat} {as : List Value} {μ : mmMem} {P : Option Value → mmMem → Prop} (hg : mmGd M st n) (hy : plainName M.1.cls = true) (hl : as.length = (match st with | true => n | false => n + 1)) (hn : Nat.ble (mcat as) M.2.2.1 = true) (hd : d' < d) (h : mmEnds d' M 0 (mmLo M.2.2.1 as) [] μ P) : mmCU d M st n as μ P :=
  by cases st <;> exact ⟨hg, hl, d', hd, P, fun _ _ h => h, mmCall.of hy hn h⟩
end
