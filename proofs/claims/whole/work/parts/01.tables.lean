-- ===== PART A: goes FIRST, ahead of the names: the tables' words, and 'selects' of the private methods out of them =====
/-- a private method of a class that the tables say can be made, by its rows of tables_1 -/
def lw_okq (q : MethodName × Nat) : Prop := (q.1.cls ≠ "java/lang/invoke/MethodHandle" ∧ q.1.cls ≠ "java/lang/invoke/VarHandle") ∧ Cond.instantiable q.1.cls q.2 ∈ tables_1 ∧ Cond.privateMethod q.1 ∈ tables_1 ∧ Cond.instanceMethod q.1 ∈ tables_1
theorem lw_p0 : lw_okq (⟨"BranchedSums$Nodes", "part", "(II)I"⟩, 2) := ⟨⟨by decide +kernel, by decide +kernel⟩, List.mem_of_getElem? (i := 58) (by decide +kernel), List.mem_of_getElem? (i := 195) (by decide +kernel), List.mem_of_getElem? (i := 196) (by decide +kernel)⟩
theorem lw_p1 : lw_okq (⟨"BranchedSums$Nodes", "goesBefore", "(III)Z"⟩, 2) := ⟨⟨by decide +kernel, by decide +kernel⟩, List.mem_of_getElem? (i := 58) (by decide +kernel), List.mem_of_getElem? (i := 199) (by decide +kernel), List.mem_of_getElem? (i := 200) (by decide +kernel)⟩
theorem lw_p2 : lw_okq (⟨"BranchedSums", "prepareForChange", "()V"⟩, 6) := ⟨⟨by decide +kernel, by decide +kernel⟩, List.mem_of_getElem? (i := 12) (by decide +kernel), List.mem_of_getElem? (i := 207) (by decide +kernel), List.mem_of_getElem? (i := 208) (by decide +kernel)⟩
theorem lw_p3 : lw_okq (⟨"BranchedSums$History", "stateAt", "(I)LBranchedSums$State;"⟩, 3) := ⟨⟨by decide +kernel, by decide +kernel⟩, List.mem_of_getElem? (i := 103) (by decide +kernel), List.mem_of_getElem? (i := 215) (by decide +kernel), List.mem_of_getElem? (i := 216) (by decide +kernel)⟩
theorem lw_p4 : lw_okq (⟨"BranchedSums$Bag", "sortByRatio", "()V"⟩, 6) := ⟨⟨by decide +kernel, by decide +kernel⟩, List.mem_of_getElem? (i := 26) (by decide +kernel), List.mem_of_getElem? (i := 266) (by decide +kernel), List.mem_of_getElem? (i := 267) (by decide +kernel)⟩
theorem lw_p5 : lw_okq (⟨"BranchedSums$Bag", "isAhead", "(II)Z"⟩, 6) := ⟨⟨by decide +kernel, by decide +kernel⟩, List.mem_of_getElem? (i := 26) (by decide +kernel), List.mem_of_getElem? (i := 270) (by decide +kernel), List.mem_of_getElem? (i := 271) (by decide +kernel)⟩
theorem lw_p6 : lw_okq (⟨"BranchedSums$Text", "readThing", "()Z"⟩, 7) := ⟨⟨by decide +kernel, by decide +kernel⟩, List.mem_of_getElem? (i := 123) (by decide +kernel), List.mem_of_getElem? (i := 282) (by decide +kernel), List.mem_of_getElem? (i := 283) (by decide +kernel)⟩
theorem lw_p7 : lw_okq (⟨"BranchedSums$Text", "takeNumber", "(II)I"⟩, 7) := ⟨⟨by decide +kernel, by decide +kernel⟩, List.mem_of_getElem? (i := 123) (by decide +kernel), List.mem_of_getElem? (i := 286) (by decide +kernel), List.mem_of_getElem? (i := 287) (by decide +kernel)⟩
theorem lw_p8 : lw_okq (⟨"BranchedSums$Text", "characterHere", "()C"⟩, 7) := ⟨⟨by decide +kernel, by decide +kernel⟩, List.mem_of_getElem? (i := 123) (by decide +kernel), List.mem_of_getElem? (i := 290) (by decide +kernel), List.mem_of_getElem? (i := 291) (by decide +kernel)⟩
theorem lw_p9 : lw_okq (⟨"BranchedSums$Text", "take", "(C)Z"⟩, 7) := ⟨⟨by decide +kernel, by decide +kernel⟩, List.mem_of_getElem? (i := 123) (by decide +kernel), List.mem_of_getElem? (i := 295) (by decide +kernel), List.mem_of_getElem? (i := 296) (by decide +kernel)⟩
theorem lw_p10 : lw_okq (⟨"BranchedSums$Bag", "barredBy", "(I)I"⟩, 6) := ⟨⟨by decide +kernel, by decide +kernel⟩, List.mem_of_getElem? (i := 26) (by decide +kernel), List.mem_of_getElem? (i := 362) (by decide +kernel), List.mem_of_getElem? (i := 363) (by decide +kernel)⟩
theorem lw_p11 : lw_okq (⟨"BranchedSums$Bag", "freeThings", "(II)I"⟩, 6) := ⟨⟨by decide +kernel, by decide +kernel⟩, List.mem_of_getElem? (i := 26) (by decide +kernel), List.mem_of_getElem? (i := 366) (by decide +kernel), List.mem_of_getElem? (i := 367) (by decide +kernel)⟩
theorem lw_p12 : lw_okq (⟨"BranchedSums$Bag", "wholeThings", "(II)I"⟩, 6) := ⟨⟨by decide +kernel, by decide +kernel⟩, List.mem_of_getElem? (i := 26) (by decide +kernel), List.mem_of_getElem? (i := 370) (by decide +kernel), List.mem_of_getElem? (i := 371) (by decide +kernel)⟩
theorem lw_p13 : lw_okq (⟨"BranchedSums$Bag", "firstByRatio", "(I)I"⟩, 6) := ⟨⟨by decide +kernel, by decide +kernel⟩, List.mem_of_getElem? (i := 26) (by decide +kernel), List.mem_of_getElem? (i := 374) (by decide +kernel), List.mem_of_getElem? (i := 375) (by decide +kernel)⟩
theorem lw_p14 : lw_okq (⟨"BranchedSums$Bag", "shareOf", "(II)I"⟩, 6) := ⟨⟨by decide +kernel, by decide +kernel⟩, List.mem_of_getElem? (i := 26) (by decide +kernel), List.mem_of_getElem? (i := 378) (by decide +kernel), List.mem_of_getElem? (i := 379) (by decide +kernel)⟩
theorem lw_p15 : lw_okq (⟨"BranchedSums", "goThrough", "(IIZ)I"⟩, 6) := ⟨⟨by decide +kernel, by decide +kernel⟩, List.mem_of_getElem? (i := 12) (by decide +kernel), List.mem_of_getElem? (i := 391) (by decide +kernel), List.mem_of_getElem? (i := 392) (by decide +kernel)⟩
def lw_privs_1 : List (MethodName × Nat) := [(⟨"BranchedSums$Nodes", "part", "(II)I"⟩, 2), (⟨"BranchedSums$Nodes", "goesBefore", "(III)Z"⟩, 2), (⟨"BranchedSums", "prepareForChange", "()V"⟩, 6), (⟨"BranchedSums$History", "stateAt", "(I)LBranchedSums$State;"⟩, 3), (⟨"BranchedSums$Bag", "sortByRatio", "()V"⟩, 6), (⟨"BranchedSums$Bag", "isAhead", "(II)Z"⟩, 6), (⟨"BranchedSums$Text", "readThing", "()Z"⟩, 7), (⟨"BranchedSums$Text", "takeNumber", "(II)I"⟩, 7), (⟨"BranchedSums$Text", "characterHere", "()C"⟩, 7), (⟨"BranchedSums$Text", "take", "(C)Z"⟩, 7), (⟨"BranchedSums$Bag", "barredBy", "(I)I"⟩, 6), (⟨"BranchedSums$Bag", "freeThings", "(II)I"⟩, 6), (⟨"BranchedSums$Bag", "wholeThings", "(II)I"⟩, 6), (⟨"BranchedSums$Bag", "firstByRatio", "(I)I"⟩, 6), (⟨"BranchedSums$Bag", "shareOf", "(II)I"⟩, 6), (⟨"BranchedSums", "goThrough", "(IIZ)I"⟩, 6)]
theorem lw_r1 : ∀ q ∈ lw_privs_1, lw_okq q := List.forall_mem_cons.mpr ⟨lw_p0, List.forall_mem_cons.mpr ⟨lw_p1, List.forall_mem_cons.mpr ⟨lw_p2, List.forall_mem_cons.mpr ⟨lw_p3, List.forall_mem_cons.mpr ⟨lw_p4, List.forall_mem_cons.mpr ⟨lw_p5, List.forall_mem_cons.mpr ⟨lw_p6, List.forall_mem_cons.mpr ⟨lw_p7, List.forall_mem_cons.mpr ⟨lw_p8, List.forall_mem_cons.mpr ⟨lw_p9, List.forall_mem_cons.mpr ⟨lw_p10, List.forall_mem_cons.mpr ⟨lw_p11, List.forall_mem_cons.mpr ⟨lw_p12, List.forall_mem_cons.mpr ⟨lw_p13, List.forall_mem_cons.mpr ⟨lw_p14, List.forall_mem_cons.mpr ⟨lw_p15, fun _ h => absurd h List.not_mem_nil⟩⟩⟩⟩⟩⟩⟩⟩⟩⟩⟩⟩⟩⟩⟩⟩
theorem lw_p16 : lw_okq (⟨"BranchedSums$State", "resultFor", "(I)I"⟩, 7) := ⟨⟨by decide +kernel, by decide +kernel⟩, List.mem_of_getElem? (i := 20) (by decide +kernel), List.mem_of_getElem? (i := 400) (by decide +kernel), List.mem_of_getElem? (i := 401) (by decide +kernel)⟩
theorem lw_p17 : lw_okq (⟨"BranchedSums$Bag", "heaviest", "(I)I"⟩, 6) := ⟨⟨by decide +kernel, by decide +kernel⟩, List.mem_of_getElem? (i := 26) (by decide +kernel), List.mem_of_getElem? (i := 422) (by decide +kernel), List.mem_of_getElem? (i := 423) (by decide +kernel)⟩
theorem lw_p18 : lw_okq (⟨"BranchedSums$Bag", "bestByTrials", "(III)I"⟩, 6) := ⟨⟨by decide +kernel, by decide +kernel⟩, List.mem_of_getElem? (i := 26) (by decide +kernel), List.mem_of_getElem? (i := 426) (by decide +kernel), List.mem_of_getElem? (i := 427) (by decide +kernel)⟩
theorem lw_p19 : lw_okq (⟨"BranchedSums$State", "makeChild", "(IIII)V"⟩, 7) := ⟨⟨by decide +kernel, by decide +kernel⟩, List.mem_of_getElem? (i := 20) (by decide +kernel), List.mem_of_getElem? (i := 434) (by decide +kernel), List.mem_of_getElem? (i := 435) (by decide +kernel)⟩
theorem lw_p20 : lw_okq (⟨"BranchedSums", "countOfSearch", "(I)I"⟩, 6) := ⟨⟨by decide +kernel, by decide +kernel⟩, List.mem_of_getElem? (i := 12) (by decide +kernel), List.mem_of_getElem? (i := 554) (by decide +kernel), List.mem_of_getElem? (i := 555) (by decide +kernel)⟩
theorem lw_p21 : lw_okq (⟨"BranchedSumsModel", "records", "()V"⟩, 13) := ⟨⟨by decide +kernel, by decide +kernel⟩, List.mem_of_getElem? (i := 562) (by decide +kernel), List.mem_of_getElem? (i := 623) (by decide +kernel), List.mem_of_getElem? (i := 624) (by decide +kernel)⟩
theorem lw_p22 : lw_okq (⟨"BranchedSumsModel", "goesOn", "()Z"⟩, 13) := ⟨⟨by decide +kernel, by decide +kernel⟩, List.mem_of_getElem? (i := 562) (by decide +kernel), List.mem_of_getElem? (i := 634) (by decide +kernel), List.mem_of_getElem? (i := 635) (by decide +kernel)⟩
theorem lw_p23 : lw_okq (⟨"BranchedSumsModel", "forgets", "()V"⟩, 13) := ⟨⟨by decide +kernel, by decide +kernel⟩, List.mem_of_getElem? (i := 562) (by decide +kernel), List.mem_of_getElem? (i := 644) (by decide +kernel), List.mem_of_getElem? (i := 645) (by decide +kernel)⟩
theorem lw_p24 : lw_okq (⟨"BranchedSumsModel", "adds", "(II)I"⟩, 13) := ⟨⟨by decide +kernel, by decide +kernel⟩, List.mem_of_getElem? (i := 562) (by decide +kernel), List.mem_of_getElem? (i := 648) (by decide +kernel), List.mem_of_getElem? (i := 649) (by decide +kernel)⟩
theorem lw_p25 : lw_okq (⟨"BranchedSumsModel", "isText", "()Z"⟩, 13) := ⟨⟨by decide +kernel, by decide +kernel⟩, List.mem_of_getElem? (i := 562) (by decide +kernel), List.mem_of_getElem? (i := 656) (by decide +kernel), List.mem_of_getElem? (i := 657) (by decide +kernel)⟩
theorem lw_p26 : lw_okq (⟨"BranchedSumsModel", "isPart", "()Z"⟩, 13) := ⟨⟨by decide +kernel, by decide +kernel⟩, List.mem_of_getElem? (i := 562) (by decide +kernel), List.mem_of_getElem? (i := 660) (by decide +kernel), List.mem_of_getElem? (i := 661) (by decide +kernel)⟩
theorem lw_p27 : lw_okq (⟨"BranchedSumsModel", "isNumber", "(II)Z"⟩, 13) := ⟨⟨by decide +kernel, by decide +kernel⟩, List.mem_of_getElem? (i := 562) (by decide +kernel), List.mem_of_getElem? (i := 664) (by decide +kernel), List.mem_of_getElem? (i := 665) (by decide +kernel)⟩
theorem lw_p28 : lw_okq (⟨"BranchedSumsModel", "isAt", "(II)Z"⟩, 13) := ⟨⟨by decide +kernel, by decide +kernel⟩, List.mem_of_getElem? (i := 562) (by decide +kernel), List.mem_of_getElem? (i := 668) (by decide +kernel), List.mem_of_getElem? (i := 669) (by decide +kernel)⟩
theorem lw_p29 : lw_okq (⟨"BranchedSumsModel", "bars", "(IIZ)V"⟩, 13) := ⟨⟨by decide +kernel, by decide +kernel⟩, List.mem_of_getElem? (i := 562) (by decide +kernel), List.mem_of_getElem? (i := 672) (by decide +kernel), List.mem_of_getElem? (i := 673) (by decide +kernel)⟩
theorem lw_p30 : lw_okq (⟨"BranchedSumsModel", "isThing", "(I)Z"⟩, 13) := ⟨⟨by decide +kernel, by decide +kernel⟩, List.mem_of_getElem? (i := 562) (by decide +kernel), List.mem_of_getElem? (i := 680) (by decide +kernel), List.mem_of_getElem? (i := 681) (by decide +kernel)⟩
theorem lw_p31 : lw_okq (⟨"BranchedSumsModel", "pairs", "()I"⟩, 13) := ⟨⟨by decide +kernel, by decide +kernel⟩, List.mem_of_getElem? (i := 562) (by decide +kernel), List.mem_of_getElem? (i := 688) (by decide +kernel), List.mem_of_getElem? (i := 689) (by decide +kernel)⟩
def lw_privs_2 : List (MethodName × Nat) := [(⟨"BranchedSums$State", "resultFor", "(I)I"⟩, 7), (⟨"BranchedSums$Bag", "heaviest", "(I)I"⟩, 6), (⟨"BranchedSums$Bag", "bestByTrials", "(III)I"⟩, 6), (⟨"BranchedSums$State", "makeChild", "(IIII)V"⟩, 7), (⟨"BranchedSums", "countOfSearch", "(I)I"⟩, 6), (⟨"BranchedSumsModel", "records", "()V"⟩, 13), (⟨"BranchedSumsModel", "goesOn", "()Z"⟩, 13), (⟨"BranchedSumsModel", "forgets", "()V"⟩, 13), (⟨"BranchedSumsModel", "adds", "(II)I"⟩, 13), (⟨"BranchedSumsModel", "isText", "()Z"⟩, 13), (⟨"BranchedSumsModel", "isPart", "()Z"⟩, 13), (⟨"BranchedSumsModel", "isNumber", "(II)Z"⟩, 13), (⟨"BranchedSumsModel", "isAt", "(II)Z"⟩, 13), (⟨"BranchedSumsModel", "bars", "(IIZ)V"⟩, 13), (⟨"BranchedSumsModel", "isThing", "(I)Z"⟩, 13), (⟨"BranchedSumsModel", "pairs", "()I"⟩, 13)]
theorem lw_r2 : ∀ q ∈ lw_privs_2, lw_okq q := List.forall_mem_cons.mpr ⟨lw_p16, List.forall_mem_cons.mpr ⟨lw_p17, List.forall_mem_cons.mpr ⟨lw_p18, List.forall_mem_cons.mpr ⟨lw_p19, List.forall_mem_cons.mpr ⟨lw_p20, List.forall_mem_cons.mpr ⟨lw_p21, List.forall_mem_cons.mpr ⟨lw_p22, List.forall_mem_cons.mpr ⟨lw_p23, List.forall_mem_cons.mpr ⟨lw_p24, List.forall_mem_cons.mpr ⟨lw_p25, List.forall_mem_cons.mpr ⟨lw_p26, List.forall_mem_cons.mpr ⟨lw_p27, List.forall_mem_cons.mpr ⟨lw_p28, List.forall_mem_cons.mpr ⟨lw_p29, List.forall_mem_cons.mpr ⟨lw_p30, List.forall_mem_cons.mpr ⟨lw_p31, fun _ h => absurd h List.not_mem_nil⟩⟩⟩⟩⟩⟩⟩⟩⟩⟩⟩⟩⟩⟩⟩⟩
theorem lw_p32 : lw_okq (⟨"BranchedSumsModel", "sorts", "()V"⟩, 13) := ⟨⟨by decide +kernel, by decide +kernel⟩, List.mem_of_getElem? (i := 562) (by decide +kernel), List.mem_of_getElem? (i := 707) (by decide +kernel), List.mem_of_getElem? (i := 708) (by decide +kernel)⟩
theorem lw_p33 : lw_okq (⟨"BranchedSumsModel", "makes", "([IIIZ)V"⟩, 13) := ⟨⟨by decide +kernel, by decide +kernel⟩, List.mem_of_getElem? (i := 562) (by decide +kernel), List.mem_of_getElem? (i := 714) (by decide +kernel), List.mem_of_getElem? (i := 715) (by decide +kernel)⟩
theorem lw_p34 : lw_okq (⟨"BranchedSumsModel", "child", "([III)I"⟩, 13) := ⟨⟨by decide +kernel, by decide +kernel⟩, List.mem_of_getElem? (i := 562) (by decide +kernel), List.mem_of_getElem? (i := 718) (by decide +kernel), List.mem_of_getElem? (i := 719) (by decide +kernel)⟩
theorem lw_p35 : lw_okq (⟨"BranchedSumsModel", "bound", "([III)I"⟩, 13) := ⟨⟨by decide +kernel, by decide +kernel⟩, List.mem_of_getElem? (i := 562) (by decide +kernel), List.mem_of_getElem? (i := 728) (by decide +kernel), List.mem_of_getElem? (i := 729) (by decide +kernel)⟩
theorem lw_p36 : lw_okq (⟨"BranchedSumsModel", "walks", "(IIZ)I"⟩, 13) := ⟨⟨by decide +kernel, by decide +kernel⟩, List.mem_of_getElem? (i := 562) (by decide +kernel), List.mem_of_getElem? (i := 739) (by decide +kernel), List.mem_of_getElem? (i := 740) (by decide +kernel)⟩
theorem lw_p37 : lw_okq (⟨"BranchedSumsModel", "takes", "([II)I"⟩, 13) := ⟨⟨by decide +kernel, by decide +kernel⟩, List.mem_of_getElem? (i := 562) (by decide +kernel), List.mem_of_getElem? (i := 746) (by decide +kernel), List.mem_of_getElem? (i := 747) (by decide +kernel)⟩
theorem lw_p38 : lw_okq (⟨"BranchedSumsModel", "heel", "([III)I"⟩, 13) := ⟨⟨by decide +kernel, by decide +kernel⟩, List.mem_of_getElem? (i := 562) (by decide +kernel), List.mem_of_getElem? (i := 750) (by decide +kernel), List.mem_of_getElem? (i := 751) (by decide +kernel)⟩
theorem lw_p39 : lw_okq (⟨"BranchedSumsModel", "branch", "([IIII)I"⟩, 13) := ⟨⟨by decide +kernel, by decide +kernel⟩, List.mem_of_getElem? (i := 562) (by decide +kernel), List.mem_of_getElem? (i := 754) (by decide +kernel), List.mem_of_getElem? (i := 755) (by decide +kernel)⟩
theorem lw_p40 : lw_okq (⟨"BranchedSumsModel", "byParts", "([III)I"⟩, 13) := ⟨⟨by decide +kernel, by decide +kernel⟩, List.mem_of_getElem? (i := 562) (by decide +kernel), List.mem_of_getElem? (i := 758) (by decide +kernel), List.mem_of_getElem? (i := 759) (by decide +kernel)⟩
theorem lw_p41 : lw_okq (⟨"BranchedSumsModel", "split", "([III)I"⟩, 13) := ⟨⟨by decide +kernel, by decide +kernel⟩, List.mem_of_getElem? (i := 562) (by decide +kernel), List.mem_of_getElem? (i := 762) (by decide +kernel), List.mem_of_getElem? (i := 763) (by decide +kernel)⟩
theorem lw_p42 : lw_okq (⟨"BranchedSumsModel", "first", "([II)I"⟩, 13) := ⟨⟨by decide +kernel, by decide +kernel⟩, List.mem_of_getElem? (i := 562) (by decide +kernel), List.mem_of_getElem? (i := 766) (by decide +kernel), List.mem_of_getElem? (i := 767) (by decide +kernel)⟩
theorem lw_p43 : lw_okq (⟨"BranchedSumsModel", "byTrials", "([III)I"⟩, 13) := ⟨⟨by decide +kernel, by decide +kernel⟩, List.mem_of_getElem? (i := 562) (by decide +kernel), List.mem_of_getElem? (i := 773) (by decide +kernel), List.mem_of_getElem? (i := 774) (by decide +kernel)⟩
theorem lw_p44 : lw_okq (⟨"BranchedSumsModel", "isNode", "(I)Z"⟩, 13) := ⟨⟨by decide +kernel, by decide +kernel⟩, List.mem_of_getElem? (i := 562) (by decide +kernel), List.mem_of_getElem? (i := 802) (by decide +kernel), List.mem_of_getElem? (i := 803) (by decide +kernel)⟩
theorem lw_p45 : lw_okq (⟨"BranchedSumsModel", "wrong", "(II)I"⟩, 13) := ⟨⟨by decide +kernel, by decide +kernel⟩, List.mem_of_getElem? (i := 562) (by decide +kernel), List.mem_of_getElem? (i := 818) (by decide +kernel), List.mem_of_getElem? (i := 819) (by decide +kernel)⟩
theorem lw_p46 : lw_okq (⟨"BranchedSumsModel", "ofSearch", "(I)I"⟩, 13) := ⟨⟨by decide +kernel, by decide +kernel⟩, List.mem_of_getElem? (i := 562) (by decide +kernel), List.mem_of_getElem? (i := 834) (by decide +kernel), List.mem_of_getElem? (i := 835) (by decide +kernel)⟩
theorem lw_p47 : lw_okq (⟨"BranchedSumsModel", "gap", "()I"⟩, 13) := ⟨⟨by decide +kernel, by decide +kernel⟩, List.mem_of_getElem? (i := 562) (by decide +kernel), List.mem_of_getElem? (i := 838) (by decide +kernel), List.mem_of_getElem? (i := 839) (by decide +kernel)⟩
def lw_privs_3 : List (MethodName × Nat) := [(⟨"BranchedSumsModel", "sorts", "()V"⟩, 13), (⟨"BranchedSumsModel", "makes", "([IIIZ)V"⟩, 13), (⟨"BranchedSumsModel", "child", "([III)I"⟩, 13), (⟨"BranchedSumsModel", "bound", "([III)I"⟩, 13), (⟨"BranchedSumsModel", "walks", "(IIZ)I"⟩, 13), (⟨"BranchedSumsModel", "takes", "([II)I"⟩, 13), (⟨"BranchedSumsModel", "heel", "([III)I"⟩, 13), (⟨"BranchedSumsModel", "branch", "([IIII)I"⟩, 13), (⟨"BranchedSumsModel", "byParts", "([III)I"⟩, 13), (⟨"BranchedSumsModel", "split", "([III)I"⟩, 13), (⟨"BranchedSumsModel", "first", "([II)I"⟩, 13), (⟨"BranchedSumsModel", "byTrials", "([III)I"⟩, 13), (⟨"BranchedSumsModel", "isNode", "(I)Z"⟩, 13), (⟨"BranchedSumsModel", "wrong", "(II)I"⟩, 13), (⟨"BranchedSumsModel", "ofSearch", "(I)I"⟩, 13), (⟨"BranchedSumsModel", "gap", "()I"⟩, 13)]
theorem lw_r3 : ∀ q ∈ lw_privs_3, lw_okq q := List.forall_mem_cons.mpr ⟨lw_p32, List.forall_mem_cons.mpr ⟨lw_p33, List.forall_mem_cons.mpr ⟨lw_p34, List.forall_mem_cons.mpr ⟨lw_p35, List.forall_mem_cons.mpr ⟨lw_p36, List.forall_mem_cons.mpr ⟨lw_p37, List.forall_mem_cons.mpr ⟨lw_p38, List.forall_mem_cons.mpr ⟨lw_p39, List.forall_mem_cons.mpr ⟨lw_p40, List.forall_mem_cons.mpr ⟨lw_p41, List.forall_mem_cons.mpr ⟨lw_p42, List.forall_mem_cons.mpr ⟨lw_p43, List.forall_mem_cons.mpr ⟨lw_p44, List.forall_mem_cons.mpr ⟨lw_p45, List.forall_mem_cons.mpr ⟨lw_p46, List.forall_mem_cons.mpr ⟨lw_p47, fun _ h => absurd h List.not_mem_nil⟩⟩⟩⟩⟩⟩⟩⟩⟩⟩⟩⟩⟩⟩⟩⟩
def lw_privs : List (MethodName × Nat) := lw_privs_1 ++ (lw_privs_2 ++ (lw_privs_3))
def lw_tbl : List Cond := k2_sels lw_privs ++ tables_1
theorem lw_privs_ok : ∀ q ∈ lw_privs, lw_okq q := by
  show ∀ q ∈ lw_privs_1 ++ (lw_privs_2 ++ (lw_privs_3)), lw_okq q
  exact List.forall_mem_append.mpr ⟨lw_r1, List.forall_mem_append.mpr ⟨lw_r2, lw_r3⟩⟩
/-! ===== BEGIN printed: names, fields, word lists, decode rows ===== -/
def RX0 : String := "BranchedSums$Bag"
def TX0 : u_T := fun k => match k with
  | 0 => ("BranchedSums$Bag", "worths", "[I", true)
  | 1 => ("BranchedSums$Bag", "weights", "[I", true)
  | 2 => ("BranchedSums$Bag", "bars", "[I", true)
  | 3 => ("BranchedSums$Bag", "byRatio", "[I", true)
  | 4 => ("BranchedSums$Bag", "size", "I", false)
  | _ => ("BranchedSums$Bag", "room", "I", false)
def tyX0 : Nat → FieldType := fun k => match k with
  | 0 => .array .int
  | 1 => .array .int
  | 2 => .array .int
  | 3 => .array .int
  | 4 => .int
  | _ => .int
abbrev wsX00 : List Cond := u_ws RX0 TX0 6
theorem nmX0 : ∀ a, a < 6 → ∀ b, b < 6 → a ≠ b → (TX0 a).2.1 ≠ (TX0 b).2.1 := by decide +kernel
theorem tyX0_ok : ∀ k, k < 6 → parseFieldDescriptor (TX0 k).2.2.1 = some (tyX0 k) := by decide +kernel
abbrev cX0_init : ByteArray := prog_2_method_1_code
def yX0_init : MethodName := ⟨RX0, "<init>", "()V"⟩
abbrev cX0_copyFrom : ByteArray := prog_2_method_2_code
def yX0_copyFrom : MethodName := ⟨RX0, "copyFrom", "(LBranchedSums$Bag;)V"⟩
abbrev cX0_knows : ByteArray := prog_2_method_3_code
def yX0_knows : MethodName := ⟨RX0, "knows", "(I)Z"⟩
abbrev cX0_append : ByteArray := prog_2_method_4_code
def yX0_append : MethodName := ⟨RX0, "append", "(III)V"⟩
abbrev cX0_drop : ByteArray := prog_2_method_5_code
def yX0_drop : MethodName := ⟨RX0, "drop", "(I)V"⟩
abbrev cX0_turnBar : ByteArray := prog_2_method_6_code
def yX0_turnBar : MethodName := ⟨RX0, "turnBar", "(II)V"⟩
abbrev cX0_pairs : ByteArray := prog_2_method_7_code
def yX0_pairs : MethodName := ⟨RX0, "pairs", "()I"⟩
abbrev cX0_sortByRatio : ByteArray := prog_2_method_8_code
def yX0_sortByRatio : MethodName := ⟨RX0, "sortByRatio", "()V"⟩
abbrev cX0_isAhead : ByteArray := prog_2_method_9_code
def yX0_isAhead : MethodName := ⟨RX0, "isAhead", "(II)Z"⟩
abbrev cX0_placeOf : ByteArray := prog_2_method_10_code
def yX0_placeOf : MethodName := ⟨RX0, "placeOf", "(I)I"⟩
abbrev cX0_canFix : ByteArray := prog_2_method_11_code
def yX0_canFix : MethodName := ⟨RX0, "canFix", "(II)Z"⟩
abbrev cX0_isPossible : ByteArray := prog_2_method_12_code
def yX0_isPossible : MethodName := ⟨RX0, "isPossible", "(I)Z"⟩
abbrev cX0_barredBy : ByteArray := prog_2_method_13_code
def yX0_barredBy : MethodName := ⟨RX0, "barredBy", "(I)I"⟩
abbrev cX0_freeThings : ByteArray := prog_2_method_14_code
def yX0_freeThings : MethodName := ⟨RX0, "freeThings", "(II)I"⟩
abbrev cX0_bound : ByteArray := prog_2_method_15_code
def yX0_bound : MethodName := ⟨RX0, "bound", "(II)I"⟩
abbrev cX0_wholeThings : ByteArray := prog_2_method_16_code
def yX0_wholeThings : MethodName := ⟨RX0, "wholeThings", "(II)I"⟩
abbrev cX0_firstByRatio : ByteArray := prog_2_method_17_code
def yX0_firstByRatio : MethodName := ⟨RX0, "firstByRatio", "(I)I"⟩
abbrev cX0_shareOf : ByteArray := prog_2_method_18_code
def yX0_shareOf : MethodName := ⟨RX0, "shareOf", "(II)I"⟩
abbrev cX0_heel : ByteArray := prog_2_method_19_code
def yX0_heel : MethodName := ⟨RX0, "heel", "(II)I"⟩
abbrev cX0_thingToBranch : ByteArray := prog_2_method_20_code
def yX0_thingToBranch : MethodName := ⟨RX0, "thingToBranch", "(III)I"⟩
abbrev cX0_heaviest : ByteArray := prog_2_method_21_code
def yX0_heaviest : MethodName := ⟨RX0, "heaviest", "(I)I"⟩
abbrev cX0_bestByTrials : ByteArray := prog_2_method_22_code
def yX0_bestByTrials : MethodName := ⟨RX0, "bestByTrials", "(III)I"⟩
def RX1 : String := "BranchedSums$History"
def TX1 : u_T := fun k => match k with
  | 0 => ("BranchedSums$History", "ring", "[LBranchedSums$State;", true)
  | 1 => ("BranchedSums$History", "oldest", "I", false)
  | _ => ("BranchedSums$History", "size", "I", false)
def tyX1 : Nat → FieldType := fun k => match k with
  | 0 => .array (.object "BranchedSums$State")
  | 1 => .int
  | _ => .int
abbrev wsX10 : List Cond := u_ws RX1 TX1 3
theorem nmX1 : ∀ a, a < 3 → ∀ b, b < 3 → a ≠ b → (TX1 a).2.1 ≠ (TX1 b).2.1 := by decide +kernel
theorem tyX1_ok : ∀ k, k < 3 → parseFieldDescriptor (TX1 k).2.2.1 = some (tyX1 k) := by decide +kernel
abbrev cX1_init : ByteArray := prog_3_method_1_code
def yX1_init : MethodName := ⟨RX1, "<init>", "()V"⟩
abbrev cX1_push : ByteArray := prog_3_method_2_code
def yX1_push : MethodName := ⟨RX1, "push", "(LBranchedSums$State;)V"⟩
abbrev cX1_pop : ByteArray := prog_3_method_3_code
def yX1_pop : MethodName := ⟨RX1, "pop", "(LBranchedSums$State;)V"⟩
abbrev cX1_stateAt : ByteArray := prog_3_method_4_code
def yX1_stateAt : MethodName := ⟨RX1, "stateAt", "(I)LBranchedSums$State;"⟩
def RX2 : String := "BranchedSums$Nodes"
def TX2 : u_T := fun k => match k with
  | 0 => ("BranchedSums$Nodes", "packed", "[J", true)
  | _ => ("BranchedSums$Nodes", "made", "I", false)
def tyX2 : Nat → FieldType := fun k => match k with
  | 0 => .array .long
  | _ => .int
abbrev wsX20 : List Cond := u_ws RX2 TX2 2
theorem nmX2 : ∀ a, a < 2 → ∀ b, b < 2 → a ≠ b → (TX2 a).2.1 ≠ (TX2 b).2.1 := by decide +kernel
theorem tyX2_ok : ∀ k, k < 2 → parseFieldDescriptor (TX2 k).2.2.1 = some (tyX2 k) := by decide +kernel
abbrev cX2_init : ByteArray := prog_4_method_1_code
def yX2_init : MethodName := ⟨RX2, "<init>", "()V"⟩
abbrev cX2_copyFrom : ByteArray := prog_4_method_2_code
def yX2_copyFrom : MethodName := ⟨RX2, "copyFrom", "(LBranchedSums$Nodes;)V"⟩
abbrev cX2_knows : ByteArray := prog_4_method_3_code
def yX2_knows : MethodName := ⟨RX2, "knows", "(I)Z"⟩
abbrev cX2_append : ByteArray := prog_4_method_4_code
def yX2_append : MethodName := ⟨RX2, "append", "(IIIIII)V"⟩
abbrev cX2_part : ByteArray := prog_4_method_5_code
def yX2_part : MethodName := ⟨RX2, "part", "(II)I"⟩
abbrev cX2_how : ByteArray := prog_4_method_6_code
def yX2_how : MethodName := ⟨RX2, "how", "(I)I"⟩
abbrev cX2_from : ByteArray := prog_4_method_7_code
def yX2_from : MethodName := ⟨RX2, "from", "(I)I"⟩
abbrev cX2_bound : ByteArray := prog_4_method_8_code
def yX2_bound : MethodName := ⟨RX2, "bound", "(I)I"⟩
abbrev cX2_in : ByteArray := prog_4_method_9_code
def yX2_in : MethodName := ⟨RX2, "in", "(I)I"⟩
abbrev cX2_out : ByteArray := prog_4_method_10_code
def yX2_out : MethodName := ⟨RX2, "out", "(I)I"⟩
abbrev cX2_fixed : ByteArray := prog_4_method_11_code
def yX2_fixed : MethodName := ⟨RX2, "fixed", "(I)I"⟩
abbrev cX2_settle : ByteArray := prog_4_method_12_code
def yX2_settle : MethodName := ⟨RX2, "settle", "(II)V"⟩
abbrev cX2_giveUpOpen : ByteArray := prog_4_method_13_code
def yX2_giveUpOpen : MethodName := ⟨RX2, "giveUpOpen", "()V"⟩
abbrev cX2_countOf : ByteArray := prog_4_method_14_code
def yX2_countOf : MethodName := ⟨RX2, "countOf", "(I)I"⟩
abbrev cX2_nextOpen : ByteArray := prog_4_method_15_code
def yX2_nextOpen : MethodName := ⟨RX2, "nextOpen", "(I)I"⟩
abbrev cX2_goesBefore : ByteArray := prog_4_method_16_code
def yX2_goesBefore : MethodName := ⟨RX2, "goesBefore", "(III)Z"⟩
def RX3 : String := "BranchedSums$State"
def TX3 : u_T := fun k => match k with
  | 0 => ("BranchedSums$State", "bag", "LBranchedSums$Bag;", true)
  | 1 => ("BranchedSums$State", "nodes", "LBranchedSums$Nodes;", true)
  | 2 => ("BranchedSums$State", "order", "I", false)
  | 3 => ("BranchedSums$State", "choice", "I", false)
  | 4 => ("BranchedSums$State", "steps", "I", false)
  | 5 => ("BranchedSums$State", "sum", "I", false)
  | _ => ("BranchedSums$State", "best", "I", false)
def tyX3 : Nat → FieldType := fun k => match k with
  | 0 => .object "BranchedSums$Bag"
  | 1 => .object "BranchedSums$Nodes"
  | 2 => .int
  | 3 => .int
  | 4 => .int
  | 5 => .int
  | _ => .int
abbrev wsX30 : List Cond := u_ws RX3 TX3 7
theorem nmX3 : ∀ a, a < 7 → ∀ b, b < 7 → a ≠ b → (TX3 a).2.1 ≠ (TX3 b).2.1 := by decide +kernel
theorem tyX3_ok : ∀ k, k < 7 → parseFieldDescriptor (TX3 k).2.2.1 = some (tyX3 k) := by decide +kernel
abbrev cX3_init : ByteArray := prog_5_method_1_code
def yX3_init : MethodName := ⟨RX3, "<init>", "()V"⟩
abbrev cX3_copyFrom : ByteArray := prog_5_method_2_code
def yX3_copyFrom : MethodName := ⟨RX3, "copyFrom", "(LBranchedSums$State;)V"⟩
abbrev cX3_goesOn : ByteArray := prog_5_method_3_code
def yX3_goesOn : MethodName := ⟨RX3, "goesOn", "()Z"⟩
abbrev cX3_forgetSearch : ByteArray := prog_5_method_4_code
def yX3_forgetSearch : MethodName := ⟨RX3, "forgetSearch", "()V"⟩
abbrev cX3_openRoot : ByteArray := prog_5_method_5_code
def yX3_openRoot : MethodName := ⟨RX3, "openRoot", "()V"⟩
abbrev cX3_gap : ByteArray := prog_5_method_6_code
def yX3_gap : MethodName := ⟨RX3, "gap", "()I"⟩
abbrev cX3_takeStep : ByteArray := prog_5_method_7_code
def yX3_takeStep : MethodName := ⟨RX3, "takeStep", "(I)I"⟩
abbrev cX3_resultFor : ByteArray := prog_5_method_8_code
def yX3_resultFor : MethodName := ⟨RX3, "resultFor", "(I)I"⟩
abbrev cX3_makeChild : ByteArray := prog_5_method_9_code
def yX3_makeChild : MethodName := ⟨RX3, "makeChild", "(IIII)V"⟩
def RX4 : String := "BranchedSums$Text"
def TX4 : u_T := fun k => match k with
  | 0 => ("BranchedSums$Text", "characters", "[C", true)
  | 1 => ("BranchedSums$Text", "worths", "[I", true)
  | 2 => ("BranchedSums$Text", "weights", "[I", true)
  | 3 => ("BranchedSums$Text", "bars", "[I", true)
  | 4 => ("BranchedSums$Text", "length", "I", false)
  | 5 => ("BranchedSums$Text", "things", "I", false)
  | _ => ("BranchedSums$Text", "place", "I", false)
def tyX4 : Nat → FieldType := fun k => match k with
  | 0 => .array .char
  | 1 => .array .int
  | 2 => .array .int
  | 3 => .array .int
  | 4 => .int
  | 5 => .int
  | _ => .int
abbrev wsX40 : List Cond := u_ws RX4 TX4 7
theorem nmX4 : ∀ a, a < 7 → ∀ b, b < 7 → a ≠ b → (TX4 a).2.1 ≠ (TX4 b).2.1 := by decide +kernel
theorem tyX4_ok : ∀ k, k < 7 → parseFieldDescriptor (TX4 k).2.2.1 = some (tyX4 k) := by decide +kernel
abbrev cX4_init : ByteArray := prog_6_method_1_code
def yX4_init : MethodName := ⟨RX4, "<init>", "()V"⟩
abbrev cX4_append : ByteArray := prog_6_method_2_code
def yX4_append : MethodName := ⟨RX4, "append", "(C)V"⟩
abbrev cX4_read : ByteArray := prog_6_method_3_code
def yX4_read : MethodName := ⟨RX4, "read", "()I"⟩
abbrev cX4_readThing : ByteArray := prog_6_method_4_code
def yX4_readThing : MethodName := ⟨RX4, "readThing", "()Z"⟩
abbrev cX4_take : ByteArray := prog_6_method_5_code
def yX4_take : MethodName := ⟨RX4, "take", "(C)Z"⟩
abbrev cX4_takeNumber : ByteArray := prog_6_method_6_code
def yX4_takeNumber : MethodName := ⟨RX4, "takeNumber", "(II)I"⟩
abbrev cX4_characterHere : ByteArray := prog_6_method_7_code
def yX4_characterHere : MethodName := ⟨RX4, "characterHere", "()C"⟩
abbrev cX4_barsTooFar : ByteArray := prog_6_method_8_code
def yX4_barsTooFar : MethodName := ⟨RX4, "barsTooFar", "(I)Z"⟩
def RX5 : String := "BranchedSums"
def TX5 : u_T := fun k => match k with
  | 0 => ("BranchedSums", "state", "LBranchedSums$State;", true)
  | 1 => ("BranchedSums", "before", "LBranchedSums$State;", true)
  | 2 => ("BranchedSums", "snapshot", "LBranchedSums$State;", true)
  | 3 => ("BranchedSums", "history", "LBranchedSums$History;", true)
  | 4 => ("BranchedSums", "text", "LBranchedSums$Text;", true)
  | _ => ("BranchedSums", "hasSnapshot", "Z", false)
def tyX5 : Nat → FieldType := fun k => match k with
  | 0 => .object "BranchedSums$State"
  | 1 => .object "BranchedSums$State"
  | 2 => .object "BranchedSums$State"
  | 3 => .object "BranchedSums$History"
  | 4 => .object "BranchedSums$Text"
  | _ => .boolean
abbrev wsX50 : List Cond := u_ws RX5 TX5 6
theorem nmX5 : ∀ a, a < 6 → ∀ b, b < 6 → a ≠ b → (TX5 a).2.1 ≠ (TX5 b).2.1 := by decide +kernel
theorem tyX5_ok : ∀ k, k < 6 → parseFieldDescriptor (TX5 k).2.2.1 = some (tyX5 k) := by decide +kernel
abbrev cX5_init : ByteArray := prog_1_method_1_code
def yX5_init : MethodName := ⟨RX5, "<init>", "()V"⟩
abbrev cX5_add : ByteArray := prog_1_method_2_code
def yX5_add : MethodName := ⟨RX5, "add", "(II)I"⟩
abbrev cX5_addAll : ByteArray := prog_1_method_3_code
def yX5_addAll : MethodName := ⟨RX5, "addAll", "()I"⟩
abbrev cX5_remove : ByteArray := prog_1_method_4_code
def yX5_remove : MethodName := ⟨RX5, "remove", "(I)I"⟩
abbrev cX5_bar : ByteArray := prog_1_method_5_code
def yX5_bar : MethodName := ⟨RX5, "bar", "(IIZ)I"⟩
abbrev cX5_setRoom : ByteArray := prog_1_method_6_code
def yX5_setRoom : MethodName := ⟨RX5, "setRoom", "(I)I"⟩
abbrev cX5_set : ByteArray := prog_1_method_7_code
def yX5_set : MethodName := ⟨RX5, "set", "(II)I"⟩
abbrev cX5_begin : ByteArray := prog_1_method_8_code
def yX5_begin : MethodName := ⟨RX5, "begin", "()I"⟩
abbrev cX5_step : ByteArray := prog_1_method_9_code
def yX5_step : MethodName := ⟨RX5, "step", "(I)I"⟩
abbrev cX5_dive : ByteArray := prog_1_method_10_code
def yX5_dive : MethodName := ⟨RX5, "dive", "()I"⟩
abbrev cX5_giveUp : ByteArray := prog_1_method_11_code
def yX5_giveUp : MethodName := ⟨RX5, "giveUp", "()I"⟩
abbrev cX5_type : ByteArray := prog_1_method_12_code
def yX5_type : MethodName := ⟨RX5, "type", "(C)I"⟩
abbrev cX5_clearText : ByteArray := prog_1_method_13_code
def yX5_clearText : MethodName := ⟨RX5, "clearText", "()I"⟩
abbrev cX5_undo : ByteArray := prog_1_method_14_code
def yX5_undo : MethodName := ⟨RX5, "undo", "()I"⟩
abbrev cX5_keep : ByteArray := prog_1_method_15_code
def yX5_keep : MethodName := ⟨RX5, "keep", "()I"⟩
abbrev cX5_restore : ByteArray := prog_1_method_16_code
def yX5_restore : MethodName := ⟨RX5, "restore", "()I"⟩
abbrev cX5_thing : ByteArray := prog_1_method_17_code
def yX5_thing : MethodName := ⟨RX5, "thing", "(II)I"⟩
abbrev cX5_node : ByteArray := prog_1_method_18_code
def yX5_node : MethodName := ⟨RX5, "node", "(II)I"⟩
abbrev cX5_next : ByteArray := prog_1_method_19_code
def yX5_next : MethodName := ⟨RX5, "next", "()I"⟩
abbrev cX5_branchOf : ByteArray := prog_1_method_20_code
def yX5_branchOf : MethodName := ⟨RX5, "branchOf", "(II)I"⟩
abbrev cX5_boundOf : ByteArray := prog_1_method_21_code
def yX5_boundOf : MethodName := ⟨RX5, "boundOf", "(II)I"⟩
abbrev cX5_heelOf : ByteArray := prog_1_method_22_code
def yX5_heelOf : MethodName := ⟨RX5, "heelOf", "(II)I"⟩
abbrev cX5_bestSum : ByteArray := prog_1_method_23_code
def yX5_bestSum : MethodName := ⟨RX5, "bestSum", "()I"⟩
abbrev cX5_count : ByteArray := prog_1_method_24_code
def yX5_count : MethodName := ⟨RX5, "count", "(I)I"⟩
abbrev cX5_countOfSearch : ByteArray := prog_1_method_25_code
def yX5_countOfSearch : MethodName := ⟨RX5, "countOfSearch", "(I)I"⟩
abbrev cX5_prepareForChange : ByteArray := prog_1_method_26_code
def yX5_prepareForChange : MethodName := ⟨RX5, "prepareForChange", "()V"⟩
abbrev cX5_goThrough : ByteArray := prog_1_method_27_code
def yX5_goThrough : MethodName := ⟨RX5, "goThrough", "(IIZ)I"⟩
abbrev cX5_bestFrom : ByteArray := prog_1_method_28_code
def yX5_bestFrom : MethodName := ⟨RX5, "bestFrom", "(LBranchedSums$Bag;III)I"⟩
abbrev cX5_isWithin : ByteArray := prog_1_method_29_code
def yX5_isWithin : MethodName := ⟨RX5, "isWithin", "(III)Z"⟩
abbrev cX5_has : ByteArray := prog_1_method_30_code
def yX5_has : MethodName := ⟨RX5, "has", "(II)Z"⟩
abbrev cX5_at : ByteArray := prog_1_method_31_code
def yX5_at : MethodName := ⟨RX5, "at", "([II)I"⟩
abbrev cX5_put : ByteArray := prog_1_method_32_code
def yX5_put : MethodName := ⟨RX5, "put", "([III)V"⟩
abbrev cX5_sumOf : ByteArray := prog_1_method_33_code
def yX5_sumOf : MethodName := ⟨RX5, "sumOf", "([II)I"⟩
abbrev cX5_copyRow : ByteArray := prog_1_method_34_code
def yX5_copyRow : MethodName := ⟨RX5, "copyRow", "([I[I)V"⟩
def RX6 : String := "BranchedSumsModel"
def TX6 : u_T := fun k => match k with
  | 0 => ("BranchedSumsModel", "now", "[I", true)
  | 1 => ("BranchedSumsModel", "then", "[I", true)
  | 2 => ("BranchedSumsModel", "past", "[I", true)
  | 3 => ("BranchedSumsModel", "kept", "I", false)
  | 4 => ("BranchedSumsModel", "snapshot", "[I", true)
  | 5 => ("BranchedSumsModel", "isFilled", "Z", false)
  | 6 => ("BranchedSumsModel", "text", "[I", true)
  | 7 => ("BranchedSumsModel", "typed", "I", false)
  | 8 => ("BranchedSumsModel", "at", "I", false)
  | 9 => ("BranchedSumsModel", "value", "I", false)
  | 10 => ("BranchedSumsModel", "told", "[I", true)
  | 11 => ("BranchedSumsModel", "tolds", "I", false)
  | _ => ("BranchedSumsModel", "sorted", "[I", true)
def tyX6 : Nat → FieldType := fun k => match k with
  | 0 => .array .int
  | 1 => .array .int
  | 2 => .array .int
  | 3 => .int
  | 4 => .array .int
  | 5 => .boolean
  | 6 => .array .int
  | 7 => .int
  | 8 => .int
  | 9 => .int
  | 10 => .array .int
  | 11 => .int
  | _ => .array .int
abbrev wsX60 : List Cond := u_ws RX6 TX6 13
theorem nmX6 : ∀ a, a < 13 → ∀ b, b < 13 → a ≠ b → (TX6 a).2.1 ≠ (TX6 b).2.1 := by decide +kernel
theorem tyX6_ok : ∀ k, k < 13 → parseFieldDescriptor (TX6 k).2.2.1 = some (tyX6 k) := by decide +kernel
abbrev cX6_init : ByteArray := prog_8_method_1_code
def yX6_init : MethodName := ⟨RX6, "<init>", "()V"⟩
abbrev cX6_in : ByteArray := prog_8_method_3_code
def yX6_in : MethodName := ⟨RX6, "in", "(III)Z"⟩
abbrev cX6_isThing : ByteArray := prog_8_method_4_code
def yX6_isThing : MethodName := ⟨RX6, "isThing", "(I)Z"⟩
abbrev cX6_isNode : ByteArray := prog_8_method_5_code
def yX6_isNode : MethodName := ⟨RX6, "isNode", "(I)Z"⟩
abbrev cX6_ones : ByteArray := prog_8_method_6_code
def yX6_ones : MethodName := ⟨RX6, "ones", "(I)I"⟩
abbrev cX6_copies : ByteArray := prog_8_method_7_code
def yX6_copies : MethodName := ⟨RX6, "copies", "([II[II)V"⟩
abbrev cX6_records : ByteArray := prog_8_method_8_code
def yX6_records : MethodName := ⟨RX6, "records", "()V"⟩
abbrev cX6_undo : ByteArray := prog_8_method_9_code
def yX6_undo : MethodName := ⟨RX6, "undo", "()I"⟩
abbrev cX6_keep : ByteArray := prog_8_method_10_code
def yX6_keep : MethodName := ⟨RX6, "keep", "()I"⟩
abbrev cX6_restore : ByteArray := prog_8_method_11_code
def yX6_restore : MethodName := ⟨RX6, "restore", "()I"⟩
abbrev cX6_place : ByteArray := prog_8_method_12_code
def yX6_place : MethodName := ⟨RX6, "place", "([II)I"⟩
abbrev cX6_sorts : ByteArray := prog_8_method_13_code
def yX6_sorts : MethodName := ⟨RX6, "sorts", "()V"⟩
abbrev cX6_sum : ByteArray := prog_8_method_14_code
def yX6_sum : MethodName := ⟨RX6, "sum", "([III)I"⟩
abbrev cX6_isPossible : ByteArray := prog_8_method_15_code
def yX6_isPossible : MethodName := ⟨RX6, "isPossible", "([II)Z"⟩
abbrev cX6_free : ByteArray := prog_8_method_16_code
def yX6_free : MethodName := ⟨RX6, "free", "([III)I"⟩
abbrev cX6_split : ByteArray := prog_8_method_17_code
def yX6_split : MethodName := ⟨RX6, "split", "([III)I"⟩
abbrev cX6_bound : ByteArray := prog_8_method_18_code
def yX6_bound : MethodName := ⟨RX6, "bound", "([III)I"⟩
abbrev cX6_heel : ByteArray := prog_8_method_19_code
def yX6_heel : MethodName := ⟨RX6, "heel", "([III)I"⟩
abbrev cX6_first : ByteArray := prog_8_method_20_code
def yX6_first : MethodName := ⟨RX6, "first", "([II)I"⟩
abbrev cX6_byParts : ByteArray := prog_8_method_21_code
def yX6_byParts : MethodName := ⟨RX6, "byParts", "([III)I"⟩
abbrev cX6_heaviest : ByteArray := prog_8_method_22_code
def yX6_heaviest : MethodName := ⟨RX6, "heaviest", "([II)I"⟩
abbrev cX6_child : ByteArray := prog_8_method_23_code
def yX6_child : MethodName := ⟨RX6, "child", "([III)I"⟩
abbrev cX6_byTrials : ByteArray := prog_8_method_24_code
def yX6_byTrials : MethodName := ⟨RX6, "byTrials", "([III)I"⟩
abbrev cX6_branch : ByteArray := prog_8_method_25_code
def yX6_branch : MethodName := ⟨RX6, "branch", "([IIII)I"⟩
abbrev cX6_of : ByteArray := prog_8_method_26_code
def yX6_of : MethodName := ⟨RX6, "of", "([III)I"⟩
abbrev cX6_many : ByteArray := prog_8_method_27_code
def yX6_many : MethodName := ⟨RX6, "many", "([II)I"⟩
abbrev cX6_makes : ByteArray := prog_8_method_28_code
def yX6_makes : MethodName := ⟨RX6, "makes", "([IIIZ)V"⟩
abbrev cX6_taken : ByteArray := prog_8_method_29_code
def yX6_taken : MethodName := ⟨RX6, "taken", "([II)I"⟩
abbrev cX6_takes : ByteArray := prog_8_method_30_code
def yX6_takes : MethodName := ⟨RX6, "takes", "([II)I"⟩
abbrev cX6_goesOn : ByteArray := prog_8_method_31_code
def yX6_goesOn : MethodName := ⟨RX6, "goesOn", "()Z"⟩
abbrev cX6_forgets : ByteArray := prog_8_method_32_code
def yX6_forgets : MethodName := ⟨RX6, "forgets", "()V"⟩
abbrev cX6_adds : ByteArray := prog_8_method_33_code
def yX6_adds : MethodName := ⟨RX6, "adds", "(II)I"⟩
abbrev cX6_add : ByteArray := prog_8_method_34_code
def yX6_add : MethodName := ⟨RX6, "add", "(II)I"⟩
abbrev cX6_bars : ByteArray := prog_8_method_35_code
def yX6_bars : MethodName := ⟨RX6, "bars", "(IIZ)V"⟩
abbrev cX6_addAll : ByteArray := prog_8_method_36_code
def yX6_addAll : MethodName := ⟨RX6, "addAll", "()I"⟩
abbrev cX6_remove : ByteArray := prog_8_method_37_code
def yX6_remove : MethodName := ⟨RX6, "remove", "(I)I"⟩
abbrev cX6_pairs : ByteArray := prog_8_method_38_code
def yX6_pairs : MethodName := ⟨RX6, "pairs", "()I"⟩
abbrev cX6_bar : ByteArray := prog_8_method_39_code
def yX6_bar : MethodName := ⟨RX6, "bar", "(IIZ)I"⟩
abbrev cX6_setRoom : ByteArray := prog_8_method_40_code
def yX6_setRoom : MethodName := ⟨RX6, "setRoom", "(I)I"⟩
abbrev cX6_set : ByteArray := prog_8_method_41_code
def yX6_set : MethodName := ⟨RX6, "set", "(II)I"⟩
abbrev cX6_begin : ByteArray := prog_8_method_42_code
def yX6_begin : MethodName := ⟨RX6, "begin", "()I"⟩
abbrev cX6_walks : ByteArray := prog_8_method_43_code
def yX6_walks : MethodName := ⟨RX6, "walks", "(IIZ)I"⟩
abbrev cX6_step : ByteArray := prog_8_method_44_code
def yX6_step : MethodName := ⟨RX6, "step", "(I)I"⟩
abbrev cX6_dive : ByteArray := prog_8_method_45_code
def yX6_dive : MethodName := ⟨RX6, "dive", "()I"⟩
abbrev cX6_giveUp : ByteArray := prog_8_method_46_code
def yX6_giveUp : MethodName := ⟨RX6, "giveUp", "()I"⟩
abbrev cX6_type : ByteArray := prog_8_method_47_code
def yX6_type : MethodName := ⟨RX6, "type", "(C)I"⟩
abbrev cX6_clearText : ByteArray := prog_8_method_48_code
def yX6_clearText : MethodName := ⟨RX6, "clearText", "()I"⟩
abbrev cX6_isAt : ByteArray := prog_8_method_49_code
def yX6_isAt : MethodName := ⟨RX6, "isAt", "(II)Z"⟩
abbrev cX6_isNumber : ByteArray := prog_8_method_50_code
def yX6_isNumber : MethodName := ⟨RX6, "isNumber", "(II)Z"⟩
abbrev cX6_isPart : ByteArray := prog_8_method_51_code
def yX6_isPart : MethodName := ⟨RX6, "isPart", "()Z"⟩
abbrev cX6_isText : ByteArray := prog_8_method_52_code
def yX6_isText : MethodName := ⟨RX6, "isText", "()Z"⟩
abbrev cX6_thing : ByteArray := prog_8_method_53_code
def yX6_thing : MethodName := ⟨RX6, "thing", "(II)I"⟩
abbrev cX6_node : ByteArray := prog_8_method_54_code
def yX6_node : MethodName := ⟨RX6, "node", "(II)I"⟩
abbrev cX6_next : ByteArray := prog_8_method_55_code
def yX6_next : MethodName := ⟨RX6, "next", "()I"⟩
abbrev cX6_branchOf : ByteArray := prog_8_method_56_code
def yX6_branchOf : MethodName := ⟨RX6, "branchOf", "(II)I"⟩
abbrev cX6_wrong : ByteArray := prog_8_method_57_code
def yX6_wrong : MethodName := ⟨RX6, "wrong", "(II)I"⟩
abbrev cX6_boundOf : ByteArray := prog_8_method_58_code
def yX6_boundOf : MethodName := ⟨RX6, "boundOf", "(II)I"⟩
abbrev cX6_heelOf : ByteArray := prog_8_method_59_code
def yX6_heelOf : MethodName := ⟨RX6, "heelOf", "(II)I"⟩
abbrev cX6_bestSum : ByteArray := prog_8_method_60_code
def yX6_bestSum : MethodName := ⟨RX6, "bestSum", "()I"⟩
abbrev cX6_gap : ByteArray := prog_8_method_61_code
def yX6_gap : MethodName := ⟨RX6, "gap", "()I"⟩
abbrev cX6_ofSearch : ByteArray := prog_8_method_62_code
def yX6_ofSearch : MethodName := ⟨RX6, "ofSearch", "(I)I"⟩
abbrev cX6_count : ByteArray := prog_8_method_63_code
def yX6_count : MethodName := ⟨RX6, "count", "(I)I"⟩
def RJ6 : String := "java/lang/Integer"
def TJ6 : u_T := fun k => match k with
  | _ => ("", "", "", false)
def tyJ6 : Nat → FieldType := fun k => match k with
  | _ => .int
abbrev wsJ60 : List Cond := u_ws RJ6 TJ6 0
theorem nmJ6 : ∀ a, a < 0 → ∀ b, b < 0 → a ≠ b → (TJ6 a).2.1 ≠ (TJ6 b).2.1 := by decide +kernel
theorem tyJ6_ok : ∀ k, k < 0 → parseFieldDescriptor (TJ6 k).2.2.1 = some (tyJ6 k) := by decide +kernel
abbrev cJ6_bitCount_0f7a4 : ByteArray := prog_9_method_49_code
def yJ6_bitCount_0f7a4 : MethodName := ⟨RJ6, "bitCount", "(I)I"⟩
def RJ9 : String := "java/lang/Math"
def TJ9 : u_T := fun k => match k with
  | _ => ("", "", "", false)
def tyJ9 : Nat → FieldType := fun k => match k with
  | _ => .int
abbrev wsJ90 : List Cond := u_ws RJ9 TJ9 0
theorem nmJ9 : ∀ a, a < 0 → ∀ b, b < 0 → a ≠ b → (TJ9 a).2.1 ≠ (TJ9 b).2.1 := by decide +kernel
theorem tyJ9_ok : ∀ k, k < 0 → parseFieldDescriptor (TJ9 k).2.2.1 = some (tyJ9 k) := by decide +kernel
abbrev cJ9_max_7cf53 : ByteArray := prog_10_method_65_code
def yJ9_max_7cf53 : MethodName := ⟨RJ9, "max", "(II)I"⟩
abbrev cJ9_min_7cf53 : ByteArray := prog_10_method_69_code
def yJ9_min_7cf53 : MethodName := ⟨RJ9, "min", "(II)I"⟩
def RJ10 : String := "java/lang/System"
def TJ10 : u_T := fun k => match k with
  | _ => ("", "", "", false)
def tyJ10 : Nat → FieldType := fun k => match k with
  | _ => .int
abbrev wsJ100 : List Cond := u_ws RJ10 TJ10 0
theorem nmJ10 : ∀ a, a < 0 → ∀ b, b < 0 → a ≠ b → (TJ10 a).2.1 ≠ (TJ10 b).2.1 := by decide +kernel
theorem tyJ10_ok : ∀ k, k < 0 → parseFieldDescriptor (TJ10 k).2.2.1 = some (tyJ10 k) := by decide +kernel
def RL : String := "BranchedSumsLaw"
abbrev cL_law : ByteArray := code
def yL_law : MethodName := ⟨RL, "law", "([I)Z"⟩
abbrev vwCl : List vw_C := [(RX0, TX0, 6), (RX1, TX1, 3), (RX2, TX2, 2), (RX3, TX3, 7), (RX4, TX4, 7), (RX5, TX5, 6), (RX6, TX6, 13)]
