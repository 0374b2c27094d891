section
-- ===== PART A: goes FIRST, ahead of the names: the tables' words, and 'selects' of the private methods out of them =====
/-- a private method of a class that the tables say can be made, by its rows of tables_1 -/
def lw_okq (q : MethodName × Nat) : Prop := (q.1.cls ≠ "java/lang/invoke/MethodHandle" ∧ q.1.cls ≠ "java/lang/invoke/VarHandle") ∧ Cond.instantiable q.1.cls q.2 ∈ tables_1 ∧ Cond.privateMethod q.1 ∈ tables_1 ∧ Cond.instanceMethod q.1 ∈ tables_1
theorem lw_p0 : lw_okq (⟨"BranchedSums$Nodes", "part", "(II)I"⟩, 2) := ⟨⟨by decide +kernel, by decide +kernel⟩, List.mem_of_getElem? (i := 58) (by decide +kernel), List.mem_of_getElem? (i := 195) (by decide +kernel), List.mem_of_getElem? (i := 196) (by decide +kernel)⟩
theorem lw_p1 : lw_okq (⟨"BranchedSums$Nodes", "goesBefore", "(III)Z"⟩, 2) := ⟨⟨by decide +kernel, by decide +kernel⟩, List.mem_of_getElem? (i := 58) (by decide +kernel), List.mem_of_getElem? (i := 199) (by decide +kernel), List.mem_of_getElem? (i := 200) (by decide +kernel)⟩
theorem lw_p2 : lw_okq (⟨"BranchedSums", "prepareForChange", "()V"⟩, 6) := ⟨⟨by decide +kernel, by decide +kernel⟩, List.mem_of_getElem? (i := 12) (by decide +kernel), List.mem_of_getElem? (i := 207) (by decide +kernel), List.mem_of_getElem? (i := 208) (by decide +kernel)⟩
theorem lw_p3 : lw_okq (⟨"BranchedSums$History", "stateAt", "(I)LBranchedSums$State;"⟩, 3) := ⟨⟨by decide +kernel, by decide +kernel⟩, List.mem_of_getElem? (i := 103) (by decide +kernel), List.mem_of_getElem? (i := 215) (by decide +kernel), List.mem_of_getElem? (i := 216) (by decide +kernel)⟩
theorem lw_p4 : lw_okq (⟨"BranchedSums$Bag", "sortByRatio", "()V"⟩, 6) := ⟨⟨by decide +kernel, by decide +kernel⟩, List.mem_of_getElem? (i := 26) (by decide +kernel), List.mem_of_getElem? (i := 266) (by decide +kernel), List.mem_of_getElem? (i := 267) (by decide +kernel)⟩
theorem lw_p5 : lw_okq (⟨"BranchedSums$Bag", "isAhead", "(II)Z"⟩, 6) := ⟨⟨by decide +kernel, by decide +kernel⟩, List.mem_of_getElem? (i := 26) (by decide +kernel), List.mem_of_getElem? (i := 270) (by decide +kernel), List.mem_of_getElem? (i := 271) (by decide +kernel)⟩
theorem lw_p6 : lw_okq (⟨"BranchedSums$Text", "readThing", "()Z"⟩, 7) := ⟨⟨by decide +kernel, by decide +kernel⟩, List.mem_of_getElem? (i := 123) (by decide +kernel), List.mem_of_getElem? (i := 282) (by decide +kernel), List.mem_of_getElem? (i := 283) (by decide +kernel)⟩
theorem lw_p7 : lw_okq (⟨"BranchedSums$Text", "takeNumber", "(II)I"⟩, 7) := ⟨⟨by decide +kernel, by decide +kernel⟩, List.mem_of_getElem? (i := 123) (by decide +kernel), List.mem_of_getElem? (i := 286) (by decide +kernel), List.mem_of_getElem? (i := 287) (by decide +kernel)⟩
theorem lw_p8 : lw_okq (⟨"BranchedSums$Text", "characterHere", "()C"⟩, 7) := ⟨⟨by decide +kernel, by decide +kernel⟩, List.mem_of_getElem? (i := 123) (by decide +kernel), List.mem_of_getElem? (i := 290) (by decide +kernel), List.mem_of_getElem? (i := 291) (by decide +kernel)⟩
theorem lw_p9 : lw_okq (⟨"BranchedSums$Text", "take", "(C)Z"⟩, 7) := ⟨⟨by decide +kernel, by decide +kernel⟩, List.mem_of_getElem? (i := 123) (by decide +kernel), List.mem_of_getElem? (i := 295) (by decide +kernel), List.mem_of_getElem? (i := 296) (by decide +kernel)⟩
theorem lw_p10 : lw_okq (⟨"BranchedSums$Bag", "barredBy", "(I)I"⟩, 6) := ⟨⟨by decide +kernel, by decide +kernel⟩, List.mem_of_getElem? (i := 26) (by decide +kernel), List.mem_of_getElem? (i := 362) (by decide +kernel), List.mem_of_getElem? (i := 363) (by decide +kernel)⟩
theorem lw_p11 : lw_okq (⟨"BranchedSums$Bag", "freeThings", "(II)I"⟩, 6) := ⟨⟨by decide +kernel, by decide +kernel⟩, List.mem_of_getElem? (i := 26) (by decide +kernel), List.mem_of_getElem? (i := 366) (by decide +kernel), List.mem_of_getElem? (i := 367) (by decide +kernel)⟩
theorem lw_p12 : lw_okq (⟨"BranchedSums$Bag", "wholeThings", "(II)I"⟩, 6) := ⟨⟨by decide +kernel, by decide +kernel⟩, List.mem_of_getElem? (i := 26) (by decide +kernel), List.mem_of_getElem? (i := 370) (by decide +kernel), List.mem_of_getElem? (i := 371) (by decide +kernel)⟩
theorem lw_p13 : lw_okq (⟨"BranchedSums$Bag", "firstByRatio", "(I)I"⟩, 6) := ⟨⟨by decide +kernel, by decide +kernel⟩, List.mem_of_getElem? (i := 26) (by decide +kernel), List.mem_of_getElem? (i := 374) (by decide +kernel), List.mem_of_getElem? (i := 375) (by decide +kernel)⟩
theorem lw_p14 : lw_okq (⟨"BranchedSums$Bag", "shareOf", "(II)I"⟩, 6) := ⟨⟨by decide +kernel, by decide +kernel⟩, List.mem_of_getElem? (i := 26) (by decide +kernel), List.mem_of_getElem? (i := 378) (by decide +kernel), List.mem_of_getElem? (i := 379) (by decide +kernel)⟩
theorem lw_p15 : lw_okq (⟨"BranchedSums", "goThrough", "(IIZ)I"⟩, 6) := ⟨⟨by decide +kernel, by decide +kernel⟩, List.mem_of_getElem? (i := 12) (by decide +kernel), List.mem_of_getElem? (i := 391) (by decide +kernel), List.mem_of_getElem? (i := 392) (by decide +kernel)⟩
def lw_privs_1 : List (MethodName × Nat) := [(⟨"BranchedSums$Nodes", "part", "(II)I"⟩, 2), (⟨"BranchedSums$Nodes", "goesBefore", "(III)Z"⟩, 2), (⟨"BranchedSums", "prepareForChange", "()V"⟩, 6), (⟨"BranchedSums$History", "stateAt", "(I)LBranchedSums$State;"⟩, 3), (⟨"BranchedSums$Bag", "sortByRatio", "()V"⟩, 6), (⟨"BranchedSums$Bag", "isAhead", "(II)Z"⟩, 6), (⟨"BranchedSums$Text", "readThing", "()Z"⟩, 7), (⟨"BranchedSums$Text", "takeNumber", "(II)I"⟩, 7), (⟨"BranchedSums$Text", "characterHere", "()C"⟩, 7), (⟨"BranchedSums$Text", "take", "(C)Z"⟩, 7), (⟨"BranchedSums$Bag", "barredBy", "(I)I"⟩, 6), (⟨"BranchedSums$Bag", "freeThings", "(II)I"⟩, 6), (⟨"BranchedSums$Bag", "wholeThings", "(II)I"⟩, 6), (⟨"BranchedSums$Bag", "firstByRatio", "(I)I"⟩, 6), (⟨"BranchedSums$Bag", "shareOf", "(II)I"⟩, 6), (⟨"BranchedSums", "goThrough", "(IIZ)I"⟩, 6)]
theorem lw_r1 : ∀ q ∈ lw_privs_1, lw_okq q := List.forall_mem_cons.mpr ⟨lw_p0, List.forall_mem_cons.mpr ⟨lw_p1, List.forall_mem_cons.mpr ⟨lw_p2, List.forall_mem_cons.mpr ⟨lw_p3, List.forall_mem_cons.mpr ⟨lw_p4, List.forall_mem_cons.mpr ⟨lw_p5, List.forall_mem_cons.mpr ⟨lw_p6, List.forall_mem_cons.mpr ⟨lw_p7, List.forall_mem_cons.mpr ⟨lw_p8, List.forall_mem_cons.mpr ⟨lw_p9, List.forall_mem_cons.mpr ⟨lw_p10, List.forall_mem_cons.mpr ⟨lw_p11, List.forall_mem_cons.mpr ⟨lw_p12, List.forall_mem_cons.mpr ⟨lw_p13, List.forall_mem_cons.mpr ⟨lw_p14, List.forall_mem_cons.mpr ⟨lw_p15, fun _ h => absurd h List.not_mem_nil⟩⟩⟩⟩⟩⟩⟩⟩⟩⟩⟩⟩⟩⟩⟩⟩
theorem lw_p16 : lw_okq (⟨"BranchedSums$State", "resultFor", "(I)I"⟩, 7) := ⟨⟨by decide +kernel, by decide +kernel⟩, List.mem_of_getElem? (i := 20) (by decide +kernel), List.mem_of_getElem? (i := 400) (by decide +kernel), List.mem_of_getElem? (i := 401) (by decide +kernel)⟩
theorem lw_p17 : lw_okq (⟨"BranchedSums$Bag", "heaviest", "(I)I"⟩, 6) := ⟨⟨by decide +kernel, by decide +kernel⟩, List.mem_of_getElem? (i := 26) (by decide +kernel), List.mem_of_getElem? (i := 422) (by decide +kernel), List.mem_of_getElem? (i := 423) (by decide +kernel)⟩
theorem lw_p18 : lw_okq (⟨"BranchedSums$Bag", "bestByTrials", "(III)I"⟩, 6) := ⟨⟨by decide +kernel, by decide +kernel⟩, List.mem_of_getElem? (i := 26) (by decide +kernel), List.mem_of_getElem? (i := 426) (by decide +kernel), List.mem_of_getElem? (i := 427) (by decide +kernel)⟩
theorem lw_p19 : lw_okq (⟨"BranchedSums$State", "makeChild", "(IIII)V"⟩, 7) := ⟨⟨by decide +kernel, by decide +kernel⟩, List.mem_of_getElem? (i := 20) (by decide +kernel), List.mem_of_getElem? (i := 434) (by decide +kernel), List.mem_of_getElem? (i := 435) (by decide +kernel)⟩
theorem lw_p20 : lw_okq (⟨"BranchedSums", "countOfSearch", "(I)I"⟩, 6) := ⟨⟨by decide +kernel, by decide +kernel⟩, List.mem_of_getElem? (i := 12) (by decide +kernel), List.mem_of_getElem? (i := 554) (by decide +kernel), List.mem_of_getElem? (i := 555) (by decide +kernel)⟩
theorem lw_p21 : lw_okq (⟨"BranchedSumsModel", "records", "()V"⟩, 13) := ⟨⟨by decide +kernel, by decide +kernel⟩, List.mem_of_getElem? (i := 562) (by decide +kernel), List.mem_of_getElem? (i := 623) (by decide +kernel), List.mem_of_getElem? (i := 624) (by decide +kernel)⟩
theorem lw_p22 : lw_okq (⟨"BranchedSumsModel", "goesOn", "()Z"⟩, 13) := ⟨⟨by decide +kernel, by decide +kernel⟩, List.mem_of_getElem? (i := 562) (by decide +kernel), List.mem_of_getElem? (i := 634) (by decide +kernel), List.mem_of_getElem? (i := 635) (by decide +kernel)⟩
theorem lw_p23 : lw_okq (⟨"BranchedSumsModel", "forgets", "()V"⟩, 13) := ⟨⟨by decide +kernel, by decide +kernel⟩, List.mem_of_getElem? (i := 562) (by decide +kernel), List.mem_of_getElem? (i := 644) (by decide +kernel), List.mem_of_getElem? (i := 645) (by decide +kernel)⟩
theorem lw_p24 : lw_okq (⟨"BranchedSumsModel", "adds", "(II)I"⟩, 13) := ⟨⟨by decide +kernel, by decide +kernel⟩, List.mem_of_getElem? (i := 562) (by decide +kernel), List.mem_of_getElem? (i := 648) (by decide +kernel), List.mem_of_getElem? (i := 649) (by decide +kernel)⟩
theorem lw_p25 : lw_okq (⟨"BranchedSumsModel", "isText", "()Z"⟩, 13) := ⟨⟨by decide +kernel, by decide +kernel⟩, List.mem_of_getElem? (i := 562) (by decide +kernel), List.mem_of_getElem? (i := 656) (by decide +kernel), List.mem_of_getElem? (i := 657) (by decide +kernel)⟩
theorem lw_p26 : lw_okq (⟨"BranchedSumsModel", "isPart", "()Z"⟩, 13) := ⟨⟨by decide +kernel, by decide +kernel⟩, List.mem_of_getElem? (i := 562) (by decide +kernel), List.mem_of_getElem? (i := 660) (by decide +kernel), List.mem_of_getElem? (i := 661) (by decide +kernel)⟩
theorem lw_p27 : lw_okq (⟨"BranchedSumsModel", "isNumber", "(II)Z"⟩, 13) := ⟨⟨by decide +kernel, by decide +kernel⟩, List.mem_of_getElem? (i := 562) (by decide +kernel), List.mem_of_getElem? (i := 664) (by decide +kernel), List.mem_of_getElem? (i := 665) (by decide +kernel)⟩
theorem lw_p28 : lw_okq (⟨"BranchedSumsModel", "isAt", "(II)Z"⟩, 13) := ⟨⟨by decide +kernel, by decide +kernel⟩, List.mem_of_getElem? (i := 562) (by decide +kernel), List.mem_of_getElem? (i := 668) (by decide +kernel), List.mem_of_getElem? (i := 669) (by decide +kernel)⟩
theorem lw_p29 : lw_okq (⟨"BranchedSumsModel", "bars", "(IIZ)V"⟩, 13) := ⟨⟨by decide +kernel, by decide +kernel⟩, List.mem_of_getElem? (i := 562) (by decide +kernel), List.mem_of_getElem? (i := 672) (by decide +kernel), List.mem_of_getElem? (i := 673) (by decide +kernel)⟩
theorem lw_p30 : lw_okq (⟨"BranchedSumsModel", "isThing", "(I)Z"⟩, 13) := ⟨⟨by decide +kernel, by decide +kernel⟩, List.mem_of_getElem? (i := 562) (by decide +kernel), List.mem_of_getElem? (i := 680) (by decide +kernel), List.mem_of_getElem? (i := 681) (by decide +kernel)⟩
theorem lw_p31 : lw_okq (⟨"BranchedSumsModel", "pairs", "()I"⟩, 13) := ⟨⟨by decide +kernel, by decide +kernel⟩, List.mem_of_getElem? (i := 562) (by decide +kernel), List.mem_of_getElem? (i := 688) (by decide +kernel), List.mem_of_getElem? (i := 689) (by decide +kernel)⟩
def lw_privs_2 : List (MethodName × Nat) := [(⟨"BranchedSums$State", "resultFor", "(I)I"⟩, 7), (⟨"BranchedSums$Bag", "heaviest", "(I)I"⟩, 6), (⟨"BranchedSums$Bag", "bestByTrials", "(III)I"⟩, 6), (⟨"BranchedSums$State", "makeChild", "(IIII)V"⟩, 7), (⟨"BranchedSums", "countOfSearch", "(I)I"⟩, 6), (⟨"BranchedSumsModel", "records", "()V"⟩, 13), (⟨"BranchedSumsModel", "goesOn", "()Z"⟩, 13), (⟨"BranchedSumsModel", "forgets", "()V"⟩, 13), (⟨"BranchedSumsModel", "adds", "(II)I"⟩, 13), (⟨"BranchedSumsModel", "isText", "()Z"⟩, 13), (⟨"BranchedSumsModel", "isPart", "()Z"⟩, 13), (⟨"BranchedSumsModel", "isNumber", "(II)Z"⟩, 13), (⟨"BranchedSumsModel", "isAt", "(II)Z"⟩, 13), (⟨"BranchedSumsModel", "bars", "(IIZ)V"⟩, 13), (⟨"BranchedSumsModel", "isThing", "(I)Z"⟩, 13), (⟨"BranchedSumsModel", "pairs", "()I"⟩, 13)]
theorem lw_r2 : ∀ q ∈ lw_privs_2, lw_okq q := List.forall_mem_cons.mpr ⟨lw_p16, List.forall_mem_cons.mpr ⟨lw_p17, List.forall_mem_cons.mpr ⟨lw_p18, List.forall_mem_cons.mpr ⟨lw_p19, List.forall_mem_cons.mpr ⟨lw_p20, List.forall_mem_cons.mpr ⟨lw_p21, List.forall_mem_cons.mpr ⟨lw_p22, List.forall_mem_cons.mpr ⟨lw_p23, List.forall_mem_cons.mpr ⟨lw_p24, List.forall_mem_cons.mpr ⟨lw_p25, List.forall_mem_cons.mpr ⟨lw_p26, List.forall_mem_cons.mpr ⟨lw_p27, List.forall_mem_cons.mpr ⟨lw_p28, List.forall_mem_cons.mpr ⟨lw_p29, List.forall_mem_cons.mpr ⟨lw_p30, List.forall_mem_cons.mpr ⟨lw_p31, fun _ h => absurd h List.not_mem_nil⟩⟩⟩⟩⟩⟩⟩⟩⟩⟩⟩⟩⟩⟩⟩⟩
theorem lw_p32 : lw_okq (⟨"BranchedSumsModel", "sorts", "()V"⟩, 13) := ⟨⟨by decide +kernel, by decide +kernel⟩, List.mem_of_getElem? (i := 562) (by decide +kernel), List.mem_of_getElem? (i := 707) (by decide +kernel), List.mem_of_getElem? (i := 708) (by decide +kernel)⟩
theorem lw_p33 : lw_okq (⟨"BranchedSumsModel", "makes", "([IIIZ)V"⟩, 13) := ⟨⟨by decide +kernel, by decide +kernel⟩, List.mem_of_getElem? (i := 562) (by decide +kernel), List.mem_of_getElem? (i := 714) (by decide +kernel), List.mem_of_getElem? (i := 715) (by decide +kernel)⟩
theorem lw_p34 : lw_okq (⟨"BranchedSumsModel", "child", "([III)I"⟩, 13) := ⟨⟨by decide +kernel, by decide +kernel⟩, List.mem_of_getElem? (i := 562) (by decide +kernel), List.mem_of_getElem? (i := 718) (by decide +kernel), List.mem_of_getElem? (i := 719) (by decide +kernel)⟩
theorem lw_p35 : lw_okq (⟨"BranchedSumsModel", "bound", "([III)I"⟩, 13) := ⟨⟨by decide +kernel, by decide +kernel⟩, List.mem_of_getElem? (i := 562) (by decide +kernel), List.mem_of_getElem? (i := 728) (by decide +kernel), List.mem_of_getElem? (i := 729) (by decide +kernel)⟩
theorem lw_p36 : lw_okq (⟨"BranchedSumsModel", "walks", "(IIZ)I"⟩, 13) := ⟨⟨by decide +kernel, by decide +kernel⟩, List.mem_of_getElem? (i := 562) (by decide +kernel), List.mem_of_getElem? (i := 739) (by decide +kernel), List.mem_of_getElem? (i := 740) (by decide +kernel)⟩
theorem lw_p37 : lw_okq (⟨"BranchedSumsModel", "takes", "([II)I"⟩, 13) := ⟨⟨by decide +kernel, by decide +kernel⟩, List.mem_of_getElem? (i := 562) (by decide +kernel), List.mem_of_getElem? (i := 746) (by decide +kernel), List.mem_of_getElem? (i := 747) (by decide +kernel)⟩
theorem lw_p38 : lw_okq (⟨"BranchedSumsModel", "heel", "([III)I"⟩, 13) := ⟨⟨by decide +kernel, by decide +kernel⟩, List.mem_of_getElem? (i := 562) (by decide +kernel), List.mem_of_getElem? (i := 750) (by decide +kernel), List.mem_of_getElem? (i := 751) (by decide +kernel)⟩
theorem lw_p39 : lw_okq (⟨"BranchedSumsModel", "branch", "([IIII)I"⟩, 13) := ⟨⟨by decide +kernel, by decide +kernel⟩, List.mem_of_getElem? (i := 562) (by decide +kernel), List.mem_of_getElem? (i := 754) (by decide +kernel), List.mem_of_getElem? (i := 755) (by decide +kernel)⟩
theorem lw_p40 : lw_okq (⟨"BranchedSumsModel", "byParts", "([III)I"⟩, 13) := ⟨⟨by decide +kernel, by decide +kernel⟩, List.mem_of_getElem? (i := 562) (by decide +kernel), List.mem_of_getElem? (i := 758) (by decide +kernel), List.mem_of_getElem? (i := 759) (by decide +kernel)⟩
theorem lw_p41 : lw_okq (⟨"BranchedSumsModel", "split", "([III)I"⟩, 13) := ⟨⟨by decide +kernel, by decide +kernel⟩, List.mem_of_getElem? (i := 562) (by decide +kernel), List.mem_of_getElem? (i := 762) (by decide +kernel), List.mem_of_getElem? (i := 763) (by decide +kernel)⟩
theorem lw_p42 : lw_okq (⟨"BranchedSumsModel", "first", "([II)I"⟩, 13) := ⟨⟨by decide +kernel, by decide +kernel⟩, List.mem_of_getElem? (i := 562) (by decide +kernel), List.mem_of_getElem? (i := 766) (by decide +kernel), List.mem_of_getElem? (i := 767) (by decide +kernel)⟩
theorem lw_p43 : lw_okq (⟨"BranchedSumsModel", "byTrials", "([III)I"⟩, 13) := ⟨⟨by decide +kernel, by decide +kernel⟩, List.mem_of_getElem? (i := 562) (by decide +kernel), List.mem_of_getElem? (i := 773) (by decide +kernel), List.mem_of_getElem? (i := 774) (by decide +kernel)⟩
theorem lw_p44 : lw_okq (⟨"BranchedSumsModel", "isNode", "(I)Z"⟩, 13) := ⟨⟨by decide +kernel, by decide +kernel⟩, List.mem_of_getElem? (i := 562) (by decide +kernel), List.mem_of_getElem? (i := 802) (by decide +kernel), List.mem_of_getElem? (i := 803) (by decide +kernel)⟩
theorem lw_p45 : lw_okq (⟨"BranchedSumsModel", "wrong", "(II)I"⟩, 13) := ⟨⟨by decide +kernel, by decide +kernel⟩, List.mem_of_getElem? (i := 562) (by decide +kernel), List.mem_of_getElem? (i := 818) (by decide +kernel), List.mem_of_getElem? (i := 819) (by decide +kernel)⟩
theorem lw_p46 : lw_okq (⟨"BranchedSumsModel", "ofSearch", "(I)I"⟩, 13) := ⟨⟨by decide +kernel, by decide +kernel⟩, List.mem_of_getElem? (i := 562) (by decide +kernel), List.mem_of_getElem? (i := 834) (by decide +kernel), List.mem_of_getElem? (i := 835) (by decide +kernel)⟩
theorem lw_p47 : lw_okq (⟨"BranchedSumsModel", "gap", "()I"⟩, 13) := ⟨⟨by decide +kernel, by decide +kernel⟩, List.mem_of_getElem? (i := 562) (by decide +kernel), List.mem_of_getElem? (i := 838) (by decide +kernel), List.mem_of_getElem? (i := 839) (by decide +kernel)⟩
def lw_privs_3 : List (MethodName × Nat) := [(⟨"BranchedSumsModel", "sorts", "()V"⟩, 13), (⟨"BranchedSumsModel", "makes", "([IIIZ)V"⟩, 13), (⟨"BranchedSumsModel", "child", "([III)I"⟩, 13), (⟨"BranchedSumsModel", "bound", "([III)I"⟩, 13), (⟨"BranchedSumsModel", "walks", "(IIZ)I"⟩, 13), (⟨"BranchedSumsModel", "takes", "([II)I"⟩, 13), (⟨"BranchedSumsModel", "heel", "([III)I"⟩, 13), (⟨"BranchedSumsModel", "branch", "([IIII)I"⟩, 13), (⟨"BranchedSumsModel", "byParts", "([III)I"⟩, 13), (⟨"BranchedSumsModel", "split", "([III)I"⟩, 13), (⟨"BranchedSumsModel", "first", "([II)I"⟩, 13), (⟨"BranchedSumsModel", "byTrials", "([III)I"⟩, 13), (⟨"BranchedSumsModel", "isNode", "(I)Z"⟩, 13), (⟨"BranchedSumsModel", "wrong", "(II)I"⟩, 13), (⟨"BranchedSumsModel", "ofSearch", "(I)I"⟩, 13), (⟨"BranchedSumsModel", "gap", "()I"⟩, 13)]
theorem lw_r3 : ∀ q ∈ lw_privs_3, lw_okq q := List.forall_mem_cons.mpr ⟨lw_p32, List.forall_mem_cons.mpr ⟨lw_p33, List.forall_mem_cons.mpr ⟨lw_p34, List.forall_mem_cons.mpr ⟨lw_p35, List.forall_mem_cons.mpr ⟨lw_p36, List.forall_mem_cons.mpr ⟨lw_p37, List.forall_mem_cons.mpr ⟨lw_p38, List.forall_mem_cons.mpr ⟨lw_p39, List.forall_mem_cons.mpr ⟨lw_p40, List.forall_mem_cons.mpr ⟨lw_p41, List.forall_mem_cons.mpr ⟨lw_p42, List.forall_mem_cons.mpr ⟨lw_p43, List.forall_mem_cons.mpr ⟨lw_p44, List.forall_mem_cons.mpr ⟨lw_p45, List.forall_mem_cons.mpr ⟨lw_p46, List.forall_mem_cons.mpr ⟨lw_p47, fun _ h => absurd h List.not_mem_nil⟩⟩⟩⟩⟩⟩⟩⟩⟩⟩⟩⟩⟩⟩⟩⟩
def lw_privs : List (MethodName × Nat) := lw_privs_1 ++ (lw_privs_2 ++ (lw_privs_3))
def lw_tbl : List Cond := k2_sels lw_privs ++ tables_1
theorem lw_privs_ok : ∀ q ∈ lw_privs, lw_okq q := by
  show ∀ q ∈ lw_privs_1 ++ (lw_privs_2 ++ (lw_privs_3)), lw_okq q
  exact List.forall_mem_append.mpr ⟨lw_r1, List.forall_mem_append.mpr ⟨lw_r2, lw_r3⟩⟩
/-! ===== BEGIN printed: names, fields, word lists, decode rows ===== -/
def RX0 : String := "BranchedSums$Bag"
def TX0 : u_T := fun k => match k with
  | 0 => ("BranchedSums$Bag", "worths", "[I", true)
  | 1 => ("BranchedSums$Bag", "weights", "[I", true)
  | 2 => ("BranchedSums$Bag", "bars", "[I", true)
  | 3 => ("BranchedSums$Bag", "byRatio", "[I", true)
  | 4 => ("BranchedSums$Bag", "size", "I", false)
  | _ => ("BranchedSums$Bag", "room", "I", false)
def tyX0 : Nat → FieldType := fun k => match k with
  | 0 => .array .int
  | 1 => .array .int
  | 2 => .array .int
  | 3 => .array .int
  | 4 => .int
  | _ => .int
abbrev wsX00 : List Cond := u_ws RX0 TX0 6
theorem nmX0 : ∀ a, a < 6 → ∀ b, b < 6 → a ≠ b → (TX0 a).2.1 ≠ (TX0 b).2.1 := by decide +kernel
theorem tyX0_ok : ∀ k, k < 6 → parseFieldDescriptor (TX0 k).2.2.1 = some (tyX0 k) := by decide +kernel
abbrev cX0_init : ByteArray := prog_2_method_1_code
def yX0_init : MethodName := ⟨RX0, "<init>", "()V"⟩
abbrev cX0_copyFrom : ByteArray := prog_2_method_2_code
def yX0_copyFrom : MethodName := ⟨RX0, "copyFrom", "(LBranchedSums$Bag;)V"⟩
abbrev cX0_knows : ByteArray := prog_2_method_3_code
def yX0_knows : MethodName := ⟨RX0, "knows", "(I)Z"⟩
abbrev cX0_append : ByteArray := prog_2_method_4_code
def yX0_append : MethodName := ⟨RX0, "append", "(III)V"⟩
abbrev cX0_drop : ByteArray := prog_2_method_5_code
def yX0_drop : MethodName := ⟨RX0, "drop", "(I)V"⟩
abbrev cX0_turnBar : ByteArray := prog_2_method_6_code
def yX0_turnBar : MethodName := ⟨RX0, "turnBar", "(II)V"⟩
abbrev cX0_pairs : ByteArray := prog_2_method_7_code
def yX0_pairs : MethodName := ⟨RX0, "pairs", "()I"⟩
abbrev cX0_sortByRatio : ByteArray := prog_2_method_8_code
def yX0_sortByRatio : MethodName := ⟨RX0, "sortByRatio", "()V"⟩
abbrev cX0_isAhead : ByteArray := prog_2_method_9_code
def yX0_isAhead : MethodName := ⟨RX0, "isAhead", "(II)Z"⟩
abbrev cX0_placeOf : ByteArray := prog_2_method_10_code
def yX0_placeOf : MethodName := ⟨RX0, "placeOf", "(I)I"⟩
abbrev cX0_canFix : ByteArray := prog_2_method_11_code
def yX0_canFix : MethodName := ⟨RX0, "canFix", "(II)Z"⟩
abbrev cX0_isPossible : ByteArray := prog_2_method_12_code
def yX0_isPossible : MethodName := ⟨RX0, "isPossible", "(I)Z"⟩
abbrev cX0_barredBy : ByteArray := prog_2_method_13_code
def yX0_barredBy : MethodName := ⟨RX0, "barredBy", "(I)I"⟩
abbrev cX0_freeThings : ByteArray := prog_2_method_14_code
def yX0_freeThings : MethodName := ⟨RX0, "freeThings", "(II)I"⟩
abbrev cX0_bound : ByteArray := prog_2_method_15_code
def yX0_bound : MethodName := ⟨RX0, "bound", "(II)I"⟩
abbrev cX0_wholeThings : ByteArray := prog_2_method_16_code
def yX0_wholeThings : MethodName := ⟨RX0, "wholeThings", "(II)I"⟩
abbrev cX0_firstByRatio : ByteArray := prog_2_method_17_code
def yX0_firstByRatio : MethodName := ⟨RX0, "firstByRatio", "(I)I"⟩
abbrev cX0_shareOf : ByteArray := prog_2_method_18_code
def yX0_shareOf : MethodName := ⟨RX0, "shareOf", "(II)I"⟩
abbrev cX0_heel : ByteArray := prog_2_method_19_code
def yX0_heel : MethodName := ⟨RX0, "heel", "(II)I"⟩
abbrev cX0_thingToBranch : ByteArray := prog_2_method_20_code
def yX0_thingToBranch : MethodName := ⟨RX0, "thingToBranch", "(III)I"⟩
abbrev cX0_heaviest : ByteArray := prog_2_method_21_code
def yX0_heaviest : MethodName := ⟨RX0, "heaviest", "(I)I"⟩
abbrev cX0_bestByTrials : ByteArray := prog_2_method_22_code
def yX0_bestByTrials : MethodName := ⟨RX0, "bestByTrials", "(III)I"⟩
def RX1 : String := "BranchedSums$History"
def TX1 : u_T := fun k => match k with
  | 0 => ("BranchedSums$History", "ring", "[LBranchedSums$State;", true)
  | 1 => ("BranchedSums$History", "oldest", "I", false)
  | _ => ("BranchedSums$History", "size", "I", false)
def tyX1 : Nat → FieldType := fun k => match k with
  | 0 => .array (.object "BranchedSums$State")
  | 1 => .int
  | _ => .int
abbrev wsX10 : List Cond := u_ws RX1 TX1 3
theorem nmX1 : ∀ a, a < 3 → ∀ b, b < 3 → a ≠ b → (TX1 a).2.1 ≠ (TX1 b).2.1 := by decide +kernel
theorem tyX1_ok : ∀ k, k < 3 → parseFieldDescriptor (TX1 k).2.2.1 = some (tyX1 k) := by decide +kernel
abbrev cX1_init : ByteArray := prog_3_method_1_code
def yX1_init : MethodName := ⟨RX1, "<init>", "()V"⟩
abbrev cX1_push : ByteArray := prog_3_method_2_code
def yX1_push : MethodName := ⟨RX1, "push", "(LBranchedSums$State;)V"⟩
abbrev cX1_pop : ByteArray := prog_3_method_3_code
def yX1_pop : MethodName := ⟨RX1, "pop", "(LBranchedSums$State;)V"⟩
abbrev cX1_stateAt : ByteArray := prog_3_method_4_code
def yX1_stateAt : MethodName := ⟨RX1, "stateAt", "(I)LBranchedSums$State;"⟩
def RX2 : String := "BranchedSums$Nodes"
def TX2 : u_T := fun k => match k with
  | 0 => ("BranchedSums$Nodes", "packed", "[J", true)
  | _ => ("BranchedSums$Nodes", "made", "I", false)
def tyX2 : Nat → FieldType := fun k => match k with
  | 0 => .array .long
  | _ => .int
abbrev wsX20 : List Cond := u_ws RX2 TX2 2
theorem nmX2 : ∀ a, a < 2 → ∀ b, b < 2 → a ≠ b → (TX2 a).2.1 ≠ (TX2 b).2.1 := by decide +kernel
theorem tyX2_ok : ∀ k, k < 2 → parseFieldDescriptor (TX2 k).2.2.1 = some (tyX2 k) := by decide +kernel
abbrev cX2_init : ByteArray := prog_4_method_1_code
def yX2_init : MethodName := ⟨RX2, "<init>", "()V"⟩
abbrev cX2_copyFrom : ByteArray := prog_4_method_2_code
def yX2_copyFrom : MethodName := ⟨RX2, "copyFrom", "(LBranchedSums$Nodes;)V"⟩
abbrev cX2_knows : ByteArray := prog_4_method_3_code
def yX2_knows : MethodName := ⟨RX2, "knows", "(I)Z"⟩
abbrev cX2_append : ByteArray := prog_4_method_4_code
def yX2_append : MethodName := ⟨RX2, "append", "(IIIIII)V"⟩
abbrev cX2_part : ByteArray := prog_4_method_5_code
def yX2_part : MethodName := ⟨RX2, "part", "(II)I"⟩
abbrev cX2_how : ByteArray := prog_4_method_6_code
def yX2_how : MethodName := ⟨RX2, "how", "(I)I"⟩
abbrev cX2_from : ByteArray := prog_4_method_7_code
def yX2_from : MethodName := ⟨RX2, "from", "(I)I"⟩
abbrev cX2_bound : ByteArray := prog_4_method_8_code
def yX2_bound : MethodName := ⟨RX2, "bound", "(I)I"⟩
abbrev cX2_in : ByteArray := prog_4_method_9_code
def yX2_in : MethodName := ⟨RX2, "in", "(I)I"⟩
abbrev cX2_out : ByteArray := prog_4_method_10_code
def yX2_out : MethodName := ⟨RX2, "out", "(I)I"⟩
abbrev cX2_fixed : ByteArray := prog_4_method_11_code
def yX2_fixed : MethodName := ⟨RX2, "fixed", "(I)I"⟩
abbrev cX2_settle : ByteArray := prog_4_method_12_code
def yX2_settle : MethodName := ⟨RX2, "settle", "(II)V"⟩
abbrev cX2_giveUpOpen : ByteArray := prog_4_method_13_code
def yX2_giveUpOpen : MethodName := ⟨RX2, "giveUpOpen", "()V"⟩
abbrev cX2_countOf : ByteArray := prog_4_method_14_code
def yX2_countOf : MethodName := ⟨RX2, "countOf", "(I)I"⟩
abbrev cX2_nextOpen : ByteArray := prog_4_method_15_code
def yX2_nextOpen : MethodName := ⟨RX2, "nextOpen", "(I)I"⟩
abbrev cX2_goesBefore : ByteArray := prog_4_method_16_code
def yX2_goesBefore : MethodName := ⟨RX2, "goesBefore", "(III)Z"⟩
def RX3 : String := "BranchedSums$State"
def TX3 : u_T := fun k => match k with
  | 0 => ("BranchedSums$State", "bag", "LBranchedSums$Bag;", true)
  | 1 => ("BranchedSums$State", "nodes", "LBranchedSums$Nodes;", true)
  | 2 => ("BranchedSums$State", "order", "I", false)
  | 3 => ("BranchedSums$State", "choice", "I", false)
  | 4 => ("BranchedSums$State", "steps", "I", false)
  | 5 => ("BranchedSums$State", "sum", "I", false)
  | _ => ("BranchedSums$State", "best", "I", false)
def tyX3 : Nat → FieldType := fun k => match k with
  | 0 => .object "BranchedSums$Bag"
  | 1 => .object "BranchedSums$Nodes"
  | 2 => .int
  | 3 => .int
  | 4 => .int
  | 5 => .int
  | _ => .int
abbrev wsX30 : List Cond := u_ws RX3 TX3 7
theorem nmX3 : ∀ a, a < 7 → ∀ b, b < 7 → a ≠ b → (TX3 a).2.1 ≠ (TX3 b).2.1 := by decide +kernel
theorem tyX3_ok : ∀ k, k < 7 → parseFieldDescriptor (TX3 k).2.2.1 = some (tyX3 k) := by decide +kernel
abbrev cX3_init : ByteArray := prog_5_method_1_code
def yX3_init : MethodName := ⟨RX3, "<init>", "()V"⟩
abbrev cX3_copyFrom : ByteArray := prog_5_method_2_code
def yX3_copyFrom : MethodName := ⟨RX3, "copyFrom", "(LBranchedSums$State;)V"⟩
abbrev cX3_goesOn : ByteArray := prog_5_method_3_code
def yX3_goesOn : MethodName := ⟨RX3, "goesOn", "()Z"⟩
abbrev cX3_forgetSearch : ByteArray := prog_5_method_4_code
def yX3_forgetSearch : MethodName := ⟨RX3, "forgetSearch", "()V"⟩
abbrev cX3_openRoot : ByteArray := prog_5_method_5_code
def yX3_openRoot : MethodName := ⟨RX3, "openRoot", "()V"⟩
abbrev cX3_gap : ByteArray := prog_5_method_6_code
def yX3_gap : MethodName := ⟨RX3, "gap", "()I"⟩
abbrev cX3_takeStep : ByteArray := prog_5_method_7_code
def yX3_takeStep : MethodName := ⟨RX3, "takeStep", "(I)I"⟩
abbrev cX3_resultFor : ByteArray := prog_5_method_8_code
def yX3_resultFor : MethodName := ⟨RX3, "resultFor", "(I)I"⟩
abbrev cX3_makeChild : ByteArray := prog_5_method_9_code
def yX3_makeChild : MethodName := ⟨RX3, "makeChild", "(IIII)V"⟩
def RX4 : String := "BranchedSums$Text"
def TX4 : u_T := fun k => match k with
  | 0 => ("BranchedSums$Text", "characters", "[C", true)
  | 1 => ("BranchedSums$Text", "worths", "[I", true)
  | 2 => ("BranchedSums$Text", "weights", "[I", true)
  | 3 => ("BranchedSums$Text", "bars", "[I", true)
  | 4 => ("BranchedSums$Text", "length", "I", false)
  | 5 => ("BranchedSums$Text", "things", "I", false)
  | _ => ("BranchedSums$Text", "place", "I", false)
def tyX4 : Nat → FieldType := fun k => match k with
  | 0 => .array .char
  | 1 => .array .int
  | 2 => .array .int
  | 3 => .array .int
  | 4 => .int
  | 5 => .int
  | _ => .int
abbrev wsX40 : List Cond := u_ws RX4 TX4 7
theorem nmX4 : ∀ a, a < 7 → ∀ b, b < 7 → a ≠ b → (TX4 a).2.1 ≠ (TX4 b).2.1 := by decide +kernel
theorem tyX4_ok : ∀ k, k < 7 → parseFieldDescriptor (TX4 k).2.2.1 = some (tyX4 k) := by decide +kernel
abbrev cX4_init : ByteArray := prog_6_method_1_code
def yX4_init : MethodName := ⟨RX4, "<init>", "()V"⟩
abbrev cX4_append : ByteArray := prog_6_method_2_code
def yX4_append : MethodName := ⟨RX4, "append", "(C)V"⟩
abbrev cX4_read : ByteArray := prog_6_method_3_code
def yX4_read : MethodName := ⟨RX4, "read", "()I"⟩
abbrev cX4_readThing : ByteArray := prog_6_method_4_code
def yX4_readThing : MethodName := ⟨RX4, "readThing", "()Z"⟩
abbrev cX4_take : ByteArray := prog_6_method_5_code
def yX4_take : MethodName := ⟨RX4, "take", "(C)Z"⟩
abbrev cX4_takeNumber : ByteArray := prog_6_method_6_code
def yX4_takeNumber : MethodName := ⟨RX4, "takeNumber", "(II)I"⟩
abbrev cX4_characterHere : ByteArray := prog_6_method_7_code
def yX4_characterHere : MethodName := ⟨RX4, "characterHere", "()C"⟩
abbrev cX4_barsTooFar : ByteArray := prog_6_method_8_code
def yX4_barsTooFar : MethodName := ⟨RX4, "barsTooFar", "(I)Z"⟩
def RX5 : String := "BranchedSums"
def TX5 : u_T := fun k => match k with
  | 0 => ("BranchedSums", "state", "LBranchedSums$State;", true)
  | 1 => ("BranchedSums", "before", "LBranchedSums$State;", true)
  | 2 => ("BranchedSums", "snapshot", "LBranchedSums$State;", true)
  | 3 => ("BranchedSums", "history", "LBranchedSums$History;", true)
  | 4 => ("BranchedSums", "text", "LBranchedSums$Text;", true)
  | _ => ("BranchedSums", "hasSnapshot", "Z", false)
def tyX5 : Nat → FieldType := fun k => match k with
  | 0 => .object "BranchedSums$State"
  | 1 => .object "BranchedSums$State"
  | 2 => .object "BranchedSums$State"
  | 3 => .object "BranchedSums$History"
  | 4 => .object "BranchedSums$Text"
  | _ => .boolean
abbrev wsX50 : List Cond := u_ws RX5 TX5 6
theorem nmX5 : ∀ a, a < 6 → ∀ b, b < 6 → a ≠ b → (TX5 a).2.1 ≠ (TX5 b).2.1 := by decide +kernel
theorem tyX5_ok : ∀ k, k < 6 → parseFieldDescriptor (TX5 k).2.2.1 = some (tyX5 k) := by decide +kernel
abbrev cX5_init : ByteArray := prog_1_method_1_code
def yX5_init : MethodName := ⟨RX5, "<init>", "()V"⟩
abbrev cX5_add : ByteArray := prog_1_method_2_code
def yX5_add : MethodName := ⟨RX5, "add", "(II)I"⟩
abbrev cX5_addAll : ByteArray := prog_1_method_3_code
def yX5_addAll : MethodName := ⟨RX5, "addAll", "()I"⟩
abbrev cX5_remove : ByteArray := prog_1_method_4_code
def yX5_remove : MethodName := ⟨RX5, "remove", "(I)I"⟩
abbrev cX5_bar : ByteArray := prog_1_method_5_code
def yX5_bar : MethodName := ⟨RX5, "bar", "(IIZ)I"⟩
abbrev cX5_setRoom : ByteArray := prog_1_method_6_code
def yX5_setRoom : MethodName := ⟨RX5, "setRoom", "(I)I"⟩
abbrev cX5_set : ByteArray := prog_1_method_7_code
def yX5_set : MethodName := ⟨RX5, "set", "(II)I"⟩
abbrev cX5_begin : ByteArray := prog_1_method_8_code
def yX5_begin : MethodName := ⟨RX5, "begin", "()I"⟩
abbrev cX5_step : ByteArray := prog_1_method_9_code
def yX5_step : MethodName := ⟨RX5, "step", "(I)I"⟩
abbrev cX5_dive : ByteArray := prog_1_method_10_code
def yX5_dive : MethodName := ⟨RX5, "dive", "()I"⟩
abbrev cX5_giveUp : ByteArray := prog_1_method_11_code
def yX5_giveUp : MethodName := ⟨RX5, "giveUp", "()I"⟩
abbrev cX5_type : ByteArray := prog_1_method_12_code
def yX5_type : MethodName := ⟨RX5, "type", "(C)I"⟩
abbrev cX5_clearText : ByteArray := prog_1_method_13_code
def yX5_clearText : MethodName := ⟨RX5, "clearText", "()I"⟩
abbrev cX5_undo : ByteArray := prog_1_method_14_code
def yX5_undo : MethodName := ⟨RX5, "undo", "()I"⟩
abbrev cX5_keep : ByteArray := prog_1_method_15_code
def yX5_keep : MethodName := ⟨RX5, "keep", "()I"⟩
abbrev cX5_restore : ByteArray := prog_1_method_16_code
def yX5_restore : MethodName := ⟨RX5, "restore", "()I"⟩
abbrev cX5_thing : ByteArray := prog_1_method_17_code
def yX5_thing : MethodName := ⟨RX5, "thing", "(II)I"⟩
abbrev cX5_node : ByteArray := prog_1_method_18_code
def yX5_node : MethodName := ⟨RX5, "node", "(II)I"⟩
abbrev cX5_next : ByteArray := prog_1_method_19_code
def yX5_next : MethodName := ⟨RX5, "next", "()I"⟩
abbrev cX5_branchOf : ByteArray := prog_1_method_20_code
def yX5_branchOf : MethodName := ⟨RX5, "branchOf", "(II)I"⟩
abbrev cX5_boundOf : ByteArray := prog_1_method_21_code
def yX5_boundOf : MethodName := ⟨RX5, "boundOf", "(II)I"⟩
abbrev cX5_heelOf : ByteArray := prog_1_method_22_code
def yX5_heelOf : MethodName := ⟨RX5, "heelOf", "(II)I"⟩
abbrev cX5_bestSum : ByteArray := prog_1_method_23_code
def yX5_bestSum : MethodName := ⟨RX5, "bestSum", "()I"⟩
abbrev cX5_count : ByteArray := prog_1_method_24_code
def yX5_count : MethodName := ⟨RX5, "count", "(I)I"⟩
abbrev cX5_countOfSearch : ByteArray := prog_1_method_25_code
def yX5_countOfSearch : MethodName := ⟨RX5, "countOfSearch", "(I)I"⟩
abbrev cX5_prepareForChange : ByteArray := prog_1_method_26_code
def yX5_prepareForChange : MethodName := ⟨RX5, "prepareForChange", "()V"⟩
abbrev cX5_goThrough : ByteArray := prog_1_method_27_code
def yX5_goThrough : MethodName := ⟨RX5, "goThrough", "(IIZ)I"⟩
abbrev cX5_bestFrom : ByteArray := prog_1_method_28_code
def yX5_bestFrom : MethodName := ⟨RX5, "bestFrom", "(LBranchedSums$Bag;III)I"⟩
abbrev cX5_isWithin : ByteArray := prog_1_method_29_code
def yX5_isWithin : MethodName := ⟨RX5, "isWithin", "(III)Z"⟩
abbrev cX5_has : ByteArray := prog_1_method_30_code
def yX5_has : MethodName := ⟨RX5, "has", "(II)Z"⟩
abbrev cX5_at : ByteArray := prog_1_method_31_code
def yX5_at : MethodName := ⟨RX5, "at", "([II)I"⟩
abbrev cX5_put : ByteArray := prog_1_method_32_code
def yX5_put : MethodName := ⟨RX5, "put", "([III)V"⟩
abbrev cX5_sumOf : ByteArray := prog_1_method_33_code
def yX5_sumOf : MethodName := ⟨RX5, "sumOf", "([II)I"⟩
abbrev cX5_copyRow : ByteArray := prog_1_method_34_code
def yX5_copyRow : MethodName := ⟨RX5, "copyRow", "([I[I)V"⟩
def RX6 : String := "BranchedSumsModel"
def TX6 : u_T := fun k => match k with
  | 0 => ("BranchedSumsModel", "now", "[I", true)
  | 1 => ("BranchedSumsModel", "then", "[I", true)
  | 2 => ("BranchedSumsModel", "past", "[I", true)
  | 3 => ("BranchedSumsModel", "kept", "I", false)
  | 4 => ("BranchedSumsModel", "snapshot", "[I", true)
  | 5 => ("BranchedSumsModel", "isFilled", "Z", false)
  | 6 => ("BranchedSumsModel", "text", "[I", true)
  | 7 => ("BranchedSumsModel", "typed", "I", false)
  | 8 => ("BranchedSumsModel", "at", "I", false)
  | 9 => ("BranchedSumsModel", "value", "I", false)
  | 10 => ("BranchedSumsModel", "told", "[I", true)
  | 11 => ("BranchedSumsModel", "tolds", "I", false)
  | _ => ("BranchedSumsModel", "sorted", "[I", true)
def tyX6 : Nat → FieldType := fun k => match k with
  | 0 => .array .int
  | 1 => .array .int
  | 2 => .array .int
  | 3 => .int
  | 4 => .array .int
  | 5 => .boolean
  | 6 => .array .int
  | 7 => .int
  | 8 => .int
  | 9 => .int
  | 10 => .array .int
  | 11 => .int
  | _ => .array .int
abbrev wsX60 : List Cond := u_ws RX6 TX6 13
theorem nmX6 : ∀ a, a < 13 → ∀ b, b < 13 → a ≠ b → (TX6 a).2.1 ≠ (TX6 b).2.1 := by decide +kernel
theorem tyX6_ok : ∀ k, k < 13 → parseFieldDescriptor (TX6 k).2.2.1 = some (tyX6 k) := by decide +kernel
abbrev cX6_init : ByteArray := prog_8_method_1_code
def yX6_init : MethodName := ⟨RX6, "<init>", "()V"⟩
abbrev cX6_in : ByteArray := prog_8_method_3_code
def yX6_in : MethodName := ⟨RX6, "in", "(III)Z"⟩
abbrev cX6_isThing : ByteArray := prog_8_method_4_code
def yX6_isThing : MethodName := ⟨RX6, "isThing", "(I)Z"⟩
abbrev cX6_isNode : ByteArray := prog_8_method_5_code
def yX6_isNode : MethodName := ⟨RX6, "isNode", "(I)Z"⟩
abbrev cX6_ones : ByteArray := prog_8_method_6_code
def yX6_ones : MethodName := ⟨RX6, "ones", "(I)I"⟩
abbrev cX6_copies : ByteArray := prog_8_method_7_code
def yX6_copies : MethodName := ⟨RX6, "copies", "([II[II)V"⟩
abbrev cX6_records : ByteArray := prog_8_method_8_code
def yX6_records : MethodName := ⟨RX6, "records", "()V"⟩
abbrev cX6_undo : ByteArray := prog_8_method_9_code
def yX6_undo : MethodName := ⟨RX6, "undo", "()I"⟩
abbrev cX6_keep : ByteArray := prog_8_method_10_code
def yX6_keep : MethodName := ⟨RX6, "keep", "()I"⟩
abbrev cX6_restore : ByteArray := prog_8_method_11_code
def yX6_restore : MethodName := ⟨RX6, "restore", "()I"⟩
abbrev cX6_place : ByteArray := prog_8_method_12_code
def yX6_place : MethodName := ⟨RX6, "place", "([II)I"⟩
abbrev cX6_sorts : ByteArray := prog_8_method_13_code
def yX6_sorts : MethodName := ⟨RX6, "sorts", "()V"⟩
abbrev cX6_sum : ByteArray := prog_8_method_14_code
def yX6_sum : MethodName := ⟨RX6, "sum", "([III)I"⟩
abbrev cX6_isPossible : ByteArray := prog_8_method_15_code
def yX6_isPossible : MethodName := ⟨RX6, "isPossible", "([II)Z"⟩
abbrev cX6_free : ByteArray := prog_8_method_16_code
def yX6_free : MethodName := ⟨RX6, "free", "([III)I"⟩
abbrev cX6_split : ByteArray := prog_8_method_17_code
def yX6_split : MethodName := ⟨RX6, "split", "([III)I"⟩
abbrev cX6_bound : ByteArray := prog_8_method_18_code
def yX6_bound : MethodName := ⟨RX6, "bound", "([III)I"⟩
abbrev cX6_heel : ByteArray := prog_8_method_19_code
def yX6_heel : MethodName := ⟨RX6, "heel", "([III)I"⟩
abbrev cX6_first : ByteArray := prog_8_method_20_code
def yX6_first : MethodName := ⟨RX6, "first", "([II)I"⟩
abbrev cX6_byParts : ByteArray := prog_8_method_21_code
def yX6_byParts : MethodName := ⟨RX6, "byParts", "([III)I"⟩
abbrev cX6_heaviest : ByteArray := prog_8_method_22_code
def yX6_heaviest : MethodName := ⟨RX6, "heaviest", "([II)I"⟩
abbrev cX6_child : ByteArray := prog_8_method_23_code
def yX6_child : MethodName := ⟨RX6, "child", "([III)I"⟩
abbrev cX6_byTrials : ByteArray := prog_8_method_24_code
def yX6_byTrials : MethodName := ⟨RX6, "byTrials", "([III)I"⟩
abbrev cX6_branch : ByteArray := prog_8_method_25_code
def yX6_branch : MethodName := ⟨RX6, "branch", "([IIII)I"⟩
abbrev cX6_of : ByteArray := prog_8_method_26_code
def yX6_of : MethodName := ⟨RX6, "of", "([III)I"⟩
abbrev cX6_many : ByteArray := prog_8_method_27_code
def yX6_many : MethodName := ⟨RX6, "many", "([II)I"⟩
abbrev cX6_makes : ByteArray := prog_8_method_28_code
def yX6_makes : MethodName := ⟨RX6, "makes", "([IIIZ)V"⟩
abbrev cX6_taken : ByteArray := prog_8_method_29_code
def yX6_taken : MethodName := ⟨RX6, "taken", "([II)I"⟩
abbrev cX6_takes : ByteArray := prog_8_method_30_code
def yX6_takes : MethodName := ⟨RX6, "takes", "([II)I"⟩
abbrev cX6_goesOn : ByteArray := prog_8_method_31_code
def yX6_goesOn : MethodName := ⟨RX6, "goesOn", "()Z"⟩
abbrev cX6_forgets : ByteArray := prog_8_method_32_code
def yX6_forgets : MethodName := ⟨RX6, "forgets", "()V"⟩
abbrev cX6_adds : ByteArray := prog_8_method_33_code
def yX6_adds : MethodName := ⟨RX6, "adds", "(II)I"⟩
abbrev cX6_add : ByteArray := prog_8_method_34_code
def yX6_add : MethodName := ⟨RX6, "add", "(II)I"⟩
abbrev cX6_bars : ByteArray := prog_8_method_35_code
def yX6_bars : MethodName := ⟨RX6, "bars", "(IIZ)V"⟩
abbrev cX6_addAll : ByteArray := prog_8_method_36_code
def yX6_addAll : MethodName := ⟨RX6, "addAll", "()I"⟩
abbrev cX6_remove : ByteArray := prog_8_method_37_code
def yX6_remove : MethodName := ⟨RX6, "remove", "(I)I"⟩
abbrev cX6_pairs : ByteArray := prog_8_method_38_code
def yX6_pairs : MethodName := ⟨RX6, "pairs", "()I"⟩
abbrev cX6_bar : ByteArray := prog_8_method_39_code
def yX6_bar : MethodName := ⟨RX6, "bar", "(IIZ)I"⟩
abbrev cX6_setRoom : ByteArray := prog_8_method_40_code
def yX6_setRoom : MethodName := ⟨RX6, "setRoom", "(I)I"⟩
abbrev cX6_set : ByteArray := prog_8_method_41_code
def yX6_set : MethodName := ⟨RX6, "set", "(II)I"⟩
abbrev cX6_begin : ByteArray := prog_8_method_42_code
def yX6_begin : MethodName := ⟨RX6, "begin", "()I"⟩
abbrev cX6_walks : ByteArray := prog_8_method_43_code
def yX6_walks : MethodName := ⟨RX6, "walks", "(IIZ)I"⟩
abbrev cX6_step : ByteArray := prog_8_method_44_code
def yX6_step : MethodName := ⟨RX6, "step", "(I)I"⟩
abbrev cX6_dive : ByteArray := prog_8_method_45_code
def yX6_dive : MethodName := ⟨RX6, "dive", "()I"⟩
abbrev cX6_giveUp : ByteArray := prog_8_method_46_code
def yX6_giveUp : MethodName := ⟨RX6, "giveUp", "()I"⟩
abbrev cX6_type : ByteArray := prog_8_method_47_code
def yX6_type : MethodName := ⟨RX6, "type", "(C)I"⟩
abbrev cX6_clearText : ByteArray := prog_8_method_48_code
def yX6_clearText : MethodName := ⟨RX6, "clearText", "()I"⟩
abbrev cX6_isAt : ByteArray := prog_8_method_49_code
def yX6_isAt : MethodName := ⟨RX6, "isAt", "(II)Z"⟩
abbrev cX6_isNumber : ByteArray := prog_8_method_50_code
def yX6_isNumber : MethodName := ⟨RX6, "isNumber", "(II)Z"⟩
abbrev cX6_isPart : ByteArray := prog_8_method_51_code
def yX6_isPart : MethodName := ⟨RX6, "isPart", "()Z"⟩
abbrev cX6_isText : ByteArray := prog_8_method_52_code
def yX6_isText : MethodName := ⟨RX6, "isText", "()Z"⟩
abbrev cX6_thing : ByteArray := prog_8_method_53_code
def yX6_thing : MethodName := ⟨RX6, "thing", "(II)I"⟩
abbrev cX6_node : ByteArray := prog_8_method_54_code
def yX6_node : MethodName := ⟨RX6, "node", "(II)I"⟩
abbrev cX6_next : ByteArray := prog_8_method_55_code
def yX6_next : MethodName := ⟨RX6, "next", "()I"⟩
abbrev cX6_branchOf : ByteArray := prog_8_method_56_code
def yX6_branchOf : MethodName := ⟨RX6, "branchOf", "(II)I"⟩
abbrev cX6_wrong : ByteArray := prog_8_method_57_code
def yX6_wrong : MethodName := ⟨RX6, "wrong", "(II)I"⟩
abbrev cX6_boundOf : ByteArray := prog_8_method_58_code
def yX6_boundOf : MethodName := ⟨RX6, "boundOf", "(II)I"⟩
abbrev cX6_heelOf : ByteArray := prog_8_method_59_code
def yX6_heelOf : MethodName := ⟨RX6, "heelOf", "(II)I"⟩
abbrev cX6_bestSum : ByteArray := prog_8_method_60_code
def yX6_bestSum : MethodName := ⟨RX6, "bestSum", "()I"⟩
abbrev cX6_gap : ByteArray := prog_8_method_61_code
def yX6_gap : MethodName := ⟨RX6, "gap", "()I"⟩
abbrev cX6_ofSearch : ByteArray := prog_8_method_62_code
def yX6_ofSearch : MethodName := ⟨RX6, "ofSearch", "(I)I"⟩
abbrev cX6_count : ByteArray := prog_8_method_63_code
def yX6_count : MethodName := ⟨RX6, "count", "(I)I"⟩
def RJ6 : String := "java/lang/Integer"
def TJ6 : u_T := fun k => match k with
  | _ => ("", "", "", false)
def tyJ6 : Nat → FieldType := fun k => match k with
  | _ => .int
abbrev wsJ60 : List Cond := u_ws RJ6 TJ6 0
theorem nmJ6 : ∀ a, a < 0 → ∀ b, b < 0 → a ≠ b → (TJ6 a).2.1 ≠ (TJ6 b).2.1 := by decide +kernel
theorem tyJ6_ok : ∀ k, k < 0 → parseFieldDescriptor (TJ6 k).2.2.1 = some (tyJ6 k) := by decide +kernel
abbrev cJ6_bitCount_0f7a4 : ByteArray := prog_9_method_49_code
def yJ6_bitCount_0f7a4 : MethodName := ⟨RJ6, "bitCount", "(I)I"⟩
def RJ9 : String := "java/lang/Math"
def TJ9 : u_T := fun k => match k with
  | _ => ("", "", "", false)
def tyJ9 : Nat → FieldType := fun k => match k with
  | _ => .int
abbrev wsJ90 : List Cond := u_ws RJ9 TJ9 0
theorem nmJ9 : ∀ a, a < 0 → ∀ b, b < 0 → a ≠ b → (TJ9 a).2.1 ≠ (TJ9 b).2.1 := by decide +kernel
theorem tyJ9_ok : ∀ k, k < 0 → parseFieldDescriptor (TJ9 k).2.2.1 = some (tyJ9 k) := by decide +kernel
abbrev cJ9_max_7cf53 : ByteArray := prog_10_method_65_code
def yJ9_max_7cf53 : MethodName := ⟨RJ9, "max", "(II)I"⟩
abbrev cJ9_min_7cf53 : ByteArray := prog_10_method_69_code
def yJ9_min_7cf53 : MethodName := ⟨RJ9, "min", "(II)I"⟩
def RJ10 : String := "java/lang/System"
def TJ10 : u_T := fun k => match k with
  | _ => ("", "", "", false)
def tyJ10 : Nat → FieldType := fun k => match k with
  | _ => .int
abbrev wsJ100 : List Cond := u_ws RJ10 TJ10 0
theorem nmJ10 : ∀ a, a < 0 → ∀ b, b < 0 → a ≠ b → (TJ10 a).2.1 ≠ (TJ10 b).2.1 := by decide +kernel
theorem tyJ10_ok : ∀ k, k < 0 → parseFieldDescriptor (TJ10 k).2.2.1 = some (tyJ10 k) := by decide +kernel
def RL : String := "BranchedSumsLaw"
abbrev cL_law : ByteArray := code
def yL_law : MethodName := ⟨RL, "law", "([I)Z"⟩
abbrev vwCl : List vw_C := [(RX0, TX0, 6), (RX1, TX1, 3), (RX2, TX2, 2), (RX3, TX3, 7), (RX4, TX4, 7), (RX5, TX5, 6), (RX6, TX6, 13)]
end
section
/-! A SMALL MACHINE of whole numbers: values, memory, one step, straight runs, and what holds of a method (by depth of calls). Sets of rows: z.. -/
abbrev zV : Type := Int ⊕ Option Nat ⊕ Int ⊕ Unit
abbrev zI (x : Int) : zV := Sum.inl x
abbrev zR (k : Nat) : zV := Sum.inr (Sum.inl (some k))
abbrev zNl : zV := Sum.inr (Sum.inl none)
abbrev zL (x : Int) : zV := Sum.inr (Sum.inr (Sum.inl x))
abbrev zU : zV := Sum.inr (Sum.inr (Sum.inr ()))
abbrev zM : Type := Nat → Int → Int
abbrev zE : Type := Instr × Nat × Nat × Nat × Nat × Int × List Nat
abbrev zP : Type := Option zV → zM → Prop
abbrev zK : Type := Nat → List zV → List zV → zM → Prop
abbrev zX : Type := List zV → List zV → zM → Prop
abbrev zO : Type := Nat → List zV → zM → zP → Prop
/-- a number of 32 bits -/
abbrev zin (x : Int) : Prop := -2147483648 ≤ x ∧ x < 2147483648
def zJ (x : Int) : Int32 := Int32.ofInt x
def zJL (x : Int) : Int64 := Int64.ofInt x
def zand (x y : Int) : Int := (zJ x &&& zJ y).toInt
def zor (x y : Int) : Int := (zJ x ||| zJ y).toInt
def zxor (x y : Int) : Int := (zJ x ^^^ zJ y).toInt
def zshl (x y : Int) : Int := (zJ x <<< (zJ y &&& 31)).toInt
def zshr (x y : Int) : Int := (zJ x >>> (zJ y &&& 31)).toInt
def zushr (x y : Int) : Int := (((zJ x).toUInt32 >>> ((zJ y).toUInt32 &&& Int32.toUInt32 31)).toInt32).toInt
def zdiv (x y : Int) : Int := (zJ x / zJ y).toInt
def zrem (x y : Int) : Int := (zJ x - zJ x / zJ y * zJ y).toInt
def zi2l (x : Int) : Int := (zJ x).toInt64.toInt
def zl2i (x : Int) : Int := (zJL x).toInt32.toInt
def zlor (x y : Int) : Int := (zJL x ||| zJL y).toInt
def zland (x y : Int) : Int := (zJL x &&& zJL y).toInt
def zlshl (x y : Int) : Int := (zJL x <<< ((zJ y).toInt64 &&& 63)).toInt
def zlushr (x y : Int) : Int := (((zJL x).toUInt64 >>> ((zJ y).toInt64.toUInt64 &&& Int64.toUInt64 63)).toInt64).toInt
/-- kinds of cells: (0, class), (1, n) ints, (2, n) chars, (3, n) longs, (4, n) states -/
def zkd (k : Nat) : Nat × Nat :=
  if k < 8 then [(0, 5), (0, 1), (4, 4), (0, 4), (2, 80), (1, 12), (1, 12), (1, 12)].getD k (9, 0)
  else if k < 64 then [(0, 3), (0, 0), (1, 12), (1, 12), (1, 12), (1, 12), (0, 2), (3, 400)].getD ((k - 8) % 8) (9, 0)
  else [(0, 6), (1, 2845), (1, 2845), (1, 11380), (1, 2845), (1, 80), (1, 90), (1, 12)].getD (k - 64) (9, 0)
def zup (g : zM) (k : Nat) (i v : Int) : zM := fun k' j => if k' = k ∧ j = i then v else g k' j
def zcpy (g : zM) (a : Nat) (sp : Int) (b : Nat) (dp n : Int) : zM := fun k j => if k = b ∧ dp ≤ j ∧ j < dp + n then g a (sp + (j - dp)) else g k j
def zget : List zV → Nat → (zV → Prop) → Prop
  | [], _, _ => False
  | v :: _, 0, F => F v
  | _ :: l, k + 1, F => zget l k F
def zset : List zV → Nat → zV → (List zV → Prop) → Prop
  | [], _, _, _ => False
  | _ :: l, 0, v, F => F (v :: l)
  | a :: l, k + 1, v, F => zset l k v (fun l' => F (a :: l'))
def zpop : Nat → List zV → List zV → (List zV → List zV → Prop) → Prop
  | 0, st, acc, F => F acc st
  | _ + 1, [], _, _ => False
  | n + 1, v :: st, acc, F => zpop n st (v :: acc) F
def zcat : zV → Nat
  | .inr (.inr (.inl _)) => 2
  | _ => 1
def zwt : List zV → Nat
  | [] => 0
  | v :: l => zcat v + zwt l
def ztab (x i0 : Int) (F : Nat → Prop) : List Nat → Prop
  | [] => True
  | t :: ts => (x = i0 → F t) ∧ ztab x (i0 + 1) F ts
def zint (v : zV) (F : Int → Prop) : Prop := match v with
  | .inl x => F x
  | _ => False
def zref (v : zV) (F : Option Nat → Prop) : Prop := match v with
  | .inr (.inl x) => F x
  | _ => False
def zif (c : Jvm.ClassFile.Cond) (x y : Int) (A B : Prop) : Prop := match c with
  | .eq => (x = y → A) ∧ (¬ x = y → B)
  | .ne => (¬ x = y → A) ∧ (x = y → B)
  | .lt => (x < y → A) ∧ (¬ x < y → B)
  | .ge => (y ≤ x → A) ∧ (¬ y ≤ x → B)
  | .gt => (y < x → A) ∧ (¬ y < x → B)
  | .le => (x ≤ y → A) ∧ (¬ x ≤ y → B)
def zrecv (z : Nat) (as : List zV) : Prop := match as with
  | .inr (.inl (some a)) :: _ => zkd a = (0, z)
  | _ => False
/-- one instruction: what must hold so that the run goes on with nx, or at K, or ends with Ret -/
def zstep (O : zO) (Ret : zP) (K : zK) (e : zE) (nx : zX) (ls st : List zV) (g : zM) : Prop := match e with
  | (ins, _, x, y, z, v, l) => match ins with
    | .iconst n => nx ls (zI n :: st) g
    | .bipush n => nx ls (zI n :: st) g
    | .sipush n => nx ls (zI n :: st) g
    | .ldc _ => nx ls (zI v :: st) g
    | .ldc_w _ => nx ls (zI v :: st) g
    | .ldc2_w _ => nx ls (zL v :: st) g
    | .aconst_null => nx ls (zNl :: st) g
    | .iload_n k => zget ls k.val (fun a => zint a (fun q => nx ls (zI q :: st) g))
    | .iload k => zget ls k (fun a => zint a (fun q => nx ls (zI q :: st) g))
    | .aload_n k => zget ls k.val (fun a => zref a (fun q => nx ls (Sum.inr (Sum.inl q) :: st) g))
    | .aload k => zget ls k (fun a => zref a (fun q => nx ls (Sum.inr (Sum.inl q) :: st) g))
    | .istore_n k => match st with
      | .inl q :: r => zset ls k.val (zI q) (fun ls => nx ls r g)
      | _ => False
    | .istore k => match st with
      | .inl q :: r => zset ls k (zI q) (fun ls => nx ls r g)
      | _ => False
    | .astore_n k => match st with
      | .inr (.inl q) :: r => zset ls k.val (Sum.inr (Sum.inl q)) (fun ls => nx ls r g)
      | _ => False
    | .astore k => match st with
      | .inr (.inl q) :: r => zset ls k (Sum.inr (Sum.inl q)) (fun ls => nx ls r g)
      | _ => False
    | .iinc k n => zget ls k (fun a => zint a (fun q => zset ls k (zI (q + n)) (fun ls => nx ls st g)))
    | .iadd => match st with
      | .inl b :: .inl a :: r => nx ls (zI (a + b) :: r) g
      | _ => False
    | .isub => match st with
      | .inl b :: .inl a :: r => nx ls (zI (a - b) :: r) g
      | _ => False
    | .imul => match st with
      | .inl b :: .inl a :: r => nx ls (zI (a * b) :: r) g
      | _ => False
    | .iand => match st with
      | .inl b :: .inl a :: r => nx ls (zI (zand a b) :: r) g
      | _ => False
    | .ior => match st with
      | .inl b :: .inl a :: r => nx ls (zI (zor a b) :: r) g
      | _ => False
    | .ixor => match st with
      | .inl b :: .inl a :: r => nx ls (zI (zxor a b) :: r) g
      | _ => False
    | .ishl => match st with
      | .inl b :: .inl a :: r => nx ls (zI (zshl a b) :: r) g
      | _ => False
    | .ishr => match st with
      | .inl b :: .inl a :: r => nx ls (zI (zshr a b) :: r) g
      | _ => False
    | .iushr => match st with
      | .inl b :: .inl a :: r => nx ls (zI (zushr a b) :: r) g
      | _ => False
    | .idiv => match st with
      | .inl b :: .inl a :: r => (zin b ∧ b ≠ 0) ∧ nx ls (zI (zdiv a b) :: r) g
      | _ => False
    | .irem => match st with
      | .inl b :: .inl a :: r => (zin b ∧ b ≠ 0) ∧ nx ls (zI (zrem a b) :: r) g
      | _ => False
    | .i2c => match st with
      | .inl a :: r => nx ls (zI (a % 65536) :: r) g
      | _ => False
    | .i2l => match st with
      | .inl a :: r => nx ls (zL (zi2l a) :: r) g
      | _ => False
    | .l2i => match st with
      | .inr (.inr (.inl a)) :: r => nx ls (zI (zl2i a) :: r) g
      | _ => False
    | .lor => match st with
      | .inr (.inr (.inl b)) :: .inr (.inr (.inl a)) :: r => nx ls (zL (zlor a b) :: r) g
      | _ => False
    | .land => match st with
      | .inr (.inr (.inl b)) :: .inr (.inr (.inl a)) :: r => nx ls (zL (zland a b) :: r) g
      | _ => False
    | .lshl => match st with
      | .inl b :: .inr (.inr (.inl a)) :: r => nx ls (zL (zlshl a b) :: r) g
      | _ => False
    | .lushr => match st with
      | .inl b :: .inr (.inr (.inl a)) :: r => nx ls (zL (zlushr a b) :: r) g
      | _ => False
    | .dup => match st with
      | .inl a :: r => nx ls (zI a :: zI a :: r) g
      | .inr (.inl a) :: r => nx ls (Sum.inr (Sum.inl a) :: Sum.inr (Sum.inl a) :: r) g
      | _ => False
    | .dup2 => match st with
      | .inl b :: .inr (.inl a) :: r => nx ls (zI b :: Sum.inr (Sum.inl a) :: zI b :: Sum.inr (Sum.inl a) :: r) g
      | _ => False
    | .ifCond c _ => match st with
      | .inl a :: r => zin a ∧ zif c a 0 (K x ls r g) (nx ls r g)
      | _ => False
    | .if_icmp c _ => match st with
      | .inl b :: .inl a :: r => (zin a ∧ zin b) ∧ zif c a b (K x ls r g) (nx ls r g)
      | _ => False
    | .ifnull _ => match st with
      | .inr (.inl none) :: r => K x ls r g
      | .inr (.inl (some _)) :: r => nx ls r g
      | _ => False
    | .goto _ => K x ls st g
    | .tableswitch _ _ _ _ => match st, l with
      | .inl a :: r, t :: ts => zin a ∧ (a < v ∨ v + ts.length ≤ a → K t ls r g) ∧ ztab a v (fun t => K t ls r g) ts
      | _, _ => False
    | .arraylength => match st with
      | .inr (.inl (some a)) :: r => (1 ≤ (zkd a).1 ∧ (zkd a).1 ≤ 4) ∧ nx ls (zI (zkd a).2 :: r) g
      | _ => False
    | .iaload => match st with
      | .inl i :: .inr (.inl (some a)) :: r => ((zkd a).1 = 1 ∧ 0 ≤ i ∧ i < (zkd a).2) ∧ nx ls (zI (g a i) :: r) g
      | _ => False
    | .caload => match st with
      | .inl i :: .inr (.inl (some a)) :: r => ((zkd a).1 = 2 ∧ 0 ≤ i ∧ i < (zkd a).2) ∧ nx ls (zI (g a i) :: r) g
      | _ => False
    | .laload => match st with
      | .inl i :: .inr (.inl (some a)) :: r => ((zkd a).1 = 3 ∧ 0 ≤ i ∧ i < (zkd a).2) ∧ nx ls (zL (g a i) :: r) g
      | _ => False
    | .aaload => match st with
      | .inl i :: .inr (.inl (some a)) :: r => (a = 2 ∧ 0 ≤ i ∧ i < 4) ∧ nx ls (zR (32 + 8 * i.toNat) :: r) g
      | _ => False
    | .iastore => match st with
      | .inl w :: .inl i :: .inr (.inl (some a)) :: r => ((zkd a).1 = 1 ∧ 0 ≤ i ∧ i < (zkd a).2) ∧ nx ls r (zup g a i w)
      | _ => False
    | .castore => match st with
      | .inl w :: .inl i :: .inr (.inl (some a)) :: r => ((zkd a).1 = 2 ∧ (0 ≤ i ∧ i < (zkd a).2) ∧ 0 ≤ w ∧ w < 65536) ∧ nx ls r (zup g a i w)
      | _ => False
    | .lastore => match st with
      | .inr (.inr (.inl w)) :: .inl i :: .inr (.inl (some a)) :: r => ((zkd a).1 = 3 ∧ 0 ≤ i ∧ i < (zkd a).2) ∧ nx ls r (zup g a i w)
      | _ => False
    | .getfield _ => match st with
      | .inr (.inl (some a)) :: r => zkd a = (0, x) ∧ match z, l with
        | 0, _ => nx ls (zI (g a y) :: r) g
        | _ + 1, [_] => nx ls (zR (a + z) :: r) g
        | _ + 1, _ => nx ls (zR z :: r) g
      | _ => False
    | .putfield _ => match st with
      | .inl w :: .inr (.inl (some a)) :: r => (zkd a = (0, x) ∧ (v = 2 → w = 0 ∨ w = 1)) ∧ nx ls r (zup g a y w)
      | _ => False
    | .invokevirtual _ => zpop y st [] (fun as r => (zwt r ≤ 8 ∧ zrecv z as) ∧ O x as g (fun o g => match o with
        | none => nx ls r g
        | some w => nx ls (w :: r) g))
    | .invokestatic _ => match z with
      | 2 => match st with
        | .inl n :: .inl dp :: .inr (.inl (some b)) :: .inl sp :: .inr (.inl (some a)) :: r =>
          ((((zkd a).1 = 1 ∧ (zkd b).1 = 1) ∨ ((zkd a).1 = 3 ∧ (zkd b).1 = 3)) ∧ (0 ≤ sp ∧ 0 ≤ dp ∧ 0 ≤ n) ∧ sp + n ≤ (zkd a).2 ∧ dp + n ≤ (zkd b).2) ∧ zwt r ≤ 8 ∧ nx ls r (zcpy g a sp b dp n)
        | _ => False
      | 3 => match st with
        | .inl b :: .inl a :: r => ((zin a ∧ zin b) ∧ zwt r ≤ 8) ∧ nx ls (zI (max a b) :: r) g
        | _ => False
      | 4 => match st with
        | .inl b :: .inl a :: r => ((zin a ∧ zin b) ∧ zwt r ≤ 8) ∧ nx ls (zI (min a b) :: r) g
        | _ => False
      | _ => zpop y st [] (fun as r => zwt r ≤ 8 ∧ O x as g (fun o g => match o with
        | none => nx ls r g
        | some w => nx ls (w :: r) g))
    | .ireturn => match st with
      | .inl a :: [] => ((x = 1 → a = 0 ∨ a = 1) ∧ (x = 2 → 0 ≤ a ∧ a < 65536)) ∧ Ret (some (zI a)) g
      | _ => False
    | .areturn => match st with
      | .inr (.inl a) :: [] => True ∧ Ret (some (Sum.inr (Sum.inl a))) g
      | _ => False
    | .return_ => match st with
      | [] => True ∧ Ret none g
      | _ => False
    | _ => False
def zrun (O : zO) (Ret : zP) (K : zK) (es : List zE) : zX := List.rec (motive := fun _ => zX) (fun _ _ _ => False) (fun e _ ih => zstep O Ret K e ih) es
/-- the least that is closed under straight runs -/
def zW (cd : List zE) (O : zO) (Ret : zP) (t : Nat) (ls st : List zV) (g : zM) : Prop :=
  ∀ P : zK, (∀ t ls st g, zrun O Ret P (cd.drop t) ls st g → P t ls st g) → P t ls st g
def zOm (O : zO) : Prop := ∀ m as g (P P' : zP), (∀ o g, P o g → P' o g) → O m as g P → O m as g P'
theorem zget_mono {F F' : zV → Prop} (hF : ∀ v, F v → F' v) : ∀ (l : List zV) (k : Nat), zget l k F → zget l k F'
  | [], _, h => h
  | _ :: _, 0, h => hF _ h
  | _ :: l, k + 1, h => zget_mono hF l k h
theorem zset_mono : ∀ (l : List zV) (k : Nat) (v : zV) {F F' : List zV → Prop}, (∀ l, F l → F' l) → zset l k v F → zset l k v F'
  | [], _, _, _, _, _, h => h
  | _ :: _, 0, _, _, _, hF, h => hF _ h
  | _ :: l, k + 1, v, _, _, hF, h => zset_mono l k v (fun l' q => hF _ q) h
theorem zpop_mono {F F' : List zV → List zV → Prop} (hF : ∀ a r, F a r → F' a r) : ∀ (n : Nat) (st acc : List zV), zpop n st acc F → zpop n st acc F'
  | 0, _, _, h => hF _ _ h
  | _ + 1, [], _, h => h
  | n + 1, _ :: st, acc, h => zpop_mono hF n st _ h
theorem zint_mono {F F' : Int → Prop} (hF : ∀ v, F v → F' v) : ∀ (v : zV), zint v F → zint v F'
  | .inl _, h => hF _ h
  | .inr _, h => h
theorem zref_mono {F F' : Option Nat → Prop} (hF : ∀ v, F v → F' v) : ∀ (v : zV), zref v F → zref v F'
  | .inr (.inl _), h => hF _ h
  | .inl _, h => h
  | .inr (.inr _), h => h
theorem zif_mono {c : Jvm.ClassFile.Cond} {x y : Int} {A B A' B' : Prop} (hA : A → A') (hB : B → B') (h : zif c x y A B) : zif c x y A' B' := by
  cases c <;> exact ⟨fun q => hA (h.1 q), fun q => hB (h.2 q)⟩
theorem ztab_mono {x : Int} {F F' : Nat → Prop} (hF : ∀ v, F v → F' v) : ∀ (ts : List Nat) (i0 : Int), ztab x i0 F ts → ztab x i0 F' ts
  | [], _, h => h
  | _ :: ts, i0, h => ⟨fun q => hF _ (h.1 q), ztab_mono hF ts (i0 + 1) h.2⟩
set_option maxHeartbeats 2000000 in
theorem zstep_mono {O : zO} {R R' : zP} {K K' : zK} {nx nx' : zX} (hO : zOm O) (hR : ∀ o g, R o g → R' o g) (hK : ∀ t ls st g, K t ls st g → K' t ls st g) (hn : ∀ ls st g, nx ls st g → nx' ls st g) :
    ∀ (e : zE) (ls st : List zV) (g : zM), zstep O R K e nx ls st g → zstep O R' K' e nx' ls st g := by
  intro e ls st g h
  have hcall : ∀ (x : Nat) (as : List zV) (r : List zV) (g : zM), O x as g (fun o g => match o with | none => nx ls r g | some w => nx ls (w :: r) g) → O x as g (fun o g => match o with | none => nx' ls r g | some w => nx' ls (w :: r) g) := by
    intro x as r g h
    refine hO x as g _ _ (fun o g q => ?_) h
    cases o with
    | none => exact hn _ _ _ q
    | some w => exact hn _ _ _ q
  obtain ⟨ins, pc, x, y, z, v, l⟩ := e
  cases ins
  case iload_n k => exact zget_mono (fun a q => zint_mono (fun b q => hn _ _ _ q) a q) ls _ h
  case iload k => exact zget_mono (fun a q => zint_mono (fun b q => hn _ _ _ q) a q) ls _ h
  case aload_n k => exact zget_mono (fun a q => zref_mono (fun b q => hn _ _ _ q) a q) ls _ h
  case aload k => exact zget_mono (fun a q => zref_mono (fun b q => hn _ _ _ q) a q) ls _ h
  case istore_n k => rcases st with _ | ⟨a | a | a | a, r⟩ <;> first | exact False.elim h | exact zset_mono _ _ _ (fun _ q => hn _ _ _ q) h
  case istore k => rcases st with _ | ⟨a | a | a | a, r⟩ <;> first | exact False.elim h | exact zset_mono _ _ _ (fun _ q => hn _ _ _ q) h
  case astore_n k => rcases st with _ | ⟨a | a | a | a, r⟩ <;> first | exact False.elim h | exact zset_mono _ _ _ (fun _ q => hn _ _ _ q) h
  case astore k => rcases st with _ | ⟨a | a | a | a, r⟩ <;> first | exact False.elim h | exact zset_mono _ _ _ (fun _ q => hn _ _ _ q) h
  case iinc k n => exact zget_mono (fun a q => zint_mono (fun b q => zset_mono _ _ _ (fun _ q => hn _ _ _ q) q) a q) ls _ h
  case ifCond c o => rcases st with _ | ⟨a | a | a | a, r⟩ <;> first | exact False.elim h | exact ⟨h.1, zif_mono (hK _ _ _ _) (hn _ _ _) h.2⟩
  case if_icmp c o => rcases st with _ | ⟨a | a | a | a, _ | ⟨b | b | b | b, r⟩⟩ <;> first | exact False.elim h | exact ⟨h.1, zif_mono (hK _ _ _ _) (hn _ _ _) h.2⟩
  case ifnull o => rcases st with _ | ⟨a | (_ | a) | a | a, r⟩ <;> first | exact False.elim h | exact hK _ _ _ _ h | exact hn _ _ _ h
  case goto o => exact hK _ _ _ _ h
  case tableswitch a b c d =>
    rcases st with _ | ⟨a | a | a | a, r⟩ <;> rcases l with _ | ⟨t, ts⟩ <;> first | exact False.elim h | exact ⟨h.1, fun q => hK _ _ _ _ (h.2.1 q), ztab_mono (fun t q => hK _ _ _ _ q) _ _ h.2.2⟩
  case invokevirtual i => exact zpop_mono (fun as r q => ⟨q.1, hcall _ _ _ _ q.2⟩) _ _ _ h
  case invokestatic i =>
    rcases z with _ | _ | _ | _ | _ | z
    · exact zpop_mono (fun as r q => ⟨q.1, hcall _ _ _ _ q.2⟩) _ _ _ h
    · exact zpop_mono (fun as r q => ⟨q.1, hcall _ _ _ _ q.2⟩) _ _ _ h
    · rcases st with _ | ⟨a | a | a | a, _ | ⟨b | b | b | b, _ | ⟨c | (_ | c) | c | c, _ | ⟨d | d | d | d, _ | ⟨e | (_ | e) | e | e, r⟩⟩⟩⟩⟩ <;> first | exact False.elim h | exact ⟨h.1, h.2.1, hn _ _ _ h.2.2⟩
    · rcases st with _ | ⟨a | a | a | a, _ | ⟨b | b | b | b, r⟩⟩ <;> first | exact False.elim h | exact ⟨h.1, hn _ _ _ h.2⟩
    · rcases st with _ | ⟨a | a | a | a, _ | ⟨b | b | b | b, r⟩⟩ <;> first | exact False.elim h | exact ⟨h.1, hn _ _ _ h.2⟩
    · exact zpop_mono (fun as r q => ⟨q.1, hcall _ _ _ _ q.2⟩) _ _ _ h
  case ireturn => rcases st with _ | ⟨a | a | a | a, _ | ⟨b, r⟩⟩ <;> first | exact False.elim h | exact ⟨h.1, hR _ _ h.2⟩
  case areturn => rcases st with _ | ⟨a | a | a | a, _ | ⟨b, r⟩⟩ <;> first | exact False.elim h | exact ⟨h.1, hR _ _ h.2⟩
  case return_ => rcases st with _ | ⟨a, r⟩ <;> first | exact False.elim h | exact ⟨h.1, hR _ _ h.2⟩
  case getfield i =>
    rcases st with _ | ⟨a | (_ | a) | a | a, r⟩ <;> first | exact False.elim h | (rcases z with _ | z <;> rcases l with _ | ⟨l0, _ | ⟨l1, l2⟩⟩ <;> exact ⟨h.1, hn _ _ _ h.2⟩)
  case dup => rcases st with _ | ⟨a | a | a | a, r⟩ <;> first | exact False.elim h | exact hn _ _ _ h
  case iastore => rcases st with _ | ⟨a | a | a | a, _ | ⟨b | b | b | b, _ | ⟨c | (_ | c) | c | c, r⟩⟩⟩ <;> first | exact False.elim h | exact ⟨h.1, hn _ _ _ h.2⟩
  case castore => rcases st with _ | ⟨a | a | a | a, _ | ⟨b | b | b | b, _ | ⟨c | (_ | c) | c | c, r⟩⟩⟩ <;> first | exact False.elim h | exact ⟨h.1, hn _ _ _ h.2⟩
  case lastore => rcases st with _ | ⟨a | a | a | a, _ | ⟨b | b | b | b, _ | ⟨c | (_ | c) | c | c, r⟩⟩⟩ <;> first | exact False.elim h | exact ⟨h.1, hn _ _ _ h.2⟩
  all_goals first
    | exact False.elim h
    | exact hn _ _ _ h
    | (rcases st with _ | ⟨a | (_ | a) | a | a, _ | ⟨b | (_ | b) | b | b, r⟩⟩ <;> first | exact False.elim h | exact hn _ _ _ h | exact ⟨h.1, hn _ _ _ h.2⟩)
theorem zrun_mono {O : zO} {R R' : zP} {K K' : zK} (hO : zOm O) (hR : ∀ o g, R o g → R' o g) (hK : ∀ t ls st g, K t ls st g → K' t ls st g) :
    ∀ (es : List zE) (ls st : List zV) (g : zM), zrun O R K es ls st g → zrun O R' K' es ls st g := by
  intro es
  induction es with
  | nil => exact fun _ _ _ h => h
  | cons e es ih => exact fun ls st g h => zstep_mono hO hR hK ih e ls st g h
/-- one straight run, up to the next jumps: there zW again -/
theorem zW.go {cd : List zE} {O : zO} {Ret : zP} (hO : zOm O) {t : Nat} {ls st : List zV} {g : zM} (h : ∀ K : zK, (∀ t ls st g, zW cd O Ret t ls st g → K t ls st g) → zrun O Ret K (cd.drop t) ls st g) : zW cd O Ret t ls st g := by
  intro P hP
  exact hP _ _ _ _ (zrun_mono hO (fun _ _ q => q) (fun t ls st g q => q P hP) _ _ _ _ (h (zW cd O Ret) (fun _ _ _ _ q => q)))
theorem zW_mono {cd : List zE} {O : zO} {R R' : zP} (hO : zOm O) (hR : ∀ o g, R o g → R' o g) {t : Nat} {ls st : List zV} {g : zM} (h : zW cd O R t ls st g) : zW cd O R' t ls st g :=
  h _ (fun t ls st g q => zW.go hO (fun K hK => zrun_mono hO hR (fun _ _ _ _ q => hK _ _ _ _ q) _ _ _ _ q))
end
section
/-! the code of every method, one list a method: instruction, pc, and what its operands name (a target by its place, a field by class and place, a method by its number) -/
/-- 0: BranchedSums$Bag.copyFrom(LBranchedSums$Bag;)V, 2 arguments, 2 locals -/
def zX0_copyFrom : List zE := [(.aload_n 1, 0, 0, 0, 0, (0 : Int), []),
  (.getfield 9, 1, 0, 0, 1, (0 : Int), [79]),
  (.aload_n 0, 4, 0, 0, 0, (0 : Int), []),
  (.getfield 9, 5, 0, 0, 1, (0 : Int), [79]),
  (.invokestatic 28, 8, 86, 2, 1, (0 : Int), [274]),
  (.aload_n 1, 11, 0, 0, 0, (0 : Int), []),
  (.getfield 15, 12, 0, 1, 2, (0 : Int), [82]),
  (.aload_n 0, 15, 0, 0, 0, (0 : Int), []),
  (.getfield 15, 16, 0, 1, 2, (0 : Int), [82]),
  (.invokestatic 28, 19, 86, 2, 1, (0 : Int), [274]),
  (.aload_n 1, 22, 0, 0, 0, (0 : Int), []),
  (.getfield 18, 23, 0, 2, 3, (0 : Int), [84]),
  (.aload_n 0, 26, 0, 0, 0, (0 : Int), []),
  (.getfield 18, 27, 0, 2, 3, (0 : Int), [84]),
  (.invokestatic 28, 30, 86, 2, 1, (0 : Int), [274]),
  (.aload_n 1, 33, 0, 0, 0, (0 : Int), []),
  (.getfield 21, 34, 0, 3, 4, (0 : Int), [86]),
  (.aload_n 0, 37, 0, 0, 0, (0 : Int), []),
  (.getfield 21, 38, 0, 3, 4, (0 : Int), [86]),
  (.invokestatic 28, 41, 86, 2, 1, (0 : Int), [274]),
  (.aload_n 0, 44, 0, 0, 0, (0 : Int), []),
  (.aload_n 1, 45, 0, 0, 0, (0 : Int), []),
  (.getfield 32, 46, 0, 4, 0, (0 : Int), [88]),
  (.putfield 32, 49, 0, 4, 0, (0 : Int), [88]),
  (.aload_n 0, 52, 0, 0, 0, (0 : Int), []),
  (.aload_n 1, 53, 0, 0, 0, (0 : Int), []),
  (.getfield 24, 54, 0, 5, 0, (0 : Int), [89]),
  (.putfield 24, 57, 0, 5, 0, (0 : Int), [89]),
  (.return_, 60, 0, 0, 0, (0 : Int), [])]
/-- 1: BranchedSums$Bag.knows(I)Z, 2 arguments, 2 locals -/
def zX0_knows : List zE := [(.iload_n 1, 0, 0, 0, 0, (0 : Int), []),
  (.ifCond .lt 15, 1, 8, 0, 0, (0 : Int), []),
  (.iload_n 1, 4, 0, 0, 0, (0 : Int), []),
  (.aload_n 0, 5, 0, 0, 0, (0 : Int), []),
  (.getfield 32, 6, 0, 4, 0, (0 : Int), [88]),
  (.if_icmp .ge 7, 9, 8, 0, 0, (0 : Int), []),
  (.iconst 1, 12, 0, 0, 0, (0 : Int), []),
  (.goto 4, 13, 9, 0, 0, (0 : Int), []),
  (.iconst 0, 16, 0, 0, 0, (0 : Int), []),
  (.ireturn, 17, 1, 0, 0, (0 : Int), [])]
/-- 2: BranchedSums$Bag.append(III)V, 4 arguments, 6 locals -/
def zX0_append : List zE := [(.aload_n 0, 0, 0, 0, 0, (0 : Int), []),
  (.getfield 32, 1, 0, 4, 0, (0 : Int), [88]),
  (.bipush 12, 4, 0, 0, 0, (0 : Int), []),
  (.if_icmp .lt 4, 6, 5, 0, 0, (0 : Int), []),
  (.return_, 9, 0, 0, 0, (0 : Int), []),
  (.aload_n 0, 10, 0, 0, 0, (0 : Int), []),
  (.getfield 32, 11, 0, 4, 0, (0 : Int), [88]),
  (.istore 4, 14, 0, 0, 0, (0 : Int), []),
  (.aload_n 0, 16, 0, 0, 0, (0 : Int), []),
  (.dup, 17, 0, 0, 0, (0 : Int), []),
  (.getfield 32, 18, 0, 4, 0, (0 : Int), [88]),
  (.iconst 1, 21, 0, 0, 0, (0 : Int), []),
  (.iadd, 22, 0, 0, 0, (0 : Int), []),
  (.putfield 32, 23, 0, 4, 0, (0 : Int), [88]),
  (.aload_n 0, 26, 0, 0, 0, (0 : Int), []),
  (.getfield 9, 27, 0, 0, 1, (0 : Int), [79]),
  (.iload 4, 30, 0, 0, 0, (0 : Int), []),
  (.iload_n 1, 32, 0, 0, 0, (0 : Int), []),
  (.invokestatic 35, 33, 84, 3, 1, (0 : Int), [300]),
  (.aload_n 0, 36, 0, 0, 0, (0 : Int), []),
  (.getfield 15, 37, 0, 1, 2, (0 : Int), [82]),
  (.iload 4, 40, 0, 0, 0, (0 : Int), []),
  (.iload_n 2, 42, 0, 0, 0, (0 : Int), []),
  (.invokestatic 35, 43, 84, 3, 1, (0 : Int), [300]),
  (.aload_n 0, 46, 0, 0, 0, (0 : Int), []),
  (.getfield 18, 47, 0, 2, 3, (0 : Int), [84]),
  (.iload 4, 50, 0, 0, 0, (0 : Int), []),
  (.iconst 0, 52, 0, 0, 0, (0 : Int), []),
  (.invokestatic 35, 53, 84, 3, 1, (0 : Int), [300]),
  (.iconst 0, 56, 0, 0, 0, (0 : Int), []),
  (.istore 5, 57, 0, 0, 0, (0 : Int), []),
  (.iload 5, 59, 0, 0, 0, (0 : Int), []),
  (.iload 4, 61, 0, 0, 0, (0 : Int), []),
  (.if_icmp .ge 26, 63, 44, 0, 0, (0 : Int), []),
  (.iload_n 3, 66, 0, 0, 0, (0 : Int), []),
  (.iload 5, 67, 0, 0, 0, (0 : Int), []),
  (.invokestatic 39, 69, 82, 2, 1, (0 : Int), [303]),
  (.ifCond .eq 11, 72, 42, 0, 0, (0 : Int), []),
  (.aload_n 0, 75, 0, 0, 0, (0 : Int), []),
  (.iload 4, 76, 0, 0, 0, (0 : Int), []),
  (.iload 5, 78, 0, 0, 0, (0 : Int), []),
  (.invokevirtual 43, 80, 4, 3, 0, (0 : Int), [306]),
  (.iinc 5 1, 83, 0, 0, 0, (0 : Int), []),
  (.goto (-27), 86, 31, 0, 0, (0 : Int), []),
  (.aload_n 0, 89, 0, 0, 0, (0 : Int), []),
  (.invokevirtual 47, 90, 6, 1, 0, (0 : Int), [313]),
  (.return_, 93, 0, 0, 0, (0 : Int), [])]
/-- 3: BranchedSums$Bag.drop(I)V, 2 arguments, 5 locals -/
def zX0_drop : List zE := [(.iload_n 1, 0, 0, 0, 0, (0 : Int), []),
  (.iconst 1, 1, 0, 0, 0, (0 : Int), []),
  (.iadd, 2, 0, 0, 0, (0 : Int), []),
  (.istore_n 2, 3, 0, 0, 0, (0 : Int), []),
  (.iload_n 2, 4, 0, 0, 0, (0 : Int), []),
  (.aload_n 0, 5, 0, 0, 0, (0 : Int), []),
  (.getfield 32, 6, 0, 4, 0, (0 : Int), [88]),
  (.if_icmp .ge 63, 9, 40, 0, 0, (0 : Int), []),
  (.aload_n 0, 12, 0, 0, 0, (0 : Int), []),
  (.getfield 9, 13, 0, 0, 1, (0 : Int), [79]),
  (.iload_n 2, 16, 0, 0, 0, (0 : Int), []),
  (.iconst 1, 17, 0, 0, 0, (0 : Int), []),
  (.isub, 18, 0, 0, 0, (0 : Int), []),
  (.aload_n 0, 19, 0, 0, 0, (0 : Int), []),
  (.getfield 9, 20, 0, 0, 1, (0 : Int), [79]),
  (.iload_n 2, 23, 0, 0, 0, (0 : Int), []),
  (.invokestatic 50, 24, 83, 2, 1, (0 : Int), [310]),
  (.invokestatic 35, 27, 84, 3, 1, (0 : Int), [300]),
  (.aload_n 0, 30, 0, 0, 0, (0 : Int), []),
  (.getfield 15, 31, 0, 1, 2, (0 : Int), [82]),
  (.iload_n 2, 34, 0, 0, 0, (0 : Int), []),
  (.iconst 1, 35, 0, 0, 0, (0 : Int), []),
  (.isub, 36, 0, 0, 0, (0 : Int), []),
  (.aload_n 0, 37, 0, 0, 0, (0 : Int), []),
  (.getfield 15, 38, 0, 1, 2, (0 : Int), [82]),
  (.iload_n 2, 41, 0, 0, 0, (0 : Int), []),
  (.invokestatic 50, 42, 83, 2, 1, (0 : Int), [310]),
  (.invokestatic 35, 45, 84, 3, 1, (0 : Int), [300]),
  (.aload_n 0, 48, 0, 0, 0, (0 : Int), []),
  (.getfield 18, 49, 0, 2, 3, (0 : Int), [84]),
  (.iload_n 2, 52, 0, 0, 0, (0 : Int), []),
  (.iconst 1, 53, 0, 0, 0, (0 : Int), []),
  (.isub, 54, 0, 0, 0, (0 : Int), []),
  (.aload_n 0, 55, 0, 0, 0, (0 : Int), []),
  (.getfield 18, 56, 0, 2, 3, (0 : Int), [84]),
  (.iload_n 2, 59, 0, 0, 0, (0 : Int), []),
  (.invokestatic 50, 60, 83, 2, 1, (0 : Int), [310]),
  (.invokestatic 35, 63, 84, 3, 1, (0 : Int), [300]),
  (.iinc 2 1, 66, 0, 0, 0, (0 : Int), []),
  (.goto (-65), 69, 4, 0, 0, (0 : Int), []),
  (.aload_n 0, 72, 0, 0, 0, (0 : Int), []),
  (.dup, 73, 0, 0, 0, (0 : Int), []),
  (.getfield 32, 74, 0, 4, 0, (0 : Int), [88]),
  (.iconst 1, 77, 0, 0, 0, (0 : Int), []),
  (.isub, 78, 0, 0, 0, (0 : Int), []),
  (.putfield 32, 79, 0, 4, 0, (0 : Int), [88]),
  (.iconst 1, 82, 0, 0, 0, (0 : Int), []),
  (.iload_n 1, 83, 0, 0, 0, (0 : Int), []),
  (.ishl, 84, 0, 0, 0, (0 : Int), []),
  (.iconst 1, 85, 0, 0, 0, (0 : Int), []),
  (.isub, 86, 0, 0, 0, (0 : Int), []),
  (.istore_n 2, 87, 0, 0, 0, (0 : Int), []),
  (.iconst 0, 88, 0, 0, 0, (0 : Int), []),
  (.istore_n 3, 89, 0, 0, 0, (0 : Int), []),
  (.iload_n 3, 90, 0, 0, 0, (0 : Int), []),
  (.aload_n 0, 91, 0, 0, 0, (0 : Int), []),
  (.getfield 32, 92, 0, 4, 0, (0 : Int), [88]),
  (.if_icmp .ge 40, 95, 80, 0, 0, (0 : Int), []),
  (.aload_n 0, 98, 0, 0, 0, (0 : Int), []),
  (.getfield 18, 99, 0, 2, 3, (0 : Int), [84]),
  (.iload_n 3, 102, 0, 0, 0, (0 : Int), []),
  (.invokestatic 50, 103, 83, 2, 1, (0 : Int), [310]),
  (.istore 4, 106, 0, 0, 0, (0 : Int), []),
  (.aload_n 0, 108, 0, 0, 0, (0 : Int), []),
  (.getfield 18, 109, 0, 2, 3, (0 : Int), [84]),
  (.iload_n 3, 112, 0, 0, 0, (0 : Int), []),
  (.iload 4, 113, 0, 0, 0, (0 : Int), []),
  (.iload_n 2, 115, 0, 0, 0, (0 : Int), []),
  (.iand, 116, 0, 0, 0, (0 : Int), []),
  (.iload 4, 117, 0, 0, 0, (0 : Int), []),
  (.iconst 1, 119, 0, 0, 0, (0 : Int), []),
  (.ishr, 120, 0, 0, 0, (0 : Int), []),
  (.iload_n 2, 121, 0, 0, 0, (0 : Int), []),
  (.iconst (-1), 122, 0, 0, 0, (0 : Int), []),
  (.ixor, 123, 0, 0, 0, (0 : Int), []),
  (.iand, 124, 0, 0, 0, (0 : Int), []),
  (.ior, 125, 0, 0, 0, (0 : Int), []),
  (.invokestatic 35, 126, 84, 3, 1, (0 : Int), [300]),
  (.iinc 3 1, 129, 0, 0, 0, (0 : Int), []),
  (.goto (-42), 132, 54, 0, 0, (0 : Int), []),
  (.aload_n 0, 135, 0, 0, 0, (0 : Int), []),
  (.invokevirtual 47, 136, 6, 1, 0, (0 : Int), [313]),
  (.return_, 139, 0, 0, 0, (0 : Int), [])]
/-- 4: BranchedSums$Bag.turnBar(II)V, 3 arguments, 3 locals -/
def zX0_turnBar : List zE := [(.aload_n 0, 0, 0, 0, 0, (0 : Int), []),
  (.getfield 18, 1, 0, 2, 3, (0 : Int), [84]),
  (.iload_n 1, 4, 0, 0, 0, (0 : Int), []),
  (.aload_n 0, 5, 0, 0, 0, (0 : Int), []),
  (.getfield 18, 6, 0, 2, 3, (0 : Int), [84]),
  (.iload_n 1, 9, 0, 0, 0, (0 : Int), []),
  (.invokestatic 50, 10, 83, 2, 1, (0 : Int), [310]),
  (.iconst 1, 13, 0, 0, 0, (0 : Int), []),
  (.iload_n 2, 14, 0, 0, 0, (0 : Int), []),
  (.ishl, 15, 0, 0, 0, (0 : Int), []),
  (.ixor, 16, 0, 0, 0, (0 : Int), []),
  (.invokestatic 35, 17, 84, 3, 1, (0 : Int), [300]),
  (.aload_n 0, 20, 0, 0, 0, (0 : Int), []),
  (.getfield 18, 21, 0, 2, 3, (0 : Int), [84]),
  (.iload_n 2, 24, 0, 0, 0, (0 : Int), []),
  (.aload_n 0, 25, 0, 0, 0, (0 : Int), []),
  (.getfield 18, 26, 0, 2, 3, (0 : Int), [84]),
  (.iload_n 2, 29, 0, 0, 0, (0 : Int), []),
  (.invokestatic 50, 30, 83, 2, 1, (0 : Int), [310]),
  (.iconst 1, 33, 0, 0, 0, (0 : Int), []),
  (.iload_n 1, 34, 0, 0, 0, (0 : Int), []),
  (.ishl, 35, 0, 0, 0, (0 : Int), []),
  (.ixor, 36, 0, 0, 0, (0 : Int), []),
  (.invokestatic 35, 37, 84, 3, 1, (0 : Int), [300]),
  (.return_, 40, 0, 0, 0, (0 : Int), [])]
/-- 5: BranchedSums$Bag.pairs()I, 1 arguments, 3 locals -/
def zX0_pairs : List zE := [(.iconst 0, 0, 0, 0, 0, (0 : Int), []),
  (.istore_n 1, 1, 0, 0, 0, (0 : Int), []),
  (.iconst 0, 2, 0, 0, 0, (0 : Int), []),
  (.istore_n 2, 3, 0, 0, 0, (0 : Int), []),
  (.iload_n 2, 4, 0, 0, 0, (0 : Int), []),
  (.aload_n 0, 5, 0, 0, 0, (0 : Int), []),
  (.getfield 32, 6, 0, 4, 0, (0 : Int), [88]),
  (.if_icmp .ge 23, 9, 18, 0, 0, (0 : Int), []),
  (.iload_n 1, 12, 0, 0, 0, (0 : Int), []),
  (.aload_n 0, 13, 0, 0, 0, (0 : Int), []),
  (.getfield 18, 14, 0, 2, 3, (0 : Int), [84]),
  (.iload_n 2, 17, 0, 0, 0, (0 : Int), []),
  (.invokestatic 50, 18, 83, 2, 1, (0 : Int), [310]),
  (.invokestatic 54, 21, 148, 1, 0, (0 : Int), [375]),
  (.iadd, 24, 0, 0, 0, (0 : Int), []),
  (.istore_n 1, 25, 0, 0, 0, (0 : Int), []),
  (.iinc 2 1, 26, 0, 0, 0, (0 : Int), []),
  (.goto (-25), 29, 4, 0, 0, (0 : Int), []),
  (.iload_n 1, 32, 0, 0, 0, (0 : Int), []),
  (.iconst 2, 33, 0, 0, 0, (0 : Int), []),
  (.idiv, 34, 0, 0, 0, (0 : Int), []),
  (.ireturn, 35, 0, 0, 0, (0 : Int), [])]
/-- 6: BranchedSums$Bag.sortByRatio()V, 1 arguments, 3 locals -/
def zX0_sortByRatio : List zE := [(.iconst 0, 0, 0, 0, 0, (0 : Int), []),
  (.istore_n 1, 1, 0, 0, 0, (0 : Int), []),
  (.iload_n 1, 2, 0, 0, 0, (0 : Int), []),
  (.aload_n 0, 3, 0, 0, 0, (0 : Int), []),
  (.getfield 32, 4, 0, 4, 0, (0 : Int), [88]),
  (.if_icmp .ge 66, 7, 39, 0, 0, (0 : Int), []),
  (.iload_n 1, 10, 0, 0, 0, (0 : Int), []),
  (.istore_n 2, 11, 0, 0, 0, (0 : Int), []),
  (.iload_n 2, 12, 0, 0, 0, (0 : Int), []),
  (.ifCond .le 45, 13, 32, 0, 0, (0 : Int), []),
  (.aload_n 0, 16, 0, 0, 0, (0 : Int), []),
  (.iload_n 1, 17, 0, 0, 0, (0 : Int), []),
  (.aload_n 0, 18, 0, 0, 0, (0 : Int), []),
  (.getfield 21, 19, 0, 3, 4, (0 : Int), [86]),
  (.iload_n 2, 22, 0, 0, 0, (0 : Int), []),
  (.iconst 1, 23, 0, 0, 0, (0 : Int), []),
  (.isub, 24, 0, 0, 0, (0 : Int), []),
  (.invokestatic 50, 25, 83, 2, 1, (0 : Int), [310]),
  (.invokevirtual 60, 28, 7, 3, 0, (0 : Int), [317]),
  (.ifCond .eq 27, 31, 32, 0, 0, (0 : Int), []),
  (.aload_n 0, 34, 0, 0, 0, (0 : Int), []),
  (.getfield 21, 35, 0, 3, 4, (0 : Int), [86]),
  (.iload_n 2, 38, 0, 0, 0, (0 : Int), []),
  (.aload_n 0, 39, 0, 0, 0, (0 : Int), []),
  (.getfield 21, 40, 0, 3, 4, (0 : Int), [86]),
  (.iload_n 2, 43, 0, 0, 0, (0 : Int), []),
  (.iconst 1, 44, 0, 0, 0, (0 : Int), []),
  (.isub, 45, 0, 0, 0, (0 : Int), []),
  (.invokestatic 50, 46, 83, 2, 1, (0 : Int), [310]),
  (.invokestatic 35, 49, 84, 3, 1, (0 : Int), [300]),
  (.iinc 2 (-1), 52, 0, 0, 0, (0 : Int), []),
  (.goto (-43), 55, 8, 0, 0, (0 : Int), []),
  (.aload_n 0, 58, 0, 0, 0, (0 : Int), []),
  (.getfield 21, 59, 0, 3, 4, (0 : Int), [86]),
  (.iload_n 2, 62, 0, 0, 0, (0 : Int), []),
  (.iload_n 1, 63, 0, 0, 0, (0 : Int), []),
  (.invokestatic 35, 64, 84, 3, 1, (0 : Int), [300]),
  (.iinc 1 1, 67, 0, 0, 0, (0 : Int), []),
  (.goto (-68), 70, 2, 0, 0, (0 : Int), []),
  (.return_, 73, 0, 0, 0, (0 : Int), [])]
/-- 7: BranchedSums$Bag.isAhead(II)Z, 3 arguments, 3 locals -/
def zX0_isAhead : List zE := [(.aload_n 0, 0, 0, 0, 0, (0 : Int), []),
  (.getfield 9, 1, 0, 0, 1, (0 : Int), [79]),
  (.iload_n 1, 4, 0, 0, 0, (0 : Int), []),
  (.invokestatic 50, 5, 83, 2, 1, (0 : Int), [310]),
  (.aload_n 0, 8, 0, 0, 0, (0 : Int), []),
  (.getfield 15, 9, 0, 1, 2, (0 : Int), [82]),
  (.iload_n 2, 12, 0, 0, 0, (0 : Int), []),
  (.invokestatic 50, 13, 83, 2, 1, (0 : Int), [310]),
  (.imul, 16, 0, 0, 0, (0 : Int), []),
  (.aload_n 0, 17, 0, 0, 0, (0 : Int), []),
  (.getfield 9, 18, 0, 0, 1, (0 : Int), [79]),
  (.iload_n 2, 21, 0, 0, 0, (0 : Int), []),
  (.invokestatic 50, 22, 83, 2, 1, (0 : Int), [310]),
  (.aload_n 0, 25, 0, 0, 0, (0 : Int), []),
  (.getfield 15, 26, 0, 1, 2, (0 : Int), [82]),
  (.iload_n 1, 29, 0, 0, 0, (0 : Int), []),
  (.invokestatic 50, 30, 83, 2, 1, (0 : Int), [310]),
  (.imul, 33, 0, 0, 0, (0 : Int), []),
  (.if_icmp .le 7, 34, 21, 0, 0, (0 : Int), []),
  (.iconst 1, 37, 0, 0, 0, (0 : Int), []),
  (.goto 4, 38, 22, 0, 0, (0 : Int), []),
  (.iconst 0, 41, 0, 0, 0, (0 : Int), []),
  (.ireturn, 42, 1, 0, 0, (0 : Int), [])]
/-- 8: BranchedSums$Bag.placeOf(I)I, 2 arguments, 3 locals -/
def zX0_placeOf : List zE := [(.iconst 0, 0, 0, 0, 0, (0 : Int), []),
  (.istore_n 2, 1, 0, 0, 0, (0 : Int), []),
  (.iload_n 2, 2, 0, 0, 0, (0 : Int), []),
  (.aload_n 0, 3, 0, 0, 0, (0 : Int), []),
  (.getfield 32, 4, 0, 4, 0, (0 : Int), [88]),
  (.if_icmp .ge 23, 7, 16, 0, 0, (0 : Int), []),
  (.aload_n 0, 10, 0, 0, 0, (0 : Int), []),
  (.getfield 21, 11, 0, 3, 4, (0 : Int), [86]),
  (.iload_n 2, 14, 0, 0, 0, (0 : Int), []),
  (.invokestatic 50, 15, 83, 2, 1, (0 : Int), [310]),
  (.iload_n 1, 18, 0, 0, 0, (0 : Int), []),
  (.if_icmp .ne 5, 19, 14, 0, 0, (0 : Int), []),
  (.iload_n 2, 22, 0, 0, 0, (0 : Int), []),
  (.ireturn, 23, 0, 0, 0, (0 : Int), []),
  (.iinc 2 1, 24, 0, 0, 0, (0 : Int), []),
  (.goto (-25), 27, 2, 0, 0, (0 : Int), []),
  (.bipush (-5), 30, 0, 0, 0, (0 : Int), []),
  (.ireturn, 32, 0, 0, 0, (0 : Int), [])]
/-- 9: BranchedSums$Bag.canFix(II)Z, 3 arguments, 4 locals -/
def zX0_canFix : List zE := [(.iconst (-1), 0, 0, 0, 0, (0 : Int), []),
  (.aload_n 0, 1, 0, 0, 0, (0 : Int), []),
  (.getfield 32, 2, 0, 4, 0, (0 : Int), [88]),
  (.ishl, 5, 0, 0, 0, (0 : Int), []),
  (.istore_n 3, 6, 0, 0, 0, (0 : Int), []),
  (.iload_n 1, 7, 0, 0, 0, (0 : Int), []),
  (.iload_n 2, 8, 0, 0, 0, (0 : Int), []),
  (.ior, 9, 0, 0, 0, (0 : Int), []),
  (.iload_n 3, 10, 0, 0, 0, (0 : Int), []),
  (.iand, 11, 0, 0, 0, (0 : Int), []),
  (.ifCond .ne 13, 12, 17, 0, 0, (0 : Int), []),
  (.iload_n 1, 15, 0, 0, 0, (0 : Int), []),
  (.iload_n 2, 16, 0, 0, 0, (0 : Int), []),
  (.iand, 17, 0, 0, 0, (0 : Int), []),
  (.ifCond .ne 7, 18, 17, 0, 0, (0 : Int), []),
  (.iconst 1, 21, 0, 0, 0, (0 : Int), []),
  (.goto 4, 22, 18, 0, 0, (0 : Int), []),
  (.iconst 0, 25, 0, 0, 0, (0 : Int), []),
  (.ireturn, 26, 1, 0, 0, (0 : Int), [])]
/-- 10: BranchedSums$Bag.isPossible(I)Z, 2 arguments, 2 locals -/
def zX0_isPossible : List zE := [(.aload_n 0, 0, 0, 0, 0, (0 : Int), []),
  (.getfield 15, 1, 0, 1, 2, (0 : Int), [82]),
  (.iload_n 1, 4, 0, 0, 0, (0 : Int), []),
  (.invokestatic 63, 5, 85, 2, 1, (0 : Int), [406]),
  (.aload_n 0, 8, 0, 0, 0, (0 : Int), []),
  (.getfield 24, 9, 0, 5, 0, (0 : Int), [89]),
  (.if_icmp .gt 17, 12, 15, 0, 0, (0 : Int), []),
  (.aload_n 0, 15, 0, 0, 0, (0 : Int), []),
  (.iload_n 1, 16, 0, 0, 0, (0 : Int), []),
  (.invokevirtual 66, 17, 11, 2, 0, (0 : Int), [409]),
  (.iload_n 1, 20, 0, 0, 0, (0 : Int), []),
  (.iand, 21, 0, 0, 0, (0 : Int), []),
  (.ifCond .ne 7, 22, 15, 0, 0, (0 : Int), []),
  (.iconst 1, 25, 0, 0, 0, (0 : Int), []),
  (.goto 4, 26, 16, 0, 0, (0 : Int), []),
  (.iconst 0, 29, 0, 0, 0, (0 : Int), []),
  (.ireturn, 30, 1, 0, 0, (0 : Int), [])]
/-- 11: BranchedSums$Bag.barredBy(I)I, 2 arguments, 4 locals -/
def zX0_barredBy : List zE := [(.iconst 0, 0, 0, 0, 0, (0 : Int), []),
  (.istore_n 2, 1, 0, 0, 0, (0 : Int), []),
  (.iconst 0, 2, 0, 0, 0, (0 : Int), []),
  (.istore_n 3, 3, 0, 0, 0, (0 : Int), []),
  (.iload_n 3, 4, 0, 0, 0, (0 : Int), []),
  (.aload_n 0, 5, 0, 0, 0, (0 : Int), []),
  (.getfield 18, 6, 0, 2, 3, (0 : Int), [84]),
  (.arraylength, 9, 0, 0, 0, (0 : Int), []),
  (.if_icmp .ge 26, 10, 24, 0, 0, (0 : Int), []),
  (.iload_n 1, 13, 0, 0, 0, (0 : Int), []),
  (.iconst 1, 14, 0, 0, 0, (0 : Int), []),
  (.iload_n 3, 15, 0, 0, 0, (0 : Int), []),
  (.ishl, 16, 0, 0, 0, (0 : Int), []),
  (.iand, 17, 0, 0, 0, (0 : Int), []),
  (.ifCond .eq 12, 18, 22, 0, 0, (0 : Int), []),
  (.iload_n 2, 21, 0, 0, 0, (0 : Int), []),
  (.aload_n 0, 22, 0, 0, 0, (0 : Int), []),
  (.getfield 18, 23, 0, 2, 3, (0 : Int), [84]),
  (.iload_n 3, 26, 0, 0, 0, (0 : Int), []),
  (.iaload, 27, 0, 0, 0, (0 : Int), []),
  (.ior, 28, 0, 0, 0, (0 : Int), []),
  (.istore_n 2, 29, 0, 0, 0, (0 : Int), []),
  (.iinc 3 1, 30, 0, 0, 0, (0 : Int), []),
  (.goto (-29), 33, 4, 0, 0, (0 : Int), []),
  (.iload_n 2, 36, 0, 0, 0, (0 : Int), []),
  (.ireturn, 37, 0, 0, 0, (0 : Int), [])]
/-- 12: BranchedSums$Bag.freeThings(II)I, 3 arguments, 7 locals -/
def zX0_freeThings : List zE := [(.aload_n 0, 0, 0, 0, 0, (0 : Int), []),
  (.getfield 24, 1, 0, 5, 0, (0 : Int), [89]),
  (.aload_n 0, 4, 0, 0, 0, (0 : Int), []),
  (.getfield 15, 5, 0, 1, 2, (0 : Int), [82]),
  (.iload_n 1, 8, 0, 0, 0, (0 : Int), []),
  (.invokestatic 63, 9, 85, 2, 1, (0 : Int), [406]),
  (.isub, 12, 0, 0, 0, (0 : Int), []),
  (.istore_n 3, 13, 0, 0, 0, (0 : Int), []),
  (.iload_n 1, 14, 0, 0, 0, (0 : Int), []),
  (.iload_n 2, 15, 0, 0, 0, (0 : Int), []),
  (.ior, 16, 0, 0, 0, (0 : Int), []),
  (.aload_n 0, 17, 0, 0, 0, (0 : Int), []),
  (.iload_n 1, 18, 0, 0, 0, (0 : Int), []),
  (.invokevirtual 66, 19, 11, 2, 0, (0 : Int), [409]),
  (.ior, 22, 0, 0, 0, (0 : Int), []),
  (.istore 4, 23, 0, 0, 0, (0 : Int), []),
  (.iconst 0, 25, 0, 0, 0, (0 : Int), []),
  (.istore 5, 26, 0, 0, 0, (0 : Int), []),
  (.iconst 0, 28, 0, 0, 0, (0 : Int), []),
  (.istore 6, 29, 0, 0, 0, (0 : Int), []),
  (.iload 6, 31, 0, 0, 0, (0 : Int), []),
  (.aload_n 0, 33, 0, 0, 0, (0 : Int), []),
  (.getfield 32, 34, 0, 4, 0, (0 : Int), [88]),
  (.if_icmp .ge 41, 37, 42, 0, 0, (0 : Int), []),
  (.iload 4, 40, 0, 0, 0, (0 : Int), []),
  (.iload 6, 42, 0, 0, 0, (0 : Int), []),
  (.invokestatic 39, 44, 82, 2, 1, (0 : Int), [303]),
  (.ifCond .ne 25, 47, 40, 0, 0, (0 : Int), []),
  (.aload_n 0, 50, 0, 0, 0, (0 : Int), []),
  (.getfield 15, 51, 0, 1, 2, (0 : Int), [82]),
  (.iload 6, 54, 0, 0, 0, (0 : Int), []),
  (.invokestatic 50, 56, 83, 2, 1, (0 : Int), [310]),
  (.iload_n 3, 59, 0, 0, 0, (0 : Int), []),
  (.if_icmp .gt 12, 60, 40, 0, 0, (0 : Int), []),
  (.iload 5, 63, 0, 0, 0, (0 : Int), []),
  (.iconst 1, 65, 0, 0, 0, (0 : Int), []),
  (.iload 6, 66, 0, 0, 0, (0 : Int), []),
  (.ishl, 68, 0, 0, 0, (0 : Int), []),
  (.ior, 69, 0, 0, 0, (0 : Int), []),
  (.istore 5, 70, 0, 0, 0, (0 : Int), []),
  (.iinc 6 1, 72, 0, 0, 0, (0 : Int), []),
  (.goto (-44), 75, 20, 0, 0, (0 : Int), []),
  (.iload 5, 78, 0, 0, 0, (0 : Int), []),
  (.ireturn, 80, 0, 0, 0, (0 : Int), [])]
/-- 13: BranchedSums$Bag.bound(II)I, 3 arguments, 6 locals -/
def zX0_bound : List zE := [(.aload_n 0, 0, 0, 0, 0, (0 : Int), []),
  (.iload_n 1, 1, 0, 0, 0, (0 : Int), []),
  (.invokevirtual 69, 2, 10, 2, 0, (0 : Int), [402]),
  (.ifCond .ne 6, 5, 6, 0, 0, (0 : Int), []),
  (.bipush (-4), 8, 0, 0, 0, (0 : Int), []),
  (.ireturn, 10, 0, 0, 0, (0 : Int), []),
  (.aload_n 0, 11, 0, 0, 0, (0 : Int), []),
  (.iload_n 1, 12, 0, 0, 0, (0 : Int), []),
  (.iload_n 2, 13, 0, 0, 0, (0 : Int), []),
  (.invokevirtual 73, 14, 12, 3, 0, (0 : Int), [413]),
  (.istore_n 3, 17, 0, 0, 0, (0 : Int), []),
  (.iload_n 1, 18, 0, 0, 0, (0 : Int), []),
  (.aload_n 0, 19, 0, 0, 0, (0 : Int), []),
  (.iload_n 1, 20, 0, 0, 0, (0 : Int), []),
  (.iload_n 3, 21, 0, 0, 0, (0 : Int), []),
  (.invokevirtual 77, 22, 14, 3, 0, (0 : Int), [417]),
  (.ior, 25, 0, 0, 0, (0 : Int), []),
  (.istore 4, 26, 0, 0, 0, (0 : Int), []),
  (.aload_n 0, 28, 0, 0, 0, (0 : Int), []),
  (.iload_n 3, 29, 0, 0, 0, (0 : Int), []),
  (.iload 4, 30, 0, 0, 0, (0 : Int), []),
  (.iconst (-1), 32, 0, 0, 0, (0 : Int), []),
  (.ixor, 33, 0, 0, 0, (0 : Int), []),
  (.iand, 34, 0, 0, 0, (0 : Int), []),
  (.invokevirtual 80, 35, 15, 2, 0, (0 : Int), [421]),
  (.istore 5, 38, 0, 0, 0, (0 : Int), []),
  (.aload_n 0, 40, 0, 0, 0, (0 : Int), []),
  (.getfield 9, 41, 0, 0, 1, (0 : Int), [79]),
  (.iload 4, 44, 0, 0, 0, (0 : Int), []),
  (.invokestatic 63, 46, 85, 2, 1, (0 : Int), [406]),
  (.aload_n 0, 49, 0, 0, 0, (0 : Int), []),
  (.iload 5, 50, 0, 0, 0, (0 : Int), []),
  (.aload_n 0, 52, 0, 0, 0, (0 : Int), []),
  (.getfield 24, 53, 0, 5, 0, (0 : Int), [89]),
  (.aload_n 0, 56, 0, 0, 0, (0 : Int), []),
  (.getfield 15, 57, 0, 1, 2, (0 : Int), [82]),
  (.iload 4, 60, 0, 0, 0, (0 : Int), []),
  (.invokestatic 63, 62, 85, 2, 1, (0 : Int), [406]),
  (.isub, 65, 0, 0, 0, (0 : Int), []),
  (.invokevirtual 83, 66, 16, 3, 0, (0 : Int), [425]),
  (.iadd, 69, 0, 0, 0, (0 : Int), []),
  (.ireturn, 70, 0, 0, 0, (0 : Int), [])]
/-- 14: BranchedSums$Bag.wholeThings(II)I, 3 arguments, 7 locals -/
def zX0_wholeThings : List zE := [(.aload_n 0, 0, 0, 0, 0, (0 : Int), []),
  (.getfield 24, 1, 0, 5, 0, (0 : Int), [89]),
  (.aload_n 0, 4, 0, 0, 0, (0 : Int), []),
  (.getfield 15, 5, 0, 1, 2, (0 : Int), [82]),
  (.iload_n 1, 8, 0, 0, 0, (0 : Int), []),
  (.invokestatic 63, 9, 85, 2, 1, (0 : Int), [406]),
  (.isub, 12, 0, 0, 0, (0 : Int), []),
  (.istore_n 3, 13, 0, 0, 0, (0 : Int), []),
  (.iconst 0, 14, 0, 0, 0, (0 : Int), []),
  (.istore 4, 15, 0, 0, 0, (0 : Int), []),
  (.iconst 0, 17, 0, 0, 0, (0 : Int), []),
  (.istore 5, 18, 0, 0, 0, (0 : Int), []),
  (.iload 5, 20, 0, 0, 0, (0 : Int), []),
  (.aload_n 0, 22, 0, 0, 0, (0 : Int), []),
  (.getfield 32, 23, 0, 4, 0, (0 : Int), [88]),
  (.if_icmp .ge 57, 26, 44, 0, 0, (0 : Int), []),
  (.aload_n 0, 29, 0, 0, 0, (0 : Int), []),
  (.getfield 21, 30, 0, 3, 4, (0 : Int), [86]),
  (.iload 5, 33, 0, 0, 0, (0 : Int), []),
  (.invokestatic 50, 35, 83, 2, 1, (0 : Int), [310]),
  (.istore 6, 38, 0, 0, 0, (0 : Int), []),
  (.iload_n 2, 40, 0, 0, 0, (0 : Int), []),
  (.iload 6, 41, 0, 0, 0, (0 : Int), []),
  (.invokestatic 39, 43, 82, 2, 1, (0 : Int), [303]),
  (.ifCond .eq 31, 46, 42, 0, 0, (0 : Int), []),
  (.iload_n 3, 49, 0, 0, 0, (0 : Int), []),
  (.aload_n 0, 50, 0, 0, 0, (0 : Int), []),
  (.getfield 15, 51, 0, 1, 2, (0 : Int), [82]),
  (.iload 6, 54, 0, 0, 0, (0 : Int), []),
  (.invokestatic 50, 56, 83, 2, 1, (0 : Int), [310]),
  (.isub, 59, 0, 0, 0, (0 : Int), []),
  (.istore_n 3, 60, 0, 0, 0, (0 : Int), []),
  (.iload_n 3, 61, 0, 0, 0, (0 : Int), []),
  (.ifCond .ge 6, 62, 36, 0, 0, (0 : Int), []),
  (.iload 4, 65, 0, 0, 0, (0 : Int), []),
  (.ireturn, 67, 0, 0, 0, (0 : Int), []),
  (.iload 4, 68, 0, 0, 0, (0 : Int), []),
  (.iconst 1, 70, 0, 0, 0, (0 : Int), []),
  (.iload 6, 71, 0, 0, 0, (0 : Int), []),
  (.ishl, 73, 0, 0, 0, (0 : Int), []),
  (.ior, 74, 0, 0, 0, (0 : Int), []),
  (.istore 4, 75, 0, 0, 0, (0 : Int), []),
  (.iinc 5 1, 77, 0, 0, 0, (0 : Int), []),
  (.goto (-60), 80, 12, 0, 0, (0 : Int), []),
  (.iload 4, 83, 0, 0, 0, (0 : Int), []),
  (.ireturn, 85, 0, 0, 0, (0 : Int), [])]
/-- 15: BranchedSums$Bag.firstByRatio(I)I, 2 arguments, 4 locals -/
def zX0_firstByRatio : List zE := [(.iconst 0, 0, 0, 0, 0, (0 : Int), []),
  (.istore_n 2, 1, 0, 0, 0, (0 : Int), []),
  (.iload_n 2, 2, 0, 0, 0, (0 : Int), []),
  (.aload_n 0, 3, 0, 0, 0, (0 : Int), []),
  (.getfield 32, 4, 0, 4, 0, (0 : Int), [88]),
  (.if_icmp .ge 28, 7, 19, 0, 0, (0 : Int), []),
  (.aload_n 0, 10, 0, 0, 0, (0 : Int), []),
  (.getfield 21, 11, 0, 3, 4, (0 : Int), [86]),
  (.iload_n 2, 14, 0, 0, 0, (0 : Int), []),
  (.invokestatic 50, 15, 83, 2, 1, (0 : Int), [310]),
  (.istore_n 3, 18, 0, 0, 0, (0 : Int), []),
  (.iload_n 1, 19, 0, 0, 0, (0 : Int), []),
  (.iload_n 3, 20, 0, 0, 0, (0 : Int), []),
  (.invokestatic 39, 21, 82, 2, 1, (0 : Int), [303]),
  (.ifCond .eq 5, 24, 17, 0, 0, (0 : Int), []),
  (.iload_n 3, 27, 0, 0, 0, (0 : Int), []),
  (.ireturn, 28, 0, 0, 0, (0 : Int), []),
  (.iinc 2 1, 29, 0, 0, 0, (0 : Int), []),
  (.goto (-30), 32, 2, 0, 0, (0 : Int), []),
  (.bipush (-5), 35, 0, 0, 0, (0 : Int), []),
  (.ireturn, 37, 0, 0, 0, (0 : Int), [])]
/-- 16: BranchedSums$Bag.shareOf(II)I, 3 arguments, 4 locals -/
def zX0_shareOf : List zE := [(.aload_n 0, 0, 0, 0, 0, (0 : Int), []),
  (.getfield 15, 1, 0, 1, 2, (0 : Int), [82]),
  (.iload_n 1, 4, 0, 0, 0, (0 : Int), []),
  (.invokestatic 50, 5, 83, 2, 1, (0 : Int), [310]),
  (.istore_n 3, 8, 0, 0, 0, (0 : Int), []),
  (.iload_n 3, 9, 0, 0, 0, (0 : Int), []),
  (.ifCond .le 18, 10, 16, 0, 0, (0 : Int), []),
  (.aload_n 0, 13, 0, 0, 0, (0 : Int), []),
  (.getfield 9, 14, 0, 0, 1, (0 : Int), [79]),
  (.iload_n 1, 17, 0, 0, 0, (0 : Int), []),
  (.invokestatic 50, 18, 83, 2, 1, (0 : Int), [310]),
  (.iload_n 2, 21, 0, 0, 0, (0 : Int), []),
  (.imul, 22, 0, 0, 0, (0 : Int), []),
  (.iload_n 3, 23, 0, 0, 0, (0 : Int), []),
  (.idiv, 24, 0, 0, 0, (0 : Int), []),
  (.goto 4, 25, 17, 0, 0, (0 : Int), []),
  (.iconst 0, 28, 0, 0, 0, (0 : Int), []),
  (.ireturn, 29, 0, 0, 0, (0 : Int), [])]
/-- 17: BranchedSums$Bag.heel(II)I, 3 arguments, 9 locals -/
def zX0_heel : List zE := [(.aload_n 0, 0, 0, 0, 0, (0 : Int), []),
  (.iload_n 1, 1, 0, 0, 0, (0 : Int), []),
  (.iload_n 2, 2, 0, 0, 0, (0 : Int), []),
  (.invokevirtual 73, 3, 12, 3, 0, (0 : Int), [413]),
  (.istore_n 3, 6, 0, 0, 0, (0 : Int), []),
  (.aload_n 0, 7, 0, 0, 0, (0 : Int), []),
  (.getfield 24, 8, 0, 5, 0, (0 : Int), [89]),
  (.aload_n 0, 11, 0, 0, 0, (0 : Int), []),
  (.getfield 15, 12, 0, 1, 2, (0 : Int), [82]),
  (.iload_n 1, 15, 0, 0, 0, (0 : Int), []),
  (.invokestatic 63, 16, 85, 2, 1, (0 : Int), [406]),
  (.isub, 19, 0, 0, 0, (0 : Int), []),
  (.istore 4, 20, 0, 0, 0, (0 : Int), []),
  (.iload_n 1, 22, 0, 0, 0, (0 : Int), []),
  (.istore 5, 23, 0, 0, 0, (0 : Int), []),
  (.iconst 0, 25, 0, 0, 0, (0 : Int), []),
  (.istore 6, 26, 0, 0, 0, (0 : Int), []),
  (.iload 6, 28, 0, 0, 0, (0 : Int), []),
  (.aload_n 0, 30, 0, 0, 0, (0 : Int), []),
  (.getfield 32, 31, 0, 4, 0, (0 : Int), [88]),
  (.if_icmp .ge 93, 34, 64, 0, 0, (0 : Int), []),
  (.aload_n 0, 37, 0, 0, 0, (0 : Int), []),
  (.getfield 21, 38, 0, 3, 4, (0 : Int), [86]),
  (.iload 6, 41, 0, 0, 0, (0 : Int), []),
  (.invokestatic 50, 43, 83, 2, 1, (0 : Int), [310]),
  (.istore 7, 46, 0, 0, 0, (0 : Int), []),
  (.iload_n 3, 48, 0, 0, 0, (0 : Int), []),
  (.iload 7, 49, 0, 0, 0, (0 : Int), []),
  (.invokestatic 39, 51, 82, 2, 1, (0 : Int), [303]),
  (.ifCond .eq 21, 54, 38, 0, 0, (0 : Int), []),
  (.aload_n 0, 57, 0, 0, 0, (0 : Int), []),
  (.getfield 15, 58, 0, 1, 2, (0 : Int), [82]),
  (.iload 7, 61, 0, 0, 0, (0 : Int), []),
  (.invokestatic 50, 63, 83, 2, 1, (0 : Int), [310]),
  (.iload 4, 66, 0, 0, 0, (0 : Int), []),
  (.if_icmp .gt 7, 68, 38, 0, 0, (0 : Int), []),
  (.iconst 1, 71, 0, 0, 0, (0 : Int), []),
  (.goto 4, 72, 39, 0, 0, (0 : Int), []),
  (.iconst 0, 75, 0, 0, 0, (0 : Int), []),
  (.istore 8, 76, 0, 0, 0, (0 : Int), []),
  (.iload 8, 78, 0, 0, 0, (0 : Int), []),
  (.ifCond .eq 41, 80, 62, 0, 0, (0 : Int), []),
  (.aload_n 0, 83, 0, 0, 0, (0 : Int), []),
  (.getfield 18, 84, 0, 2, 3, (0 : Int), [84]),
  (.iload 7, 87, 0, 0, 0, (0 : Int), []),
  (.invokestatic 50, 89, 83, 2, 1, (0 : Int), [310]),
  (.iload 5, 92, 0, 0, 0, (0 : Int), []),
  (.iand, 94, 0, 0, 0, (0 : Int), []),
  (.ifCond .ne 26, 95, 62, 0, 0, (0 : Int), []),
  (.iload 5, 98, 0, 0, 0, (0 : Int), []),
  (.iconst 1, 100, 0, 0, 0, (0 : Int), []),
  (.iload 7, 101, 0, 0, 0, (0 : Int), []),
  (.ishl, 103, 0, 0, 0, (0 : Int), []),
  (.ior, 104, 0, 0, 0, (0 : Int), []),
  (.istore 5, 105, 0, 0, 0, (0 : Int), []),
  (.iload 4, 107, 0, 0, 0, (0 : Int), []),
  (.aload_n 0, 109, 0, 0, 0, (0 : Int), []),
  (.getfield 15, 110, 0, 1, 2, (0 : Int), [82]),
  (.iload 7, 113, 0, 0, 0, (0 : Int), []),
  (.invokestatic 50, 115, 83, 2, 1, (0 : Int), [310]),
  (.isub, 118, 0, 0, 0, (0 : Int), []),
  (.istore 4, 119, 0, 0, 0, (0 : Int), []),
  (.iinc 6 1, 121, 0, 0, 0, (0 : Int), []),
  (.goto (-96), 124, 17, 0, 0, (0 : Int), []),
  (.iload 5, 127, 0, 0, 0, (0 : Int), []),
  (.ireturn, 129, 0, 0, 0, (0 : Int), [])]
/-- 18: BranchedSums$Bag.thingToBranch(III)I, 4 arguments, 6 locals -/
def zX0_thingToBranch : List zE := [(.aload_n 0, 0, 0, 0, 0, (0 : Int), []),
  (.iload_n 1, 1, 0, 0, 0, (0 : Int), []),
  (.iload_n 2, 2, 0, 0, 0, (0 : Int), []),
  (.invokevirtual 73, 3, 12, 3, 0, (0 : Int), [413]),
  (.istore 4, 6, 0, 0, 0, (0 : Int), []),
  (.iload_n 3, 8, 0, 0, 0, (0 : Int), []),
  (.iconst 1, 9, 0, 0, 0, (0 : Int), []),
  (.if_icmp .ne 10, 10, 12, 0, 0, (0 : Int), []),
  (.aload_n 0, 13, 0, 0, 0, (0 : Int), []),
  (.iload 4, 14, 0, 0, 0, (0 : Int), []),
  (.invokevirtual 86, 16, 19, 2, 0, (0 : Int), [469]),
  (.ireturn, 19, 0, 0, 0, (0 : Int), []),
  (.iload_n 3, 20, 0, 0, 0, (0 : Int), []),
  (.iconst 2, 21, 0, 0, 0, (0 : Int), []),
  (.if_icmp .ne 12, 22, 21, 0, 0, (0 : Int), []),
  (.aload_n 0, 25, 0, 0, 0, (0 : Int), []),
  (.iload_n 1, 26, 0, 0, 0, (0 : Int), []),
  (.iload_n 2, 27, 0, 0, 0, (0 : Int), []),
  (.iload 4, 28, 0, 0, 0, (0 : Int), []),
  (.invokevirtual 89, 30, 20, 4, 0, (0 : Int), [473]),
  (.ireturn, 33, 0, 0, 0, (0 : Int), []),
  (.aload_n 0, 34, 0, 0, 0, (0 : Int), []),
  (.iload 4, 35, 0, 0, 0, (0 : Int), []),
  (.aload_n 0, 37, 0, 0, 0, (0 : Int), []),
  (.iload_n 1, 38, 0, 0, 0, (0 : Int), []),
  (.iload 4, 39, 0, 0, 0, (0 : Int), []),
  (.invokevirtual 77, 41, 14, 3, 0, (0 : Int), [417]),
  (.iconst (-1), 44, 0, 0, 0, (0 : Int), []),
  (.ixor, 45, 0, 0, 0, (0 : Int), []),
  (.iand, 46, 0, 0, 0, (0 : Int), []),
  (.invokevirtual 80, 47, 15, 2, 0, (0 : Int), [421]),
  (.istore 5, 50, 0, 0, 0, (0 : Int), []),
  (.iload 5, 52, 0, 0, 0, (0 : Int), []),
  (.bipush (-5), 54, 0, 0, 0, (0 : Int), []),
  (.if_icmp .ne 20, 56, 46, 0, 0, (0 : Int), []),
  (.aload_n 0, 59, 0, 0, 0, (0 : Int), []),
  (.iload 4, 60, 0, 0, 0, (0 : Int), []),
  (.aload_n 0, 62, 0, 0, 0, (0 : Int), []),
  (.iload_n 1, 63, 0, 0, 0, (0 : Int), []),
  (.iload_n 2, 64, 0, 0, 0, (0 : Int), []),
  (.invokevirtual 93, 65, 17, 3, 0, (0 : Int), [480]),
  (.iconst (-1), 68, 0, 0, 0, (0 : Int), []),
  (.ixor, 69, 0, 0, 0, (0 : Int), []),
  (.iand, 70, 0, 0, 0, (0 : Int), []),
  (.invokevirtual 80, 71, 15, 2, 0, (0 : Int), [421]),
  (.istore 5, 74, 0, 0, 0, (0 : Int), []),
  (.iload 5, 76, 0, 0, 0, (0 : Int), []),
  (.bipush (-5), 78, 0, 0, 0, (0 : Int), []),
  (.if_icmp .ne 12, 80, 53, 0, 0, (0 : Int), []),
  (.aload_n 0, 83, 0, 0, 0, (0 : Int), []),
  (.iload 4, 84, 0, 0, 0, (0 : Int), []),
  (.invokevirtual 80, 86, 15, 2, 0, (0 : Int), [421]),
  (.goto 5, 89, 54, 0, 0, (0 : Int), []),
  (.iload 5, 92, 0, 0, 0, (0 : Int), []),
  (.ireturn, 94, 0, 0, 0, (0 : Int), [])]
/-- 19: BranchedSums$Bag.heaviest(I)I, 2 arguments, 4 locals -/
def zX0_heaviest : List zE := [(.bipush (-5), 0, 0, 0, 0, (0 : Int), []),
  (.istore_n 2, 2, 0, 0, 0, (0 : Int), []),
  (.iconst 0, 3, 0, 0, 0, (0 : Int), []),
  (.istore_n 3, 4, 0, 0, 0, (0 : Int), []),
  (.iload_n 3, 5, 0, 0, 0, (0 : Int), []),
  (.aload_n 0, 6, 0, 0, 0, (0 : Int), []),
  (.getfield 32, 7, 0, 4, 0, (0 : Int), [88]),
  (.if_icmp .ge 44, 10, 28, 0, 0, (0 : Int), []),
  (.iload_n 1, 13, 0, 0, 0, (0 : Int), []),
  (.iload_n 3, 14, 0, 0, 0, (0 : Int), []),
  (.invokestatic 39, 15, 82, 2, 1, (0 : Int), [303]),
  (.ifCond .eq 30, 18, 26, 0, 0, (0 : Int), []),
  (.iload_n 2, 21, 0, 0, 0, (0 : Int), []),
  (.bipush (-5), 22, 0, 0, 0, (0 : Int), []),
  (.if_icmp .eq 22, 24, 24, 0, 0, (0 : Int), []),
  (.aload_n 0, 27, 0, 0, 0, (0 : Int), []),
  (.getfield 15, 28, 0, 1, 2, (0 : Int), [82]),
  (.iload_n 3, 31, 0, 0, 0, (0 : Int), []),
  (.invokestatic 50, 32, 83, 2, 1, (0 : Int), [310]),
  (.aload_n 0, 35, 0, 0, 0, (0 : Int), []),
  (.getfield 15, 36, 0, 1, 2, (0 : Int), [82]),
  (.iload_n 2, 39, 0, 0, 0, (0 : Int), []),
  (.invokestatic 50, 40, 83, 2, 1, (0 : Int), [310]),
  (.if_icmp .le 5, 43, 26, 0, 0, (0 : Int), []),
  (.iload_n 3, 46, 0, 0, 0, (0 : Int), []),
  (.istore_n 2, 47, 0, 0, 0, (0 : Int), []),
  (.iinc 3 1, 48, 0, 0, 0, (0 : Int), []),
  (.goto (-46), 51, 4, 0, 0, (0 : Int), []),
  (.iload_n 2, 54, 0, 0, 0, (0 : Int), []),
  (.ireturn, 55, 0, 0, 0, (0 : Int), [])]
/-- 20: BranchedSums$Bag.bestByTrials(III)I, 4 arguments, 13 locals -/
def zX0_bestByTrials : List zE := [(.bipush (-5), 0, 0, 0, 0, (0 : Int), []),
  (.istore 4, 2, 0, 0, 0, (0 : Int), []),
  (.iconst 0, 4, 0, 0, 0, (0 : Int), []),
  (.istore 5, 5, 0, 0, 0, (0 : Int), []),
  (.iconst 0, 7, 0, 0, 0, (0 : Int), []),
  (.istore 6, 8, 0, 0, 0, (0 : Int), []),
  (.iconst 0, 10, 0, 0, 0, (0 : Int), []),
  (.istore 7, 11, 0, 0, 0, (0 : Int), []),
  (.iload 7, 13, 0, 0, 0, (0 : Int), []),
  (.aload_n 0, 15, 0, 0, 0, (0 : Int), []),
  (.getfield 32, 16, 0, 4, 0, (0 : Int), [88]),
  (.if_icmp .ge 125, 19, 73, 0, 0, (0 : Int), []),
  (.iload_n 3, 22, 0, 0, 0, (0 : Int), []),
  (.iload 7, 23, 0, 0, 0, (0 : Int), []),
  (.invokestatic 39, 25, 82, 2, 1, (0 : Int), [303]),
  (.ifCond .ne 6, 28, 17, 0, 0, (0 : Int), []),
  (.goto 107, 31, 71, 0, 0, (0 : Int), []),
  (.aload_n 0, 34, 0, 0, 0, (0 : Int), []),
  (.iload_n 1, 35, 0, 0, 0, (0 : Int), []),
  (.iconst 1, 36, 0, 0, 0, (0 : Int), []),
  (.iload 7, 37, 0, 0, 0, (0 : Int), []),
  (.ishl, 39, 0, 0, 0, (0 : Int), []),
  (.ior, 40, 0, 0, 0, (0 : Int), []),
  (.iload_n 2, 41, 0, 0, 0, (0 : Int), []),
  (.invokevirtual 96, 42, 13, 3, 0, (0 : Int), [477]),
  (.iconst 0, 45, 0, 0, 0, (0 : Int), []),
  (.invokestatic 99, 46, 0, 2, 3, (0 : Int), [478]),
  (.istore 8, 49, 0, 0, 0, (0 : Int), []),
  (.aload_n 0, 51, 0, 0, 0, (0 : Int), []),
  (.iload_n 1, 52, 0, 0, 0, (0 : Int), []),
  (.iload_n 2, 53, 0, 0, 0, (0 : Int), []),
  (.iconst 1, 54, 0, 0, 0, (0 : Int), []),
  (.iload 7, 55, 0, 0, 0, (0 : Int), []),
  (.ishl, 57, 0, 0, 0, (0 : Int), []),
  (.ior, 58, 0, 0, 0, (0 : Int), []),
  (.invokevirtual 96, 59, 13, 3, 0, (0 : Int), [477]),
  (.iconst 0, 62, 0, 0, 0, (0 : Int), []),
  (.invokestatic 99, 63, 0, 2, 3, (0 : Int), [478]),
  (.istore 9, 66, 0, 0, 0, (0 : Int), []),
  (.iload 8, 68, 0, 0, 0, (0 : Int), []),
  (.iload 9, 70, 0, 0, 0, (0 : Int), []),
  (.invokestatic 99, 72, 0, 2, 3, (0 : Int), [478]),
  (.istore 10, 75, 0, 0, 0, (0 : Int), []),
  (.iload 8, 77, 0, 0, 0, (0 : Int), []),
  (.iload 9, 79, 0, 0, 0, (0 : Int), []),
  (.invokestatic 104, 81, 0, 2, 4, (0 : Int), [479]),
  (.istore 11, 84, 0, 0, 0, (0 : Int), []),
  (.iload 10, 86, 0, 0, 0, (0 : Int), []),
  (.iload 5, 88, 0, 0, 0, (0 : Int), []),
  (.if_icmp .lt 17, 90, 56, 0, 0, (0 : Int), []),
  (.iload 10, 93, 0, 0, 0, (0 : Int), []),
  (.iload 5, 95, 0, 0, 0, (0 : Int), []),
  (.if_icmp .ne 14, 97, 58, 0, 0, (0 : Int), []),
  (.iload 11, 100, 0, 0, 0, (0 : Int), []),
  (.iload 6, 102, 0, 0, 0, (0 : Int), []),
  (.if_icmp .ge 7, 104, 58, 0, 0, (0 : Int), []),
  (.iconst 1, 107, 0, 0, 0, (0 : Int), []),
  (.goto 4, 108, 59, 0, 0, (0 : Int), []),
  (.iconst 0, 111, 0, 0, 0, (0 : Int), []),
  (.istore 12, 112, 0, 0, 0, (0 : Int), []),
  (.iload 4, 114, 0, 0, 0, (0 : Int), []),
  (.bipush (-5), 116, 0, 0, 0, (0 : Int), []),
  (.if_icmp .eq 8, 118, 65, 0, 0, (0 : Int), []),
  (.iload 12, 121, 0, 0, 0, (0 : Int), []),
  (.ifCond .eq 15, 123, 71, 0, 0, (0 : Int), []),
  (.iload 7, 126, 0, 0, 0, (0 : Int), []),
  (.istore 4, 128, 0, 0, 0, (0 : Int), []),
  (.iload 10, 130, 0, 0, 0, (0 : Int), []),
  (.istore 5, 132, 0, 0, 0, (0 : Int), []),
  (.iload 11, 134, 0, 0, 0, (0 : Int), []),
  (.istore 6, 136, 0, 0, 0, (0 : Int), []),
  (.iinc 7 1, 138, 0, 0, 0, (0 : Int), []),
  (.goto (-128), 141, 8, 0, 0, (0 : Int), []),
  (.iload 4, 144, 0, 0, 0, (0 : Int), []),
  (.ireturn, 146, 0, 0, 0, (0 : Int), [])]
/-- 21: BranchedSums$History.push(LBranchedSums$State;)V, 2 arguments, 3 locals -/
def zX1_push : List zE := [(.aload_n 0, 0, 0, 0, 0, (0 : Int), []),
  (.getfield 18, 1, 1, 2, 0, (0 : Int), [161]),
  (.iconst 4, 4, 0, 0, 0, (0 : Int), []),
  (.if_icmp .lt 25, 5, 18, 0, 0, (0 : Int), []),
  (.aload_n 0, 8, 0, 0, 0, (0 : Int), []),
  (.aload_n 0, 9, 0, 0, 0, (0 : Int), []),
  (.getfield 22, 10, 1, 1, 0, (0 : Int), [160]),
  (.iconst 1, 13, 0, 0, 0, (0 : Int), []),
  (.iadd, 14, 0, 0, 0, (0 : Int), []),
  (.iconst 4, 15, 0, 0, 0, (0 : Int), []),
  (.irem, 16, 0, 0, 0, (0 : Int), []),
  (.putfield 22, 17, 1, 1, 0, (0 : Int), [160]),
  (.aload_n 0, 20, 0, 0, 0, (0 : Int), []),
  (.dup, 21, 0, 0, 0, (0 : Int), []),
  (.getfield 18, 22, 1, 2, 0, (0 : Int), [161]),
  (.iconst 1, 25, 0, 0, 0, (0 : Int), []),
  (.isub, 26, 0, 0, 0, (0 : Int), []),
  (.putfield 18, 27, 1, 2, 0, (0 : Int), [161]),
  (.aload_n 0, 30, 0, 0, 0, (0 : Int), []),
  (.aload_n 0, 31, 0, 0, 0, (0 : Int), []),
  (.getfield 18, 32, 1, 2, 0, (0 : Int), [161]),
  (.invokevirtual 25, 35, 23, 2, 1, (0 : Int), [262]),
  (.astore_n 2, 38, 0, 0, 0, (0 : Int), []),
  (.aload_n 2, 39, 0, 0, 0, (0 : Int), []),
  (.ifnull 8, 40, 28, 0, 0, (0 : Int), []),
  (.aload_n 2, 43, 0, 0, 0, (0 : Int), []),
  (.aload_n 1, 44, 0, 0, 0, (0 : Int), []),
  (.invokevirtual 29, 45, 39, 2, 3, (0 : Int), [266]),
  (.aload_n 0, 48, 0, 0, 0, (0 : Int), []),
  (.dup, 49, 0, 0, 0, (0 : Int), []),
  (.getfield 18, 50, 1, 2, 0, (0 : Int), [161]),
  (.iconst 1, 53, 0, 0, 0, (0 : Int), []),
  (.iadd, 54, 0, 0, 0, (0 : Int), []),
  (.putfield 18, 55, 1, 2, 0, (0 : Int), [161]),
  (.return_, 58, 0, 0, 0, (0 : Int), [])]
/-- 22: BranchedSums$History.pop(LBranchedSums$State;)V, 2 arguments, 3 locals -/
def zX1_pop : List zE := [(.aload_n 0, 0, 0, 0, 0, (0 : Int), []),
  (.getfield 18, 1, 1, 2, 0, (0 : Int), [161]),
  (.ifCond .gt 4, 4, 4, 0, 0, (0 : Int), []),
  (.return_, 7, 0, 0, 0, (0 : Int), []),
  (.aload_n 0, 8, 0, 0, 0, (0 : Int), []),
  (.dup, 9, 0, 0, 0, (0 : Int), []),
  (.getfield 18, 10, 1, 2, 0, (0 : Int), [161]),
  (.iconst 1, 13, 0, 0, 0, (0 : Int), []),
  (.isub, 14, 0, 0, 0, (0 : Int), []),
  (.putfield 18, 15, 1, 2, 0, (0 : Int), [161]),
  (.aload_n 0, 18, 0, 0, 0, (0 : Int), []),
  (.aload_n 0, 19, 0, 0, 0, (0 : Int), []),
  (.getfield 18, 20, 1, 2, 0, (0 : Int), [161]),
  (.invokevirtual 25, 23, 23, 2, 1, (0 : Int), [262]),
  (.astore_n 2, 26, 0, 0, 0, (0 : Int), []),
  (.aload_n 2, 27, 0, 0, 0, (0 : Int), []),
  (.ifnull 8, 28, 20, 0, 0, (0 : Int), []),
  (.aload_n 1, 31, 0, 0, 0, (0 : Int), []),
  (.aload_n 2, 32, 0, 0, 0, (0 : Int), []),
  (.invokevirtual 29, 33, 39, 2, 3, (0 : Int), [266]),
  (.return_, 36, 0, 0, 0, (0 : Int), [])]
/-- 23: BranchedSums$History.stateAt(I)LBranchedSums$State;, 2 arguments, 3 locals -/
def zX1_stateAt : List zE := [(.aload_n 0, 0, 0, 0, 0, (0 : Int), []),
  (.getfield 22, 1, 1, 1, 0, (0 : Int), [160]),
  (.iload_n 1, 4, 0, 0, 0, (0 : Int), []),
  (.iadd, 5, 0, 0, 0, (0 : Int), []),
  (.iconst 4, 6, 0, 0, 0, (0 : Int), []),
  (.irem, 7, 0, 0, 0, (0 : Int), []),
  (.istore_n 2, 8, 0, 0, 0, (0 : Int), []),
  (.iload_n 2, 9, 0, 0, 0, (0 : Int), []),
  (.ifCond .lt 21, 10, 19, 0, 0, (0 : Int), []),
  (.iload_n 2, 13, 0, 0, 0, (0 : Int), []),
  (.aload_n 0, 14, 0, 0, 0, (0 : Int), []),
  (.getfield 11, 15, 1, 0, 2, (0 : Int), [159, 1]),
  (.arraylength, 18, 0, 0, 0, (0 : Int), []),
  (.if_icmp .ge 12, 19, 19, 0, 0, (0 : Int), []),
  (.aload_n 0, 22, 0, 0, 0, (0 : Int), []),
  (.getfield 11, 23, 1, 0, 2, (0 : Int), [159, 1]),
  (.iload_n 2, 26, 0, 0, 0, (0 : Int), []),
  (.aaload, 27, 0, 0, 0, (0 : Int), []),
  (.goto 4, 28, 20, 0, 0, (0 : Int), []),
  (.aconst_null, 31, 0, 0, 0, (0 : Int), []),
  (.areturn, 32, 0, 0, 0, (0 : Int), [])]
/-- 24: BranchedSums$Nodes.copyFrom(LBranchedSums$Nodes;)V, 2 arguments, 3 locals -/
def zX2_copyFrom : List zE := [(.aload_n 0, 0, 0, 0, 0, (0 : Int), []),
  (.getfield 11, 1, 2, 0, 1, (0 : Int), [111]),
  (.arraylength, 4, 0, 0, 0, (0 : Int), []),
  (.aload_n 1, 5, 0, 0, 0, (0 : Int), []),
  (.getfield 11, 6, 2, 0, 1, (0 : Int), [111]),
  (.arraylength, 9, 0, 0, 0, (0 : Int), []),
  (.invokestatic 15, 10, 0, 2, 4, (0 : Int), [287]),
  (.istore_n 2, 13, 0, 0, 0, (0 : Int), []),
  (.aload_n 0, 14, 0, 0, 0, (0 : Int), []),
  (.iconst 0, 15, 0, 0, 0, (0 : Int), []),
  (.aload_n 1, 16, 0, 0, 0, (0 : Int), []),
  (.getfield 21, 17, 2, 1, 0, (0 : Int), [112]),
  (.iload_n 2, 20, 0, 0, 0, (0 : Int), []),
  (.invokestatic 15, 21, 0, 2, 4, (0 : Int), [287]),
  (.invokestatic 25, 24, 0, 2, 3, (0 : Int), [288]),
  (.putfield 21, 27, 2, 1, 0, (0 : Int), [112]),
  (.aload_n 1, 30, 0, 0, 0, (0 : Int), []),
  (.getfield 11, 31, 2, 0, 1, (0 : Int), [111]),
  (.iconst 0, 34, 0, 0, 0, (0 : Int), []),
  (.aload_n 0, 35, 0, 0, 0, (0 : Int), []),
  (.getfield 11, 36, 2, 0, 1, (0 : Int), [111]),
  (.iconst 0, 39, 0, 0, 0, (0 : Int), []),
  (.aload_n 0, 40, 0, 0, 0, (0 : Int), []),
  (.getfield 21, 41, 2, 1, 0, (0 : Int), [112]),
  (.invokestatic 28, 44, 0, 5, 2, (0 : Int), [291]),
  (.return_, 47, 0, 0, 0, (0 : Int), [])]
/-- 25: BranchedSums$Nodes.knows(I)Z, 2 arguments, 2 locals -/
def zX2_knows : List zE := [(.iload_n 1, 0, 0, 0, 0, (0 : Int), []),
  (.ifCond .lt 15, 1, 8, 0, 0, (0 : Int), []),
  (.iload_n 1, 4, 0, 0, 0, (0 : Int), []),
  (.aload_n 0, 5, 0, 0, 0, (0 : Int), []),
  (.getfield 21, 6, 2, 1, 0, (0 : Int), [112]),
  (.if_icmp .ge 7, 9, 8, 0, 0, (0 : Int), []),
  (.iconst 1, 12, 0, 0, 0, (0 : Int), []),
  (.goto 4, 13, 9, 0, 0, (0 : Int), []),
  (.iconst 0, 16, 0, 0, 0, (0 : Int), []),
  (.ireturn, 17, 1, 0, 0, (0 : Int), [])]
/-- 26: BranchedSums$Nodes.append(IIIIII)V, 7 arguments, 7 locals -/
def zX2_append : List zE := [(.aload_n 0, 0, 0, 0, 0, (0 : Int), []),
  (.getfield 21, 1, 2, 1, 0, (0 : Int), [112]),
  (.ifCond .lt 71, 4, 49, 0, 0, (0 : Int), []),
  (.aload_n 0, 7, 0, 0, 0, (0 : Int), []),
  (.getfield 21, 8, 2, 1, 0, (0 : Int), [112]),
  (.aload_n 0, 11, 0, 0, 0, (0 : Int), []),
  (.getfield 11, 12, 2, 0, 1, (0 : Int), [111]),
  (.arraylength, 15, 0, 0, 0, (0 : Int), []),
  (.if_icmp .ge 59, 16, 49, 0, 0, (0 : Int), []),
  (.aload_n 0, 19, 0, 0, 0, (0 : Int), []),
  (.getfield 11, 20, 2, 0, 1, (0 : Int), [111]),
  (.aload_n 0, 23, 0, 0, 0, (0 : Int), []),
  (.getfield 21, 24, 2, 1, 0, (0 : Int), [112]),
  (.iload_n 2, 27, 0, 0, 0, (0 : Int), []),
  (.i2l, 28, 0, 0, 0, (0 : Int), []),
  (.bipush 60, 29, 0, 0, 0, (0 : Int), []),
  (.lshl, 31, 0, 0, 0, (0 : Int), []),
  (.iload 4, 32, 0, 0, 0, (0 : Int), []),
  (.i2l, 34, 0, 0, 0, (0 : Int), []),
  (.bipush 48, 35, 0, 0, 0, (0 : Int), []),
  (.lshl, 37, 0, 0, 0, (0 : Int), []),
  (.lor, 38, 0, 0, 0, (0 : Int), []),
  (.iload_n 3, 39, 0, 0, 0, (0 : Int), []),
  (.i2l, 40, 0, 0, 0, (0 : Int), []),
  (.bipush 36, 41, 0, 0, 0, (0 : Int), []),
  (.lshl, 43, 0, 0, 0, (0 : Int), []),
  (.lor, 44, 0, 0, 0, (0 : Int), []),
  (.iload 5, 45, 0, 0, 0, (0 : Int), []),
  (.i2l, 47, 0, 0, 0, (0 : Int), []),
  (.bipush 24, 48, 0, 0, 0, (0 : Int), []),
  (.lshl, 50, 0, 0, 0, (0 : Int), []),
  (.lor, 51, 0, 0, 0, (0 : Int), []),
  (.iload_n 1, 52, 0, 0, 0, (0 : Int), []),
  (.i2l, 53, 0, 0, 0, (0 : Int), []),
  (.bipush 12, 54, 0, 0, 0, (0 : Int), []),
  (.lshl, 56, 0, 0, 0, (0 : Int), []),
  (.lor, 57, 0, 0, 0, (0 : Int), []),
  (.iload 6, 58, 0, 0, 0, (0 : Int), []),
  (.i2l, 60, 0, 0, 0, (0 : Int), []),
  (.iconst 0, 61, 0, 0, 0, (0 : Int), []),
  (.lshl, 62, 0, 0, 0, (0 : Int), []),
  (.lor, 63, 0, 0, 0, (0 : Int), []),
  (.lastore, 64, 0, 0, 0, (0 : Int), []),
  (.aload_n 0, 65, 0, 0, 0, (0 : Int), []),
  (.dup, 66, 0, 0, 0, (0 : Int), []),
  (.getfield 21, 67, 2, 1, 0, (0 : Int), [112]),
  (.iconst 1, 70, 0, 0, 0, (0 : Int), []),
  (.iadd, 71, 0, 0, 0, (0 : Int), []),
  (.putfield 21, 72, 2, 1, 0, (0 : Int), [112]),
  (.return_, 75, 0, 0, 0, (0 : Int), [])]
/-- 27: BranchedSums$Nodes.part(II)I, 3 arguments, 3 locals -/
def zX2_part : List zE := [(.iload_n 1, 0, 0, 0, 0, (0 : Int), []),
  (.ifCond .lt 28, 1, 17, 0, 0, (0 : Int), []),
  (.iload_n 1, 4, 0, 0, 0, (0 : Int), []),
  (.aload_n 0, 5, 0, 0, 0, (0 : Int), []),
  (.getfield 11, 6, 2, 0, 1, (0 : Int), [111]),
  (.arraylength, 9, 0, 0, 0, (0 : Int), []),
  (.if_icmp .ge 19, 10, 17, 0, 0, (0 : Int), []),
  (.aload_n 0, 13, 0, 0, 0, (0 : Int), []),
  (.getfield 11, 14, 2, 0, 1, (0 : Int), [111]),
  (.iload_n 1, 17, 0, 0, 0, (0 : Int), []),
  (.laload, 18, 0, 0, 0, (0 : Int), []),
  (.iload_n 2, 19, 0, 0, 0, (0 : Int), []),
  (.lushr, 20, 0, 0, 0, (0 : Int), []),
  (.l2i, 21, 0, 0, 0, (0 : Int), []),
  (.sipush 4095, 22, 0, 0, 0, (0 : Int), []),
  (.iand, 25, 0, 0, 0, (0 : Int), []),
  (.goto 4, 26, 18, 0, 0, (0 : Int), []),
  (.iconst 0, 29, 0, 0, 0, (0 : Int), []),
  (.ireturn, 30, 0, 0, 0, (0 : Int), [])]
/-- 28: BranchedSums$Nodes.how(I)I, 2 arguments, 2 locals -/
def zX2_how : List zE := [(.aload_n 0, 0, 0, 0, 0, (0 : Int), []),
  (.iload_n 1, 1, 0, 0, 0, (0 : Int), []),
  (.iconst 0, 2, 0, 0, 0, (0 : Int), []),
  (.invokevirtual 34, 3, 27, 3, 2, (0 : Int), [242]),
  (.ireturn, 6, 0, 0, 0, (0 : Int), [])]
/-- 29: BranchedSums$Nodes.from(I)I, 2 arguments, 2 locals -/
def zX2_from : List zE := [(.aload_n 0, 0, 0, 0, 0, (0 : Int), []),
  (.iload_n 1, 1, 0, 0, 0, (0 : Int), []),
  (.bipush 12, 2, 0, 0, 0, (0 : Int), []),
  (.invokevirtual 34, 4, 27, 3, 2, (0 : Int), [242]),
  (.ireturn, 7, 0, 0, 0, (0 : Int), [])]
/-- 30: BranchedSums$Nodes.bound(I)I, 2 arguments, 2 locals -/
def zX2_bound : List zE := [(.aload_n 0, 0, 0, 0, 0, (0 : Int), []),
  (.iload_n 1, 1, 0, 0, 0, (0 : Int), []),
  (.bipush 24, 2, 0, 0, 0, (0 : Int), []),
  (.invokevirtual 34, 4, 27, 3, 2, (0 : Int), [242]),
  (.ireturn, 7, 0, 0, 0, (0 : Int), [])]
/-- 31: BranchedSums$Nodes.in(I)I, 2 arguments, 2 locals -/
def zX2_in : List zE := [(.aload_n 0, 0, 0, 0, 0, (0 : Int), []),
  (.iload_n 1, 1, 0, 0, 0, (0 : Int), []),
  (.bipush 36, 2, 0, 0, 0, (0 : Int), []),
  (.invokevirtual 34, 4, 27, 3, 2, (0 : Int), [242]),
  (.ireturn, 7, 0, 0, 0, (0 : Int), [])]
/-- 32: BranchedSums$Nodes.out(I)I, 2 arguments, 2 locals -/
def zX2_out : List zE := [(.aload_n 0, 0, 0, 0, 0, (0 : Int), []),
  (.iload_n 1, 1, 0, 0, 0, (0 : Int), []),
  (.bipush 48, 2, 0, 0, 0, (0 : Int), []),
  (.invokevirtual 34, 4, 27, 3, 2, (0 : Int), [242]),
  (.ireturn, 7, 0, 0, 0, (0 : Int), [])]
/-- 33: BranchedSums$Nodes.fixed(I)I, 2 arguments, 2 locals -/
def zX2_fixed : List zE := [(.aload_n 0, 0, 0, 0, 0, (0 : Int), []),
  (.iload_n 1, 1, 0, 0, 0, (0 : Int), []),
  (.bipush 60, 2, 0, 0, 0, (0 : Int), []),
  (.invokevirtual 34, 4, 27, 3, 2, (0 : Int), [242]),
  (.ireturn, 7, 0, 0, 0, (0 : Int), [])]
/-- 34: BranchedSums$Nodes.settle(II)V, 3 arguments, 3 locals -/
def zX2_settle : List zE := [(.iload_n 1, 0, 0, 0, 0, (0 : Int), []),
  (.ifCond .lt 33, 1, 22, 0, 0, (0 : Int), []),
  (.iload_n 1, 4, 0, 0, 0, (0 : Int), []),
  (.aload_n 0, 5, 0, 0, 0, (0 : Int), []),
  (.getfield 11, 6, 2, 0, 1, (0 : Int), [111]),
  (.arraylength, 9, 0, 0, 0, (0 : Int), []),
  (.if_icmp .ge 24, 10, 22, 0, 0, (0 : Int), []),
  (.aload_n 0, 13, 0, 0, 0, (0 : Int), []),
  (.getfield 11, 14, 2, 0, 1, (0 : Int), [111]),
  (.iload_n 1, 17, 0, 0, 0, (0 : Int), []),
  (.aload_n 0, 18, 0, 0, 0, (0 : Int), []),
  (.getfield 11, 19, 2, 0, 1, (0 : Int), [111]),
  (.iload_n 1, 22, 0, 0, 0, (0 : Int), []),
  (.laload, 23, 0, 0, 0, (0 : Int), []),
  (.ldc2_w 37, 24, 0, 0, 0, (-4096 : Int), [490]),
  (.land, 27, 0, 0, 0, (0 : Int), []),
  (.iload_n 2, 28, 0, 0, 0, (0 : Int), []),
  (.i2l, 29, 0, 0, 0, (0 : Int), []),
  (.iconst 0, 30, 0, 0, 0, (0 : Int), []),
  (.lshl, 31, 0, 0, 0, (0 : Int), []),
  (.lor, 32, 0, 0, 0, (0 : Int), []),
  (.lastore, 33, 0, 0, 0, (0 : Int), []),
  (.return_, 34, 0, 0, 0, (0 : Int), [])]
/-- 35: BranchedSums$Nodes.giveUpOpen()V, 1 arguments, 2 locals -/
def zX2_giveUpOpen : List zE := [(.iconst 0, 0, 0, 0, 0, (0 : Int), []),
  (.istore_n 1, 1, 0, 0, 0, (0 : Int), []),
  (.iload_n 1, 2, 0, 0, 0, (0 : Int), []),
  (.aload_n 0, 3, 0, 0, 0, (0 : Int), []),
  (.getfield 21, 4, 2, 1, 0, (0 : Int), [112]),
  (.if_icmp .ge 23, 7, 16, 0, 0, (0 : Int), []),
  (.aload_n 0, 10, 0, 0, 0, (0 : Int), []),
  (.iload_n 1, 11, 0, 0, 0, (0 : Int), []),
  (.invokevirtual 39, 12, 28, 2, 2, (0 : Int), [238]),
  (.ifCond .ne 9, 15, 14, 0, 0, (0 : Int), []),
  (.aload_n 0, 18, 0, 0, 0, (0 : Int), []),
  (.iload_n 1, 19, 0, 0, 0, (0 : Int), []),
  (.iconst 5, 20, 0, 0, 0, (0 : Int), []),
  (.invokevirtual 43, 21, 34, 3, 2, (0 : Int), [507]),
  (.iinc 1 1, 24, 0, 0, 0, (0 : Int), []),
  (.goto (-25), 27, 2, 0, 0, (0 : Int), []),
  (.return_, 30, 0, 0, 0, (0 : Int), [])]
/-- 36: BranchedSums$Nodes.countOf(I)I, 2 arguments, 4 locals -/
def zX2_countOf : List zE := [(.iconst 0, 0, 0, 0, 0, (0 : Int), []),
  (.istore_n 2, 1, 0, 0, 0, (0 : Int), []),
  (.iconst 0, 2, 0, 0, 0, (0 : Int), []),
  (.istore_n 3, 3, 0, 0, 0, (0 : Int), []),
  (.iload_n 3, 4, 0, 0, 0, (0 : Int), []),
  (.aload_n 0, 5, 0, 0, 0, (0 : Int), []),
  (.getfield 21, 6, 2, 1, 0, (0 : Int), [112]),
  (.if_icmp .ge 21, 9, 16, 0, 0, (0 : Int), []),
  (.aload_n 0, 12, 0, 0, 0, (0 : Int), []),
  (.iload_n 3, 13, 0, 0, 0, (0 : Int), []),
  (.invokevirtual 39, 14, 28, 2, 2, (0 : Int), [238]),
  (.iload_n 1, 17, 0, 0, 0, (0 : Int), []),
  (.if_icmp .ne 6, 18, 14, 0, 0, (0 : Int), []),
  (.iinc 2 1, 21, 0, 0, 0, (0 : Int), []),
  (.iinc 3 1, 24, 0, 0, 0, (0 : Int), []),
  (.goto (-23), 27, 4, 0, 0, (0 : Int), []),
  (.iload_n 2, 30, 0, 0, 0, (0 : Int), []),
  (.ireturn, 31, 0, 0, 0, (0 : Int), [])]
/-- 37: BranchedSums$Nodes.nextOpen(I)I, 2 arguments, 4 locals -/
def zX2_nextOpen : List zE := [(.bipush (-5), 0, 0, 0, 0, (0 : Int), []),
  (.istore_n 2, 2, 0, 0, 0, (0 : Int), []),
  (.iconst 0, 3, 0, 0, 0, (0 : Int), []),
  (.istore_n 3, 4, 0, 0, 0, (0 : Int), []),
  (.iload_n 3, 5, 0, 0, 0, (0 : Int), []),
  (.aload_n 0, 6, 0, 0, 0, (0 : Int), []),
  (.getfield 21, 7, 2, 1, 0, (0 : Int), [112]),
  (.if_icmp .ge 35, 10, 25, 0, 0, (0 : Int), []),
  (.aload_n 0, 13, 0, 0, 0, (0 : Int), []),
  (.iload_n 3, 14, 0, 0, 0, (0 : Int), []),
  (.invokevirtual 39, 15, 28, 2, 2, (0 : Int), [238]),
  (.ifCond .ne 21, 18, 23, 0, 0, (0 : Int), []),
  (.iload_n 2, 21, 0, 0, 0, (0 : Int), []),
  (.bipush (-5), 22, 0, 0, 0, (0 : Int), []),
  (.if_icmp .eq 13, 24, 21, 0, 0, (0 : Int), []),
  (.aload_n 0, 27, 0, 0, 0, (0 : Int), []),
  (.iload_n 3, 28, 0, 0, 0, (0 : Int), []),
  (.iload_n 2, 29, 0, 0, 0, (0 : Int), []),
  (.iload_n 1, 30, 0, 0, 0, (0 : Int), []),
  (.invokevirtual 47, 31, 38, 4, 2, (0 : Int), [246]),
  (.ifCond .eq 5, 34, 23, 0, 0, (0 : Int), []),
  (.iload_n 3, 37, 0, 0, 0, (0 : Int), []),
  (.istore_n 2, 38, 0, 0, 0, (0 : Int), []),
  (.iinc 3 1, 39, 0, 0, 0, (0 : Int), []),
  (.goto (-37), 42, 4, 0, 0, (0 : Int), []),
  (.iload_n 2, 45, 0, 0, 0, (0 : Int), []),
  (.ireturn, 46, 0, 0, 0, (0 : Int), [])]
/-- 38: BranchedSums$Nodes.goesBefore(III)Z, 4 arguments, 4 locals -/
def zX2_goesBefore : List zE := [(.iload_n 3, 0, 0, 0, 0, (0 : Int), []),
  (.iconst 1, 1, 0, 0, 0, (0 : Int), []),
  (.if_icmp .ne 22, 2, 14, 0, 0, (0 : Int), []),
  (.aload_n 0, 5, 0, 0, 0, (0 : Int), []),
  (.iload_n 1, 6, 0, 0, 0, (0 : Int), []),
  (.invokevirtual 51, 7, 30, 2, 2, (0 : Int), [250]),
  (.aload_n 0, 10, 0, 0, 0, (0 : Int), []),
  (.iload_n 2, 11, 0, 0, 0, (0 : Int), []),
  (.invokevirtual 51, 12, 30, 2, 2, (0 : Int), [250]),
  (.if_icmp .le 7, 15, 12, 0, 0, (0 : Int), []),
  (.iconst 1, 18, 0, 0, 0, (0 : Int), []),
  (.goto 4, 19, 13, 0, 0, (0 : Int), []),
  (.iconst 0, 22, 0, 0, 0, (0 : Int), []),
  (.ireturn, 23, 1, 0, 0, (0 : Int), []),
  (.iload_n 3, 24, 0, 0, 0, (0 : Int), []),
  (.ifCond .ne 7, 25, 18, 0, 0, (0 : Int), []),
  (.iconst 1, 28, 0, 0, 0, (0 : Int), []),
  (.goto 4, 29, 19, 0, 0, (0 : Int), []),
  (.iconst 0, 32, 0, 0, 0, (0 : Int), []),
  (.ireturn, 33, 1, 0, 0, (0 : Int), [])]
/-- 39: BranchedSums$State.copyFrom(LBranchedSums$State;)V, 2 arguments, 2 locals -/
def zX3_copyFrom : List zE := [(.aload_n 0, 0, 0, 0, 0, (0 : Int), []),
  (.getfield 12, 1, 3, 0, 1, (0 : Int), [121]),
  (.aload_n 1, 4, 0, 0, 0, (0 : Int), []),
  (.getfield 12, 5, 3, 0, 1, (0 : Int), [121]),
  (.invokevirtual 25, 8, 0, 2, 0, (0 : Int), [270]),
  (.aload_n 0, 11, 0, 0, 0, (0 : Int), []),
  (.getfield 21, 12, 3, 1, 6, (0 : Int), [123]),
  (.aload_n 1, 15, 0, 0, 0, (0 : Int), []),
  (.getfield 21, 16, 3, 1, 6, (0 : Int), [123]),
  (.invokevirtual 29, 19, 24, 2, 2, (0 : Int), [283]),
  (.aload_n 0, 22, 0, 0, 0, (0 : Int), []),
  (.aload_n 1, 23, 0, 0, 0, (0 : Int), []),
  (.getfield 32, 24, 3, 2, 0, (0 : Int), [125]),
  (.putfield 32, 27, 3, 2, 0, (0 : Int), [125]),
  (.aload_n 0, 30, 0, 0, 0, (0 : Int), []),
  (.aload_n 1, 31, 0, 0, 0, (0 : Int), []),
  (.getfield 36, 32, 3, 3, 0, (0 : Int), [127]),
  (.putfield 36, 35, 3, 3, 0, (0 : Int), [127]),
  (.aload_n 0, 38, 0, 0, 0, (0 : Int), []),
  (.aload_n 1, 39, 0, 0, 0, (0 : Int), []),
  (.getfield 39, 40, 3, 4, 0, (0 : Int), [129]),
  (.putfield 39, 43, 3, 4, 0, (0 : Int), [129]),
  (.aload_n 0, 46, 0, 0, 0, (0 : Int), []),
  (.aload_n 1, 47, 0, 0, 0, (0 : Int), []),
  (.getfield 42, 48, 3, 5, 0, (0 : Int), [131]),
  (.putfield 42, 51, 3, 5, 0, (0 : Int), [131]),
  (.aload_n 0, 54, 0, 0, 0, (0 : Int), []),
  (.aload_n 1, 55, 0, 0, 0, (0 : Int), []),
  (.getfield 45, 56, 3, 6, 0, (0 : Int), [133]),
  (.putfield 45, 59, 3, 6, 0, (0 : Int), [133]),
  (.return_, 62, 0, 0, 0, (0 : Int), [])]
/-- 40: BranchedSums$State.goesOn()Z, 1 arguments, 1 locals -/
def zX3_goesOn : List zE := [(.aload_n 0, 0, 0, 0, 0, (0 : Int), []),
  (.getfield 21, 1, 3, 1, 6, (0 : Int), [123]),
  (.iconst 0, 4, 0, 0, 0, (0 : Int), []),
  (.invokevirtual 48, 5, 37, 2, 2, (0 : Int), [234]),
  (.bipush (-5), 8, 0, 0, 0, (0 : Int), []),
  (.if_icmp .eq 7, 10, 8, 0, 0, (0 : Int), []),
  (.iconst 1, 13, 0, 0, 0, (0 : Int), []),
  (.goto 4, 14, 9, 0, 0, (0 : Int), []),
  (.iconst 0, 17, 0, 0, 0, (0 : Int), []),
  (.ireturn, 18, 1, 0, 0, (0 : Int), [])]
/-- 41: BranchedSums$State.forgetSearch()V, 1 arguments, 1 locals -/
def zX3_forgetSearch : List zE := [(.aload_n 0, 0, 0, 0, 0, (0 : Int), []),
  (.getfield 21, 1, 3, 1, 6, (0 : Int), [123]),
  (.iconst 0, 4, 0, 0, 0, (0 : Int), []),
  (.putfield 52, 5, 2, 1, 0, (0 : Int), [113]),
  (.aload_n 0, 8, 0, 0, 0, (0 : Int), []),
  (.iconst 0, 9, 0, 0, 0, (0 : Int), []),
  (.putfield 39, 10, 3, 4, 0, (0 : Int), [129]),
  (.aload_n 0, 13, 0, 0, 0, (0 : Int), []),
  (.iconst 0, 14, 0, 0, 0, (0 : Int), []),
  (.putfield 42, 15, 3, 5, 0, (0 : Int), [131]),
  (.aload_n 0, 18, 0, 0, 0, (0 : Int), []),
  (.iconst 0, 19, 0, 0, 0, (0 : Int), []),
  (.putfield 45, 20, 3, 6, 0, (0 : Int), [133]),
  (.return_, 23, 0, 0, 0, (0 : Int), [])]
/-- 42: BranchedSums$State.openRoot()V, 1 arguments, 1 locals -/
def zX3_openRoot : List zE := [(.aload_n 0, 0, 0, 0, 0, (0 : Int), []),
  (.invokevirtual 55, 1, 41, 1, 3, (0 : Int), [397]),
  (.aload_n 0, 4, 0, 0, 0, (0 : Int), []),
  (.getfield 21, 5, 3, 1, 6, (0 : Int), [123]),
  (.iconst 0, 8, 0, 0, 0, (0 : Int), []),
  (.iconst 0, 9, 0, 0, 0, (0 : Int), []),
  (.iconst 0, 10, 0, 0, 0, (0 : Int), []),
  (.iconst 0, 11, 0, 0, 0, (0 : Int), []),
  (.aload_n 0, 12, 0, 0, 0, (0 : Int), []),
  (.getfield 12, 13, 3, 0, 1, (0 : Int), [121]),
  (.iconst 0, 16, 0, 0, 0, (0 : Int), []),
  (.iconst 0, 17, 0, 0, 0, (0 : Int), []),
  (.invokevirtual 58, 18, 13, 3, 0, (0 : Int), [398]),
  (.iconst 0, 21, 0, 0, 0, (0 : Int), []),
  (.invokevirtual 62, 22, 26, 7, 2, (0 : Int), [429]),
  (.return_, 25, 0, 0, 0, (0 : Int), [])]
/-- 43: BranchedSums$State.gap()I, 1 arguments, 2 locals -/
def zX3_gap : List zE := [(.aload_n 0, 0, 0, 0, 0, (0 : Int), []),
  (.getfield 21, 1, 3, 1, 6, (0 : Int), [123]),
  (.iconst 1, 4, 0, 0, 0, (0 : Int), []),
  (.invokevirtual 48, 5, 37, 2, 2, (0 : Int), [234]),
  (.istore_n 1, 8, 0, 0, 0, (0 : Int), []),
  (.iload_n 1, 9, 0, 0, 0, (0 : Int), []),
  (.bipush (-5), 10, 0, 0, 0, (0 : Int), []),
  (.if_icmp .ne 7, 12, 10, 0, 0, (0 : Int), []),
  (.iconst 0, 15, 0, 0, 0, (0 : Int), []),
  (.goto 20, 16, 19, 0, 0, (0 : Int), []),
  (.iconst 0, 19, 0, 0, 0, (0 : Int), []),
  (.aload_n 0, 20, 0, 0, 0, (0 : Int), []),
  (.getfield 21, 21, 3, 1, 6, (0 : Int), [123]),
  (.iload_n 1, 24, 0, 0, 0, (0 : Int), []),
  (.invokevirtual 66, 25, 30, 2, 2, (0 : Int), [451]),
  (.aload_n 0, 28, 0, 0, 0, (0 : Int), []),
  (.getfield 42, 29, 3, 5, 0, (0 : Int), [131]),
  (.isub, 32, 0, 0, 0, (0 : Int), []),
  (.invokestatic 68, 33, 0, 2, 3, (0 : Int), [485]),
  (.ireturn, 36, 0, 0, 0, (0 : Int), [])]
/-- 44: BranchedSums$State.takeStep(I)I, 2 arguments, 7 locals -/
def zX3_takeStep : List zE := [(.aload_n 0, 0, 0, 0, 0, (0 : Int), []),
  (.getfield 21, 1, 3, 1, 6, (0 : Int), [123]),
  (.iload_n 1, 4, 0, 0, 0, (0 : Int), []),
  (.invokevirtual 48, 5, 37, 2, 2, (0 : Int), [234]),
  (.istore_n 2, 8, 0, 0, 0, (0 : Int), []),
  (.aload_n 0, 9, 0, 0, 0, (0 : Int), []),
  (.dup, 10, 0, 0, 0, (0 : Int), []),
  (.getfield 39, 11, 3, 4, 0, (0 : Int), [129]),
  (.iconst 1, 14, 0, 0, 0, (0 : Int), []),
  (.iadd, 15, 0, 0, 0, (0 : Int), []),
  (.putfield 39, 16, 3, 4, 0, (0 : Int), [129]),
  (.aload_n 0, 19, 0, 0, 0, (0 : Int), []),
  (.iload_n 2, 20, 0, 0, 0, (0 : Int), []),
  (.invokevirtual 73, 21, 45, 2, 3, (0 : Int), [447]),
  (.istore_n 3, 24, 0, 0, 0, (0 : Int), []),
  (.iload_n 3, 25, 0, 0, 0, (0 : Int), []),
  (.iconst 4, 26, 0, 0, 0, (0 : Int), []),
  (.if_icmp .ne 90, 27, 65, 0, 0, (0 : Int), []),
  (.aload_n 0, 30, 0, 0, 0, (0 : Int), []),
  (.getfield 21, 31, 3, 1, 6, (0 : Int), [123]),
  (.getfield 52, 34, 2, 1, 0, (0 : Int), [113]),
  (.iconst 2, 37, 0, 0, 0, (0 : Int), []),
  (.iadd, 38, 0, 0, 0, (0 : Int), []),
  (.sipush 400, 39, 0, 0, 0, (0 : Int), []),
  (.if_icmp .le 6, 42, 27, 0, 0, (0 : Int), []),
  (.bipush (-3), 45, 0, 0, 0, (0 : Int), []),
  (.ireturn, 47, 0, 0, 0, (0 : Int), []),
  (.aload_n 0, 48, 0, 0, 0, (0 : Int), []),
  (.getfield 21, 49, 3, 1, 6, (0 : Int), [123]),
  (.iload_n 2, 52, 0, 0, 0, (0 : Int), []),
  (.invokevirtual 76, 53, 31, 2, 2, (0 : Int), [452]),
  (.istore 4, 56, 0, 0, 0, (0 : Int), []),
  (.aload_n 0, 58, 0, 0, 0, (0 : Int), []),
  (.getfield 21, 59, 3, 1, 6, (0 : Int), [123]),
  (.iload_n 2, 62, 0, 0, 0, (0 : Int), []),
  (.invokevirtual 79, 63, 32, 2, 2, (0 : Int), [456]),
  (.istore 5, 66, 0, 0, 0, (0 : Int), []),
  (.aload_n 0, 68, 0, 0, 0, (0 : Int), []),
  (.getfield 12, 69, 3, 0, 1, (0 : Int), [121]),
  (.iload 4, 72, 0, 0, 0, (0 : Int), []),
  (.iload 5, 74, 0, 0, 0, (0 : Int), []),
  (.aload_n 0, 76, 0, 0, 0, (0 : Int), []),
  (.getfield 36, 77, 3, 3, 0, (0 : Int), [127]),
  (.invokevirtual 82, 80, 18, 4, 0, (0 : Int), [465]),
  (.istore 6, 83, 0, 0, 0, (0 : Int), []),
  (.aload_n 0, 85, 0, 0, 0, (0 : Int), []),
  (.iload_n 2, 86, 0, 0, 0, (0 : Int), []),
  (.iload 6, 87, 0, 0, 0, (0 : Int), []),
  (.iload 4, 89, 0, 0, 0, (0 : Int), []),
  (.iload 5, 91, 0, 0, 0, (0 : Int), []),
  (.iconst 1, 93, 0, 0, 0, (0 : Int), []),
  (.iload 6, 94, 0, 0, 0, (0 : Int), []),
  (.ishl, 96, 0, 0, 0, (0 : Int), []),
  (.ior, 97, 0, 0, 0, (0 : Int), []),
  (.invokevirtual 86, 98, 46, 5, 3, (0 : Int), [481]),
  (.aload_n 0, 101, 0, 0, 0, (0 : Int), []),
  (.iload_n 2, 102, 0, 0, 0, (0 : Int), []),
  (.iload 6, 103, 0, 0, 0, (0 : Int), []),
  (.iload 4, 105, 0, 0, 0, (0 : Int), []),
  (.iconst 1, 107, 0, 0, 0, (0 : Int), []),
  (.iload 6, 108, 0, 0, 0, (0 : Int), []),
  (.ishl, 110, 0, 0, 0, (0 : Int), []),
  (.ior, 111, 0, 0, 0, (0 : Int), []),
  (.iload 5, 112, 0, 0, 0, (0 : Int), []),
  (.invokevirtual 86, 114, 46, 5, 3, (0 : Int), [481]),
  (.aload_n 0, 117, 0, 0, 0, (0 : Int), []),
  (.getfield 21, 118, 3, 1, 6, (0 : Int), [123]),
  (.iload_n 2, 121, 0, 0, 0, (0 : Int), []),
  (.iload_n 3, 122, 0, 0, 0, (0 : Int), []),
  (.invokevirtual 90, 123, 34, 3, 2, (0 : Int), [486]),
  (.iload_n 3, 126, 0, 0, 0, (0 : Int), []),
  (.ireturn, 127, 0, 0, 0, (0 : Int), [])]
/-- 45: BranchedSums$State.resultFor(I)I, 2 arguments, 5 locals -/
def zX3_resultFor : List zE := [(.aload_n 0, 0, 0, 0, 0, (0 : Int), []),
  (.getfield 21, 1, 3, 1, 6, (0 : Int), [123]),
  (.iload_n 1, 4, 0, 0, 0, (0 : Int), []),
  (.invokevirtual 66, 5, 30, 2, 2, (0 : Int), [451]),
  (.istore_n 2, 8, 0, 0, 0, (0 : Int), []),
  (.iload_n 2, 9, 0, 0, 0, (0 : Int), []),
  (.aload_n 0, 10, 0, 0, 0, (0 : Int), []),
  (.getfield 42, 11, 3, 5, 0, (0 : Int), [131]),
  (.if_icmp .gt 5, 14, 11, 0, 0, (0 : Int), []),
  (.iconst 1, 17, 0, 0, 0, (0 : Int), []),
  (.ireturn, 18, 0, 0, 0, (0 : Int), []),
  (.aload_n 0, 19, 0, 0, 0, (0 : Int), []),
  (.getfield 12, 20, 3, 0, 1, (0 : Int), [121]),
  (.aload_n 0, 23, 0, 0, 0, (0 : Int), []),
  (.getfield 21, 24, 3, 1, 6, (0 : Int), [123]),
  (.iload_n 1, 27, 0, 0, 0, (0 : Int), []),
  (.invokevirtual 76, 28, 31, 2, 2, (0 : Int), [452]),
  (.aload_n 0, 31, 0, 0, 0, (0 : Int), []),
  (.getfield 21, 32, 3, 1, 6, (0 : Int), [123]),
  (.iload_n 1, 35, 0, 0, 0, (0 : Int), []),
  (.invokevirtual 79, 36, 32, 2, 2, (0 : Int), [456]),
  (.invokevirtual 94, 39, 17, 3, 0, (0 : Int), [460]),
  (.istore_n 3, 42, 0, 0, 0, (0 : Int), []),
  (.aload_n 0, 43, 0, 0, 0, (0 : Int), []),
  (.getfield 12, 44, 3, 0, 1, (0 : Int), [121]),
  (.getfield 97, 47, 0, 0, 1, (0 : Int), [80]),
  (.iload_n 3, 50, 0, 0, 0, (0 : Int), []),
  (.invokestatic 101, 51, 85, 2, 1, (0 : Int), [464]),
  (.istore 4, 54, 0, 0, 0, (0 : Int), []),
  (.iload 4, 56, 0, 0, 0, (0 : Int), []),
  (.aload_n 0, 58, 0, 0, 0, (0 : Int), []),
  (.getfield 42, 59, 3, 5, 0, (0 : Int), [131]),
  (.if_icmp .le 14, 62, 39, 0, 0, (0 : Int), []),
  (.aload_n 0, 65, 0, 0, 0, (0 : Int), []),
  (.iload 4, 66, 0, 0, 0, (0 : Int), []),
  (.putfield 42, 68, 3, 5, 0, (0 : Int), [131]),
  (.aload_n 0, 71, 0, 0, 0, (0 : Int), []),
  (.iload_n 3, 72, 0, 0, 0, (0 : Int), []),
  (.putfield 45, 73, 3, 6, 0, (0 : Int), [133]),
  (.iload_n 2, 76, 0, 0, 0, (0 : Int), []),
  (.iload 4, 77, 0, 0, 0, (0 : Int), []),
  (.if_icmp .gt 7, 79, 44, 0, 0, (0 : Int), []),
  (.iconst 2, 82, 0, 0, 0, (0 : Int), []),
  (.goto 4, 83, 45, 0, 0, (0 : Int), []),
  (.iconst 4, 86, 0, 0, 0, (0 : Int), []),
  (.ireturn, 87, 0, 0, 0, (0 : Int), [])]
/-- 46: BranchedSums$State.makeChild(IIII)V, 5 arguments, 6 locals -/
def zX3_makeChild : List zE := [(.aload_n 0, 0, 0, 0, 0, (0 : Int), []),
  (.getfield 12, 1, 3, 0, 1, (0 : Int), [121]),
  (.iload_n 3, 4, 0, 0, 0, (0 : Int), []),
  (.iload 4, 5, 0, 0, 0, (0 : Int), []),
  (.invokevirtual 58, 7, 13, 3, 0, (0 : Int), [398]),
  (.iconst 0, 10, 0, 0, 0, (0 : Int), []),
  (.invokestatic 68, 11, 0, 2, 3, (0 : Int), [485]),
  (.istore 5, 14, 0, 0, 0, (0 : Int), []),
  (.aload_n 0, 16, 0, 0, 0, (0 : Int), []),
  (.getfield 21, 17, 3, 1, 6, (0 : Int), [123]),
  (.iload_n 1, 20, 0, 0, 0, (0 : Int), []),
  (.iload_n 2, 21, 0, 0, 0, (0 : Int), []),
  (.iload_n 3, 22, 0, 0, 0, (0 : Int), []),
  (.iload 4, 23, 0, 0, 0, (0 : Int), []),
  (.iload 5, 25, 0, 0, 0, (0 : Int), []),
  (.iload 5, 27, 0, 0, 0, (0 : Int), []),
  (.aload_n 0, 29, 0, 0, 0, (0 : Int), []),
  (.getfield 42, 30, 3, 5, 0, (0 : Int), [131]),
  (.if_icmp .le 7, 33, 21, 0, 0, (0 : Int), []),
  (.iconst 0, 36, 0, 0, 0, (0 : Int), []),
  (.goto 4, 37, 22, 0, 0, (0 : Int), []),
  (.iconst 3, 40, 0, 0, 0, (0 : Int), []),
  (.invokevirtual 62, 41, 26, 7, 2, (0 : Int), [429]),
  (.return_, 44, 0, 0, 0, (0 : Int), [])]
/-- 47: BranchedSums$Text.append(C)V, 2 arguments, 2 locals -/
def zX4_append : List zE := [(.aload_n 0, 0, 0, 0, 0, (0 : Int), []),
  (.getfield 25, 1, 4, 4, 0, (0 : Int), [183]),
  (.ifCond .lt 35, 4, 21, 0, 0, (0 : Int), []),
  (.aload_n 0, 7, 0, 0, 0, (0 : Int), []),
  (.getfield 25, 8, 4, 4, 0, (0 : Int), [183]),
  (.aload_n 0, 11, 0, 0, 0, (0 : Int), []),
  (.getfield 9, 12, 4, 0, 4, (0 : Int), [176, 1]),
  (.arraylength, 15, 0, 0, 0, (0 : Int), []),
  (.if_icmp .ge 23, 16, 21, 0, 0, (0 : Int), []),
  (.aload_n 0, 19, 0, 0, 0, (0 : Int), []),
  (.getfield 9, 20, 4, 0, 4, (0 : Int), [176, 1]),
  (.aload_n 0, 23, 0, 0, 0, (0 : Int), []),
  (.getfield 25, 24, 4, 4, 0, (0 : Int), [183]),
  (.iload_n 1, 27, 0, 0, 0, (0 : Int), []),
  (.castore, 28, 0, 0, 0, (0 : Int), []),
  (.aload_n 0, 29, 0, 0, 0, (0 : Int), []),
  (.dup, 30, 0, 0, 0, (0 : Int), []),
  (.getfield 25, 31, 4, 4, 0, (0 : Int), [183]),
  (.iconst 1, 34, 0, 0, 0, (0 : Int), []),
  (.iadd, 35, 0, 0, 0, (0 : Int), []),
  (.putfield 25, 36, 4, 4, 0, (0 : Int), [183]),
  (.return_, 39, 0, 0, 0, (0 : Int), [])]
/-- 48: BranchedSums$Text.read()I, 1 arguments, 2 locals -/
def zX4_read : List zE := [(.aload_n 0, 0, 0, 0, 0, (0 : Int), []),
  (.iconst 0, 1, 0, 0, 0, (0 : Int), []),
  (.putfield 29, 2, 4, 6, 0, (0 : Int), [187]),
  (.iconst 1, 5, 0, 0, 0, (0 : Int), []),
  (.istore_n 1, 6, 0, 0, 0, (0 : Int), []),
  (.aload_n 0, 7, 0, 0, 0, (0 : Int), []),
  (.iconst 0, 8, 0, 0, 0, (0 : Int), []),
  (.putfield 32, 9, 4, 5, 0, (0 : Int), [185]),
  (.iload_n 1, 12, 0, 0, 0, (0 : Int), []),
  (.ifCond .eq 46, 13, 32, 0, 0, (0 : Int), []),
  (.aload_n 0, 16, 0, 0, 0, (0 : Int), []),
  (.getfield 32, 17, 4, 5, 0, (0 : Int), [185]),
  (.aload_n 0, 20, 0, 0, 0, (0 : Int), []),
  (.getfield 25, 21, 4, 4, 0, (0 : Int), [183]),
  (.if_icmp .gt 35, 24, 32, 0, 0, (0 : Int), []),
  (.aload_n 0, 27, 0, 0, 0, (0 : Int), []),
  (.invokevirtual 35, 28, 49, 1, 4, (0 : Int), [329]),
  (.ifCond .ne 8, 31, 21, 0, 0, (0 : Int), []),
  (.aload_n 0, 34, 0, 0, 0, (0 : Int), []),
  (.getfield 29, 35, 4, 6, 0, (0 : Int), [187]),
  (.ireturn, 38, 0, 0, 0, (0 : Int), []),
  (.aload_n 0, 39, 0, 0, 0, (0 : Int), []),
  (.bipush 59, 40, 0, 0, 0, (0 : Int), []),
  (.invokevirtual 39, 42, 50, 2, 4, (0 : Int), [342]),
  (.istore_n 1, 45, 0, 0, 0, (0 : Int), []),
  (.aload_n 0, 46, 0, 0, 0, (0 : Int), []),
  (.dup, 47, 0, 0, 0, (0 : Int), []),
  (.getfield 32, 48, 4, 5, 0, (0 : Int), [185]),
  (.iconst 1, 51, 0, 0, 0, (0 : Int), []),
  (.iadd, 52, 0, 0, 0, (0 : Int), []),
  (.putfield 32, 53, 4, 5, 0, (0 : Int), [185]),
  (.goto (-44), 56, 8, 0, 0, (0 : Int), []),
  (.aload_n 0, 59, 0, 0, 0, (0 : Int), []),
  (.getfield 29, 60, 4, 6, 0, (0 : Int), [187]),
  (.aload_n 0, 63, 0, 0, 0, (0 : Int), []),
  (.getfield 25, 64, 4, 4, 0, (0 : Int), [183]),
  (.if_icmp .ge 10, 67, 40, 0, 0, (0 : Int), []),
  (.aload_n 0, 70, 0, 0, 0, (0 : Int), []),
  (.getfield 29, 71, 4, 6, 0, (0 : Int), [187]),
  (.goto 4, 74, 41, 0, 0, (0 : Int), []),
  (.iconst (-1), 77, 0, 0, 0, (0 : Int), []),
  (.ireturn, 78, 0, 0, 0, (0 : Int), [])]
/-- 49: BranchedSums$Text.readThing()Z, 1 arguments, 6 locals -/
def zX4_readThing : List zE := [(.aload_n 0, 0, 0, 0, 0, (0 : Int), []),
  (.iconst 1, 1, 0, 0, 0, (0 : Int), []),
  (.bipush 99, 2, 0, 0, 0, (0 : Int), []),
  (.invokevirtual 43, 4, 51, 3, 4, (0 : Int), [333]),
  (.istore_n 1, 7, 0, 0, 0, (0 : Int), []),
  (.iload_n 1, 8, 0, 0, 0, (0 : Int), []),
  (.bipush (-5), 9, 0, 0, 0, (0 : Int), []),
  (.if_icmp .eq 12, 11, 12, 0, 0, (0 : Int), []),
  (.aload_n 0, 14, 0, 0, 0, (0 : Int), []),
  (.bipush 47, 15, 0, 0, 0, (0 : Int), []),
  (.invokevirtual 39, 17, 50, 2, 4, (0 : Int), [342]),
  (.ifCond .ne 5, 20, 14, 0, 0, (0 : Int), []),
  (.iconst 0, 23, 0, 0, 0, (0 : Int), []),
  (.ireturn, 24, 1, 0, 0, (0 : Int), []),
  (.aload_n 0, 25, 0, 0, 0, (0 : Int), []),
  (.iconst 1, 26, 0, 0, 0, (0 : Int), []),
  (.bipush 50, 27, 0, 0, 0, (0 : Int), []),
  (.invokevirtual 43, 29, 51, 3, 4, (0 : Int), [333]),
  (.istore_n 2, 32, 0, 0, 0, (0 : Int), []),
  (.iload_n 2, 33, 0, 0, 0, (0 : Int), []),
  (.bipush (-5), 34, 0, 0, 0, (0 : Int), []),
  (.if_icmp .ne 5, 36, 24, 0, 0, (0 : Int), []),
  (.iconst 0, 39, 0, 0, 0, (0 : Int), []),
  (.ireturn, 40, 1, 0, 0, (0 : Int), []),
  (.iconst 0, 41, 0, 0, 0, (0 : Int), []),
  (.istore_n 3, 42, 0, 0, 0, (0 : Int), []),
  (.iconst 0, 43, 0, 0, 0, (0 : Int), []),
  (.istore 4, 44, 0, 0, 0, (0 : Int), []),
  (.iload 4, 46, 0, 0, 0, (0 : Int), []),
  (.aload_n 0, 48, 0, 0, 0, (0 : Int), []),
  (.getfield 25, 49, 4, 4, 0, (0 : Int), [183]),
  (.if_icmp .ge 43, 52, 54, 0, 0, (0 : Int), []),
  (.aload_n 0, 55, 0, 0, 0, (0 : Int), []),
  (.bipush 33, 56, 0, 0, 0, (0 : Int), []),
  (.invokevirtual 39, 58, 50, 2, 4, (0 : Int), [342]),
  (.ifCond .eq 34, 61, 54, 0, 0, (0 : Int), []),
  (.aload_n 0, 64, 0, 0, 0, (0 : Int), []),
  (.iconst 0, 65, 0, 0, 0, (0 : Int), []),
  (.bipush 10, 66, 0, 0, 0, (0 : Int), []),
  (.invokevirtual 43, 68, 51, 3, 4, (0 : Int), [333]),
  (.istore 5, 71, 0, 0, 0, (0 : Int), []),
  (.iload 5, 73, 0, 0, 0, (0 : Int), []),
  (.bipush (-5), 75, 0, 0, 0, (0 : Int), []),
  (.if_icmp .ne 5, 77, 46, 0, 0, (0 : Int), []),
  (.iconst 0, 80, 0, 0, 0, (0 : Int), []),
  (.ireturn, 81, 1, 0, 0, (0 : Int), []),
  (.iload_n 3, 82, 0, 0, 0, (0 : Int), []),
  (.iconst 1, 83, 0, 0, 0, (0 : Int), []),
  (.iload 5, 84, 0, 0, 0, (0 : Int), []),
  (.ishl, 86, 0, 0, 0, (0 : Int), []),
  (.ior, 87, 0, 0, 0, (0 : Int), []),
  (.istore_n 3, 88, 0, 0, 0, (0 : Int), []),
  (.iinc 4 1, 89, 0, 0, 0, (0 : Int), []),
  (.goto (-46), 92, 28, 0, 0, (0 : Int), []),
  (.aload_n 0, 95, 0, 0, 0, (0 : Int), []),
  (.getfield 15, 96, 4, 1, 5, (0 : Int), [177, 1]),
  (.aload_n 0, 99, 0, 0, 0, (0 : Int), []),
  (.getfield 32, 100, 4, 5, 0, (0 : Int), [185]),
  (.iload_n 1, 103, 0, 0, 0, (0 : Int), []),
  (.invokestatic 47, 104, 84, 3, 1, (0 : Int), [346]),
  (.aload_n 0, 107, 0, 0, 0, (0 : Int), []),
  (.getfield 19, 108, 4, 2, 6, (0 : Int), [179, 1]),
  (.aload_n 0, 111, 0, 0, 0, (0 : Int), []),
  (.getfield 32, 112, 4, 5, 0, (0 : Int), [185]),
  (.iload_n 2, 115, 0, 0, 0, (0 : Int), []),
  (.invokestatic 47, 116, 84, 3, 1, (0 : Int), [346]),
  (.aload_n 0, 119, 0, 0, 0, (0 : Int), []),
  (.getfield 22, 120, 4, 3, 7, (0 : Int), [181, 1]),
  (.aload_n 0, 123, 0, 0, 0, (0 : Int), []),
  (.getfield 32, 124, 4, 5, 0, (0 : Int), [185]),
  (.iload_n 3, 127, 0, 0, 0, (0 : Int), []),
  (.invokestatic 47, 128, 84, 3, 1, (0 : Int), [346]),
  (.iconst 1, 131, 0, 0, 0, (0 : Int), []),
  (.ireturn, 132, 1, 0, 0, (0 : Int), [])]
/-- 50: BranchedSums$Text.take(C)Z, 2 arguments, 3 locals -/
def zX4_take : List zE := [(.aload_n 0, 0, 0, 0, 0, (0 : Int), []),
  (.getfield 29, 1, 4, 6, 0, (0 : Int), [187]),
  (.aload_n 0, 4, 0, 0, 0, (0 : Int), []),
  (.getfield 25, 5, 4, 4, 0, (0 : Int), [183]),
  (.if_icmp .ge 15, 8, 11, 0, 0, (0 : Int), []),
  (.aload_n 0, 11, 0, 0, 0, (0 : Int), []),
  (.invokevirtual 51, 12, 52, 1, 4, (0 : Int), [337]),
  (.iload_n 1, 15, 0, 0, 0, (0 : Int), []),
  (.if_icmp .ne 7, 16, 11, 0, 0, (0 : Int), []),
  (.iconst 1, 19, 0, 0, 0, (0 : Int), []),
  (.goto 4, 20, 12, 0, 0, (0 : Int), []),
  (.iconst 0, 23, 0, 0, 0, (0 : Int), []),
  (.istore_n 2, 24, 0, 0, 0, (0 : Int), []),
  (.iload_n 2, 25, 0, 0, 0, (0 : Int), []),
  (.ifCond .eq 13, 26, 21, 0, 0, (0 : Int), []),
  (.aload_n 0, 29, 0, 0, 0, (0 : Int), []),
  (.dup, 30, 0, 0, 0, (0 : Int), []),
  (.getfield 29, 31, 4, 6, 0, (0 : Int), [187]),
  (.iconst 1, 34, 0, 0, 0, (0 : Int), []),
  (.iadd, 35, 0, 0, 0, (0 : Int), []),
  (.putfield 29, 36, 4, 6, 0, (0 : Int), [187]),
  (.iload_n 2, 39, 0, 0, 0, (0 : Int), []),
  (.ireturn, 40, 1, 0, 0, (0 : Int), [])]
/-- 51: BranchedSums$Text.takeNumber(II)I, 3 arguments, 6 locals -/
def zX4_takeNumber : List zE := [(.bipush (-5), 0, 0, 0, 0, (0 : Int), []),
  (.istore_n 3, 2, 0, 0, 0, (0 : Int), []),
  (.aload_n 0, 3, 0, 0, 0, (0 : Int), []),
  (.getfield 29, 4, 4, 6, 0, (0 : Int), [187]),
  (.aload_n 0, 7, 0, 0, 0, (0 : Int), []),
  (.getfield 25, 8, 4, 4, 0, (0 : Int), [183]),
  (.if_icmp .ge 76, 11, 45, 0, 0, (0 : Int), []),
  (.iload_n 3, 14, 0, 0, 0, (0 : Int), []),
  (.ifCond .eq 72, 15, 45, 0, 0, (0 : Int), []),
  (.aload_n 0, 18, 0, 0, 0, (0 : Int), []),
  (.invokevirtual 51, 19, 52, 1, 4, (0 : Int), [337]),
  (.bipush 48, 22, 0, 0, 0, (0 : Int), []),
  (.isub, 24, 0, 0, 0, (0 : Int), []),
  (.istore 4, 25, 0, 0, 0, (0 : Int), []),
  (.iload_n 3, 27, 0, 0, 0, (0 : Int), []),
  (.bipush (-5), 28, 0, 0, 0, (0 : Int), []),
  (.if_icmp .ne 8, 30, 19, 0, 0, (0 : Int), []),
  (.iload 4, 33, 0, 0, 0, (0 : Int), []),
  (.goto 10, 35, 24, 0, 0, (0 : Int), []),
  (.iload_n 3, 38, 0, 0, 0, (0 : Int), []),
  (.bipush 10, 39, 0, 0, 0, (0 : Int), []),
  (.imul, 41, 0, 0, 0, (0 : Int), []),
  (.iload 4, 42, 0, 0, 0, (0 : Int), []),
  (.iadd, 44, 0, 0, 0, (0 : Int), []),
  (.istore 5, 45, 0, 0, 0, (0 : Int), []),
  (.iload 4, 47, 0, 0, 0, (0 : Int), []),
  (.iconst 0, 49, 0, 0, 0, (0 : Int), []),
  (.bipush 9, 50, 0, 0, 0, (0 : Int), []),
  (.invokestatic 55, 52, 81, 3, 1, (0 : Int), [341]),
  (.ifCond .eq 32, 55, 45, 0, 0, (0 : Int), []),
  (.iload 5, 58, 0, 0, 0, (0 : Int), []),
  (.iload_n 1, 60, 0, 0, 0, (0 : Int), []),
  (.iload_n 2, 61, 0, 0, 0, (0 : Int), []),
  (.invokestatic 55, 62, 81, 3, 1, (0 : Int), [341]),
  (.ifCond .ne 6, 65, 36, 0, 0, (0 : Int), []),
  (.goto 19, 68, 45, 0, 0, (0 : Int), []),
  (.iload 5, 71, 0, 0, 0, (0 : Int), []),
  (.istore_n 3, 73, 0, 0, 0, (0 : Int), []),
  (.aload_n 0, 74, 0, 0, 0, (0 : Int), []),
  (.dup, 75, 0, 0, 0, (0 : Int), []),
  (.getfield 29, 76, 4, 6, 0, (0 : Int), [187]),
  (.iconst 1, 79, 0, 0, 0, (0 : Int), []),
  (.iadd, 80, 0, 0, 0, (0 : Int), []),
  (.putfield 29, 81, 4, 6, 0, (0 : Int), [187]),
  (.goto (-81), 84, 2, 0, 0, (0 : Int), []),
  (.iload_n 3, 87, 0, 0, 0, (0 : Int), []),
  (.ireturn, 88, 0, 0, 0, (0 : Int), [])]
/-- 52: BranchedSums$Text.characterHere()C, 1 arguments, 1 locals -/
def zX4_characterHere : List zE := [(.aload_n 0, 0, 0, 0, 0, (0 : Int), []),
  (.getfield 29, 1, 4, 6, 0, (0 : Int), [187]),
  (.ifCond .lt 27, 4, 15, 0, 0, (0 : Int), []),
  (.aload_n 0, 7, 0, 0, 0, (0 : Int), []),
  (.getfield 29, 8, 4, 6, 0, (0 : Int), [187]),
  (.aload_n 0, 11, 0, 0, 0, (0 : Int), []),
  (.getfield 9, 12, 4, 0, 4, (0 : Int), [176, 1]),
  (.arraylength, 15, 0, 0, 0, (0 : Int), []),
  (.if_icmp .ge 15, 16, 15, 0, 0, (0 : Int), []),
  (.aload_n 0, 19, 0, 0, 0, (0 : Int), []),
  (.getfield 9, 20, 4, 0, 4, (0 : Int), [176, 1]),
  (.aload_n 0, 23, 0, 0, 0, (0 : Int), []),
  (.getfield 29, 24, 4, 6, 0, (0 : Int), [187]),
  (.caload, 27, 0, 0, 0, (0 : Int), []),
  (.goto 4, 28, 16, 0, 0, (0 : Int), []),
  (.iconst 0, 31, 0, 0, 0, (0 : Int), []),
  (.ireturn, 32, 2, 0, 0, (0 : Int), [])]
/-- 53: BranchedSums$Text.barsTooFar(I)Z, 2 arguments, 3 locals -/
def zX4_barsTooFar : List zE := [(.iconst 0, 0, 0, 0, 0, (0 : Int), []),
  (.istore_n 2, 1, 0, 0, 0, (0 : Int), []),
  (.iload_n 2, 2, 0, 0, 0, (0 : Int), []),
  (.aload_n 0, 3, 0, 0, 0, (0 : Int), []),
  (.getfield 32, 4, 4, 5, 0, (0 : Int), [185]),
  (.if_icmp .ge 26, 7, 19, 0, 0, (0 : Int), []),
  (.aload_n 0, 10, 0, 0, 0, (0 : Int), []),
  (.getfield 22, 11, 4, 3, 7, (0 : Int), [181, 1]),
  (.iload_n 2, 14, 0, 0, 0, (0 : Int), []),
  (.invokestatic 59, 15, 83, 2, 1, (0 : Int), [351]),
  (.iload_n 1, 18, 0, 0, 0, (0 : Int), []),
  (.iload_n 2, 19, 0, 0, 0, (0 : Int), []),
  (.iadd, 20, 0, 0, 0, (0 : Int), []),
  (.ishr, 21, 0, 0, 0, (0 : Int), []),
  (.ifCond .eq 5, 22, 17, 0, 0, (0 : Int), []),
  (.iconst 1, 25, 0, 0, 0, (0 : Int), []),
  (.ireturn, 26, 1, 0, 0, (0 : Int), []),
  (.iinc 2 1, 27, 0, 0, 0, (0 : Int), []),
  (.goto (-28), 30, 2, 0, 0, (0 : Int), []),
  (.iconst 0, 33, 0, 0, 0, (0 : Int), []),
  (.ireturn, 34, 1, 0, 0, (0 : Int), [])]
/-- 54: BranchedSums.add(II)I, 3 arguments, 3 locals -/
def zX5_add : List zE := [(.iload_n 1, 0, 0, 0, 0, (0 : Int), []),
  (.iconst 1, 1, 0, 0, 0, (0 : Int), []),
  (.bipush 99, 2, 0, 0, 0, (0 : Int), []),
  (.invokestatic 36, 4, 81, 3, 0, (0 : Int), [227]),
  (.ifCond .eq 13, 7, 10, 0, 0, (0 : Int), []),
  (.iload_n 2, 10, 0, 0, 0, (0 : Int), []),
  (.iconst 1, 11, 0, 0, 0, (0 : Int), []),
  (.bipush 50, 12, 0, 0, 0, (0 : Int), []),
  (.invokestatic 36, 14, 81, 3, 0, (0 : Int), [227]),
  (.ifCond .ne 6, 17, 12, 0, 0, (0 : Int), []),
  (.bipush (-2), 20, 0, 0, 0, (0 : Int), []),
  (.ireturn, 22, 0, 0, 0, (0 : Int), []),
  (.aload_n 0, 23, 0, 0, 0, (0 : Int), []),
  (.getfield 10, 24, 5, 0, 8, (0 : Int), [204, 1]),
  (.invokevirtual 40, 27, 40, 1, 3, (0 : Int), [230]),
  (.ifCond .eq 6, 30, 18, 0, 0, (0 : Int), []),
  (.bipush (-4), 33, 0, 0, 0, (0 : Int), []),
  (.ireturn, 35, 0, 0, 0, (0 : Int), []),
  (.aload_n 0, 36, 0, 0, 0, (0 : Int), []),
  (.getfield 10, 37, 5, 0, 8, (0 : Int), [204, 1]),
  (.getfield 44, 40, 3, 0, 1, (0 : Int), [122]),
  (.getfield 48, 43, 0, 4, 0, (0 : Int), [87]),
  (.bipush 12, 46, 0, 0, 0, (0 : Int), []),
  (.if_icmp .lt 6, 48, 26, 0, 0, (0 : Int), []),
  (.bipush (-3), 51, 0, 0, 0, (0 : Int), []),
  (.ireturn, 53, 0, 0, 0, (0 : Int), []),
  (.aload_n 0, 54, 0, 0, 0, (0 : Int), []),
  (.invokevirtual 54, 55, 78, 1, 5, (0 : Int), [254]),
  (.aload_n 0, 58, 0, 0, 0, (0 : Int), []),
  (.getfield 10, 59, 5, 0, 8, (0 : Int), [204, 1]),
  (.getfield 44, 62, 3, 0, 1, (0 : Int), [122]),
  (.iload_n 1, 65, 0, 0, 0, (0 : Int), []),
  (.iload_n 2, 66, 0, 0, 0, (0 : Int), []),
  (.iconst 0, 67, 0, 0, 0, (0 : Int), []),
  (.invokevirtual 57, 68, 2, 4, 0, (0 : Int), [296]),
  (.aload_n 0, 71, 0, 0, 0, (0 : Int), []),
  (.getfield 10, 72, 5, 0, 8, (0 : Int), [204, 1]),
  (.getfield 44, 75, 3, 0, 1, (0 : Int), [122]),
  (.getfield 48, 78, 0, 4, 0, (0 : Int), [87]),
  (.iconst 1, 81, 0, 0, 0, (0 : Int), []),
  (.isub, 82, 0, 0, 0, (0 : Int), []),
  (.ireturn, 83, 0, 0, 0, (0 : Int), [])]
/-- 55: BranchedSums.addAll()I, 1 arguments, 3 locals -/
def zX5_addAll : List zE := [(.aload_n 0, 0, 0, 0, 0, (0 : Int), []),
  (.getfield 32, 1, 5, 4, 3, (0 : Int), [208, 1]),
  (.invokevirtual 61, 4, 48, 1, 4, (0 : Int), [325]),
  (.istore_n 1, 7, 0, 0, 0, (0 : Int), []),
  (.iload_n 1, 8, 0, 0, 0, (0 : Int), []),
  (.iconst (-1), 9, 0, 0, 0, (0 : Int), []),
  (.if_icmp .eq 8, 10, 11, 0, 0, (0 : Int), []),
  (.bipush (-100), 13, 0, 0, 0, (0 : Int), []),
  (.iload_n 1, 15, 0, 0, 0, (0 : Int), []),
  (.isub, 16, 0, 0, 0, (0 : Int), []),
  (.ireturn, 17, 0, 0, 0, (0 : Int), []),
  (.aload_n 0, 18, 0, 0, 0, (0 : Int), []),
  (.getfield 10, 19, 5, 0, 8, (0 : Int), [204, 1]),
  (.invokevirtual 40, 22, 40, 1, 3, (0 : Int), [230]),
  (.ifCond .eq 6, 25, 17, 0, 0, (0 : Int), []),
  (.bipush (-4), 28, 0, 0, 0, (0 : Int), []),
  (.ireturn, 30, 0, 0, 0, (0 : Int), []),
  (.aload_n 0, 31, 0, 0, 0, (0 : Int), []),
  (.getfield 10, 32, 5, 0, 8, (0 : Int), [204, 1]),
  (.getfield 44, 35, 3, 0, 1, (0 : Int), [122]),
  (.getfield 48, 38, 0, 4, 0, (0 : Int), [87]),
  (.aload_n 0, 41, 0, 0, 0, (0 : Int), []),
  (.getfield 32, 42, 5, 4, 3, (0 : Int), [208, 1]),
  (.getfield 65, 45, 4, 5, 0, (0 : Int), [186]),
  (.iadd, 48, 0, 0, 0, (0 : Int), []),
  (.bipush 12, 49, 0, 0, 0, (0 : Int), []),
  (.if_icmp .le 6, 51, 29, 0, 0, (0 : Int), []),
  (.bipush (-3), 54, 0, 0, 0, (0 : Int), []),
  (.ireturn, 56, 0, 0, 0, (0 : Int), []),
  (.aload_n 0, 57, 0, 0, 0, (0 : Int), []),
  (.getfield 32, 58, 5, 4, 3, (0 : Int), [208, 1]),
  (.aload_n 0, 61, 0, 0, 0, (0 : Int), []),
  (.getfield 10, 62, 5, 0, 8, (0 : Int), [204, 1]),
  (.getfield 44, 65, 3, 0, 1, (0 : Int), [122]),
  (.getfield 48, 68, 0, 4, 0, (0 : Int), [87]),
  (.invokevirtual 68, 71, 53, 2, 4, (0 : Int), [347]),
  (.ifCond .eq 5, 74, 39, 0, 0, (0 : Int), []),
  (.iconst (-1), 77, 0, 0, 0, (0 : Int), []),
  (.ireturn, 78, 0, 0, 0, (0 : Int), []),
  (.aload_n 0, 79, 0, 0, 0, (0 : Int), []),
  (.invokevirtual 54, 80, 78, 1, 5, (0 : Int), [254]),
  (.iconst 0, 83, 0, 0, 0, (0 : Int), []),
  (.istore_n 2, 84, 0, 0, 0, (0 : Int), []),
  (.iload_n 2, 85, 0, 0, 0, (0 : Int), []),
  (.aload_n 0, 86, 0, 0, 0, (0 : Int), []),
  (.getfield 32, 87, 5, 4, 3, (0 : Int), [208, 1]),
  (.getfield 65, 90, 4, 5, 0, (0 : Int), [186]),
  (.if_icmp .ge 52, 93, 69, 0, 0, (0 : Int), []),
  (.aload_n 0, 96, 0, 0, 0, (0 : Int), []),
  (.getfield 10, 97, 5, 0, 8, (0 : Int), [204, 1]),
  (.getfield 44, 100, 3, 0, 1, (0 : Int), [122]),
  (.aload_n 0, 103, 0, 0, 0, (0 : Int), []),
  (.getfield 32, 104, 5, 4, 3, (0 : Int), [208, 1]),
  (.getfield 72, 107, 4, 1, 5, (0 : Int), [178, 1]),
  (.iload_n 2, 110, 0, 0, 0, (0 : Int), []),
  (.invokestatic 76, 111, 83, 2, 0, (0 : Int), [352]),
  (.aload_n 0, 114, 0, 0, 0, (0 : Int), []),
  (.getfield 32, 115, 5, 4, 3, (0 : Int), [208, 1]),
  (.getfield 80, 118, 4, 2, 6, (0 : Int), [180, 1]),
  (.iload_n 2, 121, 0, 0, 0, (0 : Int), []),
  (.invokestatic 76, 122, 83, 2, 0, (0 : Int), [352]),
  (.aload_n 0, 125, 0, 0, 0, (0 : Int), []),
  (.getfield 32, 126, 5, 4, 3, (0 : Int), [208, 1]),
  (.getfield 83, 129, 4, 3, 7, (0 : Int), [182, 1]),
  (.iload_n 2, 132, 0, 0, 0, (0 : Int), []),
  (.invokestatic 76, 133, 83, 2, 0, (0 : Int), [352]),
  (.invokevirtual 57, 136, 2, 4, 0, (0 : Int), [296]),
  (.iinc 2 1, 139, 0, 0, 0, (0 : Int), []),
  (.goto (-57), 142, 43, 0, 0, (0 : Int), []),
  (.aload_n 0, 145, 0, 0, 0, (0 : Int), []),
  (.getfield 10, 146, 5, 0, 8, (0 : Int), [204, 1]),
  (.getfield 44, 149, 3, 0, 1, (0 : Int), [122]),
  (.getfield 48, 152, 0, 4, 0, (0 : Int), [87]),
  (.ireturn, 155, 0, 0, 0, (0 : Int), [])]
/-- 56: BranchedSums.remove(I)I, 2 arguments, 2 locals -/
def zX5_remove : List zE := [(.aload_n 0, 0, 0, 0, 0, (0 : Int), []),
  (.getfield 10, 1, 5, 0, 8, (0 : Int), [204, 1]),
  (.getfield 44, 4, 3, 0, 1, (0 : Int), [122]),
  (.iload_n 1, 7, 0, 0, 0, (0 : Int), []),
  (.invokevirtual 86, 8, 1, 2, 0, (0 : Int), [357]),
  (.ifCond .ne 5, 11, 8, 0, 0, (0 : Int), []),
  (.iconst (-1), 14, 0, 0, 0, (0 : Int), []),
  (.ireturn, 15, 0, 0, 0, (0 : Int), []),
  (.aload_n 0, 16, 0, 0, 0, (0 : Int), []),
  (.getfield 10, 17, 5, 0, 8, (0 : Int), [204, 1]),
  (.invokevirtual 40, 20, 40, 1, 3, (0 : Int), [230]),
  (.ifCond .eq 6, 23, 14, 0, 0, (0 : Int), []),
  (.bipush (-4), 26, 0, 0, 0, (0 : Int), []),
  (.ireturn, 28, 0, 0, 0, (0 : Int), []),
  (.aload_n 0, 29, 0, 0, 0, (0 : Int), []),
  (.invokevirtual 54, 30, 78, 1, 5, (0 : Int), [254]),
  (.aload_n 0, 33, 0, 0, 0, (0 : Int), []),
  (.getfield 10, 34, 5, 0, 8, (0 : Int), [204, 1]),
  (.getfield 44, 37, 3, 0, 1, (0 : Int), [122]),
  (.iload_n 1, 40, 0, 0, 0, (0 : Int), []),
  (.invokevirtual 89, 41, 3, 2, 0, (0 : Int), [361]),
  (.aload_n 0, 44, 0, 0, 0, (0 : Int), []),
  (.getfield 10, 45, 5, 0, 8, (0 : Int), [204, 1]),
  (.getfield 44, 48, 3, 0, 1, (0 : Int), [122]),
  (.getfield 48, 51, 0, 4, 0, (0 : Int), [87]),
  (.ireturn, 54, 0, 0, 0, (0 : Int), [])]
/-- 57: BranchedSums.bar(IIZ)I, 4 arguments, 4 locals -/
def zX5_bar : List zE := [(.aload_n 0, 0, 0, 0, 0, (0 : Int), []),
  (.getfield 10, 1, 5, 0, 8, (0 : Int), [204, 1]),
  (.getfield 44, 4, 3, 0, 1, (0 : Int), [122]),
  (.iload_n 1, 7, 0, 0, 0, (0 : Int), []),
  (.invokevirtual 86, 8, 1, 2, 0, (0 : Int), [357]),
  (.ifCond .eq 17, 11, 12, 0, 0, (0 : Int), []),
  (.aload_n 0, 14, 0, 0, 0, (0 : Int), []),
  (.getfield 10, 15, 5, 0, 8, (0 : Int), [204, 1]),
  (.getfield 44, 18, 3, 0, 1, (0 : Int), [122]),
  (.iload_n 2, 21, 0, 0, 0, (0 : Int), []),
  (.invokevirtual 86, 22, 1, 2, 0, (0 : Int), [357]),
  (.ifCond .ne 5, 25, 14, 0, 0, (0 : Int), []),
  (.iconst (-1), 28, 0, 0, 0, (0 : Int), []),
  (.ireturn, 29, 0, 0, 0, (0 : Int), []),
  (.iload_n 1, 30, 0, 0, 0, (0 : Int), []),
  (.iload_n 2, 31, 0, 0, 0, (0 : Int), []),
  (.if_icmp .ne 6, 32, 19, 0, 0, (0 : Int), []),
  (.bipush (-2), 35, 0, 0, 0, (0 : Int), []),
  (.ireturn, 37, 0, 0, 0, (0 : Int), []),
  (.aload_n 0, 38, 0, 0, 0, (0 : Int), []),
  (.getfield 10, 39, 5, 0, 8, (0 : Int), [204, 1]),
  (.invokevirtual 40, 42, 40, 1, 3, (0 : Int), [230]),
  (.ifCond .eq 6, 45, 25, 0, 0, (0 : Int), []),
  (.bipush (-4), 48, 0, 0, 0, (0 : Int), []),
  (.ireturn, 50, 0, 0, 0, (0 : Int), []),
  (.aload_n 0, 51, 0, 0, 0, (0 : Int), []),
  (.getfield 10, 52, 5, 0, 8, (0 : Int), [204, 1]),
  (.getfield 44, 55, 3, 0, 1, (0 : Int), [122]),
  (.getfield 93, 58, 0, 2, 3, (0 : Int), [85]),
  (.iload_n 1, 61, 0, 0, 0, (0 : Int), []),
  (.invokestatic 76, 62, 83, 2, 0, (0 : Int), [352]),
  (.iload_n 2, 65, 0, 0, 0, (0 : Int), []),
  (.invokestatic 94, 66, 82, 2, 0, (0 : Int), [369]),
  (.iload_n 3, 69, 0, 0, 0, (0 : Int), []),
  (.if_icmp .ne 6, 70, 37, 0, 0, (0 : Int), []),
  (.bipush (-5), 73, 0, 0, 0, (0 : Int), []),
  (.ireturn, 75, 0, 0, 0, (0 : Int), []),
  (.aload_n 0, 76, 0, 0, 0, (0 : Int), []),
  (.invokevirtual 54, 77, 78, 1, 5, (0 : Int), [254]),
  (.aload_n 0, 80, 0, 0, 0, (0 : Int), []),
  (.getfield 10, 81, 5, 0, 8, (0 : Int), [204, 1]),
  (.getfield 44, 84, 3, 0, 1, (0 : Int), [122]),
  (.iload_n 1, 87, 0, 0, 0, (0 : Int), []),
  (.iload_n 2, 88, 0, 0, 0, (0 : Int), []),
  (.invokevirtual 98, 89, 4, 3, 0, (0 : Int), [370]),
  (.aload_n 0, 92, 0, 0, 0, (0 : Int), []),
  (.getfield 10, 93, 5, 0, 8, (0 : Int), [204, 1]),
  (.getfield 44, 96, 3, 0, 1, (0 : Int), [122]),
  (.invokevirtual 102, 99, 5, 1, 0, (0 : Int), [371]),
  (.ireturn, 102, 0, 0, 0, (0 : Int), [])]
/-- 58: BranchedSums.setRoom(I)I, 2 arguments, 3 locals -/
def zX5_setRoom : List zE := [(.iload_n 1, 0, 0, 0, 0, (0 : Int), []),
  (.iconst 0, 1, 0, 0, 0, (0 : Int), []),
  (.sipush 200, 2, 0, 0, 0, (0 : Int), []),
  (.invokestatic 36, 5, 81, 3, 0, (0 : Int), [227]),
  (.ifCond .ne 6, 8, 7, 0, 0, (0 : Int), []),
  (.bipush (-2), 11, 0, 0, 0, (0 : Int), []),
  (.ireturn, 13, 0, 0, 0, (0 : Int), []),
  (.aload_n 0, 14, 0, 0, 0, (0 : Int), []),
  (.getfield 10, 15, 5, 0, 8, (0 : Int), [204, 1]),
  (.invokevirtual 40, 18, 40, 1, 3, (0 : Int), [230]),
  (.ifCond .eq 6, 21, 13, 0, 0, (0 : Int), []),
  (.bipush (-4), 24, 0, 0, 0, (0 : Int), []),
  (.ireturn, 26, 0, 0, 0, (0 : Int), []),
  (.aload_n 0, 27, 0, 0, 0, (0 : Int), []),
  (.getfield 10, 28, 5, 0, 8, (0 : Int), [204, 1]),
  (.getfield 44, 31, 3, 0, 1, (0 : Int), [122]),
  (.getfield 105, 34, 0, 5, 0, (0 : Int), [90]),
  (.istore_n 2, 37, 0, 0, 0, (0 : Int), []),
  (.iload_n 1, 38, 0, 0, 0, (0 : Int), []),
  (.iload_n 2, 39, 0, 0, 0, (0 : Int), []),
  (.if_icmp .ne 6, 40, 23, 0, 0, (0 : Int), []),
  (.bipush (-5), 43, 0, 0, 0, (0 : Int), []),
  (.ireturn, 45, 0, 0, 0, (0 : Int), []),
  (.aload_n 0, 46, 0, 0, 0, (0 : Int), []),
  (.invokevirtual 54, 47, 78, 1, 5, (0 : Int), [254]),
  (.aload_n 0, 50, 0, 0, 0, (0 : Int), []),
  (.getfield 10, 51, 5, 0, 8, (0 : Int), [204, 1]),
  (.getfield 44, 54, 3, 0, 1, (0 : Int), [122]),
  (.iload_n 1, 57, 0, 0, 0, (0 : Int), []),
  (.putfield 105, 58, 0, 5, 0, (0 : Int), [90]),
  (.iload_n 2, 61, 0, 0, 0, (0 : Int), []),
  (.ireturn, 62, 0, 0, 0, (0 : Int), [])]
/-- 59: BranchedSums.set(II)I, 3 arguments, 4 locals -/
def zX5_set : List zE := [(.iload_n 1, 0, 0, 0, 0, (0 : Int), []),
  (.iconst 0, 1, 0, 0, 0, (0 : Int), []),
  (.iconst 1, 2, 0, 0, 0, (0 : Int), []),
  (.invokestatic 36, 3, 81, 3, 0, (0 : Int), [227]),
  (.ifCond .ne 5, 6, 7, 0, 0, (0 : Int), []),
  (.iconst (-1), 9, 0, 0, 0, (0 : Int), []),
  (.ireturn, 10, 0, 0, 0, (0 : Int), []),
  (.iload_n 2, 11, 0, 0, 0, (0 : Int), []),
  (.iconst 0, 12, 0, 0, 0, (0 : Int), []),
  (.iconst 2, 13, 0, 0, 0, (0 : Int), []),
  (.invokestatic 36, 14, 81, 3, 0, (0 : Int), [227]),
  (.ifCond .ne 6, 17, 14, 0, 0, (0 : Int), []),
  (.bipush (-2), 20, 0, 0, 0, (0 : Int), []),
  (.ireturn, 22, 0, 0, 0, (0 : Int), []),
  (.iload_n 1, 23, 0, 0, 0, (0 : Int), []),
  (.ifCond .ne 13, 24, 20, 0, 0, (0 : Int), []),
  (.aload_n 0, 27, 0, 0, 0, (0 : Int), []),
  (.getfield 10, 28, 5, 0, 8, (0 : Int), [204, 1]),
  (.getfield 108, 31, 3, 2, 0, (0 : Int), [126]),
  (.goto 10, 34, 23, 0, 0, (0 : Int), []),
  (.aload_n 0, 37, 0, 0, 0, (0 : Int), []),
  (.getfield 10, 38, 5, 0, 8, (0 : Int), [204, 1]),
  (.getfield 111, 41, 3, 3, 0, (0 : Int), [128]),
  (.istore_n 3, 44, 0, 0, 0, (0 : Int), []),
  (.iload_n 2, 45, 0, 0, 0, (0 : Int), []),
  (.iload_n 3, 46, 0, 0, 0, (0 : Int), []),
  (.if_icmp .ne 6, 47, 29, 0, 0, (0 : Int), []),
  (.bipush (-5), 50, 0, 0, 0, (0 : Int), []),
  (.ireturn, 52, 0, 0, 0, (0 : Int), []),
  (.aload_n 0, 53, 0, 0, 0, (0 : Int), []),
  (.getfield 25, 54, 5, 3, 1, (0 : Int), [207, 1]),
  (.aload_n 0, 57, 0, 0, 0, (0 : Int), []),
  (.getfield 10, 58, 5, 0, 8, (0 : Int), [204, 1]),
  (.invokevirtual 114, 61, 21, 2, 1, (0 : Int), [258]),
  (.iload_n 1, 64, 0, 0, 0, (0 : Int), []),
  (.ifCond .ne 14, 65, 41, 0, 0, (0 : Int), []),
  (.aload_n 0, 68, 0, 0, 0, (0 : Int), []),
  (.getfield 10, 69, 5, 0, 8, (0 : Int), [204, 1]),
  (.iload_n 2, 72, 0, 0, 0, (0 : Int), []),
  (.putfield 108, 73, 3, 2, 0, (0 : Int), [126]),
  (.goto 11, 76, 45, 0, 0, (0 : Int), []),
  (.aload_n 0, 79, 0, 0, 0, (0 : Int), []),
  (.getfield 10, 80, 5, 0, 8, (0 : Int), [204, 1]),
  (.iload_n 2, 83, 0, 0, 0, (0 : Int), []),
  (.putfield 111, 84, 3, 3, 0, (0 : Int), [128]),
  (.iload_n 3, 87, 0, 0, 0, (0 : Int), []),
  (.ireturn, 88, 0, 0, 0, (0 : Int), [])]
/-- 60: BranchedSums.begin()I, 1 arguments, 1 locals -/
def zX5_begin : List zE := [(.aload_n 0, 0, 0, 0, 0, (0 : Int), []),
  (.getfield 10, 1, 5, 0, 8, (0 : Int), [204, 1]),
  (.invokevirtual 40, 4, 40, 1, 3, (0 : Int), [230]),
  (.ifCond .eq 6, 7, 6, 0, 0, (0 : Int), []),
  (.bipush (-4), 10, 0, 0, 0, (0 : Int), []),
  (.ireturn, 12, 0, 0, 0, (0 : Int), []),
  (.aload_n 0, 13, 0, 0, 0, (0 : Int), []),
  (.getfield 25, 14, 5, 3, 1, (0 : Int), [207, 1]),
  (.aload_n 0, 17, 0, 0, 0, (0 : Int), []),
  (.getfield 10, 18, 5, 0, 8, (0 : Int), [204, 1]),
  (.invokevirtual 114, 21, 21, 2, 1, (0 : Int), [258]),
  (.aload_n 0, 24, 0, 0, 0, (0 : Int), []),
  (.getfield 10, 25, 5, 0, 8, (0 : Int), [204, 1]),
  (.invokevirtual 118, 28, 42, 1, 3, (0 : Int), [393]),
  (.aload_n 0, 31, 0, 0, 0, (0 : Int), []),
  (.getfield 10, 32, 5, 0, 8, (0 : Int), [204, 1]),
  (.getfield 121, 35, 3, 1, 6, (0 : Int), [124]),
  (.iconst 0, 38, 0, 0, 0, (0 : Int), []),
  (.invokevirtual 125, 39, 30, 2, 2, (0 : Int), [433]),
  (.ireturn, 42, 0, 0, 0, (0 : Int), [])]
/-- 61: BranchedSums.step(I)I, 2 arguments, 2 locals -/
def zX5_step : List zE := [(.iload_n 1, 0, 0, 0, 0, (0 : Int), []),
  (.iconst 1, 1, 0, 0, 0, (0 : Int), []),
  (.sipush 200, 2, 0, 0, 0, (0 : Int), []),
  (.invokestatic 36, 5, 81, 3, 0, (0 : Int), [227]),
  (.ifCond .ne 6, 8, 7, 0, 0, (0 : Int), []),
  (.bipush (-2), 11, 0, 0, 0, (0 : Int), []),
  (.ireturn, 13, 0, 0, 0, (0 : Int), []),
  (.aload_n 0, 14, 0, 0, 0, (0 : Int), []),
  (.iload_n 1, 15, 0, 0, 0, (0 : Int), []),
  (.aload_n 0, 16, 0, 0, 0, (0 : Int), []),
  (.getfield 10, 17, 5, 0, 8, (0 : Int), [204, 1]),
  (.getfield 108, 20, 3, 2, 0, (0 : Int), [126]),
  (.iconst 0, 23, 0, 0, 0, (0 : Int), []),
  (.invokevirtual 131, 24, 79, 4, 5, (0 : Int), [438]),
  (.ireturn, 27, 0, 0, 0, (0 : Int), [])]
/-- 62: BranchedSums.dive()I, 1 arguments, 1 locals -/
def zX5_dive : List zE := [(.aload_n 0, 0, 0, 0, 0, (0 : Int), []),
  (.sipush 400, 1, 0, 0, 0, (0 : Int), []),
  (.iconst 0, 4, 0, 0, 0, (0 : Int), []),
  (.iconst 1, 5, 0, 0, 0, (0 : Int), []),
  (.invokevirtual 131, 6, 79, 4, 5, (0 : Int), [438]),
  (.ireturn, 9, 0, 0, 0, (0 : Int), [])]
/-- 63: BranchedSums.giveUp()I, 1 arguments, 2 locals -/
def zX5_giveUp : List zE := [(.aload_n 0, 0, 0, 0, 0, (0 : Int), []),
  (.getfield 10, 1, 5, 0, 8, (0 : Int), [204, 1]),
  (.getfield 121, 4, 3, 1, 6, (0 : Int), [124]),
  (.iconst 0, 7, 0, 0, 0, (0 : Int), []),
  (.invokevirtual 135, 8, 36, 2, 2, (0 : Int), [499]),
  (.istore_n 1, 11, 0, 0, 0, (0 : Int), []),
  (.iload_n 1, 12, 0, 0, 0, (0 : Int), []),
  (.ifCond .ne 6, 13, 10, 0, 0, (0 : Int), []),
  (.bipush (-5), 16, 0, 0, 0, (0 : Int), []),
  (.ireturn, 18, 0, 0, 0, (0 : Int), []),
  (.aload_n 0, 19, 0, 0, 0, (0 : Int), []),
  (.getfield 25, 20, 5, 3, 1, (0 : Int), [207, 1]),
  (.aload_n 0, 23, 0, 0, 0, (0 : Int), []),
  (.getfield 10, 24, 5, 0, 8, (0 : Int), [204, 1]),
  (.invokevirtual 114, 27, 21, 2, 1, (0 : Int), [258]),
  (.aload_n 0, 30, 0, 0, 0, (0 : Int), []),
  (.getfield 10, 31, 5, 0, 8, (0 : Int), [204, 1]),
  (.getfield 121, 34, 3, 1, 6, (0 : Int), [124]),
  (.invokevirtual 138, 37, 35, 1, 2, (0 : Int), [503]),
  (.iload_n 1, 40, 0, 0, 0, (0 : Int), []),
  (.ireturn, 41, 0, 0, 0, (0 : Int), [])]
/-- 64: BranchedSums.type(C)I, 2 arguments, 2 locals -/
def zX5_type : List zE := [(.aload_n 0, 0, 0, 0, 0, (0 : Int), []),
  (.getfield 32, 1, 5, 4, 3, (0 : Int), [208, 1]),
  (.getfield 141, 4, 4, 4, 0, (0 : Int), [184]),
  (.bipush 80, 7, 0, 0, 0, (0 : Int), []),
  (.if_icmp .lt 6, 9, 7, 0, 0, (0 : Int), []),
  (.bipush (-3), 12, 0, 0, 0, (0 : Int), []),
  (.ireturn, 14, 0, 0, 0, (0 : Int), []),
  (.aload_n 0, 15, 0, 0, 0, (0 : Int), []),
  (.getfield 32, 16, 5, 4, 3, (0 : Int), [208, 1]),
  (.iload_n 1, 19, 0, 0, 0, (0 : Int), []),
  (.invokevirtual 144, 20, 47, 2, 4, (0 : Int), [512]),
  (.aload_n 0, 23, 0, 0, 0, (0 : Int), []),
  (.getfield 32, 24, 5, 4, 3, (0 : Int), [208, 1]),
  (.getfield 141, 27, 4, 4, 0, (0 : Int), [184]),
  (.ireturn, 30, 0, 0, 0, (0 : Int), [])]
/-- 65: BranchedSums.clearText()I, 1 arguments, 2 locals -/
def zX5_clearText : List zE := [(.aload_n 0, 0, 0, 0, 0, (0 : Int), []),
  (.getfield 32, 1, 5, 4, 3, (0 : Int), [208, 1]),
  (.getfield 141, 4, 4, 4, 0, (0 : Int), [184]),
  (.istore_n 1, 7, 0, 0, 0, (0 : Int), []),
  (.aload_n 0, 8, 0, 0, 0, (0 : Int), []),
  (.getfield 32, 9, 5, 4, 3, (0 : Int), [208, 1]),
  (.iconst 0, 12, 0, 0, 0, (0 : Int), []),
  (.putfield 141, 13, 4, 4, 0, (0 : Int), [184]),
  (.iload_n 1, 16, 0, 0, 0, (0 : Int), []),
  (.ireturn, 17, 0, 0, 0, (0 : Int), [])]
/-- 66: BranchedSums.undo()I, 1 arguments, 1 locals -/
def zX5_undo : List zE := [(.aload_n 0, 0, 0, 0, 0, (0 : Int), []),
  (.getfield 25, 1, 5, 3, 1, (0 : Int), [207, 1]),
  (.getfield 147, 4, 1, 2, 0, (0 : Int), [162]),
  (.ifCond .ne 6, 7, 6, 0, 0, (0 : Int), []),
  (.bipush (-5), 10, 0, 0, 0, (0 : Int), []),
  (.ireturn, 12, 0, 0, 0, (0 : Int), []),
  (.aload_n 0, 13, 0, 0, 0, (0 : Int), []),
  (.getfield 25, 14, 5, 3, 1, (0 : Int), [207, 1]),
  (.aload_n 0, 17, 0, 0, 0, (0 : Int), []),
  (.getfield 10, 18, 5, 0, 8, (0 : Int), [204, 1]),
  (.invokevirtual 148, 21, 22, 2, 1, (0 : Int), [524]),
  (.aload_n 0, 24, 0, 0, 0, (0 : Int), []),
  (.getfield 25, 25, 5, 3, 1, (0 : Int), [207, 1]),
  (.getfield 147, 28, 1, 2, 0, (0 : Int), [162]),
  (.ireturn, 31, 0, 0, 0, (0 : Int), [])]
/-- 67: BranchedSums.keep()I, 1 arguments, 1 locals -/
def zX5_keep : List zE := [(.aload_n 0, 0, 0, 0, 0, (0 : Int), []),
  (.getfield 19, 1, 5, 2, 24, (0 : Int), [206, 1]),
  (.aload_n 0, 4, 0, 0, 0, (0 : Int), []),
  (.getfield 10, 5, 5, 0, 8, (0 : Int), [204, 1]),
  (.invokevirtual 151, 8, 39, 2, 3, (0 : Int), [442]),
  (.aload_n 0, 11, 0, 0, 0, (0 : Int), []),
  (.iconst 1, 12, 0, 0, 0, (0 : Int), []),
  (.putfield 154, 13, 5, 5, 0, (2 : Int), [209]),
  (.aload_n 0, 16, 0, 0, 0, (0 : Int), []),
  (.getfield 10, 17, 5, 0, 8, (0 : Int), [204, 1]),
  (.getfield 44, 20, 3, 0, 1, (0 : Int), [122]),
  (.getfield 48, 23, 0, 4, 0, (0 : Int), [87]),
  (.ireturn, 26, 0, 0, 0, (0 : Int), [])]
/-- 68: BranchedSums.restore()I, 1 arguments, 1 locals -/
def zX5_restore : List zE := [(.aload_n 0, 0, 0, 0, 0, (0 : Int), []),
  (.getfield 154, 1, 5, 5, 0, (2 : Int), [209]),
  (.ifCond .ne 6, 4, 5, 0, 0, (0 : Int), []),
  (.bipush (-5), 7, 0, 0, 0, (0 : Int), []),
  (.ireturn, 9, 0, 0, 0, (0 : Int), []),
  (.aload_n 0, 10, 0, 0, 0, (0 : Int), []),
  (.getfield 25, 11, 5, 3, 1, (0 : Int), [207, 1]),
  (.aload_n 0, 14, 0, 0, 0, (0 : Int), []),
  (.getfield 10, 15, 5, 0, 8, (0 : Int), [204, 1]),
  (.invokevirtual 114, 18, 21, 2, 1, (0 : Int), [258]),
  (.aload_n 0, 21, 0, 0, 0, (0 : Int), []),
  (.getfield 10, 22, 5, 0, 8, (0 : Int), [204, 1]),
  (.aload_n 0, 25, 0, 0, 0, (0 : Int), []),
  (.getfield 19, 26, 5, 2, 24, (0 : Int), [206, 1]),
  (.invokevirtual 151, 29, 39, 2, 3, (0 : Int), [442]),
  (.aload_n 0, 32, 0, 0, 0, (0 : Int), []),
  (.getfield 10, 33, 5, 0, 8, (0 : Int), [204, 1]),
  (.getfield 44, 36, 3, 0, 1, (0 : Int), [122]),
  (.getfield 48, 39, 0, 4, 0, (0 : Int), [87]),
  (.ireturn, 42, 0, 0, 0, (0 : Int), [])]
/-- 69: BranchedSums.thing(II)I, 3 arguments, 3 locals -/
def zX5_thing : List zE := [(.aload_n 0, 0, 0, 0, 0, (0 : Int), []),
  (.getfield 10, 1, 5, 0, 8, (0 : Int), [204, 1]),
  (.getfield 44, 4, 3, 0, 1, (0 : Int), [122]),
  (.iload_n 1, 7, 0, 0, 0, (0 : Int), []),
  (.invokevirtual 86, 8, 1, 2, 0, (0 : Int), [357]),
  (.ifCond .ne 5, 11, 8, 0, 0, (0 : Int), []),
  (.iconst (-1), 14, 0, 0, 0, (0 : Int), []),
  (.ireturn, 15, 0, 0, 0, (0 : Int), []),
  (.iload_n 2, 16, 0, 0, 0, (0 : Int), []),
  (.tableswitch 112 0 4 #[35, 50, 65, 77, 92], 17, 0, 0, 0, (0 : Int), [47, 10, 17, 24, 30, 37]),
  (.aload_n 0, 52, 0, 0, 0, (0 : Int), []),
  (.getfield 10, 53, 5, 0, 8, (0 : Int), [204, 1]),
  (.getfield 44, 56, 3, 0, 1, (0 : Int), [122]),
  (.getfield 158, 59, 0, 0, 1, (0 : Int), [81]),
  (.iload_n 1, 62, 0, 0, 0, (0 : Int), []),
  (.invokestatic 76, 63, 83, 2, 0, (0 : Int), [352]),
  (.ireturn, 66, 0, 0, 0, (0 : Int), []),
  (.aload_n 0, 67, 0, 0, 0, (0 : Int), []),
  (.getfield 10, 68, 5, 0, 8, (0 : Int), [204, 1]),
  (.getfield 44, 71, 3, 0, 1, (0 : Int), [122]),
  (.getfield 159, 74, 0, 1, 2, (0 : Int), [83]),
  (.iload_n 1, 77, 0, 0, 0, (0 : Int), []),
  (.invokestatic 76, 78, 83, 2, 0, (0 : Int), [352]),
  (.ireturn, 81, 0, 0, 0, (0 : Int), []),
  (.aload_n 0, 82, 0, 0, 0, (0 : Int), []),
  (.getfield 10, 83, 5, 0, 8, (0 : Int), [204, 1]),
  (.getfield 44, 86, 3, 0, 1, (0 : Int), [122]),
  (.iload_n 1, 89, 0, 0, 0, (0 : Int), []),
  (.invokevirtual 160, 90, 8, 2, 0, (0 : Int), [540]),
  (.ireturn, 93, 0, 0, 0, (0 : Int), []),
  (.aload_n 0, 94, 0, 0, 0, (0 : Int), []),
  (.getfield 10, 95, 5, 0, 8, (0 : Int), [204, 1]),
  (.getfield 44, 98, 3, 0, 1, (0 : Int), [122]),
  (.getfield 93, 101, 0, 2, 3, (0 : Int), [85]),
  (.iload_n 1, 104, 0, 0, 0, (0 : Int), []),
  (.invokestatic 76, 105, 83, 2, 0, (0 : Int), [352]),
  (.ireturn, 108, 0, 0, 0, (0 : Int), []),
  (.aload_n 0, 109, 0, 0, 0, (0 : Int), []),
  (.getfield 10, 110, 5, 0, 8, (0 : Int), [204, 1]),
  (.getfield 163, 113, 3, 6, 0, (0 : Int), [134]),
  (.iload_n 1, 116, 0, 0, 0, (0 : Int), []),
  (.invokestatic 94, 117, 82, 2, 0, (0 : Int), [369]),
  (.ifCond .eq 7, 120, 45, 0, 0, (0 : Int), []),
  (.iconst 1, 123, 0, 0, 0, (0 : Int), []),
  (.goto 4, 124, 46, 0, 0, (0 : Int), []),
  (.iconst 0, 127, 0, 0, 0, (0 : Int), []),
  (.ireturn, 128, 0, 0, 0, (0 : Int), []),
  (.bipush (-2), 129, 0, 0, 0, (0 : Int), []),
  (.ireturn, 131, 0, 0, 0, (0 : Int), [])]
/-- 70: BranchedSums.node(II)I, 3 arguments, 4 locals -/
def zX5_node : List zE := [(.aload_n 0, 0, 0, 0, 0, (0 : Int), []),
  (.getfield 10, 1, 5, 0, 8, (0 : Int), [204, 1]),
  (.getfield 121, 4, 3, 1, 6, (0 : Int), [124]),
  (.astore_n 3, 7, 0, 0, 0, (0 : Int), []),
  (.aload_n 3, 8, 0, 0, 0, (0 : Int), []),
  (.iload_n 1, 9, 0, 0, 0, (0 : Int), []),
  (.invokevirtual 166, 10, 25, 2, 2, (0 : Int), [548]),
  (.ifCond .ne 5, 13, 10, 0, 0, (0 : Int), []),
  (.iconst (-1), 16, 0, 0, 0, (0 : Int), []),
  (.ireturn, 17, 0, 0, 0, (0 : Int), []),
  (.iload_n 2, 18, 0, 0, 0, (0 : Int), []),
  (.tableswitch 136 0 7 #[45, 60, 75, 97, 103, 109, 124, 130], 19, 0, 0, 0, (0 : Int), [65, 12, 20, 28, 40, 44, 48, 57, 61]),
  (.iload_n 1, 64, 0, 0, 0, (0 : Int), []),
  (.ifCond .ne 8, 65, 16, 0, 0, (0 : Int), []),
  (.bipush (-5), 68, 0, 0, 0, (0 : Int), []),
  (.goto 8, 70, 19, 0, 0, (0 : Int), []),
  (.aload_n 3, 73, 0, 0, 0, (0 : Int), []),
  (.iload_n 1, 74, 0, 0, 0, (0 : Int), []),
  (.invokevirtual 167, 75, 29, 2, 2, (0 : Int), [552]),
  (.ireturn, 78, 0, 0, 0, (0 : Int), []),
  (.iload_n 1, 79, 0, 0, 0, (0 : Int), []),
  (.ifCond .ne 8, 80, 24, 0, 0, (0 : Int), []),
  (.bipush (-5), 83, 0, 0, 0, (0 : Int), []),
  (.goto 8, 85, 27, 0, 0, (0 : Int), []),
  (.aload_n 3, 88, 0, 0, 0, (0 : Int), []),
  (.iload_n 1, 89, 0, 0, 0, (0 : Int), []),
  (.invokevirtual 170, 90, 33, 2, 2, (0 : Int), [556]),
  (.ireturn, 93, 0, 0, 0, (0 : Int), []),
  (.aload_n 3, 94, 0, 0, 0, (0 : Int), []),
  (.iload_n 1, 95, 0, 0, 0, (0 : Int), []),
  (.invokevirtual 173, 96, 31, 2, 2, (0 : Int), [560]),
  (.aload_n 3, 99, 0, 0, 0, (0 : Int), []),
  (.iload_n 1, 100, 0, 0, 0, (0 : Int), []),
  (.invokevirtual 170, 101, 33, 2, 2, (0 : Int), [556]),
  (.invokestatic 94, 104, 82, 2, 0, (0 : Int), [369]),
  (.ifCond .eq 7, 107, 38, 0, 0, (0 : Int), []),
  (.iconst 1, 110, 0, 0, 0, (0 : Int), []),
  (.goto 4, 111, 39, 0, 0, (0 : Int), []),
  (.iconst 0, 114, 0, 0, 0, (0 : Int), []),
  (.ireturn, 115, 0, 0, 0, (0 : Int), []),
  (.aload_n 3, 116, 0, 0, 0, (0 : Int), []),
  (.iload_n 1, 117, 0, 0, 0, (0 : Int), []),
  (.invokevirtual 125, 118, 30, 2, 2, (0 : Int), [433]),
  (.ireturn, 121, 0, 0, 0, (0 : Int), []),
  (.aload_n 3, 122, 0, 0, 0, (0 : Int), []),
  (.iload_n 1, 123, 0, 0, 0, (0 : Int), []),
  (.invokevirtual 176, 124, 28, 2, 2, (0 : Int), [561]),
  (.ireturn, 127, 0, 0, 0, (0 : Int), []),
  (.aload_n 3, 128, 0, 0, 0, (0 : Int), []),
  (.iload_n 1, 129, 0, 0, 0, (0 : Int), []),
  (.invokevirtual 173, 130, 31, 2, 2, (0 : Int), [560]),
  (.aload_n 3, 133, 0, 0, 0, (0 : Int), []),
  (.iload_n 1, 134, 0, 0, 0, (0 : Int), []),
  (.invokevirtual 179, 135, 32, 2, 2, (0 : Int), [562]),
  (.ior, 138, 0, 0, 0, (0 : Int), []),
  (.invokestatic 182, 139, 148, 1, 0, (0 : Int), [563]),
  (.ireturn, 142, 0, 0, 0, (0 : Int), []),
  (.aload_n 3, 143, 0, 0, 0, (0 : Int), []),
  (.iload_n 1, 144, 0, 0, 0, (0 : Int), []),
  (.invokevirtual 173, 145, 31, 2, 2, (0 : Int), [560]),
  (.ireturn, 148, 0, 0, 0, (0 : Int), []),
  (.aload_n 3, 149, 0, 0, 0, (0 : Int), []),
  (.iload_n 1, 150, 0, 0, 0, (0 : Int), []),
  (.invokevirtual 179, 151, 32, 2, 2, (0 : Int), [562]),
  (.ireturn, 154, 0, 0, 0, (0 : Int), []),
  (.bipush (-2), 155, 0, 0, 0, (0 : Int), []),
  (.ireturn, 157, 0, 0, 0, (0 : Int), [])]
/-- 71: BranchedSums.next()I, 1 arguments, 1 locals -/
def zX5_next : List zE := [(.aload_n 0, 0, 0, 0, 0, (0 : Int), []),
  (.getfield 10, 1, 5, 0, 8, (0 : Int), [204, 1]),
  (.getfield 121, 4, 3, 1, 6, (0 : Int), [124]),
  (.aload_n 0, 7, 0, 0, 0, (0 : Int), []),
  (.getfield 10, 8, 5, 0, 8, (0 : Int), [204, 1]),
  (.getfield 108, 11, 3, 2, 0, (0 : Int), [126]),
  (.invokevirtual 187, 14, 37, 2, 2, (0 : Int), [568]),
  (.ireturn, 17, 0, 0, 0, (0 : Int), [])]
/-- 72: BranchedSums.branchOf(II)I, 3 arguments, 4 locals -/
def zX5_branchOf : List zE := [(.aload_n 0, 0, 0, 0, 0, (0 : Int), []),
  (.getfield 10, 1, 5, 0, 8, (0 : Int), [204, 1]),
  (.getfield 121, 4, 3, 1, 6, (0 : Int), [124]),
  (.astore_n 3, 7, 0, 0, 0, (0 : Int), []),
  (.aload_n 3, 8, 0, 0, 0, (0 : Int), []),
  (.iload_n 1, 9, 0, 0, 0, (0 : Int), []),
  (.invokevirtual 166, 10, 25, 2, 2, (0 : Int), [548]),
  (.ifCond .eq 21, 13, 16, 0, 0, (0 : Int), []),
  (.aload_n 0, 16, 0, 0, 0, (0 : Int), []),
  (.getfield 10, 17, 5, 0, 8, (0 : Int), [204, 1]),
  (.getfield 44, 20, 3, 0, 1, (0 : Int), [122]),
  (.aload_n 3, 23, 0, 0, 0, (0 : Int), []),
  (.iload_n 1, 24, 0, 0, 0, (0 : Int), []),
  (.invokevirtual 173, 25, 31, 2, 2, (0 : Int), [560]),
  (.invokevirtual 190, 28, 10, 2, 0, (0 : Int), [573]),
  (.ifCond .ne 5, 31, 18, 0, 0, (0 : Int), []),
  (.iconst (-1), 34, 0, 0, 0, (0 : Int), []),
  (.ireturn, 35, 0, 0, 0, (0 : Int), []),
  (.iload_n 2, 36, 0, 0, 0, (0 : Int), []),
  (.iconst 0, 37, 0, 0, 0, (0 : Int), []),
  (.iconst 2, 38, 0, 0, 0, (0 : Int), []),
  (.invokestatic 36, 39, 81, 3, 0, (0 : Int), [227]),
  (.ifCond .ne 6, 42, 25, 0, 0, (0 : Int), []),
  (.bipush (-2), 45, 0, 0, 0, (0 : Int), []),
  (.ireturn, 47, 0, 0, 0, (0 : Int), []),
  (.aload_n 0, 48, 0, 0, 0, (0 : Int), []),
  (.getfield 10, 49, 5, 0, 8, (0 : Int), [204, 1]),
  (.getfield 44, 52, 3, 0, 1, (0 : Int), [122]),
  (.aload_n 3, 55, 0, 0, 0, (0 : Int), []),
  (.iload_n 1, 56, 0, 0, 0, (0 : Int), []),
  (.invokevirtual 173, 57, 31, 2, 2, (0 : Int), [560]),
  (.aload_n 3, 60, 0, 0, 0, (0 : Int), []),
  (.iload_n 1, 61, 0, 0, 0, (0 : Int), []),
  (.invokevirtual 179, 62, 32, 2, 2, (0 : Int), [562]),
  (.iload_n 2, 65, 0, 0, 0, (0 : Int), []),
  (.invokevirtual 193, 66, 18, 4, 0, (0 : Int), [574]),
  (.ireturn, 69, 0, 0, 0, (0 : Int), [])]
/-- 73: BranchedSums.boundOf(II)I, 3 arguments, 3 locals -/
def zX5_boundOf : List zE := [(.aload_n 0, 0, 0, 0, 0, (0 : Int), []),
  (.getfield 10, 1, 5, 0, 8, (0 : Int), [204, 1]),
  (.getfield 44, 4, 3, 0, 1, (0 : Int), [122]),
  (.iload_n 1, 7, 0, 0, 0, (0 : Int), []),
  (.iload_n 2, 8, 0, 0, 0, (0 : Int), []),
  (.invokevirtual 197, 9, 9, 3, 0, (0 : Int), [579]),
  (.ifCond .ne 6, 12, 9, 0, 0, (0 : Int), []),
  (.bipush (-2), 15, 0, 0, 0, (0 : Int), []),
  (.ireturn, 17, 0, 0, 0, (0 : Int), []),
  (.aload_n 0, 18, 0, 0, 0, (0 : Int), []),
  (.getfield 10, 19, 5, 0, 8, (0 : Int), [204, 1]),
  (.getfield 44, 22, 3, 0, 1, (0 : Int), [122]),
  (.iload_n 1, 25, 0, 0, 0, (0 : Int), []),
  (.iload_n 2, 26, 0, 0, 0, (0 : Int), []),
  (.invokevirtual 200, 27, 13, 3, 0, (0 : Int), [583]),
  (.ireturn, 30, 0, 0, 0, (0 : Int), [])]
/-- 74: BranchedSums.heelOf(II)I, 3 arguments, 3 locals -/
def zX5_heelOf : List zE := [(.aload_n 0, 0, 0, 0, 0, (0 : Int), []),
  (.getfield 10, 1, 5, 0, 8, (0 : Int), [204, 1]),
  (.getfield 44, 4, 3, 0, 1, (0 : Int), [122]),
  (.iload_n 1, 7, 0, 0, 0, (0 : Int), []),
  (.iload_n 2, 8, 0, 0, 0, (0 : Int), []),
  (.invokevirtual 197, 9, 9, 3, 0, (0 : Int), [579]),
  (.ifCond .ne 6, 12, 9, 0, 0, (0 : Int), []),
  (.bipush (-2), 15, 0, 0, 0, (0 : Int), []),
  (.ireturn, 17, 0, 0, 0, (0 : Int), []),
  (.aload_n 0, 18, 0, 0, 0, (0 : Int), []),
  (.getfield 10, 19, 5, 0, 8, (0 : Int), [204, 1]),
  (.getfield 44, 22, 3, 0, 1, (0 : Int), [122]),
  (.iload_n 1, 25, 0, 0, 0, (0 : Int), []),
  (.invokevirtual 190, 26, 10, 2, 0, (0 : Int), [573]),
  (.ifCond .eq 18, 29, 22, 0, 0, (0 : Int), []),
  (.aload_n 0, 32, 0, 0, 0, (0 : Int), []),
  (.getfield 10, 33, 5, 0, 8, (0 : Int), [204, 1]),
  (.getfield 44, 36, 3, 0, 1, (0 : Int), [122]),
  (.iload_n 1, 39, 0, 0, 0, (0 : Int), []),
  (.iload_n 2, 40, 0, 0, 0, (0 : Int), []),
  (.invokevirtual 203, 41, 17, 3, 0, (0 : Int), [588]),
  (.goto 5, 44, 23, 0, 0, (0 : Int), []),
  (.bipush (-4), 47, 0, 0, 0, (0 : Int), []),
  (.ireturn, 49, 0, 0, 0, (0 : Int), [])]
/-- 75: BranchedSums.bestSum()I, 1 arguments, 1 locals -/
def zX5_bestSum : List zE := [(.aload_n 0, 0, 0, 0, 0, (0 : Int), []),
  (.getfield 10, 1, 5, 0, 8, (0 : Int), [204, 1]),
  (.getfield 44, 4, 3, 0, 1, (0 : Int), [122]),
  (.iconst 0, 7, 0, 0, 0, (0 : Int), []),
  (.iconst 0, 8, 0, 0, 0, (0 : Int), []),
  (.aload_n 0, 9, 0, 0, 0, (0 : Int), []),
  (.getfield 10, 10, 5, 0, 8, (0 : Int), [204, 1]),
  (.getfield 44, 13, 3, 0, 1, (0 : Int), [122]),
  (.getfield 105, 16, 0, 5, 0, (0 : Int), [90]),
  (.invokestatic 206, 19, 80, 4, 0, (0 : Int), [593]),
  (.ireturn, 22, 0, 0, 0, (0 : Int), [])]
/-- 76: BranchedSums.count(I)I, 2 arguments, 2 locals -/
def zX5_count : List zE := [(.iload_n 1, 0, 0, 0, 0, (0 : Int), []),
  (.tableswitch 148 0 16 #[83, 94, 105, 116, 124, 148, 148, 148, 148, 148, 148, 148, 148, 148, 148, 132, 140], 1, 0, 0, 0, (0 : Int), [33, 2, 7, 12, 17, 21, 33, 33, 33, 33, 33, 33, 33, 33, 33, 33, 25, 29]),
  (.aload_n 0, 84, 0, 0, 0, (0 : Int), []),
  (.getfield 10, 85, 5, 0, 8, (0 : Int), [204, 1]),
  (.getfield 44, 88, 3, 0, 1, (0 : Int), [122]),
  (.getfield 48, 91, 0, 4, 0, (0 : Int), [87]),
  (.ireturn, 94, 0, 0, 0, (0 : Int), []),
  (.aload_n 0, 95, 0, 0, 0, (0 : Int), []),
  (.getfield 10, 96, 5, 0, 8, (0 : Int), [204, 1]),
  (.getfield 44, 99, 3, 0, 1, (0 : Int), [122]),
  (.getfield 105, 102, 0, 5, 0, (0 : Int), [90]),
  (.ireturn, 105, 0, 0, 0, (0 : Int), []),
  (.aload_n 0, 106, 0, 0, 0, (0 : Int), []),
  (.getfield 10, 107, 5, 0, 8, (0 : Int), [204, 1]),
  (.getfield 44, 110, 3, 0, 1, (0 : Int), [122]),
  (.invokevirtual 102, 113, 5, 1, 0, (0 : Int), [371]),
  (.ireturn, 116, 0, 0, 0, (0 : Int), []),
  (.aload_n 0, 117, 0, 0, 0, (0 : Int), []),
  (.getfield 10, 118, 5, 0, 8, (0 : Int), [204, 1]),
  (.getfield 108, 121, 3, 2, 0, (0 : Int), [126]),
  (.ireturn, 124, 0, 0, 0, (0 : Int), []),
  (.aload_n 0, 125, 0, 0, 0, (0 : Int), []),
  (.getfield 10, 126, 5, 0, 8, (0 : Int), [204, 1]),
  (.getfield 111, 129, 3, 3, 0, (0 : Int), [128]),
  (.ireturn, 132, 0, 0, 0, (0 : Int), []),
  (.aload_n 0, 133, 0, 0, 0, (0 : Int), []),
  (.getfield 25, 134, 5, 3, 1, (0 : Int), [207, 1]),
  (.getfield 147, 137, 1, 2, 0, (0 : Int), [162]),
  (.ireturn, 140, 0, 0, 0, (0 : Int), []),
  (.aload_n 0, 141, 0, 0, 0, (0 : Int), []),
  (.getfield 32, 142, 5, 4, 3, (0 : Int), [208, 1]),
  (.getfield 141, 145, 4, 4, 0, (0 : Int), [184]),
  (.ireturn, 148, 0, 0, 0, (0 : Int), []),
  (.aload_n 0, 149, 0, 0, 0, (0 : Int), []),
  (.iload_n 1, 150, 0, 0, 0, (0 : Int), []),
  (.invokevirtual 210, 151, 77, 2, 5, (0 : Int), [601]),
  (.ireturn, 154, 0, 0, 0, (0 : Int), [])]
/-- 77: BranchedSums.countOfSearch(I)I, 2 arguments, 3 locals -/
def zX5_countOfSearch : List zE := [(.aload_n 0, 0, 0, 0, 0, (0 : Int), []),
  (.getfield 10, 1, 5, 0, 8, (0 : Int), [204, 1]),
  (.getfield 121, 4, 3, 1, 6, (0 : Int), [124]),
  (.getfield 213, 7, 2, 1, 0, (0 : Int), [114]),
  (.ifCond .le 7, 10, 7, 0, 0, (0 : Int), []),
  (.iconst 1, 13, 0, 0, 0, (0 : Int), []),
  (.goto 4, 14, 8, 0, 0, (0 : Int), []),
  (.iconst 0, 17, 0, 0, 0, (0 : Int), []),
  (.istore_n 2, 18, 0, 0, 0, (0 : Int), []),
  (.iload_n 1, 19, 0, 0, 0, (0 : Int), []),
  (.tableswitch 190 5 14 #[56, 72, 83, 95, 112, 129, 146, 154, 166, 178], 20, 0, 0, 0, (5 : Int), [76, 11, 19, 24, 30, 38, 46, 54, 58, 64, 70]),
  (.aload_n 0, 76, 0, 0, 0, (0 : Int), []),
  (.getfield 10, 77, 5, 0, 8, (0 : Int), [204, 1]),
  (.invokevirtual 40, 80, 40, 1, 3, (0 : Int), [230]),
  (.ifCond .eq 7, 83, 17, 0, 0, (0 : Int), []),
  (.iconst 1, 86, 0, 0, 0, (0 : Int), []),
  (.goto 4, 87, 18, 0, 0, (0 : Int), []),
  (.iconst 0, 90, 0, 0, 0, (0 : Int), []),
  (.ireturn, 91, 0, 0, 0, (0 : Int), []),
  (.aload_n 0, 92, 0, 0, 0, (0 : Int), []),
  (.getfield 10, 93, 5, 0, 8, (0 : Int), [204, 1]),
  (.getfield 121, 96, 3, 1, 6, (0 : Int), [124]),
  (.getfield 213, 99, 2, 1, 0, (0 : Int), [114]),
  (.ireturn, 102, 0, 0, 0, (0 : Int), []),
  (.aload_n 0, 103, 0, 0, 0, (0 : Int), []),
  (.getfield 10, 104, 5, 0, 8, (0 : Int), [204, 1]),
  (.getfield 121, 107, 3, 1, 6, (0 : Int), [124]),
  (.iconst 0, 110, 0, 0, 0, (0 : Int), []),
  (.invokevirtual 135, 111, 36, 2, 2, (0 : Int), [499]),
  (.ireturn, 114, 0, 0, 0, (0 : Int), []),
  (.iload_n 2, 115, 0, 0, 0, (0 : Int), []),
  (.ifCond .eq 13, 116, 36, 0, 0, (0 : Int), []),
  (.aload_n 0, 119, 0, 0, 0, (0 : Int), []),
  (.getfield 10, 120, 5, 0, 8, (0 : Int), [204, 1]),
  (.getfield 216, 123, 3, 5, 0, (0 : Int), [132]),
  (.goto 5, 126, 37, 0, 0, (0 : Int), []),
  (.bipush (-5), 129, 0, 0, 0, (0 : Int), []),
  (.ireturn, 131, 0, 0, 0, (0 : Int), []),
  (.iload_n 2, 132, 0, 0, 0, (0 : Int), []),
  (.ifCond .eq 13, 133, 44, 0, 0, (0 : Int), []),
  (.aload_n 0, 136, 0, 0, 0, (0 : Int), []),
  (.getfield 10, 137, 5, 0, 8, (0 : Int), [204, 1]),
  (.getfield 163, 140, 3, 6, 0, (0 : Int), [134]),
  (.goto 5, 143, 45, 0, 0, (0 : Int), []),
  (.bipush (-5), 146, 0, 0, 0, (0 : Int), []),
  (.ireturn, 148, 0, 0, 0, (0 : Int), []),
  (.iload_n 2, 149, 0, 0, 0, (0 : Int), []),
  (.ifCond .eq 13, 150, 52, 0, 0, (0 : Int), []),
  (.aload_n 0, 153, 0, 0, 0, (0 : Int), []),
  (.getfield 10, 154, 5, 0, 8, (0 : Int), [204, 1]),
  (.invokevirtual 219, 157, 43, 1, 3, (0 : Int), [605]),
  (.goto 5, 160, 53, 0, 0, (0 : Int), []),
  (.bipush (-5), 163, 0, 0, 0, (0 : Int), []),
  (.ireturn, 165, 0, 0, 0, (0 : Int), []),
  (.aload_n 0, 166, 0, 0, 0, (0 : Int), []),
  (.getfield 10, 167, 5, 0, 8, (0 : Int), [204, 1]),
  (.getfield 222, 170, 3, 4, 0, (0 : Int), [130]),
  (.ireturn, 173, 0, 0, 0, (0 : Int), []),
  (.aload_n 0, 174, 0, 0, 0, (0 : Int), []),
  (.getfield 10, 175, 5, 0, 8, (0 : Int), [204, 1]),
  (.getfield 121, 178, 3, 1, 6, (0 : Int), [124]),
  (.iconst 1, 181, 0, 0, 0, (0 : Int), []),
  (.invokevirtual 135, 182, 36, 2, 2, (0 : Int), [499]),
  (.ireturn, 185, 0, 0, 0, (0 : Int), []),
  (.aload_n 0, 186, 0, 0, 0, (0 : Int), []),
  (.getfield 10, 187, 5, 0, 8, (0 : Int), [204, 1]),
  (.getfield 121, 190, 3, 1, 6, (0 : Int), [124]),
  (.iconst 2, 193, 0, 0, 0, (0 : Int), []),
  (.invokevirtual 135, 194, 36, 2, 2, (0 : Int), [499]),
  (.ireturn, 197, 0, 0, 0, (0 : Int), []),
  (.aload_n 0, 198, 0, 0, 0, (0 : Int), []),
  (.getfield 10, 199, 5, 0, 8, (0 : Int), [204, 1]),
  (.getfield 121, 202, 3, 1, 6, (0 : Int), [124]),
  (.iconst 3, 205, 0, 0, 0, (0 : Int), []),
  (.invokevirtual 135, 206, 36, 2, 2, (0 : Int), [499]),
  (.ireturn, 209, 0, 0, 0, (0 : Int), []),
  (.bipush (-2), 210, 0, 0, 0, (0 : Int), []),
  (.ireturn, 212, 0, 0, 0, (0 : Int), [])]
/-- 78: BranchedSums.prepareForChange()V, 1 arguments, 1 locals -/
def zX5_prepareForChange : List zE := [(.aload_n 0, 0, 0, 0, 0, (0 : Int), []),
  (.getfield 25, 1, 5, 3, 1, (0 : Int), [207, 1]),
  (.aload_n 0, 4, 0, 0, 0, (0 : Int), []),
  (.getfield 10, 5, 5, 0, 8, (0 : Int), [204, 1]),
  (.invokevirtual 114, 8, 21, 2, 1, (0 : Int), [258]),
  (.aload_n 0, 11, 0, 0, 0, (0 : Int), []),
  (.getfield 10, 12, 5, 0, 8, (0 : Int), [204, 1]),
  (.invokevirtual 225, 15, 41, 1, 3, (0 : Int), [292]),
  (.return_, 18, 0, 0, 0, (0 : Int), [])]
/-- 79: BranchedSums.goThrough(IIZ)I, 4 arguments, 7 locals -/
def zX5_goThrough : List zE := [(.aload_n 0, 0, 0, 0, 0, (0 : Int), []),
  (.getfield 10, 1, 5, 0, 8, (0 : Int), [204, 1]),
  (.invokevirtual 40, 4, 40, 1, 3, (0 : Int), [230]),
  (.ifCond .ne 6, 7, 6, 0, 0, (0 : Int), []),
  (.bipush (-4), 10, 0, 0, 0, (0 : Int), []),
  (.ireturn, 12, 0, 0, 0, (0 : Int), []),
  (.aload_n 0, 13, 0, 0, 0, (0 : Int), []),
  (.getfield 16, 14, 5, 1, 16, (0 : Int), [205, 1]),
  (.aload_n 0, 17, 0, 0, 0, (0 : Int), []),
  (.getfield 10, 18, 5, 0, 8, (0 : Int), [204, 1]),
  (.invokevirtual 151, 21, 39, 2, 3, (0 : Int), [442]),
  (.iconst 0, 24, 0, 0, 0, (0 : Int), []),
  (.istore 4, 25, 0, 0, 0, (0 : Int), []),
  (.iconst 1, 27, 0, 0, 0, (0 : Int), []),
  (.istore 5, 28, 0, 0, 0, (0 : Int), []),
  (.iload 5, 30, 0, 0, 0, (0 : Int), []),
  (.ifCond .eq 73, 32, 50, 0, 0, (0 : Int), []),
  (.iload 4, 35, 0, 0, 0, (0 : Int), []),
  (.iload_n 1, 37, 0, 0, 0, (0 : Int), []),
  (.if_icmp .ge 67, 38, 50, 0, 0, (0 : Int), []),
  (.aload_n 0, 41, 0, 0, 0, (0 : Int), []),
  (.getfield 10, 42, 5, 0, 8, (0 : Int), [204, 1]),
  (.iload_n 2, 45, 0, 0, 0, (0 : Int), []),
  (.invokevirtual 228, 46, 44, 2, 3, (0 : Int), [443]),
  (.istore 6, 49, 0, 0, 0, (0 : Int), []),
  (.iload 6, 51, 0, 0, 0, (0 : Int), []),
  (.bipush (-3), 53, 0, 0, 0, (0 : Int), []),
  (.if_icmp .ne 17, 55, 35, 0, 0, (0 : Int), []),
  (.aload_n 0, 58, 0, 0, 0, (0 : Int), []),
  (.getfield 10, 59, 5, 0, 8, (0 : Int), [204, 1]),
  (.aload_n 0, 62, 0, 0, 0, (0 : Int), []),
  (.getfield 16, 63, 5, 1, 16, (0 : Int), [205, 1]),
  (.invokevirtual 151, 66, 39, 2, 3, (0 : Int), [442]),
  (.bipush (-3), 69, 0, 0, 0, (0 : Int), []),
  (.ireturn, 71, 0, 0, 0, (0 : Int), []),
  (.iinc 4 1, 72, 0, 0, 0, (0 : Int), []),
  (.aload_n 0, 75, 0, 0, 0, (0 : Int), []),
  (.getfield 10, 76, 5, 0, 8, (0 : Int), [204, 1]),
  (.invokevirtual 40, 79, 40, 1, 3, (0 : Int), [230]),
  (.ifCond .eq 17, 82, 47, 0, 0, (0 : Int), []),
  (.iload_n 3, 85, 0, 0, 0, (0 : Int), []),
  (.ifCond .eq 9, 86, 45, 0, 0, (0 : Int), []),
  (.iload 6, 89, 0, 0, 0, (0 : Int), []),
  (.iconst 4, 91, 0, 0, 0, (0 : Int), []),
  (.if_icmp .ne 7, 92, 47, 0, 0, (0 : Int), []),
  (.iconst 1, 95, 0, 0, 0, (0 : Int), []),
  (.goto 4, 96, 48, 0, 0, (0 : Int), []),
  (.iconst 0, 99, 0, 0, 0, (0 : Int), []),
  (.istore 5, 100, 0, 0, 0, (0 : Int), []),
  (.goto (-72), 102, 15, 0, 0, (0 : Int), []),
  (.aload_n 0, 105, 0, 0, 0, (0 : Int), []),
  (.getfield 25, 106, 5, 3, 1, (0 : Int), [207, 1]),
  (.aload_n 0, 109, 0, 0, 0, (0 : Int), []),
  (.getfield 16, 110, 5, 1, 16, (0 : Int), [205, 1]),
  (.invokevirtual 114, 113, 21, 2, 1, (0 : Int), [258]),
  (.iload 4, 116, 0, 0, 0, (0 : Int), []),
  (.ireturn, 118, 0, 0, 0, (0 : Int), [])]
/-- 80: BranchedSums.bestFrom(LBranchedSums$Bag;III)I, 4 arguments, 7 locals -/
def zX5_bestFrom : List zE := [(.iload_n 1, 0, 0, 0, 0, (0 : Int), []),
  (.ifCond .lt 11, 1, 6, 0, 0, (0 : Int), []),
  (.iload_n 1, 4, 0, 0, 0, (0 : Int), []),
  (.aload_n 0, 5, 0, 0, 0, (0 : Int), []),
  (.getfield 48, 6, 0, 4, 0, (0 : Int), [87]),
  (.if_icmp .lt 5, 9, 8, 0, 0, (0 : Int), []),
  (.iconst 0, 12, 0, 0, 0, (0 : Int), []),
  (.ireturn, 13, 0, 0, 0, (0 : Int), []),
  (.aload_n 0, 14, 0, 0, 0, (0 : Int), []),
  (.iload_n 1, 15, 0, 0, 0, (0 : Int), []),
  (.iconst 1, 16, 0, 0, 0, (0 : Int), []),
  (.iadd, 17, 0, 0, 0, (0 : Int), []),
  (.iload_n 2, 18, 0, 0, 0, (0 : Int), []),
  (.iload_n 3, 19, 0, 0, 0, (0 : Int), []),
  (.invokestatic 206, 20, 80, 4, 0, (0 : Int), [593]),
  (.istore 4, 23, 0, 0, 0, (0 : Int), []),
  (.aload_n 0, 25, 0, 0, 0, (0 : Int), []),
  (.getfield 159, 26, 0, 1, 2, (0 : Int), [83]),
  (.iload_n 1, 29, 0, 0, 0, (0 : Int), []),
  (.invokestatic 76, 30, 83, 2, 0, (0 : Int), [352]),
  (.istore 5, 33, 0, 0, 0, (0 : Int), []),
  (.iload 5, 35, 0, 0, 0, (0 : Int), []),
  (.iload_n 3, 37, 0, 0, 0, (0 : Int), []),
  (.if_icmp .gt 11, 38, 28, 0, 0, (0 : Int), []),
  (.iload_n 2, 41, 0, 0, 0, (0 : Int), []),
  (.iload_n 1, 42, 0, 0, 0, (0 : Int), []),
  (.invokestatic 94, 43, 82, 2, 0, (0 : Int), [369]),
  (.ifCond .eq 6, 46, 30, 0, 0, (0 : Int), []),
  (.iload 4, 49, 0, 0, 0, (0 : Int), []),
  (.ireturn, 51, 0, 0, 0, (0 : Int), []),
  (.aload_n 0, 52, 0, 0, 0, (0 : Int), []),
  (.iload_n 1, 53, 0, 0, 0, (0 : Int), []),
  (.iconst 1, 54, 0, 0, 0, (0 : Int), []),
  (.iadd, 55, 0, 0, 0, (0 : Int), []),
  (.iload_n 2, 56, 0, 0, 0, (0 : Int), []),
  (.aload_n 0, 57, 0, 0, 0, (0 : Int), []),
  (.getfield 93, 58, 0, 2, 3, (0 : Int), [85]),
  (.iload_n 1, 61, 0, 0, 0, (0 : Int), []),
  (.invokestatic 76, 62, 83, 2, 0, (0 : Int), [352]),
  (.ior, 65, 0, 0, 0, (0 : Int), []),
  (.iload_n 3, 66, 0, 0, 0, (0 : Int), []),
  (.iload 5, 67, 0, 0, 0, (0 : Int), []),
  (.isub, 69, 0, 0, 0, (0 : Int), []),
  (.invokestatic 206, 70, 80, 4, 0, (0 : Int), [593]),
  (.istore 6, 73, 0, 0, 0, (0 : Int), []),
  (.iload 4, 75, 0, 0, 0, (0 : Int), []),
  (.aload_n 0, 77, 0, 0, 0, (0 : Int), []),
  (.getfield 158, 78, 0, 0, 1, (0 : Int), [81]),
  (.iload_n 1, 81, 0, 0, 0, (0 : Int), []),
  (.invokestatic 76, 82, 83, 2, 0, (0 : Int), [352]),
  (.iload 6, 85, 0, 0, 0, (0 : Int), []),
  (.iadd, 87, 0, 0, 0, (0 : Int), []),
  (.invokestatic 231, 88, 0, 2, 3, (0 : Int), [596]),
  (.ireturn, 91, 0, 0, 0, (0 : Int), [])]
/-- 81: BranchedSums.isWithin(III)Z, 3 arguments, 3 locals -/
def zX5_isWithin : List zE := [(.iload_n 0, 0, 0, 0, 0, (0 : Int), []),
  (.iload_n 1, 1, 0, 0, 0, (0 : Int), []),
  (.if_icmp .lt 12, 2, 8, 0, 0, (0 : Int), []),
  (.iload_n 0, 5, 0, 0, 0, (0 : Int), []),
  (.iload_n 2, 6, 0, 0, 0, (0 : Int), []),
  (.if_icmp .gt 7, 7, 8, 0, 0, (0 : Int), []),
  (.iconst 1, 10, 0, 0, 0, (0 : Int), []),
  (.goto 4, 11, 9, 0, 0, (0 : Int), []),
  (.iconst 0, 14, 0, 0, 0, (0 : Int), []),
  (.ireturn, 15, 1, 0, 0, (0 : Int), [])]
/-- 82: BranchedSums.has(II)Z, 2 arguments, 2 locals -/
def zX5_has : List zE := [(.iload_n 0, 0, 0, 0, 0, (0 : Int), []),
  (.iload_n 1, 1, 0, 0, 0, (0 : Int), []),
  (.ishr, 2, 0, 0, 0, (0 : Int), []),
  (.iconst 1, 3, 0, 0, 0, (0 : Int), []),
  (.iand, 4, 0, 0, 0, (0 : Int), []),
  (.iconst 1, 5, 0, 0, 0, (0 : Int), []),
  (.if_icmp .ne 7, 6, 9, 0, 0, (0 : Int), []),
  (.iconst 1, 9, 0, 0, 0, (0 : Int), []),
  (.goto 4, 10, 10, 0, 0, (0 : Int), []),
  (.iconst 0, 13, 0, 0, 0, (0 : Int), []),
  (.ireturn, 14, 1, 0, 0, (0 : Int), [])]
/-- 83: BranchedSums.at([II)I, 2 arguments, 2 locals -/
def zX5_at : List zE := [(.iload_n 1, 0, 0, 0, 0, (0 : Int), []),
  (.ifCond .lt 15, 1, 10, 0, 0, (0 : Int), []),
  (.iload_n 1, 4, 0, 0, 0, (0 : Int), []),
  (.aload_n 0, 5, 0, 0, 0, (0 : Int), []),
  (.arraylength, 6, 0, 0, 0, (0 : Int), []),
  (.if_icmp .ge 9, 7, 10, 0, 0, (0 : Int), []),
  (.aload_n 0, 10, 0, 0, 0, (0 : Int), []),
  (.iload_n 1, 11, 0, 0, 0, (0 : Int), []),
  (.iaload, 12, 0, 0, 0, (0 : Int), []),
  (.goto 4, 13, 11, 0, 0, (0 : Int), []),
  (.iconst 0, 16, 0, 0, 0, (0 : Int), []),
  (.ireturn, 17, 0, 0, 0, (0 : Int), [])]
/-- 84: BranchedSums.put([III)V, 3 arguments, 3 locals -/
def zX5_put : List zE := [(.iload_n 1, 0, 0, 0, 0, (0 : Int), []),
  (.ifCond .lt 13, 1, 10, 0, 0, (0 : Int), []),
  (.iload_n 1, 4, 0, 0, 0, (0 : Int), []),
  (.aload_n 0, 5, 0, 0, 0, (0 : Int), []),
  (.arraylength, 6, 0, 0, 0, (0 : Int), []),
  (.if_icmp .ge 7, 7, 10, 0, 0, (0 : Int), []),
  (.aload_n 0, 10, 0, 0, 0, (0 : Int), []),
  (.iload_n 1, 11, 0, 0, 0, (0 : Int), []),
  (.iload_n 2, 12, 0, 0, 0, (0 : Int), []),
  (.iastore, 13, 0, 0, 0, (0 : Int), []),
  (.return_, 14, 0, 0, 0, (0 : Int), [])]
/-- 85: BranchedSums.sumOf([II)I, 2 arguments, 4 locals -/
def zX5_sumOf : List zE := [(.iconst 0, 0, 0, 0, 0, (0 : Int), []),
  (.istore_n 2, 1, 0, 0, 0, (0 : Int), []),
  (.iconst 0, 2, 0, 0, 0, (0 : Int), []),
  (.istore_n 3, 3, 0, 0, 0, (0 : Int), []),
  (.iload_n 3, 4, 0, 0, 0, (0 : Int), []),
  (.aload_n 0, 5, 0, 0, 0, (0 : Int), []),
  (.arraylength, 6, 0, 0, 0, (0 : Int), []),
  (.if_icmp .ge 23, 7, 22, 0, 0, (0 : Int), []),
  (.iload_n 1, 10, 0, 0, 0, (0 : Int), []),
  (.iconst 1, 11, 0, 0, 0, (0 : Int), []),
  (.iload_n 3, 12, 0, 0, 0, (0 : Int), []),
  (.ishl, 13, 0, 0, 0, (0 : Int), []),
  (.iand, 14, 0, 0, 0, (0 : Int), []),
  (.ifCond .eq 9, 15, 20, 0, 0, (0 : Int), []),
  (.iload_n 2, 18, 0, 0, 0, (0 : Int), []),
  (.aload_n 0, 19, 0, 0, 0, (0 : Int), []),
  (.iload_n 3, 20, 0, 0, 0, (0 : Int), []),
  (.iaload, 21, 0, 0, 0, (0 : Int), []),
  (.iadd, 22, 0, 0, 0, (0 : Int), []),
  (.istore_n 2, 23, 0, 0, 0, (0 : Int), []),
  (.iinc 3 1, 24, 0, 0, 0, (0 : Int), []),
  (.goto (-23), 27, 4, 0, 0, (0 : Int), []),
  (.iload_n 2, 30, 0, 0, 0, (0 : Int), []),
  (.ireturn, 31, 0, 0, 0, (0 : Int), [])]
/-- 86: BranchedSums.copyRow([I[I)V, 2 arguments, 2 locals -/
def zX5_copyRow : List zE := [(.aload_n 0, 0, 0, 0, 0, (0 : Int), []),
  (.iconst 0, 1, 0, 0, 0, (0 : Int), []),
  (.aload_n 1, 2, 0, 0, 0, (0 : Int), []),
  (.iconst 0, 3, 0, 0, 0, (0 : Int), []),
  (.aload_n 0, 4, 0, 0, 0, (0 : Int), []),
  (.arraylength, 5, 0, 0, 0, (0 : Int), []),
  (.aload_n 1, 6, 0, 0, 0, (0 : Int), []),
  (.arraylength, 7, 0, 0, 0, (0 : Int), []),
  (.invokestatic 236, 8, 0, 2, 4, (0 : Int), [277]),
  (.invokestatic 239, 11, 0, 5, 2, (0 : Int), [280]),
  (.return_, 14, 0, 0, 0, (0 : Int), [])]
/-- 87: BranchedSumsModel.in(III)Z, 3 arguments, 3 locals -/
def zX6_in : List zE := [(.iload_n 0, 0, 0, 0, 0, (0 : Int), []),
  (.iload_n 1, 1, 0, 0, 0, (0 : Int), []),
  (.if_icmp .lt 12, 2, 8, 0, 0, (0 : Int), []),
  (.iload_n 0, 5, 0, 0, 0, (0 : Int), []),
  (.iload_n 2, 6, 0, 0, 0, (0 : Int), []),
  (.if_icmp .gt 7, 7, 8, 0, 0, (0 : Int), []),
  (.iconst 1, 10, 0, 0, 0, (0 : Int), []),
  (.goto 4, 11, 9, 0, 0, (0 : Int), []),
  (.iconst 0, 14, 0, 0, 0, (0 : Int), []),
  (.ireturn, 15, 1, 0, 0, (0 : Int), [])]
/-- 88: BranchedSumsModel.isThing(I)Z, 2 arguments, 2 locals -/
def zX6_isThing : List zE := [(.iload_n 1, 0, 0, 0, 0, (0 : Int), []),
  (.iconst 0, 1, 0, 0, 0, (0 : Int), []),
  (.aload_n 0, 2, 0, 0, 0, (0 : Int), []),
  (.getfield 7, 3, 6, 0, 65, (0 : Int), [615, 1]),
  (.iconst 0, 6, 0, 0, 0, (0 : Int), []),
  (.iaload, 7, 0, 0, 0, (0 : Int), []),
  (.iconst 1, 8, 0, 0, 0, (0 : Int), []),
  (.isub, 9, 0, 0, 0, (0 : Int), []),
  (.invokestatic 31, 10, 87, 3, 0, (0 : Int), [678]),
  (.ireturn, 13, 1, 0, 0, (0 : Int), [])]
/-- 89: BranchedSumsModel.isNode(I)Z, 2 arguments, 2 locals -/
def zX6_isNode : List zE := [(.iload_n 1, 0, 0, 0, 0, (0 : Int), []),
  (.iconst 0, 1, 0, 0, 0, (0 : Int), []),
  (.aload_n 0, 2, 0, 0, 0, (0 : Int), []),
  (.getfield 7, 3, 6, 0, 65, (0 : Int), [615, 1]),
  (.iconst 5, 6, 0, 0, 0, (0 : Int), []),
  (.iaload, 7, 0, 0, 0, (0 : Int), []),
  (.iconst 1, 8, 0, 0, 0, (0 : Int), []),
  (.isub, 9, 0, 0, 0, (0 : Int), []),
  (.invokestatic 31, 10, 87, 3, 0, (0 : Int), [678]),
  (.ireturn, 13, 1, 0, 0, (0 : Int), [])]
/-- 90: BranchedSumsModel.ones(I)I, 1 arguments, 3 locals -/
def zX6_ones : List zE := [(.iconst 0, 0, 0, 0, 0, (0 : Int), []),
  (.istore_n 1, 1, 0, 0, 0, (0 : Int), []),
  (.iload_n 0, 2, 0, 0, 0, (0 : Int), []),
  (.istore_n 2, 3, 0, 0, 0, (0 : Int), []),
  (.iload_n 2, 4, 0, 0, 0, (0 : Int), []),
  (.ifCond .eq 15, 5, 14, 0, 0, (0 : Int), []),
  (.iinc 1 1, 8, 0, 0, 0, (0 : Int), []),
  (.iload_n 2, 11, 0, 0, 0, (0 : Int), []),
  (.iload_n 2, 12, 0, 0, 0, (0 : Int), []),
  (.iconst 1, 13, 0, 0, 0, (0 : Int), []),
  (.isub, 14, 0, 0, 0, (0 : Int), []),
  (.iand, 15, 0, 0, 0, (0 : Int), []),
  (.istore_n 2, 16, 0, 0, 0, (0 : Int), []),
  (.goto (-13), 17, 4, 0, 0, (0 : Int), []),
  (.iload_n 1, 20, 0, 0, 0, (0 : Int), []),
  (.ireturn, 21, 0, 0, 0, (0 : Int), [])]
/-- 91: BranchedSumsModel.copies([II[II)V, 4 arguments, 5 locals -/
def zX6_copies : List zE := [(.iconst 0, 0, 0, 0, 0, (0 : Int), []),
  (.istore 4, 1, 0, 0, 0, (0 : Int), []),
  (.iload 4, 3, 0, 0, 0, (0 : Int), []),
  (.sipush 2845, 5, 0, 0, 0, (0 : Int), []),
  (.if_icmp .ge 21, 8, 17, 0, 0, (0 : Int), []),
  (.aload_n 2, 11, 0, 0, 0, (0 : Int), []),
  (.iload_n 3, 12, 0, 0, 0, (0 : Int), []),
  (.iload 4, 13, 0, 0, 0, (0 : Int), []),
  (.iadd, 15, 0, 0, 0, (0 : Int), []),
  (.aload_n 0, 16, 0, 0, 0, (0 : Int), []),
  (.iload_n 1, 17, 0, 0, 0, (0 : Int), []),
  (.iload 4, 18, 0, 0, 0, (0 : Int), []),
  (.iadd, 20, 0, 0, 0, (0 : Int), []),
  (.iaload, 21, 0, 0, 0, (0 : Int), []),
  (.iastore, 22, 0, 0, 0, (0 : Int), []),
  (.iinc 4 1, 23, 0, 0, 0, (0 : Int), []),
  (.goto (-23), 26, 2, 0, 0, (0 : Int), []),
  (.return_, 29, 0, 0, 0, (0 : Int), [])]
/-- 92: BranchedSumsModel.records()V, 1 arguments, 2 locals -/
def zX6_records : List zE := [(.aload_n 0, 0, 0, 0, 0, (0 : Int), []),
  (.getfield 35, 1, 6, 3, 0, (0 : Int), [618]),
  (.iconst 4, 4, 0, 0, 0, (0 : Int), []),
  (.if_icmp .ne 44, 5, 27, 0, 0, (0 : Int), []),
  (.iconst 0, 8, 0, 0, 0, (0 : Int), []),
  (.istore_n 1, 9, 0, 0, 0, (0 : Int), []),
  (.iload_n 1, 10, 0, 0, 0, (0 : Int), []),
  (.sipush 8535, 11, 0, 0, 0, (0 : Int), []),
  (.if_icmp .ge 25, 14, 21, 0, 0, (0 : Int), []),
  (.aload_n 0, 17, 0, 0, 0, (0 : Int), []),
  (.getfield 16, 18, 6, 2, 67, (0 : Int), [617, 1]),
  (.iload_n 1, 21, 0, 0, 0, (0 : Int), []),
  (.aload_n 0, 22, 0, 0, 0, (0 : Int), []),
  (.getfield 16, 23, 6, 2, 67, (0 : Int), [617, 1]),
  (.iload_n 1, 26, 0, 0, 0, (0 : Int), []),
  (.sipush 2845, 27, 0, 0, 0, (0 : Int), []),
  (.iadd, 30, 0, 0, 0, (0 : Int), []),
  (.iaload, 31, 0, 0, 0, (0 : Int), []),
  (.iastore, 32, 0, 0, 0, (0 : Int), []),
  (.iinc 1 1, 33, 0, 0, 0, (0 : Int), []),
  (.goto (-26), 36, 6, 0, 0, (0 : Int), []),
  (.aload_n 0, 39, 0, 0, 0, (0 : Int), []),
  (.dup, 40, 0, 0, 0, (0 : Int), []),
  (.getfield 35, 41, 6, 3, 0, (0 : Int), [618]),
  (.iconst 1, 44, 0, 0, 0, (0 : Int), []),
  (.isub, 45, 0, 0, 0, (0 : Int), []),
  (.putfield 35, 46, 6, 3, 0, (0 : Int), [618]),
  (.aload_n 0, 49, 0, 0, 0, (0 : Int), []),
  (.getfield 7, 50, 6, 0, 65, (0 : Int), [615, 1]),
  (.iconst 0, 53, 0, 0, 0, (0 : Int), []),
  (.aload_n 0, 54, 0, 0, 0, (0 : Int), []),
  (.getfield 16, 55, 6, 2, 67, (0 : Int), [617, 1]),
  (.sipush 2845, 58, 0, 0, 0, (0 : Int), []),
  (.aload_n 0, 61, 0, 0, 0, (0 : Int), []),
  (.getfield 35, 62, 6, 3, 0, (0 : Int), [618]),
  (.imul, 65, 0, 0, 0, (0 : Int), []),
  (.invokestatic 39, 66, 91, 4, 0, (0 : Int), [659]),
  (.aload_n 0, 69, 0, 0, 0, (0 : Int), []),
  (.dup, 70, 0, 0, 0, (0 : Int), []),
  (.getfield 35, 71, 6, 3, 0, (0 : Int), [618]),
  (.iconst 1, 74, 0, 0, 0, (0 : Int), []),
  (.iadd, 75, 0, 0, 0, (0 : Int), []),
  (.putfield 35, 76, 6, 3, 0, (0 : Int), [618]),
  (.return_, 79, 0, 0, 0, (0 : Int), [])]
/-- 93: BranchedSumsModel.undo()I, 1 arguments, 1 locals -/
def zX6_undo : List zE := [(.aload_n 0, 0, 0, 0, 0, (0 : Int), []),
  (.getfield 35, 1, 6, 3, 0, (0 : Int), [618]),
  (.ifCond .ne 6, 4, 5, 0, 0, (0 : Int), []),
  (.bipush (-5), 7, 0, 0, 0, (0 : Int), []),
  (.ireturn, 9, 0, 0, 0, (0 : Int), []),
  (.aload_n 0, 10, 0, 0, 0, (0 : Int), []),
  (.dup, 11, 0, 0, 0, (0 : Int), []),
  (.getfield 35, 12, 6, 3, 0, (0 : Int), [618]),
  (.iconst 1, 15, 0, 0, 0, (0 : Int), []),
  (.isub, 16, 0, 0, 0, (0 : Int), []),
  (.putfield 35, 17, 6, 3, 0, (0 : Int), [618]),
  (.aload_n 0, 20, 0, 0, 0, (0 : Int), []),
  (.getfield 16, 21, 6, 2, 67, (0 : Int), [617, 1]),
  (.sipush 2845, 24, 0, 0, 0, (0 : Int), []),
  (.aload_n 0, 27, 0, 0, 0, (0 : Int), []),
  (.getfield 35, 28, 6, 3, 0, (0 : Int), [618]),
  (.imul, 31, 0, 0, 0, (0 : Int), []),
  (.aload_n 0, 32, 0, 0, 0, (0 : Int), []),
  (.getfield 7, 33, 6, 0, 65, (0 : Int), [615, 1]),
  (.iconst 0, 36, 0, 0, 0, (0 : Int), []),
  (.invokestatic 39, 37, 91, 4, 0, (0 : Int), [659]),
  (.aload_n 0, 40, 0, 0, 0, (0 : Int), []),
  (.getfield 35, 41, 6, 3, 0, (0 : Int), [618]),
  (.ireturn, 44, 0, 0, 0, (0 : Int), [])]
/-- 94: BranchedSumsModel.keep()I, 1 arguments, 1 locals -/
def zX6_keep : List zE := [(.aload_n 0, 0, 0, 0, 0, (0 : Int), []),
  (.getfield 7, 1, 6, 0, 65, (0 : Int), [615, 1]),
  (.iconst 0, 4, 0, 0, 0, (0 : Int), []),
  (.aload_n 0, 5, 0, 0, 0, (0 : Int), []),
  (.getfield 19, 6, 6, 4, 68, (0 : Int), [619, 1]),
  (.iconst 0, 9, 0, 0, 0, (0 : Int), []),
  (.invokestatic 39, 10, 91, 4, 0, (0 : Int), [659]),
  (.aload_n 0, 13, 0, 0, 0, (0 : Int), []),
  (.iconst 1, 14, 0, 0, 0, (0 : Int), []),
  (.putfield 43, 15, 6, 5, 0, (2 : Int), [620]),
  (.aload_n 0, 18, 0, 0, 0, (0 : Int), []),
  (.getfield 7, 19, 6, 0, 65, (0 : Int), [615, 1]),
  (.iconst 0, 22, 0, 0, 0, (0 : Int), []),
  (.iaload, 23, 0, 0, 0, (0 : Int), []),
  (.ireturn, 24, 0, 0, 0, (0 : Int), [])]
/-- 95: BranchedSumsModel.restore()I, 1 arguments, 1 locals -/
def zX6_restore : List zE := [(.aload_n 0, 0, 0, 0, 0, (0 : Int), []),
  (.getfield 43, 1, 6, 5, 0, (2 : Int), [620]),
  (.ifCond .ne 6, 4, 5, 0, 0, (0 : Int), []),
  (.bipush (-5), 7, 0, 0, 0, (0 : Int), []),
  (.ireturn, 9, 0, 0, 0, (0 : Int), []),
  (.aload_n 0, 10, 0, 0, 0, (0 : Int), []),
  (.invokevirtual 47, 11, 92, 1, 6, (0 : Int), [670]),
  (.aload_n 0, 14, 0, 0, 0, (0 : Int), []),
  (.getfield 19, 15, 6, 4, 68, (0 : Int), [619, 1]),
  (.iconst 0, 18, 0, 0, 0, (0 : Int), []),
  (.aload_n 0, 19, 0, 0, 0, (0 : Int), []),
  (.getfield 7, 20, 6, 0, 65, (0 : Int), [615, 1]),
  (.iconst 0, 23, 0, 0, 0, (0 : Int), []),
  (.invokestatic 39, 24, 91, 4, 0, (0 : Int), [659]),
  (.aload_n 0, 27, 0, 0, 0, (0 : Int), []),
  (.getfield 7, 28, 6, 0, 65, (0 : Int), [615, 1]),
  (.iconst 0, 31, 0, 0, 0, (0 : Int), []),
  (.iaload, 32, 0, 0, 0, (0 : Int), []),
  (.ireturn, 33, 0, 0, 0, (0 : Int), [])]
/-- 96: BranchedSumsModel.place([II)I, 2 arguments, 6 locals -/
def zX6_place : List zE := [(.iconst 0, 0, 0, 0, 0, (0 : Int), []),
  (.istore_n 2, 1, 0, 0, 0, (0 : Int), []),
  (.iconst 0, 2, 0, 0, 0, (0 : Int), []),
  (.istore_n 3, 3, 0, 0, 0, (0 : Int), []),
  (.iload_n 3, 4, 0, 0, 0, (0 : Int), []),
  (.aload_n 0, 5, 0, 0, 0, (0 : Int), []),
  (.iconst 0, 6, 0, 0, 0, (0 : Int), []),
  (.iaload, 7, 0, 0, 0, (0 : Int), []),
  (.if_icmp .ge 66, 8, 50, 0, 0, (0 : Int), []),
  (.aload_n 0, 11, 0, 0, 0, (0 : Int), []),
  (.bipush 9, 12, 0, 0, 0, (0 : Int), []),
  (.iload_n 3, 14, 0, 0, 0, (0 : Int), []),
  (.iadd, 15, 0, 0, 0, (0 : Int), []),
  (.iaload, 16, 0, 0, 0, (0 : Int), []),
  (.aload_n 0, 17, 0, 0, 0, (0 : Int), []),
  (.bipush 21, 18, 0, 0, 0, (0 : Int), []),
  (.iload_n 1, 20, 0, 0, 0, (0 : Int), []),
  (.iadd, 21, 0, 0, 0, (0 : Int), []),
  (.iaload, 22, 0, 0, 0, (0 : Int), []),
  (.imul, 23, 0, 0, 0, (0 : Int), []),
  (.istore 4, 24, 0, 0, 0, (0 : Int), []),
  (.aload_n 0, 26, 0, 0, 0, (0 : Int), []),
  (.bipush 9, 27, 0, 0, 0, (0 : Int), []),
  (.iload_n 1, 29, 0, 0, 0, (0 : Int), []),
  (.iadd, 30, 0, 0, 0, (0 : Int), []),
  (.iaload, 31, 0, 0, 0, (0 : Int), []),
  (.aload_n 0, 32, 0, 0, 0, (0 : Int), []),
  (.bipush 21, 33, 0, 0, 0, (0 : Int), []),
  (.iload_n 3, 35, 0, 0, 0, (0 : Int), []),
  (.iadd, 36, 0, 0, 0, (0 : Int), []),
  (.iaload, 37, 0, 0, 0, (0 : Int), []),
  (.imul, 38, 0, 0, 0, (0 : Int), []),
  (.istore 5, 39, 0, 0, 0, (0 : Int), []),
  (.iload_n 2, 41, 0, 0, 0, (0 : Int), []),
  (.iload 4, 42, 0, 0, 0, (0 : Int), []),
  (.iload 5, 44, 0, 0, 0, (0 : Int), []),
  (.if_icmp .gt 15, 46, 43, 0, 0, (0 : Int), []),
  (.iload 4, 49, 0, 0, 0, (0 : Int), []),
  (.iload 5, 51, 0, 0, 0, (0 : Int), []),
  (.if_icmp .ne 12, 53, 45, 0, 0, (0 : Int), []),
  (.iload_n 3, 56, 0, 0, 0, (0 : Int), []),
  (.iload_n 1, 57, 0, 0, 0, (0 : Int), []),
  (.if_icmp .ge 7, 58, 45, 0, 0, (0 : Int), []),
  (.iconst 1, 61, 0, 0, 0, (0 : Int), []),
  (.goto 4, 62, 46, 0, 0, (0 : Int), []),
  (.iconst 0, 65, 0, 0, 0, (0 : Int), []),
  (.iadd, 66, 0, 0, 0, (0 : Int), []),
  (.istore_n 2, 67, 0, 0, 0, (0 : Int), []),
  (.iinc 3 1, 68, 0, 0, 0, (0 : Int), []),
  (.goto (-67), 71, 4, 0, 0, (0 : Int), []),
  (.iload_n 2, 74, 0, 0, 0, (0 : Int), []),
  (.ireturn, 75, 0, 0, 0, (0 : Int), [])]
/-- 97: BranchedSumsModel.sorts()V, 1 arguments, 2 locals -/
def zX6_sorts : List zE := [(.iconst 0, 0, 0, 0, 0, (0 : Int), []),
  (.istore_n 1, 1, 0, 0, 0, (0 : Int), []),
  (.iload_n 1, 2, 0, 0, 0, (0 : Int), []),
  (.aload_n 0, 3, 0, 0, 0, (0 : Int), []),
  (.getfield 7, 4, 6, 0, 65, (0 : Int), [615, 1]),
  (.iconst 0, 7, 0, 0, 0, (0 : Int), []),
  (.iaload, 8, 0, 0, 0, (0 : Int), []),
  (.if_icmp .ge 23, 9, 18, 0, 0, (0 : Int), []),
  (.aload_n 0, 12, 0, 0, 0, (0 : Int), []),
  (.getfield 28, 13, 6, 12, 71, (0 : Int), [627, 1]),
  (.aload_n 0, 16, 0, 0, 0, (0 : Int), []),
  (.getfield 7, 17, 6, 0, 65, (0 : Int), [615, 1]),
  (.iload_n 1, 20, 0, 0, 0, (0 : Int), []),
  (.invokestatic 50, 21, 96, 2, 0, (0 : Int), [758]),
  (.iload_n 1, 24, 0, 0, 0, (0 : Int), []),
  (.iastore, 25, 0, 0, 0, (0 : Int), []),
  (.iinc 1 1, 26, 0, 0, 0, (0 : Int), []),
  (.goto (-27), 29, 2, 0, 0, (0 : Int), []),
  (.return_, 32, 0, 0, 0, (0 : Int), [])]
/-- 98: BranchedSumsModel.sum([III)I, 3 arguments, 5 locals -/
def zX6_sum : List zE := [(.iconst 0, 0, 0, 0, 0, (0 : Int), []),
  (.istore_n 3, 1, 0, 0, 0, (0 : Int), []),
  (.iconst 0, 2, 0, 0, 0, (0 : Int), []),
  (.istore 4, 3, 0, 0, 0, (0 : Int), []),
  (.iload 4, 5, 0, 0, 0, (0 : Int), []),
  (.aload_n 0, 7, 0, 0, 0, (0 : Int), []),
  (.iconst 0, 8, 0, 0, 0, (0 : Int), []),
  (.iaload, 9, 0, 0, 0, (0 : Int), []),
  (.if_icmp .ge 32, 10, 28, 0, 0, (0 : Int), []),
  (.iload_n 3, 13, 0, 0, 0, (0 : Int), []),
  (.iload_n 2, 14, 0, 0, 0, (0 : Int), []),
  (.iload 4, 15, 0, 0, 0, (0 : Int), []),
  (.ishr, 17, 0, 0, 0, (0 : Int), []),
  (.iconst 1, 18, 0, 0, 0, (0 : Int), []),
  (.iand, 19, 0, 0, 0, (0 : Int), []),
  (.iconst 1, 20, 0, 0, 0, (0 : Int), []),
  (.if_icmp .ne 12, 21, 23, 0, 0, (0 : Int), []),
  (.aload_n 0, 24, 0, 0, 0, (0 : Int), []),
  (.iload_n 1, 25, 0, 0, 0, (0 : Int), []),
  (.iload 4, 26, 0, 0, 0, (0 : Int), []),
  (.iadd, 28, 0, 0, 0, (0 : Int), []),
  (.iaload, 29, 0, 0, 0, (0 : Int), []),
  (.goto 4, 30, 24, 0, 0, (0 : Int), []),
  (.iconst 0, 33, 0, 0, 0, (0 : Int), []),
  (.iadd, 34, 0, 0, 0, (0 : Int), []),
  (.istore_n 3, 35, 0, 0, 0, (0 : Int), []),
  (.iinc 4 1, 36, 0, 0, 0, (0 : Int), []),
  (.goto (-34), 39, 4, 0, 0, (0 : Int), []),
  (.iload_n 3, 42, 0, 0, 0, (0 : Int), []),
  (.ireturn, 43, 0, 0, 0, (0 : Int), [])]
/-- 99: BranchedSumsModel.isPossible([II)Z, 2 arguments, 4 locals -/
def zX6_isPossible : List zE := [(.aload_n 0, 0, 0, 0, 0, (0 : Int), []),
  (.bipush 21, 1, 0, 0, 0, (0 : Int), []),
  (.iload_n 1, 3, 0, 0, 0, (0 : Int), []),
  (.invokestatic 54, 4, 98, 3, 0, (0 : Int), [772]),
  (.aload_n 0, 7, 0, 0, 0, (0 : Int), []),
  (.iconst 1, 8, 0, 0, 0, (0 : Int), []),
  (.iaload, 9, 0, 0, 0, (0 : Int), []),
  (.if_icmp .gt 7, 10, 10, 0, 0, (0 : Int), []),
  (.iconst 1, 13, 0, 0, 0, (0 : Int), []),
  (.goto 4, 14, 11, 0, 0, (0 : Int), []),
  (.iconst 0, 17, 0, 0, 0, (0 : Int), []),
  (.istore_n 2, 18, 0, 0, 0, (0 : Int), []),
  (.iconst 0, 19, 0, 0, 0, (0 : Int), []),
  (.istore_n 3, 20, 0, 0, 0, (0 : Int), []),
  (.iload_n 3, 21, 0, 0, 0, (0 : Int), []),
  (.aload_n 0, 22, 0, 0, 0, (0 : Int), []),
  (.iconst 0, 23, 0, 0, 0, (0 : Int), []),
  (.iaload, 24, 0, 0, 0, (0 : Int), []),
  (.if_icmp .ge 38, 25, 41, 0, 0, (0 : Int), []),
  (.iload_n 2, 28, 0, 0, 0, (0 : Int), []),
  (.ifCond .eq 26, 29, 37, 0, 0, (0 : Int), []),
  (.iload_n 1, 32, 0, 0, 0, (0 : Int), []),
  (.iload_n 3, 33, 0, 0, 0, (0 : Int), []),
  (.ishr, 34, 0, 0, 0, (0 : Int), []),
  (.iconst 1, 35, 0, 0, 0, (0 : Int), []),
  (.iand, 36, 0, 0, 0, (0 : Int), []),
  (.ifCond .eq 14, 37, 35, 0, 0, (0 : Int), []),
  (.aload_n 0, 40, 0, 0, 0, (0 : Int), []),
  (.bipush 33, 41, 0, 0, 0, (0 : Int), []),
  (.iload_n 3, 43, 0, 0, 0, (0 : Int), []),
  (.iadd, 44, 0, 0, 0, (0 : Int), []),
  (.iaload, 45, 0, 0, 0, (0 : Int), []),
  (.iload_n 1, 46, 0, 0, 0, (0 : Int), []),
  (.iand, 47, 0, 0, 0, (0 : Int), []),
  (.ifCond .ne 7, 48, 37, 0, 0, (0 : Int), []),
  (.iconst 1, 51, 0, 0, 0, (0 : Int), []),
  (.goto 4, 52, 38, 0, 0, (0 : Int), []),
  (.iconst 0, 55, 0, 0, 0, (0 : Int), []),
  (.istore_n 2, 56, 0, 0, 0, (0 : Int), []),
  (.iinc 3 1, 57, 0, 0, 0, (0 : Int), []),
  (.goto (-39), 60, 14, 0, 0, (0 : Int), []),
  (.iload_n 2, 63, 0, 0, 0, (0 : Int), []),
  (.ireturn, 64, 1, 0, 0, (0 : Int), [])]
/-- 100: BranchedSumsModel.free([III)I, 3 arguments, 7 locals -/
def zX6_free : List zE := [(.iconst 0, 0, 0, 0, 0, (0 : Int), []),
  (.istore_n 3, 1, 0, 0, 0, (0 : Int), []),
  (.aload_n 0, 2, 0, 0, 0, (0 : Int), []),
  (.iconst 1, 3, 0, 0, 0, (0 : Int), []),
  (.iaload, 4, 0, 0, 0, (0 : Int), []),
  (.aload_n 0, 5, 0, 0, 0, (0 : Int), []),
  (.bipush 21, 6, 0, 0, 0, (0 : Int), []),
  (.iload_n 1, 8, 0, 0, 0, (0 : Int), []),
  (.invokestatic 54, 9, 98, 3, 0, (0 : Int), [772]),
  (.isub, 12, 0, 0, 0, (0 : Int), []),
  (.istore 4, 13, 0, 0, 0, (0 : Int), []),
  (.iconst 0, 15, 0, 0, 0, (0 : Int), []),
  (.istore 5, 16, 0, 0, 0, (0 : Int), []),
  (.iload 5, 18, 0, 0, 0, (0 : Int), []),
  (.aload_n 0, 20, 0, 0, 0, (0 : Int), []),
  (.iconst 0, 21, 0, 0, 0, (0 : Int), []),
  (.iaload, 22, 0, 0, 0, (0 : Int), []),
  (.if_icmp .ge 67, 23, 57, 0, 0, (0 : Int), []),
  (.iload_n 1, 26, 0, 0, 0, (0 : Int), []),
  (.iload_n 2, 27, 0, 0, 0, (0 : Int), []),
  (.ior, 28, 0, 0, 0, (0 : Int), []),
  (.iload 5, 29, 0, 0, 0, (0 : Int), []),
  (.ishr, 31, 0, 0, 0, (0 : Int), []),
  (.iconst 1, 32, 0, 0, 0, (0 : Int), []),
  (.iand, 33, 0, 0, 0, (0 : Int), []),
  (.ifCond .ne 31, 34, 43, 0, 0, (0 : Int), []),
  (.aload_n 0, 37, 0, 0, 0, (0 : Int), []),
  (.bipush 33, 38, 0, 0, 0, (0 : Int), []),
  (.iload 5, 40, 0, 0, 0, (0 : Int), []),
  (.iadd, 42, 0, 0, 0, (0 : Int), []),
  (.iaload, 43, 0, 0, 0, (0 : Int), []),
  (.iload_n 1, 44, 0, 0, 0, (0 : Int), []),
  (.iand, 45, 0, 0, 0, (0 : Int), []),
  (.ifCond .ne 19, 46, 43, 0, 0, (0 : Int), []),
  (.aload_n 0, 49, 0, 0, 0, (0 : Int), []),
  (.bipush 21, 50, 0, 0, 0, (0 : Int), []),
  (.iload 5, 52, 0, 0, 0, (0 : Int), []),
  (.iadd, 54, 0, 0, 0, (0 : Int), []),
  (.iaload, 55, 0, 0, 0, (0 : Int), []),
  (.iload 4, 56, 0, 0, 0, (0 : Int), []),
  (.if_icmp .gt 7, 58, 43, 0, 0, (0 : Int), []),
  (.iconst 1, 61, 0, 0, 0, (0 : Int), []),
  (.goto 4, 62, 44, 0, 0, (0 : Int), []),
  (.iconst 0, 65, 0, 0, 0, (0 : Int), []),
  (.istore 6, 66, 0, 0, 0, (0 : Int), []),
  (.iload_n 3, 68, 0, 0, 0, (0 : Int), []),
  (.iload 6, 69, 0, 0, 0, (0 : Int), []),
  (.ifCond .eq 10, 71, 52, 0, 0, (0 : Int), []),
  (.iconst 1, 74, 0, 0, 0, (0 : Int), []),
  (.iload 5, 75, 0, 0, 0, (0 : Int), []),
  (.ishl, 77, 0, 0, 0, (0 : Int), []),
  (.goto 4, 78, 53, 0, 0, (0 : Int), []),
  (.iconst 0, 81, 0, 0, 0, (0 : Int), []),
  (.ior, 82, 0, 0, 0, (0 : Int), []),
  (.istore_n 3, 83, 0, 0, 0, (0 : Int), []),
  (.iinc 5 1, 84, 0, 0, 0, (0 : Int), []),
  (.goto (-69), 87, 13, 0, 0, (0 : Int), []),
  (.iload_n 3, 90, 0, 0, 0, (0 : Int), []),
  (.ireturn, 91, 0, 0, 0, (0 : Int), [])]
/-- 101: BranchedSumsModel.split([III)I, 4 arguments, 8 locals -/
def zX6_split : List zE := [(.aload_n 1, 0, 0, 0, 0, (0 : Int), []),
  (.iload_n 2, 1, 0, 0, 0, (0 : Int), []),
  (.iload_n 3, 2, 0, 0, 0, (0 : Int), []),
  (.invokestatic 58, 3, 100, 3, 0, (0 : Int), [779]),
  (.istore 4, 6, 0, 0, 0, (0 : Int), []),
  (.aload_n 1, 8, 0, 0, 0, (0 : Int), []),
  (.iconst 1, 9, 0, 0, 0, (0 : Int), []),
  (.iaload, 10, 0, 0, 0, (0 : Int), []),
  (.aload_n 1, 11, 0, 0, 0, (0 : Int), []),
  (.bipush 21, 12, 0, 0, 0, (0 : Int), []),
  (.iload_n 2, 14, 0, 0, 0, (0 : Int), []),
  (.invokestatic 54, 15, 98, 3, 0, (0 : Int), [772]),
  (.isub, 18, 0, 0, 0, (0 : Int), []),
  (.istore 5, 19, 0, 0, 0, (0 : Int), []),
  (.iconst 0, 21, 0, 0, 0, (0 : Int), []),
  (.istore 6, 22, 0, 0, 0, (0 : Int), []),
  (.iload 6, 24, 0, 0, 0, (0 : Int), []),
  (.aload_n 1, 26, 0, 0, 0, (0 : Int), []),
  (.iconst 0, 27, 0, 0, 0, (0 : Int), []),
  (.iaload, 28, 0, 0, 0, (0 : Int), []),
  (.if_icmp .ge 56, 29, 52, 0, 0, (0 : Int), []),
  (.aload_n 0, 32, 0, 0, 0, (0 : Int), []),
  (.getfield 28, 33, 6, 12, 71, (0 : Int), [627, 1]),
  (.iload 6, 36, 0, 0, 0, (0 : Int), []),
  (.iaload, 38, 0, 0, 0, (0 : Int), []),
  (.istore 7, 39, 0, 0, 0, (0 : Int), []),
  (.iload 4, 41, 0, 0, 0, (0 : Int), []),
  (.iload 7, 43, 0, 0, 0, (0 : Int), []),
  (.ishr, 45, 0, 0, 0, (0 : Int), []),
  (.iconst 1, 46, 0, 0, 0, (0 : Int), []),
  (.iand, 47, 0, 0, 0, (0 : Int), []),
  (.iconst 1, 48, 0, 0, 0, (0 : Int), []),
  (.if_icmp .ne 30, 49, 50, 0, 0, (0 : Int), []),
  (.aload_n 1, 52, 0, 0, 0, (0 : Int), []),
  (.bipush 21, 53, 0, 0, 0, (0 : Int), []),
  (.iload 7, 55, 0, 0, 0, (0 : Int), []),
  (.iadd, 57, 0, 0, 0, (0 : Int), []),
  (.iaload, 58, 0, 0, 0, (0 : Int), []),
  (.iload 5, 59, 0, 0, 0, (0 : Int), []),
  (.if_icmp .le 6, 61, 42, 0, 0, (0 : Int), []),
  (.iload 7, 64, 0, 0, 0, (0 : Int), []),
  (.ireturn, 66, 0, 0, 0, (0 : Int), []),
  (.iload 5, 67, 0, 0, 0, (0 : Int), []),
  (.aload_n 1, 69, 0, 0, 0, (0 : Int), []),
  (.bipush 21, 70, 0, 0, 0, (0 : Int), []),
  (.iload 7, 72, 0, 0, 0, (0 : Int), []),
  (.iadd, 74, 0, 0, 0, (0 : Int), []),
  (.iaload, 75, 0, 0, 0, (0 : Int), []),
  (.isub, 76, 0, 0, 0, (0 : Int), []),
  (.istore 5, 77, 0, 0, 0, (0 : Int), []),
  (.iinc 6 1, 79, 0, 0, 0, (0 : Int), []),
  (.goto (-58), 82, 16, 0, 0, (0 : Int), []),
  (.bipush (-5), 85, 0, 0, 0, (0 : Int), []),
  (.ireturn, 87, 0, 0, 0, (0 : Int), [])]
/-- 102: BranchedSumsModel.bound([III)I, 4 arguments, 9 locals -/
def zX6_bound : List zE := [(.aload_n 1, 0, 0, 0, 0, (0 : Int), []),
  (.iload_n 2, 1, 0, 0, 0, (0 : Int), []),
  (.iload_n 3, 2, 0, 0, 0, (0 : Int), []),
  (.invokestatic 58, 3, 100, 3, 0, (0 : Int), [779]),
  (.istore 4, 6, 0, 0, 0, (0 : Int), []),
  (.aload_n 1, 8, 0, 0, 0, (0 : Int), []),
  (.iconst 1, 9, 0, 0, 0, (0 : Int), []),
  (.iaload, 10, 0, 0, 0, (0 : Int), []),
  (.aload_n 1, 11, 0, 0, 0, (0 : Int), []),
  (.bipush 21, 12, 0, 0, 0, (0 : Int), []),
  (.iload_n 2, 14, 0, 0, 0, (0 : Int), []),
  (.invokestatic 54, 15, 98, 3, 0, (0 : Int), [772]),
  (.isub, 18, 0, 0, 0, (0 : Int), []),
  (.istore 5, 19, 0, 0, 0, (0 : Int), []),
  (.aload_n 1, 21, 0, 0, 0, (0 : Int), []),
  (.bipush 9, 22, 0, 0, 0, (0 : Int), []),
  (.iload_n 2, 24, 0, 0, 0, (0 : Int), []),
  (.invokestatic 54, 25, 98, 3, 0, (0 : Int), [772]),
  (.istore 6, 28, 0, 0, 0, (0 : Int), []),
  (.iconst 0, 30, 0, 0, 0, (0 : Int), []),
  (.istore 7, 31, 0, 0, 0, (0 : Int), []),
  (.iload 7, 33, 0, 0, 0, (0 : Int), []),
  (.aload_n 1, 35, 0, 0, 0, (0 : Int), []),
  (.iconst 0, 36, 0, 0, 0, (0 : Int), []),
  (.iaload, 37, 0, 0, 0, (0 : Int), []),
  (.if_icmp .ge 87, 38, 79, 0, 0, (0 : Int), []),
  (.aload_n 0, 41, 0, 0, 0, (0 : Int), []),
  (.getfield 28, 42, 6, 12, 71, (0 : Int), [627, 1]),
  (.iload 7, 45, 0, 0, 0, (0 : Int), []),
  (.iaload, 47, 0, 0, 0, (0 : Int), []),
  (.istore 8, 48, 0, 0, 0, (0 : Int), []),
  (.iload 4, 50, 0, 0, 0, (0 : Int), []),
  (.iload 8, 52, 0, 0, 0, (0 : Int), []),
  (.ishr, 54, 0, 0, 0, (0 : Int), []),
  (.iconst 1, 55, 0, 0, 0, (0 : Int), []),
  (.iand, 56, 0, 0, 0, (0 : Int), []),
  (.iconst 1, 57, 0, 0, 0, (0 : Int), []),
  (.if_icmp .ne 61, 58, 77, 0, 0, (0 : Int), []),
  (.aload_n 1, 61, 0, 0, 0, (0 : Int), []),
  (.bipush 21, 62, 0, 0, 0, (0 : Int), []),
  (.iload 8, 64, 0, 0, 0, (0 : Int), []),
  (.iadd, 66, 0, 0, 0, (0 : Int), []),
  (.iaload, 67, 0, 0, 0, (0 : Int), []),
  (.iload 5, 68, 0, 0, 0, (0 : Int), []),
  (.if_icmp .le 25, 70, 61, 0, 0, (0 : Int), []),
  (.iload 6, 73, 0, 0, 0, (0 : Int), []),
  (.aload_n 1, 75, 0, 0, 0, (0 : Int), []),
  (.bipush 9, 76, 0, 0, 0, (0 : Int), []),
  (.iload 8, 78, 0, 0, 0, (0 : Int), []),
  (.iadd, 80, 0, 0, 0, (0 : Int), []),
  (.iaload, 81, 0, 0, 0, (0 : Int), []),
  (.iload 5, 82, 0, 0, 0, (0 : Int), []),
  (.imul, 84, 0, 0, 0, (0 : Int), []),
  (.aload_n 1, 85, 0, 0, 0, (0 : Int), []),
  (.bipush 21, 86, 0, 0, 0, (0 : Int), []),
  (.iload 8, 88, 0, 0, 0, (0 : Int), []),
  (.iadd, 90, 0, 0, 0, (0 : Int), []),
  (.iaload, 91, 0, 0, 0, (0 : Int), []),
  (.idiv, 92, 0, 0, 0, (0 : Int), []),
  (.iadd, 93, 0, 0, 0, (0 : Int), []),
  (.ireturn, 94, 0, 0, 0, (0 : Int), []),
  (.iload 5, 95, 0, 0, 0, (0 : Int), []),
  (.aload_n 1, 97, 0, 0, 0, (0 : Int), []),
  (.bipush 21, 98, 0, 0, 0, (0 : Int), []),
  (.iload 8, 100, 0, 0, 0, (0 : Int), []),
  (.iadd, 102, 0, 0, 0, (0 : Int), []),
  (.iaload, 103, 0, 0, 0, (0 : Int), []),
  (.isub, 104, 0, 0, 0, (0 : Int), []),
  (.istore 5, 105, 0, 0, 0, (0 : Int), []),
  (.iload 6, 107, 0, 0, 0, (0 : Int), []),
  (.aload_n 1, 109, 0, 0, 0, (0 : Int), []),
  (.bipush 9, 110, 0, 0, 0, (0 : Int), []),
  (.iload 8, 112, 0, 0, 0, (0 : Int), []),
  (.iadd, 114, 0, 0, 0, (0 : Int), []),
  (.iaload, 115, 0, 0, 0, (0 : Int), []),
  (.iadd, 116, 0, 0, 0, (0 : Int), []),
  (.istore 6, 117, 0, 0, 0, (0 : Int), []),
  (.iinc 7 1, 119, 0, 0, 0, (0 : Int), []),
  (.goto (-89), 122, 21, 0, 0, (0 : Int), []),
  (.iload 6, 125, 0, 0, 0, (0 : Int), []),
  (.ireturn, 127, 0, 0, 0, (0 : Int), [])]
/-- 103: BranchedSumsModel.heel([III)I, 4 arguments, 10 locals -/
def zX6_heel : List zE := [(.aload_n 1, 0, 0, 0, 0, (0 : Int), []),
  (.iload_n 2, 1, 0, 0, 0, (0 : Int), []),
  (.iload_n 3, 2, 0, 0, 0, (0 : Int), []),
  (.invokestatic 58, 3, 100, 3, 0, (0 : Int), [779]),
  (.istore 4, 6, 0, 0, 0, (0 : Int), []),
  (.iload_n 2, 8, 0, 0, 0, (0 : Int), []),
  (.istore 5, 9, 0, 0, 0, (0 : Int), []),
  (.aload_n 1, 11, 0, 0, 0, (0 : Int), []),
  (.iconst 1, 12, 0, 0, 0, (0 : Int), []),
  (.iaload, 13, 0, 0, 0, (0 : Int), []),
  (.aload_n 1, 14, 0, 0, 0, (0 : Int), []),
  (.bipush 21, 15, 0, 0, 0, (0 : Int), []),
  (.iload_n 2, 17, 0, 0, 0, (0 : Int), []),
  (.invokestatic 54, 18, 98, 3, 0, (0 : Int), [772]),
  (.isub, 21, 0, 0, 0, (0 : Int), []),
  (.istore 6, 22, 0, 0, 0, (0 : Int), []),
  (.iconst 0, 24, 0, 0, 0, (0 : Int), []),
  (.istore 7, 25, 0, 0, 0, (0 : Int), []),
  (.iload 7, 27, 0, 0, 0, (0 : Int), []),
  (.aload_n 1, 29, 0, 0, 0, (0 : Int), []),
  (.iconst 0, 30, 0, 0, 0, (0 : Int), []),
  (.iaload, 31, 0, 0, 0, (0 : Int), []),
  (.if_icmp .ge 100, 32, 78, 0, 0, (0 : Int), []),
  (.aload_n 0, 35, 0, 0, 0, (0 : Int), []),
  (.getfield 28, 36, 6, 12, 71, (0 : Int), [627, 1]),
  (.iload 7, 39, 0, 0, 0, (0 : Int), []),
  (.iaload, 41, 0, 0, 0, (0 : Int), []),
  (.istore 8, 42, 0, 0, 0, (0 : Int), []),
  (.iload 4, 44, 0, 0, 0, (0 : Int), []),
  (.iload 8, 46, 0, 0, 0, (0 : Int), []),
  (.ishr, 48, 0, 0, 0, (0 : Int), []),
  (.iconst 1, 49, 0, 0, 0, (0 : Int), []),
  (.iand, 50, 0, 0, 0, (0 : Int), []),
  (.iconst 1, 51, 0, 0, 0, (0 : Int), []),
  (.if_icmp .ne 32, 52, 52, 0, 0, (0 : Int), []),
  (.aload_n 1, 55, 0, 0, 0, (0 : Int), []),
  (.bipush 21, 56, 0, 0, 0, (0 : Int), []),
  (.iload 8, 58, 0, 0, 0, (0 : Int), []),
  (.iadd, 60, 0, 0, 0, (0 : Int), []),
  (.iaload, 61, 0, 0, 0, (0 : Int), []),
  (.iload 6, 62, 0, 0, 0, (0 : Int), []),
  (.if_icmp .gt 20, 64, 52, 0, 0, (0 : Int), []),
  (.aload_n 1, 67, 0, 0, 0, (0 : Int), []),
  (.bipush 33, 68, 0, 0, 0, (0 : Int), []),
  (.iload 8, 70, 0, 0, 0, (0 : Int), []),
  (.iadd, 72, 0, 0, 0, (0 : Int), []),
  (.iaload, 73, 0, 0, 0, (0 : Int), []),
  (.iload 5, 74, 0, 0, 0, (0 : Int), []),
  (.iand, 76, 0, 0, 0, (0 : Int), []),
  (.ifCond .ne 7, 77, 52, 0, 0, (0 : Int), []),
  (.iconst 1, 80, 0, 0, 0, (0 : Int), []),
  (.goto 4, 81, 53, 0, 0, (0 : Int), []),
  (.iconst 0, 84, 0, 0, 0, (0 : Int), []),
  (.istore 9, 85, 0, 0, 0, (0 : Int), []),
  (.iload 5, 87, 0, 0, 0, (0 : Int), []),
  (.iload 9, 89, 0, 0, 0, (0 : Int), []),
  (.ifCond .eq 10, 91, 61, 0, 0, (0 : Int), []),
  (.iconst 1, 94, 0, 0, 0, (0 : Int), []),
  (.iload 8, 95, 0, 0, 0, (0 : Int), []),
  (.ishl, 97, 0, 0, 0, (0 : Int), []),
  (.goto 4, 98, 62, 0, 0, (0 : Int), []),
  (.iconst 0, 101, 0, 0, 0, (0 : Int), []),
  (.ior, 102, 0, 0, 0, (0 : Int), []),
  (.istore 5, 103, 0, 0, 0, (0 : Int), []),
  (.iload 6, 105, 0, 0, 0, (0 : Int), []),
  (.iload 9, 107, 0, 0, 0, (0 : Int), []),
  (.ifCond .eq 13, 109, 73, 0, 0, (0 : Int), []),
  (.aload_n 1, 112, 0, 0, 0, (0 : Int), []),
  (.bipush 21, 113, 0, 0, 0, (0 : Int), []),
  (.iload 8, 115, 0, 0, 0, (0 : Int), []),
  (.iadd, 117, 0, 0, 0, (0 : Int), []),
  (.iaload, 118, 0, 0, 0, (0 : Int), []),
  (.goto 4, 119, 74, 0, 0, (0 : Int), []),
  (.iconst 0, 122, 0, 0, 0, (0 : Int), []),
  (.isub, 123, 0, 0, 0, (0 : Int), []),
  (.istore 6, 124, 0, 0, 0, (0 : Int), []),
  (.iinc 7 1, 126, 0, 0, 0, (0 : Int), []),
  (.goto (-102), 129, 18, 0, 0, (0 : Int), []),
  (.iload 5, 132, 0, 0, 0, (0 : Int), []),
  (.ireturn, 134, 0, 0, 0, (0 : Int), [])]
/-- 104: BranchedSumsModel.first([II)I, 3 arguments, 4 locals -/
def zX6_first : List zE := [(.iconst 0, 0, 0, 0, 0, (0 : Int), []),
  (.istore_n 3, 1, 0, 0, 0, (0 : Int), []),
  (.iload_n 3, 2, 0, 0, 0, (0 : Int), []),
  (.aload_n 1, 3, 0, 0, 0, (0 : Int), []),
  (.iconst 0, 4, 0, 0, 0, (0 : Int), []),
  (.iaload, 5, 0, 0, 0, (0 : Int), []),
  (.if_icmp .ge 30, 6, 24, 0, 0, (0 : Int), []),
  (.iload_n 2, 9, 0, 0, 0, (0 : Int), []),
  (.aload_n 0, 10, 0, 0, 0, (0 : Int), []),
  (.getfield 28, 11, 6, 12, 71, (0 : Int), [627, 1]),
  (.iload_n 3, 14, 0, 0, 0, (0 : Int), []),
  (.iaload, 15, 0, 0, 0, (0 : Int), []),
  (.ishr, 16, 0, 0, 0, (0 : Int), []),
  (.iconst 1, 17, 0, 0, 0, (0 : Int), []),
  (.iand, 18, 0, 0, 0, (0 : Int), []),
  (.iconst 1, 19, 0, 0, 0, (0 : Int), []),
  (.if_icmp .ne 10, 20, 22, 0, 0, (0 : Int), []),
  (.aload_n 0, 23, 0, 0, 0, (0 : Int), []),
  (.getfield 28, 24, 6, 12, 71, (0 : Int), [627, 1]),
  (.iload_n 3, 27, 0, 0, 0, (0 : Int), []),
  (.iaload, 28, 0, 0, 0, (0 : Int), []),
  (.ireturn, 29, 0, 0, 0, (0 : Int), []),
  (.iinc 3 1, 30, 0, 0, 0, (0 : Int), []),
  (.goto (-31), 33, 2, 0, 0, (0 : Int), []),
  (.bipush (-5), 36, 0, 0, 0, (0 : Int), []),
  (.ireturn, 38, 0, 0, 0, (0 : Int), [])]
/-- 105: BranchedSumsModel.byParts([III)I, 4 arguments, 7 locals -/
def zX6_byParts : List zE := [(.aload_n 0, 0, 0, 0, 0, (0 : Int), []),
  (.aload_n 1, 1, 0, 0, 0, (0 : Int), []),
  (.iload_n 2, 2, 0, 0, 0, (0 : Int), []),
  (.iload_n 3, 3, 0, 0, 0, (0 : Int), []),
  (.invokevirtual 61, 4, 101, 4, 6, (0 : Int), [809]),
  (.istore 4, 7, 0, 0, 0, (0 : Int), []),
  (.aload_n 1, 9, 0, 0, 0, (0 : Int), []),
  (.iload_n 2, 10, 0, 0, 0, (0 : Int), []),
  (.iload_n 3, 11, 0, 0, 0, (0 : Int), []),
  (.invokestatic 58, 12, 100, 3, 0, (0 : Int), [779]),
  (.istore 5, 15, 0, 0, 0, (0 : Int), []),
  (.aload_n 0, 17, 0, 0, 0, (0 : Int), []),
  (.aload_n 1, 18, 0, 0, 0, (0 : Int), []),
  (.iload 5, 19, 0, 0, 0, (0 : Int), []),
  (.aload_n 0, 21, 0, 0, 0, (0 : Int), []),
  (.aload_n 1, 22, 0, 0, 0, (0 : Int), []),
  (.iload_n 2, 23, 0, 0, 0, (0 : Int), []),
  (.iload_n 3, 24, 0, 0, 0, (0 : Int), []),
  (.invokevirtual 64, 25, 103, 4, 6, (0 : Int), [797]),
  (.iconst (-1), 28, 0, 0, 0, (0 : Int), []),
  (.ixor, 29, 0, 0, 0, (0 : Int), []),
  (.iand, 30, 0, 0, 0, (0 : Int), []),
  (.invokevirtual 67, 31, 104, 3, 6, (0 : Int), [813]),
  (.istore 6, 34, 0, 0, 0, (0 : Int), []),
  (.iload 4, 36, 0, 0, 0, (0 : Int), []),
  (.bipush (-5), 38, 0, 0, 0, (0 : Int), []),
  (.if_icmp .eq 8, 40, 29, 0, 0, (0 : Int), []),
  (.iload 4, 43, 0, 0, 0, (0 : Int), []),
  (.goto 22, 45, 38, 0, 0, (0 : Int), []),
  (.iload 6, 48, 0, 0, 0, (0 : Int), []),
  (.bipush (-5), 50, 0, 0, 0, (0 : Int), []),
  (.if_icmp .eq 8, 52, 34, 0, 0, (0 : Int), []),
  (.iload 6, 55, 0, 0, 0, (0 : Int), []),
  (.goto 10, 57, 38, 0, 0, (0 : Int), []),
  (.aload_n 0, 60, 0, 0, 0, (0 : Int), []),
  (.aload_n 1, 61, 0, 0, 0, (0 : Int), []),
  (.iload 5, 62, 0, 0, 0, (0 : Int), []),
  (.invokevirtual 67, 64, 104, 3, 6, (0 : Int), [813]),
  (.ireturn, 67, 0, 0, 0, (0 : Int), [])]
/-- 106: BranchedSumsModel.heaviest([II)I, 2 arguments, 4 locals -/
def zX6_heaviest : List zE := [(.bipush (-5), 0, 0, 0, 0, (0 : Int), []),
  (.istore_n 2, 2, 0, 0, 0, (0 : Int), []),
  (.iconst 0, 3, 0, 0, 0, (0 : Int), []),
  (.istore_n 3, 4, 0, 0, 0, (0 : Int), []),
  (.iload_n 3, 5, 0, 0, 0, (0 : Int), []),
  (.aload_n 0, 6, 0, 0, 0, (0 : Int), []),
  (.iconst 0, 7, 0, 0, 0, (0 : Int), []),
  (.iaload, 8, 0, 0, 0, (0 : Int), []),
  (.if_icmp .ge 45, 9, 36, 0, 0, (0 : Int), []),
  (.iload_n 1, 12, 0, 0, 0, (0 : Int), []),
  (.iload_n 3, 13, 0, 0, 0, (0 : Int), []),
  (.ishr, 14, 0, 0, 0, (0 : Int), []),
  (.iconst 1, 15, 0, 0, 0, (0 : Int), []),
  (.iand, 16, 0, 0, 0, (0 : Int), []),
  (.iconst 1, 17, 0, 0, 0, (0 : Int), []),
  (.if_icmp .ne 28, 18, 32, 0, 0, (0 : Int), []),
  (.iload_n 2, 21, 0, 0, 0, (0 : Int), []),
  (.bipush (-5), 22, 0, 0, 0, (0 : Int), []),
  (.if_icmp .eq 18, 24, 30, 0, 0, (0 : Int), []),
  (.aload_n 0, 27, 0, 0, 0, (0 : Int), []),
  (.bipush 21, 28, 0, 0, 0, (0 : Int), []),
  (.iload_n 3, 30, 0, 0, 0, (0 : Int), []),
  (.iadd, 31, 0, 0, 0, (0 : Int), []),
  (.iaload, 32, 0, 0, 0, (0 : Int), []),
  (.aload_n 0, 33, 0, 0, 0, (0 : Int), []),
  (.bipush 21, 34, 0, 0, 0, (0 : Int), []),
  (.iload_n 2, 36, 0, 0, 0, (0 : Int), []),
  (.iadd, 37, 0, 0, 0, (0 : Int), []),
  (.iaload, 38, 0, 0, 0, (0 : Int), []),
  (.if_icmp .le 7, 39, 32, 0, 0, (0 : Int), []),
  (.iload_n 3, 42, 0, 0, 0, (0 : Int), []),
  (.goto 4, 43, 33, 0, 0, (0 : Int), []),
  (.iload_n 2, 46, 0, 0, 0, (0 : Int), []),
  (.istore_n 2, 47, 0, 0, 0, (0 : Int), []),
  (.iinc 3 1, 48, 0, 0, 0, (0 : Int), []),
  (.goto (-46), 51, 4, 0, 0, (0 : Int), []),
  (.iload_n 2, 54, 0, 0, 0, (0 : Int), []),
  (.ireturn, 55, 0, 0, 0, (0 : Int), [])]
/-- 107: BranchedSumsModel.child([III)I, 4 arguments, 4 locals -/
def zX6_child : List zE := [(.aload_n 1, 0, 0, 0, 0, (0 : Int), []),
  (.iload_n 2, 1, 0, 0, 0, (0 : Int), []),
  (.invokestatic 70, 2, 99, 2, 0, (0 : Int), [769]),
  (.ifCond .eq 13, 5, 10, 0, 0, (0 : Int), []),
  (.aload_n 0, 8, 0, 0, 0, (0 : Int), []),
  (.aload_n 1, 9, 0, 0, 0, (0 : Int), []),
  (.iload_n 2, 10, 0, 0, 0, (0 : Int), []),
  (.iload_n 3, 11, 0, 0, 0, (0 : Int), []),
  (.invokevirtual 74, 12, 102, 4, 6, (0 : Int), [775]),
  (.goto 4, 15, 11, 0, 0, (0 : Int), []),
  (.iconst 0, 18, 0, 0, 0, (0 : Int), []),
  (.ireturn, 19, 0, 0, 0, (0 : Int), [])]
/-- 108: BranchedSumsModel.byTrials([III)I, 4 arguments, 14 locals -/
def zX6_byTrials : List zE := [(.aload_n 1, 0, 0, 0, 0, (0 : Int), []),
  (.iload_n 2, 1, 0, 0, 0, (0 : Int), []),
  (.iload_n 3, 2, 0, 0, 0, (0 : Int), []),
  (.invokestatic 58, 3, 100, 3, 0, (0 : Int), [779]),
  (.istore 4, 6, 0, 0, 0, (0 : Int), []),
  (.bipush (-5), 8, 0, 0, 0, (0 : Int), []),
  (.istore 5, 10, 0, 0, 0, (0 : Int), []),
  (.iconst 0, 12, 0, 0, 0, (0 : Int), []),
  (.istore 6, 13, 0, 0, 0, (0 : Int), []),
  (.iconst 0, 15, 0, 0, 0, (0 : Int), []),
  (.istore 7, 16, 0, 0, 0, (0 : Int), []),
  (.iconst 0, 18, 0, 0, 0, (0 : Int), []),
  (.istore 8, 19, 0, 0, 0, (0 : Int), []),
  (.iload 8, 21, 0, 0, 0, (0 : Int), []),
  (.aload_n 1, 23, 0, 0, 0, (0 : Int), []),
  (.iconst 0, 24, 0, 0, 0, (0 : Int), []),
  (.iaload, 25, 0, 0, 0, (0 : Int), []),
  (.if_icmp .ge 157, 26, 95, 0, 0, (0 : Int), []),
  (.iload 4, 29, 0, 0, 0, (0 : Int), []),
  (.iload 8, 31, 0, 0, 0, (0 : Int), []),
  (.ishr, 33, 0, 0, 0, (0 : Int), []),
  (.iconst 1, 34, 0, 0, 0, (0 : Int), []),
  (.iand, 35, 0, 0, 0, (0 : Int), []),
  (.iconst 1, 36, 0, 0, 0, (0 : Int), []),
  (.if_icmp .ne 140, 37, 93, 0, 0, (0 : Int), []),
  (.aload_n 0, 40, 0, 0, 0, (0 : Int), []),
  (.aload_n 1, 41, 0, 0, 0, (0 : Int), []),
  (.iload_n 2, 42, 0, 0, 0, (0 : Int), []),
  (.iload_n 3, 43, 0, 0, 0, (0 : Int), []),
  (.iconst 1, 44, 0, 0, 0, (0 : Int), []),
  (.iload 8, 45, 0, 0, 0, (0 : Int), []),
  (.ishl, 47, 0, 0, 0, (0 : Int), []),
  (.ior, 48, 0, 0, 0, (0 : Int), []),
  (.invokevirtual 77, 49, 107, 4, 6, (0 : Int), [765]),
  (.istore 9, 52, 0, 0, 0, (0 : Int), []),
  (.aload_n 0, 54, 0, 0, 0, (0 : Int), []),
  (.aload_n 1, 55, 0, 0, 0, (0 : Int), []),
  (.iload_n 2, 56, 0, 0, 0, (0 : Int), []),
  (.iconst 1, 57, 0, 0, 0, (0 : Int), []),
  (.iload 8, 58, 0, 0, 0, (0 : Int), []),
  (.ishl, 60, 0, 0, 0, (0 : Int), []),
  (.ior, 61, 0, 0, 0, (0 : Int), []),
  (.iload_n 3, 62, 0, 0, 0, (0 : Int), []),
  (.invokevirtual 77, 63, 107, 4, 6, (0 : Int), [765]),
  (.istore 10, 66, 0, 0, 0, (0 : Int), []),
  (.iload 9, 68, 0, 0, 0, (0 : Int), []),
  (.iload 10, 70, 0, 0, 0, (0 : Int), []),
  (.if_icmp .le 8, 72, 50, 0, 0, (0 : Int), []),
  (.iload 9, 75, 0, 0, 0, (0 : Int), []),
  (.goto 5, 77, 51, 0, 0, (0 : Int), []),
  (.iload 10, 80, 0, 0, 0, (0 : Int), []),
  (.istore 11, 82, 0, 0, 0, (0 : Int), []),
  (.iload 9, 84, 0, 0, 0, (0 : Int), []),
  (.iload 10, 86, 0, 0, 0, (0 : Int), []),
  (.if_icmp .le 8, 88, 57, 0, 0, (0 : Int), []),
  (.iload 10, 91, 0, 0, 0, (0 : Int), []),
  (.goto 5, 93, 58, 0, 0, (0 : Int), []),
  (.iload 9, 96, 0, 0, 0, (0 : Int), []),
  (.istore 12, 98, 0, 0, 0, (0 : Int), []),
  (.iload 5, 100, 0, 0, 0, (0 : Int), []),
  (.bipush (-5), 102, 0, 0, 0, (0 : Int), []),
  (.if_icmp .eq 24, 104, 71, 0, 0, (0 : Int), []),
  (.iload 11, 107, 0, 0, 0, (0 : Int), []),
  (.iload 6, 109, 0, 0, 0, (0 : Int), []),
  (.if_icmp .lt 17, 111, 71, 0, 0, (0 : Int), []),
  (.iload 11, 114, 0, 0, 0, (0 : Int), []),
  (.iload 6, 116, 0, 0, 0, (0 : Int), []),
  (.if_icmp .ne 14, 118, 73, 0, 0, (0 : Int), []),
  (.iload 12, 121, 0, 0, 0, (0 : Int), []),
  (.iload 7, 123, 0, 0, 0, (0 : Int), []),
  (.if_icmp .ge 7, 125, 73, 0, 0, (0 : Int), []),
  (.iconst 1, 128, 0, 0, 0, (0 : Int), []),
  (.goto 4, 129, 74, 0, 0, (0 : Int), []),
  (.iconst 0, 132, 0, 0, 0, (0 : Int), []),
  (.istore 13, 133, 0, 0, 0, (0 : Int), []),
  (.iload 13, 135, 0, 0, 0, (0 : Int), []),
  (.ifCond .eq 8, 137, 79, 0, 0, (0 : Int), []),
  (.iload 8, 140, 0, 0, 0, (0 : Int), []),
  (.goto 5, 142, 80, 0, 0, (0 : Int), []),
  (.iload 5, 145, 0, 0, 0, (0 : Int), []),
  (.istore 5, 147, 0, 0, 0, (0 : Int), []),
  (.iload 13, 149, 0, 0, 0, (0 : Int), []),
  (.ifCond .eq 8, 151, 85, 0, 0, (0 : Int), []),
  (.iload 11, 154, 0, 0, 0, (0 : Int), []),
  (.goto 5, 156, 86, 0, 0, (0 : Int), []),
  (.iload 6, 159, 0, 0, 0, (0 : Int), []),
  (.istore 6, 161, 0, 0, 0, (0 : Int), []),
  (.iload 13, 163, 0, 0, 0, (0 : Int), []),
  (.ifCond .eq 8, 165, 91, 0, 0, (0 : Int), []),
  (.iload 12, 168, 0, 0, 0, (0 : Int), []),
  (.goto 5, 170, 92, 0, 0, (0 : Int), []),
  (.iload 7, 173, 0, 0, 0, (0 : Int), []),
  (.istore 7, 175, 0, 0, 0, (0 : Int), []),
  (.iinc 8 1, 177, 0, 0, 0, (0 : Int), []),
  (.goto (-159), 180, 13, 0, 0, (0 : Int), []),
  (.iload 5, 183, 0, 0, 0, (0 : Int), []),
  (.ireturn, 185, 0, 0, 0, (0 : Int), [])]
/-- 109: BranchedSumsModel.branch([IIII)I, 5 arguments, 5 locals -/
def zX6_branch : List zE := [(.iload 4, 0, 0, 0, 0, (0 : Int), []),
  (.ifCond .ne 13, 2, 8, 0, 0, (0 : Int), []),
  (.aload_n 0, 5, 0, 0, 0, (0 : Int), []),
  (.aload_n 1, 6, 0, 0, 0, (0 : Int), []),
  (.iload_n 2, 7, 0, 0, 0, (0 : Int), []),
  (.iload_n 3, 8, 0, 0, 0, (0 : Int), []),
  (.invokevirtual 80, 9, 105, 4, 6, (0 : Int), [805]),
  (.goto 29, 12, 23, 0, 0, (0 : Int), []),
  (.iload 4, 15, 0, 0, 0, (0 : Int), []),
  (.iconst 1, 17, 0, 0, 0, (0 : Int), []),
  (.if_icmp .ne 16, 18, 18, 0, 0, (0 : Int), []),
  (.aload_n 1, 21, 0, 0, 0, (0 : Int), []),
  (.aload_n 1, 22, 0, 0, 0, (0 : Int), []),
  (.iload_n 2, 23, 0, 0, 0, (0 : Int), []),
  (.iload_n 3, 24, 0, 0, 0, (0 : Int), []),
  (.invokestatic 58, 25, 100, 3, 0, (0 : Int), [779]),
  (.invokestatic 83, 28, 106, 2, 0, (0 : Int), [817]),
  (.goto 10, 31, 23, 0, 0, (0 : Int), []),
  (.aload_n 0, 34, 0, 0, 0, (0 : Int), []),
  (.aload_n 1, 35, 0, 0, 0, (0 : Int), []),
  (.iload_n 2, 36, 0, 0, 0, (0 : Int), []),
  (.iload_n 3, 37, 0, 0, 0, (0 : Int), []),
  (.invokevirtual 86, 38, 108, 4, 6, (0 : Int), [820]),
  (.ireturn, 41, 0, 0, 0, (0 : Int), [])]
/-- 110: BranchedSumsModel.of([III)I, 3 arguments, 3 locals -/
def zX6_of : List zE := [(.aload_n 0, 0, 0, 0, 0, (0 : Int), []),
  (.bipush 45, 1, 0, 0, 0, (0 : Int), []),
  (.bipush 7, 3, 0, 0, 0, (0 : Int), []),
  (.iload_n 1, 5, 0, 0, 0, (0 : Int), []),
  (.imul, 6, 0, 0, 0, (0 : Int), []),
  (.iadd, 7, 0, 0, 0, (0 : Int), []),
  (.iload_n 2, 8, 0, 0, 0, (0 : Int), []),
  (.iadd, 9, 0, 0, 0, (0 : Int), []),
  (.iaload, 10, 0, 0, 0, (0 : Int), []),
  (.ireturn, 11, 0, 0, 0, (0 : Int), [])]
/-- 111: BranchedSumsModel.many([II)I, 2 arguments, 4 locals -/
def zX6_many : List zE := [(.iconst 0, 0, 0, 0, 0, (0 : Int), []),
  (.istore_n 2, 1, 0, 0, 0, (0 : Int), []),
  (.iconst 0, 2, 0, 0, 0, (0 : Int), []),
  (.istore_n 3, 3, 0, 0, 0, (0 : Int), []),
  (.iload_n 3, 4, 0, 0, 0, (0 : Int), []),
  (.aload_n 0, 5, 0, 0, 0, (0 : Int), []),
  (.iconst 5, 6, 0, 0, 0, (0 : Int), []),
  (.iaload, 7, 0, 0, 0, (0 : Int), []),
  (.if_icmp .ge 27, 8, 23, 0, 0, (0 : Int), []),
  (.iload_n 2, 11, 0, 0, 0, (0 : Int), []),
  (.aload_n 0, 12, 0, 0, 0, (0 : Int), []),
  (.iload_n 3, 13, 0, 0, 0, (0 : Int), []),
  (.iconst 4, 14, 0, 0, 0, (0 : Int), []),
  (.invokestatic 89, 15, 110, 3, 0, (0 : Int), [688]),
  (.iload_n 1, 18, 0, 0, 0, (0 : Int), []),
  (.if_icmp .ne 7, 19, 18, 0, 0, (0 : Int), []),
  (.iconst 1, 22, 0, 0, 0, (0 : Int), []),
  (.goto 4, 23, 19, 0, 0, (0 : Int), []),
  (.iconst 0, 26, 0, 0, 0, (0 : Int), []),
  (.iadd, 27, 0, 0, 0, (0 : Int), []),
  (.istore_n 2, 28, 0, 0, 0, (0 : Int), []),
  (.iinc 3 1, 29, 0, 0, 0, (0 : Int), []),
  (.goto (-28), 32, 4, 0, 0, (0 : Int), []),
  (.iload_n 2, 35, 0, 0, 0, (0 : Int), []),
  (.ireturn, 36, 0, 0, 0, (0 : Int), [])]
/-- 112: BranchedSumsModel.makes([IIIZ)V, 5 arguments, 8 locals -/
def zX6_makes : List zE := [(.bipush 45, 0, 0, 0, 0, (0 : Int), []),
  (.bipush 7, 2, 0, 0, 0, (0 : Int), []),
  (.aload_n 1, 4, 0, 0, 0, (0 : Int), []),
  (.iconst 5, 5, 0, 0, 0, (0 : Int), []),
  (.iaload, 6, 0, 0, 0, (0 : Int), []),
  (.imul, 7, 0, 0, 0, (0 : Int), []),
  (.iadd, 8, 0, 0, 0, (0 : Int), []),
  (.istore 5, 9, 0, 0, 0, (0 : Int), []),
  (.iload_n 2, 11, 0, 0, 0, (0 : Int), []),
  (.bipush (-5), 12, 0, 0, 0, (0 : Int), []),
  (.if_icmp .ne 7, 14, 13, 0, 0, (0 : Int), []),
  (.iconst 0, 17, 0, 0, 0, (0 : Int), []),
  (.goto 22, 18, 25, 0, 0, (0 : Int), []),
  (.aload_n 1, 21, 0, 0, 0, (0 : Int), []),
  (.iload_n 2, 22, 0, 0, 0, (0 : Int), []),
  (.iconst 5, 23, 0, 0, 0, (0 : Int), []),
  (.invokestatic 89, 24, 110, 3, 0, (0 : Int), [688]),
  (.iload 4, 27, 0, 0, 0, (0 : Int), []),
  (.ifCond .eq 9, 29, 23, 0, 0, (0 : Int), []),
  (.iconst 1, 32, 0, 0, 0, (0 : Int), []),
  (.iload_n 3, 33, 0, 0, 0, (0 : Int), []),
  (.ishl, 34, 0, 0, 0, (0 : Int), []),
  (.goto 4, 35, 24, 0, 0, (0 : Int), []),
  (.iconst 0, 38, 0, 0, 0, (0 : Int), []),
  (.ior, 39, 0, 0, 0, (0 : Int), []),
  (.istore 6, 40, 0, 0, 0, (0 : Int), []),
  (.iload_n 2, 42, 0, 0, 0, (0 : Int), []),
  (.bipush (-5), 43, 0, 0, 0, (0 : Int), []),
  (.if_icmp .ne 7, 45, 31, 0, 0, (0 : Int), []),
  (.iconst 0, 48, 0, 0, 0, (0 : Int), []),
  (.goto 23, 49, 43, 0, 0, (0 : Int), []),
  (.aload_n 1, 52, 0, 0, 0, (0 : Int), []),
  (.iload_n 2, 53, 0, 0, 0, (0 : Int), []),
  (.bipush 6, 54, 0, 0, 0, (0 : Int), []),
  (.invokestatic 89, 56, 110, 3, 0, (0 : Int), [688]),
  (.iload 4, 59, 0, 0, 0, (0 : Int), []),
  (.ifCond .eq 7, 61, 39, 0, 0, (0 : Int), []),
  (.iconst 0, 64, 0, 0, 0, (0 : Int), []),
  (.goto 6, 65, 42, 0, 0, (0 : Int), []),
  (.iconst 1, 68, 0, 0, 0, (0 : Int), []),
  (.iload_n 3, 69, 0, 0, 0, (0 : Int), []),
  (.ishl, 70, 0, 0, 0, (0 : Int), []),
  (.ior, 71, 0, 0, 0, (0 : Int), []),
  (.istore 7, 72, 0, 0, 0, (0 : Int), []),
  (.aload_n 1, 74, 0, 0, 0, (0 : Int), []),
  (.iload 5, 75, 0, 0, 0, (0 : Int), []),
  (.iload_n 2, 77, 0, 0, 0, (0 : Int), []),
  (.iastore, 78, 0, 0, 0, (0 : Int), []),
  (.aload_n 1, 79, 0, 0, 0, (0 : Int), []),
  (.iload 5, 80, 0, 0, 0, (0 : Int), []),
  (.iconst 1, 82, 0, 0, 0, (0 : Int), []),
  (.iadd, 83, 0, 0, 0, (0 : Int), []),
  (.iload_n 3, 84, 0, 0, 0, (0 : Int), []),
  (.iastore, 85, 0, 0, 0, (0 : Int), []),
  (.aload_n 1, 86, 0, 0, 0, (0 : Int), []),
  (.iload 5, 87, 0, 0, 0, (0 : Int), []),
  (.iconst 2, 89, 0, 0, 0, (0 : Int), []),
  (.iadd, 90, 0, 0, 0, (0 : Int), []),
  (.iload 4, 91, 0, 0, 0, (0 : Int), []),
  (.ifCond .eq 7, 93, 62, 0, 0, (0 : Int), []),
  (.iconst 1, 96, 0, 0, 0, (0 : Int), []),
  (.goto 4, 97, 63, 0, 0, (0 : Int), []),
  (.iconst 0, 100, 0, 0, 0, (0 : Int), []),
  (.iastore, 101, 0, 0, 0, (0 : Int), []),
  (.aload_n 1, 102, 0, 0, 0, (0 : Int), []),
  (.iload 5, 103, 0, 0, 0, (0 : Int), []),
  (.iconst 5, 105, 0, 0, 0, (0 : Int), []),
  (.iadd, 106, 0, 0, 0, (0 : Int), []),
  (.iload 6, 107, 0, 0, 0, (0 : Int), []),
  (.iastore, 109, 0, 0, 0, (0 : Int), []),
  (.aload_n 1, 110, 0, 0, 0, (0 : Int), []),
  (.iload 5, 111, 0, 0, 0, (0 : Int), []),
  (.bipush 6, 113, 0, 0, 0, (0 : Int), []),
  (.iadd, 115, 0, 0, 0, (0 : Int), []),
  (.iload 7, 116, 0, 0, 0, (0 : Int), []),
  (.iastore, 118, 0, 0, 0, (0 : Int), []),
  (.aload_n 1, 119, 0, 0, 0, (0 : Int), []),
  (.iload 5, 120, 0, 0, 0, (0 : Int), []),
  (.iconst 3, 122, 0, 0, 0, (0 : Int), []),
  (.iadd, 123, 0, 0, 0, (0 : Int), []),
  (.aload_n 0, 124, 0, 0, 0, (0 : Int), []),
  (.aload_n 1, 125, 0, 0, 0, (0 : Int), []),
  (.iload 6, 126, 0, 0, 0, (0 : Int), []),
  (.iload 7, 128, 0, 0, 0, (0 : Int), []),
  (.invokevirtual 77, 130, 107, 4, 6, (0 : Int), [765]),
  (.iastore, 133, 0, 0, 0, (0 : Int), []),
  (.aload_n 1, 134, 0, 0, 0, (0 : Int), []),
  (.iload 5, 135, 0, 0, 0, (0 : Int), []),
  (.iconst 4, 137, 0, 0, 0, (0 : Int), []),
  (.iadd, 138, 0, 0, 0, (0 : Int), []),
  (.iload_n 2, 139, 0, 0, 0, (0 : Int), []),
  (.bipush (-5), 140, 0, 0, 0, (0 : Int), []),
  (.if_icmp .eq 29, 142, 108, 0, 0, (0 : Int), []),
  (.aload_n 1, 145, 0, 0, 0, (0 : Int), []),
  (.iload 6, 146, 0, 0, 0, (0 : Int), []),
  (.invokestatic 70, 148, 99, 2, 0, (0 : Int), [769]),
  (.ifCond .eq 16, 151, 106, 0, 0, (0 : Int), []),
  (.aload_n 1, 154, 0, 0, 0, (0 : Int), []),
  (.iload 5, 155, 0, 0, 0, (0 : Int), []),
  (.iconst 3, 157, 0, 0, 0, (0 : Int), []),
  (.iadd, 158, 0, 0, 0, (0 : Int), []),
  (.iaload, 159, 0, 0, 0, (0 : Int), []),
  (.aload_n 1, 160, 0, 0, 0, (0 : Int), []),
  (.bipush 7, 161, 0, 0, 0, (0 : Int), []),
  (.iaload, 163, 0, 0, 0, (0 : Int), []),
  (.if_icmp .gt 7, 164, 108, 0, 0, (0 : Int), []),
  (.iconst 3, 167, 0, 0, 0, (0 : Int), []),
  (.goto 4, 168, 109, 0, 0, (0 : Int), []),
  (.iconst 0, 171, 0, 0, 0, (0 : Int), []),
  (.iastore, 172, 0, 0, 0, (0 : Int), []),
  (.aload_n 1, 173, 0, 0, 0, (0 : Int), []),
  (.iconst 5, 174, 0, 0, 0, (0 : Int), []),
  (.dup2, 175, 0, 0, 0, (0 : Int), []),
  (.iaload, 176, 0, 0, 0, (0 : Int), []),
  (.iconst 1, 177, 0, 0, 0, (0 : Int), []),
  (.iadd, 178, 0, 0, 0, (0 : Int), []),
  (.iastore, 179, 0, 0, 0, (0 : Int), []),
  (.return_, 180, 0, 0, 0, (0 : Int), [])]
/-- 113: BranchedSumsModel.taken([II)I, 2 arguments, 5 locals -/
def zX6_taken : List zE := [(.bipush (-5), 0, 0, 0, 0, (0 : Int), []),
  (.istore_n 2, 2, 0, 0, 0, (0 : Int), []),
  (.iconst 0, 3, 0, 0, 0, (0 : Int), []),
  (.istore_n 3, 4, 0, 0, 0, (0 : Int), []),
  (.iload_n 3, 5, 0, 0, 0, (0 : Int), []),
  (.aload_n 0, 6, 0, 0, 0, (0 : Int), []),
  (.iconst 5, 7, 0, 0, 0, (0 : Int), []),
  (.iaload, 8, 0, 0, 0, (0 : Int), []),
  (.if_icmp .ge 66, 9, 43, 0, 0, (0 : Int), []),
  (.aload_n 0, 12, 0, 0, 0, (0 : Int), []),
  (.iload_n 3, 13, 0, 0, 0, (0 : Int), []),
  (.iconst 4, 14, 0, 0, 0, (0 : Int), []),
  (.invokestatic 89, 15, 110, 3, 0, (0 : Int), [688]),
  (.ifCond .ne 51, 18, 41, 0, 0, (0 : Int), []),
  (.iload_n 2, 21, 0, 0, 0, (0 : Int), []),
  (.bipush (-5), 22, 0, 0, 0, (0 : Int), []),
  (.if_icmp .eq 27, 24, 31, 0, 0, (0 : Int), []),
  (.iload_n 1, 27, 0, 0, 0, (0 : Int), []),
  (.ifCond .eq 23, 28, 31, 0, 0, (0 : Int), []),
  (.iload_n 1, 31, 0, 0, 0, (0 : Int), []),
  (.iconst 1, 32, 0, 0, 0, (0 : Int), []),
  (.if_icmp .ne 22, 33, 33, 0, 0, (0 : Int), []),
  (.aload_n 0, 36, 0, 0, 0, (0 : Int), []),
  (.iload_n 3, 37, 0, 0, 0, (0 : Int), []),
  (.iconst 3, 38, 0, 0, 0, (0 : Int), []),
  (.invokestatic 89, 39, 110, 3, 0, (0 : Int), [688]),
  (.aload_n 0, 42, 0, 0, 0, (0 : Int), []),
  (.iload_n 2, 43, 0, 0, 0, (0 : Int), []),
  (.iconst 3, 44, 0, 0, 0, (0 : Int), []),
  (.invokestatic 89, 45, 110, 3, 0, (0 : Int), [688]),
  (.if_icmp .le 7, 48, 33, 0, 0, (0 : Int), []),
  (.iconst 1, 51, 0, 0, 0, (0 : Int), []),
  (.goto 4, 52, 34, 0, 0, (0 : Int), []),
  (.iconst 0, 55, 0, 0, 0, (0 : Int), []),
  (.istore 4, 56, 0, 0, 0, (0 : Int), []),
  (.iload 4, 58, 0, 0, 0, (0 : Int), []),
  (.ifCond .eq 7, 60, 39, 0, 0, (0 : Int), []),
  (.iload_n 3, 63, 0, 0, 0, (0 : Int), []),
  (.goto 4, 64, 40, 0, 0, (0 : Int), []),
  (.iload_n 2, 67, 0, 0, 0, (0 : Int), []),
  (.istore_n 2, 68, 0, 0, 0, (0 : Int), []),
  (.iinc 3 1, 69, 0, 0, 0, (0 : Int), []),
  (.goto (-67), 72, 4, 0, 0, (0 : Int), []),
  (.iload_n 2, 75, 0, 0, 0, (0 : Int), []),
  (.ireturn, 76, 0, 0, 0, (0 : Int), [])]
/-- 114: BranchedSumsModel.takes([II)I, 3 arguments, 7 locals -/
def zX6_takes : List zE := [(.bipush 45, 0, 0, 0, 0, (0 : Int), []),
  (.bipush 7, 2, 0, 0, 0, (0 : Int), []),
  (.iload_n 2, 4, 0, 0, 0, (0 : Int), []),
  (.imul, 5, 0, 0, 0, (0 : Int), []),
  (.iadd, 6, 0, 0, 0, (0 : Int), []),
  (.istore_n 3, 7, 0, 0, 0, (0 : Int), []),
  (.aload_n 1, 8, 0, 0, 0, (0 : Int), []),
  (.bipush 6, 9, 0, 0, 0, (0 : Int), []),
  (.dup2, 11, 0, 0, 0, (0 : Int), []),
  (.iaload, 12, 0, 0, 0, (0 : Int), []),
  (.iconst 1, 13, 0, 0, 0, (0 : Int), []),
  (.iadd, 14, 0, 0, 0, (0 : Int), []),
  (.iastore, 15, 0, 0, 0, (0 : Int), []),
  (.aload_n 1, 16, 0, 0, 0, (0 : Int), []),
  (.iload_n 3, 17, 0, 0, 0, (0 : Int), []),
  (.iconst 3, 18, 0, 0, 0, (0 : Int), []),
  (.iadd, 19, 0, 0, 0, (0 : Int), []),
  (.iaload, 20, 0, 0, 0, (0 : Int), []),
  (.aload_n 1, 21, 0, 0, 0, (0 : Int), []),
  (.bipush 7, 22, 0, 0, 0, (0 : Int), []),
  (.iaload, 24, 0, 0, 0, (0 : Int), []),
  (.if_icmp .gt 11, 25, 30, 0, 0, (0 : Int), []),
  (.aload_n 1, 28, 0, 0, 0, (0 : Int), []),
  (.iload_n 3, 29, 0, 0, 0, (0 : Int), []),
  (.iconst 4, 30, 0, 0, 0, (0 : Int), []),
  (.iadd, 31, 0, 0, 0, (0 : Int), []),
  (.iconst 1, 32, 0, 0, 0, (0 : Int), []),
  (.iastore, 33, 0, 0, 0, (0 : Int), []),
  (.iconst 1, 34, 0, 0, 0, (0 : Int), []),
  (.ireturn, 35, 0, 0, 0, (0 : Int), []),
  (.aload_n 0, 36, 0, 0, 0, (0 : Int), []),
  (.aload_n 1, 37, 0, 0, 0, (0 : Int), []),
  (.aload_n 1, 38, 0, 0, 0, (0 : Int), []),
  (.iload_n 3, 39, 0, 0, 0, (0 : Int), []),
  (.iconst 5, 40, 0, 0, 0, (0 : Int), []),
  (.iadd, 41, 0, 0, 0, (0 : Int), []),
  (.iaload, 42, 0, 0, 0, (0 : Int), []),
  (.aload_n 1, 43, 0, 0, 0, (0 : Int), []),
  (.iload_n 3, 44, 0, 0, 0, (0 : Int), []),
  (.bipush 6, 45, 0, 0, 0, (0 : Int), []),
  (.iadd, 47, 0, 0, 0, (0 : Int), []),
  (.iaload, 48, 0, 0, 0, (0 : Int), []),
  (.invokevirtual 64, 49, 103, 4, 6, (0 : Int), [797]),
  (.istore 4, 52, 0, 0, 0, (0 : Int), []),
  (.aload_n 1, 54, 0, 0, 0, (0 : Int), []),
  (.bipush 9, 55, 0, 0, 0, (0 : Int), []),
  (.iload 4, 57, 0, 0, 0, (0 : Int), []),
  (.invokestatic 54, 59, 98, 3, 0, (0 : Int), [772]),
  (.istore 5, 62, 0, 0, 0, (0 : Int), []),
  (.iload 5, 64, 0, 0, 0, (0 : Int), []),
  (.aload_n 1, 66, 0, 0, 0, (0 : Int), []),
  (.bipush 7, 67, 0, 0, 0, (0 : Int), []),
  (.iaload, 69, 0, 0, 0, (0 : Int), []),
  (.if_icmp .le 15, 70, 62, 0, 0, (0 : Int), []),
  (.aload_n 1, 73, 0, 0, 0, (0 : Int), []),
  (.bipush 7, 74, 0, 0, 0, (0 : Int), []),
  (.iload 5, 76, 0, 0, 0, (0 : Int), []),
  (.iastore, 78, 0, 0, 0, (0 : Int), []),
  (.aload_n 1, 79, 0, 0, 0, (0 : Int), []),
  (.bipush 8, 80, 0, 0, 0, (0 : Int), []),
  (.iload 4, 82, 0, 0, 0, (0 : Int), []),
  (.iastore, 84, 0, 0, 0, (0 : Int), []),
  (.aload_n 1, 85, 0, 0, 0, (0 : Int), []),
  (.iload_n 3, 86, 0, 0, 0, (0 : Int), []),
  (.iconst 3, 87, 0, 0, 0, (0 : Int), []),
  (.iadd, 88, 0, 0, 0, (0 : Int), []),
  (.iaload, 89, 0, 0, 0, (0 : Int), []),
  (.iload 5, 90, 0, 0, 0, (0 : Int), []),
  (.if_icmp .gt 11, 92, 77, 0, 0, (0 : Int), []),
  (.aload_n 1, 95, 0, 0, 0, (0 : Int), []),
  (.iload_n 3, 96, 0, 0, 0, (0 : Int), []),
  (.iconst 4, 97, 0, 0, 0, (0 : Int), []),
  (.iadd, 98, 0, 0, 0, (0 : Int), []),
  (.iconst 2, 99, 0, 0, 0, (0 : Int), []),
  (.iastore, 100, 0, 0, 0, (0 : Int), []),
  (.iconst 2, 101, 0, 0, 0, (0 : Int), []),
  (.ireturn, 102, 0, 0, 0, (0 : Int), []),
  (.aload_n 1, 103, 0, 0, 0, (0 : Int), []),
  (.iconst 5, 104, 0, 0, 0, (0 : Int), []),
  (.iaload, 105, 0, 0, 0, (0 : Int), []),
  (.iconst 2, 106, 0, 0, 0, (0 : Int), []),
  (.iadd, 107, 0, 0, 0, (0 : Int), []),
  (.sipush 400, 108, 0, 0, 0, (0 : Int), []),
  (.if_icmp .le 6, 111, 86, 0, 0, (0 : Int), []),
  (.bipush (-3), 114, 0, 0, 0, (0 : Int), []),
  (.ireturn, 116, 0, 0, 0, (0 : Int), []),
  (.aload_n 0, 117, 0, 0, 0, (0 : Int), []),
  (.aload_n 1, 118, 0, 0, 0, (0 : Int), []),
  (.aload_n 1, 119, 0, 0, 0, (0 : Int), []),
  (.iload_n 3, 120, 0, 0, 0, (0 : Int), []),
  (.iconst 5, 121, 0, 0, 0, (0 : Int), []),
  (.iadd, 122, 0, 0, 0, (0 : Int), []),
  (.iaload, 123, 0, 0, 0, (0 : Int), []),
  (.aload_n 1, 124, 0, 0, 0, (0 : Int), []),
  (.iload_n 3, 125, 0, 0, 0, (0 : Int), []),
  (.bipush 6, 126, 0, 0, 0, (0 : Int), []),
  (.iadd, 128, 0, 0, 0, (0 : Int), []),
  (.iaload, 129, 0, 0, 0, (0 : Int), []),
  (.aload_n 1, 130, 0, 0, 0, (0 : Int), []),
  (.iconst 3, 131, 0, 0, 0, (0 : Int), []),
  (.iaload, 132, 0, 0, 0, (0 : Int), []),
  (.invokevirtual 92, 133, 109, 5, 6, (0 : Int), [801]),
  (.istore 6, 136, 0, 0, 0, (0 : Int), []),
  (.aload_n 1, 138, 0, 0, 0, (0 : Int), []),
  (.iload_n 3, 139, 0, 0, 0, (0 : Int), []),
  (.iconst 4, 140, 0, 0, 0, (0 : Int), []),
  (.iadd, 141, 0, 0, 0, (0 : Int), []),
  (.iconst 4, 142, 0, 0, 0, (0 : Int), []),
  (.iastore, 143, 0, 0, 0, (0 : Int), []),
  (.aload_n 0, 144, 0, 0, 0, (0 : Int), []),
  (.aload_n 1, 145, 0, 0, 0, (0 : Int), []),
  (.iload_n 2, 146, 0, 0, 0, (0 : Int), []),
  (.iload 6, 147, 0, 0, 0, (0 : Int), []),
  (.iconst 0, 149, 0, 0, 0, (0 : Int), []),
  (.invokevirtual 96, 150, 112, 5, 6, (0 : Int), [761]),
  (.aload_n 0, 153, 0, 0, 0, (0 : Int), []),
  (.aload_n 1, 154, 0, 0, 0, (0 : Int), []),
  (.iload_n 2, 155, 0, 0, 0, (0 : Int), []),
  (.iload 6, 156, 0, 0, 0, (0 : Int), []),
  (.iconst 1, 158, 0, 0, 0, (0 : Int), []),
  (.invokevirtual 96, 159, 112, 5, 6, (0 : Int), [761]),
  (.iconst 4, 162, 0, 0, 0, (0 : Int), []),
  (.ireturn, 163, 0, 0, 0, (0 : Int), [])]
/-- 115: BranchedSumsModel.goesOn()Z, 1 arguments, 1 locals -/
def zX6_goesOn : List zE := [(.aload_n 0, 0, 0, 0, 0, (0 : Int), []),
  (.getfield 7, 1, 6, 0, 65, (0 : Int), [615, 1]),
  (.iconst 0, 4, 0, 0, 0, (0 : Int), []),
  (.invokestatic 100, 5, 111, 2, 0, (0 : Int), [685]),
  (.ifCond .le 7, 8, 7, 0, 0, (0 : Int), []),
  (.iconst 1, 11, 0, 0, 0, (0 : Int), []),
  (.goto 4, 12, 8, 0, 0, (0 : Int), []),
  (.iconst 0, 15, 0, 0, 0, (0 : Int), []),
  (.ireturn, 16, 1, 0, 0, (0 : Int), [])]
/-- 116: BranchedSumsModel.forgets()V, 1 arguments, 1 locals -/
def zX6_forgets : List zE := [(.aload_n 0, 0, 0, 0, 0, (0 : Int), []),
  (.getfield 7, 1, 6, 0, 65, (0 : Int), [615, 1]),
  (.iconst 4, 4, 0, 0, 0, (0 : Int), []),
  (.iconst 0, 5, 0, 0, 0, (0 : Int), []),
  (.iastore, 6, 0, 0, 0, (0 : Int), []),
  (.aload_n 0, 7, 0, 0, 0, (0 : Int), []),
  (.getfield 7, 8, 6, 0, 65, (0 : Int), [615, 1]),
  (.iconst 5, 11, 0, 0, 0, (0 : Int), []),
  (.iconst 0, 12, 0, 0, 0, (0 : Int), []),
  (.iastore, 13, 0, 0, 0, (0 : Int), []),
  (.aload_n 0, 14, 0, 0, 0, (0 : Int), []),
  (.getfield 7, 15, 6, 0, 65, (0 : Int), [615, 1]),
  (.bipush 6, 18, 0, 0, 0, (0 : Int), []),
  (.iconst 0, 20, 0, 0, 0, (0 : Int), []),
  (.iastore, 21, 0, 0, 0, (0 : Int), []),
  (.aload_n 0, 22, 0, 0, 0, (0 : Int), []),
  (.getfield 7, 23, 6, 0, 65, (0 : Int), [615, 1]),
  (.bipush 7, 26, 0, 0, 0, (0 : Int), []),
  (.iconst 0, 28, 0, 0, 0, (0 : Int), []),
  (.iastore, 29, 0, 0, 0, (0 : Int), []),
  (.aload_n 0, 30, 0, 0, 0, (0 : Int), []),
  (.getfield 7, 31, 6, 0, 65, (0 : Int), [615, 1]),
  (.bipush 8, 34, 0, 0, 0, (0 : Int), []),
  (.iconst 0, 36, 0, 0, 0, (0 : Int), []),
  (.iastore, 37, 0, 0, 0, (0 : Int), []),
  (.return_, 38, 0, 0, 0, (0 : Int), [])]
/-- 117: BranchedSumsModel.adds(II)I, 3 arguments, 4 locals -/
def zX6_adds : List zE := [(.aload_n 0, 0, 0, 0, 0, (0 : Int), []),
  (.getfield 7, 1, 6, 0, 65, (0 : Int), [615, 1]),
  (.iconst 0, 4, 0, 0, 0, (0 : Int), []),
  (.iaload, 5, 0, 0, 0, (0 : Int), []),
  (.istore_n 3, 6, 0, 0, 0, (0 : Int), []),
  (.aload_n 0, 7, 0, 0, 0, (0 : Int), []),
  (.getfield 7, 8, 6, 0, 65, (0 : Int), [615, 1]),
  (.bipush 9, 11, 0, 0, 0, (0 : Int), []),
  (.iload_n 3, 13, 0, 0, 0, (0 : Int), []),
  (.iadd, 14, 0, 0, 0, (0 : Int), []),
  (.iload_n 1, 15, 0, 0, 0, (0 : Int), []),
  (.iastore, 16, 0, 0, 0, (0 : Int), []),
  (.aload_n 0, 17, 0, 0, 0, (0 : Int), []),
  (.getfield 7, 18, 6, 0, 65, (0 : Int), [615, 1]),
  (.bipush 21, 21, 0, 0, 0, (0 : Int), []),
  (.iload_n 3, 23, 0, 0, 0, (0 : Int), []),
  (.iadd, 24, 0, 0, 0, (0 : Int), []),
  (.iload_n 2, 25, 0, 0, 0, (0 : Int), []),
  (.iastore, 26, 0, 0, 0, (0 : Int), []),
  (.aload_n 0, 27, 0, 0, 0, (0 : Int), []),
  (.getfield 7, 28, 6, 0, 65, (0 : Int), [615, 1]),
  (.bipush 33, 31, 0, 0, 0, (0 : Int), []),
  (.iload_n 3, 33, 0, 0, 0, (0 : Int), []),
  (.iadd, 34, 0, 0, 0, (0 : Int), []),
  (.iconst 0, 35, 0, 0, 0, (0 : Int), []),
  (.iastore, 36, 0, 0, 0, (0 : Int), []),
  (.aload_n 0, 37, 0, 0, 0, (0 : Int), []),
  (.getfield 7, 38, 6, 0, 65, (0 : Int), [615, 1]),
  (.iconst 0, 41, 0, 0, 0, (0 : Int), []),
  (.dup2, 42, 0, 0, 0, (0 : Int), []),
  (.iaload, 43, 0, 0, 0, (0 : Int), []),
  (.iconst 1, 44, 0, 0, 0, (0 : Int), []),
  (.iadd, 45, 0, 0, 0, (0 : Int), []),
  (.iastore, 46, 0, 0, 0, (0 : Int), []),
  (.iload_n 3, 47, 0, 0, 0, (0 : Int), []),
  (.ireturn, 48, 0, 0, 0, (0 : Int), [])]
/-- 118: BranchedSumsModel.add(II)I, 3 arguments, 3 locals -/
def zX6_add : List zE := [(.iload_n 1, 0, 0, 0, 0, (0 : Int), []),
  (.iconst 1, 1, 0, 0, 0, (0 : Int), []),
  (.bipush 99, 2, 0, 0, 0, (0 : Int), []),
  (.invokestatic 31, 4, 87, 3, 0, (0 : Int), [678]),
  (.ifCond .eq 13, 7, 10, 0, 0, (0 : Int), []),
  (.iload_n 2, 10, 0, 0, 0, (0 : Int), []),
  (.iconst 1, 11, 0, 0, 0, (0 : Int), []),
  (.bipush 50, 12, 0, 0, 0, (0 : Int), []),
  (.invokestatic 31, 14, 87, 3, 0, (0 : Int), [678]),
  (.ifCond .ne 6, 17, 12, 0, 0, (0 : Int), []),
  (.bipush (-2), 20, 0, 0, 0, (0 : Int), []),
  (.ireturn, 22, 0, 0, 0, (0 : Int), []),
  (.aload_n 0, 23, 0, 0, 0, (0 : Int), []),
  (.invokevirtual 103, 24, 115, 1, 6, (0 : Int), [681]),
  (.ifCond .eq 6, 27, 17, 0, 0, (0 : Int), []),
  (.bipush (-4), 30, 0, 0, 0, (0 : Int), []),
  (.ireturn, 32, 0, 0, 0, (0 : Int), []),
  (.aload_n 0, 33, 0, 0, 0, (0 : Int), []),
  (.getfield 7, 34, 6, 0, 65, (0 : Int), [615, 1]),
  (.iconst 0, 37, 0, 0, 0, (0 : Int), []),
  (.iaload, 38, 0, 0, 0, (0 : Int), []),
  (.bipush 12, 39, 0, 0, 0, (0 : Int), []),
  (.if_icmp .ne 6, 41, 25, 0, 0, (0 : Int), []),
  (.bipush (-3), 44, 0, 0, 0, (0 : Int), []),
  (.ireturn, 46, 0, 0, 0, (0 : Int), []),
  (.aload_n 0, 47, 0, 0, 0, (0 : Int), []),
  (.invokevirtual 47, 48, 92, 1, 6, (0 : Int), [670]),
  (.aload_n 0, 51, 0, 0, 0, (0 : Int), []),
  (.invokevirtual 107, 52, 116, 1, 6, (0 : Int), [691]),
  (.aload_n 0, 55, 0, 0, 0, (0 : Int), []),
  (.iload_n 1, 56, 0, 0, 0, (0 : Int), []),
  (.iload_n 2, 57, 0, 0, 0, (0 : Int), []),
  (.invokevirtual 110, 58, 117, 3, 6, (0 : Int), [695]),
  (.ireturn, 61, 0, 0, 0, (0 : Int), [])]
/-- 119: BranchedSumsModel.bars(IIZ)V, 4 arguments, 4 locals -/
def zX6_bars : List zE := [(.aload_n 0, 0, 0, 0, 0, (0 : Int), []),
  (.getfield 7, 1, 6, 0, 65, (0 : Int), [615, 1]),
  (.bipush 33, 4, 0, 0, 0, (0 : Int), []),
  (.iload_n 1, 6, 0, 0, 0, (0 : Int), []),
  (.iadd, 7, 0, 0, 0, (0 : Int), []),
  (.iload_n 3, 8, 0, 0, 0, (0 : Int), []),
  (.ifCond .eq 19, 9, 18, 0, 0, (0 : Int), []),
  (.aload_n 0, 12, 0, 0, 0, (0 : Int), []),
  (.getfield 7, 13, 6, 0, 65, (0 : Int), [615, 1]),
  (.bipush 33, 16, 0, 0, 0, (0 : Int), []),
  (.iload_n 1, 18, 0, 0, 0, (0 : Int), []),
  (.iadd, 19, 0, 0, 0, (0 : Int), []),
  (.iaload, 20, 0, 0, 0, (0 : Int), []),
  (.iconst 1, 21, 0, 0, 0, (0 : Int), []),
  (.iload_n 2, 22, 0, 0, 0, (0 : Int), []),
  (.ishl, 23, 0, 0, 0, (0 : Int), []),
  (.ior, 24, 0, 0, 0, (0 : Int), []),
  (.goto 18, 25, 30, 0, 0, (0 : Int), []),
  (.aload_n 0, 28, 0, 0, 0, (0 : Int), []),
  (.getfield 7, 29, 6, 0, 65, (0 : Int), [615, 1]),
  (.bipush 33, 32, 0, 0, 0, (0 : Int), []),
  (.iload_n 1, 34, 0, 0, 0, (0 : Int), []),
  (.iadd, 35, 0, 0, 0, (0 : Int), []),
  (.iaload, 36, 0, 0, 0, (0 : Int), []),
  (.iconst 1, 37, 0, 0, 0, (0 : Int), []),
  (.iload_n 2, 38, 0, 0, 0, (0 : Int), []),
  (.ishl, 39, 0, 0, 0, (0 : Int), []),
  (.iconst (-1), 40, 0, 0, 0, (0 : Int), []),
  (.ixor, 41, 0, 0, 0, (0 : Int), []),
  (.iand, 42, 0, 0, 0, (0 : Int), []),
  (.iastore, 43, 0, 0, 0, (0 : Int), []),
  (.aload_n 0, 44, 0, 0, 0, (0 : Int), []),
  (.getfield 7, 45, 6, 0, 65, (0 : Int), [615, 1]),
  (.bipush 33, 48, 0, 0, 0, (0 : Int), []),
  (.iload_n 2, 50, 0, 0, 0, (0 : Int), []),
  (.iadd, 51, 0, 0, 0, (0 : Int), []),
  (.iload_n 3, 52, 0, 0, 0, (0 : Int), []),
  (.ifCond .eq 19, 53, 49, 0, 0, (0 : Int), []),
  (.aload_n 0, 56, 0, 0, 0, (0 : Int), []),
  (.getfield 7, 57, 6, 0, 65, (0 : Int), [615, 1]),
  (.bipush 33, 60, 0, 0, 0, (0 : Int), []),
  (.iload_n 2, 62, 0, 0, 0, (0 : Int), []),
  (.iadd, 63, 0, 0, 0, (0 : Int), []),
  (.iaload, 64, 0, 0, 0, (0 : Int), []),
  (.iconst 1, 65, 0, 0, 0, (0 : Int), []),
  (.iload_n 1, 66, 0, 0, 0, (0 : Int), []),
  (.ishl, 67, 0, 0, 0, (0 : Int), []),
  (.ior, 68, 0, 0, 0, (0 : Int), []),
  (.goto 18, 69, 61, 0, 0, (0 : Int), []),
  (.aload_n 0, 72, 0, 0, 0, (0 : Int), []),
  (.getfield 7, 73, 6, 0, 65, (0 : Int), [615, 1]),
  (.bipush 33, 76, 0, 0, 0, (0 : Int), []),
  (.iload_n 2, 78, 0, 0, 0, (0 : Int), []),
  (.iadd, 79, 0, 0, 0, (0 : Int), []),
  (.iaload, 80, 0, 0, 0, (0 : Int), []),
  (.iconst 1, 81, 0, 0, 0, (0 : Int), []),
  (.iload_n 1, 82, 0, 0, 0, (0 : Int), []),
  (.ishl, 83, 0, 0, 0, (0 : Int), []),
  (.iconst (-1), 84, 0, 0, 0, (0 : Int), []),
  (.ixor, 85, 0, 0, 0, (0 : Int), []),
  (.iand, 86, 0, 0, 0, (0 : Int), []),
  (.iastore, 87, 0, 0, 0, (0 : Int), []),
  (.return_, 88, 0, 0, 0, (0 : Int), [])]
/-- 120: BranchedSumsModel.addAll()I, 1 arguments, 4 locals -/
def zX6_addAll : List zE := [(.aload_n 0, 0, 0, 0, 0, (0 : Int), []),
  (.invokevirtual 114, 1, 136, 1, 6, (0 : Int), [703]),
  (.ifCond .ne 11, 4, 8, 0, 0, (0 : Int), []),
  (.bipush (-100), 7, 0, 0, 0, (0 : Int), []),
  (.aload_n 0, 9, 0, 0, 0, (0 : Int), []),
  (.getfield 117, 10, 6, 8, 0, (0 : Int), [623]),
  (.isub, 13, 0, 0, 0, (0 : Int), []),
  (.ireturn, 14, 0, 0, 0, (0 : Int), []),
  (.aload_n 0, 15, 0, 0, 0, (0 : Int), []),
  (.invokevirtual 103, 16, 115, 1, 6, (0 : Int), [681]),
  (.ifCond .eq 6, 19, 13, 0, 0, (0 : Int), []),
  (.bipush (-4), 22, 0, 0, 0, (0 : Int), []),
  (.ireturn, 24, 0, 0, 0, (0 : Int), []),
  (.aload_n 0, 25, 0, 0, 0, (0 : Int), []),
  (.getfield 7, 26, 6, 0, 65, (0 : Int), [615, 1]),
  (.iconst 0, 29, 0, 0, 0, (0 : Int), []),
  (.iaload, 30, 0, 0, 0, (0 : Int), []),
  (.aload_n 0, 31, 0, 0, 0, (0 : Int), []),
  (.getfield 120, 32, 6, 11, 0, (0 : Int), [626]),
  (.iadd, 35, 0, 0, 0, (0 : Int), []),
  (.bipush 12, 36, 0, 0, 0, (0 : Int), []),
  (.if_icmp .le 6, 38, 24, 0, 0, (0 : Int), []),
  (.bipush (-3), 41, 0, 0, 0, (0 : Int), []),
  (.ireturn, 43, 0, 0, 0, (0 : Int), []),
  (.iconst 0, 44, 0, 0, 0, (0 : Int), []),
  (.istore_n 1, 45, 0, 0, 0, (0 : Int), []),
  (.iload_n 1, 46, 0, 0, 0, (0 : Int), []),
  (.aload_n 0, 47, 0, 0, 0, (0 : Int), []),
  (.getfield 120, 48, 6, 11, 0, (0 : Int), [626]),
  (.if_icmp .ge 33, 51, 50, 0, 0, (0 : Int), []),
  (.aload_n 0, 54, 0, 0, 0, (0 : Int), []),
  (.getfield 25, 55, 6, 10, 70, (0 : Int), [625, 1]),
  (.iconst 3, 58, 0, 0, 0, (0 : Int), []),
  (.iload_n 1, 59, 0, 0, 0, (0 : Int), []),
  (.imul, 60, 0, 0, 0, (0 : Int), []),
  (.iconst 2, 61, 0, 0, 0, (0 : Int), []),
  (.iadd, 62, 0, 0, 0, (0 : Int), []),
  (.iaload, 63, 0, 0, 0, (0 : Int), []),
  (.aload_n 0, 64, 0, 0, 0, (0 : Int), []),
  (.getfield 7, 65, 6, 0, 65, (0 : Int), [615, 1]),
  (.iconst 0, 68, 0, 0, 0, (0 : Int), []),
  (.iaload, 69, 0, 0, 0, (0 : Int), []),
  (.iload_n 1, 70, 0, 0, 0, (0 : Int), []),
  (.iadd, 71, 0, 0, 0, (0 : Int), []),
  (.ishr, 72, 0, 0, 0, (0 : Int), []),
  (.ifCond .eq 5, 73, 48, 0, 0, (0 : Int), []),
  (.iconst (-1), 76, 0, 0, 0, (0 : Int), []),
  (.ireturn, 77, 0, 0, 0, (0 : Int), []),
  (.iinc 1 1, 78, 0, 0, 0, (0 : Int), []),
  (.goto (-35), 81, 26, 0, 0, (0 : Int), []),
  (.aload_n 0, 84, 0, 0, 0, (0 : Int), []),
  (.invokevirtual 47, 85, 92, 1, 6, (0 : Int), [670]),
  (.aload_n 0, 88, 0, 0, 0, (0 : Int), []),
  (.invokevirtual 107, 89, 116, 1, 6, (0 : Int), [691]),
  (.iconst 0, 92, 0, 0, 0, (0 : Int), []),
  (.istore_n 1, 93, 0, 0, 0, (0 : Int), []),
  (.iload_n 1, 94, 0, 0, 0, (0 : Int), []),
  (.aload_n 0, 95, 0, 0, 0, (0 : Int), []),
  (.getfield 120, 96, 6, 11, 0, (0 : Int), [626]),
  (.if_icmp .ge 70, 99, 105, 0, 0, (0 : Int), []),
  (.aload_n 0, 102, 0, 0, 0, (0 : Int), []),
  (.aload_n 0, 103, 0, 0, 0, (0 : Int), []),
  (.getfield 25, 104, 6, 10, 70, (0 : Int), [625, 1]),
  (.iconst 3, 107, 0, 0, 0, (0 : Int), []),
  (.iload_n 1, 108, 0, 0, 0, (0 : Int), []),
  (.imul, 109, 0, 0, 0, (0 : Int), []),
  (.iaload, 110, 0, 0, 0, (0 : Int), []),
  (.aload_n 0, 111, 0, 0, 0, (0 : Int), []),
  (.getfield 25, 112, 6, 10, 70, (0 : Int), [625, 1]),
  (.iconst 3, 115, 0, 0, 0, (0 : Int), []),
  (.iload_n 1, 116, 0, 0, 0, (0 : Int), []),
  (.imul, 117, 0, 0, 0, (0 : Int), []),
  (.iconst 1, 118, 0, 0, 0, (0 : Int), []),
  (.iadd, 119, 0, 0, 0, (0 : Int), []),
  (.iaload, 120, 0, 0, 0, (0 : Int), []),
  (.invokevirtual 110, 121, 117, 3, 6, (0 : Int), [695]),
  (.istore_n 2, 124, 0, 0, 0, (0 : Int), []),
  (.iconst 0, 125, 0, 0, 0, (0 : Int), []),
  (.istore_n 3, 126, 0, 0, 0, (0 : Int), []),
  (.iload_n 3, 127, 0, 0, 0, (0 : Int), []),
  (.iload_n 2, 128, 0, 0, 0, (0 : Int), []),
  (.if_icmp .ge 34, 129, 103, 0, 0, (0 : Int), []),
  (.aload_n 0, 132, 0, 0, 0, (0 : Int), []),
  (.getfield 25, 133, 6, 10, 70, (0 : Int), [625, 1]),
  (.iconst 3, 136, 0, 0, 0, (0 : Int), []),
  (.iload_n 1, 137, 0, 0, 0, (0 : Int), []),
  (.imul, 138, 0, 0, 0, (0 : Int), []),
  (.iconst 2, 139, 0, 0, 0, (0 : Int), []),
  (.iadd, 140, 0, 0, 0, (0 : Int), []),
  (.iaload, 141, 0, 0, 0, (0 : Int), []),
  (.iload_n 3, 142, 0, 0, 0, (0 : Int), []),
  (.ishr, 143, 0, 0, 0, (0 : Int), []),
  (.iconst 1, 144, 0, 0, 0, (0 : Int), []),
  (.iand, 145, 0, 0, 0, (0 : Int), []),
  (.iconst 1, 146, 0, 0, 0, (0 : Int), []),
  (.if_icmp .ne 10, 147, 101, 0, 0, (0 : Int), []),
  (.aload_n 0, 150, 0, 0, 0, (0 : Int), []),
  (.iload_n 2, 151, 0, 0, 0, (0 : Int), []),
  (.iload_n 3, 152, 0, 0, 0, (0 : Int), []),
  (.iconst 1, 153, 0, 0, 0, (0 : Int), []),
  (.invokevirtual 123, 154, 119, 4, 6, (0 : Int), [719]),
  (.iinc 3 1, 157, 0, 0, 0, (0 : Int), []),
  (.goto (-33), 160, 79, 0, 0, (0 : Int), []),
  (.iinc 1 1, 163, 0, 0, 0, (0 : Int), []),
  (.goto (-72), 166, 56, 0, 0, (0 : Int), []),
  (.aload_n 0, 169, 0, 0, 0, (0 : Int), []),
  (.getfield 7, 170, 6, 0, 65, (0 : Int), [615, 1]),
  (.iconst 0, 173, 0, 0, 0, (0 : Int), []),
  (.iaload, 174, 0, 0, 0, (0 : Int), []),
  (.ireturn, 175, 0, 0, 0, (0 : Int), [])]
/-- 121: BranchedSumsModel.remove(I)I, 2 arguments, 4 locals -/
def zX6_remove : List zE := [(.aload_n 0, 0, 0, 0, 0, (0 : Int), []),
  (.iload_n 1, 1, 0, 0, 0, (0 : Int), []),
  (.invokevirtual 127, 2, 88, 2, 6, (0 : Int), [727]),
  (.ifCond .ne 5, 5, 6, 0, 0, (0 : Int), []),
  (.iconst (-1), 8, 0, 0, 0, (0 : Int), []),
  (.ireturn, 9, 0, 0, 0, (0 : Int), []),
  (.aload_n 0, 10, 0, 0, 0, (0 : Int), []),
  (.invokevirtual 103, 11, 115, 1, 6, (0 : Int), [681]),
  (.ifCond .eq 6, 14, 11, 0, 0, (0 : Int), []),
  (.bipush (-4), 17, 0, 0, 0, (0 : Int), []),
  (.ireturn, 19, 0, 0, 0, (0 : Int), []),
  (.aload_n 0, 20, 0, 0, 0, (0 : Int), []),
  (.invokevirtual 47, 21, 92, 1, 6, (0 : Int), [670]),
  (.aload_n 0, 24, 0, 0, 0, (0 : Int), []),
  (.invokevirtual 107, 25, 116, 1, 6, (0 : Int), [691]),
  (.aload_n 0, 28, 0, 0, 0, (0 : Int), []),
  (.getfield 7, 29, 6, 0, 65, (0 : Int), [615, 1]),
  (.iconst 0, 32, 0, 0, 0, (0 : Int), []),
  (.dup2, 33, 0, 0, 0, (0 : Int), []),
  (.iaload, 34, 0, 0, 0, (0 : Int), []),
  (.iconst 1, 35, 0, 0, 0, (0 : Int), []),
  (.isub, 36, 0, 0, 0, (0 : Int), []),
  (.iastore, 37, 0, 0, 0, (0 : Int), []),
  (.iload_n 1, 38, 0, 0, 0, (0 : Int), []),
  (.istore_n 2, 39, 0, 0, 0, (0 : Int), []),
  (.iload_n 2, 40, 0, 0, 0, (0 : Int), []),
  (.aload_n 0, 41, 0, 0, 0, (0 : Int), []),
  (.getfield 7, 42, 6, 0, 65, (0 : Int), [615, 1]),
  (.iconst 0, 45, 0, 0, 0, (0 : Int), []),
  (.iaload, 46, 0, 0, 0, (0 : Int), []),
  (.if_icmp .ge 69, 47, 75, 0, 0, (0 : Int), []),
  (.aload_n 0, 50, 0, 0, 0, (0 : Int), []),
  (.getfield 7, 51, 6, 0, 65, (0 : Int), [615, 1]),
  (.bipush 9, 54, 0, 0, 0, (0 : Int), []),
  (.iload_n 2, 56, 0, 0, 0, (0 : Int), []),
  (.iadd, 57, 0, 0, 0, (0 : Int), []),
  (.aload_n 0, 58, 0, 0, 0, (0 : Int), []),
  (.getfield 7, 59, 6, 0, 65, (0 : Int), [615, 1]),
  (.bipush 9, 62, 0, 0, 0, (0 : Int), []),
  (.iload_n 2, 64, 0, 0, 0, (0 : Int), []),
  (.iadd, 65, 0, 0, 0, (0 : Int), []),
  (.iconst 1, 66, 0, 0, 0, (0 : Int), []),
  (.iadd, 67, 0, 0, 0, (0 : Int), []),
  (.iaload, 68, 0, 0, 0, (0 : Int), []),
  (.iastore, 69, 0, 0, 0, (0 : Int), []),
  (.aload_n 0, 70, 0, 0, 0, (0 : Int), []),
  (.getfield 7, 71, 6, 0, 65, (0 : Int), [615, 1]),
  (.bipush 21, 74, 0, 0, 0, (0 : Int), []),
  (.iload_n 2, 76, 0, 0, 0, (0 : Int), []),
  (.iadd, 77, 0, 0, 0, (0 : Int), []),
  (.aload_n 0, 78, 0, 0, 0, (0 : Int), []),
  (.getfield 7, 79, 6, 0, 65, (0 : Int), [615, 1]),
  (.bipush 21, 82, 0, 0, 0, (0 : Int), []),
  (.iload_n 2, 84, 0, 0, 0, (0 : Int), []),
  (.iadd, 85, 0, 0, 0, (0 : Int), []),
  (.iconst 1, 86, 0, 0, 0, (0 : Int), []),
  (.iadd, 87, 0, 0, 0, (0 : Int), []),
  (.iaload, 88, 0, 0, 0, (0 : Int), []),
  (.iastore, 89, 0, 0, 0, (0 : Int), []),
  (.aload_n 0, 90, 0, 0, 0, (0 : Int), []),
  (.getfield 7, 91, 6, 0, 65, (0 : Int), [615, 1]),
  (.bipush 33, 94, 0, 0, 0, (0 : Int), []),
  (.iload_n 2, 96, 0, 0, 0, (0 : Int), []),
  (.iadd, 97, 0, 0, 0, (0 : Int), []),
  (.aload_n 0, 98, 0, 0, 0, (0 : Int), []),
  (.getfield 7, 99, 6, 0, 65, (0 : Int), [615, 1]),
  (.bipush 33, 102, 0, 0, 0, (0 : Int), []),
  (.iload_n 2, 104, 0, 0, 0, (0 : Int), []),
  (.iadd, 105, 0, 0, 0, (0 : Int), []),
  (.iconst 1, 106, 0, 0, 0, (0 : Int), []),
  (.iadd, 107, 0, 0, 0, (0 : Int), []),
  (.iaload, 108, 0, 0, 0, (0 : Int), []),
  (.iastore, 109, 0, 0, 0, (0 : Int), []),
  (.iinc 2 1, 110, 0, 0, 0, (0 : Int), []),
  (.goto (-73), 113, 25, 0, 0, (0 : Int), []),
  (.iconst 0, 116, 0, 0, 0, (0 : Int), []),
  (.istore_n 2, 117, 0, 0, 0, (0 : Int), []),
  (.iload_n 2, 118, 0, 0, 0, (0 : Int), []),
  (.aload_n 0, 119, 0, 0, 0, (0 : Int), []),
  (.getfield 7, 120, 6, 0, 65, (0 : Int), [615, 1]),
  (.iconst 0, 123, 0, 0, 0, (0 : Int), []),
  (.iaload, 124, 0, 0, 0, (0 : Int), []),
  (.if_icmp .ge 43, 125, 113, 0, 0, (0 : Int), []),
  (.aload_n 0, 128, 0, 0, 0, (0 : Int), []),
  (.getfield 7, 129, 6, 0, 65, (0 : Int), [615, 1]),
  (.bipush 33, 132, 0, 0, 0, (0 : Int), []),
  (.iload_n 2, 134, 0, 0, 0, (0 : Int), []),
  (.iadd, 135, 0, 0, 0, (0 : Int), []),
  (.iaload, 136, 0, 0, 0, (0 : Int), []),
  (.istore_n 3, 137, 0, 0, 0, (0 : Int), []),
  (.aload_n 0, 138, 0, 0, 0, (0 : Int), []),
  (.getfield 7, 139, 6, 0, 65, (0 : Int), [615, 1]),
  (.bipush 33, 142, 0, 0, 0, (0 : Int), []),
  (.iload_n 2, 144, 0, 0, 0, (0 : Int), []),
  (.iadd, 145, 0, 0, 0, (0 : Int), []),
  (.iload_n 3, 146, 0, 0, 0, (0 : Int), []),
  (.iconst 1, 147, 0, 0, 0, (0 : Int), []),
  (.iload_n 1, 148, 0, 0, 0, (0 : Int), []),
  (.ishl, 149, 0, 0, 0, (0 : Int), []),
  (.iconst 1, 150, 0, 0, 0, (0 : Int), []),
  (.isub, 151, 0, 0, 0, (0 : Int), []),
  (.iand, 152, 0, 0, 0, (0 : Int), []),
  (.iload_n 3, 153, 0, 0, 0, (0 : Int), []),
  (.iload_n 1, 154, 0, 0, 0, (0 : Int), []),
  (.iconst 1, 155, 0, 0, 0, (0 : Int), []),
  (.iadd, 156, 0, 0, 0, (0 : Int), []),
  (.ishr, 157, 0, 0, 0, (0 : Int), []),
  (.iload_n 1, 158, 0, 0, 0, (0 : Int), []),
  (.ishl, 159, 0, 0, 0, (0 : Int), []),
  (.ior, 160, 0, 0, 0, (0 : Int), []),
  (.iastore, 161, 0, 0, 0, (0 : Int), []),
  (.iinc 2 1, 162, 0, 0, 0, (0 : Int), []),
  (.goto (-47), 165, 77, 0, 0, (0 : Int), []),
  (.aload_n 0, 168, 0, 0, 0, (0 : Int), []),
  (.getfield 7, 169, 6, 0, 65, (0 : Int), [615, 1]),
  (.iconst 0, 172, 0, 0, 0, (0 : Int), []),
  (.iaload, 173, 0, 0, 0, (0 : Int), []),
  (.ireturn, 174, 0, 0, 0, (0 : Int), [])]
/-- 122: BranchedSumsModel.pairs()I, 1 arguments, 3 locals -/
def zX6_pairs : List zE := [(.iconst 0, 0, 0, 0, 0, (0 : Int), []),
  (.istore_n 1, 1, 0, 0, 0, (0 : Int), []),
  (.iconst 0, 2, 0, 0, 0, (0 : Int), []),
  (.istore_n 2, 3, 0, 0, 0, (0 : Int), []),
  (.iload_n 2, 4, 0, 0, 0, (0 : Int), []),
  (.aload_n 0, 5, 0, 0, 0, (0 : Int), []),
  (.getfield 7, 6, 6, 0, 65, (0 : Int), [615, 1]),
  (.iconst 0, 9, 0, 0, 0, (0 : Int), []),
  (.iaload, 10, 0, 0, 0, (0 : Int), []),
  (.if_icmp .ge 24, 11, 22, 0, 0, (0 : Int), []),
  (.iload_n 1, 14, 0, 0, 0, (0 : Int), []),
  (.aload_n 0, 15, 0, 0, 0, (0 : Int), []),
  (.getfield 7, 16, 6, 0, 65, (0 : Int), [615, 1]),
  (.bipush 33, 19, 0, 0, 0, (0 : Int), []),
  (.iload_n 2, 21, 0, 0, 0, (0 : Int), []),
  (.iadd, 22, 0, 0, 0, (0 : Int), []),
  (.iaload, 23, 0, 0, 0, (0 : Int), []),
  (.invokestatic 131, 24, 90, 1, 0, (0 : Int), [739]),
  (.iadd, 27, 0, 0, 0, (0 : Int), []),
  (.istore_n 1, 28, 0, 0, 0, (0 : Int), []),
  (.iinc 2 1, 29, 0, 0, 0, (0 : Int), []),
  (.goto (-28), 32, 4, 0, 0, (0 : Int), []),
  (.iload_n 1, 35, 0, 0, 0, (0 : Int), []),
  (.iconst 2, 36, 0, 0, 0, (0 : Int), []),
  (.idiv, 37, 0, 0, 0, (0 : Int), []),
  (.ireturn, 38, 0, 0, 0, (0 : Int), [])]
/-- 123: BranchedSumsModel.bar(IIZ)I, 4 arguments, 4 locals -/
def zX6_bar : List zE := [(.aload_n 0, 0, 0, 0, 0, (0 : Int), []),
  (.iload_n 1, 1, 0, 0, 0, (0 : Int), []),
  (.invokevirtual 127, 2, 88, 2, 6, (0 : Int), [727]),
  (.ifCond .eq 11, 5, 8, 0, 0, (0 : Int), []),
  (.aload_n 0, 8, 0, 0, 0, (0 : Int), []),
  (.iload_n 2, 9, 0, 0, 0, (0 : Int), []),
  (.invokevirtual 127, 10, 88, 2, 6, (0 : Int), [727]),
  (.ifCond .ne 5, 13, 10, 0, 0, (0 : Int), []),
  (.iconst (-1), 16, 0, 0, 0, (0 : Int), []),
  (.ireturn, 17, 0, 0, 0, (0 : Int), []),
  (.iload_n 1, 18, 0, 0, 0, (0 : Int), []),
  (.iload_n 2, 19, 0, 0, 0, (0 : Int), []),
  (.if_icmp .ne 6, 20, 15, 0, 0, (0 : Int), []),
  (.bipush (-2), 23, 0, 0, 0, (0 : Int), []),
  (.ireturn, 25, 0, 0, 0, (0 : Int), []),
  (.aload_n 0, 26, 0, 0, 0, (0 : Int), []),
  (.invokevirtual 103, 27, 115, 1, 6, (0 : Int), [681]),
  (.ifCond .eq 6, 30, 20, 0, 0, (0 : Int), []),
  (.bipush (-4), 33, 0, 0, 0, (0 : Int), []),
  (.ireturn, 35, 0, 0, 0, (0 : Int), []),
  (.aload_n 0, 36, 0, 0, 0, (0 : Int), []),
  (.getfield 7, 37, 6, 0, 65, (0 : Int), [615, 1]),
  (.bipush 33, 40, 0, 0, 0, (0 : Int), []),
  (.iload_n 1, 42, 0, 0, 0, (0 : Int), []),
  (.iadd, 43, 0, 0, 0, (0 : Int), []),
  (.iaload, 44, 0, 0, 0, (0 : Int), []),
  (.iload_n 2, 45, 0, 0, 0, (0 : Int), []),
  (.ishr, 46, 0, 0, 0, (0 : Int), []),
  (.iconst 1, 47, 0, 0, 0, (0 : Int), []),
  (.iand, 48, 0, 0, 0, (0 : Int), []),
  (.iload_n 3, 49, 0, 0, 0, (0 : Int), []),
  (.ifCond .eq 7, 50, 34, 0, 0, (0 : Int), []),
  (.iconst 1, 53, 0, 0, 0, (0 : Int), []),
  (.goto 4, 54, 35, 0, 0, (0 : Int), []),
  (.iconst 0, 57, 0, 0, 0, (0 : Int), []),
  (.if_icmp .ne 6, 58, 38, 0, 0, (0 : Int), []),
  (.bipush (-5), 61, 0, 0, 0, (0 : Int), []),
  (.ireturn, 63, 0, 0, 0, (0 : Int), []),
  (.aload_n 0, 64, 0, 0, 0, (0 : Int), []),
  (.invokevirtual 47, 65, 92, 1, 6, (0 : Int), [670]),
  (.aload_n 0, 68, 0, 0, 0, (0 : Int), []),
  (.invokevirtual 107, 69, 116, 1, 6, (0 : Int), [691]),
  (.aload_n 0, 72, 0, 0, 0, (0 : Int), []),
  (.iload_n 1, 73, 0, 0, 0, (0 : Int), []),
  (.iload_n 2, 74, 0, 0, 0, (0 : Int), []),
  (.iload_n 3, 75, 0, 0, 0, (0 : Int), []),
  (.invokevirtual 123, 76, 119, 4, 6, (0 : Int), [719]),
  (.aload_n 0, 79, 0, 0, 0, (0 : Int), []),
  (.invokevirtual 135, 80, 122, 1, 6, (0 : Int), [735]),
  (.ireturn, 83, 0, 0, 0, (0 : Int), [])]
/-- 124: BranchedSumsModel.setRoom(I)I, 2 arguments, 3 locals -/
def zX6_setRoom : List zE := [(.iload_n 1, 0, 0, 0, 0, (0 : Int), []),
  (.iconst 0, 1, 0, 0, 0, (0 : Int), []),
  (.sipush 200, 2, 0, 0, 0, (0 : Int), []),
  (.invokestatic 31, 5, 87, 3, 0, (0 : Int), [678]),
  (.ifCond .ne 6, 8, 7, 0, 0, (0 : Int), []),
  (.bipush (-2), 11, 0, 0, 0, (0 : Int), []),
  (.ireturn, 13, 0, 0, 0, (0 : Int), []),
  (.aload_n 0, 14, 0, 0, 0, (0 : Int), []),
  (.invokevirtual 103, 15, 115, 1, 6, (0 : Int), [681]),
  (.ifCond .eq 6, 18, 12, 0, 0, (0 : Int), []),
  (.bipush (-4), 21, 0, 0, 0, (0 : Int), []),
  (.ireturn, 23, 0, 0, 0, (0 : Int), []),
  (.aload_n 0, 24, 0, 0, 0, (0 : Int), []),
  (.getfield 7, 25, 6, 0, 65, (0 : Int), [615, 1]),
  (.iconst 1, 28, 0, 0, 0, (0 : Int), []),
  (.iaload, 29, 0, 0, 0, (0 : Int), []),
  (.iload_n 1, 30, 0, 0, 0, (0 : Int), []),
  (.if_icmp .ne 6, 31, 20, 0, 0, (0 : Int), []),
  (.bipush (-5), 34, 0, 0, 0, (0 : Int), []),
  (.ireturn, 36, 0, 0, 0, (0 : Int), []),
  (.aload_n 0, 37, 0, 0, 0, (0 : Int), []),
  (.invokevirtual 47, 38, 92, 1, 6, (0 : Int), [670]),
  (.aload_n 0, 41, 0, 0, 0, (0 : Int), []),
  (.invokevirtual 107, 42, 116, 1, 6, (0 : Int), [691]),
  (.aload_n 0, 45, 0, 0, 0, (0 : Int), []),
  (.getfield 7, 46, 6, 0, 65, (0 : Int), [615, 1]),
  (.iconst 1, 49, 0, 0, 0, (0 : Int), []),
  (.iaload, 50, 0, 0, 0, (0 : Int), []),
  (.istore_n 2, 51, 0, 0, 0, (0 : Int), []),
  (.aload_n 0, 52, 0, 0, 0, (0 : Int), []),
  (.getfield 7, 53, 6, 0, 65, (0 : Int), [615, 1]),
  (.iconst 1, 56, 0, 0, 0, (0 : Int), []),
  (.iload_n 1, 57, 0, 0, 0, (0 : Int), []),
  (.iastore, 58, 0, 0, 0, (0 : Int), []),
  (.iload_n 2, 59, 0, 0, 0, (0 : Int), []),
  (.ireturn, 60, 0, 0, 0, (0 : Int), [])]
/-- 125: BranchedSumsModel.set(II)I, 3 arguments, 4 locals -/
def zX6_set : List zE := [(.iload_n 1, 0, 0, 0, 0, (0 : Int), []),
  (.iconst 0, 1, 0, 0, 0, (0 : Int), []),
  (.iconst 1, 2, 0, 0, 0, (0 : Int), []),
  (.invokestatic 31, 3, 87, 3, 0, (0 : Int), [678]),
  (.ifCond .ne 5, 6, 7, 0, 0, (0 : Int), []),
  (.iconst (-1), 9, 0, 0, 0, (0 : Int), []),
  (.ireturn, 10, 0, 0, 0, (0 : Int), []),
  (.iload_n 2, 11, 0, 0, 0, (0 : Int), []),
  (.iconst 0, 12, 0, 0, 0, (0 : Int), []),
  (.iconst 2, 13, 0, 0, 0, (0 : Int), []),
  (.invokestatic 31, 14, 87, 3, 0, (0 : Int), [678]),
  (.ifCond .ne 6, 17, 14, 0, 0, (0 : Int), []),
  (.bipush (-2), 20, 0, 0, 0, (0 : Int), []),
  (.ireturn, 22, 0, 0, 0, (0 : Int), []),
  (.aload_n 0, 23, 0, 0, 0, (0 : Int), []),
  (.getfield 7, 24, 6, 0, 65, (0 : Int), [615, 1]),
  (.iconst 2, 27, 0, 0, 0, (0 : Int), []),
  (.iload_n 1, 28, 0, 0, 0, (0 : Int), []),
  (.iadd, 29, 0, 0, 0, (0 : Int), []),
  (.iaload, 30, 0, 0, 0, (0 : Int), []),
  (.istore_n 3, 31, 0, 0, 0, (0 : Int), []),
  (.iload_n 3, 32, 0, 0, 0, (0 : Int), []),
  (.iload_n 2, 33, 0, 0, 0, (0 : Int), []),
  (.if_icmp .ne 6, 34, 26, 0, 0, (0 : Int), []),
  (.bipush (-5), 37, 0, 0, 0, (0 : Int), []),
  (.ireturn, 39, 0, 0, 0, (0 : Int), []),
  (.aload_n 0, 40, 0, 0, 0, (0 : Int), []),
  (.invokevirtual 47, 41, 92, 1, 6, (0 : Int), [670]),
  (.aload_n 0, 44, 0, 0, 0, (0 : Int), []),
  (.getfield 7, 45, 6, 0, 65, (0 : Int), [615, 1]),
  (.iconst 2, 48, 0, 0, 0, (0 : Int), []),
  (.iload_n 1, 49, 0, 0, 0, (0 : Int), []),
  (.iadd, 50, 0, 0, 0, (0 : Int), []),
  (.iload_n 2, 51, 0, 0, 0, (0 : Int), []),
  (.iastore, 52, 0, 0, 0, (0 : Int), []),
  (.iload_n 3, 53, 0, 0, 0, (0 : Int), []),
  (.ireturn, 54, 0, 0, 0, (0 : Int), [])]
/-- 126: BranchedSumsModel.begin()I, 1 arguments, 1 locals -/
def zX6_begin : List zE := [(.aload_n 0, 0, 0, 0, 0, (0 : Int), []),
  (.invokevirtual 103, 1, 115, 1, 6, (0 : Int), [681]),
  (.ifCond .eq 6, 4, 5, 0, 0, (0 : Int), []),
  (.bipush (-4), 7, 0, 0, 0, (0 : Int), []),
  (.ireturn, 9, 0, 0, 0, (0 : Int), []),
  (.aload_n 0, 10, 0, 0, 0, (0 : Int), []),
  (.invokevirtual 47, 11, 92, 1, 6, (0 : Int), [670]),
  (.aload_n 0, 14, 0, 0, 0, (0 : Int), []),
  (.invokevirtual 107, 15, 116, 1, 6, (0 : Int), [691]),
  (.aload_n 0, 18, 0, 0, 0, (0 : Int), []),
  (.invokevirtual 139, 19, 97, 1, 6, (0 : Int), [754]),
  (.aload_n 0, 22, 0, 0, 0, (0 : Int), []),
  (.getfield 7, 23, 6, 0, 65, (0 : Int), [615, 1]),
  (.iconst 4, 26, 0, 0, 0, (0 : Int), []),
  (.iconst 1, 27, 0, 0, 0, (0 : Int), []),
  (.iastore, 28, 0, 0, 0, (0 : Int), []),
  (.aload_n 0, 29, 0, 0, 0, (0 : Int), []),
  (.aload_n 0, 30, 0, 0, 0, (0 : Int), []),
  (.getfield 7, 31, 6, 0, 65, (0 : Int), [615, 1]),
  (.bipush (-5), 34, 0, 0, 0, (0 : Int), []),
  (.bipush (-5), 36, 0, 0, 0, (0 : Int), []),
  (.iconst 0, 38, 0, 0, 0, (0 : Int), []),
  (.invokevirtual 96, 39, 112, 5, 6, (0 : Int), [761]),
  (.aload_n 0, 42, 0, 0, 0, (0 : Int), []),
  (.getfield 7, 43, 6, 0, 65, (0 : Int), [615, 1]),
  (.iconst 0, 46, 0, 0, 0, (0 : Int), []),
  (.iconst 3, 47, 0, 0, 0, (0 : Int), []),
  (.invokestatic 89, 48, 110, 3, 0, (0 : Int), [688]),
  (.ireturn, 51, 0, 0, 0, (0 : Int), [])]
/-- 127: BranchedSumsModel.walks(IIZ)I, 4 arguments, 7 locals -/
def zX6_walks : List zE := [(.aload_n 0, 0, 0, 0, 0, (0 : Int), []),
  (.getfield 7, 1, 6, 0, 65, (0 : Int), [615, 1]),
  (.iconst 0, 4, 0, 0, 0, (0 : Int), []),
  (.aload_n 0, 5, 0, 0, 0, (0 : Int), []),
  (.getfield 13, 6, 6, 1, 66, (0 : Int), [616, 1]),
  (.iconst 0, 9, 0, 0, 0, (0 : Int), []),
  (.invokestatic 39, 10, 91, 4, 0, (0 : Int), [659]),
  (.aload_n 0, 13, 0, 0, 0, (0 : Int), []),
  (.invokevirtual 139, 14, 97, 1, 6, (0 : Int), [754]),
  (.iconst 0, 17, 0, 0, 0, (0 : Int), []),
  (.istore 4, 18, 0, 0, 0, (0 : Int), []),
  (.iconst 0, 20, 0, 0, 0, (0 : Int), []),
  (.istore 5, 21, 0, 0, 0, (0 : Int), []),
  (.aload_n 0, 23, 0, 0, 0, (0 : Int), []),
  (.getfield 13, 24, 6, 1, 66, (0 : Int), [616, 1]),
  (.iload_n 2, 27, 0, 0, 0, (0 : Int), []),
  (.invokestatic 142, 28, 113, 2, 0, (0 : Int), [790]),
  (.istore 6, 31, 0, 0, 0, (0 : Int), []),
  (.iload 4, 33, 0, 0, 0, (0 : Int), []),
  (.iload_n 1, 35, 0, 0, 0, (0 : Int), []),
  (.if_icmp .ge 64, 36, 50, 0, 0, (0 : Int), []),
  (.iload 6, 39, 0, 0, 0, (0 : Int), []),
  (.bipush (-5), 41, 0, 0, 0, (0 : Int), []),
  (.if_icmp .eq 57, 43, 50, 0, 0, (0 : Int), []),
  (.iload_n 3, 46, 0, 0, 0, (0 : Int), []),
  (.ifCond .eq 15, 47, 32, 0, 0, (0 : Int), []),
  (.iload 5, 50, 0, 0, 0, (0 : Int), []),
  (.iconst 1, 52, 0, 0, 0, (0 : Int), []),
  (.if_icmp .eq 47, 53, 50, 0, 0, (0 : Int), []),
  (.iload 5, 56, 0, 0, 0, (0 : Int), []),
  (.iconst 2, 58, 0, 0, 0, (0 : Int), []),
  (.if_icmp .eq 41, 59, 50, 0, 0, (0 : Int), []),
  (.aload_n 0, 62, 0, 0, 0, (0 : Int), []),
  (.aload_n 0, 63, 0, 0, 0, (0 : Int), []),
  (.getfield 13, 64, 6, 1, 66, (0 : Int), [616, 1]),
  (.iload 6, 67, 0, 0, 0, (0 : Int), []),
  (.invokevirtual 145, 69, 114, 3, 6, (0 : Int), [793]),
  (.istore 5, 72, 0, 0, 0, (0 : Int), []),
  (.iload 5, 74, 0, 0, 0, (0 : Int), []),
  (.bipush (-3), 76, 0, 0, 0, (0 : Int), []),
  (.if_icmp .ne 6, 78, 43, 0, 0, (0 : Int), []),
  (.bipush (-3), 81, 0, 0, 0, (0 : Int), []),
  (.ireturn, 83, 0, 0, 0, (0 : Int), []),
  (.iinc 4 1, 84, 0, 0, 0, (0 : Int), []),
  (.aload_n 0, 87, 0, 0, 0, (0 : Int), []),
  (.getfield 13, 88, 6, 1, 66, (0 : Int), [616, 1]),
  (.iload_n 2, 91, 0, 0, 0, (0 : Int), []),
  (.invokestatic 142, 92, 113, 2, 0, (0 : Int), [790]),
  (.istore 6, 95, 0, 0, 0, (0 : Int), []),
  (.goto (-64), 97, 18, 0, 0, (0 : Int), []),
  (.aload_n 0, 100, 0, 0, 0, (0 : Int), []),
  (.invokevirtual 47, 101, 92, 1, 6, (0 : Int), [670]),
  (.aload_n 0, 104, 0, 0, 0, (0 : Int), []),
  (.getfield 13, 105, 6, 1, 66, (0 : Int), [616, 1]),
  (.iconst 0, 108, 0, 0, 0, (0 : Int), []),
  (.aload_n 0, 109, 0, 0, 0, (0 : Int), []),
  (.getfield 7, 110, 6, 0, 65, (0 : Int), [615, 1]),
  (.iconst 0, 113, 0, 0, 0, (0 : Int), []),
  (.invokestatic 39, 114, 91, 4, 0, (0 : Int), [659]),
  (.iload 4, 117, 0, 0, 0, (0 : Int), []),
  (.ireturn, 119, 0, 0, 0, (0 : Int), [])]
/-- 128: BranchedSumsModel.step(I)I, 2 arguments, 2 locals -/
def zX6_step : List zE := [(.iload_n 1, 0, 0, 0, 0, (0 : Int), []),
  (.iconst 1, 1, 0, 0, 0, (0 : Int), []),
  (.sipush 200, 2, 0, 0, 0, (0 : Int), []),
  (.invokestatic 31, 5, 87, 3, 0, (0 : Int), [678]),
  (.ifCond .ne 6, 8, 7, 0, 0, (0 : Int), []),
  (.bipush (-2), 11, 0, 0, 0, (0 : Int), []),
  (.ireturn, 13, 0, 0, 0, (0 : Int), []),
  (.aload_n 0, 14, 0, 0, 0, (0 : Int), []),
  (.invokevirtual 103, 15, 115, 1, 6, (0 : Int), [681]),
  (.ifCond .eq 18, 18, 19, 0, 0, (0 : Int), []),
  (.aload_n 0, 21, 0, 0, 0, (0 : Int), []),
  (.iload_n 1, 22, 0, 0, 0, (0 : Int), []),
  (.aload_n 0, 23, 0, 0, 0, (0 : Int), []),
  (.getfield 7, 24, 6, 0, 65, (0 : Int), [615, 1]),
  (.iconst 2, 27, 0, 0, 0, (0 : Int), []),
  (.iaload, 28, 0, 0, 0, (0 : Int), []),
  (.iconst 0, 29, 0, 0, 0, (0 : Int), []),
  (.invokevirtual 148, 30, 127, 4, 6, (0 : Int), [786]),
  (.goto 5, 33, 20, 0, 0, (0 : Int), []),
  (.bipush (-4), 36, 0, 0, 0, (0 : Int), []),
  (.ireturn, 38, 0, 0, 0, (0 : Int), [])]
/-- 129: BranchedSumsModel.dive()I, 1 arguments, 1 locals -/
def zX6_dive : List zE := [(.aload_n 0, 0, 0, 0, 0, (0 : Int), []),
  (.invokevirtual 103, 1, 115, 1, 6, (0 : Int), [681]),
  (.ifCond .eq 14, 4, 9, 0, 0, (0 : Int), []),
  (.aload_n 0, 7, 0, 0, 0, (0 : Int), []),
  (.ldc 152, 8, 0, 0, 0, (100000 : Int), [828]),
  (.iconst 0, 10, 0, 0, 0, (0 : Int), []),
  (.iconst 1, 11, 0, 0, 0, (0 : Int), []),
  (.invokevirtual 148, 12, 127, 4, 6, (0 : Int), [786]),
  (.goto 5, 15, 10, 0, 0, (0 : Int), []),
  (.bipush (-4), 18, 0, 0, 0, (0 : Int), []),
  (.ireturn, 20, 0, 0, 0, (0 : Int), [])]
/-- 130: BranchedSumsModel.giveUp()I, 1 arguments, 3 locals -/
def zX6_giveUp : List zE := [(.aload_n 0, 0, 0, 0, 0, (0 : Int), []),
  (.getfield 7, 1, 6, 0, 65, (0 : Int), [615, 1]),
  (.iconst 0, 4, 0, 0, 0, (0 : Int), []),
  (.invokestatic 100, 5, 111, 2, 0, (0 : Int), [685]),
  (.istore_n 1, 8, 0, 0, 0, (0 : Int), []),
  (.iload_n 1, 9, 0, 0, 0, (0 : Int), []),
  (.ifCond .ne 6, 10, 9, 0, 0, (0 : Int), []),
  (.bipush (-5), 13, 0, 0, 0, (0 : Int), []),
  (.ireturn, 15, 0, 0, 0, (0 : Int), []),
  (.aload_n 0, 16, 0, 0, 0, (0 : Int), []),
  (.invokevirtual 47, 17, 92, 1, 6, (0 : Int), [670]),
  (.iconst 0, 20, 0, 0, 0, (0 : Int), []),
  (.istore_n 2, 21, 0, 0, 0, (0 : Int), []),
  (.iload_n 2, 22, 0, 0, 0, (0 : Int), []),
  (.aload_n 0, 23, 0, 0, 0, (0 : Int), []),
  (.getfield 7, 24, 6, 0, 65, (0 : Int), [615, 1]),
  (.iconst 5, 27, 0, 0, 0, (0 : Int), []),
  (.iaload, 28, 0, 0, 0, (0 : Int), []),
  (.if_icmp .ge 48, 29, 44, 0, 0, (0 : Int), []),
  (.aload_n 0, 32, 0, 0, 0, (0 : Int), []),
  (.getfield 7, 33, 6, 0, 65, (0 : Int), [615, 1]),
  (.bipush 45, 36, 0, 0, 0, (0 : Int), []),
  (.bipush 7, 38, 0, 0, 0, (0 : Int), []),
  (.iload_n 2, 40, 0, 0, 0, (0 : Int), []),
  (.imul, 41, 0, 0, 0, (0 : Int), []),
  (.iadd, 42, 0, 0, 0, (0 : Int), []),
  (.iconst 4, 43, 0, 0, 0, (0 : Int), []),
  (.iadd, 44, 0, 0, 0, (0 : Int), []),
  (.aload_n 0, 45, 0, 0, 0, (0 : Int), []),
  (.getfield 7, 46, 6, 0, 65, (0 : Int), [615, 1]),
  (.iload_n 2, 49, 0, 0, 0, (0 : Int), []),
  (.iconst 4, 50, 0, 0, 0, (0 : Int), []),
  (.invokestatic 89, 51, 110, 3, 0, (0 : Int), [688]),
  (.ifCond .ne 7, 54, 36, 0, 0, (0 : Int), []),
  (.iconst 5, 57, 0, 0, 0, (0 : Int), []),
  (.goto 12, 58, 41, 0, 0, (0 : Int), []),
  (.aload_n 0, 61, 0, 0, 0, (0 : Int), []),
  (.getfield 7, 62, 6, 0, 65, (0 : Int), [615, 1]),
  (.iload_n 2, 65, 0, 0, 0, (0 : Int), []),
  (.iconst 4, 66, 0, 0, 0, (0 : Int), []),
  (.invokestatic 89, 67, 110, 3, 0, (0 : Int), [688]),
  (.iastore, 70, 0, 0, 0, (0 : Int), []),
  (.iinc 2 1, 71, 0, 0, 0, (0 : Int), []),
  (.goto (-52), 74, 13, 0, 0, (0 : Int), []),
  (.iload_n 1, 77, 0, 0, 0, (0 : Int), []),
  (.ireturn, 78, 0, 0, 0, (0 : Int), [])]
/-- 131: BranchedSumsModel.type(C)I, 2 arguments, 2 locals -/
def zX6_type : List zE := [(.aload_n 0, 0, 0, 0, 0, (0 : Int), []),
  (.getfield 153, 1, 6, 7, 0, (0 : Int), [622]),
  (.bipush 80, 4, 0, 0, 0, (0 : Int), []),
  (.if_icmp .ne 6, 6, 6, 0, 0, (0 : Int), []),
  (.bipush (-3), 9, 0, 0, 0, (0 : Int), []),
  (.ireturn, 11, 0, 0, 0, (0 : Int), []),
  (.aload_n 0, 12, 0, 0, 0, (0 : Int), []),
  (.getfield 22, 13, 6, 6, 69, (0 : Int), [621, 1]),
  (.aload_n 0, 16, 0, 0, 0, (0 : Int), []),
  (.getfield 153, 17, 6, 7, 0, (0 : Int), [622]),
  (.iload_n 1, 20, 0, 0, 0, (0 : Int), []),
  (.iastore, 21, 0, 0, 0, (0 : Int), []),
  (.aload_n 0, 22, 0, 0, 0, (0 : Int), []),
  (.dup, 23, 0, 0, 0, (0 : Int), []),
  (.getfield 153, 24, 6, 7, 0, (0 : Int), [622]),
  (.iconst 1, 27, 0, 0, 0, (0 : Int), []),
  (.iadd, 28, 0, 0, 0, (0 : Int), []),
  (.putfield 153, 29, 6, 7, 0, (0 : Int), [622]),
  (.aload_n 0, 32, 0, 0, 0, (0 : Int), []),
  (.getfield 153, 33, 6, 7, 0, (0 : Int), [622]),
  (.ireturn, 36, 0, 0, 0, (0 : Int), [])]
/-- 132: BranchedSumsModel.clearText()I, 1 arguments, 2 locals -/
def zX6_clearText : List zE := [(.aload_n 0, 0, 0, 0, 0, (0 : Int), []),
  (.getfield 153, 1, 6, 7, 0, (0 : Int), [622]),
  (.istore_n 1, 4, 0, 0, 0, (0 : Int), []),
  (.aload_n 0, 5, 0, 0, 0, (0 : Int), []),
  (.iconst 0, 6, 0, 0, 0, (0 : Int), []),
  (.putfield 153, 7, 6, 7, 0, (0 : Int), [622]),
  (.iload_n 1, 10, 0, 0, 0, (0 : Int), []),
  (.ireturn, 11, 0, 0, 0, (0 : Int), [])]
/-- 133: BranchedSumsModel.isAt(II)Z, 3 arguments, 3 locals -/
def zX6_isAt : List zE := [(.aload_n 0, 0, 0, 0, 0, (0 : Int), []),
  (.getfield 117, 1, 6, 8, 0, (0 : Int), [623]),
  (.aload_n 0, 4, 0, 0, 0, (0 : Int), []),
  (.getfield 153, 5, 6, 7, 0, (0 : Int), [622]),
  (.if_icmp .ge 24, 8, 16, 0, 0, (0 : Int), []),
  (.aload_n 0, 11, 0, 0, 0, (0 : Int), []),
  (.getfield 22, 12, 6, 6, 69, (0 : Int), [621, 1]),
  (.aload_n 0, 15, 0, 0, 0, (0 : Int), []),
  (.getfield 117, 16, 6, 8, 0, (0 : Int), [623]),
  (.iaload, 19, 0, 0, 0, (0 : Int), []),
  (.iload_n 1, 20, 0, 0, 0, (0 : Int), []),
  (.iload_n 2, 21, 0, 0, 0, (0 : Int), []),
  (.invokestatic 31, 22, 87, 3, 0, (0 : Int), [678]),
  (.ifCond .eq 7, 25, 16, 0, 0, (0 : Int), []),
  (.iconst 1, 28, 0, 0, 0, (0 : Int), []),
  (.goto 4, 29, 17, 0, 0, (0 : Int), []),
  (.iconst 0, 32, 0, 0, 0, (0 : Int), []),
  (.ireturn, 33, 1, 0, 0, (0 : Int), [])]
/-- 134: BranchedSumsModel.isNumber(II)Z, 3 arguments, 3 locals -/
def zX6_isNumber : List zE := [(.aload_n 0, 0, 0, 0, 0, (0 : Int), []),
  (.bipush 48, 1, 0, 0, 0, (0 : Int), []),
  (.iload_n 1, 3, 0, 0, 0, (0 : Int), []),
  (.iadd, 4, 0, 0, 0, (0 : Int), []),
  (.bipush 57, 5, 0, 0, 0, (0 : Int), []),
  (.invokevirtual 156, 7, 133, 3, 6, (0 : Int), [715]),
  (.ifCond .ne 5, 10, 9, 0, 0, (0 : Int), []),
  (.iconst 0, 13, 0, 0, 0, (0 : Int), []),
  (.ireturn, 14, 1, 0, 0, (0 : Int), []),
  (.aload_n 0, 15, 0, 0, 0, (0 : Int), []),
  (.aload_n 0, 16, 0, 0, 0, (0 : Int), []),
  (.getfield 22, 17, 6, 6, 69, (0 : Int), [621, 1]),
  (.aload_n 0, 20, 0, 0, 0, (0 : Int), []),
  (.getfield 117, 21, 6, 8, 0, (0 : Int), [623]),
  (.iaload, 24, 0, 0, 0, (0 : Int), []),
  (.bipush 48, 25, 0, 0, 0, (0 : Int), []),
  (.isub, 27, 0, 0, 0, (0 : Int), []),
  (.putfield 160, 28, 6, 9, 0, (0 : Int), [624]),
  (.aload_n 0, 31, 0, 0, 0, (0 : Int), []),
  (.dup, 32, 0, 0, 0, (0 : Int), []),
  (.getfield 117, 33, 6, 8, 0, (0 : Int), [623]),
  (.iconst 1, 36, 0, 0, 0, (0 : Int), []),
  (.iadd, 37, 0, 0, 0, (0 : Int), []),
  (.putfield 117, 38, 6, 8, 0, (0 : Int), [623]),
  (.aload_n 0, 41, 0, 0, 0, (0 : Int), []),
  (.getfield 160, 42, 6, 9, 0, (0 : Int), [624]),
  (.ifCond .le 75, 45, 67, 0, 0, (0 : Int), []),
  (.aload_n 0, 48, 0, 0, 0, (0 : Int), []),
  (.bipush 48, 49, 0, 0, 0, (0 : Int), []),
  (.bipush 57, 51, 0, 0, 0, (0 : Int), []),
  (.invokevirtual 156, 53, 133, 3, 6, (0 : Int), [715]),
  (.ifCond .eq 64, 56, 67, 0, 0, (0 : Int), []),
  (.bipush 10, 59, 0, 0, 0, (0 : Int), []),
  (.aload_n 0, 61, 0, 0, 0, (0 : Int), []),
  (.getfield 160, 62, 6, 9, 0, (0 : Int), [624]),
  (.imul, 65, 0, 0, 0, (0 : Int), []),
  (.aload_n 0, 66, 0, 0, 0, (0 : Int), []),
  (.getfield 22, 67, 6, 6, 69, (0 : Int), [621, 1]),
  (.aload_n 0, 70, 0, 0, 0, (0 : Int), []),
  (.getfield 117, 71, 6, 8, 0, (0 : Int), [623]),
  (.iaload, 74, 0, 0, 0, (0 : Int), []),
  (.iadd, 75, 0, 0, 0, (0 : Int), []),
  (.bipush 48, 76, 0, 0, 0, (0 : Int), []),
  (.isub, 78, 0, 0, 0, (0 : Int), []),
  (.iload_n 2, 79, 0, 0, 0, (0 : Int), []),
  (.if_icmp .gt 40, 80, 67, 0, 0, (0 : Int), []),
  (.aload_n 0, 83, 0, 0, 0, (0 : Int), []),
  (.bipush 10, 84, 0, 0, 0, (0 : Int), []),
  (.aload_n 0, 86, 0, 0, 0, (0 : Int), []),
  (.getfield 160, 87, 6, 9, 0, (0 : Int), [624]),
  (.imul, 90, 0, 0, 0, (0 : Int), []),
  (.aload_n 0, 91, 0, 0, 0, (0 : Int), []),
  (.getfield 22, 92, 6, 6, 69, (0 : Int), [621, 1]),
  (.aload_n 0, 95, 0, 0, 0, (0 : Int), []),
  (.getfield 117, 96, 6, 8, 0, (0 : Int), [623]),
  (.iaload, 99, 0, 0, 0, (0 : Int), []),
  (.iadd, 100, 0, 0, 0, (0 : Int), []),
  (.bipush 48, 101, 0, 0, 0, (0 : Int), []),
  (.isub, 103, 0, 0, 0, (0 : Int), []),
  (.putfield 160, 104, 6, 9, 0, (0 : Int), [624]),
  (.aload_n 0, 107, 0, 0, 0, (0 : Int), []),
  (.dup, 108, 0, 0, 0, (0 : Int), []),
  (.getfield 117, 109, 6, 8, 0, (0 : Int), [623]),
  (.iconst 1, 112, 0, 0, 0, (0 : Int), []),
  (.iadd, 113, 0, 0, 0, (0 : Int), []),
  (.putfield 117, 114, 6, 8, 0, (0 : Int), [623]),
  (.goto (-76), 117, 24, 0, 0, (0 : Int), []),
  (.iconst 1, 120, 0, 0, 0, (0 : Int), []),
  (.ireturn, 121, 1, 0, 0, (0 : Int), [])]
/-- 135: BranchedSumsModel.isPart()Z, 1 arguments, 1 locals -/
def zX6_isPart : List zE := [(.aload_n 0, 0, 0, 0, 0, (0 : Int), []),
  (.iconst 1, 1, 0, 0, 0, (0 : Int), []),
  (.bipush 99, 2, 0, 0, 0, (0 : Int), []),
  (.invokevirtual 163, 4, 134, 3, 6, (0 : Int), [711]),
  (.ifCond .ne 5, 7, 7, 0, 0, (0 : Int), []),
  (.iconst 0, 10, 0, 0, 0, (0 : Int), []),
  (.ireturn, 11, 1, 0, 0, (0 : Int), []),
  (.aload_n 0, 12, 0, 0, 0, (0 : Int), []),
  (.getfield 25, 13, 6, 10, 70, (0 : Int), [625, 1]),
  (.iconst 3, 16, 0, 0, 0, (0 : Int), []),
  (.aload_n 0, 17, 0, 0, 0, (0 : Int), []),
  (.getfield 120, 18, 6, 11, 0, (0 : Int), [626]),
  (.imul, 21, 0, 0, 0, (0 : Int), []),
  (.aload_n 0, 22, 0, 0, 0, (0 : Int), []),
  (.getfield 160, 23, 6, 9, 0, (0 : Int), [624]),
  (.iastore, 26, 0, 0, 0, (0 : Int), []),
  (.aload_n 0, 27, 0, 0, 0, (0 : Int), []),
  (.bipush 47, 28, 0, 0, 0, (0 : Int), []),
  (.bipush 47, 30, 0, 0, 0, (0 : Int), []),
  (.invokevirtual 156, 32, 133, 3, 6, (0 : Int), [715]),
  (.ifCond .ne 5, 35, 23, 0, 0, (0 : Int), []),
  (.iconst 0, 38, 0, 0, 0, (0 : Int), []),
  (.ireturn, 39, 1, 0, 0, (0 : Int), []),
  (.aload_n 0, 40, 0, 0, 0, (0 : Int), []),
  (.dup, 41, 0, 0, 0, (0 : Int), []),
  (.getfield 117, 42, 6, 8, 0, (0 : Int), [623]),
  (.iconst 1, 45, 0, 0, 0, (0 : Int), []),
  (.iadd, 46, 0, 0, 0, (0 : Int), []),
  (.putfield 117, 47, 6, 8, 0, (0 : Int), [623]),
  (.aload_n 0, 50, 0, 0, 0, (0 : Int), []),
  (.iconst 1, 51, 0, 0, 0, (0 : Int), []),
  (.bipush 50, 52, 0, 0, 0, (0 : Int), []),
  (.invokevirtual 163, 54, 134, 3, 6, (0 : Int), [711]),
  (.ifCond .ne 5, 57, 36, 0, 0, (0 : Int), []),
  (.iconst 0, 60, 0, 0, 0, (0 : Int), []),
  (.ireturn, 61, 1, 0, 0, (0 : Int), []),
  (.aload_n 0, 62, 0, 0, 0, (0 : Int), []),
  (.getfield 25, 63, 6, 10, 70, (0 : Int), [625, 1]),
  (.iconst 3, 66, 0, 0, 0, (0 : Int), []),
  (.aload_n 0, 67, 0, 0, 0, (0 : Int), []),
  (.getfield 120, 68, 6, 11, 0, (0 : Int), [626]),
  (.imul, 71, 0, 0, 0, (0 : Int), []),
  (.iconst 1, 72, 0, 0, 0, (0 : Int), []),
  (.iadd, 73, 0, 0, 0, (0 : Int), []),
  (.aload_n 0, 74, 0, 0, 0, (0 : Int), []),
  (.getfield 160, 75, 6, 9, 0, (0 : Int), [624]),
  (.iastore, 78, 0, 0, 0, (0 : Int), []),
  (.aload_n 0, 79, 0, 0, 0, (0 : Int), []),
  (.getfield 25, 80, 6, 10, 70, (0 : Int), [625, 1]),
  (.iconst 3, 83, 0, 0, 0, (0 : Int), []),
  (.aload_n 0, 84, 0, 0, 0, (0 : Int), []),
  (.getfield 120, 85, 6, 11, 0, (0 : Int), [626]),
  (.imul, 88, 0, 0, 0, (0 : Int), []),
  (.iconst 2, 89, 0, 0, 0, (0 : Int), []),
  (.iadd, 90, 0, 0, 0, (0 : Int), []),
  (.iconst 0, 91, 0, 0, 0, (0 : Int), []),
  (.iastore, 92, 0, 0, 0, (0 : Int), []),
  (.aload_n 0, 93, 0, 0, 0, (0 : Int), []),
  (.bipush 33, 94, 0, 0, 0, (0 : Int), []),
  (.bipush 33, 96, 0, 0, 0, (0 : Int), []),
  (.invokevirtual 156, 98, 133, 3, 6, (0 : Int), [715]),
  (.ifCond .eq 50, 101, 92, 0, 0, (0 : Int), []),
  (.aload_n 0, 104, 0, 0, 0, (0 : Int), []),
  (.dup, 105, 0, 0, 0, (0 : Int), []),
  (.getfield 117, 106, 6, 8, 0, (0 : Int), [623]),
  (.iconst 1, 109, 0, 0, 0, (0 : Int), []),
  (.iadd, 110, 0, 0, 0, (0 : Int), []),
  (.putfield 117, 111, 6, 8, 0, (0 : Int), [623]),
  (.aload_n 0, 114, 0, 0, 0, (0 : Int), []),
  (.iconst 0, 115, 0, 0, 0, (0 : Int), []),
  (.bipush 10, 116, 0, 0, 0, (0 : Int), []),
  (.invokevirtual 163, 118, 134, 3, 6, (0 : Int), [711]),
  (.ifCond .ne 5, 121, 75, 0, 0, (0 : Int), []),
  (.iconst 0, 124, 0, 0, 0, (0 : Int), []),
  (.ireturn, 125, 1, 0, 0, (0 : Int), []),
  (.aload_n 0, 126, 0, 0, 0, (0 : Int), []),
  (.getfield 25, 127, 6, 10, 70, (0 : Int), [625, 1]),
  (.iconst 3, 130, 0, 0, 0, (0 : Int), []),
  (.aload_n 0, 131, 0, 0, 0, (0 : Int), []),
  (.getfield 120, 132, 6, 11, 0, (0 : Int), [626]),
  (.imul, 135, 0, 0, 0, (0 : Int), []),
  (.iconst 2, 136, 0, 0, 0, (0 : Int), []),
  (.iadd, 137, 0, 0, 0, (0 : Int), []),
  (.dup2, 138, 0, 0, 0, (0 : Int), []),
  (.iaload, 139, 0, 0, 0, (0 : Int), []),
  (.iconst 1, 140, 0, 0, 0, (0 : Int), []),
  (.aload_n 0, 141, 0, 0, 0, (0 : Int), []),
  (.getfield 160, 142, 6, 9, 0, (0 : Int), [624]),
  (.ishl, 145, 0, 0, 0, (0 : Int), []),
  (.ior, 146, 0, 0, 0, (0 : Int), []),
  (.iastore, 147, 0, 0, 0, (0 : Int), []),
  (.goto (-55), 148, 57, 0, 0, (0 : Int), []),
  (.iconst 1, 151, 0, 0, 0, (0 : Int), []),
  (.ireturn, 152, 1, 0, 0, (0 : Int), [])]
/-- 136: BranchedSumsModel.isText()Z, 1 arguments, 2 locals -/
def zX6_isText : List zE := [(.aload_n 0, 0, 0, 0, 0, (0 : Int), []),
  (.iconst 0, 1, 0, 0, 0, (0 : Int), []),
  (.putfield 117, 2, 6, 8, 0, (0 : Int), [623]),
  (.aload_n 0, 5, 0, 0, 0, (0 : Int), []),
  (.iconst 0, 6, 0, 0, 0, (0 : Int), []),
  (.putfield 120, 7, 6, 11, 0, (0 : Int), [626]),
  (.iconst 1, 10, 0, 0, 0, (0 : Int), []),
  (.istore_n 1, 11, 0, 0, 0, (0 : Int), []),
  (.iload_n 1, 12, 0, 0, 0, (0 : Int), []),
  (.ifCond .eq 52, 13, 37, 0, 0, (0 : Int), []),
  (.aload_n 0, 16, 0, 0, 0, (0 : Int), []),
  (.invokevirtual 166, 17, 135, 1, 6, (0 : Int), [707]),
  (.ifCond .ne 5, 20, 15, 0, 0, (0 : Int), []),
  (.iconst 0, 23, 0, 0, 0, (0 : Int), []),
  (.ireturn, 24, 1, 0, 0, (0 : Int), []),
  (.aload_n 0, 25, 0, 0, 0, (0 : Int), []),
  (.dup, 26, 0, 0, 0, (0 : Int), []),
  (.getfield 120, 27, 6, 11, 0, (0 : Int), [626]),
  (.iconst 1, 30, 0, 0, 0, (0 : Int), []),
  (.iadd, 31, 0, 0, 0, (0 : Int), []),
  (.putfield 120, 32, 6, 11, 0, (0 : Int), [626]),
  (.aload_n 0, 35, 0, 0, 0, (0 : Int), []),
  (.bipush 59, 36, 0, 0, 0, (0 : Int), []),
  (.bipush 59, 38, 0, 0, 0, (0 : Int), []),
  (.invokevirtual 156, 40, 133, 3, 6, (0 : Int), [715]),
  (.istore_n 1, 43, 0, 0, 0, (0 : Int), []),
  (.aload_n 0, 44, 0, 0, 0, (0 : Int), []),
  (.dup, 45, 0, 0, 0, (0 : Int), []),
  (.getfield 117, 46, 6, 8, 0, (0 : Int), [623]),
  (.iload_n 1, 49, 0, 0, 0, (0 : Int), []),
  (.ifCond .eq 7, 50, 33, 0, 0, (0 : Int), []),
  (.iconst 1, 53, 0, 0, 0, (0 : Int), []),
  (.goto 4, 54, 34, 0, 0, (0 : Int), []),
  (.iconst 0, 57, 0, 0, 0, (0 : Int), []),
  (.iadd, 58, 0, 0, 0, (0 : Int), []),
  (.putfield 117, 59, 6, 8, 0, (0 : Int), [623]),
  (.goto (-50), 62, 8, 0, 0, (0 : Int), []),
  (.aload_n 0, 65, 0, 0, 0, (0 : Int), []),
  (.getfield 117, 66, 6, 8, 0, (0 : Int), [623]),
  (.aload_n 0, 69, 0, 0, 0, (0 : Int), []),
  (.getfield 153, 70, 6, 7, 0, (0 : Int), [622]),
  (.if_icmp .ne 7, 73, 44, 0, 0, (0 : Int), []),
  (.iconst 1, 76, 0, 0, 0, (0 : Int), []),
  (.goto 4, 77, 45, 0, 0, (0 : Int), []),
  (.iconst 0, 80, 0, 0, 0, (0 : Int), []),
  (.ireturn, 81, 1, 0, 0, (0 : Int), [])]
/-- 137: BranchedSumsModel.thing(II)I, 3 arguments, 3 locals -/
def zX6_thing : List zE := [(.aload_n 0, 0, 0, 0, 0, (0 : Int), []),
  (.iload_n 1, 1, 0, 0, 0, (0 : Int), []),
  (.invokevirtual 127, 2, 88, 2, 6, (0 : Int), [727]),
  (.ifCond .ne 5, 5, 6, 0, 0, (0 : Int), []),
  (.iconst (-1), 8, 0, 0, 0, (0 : Int), []),
  (.ireturn, 9, 0, 0, 0, (0 : Int), []),
  (.iload_n 2, 10, 0, 0, 0, (0 : Int), []),
  (.tableswitch 84 0 4 #[33, 43, 53, 62, 72], 11, 0, 0, 0, (0 : Int), [43, 8, 15, 22, 27, 34]),
  (.aload_n 0, 44, 0, 0, 0, (0 : Int), []),
  (.getfield 7, 45, 6, 0, 65, (0 : Int), [615, 1]),
  (.bipush 9, 48, 0, 0, 0, (0 : Int), []),
  (.iload_n 1, 50, 0, 0, 0, (0 : Int), []),
  (.iadd, 51, 0, 0, 0, (0 : Int), []),
  (.iaload, 52, 0, 0, 0, (0 : Int), []),
  (.ireturn, 53, 0, 0, 0, (0 : Int), []),
  (.aload_n 0, 54, 0, 0, 0, (0 : Int), []),
  (.getfield 7, 55, 6, 0, 65, (0 : Int), [615, 1]),
  (.bipush 21, 58, 0, 0, 0, (0 : Int), []),
  (.iload_n 1, 60, 0, 0, 0, (0 : Int), []),
  (.iadd, 61, 0, 0, 0, (0 : Int), []),
  (.iaload, 62, 0, 0, 0, (0 : Int), []),
  (.ireturn, 63, 0, 0, 0, (0 : Int), []),
  (.aload_n 0, 64, 0, 0, 0, (0 : Int), []),
  (.getfield 7, 65, 6, 0, 65, (0 : Int), [615, 1]),
  (.iload_n 1, 68, 0, 0, 0, (0 : Int), []),
  (.invokestatic 50, 69, 96, 2, 0, (0 : Int), [758]),
  (.ireturn, 72, 0, 0, 0, (0 : Int), []),
  (.aload_n 0, 73, 0, 0, 0, (0 : Int), []),
  (.getfield 7, 74, 6, 0, 65, (0 : Int), [615, 1]),
  (.bipush 33, 77, 0, 0, 0, (0 : Int), []),
  (.iload_n 1, 79, 0, 0, 0, (0 : Int), []),
  (.iadd, 80, 0, 0, 0, (0 : Int), []),
  (.iaload, 81, 0, 0, 0, (0 : Int), []),
  (.ireturn, 82, 0, 0, 0, (0 : Int), []),
  (.aload_n 0, 83, 0, 0, 0, (0 : Int), []),
  (.getfield 7, 84, 6, 0, 65, (0 : Int), [615, 1]),
  (.bipush 8, 87, 0, 0, 0, (0 : Int), []),
  (.iaload, 89, 0, 0, 0, (0 : Int), []),
  (.iload_n 1, 90, 0, 0, 0, (0 : Int), []),
  (.ishr, 91, 0, 0, 0, (0 : Int), []),
  (.iconst 1, 92, 0, 0, 0, (0 : Int), []),
  (.iand, 93, 0, 0, 0, (0 : Int), []),
  (.ireturn, 94, 0, 0, 0, (0 : Int), []),
  (.bipush (-2), 95, 0, 0, 0, (0 : Int), []),
  (.ireturn, 97, 0, 0, 0, (0 : Int), [])]
/-- 138: BranchedSumsModel.node(II)I, 3 arguments, 3 locals -/
def zX6_node : List zE := [(.aload_n 0, 0, 0, 0, 0, (0 : Int), []),
  (.iload_n 1, 1, 0, 0, 0, (0 : Int), []),
  (.invokevirtual 169, 2, 89, 2, 6, (0 : Int), [849]),
  (.ifCond .ne 5, 5, 6, 0, 0, (0 : Int), []),
  (.iconst (-1), 8, 0, 0, 0, (0 : Int), []),
  (.ireturn, 9, 0, 0, 0, (0 : Int), []),
  (.iload_n 2, 10, 0, 0, 0, (0 : Int), []),
  (.tableswitch 91 0 7 #[45, 45, 45, 45, 45, 55, 79, 79], 11, 0, 0, 0, (0 : Int), [35, 8, 8, 8, 8, 8, 14, 27, 27]),
  (.aload_n 0, 56, 0, 0, 0, (0 : Int), []),
  (.getfield 7, 57, 6, 0, 65, (0 : Int), [615, 1]),
  (.iload_n 1, 60, 0, 0, 0, (0 : Int), []),
  (.iload_n 2, 61, 0, 0, 0, (0 : Int), []),
  (.invokestatic 89, 62, 110, 3, 0, (0 : Int), [688]),
  (.ireturn, 65, 0, 0, 0, (0 : Int), []),
  (.aload_n 0, 66, 0, 0, 0, (0 : Int), []),
  (.getfield 7, 67, 6, 0, 65, (0 : Int), [615, 1]),
  (.iload_n 1, 70, 0, 0, 0, (0 : Int), []),
  (.iconst 5, 71, 0, 0, 0, (0 : Int), []),
  (.invokestatic 89, 72, 110, 3, 0, (0 : Int), [688]),
  (.aload_n 0, 75, 0, 0, 0, (0 : Int), []),
  (.getfield 7, 76, 6, 0, 65, (0 : Int), [615, 1]),
  (.iload_n 1, 79, 0, 0, 0, (0 : Int), []),
  (.bipush 6, 80, 0, 0, 0, (0 : Int), []),
  (.invokestatic 89, 82, 110, 3, 0, (0 : Int), [688]),
  (.ior, 85, 0, 0, 0, (0 : Int), []),
  (.invokestatic 131, 86, 90, 1, 0, (0 : Int), [739]),
  (.ireturn, 89, 0, 0, 0, (0 : Int), []),
  (.aload_n 0, 90, 0, 0, 0, (0 : Int), []),
  (.getfield 7, 91, 6, 0, 65, (0 : Int), [615, 1]),
  (.iload_n 1, 94, 0, 0, 0, (0 : Int), []),
  (.iload_n 2, 95, 0, 0, 0, (0 : Int), []),
  (.iconst 1, 96, 0, 0, 0, (0 : Int), []),
  (.isub, 97, 0, 0, 0, (0 : Int), []),
  (.invokestatic 89, 98, 110, 3, 0, (0 : Int), [688]),
  (.ireturn, 101, 0, 0, 0, (0 : Int), []),
  (.bipush (-2), 102, 0, 0, 0, (0 : Int), []),
  (.ireturn, 104, 0, 0, 0, (0 : Int), [])]
/-- 139: BranchedSumsModel.next()I, 1 arguments, 1 locals -/
def zX6_next : List zE := [(.aload_n 0, 0, 0, 0, 0, (0 : Int), []),
  (.getfield 7, 1, 6, 0, 65, (0 : Int), [615, 1]),
  (.aload_n 0, 4, 0, 0, 0, (0 : Int), []),
  (.getfield 7, 5, 6, 0, 65, (0 : Int), [615, 1]),
  (.iconst 2, 8, 0, 0, 0, (0 : Int), []),
  (.iaload, 9, 0, 0, 0, (0 : Int), []),
  (.invokestatic 142, 10, 113, 2, 0, (0 : Int), [790]),
  (.ireturn, 13, 0, 0, 0, (0 : Int), [])]
/-- 140: BranchedSumsModel.branchOf(II)I, 3 arguments, 3 locals -/
def zX6_branchOf : List zE := [(.aload_n 0, 0, 0, 0, 0, (0 : Int), []),
  (.iload_n 1, 1, 0, 0, 0, (0 : Int), []),
  (.invokevirtual 169, 2, 89, 2, 6, (0 : Int), [849]),
  (.ifCond .eq 22, 5, 13, 0, 0, (0 : Int), []),
  (.aload_n 0, 8, 0, 0, 0, (0 : Int), []),
  (.getfield 7, 9, 6, 0, 65, (0 : Int), [615, 1]),
  (.aload_n 0, 12, 0, 0, 0, (0 : Int), []),
  (.getfield 7, 13, 6, 0, 65, (0 : Int), [615, 1]),
  (.iload_n 1, 16, 0, 0, 0, (0 : Int), []),
  (.iconst 5, 17, 0, 0, 0, (0 : Int), []),
  (.invokestatic 89, 18, 110, 3, 0, (0 : Int), [688]),
  (.invokestatic 70, 21, 99, 2, 0, (0 : Int), [769]),
  (.ifCond .ne 5, 24, 15, 0, 0, (0 : Int), []),
  (.iconst (-1), 27, 0, 0, 0, (0 : Int), []),
  (.ireturn, 28, 0, 0, 0, (0 : Int), []),
  (.iload_n 2, 29, 0, 0, 0, (0 : Int), []),
  (.iconst 0, 30, 0, 0, 0, (0 : Int), []),
  (.iconst 2, 31, 0, 0, 0, (0 : Int), []),
  (.invokestatic 31, 32, 87, 3, 0, (0 : Int), [678]),
  (.ifCond .ne 6, 35, 22, 0, 0, (0 : Int), []),
  (.bipush (-2), 38, 0, 0, 0, (0 : Int), []),
  (.ireturn, 40, 0, 0, 0, (0 : Int), []),
  (.aload_n 0, 41, 0, 0, 0, (0 : Int), []),
  (.invokevirtual 139, 42, 97, 1, 6, (0 : Int), [754]),
  (.aload_n 0, 45, 0, 0, 0, (0 : Int), []),
  (.aload_n 0, 46, 0, 0, 0, (0 : Int), []),
  (.getfield 7, 47, 6, 0, 65, (0 : Int), [615, 1]),
  (.aload_n 0, 50, 0, 0, 0, (0 : Int), []),
  (.getfield 7, 51, 6, 0, 65, (0 : Int), [615, 1]),
  (.iload_n 1, 54, 0, 0, 0, (0 : Int), []),
  (.iconst 5, 55, 0, 0, 0, (0 : Int), []),
  (.invokestatic 89, 56, 110, 3, 0, (0 : Int), [688]),
  (.aload_n 0, 59, 0, 0, 0, (0 : Int), []),
  (.getfield 7, 60, 6, 0, 65, (0 : Int), [615, 1]),
  (.iload_n 1, 63, 0, 0, 0, (0 : Int), []),
  (.bipush 6, 64, 0, 0, 0, (0 : Int), []),
  (.invokestatic 89, 66, 110, 3, 0, (0 : Int), [688]),
  (.iload_n 2, 69, 0, 0, 0, (0 : Int), []),
  (.invokevirtual 92, 70, 109, 5, 6, (0 : Int), [801]),
  (.ireturn, 73, 0, 0, 0, (0 : Int), [])]
/-- 141: BranchedSumsModel.wrong(II)I, 3 arguments, 3 locals -/
def zX6_wrong : List zE := [(.iload_n 1, 0, 0, 0, 0, (0 : Int), []),
  (.ifCond .lt 26, 1, 17, 0, 0, (0 : Int), []),
  (.iload_n 2, 4, 0, 0, 0, (0 : Int), []),
  (.ifCond .lt 22, 5, 17, 0, 0, (0 : Int), []),
  (.iload_n 1, 8, 0, 0, 0, (0 : Int), []),
  (.iload_n 2, 9, 0, 0, 0, (0 : Int), []),
  (.ior, 10, 0, 0, 0, (0 : Int), []),
  (.aload_n 0, 11, 0, 0, 0, (0 : Int), []),
  (.getfield 7, 12, 6, 0, 65, (0 : Int), [615, 1]),
  (.iconst 0, 15, 0, 0, 0, (0 : Int), []),
  (.iaload, 16, 0, 0, 0, (0 : Int), []),
  (.ishr, 17, 0, 0, 0, (0 : Int), []),
  (.ifCond .ne 9, 18, 17, 0, 0, (0 : Int), []),
  (.iload_n 1, 21, 0, 0, 0, (0 : Int), []),
  (.iload_n 2, 22, 0, 0, 0, (0 : Int), []),
  (.iand, 23, 0, 0, 0, (0 : Int), []),
  (.ifCond .eq 6, 24, 19, 0, 0, (0 : Int), []),
  (.bipush (-2), 27, 0, 0, 0, (0 : Int), []),
  (.ireturn, 29, 0, 0, 0, (0 : Int), []),
  (.aload_n 0, 30, 0, 0, 0, (0 : Int), []),
  (.getfield 7, 31, 6, 0, 65, (0 : Int), [615, 1]),
  (.iload_n 1, 34, 0, 0, 0, (0 : Int), []),
  (.invokestatic 70, 35, 99, 2, 0, (0 : Int), [769]),
  (.ifCond .eq 7, 38, 26, 0, 0, (0 : Int), []),
  (.iconst 0, 41, 0, 0, 0, (0 : Int), []),
  (.goto 5, 42, 27, 0, 0, (0 : Int), []),
  (.bipush (-4), 45, 0, 0, 0, (0 : Int), []),
  (.ireturn, 47, 0, 0, 0, (0 : Int), [])]
/-- 142: BranchedSumsModel.boundOf(II)I, 3 arguments, 4 locals -/
def zX6_boundOf : List zE := [(.aload_n 0, 0, 0, 0, 0, (0 : Int), []),
  (.iload_n 1, 1, 0, 0, 0, (0 : Int), []),
  (.iload_n 2, 2, 0, 0, 0, (0 : Int), []),
  (.invokevirtual 172, 3, 141, 3, 6, (0 : Int), [865]),
  (.istore_n 3, 6, 0, 0, 0, (0 : Int), []),
  (.aload_n 0, 7, 0, 0, 0, (0 : Int), []),
  (.invokevirtual 139, 8, 97, 1, 6, (0 : Int), [754]),
  (.iload_n 3, 11, 0, 0, 0, (0 : Int), []),
  (.ifCond .ne 16, 12, 16, 0, 0, (0 : Int), []),
  (.aload_n 0, 15, 0, 0, 0, (0 : Int), []),
  (.aload_n 0, 16, 0, 0, 0, (0 : Int), []),
  (.getfield 7, 17, 6, 0, 65, (0 : Int), [615, 1]),
  (.iload_n 1, 20, 0, 0, 0, (0 : Int), []),
  (.iload_n 2, 21, 0, 0, 0, (0 : Int), []),
  (.invokevirtual 74, 22, 102, 4, 6, (0 : Int), [775]),
  (.goto 4, 25, 17, 0, 0, (0 : Int), []),
  (.iload_n 3, 28, 0, 0, 0, (0 : Int), []),
  (.ireturn, 29, 0, 0, 0, (0 : Int), [])]
/-- 143: BranchedSumsModel.heelOf(II)I, 3 arguments, 4 locals -/
def zX6_heelOf : List zE := [(.aload_n 0, 0, 0, 0, 0, (0 : Int), []),
  (.iload_n 1, 1, 0, 0, 0, (0 : Int), []),
  (.iload_n 2, 2, 0, 0, 0, (0 : Int), []),
  (.invokevirtual 172, 3, 141, 3, 6, (0 : Int), [865]),
  (.istore_n 3, 6, 0, 0, 0, (0 : Int), []),
  (.aload_n 0, 7, 0, 0, 0, (0 : Int), []),
  (.invokevirtual 139, 8, 97, 1, 6, (0 : Int), [754]),
  (.iload_n 3, 11, 0, 0, 0, (0 : Int), []),
  (.ifCond .ne 16, 12, 16, 0, 0, (0 : Int), []),
  (.aload_n 0, 15, 0, 0, 0, (0 : Int), []),
  (.aload_n 0, 16, 0, 0, 0, (0 : Int), []),
  (.getfield 7, 17, 6, 0, 65, (0 : Int), [615, 1]),
  (.iload_n 1, 20, 0, 0, 0, (0 : Int), []),
  (.iload_n 2, 21, 0, 0, 0, (0 : Int), []),
  (.invokevirtual 64, 22, 103, 4, 6, (0 : Int), [797]),
  (.goto 4, 25, 17, 0, 0, (0 : Int), []),
  (.iload_n 3, 28, 0, 0, 0, (0 : Int), []),
  (.ireturn, 29, 0, 0, 0, (0 : Int), [])]
/-- 144: BranchedSumsModel.bestSum()I, 1 arguments, 4 locals -/
def zX6_bestSum : List zE := [(.iconst 0, 0, 0, 0, 0, (0 : Int), []),
  (.istore_n 1, 1, 0, 0, 0, (0 : Int), []),
  (.iconst 0, 2, 0, 0, 0, (0 : Int), []),
  (.istore_n 2, 3, 0, 0, 0, (0 : Int), []),
  (.iload_n 2, 4, 0, 0, 0, (0 : Int), []),
  (.iconst 1, 5, 0, 0, 0, (0 : Int), []),
  (.aload_n 0, 6, 0, 0, 0, (0 : Int), []),
  (.getfield 7, 7, 6, 0, 65, (0 : Int), [615, 1]),
  (.iconst 0, 10, 0, 0, 0, (0 : Int), []),
  (.iaload, 11, 0, 0, 0, (0 : Int), []),
  (.ishl, 12, 0, 0, 0, (0 : Int), []),
  (.if_icmp .ge 46, 13, 34, 0, 0, (0 : Int), []),
  (.aload_n 0, 16, 0, 0, 0, (0 : Int), []),
  (.getfield 7, 17, 6, 0, 65, (0 : Int), [615, 1]),
  (.iload_n 2, 20, 0, 0, 0, (0 : Int), []),
  (.invokestatic 70, 21, 99, 2, 0, (0 : Int), [769]),
  (.ifCond .eq 16, 24, 23, 0, 0, (0 : Int), []),
  (.aload_n 0, 27, 0, 0, 0, (0 : Int), []),
  (.getfield 7, 28, 6, 0, 65, (0 : Int), [615, 1]),
  (.bipush 9, 31, 0, 0, 0, (0 : Int), []),
  (.iload_n 2, 33, 0, 0, 0, (0 : Int), []),
  (.invokestatic 54, 34, 98, 3, 0, (0 : Int), [772]),
  (.goto 4, 37, 24, 0, 0, (0 : Int), []),
  (.iconst 0, 40, 0, 0, 0, (0 : Int), []),
  (.istore_n 3, 41, 0, 0, 0, (0 : Int), []),
  (.iload_n 3, 42, 0, 0, 0, (0 : Int), []),
  (.iload_n 1, 43, 0, 0, 0, (0 : Int), []),
  (.if_icmp .le 7, 44, 30, 0, 0, (0 : Int), []),
  (.iload_n 3, 47, 0, 0, 0, (0 : Int), []),
  (.goto 4, 48, 31, 0, 0, (0 : Int), []),
  (.iload_n 1, 51, 0, 0, 0, (0 : Int), []),
  (.istore_n 1, 52, 0, 0, 0, (0 : Int), []),
  (.iinc 2 1, 53, 0, 0, 0, (0 : Int), []),
  (.goto (-52), 56, 4, 0, 0, (0 : Int), []),
  (.iload_n 1, 59, 0, 0, 0, (0 : Int), []),
  (.ireturn, 60, 0, 0, 0, (0 : Int), [])]
/-- 145: BranchedSumsModel.gap()I, 1 arguments, 4 locals -/
def zX6_gap : List zE := [(.aload_n 0, 0, 0, 0, 0, (0 : Int), []),
  (.getfield 7, 1, 6, 0, 65, (0 : Int), [615, 1]),
  (.bipush 7, 4, 0, 0, 0, (0 : Int), []),
  (.iaload, 6, 0, 0, 0, (0 : Int), []),
  (.istore_n 1, 7, 0, 0, 0, (0 : Int), []),
  (.iconst 0, 8, 0, 0, 0, (0 : Int), []),
  (.istore_n 2, 9, 0, 0, 0, (0 : Int), []),
  (.iload_n 2, 10, 0, 0, 0, (0 : Int), []),
  (.aload_n 0, 11, 0, 0, 0, (0 : Int), []),
  (.getfield 7, 12, 6, 0, 65, (0 : Int), [615, 1]),
  (.iconst 5, 15, 0, 0, 0, (0 : Int), []),
  (.iaload, 16, 0, 0, 0, (0 : Int), []),
  (.if_icmp .ge 58, 17, 42, 0, 0, (0 : Int), []),
  (.aload_n 0, 20, 0, 0, 0, (0 : Int), []),
  (.getfield 7, 21, 6, 0, 65, (0 : Int), [615, 1]),
  (.iload_n 2, 24, 0, 0, 0, (0 : Int), []),
  (.iconst 4, 25, 0, 0, 0, (0 : Int), []),
  (.invokestatic 89, 26, 110, 3, 0, (0 : Int), [688]),
  (.ifCond .ne 20, 29, 28, 0, 0, (0 : Int), []),
  (.aload_n 0, 32, 0, 0, 0, (0 : Int), []),
  (.getfield 7, 33, 6, 0, 65, (0 : Int), [615, 1]),
  (.iload_n 2, 36, 0, 0, 0, (0 : Int), []),
  (.iconst 3, 37, 0, 0, 0, (0 : Int), []),
  (.invokestatic 89, 38, 110, 3, 0, (0 : Int), [688]),
  (.iload_n 1, 41, 0, 0, 0, (0 : Int), []),
  (.if_icmp .le 7, 42, 28, 0, 0, (0 : Int), []),
  (.iconst 1, 45, 0, 0, 0, (0 : Int), []),
  (.goto 4, 46, 29, 0, 0, (0 : Int), []),
  (.iconst 0, 49, 0, 0, 0, (0 : Int), []),
  (.istore_n 3, 50, 0, 0, 0, (0 : Int), []),
  (.iload_n 3, 51, 0, 0, 0, (0 : Int), []),
  (.ifCond .eq 15, 52, 38, 0, 0, (0 : Int), []),
  (.aload_n 0, 55, 0, 0, 0, (0 : Int), []),
  (.getfield 7, 56, 6, 0, 65, (0 : Int), [615, 1]),
  (.iload_n 2, 59, 0, 0, 0, (0 : Int), []),
  (.iconst 3, 60, 0, 0, 0, (0 : Int), []),
  (.invokestatic 89, 61, 110, 3, 0, (0 : Int), [688]),
  (.goto 4, 64, 39, 0, 0, (0 : Int), []),
  (.iload_n 1, 67, 0, 0, 0, (0 : Int), []),
  (.istore_n 1, 68, 0, 0, 0, (0 : Int), []),
  (.iinc 2 1, 69, 0, 0, 0, (0 : Int), []),
  (.goto (-62), 72, 7, 0, 0, (0 : Int), []),
  (.iload_n 1, 75, 0, 0, 0, (0 : Int), []),
  (.aload_n 0, 76, 0, 0, 0, (0 : Int), []),
  (.getfield 7, 77, 6, 0, 65, (0 : Int), [615, 1]),
  (.bipush 7, 80, 0, 0, 0, (0 : Int), []),
  (.iaload, 82, 0, 0, 0, (0 : Int), []),
  (.isub, 83, 0, 0, 0, (0 : Int), []),
  (.ireturn, 84, 0, 0, 0, (0 : Int), [])]
/-- 146: BranchedSumsModel.ofSearch(I)I, 2 arguments, 2 locals -/
def zX6_ofSearch : List zE := [(.aload_n 0, 0, 0, 0, 0, (0 : Int), []),
  (.getfield 7, 1, 6, 0, 65, (0 : Int), [615, 1]),
  (.iconst 4, 4, 0, 0, 0, (0 : Int), []),
  (.iaload, 5, 0, 0, 0, (0 : Int), []),
  (.ifCond .ne 6, 6, 7, 0, 0, (0 : Int), []),
  (.bipush (-5), 9, 0, 0, 0, (0 : Int), []),
  (.ireturn, 11, 0, 0, 0, (0 : Int), []),
  (.iload_n 1, 12, 0, 0, 0, (0 : Int), []),
  (.bipush 8, 13, 0, 0, 0, (0 : Int), []),
  (.if_icmp .ne 13, 15, 15, 0, 0, (0 : Int), []),
  (.aload_n 0, 18, 0, 0, 0, (0 : Int), []),
  (.getfield 7, 19, 6, 0, 65, (0 : Int), [615, 1]),
  (.bipush 7, 22, 0, 0, 0, (0 : Int), []),
  (.iaload, 24, 0, 0, 0, (0 : Int), []),
  (.goto 23, 25, 25, 0, 0, (0 : Int), []),
  (.iload_n 1, 28, 0, 0, 0, (0 : Int), []),
  (.bipush 9, 29, 0, 0, 0, (0 : Int), []),
  (.if_icmp .ne 13, 31, 23, 0, 0, (0 : Int), []),
  (.aload_n 0, 34, 0, 0, 0, (0 : Int), []),
  (.getfield 7, 35, 6, 0, 65, (0 : Int), [615, 1]),
  (.bipush 8, 38, 0, 0, 0, (0 : Int), []),
  (.iaload, 40, 0, 0, 0, (0 : Int), []),
  (.goto 7, 41, 25, 0, 0, (0 : Int), []),
  (.aload_n 0, 44, 0, 0, 0, (0 : Int), []),
  (.invokevirtual 175, 45, 145, 1, 6, (0 : Int), [885]),
  (.ireturn, 48, 0, 0, 0, (0 : Int), [])]
/-- 147: BranchedSumsModel.count(I)I, 2 arguments, 2 locals -/
def zX6_count : List zE := [(.iload_n 1, 0, 0, 0, 0, (0 : Int), []),
  (.tableswitch 173 0 16 #[83, 83, 90, 95, 95, 106, 119, 126, 135, 135, 135, 141, 149, 149, 149, 163, 168], 1, 0, 0, 0, (0 : Int), [60, 2, 2, 7, 10, 10, 19, 26, 31, 36, 36, 36, 40, 45, 45, 45, 54, 57]),
  (.aload_n 0, 84, 0, 0, 0, (0 : Int), []),
  (.getfield 7, 85, 6, 0, 65, (0 : Int), [615, 1]),
  (.iload_n 1, 88, 0, 0, 0, (0 : Int), []),
  (.iaload, 89, 0, 0, 0, (0 : Int), []),
  (.ireturn, 90, 0, 0, 0, (0 : Int), []),
  (.aload_n 0, 91, 0, 0, 0, (0 : Int), []),
  (.invokevirtual 135, 92, 122, 1, 6, (0 : Int), [735]),
  (.ireturn, 95, 0, 0, 0, (0 : Int), []),
  (.aload_n 0, 96, 0, 0, 0, (0 : Int), []),
  (.getfield 7, 97, 6, 0, 65, (0 : Int), [615, 1]),
  (.iconst 2, 100, 0, 0, 0, (0 : Int), []),
  (.iload_n 1, 101, 0, 0, 0, (0 : Int), []),
  (.iadd, 102, 0, 0, 0, (0 : Int), []),
  (.iconst 3, 103, 0, 0, 0, (0 : Int), []),
  (.isub, 104, 0, 0, 0, (0 : Int), []),
  (.iaload, 105, 0, 0, 0, (0 : Int), []),
  (.ireturn, 106, 0, 0, 0, (0 : Int), []),
  (.aload_n 0, 107, 0, 0, 0, (0 : Int), []),
  (.invokevirtual 103, 108, 115, 1, 6, (0 : Int), [681]),
  (.ifCond .eq 7, 111, 24, 0, 0, (0 : Int), []),
  (.iconst 1, 114, 0, 0, 0, (0 : Int), []),
  (.goto 4, 115, 25, 0, 0, (0 : Int), []),
  (.iconst 0, 118, 0, 0, 0, (0 : Int), []),
  (.ireturn, 119, 0, 0, 0, (0 : Int), []),
  (.aload_n 0, 120, 0, 0, 0, (0 : Int), []),
  (.getfield 7, 121, 6, 0, 65, (0 : Int), [615, 1]),
  (.iconst 5, 124, 0, 0, 0, (0 : Int), []),
  (.iaload, 125, 0, 0, 0, (0 : Int), []),
  (.ireturn, 126, 0, 0, 0, (0 : Int), []),
  (.aload_n 0, 127, 0, 0, 0, (0 : Int), []),
  (.getfield 7, 128, 6, 0, 65, (0 : Int), [615, 1]),
  (.iconst 0, 131, 0, 0, 0, (0 : Int), []),
  (.invokestatic 100, 132, 111, 2, 0, (0 : Int), [685]),
  (.ireturn, 135, 0, 0, 0, (0 : Int), []),
  (.aload_n 0, 136, 0, 0, 0, (0 : Int), []),
  (.iload_n 1, 137, 0, 0, 0, (0 : Int), []),
  (.invokevirtual 178, 138, 146, 2, 6, (0 : Int), [881]),
  (.ireturn, 141, 0, 0, 0, (0 : Int), []),
  (.aload_n 0, 142, 0, 0, 0, (0 : Int), []),
  (.getfield 7, 143, 6, 0, 65, (0 : Int), [615, 1]),
  (.bipush 6, 146, 0, 0, 0, (0 : Int), []),
  (.iaload, 148, 0, 0, 0, (0 : Int), []),
  (.ireturn, 149, 0, 0, 0, (0 : Int), []),
  (.aload_n 0, 150, 0, 0, 0, (0 : Int), []),
  (.getfield 7, 151, 6, 0, 65, (0 : Int), [615, 1]),
  (.iconst 1, 154, 0, 0, 0, (0 : Int), []),
  (.iload_n 1, 155, 0, 0, 0, (0 : Int), []),
  (.iadd, 156, 0, 0, 0, (0 : Int), []),
  (.bipush 12, 157, 0, 0, 0, (0 : Int), []),
  (.isub, 159, 0, 0, 0, (0 : Int), []),
  (.invokestatic 100, 160, 111, 2, 0, (0 : Int), [685]),
  (.ireturn, 163, 0, 0, 0, (0 : Int), []),
  (.aload_n 0, 164, 0, 0, 0, (0 : Int), []),
  (.getfield 35, 165, 6, 3, 0, (0 : Int), [618]),
  (.ireturn, 168, 0, 0, 0, (0 : Int), []),
  (.aload_n 0, 169, 0, 0, 0, (0 : Int), []),
  (.getfield 153, 170, 6, 7, 0, (0 : Int), [622]),
  (.ireturn, 173, 0, 0, 0, (0 : Int), []),
  (.bipush (-2), 174, 0, 0, 0, (0 : Int), []),
  (.ireturn, 176, 0, 0, 0, (0 : Int), [])]
/-- 148: java/lang/Integer.bitCount(I)I, 1 arguments, 1 locals -/
def zJ6_bitCount_0f7a4 : List zE := [(.iload_n 0, 0, 0, 0, 0, (0 : Int), []),
  (.iload_n 0, 1, 0, 0, 0, (0 : Int), []),
  (.iconst 1, 2, 0, 0, 0, (0 : Int), []),
  (.iushr, 3, 0, 0, 0, (0 : Int), []),
  (.ldc_w 265, 4, 0, 0, 0, (1431655765 : Int), [378]),
  (.iand, 7, 0, 0, 0, (0 : Int), []),
  (.isub, 8, 0, 0, 0, (0 : Int), []),
  (.istore_n 0, 9, 0, 0, 0, (0 : Int), []),
  (.iload_n 0, 10, 0, 0, 0, (0 : Int), []),
  (.ldc_w 266, 11, 0, 0, 0, (858993459 : Int), [379]),
  (.iand, 14, 0, 0, 0, (0 : Int), []),
  (.iload_n 0, 15, 0, 0, 0, (0 : Int), []),
  (.iconst 2, 16, 0, 0, 0, (0 : Int), []),
  (.iushr, 17, 0, 0, 0, (0 : Int), []),
  (.ldc_w 266, 18, 0, 0, 0, (858993459 : Int), [379]),
  (.iand, 21, 0, 0, 0, (0 : Int), []),
  (.iadd, 22, 0, 0, 0, (0 : Int), []),
  (.istore_n 0, 23, 0, 0, 0, (0 : Int), []),
  (.iload_n 0, 24, 0, 0, 0, (0 : Int), []),
  (.iload_n 0, 25, 0, 0, 0, (0 : Int), []),
  (.iconst 4, 26, 0, 0, 0, (0 : Int), []),
  (.iushr, 27, 0, 0, 0, (0 : Int), []),
  (.iadd, 28, 0, 0, 0, (0 : Int), []),
  (.ldc_w 267, 29, 0, 0, 0, (252645135 : Int), [380]),
  (.iand, 32, 0, 0, 0, (0 : Int), []),
  (.istore_n 0, 33, 0, 0, 0, (0 : Int), []),
  (.iload_n 0, 34, 0, 0, 0, (0 : Int), []),
  (.iload_n 0, 35, 0, 0, 0, (0 : Int), []),
  (.bipush 8, 36, 0, 0, 0, (0 : Int), []),
  (.iushr, 38, 0, 0, 0, (0 : Int), []),
  (.iadd, 39, 0, 0, 0, (0 : Int), []),
  (.istore_n 0, 40, 0, 0, 0, (0 : Int), []),
  (.iload_n 0, 41, 0, 0, 0, (0 : Int), []),
  (.iload_n 0, 42, 0, 0, 0, (0 : Int), []),
  (.bipush 16, 43, 0, 0, 0, (0 : Int), []),
  (.iushr, 45, 0, 0, 0, (0 : Int), []),
  (.iadd, 46, 0, 0, 0, (0 : Int), []),
  (.istore_n 0, 47, 0, 0, 0, (0 : Int), []),
  (.iload_n 0, 48, 0, 0, 0, (0 : Int), []),
  (.bipush 63, 49, 0, 0, 0, (0 : Int), []),
  (.iand, 51, 0, 0, 0, (0 : Int), []),
  (.ireturn, 52, 0, 0, 0, (0 : Int), [])]
def zMT : List (List zE × Nat × Nat) := [(zX0_copyFrom, 2, 2), (zX0_knows, 2, 2), (zX0_append, 4, 6), (zX0_drop, 2, 5), (zX0_turnBar, 3, 3), (zX0_pairs, 1, 3), (zX0_sortByRatio, 1, 3), (zX0_isAhead, 3, 3), (zX0_placeOf, 2, 3), (zX0_canFix, 3, 4), (zX0_isPossible, 2, 2), (zX0_barredBy, 2, 4), (zX0_freeThings, 3, 7), (zX0_bound, 3, 6), (zX0_wholeThings, 3, 7), (zX0_firstByRatio, 2, 4), (zX0_shareOf, 3, 4), (zX0_heel, 3, 9), (zX0_thingToBranch, 4, 6), (zX0_heaviest, 2, 4), (zX0_bestByTrials, 4, 13), (zX1_push, 2, 3), (zX1_pop, 2, 3), (zX1_stateAt, 2, 3), (zX2_copyFrom, 2, 3), (zX2_knows, 2, 2), (zX2_append, 7, 7), (zX2_part, 3, 3), (zX2_how, 2, 2), (zX2_from, 2, 2), (zX2_bound, 2, 2), (zX2_in, 2, 2), (zX2_out, 2, 2), (zX2_fixed, 2, 2), (zX2_settle, 3, 3), (zX2_giveUpOpen, 1, 2), (zX2_countOf, 2, 4), (zX2_nextOpen, 2, 4), (zX2_goesBefore, 4, 4), (zX3_copyFrom, 2, 2), (zX3_goesOn, 1, 1), (zX3_forgetSearch, 1, 1), (zX3_openRoot, 1, 1), (zX3_gap, 1, 2), (zX3_takeStep, 2, 7), (zX3_resultFor, 2, 5), (zX3_makeChild, 5, 6), (zX4_append, 2, 2), (zX4_read, 1, 2), (zX4_readThing, 1, 6), (zX4_take, 2, 3), (zX4_takeNumber, 3, 6), (zX4_characterHere, 1, 1), (zX4_barsTooFar, 2, 3), (zX5_add, 3, 3), (zX5_addAll, 1, 3), (zX5_remove, 2, 2), (zX5_bar, 4, 4), (zX5_setRoom, 2, 3), (zX5_set, 3, 4), (zX5_begin, 1, 1), (zX5_step, 2, 2), (zX5_dive, 1, 1), (zX5_giveUp, 1, 2), (zX5_type, 2, 2), (zX5_clearText, 1, 2), (zX5_undo, 1, 1), (zX5_keep, 1, 1), (zX5_restore, 1, 1), (zX5_thing, 3, 3), (zX5_node, 3, 4), (zX5_next, 1, 1), (zX5_branchOf, 3, 4), (zX5_boundOf, 3, 3), (zX5_heelOf, 3, 3), (zX5_bestSum, 1, 1), (zX5_count, 2, 2), (zX5_countOfSearch, 2, 3), (zX5_prepareForChange, 1, 1), (zX5_goThrough, 4, 7), (zX5_bestFrom, 4, 7), (zX5_isWithin, 3, 3), (zX5_has, 2, 2), (zX5_at, 2, 2), (zX5_put, 3, 3), (zX5_sumOf, 2, 4), (zX5_copyRow, 2, 2), (zX6_in, 3, 3), (zX6_isThing, 2, 2), (zX6_isNode, 2, 2), (zX6_ones, 1, 3), (zX6_copies, 4, 5), (zX6_records, 1, 2), (zX6_undo, 1, 1), (zX6_keep, 1, 1), (zX6_restore, 1, 1), (zX6_place, 2, 6), (zX6_sorts, 1, 2), (zX6_sum, 3, 5), (zX6_isPossible, 2, 4), (zX6_free, 3, 7), (zX6_split, 4, 8), (zX6_bound, 4, 9), (zX6_heel, 4, 10), (zX6_first, 3, 4), (zX6_byParts, 4, 7), (zX6_heaviest, 2, 4), (zX6_child, 4, 4), (zX6_byTrials, 4, 14), (zX6_branch, 5, 5), (zX6_of, 3, 3), (zX6_many, 2, 4), (zX6_makes, 5, 8), (zX6_taken, 2, 5), (zX6_takes, 3, 7), (zX6_goesOn, 1, 1), (zX6_forgets, 1, 1), (zX6_adds, 3, 4), (zX6_add, 3, 3), (zX6_bars, 4, 4), (zX6_addAll, 1, 4), (zX6_remove, 2, 4), (zX6_pairs, 1, 3), (zX6_bar, 4, 4), (zX6_setRoom, 2, 3), (zX6_set, 3, 4), (zX6_begin, 1, 1), (zX6_walks, 4, 7), (zX6_step, 2, 2), (zX6_dive, 1, 1), (zX6_giveUp, 1, 3), (zX6_type, 2, 2), (zX6_clearText, 1, 2), (zX6_isAt, 3, 3), (zX6_isNumber, 3, 3), (zX6_isPart, 1, 1), (zX6_isText, 1, 2), (zX6_thing, 3, 3), (zX6_node, 3, 3), (zX6_next, 1, 1), (zX6_branchOf, 3, 3), (zX6_wrong, 3, 3), (zX6_boundOf, 3, 4), (zX6_heelOf, 3, 4), (zX6_bestSum, 1, 4), (zX6_gap, 1, 4), (zX6_ofSearch, 2, 2), (zX6_count, 2, 2), (zJ6_bitCount_0f7a4, 1, 1)]
theorem zm_X0_copyFrom : zMT[0]? = some (zX0_copyFrom, 2, 2) := rfl
theorem zm_X0_knows : zMT[1]? = some (zX0_knows, 2, 2) := rfl
theorem zm_X0_append : zMT[2]? = some (zX0_append, 4, 6) := rfl
theorem zm_X0_drop : zMT[3]? = some (zX0_drop, 2, 5) := rfl
theorem zm_X0_turnBar : zMT[4]? = some (zX0_turnBar, 3, 3) := rfl
theorem zm_X0_pairs : zMT[5]? = some (zX0_pairs, 1, 3) := rfl
theorem zm_X0_sortByRatio : zMT[6]? = some (zX0_sortByRatio, 1, 3) := rfl
theorem zm_X0_isAhead : zMT[7]? = some (zX0_isAhead, 3, 3) := rfl
theorem zm_X0_placeOf : zMT[8]? = some (zX0_placeOf, 2, 3) := rfl
theorem zm_X0_canFix : zMT[9]? = some (zX0_canFix, 3, 4) := rfl
theorem zm_X0_isPossible : zMT[10]? = some (zX0_isPossible, 2, 2) := rfl
theorem zm_X0_barredBy : zMT[11]? = some (zX0_barredBy, 2, 4) := rfl
theorem zm_X0_freeThings : zMT[12]? = some (zX0_freeThings, 3, 7) := rfl
theorem zm_X0_bound : zMT[13]? = some (zX0_bound, 3, 6) := rfl
theorem zm_X0_wholeThings : zMT[14]? = some (zX0_wholeThings, 3, 7) := rfl
theorem zm_X0_firstByRatio : zMT[15]? = some (zX0_firstByRatio, 2, 4) := rfl
theorem zm_X0_shareOf : zMT[16]? = some (zX0_shareOf, 3, 4) := rfl
theorem zm_X0_heel : zMT[17]? = some (zX0_heel, 3, 9) := rfl
theorem zm_X0_thingToBranch : zMT[18]? = some (zX0_thingToBranch, 4, 6) := rfl
theorem zm_X0_heaviest : zMT[19]? = some (zX0_heaviest, 2, 4) := rfl
theorem zm_X0_bestByTrials : zMT[20]? = some (zX0_bestByTrials, 4, 13) := rfl
theorem zm_X1_push : zMT[21]? = some (zX1_push, 2, 3) := rfl
theorem zm_X1_pop : zMT[22]? = some (zX1_pop, 2, 3) := rfl
theorem zm_X1_stateAt : zMT[23]? = some (zX1_stateAt, 2, 3) := rfl
theorem zm_X2_copyFrom : zMT[24]? = some (zX2_copyFrom, 2, 3) := rfl
theorem zm_X2_knows : zMT[25]? = some (zX2_knows, 2, 2) := rfl
theorem zm_X2_append : zMT[26]? = some (zX2_append, 7, 7) := rfl
theorem zm_X2_part : zMT[27]? = some (zX2_part, 3, 3) := rfl
theorem zm_X2_how : zMT[28]? = some (zX2_how, 2, 2) := rfl
theorem zm_X2_from : zMT[29]? = some (zX2_from, 2, 2) := rfl
theorem zm_X2_bound : zMT[30]? = some (zX2_bound, 2, 2) := rfl
theorem zm_X2_in : zMT[31]? = some (zX2_in, 2, 2) := rfl
theorem zm_X2_out : zMT[32]? = some (zX2_out, 2, 2) := rfl
theorem zm_X2_fixed : zMT[33]? = some (zX2_fixed, 2, 2) := rfl
theorem zm_X2_settle : zMT[34]? = some (zX2_settle, 3, 3) := rfl
theorem zm_X2_giveUpOpen : zMT[35]? = some (zX2_giveUpOpen, 1, 2) := rfl
theorem zm_X2_countOf : zMT[36]? = some (zX2_countOf, 2, 4) := rfl
theorem zm_X2_nextOpen : zMT[37]? = some (zX2_nextOpen, 2, 4) := rfl
theorem zm_X2_goesBefore : zMT[38]? = some (zX2_goesBefore, 4, 4) := rfl
theorem zm_X3_copyFrom : zMT[39]? = some (zX3_copyFrom, 2, 2) := rfl
theorem zm_X3_goesOn : zMT[40]? = some (zX3_goesOn, 1, 1) := rfl
theorem zm_X3_forgetSearch : zMT[41]? = some (zX3_forgetSearch, 1, 1) := rfl
theorem zm_X3_openRoot : zMT[42]? = some (zX3_openRoot, 1, 1) := rfl
theorem zm_X3_gap : zMT[43]? = some (zX3_gap, 1, 2) := rfl
theorem zm_X3_takeStep : zMT[44]? = some (zX3_takeStep, 2, 7) := rfl
theorem zm_X3_resultFor : zMT[45]? = some (zX3_resultFor, 2, 5) := rfl
theorem zm_X3_makeChild : zMT[46]? = some (zX3_makeChild, 5, 6) := rfl
theorem zm_X4_append : zMT[47]? = some (zX4_append, 2, 2) := rfl
theorem zm_X4_read : zMT[48]? = some (zX4_read, 1, 2) := rfl
theorem zm_X4_readThing : zMT[49]? = some (zX4_readThing, 1, 6) := rfl
theorem zm_X4_take : zMT[50]? = some (zX4_take, 2, 3) := rfl
theorem zm_X4_takeNumber : zMT[51]? = some (zX4_takeNumber, 3, 6) := rfl
theorem zm_X4_characterHere : zMT[52]? = some (zX4_characterHere, 1, 1) := rfl
theorem zm_X4_barsTooFar : zMT[53]? = some (zX4_barsTooFar, 2, 3) := rfl
theorem zm_X5_add : zMT[54]? = some (zX5_add, 3, 3) := rfl
theorem zm_X5_addAll : zMT[55]? = some (zX5_addAll, 1, 3) := rfl
theorem zm_X5_remove : zMT[56]? = some (zX5_remove, 2, 2) := rfl
theorem zm_X5_bar : zMT[57]? = some (zX5_bar, 4, 4) := rfl
theorem zm_X5_setRoom : zMT[58]? = some (zX5_setRoom, 2, 3) := rfl
theorem zm_X5_set : zMT[59]? = some (zX5_set, 3, 4) := rfl
theorem zm_X5_begin : zMT[60]? = some (zX5_begin, 1, 1) := rfl
theorem zm_X5_step : zMT[61]? = some (zX5_step, 2, 2) := rfl
theorem zm_X5_dive : zMT[62]? = some (zX5_dive, 1, 1) := rfl
theorem zm_X5_giveUp : zMT[63]? = some (zX5_giveUp, 1, 2) := rfl
theorem zm_X5_type : zMT[64]? = some (zX5_type, 2, 2) := rfl
theorem zm_X5_clearText : zMT[65]? = some (zX5_clearText, 1, 2) := rfl
theorem zm_X5_undo : zMT[66]? = some (zX5_undo, 1, 1) := rfl
theorem zm_X5_keep : zMT[67]? = some (zX5_keep, 1, 1) := rfl
theorem zm_X5_restore : zMT[68]? = some (zX5_restore, 1, 1) := rfl
theorem zm_X5_thing : zMT[69]? = some (zX5_thing, 3, 3) := rfl
theorem zm_X5_node : zMT[70]? = some (zX5_node, 3, 4) := rfl
theorem zm_X5_next : zMT[71]? = some (zX5_next, 1, 1) := rfl
theorem zm_X5_branchOf : zMT[72]? = some (zX5_branchOf, 3, 4) := rfl
theorem zm_X5_boundOf : zMT[73]? = some (zX5_boundOf, 3, 3) := rfl
theorem zm_X5_heelOf : zMT[74]? = some (zX5_heelOf, 3, 3) := rfl
theorem zm_X5_bestSum : zMT[75]? = some (zX5_bestSum, 1, 1) := rfl
theorem zm_X5_count : zMT[76]? = some (zX5_count, 2, 2) := rfl
theorem zm_X5_countOfSearch : zMT[77]? = some (zX5_countOfSearch, 2, 3) := rfl
theorem zm_X5_prepareForChange : zMT[78]? = some (zX5_prepareForChange, 1, 1) := rfl
theorem zm_X5_goThrough : zMT[79]? = some (zX5_goThrough, 4, 7) := rfl
theorem zm_X5_bestFrom : zMT[80]? = some (zX5_bestFrom, 4, 7) := rfl
theorem zm_X5_isWithin : zMT[81]? = some (zX5_isWithin, 3, 3) := rfl
theorem zm_X5_has : zMT[82]? = some (zX5_has, 2, 2) := rfl
theorem zm_X5_at : zMT[83]? = some (zX5_at, 2, 2) := rfl
theorem zm_X5_put : zMT[84]? = some (zX5_put, 3, 3) := rfl
theorem zm_X5_sumOf : zMT[85]? = some (zX5_sumOf, 2, 4) := rfl
theorem zm_X5_copyRow : zMT[86]? = some (zX5_copyRow, 2, 2) := rfl
theorem zm_X6_in : zMT[87]? = some (zX6_in, 3, 3) := rfl
theorem zm_X6_isThing : zMT[88]? = some (zX6_isThing, 2, 2) := rfl
theorem zm_X6_isNode : zMT[89]? = some (zX6_isNode, 2, 2) := rfl
theorem zm_X6_ones : zMT[90]? = some (zX6_ones, 1, 3) := rfl
theorem zm_X6_copies : zMT[91]? = some (zX6_copies, 4, 5) := rfl
theorem zm_X6_records : zMT[92]? = some (zX6_records, 1, 2) := rfl
theorem zm_X6_undo : zMT[93]? = some (zX6_undo, 1, 1) := rfl
theorem zm_X6_keep : zMT[94]? = some (zX6_keep, 1, 1) := rfl
theorem zm_X6_restore : zMT[95]? = some (zX6_restore, 1, 1) := rfl
theorem zm_X6_place : zMT[96]? = some (zX6_place, 2, 6) := rfl
theorem zm_X6_sorts : zMT[97]? = some (zX6_sorts, 1, 2) := rfl
theorem zm_X6_sum : zMT[98]? = some (zX6_sum, 3, 5) := rfl
theorem zm_X6_isPossible : zMT[99]? = some (zX6_isPossible, 2, 4) := rfl
theorem zm_X6_free : zMT[100]? = some (zX6_free, 3, 7) := rfl
theorem zm_X6_split : zMT[101]? = some (zX6_split, 4, 8) := rfl
theorem zm_X6_bound : zMT[102]? = some (zX6_bound, 4, 9) := rfl
theorem zm_X6_heel : zMT[103]? = some (zX6_heel, 4, 10) := rfl
theorem zm_X6_first : zMT[104]? = some (zX6_first, 3, 4) := rfl
theorem zm_X6_byParts : zMT[105]? = some (zX6_byParts, 4, 7) := rfl
theorem zm_X6_heaviest : zMT[106]? = some (zX6_heaviest, 2, 4) := rfl
theorem zm_X6_child : zMT[107]? = some (zX6_child, 4, 4) := rfl
theorem zm_X6_byTrials : zMT[108]? = some (zX6_byTrials, 4, 14) := rfl
theorem zm_X6_branch : zMT[109]? = some (zX6_branch, 5, 5) := rfl
theorem zm_X6_of : zMT[110]? = some (zX6_of, 3, 3) := rfl
theorem zm_X6_many : zMT[111]? = some (zX6_many, 2, 4) := rfl
theorem zm_X6_makes : zMT[112]? = some (zX6_makes, 5, 8) := rfl
theorem zm_X6_taken : zMT[113]? = some (zX6_taken, 2, 5) := rfl
theorem zm_X6_takes : zMT[114]? = some (zX6_takes, 3, 7) := rfl
theorem zm_X6_goesOn : zMT[115]? = some (zX6_goesOn, 1, 1) := rfl
theorem zm_X6_forgets : zMT[116]? = some (zX6_forgets, 1, 1) := rfl
theorem zm_X6_adds : zMT[117]? = some (zX6_adds, 3, 4) := rfl
theorem zm_X6_add : zMT[118]? = some (zX6_add, 3, 3) := rfl
theorem zm_X6_bars : zMT[119]? = some (zX6_bars, 4, 4) := rfl
theorem zm_X6_addAll : zMT[120]? = some (zX6_addAll, 1, 4) := rfl
theorem zm_X6_remove : zMT[121]? = some (zX6_remove, 2, 4) := rfl
theorem zm_X6_pairs : zMT[122]? = some (zX6_pairs, 1, 3) := rfl
theorem zm_X6_bar : zMT[123]? = some (zX6_bar, 4, 4) := rfl
theorem zm_X6_setRoom : zMT[124]? = some (zX6_setRoom, 2, 3) := rfl
theorem zm_X6_set : zMT[125]? = some (zX6_set, 3, 4) := rfl
theorem zm_X6_begin : zMT[126]? = some (zX6_begin, 1, 1) := rfl
theorem zm_X6_walks : zMT[127]? = some (zX6_walks, 4, 7) := rfl
theorem zm_X6_step : zMT[128]? = some (zX6_step, 2, 2) := rfl
theorem zm_X6_dive : zMT[129]? = some (zX6_dive, 1, 1) := rfl
theorem zm_X6_giveUp : zMT[130]? = some (zX6_giveUp, 1, 3) := rfl
theorem zm_X6_type : zMT[131]? = some (zX6_type, 2, 2) := rfl
theorem zm_X6_clearText : zMT[132]? = some (zX6_clearText, 1, 2) := rfl
theorem zm_X6_isAt : zMT[133]? = some (zX6_isAt, 3, 3) := rfl
theorem zm_X6_isNumber : zMT[134]? = some (zX6_isNumber, 3, 3) := rfl
theorem zm_X6_isPart : zMT[135]? = some (zX6_isPart, 1, 1) := rfl
theorem zm_X6_isText : zMT[136]? = some (zX6_isText, 1, 2) := rfl
theorem zm_X6_thing : zMT[137]? = some (zX6_thing, 3, 3) := rfl
theorem zm_X6_node : zMT[138]? = some (zX6_node, 3, 3) := rfl
theorem zm_X6_next : zMT[139]? = some (zX6_next, 1, 1) := rfl
theorem zm_X6_branchOf : zMT[140]? = some (zX6_branchOf, 3, 3) := rfl
theorem zm_X6_wrong : zMT[141]? = some (zX6_wrong, 3, 3) := rfl
theorem zm_X6_boundOf : zMT[142]? = some (zX6_boundOf, 3, 4) := rfl
theorem zm_X6_heelOf : zMT[143]? = some (zX6_heelOf, 3, 4) := rfl
theorem zm_X6_bestSum : zMT[144]? = some (zX6_bestSum, 1, 4) := rfl
theorem zm_X6_gap : zMT[145]? = some (zX6_gap, 1, 4) := rfl
theorem zm_X6_ofSearch : zMT[146]? = some (zX6_ofSearch, 2, 2) := rfl
theorem zm_X6_count : zMT[147]? = some (zX6_count, 2, 2) := rfl
theorem zm_J6_bitCount_0f7a4 : zMT[148]? = some (zJ6_bitCount_0f7a4, 1, 1) := rfl
end
section
/-- what holds of method m with calls at most d deep: from these arguments and this memory it ends with Q -/
def zC : Nat → zO
  | 0 => fun _ _ _ _ => False
  | d + 1 => fun m as g Q => ∃ M : List zE × Nat × Nat, zMT[m]? = some M ∧ (as.length = M.2.1 ∧ as.all (fun v => zcat v == 1) = true) ∧ zW M.1 (zC d) Q 0 (as ++ List.replicate (M.2.2 - M.2.1) zU) [] g
theorem zC_om : ∀ d, zOm (zC d)
  | 0 => fun _ _ _ _ _ _ h => h
  | d + 1 => fun _ _ _ _ _ hP h => by
    obtain ⟨M, h1, h2, h3⟩ := h
    exact ⟨M, h1, h2, zW_mono (zC_om d) hP h3⟩
theorem zC.go {d m : Nat} {as ls : List zV} {g : zM} {Q : zP} {cd : List zE} {n k : Nat} (hm : zMT[m]? = some (cd, n, k)) (hn : as.length = n ∧ as.all (fun v => zcat v == 1) = true) (hl : as ++ List.replicate (k - n) zU = ls) (h : zW cd (zC d) Q 0 ls [] g) : zC (d + 1) m as g Q := ⟨_, hm, hn, by subst hl; exact h⟩
theorem zC.q {d m : Nat} {as : List zV} {g : zM} {Q Q' : zP} (h : zC d m as g Q) (hQ : ∀ o g, Q o g → Q' o g) : zC d m as g Q' := zC_om d m as g Q Q' hQ h
end
section
/-! the machine's side of every method: name, bytes, what it answers, static or not, the places of its words (code, kind, initialized, selects) -/
abbrev zI5 : Type := MethodName × ByteArray × Option FieldType × Bool × List Nat
def zMI : List zI5 := [(yX0_copyFrom, cX0_copyFrom, none, false, [273, 271, 51, 272]),
  (yX0_knows, cX0_knows, (some .boolean), false, [360, 358, 51, 359]),
  (yX0_append, cX0_append, none, false, [299, 297, 51, 298]),
  (yX0_drop, cX0_drop, none, false, [364, 362, 51, 363]),
  (yX0_turnBar, cX0_turnBar, none, false, [309, 307, 51, 308]),
  (yX0_pairs, cX0_pairs, (some .int), false, [374, 372, 51, 373]),
  (yX0_sortByRatio, cX0_sortByRatio, none, false, [316, 315, 51, 4]),
  (yX0_isAhead, cX0_isAhead, (some .boolean), false, [320, 319, 51, 5]),
  (yX0_placeOf, cX0_placeOf, (some .int), false, [543, 541, 51, 542]),
  (yX0_canFix, cX0_canFix, (some .boolean), false, [582, 580, 51, 581]),
  (yX0_isPossible, cX0_isPossible, (some .boolean), false, [405, 403, 51, 404]),
  (yX0_barredBy, cX0_barredBy, (some .int), false, [412, 411, 51, 10]),
  (yX0_freeThings, cX0_freeThings, (some .int), false, [416, 415, 51, 11]),
  (yX0_bound, cX0_bound, (some .int), false, [401, 399, 51, 400]),
  (yX0_wholeThings, cX0_wholeThings, (some .int), false, [420, 419, 51, 12]),
  (yX0_firstByRatio, cX0_firstByRatio, (some .int), false, [424, 423, 51, 13]),
  (yX0_shareOf, cX0_shareOf, (some .int), false, [428, 427, 51, 14]),
  (yX0_heel, cX0_heel, (some .int), false, [463, 461, 51, 462]),
  (yX0_thingToBranch, cX0_thingToBranch, (some .int), false, [468, 466, 51, 467]),
  (yX0_heaviest, cX0_heaviest, (some .int), false, [472, 471, 51, 17]),
  (yX0_bestByTrials, cX0_bestByTrials, (some .int), false, [476, 475, 51, 18]),
  (yX1_push, cX1_push, none, false, [261, 259, 53, 260]),
  (yX1_pop, cX1_pop, none, false, [527, 525, 53, 526]),
  (yX1_stateAt, cX1_stateAt, (some (.object "BranchedSums$State")), false, [265, 264, 53, 3]),
  (yX2_copyFrom, cX2_copyFrom, none, false, [286, 284, 52, 285]),
  (yX2_knows, cX2_knows, (some .boolean), false, [551, 549, 52, 550]),
  (yX2_append, cX2_append, none, false, [432, 430, 52, 431]),
  (yX2_part, cX2_part, (some .int), false, [245, 244, 52, 0]),
  (yX2_how, cX2_how, (some .int), false, [241, 239, 52, 240]),
  (yX2_from, cX2_from, (some .int), false, [555, 553, 52, 554]),
  (yX2_bound, cX2_bound, (some .int), false, [253, 251, 52, 252]),
  (yX2_in, cX2_in, (some .int), false, [455, 453, 52, 454]),
  (yX2_out, cX2_out, (some .int), false, [459, 457, 52, 458]),
  (yX2_fixed, cX2_fixed, (some .int), false, [559, 557, 52, 558]),
  (yX2_settle, cX2_settle, none, false, [489, 487, 52, 488]),
  (yX2_giveUpOpen, cX2_giveUpOpen, none, false, [506, 504, 52, 505]),
  (yX2_countOf, cX2_countOf, (some .int), false, [502, 500, 52, 501]),
  (yX2_nextOpen, cX2_nextOpen, (some .int), false, [237, 235, 52, 236]),
  (yX2_goesBefore, cX2_goesBefore, (some .boolean), false, [249, 248, 52, 1]),
  (yX3_copyFrom, cX3_copyFrom, none, false, [269, 267, 50, 268]),
  (yX3_goesOn, cX3_goesOn, (some .boolean), false, [233, 231, 50, 232]),
  (yX3_forgetSearch, cX3_forgetSearch, none, false, [295, 293, 50, 294]),
  (yX3_openRoot, cX3_openRoot, none, false, [396, 394, 50, 395]),
  (yX3_gap, cX3_gap, (some .int), false, [608, 606, 50, 607]),
  (yX3_takeStep, cX3_takeStep, (some .int), false, [446, 444, 50, 445]),
  (yX3_resultFor, cX3_resultFor, (some .int), false, [450, 449, 50, 16]),
  (yX3_makeChild, cX3_makeChild, none, false, [484, 483, 50, 19]),
  (yX4_append, cX4_append, none, false, [515, 513, 54, 514]),
  (yX4_read, cX4_read, (some .int), false, [328, 326, 54, 327]),
  (yX4_readThing, cX4_readThing, (some .boolean), false, [332, 331, 54, 6]),
  (yX4_take, cX4_take, (some .boolean), false, [345, 344, 54, 9]),
  (yX4_takeNumber, cX4_takeNumber, (some .int), false, [336, 335, 54, 7]),
  (yX4_characterHere, cX4_characterHere, (some .char), false, [340, 339, 54, 8]),
  (yX4_barsTooFar, cX4_barsTooFar, (some .boolean), false, [350, 348, 54, 349]),
  (yX5_add, cX5_add, (some .int), false, [226, 224, 49, 225]),
  (yX5_addAll, cX5_addAll, (some .int), false, [324, 322, 49, 323]),
  (yX5_remove, cX5_remove, (some .int), false, [356, 354, 49, 355]),
  (yX5_bar, cX5_bar, (some .int), false, [368, 366, 49, 367]),
  (yX5_setRoom, cX5_setRoom, (some .int), false, [384, 382, 49, 383]),
  (yX5_set, cX5_set, (some .int), false, [388, 386, 49, 387]),
  (yX5_begin, cX5_begin, (some .int), false, [392, 390, 49, 391]),
  (yX5_step, cX5_step, (some .int), false, [437, 435, 49, 436]),
  (yX5_dive, cX5_dive, (some .int), false, [494, 492, 49, 493]),
  (yX5_giveUp, cX5_giveUp, (some .int), false, [498, 496, 49, 497]),
  (yX5_type, cX5_type, (some .int), false, [511, 509, 49, 510]),
  (yX5_clearText, cX5_clearText, (some .int), false, [519, 517, 49, 518]),
  (yX5_undo, cX5_undo, (some .int), false, [523, 521, 49, 522]),
  (yX5_keep, cX5_keep, (some .int), false, [531, 529, 49, 530]),
  (yX5_restore, cX5_restore, (some .int), false, [535, 533, 49, 534]),
  (yX5_thing, cX5_thing, (some .int), false, [539, 537, 49, 538]),
  (yX5_node, cX5_node, (some .int), false, [547, 545, 49, 546]),
  (yX5_next, cX5_next, (some .int), false, [567, 565, 49, 566]),
  (yX5_branchOf, cX5_branchOf, (some .int), false, [572, 570, 49, 571]),
  (yX5_boundOf, cX5_boundOf, (some .int), false, [578, 576, 49, 577]),
  (yX5_heelOf, cX5_heelOf, (some .int), false, [587, 585, 49, 586]),
  (yX5_bestSum, cX5_bestSum, (some .int), false, [592, 590, 49, 591]),
  (yX5_count, cX5_count, (some .int), false, [600, 598, 49, 599]),
  (yX5_countOfSearch, cX5_countOfSearch, (some .int), false, [604, 603, 49, 20]),
  (yX5_prepareForChange, cX5_prepareForChange, none, false, [257, 256, 49, 2]),
  (yX5_goThrough, cX5_goThrough, (some .int), false, [441, 440, 49, 15]),
  (yX5_bestFrom, cX5_bestFrom, (some .int), true, [595, 594, 49, 0]),
  (yX5_isWithin, cX5_isWithin, (some .boolean), true, [229, 228, 49, 0]),
  (yX5_has, cX5_has, (some .boolean), true, [305, 304, 49, 0]),
  (yX5_at, cX5_at, (some .int), true, [312, 311, 49, 0]),
  (yX5_put, cX5_put, none, true, [302, 301, 49, 0]),
  (yX5_sumOf, cX5_sumOf, (some .int), true, [408, 407, 49, 0]),
  (yX5_copyRow, cX5_copyRow, none, true, [276, 275, 49, 0]),
  (yX6_in, cX6_in, (some .boolean), true, [680, 679, 55, 0]),
  (yX6_isThing, cX6_isThing, (some .boolean), false, [730, 729, 55, 30]),
  (yX6_isNode, cX6_isNode, (some .boolean), false, [852, 851, 55, 44]),
  (yX6_ones, cX6_ones, (some .int), true, [741, 740, 55, 0]),
  (yX6_copies, cX6_copies, none, true, [661, 660, 55, 0]),
  (yX6_records, cX6_records, none, false, [673, 672, 55, 21]),
  (yX6_undo, cX6_undo, (some .int), false, [658, 656, 55, 657]),
  (yX6_keep, cX6_keep, (some .int), false, [665, 663, 55, 664]),
  (yX6_restore, cX6_restore, (some .int), false, [669, 667, 55, 668]),
  (yX6_place, cX6_place, (some .int), true, [760, 759, 55, 0]),
  (yX6_sorts, cX6_sorts, none, false, [757, 756, 55, 32]),
  (yX6_sum, cX6_sum, (some .int), true, [774, 773, 55, 0]),
  (yX6_isPossible, cX6_isPossible, (some .boolean), true, [771, 770, 55, 0]),
  (yX6_free, cX6_free, (some .int), true, [781, 780, 55, 0]),
  (yX6_split, cX6_split, (some .int), false, [812, 811, 55, 41]),
  (yX6_bound, cX6_bound, (some .int), false, [778, 777, 55, 35]),
  (yX6_heel, cX6_heel, (some .int), false, [800, 799, 55, 38]),
  (yX6_first, cX6_first, (some .int), false, [816, 815, 55, 42]),
  (yX6_byParts, cX6_byParts, (some .int), false, [808, 807, 55, 40]),
  (yX6_heaviest, cX6_heaviest, (some .int), true, [819, 818, 55, 0]),
  (yX6_child, cX6_child, (some .int), false, [768, 767, 55, 34]),
  (yX6_byTrials, cX6_byTrials, (some .int), false, [823, 822, 55, 43]),
  (yX6_branch, cX6_branch, (some .int), false, [804, 803, 55, 39]),
  (yX6_of, cX6_of, (some .int), true, [690, 689, 55, 0]),
  (yX6_many, cX6_many, (some .int), true, [687, 686, 55, 0]),
  (yX6_makes, cX6_makes, none, false, [764, 763, 55, 33]),
  (yX6_taken, cX6_taken, (some .int), true, [792, 791, 55, 0]),
  (yX6_takes, cX6_takes, (some .int), false, [796, 795, 55, 37]),
  (yX6_goesOn, cX6_goesOn, (some .boolean), false, [684, 683, 55, 22]),
  (yX6_forgets, cX6_forgets, none, false, [694, 693, 55, 23]),
  (yX6_adds, cX6_adds, (some .int), false, [698, 697, 55, 24]),
  (yX6_add, cX6_add, (some .int), false, [677, 675, 55, 676]),
  (yX6_bars, cX6_bars, none, false, [722, 721, 55, 29]),
  (yX6_addAll, cX6_addAll, (some .int), false, [702, 700, 55, 701]),
  (yX6_remove, cX6_remove, (some .int), false, [726, 724, 55, 725]),
  (yX6_pairs, cX6_pairs, (some .int), false, [738, 737, 55, 31]),
  (yX6_bar, cX6_bar, (some .int), false, [734, 732, 55, 733]),
  (yX6_setRoom, cX6_setRoom, (some .int), false, [745, 743, 55, 744]),
  (yX6_set, cX6_set, (some .int), false, [749, 747, 55, 748]),
  (yX6_begin, cX6_begin, (some .int), false, [753, 751, 55, 752]),
  (yX6_walks, cX6_walks, (some .int), false, [789, 788, 55, 36]),
  (yX6_step, cX6_step, (some .int), false, [785, 783, 55, 784]),
  (yX6_dive, cX6_dive, (some .int), false, [827, 825, 55, 826]),
  (yX6_giveUp, cX6_giveUp, (some .int), false, [832, 830, 55, 831]),
  (yX6_type, cX6_type, (some .int), false, [836, 834, 55, 835]),
  (yX6_clearText, cX6_clearText, (some .int), false, [840, 838, 55, 839]),
  (yX6_isAt, cX6_isAt, (some .boolean), false, [718, 717, 55, 28]),
  (yX6_isNumber, cX6_isNumber, (some .boolean), false, [714, 713, 55, 27]),
  (yX6_isPart, cX6_isPart, (some .boolean), false, [710, 709, 55, 26]),
  (yX6_isText, cX6_isText, (some .boolean), false, [706, 705, 55, 25]),
  (yX6_thing, cX6_thing, (some .int), false, [844, 842, 55, 843]),
  (yX6_node, cX6_node, (some .int), false, [848, 846, 55, 847]),
  (yX6_next, cX6_next, (some .int), false, [856, 854, 55, 855]),
  (yX6_branchOf, cX6_branchOf, (some .int), false, [860, 858, 55, 859]),
  (yX6_wrong, cX6_wrong, (some .int), false, [868, 867, 55, 45]),
  (yX6_boundOf, cX6_boundOf, (some .int), false, [864, 862, 55, 863]),
  (yX6_heelOf, cX6_heelOf, (some .int), false, [872, 870, 55, 871]),
  (yX6_bestSum, cX6_bestSum, (some .int), false, [876, 874, 55, 875]),
  (yX6_gap, cX6_gap, (some .int), false, [888, 887, 55, 47]),
  (yX6_ofSearch, cX6_ofSearch, (some .int), false, [884, 883, 55, 46]),
  (yX6_count, cX6_count, (some .int), false, [880, 878, 55, 879]),
  (yJ6_bitCount_0f7a4, cJ6_bitCount_0f7a4, (some .int), true, [377, 376, 58, 0])]
def zSY : List (Nat × Cond) := [(282, .native arraycopyName), (281, .static arraycopyName), (57, .initialized "java/lang/System"), (289, .static Lib.Math.max.name), (290, .code Lib.Math.max.name Lib.Math.max.code 2 (some .int)), (56, .initialized "java/lang/Math"), (278, .static Lib.Math.min.name), (279, .code Lib.Math.min.name Lib.Math.min.code 2 (some .int))]
end
section
/-! the small machine's values and memory as the machine's own: cells at addresses that are variables -/
abbrev zG : Type := va_G × (ClassId × ClassId × ClassId × ClassId) × (Nat → Nat)
def zrv (ad : Nat → Nat) (r : Option Nat) : Value := match r with
  | none => .null
  | some k => .ref (ad k)
def zv (ad : Nat → Nat) (v : zV) : Value := match v with
  | .inl x => .int (zJ x)
  | .inr (.inl r) => zrv ad r
  | .inr (.inr (.inl x)) => .long (zJL x)
  | .inr (.inr (.inr _)) => .null
/-- where a class's references go: to the cell so many further on; 0: a number -/
def zfo (c : Nat) : List Nat := [[1, 2, 3, 4, 0, 0], [1, 0, 0], [1, 0], [1, 6, 0, 0, 0, 0, 0], [1, 2, 3, 4, 0, 0, 0], [8, 16, 24, 1, 3, 0], [1, 2, 3, 0, 4, 0, 5, 0, 0, 0, 6, 0, 7]].getD c []
def zfl (ad : Nat → Nat) (r : Int → Int) (k c : Nat) : List Value := (List.range (zfo c).length).map (fun j => match (zfo c).getD j 0 with
  | 0 => .int (zJ (r j))
  | o + 1 => .ref (ad (k + (o + 1))))
def zer (Z : zG) (r : Int → Int) (k : Nat) : va_E := match zkd k with
  | (0, c) => .inr (c, zfl Z.2.2 r k c)
  | (1, n) => .inl (Z.2.1.1, n, .inl (fun j => zJ (r j)))
  | (2, n) => .inl (Z.2.1.2.1, n, .inl (fun j => zJ (r j)))
  | (3, n) => .inl (Z.2.1.2.2.1, n, .inr (.inl (fun j => zJL (r j))))
  | (_, n) => .inl (Z.2.1.2.2.2, n, .inr (.inr (.inr (.inr (fun j => some (Z.2.2 (32 + 8 * j)))))))
def zNC : Nat := 72
def zws (Z : zG) (g : zM) : va_W := (List.range zNC).map (fun k => (Z.2.2 k, zer Z (g k) k))
def zty (Z : zG) : List (ClassId × FieldType) := [(Z.2.1.1, .int), (Z.2.1.2.1, .char), (Z.2.1.2.2.1, .long), (Z.2.1.2.2.2, .object "BranchedSums$State")]
def zA (Z : zG) : Nat → Prop := fun q => ∃ k, k < zNC ∧ q = Z.2.2 k
def zinj (Z : zG) : Prop := ∀ i j, i < zNC → j < zNC → Z.2.2 i = Z.2.2 j → i = j
theorem zws_at {Z : zG} {g : zM} {k : Nat} (h : k < zNC) : (zws Z g)[k]? = some (Z.2.2 k, zer Z (g k) k) := by
  simp [zws, List.getElem?_map, List.getElem?_range h]
theorem zws_of {Z : zG} {g : zM} {k : Nat} {q : Nat × va_E} (h : (zws Z g)[k]? = some q) : k < zNC ∧ q = (Z.2.2 k, zer Z (g k) k) := by
  have hk : k < zNC := by
    have := (List.getElem?_eq_some_iff.mp h).1
    simpa [zws] using this
  refine ⟨hk, ?_⟩
  rw [zws_at hk] at h
  exact (Option.some.inj h).symm
theorem zws_set {Z : zG} {g g' : zM} {k : Nat} (h : k < zNC) {e : va_E} (he : e = zer Z (g' k) k) (ho : ∀ j, j ≠ k → g' j = g j) : (zws Z g).set k (Z.2.2 k, e) = zws Z g' := by
  subst he
  refine List.ext_getElem? (fun j => ?_)
  by_cases hj : j < zNC
  · by_cases hjk : j = k
    · subst hjk
      rw [List.getElem?_set_self (by simpa [zws] using h), zws_at h]
    · rw [List.getElem?_set_ne (Ne.symm hjk), zws_at hj, zws_at hj, ho j hjk]
  · rw [List.getElem?_eq_none (by simp [zws]; omega), List.getElem?_eq_none (by simp [zws]; omega)]
theorem zws_D {Z : zG} {g : zM} {A : Nat → Prop} (hi : zinj Z) (hA : ∀ q, zA Z q → A q) : va_D A (zws Z g) := by
  refine ⟨fun i j x y hx hy hxy => ?_, fun k q hk => ?_⟩
  · obtain ⟨h1, rfl⟩ := zws_of hx
    obtain ⟨h2, rfl⟩ := zws_of hy
    exact hi i j h1 h2 hxy
  · obtain ⟨h1, rfl⟩ := zws_of hk
    exact hA _ ⟨k, h1, rfl⟩
theorem zJ_toInt {x : Int} (h : zin x) : (zJ x).toInt = x := Int32.toInt_ofInt_of_le h.1 h.2
theorem zJ_of (z : Int32) : zJ z.toInt = z := Int32.ofInt_toInt z
theorem zJL_of (z : Int64) : zJL z.toInt = z := Int64.ofInt_toInt z
theorem zJ_add (x y : Int) : zJ x + zJ y = zJ (x + y) := (Int32.ofInt_add x y).symm
theorem zJ_sub (x y : Int) : zJ x - zJ y = zJ (x - y) := (Int32.ofInt_sub x y).symm
theorem zJ_mul (x y : Int) : zJ x * zJ y = zJ (x * y) := (Int32.ofInt_mul x y).symm
theorem zJ_clamp {x : Int} (h0 : 0 ≤ x) (h1 : x < 2147483648) : (zJ x).toNatClampNeg = x.toNat := by
  show (zJ x).toInt.toNat = _
  rw [zJ_toInt ⟨by omega, h1⟩]
theorem zJ_lt {x y : Int} (hx : zin x) (hy : zin y) : zJ x < zJ y ↔ x < y := by
  rw [Int32.lt_iff_toInt_lt, zJ_toInt hx, zJ_toInt hy]
theorem zJ_le {x y : Int} (hx : zin x) (hy : zin y) : zJ x ≤ zJ y ↔ x ≤ y := by
  rw [Int32.le_iff_toInt_le, zJ_toInt hx, zJ_toInt hy]
theorem zJ_eq {x y : Int} (hx : zin x) (hy : zin y) : zJ x = zJ y ↔ x = y := by
  constructor
  · intro h
    rw [← zJ_toInt hx, ← zJ_toInt hy, h]
  · intro h
    rw [h]
theorem zin0 : zin 0 := ⟨by decide, by decide⟩
theorem zJ_0 : zJ 0 = 0 := by decide
theorem zJ_vpin {i : Int} {n : Nat} (h0 : 0 ≤ i) (h : i < n) (hn : n < 2147483648) : vp_in (zJ i) n := by
  refine vp_in_iff.mpr ?_
  rw [zJ_toInt ⟨by omega, by omega⟩]
  exact ⟨h0, h⟩
theorem zget_spec {F : zV → Prop} : ∀ (l : List zV) (k : Nat), zget l k F → ∃ v, l[k]? = some v ∧ F v
  | [], _, h => h.elim
  | v :: _, 0, h => ⟨v, rfl, h⟩
  | _ :: l, k + 1, h => by
    obtain ⟨v, h1, h2⟩ := zget_spec l k h
    exact ⟨v, by rw [List.getElem?_cons_succ]; exact h1, h2⟩
theorem zset_spec : ∀ (l : List zV) (k : Nat) (v : zV) {F : List zV → Prop}, zset l k v F → k < l.length ∧ F (l.set k v)
  | [], _, _, _, h => h.elim
  | _ :: l, 0, v, _, h => ⟨by simp, h⟩
  | a :: l, k + 1, v, _, h => by
    obtain ⟨h1, h2⟩ := zset_spec l k v h
    exact ⟨by simp; omega, h2⟩
theorem zpop_spec {F : List zV → List zV → Prop} : ∀ (n : Nat) (st acc : List zV), zpop n st acc F → ∃ xs r, st = xs ++ r ∧ xs.length = n ∧ F (xs.reverse ++ acc) r
  | 0, st, acc, h => ⟨[], st, rfl, rfl, h⟩
  | _ + 1, [], _, h => h.elim
  | n + 1, v :: st, acc, h => by
    obtain ⟨xs, r, h1, h2, h3⟩ := zpop_spec n st (v :: acc) h
    exact ⟨v :: xs, r, by rw [h1]; rfl, by simp [h2], by simpa using h3⟩
theorem zcat_v (ad : Nat → Nat) (v : zV) : (zv ad v).category = zcat v := by
  rcases v with x | (_ | x) | x | x <;> rfl
theorem zwt_v (ad : Nat → Nat) : ∀ (r : List zV), ((r.map (zv ad)).map fun v => v.category).sum = zwt r
  | [] => rfl
  | v :: r => by
    have h := zwt_v ad r
    simp only [List.map_cons, List.sum_cons, zcat_v]
    rw [show zwt (v :: r) = zcat v + zwt r from rfl, ← h]
/-- the locals -/
def zLs (ad : Nat → Nat) (nL : Nat) (ls : List zV) (real : Array Slot) : Prop := (real.size = nL ∧ ls.length = nL) ∧ lv_wf real ∧ ∀ (i : Nat) (v : zV), ls[i]? = some v → zcat v = 1 → v ≠ zU → real[i]? = some (.val (zv ad v))
/-- the listed locals, as the kit has them -/
def zll (ad : Nat → Nat) (ls : List zV) : List (Nat × Value) := (List.range ls.length).filterMap (fun i => match (ls[i]? : Option zV) with
  | some (Sum.inl x) => some (i, Value.int (zJ x))
  | some (Sum.inr (Sum.inl r)) => some (i, zrv ad r)
  | _ => none)
theorem zll_mem {ad : Nat → Nat} {ls : List zV} {q : Nat × Value} : q ∈ zll ad ls ↔ ∃ v, ls[q.1]? = some v ∧ zcat v = 1 ∧ v ≠ zU ∧ q.2 = zv ad v := by
  unfold zll
  rw [List.mem_filterMap]
  constructor
  · rintro ⟨i, hi, h⟩
    rcases hv : ls[i]? with _ | (x | r | x | x)
    · rw [hv] at h; cases h
    · rw [hv] at h; cases h; exact ⟨_, hv, rfl, by simp, rfl⟩
    · rw [hv] at h; cases h; exact ⟨_, hv, rfl, by simp, rfl⟩
    · rw [hv] at h; cases h
    · rw [hv] at h; cases h
  · rintro ⟨v, hv, hc, hu, h2⟩
    refine ⟨q.1, List.mem_range.mpr (List.getElem?_eq_some_iff.mp hv).1, ?_⟩
    obtain ⟨i, w⟩ := q
    dsimp only at hv h2
    subst h2
    rcases v with x | r | x | x
    · simp [hv, zv]
    · simp [hv, zv]
    · simp [zcat] at hc
    · exact (hu rfl).elim
theorem zLs.has {ad : Nat → Nat} {nL : Nat} {ls : List zV} {real : Array Slot} (h : zLs ad nL ls real) : lv_has real nL (zll ad ls) := by
  refine ⟨h.1.1, h.2.1, fun q hq => ?_⟩
  obtain ⟨v, h1, h2, h3, h4⟩ := zll_mem.mp hq
  rw [h4]
  exact h.2.2 _ _ h1 h2 h3
theorem zLs.at {ad : Nat → Nat} {nL : Nat} {ls : List zV} {real : Array Slot} (h : zLs ad nL ls real) {i : Nat} {v : zV} (hv : ls[i]? = some v) (hc : zcat v = 1) (hu : v ≠ zU) : real[i]? = some (.val (zv ad v)) := h.2.2 i v hv hc hu
theorem zLs.set {ad : Nat → Nat} {nL : Nat} {ls : List zV} {real : Array Slot} {i : Nat} {w : zV} (hn : ls.length = nL)
    (h' : lv_has real nL ((i, zv ad w) :: (zll ad ls).filter (fun q => !(q.1 == i) && !(q.1 + 1 == i && q.2.category == 2)))) : zLs ad nL (ls.set i w) real := by
  refine ⟨⟨h'.1, by simpa using hn⟩, h'.2.1, fun j v hv hc hu => ?_⟩
  by_cases hj : j = i
  · subst hj
    have hlt : j < ls.length := by
      have := (List.getElem?_eq_some_iff.mp hv).1
      simpa using this
    rw [List.getElem?_set_self hlt] at hv
    cases hv
    exact h'.2.2 (j, zv ad w) List.mem_cons_self
  · rw [List.getElem?_set_ne (Ne.symm hj)] at hv
    refine h'.2.2 (j, zv ad v) (List.mem_cons_of_mem _ (List.mem_filter.mpr ⟨zll_mem.mpr ⟨v, hv, hc, hu, rfl⟩, ?_⟩))
    simp [hj, zcat_v, hc]
end
section
/-! what is checked, by program, of every instruction of every method: decoded so, the next one behind it, targets, words of the tables -/
def zlen : Instr → Nat
  | .bipush _ | .ldc _ | .iload _ | .aload _ | .istore _ | .astore _ => 2
  | .sipush _ | .ldc_w _ | .ldc2_w _ | .iinc _ _ | .ifCond _ _ | .if_icmp _ _ | .ifnull _ | .goto _ | .getfield _ | .putfield _ | .invokevirtual _ | .invokestatic _ => 3
  | _ => 1
def zgw (i : Nat) (w : Cond) : Bool := decide (lw_tbl[i]? = some w) && goodWord w
def ztg (cd : List zE) (pc : Nat) (off : Int) (t : Nat) : Bool := match cd[t]? with
  | some e => decide ((pc : Int) + off = (e.2.1 : Int))
  | none => false
/-- classes of which there is one object: its cell -/
def zone (x : Nat) : Nat := [100, 1, 100, 100, 3, 0, 64].getD x 100
/-- how far on a reference goes: told from its object, or as the cell itself -/
def zre (x z : Nat) (l : List Nat) : Nat := match z, l with
  | 0, _ => 0
  | _ + 1, [_] => z
  | _ + 1, _ => if zone x < z ∧ zone x < 100 then z - zone x else 1000
def zechk (own : String) (cc : ByteArray) (ret : Option FieldType) (cd : List zE) (e : zE) : Bool := match e with
  | (ins, pc, x, y, z, v, l) => match ins with
    | .tableswitch d lo hi offs => decide (decode cc pc = .ok (ins, 1 + (3 - pc % 4) + 12 + 4 * offs.size)) && decide (lo = v ∧ hi = v + offs.size - 1 ∧ l.length = offs.size + 1) && ztg cd pc d (l.headD 0) && (List.range offs.size).all (fun i => ztg cd pc (offs.toList.getD i 0) (l.getD (i + 1) 0))
    | _ => decide (decode cc pc = .ok (ins, zlen ins)) && match ins with
      | .bipush n => decide ((Int8.ofInt n).toInt32 = zJ n)
      | .sipush n => decide ((Int16.ofInt n).toInt32 = zJ n)
      | .ldc i => zgw (l.headD 0) (.constant own i (zJ v))
      | .ldc_w i => zgw (l.headD 0) (.constant own i (zJ v))
      | .ldc2_w i => zgw (l.headD 0) (.constantLong own i (zJL v))
      | .ifCond _ off => ztg cd pc off x
      | .if_icmp _ off => ztg cd pc off x
      | .ifnull off => ztg cd pc off x
      | .goto off => ztg cd pc off x
      | .getfield i => match vwCl[x]? with
        | some q => decide (y < q.2.2 ∧ (zfo x)[y]? = some (zre x z l)) && zgw (l.headD 0) (.fieldLink own i (q.2.1 y).1 (q.2.1 y).2.1 (q.2.1 y).2.2.1)
        | none => false
      | .putfield i => match vwCl[x]? with
        | some q => decide (y < q.2.2 ∧ (zfo x)[y]? = some 0 ∧ (q.2.1 y).2.2.2 = false ∧ parseFieldDescriptor (q.2.1 y).2.2.1 = some (if v = 2 then .boolean else .int)) && zgw (l.headD 0) (.fieldLink own i (q.2.1 y).1 (q.2.1 y).2.1 (q.2.1 y).2.2.1)
        | none => false
      | .invokevirtual i => match zMI[x]?, vwCl[z]? with
        | some I, some q => decide (q.1 = I.1.cls ∧ I.2.2.2.1 = false) && zgw (l.headD 0) (.methodLink own i I.1)
        | _, _ => false
      | .invokestatic i => match z with
        | 0 => (match zMI[x]? with
          | some I => decide (I.2.2.2.1 = true) && zgw (l.headD 0) (.methodLink own i I.1)
          | none => false)
        | 1 => (match zMI[x]? with
          | some I => decide (I.2.2.2.1 = true) && decide (lw_tbl[l.headD 0]? = some (.methodLinkNest own i I.1 "BranchedSums"))
          | none => false)
        | 2 => zgw (l.headD 0) (.methodLink own i arraycopyName)
        | 3 => zgw (l.headD 0) (.methodLink own i Lib.Math.max.name)
        | 4 => zgw (l.headD 0) (.methodLink own i Lib.Math.min.name)
        | _ => false
      | .ireturn => decide (ret = some (match x with
        | 0 => .int
        | 1 => .boolean
        | _ => .char)) && decide (x < 3)
      | .areturn => decide (ret = some (.object "BranchedSums$State"))
      | .return_ => decide (ret = none)
      | _ => true
def zcchk (own : String) (cc : ByteArray) (ret : Option FieldType) (cd : List zE) : List zE → Bool
  | [] => true
  | [e] => zechk own cc ret cd e
  | e :: e' :: es => zechk own cc ret cd e && (match e.1 with
    | .tableswitch _ _ _ _ => true
    | _ => decide (e'.2.1 = e.2.1 + zlen e.1)) && zcchk own cc ret cd (e' :: es)
def zmchk (M : List zE × Nat × Nat) (I : zI5) : Bool :=
  match M, I with
  | (cd, na, ml), (y, cc, ret, stat, ix) =>
    zcchk y.cls cc ret cd cd && decide ((cd.headD (.nop, 1, 0, 0, 0, 0, [])).2.1 = 0) && decide (na ≤ ml ∧ ml ≤ 20 ∧ plainName y.cls = true ∧ y.cls ≠ "java/lang/invoke/MethodHandle" ∧ y.cls ≠ "java/lang/invoke/VarHandle" ∧ (parseMethodDescriptor y.desc).map (fun d => d.parameters.length) = some (if stat = true then na else na - 1) ∧ (stat = false → 1 ≤ na)) &&
    zgw (ix.getD 0 0) (.code y cc ml ret) && zgw (ix.getD 1 0) (if stat = true then .static y else .instanceMethod y) && zgw (ix.getD 2 0) (.initialized y.cls) && (stat || zgw (ix.getD 3 0) (.selects y.cls y y))
def zisN : Cond → Bool
  | .methodLinkNest _ _ _ _ => true
  | _ => false
theorem zSY_ok : zSY.all (fun q => zgw q.1 q.2) = true := by decide +kernel
end
section
def zq (q : (List zE × Nat × Nat) × zI5) : Bool := zmchk q.1 q.2
theorem zk_0 : List.all (List.take 19 (zMT.zip zMI)) zq = true := by decide +kernel
theorem zk_1 : List.all (List.take 19 (List.drop 19 (zMT.zip zMI))) zq = true := by decide +kernel
theorem zk_2 : List.all (List.take 19 (List.drop 19 (List.drop 19 (zMT.zip zMI)))) zq = true := by decide +kernel
theorem zk_3 : List.all (List.take 19 (List.drop 19 (List.drop 19 (List.drop 19 (zMT.zip zMI))))) zq = true := by decide +kernel
theorem zk_4 : List.all (List.take 19 (List.drop 19 (List.drop 19 (List.drop 19 (List.drop 19 (zMT.zip zMI)))))) zq = true := by decide +kernel
theorem zk_5 : List.all (List.take 19 (List.drop 19 (List.drop 19 (List.drop 19 (List.drop 19 (List.drop 19 (zMT.zip zMI))))))) zq = true := by decide +kernel
theorem zk_6 : List.all (List.take 19 (List.drop 19 (List.drop 19 (List.drop 19 (List.drop 19 (List.drop 19 (List.drop 19 (zMT.zip zMI)))))))) zq = true := by decide +kernel
theorem zk_7 : List.all (List.drop 19 (List.drop 19 (List.drop 19 (List.drop 19 (List.drop 19 (List.drop 19 (List.drop 19 (zMT.zip zMI)))))))) zq = true := by decide +kernel
theorem zk_len : zMT.length = 149 ∧ zMI.length = 149 := by decide +kernel
theorem zcut {α : Type} (p : α → Bool) (n : Nat) (L : List α) (h1 : List.all (List.take n L) p = true) (h2 : List.all (List.drop n L) p = true) : List.all L p = true := by
  have h : List.all (List.take n L ++ List.drop n L) p = true := by
    rw [List.all_append, h1, h2]
    rfl
  rwa [List.take_append_drop] at h
theorem zk_zip : List.all (zMT.zip zMI) zq = true := (zcut _ 19 _ zk_0 (zcut _ 19 _ zk_1 (zcut _ 19 _ zk_2 (zcut _ 19 _ zk_3 (zcut _ 19 _ zk_4 (zcut _ 19 _ zk_5 (zcut _ 19 _ zk_6 zk_7)))))))
theorem zk_all (m : Nat) (M : List zE × Nat × Nat) (h : zMT[m]? = some M) : ∃ I, zMI[m]? = some I ∧ zmchk M I = true := by
  have hm : m < zMT.length := (List.getElem?_eq_some_iff.mp h).1
  have hm2 : m < zMI.length := by rw [zk_len.2, ← zk_len.1]; exact hm
  refine ⟨zMI[m], List.getElem?_eq_getElem hm2, ?_⟩
  have hz : (zMT.zip zMI)[m]? = some (M, zMI[m]) := by
    rw [List.getElem?_zip_eq_some]
    exact ⟨h, List.getElem?_eq_getElem hm2⟩
  exact List.all_eq_true.mp zk_zip _ (List.mem_of_getElem? hz)
end
section
/-! the frame of a method: what its rows need -/
def zTs : List Cond := lw_tbl.filter goodWord
theorem zgw_spec {i : Nat} {w : Cond} (h : zgw i w = true) : w ∈ zTs := by
  unfold zgw at h
  rw [Bool.and_eq_true, decide_eq_true_eq] at h
  exact List.mem_filter.mpr ⟨List.mem_of_getElem? h.1, h.2⟩
def zNest (U : State) : Prop := ∀ w ∈ lw_tbl, zisN w = true → va_Nw w U
theorem zNest.moved {s U : State} (hW : s.WarmedH U.vm) (h : zNest s) : zNest U := by
  intro w hw hn
  cases w <;> first | exact va_Nw.warmM hW (h _ hw rfl) | exact Bool.noConfusion hn
theorem zNest.same {s U : State} (hW : s.vm = U.vm) (h : zNest s) : zNest U := by
  intro w hw hn
  cases w <;> first | exact va_Nw.same rfl hW (h _ hw rfl) | exact Bool.noConfusion hn
def zB (Z : zG) (g : zM) (U : State) : Prop := va_P Z.1 vwCl (zws Z g) U.heap ∧ va_K Z.1 vwCl (zty Z) U ∧ zNest U
def zPc (Z : zG) (as : List zV) (g : zM) : Array Value → State → Prop := va_Pc (as.map (zv Z.2.2)) (zB Z g)
def zQc (Z : zG) (Q : zP) : Array Value → State → Outcome → State → Prop := fun _ st oc t => (∃ (o : Option zV) (g' : zM), oc = .returned (o.map (zv Z.2.2)) ∧ Q o g' ∧ va_P Z.1 vwCl (zws Z g') t.heap) ∧ va_F (zA Z) st t
def zrm (d : Nat) : Room := { frames := d, cells := 0, slots := 0, locals := 60 * d }
def zwd (y : MethodName) (cc : ByteArray) (ml : Nat) (ret : Option FieldType) : List Cond := .code y cc ml ret :: zTs
theorem zPc_blind (Z : zG) (as : List zV) (g : zM) : FrameBlind (zPc Z as g) := fun a U gf mk q => ⟨q.1, q.2.1, va_K.moved (u := U) (U := U.calling gf mk a) (Vm.Alike.refl U.vm) q.2.2.1, zNest.same (s := U) (U := U.calling gf mk a) rfl q.2.2.2⟩
def zFr (p : Program) (s : State) (m : MethodId) (args : Array Value) (c : Code) (cc : ByteArray) (own : String) (nL : Nat) (Z : zG) (A0 : Nat → Prop) : Prop :=
  p.tables.exec = Jvm.exec ∧ c.code = cc ∧ c.maxLocals = nL ∧ s.vm.findClass own = some m.cls ∧ (∀ w ∈ zTs, w.before args s = true) ∧ (va_K Z.1 vwCl (zty Z) s ∧ zNest s) ∧ zinj Z ∧ ∀ q, zA Z q → A0 q
def zWd (Z : zG) (A0 : Nat → Prop) (H0 : Heap) (g : zM) (H : Heap) (locs : List Loc) : Prop := va_P Z.1 vwCl (zws Z g) H ∧ va_S A0 H0 H locs
theorem zkd_small : ∀ k, k < 72 → (zkd k).1 ≤ 4 ∧ (zkd k).2 ≤ 11380 := by decide +kernel
theorem zkd_big {k : Nat} (h : 72 ≤ k) : zkd k = (9, 0) := by
  unfold zkd
  rw [if_neg (by omega), if_neg (by omega), List.getD_eq_getElem?_getD, List.getElem?_eq_none (by simp; omega)]
  rfl
theorem zkd_lt {k : Nat} (h : (zkd k).1 ≤ 4) : k < zNC := by
  rcases Nat.lt_or_ge k 72 with h1 | h1
  · exact h1
  · rw [zkd_big h1] at h
    exact absurd h (by decide)
theorem zkd_n (k : Nat) : (zkd k).2 ≤ 11380 := by
  rcases Nat.lt_or_ge k 72 with h1 | h1
  · exact (zkd_small k h1).2
  · rw [zkd_big h1]; decide
theorem zcl (ci : Nat) (q : vw_C) (h : vwCl[ci]? = some q) : (∃ ty0 : Nat → FieldType, ∀ k, k < q.2.2 → parseFieldDescriptor (q.2.1 k).2.2.1 = some (ty0 k)) ∧ (∀ a, a < q.2.2 → ∀ b, b < q.2.2 → a ≠ b → (q.2.1 a).2.1 ≠ (q.2.1 b).2.1) ∧ ∀ w ∈ u_ws q.1 q.2.1 q.2.2, w ∈ zTs := by
  have go : ∀ (C : String) (T : u_T) (N : Nat), ((u_ws C T N).all (fun w => decide (w ∈ lw_tbl) && goodWord w)) = true → ∀ w ∈ u_ws C T N, w ∈ zTs := by
    intro C T N h w hw
    have h1 := List.all_eq_true.mp h w hw
    rw [Bool.and_eq_true, decide_eq_true_eq] at h1
    exact List.mem_filter.mpr h1
  rcases ci with _ | _ | _ | _ | _ | _ | _ | ci
  · cases h; exact ⟨⟨_, tyX0_ok⟩, nmX0, go _ _ _ (by decide +kernel)⟩
  · cases h; exact ⟨⟨_, tyX1_ok⟩, nmX1, go _ _ _ (by decide +kernel)⟩
  · cases h; exact ⟨⟨_, tyX2_ok⟩, nmX2, go _ _ _ (by decide +kernel)⟩
  · cases h; exact ⟨⟨_, tyX3_ok⟩, nmX3, go _ _ _ (by decide +kernel)⟩
  · cases h; exact ⟨⟨_, tyX4_ok⟩, nmX4, go _ _ _ (by decide +kernel)⟩
  · cases h; exact ⟨⟨_, tyX5_ok⟩, nmX5, go _ _ _ (by decide +kernel)⟩
  · cases h; exact ⟨⟨_, tyX6_ok⟩, nmX6, go _ _ _ (by decide +kernel)⟩
  · cases h
def zfv (ad : Nat → Nat) (r : Int → Int) (k j o : Nat) : Value := match o with
  | 0 => .int (zJ (r j))
  | o + 1 => .ref (ad (k + (o + 1)))
theorem zfl_at {ad : Nat → Nat} {r : Int → Int} {k c j o : Nat} (h : (zfo c)[j]? = some o) : (zfl ad r k c)[j]? = some (zfv ad r k j o) := by
  have hj : j < (zfo c).length := (List.getElem?_eq_some_iff.mp h).1
  have hd : (zfo c).getD j 0 = o := by rw [List.getD_eq_getElem?_getD, h]; rfl
  unfold zfl
  rw [List.getElem?_map, List.getElem?_range hj, Option.map_some, hd]
  cases o <;> rfl
theorem zfl_set {ad : Nat → Nat} {r : Int → Int} {k c y : Nat} {w : Int} (h : (zfo c)[y]? = some 0) : (zfl ad r k c).set y (.int (zJ w)) = zfl ad (fun j => if j = (y : Int) then w else r j) k c := by
  have hy : y < (zfo c).length := (List.getElem?_eq_some_iff.mp h).1
  have hlen : ∀ r, (zfl ad r k c).length = (zfo c).length := fun r => by simp [zfl]
  refine List.ext_getElem? (fun j => ?_)
  by_cases hj : j < (zfo c).length
  · have ho := List.getElem?_eq_getElem hj
    by_cases hjy : j = y
    · subst hjy
      rw [List.getElem?_set_self (by rw [hlen]; exact hj), zfl_at h]
      simp [zfv]
    · rw [List.getElem?_set_ne (Ne.symm hjy), zfl_at ho, zfl_at ho]
      rcases (zfo c)[j] with _ | o
      · have : ¬ ((j : Int) = (y : Int)) := by omega
        simp [zfv, this]
      · rfl
  · rw [List.getElem?_eq_none (by simp [hlen]; omega), List.getElem?_eq_none (by simp [hlen]; omega)]
theorem zJ_nat (n : Nat) : zJ (n : Int) = Int32.ofNat n := by
  unfold zJ
  first | exact Int32.ofInt_eq_ofNat | exact (Int32.ofNat_eq_ofInt ..).symm | (apply Int32.toBitVec_inj.mp; simp [Int32.ofInt, Int32.ofNat, BitVec.ofInt_natCast])
theorem zup_row {g : zM} {k : Nat} {i w : Int} : (zup g k i w) k = fun j => if j = i then w else g k j := by
  funext j
  simp [zup]
theorem zup_ne {g : zM} {k j : Nat} {i w : Int} (h : j ≠ k) : (zup g k i w) j = g j := by
  funext x
  simp [zup, h]
theorem zer_0 {Z : zG} {r : Int → Int} {k c : Nat} (h : zkd k = (0, c)) : zer Z r k = .inr (c, zfl Z.2.2 r k c) := by unfold zer; rw [h]; rfl
theorem zer_1 {Z : zG} {r : Int → Int} {k n : Nat} (h : zkd k = (1, n)) : zer Z r k = .inl (Z.2.1.1, n, .inl (fun j => zJ (r j))) := by unfold zer; rw [h]; rfl
theorem zer_2 {Z : zG} {r : Int → Int} {k n : Nat} (h : zkd k = (2, n)) : zer Z r k = .inl (Z.2.1.2.1, n, .inl (fun j => zJ (r j))) := by unfold zer; rw [h]; rfl
theorem zer_3 {Z : zG} {r : Int → Int} {k n : Nat} (h : zkd k = (3, n)) : zer Z r k = .inl (Z.2.1.2.2.1, n, .inr (.inl (fun j => zJL (r j)))) := by unfold zer; rw [h]; rfl
theorem zer_4 {Z : zG} {r : Int → Int} {k n : Nat} (h : zkd k = (4, n)) : zer Z r k = .inl (Z.2.1.2.2.2, n, .inr (.inr (.inr (.inr (fun j => some (Z.2.2 (32 + 8 * j))))))) := by unfold zer; rw [h]; rfl
theorem zkd_p {k a : Nat} (h : (zkd k).1 = a) : zkd k = (a, (zkd k).2) := by rw [← h]
section ZC
variable {p : Program} {l : Launch} {e : Env} {R : Room} {s : State} {m : MethodId} {args : Array Value} {below : List Frame} {meth : Method} {c : Code} {H : Heap} {locs : List Loc} {cells slots : Nat} {Qw : State → Prop}
theorem z_call {Z : zG} {Q' : zP} {A0 : Nat → Prop} {H0 : Heap} {pc : Nat} {ls : Array Slot} {st0 rest : List Value} {a : Array Value} (hr : va_Run p l e R s m args below meth c H locs cells slots 0 0 (F0 m pc ls st0) rest (zQc Z Q' a) (zA Z)) (hS : va_S A0 H0 H locs) (hA : ∀ q, zA Z q → A0 q)
    (kk : ∀ (o : Option zV) (g' : zM) (H1 : Heap) (locs1 : List Loc), Q' o g' → zWd Z A0 H0 g' H1 locs1 → W p l e R s m args below meth c H1 locs1 cells slots Qw (F0 m (pc + 3) ls ((o.map (zv Z.2.2)).toList ++ rest))) : W p l e R s m args below meth c H locs cells slots Qw (F0 m pc ls st0) := by
  intro T hT X
  obtain ⟨v, st₀, t, T', L, h0, X', hL, e1, e2, ⟨⟨o, g', hv, hq, hP⟩, hz, hk⟩, st⟩ := hr T hT X
  cases hv
  rw [h0] at hz hk
  obtain ⟨t2, a1, b1⟩ := kk o g' T'.heap (locs ++ L) hq ⟨by rw [e1]; exact hP, Nat.le_trans hS.1 (by rw [e1]; exact hz), fun q h1 h2 => by
      rw [e1, hk q (Nat.lt_of_lt_of_le h1 hS.1) (fun z => h2 (hA q z))]
      exact hS.2.1 q h1 h2, fun q hq => by
      rcases List.mem_append.mp hq with h | h
      · exact hS.2.2 q h
      · exact hA _ (hL q h)⟩ T' rfl X'
  exact ⟨t2, st t2 a1, b1⟩
end ZC
end
section
/-! one instruction: what the small machine asks for is what the machine does -/
section ZS
variable {p : Program} {l : Launch} {e : Env} {d : Nat} {s : State} {m : MethodId} {args : Array Value} {below : List Frame} {meth : Method} {c : Code} {Qw : State → Prop} {Z : zG} {A0 : Nat → Prop} {H0 : Heap} {cc : ByteArray} {own : String} {nL : Nat} {ret : Option FieldType} {cd : List zE} {cells slots : Nat}
abbrev zGo (p : Program) (l : Launch) (e : Env) (d : Nat) (s : State) (m : MethodId) (args : Array Value) (below : List Frame) (meth : Method) (c : Code) (Qw : State → Prop) (Z : zG) (A0 : Nat → Prop) (H0 : Heap) (nL : Nat) (pc : Nat) (ls st : List zV) (g : zM) : Prop :=
  ∀ (real : Array Slot) (H : Heap) (locs : List Loc), zLs Z.2.2 nL ls real → zWd Z A0 H0 g H locs → W p l e (zrm (d + 1)) s m args below meth c H locs 0 0 Qw (F0 m pc real (st.map (zv Z.2.2)))
def zMet (l : Launch) (d m : Nat) : Prop := ∀ (Z : zG), zinj Z → ∀ (as : List zV) (g : zM) (Q : zP), zC d m as g Q → ∀ (M : List zE × Nat × Nat) (I : zI5), zMT[m]? = some M → zMI[m]? = some I → Met l I.1 (zwd I.1 I.2.1 M.2.2 I.2.2.1) (zrm d) (zPc Z as g) (zQc Z Q) 0 0 (zA Z)
theorem zin_i {x : Int} (h : zin x) : -2147483648 ≤ x ∧ x < 2147483648 := h
theorem zts_of {M : List zE × Nat × Nat} {I : zI5} (h : zmchk M I = true) : zcchk I.1.cls I.2.1 I.2.2.1 M.1 M.1 = true ∧ (M.1.headD (.nop, 1, 0, 0, 0, 0, [])).2.1 = 0 ∧ (M.2.1 ≤ M.2.2 ∧ M.2.2 ≤ 20 ∧ plainName I.1.cls = true ∧ I.1.cls ≠ "java/lang/invoke/MethodHandle" ∧ I.1.cls ≠ "java/lang/invoke/VarHandle" ∧ (parseMethodDescriptor I.1.desc).map (fun d => d.parameters.length) = some (if I.2.2.2.1 = true then M.2.1 else M.2.1 - 1) ∧ (I.2.2.2.1 = false → 1 ≤ M.2.1)) ∧
    Cond.code I.1 I.2.1 M.2.2 I.2.2.1 ∈ zTs ∧ (if I.2.2.2.1 = true then Cond.static I.1 else Cond.instanceMethod I.1) ∈ zTs ∧ Cond.initialized I.1.cls ∈ zTs ∧ (I.2.2.2.1 = false → Cond.selects I.1.cls I.1 I.1 ∈ zTs) := by
  obtain ⟨cd, na, ml⟩ := M
  obtain ⟨y, cc, ret, stat, ix⟩ := I
  simp only [zmchk, Bool.and_eq_true, Bool.or_eq_true, decide_eq_true_eq] at h
  obtain ⟨⟨⟨⟨⟨⟨h1, h2⟩, h3⟩, h4⟩, h5⟩, h6⟩, h7⟩ := h
  refine ⟨h1, h2, h3, zgw_spec h4, zgw_spec h5, zgw_spec h6, fun hs => ?_⟩
  rcases h7 with h7 | h7
  · dsimp only at hs; rw [hs] at h7; exact absurd h7 (by decide)
  · exact zgw_spec h7
/-- the words behind a call -/
theorem z_cb {y : MethodName} {cc' : ByteArray} {ml n idx : Nat} {rt : Option FieldType} (hts : ∀ w ∈ zTs, w.before args s = true) (hc : Cond.code y cc' ml rt ∈ zTs) (hi : Cond.initialized y.cls ∈ zTs) (hl : (Cond.methodLink own idx y).before args s = true)
    (hd : y.cls ≠ "java/lang/invoke/MethodHandle" ∧ y.cls ≠ "java/lang/invoke/VarHandle") (hn : (parseMethodDescriptor y.desc).map (fun d => d.parameters.length) = some n) (hml : ml ≤ 20) : CallB (zrm (d + 1)) s args own idx y cc' ml rt (zwd y cc' ml rt) (zrm d) 0 0 n := by
  refine ⟨rfl, rfl, Nat.le_refl _, ?_, ?_, List.mem_cons_self, hts _ hc, hts _ hi, hd, fun sig h => ?_, hl⟩
  · show 8 + (ml + 11) + 60 * d ≤ 60 * (d + 1)
    omega
  · refine pay_in (big := zTs) hts (fun w hw => ?_)
    have hz : w ∈ zTs := by
      rcases List.mem_cons.mp hw with h | h
      · rw [h]; exact hc
      · exact h
    exact ⟨hz, good_of_word (List.mem_filter.mp hz).2⟩
  · rw [h] at hn
    exact (Option.some.inj hn).symm
theorem z_cn {y : MethodName} {cc' : ByteArray} {ml n idx : Nat} {rt : Option FieldType} {host : String} (hts : ∀ w ∈ zTs, w.before args s = true) (hc : Cond.code y cc' ml rt ∈ zTs) (hi : Cond.initialized y.cls ∈ zTs) (hl : (Cond.methodLinkNest own idx y host).before args s = true)
    (hd : y.cls ≠ "java/lang/invoke/MethodHandle" ∧ y.cls ≠ "java/lang/invoke/VarHandle") (hn : (parseMethodDescriptor y.desc).map (fun d => d.parameters.length) = some n) (hml : ml ≤ 20) : va_CN (zrm (d + 1)) s args own idx y host cc' ml rt (zwd y cc' ml rt) (zrm d) 0 0 n := by
  refine ⟨⟨rfl, rfl, Nat.le_refl _, ?_, ?_, List.mem_cons_self⟩, hts _ hc, hts _ hi, hd, fun sig h => ?_, hl⟩
  · show 8 + (ml + 11) + 60 * d ≤ 60 * (d + 1)
    omega
  · refine pay_in (big := zTs) hts (fun w hw => ?_)
    have hz : w ∈ zTs := by
      rcases List.mem_cons.mp hw with h | h
      · rw [h]; exact hc
      · exact h
    exact ⟨hz, good_of_word (List.mem_filter.mp hz).2⟩
  · rw [h] at hn
    exact (Option.some.inj hn).symm
theorem zC_pos {x : Nat} {as : List zV} {g : zM} {Q : zP} (h : zC d x as g Q) : ∃ M, zMT[x]? = some M ∧ as.length = M.2.1 ∧ (∀ v ∈ as, zcat v = 1) := by
  cases d with
  | zero => exact h.elim
  | succ d =>
    obtain ⟨M, h1, ⟨h2, h3⟩, -⟩ := h
    refine ⟨M, h1, h2, fun v hv => ?_⟩
    have := List.all_eq_true.mp h3 v hv
    simpa using this
theorem z_stat (hF : zFr p s m args c cc own nL Z A0) (hO : ∀ x, zMet l d x) {x y pc i : Nat} {nx : zX} {ls st : List zV} {g : zM} (hd : decode cc pc = .ok (.invokestatic i, 3)) (nest : Bool)
    (hl : ∃ I, zMI[x]? = some I ∧ I.2.2.2.1 = true ∧ (if nest = true then (Cond.methodLinkNest own i I.1 "BranchedSums").before args s = true else (Cond.methodLink own i I.1).before args s = true))
    (h : zpop y st [] (fun as r => zwt r ≤ 8 ∧ zC d x as g (fun o g => match o with
        | none => nx ls r g
        | some w => nx ls (w :: r) g)))
    (hn : ∀ ls st g, nx ls st g → zGo p l e d s m args below meth c Qw Z A0 H0 nL (pc + 3) ls st g) : zGo p l e d s m args below meth c Qw Z A0 H0 nL pc ls st g := by
  intro real H locs hls hW
  obtain ⟨xs, r, rfl, hlen, hw, hC⟩ := zpop_spec _ _ _ h
  rw [List.append_nil] at hC
  obtain ⟨M, hM, hal, -⟩ := zC_pos hC
  obtain ⟨I, hI, hst, hlk⟩ := hl
  obtain ⟨I', hI', hz⟩ := zk_all x M hM
  cases hI.symm.trans hI'
  obtain ⟨hx, hb, hml, hown, hts, ⟨hK, hN⟩, hin, hA⟩ := hF
  obtain ⟨-, -, ⟨q1, q2, q3, q4, q5, q6, -⟩, k1, k2, k3, -⟩ := zts_of hz
  rw [if_pos hst] at q6 k2
  have hmet := hO x Z hin _ _ _ hC M I hM hI
  have hpre : PreS s H (zPc Z xs.reverse g) (xs.reverse.map (zv Z.2.2)) := ⟨zPc_blind _ _ _, fun U hU hWm => ⟨rfl, by rw [hU]; exact hW.1, va_K.moved hWm.alike hK, zNest.moved hWm hN⟩⟩
  have hk : ∀ (o : Option zV) (g' : zM) (H1 : Heap) (locs1 : List Loc), (match o with
        | none => nx ls r g'
        | some w => nx ls (w :: r) g') → zWd Z A0 H0 g' H1 locs1 → W p l e (zrm (d + 1)) s m args below meth c H1 locs1 0 0 Qw (F0 m (pc + 3) real ((o.map (zv Z.2.2)).toList ++ r.map (zv Z.2.2))) := by
    intro o g' H1 locs1 ho hw1
    cases o with
    | none => exact hn _ _ _ ho real H1 locs1 hls hw1
    | some w => exact hn _ _ _ ho real H1 locs1 hls hw1
  have hs2 : (xs ++ r).map (zv Z.2.2) = (xs.reverse.map (zv Z.2.2)).reverse ++ r.map (zv Z.2.2) := by simp
  rw [hs2]
  cases nest with
  | false =>
    rw [if_neg (by decide)] at hlk
    exact z_call (va_runS (As := xs.reverse.map (zv Z.2.2)) (rest := r.map (zv Z.2.2)) ⟨hx, hb, hml, hown, hts⟩ hmet ⟨z_cb hts k1 k3 hlk ⟨q4, q5⟩ q6 q2, hts _ k2⟩ hpre rfl (by simpa using hal) hls.1.1 rfl (lv_room (by rw [zwt_v]; exact hw)) hd ⟨Nat.le_refl _, Nat.le_refl _⟩) hW.2 hA hk
  | true =>
    rw [if_pos rfl] at hlk
    exact z_call (va_runSN (As := xs.reverse.map (zv Z.2.2)) (rest := r.map (zv Z.2.2)) ⟨hx, hb, hml, hown, hts⟩ hmet ⟨z_cn hts k1 k3 hlk ⟨q4, q5⟩ q6 q2, hts _ k2, trivial⟩ hpre rfl (by simpa using hal) hls.1.1 rfl (lv_room (by rw [zwt_v]; exact hw)) hd ⟨Nat.le_refl _, Nat.le_refl _⟩) hW.2 hA hk
theorem z_virt (hF : zFr p s m args c cc own nL Z A0) (hO : ∀ x, zMet l d x) {x y z pc i : Nat} {nx : zX} {ls st : List zV} {g : zM} (hd : decode cc pc = .ok (.invokevirtual i, 3))
    (hl : ∃ I q, zMI[x]? = some I ∧ vwCl[z]? = some q ∧ q.1 = I.1.cls ∧ I.2.2.2.1 = false ∧ (Cond.methodLink own i I.1).before args s = true)
    (h : zpop y st [] (fun as r => (zwt r ≤ 8 ∧ zrecv z as) ∧ zC d x as g (fun o g => match o with
        | none => nx ls r g
        | some w => nx ls (w :: r) g)))
    (hn : ∀ ls st g, nx ls st g → zGo p l e d s m args below meth c Qw Z A0 H0 nL (pc + 3) ls st g) : zGo p l e d s m args below meth c Qw Z A0 H0 nL pc ls st g := by
  intro real H locs hls hW
  obtain ⟨xs, r, rfl, hlen, ⟨hw, hrv⟩, hC⟩ := zpop_spec _ _ _ h
  rw [List.append_nil] at hC hrv
  obtain ⟨M, hM, hal, -⟩ := zC_pos hC
  obtain ⟨I, q, hI, hq, hqc, hst, hlk⟩ := hl
  obtain ⟨I', hI', hz⟩ := zk_all x M hM
  cases hI.symm.trans hI'
  obtain ⟨hx, hb, hml, hown, hts, ⟨hK, hN⟩, hin, hA⟩ := hF
  obtain ⟨-, -, ⟨q1, q2, q3, q4, q5, q6, -⟩, k1, k2, k3, k4⟩ := zts_of hz
  rw [if_neg (by rw [hst]; decide)] at q6 k2
  have k4 := k4 hst
  have hmet := hO x Z hin _ _ _ hC M I hM hI
  generalize has : xs.reverse = as at hC hrv hal hmet
  have hxs : xs = as.reverse := by rw [← has, List.reverse_reverse]
  subst hxs
  rcases as with _ | ⟨v, as⟩
  · exact hrv.elim
  rcases v with v | (_ | a) | v | v
  · exact hrv.elim
  · exact hrv.elim
  · have hkd : zkd a = (0, z) := hrv
    have hlt : a < zNC := zkd_lt (by rw [hkd]; exact Nat.zero_le _)
    have hcell : (zws Z g)[a]? = some (Z.2.2 a, .inr (z, zfl Z.2.2 (g a) a z)) := by rw [zws_at hlt, zer_0 hkd]
    have hpre : PreV s H I.1.cls (Z.2.2 a) (zPc Z (zR a :: as) g) (as.map (zv Z.2.2)) := by
      refine ⟨zPc_blind _ _ _, ?_, fun U hU hWm => ⟨rfl, by rw [hU]; exact hW.1, va_K.moved hWm.alike hK, zNest.moved hWm hN⟩⟩
      rw [← hqc]
      exact va_recv hK hW.1 hq hcell
    have hk : ∀ (o : Option zV) (g' : zM) (H1 : Heap) (locs1 : List Loc), (match o with
          | none => nx ls r g'
          | some w => nx ls (w :: r) g') → zWd Z A0 H0 g' H1 locs1 → W p l e (zrm (d + 1)) s m args below meth c H1 locs1 0 0 Qw (F0 m (pc + 3) real ((o.map (zv Z.2.2)).toList ++ r.map (zv Z.2.2))) := by
      intro o g' H1 locs1 ho hw1
      cases o with
      | none => exact hn _ _ _ ho real H1 locs1 hls hw1
      | some w => exact hn _ _ _ ho real H1 locs1 hls hw1
    have hs2 : ((zR a :: as).reverse ++ r).map (zv Z.2.2) = (as.map (zv Z.2.2)).reverse ++ .ref (Z.2.2 a) :: r.map (zv Z.2.2) := by simp [zv, zrv]
    rw [hs2]
    refine z_call (va_runV (As := as.map (zv Z.2.2)) (rest := r.map (zv Z.2.2)) ⟨hx, hb, hml, hown, hts⟩ hmet ⟨z_cb hts k1 k3 hlk ⟨q4, q5⟩ q6 q2, hts _ k2, hts _ k4⟩ hpre rfl ?_ hls.1.1 rfl (lv_room (by rw [zwt_v]; exact hw)) hd ⟨Nat.le_refl _, Nat.le_refl _⟩) hW.2 hA hk
    simp at hal ⊢
    omega
  · exact hrv.elim
  · exact hrv.elim
end ZS
end
section
section ZT
variable {p : Program} {l : Launch} {e : Env} {d : Nat} {s : State} {m : MethodId} {args : Array Value} {below : List Frame} {meth : Method} {c : Code} {Z : zG} {cc : ByteArray} {own : String} {nL : Nat} {ret : Option FieldType} {cd : List zE}
theorem ztg_spec {pc : Nat} {off : Int} {t : Nat} (h : ztg cd pc off t = true) : ∃ e, cd[t]? = some e ∧ (pc : Int) + off = (e.2.1 : Int) := by
  unfold ztg at h
  cases hc : cd[t]? with
  | none => rw [hc] at h; exact Bool.noConfusion h
  | some e => rw [hc] at h; exact ⟨e, rfl, of_decide_eq_true h⟩
theorem zlow_b {a : Int} (h : a = 0 ∨ a = 1) : narrow .boolean (.int (zJ a)) = .int (zJ a) ∧ fits .boolean (.int (zJ a)) = true := by
  rcases h with rfl | rfl <;> exact ⟨by decide, by decide⟩
theorem zlow_c {a : Int} (h : 0 ≤ a ∧ a < 65536) : narrow .char (.int (zJ a)) = .int (zJ a) ∧ fits .char (.int (zJ a)) = true := by
  have e : zJ a = nI a.toNat := by
    have h1 : a = ((a.toNat : Nat) : Int) := by omega
    rw [h1, zJ_nat]
    rfl
  rw [e]
  exact pk_charN (by omega)
theorem zvp_char {a : Int} (h : 0 ≤ a ∧ a < 65536) : vp_nar .char (zJ a) = zJ a := by
  have := (zlow_c h).1
  unfold vp_nar
  rw [this]
theorem zJ_tn (a : Int) : (((zJ a).toBitVec.toNat : Nat) : Int) = a % 4294967296 := by
  have : (zJ a).toBitVec = BitVec.ofInt 32 a := rfl
  rw [this, BitVec.toNat_ofInt]
  omega
theorem zi2c (a : Int) : ((zJ a).toUInt32 % 65536).toInt32 = zJ (a % 65536) := by
  rw [pk_char]
  have h := zJ_tn a
  have e : a % 65536 = (((zJ a).toBitVec.toNat % 65536 : Nat) : Int) := by omega
  rw [e, zJ_nat]
  rfl
theorem zJ_iand (x y : Int) : zJ x &&& zJ y = zJ (zand x y) := (zJ_of _).symm
theorem zJ_ior (x y : Int) : zJ x ||| zJ y = zJ (zor x y) := (zJ_of _).symm
theorem zJ_ixor (x y : Int) : zJ x ^^^ zJ y = zJ (zxor x y) := (zJ_of _).symm
theorem zJ_ishl (x y : Int) : zJ x <<< (zJ y &&& 31) = zJ (zshl x y) := (zJ_of _).symm
theorem zJ_ishr (x y : Int) : zJ x >>> (zJ y &&& 31) = zJ (zshr x y) := (zJ_of _).symm
theorem zJ_idiv (x y : Int) : zJ x / zJ y = zJ (zdiv x y) := (zJ_of _).symm
theorem zJ_irem (x y : Int) : zJ x - zJ x / zJ y * zJ y = zJ (zrem x y) := (zJ_of _).symm
theorem zJ_lor (x y : Int) : zJL x ||| zJL y = zJL (zlor x y) := (zJL_of _).symm
theorem zJ_land (x y : Int) : zJL x &&& zJL y = zJL (zland x y) := (zJL_of _).symm
theorem zone_at : ∀ a, a < 72 → ∀ x, x < 7 → zkd a = (0, x) → zone x < 100 → zone x = a := by decide +kernel
theorem zfo_lt : ∀ x, x < 7 → ∀ v ∈ zfo x, v < 100 := by decide +kernel
theorem zone_ok {a x y z : Nat} (ha : a < zNC) (hx : x < 7) (hk : zkd a = (0, x)) (hf : (zfo x)[y]? = some (if zone x < z ∧ zone x < 100 then z - zone x else 1000)) : ∃ w, (if zone x < z ∧ zone x < 100 then z - zone x else 1000) = w + 1 ∧ a + (w + 1) = z := by
  by_cases hc : zone x < z ∧ zone x < 100
  · have := zone_at a ha x hx hk hc.2
    rw [if_pos hc]
    exact ⟨z - zone x - 1, by omega, by omega⟩
  · rw [if_neg hc] at hf
    have := zfo_lt x hx _ (List.mem_of_getElem? hf)
    omega
theorem ztab_spec {x : Int} {F : Nat → Prop} : ∀ (ts : List Nat) (i0 : Int), ztab x i0 F ts → ∀ (i : Nat) (t : Nat), ts[i]? = some t → x = i0 + i → F t
  | [], _, _, i, t, hi, _ => by simp at hi
  | t0 :: ts, i0, h, 0, t, hi, hx => by
    cases hi
    exact h.1 (by simpa using hx)
  | t0 :: ts, i0, h, i + 1, t, hi, hx => ztab_spec ts (i0 + 1) h.2 i t (by simpa using hi) (by omega)
theorem zcpy_ne {g : zM} {a b j : Nat} {sp dp n : Int} (h : j ≠ b) : (zcpy g a sp b dp n) j = g j := by
  funext x
  simp [zcpy, h]
theorem zcpy_row {g : zM} {a b : Nat} {sp dp n : Int} : (zcpy g a sp b dp n) b = fun j => if dp ≤ j ∧ j < dp + n then g a (sp + (j - dp)) else g b j := by
  funext x
  simp [zcpy]
theorem zcpy_fn {α : Type} (J : Int → α) {g : zM} {a b : Nat} {sp dp n : Int} (h1 : 0 ≤ sp) (h2 : 0 ≤ dp) (h3 : 0 ≤ n) : va_cpy (fun j : Nat => J (g a j)) (fun j : Nat => J (g b j)) sp.toNat dp.toNat n.toNat = fun j : Nat => J ((fun j : Int => if dp ≤ j ∧ j < dp + n then g a (sp + (j - dp)) else g b j) j) := by
  funext k
  unfold va_cpy
  by_cases hk : dp ≤ (k : Int) ∧ (k : Int) < dp + n
  · have e : ((sp.toNat + (k - dp.toNat) : Nat) : Int) = sp + ((k : Int) - dp) := by omega
    rw [if_pos (by omega)]
    dsimp only
    rw [if_pos hk, e]
  · rw [if_neg (by omega)]
    dsimp only
    rw [if_neg hk]
theorem zSY0 : Cond.native arraycopyName ∈ zTs := zgw_spec (List.all_eq_true.mp zSY_ok _ (List.mem_of_getElem? (i := 0) rfl))
theorem zSY1 : Cond.static arraycopyName ∈ zTs := zgw_spec (List.all_eq_true.mp zSY_ok _ (List.mem_of_getElem? (i := 1) rfl))
theorem zSY2 : Cond.initialized "java/lang/System" ∈ zTs := zgw_spec (List.all_eq_true.mp zSY_ok _ (List.mem_of_getElem? (i := 2) rfl))
theorem zSY3 : Cond.static Lib.Math.max.name ∈ zTs := zgw_spec (List.all_eq_true.mp zSY_ok _ (List.mem_of_getElem? (i := 3) rfl))
theorem zSY4 : Cond.code Lib.Math.max.name Lib.Math.max.code 2 (some .int) ∈ zTs := zgw_spec (List.all_eq_true.mp zSY_ok _ (List.mem_of_getElem? (i := 4) rfl))
theorem zSY5 : Cond.initialized "java/lang/Math" ∈ zTs := zgw_spec (List.all_eq_true.mp zSY_ok _ (List.mem_of_getElem? (i := 5) rfl))
theorem zSY6 : Cond.static Lib.Math.min.name ∈ zTs := zgw_spec (List.all_eq_true.mp zSY_ok _ (List.mem_of_getElem? (i := 6) rfl))
theorem zSY7 : Cond.code Lib.Math.min.name Lib.Math.min.code 2 (some .int) ∈ zTs := zgw_spec (List.all_eq_true.mp zSY_ok _ (List.mem_of_getElem? (i := 7) rfl))
/-- the end of a method -/
abbrev zEnd (below : List Frame) (Z : zG) (Q : zP) (args : Array Value) (s : State) : State → Prop := MQ below (zQc Z Q) args s 0 0 (zA Z)
set_option maxHeartbeats 1000000 in
theorem zs_iconst {n : Int} (hF : zFr p s m args c cc own nL Z (zA Z)) (hO : ∀ x, zMet l d x) (hret : meth.sig.returnType = ret) (hlocks : meth.locks = false) {Q : zP} {K : zK} {nx : zX} {pc x y z : Nat} {v : Int} {lx : List Nat} (hck : zechk own cc ret cd (.iconst n, pc, x, y, z, v, lx) = true)
    (hK : ∀ t ls st g, K t ls st g → ∀ e', cd[t]? = some e' → zGo p l e d s m args below meth c (zEnd below Z Q args s) Z (zA Z) s.heap nL e'.2.1 ls st g)
    (hn : ∀ ls st g, nx ls st g → zGo p l e d s m args below meth c (zEnd below Z Q args s) Z (zA Z) s.heap nL (pc + 1) ls st g)
    {ls st : List zV} {g : zM} (h : zstep (zC d) Q K (.iconst n, pc, x, y, z, v, lx) nx ls st g) : zGo p l e d s m args below meth c (zEnd below Z Q args s) Z (zA Z) s.heap nL pc ls st g := by
  obtain ⟨hx, hb, hml, hown, hts, ⟨hKK, hN⟩, hin, hA⟩ := id hF
  have hD : ∀ g, va_D (zA Z) (zws Z g) := fun g => zws_D hin hA
  have hck := hck
  simp only [zechk, zlen, Bool.and_eq_true, and_true] at hck
  intro real H locs hls hW
  exact lv_iconst hx hb (of_decide_eq_true hck) rfl (hn _ _ _ h real H locs hls hW)
set_option maxHeartbeats 1000000 in
theorem zs_bipush {n : Int} (hF : zFr p s m args c cc own nL Z (zA Z)) (hO : ∀ x, zMet l d x) (hret : meth.sig.returnType = ret) (hlocks : meth.locks = false) {Q : zP} {K : zK} {nx : zX} {pc x y z : Nat} {v : Int} {lx : List Nat} (hck : zechk own cc ret cd (.bipush n, pc, x, y, z, v, lx) = true)
    (hK : ∀ t ls st g, K t ls st g → ∀ e', cd[t]? = some e' → zGo p l e d s m args below meth c (zEnd below Z Q args s) Z (zA Z) s.heap nL e'.2.1 ls st g)
    (hn : ∀ ls st g, nx ls st g → zGo p l e d s m args below meth c (zEnd below Z Q args s) Z (zA Z) s.heap nL (pc + 2) ls st g)
    {ls st : List zV} {g : zM} (h : zstep (zC d) Q K (.bipush n, pc, x, y, z, v, lx) nx ls st g) : zGo p l e d s m args below meth c (zEnd below Z Q args s) Z (zA Z) s.heap nL pc ls st g := by
  obtain ⟨hx, hb, hml, hown, hts, ⟨hKK, hN⟩, hin, hA⟩ := id hF
  have hD : ∀ g, va_D (zA Z) (zws Z g) := fun g => zws_D hin hA
  have hck := hck
  simp only [zechk, zlen, Bool.and_eq_true, and_true] at hck
  intro real H locs hls hW
  exact lv_bipush hx hb (of_decide_eq_true hck.1) (of_decide_eq_true hck.2) (hn _ _ _ h real H locs hls hW)
set_option maxHeartbeats 1000000 in
theorem zs_sipush {n : Int} (hF : zFr p s m args c cc own nL Z (zA Z)) (hO : ∀ x, zMet l d x) (hret : meth.sig.returnType = ret) (hlocks : meth.locks = false) {Q : zP} {K : zK} {nx : zX} {pc x y z : Nat} {v : Int} {lx : List Nat} (hck : zechk own cc ret cd (.sipush n, pc, x, y, z, v, lx) = true)
    (hK : ∀ t ls st g, K t ls st g → ∀ e', cd[t]? = some e' → zGo p l e d s m args below meth c (zEnd below Z Q args s) Z (zA Z) s.heap nL e'.2.1 ls st g)
    (hn : ∀ ls st g, nx ls st g → zGo p l e d s m args below meth c (zEnd below Z Q args s) Z (zA Z) s.heap nL (pc + 3) ls st g)
    {ls st : List zV} {g : zM} (h : zstep (zC d) Q K (.sipush n, pc, x, y, z, v, lx) nx ls st g) : zGo p l e d s m args below meth c (zEnd below Z Q args s) Z (zA Z) s.heap nL pc ls st g := by
  obtain ⟨hx, hb, hml, hown, hts, ⟨hKK, hN⟩, hin, hA⟩ := id hF
  have hD : ∀ g, va_D (zA Z) (zws Z g) := fun g => zws_D hin hA
  have hck := hck
  simp only [zechk, zlen, Bool.and_eq_true, and_true] at hck
  intro real H locs hls hW
  exact lv_sipush hx hb (of_decide_eq_true hck.1) (of_decide_eq_true hck.2) (hn _ _ _ h real H locs hls hW)
set_option maxHeartbeats 1000000 in
theorem zs_ldc {i : Nat} (hF : zFr p s m args c cc own nL Z (zA Z)) (hO : ∀ x, zMet l d x) (hret : meth.sig.returnType = ret) (hlocks : meth.locks = false) {Q : zP} {K : zK} {nx : zX} {pc x y z : Nat} {v : Int} {lx : List Nat} (hck : zechk own cc ret cd (.ldc i, pc, x, y, z, v, lx) = true)
    (hK : ∀ t ls st g, K t ls st g → ∀ e', cd[t]? = some e' → zGo p l e d s m args below meth c (zEnd below Z Q args s) Z (zA Z) s.heap nL e'.2.1 ls st g)
    (hn : ∀ ls st g, nx ls st g → zGo p l e d s m args below meth c (zEnd below Z Q args s) Z (zA Z) s.heap nL (pc + 2) ls st g)
    {ls st : List zV} {g : zM} (h : zstep (zC d) Q K (.ldc i, pc, x, y, z, v, lx) nx ls st g) : zGo p l e d s m args below meth c (zEnd below Z Q args s) Z (zA Z) s.heap nL pc ls st g := by
  obtain ⟨hx, hb, hml, hown, hts, ⟨hKK, hN⟩, hin, hA⟩ := id hF
  have hD : ∀ g, va_D (zA Z) (zws Z g) := fun g => zws_D hin hA
  have hck := hck
  simp only [zechk, zlen, Bool.and_eq_true, and_true] at hck
  intro real H locs hls hW
  exact lv_ldc hx hb hown (hts _ (zgw_spec hck.2)) (of_decide_eq_true hck.1) (hn _ _ _ h real H locs hls hW)
set_option maxHeartbeats 1000000 in
theorem zs_ldcw {i : Nat} (hF : zFr p s m args c cc own nL Z (zA Z)) (hO : ∀ x, zMet l d x) (hret : meth.sig.returnType = ret) (hlocks : meth.locks = false) {Q : zP} {K : zK} {nx : zX} {pc x y z : Nat} {v : Int} {lx : List Nat} (hck : zechk own cc ret cd (.ldc_w i, pc, x, y, z, v, lx) = true)
    (hK : ∀ t ls st g, K t ls st g → ∀ e', cd[t]? = some e' → zGo p l e d s m args below meth c (zEnd below Z Q args s) Z (zA Z) s.heap nL e'.2.1 ls st g)
    (hn : ∀ ls st g, nx ls st g → zGo p l e d s m args below meth c (zEnd below Z Q args s) Z (zA Z) s.heap nL (pc + 3) ls st g)
    {ls st : List zV} {g : zM} (h : zstep (zC d) Q K (.ldc_w i, pc, x, y, z, v, lx) nx ls st g) : zGo p l e d s m args below meth c (zEnd below Z Q args s) Z (zA Z) s.heap nL pc ls st g := by
  obtain ⟨hx, hb, hml, hown, hts, ⟨hKK, hN⟩, hin, hA⟩ := id hF
  have hD : ∀ g, va_D (zA Z) (zws Z g) := fun g => zws_D hin hA
  have hck := hck
  simp only [zechk, zlen, Bool.and_eq_true, and_true] at hck
  intro real H locs hls hW
  exact lv_ldcw hx hb hown (hts _ (zgw_spec hck.2)) (of_decide_eq_true hck.1) (hn _ _ _ h real H locs hls hW)
set_option maxHeartbeats 1000000 in
theorem zs_ldc2 {i : Nat} (hF : zFr p s m args c cc own nL Z (zA Z)) (hO : ∀ x, zMet l d x) (hret : meth.sig.returnType = ret) (hlocks : meth.locks = false) {Q : zP} {K : zK} {nx : zX} {pc x y z : Nat} {v : Int} {lx : List Nat} (hck : zechk own cc ret cd (.ldc2_w i, pc, x, y, z, v, lx) = true)
    (hK : ∀ t ls st g, K t ls st g → ∀ e', cd[t]? = some e' → zGo p l e d s m args below meth c (zEnd below Z Q args s) Z (zA Z) s.heap nL e'.2.1 ls st g)
    (hn : ∀ ls st g, nx ls st g → zGo p l e d s m args below meth c (zEnd below Z Q args s) Z (zA Z) s.heap nL (pc + 3) ls st g)
    {ls st : List zV} {g : zM} (h : zstep (zC d) Q K (.ldc2_w i, pc, x, y, z, v, lx) nx ls st g) : zGo p l e d s m args below meth c (zEnd below Z Q args s) Z (zA Z) s.heap nL pc ls st g := by
  obtain ⟨hx, hb, hml, hown, hts, ⟨hKK, hN⟩, hin, hA⟩ := id hF
  have hD : ∀ g, va_D (zA Z) (zws Z g) := fun g => zws_D hin hA
  have hck := hck
  simp only [zechk, zlen, Bool.and_eq_true, and_true] at hck
  intro real H locs hls hW
  exact lv_ldc2 hx hb hown (hts _ (zgw_spec hck.2)) (of_decide_eq_true hck.1) (hn _ _ _ h real H locs hls hW)
set_option maxHeartbeats 1000000 in
theorem zs_null (hF : zFr p s m args c cc own nL Z (zA Z)) (hO : ∀ x, zMet l d x) (hret : meth.sig.returnType = ret) (hlocks : meth.locks = false) {Q : zP} {K : zK} {nx : zX} {pc x y z : Nat} {v : Int} {lx : List Nat} (hck : zechk own cc ret cd (.aconst_null, pc, x, y, z, v, lx) = true)
    (hK : ∀ t ls st g, K t ls st g → ∀ e', cd[t]? = some e' → zGo p l e d s m args below meth c (zEnd below Z Q args s) Z (zA Z) s.heap nL e'.2.1 ls st g)
    (hn : ∀ ls st g, nx ls st g → zGo p l e d s m args below meth c (zEnd below Z Q args s) Z (zA Z) s.heap nL (pc + 1) ls st g)
    {ls st : List zV} {g : zM} (h : zstep (zC d) Q K (.aconst_null, pc, x, y, z, v, lx) nx ls st g) : zGo p l e d s m args below meth c (zEnd below Z Q args s) Z (zA Z) s.heap nL pc ls st g := by
  obtain ⟨hx, hb, hml, hown, hts, ⟨hKK, hN⟩, hin, hA⟩ := id hF
  have hD : ∀ g, va_D (zA Z) (zws Z g) := fun g => zws_D hin hA
  have hck := hck
  simp only [zechk, zlen, Bool.and_eq_true, and_true] at hck
  intro real H locs hls hW
  exact lv_null hx hb (of_decide_eq_true hck) (hn _ _ _ h real H locs hls hW)
set_option maxHeartbeats 1000000 in
theorem zs_iload_n {k : Fin 4} (hF : zFr p s m args c cc own nL Z (zA Z)) (hO : ∀ x, zMet l d x) (hret : meth.sig.returnType = ret) (hlocks : meth.locks = false) {Q : zP} {K : zK} {nx : zX} {pc x y z : Nat} {v : Int} {lx : List Nat} (hck : zechk own cc ret cd (.iload_n k, pc, x, y, z, v, lx) = true)
    (hK : ∀ t ls st g, K t ls st g → ∀ e', cd[t]? = some e' → zGo p l e d s m args below meth c (zEnd below Z Q args s) Z (zA Z) s.heap nL e'.2.1 ls st g)
    (hn : ∀ ls st g, nx ls st g → zGo p l e d s m args below meth c (zEnd below Z Q args s) Z (zA Z) s.heap nL (pc + 1) ls st g)
    {ls st : List zV} {g : zM} (h : zstep (zC d) Q K (.iload_n k, pc, x, y, z, v, lx) nx ls st g) : zGo p l e d s m args below meth c (zEnd below Z Q args s) Z (zA Z) s.heap nL pc ls st g := by
  obtain ⟨hx, hb, hml, hown, hts, ⟨hKK, hN⟩, hin, hA⟩ := id hF
  have hD : ∀ g, va_D (zA Z) (zws Z g) := fun g => zws_D hin hA
  have hck := hck
  simp only [zechk, zlen, Bool.and_eq_true, and_true] at hck
  intro real H locs hls hW
  obtain ⟨w, hw, hi⟩ := zget_spec _ _ h
  rcases w with q | q | q | q <;> first | exact False.elim hi | skip
  exact lv_iload_n hx hb (of_decide_eq_true hck) rfl (hls.at hw rfl (by simp)) (hn _ _ _ hi real H locs hls hW)
set_option maxHeartbeats 1000000 in
theorem zs_iload {k : Nat} (hF : zFr p s m args c cc own nL Z (zA Z)) (hO : ∀ x, zMet l d x) (hret : meth.sig.returnType = ret) (hlocks : meth.locks = false) {Q : zP} {K : zK} {nx : zX} {pc x y z : Nat} {v : Int} {lx : List Nat} (hck : zechk own cc ret cd (.iload k, pc, x, y, z, v, lx) = true)
    (hK : ∀ t ls st g, K t ls st g → ∀ e', cd[t]? = some e' → zGo p l e d s m args below meth c (zEnd below Z Q args s) Z (zA Z) s.heap nL e'.2.1 ls st g)
    (hn : ∀ ls st g, nx ls st g → zGo p l e d s m args below meth c (zEnd below Z Q args s) Z (zA Z) s.heap nL (pc + 2) ls st g)
    {ls st : List zV} {g : zM} (h : zstep (zC d) Q K (.iload k, pc, x, y, z, v, lx) nx ls st g) : zGo p l e d s m args below meth c (zEnd below Z Q args s) Z (zA Z) s.heap nL pc ls st g := by
  obtain ⟨hx, hb, hml, hown, hts, ⟨hKK, hN⟩, hin, hA⟩ := id hF
  have hD : ∀ g, va_D (zA Z) (zws Z g) := fun g => zws_D hin hA
  have hck := hck
  simp only [zechk, zlen, Bool.and_eq_true, and_true] at hck
  intro real H locs hls hW
  obtain ⟨w, hw, hi⟩ := zget_spec _ _ h
  rcases w with q | q | q | q <;> first | exact False.elim hi | skip
  exact lv_iload hx hb (of_decide_eq_true hck) (hls.at hw rfl (by simp)) (hn _ _ _ hi real H locs hls hW)
set_option maxHeartbeats 1000000 in
theorem zs_aload_n {k : Fin 4} (hF : zFr p s m args c cc own nL Z (zA Z)) (hO : ∀ x, zMet l d x) (hret : meth.sig.returnType = ret) (hlocks : meth.locks = false) {Q : zP} {K : zK} {nx : zX} {pc x y z : Nat} {v : Int} {lx : List Nat} (hck : zechk own cc ret cd (.aload_n k, pc, x, y, z, v, lx) = true)
    (hK : ∀ t ls st g, K t ls st g → ∀ e', cd[t]? = some e' → zGo p l e d s m args below meth c (zEnd below Z Q args s) Z (zA Z) s.heap nL e'.2.1 ls st g)
    (hn : ∀ ls st g, nx ls st g → zGo p l e d s m args below meth c (zEnd below Z Q args s) Z (zA Z) s.heap nL (pc + 1) ls st g)
    {ls st : List zV} {g : zM} (h : zstep (zC d) Q K (.aload_n k, pc, x, y, z, v, lx) nx ls st g) : zGo p l e d s m args below meth c (zEnd below Z Q args s) Z (zA Z) s.heap nL pc ls st g := by
  obtain ⟨hx, hb, hml, hown, hts, ⟨hKK, hN⟩, hin, hA⟩ := id hF
  have hD : ∀ g, va_D (zA Z) (zws Z g) := fun g => zws_D hin hA
  have hck := hck
  simp only [zechk, zlen, Bool.and_eq_true, and_true] at hck
  intro real H locs hls hW
  obtain ⟨w, hw, hi⟩ := zget_spec _ _ h
  rcases w with q | (_ | q) | q | q <;> first | exact False.elim hi | skip
  · exact lv_aload_nN hx hb (of_decide_eq_true hck) rfl (hls.at hw rfl (by simp)) (hn _ _ _ hi real H locs hls hW)
  · exact lv_aload_n hx hb (of_decide_eq_true hck) rfl (hls.at hw rfl (by simp)) (hn _ _ _ hi real H locs hls hW)
set_option maxHeartbeats 1000000 in
theorem zs_aload {k : Nat} (hF : zFr p s m args c cc own nL Z (zA Z)) (hO : ∀ x, zMet l d x) (hret : meth.sig.returnType = ret) (hlocks : meth.locks = false) {Q : zP} {K : zK} {nx : zX} {pc x y z : Nat} {v : Int} {lx : List Nat} (hck : zechk own cc ret cd (.aload k, pc, x, y, z, v, lx) = true)
    (hK : ∀ t ls st g, K t ls st g → ∀ e', cd[t]? = some e' → zGo p l e d s m args below meth c (zEnd below Z Q args s) Z (zA Z) s.heap nL e'.2.1 ls st g)
    (hn : ∀ ls st g, nx ls st g → zGo p l e d s m args below meth c (zEnd below Z Q args s) Z (zA Z) s.heap nL (pc + 2) ls st g)
    {ls st : List zV} {g : zM} (h : zstep (zC d) Q K (.aload k, pc, x, y, z, v, lx) nx ls st g) : zGo p l e d s m args below meth c (zEnd below Z Q args s) Z (zA Z) s.heap nL pc ls st g := by
  obtain ⟨hx, hb, hml, hown, hts, ⟨hKK, hN⟩, hin, hA⟩ := id hF
  have hD : ∀ g, va_D (zA Z) (zws Z g) := fun g => zws_D hin hA
  have hck := hck
  simp only [zechk, zlen, Bool.and_eq_true, and_true] at hck
  intro real H locs hls hW
  obtain ⟨w, hw, hi⟩ := zget_spec _ _ h
  rcases w with q | (_ | q) | q | q <;> first | exact False.elim hi | skip
  · exact lv_aloadN hx hb (of_decide_eq_true hck) (hls.at hw rfl (by simp)) (hn _ _ _ hi real H locs hls hW)
  · exact lv_aload hx hb (of_decide_eq_true hck) (hls.at hw rfl (by simp)) (hn _ _ _ hi real H locs hls hW)
set_option maxHeartbeats 1000000 in
theorem zs_istore_n {k : Fin 4} (hF : zFr p s m args c cc own nL Z (zA Z)) (hO : ∀ x, zMet l d x) (hret : meth.sig.returnType = ret) (hlocks : meth.locks = false) {Q : zP} {K : zK} {nx : zX} {pc x y z : Nat} {v : Int} {lx : List Nat} (hck : zechk own cc ret cd (.istore_n k, pc, x, y, z, v, lx) = true)
    (hK : ∀ t ls st g, K t ls st g → ∀ e', cd[t]? = some e' → zGo p l e d s m args below meth c (zEnd below Z Q args s) Z (zA Z) s.heap nL e'.2.1 ls st g)
    (hn : ∀ ls st g, nx ls st g → zGo p l e d s m args below meth c (zEnd below Z Q args s) Z (zA Z) s.heap nL (pc + 1) ls st g)
    {ls st : List zV} {g : zM} (h : zstep (zC d) Q K (.istore_n k, pc, x, y, z, v, lx) nx ls st g) : zGo p l e d s m args below meth c (zEnd below Z Q args s) Z (zA Z) s.heap nL pc ls st g := by
  obtain ⟨hx, hb, hml, hown, hts, ⟨hKK, hN⟩, hin, hA⟩ := id hF
  have hD : ∀ g, va_D (zA Z) (zws Z g) := fun g => zws_D hin hA
  have hck := hck
  simp only [zechk, zlen, Bool.and_eq_true, and_true] at hck
  intro real H locs hls hW
  rcases st with _ | ⟨a | a | a | a, r⟩ <;> first | exact False.elim h | skip
  obtain ⟨hlt, hk⟩ := zset_spec _ _ _ h
  exact lv_istore_n hx hb (of_decide_eq_true hck) rfl hls.has (by rw [← hls.1.2]; exact hlt) rfl (fun ls' hl' => hn _ _ _ hk ls' H locs (zLs.set (w := zI a) hls.1.2 hl') hW)
set_option maxHeartbeats 1000000 in
theorem zs_istore {k : Nat} (hF : zFr p s m args c cc own nL Z (zA Z)) (hO : ∀ x, zMet l d x) (hret : meth.sig.returnType = ret) (hlocks : meth.locks = false) {Q : zP} {K : zK} {nx : zX} {pc x y z : Nat} {v : Int} {lx : List Nat} (hck : zechk own cc ret cd (.istore k, pc, x, y, z, v, lx) = true)
    (hK : ∀ t ls st g, K t ls st g → ∀ e', cd[t]? = some e' → zGo p l e d s m args below meth c (zEnd below Z Q args s) Z (zA Z) s.heap nL e'.2.1 ls st g)
    (hn : ∀ ls st g, nx ls st g → zGo p l e d s m args below meth c (zEnd below Z Q args s) Z (zA Z) s.heap nL (pc + 2) ls st g)
    {ls st : List zV} {g : zM} (h : zstep (zC d) Q K (.istore k, pc, x, y, z, v, lx) nx ls st g) : zGo p l e d s m args below meth c (zEnd below Z Q args s) Z (zA Z) s.heap nL pc ls st g := by
  obtain ⟨hx, hb, hml, hown, hts, ⟨hKK, hN⟩, hin, hA⟩ := id hF
  have hD : ∀ g, va_D (zA Z) (zws Z g) := fun g => zws_D hin hA
  have hck := hck
  simp only [zechk, zlen, Bool.and_eq_true, and_true] at hck
  intro real H locs hls hW
  rcases st with _ | ⟨a | a | a | a, r⟩ <;> first | exact False.elim h | skip
  obtain ⟨hlt, hk⟩ := zset_spec _ _ _ h
  exact lv_istore hx hb (of_decide_eq_true hck) hls.has (by rw [← hls.1.2]; exact hlt) rfl (fun ls' hl' => hn _ _ _ hk ls' H locs (zLs.set (w := zI a) hls.1.2 hl') hW)
set_option maxHeartbeats 1000000 in
theorem zs_astore_n {k : Fin 4} (hF : zFr p s m args c cc own nL Z (zA Z)) (hO : ∀ x, zMet l d x) (hret : meth.sig.returnType = ret) (hlocks : meth.locks = false) {Q : zP} {K : zK} {nx : zX} {pc x y z : Nat} {v : Int} {lx : List Nat} (hck : zechk own cc ret cd (.astore_n k, pc, x, y, z, v, lx) = true)
    (hK : ∀ t ls st g, K t ls st g → ∀ e', cd[t]? = some e' → zGo p l e d s m args below meth c (zEnd below Z Q args s) Z (zA Z) s.heap nL e'.2.1 ls st g)
    (hn : ∀ ls st g, nx ls st g → zGo p l e d s m args below meth c (zEnd below Z Q args s) Z (zA Z) s.heap nL (pc + 1) ls st g)
    {ls st : List zV} {g : zM} (h : zstep (zC d) Q K (.astore_n k, pc, x, y, z, v, lx) nx ls st g) : zGo p l e d s m args below meth c (zEnd below Z Q args s) Z (zA Z) s.heap nL pc ls st g := by
  obtain ⟨hx, hb, hml, hown, hts, ⟨hKK, hN⟩, hin, hA⟩ := id hF
  have hD : ∀ g, va_D (zA Z) (zws Z g) := fun g => zws_D hin hA
  have hck := hck
  simp only [zechk, zlen, Bool.and_eq_true, and_true] at hck
  intro real H locs hls hW
  rcases st with _ | ⟨a | (_ | a) | a | a, r⟩ <;> first | exact False.elim h | skip
  · obtain ⟨hlt, hk⟩ := zset_spec _ _ _ h
    exact lv_astore_nN hx hb (of_decide_eq_true hck) rfl hls.has (by rw [← hls.1.2]; exact hlt) rfl (fun ls' hl' => hn _ _ _ hk ls' H locs (zLs.set (w := zNl) hls.1.2 hl') hW)
  · obtain ⟨hlt, hk⟩ := zset_spec _ _ _ h
    exact lv_astore_n hx hb (of_decide_eq_true hck) rfl hls.has (by rw [← hls.1.2]; exact hlt) rfl (fun ls' hl' => hn _ _ _ hk ls' H locs (zLs.set (w := zR a) hls.1.2 hl') hW)
set_option maxHeartbeats 1000000 in
theorem zs_astore {k : Nat} (hF : zFr p s m args c cc own nL Z (zA Z)) (hO : ∀ x, zMet l d x) (hret : meth.sig.returnType = ret) (hlocks : meth.locks = false) {Q : zP} {K : zK} {nx : zX} {pc x y z : Nat} {v : Int} {lx : List Nat} (hck : zechk own cc ret cd (.astore k, pc, x, y, z, v, lx) = true)
    (hK : ∀ t ls st g, K t ls st g → ∀ e', cd[t]? = some e' → zGo p l e d s m args below meth c (zEnd below Z Q args s) Z (zA Z) s.heap nL e'.2.1 ls st g)
    (hn : ∀ ls st g, nx ls st g → zGo p l e d s m args below meth c (zEnd below Z Q args s) Z (zA Z) s.heap nL (pc + 2) ls st g)
    {ls st : List zV} {g : zM} (h : zstep (zC d) Q K (.astore k, pc, x, y, z, v, lx) nx ls st g) : zGo p l e d s m args below meth c (zEnd below Z Q args s) Z (zA Z) s.heap nL pc ls st g := by
  obtain ⟨hx, hb, hml, hown, hts, ⟨hKK, hN⟩, hin, hA⟩ := id hF
  have hD : ∀ g, va_D (zA Z) (zws Z g) := fun g => zws_D hin hA
  have hck := hck
  simp only [zechk, zlen, Bool.and_eq_true, and_true] at hck
  intro real H locs hls hW
  rcases st with _ | ⟨a | (_ | a) | a | a, r⟩ <;> first | exact False.elim h | skip
  · obtain ⟨hlt, hk⟩ := zset_spec _ _ _ h
    exact lv_astoreN hx hb (of_decide_eq_true hck) hls.has (by rw [← hls.1.2]; exact hlt) rfl (fun ls' hl' => hn _ _ _ hk ls' H locs (zLs.set (w := zNl) hls.1.2 hl') hW)
  · obtain ⟨hlt, hk⟩ := zset_spec _ _ _ h
    exact lv_astore hx hb (of_decide_eq_true hck) hls.has (by rw [← hls.1.2]; exact hlt) rfl (fun ls' hl' => hn _ _ _ hk ls' H locs (zLs.set (w := zR a) hls.1.2 hl') hW)
set_option maxHeartbeats 1000000 in
theorem zs_iinc {k : Nat} {n : Int} (hF : zFr p s m args c cc own nL Z (zA Z)) (hO : ∀ x, zMet l d x) (hret : meth.sig.returnType = ret) (hlocks : meth.locks = false) {Q : zP} {K : zK} {nx : zX} {pc x y z : Nat} {v : Int} {lx : List Nat} (hck : zechk own cc ret cd (.iinc k n, pc, x, y, z, v, lx) = true)
    (hK : ∀ t ls st g, K t ls st g → ∀ e', cd[t]? = some e' → zGo p l e d s m args below meth c (zEnd below Z Q args s) Z (zA Z) s.heap nL e'.2.1 ls st g)
    (hn : ∀ ls st g, nx ls st g → zGo p l e d s m args below meth c (zEnd below Z Q args s) Z (zA Z) s.heap nL (pc + 3) ls st g)
    {ls st : List zV} {g : zM} (h : zstep (zC d) Q K (.iinc k n, pc, x, y, z, v, lx) nx ls st g) : zGo p l e d s m args below meth c (zEnd below Z Q args s) Z (zA Z) s.heap nL pc ls st g := by
  obtain ⟨hx, hb, hml, hown, hts, ⟨hKK, hN⟩, hin, hA⟩ := id hF
  have hD : ∀ g, va_D (zA Z) (zws Z g) := fun g => zws_D hin hA
  have hck := hck
  simp only [zechk, zlen, Bool.and_eq_true, and_true] at hck
  intro real H locs hls hW
  obtain ⟨w, hw, hi⟩ := zget_spec _ _ h
  rcases w with q | q | q | q <;> first | exact False.elim hi | skip
  obtain ⟨hlt, hk⟩ := zset_spec _ _ _ hi
  obtain ⟨j, hj⟩ := List.getElem?_of_mem (zll_mem (ad := Z.2.2) (q := (k, Value.int (zJ q))).mpr ⟨zI q, hw, rfl, by simp, rfl⟩)
  exact lv_iinc (v := zJ (q + n)) hx hb (of_decide_eq_true hck) hls.has hj (zJ_add q n) (by rw [← hls.1.2]; exact hlt) rfl (fun ls' hl' => hn _ _ _ hk ls' H locs (zLs.set (w := zI (q + n)) hls.1.2 hl') hW)
set_option maxHeartbeats 1000000 in
theorem zs_iadd (hF : zFr p s m args c cc own nL Z (zA Z)) (hO : ∀ x, zMet l d x) (hret : meth.sig.returnType = ret) (hlocks : meth.locks = false) {Q : zP} {K : zK} {nx : zX} {pc x y z : Nat} {v : Int} {lx : List Nat} (hck : zechk own cc ret cd (.iadd, pc, x, y, z, v, lx) = true)
    (hK : ∀ t ls st g, K t ls st g → ∀ e', cd[t]? = some e' → zGo p l e d s m args below meth c (zEnd below Z Q args s) Z (zA Z) s.heap nL e'.2.1 ls st g)
    (hn : ∀ ls st g, nx ls st g → zGo p l e d s m args below meth c (zEnd below Z Q args s) Z (zA Z) s.heap nL (pc + 1) ls st g)
    {ls st : List zV} {g : zM} (h : zstep (zC d) Q K (.iadd, pc, x, y, z, v, lx) nx ls st g) : zGo p l e d s m args below meth c (zEnd below Z Q args s) Z (zA Z) s.heap nL pc ls st g := by
  obtain ⟨hx, hb, hml, hown, hts, ⟨hKK, hN⟩, hin, hA⟩ := id hF
  have hD : ∀ g, va_D (zA Z) (zws Z g) := fun g => zws_D hin hA
  have hck := hck
  simp only [zechk, zlen, Bool.and_eq_true, and_true] at hck
  intro real H locs hls hW
  rcases st with _ | ⟨b | b | b | b, _ | ⟨a | a | a | a, r⟩⟩ <;> first | exact False.elim h | skip
  exact lv_iadd hx hb (of_decide_eq_true hck) (by rw [zJ_add]; exact hn _ _ _ h real H locs hls hW)
set_option maxHeartbeats 1000000 in
theorem zs_isub (hF : zFr p s m args c cc own nL Z (zA Z)) (hO : ∀ x, zMet l d x) (hret : meth.sig.returnType = ret) (hlocks : meth.locks = false) {Q : zP} {K : zK} {nx : zX} {pc x y z : Nat} {v : Int} {lx : List Nat} (hck : zechk own cc ret cd (.isub, pc, x, y, z, v, lx) = true)
    (hK : ∀ t ls st g, K t ls st g → ∀ e', cd[t]? = some e' → zGo p l e d s m args below meth c (zEnd below Z Q args s) Z (zA Z) s.heap nL e'.2.1 ls st g)
    (hn : ∀ ls st g, nx ls st g → zGo p l e d s m args below meth c (zEnd below Z Q args s) Z (zA Z) s.heap nL (pc + 1) ls st g)
    {ls st : List zV} {g : zM} (h : zstep (zC d) Q K (.isub, pc, x, y, z, v, lx) nx ls st g) : zGo p l e d s m args below meth c (zEnd below Z Q args s) Z (zA Z) s.heap nL pc ls st g := by
  obtain ⟨hx, hb, hml, hown, hts, ⟨hKK, hN⟩, hin, hA⟩ := id hF
  have hD : ∀ g, va_D (zA Z) (zws Z g) := fun g => zws_D hin hA
  have hck := hck
  simp only [zechk, zlen, Bool.and_eq_true, and_true] at hck
  intro real H locs hls hW
  rcases st with _ | ⟨b | b | b | b, _ | ⟨a | a | a | a, r⟩⟩ <;> first | exact False.elim h | skip
  exact lv_isub hx hb (of_decide_eq_true hck) (by rw [zJ_sub]; exact hn _ _ _ h real H locs hls hW)
set_option maxHeartbeats 1000000 in
theorem zs_imul (hF : zFr p s m args c cc own nL Z (zA Z)) (hO : ∀ x, zMet l d x) (hret : meth.sig.returnType = ret) (hlocks : meth.locks = false) {Q : zP} {K : zK} {nx : zX} {pc x y z : Nat} {v : Int} {lx : List Nat} (hck : zechk own cc ret cd (.imul, pc, x, y, z, v, lx) = true)
    (hK : ∀ t ls st g, K t ls st g → ∀ e', cd[t]? = some e' → zGo p l e d s m args below meth c (zEnd below Z Q args s) Z (zA Z) s.heap nL e'.2.1 ls st g)
    (hn : ∀ ls st g, nx ls st g → zGo p l e d s m args below meth c (zEnd below Z Q args s) Z (zA Z) s.heap nL (pc + 1) ls st g)
    {ls st : List zV} {g : zM} (h : zstep (zC d) Q K (.imul, pc, x, y, z, v, lx) nx ls st g) : zGo p l e d s m args below meth c (zEnd below Z Q args s) Z (zA Z) s.heap nL pc ls st g := by
  obtain ⟨hx, hb, hml, hown, hts, ⟨hKK, hN⟩, hin, hA⟩ := id hF
  have hD : ∀ g, va_D (zA Z) (zws Z g) := fun g => zws_D hin hA
  have hck := hck
  simp only [zechk, zlen, Bool.and_eq_true, and_true] at hck
  intro real H locs hls hW
  rcases st with _ | ⟨b | b | b | b, _ | ⟨a | a | a | a, r⟩⟩ <;> first | exact False.elim h | skip
  exact lv_imul hx hb (of_decide_eq_true hck) (by rw [zJ_mul]; exact hn _ _ _ h real H locs hls hW)
set_option maxHeartbeats 1000000 in
theorem zs_iand (hF : zFr p s m args c cc own nL Z (zA Z)) (hO : ∀ x, zMet l d x) (hret : meth.sig.returnType = ret) (hlocks : meth.locks = false) {Q : zP} {K : zK} {nx : zX} {pc x y z : Nat} {v : Int} {lx : List Nat} (hck : zechk own cc ret cd (.iand, pc, x, y, z, v, lx) = true)
    (hK : ∀ t ls st g, K t ls st g → ∀ e', cd[t]? = some e' → zGo p l e d s m args below meth c (zEnd below Z Q args s) Z (zA Z) s.heap nL e'.2.1 ls st g)
    (hn : ∀ ls st g, nx ls st g → zGo p l e d s m args below meth c (zEnd below Z Q args s) Z (zA Z) s.heap nL (pc + 1) ls st g)
    {ls st : List zV} {g : zM} (h : zstep (zC d) Q K (.iand, pc, x, y, z, v, lx) nx ls st g) : zGo p l e d s m args below meth c (zEnd below Z Q args s) Z (zA Z) s.heap nL pc ls st g := by
  obtain ⟨hx, hb, hml, hown, hts, ⟨hKK, hN⟩, hin, hA⟩ := id hF
  have hD : ∀ g, va_D (zA Z) (zws Z g) := fun g => zws_D hin hA
  have hck := hck
  simp only [zechk, zlen, Bool.and_eq_true, and_true] at hck
  intro real H locs hls hW
  rcases st with _ | ⟨b | b | b | b, _ | ⟨a | a | a | a, r⟩⟩ <;> first | exact False.elim h | skip
  exact lv_iand hx hb (of_decide_eq_true hck) (by rw [zJ_iand]; exact hn _ _ _ h real H locs hls hW)
set_option maxHeartbeats 1000000 in
theorem zs_ior (hF : zFr p s m args c cc own nL Z (zA Z)) (hO : ∀ x, zMet l d x) (hret : meth.sig.returnType = ret) (hlocks : meth.locks = false) {Q : zP} {K : zK} {nx : zX} {pc x y z : Nat} {v : Int} {lx : List Nat} (hck : zechk own cc ret cd (.ior, pc, x, y, z, v, lx) = true)
    (hK : ∀ t ls st g, K t ls st g → ∀ e', cd[t]? = some e' → zGo p l e d s m args below meth c (zEnd below Z Q args s) Z (zA Z) s.heap nL e'.2.1 ls st g)
    (hn : ∀ ls st g, nx ls st g → zGo p l e d s m args below meth c (zEnd below Z Q args s) Z (zA Z) s.heap nL (pc + 1) ls st g)
    {ls st : List zV} {g : zM} (h : zstep (zC d) Q K (.ior, pc, x, y, z, v, lx) nx ls st g) : zGo p l e d s m args below meth c (zEnd below Z Q args s) Z (zA Z) s.heap nL pc ls st g := by
  obtain ⟨hx, hb, hml, hown, hts, ⟨hKK, hN⟩, hin, hA⟩ := id hF
  have hD : ∀ g, va_D (zA Z) (zws Z g) := fun g => zws_D hin hA
  have hck := hck
  simp only [zechk, zlen, Bool.and_eq_true, and_true] at hck
  intro real H locs hls hW
  rcases st with _ | ⟨b | b | b | b, _ | ⟨a | a | a | a, r⟩⟩ <;> first | exact False.elim h | skip
  exact lv_ior hx hb (of_decide_eq_true hck) (by rw [zJ_ior]; exact hn _ _ _ h real H locs hls hW)
set_option maxHeartbeats 1000000 in
theorem zs_ixor (hF : zFr p s m args c cc own nL Z (zA Z)) (hO : ∀ x, zMet l d x) (hret : meth.sig.returnType = ret) (hlocks : meth.locks = false) {Q : zP} {K : zK} {nx : zX} {pc x y z : Nat} {v : Int} {lx : List Nat} (hck : zechk own cc ret cd (.ixor, pc, x, y, z, v, lx) = true)
    (hK : ∀ t ls st g, K t ls st g → ∀ e', cd[t]? = some e' → zGo p l e d s m args below meth c (zEnd below Z Q args s) Z (zA Z) s.heap nL e'.2.1 ls st g)
    (hn : ∀ ls st g, nx ls st g → zGo p l e d s m args below meth c (zEnd below Z Q args s) Z (zA Z) s.heap nL (pc + 1) ls st g)
    {ls st : List zV} {g : zM} (h : zstep (zC d) Q K (.ixor, pc, x, y, z, v, lx) nx ls st g) : zGo p l e d s m args below meth c (zEnd below Z Q args s) Z (zA Z) s.heap nL pc ls st g := by
  obtain ⟨hx, hb, hml, hown, hts, ⟨hKK, hN⟩, hin, hA⟩ := id hF
  have hD : ∀ g, va_D (zA Z) (zws Z g) := fun g => zws_D hin hA
  have hck := hck
  simp only [zechk, zlen, Bool.and_eq_true, and_true] at hck
  intro real H locs hls hW
  rcases st with _ | ⟨b | b | b | b, _ | ⟨a | a | a | a, r⟩⟩ <;> first | exact False.elim h | skip
  exact lv_ixor hx hb (of_decide_eq_true hck) (by rw [zJ_ixor]; exact hn _ _ _ h real H locs hls hW)
set_option maxHeartbeats 1000000 in
theorem zs_ishl (hF : zFr p s m args c cc own nL Z (zA Z)) (hO : ∀ x, zMet l d x) (hret : meth.sig.returnType = ret) (hlocks : meth.locks = false) {Q : zP} {K : zK} {nx : zX} {pc x y z : Nat} {v : Int} {lx : List Nat} (hck : zechk own cc ret cd (.ishl, pc, x, y, z, v, lx) = true)
    (hK : ∀ t ls st g, K t ls st g → ∀ e', cd[t]? = some e' → zGo p l e d s m args below meth c (zEnd below Z Q args s) Z (zA Z) s.heap nL e'.2.1 ls st g)
    (hn : ∀ ls st g, nx ls st g → zGo p l e d s m args below meth c (zEnd below Z Q args s) Z (zA Z) s.heap nL (pc + 1) ls st g)
    {ls st : List zV} {g : zM} (h : zstep (zC d) Q K (.ishl, pc, x, y, z, v, lx) nx ls st g) : zGo p l e d s m args below meth c (zEnd below Z Q args s) Z (zA Z) s.heap nL pc ls st g := by
  obtain ⟨hx, hb, hml, hown, hts, ⟨hKK, hN⟩, hin, hA⟩ := id hF
  have hD : ∀ g, va_D (zA Z) (zws Z g) := fun g => zws_D hin hA
  have hck := hck
  simp only [zechk, zlen, Bool.and_eq_true, and_true] at hck
  intro real H locs hls hW
  rcases st with _ | ⟨b | b | b | b, _ | ⟨a | a | a | a, r⟩⟩ <;> first | exact False.elim h | skip
  exact lv_ishl hx hb (of_decide_eq_true hck) (by rw [zJ_ishl]; exact hn _ _ _ h real H locs hls hW)
set_option maxHeartbeats 1000000 in
theorem zs_ishr (hF : zFr p s m args c cc own nL Z (zA Z)) (hO : ∀ x, zMet l d x) (hret : meth.sig.returnType = ret) (hlocks : meth.locks = false) {Q : zP} {K : zK} {nx : zX} {pc x y z : Nat} {v : Int} {lx : List Nat} (hck : zechk own cc ret cd (.ishr, pc, x, y, z, v, lx) = true)
    (hK : ∀ t ls st g, K t ls st g → ∀ e', cd[t]? = some e' → zGo p l e d s m args below meth c (zEnd below Z Q args s) Z (zA Z) s.heap nL e'.2.1 ls st g)
    (hn : ∀ ls st g, nx ls st g → zGo p l e d s m args below meth c (zEnd below Z Q args s) Z (zA Z) s.heap nL (pc + 1) ls st g)
    {ls st : List zV} {g : zM} (h : zstep (zC d) Q K (.ishr, pc, x, y, z, v, lx) nx ls st g) : zGo p l e d s m args below meth c (zEnd below Z Q args s) Z (zA Z) s.heap nL pc ls st g := by
  obtain ⟨hx, hb, hml, hown, hts, ⟨hKK, hN⟩, hin, hA⟩ := id hF
  have hD : ∀ g, va_D (zA Z) (zws Z g) := fun g => zws_D hin hA
  have hck := hck
  simp only [zechk, zlen, Bool.and_eq_true, and_true] at hck
  intro real H locs hls hW
  rcases st with _ | ⟨b | b | b | b, _ | ⟨a | a | a | a, r⟩⟩ <;> first | exact False.elim h | skip
  exact lv_ishr hx hb (of_decide_eq_true hck) (by rw [zJ_ishr]; exact hn _ _ _ h real H locs hls hW)
set_option maxHeartbeats 1000000 in
theorem zs_iushr (hF : zFr p s m args c cc own nL Z (zA Z)) (hO : ∀ x, zMet l d x) (hret : meth.sig.returnType = ret) (hlocks : meth.locks = false) {Q : zP} {K : zK} {nx : zX} {pc x y z : Nat} {v : Int} {lx : List Nat} (hck : zechk own cc ret cd (.iushr, pc, x, y, z, v, lx) = true)
    (hK : ∀ t ls st g, K t ls st g → ∀ e', cd[t]? = some e' → zGo p l e d s m args below meth c (zEnd below Z Q args s) Z (zA Z) s.heap nL e'.2.1 ls st g)
    (hn : ∀ ls st g, nx ls st g → zGo p l e d s m args below meth c (zEnd below Z Q args s) Z (zA Z) s.heap nL (pc + 1) ls st g)
    {ls st : List zV} {g : zM} (h : zstep (zC d) Q K (.iushr, pc, x, y, z, v, lx) nx ls st g) : zGo p l e d s m args below meth c (zEnd below Z Q args s) Z (zA Z) s.heap nL pc ls st g := by
  obtain ⟨hx, hb, hml, hown, hts, ⟨hKK, hN⟩, hin, hA⟩ := id hF
  have hD : ∀ g, va_D (zA Z) (zws Z g) := fun g => zws_D hin hA
  have hck := hck
  simp only [zechk, zlen, Bool.and_eq_true, and_true] at hck
  intro real H locs hls hW
  rcases st with _ | ⟨b | b | b | b, _ | ⟨a | a | a | a, r⟩⟩ <;> first | exact False.elim h | skip
  exact lv_iushr hx hb (of_decide_eq_true hck) (zJ_of _).symm (hn _ _ _ h real H locs hls hW)
set_option maxHeartbeats 1000000 in
theorem zs_idiv (hF : zFr p s m args c cc own nL Z (zA Z)) (hO : ∀ x, zMet l d x) (hret : meth.sig.returnType = ret) (hlocks : meth.locks = false) {Q : zP} {K : zK} {nx : zX} {pc x y z : Nat} {v : Int} {lx : List Nat} (hck : zechk own cc ret cd (.idiv, pc, x, y, z, v, lx) = true)
    (hK : ∀ t ls st g, K t ls st g → ∀ e', cd[t]? = some e' → zGo p l e d s m args below meth c (zEnd below Z Q args s) Z (zA Z) s.heap nL e'.2.1 ls st g)
    (hn : ∀ ls st g, nx ls st g → zGo p l e d s m args below meth c (zEnd below Z Q args s) Z (zA Z) s.heap nL (pc + 1) ls st g)
    {ls st : List zV} {g : zM} (h : zstep (zC d) Q K (.idiv, pc, x, y, z, v, lx) nx ls st g) : zGo p l e d s m args below meth c (zEnd below Z Q args s) Z (zA Z) s.heap nL pc ls st g := by
  obtain ⟨hx, hb, hml, hown, hts, ⟨hKK, hN⟩, hin, hA⟩ := id hF
  have hD : ∀ g, va_D (zA Z) (zws Z g) := fun g => zws_D hin hA
  have hck := hck
  simp only [zechk, zlen, Bool.and_eq_true, and_true] at hck
  intro real H locs hls hW
  rcases st with _ | ⟨b | b | b | b, _ | ⟨a | a | a | a, r⟩⟩ <;> first | exact False.elim h | skip
  have hne : ¬ zJ b = 0 := fun q => h.1.2 ((zJ_eq h.1.1 zin0).mp (q.trans zJ_0.symm))
  exact lv_idiv hx hb (of_decide_eq_true hck) hne (by rw [zJ_idiv]; exact hn _ _ _ h.2 real H locs hls hW)
set_option maxHeartbeats 1000000 in
theorem zs_irem (hF : zFr p s m args c cc own nL Z (zA Z)) (hO : ∀ x, zMet l d x) (hret : meth.sig.returnType = ret) (hlocks : meth.locks = false) {Q : zP} {K : zK} {nx : zX} {pc x y z : Nat} {v : Int} {lx : List Nat} (hck : zechk own cc ret cd (.irem, pc, x, y, z, v, lx) = true)
    (hK : ∀ t ls st g, K t ls st g → ∀ e', cd[t]? = some e' → zGo p l e d s m args below meth c (zEnd below Z Q args s) Z (zA Z) s.heap nL e'.2.1 ls st g)
    (hn : ∀ ls st g, nx ls st g → zGo p l e d s m args below meth c (zEnd below Z Q args s) Z (zA Z) s.heap nL (pc + 1) ls st g)
    {ls st : List zV} {g : zM} (h : zstep (zC d) Q K (.irem, pc, x, y, z, v, lx) nx ls st g) : zGo p l e d s m args below meth c (zEnd below Z Q args s) Z (zA Z) s.heap nL pc ls st g := by
  obtain ⟨hx, hb, hml, hown, hts, ⟨hKK, hN⟩, hin, hA⟩ := id hF
  have hD : ∀ g, va_D (zA Z) (zws Z g) := fun g => zws_D hin hA
  have hck := hck
  simp only [zechk, zlen, Bool.and_eq_true, and_true] at hck
  intro real H locs hls hW
  rcases st with _ | ⟨b | b | b | b, _ | ⟨a | a | a | a, r⟩⟩ <;> first | exact False.elim h | skip
  have hne : ¬ zJ b = 0 := fun q => h.1.2 ((zJ_eq h.1.1 zin0).mp (q.trans zJ_0.symm))
  exact lv_irem hx hb (of_decide_eq_true hck) hne (by rw [zJ_irem]; exact hn _ _ _ h.2 real H locs hls hW)
set_option maxHeartbeats 1000000 in
theorem zs_i2c (hF : zFr p s m args c cc own nL Z (zA Z)) (hO : ∀ x, zMet l d x) (hret : meth.sig.returnType = ret) (hlocks : meth.locks = false) {Q : zP} {K : zK} {nx : zX} {pc x y z : Nat} {v : Int} {lx : List Nat} (hck : zechk own cc ret cd (.i2c, pc, x, y, z, v, lx) = true)
    (hK : ∀ t ls st g, K t ls st g → ∀ e', cd[t]? = some e' → zGo p l e d s m args below meth c (zEnd below Z Q args s) Z (zA Z) s.heap nL e'.2.1 ls st g)
    (hn : ∀ ls st g, nx ls st g → zGo p l e d s m args below meth c (zEnd below Z Q args s) Z (zA Z) s.heap nL (pc + 1) ls st g)
    {ls st : List zV} {g : zM} (h : zstep (zC d) Q K (.i2c, pc, x, y, z, v, lx) nx ls st g) : zGo p l e d s m args below meth c (zEnd below Z Q args s) Z (zA Z) s.heap nL pc ls st g := by
  obtain ⟨hx, hb, hml, hown, hts, ⟨hKK, hN⟩, hin, hA⟩ := id hF
  have hD : ∀ g, va_D (zA Z) (zws Z g) := fun g => zws_D hin hA
  have hck := hck
  simp only [zechk, zlen, Bool.and_eq_true, and_true] at hck
  intro real H locs hls hW
  rcases st with _ | ⟨a | a | a | a, r⟩ <;> first | exact False.elim h | skip
  exact lv_i2c hx hb (of_decide_eq_true hck) (zi2c a) (hn _ _ _ h real H locs hls hW)
set_option maxHeartbeats 1000000 in
theorem zs_i2l (hF : zFr p s m args c cc own nL Z (zA Z)) (hO : ∀ x, zMet l d x) (hret : meth.sig.returnType = ret) (hlocks : meth.locks = false) {Q : zP} {K : zK} {nx : zX} {pc x y z : Nat} {v : Int} {lx : List Nat} (hck : zechk own cc ret cd (.i2l, pc, x, y, z, v, lx) = true)
    (hK : ∀ t ls st g, K t ls st g → ∀ e', cd[t]? = some e' → zGo p l e d s m args below meth c (zEnd below Z Q args s) Z (zA Z) s.heap nL e'.2.1 ls st g)
    (hn : ∀ ls st g, nx ls st g → zGo p l e d s m args below meth c (zEnd below Z Q args s) Z (zA Z) s.heap nL (pc + 1) ls st g)
    {ls st : List zV} {g : zM} (h : zstep (zC d) Q K (.i2l, pc, x, y, z, v, lx) nx ls st g) : zGo p l e d s m args below meth c (zEnd below Z Q args s) Z (zA Z) s.heap nL pc ls st g := by
  obtain ⟨hx, hb, hml, hown, hts, ⟨hKK, hN⟩, hin, hA⟩ := id hF
  have hD : ∀ g, va_D (zA Z) (zws Z g) := fun g => zws_D hin hA
  have hck := hck
  simp only [zechk, zlen, Bool.and_eq_true, and_true] at hck
  intro real H locs hls hW
  rcases st with _ | ⟨a | a | a | a, r⟩ <;> first | exact False.elim h | skip
  exact lv_i2l hx hb (of_decide_eq_true hck) (zJL_of _).symm (hn _ _ _ h real H locs hls hW)
set_option maxHeartbeats 1000000 in
theorem zs_l2i (hF : zFr p s m args c cc own nL Z (zA Z)) (hO : ∀ x, zMet l d x) (hret : meth.sig.returnType = ret) (hlocks : meth.locks = false) {Q : zP} {K : zK} {nx : zX} {pc x y z : Nat} {v : Int} {lx : List Nat} (hck : zechk own cc ret cd (.l2i, pc, x, y, z, v, lx) = true)
    (hK : ∀ t ls st g, K t ls st g → ∀ e', cd[t]? = some e' → zGo p l e d s m args below meth c (zEnd below Z Q args s) Z (zA Z) s.heap nL e'.2.1 ls st g)
    (hn : ∀ ls st g, nx ls st g → zGo p l e d s m args below meth c (zEnd below Z Q args s) Z (zA Z) s.heap nL (pc + 1) ls st g)
    {ls st : List zV} {g : zM} (h : zstep (zC d) Q K (.l2i, pc, x, y, z, v, lx) nx ls st g) : zGo p l e d s m args below meth c (zEnd below Z Q args s) Z (zA Z) s.heap nL pc ls st g := by
  obtain ⟨hx, hb, hml, hown, hts, ⟨hKK, hN⟩, hin, hA⟩ := id hF
  have hD : ∀ g, va_D (zA Z) (zws Z g) := fun g => zws_D hin hA
  have hck := hck
  simp only [zechk, zlen, Bool.and_eq_true, and_true] at hck
  intro real H locs hls hW
  rcases st with _ | ⟨a | a | a | a, r⟩ <;> first | exact False.elim h | skip
  exact lv_l2i hx hb (of_decide_eq_true hck) (zJ_of _).symm (hn _ _ _ h real H locs hls hW)
set_option maxHeartbeats 1000000 in
theorem zs_lor (hF : zFr p s m args c cc own nL Z (zA Z)) (hO : ∀ x, zMet l d x) (hret : meth.sig.returnType = ret) (hlocks : meth.locks = false) {Q : zP} {K : zK} {nx : zX} {pc x y z : Nat} {v : Int} {lx : List Nat} (hck : zechk own cc ret cd (.lor, pc, x, y, z, v, lx) = true)
    (hK : ∀ t ls st g, K t ls st g → ∀ e', cd[t]? = some e' → zGo p l e d s m args below meth c (zEnd below Z Q args s) Z (zA Z) s.heap nL e'.2.1 ls st g)
    (hn : ∀ ls st g, nx ls st g → zGo p l e d s m args below meth c (zEnd below Z Q args s) Z (zA Z) s.heap nL (pc + 1) ls st g)
    {ls st : List zV} {g : zM} (h : zstep (zC d) Q K (.lor, pc, x, y, z, v, lx) nx ls st g) : zGo p l e d s m args below meth c (zEnd below Z Q args s) Z (zA Z) s.heap nL pc ls st g := by
  obtain ⟨hx, hb, hml, hown, hts, ⟨hKK, hN⟩, hin, hA⟩ := id hF
  have hD : ∀ g, va_D (zA Z) (zws Z g) := fun g => zws_D hin hA
  have hck := hck
  simp only [zechk, zlen, Bool.and_eq_true, and_true] at hck
  intro real H locs hls hW
  rcases st with _ | ⟨b | b | b | b, _ | ⟨a | a | a | a, r⟩⟩ <;> first | exact False.elim h | skip
  exact lv_lor hx hb (of_decide_eq_true hck) (by rw [zJ_lor]; exact hn _ _ _ h real H locs hls hW)
set_option maxHeartbeats 1000000 in
theorem zs_land (hF : zFr p s m args c cc own nL Z (zA Z)) (hO : ∀ x, zMet l d x) (hret : meth.sig.returnType = ret) (hlocks : meth.locks = false) {Q : zP} {K : zK} {nx : zX} {pc x y z : Nat} {v : Int} {lx : List Nat} (hck : zechk own cc ret cd (.land, pc, x, y, z, v, lx) = true)
    (hK : ∀ t ls st g, K t ls st g → ∀ e', cd[t]? = some e' → zGo p l e d s m args below meth c (zEnd below Z Q args s) Z (zA Z) s.heap nL e'.2.1 ls st g)
    (hn : ∀ ls st g, nx ls st g → zGo p l e d s m args below meth c (zEnd below Z Q args s) Z (zA Z) s.heap nL (pc + 1) ls st g)
    {ls st : List zV} {g : zM} (h : zstep (zC d) Q K (.land, pc, x, y, z, v, lx) nx ls st g) : zGo p l e d s m args below meth c (zEnd below Z Q args s) Z (zA Z) s.heap nL pc ls st g := by
  obtain ⟨hx, hb, hml, hown, hts, ⟨hKK, hN⟩, hin, hA⟩ := id hF
  have hD : ∀ g, va_D (zA Z) (zws Z g) := fun g => zws_D hin hA
  have hck := hck
  simp only [zechk, zlen, Bool.and_eq_true, and_true] at hck
  intro real H locs hls hW
  rcases st with _ | ⟨b | b | b | b, _ | ⟨a | a | a | a, r⟩⟩ <;> first | exact False.elim h | skip
  exact lv_land hx hb (of_decide_eq_true hck) (by rw [zJ_land]; exact hn _ _ _ h real H locs hls hW)
set_option maxHeartbeats 1000000 in
theorem zs_lshl (hF : zFr p s m args c cc own nL Z (zA Z)) (hO : ∀ x, zMet l d x) (hret : meth.sig.returnType = ret) (hlocks : meth.locks = false) {Q : zP} {K : zK} {nx : zX} {pc x y z : Nat} {v : Int} {lx : List Nat} (hck : zechk own cc ret cd (.lshl, pc, x, y, z, v, lx) = true)
    (hK : ∀ t ls st g, K t ls st g → ∀ e', cd[t]? = some e' → zGo p l e d s m args below meth c (zEnd below Z Q args s) Z (zA Z) s.heap nL e'.2.1 ls st g)
    (hn : ∀ ls st g, nx ls st g → zGo p l e d s m args below meth c (zEnd below Z Q args s) Z (zA Z) s.heap nL (pc + 1) ls st g)
    {ls st : List zV} {g : zM} (h : zstep (zC d) Q K (.lshl, pc, x, y, z, v, lx) nx ls st g) : zGo p l e d s m args below meth c (zEnd below Z Q args s) Z (zA Z) s.heap nL pc ls st g := by
  obtain ⟨hx, hb, hml, hown, hts, ⟨hKK, hN⟩, hin, hA⟩ := id hF
  have hD : ∀ g, va_D (zA Z) (zws Z g) := fun g => zws_D hin hA
  have hck := hck
  simp only [zechk, zlen, Bool.and_eq_true, and_true] at hck
  intro real H locs hls hW
  rcases st with _ | ⟨b | b | b | b, _ | ⟨a | a | a | a, r⟩⟩ <;> first | exact False.elim h | skip
  exact lv_lshl hx hb (of_decide_eq_true hck) (zJL_of _).symm (hn _ _ _ h real H locs hls hW)
set_option maxHeartbeats 1000000 in
theorem zs_lushr (hF : zFr p s m args c cc own nL Z (zA Z)) (hO : ∀ x, zMet l d x) (hret : meth.sig.returnType = ret) (hlocks : meth.locks = false) {Q : zP} {K : zK} {nx : zX} {pc x y z : Nat} {v : Int} {lx : List Nat} (hck : zechk own cc ret cd (.lushr, pc, x, y, z, v, lx) = true)
    (hK : ∀ t ls st g, K t ls st g → ∀ e', cd[t]? = some e' → zGo p l e d s m args below meth c (zEnd below Z Q args s) Z (zA Z) s.heap nL e'.2.1 ls st g)
    (hn : ∀ ls st g, nx ls st g → zGo p l e d s m args below meth c (zEnd below Z Q args s) Z (zA Z) s.heap nL (pc + 1) ls st g)
    {ls st : List zV} {g : zM} (h : zstep (zC d) Q K (.lushr, pc, x, y, z, v, lx) nx ls st g) : zGo p l e d s m args below meth c (zEnd below Z Q args s) Z (zA Z) s.heap nL pc ls st g := by
  obtain ⟨hx, hb, hml, hown, hts, ⟨hKK, hN⟩, hin, hA⟩ := id hF
  have hD : ∀ g, va_D (zA Z) (zws Z g) := fun g => zws_D hin hA
  have hck := hck
  simp only [zechk, zlen, Bool.and_eq_true, and_true] at hck
  intro real H locs hls hW
  rcases st with _ | ⟨b | b | b | b, _ | ⟨a | a | a | a, r⟩⟩ <;> first | exact False.elim h | skip
  exact lv_lushr hx hb (of_decide_eq_true hck) (zJL_of _).symm (hn _ _ _ h real H locs hls hW)
set_option maxHeartbeats 1000000 in
theorem zs_dup (hF : zFr p s m args c cc own nL Z (zA Z)) (hO : ∀ x, zMet l d x) (hret : meth.sig.returnType = ret) (hlocks : meth.locks = false) {Q : zP} {K : zK} {nx : zX} {pc x y z : Nat} {v : Int} {lx : List Nat} (hck : zechk own cc ret cd (.dup, pc, x, y, z, v, lx) = true)
    (hK : ∀ t ls st g, K t ls st g → ∀ e', cd[t]? = some e' → zGo p l e d s m args below meth c (zEnd below Z Q args s) Z (zA Z) s.heap nL e'.2.1 ls st g)
    (hn : ∀ ls st g, nx ls st g → zGo p l e d s m args below meth c (zEnd below Z Q args s) Z (zA Z) s.heap nL (pc + 1) ls st g)
    {ls st : List zV} {g : zM} (h : zstep (zC d) Q K (.dup, pc, x, y, z, v, lx) nx ls st g) : zGo p l e d s m args below meth c (zEnd below Z Q args s) Z (zA Z) s.heap nL pc ls st g := by
  obtain ⟨hx, hb, hml, hown, hts, ⟨hKK, hN⟩, hin, hA⟩ := id hF
  have hD : ∀ g, va_D (zA Z) (zws Z g) := fun g => zws_D hin hA
  have hck := hck
  simp only [zechk, zlen, Bool.and_eq_true, and_true] at hck
  intro real H locs hls hW
  rcases st with _ | ⟨a | (_ | a) | a | a, r⟩ <;> first | exact False.elim h | skip
  · exact lv_dup hx hb (of_decide_eq_true hck) rfl (hn _ _ _ h real H locs hls hW)
  · exact lv_dup hx hb (of_decide_eq_true hck) rfl (hn _ _ _ h real H locs hls hW)
  · exact lv_dup hx hb (of_decide_eq_true hck) rfl (hn _ _ _ h real H locs hls hW)
set_option maxHeartbeats 1000000 in
theorem zs_dup2 (hF : zFr p s m args c cc own nL Z (zA Z)) (hO : ∀ x, zMet l d x) (hret : meth.sig.returnType = ret) (hlocks : meth.locks = false) {Q : zP} {K : zK} {nx : zX} {pc x y z : Nat} {v : Int} {lx : List Nat} (hck : zechk own cc ret cd (.dup2, pc, x, y, z, v, lx) = true)
    (hK : ∀ t ls st g, K t ls st g → ∀ e', cd[t]? = some e' → zGo p l e d s m args below meth c (zEnd below Z Q args s) Z (zA Z) s.heap nL e'.2.1 ls st g)
    (hn : ∀ ls st g, nx ls st g → zGo p l e d s m args below meth c (zEnd below Z Q args s) Z (zA Z) s.heap nL (pc + 1) ls st g)
    {ls st : List zV} {g : zM} (h : zstep (zC d) Q K (.dup2, pc, x, y, z, v, lx) nx ls st g) : zGo p l e d s m args below meth c (zEnd below Z Q args s) Z (zA Z) s.heap nL pc ls st g := by
  obtain ⟨hx, hb, hml, hown, hts, ⟨hKK, hN⟩, hin, hA⟩ := id hF
  have hD : ∀ g, va_D (zA Z) (zws Z g) := fun g => zws_D hin hA
  have hck := hck
  simp only [zechk, zlen, Bool.and_eq_true, and_true] at hck
  intro real H locs hls hW
  rcases st with _ | ⟨b | b | b | b, _ | ⟨a | (_ | a) | a | a, r⟩⟩ <;> first | exact False.elim h | skip
  · exact lv_dup2_11 hx hb (of_decide_eq_true hck) rfl rfl (hn _ _ _ h real H locs hls hW)
  · exact lv_dup2_11 hx hb (of_decide_eq_true hck) rfl rfl (hn _ _ _ h real H locs hls hW)
set_option maxHeartbeats 1000000 in
theorem zs_ifCond {co : Jvm.ClassFile.Cond} {off : Int} (hF : zFr p s m args c cc own nL Z (zA Z)) (hO : ∀ x, zMet l d x) (hret : meth.sig.returnType = ret) (hlocks : meth.locks = false) {Q : zP} {K : zK} {nx : zX} {pc x y z : Nat} {v : Int} {lx : List Nat} (hck : zechk own cc ret cd (.ifCond co off, pc, x, y, z, v, lx) = true)
    (hK : ∀ t ls st g, K t ls st g → ∀ e', cd[t]? = some e' → zGo p l e d s m args below meth c (zEnd below Z Q args s) Z (zA Z) s.heap nL e'.2.1 ls st g)
    (hn : ∀ ls st g, nx ls st g → zGo p l e d s m args below meth c (zEnd below Z Q args s) Z (zA Z) s.heap nL (pc + 3) ls st g)
    {ls st : List zV} {g : zM} (h : zstep (zC d) Q K (.ifCond co off, pc, x, y, z, v, lx) nx ls st g) : zGo p l e d s m args below meth c (zEnd below Z Q args s) Z (zA Z) s.heap nL pc ls st g := by
  obtain ⟨hx, hb, hml, hown, hts, ⟨hKK, hN⟩, hin, hA⟩ := id hF
  have hD : ∀ g, va_D (zA Z) (zws Z g) := fun g => zws_D hin hA
  have hck := hck
  simp only [zechk, zlen, Bool.and_eq_true, and_true] at hck
  intro real H locs hls hW
  rcases st with _ | ⟨a | a | a | a, r⟩ <;> first | exact False.elim h | skip
  obtain ⟨e1, he1, ho⟩ := ztg_spec hck.2
  obtain ⟨hz, hi⟩ := h
  have k1 := fun q => hK x ls r g q e1 he1 real H locs hls hW
  have k2 := fun q => hn ls r g q real H locs hls hW
  have ceq : zJ a = 0 ↔ a = 0 := by rw [← zJ_0]; exact zJ_eq hz zin0
  have clt : zJ a < 0 ↔ a < 0 := by rw [← zJ_0]; exact zJ_lt hz zin0
  have cgt : 0 < zJ a ↔ 0 < a := by rw [← zJ_0]; exact zJ_lt zin0 hz
  have cle : zJ a ≤ 0 ↔ a ≤ 0 := by rw [← zJ_0]; exact zJ_le hz zin0
  have cge : 0 ≤ zJ a ↔ 0 ≤ a := by rw [← zJ_0]; exact zJ_le zin0 hz
  cases co
  · exact lv_if_eq hx hb (of_decide_eq_true hck.1) ho (fun q => k1 (hi.1 (ceq.mp q))) (fun q => k2 (hi.2 (fun w => q (ceq.mpr w))))
  · exact lv_if_ne hx hb (of_decide_eq_true hck.1) ho (fun q => k1 (hi.1 (fun w => q (ceq.mpr w)))) (fun q => k2 (hi.2 (ceq.mp q)))
  · exact lv_if_lt hx hb (of_decide_eq_true hck.1) ho (fun q => k1 (hi.1 (clt.mp q))) (fun q => k2 (hi.2 (fun w => q (clt.mpr w))))
  · exact lv_if_ge hx hb (of_decide_eq_true hck.1) ho (fun q => k1 (hi.1 (cge.mp q))) (fun q => k2 (hi.2 (fun w => q (cge.mpr w))))
  · exact lv_if_gt hx hb (of_decide_eq_true hck.1) ho (fun q => k1 (hi.1 (cgt.mp q))) (fun q => k2 (hi.2 (fun w => q (cgt.mpr w))))
  · exact lv_if_le hx hb (of_decide_eq_true hck.1) ho (fun q => k1 (hi.1 (cle.mp q))) (fun q => k2 (hi.2 (fun w => q (cle.mpr w))))
set_option maxHeartbeats 1000000 in
theorem zs_if_icmp {co : Jvm.ClassFile.Cond} {off : Int} (hF : zFr p s m args c cc own nL Z (zA Z)) (hO : ∀ x, zMet l d x) (hret : meth.sig.returnType = ret) (hlocks : meth.locks = false) {Q : zP} {K : zK} {nx : zX} {pc x y z : Nat} {v : Int} {lx : List Nat} (hck : zechk own cc ret cd (.if_icmp co off, pc, x, y, z, v, lx) = true)
    (hK : ∀ t ls st g, K t ls st g → ∀ e', cd[t]? = some e' → zGo p l e d s m args below meth c (zEnd below Z Q args s) Z (zA Z) s.heap nL e'.2.1 ls st g)
    (hn : ∀ ls st g, nx ls st g → zGo p l e d s m args below meth c (zEnd below Z Q args s) Z (zA Z) s.heap nL (pc + 3) ls st g)
    {ls st : List zV} {g : zM} (h : zstep (zC d) Q K (.if_icmp co off, pc, x, y, z, v, lx) nx ls st g) : zGo p l e d s m args below meth c (zEnd below Z Q args s) Z (zA Z) s.heap nL pc ls st g := by
  obtain ⟨hx, hb, hml, hown, hts, ⟨hKK, hN⟩, hin, hA⟩ := id hF
  have hD : ∀ g, va_D (zA Z) (zws Z g) := fun g => zws_D hin hA
  have hck := hck
  simp only [zechk, zlen, Bool.and_eq_true, and_true] at hck
  intro real H locs hls hW
  rcases st with _ | ⟨b | b | b | b, _ | ⟨a | a | a | a, r⟩⟩ <;> first | exact False.elim h | skip
  obtain ⟨e1, he1, ho⟩ := ztg_spec hck.2
  obtain ⟨⟨hza, hzb⟩, hi⟩ := h
  have k1 := fun q => hK x ls r g q e1 he1 real H locs hls hW
  have k2 := fun q => hn ls r g q real H locs hls hW
  have ceq := zJ_eq hza hzb
  have clt := zJ_lt hza hzb
  have cgt := zJ_lt hzb hza
  have cle := zJ_le hza hzb
  have cge := zJ_le hzb hza
  cases co
  · exact lv_icmp_eq hx hb (of_decide_eq_true hck.1) ho (fun q => k1 (hi.1 (ceq.mp q))) (fun q => k2 (hi.2 (fun w => q (ceq.mpr w))))
  · exact lv_icmp_ne hx hb (of_decide_eq_true hck.1) ho (fun q => k1 (hi.1 (fun w => q (ceq.mpr w)))) (fun q => k2 (hi.2 (ceq.mp q)))
  · exact lv_icmp_lt hx hb (of_decide_eq_true hck.1) ho (fun q => k1 (hi.1 (clt.mp q))) (fun q => k2 (hi.2 (fun w => q (clt.mpr w))))
  · exact lv_icmp_ge hx hb (of_decide_eq_true hck.1) ho (fun q => k1 (hi.1 (cge.mp q))) (fun q => k2 (hi.2 (fun w => q (cge.mpr w))))
  · exact lv_icmp_gt hx hb (of_decide_eq_true hck.1) ho (fun q => k1 (hi.1 (cgt.mp q))) (fun q => k2 (hi.2 (fun w => q (cgt.mpr w))))
  · exact lv_icmp_le hx hb (of_decide_eq_true hck.1) ho (fun q => k1 (hi.1 (cle.mp q))) (fun q => k2 (hi.2 (fun w => q (cle.mpr w))))
set_option maxHeartbeats 1000000 in
theorem zs_ifnull {off : Int} (hF : zFr p s m args c cc own nL Z (zA Z)) (hO : ∀ x, zMet l d x) (hret : meth.sig.returnType = ret) (hlocks : meth.locks = false) {Q : zP} {K : zK} {nx : zX} {pc x y z : Nat} {v : Int} {lx : List Nat} (hck : zechk own cc ret cd (.ifnull off, pc, x, y, z, v, lx) = true)
    (hK : ∀ t ls st g, K t ls st g → ∀ e', cd[t]? = some e' → zGo p l e d s m args below meth c (zEnd below Z Q args s) Z (zA Z) s.heap nL e'.2.1 ls st g)
    (hn : ∀ ls st g, nx ls st g → zGo p l e d s m args below meth c (zEnd below Z Q args s) Z (zA Z) s.heap nL (pc + 3) ls st g)
    {ls st : List zV} {g : zM} (h : zstep (zC d) Q K (.ifnull off, pc, x, y, z, v, lx) nx ls st g) : zGo p l e d s m args below meth c (zEnd below Z Q args s) Z (zA Z) s.heap nL pc ls st g := by
  obtain ⟨hx, hb, hml, hown, hts, ⟨hKK, hN⟩, hin, hA⟩ := id hF
  have hD : ∀ g, va_D (zA Z) (zws Z g) := fun g => zws_D hin hA
  have hck := hck
  simp only [zechk, zlen, Bool.and_eq_true, and_true] at hck
  intro real H locs hls hW
  rcases st with _ | ⟨a | (_ | a) | a | a, r⟩ <;> first | exact False.elim h | skip
  · obtain ⟨e1, he1, ho⟩ := ztg_spec hck.2
    exact lv_ifnullN hx hb (of_decide_eq_true hck.1) ho (hK x ls r g h e1 he1 real H locs hls hW)
  · exact lv_ifnull hx hb (of_decide_eq_true hck.1) (hn ls r g h real H locs hls hW)
set_option maxHeartbeats 1000000 in
theorem zs_goto {off : Int} (hF : zFr p s m args c cc own nL Z (zA Z)) (hO : ∀ x, zMet l d x) (hret : meth.sig.returnType = ret) (hlocks : meth.locks = false) {Q : zP} {K : zK} {nx : zX} {pc x y z : Nat} {v : Int} {lx : List Nat} (hck : zechk own cc ret cd (.goto off, pc, x, y, z, v, lx) = true)
    (hK : ∀ t ls st g, K t ls st g → ∀ e', cd[t]? = some e' → zGo p l e d s m args below meth c (zEnd below Z Q args s) Z (zA Z) s.heap nL e'.2.1 ls st g)
    (hn : ∀ ls st g, nx ls st g → zGo p l e d s m args below meth c (zEnd below Z Q args s) Z (zA Z) s.heap nL (pc + 3) ls st g)
    {ls st : List zV} {g : zM} (h : zstep (zC d) Q K (.goto off, pc, x, y, z, v, lx) nx ls st g) : zGo p l e d s m args below meth c (zEnd below Z Q args s) Z (zA Z) s.heap nL pc ls st g := by
  obtain ⟨hx, hb, hml, hown, hts, ⟨hKK, hN⟩, hin, hA⟩ := id hF
  have hD : ∀ g, va_D (zA Z) (zws Z g) := fun g => zws_D hin hA
  have hck := hck
  simp only [zechk, zlen, Bool.and_eq_true, and_true] at hck
  intro real H locs hls hW
  obtain ⟨e1, he1, ho⟩ := ztg_spec hck.2
  exact lv_goto hx hb (of_decide_eq_true hck.1) ho (hK x ls st g h e1 he1 real H locs hls hW)
set_option maxHeartbeats 1000000 in
theorem zs_arraylength (hF : zFr p s m args c cc own nL Z (zA Z)) (hO : ∀ x, zMet l d x) (hret : meth.sig.returnType = ret) (hlocks : meth.locks = false) {Q : zP} {K : zK} {nx : zX} {pc x y z : Nat} {v : Int} {lx : List Nat} (hck : zechk own cc ret cd (.arraylength, pc, x, y, z, v, lx) = true)
    (hK : ∀ t ls st g, K t ls st g → ∀ e', cd[t]? = some e' → zGo p l e d s m args below meth c (zEnd below Z Q args s) Z (zA Z) s.heap nL e'.2.1 ls st g)
    (hn : ∀ ls st g, nx ls st g → zGo p l e d s m args below meth c (zEnd below Z Q args s) Z (zA Z) s.heap nL (pc + 1) ls st g)
    {ls st : List zV} {g : zM} (h : zstep (zC d) Q K (.arraylength, pc, x, y, z, v, lx) nx ls st g) : zGo p l e d s m args below meth c (zEnd below Z Q args s) Z (zA Z) s.heap nL pc ls st g := by
  obtain ⟨hx, hb, hml, hown, hts, ⟨hKK, hN⟩, hin, hA⟩ := id hF
  have hD : ∀ g, va_D (zA Z) (zws Z g) := fun g => zws_D hin hA
  have hck := hck
  simp only [zechk, zlen, Bool.and_eq_true, and_true] at hck
  intro real H locs hls hW
  rcases st with _ | ⟨a | (_ | a) | a | a, r⟩ <;> first | exact False.elim h | skip
  obtain ⟨⟨h1, h4⟩, h⟩ := h
  have hlt : a < zNC := zkd_lt h4
  have k := hn _ _ _ h real H locs hls hW
  have go : ∀ (cA : ClassId) (w : vp_A) (t0 : Nat) (ty : FieldType), zer Z (g a) a = .inl (cA, w) → w.1 = (zkd a).2 → (zty Z)[t0]? = some (cA, ty) → W p l e (zrm (d + 1)) s m args below meth c H locs 0 0 (zEnd below Z Q args s) (F0 m pc real (.ref (Z.2.2 a) :: r.map (zv Z.2.2))) := by
    intro cA w t0 ty he hw ht
    exact va_alen (v := zJ ((zkd a).2 : Int)) hx hb hKK hW.1 a t0 (by rw [zws_at hlt, he]) ht (by rw [zJ_nat, hw]) (of_decide_eq_true hck) k
  obtain ⟨k1, n⟩ : Nat × Nat := zkd a
  rcases hk : (zkd a).1 with _ | _ | _ | _ | _ | q
  · omega
  · exact go _ _ 0 _ (zer_1 (zkd_p hk)) rfl rfl
  · exact go _ _ 1 _ (zer_2 (zkd_p hk)) rfl rfl
  · exact go _ _ 2 _ (zer_3 (zkd_p hk)) rfl rfl
  · exact go _ _ 3 _ (zer_4 (zkd_p hk)) rfl rfl
  · omega
set_option maxHeartbeats 1000000 in
theorem zs_iaload (hF : zFr p s m args c cc own nL Z (zA Z)) (hO : ∀ x, zMet l d x) (hret : meth.sig.returnType = ret) (hlocks : meth.locks = false) {Q : zP} {K : zK} {nx : zX} {pc x y z : Nat} {v : Int} {lx : List Nat} (hck : zechk own cc ret cd (.iaload, pc, x, y, z, v, lx) = true)
    (hK : ∀ t ls st g, K t ls st g → ∀ e', cd[t]? = some e' → zGo p l e d s m args below meth c (zEnd below Z Q args s) Z (zA Z) s.heap nL e'.2.1 ls st g)
    (hn : ∀ ls st g, nx ls st g → zGo p l e d s m args below meth c (zEnd below Z Q args s) Z (zA Z) s.heap nL (pc + 1) ls st g)
    {ls st : List zV} {g : zM} (h : zstep (zC d) Q K (.iaload, pc, x, y, z, v, lx) nx ls st g) : zGo p l e d s m args below meth c (zEnd below Z Q args s) Z (zA Z) s.heap nL pc ls st g := by
  obtain ⟨hx, hb, hml, hown, hts, ⟨hKK, hN⟩, hin, hA⟩ := id hF
  have hD : ∀ g, va_D (zA Z) (zws Z g) := fun g => zws_D hin hA
  have hck := hck
  simp only [zechk, zlen, Bool.and_eq_true, and_true] at hck
  intro real H locs hls hW
  rcases st with _ | ⟨i | i | i | i, _ | ⟨a | (_ | a) | a | a, r⟩⟩ <;> first | exact False.elim h | skip
  obtain ⟨⟨h1, h2, h3⟩, h⟩ := h
  have hlt : a < zNC := zkd_lt (by rw [h1]; decide)
  have hsz := zkd_n a
  have k := hn _ _ _ h real H locs hls hW
  refine va_iald hx hb hKK hW.1 a 0 (by rw [zws_at hlt, zer_1 (zkd_p h1)]) rfl (zJ_vpin h2 h3 (by omega)) (of_decide_eq_true hck) ?_
  rw [zJ_clamp h2 (by omega), Int.toNat_of_nonneg h2]
  exact k
set_option maxHeartbeats 1000000 in
theorem zs_caload (hF : zFr p s m args c cc own nL Z (zA Z)) (hO : ∀ x, zMet l d x) (hret : meth.sig.returnType = ret) (hlocks : meth.locks = false) {Q : zP} {K : zK} {nx : zX} {pc x y z : Nat} {v : Int} {lx : List Nat} (hck : zechk own cc ret cd (.caload, pc, x, y, z, v, lx) = true)
    (hK : ∀ t ls st g, K t ls st g → ∀ e', cd[t]? = some e' → zGo p l e d s m args below meth c (zEnd below Z Q args s) Z (zA Z) s.heap nL e'.2.1 ls st g)
    (hn : ∀ ls st g, nx ls st g → zGo p l e d s m args below meth c (zEnd below Z Q args s) Z (zA Z) s.heap nL (pc + 1) ls st g)
    {ls st : List zV} {g : zM} (h : zstep (zC d) Q K (.caload, pc, x, y, z, v, lx) nx ls st g) : zGo p l e d s m args below meth c (zEnd below Z Q args s) Z (zA Z) s.heap nL pc ls st g := by
  obtain ⟨hx, hb, hml, hown, hts, ⟨hKK, hN⟩, hin, hA⟩ := id hF
  have hD : ∀ g, va_D (zA Z) (zws Z g) := fun g => zws_D hin hA
  have hck := hck
  simp only [zechk, zlen, Bool.and_eq_true, and_true] at hck
  intro real H locs hls hW
  rcases st with _ | ⟨i | i | i | i, _ | ⟨a | (_ | a) | a | a, r⟩⟩ <;> first | exact False.elim h | skip
  obtain ⟨⟨h1, h2, h3⟩, h⟩ := h
  have hlt : a < zNC := zkd_lt (by rw [h1]; decide)
  have hsz := zkd_n a
  have k := hn _ _ _ h real H locs hls hW
  refine va_cald hx hb hKK hW.1 a 1 (by rw [zws_at hlt, zer_2 (zkd_p h1)]) rfl (zJ_vpin h2 h3 (by omega)) (of_decide_eq_true hck) ?_
  rw [zJ_clamp h2 (by omega), Int.toNat_of_nonneg h2]
  exact k
set_option maxHeartbeats 1000000 in
theorem zs_laload (hF : zFr p s m args c cc own nL Z (zA Z)) (hO : ∀ x, zMet l d x) (hret : meth.sig.returnType = ret) (hlocks : meth.locks = false) {Q : zP} {K : zK} {nx : zX} {pc x y z : Nat} {v : Int} {lx : List Nat} (hck : zechk own cc ret cd (.laload, pc, x, y, z, v, lx) = true)
    (hK : ∀ t ls st g, K t ls st g → ∀ e', cd[t]? = some e' → zGo p l e d s m args below meth c (zEnd below Z Q args s) Z (zA Z) s.heap nL e'.2.1 ls st g)
    (hn : ∀ ls st g, nx ls st g → zGo p l e d s m args below meth c (zEnd below Z Q args s) Z (zA Z) s.heap nL (pc + 1) ls st g)
    {ls st : List zV} {g : zM} (h : zstep (zC d) Q K (.laload, pc, x, y, z, v, lx) nx ls st g) : zGo p l e d s m args below meth c (zEnd below Z Q args s) Z (zA Z) s.heap nL pc ls st g := by
  obtain ⟨hx, hb, hml, hown, hts, ⟨hKK, hN⟩, hin, hA⟩ := id hF
  have hD : ∀ g, va_D (zA Z) (zws Z g) := fun g => zws_D hin hA
  have hck := hck
  simp only [zechk, zlen, Bool.and_eq_true, and_true] at hck
  intro real H locs hls hW
  rcases st with _ | ⟨i | i | i | i, _ | ⟨a | (_ | a) | a | a, r⟩⟩ <;> first | exact False.elim h | skip
  obtain ⟨⟨h1, h2, h3⟩, h⟩ := h
  have hlt : a < zNC := zkd_lt (by rw [h1]; decide)
  have hsz := zkd_n a
  have k := hn _ _ _ h real H locs hls hW
  refine va_lald hx hb hKK hW.1 a 2 (by rw [zws_at hlt, zer_3 (zkd_p h1)]) rfl (zJ_vpin h2 h3 (by omega)) (of_decide_eq_true hck) ?_
  rw [zJ_clamp h2 (by omega), Int.toNat_of_nonneg h2]
  exact k
set_option maxHeartbeats 1000000 in
theorem zs_aaload (hF : zFr p s m args c cc own nL Z (zA Z)) (hO : ∀ x, zMet l d x) (hret : meth.sig.returnType = ret) (hlocks : meth.locks = false) {Q : zP} {K : zK} {nx : zX} {pc x y z : Nat} {v : Int} {lx : List Nat} (hck : zechk own cc ret cd (.aaload, pc, x, y, z, v, lx) = true)
    (hK : ∀ t ls st g, K t ls st g → ∀ e', cd[t]? = some e' → zGo p l e d s m args below meth c (zEnd below Z Q args s) Z (zA Z) s.heap nL e'.2.1 ls st g)
    (hn : ∀ ls st g, nx ls st g → zGo p l e d s m args below meth c (zEnd below Z Q args s) Z (zA Z) s.heap nL (pc + 1) ls st g)
    {ls st : List zV} {g : zM} (h : zstep (zC d) Q K (.aaload, pc, x, y, z, v, lx) nx ls st g) : zGo p l e d s m args below meth c (zEnd below Z Q args s) Z (zA Z) s.heap nL pc ls st g := by
  obtain ⟨hx, hb, hml, hown, hts, ⟨hKK, hN⟩, hin, hA⟩ := id hF
  have hD : ∀ g, va_D (zA Z) (zws Z g) := fun g => zws_D hin hA
  have hck := hck
  simp only [zechk, zlen, Bool.and_eq_true, and_true] at hck
  intro real H locs hls hW
  rcases st with _ | ⟨i | i | i | i, _ | ⟨a | (_ | a) | a | a, r⟩⟩ <;> first | exact False.elim h | skip
  obtain ⟨⟨h1, h2, h3⟩, h⟩ := h
  subst h1
  have hz : zkd 2 = (4, 4) := by decide
  have k := hn _ _ _ h real H locs hls hW
  refine va_aldq hx hb hKK hW.1 2 3 (by rw [zws_at (by decide), zer_4 hz]) rfl (zJ_vpin h2 h3 (by decide)) (of_decide_eq_true hck) ?_
  rw [zJ_clamp h2 (by omega)]
  exact k
set_option maxHeartbeats 1000000 in
theorem zs_iastore (hF : zFr p s m args c cc own nL Z (zA Z)) (hO : ∀ x, zMet l d x) (hret : meth.sig.returnType = ret) (hlocks : meth.locks = false) {Q : zP} {K : zK} {nx : zX} {pc x y z : Nat} {v : Int} {lx : List Nat} (hck : zechk own cc ret cd (.iastore, pc, x, y, z, v, lx) = true)
    (hK : ∀ t ls st g, K t ls st g → ∀ e', cd[t]? = some e' → zGo p l e d s m args below meth c (zEnd below Z Q args s) Z (zA Z) s.heap nL e'.2.1 ls st g)
    (hn : ∀ ls st g, nx ls st g → zGo p l e d s m args below meth c (zEnd below Z Q args s) Z (zA Z) s.heap nL (pc + 1) ls st g)
    {ls st : List zV} {g : zM} (h : zstep (zC d) Q K (.iastore, pc, x, y, z, v, lx) nx ls st g) : zGo p l e d s m args below meth c (zEnd below Z Q args s) Z (zA Z) s.heap nL pc ls st g := by
  obtain ⟨hx, hb, hml, hown, hts, ⟨hKK, hN⟩, hin, hA⟩ := id hF
  have hD : ∀ g, va_D (zA Z) (zws Z g) := fun g => zws_D hin hA
  have hck := hck
  simp only [zechk, zlen, Bool.and_eq_true, and_true] at hck
  intro real H locs hls hW
  rcases st with _ | ⟨w | w | w | w, _ | ⟨i | i | i | i, _ | ⟨a | (_ | a) | a | a, r⟩⟩⟩ <;> first | exact False.elim h | skip
  obtain ⟨⟨h1, h2, h3⟩, h⟩ := h
  have hlt : a < zNC := zkd_lt (by rw [h1]; decide)
  have hsz := zkd_n a
  refine va_iast hx hb hKK hW.1 (hD g) hW.2 a 0 (by rw [zws_at hlt, zer_1 (zkd_p h1)]) rfl (zJ_vpin h2 h3 (by omega)) (of_decide_eq_true hck) (fun H1 locs1 hP1 _ hS1 => ?_)
  have hi := zJ_clamp h2 (by omega : i < 2147483648)
  rw [zws_set (g' := zup g a i w) hlt ?_ (fun j hj => zup_ne hj)] at hP1
  · exact hn _ _ _ h real H1 locs1 hls ⟨hP1, hS1⟩
  · rw [zer_1 (zkd_p h1), zup_row, hi]
    refine congrArg (fun f => (Sum.inl (_, _, Sum.inl f) : va_E)) (funext fun j => ?_)
    by_cases hj : j = i.toNat
    · have hc : ((i.toNat : Nat) : Int) = i := Int.toNat_of_nonneg h2
      subst hj
      simp [upd, hc]
    · have : ¬ (j : Int) = i := by omega
      simp [upd, hj, this]
set_option maxHeartbeats 1000000 in
theorem zs_castore (hF : zFr p s m args c cc own nL Z (zA Z)) (hO : ∀ x, zMet l d x) (hret : meth.sig.returnType = ret) (hlocks : meth.locks = false) {Q : zP} {K : zK} {nx : zX} {pc x y z : Nat} {v : Int} {lx : List Nat} (hck : zechk own cc ret cd (.castore, pc, x, y, z, v, lx) = true)
    (hK : ∀ t ls st g, K t ls st g → ∀ e', cd[t]? = some e' → zGo p l e d s m args below meth c (zEnd below Z Q args s) Z (zA Z) s.heap nL e'.2.1 ls st g)
    (hn : ∀ ls st g, nx ls st g → zGo p l e d s m args below meth c (zEnd below Z Q args s) Z (zA Z) s.heap nL (pc + 1) ls st g)
    {ls st : List zV} {g : zM} (h : zstep (zC d) Q K (.castore, pc, x, y, z, v, lx) nx ls st g) : zGo p l e d s m args below meth c (zEnd below Z Q args s) Z (zA Z) s.heap nL pc ls st g := by
  obtain ⟨hx, hb, hml, hown, hts, ⟨hKK, hN⟩, hin, hA⟩ := id hF
  have hD : ∀ g, va_D (zA Z) (zws Z g) := fun g => zws_D hin hA
  have hck := hck
  simp only [zechk, zlen, Bool.and_eq_true, and_true] at hck
  intro real H locs hls hW
  rcases st with _ | ⟨w | w | w | w, _ | ⟨i | i | i | i, _ | ⟨a | (_ | a) | a | a, r⟩⟩⟩ <;> first | exact False.elim h | skip
  obtain ⟨⟨h1, ⟨h2, h3⟩, h5⟩, h⟩ := h
  have hlt : a < zNC := zkd_lt (by rw [h1]; decide)
  have hsz := zkd_n a
  refine va_cast hx hb hKK hW.1 (hD g) hW.2 a 1 (by rw [zws_at hlt, zer_2 (zkd_p h1)]) rfl (zJ_vpin h2 h3 (by omega)) (of_decide_eq_true hck) (fun H1 locs1 hP1 _ hS1 => ?_)
  rw [zvp_char h5] at hP1
  have hi := zJ_clamp h2 (by omega : i < 2147483648)
  rw [zws_set (g' := zup g a i w) hlt ?_ (fun j hj => zup_ne hj)] at hP1
  · exact hn _ _ _ h real H1 locs1 hls ⟨hP1, hS1⟩
  · rw [zer_2 (zkd_p h1), zup_row, hi]
    refine congrArg (fun f => (Sum.inl (_, _, Sum.inl f) : va_E)) (funext fun j => ?_)
    by_cases hj : j = i.toNat
    · have hc : ((i.toNat : Nat) : Int) = i := Int.toNat_of_nonneg h2
      subst hj
      simp [upd, hc]
    · have : ¬ (j : Int) = i := by omega
      simp [upd, hj, this]
set_option maxHeartbeats 1000000 in
theorem zs_lastore (hF : zFr p s m args c cc own nL Z (zA Z)) (hO : ∀ x, zMet l d x) (hret : meth.sig.returnType = ret) (hlocks : meth.locks = false) {Q : zP} {K : zK} {nx : zX} {pc x y z : Nat} {v : Int} {lx : List Nat} (hck : zechk own cc ret cd (.lastore, pc, x, y, z, v, lx) = true)
    (hK : ∀ t ls st g, K t ls st g → ∀ e', cd[t]? = some e' → zGo p l e d s m args below meth c (zEnd below Z Q args s) Z (zA Z) s.heap nL e'.2.1 ls st g)
    (hn : ∀ ls st g, nx ls st g → zGo p l e d s m args below meth c (zEnd below Z Q args s) Z (zA Z) s.heap nL (pc + 1) ls st g)
    {ls st : List zV} {g : zM} (h : zstep (zC d) Q K (.lastore, pc, x, y, z, v, lx) nx ls st g) : zGo p l e d s m args below meth c (zEnd below Z Q args s) Z (zA Z) s.heap nL pc ls st g := by
  obtain ⟨hx, hb, hml, hown, hts, ⟨hKK, hN⟩, hin, hA⟩ := id hF
  have hD : ∀ g, va_D (zA Z) (zws Z g) := fun g => zws_D hin hA
  have hck := hck
  simp only [zechk, zlen, Bool.and_eq_true, and_true] at hck
  intro real H locs hls hW
  rcases st with _ | ⟨w | w | w | w, _ | ⟨i | i | i | i, _ | ⟨a | (_ | a) | a | a, r⟩⟩⟩ <;> first | exact False.elim h | skip
  obtain ⟨⟨h1, h2, h3⟩, h⟩ := h
  have hlt : a < zNC := zkd_lt (by rw [h1]; decide)
  have hsz := zkd_n a
  refine va_last hx hb hKK hW.1 (hD g) hW.2 a 2 (by rw [zws_at hlt, zer_3 (zkd_p h1)]) rfl (zJ_vpin h2 h3 (by omega)) (of_decide_eq_true hck) (fun H1 locs1 hP1 _ hS1 => ?_)
  have hi := zJ_clamp h2 (by omega : i < 2147483648)
  rw [zws_set (g' := zup g a i w) hlt ?_ (fun j hj => zup_ne hj)] at hP1
  · exact hn _ _ _ h real H1 locs1 hls ⟨hP1, hS1⟩
  · rw [zer_3 (zkd_p h1), zup_row, hi]
    refine congrArg (fun f => (Sum.inl (_, _, Sum.inr (Sum.inl f)) : va_E)) (funext fun j => ?_)
    by_cases hj : j = i.toNat
    · have hc : ((i.toNat : Nat) : Int) = i := Int.toNat_of_nonneg h2
      subst hj
      simp [vp_updL, hc]
    · have : ¬ (j : Int) = i := by omega
      simp [vp_updL, hj, this]
set_option maxHeartbeats 1000000 in
theorem zs_getfield {i : Nat} (hF : zFr p s m args c cc own nL Z (zA Z)) (hO : ∀ x, zMet l d x) (hret : meth.sig.returnType = ret) (hlocks : meth.locks = false) {Q : zP} {K : zK} {nx : zX} {pc x y z : Nat} {v : Int} {lx : List Nat} (hck : zechk own cc ret cd (.getfield i, pc, x, y, z, v, lx) = true)
    (hK : ∀ t ls st g, K t ls st g → ∀ e', cd[t]? = some e' → zGo p l e d s m args below meth c (zEnd below Z Q args s) Z (zA Z) s.heap nL e'.2.1 ls st g)
    (hn : ∀ ls st g, nx ls st g → zGo p l e d s m args below meth c (zEnd below Z Q args s) Z (zA Z) s.heap nL (pc + 3) ls st g)
    {ls st : List zV} {g : zM} (h : zstep (zC d) Q K (.getfield i, pc, x, y, z, v, lx) nx ls st g) : zGo p l e d s m args below meth c (zEnd below Z Q args s) Z (zA Z) s.heap nL pc ls st g := by
  obtain ⟨hx, hb, hml, hown, hts, ⟨hKK, hN⟩, hin, hA⟩ := id hF
  have hD : ∀ g, va_D (zA Z) (zws Z g) := fun g => zws_D hin hA
  have hck := hck
  simp only [zechk, zlen, Bool.and_eq_true, and_true] at hck
  intro real H locs hls hW
  rcases st with _ | ⟨a | (_ | a) | a | a, r⟩ <;> first | exact False.elim h | skip
  obtain ⟨hk, h⟩ := h
  have hlt : a < zNC := zkd_lt (by rw [hk]; exact Nat.zero_le _)
  obtain ⟨hd, hq⟩ := hck
  cases hc : vwCl[x]? with
  | none => rw [hc] at hq; exact Bool.noConfusion hq
  | some q =>
    rw [hc] at hq
    dsimp only at hq
    rw [Bool.and_eq_true] at hq
    obtain ⟨q1, q2⟩ := hq
    obtain ⟨q3, q4⟩ := of_decide_eq_true q1
    have hlink := hts _ (zgw_spec q2)
    have k : W p l e (zrm (d + 1)) s m args below meth c H locs 0 0 (zEnd below Z Q args s) (F0 m (pc + 3) real (zfv Z.2.2 (g a) a y (zre x z lx) :: r.map (zv Z.2.2))) := by
      have hx7 : x < 7 := (List.getElem?_eq_some_iff.mp hc).1
      rcases z with _ | o
      · exact hn _ _ _ h real H locs hls hW
      · rcases lx with _ | ⟨l0, _ | ⟨l1, l2⟩⟩
        · obtain ⟨w, h1, h2⟩ := zone_ok (z := o + 1) hlt hx7 hk q4
          have := hn _ _ _ h real H locs hls hW
          show W p l e (zrm (d + 1)) s m args below meth c H locs 0 0 (zEnd below Z Q args s) (F0 m (pc + 3) real (zfv Z.2.2 (g a) a y (if zone x < o + 1 ∧ zone x < 100 then o + 1 - zone x else 1000) :: r.map (zv Z.2.2)))
          rw [h1]
          show W p l e (zrm (d + 1)) s m args below meth c H locs 0 0 (zEnd below Z Q args s) (F0 m (pc + 3) real (.ref (Z.2.2 (a + (w + 1))) :: r.map (zv Z.2.2)))
          rw [h2]
          exact this
        · exact hn _ _ _ h real H locs hls hW
        · obtain ⟨w, h1, h2⟩ := zone_ok (z := o + 1) hlt hx7 hk q4
          have := hn _ _ _ h real H locs hls hW
          show W p l e (zrm (d + 1)) s m args below meth c H locs 0 0 (zEnd below Z Q args s) (F0 m (pc + 3) real (zfv Z.2.2 (g a) a y (if zone x < o + 1 ∧ zone x < 100 then o + 1 - zone x else 1000) :: r.map (zv Z.2.2)))
          rw [h1]
          show W p l e (zrm (d + 1)) s m args below meth c H locs 0 0 (zEnd below Z Q args s) (F0 m (pc + 3) real (.ref (Z.2.2 (a + (w + 1))) :: r.map (zv Z.2.2)))
          rw [h2]
          exact this
    exact va_get (C := q.1) (T := q.2.1) (N := q.2.2) hx hb hts (zcl x q hc).2.2 hown hKK hW.1 a (by rw [zws_at hlt, zer_0 hk]) hc y q3 hlink (fun _ w => w) (zfl_at q4) (of_decide_eq_true hd) k
set_option maxHeartbeats 1000000 in
theorem zs_putfield {i : Nat} (hF : zFr p s m args c cc own nL Z (zA Z)) (hO : ∀ x, zMet l d x) (hret : meth.sig.returnType = ret) (hlocks : meth.locks = false) {Q : zP} {K : zK} {nx : zX} {pc x y z : Nat} {v : Int} {lx : List Nat} (hck : zechk own cc ret cd (.putfield i, pc, x, y, z, v, lx) = true)
    (hK : ∀ t ls st g, K t ls st g → ∀ e', cd[t]? = some e' → zGo p l e d s m args below meth c (zEnd below Z Q args s) Z (zA Z) s.heap nL e'.2.1 ls st g)
    (hn : ∀ ls st g, nx ls st g → zGo p l e d s m args below meth c (zEnd below Z Q args s) Z (zA Z) s.heap nL (pc + 3) ls st g)
    {ls st : List zV} {g : zM} (h : zstep (zC d) Q K (.putfield i, pc, x, y, z, v, lx) nx ls st g) : zGo p l e d s m args below meth c (zEnd below Z Q args s) Z (zA Z) s.heap nL pc ls st g := by
  obtain ⟨hx, hb, hml, hown, hts, ⟨hKK, hN⟩, hin, hA⟩ := id hF
  have hD : ∀ g, va_D (zA Z) (zws Z g) := fun g => zws_D hin hA
  have hck := hck
  simp only [zechk, zlen, Bool.and_eq_true, and_true] at hck
  intro real H locs hls hW
  rcases st with _ | ⟨w | w | w | w, _ | ⟨a | (_ | a) | a | a, r⟩⟩ <;> first | exact False.elim h | skip
  obtain ⟨⟨hk, hv⟩, h⟩ := h
  have hlt : a < zNC := zkd_lt (by rw [hk]; exact Nat.zero_le _)
  obtain ⟨hd, hq⟩ := hck
  cases hc : vwCl[x]? with
  | none => rw [hc] at hq; exact Bool.noConfusion hq
  | some q =>
    rw [hc] at hq
    dsimp only at hq
    rw [Bool.and_eq_true] at hq
    obtain ⟨q1, q2⟩ := hq
    obtain ⟨q3, q4, q5, q6⟩ := of_decide_eq_true q1
    have hlink := hts _ (zgw_spec q2)
    obtain ⟨⟨ty0, hty⟩, hnm, hin2⟩ := zcl x q hc
    have hfit : narrow (if v = 2 then FieldType.boolean else FieldType.int) (.int (zJ w)) = .int (zJ w) ∧ fits (if v = 2 then FieldType.boolean else FieldType.int) (.int (zJ w)) = true := by
      by_cases hv2 : v = 2
      · rw [if_pos hv2]; exact zlow_b (hv hv2)
      · rw [if_neg hv2]; exact ⟨rfl, rfl⟩
    have hl : y < (zfl Z.2.2 (g a) a x).length := by
      have := (List.getElem?_eq_some_iff.mp q4).1
      simpa [zfl] using this
    refine va_put (C := q.1) (T := q.2.1) (N := q.2.2) hx hb hts hin2 ty0 hty hnm hown hKK hW.1 (hD g) hW.2 a (by rw [zws_at hlt, zer_0 hk]) hc y q3 hlink (fun _ w => w) q5 q6 hfit.1 hfit.2 hl (of_decide_eq_true hd) (fun H1 locs1 hP1 _ hS1 => ?_)
    rw [zws_set (g' := zup g a y w) hlt ?_ (fun j hj => zup_ne hj)] at hP1
    · exact hn _ _ _ h real H1 locs1 hls ⟨hP1, hS1⟩
    · rw [zer_0 hk, zup_row]
      exact congrArg (fun z => Sum.inr (x, z)) (zfl_set q4)
set_option maxHeartbeats 1000000 in
theorem zs_tableswitch {dl lo hi : Int} {offs : Array Int} (hF : zFr p s m args c cc own nL Z (zA Z)) (hO : ∀ x, zMet l d x) (hret : meth.sig.returnType = ret) (hlocks : meth.locks = false) {Q : zP} {K : zK} {nx : zX} {pc x y z : Nat} {v : Int} {lx : List Nat} (hck : zechk own cc ret cd (.tableswitch dl lo hi offs, pc, x, y, z, v, lx) = true)
    (hK : ∀ t ls st g, K t ls st g → ∀ e', cd[t]? = some e' → zGo p l e d s m args below meth c (zEnd below Z Q args s) Z (zA Z) s.heap nL e'.2.1 ls st g)
    {ls st : List zV} {g : zM} (h : zstep (zC d) Q K (.tableswitch dl lo hi offs, pc, x, y, z, v, lx) nx ls st g) : zGo p l e d s m args below meth c (zEnd below Z Q args s) Z (zA Z) s.heap nL pc ls st g := by
  obtain ⟨hx, hb, hml, hown, hts, ⟨hKK, hN⟩, hin, hA⟩ := id hF
  have hD : ∀ g, va_D (zA Z) (zws Z g) := fun g => zws_D hin hA
  have hck := hck
  simp only [zechk, zlen, Bool.and_eq_true, and_true] at hck
  intro real H locs hls hW
  rcases st with _ | ⟨a | a | a | a, r⟩ <;> rcases lx with _ | ⟨t, ts⟩ <;> first | exact False.elim h | skip
  obtain ⟨hz, hout, hin2⟩ := h
  obtain ⟨⟨⟨hd, h2⟩, h3⟩, h4⟩ := hck
  have hdg := of_decide_eq_true hd
  obtain ⟨rfl, h5, h6⟩ := of_decide_eq_true h2
  have h7 : ts.length = offs.size := by simpa using h6
  have hta := zJ_toInt hz
  by_cases ho : a < lo ∨ lo + ts.length ≤ a
  · obtain ⟨e1, he1, ho1⟩ := ztg_spec h3
    exact lv_tableOut hx hb hdg (by rw [hta, h5]; omega) ho1 (hK t ls r g (hout ho) e1 he1 real H locs hls hW)
  · have hi : (a - lo).toNat < ts.length := by omega
    have hi2 : (a - lo).toNat < offs.size := by omega
    have h8 := List.all_eq_true.mp h4 (a - lo).toNat (List.mem_range.mpr hi2)
    have h9 : offs.toList.getD (a - lo).toNat 0 = offs[(a - lo).toNat] := by
      rw [List.getD_eq_getElem?_getD, Array.getElem?_toList, Array.getElem?_eq_getElem hi2]
      rfl
    have h10 : (t :: ts).getD ((a - lo).toNat + 1) 0 = ts[(a - lo).toNat] := by
      rw [List.getD_eq_getElem?_getD, List.getElem?_cons_succ, List.getElem?_eq_getElem hi]
      rfl
    rw [h9, h10] at h8
    obtain ⟨e1, he1, ho1⟩ := ztg_spec h8
    have hk := ztab_spec ts lo hin2 (a - lo).toNat _ (List.getElem?_eq_getElem hi) (by omega)
    exact lv_tableIn hx hb hdg (by rw [hta]; omega) (by rw [hta, h5]; omega) (by rw [hta]; exact Array.getElem?_eq_getElem hi2) ho1 (hK _ ls r g hk e1 he1 real H locs hls hW)
set_option maxHeartbeats 1000000 in
theorem zs_invokevirtual {i : Nat} (hF : zFr p s m args c cc own nL Z (zA Z)) (hO : ∀ x, zMet l d x) (hret : meth.sig.returnType = ret) (hlocks : meth.locks = false) {Q : zP} {K : zK} {nx : zX} {pc x y z : Nat} {v : Int} {lx : List Nat} (hck : zechk own cc ret cd (.invokevirtual i, pc, x, y, z, v, lx) = true)
    (hK : ∀ t ls st g, K t ls st g → ∀ e', cd[t]? = some e' → zGo p l e d s m args below meth c (zEnd below Z Q args s) Z (zA Z) s.heap nL e'.2.1 ls st g)
    (hn : ∀ ls st g, nx ls st g → zGo p l e d s m args below meth c (zEnd below Z Q args s) Z (zA Z) s.heap nL (pc + 3) ls st g)
    {ls st : List zV} {g : zM} (h : zstep (zC d) Q K (.invokevirtual i, pc, x, y, z, v, lx) nx ls st g) : zGo p l e d s m args below meth c (zEnd below Z Q args s) Z (zA Z) s.heap nL pc ls st g := by
  obtain ⟨hx, hb, hml, hown, hts, ⟨hKK, hN⟩, hin, hA⟩ := id hF
  have hD : ∀ g, va_D (zA Z) (zws Z g) := fun g => zws_D hin hA
  have hck := hck
  simp only [zechk, zlen, Bool.and_eq_true, and_true] at hck
  obtain ⟨hd, hq⟩ := hck
  cases hI : zMI[x]? with
  | none => rw [hI] at hq; exact Bool.noConfusion hq
  | some I =>
    cases hc : vwCl[z]? with
    | none => rw [hI, hc] at hq; exact Bool.noConfusion hq
    | some q =>
      rw [hI, hc] at hq
      dsimp only at hq
      rw [Bool.and_eq_true] at hq
      obtain ⟨q1, q2⟩ := of_decide_eq_true hq.1
      exact z_virt hF hO (of_decide_eq_true hd) ⟨I, q, hI, hc, q1, q2, hts _ (zgw_spec hq.2)⟩ h hn
set_option maxHeartbeats 1000000 in
theorem zs_invokestatic {i : Nat} (hF : zFr p s m args c cc own nL Z (zA Z)) (hO : ∀ x, zMet l d x) (hret : meth.sig.returnType = ret) (hlocks : meth.locks = false) {Q : zP} {K : zK} {nx : zX} {pc x y z : Nat} {v : Int} {lx : List Nat} (hck : zechk own cc ret cd (.invokestatic i, pc, x, y, z, v, lx) = true)
    (hK : ∀ t ls st g, K t ls st g → ∀ e', cd[t]? = some e' → zGo p l e d s m args below meth c (zEnd below Z Q args s) Z (zA Z) s.heap nL e'.2.1 ls st g)
    (hn : ∀ ls st g, nx ls st g → zGo p l e d s m args below meth c (zEnd below Z Q args s) Z (zA Z) s.heap nL (pc + 3) ls st g)
    {ls st : List zV} {g : zM} (h : zstep (zC d) Q K (.invokestatic i, pc, x, y, z, v, lx) nx ls st g) : zGo p l e d s m args below meth c (zEnd below Z Q args s) Z (zA Z) s.heap nL pc ls st g := by
  obtain ⟨hx, hb, hml, hown, hts, ⟨hKK, hN⟩, hin, hA⟩ := id hF
  have hD : ∀ g, va_D (zA Z) (zws Z g) := fun g => zws_D hin hA
  have hck := hck
  simp only [zechk, zlen, Bool.and_eq_true, and_true] at hck
  obtain ⟨hd, hq⟩ := hck
  have hdg := of_decide_eq_true hd
  rcases z with _ | _ | _ | _ | _ | z
  · cases hI : zMI[x]? with
    | none => rw [hI] at hq; exact Bool.noConfusion hq
    | some I =>
      rw [hI] at hq
      replace hq : (decide (I.2.2.2.1 = true) && zgw (lx.headD 0) (Cond.methodLink own i I.1)) = true := hq
      rw [Bool.and_eq_true] at hq
      exact z_stat hF hO hdg false ⟨I, hI, of_decide_eq_true hq.1, hts _ (zgw_spec hq.2)⟩ h hn
  · cases hI : zMI[x]? with
    | none => rw [hI] at hq; exact Bool.noConfusion hq
    | some I =>
      rw [hI] at hq
      replace hq : (decide (I.2.2.2.1 = true) && decide (lw_tbl[lx.headD 0]? = some (Cond.methodLinkNest own i I.1 "BranchedSums"))) = true := hq
      rw [Bool.and_eq_true] at hq
      exact z_stat hF hO hdg true ⟨I, hI, of_decide_eq_true hq.1, va_Nw.use rfl (hN _ (List.mem_of_getElem? (of_decide_eq_true hq.2)) rfl)⟩ h hn
  · intro real H locs hls hW
    rcases st with _ | ⟨n | n | n | n, _ | ⟨dp | dp | dp | dp, _ | ⟨b | (_ | b) | b | b, _ | ⟨sp | sp | sp | sp, _ | ⟨a | (_ | a) | a | a, r⟩⟩⟩⟩⟩ <;> first | exact False.elim h | skip
    obtain ⟨⟨hkd, ⟨h1, h2, h3⟩, h4, h5⟩, hw, h⟩ := h
    have hlink := hts _ (zgw_spec hq)
    have na := zkd_n a
    have nb := zkd_n b
    have c1 := zJ_clamp h1 (by omega : sp < 2147483648)
    have c2 := zJ_clamp h2 (by omega : dp < 2147483648)
    have c3 := zJ_clamp h3 (by omega : n < 2147483648)
    have ng : ∀ y : Int, 0 ≤ y → y < 2147483648 → ¬ zJ y < 0 := by
      intro y q1 q2 q3
      rw [← zJ_0] at q3
      have := (zJ_lt ⟨by omega, q2⟩ zin0).mp q3
      omega
    have hfr : 1 ≤ (zrm (d + 1)).frames := Nat.succ_le_succ (Nat.zero_le d)
    have hlo : ((r.map (zv Z.2.2)).map fun v => v.category).sum + (nativeFrameWords "java/lang/System" "arraycopy" 5 + 11) ≤ (zrm (d + 1)).locals := by
      rw [zwt_v]
      show zwt r + (7 + 11) ≤ 60 * (d + 1)
      omega
    rcases hkd with ⟨ka, kb⟩ | ⟨ka, kb⟩
    · have hla : a < zNC := zkd_lt (by rw [ka]; decide)
      have hlb : b < zNC := zkd_lt (by rw [kb]; decide)
      refine va_copyi hx hb (hml.trans hls.1.1.symm) hown hlink (hts _ zSY0) (hts _ zSY1) (hts _ zSY2) hKK hW.1 (hD g) hW.2 a b 0 0 (by rw [zws_at hla, zer_1 (zkd_p ka)]) (by rw [zws_at hlb, zer_1 (zkd_p kb)]) rfl rfl rfl (ng _ h1 (by omega)) (ng _ h2 (by omega)) (ng _ h3 (by omega)) (by rw [c1, c3]; omega) (by rw [c2, c3]; omega) (fun _ _ => rfl) hfr hlo hdg (fun H1 locs1 hP1 _ hS1 => ?_)
      rw [c1, c2, c3, zws_set (g' := zcpy g a sp b dp n) hlb ?_ (fun j hj => zcpy_ne hj)] at hP1
      · exact hn _ _ _ h real H1 locs1 hls ⟨hP1, hS1⟩
      · rw [zer_1 (zkd_p kb), zcpy_row]
        exact congrArg (fun f => (Sum.inl (_, _, Sum.inl f) : va_E)) (zcpy_fn zJ h1 h2 h3)
    · have hla : a < zNC := zkd_lt (by rw [ka]; decide)
      have hlb : b < zNC := zkd_lt (by rw [kb]; decide)
      refine va_copyl hx hb (hml.trans hls.1.1.symm) hown hlink (hts _ zSY0) (hts _ zSY1) (hts _ zSY2) hKK hW.1 (hD g) hW.2 a b 2 2 (by rw [zws_at hla, zer_3 (zkd_p ka)]) (by rw [zws_at hlb, zer_3 (zkd_p kb)]) rfl rfl rfl (ng _ h1 (by omega)) (ng _ h2 (by omega)) (ng _ h3 (by omega)) (by rw [c1, c3]; omega) (by rw [c2, c3]; omega) (fun _ _ => rfl) hfr hlo hdg (fun H1 locs1 hP1 _ hS1 => ?_)
      rw [c1, c2, c3, zws_set (g' := zcpy g a sp b dp n) hlb ?_ (fun j hj => zcpy_ne hj)] at hP1
      · exact hn _ _ _ h real H1 locs1 hls ⟨hP1, hS1⟩
      · rw [zer_3 (zkd_p kb), zcpy_row]
        exact congrArg (fun f => (Sum.inl (_, _, Sum.inr (Sum.inl f)) : va_E)) (zcpy_fn zJL h1 h2 h3)
  · intro real H locs hls hW
    rcases st with _ | ⟨b | b | b | b, _ | ⟨a | a | a | a, r⟩⟩ <;> first | exact False.elim h | skip
    obtain ⟨⟨⟨ha, hb2⟩, hw⟩, h⟩ := h
    have hlo : ((r.map (zv Z.2.2)).map fun v => v.category).sum + 13 ≤ (zrm (d + 1)).locals := by
      rw [zwt_v]
      show zwt r + 13 ≤ 60 * (d + 1)
      omega
    refine va_mmax hx hb (hml.trans hls.1.1.symm) hown (hts _ (zgw_spec hq)) (hts _ zSY3) (hts _ zSY5) (hts _ zSY4) (Nat.succ_le_succ (Nat.zero_le d)) hlo (Nat.zero_le _) (Nat.zero_le _) hdg ?_
    have e1 : (if zJ a < zJ b then zJ b else zJ a) = zJ (max a b) := by
      by_cases q : a < b
      · rw [if_pos ((zJ_lt ha hb2).mpr q), Int.max_eq_right (by omega)]
      · rw [if_neg (fun w => q ((zJ_lt ha hb2).mp w)), Int.max_eq_left (by omega)]
    rw [e1]
    exact hn _ _ _ h real H locs hls hW
  · intro real H locs hls hW
    rcases st with _ | ⟨b | b | b | b, _ | ⟨a | a | a | a, r⟩⟩ <;> first | exact False.elim h | skip
    obtain ⟨⟨⟨ha, hb2⟩, hw⟩, h⟩ := h
    have hlo : ((r.map (zv Z.2.2)).map fun v => v.category).sum + 13 ≤ (zrm (d + 1)).locals := by
      rw [zwt_v]
      show zwt r + 13 ≤ 60 * (d + 1)
      omega
    refine va_mmin hx hb (hml.trans hls.1.1.symm) hown (hts _ (zgw_spec hq)) (hts _ zSY6) (hts _ zSY5) (hts _ zSY7) (Nat.succ_le_succ (Nat.zero_le d)) hlo (Nat.zero_le _) (Nat.zero_le _) hdg ?_
    have e1 : (if zJ b < zJ a then zJ b else zJ a) = zJ (min a b) := by
      by_cases q : b < a
      · rw [if_pos ((zJ_lt hb2 ha).mpr q), Int.min_eq_right (by omega)]
      · rw [if_neg (fun w => q ((zJ_lt hb2 ha).mp w)), Int.min_eq_left (by omega)]
    rw [e1]
    exact hn _ _ _ h real H locs hls hW
  · exact Bool.noConfusion hq
set_option maxHeartbeats 1000000 in
theorem zs_ireturn (hF : zFr p s m args c cc own nL Z (zA Z)) (hO : ∀ x, zMet l d x) (hret : meth.sig.returnType = ret) (hlocks : meth.locks = false) {Q : zP} {K : zK} {nx : zX} {pc x y z : Nat} {v : Int} {lx : List Nat} (hck : zechk own cc ret cd (.ireturn, pc, x, y, z, v, lx) = true)
    (hK : ∀ t ls st g, K t ls st g → ∀ e', cd[t]? = some e' → zGo p l e d s m args below meth c (zEnd below Z Q args s) Z (zA Z) s.heap nL e'.2.1 ls st g)
    (hn : ∀ ls st g, nx ls st g → zGo p l e d s m args below meth c (zEnd below Z Q args s) Z (zA Z) s.heap nL (pc + 1) ls st g)
    {ls st : List zV} {g : zM} (h : zstep (zC d) Q K (.ireturn, pc, x, y, z, v, lx) nx ls st g) : zGo p l e d s m args below meth c (zEnd below Z Q args s) Z (zA Z) s.heap nL pc ls st g := by
  obtain ⟨hx, hb, hml, hown, hts, ⟨hKK, hN⟩, hin, hA⟩ := id hF
  have hD : ∀ g, va_D (zA Z) (zws Z g) := fun g => zws_D hin hA
  have hck := hck
  simp only [zechk, zlen, Bool.and_eq_true, and_true] at hck
  intro real H locs hls hW
  rcases st with _ | ⟨a | a | a | a, _ | ⟨b, r⟩⟩ <;> first | exact False.elim h | skip
  obtain ⟨⟨h1, h2⟩, h3⟩ := h
  obtain ⟨hd, hr, hx3⟩ := hck
  have hdg := of_decide_eq_true hd
  have hr := hret.trans (of_decide_eq_true hr)
  have hx3 := of_decide_eq_true hx3
  have go : ∀ ty, meth.sig.returnType = some ty → narrow ty (.int (zJ a)) = .int (zJ a) → W p l e (zrm (d + 1)) s m args below meth c H locs 0 0 (zEnd below Z Q args s) (F0 m pc real [.int (zJ a)]) := by
    intro ty hty hna
    exact W.zret hx hb hty hna (fun t ht _ => ⟨⟨some (zI a), g, rfl, h3, by rw [ht]; exact hW.1⟩, hW.2.F ht⟩) hW.2.2.2 hdg hlocks
  rcases x with _ | _ | _ | x
  · exact go _ hr rfl
  · exact go _ hr (zlow_b (h1 rfl)).1
  · exact go _ hr (zlow_c (h2 rfl)).1
  · omega
set_option maxHeartbeats 1000000 in
theorem zs_areturn (hF : zFr p s m args c cc own nL Z (zA Z)) (hO : ∀ x, zMet l d x) (hret : meth.sig.returnType = ret) (hlocks : meth.locks = false) {Q : zP} {K : zK} {nx : zX} {pc x y z : Nat} {v : Int} {lx : List Nat} (hck : zechk own cc ret cd (.areturn, pc, x, y, z, v, lx) = true)
    (hK : ∀ t ls st g, K t ls st g → ∀ e', cd[t]? = some e' → zGo p l e d s m args below meth c (zEnd below Z Q args s) Z (zA Z) s.heap nL e'.2.1 ls st g)
    (hn : ∀ ls st g, nx ls st g → zGo p l e d s m args below meth c (zEnd below Z Q args s) Z (zA Z) s.heap nL (pc + 1) ls st g)
    {ls st : List zV} {g : zM} (h : zstep (zC d) Q K (.areturn, pc, x, y, z, v, lx) nx ls st g) : zGo p l e d s m args below meth c (zEnd below Z Q args s) Z (zA Z) s.heap nL pc ls st g := by
  obtain ⟨hx, hb, hml, hown, hts, ⟨hKK, hN⟩, hin, hA⟩ := id hF
  have hD : ∀ g, va_D (zA Z) (zws Z g) := fun g => zws_D hin hA
  have hck := hck
  simp only [zechk, zlen, Bool.and_eq_true, and_true] at hck
  intro real H locs hls hW
  rcases st with _ | ⟨a | a | a | a, _ | ⟨b, r⟩⟩ <;> first | exact False.elim h | skip
  have hr := hret.trans (of_decide_eq_true hck.2)
  exact W.aret hx hb hr (Or.inl ⟨_, rfl⟩) (by cases a with
    | none => exact Or.inl rfl
    | some k => exact Or.inr ⟨_, rfl⟩) (fun t ht _ => ⟨⟨some (Sum.inr (Sum.inl a)), g, rfl, h.2, by rw [ht]; exact hW.1⟩, hW.2.F ht⟩) hW.2.2.2 (of_decide_eq_true hck.1) hlocks
set_option maxHeartbeats 1000000 in
theorem zs_return_ (hF : zFr p s m args c cc own nL Z (zA Z)) (hO : ∀ x, zMet l d x) (hret : meth.sig.returnType = ret) (hlocks : meth.locks = false) {Q : zP} {K : zK} {nx : zX} {pc x y z : Nat} {v : Int} {lx : List Nat} (hck : zechk own cc ret cd (.return_, pc, x, y, z, v, lx) = true)
    (hK : ∀ t ls st g, K t ls st g → ∀ e', cd[t]? = some e' → zGo p l e d s m args below meth c (zEnd below Z Q args s) Z (zA Z) s.heap nL e'.2.1 ls st g)
    (hn : ∀ ls st g, nx ls st g → zGo p l e d s m args below meth c (zEnd below Z Q args s) Z (zA Z) s.heap nL (pc + 1) ls st g)
    {ls st : List zV} {g : zM} (h : zstep (zC d) Q K (.return_, pc, x, y, z, v, lx) nx ls st g) : zGo p l e d s m args below meth c (zEnd below Z Q args s) Z (zA Z) s.heap nL pc ls st g := by
  obtain ⟨hx, hb, hml, hown, hts, ⟨hKK, hN⟩, hin, hA⟩ := id hF
  have hD : ∀ g, va_D (zA Z) (zws Z g) := fun g => zws_D hin hA
  have hck := hck
  simp only [zechk, zlen, Bool.and_eq_true, and_true] at hck
  intro real H locs hls hW
  rcases st with _ | ⟨b, r⟩ <;> first | exact False.elim h | skip
  have hr := hret.trans (of_decide_eq_true hck.2)
  exact W.vret hx hb hr (fun t ht _ => ⟨⟨none, g, rfl, h.2, by rw [ht]; exact hW.1⟩, hW.2.F ht⟩) hW.2.2.2 (of_decide_eq_true hck.1) hlocks
end ZT
end
section
section ZU
variable {p : Program} {l : Launch} {e : Env} {d : Nat} {s : State} {m : MethodId} {args : Array Value} {below : List Frame} {meth : Method} {c : Code} {Z : zG} {cc : ByteArray} {own : String} {nL : Nat} {ret : Option FieldType} {cd : List zE}
theorem zstep_snd (hF : zFr p s m args c cc own nL Z (zA Z)) (hO : ∀ x, zMet l d x) (hret : meth.sig.returnType = ret) (hlocks : meth.locks = false) {Q : zP} {K : zK} {nx : zX} (e0 : zE) (hck : zechk own cc ret cd e0 = true)
    (hK : ∀ t ls st g, K t ls st g → ∀ e', cd[t]? = some e' → zGo p l e d s m args below meth c (zEnd below Z Q args s) Z (zA Z) s.heap nL e'.2.1 ls st g)
    (hn : (∀ a b c d, e0.1 ≠ .tableswitch a b c d) → ∀ ls st g, nx ls st g → zGo p l e d s m args below meth c (zEnd below Z Q args s) Z (zA Z) s.heap nL (e0.2.1 + zlen e0.1) ls st g) :
    ∀ (ls st : List zV) (g : zM), zstep (zC d) Q K e0 nx ls st g → zGo p l e d s m args below meth c (zEnd below Z Q args s) Z (zA Z) s.heap nL e0.2.1 ls st g := by
  intro ls st g h
  obtain ⟨ins, pc, x, y, z, v, lx⟩ := e0
  cases ins
  case tableswitch a b c d => exact zs_tableswitch hF hO hret hlocks hck hK h
  all_goals (have hn := hn (fun _ _ _ _ q => by cases q))
  case iconst n => exact zs_iconst hF hO hret hlocks hck hK hn h
  case bipush n => exact zs_bipush hF hO hret hlocks hck hK hn h
  case sipush n => exact zs_sipush hF hO hret hlocks hck hK hn h
  case ldc n => exact zs_ldc hF hO hret hlocks hck hK hn h
  case ldc_w n => exact zs_ldcw hF hO hret hlocks hck hK hn h
  case ldc2_w n => exact zs_ldc2 hF hO hret hlocks hck hK hn h
  case aconst_null => exact zs_null hF hO hret hlocks hck hK hn h
  case iload_n n => exact zs_iload_n hF hO hret hlocks hck hK hn h
  case iload n => exact zs_iload hF hO hret hlocks hck hK hn h
  case aload_n n => exact zs_aload_n hF hO hret hlocks hck hK hn h
  case aload n => exact zs_aload hF hO hret hlocks hck hK hn h
  case istore_n n => exact zs_istore_n hF hO hret hlocks hck hK hn h
  case istore n => exact zs_istore hF hO hret hlocks hck hK hn h
  case astore_n n => exact zs_astore_n hF hO hret hlocks hck hK hn h
  case astore n => exact zs_astore hF hO hret hlocks hck hK hn h
  case iinc k n => exact zs_iinc hF hO hret hlocks hck hK hn h
  case iadd => exact zs_iadd hF hO hret hlocks hck hK hn h
  case isub => exact zs_isub hF hO hret hlocks hck hK hn h
  case imul => exact zs_imul hF hO hret hlocks hck hK hn h
  case iand => exact zs_iand hF hO hret hlocks hck hK hn h
  case ior => exact zs_ior hF hO hret hlocks hck hK hn h
  case ixor => exact zs_ixor hF hO hret hlocks hck hK hn h
  case ishl => exact zs_ishl hF hO hret hlocks hck hK hn h
  case ishr => exact zs_ishr hF hO hret hlocks hck hK hn h
  case iushr => exact zs_iushr hF hO hret hlocks hck hK hn h
  case idiv => exact zs_idiv hF hO hret hlocks hck hK hn h
  case irem => exact zs_irem hF hO hret hlocks hck hK hn h
  case i2c => exact zs_i2c hF hO hret hlocks hck hK hn h
  case i2l => exact zs_i2l hF hO hret hlocks hck hK hn h
  case l2i => exact zs_l2i hF hO hret hlocks hck hK hn h
  case lor => exact zs_lor hF hO hret hlocks hck hK hn h
  case land => exact zs_land hF hO hret hlocks hck hK hn h
  case lshl => exact zs_lshl hF hO hret hlocks hck hK hn h
  case lushr => exact zs_lushr hF hO hret hlocks hck hK hn h
  case dup => exact zs_dup hF hO hret hlocks hck hK hn h
  case dup2 => exact zs_dup2 hF hO hret hlocks hck hK hn h
  case ifCond a b => exact zs_ifCond hF hO hret hlocks hck hK hn h
  case if_icmp a b => exact zs_if_icmp hF hO hret hlocks hck hK hn h
  case ifnull a => exact zs_ifnull hF hO hret hlocks hck hK hn h
  case goto a => exact zs_goto hF hO hret hlocks hck hK hn h
  case arraylength => exact zs_arraylength hF hO hret hlocks hck hK hn h
  case iaload => exact zs_iaload hF hO hret hlocks hck hK hn h
  case caload => exact zs_caload hF hO hret hlocks hck hK hn h
  case laload => exact zs_laload hF hO hret hlocks hck hK hn h
  case aaload => exact zs_aaload hF hO hret hlocks hck hK hn h
  case iastore => exact zs_iastore hF hO hret hlocks hck hK hn h
  case castore => exact zs_castore hF hO hret hlocks hck hK hn h
  case lastore => exact zs_lastore hF hO hret hlocks hck hK hn h
  case getfield i => exact zs_getfield hF hO hret hlocks hck hK hn h
  case putfield i => exact zs_putfield hF hO hret hlocks hck hK hn h
  case invokevirtual i => exact zs_invokevirtual hF hO hret hlocks hck hK hn h
  case invokestatic i => exact zs_invokestatic hF hO hret hlocks hck hK hn h
  case ireturn => exact zs_ireturn hF hO hret hlocks hck hK hn h
  case areturn => exact zs_areturn hF hO hret hlocks hck hK hn h
  case return_ => exact zs_return_ hF hO hret hlocks hck hK hn h
  all_goals exact False.elim h
theorem zcchk_drop (own : String) (cc : ByteArray) (ret : Option FieldType) (cd : List zE) : ∀ (t : Nat) (es : List zE), zcchk own cc ret cd es = true → zcchk own cc ret cd (es.drop t) = true
  | 0, _, h => h
  | _ + 1, [], h => h
  | t + 1, [e], h => by
    rw [List.drop_succ_cons, List.drop_nil]
    rfl
  | t + 1, e :: e' :: es, h => by
    rw [List.drop_succ_cons]
    refine zcchk_drop own cc ret cd t (e' :: es) ?_
    rw [zcchk, Bool.and_eq_true, Bool.and_eq_true] at h
    exact h.2
theorem zrun_snd (hF : zFr p s m args c cc own nL Z (zA Z)) (hO : ∀ x, zMet l d x) (hret : meth.sig.returnType = ret) (hlocks : meth.locks = false) {Q : zP} {K : zK}
    (hK : ∀ t ls st g, K t ls st g → ∀ e', cd[t]? = some e' → zGo p l e d s m args below meth c (zEnd below Z Q args s) Z (zA Z) s.heap nL e'.2.1 ls st g) :
    ∀ (es : List zE), zcchk own cc ret cd es = true → ∀ (ls st : List zV) (g : zM), zrun (zC d) Q K es ls st g → ∀ e0 es0, es = e0 :: es0 → zGo p l e d s m args below meth c (zEnd below Z Q args s) Z (zA Z) s.heap nL e0.2.1 ls st g := by
  intro es
  induction es with
  | nil => intro _ _ _ _ _ e0 es0 h; cases h
  | cons e1 es ih =>
    intro hck ls st g h e0 es0 he
    cases he
    cases es with
    | nil => exact zstep_snd hF hO hret hlocks e1 hck hK (fun _ ls st g q => False.elim q) ls st g h
    | cons e2 es2 =>
      rw [zcchk, Bool.and_eq_true, Bool.and_eq_true] at hck
      obtain ⟨⟨h1, h2⟩, h3⟩ := hck
      refine zstep_snd hF hO hret hlocks e1 h1 hK (fun hne ls st g q => ?_) ls st g h
      have k := ih h3 ls st g q e2 es2 rfl
      have e3 : e2.2.1 = e1.2.1 + zlen e1.1 := by
        obtain ⟨ins, r⟩ := e1
        cases ins <;> first | exact (hne _ _ _ _ rfl).elim | exact of_decide_eq_true h2
      rw [e3] at k
      exact k
theorem zargs (ad : Nat → Nat) : ∀ (as : List zV) (i0 : Nat), (∀ v ∈ as, zcat v = 1) → ∀ (j : Nat) (v : zV), as[j]? = some v → (i0 + j, zv ad v) ∈ lv_args i0 (as.map (zv ad))
  | [], _, _, j, v, h => by simp at h
  | a :: as, i0, hc, 0, v, h => by
    cases h
    exact List.mem_cons_self
  | a :: as, i0, hc, j + 1, v, h => by
    have h1 : ¬ (zv ad a).category = 2 := by rw [zcat_v, hc a List.mem_cons_self]; decide
    have h2 := zargs ad as (i0 + 1) (fun w hw => hc w (List.mem_cons_of_mem _ hw)) j v (by simpa using h)
    show _ ∈ (i0, zv ad a) :: lv_args (if (zv ad a).category = 2 then i0 + 2 else i0 + 1) (as.map (zv ad))
    rw [if_neg h1]
    have e : i0 + (j + 1) = i0 + 1 + j := by omega
    rw [e]
    exact List.mem_cons_of_mem _ h2
theorem zsl_len (ad : Nat → Nat) : ∀ (as : List zV), (∀ v ∈ as, zcat v = 1) → (lg_sl (as.map (zv ad))).length = as.length
  | [], _ => rfl
  | a :: as, hc => by
    have h1 : ¬ (zv ad a).category = 2 := by rw [zcat_v, hc a List.mem_cons_self]; decide
    have h2 := zsl_len ad as (fun w hw => hc w (List.mem_cons_of_mem _ hw))
    unfold lg_sl at h2 ⊢
    rw [List.map_cons, List.flatMap_cons, if_neg h1, List.length_append, h2]
    simp
    omega
set_option maxHeartbeats 1000000 in
/-- what holds of a method in the small machine, the machine does -/
theorem zsnd (l : Launch) : ∀ (d m : Nat), zMet l d m := by
  intro d
  induction d with
  | zero => intro m Z hin as g Q hC; exact hC.elim
  | succ d ih =>
    intro mm Z hin as g Q hC M I hM hI
    obtain ⟨M', hM', ⟨hlen, hcat⟩, hW⟩ := hC
    cases hM.symm.trans hM'
    obtain ⟨I', hI', hz⟩ := zk_all mm M hM
    cases hI.symm.trans hI'
    obtain ⟨k0, k00, ⟨q1, q2, q3, q4, q5, q6, q7⟩, k1, k2, k3, k4⟩ := zts_of hz
    have hcat : ∀ v ∈ as, zcat v = 1 := fun v hv => by
      have := List.all_eq_true.mp hcat v hv
      simpa using this
    refine Met.ofW (cc := I.2.1) (maxL := M.2.2) (ret := I.2.2.1) (ws' := zTs) q3 rfl ?_
    intro p e s m args below meth c s₁ B hml hv
    obtain ⟨rfl, hP, hK, hN⟩ := hv
    have hts0 := atoms_spec (ws := zwd I.1 I.2.1 M.2.2 I.2.2.1) B.pre
    have hF : zFr p s m (as.map (zv Z.2.2)).toArray c I.2.1 I.1.cls M.2.2 Z (zA Z) := ⟨B.exec, B.bytes, hml, findClass_of_methodNamed B.named, fun w hw => hts0 w (List.mem_cons_of_mem _ hw), ⟨hK, hN⟩, hin, fun _ h => h⟩
    have hl := lv_entry (as.map (zv Z.2.2)) (n := M.2.2) (by rw [zsl_len _ _ hcat]; omega)
    rw [lg_entry_eq]
    generalize (lg_sl (as.map (zv Z.2.2)) ++ List.replicate (M.2.2 - (lg_sl (as.map (zv Z.2.2))).length) Slot.unset).toArray = real at hl ⊢
    have hls : zLs Z.2.2 M.2.2 (as ++ List.replicate (M.2.2 - M.2.1) zU) real := by
      refine ⟨⟨hl.1, by simp; omega⟩, hl.2.1, fun i v hv hc hu => ?_⟩
      by_cases hi : i < as.length
      · rw [List.getElem?_append_left hi] at hv
        have h1 := zargs Z.2.2 as 0 hcat i v hv
        rw [Nat.zero_add] at h1
        exact hl.2.2 _ h1
      · rw [List.getElem?_append_right (by omega)] at hv
        have := List.eq_of_mem_replicate (List.mem_of_getElem? hv)
        exact (hu this).elim
    have key := hW (fun t ls st g => ∀ e', M.1[t]? = some e' → zGo p l e d s m (as.map (zv Z.2.2)).toArray below meth c (zEnd below Z Q (as.map (zv Z.2.2)).toArray s) Z (zA Z) s.heap M.2.2 e'.2.1 ls st g) (fun t ls st g hr e' he' => by
      have hlt : t < M.1.length := (List.getElem?_eq_some_iff.mp he').1
      have hd : M.1.drop t = e' :: M.1.drop (t + 1) := by
        rw [List.drop_eq_getElem_cons hlt]
        congr 1
        exact (List.getElem?_eq_some_iff.mp he').2
      exact zrun_snd hF ih B.returns B.notSynchronized (fun t ls st g q => q) (M.1.drop t) (zcchk_drop _ _ _ _ t _ k0) ls st g hr e' _ hd)
    cases hM1 : M.1 with
    | nil => rw [hM1] at k00; exact absurd k00 (by decide)
    | cons e0 es =>
      rw [hM1] at k00
      have k00 : e0.2.1 = 0 := k00
      have := key e0 (by rw [hM1]; rfl) real s.heap [] hls ⟨hP, va_S.rf⟩
      rw [k00] at this
      exact this
end ZU
end
section
/-! bits of small whole numbers, as the small machine computes them -/
theorem zTI {z : Int32} {m : Nat} (h : z.toBitVec.toNat = m) (hm : m < 2 ^ 31) : z.toInt = (m : Int) := by
  show z.toBitVec.toInt = _
  rw [BitVec.toInt_eq_toNat_of_lt (by rw [h]; omega), h]
theorem zTN {a : Nat} (h : a < 2 ^ 32) : (zJ (a : Int)).toBitVec.toNat = a := by
  rw [zJ_nat]
  exact pk_tn h
theorem zand_nat {a b : Nat} (ha : a < 2 ^ 31) (hb : b < 2 ^ 31) : zand a b = ((a &&& b : Nat) : Int) := by
  refine zTI ?_ (Nat.lt_of_le_of_lt Nat.and_le_left ha)
  show ((zJ a).toBitVec &&& (zJ b).toBitVec).toNat = _
  rw [BitVec.toNat_and, zTN (by omega), zTN (by omega)]
theorem zor_nat {a b : Nat} (ha : a < 2 ^ 31) (hb : b < 2 ^ 31) : zor a b = ((a ||| b : Nat) : Int) := by
  refine zTI ?_ (Nat.or_lt_two_pow ha hb)
  show ((zJ a).toBitVec ||| (zJ b).toBitVec).toNat = _
  rw [BitVec.toNat_or, zTN (by omega), zTN (by omega)]
theorem zxor_nat {a b : Nat} (ha : a < 2 ^ 31) (hb : b < 2 ^ 31) : zxor a b = ((a ^^^ b : Nat) : Int) := by
  refine zTI ?_ (Nat.xor_lt_two_pow ha hb)
  show ((zJ a).toBitVec ^^^ (zJ b).toBitVec).toNat = _
  rw [BitVec.toNat_xor, zTN (by omega), zTN (by omega)]
theorem zmod31 {t : Nat} (h : t < 32) : ((zJ (t : Int) &&& 31).toBitVec.smod 32).toNat = t := by
  have : ∀ t : Nat, t < 32 → ((zJ (t : Int) &&& 31).toBitVec.smod 32).toNat = t := by decide +kernel
  exact this t h
theorem zshr_nat {a t : Nat} (ha : a < 2 ^ 31) (ht : t < 32) : zshr a t = ((a / 2 ^ t : Nat) : Int) := by
  unfold zshr
  rw [zJ_nat a]
  show (nI a >>> _).toInt = _
  rw [pk_shrN ha _ t (zmod31 ht)]
  exact nI_toInt (Nat.lt_of_le_of_lt (Nat.div_le_self _ _) ha)
theorem zshl_nat {a t : Nat} (ht : t < 32) (h : a * 2 ^ t < 2 ^ 31) : zshl a t = ((a * 2 ^ t : Nat) : Int) := by
  unfold zshl
  rw [zJ_nat a]
  show (nI a <<< _).toInt = _
  rw [pk_shlN _ t (zmod31 ht) (by omega)]
  exact nI_toInt h
theorem zone_shl {t : Nat} (ht : t < 31) : zshl 1 t = ((2 ^ t : Nat) : Int) := by
  have h := @zshl_nat 1 t (by omega) (by rw [Nat.one_mul]; exact Nat.pow_lt_pow_right (by decide) ht)
  rw [Nat.one_mul] at h
  exact h
theorem nand_pow (a t : Nat) : a &&& 2 ^ t = if a.testBit t then 2 ^ t else 0 := by
  refine Nat.eq_of_testBit_eq (fun i => ?_)
  rw [Nat.testBit_and, Nat.testBit_two_pow]
  by_cases h : a.testBit t = true
  · rw [if_pos h, Nat.testBit_two_pow]
    by_cases hi : t = i
    · subst hi; simp [h]
    · simp [hi]
  · rw [if_neg h, Nat.zero_testBit]
    by_cases hi : t = i
    · subst hi; simpa using h
    · simp [hi]
/-- the bit t of a set -/
theorem zbit {a t : Nat} (ha : a < 2 ^ 31) (ht : t < 32) : zand (zshr a t) 1 = if a.testBit t then 1 else 0 := by
  rw [zshr_nat ha ht]
  have h := @zand_nat (a / 2 ^ t) 1 (Nat.lt_of_le_of_lt (Nat.div_le_self _ _) ha) (by decide)
  have e : ((1 : Nat) : Int) = 1 := rfl
  rw [e] at h
  rw [h, Nat.and_one_is_mod, Nat.testBit_eq_decide_div_mod_eq]
  by_cases hb : a / 2 ^ t % 2 = 1
  · rw [hb]; simp
  · have : a / 2 ^ t % 2 = 0 := by omega
    rw [this]; simp
theorem zbit1 {a t : Nat} (ha : a < 2 ^ 31) (ht : t < 32) : zand (zshr a t) 1 = 1 ↔ a.testBit t = true := by
  rw [zbit ha ht]
  by_cases h : a.testBit t = true <;> simp [h]
theorem zbit2 {a t : Nat} (ha : a < 2 ^ 31) (ht : t < 31) : zand a (zshl 1 t) = if a.testBit t then ((2 ^ t : Nat) : Int) else 0 := by
  rw [zone_shl ht, zand_nat ha (Nat.pow_lt_pow_right (by decide) ht), nand_pow]
  by_cases h : a.testBit t = true
  · rw [if_pos h, if_pos h]
  · have h : a.testBit t = false := by simpa using h
    rw [h]; rfl
theorem zbit3 {a t : Nat} (ha : a < 2 ^ 31) (ht : t < 31) : zand a (zshl 1 t) = 0 ↔ a.testBit t = false := by
  rw [zbit2 ha ht]
  have : 0 < 2 ^ t := Nat.two_pow_pos t
  by_cases h : a.testBit t = true
  · rw [if_pos h, h]
    exact ⟨fun q => by omega, fun q => Bool.noConfusion q⟩
  · have h : a.testBit t = false := by simpa using h
    rw [h]; simp
/-- a without b -/
def ndf (a b : Nat) : Nat := a ^^^ (a &&& b)
theorem ndf_bit (a b t : Nat) : (ndf a b).testBit t = (a.testBit t && !b.testBit t) := by
  unfold ndf
  rw [Nat.testBit_xor, Nat.testBit_and]
  cases a.testBit t <;> cases b.testBit t <;> rfl
theorem zandnot {a b : Nat} (ha : a < 2 ^ 31) (hb : b < 2 ^ 31) : zand a (zxor b (-1)) = ((ndf a b : Nat) : Int) := by
  have hle : ndf a b < 2 ^ 31 := Nat.xor_lt_two_pow ha (Nat.lt_of_le_of_lt Nat.and_le_left ha)
  refine zTI ?_ hle
  show ((zJ a).toBitVec &&& (zJ (zxor b (-1))).toBitVec).toNat = _
  have e : (zJ (zxor b (-1))).toBitVec = ~~~ (zJ b).toBitVec := by
    unfold zxor
    rw [zJ_of]
    show (zJ b).toBitVec ^^^ (zJ (-1)).toBitVec = _
    have : (zJ (-1)).toBitVec = BitVec.allOnes 32 := by decide
    rw [this, BitVec.xor_allOnes]
  rw [e]
  refine Nat.eq_of_testBit_eq (fun t => ?_)
  rw [ndf_bit, BitVec.toNat_and, Nat.testBit_and, zTN (by omega)]
  by_cases ht : t < 32
  · have : (~~~ (zJ b).toBitVec).toNat.testBit t = !(zJ b).toBitVec.toNat.testBit t := by
      rw [BitVec.testBit_toNat, BitVec.getLsbD_not, BitVec.testBit_toNat]
      simp [ht]
    rw [this, zTN (by omega)]
  · have h1 : a.testBit t = false := Nat.testBit_lt_two_pow (Nat.lt_of_lt_of_le ha (Nat.pow_le_pow_right (by decide) (by omega)))
    rw [h1]; rfl
theorem zpow_bit (i t : Nat) : (2 ^ i).testBit t = decide (i = t) := Nat.testBit_two_pow
theorem zbits_lt {a n : Nat} (h : ∀ t, n ≤ t → a.testBit t = false) : a < 2 ^ n := Nat.lt_pow_two_of_testBit a h
theorem zlt_bits {a n t : Nat} (h : a < 2 ^ n) (ht : n ≤ t) : a.testBit t = false := Nat.testBit_lt_two_pow (Nat.lt_of_lt_of_le h (Nat.pow_le_pow_right (by decide) ht))
theorem zp12 {n : Nat} (h : n ≤ 12) : 2 ^ n ≤ 4096 := Nat.pow_le_pow_right (by decide) h
theorem zup_s {g : zM} {k : Nat} {i v : Int} : zup g k i v k i = v := by simp [zup]
theorem zup_k {g : zM} {k k' : Nat} {i v j : Int} (h : k' ≠ k) : zup g k i v k' j = g k' j := by simp [zup, h]
theorem zup_i {g : zM} {k k' : Nat} {i v j : Int} (h : j ≠ i) : zup g k i v k' j = g k' j := by simp [zup, h]
theorem zQe {Q : zP} {x y : Int} {g : zM} (h : Q (some (zI x)) g) (e : y = x) : Q (some (zI y)) g := e ▸ h
end
section
/-! straight runs that stop ahead of a place: for the heads of loops -/
def zrunE (O : zO) (Ret : zP) (K : zK) (E : zX) (es : List zE) : zX := List.rec (motive := fun _ => zX) E (fun e _ ih => zstep O Ret K e ih) es
theorem zrunE_mono {O : zO} {R : zP} {K : zK} {E E' : zX} (hO : zOm O) (hE : ∀ ls st g, E ls st g → E' ls st g) :
    ∀ (es : List zE) (ls st : List zV) (g : zM), zrunE O R K E es ls st g → zrunE O R K E' es ls st g := by
  intro es
  induction es with
  | nil => exact hE
  | cons e es ih => exact fun ls st g h => zstep_mono hO (fun _ _ q => q) (fun _ _ _ _ q => q) ih e ls st g h
theorem zrunE_app {O : zO} {R : zP} {K : zK} : ∀ (a b : List zE) (ls st : List zV) (g : zM), zrunE O R K (zrun O R K b) a ls st g = zrun O R K (a ++ b) ls st g := by
  intro a b
  induction a with
  | nil => intro _ _ _; rfl
  | cons e es ih =>
    intro ls st g
    have : zrunE O R K (zrun O R K b) es = zrun O R K (es ++ b) := by funext ls st g; exact ih ls st g
    show zstep O R K e (zrunE O R K (zrun O R K b) es) ls st g = zstep O R K e (zrun O R K (es ++ b)) ls st g
    rw [this]
theorem zW.un {cd : List zE} {O : zO} {Ret : zP} (hO : zOm O) {t : Nat} {ls st : List zV} {g : zM} (h : zW cd O Ret t ls st g) : zrun O Ret (zW cd O Ret) (cd.drop t) ls st g :=
  h (fun t ls st g => zrun O Ret (zW cd O Ret) (cd.drop t) ls st g) (fun t ls st g q => zrun_mono hO (fun _ _ q => q) (fun t ls st g q => zW.go hO (fun K hK => zrun_mono hO (fun _ _ q => q) hK _ _ _ _ q)) _ _ _ _ q)
theorem zW.upto {cd : List zE} {O : zO} {Ret : zP} (hO : zOm O) (n : Nat) {t : Nat} {ls st : List zV} {g : zM} (h : ∀ K : zK, (∀ t ls st g, zW cd O Ret t ls st g → K t ls st g) → zrunE O Ret K (fun ls st g => K (t + n) ls st g) ((cd.drop t).take n) ls st g) : zW cd O Ret t ls st g := by
  refine zW.go hO (fun K hK => ?_)
  have h1 := h (zW cd O Ret) (fun _ _ _ _ q => q)
  have h2 := zrunE_mono (E' := zrun O Ret (zW cd O Ret) (cd.drop (t + n))) hO (fun ls st g q => zW.un hO q) _ _ _ _ h1
  have e : cd.drop (t + n) = (cd.drop t).drop n := by rw [List.drop_drop]
  rw [e, zrunE_app, List.take_append_drop] at h2
  exact zrun_mono hO (fun _ _ q => q) hK _ _ _ _ h2
end
section
/-! the class's small methods -/
theorem zin_and {x y : Int} : zin (zand x y) := ⟨Int32.le_toInt _, Int32.toInt_lt _⟩
theorem s_isWithin {d : Nat} {v a b : Int} {g : zM} {Q : zP} (hv : zin v) (ha : zin a) (hb : zin b) (hQ : Q (some (zI (if a ≤ v ∧ v ≤ b then 1 else 0))) g) : zC (d + 1) 81 [zI v, zI a, zI b] g Q := by
  refine zC.go zm_X5_isWithin ⟨rfl, rfl⟩ rfl ?_
  (refine zW.go (zC_om _) (fun K hK => ?_); conv => whnf)
  (repeat' first | (refine hK _ _ _ _ (zW.go (zC_om _) (fun K hK => ?_)); conv => whnf) | (refine And.intro (by first | omega | assumption | rfl | decide | exact zin_and | exact ⟨zin_and, by omega⟩ | exact ⟨by omega, zin_and⟩ | exact ⟨by omega, by assumption⟩) ?_; conv => whnf) | (refine And.intro (fun h => ?_) (fun h => ?_) <;> conv => whnf) | (intro h; conv => whnf))
  all_goals (refine zQe hQ ?_; split <;> omega)
theorem s_has {d : Nat} {a t : Nat} {g : zM} {Q : zP} (ha : a < 2 ^ 31) (ht : t < 32) (hQ : Q (some (zI (if a.testBit t then 1 else 0))) g) : zC (d + 1) 82 [zI a, zI t] g Q := by
  refine zC.go zm_X5_has ⟨rfl, rfl⟩ rfl ?_
  have hz := zbit1 ha ht
  (refine zW.go (zC_om _) (fun K hK => ?_); conv => whnf)
  (repeat' first | (refine hK _ _ _ _ (zW.go (zC_om _) (fun K hK => ?_)); conv => whnf) | (refine And.intro (by first | omega | assumption | rfl | decide | exact zin_and | exact ⟨zin_and, by omega⟩ | exact ⟨by omega, zin_and⟩ | exact ⟨by omega, by assumption⟩) ?_; conv => whnf) | (refine And.intro (fun h => ?_) (fun h => ?_) <;> conv => whnf) | (intro h; conv => whnf))
  · refine zQe hQ ?_
    rw [if_neg (fun q => h (hz.mpr q))]
  · refine zQe hQ ?_
    rw [if_pos (hz.mp h)]
theorem s_at {d : Nat} {a n : Nat} {i : Int} {g : zM} {Q : zP} (hk : zkd a = (1, n)) (hn : n < 100000) (hi : zin i) (hQ : Q (some (zI (if 0 ≤ i ∧ i < n then g a i else 0))) g) : zC (d + 1) 83 [zR a, zI i] g Q := by
  refine zC.go zm_X5_at ⟨rfl, rfl⟩ rfl ?_
  have hk1 : (zkd a).1 = 1 := by rw [hk]
  have hk2 : (zkd a).2 = n := by rw [hk]
  (refine zW.go (zC_om _) (fun K hK => ?_); conv => whnf)
  (repeat' first | (refine hK _ _ _ _ (zW.go (zC_om _) (fun K hK => ?_)); conv => whnf) | (refine And.intro (by first | omega | assumption | rfl | decide | exact zin_and | exact ⟨zin_and, by omega⟩ | exact ⟨by omega, zin_and⟩ | exact ⟨by omega, by assumption⟩) ?_; conv => whnf) | (refine And.intro (fun h => ?_) (fun h => ?_) <;> conv => whnf) | (intro h; conv => whnf))
  · refine zQe hQ ?_
    rw [if_neg (by omega)]
  · refine zQe hQ ?_
    rw [if_neg (by omega)]
  · refine zQe hQ ?_
    rw [if_pos (by omega)]
theorem s_put {d : Nat} {a n : Nat} {i v : Int} {g : zM} {Q : zP} (hk : zkd a = (1, n)) (hn : n < 100000) (h0 : 0 ≤ i) (h1 : i < n) (hQ : Q none (zup g a i v)) : zC (d + 1) 84 [zR a, zI i, zI v] g Q := by
  refine zC.go zm_X5_put ⟨rfl, rfl⟩ rfl ?_
  have hk1 : (zkd a).1 = 1 := by rw [hk]
  have hk2 : (zkd a).2 = n := by rw [hk]
  (refine zW.go (zC_om _) (fun K hK => ?_); conv => whnf)
  (repeat' first | (refine hK _ _ _ _ (zW.go (zC_om _) (fun K hK => ?_)); conv => whnf) | (refine And.intro (by first | omega | assumption | rfl | decide | exact zin_and | exact ⟨zin_and, by omega⟩ | exact ⟨by omega, zin_and⟩ | exact ⟨by omega, by assumption⟩) ?_; conv => whnf) | (refine And.intro (fun h => ?_) (fun h => ?_) <;> conv => whnf) | (intro h; conv => whnf))
  all_goals first | exact hQ | omega
/-- the sum of the numbers from f on that a set has, of the first n -/
def bsum (r : Int → Int) (f : Int) (set : Nat) : Nat → Int
  | 0 => 0
  | n + 1 => bsum r f set n + if set.testBit n then r (f + n) else 0
theorem s_sumOf {d : Nat} {a set : Nat} {g : zM} {Q : zP} (hk : zkd a = (1, 12)) (hs : set < 2 ^ 12) (hQ : Q (some (zI (bsum (g a) 0 set 12))) g) : zC (d + 1) 85 [zR a, zI set] g Q := by
  have hk1 : (zkd a).1 = 1 := by rw [hk]
  have hk2 : (zkd a).2 = 12 := by rw [hk]
  refine zC.go zm_X5_sumOf ⟨rfl, rfl⟩ rfl ?_
  have loop : ∀ m t : Nat, t + m = 12 → zW zX5_sumOf (zC d) Q 4 [zR a, zI set, zI (bsum (g a) 0 set t), zI t] [] g := by
    intro m
    induction m with
    | zero =>
      intro t ht
      have e : t = 12 := by omega
      subst e
      (refine zW.go (zC_om _) (fun K hK => ?_); conv => whnf)
      (refine And.intro (by first | omega | assumption | rfl | decide | exact zin_and | exact ⟨zin_and, by omega⟩ | exact ⟨by omega, zin_and⟩) ?_; conv => whnf)
      (refine And.intro (by first | omega | assumption | rfl | decide | exact zin_and | exact ⟨zin_and, by omega⟩ | exact ⟨by omega, zin_and⟩) ?_; conv => whnf)
      (refine And.intro (fun h => ?_) (fun h => by omega); conv => whnf)
      (repeat' first | (refine hK _ _ _ _ (zW.go (zC_om _) (fun K hK => ?_)); conv => whnf) | (refine And.intro (by first | omega | assumption | rfl | decide | exact zin_and | exact ⟨zin_and, by omega⟩ | exact ⟨by omega, zin_and⟩ | exact ⟨by omega, by assumption⟩) ?_; conv => whnf) | (refine And.intro (fun h => ?_) (fun h => ?_) <;> conv => whnf) | (intro h; conv => whnf))
      exact hQ
    | succ m ih =>
      intro t ht
      have hb := zbit2 (a := set) (t := t) (by omega) (by omega)
      have e0 : bsum (g a) 0 set (t + 1) = bsum (g a) 0 set t + if set.testBit t then g a t else 0 := by
        show bsum (g a) 0 set t + _ = _
        rw [Int.zero_add]
      have hi := ih (t + 1) (by omega)
      rw [e0] at hi
      have hp : 0 < 2 ^ t := Nat.two_pow_pos t
      (refine zW.go (zC_om _) (fun K hK => ?_); conv => whnf)
      (refine And.intro (by first | omega | assumption | rfl | decide | exact zin_and | exact ⟨zin_and, by omega⟩ | exact ⟨by omega, zin_and⟩) ?_; conv => whnf)
      (refine And.intro (by first | omega | assumption | rfl | decide | exact zin_and | exact ⟨zin_and, by omega⟩ | exact ⟨by omega, zin_and⟩) ?_; conv => whnf)
      (refine And.intro (fun h => by omega) (fun h => ?_); conv => whnf)
      (refine And.intro (by first | omega | assumption | rfl | decide | exact zin_and | exact ⟨zin_and, by omega⟩ | exact ⟨by omega, zin_and⟩) ?_; conv => whnf)
      rw [hb]
      by_cases hbit : set.testBit t = true
      · rw [if_pos hbit] at hi ⊢
        (refine And.intro (fun h => by omega) (fun h => ?_); conv => whnf)
        (refine And.intro (by first | omega | assumption | rfl | decide | exact zin_and | exact ⟨zin_and, by omega⟩ | exact ⟨by omega, zin_and⟩) ?_; conv => whnf)
        exact hK _ _ _ _ hi
      · rw [if_neg hbit, Int.add_zero] at hi
        rw [if_neg hbit]
        (refine And.intro (fun h => ?_) (fun h => by omega); conv => whnf)
        exact hK _ _ _ _ (zW.go (zC_om _) (fun K hK => hK _ _ _ _ hi))
  (refine zW.upto (zC_om _) 4 (fun K hK => ?_); conv => whnf)
  exact hK _ _ _ _ (loop 12 0 rfl)
end
section
/-! counting, and the order of the bound: things by worth by weight, on a row of numbers (0 how many, 9.. worths, 21.. weights, 33.. bars) -/
def zcnt : Nat → (Nat → Bool) → Nat
  | 0, _ => 0
  | n + 1, p => zcnt n p + if p n then 1 else 0
theorem zcnt_le : ∀ (n : Nat) (p : Nat → Bool), zcnt n p ≤ n
  | 0, _ => Nat.le_refl _
  | n + 1, p => by
    have h := zcnt_le n p
    show zcnt n p + _ ≤ _
    split <;> omega
theorem zcnt_mono : ∀ (n : Nat) (p q : Nat → Bool), (∀ k, k < n → p k = true → q k = true) → zcnt n p ≤ zcnt n q
  | 0, _, _, _ => Nat.le_refl _
  | n + 1, p, q, h => by
    have h1 := zcnt_mono n p q (fun k hk => h k (by omega))
    have h2 := h n (by omega)
    show zcnt n p + _ ≤ zcnt n q + _
    by_cases hp : p n = true
    · rw [if_pos hp, if_pos (h2 hp)]; omega
    · rw [if_neg hp]; omega
theorem zcnt_lt : ∀ (n : Nat) (p q : Nat → Bool), (∀ k, k < n → p k = true → q k = true) → ∀ j, j < n → p j = false → q j = true → zcnt n p < zcnt n q
  | 0, _, _, _, j, hj, _, _ => absurd hj (by omega)
  | n + 1, p, q, h, j, hj, h1, h2 => by
    show zcnt n p + _ < zcnt n q + _
    by_cases he : j = n
    · subst he
      have h3 := zcnt_mono j p q (fun k hk => h k (by omega))
      rw [if_neg (by rw [h1]; decide), if_pos h2]
      omega
    · have h3 := zcnt_lt n p q (fun k hk => h k (by omega)) j (by omega) h1 h2
      have h4 := h n (by omega)
      by_cases hp : p n = true
      · rw [if_pos hp, if_pos (h4 hp)]; omega
      · rw [if_neg hp]; omega
theorem zcnt_congr : ∀ (n : Nat) (p q : Nat → Bool), (∀ k, k < n → p k = q k) → zcnt n p = zcnt n q
  | 0, _, _, _ => rfl
  | n + 1, p, q, h => by
    show zcnt n p + _ = zcnt n q + _
    rw [zcnt_congr n p q (fun k hk => h k (by omega)), h n (by omega)]
theorem zcnt_all : ∀ (n : Nat), zcnt n (fun _ => true) = n
  | 0 => rfl
  | n + 1 => by
    show zcnt n _ + 1 = _
    rw [zcnt_all n]
/-- a map of n places into themselves that takes none twice takes each -/
theorem zpig : ∀ (n : Nat) (f : Nat → Nat), (∀ i, i < n → f i < n) → (∀ i j, i < n → j < n → f i = f j → i = j) → ∀ k, k < n → ∃ i, i < n ∧ f i = k
  | 0, _, _, _, k, hk => absurd hk (by omega)
  | n + 1, f, hf, hi, k, hk => by
    -- the map with n taken out
    let h : Nat → Nat := fun i => if f i = n then f n else f i
    by_cases hn : f n = k
    · exact ⟨n, by omega, hn⟩
    · have hh : ∀ i, i < n → h i < n := by
        intro i hin
        show (if f i = n then f n else f i) < n
        have h1 := hf i (by omega)
        have h2 := hf n (by omega)
        by_cases hz : f i = n
        · rw [if_pos hz]
          have : f n ≠ f i := fun q => by have := hi n i (by omega) (by omega) q; omega
          omega
        · rw [if_neg hz]; omega
      have hinj : ∀ i j, i < n → j < n → h i = h j → i = j := by
        intro i j hin hjn hij
        have hij : (if f i = n then f n else f i) = (if f j = n then f n else f j) := hij
        by_cases h1 : f i = n <;> by_cases h2 : f j = n
        · exact hi i j (by omega) (by omega) (by omega)
        · rw [if_pos h1, if_neg h2] at hij
          have := hi n j (by omega) (by omega) hij
          omega
        · rw [if_neg h1, if_pos h2] at hij
          have := hi i n (by omega) (by omega) hij
          omega
        · rw [if_neg h1, if_neg h2] at hij
          exact hi i j (by omega) (by omega) hij
      by_cases hkn : k = n
      · -- someone else than n goes to n: else f maps n + 1 places into n
        subst hkn
        have h2 : f k < k := by
          have := hf k (by omega)
          omega
        obtain ⟨i, h3, h4⟩ := zpig k h hh hinj (f k) h2
        have h4 : (if f i = k then f k else f i) = f k := h4
        by_cases hz : f i = k
        · exact ⟨i, by omega, hz⟩
        · rw [if_neg hz] at h4
          have := hi i k (by omega) (by omega) h4
          omega
      · obtain ⟨i, h3, h4⟩ := zpig n h hh hinj k (by omega)
        have h4 : (if f i = n then f n else f i) = k := h4
        by_cases hz : f i = n
        · rw [if_pos hz] at h4
          exact absurd h4 hn
        · rw [if_neg hz] at h4
          exact ⟨i, by omega, h4⟩
def zfind : Nat → (Nat → Bool) → Nat
  | 0, _ => 0
  | n + 1, p => if p n then n else zfind n p
theorem zfind_spec : ∀ (n : Nat) (p : Nat → Bool), (∃ t, t < n ∧ p t = true) → zfind n p < n ∧ p (zfind n p) = true
  | 0, _, h => by obtain ⟨t, h1, -⟩ := h; omega
  | n + 1, p, h => by
    show (if p n then n else zfind n p) < n + 1 ∧ p (if p n then n else zfind n p) = true
    by_cases hp : p n = true
    · rw [if_pos hp]; exact ⟨by omega, hp⟩
    · rw [if_neg hp]
      obtain ⟨t, h1, h2⟩ := h
      have ht : t ≠ n := fun q => hp (q ▸ h2)
      obtain ⟨h3, h4⟩ := zfind_spec n p ⟨t, by omega, h2⟩
      exact ⟨by omega, h4⟩
abbrev zS : Type := Int → Int
/-- k goes ahead of t -/
def mah (s : zS) (k t : Nat) : Bool := decide (s (9 + t) * s (21 + k) < s (9 + k) * s (21 + t)) || (decide (s (9 + k) * s (21 + t) = s (9 + t) * s (21 + k)) && decide (k < t))
theorem mah_iff {s : zS} {k t : Nat} : mah s k t = true ↔ s (9 + t) * s (21 + k) < s (9 + k) * s (21 + t) ∨ (s (9 + k) * s (21 + t) = s (9 + t) * s (21 + k) ∧ k < t) := by
  simp [mah]
def mpl (s : zS) (n t : Nat) : Nat := zcnt n (fun k => mah s k t)
/-- worths and weights of the first n are numbers from 1 on -/
def mpos (s : zS) (n : Nat) : Prop := ∀ t : Nat, t < n → 1 ≤ s (9 + t) ∧ 1 ≤ s (21 + t)
theorem mah_irr {s : zS} {t : Nat} : mah s t t = false := by
  cases h : mah s t t with
  | false => rfl
  | true =>
    rcases mah_iff.mp h with h | h <;> omega
theorem mah_tot {s : zS} {k t : Nat} (h : k ≠ t) : mah s k t = true ∨ mah s t k = true := by
  rw [mah_iff, mah_iff]
  rcases Int.lt_trichotomy (s (9 + t) * s (21 + k)) (s (9 + k) * s (21 + t)) with h1 | h1 | h1
  · exact Or.inl (Or.inl h1)
  · rcases Nat.lt_or_gt_of_ne h with h2 | h2
    · exact Or.inl (Or.inr ⟨h1.symm, h2⟩)
    · exact Or.inr (Or.inr ⟨h1, h2⟩)
  · exact Or.inr (Or.inl h1)
theorem mah_trans {s : zS} {n a b c : Nat} (hp : mpos s n) (ha : a < n) (hb : b < n) (hc : c < n) (h1 : mah s a b = true) (h2 : mah s b c = true) : mah s a c = true := by
  obtain ⟨wa, va⟩ := hp a ha
  obtain ⟨wb, vb⟩ := hp b hb
  obtain ⟨wc, vc⟩ := hp c hc
  rw [mah_iff] at h1 h2 ⊢
  generalize s (9 + a) = wA at *
  generalize s (9 + b) = wB at *
  generalize s (9 + c) = wC at *
  generalize s (21 + a) = vA at *
  generalize s (21 + b) = vB at *
  generalize s (21 + c) = vC at *
  have l1 : wB * vA ≤ wA * vB := by rcases h1 with h | h <;> omega
  have l2 : wC * vB ≤ wB * vC := by rcases h2 with h | h <;> omega
  have m1 : wB * vA * vC ≤ wA * vB * vC := Int.mul_le_mul_of_nonneg_right l1 (by omega)
  have m2 : wC * vB * vA ≤ wB * vC * vA := Int.mul_le_mul_of_nonneg_right l2 (by omega)
  have e1 : wB * vA * vC = wB * vC * vA := by rw [Int.mul_assoc, Int.mul_comm vA vC, ← Int.mul_assoc]
  have e2 : wC * vB * vA = wC * vA * vB := by rw [Int.mul_assoc, Int.mul_comm vB vA, ← Int.mul_assoc]
  have e3 : wA * vB * vC = wA * vC * vB := by rw [Int.mul_assoc, Int.mul_comm vB vC, ← Int.mul_assoc]
  by_cases hs : wB * vA < wA * vB ∨ wC * vB < wB * vC
  · left
    have m3 : wC * vA * vB < wA * vC * vB := by
      rcases hs with h | h
      · have : wB * vA * vC < wA * vB * vC := Int.mul_lt_mul_of_pos_right h (by omega)
        omega
      · have : wC * vB * vA < wB * vC * vA := Int.mul_lt_mul_of_pos_right h (by omega)
        omega
    exact Int.lt_of_mul_lt_mul_right m3 (by omega)
  · right
    have h3 : wA * vB = wB * vA ∧ a < b := by rcases h1 with h | h <;> omega
    have h4 : wB * vC = wC * vB ∧ b < c := by rcases h2 with h | h <;> omega
    refine ⟨?_, by omega⟩
    have m4 : wA * vB * vC = wB * vA * vC := by rw [h3.1]
    have m5 : wB * vC * vA = wC * vB * vA := by rw [h4.1]
    have m6 : wA * vC * vB = wC * vA * vB := by omega
    exact Int.eq_of_mul_eq_mul_right (by omega) m6
theorem mpl_lt {s : zS} {n t : Nat} (ht : t < n) : mpl s n t < n := by
  have h := zcnt_lt n (fun k => mah s k t) (fun _ => true) (fun _ _ _ => rfl) t ht mah_irr rfl
  rw [zcnt_all] at h
  exact h
theorem mpl_mono {s : zS} {n t u : Nat} (hp : mpos s n) (ht : t < n) (hu : u < n) (h : mah s t u = true) : mpl s n t < mpl s n u :=
  zcnt_lt n _ _ (fun k hk q => mah_trans hp hk ht hu q h) t ht mah_irr h
theorem mpl_inj {s : zS} {n t u : Nat} (hp : mpos s n) (ht : t < n) (hu : u < n) (h : mpl s n t = mpl s n u) : t = u := by
  by_cases he : t = u
  · exact he
  · rcases mah_tot (s := s) he with q | q
    · have := mpl_mono hp ht hu q; omega
    · have := mpl_mono hp hu ht q; omega
/-- the thing at a place of the order -/
def mor (s : zS) (n k : Nat) : Nat := zfind n (fun t => mpl s n t == k)
theorem mor_spec {s : zS} {n k : Nat} (hp : mpos s n) (hk : k < n) : mor s n k < n ∧ mpl s n (mor s n k) = k := by
  obtain ⟨i, h1, h2⟩ := zpig n (mpl s n) (fun i hi => mpl_lt hi) (fun i j hi hj h => mpl_inj hp hi hj h) k hk
  have := zfind_spec n (fun t => mpl s n t == k) ⟨i, h1, by simpa using h2⟩
  exact ⟨this.1, beq_iff_eq.mp this.2⟩
theorem mor_pl {s : zS} {n t : Nat} (hp : mpos s n) (ht : t < n) : mor s n (mpl s n t) = t := by
  obtain ⟨h1, h2⟩ := mor_spec hp (mpl_lt (s := s) ht)
  exact mpl_inj hp h1 ht h2
theorem mor_inj {s : zS} {n j k : Nat} (hp : mpos s n) (hj : j < n) (hk : k < n) (h : mor s n j = mor s n k) : j = k := by
  rw [← (mor_spec hp hj).2, ← (mor_spec hp hk).2, h]
end
section
/-! the reference: sums, what is possible, what is free -/
theorem zdown {P : Nat → Prop} : ∀ n : Nat, P n → (∀ t, t < n → P (t + 1) → P t) → P 0
  | 0, h, _ => h
  | n + 1, h, hs => zdown n (hs n (by omega) h) (fun t ht => hs t (by omega))
def zb (b : Bool) : Int := if b then 1 else 0
theorem zb_t : zb true = 1 := rfl
theorem zb_f : zb false = 0 := rfl
/-- what a row says of things and room is in its limits -/
def mok (s : zS) (n : Nat) : Prop := s 0 = n ∧ n ≤ 12 ∧ (0 ≤ s 1 ∧ s 1 ≤ 200) ∧ ∀ t : Nat, t < n → (1 ≤ s (9 + t) ∧ s (9 + t) ≤ 99) ∧ (1 ≤ s (21 + t) ∧ s (21 + t) ≤ 50) ∧ (0 ≤ s (33 + t) ∧ s (33 + t) < 4096)
theorem mok.pos {s : zS} {n : Nat} (h : mok s n) : mpos s n := fun t ht => ⟨(h.2.2.2 t ht).1.1, (h.2.2.2 t ht).2.1.1⟩
def mb (s : zS) (t : Nat) : Nat := (s (33 + t)).toNat
theorem mb_lt {s : zS} {n t : Nat} (h : mok s n) (ht : t < n) : mb s t < 4096 := by
  have := (h.2.2.2 t ht).2.2
  unfold mb
  omega
theorem mb_eq {s : zS} {n t : Nat} (h : mok s n) (ht : t < n) : s (33 + t) = (mb s t : Int) := by
  have := (h.2.2.2 t ht).2.2
  unfold mb
  omega
theorem bsum_bd {r : Int → Int} {f c : Int} {set : Nat} : ∀ n : Nat, (∀ t : Nat, t < n → 0 ≤ r (f + t) ∧ r (f + t) ≤ c) → 0 ≤ bsum r f set n ∧ bsum r f set n ≤ c * n
  | 0, _ => by simp [bsum]
  | n + 1, h => by
    have h1 := bsum_bd (set := set) n (fun t ht => h t (by omega))
    have h2 := h n (by omega)
    have e : c * ((n + 1 : Nat) : Int) = c * n + c := by rw [Int.natCast_add, Int.mul_add]; simp
    show 0 ≤ bsum r f set n + _ ∧ bsum r f set n + _ ≤ _
    rw [e]
    split <;> omega
theorem msumv {s : zS} {n set : Nat} (h : mok s n) : 0 ≤ bsum s 21 set n ∧ bsum s 21 set n ≤ 600 := by
  have h1 := bsum_bd (r := s) (f := 21) (c := 50) (set := set) n (fun t ht => by have := (h.2.2.2 t ht).2.1; omega)
  have h2 := h.2.1
  omega
theorem msumw {s : zS} {n set : Nat} (h : mok s n) : 0 ≤ bsum s 9 set n ∧ bsum s 9 set n ≤ 1188 := by
  have h1 := bsum_bd (r := s) (f := 9) (c := 99) (set := set) n (fun t ht => by have := (h.2.2.2 t ht).1; omega)
  have h2 := h.2.1
  omega
theorem m_in {d : Nat} {v a b : Int} {g : zM} {Q : zP} (hv : zin v) (ha : zin a) (hb : zin b) (hQ : Q (some (zI (if a ≤ v ∧ v ≤ b then 1 else 0))) g) : zC (d + 1) 87 [zI v, zI a, zI b] g Q := by
  refine zC.go zm_X6_in ⟨rfl, rfl⟩ rfl ?_
  (refine zW.go (zC_om _) (fun K hK => ?_); conv => whnf)
  (repeat' first | (refine hK _ _ _ _ (zW.go (zC_om _) (fun K hK => ?_)); conv => whnf) | (refine And.intro (by first | omega | assumption | rfl | exact zin_and | exact ⟨zin_and, by omega⟩ | exact ⟨by omega, zin_and⟩ | exact Nat.le_of_ble_eq_true rfl | exact ⟨Nat.le_of_ble_eq_true rfl, rfl⟩ | exact ⟨Nat.le_of_ble_eq_true rfl, by assumption⟩ | decide) ?_; conv => whnf) | (refine And.intro (fun h => ?_) (fun h => ?_) <;> conv => whnf) | (intro h; conv => whnf))
  all_goals (refine zQe hQ ?_; split <;> omega)
/-- what node k's row says at f -/
abbrev nd (s : zS) (k f : Int) : Int := s (45 + 7 * k + f)
theorem m_of {d a : Nat} {node what : Int} {g : zM} {Q : zP} (ha : zkd a = (1, 2845)) (h1 : 0 ≤ node ∧ node < 400) (h2 : 0 ≤ what ∧ what < 7) (hQ : Q (some (zI (nd (g a) node what))) g) : zC (d + 1) 110 [zR a, zI node, zI what] g Q := by
  have hk1 : (zkd a).1 = 1 := by rw [ha]
  have hk2 : (zkd a).2 = 2845 := by rw [ha]
  refine zC.go zm_X6_of ⟨rfl, rfl⟩ rfl ?_
  (refine zW.go (zC_om _) (fun K hK => ?_); conv => whnf)
  (repeat' first | (refine hK _ _ _ _ (zW.go (zC_om _) (fun K hK => ?_)); conv => whnf) | (refine And.intro (by first | omega | assumption | rfl | exact zin_and | exact ⟨zin_and, by omega⟩ | exact ⟨by omega, zin_and⟩ | exact Nat.le_of_ble_eq_true rfl | exact ⟨Nat.le_of_ble_eq_true rfl, rfl⟩ | exact ⟨Nat.le_of_ble_eq_true rfl, by assumption⟩ | decide) ?_; conv => whnf) | (refine And.intro (fun h => ?_) (fun h => ?_) <;> conv => whnf) | (intro h; conv => whnf))
  exact hQ
theorem m_isThing {d : Nat} {t : Int} {n : Nat} {g : zM} {Q : zP} (ht : zin t) (hn : g 65 0 = n) (hn12 : n ≤ 12) (hQ : Q (some (zI (if 0 ≤ t ∧ t < n then 1 else 0))) g) : zC (d + 2) 88 [zR 64, zI t] g Q := by
  refine zC.go zm_X6_isThing ⟨rfl, rfl⟩ rfl ?_
  (refine zW.go (zC_om _) (fun K hK => ?_); conv => whnf)
  (refine And.intro (by first | omega | assumption | rfl | exact zin_and | exact ⟨zin_and, by omega⟩ | exact ⟨by omega, zin_and⟩ | exact Nat.le_of_ble_eq_true rfl | exact ⟨Nat.le_of_ble_eq_true rfl, rfl⟩ | exact ⟨Nat.le_of_ble_eq_true rfl, by assumption⟩ | decide) ?_; conv => whnf)
  (refine And.intro (by first | omega | assumption | rfl | exact zin_and | exact ⟨zin_and, by omega⟩ | exact ⟨by omega, zin_and⟩ | exact Nat.le_of_ble_eq_true rfl | exact ⟨Nat.le_of_ble_eq_true rfl, rfl⟩ | exact ⟨Nat.le_of_ble_eq_true rfl, by assumption⟩ | decide) ?_; conv => whnf)
  (refine And.intro (by first | omega | assumption | rfl | exact zin_and | exact ⟨zin_and, by omega⟩ | exact ⟨by omega, zin_and⟩ | exact Nat.le_of_ble_eq_true rfl | exact ⟨Nat.le_of_ble_eq_true rfl, rfl⟩ | exact ⟨Nat.le_of_ble_eq_true rfl, by assumption⟩ | decide) ?_; conv => whnf)
  (refine m_in ht (by omega) (by omega) ?_; conv => whnf)
  refine And.intro ⟨fun _ => by split <;> omega, fun q => by omega⟩ ?_
  refine zQe hQ ?_
  split <;> split <;> omega
theorem m_sum {d a n : Nat} {f : Int} {set : Nat} {g : zM} {Q : zP} (ha : zkd a = (1, 2845)) (hn : g a 0 = n) (hn12 : n ≤ 12) (hf0 : 0 ≤ f) (hf : f ≤ 2800) (hs : set < 2 ^ 31) (hQ : Q (some (zI (bsum (g a) f set n))) g) : zC (d + 1) 98 [zR a, zI f, zI set] g Q := by
  have hk1 : (zkd a).1 = 1 := by rw [ha]
  have hk2 : (zkd a).2 = 2845 := by rw [ha]
  refine zC.go zm_X6_sum ⟨rfl, rfl⟩ rfl ?_
  (refine zW.upto (zC_om _) 4 (fun K hK => ?_); conv => whnf)
  refine hK _ _ _ _ (zdown (P := fun t => zW zX6_sum (zC d) Q 4 [zR a, zI f, zI set, zI (bsum (g a) f set t), zI t] [] g) n ?_ ?_)
  · (refine zW.go (zC_om _) (fun K hK => ?_); conv => whnf)
    (refine And.intro (by first | omega | assumption | rfl | exact zin_and | exact ⟨zin_and, by omega⟩ | exact ⟨by omega, zin_and⟩ | exact Nat.le_of_ble_eq_true rfl | exact ⟨Nat.le_of_ble_eq_true rfl, rfl⟩ | exact ⟨Nat.le_of_ble_eq_true rfl, by assumption⟩ | decide) ?_; conv => whnf)
    (refine And.intro (by first | omega | assumption | rfl | exact zin_and | exact ⟨zin_and, by omega⟩ | exact ⟨by omega, zin_and⟩ | exact Nat.le_of_ble_eq_true rfl | exact ⟨Nat.le_of_ble_eq_true rfl, rfl⟩ | exact ⟨Nat.le_of_ble_eq_true rfl, by assumption⟩ | decide) ?_; conv => whnf)
    (refine And.intro (fun h => ?_) (fun h => by omega); conv => whnf)
    (repeat' first | (refine hK _ _ _ _ (zW.go (zC_om _) (fun K hK => ?_)); conv => whnf) | (refine And.intro (by first | omega | assumption | rfl | exact zin_and | exact ⟨zin_and, by omega⟩ | exact ⟨by omega, zin_and⟩ | exact Nat.le_of_ble_eq_true rfl | exact ⟨Nat.le_of_ble_eq_true rfl, rfl⟩ | exact ⟨Nat.le_of_ble_eq_true rfl, by assumption⟩ | decide) ?_; conv => whnf) | (refine And.intro (fun h => ?_) (fun h => ?_) <;> conv => whnf) | (intro h; conv => whnf))
    exact hQ
  · intro t ht hi
    have e0 : bsum (g a) f set (t + 1) = bsum (g a) f set t + if set.testBit t then g a (f + t) else 0 := rfl
    have hi : zW zX6_sum (zC d) Q 4 [zR a, zI f, zI set, zI (bsum (g a) f set (t + 1)), zI (t + 1 : Nat)] [] g := hi
    rw [e0] at hi
    (refine zW.go (zC_om _) (fun K hK => ?_); conv => whnf)
    (refine And.intro (by first | omega | assumption | rfl | exact zin_and | exact ⟨zin_and, by omega⟩ | exact ⟨by omega, zin_and⟩ | exact Nat.le_of_ble_eq_true rfl | exact ⟨Nat.le_of_ble_eq_true rfl, rfl⟩ | exact ⟨Nat.le_of_ble_eq_true rfl, by assumption⟩ | decide) ?_; conv => whnf)
    (refine And.intro (by first | omega | assumption | rfl | exact zin_and | exact ⟨zin_and, by omega⟩ | exact ⟨by omega, zin_and⟩ | exact Nat.le_of_ble_eq_true rfl | exact ⟨Nat.le_of_ble_eq_true rfl, rfl⟩ | exact ⟨Nat.le_of_ble_eq_true rfl, by assumption⟩ | decide) ?_; conv => whnf)
    (refine And.intro (fun h => by omega) (fun h => ?_); conv => whnf)
    rw [zbit hs (by omega)]
    by_cases hbit : set.testBit t = true
    · rw [if_pos hbit] at hi ⊢
      (refine And.intro (by first | omega | assumption | rfl | exact zin_and | exact ⟨zin_and, by omega⟩ | exact ⟨by omega, zin_and⟩ | exact Nat.le_of_ble_eq_true rfl | exact ⟨Nat.le_of_ble_eq_true rfl, rfl⟩ | exact ⟨Nat.le_of_ble_eq_true rfl, by assumption⟩ | decide) ?_; conv => whnf)
      (refine And.intro (fun h => by omega) (fun h => ?_); conv => whnf)
      (refine And.intro (by first | omega | assumption | rfl | exact zin_and | exact ⟨zin_and, by omega⟩ | exact ⟨by omega, zin_and⟩ | exact Nat.le_of_ble_eq_true rfl | exact ⟨Nat.le_of_ble_eq_true rfl, rfl⟩ | exact ⟨Nat.le_of_ble_eq_true rfl, by assumption⟩ | decide) ?_; conv => whnf)
      (refine hK _ _ _ _ (zW.go (zC_om _) (fun K hK => ?_)); conv => whnf)
      exact hK _ _ _ _ hi
    · rw [if_neg hbit] at hi ⊢
      (refine And.intro (by first | omega | assumption | rfl | exact zin_and | exact ⟨zin_and, by omega⟩ | exact ⟨by omega, zin_and⟩ | exact Nat.le_of_ble_eq_true rfl | exact ⟨Nat.le_of_ble_eq_true rfl, rfl⟩ | exact ⟨Nat.le_of_ble_eq_true rfl, by assumption⟩ | decide) ?_; conv => whnf)
      (refine And.intro (fun h => ?_) (fun h => by omega); conv => whnf)
      (refine hK _ _ _ _ (zW.go (zC_om _) (fun K hK => ?_)); conv => whnf)
      exact hK _ _ _ _ hi
def mpb (s : zS) (n set : Nat) : Nat → Bool
  | 0 => decide (bsum s 21 set n ≤ s 1)
  | t + 1 => mpb s n set t && (!set.testBit t || decide (mb s t &&& set = 0))
/-- whether the things of a set fit and do not bar each other -/
abbrev mposs (s : zS) (n set : Nat) : Bool := mpb s n set n
theorem m_isPossible {d a n set : Nat} {g : zM} {Q : zP} (ha : zkd a = (1, 2845)) (hok : mok (g a) n) (hs : set < 2 ^ 31) (hQ : Q (some (zI (zb (mposs (g a) n set)))) g) : zC (d + 2) 99 [zR a, zI set] g Q := by
  have hk1 : (zkd a).1 = 1 := by rw [ha]
  have hk2 : (zkd a).2 = 2845 := by rw [ha]
  obtain ⟨hn, hn12, hroom, hth⟩ := id hok
  have hsv := msumv (set := set) hok
  refine zC.go zm_X6_isPossible ⟨rfl, rfl⟩ rfl ?_
  have loop : zW zX6_isPossible (zC (d + 1)) Q 14 [zR a, zI set, zI (zb (mpb (g a) n set 0)), zI 0] [] g := by
    refine (zdown (P := fun t => zW zX6_isPossible (zC (d + 1)) Q 14 [zR a, zI set, zI (zb (mpb (g a) n set t)), zI t] [] g) n ?_ ?_)
    · (refine zW.go (zC_om _) (fun K hK => ?_); conv => whnf)
      (refine And.intro (by first | omega | assumption | rfl | exact zin_and | exact ⟨zin_and, by omega⟩ | exact ⟨by omega, zin_and⟩ | exact Nat.le_of_ble_eq_true rfl | exact ⟨Nat.le_of_ble_eq_true rfl, rfl⟩ | exact ⟨Nat.le_of_ble_eq_true rfl, by assumption⟩ | decide) ?_; conv => whnf)
      (refine And.intro (by first | omega | assumption | rfl | exact zin_and | exact ⟨zin_and, by omega⟩ | exact ⟨by omega, zin_and⟩ | exact Nat.le_of_ble_eq_true rfl | exact ⟨Nat.le_of_ble_eq_true rfl, rfl⟩ | exact ⟨Nat.le_of_ble_eq_true rfl, by assumption⟩ | decide) ?_; conv => whnf)
      (refine And.intro (fun h => ?_) (fun h => by omega); conv => whnf)
      (refine hK _ _ _ _ (zW.go (zC_om _) (fun K hK => ?_)); conv => whnf)
      refine And.intro ⟨fun _ => by unfold zb; split <;> omega, fun q => by omega⟩ ?_
      exact hQ
    · intro t ht hi
      obtain ⟨-, -, hbt⟩ := hth t ht
      have hmb := mb_eq hok ht
      have hml := mb_lt hok ht
      have hi : zW zX6_isPossible (zC (d + 1)) Q 14 [zR a, zI set, zI (zb (mpb (g a) n set (t + 1))), zI (t + 1 : Nat)] [] g := hi
      have e0 : mpb (g a) n set (t + 1) = (mpb (g a) n set t && (!set.testBit t || decide (mb (g a) t &&& set = 0))) := rfl
      rw [e0] at hi
      (refine zW.go (zC_om _) (fun K hK => ?_); conv => whnf)
      (refine And.intro (by first | omega | assumption | rfl | exact zin_and | exact ⟨zin_and, by omega⟩ | exact ⟨by omega, zin_and⟩ | exact Nat.le_of_ble_eq_true rfl | exact ⟨Nat.le_of_ble_eq_true rfl, rfl⟩ | exact ⟨Nat.le_of_ble_eq_true rfl, by assumption⟩ | decide) ?_; conv => whnf)
      (refine And.intro (by first | omega | assumption | rfl | exact zin_and | exact ⟨zin_and, by omega⟩ | exact ⟨by omega, zin_and⟩ | exact Nat.le_of_ble_eq_true rfl | exact ⟨Nat.le_of_ble_eq_true rfl, rfl⟩ | exact ⟨Nat.le_of_ble_eq_true rfl, by assumption⟩ | decide) ?_; conv => whnf)
      (refine And.intro (fun h => by omega) (fun h => ?_); conv => whnf)
      by_cases h1 : mpb (g a) n set t = true
      · rw [h1] at hi ⊢
        (refine And.intro (by first | omega | assumption | rfl | exact zin_and | exact ⟨zin_and, by omega⟩ | exact ⟨by omega, zin_and⟩ | exact Nat.le_of_ble_eq_true rfl | exact ⟨Nat.le_of_ble_eq_true rfl, rfl⟩ | exact ⟨Nat.le_of_ble_eq_true rfl, by assumption⟩ | decide) ?_; conv => whnf)
        refine And.intro (fun h => absurd h (by decide)) (fun h => ?_)
        conv => whnf
        rw [zbit hs (by omega)]
        by_cases hbit : set.testBit t = true
        · rw [hbit] at hi
          rw [if_pos hbit]
          (refine And.intro (by first | omega | assumption | rfl | exact zin_and | exact ⟨zin_and, by omega⟩ | exact ⟨by omega, zin_and⟩ | exact Nat.le_of_ble_eq_true rfl | exact ⟨Nat.le_of_ble_eq_true rfl, rfl⟩ | exact ⟨Nat.le_of_ble_eq_true rfl, by assumption⟩ | decide) ?_; conv => whnf)
          (refine And.intro (fun h => by omega) (fun h => ?_); conv => whnf)
          (refine And.intro (by first | omega | assumption | rfl | exact zin_and | exact ⟨zin_and, by omega⟩ | exact ⟨by omega, zin_and⟩ | exact Nat.le_of_ble_eq_true rfl | exact ⟨Nat.le_of_ble_eq_true rfl, rfl⟩ | exact ⟨Nat.le_of_ble_eq_true rfl, by assumption⟩ | decide) ?_; conv => whnf)
          rw [hmb, zand_nat (by omega) hs]
          have hle : mb (g a) t &&& set ≤ mb (g a) t := Nat.and_le_left
          (refine And.intro (by first | omega | assumption | rfl | exact zin_and | exact ⟨zin_and, by omega⟩ | exact ⟨by omega, zin_and⟩ | exact Nat.le_of_ble_eq_true rfl | exact ⟨Nat.le_of_ble_eq_true rfl, rfl⟩ | exact ⟨Nat.le_of_ble_eq_true rfl, by assumption⟩ | decide) ?_; conv => whnf)
          by_cases hz : mb (g a) t &&& set = 0
          · rw [hz] at hi ⊢
            (refine And.intro (fun h => by omega) (fun h => ?_); conv => whnf)
            (refine hK _ _ _ _ (zW.go (zC_om _) (fun K hK => ?_)); conv => whnf)
            exact hK _ _ _ _ hi
          · have hz2 : decide (mb (g a) t &&& set = 0) = false := by simpa using hz
            rw [hz2] at hi
            (refine And.intro (fun h => ?_) (fun h => by omega); conv => whnf)
            (refine hK _ _ _ _ (zW.go (zC_om _) (fun K hK => ?_)); conv => whnf)
            exact hK _ _ _ _ hi
        · have hbit2 : set.testBit t = false := by simpa using hbit
          rw [hbit2] at hi
          rw [if_neg hbit]
          (refine And.intro (by first | omega | assumption | rfl | exact zin_and | exact ⟨zin_and, by omega⟩ | exact ⟨by omega, zin_and⟩ | exact Nat.le_of_ble_eq_true rfl | exact ⟨Nat.le_of_ble_eq_true rfl, rfl⟩ | exact ⟨Nat.le_of_ble_eq_true rfl, by assumption⟩ | decide) ?_; conv => whnf)
          (refine And.intro (fun h => ?_) (fun h => by omega); conv => whnf)
          (refine hK _ _ _ _ (zW.go (zC_om _) (fun K hK => ?_)); conv => whnf)
          (refine hK _ _ _ _ (zW.go (zC_om _) (fun K hK => ?_)); conv => whnf)
          exact hK _ _ _ _ hi
      · have h1 : mpb (g a) n set t = false := by simpa using h1
        rw [h1] at hi ⊢
        (refine And.intro (by first | omega | assumption | rfl | exact zin_and | exact ⟨zin_and, by omega⟩ | exact ⟨by omega, zin_and⟩ | exact Nat.le_of_ble_eq_true rfl | exact ⟨Nat.le_of_ble_eq_true rfl, rfl⟩ | exact ⟨Nat.le_of_ble_eq_true rfl, by assumption⟩ | decide) ?_; conv => whnf)
        refine And.intro (fun h => ?_) (fun h => absurd rfl h)
        (refine hK _ _ _ _ (zW.go (zC_om _) (fun K hK => ?_)); conv => whnf)
        exact hK _ _ _ _ hi
  (refine zW.go (zC_om _) (fun K hK => ?_); conv => whnf)
  (refine And.intro (by first | omega | assumption | rfl | exact zin_and | exact ⟨zin_and, by omega⟩ | exact ⟨by omega, zin_and⟩ | exact Nat.le_of_ble_eq_true rfl | exact ⟨Nat.le_of_ble_eq_true rfl, rfl⟩ | exact ⟨Nat.le_of_ble_eq_true rfl, by assumption⟩ | decide) ?_; conv => whnf)
  (refine m_sum ha hn hn12 (by omega) (by omega) hs ?_; conv => whnf)
  (refine And.intro (by first | omega | assumption | rfl | exact zin_and | exact ⟨zin_and, by omega⟩ | exact ⟨by omega, zin_and⟩ | exact Nat.le_of_ble_eq_true rfl | exact ⟨Nat.le_of_ble_eq_true rfl, rfl⟩ | exact ⟨Nat.le_of_ble_eq_true rfl, by assumption⟩ | decide) ?_; conv => whnf)
  (refine And.intro (by first | omega | assumption | rfl | exact zin_and | exact ⟨zin_and, by omega⟩ | exact ⟨by omega, zin_and⟩ | exact Nat.le_of_ble_eq_true rfl | exact ⟨Nat.le_of_ble_eq_true rfl, rfl⟩ | exact ⟨Nat.le_of_ble_eq_true rfl, by assumption⟩ | decide) ?_; conv => whnf)
  by_cases hle : bsum (g a) 21 set n ≤ g a 1
  · have e : zb (mpb (g a) n set 0) = 1 := by simp [mpb, zb, hle]
    rw [e] at loop
    (refine And.intro (fun h => by omega) (fun h => ?_); conv => whnf)
    (refine hK _ _ _ _ ?_)
    (refine zW.upto (zC_om _) 3 (fun K hK => ?_); conv => whnf)
    exact hK _ _ _ _ loop
  · have e : zb (mpb (g a) n set 0) = 0 := by simp [mpb, zb, hle]
    rw [e] at loop
    (refine And.intro (fun h => ?_) (fun h => by omega); conv => whnf)
    (refine hK _ _ _ _ ?_)
    (refine zW.upto (zC_om _) 4 (fun K hK => ?_); conv => whnf)
    exact hK _ _ _ _ loop
/-- whether t is free beside the things of two sets -/
def mfc (s : zS) (n i o t : Nat) : Bool := !(i ||| o).testBit t && (decide (mb s t &&& i = 0) && decide (s (21 + t) ≤ s 1 - bsum s 21 i n))
def mfr (s : zS) (n i o : Nat) : Nat → Nat
  | 0 => 0
  | t + 1 => mfr s n i o t ||| (if mfc s n i o t then 2 ^ t else 0)
/-- the free things -/
abbrev mfree (s : zS) (n i o : Nat) : Nat := mfr s n i o n
theorem mfr_bit (s : zS) (n i o : Nat) : ∀ m t : Nat, (mfr s n i o m).testBit t = (decide (t < m) && mfc s n i o t)
  | 0, t => by simp [mfr]
  | m + 1, t => by
    show (mfr s n i o m ||| (if mfc s n i o m then 2 ^ m else 0)).testBit t = _
    rw [Nat.testBit_or, mfr_bit s n i o m t]
    by_cases hm : t = m
    · subst hm
      cases h : mfc s n i o t <;> simp
    · have h1 : (if mfc s n i o m then 2 ^ m else 0).testBit t = false := by
        split
        · rw [Nat.testBit_two_pow]; simp; omega
        · simp
      rw [h1, Bool.or_false]
      have h2 : decide (t < m) = decide (t < m + 1) := by
        by_cases q : t < m
        · simp [q]; omega
        · have : ¬ t < m + 1 := by omega
          simp [q, this]
      rw [h2]
theorem mfr_lt (s : zS) (n i o m : Nat) : mfr s n i o m < 2 ^ m := by
  refine Nat.lt_pow_two_of_testBit _ (fun t ht => ?_)
  rw [mfr_bit]
  have : ¬ t < m := by omega
  simp [this]
theorem zor_0 {a : Nat} (h : a < 2 ^ 31) : zor (a : Int) 0 = (a : Int) := by
  have := @zor_nat a 0 h (by decide)
  rw [Nat.or_zero] at this
  exact this
theorem m_free {d a n i o : Nat} {g : zM} {Q : zP} (ha : zkd a = (1, 2845)) (hok : mok (g a) n) (hi31 : i < 2 ^ 31) (ho31 : o < 2 ^ 31) (hQ : Q (some (zI (mfree (g a) n i o : Nat))) g) : zC (d + 2) 100 [zR a, zI i, zI o] g Q := by
  have hk1 : (zkd a).1 = 1 := by rw [ha]
  have hk2 : (zkd a).2 = 2845 := by rw [ha]
  obtain ⟨hn, hn12, hroom, hth⟩ := id hok
  have hsv := msumv (set := i) hok
  refine zC.go zm_X6_free ⟨rfl, rfl⟩ rfl ?_
  have loop : ∀ x : zV, zW zX6_free (zC (d + 1)) Q 13 [zR a, zI i, zI o, zI (mfr (g a) n i o 0 : Nat), zI (g a 1 - bsum (g a) 21 i n), zI 0, x] [] g := by
    refine (zdown (P := fun t => ∀ x : zV, zW zX6_free (zC (d + 1)) Q 13 [zR a, zI i, zI o, zI (mfr (g a) n i o t : Nat), zI (g a 1 - bsum (g a) 21 i n), zI t, x] [] g) n ?_ ?_)
    · intro x
      (refine zW.go (zC_om _) (fun K hK => ?_); conv => whnf)
      (refine And.intro (by first | omega | assumption | rfl | exact zin_and | exact ⟨zin_and, by omega⟩ | exact ⟨by omega, zin_and⟩ | exact Nat.le_of_ble_eq_true rfl | exact ⟨Nat.le_of_ble_eq_true rfl, rfl⟩ | exact ⟨Nat.le_of_ble_eq_true rfl, by assumption⟩ | decide) ?_; conv => whnf)
      (refine And.intro (by first | omega | assumption | rfl | exact zin_and | exact ⟨zin_and, by omega⟩ | exact ⟨by omega, zin_and⟩ | exact Nat.le_of_ble_eq_true rfl | exact ⟨Nat.le_of_ble_eq_true rfl, rfl⟩ | exact ⟨Nat.le_of_ble_eq_true rfl, by assumption⟩ | decide) ?_; conv => whnf)
      (refine And.intro (fun h => ?_) (fun h => by omega); conv => whnf)
      (repeat' first | (refine hK _ _ _ _ (zW.go (zC_om _) (fun K hK => ?_)); conv => whnf) | (refine And.intro (by first | omega | assumption | rfl | exact zin_and | exact ⟨zin_and, by omega⟩ | exact ⟨by omega, zin_and⟩ | exact Nat.le_of_ble_eq_true rfl | exact ⟨Nat.le_of_ble_eq_true rfl, rfl⟩ | exact ⟨Nat.le_of_ble_eq_true rfl, by assumption⟩ | decide) ?_; conv => whnf) | (refine And.intro (fun h => ?_) (fun h => ?_) <;> conv => whnf) | (intro h; conv => whnf))
      exact hQ
    · intro t ht hi x
      obtain ⟨-, hvt, hbt⟩ := hth t ht
      have hmb := mb_eq hok ht
      have hml := mb_lt hok ht
      have hlt := mfr_lt (g a) n i o t
      have h2t : 2 ^ t < 2 ^ 31 := Nat.pow_lt_pow_right (by decide) (by omega)
      have h2 : 2 ^ t ≤ 4096 := zp12 (by omega)
      have e0 : mfr (g a) n i o (t + 1) = mfr (g a) n i o t ||| (if mfc (g a) n i o t then 2 ^ t else 0) := rfl
      have j : ∀ c : Bool, mfc (g a) n i o t = c → zW zX6_free (zC (d + 1)) Q 44 [zR a, zI i, zI o, zI (mfr (g a) n i o t : Nat), zI (g a 1 - bsum (g a) 21 i n), zI t, x] [zI (zb c)] g := by
        intro c hc
        rw [hc] at e0
        cases c with
        | true =>
          rw [zb_t]
          have hi := hi (zI 1)
          rw [e0, if_pos rfl] at hi
          (refine zW.go (zC_om _) (fun K hK => ?_); conv => whnf)
          (refine And.intro (by first | omega | assumption | rfl | exact zin_and | exact ⟨zin_and, by omega⟩ | exact ⟨by omega, zin_and⟩ | exact Nat.le_of_ble_eq_true rfl | exact ⟨Nat.le_of_ble_eq_true rfl, rfl⟩ | exact ⟨Nat.le_of_ble_eq_true rfl, by assumption⟩ | decide) ?_; conv => whnf)
          (refine And.intro (fun h => by omega) (fun h => ?_); conv => whnf)
          (refine hK _ _ _ _ (zW.go (zC_om _) (fun K hK => ?_)); conv => whnf)
          rw [zone_shl (by omega), zor_nat (by omega) h2t]
          exact hK _ _ _ _ hi
        | false =>
          rw [zb_f]
          have hi := hi (zI 0)
          rw [e0, if_neg (by decide), Nat.or_zero] at hi
          (refine zW.go (zC_om _) (fun K hK => ?_); conv => whnf)
          (refine And.intro (by first | omega | assumption | rfl | exact zin_and | exact ⟨zin_and, by omega⟩ | exact ⟨by omega, zin_and⟩ | exact Nat.le_of_ble_eq_true rfl | exact ⟨Nat.le_of_ble_eq_true rfl, rfl⟩ | exact ⟨Nat.le_of_ble_eq_true rfl, by assumption⟩ | decide) ?_; conv => whnf)
          (refine And.intro (fun h => ?_) (fun h => by omega); conv => whnf)
          (refine hK _ _ _ _ (zW.go (zC_om _) (fun K hK => ?_)); conv => whnf)
          rw [zor_0 (by omega)]
          exact hK _ _ _ _ hi
      have hor : i ||| o < 2 ^ 31 := Nat.or_lt_two_pow hi31 ho31
      (refine zW.go (zC_om _) (fun K hK => ?_); conv => whnf)
      (refine And.intro (by first | omega | assumption | rfl | exact zin_and | exact ⟨zin_and, by omega⟩ | exact ⟨by omega, zin_and⟩ | exact Nat.le_of_ble_eq_true rfl | exact ⟨Nat.le_of_ble_eq_true rfl, rfl⟩ | exact ⟨Nat.le_of_ble_eq_true rfl, by assumption⟩ | decide) ?_; conv => whnf)
      (refine And.intro (by first | omega | assumption | rfl | exact zin_and | exact ⟨zin_and, by omega⟩ | exact ⟨by omega, zin_and⟩ | exact Nat.le_of_ble_eq_true rfl | exact ⟨Nat.le_of_ble_eq_true rfl, rfl⟩ | exact ⟨Nat.le_of_ble_eq_true rfl, by assumption⟩ | decide) ?_; conv => whnf)
      (refine And.intro (fun h => by omega) (fun h => ?_); conv => whnf)
      rw [zor_nat hi31 ho31, zbit hor (by omega)]
      by_cases hbit : (i ||| o).testBit t = true
      · rw [if_pos hbit]
        (refine And.intro (by first | omega | assumption | rfl | exact zin_and | exact ⟨zin_and, by omega⟩ | exact ⟨by omega, zin_and⟩ | exact Nat.le_of_ble_eq_true rfl | exact ⟨Nat.le_of_ble_eq_true rfl, rfl⟩ | exact ⟨Nat.le_of_ble_eq_true rfl, by assumption⟩ | decide) ?_; conv => whnf)
        (refine And.intro (fun h => ?_) (fun h => by omega); conv => whnf)
        (refine hK _ _ _ _ ?_)
        (refine zW.upto (zC_om _) 1 (fun K hK => ?_); conv => whnf)
        exact hK _ _ _ _ (j false (by simp [mfc, hbit]))
      · have hbit2 : (i ||| o).testBit t = false := by simpa using hbit
        rw [if_neg hbit]
        (refine And.intro (by first | omega | assumption | rfl | exact zin_and | exact ⟨zin_and, by omega⟩ | exact ⟨by omega, zin_and⟩ | exact Nat.le_of_ble_eq_true rfl | exact ⟨Nat.le_of_ble_eq_true rfl, rfl⟩ | exact ⟨Nat.le_of_ble_eq_true rfl, by assumption⟩ | decide) ?_; conv => whnf)
        (refine And.intro (fun h => by omega) (fun h => ?_); conv => whnf)
        (refine And.intro (by first | omega | assumption | rfl | exact zin_and | exact ⟨zin_and, by omega⟩ | exact ⟨by omega, zin_and⟩ | exact Nat.le_of_ble_eq_true rfl | exact ⟨Nat.le_of_ble_eq_true rfl, rfl⟩ | exact ⟨Nat.le_of_ble_eq_true rfl, by assumption⟩ | decide) ?_; conv => whnf)
        rw [hmb, zand_nat (by omega) hi31]
        have hle : mb (g a) t &&& i ≤ mb (g a) t := Nat.and_le_left
        (refine And.intro (by first | omega | assumption | rfl | exact zin_and | exact ⟨zin_and, by omega⟩ | exact ⟨by omega, zin_and⟩ | exact Nat.le_of_ble_eq_true rfl | exact ⟨Nat.le_of_ble_eq_true rfl, rfl⟩ | exact ⟨Nat.le_of_ble_eq_true rfl, by assumption⟩ | decide) ?_; conv => whnf)
        by_cases hz : mb (g a) t &&& i = 0
        · rw [hz]
          (refine And.intro (fun h => by omega) (fun h => ?_); conv => whnf)
          (refine And.intro (by first | omega | assumption | rfl | exact zin_and | exact ⟨zin_and, by omega⟩ | exact ⟨by omega, zin_and⟩ | exact Nat.le_of_ble_eq_true rfl | exact ⟨Nat.le_of_ble_eq_true rfl, rfl⟩ | exact ⟨Nat.le_of_ble_eq_true rfl, by assumption⟩ | decide) ?_; conv => whnf)
          (refine And.intro (by first | omega | assumption | rfl | exact zin_and | exact ⟨zin_and, by omega⟩ | exact ⟨by omega, zin_and⟩ | exact Nat.le_of_ble_eq_true rfl | exact ⟨Nat.le_of_ble_eq_true rfl, rfl⟩ | exact ⟨Nat.le_of_ble_eq_true rfl, by assumption⟩ | decide) ?_; conv => whnf)
          by_cases hw : g a (21 + t) ≤ g a 1 - bsum (g a) 21 i n
          · (refine And.intro (fun h => by omega) (fun h => ?_); conv => whnf)
            exact hK _ _ _ _ (j true (by simp [mfc, hbit2, hz, hw]))
          · (refine And.intro (fun h => ?_) (fun h => by omega); conv => whnf)
            (refine hK _ _ _ _ ?_)
            (refine zW.upto (zC_om _) 1 (fun K hK => ?_); conv => whnf)
            exact hK _ _ _ _ (j false (by simp [mfc, hw]))
        · (refine And.intro (fun h => ?_) (fun h => by omega); conv => whnf)
          (refine hK _ _ _ _ ?_)
          (refine zW.upto (zC_om _) 1 (fun K hK => ?_); conv => whnf)
          exact hK _ _ _ _ (j false (by simp [mfc, hz]))
  (refine zW.upto (zC_om _) 13 (fun K hK => ?_); conv => whnf)
  (refine And.intro (by first | omega | assumption | rfl | exact zin_and | exact ⟨zin_and, by omega⟩ | exact ⟨by omega, zin_and⟩ | exact Nat.le_of_ble_eq_true rfl | exact ⟨Nat.le_of_ble_eq_true rfl, rfl⟩ | exact ⟨Nat.le_of_ble_eq_true rfl, by assumption⟩ | decide) ?_; conv => whnf)
  (refine And.intro (by first | omega | assumption | rfl | exact zin_and | exact ⟨zin_and, by omega⟩ | exact ⟨by omega, zin_and⟩ | exact Nat.le_of_ble_eq_true rfl | exact ⟨Nat.le_of_ble_eq_true rfl, rfl⟩ | exact ⟨Nat.le_of_ble_eq_true rfl, by assumption⟩ | decide) ?_; conv => whnf)
  (refine m_sum ha hn hn12 (by omega) (by omega) hi31 ?_; conv => whnf)
  exact hK _ _ _ _ (loop _)
end
section
/-! the reference: the order, the split, the bound, the heel, the first of a set -/
theorem zmul_bd {x y : Int} (h1 : 0 ≤ x ∧ x ≤ 99) (h2 : 0 ≤ y ∧ y ≤ 50) : 0 ≤ x * y ∧ x * y ≤ 4950 := by
  refine ⟨Int.mul_nonneg h1.1 h2.1, ?_⟩
  have a := Int.mul_le_mul_of_nonneg_right h1.2 h2.1
  omega
theorem m_place {d a n t : Nat} {g : zM} {Q : zP} (ha : zkd a = (1, 2845)) (hok : mok (g a) n) (ht : t < n) (hQ : Q (some (zI (mpl (g a) n t : Nat))) g) : zC (d + 1) 96 [zR a, zI t] g Q := by
  have hk1 : (zkd a).1 = 1 := by rw [ha]
  have hk2 : (zkd a).2 = 2845 := by rw [ha]
  obtain ⟨hn, hn12, hroom, hth⟩ := id hok
  refine zC.go zm_X6_place ⟨rfl, rfl⟩ rfl ?_
  have loop : ∀ x y : zV, zW zX6_place (zC d) Q 4 [zR a, zI t, zI (zcnt 0 (fun k => mah (g a) k t) : Nat), zI 0, x, y] [] g := by
    refine (zdown (P := fun k => ∀ x y : zV, zW zX6_place (zC d) Q 4 [zR a, zI t, zI (zcnt k (fun k => mah (g a) k t) : Nat), zI k, x, y] [] g) n ?_ ?_)
    · intro x y
      (refine zW.go (zC_om _) (fun K hK => ?_); conv => whnf)
      (refine And.intro (by first | omega | assumption | rfl | exact zin_and | exact ⟨zin_and, by omega⟩ | exact ⟨by omega, zin_and⟩ | exact Nat.le_of_ble_eq_true rfl | exact ⟨Nat.le_of_ble_eq_true rfl, rfl⟩ | exact ⟨Nat.le_of_ble_eq_true rfl, by assumption⟩ | decide) ?_; conv => whnf)
      (refine And.intro (by first | omega | assumption | rfl | exact zin_and | exact ⟨zin_and, by omega⟩ | exact ⟨by omega, zin_and⟩ | exact Nat.le_of_ble_eq_true rfl | exact ⟨Nat.le_of_ble_eq_true rfl, rfl⟩ | exact ⟨Nat.le_of_ble_eq_true rfl, by assumption⟩ | decide) ?_; conv => whnf)
      (refine And.intro (fun h => ?_) (fun h => by omega); conv => whnf)
      (repeat' first | (refine hK _ _ _ _ (zW.go (zC_om _) (fun K hK => ?_)); conv => whnf) | (refine And.intro (by first | omega | assumption | rfl | exact zin_and | exact ⟨zin_and, by omega⟩ | exact ⟨by omega, zin_and⟩ | exact Nat.le_of_ble_eq_true rfl | exact ⟨Nat.le_of_ble_eq_true rfl, rfl⟩ | exact ⟨Nat.le_of_ble_eq_true rfl, by assumption⟩ | decide) ?_; conv => whnf) | (refine And.intro (fun h => ?_) (fun h => ?_) <;> conv => whnf) | (intro h; conv => whnf))
      exact hQ
    · intro k hk hi x y
      obtain ⟨hwt, hvt, -⟩ := hth t ht
      obtain ⟨hwk, hvk, -⟩ := hth k hk
      have p1 := zmul_bd (x := g a (9 + k)) (y := g a (21 + t)) (by omega) (by omega)
      have p2 := zmul_bd (x := g a (9 + t)) (y := g a (21 + k)) (by omega) (by omega)
      have hi := hi (zI (g a (9 + k) * g a (21 + t))) (zI (g a (9 + t) * g a (21 + k)))
      have e0 : zcnt (k + 1) (fun k => mah (g a) k t) = zcnt k (fun k => mah (g a) k t) + (if mah (g a) k t then 1 else 0) := rfl
      have j : ∀ c : Bool, mah (g a) k t = c → zW zX6_place (zC d) Q 46 [zR a, zI t, zI (zcnt k (fun k => mah (g a) k t) : Nat), zI k, zI (g a (9 + k) * g a (21 + t)), zI (g a (9 + t) * g a (21 + k))] [zI (zb c), zI (zcnt k (fun k => mah (g a) k t) : Nat)] g := by
        intro c hc
        rw [hc] at e0
        have e1 : ((zcnt (k + 1) (fun k => mah (g a) k t) : Nat) : Int) = (zcnt k (fun k => mah (g a) k t) : Nat) + zb c := by
          rw [e0]
          cases c <;> simp [zb]
        rw [e1] at hi
        (refine zW.go (zC_om _) (fun K hK => ?_); conv => whnf)
        exact hK _ _ _ _ hi
      (refine zW.go (zC_om _) (fun K hK => ?_); conv => whnf)
      (refine And.intro (by first | omega | assumption | rfl | exact zin_and | exact ⟨zin_and, by omega⟩ | exact ⟨by omega, zin_and⟩ | exact Nat.le_of_ble_eq_true rfl | exact ⟨Nat.le_of_ble_eq_true rfl, rfl⟩ | exact ⟨Nat.le_of_ble_eq_true rfl, by assumption⟩ | decide) ?_; conv => whnf)
      (refine And.intro (by first | omega | assumption | rfl | exact zin_and | exact ⟨zin_and, by omega⟩ | exact ⟨by omega, zin_and⟩ | exact Nat.le_of_ble_eq_true rfl | exact ⟨Nat.le_of_ble_eq_true rfl, rfl⟩ | exact ⟨Nat.le_of_ble_eq_true rfl, by assumption⟩ | decide) ?_; conv => whnf)
      (refine And.intro (fun h => by omega) (fun h => ?_); conv => whnf)
      (refine And.intro (by first | omega | assumption | rfl | exact zin_and | exact ⟨zin_and, by omega⟩ | exact ⟨by omega, zin_and⟩ | exact Nat.le_of_ble_eq_true rfl | exact ⟨Nat.le_of_ble_eq_true rfl, rfl⟩ | exact ⟨Nat.le_of_ble_eq_true rfl, by assumption⟩ | decide) ?_; conv => whnf)
      (refine And.intro (by first | omega | assumption | rfl | exact zin_and | exact ⟨zin_and, by omega⟩ | exact ⟨by omega, zin_and⟩ | exact Nat.le_of_ble_eq_true rfl | exact ⟨Nat.le_of_ble_eq_true rfl, rfl⟩ | exact ⟨Nat.le_of_ble_eq_true rfl, by assumption⟩ | decide) ?_; conv => whnf)
      (refine And.intro (by first | omega | assumption | rfl | exact zin_and | exact ⟨zin_and, by omega⟩ | exact ⟨by omega, zin_and⟩ | exact Nat.le_of_ble_eq_true rfl | exact ⟨Nat.le_of_ble_eq_true rfl, rfl⟩ | exact ⟨Nat.le_of_ble_eq_true rfl, by assumption⟩ | decide) ?_; conv => whnf)
      (refine And.intro (by first | omega | assumption | rfl | exact zin_and | exact ⟨zin_and, by omega⟩ | exact ⟨by omega, zin_and⟩ | exact Nat.le_of_ble_eq_true rfl | exact ⟨Nat.le_of_ble_eq_true rfl, rfl⟩ | exact ⟨Nat.le_of_ble_eq_true rfl, by assumption⟩ | decide) ?_; conv => whnf)
      (refine And.intro (by first | omega | assumption | rfl | exact zin_and | exact ⟨zin_and, by omega⟩ | exact ⟨by omega, zin_and⟩ | exact Nat.le_of_ble_eq_true rfl | exact ⟨Nat.le_of_ble_eq_true rfl, rfl⟩ | exact ⟨Nat.le_of_ble_eq_true rfl, by assumption⟩ | decide) ?_; conv => whnf)
      generalize hA : g a (9 + k) * g a (21 + t) = A at *
      generalize hB : g a (9 + t) * g a (21 + k) = B at *
      have hmah : mah (g a) k t = (decide (B < A) || (decide (A = B) && decide (k < t))) := by rw [← hA, ← hB]; rfl
      by_cases c1 : B < A
      · (refine And.intro (fun h => ?_) (fun h => by omega); conv => whnf)
        (refine hK _ _ _ _ ?_)
        (refine zW.upto (zC_om _) 2 (fun K hK => ?_); conv => whnf)
        exact hK _ _ _ _ (j true (by rw [hmah]; simp [c1]))
      · (refine And.intro (fun h => by omega) (fun h => ?_); conv => whnf)
        (refine And.intro (by first | omega | assumption | rfl | exact zin_and | exact ⟨zin_and, by omega⟩ | exact ⟨by omega, zin_and⟩ | exact Nat.le_of_ble_eq_true rfl | exact ⟨Nat.le_of_ble_eq_true rfl, rfl⟩ | exact ⟨Nat.le_of_ble_eq_true rfl, by assumption⟩ | decide) ?_; conv => whnf)
        by_cases c2 : A = B
        · (refine And.intro (fun h => by omega) (fun h => ?_); conv => whnf)
          (refine And.intro (by first | omega | assumption | rfl | exact zin_and | exact ⟨zin_and, by omega⟩ | exact ⟨by omega, zin_and⟩ | exact Nat.le_of_ble_eq_true rfl | exact ⟨Nat.le_of_ble_eq_true rfl, rfl⟩ | exact ⟨Nat.le_of_ble_eq_true rfl, by assumption⟩ | decide) ?_; conv => whnf)
          by_cases c3 : k < t
          · (refine And.intro (fun h => by omega) (fun h => ?_); conv => whnf)
            exact hK _ _ _ _ (j true (by rw [hmah]; simp [c2, c3]))
          · (refine And.intro (fun h => ?_) (fun h => by omega); conv => whnf)
            (refine hK _ _ _ _ ?_)
            (refine zW.upto (zC_om _) 1 (fun K hK => ?_); conv => whnf)
            exact hK _ _ _ _ (j false (by rw [hmah]; simp [c1, c3]))
        · (refine And.intro (fun h => ?_) (fun h => by omega); conv => whnf)
          (refine hK _ _ _ _ ?_)
          (refine zW.upto (zC_om _) 1 (fun K hK => ?_); conv => whnf)
          exact hK _ _ _ _ (j false (by rw [hmah]; simp [c1, c2]))
  (refine zW.upto (zC_om _) 4 (fun K hK => ?_); conv => whnf)
  exact hK _ _ _ _ (loop _ _)
/-- the row of sorted things is right -/
def mso (g : zM) (s : zS) (n : Nat) : Prop := ∀ k : Nat, k < n → g 71 (k : Int) = (mor s n k : Int)
theorem zk71a : (zkd 71).1 = 1 := by decide
theorem zk71b : (zkd 71).2 = 12 := by decide
theorem m_sorts {d n : Nat} {g : zM} {Q : zP} (hok : mok (g 65) n) (hQ : ∀ g', (∀ k, k ≠ 71 → g' k = g k) → mso g' (g 65) n → Q none g') : zC (d + 2) 97 [zR 64] g Q := by
  have hk1 := zk71a
  have hk2 := zk71b
  obtain ⟨hn, hn12, hroom, hth⟩ := id hok
  refine zC.go zm_X6_sorts ⟨rfl, rfl⟩ rfl ?_
  have loop : ∀ g' : zM, (∀ k, k ≠ 71 → g' k = g k) → (∀ u : Nat, u < 0 → g' 71 (mpl (g 65) n u) = (u : Int)) → zW zX6_sorts (zC (d + 1)) Q 2 [zR 64, zI 0] [] g' := by
    refine (zdown (P := fun t => ∀ g' : zM, (∀ k, k ≠ 71 → g' k = g k) → (∀ u : Nat, u < t → g' 71 (mpl (g 65) n u) = (u : Int)) → zW zX6_sorts (zC (d + 1)) Q 2 [zR 64, zI t] [] g') n ?_ ?_)
    · intro g' hf hu
      have h65 : g' 65 = g 65 := hf 65 (by decide)
      have hn' : g' 65 0 = n := by rw [h65]; exact hn
      (refine zW.go (zC_om _) (fun K hK => ?_); conv => whnf)
      (refine And.intro (by first | omega | assumption | rfl | exact zin_and | exact ⟨zin_and, by omega⟩ | exact ⟨by omega, zin_and⟩ | exact Nat.le_of_ble_eq_true rfl | exact ⟨Nat.le_of_ble_eq_true rfl, rfl⟩ | exact ⟨Nat.le_of_ble_eq_true rfl, by assumption⟩ | decide) ?_; conv => whnf)
      (refine And.intro (by first | omega | assumption | rfl | exact zin_and | exact ⟨zin_and, by omega⟩ | exact ⟨by omega, zin_and⟩ | exact Nat.le_of_ble_eq_true rfl | exact ⟨Nat.le_of_ble_eq_true rfl, rfl⟩ | exact ⟨Nat.le_of_ble_eq_true rfl, by assumption⟩ | decide) ?_; conv => whnf)
      (refine And.intro (by first | omega | assumption | rfl | exact zin_and | exact ⟨zin_and, by omega⟩ | exact ⟨by omega, zin_and⟩ | exact Nat.le_of_ble_eq_true rfl | exact ⟨Nat.le_of_ble_eq_true rfl, rfl⟩ | exact ⟨Nat.le_of_ble_eq_true rfl, by assumption⟩ | decide) ?_; conv => whnf)
      (refine And.intro (fun h => ?_) (fun h => by omega); conv => whnf)
      (repeat' first | (refine hK _ _ _ _ (zW.go (zC_om _) (fun K hK => ?_)); conv => whnf) | (refine And.intro (by first | omega | assumption | rfl | exact zin_and | exact ⟨zin_and, by omega⟩ | exact ⟨by omega, zin_and⟩ | exact Nat.le_of_ble_eq_true rfl | exact ⟨Nat.le_of_ble_eq_true rfl, rfl⟩ | exact ⟨Nat.le_of_ble_eq_true rfl, by assumption⟩ | decide) ?_; conv => whnf) | (refine And.intro (fun h => ?_) (fun h => ?_) <;> conv => whnf) | (intro h; conv => whnf))
      refine hQ g' hf (fun k hk => ?_)
      obtain ⟨h1, h2⟩ := mor_spec hok.pos hk
      have h3 := hu _ h1
      rw [h2] at h3
      exact h3
    · intro t ht hi g' hf hu
      have h65 : g' 65 = g 65 := hf 65 (by decide)
      have hn' : g' 65 0 = n := by rw [h65]; exact hn
      have hpl := mpl_lt (s := g 65) ht
      (refine zW.go (zC_om _) (fun K hK => ?_); conv => whnf)
      (refine And.intro (by first | omega | assumption | rfl | exact zin_and | exact ⟨zin_and, by omega⟩ | exact ⟨by omega, zin_and⟩ | exact Nat.le_of_ble_eq_true rfl | exact ⟨Nat.le_of_ble_eq_true rfl, rfl⟩ | exact ⟨Nat.le_of_ble_eq_true rfl, by assumption⟩ | decide) ?_; conv => whnf)
      (refine And.intro (by first | omega | assumption | rfl | exact zin_and | exact ⟨zin_and, by omega⟩ | exact ⟨by omega, zin_and⟩ | exact Nat.le_of_ble_eq_true rfl | exact ⟨Nat.le_of_ble_eq_true rfl, rfl⟩ | exact ⟨Nat.le_of_ble_eq_true rfl, by assumption⟩ | decide) ?_; conv => whnf)
      (refine And.intro (by first | omega | assumption | rfl | exact zin_and | exact ⟨zin_and, by omega⟩ | exact ⟨by omega, zin_and⟩ | exact Nat.le_of_ble_eq_true rfl | exact ⟨Nat.le_of_ble_eq_true rfl, rfl⟩ | exact ⟨Nat.le_of_ble_eq_true rfl, by assumption⟩ | decide) ?_; conv => whnf)
      (refine And.intro (fun h => by omega) (fun h => ?_); conv => whnf)
      (refine And.intro (by first | omega | assumption | rfl | exact zin_and | exact ⟨zin_and, by omega⟩ | exact ⟨by omega, zin_and⟩ | exact Nat.le_of_ble_eq_true rfl | exact ⟨Nat.le_of_ble_eq_true rfl, rfl⟩ | exact ⟨Nat.le_of_ble_eq_true rfl, by assumption⟩ | decide) ?_; conv => whnf)
      (refine And.intro (by first | omega | assumption | rfl | exact zin_and | exact ⟨zin_and, by omega⟩ | exact ⟨by omega, zin_and⟩ | exact Nat.le_of_ble_eq_true rfl | exact ⟨Nat.le_of_ble_eq_true rfl, rfl⟩ | exact ⟨Nat.le_of_ble_eq_true rfl, by assumption⟩ | decide) ?_; conv => whnf)
      (refine And.intro (by first | omega | assumption | rfl | exact zin_and | exact ⟨zin_and, by omega⟩ | exact ⟨by omega, zin_and⟩ | exact Nat.le_of_ble_eq_true rfl | exact ⟨Nat.le_of_ble_eq_true rfl, rfl⟩ | exact ⟨Nat.le_of_ble_eq_true rfl, by assumption⟩ | decide) ?_; conv => whnf)
      (refine m_place (a := 65) rfl (by rw [h65]; exact hok) ht ?_; conv => whnf)
      rw [h65]
      (refine And.intro (by first | omega | assumption | rfl | exact zin_and | exact ⟨zin_and, by omega⟩ | exact ⟨by omega, zin_and⟩ | exact Nat.le_of_ble_eq_true rfl | exact ⟨Nat.le_of_ble_eq_true rfl, rfl⟩ | exact ⟨Nat.le_of_ble_eq_true rfl, by assumption⟩ | decide) ?_; conv => whnf)
      refine hK _ _ _ _ (hi _ (fun k hk => ?_) (fun u hu2 => ?_))
      · rw [zup_ne hk]
        exact hf k hk
      · by_cases hut : u = t
        · subst hut
          rw [zup_s]
        · have : mpl (g 65) n u ≠ mpl (g 65) n t := fun q => hut (mpl_inj hok.pos (by omega) ht q)
          rw [zup_i (by omega)]
          exact hu u (by omega)
  (refine zW.upto (zC_om _) 2 (fun K hK => ?_); conv => whnf)
  exact hK _ _ _ _ (loop g (fun _ _ => rfl) (fun u hu => absurd hu (by omega)))
def mspl (s : zS) (n fr : Nat) : Nat → Nat → Int → Int
  | 0, _, _ => -5
  | m + 1, k, left => if fr.testBit (mor s n k) then (if left < s (21 + (mor s n k : Int)) then (mor s n k : Int) else mspl s n fr m (k + 1) (left - s (21 + (mor s n k : Int)))) else mspl s n fr m (k + 1) left
/-- the room that is left beside a set -/
abbrev mleft (s : zS) (n i : Nat) : Int := s 1 - bsum s 21 i n
abbrev msplit (s : zS) (n i o : Nat) : Int := mspl s n (mfree s n i o) n 0 (mleft s n i)
theorem m_split {d a n i o : Nat} {g : zM} {Q : zP} (ha : zkd a = (1, 2845)) (hok : mok (g a) n) (hso : mso g (g a) n) (hi31 : i < 2 ^ 31) (ho31 : o < 2 ^ 31) (hQ : Q (some (zI (msplit (g a) n i o))) g) : zC (d + 3) 101 [zR 64, zR a, zI i, zI o] g Q := by
  have hk1 : (zkd a).1 = 1 := by rw [ha]
  have hk2 : (zkd a).2 = 2845 := by rw [ha]
  have hk3 := zk71a
  have hk4 := zk71b
  obtain ⟨hn, hn12, hroom, hth⟩ := id hok
  have hsv := msumv (set := i) hok
  have hfl : mfree (g a) n i o < 2 ^ n := mfr_lt (g a) n i o n
  have h2n := zp12 hn12
  generalize hfr : mfree (g a) n i o = fr at *
  refine zC.go zm_X6_split ⟨rfl, rfl⟩ rfl ?_
  have loop : ∀ (m k : Nat) (left : Int) (x : zV), k + m = n → -600 ≤ left ∧ left ≤ 200 → Q (some (zI (mspl (g a) n fr m k left))) g → zW zX6_split (zC (d + 2)) Q 16 [zR 64, zR a, zI i, zI o, zI fr, zI left, zI k, x] [] g := by
    intro m
    induction m with
    | zero =>
      intro k left x hk hl hq
      (refine zW.go (zC_om _) (fun K hK => ?_); conv => whnf)
      (refine And.intro (by first | omega | assumption | rfl | exact zin_and | exact ⟨zin_and, by omega⟩ | exact ⟨by omega, zin_and⟩ | exact Nat.le_of_ble_eq_true rfl | exact ⟨Nat.le_of_ble_eq_true rfl, rfl⟩ | exact ⟨Nat.le_of_ble_eq_true rfl, by assumption⟩ | decide) ?_; conv => whnf)
      (refine And.intro (by first | omega | assumption | rfl | exact zin_and | exact ⟨zin_and, by omega⟩ | exact ⟨by omega, zin_and⟩ | exact Nat.le_of_ble_eq_true rfl | exact ⟨Nat.le_of_ble_eq_true rfl, rfl⟩ | exact ⟨Nat.le_of_ble_eq_true rfl, by assumption⟩ | decide) ?_; conv => whnf)
      (refine And.intro (fun h => ?_) (fun h => by omega); conv => whnf)
      (repeat' first | (refine hK _ _ _ _ (zW.go (zC_om _) (fun K hK => ?_)); conv => whnf) | (refine And.intro (by first | omega | assumption | rfl | exact zin_and | exact ⟨zin_and, by omega⟩ | exact ⟨by omega, zin_and⟩ | exact Nat.le_of_ble_eq_true rfl | exact ⟨Nat.le_of_ble_eq_true rfl, rfl⟩ | exact ⟨Nat.le_of_ble_eq_true rfl, by assumption⟩ | decide) ?_; conv => whnf) | (refine And.intro (fun h => ?_) (fun h => ?_) <;> conv => whnf) | (intro h; conv => whnf))
      exact hq
    | succ m ih =>
      intro k left x hk hl hq
      have hso1 := hso k (by omega)
      obtain ⟨hmo, -⟩ := mor_spec (s := g a) hok.pos (show k < n by omega)
      obtain ⟨-, hvt, -⟩ := hth _ hmo
      have e0 : mspl (g a) n fr (m + 1) k left = if fr.testBit (mor (g a) n k) then (if left < g a (21 + (mor (g a) n k : Int)) then (mor (g a) n k : Int) else mspl (g a) n fr m (k + 1) (left - g a (21 + (mor (g a) n k : Int)))) else mspl (g a) n fr m (k + 1) left := rfl
      rw [e0] at hq
      (refine zW.go (zC_om _) (fun K hK => ?_); conv => whnf)
      (refine And.intro (by first | omega | assumption | rfl | exact zin_and | exact ⟨zin_and, by omega⟩ | exact ⟨by omega, zin_and⟩ | exact Nat.le_of_ble_eq_true rfl | exact ⟨Nat.le_of_ble_eq_true rfl, rfl⟩ | exact ⟨Nat.le_of_ble_eq_true rfl, by assumption⟩ | decide) ?_; conv => whnf)
      (refine And.intro (by first | omega | assumption | rfl | exact zin_and | exact ⟨zin_and, by omega⟩ | exact ⟨by omega, zin_and⟩ | exact Nat.le_of_ble_eq_true rfl | exact ⟨Nat.le_of_ble_eq_true rfl, rfl⟩ | exact ⟨Nat.le_of_ble_eq_true rfl, by assumption⟩ | decide) ?_; conv => whnf)
      (refine And.intro (fun h => by omega) (fun h => ?_); conv => whnf)
      (refine And.intro (by first | omega | assumption | rfl | exact zin_and | exact ⟨zin_and, by omega⟩ | exact ⟨by omega, zin_and⟩ | exact Nat.le_of_ble_eq_true rfl | exact ⟨Nat.le_of_ble_eq_true rfl, rfl⟩ | exact ⟨Nat.le_of_ble_eq_true rfl, by assumption⟩ | decide) ?_; conv => whnf)
      (refine And.intro (by first | omega | assumption | rfl | exact zin_and | exact ⟨zin_and, by omega⟩ | exact ⟨by omega, zin_and⟩ | exact Nat.le_of_ble_eq_true rfl | exact ⟨Nat.le_of_ble_eq_true rfl, rfl⟩ | exact ⟨Nat.le_of_ble_eq_true rfl, by assumption⟩ | decide) ?_; conv => whnf)
      rw [hso1]
      generalize mor (g a) n k = t at *
      rw [zbit (by omega) (by omega)]
      by_cases hbit : fr.testBit t = true
      · rw [if_pos hbit] at hq ⊢
        (refine And.intro (by first | omega | assumption | rfl | exact zin_and | exact ⟨zin_and, by omega⟩ | exact ⟨by omega, zin_and⟩ | exact Nat.le_of_ble_eq_true rfl | exact ⟨Nat.le_of_ble_eq_true rfl, rfl⟩ | exact ⟨Nat.le_of_ble_eq_true rfl, by assumption⟩ | decide) ?_; conv => whnf)
        (refine And.intro (fun h => by omega) (fun h => ?_); conv => whnf)
        (refine And.intro (by first | omega | assumption | rfl | exact zin_and | exact ⟨zin_and, by omega⟩ | exact ⟨by omega, zin_and⟩ | exact Nat.le_of_ble_eq_true rfl | exact ⟨Nat.le_of_ble_eq_true rfl, rfl⟩ | exact ⟨Nat.le_of_ble_eq_true rfl, by assumption⟩ | decide) ?_; conv => whnf)
        (refine And.intro (by first | omega | assumption | rfl | exact zin_and | exact ⟨zin_and, by omega⟩ | exact ⟨by omega, zin_and⟩ | exact Nat.le_of_ble_eq_true rfl | exact ⟨Nat.le_of_ble_eq_true rfl, rfl⟩ | exact ⟨Nat.le_of_ble_eq_true rfl, by assumption⟩ | decide) ?_; conv => whnf)
        by_cases hlt : left < g a (21 + t)
        · rw [if_pos hlt] at hq
          (refine And.intro (fun h => by omega) (fun h => ?_); conv => whnf)
          (repeat' first | (refine hK _ _ _ _ (zW.go (zC_om _) (fun K hK => ?_)); conv => whnf) | (refine And.intro (by first | omega | assumption | rfl | exact zin_and | exact ⟨zin_and, by omega⟩ | exact ⟨by omega, zin_and⟩ | exact Nat.le_of_ble_eq_true rfl | exact ⟨Nat.le_of_ble_eq_true rfl, rfl⟩ | exact ⟨Nat.le_of_ble_eq_true rfl, by assumption⟩ | decide) ?_; conv => whnf) | (refine And.intro (fun h => ?_) (fun h => ?_) <;> conv => whnf) | (intro h; conv => whnf))
          exact hq
        · rw [if_neg hlt] at hq
          (refine And.intro (fun h => ?_) (fun h => by omega); conv => whnf)
          (refine hK _ _ _ _ (zW.go (zC_om _) (fun K hK => ?_)); conv => whnf)
          (refine And.intro (by first | omega | assumption | rfl | exact zin_and | exact ⟨zin_and, by omega⟩ | exact ⟨by omega, zin_and⟩ | exact Nat.le_of_ble_eq_true rfl | exact ⟨Nat.le_of_ble_eq_true rfl, rfl⟩ | exact ⟨Nat.le_of_ble_eq_true rfl, by assumption⟩ | decide) ?_; conv => whnf)
          exact hK _ _ _ _ (ih (k + 1) _ _ (by omega) (by omega) hq)
      · rw [if_neg hbit] at hq ⊢
        (refine And.intro (by first | omega | assumption | rfl | exact zin_and | exact ⟨zin_and, by omega⟩ | exact ⟨by omega, zin_and⟩ | exact Nat.le_of_ble_eq_true rfl | exact ⟨Nat.le_of_ble_eq_true rfl, rfl⟩ | exact ⟨Nat.le_of_ble_eq_true rfl, by assumption⟩ | decide) ?_; conv => whnf)
        (refine And.intro (fun h => ?_) (fun h => by omega); conv => whnf)
        (refine hK _ _ _ _ (zW.go (zC_om _) (fun K hK => ?_)); conv => whnf)
        exact hK _ _ _ _ (ih (k + 1) _ _ (by omega) (by omega) hq)
  (refine zW.upto (zC_om _) 16 (fun K hK => ?_); conv => whnf)
  (refine And.intro (by first | omega | assumption | rfl | exact zin_and | exact ⟨zin_and, by omega⟩ | exact ⟨by omega, zin_and⟩ | exact Nat.le_of_ble_eq_true rfl | exact ⟨Nat.le_of_ble_eq_true rfl, rfl⟩ | exact ⟨Nat.le_of_ble_eq_true rfl, by assumption⟩ | decide) ?_; conv => whnf)
  (refine m_free ha hok hi31 ho31 ?_; conv => whnf)
  rw [hfr]
  (refine And.intro (by first | omega | assumption | rfl | exact zin_and | exact ⟨zin_and, by omega⟩ | exact ⟨by omega, zin_and⟩ | exact Nat.le_of_ble_eq_true rfl | exact ⟨Nat.le_of_ble_eq_true rfl, rfl⟩ | exact ⟨Nat.le_of_ble_eq_true rfl, by assumption⟩ | decide) ?_; conv => whnf)
  (refine And.intro (by first | omega | assumption | rfl | exact zin_and | exact ⟨zin_and, by omega⟩ | exact ⟨by omega, zin_and⟩ | exact Nat.le_of_ble_eq_true rfl | exact ⟨Nat.le_of_ble_eq_true rfl, rfl⟩ | exact ⟨Nat.le_of_ble_eq_true rfl, by assumption⟩ | decide) ?_; conv => whnf)
  (refine m_sum ha hn hn12 (by omega) (by omega) hi31 ?_; conv => whnf)
  exact hK _ _ _ _ (loop n 0 _ _ (by omega) (by omega) (by rw [← hfr]; exact hQ))
def mbd (s : zS) (n fr : Nat) : Nat → Nat → Int → Int → Int
  | 0, _, _, sum => sum
  | m + 1, k, left, sum => if fr.testBit (mor s n k) then (if left < s (21 + (mor s n k : Int)) then sum + zdiv (s (9 + (mor s n k : Int)) * left) (s (21 + (mor s n k : Int))) else mbd s n fr m (k + 1) (left - s (21 + (mor s n k : Int))) (sum + s (9 + (mor s n k : Int)))) else mbd s n fr m (k + 1) left sum
/-- the bound of a node -/
abbrev mbound (s : zS) (n i o : Nat) : Int := mbd s n (mfree s n i o) n 0 (mleft s n i) (bsum s 9 i n)
theorem m_bound {d a n i o : Nat} {g : zM} {Q : zP} (ha : zkd a = (1, 2845)) (hok : mok (g a) n) (hso : mso g (g a) n) (hi31 : i < 2 ^ 31) (ho31 : o < 2 ^ 31) (hQ : Q (some (zI (mbound (g a) n i o))) g) : zC (d + 3) 102 [zR 64, zR a, zI i, zI o] g Q := by
  have hk1 : (zkd a).1 = 1 := by rw [ha]
  have hk2 : (zkd a).2 = 2845 := by rw [ha]
  have hk3 := zk71a
  have hk4 := zk71b
  obtain ⟨hn, hn12, hroom, hth⟩ := id hok
  have hsv := msumv (set := i) hok
  have hfl : mfree (g a) n i o < 2 ^ n := mfr_lt (g a) n i o n
  have h2n := zp12 hn12
  generalize hfr : mfree (g a) n i o = fr at *
  refine zC.go zm_X6_bound ⟨rfl, rfl⟩ rfl ?_
  have loop : ∀ (m k : Nat) (left sum : Int) (x : zV), k + m = n → -600 ≤ left ∧ left ≤ 200 → Q (some (zI (mbd (g a) n fr m k left sum))) g → zW zX6_bound (zC (d + 2)) Q 21 [zR 64, zR a, zI i, zI o, zI fr, zI left, zI sum, zI k, x] [] g := by
    intro m
    induction m with
    | zero =>
      intro k left sum x hk hl hq
      (refine zW.go (zC_om _) (fun K hK => ?_); conv => whnf)
      (refine And.intro (by first | omega | assumption | rfl | exact zin_and | exact ⟨zin_and, by omega⟩ | exact ⟨by omega, zin_and⟩ | exact Nat.le_of_ble_eq_true rfl | exact ⟨Nat.le_of_ble_eq_true rfl, rfl⟩ | exact ⟨Nat.le_of_ble_eq_true rfl, by assumption⟩ | decide) ?_; conv => whnf)
      (refine And.intro (by first | omega | assumption | rfl | exact zin_and | exact ⟨zin_and, by omega⟩ | exact ⟨by omega, zin_and⟩ | exact Nat.le_of_ble_eq_true rfl | exact ⟨Nat.le_of_ble_eq_true rfl, rfl⟩ | exact ⟨Nat.le_of_ble_eq_true rfl, by assumption⟩ | decide) ?_; conv => whnf)
      (refine And.intro (fun h => ?_) (fun h => by omega); conv => whnf)
      (repeat' first | (refine hK _ _ _ _ (zW.go (zC_om _) (fun K hK => ?_)); conv => whnf) | (refine And.intro (by first | omega | assumption | rfl | exact zin_and | exact ⟨zin_and, by omega⟩ | exact ⟨by omega, zin_and⟩ | exact Nat.le_of_ble_eq_true rfl | exact ⟨Nat.le_of_ble_eq_true rfl, rfl⟩ | exact ⟨Nat.le_of_ble_eq_true rfl, by assumption⟩ | decide) ?_; conv => whnf) | (refine And.intro (fun h => ?_) (fun h => ?_) <;> conv => whnf) | (intro h; conv => whnf))
      exact hq
    | succ m ih =>
      intro k left sum x hk hl hq
      have hso1 := hso k (by omega)
      obtain ⟨hmo, -⟩ := mor_spec (s := g a) hok.pos (show k < n by omega)
      obtain ⟨-, hvt, -⟩ := hth _ hmo
      have e0 : mbd (g a) n fr (m + 1) k left sum = if fr.testBit (mor (g a) n k) then (if left < g a (21 + (mor (g a) n k : Int)) then sum + zdiv (g a (9 + (mor (g a) n k : Int)) * left) (g a (21 + (mor (g a) n k : Int))) else mbd (g a) n fr m (k + 1) (left - g a (21 + (mor (g a) n k : Int))) (sum + g a (9 + (mor (g a) n k : Int)))) else mbd (g a) n fr m (k + 1) left sum := rfl
      rw [e0] at hq
      (refine zW.go (zC_om _) (fun K hK => ?_); conv => whnf)
      (refine And.intro (by first | omega | assumption | rfl | exact zin_and | exact ⟨zin_and, by omega⟩ | exact ⟨by omega, zin_and⟩ | exact Nat.le_of_ble_eq_true rfl | exact ⟨Nat.le_of_ble_eq_true rfl, rfl⟩ | exact ⟨Nat.le_of_ble_eq_true rfl, by assumption⟩ | decide) ?_; conv => whnf)
      (refine And.intro (by first | omega | assumption | rfl | exact zin_and | exact ⟨zin_and, by omega⟩ | exact ⟨by omega, zin_and⟩ | exact Nat.le_of_ble_eq_true rfl | exact ⟨Nat.le_of_ble_eq_true rfl, rfl⟩ | exact ⟨Nat.le_of_ble_eq_true rfl, by assumption⟩ | decide) ?_; conv => whnf)
      (refine And.intro (fun h => by omega) (fun h => ?_); conv => whnf)
      (refine And.intro (by first | omega | assumption | rfl | exact zin_and | exact ⟨zin_and, by omega⟩ | exact ⟨by omega, zin_and⟩ | exact Nat.le_of_ble_eq_true rfl | exact ⟨Nat.le_of_ble_eq_true rfl, rfl⟩ | exact ⟨Nat.le_of_ble_eq_true rfl, by assumption⟩ | decide) ?_; conv => whnf)
      (refine And.intro (by first | omega | assumption | rfl | exact zin_and | exact ⟨zin_and, by omega⟩ | exact ⟨by omega, zin_and⟩ | exact Nat.le_of_ble_eq_true rfl | exact ⟨Nat.le_of_ble_eq_true rfl, rfl⟩ | exact ⟨Nat.le_of_ble_eq_true rfl, by assumption⟩ | decide) ?_; conv => whnf)
      rw [hso1]
      generalize mor (g a) n k = t at *
      rw [zbit (by omega) (by omega)]
      by_cases hbit : fr.testBit t = true
      · rw [if_pos hbit] at hq ⊢
        (refine And.intro (by first | omega | assumption | rfl | exact zin_and | exact ⟨zin_and, by omega⟩ | exact ⟨by omega, zin_and⟩ | exact Nat.le_of_ble_eq_true rfl | exact ⟨Nat.le_of_ble_eq_true rfl, rfl⟩ | exact ⟨Nat.le_of_ble_eq_true rfl, by assumption⟩ | decide) ?_; conv => whnf)
        (refine And.intro (fun h => by omega) (fun h => ?_); conv => whnf)
        (refine And.intro (by first | omega | assumption | rfl | exact zin_and | exact ⟨zin_and, by omega⟩ | exact ⟨by omega, zin_and⟩ | exact Nat.le_of_ble_eq_true rfl | exact ⟨Nat.le_of_ble_eq_true rfl, rfl⟩ | exact ⟨Nat.le_of_ble_eq_true rfl, by assumption⟩ | decide) ?_; conv => whnf)
        (refine And.intro (by first | omega | assumption | rfl | exact zin_and | exact ⟨zin_and, by omega⟩ | exact ⟨by omega, zin_and⟩ | exact Nat.le_of_ble_eq_true rfl | exact ⟨Nat.le_of_ble_eq_true rfl, rfl⟩ | exact ⟨Nat.le_of_ble_eq_true rfl, by assumption⟩ | decide) ?_; conv => whnf)
        by_cases hlt : left < g a (21 + t)
        · rw [if_pos hlt] at hq
          (refine And.intro (fun h => by omega) (fun h => ?_); conv => whnf)
          (refine And.intro (by first | omega | assumption | rfl | exact zin_and | exact ⟨zin_and, by omega⟩ | exact ⟨by omega, zin_and⟩ | exact Nat.le_of_ble_eq_true rfl | exact ⟨Nat.le_of_ble_eq_true rfl, rfl⟩ | exact ⟨Nat.le_of_ble_eq_true rfl, by assumption⟩ | decide) ?_; conv => whnf)
          (refine And.intro (by first | omega | assumption | rfl | exact zin_and | exact ⟨zin_and, by omega⟩ | exact ⟨by omega, zin_and⟩ | exact Nat.le_of_ble_eq_true rfl | exact ⟨Nat.le_of_ble_eq_true rfl, rfl⟩ | exact ⟨Nat.le_of_ble_eq_true rfl, by assumption⟩ | decide) ?_; conv => whnf)
          (refine And.intro (by first | omega | assumption | rfl | exact zin_and | exact ⟨zin_and, by omega⟩ | exact ⟨by omega, zin_and⟩ | exact Nat.le_of_ble_eq_true rfl | exact ⟨Nat.le_of_ble_eq_true rfl, rfl⟩ | exact ⟨Nat.le_of_ble_eq_true rfl, by assumption⟩ | decide) ?_; conv => whnf)
          (refine And.intro (by first | omega | assumption | rfl | exact zin_and | exact ⟨zin_and, by omega⟩ | exact ⟨by omega, zin_and⟩ | exact Nat.le_of_ble_eq_true rfl | exact ⟨Nat.le_of_ble_eq_true rfl, rfl⟩ | exact ⟨Nat.le_of_ble_eq_true rfl, by assumption⟩ | decide) ?_; conv => whnf)
          exact hq
        · rw [if_neg hlt] at hq
          (refine And.intro (fun h => ?_) (fun h => by omega); conv => whnf)
          (refine hK _ _ _ _ (zW.go (zC_om _) (fun K hK => ?_)); conv => whnf)
          (refine And.intro (by first | omega | assumption | rfl | exact zin_and | exact ⟨zin_and, by omega⟩ | exact ⟨by omega, zin_and⟩ | exact Nat.le_of_ble_eq_true rfl | exact ⟨Nat.le_of_ble_eq_true rfl, rfl⟩ | exact ⟨Nat.le_of_ble_eq_true rfl, by assumption⟩ | decide) ?_; conv => whnf)
          (refine And.intro (by first | omega | assumption | rfl | exact zin_and | exact ⟨zin_and, by omega⟩ | exact ⟨by omega, zin_and⟩ | exact Nat.le_of_ble_eq_true rfl | exact ⟨Nat.le_of_ble_eq_true rfl, rfl⟩ | exact ⟨Nat.le_of_ble_eq_true rfl, by assumption⟩ | decide) ?_; conv => whnf)
          exact hK _ _ _ _ (ih (k + 1) _ _ _ (by omega) (by omega) hq)
      · rw [if_neg hbit] at hq ⊢
        (refine And.intro (by first | omega | assumption | rfl | exact zin_and | exact ⟨zin_and, by omega⟩ | exact ⟨by omega, zin_and⟩ | exact Nat.le_of_ble_eq_true rfl | exact ⟨Nat.le_of_ble_eq_true rfl, rfl⟩ | exact ⟨Nat.le_of_ble_eq_true rfl, by assumption⟩ | decide) ?_; conv => whnf)
        (refine And.intro (fun h => ?_) (fun h => by omega); conv => whnf)
        (refine hK _ _ _ _ (zW.go (zC_om _) (fun K hK => ?_)); conv => whnf)
        exact hK _ _ _ _ (ih (k + 1) _ _ _ (by omega) (by omega) hq)
  (refine zW.upto (zC_om _) 21 (fun K hK => ?_); conv => whnf)
  (refine And.intro (by first | omega | assumption | rfl | exact zin_and | exact ⟨zin_and, by omega⟩ | exact ⟨by omega, zin_and⟩ | exact Nat.le_of_ble_eq_true rfl | exact ⟨Nat.le_of_ble_eq_true rfl, rfl⟩ | exact ⟨Nat.le_of_ble_eq_true rfl, by assumption⟩ | decide) ?_; conv => whnf)
  (refine m_free ha hok hi31 ho31 ?_; conv => whnf)
  rw [hfr]
  (refine And.intro (by first | omega | assumption | rfl | exact zin_and | exact ⟨zin_and, by omega⟩ | exact ⟨by omega, zin_and⟩ | exact Nat.le_of_ble_eq_true rfl | exact ⟨Nat.le_of_ble_eq_true rfl, rfl⟩ | exact ⟨Nat.le_of_ble_eq_true rfl, by assumption⟩ | decide) ?_; conv => whnf)
  (refine And.intro (by first | omega | assumption | rfl | exact zin_and | exact ⟨zin_and, by omega⟩ | exact ⟨by omega, zin_and⟩ | exact Nat.le_of_ble_eq_true rfl | exact ⟨Nat.le_of_ble_eq_true rfl, rfl⟩ | exact ⟨Nat.le_of_ble_eq_true rfl, by assumption⟩ | decide) ?_; conv => whnf)
  (refine m_sum ha hn hn12 (by omega) (by omega) hi31 ?_; conv => whnf)
  (refine And.intro (by first | omega | assumption | rfl | exact zin_and | exact ⟨zin_and, by omega⟩ | exact ⟨by omega, zin_and⟩ | exact Nat.le_of_ble_eq_true rfl | exact ⟨Nat.le_of_ble_eq_true rfl, rfl⟩ | exact ⟨Nat.le_of_ble_eq_true rfl, by assumption⟩ | decide) ?_; conv => whnf)
  (refine m_sum ha hn hn12 (by omega) (by omega) hi31 ?_; conv => whnf)
  exact hK _ _ _ _ (loop n 0 _ _ _ (by omega) (by omega) (by rw [← hfr]; exact hQ))
/-- whether the heel takes t -/
def mhc (s : zS) (fr t set : Nat) (left : Int) : Bool := fr.testBit t && (decide (s (21 + (t : Int)) ≤ left) && decide (mb s t &&& set = 0))
def mhl (s : zS) (n fr : Nat) : Nat → Nat → Nat → Int → Nat
  | 0, _, set, _ => set
  | m + 1, k, set, left => if mhc s fr (mor s n k) set left then mhl s n fr m (k + 1) (set ||| 2 ^ (mor s n k)) (left - s (21 + (mor s n k : Int))) else mhl s n fr m (k + 1) set left
/-- the heel of a node -/
abbrev mheel (s : zS) (n i o : Nat) : Nat := mhl s n (mfree s n i o) n 0 i (mleft s n i)
theorem m_heel {d a n i o : Nat} {g : zM} {Q : zP} (ha : zkd a = (1, 2845)) (hok : mok (g a) n) (hso : mso g (g a) n) (hi31 : i < 2 ^ 31) (ho31 : o < 2 ^ 31) (hQ : Q (some (zI (mheel (g a) n i o : Nat))) g) : zC (d + 3) 103 [zR 64, zR a, zI i, zI o] g Q := by
  have hk1 : (zkd a).1 = 1 := by rw [ha]
  have hk2 : (zkd a).2 = 2845 := by rw [ha]
  have hk3 := zk71a
  have hk4 := zk71b
  obtain ⟨hn, hn12, hroom, hth⟩ := id hok
  have hsv := msumv (set := i) hok
  have hfl : mfree (g a) n i o < 2 ^ n := mfr_lt (g a) n i o n
  have h2n := zp12 hn12
  generalize hfr : mfree (g a) n i o = fr at *
  refine zC.go zm_X6_heel ⟨rfl, rfl⟩ rfl ?_
  have loop : ∀ (m k set : Nat) (left : Int) (x y : zV), k + m = n → set < 2 ^ 31 → -600 ≤ left ∧ left ≤ 200 → Q (some (zI (mhl (g a) n fr m k set left : Nat))) g → zW zX6_heel (zC (d + 2)) Q 18 [zR 64, zR a, zI i, zI o, zI fr, zI set, zI left, zI k, x, y] [] g := by
    intro m
    induction m with
    | zero =>
      intro k set left x y hk hs hl hq
      (refine zW.go (zC_om _) (fun K hK => ?_); conv => whnf)
      (refine And.intro (by first | omega | assumption | rfl | exact zin_and | exact ⟨zin_and, by omega⟩ | exact ⟨by omega, zin_and⟩ | exact Nat.le_of_ble_eq_true rfl | exact ⟨Nat.le_of_ble_eq_true rfl, rfl⟩ | exact ⟨Nat.le_of_ble_eq_true rfl, by assumption⟩ | decide) ?_; conv => whnf)
      (refine And.intro (by first | omega | assumption | rfl | exact zin_and | exact ⟨zin_and, by omega⟩ | exact ⟨by omega, zin_and⟩ | exact Nat.le_of_ble_eq_true rfl | exact ⟨Nat.le_of_ble_eq_true rfl, rfl⟩ | exact ⟨Nat.le_of_ble_eq_true rfl, by assumption⟩ | decide) ?_; conv => whnf)
      (refine And.intro (fun h => ?_) (fun h => by omega); conv => whnf)
      (repeat' first | (refine hK _ _ _ _ (zW.go (zC_om _) (fun K hK => ?_)); conv => whnf) | (refine And.intro (by first | omega | assumption | rfl | exact zin_and | exact ⟨zin_and, by omega⟩ | exact ⟨by omega, zin_and⟩ | exact Nat.le_of_ble_eq_true rfl | exact ⟨Nat.le_of_ble_eq_true rfl, rfl⟩ | exact ⟨Nat.le_of_ble_eq_true rfl, by assumption⟩ | decide) ?_; conv => whnf) | (refine And.intro (fun h => ?_) (fun h => ?_) <;> conv => whnf) | (intro h; conv => whnf))
      exact hq
    | succ m ih =>
      intro k set left x y hk hs hl hq
      have hso1 := hso k (by omega)
      obtain ⟨hmo, -⟩ := mor_spec (s := g a) hok.pos (show k < n by omega)
      obtain ⟨-, hvt, hbt⟩ := hth _ hmo
      have hmb := mb_eq hok hmo
      have hml := mb_lt hok hmo
      have e0 : mhl (g a) n fr (m + 1) k set left = if mhc (g a) fr (mor (g a) n k) set left then mhl (g a) n fr m (k + 1) (set ||| 2 ^ (mor (g a) n k)) (left - g a (21 + (mor (g a) n k : Int))) else mhl (g a) n fr m (k + 1) set left := rfl
      rw [e0] at hq
      generalize ht : mor (g a) n k = t at *
      have h2t : 2 ^ t < 2 ^ 31 := Nat.pow_lt_pow_right (by decide) (by omega)
      have hst : set ||| 2 ^ t < 2 ^ 31 := Nat.or_lt_two_pow hs h2t
      have j : ∀ c : Bool, mhc (g a) fr t set left = c → zW zX6_heel (zC (d + 2)) Q 53 [zR 64, zR a, zI i, zI o, zI fr, zI set, zI left, zI k, zI t, y] [zI (zb c)] g := by
        intro c hc
        rw [hc] at hq
        cases c with
        | true =>
          rw [zb_t]
          have hc2 : g a (21 + (t : Int)) ≤ left := by
            unfold mhc at hc
            simp at hc
            exact hc.2.1
          rw [if_pos rfl] at hq
          (refine zW.go (zC_om _) (fun K hK => ?_); conv => whnf)
          (refine And.intro (by first | omega | assumption | rfl | exact zin_and | exact ⟨zin_and, by omega⟩ | exact ⟨by omega, zin_and⟩ | exact Nat.le_of_ble_eq_true rfl | exact ⟨Nat.le_of_ble_eq_true rfl, rfl⟩ | exact ⟨Nat.le_of_ble_eq_true rfl, by assumption⟩ | decide) ?_; conv => whnf)
          (refine And.intro (fun h => by omega) (fun h => ?_); conv => whnf)
          (refine hK _ _ _ _ (zW.go (zC_om _) (fun K hK => ?_)); conv => whnf)
          (refine And.intro (by first | omega | assumption | rfl | exact zin_and | exact ⟨zin_and, by omega⟩ | exact ⟨by omega, zin_and⟩ | exact Nat.le_of_ble_eq_true rfl | exact ⟨Nat.le_of_ble_eq_true rfl, rfl⟩ | exact ⟨Nat.le_of_ble_eq_true rfl, by assumption⟩ | decide) ?_; conv => whnf)
          (refine And.intro (fun h => by omega) (fun h => ?_); conv => whnf)
          (refine And.intro (by first | omega | assumption | rfl | exact zin_and | exact ⟨zin_and, by omega⟩ | exact ⟨by omega, zin_and⟩ | exact Nat.le_of_ble_eq_true rfl | exact ⟨Nat.le_of_ble_eq_true rfl, rfl⟩ | exact ⟨Nat.le_of_ble_eq_true rfl, by assumption⟩ | decide) ?_; conv => whnf)
          (refine hK _ _ _ _ (zW.go (zC_om _) (fun K hK => ?_)); conv => whnf)
          rw [zone_shl (by omega), zor_nat hs h2t]
          exact hK _ _ _ _ (ih (k + 1) _ _ _ _ (by omega) hst (by omega) hq)
        | false =>
          rw [zb_f]
          rw [if_neg (by decide)] at hq
          (refine zW.go (zC_om _) (fun K hK => ?_); conv => whnf)
          (refine And.intro (by first | omega | assumption | rfl | exact zin_and | exact ⟨zin_and, by omega⟩ | exact ⟨by omega, zin_and⟩ | exact Nat.le_of_ble_eq_true rfl | exact ⟨Nat.le_of_ble_eq_true rfl, rfl⟩ | exact ⟨Nat.le_of_ble_eq_true rfl, by assumption⟩ | decide) ?_; conv => whnf)
          (refine And.intro (fun h => ?_) (fun h => by omega); conv => whnf)
          (refine hK _ _ _ _ (zW.go (zC_om _) (fun K hK => ?_)); conv => whnf)
          (refine And.intro (by first | omega | assumption | rfl | exact zin_and | exact ⟨zin_and, by omega⟩ | exact ⟨by omega, zin_and⟩ | exact Nat.le_of_ble_eq_true rfl | exact ⟨Nat.le_of_ble_eq_true rfl, rfl⟩ | exact ⟨Nat.le_of_ble_eq_true rfl, by assumption⟩ | decide) ?_; conv => whnf)
          (refine And.intro (fun h => ?_) (fun h => by omega); conv => whnf)
          (refine hK _ _ _ _ (zW.go (zC_om _) (fun K hK => ?_)); conv => whnf)
          rw [zor_0 hs, Int.sub_zero]
          exact hK _ _ _ _ (ih (k + 1) _ _ _ _ (by omega) hs (by omega) hq)
      (refine zW.go (zC_om _) (fun K hK => ?_); conv => whnf)
      (refine And.intro (by first | omega | assumption | rfl | exact zin_and | exact ⟨zin_and, by omega⟩ | exact ⟨by omega, zin_and⟩ | exact Nat.le_of_ble_eq_true rfl | exact ⟨Nat.le_of_ble_eq_true rfl, rfl⟩ | exact ⟨Nat.le_of_ble_eq_true rfl, by assumption⟩ | decide) ?_; conv => whnf)
      (refine And.intro (by first | omega | assumption | rfl | exact zin_and | exact ⟨zin_and, by omega⟩ | exact ⟨by omega, zin_and⟩ | exact Nat.le_of_ble_eq_true rfl | exact ⟨Nat.le_of_ble_eq_true rfl, rfl⟩ | exact ⟨Nat.le_of_ble_eq_true rfl, by assumption⟩ | decide) ?_; conv => whnf)
      (refine And.intro (fun h => by omega) (fun h => ?_); conv => whnf)
      (refine And.intro (by first | omega | assumption | rfl | exact zin_and | exact ⟨zin_and, by omega⟩ | exact ⟨by omega, zin_and⟩ | exact Nat.le_of_ble_eq_true rfl | exact ⟨Nat.le_of_ble_eq_true rfl, rfl⟩ | exact ⟨Nat.le_of_ble_eq_true rfl, by assumption⟩ | decide) ?_; conv => whnf)
      (refine And.intro (by first | omega | assumption | rfl | exact zin_and | exact ⟨zin_and, by omega⟩ | exact ⟨by omega, zin_and⟩ | exact Nat.le_of_ble_eq_true rfl | exact ⟨Nat.le_of_ble_eq_true rfl, rfl⟩ | exact ⟨Nat.le_of_ble_eq_true rfl, by assumption⟩ | decide) ?_; conv => whnf)
      rw [hso1, zbit (by omega) (by omega)]
      by_cases hbit : fr.testBit t = true
      · rw [if_pos hbit]
        (refine And.intro (by first | omega | assumption | rfl | exact zin_and | exact ⟨zin_and, by omega⟩ | exact ⟨by omega, zin_and⟩ | exact Nat.le_of_ble_eq_true rfl | exact ⟨Nat.le_of_ble_eq_true rfl, rfl⟩ | exact ⟨Nat.le_of_ble_eq_true rfl, by assumption⟩ | decide) ?_; conv => whnf)
        (refine And.intro (fun h => by omega) (fun h => ?_); conv => whnf)
        (refine And.intro (by first | omega | assumption | rfl | exact zin_and | exact ⟨zin_and, by omega⟩ | exact ⟨by omega, zin_and⟩ | exact Nat.le_of_ble_eq_true rfl | exact ⟨Nat.le_of_ble_eq_true rfl, rfl⟩ | exact ⟨Nat.le_of_ble_eq_true rfl, by assumption⟩ | decide) ?_; conv => whnf)
        (refine And.intro (by first | omega | assumption | rfl | exact zin_and | exact ⟨zin_and, by omega⟩ | exact ⟨by omega, zin_and⟩ | exact Nat.le_of_ble_eq_true rfl | exact ⟨Nat.le_of_ble_eq_true rfl, rfl⟩ | exact ⟨Nat.le_of_ble_eq_true rfl, by assumption⟩ | decide) ?_; conv => whnf)
        by_cases hle : g a (21 + t) ≤ left
        · (refine And.intro (fun h => by omega) (fun h => ?_); conv => whnf)
          (refine And.intro (by first | omega | assumption | rfl | exact zin_and | exact ⟨zin_and, by omega⟩ | exact ⟨by omega, zin_and⟩ | exact Nat.le_of_ble_eq_true rfl | exact ⟨Nat.le_of_ble_eq_true rfl, rfl⟩ | exact ⟨Nat.le_of_ble_eq_true rfl, by assumption⟩ | decide) ?_; conv => whnf)
          rw [hmb, zand_nat (by omega) hs]
          have hle2 : mb (g a) t &&& set ≤ mb (g a) t := Nat.and_le_left
          (refine And.intro (by first | omega | assumption | rfl | exact zin_and | exact ⟨zin_and, by omega⟩ | exact ⟨by omega, zin_and⟩ | exact Nat.le_of_ble_eq_true rfl | exact ⟨Nat.le_of_ble_eq_true rfl, rfl⟩ | exact ⟨Nat.le_of_ble_eq_true rfl, by assumption⟩ | decide) ?_; conv => whnf)
          by_cases hz : mb (g a) t &&& set = 0
          · rw [hz]
            (refine And.intro (fun h => by omega) (fun h => ?_); conv => whnf)
            exact hK _ _ _ _ (j true (by simp [mhc, hbit, hz, hle]))
          · (refine And.intro (fun h => ?_) (fun h => by omega); conv => whnf)
            (refine hK _ _ _ _ ?_)
            (refine zW.upto (zC_om _) 1 (fun K hK => ?_); conv => whnf)
            exact hK _ _ _ _ (j false (by simp [mhc, hz]))
        · (refine And.intro (fun h => ?_) (fun h => by omega); conv => whnf)
          (refine hK _ _ _ _ ?_)
          (refine zW.upto (zC_om _) 1 (fun K hK => ?_); conv => whnf)
          exact hK _ _ _ _ (j false (by simp [mhc, hle]))
      · have hbit2 : fr.testBit t = false := by simpa using hbit
        rw [if_neg hbit]
        (refine And.intro (by first | omega | assumption | rfl | exact zin_and | exact ⟨zin_and, by omega⟩ | exact ⟨by omega, zin_and⟩ | exact Nat.le_of_ble_eq_true rfl | exact ⟨Nat.le_of_ble_eq_true rfl, rfl⟩ | exact ⟨Nat.le_of_ble_eq_true rfl, by assumption⟩ | decide) ?_; conv => whnf)
        (refine And.intro (fun h => ?_) (fun h => by omega); conv => whnf)
        (refine hK _ _ _ _ ?_)
        (refine zW.upto (zC_om _) 1 (fun K hK => ?_); conv => whnf)
        exact hK _ _ _ _ (j false (by simp [mhc, hbit2]))
  (refine zW.upto (zC_om _) 18 (fun K hK => ?_); conv => whnf)
  (refine And.intro (by first | omega | assumption | rfl | exact zin_and | exact ⟨zin_and, by omega⟩ | exact ⟨by omega, zin_and⟩ | exact Nat.le_of_ble_eq_true rfl | exact ⟨Nat.le_of_ble_eq_true rfl, rfl⟩ | exact ⟨Nat.le_of_ble_eq_true rfl, by assumption⟩ | decide) ?_; conv => whnf)
  (refine m_free ha hok hi31 ho31 ?_; conv => whnf)
  rw [hfr]
  (refine And.intro (by first | omega | assumption | rfl | exact zin_and | exact ⟨zin_and, by omega⟩ | exact ⟨by omega, zin_and⟩ | exact Nat.le_of_ble_eq_true rfl | exact ⟨Nat.le_of_ble_eq_true rfl, rfl⟩ | exact ⟨Nat.le_of_ble_eq_true rfl, by assumption⟩ | decide) ?_; conv => whnf)
  (refine And.intro (by first | omega | assumption | rfl | exact zin_and | exact ⟨zin_and, by omega⟩ | exact ⟨by omega, zin_and⟩ | exact Nat.le_of_ble_eq_true rfl | exact ⟨Nat.le_of_ble_eq_true rfl, rfl⟩ | exact ⟨Nat.le_of_ble_eq_true rfl, by assumption⟩ | decide) ?_; conv => whnf)
  (refine m_sum ha hn hn12 (by omega) (by omega) hi31 ?_; conv => whnf)
  exact hK _ _ _ _ (loop n 0 _ _ _ _ (by omega) hi31 (by omega) (by rw [← hfr]; exact hQ))
def mfs (s : zS) (n set : Nat) : Nat → Nat → Int
  | 0, _ => -5
  | m + 1, k => if set.testBit (mor s n k) then (mor s n k : Int) else mfs s n set m (k + 1)
/-- the first of a set in the order -/
abbrev mfirst (s : zS) (n set : Nat) : Int := mfs s n set n 0
theorem m_first {d a n set : Nat} {g : zM} {Q : zP} (ha : zkd a = (1, 2845)) (hok : mok (g a) n) (hso : mso g (g a) n) (hs : set < 2 ^ 31) (hQ : Q (some (zI (mfirst (g a) n set))) g) : zC (d + 1) 104 [zR 64, zR a, zI set] g Q := by
  have hk1 : (zkd a).1 = 1 := by rw [ha]
  have hk2 : (zkd a).2 = 2845 := by rw [ha]
  have hk3 := zk71a
  have hk4 := zk71b
  obtain ⟨hn, hn12, hroom, hth⟩ := id hok
  refine zC.go zm_X6_first ⟨rfl, rfl⟩ rfl ?_
  have loop : ∀ (m k : Nat), k + m = n → Q (some (zI (mfs (g a) n set m k))) g → zW zX6_first (zC d) Q 2 [zR 64, zR a, zI set, zI k] [] g := by
    intro m
    induction m with
    | zero =>
      intro k hk hq
      (refine zW.go (zC_om _) (fun K hK => ?_); conv => whnf)
      (refine And.intro (by first | omega | assumption | rfl | exact zin_and | exact ⟨zin_and, by omega⟩ | exact ⟨by omega, zin_and⟩ | exact Nat.le_of_ble_eq_true rfl | exact ⟨Nat.le_of_ble_eq_true rfl, rfl⟩ | exact ⟨Nat.le_of_ble_eq_true rfl, by assumption⟩ | decide) ?_; conv => whnf)
      (refine And.intro (by first | omega | assumption | rfl | exact zin_and | exact ⟨zin_and, by omega⟩ | exact ⟨by omega, zin_and⟩ | exact Nat.le_of_ble_eq_true rfl | exact ⟨Nat.le_of_ble_eq_true rfl, rfl⟩ | exact ⟨Nat.le_of_ble_eq_true rfl, by assumption⟩ | decide) ?_; conv => whnf)
      (refine And.intro (fun h => ?_) (fun h => by omega); conv => whnf)
      (repeat' first | (refine hK _ _ _ _ (zW.go (zC_om _) (fun K hK => ?_)); conv => whnf) | (refine And.intro (by first | omega | assumption | rfl | exact zin_and | exact ⟨zin_and, by omega⟩ | exact ⟨by omega, zin_and⟩ | exact Nat.le_of_ble_eq_true rfl | exact ⟨Nat.le_of_ble_eq_true rfl, rfl⟩ | exact ⟨Nat.le_of_ble_eq_true rfl, by assumption⟩ | decide) ?_; conv => whnf) | (refine And.intro (fun h => ?_) (fun h => ?_) <;> conv => whnf) | (intro h; conv => whnf))
      exact hq
    | succ m ih =>
      intro k hk hq
      have hso1 := hso k (by omega)
      obtain ⟨hmo, -⟩ := mor_spec (s := g a) hok.pos (show k < n by omega)
      have e0 : mfs (g a) n set (m + 1) k = if set.testBit (mor (g a) n k) then (mor (g a) n k : Int) else mfs (g a) n set m (k + 1) := rfl
      rw [e0] at hq
      (refine zW.go (zC_om _) (fun K hK => ?_); conv => whnf)
      (refine And.intro (by first | omega | assumption | rfl | exact zin_and | exact ⟨zin_and, by omega⟩ | exact ⟨by omega, zin_and⟩ | exact Nat.le_of_ble_eq_true rfl | exact ⟨Nat.le_of_ble_eq_true rfl, rfl⟩ | exact ⟨Nat.le_of_ble_eq_true rfl, by assumption⟩ | decide) ?_; conv => whnf)
      (refine And.intro (by first | omega | assumption | rfl | exact zin_and | exact ⟨zin_and, by omega⟩ | exact ⟨by omega, zin_and⟩ | exact Nat.le_of_ble_eq_true rfl | exact ⟨Nat.le_of_ble_eq_true rfl, rfl⟩ | exact ⟨Nat.le_of_ble_eq_true rfl, by assumption⟩ | decide) ?_; conv => whnf)
      (refine And.intro (fun h => by omega) (fun h => ?_); conv => whnf)
      (refine And.intro (by first | omega | assumption | rfl | exact zin_and | exact ⟨zin_and, by omega⟩ | exact ⟨by omega, zin_and⟩ | exact Nat.le_of_ble_eq_true rfl | exact ⟨Nat.le_of_ble_eq_true rfl, rfl⟩ | exact ⟨Nat.le_of_ble_eq_true rfl, by assumption⟩ | decide) ?_; conv => whnf)
      (refine And.intro (by first | omega | assumption | rfl | exact zin_and | exact ⟨zin_and, by omega⟩ | exact ⟨by omega, zin_and⟩ | exact Nat.le_of_ble_eq_true rfl | exact ⟨Nat.le_of_ble_eq_true rfl, rfl⟩ | exact ⟨Nat.le_of_ble_eq_true rfl, by assumption⟩ | decide) ?_; conv => whnf)
      rw [hso1, zbit hs (by omega)]
      by_cases hbit : set.testBit (mor (g a) n k) = true
      · rw [if_pos hbit] at hq ⊢
        (refine And.intro (by first | omega | assumption | rfl | exact zin_and | exact ⟨zin_and, by omega⟩ | exact ⟨by omega, zin_and⟩ | exact Nat.le_of_ble_eq_true rfl | exact ⟨Nat.le_of_ble_eq_true rfl, rfl⟩ | exact ⟨Nat.le_of_ble_eq_true rfl, by assumption⟩ | decide) ?_; conv => whnf)
        (refine And.intro (fun h => by omega) (fun h => ?_); conv => whnf)
        (refine And.intro (by first | omega | assumption | rfl | exact zin_and | exact ⟨zin_and, by omega⟩ | exact ⟨by omega, zin_and⟩ | exact Nat.le_of_ble_eq_true rfl | exact ⟨Nat.le_of_ble_eq_true rfl, rfl⟩ | exact ⟨Nat.le_of_ble_eq_true rfl, by assumption⟩ | decide) ?_; conv => whnf)
        (refine And.intro (by first | omega | assumption | rfl | exact zin_and | exact ⟨zin_and, by omega⟩ | exact ⟨by omega, zin_and⟩ | exact Nat.le_of_ble_eq_true rfl | exact ⟨Nat.le_of_ble_eq_true rfl, rfl⟩ | exact ⟨Nat.le_of_ble_eq_true rfl, by assumption⟩ | decide) ?_; conv => whnf)
        (repeat' first | (refine hK _ _ _ _ (zW.go (zC_om _) (fun K hK => ?_)); conv => whnf) | (refine And.intro (by first | omega | assumption | rfl | exact zin_and | exact ⟨zin_and, by omega⟩ | exact ⟨by omega, zin_and⟩ | exact Nat.le_of_ble_eq_true rfl | exact ⟨Nat.le_of_ble_eq_true rfl, rfl⟩ | exact ⟨Nat.le_of_ble_eq_true rfl, by assumption⟩ | decide) ?_; conv => whnf) | (refine And.intro (fun h => ?_) (fun h => ?_) <;> conv => whnf) | (intro h; conv => whnf))
        rw [hso1]
        exact hq
      · rw [if_neg hbit] at hq ⊢
        (refine And.intro (by first | omega | assumption | rfl | exact zin_and | exact ⟨zin_and, by omega⟩ | exact ⟨by omega, zin_and⟩ | exact Nat.le_of_ble_eq_true rfl | exact ⟨Nat.le_of_ble_eq_true rfl, rfl⟩ | exact ⟨Nat.le_of_ble_eq_true rfl, by assumption⟩ | decide) ?_; conv => whnf)
        (refine And.intro (fun h => ?_) (fun h => by omega); conv => whnf)
        (refine hK _ _ _ _ (zW.go (zC_om _) (fun K hK => ?_)); conv => whnf)
        exact hK _ _ _ _ (ih (k + 1) (by omega) hq)
  (refine zW.upto (zC_om _) 2 (fun K hK => ?_); conv => whnf)
  exact hK _ _ _ _ (loop n 0 (by omega) hQ)
end
section
/-! the reference: the child's bound, and the thing on which a node is branched -/
theorem zdiv_nat {a b : Nat} (ha : a < 2 ^ 31) (hb0 : 0 < b) (hb : b < 2 ^ 31) : zdiv a b = ((a / b : Nat) : Int) := by
  unfold zdiv
  rw [zJ_nat, zJ_nat]
  show (nI a / nI b).toInt = _
  rw [pk_div ha hb0 hb]
  exact nI_toInt (Nat.lt_of_le_of_lt (Nat.div_le_self _ _) ha)
/-- a share of a worth is less than the worth -/
theorem zshare {w l v : Int} (hw : 0 ≤ w ∧ w ≤ 99) (hl : 0 ≤ l) (hlv : l < v) (hv : v ≤ 50) : 0 ≤ zdiv (w * l) v ∧ zdiv (w * l) v ≤ 99 := by
  obtain ⟨p0, p1⟩ := zmul_bd (x := w) (y := l) hw ⟨hl, by omega⟩
  obtain ⟨a, ha⟩ : ∃ a : Nat, w * l = a := ⟨(w * l).toNat, by omega⟩
  obtain ⟨b, hb⟩ : ∃ b : Nat, v = b := ⟨v.toNat, by omega⟩
  have hle : w * l ≤ 99 * v := by
    have h1 := Int.mul_le_mul_of_nonneg_right hw.2 hl
    omega
  rw [ha, hb, zdiv_nat (by omega) (by omega) (by omega)]
  have h2 : a / b ≤ 99 := by
    refine Nat.div_le_of_le_mul ?_
    rw [ha, hb] at hle
    have : (b : Int) * 99 = 99 * b := Int.mul_comm _ _
    omega
  generalize a / b = q at *
  omega
theorem mbd_rng {s : zS} {n fr : Nat} (hok : mok s n) : ∀ (m k : Nat) (left sum : Int), k + m = n → 0 ≤ left → 0 ≤ sum → sum ≤ mbd s n fr m k left sum ∧ mbd s n fr m k left sum ≤ sum + 99 * m
  | 0, k, left, sum, _, _, _ => by simp [mbd]
  | m + 1, k, left, sum, hk, hl, hs => by
    obtain ⟨hmo, -⟩ := mor_spec (s := s) hok.pos (show k < n by omega)
    obtain ⟨hwt, hvt, -⟩ := hok.2.2.2 _ hmo
    have e0 : mbd s n fr (m + 1) k left sum = if fr.testBit (mor s n k) then (if left < s (21 + (mor s n k : Int)) then sum + zdiv (s (9 + (mor s n k : Int)) * left) (s (21 + (mor s n k : Int))) else mbd s n fr m (k + 1) (left - s (21 + (mor s n k : Int))) (sum + s (9 + (mor s n k : Int)))) else mbd s n fr m (k + 1) left sum := rfl
    rw [e0]
    generalize mor s n k = t at *
    have e1 : (99 : Int) * ((m + 1 : Nat) : Int) = 99 * m + 99 := by omega
    rw [e1]
    split
    · split
      · have := zshare (w := s (9 + t)) (l := left) (v := s (21 + t)) (by omega) hl (by omega) (by omega)
        omega
      · have := mbd_rng (fr := fr) hok m (k + 1) (left - s (21 + t)) (sum + s (9 + t)) (by omega) (by omega) (by omega)
        omega
    · have := mbd_rng (fr := fr) hok m (k + 1) left sum (by omega) hl hs
      omega
theorem mposs_left {s : zS} {n i : Nat} (h : mposs s n i = true) : 0 ≤ mleft s n i := by
  have go : ∀ t, mpb s n i t = true → bsum s 21 i n ≤ s 1 := by
    intro t
    induction t with
    | zero => intro h; simpa [mpb] using h
    | succ t ih =>
      intro h
      have h : (mpb s n i t && (!i.testBit t || decide (mb s t &&& i = 0))) = true := h
      rw [Bool.and_eq_true] at h
      exact ih h.1
  have := go n h
  show 0 ≤ s 1 - bsum s 21 i n
  omega
theorem mbound_rng {s : zS} {n i o : Nat} (hok : mok s n) (h : mposs s n i = true) : bsum s 9 i n ≤ mbound s n i o ∧ 0 ≤ mbound s n i o ∧ mbound s n i o ≤ 2376 := by
  have h1 := msumw (set := i) hok
  have h2 := mbd_rng (fr := mfree s n i o) hok n 0 (mleft s n i) (bsum s 9 i n) (by omega) (mposs_left h) h1.1
  have h3 := hok.2.1
  show bsum s 9 i n ≤ mbd s n (mfree s n i o) n 0 (mleft s n i) (bsum s 9 i n) ∧ 0 ≤ mbd s n (mfree s n i o) n 0 (mleft s n i) (bsum s 9 i n) ∧ mbd s n (mfree s n i o) n 0 (mleft s n i) (bsum s 9 i n) ≤ 2376
  omega
/-- the bound of a child; 0 if it is not possible -/
def mchild (s : zS) (n i o : Nat) : Int := if mposs s n i then mbound s n i o else 0
theorem mchild_rng {s : zS} {n i o : Nat} (hok : mok s n) : 0 ≤ mchild s n i o ∧ mchild s n i o ≤ 2376 := by
  unfold mchild
  split
  · next h => exact (mbound_rng hok h).2
  · omega
theorem m_child {d a n i o : Nat} {g : zM} {Q : zP} (ha : zkd a = (1, 2845)) (hok : mok (g a) n) (hso : mso g (g a) n) (hi31 : i < 2 ^ 31) (ho31 : o < 2 ^ 31) (hQ : Q (some (zI (mchild (g a) n i o))) g) : zC (d + 4) 107 [zR 64, zR a, zI i, zI o] g Q := by
  refine zC.go zm_X6_child ⟨rfl, rfl⟩ rfl ?_
  (refine zW.go (zC_om _) (fun K hK => ?_); conv => whnf)
  (refine And.intro (by first | omega | assumption | rfl | exact zin_and | exact ⟨zin_and, by omega⟩ | exact ⟨by omega, zin_and⟩ | exact Nat.le_of_ble_eq_true rfl | exact ⟨Nat.le_of_ble_eq_true rfl, rfl⟩ | exact ⟨Nat.le_of_ble_eq_true rfl, by assumption⟩ | decide) ?_; conv => whnf)
  (refine m_isPossible ha hok hi31 ?_; conv => whnf)
  by_cases h : mposs (g a) n i = true
  · have e : mchild (g a) n i o = mbound (g a) n i o := by unfold mchild; rw [if_pos h]
    rw [e] at hQ
    rw [h, zb_t]
    (refine And.intro (by first | omega | assumption | rfl | exact zin_and | exact ⟨zin_and, by omega⟩ | exact ⟨by omega, zin_and⟩ | exact Nat.le_of_ble_eq_true rfl | exact ⟨Nat.le_of_ble_eq_true rfl, rfl⟩ | exact ⟨Nat.le_of_ble_eq_true rfl, by assumption⟩ | decide) ?_; conv => whnf)
    (refine And.intro (fun h => by omega) (fun h => ?_); conv => whnf)
    (refine And.intro (by first | omega | assumption | rfl | exact zin_and | exact ⟨zin_and, by omega⟩ | exact ⟨by omega, zin_and⟩ | exact Nat.le_of_ble_eq_true rfl | exact ⟨Nat.le_of_ble_eq_true rfl, rfl⟩ | exact ⟨Nat.le_of_ble_eq_true rfl, by assumption⟩ | decide) ?_; conv => whnf)
    (refine m_bound ha hok hso hi31 ho31 ?_; conv => whnf)
    (repeat' first | (refine hK _ _ _ _ (zW.go (zC_om _) (fun K hK => ?_)); conv => whnf) | (refine And.intro (by first | omega | assumption | rfl | exact zin_and | exact ⟨zin_and, by omega⟩ | exact ⟨by omega, zin_and⟩ | exact Nat.le_of_ble_eq_true rfl | exact ⟨Nat.le_of_ble_eq_true rfl, rfl⟩ | exact ⟨Nat.le_of_ble_eq_true rfl, by assumption⟩ | decide) ?_; conv => whnf) | (refine And.intro (fun h => ?_) (fun h => ?_) <;> conv => whnf) | (intro h; conv => whnf))
    exact hQ
  · have h : mposs (g a) n i = false := by simpa using h
    have e : mchild (g a) n i o = 0 := by unfold mchild; rw [if_neg (by rw [h]; decide)]
    rw [e] at hQ
    rw [h, zb_f]
    (refine And.intro (by first | omega | assumption | rfl | exact zin_and | exact ⟨zin_and, by omega⟩ | exact ⟨by omega, zin_and⟩ | exact Nat.le_of_ble_eq_true rfl | exact ⟨Nat.le_of_ble_eq_true rfl, rfl⟩ | exact ⟨Nat.le_of_ble_eq_true rfl, by assumption⟩ | decide) ?_; conv => whnf)
    (refine And.intro (fun h => ?_) (fun h => by omega); conv => whnf)
    (repeat' first | (refine hK _ _ _ _ (zW.go (zC_om _) (fun K hK => ?_)); conv => whnf) | (refine And.intro (by first | omega | assumption | rfl | exact zin_and | exact ⟨zin_and, by omega⟩ | exact ⟨by omega, zin_and⟩ | exact Nat.le_of_ble_eq_true rfl | exact ⟨Nat.le_of_ble_eq_true rfl, rfl⟩ | exact ⟨Nat.le_of_ble_eq_true rfl, by assumption⟩ | decide) ?_; conv => whnf) | (refine And.intro (fun h => ?_) (fun h => ?_) <;> conv => whnf) | (intro h; conv => whnf))
    exact hQ
def mhv (s : zS) (fr : Nat) : Nat → Int
  | 0 => -5
  | t + 1 => if fr.testBit t = true ∧ (mhv s fr t = -5 ∨ s (21 + mhv s fr t) < s (21 + (t : Int))) then (t : Int) else mhv s fr t
theorem mhv_rng (s : zS) (fr : Nat) : ∀ t : Nat, mhv s fr t = -5 ∨ (0 ≤ mhv s fr t ∧ mhv s fr t < t ∧ fr.testBit (mhv s fr t).toNat = true)
  | 0 => Or.inl rfl
  | t + 1 => by
    have h := mhv_rng s fr t
    have e0 : mhv s fr (t + 1) = if fr.testBit t = true ∧ (mhv s fr t = -5 ∨ s (21 + mhv s fr t) < s (21 + (t : Int))) then (t : Int) else mhv s fr t := rfl
    rw [e0]
    split
    · next hc => exact Or.inr ⟨by omega, by omega, by simpa using hc.1⟩
    · rcases h with h | h
      · exact Or.inl h
      · exact Or.inr ⟨h.1, by omega, h.2.2⟩
theorem m_heaviest {d a n fr : Nat} {g : zM} {Q : zP} (ha : zkd a = (1, 2845)) (hok : mok (g a) n) (hs : fr < 2 ^ 31) (hQ : Q (some (zI (mhv (g a) fr n))) g) : zC (d + 1) 106 [zR a, zI fr] g Q := by
  have hk1 : (zkd a).1 = 1 := by rw [ha]
  have hk2 : (zkd a).2 = 2845 := by rw [ha]
  obtain ⟨hn, hn12, hroom, hth⟩ := id hok
  refine zC.go zm_X6_heaviest ⟨rfl, rfl⟩ rfl ?_
  (refine zW.upto (zC_om _) 4 (fun K hK => ?_); conv => whnf)
  refine hK _ _ _ _ (zdown (P := fun t => zW zX6_heaviest (zC d) Q 4 [zR a, zI fr, zI (mhv (g a) fr t), zI t] [] g) n ?_ ?_)
  · (refine zW.go (zC_om _) (fun K hK => ?_); conv => whnf)
    (refine And.intro (by first | omega | assumption | rfl | exact zin_and | exact ⟨zin_and, by omega⟩ | exact ⟨by omega, zin_and⟩ | exact Nat.le_of_ble_eq_true rfl | exact ⟨Nat.le_of_ble_eq_true rfl, rfl⟩ | exact ⟨Nat.le_of_ble_eq_true rfl, by assumption⟩ | decide) ?_; conv => whnf)
    (refine And.intro (by first | omega | assumption | rfl | exact zin_and | exact ⟨zin_and, by omega⟩ | exact ⟨by omega, zin_and⟩ | exact Nat.le_of_ble_eq_true rfl | exact ⟨Nat.le_of_ble_eq_true rfl, rfl⟩ | exact ⟨Nat.le_of_ble_eq_true rfl, by assumption⟩ | decide) ?_; conv => whnf)
    (refine And.intro (fun h => ?_) (fun h => by omega); conv => whnf)
    (repeat' first | (refine hK _ _ _ _ (zW.go (zC_om _) (fun K hK => ?_)); conv => whnf) | (refine And.intro (by first | omega | assumption | rfl | exact zin_and | exact ⟨zin_and, by omega⟩ | exact ⟨by omega, zin_and⟩ | exact Nat.le_of_ble_eq_true rfl | exact ⟨Nat.le_of_ble_eq_true rfl, rfl⟩ | exact ⟨Nat.le_of_ble_eq_true rfl, by assumption⟩ | decide) ?_; conv => whnf) | (refine And.intro (fun h => ?_) (fun h => ?_) <;> conv => whnf) | (intro h; conv => whnf))
    exact hQ
  · intro t ht hi
    obtain ⟨-, hvt, -⟩ := hth t ht
    have hi : zW zX6_heaviest (zC d) Q 4 [zR a, zI fr, zI (mhv (g a) fr (t + 1)), zI (t + 1 : Nat)] [] g := hi
    have e0 : mhv (g a) fr (t + 1) = if fr.testBit t = true ∧ (mhv (g a) fr t = -5 ∨ g a (21 + mhv (g a) fr t) < g a (21 + (t : Int))) then (t : Int) else mhv (g a) fr t := rfl
    rw [e0] at hi
    have hr := mhv_rng (g a) fr t
    generalize mhv (g a) fr t = f at *
    have hvf : f ≠ -5 → 1 ≤ g a (21 + f) ∧ g a (21 + f) ≤ 50 := by
      intro hf
      have hq := (hth f.toNat (by omega)).2.1
      have : ((f.toNat : Nat) : Int) = f := by omega
      rw [this] at hq
      exact hq
    (refine zW.go (zC_om _) (fun K hK => ?_); conv => whnf)
    (refine And.intro (by first | omega | assumption | rfl | exact zin_and | exact ⟨zin_and, by omega⟩ | exact ⟨by omega, zin_and⟩ | exact Nat.le_of_ble_eq_true rfl | exact ⟨Nat.le_of_ble_eq_true rfl, rfl⟩ | exact ⟨Nat.le_of_ble_eq_true rfl, by assumption⟩ | decide) ?_; conv => whnf)
    (refine And.intro (by first | omega | assumption | rfl | exact zin_and | exact ⟨zin_and, by omega⟩ | exact ⟨by omega, zin_and⟩ | exact Nat.le_of_ble_eq_true rfl | exact ⟨Nat.le_of_ble_eq_true rfl, rfl⟩ | exact ⟨Nat.le_of_ble_eq_true rfl, by assumption⟩ | decide) ?_; conv => whnf)
    (refine And.intro (fun h => by omega) (fun h => ?_); conv => whnf)
    rw [zbit hs (by omega)]
    by_cases hbit : fr.testBit t = true
    · rw [if_pos hbit]
      (refine And.intro (by first | omega | assumption | rfl | exact zin_and | exact ⟨zin_and, by omega⟩ | exact ⟨by omega, zin_and⟩ | exact Nat.le_of_ble_eq_true rfl | exact ⟨Nat.le_of_ble_eq_true rfl, rfl⟩ | exact ⟨Nat.le_of_ble_eq_true rfl, by assumption⟩ | decide) ?_; conv => whnf)
      (refine And.intro (fun h => by omega) (fun h => ?_); conv => whnf)
      (refine And.intro (by first | omega | assumption | rfl | exact zin_and | exact ⟨zin_and, by omega⟩ | exact ⟨by omega, zin_and⟩ | exact Nat.le_of_ble_eq_true rfl | exact ⟨Nat.le_of_ble_eq_true rfl, rfl⟩ | exact ⟨Nat.le_of_ble_eq_true rfl, by assumption⟩ | decide) ?_; conv => whnf)
      by_cases hf : f = -5
      · rw [if_pos ⟨hbit, Or.inl hf⟩] at hi
        (refine And.intro (fun h => ?_) (fun h => by omega); conv => whnf)
        (refine hK _ _ _ _ (zW.go (zC_om _) (fun K hK => ?_)); conv => whnf)
        (refine hK _ _ _ _ (zW.go (zC_om _) (fun K hK => ?_)); conv => whnf)
        exact hK _ _ _ _ hi
      · have hvf := hvf hf
        (refine And.intro (fun h => by omega) (fun h => ?_); conv => whnf)
        (refine And.intro (by first | omega | assumption | rfl | exact zin_and | exact ⟨zin_and, by omega⟩ | exact ⟨by omega, zin_and⟩ | exact Nat.le_of_ble_eq_true rfl | exact ⟨Nat.le_of_ble_eq_true rfl, rfl⟩ | exact ⟨Nat.le_of_ble_eq_true rfl, by assumption⟩ | decide) ?_; conv => whnf)
        (refine And.intro (by first | omega | assumption | rfl | exact zin_and | exact ⟨zin_and, by omega⟩ | exact ⟨by omega, zin_and⟩ | exact Nat.le_of_ble_eq_true rfl | exact ⟨Nat.le_of_ble_eq_true rfl, rfl⟩ | exact ⟨Nat.le_of_ble_eq_true rfl, by assumption⟩ | decide) ?_; conv => whnf)
        (refine And.intro (by first | omega | assumption | rfl | exact zin_and | exact ⟨zin_and, by omega⟩ | exact ⟨by omega, zin_and⟩ | exact Nat.le_of_ble_eq_true rfl | exact ⟨Nat.le_of_ble_eq_true rfl, rfl⟩ | exact ⟨Nat.le_of_ble_eq_true rfl, by assumption⟩ | decide) ?_; conv => whnf)
        by_cases hlt : g a (21 + f) < g a (21 + t)
        · rw [if_pos ⟨hbit, Or.inr hlt⟩] at hi
          (refine And.intro (fun h => by omega) (fun h => ?_); conv => whnf)
          (refine hK _ _ _ _ (zW.go (zC_om _) (fun K hK => ?_)); conv => whnf)
          exact hK _ _ _ _ hi
        · rw [if_neg (by omega)] at hi
          (refine And.intro (fun h => ?_) (fun h => by omega); conv => whnf)
          (refine hK _ _ _ _ (zW.go (zC_om _) (fun K hK => ?_)); conv => whnf)
          exact hK _ _ _ _ hi
    · rw [if_neg (fun q => hbit q.1)] at hi
      rw [if_neg hbit]
      (refine And.intro (by first | omega | assumption | rfl | exact zin_and | exact ⟨zin_and, by omega⟩ | exact ⟨by omega, zin_and⟩ | exact Nat.le_of_ble_eq_true rfl | exact ⟨Nat.le_of_ble_eq_true rfl, rfl⟩ | exact ⟨Nat.le_of_ble_eq_true rfl, by assumption⟩ | decide) ?_; conv => whnf)
      (refine And.intro (fun h => ?_) (fun h => by omega); conv => whnf)
      (refine hK _ _ _ _ (zW.go (zC_om _) (fun K hK => ?_)); conv => whnf)
      exact hK _ _ _ _ hi
/-- the free thing by parts -/
def mparts (s : zS) (n i o : Nat) : Int :=
  if msplit s n i o ≠ -5 then msplit s n i o else if mfirst s n (ndf (mfree s n i o) (mheel s n i o)) ≠ -5 then mfirst s n (ndf (mfree s n i o) (mheel s n i o)) else mfirst s n (mfree s n i o)
theorem mspl_rng {s : zS} {n fr : Nat} (hp : mpos s n) : ∀ (m k : Nat) (left : Int), k + m = n → mspl s n fr m k left = -5 ∨ (0 ≤ mspl s n fr m k left ∧ mspl s n fr m k left < n ∧ fr.testBit (mspl s n fr m k left).toNat = true)
  | 0, _, _, _ => Or.inl rfl
  | m + 1, k, left, hk => by
    obtain ⟨hmo, -⟩ := mor_spec (s := s) hp (show k < n by omega)
    have e0 : mspl s n fr (m + 1) k left = if fr.testBit (mor s n k) then (if left < s (21 + (mor s n k : Int)) then (mor s n k : Int) else mspl s n fr m (k + 1) (left - s (21 + (mor s n k : Int)))) else mspl s n fr m (k + 1) left := rfl
    rw [e0]
    split
    · next hb =>
      split
      · exact Or.inr ⟨by omega, by omega, by simpa using hb⟩
      · exact mspl_rng hp m (k + 1) _ (by omega)
    · exact mspl_rng hp m (k + 1) _ (by omega)
theorem mfs_rng {s : zS} {n set : Nat} (hp : mpos s n) : ∀ (m k : Nat), k + m = n → mfs s n set m k = -5 ∨ (0 ≤ mfs s n set m k ∧ mfs s n set m k < n ∧ set.testBit (mfs s n set m k).toNat = true)
  | 0, _, _ => Or.inl rfl
  | m + 1, k, hk => by
    obtain ⟨hmo, -⟩ := mor_spec (s := s) hp (show k < n by omega)
    have e0 : mfs s n set (m + 1) k = if set.testBit (mor s n k) then (mor s n k : Int) else mfs s n set m (k + 1) := rfl
    rw [e0]
    split
    · next hb => exact Or.inr ⟨by omega, by omega, by simpa using hb⟩
    · exact mfs_rng hp m (k + 1) (by omega)
theorem mhl_lt {s : zS} {n fr : Nat} (hn : n ≤ 12) (hp : mpos s n) : ∀ (m k set : Nat) (left : Int), k + m = n → set < 2 ^ n → mhl s n fr m k set left < 2 ^ n
  | 0, _, _, _, _, h => h
  | m + 1, k, set, left, hk, h => by
    obtain ⟨hmo, -⟩ := mor_spec (s := s) hp (show k < n by omega)
    have e0 : mhl s n fr (m + 1) k set left = if mhc s fr (mor s n k) set left then mhl s n fr m (k + 1) (set ||| 2 ^ (mor s n k)) (left - s (21 + (mor s n k : Int))) else mhl s n fr m (k + 1) set left := rfl
    rw [e0]
    split
    · exact mhl_lt hn hp m (k + 1) _ _ (by omega) (Nat.or_lt_two_pow h (Nat.pow_lt_pow_right (by decide) hmo))
    · exact mhl_lt hn hp m (k + 1) _ _ (by omega) h
theorem mheel_lt {s : zS} {n i o : Nat} (hok : mok s n) (hi : i < 2 ^ n) : mheel s n i o < 2 ^ n := mhl_lt hok.2.1 hok.pos n 0 i _ (by omega) hi
theorem ndf_lt {a b n : Nat} (h : a < 2 ^ n) : ndf a b < 2 ^ n := Nat.xor_lt_two_pow h (Nat.lt_of_le_of_lt Nat.and_le_left h)
theorem m_byParts {d a n i o : Nat} {g : zM} {Q : zP} (ha : zkd a = (1, 2845)) (hok : mok (g a) n) (hso : mso g (g a) n) (hi : i < 2 ^ n) (ho31 : o < 2 ^ 31) (hQ : Q (some (zI (mparts (g a) n i o))) g) : zC (d + 4) 105 [zR 64, zR a, zI i, zI o] g Q := by
  have hn12 := hok.2.1
  have h2n := zp12 hn12
  have hi31 : i < 2 ^ 31 := by omega
  have hfl : mfree (g a) n i o < 2 ^ n := mfr_lt (g a) n i o n
  have hhl := mheel_lt (o := o) hok hi
  have hdl := ndf_lt (b := mheel (g a) n i o) hfl
  have r1 : msplit (g a) n i o = -5 ∨ (0 ≤ msplit (g a) n i o ∧ msplit (g a) n i o < n ∧ _) := mspl_rng (s := g a) (fr := mfree (g a) n i o) hok.pos n 0 (mleft (g a) n i) (by omega)
  have r2 : mfirst (g a) n (ndf (mfree (g a) n i o) (mheel (g a) n i o)) = -5 ∨ (0 ≤ mfirst (g a) n (ndf (mfree (g a) n i o) (mheel (g a) n i o)) ∧ mfirst (g a) n (ndf (mfree (g a) n i o) (mheel (g a) n i o)) < n ∧ _) := mfs_rng (s := g a) (set := ndf (mfree (g a) n i o) (mheel (g a) n i o)) hok.pos n 0 (by omega)
  refine zC.go zm_X6_byParts ⟨rfl, rfl⟩ rfl ?_
  unfold mparts at hQ
  (refine zW.go (zC_om _) (fun K hK => ?_); conv => whnf)
  (refine And.intro (by first | omega | assumption | rfl | exact zin_and | exact ⟨zin_and, by omega⟩ | exact ⟨by omega, zin_and⟩ | exact Nat.le_of_ble_eq_true rfl | exact ⟨Nat.le_of_ble_eq_true rfl, rfl⟩ | exact ⟨Nat.le_of_ble_eq_true rfl, by assumption⟩ | decide) ?_; conv => whnf)
  (refine m_split ha hok hso hi31 ho31 ?_; conv => whnf)
  (refine And.intro (by first | omega | assumption | rfl | exact zin_and | exact ⟨zin_and, by omega⟩ | exact ⟨by omega, zin_and⟩ | exact Nat.le_of_ble_eq_true rfl | exact ⟨Nat.le_of_ble_eq_true rfl, rfl⟩ | exact ⟨Nat.le_of_ble_eq_true rfl, by assumption⟩ | decide) ?_; conv => whnf)
  (refine m_free ha hok hi31 ho31 ?_; conv => whnf)
  (refine And.intro (by first | omega | assumption | rfl | exact zin_and | exact ⟨zin_and, by omega⟩ | exact ⟨by omega, zin_and⟩ | exact Nat.le_of_ble_eq_true rfl | exact ⟨Nat.le_of_ble_eq_true rfl, rfl⟩ | exact ⟨Nat.le_of_ble_eq_true rfl, by assumption⟩ | decide) ?_; conv => whnf)
  (refine m_heel ha hok hso hi31 ho31 ?_; conv => whnf)
  rw [zandnot (by omega) (by omega)]
  (refine And.intro (by first | omega | assumption | rfl | exact zin_and | exact ⟨zin_and, by omega⟩ | exact ⟨by omega, zin_and⟩ | exact Nat.le_of_ble_eq_true rfl | exact ⟨Nat.le_of_ble_eq_true rfl, rfl⟩ | exact ⟨Nat.le_of_ble_eq_true rfl, by assumption⟩ | decide) ?_; conv => whnf)
  (refine m_first ha hok hso (by omega) ?_; conv => whnf)
  (refine And.intro (by first | omega | assumption | rfl | exact zin_and | exact ⟨zin_and, by omega⟩ | exact ⟨by omega, zin_and⟩ | exact Nat.le_of_ble_eq_true rfl | exact ⟨Nat.le_of_ble_eq_true rfl, rfl⟩ | exact ⟨Nat.le_of_ble_eq_true rfl, by assumption⟩ | decide) ?_; conv => whnf)
  by_cases h1 : msplit (g a) n i o = -5
  · rw [if_neg (fun q => q h1)] at hQ
    (refine And.intro (fun h => ?_) (fun h => by omega); conv => whnf)
    (refine hK _ _ _ _ (zW.go (zC_om _) (fun K hK => ?_)); conv => whnf)
    (refine And.intro (by first | omega | assumption | rfl | exact zin_and | exact ⟨zin_and, by omega⟩ | exact ⟨by omega, zin_and⟩ | exact Nat.le_of_ble_eq_true rfl | exact ⟨Nat.le_of_ble_eq_true rfl, rfl⟩ | exact ⟨Nat.le_of_ble_eq_true rfl, by assumption⟩ | decide) ?_; conv => whnf)
    by_cases h2 : mfirst (g a) n (ndf (mfree (g a) n i o) (mheel (g a) n i o)) = -5
    · rw [if_neg (fun q => q h2)] at hQ
      (refine And.intro (fun h => ?_) (fun h => by omega); conv => whnf)
      (refine hK _ _ _ _ (zW.go (zC_om _) (fun K hK => ?_)); conv => whnf)
      (refine And.intro (by first | omega | assumption | rfl | exact zin_and | exact ⟨zin_and, by omega⟩ | exact ⟨by omega, zin_and⟩ | exact Nat.le_of_ble_eq_true rfl | exact ⟨Nat.le_of_ble_eq_true rfl, rfl⟩ | exact ⟨Nat.le_of_ble_eq_true rfl, by assumption⟩ | decide) ?_; conv => whnf)
      (refine m_first ha hok hso (by omega) ?_; conv => whnf)
      (repeat' first | (refine hK _ _ _ _ (zW.go (zC_om _) (fun K hK => ?_)); conv => whnf) | (refine And.intro (by first | omega | assumption | rfl | exact zin_and | exact ⟨zin_and, by omega⟩ | exact ⟨by omega, zin_and⟩ | exact Nat.le_of_ble_eq_true rfl | exact ⟨Nat.le_of_ble_eq_true rfl, rfl⟩ | exact ⟨Nat.le_of_ble_eq_true rfl, by assumption⟩ | decide) ?_; conv => whnf) | (refine And.intro (fun h => ?_) (fun h => ?_) <;> conv => whnf) | (intro h; conv => whnf))
      exact hQ
    · rw [if_pos h2] at hQ
      (refine And.intro (fun h => by omega) (fun h => ?_); conv => whnf)
      (repeat' first | (refine hK _ _ _ _ (zW.go (zC_om _) (fun K hK => ?_)); conv => whnf) | (refine And.intro (by first | omega | assumption | rfl | exact zin_and | exact ⟨zin_and, by omega⟩ | exact ⟨by omega, zin_and⟩ | exact Nat.le_of_ble_eq_true rfl | exact ⟨Nat.le_of_ble_eq_true rfl, rfl⟩ | exact ⟨Nat.le_of_ble_eq_true rfl, by assumption⟩ | decide) ?_; conv => whnf) | (refine And.intro (fun h => ?_) (fun h => ?_) <;> conv => whnf) | (intro h; conv => whnf))
      exact hQ
  · rw [if_pos h1] at hQ
    (refine And.intro (fun h => by omega) (fun h => ?_); conv => whnf)
    (repeat' first | (refine hK _ _ _ _ (zW.go (zC_om _) (fun K hK => ?_)); conv => whnf) | (refine And.intro (by first | omega | assumption | rfl | exact zin_and | exact ⟨zin_and, by omega⟩ | exact ⟨by omega, zin_and⟩ | exact Nat.le_of_ble_eq_true rfl | exact ⟨Nat.le_of_ble_eq_true rfl, rfl⟩ | exact ⟨Nat.le_of_ble_eq_true rfl, by assumption⟩ | decide) ?_; conv => whnf) | (refine And.intro (fun h => ?_) (fun h => ?_) <;> conv => whnf) | (intro h; conv => whnf))
    exact hQ
end
section
/-! the reference: strong trials -/
def zmx (a b : Int) : Int := if b < a then a else b
def zmn (a b : Int) : Int := if b < a then b else a
def mtr (s : zS) (n fr i o : Nat) : Nat → Int × Int × Int
  | 0 => (-5, 0, 0)
  | t + 1 => if fr.testBit t = true ∧ ((mtr s n fr i o t).1 = -5 ∨ zmx (mchild s n i (o ||| 2 ^ t)) (mchild s n (i ||| 2 ^ t) o) < (mtr s n fr i o t).2.1 ∨ (zmx (mchild s n i (o ||| 2 ^ t)) (mchild s n (i ||| 2 ^ t) o) = (mtr s n fr i o t).2.1 ∧ zmn (mchild s n i (o ||| 2 ^ t)) (mchild s n (i ||| 2 ^ t) o) < (mtr s n fr i o t).2.2))
      then ((t : Int), zmx (mchild s n i (o ||| 2 ^ t)) (mchild s n (i ||| 2 ^ t) o), zmn (mchild s n i (o ||| 2 ^ t)) (mchild s n (i ||| 2 ^ t) o)) else mtr s n fr i o t
abbrev mtrials (s : zS) (n i o : Nat) : Int := (mtr s n (mfree s n i o) i o n).1
theorem zmx_rng {a b : Int} (ha : 0 ≤ a ∧ a ≤ 2376) (hb : 0 ≤ b ∧ b ≤ 2376) : 0 ≤ zmx a b ∧ zmx a b ≤ 2376 := by unfold zmx; split <;> omega
theorem zmn_rng {a b : Int} (ha : 0 ≤ a ∧ a ≤ 2376) (hb : 0 ≤ b ∧ b ≤ 2376) : 0 ≤ zmn a b ∧ zmn a b ≤ 2376 := by unfold zmn; split <;> omega
theorem mtr_rng {s : zS} {n fr i o : Nat} (hok : mok s n) : ∀ t : Nat, ((mtr s n fr i o t).1 = -5 ∨ (0 ≤ (mtr s n fr i o t).1 ∧ (mtr s n fr i o t).1 < t ∧ fr.testBit (mtr s n fr i o t).1.toNat = true)) ∧ (0 ≤ (mtr s n fr i o t).2.1 ∧ (mtr s n fr i o t).2.1 ≤ 2376) ∧ (0 ≤ (mtr s n fr i o t).2.2 ∧ (mtr s n fr i o t).2.2 ≤ 2376)
  | 0 => ⟨Or.inl rfl, by simp [mtr], by simp [mtr]⟩
  | t + 1 => by
    obtain ⟨h1, h2, h3⟩ := mtr_rng (fr := fr) (i := i) (o := o) hok t
    have c1 := mchild_rng (i := i) (o := o ||| 2 ^ t) hok
    have c2 := mchild_rng (i := i ||| 2 ^ t) (o := o) hok
    rw [mtr]
    split
    · next hc => exact ⟨Or.inr ⟨by dsimp only; omega, by dsimp only; omega, by simpa using hc.1⟩, zmx_rng c1 c2, zmn_rng c1 c2⟩
    · refine ⟨?_, h2, h3⟩
      rcases h1 with h | h
      · exact Or.inl h
      · exact Or.inr ⟨h.1, by omega, h.2.2⟩
set_option maxHeartbeats 1000000 in
theorem m_byTrials {d a n i o : Nat} {g : zM} {Q : zP} (ha : zkd a = (1, 2845)) (hok : mok (g a) n) (hso : mso g (g a) n) (hi31 : i < 2 ^ 31) (ho31 : o < 2 ^ 31) (hQ : Q (some (zI (mtrials (g a) n i o))) g) : zC (d + 5) 108 [zR 64, zR a, zI i, zI o] g Q := by
  have hk1 : (zkd a).1 = 1 := by rw [ha]
  have hk2 : (zkd a).2 = 2845 := by rw [ha]
  obtain ⟨hn, hn12, hroom, hth⟩ := id hok
  have hfl : mfree (g a) n i o < 2 ^ n := mfr_lt (g a) n i o n
  have h2n := zp12 hn12
  have hQ : Q (some (zI (mtr (g a) n (mfree (g a) n i o) i o n).1)) g := hQ
  generalize hfr : mfree (g a) n i o = fr at *
  refine zC.go zm_X6_byTrials ⟨rfl, rfl⟩ rfl ?_
  have loop : ∀ x9 x10 x11 x12 x13 : zV, zW zX6_byTrials (zC (d + 4)) Q 13 [zR 64, zR a, zI i, zI o, zI fr, zI (mtr (g a) n fr i o 0).1, zI (mtr (g a) n fr i o 0).2.1, zI (mtr (g a) n fr i o 0).2.2, zI 0, x9, x10, x11, x12, x13] [] g := by
    refine (zdown (P := fun t => ∀ x9 x10 x11 x12 x13 : zV, zW zX6_byTrials (zC (d + 4)) Q 13 [zR 64, zR a, zI i, zI o, zI fr, zI (mtr (g a) n fr i o t).1, zI (mtr (g a) n fr i o t).2.1, zI (mtr (g a) n fr i o t).2.2, zI t, x9, x10, x11, x12, x13] [] g) n ?_ ?_)
    · intro x9 x10 x11 x12 x13
      (refine zW.go (zC_om _) (fun K hK => ?_); conv => whnf)
      (refine And.intro (by first | omega | assumption | rfl | exact zin_and | exact ⟨zin_and, by omega⟩ | exact ⟨by omega, zin_and⟩ | exact Nat.le_of_ble_eq_true rfl | exact ⟨Nat.le_of_ble_eq_true rfl, rfl⟩ | exact ⟨Nat.le_of_ble_eq_true rfl, by assumption⟩ | decide) ?_; conv => whnf)
      (refine And.intro (by first | omega | assumption | rfl | exact zin_and | exact ⟨zin_and, by omega⟩ | exact ⟨by omega, zin_and⟩ | exact Nat.le_of_ble_eq_true rfl | exact ⟨Nat.le_of_ble_eq_true rfl, rfl⟩ | exact ⟨Nat.le_of_ble_eq_true rfl, by assumption⟩ | decide) ?_; conv => whnf)
      (refine And.intro (fun h => ?_) (fun h => by omega); conv => whnf)
      (repeat' first | (refine hK _ _ _ _ (zW.go (zC_om _) (fun K hK => ?_)); conv => whnf) | (refine And.intro (by first | omega | assumption | rfl | exact zin_and | exact ⟨zin_and, by omega⟩ | exact ⟨by omega, zin_and⟩ | exact Nat.le_of_ble_eq_true rfl | exact ⟨Nat.le_of_ble_eq_true rfl, rfl⟩ | exact ⟨Nat.le_of_ble_eq_true rfl, by assumption⟩ | decide) ?_; conv => whnf) | (refine And.intro (fun h => ?_) (fun h => ?_) <;> conv => whnf) | (intro h; conv => whnf))
      exact hQ
    · intro t ht hi x9 x10 x11 x12 x13
      have h2t : 2 ^ t < 2 ^ 31 := Nat.pow_lt_pow_right (by decide) (by omega)
      have hot : o ||| 2 ^ t < 2 ^ 31 := Nat.or_lt_two_pow ho31 h2t
      have hit : i ||| 2 ^ t < 2 ^ 31 := Nat.or_lt_two_pow hi31 h2t
      have c1 := mchild_rng (i := i) (o := o ||| 2 ^ t) hok
      have c2 := mchild_rng (i := i ||| 2 ^ t) (o := o) hok
      have c3 := zmx_rng c1 c2
      have c4 := zmn_rng c1 c2
      obtain ⟨r1, r2, r3⟩ := mtr_rng (fr := fr) (i := i) (o := o) hok t
      have e0 : mtr (g a) n fr i o (t + 1) = if fr.testBit t = true ∧ ((mtr (g a) n fr i o t).1 = -5 ∨ zmx (mchild (g a) n i (o ||| 2 ^ t)) (mchild (g a) n (i ||| 2 ^ t) o) < (mtr (g a) n fr i o t).2.1 ∨ (zmx (mchild (g a) n i (o ||| 2 ^ t)) (mchild (g a) n (i ||| 2 ^ t) o) = (mtr (g a) n fr i o t).2.1 ∧ zmn (mchild (g a) n i (o ||| 2 ^ t)) (mchild (g a) n (i ||| 2 ^ t) o) < (mtr (g a) n fr i o t).2.2))
      then ((t : Int), zmx (mchild (g a) n i (o ||| 2 ^ t)) (mchild (g a) n (i ||| 2 ^ t) o), zmn (mchild (g a) n i (o ||| 2 ^ t)) (mchild (g a) n (i ||| 2 ^ t) o)) else mtr (g a) n fr i o t := rfl
      rw [e0] at hi
      clear e0
      generalize mtr (g a) n fr i o t = p at *
      obtain ⟨f, le, se⟩ := p
      dsimp only at hi r1 r2 r3 ⊢
      (refine zW.go (zC_om _) (fun K hK => ?_); conv => whnf)
      (refine And.intro (by first | omega | assumption | rfl | exact zin_and | exact ⟨zin_and, by omega⟩ | exact ⟨by omega, zin_and⟩ | exact Nat.le_of_ble_eq_true rfl | exact ⟨Nat.le_of_ble_eq_true rfl, rfl⟩ | exact ⟨Nat.le_of_ble_eq_true rfl, by assumption⟩ | decide) ?_; conv => whnf)
      (refine And.intro (by first | omega | assumption | rfl | exact zin_and | exact ⟨zin_and, by omega⟩ | exact ⟨by omega, zin_and⟩ | exact Nat.le_of_ble_eq_true rfl | exact ⟨Nat.le_of_ble_eq_true rfl, rfl⟩ | exact ⟨Nat.le_of_ble_eq_true rfl, by assumption⟩ | decide) ?_; conv => whnf)
      (refine And.intro (fun h => by omega) (fun h => ?_); conv => whnf)
      rw [zbit (by omega) (by omega)]
      by_cases hbit : fr.testBit t = true
      · rw [if_pos hbit]
        (refine And.intro (by first | omega | assumption | rfl | exact zin_and | exact ⟨zin_and, by omega⟩ | exact ⟨by omega, zin_and⟩ | exact Nat.le_of_ble_eq_true rfl | exact ⟨Nat.le_of_ble_eq_true rfl, rfl⟩ | exact ⟨Nat.le_of_ble_eq_true rfl, by assumption⟩ | decide) ?_; conv => whnf)
        (refine And.intro (fun h => by omega) (fun h => ?_); conv => whnf)
        (refine And.intro (by first | omega | assumption | rfl | exact zin_and | exact ⟨zin_and, by omega⟩ | exact ⟨by omega, zin_and⟩ | exact Nat.le_of_ble_eq_true rfl | exact ⟨Nat.le_of_ble_eq_true rfl, rfl⟩ | exact ⟨Nat.le_of_ble_eq_true rfl, by assumption⟩ | decide) ?_; conv => whnf)
        rw [zone_shl (by omega), zor_nat ho31 h2t]
        (refine m_child ha hok hso hi31 hot ?_; conv => whnf)
        (refine And.intro (by first | omega | assumption | rfl | exact zin_and | exact ⟨zin_and, by omega⟩ | exact ⟨by omega, zin_and⟩ | exact Nat.le_of_ble_eq_true rfl | exact ⟨Nat.le_of_ble_eq_true rfl, rfl⟩ | exact ⟨Nat.le_of_ble_eq_true rfl, by assumption⟩ | decide) ?_; conv => whnf)
        rw [zone_shl (by omega), zor_nat hi31 h2t]
        (refine m_child ha hok hso hit ho31 ?_; conv => whnf)
        generalize mchild (g a) n i (o ||| 2 ^ t) = u at *
        generalize mchild (g a) n (i ||| 2 ^ t) o = v at *
        have j74 : ∀ c : Bool, decide (f = -5 ∨ zmx u v < le ∨ (zmx u v = le ∧ zmn u v < se)) = c → zW zX6_byTrials (zC (d + 4)) Q 74 [zR 64, zR a, zI i, zI o, zI fr, zI f, zI le, zI se, zI t, zI u, zI v, zI (zmx u v), zI (zmn u v), x13] [zI (zb c)] g := by
          intro c hc
          cases c with
          | true =>
            rw [zb_t]
            have hi := hi (zI u) (zI v) (zI (zmx u v)) (zI (zmn u v)) (zI 1)
            rw [if_pos ⟨hbit, of_decide_eq_true hc⟩] at hi
            (refine zW.go (zC_om _) (fun K hK => ?_); conv => whnf)
            (refine And.intro (by first | omega | assumption | rfl | exact zin_and | exact ⟨zin_and, by omega⟩ | exact ⟨by omega, zin_and⟩ | exact Nat.le_of_ble_eq_true rfl | exact ⟨Nat.le_of_ble_eq_true rfl, rfl⟩ | exact ⟨Nat.le_of_ble_eq_true rfl, by assumption⟩ | decide) ?_; conv => whnf)
            (refine And.intro (fun h => by omega) (fun h => ?_); conv => whnf)
            (refine hK _ _ _ _ (zW.go (zC_om _) (fun K hK => ?_)); conv => whnf)
            (refine And.intro (by first | omega | assumption | rfl | exact zin_and | exact ⟨zin_and, by omega⟩ | exact ⟨by omega, zin_and⟩ | exact Nat.le_of_ble_eq_true rfl | exact ⟨Nat.le_of_ble_eq_true rfl, rfl⟩ | exact ⟨Nat.le_of_ble_eq_true rfl, by assumption⟩ | decide) ?_; conv => whnf)
            (refine And.intro (fun h => by omega) (fun h => ?_); conv => whnf)
            (refine hK _ _ _ _ (zW.go (zC_om _) (fun K hK => ?_)); conv => whnf)
            (refine And.intro (by first | omega | assumption | rfl | exact zin_and | exact ⟨zin_and, by omega⟩ | exact ⟨by omega, zin_and⟩ | exact Nat.le_of_ble_eq_true rfl | exact ⟨Nat.le_of_ble_eq_true rfl, rfl⟩ | exact ⟨Nat.le_of_ble_eq_true rfl, by assumption⟩ | decide) ?_; conv => whnf)
            (refine And.intro (fun h => by omega) (fun h => ?_); conv => whnf)
            (refine hK _ _ _ _ (zW.go (zC_om _) (fun K hK => ?_)); conv => whnf)
            exact hK _ _ _ _ hi
          | false =>
            rw [zb_f]
            have hi := hi (zI u) (zI v) (zI (zmx u v)) (zI (zmn u v)) (zI 0)
            rw [if_neg (fun q => of_decide_eq_false hc q.2)] at hi
            (refine zW.go (zC_om _) (fun K hK => ?_); conv => whnf)
            (refine And.intro (by first | omega | assumption | rfl | exact zin_and | exact ⟨zin_and, by omega⟩ | exact ⟨by omega, zin_and⟩ | exact Nat.le_of_ble_eq_true rfl | exact ⟨Nat.le_of_ble_eq_true rfl, rfl⟩ | exact ⟨Nat.le_of_ble_eq_true rfl, by assumption⟩ | decide) ?_; conv => whnf)
            (refine And.intro (fun h => ?_) (fun h => by omega); conv => whnf)
            (refine hK _ _ _ _ (zW.go (zC_om _) (fun K hK => ?_)); conv => whnf)
            (refine And.intro (by first | omega | assumption | rfl | exact zin_and | exact ⟨zin_and, by omega⟩ | exact ⟨by omega, zin_and⟩ | exact Nat.le_of_ble_eq_true rfl | exact ⟨Nat.le_of_ble_eq_true rfl, rfl⟩ | exact ⟨Nat.le_of_ble_eq_true rfl, by assumption⟩ | decide) ?_; conv => whnf)
            (refine And.intro (fun h => ?_) (fun h => by omega); conv => whnf)
            (refine hK _ _ _ _ (zW.go (zC_om _) (fun K hK => ?_)); conv => whnf)
            (refine And.intro (by first | omega | assumption | rfl | exact zin_and | exact ⟨zin_and, by omega⟩ | exact ⟨by omega, zin_and⟩ | exact Nat.le_of_ble_eq_true rfl | exact ⟨Nat.le_of_ble_eq_true rfl, rfl⟩ | exact ⟨Nat.le_of_ble_eq_true rfl, by assumption⟩ | decide) ?_; conv => whnf)
            (refine And.intro (fun h => ?_) (fun h => by omega); conv => whnf)
            (refine hK _ _ _ _ (zW.go (zC_om _) (fun K hK => ?_)); conv => whnf)
            exact hK _ _ _ _ hi
        have j58 : zW zX6_byTrials (zC (d + 4)) Q 58 [zR 64, zR a, zI i, zI o, zI fr, zI f, zI le, zI se, zI t, zI u, zI v, zI (zmx u v), x12, x13] [zI (zmn u v)] g := by
          (refine zW.go (zC_om _) (fun K hK => ?_); conv => whnf)
          (refine And.intro (by first | omega | assumption | rfl | exact zin_and | exact ⟨zin_and, by omega⟩ | exact ⟨by omega, zin_and⟩ | exact Nat.le_of_ble_eq_true rfl | exact ⟨Nat.le_of_ble_eq_true rfl, rfl⟩ | exact ⟨Nat.le_of_ble_eq_true rfl, by assumption⟩ | decide) ?_; conv => whnf)
          by_cases c5 : f = -5
          · (refine And.intro (fun h => ?_) (fun h => by omega); conv => whnf)
            (refine hK _ _ _ _ ?_)
            (refine zW.upto (zC_om _) 2 (fun K hK => ?_); conv => whnf)
            exact hK _ _ _ _ (j74 true (by simp [c5]))
          · (refine And.intro (fun h => by omega) (fun h => ?_); conv => whnf)
            (refine And.intro (by first | omega | assumption | rfl | exact zin_and | exact ⟨zin_and, by omega⟩ | exact ⟨by omega, zin_and⟩ | exact Nat.le_of_ble_eq_true rfl | exact ⟨Nat.le_of_ble_eq_true rfl, rfl⟩ | exact ⟨Nat.le_of_ble_eq_true rfl, by assumption⟩ | decide) ?_; conv => whnf)
            by_cases c6 : zmx u v < le
            · (refine And.intro (fun h => ?_) (fun h => by omega); conv => whnf)
              (refine hK _ _ _ _ ?_)
              (refine zW.upto (zC_om _) 2 (fun K hK => ?_); conv => whnf)
              exact hK _ _ _ _ (j74 true (by simp [c6]))
            · (refine And.intro (fun h => by omega) (fun h => ?_); conv => whnf)
              (refine And.intro (by first | omega | assumption | rfl | exact zin_and | exact ⟨zin_and, by omega⟩ | exact ⟨by omega, zin_and⟩ | exact Nat.le_of_ble_eq_true rfl | exact ⟨Nat.le_of_ble_eq_true rfl, rfl⟩ | exact ⟨Nat.le_of_ble_eq_true rfl, by assumption⟩ | decide) ?_; conv => whnf)
              by_cases c7 : zmx u v = le
              · (refine And.intro (fun h => by omega) (fun h => ?_); conv => whnf)
                (refine And.intro (by first | omega | assumption | rfl | exact zin_and | exact ⟨zin_and, by omega⟩ | exact ⟨by omega, zin_and⟩ | exact Nat.le_of_ble_eq_true rfl | exact ⟨Nat.le_of_ble_eq_true rfl, rfl⟩ | exact ⟨Nat.le_of_ble_eq_true rfl, by assumption⟩ | decide) ?_; conv => whnf)
                by_cases c8 : zmn u v < se
                · (refine And.intro (fun h => by omega) (fun h => ?_); conv => whnf)
                  exact hK _ _ _ _ (j74 true (by simp [c7, c8]))
                · (refine And.intro (fun h => ?_) (fun h => by omega); conv => whnf)
                  (refine hK _ _ _ _ ?_)
                  (refine zW.upto (zC_om _) 1 (fun K hK => ?_); conv => whnf)
                  exact hK _ _ _ _ (j74 false (by simp [c5, c6, c8]))
              · (refine And.intro (fun h => ?_) (fun h => by omega); conv => whnf)
                (refine hK _ _ _ _ ?_)
                (refine zW.upto (zC_om _) 1 (fun K hK => ?_); conv => whnf)
                exact hK _ _ _ _ (j74 false (by simp [c5, c6, c7]))
        have j51 : zW zX6_byTrials (zC (d + 4)) Q 51 [zR 64, zR a, zI i, zI o, zI fr, zI f, zI le, zI se, zI t, zI u, zI v, x11, x12, x13] [zI (zmx u v)] g := by
          (refine zW.go (zC_om _) (fun K hK => ?_); conv => whnf)
          (refine And.intro (by first | omega | assumption | rfl | exact zin_and | exact ⟨zin_and, by omega⟩ | exact ⟨by omega, zin_and⟩ | exact Nat.le_of_ble_eq_true rfl | exact ⟨Nat.le_of_ble_eq_true rfl, rfl⟩ | exact ⟨Nat.le_of_ble_eq_true rfl, by assumption⟩ | decide) ?_; conv => whnf)
          by_cases hc : v < u
          · have e1 : zmn u v = v := by unfold zmn; rw [if_pos hc]
            rw [e1] at j58
            (refine And.intro (fun h => by omega) (fun h => ?_); conv => whnf)
            exact hK _ _ _ _ j58
          · have e1 : zmn u v = u := by unfold zmn; rw [if_neg hc]
            rw [e1] at j58
            (refine And.intro (fun h => ?_) (fun h => by omega); conv => whnf)
            (refine hK _ _ _ _ ?_)
            (refine zW.upto (zC_om _) 1 (fun K hK => ?_); conv => whnf)
            exact hK _ _ _ _ j58
        (refine And.intro (by first | omega | assumption | rfl | exact zin_and | exact ⟨zin_and, by omega⟩ | exact ⟨by omega, zin_and⟩ | exact Nat.le_of_ble_eq_true rfl | exact ⟨Nat.le_of_ble_eq_true rfl, rfl⟩ | exact ⟨Nat.le_of_ble_eq_true rfl, by assumption⟩ | decide) ?_; conv => whnf)
        by_cases hc : v < u
        · have e1 : zmx u v = u := by unfold zmx; rw [if_pos hc]
          rw [e1] at j51
          (refine And.intro (fun h => by omega) (fun h => ?_); conv => whnf)
          exact hK _ _ _ _ j51
        · have e1 : zmx u v = v := by unfold zmx; rw [if_neg hc]
          rw [e1] at j51
          (refine And.intro (fun h => ?_) (fun h => by omega); conv => whnf)
          (refine hK _ _ _ _ ?_)
          (refine zW.upto (zC_om _) 1 (fun K hK => ?_); conv => whnf)
          exact hK _ _ _ _ j51
      · have hi := hi x9 x10 x11 x12 x13
        rw [if_neg (fun q => hbit q.1)] at hi
        rw [if_neg hbit]
        (refine And.intro (by first | omega | assumption | rfl | exact zin_and | exact ⟨zin_and, by omega⟩ | exact ⟨by omega, zin_and⟩ | exact Nat.le_of_ble_eq_true rfl | exact ⟨Nat.le_of_ble_eq_true rfl, rfl⟩ | exact ⟨Nat.le_of_ble_eq_true rfl, by assumption⟩ | decide) ?_; conv => whnf)
        (refine And.intro (fun h => ?_) (fun h => by omega); conv => whnf)
        (refine hK _ _ _ _ (zW.go (zC_om _) (fun K hK => ?_)); conv => whnf)
        exact hK _ _ _ _ hi
  (refine zW.upto (zC_om _) 13 (fun K hK => ?_); conv => whnf)
  (refine And.intro (by first | omega | assumption | rfl | exact zin_and | exact ⟨zin_and, by omega⟩ | exact ⟨by omega, zin_and⟩ | exact Nat.le_of_ble_eq_true rfl | exact ⟨Nat.le_of_ble_eq_true rfl, rfl⟩ | exact ⟨Nat.le_of_ble_eq_true rfl, by assumption⟩ | decide) ?_; conv => whnf)
  (refine m_free ha hok hi31 ho31 ?_; conv => whnf)
  rw [hfr]
  exact hK _ _ _ _ (loop _ _ _ _ _)
/-- the thing on which a node is branched -/
def mbranch (s : zS) (n i o : Nat) (c : Int) : Int := if c = 0 then mparts s n i o else if c = 1 then mhv s (mfree s n i o) n else mtrials s n i o
theorem m_branch {d a n i o : Nat} {c : Int} {g : zM} {Q : zP} (ha : zkd a = (1, 2845)) (hok : mok (g a) n) (hso : mso g (g a) n) (hi : i < 2 ^ n) (ho31 : o < 2 ^ 31) (hc : 0 ≤ c ∧ c ≤ 2) (hQ : Q (some (zI (mbranch (g a) n i o c))) g) : zC (d + 6) 109 [zR 64, zR a, zI i, zI o, zI c] g Q := by
  have hn12 := hok.2.1
  have h2n := zp12 hn12
  have hi31 : i < 2 ^ 31 := by omega
  have hfl : mfree (g a) n i o < 2 ^ n := mfr_lt (g a) n i o n
  refine zC.go zm_X6_branch ⟨rfl, rfl⟩ rfl ?_
  unfold mbranch at hQ
  (refine zW.go (zC_om _) (fun K hK => ?_); conv => whnf)
  (refine And.intro (by first | omega | assumption | rfl | exact zin_and | exact ⟨zin_and, by omega⟩ | exact ⟨by omega, zin_and⟩ | exact Nat.le_of_ble_eq_true rfl | exact ⟨Nat.le_of_ble_eq_true rfl, rfl⟩ | exact ⟨Nat.le_of_ble_eq_true rfl, by assumption⟩ | decide) ?_; conv => whnf)
  by_cases h0 : c = 0
  · rw [if_pos h0] at hQ
    (refine And.intro (fun h => by omega) (fun h => ?_); conv => whnf)
    (refine And.intro (by first | omega | assumption | rfl | exact zin_and | exact ⟨zin_and, by omega⟩ | exact ⟨by omega, zin_and⟩ | exact Nat.le_of_ble_eq_true rfl | exact ⟨Nat.le_of_ble_eq_true rfl, rfl⟩ | exact ⟨Nat.le_of_ble_eq_true rfl, by assumption⟩ | decide) ?_; conv => whnf)
    (refine m_byParts ha hok hso hi ho31 ?_; conv => whnf)
    (repeat' first | (refine hK _ _ _ _ (zW.go (zC_om _) (fun K hK => ?_)); conv => whnf) | (refine And.intro (by first | omega | assumption | rfl | exact zin_and | exact ⟨zin_and, by omega⟩ | exact ⟨by omega, zin_and⟩ | exact Nat.le_of_ble_eq_true rfl | exact ⟨Nat.le_of_ble_eq_true rfl, rfl⟩ | exact ⟨Nat.le_of_ble_eq_true rfl, by assumption⟩ | decide) ?_; conv => whnf) | (refine And.intro (fun h => ?_) (fun h => ?_) <;> conv => whnf) | (intro h; conv => whnf))
    exact hQ
  · rw [if_neg h0] at hQ
    (refine And.intro (fun h => ?_) (fun h => by omega); conv => whnf)
    (refine hK _ _ _ _ (zW.go (zC_om _) (fun K hK => ?_)); conv => whnf)
    (refine And.intro (by first | omega | assumption | rfl | exact zin_and | exact ⟨zin_and, by omega⟩ | exact ⟨by omega, zin_and⟩ | exact Nat.le_of_ble_eq_true rfl | exact ⟨Nat.le_of_ble_eq_true rfl, rfl⟩ | exact ⟨Nat.le_of_ble_eq_true rfl, by assumption⟩ | decide) ?_; conv => whnf)
    by_cases h1 : c = 1
    · rw [if_pos h1] at hQ
      (refine And.intro (fun h => by omega) (fun h => ?_); conv => whnf)
      (refine And.intro (by first | omega | assumption | rfl | exact zin_and | exact ⟨zin_and, by omega⟩ | exact ⟨by omega, zin_and⟩ | exact Nat.le_of_ble_eq_true rfl | exact ⟨Nat.le_of_ble_eq_true rfl, rfl⟩ | exact ⟨Nat.le_of_ble_eq_true rfl, by assumption⟩ | decide) ?_; conv => whnf)
      (refine m_free ha hok hi31 ho31 ?_; conv => whnf)
      (refine And.intro (by first | omega | assumption | rfl | exact zin_and | exact ⟨zin_and, by omega⟩ | exact ⟨by omega, zin_and⟩ | exact Nat.le_of_ble_eq_true rfl | exact ⟨Nat.le_of_ble_eq_true rfl, rfl⟩ | exact ⟨Nat.le_of_ble_eq_true rfl, by assumption⟩ | decide) ?_; conv => whnf)
      (refine m_heaviest ha hok (by omega) ?_; conv => whnf)
      (repeat' first | (refine hK _ _ _ _ (zW.go (zC_om _) (fun K hK => ?_)); conv => whnf) | (refine And.intro (by first | omega | assumption | rfl | exact zin_and | exact ⟨zin_and, by omega⟩ | exact ⟨by omega, zin_and⟩ | exact Nat.le_of_ble_eq_true rfl | exact ⟨Nat.le_of_ble_eq_true rfl, rfl⟩ | exact ⟨Nat.le_of_ble_eq_true rfl, by assumption⟩ | decide) ?_; conv => whnf) | (refine And.intro (fun h => ?_) (fun h => ?_) <;> conv => whnf) | (intro h; conv => whnf))
      exact hQ
    · rw [if_neg h1] at hQ
      (refine And.intro (fun h => ?_) (fun h => by omega); conv => whnf)
      (refine hK _ _ _ _ (zW.go (zC_om _) (fun K hK => ?_)); conv => whnf)
      (refine And.intro (by first | omega | assumption | rfl | exact zin_and | exact ⟨zin_and, by omega⟩ | exact ⟨by omega, zin_and⟩ | exact Nat.le_of_ble_eq_true rfl | exact ⟨Nat.le_of_ble_eq_true rfl, rfl⟩ | exact ⟨Nat.le_of_ble_eq_true rfl, by assumption⟩ | decide) ?_; conv => whnf)
      (refine m_byTrials ha hok hso hi31 ho31 ?_; conv => whnf)
      (repeat' first | (refine hK _ _ _ _ (zW.go (zC_om _) (fun K hK => ?_)); conv => whnf) | (refine And.intro (by first | omega | assumption | rfl | exact zin_and | exact ⟨zin_and, by omega⟩ | exact ⟨by omega, zin_and⟩ | exact Nat.le_of_ble_eq_true rfl | exact ⟨Nat.le_of_ble_eq_true rfl, rfl⟩ | exact ⟨Nat.le_of_ble_eq_true rfl, by assumption⟩ | decide) ?_; conv => whnf) | (refine And.intro (fun h => ?_) (fun h => ?_) <;> conv => whnf) | (intro h; conv => whnf))
      exact hQ
end
section
/-! what is said of things and room depends on those numbers alone -/
def magr (s s' : zS) : Prop := s 0 = s' 0 ∧ s 1 = s' 1 ∧ ∀ j : Int, 9 ≤ j → j < 45 → s j = s' j
theorem magr.rfl {s : zS} : magr s s := ⟨Eq.refl _, Eq.refl _, fun _ _ _ => Eq.refl _⟩
theorem magr.symm {s s' : zS} (h : magr s s') : magr s' s := ⟨h.1.symm, h.2.1.symm, fun j a b => (h.2.2 j a b).symm⟩
theorem magr.trans {s s' s'' : zS} (h : magr s s') (h' : magr s' s'') : magr s s'' := ⟨h.1.trans h'.1, h.2.1.trans h'.2.1, fun j a b => (h.2.2 j a b).trans (h'.2.2 j a b)⟩
theorem magr.ok {s s' : zS} {n : Nat} (h : magr s s') (hok : mok s n) : mok s' n := by
  obtain ⟨h0, h1, h2, h3⟩ := hok
  refine ⟨by rw [← h.1]; exact h0, h1, by rw [← h.2.1]; exact h2, fun t ht => ?_⟩
  have h4 := h3 t ht
  rw [h.2.2 (9 + t) (by omega) (by omega), h.2.2 (21 + t) (by omega) (by omega), h.2.2 (33 + t) (by omega) (by omega)] at h4
  exact h4
theorem bsum_congr {s s' : zS} {f : Int} {set : Nat} : ∀ n : Nat, (∀ t : Nat, t < n → s (f + t) = s' (f + t)) → bsum s f set n = bsum s' f set n
  | 0, _ => rfl
  | n + 1, h => by
    show bsum s f set n + _ = bsum s' f set n + _
    rw [bsum_congr n (fun t ht => h t (by omega)), h n (by omega)]
section AG
variable {s s' : zS} {n : Nat}
theorem ag_v (h : magr s s') (hn : n ≤ 12) (set : Nat) : bsum s 21 set n = bsum s' 21 set n := bsum_congr n (fun t ht => h.2.2 _ (by omega) (by omega))
theorem ag_w (h : magr s s') (hn : n ≤ 12) (set : Nat) : bsum s 9 set n = bsum s' 9 set n := bsum_congr n (fun t ht => h.2.2 _ (by omega) (by omega))
theorem ag_b (h : magr s s') {t : Nat} (ht : t < 12) : mb s t = mb s' t := by unfold mb; rw [h.2.2 (33 + t) (by omega) (by omega)]
theorem ag_poss (h : magr s s') (hn : n ≤ 12) (set : Nat) : mposs s n set = mposs s' n set := by
  have go : ∀ t : Nat, t ≤ 12 → mpb s n set t = mpb s' n set t := by
    intro t
    induction t with
    | zero => intro _; show decide _ = decide _; rw [ag_v h hn, h.2.1]
    | succ t ih =>
      intro ht
      show (mpb s n set t && (!set.testBit t || decide (mb s t &&& set = 0))) = (mpb s' n set t && (!set.testBit t || decide (mb s' t &&& set = 0)))
      rw [ih (by omega), ag_b h (show t < 12 by omega)]
  exact go n hn
theorem ag_fc (h : magr s s') (hn : n ≤ 12) (i o : Nat) {t : Nat} (ht : t < 12) : mfc s n i o t = mfc s' n i o t := by
  unfold mfc
  rw [ag_b h ht, ag_v h hn, h.2.1, h.2.2 (21 + t) (by omega) (by omega)]
theorem ag_free (h : magr s s') (hn : n ≤ 12) (i o : Nat) : mfree s n i o = mfree s' n i o := by
  have go : ∀ t : Nat, t ≤ 12 → mfr s n i o t = mfr s' n i o t := by
    intro t
    induction t with
    | zero => intro _; rfl
    | succ t ih =>
      intro ht
      show mfr s n i o t ||| _ = mfr s' n i o t ||| _
      rw [ih (by omega), ag_fc h hn i o (show t < 12 by omega)]
  exact go n hn
theorem ag_ah (h : magr s s') {k t : Nat} (hk : k < 12) (ht : t < 12) : mah s k t = mah s' k t := by
  unfold mah
  rw [h.2.2 (9 + t) (by omega) (by omega), h.2.2 (21 + t) (by omega) (by omega), h.2.2 (9 + k) (by omega) (by omega), h.2.2 (21 + k) (by omega) (by omega)]
theorem ag_pl (h : magr s s') (hn : n ≤ 12) {t : Nat} (ht : t < n) : mpl s n t = mpl s' n t := zcnt_congr n _ _ (fun k hk => ag_ah h (by omega) (by omega))
theorem zfind_congr : ∀ (n : Nat) (p q : Nat → Bool), (∀ k, k < n → p k = q k) → zfind n p = zfind n q
  | 0, _, _, _ => rfl
  | n + 1, p, q, h => by
    show (if p n then n else zfind n p) = (if q n then n else zfind n q)
    rw [h n (by omega), zfind_congr n p q (fun k hk => h k (by omega))]
theorem ag_or (h : magr s s') (hn : n ≤ 12) (k : Nat) : mor s n k = mor s' n k := zfind_congr n _ _ (fun t ht => by rw [ag_pl h hn ht])
theorem ag_left (h : magr s s') (hn : n ≤ 12) (i : Nat) : mleft s n i = mleft s' n i := by unfold mleft; rw [h.2.1, ag_v h hn]
theorem ag_spl (h : magr s s') (hn : n ≤ 12) (hp : mpos s n) (fr : Nat) : ∀ (m k : Nat) (left : Int), k + m = n → mspl s n fr m k left = mspl s' n fr m k left
  | 0, _, _, _ => rfl
  | m + 1, k, left, hk => by
    have hmo := (mor_spec (s := s) hp (show k < n by omega)).1
    rw [mspl, mspl, ← ag_or h hn k, ← h.2.2 (21 + (mor s n k : Int)) (by omega) (by omega), ag_spl h hn hp fr m (k + 1) _ (by omega), ag_spl h hn hp fr m (k + 1) _ (by omega)]
theorem ag_bd (h : magr s s') (hn : n ≤ 12) (hp : mpos s n) (fr : Nat) : ∀ (m k : Nat) (left sum : Int), k + m = n → mbd s n fr m k left sum = mbd s' n fr m k left sum
  | 0, _, _, _, _ => rfl
  | m + 1, k, left, sum, hk => by
    have hmo := (mor_spec (s := s) hp (show k < n by omega)).1
    rw [mbd, mbd, ← ag_or h hn k, ← h.2.2 (21 + (mor s n k : Int)) (by omega) (by omega), ← h.2.2 (9 + (mor s n k : Int)) (by omega) (by omega), ag_bd h hn hp fr m (k + 1) _ _ (by omega), ag_bd h hn hp fr m (k + 1) _ _ (by omega)]
theorem ag_hl (h : magr s s') (hn : n ≤ 12) (hp : mpos s n) (fr : Nat) : ∀ (m k set : Nat) (left : Int), k + m = n → mhl s n fr m k set left = mhl s' n fr m k set left
  | 0, _, _, _, _ => rfl
  | m + 1, k, set, left, hk => by
    have hmo := (mor_spec (s := s) hp (show k < n by omega)).1
    have hc : mhc s fr (mor s n k) set left = mhc s' fr (mor s n k) set left := by
      unfold mhc
      rw [h.2.2 (21 + (mor s n k : Int)) (by omega) (by omega), ag_b h (show mor s n k < 12 by omega)]
    rw [mhl, mhl, ← ag_or h hn k, ← h.2.2 (21 + (mor s n k : Int)) (by omega) (by omega), hc, ag_hl h hn hp fr m (k + 1) _ _ (by omega), ag_hl h hn hp fr m (k + 1) _ _ (by omega)]
theorem ag_fs (h : magr s s') (hn : n ≤ 12) (set : Nat) : ∀ (m k : Nat), mfs s n set m k = mfs s' n set m k
  | 0, _ => rfl
  | m + 1, k => by rw [mfs, mfs, ← ag_or h hn k, ag_fs h hn set m (k + 1)]
theorem ag_bound (h : magr s s') (hn : n ≤ 12) (hp : mpos s n) (i o : Nat) : mbound s n i o = mbound s' n i o := by
  unfold mbound
  rw [ag_free h hn, ag_left h hn, ag_w h hn, ag_bd h hn hp _ n 0 _ _ (by omega)]
theorem ag_heel (h : magr s s') (hn : n ≤ 12) (hp : mpos s n) (i o : Nat) : mheel s n i o = mheel s' n i o := by
  unfold mheel
  rw [ag_free h hn, ag_left h hn, ag_hl h hn hp _ n 0 _ _ (by omega)]
theorem ag_child (h : magr s s') (hn : n ≤ 12) (hp : mpos s n) (i o : Nat) : mchild s n i o = mchild s' n i o := by
  unfold mchild
  rw [ag_poss h hn, ag_bound h hn hp]
theorem ag_hv (h : magr s s') (fr : Nat) : ∀ t : Nat, t ≤ 12 → mhv s fr t = mhv s' fr t
  | 0, _ => rfl
  | t + 1, ht => by
    have ih := ag_hv h fr t (by omega)
    have hr := mhv_rng s fr t
    rw [mhv, mhv, ← ih, ← h.2.2 (21 + (t : Int)) (by omega) (by omega)]
    rcases hr with hr | hr
    · simp [hr]
    · rw [← h.2.2 (21 + mhv s fr t) (by omega) (by omega)]
theorem ag_tr (h : magr s s') (hn : n ≤ 12) (hp : mpos s n) (fr i o : Nat) : ∀ t : Nat, mtr s n fr i o t = mtr s' n fr i o t
  | 0 => rfl
  | t + 1 => by rw [mtr, mtr, ← ag_tr h hn hp fr i o t, ← ag_child h hn hp, ← ag_child h hn hp]
theorem ag_parts (h : magr s s') (hn : n ≤ 12) (hp : mpos s n) (i o : Nat) : mparts s n i o = mparts s' n i o := by
  have e1 : msplit s n i o = msplit s' n i o := by
    unfold msplit
    rw [ag_free h hn, ag_left h hn, ag_spl h hn hp _ n 0 _ (by omega)]
  have e2 : ∀ set, mfirst s n set = mfirst s' n set := fun set => ag_fs h hn set n 0
  unfold mparts
  rw [e1, e2, e2, ag_free h hn, ag_heel h hn hp]
theorem ag_branch (h : magr s s') (hn : n ≤ 12) (hp : mpos s n) (i o : Nat) (c : Int) : mbranch s n i o c = mbranch s' n i o c := by
  unfold mbranch mtrials
  rw [ag_parts h hn hp, ag_free h hn, ag_hv h _ n hn, ag_tr h hn hp]
theorem ag_so {g : zM} (h : magr s s') (hn : n ≤ 12) (hs : mso g s n) : mso g s' n := fun k hk => by rw [← ag_or h hn k]; exact hs k hk
end AG
end
section
/-! the reference: nodes -/
def ru (s : zS) (i v : Int) : zS := fun j => if j = i then v else s j
theorem ru_s {s : zS} {i v : Int} : ru s i v i = v := by simp [ru]
theorem ru_n {s : zS} {i v j : Int} (h : j ≠ i) : ru s i v j = s j := by simp [ru, h]
theorem zup_ru {g : zM} {k : Nat} {i v : Int} : (zup g k i v) k = ru (g k) i v := zup_row
theorem magr.ru {s s' : zS} {i v : Int} (h : magr s s') (hi : 45 ≤ i ∨ (2 ≤ i ∧ i < 9)) : magr s (ru s' i v) := by
  refine ⟨?_, ?_, fun j h1 h2 => ?_⟩
  · rw [ru_n (by omega)]; exact h.1
  · rw [ru_n (by omega)]; exact h.2.1
  · rw [ru_n (by omega)]; exact h.2.2 j h1 h2
theorem magr.up {s : zS} {g : zM} {k : Nat} {i v : Int} (h : magr s (g k)) (hi : 45 ≤ i ∨ (2 ≤ i ∧ i < 9)) : magr s ((zup g k i v) k) := by
  rw [zup_ru]
  exact h.ru hi
theorem mso.up {g : zM} {s : zS} {n k : Nat} {i v : Int} (h : mso g s n) (hk : k ≠ 71) : mso (zup g k i v) s n := fun j hj => by
  rw [zup_k (Ne.symm hk)]
  exact h j hj
/-- how many of the first k nodes are so -/
def mcn (s : zS) (how : Int) (k : Nat) : Nat := zcnt k (fun j => decide (nd s j 4 = how))
theorem m_many {d a m : Nat} {how : Int} {g : zM} {Q : zP} (ha : zkd a = (1, 2845)) (hm : g a 5 = m) (hm4 : m ≤ 400) (hh : zin how) (hr : ∀ k : Nat, k < m → zin (nd (g a) k 4)) (hQ : Q (some (zI (mcn (g a) how m : Nat))) g) : zC (d + 2) 111 [zR a, zI how] g Q := by
  have hk1 : (zkd a).1 = 1 := by rw [ha]
  have hk2 : (zkd a).2 = 2845 := by rw [ha]
  refine zC.go zm_X6_many ⟨rfl, rfl⟩ rfl ?_
  (refine zW.upto (zC_om _) 4 (fun K hK => ?_); conv => whnf)
  refine hK _ _ _ _ (zdown (P := fun k => zW zX6_many (zC (d + 1)) Q 4 [zR a, zI how, zI (mcn (g a) how k : Nat), zI k] [] g) m ?_ ?_)
  · (refine zW.go (zC_om _) (fun K hK => ?_); conv => whnf)
    (refine And.intro (by first | omega | assumption | rfl | exact zin_and | exact ⟨zin_and, by omega⟩ | exact ⟨by omega, zin_and⟩ | exact Nat.le_of_ble_eq_true rfl | exact ⟨Nat.le_of_ble_eq_true rfl, rfl⟩ | exact ⟨Nat.le_of_ble_eq_true rfl, by assumption⟩ | decide) ?_; conv => whnf)
    (refine And.intro (by first | omega | assumption | rfl | exact zin_and | exact ⟨zin_and, by omega⟩ | exact ⟨by omega, zin_and⟩ | exact Nat.le_of_ble_eq_true rfl | exact ⟨Nat.le_of_ble_eq_true rfl, rfl⟩ | exact ⟨Nat.le_of_ble_eq_true rfl, by assumption⟩ | decide) ?_; conv => whnf)
    (refine And.intro (fun h => ?_) (fun h => by omega); conv => whnf)
    (repeat' first | (refine hK _ _ _ _ (zW.go (zC_om _) (fun K hK => ?_)); conv => whnf) | (refine And.intro (by first | omega | assumption | rfl | exact zin_and | exact ⟨zin_and, by omega⟩ | exact ⟨by omega, zin_and⟩ | exact Nat.le_of_ble_eq_true rfl | exact ⟨Nat.le_of_ble_eq_true rfl, rfl⟩ | exact ⟨Nat.le_of_ble_eq_true rfl, by assumption⟩ | decide) ?_; conv => whnf) | (refine And.intro (fun h => ?_) (fun h => ?_) <;> conv => whnf) | (intro h; conv => whnf))
    exact hQ
  · intro k hk hi
    have hrk := hr k hk
    have hi : zW zX6_many (zC (d + 1)) Q 4 [zR a, zI how, zI (mcn (g a) how (k + 1) : Nat), zI (k + 1 : Nat)] [] g := hi
    have e0 : mcn (g a) how (k + 1) = mcn (g a) how k + (if decide (nd (g a) k 4 = how) = true then 1 else 0) := rfl
    rw [e0] at hi
    (refine zW.go (zC_om _) (fun K hK => ?_); conv => whnf)
    (refine And.intro (by first | omega | assumption | rfl | exact zin_and | exact ⟨zin_and, by omega⟩ | exact ⟨by omega, zin_and⟩ | exact Nat.le_of_ble_eq_true rfl | exact ⟨Nat.le_of_ble_eq_true rfl, rfl⟩ | exact ⟨Nat.le_of_ble_eq_true rfl, by assumption⟩ | decide) ?_; conv => whnf)
    (refine And.intro (by first | omega | assumption | rfl | exact zin_and | exact ⟨zin_and, by omega⟩ | exact ⟨by omega, zin_and⟩ | exact Nat.le_of_ble_eq_true rfl | exact ⟨Nat.le_of_ble_eq_true rfl, rfl⟩ | exact ⟨Nat.le_of_ble_eq_true rfl, by assumption⟩ | decide) ?_; conv => whnf)
    (refine And.intro (fun h => by omega) (fun h => ?_); conv => whnf)
    (refine And.intro (by first | omega | assumption | rfl | exact zin_and | exact ⟨zin_and, by omega⟩ | exact ⟨by omega, zin_and⟩ | exact Nat.le_of_ble_eq_true rfl | exact ⟨Nat.le_of_ble_eq_true rfl, rfl⟩ | exact ⟨Nat.le_of_ble_eq_true rfl, by assumption⟩ | decide) ?_; conv => whnf)
    (refine m_of ha (by omega) (by omega) ?_; conv => whnf)
    (refine And.intro (by first | omega | assumption | rfl | exact zin_and | exact ⟨zin_and, by omega⟩ | exact ⟨by omega, zin_and⟩ | exact Nat.le_of_ble_eq_true rfl | exact ⟨Nat.le_of_ble_eq_true rfl, rfl⟩ | exact ⟨Nat.le_of_ble_eq_true rfl, by assumption⟩ | decide) ?_; conv => whnf)
    by_cases hc : nd (g a) k 4 = how
    · rw [if_pos (decide_eq_true hc)] at hi
      (refine And.intro (fun h => by omega) (fun h => ?_); conv => whnf)
      (refine hK _ _ _ _ (zW.go (zC_om _) (fun K hK => ?_)); conv => whnf)
      exact hK _ _ _ _ hi
    · rw [if_neg (by simpa using hc), Nat.add_zero] at hi
      (refine And.intro (fun h => ?_) (fun h => by omega); conv => whnf)
      (refine hK _ _ _ _ (zW.go (zC_om _) (fun K hK => ?_)); conv => whnf)
      rw [Int.add_zero]
      exact hK _ _ _ _ hi
def mtk (s : zS) (order : Int) : Nat → Int
  | 0 => -5
  | k + 1 => if nd s k 4 = 0 ∧ (mtk s order k = -5 ∨ order = 0 ∨ (order = 1 ∧ nd s (mtk s order k) 3 < nd s k 3)) then (k : Int) else mtk s order k
theorem mtk_rng (s : zS) (order : Int) : ∀ k : Nat, mtk s order k = -5 ∨ (0 ≤ mtk s order k ∧ mtk s order k < k ∧ nd s (mtk s order k) 4 = 0)
  | 0 => Or.inl rfl
  | k + 1 => by
    have h := mtk_rng s order k
    rw [mtk]
    split
    · next hc => exact Or.inr ⟨by omega, by omega, hc.1⟩
    · rcases h with h | h
      · exact Or.inl h
      · exact Or.inr ⟨h.1, by omega, h.2.2⟩
theorem m_taken {d a m : Nat} {order : Int} {g : zM} {Q : zP} (ha : zkd a = (1, 2845)) (hm : g a 5 = m) (hm4 : m ≤ 400) (ho : zin order) (hr : ∀ k : Nat, k < m → zin (nd (g a) k 4) ∧ zin (nd (g a) k 3)) (hQ : Q (some (zI (mtk (g a) order m))) g) : zC (d + 2) 113 [zR a, zI order] g Q := by
  have hk1 : (zkd a).1 = 1 := by rw [ha]
  have hk2 : (zkd a).2 = 2845 := by rw [ha]
  refine zC.go zm_X6_taken ⟨rfl, rfl⟩ rfl ?_
  have loop : ∀ x : zV, zW zX6_taken (zC (d + 1)) Q 4 [zR a, zI order, zI (mtk (g a) order 0), zI 0, x] [] g := by
    refine (zdown (P := fun k => ∀ x : zV, zW zX6_taken (zC (d + 1)) Q 4 [zR a, zI order, zI (mtk (g a) order k), zI k, x] [] g) m ?_ ?_)
    · intro x
      (refine zW.go (zC_om _) (fun K hK => ?_); conv => whnf)
      (refine And.intro (by first | omega | assumption | rfl | exact zin_and | exact ⟨zin_and, by omega⟩ | exact ⟨by omega, zin_and⟩ | exact Nat.le_of_ble_eq_true rfl | exact ⟨Nat.le_of_ble_eq_true rfl, rfl⟩ | exact ⟨Nat.le_of_ble_eq_true rfl, by assumption⟩ | decide) ?_; conv => whnf)
      (refine And.intro (by first | omega | assumption | rfl | exact zin_and | exact ⟨zin_and, by omega⟩ | exact ⟨by omega, zin_and⟩ | exact Nat.le_of_ble_eq_true rfl | exact ⟨Nat.le_of_ble_eq_true rfl, rfl⟩ | exact ⟨Nat.le_of_ble_eq_true rfl, by assumption⟩ | decide) ?_; conv => whnf)
      (refine And.intro (fun h => ?_) (fun h => by omega); conv => whnf)
      (repeat' first | (refine hK _ _ _ _ (zW.go (zC_om _) (fun K hK => ?_)); conv => whnf) | (refine And.intro (by first | omega | assumption | rfl | exact zin_and | exact ⟨zin_and, by omega⟩ | exact ⟨by omega, zin_and⟩ | exact Nat.le_of_ble_eq_true rfl | exact ⟨Nat.le_of_ble_eq_true rfl, rfl⟩ | exact ⟨Nat.le_of_ble_eq_true rfl, by assumption⟩ | decide) ?_; conv => whnf) | (refine And.intro (fun h => ?_) (fun h => ?_) <;> conv => whnf) | (intro h; conv => whnf))
      exact hQ
    · intro k hk hi x
      obtain ⟨hr4, hr3⟩ := hr k hk
      have e0 : mtk (g a) order (k + 1) = if nd (g a) k 4 = 0 ∧ (mtk (g a) order k = -5 ∨ order = 0 ∨ (order = 1 ∧ nd (g a) (mtk (g a) order k) 3 < nd (g a) k 3)) then (k : Int) else mtk (g a) order k := rfl
      rw [e0] at hi
      have hrg := mtk_rng (g a) order k
      generalize mtk (g a) order k = f at *
      have hf3 : f ≠ -5 → zin (nd (g a) f 3) := by
        intro hf
        have := (hr f.toNat (by omega)).2
        have e : ((f.toNat : Nat) : Int) = f := by omega
        rw [e] at this
        exact this
      have j : nd (g a) k 4 = 0 → ∀ c : Bool, decide (f = -5 ∨ order = 0 ∨ (order = 1 ∧ nd (g a) f 3 < nd (g a) k 3)) = c → zW zX6_taken (zC (d + 1)) Q 34 [zR a, zI order, zI f, zI k, x] [zI (zb c)] g := by
        intro h4 c hc
        cases c with
        | true =>
          rw [zb_t]
          have hi := hi (zI 1)
          rw [if_pos ⟨h4, of_decide_eq_true hc⟩] at hi
          (refine zW.go (zC_om _) (fun K hK => ?_); conv => whnf)
          (refine And.intro (by first | omega | assumption | rfl | exact zin_and | exact ⟨zin_and, by omega⟩ | exact ⟨by omega, zin_and⟩ | exact Nat.le_of_ble_eq_true rfl | exact ⟨Nat.le_of_ble_eq_true rfl, rfl⟩ | exact ⟨Nat.le_of_ble_eq_true rfl, by assumption⟩ | decide) ?_; conv => whnf)
          (refine And.intro (fun h => by omega) (fun h => ?_); conv => whnf)
          (refine hK _ _ _ _ (zW.go (zC_om _) (fun K hK => ?_)); conv => whnf)
          exact hK _ _ _ _ hi
        | false =>
          rw [zb_f]
          have hi := hi (zI 0)
          rw [if_neg (fun q => of_decide_eq_false hc q.2)] at hi
          (refine zW.go (zC_om _) (fun K hK => ?_); conv => whnf)
          (refine And.intro (by first | omega | assumption | rfl | exact zin_and | exact ⟨zin_and, by omega⟩ | exact ⟨by omega, zin_and⟩ | exact Nat.le_of_ble_eq_true rfl | exact ⟨Nat.le_of_ble_eq_true rfl, rfl⟩ | exact ⟨Nat.le_of_ble_eq_true rfl, by assumption⟩ | decide) ?_; conv => whnf)
          (refine And.intro (fun h => ?_) (fun h => by omega); conv => whnf)
          (refine hK _ _ _ _ (zW.go (zC_om _) (fun K hK => ?_)); conv => whnf)
          exact hK _ _ _ _ hi
      (refine zW.go (zC_om _) (fun K hK => ?_); conv => whnf)
      (refine And.intro (by first | omega | assumption | rfl | exact zin_and | exact ⟨zin_and, by omega⟩ | exact ⟨by omega, zin_and⟩ | exact Nat.le_of_ble_eq_true rfl | exact ⟨Nat.le_of_ble_eq_true rfl, rfl⟩ | exact ⟨Nat.le_of_ble_eq_true rfl, by assumption⟩ | decide) ?_; conv => whnf)
      (refine And.intro (by first | omega | assumption | rfl | exact zin_and | exact ⟨zin_and, by omega⟩ | exact ⟨by omega, zin_and⟩ | exact Nat.le_of_ble_eq_true rfl | exact ⟨Nat.le_of_ble_eq_true rfl, rfl⟩ | exact ⟨Nat.le_of_ble_eq_true rfl, by assumption⟩ | decide) ?_; conv => whnf)
      (refine And.intro (fun h => by omega) (fun h => ?_); conv => whnf)
      (refine And.intro (by first | omega | assumption | rfl | exact zin_and | exact ⟨zin_and, by omega⟩ | exact ⟨by omega, zin_and⟩ | exact Nat.le_of_ble_eq_true rfl | exact ⟨Nat.le_of_ble_eq_true rfl, rfl⟩ | exact ⟨Nat.le_of_ble_eq_true rfl, by assumption⟩ | decide) ?_; conv => whnf)
      (refine m_of ha (by omega) (by omega) ?_; conv => whnf)
      (refine And.intro (by first | omega | assumption | rfl | exact zin_and | exact ⟨zin_and, by omega⟩ | exact ⟨by omega, zin_and⟩ | exact Nat.le_of_ble_eq_true rfl | exact ⟨Nat.le_of_ble_eq_true rfl, rfl⟩ | exact ⟨Nat.le_of_ble_eq_true rfl, by assumption⟩ | decide) ?_; conv => whnf)
      by_cases h4 : nd (g a) k 4 = 0
      · have j := j h4
        (refine And.intro (fun h => by omega) (fun h => ?_); conv => whnf)
        (refine And.intro (by first | omega | assumption | rfl | exact zin_and | exact ⟨zin_and, by omega⟩ | exact ⟨by omega, zin_and⟩ | exact Nat.le_of_ble_eq_true rfl | exact ⟨Nat.le_of_ble_eq_true rfl, rfl⟩ | exact ⟨Nat.le_of_ble_eq_true rfl, by assumption⟩ | decide) ?_; conv => whnf)
        by_cases hf : f = -5
        · (refine And.intro (fun h => ?_) (fun h => by omega); conv => whnf)
          (refine hK _ _ _ _ ?_)
          (refine zW.upto (zC_om _) 2 (fun K hK => ?_); conv => whnf)
          exact hK _ _ _ _ (j true (by simp [hf]))
        · have hf3 := hf3 hf
          (refine And.intro (fun h => by omega) (fun h => ?_); conv => whnf)
          (refine And.intro (by first | omega | assumption | rfl | exact zin_and | exact ⟨zin_and, by omega⟩ | exact ⟨by omega, zin_and⟩ | exact Nat.le_of_ble_eq_true rfl | exact ⟨Nat.le_of_ble_eq_true rfl, rfl⟩ | exact ⟨Nat.le_of_ble_eq_true rfl, by assumption⟩ | decide) ?_; conv => whnf)
          by_cases h0 : order = 0
          · (refine And.intro (fun h => ?_) (fun h => by omega); conv => whnf)
            (refine hK _ _ _ _ ?_)
            (refine zW.upto (zC_om _) 2 (fun K hK => ?_); conv => whnf)
            exact hK _ _ _ _ (j true (by simp [h0]))
          · (refine And.intro (fun h => by omega) (fun h => ?_); conv => whnf)
            (refine And.intro (by first | omega | assumption | rfl | exact zin_and | exact ⟨zin_and, by omega⟩ | exact ⟨by omega, zin_and⟩ | exact Nat.le_of_ble_eq_true rfl | exact ⟨Nat.le_of_ble_eq_true rfl, rfl⟩ | exact ⟨Nat.le_of_ble_eq_true rfl, by assumption⟩ | decide) ?_; conv => whnf)
            by_cases h1 : order = 1
            · (refine And.intro (fun h => by omega) (fun h => ?_); conv => whnf)
              (refine And.intro (by first | omega | assumption | rfl | exact zin_and | exact ⟨zin_and, by omega⟩ | exact ⟨by omega, zin_and⟩ | exact Nat.le_of_ble_eq_true rfl | exact ⟨Nat.le_of_ble_eq_true rfl, rfl⟩ | exact ⟨Nat.le_of_ble_eq_true rfl, by assumption⟩ | decide) ?_; conv => whnf)
              (refine m_of ha (by omega) (by omega) ?_; conv => whnf)
              (refine And.intro (by first | omega | assumption | rfl | exact zin_and | exact ⟨zin_and, by omega⟩ | exact ⟨by omega, zin_and⟩ | exact Nat.le_of_ble_eq_true rfl | exact ⟨Nat.le_of_ble_eq_true rfl, rfl⟩ | exact ⟨Nat.le_of_ble_eq_true rfl, by assumption⟩ | decide) ?_; conv => whnf)
              (refine m_of ha (by omega) (by omega) ?_; conv => whnf)
              (refine And.intro (by first | omega | assumption | rfl | exact zin_and | exact ⟨zin_and, by omega⟩ | exact ⟨by omega, zin_and⟩ | exact Nat.le_of_ble_eq_true rfl | exact ⟨Nat.le_of_ble_eq_true rfl, rfl⟩ | exact ⟨Nat.le_of_ble_eq_true rfl, by assumption⟩ | decide) ?_; conv => whnf)
              by_cases hlt : nd (g a) f 3 < nd (g a) k 3
              · (refine And.intro (fun h => by omega) (fun h => ?_); conv => whnf)
                exact hK _ _ _ _ (j true (by simp [h1, hlt]))
              · (refine And.intro (fun h => ?_) (fun h => by omega); conv => whnf)
                (refine hK _ _ _ _ ?_)
                (refine zW.upto (zC_om _) 1 (fun K hK => ?_); conv => whnf)
                exact hK _ _ _ _ (j false (by simp [hf, h0, hlt]))
            · (refine And.intro (fun h => ?_) (fun h => by omega); conv => whnf)
              (refine hK _ _ _ _ ?_)
              (refine zW.upto (zC_om _) 1 (fun K hK => ?_); conv => whnf)
              exact hK _ _ _ _ (j false (by simp [hf, h0, h1]))
      · have hi := hi x
        rw [if_neg (fun q => h4 q.1)] at hi
        (refine And.intro (fun h => ?_) (fun h => by omega); conv => whnf)
        (refine hK _ _ _ _ (zW.go (zC_om _) (fun K hK => ?_)); conv => whnf)
        exact hK _ _ _ _ hi
  (refine zW.upto (zC_om _) 4 (fun K hK => ?_); conv => whnf)
  exact hK _ _ _ _ (loop _)
end
section
/-! the reference: a node is made -/
/-- how a new node is: 3 cut off at once, 0 open -/
def mhow (s : zS) (n : Nat) (par : Int) (i o : Nat) : Int := if par ≠ -5 ∧ (mposs s n i = false ∨ mchild s n i o ≤ s 7) then 3 else 0
def mmk (s : zS) (n : Nat) (par thing b : Int) (i o : Nat) : zS :=
  ru (ru (ru (ru (ru (ru (ru (ru s (45 + 7 * s 5) par) (45 + 7 * s 5 + 1) thing) (45 + 7 * s 5 + 2) b) (45 + 7 * s 5 + 5) i) (45 + 7 * s 5 + 6) o) (45 + 7 * s 5 + 3) (mchild s n i o)) (45 + 7 * s 5 + 4) (mhow s n par i o)) 5 (s 5 + 1)
set_option maxHeartbeats 1000000 in
theorem m_mk44 {d a n m i o : Nat} {par thing b : Int} {g : zM} {Q : zP} (ha : zkd a = (1, 2845)) (hok : mok (g a) n) (hso : mso g (g a) n) (h71 : a ≠ 71) (hm : g a 5 = m) (hm4 : m < 400) (hpar : zin par) (hb : b = 0 ∨ b = 1) (hi31 : i < 2 ^ 31) (ho31 : o < 2 ^ 31) (h7 : zin (g a 7))
    (hQ : ∀ g' : zM, (∀ k, k ≠ a → g' k = g k) → g' a = mmk (g a) n par thing b i o → Q none g') : zW zX6_makes (zC (d + 4)) Q 44 [zR 64, zR a, zI par, zI thing, zI b, zI (45 + 7 * g a 5), zI i, zI o] [] g := by
  have hk1 : (zkd a).1 = 1 := by rw [ha]
  have hk2 : (zkd a).2 = 2845 := by rw [ha]
  have hn12 := hok.2.1
  generalize hN : 45 + 7 * g a 5 = N at *
  have hmk : mmk (g a) n par thing b i o = ru (ru (ru (ru (ru (ru (ru (ru (g a) N par) (N + 1) thing) (N + 2) b) (N + 5) i) (N + 6) o) (N + 3) (mchild (g a) n i o)) (N + 4) (mhow (g a) n par i o)) 5 (g a 5 + 1) := by
    unfold mmk
    rw [hN]
  have hag : ∀ v1 v2 v3 v4 v5, magr (g a) ((zup (zup (zup (zup (zup g a N v1) a (N + 1) v2) a (N + 2) v3) a (N + 5) v4) a (N + 6) v5) a) := fun v1 v2 v3 v4 v5 => ((((((magr.rfl : magr (g a) (g a)).up (by omega)).up (by omega)).up (by omega)).up (by omega)).up (by omega))
  have hag2 : ∀ v1 v2 v3 v4 v5 v6, magr (g a) ((zup (zup (zup (zup (zup (zup g a N v1) a (N + 1) v2) a (N + 2) v3) a (N + 5) v4) a (N + 6) v5) a (N + 3) v6) a) := fun v1 v2 v3 v4 v5 v6 => (hag v1 v2 v3 v4 v5).up (by omega)
  have hc := mchild_rng (i := i) (o := o) hok
  have tail : ∀ w : Int, w = mhow (g a) n par i o → zW zX6_makes (zC (d + 4)) Q 109 [zR 64, zR a, zI par, zI thing, zI b, zI N, zI i, zI o] [zI w, zI (N + 4), zR a] (zup (zup (zup (zup (zup (zup g a N par) a (N + 1) thing) a (N + 2) b) a (N + 5) i) a (N + 6) o) a (N + 3) (mchild (g a) n i o)) := by
    intro w hw
    (refine zW.go (zC_om _) (fun K hK => ?_); conv => whnf)
    (refine And.intro (by first | omega | assumption | rfl | exact zin_and | exact ⟨zin_and, by omega⟩ | exact ⟨by omega, zin_and⟩ | exact Nat.le_of_ble_eq_true rfl | exact ⟨Nat.le_of_ble_eq_true rfl, rfl⟩ | exact ⟨Nat.le_of_ble_eq_true rfl, by assumption⟩ | decide) ?_; conv => whnf)
    (refine And.intro (by first | omega | assumption | rfl | exact zin_and | exact ⟨zin_and, by omega⟩ | exact ⟨by omega, zin_and⟩ | exact Nat.le_of_ble_eq_true rfl | exact ⟨Nat.le_of_ble_eq_true rfl, rfl⟩ | exact ⟨Nat.le_of_ble_eq_true rfl, by assumption⟩ | decide) ?_; conv => whnf)
    (refine And.intro (by first | omega | assumption | rfl | exact zin_and | exact ⟨zin_and, by omega⟩ | exact ⟨by omega, zin_and⟩ | exact Nat.le_of_ble_eq_true rfl | exact ⟨Nat.le_of_ble_eq_true rfl, rfl⟩ | exact ⟨Nat.le_of_ble_eq_true rfl, by assumption⟩ | decide) ?_; conv => whnf)
    (refine And.intro (by first | omega | assumption | rfl | exact zin_and | exact ⟨zin_and, by omega⟩ | exact ⟨by omega, zin_and⟩ | exact Nat.le_of_ble_eq_true rfl | exact ⟨Nat.le_of_ble_eq_true rfl, rfl⟩ | exact ⟨Nat.le_of_ble_eq_true rfl, by assumption⟩ | decide) ?_; conv => whnf)
    refine hQ _ (fun k hk => ?_) ?_
    · rw [zup_ne hk, zup_ne hk, zup_ne hk, zup_ne hk, zup_ne hk, zup_ne hk, zup_ne hk, zup_ne hk]
    · rw [hmk, zup_i (by omega), zup_i (by omega), zup_i (by omega), zup_i (by omega), zup_i (by omega), zup_i (by omega), zup_i (by omega), hw]
      rw [zup_ru, zup_ru, zup_ru, zup_ru, zup_ru, zup_ru, zup_ru, zup_ru]
  have j63 : zW zX6_makes (zC (d + 4)) Q 63 [zR 64, zR a, zI par, zI thing, zI b, zI N, zI i, zI o] [zI b, zI (N + 2), zR a] (zup (zup g a N par) a (N + 1) thing) := by
    (refine zW.go (zC_om _) (fun K hK => ?_); conv => whnf)
    (refine And.intro (by first | omega | assumption | rfl | exact zin_and | exact ⟨zin_and, by omega⟩ | exact ⟨by omega, zin_and⟩ | exact Nat.le_of_ble_eq_true rfl | exact ⟨Nat.le_of_ble_eq_true rfl, rfl⟩ | exact ⟨Nat.le_of_ble_eq_true rfl, by assumption⟩ | decide) ?_; conv => whnf)
    (refine And.intro (by first | omega | assumption | rfl | exact zin_and | exact ⟨zin_and, by omega⟩ | exact ⟨by omega, zin_and⟩ | exact Nat.le_of_ble_eq_true rfl | exact ⟨Nat.le_of_ble_eq_true rfl, rfl⟩ | exact ⟨Nat.le_of_ble_eq_true rfl, by assumption⟩ | decide) ?_; conv => whnf)
    (refine And.intro (by first | omega | assumption | rfl | exact zin_and | exact ⟨zin_and, by omega⟩ | exact ⟨by omega, zin_and⟩ | exact Nat.le_of_ble_eq_true rfl | exact ⟨Nat.le_of_ble_eq_true rfl, rfl⟩ | exact ⟨Nat.le_of_ble_eq_true rfl, by assumption⟩ | decide) ?_; conv => whnf)
    (refine And.intro (by first | omega | assumption | rfl | exact zin_and | exact ⟨zin_and, by omega⟩ | exact ⟨by omega, zin_and⟩ | exact Nat.le_of_ble_eq_true rfl | exact ⟨Nat.le_of_ble_eq_true rfl, rfl⟩ | exact ⟨Nat.le_of_ble_eq_true rfl, by assumption⟩ | decide) ?_; conv => whnf)
    (refine m_child ha ((hag _ _ _ _ _).ok hok) (ag_so (hag _ _ _ _ _) hn12 (((((hso.up h71).up h71).up h71).up h71).up h71)) hi31 ho31 ?_; conv => whnf)
    rw [← ag_child (hag _ _ _ _ _) hn12 hok.pos]
    (refine And.intro (by first | omega | assumption | rfl | exact zin_and | exact ⟨zin_and, by omega⟩ | exact ⟨by omega, zin_and⟩ | exact Nat.le_of_ble_eq_true rfl | exact ⟨Nat.le_of_ble_eq_true rfl, rfl⟩ | exact ⟨Nat.le_of_ble_eq_true rfl, by assumption⟩ | decide) ?_; conv => whnf)
    (refine And.intro (by first | omega | assumption | rfl | exact zin_and | exact ⟨zin_and, by omega⟩ | exact ⟨by omega, zin_and⟩ | exact Nat.le_of_ble_eq_true rfl | exact ⟨Nat.le_of_ble_eq_true rfl, rfl⟩ | exact ⟨Nat.le_of_ble_eq_true rfl, by assumption⟩ | decide) ?_; conv => whnf)
    by_cases hp : par = -5
    · (refine And.intro (fun h => ?_) (fun h => by omega); conv => whnf)
      (refine hK _ _ _ _ ?_)
      (refine zW.upto (zC_om _) 1 (fun K hK => ?_); conv => whnf)
      exact hK _ _ _ _ (tail 0 (by unfold mhow; rw [if_neg (fun q => q.1 hp)]))
    · (refine And.intro (fun h => by omega) (fun h => ?_); conv => whnf)
      (refine And.intro (by first | omega | assumption | rfl | exact zin_and | exact ⟨zin_and, by omega⟩ | exact ⟨by omega, zin_and⟩ | exact Nat.le_of_ble_eq_true rfl | exact ⟨Nat.le_of_ble_eq_true rfl, rfl⟩ | exact ⟨Nat.le_of_ble_eq_true rfl, by assumption⟩ | decide) ?_; conv => whnf)
      (refine m_isPossible ha ((hag2 _ _ _ _ _ _).ok hok) hi31 ?_; conv => whnf)
      rw [← ag_poss (hag2 _ _ _ _ _ _) hn12]
      cases hps : mposs (g a) n i with
      | false =>
        rw [zb_f]
        (refine And.intro (by first | omega | assumption | rfl | exact zin_and | exact ⟨zin_and, by omega⟩ | exact ⟨by omega, zin_and⟩ | exact Nat.le_of_ble_eq_true rfl | exact ⟨Nat.le_of_ble_eq_true rfl, rfl⟩ | exact ⟨Nat.le_of_ble_eq_true rfl, by assumption⟩ | decide) ?_; conv => whnf)
        (refine And.intro (fun h => ?_) (fun h => by omega); conv => whnf)
        (refine hK _ _ _ _ ?_)
        (refine zW.upto (zC_om _) 2 (fun K hK => ?_); conv => whnf)
        exact hK _ _ _ _ (tail 3 (by unfold mhow; rw [if_pos ⟨hp, Or.inl hps⟩]))
      | true =>
        rw [zb_t]
        (refine And.intro (by first | omega | assumption | rfl | exact zin_and | exact ⟨zin_and, by omega⟩ | exact ⟨by omega, zin_and⟩ | exact Nat.le_of_ble_eq_true rfl | exact ⟨Nat.le_of_ble_eq_true rfl, rfl⟩ | exact ⟨Nat.le_of_ble_eq_true rfl, by assumption⟩ | decide) ?_; conv => whnf)
        (refine And.intro (fun h => by omega) (fun h => ?_); conv => whnf)
        (refine And.intro (by first | omega | assumption | rfl | exact zin_and | exact ⟨zin_and, by omega⟩ | exact ⟨by omega, zin_and⟩ | exact Nat.le_of_ble_eq_true rfl | exact ⟨Nat.le_of_ble_eq_true rfl, rfl⟩ | exact ⟨Nat.le_of_ble_eq_true rfl, by assumption⟩ | decide) ?_; conv => whnf)
        (refine And.intro (by first | omega | assumption | rfl | exact zin_and | exact ⟨zin_and, by omega⟩ | exact ⟨by omega, zin_and⟩ | exact Nat.le_of_ble_eq_true rfl | exact ⟨Nat.le_of_ble_eq_true rfl, rfl⟩ | exact ⟨Nat.le_of_ble_eq_true rfl, by assumption⟩ | decide) ?_; conv => whnf)
        rw [zup_s, zup_i (by omega), zup_i (by omega), zup_i (by omega), zup_i (by omega), zup_i (by omega), zup_i (by omega)]
        (refine And.intro (by first | omega | assumption | rfl | exact zin_and | exact ⟨zin_and, by omega⟩ | exact ⟨by omega, zin_and⟩ | exact Nat.le_of_ble_eq_true rfl | exact ⟨Nat.le_of_ble_eq_true rfl, rfl⟩ | exact ⟨Nat.le_of_ble_eq_true rfl, by assumption⟩ | decide) ?_; conv => whnf)
        by_cases hle : g a 7 < mchild (g a) n i o
        · (refine And.intro (fun h => ?_) (fun h => by omega); conv => whnf)
          (refine hK _ _ _ _ ?_)
          (refine zW.upto (zC_om _) 1 (fun K hK => ?_); conv => whnf)
          exact hK _ _ _ _ (tail 0 (by unfold mhow; rw [if_neg (fun q => q.2.elim (fun h => Bool.noConfusion (hps.symm.trans h)) (fun h => by omega))]))
        · (refine And.intro (fun h => by omega) (fun h => ?_); conv => whnf)
          (refine hK _ _ _ _ ?_)
          (refine zW.upto (zC_om _) 0 (fun K hK => ?_); conv => whnf)
          exact hK _ _ _ _ (tail 3 (by unfold mhow; rw [if_pos ⟨hp, Or.inr (by omega)⟩]))
  (refine zW.go (zC_om _) (fun K hK => ?_); conv => whnf)
  (refine And.intro (by first | omega | assumption | rfl | exact zin_and | exact ⟨zin_and, by omega⟩ | exact ⟨by omega, zin_and⟩ | exact Nat.le_of_ble_eq_true rfl | exact ⟨Nat.le_of_ble_eq_true rfl, rfl⟩ | exact ⟨Nat.le_of_ble_eq_true rfl, by assumption⟩ | decide) ?_; conv => whnf)
  (refine And.intro (by first | omega | assumption | rfl | exact zin_and | exact ⟨zin_and, by omega⟩ | exact ⟨by omega, zin_and⟩ | exact Nat.le_of_ble_eq_true rfl | exact ⟨Nat.le_of_ble_eq_true rfl, rfl⟩ | exact ⟨Nat.le_of_ble_eq_true rfl, by assumption⟩ | decide) ?_; conv => whnf)
  (refine And.intro (by first | omega | assumption | rfl | exact zin_and | exact ⟨zin_and, by omega⟩ | exact ⟨by omega, zin_and⟩ | exact Nat.le_of_ble_eq_true rfl | exact ⟨Nat.le_of_ble_eq_true rfl, rfl⟩ | exact ⟨Nat.le_of_ble_eq_true rfl, by assumption⟩ | decide) ?_; conv => whnf)
  rcases hb with hb | hb
  · subst hb
    (refine And.intro (fun h => ?_) (fun h => by omega); conv => whnf)
    (refine hK _ _ _ _ ?_)
    (refine zW.upto (zC_om _) 1 (fun K hK => ?_); conv => whnf)
    exact hK _ _ _ _ j63
  · subst hb
    (refine And.intro (fun h => by omega) (fun h => ?_); conv => whnf)
    exact hK _ _ _ _ j63
theorem m_makesR {d a n m : Nat} {g : zM} {Q : zP} (ha : zkd a = (1, 2845)) (hok : mok (g a) n) (hso : mso g (g a) n) (h71 : a ≠ 71) (hm : g a 5 = m) (hm4 : m < 400) (h7 : zin (g a 7))
    (hQ : ∀ g' : zM, (∀ k, k ≠ a → g' k = g k) → g' a = mmk (g a) n (-5) (-5) 0 0 0 → Q none g') : zC (d + 5) 112 [zR 64, zR a, zI (-5), zI (-5), zI 0] g Q := by
  have hk1 : (zkd a).1 = 1 := by rw [ha]
  have hk2 : (zkd a).2 = 2845 := by rw [ha]
  refine zC.go zm_X6_makes ⟨rfl, rfl⟩ rfl ?_
  (refine zW.go (zC_om _) (fun K hK => ?_); conv => whnf)
  (refine And.intro (by first | omega | assumption | rfl | exact zin_and | exact ⟨zin_and, by omega⟩ | exact ⟨by omega, zin_and⟩ | exact Nat.le_of_ble_eq_true rfl | exact ⟨Nat.le_of_ble_eq_true rfl, rfl⟩ | exact ⟨Nat.le_of_ble_eq_true rfl, by assumption⟩ | decide) ?_; conv => whnf)
  (refine And.intro (by first | omega | assumption | rfl | exact zin_and | exact ⟨zin_and, by omega⟩ | exact ⟨by omega, zin_and⟩ | exact Nat.le_of_ble_eq_true rfl | exact ⟨Nat.le_of_ble_eq_true rfl, rfl⟩ | exact ⟨Nat.le_of_ble_eq_true rfl, by assumption⟩ | decide) ?_; conv => whnf)
  (refine And.intro (fun h => by omega) (fun h => ?_); conv => whnf)
  (refine hK _ _ _ _ (zW.go (zC_om _) (fun K hK => ?_)); conv => whnf)
  (refine And.intro (by first | omega | assumption | rfl | exact zin_and | exact ⟨zin_and, by omega⟩ | exact ⟨by omega, zin_and⟩ | exact Nat.le_of_ble_eq_true rfl | exact ⟨Nat.le_of_ble_eq_true rfl, rfl⟩ | exact ⟨Nat.le_of_ble_eq_true rfl, by assumption⟩ | decide) ?_; conv => whnf)
  (refine And.intro (fun h => by omega) (fun h => ?_); conv => whnf)
  (refine hK _ _ _ _ ?_)
  (refine zW.upto (zC_om _) 1 (fun K hK => ?_); conv => whnf)
  exact hK _ _ _ _ (m_mk44 ha hok hso h71 hm hm4 (by omega) (Or.inl rfl) (by decide) (by decide) h7 hQ)
theorem m_makesC {d a n m i o t : Nat} {par : Int} {b : Bool} {g : zM} {Q : zP} (ha : zkd a = (1, 2845)) (hok : mok (g a) n) (hso : mso g (g a) n) (h71 : a ≠ 71) (hm : g a 5 = m) (hm4 : m < 400) (hpar : 0 ≤ par ∧ par < 400) (ht : t < 12) (hi : nd (g a) par 5 = (i : Int)) (ho : nd (g a) par 6 = (o : Int)) (hi31 : i < 2 ^ 12) (ho31 : o < 2 ^ 12) (h7 : zin (g a 7))
    (hQ : ∀ g' : zM, (∀ k, k ≠ a → g' k = g k) → g' a = mmk (g a) n par t (zb b) (if b then i ||| 2 ^ t else i) (if b then o else o ||| 2 ^ t) → Q none g') : zC (d + 5) 112 [zR 64, zR a, zI par, zI t, zI (zb b)] g Q := by
  have hk1 : (zkd a).1 = 1 := by rw [ha]
  have hk2 : (zkd a).2 = 2845 := by rw [ha]
  have h2t : 2 ^ t < 2 ^ 31 := Nat.pow_lt_pow_right (by decide) (by omega)
  have hit : i ||| 2 ^ t < 2 ^ 31 := Nat.or_lt_two_pow (by omega) h2t
  have hot : o ||| 2 ^ t < 2 ^ 31 := Nat.or_lt_two_pow (by omega) h2t
  refine zC.go zm_X6_makes ⟨rfl, rfl⟩ rfl ?_
  cases b with
  | true =>
    rw [zb_t] at hQ ⊢
    have k44 := @m_mk44 d a n m (i ||| 2 ^ t) o par t 1 g Q ha hok hso h71 hm hm4 (by omega) (Or.inr rfl) hit (by omega) h7 hQ
    (refine zW.go (zC_om _) (fun K hK => ?_); conv => whnf)
    (refine And.intro (by first | omega | assumption | rfl | exact zin_and | exact ⟨zin_and, by omega⟩ | exact ⟨by omega, zin_and⟩ | exact Nat.le_of_ble_eq_true rfl | exact ⟨Nat.le_of_ble_eq_true rfl, rfl⟩ | exact ⟨Nat.le_of_ble_eq_true rfl, by assumption⟩ | decide) ?_; conv => whnf)
    (refine And.intro (by first | omega | assumption | rfl | exact zin_and | exact ⟨zin_and, by omega⟩ | exact ⟨by omega, zin_and⟩ | exact Nat.le_of_ble_eq_true rfl | exact ⟨Nat.le_of_ble_eq_true rfl, rfl⟩ | exact ⟨Nat.le_of_ble_eq_true rfl, by assumption⟩ | decide) ?_; conv => whnf)
    (refine And.intro (fun h => ?_) (fun h => by omega); conv => whnf)
    (refine hK _ _ _ _ (zW.go (zC_om _) (fun K hK => ?_)); conv => whnf)
    (refine And.intro (by first | omega | assumption | rfl | exact zin_and | exact ⟨zin_and, by omega⟩ | exact ⟨by omega, zin_and⟩ | exact Nat.le_of_ble_eq_true rfl | exact ⟨Nat.le_of_ble_eq_true rfl, rfl⟩ | exact ⟨Nat.le_of_ble_eq_true rfl, by assumption⟩ | decide) ?_; conv => whnf)
    (refine m_of ha (by omega) (by omega) ?_; conv => whnf)
    (refine And.intro (by first | omega | assumption | rfl | exact zin_and | exact ⟨zin_and, by omega⟩ | exact ⟨by omega, zin_and⟩ | exact Nat.le_of_ble_eq_true rfl | exact ⟨Nat.le_of_ble_eq_true rfl, rfl⟩ | exact ⟨Nat.le_of_ble_eq_true rfl, by assumption⟩ | decide) ?_; conv => whnf)
    (refine And.intro (fun h => by omega) (fun h => ?_); conv => whnf)
    rw [hi, zone_shl (by omega)]
    (refine hK _ _ _ _ (zW.go (zC_om _) (fun K hK => ?_)); conv => whnf)
    rw [zor_nat (by omega) h2t]
    (refine And.intro (by first | omega | assumption | rfl | exact zin_and | exact ⟨zin_and, by omega⟩ | exact ⟨by omega, zin_and⟩ | exact Nat.le_of_ble_eq_true rfl | exact ⟨Nat.le_of_ble_eq_true rfl, rfl⟩ | exact ⟨Nat.le_of_ble_eq_true rfl, by assumption⟩ | decide) ?_; conv => whnf)
    (refine And.intro (fun h => ?_) (fun h => by omega); conv => whnf)
    (refine hK _ _ _ _ (zW.go (zC_om _) (fun K hK => ?_)); conv => whnf)
    (refine And.intro (by first | omega | assumption | rfl | exact zin_and | exact ⟨zin_and, by omega⟩ | exact ⟨by omega, zin_and⟩ | exact Nat.le_of_ble_eq_true rfl | exact ⟨Nat.le_of_ble_eq_true rfl, rfl⟩ | exact ⟨Nat.le_of_ble_eq_true rfl, by assumption⟩ | decide) ?_; conv => whnf)
    (refine m_of ha (by omega) (by omega) ?_; conv => whnf)
    (refine And.intro (by first | omega | assumption | rfl | exact zin_and | exact ⟨zin_and, by omega⟩ | exact ⟨by omega, zin_and⟩ | exact Nat.le_of_ble_eq_true rfl | exact ⟨Nat.le_of_ble_eq_true rfl, rfl⟩ | exact ⟨Nat.le_of_ble_eq_true rfl, by assumption⟩ | decide) ?_; conv => whnf)
    (refine And.intro (fun h => by omega) (fun h => ?_); conv => whnf)
    rw [ho]
    (refine hK _ _ _ _ ?_)
    (refine zW.upto (zC_om _) 2 (fun K hK => ?_); conv => whnf)
    rw [zor_0 (by omega)]
    exact hK _ _ _ _ k44
  | false =>
    rw [zb_f] at hQ ⊢
    have k44 := @m_mk44 d a n m i (o ||| 2 ^ t) par t 0 g Q ha hok hso h71 hm hm4 (by omega) (Or.inl rfl) (by omega) hot h7 hQ
    (refine zW.go (zC_om _) (fun K hK => ?_); conv => whnf)
    (refine And.intro (by first | omega | assumption | rfl | exact zin_and | exact ⟨zin_and, by omega⟩ | exact ⟨by omega, zin_and⟩ | exact Nat.le_of_ble_eq_true rfl | exact ⟨Nat.le_of_ble_eq_true rfl, rfl⟩ | exact ⟨Nat.le_of_ble_eq_true rfl, by assumption⟩ | decide) ?_; conv => whnf)
    (refine And.intro (by first | omega | assumption | rfl | exact zin_and | exact ⟨zin_and, by omega⟩ | exact ⟨by omega, zin_and⟩ | exact Nat.le_of_ble_eq_true rfl | exact ⟨Nat.le_of_ble_eq_true rfl, rfl⟩ | exact ⟨Nat.le_of_ble_eq_true rfl, by assumption⟩ | decide) ?_; conv => whnf)
    (refine And.intro (fun h => ?_) (fun h => by omega); conv => whnf)
    (refine hK _ _ _ _ (zW.go (zC_om _) (fun K hK => ?_)); conv => whnf)
    (refine And.intro (by first | omega | assumption | rfl | exact zin_and | exact ⟨zin_and, by omega⟩ | exact ⟨by omega, zin_and⟩ | exact Nat.le_of_ble_eq_true rfl | exact ⟨Nat.le_of_ble_eq_true rfl, rfl⟩ | exact ⟨Nat.le_of_ble_eq_true rfl, by assumption⟩ | decide) ?_; conv => whnf)
    (refine m_of ha (by omega) (by omega) ?_; conv => whnf)
    (refine And.intro (by first | omega | assumption | rfl | exact zin_and | exact ⟨zin_and, by omega⟩ | exact ⟨by omega, zin_and⟩ | exact Nat.le_of_ble_eq_true rfl | exact ⟨Nat.le_of_ble_eq_true rfl, rfl⟩ | exact ⟨Nat.le_of_ble_eq_true rfl, by assumption⟩ | decide) ?_; conv => whnf)
    (refine And.intro (fun h => ?_) (fun h => by omega); conv => whnf)
    rw [hi]
    (refine hK _ _ _ _ (zW.go (zC_om _) (fun K hK => ?_)); conv => whnf)
    rw [zor_0 (by omega)]
    (refine And.intro (by first | omega | assumption | rfl | exact zin_and | exact ⟨zin_and, by omega⟩ | exact ⟨by omega, zin_and⟩ | exact Nat.le_of_ble_eq_true rfl | exact ⟨Nat.le_of_ble_eq_true rfl, rfl⟩ | exact ⟨Nat.le_of_ble_eq_true rfl, by assumption⟩ | decide) ?_; conv => whnf)
    (refine And.intro (fun h => ?_) (fun h => by omega); conv => whnf)
    (refine hK _ _ _ _ (zW.go (zC_om _) (fun K hK => ?_)); conv => whnf)
    (refine And.intro (by first | omega | assumption | rfl | exact zin_and | exact ⟨zin_and, by omega⟩ | exact ⟨by omega, zin_and⟩ | exact Nat.le_of_ble_eq_true rfl | exact ⟨Nat.le_of_ble_eq_true rfl, rfl⟩ | exact ⟨Nat.le_of_ble_eq_true rfl, by assumption⟩ | decide) ?_; conv => whnf)
    (refine m_of ha (by omega) (by omega) ?_; conv => whnf)
    (refine And.intro (by first | omega | assumption | rfl | exact zin_and | exact ⟨zin_and, by omega⟩ | exact ⟨by omega, zin_and⟩ | exact Nat.le_of_ble_eq_true rfl | exact ⟨Nat.le_of_ble_eq_true rfl, rfl⟩ | exact ⟨Nat.le_of_ble_eq_true rfl, by assumption⟩ | decide) ?_; conv => whnf)
    (refine And.intro (fun h => ?_) (fun h => by omega); conv => whnf)
    rw [ho]
    (refine hK _ _ _ _ ?_)
    (refine zW.upto (zC_om _) 5 (fun K hK => ?_); conv => whnf)
    rw [zone_shl (by omega), zor_nat (by omega) h2t]
    exact hK _ _ _ _ k44
end
section
/-! what always holds of a row: things, bars both ways, settings, nodes -/
def msym (s : zS) (n : Nat) : Prop := ∀ t : Nat, t < n → mb s t < 2 ^ n ∧ ∀ u : Nat, u < n → (mb s t).testBit u = (mb s u).testBit t
def mnode (s : zS) (n k : Nat) : Prop := ∃ i o : Nat, nd s k 5 = (i : Int) ∧ nd s k 6 = (o : Int) ∧ i < 2 ^ n ∧ o < 2 ^ n ∧ nd s k 3 = mchild s n i o ∧ (0 ≤ nd s k 4 ∧ nd s k 4 ≤ 5) ∧ (nd s k 4 = 0 → mposs s n i = true) ∧
  (k = 0 → nd s k 0 = -5 ∧ nd s k 1 = -5 ∧ nd s k 2 = 0 ∧ i = 0 ∧ o = 0) ∧ (0 < k → (0 ≤ nd s k 0 ∧ nd s k 0 < k) ∧ (0 ≤ nd s k 1 ∧ nd s k 1 < n) ∧ nd s k 2 = zb (i.testBit (nd s k 1).toNat))
def minv (s : zS) (n m : Nat) : Prop := mok s n ∧ msym s n ∧ (0 ≤ s 2 ∧ s 2 ≤ 2) ∧ (0 ≤ s 3 ∧ s 3 ≤ 2) ∧ (s 5 = m ∧ m ≤ 400) ∧ s 4 = (if m = 0 then 0 else 1) ∧ (∀ k : Nat, k < m → mnode s n k) ∧ (0 ≤ s 7 ∧ s 7 ≤ 1188) ∧ (0 ≤ s 8 ∧ s 8 < 2 ^ n) ∧ (m = 0 → s 6 = 0 ∧ s 7 = 0 ∧ s 8 = 0)
theorem mnode.rng {s : zS} {n k : Nat} (hok : mok s n) (h : mnode s n k) : zin (nd s k 4) ∧ zin (nd s k 3) := by
  obtain ⟨i, o, -, -, -, -, h3, h4, -⟩ := h
  have := mchild_rng (i := i) (o := o) hok
  rw [h3]
  omega
section MK
variable {s : zS} {n m : Nat} {par thing b : Int} {i o : Nat}
theorem mmk_old (hm : s 5 = m) {j : Int} (hj : j ≠ 5 ∧ j < 45 + 7 * m) : mmk s n par thing b i o j = s j := by
  unfold mmk
  rw [hm, ru_n (by omega), ru_n (by omega), ru_n (by omega), ru_n (by omega), ru_n (by omega), ru_n (by omega), ru_n (by omega), ru_n (by omega)]
theorem mmk_5 : mmk s n par thing b i o 5 = s 5 + 1 := ru_s
theorem mmk_ag (hm : s 5 = m) : magr s (mmk s n par thing b i o) := ⟨(mmk_old hm (by omega)).symm, (mmk_old hm (by omega)).symm, fun j h1 h2 => (mmk_old hm (by omega)).symm⟩
theorem mmk_0 (hm : s 5 = m) : nd (mmk s n par thing b i o) m 0 = par := by
  unfold mmk nd
  rw [hm, ru_n (by omega), ru_n (by omega), ru_n (by omega), ru_n (by omega), ru_n (by omega), ru_n (by omega), ru_n (by omega)]
  rw [Int.add_zero]
  exact ru_s
theorem mmk_1 (hm : s 5 = m) : nd (mmk s n par thing b i o) m 1 = thing := by
  unfold mmk nd
  rw [hm, ru_n (by omega), ru_n (by omega), ru_n (by omega), ru_n (by omega), ru_n (by omega), ru_n (by omega)]
  exact ru_s
theorem mmk_2 (hm : s 5 = m) : nd (mmk s n par thing b i o) m 2 = b := by
  unfold mmk nd
  rw [hm, ru_n (by omega), ru_n (by omega), ru_n (by omega), ru_n (by omega), ru_n (by omega)]
  exact ru_s
theorem mmk_3 (hm : s 5 = m) : nd (mmk s n par thing b i o) m 3 = mchild s n i o := by
  unfold mmk nd
  rw [hm, ru_n (by omega), ru_n (by omega)]
  exact ru_s
theorem mmk_4 (hm : s 5 = m) : nd (mmk s n par thing b i o) m 4 = mhow s n par i o := by
  unfold mmk nd
  rw [hm, ru_n (by omega)]
  exact ru_s
theorem mmk_n5 (hm : s 5 = m) : nd (mmk s n par thing b i o) m 5 = (i : Int) := by
  unfold mmk nd
  rw [hm, ru_n (by omega), ru_n (by omega), ru_n (by omega), ru_n (by omega)]
  exact ru_s
theorem mmk_n6 (hm : s 5 = m) : nd (mmk s n par thing b i o) m 6 = (o : Int) := by
  unfold mmk nd
  rw [hm, ru_n (by omega), ru_n (by omega), ru_n (by omega)]
  exact ru_s
end MK
/-- a node's row is kept -/
theorem mnode.kept {s s' : zS} {n k : Nat} (hn : n ≤ 12) (hp : mpos s n) (h : mnode s n k) (ha : magr s s') (hj : ∀ f : Int, 0 ≤ f → f < 7 → nd s' k f = nd s k f) : mnode s' n k := by
  obtain ⟨i, o, h1, h2, h3, h4, h5, h6, h7, h8, h9⟩ := h
  have e0 := hj 0 (by omega) (by omega)
  have e1 := hj 1 (by omega) (by omega)
  have e2 := hj 2 (by omega) (by omega)
  have e3 := hj 3 (by omega) (by omega)
  have e4 := hj 4 (by omega) (by omega)
  have e5 := hj 5 (by omega) (by omega)
  have e6 := hj 6 (by omega) (by omega)
  refine ⟨i, o, by rw [e5]; exact h1, by rw [e6]; exact h2, h3, h4, by rw [e3, ← ag_child ha hn hp]; exact h5, by rw [e4]; exact h6, by rw [e4, ← ag_poss ha hn]; exact h7, by rw [e0, e1, e2]; exact h8, by rw [e0, e1, e2]; exact h9⟩
theorem msym.ag {s s' : zS} {n : Nat} (hn : n ≤ 12) (h : msym s n) (ha : magr s s') : msym s' n := by
  intro t ht
  obtain ⟨h1, h2⟩ := h t ht
  refine ⟨by rw [← ag_b ha (show t < 12 by omega)]; exact h1, fun u hu => ?_⟩
  rw [← ag_b ha (show t < 12 by omega), ← ag_b ha (show u < 12 by omega)]
  exact h2 u hu
/-- with nothing free, bound and heel are what is in -/
theorem mfree0 {s : zS} {n i o : Nat} (h : mfree s n i o = 0) : mbound s n i o = bsum s 9 i n ∧ mheel s n i o = i := by
  have g1 : ∀ (m k : Nat) (left sum : Int), mbd s n 0 m k left sum = sum := by
    intro m
    induction m with
    | zero => intro _ _ _; rfl
    | succ m ih => intro k left sum; rw [mbd, Nat.zero_testBit, if_neg (by decide), ih]
  have g2 : ∀ (m k set : Nat) (left : Int), mhl s n 0 m k set left = set := by
    intro m
    induction m with
    | zero => intro _ _ _; rfl
    | succ m ih =>
      intro k set left
      have : mhc s 0 (mor s n k) set left = false := by simp [mhc]
      rw [mhl, this, if_neg (by decide), ih]
  unfold mbound mheel
  rw [h]
  exact ⟨g1 _ _ _ _, g2 _ _ _ _⟩
theorem mfree_bit0 {s : zS} {n i o : Nat} (h : mfree s n i o ≠ 0) : ∃ t, t < n ∧ (mfree s n i o).testBit t = true := by
  obtain ⟨t, ht⟩ := Nat.exists_testBit_of_ne_zero h
  refine ⟨t, ?_, ht⟩
  rw [mfr_bit] at ht
  simp at ht
  exact ht.1
/-- where something is free, a node is branched on a free thing -/
theorem mbranch_rng {s : zS} {n i o : Nat} {c : Int} (hok : mok s n) (hf : mfree s n i o ≠ 0) : 0 ≤ mbranch s n i o c ∧ mbranch s n i o c < n ∧ (mfree s n i o).testBit (mbranch s n i o c).toNat = true := by
  obtain ⟨t, ht, hbt⟩ := mfree_bit0 hf
  generalize hfr : mfree s n i o = fr at *
  unfold mbranch
  split
  · unfold mparts
    rw [hfr]
    have r1 : msplit s n i o = -5 ∨ (0 ≤ msplit s n i o ∧ msplit s n i o < n ∧ fr.testBit (msplit s n i o).toNat = true) := by
      have := mspl_rng (s := s) (fr := fr) hok.pos n 0 (mleft s n i) (by omega)
      rw [← hfr] at this ⊢
      exact this
    have r2 := mfs_rng (s := s) (set := ndf fr (mheel s n i o)) hok.pos n 0 (by omega)
    have r3 := mfs_rng (s := s) (set := fr) hok.pos n 0 (by omega)
    split
    · rcases r1 with r | r
      · next h => exact absurd r h
      · exact r
    · split
      · rcases r2 with r | r
        · next h => exact absurd r h
        · refine ⟨r.1, r.2.1, ?_⟩
          have h3 := r.2.2
          rw [ndf_bit, Bool.and_eq_true] at h3
          exact h3.1
      · rcases r3 with r | r
        · exfalso
          have go : ∀ (m k : Nat), k + m = n → mfs s n fr m k = -5 → ∀ j, k ≤ j → j < n → fr.testBit (mor s n j) = false := by
            intro m
            induction m with
            | zero => intro k hk _ j h1 h2; omega
            | succ m ih =>
              intro k hk hq j h1 h2
              rw [mfs] at hq
              split at hq
              · omega
              · next hb =>
                by_cases hj : j = k
                · subst hj; simpa using hb
                · exact ih (k + 1) (by omega) hq j (by omega) h2
          have := go n 0 (by omega) r (mpl s n t) (by omega) (mpl_lt ht)
          rw [mor_pl hok.pos ht, hbt] at this
          exact Bool.noConfusion this
        · exact r
  · split
    · rw [hfr]
      rcases mhv_rng s fr n with r | r
      · exfalso
        have go : ∀ m : Nat, mhv s fr m = -5 → ∀ j, j < m → fr.testBit j = false := by
          intro m
          induction m with
          | zero => intro _ j hj; omega
          | succ m ih =>
            intro hq j hj
            rw [mhv] at hq
            split at hq
            · omega
            · next hb =>
              by_cases hjm : j = m
              · subst hjm
                cases hz : fr.testBit j with
                | false => rfl
                | true => exact absurd ⟨hz, Or.inl hq⟩ hb
              · exact ih hq j (by omega)
        have := go n r t ht
        rw [hbt] at this
        exact Bool.noConfusion this
      · exact r
    · unfold mtrials
      rw [hfr]
      rcases (mtr_rng (fr := fr) (i := i) (o := o) hok n).1 with r | r
      · exfalso
        have go : ∀ m : Nat, (mtr s n fr i o m).1 = -5 → ∀ j, j < m → fr.testBit j = false := by
          intro m
          induction m with
          | zero => intro _ j hj; omega
          | succ m ih =>
            intro hq j hj
            rw [mtr] at hq
            split at hq
            · dsimp only at hq; omega
            · next hb =>
              by_cases hjm : j = m
              · subst hjm
                cases hz : fr.testBit j with
                | false => rfl
                | true => exact absurd ⟨hz, Or.inl hq⟩ hb
              · exact ih hq j (by omega)
        have := go n r t ht
        rw [hbt] at this
        exact Bool.noConfusion this
      · exact r
theorem mfree_free {s : zS} {n i o t : Nat} (h : (mfree s n i o).testBit t = true) : t < n ∧ i.testBit t = false ∧ o.testBit t = false := by
  rw [mfr_bit] at h
  simp [mfc] at h
  exact ⟨h.1, h.2.1.1, h.2.1.2⟩
end
section
/-! the reference: a step takes a node -/
abbrev ndi (s : zS) (k : Int) : Nat := (nd s k 5).toNat
abbrev ndo (s : zS) (k : Int) : Nat := (nd s k 6).toNat
/-- the row with one step more, and with the heel's sum if it is better -/
def mtk2 (s : zS) (n : Nat) (k : Int) : zS :=
  if s 7 < bsum s 9 (mheel s n (ndi s k) (ndo s k)) n then ru (ru (ru s 6 (s 6 + 1)) 7 (bsum s 9 (mheel s n (ndi s k) (ndo s k)) n)) 8 (mheel s n (ndi s k) (ndo s k) : Nat) else ru s 6 (s 6 + 1)
/-- .. and with its two children -/
def mtk4 (s : zS) (n : Nat) (k : Int) : zS :=
  mmk (mmk (ru (mtk2 s n k) (45 + 7 * k + 4) 4) n k (mbranch s n (ndi s k) (ndo s k) (s 3)) 0 (ndi s k) (ndo s k ||| 2 ^ (mbranch s n (ndi s k) (ndo s k) (s 3)).toNat)) n k (mbranch s n (ndi s k) (ndo s k) (s 3)) 1 (ndi s k ||| 2 ^ (mbranch s n (ndi s k) (ndo s k) (s 3)).toNat) (ndo s k)
def mtakes (s : zS) (n : Nat) (k : Int) : Int × zS :=
  if nd s k 3 ≤ s 7 then (1, ru (ru s 6 (s 6 + 1)) (45 + 7 * k + 4) 1)
  else if nd s k 3 ≤ bsum s 9 (mheel s n (ndi s k) (ndo s k)) n then (2, ru (mtk2 s n k) (45 + 7 * k + 4) 2)
  else if 400 < s 5 + 2 then (-3, mtk2 s n k)
  else (4, mtk4 s n k)
theorem mtk2_old {s : zS} {n : Nat} {k j : Int} (h : j ≠ 6 ∧ j ≠ 7 ∧ j ≠ 8) : mtk2 s n k j = s j := by
  unfold mtk2
  split
  · rw [ru_n (by omega), ru_n (by omega), ru_n (by omega)]
  · rw [ru_n (by omega)]
theorem mtk2_ag {s : zS} {n : Nat} {k : Int} : magr s (mtk2 s n k) := ⟨(mtk2_old (by omega)).symm, (mtk2_old (by omega)).symm, fun j h1 h2 => (mtk2_old (by omega)).symm⟩
theorem mtk2_7 {s : zS} {n : Nat} {k : Int} (hok : mok s n) (h7 : 0 ≤ s 7 ∧ s 7 ≤ 1188) : 0 ≤ mtk2 s n k 7 ∧ mtk2 s n k 7 ≤ 1188 := by
  have := msumw (set := mheel s n (ndi s k) (ndo s k)) hok
  unfold mtk2
  split
  · rw [ru_n (by omega), ru_s]; exact this
  · rw [ru_n (by omega)]; exact h7
/-- what is branched on is a free thing -/
theorem mbranch_free {s : zS} {n i o : Nat} {c : Int} (hok : mok s n) (hp : mposs s n i = true) (h : ¬ mchild s n i o ≤ bsum s 9 (mheel s n i o) n) : ∃ t : Nat, mbranch s n i o c = (t : Int) ∧ t < n ∧ (mfree s n i o).testBit t = true := by
  have hf : mfree s n i o ≠ 0 := by
    intro q
    obtain ⟨e1, e2⟩ := mfree0 q
    apply h
    unfold mchild
    rw [if_pos hp, e1, e2]
    exact Int.le_refl _
  obtain ⟨h1, h2, h3⟩ := mbranch_rng (c := c) hok hf
  exact ⟨(mbranch s n i o c).toNat, by omega, by omega, h3⟩
set_option maxHeartbeats 2000000 in
theorem m_takes {d a n m k : Nat} {g : zM} {Q : zP} (ha : zkd a = (1, 2845)) (hinv : minv (g a) n m) (hso : mso g (g a) n) (h71 : a ≠ 71) (hk : k < m) (hop : nd (g a) k 4 = 0)
    (hQ : ∀ g' : zM, (∀ j, j ≠ a → g' j = g j) → g' a = (mtakes (g a) n k).2 → Q (some (zI (mtakes (g a) n k).1)) g') : zC (d + 7) 114 [zR 64, zR a, zI k] g Q := by
  have hk1 : (zkd a).1 = 1 := by rw [ha]
  have hk2 : (zkd a).2 = 2845 := by rw [ha]
  obtain ⟨hok, hsym, h2r, h3r, ⟨hm, hm4⟩, h4, hnodes, h7, h8, h0⟩ := id hinv
  have hn12 := hok.2.1
  have h2n := zp12 hn12
  obtain ⟨i, o, hi, ho, hil, hol, h3, hh4, hps, -, -⟩ := hnodes k hk
  have hps := hps hop
  have hcr := mchild_rng (i := i) (o := o) hok
  have hii : ndi (g a) k = i := by unfold ndi; rw [hi]; rfl
  have hoo : ndo (g a) k = o := by unfold ndo; rw [ho]; rfl
  have hhl := mheel_lt (o := o) hok hil
  have hhs := msumw (set := mheel (g a) n i o) hok
  unfold mtakes at hQ
  rw [hii, hoo, h3] at hQ
  have e2 : mtk2 (g a) n k = if g a 7 < bsum (g a) 9 (mheel (g a) n i o) n then ru (ru (ru (g a) 6 (g a 6 + 1)) 7 (bsum (g a) 9 (mheel (g a) n i o) n)) 8 (mheel (g a) n i o : Nat) else ru (g a) 6 (g a 6 + 1) := by
    unfold mtk2
    rw [hii, hoo]
  have e4 : mtk4 (g a) n k = mmk (mmk (ru (mtk2 (g a) n k) (45 + 7 * k + 4) 4) n k (mbranch (g a) n i o (g a 3)) 0 i (o ||| 2 ^ (mbranch (g a) n i o (g a 3)).toNat)) n k (mbranch (g a) n i o (g a 3)) 1 (i ||| 2 ^ (mbranch (g a) n i o (g a 3)).toNat) o := by
    unfold mtk4
    rw [hii, hoo]
  have h3' : g a (45 + 7 * k + 3) = mchild (g a) n i o := h3
  have hi' : g a (45 + 7 * k + 5) = (i : Int) := hi
  have ho' : g a (45 + 7 * k + 6) = (o : Int) := ho
  refine zC.go zm_X6_takes ⟨rfl, rfl⟩ rfl ?_
  have j62 : ¬ mchild (g a) n i o ≤ g a 7 → ∀ (g2 : zM) (x6 : zV), (∀ j, j ≠ a → g2 j = g j) → g2 a = mtk2 (g a) n k → zW zX6_takes (zC (d + 6)) Q 62 [zR 64, zR a, zI k, zI (45 + 7 * k), zI (mheel (g a) n i o : Nat), zI (bsum (g a) 9 (mheel (g a) n i o) n), x6] [] g2 := by
    intro hc7 g2 x6 hf2 hr2
    rw [if_neg hc7] at hQ
    have rd : ∀ j : Int, j ≠ 6 ∧ j ≠ 7 ∧ j ≠ 8 → g2 a j = g a j := fun j hj => by rw [hr2, mtk2_old hj]
    have r3 := rd (45 + 7 * k + 3) (by omega)
    have r5 := rd (45 + 7 * k + 5) (by omega)
    have r6 := rd (45 + 7 * k + 6) (by omega)
    have rm := rd 5 (by omega)
    have rc := rd 3 (by omega)
    have hag2 : magr (g a) (g2 a) := by rw [hr2]; exact mtk2_ag
    have hso2 : mso g2 (g2 a) n := by
      refine ag_so hag2 hn12 (fun j hj => ?_)
      rw [hf2 71 (Ne.symm h71)]
      exact hso j hj
    (refine zW.go (zC_om _) (fun K hK => ?_); conv => whnf)
    (refine And.intro (by first | omega | assumption | rfl | exact zin_and | exact ⟨zin_and, by omega⟩ | exact ⟨by omega, zin_and⟩ | exact Nat.le_of_ble_eq_true rfl | exact ⟨Nat.le_of_ble_eq_true rfl, rfl⟩ | exact ⟨Nat.le_of_ble_eq_true rfl, by assumption⟩ | decide) ?_; conv => whnf)
    rw [r3, h3']
    (refine And.intro (by first | omega | assumption | rfl | exact zin_and | exact ⟨zin_and, by omega⟩ | exact ⟨by omega, zin_and⟩ | exact Nat.le_of_ble_eq_true rfl | exact ⟨Nat.le_of_ble_eq_true rfl, rfl⟩ | exact ⟨Nat.le_of_ble_eq_true rfl, by assumption⟩ | decide) ?_; conv => whnf)
    by_cases c2 : mchild (g a) n i o ≤ bsum (g a) 9 (mheel (g a) n i o) n
    · rw [if_pos c2] at hQ
      (refine And.intro (fun h => by omega) (fun h => ?_); conv => whnf)
      (refine And.intro (by first | omega | assumption | rfl | exact zin_and | exact ⟨zin_and, by omega⟩ | exact ⟨by omega, zin_and⟩ | exact Nat.le_of_ble_eq_true rfl | exact ⟨Nat.le_of_ble_eq_true rfl, rfl⟩ | exact ⟨Nat.le_of_ble_eq_true rfl, by assumption⟩ | decide) ?_; conv => whnf)
      (refine And.intro (by first | omega | assumption | rfl | exact zin_and | exact ⟨zin_and, by omega⟩ | exact ⟨by omega, zin_and⟩ | exact Nat.le_of_ble_eq_true rfl | exact ⟨Nat.le_of_ble_eq_true rfl, rfl⟩ | exact ⟨Nat.le_of_ble_eq_true rfl, by assumption⟩ | decide) ?_; conv => whnf)
      refine hQ _ (fun j hj => ?_) ?_
      · rw [zup_ne hj]; exact hf2 j hj
      · rw [zup_ru, hr2]
    · rw [if_neg c2] at hQ
      (refine And.intro (fun h => ?_) (fun h => by omega); conv => whnf)
      (refine hK _ _ _ _ (zW.go (zC_om _) (fun K hK => ?_)); conv => whnf)
      (refine And.intro (by first | omega | assumption | rfl | exact zin_and | exact ⟨zin_and, by omega⟩ | exact ⟨by omega, zin_and⟩ | exact Nat.le_of_ble_eq_true rfl | exact ⟨Nat.le_of_ble_eq_true rfl, rfl⟩ | exact ⟨Nat.le_of_ble_eq_true rfl, by assumption⟩ | decide) ?_; conv => whnf)
      rw [rm]
      (refine And.intro (by first | omega | assumption | rfl | exact zin_and | exact ⟨zin_and, by omega⟩ | exact ⟨by omega, zin_and⟩ | exact Nat.le_of_ble_eq_true rfl | exact ⟨Nat.le_of_ble_eq_true rfl, rfl⟩ | exact ⟨Nat.le_of_ble_eq_true rfl, by assumption⟩ | decide) ?_; conv => whnf)
      by_cases c3 : 400 < g a 5 + 2
      · rw [if_pos c3] at hQ
        (refine And.intro (fun h => by omega) (fun h => ?_); conv => whnf)
        (refine And.intro (by first | omega | assumption | rfl | exact zin_and | exact ⟨zin_and, by omega⟩ | exact ⟨by omega, zin_and⟩ | exact Nat.le_of_ble_eq_true rfl | exact ⟨Nat.le_of_ble_eq_true rfl, rfl⟩ | exact ⟨Nat.le_of_ble_eq_true rfl, by assumption⟩ | decide) ?_; conv => whnf)
        exact hQ _ hf2 hr2
      · rw [if_neg c3] at hQ
        obtain ⟨t, ht, htn, hbt⟩ := mbranch_free (c := g a 3) hok hps c2
        obtain ⟨-, hti, hto⟩ := mfree_free hbt
        have h2t : 2 ^ t < 2 ^ n := Nat.pow_lt_pow_right (by decide) htn
        (refine And.intro (fun h => ?_) (fun h => by omega); conv => whnf)
        (refine hK _ _ _ _ (zW.go (zC_om _) (fun K hK => ?_)); conv => whnf)
        (refine And.intro (by first | omega | assumption | rfl | exact zin_and | exact ⟨zin_and, by omega⟩ | exact ⟨by omega, zin_and⟩ | exact Nat.le_of_ble_eq_true rfl | exact ⟨Nat.le_of_ble_eq_true rfl, rfl⟩ | exact ⟨Nat.le_of_ble_eq_true rfl, by assumption⟩ | decide) ?_; conv => whnf)
        rw [r5, hi']
        (refine And.intro (by first | omega | assumption | rfl | exact zin_and | exact ⟨zin_and, by omega⟩ | exact ⟨by omega, zin_and⟩ | exact Nat.le_of_ble_eq_true rfl | exact ⟨Nat.le_of_ble_eq_true rfl, rfl⟩ | exact ⟨Nat.le_of_ble_eq_true rfl, by assumption⟩ | decide) ?_; conv => whnf)
        rw [r6, ho']
        (refine And.intro (by first | omega | assumption | rfl | exact zin_and | exact ⟨zin_and, by omega⟩ | exact ⟨by omega, zin_and⟩ | exact Nat.le_of_ble_eq_true rfl | exact ⟨Nat.le_of_ble_eq_true rfl, rfl⟩ | exact ⟨Nat.le_of_ble_eq_true rfl, by assumption⟩ | decide) ?_; conv => whnf)
        rw [rc]
        (refine And.intro (by first | omega | assumption | rfl | exact zin_and | exact ⟨zin_and, by omega⟩ | exact ⟨by omega, zin_and⟩ | exact Nat.le_of_ble_eq_true rfl | exact ⟨Nat.le_of_ble_eq_true rfl, rfl⟩ | exact ⟨Nat.le_of_ble_eq_true rfl, by assumption⟩ | decide) ?_; conv => whnf)
        (refine m_branch ha (hag2.ok hok) hso2 hil (by omega) h3r ?_; conv => whnf)
        rw [← ag_branch hag2 hn12 hok.pos, ht]
        (refine And.intro (by first | omega | assumption | rfl | exact zin_and | exact ⟨zin_and, by omega⟩ | exact ⟨by omega, zin_and⟩ | exact Nat.le_of_ble_eq_true rfl | exact ⟨Nat.le_of_ble_eq_true rfl, rfl⟩ | exact ⟨Nat.le_of_ble_eq_true rfl, by assumption⟩ | decide) ?_; conv => whnf)
        (refine And.intro (by first | omega | assumption | rfl | exact zin_and | exact ⟨zin_and, by omega⟩ | exact ⟨by omega, zin_and⟩ | exact Nat.le_of_ble_eq_true rfl | exact ⟨Nat.le_of_ble_eq_true rfl, rfl⟩ | exact ⟨Nat.le_of_ble_eq_true rfl, by assumption⟩ | decide) ?_; conv => whnf)
        refine m_makesC (b := false) (m := m) ha ((hag2.up (by omega)).ok hok) (ag_so (s := g2 a) (magr.rfl.up (by omega)) hn12 (hso2.up h71)) h71 (by rw [zup_i (by omega), rm, hm]) (by omega) (by omega) (by omega) (i := i) (o := o) ?_ ?_ (by omega) (by omega) ?_ (fun g4 hf4 hr4 => ?_)
        · show (zup g2 a (45 + 7 * k + 4) 4) a (45 + 7 * k + 5) = _
          rw [zup_i (by omega), r5, hi']
        · show (zup g2 a (45 + 7 * k + 4) 4) a (45 + 7 * k + 6) = _
          rw [zup_i (by omega), r6, ho']
        · have := mtk2_7 (k := k) hok h7
          rw [← hr2] at this
          rw [zup_i (by omega)]
          omega
        · rw [zup_ru, hr2] at hr4
          rw [if_neg (by decide), if_neg (by decide)] at hr4
          have hz5 : (ru (mtk2 (g a) n k) (45 + 7 * k + 4) 4) 5 = (m : Int) := by
            rw [ru_n (by omega), mtk2_old (by omega), hm]
          have hag4 : magr (g a) (g4 a) := by
            rw [hr4]
            exact ((mtk2_ag (s := g a) (n := n) (k := k)).ru (by omega)).trans (mmk_ag hz5)
          have hso4 : mso g4 (g4 a) n := by
            refine ag_so hag4 hn12 (fun j hj => ?_)
            rw [hf4 71 (Ne.symm h71), zup_k (Ne.symm h71), hf2 71 (Ne.symm h71)]
            exact hso j hj
          conv => whnf
          (refine And.intro (by first | omega | assumption | rfl | exact zin_and | exact ⟨zin_and, by omega⟩ | exact ⟨by omega, zin_and⟩ | exact Nat.le_of_ble_eq_true rfl | exact ⟨Nat.le_of_ble_eq_true rfl, rfl⟩ | exact ⟨Nat.le_of_ble_eq_true rfl, by assumption⟩ | decide) ?_; conv => whnf)
          refine m_makesC (b := true) (m := m + 1) ha (hag4.ok hok) hso4 h71 (by rw [hr4, mmk_5, hz5]; omega) (by omega) (by omega) (by omega) (i := i) (o := o) ?_ ?_ (by omega) (by omega) ?_ (fun g5 hf5 hr5 => ?_)
          · show g4 a (45 + 7 * k + 5) = _
            rw [hr4, mmk_old hz5 (by omega), ru_n (by omega), mtk2_old (by omega), hi']
          · show g4 a (45 + 7 * k + 6) = _
            rw [hr4, mmk_old hz5 (by omega), ru_n (by omega), mtk2_old (by omega), ho']
          · have := mtk2_7 (k := k) hok h7
            rw [hr4, mmk_old hz5 (by omega), ru_n (by omega)]
            omega
          · rw [if_pos rfl, if_pos rfl] at hr5
            conv => whnf
            (refine And.intro (by first | omega | assumption | rfl | exact zin_and | exact ⟨zin_and, by omega⟩ | exact ⟨by omega, zin_and⟩ | exact Nat.le_of_ble_eq_true rfl | exact ⟨Nat.le_of_ble_eq_true rfl, rfl⟩ | exact ⟨Nat.le_of_ble_eq_true rfl, by assumption⟩ | decide) ?_; conv => whnf)
            refine hQ g5 (fun j hj => ?_) ?_
            · rw [hf5 j hj, hf4 j hj, zup_ne hj]; exact hf2 j hj
            · rw [hr5, hr4, e4, ht]
              rfl
  (refine zW.go (zC_om _) (fun K hK => ?_); conv => whnf)
  (refine And.intro (by first | omega | assumption | rfl | exact zin_and | exact ⟨zin_and, by omega⟩ | exact ⟨by omega, zin_and⟩ | exact Nat.le_of_ble_eq_true rfl | exact ⟨Nat.le_of_ble_eq_true rfl, rfl⟩ | exact ⟨Nat.le_of_ble_eq_true rfl, by assumption⟩ | decide) ?_; conv => whnf)
  (refine And.intro (by first | omega | assumption | rfl | exact zin_and | exact ⟨zin_and, by omega⟩ | exact ⟨by omega, zin_and⟩ | exact Nat.le_of_ble_eq_true rfl | exact ⟨Nat.le_of_ble_eq_true rfl, rfl⟩ | exact ⟨Nat.le_of_ble_eq_true rfl, by assumption⟩ | decide) ?_; conv => whnf)
  (refine And.intro (by first | omega | assumption | rfl | exact zin_and | exact ⟨zin_and, by omega⟩ | exact ⟨by omega, zin_and⟩ | exact Nat.le_of_ble_eq_true rfl | exact ⟨Nat.le_of_ble_eq_true rfl, rfl⟩ | exact ⟨Nat.le_of_ble_eq_true rfl, by assumption⟩ | decide) ?_; conv => whnf)
  (refine And.intro (by first | omega | assumption | rfl | exact zin_and | exact ⟨zin_and, by omega⟩ | exact ⟨by omega, zin_and⟩ | exact Nat.le_of_ble_eq_true rfl | exact ⟨Nat.le_of_ble_eq_true rfl, rfl⟩ | exact ⟨Nat.le_of_ble_eq_true rfl, by assumption⟩ | decide) ?_; conv => whnf)
  rw [zup_i (by omega), zup_i (by omega), h3']
  (refine And.intro (by first | omega | assumption | rfl | exact zin_and | exact ⟨zin_and, by omega⟩ | exact ⟨by omega, zin_and⟩ | exact Nat.le_of_ble_eq_true rfl | exact ⟨Nat.le_of_ble_eq_true rfl, rfl⟩ | exact ⟨Nat.le_of_ble_eq_true rfl, by assumption⟩ | decide) ?_; conv => whnf)
  by_cases c1 : mchild (g a) n i o ≤ g a 7
  · rw [if_pos c1] at hQ
    (refine And.intro (fun h => by omega) (fun h => ?_); conv => whnf)
    (refine And.intro (by first | omega | assumption | rfl | exact zin_and | exact ⟨zin_and, by omega⟩ | exact ⟨by omega, zin_and⟩ | exact Nat.le_of_ble_eq_true rfl | exact ⟨Nat.le_of_ble_eq_true rfl, rfl⟩ | exact ⟨Nat.le_of_ble_eq_true rfl, by assumption⟩ | decide) ?_; conv => whnf)
    (refine And.intro (by first | omega | assumption | rfl | exact zin_and | exact ⟨zin_and, by omega⟩ | exact ⟨by omega, zin_and⟩ | exact Nat.le_of_ble_eq_true rfl | exact ⟨Nat.le_of_ble_eq_true rfl, rfl⟩ | exact ⟨Nat.le_of_ble_eq_true rfl, by assumption⟩ | decide) ?_; conv => whnf)
    refine hQ _ (fun j hj => ?_) ?_
    · rw [zup_ne hj, zup_ne hj]
    · rw [zup_ru, zup_ru]
  · have j62 := j62 c1
    have hag1 : magr (g a) ((zup g a 6 (g a 6 + 1)) a) := magr.rfl.up (by omega)
    have rq5 : (zup g a 6 (g a 6 + 1)) a (45 + 7 * k + 5) = (i : Int) := by rw [zup_i (by omega)]; exact hi'
    have rq6 : (zup g a 6 (g a 6 + 1)) a (45 + 7 * k + 6) = (o : Int) := by rw [zup_i (by omega)]; exact ho'
    have rq7 : (zup g a 6 (g a 6 + 1)) a 7 = g a 7 := zup_i (by omega)
    (refine And.intro (fun h => ?_) (fun h => by omega); conv => whnf)
    (refine hK _ _ _ _ ?_)
    (refine zW.upto (zC_om _) 32 (fun K hK => ?_); conv => whnf)
    (refine And.intro (by first | omega | assumption | rfl | exact zin_and | exact ⟨zin_and, by omega⟩ | exact ⟨by omega, zin_and⟩ | exact Nat.le_of_ble_eq_true rfl | exact ⟨Nat.le_of_ble_eq_true rfl, rfl⟩ | exact ⟨Nat.le_of_ble_eq_true rfl, by assumption⟩ | decide) ?_; conv => whnf)
    rw [rq5]
    (refine And.intro (by first | omega | assumption | rfl | exact zin_and | exact ⟨zin_and, by omega⟩ | exact ⟨by omega, zin_and⟩ | exact Nat.le_of_ble_eq_true rfl | exact ⟨Nat.le_of_ble_eq_true rfl, rfl⟩ | exact ⟨Nat.le_of_ble_eq_true rfl, by assumption⟩ | decide) ?_; conv => whnf)
    rw [rq6]
    (refine And.intro (by first | omega | assumption | rfl | exact zin_and | exact ⟨zin_and, by omega⟩ | exact ⟨by omega, zin_and⟩ | exact Nat.le_of_ble_eq_true rfl | exact ⟨Nat.le_of_ble_eq_true rfl, rfl⟩ | exact ⟨Nat.le_of_ble_eq_true rfl, by assumption⟩ | decide) ?_; conv => whnf)
    (refine m_heel ha (hag1.ok hok) (ag_so hag1 hn12 (hso.up h71)) (by omega) (by omega) ?_; conv => whnf)
    rw [← ag_heel hag1 hn12 hok.pos]
    (refine And.intro (by first | omega | assumption | rfl | exact zin_and | exact ⟨zin_and, by omega⟩ | exact ⟨by omega, zin_and⟩ | exact Nat.le_of_ble_eq_true rfl | exact ⟨Nat.le_of_ble_eq_true rfl, rfl⟩ | exact ⟨Nat.le_of_ble_eq_true rfl, by assumption⟩ | decide) ?_; conv => whnf)
    (refine m_sum ha (hag1.ok hok).1 hn12 (by omega) (by omega) (by omega) ?_; conv => whnf)
    rw [← ag_w hag1 hn12]
    (refine And.intro (by first | omega | assumption | rfl | exact zin_and | exact ⟨zin_and, by omega⟩ | exact ⟨by omega, zin_and⟩ | exact Nat.le_of_ble_eq_true rfl | exact ⟨Nat.le_of_ble_eq_true rfl, rfl⟩ | exact ⟨Nat.le_of_ble_eq_true rfl, by assumption⟩ | decide) ?_; conv => whnf)
    rw [rq7]
    (refine And.intro (by first | omega | assumption | rfl | exact zin_and | exact ⟨zin_and, by omega⟩ | exact ⟨by omega, zin_and⟩ | exact Nat.le_of_ble_eq_true rfl | exact ⟨Nat.le_of_ble_eq_true rfl, rfl⟩ | exact ⟨Nat.le_of_ble_eq_true rfl, by assumption⟩ | decide) ?_; conv => whnf)
    by_cases c5 : g a 7 < bsum (g a) 9 (mheel (g a) n i o) n
    · rw [if_pos c5] at e2
      (refine And.intro (fun h => by omega) (fun h => ?_); conv => whnf)
      (refine And.intro (by first | omega | assumption | rfl | exact zin_and | exact ⟨zin_and, by omega⟩ | exact ⟨by omega, zin_and⟩ | exact Nat.le_of_ble_eq_true rfl | exact ⟨Nat.le_of_ble_eq_true rfl, rfl⟩ | exact ⟨Nat.le_of_ble_eq_true rfl, by assumption⟩ | decide) ?_; conv => whnf)
      (refine And.intro (by first | omega | assumption | rfl | exact zin_and | exact ⟨zin_and, by omega⟩ | exact ⟨by omega, zin_and⟩ | exact Nat.le_of_ble_eq_true rfl | exact ⟨Nat.le_of_ble_eq_true rfl, rfl⟩ | exact ⟨Nat.le_of_ble_eq_true rfl, by assumption⟩ | decide) ?_; conv => whnf)
      refine hK _ _ _ _ (j62 _ _ (fun j hj => ?_) ?_)
      · rw [zup_ne hj, zup_ne hj, zup_ne hj]
      · rw [zup_ru, zup_ru, zup_ru, e2]
    · rw [if_neg c5] at e2
      (refine And.intro (fun h => ?_) (fun h => by omega); conv => whnf)
      refine hK _ _ _ _ (j62 _ _ (fun j hj => ?_) ?_)
      · rw [zup_ne hj]
      · rw [zup_ru, e2]
end
section
/-! the class's bag against a row -/
def zKB (k : Nat) : Prop := zkd k = (0, 0) ∧ zkd (k + 1) = (1, 12) ∧ zkd (k + 2) = (1, 12) ∧ zkd (k + 3) = (1, 12) ∧ zkd (k + 4) = (1, 12)
/-- what of a bag follows from its things: the order apart -/
def RelB (g : zM) (k : Nat) (s : zS) (n : Nat) : Prop := g k (4 : Nat) = (n : Int) ∧ g k (5 : Nat) = s 1 ∧ ∀ t : Nat, t < n → g (k + 1) t = s (9 + t) ∧ g (k + 2) t = s (21 + t) ∧ g (k + 3) t = s (33 + t) ∧ g (k + 4) t = (mor s n t : Int)
theorem bsum_cut {r : Int → Int} {f : Int} {set n : Nat} (hs : set < 2 ^ n) : ∀ m : Nat, n ≤ m → bsum r f set m = bsum r f set n := by
  intro m
  induction m with
  | zero => intro h; have : n = 0 := by omega
            subst this; rfl
  | succ m ih =>
    intro h
    by_cases hm : n = m + 1
    · rw [hm]
    · show bsum r f set m + _ = _
      rw [ih (by omega), if_neg (by rw [zlt_bits hs (by omega)]; decide), Int.add_zero]
theorem bsum_shift {r r' : Int → Int} {f f' : Int} {set : Nat} : ∀ n : Nat, (∀ t : Nat, t < n → r (f + t) = r' (f' + t)) → bsum r f set n = bsum r' f' set n
  | 0, _ => rfl
  | n + 1, h => by
    show bsum r f set n + _ = bsum r' f' set n + _
    rw [bsum_shift n (fun t ht => h t (by omega)), h n (by omega)]
/-- one thing more in a sum -/
theorem bsum_add {r : Int → Int} {f : Int} {set t : Nat} (hb : set.testBit t = false) : ∀ n : Nat, bsum r f (set ||| 2 ^ t) n = bsum r f set n + if t < n then r (f + t) else 0
  | 0 => by simp [bsum]
  | n + 1 => by
    show bsum r f (set ||| 2 ^ t) n + _ = bsum r f set n + _ + _
    rw [bsum_add hb n, Nat.testBit_or, Nat.testBit_two_pow]
    by_cases h1 : t = n
    · subst h1
      simp [hb]
    · have h2 : (t < n + 1) ↔ (t < n) := by omega
      simp only [h1, decide_false, Bool.or_false, h2]
      omega
theorem bsum0 {r : Int → Int} {f : Int} : ∀ n : Nat, bsum r f 0 n = 0
  | 0 => rfl
  | n + 1 => by
    show bsum r f 0 n + _ = _
    rw [bsum0 n]
    simp
section CB
variable {g : zM} {k n : Nat} {s : zS} {d : Nat} {Q : zP}
theorem c_sumV (hk : zKB k) (hr : RelB g k s n) (hn : n ≤ 12) {set : Nat} (hs : set < 2 ^ n) (hQ : Q (some (zI (bsum s 21 set n))) g) : zC (d + 1) 85 [zR (k + 2), zI set] g Q := by
  have h12 : set < 2 ^ 12 := Nat.lt_of_lt_of_le hs (Nat.pow_le_pow_right (by decide) hn)
  refine s_sumOf hk.2.2.1 h12 ?_
  rw [bsum_cut hs 12 hn, bsum_shift (r' := s) (f' := 21) n (fun t ht => by rw [Int.zero_add]; exact (hr.2.2 t ht).2.1)]
  exact hQ
theorem c_sumW (hk : zKB k) (hr : RelB g k s n) (hn : n ≤ 12) {set : Nat} (hs : set < 2 ^ n) (hQ : Q (some (zI (bsum s 9 set n))) g) : zC (d + 1) 85 [zR (k + 1), zI set] g Q := by
  have h12 : set < 2 ^ 12 := Nat.lt_of_lt_of_le hs (Nat.pow_le_pow_right (by decide) hn)
  refine s_sumOf hk.2.1 h12 ?_
  rw [bsum_cut hs 12 hn, bsum_shift (r' := s) (f' := 9) n (fun t ht => by rw [Int.zero_add]; exact (hr.2.2 t ht).1)]
  exact hQ
theorem c_at {a : Nat} {t : Nat} (ha : zkd a = (1, 12)) (ht : t < 12) {v : Int} (hv : g a t = v) (hQ : Q (some (zI v)) g) : zC (d + 1) 83 [zR a, zI t] g Q := by
  refine s_at ha (by omega) (by omega) ?_
  rw [if_pos (by omega), hv]
  exact hQ
end CB
theorem nand0 {a b : Nat} : a &&& b = 0 ↔ ∀ u, a.testBit u = true → b.testBit u = false := by
  constructor
  · intro h u hu
    have : (a &&& b).testBit u = false := by rw [h]; simp
    rw [Nat.testBit_and, hu, Bool.true_and] at this
    exact this
  · intro h
    refine Nat.eq_of_testBit_eq (fun u => ?_)
    rw [Nat.testBit_and, Nat.zero_testBit]
    cases hu : a.testBit u with
    | false => rfl
    | true => rw [h u hu]; rfl
/-- the things that those of a set bar -/
def brd (s : zS) (set : Nat) : Nat → Nat
  | 0 => 0
  | t + 1 => brd s set t ||| (if set.testBit t then mb s t else 0)
theorem brd_bit (s : zS) (set u : Nat) : ∀ m : Nat, (brd s set m).testBit u = true ↔ ∃ t, t < m ∧ set.testBit t = true ∧ (mb s t).testBit u = true
  | 0 => by simp [brd]
  | m + 1 => by
    show (brd s set m ||| _).testBit u = true ↔ _
    rw [Nat.testBit_or, Bool.or_eq_true, brd_bit s set u m]
    constructor
    · rintro (⟨t, h1, h2, h3⟩ | h)
      · exact ⟨t, by omega, h2, h3⟩
      · by_cases hb : set.testBit m = true
        · rw [if_pos hb] at h
          exact ⟨m, by omega, hb, h⟩
        · rw [if_neg hb, Nat.zero_testBit] at h
          exact Bool.noConfusion h
    · rintro ⟨t, h1, h2, h3⟩
      by_cases ht : t = m
      · subst ht
        right
        rw [if_pos h2]
        exact h3
      · exact Or.inl ⟨t, by omega, h2, h3⟩
theorem brd_lt {s : zS} {n set : Nat} (hsym : msym s n) (hs : set < 2 ^ n) : ∀ m : Nat, brd s set m < 2 ^ n
  | 0 => Nat.two_pow_pos n
  | m + 1 => by
    refine Nat.or_lt_two_pow (brd_lt hsym hs m) ?_
    by_cases hb : set.testBit m = true
    · rw [if_pos hb]
      refine (hsym m ?_).1
      rcases Nat.lt_or_ge m n with h | h
      · exact h
      · rw [zlt_bits hs h] at hb; exact Bool.noConfusion hb
    · rw [if_neg hb]
      exact Nat.two_pow_pos n
theorem mposs_iff {s : zS} {n set : Nat} : mposs s n set = true ↔ bsum s 21 set n ≤ s 1 ∧ ∀ t, t < n → set.testBit t = true → mb s t &&& set = 0 := by
  have go : ∀ m : Nat, mpb s n set m = true ↔ bsum s 21 set n ≤ s 1 ∧ ∀ t, t < m → set.testBit t = true → mb s t &&& set = 0 := by
    intro m
    induction m with
    | zero => simp [mpb]
    | succ m ih =>
      show (mpb s n set m && (!set.testBit m || decide (mb s m &&& set = 0))) = true ↔ _
      rw [Bool.and_eq_true, ih]
      constructor
      · rintro ⟨⟨h1, h2⟩, h3⟩
        refine ⟨h1, fun t ht hb => ?_⟩
        by_cases he : t = m
        · subst he
          rw [hb] at h3
          simpa using h3
        · exact h2 t (by omega) hb
      · rintro ⟨h1, h2⟩
        refine ⟨⟨h1, fun t ht => h2 t (by omega)⟩, ?_⟩
        cases hb : set.testBit m with
        | false => rfl
        | true => simpa using h2 m (by omega) hb
  exact go n
theorem mposs_brd {s : zS} {n set : Nat} (hs : set < 2 ^ n) (hn : n ≤ 12) : mposs s n set = true ↔ bsum s 21 set n ≤ s 1 ∧ brd s set 12 &&& set = 0 := by
  rw [mposs_iff]
  refine and_congr_right (fun _ => ?_)
  rw [nand0]
  constructor
  · intro h u hu
    obtain ⟨t, h1, h2, h3⟩ := (brd_bit s set u 12).mp hu
    have htn : t < n := by
      rcases Nat.lt_or_ge t n with q | q
      · exact q
      · rw [zlt_bits hs q] at h2; exact Bool.noConfusion h2
    exact nand0.mp (h t htn h2) u h3
  · intro h t ht hb
    refine nand0.mpr (fun u hu => h u ?_)
    exact (brd_bit s set u 12).mpr ⟨t, by omega, hb, hu⟩
section CP
variable {g : zM} {k n : Nat} {s : zS} {d : Nat} {Q : zP}
theorem c_barredBy (hk : zKB k) (hr : RelB g k s n) (hok : mok s n) (hsym : msym s n) {set : Nat} (hs : set < 2 ^ n) (hQ : Q (some (zI (brd s set 12 : Nat))) g) : zC (d + 1) 11 [zR k, zI set] g Q := by
  obtain ⟨hk0, hk1, hk2, hk3, hk4⟩ := id hk
  have hk31 : (zkd (k + 3)).1 = 1 := by rw [hk3]
  have hk32 : (zkd (k + 3)).2 = 12 := by rw [hk3]
  have hn12 := hok.2.1
  have h2n := zp12 hn12
  refine zC.go zm_X0_barredBy ⟨rfl, rfl⟩ rfl ?_
  (refine zW.upto (zC_om _) 4 (fun K hK => ?_); conv => whnf)
  refine hK _ _ _ _ (zdown (P := fun t => zW zX0_barredBy (zC d) Q 4 [zR k, zI set, zI (brd s set t : Nat), zI t] [] g) 12 ?_ ?_)
  · (refine zW.go (zC_om _) (fun K hK => ?_); conv => whnf)
    (refine And.intro (by first | omega | assumption | rfl | exact zin_and | exact ⟨zin_and, by omega⟩ | exact ⟨by omega, zin_and⟩ | exact Nat.le_of_ble_eq_true rfl | exact ⟨Nat.le_of_ble_eq_true rfl, rfl⟩ | exact ⟨Nat.le_of_ble_eq_true rfl, by assumption⟩ | decide) ?_; conv => whnf)
    (refine And.intro (by first | omega | assumption | rfl | exact zin_and | exact ⟨zin_and, by omega⟩ | exact ⟨by omega, zin_and⟩ | exact Nat.le_of_ble_eq_true rfl | exact ⟨Nat.le_of_ble_eq_true rfl, rfl⟩ | exact ⟨Nat.le_of_ble_eq_true rfl, by assumption⟩ | decide) ?_; conv => whnf)
    (refine And.intro (by first | omega | assumption | rfl | exact zin_and | exact ⟨zin_and, by omega⟩ | exact ⟨by omega, zin_and⟩ | exact Nat.le_of_ble_eq_true rfl | exact ⟨Nat.le_of_ble_eq_true rfl, rfl⟩ | exact ⟨Nat.le_of_ble_eq_true rfl, by assumption⟩ | decide) ?_; conv => whnf)
    (refine And.intro (fun h => ?_) (fun h => by omega); conv => whnf)
    (repeat' first | (refine hK _ _ _ _ (zW.go (zC_om _) (fun K hK => ?_)); conv => whnf) | (refine And.intro (by first | omega | assumption | rfl | exact zin_and | exact ⟨zin_and, by omega⟩ | exact ⟨by omega, zin_and⟩ | exact Nat.le_of_ble_eq_true rfl | exact ⟨Nat.le_of_ble_eq_true rfl, rfl⟩ | exact ⟨Nat.le_of_ble_eq_true rfl, by assumption⟩ | decide) ?_; conv => whnf) | (refine And.intro (fun h => ?_) (fun h => ?_) <;> conv => whnf) | (intro h; conv => whnf))
    exact hQ
  · intro t ht hi
    have hi : zW zX0_barredBy (zC d) Q 4 [zR k, zI set, zI (brd s set t ||| (if set.testBit t then mb s t else 0) : Nat), zI (t + 1 : Nat)] [] g := hi
    have hbl := brd_lt hsym hs t
    have hp : 0 < 2 ^ t := Nat.two_pow_pos t
    (refine zW.go (zC_om _) (fun K hK => ?_); conv => whnf)
    (refine And.intro (by first | omega | assumption | rfl | exact zin_and | exact ⟨zin_and, by omega⟩ | exact ⟨by omega, zin_and⟩ | exact Nat.le_of_ble_eq_true rfl | exact ⟨Nat.le_of_ble_eq_true rfl, rfl⟩ | exact ⟨Nat.le_of_ble_eq_true rfl, by assumption⟩ | decide) ?_; conv => whnf)
    (refine And.intro (by first | omega | assumption | rfl | exact zin_and | exact ⟨zin_and, by omega⟩ | exact ⟨by omega, zin_and⟩ | exact Nat.le_of_ble_eq_true rfl | exact ⟨Nat.le_of_ble_eq_true rfl, rfl⟩ | exact ⟨Nat.le_of_ble_eq_true rfl, by assumption⟩ | decide) ?_; conv => whnf)
    (refine And.intro (by first | omega | assumption | rfl | exact zin_and | exact ⟨zin_and, by omega⟩ | exact ⟨by omega, zin_and⟩ | exact Nat.le_of_ble_eq_true rfl | exact ⟨Nat.le_of_ble_eq_true rfl, rfl⟩ | exact ⟨Nat.le_of_ble_eq_true rfl, by assumption⟩ | decide) ?_; conv => whnf)
    (refine And.intro (fun h => by omega) (fun h => ?_); conv => whnf)
    rw [zbit2 (by omega) (by omega)]
    have h2t : 2 ^ t ≤ 2 ^ 12 := Nat.pow_le_pow_right (by decide) (by omega)
    by_cases hbit : set.testBit t = true
    · have htn : t < n := by
        rcases Nat.lt_or_ge t n with q | q
        · exact q
        · rw [zlt_bits hs q] at hbit; exact Bool.noConfusion hbit
      have hmb := mb_eq hok htn
      have hml := mb_lt hok htn
      rw [if_pos hbit] at hi ⊢
      (refine And.intro (by first | omega | assumption | rfl | exact zin_and | exact ⟨zin_and, by omega⟩ | exact ⟨by omega, zin_and⟩ | exact Nat.le_of_ble_eq_true rfl | exact ⟨Nat.le_of_ble_eq_true rfl, rfl⟩ | exact ⟨Nat.le_of_ble_eq_true rfl, by assumption⟩ | decide) ?_; conv => whnf)
      (refine And.intro (fun h => by omega) (fun h => ?_); conv => whnf)
      (refine And.intro (by first | omega | assumption | rfl | exact zin_and | exact ⟨zin_and, by omega⟩ | exact ⟨by omega, zin_and⟩ | exact Nat.le_of_ble_eq_true rfl | exact ⟨Nat.le_of_ble_eq_true rfl, rfl⟩ | exact ⟨Nat.le_of_ble_eq_true rfl, by assumption⟩ | decide) ?_; conv => whnf)
      (refine And.intro (by first | omega | assumption | rfl | exact zin_and | exact ⟨zin_and, by omega⟩ | exact ⟨by omega, zin_and⟩ | exact Nat.le_of_ble_eq_true rfl | exact ⟨Nat.le_of_ble_eq_true rfl, rfl⟩ | exact ⟨Nat.le_of_ble_eq_true rfl, by assumption⟩ | decide) ?_; conv => whnf)
      rw [(hr.2.2 t htn).2.2.1, hmb, zor_nat (by omega) (by omega)]
      exact hK _ _ _ _ hi
    · rw [if_neg hbit, Nat.or_zero] at hi
      rw [if_neg hbit]
      (refine And.intro (by first | omega | assumption | rfl | exact zin_and | exact ⟨zin_and, by omega⟩ | exact ⟨by omega, zin_and⟩ | exact Nat.le_of_ble_eq_true rfl | exact ⟨Nat.le_of_ble_eq_true rfl, rfl⟩ | exact ⟨Nat.le_of_ble_eq_true rfl, by assumption⟩ | decide) ?_; conv => whnf)
      (refine And.intro (fun h => ?_) (fun h => by omega); conv => whnf)
      (refine hK _ _ _ _ (zW.go (zC_om _) (fun K hK => ?_)); conv => whnf)
      exact hK _ _ _ _ hi
theorem c_isPossible (hk : zKB k) (hr : RelB g k s n) (hok : mok s n) (hsym : msym s n) {set : Nat} (hs : set < 2 ^ n) (hQ : Q (some (zI (zb (mposs s n set)))) g) : zC (d + 2) 10 [zR k, zI set] g Q := by
  obtain ⟨hk0, hk1, hk2, hk3, hk4⟩ := id hk
  have hn12 := hok.2.1
  have h2n := zp12 hn12
  have hbl := brd_lt hsym hs 12
  have hmp := mposs_brd (s := s) hs hn12
  have hsv := msumv (set := set) hok
  have hrm := hok.2.2.1
  refine zC.go zm_X0_isPossible ⟨rfl, rfl⟩ rfl ?_
  (refine zW.go (zC_om _) (fun K hK => ?_); conv => whnf)
  (refine And.intro (by first | omega | assumption | rfl | exact zin_and | exact ⟨zin_and, by omega⟩ | exact ⟨by omega, zin_and⟩ | exact Nat.le_of_ble_eq_true rfl | exact ⟨Nat.le_of_ble_eq_true rfl, rfl⟩ | exact ⟨Nat.le_of_ble_eq_true rfl, by assumption⟩ | decide) ?_; conv => whnf)
  (refine And.intro (by first | omega | assumption | rfl | exact zin_and | exact ⟨zin_and, by omega⟩ | exact ⟨by omega, zin_and⟩ | exact Nat.le_of_ble_eq_true rfl | exact ⟨Nat.le_of_ble_eq_true rfl, rfl⟩ | exact ⟨Nat.le_of_ble_eq_true rfl, by assumption⟩ | decide) ?_; conv => whnf)
  (refine c_sumV hk hr hn12 hs ?_; conv => whnf)
  (refine And.intro (by first | omega | assumption | rfl | exact zin_and | exact ⟨zin_and, by omega⟩ | exact ⟨by omega, zin_and⟩ | exact Nat.le_of_ble_eq_true rfl | exact ⟨Nat.le_of_ble_eq_true rfl, rfl⟩ | exact ⟨Nat.le_of_ble_eq_true rfl, by assumption⟩ | decide) ?_; conv => whnf)
  rw [hr.2.1]
  (refine And.intro (by first | omega | assumption | rfl | exact zin_and | exact ⟨zin_and, by omega⟩ | exact ⟨by omega, zin_and⟩ | exact Nat.le_of_ble_eq_true rfl | exact ⟨Nat.le_of_ble_eq_true rfl, rfl⟩ | exact ⟨Nat.le_of_ble_eq_true rfl, by assumption⟩ | decide) ?_; conv => whnf)
  by_cases h1 : bsum s 21 set n ≤ s 1
  · (refine And.intro (fun h => by omega) (fun h => ?_); conv => whnf)
    (refine And.intro (by first | omega | assumption | rfl | exact zin_and | exact ⟨zin_and, by omega⟩ | exact ⟨by omega, zin_and⟩ | exact Nat.le_of_ble_eq_true rfl | exact ⟨Nat.le_of_ble_eq_true rfl, rfl⟩ | exact ⟨Nat.le_of_ble_eq_true rfl, by assumption⟩ | decide) ?_; conv => whnf)
    (refine c_barredBy hk hr hok hsym hs ?_; conv => whnf)
    rw [zand_nat (by omega) (by omega)]
    have hle : brd s set 12 &&& set ≤ brd s set 12 := Nat.and_le_left
    (refine And.intro (by first | omega | assumption | rfl | exact zin_and | exact ⟨zin_and, by omega⟩ | exact ⟨by omega, zin_and⟩ | exact Nat.le_of_ble_eq_true rfl | exact ⟨Nat.le_of_ble_eq_true rfl, rfl⟩ | exact ⟨Nat.le_of_ble_eq_true rfl, by assumption⟩ | decide) ?_; conv => whnf)
    by_cases h2 : brd s set 12 &&& set = 0
    · rw [hmp.mpr ⟨h1, h2⟩] at hQ
      rw [h2]
      (refine And.intro (fun h => by omega) (fun h => ?_); conv => whnf)
      (repeat' first | (refine hK _ _ _ _ (zW.go (zC_om _) (fun K hK => ?_)); conv => whnf) | (refine And.intro (by first | omega | assumption | rfl | exact zin_and | exact ⟨zin_and, by omega⟩ | exact ⟨by omega, zin_and⟩ | exact Nat.le_of_ble_eq_true rfl | exact ⟨Nat.le_of_ble_eq_true rfl, rfl⟩ | exact ⟨Nat.le_of_ble_eq_true rfl, by assumption⟩ | decide) ?_; conv => whnf) | (refine And.intro (fun h => ?_) (fun h => ?_) <;> conv => whnf) | (intro h; conv => whnf))
      exact hQ
    · have : mposs s n set = false := by
        cases hq : mposs s n set with
        | false => rfl
        | true => exact absurd (hmp.mp hq).2 h2
      rw [this] at hQ
      (refine And.intro (fun h => ?_) (fun h => by omega); conv => whnf)
      (repeat' first | (refine hK _ _ _ _ (zW.go (zC_om _) (fun K hK => ?_)); conv => whnf) | (refine And.intro (by first | omega | assumption | rfl | exact zin_and | exact ⟨zin_and, by omega⟩ | exact ⟨by omega, zin_and⟩ | exact Nat.le_of_ble_eq_true rfl | exact ⟨Nat.le_of_ble_eq_true rfl, rfl⟩ | exact ⟨Nat.le_of_ble_eq_true rfl, by assumption⟩ | decide) ?_; conv => whnf) | (refine And.intro (fun h => ?_) (fun h => ?_) <;> conv => whnf) | (intro h; conv => whnf))
      exact hQ
  · have : mposs s n set = false := by
      cases hq : mposs s n set with
      | false => rfl
      | true => exact absurd (hmp.mp hq).1 h1
    rw [this] at hQ
    (refine And.intro (fun h => ?_) (fun h => by omega); conv => whnf)
    (repeat' first | (refine hK _ _ _ _ (zW.go (zC_om _) (fun K hK => ?_)); conv => whnf) | (refine And.intro (by first | omega | assumption | rfl | exact zin_and | exact ⟨zin_and, by omega⟩ | exact ⟨by omega, zin_and⟩ | exact Nat.le_of_ble_eq_true rfl | exact ⟨Nat.le_of_ble_eq_true rfl, rfl⟩ | exact ⟨Nat.le_of_ble_eq_true rfl, by assumption⟩ | decide) ?_; conv => whnf) | (refine And.intro (fun h => ?_) (fun h => ?_) <;> conv => whnf) | (intro h; conv => whnf))
    exact hQ
theorem brd_sym (hsym : msym s n) {i t : Nat} (hi : i < 2 ^ n) (ht : t < n) (hn : n ≤ 12) : (brd s i 12).testBit t = true ↔ ¬ mb s t &&& i = 0 := by
  rw [brd_bit, nand0]
  constructor
  · rintro ⟨u, h1, h2, h3⟩ h
    have hun : u < n := by
      rcases Nat.lt_or_ge u n with q | q
      · exact q
      · rw [zlt_bits hi q] at h2; exact Bool.noConfusion h2
    have := h u (by rw [(hsym t ht).2 u hun]; exact h3)
    rw [h2] at this
    exact Bool.noConfusion this
  · intro h
    refine Classical.byContradiction (fun hne => h (fun u hu => ?_))
    cases hb : i.testBit u with
    | false => rfl
    | true =>
      exfalso
      have hun : u < n := by
        rcases Nat.lt_or_ge u n with q | q
        · exact q
        · rw [zlt_bits hi q] at hb; exact Bool.noConfusion hb
      exact hne ⟨u, by omega, hb, by rw [← (hsym t ht).2 u hun]; exact hu⟩
theorem c_free (hk : zKB k) (hr : RelB g k s n) (hok : mok s n) (hsym : msym s n) {i o : Nat} (hi2 : i < 2 ^ n) (ho2 : o < 2 ^ n) (hQ : Q (some (zI (mfree s n i o : Nat))) g) : zC (d + 2) 12 [zR k, zI i, zI o] g Q := by
  obtain ⟨hk0, hk1, hk2, hk3, hk4⟩ := id hk
  have hn12 := hok.2.1
  have h2n := zp12 hn12
  have hbl := brd_lt hsym hi2 12
  have hsv := msumv (set := i) hok
  have hrm := hok.2.2.1
  have hg4 := hr.1
  have hio : i ||| o < 2 ^ n := Nat.or_lt_two_pow hi2 ho2
  have hiob : (i ||| o) ||| brd s i 12 < 2 ^ n := Nat.or_lt_two_pow hio hbl
  refine zC.go zm_X0_freeThings ⟨rfl, rfl⟩ rfl ?_
  have loop : zW zX0_freeThings (zC (d + 1)) Q 20 [zR k, zI i, zI o, zI (mleft s n i), zI ((i ||| o) ||| brd s i 12 : Nat), zI (mfr s n i o 0 : Nat), zI 0] [] g := by
    refine (zdown (P := fun t => zW zX0_freeThings (zC (d + 1)) Q 20 [zR k, zI i, zI o, zI (mleft s n i), zI ((i ||| o) ||| brd s i 12 : Nat), zI (mfr s n i o t : Nat), zI t] [] g) n ?_ ?_)
    · (refine zW.go (zC_om _) (fun K hK => ?_); conv => whnf)
      (refine And.intro (by first | omega | assumption | rfl | exact zin_and | exact ⟨zin_and, by omega⟩ | exact ⟨by omega, zin_and⟩ | exact Nat.le_of_ble_eq_true rfl | exact ⟨Nat.le_of_ble_eq_true rfl, rfl⟩ | exact ⟨Nat.le_of_ble_eq_true rfl, by assumption⟩ | decide) ?_; conv => whnf)
      (refine And.intro (by first | omega | assumption | rfl | exact zin_and | exact ⟨zin_and, by omega⟩ | exact ⟨by omega, zin_and⟩ | exact Nat.le_of_ble_eq_true rfl | exact ⟨Nat.le_of_ble_eq_true rfl, rfl⟩ | exact ⟨Nat.le_of_ble_eq_true rfl, by assumption⟩ | decide) ?_; conv => whnf)
      (refine And.intro (fun h => ?_) (fun h => by omega); conv => whnf)
      (repeat' first | (refine hK _ _ _ _ (zW.go (zC_om _) (fun K hK => ?_)); conv => whnf) | (refine And.intro (by first | omega | assumption | rfl | exact zin_and | exact ⟨zin_and, by omega⟩ | exact ⟨by omega, zin_and⟩ | exact Nat.le_of_ble_eq_true rfl | exact ⟨Nat.le_of_ble_eq_true rfl, rfl⟩ | exact ⟨Nat.le_of_ble_eq_true rfl, by assumption⟩ | decide) ?_; conv => whnf) | (refine And.intro (fun h => ?_) (fun h => ?_) <;> conv => whnf) | (intro h; conv => whnf))
      exact hQ
    · intro t ht hi
      have hlt := mfr_lt s n i o t
      have h2t : 2 ^ t < 2 ^ n := Nat.pow_lt_pow_right (by decide) ht
      have h2tn : 2 ^ t ≤ 2 ^ n := by omega
      have hbs := brd_sym hsym hi2 ht hn12
      have hv := (hr.2.2 t ht).2.1
      have hvr := (hok.2.2.2 t ht).2.1
      have e0 : mfr s n i o (t + 1) = mfr s n i o t ||| (if mfc s n i o t then 2 ^ t else 0) := rfl
      have e1 : mfc s n i o t = (!(i ||| o).testBit t && (decide (mb s t &&& i = 0) && decide (s (21 + t) ≤ mleft s n i))) := rfl
      rw [e0] at hi
      have hbo : ((i ||| o) ||| brd s i 12).testBit t = ((i ||| o).testBit t || (brd s i 12).testBit t) := Nat.testBit_or _ _ _
      have hlr : -600 ≤ mleft s n i ∧ mleft s n i ≤ 200 := by unfold mleft; omega
      generalize mleft s n i = left at *
      (refine zW.go (zC_om _) (fun K hK => ?_); conv => whnf)
      (refine And.intro (by first | omega | assumption | rfl | exact zin_and | exact ⟨zin_and, by omega⟩ | exact ⟨by omega, zin_and⟩ | exact Nat.le_of_ble_eq_true rfl | exact ⟨Nat.le_of_ble_eq_true rfl, rfl⟩ | exact ⟨Nat.le_of_ble_eq_true rfl, by assumption⟩ | decide) ?_; conv => whnf)
      (refine And.intro (by first | omega | assumption | rfl | exact zin_and | exact ⟨zin_and, by omega⟩ | exact ⟨by omega, zin_and⟩ | exact Nat.le_of_ble_eq_true rfl | exact ⟨Nat.le_of_ble_eq_true rfl, rfl⟩ | exact ⟨Nat.le_of_ble_eq_true rfl, by assumption⟩ | decide) ?_; conv => whnf)
      (refine And.intro (fun h => by omega) (fun h => ?_); conv => whnf)
      (refine And.intro (by first | omega | assumption | rfl | exact zin_and | exact ⟨zin_and, by omega⟩ | exact ⟨by omega, zin_and⟩ | exact Nat.le_of_ble_eq_true rfl | exact ⟨Nat.le_of_ble_eq_true rfl, rfl⟩ | exact ⟨Nat.le_of_ble_eq_true rfl, by assumption⟩ | decide) ?_; conv => whnf)
      (refine s_has (by omega) (by omega) ?_; conv => whnf)
      by_cases hb : ((i ||| o) ||| brd s i 12).testBit t = true
      · have hc : mfc s n i o t = false := by
          rw [e1]
          rw [hbo, Bool.or_eq_true] at hb
          rcases hb with hb | hb
          · simp [hb]
          · have := hbs.mp hb
            simp [this]
        rw [hc, if_neg (by decide), Nat.or_zero] at hi
        rw [if_pos hb]
        (refine And.intro (by first | omega | assumption | rfl | exact zin_and | exact ⟨zin_and, by omega⟩ | exact ⟨by omega, zin_and⟩ | exact Nat.le_of_ble_eq_true rfl | exact ⟨Nat.le_of_ble_eq_true rfl, rfl⟩ | exact ⟨Nat.le_of_ble_eq_true rfl, by assumption⟩ | decide) ?_; conv => whnf)
        (refine And.intro (fun h => ?_) (fun h => by omega); conv => whnf)
        (refine hK _ _ _ _ (zW.go (zC_om _) (fun K hK => ?_)); conv => whnf)
        exact hK _ _ _ _ hi
      · have hb1 : (i ||| o).testBit t = false := by
          cases h : (i ||| o).testBit t with
          | false => rfl
          | true => exact absurd (by rw [hbo, h]; rfl) hb
        have hb2 : mb s t &&& i = 0 := by
          refine Classical.byContradiction (fun q => hb ?_)
          rw [hbo, hbs.mpr q, Bool.or_true]
        rw [if_neg hb]
        (refine And.intro (by first | omega | assumption | rfl | exact zin_and | exact ⟨zin_and, by omega⟩ | exact ⟨by omega, zin_and⟩ | exact Nat.le_of_ble_eq_true rfl | exact ⟨Nat.le_of_ble_eq_true rfl, rfl⟩ | exact ⟨Nat.le_of_ble_eq_true rfl, by assumption⟩ | decide) ?_; conv => whnf)
        (refine And.intro (fun h => by omega) (fun h => ?_); conv => whnf)
        (refine And.intro (by first | omega | assumption | rfl | exact zin_and | exact ⟨zin_and, by omega⟩ | exact ⟨by omega, zin_and⟩ | exact Nat.le_of_ble_eq_true rfl | exact ⟨Nat.le_of_ble_eq_true rfl, rfl⟩ | exact ⟨Nat.le_of_ble_eq_true rfl, by assumption⟩ | decide) ?_; conv => whnf)
        (refine And.intro (by first | omega | assumption | rfl | exact zin_and | exact ⟨zin_and, by omega⟩ | exact ⟨by omega, zin_and⟩ | exact Nat.le_of_ble_eq_true rfl | exact ⟨Nat.le_of_ble_eq_true rfl, rfl⟩ | exact ⟨Nat.le_of_ble_eq_true rfl, by assumption⟩ | decide) ?_; conv => whnf)
        (refine c_at hk2 (by omega) hv ?_; conv => whnf)
        (refine And.intro (by first | omega | assumption | rfl | exact zin_and | exact ⟨zin_and, by omega⟩ | exact ⟨by omega, zin_and⟩ | exact Nat.le_of_ble_eq_true rfl | exact ⟨Nat.le_of_ble_eq_true rfl, rfl⟩ | exact ⟨Nat.le_of_ble_eq_true rfl, by assumption⟩ | decide) ?_; conv => whnf)
        by_cases hw : s (21 + t) ≤ left
        · have hc : mfc s n i o t = true := by rw [e1]; simp [hb1, hb2, hw]
          rw [hc, if_pos rfl] at hi
          (refine And.intro (fun h => by omega) (fun h => ?_); conv => whnf)
          rw [zone_shl (by omega), zor_nat (by omega) (by omega)]
          exact hK _ _ _ _ hi
        · have hc : mfc s n i o t = false := by rw [e1]; simp [hw]
          rw [hc, if_neg (by decide), Nat.or_zero] at hi
          (refine And.intro (fun h => ?_) (fun h => by omega); conv => whnf)
          (refine hK _ _ _ _ (zW.go (zC_om _) (fun K hK => ?_)); conv => whnf)
          exact hK _ _ _ _ hi
  (refine zW.upto (zC_om _) 20 (fun K hK => ?_); conv => whnf)
  (refine And.intro (by first | omega | assumption | rfl | exact zin_and | exact ⟨zin_and, by omega⟩ | exact ⟨by omega, zin_and⟩ | exact Nat.le_of_ble_eq_true rfl | exact ⟨Nat.le_of_ble_eq_true rfl, rfl⟩ | exact ⟨Nat.le_of_ble_eq_true rfl, by assumption⟩ | decide) ?_; conv => whnf)
  (refine And.intro (by first | omega | assumption | rfl | exact zin_and | exact ⟨zin_and, by omega⟩ | exact ⟨by omega, zin_and⟩ | exact Nat.le_of_ble_eq_true rfl | exact ⟨Nat.le_of_ble_eq_true rfl, rfl⟩ | exact ⟨Nat.le_of_ble_eq_true rfl, by assumption⟩ | decide) ?_; conv => whnf)
  (refine And.intro (by first | omega | assumption | rfl | exact zin_and | exact ⟨zin_and, by omega⟩ | exact ⟨by omega, zin_and⟩ | exact Nat.le_of_ble_eq_true rfl | exact ⟨Nat.le_of_ble_eq_true rfl, rfl⟩ | exact ⟨Nat.le_of_ble_eq_true rfl, by assumption⟩ | decide) ?_; conv => whnf)
  (refine c_sumV hk hr hn12 hi2 ?_; conv => whnf)
  rw [hr.2.1]
  (refine And.intro (by first | omega | assumption | rfl | exact zin_and | exact ⟨zin_and, by omega⟩ | exact ⟨by omega, zin_and⟩ | exact Nat.le_of_ble_eq_true rfl | exact ⟨Nat.le_of_ble_eq_true rfl, rfl⟩ | exact ⟨Nat.le_of_ble_eq_true rfl, by assumption⟩ | decide) ?_; conv => whnf)
  (refine c_barredBy hk hr hok hsym hi2 ?_; conv => whnf)
  rw [zor_nat (by omega) (by omega), zor_nat (by omega) (by omega)]
  exact hK _ _ _ _ loop
end CP
end
section
/-! the class's bound, as the reference has it -/
def mwh (s : zS) (n fr : Nat) : Nat → Nat → Int → Nat → Nat
  | 0, _, _, w => w
  | m + 1, k, left, w => if fr.testBit (mor s n k) then (if left < s (21 + (mor s n k : Int)) then w else mwh s n fr m (k + 1) (left - s (21 + (mor s n k : Int))) (w ||| 2 ^ (mor s n k))) else mwh s n fr m (k + 1) left w
abbrev mwhole (s : zS) (n i fr : Nat) : Nat := mwh s n fr n 0 (mleft s n i) 0
theorem mwh_lt {s : zS} {n fr : Nat} (hp : mpos s n) : ∀ (m k : Nat) (left : Int) (w : Nat), k + m = n → w < 2 ^ n → mwh s n fr m k left w < 2 ^ n
  | 0, _, _, _, _, h => h
  | m + 1, k, left, w, hk, h => by
    obtain ⟨hmo, -⟩ := mor_spec (s := s) hp (show k < n by omega)
    rw [mwh]
    split
    · split
      · exact h
      · exact mwh_lt hp m (k + 1) _ _ (by omega) (Nat.or_lt_two_pow h (Nat.pow_lt_pow_right (by decide) hmo))
    · exact mwh_lt hp m (k + 1) _ _ (by omega) h
/-- the first of a set, found at its place -/
theorem mfs_at {s : zS} {n set j : Nat} (hj : j < n) (h1 : ∀ x, x < j → set.testBit (mor s n x) = false) (h2 : set.testBit (mor s n j) = true) : mfirst s n set = (mor s n j : Int) := by
  have go : ∀ (m k : Nat), k + m = n → k ≤ j → mfs s n set m k = (mor s n j : Int) := by
    intro m
    induction m with
    | zero => intro k hk hle; omega
    | succ m ih =>
      intro k hk hle
      rw [mfs]
      by_cases hkj : k = j
      · subst hkj
        rw [if_pos h2]
      · rw [if_neg (by rw [h1 k (by omega)]; decide)]
        exact ih (k + 1) (by omega) (by omega)
  exact go n 0 (by omega) (by omega)
theorem mfs_no {s : zS} {n set : Nat} (h1 : ∀ x, x < n → set.testBit (mor s n x) = false) : mfirst s n set = -5 := by
  have go : ∀ (m k : Nat), k + m = n → mfs s n set m k = -5 := by
    intro m
    induction m with
    | zero => intro k hk; rfl
    | succ m ih =>
      intro k hk
      rw [mfs, if_neg (by rw [h1 k (by omega)]; decide)]
      exact ih (k + 1) (by omega)
  exact go n 0 (by omega)
/-- what a thing that is broken gives -/
def mshare (s : zS) (t left : Int) : Int := if t = -5 then 0 else zdiv (s (9 + t) * left) (s (21 + t))
/-- the whole things, the broken one, and the bound -/
theorem mwh_spec {s : zS} {n i fr : Nat} (hp : mpos s n) (hif : ∀ t, fr.testBit t = true → i.testBit t = false) : ∀ (m k : Nat) (left sum : Int) (w : Nat), k + m = n →
    (∀ x, x < n → w.testBit (mor s n x) = (decide (x < k) && fr.testBit (mor s n x))) → sum = bsum s 9 (i ||| w) n → left = s 1 - bsum s 21 (i ||| w) n →
    mspl s n fr m k left = mfirst s n (ndf fr (mwh s n fr m k left w)) ∧ mbd s n fr m k left sum = bsum s 9 (i ||| mwh s n fr m k left w) n + mshare s (mspl s n fr m k left) (s 1 - bsum s 21 (i ||| mwh s n fr m k left w) n)
  | 0, k, left, sum, w, hk, hw, hs, hl => by
    have hkn : k = n := by omega
    subst hkn
    refine ⟨?_, ?_⟩
    · show (-5 : Int) = mfirst s k (ndf fr w)
      rw [mfs_no]
      intro x hx
      rw [ndf_bit, hw x hx]
      simp [hx]
    · show sum = bsum s 9 (i ||| w) k + mshare s (-5) _
      rw [hs]
      unfold mshare
      simp
  | m + 1, k, left, sum, w, hk, hw, hs, hl => by
    obtain ⟨hmo, -⟩ := mor_spec (s := s) hp (show k < n by omega)
    rw [mspl, mwh, mbd]
    by_cases hb : fr.testBit (mor s n k) = true
    · rw [if_pos hb, if_pos hb, if_pos hb]
      by_cases hlt : left < s (21 + (mor s n k : Int))
      · rw [if_pos hlt, if_pos hlt, if_pos hlt]
        refine ⟨?_, ?_⟩
        · rw [mfs_at (j := k) (by omega)]
          · intro x hx
            rw [ndf_bit, hw x (by omega)]
            simp [hx]
          · rw [ndf_bit, hw k (by omega), hb]
            simp
        · rw [← hs, ← hl]
          unfold mshare
          rw [if_neg (by omega)]
      · rw [if_neg hlt, if_neg hlt, if_neg hlt]
        have hwb : (i ||| w).testBit (mor s n k) = false := by
          rw [Nat.testBit_or, hif _ hb, hw k (by omega)]
          simp
        have hor : i ||| (w ||| 2 ^ (mor s n k)) = (i ||| w) ||| 2 ^ (mor s n k) := (Nat.or_assoc _ _ _).symm
        refine mwh_spec hp hif m (k + 1) _ _ _ (by omega) (fun x hx => ?_) ?_ ?_
        · rw [Nat.testBit_or, hw x hx, Nat.testBit_two_pow]
          by_cases hxk : x = k
          · subst hxk
            simp [hb]
          · have h1 : mor s n k ≠ mor s n x := fun q => hxk (mor_inj hp (by omega) hx q).symm
            have h2 : (x < k + 1) ↔ (x < k) := by omega
            simp [h1, h2]
        · rw [hor, bsum_add hwb, if_pos hmo, hs]
        · rw [hor, bsum_add hwb, if_pos hmo, hl]
          omega
    · rw [if_neg hb, if_neg hb, if_neg hb]
      refine mwh_spec hp hif m (k + 1) _ _ _ (by omega) (fun x hx => ?_) hs hl
      rw [hw x hx]
      by_cases hxk : x = k
      · subst hxk
        simp [hb]
      · have h2 : (x < k + 1) ↔ (x < k) := by omega
        simp [h2]
theorem mwhole_spec {s : zS} {n i o : Nat} (hok : mok s n) : msplit s n i o = mfirst s n (ndf (mfree s n i o) (mwhole s n i (mfree s n i o))) ∧
    mbound s n i o = bsum s 9 (i ||| mwhole s n i (mfree s n i o)) n + mshare s (msplit s n i o) (s 1 - bsum s 21 (i ||| mwhole s n i (mfree s n i o)) n) :=
  mwh_spec hok.pos (fun t ht => (mfree_free ht).2.1) n 0 (mleft s n i) (bsum s 9 i n) 0 (by omega) (fun x _ => by simp) (by rw [Nat.or_zero]) (by rw [Nat.or_zero])
section CQ
variable {g : zM} {k n : Nat} {s : zS} {d : Nat} {Q : zP}
theorem c_first (hk : zKB k) (hr : RelB g k s n) (hok : mok s n) {set : Nat} (hs : set < 2 ^ 31) (hQ : Q (some (zI (mfirst s n set))) g) : zC (d + 2) 15 [zR k, zI set] g Q := by
  obtain ⟨hk0, hk1, hk2, hk3, hk4⟩ := id hk
  have hn12 := hok.2.1
  have hg4 := hr.1
  refine zC.go zm_X0_firstByRatio ⟨rfl, rfl⟩ rfl ?_
  have loop : ∀ (m x : Nat) (y : zV), x + m = n → Q (some (zI (mfs s n set m x))) g → zW zX0_firstByRatio (zC (d + 1)) Q 2 [zR k, zI set, zI x, y] [] g := by
    intro m
    induction m with
    | zero =>
      intro x y hx hq
      (refine zW.go (zC_om _) (fun K hK => ?_); conv => whnf)
      (refine And.intro (by first | omega | assumption | rfl | exact zin_and | exact ⟨zin_and, by omega⟩ | exact ⟨by omega, zin_and⟩ | exact Nat.le_of_ble_eq_true rfl | exact ⟨Nat.le_of_ble_eq_true rfl, rfl⟩ | exact ⟨Nat.le_of_ble_eq_true rfl, by assumption⟩ | decide) ?_; conv => whnf)
      (refine And.intro (by first | omega | assumption | rfl | exact zin_and | exact ⟨zin_and, by omega⟩ | exact ⟨by omega, zin_and⟩ | exact Nat.le_of_ble_eq_true rfl | exact ⟨Nat.le_of_ble_eq_true rfl, rfl⟩ | exact ⟨Nat.le_of_ble_eq_true rfl, by assumption⟩ | decide) ?_; conv => whnf)
      (refine And.intro (fun h => ?_) (fun h => by omega); conv => whnf)
      (repeat' first | (refine hK _ _ _ _ (zW.go (zC_om _) (fun K hK => ?_)); conv => whnf) | (refine And.intro (by first | omega | assumption | rfl | exact zin_and | exact ⟨zin_and, by omega⟩ | exact ⟨by omega, zin_and⟩ | exact Nat.le_of_ble_eq_true rfl | exact ⟨Nat.le_of_ble_eq_true rfl, rfl⟩ | exact ⟨Nat.le_of_ble_eq_true rfl, by assumption⟩ | decide) ?_; conv => whnf) | (refine And.intro (fun h => ?_) (fun h => ?_) <;> conv => whnf) | (intro h; conv => whnf))
      exact hq
    | succ m ih =>
      intro x y hx hq
      obtain ⟨hmo, -⟩ := mor_spec (s := s) hok.pos (show x < n by omega)
      have hrx := (hr.2.2 x (by omega)).2.2.2
      rw [mfs] at hq
      (refine zW.go (zC_om _) (fun K hK => ?_); conv => whnf)
      (refine And.intro (by first | omega | assumption | rfl | exact zin_and | exact ⟨zin_and, by omega⟩ | exact ⟨by omega, zin_and⟩ | exact Nat.le_of_ble_eq_true rfl | exact ⟨Nat.le_of_ble_eq_true rfl, rfl⟩ | exact ⟨Nat.le_of_ble_eq_true rfl, by assumption⟩ | decide) ?_; conv => whnf)
      (refine And.intro (by first | omega | assumption | rfl | exact zin_and | exact ⟨zin_and, by omega⟩ | exact ⟨by omega, zin_and⟩ | exact Nat.le_of_ble_eq_true rfl | exact ⟨Nat.le_of_ble_eq_true rfl, rfl⟩ | exact ⟨Nat.le_of_ble_eq_true rfl, by assumption⟩ | decide) ?_; conv => whnf)
      (refine And.intro (fun h => by omega) (fun h => ?_); conv => whnf)
      (refine And.intro (by first | omega | assumption | rfl | exact zin_and | exact ⟨zin_and, by omega⟩ | exact ⟨by omega, zin_and⟩ | exact Nat.le_of_ble_eq_true rfl | exact ⟨Nat.le_of_ble_eq_true rfl, rfl⟩ | exact ⟨Nat.le_of_ble_eq_true rfl, by assumption⟩ | decide) ?_; conv => whnf)
      (refine And.intro (by first | omega | assumption | rfl | exact zin_and | exact ⟨zin_and, by omega⟩ | exact ⟨by omega, zin_and⟩ | exact Nat.le_of_ble_eq_true rfl | exact ⟨Nat.le_of_ble_eq_true rfl, rfl⟩ | exact ⟨Nat.le_of_ble_eq_true rfl, by assumption⟩ | decide) ?_; conv => whnf)
      (refine c_at hk4 (by omega) hrx ?_; conv => whnf)
      (refine And.intro (by first | omega | assumption | rfl | exact zin_and | exact ⟨zin_and, by omega⟩ | exact ⟨by omega, zin_and⟩ | exact Nat.le_of_ble_eq_true rfl | exact ⟨Nat.le_of_ble_eq_true rfl, rfl⟩ | exact ⟨Nat.le_of_ble_eq_true rfl, by assumption⟩ | decide) ?_; conv => whnf)
      (refine s_has (by omega) (by omega) ?_; conv => whnf)
      by_cases hb : set.testBit (mor s n x) = true
      · rw [if_pos hb] at hq ⊢
        (refine And.intro (by first | omega | assumption | rfl | exact zin_and | exact ⟨zin_and, by omega⟩ | exact ⟨by omega, zin_and⟩ | exact Nat.le_of_ble_eq_true rfl | exact ⟨Nat.le_of_ble_eq_true rfl, rfl⟩ | exact ⟨Nat.le_of_ble_eq_true rfl, by assumption⟩ | decide) ?_; conv => whnf)
        (refine And.intro (fun h => by omega) (fun h => ?_); conv => whnf)
        (repeat' first | (refine hK _ _ _ _ (zW.go (zC_om _) (fun K hK => ?_)); conv => whnf) | (refine And.intro (by first | omega | assumption | rfl | exact zin_and | exact ⟨zin_and, by omega⟩ | exact ⟨by omega, zin_and⟩ | exact Nat.le_of_ble_eq_true rfl | exact ⟨Nat.le_of_ble_eq_true rfl, rfl⟩ | exact ⟨Nat.le_of_ble_eq_true rfl, by assumption⟩ | decide) ?_; conv => whnf) | (refine And.intro (fun h => ?_) (fun h => ?_) <;> conv => whnf) | (intro h; conv => whnf))
        exact hq
      · rw [if_neg hb] at hq ⊢
        (refine And.intro (by first | omega | assumption | rfl | exact zin_and | exact ⟨zin_and, by omega⟩ | exact ⟨by omega, zin_and⟩ | exact Nat.le_of_ble_eq_true rfl | exact ⟨Nat.le_of_ble_eq_true rfl, rfl⟩ | exact ⟨Nat.le_of_ble_eq_true rfl, by assumption⟩ | decide) ?_; conv => whnf)
        (refine And.intro (fun h => ?_) (fun h => by omega); conv => whnf)
        (refine hK _ _ _ _ (zW.go (zC_om _) (fun K hK => ?_)); conv => whnf)
        exact hK _ _ _ _ (ih (x + 1) _ (by omega) hq)
  (refine zW.upto (zC_om _) 2 (fun K hK => ?_); conv => whnf)
  exact hK _ _ _ _ (loop n 0 _ (by omega) hQ)
theorem c_whole (hk : zKB k) (hr : RelB g k s n) (hok : mok s n) {i fr : Nat} (hi : i < 2 ^ n) (hf : fr < 2 ^ n) (hQ : Q (some (zI (mwhole s n i fr : Nat))) g) : zC (d + 2) 14 [zR k, zI i, zI fr] g Q := by
  obtain ⟨hk0, hk1, hk2, hk3, hk4⟩ := id hk
  have hn12 := hok.2.1
  have h2n := zp12 hn12
  have hg4 := hr.1
  have hsv := msumv (set := i) hok
  have hrm := hok.2.2.1
  refine zC.go zm_X0_wholeThings ⟨rfl, rfl⟩ rfl ?_
  have loop : ∀ (m x : Nat) (left : Int) (w : Nat) (y : zV), x + m = n → w < 2 ^ n → -600 ≤ left ∧ left ≤ 200 → Q (some (zI (mwh s n fr m x left w : Nat))) g → zW zX0_wholeThings (zC (d + 1)) Q 12 [zR k, zI i, zI fr, zI left, zI w, zI x, y] [] g := by
    intro m
    induction m with
    | zero =>
      intro x left w y hx hw hl hq
      (refine zW.go (zC_om _) (fun K hK => ?_); conv => whnf)
      (refine And.intro (by first | omega | assumption | rfl | exact zin_and | exact ⟨zin_and, by omega⟩ | exact ⟨by omega, zin_and⟩ | exact Nat.le_of_ble_eq_true rfl | exact ⟨Nat.le_of_ble_eq_true rfl, rfl⟩ | exact ⟨Nat.le_of_ble_eq_true rfl, by assumption⟩ | decide) ?_; conv => whnf)
      (refine And.intro (by first | omega | assumption | rfl | exact zin_and | exact ⟨zin_and, by omega⟩ | exact ⟨by omega, zin_and⟩ | exact Nat.le_of_ble_eq_true rfl | exact ⟨Nat.le_of_ble_eq_true rfl, rfl⟩ | exact ⟨Nat.le_of_ble_eq_true rfl, by assumption⟩ | decide) ?_; conv => whnf)
      (refine And.intro (fun h => ?_) (fun h => by omega); conv => whnf)
      (repeat' first | (refine hK _ _ _ _ (zW.go (zC_om _) (fun K hK => ?_)); conv => whnf) | (refine And.intro (by first | omega | assumption | rfl | exact zin_and | exact ⟨zin_and, by omega⟩ | exact ⟨by omega, zin_and⟩ | exact Nat.le_of_ble_eq_true rfl | exact ⟨Nat.le_of_ble_eq_true rfl, rfl⟩ | exact ⟨Nat.le_of_ble_eq_true rfl, by assumption⟩ | decide) ?_; conv => whnf) | (refine And.intro (fun h => ?_) (fun h => ?_) <;> conv => whnf) | (intro h; conv => whnf))
      exact hq
    | succ m ih =>
      intro x left w y hx hw hl hq
      obtain ⟨hmo, -⟩ := mor_spec (s := s) hok.pos (show x < n by omega)
      have hrx := (hr.2.2 x (by omega)).2.2.2
      have hrv := (hr.2.2 _ hmo).2.1
      have hvr := (hok.2.2.2 _ hmo).2.1
      rw [mwh] at hq
      generalize mor s n x = t at *
      have h2t : 2 ^ t < 2 ^ n := Nat.pow_lt_pow_right (by decide) hmo
      have hwt : w ||| 2 ^ t < 2 ^ n := Nat.or_lt_two_pow hw h2t
      (refine zW.go (zC_om _) (fun K hK => ?_); conv => whnf)
      (refine And.intro (by first | omega | assumption | rfl | exact zin_and | exact ⟨zin_and, by omega⟩ | exact ⟨by omega, zin_and⟩ | exact Nat.le_of_ble_eq_true rfl | exact ⟨Nat.le_of_ble_eq_true rfl, rfl⟩ | exact ⟨Nat.le_of_ble_eq_true rfl, by assumption⟩ | decide) ?_; conv => whnf)
      (refine And.intro (by first | omega | assumption | rfl | exact zin_and | exact ⟨zin_and, by omega⟩ | exact ⟨by omega, zin_and⟩ | exact Nat.le_of_ble_eq_true rfl | exact ⟨Nat.le_of_ble_eq_true rfl, rfl⟩ | exact ⟨Nat.le_of_ble_eq_true rfl, by assumption⟩ | decide) ?_; conv => whnf)
      (refine And.intro (fun h => by omega) (fun h => ?_); conv => whnf)
      (refine And.intro (by first | omega | assumption | rfl | exact zin_and | exact ⟨zin_and, by omega⟩ | exact ⟨by omega, zin_and⟩ | exact Nat.le_of_ble_eq_true rfl | exact ⟨Nat.le_of_ble_eq_true rfl, rfl⟩ | exact ⟨Nat.le_of_ble_eq_true rfl, by assumption⟩ | decide) ?_; conv => whnf)
      (refine And.intro (by first | omega | assumption | rfl | exact zin_and | exact ⟨zin_and, by omega⟩ | exact ⟨by omega, zin_and⟩ | exact Nat.le_of_ble_eq_true rfl | exact ⟨Nat.le_of_ble_eq_true rfl, rfl⟩ | exact ⟨Nat.le_of_ble_eq_true rfl, by assumption⟩ | decide) ?_; conv => whnf)
      (refine c_at hk4 (by omega) hrx ?_; conv => whnf)
      (refine And.intro (by first | omega | assumption | rfl | exact zin_and | exact ⟨zin_and, by omega⟩ | exact ⟨by omega, zin_and⟩ | exact Nat.le_of_ble_eq_true rfl | exact ⟨Nat.le_of_ble_eq_true rfl, rfl⟩ | exact ⟨Nat.le_of_ble_eq_true rfl, by assumption⟩ | decide) ?_; conv => whnf)
      (refine s_has (by omega) (by omega) ?_; conv => whnf)
      by_cases hb : fr.testBit t = true
      · rw [if_pos hb] at hq ⊢
        (refine And.intro (by first | omega | assumption | rfl | exact zin_and | exact ⟨zin_and, by omega⟩ | exact ⟨by omega, zin_and⟩ | exact Nat.le_of_ble_eq_true rfl | exact ⟨Nat.le_of_ble_eq_true rfl, rfl⟩ | exact ⟨Nat.le_of_ble_eq_true rfl, by assumption⟩ | decide) ?_; conv => whnf)
        (refine And.intro (fun h => by omega) (fun h => ?_); conv => whnf)
        (refine And.intro (by first | omega | assumption | rfl | exact zin_and | exact ⟨zin_and, by omega⟩ | exact ⟨by omega, zin_and⟩ | exact Nat.le_of_ble_eq_true rfl | exact ⟨Nat.le_of_ble_eq_true rfl, rfl⟩ | exact ⟨Nat.le_of_ble_eq_true rfl, by assumption⟩ | decide) ?_; conv => whnf)
        (refine And.intro (by first | omega | assumption | rfl | exact zin_and | exact ⟨zin_and, by omega⟩ | exact ⟨by omega, zin_and⟩ | exact Nat.le_of_ble_eq_true rfl | exact ⟨Nat.le_of_ble_eq_true rfl, rfl⟩ | exact ⟨Nat.le_of_ble_eq_true rfl, by assumption⟩ | decide) ?_; conv => whnf)
        (refine c_at hk2 (by omega) hrv ?_; conv => whnf)
        (refine And.intro (by first | omega | assumption | rfl | exact zin_and | exact ⟨zin_and, by omega⟩ | exact ⟨by omega, zin_and⟩ | exact Nat.le_of_ble_eq_true rfl | exact ⟨Nat.le_of_ble_eq_true rfl, rfl⟩ | exact ⟨Nat.le_of_ble_eq_true rfl, by assumption⟩ | decide) ?_; conv => whnf)
        by_cases hlt : left < s (21 + t)
        · rw [if_pos hlt] at hq
          (refine And.intro (fun h => by omega) (fun h => ?_); conv => whnf)
          (repeat' first | (refine hK _ _ _ _ (zW.go (zC_om _) (fun K hK => ?_)); conv => whnf) | (refine And.intro (by first | omega | assumption | rfl | exact zin_and | exact ⟨zin_and, by omega⟩ | exact ⟨by omega, zin_and⟩ | exact Nat.le_of_ble_eq_true rfl | exact ⟨Nat.le_of_ble_eq_true rfl, rfl⟩ | exact ⟨Nat.le_of_ble_eq_true rfl, by assumption⟩ | decide) ?_; conv => whnf) | (refine And.intro (fun h => ?_) (fun h => ?_) <;> conv => whnf) | (intro h; conv => whnf))
          exact hq
        · rw [if_neg hlt] at hq
          (refine And.intro (fun h => ?_) (fun h => by omega); conv => whnf)
          (refine hK _ _ _ _ (zW.go (zC_om _) (fun K hK => ?_)); conv => whnf)
          rw [zone_shl (by omega), zor_nat (by omega) (by omega)]
          exact hK _ _ _ _ (ih (x + 1) _ _ _ (by omega) hwt (by omega) hq)
      · rw [if_neg hb] at hq ⊢
        (refine And.intro (by first | omega | assumption | rfl | exact zin_and | exact ⟨zin_and, by omega⟩ | exact ⟨by omega, zin_and⟩ | exact Nat.le_of_ble_eq_true rfl | exact ⟨Nat.le_of_ble_eq_true rfl, rfl⟩ | exact ⟨Nat.le_of_ble_eq_true rfl, by assumption⟩ | decide) ?_; conv => whnf)
        (refine And.intro (fun h => ?_) (fun h => by omega); conv => whnf)
        (refine hK _ _ _ _ (zW.go (zC_om _) (fun K hK => ?_)); conv => whnf)
        exact hK _ _ _ _ (ih (x + 1) _ _ _ (by omega) hw hl hq)
  (refine zW.upto (zC_om _) 12 (fun K hK => ?_); conv => whnf)
  (refine And.intro (by first | omega | assumption | rfl | exact zin_and | exact ⟨zin_and, by omega⟩ | exact ⟨by omega, zin_and⟩ | exact Nat.le_of_ble_eq_true rfl | exact ⟨Nat.le_of_ble_eq_true rfl, rfl⟩ | exact ⟨Nat.le_of_ble_eq_true rfl, by assumption⟩ | decide) ?_; conv => whnf)
  (refine And.intro (by first | omega | assumption | rfl | exact zin_and | exact ⟨zin_and, by omega⟩ | exact ⟨by omega, zin_and⟩ | exact Nat.le_of_ble_eq_true rfl | exact ⟨Nat.le_of_ble_eq_true rfl, rfl⟩ | exact ⟨Nat.le_of_ble_eq_true rfl, by assumption⟩ | decide) ?_; conv => whnf)
  (refine And.intro (by first | omega | assumption | rfl | exact zin_and | exact ⟨zin_and, by omega⟩ | exact ⟨by omega, zin_and⟩ | exact Nat.le_of_ble_eq_true rfl | exact ⟨Nat.le_of_ble_eq_true rfl, rfl⟩ | exact ⟨Nat.le_of_ble_eq_true rfl, by assumption⟩ | decide) ?_; conv => whnf)
  (refine c_sumV hk hr hn12 hi ?_; conv => whnf)
  rw [hr.2.1]
  exact hK _ _ _ _ (loop n 0 _ 0 _ (by omega) (Nat.two_pow_pos n) (by omega) hQ)
theorem c_share (hk : zKB k) (hr : RelB g k s n) (hok : mok s n) {t left : Int} (ht : t = -5 ∨ (0 ≤ t ∧ t < n)) (hQ : Q (some (zI (mshare s t left))) g) : zC (d + 2) 16 [zR k, zI t, zI left] g Q := by
  obtain ⟨hk0, hk1, hk2, hk3, hk4⟩ := id hk
  have hn12 := hok.2.1
  refine zC.go zm_X0_shareOf ⟨rfl, rfl⟩ rfl ?_
  unfold mshare at hQ
  rcases ht with ht | ht
  · subst ht
    rw [if_pos rfl] at hQ
    (refine zW.go (zC_om _) (fun K hK => ?_); conv => whnf)
    (refine And.intro (by first | omega | assumption | rfl | exact zin_and | exact ⟨zin_and, by omega⟩ | exact ⟨by omega, zin_and⟩ | exact Nat.le_of_ble_eq_true rfl | exact ⟨Nat.le_of_ble_eq_true rfl, rfl⟩ | exact ⟨Nat.le_of_ble_eq_true rfl, by assumption⟩ | decide) ?_; conv => whnf)
    (refine And.intro (by first | omega | assumption | rfl | exact zin_and | exact ⟨zin_and, by omega⟩ | exact ⟨by omega, zin_and⟩ | exact Nat.le_of_ble_eq_true rfl | exact ⟨Nat.le_of_ble_eq_true rfl, rfl⟩ | exact ⟨Nat.le_of_ble_eq_true rfl, by assumption⟩ | decide) ?_; conv => whnf)
    (refine s_at hk2 (by omega) (by omega) ?_; conv => whnf)
    rw [if_neg (by omega)]
    (refine And.intro (by first | omega | assumption | rfl | exact zin_and | exact ⟨zin_and, by omega⟩ | exact ⟨by omega, zin_and⟩ | exact Nat.le_of_ble_eq_true rfl | exact ⟨Nat.le_of_ble_eq_true rfl, rfl⟩ | exact ⟨Nat.le_of_ble_eq_true rfl, by assumption⟩ | decide) ?_; conv => whnf)
    (refine And.intro (fun h => ?_) (fun h => by omega); conv => whnf)
    (repeat' first | (refine hK _ _ _ _ (zW.go (zC_om _) (fun K hK => ?_)); conv => whnf) | (refine And.intro (by first | omega | assumption | rfl | exact zin_and | exact ⟨zin_and, by omega⟩ | exact ⟨by omega, zin_and⟩ | exact Nat.le_of_ble_eq_true rfl | exact ⟨Nat.le_of_ble_eq_true rfl, rfl⟩ | exact ⟨Nat.le_of_ble_eq_true rfl, by assumption⟩ | decide) ?_; conv => whnf) | (refine And.intro (fun h => ?_) (fun h => ?_) <;> conv => whnf) | (intro h; conv => whnf))
    exact hQ
  · obtain ⟨u, rfl⟩ : ∃ u : Nat, t = (u : Int) := ⟨t.toNat, by omega⟩
    rw [if_neg (by omega)] at hQ
    have hu : u < n := by omega
    have hrv := (hr.2.2 u hu).2.1
    have hrw := (hr.2.2 u hu).1
    have hvr := (hok.2.2.2 u hu).2.1
    (refine zW.go (zC_om _) (fun K hK => ?_); conv => whnf)
    (refine And.intro (by first | omega | assumption | rfl | exact zin_and | exact ⟨zin_and, by omega⟩ | exact ⟨by omega, zin_and⟩ | exact Nat.le_of_ble_eq_true rfl | exact ⟨Nat.le_of_ble_eq_true rfl, rfl⟩ | exact ⟨Nat.le_of_ble_eq_true rfl, by assumption⟩ | decide) ?_; conv => whnf)
    (refine And.intro (by first | omega | assumption | rfl | exact zin_and | exact ⟨zin_and, by omega⟩ | exact ⟨by omega, zin_and⟩ | exact Nat.le_of_ble_eq_true rfl | exact ⟨Nat.le_of_ble_eq_true rfl, rfl⟩ | exact ⟨Nat.le_of_ble_eq_true rfl, by assumption⟩ | decide) ?_; conv => whnf)
    (refine c_at hk2 (by omega) hrv ?_; conv => whnf)
    (refine And.intro (by first | omega | assumption | rfl | exact zin_and | exact ⟨zin_and, by omega⟩ | exact ⟨by omega, zin_and⟩ | exact Nat.le_of_ble_eq_true rfl | exact ⟨Nat.le_of_ble_eq_true rfl, rfl⟩ | exact ⟨Nat.le_of_ble_eq_true rfl, by assumption⟩ | decide) ?_; conv => whnf)
    (refine And.intro (fun h => by omega) (fun h => ?_); conv => whnf)
    (refine And.intro (by first | omega | assumption | rfl | exact zin_and | exact ⟨zin_and, by omega⟩ | exact ⟨by omega, zin_and⟩ | exact Nat.le_of_ble_eq_true rfl | exact ⟨Nat.le_of_ble_eq_true rfl, rfl⟩ | exact ⟨Nat.le_of_ble_eq_true rfl, by assumption⟩ | decide) ?_; conv => whnf)
    (refine And.intro (by first | omega | assumption | rfl | exact zin_and | exact ⟨zin_and, by omega⟩ | exact ⟨by omega, zin_and⟩ | exact Nat.le_of_ble_eq_true rfl | exact ⟨Nat.le_of_ble_eq_true rfl, rfl⟩ | exact ⟨Nat.le_of_ble_eq_true rfl, by assumption⟩ | decide) ?_; conv => whnf)
    (refine c_at hk1 (by omega) hrw ?_; conv => whnf)
    (refine And.intro (by first | omega | assumption | rfl | exact zin_and | exact ⟨zin_and, by omega⟩ | exact ⟨by omega, zin_and⟩ | exact Nat.le_of_ble_eq_true rfl | exact ⟨Nat.le_of_ble_eq_true rfl, rfl⟩ | exact ⟨Nat.le_of_ble_eq_true rfl, by assumption⟩ | decide) ?_; conv => whnf)
    (refine hK _ _ _ _ (zW.go (zC_om _) (fun K hK => ?_)); conv => whnf)
    (repeat' first | (refine hK _ _ _ _ (zW.go (zC_om _) (fun K hK => ?_)); conv => whnf) | (refine And.intro (by first | omega | assumption | rfl | exact zin_and | exact ⟨zin_and, by omega⟩ | exact ⟨by omega, zin_and⟩ | exact Nat.le_of_ble_eq_true rfl | exact ⟨Nat.le_of_ble_eq_true rfl, rfl⟩ | exact ⟨Nat.le_of_ble_eq_true rfl, by assumption⟩ | decide) ?_; conv => whnf) | (refine And.intro (fun h => ?_) (fun h => ?_) <;> conv => whnf) | (intro h; conv => whnf))
    exact hQ
theorem c_bound (hk : zKB k) (hr : RelB g k s n) (hok : mok s n) (hsym : msym s n) {i o : Nat} (hi : i < 2 ^ n) (ho : o < 2 ^ n) (hQ : Q (some (zI (if mposs s n i = true then mbound s n i o else -4))) g) : zC (d + 3) 13 [zR k, zI i, zI o] g Q := by
  obtain ⟨hk0, hk1, hk2, hk3, hk4⟩ := id hk
  have hn12 := hok.2.1
  have h2n := zp12 hn12
  have hfl : mfree s n i o < 2 ^ n := mfr_lt s n i o n
  have hwl : mwhole s n i (mfree s n i o) < 2 ^ n := mwh_lt hok.pos n 0 _ 0 (by omega) (Nat.two_pow_pos n)
  have hil : i ||| mwhole s n i (mfree s n i o) < 2 ^ n := Nat.or_lt_two_pow hi hwl
  obtain ⟨e1, e2⟩ := mwhole_spec (i := i) (o := o) hok
  have hdl := ndf_lt (b := i ||| mwhole s n i (mfree s n i o)) hfl
  have hnd : ndf (mfree s n i o) (i ||| mwhole s n i (mfree s n i o)) = ndf (mfree s n i o) (mwhole s n i (mfree s n i o)) := by
    refine Nat.eq_of_testBit_eq (fun t => ?_)
    rw [ndf_bit, ndf_bit, Nat.testBit_or]
    cases hft : (mfree s n i o).testBit t with
    | false => rfl
    | true => rw [(mfree_free hft).2.1]; rfl
  have r1 : msplit s n i o = -5 ∨ (0 ≤ msplit s n i o ∧ msplit s n i o < n) := by
    rcases mspl_rng (s := s) (fr := mfree s n i o) hok.pos n 0 (mleft s n i) (by omega) with r | r
    · exact Or.inl r
    · exact Or.inr ⟨r.1, r.2.1⟩
  refine zC.go zm_X0_bound ⟨rfl, rfl⟩ rfl ?_
  (refine zW.go (zC_om _) (fun K hK => ?_); conv => whnf)
  (refine And.intro (by first | omega | assumption | rfl | exact zin_and | exact ⟨zin_and, by omega⟩ | exact ⟨by omega, zin_and⟩ | exact Nat.le_of_ble_eq_true rfl | exact ⟨Nat.le_of_ble_eq_true rfl, rfl⟩ | exact ⟨Nat.le_of_ble_eq_true rfl, by assumption⟩ | decide) ?_; conv => whnf)
  (refine c_isPossible hk hr hok hsym hi ?_; conv => whnf)
  by_cases hp : mposs s n i = true
  · rw [if_pos hp] at hQ
    rw [hp, zb_t]
    (refine And.intro (by first | omega | assumption | rfl | exact zin_and | exact ⟨zin_and, by omega⟩ | exact ⟨by omega, zin_and⟩ | exact Nat.le_of_ble_eq_true rfl | exact ⟨Nat.le_of_ble_eq_true rfl, rfl⟩ | exact ⟨Nat.le_of_ble_eq_true rfl, by assumption⟩ | decide) ?_; conv => whnf)
    (refine And.intro (fun h => ?_) (fun h => by omega); conv => whnf)
    (refine hK _ _ _ _ (zW.go (zC_om _) (fun K hK => ?_)); conv => whnf)
    (refine And.intro (by first | omega | assumption | rfl | exact zin_and | exact ⟨zin_and, by omega⟩ | exact ⟨by omega, zin_and⟩ | exact Nat.le_of_ble_eq_true rfl | exact ⟨Nat.le_of_ble_eq_true rfl, rfl⟩ | exact ⟨Nat.le_of_ble_eq_true rfl, by assumption⟩ | decide) ?_; conv => whnf)
    (refine c_free hk hr hok hsym hi ho ?_; conv => whnf)
    (refine And.intro (by first | omega | assumption | rfl | exact zin_and | exact ⟨zin_and, by omega⟩ | exact ⟨by omega, zin_and⟩ | exact Nat.le_of_ble_eq_true rfl | exact ⟨Nat.le_of_ble_eq_true rfl, rfl⟩ | exact ⟨Nat.le_of_ble_eq_true rfl, by assumption⟩ | decide) ?_; conv => whnf)
    (refine c_whole hk hr hok hi hfl ?_; conv => whnf)
    rw [zor_nat (by omega) (by omega)]
    rw [zandnot (by omega) (by omega), hnd]
    (refine And.intro (by first | omega | assumption | rfl | exact zin_and | exact ⟨zin_and, by omega⟩ | exact ⟨by omega, zin_and⟩ | exact Nat.le_of_ble_eq_true rfl | exact ⟨Nat.le_of_ble_eq_true rfl, rfl⟩ | exact ⟨Nat.le_of_ble_eq_true rfl, by assumption⟩ | decide) ?_; conv => whnf)
    (refine c_first hk hr hok (by rw [← hnd]; omega) ?_; conv => whnf)
    rw [← e1]
    (refine And.intro (by first | omega | assumption | rfl | exact zin_and | exact ⟨zin_and, by omega⟩ | exact ⟨by omega, zin_and⟩ | exact Nat.le_of_ble_eq_true rfl | exact ⟨Nat.le_of_ble_eq_true rfl, rfl⟩ | exact ⟨Nat.le_of_ble_eq_true rfl, by assumption⟩ | decide) ?_; conv => whnf)
    (refine And.intro (by first | omega | assumption | rfl | exact zin_and | exact ⟨zin_and, by omega⟩ | exact ⟨by omega, zin_and⟩ | exact Nat.le_of_ble_eq_true rfl | exact ⟨Nat.le_of_ble_eq_true rfl, rfl⟩ | exact ⟨Nat.le_of_ble_eq_true rfl, by assumption⟩ | decide) ?_; conv => whnf)
    (refine c_sumW hk hr hn12 hil ?_; conv => whnf)
    (refine And.intro (by first | omega | assumption | rfl | exact zin_and | exact ⟨zin_and, by omega⟩ | exact ⟨by omega, zin_and⟩ | exact Nat.le_of_ble_eq_true rfl | exact ⟨Nat.le_of_ble_eq_true rfl, rfl⟩ | exact ⟨Nat.le_of_ble_eq_true rfl, by assumption⟩ | decide) ?_; conv => whnf)
    (refine And.intro (by first | omega | assumption | rfl | exact zin_and | exact ⟨zin_and, by omega⟩ | exact ⟨by omega, zin_and⟩ | exact Nat.le_of_ble_eq_true rfl | exact ⟨Nat.le_of_ble_eq_true rfl, rfl⟩ | exact ⟨Nat.le_of_ble_eq_true rfl, by assumption⟩ | decide) ?_; conv => whnf)
    (refine And.intro (by first | omega | assumption | rfl | exact zin_and | exact ⟨zin_and, by omega⟩ | exact ⟨by omega, zin_and⟩ | exact Nat.le_of_ble_eq_true rfl | exact ⟨Nat.le_of_ble_eq_true rfl, rfl⟩ | exact ⟨Nat.le_of_ble_eq_true rfl, by assumption⟩ | decide) ?_; conv => whnf)
    (refine c_sumV hk hr hn12 hil ?_; conv => whnf)
    rw [hr.2.1]
    (refine And.intro (by first | omega | assumption | rfl | exact zin_and | exact ⟨zin_and, by omega⟩ | exact ⟨by omega, zin_and⟩ | exact Nat.le_of_ble_eq_true rfl | exact ⟨Nat.le_of_ble_eq_true rfl, rfl⟩ | exact ⟨Nat.le_of_ble_eq_true rfl, by assumption⟩ | decide) ?_; conv => whnf)
    (refine c_share hk hr hok r1 ?_; conv => whnf)
    (refine And.intro (by first | omega | assumption | rfl | exact zin_and | exact ⟨zin_and, by omega⟩ | exact ⟨by omega, zin_and⟩ | exact Nat.le_of_ble_eq_true rfl | exact ⟨Nat.le_of_ble_eq_true rfl, rfl⟩ | exact ⟨Nat.le_of_ble_eq_true rfl, by assumption⟩ | decide) ?_; conv => whnf)
    rw [← e2]
    exact hQ
  · have hp2 : mposs s n i = false := by simpa using hp
    rw [if_neg hp] at hQ
    rw [hp2, zb_f]
    (refine And.intro (by first | omega | assumption | rfl | exact zin_and | exact ⟨zin_and, by omega⟩ | exact ⟨by omega, zin_and⟩ | exact Nat.le_of_ble_eq_true rfl | exact ⟨Nat.le_of_ble_eq_true rfl, rfl⟩ | exact ⟨Nat.le_of_ble_eq_true rfl, by assumption⟩ | decide) ?_; conv => whnf)
    (refine And.intro (fun h => by omega) (fun h => ?_); conv => whnf)
    (repeat' first | (refine hK _ _ _ _ (zW.go (zC_om _) (fun K hK => ?_)); conv => whnf) | (refine And.intro (by first | omega | assumption | rfl | exact zin_and | exact ⟨zin_and, by omega⟩ | exact ⟨by omega, zin_and⟩ | exact Nat.le_of_ble_eq_true rfl | exact ⟨Nat.le_of_ble_eq_true rfl, rfl⟩ | exact ⟨Nat.le_of_ble_eq_true rfl, by assumption⟩ | decide) ?_; conv => whnf) | (refine And.intro (fun h => ?_) (fun h => ?_) <;> conv => whnf) | (intro h; conv => whnf))
    exact hQ
end CQ
end
section
/-! the class's heel and the thing on which a node is branched -/
section CR
variable {g : zM} {k n : Nat} {s : zS} {d : Nat} {Q : zP}
theorem c_heel (hk : zKB k) (hr : RelB g k s n) (hok : mok s n) (hsym : msym s n) {i o : Nat} (hi : i < 2 ^ n) (ho : o < 2 ^ n) (hQ : Q (some (zI (mheel s n i o : Nat))) g) : zC (d + 3) 17 [zR k, zI i, zI o] g Q := by
  obtain ⟨hk0, hk1, hk2, hk3, hk4⟩ := id hk
  have hn12 := hok.2.1
  have h2n := zp12 hn12
  have hg4 := hr.1
  have hsv := msumv (set := i) hok
  have hrm := hok.2.2.1
  have hfl : mfree s n i o < 2 ^ n := mfr_lt s n i o n
  generalize hfr : mfree s n i o = fr at *
  refine zC.go zm_X0_heel ⟨rfl, rfl⟩ rfl ?_
  have loop : ∀ (m x set : Nat) (left : Int) (y z : zV), x + m = n → set < 2 ^ n → -600 ≤ left ∧ left ≤ 200 → Q (some (zI (mhl s n fr m x set left : Nat))) g → zW zX0_heel (zC (d + 2)) Q 17 [zR k, zI i, zI o, zI fr, zI left, zI set, zI x, y, z] [] g := by
    intro m
    induction m with
    | zero =>
      intro x set left y z hx hs hl hq
      (refine zW.go (zC_om _) (fun K hK => ?_); conv => whnf)
      (refine And.intro (by first | omega | assumption | rfl | exact zin_and | exact ⟨zin_and, by omega⟩ | exact ⟨by omega, zin_and⟩ | exact Nat.le_of_ble_eq_true rfl | exact ⟨Nat.le_of_ble_eq_true rfl, rfl⟩ | exact ⟨Nat.le_of_ble_eq_true rfl, by assumption⟩ | exact ⟨by omega, Nat.le_of_ble_eq_true rfl⟩ | exact ⟨⟨by assumption, by omega⟩, Nat.le_of_ble_eq_true rfl⟩ | decide) ?_; conv => whnf)
      (refine And.intro (by first | omega | assumption | rfl | exact zin_and | exact ⟨zin_and, by omega⟩ | exact ⟨by omega, zin_and⟩ | exact Nat.le_of_ble_eq_true rfl | exact ⟨Nat.le_of_ble_eq_true rfl, rfl⟩ | exact ⟨Nat.le_of_ble_eq_true rfl, by assumption⟩ | exact ⟨by omega, Nat.le_of_ble_eq_true rfl⟩ | exact ⟨⟨by assumption, by omega⟩, Nat.le_of_ble_eq_true rfl⟩ | decide) ?_; conv => whnf)
      (refine And.intro (fun h => ?_) (fun h => by omega); conv => whnf)
      (repeat' first | (refine hK _ _ _ _ (zW.go (zC_om _) (fun K hK => ?_)); conv => whnf) | (refine And.intro (by first | omega | assumption | rfl | exact zin_and | exact ⟨zin_and, by omega⟩ | exact ⟨by omega, zin_and⟩ | exact Nat.le_of_ble_eq_true rfl | exact ⟨Nat.le_of_ble_eq_true rfl, rfl⟩ | exact ⟨Nat.le_of_ble_eq_true rfl, by assumption⟩ | exact ⟨by omega, Nat.le_of_ble_eq_true rfl⟩ | exact ⟨⟨by assumption, by omega⟩, Nat.le_of_ble_eq_true rfl⟩ | decide) ?_; conv => whnf) | (refine And.intro (fun h => ?_) (fun h => ?_) <;> conv => whnf) | (intro h; conv => whnf))
      exact hq
    | succ m ih =>
      intro x set left y z hx hs hl hq
      obtain ⟨hmo, -⟩ := mor_spec (s := s) hok.pos (show x < n by omega)
      have hrx := (hr.2.2 x (by omega)).2.2.2
      have hrv := (hr.2.2 _ hmo).2.1
      have hrb := (hr.2.2 _ hmo).2.2.1
      have hvr := (hok.2.2.2 _ hmo).2.1
      have hmb := mb_eq hok hmo
      have hml := mb_lt hok hmo
      rw [mhl] at hq
      generalize mor s n x = t at *
      have h2t : 2 ^ t < 2 ^ n := Nat.pow_lt_pow_right (by decide) hmo
      have hst : set ||| 2 ^ t < 2 ^ n := Nat.or_lt_two_pow hs h2t
      rw [hmb] at hrb
      (refine zW.go (zC_om _) (fun K hK => ?_); conv => whnf)
      (refine And.intro (by first | omega | assumption | rfl | exact zin_and | exact ⟨zin_and, by omega⟩ | exact ⟨by omega, zin_and⟩ | exact Nat.le_of_ble_eq_true rfl | exact ⟨Nat.le_of_ble_eq_true rfl, rfl⟩ | exact ⟨Nat.le_of_ble_eq_true rfl, by assumption⟩ | exact ⟨by omega, Nat.le_of_ble_eq_true rfl⟩ | exact ⟨⟨by assumption, by omega⟩, Nat.le_of_ble_eq_true rfl⟩ | decide) ?_; conv => whnf)
      (refine And.intro (by first | omega | assumption | rfl | exact zin_and | exact ⟨zin_and, by omega⟩ | exact ⟨by omega, zin_and⟩ | exact Nat.le_of_ble_eq_true rfl | exact ⟨Nat.le_of_ble_eq_true rfl, rfl⟩ | exact ⟨Nat.le_of_ble_eq_true rfl, by assumption⟩ | exact ⟨by omega, Nat.le_of_ble_eq_true rfl⟩ | exact ⟨⟨by assumption, by omega⟩, Nat.le_of_ble_eq_true rfl⟩ | decide) ?_; conv => whnf)
      (refine And.intro (fun h => by omega) (fun h => ?_); conv => whnf)
      (refine And.intro (by first | omega | assumption | rfl | exact zin_and | exact ⟨zin_and, by omega⟩ | exact ⟨by omega, zin_and⟩ | exact Nat.le_of_ble_eq_true rfl | exact ⟨Nat.le_of_ble_eq_true rfl, rfl⟩ | exact ⟨Nat.le_of_ble_eq_true rfl, by assumption⟩ | exact ⟨by omega, Nat.le_of_ble_eq_true rfl⟩ | exact ⟨⟨by assumption, by omega⟩, Nat.le_of_ble_eq_true rfl⟩ | decide) ?_; conv => whnf)
      (refine And.intro (by first | omega | assumption | rfl | exact zin_and | exact ⟨zin_and, by omega⟩ | exact ⟨by omega, zin_and⟩ | exact Nat.le_of_ble_eq_true rfl | exact ⟨Nat.le_of_ble_eq_true rfl, rfl⟩ | exact ⟨Nat.le_of_ble_eq_true rfl, by assumption⟩ | exact ⟨by omega, Nat.le_of_ble_eq_true rfl⟩ | exact ⟨⟨by assumption, by omega⟩, Nat.le_of_ble_eq_true rfl⟩ | decide) ?_; conv => whnf)
      (refine c_at hk4 (by omega) hrx ?_; conv => whnf)
      (refine And.intro (by first | omega | assumption | rfl | exact zin_and | exact ⟨zin_and, by omega⟩ | exact ⟨by omega, zin_and⟩ | exact Nat.le_of_ble_eq_true rfl | exact ⟨Nat.le_of_ble_eq_true rfl, rfl⟩ | exact ⟨Nat.le_of_ble_eq_true rfl, by assumption⟩ | exact ⟨by omega, Nat.le_of_ble_eq_true rfl⟩ | exact ⟨⟨by assumption, by omega⟩, Nat.le_of_ble_eq_true rfl⟩ | decide) ?_; conv => whnf)
      (refine s_has (by omega) (by omega) ?_; conv => whnf)
      by_cases hb : fr.testBit t = true
      · rw [if_pos hb]
        (refine And.intro (by first | omega | assumption | rfl | exact zin_and | exact ⟨zin_and, by omega⟩ | exact ⟨by omega, zin_and⟩ | exact Nat.le_of_ble_eq_true rfl | exact ⟨Nat.le_of_ble_eq_true rfl, rfl⟩ | exact ⟨Nat.le_of_ble_eq_true rfl, by assumption⟩ | exact ⟨by omega, Nat.le_of_ble_eq_true rfl⟩ | exact ⟨⟨by assumption, by omega⟩, Nat.le_of_ble_eq_true rfl⟩ | decide) ?_; conv => whnf)
        (refine And.intro (fun h => by omega) (fun h => ?_); conv => whnf)
        (refine And.intro (by first | omega | assumption | rfl | exact zin_and | exact ⟨zin_and, by omega⟩ | exact ⟨by omega, zin_and⟩ | exact Nat.le_of_ble_eq_true rfl | exact ⟨Nat.le_of_ble_eq_true rfl, rfl⟩ | exact ⟨Nat.le_of_ble_eq_true rfl, by assumption⟩ | exact ⟨by omega, Nat.le_of_ble_eq_true rfl⟩ | exact ⟨⟨by assumption, by omega⟩, Nat.le_of_ble_eq_true rfl⟩ | decide) ?_; conv => whnf)
        (refine And.intro (by first | omega | assumption | rfl | exact zin_and | exact ⟨zin_and, by omega⟩ | exact ⟨by omega, zin_and⟩ | exact Nat.le_of_ble_eq_true rfl | exact ⟨Nat.le_of_ble_eq_true rfl, rfl⟩ | exact ⟨Nat.le_of_ble_eq_true rfl, by assumption⟩ | exact ⟨by omega, Nat.le_of_ble_eq_true rfl⟩ | exact ⟨⟨by assumption, by omega⟩, Nat.le_of_ble_eq_true rfl⟩ | decide) ?_; conv => whnf)
        (refine c_at hk2 (by omega) hrv ?_; conv => whnf)
        (refine And.intro (by first | omega | assumption | rfl | exact zin_and | exact ⟨zin_and, by omega⟩ | exact ⟨by omega, zin_and⟩ | exact Nat.le_of_ble_eq_true rfl | exact ⟨Nat.le_of_ble_eq_true rfl, rfl⟩ | exact ⟨Nat.le_of_ble_eq_true rfl, by assumption⟩ | exact ⟨by omega, Nat.le_of_ble_eq_true rfl⟩ | exact ⟨⟨by assumption, by omega⟩, Nat.le_of_ble_eq_true rfl⟩ | decide) ?_; conv => whnf)
        by_cases hle : s (21 + t) ≤ left
        · (refine And.intro (fun h => by omega) (fun h => ?_); conv => whnf)
          (refine hK _ _ _ _ (zW.go (zC_om _) (fun K hK => ?_)); conv => whnf)
          (refine And.intro (by first | omega | assumption | rfl | exact zin_and | exact ⟨zin_and, by omega⟩ | exact ⟨by omega, zin_and⟩ | exact Nat.le_of_ble_eq_true rfl | exact ⟨Nat.le_of_ble_eq_true rfl, rfl⟩ | exact ⟨Nat.le_of_ble_eq_true rfl, by assumption⟩ | exact ⟨by omega, Nat.le_of_ble_eq_true rfl⟩ | exact ⟨⟨by assumption, by omega⟩, Nat.le_of_ble_eq_true rfl⟩ | decide) ?_; conv => whnf)
          (refine And.intro (fun h => by omega) (fun h => ?_); conv => whnf)
          (refine And.intro (by first | omega | assumption | rfl | exact zin_and | exact ⟨zin_and, by omega⟩ | exact ⟨by omega, zin_and⟩ | exact Nat.le_of_ble_eq_true rfl | exact ⟨Nat.le_of_ble_eq_true rfl, rfl⟩ | exact ⟨Nat.le_of_ble_eq_true rfl, by assumption⟩ | exact ⟨by omega, Nat.le_of_ble_eq_true rfl⟩ | exact ⟨⟨by assumption, by omega⟩, Nat.le_of_ble_eq_true rfl⟩ | decide) ?_; conv => whnf)
          (refine And.intro (by first | omega | assumption | rfl | exact zin_and | exact ⟨zin_and, by omega⟩ | exact ⟨by omega, zin_and⟩ | exact Nat.le_of_ble_eq_true rfl | exact ⟨Nat.le_of_ble_eq_true rfl, rfl⟩ | exact ⟨Nat.le_of_ble_eq_true rfl, by assumption⟩ | exact ⟨by omega, Nat.le_of_ble_eq_true rfl⟩ | exact ⟨⟨by assumption, by omega⟩, Nat.le_of_ble_eq_true rfl⟩ | decide) ?_; conv => whnf)
          (refine c_at hk3 (by omega) hrb ?_; conv => whnf)
          rw [zand_nat (by omega) (by omega)]
          have hle2 : mb s t &&& set ≤ mb s t := Nat.and_le_left
          (refine And.intro (by first | omega | assumption | rfl | exact zin_and | exact ⟨zin_and, by omega⟩ | exact ⟨by omega, zin_and⟩ | exact Nat.le_of_ble_eq_true rfl | exact ⟨Nat.le_of_ble_eq_true rfl, rfl⟩ | exact ⟨Nat.le_of_ble_eq_true rfl, by assumption⟩ | exact ⟨by omega, Nat.le_of_ble_eq_true rfl⟩ | exact ⟨⟨by assumption, by omega⟩, Nat.le_of_ble_eq_true rfl⟩ | decide) ?_; conv => whnf)
          by_cases hz : mb s t &&& set = 0
          · have hc : mhc s fr t set left = true := by simp [mhc, hb, hz, hle]
            rw [if_pos hc] at hq
            rw [hz]
            (refine And.intro (fun h => by omega) (fun h => ?_); conv => whnf)
            rw [zone_shl (by omega), zor_nat (by omega) (by omega)]
            (refine And.intro (by first | omega | assumption | rfl | exact zin_and | exact ⟨zin_and, by omega⟩ | exact ⟨by omega, zin_and⟩ | exact Nat.le_of_ble_eq_true rfl | exact ⟨Nat.le_of_ble_eq_true rfl, rfl⟩ | exact ⟨Nat.le_of_ble_eq_true rfl, by assumption⟩ | exact ⟨by omega, Nat.le_of_ble_eq_true rfl⟩ | exact ⟨⟨by assumption, by omega⟩, Nat.le_of_ble_eq_true rfl⟩ | decide) ?_; conv => whnf)
            (refine And.intro (by first | omega | assumption | rfl | exact zin_and | exact ⟨zin_and, by omega⟩ | exact ⟨by omega, zin_and⟩ | exact Nat.le_of_ble_eq_true rfl | exact ⟨Nat.le_of_ble_eq_true rfl, rfl⟩ | exact ⟨Nat.le_of_ble_eq_true rfl, by assumption⟩ | exact ⟨by omega, Nat.le_of_ble_eq_true rfl⟩ | exact ⟨⟨by assumption, by omega⟩, Nat.le_of_ble_eq_true rfl⟩ | decide) ?_; conv => whnf)
            (refine c_at hk2 (by omega) hrv ?_; conv => whnf)
            exact hK _ _ _ _ (ih (x + 1) _ _ _ _ (by omega) hst (by omega) hq)
          · have hc : mhc s fr t set left = false := by simp [mhc, hz]
            rw [hc, if_neg (by decide)] at hq
            (refine And.intro (fun h => ?_) (fun h => by omega); conv => whnf)
            (refine hK _ _ _ _ (zW.go (zC_om _) (fun K hK => ?_)); conv => whnf)
            exact hK _ _ _ _ (ih (x + 1) _ _ _ _ (by omega) hs (by omega) hq)
        · have hc : mhc s fr t set left = false := by simp [mhc, hle]
          rw [hc, if_neg (by decide)] at hq
          (refine And.intro (fun h => ?_) (fun h => by omega); conv => whnf)
          (refine hK _ _ _ _ (zW.go (zC_om _) (fun K hK => ?_)); conv => whnf)
          (refine And.intro (by first | omega | assumption | rfl | exact zin_and | exact ⟨zin_and, by omega⟩ | exact ⟨by omega, zin_and⟩ | exact Nat.le_of_ble_eq_true rfl | exact ⟨Nat.le_of_ble_eq_true rfl, rfl⟩ | exact ⟨Nat.le_of_ble_eq_true rfl, by assumption⟩ | exact ⟨by omega, Nat.le_of_ble_eq_true rfl⟩ | exact ⟨⟨by assumption, by omega⟩, Nat.le_of_ble_eq_true rfl⟩ | decide) ?_; conv => whnf)
          (refine And.intro (fun h => ?_) (fun h => by omega); conv => whnf)
          (refine hK _ _ _ _ (zW.go (zC_om _) (fun K hK => ?_)); conv => whnf)
          exact hK _ _ _ _ (ih (x + 1) _ _ _ _ (by omega) hs (by omega) hq)
      · have hb2 : fr.testBit t = false := by simpa using hb
        have hc : mhc s fr t set left = false := by simp [mhc, hb2]
        rw [hc, if_neg (by decide)] at hq
        rw [if_neg hb]
        (refine And.intro (by first | omega | assumption | rfl | exact zin_and | exact ⟨zin_and, by omega⟩ | exact ⟨by omega, zin_and⟩ | exact Nat.le_of_ble_eq_true rfl | exact ⟨Nat.le_of_ble_eq_true rfl, rfl⟩ | exact ⟨Nat.le_of_ble_eq_true rfl, by assumption⟩ | exact ⟨by omega, Nat.le_of_ble_eq_true rfl⟩ | exact ⟨⟨by assumption, by omega⟩, Nat.le_of_ble_eq_true rfl⟩ | decide) ?_; conv => whnf)
        (refine And.intro (fun h => ?_) (fun h => by omega); conv => whnf)
        (refine hK _ _ _ _ (zW.go (zC_om _) (fun K hK => ?_)); conv => whnf)
        (refine And.intro (by first | omega | assumption | rfl | exact zin_and | exact ⟨zin_and, by omega⟩ | exact ⟨by omega, zin_and⟩ | exact Nat.le_of_ble_eq_true rfl | exact ⟨Nat.le_of_ble_eq_true rfl, rfl⟩ | exact ⟨Nat.le_of_ble_eq_true rfl, by assumption⟩ | exact ⟨by omega, Nat.le_of_ble_eq_true rfl⟩ | exact ⟨⟨by assumption, by omega⟩, Nat.le_of_ble_eq_true rfl⟩ | decide) ?_; conv => whnf)
        (refine And.intro (fun h => ?_) (fun h => by omega); conv => whnf)
        (refine hK _ _ _ _ (zW.go (zC_om _) (fun K hK => ?_)); conv => whnf)
        exact hK _ _ _ _ (ih (x + 1) _ _ _ _ (by omega) hs (by omega) hq)
  (refine zW.upto (zC_om _) 17 (fun K hK => ?_); conv => whnf)
  (refine And.intro (by first | omega | assumption | rfl | exact zin_and | exact ⟨zin_and, by omega⟩ | exact ⟨by omega, zin_and⟩ | exact Nat.le_of_ble_eq_true rfl | exact ⟨Nat.le_of_ble_eq_true rfl, rfl⟩ | exact ⟨Nat.le_of_ble_eq_true rfl, by assumption⟩ | exact ⟨by omega, Nat.le_of_ble_eq_true rfl⟩ | exact ⟨⟨by assumption, by omega⟩, Nat.le_of_ble_eq_true rfl⟩ | decide) ?_; conv => whnf)
  (refine c_free hk hr hok hsym hi ho ?_; conv => whnf)
  rw [hfr]
  (refine And.intro (by first | omega | assumption | rfl | exact zin_and | exact ⟨zin_and, by omega⟩ | exact ⟨by omega, zin_and⟩ | exact Nat.le_of_ble_eq_true rfl | exact ⟨Nat.le_of_ble_eq_true rfl, rfl⟩ | exact ⟨Nat.le_of_ble_eq_true rfl, by assumption⟩ | exact ⟨by omega, Nat.le_of_ble_eq_true rfl⟩ | exact ⟨⟨by assumption, by omega⟩, Nat.le_of_ble_eq_true rfl⟩ | decide) ?_; conv => whnf)
  (refine And.intro (by first | omega | assumption | rfl | exact zin_and | exact ⟨zin_and, by omega⟩ | exact ⟨by omega, zin_and⟩ | exact Nat.le_of_ble_eq_true rfl | exact ⟨Nat.le_of_ble_eq_true rfl, rfl⟩ | exact ⟨Nat.le_of_ble_eq_true rfl, by assumption⟩ | exact ⟨by omega, Nat.le_of_ble_eq_true rfl⟩ | exact ⟨⟨by assumption, by omega⟩, Nat.le_of_ble_eq_true rfl⟩ | decide) ?_; conv => whnf)
  (refine And.intro (by first | omega | assumption | rfl | exact zin_and | exact ⟨zin_and, by omega⟩ | exact ⟨by omega, zin_and⟩ | exact Nat.le_of_ble_eq_true rfl | exact ⟨Nat.le_of_ble_eq_true rfl, rfl⟩ | exact ⟨Nat.le_of_ble_eq_true rfl, by assumption⟩ | exact ⟨by omega, Nat.le_of_ble_eq_true rfl⟩ | exact ⟨⟨by assumption, by omega⟩, Nat.le_of_ble_eq_true rfl⟩ | decide) ?_; conv => whnf)
  (refine c_sumV hk hr hn12 hi ?_; conv => whnf)
  rw [hr.2.1]
  exact hK _ _ _ _ (loop n 0 _ _ _ _ (by omega) hi (by omega) (by rw [← hfr]; exact hQ))
theorem c_heaviest (hk : zKB k) (hr : RelB g k s n) (hok : mok s n) {fr : Nat} (hs : fr < 2 ^ 31) (hQ : Q (some (zI (mhv s fr n))) g) : zC (d + 2) 19 [zR k, zI fr] g Q := by
  obtain ⟨hk0, hk1, hk2, hk3, hk4⟩ := id hk
  have hn12 := hok.2.1
  have hg4 := hr.1
  refine zC.go zm_X0_heaviest ⟨rfl, rfl⟩ rfl ?_
  (refine zW.upto (zC_om _) 4 (fun K hK => ?_); conv => whnf)
  refine hK _ _ _ _ (zdown (P := fun t => zW zX0_heaviest (zC (d + 1)) Q 4 [zR k, zI fr, zI (mhv s fr t), zI t] [] g) n ?_ ?_)
  · (refine zW.go (zC_om _) (fun K hK => ?_); conv => whnf)
    (refine And.intro (by first | omega | assumption | rfl | exact zin_and | exact ⟨zin_and, by omega⟩ | exact ⟨by omega, zin_and⟩ | exact Nat.le_of_ble_eq_true rfl | exact ⟨Nat.le_of_ble_eq_true rfl, rfl⟩ | exact ⟨Nat.le_of_ble_eq_true rfl, by assumption⟩ | exact ⟨by omega, Nat.le_of_ble_eq_true rfl⟩ | exact ⟨⟨by assumption, by omega⟩, Nat.le_of_ble_eq_true rfl⟩ | decide) ?_; conv => whnf)
    (refine And.intro (by first | omega | assumption | rfl | exact zin_and | exact ⟨zin_and, by omega⟩ | exact ⟨by omega, zin_and⟩ | exact Nat.le_of_ble_eq_true rfl | exact ⟨Nat.le_of_ble_eq_true rfl, rfl⟩ | exact ⟨Nat.le_of_ble_eq_true rfl, by assumption⟩ | exact ⟨by omega, Nat.le_of_ble_eq_true rfl⟩ | exact ⟨⟨by assumption, by omega⟩, Nat.le_of_ble_eq_true rfl⟩ | decide) ?_; conv => whnf)
    (refine And.intro (fun h => ?_) (fun h => by omega); conv => whnf)
    (repeat' first | (refine hK _ _ _ _ (zW.go (zC_om _) (fun K hK => ?_)); conv => whnf) | (refine And.intro (by first | omega | assumption | rfl | exact zin_and | exact ⟨zin_and, by omega⟩ | exact ⟨by omega, zin_and⟩ | exact Nat.le_of_ble_eq_true rfl | exact ⟨Nat.le_of_ble_eq_true rfl, rfl⟩ | exact ⟨Nat.le_of_ble_eq_true rfl, by assumption⟩ | exact ⟨by omega, Nat.le_of_ble_eq_true rfl⟩ | exact ⟨⟨by assumption, by omega⟩, Nat.le_of_ble_eq_true rfl⟩ | decide) ?_; conv => whnf) | (refine And.intro (fun h => ?_) (fun h => ?_) <;> conv => whnf) | (intro h; conv => whnf))
    exact hQ
  · intro t ht hi
    have hrv := (hr.2.2 t ht).2.1
    have hvt := (hok.2.2.2 t ht).2.1
    have hi : zW zX0_heaviest (zC (d + 1)) Q 4 [zR k, zI fr, zI (mhv s fr (t + 1)), zI (t + 1 : Nat)] [] g := hi
    rw [mhv] at hi
    have hrg := mhv_rng s fr t
    generalize mhv s fr t = f at *
    (refine zW.go (zC_om _) (fun K hK => ?_); conv => whnf)
    (refine And.intro (by first | omega | assumption | rfl | exact zin_and | exact ⟨zin_and, by omega⟩ | exact ⟨by omega, zin_and⟩ | exact Nat.le_of_ble_eq_true rfl | exact ⟨Nat.le_of_ble_eq_true rfl, rfl⟩ | exact ⟨Nat.le_of_ble_eq_true rfl, by assumption⟩ | exact ⟨by omega, Nat.le_of_ble_eq_true rfl⟩ | exact ⟨⟨by assumption, by omega⟩, Nat.le_of_ble_eq_true rfl⟩ | decide) ?_; conv => whnf)
    (refine And.intro (by first | omega | assumption | rfl | exact zin_and | exact ⟨zin_and, by omega⟩ | exact ⟨by omega, zin_and⟩ | exact Nat.le_of_ble_eq_true rfl | exact ⟨Nat.le_of_ble_eq_true rfl, rfl⟩ | exact ⟨Nat.le_of_ble_eq_true rfl, by assumption⟩ | exact ⟨by omega, Nat.le_of_ble_eq_true rfl⟩ | exact ⟨⟨by assumption, by omega⟩, Nat.le_of_ble_eq_true rfl⟩ | decide) ?_; conv => whnf)
    (refine And.intro (fun h => by omega) (fun h => ?_); conv => whnf)
    (refine And.intro (by first | omega | assumption | rfl | exact zin_and | exact ⟨zin_and, by omega⟩ | exact ⟨by omega, zin_and⟩ | exact Nat.le_of_ble_eq_true rfl | exact ⟨Nat.le_of_ble_eq_true rfl, rfl⟩ | exact ⟨Nat.le_of_ble_eq_true rfl, by assumption⟩ | exact ⟨by omega, Nat.le_of_ble_eq_true rfl⟩ | exact ⟨⟨by assumption, by omega⟩, Nat.le_of_ble_eq_true rfl⟩ | decide) ?_; conv => whnf)
    (refine s_has (by omega) (by omega) ?_; conv => whnf)
    by_cases hbit : fr.testBit t = true
    · rw [if_pos hbit]
      (refine And.intro (by first | omega | assumption | rfl | exact zin_and | exact ⟨zin_and, by omega⟩ | exact ⟨by omega, zin_and⟩ | exact Nat.le_of_ble_eq_true rfl | exact ⟨Nat.le_of_ble_eq_true rfl, rfl⟩ | exact ⟨Nat.le_of_ble_eq_true rfl, by assumption⟩ | exact ⟨by omega, Nat.le_of_ble_eq_true rfl⟩ | exact ⟨⟨by assumption, by omega⟩, Nat.le_of_ble_eq_true rfl⟩ | decide) ?_; conv => whnf)
      (refine And.intro (fun h => by omega) (fun h => ?_); conv => whnf)
      (refine And.intro (by first | omega | assumption | rfl | exact zin_and | exact ⟨zin_and, by omega⟩ | exact ⟨by omega, zin_and⟩ | exact Nat.le_of_ble_eq_true rfl | exact ⟨Nat.le_of_ble_eq_true rfl, rfl⟩ | exact ⟨Nat.le_of_ble_eq_true rfl, by assumption⟩ | exact ⟨by omega, Nat.le_of_ble_eq_true rfl⟩ | exact ⟨⟨by assumption, by omega⟩, Nat.le_of_ble_eq_true rfl⟩ | decide) ?_; conv => whnf)
      by_cases hf : f = -5
      · rw [if_pos ⟨hbit, Or.inl hf⟩] at hi
        (refine And.intro (fun h => ?_) (fun h => by omega); conv => whnf)
        (refine hK _ _ _ _ (zW.go (zC_om _) (fun K hK => ?_)); conv => whnf)
        exact hK _ _ _ _ hi
      · obtain ⟨u, rfl⟩ : ∃ u : Nat, f = (u : Int) := ⟨f.toNat, by omega⟩
        have hu : u < n := by omega
        have hru := (hr.2.2 u hu).2.1
        have hvu := (hok.2.2.2 u hu).2.1
        (refine And.intro (fun h => by omega) (fun h => ?_); conv => whnf)
        (refine And.intro (by first | omega | assumption | rfl | exact zin_and | exact ⟨zin_and, by omega⟩ | exact ⟨by omega, zin_and⟩ | exact Nat.le_of_ble_eq_true rfl | exact ⟨Nat.le_of_ble_eq_true rfl, rfl⟩ | exact ⟨Nat.le_of_ble_eq_true rfl, by assumption⟩ | exact ⟨by omega, Nat.le_of_ble_eq_true rfl⟩ | exact ⟨⟨by assumption, by omega⟩, Nat.le_of_ble_eq_true rfl⟩ | decide) ?_; conv => whnf)
        (refine And.intro (by first | omega | assumption | rfl | exact zin_and | exact ⟨zin_and, by omega⟩ | exact ⟨by omega, zin_and⟩ | exact Nat.le_of_ble_eq_true rfl | exact ⟨Nat.le_of_ble_eq_true rfl, rfl⟩ | exact ⟨Nat.le_of_ble_eq_true rfl, by assumption⟩ | exact ⟨by omega, Nat.le_of_ble_eq_true rfl⟩ | exact ⟨⟨by assumption, by omega⟩, Nat.le_of_ble_eq_true rfl⟩ | decide) ?_; conv => whnf)
        (refine c_at hk2 (by omega) hrv ?_; conv => whnf)
        (refine And.intro (by first | omega | assumption | rfl | exact zin_and | exact ⟨zin_and, by omega⟩ | exact ⟨by omega, zin_and⟩ | exact Nat.le_of_ble_eq_true rfl | exact ⟨Nat.le_of_ble_eq_true rfl, rfl⟩ | exact ⟨Nat.le_of_ble_eq_true rfl, by assumption⟩ | exact ⟨by omega, Nat.le_of_ble_eq_true rfl⟩ | exact ⟨⟨by assumption, by omega⟩, Nat.le_of_ble_eq_true rfl⟩ | decide) ?_; conv => whnf)
        (refine And.intro (by first | omega | assumption | rfl | exact zin_and | exact ⟨zin_and, by omega⟩ | exact ⟨by omega, zin_and⟩ | exact Nat.le_of_ble_eq_true rfl | exact ⟨Nat.le_of_ble_eq_true rfl, rfl⟩ | exact ⟨Nat.le_of_ble_eq_true rfl, by assumption⟩ | exact ⟨by omega, Nat.le_of_ble_eq_true rfl⟩ | exact ⟨⟨by assumption, by omega⟩, Nat.le_of_ble_eq_true rfl⟩ | decide) ?_; conv => whnf)
        (refine c_at hk2 (by omega) hru ?_; conv => whnf)
        (refine And.intro (by first | omega | assumption | rfl | exact zin_and | exact ⟨zin_and, by omega⟩ | exact ⟨by omega, zin_and⟩ | exact Nat.le_of_ble_eq_true rfl | exact ⟨Nat.le_of_ble_eq_true rfl, rfl⟩ | exact ⟨Nat.le_of_ble_eq_true rfl, by assumption⟩ | exact ⟨by omega, Nat.le_of_ble_eq_true rfl⟩ | exact ⟨⟨by assumption, by omega⟩, Nat.le_of_ble_eq_true rfl⟩ | decide) ?_; conv => whnf)
        by_cases hlt : s (21 + (u : Int)) < s (21 + t)
        · rw [if_pos ⟨hbit, Or.inr hlt⟩] at hi
          (refine And.intro (fun h => by omega) (fun h => ?_); conv => whnf)
          exact hK _ _ _ _ hi
        · rw [if_neg (by omega)] at hi
          (refine And.intro (fun h => ?_) (fun h => by omega); conv => whnf)
          (refine hK _ _ _ _ (zW.go (zC_om _) (fun K hK => ?_)); conv => whnf)
          exact hK _ _ _ _ hi
    · rw [if_neg (fun q => hbit q.1)] at hi
      rw [if_neg hbit]
      (refine And.intro (by first | omega | assumption | rfl | exact zin_and | exact ⟨zin_and, by omega⟩ | exact ⟨by omega, zin_and⟩ | exact Nat.le_of_ble_eq_true rfl | exact ⟨Nat.le_of_ble_eq_true rfl, rfl⟩ | exact ⟨Nat.le_of_ble_eq_true rfl, by assumption⟩ | exact ⟨by omega, Nat.le_of_ble_eq_true rfl⟩ | exact ⟨⟨by assumption, by omega⟩, Nat.le_of_ble_eq_true rfl⟩ | decide) ?_; conv => whnf)
      (refine And.intro (fun h => ?_) (fun h => by omega); conv => whnf)
      (refine hK _ _ _ _ (zW.go (zC_om _) (fun K hK => ?_)); conv => whnf)
      exact hK _ _ _ _ hi
theorem mchild_max {s : zS} {n i o : Nat} (hok : mok s n) : max (if mposs s n i = true then mbound s n i o else -4) 0 = mchild s n i o ∧ zin (if mposs s n i = true then mbound s n i o else -4) := by
  unfold mchild
  by_cases h : mposs s n i = true
  · have := mbound_rng (o := o) hok h
    rw [if_pos h, if_pos h]
    omega
  · rw [if_neg h, if_neg h]
    omega
set_option maxHeartbeats 1000000 in
theorem c_trials (hk : zKB k) (hr : RelB g k s n) (hok : mok s n) (hsym : msym s n) {i o : Nat} (hi2 : i < 2 ^ n) (ho2 : o < 2 ^ n) (hQ : Q (some (zI (mtrials s n i o))) g) : zC (d + 4) 20 [zR k, zI i, zI o, zI (mfree s n i o : Nat)] g Q := by
  obtain ⟨hk0, hk1, hk2, hk3, hk4⟩ := id hk
  have hn12 := hok.2.1
  have h2n := zp12 hn12
  have hg4 := hr.1
  have hfl : mfree s n i o < 2 ^ n := mfr_lt s n i o n
  have hQ : Q (some (zI (mtr s n (mfree s n i o) i o n).1)) g := hQ
  generalize hfr : mfree s n i o = fr at *
  refine zC.go zm_X0_bestByTrials ⟨rfl, rfl⟩ rfl ?_
  have loop : ∀ x8 x9 x10 x11 x12 : zV, zW zX0_bestByTrials (zC (d + 3)) Q 8 [zR k, zI i, zI o, zI fr, zI (mtr s n fr i o 0).1, zI (mtr s n fr i o 0).2.1, zI (mtr s n fr i o 0).2.2, zI 0, x8, x9, x10, x11, x12] [] g := by
    refine (zdown (P := fun t => ∀ x8 x9 x10 x11 x12 : zV, zW zX0_bestByTrials (zC (d + 3)) Q 8 [zR k, zI i, zI o, zI fr, zI (mtr s n fr i o t).1, zI (mtr s n fr i o t).2.1, zI (mtr s n fr i o t).2.2, zI t, x8, x9, x10, x11, x12] [] g) n ?_ ?_)
    · intro x8 x9 x10 x11 x12
      (refine zW.go (zC_om _) (fun K hK => ?_); conv => whnf)
      (refine And.intro (by first | omega | assumption | rfl | exact zin_and | exact ⟨zin_and, by omega⟩ | exact ⟨by omega, zin_and⟩ | exact Nat.le_of_ble_eq_true rfl | exact ⟨Nat.le_of_ble_eq_true rfl, rfl⟩ | exact ⟨Nat.le_of_ble_eq_true rfl, by assumption⟩ | exact ⟨by omega, Nat.le_of_ble_eq_true rfl⟩ | exact ⟨⟨by assumption, by omega⟩, Nat.le_of_ble_eq_true rfl⟩ | decide) ?_; conv => whnf)
      (refine And.intro (by first | omega | assumption | rfl | exact zin_and | exact ⟨zin_and, by omega⟩ | exact ⟨by omega, zin_and⟩ | exact Nat.le_of_ble_eq_true rfl | exact ⟨Nat.le_of_ble_eq_true rfl, rfl⟩ | exact ⟨Nat.le_of_ble_eq_true rfl, by assumption⟩ | exact ⟨by omega, Nat.le_of_ble_eq_true rfl⟩ | exact ⟨⟨by assumption, by omega⟩, Nat.le_of_ble_eq_true rfl⟩ | decide) ?_; conv => whnf)
      (refine And.intro (fun h => ?_) (fun h => by omega); conv => whnf)
      (repeat' first | (refine hK _ _ _ _ (zW.go (zC_om _) (fun K hK => ?_)); conv => whnf) | (refine And.intro (by first | omega | assumption | rfl | exact zin_and | exact ⟨zin_and, by omega⟩ | exact ⟨by omega, zin_and⟩ | exact Nat.le_of_ble_eq_true rfl | exact ⟨Nat.le_of_ble_eq_true rfl, rfl⟩ | exact ⟨Nat.le_of_ble_eq_true rfl, by assumption⟩ | exact ⟨by omega, Nat.le_of_ble_eq_true rfl⟩ | exact ⟨⟨by assumption, by omega⟩, Nat.le_of_ble_eq_true rfl⟩ | decide) ?_; conv => whnf) | (refine And.intro (fun h => ?_) (fun h => ?_) <;> conv => whnf) | (intro h; conv => whnf))
      exact hQ
    · intro t ht hi x8 x9 x10 x11 x12
      have h2t : 2 ^ t < 2 ^ n := Nat.pow_lt_pow_right (by decide) ht
      have hot : o ||| 2 ^ t < 2 ^ n := Nat.or_lt_two_pow ho2 h2t
      have hit : i ||| 2 ^ t < 2 ^ n := Nat.or_lt_two_pow hi2 h2t
      have c1 := mchild_rng (i := i) (o := o ||| 2 ^ t) hok
      have c2 := mchild_rng (i := i ||| 2 ^ t) (o := o) hok
      have c3 := zmx_rng c1 c2
      have c4 := zmn_rng c1 c2
      obtain ⟨m1, m2⟩ := mchild_max (i := i ||| 2 ^ t) (o := o) hok
      obtain ⟨m3, m4⟩ := mchild_max (i := i) (o := o ||| 2 ^ t) hok
      obtain ⟨r1, r2, r3⟩ := mtr_rng (fr := fr) (i := i) (o := o) hok t
      rw [mtr] at hi
      generalize mtr s n fr i o t = p at *
      obtain ⟨f, le, se⟩ := p
      dsimp only at hi r1 r2 r3 ⊢
      (refine zW.go (zC_om _) (fun K hK => ?_); conv => whnf)
      (refine And.intro (by first | omega | assumption | rfl | exact zin_and | exact ⟨zin_and, by omega⟩ | exact ⟨by omega, zin_and⟩ | exact Nat.le_of_ble_eq_true rfl | exact ⟨Nat.le_of_ble_eq_true rfl, rfl⟩ | exact ⟨Nat.le_of_ble_eq_true rfl, by assumption⟩ | exact ⟨by omega, Nat.le_of_ble_eq_true rfl⟩ | exact ⟨⟨by assumption, by omega⟩, Nat.le_of_ble_eq_true rfl⟩ | decide) ?_; conv => whnf)
      (refine And.intro (by first | omega | assumption | rfl | exact zin_and | exact ⟨zin_and, by omega⟩ | exact ⟨by omega, zin_and⟩ | exact Nat.le_of_ble_eq_true rfl | exact ⟨Nat.le_of_ble_eq_true rfl, rfl⟩ | exact ⟨Nat.le_of_ble_eq_true rfl, by assumption⟩ | exact ⟨by omega, Nat.le_of_ble_eq_true rfl⟩ | exact ⟨⟨by assumption, by omega⟩, Nat.le_of_ble_eq_true rfl⟩ | decide) ?_; conv => whnf)
      (refine And.intro (fun h => by omega) (fun h => ?_); conv => whnf)
      (refine And.intro (by first | omega | assumption | rfl | exact zin_and | exact ⟨zin_and, by omega⟩ | exact ⟨by omega, zin_and⟩ | exact Nat.le_of_ble_eq_true rfl | exact ⟨Nat.le_of_ble_eq_true rfl, rfl⟩ | exact ⟨Nat.le_of_ble_eq_true rfl, by assumption⟩ | exact ⟨by omega, Nat.le_of_ble_eq_true rfl⟩ | exact ⟨⟨by assumption, by omega⟩, Nat.le_of_ble_eq_true rfl⟩ | decide) ?_; conv => whnf)
      (refine s_has (by omega) (by omega) ?_; conv => whnf)
      by_cases hbit : fr.testBit t = true
      · rw [if_pos hbit]
        (refine And.intro (by first | omega | assumption | rfl | exact zin_and | exact ⟨zin_and, by omega⟩ | exact ⟨by omega, zin_and⟩ | exact Nat.le_of_ble_eq_true rfl | exact ⟨Nat.le_of_ble_eq_true rfl, rfl⟩ | exact ⟨Nat.le_of_ble_eq_true rfl, by assumption⟩ | exact ⟨by omega, Nat.le_of_ble_eq_true rfl⟩ | exact ⟨⟨by assumption, by omega⟩, Nat.le_of_ble_eq_true rfl⟩ | decide) ?_; conv => whnf)
        (refine And.intro (fun h => ?_) (fun h => by omega); conv => whnf)
        (refine hK _ _ _ _ (zW.go (zC_om _) (fun K hK => ?_)); conv => whnf)
        rw [zone_shl (by omega), zor_nat (by omega) (by omega)]
        (refine And.intro (by first | omega | assumption | rfl | exact zin_and | exact ⟨zin_and, by omega⟩ | exact ⟨by omega, zin_and⟩ | exact Nat.le_of_ble_eq_true rfl | exact ⟨Nat.le_of_ble_eq_true rfl, rfl⟩ | exact ⟨Nat.le_of_ble_eq_true rfl, by assumption⟩ | exact ⟨by omega, Nat.le_of_ble_eq_true rfl⟩ | exact ⟨⟨by assumption, by omega⟩, Nat.le_of_ble_eq_true rfl⟩ | decide) ?_; conv => whnf)
        (refine c_bound hk hr hok hsym hit ho2 ?_; conv => whnf)
        (refine And.intro (by first | omega | assumption | rfl | exact zin_and | exact ⟨zin_and, by omega⟩ | exact ⟨by omega, zin_and⟩ | exact Nat.le_of_ble_eq_true rfl | exact ⟨Nat.le_of_ble_eq_true rfl, rfl⟩ | exact ⟨Nat.le_of_ble_eq_true rfl, by assumption⟩ | exact ⟨by omega, Nat.le_of_ble_eq_true rfl⟩ | exact ⟨⟨by assumption, by omega⟩, Nat.le_of_ble_eq_true rfl⟩ | decide) ?_; conv => whnf)
        rw [m1]
        rw [zone_shl (by omega), zor_nat (by omega) (by omega)]
        (refine And.intro (by first | omega | assumption | rfl | exact zin_and | exact ⟨zin_and, by omega⟩ | exact ⟨by omega, zin_and⟩ | exact Nat.le_of_ble_eq_true rfl | exact ⟨Nat.le_of_ble_eq_true rfl, rfl⟩ | exact ⟨Nat.le_of_ble_eq_true rfl, by assumption⟩ | exact ⟨by omega, Nat.le_of_ble_eq_true rfl⟩ | exact ⟨⟨by assumption, by omega⟩, Nat.le_of_ble_eq_true rfl⟩ | decide) ?_; conv => whnf)
        (refine c_bound hk hr hok hsym hi2 hot ?_; conv => whnf)
        (refine And.intro (by first | omega | assumption | rfl | exact zin_and | exact ⟨zin_and, by omega⟩ | exact ⟨by omega, zin_and⟩ | exact Nat.le_of_ble_eq_true rfl | exact ⟨Nat.le_of_ble_eq_true rfl, rfl⟩ | exact ⟨Nat.le_of_ble_eq_true rfl, by assumption⟩ | exact ⟨by omega, Nat.le_of_ble_eq_true rfl⟩ | exact ⟨⟨by assumption, by omega⟩, Nat.le_of_ble_eq_true rfl⟩ | decide) ?_; conv => whnf)
        rw [m3]
        generalize mchild s n i (o ||| 2 ^ t) = u at *
        generalize mchild s n (i ||| 2 ^ t) o = v at *
        (refine And.intro (by first | omega | assumption | rfl | exact zin_and | exact ⟨zin_and, by omega⟩ | exact ⟨by omega, zin_and⟩ | exact Nat.le_of_ble_eq_true rfl | exact ⟨Nat.le_of_ble_eq_true rfl, rfl⟩ | exact ⟨Nat.le_of_ble_eq_true rfl, by assumption⟩ | exact ⟨by omega, Nat.le_of_ble_eq_true rfl⟩ | exact ⟨⟨by assumption, by omega⟩, Nat.le_of_ble_eq_true rfl⟩ | decide) ?_; conv => whnf)
        (refine And.intro (by first | omega | assumption | rfl | exact zin_and | exact ⟨zin_and, by omega⟩ | exact ⟨by omega, zin_and⟩ | exact Nat.le_of_ble_eq_true rfl | exact ⟨Nat.le_of_ble_eq_true rfl, rfl⟩ | exact ⟨Nat.le_of_ble_eq_true rfl, by assumption⟩ | exact ⟨by omega, Nat.le_of_ble_eq_true rfl⟩ | exact ⟨⟨by assumption, by omega⟩, Nat.le_of_ble_eq_true rfl⟩ | decide) ?_; conv => whnf)
        have e1 : max v u = zmx u v := by unfold zmx; split <;> omega
        have e2 : min v u = zmn u v := by unfold zmn; split <;> omega
        rw [e1, e2]
        have hin := hi (zI v) (zI u) (zI (zmx u v)) (zI (zmn u v))
        have j59 : ∀ c : Bool, decide (zmx u v < le ∨ (zmx u v = le ∧ zmn u v < se)) = c → zW zX0_bestByTrials (zC (d + 3)) Q 59 [zR k, zI i, zI o, zI fr, zI f, zI le, zI se, zI t, zI v, zI u, zI (zmx u v), zI (zmn u v), x12] [zI (zb c)] g := by
          intro c hc
          by_cases c5 : f = -5
          · have hin := hin (zI (zb c))
            rw [if_pos ⟨hbit, Or.inl c5⟩] at hin
            (refine zW.go (zC_om _) (fun K hK => ?_); conv => whnf)
            (refine And.intro (by first | omega | assumption | rfl | exact zin_and | exact ⟨zin_and, by omega⟩ | exact ⟨by omega, zin_and⟩ | exact Nat.le_of_ble_eq_true rfl | exact ⟨Nat.le_of_ble_eq_true rfl, rfl⟩ | exact ⟨Nat.le_of_ble_eq_true rfl, by assumption⟩ | exact ⟨by omega, Nat.le_of_ble_eq_true rfl⟩ | exact ⟨⟨by assumption, by omega⟩, Nat.le_of_ble_eq_true rfl⟩ | decide) ?_; conv => whnf)
            (refine And.intro (fun h => ?_) (fun h => by omega); conv => whnf)
            (refine hK _ _ _ _ (zW.go (zC_om _) (fun K hK => ?_)); conv => whnf)
            exact hK _ _ _ _ hin
          · cases c with
            | true =>
              have hin := hin (zI (zb true))
              rw [if_pos ⟨hbit, Or.inr (of_decide_eq_true hc)⟩] at hin
              rw [zb_t] at hin ⊢
              (refine zW.go (zC_om _) (fun K hK => ?_); conv => whnf)
              (refine And.intro (by first | omega | assumption | rfl | exact zin_and | exact ⟨zin_and, by omega⟩ | exact ⟨by omega, zin_and⟩ | exact Nat.le_of_ble_eq_true rfl | exact ⟨Nat.le_of_ble_eq_true rfl, rfl⟩ | exact ⟨Nat.le_of_ble_eq_true rfl, by assumption⟩ | exact ⟨by omega, Nat.le_of_ble_eq_true rfl⟩ | exact ⟨⟨by assumption, by omega⟩, Nat.le_of_ble_eq_true rfl⟩ | decide) ?_; conv => whnf)
              (refine And.intro (fun h => by omega) (fun h => ?_); conv => whnf)
              (refine And.intro (by first | omega | assumption | rfl | exact zin_and | exact ⟨zin_and, by omega⟩ | exact ⟨by omega, zin_and⟩ | exact Nat.le_of_ble_eq_true rfl | exact ⟨Nat.le_of_ble_eq_true rfl, rfl⟩ | exact ⟨Nat.le_of_ble_eq_true rfl, by assumption⟩ | exact ⟨by omega, Nat.le_of_ble_eq_true rfl⟩ | exact ⟨⟨by assumption, by omega⟩, Nat.le_of_ble_eq_true rfl⟩ | decide) ?_; conv => whnf)
              (refine And.intro (fun h => by omega) (fun h => ?_); conv => whnf)
              exact hK _ _ _ _ hin
            | false =>
              have hin := hin (zI (zb false))
              have hc2 := of_decide_eq_false hc
              rw [if_neg (fun q => by rcases q.2 with q | q; exact c5 q; exact hc2 q)] at hin
              rw [zb_f] at hin ⊢
              (refine zW.go (zC_om _) (fun K hK => ?_); conv => whnf)
              (refine And.intro (by first | omega | assumption | rfl | exact zin_and | exact ⟨zin_and, by omega⟩ | exact ⟨by omega, zin_and⟩ | exact Nat.le_of_ble_eq_true rfl | exact ⟨Nat.le_of_ble_eq_true rfl, rfl⟩ | exact ⟨Nat.le_of_ble_eq_true rfl, by assumption⟩ | exact ⟨by omega, Nat.le_of_ble_eq_true rfl⟩ | exact ⟨⟨by assumption, by omega⟩, Nat.le_of_ble_eq_true rfl⟩ | decide) ?_; conv => whnf)
              (refine And.intro (fun h => by omega) (fun h => ?_); conv => whnf)
              (refine And.intro (by first | omega | assumption | rfl | exact zin_and | exact ⟨zin_and, by omega⟩ | exact ⟨by omega, zin_and⟩ | exact Nat.le_of_ble_eq_true rfl | exact ⟨Nat.le_of_ble_eq_true rfl, rfl⟩ | exact ⟨Nat.le_of_ble_eq_true rfl, by assumption⟩ | exact ⟨by omega, Nat.le_of_ble_eq_true rfl⟩ | exact ⟨⟨by assumption, by omega⟩, Nat.le_of_ble_eq_true rfl⟩ | decide) ?_; conv => whnf)
              (refine And.intro (fun h => ?_) (fun h => by omega); conv => whnf)
              (refine hK _ _ _ _ (zW.go (zC_om _) (fun K hK => ?_)); conv => whnf)
              exact hK _ _ _ _ hin
        (refine And.intro (by first | omega | assumption | rfl | exact zin_and | exact ⟨zin_and, by omega⟩ | exact ⟨by omega, zin_and⟩ | exact Nat.le_of_ble_eq_true rfl | exact ⟨Nat.le_of_ble_eq_true rfl, rfl⟩ | exact ⟨Nat.le_of_ble_eq_true rfl, by assumption⟩ | exact ⟨by omega, Nat.le_of_ble_eq_true rfl⟩ | exact ⟨⟨by assumption, by omega⟩, Nat.le_of_ble_eq_true rfl⟩ | decide) ?_; conv => whnf)
        by_cases c6 : zmx u v < le
        · (refine And.intro (fun h => ?_) (fun h => by omega); conv => whnf)
          (refine hK _ _ _ _ ?_)
          (refine zW.upto (zC_om _) 2 (fun K hK => ?_); conv => whnf)
          exact hK _ _ _ _ (j59 true (by simp [c6]))
        · (refine And.intro (fun h => by omega) (fun h => ?_); conv => whnf)
          (refine And.intro (by first | omega | assumption | rfl | exact zin_and | exact ⟨zin_and, by omega⟩ | exact ⟨by omega, zin_and⟩ | exact Nat.le_of_ble_eq_true rfl | exact ⟨Nat.le_of_ble_eq_true rfl, rfl⟩ | exact ⟨Nat.le_of_ble_eq_true rfl, by assumption⟩ | exact ⟨by omega, Nat.le_of_ble_eq_true rfl⟩ | exact ⟨⟨by assumption, by omega⟩, Nat.le_of_ble_eq_true rfl⟩ | decide) ?_; conv => whnf)
          by_cases c7 : zmx u v = le
          · (refine And.intro (fun h => by omega) (fun h => ?_); conv => whnf)
            (refine And.intro (by first | omega | assumption | rfl | exact zin_and | exact ⟨zin_and, by omega⟩ | exact ⟨by omega, zin_and⟩ | exact Nat.le_of_ble_eq_true rfl | exact ⟨Nat.le_of_ble_eq_true rfl, rfl⟩ | exact ⟨Nat.le_of_ble_eq_true rfl, by assumption⟩ | exact ⟨by omega, Nat.le_of_ble_eq_true rfl⟩ | exact ⟨⟨by assumption, by omega⟩, Nat.le_of_ble_eq_true rfl⟩ | decide) ?_; conv => whnf)
            by_cases c8 : zmn u v < se
            · (refine And.intro (fun h => by omega) (fun h => ?_); conv => whnf)
              exact hK _ _ _ _ (j59 true (by simp [c7, c8]))
            · (refine And.intro (fun h => ?_) (fun h => by omega); conv => whnf)
              (refine hK _ _ _ _ ?_)
              (refine zW.upto (zC_om _) 1 (fun K hK => ?_); conv => whnf)
              exact hK _ _ _ _ (j59 false (by simp [c6, c8]))
          · (refine And.intro (fun h => ?_) (fun h => by omega); conv => whnf)
            (refine hK _ _ _ _ ?_)
            (refine zW.upto (zC_om _) 1 (fun K hK => ?_); conv => whnf)
            exact hK _ _ _ _ (j59 false (by simp [c6, c7]))
      · have hi := hi x8 x9 x10 x11 x12
        rw [if_neg (fun q => hbit q.1)] at hi
        rw [if_neg hbit]
        (refine And.intro (by first | omega | assumption | rfl | exact zin_and | exact ⟨zin_and, by omega⟩ | exact ⟨by omega, zin_and⟩ | exact Nat.le_of_ble_eq_true rfl | exact ⟨Nat.le_of_ble_eq_true rfl, rfl⟩ | exact ⟨Nat.le_of_ble_eq_true rfl, by assumption⟩ | exact ⟨by omega, Nat.le_of_ble_eq_true rfl⟩ | exact ⟨⟨by assumption, by omega⟩, Nat.le_of_ble_eq_true rfl⟩ | decide) ?_; conv => whnf)
        (refine And.intro (fun h => by omega) (fun h => ?_); conv => whnf)
        (refine hK _ _ _ _ (zW.go (zC_om _) (fun K hK => ?_)); conv => whnf)
        exact hK _ _ _ _ hi
  (refine zW.upto (zC_om _) 8 (fun K hK => ?_); conv => whnf)
  exact hK _ _ _ _ (loop _ _ _ _ _)
theorem c_branch (hk : zKB k) (hr : RelB g k s n) (hok : mok s n) (hsym : msym s n) {i o : Nat} {c : Int} (hi : i < 2 ^ n) (ho : o < 2 ^ n) (hc : 0 ≤ c ∧ c ≤ 2) (hQ : Q (some (zI (mbranch s n i o c))) g) : zC (d + 5) 18 [zR k, zI i, zI o, zI c] g Q := by
  obtain ⟨hk0, hk1, hk2, hk3, hk4⟩ := id hk
  have hn12 := hok.2.1
  have h2n := zp12 hn12
  have hfl : mfree s n i o < 2 ^ n := mfr_lt s n i o n
  have hwl : mwhole s n i (mfree s n i o) < 2 ^ n := mwh_lt hok.pos n 0 _ 0 (by omega) (Nat.two_pow_pos n)
  have hhl := mheel_lt (o := o) hok hi
  have hdl := ndf_lt (b := mwhole s n i (mfree s n i o)) hfl
  have hdl2 := ndf_lt (b := mheel s n i o) hfl
  obtain ⟨e1, -⟩ := mwhole_spec (i := i) (o := o) hok
  have r1 : msplit s n i o = -5 ∨ (0 ≤ msplit s n i o ∧ msplit s n i o < n) := by
    rcases mspl_rng (s := s) (fr := mfree s n i o) hok.pos n 0 (mleft s n i) (by omega) with r | r
    · exact Or.inl r
    · exact Or.inr ⟨r.1, r.2.1⟩
  have r2 : ∀ set, mfirst s n set = -5 ∨ (0 ≤ mfirst s n set ∧ mfirst s n set < n) := by
    intro set
    rcases mfs_rng (s := s) (set := set) hok.pos n 0 (by omega) with r | r
    · exact Or.inl r
    · exact Or.inr ⟨r.1, r.2.1⟩
  have r3 := r2 (ndf (mfree s n i o) (mheel s n i o))
  refine zC.go zm_X0_thingToBranch ⟨rfl, rfl⟩ rfl ?_
  unfold mbranch at hQ
  (refine zW.go (zC_om _) (fun K hK => ?_); conv => whnf)
  (refine And.intro (by first | omega | assumption | rfl | exact zin_and | exact ⟨zin_and, by omega⟩ | exact ⟨by omega, zin_and⟩ | exact Nat.le_of_ble_eq_true rfl | exact ⟨Nat.le_of_ble_eq_true rfl, rfl⟩ | exact ⟨Nat.le_of_ble_eq_true rfl, by assumption⟩ | exact ⟨by omega, Nat.le_of_ble_eq_true rfl⟩ | exact ⟨⟨by assumption, by omega⟩, Nat.le_of_ble_eq_true rfl⟩ | decide) ?_; conv => whnf)
  (refine c_free hk hr hok hsym hi ho ?_; conv => whnf)
  (refine And.intro (by first | omega | assumption | rfl | exact zin_and | exact ⟨zin_and, by omega⟩ | exact ⟨by omega, zin_and⟩ | exact Nat.le_of_ble_eq_true rfl | exact ⟨Nat.le_of_ble_eq_true rfl, rfl⟩ | exact ⟨Nat.le_of_ble_eq_true rfl, by assumption⟩ | exact ⟨by omega, Nat.le_of_ble_eq_true rfl⟩ | exact ⟨⟨by assumption, by omega⟩, Nat.le_of_ble_eq_true rfl⟩ | decide) ?_; conv => whnf)
  by_cases h1 : c = 1
  · rw [if_neg (by omega), if_pos h1] at hQ
    (refine And.intro (fun h => by omega) (fun h => ?_); conv => whnf)
    (refine And.intro (by first | omega | assumption | rfl | exact zin_and | exact ⟨zin_and, by omega⟩ | exact ⟨by omega, zin_and⟩ | exact Nat.le_of_ble_eq_true rfl | exact ⟨Nat.le_of_ble_eq_true rfl, rfl⟩ | exact ⟨Nat.le_of_ble_eq_true rfl, by assumption⟩ | exact ⟨by omega, Nat.le_of_ble_eq_true rfl⟩ | exact ⟨⟨by assumption, by omega⟩, Nat.le_of_ble_eq_true rfl⟩ | decide) ?_; conv => whnf)
    (refine c_heaviest hk hr hok (by omega) ?_; conv => whnf)
    (repeat' first | (refine hK _ _ _ _ (zW.go (zC_om _) (fun K hK => ?_)); conv => whnf) | (refine And.intro (by first | omega | assumption | rfl | exact zin_and | exact ⟨zin_and, by omega⟩ | exact ⟨by omega, zin_and⟩ | exact Nat.le_of_ble_eq_true rfl | exact ⟨Nat.le_of_ble_eq_true rfl, rfl⟩ | exact ⟨Nat.le_of_ble_eq_true rfl, by assumption⟩ | exact ⟨by omega, Nat.le_of_ble_eq_true rfl⟩ | exact ⟨⟨by assumption, by omega⟩, Nat.le_of_ble_eq_true rfl⟩ | decide) ?_; conv => whnf) | (refine And.intro (fun h => ?_) (fun h => ?_) <;> conv => whnf) | (intro h; conv => whnf))
    exact hQ
  · (refine And.intro (fun h => ?_) (fun h => by omega); conv => whnf)
    (refine hK _ _ _ _ (zW.go (zC_om _) (fun K hK => ?_)); conv => whnf)
    (refine And.intro (by first | omega | assumption | rfl | exact zin_and | exact ⟨zin_and, by omega⟩ | exact ⟨by omega, zin_and⟩ | exact Nat.le_of_ble_eq_true rfl | exact ⟨Nat.le_of_ble_eq_true rfl, rfl⟩ | exact ⟨Nat.le_of_ble_eq_true rfl, by assumption⟩ | exact ⟨by omega, Nat.le_of_ble_eq_true rfl⟩ | exact ⟨⟨by assumption, by omega⟩, Nat.le_of_ble_eq_true rfl⟩ | decide) ?_; conv => whnf)
    by_cases h2 : c = 2
    · rw [if_neg (by omega), if_neg h1] at hQ
      (refine And.intro (fun h => by omega) (fun h => ?_); conv => whnf)
      (refine And.intro (by first | omega | assumption | rfl | exact zin_and | exact ⟨zin_and, by omega⟩ | exact ⟨by omega, zin_and⟩ | exact Nat.le_of_ble_eq_true rfl | exact ⟨Nat.le_of_ble_eq_true rfl, rfl⟩ | exact ⟨Nat.le_of_ble_eq_true rfl, by assumption⟩ | exact ⟨by omega, Nat.le_of_ble_eq_true rfl⟩ | exact ⟨⟨by assumption, by omega⟩, Nat.le_of_ble_eq_true rfl⟩ | decide) ?_; conv => whnf)
      (refine c_trials hk hr hok hsym hi ho ?_; conv => whnf)
      (repeat' first | (refine hK _ _ _ _ (zW.go (zC_om _) (fun K hK => ?_)); conv => whnf) | (refine And.intro (by first | omega | assumption | rfl | exact zin_and | exact ⟨zin_and, by omega⟩ | exact ⟨by omega, zin_and⟩ | exact Nat.le_of_ble_eq_true rfl | exact ⟨Nat.le_of_ble_eq_true rfl, rfl⟩ | exact ⟨Nat.le_of_ble_eq_true rfl, by assumption⟩ | exact ⟨by omega, Nat.le_of_ble_eq_true rfl⟩ | exact ⟨⟨by assumption, by omega⟩, Nat.le_of_ble_eq_true rfl⟩ | decide) ?_; conv => whnf) | (refine And.intro (fun h => ?_) (fun h => ?_) <;> conv => whnf) | (intro h; conv => whnf))
      exact hQ
    · rw [if_pos (by omega)] at hQ
      unfold mparts at hQ
      (refine And.intro (fun h => ?_) (fun h => by omega); conv => whnf)
      (refine hK _ _ _ _ (zW.go (zC_om _) (fun K hK => ?_)); conv => whnf)
      (refine And.intro (by first | omega | assumption | rfl | exact zin_and | exact ⟨zin_and, by omega⟩ | exact ⟨by omega, zin_and⟩ | exact Nat.le_of_ble_eq_true rfl | exact ⟨Nat.le_of_ble_eq_true rfl, rfl⟩ | exact ⟨Nat.le_of_ble_eq_true rfl, by assumption⟩ | exact ⟨by omega, Nat.le_of_ble_eq_true rfl⟩ | exact ⟨⟨by assumption, by omega⟩, Nat.le_of_ble_eq_true rfl⟩ | decide) ?_; conv => whnf)
      (refine c_whole hk hr hok hi hfl ?_; conv => whnf)
      rw [zandnot (by omega) (by omega)]
      (refine And.intro (by first | omega | assumption | rfl | exact zin_and | exact ⟨zin_and, by omega⟩ | exact ⟨by omega, zin_and⟩ | exact Nat.le_of_ble_eq_true rfl | exact ⟨Nat.le_of_ble_eq_true rfl, rfl⟩ | exact ⟨Nat.le_of_ble_eq_true rfl, by assumption⟩ | exact ⟨by omega, Nat.le_of_ble_eq_true rfl⟩ | exact ⟨⟨by assumption, by omega⟩, Nat.le_of_ble_eq_true rfl⟩ | decide) ?_; conv => whnf)
      (refine c_first hk hr hok (by omega) ?_; conv => whnf)
      rw [← e1]
      (refine And.intro (by first | omega | assumption | rfl | exact zin_and | exact ⟨zin_and, by omega⟩ | exact ⟨by omega, zin_and⟩ | exact Nat.le_of_ble_eq_true rfl | exact ⟨Nat.le_of_ble_eq_true rfl, rfl⟩ | exact ⟨Nat.le_of_ble_eq_true rfl, by assumption⟩ | exact ⟨by omega, Nat.le_of_ble_eq_true rfl⟩ | exact ⟨⟨by assumption, by omega⟩, Nat.le_of_ble_eq_true rfl⟩ | decide) ?_; conv => whnf)
      by_cases h3 : msplit s n i o = -5
      · rw [if_neg (fun q => q h3)] at hQ
        (refine And.intro (fun h => by omega) (fun h => ?_); conv => whnf)
        (refine And.intro (by first | omega | assumption | rfl | exact zin_and | exact ⟨zin_and, by omega⟩ | exact ⟨by omega, zin_and⟩ | exact Nat.le_of_ble_eq_true rfl | exact ⟨Nat.le_of_ble_eq_true rfl, rfl⟩ | exact ⟨Nat.le_of_ble_eq_true rfl, by assumption⟩ | exact ⟨by omega, Nat.le_of_ble_eq_true rfl⟩ | exact ⟨⟨by assumption, by omega⟩, Nat.le_of_ble_eq_true rfl⟩ | decide) ?_; conv => whnf)
        (refine c_heel hk hr hok hsym hi ho ?_; conv => whnf)
        rw [zandnot (by omega) (by omega)]
        (refine And.intro (by first | omega | assumption | rfl | exact zin_and | exact ⟨zin_and, by omega⟩ | exact ⟨by omega, zin_and⟩ | exact Nat.le_of_ble_eq_true rfl | exact ⟨Nat.le_of_ble_eq_true rfl, rfl⟩ | exact ⟨Nat.le_of_ble_eq_true rfl, by assumption⟩ | exact ⟨by omega, Nat.le_of_ble_eq_true rfl⟩ | exact ⟨⟨by assumption, by omega⟩, Nat.le_of_ble_eq_true rfl⟩ | decide) ?_; conv => whnf)
        (refine c_first hk hr hok (by omega) ?_; conv => whnf)
        (refine And.intro (by first | omega | assumption | rfl | exact zin_and | exact ⟨zin_and, by omega⟩ | exact ⟨by omega, zin_and⟩ | exact Nat.le_of_ble_eq_true rfl | exact ⟨Nat.le_of_ble_eq_true rfl, rfl⟩ | exact ⟨Nat.le_of_ble_eq_true rfl, by assumption⟩ | exact ⟨by omega, Nat.le_of_ble_eq_true rfl⟩ | exact ⟨⟨by assumption, by omega⟩, Nat.le_of_ble_eq_true rfl⟩ | decide) ?_; conv => whnf)
        by_cases h4 : mfirst s n (ndf (mfree s n i o) (mheel s n i o)) = -5
        · rw [if_neg (fun q => q h4)] at hQ
          (refine And.intro (fun h => by omega) (fun h => ?_); conv => whnf)
          (refine And.intro (by first | omega | assumption | rfl | exact zin_and | exact ⟨zin_and, by omega⟩ | exact ⟨by omega, zin_and⟩ | exact Nat.le_of_ble_eq_true rfl | exact ⟨Nat.le_of_ble_eq_true rfl, rfl⟩ | exact ⟨Nat.le_of_ble_eq_true rfl, by assumption⟩ | exact ⟨by omega, Nat.le_of_ble_eq_true rfl⟩ | exact ⟨⟨by assumption, by omega⟩, Nat.le_of_ble_eq_true rfl⟩ | decide) ?_; conv => whnf)
          (refine c_first hk hr hok (by omega) ?_; conv => whnf)
          (repeat' first | (refine hK _ _ _ _ (zW.go (zC_om _) (fun K hK => ?_)); conv => whnf) | (refine And.intro (by first | omega | assumption | rfl | exact zin_and | exact ⟨zin_and, by omega⟩ | exact ⟨by omega, zin_and⟩ | exact Nat.le_of_ble_eq_true rfl | exact ⟨Nat.le_of_ble_eq_true rfl, rfl⟩ | exact ⟨Nat.le_of_ble_eq_true rfl, by assumption⟩ | exact ⟨by omega, Nat.le_of_ble_eq_true rfl⟩ | exact ⟨⟨by assumption, by omega⟩, Nat.le_of_ble_eq_true rfl⟩ | decide) ?_; conv => whnf) | (refine And.intro (fun h => ?_) (fun h => ?_) <;> conv => whnf) | (intro h; conv => whnf))
          exact hQ
        · rw [if_pos h4] at hQ
          (refine And.intro (fun h => ?_) (fun h => by omega); conv => whnf)
          (repeat' first | (refine hK _ _ _ _ (zW.go (zC_om _) (fun K hK => ?_)); conv => whnf) | (refine And.intro (by first | omega | assumption | rfl | exact zin_and | exact ⟨zin_and, by omega⟩ | exact ⟨by omega, zin_and⟩ | exact Nat.le_of_ble_eq_true rfl | exact ⟨Nat.le_of_ble_eq_true rfl, rfl⟩ | exact ⟨Nat.le_of_ble_eq_true rfl, by assumption⟩ | exact ⟨by omega, Nat.le_of_ble_eq_true rfl⟩ | exact ⟨⟨by assumption, by omega⟩, Nat.le_of_ble_eq_true rfl⟩ | decide) ?_; conv => whnf) | (refine And.intro (fun h => ?_) (fun h => ?_) <;> conv => whnf) | (intro h; conv => whnf))
          exact hQ
      · rw [if_pos h3] at hQ
        (refine And.intro (fun h => ?_) (fun h => by omega); conv => whnf)
        (refine hK _ _ _ _ (zW.go (zC_om _) (fun K hK => ?_)); conv => whnf)
        (refine And.intro (by first | omega | assumption | rfl | exact zin_and | exact ⟨zin_and, by omega⟩ | exact ⟨by omega, zin_and⟩ | exact Nat.le_of_ble_eq_true rfl | exact ⟨Nat.le_of_ble_eq_true rfl, rfl⟩ | exact ⟨Nat.le_of_ble_eq_true rfl, by assumption⟩ | exact ⟨by omega, Nat.le_of_ble_eq_true rfl⟩ | exact ⟨⟨by assumption, by omega⟩, Nat.le_of_ble_eq_true rfl⟩ | decide) ?_; conv => whnf)
        (refine And.intro (fun h => ?_) (fun h => by omega); conv => whnf)
        (repeat' first | (refine hK _ _ _ _ (zW.go (zC_om _) (fun K hK => ?_)); conv => whnf) | (refine And.intro (by first | omega | assumption | rfl | exact zin_and | exact ⟨zin_and, by omega⟩ | exact ⟨by omega, zin_and⟩ | exact Nat.le_of_ble_eq_true rfl | exact ⟨Nat.le_of_ble_eq_true rfl, rfl⟩ | exact ⟨Nat.le_of_ble_eq_true rfl, by assumption⟩ | exact ⟨by omega, Nat.le_of_ble_eq_true rfl⟩ | exact ⟨⟨by assumption, by omega⟩, Nat.le_of_ble_eq_true rfl⟩ | decide) ?_; conv => whnf) | (refine And.intro (fun h => ?_) (fun h => ?_) <;> conv => whnf) | (intro h; conv => whnf))
        exact hQ
end CR
end
section
/-! packed nodes: longs by their parts (the rows wb_.. began as the kit's laws/BITS.to-paste) -/
theorem wb_tb (n : Nat) : (lN n).toBitVec = BitVec.ofNat 64 n := rfl
theorem wb_inj {a b : Int64} (h : a.toBitVec = b.toBitVec) : a = b := Int64.toBitVec_inj.mp h
theorem wb_tn {n : Nat} (h : n < 2 ^ 64) : (lN n).toBitVec.toNat = n := by rw [wb_tb, BitVec.toNat_ofNat, Nat.mod_eq_of_lt h]
theorem wb_of (x : Int64) : ∃ n, n < 2 ^ 64 ∧ x = lN n := ⟨x.toBitVec.toNat, x.toBitVec.isLt, wb_inj (by rw [wb_tb]; simp)⟩
theorem wb_of32 (x : Int32) : ∃ n, n < 2 ^ 32 ∧ x = nI n := ⟨x.toBitVec.toNat, x.toBitVec.isLt, Int32.toBitVec_inj.mp (by show _ = BitVec.ofNat 32 _; simp)⟩
theorem wb_c : ∀ k, k < 64 → ((nI k).toInt64 &&& 63) = lN k := by decide +kernel
theorem wb_cu : ∀ k, k < 64 → ((nI k).toInt64.toUInt64 &&& Int64.toUInt64 63) = UInt64.ofNat k := by decide +kernel
theorem wb_sm : ∀ k, k < 64 → (BitVec.ofNat 64 k).smod 64 = BitVec.ofNat 64 k := by decide +kernel
theorem wb_pw {a b : Nat} (h : a ≤ b) : 2 ^ b = 2 ^ a * 2 ^ (b - a) := by rw [← Nat.pow_add]; congr 1; omega
theorem wb_lt2 {a b : Nat} (h : a < b) : 2 ^ a < 2 ^ b := Nat.pow_lt_pow_right (by decide) h
theorem wb_mod (n : Nat) : lN n = lN (n % 2 ^ 64) := wb_inj (by rw [wb_tb, wb_tb]; apply BitVec.eq_of_toNat_eq; rw [BitVec.toNat_ofNat, BitVec.toNat_ofNat, Nat.mod_mod])
theorem wb_shr {n k : Nat} (hn : n < 2 ^ 64) (hk : k < 64) : ((lN n).toUInt64 >>> ((nI k).toInt64.toUInt64 &&& Int64.toUInt64 63)).toInt64 = lN (n / 2 ^ k) := by
  rw [wb_cu k hk]
  apply wb_inj
  apply BitVec.eq_of_toNat_eq
  show ((lN n).toUInt64 >>> UInt64.ofNat k).toNat = (BitVec.ofNat 64 _).toNat
  have h1 : (UInt64.ofNat k).toNat = k := by
    show (BitVec.ofNat 64 k).toNat = k
    rw [BitVec.toNat_ofNat, Nat.mod_eq_of_lt (by omega)]
  have h2 : (lN n).toUInt64.toNat = n := wb_tn hn
  rw [UInt64.toNat_shiftRight, h1, h2, Nat.mod_eq_of_lt hk, Nat.shiftRight_eq_div_pow, BitVec.toNat_ofNat, Nat.mod_eq_of_lt (Nat.lt_of_le_of_lt (Nat.div_le_self _ _) hn)]
theorem wb_shl (n : Nat) {k : Nat} (hk : k < 64) : lN n <<< ((nI k).toInt64 &&& 63) = lN (n * 2 ^ k) := by
  rw [wb_c k hk]
  apply wb_inj
  rw [Int64.toBitVec_shiftLeft, wb_tb, wb_tb, wb_tb, wb_sm k hk]
  apply BitVec.eq_of_toNat_eq
  rw [BitVec.shiftLeft_eq', BitVec.toNat_shiftLeft, BitVec.toNat_ofNat, BitVec.toNat_ofNat, BitVec.toNat_ofNat, Nat.mod_eq_of_lt (show k < 2 ^ 64 by omega), Nat.shiftLeft_eq, Nat.mul_mod, Nat.mod_mod, ← Nat.mul_mod]
theorem wb_and {a b : Nat} (ha : a < 2 ^ 64) (hb : b < 2 ^ 64) : lN a &&& lN b = lN (a &&& b) := by
  apply wb_inj
  rw [Int64.toBitVec_and, wb_tb, wb_tb, wb_tb]
  apply BitVec.eq_of_toNat_eq
  rw [BitVec.toNat_and, BitVec.toNat_ofNat, BitVec.toNat_ofNat, BitVec.toNat_ofNat, Nat.mod_eq_of_lt ha, Nat.mod_eq_of_lt hb, Nat.mod_eq_of_lt (Nat.and_lt_two_pow _ hb)]
theorem wb_or {a b : Nat} (ha : a < 2 ^ 64) (hb : b < 2 ^ 64) : lN a ||| lN b = lN (a ||| b) := by
  apply wb_inj
  rw [Int64.toBitVec_or, wb_tb, wb_tb, wb_tb]
  apply BitVec.eq_of_toNat_eq
  rw [BitVec.toNat_or, BitVec.toNat_ofNat, BitVec.toNat_ofNat, BitVec.toNat_ofNat, Nat.mod_eq_of_lt ha, Nat.mod_eq_of_lt hb, Nat.mod_eq_of_lt (Nat.or_lt_two_pow ha hb)]
theorem zJL_l2i {y : Int} {v : Nat} (h : zJL y = lN v) : zJ (zl2i y) = nI v := by
  unfold zl2i
  rw [zJ_of, h]
  exact lN_i v
theorem zJL_ushr {x : Int} {u k : Nat} (h : zJL x = lN u) (hu : u < 2 ^ 64) (hk : k < 64) : zJL (zlushr x k) = lN (u / 2 ^ k) := by
  unfold zlushr
  rw [zJL_of, h, zJ_nat]
  exact wb_shr hu hk
theorem zJL_shl {x : Int} {u k : Nat} (h : zJL x = lN u) (hk : k < 64) : zJL (zlshl x k) = lN (u * 2 ^ k) := by
  unfold zlshl
  rw [zJL_of, h, zJ_nat]
  exact wb_shl u hk
theorem zJL_or {x y : Int} {u v : Nat} (hx : zJL x = lN u) (hy : zJL y = lN v) (hu : u < 2 ^ 64) (hv : v < 2 ^ 64) : zJL (zlor x y) = lN (u ||| v) := by
  unfold zlor
  rw [zJL_of, hx, hy]
  exact wb_or hu hv
theorem zJL_and {x y : Int} {u v : Nat} (hx : zJL x = lN u) (hy : zJL y = lN v) (hu : u < 2 ^ 64) (hv : v < 2 ^ 64) : zJL (zland x y) = lN (u &&& v) := by
  unfold zland
  rw [zJL_of, hx, hy]
  exact wb_and hu hv
theorem zJL_i2l {v : Nat} (h : v < 2 ^ 31) : zJL (zi2l v) = lN v := by
  unfold zi2l
  rw [zJL_of, zJ_nat]
  exact nI_l h
/-- a part of a packed node -/
theorem zpart {x : Int} {u k : Nat} (h : zJL x = lN u) (hu : u < 2 ^ 64) (hk : k < 64) : zand (zl2i (zlushr x k)) 4095 = ((u / 2 ^ k % 4096 : Nat) : Int) := by
  have h1 := zJL_l2i (zJL_ushr h hu hk)
  refine zTI (m := u / 2 ^ k % 4096) ?_ (by omega)
  show (zJ (zl2i (zlushr x k)) &&& zJ 4095).toBitVec.toNat = _
  rw [h1, pk_and _ 12 (by decide)]
  have h2 : (nI (u / 2 ^ k)).toBitVec.toNat = u / 2 ^ k % 2 ^ 32 := by
    show (BitVec.ofNat 32 _).toNat = _
    rw [BitVec.toNat_ofNat]
  rw [h2, pk_tn (by omega)]
  omega
theorem nor_add {a b k : Nat} (h : b < 2 ^ k) : a * 2 ^ k ||| b = a * 2 ^ k + b := by
  rw [← Nat.shiftLeft_eq, Nat.shiftLeft_add_eq_or_of_lt h]
/-- a packed node says so: how, bound, in, out, from, fixed -/
def pkd (x h b i o p f : Int) : Prop := ∃ u : Nat, zJL x = lN u ∧ u < 2 ^ 64 ∧ ((u % 4096 : Nat) : Int) = h ∧ ((u / 2 ^ 24 % 4096 : Nat) : Int) = b ∧ ((u / 2 ^ 36 % 4096 : Nat) : Int) = i ∧ ((u / 2 ^ 48 % 4096 : Nat) : Int) = o ∧ ((u / 2 ^ 12 % 4096 : Nat) : Int) = p ∧ ((u / 2 ^ 60 % 4096 : Nat) : Int) = f
theorem pkd_make {h b i o p f : Nat} (hh : h < 4096) (hb : b < 4096) (hi : i < 4096) (ho : o < 4096) (hp : p < 4096) (hf : f < 16) :
    pkd (zlor (zlor (zlor (zlor (zlor (zlshl (zi2l f) 60) (zlshl (zi2l o) 48)) (zlshl (zi2l i) 36)) (zlshl (zi2l b) 24)) (zlshl (zi2l p) 12)) (zlshl (zi2l h) 0)) h b i o p f := by
  have a1 := zJL_shl (k := 60) (zJL_i2l (v := f) (by omega)) (by decide)
  have a2 := zJL_shl (k := 48) (zJL_i2l (v := o) (by omega)) (by decide)
  have a3 := zJL_shl (k := 36) (zJL_i2l (v := i) (by omega)) (by decide)
  have a4 := zJL_shl (k := 24) (zJL_i2l (v := b) (by omega)) (by decide)
  have a5 := zJL_shl (k := 12) (zJL_i2l (v := p) (by omega)) (by decide)
  have a6 := zJL_shl (k := 0) (zJL_i2l (v := h) (by omega)) (by decide)
  have b1 := zJL_or a1 a2 (by omega) (by omega)
  have e1 : f * 2 ^ 60 ||| o * 2 ^ 48 = (f * 4096 + o) * 2 ^ 48 := by rw [nor_add (k := 60) (by omega)]; omega
  rw [e1] at b1
  have b2 := zJL_or b1 a3 (by omega) (by omega)
  have e2 : (f * 4096 + o) * 2 ^ 48 ||| i * 2 ^ 36 = ((f * 4096 + o) * 4096 + i) * 2 ^ 36 := by rw [nor_add (k := 48) (by omega)]; omega
  rw [e2] at b2
  have b3 := zJL_or b2 a4 (by omega) (by omega)
  have e3 : ((f * 4096 + o) * 4096 + i) * 2 ^ 36 ||| b * 2 ^ 24 = (((f * 4096 + o) * 4096 + i) * 4096 + b) * 2 ^ 24 := by rw [nor_add (k := 36) (by omega)]; omega
  rw [e3] at b3
  have b4 := zJL_or b3 a5 (by omega) (by omega)
  have e4 : (((f * 4096 + o) * 4096 + i) * 4096 + b) * 2 ^ 24 ||| p * 2 ^ 12 = ((((f * 4096 + o) * 4096 + i) * 4096 + b) * 4096 + p) * 2 ^ 12 := by rw [nor_add (k := 24) (by omega)]; omega
  rw [e4] at b4
  have b5 := zJL_or b4 a6 (by omega) (by omega)
  have e5 : ((((f * 4096 + o) * 4096 + i) * 4096 + b) * 4096 + p) * 2 ^ 12 ||| h * 2 ^ 0 = ((((f * 4096 + o) * 4096 + i) * 4096 + b) * 4096 + p) * 2 ^ 12 + h := by rw [Nat.pow_zero, Nat.mul_one, nor_add (k := 12) (by omega)]
  rw [e5] at b5
  refine ⟨_, b5, by omega, ?_, ?_, ?_, ?_, ?_, ?_⟩ <;> omega
theorem nmask : ∀ j, j < 64 → (18446744073709547520 : Nat).testBit j = decide (12 ≤ j) := by decide +kernel
theorem nand_hi {u : Nat} (h : u < 2 ^ 64) : u &&& 18446744073709547520 = u / 2 ^ 12 * 2 ^ 12 := by
  refine Nat.eq_of_testBit_eq (fun j => ?_)
  rw [Nat.testBit_and, Nat.testBit_mul_two_pow, Nat.testBit_div_two_pow]
  by_cases hj : j < 64
  · rw [nmask j hj]
    by_cases h12 : 12 ≤ j
    · have e : j - 12 + 12 = j := by omega
      simp [h12, e]
    · simp [h12]
  · rw [zlt_bits h (by omega)]
    by_cases h12 : 12 ≤ j
    · have e : j - 12 + 12 = j := by omega
      rw [e, zlt_bits h (by omega)]
      simp
    · simp [h12]
theorem pkd_settle {x h b i o p f : Int} {w : Nat} (hx : pkd x h b i o p f) (hw : w < 4096) : pkd (zlor (zland x (-4096)) (zlshl (zi2l w) 0)) w b i o p f := by
  obtain ⟨u, h1, h2, h3, h4, h5, h6, h7, h8⟩ := hx
  have m1 : zJL (-4096) = lN 18446744073709547520 := by decide
  have b1 := zJL_and h1 m1 h2 (by decide)
  rw [nand_hi h2] at b1
  have a6 := zJL_shl (k := 0) (zJL_i2l (v := w) (by omega)) (by decide)
  have b2 := zJL_or b1 a6 (by omega) (by omega)
  have e5 : u / 2 ^ 12 * 2 ^ 12 ||| w * 2 ^ 0 = u / 2 ^ 12 * 2 ^ 12 + w := by rw [Nat.pow_zero, Nat.mul_one, nor_add (k := 12) (by omega)]
  rw [e5] at b2
  refine ⟨_, b2, by omega, ?_, ?_, ?_, ?_, ?_, ?_⟩ <;> omega
def zKN (q : Nat) : Prop := zkd q = (0, 2) ∧ zkd (q + 1) = (3, 400)
def RelN (g : zM) (q : Nat) (s : zS) (m : Nat) : Prop := g q (1 : Nat) = (m : Int) ∧ ∀ k : Nat, k < m → pkd (g (q + 1) k) (nd s k 4) (nd s k 3) (nd s k 5) (nd s k 6) (if k = 0 then 0 else nd s k 0) (if k = 0 then 0 else nd s k 1)
section CN
variable {g : zM} {q m : Nat} {s : zS} {d : Nat} {Q : zP}
theorem c_part (hk : zKN q) {node sh u : Nat} (hn : node < 400) (hsh : sh < 64) (hx : zJL (g (q + 1) node) = lN u) (hu : u < 2 ^ 64) (hQ : Q (some (zI (u / 2 ^ sh % 4096 : Nat))) g) : zC (d + 1) 27 [zR q, zI node, zI sh] g Q := by
  obtain ⟨hk0, hk1⟩ := id hk
  have hk11 : (zkd (q + 1)).1 = 3 := by rw [hk1]
  have hk12 : (zkd (q + 1)).2 = 400 := by rw [hk1]
  refine zC.go zm_X2_part ⟨rfl, rfl⟩ rfl ?_
  (refine zW.go (zC_om _) (fun K hK => ?_); conv => whnf)
  (refine And.intro (by first | omega | assumption | rfl | exact zin_and | exact ⟨zin_and, by omega⟩ | exact ⟨by omega, zin_and⟩ | exact Nat.le_of_ble_eq_true rfl | exact ⟨Nat.le_of_ble_eq_true rfl, rfl⟩ | exact ⟨Nat.le_of_ble_eq_true rfl, by assumption⟩ | exact ⟨by omega, Nat.le_of_ble_eq_true rfl⟩ | exact ⟨⟨by assumption, by omega⟩, Nat.le_of_ble_eq_true rfl⟩ | decide) ?_; conv => whnf)
  (refine And.intro (fun h => by omega) (fun h => ?_); conv => whnf)
  (refine And.intro (by first | omega | assumption | rfl | exact zin_and | exact ⟨zin_and, by omega⟩ | exact ⟨by omega, zin_and⟩ | exact Nat.le_of_ble_eq_true rfl | exact ⟨Nat.le_of_ble_eq_true rfl, rfl⟩ | exact ⟨Nat.le_of_ble_eq_true rfl, by assumption⟩ | exact ⟨by omega, Nat.le_of_ble_eq_true rfl⟩ | exact ⟨⟨by assumption, by omega⟩, Nat.le_of_ble_eq_true rfl⟩ | decide) ?_; conv => whnf)
  (refine And.intro (by first | omega | assumption | rfl | exact zin_and | exact ⟨zin_and, by omega⟩ | exact ⟨by omega, zin_and⟩ | exact Nat.le_of_ble_eq_true rfl | exact ⟨Nat.le_of_ble_eq_true rfl, rfl⟩ | exact ⟨Nat.le_of_ble_eq_true rfl, by assumption⟩ | exact ⟨by omega, Nat.le_of_ble_eq_true rfl⟩ | exact ⟨⟨by assumption, by omega⟩, Nat.le_of_ble_eq_true rfl⟩ | decide) ?_; conv => whnf)
  (refine And.intro (by first | omega | assumption | rfl | exact zin_and | exact ⟨zin_and, by omega⟩ | exact ⟨by omega, zin_and⟩ | exact Nat.le_of_ble_eq_true rfl | exact ⟨Nat.le_of_ble_eq_true rfl, rfl⟩ | exact ⟨Nat.le_of_ble_eq_true rfl, by assumption⟩ | exact ⟨by omega, Nat.le_of_ble_eq_true rfl⟩ | exact ⟨⟨by assumption, by omega⟩, Nat.le_of_ble_eq_true rfl⟩ | decide) ?_; conv => whnf)
  (refine And.intro (fun h => by omega) (fun h => ?_); conv => whnf)
  (refine And.intro (by first | omega | assumption | rfl | exact zin_and | exact ⟨zin_and, by omega⟩ | exact ⟨by omega, zin_and⟩ | exact Nat.le_of_ble_eq_true rfl | exact ⟨Nat.le_of_ble_eq_true rfl, rfl⟩ | exact ⟨Nat.le_of_ble_eq_true rfl, by assumption⟩ | exact ⟨by omega, Nat.le_of_ble_eq_true rfl⟩ | exact ⟨⟨by assumption, by omega⟩, Nat.le_of_ble_eq_true rfl⟩ | decide) ?_; conv => whnf)
  (refine And.intro (by first | omega | assumption | rfl | exact zin_and | exact ⟨zin_and, by omega⟩ | exact ⟨by omega, zin_and⟩ | exact Nat.le_of_ble_eq_true rfl | exact ⟨Nat.le_of_ble_eq_true rfl, rfl⟩ | exact ⟨Nat.le_of_ble_eq_true rfl, by assumption⟩ | exact ⟨by omega, Nat.le_of_ble_eq_true rfl⟩ | exact ⟨⟨by assumption, by omega⟩, Nat.le_of_ble_eq_true rfl⟩ | decide) ?_; conv => whnf)
  rw [zpart hx hu hsh]
  (repeat' first | (refine hK _ _ _ _ (zW.go (zC_om _) (fun K hK => ?_)); conv => whnf) | (refine And.intro (by first | omega | assumption | rfl | exact zin_and | exact ⟨zin_and, by omega⟩ | exact ⟨by omega, zin_and⟩ | exact Nat.le_of_ble_eq_true rfl | exact ⟨Nat.le_of_ble_eq_true rfl, rfl⟩ | exact ⟨Nat.le_of_ble_eq_true rfl, by assumption⟩ | exact ⟨by omega, Nat.le_of_ble_eq_true rfl⟩ | exact ⟨⟨by assumption, by omega⟩, Nat.le_of_ble_eq_true rfl⟩ | decide) ?_; conv => whnf) | (refine And.intro (fun h => ?_) (fun h => ?_) <;> conv => whnf) | (intro h; conv => whnf))
  exact hQ
theorem c_how (hk : zKN q) (hr : RelN g q s m) (hm : m ≤ 400) {k : Nat} (hkm : k < m) (hQ : Q (some (zI (nd s k 4))) g) : zC (d + 2) 28 [zR q, zI k] g Q := by
  obtain ⟨hk0, hk1⟩ := id hk
  obtain ⟨u, h1, h2, h3, h4, h5, h6, h7, h8⟩ := hr.2 k hkm
  refine zC.go zm_X2_how ⟨rfl, rfl⟩ rfl ?_
  (refine zW.go (zC_om _) (fun K hK => ?_); conv => whnf)
  (refine And.intro (by first | omega | assumption | rfl | exact zin_and | exact ⟨zin_and, by omega⟩ | exact ⟨by omega, zin_and⟩ | exact Nat.le_of_ble_eq_true rfl | exact ⟨Nat.le_of_ble_eq_true rfl, rfl⟩ | exact ⟨Nat.le_of_ble_eq_true rfl, by assumption⟩ | exact ⟨by omega, Nat.le_of_ble_eq_true rfl⟩ | exact ⟨⟨by assumption, by omega⟩, Nat.le_of_ble_eq_true rfl⟩ | decide) ?_; conv => whnf)
  (refine c_part (sh := 0) hk (by omega) (by decide) h1 h2 ?_; conv => whnf)
  (repeat' first | (refine hK _ _ _ _ (zW.go (zC_om _) (fun K hK => ?_)); conv => whnf) | (refine And.intro (by first | omega | assumption | rfl | exact zin_and | exact ⟨zin_and, by omega⟩ | exact ⟨by omega, zin_and⟩ | exact Nat.le_of_ble_eq_true rfl | exact ⟨Nat.le_of_ble_eq_true rfl, rfl⟩ | exact ⟨Nat.le_of_ble_eq_true rfl, by assumption⟩ | exact ⟨by omega, Nat.le_of_ble_eq_true rfl⟩ | exact ⟨⟨by assumption, by omega⟩, Nat.le_of_ble_eq_true rfl⟩ | decide) ?_; conv => whnf) | (refine And.intro (fun h => ?_) (fun h => ?_) <;> conv => whnf) | (intro h; conv => whnf))
  refine zQe hQ ?_
  rw [← h3, Nat.pow_zero, Nat.div_one]
theorem c_from (hk : zKN q) (hr : RelN g q s m) (hm : m ≤ 400) {k : Nat} (hkm : k < m) (hQ : Q (some (zI (if k = 0 then 0 else nd s k 0))) g) : zC (d + 2) 29 [zR q, zI k] g Q := by
  obtain ⟨hk0, hk1⟩ := id hk
  obtain ⟨u, h1, h2, h3, h4, h5, h6, h7, h8⟩ := hr.2 k hkm
  refine zC.go zm_X2_from ⟨rfl, rfl⟩ rfl ?_
  (refine zW.go (zC_om _) (fun K hK => ?_); conv => whnf)
  (refine And.intro (by first | omega | assumption | rfl | exact zin_and | exact ⟨zin_and, by omega⟩ | exact ⟨by omega, zin_and⟩ | exact Nat.le_of_ble_eq_true rfl | exact ⟨Nat.le_of_ble_eq_true rfl, rfl⟩ | exact ⟨Nat.le_of_ble_eq_true rfl, by assumption⟩ | exact ⟨by omega, Nat.le_of_ble_eq_true rfl⟩ | exact ⟨⟨by assumption, by omega⟩, Nat.le_of_ble_eq_true rfl⟩ | decide) ?_; conv => whnf)
  (refine c_part (sh := 12) hk (by omega) (by decide) h1 h2 ?_; conv => whnf)
  (repeat' first | (refine hK _ _ _ _ (zW.go (zC_om _) (fun K hK => ?_)); conv => whnf) | (refine And.intro (by first | omega | assumption | rfl | exact zin_and | exact ⟨zin_and, by omega⟩ | exact ⟨by omega, zin_and⟩ | exact Nat.le_of_ble_eq_true rfl | exact ⟨Nat.le_of_ble_eq_true rfl, rfl⟩ | exact ⟨Nat.le_of_ble_eq_true rfl, by assumption⟩ | exact ⟨by omega, Nat.le_of_ble_eq_true rfl⟩ | exact ⟨⟨by assumption, by omega⟩, Nat.le_of_ble_eq_true rfl⟩ | decide) ?_; conv => whnf) | (refine And.intro (fun h => ?_) (fun h => ?_) <;> conv => whnf) | (intro h; conv => whnf))
  exact zQe hQ h7
theorem c_nbound (hk : zKN q) (hr : RelN g q s m) (hm : m ≤ 400) {k : Nat} (hkm : k < m) (hQ : Q (some (zI (nd s k 3))) g) : zC (d + 2) 30 [zR q, zI k] g Q := by
  obtain ⟨hk0, hk1⟩ := id hk
  obtain ⟨u, h1, h2, h3, h4, h5, h6, h7, h8⟩ := hr.2 k hkm
  refine zC.go zm_X2_bound ⟨rfl, rfl⟩ rfl ?_
  (refine zW.go (zC_om _) (fun K hK => ?_); conv => whnf)
  (refine And.intro (by first | omega | assumption | rfl | exact zin_and | exact ⟨zin_and, by omega⟩ | exact ⟨by omega, zin_and⟩ | exact Nat.le_of_ble_eq_true rfl | exact ⟨Nat.le_of_ble_eq_true rfl, rfl⟩ | exact ⟨Nat.le_of_ble_eq_true rfl, by assumption⟩ | exact ⟨by omega, Nat.le_of_ble_eq_true rfl⟩ | exact ⟨⟨by assumption, by omega⟩, Nat.le_of_ble_eq_true rfl⟩ | decide) ?_; conv => whnf)
  (refine c_part (sh := 24) hk (by omega) (by decide) h1 h2 ?_; conv => whnf)
  (repeat' first | (refine hK _ _ _ _ (zW.go (zC_om _) (fun K hK => ?_)); conv => whnf) | (refine And.intro (by first | omega | assumption | rfl | exact zin_and | exact ⟨zin_and, by omega⟩ | exact ⟨by omega, zin_and⟩ | exact Nat.le_of_ble_eq_true rfl | exact ⟨Nat.le_of_ble_eq_true rfl, rfl⟩ | exact ⟨Nat.le_of_ble_eq_true rfl, by assumption⟩ | exact ⟨by omega, Nat.le_of_ble_eq_true rfl⟩ | exact ⟨⟨by assumption, by omega⟩, Nat.le_of_ble_eq_true rfl⟩ | decide) ?_; conv => whnf) | (refine And.intro (fun h => ?_) (fun h => ?_) <;> conv => whnf) | (intro h; conv => whnf))
  exact zQe hQ h4
theorem c_in (hk : zKN q) (hr : RelN g q s m) (hm : m ≤ 400) {k : Nat} (hkm : k < m) (hQ : Q (some (zI (nd s k 5))) g) : zC (d + 2) 31 [zR q, zI k] g Q := by
  obtain ⟨hk0, hk1⟩ := id hk
  obtain ⟨u, h1, h2, h3, h4, h5, h6, h7, h8⟩ := hr.2 k hkm
  refine zC.go zm_X2_in ⟨rfl, rfl⟩ rfl ?_
  (refine zW.go (zC_om _) (fun K hK => ?_); conv => whnf)
  (refine And.intro (by first | omega | assumption | rfl | exact zin_and | exact ⟨zin_and, by omega⟩ | exact ⟨by omega, zin_and⟩ | exact Nat.le_of_ble_eq_true rfl | exact ⟨Nat.le_of_ble_eq_true rfl, rfl⟩ | exact ⟨Nat.le_of_ble_eq_true rfl, by assumption⟩ | exact ⟨by omega, Nat.le_of_ble_eq_true rfl⟩ | exact ⟨⟨by assumption, by omega⟩, Nat.le_of_ble_eq_true rfl⟩ | decide) ?_; conv => whnf)
  (refine c_part (sh := 36) hk (by omega) (by decide) h1 h2 ?_; conv => whnf)
  (repeat' first | (refine hK _ _ _ _ (zW.go (zC_om _) (fun K hK => ?_)); conv => whnf) | (refine And.intro (by first | omega | assumption | rfl | exact zin_and | exact ⟨zin_and, by omega⟩ | exact ⟨by omega, zin_and⟩ | exact Nat.le_of_ble_eq_true rfl | exact ⟨Nat.le_of_ble_eq_true rfl, rfl⟩ | exact ⟨Nat.le_of_ble_eq_true rfl, by assumption⟩ | exact ⟨by omega, Nat.le_of_ble_eq_true rfl⟩ | exact ⟨⟨by assumption, by omega⟩, Nat.le_of_ble_eq_true rfl⟩ | decide) ?_; conv => whnf) | (refine And.intro (fun h => ?_) (fun h => ?_) <;> conv => whnf) | (intro h; conv => whnf))
  exact zQe hQ h5
theorem c_out (hk : zKN q) (hr : RelN g q s m) (hm : m ≤ 400) {k : Nat} (hkm : k < m) (hQ : Q (some (zI (nd s k 6))) g) : zC (d + 2) 32 [zR q, zI k] g Q := by
  obtain ⟨hk0, hk1⟩ := id hk
  obtain ⟨u, h1, h2, h3, h4, h5, h6, h7, h8⟩ := hr.2 k hkm
  refine zC.go zm_X2_out ⟨rfl, rfl⟩ rfl ?_
  (refine zW.go (zC_om _) (fun K hK => ?_); conv => whnf)
  (refine And.intro (by first | omega | assumption | rfl | exact zin_and | exact ⟨zin_and, by omega⟩ | exact ⟨by omega, zin_and⟩ | exact Nat.le_of_ble_eq_true rfl | exact ⟨Nat.le_of_ble_eq_true rfl, rfl⟩ | exact ⟨Nat.le_of_ble_eq_true rfl, by assumption⟩ | exact ⟨by omega, Nat.le_of_ble_eq_true rfl⟩ | exact ⟨⟨by assumption, by omega⟩, Nat.le_of_ble_eq_true rfl⟩ | decide) ?_; conv => whnf)
  (refine c_part (sh := 48) hk (by omega) (by decide) h1 h2 ?_; conv => whnf)
  (repeat' first | (refine hK _ _ _ _ (zW.go (zC_om _) (fun K hK => ?_)); conv => whnf) | (refine And.intro (by first | omega | assumption | rfl | exact zin_and | exact ⟨zin_and, by omega⟩ | exact ⟨by omega, zin_and⟩ | exact Nat.le_of_ble_eq_true rfl | exact ⟨Nat.le_of_ble_eq_true rfl, rfl⟩ | exact ⟨Nat.le_of_ble_eq_true rfl, by assumption⟩ | exact ⟨by omega, Nat.le_of_ble_eq_true rfl⟩ | exact ⟨⟨by assumption, by omega⟩, Nat.le_of_ble_eq_true rfl⟩ | decide) ?_; conv => whnf) | (refine And.intro (fun h => ?_) (fun h => ?_) <;> conv => whnf) | (intro h; conv => whnf))
  exact zQe hQ h6
theorem c_fixed (hk : zKN q) (hr : RelN g q s m) (hm : m ≤ 400) {k : Nat} (hkm : k < m) (hQ : Q (some (zI (if k = 0 then 0 else nd s k 1))) g) : zC (d + 2) 33 [zR q, zI k] g Q := by
  obtain ⟨hk0, hk1⟩ := id hk
  obtain ⟨u, h1, h2, h3, h4, h5, h6, h7, h8⟩ := hr.2 k hkm
  refine zC.go zm_X2_fixed ⟨rfl, rfl⟩ rfl ?_
  (refine zW.go (zC_om _) (fun K hK => ?_); conv => whnf)
  (refine And.intro (by first | omega | assumption | rfl | exact zin_and | exact ⟨zin_and, by omega⟩ | exact ⟨by omega, zin_and⟩ | exact Nat.le_of_ble_eq_true rfl | exact ⟨Nat.le_of_ble_eq_true rfl, rfl⟩ | exact ⟨Nat.le_of_ble_eq_true rfl, by assumption⟩ | exact ⟨by omega, Nat.le_of_ble_eq_true rfl⟩ | exact ⟨⟨by assumption, by omega⟩, Nat.le_of_ble_eq_true rfl⟩ | decide) ?_; conv => whnf)
  (refine c_part (sh := 60) hk (by omega) (by decide) h1 h2 ?_; conv => whnf)
  (repeat' first | (refine hK _ _ _ _ (zW.go (zC_om _) (fun K hK => ?_)); conv => whnf) | (refine And.intro (by first | omega | assumption | rfl | exact zin_and | exact ⟨zin_and, by omega⟩ | exact ⟨by omega, zin_and⟩ | exact Nat.le_of_ble_eq_true rfl | exact ⟨Nat.le_of_ble_eq_true rfl, rfl⟩ | exact ⟨Nat.le_of_ble_eq_true rfl, by assumption⟩ | exact ⟨by omega, Nat.le_of_ble_eq_true rfl⟩ | exact ⟨⟨by assumption, by omega⟩, Nat.le_of_ble_eq_true rfl⟩ | decide) ?_; conv => whnf) | (refine And.intro (fun h => ?_) (fun h => ?_) <;> conv => whnf) | (intro h; conv => whnf))
  exact zQe hQ h8
theorem c_nknows (hk : zKN q) (hr : RelN g q s m) (hm : m ≤ 400) {k : Int} (hz : zin k) (hQ : Q (some (zI (if 0 ≤ k ∧ k < m then 1 else 0))) g) : zC (d + 1) 25 [zR q, zI k] g Q := by
  obtain ⟨hk0, hk1⟩ := id hk
  have h1 := hr.1
  refine zC.go zm_X2_knows ⟨rfl, rfl⟩ rfl ?_
  (refine zW.go (zC_om _) (fun K hK => ?_); conv => whnf)
  (repeat' first | (refine hK _ _ _ _ (zW.go (zC_om _) (fun K hK => ?_)); conv => whnf) | (refine And.intro (by first | omega | assumption | rfl | exact zin_and | exact ⟨zin_and, by omega⟩ | exact ⟨by omega, zin_and⟩ | exact Nat.le_of_ble_eq_true rfl | exact ⟨Nat.le_of_ble_eq_true rfl, rfl⟩ | exact ⟨Nat.le_of_ble_eq_true rfl, by assumption⟩ | exact ⟨by omega, Nat.le_of_ble_eq_true rfl⟩ | exact ⟨⟨by assumption, by omega⟩, Nat.le_of_ble_eq_true rfl⟩ | decide) ?_; conv => whnf) | (refine And.intro (fun h => ?_) (fun h => ?_) <;> conv => whnf) | (intro h; conv => whnf))
  all_goals (refine zQe hQ ?_; split <;> omega)
theorem c_countOf (hk : zKN q) (hr : RelN g q s m) (hm : m ≤ 400) {how : Int} (hh : zin how) (hQ : Q (some (zI (mcn s how m : Nat))) g) : zC (d + 3) 36 [zR q, zI how] g Q := by
  obtain ⟨hk0, hk1⟩ := id hk
  have h1 := hr.1
  refine zC.go zm_X2_countOf ⟨rfl, rfl⟩ rfl ?_
  (refine zW.upto (zC_om _) 4 (fun K hK => ?_); conv => whnf)
  refine hK _ _ _ _ (zdown (P := fun k => zW zX2_countOf (zC (d + 2)) Q 4 [zR q, zI how, zI (mcn s how k : Nat), zI k] [] g) m ?_ ?_)
  · (refine zW.go (zC_om _) (fun K hK => ?_); conv => whnf)
    (refine And.intro (by first | omega | assumption | rfl | exact zin_and | exact ⟨zin_and, by omega⟩ | exact ⟨by omega, zin_and⟩ | exact Nat.le_of_ble_eq_true rfl | exact ⟨Nat.le_of_ble_eq_true rfl, rfl⟩ | exact ⟨Nat.le_of_ble_eq_true rfl, by assumption⟩ | exact ⟨by omega, Nat.le_of_ble_eq_true rfl⟩ | exact ⟨⟨by assumption, by omega⟩, Nat.le_of_ble_eq_true rfl⟩ | decide) ?_; conv => whnf)
    (refine And.intro (by first | omega | assumption | rfl | exact zin_and | exact ⟨zin_and, by omega⟩ | exact ⟨by omega, zin_and⟩ | exact Nat.le_of_ble_eq_true rfl | exact ⟨Nat.le_of_ble_eq_true rfl, rfl⟩ | exact ⟨Nat.le_of_ble_eq_true rfl, by assumption⟩ | exact ⟨by omega, Nat.le_of_ble_eq_true rfl⟩ | exact ⟨⟨by assumption, by omega⟩, Nat.le_of_ble_eq_true rfl⟩ | decide) ?_; conv => whnf)
    (refine And.intro (fun h => ?_) (fun h => by omega); conv => whnf)
    (repeat' first | (refine hK _ _ _ _ (zW.go (zC_om _) (fun K hK => ?_)); conv => whnf) | (refine And.intro (by first | omega | assumption | rfl | exact zin_and | exact ⟨zin_and, by omega⟩ | exact ⟨by omega, zin_and⟩ | exact Nat.le_of_ble_eq_true rfl | exact ⟨Nat.le_of_ble_eq_true rfl, rfl⟩ | exact ⟨Nat.le_of_ble_eq_true rfl, by assumption⟩ | exact ⟨by omega, Nat.le_of_ble_eq_true rfl⟩ | exact ⟨⟨by assumption, by omega⟩, Nat.le_of_ble_eq_true rfl⟩ | decide) ?_; conv => whnf) | (refine And.intro (fun h => ?_) (fun h => ?_) <;> conv => whnf) | (intro h; conv => whnf))
    exact hQ
  · intro k hkm hi
    obtain ⟨u, -, -, hu, -⟩ := hr.2 k hkm
    have hi : zW zX2_countOf (zC (d + 2)) Q 4 [zR q, zI how, zI (mcn s how k + (if decide (nd s k 4 = how) = true then 1 else 0) : Nat), zI (k + 1 : Nat)] [] g := hi
    (refine zW.go (zC_om _) (fun K hK => ?_); conv => whnf)
    (refine And.intro (by first | omega | assumption | rfl | exact zin_and | exact ⟨zin_and, by omega⟩ | exact ⟨by omega, zin_and⟩ | exact Nat.le_of_ble_eq_true rfl | exact ⟨Nat.le_of_ble_eq_true rfl, rfl⟩ | exact ⟨Nat.le_of_ble_eq_true rfl, by assumption⟩ | exact ⟨by omega, Nat.le_of_ble_eq_true rfl⟩ | exact ⟨⟨by assumption, by omega⟩, Nat.le_of_ble_eq_true rfl⟩ | decide) ?_; conv => whnf)
    (refine And.intro (by first | omega | assumption | rfl | exact zin_and | exact ⟨zin_and, by omega⟩ | exact ⟨by omega, zin_and⟩ | exact Nat.le_of_ble_eq_true rfl | exact ⟨Nat.le_of_ble_eq_true rfl, rfl⟩ | exact ⟨Nat.le_of_ble_eq_true rfl, by assumption⟩ | exact ⟨by omega, Nat.le_of_ble_eq_true rfl⟩ | exact ⟨⟨by assumption, by omega⟩, Nat.le_of_ble_eq_true rfl⟩ | decide) ?_; conv => whnf)
    (refine And.intro (fun h => by omega) (fun h => ?_); conv => whnf)
    (refine And.intro (by first | omega | assumption | rfl | exact zin_and | exact ⟨zin_and, by omega⟩ | exact ⟨by omega, zin_and⟩ | exact Nat.le_of_ble_eq_true rfl | exact ⟨Nat.le_of_ble_eq_true rfl, rfl⟩ | exact ⟨Nat.le_of_ble_eq_true rfl, by assumption⟩ | exact ⟨by omega, Nat.le_of_ble_eq_true rfl⟩ | exact ⟨⟨by assumption, by omega⟩, Nat.le_of_ble_eq_true rfl⟩ | decide) ?_; conv => whnf)
    (refine c_how hk hr hm hkm ?_; conv => whnf)
    (refine And.intro (by first | omega | assumption | rfl | exact zin_and | exact ⟨zin_and, by omega⟩ | exact ⟨by omega, zin_and⟩ | exact Nat.le_of_ble_eq_true rfl | exact ⟨Nat.le_of_ble_eq_true rfl, rfl⟩ | exact ⟨Nat.le_of_ble_eq_true rfl, by assumption⟩ | exact ⟨by omega, Nat.le_of_ble_eq_true rfl⟩ | exact ⟨⟨by assumption, by omega⟩, Nat.le_of_ble_eq_true rfl⟩ | decide) ?_; conv => whnf)
    by_cases hc : nd s k 4 = how
    · rw [if_pos (decide_eq_true hc)] at hi
      (refine And.intro (fun h => by omega) (fun h => ?_); conv => whnf)
      exact hK _ _ _ _ hi
    · rw [if_neg (by simpa using hc), Nat.add_zero] at hi
      (refine And.intro (fun h => ?_) (fun h => by omega); conv => whnf)
      (refine hK _ _ _ _ (zW.go (zC_om _) (fun K hK => ?_)); conv => whnf)
      exact hK _ _ _ _ hi
theorem c_goesBefore (hk : zKN q) (hr : RelN g q s m) (hm : m ≤ 400) {a b : Nat} {order : Int} (ha : a < m) (hb : b < m) (ho : zin order) (hQ : Q (some (zI (if order = 1 then (if nd s b 3 < nd s a 3 then 1 else 0) else if order = 0 then 1 else 0))) g) : zC (d + 3) 38 [zR q, zI a, zI b, zI order] g Q := by
  obtain ⟨hk0, hk1⟩ := id hk
  obtain ⟨ua, -, -, -, hua, -⟩ := hr.2 a ha
  obtain ⟨ub, -, -, -, hub, -⟩ := hr.2 b hb
  refine zC.go zm_X2_goesBefore ⟨rfl, rfl⟩ rfl ?_
  (refine zW.go (zC_om _) (fun K hK => ?_); conv => whnf)
  (refine And.intro (by first | omega | assumption | rfl | exact zin_and | exact ⟨zin_and, by omega⟩ | exact ⟨by omega, zin_and⟩ | exact Nat.le_of_ble_eq_true rfl | exact ⟨Nat.le_of_ble_eq_true rfl, rfl⟩ | exact ⟨Nat.le_of_ble_eq_true rfl, by assumption⟩ | exact ⟨by omega, Nat.le_of_ble_eq_true rfl⟩ | exact ⟨⟨by assumption, by omega⟩, Nat.le_of_ble_eq_true rfl⟩ | decide) ?_; conv => whnf)
  by_cases h1 : order = 1
  · rw [if_pos h1] at hQ
    (refine And.intro (fun h => by omega) (fun h => ?_); conv => whnf)
    (refine And.intro (by first | omega | assumption | rfl | exact zin_and | exact ⟨zin_and, by omega⟩ | exact ⟨by omega, zin_and⟩ | exact Nat.le_of_ble_eq_true rfl | exact ⟨Nat.le_of_ble_eq_true rfl, rfl⟩ | exact ⟨Nat.le_of_ble_eq_true rfl, by assumption⟩ | exact ⟨by omega, Nat.le_of_ble_eq_true rfl⟩ | exact ⟨⟨by assumption, by omega⟩, Nat.le_of_ble_eq_true rfl⟩ | decide) ?_; conv => whnf)
    (refine c_nbound hk hr hm ha ?_; conv => whnf)
    (refine And.intro (by first | omega | assumption | rfl | exact zin_and | exact ⟨zin_and, by omega⟩ | exact ⟨by omega, zin_and⟩ | exact Nat.le_of_ble_eq_true rfl | exact ⟨Nat.le_of_ble_eq_true rfl, rfl⟩ | exact ⟨Nat.le_of_ble_eq_true rfl, by assumption⟩ | exact ⟨by omega, Nat.le_of_ble_eq_true rfl⟩ | exact ⟨⟨by assumption, by omega⟩, Nat.le_of_ble_eq_true rfl⟩ | decide) ?_; conv => whnf)
    (refine c_nbound hk hr hm hb ?_; conv => whnf)
    (refine And.intro (by first | omega | assumption | rfl | exact zin_and | exact ⟨zin_and, by omega⟩ | exact ⟨by omega, zin_and⟩ | exact Nat.le_of_ble_eq_true rfl | exact ⟨Nat.le_of_ble_eq_true rfl, rfl⟩ | exact ⟨Nat.le_of_ble_eq_true rfl, by assumption⟩ | exact ⟨by omega, Nat.le_of_ble_eq_true rfl⟩ | exact ⟨⟨by assumption, by omega⟩, Nat.le_of_ble_eq_true rfl⟩ | decide) ?_; conv => whnf)
    by_cases h2 : nd s b 3 < nd s a 3
    · rw [if_pos h2] at hQ
      (refine And.intro (fun h => by omega) (fun h => ?_); conv => whnf)
      (repeat' first | (refine hK _ _ _ _ (zW.go (zC_om _) (fun K hK => ?_)); conv => whnf) | (refine And.intro (by first | omega | assumption | rfl | exact zin_and | exact ⟨zin_and, by omega⟩ | exact ⟨by omega, zin_and⟩ | exact Nat.le_of_ble_eq_true rfl | exact ⟨Nat.le_of_ble_eq_true rfl, rfl⟩ | exact ⟨Nat.le_of_ble_eq_true rfl, by assumption⟩ | exact ⟨by omega, Nat.le_of_ble_eq_true rfl⟩ | exact ⟨⟨by assumption, by omega⟩, Nat.le_of_ble_eq_true rfl⟩ | decide) ?_; conv => whnf) | (refine And.intro (fun h => ?_) (fun h => ?_) <;> conv => whnf) | (intro h; conv => whnf))
      exact hQ
    · rw [if_neg h2] at hQ
      (refine And.intro (fun h => ?_) (fun h => by omega); conv => whnf)
      (repeat' first | (refine hK _ _ _ _ (zW.go (zC_om _) (fun K hK => ?_)); conv => whnf) | (refine And.intro (by first | omega | assumption | rfl | exact zin_and | exact ⟨zin_and, by omega⟩ | exact ⟨by omega, zin_and⟩ | exact Nat.le_of_ble_eq_true rfl | exact ⟨Nat.le_of_ble_eq_true rfl, rfl⟩ | exact ⟨Nat.le_of_ble_eq_true rfl, by assumption⟩ | exact ⟨by omega, Nat.le_of_ble_eq_true rfl⟩ | exact ⟨⟨by assumption, by omega⟩, Nat.le_of_ble_eq_true rfl⟩ | decide) ?_; conv => whnf) | (refine And.intro (fun h => ?_) (fun h => ?_) <;> conv => whnf) | (intro h; conv => whnf))
      exact hQ
  · rw [if_neg h1] at hQ
    (refine And.intro (fun h => ?_) (fun h => by omega); conv => whnf)
    (refine hK _ _ _ _ (zW.go (zC_om _) (fun K hK => ?_)); conv => whnf)
    (refine And.intro (by first | omega | assumption | rfl | exact zin_and | exact ⟨zin_and, by omega⟩ | exact ⟨by omega, zin_and⟩ | exact Nat.le_of_ble_eq_true rfl | exact ⟨Nat.le_of_ble_eq_true rfl, rfl⟩ | exact ⟨Nat.le_of_ble_eq_true rfl, by assumption⟩ | exact ⟨by omega, Nat.le_of_ble_eq_true rfl⟩ | exact ⟨⟨by assumption, by omega⟩, Nat.le_of_ble_eq_true rfl⟩ | decide) ?_; conv => whnf)
    by_cases h2 : order = 0
    · rw [if_pos h2] at hQ
      (refine And.intro (fun h => by omega) (fun h => ?_); conv => whnf)
      (repeat' first | (refine hK _ _ _ _ (zW.go (zC_om _) (fun K hK => ?_)); conv => whnf) | (refine And.intro (by first | omega | assumption | rfl | exact zin_and | exact ⟨zin_and, by omega⟩ | exact ⟨by omega, zin_and⟩ | exact Nat.le_of_ble_eq_true rfl | exact ⟨Nat.le_of_ble_eq_true rfl, rfl⟩ | exact ⟨Nat.le_of_ble_eq_true rfl, by assumption⟩ | exact ⟨by omega, Nat.le_of_ble_eq_true rfl⟩ | exact ⟨⟨by assumption, by omega⟩, Nat.le_of_ble_eq_true rfl⟩ | decide) ?_; conv => whnf) | (refine And.intro (fun h => ?_) (fun h => ?_) <;> conv => whnf) | (intro h; conv => whnf))
      exact hQ
    · rw [if_neg h2] at hQ
      (refine And.intro (fun h => ?_) (fun h => by omega); conv => whnf)
      (repeat' first | (refine hK _ _ _ _ (zW.go (zC_om _) (fun K hK => ?_)); conv => whnf) | (refine And.intro (by first | omega | assumption | rfl | exact zin_and | exact ⟨zin_and, by omega⟩ | exact ⟨by omega, zin_and⟩ | exact Nat.le_of_ble_eq_true rfl | exact ⟨Nat.le_of_ble_eq_true rfl, rfl⟩ | exact ⟨Nat.le_of_ble_eq_true rfl, by assumption⟩ | exact ⟨by omega, Nat.le_of_ble_eq_true rfl⟩ | exact ⟨⟨by assumption, by omega⟩, Nat.le_of_ble_eq_true rfl⟩ | decide) ?_; conv => whnf) | (refine And.intro (fun h => ?_) (fun h => ?_) <;> conv => whnf) | (intro h; conv => whnf))
      exact hQ
theorem c_nextOpen (hk : zKN q) (hr : RelN g q s m) (hm : m ≤ 400) {order : Int} (ho : zin order) (hQ : Q (some (zI (mtk s order m))) g) : zC (d + 4) 37 [zR q, zI order] g Q := by
  obtain ⟨hk0, hk1⟩ := id hk
  have h1 := hr.1
  refine zC.go zm_X2_nextOpen ⟨rfl, rfl⟩ rfl ?_
  (refine zW.upto (zC_om _) 4 (fun K hK => ?_); conv => whnf)
  refine hK _ _ _ _ (zdown (P := fun k => zW zX2_nextOpen (zC (d + 3)) Q 4 [zR q, zI order, zI (mtk s order k), zI k] [] g) m ?_ ?_)
  · (refine zW.go (zC_om _) (fun K hK => ?_); conv => whnf)
    (refine And.intro (by first | omega | assumption | rfl | exact zin_and | exact ⟨zin_and, by omega⟩ | exact ⟨by omega, zin_and⟩ | exact Nat.le_of_ble_eq_true rfl | exact ⟨Nat.le_of_ble_eq_true rfl, rfl⟩ | exact ⟨Nat.le_of_ble_eq_true rfl, by assumption⟩ | exact ⟨by omega, Nat.le_of_ble_eq_true rfl⟩ | exact ⟨⟨by assumption, by omega⟩, Nat.le_of_ble_eq_true rfl⟩ | decide) ?_; conv => whnf)
    (refine And.intro (by first | omega | assumption | rfl | exact zin_and | exact ⟨zin_and, by omega⟩ | exact ⟨by omega, zin_and⟩ | exact Nat.le_of_ble_eq_true rfl | exact ⟨Nat.le_of_ble_eq_true rfl, rfl⟩ | exact ⟨Nat.le_of_ble_eq_true rfl, by assumption⟩ | exact ⟨by omega, Nat.le_of_ble_eq_true rfl⟩ | exact ⟨⟨by assumption, by omega⟩, Nat.le_of_ble_eq_true rfl⟩ | decide) ?_; conv => whnf)
    (refine And.intro (fun h => ?_) (fun h => by omega); conv => whnf)
    (repeat' first | (refine hK _ _ _ _ (zW.go (zC_om _) (fun K hK => ?_)); conv => whnf) | (refine And.intro (by first | omega | assumption | rfl | exact zin_and | exact ⟨zin_and, by omega⟩ | exact ⟨by omega, zin_and⟩ | exact Nat.le_of_ble_eq_true rfl | exact ⟨Nat.le_of_ble_eq_true rfl, rfl⟩ | exact ⟨Nat.le_of_ble_eq_true rfl, by assumption⟩ | exact ⟨by omega, Nat.le_of_ble_eq_true rfl⟩ | exact ⟨⟨by assumption, by omega⟩, Nat.le_of_ble_eq_true rfl⟩ | decide) ?_; conv => whnf) | (refine And.intro (fun h => ?_) (fun h => ?_) <;> conv => whnf) | (intro h; conv => whnf))
    exact hQ
  · intro k hkm hi
    obtain ⟨u, -, -, hu, -⟩ := hr.2 k hkm
    have hi : zW zX2_nextOpen (zC (d + 3)) Q 4 [zR q, zI order, zI (mtk s order (k + 1)), zI (k + 1 : Nat)] [] g := hi
    rw [mtk] at hi
    have hrg := mtk_rng s order k
    generalize mtk s order k = f at *
    (refine zW.go (zC_om _) (fun K hK => ?_); conv => whnf)
    (refine And.intro (by first | omega | assumption | rfl | exact zin_and | exact ⟨zin_and, by omega⟩ | exact ⟨by omega, zin_and⟩ | exact Nat.le_of_ble_eq_true rfl | exact ⟨Nat.le_of_ble_eq_true rfl, rfl⟩ | exact ⟨Nat.le_of_ble_eq_true rfl, by assumption⟩ | exact ⟨by omega, Nat.le_of_ble_eq_true rfl⟩ | exact ⟨⟨by assumption, by omega⟩, Nat.le_of_ble_eq_true rfl⟩ | decide) ?_; conv => whnf)
    (refine And.intro (by first | omega | assumption | rfl | exact zin_and | exact ⟨zin_and, by omega⟩ | exact ⟨by omega, zin_and⟩ | exact Nat.le_of_ble_eq_true rfl | exact ⟨Nat.le_of_ble_eq_true rfl, rfl⟩ | exact ⟨Nat.le_of_ble_eq_true rfl, by assumption⟩ | exact ⟨by omega, Nat.le_of_ble_eq_true rfl⟩ | exact ⟨⟨by assumption, by omega⟩, Nat.le_of_ble_eq_true rfl⟩ | decide) ?_; conv => whnf)
    (refine And.intro (fun h => by omega) (fun h => ?_); conv => whnf)
    (refine And.intro (by first | omega | assumption | rfl | exact zin_and | exact ⟨zin_and, by omega⟩ | exact ⟨by omega, zin_and⟩ | exact Nat.le_of_ble_eq_true rfl | exact ⟨Nat.le_of_ble_eq_true rfl, rfl⟩ | exact ⟨Nat.le_of_ble_eq_true rfl, by assumption⟩ | exact ⟨by omega, Nat.le_of_ble_eq_true rfl⟩ | exact ⟨⟨by assumption, by omega⟩, Nat.le_of_ble_eq_true rfl⟩ | decide) ?_; conv => whnf)
    (refine c_how hk hr hm hkm ?_; conv => whnf)
    (refine And.intro (by first | omega | assumption | rfl | exact zin_and | exact ⟨zin_and, by omega⟩ | exact ⟨by omega, zin_and⟩ | exact Nat.le_of_ble_eq_true rfl | exact ⟨Nat.le_of_ble_eq_true rfl, rfl⟩ | exact ⟨Nat.le_of_ble_eq_true rfl, by assumption⟩ | exact ⟨by omega, Nat.le_of_ble_eq_true rfl⟩ | exact ⟨⟨by assumption, by omega⟩, Nat.le_of_ble_eq_true rfl⟩ | decide) ?_; conv => whnf)
    by_cases h4 : nd s k 4 = 0
    · (refine And.intro (fun h => by omega) (fun h => ?_); conv => whnf)
      (refine And.intro (by first | omega | assumption | rfl | exact zin_and | exact ⟨zin_and, by omega⟩ | exact ⟨by omega, zin_and⟩ | exact Nat.le_of_ble_eq_true rfl | exact ⟨Nat.le_of_ble_eq_true rfl, rfl⟩ | exact ⟨Nat.le_of_ble_eq_true rfl, by assumption⟩ | exact ⟨by omega, Nat.le_of_ble_eq_true rfl⟩ | exact ⟨⟨by assumption, by omega⟩, Nat.le_of_ble_eq_true rfl⟩ | decide) ?_; conv => whnf)
      by_cases hf : f = -5
      · rw [if_pos ⟨h4, Or.inl hf⟩] at hi
        (refine And.intro (fun h => ?_) (fun h => by omega); conv => whnf)
        (refine hK _ _ _ _ (zW.go (zC_om _) (fun K hK => ?_)); conv => whnf)
        exact hK _ _ _ _ hi
      · obtain ⟨b, rfl⟩ : ∃ b : Nat, f = (b : Int) := ⟨f.toNat, by omega⟩
        (refine And.intro (fun h => by omega) (fun h => ?_); conv => whnf)
        (refine And.intro (by first | omega | assumption | rfl | exact zin_and | exact ⟨zin_and, by omega⟩ | exact ⟨by omega, zin_and⟩ | exact Nat.le_of_ble_eq_true rfl | exact ⟨Nat.le_of_ble_eq_true rfl, rfl⟩ | exact ⟨Nat.le_of_ble_eq_true rfl, by assumption⟩ | exact ⟨by omega, Nat.le_of_ble_eq_true rfl⟩ | exact ⟨⟨by assumption, by omega⟩, Nat.le_of_ble_eq_true rfl⟩ | decide) ?_; conv => whnf)
        (refine c_goesBefore hk hr hm hkm (by omega) ho ?_; conv => whnf)
        by_cases h1 : order = 1
        · rw [if_pos h1]
          by_cases h2 : nd s b 3 < nd s k 3
          · rw [if_pos ⟨h4, Or.inr (Or.inr ⟨h1, h2⟩)⟩] at hi
            rw [if_pos h2]
            (refine And.intro (by first | omega | assumption | rfl | exact zin_and | exact ⟨zin_and, by omega⟩ | exact ⟨by omega, zin_and⟩ | exact Nat.le_of_ble_eq_true rfl | exact ⟨Nat.le_of_ble_eq_true rfl, rfl⟩ | exact ⟨Nat.le_of_ble_eq_true rfl, by assumption⟩ | exact ⟨by omega, Nat.le_of_ble_eq_true rfl⟩ | exact ⟨⟨by assumption, by omega⟩, Nat.le_of_ble_eq_true rfl⟩ | decide) ?_; conv => whnf)
            (refine And.intro (fun h => by omega) (fun h => ?_); conv => whnf)
            exact hK _ _ _ _ hi
          · rw [if_neg (by omega)] at hi
            rw [if_neg h2]
            (refine And.intro (by first | omega | assumption | rfl | exact zin_and | exact ⟨zin_and, by omega⟩ | exact ⟨by omega, zin_and⟩ | exact Nat.le_of_ble_eq_true rfl | exact ⟨Nat.le_of_ble_eq_true rfl, rfl⟩ | exact ⟨Nat.le_of_ble_eq_true rfl, by assumption⟩ | exact ⟨by omega, Nat.le_of_ble_eq_true rfl⟩ | exact ⟨⟨by assumption, by omega⟩, Nat.le_of_ble_eq_true rfl⟩ | decide) ?_; conv => whnf)
            (refine And.intro (fun h => ?_) (fun h => by omega); conv => whnf)
            (refine hK _ _ _ _ (zW.go (zC_om _) (fun K hK => ?_)); conv => whnf)
            exact hK _ _ _ _ hi
        · rw [if_neg h1]
          by_cases h0 : order = 0
          · rw [if_pos ⟨h4, Or.inr (Or.inl h0)⟩] at hi
            rw [if_pos h0]
            (refine And.intro (by first | omega | assumption | rfl | exact zin_and | exact ⟨zin_and, by omega⟩ | exact ⟨by omega, zin_and⟩ | exact Nat.le_of_ble_eq_true rfl | exact ⟨Nat.le_of_ble_eq_true rfl, rfl⟩ | exact ⟨Nat.le_of_ble_eq_true rfl, by assumption⟩ | exact ⟨by omega, Nat.le_of_ble_eq_true rfl⟩ | exact ⟨⟨by assumption, by omega⟩, Nat.le_of_ble_eq_true rfl⟩ | decide) ?_; conv => whnf)
            (refine And.intro (fun h => by omega) (fun h => ?_); conv => whnf)
            exact hK _ _ _ _ hi
          · rw [if_neg (by omega)] at hi
            rw [if_neg h0]
            (refine And.intro (by first | omega | assumption | rfl | exact zin_and | exact ⟨zin_and, by omega⟩ | exact ⟨by omega, zin_and⟩ | exact Nat.le_of_ble_eq_true rfl | exact ⟨Nat.le_of_ble_eq_true rfl, rfl⟩ | exact ⟨Nat.le_of_ble_eq_true rfl, by assumption⟩ | exact ⟨by omega, Nat.le_of_ble_eq_true rfl⟩ | exact ⟨⟨by assumption, by omega⟩, Nat.le_of_ble_eq_true rfl⟩ | decide) ?_; conv => whnf)
            (refine And.intro (fun h => ?_) (fun h => by omega); conv => whnf)
            (refine hK _ _ _ _ (zW.go (zC_om _) (fun K hK => ?_)); conv => whnf)
            exact hK _ _ _ _ hi
    · rw [if_neg (fun w => h4 w.1)] at hi
      (refine And.intro (fun h => ?_) (fun h => by omega); conv => whnf)
      (refine hK _ _ _ _ (zW.go (zC_om _) (fun K hK => ?_)); conv => whnf)
      exact hK _ _ _ _ hi
end CN
end
section
/-! nodes are made and settled -/
theorem RelN.up {g : zM} {q m k : Nat} {s : zS} {x w : Int} (hr : RelN g q s m) (hkm : k < m) (hx : pkd x w (nd s k 3) (nd s k 5) (nd s k 6) (if k = 0 then 0 else nd s k 0) (if k = 0 then 0 else nd s k 1)) : RelN (zup g (q + 1) k x) q (ru s (45 + 7 * k + 4) w) m := by
  refine ⟨?_, fun j hj => ?_⟩
  · rw [zup_ne (by omega)]
    exact hr.1
  · have e : ∀ f : Int, 0 ≤ f → f < 7 → (j ≠ k ∨ f ≠ 4) → nd (ru s (45 + 7 * k + 4) w) j f = nd s j f := fun f h1 h2 h3 => ru_n (by omega)
    rw [e 3 (by omega) (by omega) (by omega), e 5 (by omega) (by omega) (by omega), e 6 (by omega) (by omega) (by omega), e 0 (by omega) (by omega) (by omega), e 1 (by omega) (by omega) (by omega)]
    by_cases hjk : j = k
    · subst hjk
      have e4 : nd (ru s (45 + 7 * j + 4) w) j 4 = w := ru_s
      rw [e4, zup_s]
      exact hx
    · rw [e 4 (by omega) (by omega) (by omega), zup_i (by omega)]
      exact hr.2 j hj
theorem RelN.frame {g g' : zM} {q m : Nat} {s s' : zS} (hr : RelN g q s m) (h1 : g' q = g q) (h2 : g' (q + 1) = g (q + 1)) (h3 : ∀ j : Int, 45 ≤ j → j < 45 + 7 * m → s' j = s j) : RelN g' q s' m := by
  refine ⟨by rw [h1]; exact hr.1, fun k hk => ?_⟩
  have e : ∀ f : Int, 0 ≤ f → f < 7 → nd s' k f = nd s k f := fun f h1 h2 => h3 _ (by omega) (by omega)
  rw [h2, e 3 (by omega) (by omega), e 4 (by omega) (by omega), e 5 (by omega) (by omega), e 6 (by omega) (by omega), e 0 (by omega) (by omega), e 1 (by omega) (by omega)]
  exact hr.2 k hk
def mgu (s : zS) : Nat → zS
  | 0 => s
  | k + 1 => if nd (mgu s k) k 4 = 0 then ru (mgu s k) (45 + 7 * k + 4) 5 else mgu s k
section CN2
variable {g : zM} {q m : Nat} {s : zS} {d : Nat} {Q : zP}
theorem c_append (hk : zKN q) (h1 : g q (1 : Nat) = (m : Int)) (hm : m < 400) {p f i o b h : Nat} (hp : p < 4096) (hf : f < 16) (hi : i < 4096) (ho : o < 4096) (hb : b < 4096) (hh : h < 4096)
    (hQ : ∀ x, pkd x h b i o p f → Q none (zup (zup g (q + 1) m x) q (1 : Nat) (m + 1))) : zC (d + 1) 26 [zR q, zI p, zI f, zI i, zI o, zI b, zI h] g Q := by
  obtain ⟨hk0, hk1⟩ := id hk
  have hk11 : (zkd (q + 1)).1 = 3 := by rw [hk1]
  have hk12 : (zkd (q + 1)).2 = 400 := by rw [hk1]
  have hQ := hQ _ (pkd_make hh hb hi ho hp hf)
  refine zC.go zm_X2_append ⟨rfl, rfl⟩ rfl ?_
  (refine zW.go (zC_om _) (fun K hK => ?_); conv => whnf)
  (repeat' first | (refine hK _ _ _ _ (zW.go (zC_om _) (fun K hK => ?_)); conv => whnf) | (refine And.intro (by first | omega | assumption | rfl | exact zin_and | exact ⟨zin_and, by omega⟩ | exact ⟨by omega, zin_and⟩ | exact Nat.le_of_ble_eq_true rfl | exact ⟨Nat.le_of_ble_eq_true rfl, rfl⟩ | exact ⟨Nat.le_of_ble_eq_true rfl, by assumption⟩ | exact ⟨by omega, Nat.le_of_ble_eq_true rfl⟩ | exact ⟨⟨by assumption, by omega⟩, Nat.le_of_ble_eq_true rfl⟩ | decide) ?_; conv => whnf) | (refine And.intro (fun h => ?_) (fun h => ?_) <;> conv => whnf) | (intro h; conv => whnf))
  rw [zup_ne (show q ≠ q + 1 by omega), h1]
  (refine And.intro ⟨by assumption, fun w => absurd w (by decide)⟩ ?_; conv => whnf)
  exact ⟨trivial, hQ⟩
theorem c_settle (hk : zKN q) {k w : Nat} (hk4 : k < 400) {h b i o p f : Int} (hx : pkd (g (q + 1) k) h b i o p f) (hw : w < 4096) (hQ : ∀ x, pkd x w b i o p f → Q none (zup g (q + 1) k x)) : zC (d + 1) 34 [zR q, zI k, zI w] g Q := by
  obtain ⟨hk0, hk1⟩ := id hk
  have hk11 : (zkd (q + 1)).1 = 3 := by rw [hk1]
  have hk12 : (zkd (q + 1)).2 = 400 := by rw [hk1]
  have hQ := hQ _ (pkd_settle hx hw)
  refine zC.go zm_X2_settle ⟨rfl, rfl⟩ rfl ?_
  (refine zW.go (zC_om _) (fun K hK => ?_); conv => whnf)
  (repeat' first | (refine hK _ _ _ _ (zW.go (zC_om _) (fun K hK => ?_)); conv => whnf) | (refine And.intro (by first | omega | assumption | rfl | exact zin_and | exact ⟨zin_and, by omega⟩ | exact ⟨by omega, zin_and⟩ | exact Nat.le_of_ble_eq_true rfl | exact ⟨Nat.le_of_ble_eq_true rfl, rfl⟩ | exact ⟨Nat.le_of_ble_eq_true rfl, by assumption⟩ | exact ⟨by omega, Nat.le_of_ble_eq_true rfl⟩ | exact ⟨⟨by assumption, by omega⟩, Nat.le_of_ble_eq_true rfl⟩ | decide) ?_; conv => whnf) | (refine And.intro (fun h => ?_) (fun h => ?_) <;> conv => whnf) | (intro h; conv => whnf))
  all_goals first | exact hQ | omega
theorem RelN.here {k : Nat} (hr : RelN g q s m) (hkm : k < m) : zin (nd s k 4) ∧ zin (nd s k 3) := by
  obtain ⟨u, -, -, h1, h2, -⟩ := hr.2 k hkm
  omega
theorem mgu_old {s : zS} {m : Nat} : ∀ {j : Int}, (∀ k : Nat, k < m → j ≠ 45 + 7 * k + 4) → mgu s m j = s j := by
  induction m with
  | zero => intro j _; rfl
  | succ m ih =>
    intro j h
    have ih := ih (j := j) (fun k hk => h k (by omega))
    rw [mgu]
    split
    · rw [ru_n (h m (by omega)), ih]
    · exact ih
theorem c_giveUpOpen (hk : zKN q) (hr : RelN g q s m) (hm : m ≤ 400) (hQ : ∀ g' : zM, (∀ j, j ≠ q + 1 → g' j = g j) → RelN g' q (mgu s m) m → Q none g') : zC (d + 3) 35 [zR q] g Q := by
  obtain ⟨hk0, hk1⟩ := id hk
  refine zC.go zm_X2_giveUpOpen ⟨rfl, rfl⟩ rfl ?_
  (refine zW.upto (zC_om _) 2 (fun K hK => ?_); conv => whnf)
  have go : ∀ (r k : Nat) (g2 : zM), k + r = m → (∀ j, j ≠ q + 1 → g2 j = g j) → RelN g2 q (mgu s k) m → zW zX2_giveUpOpen (zC (d + 2)) Q 2 [zR q, zI k] [] g2 := by
    intro r
    induction r with
    | zero =>
      intro k g2 e hf hg
      obtain rfl : k = m := by omega
      have h1 := hg.1
      (refine zW.go (zC_om _) (fun K hK => ?_); conv => whnf)
      (refine And.intro (by first | omega | assumption | rfl | exact zin_and | exact ⟨zin_and, by omega⟩ | exact ⟨by omega, zin_and⟩ | exact Nat.le_of_ble_eq_true rfl | exact ⟨Nat.le_of_ble_eq_true rfl, rfl⟩ | exact ⟨Nat.le_of_ble_eq_true rfl, by assumption⟩ | exact ⟨by omega, Nat.le_of_ble_eq_true rfl⟩ | exact ⟨⟨by assumption, by omega⟩, Nat.le_of_ble_eq_true rfl⟩ | decide) ?_; conv => whnf)
      (refine And.intro (by first | omega | assumption | rfl | exact zin_and | exact ⟨zin_and, by omega⟩ | exact ⟨by omega, zin_and⟩ | exact Nat.le_of_ble_eq_true rfl | exact ⟨Nat.le_of_ble_eq_true rfl, rfl⟩ | exact ⟨Nat.le_of_ble_eq_true rfl, by assumption⟩ | exact ⟨by omega, Nat.le_of_ble_eq_true rfl⟩ | exact ⟨⟨by assumption, by omega⟩, Nat.le_of_ble_eq_true rfl⟩ | decide) ?_; conv => whnf)
      (refine And.intro (fun h => ?_) (fun h => by omega); conv => whnf)
      (repeat' first | (refine hK _ _ _ _ (zW.go (zC_om _) (fun K hK => ?_)); conv => whnf) | (refine And.intro (by first | omega | assumption | rfl | exact zin_and | exact ⟨zin_and, by omega⟩ | exact ⟨by omega, zin_and⟩ | exact Nat.le_of_ble_eq_true rfl | exact ⟨Nat.le_of_ble_eq_true rfl, rfl⟩ | exact ⟨Nat.le_of_ble_eq_true rfl, by assumption⟩ | exact ⟨by omega, Nat.le_of_ble_eq_true rfl⟩ | exact ⟨⟨by assumption, by omega⟩, Nat.le_of_ble_eq_true rfl⟩ | decide) ?_; conv => whnf) | (refine And.intro (fun h => ?_) (fun h => ?_) <;> conv => whnf) | (intro h; conv => whnf))
      exact hQ _ hf hg
    | succ r ih =>
      intro k g2 e hf hg
      have h1 := hg.1
      have hkm : k < m := by omega
      have h2 := hg.here hkm
      have ih := ih (k + 1)
      rw [mgu] at ih
      (refine zW.go (zC_om _) (fun K hK => ?_); conv => whnf)
      (refine And.intro (by first | omega | assumption | rfl | exact zin_and | exact ⟨zin_and, by omega⟩ | exact ⟨by omega, zin_and⟩ | exact Nat.le_of_ble_eq_true rfl | exact ⟨Nat.le_of_ble_eq_true rfl, rfl⟩ | exact ⟨Nat.le_of_ble_eq_true rfl, by assumption⟩ | exact ⟨by omega, Nat.le_of_ble_eq_true rfl⟩ | exact ⟨⟨by assumption, by omega⟩, Nat.le_of_ble_eq_true rfl⟩ | decide) ?_; conv => whnf)
      (refine And.intro (by first | omega | assumption | rfl | exact zin_and | exact ⟨zin_and, by omega⟩ | exact ⟨by omega, zin_and⟩ | exact Nat.le_of_ble_eq_true rfl | exact ⟨Nat.le_of_ble_eq_true rfl, rfl⟩ | exact ⟨Nat.le_of_ble_eq_true rfl, by assumption⟩ | exact ⟨by omega, Nat.le_of_ble_eq_true rfl⟩ | exact ⟨⟨by assumption, by omega⟩, Nat.le_of_ble_eq_true rfl⟩ | decide) ?_; conv => whnf)
      (refine And.intro (fun h => by omega) (fun h => ?_); conv => whnf)
      (refine And.intro (by first | omega | assumption | rfl | exact zin_and | exact ⟨zin_and, by omega⟩ | exact ⟨by omega, zin_and⟩ | exact Nat.le_of_ble_eq_true rfl | exact ⟨Nat.le_of_ble_eq_true rfl, rfl⟩ | exact ⟨Nat.le_of_ble_eq_true rfl, by assumption⟩ | exact ⟨by omega, Nat.le_of_ble_eq_true rfl⟩ | exact ⟨⟨by assumption, by omega⟩, Nat.le_of_ble_eq_true rfl⟩ | decide) ?_; conv => whnf)
      (refine c_how hk hg hm hkm ?_; conv => whnf)
      (refine And.intro (by first | omega | assumption | rfl | exact zin_and | exact ⟨zin_and, by omega⟩ | exact ⟨by omega, zin_and⟩ | exact Nat.le_of_ble_eq_true rfl | exact ⟨Nat.le_of_ble_eq_true rfl, rfl⟩ | exact ⟨Nat.le_of_ble_eq_true rfl, by assumption⟩ | exact ⟨by omega, Nat.le_of_ble_eq_true rfl⟩ | exact ⟨⟨by assumption, by omega⟩, Nat.le_of_ble_eq_true rfl⟩ | decide) ?_; conv => whnf)
      by_cases h4 : nd (mgu s k) k 4 = 0
      · rw [if_pos h4] at ih
        (refine And.intro (fun h => by omega) (fun h => ?_); conv => whnf)
        (refine And.intro (by first | omega | assumption | rfl | exact zin_and | exact ⟨zin_and, by omega⟩ | exact ⟨by omega, zin_and⟩ | exact Nat.le_of_ble_eq_true rfl | exact ⟨Nat.le_of_ble_eq_true rfl, rfl⟩ | exact ⟨Nat.le_of_ble_eq_true rfl, by assumption⟩ | exact ⟨by omega, Nat.le_of_ble_eq_true rfl⟩ | exact ⟨⟨by assumption, by omega⟩, Nat.le_of_ble_eq_true rfl⟩ | decide) ?_; conv => whnf)
        obtain ⟨u, w1⟩ := hg.2 k hkm
        (refine c_settle (w := 5) hk (k := k) (by omega) ⟨u, w1⟩ (by omega) (fun x hx => ?_); conv => whnf)
        refine hK _ _ _ _ (ih _ (by omega) (fun j hj => ?_) (hg.up hkm hx))
        rw [zup_ne hj, hf j hj]
      · rw [if_neg h4] at ih
        (refine And.intro (fun h => ?_) (fun h => by omega); conv => whnf)
        (refine hK _ _ _ _ (zW.go (zC_om _) (fun K hK => ?_)); conv => whnf)
        exact hK _ _ _ _ (ih _ (by omega) hf hg)
  exact hK _ _ _ _ (go m 0 g (by omega) (fun j hj => rfl) hr)
end CN2
end
section
/-! the class's state against a row -/
def zKC (b : Nat) : Prop := zkd b = (0, 3) ∧ zKB (b + 1) ∧ zKN (b + 6)
def RelC (g : zM) (b : Nat) (s : zS) (n m : Nat) : Prop := RelB g (b + 1) s n ∧ RelN g (b + 6) s m ∧ g b (2 : Nat) = s 2 ∧ g b (3 : Nat) = s 3 ∧ g b (4 : Nat) = s 6 ∧ g b (5 : Nat) = s 7 ∧ g b (6 : Nat) = s 8
theorem RelB.frame {g g' : zM} {k n : Nat} {s s' : zS} (hr : RelB g k s n) (hg : ∀ j, k ≤ j → j < k + 5 → g' j = g j) (ha : magr s s') (hn : n ≤ 12) : RelB g' k s' n := by
  obtain ⟨h1, h2, h3⟩ := hr
  refine ⟨by rw [hg k (by omega) (by omega)]; exact h1, by rw [hg k (by omega) (by omega), h2]; exact ha.2.1, fun t ht => ?_⟩
  rw [hg (k + 1) (by omega) (by omega), hg (k + 2) (by omega) (by omega), hg (k + 3) (by omega) (by omega), hg (k + 4) (by omega) (by omega), ← ag_or ha hn, ← ha.2.2 (9 + t) (by omega) (by omega), ← ha.2.2 (21 + t) (by omega) (by omega), ← ha.2.2 (33 + t) (by omega) (by omega)]
  exact h3 t ht
/-- other cells, and slots of the row that a state does not hold -/
theorem RelC.frame {g g' : zM} {b n m : Nat} {s : zS} (hr : RelC g b s n m) (hg : ∀ j, b ≤ j → j < b + 8 → g' j = g j) (hn : n ≤ 12) : RelC g' b s n m := by
  obtain ⟨h1, h2, h3⟩ := hr
  refine ⟨h1.frame (fun j a c => hg j (by omega) (by omega)) magr.rfl hn, h2.frame (hg _ (by omega) (by omega)) (hg _ (by omega) (by omega)) (fun _ _ _ => rfl), ?_⟩
  rw [hg b (by omega) (by omega)]
  exact h3
section CS
variable {g : zM} {b n m : Nat} {s : zS} {d : Nat} {Q : zP}
theorem c_goesOn (hk : zKC b) (hr : RelC g b s n m) (hm : m ≤ 400) (hQ : Q (some (zI (if mtk s 0 m = -5 then 0 else 1))) g) : zC (d + 5) 40 [zR b] g Q := by
  obtain ⟨hk0, hkb, hkn⟩ := id hk
  obtain ⟨hkb0, -⟩ := id hkb
  obtain ⟨hkn0, hkn1⟩ := id hkn
  have := mtk_rng s 0 m
  refine zC.go zm_X3_goesOn ⟨rfl, rfl⟩ rfl ?_
  (refine zW.go (zC_om _) (fun K hK => ?_); conv => whnf)
  (refine And.intro (by first | omega | assumption | rfl | exact zin_and | exact ⟨zin_and, by omega⟩ | exact ⟨by omega, zin_and⟩ | exact Nat.le_of_ble_eq_true rfl | exact ⟨Nat.le_of_ble_eq_true rfl, rfl⟩ | exact ⟨Nat.le_of_ble_eq_true rfl, by assumption⟩ | exact ⟨by omega, Nat.le_of_ble_eq_true rfl⟩ | exact ⟨⟨by assumption, by omega⟩, Nat.le_of_ble_eq_true rfl⟩ | decide) ?_; conv => whnf)
  (refine And.intro (by first | omega | assumption | rfl | exact zin_and | exact ⟨zin_and, by omega⟩ | exact ⟨by omega, zin_and⟩ | exact Nat.le_of_ble_eq_true rfl | exact ⟨Nat.le_of_ble_eq_true rfl, rfl⟩ | exact ⟨Nat.le_of_ble_eq_true rfl, by assumption⟩ | exact ⟨by omega, Nat.le_of_ble_eq_true rfl⟩ | exact ⟨⟨by assumption, by omega⟩, Nat.le_of_ble_eq_true rfl⟩ | decide) ?_; conv => whnf)
  (refine c_nextOpen hkn hr.2.1 hm (order := 0) (by omega) ?_; conv => whnf)
  (refine And.intro (by first | omega | assumption | rfl | exact zin_and | exact ⟨zin_and, by omega⟩ | exact ⟨by omega, zin_and⟩ | exact Nat.le_of_ble_eq_true rfl | exact ⟨Nat.le_of_ble_eq_true rfl, rfl⟩ | exact ⟨Nat.le_of_ble_eq_true rfl, by assumption⟩ | exact ⟨by omega, Nat.le_of_ble_eq_true rfl⟩ | exact ⟨⟨by assumption, by omega⟩, Nat.le_of_ble_eq_true rfl⟩ | decide) ?_; conv => whnf)
  by_cases h : mtk s 0 m = -5
  · rw [if_pos h] at hQ
    (refine And.intro (fun h => ?_) (fun h => by omega); conv => whnf)
    (repeat' first | (refine hK _ _ _ _ (zW.go (zC_om _) (fun K hK => ?_)); conv => whnf) | (refine And.intro (by first | omega | assumption | rfl | exact zin_and | exact ⟨zin_and, by omega⟩ | exact ⟨by omega, zin_and⟩ | exact Nat.le_of_ble_eq_true rfl | exact ⟨Nat.le_of_ble_eq_true rfl, rfl⟩ | exact ⟨Nat.le_of_ble_eq_true rfl, by assumption⟩ | exact ⟨by omega, Nat.le_of_ble_eq_true rfl⟩ | exact ⟨⟨by assumption, by omega⟩, Nat.le_of_ble_eq_true rfl⟩ | decide) ?_; conv => whnf) | (refine And.intro (fun h => ?_) (fun h => ?_) <;> conv => whnf) | (intro h; conv => whnf))
    exact hQ
  · rw [if_neg h] at hQ
    (refine And.intro (fun h => by omega) (fun h => ?_); conv => whnf)
    (repeat' first | (refine hK _ _ _ _ (zW.go (zC_om _) (fun K hK => ?_)); conv => whnf) | (refine And.intro (by first | omega | assumption | rfl | exact zin_and | exact ⟨zin_and, by omega⟩ | exact ⟨by omega, zin_and⟩ | exact Nat.le_of_ble_eq_true rfl | exact ⟨Nat.le_of_ble_eq_true rfl, rfl⟩ | exact ⟨Nat.le_of_ble_eq_true rfl, by assumption⟩ | exact ⟨by omega, Nat.le_of_ble_eq_true rfl⟩ | exact ⟨⟨by assumption, by omega⟩, Nat.le_of_ble_eq_true rfl⟩ | decide) ?_; conv => whnf) | (refine And.intro (fun h => ?_) (fun h => ?_) <;> conv => whnf) | (intro h; conv => whnf))
    exact hQ
theorem c_gap (hk : zKC b) (hr : RelC g b s n m) (hm : m ≤ 400) (h7 : 0 ≤ s 7 ∧ s 7 ≤ 1188) (hQ : Q (some (zI (if mtk s 1 m = -5 then 0 else max 0 (nd s (mtk s 1 m) 3 - s 7)))) g) : zC (d + 5) 43 [zR b] g Q := by
  obtain ⟨hk0, hkb, hkn⟩ := id hk
  obtain ⟨hkb0, -⟩ := id hkb
  obtain ⟨hkn0, hkn1⟩ := id hkn
  have hrg := mtk_rng s 1 m
  obtain ⟨-, -, -, -, -, hs5, -⟩ := id hr
  refine zC.go zm_X3_gap ⟨rfl, rfl⟩ rfl ?_
  (refine zW.go (zC_om _) (fun K hK => ?_); conv => whnf)
  (refine And.intro (by first | omega | assumption | rfl | exact zin_and | exact ⟨zin_and, by omega⟩ | exact ⟨by omega, zin_and⟩ | exact Nat.le_of_ble_eq_true rfl | exact ⟨Nat.le_of_ble_eq_true rfl, rfl⟩ | exact ⟨Nat.le_of_ble_eq_true rfl, by assumption⟩ | exact ⟨by omega, Nat.le_of_ble_eq_true rfl⟩ | exact ⟨⟨by assumption, by omega⟩, Nat.le_of_ble_eq_true rfl⟩ | decide) ?_; conv => whnf)
  (refine And.intro (by first | omega | assumption | rfl | exact zin_and | exact ⟨zin_and, by omega⟩ | exact ⟨by omega, zin_and⟩ | exact Nat.le_of_ble_eq_true rfl | exact ⟨Nat.le_of_ble_eq_true rfl, rfl⟩ | exact ⟨Nat.le_of_ble_eq_true rfl, by assumption⟩ | exact ⟨by omega, Nat.le_of_ble_eq_true rfl⟩ | exact ⟨⟨by assumption, by omega⟩, Nat.le_of_ble_eq_true rfl⟩ | decide) ?_; conv => whnf)
  (refine c_nextOpen hkn hr.2.1 hm (order := 1) (by omega) ?_; conv => whnf)
  (refine And.intro (by first | omega | assumption | rfl | exact zin_and | exact ⟨zin_and, by omega⟩ | exact ⟨by omega, zin_and⟩ | exact Nat.le_of_ble_eq_true rfl | exact ⟨Nat.le_of_ble_eq_true rfl, rfl⟩ | exact ⟨Nat.le_of_ble_eq_true rfl, by assumption⟩ | exact ⟨by omega, Nat.le_of_ble_eq_true rfl⟩ | exact ⟨⟨by assumption, by omega⟩, Nat.le_of_ble_eq_true rfl⟩ | decide) ?_; conv => whnf)
  generalize mtk s 1 m = f at *
  by_cases h : f = -5
  · rw [if_pos h] at hQ
    (refine And.intro (fun h => by omega) (fun h => ?_); conv => whnf)
    (repeat' first | (refine hK _ _ _ _ (zW.go (zC_om _) (fun K hK => ?_)); conv => whnf) | (refine And.intro (by first | omega | assumption | rfl | exact zin_and | exact ⟨zin_and, by omega⟩ | exact ⟨by omega, zin_and⟩ | exact Nat.le_of_ble_eq_true rfl | exact ⟨Nat.le_of_ble_eq_true rfl, rfl⟩ | exact ⟨Nat.le_of_ble_eq_true rfl, by assumption⟩ | exact ⟨by omega, Nat.le_of_ble_eq_true rfl⟩ | exact ⟨⟨by assumption, by omega⟩, Nat.le_of_ble_eq_true rfl⟩ | decide) ?_; conv => whnf) | (refine And.intro (fun h => ?_) (fun h => ?_) <;> conv => whnf) | (intro h; conv => whnf))
    exact hQ
  · rw [if_neg h] at hQ
    obtain ⟨k, rfl⟩ : ∃ k : Nat, f = (k : Int) := ⟨f.toNat, by omega⟩
    have h2 := hr.2.1.here (k := k) (by omega)
    obtain ⟨u, -, -, -, hbd, -⟩ := hr.2.1.2 k (by omega)
    (refine And.intro (fun h => ?_) (fun h => by omega); conv => whnf)
    (refine hK _ _ _ _ (zW.go (zC_om _) (fun K hK => ?_)); conv => whnf)
    (refine And.intro (by first | omega | assumption | rfl | exact zin_and | exact ⟨zin_and, by omega⟩ | exact ⟨by omega, zin_and⟩ | exact Nat.le_of_ble_eq_true rfl | exact ⟨Nat.le_of_ble_eq_true rfl, rfl⟩ | exact ⟨Nat.le_of_ble_eq_true rfl, by assumption⟩ | exact ⟨by omega, Nat.le_of_ble_eq_true rfl⟩ | exact ⟨⟨by assumption, by omega⟩, Nat.le_of_ble_eq_true rfl⟩ | decide) ?_; conv => whnf)
    (refine And.intro (by first | omega | assumption | rfl | exact zin_and | exact ⟨zin_and, by omega⟩ | exact ⟨by omega, zin_and⟩ | exact Nat.le_of_ble_eq_true rfl | exact ⟨Nat.le_of_ble_eq_true rfl, rfl⟩ | exact ⟨Nat.le_of_ble_eq_true rfl, by assumption⟩ | exact ⟨by omega, Nat.le_of_ble_eq_true rfl⟩ | exact ⟨⟨by assumption, by omega⟩, Nat.le_of_ble_eq_true rfl⟩ | decide) ?_; conv => whnf)
    (refine c_nbound hkn hr.2.1 hm (k := k) (by omega) ?_; conv => whnf)
    (repeat' first | (refine hK _ _ _ _ (zW.go (zC_om _) (fun K hK => ?_)); conv => whnf) | (refine And.intro (by first | omega | assumption | rfl | exact zin_and | exact ⟨zin_and, by omega⟩ | exact ⟨by omega, zin_and⟩ | exact Nat.le_of_ble_eq_true rfl | exact ⟨Nat.le_of_ble_eq_true rfl, rfl⟩ | exact ⟨Nat.le_of_ble_eq_true rfl, by assumption⟩ | exact ⟨by omega, Nat.le_of_ble_eq_true rfl⟩ | exact ⟨⟨by assumption, by omega⟩, Nat.le_of_ble_eq_true rfl⟩ | decide) ?_; conv => whnf) | (refine And.intro (fun h => ?_) (fun h => ?_) <;> conv => whnf) | (intro h; conv => whnf))
    refine zQe hQ ?_
    rw [hs5]
theorem c_forget (hk : zKC b) (hQ : Q none (zup (zup (zup (zup g (b + 6) (1 : Nat) 0) b (4 : Nat) 0) b (5 : Nat) 0) b (6 : Nat) 0)) : zC (d + 1) 41 [zR b] g Q := by
  obtain ⟨hk0, hkb, hkn⟩ := id hk
  obtain ⟨hkb0, -⟩ := id hkb
  obtain ⟨hkn0, hkn1⟩ := id hkn
  refine zC.go zm_X3_forgetSearch ⟨rfl, rfl⟩ rfl ?_
  (refine zW.go (zC_om _) (fun K hK => ?_); conv => whnf)
  (refine And.intro (by first | omega | assumption | rfl | exact zin_and | exact ⟨zin_and, by omega⟩ | exact ⟨by omega, zin_and⟩ | exact Nat.le_of_ble_eq_true rfl | exact ⟨Nat.le_of_ble_eq_true rfl, rfl⟩ | exact ⟨Nat.le_of_ble_eq_true rfl, by assumption⟩ | exact ⟨by omega, Nat.le_of_ble_eq_true rfl⟩ | exact ⟨⟨by assumption, by omega⟩, Nat.le_of_ble_eq_true rfl⟩ | decide) ?_; conv => whnf)
  (refine And.intro ⟨by assumption, fun w => absurd w (by decide)⟩ ?_; conv => whnf)
  (refine And.intro ⟨by assumption, fun w => absurd w (by decide)⟩ ?_; conv => whnf)
  (refine And.intro ⟨by assumption, fun w => absurd w (by decide)⟩ ?_; conv => whnf)
  (refine And.intro ⟨by assumption, fun w => absurd w (by decide)⟩ ?_; conv => whnf)
  exact ⟨trivial, hQ⟩
/-- a search forgotten -/
def mfg (s : zS) : zS := ru (ru (ru (ru (ru s 4 0) 5 0) 6 0) 7 0) 8 0
theorem mfg_old {j : Int} (h : j < 4 ∨ 8 < j) : mfg s j = s j := by
  unfold mfg
  rw [ru_n (by omega), ru_n (by omega), ru_n (by omega), ru_n (by omega), ru_n (by omega)]
theorem mfg_ag : magr s (mfg s) := ⟨(mfg_old (by omega)).symm, (mfg_old (by omega)).symm, fun j h1 h2 => (mfg_old (by omega)).symm⟩
theorem RelC.forget (hr : RelC g b s n m) (hn : n ≤ 12) : RelC (zup (zup (zup (zup g (b + 6) (1 : Nat) 0) b (4 : Nat) 0) b (5 : Nat) 0) b (6 : Nat) 0) b (mfg s) n 0 := by
  obtain ⟨h1, h2, h3, h4, h5, h6, h7⟩ := hr
  refine ⟨h1.frame (fun j a c => ?_) mfg_ag hn, ⟨?_, fun k hk => absurd hk (by omega)⟩, ?_, ?_, ?_, ?_, ?_⟩
  · rw [zup_ne (by omega), zup_ne (by omega), zup_ne (by omega), zup_ne (by omega)]
  · rw [zup_ne (by omega), zup_ne (by omega), zup_ne (by omega), zup_s]
    rfl
  · rw [zup_i (by decide), zup_i (by decide), zup_i (by decide), zup_ne (by omega), mfg_old (by omega)]
    exact h3
  · rw [zup_i (by decide), zup_i (by decide), zup_i (by decide), zup_ne (by omega), mfg_old (by omega)]
    exact h4
  · rw [zup_i (by decide), zup_i (by decide), zup_s]
    rfl
  · rw [zup_i (by decide), zup_s]
    rfl
  · rw [zup_s]
    rfl
/-- what a row is after its root is made, and what a root's row is -/
def mroot (s : zS) (n : Nat) : zS := mmk (mfg s) n (-5) (-5) 0 0 0
theorem mposs0 (h : 0 ≤ s 1) : mposs s n 0 = true := by
  have go : ∀ t, mpb s n 0 t = true := by
    intro t
    induction t with
    | zero => exact decide_eq_true (by rw [bsum0]; exact h)
    | succ t ih => rw [mpb, ih]; simp
  exact go n
theorem RelN.snoc {g : zM} {q m : Nat} {s s' : zS} {x : Int} (hr : RelN g q s m) (hx : pkd x (nd s' m 4) (nd s' m 3) (nd s' m 5) (nd s' m 6) (if m = 0 then 0 else nd s' m 0) (if m = 0 then 0 else nd s' m 1)) (hs : ∀ j : Int, 45 ≤ j → j < 45 + 7 * m → s' j = s j) : RelN (zup (zup g (q + 1) m x) q (1 : Nat) (m + 1)) q s' (m + 1) := by
  refine ⟨by rw [zup_s]; rfl, fun k hk => ?_⟩
  rw [zup_ne (show q + 1 ≠ q by omega)]
  by_cases hkm : k = m
  · subst hkm
    rw [zup_s]
    exact hx
  · have e : ∀ f : Int, 0 ≤ f → f < 7 → nd s' k f = nd s k f := fun f h1 h2 => hs _ (by omega) (by omega)
    rw [zup_i (by omega), e 3 (by omega) (by omega), e 4 (by omega) (by omega), e 5 (by omega) (by omega), e 6 (by omega) (by omega), e 0 (by omega) (by omega), e 1 (by omega) (by omega)]
    exact hr.2 k (by omega)
/-- a state with a node more -/
theorem RelC.snoc {s' : zS} {x : Int} (hr : RelC g b s n m) (hn : n ≤ 12) (hx : pkd x (nd s' m 4) (nd s' m 3) (nd s' m 5) (nd s' m 6) (if m = 0 then 0 else nd s' m 0) (if m = 0 then 0 else nd s' m 1)) (hs : ∀ j : Int, j ≠ 4 → j ≠ 5 → j < 45 + 7 * m → s' j = s j) : RelC (zup (zup g (b + 6 + 1) m x) (b + 6) (1 : Nat) (m + 1)) b s' n (m + 1) := by
  obtain ⟨h1, h2, h3, h4, h5, h6, h7⟩ := hr
  have hg : ∀ j, j ≠ b + 6 → j ≠ b + 6 + 1 → (zup (zup g (b + 6 + 1) m x) (b + 6) (1 : Nat) (m + 1)) j = g j := fun j a c => by rw [zup_ne a, zup_ne c]
  have ha : magr s s' := ⟨(hs _ (by omega) (by omega) (by omega)).symm, (hs _ (by omega) (by omega) (by omega)).symm, fun j a c => (hs _ (by omega) (by omega) (by omega)).symm⟩
  refine ⟨h1.frame (fun j a c => hg j (by omega) (by omega)) ha hn, h2.snoc hx (fun j a c => hs j (by omega) (by omega) (by omega)), ?_⟩
  rw [hg b (by omega) (by omega), hs 2 (by omega) (by omega) (by omega), hs 3 (by omega) (by omega) (by omega), hs 6 (by omega) (by omega) (by omega), hs 7 (by omega) (by omega) (by omega), hs 8 (by omega) (by omega) (by omega)]
  exact ⟨h3, h4, h5, h6, h7⟩
theorem c_openRoot (hk : zKC b) (hr : RelC g b s n m) (hok : mok s n) (hsym : msym s n) (hQ : ∀ g' : zM, (∀ j, j ≠ b → j ≠ b + 6 → j ≠ b + 6 + 1 → g' j = g j) → RelC g' b (mroot s n) n 1 → Q none g') : zC (d + 4) 42 [zR b] g Q := by
  obtain ⟨hk0, hkb, hkn⟩ := id hk
  obtain ⟨hkb0, -⟩ := id hkb
  obtain ⟨hkn0, hkn1⟩ := id hkn
  have hn := hok.2.1
  have hok1 := (mfg_ag (s := s)).ok hok
  have hp0 : mposs (mfg s) n 0 = true := mposs0 (hok1.2.2.1).1
  have hch := mchild_rng (i := 0) (o := 0) hok1
  have h2n : 0 < 2 ^ n := Nat.two_pow_pos n
  have hm5 : mfg s 5 = (0 : Nat) := by rfl
  have h7 : mfg s 7 = 0 := rfl
  refine zC.go zm_X3_openRoot ⟨rfl, rfl⟩ rfl ?_
  (refine zW.go (zC_om _) (fun K hK => ?_); conv => whnf)
  (refine And.intro (by first | omega | assumption | rfl | exact zin_and | exact ⟨zin_and, by omega⟩ | exact ⟨by omega, zin_and⟩ | exact Nat.le_of_ble_eq_true rfl | exact ⟨Nat.le_of_ble_eq_true rfl, rfl⟩ | exact ⟨Nat.le_of_ble_eq_true rfl, by assumption⟩ | exact ⟨by omega, Nat.le_of_ble_eq_true rfl⟩ | exact ⟨⟨by assumption, by omega⟩, Nat.le_of_ble_eq_true rfl⟩ | decide) ?_; conv => whnf)
  (refine c_forget hk ?_; conv => whnf)
  have hr1 := hr.forget hn
  have hf1 : ∀ j, j ≠ b → j ≠ b + 6 → j ≠ b + 6 + 1 → (zup (zup (zup (zup g (b + 6) (1 : Nat) 0) b (4 : Nat) 0) b (5 : Nat) 0) b (6 : Nat) 0) j = g j := fun j a c _ => by rw [zup_ne a, zup_ne a, zup_ne a, zup_ne c]
  generalize (zup (zup (zup (zup g (b + 6) (1 : Nat) 0) b (4 : Nat) 0) b (5 : Nat) 0) b (6 : Nat) 0) = g1 at *
  (refine And.intro (by first | omega | assumption | rfl | exact zin_and | exact ⟨zin_and, by omega⟩ | exact ⟨by omega, zin_and⟩ | exact Nat.le_of_ble_eq_true rfl | exact ⟨Nat.le_of_ble_eq_true rfl, rfl⟩ | exact ⟨Nat.le_of_ble_eq_true rfl, by assumption⟩ | exact ⟨by omega, Nat.le_of_ble_eq_true rfl⟩ | exact ⟨⟨by assumption, by omega⟩, Nat.le_of_ble_eq_true rfl⟩ | decide) ?_; conv => whnf)
  (refine And.intro (by first | omega | assumption | rfl | exact zin_and | exact ⟨zin_and, by omega⟩ | exact ⟨by omega, zin_and⟩ | exact Nat.le_of_ble_eq_true rfl | exact ⟨Nat.le_of_ble_eq_true rfl, rfl⟩ | exact ⟨Nat.le_of_ble_eq_true rfl, by assumption⟩ | exact ⟨by omega, Nat.le_of_ble_eq_true rfl⟩ | exact ⟨⟨by assumption, by omega⟩, Nat.le_of_ble_eq_true rfl⟩ | decide) ?_; conv => whnf)
  (refine And.intro (by first | omega | assumption | rfl | exact zin_and | exact ⟨zin_and, by omega⟩ | exact ⟨by omega, zin_and⟩ | exact Nat.le_of_ble_eq_true rfl | exact ⟨Nat.le_of_ble_eq_true rfl, rfl⟩ | exact ⟨Nat.le_of_ble_eq_true rfl, by assumption⟩ | exact ⟨by omega, Nat.le_of_ble_eq_true rfl⟩ | exact ⟨⟨by assumption, by omega⟩, Nat.le_of_ble_eq_true rfl⟩ | decide) ?_; conv => whnf)
  (refine c_bound hkb hr1.1 hok1 (hsym.ag hn mfg_ag) (i := 0) (o := 0) h2n h2n ?_; conv => whnf)
  rw [if_pos hp0]
  have hch3 : mchild (mfg s) n 0 0 = mbound (mfg s) n 0 0 := if_pos hp0
  rw [hch3] at hch
  obtain ⟨w, hw⟩ : ∃ w : Nat, mbound (mfg s) n 0 0 = (w : Int) := ⟨(mbound (mfg s) n 0 0).toNat, by omega⟩
  rw [hw]
  (refine And.intro (by first | omega | assumption | rfl | exact zin_and | exact ⟨zin_and, by omega⟩ | exact ⟨by omega, zin_and⟩ | exact Nat.le_of_ble_eq_true rfl | exact ⟨Nat.le_of_ble_eq_true rfl, rfl⟩ | exact ⟨Nat.le_of_ble_eq_true rfl, by assumption⟩ | exact ⟨by omega, Nat.le_of_ble_eq_true rfl⟩ | exact ⟨⟨by assumption, by omega⟩, Nat.le_of_ble_eq_true rfl⟩ | decide) ?_; conv => whnf)
  (refine c_append (m := 0) (p := 0) (f := 0) (i := 0) (o := 0) (h := 0) hkn hr1.2.1.1 (by omega) (by omega) (by omega) (by omega) (by omega) (b := w) (by omega) (by omega) (fun x hx => ?_); conv => whnf)
  (refine And.intro (by first | omega | assumption | rfl | exact zin_and | exact ⟨zin_and, by omega⟩ | exact ⟨by omega, zin_and⟩ | exact Nat.le_of_ble_eq_true rfl | exact ⟨Nat.le_of_ble_eq_true rfl, rfl⟩ | exact ⟨Nat.le_of_ble_eq_true rfl, by assumption⟩ | exact ⟨by omega, Nat.le_of_ble_eq_true rfl⟩ | exact ⟨⟨by assumption, by omega⟩, Nat.le_of_ble_eq_true rfl⟩ | decide) ?_; conv => whnf)
  refine hQ _ (fun j a c e => ?_) (hr1.snoc hn ?_ (fun j h1 h2 h3 => ?_))
  · rw [zup_ne c, zup_ne e, hf1 j a c e]
  · have e4 : nd (mroot s n) ((0 : Nat) : Int) 4 = 0 := (mmk_4 hm5).trans (by unfold mhow; simp)
    have e3 : nd (mroot s n) ((0 : Nat) : Int) 3 = w := (mmk_3 hm5).trans (by rw [hch3, hw])
    have e5 : nd (mroot s n) ((0 : Nat) : Int) 5 = 0 := mmk_n5 hm5
    have e6 : nd (mroot s n) ((0 : Nat) : Int) 6 = 0 := mmk_n6 hm5
    rw [e4, e3, e5, e6]
    exact hx
  · exact mmk_old hm5 ⟨h2, h3⟩
theorem RelC.fld {i : Nat} {v : Int} {s' : zS} (hr : RelC g b s n m) (hn : n ≤ 12) (hs : ∀ j : Int, (j < 2 ∨ 8 < j) → s' j = s j) (hf : ((zup g b i v) b (2 : Nat) = s' 2 ∧ (zup g b i v) b (3 : Nat) = s' 3) ∧ ((zup g b i v) b (4 : Nat) = s' 6 ∧ (zup g b i v) b (5 : Nat) = s' 7 ∧ (zup g b i v) b (6 : Nat) = s' 8)) : RelC (zup g b i v) b s' n m :=
  ⟨hr.1.frame (fun j a c => zup_ne (by omega)) ⟨(hs _ (by omega)).symm, (hs _ (by omega)).symm, fun j a c => (hs _ (by omega)).symm⟩ hn, hr.2.1.frame (zup_ne (by omega)) (zup_ne (by omega)) (fun j a c => hs _ (by omega)), hf.1.1, hf.1.2, hf.2.1, hf.2.2.1, hf.2.2.2⟩
/-- what the class tells of a node that is taken, and its row then -/
def mrs (s : zS) (n i o : Nat) (bd : Int) : Int := if bd ≤ s 7 then 1 else if bd ≤ bsum s 9 (mheel s n i o) n then 2 else 4
def mrow (s : zS) (n i o : Nat) (bd : Int) : zS := if bd ≤ s 7 then s else if s 7 < bsum s 9 (mheel s n i o) n then ru (ru s 7 (bsum s 9 (mheel s n i o) n)) 8 (mheel s n i o : Nat) else s
theorem c_resultFor (hk : zKC b) (hr : RelC g b s n m) (hok : mok s n) (hsym : msym s n) (hm : m ≤ 400) (h7 : 0 ≤ s 7 ∧ s 7 ≤ 1188) {k i o : Nat} (hkm : k < m) (hi : nd s k 5 = (i : Int)) (ho : nd s k 6 = (o : Int)) (hil : i < 2 ^ n) (hol : o < 2 ^ n) (hQ : ∀ g' : zM, (∀ j, j ≠ b → g' j = g j) → RelC g' b (mrow s n i o (nd s k 3)) n m → Q (some (zI (mrs s n i o (nd s k 3)))) g') : zC (d + 4) 45 [zR b, zI k] g Q := by
  obtain ⟨hk0, hkb, hkn⟩ := id hk
  obtain ⟨hkb0, -⟩ := id hkb
  obtain ⟨hkn0, hkn1⟩ := id hkn
  have hn := hok.2.1
  obtain ⟨-, -, r2, r3, r4, r5, r6⟩ := id hr
  obtain ⟨u, -, -, -, hbd, -⟩ := hr.2.1.2 k hkm
  have hhs := msumw (set := mheel s n i o) hok
  have hhl := mheel_lt (o := o) hok hil
  have h2n := zp12 hn
  unfold mrs mrow at hQ
  refine zC.go zm_X3_resultFor ⟨rfl, rfl⟩ rfl ?_
  (refine zW.go (zC_om _) (fun K hK => ?_); conv => whnf)
  (refine And.intro (by first | omega | assumption | rfl | exact zin_and | exact ⟨zin_and, by omega⟩ | exact ⟨by omega, zin_and⟩ | exact Nat.le_of_ble_eq_true rfl | exact ⟨Nat.le_of_ble_eq_true rfl, rfl⟩ | exact ⟨Nat.le_of_ble_eq_true rfl, by assumption⟩ | exact ⟨by omega, Nat.le_of_ble_eq_true rfl⟩ | exact ⟨⟨by assumption, by omega⟩, Nat.le_of_ble_eq_true rfl⟩ | decide) ?_; conv => whnf)
  (refine And.intro (by first | omega | assumption | rfl | exact zin_and | exact ⟨zin_and, by omega⟩ | exact ⟨by omega, zin_and⟩ | exact Nat.le_of_ble_eq_true rfl | exact ⟨Nat.le_of_ble_eq_true rfl, rfl⟩ | exact ⟨Nat.le_of_ble_eq_true rfl, by assumption⟩ | exact ⟨by omega, Nat.le_of_ble_eq_true rfl⟩ | exact ⟨⟨by assumption, by omega⟩, Nat.le_of_ble_eq_true rfl⟩ | decide) ?_; conv => whnf)
  (refine c_nbound hkn hr.2.1 hm (k := k) (by omega) ?_; conv => whnf)
  (refine And.intro (by first | omega | assumption | rfl | exact zin_and | exact ⟨zin_and, by omega⟩ | exact ⟨by omega, zin_and⟩ | exact Nat.le_of_ble_eq_true rfl | exact ⟨Nat.le_of_ble_eq_true rfl, rfl⟩ | exact ⟨Nat.le_of_ble_eq_true rfl, by assumption⟩ | exact ⟨by omega, Nat.le_of_ble_eq_true rfl⟩ | exact ⟨⟨by assumption, by omega⟩, Nat.le_of_ble_eq_true rfl⟩ | decide) ?_; conv => whnf)
  generalize nd s k 3 = bd at *
  have h5z : 0 ≤ g b (5 : Nat) ∧ g b (5 : Nat) ≤ 1188 := by omega
  (refine And.intro (by first | omega | assumption | rfl | exact zin_and | exact ⟨zin_and, by omega⟩ | exact ⟨by omega, zin_and⟩ | exact Nat.le_of_ble_eq_true rfl | exact ⟨Nat.le_of_ble_eq_true rfl, rfl⟩ | exact ⟨Nat.le_of_ble_eq_true rfl, by assumption⟩ | exact ⟨by omega, Nat.le_of_ble_eq_true rfl⟩ | exact ⟨⟨by assumption, by omega⟩, Nat.le_of_ble_eq_true rfl⟩ | decide) ?_; conv => whnf)
  by_cases c1 : bd ≤ s 7
  · rw [if_pos c1, if_pos c1] at hQ
    (refine And.intro (fun h => by omega) (fun h => ?_); conv => whnf)
    (repeat' first | (refine hK _ _ _ _ (zW.go (zC_om _) (fun K hK => ?_)); conv => whnf) | (refine And.intro (by first | omega | assumption | rfl | exact zin_and | exact ⟨zin_and, by omega⟩ | exact ⟨by omega, zin_and⟩ | exact Nat.le_of_ble_eq_true rfl | exact ⟨Nat.le_of_ble_eq_true rfl, rfl⟩ | exact ⟨Nat.le_of_ble_eq_true rfl, by assumption⟩ | exact ⟨by omega, Nat.le_of_ble_eq_true rfl⟩ | exact ⟨⟨by assumption, by omega⟩, Nat.le_of_ble_eq_true rfl⟩ | decide) ?_; conv => whnf) | (refine And.intro (fun h => ?_) (fun h => ?_) <;> conv => whnf) | (intro h; conv => whnf))
    exact hQ g (fun _ _ => rfl) hr
  · rw [if_neg c1, if_neg c1] at hQ
    (refine And.intro (fun h => ?_) (fun h => by omega); conv => whnf)
    (refine hK _ _ _ _ ?_)
    (refine zW.upto (zC_om _) 28 (fun K hK => ?_); conv => whnf)
    (refine And.intro (by first | omega | assumption | rfl | exact zin_and | exact ⟨zin_and, by omega⟩ | exact ⟨by omega, zin_and⟩ | exact Nat.le_of_ble_eq_true rfl | exact ⟨Nat.le_of_ble_eq_true rfl, rfl⟩ | exact ⟨Nat.le_of_ble_eq_true rfl, by assumption⟩ | exact ⟨by omega, Nat.le_of_ble_eq_true rfl⟩ | exact ⟨⟨by assumption, by omega⟩, Nat.le_of_ble_eq_true rfl⟩ | decide) ?_; conv => whnf)
    (refine And.intro (by first | omega | assumption | rfl | exact zin_and | exact ⟨zin_and, by omega⟩ | exact ⟨by omega, zin_and⟩ | exact Nat.le_of_ble_eq_true rfl | exact ⟨Nat.le_of_ble_eq_true rfl, rfl⟩ | exact ⟨Nat.le_of_ble_eq_true rfl, by assumption⟩ | exact ⟨by omega, Nat.le_of_ble_eq_true rfl⟩ | exact ⟨⟨by assumption, by omega⟩, Nat.le_of_ble_eq_true rfl⟩ | decide) ?_; conv => whnf)
    (refine And.intro (by first | omega | assumption | rfl | exact zin_and | exact ⟨zin_and, by omega⟩ | exact ⟨by omega, zin_and⟩ | exact Nat.le_of_ble_eq_true rfl | exact ⟨Nat.le_of_ble_eq_true rfl, rfl⟩ | exact ⟨Nat.le_of_ble_eq_true rfl, by assumption⟩ | exact ⟨by omega, Nat.le_of_ble_eq_true rfl⟩ | exact ⟨⟨by assumption, by omega⟩, Nat.le_of_ble_eq_true rfl⟩ | decide) ?_; conv => whnf)
    (refine c_in hkn hr.2.1 hm (k := k) (by omega) ?_; conv => whnf)
    rw [hi]
    (refine And.intro (by first | omega | assumption | rfl | exact zin_and | exact ⟨zin_and, by omega⟩ | exact ⟨by omega, zin_and⟩ | exact Nat.le_of_ble_eq_true rfl | exact ⟨Nat.le_of_ble_eq_true rfl, rfl⟩ | exact ⟨Nat.le_of_ble_eq_true rfl, by assumption⟩ | exact ⟨by omega, Nat.le_of_ble_eq_true rfl⟩ | exact ⟨⟨by assumption, by omega⟩, Nat.le_of_ble_eq_true rfl⟩ | decide) ?_; conv => whnf)
    (refine And.intro (by first | omega | assumption | rfl | exact zin_and | exact ⟨zin_and, by omega⟩ | exact ⟨by omega, zin_and⟩ | exact Nat.le_of_ble_eq_true rfl | exact ⟨Nat.le_of_ble_eq_true rfl, rfl⟩ | exact ⟨Nat.le_of_ble_eq_true rfl, by assumption⟩ | exact ⟨by omega, Nat.le_of_ble_eq_true rfl⟩ | exact ⟨⟨by assumption, by omega⟩, Nat.le_of_ble_eq_true rfl⟩ | decide) ?_; conv => whnf)
    (refine c_out hkn hr.2.1 hm (k := k) (by omega) ?_; conv => whnf)
    rw [ho]
    (refine And.intro (by first | omega | assumption | rfl | exact zin_and | exact ⟨zin_and, by omega⟩ | exact ⟨by omega, zin_and⟩ | exact Nat.le_of_ble_eq_true rfl | exact ⟨Nat.le_of_ble_eq_true rfl, rfl⟩ | exact ⟨Nat.le_of_ble_eq_true rfl, by assumption⟩ | exact ⟨by omega, Nat.le_of_ble_eq_true rfl⟩ | exact ⟨⟨by assumption, by omega⟩, Nat.le_of_ble_eq_true rfl⟩ | decide) ?_; conv => whnf)
    (refine c_heel hkb hr.1 hok hsym hil hol ?_; conv => whnf)
    (refine And.intro (by first | omega | assumption | rfl | exact zin_and | exact ⟨zin_and, by omega⟩ | exact ⟨by omega, zin_and⟩ | exact Nat.le_of_ble_eq_true rfl | exact ⟨Nat.le_of_ble_eq_true rfl, rfl⟩ | exact ⟨Nat.le_of_ble_eq_true rfl, by assumption⟩ | exact ⟨by omega, Nat.le_of_ble_eq_true rfl⟩ | exact ⟨⟨by assumption, by omega⟩, Nat.le_of_ble_eq_true rfl⟩ | decide) ?_; conv => whnf)
    (refine And.intro (by first | omega | assumption | rfl | exact zin_and | exact ⟨zin_and, by omega⟩ | exact ⟨by omega, zin_and⟩ | exact Nat.le_of_ble_eq_true rfl | exact ⟨Nat.le_of_ble_eq_true rfl, rfl⟩ | exact ⟨Nat.le_of_ble_eq_true rfl, by assumption⟩ | exact ⟨by omega, Nat.le_of_ble_eq_true rfl⟩ | exact ⟨⟨by assumption, by omega⟩, Nat.le_of_ble_eq_true rfl⟩ | decide) ?_; conv => whnf)
    (refine And.intro (by first | omega | assumption | rfl | exact zin_and | exact ⟨zin_and, by omega⟩ | exact ⟨by omega, zin_and⟩ | exact Nat.le_of_ble_eq_true rfl | exact ⟨Nat.le_of_ble_eq_true rfl, rfl⟩ | exact ⟨Nat.le_of_ble_eq_true rfl, by assumption⟩ | exact ⟨by omega, Nat.le_of_ble_eq_true rfl⟩ | exact ⟨⟨by assumption, by omega⟩, Nat.le_of_ble_eq_true rfl⟩ | decide) ?_; conv => whnf)
    (refine c_sumW hkb hr.1 hn hhl ?_; conv => whnf)
    generalize bsum s 9 (mheel s n i o) n = hs at *
    have j39 : ∀ g' : zM, (∀ j, j ≠ b → g' j = g j) → RelC g' b (if s 7 < hs then ru (ru s 7 hs) 8 (mheel s n i o : Nat) else s) n m → zW zX3_resultFor (zC (d + 3)) Q 39 [zR b, zI k, zI bd, zI (mheel s n i o : Nat), zI hs] [] g' := by
      intro g' hf hr'
      have hQ := hQ g' hf hr'
      (refine zW.go (zC_om _) (fun K hK => ?_); conv => whnf)
      (refine And.intro (by first | omega | assumption | rfl | exact zin_and | exact ⟨zin_and, by omega⟩ | exact ⟨by omega, zin_and⟩ | exact Nat.le_of_ble_eq_true rfl | exact ⟨Nat.le_of_ble_eq_true rfl, rfl⟩ | exact ⟨Nat.le_of_ble_eq_true rfl, by assumption⟩ | exact ⟨by omega, Nat.le_of_ble_eq_true rfl⟩ | exact ⟨⟨by assumption, by omega⟩, Nat.le_of_ble_eq_true rfl⟩ | decide) ?_; conv => whnf)
      by_cases c2 : bd ≤ hs
      · rw [if_pos c2] at hQ
        (refine And.intro (fun h => by omega) (fun h => ?_); conv => whnf)
        (repeat' first | (refine hK _ _ _ _ (zW.go (zC_om _) (fun K hK => ?_)); conv => whnf) | (refine And.intro (by first | omega | assumption | rfl | exact zin_and | exact ⟨zin_and, by omega⟩ | exact ⟨by omega, zin_and⟩ | exact Nat.le_of_ble_eq_true rfl | exact ⟨Nat.le_of_ble_eq_true rfl, rfl⟩ | exact ⟨Nat.le_of_ble_eq_true rfl, by assumption⟩ | exact ⟨by omega, Nat.le_of_ble_eq_true rfl⟩ | exact ⟨⟨by assumption, by omega⟩, Nat.le_of_ble_eq_true rfl⟩ | decide) ?_; conv => whnf) | (refine And.intro (fun h => ?_) (fun h => ?_) <;> conv => whnf) | (intro h; conv => whnf))
        exact hQ
      · rw [if_neg c2] at hQ
        (refine And.intro (fun h => ?_) (fun h => by omega); conv => whnf)
        (repeat' first | (refine hK _ _ _ _ (zW.go (zC_om _) (fun K hK => ?_)); conv => whnf) | (refine And.intro (by first | omega | assumption | rfl | exact zin_and | exact ⟨zin_and, by omega⟩ | exact ⟨by omega, zin_and⟩ | exact Nat.le_of_ble_eq_true rfl | exact ⟨Nat.le_of_ble_eq_true rfl, rfl⟩ | exact ⟨Nat.le_of_ble_eq_true rfl, by assumption⟩ | exact ⟨by omega, Nat.le_of_ble_eq_true rfl⟩ | exact ⟨⟨by assumption, by omega⟩, Nat.le_of_ble_eq_true rfl⟩ | decide) ?_; conv => whnf) | (refine And.intro (fun h => ?_) (fun h => ?_) <;> conv => whnf) | (intro h; conv => whnf))
        exact hQ
    (refine And.intro (by first | omega | assumption | rfl | exact zin_and | exact ⟨zin_and, by omega⟩ | exact ⟨by omega, zin_and⟩ | exact Nat.le_of_ble_eq_true rfl | exact ⟨Nat.le_of_ble_eq_true rfl, rfl⟩ | exact ⟨Nat.le_of_ble_eq_true rfl, by assumption⟩ | exact ⟨by omega, Nat.le_of_ble_eq_true rfl⟩ | exact ⟨⟨by assumption, by omega⟩, Nat.le_of_ble_eq_true rfl⟩ | decide) ?_; conv => whnf)
    (refine And.intro (by first | omega | assumption | rfl | exact zin_and | exact ⟨zin_and, by omega⟩ | exact ⟨by omega, zin_and⟩ | exact Nat.le_of_ble_eq_true rfl | exact ⟨Nat.le_of_ble_eq_true rfl, rfl⟩ | exact ⟨Nat.le_of_ble_eq_true rfl, by assumption⟩ | exact ⟨by omega, Nat.le_of_ble_eq_true rfl⟩ | exact ⟨⟨by assumption, by omega⟩, Nat.le_of_ble_eq_true rfl⟩ | decide) ?_; conv => whnf)
    by_cases c3 : s 7 < hs
    · rw [if_pos c3] at j39
      (refine And.intro (fun h => by omega) (fun h => ?_); conv => whnf)
      (refine And.intro ⟨by assumption, fun w => absurd w (by decide)⟩ ?_; conv => whnf)
      (refine And.intro ⟨by assumption, fun w => absurd w (by decide)⟩ ?_; conv => whnf)
      refine hK _ _ _ _ (j39 _ (fun j hj => ?_) ?_)
      · rw [zup_ne hj, zup_ne hj]
      · refine RelC.fld (s := ru s 7 hs) (RelC.fld hr hn (fun j h => ru_n (by omega)) ?_) hn (fun j h => ru_n (by omega)) ?_
        · rw [zup_i (by decide), zup_i (by decide), zup_i (by decide), zup_s, zup_i (by decide), ru_s, ru_n (by omega), ru_n (by omega), ru_n (by omega), ru_n (by omega)]
          exact ⟨⟨r2, r3⟩, r4, rfl, r6⟩
        · rw [zup_i (by decide), zup_i (by decide), zup_i (by decide), zup_i (by decide), zup_s, zup_i (by decide), zup_i (by decide), zup_i (by decide), zup_s, ru_s, ru_n (by omega), ru_n (by omega), ru_n (by omega), ru_n (by omega), ru_n (by omega), ru_n (by omega), ru_n (by omega), ru_s]
          exact ⟨⟨r2, r3⟩, r4, rfl, rfl⟩
    · rw [if_neg c3] at j39
      (refine And.intro (fun h => ?_) (fun h => by omega); conv => whnf)
      exact hK _ _ _ _ (j39 _ (fun j hj => rfl) hr)
end CS
end
section
/-! the class takes a step -/
section CT
variable {g : zM} {b n m : Nat} {s : zS} {d : Nat} {Q : zP}
theorem mhow_c {par : Int} {i o : Nat} (h7 : 0 ≤ s 7) (hp : par ≠ -5) : mhow s n par i o = if mchild s n i o ≤ s 7 then 3 else 0 := by
  unfold mhow
  by_cases h1 : mposs s n i = true
  · have : ¬ mposs s n i = false := by rw [h1]; decide
    simp [hp, this]
  · have h2 : mposs s n i = false := by simpa using h1
    have h3 : mchild s n i o = 0 := if_neg h1
    rw [if_pos ⟨hp, Or.inl h2⟩, if_pos (by omega)]
theorem c_makeChild (hk : zKC b) (hr : RelC g b s n m) (hok : mok s n) (hsym : msym s n) (hm5 : s 5 = (m : Int)) (hm0 : 0 < m) (hm : m < 400) (h7 : 0 ≤ s 7 ∧ s 7 ≤ 1188) {k t i o : Nat} {bb : Int} (hk4 : k < 400) (ht : t < 12) (hil : i < 2 ^ n) (hol : o < 2 ^ n)
    (hQ : ∀ g' : zM, (∀ j, j ≠ b + 6 → j ≠ b + 6 + 1 → g' j = g j) → RelC g' b (mmk s n k t bb i o) n (m + 1) → Q none g') : zC (d + 4) 46 [zR b, zI k, zI t, zI i, zI o] g Q := by
  obtain ⟨hk0, hkb, hkn⟩ := id hk
  obtain ⟨hkb0, -⟩ := id hkb
  obtain ⟨hkn0, hkn1⟩ := id hkn
  have hn := hok.2.1
  have h2n := zp12 hn
  obtain ⟨-, -, r2, r3, r4, r5, r6⟩ := id hr
  have hch := mchild_rng (i := i) (o := o) hok
  obtain ⟨hmx, hmz⟩ := mchild_max (i := i) (o := o) hok
  have hhow := mhow_c (n := n) (i := i) (o := o) h7.1 (show (k : Int) ≠ -5 by omega)
  refine zC.go zm_X3_makeChild ⟨rfl, rfl⟩ rfl ?_
  (refine zW.go (zC_om _) (fun K hK => ?_); conv => whnf)
  (refine And.intro (by first | omega | assumption | rfl | exact zin_and | exact ⟨zin_and, by omega⟩ | exact ⟨by omega, zin_and⟩ | exact Nat.le_of_ble_eq_true rfl | exact ⟨Nat.le_of_ble_eq_true rfl, rfl⟩ | exact ⟨Nat.le_of_ble_eq_true rfl, by assumption⟩ | exact ⟨by omega, Nat.le_of_ble_eq_true rfl⟩ | exact ⟨⟨by assumption, by omega⟩, Nat.le_of_ble_eq_true rfl⟩ | decide) ?_; conv => whnf)
  (refine And.intro (by first | omega | assumption | rfl | exact zin_and | exact ⟨zin_and, by omega⟩ | exact ⟨by omega, zin_and⟩ | exact Nat.le_of_ble_eq_true rfl | exact ⟨Nat.le_of_ble_eq_true rfl, rfl⟩ | exact ⟨Nat.le_of_ble_eq_true rfl, by assumption⟩ | exact ⟨by omega, Nat.le_of_ble_eq_true rfl⟩ | exact ⟨⟨by assumption, by omega⟩, Nat.le_of_ble_eq_true rfl⟩ | decide) ?_; conv => whnf)
  (refine c_bound hkb hr.1 hok hsym hil hol ?_; conv => whnf)
  (refine And.intro (by first | omega | assumption | rfl | exact zin_and | exact ⟨zin_and, by omega⟩ | exact ⟨by omega, zin_and⟩ | exact Nat.le_of_ble_eq_true rfl | exact ⟨Nat.le_of_ble_eq_true rfl, rfl⟩ | exact ⟨Nat.le_of_ble_eq_true rfl, by assumption⟩ | exact ⟨by omega, Nat.le_of_ble_eq_true rfl⟩ | exact ⟨⟨by assumption, by omega⟩, Nat.le_of_ble_eq_true rfl⟩ | decide) ?_; conv => whnf)
  rw [hmx]
  (refine And.intro (by first | omega | assumption | rfl | exact zin_and | exact ⟨zin_and, by omega⟩ | exact ⟨by omega, zin_and⟩ | exact Nat.le_of_ble_eq_true rfl | exact ⟨Nat.le_of_ble_eq_true rfl, rfl⟩ | exact ⟨Nat.le_of_ble_eq_true rfl, by assumption⟩ | exact ⟨by omega, Nat.le_of_ble_eq_true rfl⟩ | exact ⟨⟨by assumption, by omega⟩, Nat.le_of_ble_eq_true rfl⟩ | decide) ?_; conv => whnf)
  (refine And.intro (by first | omega | assumption | rfl | exact zin_and | exact ⟨zin_and, by omega⟩ | exact ⟨by omega, zin_and⟩ | exact Nat.le_of_ble_eq_true rfl | exact ⟨Nat.le_of_ble_eq_true rfl, rfl⟩ | exact ⟨Nat.le_of_ble_eq_true rfl, by assumption⟩ | exact ⟨by omega, Nat.le_of_ble_eq_true rfl⟩ | exact ⟨⟨by assumption, by omega⟩, Nat.le_of_ble_eq_true rfl⟩ | decide) ?_; conv => whnf)
  obtain ⟨w, hw⟩ : ∃ w : Nat, mchild s n i o = (w : Int) := ⟨(mchild s n i o).toNat, by omega⟩
  have fin : ∀ (h : Nat) (Q' : zP), mhow s n k i o = (h : Int) → h < 4096 → (∀ g' : zM, (∀ j, j ≠ b + 6 → j ≠ b + 6 + 1 → g' j = g j) → RelC g' b (mmk s n k t bb i o) n (m + 1) → Q' none g') → zC (d + 3) 26 [zR (b + 6), zI k, zI t, zI i, zI o, zI w, zI h] g Q' := by
    intro h Q' hh h1 hQ'
    refine c_append hkn hr.2.1.1 hm (by omega) (by omega) (by omega) (by omega) (by omega) h1 (fun x hx => ?_)
    refine hQ' _ (fun j a c => ?_) (hr.snoc hn ?_ (fun j e1 e2 e3 => mmk_old hm5 ⟨e2, e3⟩))
    · rw [zup_ne a, zup_ne c]
    · rw [mmk_4 hm5, mmk_3 hm5, mmk_n5 hm5, mmk_n6 hm5, mmk_0 hm5, mmk_1 hm5, if_neg (by omega), if_neg (by omega), hw, hh]
      exact hx
  rw [hw] at hhow hch ⊢
  (refine And.intro (by first | omega | assumption | rfl | exact zin_and | exact ⟨zin_and, by omega⟩ | exact ⟨by omega, zin_and⟩ | exact Nat.le_of_ble_eq_true rfl | exact ⟨Nat.le_of_ble_eq_true rfl, rfl⟩ | exact ⟨Nat.le_of_ble_eq_true rfl, by assumption⟩ | exact ⟨by omega, Nat.le_of_ble_eq_true rfl⟩ | exact ⟨⟨by assumption, by omega⟩, Nat.le_of_ble_eq_true rfl⟩ | decide) ?_; conv => whnf)
  by_cases c1 : (w : Int) ≤ s 7
  · rw [if_pos c1] at hhow
    (refine And.intro (fun h => ?_) (fun h => by omega); conv => whnf)
    (refine hK _ _ _ _ (zW.go (zC_om _) (fun K hK => ?_)); conv => whnf)
    (refine And.intro (by first | omega | assumption | rfl | exact zin_and | exact ⟨zin_and, by omega⟩ | exact ⟨by omega, zin_and⟩ | exact Nat.le_of_ble_eq_true rfl | exact ⟨Nat.le_of_ble_eq_true rfl, rfl⟩ | exact ⟨Nat.le_of_ble_eq_true rfl, by assumption⟩ | exact ⟨by omega, Nat.le_of_ble_eq_true rfl⟩ | exact ⟨⟨by assumption, by omega⟩, Nat.le_of_ble_eq_true rfl⟩ | decide) ?_; conv => whnf)
    (refine fin 3 _ hhow (by omega) (fun g' hf hr' => ?_); conv => whnf)
    (refine And.intro (by first | omega | assumption | rfl | exact zin_and | exact ⟨zin_and, by omega⟩ | exact ⟨by omega, zin_and⟩ | exact Nat.le_of_ble_eq_true rfl | exact ⟨Nat.le_of_ble_eq_true rfl, rfl⟩ | exact ⟨Nat.le_of_ble_eq_true rfl, by assumption⟩ | exact ⟨by omega, Nat.le_of_ble_eq_true rfl⟩ | exact ⟨⟨by assumption, by omega⟩, Nat.le_of_ble_eq_true rfl⟩ | decide) ?_; conv => whnf)
    exact hQ g' hf hr'
  · rw [if_neg c1] at hhow
    (refine And.intro (fun h => by omega) (fun h => ?_); conv => whnf)
    (refine hK _ _ _ _ (zW.go (zC_om _) (fun K hK => ?_)); conv => whnf)
    (refine And.intro (by first | omega | assumption | rfl | exact zin_and | exact ⟨zin_and, by omega⟩ | exact ⟨by omega, zin_and⟩ | exact Nat.le_of_ble_eq_true rfl | exact ⟨Nat.le_of_ble_eq_true rfl, rfl⟩ | exact ⟨Nat.le_of_ble_eq_true rfl, by assumption⟩ | exact ⟨by omega, Nat.le_of_ble_eq_true rfl⟩ | exact ⟨⟨by assumption, by omega⟩, Nat.le_of_ble_eq_true rfl⟩ | decide) ?_; conv => whnf)
    (refine fin 0 _ hhow (by omega) (fun g' hf hr' => ?_); conv => whnf)
    (refine And.intro (by first | omega | assumption | rfl | exact zin_and | exact ⟨zin_and, by omega⟩ | exact ⟨by omega, zin_and⟩ | exact Nat.le_of_ble_eq_true rfl | exact ⟨Nat.le_of_ble_eq_true rfl, rfl⟩ | exact ⟨Nat.le_of_ble_eq_true rfl, by assumption⟩ | exact ⟨by omega, Nat.le_of_ble_eq_true rfl⟩ | exact ⟨⟨by assumption, by omega⟩, Nat.le_of_ble_eq_true rfl⟩ | decide) ?_; conv => whnf)
    exact hQ g' hf hr'
theorem ru_c {s : zS} {a c v w : Int} (h : a ≠ c) : ru (ru s a v) c w = ru (ru s c w) a v := by
  funext j
  unfold ru
  by_cases h1 : j = c
  · rw [if_pos h1, if_neg (by omega), if_pos h1]
  · rw [if_neg h1, if_neg h1]
theorem mmk_ru {par th bb : Int} {i o : Nat} {a v : Int} (hok : mok s n) (hm5 : s 5 = (m : Int)) (ha : 45 ≤ a) (ha' : a < 45 + 7 * m) : mmk (ru s a v) n par th bb i o = ru (mmk s n par th bb i o) a v := by
  have hag : magr s (ru s a v) := magr.rfl.ru (by omega)
  have h5 : ru s a v 5 = s 5 := ru_n (by omega)
  have h7 : ru s a v 7 = s 7 := ru_n (by omega)
  unfold mmk mhow
  rw [h5, h7, ← ag_child hag hok.2.1 hok.pos, ← ag_poss hag hok.2.1, hm5]
  rw [ru_c (a := a) (by omega), ru_c (a := a) (by omega), ru_c (a := a) (by omega), ru_c (a := a) (by omega), ru_c (a := a) (by omega), ru_c (a := a) (by omega), ru_c (a := a) (by omega), ru_c (a := a) (by omega)]
theorem RelC.settle {k : Nat} {x w : Int} (hr : RelC g b s n m) (hn : n ≤ 12) (hkm : k < m) (hx : pkd x w (nd s k 3) (nd s k 5) (nd s k 6) (if k = 0 then 0 else nd s k 0) (if k = 0 then 0 else nd s k 1)) : RelC (zup g (b + 6 + 1) k x) b (ru s (45 + 7 * k + 4) w) n m := by
  obtain ⟨h1, h2, h3⟩ := hr
  refine ⟨h1.frame (fun j a c => zup_ne (by omega)) (magr.rfl.ru (by omega)) hn, h2.up hkm hx, ?_⟩
  rw [zup_ne (by omega), ru_n (by omega), ru_n (by omega), ru_n (by omega), ru_n (by omega), ru_n (by omega)]
  exact h3
theorem c_takeStep (hk : zKC b) (hr : RelC g b s n m) (hinv : minv s n m) {k : Nat} {order : Int} (ho : zin order) (hkk : mtk s order m = (k : Int)) (hQ : ∀ g' : zM, (∀ j, j ≠ b → j ≠ b + 6 → j ≠ b + 6 + 1 → g' j = g j) → ((mtakes s n k).1 ≠ -3 → RelC g' b (mtakes s n k).2 n (if (mtakes s n k).1 = 4 then m + 2 else m)) → Q (some (zI (mtakes s n k).1)) g') : zC (d + 6) 44 [zR b, zI order] g Q := by
  obtain ⟨hk0, hkb, hkn⟩ := id hk
  obtain ⟨hkb0, -⟩ := id hkb
  obtain ⟨hkn0, hkn1⟩ := id hkn
  obtain ⟨hok, hsym, h2r, h3r, ⟨hm5, hm⟩, h4, hnodes, h7, h8, h0⟩ := id hinv
  have hn := hok.2.1
  have h2n := zp12 hn
  have hkm : k < m ∧ nd s k 4 = 0 := by
    have := mtk_rng s order m
    rw [hkk] at this
    omega
  obtain ⟨hkm, hop⟩ := hkm
  obtain ⟨i, o, hi, ho', hil, hol, h3, hh4, hps, -, -⟩ := hnodes k hkm
  have hps := hps hop
  have hii : ndi s k = i := by unfold ndi; rw [hi]; rfl
  have hoo : ndo s k = o := by unfold ndo; rw [ho']; rfl
  have hhl := mheel_lt (o := o) hok hil
  have hhs := msumw (set := mheel s n i o) hok
  have hag : magr s (ru s 6 (s 6 + 1)) := magr.rfl.ru (by omega)
  have hr1 : RelC (zup g b (4 : Nat) (g b (4 : Nat) + 1)) b (ru s 6 (s 6 + 1)) n m := by
    obtain ⟨-, -, r2, r3, r4, r5, r6⟩ := id hr
    refine hr.fld hn (fun j hj => ru_n (by omega)) ?_
    rw [zup_i (by decide), zup_i (by decide), zup_s, zup_i (by decide), zup_i (by decide), ru_n (by omega), ru_n (by omega), ru_s, ru_n (by omega), ru_n (by omega), r4]
    exact ⟨⟨r2, r3⟩, rfl, r5, r6⟩
  refine zC.go zm_X3_takeStep ⟨rfl, rfl⟩ rfl ?_
  (refine zW.go (zC_om _) (fun K hK => ?_); conv => whnf)
  (refine And.intro (by first | omega | assumption | rfl | exact zin_and | exact ⟨zin_and, by omega⟩ | exact ⟨by omega, zin_and⟩ | exact Nat.le_of_ble_eq_true rfl | exact ⟨Nat.le_of_ble_eq_true rfl, rfl⟩ | exact ⟨Nat.le_of_ble_eq_true rfl, by assumption⟩ | exact ⟨by omega, Nat.le_of_ble_eq_true rfl⟩ | exact ⟨⟨by assumption, by omega⟩, Nat.le_of_ble_eq_true rfl⟩ | decide) ?_; conv => whnf)
  (refine And.intro (by first | omega | assumption | rfl | exact zin_and | exact ⟨zin_and, by omega⟩ | exact ⟨by omega, zin_and⟩ | exact Nat.le_of_ble_eq_true rfl | exact ⟨Nat.le_of_ble_eq_true rfl, rfl⟩ | exact ⟨Nat.le_of_ble_eq_true rfl, by assumption⟩ | exact ⟨by omega, Nat.le_of_ble_eq_true rfl⟩ | exact ⟨⟨by assumption, by omega⟩, Nat.le_of_ble_eq_true rfl⟩ | decide) ?_; conv => whnf)
  (refine c_nextOpen hkn hr.2.1 hm ho ?_; conv => whnf)
  rw [hkk]
  (refine And.intro (by first | omega | assumption | rfl | exact zin_and | exact ⟨zin_and, by omega⟩ | exact ⟨by omega, zin_and⟩ | exact Nat.le_of_ble_eq_true rfl | exact ⟨Nat.le_of_ble_eq_true rfl, rfl⟩ | exact ⟨Nat.le_of_ble_eq_true rfl, by assumption⟩ | exact ⟨by omega, Nat.le_of_ble_eq_true rfl⟩ | exact ⟨⟨by assumption, by omega⟩, Nat.le_of_ble_eq_true rfl⟩ | decide) ?_; conv => whnf)
  (refine And.intro ⟨by assumption, fun w => absurd w (by decide)⟩ ?_; conv => whnf)
  (refine And.intro (by first | omega | assumption | rfl | exact zin_and | exact ⟨zin_and, by omega⟩ | exact ⟨by omega, zin_and⟩ | exact Nat.le_of_ble_eq_true rfl | exact ⟨Nat.le_of_ble_eq_true rfl, rfl⟩ | exact ⟨Nat.le_of_ble_eq_true rfl, by assumption⟩ | exact ⟨by omega, Nat.le_of_ble_eq_true rfl⟩ | exact ⟨⟨by assumption, by omega⟩, Nat.le_of_ble_eq_true rfl⟩ | decide) ?_; conv => whnf)
  have hf1 : ∀ j, j ≠ b → (zup g b (4 : Nat) (g b (4 : Nat) + 1)) j = g j := fun j a => zup_ne a
  generalize (zup g b (4 : Nat) (g b (4 : Nat) + 1)) = g1 at *
  have hs1 : ∀ j : Int, j ≠ 6 → ru s 6 (s 6 + 1) j = s j := fun j hj => ru_n hj
  (refine c_resultFor hk hr1 (hag.ok hok) (hsym.ag hn hag) hm (by rw [hs1 7 (by omega)]; exact h7) hkm (i := i) (o := o) (by unfold nd; rw [hs1 _ (by omega)]; exact hi) (by unfold nd; rw [hs1 _ (by omega)]; exact ho') hil hol (fun g2 hf2 hr2 => ?_); conv => whnf)
  have hnd3 : nd (ru s 6 (s 6 + 1)) k 3 = nd s k 3 := hs1 _ (by omega)
  rw [hnd3] at hr2 ⊢
  unfold mrow at hr2
  unfold mrs
  rw [hs1 7 (by omega), ← ag_heel hag hn hok.pos, ← ag_w hag hn] at hr2 ⊢
  unfold mtakes at hQ
  rw [hii, hoo] at hQ
  have hff : ∀ j, j ≠ b → j ≠ b + 6 → j ≠ b + 6 + 1 → g2 j = g j := fun j a _ _ => by rw [hf2 j a, hf1 j a]
  have set : ∀ (g3 : zM) (s3 : zS) (m' w : Nat) (Q' : zP), RelC g3 b s3 n m' → m' ≤ 400 → k < m' → w < 4096 → (∀ x, RelC (zup g3 (b + 6 + 1) k x) b (ru s3 (45 + 7 * k + 4) w) n m' → Q' none (zup g3 (b + 6 + 1) k x)) → zC (d + 5) 34 [zR (b + 6), zI k, zI w] g3 Q' := by
    intro g3 s3 m' w Q' hr3 hm' hk' hw hQ'
    obtain ⟨u, hu⟩ := hr3.2.1.2 k hk'
    exact c_settle hkn (by omega) ⟨u, hu⟩ hw (fun x hx => hQ' x (hr3.settle hn hk' hx))
  by_cases c1 : nd s k 3 ≤ s 7
  · rw [if_pos c1] at hQ hr2 ⊢
    (refine And.intro (by first | omega | assumption | rfl | exact zin_and | exact ⟨zin_and, by omega⟩ | exact ⟨by omega, zin_and⟩ | exact Nat.le_of_ble_eq_true rfl | exact ⟨Nat.le_of_ble_eq_true rfl, rfl⟩ | exact ⟨Nat.le_of_ble_eq_true rfl, by assumption⟩ | exact ⟨by omega, Nat.le_of_ble_eq_true rfl⟩ | exact ⟨⟨by assumption, by omega⟩, Nat.le_of_ble_eq_true rfl⟩ | decide) ?_; conv => whnf)
    (refine And.intro (fun h => ?_) (fun h => by omega); conv => whnf)
    (refine hK _ _ _ _ (zW.go (zC_om _) (fun K hK => ?_)); conv => whnf)
    (refine And.intro (by first | omega | assumption | rfl | exact zin_and | exact ⟨zin_and, by omega⟩ | exact ⟨by omega, zin_and⟩ | exact Nat.le_of_ble_eq_true rfl | exact ⟨Nat.le_of_ble_eq_true rfl, rfl⟩ | exact ⟨Nat.le_of_ble_eq_true rfl, by assumption⟩ | exact ⟨by omega, Nat.le_of_ble_eq_true rfl⟩ | exact ⟨⟨by assumption, by omega⟩, Nat.le_of_ble_eq_true rfl⟩ | decide) ?_; conv => whnf)
    (refine And.intro (by first | omega | assumption | rfl | exact zin_and | exact ⟨zin_and, by omega⟩ | exact ⟨by omega, zin_and⟩ | exact Nat.le_of_ble_eq_true rfl | exact ⟨Nat.le_of_ble_eq_true rfl, rfl⟩ | exact ⟨Nat.le_of_ble_eq_true rfl, by assumption⟩ | exact ⟨by omega, Nat.le_of_ble_eq_true rfl⟩ | exact ⟨⟨by assumption, by omega⟩, Nat.le_of_ble_eq_true rfl⟩ | decide) ?_; conv => whnf)
    (refine set g2 _ m 1 _ hr2 hm hkm (by omega) (fun x hx => ?_); conv => whnf)
    (refine And.intro (by first | omega | assumption | rfl | exact zin_and | exact ⟨zin_and, by omega⟩ | exact ⟨by omega, zin_and⟩ | exact Nat.le_of_ble_eq_true rfl | exact ⟨Nat.le_of_ble_eq_true rfl, rfl⟩ | exact ⟨Nat.le_of_ble_eq_true rfl, by assumption⟩ | exact ⟨by omega, Nat.le_of_ble_eq_true rfl⟩ | exact ⟨⟨by assumption, by omega⟩, Nat.le_of_ble_eq_true rfl⟩ | decide) ?_; conv => whnf)
    refine hQ _ (fun j e1 e2 e3 => ?_) (fun _ => ?_)
    · rw [zup_ne e3, hff j e1 e2 e3]
    · rw [if_neg (show ¬ (1 : Int) = 4 by decide)]
      exact hx
  · rw [if_neg c1] at hQ hr2 ⊢
    have e2 : (if s 7 < bsum s 9 (mheel s n i o) n then ru (ru (ru s 6 (s 6 + 1)) 7 (bsum s 9 (mheel s n i o) n)) 8 (mheel s n i o : Nat) else ru s 6 (s 6 + 1)) = mtk2 s n k := by
      unfold mtk2
      rw [hii, hoo]
    rw [e2] at hr2
    by_cases c2 : nd s k 3 ≤ bsum s 9 (mheel s n i o) n
    · rw [if_pos c2] at hQ ⊢
      (refine And.intro (by first | omega | assumption | rfl | exact zin_and | exact ⟨zin_and, by omega⟩ | exact ⟨by omega, zin_and⟩ | exact Nat.le_of_ble_eq_true rfl | exact ⟨Nat.le_of_ble_eq_true rfl, rfl⟩ | exact ⟨Nat.le_of_ble_eq_true rfl, by assumption⟩ | exact ⟨by omega, Nat.le_of_ble_eq_true rfl⟩ | exact ⟨⟨by assumption, by omega⟩, Nat.le_of_ble_eq_true rfl⟩ | decide) ?_; conv => whnf)
      (refine And.intro (fun h => ?_) (fun h => by omega); conv => whnf)
      (refine hK _ _ _ _ (zW.go (zC_om _) (fun K hK => ?_)); conv => whnf)
      (refine And.intro (by first | omega | assumption | rfl | exact zin_and | exact ⟨zin_and, by omega⟩ | exact ⟨by omega, zin_and⟩ | exact Nat.le_of_ble_eq_true rfl | exact ⟨Nat.le_of_ble_eq_true rfl, rfl⟩ | exact ⟨Nat.le_of_ble_eq_true rfl, by assumption⟩ | exact ⟨by omega, Nat.le_of_ble_eq_true rfl⟩ | exact ⟨⟨by assumption, by omega⟩, Nat.le_of_ble_eq_true rfl⟩ | decide) ?_; conv => whnf)
      (refine And.intro (by first | omega | assumption | rfl | exact zin_and | exact ⟨zin_and, by omega⟩ | exact ⟨by omega, zin_and⟩ | exact Nat.le_of_ble_eq_true rfl | exact ⟨Nat.le_of_ble_eq_true rfl, rfl⟩ | exact ⟨Nat.le_of_ble_eq_true rfl, by assumption⟩ | exact ⟨by omega, Nat.le_of_ble_eq_true rfl⟩ | exact ⟨⟨by assumption, by omega⟩, Nat.le_of_ble_eq_true rfl⟩ | decide) ?_; conv => whnf)
      (refine set g2 _ m 2 _ hr2 hm hkm (by omega) (fun x hx => ?_); conv => whnf)
      (refine And.intro (by first | omega | assumption | rfl | exact zin_and | exact ⟨zin_and, by omega⟩ | exact ⟨by omega, zin_and⟩ | exact Nat.le_of_ble_eq_true rfl | exact ⟨Nat.le_of_ble_eq_true rfl, rfl⟩ | exact ⟨Nat.le_of_ble_eq_true rfl, by assumption⟩ | exact ⟨by omega, Nat.le_of_ble_eq_true rfl⟩ | exact ⟨⟨by assumption, by omega⟩, Nat.le_of_ble_eq_true rfl⟩ | decide) ?_; conv => whnf)
      refine hQ _ (fun j e1 e2 e3 => ?_) (fun _ => ?_)
      · rw [zup_ne e3, hff j e1 e2 e3]
      · rw [if_neg (show ¬ (2 : Int) = 4 by decide)]
        exact hx
    · rw [if_neg c2] at hQ ⊢
      have hm1 : g2 (b + 6) (1 : Nat) = (m : Int) := hr2.2.1.1
      (refine And.intro (by first | omega | assumption | rfl | exact zin_and | exact ⟨zin_and, by omega⟩ | exact ⟨by omega, zin_and⟩ | exact Nat.le_of_ble_eq_true rfl | exact ⟨Nat.le_of_ble_eq_true rfl, rfl⟩ | exact ⟨Nat.le_of_ble_eq_true rfl, by assumption⟩ | exact ⟨by omega, Nat.le_of_ble_eq_true rfl⟩ | exact ⟨⟨by assumption, by omega⟩, Nat.le_of_ble_eq_true rfl⟩ | decide) ?_; conv => whnf)
      (refine And.intro (fun h => by omega) (fun h => ?_); conv => whnf)
      (refine And.intro (by first | omega | assumption | rfl | exact zin_and | exact ⟨zin_and, by omega⟩ | exact ⟨by omega, zin_and⟩ | exact Nat.le_of_ble_eq_true rfl | exact ⟨Nat.le_of_ble_eq_true rfl, rfl⟩ | exact ⟨Nat.le_of_ble_eq_true rfl, by assumption⟩ | exact ⟨by omega, Nat.le_of_ble_eq_true rfl⟩ | exact ⟨⟨by assumption, by omega⟩, Nat.le_of_ble_eq_true rfl⟩ | decide) ?_; conv => whnf)
      (refine And.intro (by first | omega | assumption | rfl | exact zin_and | exact ⟨zin_and, by omega⟩ | exact ⟨by omega, zin_and⟩ | exact Nat.le_of_ble_eq_true rfl | exact ⟨Nat.le_of_ble_eq_true rfl, rfl⟩ | exact ⟨Nat.le_of_ble_eq_true rfl, by assumption⟩ | exact ⟨by omega, Nat.le_of_ble_eq_true rfl⟩ | exact ⟨⟨by assumption, by omega⟩, Nat.le_of_ble_eq_true rfl⟩ | decide) ?_; conv => whnf)
      rw [hm1]
      (refine And.intro (by first | omega | assumption | rfl | exact zin_and | exact ⟨zin_and, by omega⟩ | exact ⟨by omega, zin_and⟩ | exact Nat.le_of_ble_eq_true rfl | exact ⟨Nat.le_of_ble_eq_true rfl, rfl⟩ | exact ⟨Nat.le_of_ble_eq_true rfl, by assumption⟩ | exact ⟨by omega, Nat.le_of_ble_eq_true rfl⟩ | exact ⟨⟨by assumption, by omega⟩, Nat.le_of_ble_eq_true rfl⟩ | decide) ?_; conv => whnf)
      by_cases c3 : 400 < s 5 + 2
      · rw [if_pos c3] at hQ
        (refine And.intro (fun h => by omega) (fun h => ?_); conv => whnf)
        (refine And.intro (by first | omega | assumption | rfl | exact zin_and | exact ⟨zin_and, by omega⟩ | exact ⟨by omega, zin_and⟩ | exact Nat.le_of_ble_eq_true rfl | exact ⟨Nat.le_of_ble_eq_true rfl, rfl⟩ | exact ⟨Nat.le_of_ble_eq_true rfl, by assumption⟩ | exact ⟨by omega, Nat.le_of_ble_eq_true rfl⟩ | exact ⟨⟨by assumption, by omega⟩, Nat.le_of_ble_eq_true rfl⟩ | decide) ?_; conv => whnf)
        exact hQ _ hff (fun w => absurd rfl w)
      · rw [if_neg c3] at hQ
        obtain ⟨t, ht, htn, hbt⟩ := mbranch_free (c := s 3) hok hps (by rw [← h3]; exact c2)
        obtain ⟨-, hti, hto⟩ := mfree_free hbt
        have h2t : 2 ^ t < 2 ^ n := Nat.pow_lt_pow_right (by decide) htn
        have hag2 : magr s (mtk2 s n k) := mtk2_ag
        have hok2 := hag2.ok hok
        have hsym2 := hsym.ag hn hag2
        have hcc : g2 b (3 : Nat) = s 3 := by rw [hr2.2.2.2.1, mtk2_old (by omega)]
        have hi2 : nd (mtk2 s n k) k 5 = (i : Int) := by unfold nd; rw [mtk2_old (by omega)]; exact hi
        have ho2 : nd (mtk2 s n k) k 6 = (o : Int) := by unfold nd; rw [mtk2_old (by omega)]; exact ho'
        have h52 : mtk2 s n k 5 = (m : Int) := by rw [mtk2_old (by omega), hm5]
        have h72 := mtk2_7 (k := k) hok h7
        (refine And.intro (fun h => ?_) (fun h => by omega); conv => whnf)
        (refine hK _ _ _ _ (zW.go (zC_om _) (fun K hK => ?_)); conv => whnf)
        (refine And.intro (by first | omega | assumption | rfl | exact zin_and | exact ⟨zin_and, by omega⟩ | exact ⟨by omega, zin_and⟩ | exact Nat.le_of_ble_eq_true rfl | exact ⟨Nat.le_of_ble_eq_true rfl, rfl⟩ | exact ⟨Nat.le_of_ble_eq_true rfl, by assumption⟩ | exact ⟨by omega, Nat.le_of_ble_eq_true rfl⟩ | exact ⟨⟨by assumption, by omega⟩, Nat.le_of_ble_eq_true rfl⟩ | decide) ?_; conv => whnf)
        (refine And.intro (by first | omega | assumption | rfl | exact zin_and | exact ⟨zin_and, by omega⟩ | exact ⟨by omega, zin_and⟩ | exact Nat.le_of_ble_eq_true rfl | exact ⟨Nat.le_of_ble_eq_true rfl, rfl⟩ | exact ⟨Nat.le_of_ble_eq_true rfl, by assumption⟩ | exact ⟨by omega, Nat.le_of_ble_eq_true rfl⟩ | exact ⟨⟨by assumption, by omega⟩, Nat.le_of_ble_eq_true rfl⟩ | decide) ?_; conv => whnf)
        (refine c_in hkn hr2.2.1 hm hkm ?_; conv => whnf)
        rw [hi2]
        (refine And.intro (by first | omega | assumption | rfl | exact zin_and | exact ⟨zin_and, by omega⟩ | exact ⟨by omega, zin_and⟩ | exact Nat.le_of_ble_eq_true rfl | exact ⟨Nat.le_of_ble_eq_true rfl, rfl⟩ | exact ⟨Nat.le_of_ble_eq_true rfl, by assumption⟩ | exact ⟨by omega, Nat.le_of_ble_eq_true rfl⟩ | exact ⟨⟨by assumption, by omega⟩, Nat.le_of_ble_eq_true rfl⟩ | decide) ?_; conv => whnf)
        (refine And.intro (by first | omega | assumption | rfl | exact zin_and | exact ⟨zin_and, by omega⟩ | exact ⟨by omega, zin_and⟩ | exact Nat.le_of_ble_eq_true rfl | exact ⟨Nat.le_of_ble_eq_true rfl, rfl⟩ | exact ⟨Nat.le_of_ble_eq_true rfl, by assumption⟩ | exact ⟨by omega, Nat.le_of_ble_eq_true rfl⟩ | exact ⟨⟨by assumption, by omega⟩, Nat.le_of_ble_eq_true rfl⟩ | decide) ?_; conv => whnf)
        (refine c_out hkn hr2.2.1 hm hkm ?_; conv => whnf)
        rw [ho2]
        (refine And.intro (by first | omega | assumption | rfl | exact zin_and | exact ⟨zin_and, by omega⟩ | exact ⟨by omega, zin_and⟩ | exact Nat.le_of_ble_eq_true rfl | exact ⟨Nat.le_of_ble_eq_true rfl, rfl⟩ | exact ⟨Nat.le_of_ble_eq_true rfl, by assumption⟩ | exact ⟨by omega, Nat.le_of_ble_eq_true rfl⟩ | exact ⟨⟨by assumption, by omega⟩, Nat.le_of_ble_eq_true rfl⟩ | decide) ?_; conv => whnf)
        (refine And.intro (by first | omega | assumption | rfl | exact zin_and | exact ⟨zin_and, by omega⟩ | exact ⟨by omega, zin_and⟩ | exact Nat.le_of_ble_eq_true rfl | exact ⟨Nat.le_of_ble_eq_true rfl, rfl⟩ | exact ⟨Nat.le_of_ble_eq_true rfl, by assumption⟩ | exact ⟨by omega, Nat.le_of_ble_eq_true rfl⟩ | exact ⟨⟨by assumption, by omega⟩, Nat.le_of_ble_eq_true rfl⟩ | decide) ?_; conv => whnf)
        rw [hcc]
        (refine And.intro (by first | omega | assumption | rfl | exact zin_and | exact ⟨zin_and, by omega⟩ | exact ⟨by omega, zin_and⟩ | exact Nat.le_of_ble_eq_true rfl | exact ⟨Nat.le_of_ble_eq_true rfl, rfl⟩ | exact ⟨Nat.le_of_ble_eq_true rfl, by assumption⟩ | exact ⟨by omega, Nat.le_of_ble_eq_true rfl⟩ | exact ⟨⟨by assumption, by omega⟩, Nat.le_of_ble_eq_true rfl⟩ | decide) ?_; conv => whnf)
        (refine c_branch hkb hr2.1 hok2 hsym2 hil hol h3r ?_; conv => whnf)
        rw [← ag_branch hag2 hn hok.pos, ht]
        rw [zone_shl (by omega), zor_nat (by omega) (by omega)]
        have hot : o ||| 2 ^ t < 2 ^ n := Nat.or_lt_two_pow hol h2t
        have hit : i ||| 2 ^ t < 2 ^ n := Nat.or_lt_two_pow hil h2t
        (refine And.intro (by first | omega | assumption | rfl | exact zin_and | exact ⟨zin_and, by omega⟩ | exact ⟨by omega, zin_and⟩ | exact Nat.le_of_ble_eq_true rfl | exact ⟨Nat.le_of_ble_eq_true rfl, rfl⟩ | exact ⟨Nat.le_of_ble_eq_true rfl, by assumption⟩ | exact ⟨by omega, Nat.le_of_ble_eq_true rfl⟩ | exact ⟨⟨by assumption, by omega⟩, Nat.le_of_ble_eq_true rfl⟩ | decide) ?_; conv => whnf)
        (refine c_makeChild (bb := 0) hk hr2 hok2 hsym2 h52 (by omega) (by omega) h72 (by omega) (by omega) hil hot (fun g3 hf3 hr3 => ?_); conv => whnf)
        have hag3 : magr (mtk2 s n k) (mmk (mtk2 s n k) n k t 0 i (o ||| 2 ^ t)) := mmk_ag h52
        rw [zone_shl (by omega), zor_nat (by omega) (by omega)]
        (refine And.intro (by first | omega | assumption | rfl | exact zin_and | exact ⟨zin_and, by omega⟩ | exact ⟨by omega, zin_and⟩ | exact Nat.le_of_ble_eq_true rfl | exact ⟨Nat.le_of_ble_eq_true rfl, rfl⟩ | exact ⟨Nat.le_of_ble_eq_true rfl, by assumption⟩ | exact ⟨by omega, Nat.le_of_ble_eq_true rfl⟩ | exact ⟨⟨by assumption, by omega⟩, Nat.le_of_ble_eq_true rfl⟩ | decide) ?_; conv => whnf)
        (refine c_makeChild (m := m + 1) (bb := 1) hk hr3 (hag3.ok hok2) (hsym2.ag hn hag3) (by rw [mmk_5, h52]; omega) (by omega) (by omega) (by rw [mmk_old h52 (by omega)]; exact h72) (by omega) (by omega) hit hol (fun g4 hf4 hr4 => ?_); conv => whnf)
        (refine And.intro (by first | omega | assumption | rfl | exact zin_and | exact ⟨zin_and, by omega⟩ | exact ⟨by omega, zin_and⟩ | exact Nat.le_of_ble_eq_true rfl | exact ⟨Nat.le_of_ble_eq_true rfl, rfl⟩ | exact ⟨Nat.le_of_ble_eq_true rfl, by assumption⟩ | exact ⟨by omega, Nat.le_of_ble_eq_true rfl⟩ | exact ⟨⟨by assumption, by omega⟩, Nat.le_of_ble_eq_true rfl⟩ | decide) ?_; conv => whnf)
        (refine And.intro (by first | omega | assumption | rfl | exact zin_and | exact ⟨zin_and, by omega⟩ | exact ⟨by omega, zin_and⟩ | exact Nat.le_of_ble_eq_true rfl | exact ⟨Nat.le_of_ble_eq_true rfl, rfl⟩ | exact ⟨Nat.le_of_ble_eq_true rfl, by assumption⟩ | exact ⟨by omega, Nat.le_of_ble_eq_true rfl⟩ | exact ⟨⟨by assumption, by omega⟩, Nat.le_of_ble_eq_true rfl⟩ | decide) ?_; conv => whnf)
        (refine set g4 _ (m + 1 + 1) 4 _ hr4 (by omega) (by omega) (by omega) (fun x hx => ?_); conv => whnf)
        (refine And.intro (by first | omega | assumption | rfl | exact zin_and | exact ⟨zin_and, by omega⟩ | exact ⟨by omega, zin_and⟩ | exact Nat.le_of_ble_eq_true rfl | exact ⟨Nat.le_of_ble_eq_true rfl, rfl⟩ | exact ⟨Nat.le_of_ble_eq_true rfl, by assumption⟩ | exact ⟨by omega, Nat.le_of_ble_eq_true rfl⟩ | exact ⟨⟨by assumption, by omega⟩, Nat.le_of_ble_eq_true rfl⟩ | decide) ?_; conv => whnf)
        refine hQ _ (fun j e1 e2 e3 => ?_) (fun _ => ?_)
        · rw [zup_ne e3, hf4 j e2 e3, hf3 j e2 e3, hff j e1 e2 e3]
        · rw [if_pos rfl]
          have e4 : mtk4 s n k = ru (mmk (mmk (mtk2 s n k) n k t 0 i (o ||| 2 ^ t)) n k t 1 (i ||| 2 ^ t) o) (45 + 7 * k + 4) 4 := by
            unfold mtk4
            rw [hii, hoo, ht, Int.toNat_natCast]
            have q1 := mmk_ru (par := k) (th := t) (bb := 0) (i := i) (o := o ||| 2 ^ t) (a := 45 + 7 * k + 4) (v := 4) hok2 h52 (by omega) (by omega)
            have q2 := mmk_ru (par := k) (th := t) (bb := 1) (i := i ||| 2 ^ t) (o := o) (a := 45 + 7 * k + 4) (v := 4) (m := m + 1) (hag3.ok hok2) (by rw [mmk_5, h52]; omega) (by omega) (by omega)
            rw [q1, q2]
          rw [e4]
          exact hx
end CT
end
section
/-! the class puts its things in order -/
/-- a bag whose order is not yet made -/
def RelU (g : zM) (k : Nat) (s : zS) (n : Nat) : Prop := g k (4 : Nat) = (n : Int) ∧ g k (5 : Nat) = s 1 ∧ ∀ t : Nat, t < n → g (k + 1) t = s (9 + t) ∧ g (k + 2) t = s (21 + t) ∧ g (k + 3) t = s (33 + t)
theorem RelB.U {g : zM} {k : Nat} {s : zS} {n : Nat} (h : RelB g k s n) : RelU g k s n := ⟨h.1, h.2.1, fun t ht => ⟨(h.2.2 t ht).1, (h.2.2 t ht).2.1, (h.2.2 t ht).2.2.1⟩⟩
theorem mah_later {s : zS} {k t : Nat} (h : t < k) : mah s k t = true ↔ s (9 + t) * s (21 + k) < s (9 + k) * s (21 + t) := by
  rw [mah_iff]
  constructor
  · rintro (h1 | ⟨-, h1⟩)
    · exact h1
    · omega
  · exact Or.inl
theorem mpl_succ {s : zS} {t u : Nat} : mpl s (t + 1) u = mpl s t u + if mah s t u = true then 1 else 0 := rfl
/-- a thing goes in where it belongs -/
theorem mor_in {s : zS} {t p : Nat} (hp : mpos s (t + 1)) (hpt : p ≤ t) (h1 : ∀ j, p ≤ j → j < t → mah s t (mor s t j) = true) (h2 : p = 0 ∨ mah s t (mor s t (p - 1)) = false) (j : Nat) (hj : j ≤ t) : (mor s (t + 1) j : Nat) = if j < p then mor s t j else if j = p then t else mor s t (j - 1) := by
  have hpt' : mpos s t := fun u hu => hp u (by omega)
  have low : ∀ i, i < p → mah s t (mor s t i) = false := by
    intro i hi
    rcases h2 with h2 | h2
    · omega
    · by_cases e : i = p - 1
      · rw [e]; exact h2
      · have a1 := mor_spec hpt' (show i < t by omega)
        have a2 := mor_spec hpt' (show p - 1 < t by omega)
        cases hm : mah s t (mor s t i) with
        | false => rfl
        | true =>
          exfalso
          have b1 : mah s (mor s t i) (mor s t (p - 1)) = true := by
            rcases mah_tot (s := s) (k := mor s t i) (t := mor s t (p - 1)) (fun w => by have := mor_inj hpt' (by omega) (by omega) w; omega) with w | w
            · exact w
            · have := mpl_mono hpt' a2.1 a1.1 w
              omega
          have b2 := mah_trans hp (show t < t + 1 by omega) (show mor s t i < t + 1 by omega) (show mor s t (p - 1) < t + 1 by omega) hm b1
          rw [h2] at b2
          exact absurd b2 (by decide)
  have pos : ∀ i, i < t → mpl s (t + 1) (mor s t i) = if i < p then i else i + 1 := by
    intro i hi
    have a1 := mor_spec hpt' hi
    rw [mpl_succ, a1.2]
    by_cases e : i < p
    · rw [low i e, if_pos e, if_neg (by decide), Nat.add_zero]
    · rw [h1 i (by omega) hi, if_neg e, if_pos rfl]
  have hv := mor_spec hp (show j < t + 1 by omega)
  have hback : ∀ i, i < t → mor s (t + 1) (if i < p then i else i + 1) = mor s t i := by
    intro i hi
    rw [← pos i hi]
    exact mor_pl hp (by have := (mor_spec hpt' hi).1; omega)
  by_cases c1 : j < p
  · have := hback j (by omega)
    rw [if_pos c1] at this
    rw [if_pos c1, this]
  · rw [if_neg c1]
    by_cases c2 : j = p
    · rw [if_pos c2]
      by_cases c3 : mor s (t + 1) j < t
      · exfalso
        have i1 := mpl_lt (s := s) c3
        have i2 := mor_pl hpt' c3
        have i3 := pos _ i1
        rw [i2, hv.2] at i3
        split at i3 <;> omega
      · omega
    · have := hback (j - 1) (by omega)
      rw [if_neg (by omega), show j - 1 + 1 = j by omega] at this
      rw [if_neg c2, this]
section CO
variable {g : zM} {k n : Nat} {s : zS} {d : Nat} {Q : zP}
theorem c_knows (hk : zKB k) (hn : g k (4 : Nat) = (n : Int)) (hn12 : n ≤ 12) {t : Int} (ht : zin t) (hQ : Q (some (zI (if 0 ≤ t ∧ t < n then 1 else 0))) g) : zC (d + 1) 1 [zR k, zI t] g Q := by
  obtain ⟨hk0, -⟩ := id hk
  refine zC.go zm_X0_knows ⟨rfl, rfl⟩ rfl ?_
  (refine zW.go (zC_om _) (fun K hK => ?_); conv => whnf)
  (repeat' first | (refine hK _ _ _ _ (zW.go (zC_om _) (fun K hK => ?_)); conv => whnf) | (refine And.intro (by first | omega | assumption | rfl | exact zin_and | exact ⟨zin_and, by omega⟩ | exact ⟨by omega, zin_and⟩ | exact Nat.le_of_ble_eq_true rfl | exact ⟨Nat.le_of_ble_eq_true rfl, rfl⟩ | exact ⟨Nat.le_of_ble_eq_true rfl, by assumption⟩ | exact ⟨by omega, Nat.le_of_ble_eq_true rfl⟩ | exact ⟨⟨by assumption, by omega⟩, Nat.le_of_ble_eq_true rfl⟩ | decide) ?_; conv => whnf) | (refine And.intro (fun h => ?_) (fun h => ?_) <;> conv => whnf) | (intro h; conv => whnf))
  all_goals (refine zQe hQ ?_; split <;> omega)
theorem mprod {s : zS} {n t u : Nat} (hok : mok s n) (ht : t < n) (hu : u < n) : 0 ≤ s (9 + t) * s (21 + u) ∧ s (9 + t) * s (21 + u) ≤ 4950 := by
  have a := (hok.2.2.2 t ht).1
  have b := (hok.2.2.2 u hu).2.1
  constructor
  · exact Int.mul_nonneg (by omega) (by omega)
  · have := Int.mul_le_mul a.2 b.2 (by omega) (by omega)
    omega
theorem c_isAhead (hk : zKB k) (hr : RelU g k s n) (hok : mok s n) {t u : Nat} (ht : t < n) (hu : u < t) (hQ : Q (some (zI (zb (mah s t u)))) g) : zC (d + 2) 7 [zR k, zI t, zI u] g Q := by
  obtain ⟨hk0, -⟩ := id hk
  have hn := hok.2.1
  obtain ⟨a1, a2, -⟩ := hr.2.2 t ht
  obtain ⟨b1, b2, -⟩ := hr.2.2 u (by omega)
  have p1 := mprod hok ht (show u < n by omega)
  have p2 := mprod hok (show u < n by omega) ht
  refine zC.go zm_X0_isAhead ⟨rfl, rfl⟩ rfl ?_
  (refine zW.go (zC_om _) (fun K hK => ?_); conv => whnf)
  (refine And.intro (by first | omega | assumption | rfl | exact zin_and | exact ⟨zin_and, by omega⟩ | exact ⟨by omega, zin_and⟩ | exact Nat.le_of_ble_eq_true rfl | exact ⟨Nat.le_of_ble_eq_true rfl, rfl⟩ | exact ⟨Nat.le_of_ble_eq_true rfl, by assumption⟩ | exact ⟨by omega, Nat.le_of_ble_eq_true rfl⟩ | exact ⟨⟨by assumption, by omega⟩, Nat.le_of_ble_eq_true rfl⟩ | decide) ?_; conv => whnf)
  (refine And.intro (by first | omega | assumption | rfl | exact zin_and | exact ⟨zin_and, by omega⟩ | exact ⟨by omega, zin_and⟩ | exact Nat.le_of_ble_eq_true rfl | exact ⟨Nat.le_of_ble_eq_true rfl, rfl⟩ | exact ⟨Nat.le_of_ble_eq_true rfl, by assumption⟩ | exact ⟨by omega, Nat.le_of_ble_eq_true rfl⟩ | exact ⟨⟨by assumption, by omega⟩, Nat.le_of_ble_eq_true rfl⟩ | decide) ?_; conv => whnf)
  (refine c_at hk.2.1 (by omega) a1 ?_; conv => whnf)
  (refine And.intro (by first | omega | assumption | rfl | exact zin_and | exact ⟨zin_and, by omega⟩ | exact ⟨by omega, zin_and⟩ | exact Nat.le_of_ble_eq_true rfl | exact ⟨Nat.le_of_ble_eq_true rfl, rfl⟩ | exact ⟨Nat.le_of_ble_eq_true rfl, by assumption⟩ | exact ⟨by omega, Nat.le_of_ble_eq_true rfl⟩ | exact ⟨⟨by assumption, by omega⟩, Nat.le_of_ble_eq_true rfl⟩ | decide) ?_; conv => whnf)
  (refine And.intro (by first | omega | assumption | rfl | exact zin_and | exact ⟨zin_and, by omega⟩ | exact ⟨by omega, zin_and⟩ | exact Nat.le_of_ble_eq_true rfl | exact ⟨Nat.le_of_ble_eq_true rfl, rfl⟩ | exact ⟨Nat.le_of_ble_eq_true rfl, by assumption⟩ | exact ⟨by omega, Nat.le_of_ble_eq_true rfl⟩ | exact ⟨⟨by assumption, by omega⟩, Nat.le_of_ble_eq_true rfl⟩ | decide) ?_; conv => whnf)
  (refine c_at hk.2.2.1 (by omega) b2 ?_; conv => whnf)
  (refine And.intro (by first | omega | assumption | rfl | exact zin_and | exact ⟨zin_and, by omega⟩ | exact ⟨by omega, zin_and⟩ | exact Nat.le_of_ble_eq_true rfl | exact ⟨Nat.le_of_ble_eq_true rfl, rfl⟩ | exact ⟨Nat.le_of_ble_eq_true rfl, by assumption⟩ | exact ⟨by omega, Nat.le_of_ble_eq_true rfl⟩ | exact ⟨⟨by assumption, by omega⟩, Nat.le_of_ble_eq_true rfl⟩ | decide) ?_; conv => whnf)
  (refine And.intro (by first | omega | assumption | rfl | exact zin_and | exact ⟨zin_and, by omega⟩ | exact ⟨by omega, zin_and⟩ | exact Nat.le_of_ble_eq_true rfl | exact ⟨Nat.le_of_ble_eq_true rfl, rfl⟩ | exact ⟨Nat.le_of_ble_eq_true rfl, by assumption⟩ | exact ⟨by omega, Nat.le_of_ble_eq_true rfl⟩ | exact ⟨⟨by assumption, by omega⟩, Nat.le_of_ble_eq_true rfl⟩ | decide) ?_; conv => whnf)
  (refine c_at hk.2.1 (by omega) b1 ?_; conv => whnf)
  (refine And.intro (by first | omega | assumption | rfl | exact zin_and | exact ⟨zin_and, by omega⟩ | exact ⟨by omega, zin_and⟩ | exact Nat.le_of_ble_eq_true rfl | exact ⟨Nat.le_of_ble_eq_true rfl, rfl⟩ | exact ⟨Nat.le_of_ble_eq_true rfl, by assumption⟩ | exact ⟨by omega, Nat.le_of_ble_eq_true rfl⟩ | exact ⟨⟨by assumption, by omega⟩, Nat.le_of_ble_eq_true rfl⟩ | decide) ?_; conv => whnf)
  (refine And.intro (by first | omega | assumption | rfl | exact zin_and | exact ⟨zin_and, by omega⟩ | exact ⟨by omega, zin_and⟩ | exact Nat.le_of_ble_eq_true rfl | exact ⟨Nat.le_of_ble_eq_true rfl, rfl⟩ | exact ⟨Nat.le_of_ble_eq_true rfl, by assumption⟩ | exact ⟨by omega, Nat.le_of_ble_eq_true rfl⟩ | exact ⟨⟨by assumption, by omega⟩, Nat.le_of_ble_eq_true rfl⟩ | decide) ?_; conv => whnf)
  (refine c_at hk.2.2.1 (by omega) a2 ?_; conv => whnf)
  (refine And.intro (by first | omega | assumption | rfl | exact zin_and | exact ⟨zin_and, by omega⟩ | exact ⟨by omega, zin_and⟩ | exact Nat.le_of_ble_eq_true rfl | exact ⟨Nat.le_of_ble_eq_true rfl, rfl⟩ | exact ⟨Nat.le_of_ble_eq_true rfl, by assumption⟩ | exact ⟨by omega, Nat.le_of_ble_eq_true rfl⟩ | exact ⟨⟨by assumption, by omega⟩, Nat.le_of_ble_eq_true rfl⟩ | decide) ?_; conv => whnf)
  by_cases h : s (9 + u) * s (21 + t) < s (9 + t) * s (21 + u)
  · rw [(mah_later hu).2 h] at hQ
    (refine And.intro (fun h => by omega) (fun h => ?_); conv => whnf)
    (repeat' first | (refine hK _ _ _ _ (zW.go (zC_om _) (fun K hK => ?_)); conv => whnf) | (refine And.intro (by first | omega | assumption | rfl | exact zin_and | exact ⟨zin_and, by omega⟩ | exact ⟨by omega, zin_and⟩ | exact Nat.le_of_ble_eq_true rfl | exact ⟨Nat.le_of_ble_eq_true rfl, rfl⟩ | exact ⟨Nat.le_of_ble_eq_true rfl, by assumption⟩ | exact ⟨by omega, Nat.le_of_ble_eq_true rfl⟩ | exact ⟨⟨by assumption, by omega⟩, Nat.le_of_ble_eq_true rfl⟩ | decide) ?_; conv => whnf) | (refine And.intro (fun h => ?_) (fun h => ?_) <;> conv => whnf) | (intro h; conv => whnf))
    exact hQ
  · have : mah s t u = false := by
      cases hm : mah s t u with
      | false => rfl
      | true => exact absurd ((mah_later hu).1 hm) h
    rw [this] at hQ
    (refine And.intro (fun h => ?_) (fun h => by omega); conv => whnf)
    (repeat' first | (refine hK _ _ _ _ (zW.go (zC_om _) (fun K hK => ?_)); conv => whnf) | (refine And.intro (by first | omega | assumption | rfl | exact zin_and | exact ⟨zin_and, by omega⟩ | exact ⟨by omega, zin_and⟩ | exact Nat.le_of_ble_eq_true rfl | exact ⟨Nat.le_of_ble_eq_true rfl, rfl⟩ | exact ⟨Nat.le_of_ble_eq_true rfl, by assumption⟩ | exact ⟨by omega, Nat.le_of_ble_eq_true rfl⟩ | exact ⟨⟨by assumption, by omega⟩, Nat.le_of_ble_eq_true rfl⟩ | decide) ?_; conv => whnf) | (refine And.intro (fun h => ?_) (fun h => ?_) <;> conv => whnf) | (intro h; conv => whnf))
    exact hQ
theorem c_placeOf (hk : zKB k) (hr : RelB g k s n) (hok : mok s n) {t : Nat} (ht : t < n) (hQ : Q (some (zI (mpl s n t : Nat))) g) : zC (d + 2) 8 [zR k, zI t] g Q := by
  obtain ⟨hk0, -⟩ := id hk
  have hn := hok.2.1
  have hn4 := hr.1
  have hp := hok.pos
  refine zC.go zm_X0_placeOf ⟨rfl, rfl⟩ rfl ?_
  (refine zW.upto (zC_om _) 2 (fun K hK => ?_); conv => whnf)
  have go : ∀ (r j : Nat), j + r = mpl s n t → zW zX0_placeOf (zC (d + 1)) Q 2 [zR k, zI t, zI j] [] g := by
    intro r
    have hlt := mpl_lt (s := s) ht
    induction r with
    | zero =>
      intro j e
      obtain ⟨-, -, -, a4⟩ := hr.2.2 j (by omega)
      have : mor s n j = t := by
        rw [show j = mpl s n t by omega]
        exact mor_pl hp ht
      rw [this] at a4
      (refine zW.go (zC_om _) (fun K hK => ?_); conv => whnf)
      (refine And.intro (by first | omega | assumption | rfl | exact zin_and | exact ⟨zin_and, by omega⟩ | exact ⟨by omega, zin_and⟩ | exact Nat.le_of_ble_eq_true rfl | exact ⟨Nat.le_of_ble_eq_true rfl, rfl⟩ | exact ⟨Nat.le_of_ble_eq_true rfl, by assumption⟩ | exact ⟨by omega, Nat.le_of_ble_eq_true rfl⟩ | exact ⟨⟨by assumption, by omega⟩, Nat.le_of_ble_eq_true rfl⟩ | decide) ?_; conv => whnf)
      (refine And.intro (by first | omega | assumption | rfl | exact zin_and | exact ⟨zin_and, by omega⟩ | exact ⟨by omega, zin_and⟩ | exact Nat.le_of_ble_eq_true rfl | exact ⟨Nat.le_of_ble_eq_true rfl, rfl⟩ | exact ⟨Nat.le_of_ble_eq_true rfl, by assumption⟩ | exact ⟨by omega, Nat.le_of_ble_eq_true rfl⟩ | exact ⟨⟨by assumption, by omega⟩, Nat.le_of_ble_eq_true rfl⟩ | decide) ?_; conv => whnf)
      (refine And.intro (fun h => by omega) (fun h => ?_); conv => whnf)
      (refine And.intro (by first | omega | assumption | rfl | exact zin_and | exact ⟨zin_and, by omega⟩ | exact ⟨by omega, zin_and⟩ | exact Nat.le_of_ble_eq_true rfl | exact ⟨Nat.le_of_ble_eq_true rfl, rfl⟩ | exact ⟨Nat.le_of_ble_eq_true rfl, by assumption⟩ | exact ⟨by omega, Nat.le_of_ble_eq_true rfl⟩ | exact ⟨⟨by assumption, by omega⟩, Nat.le_of_ble_eq_true rfl⟩ | decide) ?_; conv => whnf)
      (refine And.intro (by first | omega | assumption | rfl | exact zin_and | exact ⟨zin_and, by omega⟩ | exact ⟨by omega, zin_and⟩ | exact Nat.le_of_ble_eq_true rfl | exact ⟨Nat.le_of_ble_eq_true rfl, rfl⟩ | exact ⟨Nat.le_of_ble_eq_true rfl, by assumption⟩ | exact ⟨by omega, Nat.le_of_ble_eq_true rfl⟩ | exact ⟨⟨by assumption, by omega⟩, Nat.le_of_ble_eq_true rfl⟩ | decide) ?_; conv => whnf)
      (refine c_at hk.2.2.2.2 (by omega) a4 ?_; conv => whnf)
      (refine And.intro (by first | omega | assumption | rfl | exact zin_and | exact ⟨zin_and, by omega⟩ | exact ⟨by omega, zin_and⟩ | exact Nat.le_of_ble_eq_true rfl | exact ⟨Nat.le_of_ble_eq_true rfl, rfl⟩ | exact ⟨Nat.le_of_ble_eq_true rfl, by assumption⟩ | exact ⟨by omega, Nat.le_of_ble_eq_true rfl⟩ | exact ⟨⟨by assumption, by omega⟩, Nat.le_of_ble_eq_true rfl⟩ | decide) ?_; conv => whnf)
      (refine And.intro (fun h => by omega) (fun h => ?_); conv => whnf)
      (refine And.intro (by first | omega | assumption | rfl | exact zin_and | exact ⟨zin_and, by omega⟩ | exact ⟨by omega, zin_and⟩ | exact Nat.le_of_ble_eq_true rfl | exact ⟨Nat.le_of_ble_eq_true rfl, rfl⟩ | exact ⟨Nat.le_of_ble_eq_true rfl, by assumption⟩ | exact ⟨by omega, Nat.le_of_ble_eq_true rfl⟩ | exact ⟨⟨by assumption, by omega⟩, Nat.le_of_ble_eq_true rfl⟩ | decide) ?_; conv => whnf)
      refine zQe hQ ?_
      omega
    | succ r ih =>
      intro j e
      obtain ⟨-, -, -, a4⟩ := hr.2.2 j (by omega)
      have hsp := mor_spec hp (show j < n by omega)
      have : mor s n j ≠ t := fun w => by rw [w] at hsp; omega
      (refine zW.go (zC_om _) (fun K hK => ?_); conv => whnf)
      (refine And.intro (by first | omega | assumption | rfl | exact zin_and | exact ⟨zin_and, by omega⟩ | exact ⟨by omega, zin_and⟩ | exact Nat.le_of_ble_eq_true rfl | exact ⟨Nat.le_of_ble_eq_true rfl, rfl⟩ | exact ⟨Nat.le_of_ble_eq_true rfl, by assumption⟩ | exact ⟨by omega, Nat.le_of_ble_eq_true rfl⟩ | exact ⟨⟨by assumption, by omega⟩, Nat.le_of_ble_eq_true rfl⟩ | decide) ?_; conv => whnf)
      (refine And.intro (by first | omega | assumption | rfl | exact zin_and | exact ⟨zin_and, by omega⟩ | exact ⟨by omega, zin_and⟩ | exact Nat.le_of_ble_eq_true rfl | exact ⟨Nat.le_of_ble_eq_true rfl, rfl⟩ | exact ⟨Nat.le_of_ble_eq_true rfl, by assumption⟩ | exact ⟨by omega, Nat.le_of_ble_eq_true rfl⟩ | exact ⟨⟨by assumption, by omega⟩, Nat.le_of_ble_eq_true rfl⟩ | decide) ?_; conv => whnf)
      (refine And.intro (fun h => by omega) (fun h => ?_); conv => whnf)
      (refine And.intro (by first | omega | assumption | rfl | exact zin_and | exact ⟨zin_and, by omega⟩ | exact ⟨by omega, zin_and⟩ | exact Nat.le_of_ble_eq_true rfl | exact ⟨Nat.le_of_ble_eq_true rfl, rfl⟩ | exact ⟨Nat.le_of_ble_eq_true rfl, by assumption⟩ | exact ⟨by omega, Nat.le_of_ble_eq_true rfl⟩ | exact ⟨⟨by assumption, by omega⟩, Nat.le_of_ble_eq_true rfl⟩ | decide) ?_; conv => whnf)
      (refine And.intro (by first | omega | assumption | rfl | exact zin_and | exact ⟨zin_and, by omega⟩ | exact ⟨by omega, zin_and⟩ | exact Nat.le_of_ble_eq_true rfl | exact ⟨Nat.le_of_ble_eq_true rfl, rfl⟩ | exact ⟨Nat.le_of_ble_eq_true rfl, by assumption⟩ | exact ⟨by omega, Nat.le_of_ble_eq_true rfl⟩ | exact ⟨⟨by assumption, by omega⟩, Nat.le_of_ble_eq_true rfl⟩ | decide) ?_; conv => whnf)
      (refine c_at hk.2.2.2.2 (by omega) a4 ?_; conv => whnf)
      (refine And.intro (by first | omega | assumption | rfl | exact zin_and | exact ⟨zin_and, by omega⟩ | exact ⟨by omega, zin_and⟩ | exact Nat.le_of_ble_eq_true rfl | exact ⟨Nat.le_of_ble_eq_true rfl, rfl⟩ | exact ⟨Nat.le_of_ble_eq_true rfl, by assumption⟩ | exact ⟨by omega, Nat.le_of_ble_eq_true rfl⟩ | exact ⟨⟨by assumption, by omega⟩, Nat.le_of_ble_eq_true rfl⟩ | decide) ?_; conv => whnf)
      (refine And.intro (fun h => ?_) (fun h => by omega); conv => whnf)
      (refine hK _ _ _ _ (zW.go (zC_om _) (fun K hK => ?_)); conv => whnf)
      exact hK _ _ _ _ (ih (j + 1) (by omega))
  exact hK _ _ _ _ (go (mpl s n t) 0 (by omega))
theorem RelU.row {g' : zM} (hr : RelU g k s n) (hf : ∀ j, j ≠ k + 4 → g' j = g j) : RelU g' k s n := by
  obtain ⟨h1, h2, h3⟩ := hr
  refine ⟨?_, ?_, fun t ht => ?_⟩
  · rw [hf k (by omega)]; exact h1
  · rw [hf k (by omega)]; exact h2
  · rw [hf (k + 1) (by omega), hf (k + 2) (by omega), hf (k + 3) (by omega)]; exact h3 t ht
theorem c_sort (hk : zKB k) (hr : RelU g k s n) (hok : mok s n) (hQ : ∀ g' : zM, (∀ j, j ≠ k + 4 → g' j = g j) → RelB g' k s n → Q none g') : zC (d + 3) 6 [zR k] g Q := by
  obtain ⟨hk0, hk1, hk2, hk3, hk4⟩ := id hk
  have hn := hok.2.1
  have hp := hok.pos
  refine zC.go zm_X0_sortByRatio ⟨rfl, rfl⟩ rfl ?_
  (refine zW.upto (zC_om _) 2 (fun K hK => ?_); conv => whnf)
  have go : ∀ (r t : Nat) (x : zV) (g2 : zM), t + r = n → (∀ j, j ≠ k + 4 → g2 j = g j) → (∀ j : Nat, j < t → g2 (k + 4) j = (mor s t j : Nat)) → zW zX0_sortByRatio (zC (d + 2)) Q 2 [zR k, zI t, x] [] g2 := by
    intro r
    induction r with
    | zero =>
      intro t x g2 e hf hrow
      have hr2 := hr.row hf
      have hn4 := hr2.1
      obtain rfl : t = n := by omega
      (refine zW.go (zC_om _) (fun K hK => ?_); conv => whnf)
      (refine And.intro (by first | omega | assumption | rfl | exact zin_and | exact ⟨zin_and, by omega⟩ | exact ⟨by omega, zin_and⟩ | exact Nat.le_of_ble_eq_true rfl | exact ⟨Nat.le_of_ble_eq_true rfl, rfl⟩ | exact ⟨Nat.le_of_ble_eq_true rfl, by assumption⟩ | exact ⟨by omega, Nat.le_of_ble_eq_true rfl⟩ | exact ⟨⟨by assumption, by omega⟩, Nat.le_of_ble_eq_true rfl⟩ | decide) ?_; conv => whnf)
      (refine And.intro (by first | omega | assumption | rfl | exact zin_and | exact ⟨zin_and, by omega⟩ | exact ⟨by omega, zin_and⟩ | exact Nat.le_of_ble_eq_true rfl | exact ⟨Nat.le_of_ble_eq_true rfl, rfl⟩ | exact ⟨Nat.le_of_ble_eq_true rfl, by assumption⟩ | exact ⟨by omega, Nat.le_of_ble_eq_true rfl⟩ | exact ⟨⟨by assumption, by omega⟩, Nat.le_of_ble_eq_true rfl⟩ | decide) ?_; conv => whnf)
      (refine And.intro (fun h => ?_) (fun h => by omega); conv => whnf)
      (refine hK _ _ _ _ (zW.go (zC_om _) (fun K hK => ?_)); conv => whnf)
      exact ⟨trivial, hQ g2 hf ⟨hr2.1, hr2.2.1, fun t ht => ⟨(hr2.2.2 t ht).1, (hr2.2.2 t ht).2.1, (hr2.2.2 t ht).2.2, hrow t ht⟩⟩⟩
    | succ r ih =>
      intro t x g2 e hf hrow
      have htn : t < n := by omega
      have hpt : mpos s (t + 1) := fun u hu => hp u (by omega)
      have inner : ∀ (p : Nat) (g3 : zM), p ≤ t → (∀ j, j ≠ k + 4 → g3 j = g j) → (∀ j : Nat, j < p → g3 (k + 4) j = (mor s t j : Nat)) → (∀ j : Nat, p ≤ j → j < t → g3 (k + 4) ((j + 1 : Nat) : Int) = (mor s t j : Nat) ∧ mah s t (mor s t j) = true) → zW zX0_sortByRatio (zC (d + 2)) Q 8 [zR k, zI t, zI p] [] g3 := by
        have putin : ∀ (p : Nat) (g3 : zM), p ≤ t → (∀ j, j ≠ k + 4 → g3 j = g j) → (∀ j : Nat, j < p → g3 (k + 4) j = (mor s t j : Nat)) → (∀ j : Nat, p ≤ j → j < t → g3 (k + 4) ((j + 1 : Nat) : Int) = (mor s t j : Nat) ∧ mah s t (mor s t j) = true) → (p = 0 ∨ mah s t (mor s t (p - 1)) = false) → zW zX0_sortByRatio (zC (d + 2)) Q 32 [zR k, zI t, zI p] [] g3 := by
          intro p g3 hpt' hf3 hlo hhi hend
          have hin := mor_in hpt hpt' (fun j a c => (hhi j a c).2) hend
          (refine zW.go (zC_om _) (fun K hK => ?_); conv => whnf)
          (refine And.intro (by first | omega | assumption | rfl | exact zin_and | exact ⟨zin_and, by omega⟩ | exact ⟨by omega, zin_and⟩ | exact Nat.le_of_ble_eq_true rfl | exact ⟨Nat.le_of_ble_eq_true rfl, rfl⟩ | exact ⟨Nat.le_of_ble_eq_true rfl, by assumption⟩ | exact ⟨by omega, Nat.le_of_ble_eq_true rfl⟩ | exact ⟨⟨by assumption, by omega⟩, Nat.le_of_ble_eq_true rfl⟩ | decide) ?_; conv => whnf)
          (refine And.intro (by first | omega | assumption | rfl | exact zin_and | exact ⟨zin_and, by omega⟩ | exact ⟨by omega, zin_and⟩ | exact Nat.le_of_ble_eq_true rfl | exact ⟨Nat.le_of_ble_eq_true rfl, rfl⟩ | exact ⟨Nat.le_of_ble_eq_true rfl, by assumption⟩ | exact ⟨by omega, Nat.le_of_ble_eq_true rfl⟩ | exact ⟨⟨by assumption, by omega⟩, Nat.le_of_ble_eq_true rfl⟩ | decide) ?_; conv => whnf)
          (refine s_put hk4 (by omega) (by omega) (by omega) ?_; conv => whnf)
          refine hK _ _ _ _ (ih (t + 1) _ _ (by omega) (fun j hj => ?_) (fun j hj => ?_))
          · rw [zup_ne hj, hf3 j hj]
          · rw [hin j (by omega)]
            by_cases c1 : j < p
            · rw [if_pos c1, zup_i (by omega), hlo j c1]
            · rw [if_neg c1]
              by_cases c2 : j = p
              · rw [if_pos c2, c2, zup_s]
              · have := (hhi (j - 1) (by omega) (by omega)).1
                rw [show j - 1 + 1 = j by omega] at this
                rw [if_neg c2, zup_i (by omega), this]
        intro p
        induction p with
        | zero =>
          intro g3 hpt' hf3 hlo hhi
          (refine zW.go (zC_om _) (fun K hK => ?_); conv => whnf)
          (refine And.intro (by first | omega | assumption | rfl | exact zin_and | exact ⟨zin_and, by omega⟩ | exact ⟨by omega, zin_and⟩ | exact Nat.le_of_ble_eq_true rfl | exact ⟨Nat.le_of_ble_eq_true rfl, rfl⟩ | exact ⟨Nat.le_of_ble_eq_true rfl, by assumption⟩ | exact ⟨by omega, Nat.le_of_ble_eq_true rfl⟩ | exact ⟨⟨by assumption, by omega⟩, Nat.le_of_ble_eq_true rfl⟩ | decide) ?_; conv => whnf)
          (refine And.intro (fun h => ?_) (fun h => by omega); conv => whnf)
          exact hK _ _ _ _ (putin 0 g3 hpt' hf3 hlo hhi (Or.inl rfl))
        | succ p ihp =>
          intro g3 hpt' hf3 hlo hhi
          have hsp := mor_spec (s := s) (n := t) (k := p) (fun u hu => hp u (by omega)) (by omega)
          have hlp := hlo p (by omega)
          (refine zW.go (zC_om _) (fun K hK => ?_); conv => whnf)
          (refine And.intro (by first | omega | assumption | rfl | exact zin_and | exact ⟨zin_and, by omega⟩ | exact ⟨by omega, zin_and⟩ | exact Nat.le_of_ble_eq_true rfl | exact ⟨Nat.le_of_ble_eq_true rfl, rfl⟩ | exact ⟨Nat.le_of_ble_eq_true rfl, by assumption⟩ | exact ⟨by omega, Nat.le_of_ble_eq_true rfl⟩ | exact ⟨⟨by assumption, by omega⟩, Nat.le_of_ble_eq_true rfl⟩ | decide) ?_; conv => whnf)
          (refine And.intro (fun h => by omega) (fun h => ?_); conv => whnf)
          (refine And.intro (by first | omega | assumption | rfl | exact zin_and | exact ⟨zin_and, by omega⟩ | exact ⟨by omega, zin_and⟩ | exact Nat.le_of_ble_eq_true rfl | exact ⟨Nat.le_of_ble_eq_true rfl, rfl⟩ | exact ⟨Nat.le_of_ble_eq_true rfl, by assumption⟩ | exact ⟨by omega, Nat.le_of_ble_eq_true rfl⟩ | exact ⟨⟨by assumption, by omega⟩, Nat.le_of_ble_eq_true rfl⟩ | decide) ?_; conv => whnf)
          (refine And.intro (by first | omega | assumption | rfl | exact zin_and | exact ⟨zin_and, by omega⟩ | exact ⟨by omega, zin_and⟩ | exact Nat.le_of_ble_eq_true rfl | exact ⟨Nat.le_of_ble_eq_true rfl, rfl⟩ | exact ⟨Nat.le_of_ble_eq_true rfl, by assumption⟩ | exact ⟨by omega, Nat.le_of_ble_eq_true rfl⟩ | exact ⟨⟨by assumption, by omega⟩, Nat.le_of_ble_eq_true rfl⟩ | decide) ?_; conv => whnf)
          rw [show ((p + 1 : Nat) : Int) - 1 = (p : Int) by omega]
          (refine c_at hk4 (by omega) hlp ?_; conv => whnf)
          (refine And.intro (by first | omega | assumption | rfl | exact zin_and | exact ⟨zin_and, by omega⟩ | exact ⟨by omega, zin_and⟩ | exact Nat.le_of_ble_eq_true rfl | exact ⟨Nat.le_of_ble_eq_true rfl, rfl⟩ | exact ⟨Nat.le_of_ble_eq_true rfl, by assumption⟩ | exact ⟨by omega, Nat.le_of_ble_eq_true rfl⟩ | exact ⟨⟨by assumption, by omega⟩, Nat.le_of_ble_eq_true rfl⟩ | decide) ?_; conv => whnf)
          (refine c_isAhead hk (hr.row hf3) hok htn hsp.1 ?_; conv => whnf)
          cases hm : mah s t (mor s t p) with
          | false =>
            rw [zb_f]
            (refine And.intro (by first | omega | assumption | rfl | exact zin_and | exact ⟨zin_and, by omega⟩ | exact ⟨by omega, zin_and⟩ | exact Nat.le_of_ble_eq_true rfl | exact ⟨Nat.le_of_ble_eq_true rfl, rfl⟩ | exact ⟨Nat.le_of_ble_eq_true rfl, by assumption⟩ | exact ⟨by omega, Nat.le_of_ble_eq_true rfl⟩ | exact ⟨⟨by assumption, by omega⟩, Nat.le_of_ble_eq_true rfl⟩ | decide) ?_; conv => whnf)
            (refine And.intro (fun h => ?_) (fun h => by omega); conv => whnf)
            exact hK _ _ _ _ (putin (p + 1) g3 hpt' hf3 hlo hhi (Or.inr hm))
          | true =>
            rw [zb_t]
            (refine And.intro (by first | omega | assumption | rfl | exact zin_and | exact ⟨zin_and, by omega⟩ | exact ⟨by omega, zin_and⟩ | exact Nat.le_of_ble_eq_true rfl | exact ⟨Nat.le_of_ble_eq_true rfl, rfl⟩ | exact ⟨Nat.le_of_ble_eq_true rfl, by assumption⟩ | exact ⟨by omega, Nat.le_of_ble_eq_true rfl⟩ | exact ⟨⟨by assumption, by omega⟩, Nat.le_of_ble_eq_true rfl⟩ | decide) ?_; conv => whnf)
            (refine And.intro (fun h => by omega) (fun h => ?_); conv => whnf)
            (refine And.intro (by first | omega | assumption | rfl | exact zin_and | exact ⟨zin_and, by omega⟩ | exact ⟨by omega, zin_and⟩ | exact Nat.le_of_ble_eq_true rfl | exact ⟨Nat.le_of_ble_eq_true rfl, rfl⟩ | exact ⟨Nat.le_of_ble_eq_true rfl, by assumption⟩ | exact ⟨by omega, Nat.le_of_ble_eq_true rfl⟩ | exact ⟨⟨by assumption, by omega⟩, Nat.le_of_ble_eq_true rfl⟩ | decide) ?_; conv => whnf)
            (refine And.intro (by first | omega | assumption | rfl | exact zin_and | exact ⟨zin_and, by omega⟩ | exact ⟨by omega, zin_and⟩ | exact Nat.le_of_ble_eq_true rfl | exact ⟨Nat.le_of_ble_eq_true rfl, rfl⟩ | exact ⟨Nat.le_of_ble_eq_true rfl, by assumption⟩ | exact ⟨by omega, Nat.le_of_ble_eq_true rfl⟩ | exact ⟨⟨by assumption, by omega⟩, Nat.le_of_ble_eq_true rfl⟩ | decide) ?_; conv => whnf)
            (refine And.intro (by first | omega | assumption | rfl | exact zin_and | exact ⟨zin_and, by omega⟩ | exact ⟨by omega, zin_and⟩ | exact Nat.le_of_ble_eq_true rfl | exact ⟨Nat.le_of_ble_eq_true rfl, rfl⟩ | exact ⟨Nat.le_of_ble_eq_true rfl, by assumption⟩ | exact ⟨by omega, Nat.le_of_ble_eq_true rfl⟩ | exact ⟨⟨by assumption, by omega⟩, Nat.le_of_ble_eq_true rfl⟩ | decide) ?_; conv => whnf)
            rw [show ((p + 1 : Nat) : Int) - 1 = (p : Int) by omega]
            (refine c_at hk4 (by omega) hlp ?_; conv => whnf)
            (refine And.intro (by first | omega | assumption | rfl | exact zin_and | exact ⟨zin_and, by omega⟩ | exact ⟨by omega, zin_and⟩ | exact Nat.le_of_ble_eq_true rfl | exact ⟨Nat.le_of_ble_eq_true rfl, rfl⟩ | exact ⟨Nat.le_of_ble_eq_true rfl, by assumption⟩ | exact ⟨by omega, Nat.le_of_ble_eq_true rfl⟩ | exact ⟨⟨by assumption, by omega⟩, Nat.le_of_ble_eq_true rfl⟩ | decide) ?_; conv => whnf)
            (refine s_put hk4 (by omega) (by omega) (by omega) ?_; conv => whnf)
            refine hK _ _ _ _ ?_
            rw [show ((p + 1 : Nat) : Int) + -1 = (p : Int) by omega]
            refine ihp _ (by omega) (fun j hj => ?_) (fun j hj => ?_) (fun j h1 h2 => ?_)
            · rw [zup_ne hj, hf3 j hj]
            · rw [zup_i (by omega), hlo j (by omega)]
            · by_cases e : j = p
              · subst e
                rw [zup_s]
                exact ⟨rfl, hm⟩
              · rw [zup_i (by omega)]
                exact hhi j (by omega) h2
      have hn4 := (hr.row hf).1
      (refine zW.upto (zC_om _) 6 (fun K hK => ?_); conv => whnf)
      (refine And.intro (by first | omega | assumption | rfl | exact zin_and | exact ⟨zin_and, by omega⟩ | exact ⟨by omega, zin_and⟩ | exact Nat.le_of_ble_eq_true rfl | exact ⟨Nat.le_of_ble_eq_true rfl, rfl⟩ | exact ⟨Nat.le_of_ble_eq_true rfl, by assumption⟩ | exact ⟨by omega, Nat.le_of_ble_eq_true rfl⟩ | exact ⟨⟨by assumption, by omega⟩, Nat.le_of_ble_eq_true rfl⟩ | decide) ?_; conv => whnf)
      (refine And.intro (by first | omega | assumption | rfl | exact zin_and | exact ⟨zin_and, by omega⟩ | exact ⟨by omega, zin_and⟩ | exact Nat.le_of_ble_eq_true rfl | exact ⟨Nat.le_of_ble_eq_true rfl, rfl⟩ | exact ⟨Nat.le_of_ble_eq_true rfl, by assumption⟩ | exact ⟨by omega, Nat.le_of_ble_eq_true rfl⟩ | exact ⟨⟨by assumption, by omega⟩, Nat.le_of_ble_eq_true rfl⟩ | decide) ?_; conv => whnf)
      (refine And.intro (fun h => by omega) (fun h => ?_); conv => whnf)
      exact hK _ _ _ _ (inner t g2 (Nat.le_refl _) hf hrow (fun j h1 h2 => absurd h2 (by omega)))
  exact hK _ _ _ _ (go n 0 _ g (by omega) (fun j hj => rfl) (fun j hj => absurd hj (by omega)))
end CO
end
section
/-! how many bits a set has; which two sets can be fixed -/
def pops (v : Nat) : Nat := zcnt 12 (fun t => v.testBit t)
def zbc (x : Int) : Int :=
  let a := x - zand (zushr x 1) 1431655765
  let b := zand a 858993459 + zand (zushr a 2) 858993459
  let c := zand (b + zushr b 4) 252645135
  let e := c + zushr c 8
  zand (e + zushr e 16) 63
theorem zbc_pops (v : Nat) (h : v < 4096) : zbc v = (pops v : Nat) := by
  have : ∀ a : Nat, a < 64 → ∀ b : Nat, b < 64 → zbc (64 * a + b : Nat) = (pops (64 * a + b) : Nat) := by decide +kernel
  have := this (v / 64) (by omega) (v % 64) (by omega)
  rw [show 64 * (v / 64) + v % 64 = v by omega] at this
  exact this
theorem pops_step (v : Nat) (h : v < 4096) (h0 : v ≠ 0) : pops v = pops (v &&& (v - 1)) + 1 ∧ v &&& (v - 1) < v := by
  have : ∀ a : Nat, a < 64 → ∀ b : Nat, b < 64 → 64 * a + b ≠ 0 → pops (64 * a + b) = pops ((64 * a + b) &&& ((64 * a + b) - 1)) + 1 ∧ (64 * a + b) &&& ((64 * a + b) - 1) < 64 * a + b := by decide +kernel
  have := this (v / 64) (by omega) (v % 64) (by omega)
  rw [show 64 * (v / 64) + v % 64 = v by omega] at this
  exact this h0
theorem pops_le (v : Nat) : pops v ≤ 12 := zcnt_le 12 _
theorem j_bitCount {d v : Nat} {g : zM} {Q : zP} (hv : v < 4096) (hQ : Q (some (zI (pops v : Nat))) g) : zC (d + 1) 148 [zI v] g Q := by
  refine zC.go zm_J6_bitCount_0f7a4 ⟨rfl, rfl⟩ rfl ?_
  (refine zW.go (zC_om _) (fun K hK => ?_); conv => whnf)
  (repeat' first | (refine hK _ _ _ _ (zW.go (zC_om _) (fun K hK => ?_)); conv => whnf) | (refine And.intro (by first | omega | assumption | rfl | exact zin_and | exact ⟨zin_and, by omega⟩ | exact ⟨by omega, zin_and⟩ | exact Nat.le_of_ble_eq_true rfl | exact ⟨Nat.le_of_ble_eq_true rfl, rfl⟩ | exact ⟨Nat.le_of_ble_eq_true rfl, by assumption⟩ | exact ⟨by omega, Nat.le_of_ble_eq_true rfl⟩ | exact ⟨⟨by assumption, by omega⟩, Nat.le_of_ble_eq_true rfl⟩ | decide) ?_; conv => whnf) | (refine And.intro (fun h => ?_) (fun h => ?_) <;> conv => whnf) | (intro h; conv => whnf))
  refine zQe hQ ?_
  rw [← zbc_pops v hv]
  rfl
theorem m_ones {d v : Nat} {g : zM} {Q : zP} (hv : v < 4096) (hQ : Q (some (zI (pops v : Nat))) g) : zC (d + 1) 90 [zI v] g Q := by
  refine zC.go zm_X6_ones ⟨rfl, rfl⟩ rfl ?_
  (refine zW.upto (zC_om _) 4 (fun K hK => ?_); conv => whnf)
  have go : ∀ (b v' : Nat) (c : Int), v' ≤ b → v' < 4096 → c + pops v' = pops v → zW zX6_ones (zC d) Q 4 [zI v, zI c, zI v'] [] g := by
    intro b
    induction b with
    | zero =>
      intro v' c h1 h2 h3
      obtain rfl : v' = 0 := by omega
      have h0 : pops 0 = 0 := by decide
      (refine zW.go (zC_om _) (fun K hK => ?_); conv => whnf)
      (refine And.intro (by first | omega | assumption | rfl | exact zin_and | exact ⟨zin_and, by omega⟩ | exact ⟨by omega, zin_and⟩ | exact Nat.le_of_ble_eq_true rfl | exact ⟨Nat.le_of_ble_eq_true rfl, rfl⟩ | exact ⟨Nat.le_of_ble_eq_true rfl, by assumption⟩ | exact ⟨by omega, Nat.le_of_ble_eq_true rfl⟩ | exact ⟨⟨by assumption, by omega⟩, Nat.le_of_ble_eq_true rfl⟩ | decide) ?_; conv => whnf)
      (refine And.intro (fun h => ?_) (fun h => by omega); conv => whnf)
      (repeat' first | (refine hK _ _ _ _ (zW.go (zC_om _) (fun K hK => ?_)); conv => whnf) | (refine And.intro (by first | omega | assumption | rfl | exact zin_and | exact ⟨zin_and, by omega⟩ | exact ⟨by omega, zin_and⟩ | exact Nat.le_of_ble_eq_true rfl | exact ⟨Nat.le_of_ble_eq_true rfl, rfl⟩ | exact ⟨Nat.le_of_ble_eq_true rfl, by assumption⟩ | exact ⟨by omega, Nat.le_of_ble_eq_true rfl⟩ | exact ⟨⟨by assumption, by omega⟩, Nat.le_of_ble_eq_true rfl⟩ | decide) ?_; conv => whnf) | (refine And.intro (fun h => ?_) (fun h => ?_) <;> conv => whnf) | (intro h; conv => whnf))
      refine zQe hQ ?_
      omega
    | succ b ih =>
      intro v' c h1 h2 h3
      by_cases h0 : v' = 0
      · subst h0
        have h0 : pops 0 = 0 := by decide
        (refine zW.go (zC_om _) (fun K hK => ?_); conv => whnf)
        (refine And.intro (by first | omega | assumption | rfl | exact zin_and | exact ⟨zin_and, by omega⟩ | exact ⟨by omega, zin_and⟩ | exact Nat.le_of_ble_eq_true rfl | exact ⟨Nat.le_of_ble_eq_true rfl, rfl⟩ | exact ⟨Nat.le_of_ble_eq_true rfl, by assumption⟩ | exact ⟨by omega, Nat.le_of_ble_eq_true rfl⟩ | exact ⟨⟨by assumption, by omega⟩, Nat.le_of_ble_eq_true rfl⟩ | decide) ?_; conv => whnf)
        (refine And.intro (fun h => ?_) (fun h => by omega); conv => whnf)
        (repeat' first | (refine hK _ _ _ _ (zW.go (zC_om _) (fun K hK => ?_)); conv => whnf) | (refine And.intro (by first | omega | assumption | rfl | exact zin_and | exact ⟨zin_and, by omega⟩ | exact ⟨by omega, zin_and⟩ | exact Nat.le_of_ble_eq_true rfl | exact ⟨Nat.le_of_ble_eq_true rfl, rfl⟩ | exact ⟨Nat.le_of_ble_eq_true rfl, by assumption⟩ | exact ⟨by omega, Nat.le_of_ble_eq_true rfl⟩ | exact ⟨⟨by assumption, by omega⟩, Nat.le_of_ble_eq_true rfl⟩ | decide) ?_; conv => whnf) | (refine And.intro (fun h => ?_) (fun h => ?_) <;> conv => whnf) | (intro h; conv => whnf))
        refine zQe hQ ?_
        omega
      · obtain ⟨p1, p2⟩ := pops_step v' h2 h0
        have e : zand v' ((v' : Int) - 1) = ((v' &&& (v' - 1) : Nat) : Int) := by
          rw [show (v' : Int) - 1 = ((v' - 1 : Nat) : Int) by omega]
          exact zand_nat (by omega) (by omega)
        (refine zW.go (zC_om _) (fun K hK => ?_); conv => whnf)
        (refine And.intro (by first | omega | assumption | rfl | exact zin_and | exact ⟨zin_and, by omega⟩ | exact ⟨by omega, zin_and⟩ | exact Nat.le_of_ble_eq_true rfl | exact ⟨Nat.le_of_ble_eq_true rfl, rfl⟩ | exact ⟨Nat.le_of_ble_eq_true rfl, by assumption⟩ | exact ⟨by omega, Nat.le_of_ble_eq_true rfl⟩ | exact ⟨⟨by assumption, by omega⟩, Nat.le_of_ble_eq_true rfl⟩ | decide) ?_; conv => whnf)
        (refine And.intro (fun h => by omega) (fun h => ?_); conv => whnf)
        rw [e]
        exact hK _ _ _ _ (ih _ (c + 1) (by omega) (by omega) (by omega))
  exact hK _ _ _ _ (go v v 0 (Nat.le_refl _) hv (by omega))
/-- whether the one is in, the other out, of n things -/
def mfx (n : Nat) (x y : Int) : Bool := decide (0 ≤ x) && decide (x < 2 ^ n) && (decide (0 ≤ y) && decide (y < 2 ^ n)) && decide (x.toNat &&& y.toNat = 0)
theorem mfx_iff {n : Nat} {x y : Int} : mfx n x y = true ↔ ∃ i o : Nat, x = (i : Int) ∧ y = (o : Int) ∧ i < 2 ^ n ∧ o < 2 ^ n ∧ i &&& o = 0 := by
  have e : ((2 : Int) ^ n) = ((2 ^ n : Nat) : Int) := by rw [Int.natCast_pow]; rfl
  unfold mfx
  simp only [Bool.and_eq_true, decide_eq_true_eq, e]
  constructor
  · rintro ⟨⟨⟨h1, h2⟩, h3, h4⟩, h5⟩
    exact ⟨x.toNat, y.toNat, by omega, by omega, by omega, by omega, h5⟩
  · rintro ⟨i, o, rfl, rfl, h1, h2, h3⟩
    refine ⟨⟨⟨by omega, by omega⟩, by omega, by omega⟩, ?_⟩
    rw [Int.toNat_natCast, Int.toNat_natCast]
    exact h3
theorem zJ_small {x : Int} {n : Nat} (hx : zin x) (hn : n ≤ 12) : (zJ x).toBitVec.toNat < 2 ^ n ↔ 0 ≤ x ∧ x < 2 ^ n := by
  have h2 := zp12 hn
  have e : ((2 : Int) ^ n) = ((2 ^ n : Nat) : Int) := by rw [Int.natCast_pow]; rfl
  rw [e]
  by_cases h0 : 0 ≤ x
  · obtain ⟨a, rfl⟩ : ∃ a : Nat, x = (a : Int) := ⟨x.toNat, by omega⟩
    rw [zTN (by omega)]
    omega
  · constructor
    · intro h
      exfalso
      have h3 : (zJ x).toBitVec.toInt = (zJ x).toBitVec.toNat := BitVec.toInt_eq_toNat_of_lt (by omega)
      have h4 : (zJ x).toInt = x := zJ_toInt hx
      have h5 : (zJ x).toInt = (zJ x).toBitVec.toInt := rfl
      omega
    · intro h
      omega
/-- no bit of a word above the first n -/
theorem zhi0 {X n : Nat} (hX : X < 2 ^ 32) (hn : n ≤ 32) : X &&& (2 ^ 32 - 2 ^ n) = 0 ↔ X < 2 ^ n := by
  have hb : ∀ j, (2 ^ 32 - 2 ^ n).testBit j = (decide (j < 32) && decide (n ≤ j)) := by
    intro j
    have e : 2 ^ 32 - 2 ^ n = (2 ^ (32 - n) - 1) * 2 ^ n := by
      rw [Nat.sub_mul, ← Nat.pow_add, Nat.one_mul]
      congr 2
      omega
    rw [e, Nat.testBit_mul_two_pow, Nat.testBit_two_pow_sub_one]
    by_cases h1 : n ≤ j
    · simp [h1]; omega
    · simp [h1]
  constructor
  · intro h
    refine zbits_lt (fun t ht => ?_)
    by_cases h32 : t < 32
    · have := congrArg (fun z => z.testBit t) h
      simp only [Nat.testBit_and, hb, Nat.zero_testBit] at this
      simpa [h32, ht] using this
    · exact zlt_bits hX (by omega)
  · intro h
    refine Nat.eq_of_testBit_eq (fun j => ?_)
    rw [Nat.testBit_and, hb, Nat.zero_testBit]
    by_cases h1 : n ≤ j
    · rw [zlt_bits h h1]; rfl
    · simp [h1]
theorem zshlm1 {n : Nat} (hn : n ≤ 12) : (zJ (zshl (-1) n)).toBitVec.toNat = 2 ^ 32 - 2 ^ n := by
  have : ∀ n : Nat, n < 13 → (zJ (zshl (-1) n)).toBitVec.toNat = 2 ^ 32 - 2 ^ n := by decide +kernel
  exact this n (by omega)
theorem zz0 {z : Int32} : z.toInt = 0 ↔ z.toBitVec.toNat = 0 := by
  constructor
  · intro h
    have : z = 0 := Int32.toInt_inj.mp h
    rw [this]; rfl
  · intro h
    have : z.toBitVec = 0#32 := BitVec.eq_of_toNat_eq h
    have : z = 0 := Int32.toBitVec_inj.mp this
    rw [this]; rfl
theorem zfix {x y : Int} {n : Nat} (hx : zin x) (hy : zin y) (hn : n ≤ 12) : (zand (zor x y) (zshl (-1) n) = 0 ∧ zand x y = 0) ↔ mfx n x y = true := by
  have h1 : zand (zor x y) (zshl (-1) n) = 0 ↔ (zJ x).toBitVec.toNat < 2 ^ n ∧ (zJ y).toBitVec.toNat < 2 ^ n := by
    unfold zand
    rw [zz0]
    show ((zJ (zor x y)).toBitVec &&& (zJ (zshl (-1) n)).toBitVec).toNat = 0 ↔ _
    rw [BitVec.toNat_and, zshlm1 hn, zhi0 (zJ (zor x y)).toBitVec.isLt (by omega)]
    unfold zor
    rw [zJ_of]
    show ((zJ x).toBitVec ||| (zJ y).toBitVec).toNat < 2 ^ n ↔ _
    rw [BitVec.toNat_or]
    constructor
    · intro h
      exact ⟨Nat.lt_of_le_of_lt Nat.left_le_or h, Nat.lt_of_le_of_lt Nat.right_le_or h⟩
    · intro h
      exact Nat.or_lt_two_pow h.1 h.2
  rw [h1, zJ_small hx hn, zJ_small hy hn, mfx_iff]
  have e : ((2 : Int) ^ n) = ((2 ^ n : Nat) : Int) := by rw [Int.natCast_pow]; rfl
  have h2 := zp12 hn
  rw [e]
  constructor
  · rintro ⟨⟨⟨a1, a2⟩, a3, a4⟩, a5⟩
    obtain ⟨i, rfl⟩ : ∃ a : Nat, x = (a : Int) := ⟨x.toNat, by omega⟩
    obtain ⟨o, rfl⟩ : ∃ a : Nat, y = (a : Int) := ⟨y.toNat, by omega⟩
    rw [zand_nat (by omega) (by omega)] at a5
    exact ⟨i, o, rfl, rfl, by omega, by omega, by omega⟩
  · rintro ⟨i, o, rfl, rfl, a1, a2, a3⟩
    rw [zand_nat (by omega) (by omega), a3]
    exact ⟨⟨⟨by omega, by omega⟩, by omega, by omega⟩, rfl⟩
section CF
variable {g : zM} {k n : Nat} {s : zS} {d : Nat} {Q : zP}
theorem c_canFix (hk : zKB k) (hn : g k (4 : Nat) = (n : Int)) (hn12 : n ≤ 12) {x y : Int} (hx : zin x) (hy : zin y) (hQ : Q (some (zI (zb (mfx n x y)))) g) : zC (d + 1) 9 [zR k, zI x, zI y] g Q := by
  obtain ⟨hk0, -⟩ := id hk
  have hz := zfix hx hy hn12
  have hin : ∀ a c : Int, zin (zor a c) := fun a c => ⟨Int32.le_toInt _, Int32.toInt_lt _⟩
  refine zC.go zm_X0_canFix ⟨rfl, rfl⟩ rfl ?_
  (refine zW.go (zC_om _) (fun K hK => ?_); conv => whnf)
  (refine And.intro (by first | omega | assumption | rfl | exact zin_and | exact ⟨zin_and, by omega⟩ | exact ⟨by omega, zin_and⟩ | exact Nat.le_of_ble_eq_true rfl | exact ⟨Nat.le_of_ble_eq_true rfl, rfl⟩ | exact ⟨Nat.le_of_ble_eq_true rfl, by assumption⟩ | exact ⟨by omega, Nat.le_of_ble_eq_true rfl⟩ | exact ⟨⟨by assumption, by omega⟩, Nat.le_of_ble_eq_true rfl⟩ | decide) ?_; conv => whnf)
  rw [hn]
  by_cases h1 : zand (zor x y) (zshl (-1) n) = 0
  · by_cases h2 : zand x y = 0
    · rw [hz.1 ⟨h1, h2⟩, zb_t] at hQ
      (refine And.intro (by first | omega | assumption | rfl | exact zin_and | exact ⟨zin_and, by omega⟩ | exact ⟨by omega, zin_and⟩ | exact Nat.le_of_ble_eq_true rfl | exact ⟨Nat.le_of_ble_eq_true rfl, rfl⟩ | exact ⟨Nat.le_of_ble_eq_true rfl, by assumption⟩ | exact ⟨by omega, Nat.le_of_ble_eq_true rfl⟩ | exact ⟨⟨by assumption, by omega⟩, Nat.le_of_ble_eq_true rfl⟩ | decide) ?_; conv => whnf)
      (refine And.intro (fun h => by omega) (fun h => ?_); conv => whnf)
      (refine And.intro (by first | omega | assumption | rfl | exact zin_and | exact ⟨zin_and, by omega⟩ | exact ⟨by omega, zin_and⟩ | exact Nat.le_of_ble_eq_true rfl | exact ⟨Nat.le_of_ble_eq_true rfl, rfl⟩ | exact ⟨Nat.le_of_ble_eq_true rfl, by assumption⟩ | exact ⟨by omega, Nat.le_of_ble_eq_true rfl⟩ | exact ⟨⟨by assumption, by omega⟩, Nat.le_of_ble_eq_true rfl⟩ | decide) ?_; conv => whnf)
      (refine And.intro (fun h => by omega) (fun h => ?_); conv => whnf)
      (repeat' first | (refine hK _ _ _ _ (zW.go (zC_om _) (fun K hK => ?_)); conv => whnf) | (refine And.intro (by first | omega | assumption | rfl | exact zin_and | exact ⟨zin_and, by omega⟩ | exact ⟨by omega, zin_and⟩ | exact Nat.le_of_ble_eq_true rfl | exact ⟨Nat.le_of_ble_eq_true rfl, rfl⟩ | exact ⟨Nat.le_of_ble_eq_true rfl, by assumption⟩ | exact ⟨by omega, Nat.le_of_ble_eq_true rfl⟩ | exact ⟨⟨by assumption, by omega⟩, Nat.le_of_ble_eq_true rfl⟩ | decide) ?_; conv => whnf) | (refine And.intro (fun h => ?_) (fun h => ?_) <;> conv => whnf) | (intro h; conv => whnf))
      exact hQ
    · have : mfx n x y = false := by
        cases hm : mfx n x y with
        | false => rfl
        | true => exact absurd (hz.2 hm).2 h2
      rw [this, zb_f] at hQ
      (refine And.intro (by first | omega | assumption | rfl | exact zin_and | exact ⟨zin_and, by omega⟩ | exact ⟨by omega, zin_and⟩ | exact Nat.le_of_ble_eq_true rfl | exact ⟨Nat.le_of_ble_eq_true rfl, rfl⟩ | exact ⟨Nat.le_of_ble_eq_true rfl, by assumption⟩ | exact ⟨by omega, Nat.le_of_ble_eq_true rfl⟩ | exact ⟨⟨by assumption, by omega⟩, Nat.le_of_ble_eq_true rfl⟩ | decide) ?_; conv => whnf)
      (refine And.intro (fun h => by omega) (fun h => ?_); conv => whnf)
      (refine And.intro (by first | omega | assumption | rfl | exact zin_and | exact ⟨zin_and, by omega⟩ | exact ⟨by omega, zin_and⟩ | exact Nat.le_of_ble_eq_true rfl | exact ⟨Nat.le_of_ble_eq_true rfl, rfl⟩ | exact ⟨Nat.le_of_ble_eq_true rfl, by assumption⟩ | exact ⟨by omega, Nat.le_of_ble_eq_true rfl⟩ | exact ⟨⟨by assumption, by omega⟩, Nat.le_of_ble_eq_true rfl⟩ | decide) ?_; conv => whnf)
      (refine And.intro (fun h => ?_) (fun h => by omega); conv => whnf)
      (repeat' first | (refine hK _ _ _ _ (zW.go (zC_om _) (fun K hK => ?_)); conv => whnf) | (refine And.intro (by first | omega | assumption | rfl | exact zin_and | exact ⟨zin_and, by omega⟩ | exact ⟨by omega, zin_and⟩ | exact Nat.le_of_ble_eq_true rfl | exact ⟨Nat.le_of_ble_eq_true rfl, rfl⟩ | exact ⟨Nat.le_of_ble_eq_true rfl, by assumption⟩ | exact ⟨by omega, Nat.le_of_ble_eq_true rfl⟩ | exact ⟨⟨by assumption, by omega⟩, Nat.le_of_ble_eq_true rfl⟩ | decide) ?_; conv => whnf) | (refine And.intro (fun h => ?_) (fun h => ?_) <;> conv => whnf) | (intro h; conv => whnf))
      exact hQ
  · have : mfx n x y = false := by
      cases hm : mfx n x y with
      | false => rfl
      | true => exact absurd (hz.2 hm).1 h1
    rw [this, zb_f] at hQ
    (refine And.intro (by first | omega | assumption | rfl | exact zin_and | exact ⟨zin_and, by omega⟩ | exact ⟨by omega, zin_and⟩ | exact Nat.le_of_ble_eq_true rfl | exact ⟨Nat.le_of_ble_eq_true rfl, rfl⟩ | exact ⟨Nat.le_of_ble_eq_true rfl, by assumption⟩ | exact ⟨by omega, Nat.le_of_ble_eq_true rfl⟩ | exact ⟨⟨by assumption, by omega⟩, Nat.le_of_ble_eq_true rfl⟩ | decide) ?_; conv => whnf)
    (refine And.intro (fun h => ?_) (fun h => by omega); conv => whnf)
    (repeat' first | (refine hK _ _ _ _ (zW.go (zC_om _) (fun K hK => ?_)); conv => whnf) | (refine And.intro (by first | omega | assumption | rfl | exact zin_and | exact ⟨zin_and, by omega⟩ | exact ⟨by omega, zin_and⟩ | exact Nat.le_of_ble_eq_true rfl | exact ⟨Nat.le_of_ble_eq_true rfl, rfl⟩ | exact ⟨Nat.le_of_ble_eq_true rfl, by assumption⟩ | exact ⟨by omega, Nat.le_of_ble_eq_true rfl⟩ | exact ⟨⟨by assumption, by omega⟩, Nat.le_of_ble_eq_true rfl⟩ | decide) ?_; conv => whnf) | (refine And.intro (fun h => ?_) (fun h => ?_) <;> conv => whnf) | (intro h; conv => whnf))
    exact hQ
end CF
end
section
/-! the class's bag changes -/
/-- the bar between two things turned -/
def mxb (s : zS) (t u : Nat) : zS := ru (ru s (33 + t) (mb s t ^^^ 2 ^ u : Nat)) (33 + u) (mb s u ^^^ 2 ^ t : Nat)
def madd (s : zS) (n : Nat) (w v : Int) : zS := ru (ru (ru (ru s (9 + n) w) (21 + n) v) (33 + n) 0) 0 (n + 1)
def mabs (s : zS) (n b : Nat) : Nat → zS
  | 0 => s
  | j + 1 => if b.testBit j then mxb (mabs s n b j) n j else mabs s n b j
abbrev mab (s : zS) (n : Nat) (w v : Int) (b : Nat) : zS := mabs (madd s n w v) n b n
theorem mxb_old {s : zS} {t u : Nat} {j : Int} (h : j ≠ 33 + t ∧ j ≠ 33 + u) : mxb s t u j = s j := by
  unfold mxb
  rw [ru_n h.2, ru_n h.1]
theorem mxb_u {s : zS} {t u : Nat} : mxb s t u (33 + u) = (mb s u ^^^ 2 ^ t : Nat) := ru_s
theorem mxb_t {s : zS} {t u : Nat} (h : t ≠ u) : mxb s t u (33 + t) = (mb s t ^^^ 2 ^ u : Nat) := by
  unfold mxb
  rw [ru_n (by omega), ru_s]
theorem mxb_b {s : zS} {t u x : Nat} (h : t ≠ u) : mb (mxb s t u) x = if x = t then mb s t ^^^ 2 ^ u else if x = u then mb s u ^^^ 2 ^ t else mb s x := by
  by_cases h1 : x = t
  · subst h1
    rw [if_pos rfl]
    show (mxb s x u (33 + x)).toNat = _
    rw [mxb_t h]
    rfl
  · rw [if_neg h1]
    by_cases h2 : x = u
    · subst h2
      rw [if_pos rfl]
      show (mxb s t x (33 + x)).toNat = _
      rw [mxb_u]
      rfl
    · rw [if_neg h2]
      show (mxb s t u (33 + x)).toNat = _
      rw [mxb_old (by omega)]
      rfl
theorem mxb_ok {s : zS} {n t u : Nat} (hok : mok s n) (ht : t < n) (hu : u < n) (h : t ≠ u) : mok (mxb s t u) n := by
  have hn := hok.2.1
  obtain ⟨h1, h2, h3, h4⟩ := id hok
  have p : ∀ x, x < n → 2 ^ x < 2 ^ 12 := fun x hx => Nat.pow_lt_pow_right (by decide) (by omega)
  refine ⟨by rw [mxb_old (by omega)]; exact h1, h2, by rw [mxb_old (by omega)]; exact h3, fun x hx => ?_⟩
  rw [mxb_old (by omega), mxb_old (by omega)]
  obtain ⟨a1, a2, a3⟩ := h4 x hx
  refine ⟨a1, a2, ?_⟩
  by_cases c1 : x = t
  · subst c1
    rw [mxb_t h]
    have : mb s x ^^^ 2 ^ u < 2 ^ 12 := Nat.xor_lt_two_pow (mb_lt hok hx) (p u hu)
    omega
  · by_cases c2 : x = u
    · subst c2
      rw [mxb_u]
      have : mb s x ^^^ 2 ^ t < 2 ^ 12 := Nat.xor_lt_two_pow (mb_lt hok hx) (p t ht)
      omega
    · rw [mxb_old (by omega)]
      exact a3
theorem madd_old {s : zS} {n : Nat} {w v j : Int} (h : j ≠ 0 ∧ j ≠ 9 + n ∧ j ≠ 21 + n ∧ j ≠ 33 + n) : madd s n w v j = s j := by
  unfold madd
  rw [ru_n (by omega), ru_n (by omega), ru_n (by omega), ru_n (by omega)]
theorem madd_9 {s : zS} {n : Nat} {w v : Int} (hn : n < 12) : madd s n w v (9 + n) = w := by
  unfold madd
  rw [ru_n (by omega), ru_n (by omega), ru_n (by omega), ru_s]
theorem madd_21 {s : zS} {n : Nat} {w v : Int} (hn : n < 12) : madd s n w v (21 + n) = v := by
  unfold madd
  rw [ru_n (by omega), ru_n (by omega), ru_s]
theorem madd_33 {s : zS} {n : Nat} {w v : Int} : madd s n w v (33 + n) = 0 := by
  unfold madd
  rw [ru_n (by omega), ru_s]
theorem madd_ok {s : zS} {n : Nat} {w v : Int} (hok : mok s n) (hn : n < 12) (hw : 1 ≤ w ∧ w ≤ 99) (hv : 1 ≤ v ∧ v ≤ 50) : mok (madd s n w v) (n + 1) := by
  obtain ⟨h1, h2, h3, h4⟩ := id hok
  refine ⟨ru_s, by omega, by rw [madd_old (by omega)]; exact h3, fun x hx => ?_⟩
  by_cases c : x = n
  · subst c
    rw [madd_9 hn, madd_21 hn, madd_33]
    exact ⟨hw, hv, by omega⟩
  · rw [madd_old (by omega), madd_old (by omega), madd_old (by omega)]
    exact h4 x (by omega)
theorem mabs_ok {s : zS} {n b : Nat} (hok : mok s (n + 1)) : ∀ j, j ≤ n → mok (mabs s n b j) (n + 1)
  | 0, _ => hok
  | j + 1, h => by
    have ih := mabs_ok (b := b) hok j (by omega)
    rw [mabs]
    split
    · exact mxb_ok ih (by omega) (by omega) (by omega)
    · exact ih
theorem RelU.put1 {g : zM} {k n t : Nat} {s : zS} {v : Int} (hr : RelU g k s n) (hn : n ≤ 12) (ht : t < 12) : RelU (zup g (k + 1) t v) k (ru s (9 + t) v) n := by
  obtain ⟨h1, h2, h3⟩ := hr
  refine ⟨by rw [zup_ne (by omega)]; exact h1, by rw [zup_ne (by omega), ru_n (by omega)]; exact h2, fun x hx => ?_⟩
  obtain ⟨a1, a2, a3⟩ := h3 x hx
  rw [zup_k (show k + 2 ≠ k + 1 by omega), zup_k (show k + 3 ≠ k + 1 by omega), ru_n (show (21 + x : Int) ≠ 9 + t by omega), ru_n (show (33 + x : Int) ≠ 9 + t by omega)]
  refine ⟨?_, a2, a3⟩
  by_cases c : x = t
  · subst c; rw [zup_s, ru_s]
  · rw [zup_i (by omega), ru_n (by omega)]; exact a1
theorem RelU.put2 {g : zM} {k n t : Nat} {s : zS} {v : Int} (hr : RelU g k s n) (hn : n ≤ 12) (ht : t < 12) : RelU (zup g (k + 2) t v) k (ru s (21 + t) v) n := by
  obtain ⟨h1, h2, h3⟩ := hr
  refine ⟨by rw [zup_ne (by omega)]; exact h1, by rw [zup_ne (by omega), ru_n (by omega)]; exact h2, fun x hx => ?_⟩
  obtain ⟨a1, a2, a3⟩ := h3 x hx
  rw [zup_k (show k + 1 ≠ k + 2 by omega), zup_k (show k + 3 ≠ k + 2 by omega), ru_n (show (9 + x : Int) ≠ 21 + t by omega), ru_n (show (33 + x : Int) ≠ 21 + t by omega)]
  refine ⟨a1, ?_, a3⟩
  by_cases c : x = t
  · subst c; rw [zup_s, ru_s]
  · rw [zup_i (by omega), ru_n (by omega)]; exact a2
theorem RelU.put3 {g : zM} {k n t : Nat} {s : zS} {v : Int} (hr : RelU g k s n) (hn : n ≤ 12) (ht : t < 12) : RelU (zup g (k + 3) t v) k (ru s (33 + t) v) n := by
  obtain ⟨h1, h2, h3⟩ := hr
  refine ⟨by rw [zup_ne (by omega)]; exact h1, by rw [zup_ne (by omega), ru_n (by omega)]; exact h2, fun x hx => ?_⟩
  obtain ⟨a1, a2, a3⟩ := h3 x hx
  rw [zup_k (show k + 1 ≠ k + 3 by omega), zup_k (show k + 2 ≠ k + 3 by omega), ru_n (show (9 + x : Int) ≠ 33 + t by omega), ru_n (show (21 + x : Int) ≠ 33 + t by omega)]
  refine ⟨a1, a2, ?_⟩
  by_cases c : x = t
  · subst c; rw [zup_s, ru_s]
  · rw [zup_i (by omega), ru_n (by omega)]; exact a3
section CB2
variable {g : zM} {k n : Nat} {s : zS} {d : Nat} {Q : zP}
theorem c_turnBar (hk : zKB k) (hr : RelU g k s n) (hok : mok s n) {t u : Nat} (ht : t < n) (hu : u < n) (htu : t ≠ u) (hQ : ∀ g' : zM, (∀ j, j ≠ k + 3 → g' j = g j) → RelU g' k (mxb s t u) n → Q none g') : zC (d + 2) 4 [zR k, zI t, zI u] g Q := by
  obtain ⟨hk0, hk1, hk2, hk3, hk4⟩ := id hk
  have hn := hok.2.1
  have bt := mb_lt hok ht
  have bu := mb_lt hok hu
  have p : ∀ x, x < n → 2 ^ x < 2 ^ 12 := fun x hx => Nat.pow_lt_pow_right (by decide) (by omega)
  have pt := p t ht
  have pu := p u hu
  have a3 : g (k + 3) t = (mb s t : Int) := by rw [(hr.2.2 t ht).2.2, mb_eq hok ht]
  have b3 : g (k + 3) u = (mb s u : Int) := by rw [(hr.2.2 u hu).2.2, mb_eq hok hu]
  have b3' : (zup g (k + 3) t (mb s t ^^^ 2 ^ u : Nat)) (k + 3) u = (mb s u : Int) := by rw [zup_i (by omega)]; exact b3
  refine zC.go zm_X0_turnBar ⟨rfl, rfl⟩ rfl ?_
  (refine zW.go (zC_om _) (fun K hK => ?_); conv => whnf)
  (refine And.intro (by first | omega | assumption | rfl | exact zin_and | exact ⟨zin_and, by omega⟩ | exact ⟨by omega, zin_and⟩ | exact Nat.le_of_ble_eq_true rfl | exact ⟨Nat.le_of_ble_eq_true rfl, rfl⟩ | exact ⟨Nat.le_of_ble_eq_true rfl, by assumption⟩ | exact ⟨by omega, Nat.le_of_ble_eq_true rfl⟩ | exact ⟨⟨by assumption, by omega⟩, Nat.le_of_ble_eq_true rfl⟩ | decide) ?_; conv => whnf)
  (refine And.intro (by first | omega | assumption | rfl | exact zin_and | exact ⟨zin_and, by omega⟩ | exact ⟨by omega, zin_and⟩ | exact Nat.le_of_ble_eq_true rfl | exact ⟨Nat.le_of_ble_eq_true rfl, rfl⟩ | exact ⟨Nat.le_of_ble_eq_true rfl, by assumption⟩ | exact ⟨by omega, Nat.le_of_ble_eq_true rfl⟩ | exact ⟨⟨by assumption, by omega⟩, Nat.le_of_ble_eq_true rfl⟩ | decide) ?_; conv => whnf)
  (refine And.intro (by first | omega | assumption | rfl | exact zin_and | exact ⟨zin_and, by omega⟩ | exact ⟨by omega, zin_and⟩ | exact Nat.le_of_ble_eq_true rfl | exact ⟨Nat.le_of_ble_eq_true rfl, rfl⟩ | exact ⟨Nat.le_of_ble_eq_true rfl, by assumption⟩ | exact ⟨by omega, Nat.le_of_ble_eq_true rfl⟩ | exact ⟨⟨by assumption, by omega⟩, Nat.le_of_ble_eq_true rfl⟩ | decide) ?_; conv => whnf)
  (refine c_at hk3 (by omega) a3 ?_; conv => whnf)
  rw [zone_shl (by omega), zxor_nat (by omega) (by omega)]
  (refine And.intro (by first | omega | assumption | rfl | exact zin_and | exact ⟨zin_and, by omega⟩ | exact ⟨by omega, zin_and⟩ | exact Nat.le_of_ble_eq_true rfl | exact ⟨Nat.le_of_ble_eq_true rfl, rfl⟩ | exact ⟨Nat.le_of_ble_eq_true rfl, by assumption⟩ | exact ⟨by omega, Nat.le_of_ble_eq_true rfl⟩ | exact ⟨⟨by assumption, by omega⟩, Nat.le_of_ble_eq_true rfl⟩ | decide) ?_; conv => whnf)
  (refine s_put hk3 (by omega) (by omega) (by omega) ?_; conv => whnf)
  (refine And.intro (by first | omega | assumption | rfl | exact zin_and | exact ⟨zin_and, by omega⟩ | exact ⟨by omega, zin_and⟩ | exact Nat.le_of_ble_eq_true rfl | exact ⟨Nat.le_of_ble_eq_true rfl, rfl⟩ | exact ⟨Nat.le_of_ble_eq_true rfl, by assumption⟩ | exact ⟨by omega, Nat.le_of_ble_eq_true rfl⟩ | exact ⟨⟨by assumption, by omega⟩, Nat.le_of_ble_eq_true rfl⟩ | decide) ?_; conv => whnf)
  (refine And.intro (by first | omega | assumption | rfl | exact zin_and | exact ⟨zin_and, by omega⟩ | exact ⟨by omega, zin_and⟩ | exact Nat.le_of_ble_eq_true rfl | exact ⟨Nat.le_of_ble_eq_true rfl, rfl⟩ | exact ⟨Nat.le_of_ble_eq_true rfl, by assumption⟩ | exact ⟨by omega, Nat.le_of_ble_eq_true rfl⟩ | exact ⟨⟨by assumption, by omega⟩, Nat.le_of_ble_eq_true rfl⟩ | decide) ?_; conv => whnf)
  (refine And.intro (by first | omega | assumption | rfl | exact zin_and | exact ⟨zin_and, by omega⟩ | exact ⟨by omega, zin_and⟩ | exact Nat.le_of_ble_eq_true rfl | exact ⟨Nat.le_of_ble_eq_true rfl, rfl⟩ | exact ⟨Nat.le_of_ble_eq_true rfl, by assumption⟩ | exact ⟨by omega, Nat.le_of_ble_eq_true rfl⟩ | exact ⟨⟨by assumption, by omega⟩, Nat.le_of_ble_eq_true rfl⟩ | decide) ?_; conv => whnf)
  (refine c_at hk3 (by omega) b3' ?_; conv => whnf)
  rw [zone_shl (by omega), zxor_nat (by omega) (by omega)]
  (refine And.intro (by first | omega | assumption | rfl | exact zin_and | exact ⟨zin_and, by omega⟩ | exact ⟨by omega, zin_and⟩ | exact Nat.le_of_ble_eq_true rfl | exact ⟨Nat.le_of_ble_eq_true rfl, rfl⟩ | exact ⟨Nat.le_of_ble_eq_true rfl, by assumption⟩ | exact ⟨by omega, Nat.le_of_ble_eq_true rfl⟩ | exact ⟨⟨by assumption, by omega⟩, Nat.le_of_ble_eq_true rfl⟩ | decide) ?_; conv => whnf)
  (refine s_put hk3 (by omega) (by omega) (by omega) ?_; conv => whnf)
  (refine And.intro (by first | omega | assumption | rfl | exact zin_and | exact ⟨zin_and, by omega⟩ | exact ⟨by omega, zin_and⟩ | exact Nat.le_of_ble_eq_true rfl | exact ⟨Nat.le_of_ble_eq_true rfl, rfl⟩ | exact ⟨Nat.le_of_ble_eq_true rfl, by assumption⟩ | exact ⟨by omega, Nat.le_of_ble_eq_true rfl⟩ | exact ⟨⟨by assumption, by omega⟩, Nat.le_of_ble_eq_true rfl⟩ | decide) ?_; conv => whnf)
  refine hQ _ (fun j hj => by rw [zup_ne hj, zup_ne hj]) ?_
  exact (hr.put3 hn (by omega)).put3 hn (by omega)
theorem RelU.add {w v : Int} (hr : RelU g k s n) (hn : n < 12) : RelU (zup (zup (zup (zup g k (4 : Nat) (n + 1)) (k + 1) n w) (k + 2) n v) (k + 3) n 0) k (madd s n w v) (n + 1) := by
  obtain ⟨h1, h2, h3⟩ := hr
  refine ⟨?_, ?_, fun x hx => ?_⟩
  · rw [zup_ne (by omega), zup_ne (by omega), zup_ne (by omega), zup_s]; rfl
  · rw [zup_ne (by omega), zup_ne (by omega), zup_ne (by omega), zup_i (by decide), madd_old (by omega)]; exact h2
  · rw [zup_k (show k + 1 ≠ k + 3 by omega), zup_k (show k + 1 ≠ k + 2 by omega), zup_k (show k + 2 ≠ k + 3 by omega)]
    by_cases c : x = n
    · subst c
      rw [zup_s, zup_s, zup_s, madd_9 hn, madd_21 hn, madd_33]
      exact ⟨rfl, rfl, rfl⟩
    · obtain ⟨a1, a2, a3⟩ := h3 x (by omega)
      rw [madd_old (by omega), madd_old (by omega), madd_old (by omega)]
      refine ⟨?_, ?_, ?_⟩
      · rw [zup_i (by omega), zup_k (by omega)]; exact a1
      · rw [zup_i (by omega), zup_k (by omega), zup_k (by omega)]; exact a2
      · rw [zup_i (by omega), zup_k (by omega), zup_k (by omega), zup_k (by omega)]; exact a3
theorem c_bagAppend (hk : zKB k) (hr : RelU g k s n) (hok : mok s n) (hn : n < 12) {w v : Int} {b : Nat} (hw : 1 ≤ w ∧ w ≤ 99) (hv : 1 ≤ v ∧ v ≤ 50) (hb : b < 2 ^ 31) (hQ : ∀ g' : zM, (∀ j, (j < k ∨ k + 4 < j) → g' j = g j) → RelB g' k (mab s n w v b) (n + 1) → Q none g') : zC (d + 4) 2 [zR k, zI w, zI v, zI b] g Q := by
  obtain ⟨hk0, hk1, hk2, hk3, hk4⟩ := id hk
  have hn4 := hr.1
  have hok1 := madd_ok hok hn hw hv
  have hr1 := hr.add (w := w) (v := v) hn
  refine zC.go zm_X0_append ⟨rfl, rfl⟩ rfl ?_
  have loop : ∀ (r j : Nat) (g2 : zM), j + r = n → (∀ i, (i < k ∨ k + 4 < i) → g2 i = g i) → RelU g2 k (mabs (madd s n w v) n b j) (n + 1) → zW zX0_append (zC (d + 3)) Q 31 [zR k, zI w, zI v, zI b, zI n, zI j] [] g2 := by
    intro r
    induction r with
    | zero =>
      intro j g2 e hf hr2
      obtain rfl : j = n := by omega
      (refine zW.go (zC_om _) (fun K hK => ?_); conv => whnf)
      (refine And.intro (by first | omega | assumption | rfl | exact zin_and | exact ⟨zin_and, by omega⟩ | exact ⟨by omega, zin_and⟩ | exact Nat.le_of_ble_eq_true rfl | exact ⟨Nat.le_of_ble_eq_true rfl, rfl⟩ | exact ⟨Nat.le_of_ble_eq_true rfl, by assumption⟩ | exact ⟨by omega, Nat.le_of_ble_eq_true rfl⟩ | exact ⟨⟨by assumption, by omega⟩, Nat.le_of_ble_eq_true rfl⟩ | decide) ?_; conv => whnf)
      (refine And.intro (fun h => ?_) (fun h => by omega); conv => whnf)
      (refine hK _ _ _ _ (zW.go (zC_om _) (fun K hK => ?_)); conv => whnf)
      (refine And.intro (by first | omega | assumption | rfl | exact zin_and | exact ⟨zin_and, by omega⟩ | exact ⟨by omega, zin_and⟩ | exact Nat.le_of_ble_eq_true rfl | exact ⟨Nat.le_of_ble_eq_true rfl, rfl⟩ | exact ⟨Nat.le_of_ble_eq_true rfl, by assumption⟩ | exact ⟨by omega, Nat.le_of_ble_eq_true rfl⟩ | exact ⟨⟨by assumption, by omega⟩, Nat.le_of_ble_eq_true rfl⟩ | decide) ?_; conv => whnf)
      (refine c_sort hk hr2 (mabs_ok hok1 j (Nat.le_refl _)) (fun g3 hf3 hr3 => ?_); conv => whnf)
      (refine And.intro (by first | omega | assumption | rfl | exact zin_and | exact ⟨zin_and, by omega⟩ | exact ⟨by omega, zin_and⟩ | exact Nat.le_of_ble_eq_true rfl | exact ⟨Nat.le_of_ble_eq_true rfl, rfl⟩ | exact ⟨Nat.le_of_ble_eq_true rfl, by assumption⟩ | exact ⟨by omega, Nat.le_of_ble_eq_true rfl⟩ | exact ⟨⟨by assumption, by omega⟩, Nat.le_of_ble_eq_true rfl⟩ | decide) ?_; conv => whnf)
      refine hQ g3 (fun i hi => ?_) hr3
      rw [hf3 i (by omega), hf i hi]
    | succ r ih =>
      intro j g2 e hf hr2
      have ih := fun g3 => ih (j + 1) g3 (by omega)
      rw [mabs] at ih
      (refine zW.go (zC_om _) (fun K hK => ?_); conv => whnf)
      (refine And.intro (by first | omega | assumption | rfl | exact zin_and | exact ⟨zin_and, by omega⟩ | exact ⟨by omega, zin_and⟩ | exact Nat.le_of_ble_eq_true rfl | exact ⟨Nat.le_of_ble_eq_true rfl, rfl⟩ | exact ⟨Nat.le_of_ble_eq_true rfl, by assumption⟩ | exact ⟨by omega, Nat.le_of_ble_eq_true rfl⟩ | exact ⟨⟨by assumption, by omega⟩, Nat.le_of_ble_eq_true rfl⟩ | decide) ?_; conv => whnf)
      (refine And.intro (fun h => by omega) (fun h => ?_); conv => whnf)
      (refine And.intro (by first | omega | assumption | rfl | exact zin_and | exact ⟨zin_and, by omega⟩ | exact ⟨by omega, zin_and⟩ | exact Nat.le_of_ble_eq_true rfl | exact ⟨Nat.le_of_ble_eq_true rfl, rfl⟩ | exact ⟨Nat.le_of_ble_eq_true rfl, by assumption⟩ | exact ⟨by omega, Nat.le_of_ble_eq_true rfl⟩ | exact ⟨⟨by assumption, by omega⟩, Nat.le_of_ble_eq_true rfl⟩ | decide) ?_; conv => whnf)
      (refine s_has hb (by omega) ?_; conv => whnf)
      (refine And.intro (by first | omega | assumption | rfl | exact zin_and | exact ⟨zin_and, by omega⟩ | exact ⟨by omega, zin_and⟩ | exact Nat.le_of_ble_eq_true rfl | exact ⟨Nat.le_of_ble_eq_true rfl, rfl⟩ | exact ⟨Nat.le_of_ble_eq_true rfl, by assumption⟩ | exact ⟨by omega, Nat.le_of_ble_eq_true rfl⟩ | exact ⟨⟨by assumption, by omega⟩, Nat.le_of_ble_eq_true rfl⟩ | decide) ?_; conv => whnf)
      by_cases hbt : b.testBit j = true
      · rw [if_pos hbt] at ih ⊢
        (refine And.intro (fun h => by omega) (fun h => ?_); conv => whnf)
        (refine And.intro (by first | omega | assumption | rfl | exact zin_and | exact ⟨zin_and, by omega⟩ | exact ⟨by omega, zin_and⟩ | exact Nat.le_of_ble_eq_true rfl | exact ⟨Nat.le_of_ble_eq_true rfl, rfl⟩ | exact ⟨Nat.le_of_ble_eq_true rfl, by assumption⟩ | exact ⟨by omega, Nat.le_of_ble_eq_true rfl⟩ | exact ⟨⟨by assumption, by omega⟩, Nat.le_of_ble_eq_true rfl⟩ | decide) ?_; conv => whnf)
        (refine c_turnBar hk hr2 (mabs_ok hok1 j (by omega)) (by omega) (by omega) (by omega) (fun g3 hf3 hr3 => ?_); conv => whnf)
        refine hK _ _ _ _ (ih g3 (fun i hi => ?_) hr3)
        rw [hf3 i (by omega), hf i hi]
      · rw [if_neg hbt] at ih ⊢
        (refine And.intro (fun h => ?_) (fun h => by omega); conv => whnf)
        (refine hK _ _ _ _ (zW.go (zC_om _) (fun K hK => ?_)); conv => whnf)
        exact hK _ _ _ _ (ih g2 hf hr2)
  (refine zW.go (zC_om _) (fun K hK => ?_); conv => whnf)
  (refine And.intro (by first | omega | assumption | rfl | exact zin_and | exact ⟨zin_and, by omega⟩ | exact ⟨by omega, zin_and⟩ | exact Nat.le_of_ble_eq_true rfl | exact ⟨Nat.le_of_ble_eq_true rfl, rfl⟩ | exact ⟨Nat.le_of_ble_eq_true rfl, by assumption⟩ | exact ⟨by omega, Nat.le_of_ble_eq_true rfl⟩ | exact ⟨⟨by assumption, by omega⟩, Nat.le_of_ble_eq_true rfl⟩ | decide) ?_; conv => whnf)
  (refine And.intro (by first | omega | assumption | rfl | exact zin_and | exact ⟨zin_and, by omega⟩ | exact ⟨by omega, zin_and⟩ | exact Nat.le_of_ble_eq_true rfl | exact ⟨Nat.le_of_ble_eq_true rfl, rfl⟩ | exact ⟨Nat.le_of_ble_eq_true rfl, by assumption⟩ | exact ⟨by omega, Nat.le_of_ble_eq_true rfl⟩ | exact ⟨⟨by assumption, by omega⟩, Nat.le_of_ble_eq_true rfl⟩ | decide) ?_; conv => whnf)
  (refine And.intro (fun h => ?_) (fun h => by omega); conv => whnf)
  (refine hK _ _ _ _ ?_)
  (refine zW.upto (zC_om _) 26 (fun K hK => ?_); conv => whnf)
  (refine And.intro (by first | omega | assumption | rfl | exact zin_and | exact ⟨zin_and, by omega⟩ | exact ⟨by omega, zin_and⟩ | exact Nat.le_of_ble_eq_true rfl | exact ⟨Nat.le_of_ble_eq_true rfl, rfl⟩ | exact ⟨Nat.le_of_ble_eq_true rfl, by assumption⟩ | exact ⟨by omega, Nat.le_of_ble_eq_true rfl⟩ | exact ⟨⟨by assumption, by omega⟩, Nat.le_of_ble_eq_true rfl⟩ | decide) ?_; conv => whnf)
  (refine And.intro (by first | omega | assumption | rfl | exact zin_and | exact ⟨zin_and, by omega⟩ | exact ⟨by omega, zin_and⟩ | exact Nat.le_of_ble_eq_true rfl | exact ⟨Nat.le_of_ble_eq_true rfl, rfl⟩ | exact ⟨Nat.le_of_ble_eq_true rfl, by assumption⟩ | exact ⟨by omega, Nat.le_of_ble_eq_true rfl⟩ | exact ⟨⟨by assumption, by omega⟩, Nat.le_of_ble_eq_true rfl⟩ | decide) ?_; conv => whnf)
  (refine And.intro ⟨by assumption, fun w => absurd w (by decide)⟩ ?_; conv => whnf)
  rw [hn4]
  (refine And.intro (by first | omega | assumption | rfl | exact zin_and | exact ⟨zin_and, by omega⟩ | exact ⟨by omega, zin_and⟩ | exact Nat.le_of_ble_eq_true rfl | exact ⟨Nat.le_of_ble_eq_true rfl, rfl⟩ | exact ⟨Nat.le_of_ble_eq_true rfl, by assumption⟩ | exact ⟨by omega, Nat.le_of_ble_eq_true rfl⟩ | exact ⟨⟨by assumption, by omega⟩, Nat.le_of_ble_eq_true rfl⟩ | decide) ?_; conv => whnf)
  (refine And.intro (by first | omega | assumption | rfl | exact zin_and | exact ⟨zin_and, by omega⟩ | exact ⟨by omega, zin_and⟩ | exact Nat.le_of_ble_eq_true rfl | exact ⟨Nat.le_of_ble_eq_true rfl, rfl⟩ | exact ⟨Nat.le_of_ble_eq_true rfl, by assumption⟩ | exact ⟨by omega, Nat.le_of_ble_eq_true rfl⟩ | exact ⟨⟨by assumption, by omega⟩, Nat.le_of_ble_eq_true rfl⟩ | decide) ?_; conv => whnf)
  (refine s_put hk1 (by omega) (by omega) (by omega) ?_; conv => whnf)
  (refine And.intro (by first | omega | assumption | rfl | exact zin_and | exact ⟨zin_and, by omega⟩ | exact ⟨by omega, zin_and⟩ | exact Nat.le_of_ble_eq_true rfl | exact ⟨Nat.le_of_ble_eq_true rfl, rfl⟩ | exact ⟨Nat.le_of_ble_eq_true rfl, by assumption⟩ | exact ⟨by omega, Nat.le_of_ble_eq_true rfl⟩ | exact ⟨⟨by assumption, by omega⟩, Nat.le_of_ble_eq_true rfl⟩ | decide) ?_; conv => whnf)
  (refine And.intro (by first | omega | assumption | rfl | exact zin_and | exact ⟨zin_and, by omega⟩ | exact ⟨by omega, zin_and⟩ | exact Nat.le_of_ble_eq_true rfl | exact ⟨Nat.le_of_ble_eq_true rfl, rfl⟩ | exact ⟨Nat.le_of_ble_eq_true rfl, by assumption⟩ | exact ⟨by omega, Nat.le_of_ble_eq_true rfl⟩ | exact ⟨⟨by assumption, by omega⟩, Nat.le_of_ble_eq_true rfl⟩ | decide) ?_; conv => whnf)
  (refine s_put hk2 (by omega) (by omega) (by omega) ?_; conv => whnf)
  (refine And.intro (by first | omega | assumption | rfl | exact zin_and | exact ⟨zin_and, by omega⟩ | exact ⟨by omega, zin_and⟩ | exact Nat.le_of_ble_eq_true rfl | exact ⟨Nat.le_of_ble_eq_true rfl, rfl⟩ | exact ⟨Nat.le_of_ble_eq_true rfl, by assumption⟩ | exact ⟨by omega, Nat.le_of_ble_eq_true rfl⟩ | exact ⟨⟨by assumption, by omega⟩, Nat.le_of_ble_eq_true rfl⟩ | decide) ?_; conv => whnf)
  (refine And.intro (by first | omega | assumption | rfl | exact zin_and | exact ⟨zin_and, by omega⟩ | exact ⟨by omega, zin_and⟩ | exact Nat.le_of_ble_eq_true rfl | exact ⟨Nat.le_of_ble_eq_true rfl, rfl⟩ | exact ⟨Nat.le_of_ble_eq_true rfl, by assumption⟩ | exact ⟨by omega, Nat.le_of_ble_eq_true rfl⟩ | exact ⟨⟨by assumption, by omega⟩, Nat.le_of_ble_eq_true rfl⟩ | decide) ?_; conv => whnf)
  (refine s_put hk3 (by omega) (by omega) (by omega) ?_; conv => whnf)
  exact hK _ _ _ _ (loop n 0 _ (by omega) (fun i hi => by rw [zup_ne (by omega), zup_ne (by omega), zup_ne (by omega), zup_ne (by omega)]) hr1)
end CB2
end
section
/-! a thing less -/
def mdb (t b : Nat) : Nat := b % 2 ^ t ||| b / 2 ^ (t + 1) * 2 ^ t
theorem mdb_bit (t b j : Nat) : (mdb t b).testBit j = if j < t then b.testBit j else b.testBit (j + 1) := by
  unfold mdb
  rw [Nat.testBit_or, Nat.testBit_mod_two_pow, Nat.testBit_mul_two_pow, Nat.testBit_div_two_pow]
  by_cases h : j < t
  · rw [if_pos h]
    simp [h]
    intro q
    omega
  · rw [if_neg h, show j - t + (t + 1) = j + 1 by omega]
    simp [h]
    omega
theorem mdb_lt {t b n : Nat} (h : b < 2 ^ (n + 1)) (ht : t ≤ n) : mdb t b < 2 ^ n := by
  refine zbits_lt (fun j hj => ?_)
  rw [mdb_bit, if_neg (by omega)]
  exact zlt_bits h (by omega)
theorem ndf_lo (t b : Nat) : ndf (b / 2) (2 ^ t - 1) = b / 2 ^ (t + 1) * 2 ^ t := by
  refine Nat.eq_of_testBit_eq (fun j => ?_)
  rw [ndf_bit, Nat.testBit_two_pow_sub_one, Nat.testBit_mul_two_pow, Nat.testBit_div_two_pow]
  have : (b / 2).testBit j = b.testBit (j + 1) := by
    have := Nat.testBit_div_two_pow (n := 1) b j
    rw [Nat.pow_one] at this
    rw [this]
  rw [this]
  by_cases h : j < t
  · simp [h]
    intro q
    omega
  · have e : j - t + (t + 1) = j + 1 := by omega
    rw [e]
    simp [h]
    omega
theorem zdrop {t b : Nat} (ht : t < 12) (hb : b < 4096) : zor (zand b ((2 ^ t - 1 : Nat) : Int)) (zand (zshr b 1) (zxor ((2 ^ t - 1 : Nat) : Int) (-1))) = (mdb t b : Nat) := by
  have h2 : 2 ^ t < 2 ^ 12 := Nat.pow_lt_pow_right (by decide) ht
  have h1 := zshr_nat (a := b) (t := 1) (by omega) (by omega)
  rw [show ((1 : Nat) : Int) = 1 from rfl, Nat.pow_one] at h1
  rw [h1, zandnot (by omega) (by omega), zand_nat (by omega) (by omega), ndf_lo, Nat.and_two_pow_sub_one_eq_mod]
  have h3 : b / 2 ^ (t + 1) * 2 ^ t ≤ b := by
    have q1 := Nat.div_mul_le_self b (2 ^ (t + 1))
    have q2 : b / 2 ^ (t + 1) * 2 ^ t ≤ b / 2 ^ (t + 1) * 2 ^ (t + 1) := Nat.mul_le_mul_left _ (Nat.pow_le_pow_right (by decide) (by omega))
    omega
  have h4 : b % 2 ^ t ≤ b := Nat.mod_le _ _
  exact zor_nat (by omega) (by omega)
def mdrop (s : zS) (n t : Nat) : zS := fun j =>
  if j = 0 then (n : Int) - 1
  else if (9 + t ≤ j ∧ j < 9 + n - 1) ∨ (21 + t ≤ j ∧ j < 21 + n - 1) then s (j + 1)
  else if 33 ≤ j ∧ j < 33 + n - 1 then (mdb t (mb s (if j < 33 + t then (j - 33).toNat else (j - 32).toNat)) : Nat)
  else s j
theorem mdrop_0 {s : zS} {n t : Nat} : mdrop s n t 0 = (n : Int) - 1 := rfl
theorem mdrop_9 {s : zS} {n t i : Nat} (hn : n ≤ 12) (hi : i + 1 < n) : mdrop s n t (9 + i) = if i < t then s (9 + i) else s (9 + (i + 1 : Nat)) := by
  unfold mdrop
  rw [if_neg (by omega)]
  by_cases h : i < t
  · rw [if_neg (by omega), if_neg (by omega), if_pos h]
  · rw [if_pos (by omega), if_neg h]
    congr 1
theorem mdrop_21 {s : zS} {n t i : Nat} (hn : n ≤ 12) (hi : i + 1 < n) : mdrop s n t (21 + i) = if i < t then s (21 + i) else s (21 + (i + 1 : Nat)) := by
  unfold mdrop
  rw [if_neg (by omega)]
  by_cases h : i < t
  · rw [if_neg (by omega), if_neg (by omega), if_pos h]
  · rw [if_pos (by omega), if_neg h]
    congr 1
theorem mdrop_33 {s : zS} {n t i : Nat} (hn : n ≤ 12) (hi : i + 1 < n) : mdrop s n t (33 + i) = (mdb t (mb s (if i < t then i else i + 1)) : Nat) := by
  unfold mdrop
  rw [if_neg (by omega), if_neg (by omega), if_pos (by omega)]
  congr 3
  by_cases h : i < t
  · rw [if_pos h, if_pos (by omega)]; omega
  · rw [if_neg h, if_neg (by omega)]; omega
theorem mdrop_old {s : zS} {n t : Nat} {j : Int} (hn : n ≤ 12) (h : j ≠ 0 ∧ (j < 9 ∨ 45 ≤ j)) : mdrop s n t j = s j := by
  unfold mdrop
  rw [if_neg (by omega), if_neg (by omega), if_neg (by omega)]
theorem mdrop_ok {s : zS} {n t : Nat} (hok : mok s n) (ht : t < n) : mok (mdrop s n t) (n - 1) := by
  obtain ⟨h1, h2, h3, h4⟩ := id hok
  refine ⟨by rw [mdrop_0]; omega, by omega, by rw [mdrop_old h2 (by omega)]; exact h3, fun x hx => ?_⟩
  rw [mdrop_9 h2 (by omega), mdrop_21 h2 (by omega), mdrop_33 h2 (by omega)]
  have hb : ∀ y, y < n → mdb t (mb s y) < 4096 := by
    intro y hy
    have := mb_lt hok hy
    have : mdb t (mb s y) < 2 ^ 12 := mdb_lt (n := 12) (by omega) (by omega)
    omega
  by_cases c : x < t
  · rw [if_pos c, if_pos c, if_pos c]
    obtain ⟨a1, a2, a3⟩ := h4 x (by omega)
    have := hb x (by omega)
    exact ⟨a1, a2, by omega⟩
  · rw [if_neg c, if_neg c, if_neg c]
    obtain ⟨a1, a2, a3⟩ := h4 (x + 1) (by omega)
    have := hb (x + 1) (by omega)
    exact ⟨a1, a2, by omega⟩
section CDR
variable {g : zM} {k n : Nat} {s : zS} {d : Nat} {Q : zP}
theorem c_drop (hk : zKB k) (hr : RelU g k s n) (hok : mok s n) {t : Nat} (ht : t < n) (hQ : ∀ g' : zM, (∀ j, (j < k ∨ k + 4 < j) → g' j = g j) → RelB g' k (mdrop s n t) (n - 1) → Q none g') : zC (d + 4) 3 [zR k, zI t] g Q := by
  obtain ⟨hk0, hk1, hk2, hk3, hk4⟩ := id hk
  have hn := hok.2.1
  have hn4 := hr.1
  have h2t : 2 ^ t < 2 ^ 12 := Nat.pow_lt_pow_right (by decide) (by omega)
  have h2p := Nat.two_pow_pos t
  have hone := zone_shl (show t < 31 by omega)
  have hsub : (2 ^ t : Nat) - (1 : Int) = ((2 ^ t - 1 : Nat) : Int) := by omega
  refine zC.go zm_X0_drop ⟨rfl, rfl⟩ rfl ?_
  -- the second loop
  have l2 : ∀ (r y : Nat) (g2 : zM) (x4 : zV), y + r = n - 1 → (∀ i, (i < k ∨ k + 4 < i) → g2 i = g i) → g2 k (4 : Nat) = ((n - 1 : Nat) : Int) → g2 k (5 : Nat) = s 1 → (∀ i : Nat, i + 1 < n → g2 (k + 1) i = mdrop s n t (9 + i) ∧ g2 (k + 2) i = mdrop s n t (21 + i) ∧ g2 (k + 3) i = if i < y then mdrop s n t (33 + i) else (mb s (if i < t then i else i + 1) : Nat)) → zW zX0_drop (zC (d + 3)) Q 54 [zR k, zI t, zI ((2 ^ t - 1 : Nat) : Int), zI y, x4] [] g2 := by
    intro r
    induction r with
    | zero =>
      intro y g2 x4 e hf h4 h5 hrow
      (refine zW.go (zC_om _) (fun K hK => ?_); conv => whnf)
      (refine And.intro (by first | omega | assumption | rfl | exact zin_and | exact ⟨zin_and, by omega⟩ | exact ⟨by omega, zin_and⟩ | exact Nat.le_of_ble_eq_true rfl | exact ⟨Nat.le_of_ble_eq_true rfl, rfl⟩ | exact ⟨Nat.le_of_ble_eq_true rfl, by assumption⟩ | exact ⟨by omega, Nat.le_of_ble_eq_true rfl⟩ | exact ⟨⟨by assumption, by omega⟩, Nat.le_of_ble_eq_true rfl⟩ | decide) ?_; conv => whnf)
      rw [h4]
      (refine And.intro (by first | omega | assumption | rfl | exact zin_and | exact ⟨zin_and, by omega⟩ | exact ⟨by omega, zin_and⟩ | exact Nat.le_of_ble_eq_true rfl | exact ⟨Nat.le_of_ble_eq_true rfl, rfl⟩ | exact ⟨Nat.le_of_ble_eq_true rfl, by assumption⟩ | exact ⟨by omega, Nat.le_of_ble_eq_true rfl⟩ | exact ⟨⟨by assumption, by omega⟩, Nat.le_of_ble_eq_true rfl⟩ | decide) ?_; conv => whnf)
      (refine And.intro (fun h => ?_) (fun h => by omega); conv => whnf)
      (refine hK _ _ _ _ (zW.go (zC_om _) (fun K hK => ?_)); conv => whnf)
      (refine And.intro (by first | omega | assumption | rfl | exact zin_and | exact ⟨zin_and, by omega⟩ | exact ⟨by omega, zin_and⟩ | exact Nat.le_of_ble_eq_true rfl | exact ⟨Nat.le_of_ble_eq_true rfl, rfl⟩ | exact ⟨Nat.le_of_ble_eq_true rfl, by assumption⟩ | exact ⟨by omega, Nat.le_of_ble_eq_true rfl⟩ | exact ⟨⟨by assumption, by omega⟩, Nat.le_of_ble_eq_true rfl⟩ | decide) ?_; conv => whnf)
      (refine c_sort (s := mdrop s n t) (n := n - 1) hk ⟨h4, by rw [h5, mdrop_old hn (by omega)], fun i hi => ?_⟩ (mdrop_ok hok ht) (fun g3 hf3 hr3 => ?_); conv => whnf)
      · obtain ⟨a1, a2, a3⟩ := hrow i (by omega)
        rw [if_pos (by omega)] at a3
        exact ⟨a1, a2, a3⟩
      · (refine And.intro (by first | omega | assumption | rfl | exact zin_and | exact ⟨zin_and, by omega⟩ | exact ⟨by omega, zin_and⟩ | exact Nat.le_of_ble_eq_true rfl | exact ⟨Nat.le_of_ble_eq_true rfl, rfl⟩ | exact ⟨Nat.le_of_ble_eq_true rfl, by assumption⟩ | exact ⟨by omega, Nat.le_of_ble_eq_true rfl⟩ | exact ⟨⟨by assumption, by omega⟩, Nat.le_of_ble_eq_true rfl⟩ | decide) ?_; conv => whnf)
        exact hQ g3 (fun i hi => by rw [hf3 i (by omega), hf i hi]) hr3
    | succ r ih =>
      intro y g2 x4 e hf h4 h5 hrow
      obtain ⟨a1, a2, a3⟩ := hrow y (by omega)
      rw [if_neg (by omega)] at a3
      have hb : mb s (if y < t then y else y + 1) < 4096 := by
        split
        · exact mb_lt hok (by omega)
        · exact mb_lt hok (by omega)
      (refine zW.go (zC_om _) (fun K hK => ?_); conv => whnf)
      (refine And.intro (by first | omega | assumption | rfl | exact zin_and | exact ⟨zin_and, by omega⟩ | exact ⟨by omega, zin_and⟩ | exact Nat.le_of_ble_eq_true rfl | exact ⟨Nat.le_of_ble_eq_true rfl, rfl⟩ | exact ⟨Nat.le_of_ble_eq_true rfl, by assumption⟩ | exact ⟨by omega, Nat.le_of_ble_eq_true rfl⟩ | exact ⟨⟨by assumption, by omega⟩, Nat.le_of_ble_eq_true rfl⟩ | decide) ?_; conv => whnf)
      rw [h4]
      (refine And.intro (by first | omega | assumption | rfl | exact zin_and | exact ⟨zin_and, by omega⟩ | exact ⟨by omega, zin_and⟩ | exact Nat.le_of_ble_eq_true rfl | exact ⟨Nat.le_of_ble_eq_true rfl, rfl⟩ | exact ⟨Nat.le_of_ble_eq_true rfl, by assumption⟩ | exact ⟨by omega, Nat.le_of_ble_eq_true rfl⟩ | exact ⟨⟨by assumption, by omega⟩, Nat.le_of_ble_eq_true rfl⟩ | decide) ?_; conv => whnf)
      (refine And.intro (fun h => by omega) (fun h => ?_); conv => whnf)
      (refine And.intro (by first | omega | assumption | rfl | exact zin_and | exact ⟨zin_and, by omega⟩ | exact ⟨by omega, zin_and⟩ | exact Nat.le_of_ble_eq_true rfl | exact ⟨Nat.le_of_ble_eq_true rfl, rfl⟩ | exact ⟨Nat.le_of_ble_eq_true rfl, by assumption⟩ | exact ⟨by omega, Nat.le_of_ble_eq_true rfl⟩ | exact ⟨⟨by assumption, by omega⟩, Nat.le_of_ble_eq_true rfl⟩ | decide) ?_; conv => whnf)
      (refine And.intro (by first | omega | assumption | rfl | exact zin_and | exact ⟨zin_and, by omega⟩ | exact ⟨by omega, zin_and⟩ | exact Nat.le_of_ble_eq_true rfl | exact ⟨Nat.le_of_ble_eq_true rfl, rfl⟩ | exact ⟨Nat.le_of_ble_eq_true rfl, by assumption⟩ | exact ⟨by omega, Nat.le_of_ble_eq_true rfl⟩ | exact ⟨⟨by assumption, by omega⟩, Nat.le_of_ble_eq_true rfl⟩ | decide) ?_; conv => whnf)
      (refine c_at hk3 (by omega) a3 ?_; conv => whnf)
      (refine And.intro (by first | omega | assumption | rfl | exact zin_and | exact ⟨zin_and, by omega⟩ | exact ⟨by omega, zin_and⟩ | exact Nat.le_of_ble_eq_true rfl | exact ⟨Nat.le_of_ble_eq_true rfl, rfl⟩ | exact ⟨Nat.le_of_ble_eq_true rfl, by assumption⟩ | exact ⟨by omega, Nat.le_of_ble_eq_true rfl⟩ | exact ⟨⟨by assumption, by omega⟩, Nat.le_of_ble_eq_true rfl⟩ | decide) ?_; conv => whnf)
      rw [zdrop (by omega) hb]
      (refine And.intro (by first | omega | assumption | rfl | exact zin_and | exact ⟨zin_and, by omega⟩ | exact ⟨by omega, zin_and⟩ | exact Nat.le_of_ble_eq_true rfl | exact ⟨Nat.le_of_ble_eq_true rfl, rfl⟩ | exact ⟨Nat.le_of_ble_eq_true rfl, by assumption⟩ | exact ⟨by omega, Nat.le_of_ble_eq_true rfl⟩ | exact ⟨⟨by assumption, by omega⟩, Nat.le_of_ble_eq_true rfl⟩ | decide) ?_; conv => whnf)
      (refine s_put hk3 (by omega) (by omega) (by omega) ?_; conv => whnf)
      refine hK _ _ _ _ (ih (y + 1) _ _ (by omega) (fun i hi => ?_) ?_ ?_ (fun i hi => ?_))
      · rw [zup_ne (by omega), hf i hi]
      · rw [zup_ne (by omega)]; exact h4
      · rw [zup_ne (by omega)]; exact h5
      · obtain ⟨b1, b2, b3⟩ := hrow i hi
        rw [zup_k (show k + 1 ≠ k + 3 by omega), zup_k (show k + 2 ≠ k + 3 by omega)]
        refine ⟨b1, b2, ?_⟩
        by_cases c : i = y
        · subst c
          rw [zup_s, if_pos (show i < i + 1 by omega), mdrop_33 hn hi]
        · rw [zup_i (by omega), b3]
          by_cases c2 : i < y
          · rw [if_pos c2, if_pos (show i < y + 1 by omega)]
          · rw [if_neg c2, if_neg (show ¬ i < y + 1 by omega)]
  -- the first loop
  have l1 : ∀ (r x : Nat) (g2 : zM), x + r = n → t < x → (∀ i, (i < k ∨ k + 4 < i) → g2 i = g i) → g2 k = g k → (∀ i : Nat, i < n → g2 (k + 1) i = s (9 + (if t ≤ i ∧ i + 1 < x then i + 1 else i : Nat)) ∧ g2 (k + 2) i = s (21 + (if t ≤ i ∧ i + 1 < x then i + 1 else i : Nat)) ∧ g2 (k + 3) i = s (33 + (if t ≤ i ∧ i + 1 < x then i + 1 else i : Nat))) → zW zX0_drop (zC (d + 3)) Q 4 [zR k, zI t, zI x, zU, zU] [] g2 := by
    intro r
    induction r with
    | zero =>
      intro x g2 e hx hf hgk hrow
      obtain rfl : x = n := by omega
      have h4 : g2 k (4 : Nat) = (x : Int) := by rw [hgk]; exact hn4
      (refine zW.go (zC_om _) (fun K hK => ?_); conv => whnf)
      (refine And.intro (by first | omega | assumption | rfl | exact zin_and | exact ⟨zin_and, by omega⟩ | exact ⟨by omega, zin_and⟩ | exact Nat.le_of_ble_eq_true rfl | exact ⟨Nat.le_of_ble_eq_true rfl, rfl⟩ | exact ⟨Nat.le_of_ble_eq_true rfl, by assumption⟩ | exact ⟨by omega, Nat.le_of_ble_eq_true rfl⟩ | exact ⟨⟨by assumption, by omega⟩, Nat.le_of_ble_eq_true rfl⟩ | decide) ?_; conv => whnf)
      (refine And.intro (by first | omega | assumption | rfl | exact zin_and | exact ⟨zin_and, by omega⟩ | exact ⟨by omega, zin_and⟩ | exact Nat.le_of_ble_eq_true rfl | exact ⟨Nat.le_of_ble_eq_true rfl, rfl⟩ | exact ⟨Nat.le_of_ble_eq_true rfl, by assumption⟩ | exact ⟨by omega, Nat.le_of_ble_eq_true rfl⟩ | exact ⟨⟨by assumption, by omega⟩, Nat.le_of_ble_eq_true rfl⟩ | decide) ?_; conv => whnf)
      (refine And.intro (fun h => ?_) (fun h => by omega); conv => whnf)
      (refine hK _ _ _ _ ?_)
      (refine zW.upto (zC_om _) 14 (fun K hK => ?_); conv => whnf)
      (refine And.intro (by first | omega | assumption | rfl | exact zin_and | exact ⟨zin_and, by omega⟩ | exact ⟨by omega, zin_and⟩ | exact Nat.le_of_ble_eq_true rfl | exact ⟨Nat.le_of_ble_eq_true rfl, rfl⟩ | exact ⟨Nat.le_of_ble_eq_true rfl, by assumption⟩ | exact ⟨by omega, Nat.le_of_ble_eq_true rfl⟩ | exact ⟨⟨by assumption, by omega⟩, Nat.le_of_ble_eq_true rfl⟩ | decide) ?_; conv => whnf)
      (refine And.intro ⟨by assumption, fun w => absurd w (by decide)⟩ ?_; conv => whnf)
      rw [hone, hsub, h4]
      refine hK _ _ _ _ (l2 (x - 1) 0 _ _ (by omega) (fun i hi => ?_) ?_ ?_ (fun i hi => ?_))
      · rw [zup_ne (by omega), hf i hi]
      · rw [zup_s]; omega
      · rw [zup_i (by decide), hgk]; exact hr.2.1
      · obtain ⟨b1, b2, b3⟩ := hrow i (by omega)
        rw [zup_k (by omega), zup_k (by omega), zup_k (by omega), mdrop_9 hn hi, mdrop_21 hn hi, b1, b2, b3, if_neg (show ¬ i < 0 by omega)]
        by_cases c : i < t
        · rw [if_neg (by omega), if_pos c, if_pos c, if_pos c, mb_eq hok (by omega)]
          exact ⟨rfl, rfl, rfl⟩
        · rw [if_pos (by omega), if_neg c, if_neg c, if_neg c, mb_eq hok (by omega)]
          exact ⟨rfl, rfl, rfl⟩
    | succ r ih =>
      intro x g2 e hx hf hgk hrow
      have h4 : g2 k (4 : Nat) = (n : Int) := by rw [hgk]; exact hn4
      obtain ⟨a1, a2, a3⟩ := hrow x (by omega)
      rw [if_neg (by omega)] at a1 a2 a3
      have e1 : (x : Int) - 1 = ((x - 1 : Nat) : Int) := by omega
      (refine zW.go (zC_om _) (fun K hK => ?_); conv => whnf)
      (refine And.intro (by first | omega | assumption | rfl | exact zin_and | exact ⟨zin_and, by omega⟩ | exact ⟨by omega, zin_and⟩ | exact Nat.le_of_ble_eq_true rfl | exact ⟨Nat.le_of_ble_eq_true rfl, rfl⟩ | exact ⟨Nat.le_of_ble_eq_true rfl, by assumption⟩ | exact ⟨by omega, Nat.le_of_ble_eq_true rfl⟩ | exact ⟨⟨by assumption, by omega⟩, Nat.le_of_ble_eq_true rfl⟩ | decide) ?_; conv => whnf)
      (refine And.intro (by first | omega | assumption | rfl | exact zin_and | exact ⟨zin_and, by omega⟩ | exact ⟨by omega, zin_and⟩ | exact Nat.le_of_ble_eq_true rfl | exact ⟨Nat.le_of_ble_eq_true rfl, rfl⟩ | exact ⟨Nat.le_of_ble_eq_true rfl, by assumption⟩ | exact ⟨by omega, Nat.le_of_ble_eq_true rfl⟩ | exact ⟨⟨by assumption, by omega⟩, Nat.le_of_ble_eq_true rfl⟩ | decide) ?_; conv => whnf)
      (refine And.intro (fun h => by omega) (fun h => ?_); conv => whnf)
      (refine And.intro (by first | omega | assumption | rfl | exact zin_and | exact ⟨zin_and, by omega⟩ | exact ⟨by omega, zin_and⟩ | exact Nat.le_of_ble_eq_true rfl | exact ⟨Nat.le_of_ble_eq_true rfl, rfl⟩ | exact ⟨Nat.le_of_ble_eq_true rfl, by assumption⟩ | exact ⟨by omega, Nat.le_of_ble_eq_true rfl⟩ | exact ⟨⟨by assumption, by omega⟩, Nat.le_of_ble_eq_true rfl⟩ | decide) ?_; conv => whnf)
      (refine And.intro (by first | omega | assumption | rfl | exact zin_and | exact ⟨zin_and, by omega⟩ | exact ⟨by omega, zin_and⟩ | exact Nat.le_of_ble_eq_true rfl | exact ⟨Nat.le_of_ble_eq_true rfl, rfl⟩ | exact ⟨Nat.le_of_ble_eq_true rfl, by assumption⟩ | exact ⟨by omega, Nat.le_of_ble_eq_true rfl⟩ | exact ⟨⟨by assumption, by omega⟩, Nat.le_of_ble_eq_true rfl⟩ | decide) ?_; conv => whnf)
      (refine And.intro (by first | omega | assumption | rfl | exact zin_and | exact ⟨zin_and, by omega⟩ | exact ⟨by omega, zin_and⟩ | exact Nat.le_of_ble_eq_true rfl | exact ⟨Nat.le_of_ble_eq_true rfl, rfl⟩ | exact ⟨Nat.le_of_ble_eq_true rfl, by assumption⟩ | exact ⟨by omega, Nat.le_of_ble_eq_true rfl⟩ | exact ⟨⟨by assumption, by omega⟩, Nat.le_of_ble_eq_true rfl⟩ | decide) ?_; conv => whnf)
      (refine c_at hk1 (by omega) a1 ?_; conv => whnf)
      rw [e1]
      (refine And.intro (by first | omega | assumption | rfl | exact zin_and | exact ⟨zin_and, by omega⟩ | exact ⟨by omega, zin_and⟩ | exact Nat.le_of_ble_eq_true rfl | exact ⟨Nat.le_of_ble_eq_true rfl, rfl⟩ | exact ⟨Nat.le_of_ble_eq_true rfl, by assumption⟩ | exact ⟨by omega, Nat.le_of_ble_eq_true rfl⟩ | exact ⟨⟨by assumption, by omega⟩, Nat.le_of_ble_eq_true rfl⟩ | decide) ?_; conv => whnf)
      (refine s_put hk1 (by omega) (by omega) (by omega) ?_; conv => whnf)
      (refine And.intro (by first | omega | assumption | rfl | exact zin_and | exact ⟨zin_and, by omega⟩ | exact ⟨by omega, zin_and⟩ | exact Nat.le_of_ble_eq_true rfl | exact ⟨Nat.le_of_ble_eq_true rfl, rfl⟩ | exact ⟨Nat.le_of_ble_eq_true rfl, by assumption⟩ | exact ⟨by omega, Nat.le_of_ble_eq_true rfl⟩ | exact ⟨⟨by assumption, by omega⟩, Nat.le_of_ble_eq_true rfl⟩ | decide) ?_; conv => whnf)
      (refine And.intro (by first | omega | assumption | rfl | exact zin_and | exact ⟨zin_and, by omega⟩ | exact ⟨by omega, zin_and⟩ | exact Nat.le_of_ble_eq_true rfl | exact ⟨Nat.le_of_ble_eq_true rfl, rfl⟩ | exact ⟨Nat.le_of_ble_eq_true rfl, by assumption⟩ | exact ⟨by omega, Nat.le_of_ble_eq_true rfl⟩ | exact ⟨⟨by assumption, by omega⟩, Nat.le_of_ble_eq_true rfl⟩ | decide) ?_; conv => whnf)
      (refine And.intro (by first | omega | assumption | rfl | exact zin_and | exact ⟨zin_and, by omega⟩ | exact ⟨by omega, zin_and⟩ | exact Nat.le_of_ble_eq_true rfl | exact ⟨Nat.le_of_ble_eq_true rfl, rfl⟩ | exact ⟨Nat.le_of_ble_eq_true rfl, by assumption⟩ | exact ⟨by omega, Nat.le_of_ble_eq_true rfl⟩ | exact ⟨⟨by assumption, by omega⟩, Nat.le_of_ble_eq_true rfl⟩ | decide) ?_; conv => whnf)
      (refine c_at hk2 (by omega) (show (zup g2 (k + 1) ((x - 1 : Nat) : Int) (s (9 + x))) (k + 2) x = s (21 + x) by rw [zup_k (by omega)]; exact a2) ?_; conv => whnf)
      rw [e1]
      (refine And.intro (by first | omega | assumption | rfl | exact zin_and | exact ⟨zin_and, by omega⟩ | exact ⟨by omega, zin_and⟩ | exact Nat.le_of_ble_eq_true rfl | exact ⟨Nat.le_of_ble_eq_true rfl, rfl⟩ | exact ⟨Nat.le_of_ble_eq_true rfl, by assumption⟩ | exact ⟨by omega, Nat.le_of_ble_eq_true rfl⟩ | exact ⟨⟨by assumption, by omega⟩, Nat.le_of_ble_eq_true rfl⟩ | decide) ?_; conv => whnf)
      (refine s_put hk2 (by omega) (by omega) (by omega) ?_; conv => whnf)
      (refine And.intro (by first | omega | assumption | rfl | exact zin_and | exact ⟨zin_and, by omega⟩ | exact ⟨by omega, zin_and⟩ | exact Nat.le_of_ble_eq_true rfl | exact ⟨Nat.le_of_ble_eq_true rfl, rfl⟩ | exact ⟨Nat.le_of_ble_eq_true rfl, by assumption⟩ | exact ⟨by omega, Nat.le_of_ble_eq_true rfl⟩ | exact ⟨⟨by assumption, by omega⟩, Nat.le_of_ble_eq_true rfl⟩ | decide) ?_; conv => whnf)
      (refine And.intro (by first | omega | assumption | rfl | exact zin_and | exact ⟨zin_and, by omega⟩ | exact ⟨by omega, zin_and⟩ | exact Nat.le_of_ble_eq_true rfl | exact ⟨Nat.le_of_ble_eq_true rfl, rfl⟩ | exact ⟨Nat.le_of_ble_eq_true rfl, by assumption⟩ | exact ⟨by omega, Nat.le_of_ble_eq_true rfl⟩ | exact ⟨⟨by assumption, by omega⟩, Nat.le_of_ble_eq_true rfl⟩ | decide) ?_; conv => whnf)
      (refine And.intro (by first | omega | assumption | rfl | exact zin_and | exact ⟨zin_and, by omega⟩ | exact ⟨by omega, zin_and⟩ | exact Nat.le_of_ble_eq_true rfl | exact ⟨Nat.le_of_ble_eq_true rfl, rfl⟩ | exact ⟨Nat.le_of_ble_eq_true rfl, by assumption⟩ | exact ⟨by omega, Nat.le_of_ble_eq_true rfl⟩ | exact ⟨⟨by assumption, by omega⟩, Nat.le_of_ble_eq_true rfl⟩ | decide) ?_; conv => whnf)
      (refine c_at hk3 (by omega) (show (zup (zup g2 (k + 1) ((x - 1 : Nat) : Int) (s (9 + x))) (k + 2) ((x - 1 : Nat) : Int) (s (21 + x))) (k + 3) x = s (33 + x) by rw [zup_k (by omega), zup_k (by omega)]; exact a3) ?_; conv => whnf)
      rw [e1]
      (refine And.intro (by first | omega | assumption | rfl | exact zin_and | exact ⟨zin_and, by omega⟩ | exact ⟨by omega, zin_and⟩ | exact Nat.le_of_ble_eq_true rfl | exact ⟨Nat.le_of_ble_eq_true rfl, rfl⟩ | exact ⟨Nat.le_of_ble_eq_true rfl, by assumption⟩ | exact ⟨by omega, Nat.le_of_ble_eq_true rfl⟩ | exact ⟨⟨by assumption, by omega⟩, Nat.le_of_ble_eq_true rfl⟩ | decide) ?_; conv => whnf)
      (refine s_put hk3 (by omega) (by omega) (by omega) ?_; conv => whnf)
      refine hK _ _ _ _ (ih (x + 1) _ (by omega) (by omega) (fun i hi => ?_) ?_ (fun i hi => ?_))
      · rw [zup_ne (by omega), zup_ne (by omega), zup_ne (by omega), hf i hi]
      · rw [zup_ne (by omega), zup_ne (by omega), zup_ne (by omega), hgk]
      · obtain ⟨b1, b2, b3⟩ := hrow i hi
        rw [zup_k (show k + 1 ≠ k + 3 by omega), zup_k (show k + 1 ≠ k + 2 by omega), zup_k (show k + 2 ≠ k + 3 by omega)]
        by_cases c : i = x - 1
        · rw [if_pos (by omega)]
          subst c
          rw [zup_s, zup_s, zup_s, show x - 1 + 1 = x by omega]
          exact ⟨rfl, rfl, rfl⟩
        · rw [zup_i (by omega), zup_i (by omega), zup_k (by omega), zup_i (by omega), zup_k (by omega), zup_k (by omega)]
          by_cases q : t ≤ i ∧ i + 1 < x
          · rw [if_pos q] at b1 b2 b3
            rw [if_pos (show t ≤ i ∧ i + 1 < x + 1 by omega)]
            exact ⟨b1, b2, b3⟩
          · rw [if_neg q] at b1 b2 b3
            rw [if_neg (show ¬ (t ≤ i ∧ i + 1 < x + 1) by omega)]
            exact ⟨b1, b2, b3⟩
  (refine zW.upto (zC_om _) 4 (fun K hK => ?_); conv => whnf)
  exact hK _ _ _ _ (l1 (n - (t + 1)) (t + 1) g (by omega) (by omega) (fun i hi => rfl) rfl (fun i hi => by rw [if_neg (show ¬ (t ≤ i ∧ i + 1 < t + 1) by omega)]; exact hr.2.2 i hi))
end CDR
end
