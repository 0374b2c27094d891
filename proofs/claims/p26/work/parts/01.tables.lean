-- ===== PART A: goes FIRST, ahead of the names: the tables' words, and 'selects' of the private methods out of them =====
/-- a private method of a class that the tables say can be made, by its rows of tables_1 -/
def lw_okq (q : MethodName × Nat) : Prop := (q.1.cls ≠ "java/lang/invoke/MethodHandle" ∧ q.1.cls ≠ "java/lang/invoke/VarHandle") ∧ Cond.instantiable q.1.cls q.2 ∈ tables_1 ∧ Cond.privateMethod q.1 ∈ tables_1 ∧ Cond.instanceMethod q.1 ∈ tables_1
theorem lw_p0 : lw_okq (⟨"BranchedSums", "countOfSearch", "(I)I"⟩, 6) := ⟨⟨by decide +kernel, by decide +kernel⟩, List.mem_of_getElem? (i := 11) (by decide +kernel), List.mem_of_getElem? (i := 198) (by decide +kernel), List.mem_of_getElem? (i := 199) (by decide +kernel)⟩
theorem lw_p1 : lw_okq (⟨"BranchedSums$Nodes", "part", "(II)I"⟩, 2) := ⟨⟨by decide +kernel, by decide +kernel⟩, List.mem_of_getElem? (i := 57) (by decide +kernel), List.mem_of_getElem? (i := 214) (by decide +kernel), List.mem_of_getElem? (i := 215) (by decide +kernel)⟩
theorem lw_p2 : lw_okq (⟨"BranchedSums$Nodes", "goesBefore", "(III)Z"⟩, 2) := ⟨⟨by decide +kernel, by decide +kernel⟩, List.mem_of_getElem? (i := 57) (by decide +kernel), List.mem_of_getElem? (i := 218) (by decide +kernel), List.mem_of_getElem? (i := 219) (by decide +kernel)⟩
theorem lw_p3 : lw_okq (⟨"BranchedSums", "prepareForChange", "()V"⟩, 6) := ⟨⟨by decide +kernel, by decide +kernel⟩, List.mem_of_getElem? (i := 11) (by decide +kernel), List.mem_of_getElem? (i := 254) (by decide +kernel), List.mem_of_getElem? (i := 255) (by decide +kernel)⟩
theorem lw_p4 : lw_okq (⟨"BranchedSums$History", "stateAt", "(I)LBranchedSums$State;"⟩, 3) := ⟨⟨by decide +kernel, by decide +kernel⟩, List.mem_of_getElem? (i := 102) (by decide +kernel), List.mem_of_getElem? (i := 262) (by decide +kernel), List.mem_of_getElem? (i := 263) (by decide +kernel)⟩
theorem lw_p5 : lw_okq (⟨"BranchedSums$Bag", "sortByRatio", "()V"⟩, 6) := ⟨⟨by decide +kernel, by decide +kernel⟩, List.mem_of_getElem? (i := 25) (by decide +kernel), List.mem_of_getElem? (i := 310) (by decide +kernel), List.mem_of_getElem? (i := 311) (by decide +kernel)⟩
theorem lw_p6 : lw_okq (⟨"BranchedSums$Bag", "isAhead", "(II)Z"⟩, 6) := ⟨⟨by decide +kernel, by decide +kernel⟩, List.mem_of_getElem? (i := 25) (by decide +kernel), List.mem_of_getElem? (i := 314) (by decide +kernel), List.mem_of_getElem? (i := 315) (by decide +kernel)⟩
theorem lw_p7 : lw_okq (⟨"BranchedSums$Bag", "barredBy", "(I)I"⟩, 6) := ⟨⟨by decide +kernel, by decide +kernel⟩, List.mem_of_getElem? (i := 25) (by decide +kernel), List.mem_of_getElem? (i := 394) (by decide +kernel), List.mem_of_getElem? (i := 395) (by decide +kernel)⟩
theorem lw_p8 : lw_okq (⟨"BranchedSums$Bag", "freeThings", "(II)I"⟩, 6) := ⟨⟨by decide +kernel, by decide +kernel⟩, List.mem_of_getElem? (i := 25) (by decide +kernel), List.mem_of_getElem? (i := 398) (by decide +kernel), List.mem_of_getElem? (i := 399) (by decide +kernel)⟩
theorem lw_p9 : lw_okq (⟨"BranchedSums$Bag", "wholeThings", "(II)I"⟩, 6) := ⟨⟨by decide +kernel, by decide +kernel⟩, List.mem_of_getElem? (i := 25) (by decide +kernel), List.mem_of_getElem? (i := 402) (by decide +kernel), List.mem_of_getElem? (i := 403) (by decide +kernel)⟩
theorem lw_p10 : lw_okq (⟨"BranchedSums$Bag", "firstByRatio", "(I)I"⟩, 6) := ⟨⟨by decide +kernel, by decide +kernel⟩, List.mem_of_getElem? (i := 25) (by decide +kernel), List.mem_of_getElem? (i := 406) (by decide +kernel), List.mem_of_getElem? (i := 407) (by decide +kernel)⟩
theorem lw_p11 : lw_okq (⟨"BranchedSums$Bag", "shareOf", "(II)I"⟩, 6) := ⟨⟨by decide +kernel, by decide +kernel⟩, List.mem_of_getElem? (i := 25) (by decide +kernel), List.mem_of_getElem? (i := 410) (by decide +kernel), List.mem_of_getElem? (i := 411) (by decide +kernel)⟩
theorem lw_p12 : lw_okq (⟨"BranchedSums", "goThrough", "(IIZ)I"⟩, 6) := ⟨⟨by decide +kernel, by decide +kernel⟩, List.mem_of_getElem? (i := 11) (by decide +kernel), List.mem_of_getElem? (i := 452) (by decide +kernel), List.mem_of_getElem? (i := 453) (by decide +kernel)⟩
theorem lw_p13 : lw_okq (⟨"BranchedSums$State", "resultFor", "(I)I"⟩, 7) := ⟨⟨by decide +kernel, by decide +kernel⟩, List.mem_of_getElem? (i := 19) (by decide +kernel), List.mem_of_getElem? (i := 461) (by decide +kernel), List.mem_of_getElem? (i := 462) (by decide +kernel)⟩
theorem lw_p14 : lw_okq (⟨"BranchedSums$Bag", "heaviest", "(I)I"⟩, 6) := ⟨⟨by decide +kernel, by decide +kernel⟩, List.mem_of_getElem? (i := 25) (by decide +kernel), List.mem_of_getElem? (i := 473) (by decide +kernel), List.mem_of_getElem? (i := 474) (by decide +kernel)⟩
theorem lw_p15 : lw_okq (⟨"BranchedSums$Bag", "bestByTrials", "(III)I"⟩, 6) := ⟨⟨by decide +kernel, by decide +kernel⟩, List.mem_of_getElem? (i := 25) (by decide +kernel), List.mem_of_getElem? (i := 477) (by decide +kernel), List.mem_of_getElem? (i := 478) (by decide +kernel)⟩
def lw_privs_1 : List (MethodName × Nat) := [(⟨"BranchedSums", "countOfSearch", "(I)I"⟩, 6), (⟨"BranchedSums$Nodes", "part", "(II)I"⟩, 2), (⟨"BranchedSums$Nodes", "goesBefore", "(III)Z"⟩, 2), (⟨"BranchedSums", "prepareForChange", "()V"⟩, 6), (⟨"BranchedSums$History", "stateAt", "(I)LBranchedSums$State;"⟩, 3), (⟨"BranchedSums$Bag", "sortByRatio", "()V"⟩, 6), (⟨"BranchedSums$Bag", "isAhead", "(II)Z"⟩, 6), (⟨"BranchedSums$Bag", "barredBy", "(I)I"⟩, 6), (⟨"BranchedSums$Bag", "freeThings", "(II)I"⟩, 6), (⟨"BranchedSums$Bag", "wholeThings", "(II)I"⟩, 6), (⟨"BranchedSums$Bag", "firstByRatio", "(I)I"⟩, 6), (⟨"BranchedSums$Bag", "shareOf", "(II)I"⟩, 6), (⟨"BranchedSums", "goThrough", "(IIZ)I"⟩, 6), (⟨"BranchedSums$State", "resultFor", "(I)I"⟩, 7), (⟨"BranchedSums$Bag", "heaviest", "(I)I"⟩, 6), (⟨"BranchedSums$Bag", "bestByTrials", "(III)I"⟩, 6)]
theorem lw_r1 : ∀ q ∈ lw_privs_1, lw_okq q := List.forall_mem_cons.mpr ⟨lw_p0, List.forall_mem_cons.mpr ⟨lw_p1, List.forall_mem_cons.mpr ⟨lw_p2, List.forall_mem_cons.mpr ⟨lw_p3, List.forall_mem_cons.mpr ⟨lw_p4, List.forall_mem_cons.mpr ⟨lw_p5, List.forall_mem_cons.mpr ⟨lw_p6, List.forall_mem_cons.mpr ⟨lw_p7, List.forall_mem_cons.mpr ⟨lw_p8, List.forall_mem_cons.mpr ⟨lw_p9, List.forall_mem_cons.mpr ⟨lw_p10, List.forall_mem_cons.mpr ⟨lw_p11, List.forall_mem_cons.mpr ⟨lw_p12, List.forall_mem_cons.mpr ⟨lw_p13, List.forall_mem_cons.mpr ⟨lw_p14, List.forall_mem_cons.mpr ⟨lw_p15, fun _ h => absurd h List.not_mem_nil⟩⟩⟩⟩⟩⟩⟩⟩⟩⟩⟩⟩⟩⟩⟩⟩
theorem lw_p16 : lw_okq (⟨"BranchedSums$State", "makeChild", "(IIII)V"⟩, 7) := ⟨⟨by decide +kernel, by decide +kernel⟩, List.mem_of_getElem? (i := 19) (by decide +kernel), List.mem_of_getElem? (i := 485) (by decide +kernel), List.mem_of_getElem? (i := 486) (by decide +kernel)⟩
def lw_privs_2 : List (MethodName × Nat) := [(⟨"BranchedSums$State", "makeChild", "(IIII)V"⟩, 7)]
theorem lw_r2 : ∀ q ∈ lw_privs_2, lw_okq q := List.forall_mem_cons.mpr ⟨lw_p16, fun _ h => absurd h List.not_mem_nil⟩
def lw_privs : List (MethodName × Nat) := lw_privs_1 ++ (lw_privs_2)
def lw_tbl : List Cond := k2_sels lw_privs ++ tables_1
theorem lw_privs_ok : ∀ q ∈ lw_privs, lw_okq q := by
  show ∀ q ∈ lw_privs_1 ++ (lw_privs_2), lw_okq q
  exact List.forall_mem_append.mpr ⟨lw_r1, lw_r2⟩
/-! ===== BEGIN printed: names, fields, word lists, decode rows ===== -/
def RX0 : String := "BranchedSums$Bag"
def TX0 : u_T := fun k => match k with
  | 0 => ("BranchedSums$Bag", "worths", "[I", true)
  | 1 => ("BranchedSums$Bag", "weights", "[I", true)
  | 2 => ("BranchedSums$Bag", "bars", "[I", true)
  | 3 => ("BranchedSums$Bag", "byRatio", "[I", true)
  | 4 => ("BranchedSums$Bag", "size", "I", false)
  | _ => ("BranchedSums$Bag", "room", "I", false)
def tyX0 : Nat → FieldType := fun k => match k with
  | 0 => .array .int
  | 1 => .array .int
  | 2 => .array .int
  | 3 => .array .int
  | 4 => .int
  | _ => .int
abbrev wsX00 : List Cond := u_ws RX0 TX0 6
theorem nmX0 : ∀ a, a < 6 → ∀ b, b < 6 → a ≠ b → (TX0 a).2.1 ≠ (TX0 b).2.1 := by decide +kernel
theorem tyX0_ok : ∀ k, k < 6 → parseFieldDescriptor (TX0 k).2.2.1 = some (tyX0 k) := by decide +kernel
abbrev cX0_init : ByteArray := prog_2_method_1_code
def yX0_init : MethodName := ⟨RX0, "<init>", "()V"⟩
abbrev cX0_copyFrom : ByteArray := prog_2_method_2_code
def yX0_copyFrom : MethodName := ⟨RX0, "copyFrom", "(LBranchedSums$Bag;)V"⟩
abbrev cX0_knows : ByteArray := prog_2_method_3_code
def yX0_knows : MethodName := ⟨RX0, "knows", "(I)Z"⟩
abbrev cX0_append : ByteArray := prog_2_method_4_code
def yX0_append : MethodName := ⟨RX0, "append", "(III)V"⟩
abbrev cX0_drop : ByteArray := prog_2_method_5_code
def yX0_drop : MethodName := ⟨RX0, "drop", "(I)V"⟩
abbrev cX0_turnBar : ByteArray := prog_2_method_6_code
def yX0_turnBar : MethodName := ⟨RX0, "turnBar", "(II)V"⟩
abbrev cX0_pairs : ByteArray := prog_2_method_7_code
def yX0_pairs : MethodName := ⟨RX0, "pairs", "()I"⟩
abbrev cX0_sortByRatio : ByteArray := prog_2_method_8_code
def yX0_sortByRatio : MethodName := ⟨RX0, "sortByRatio", "()V"⟩
abbrev cX0_isAhead : ByteArray := prog_2_method_9_code
def yX0_isAhead : MethodName := ⟨RX0, "isAhead", "(II)Z"⟩
abbrev cX0_placeOf : ByteArray := prog_2_method_10_code
def yX0_placeOf : MethodName := ⟨RX0, "placeOf", "(I)I"⟩
abbrev cX0_canFix : ByteArray := prog_2_method_11_code
def yX0_canFix : MethodName := ⟨RX0, "canFix", "(II)Z"⟩
abbrev cX0_isPossible : ByteArray := prog_2_method_12_code
def yX0_isPossible : MethodName := ⟨RX0, "isPossible", "(I)Z"⟩
abbrev cX0_barredBy : ByteArray := prog_2_method_13_code
def yX0_barredBy : MethodName := ⟨RX0, "barredBy", "(I)I"⟩
abbrev cX0_freeThings : ByteArray := prog_2_method_14_code
def yX0_freeThings : MethodName := ⟨RX0, "freeThings", "(II)I"⟩
abbrev cX0_bound : ByteArray := prog_2_method_15_code
def yX0_bound : MethodName := ⟨RX0, "bound", "(II)I"⟩
abbrev cX0_wholeThings : ByteArray := prog_2_method_16_code
def yX0_wholeThings : MethodName := ⟨RX0, "wholeThings", "(II)I"⟩
abbrev cX0_firstByRatio : ByteArray := prog_2_method_17_code
def yX0_firstByRatio : MethodName := ⟨RX0, "firstByRatio", "(I)I"⟩
abbrev cX0_shareOf : ByteArray := prog_2_method_18_code
def yX0_shareOf : MethodName := ⟨RX0, "shareOf", "(II)I"⟩
abbrev cX0_heel : ByteArray := prog_2_method_19_code
def yX0_heel : MethodName := ⟨RX0, "heel", "(II)I"⟩
abbrev cX0_thingToBranch : ByteArray := prog_2_method_20_code
def yX0_thingToBranch : MethodName := ⟨RX0, "thingToBranch", "(III)I"⟩
abbrev cX0_heaviest : ByteArray := prog_2_method_21_code
def yX0_heaviest : MethodName := ⟨RX0, "heaviest", "(I)I"⟩
abbrev cX0_bestByTrials : ByteArray := prog_2_method_22_code
def yX0_bestByTrials : MethodName := ⟨RX0, "bestByTrials", "(III)I"⟩
def RX1 : String := "BranchedSums$History"
def TX1 : u_T := fun k => match k with
  | 0 => ("BranchedSums$History", "ring", "[LBranchedSums$State;", true)
  | 1 => ("BranchedSums$History", "oldest", "I", false)
  | _ => ("BranchedSums$History", "size", "I", false)
def tyX1 : Nat → FieldType := fun k => match k with
  | 0 => .array (.object "BranchedSums$State")
  | 1 => .int
  | _ => .int
abbrev wsX10 : List Cond := u_ws RX1 TX1 3
theorem nmX1 : ∀ a, a < 3 → ∀ b, b < 3 → a ≠ b → (TX1 a).2.1 ≠ (TX1 b).2.1 := by decide +kernel
theorem tyX1_ok : ∀ k, k < 3 → parseFieldDescriptor (TX1 k).2.2.1 = some (tyX1 k) := by decide +kernel
abbrev cX1_init : ByteArray := prog_3_method_1_code
def yX1_init : MethodName := ⟨RX1, "<init>", "()V"⟩
abbrev cX1_push : ByteArray := prog_3_method_2_code
def yX1_push : MethodName := ⟨RX1, "push", "(LBranchedSums$State;)V"⟩
abbrev cX1_stateAt : ByteArray := prog_3_method_4_code
def yX1_stateAt : MethodName := ⟨RX1, "stateAt", "(I)LBranchedSums$State;"⟩
def RX2 : String := "BranchedSums$Nodes"
def TX2 : u_T := fun k => match k with
  | 0 => ("BranchedSums$Nodes", "packed", "[J", true)
  | _ => ("BranchedSums$Nodes", "made", "I", false)
def tyX2 : Nat → FieldType := fun k => match k with
  | 0 => .array .long
  | _ => .int
abbrev wsX20 : List Cond := u_ws RX2 TX2 2
theorem nmX2 : ∀ a, a < 2 → ∀ b, b < 2 → a ≠ b → (TX2 a).2.1 ≠ (TX2 b).2.1 := by decide +kernel
theorem tyX2_ok : ∀ k, k < 2 → parseFieldDescriptor (TX2 k).2.2.1 = some (tyX2 k) := by decide +kernel
abbrev cX2_init : ByteArray := prog_4_method_1_code
def yX2_init : MethodName := ⟨RX2, "<init>", "()V"⟩
abbrev cX2_copyFrom : ByteArray := prog_4_method_2_code
def yX2_copyFrom : MethodName := ⟨RX2, "copyFrom", "(LBranchedSums$Nodes;)V"⟩
abbrev cX2_knows : ByteArray := prog_4_method_3_code
def yX2_knows : MethodName := ⟨RX2, "knows", "(I)Z"⟩
abbrev cX2_append : ByteArray := prog_4_method_4_code
def yX2_append : MethodName := ⟨RX2, "append", "(IIIIII)V"⟩
abbrev cX2_part : ByteArray := prog_4_method_5_code
def yX2_part : MethodName := ⟨RX2, "part", "(II)I"⟩
abbrev cX2_how : ByteArray := prog_4_method_6_code
def yX2_how : MethodName := ⟨RX2, "how", "(I)I"⟩
abbrev cX2_from : ByteArray := prog_4_method_7_code
def yX2_from : MethodName := ⟨RX2, "from", "(I)I"⟩
abbrev cX2_bound : ByteArray := prog_4_method_8_code
def yX2_bound : MethodName := ⟨RX2, "bound", "(I)I"⟩
abbrev cX2_in : ByteArray := prog_4_method_9_code
def yX2_in : MethodName := ⟨RX2, "in", "(I)I"⟩
abbrev cX2_out : ByteArray := prog_4_method_10_code
def yX2_out : MethodName := ⟨RX2, "out", "(I)I"⟩
abbrev cX2_fixed : ByteArray := prog_4_method_11_code
def yX2_fixed : MethodName := ⟨RX2, "fixed", "(I)I"⟩
abbrev cX2_settle : ByteArray := prog_4_method_12_code
def yX2_settle : MethodName := ⟨RX2, "settle", "(II)V"⟩
abbrev cX2_giveUpOpen : ByteArray := prog_4_method_13_code
def yX2_giveUpOpen : MethodName := ⟨RX2, "giveUpOpen", "()V"⟩
abbrev cX2_countOf : ByteArray := prog_4_method_14_code
def yX2_countOf : MethodName := ⟨RX2, "countOf", "(I)I"⟩
abbrev cX2_nextOpen : ByteArray := prog_4_method_15_code
def yX2_nextOpen : MethodName := ⟨RX2, "nextOpen", "(I)I"⟩
abbrev cX2_goesBefore : ByteArray := prog_4_method_16_code
def yX2_goesBefore : MethodName := ⟨RX2, "goesBefore", "(III)Z"⟩
def RX3 : String := "BranchedSums$State"
def TX3 : u_T := fun k => match k with
  | 0 => ("BranchedSums$State", "bag", "LBranchedSums$Bag;", true)
  | 1 => ("BranchedSums$State", "nodes", "LBranchedSums$Nodes;", true)
  | 2 => ("BranchedSums$State", "order", "I", false)
  | 3 => ("BranchedSums$State", "choice", "I", false)
  | 4 => ("BranchedSums$State", "steps", "I", false)
  | 5 => ("BranchedSums$State", "sum", "I", false)
  | _ => ("BranchedSums$State", "best", "I", false)
def tyX3 : Nat → FieldType := fun k => match k with
  | 0 => .object "BranchedSums$Bag"
  | 1 => .object "BranchedSums$Nodes"
  | 2 => .int
  | 3 => .int
  | 4 => .int
  | 5 => .int
  | _ => .int
abbrev wsX30 : List Cond := u_ws RX3 TX3 7
theorem nmX3 : ∀ a, a < 7 → ∀ b, b < 7 → a ≠ b → (TX3 a).2.1 ≠ (TX3 b).2.1 := by decide +kernel
theorem tyX3_ok : ∀ k, k < 7 → parseFieldDescriptor (TX3 k).2.2.1 = some (tyX3 k) := by decide +kernel
abbrev cX3_init : ByteArray := prog_5_method_1_code
def yX3_init : MethodName := ⟨RX3, "<init>", "()V"⟩
abbrev cX3_copyFrom : ByteArray := prog_5_method_2_code
def yX3_copyFrom : MethodName := ⟨RX3, "copyFrom", "(LBranchedSums$State;)V"⟩
abbrev cX3_goesOn : ByteArray := prog_5_method_3_code
def yX3_goesOn : MethodName := ⟨RX3, "goesOn", "()Z"⟩
abbrev cX3_forgetSearch : ByteArray := prog_5_method_4_code
def yX3_forgetSearch : MethodName := ⟨RX3, "forgetSearch", "()V"⟩
abbrev cX3_openRoot : ByteArray := prog_5_method_5_code
def yX3_openRoot : MethodName := ⟨RX3, "openRoot", "()V"⟩
abbrev cX3_gap : ByteArray := prog_5_method_6_code
def yX3_gap : MethodName := ⟨RX3, "gap", "()I"⟩
abbrev cX3_takeStep : ByteArray := prog_5_method_7_code
def yX3_takeStep : MethodName := ⟨RX3, "takeStep", "(I)I"⟩
abbrev cX3_resultFor : ByteArray := prog_5_method_8_code
def yX3_resultFor : MethodName := ⟨RX3, "resultFor", "(I)I"⟩
abbrev cX3_makeChild : ByteArray := prog_5_method_9_code
def yX3_makeChild : MethodName := ⟨RX3, "makeChild", "(IIII)V"⟩
def RX4 : String := "BranchedSums$Text"
def TX4 : u_T := fun k => match k with
  | 0 => ("BranchedSums$Text", "characters", "[C", true)
  | 1 => ("BranchedSums$Text", "worths", "[I", true)
  | 2 => ("BranchedSums$Text", "weights", "[I", true)
  | 3 => ("BranchedSums$Text", "bars", "[I", true)
  | 4 => ("BranchedSums$Text", "length", "I", false)
  | 5 => ("BranchedSums$Text", "things", "I", false)
  | _ => ("BranchedSums$Text", "place", "I", false)
def tyX4 : Nat → FieldType := fun k => match k with
  | 0 => .array .char
  | 1 => .array .int
  | 2 => .array .int
  | 3 => .array .int
  | 4 => .int
  | 5 => .int
  | _ => .int
abbrev wsX40 : List Cond := u_ws RX4 TX4 7
theorem nmX4 : ∀ a, a < 7 → ∀ b, b < 7 → a ≠ b → (TX4 a).2.1 ≠ (TX4 b).2.1 := by decide +kernel
theorem tyX4_ok : ∀ k, k < 7 → parseFieldDescriptor (TX4 k).2.2.1 = some (tyX4 k) := by decide +kernel
abbrev cX4_init : ByteArray := prog_6_method_1_code
def yX4_init : MethodName := ⟨RX4, "<init>", "()V"⟩
def RX5 : String := "BranchedSums"
def TX5 : u_T := fun k => match k with
  | 0 => ("BranchedSums", "state", "LBranchedSums$State;", true)
  | 1 => ("BranchedSums", "before", "LBranchedSums$State;", true)
  | 2 => ("BranchedSums", "snapshot", "LBranchedSums$State;", true)
  | 3 => ("BranchedSums", "history", "LBranchedSums$History;", true)
  | 4 => ("BranchedSums", "text", "LBranchedSums$Text;", true)
  | _ => ("BranchedSums", "hasSnapshot", "Z", false)
def tyX5 : Nat → FieldType := fun k => match k with
  | 0 => .object "BranchedSums$State"
  | 1 => .object "BranchedSums$State"
  | 2 => .object "BranchedSums$State"
  | 3 => .object "BranchedSums$History"
  | 4 => .object "BranchedSums$Text"
  | _ => .boolean
abbrev wsX50 : List Cond := u_ws RX5 TX5 6
theorem nmX5 : ∀ a, a < 6 → ∀ b, b < 6 → a ≠ b → (TX5 a).2.1 ≠ (TX5 b).2.1 := by decide +kernel
theorem tyX5_ok : ∀ k, k < 6 → parseFieldDescriptor (TX5 k).2.2.1 = some (tyX5 k) := by decide +kernel
abbrev cX5_init : ByteArray := prog_1_method_1_code
def yX5_init : MethodName := ⟨RX5, "<init>", "()V"⟩
abbrev cX5_add : ByteArray := prog_1_method_2_code
def yX5_add : MethodName := ⟨RX5, "add", "(II)I"⟩
abbrev cX5_remove : ByteArray := prog_1_method_4_code
def yX5_remove : MethodName := ⟨RX5, "remove", "(I)I"⟩
abbrev cX5_bar : ByteArray := prog_1_method_5_code
def yX5_bar : MethodName := ⟨RX5, "bar", "(IIZ)I"⟩
abbrev cX5_setRoom : ByteArray := prog_1_method_6_code
def yX5_setRoom : MethodName := ⟨RX5, "setRoom", "(I)I"⟩
abbrev cX5_set : ByteArray := prog_1_method_7_code
def yX5_set : MethodName := ⟨RX5, "set", "(II)I"⟩
abbrev cX5_begin : ByteArray := prog_1_method_8_code
def yX5_begin : MethodName := ⟨RX5, "begin", "()I"⟩
abbrev cX5_step : ByteArray := prog_1_method_9_code
def yX5_step : MethodName := ⟨RX5, "step", "(I)I"⟩
abbrev cX5_dive : ByteArray := prog_1_method_10_code
def yX5_dive : MethodName := ⟨RX5, "dive", "()I"⟩
abbrev cX5_giveUp : ByteArray := prog_1_method_11_code
def yX5_giveUp : MethodName := ⟨RX5, "giveUp", "()I"⟩
abbrev cX5_thing : ByteArray := prog_1_method_17_code
def yX5_thing : MethodName := ⟨RX5, "thing", "(II)I"⟩
abbrev cX5_node : ByteArray := prog_1_method_18_code
def yX5_node : MethodName := ⟨RX5, "node", "(II)I"⟩
abbrev cX5_boundOf : ByteArray := prog_1_method_21_code
def yX5_boundOf : MethodName := ⟨RX5, "boundOf", "(II)I"⟩
abbrev cX5_heelOf : ByteArray := prog_1_method_22_code
def yX5_heelOf : MethodName := ⟨RX5, "heelOf", "(II)I"⟩
abbrev cX5_bestSum : ByteArray := prog_1_method_23_code
def yX5_bestSum : MethodName := ⟨RX5, "bestSum", "()I"⟩
abbrev cX5_count : ByteArray := prog_1_method_24_code
def yX5_count : MethodName := ⟨RX5, "count", "(I)I"⟩
abbrev cX5_countOfSearch : ByteArray := prog_1_method_25_code
def yX5_countOfSearch : MethodName := ⟨RX5, "countOfSearch", "(I)I"⟩
abbrev cX5_prepareForChange : ByteArray := prog_1_method_26_code
def yX5_prepareForChange : MethodName := ⟨RX5, "prepareForChange", "()V"⟩
abbrev cX5_goThrough : ByteArray := prog_1_method_27_code
def yX5_goThrough : MethodName := ⟨RX5, "goThrough", "(IIZ)I"⟩
abbrev cX5_bestFrom : ByteArray := prog_1_method_28_code
def yX5_bestFrom : MethodName := ⟨RX5, "bestFrom", "(LBranchedSums$Bag;III)I"⟩
abbrev cX5_isWithin : ByteArray := prog_1_method_29_code
def yX5_isWithin : MethodName := ⟨RX5, "isWithin", "(III)Z"⟩
abbrev cX5_has : ByteArray := prog_1_method_30_code
def yX5_has : MethodName := ⟨RX5, "has", "(II)Z"⟩
abbrev cX5_at : ByteArray := prog_1_method_31_code
def yX5_at : MethodName := ⟨RX5, "at", "([II)I"⟩
abbrev cX5_put : ByteArray := prog_1_method_32_code
def yX5_put : MethodName := ⟨RX5, "put", "([III)V"⟩
abbrev cX5_sumOf : ByteArray := prog_1_method_33_code
def yX5_sumOf : MethodName := ⟨RX5, "sumOf", "([II)I"⟩
abbrev cX5_copyRow : ByteArray := prog_1_method_34_code
def yX5_copyRow : MethodName := ⟨RX5, "copyRow", "([I[I)V"⟩
def RX6 : String := "BranchedSumsModel"
def TX6 : u_T := fun k => match k with
  | _ => ("", "", "", false)
def tyX6 : Nat → FieldType := fun k => match k with
  | _ => .int
abbrev wsX60 : List Cond := u_ws RX6 TX6 0
theorem nmX6 : ∀ a, a < 0 → ∀ b, b < 0 → a ≠ b → (TX6 a).2.1 ≠ (TX6 b).2.1 := by decide +kernel
theorem tyX6_ok : ∀ k, k < 0 → parseFieldDescriptor (TX6 k).2.2.1 = some (tyX6 k) := by decide +kernel
def RJ6 : String := "java/lang/Integer"
def TJ6 : u_T := fun k => match k with
  | _ => ("", "", "", false)
def tyJ6 : Nat → FieldType := fun k => match k with
  | _ => .int
abbrev wsJ60 : List Cond := u_ws RJ6 TJ6 0
theorem nmJ6 : ∀ a, a < 0 → ∀ b, b < 0 → a ≠ b → (TJ6 a).2.1 ≠ (TJ6 b).2.1 := by decide +kernel
theorem tyJ6_ok : ∀ k, k < 0 → parseFieldDescriptor (TJ6 k).2.2.1 = some (tyJ6 k) := by decide +kernel
abbrev cJ6_bitCount_0f7a4 : ByteArray := prog_9_method_49_code
def yJ6_bitCount_0f7a4 : MethodName := ⟨RJ6, "bitCount", "(I)I"⟩
def RJ9 : String := "java/lang/Math"
def TJ9 : u_T := fun k => match k with
  | _ => ("", "", "", false)
def tyJ9 : Nat → FieldType := fun k => match k with
  | _ => .int
abbrev wsJ90 : List Cond := u_ws RJ9 TJ9 0
theorem nmJ9 : ∀ a, a < 0 → ∀ b, b < 0 → a ≠ b → (TJ9 a).2.1 ≠ (TJ9 b).2.1 := by decide +kernel
theorem tyJ9_ok : ∀ k, k < 0 → parseFieldDescriptor (TJ9 k).2.2.1 = some (tyJ9 k) := by decide +kernel
abbrev cJ9_max_7cf53 : ByteArray := prog_10_method_65_code
def yJ9_max_7cf53 : MethodName := ⟨RJ9, "max", "(II)I"⟩
abbrev cJ9_min_7cf53 : ByteArray := prog_10_method_69_code
def yJ9_min_7cf53 : MethodName := ⟨RJ9, "min", "(II)I"⟩
def RJ10 : String := "java/lang/System"
def TJ10 : u_T := fun k => match k with
  | _ => ("", "", "", false)
def tyJ10 : Nat → FieldType := fun k => match k with
  | _ => .int
abbrev wsJ100 : List Cond := u_ws RJ10 TJ10 0
theorem nmJ10 : ∀ a, a < 0 → ∀ b, b < 0 → a ≠ b → (TJ10 a).2.1 ≠ (TJ10 b).2.1 := by decide +kernel
theorem tyJ10_ok : ∀ k, k < 0 → parseFieldDescriptor (TJ10 k).2.2.1 = some (tyJ10 k) := by decide +kernel
def RL : String := "BranchedSumsLaw"
abbrev cL_low : ByteArray := method_2_code
def yL_low : MethodName := ⟨RL, "low", "(II)I"⟩
abbrev cL_cell : ByteArray := method_3_code
def yL_cell : MethodName := ⟨RL, "cell", "([II)I"⟩
abbrev cL_begins : ByteArray := method_4_code
def yL_begins : MethodName := ⟨RL, "begins", "(LBranchedSums;[II)V"⟩
abbrev cL_sum : ByteArray := method_5_code
def yL_sum : MethodName := ⟨RL, "sum", "(LBranchedSums;II)I"⟩
abbrev cL_isChoice : ByteArray := method_6_code
def yL_isChoice : MethodName := ⟨RL, "isChoice", "(LBranchedSums;I)Z"⟩
abbrev cL_search : ByteArray := method_7_code
def yL_search : MethodName := ⟨RL, "search", "(LBranchedSums;IZ)Z"⟩
abbrev cL_act : ByteArray := method_8_code
def yL_act : MethodName := ⟨RL, "act", "(LBranchedSums;[II)I"⟩
abbrev cL_law : ByteArray := code
def yL_law : MethodName := ⟨RL, "law", "([I)Z"⟩
abbrev vwCl : List vw_C := [(RX0, TX0, 6), (RX1, TX1, 3), (RX2, TX2, 2), (RX3, TX3, 7), (RX4, TX4, 7), (RX5, TX5, 6)]
