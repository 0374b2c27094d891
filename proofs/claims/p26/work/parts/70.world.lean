/-! the machine's side of every method: name, bytes, what it answers, static or not, the places of its words (code, kind, initialized, selects) -/
abbrev zI5 : Type := MethodName × ByteArray × Option FieldType × Bool × List Nat
def zMI : List zI5 := [(yX0_copyFrom, cX0_copyFrom, none, false, [289, 287, 20, 288]),
  (yX0_knows, cX0_knows, (some .boolean), false, [341, 339, 20, 340]),
  (yX0_append, cX0_append, none, false, [317, 315, 20, 316]),
  (yX0_drop, cX0_drop, none, false, [449, 447, 20, 448]),
  (yX0_turnBar, cX0_turnBar, none, false, [325, 323, 20, 324]),
  (yX0_pairs, cX0_pairs, (some .int), false, [206, 204, 20, 205]),
  (yX0_sortByRatio, cX0_sortByRatio, none, false, [329, 328, 20, 5]),
  (yX0_isAhead, cX0_isAhead, (some .boolean), false, [333, 332, 20, 6]),
  (yX0_placeOf, cX0_placeOf, (some .int), false, [390, 388, 20, 389]),
  (yX0_canFix, cX0_canFix, (some .boolean), false, [398, 396, 20, 397]),
  (yX0_isPossible, cX0_isPossible, (some .boolean), false, [406, 404, 20, 405]),
  (yX0_barredBy, cX0_barredBy, (some .int), false, [413, 412, 20, 7]),
  (yX0_freeThings, cX0_freeThings, (some .int), false, [417, 416, 20, 8]),
  (yX0_bound, cX0_bound, (some .int), false, [402, 400, 20, 401]),
  (yX0_wholeThings, cX0_wholeThings, (some .int), false, [421, 420, 20, 9]),
  (yX0_firstByRatio, cX0_firstByRatio, (some .int), false, [425, 424, 20, 10]),
  (yX0_shareOf, cX0_shareOf, (some .int), false, [429, 428, 20, 11]),
  (yX0_heel, cX0_heel, (some .int), false, [438, 436, 20, 437]),
  (yX0_thingToBranch, cX0_thingToBranch, (some .int), false, [488, 486, 20, 487]),
  (yX0_heaviest, cX0_heaviest, (some .int), false, [492, 491, 20, 14]),
  (yX0_bestByTrials, cX0_bestByTrials, (some .int), false, [496, 495, 20, 15]),
  (yX1_push, cX1_push, none, false, [277, 275, 22, 276]),
  (yL_low, cL_low, none, true, []),
  (yX1_stateAt, cX1_stateAt, (some (.object "BranchedSums$State")), false, [281, 280, 22, 4]),
  (yX2_copyFrom, cX2_copyFrom, none, false, [302, 300, 21, 301]),
  (yX2_knows, cX2_knows, (some .boolean), false, [357, 355, 21, 356]),
  (yX2_append, cX2_append, none, false, [463, 461, 21, 462]),
  (yX2_part, cX2_part, (some .int), false, [233, 232, 21, 1]),
  (yX2_how, cX2_how, (some .int), false, [229, 227, 21, 228]),
  (yX2_from, cX2_from, (some .int), false, [361, 359, 21, 360]),
  (yX2_bound, cX2_bound, (some .int), false, [241, 239, 21, 240]),
  (yX2_in, cX2_in, (some .int), false, [369, 367, 21, 368]),
  (yX2_out, cX2_out, (some .int), false, [375, 373, 21, 374]),
  (yX2_fixed, cX2_fixed, (some .int), false, [365, 363, 21, 364]),
  (yX2_settle, cX2_settle, none, false, [508, 506, 21, 507]),
  (yX2_giveUpOpen, cX2_giveUpOpen, none, false, [521, 519, 21, 520]),
  (yX2_countOf, cX2_countOf, (some .int), false, [245, 243, 21, 244]),
  (yX2_nextOpen, cX2_nextOpen, (some .int), false, [225, 223, 21, 224]),
  (yX2_goesBefore, cX2_goesBefore, (some .boolean), false, [237, 236, 21, 2]),
  (yX3_copyFrom, cX3_copyFrom, none, false, [285, 283, 19, 284]),
  (yX3_goesOn, cX3_goesOn, (some .boolean), false, [221, 219, 19, 220]),
  (yX3_forgetSearch, cX3_forgetSearch, none, false, [309, 307, 19, 308]),
  (yX3_openRoot, cX3_openRoot, none, false, [457, 455, 19, 456]),
  (yX3_gap, cX3_gap, (some .int), false, [249, 247, 19, 248]),
  (yX3_takeStep, cX3_takeStep, (some .int), false, [476, 474, 19, 475]),
  (yX3_resultFor, cX3_resultFor, (some .int), false, [480, 479, 19, 13]),
  (yX3_makeChild, cX3_makeChild, none, false, [504, 503, 19, 16]),
  (yL_low, cL_low, none, true, []),
  (yL_low, cL_low, none, true, []),
  (yL_low, cL_low, none, true, []),
  (yL_low, cL_low, none, true, []),
  (yL_low, cL_low, none, true, []),
  (yL_low, cL_low, none, true, []),
  (yL_low, cL_low, none, true, []),
  (yX5_add, cX5_add, (some .int), false, [313, 311, 18, 312]),
  (yL_low, cL_low, none, true, []),
  (yX5_remove, cX5_remove, (some .int), false, [445, 443, 18, 444]),
  (yX5_bar, cX5_bar, (some .int), false, [337, 335, 18, 336]),
  (yX5_setRoom, cX5_setRoom, (some .int), false, [266, 264, 18, 265]),
  (yX5_set, cX5_set, (some .int), false, [346, 344, 18, 345]),
  (yX5_begin, cX5_begin, (some .int), false, [453, 451, 18, 452]),
  (yX5_step, cX5_step, (some .int), false, [467, 465, 18, 466]),
  (yX5_dive, cX5_dive, (some .int), false, [513, 511, 18, 512]),
  (yX5_giveUp, cX5_giveUp, (some .int), false, [517, 515, 18, 516]),
  (yL_low, cL_low, none, true, []),
  (yL_low, cL_low, none, true, []),
  (yL_low, cL_low, none, true, []),
  (yL_low, cL_low, none, true, []),
  (yL_low, cL_low, none, true, []),
  (yX5_thing, cX5_thing, (some .int), false, [386, 384, 18, 385]),
  (yX5_node, cX5_node, (some .int), false, [353, 351, 18, 352]),
  (yL_low, cL_low, none, true, []),
  (yL_low, cL_low, none, true, []),
  (yX5_boundOf, cX5_boundOf, (some .int), false, [394, 392, 18, 393]),
  (yX5_heelOf, cX5_heelOf, (some .int), false, [433, 431, 18, 432]),
  (yX5_bestSum, cX5_bestSum, (some .int), false, [186, 184, 18, 185]),
  (yX5_count, cX5_count, (some .int), false, [202, 200, 18, 201]),
  (yX5_countOfSearch, cX5_countOfSearch, (some .int), false, [217, 216, 18, 0]),
  (yX5_prepareForChange, cX5_prepareForChange, none, false, [273, 272, 18, 3]),
  (yX5_goThrough, cX5_goThrough, (some .int), false, [471, 470, 18, 12]),
  (yX5_bestFrom, cX5_bestFrom, (some .int), true, [189, 188, 18, 0]),
  (yX5_isWithin, cX5_isWithin, (some .boolean), true, [269, 268, 18, 0]),
  (yX5_has, cX5_has, (some .boolean), true, [195, 194, 18, 0]),
  (yX5_at, cX5_at, (some .int), true, [192, 191, 18, 0]),
  (yX5_put, cX5_put, none, true, [320, 319, 18, 0]),
  (yX5_sumOf, cX5_sumOf, (some .int), true, [409, 408, 18, 0]),
  (yX5_copyRow, cX5_copyRow, none, true, [292, 291, 18, 0]),
  (yL_low, cL_low, none, true, []),
  (yL_low, cL_low, none, true, []),
  (yL_low, cL_low, none, true, []),
  (yL_low, cL_low, none, true, []),
  (yL_low, cL_low, none, true, []),
  (yL_low, cL_low, none, true, []),
  (yL_low, cL_low, none, true, []),
  (yL_low, cL_low, none, true, []),
  (yL_low, cL_low, none, true, []),
  (yL_low, cL_low, none, true, []),
  (yL_low, cL_low, none, true, []),
  (yL_low, cL_low, none, true, []),
  (yL_low, cL_low, none, true, []),
  (yL_low, cL_low, none, true, []),
  (yL_low, cL_low, none, true, []),
  (yL_low, cL_low, none, true, []),
  (yL_low, cL_low, none, true, []),
  (yL_low, cL_low, none, true, []),
  (yL_low, cL_low, none, true, []),
  (yL_low, cL_low, none, true, []),
  (yL_low, cL_low, none, true, []),
  (yL_low, cL_low, none, true, []),
  (yL_low, cL_low, none, true, []),
  (yL_low, cL_low, none, true, []),
  (yL_low, cL_low, none, true, []),
  (yL_low, cL_low, none, true, []),
  (yL_low, cL_low, none, true, []),
  (yL_low, cL_low, none, true, []),
  (yL_low, cL_low, none, true, []),
  (yL_low, cL_low, none, true, []),
  (yL_low, cL_low, none, true, []),
  (yL_low, cL_low, none, true, []),
  (yL_low, cL_low, none, true, []),
  (yL_low, cL_low, none, true, []),
  (yL_low, cL_low, none, true, []),
  (yL_low, cL_low, none, true, []),
  (yL_low, cL_low, none, true, []),
  (yL_low, cL_low, none, true, []),
  (yL_low, cL_low, none, true, []),
  (yL_low, cL_low, none, true, []),
  (yL_low, cL_low, none, true, []),
  (yL_low, cL_low, none, true, []),
  (yL_low, cL_low, none, true, []),
  (yL_low, cL_low, none, true, []),
  (yL_low, cL_low, none, true, []),
  (yL_low, cL_low, none, true, []),
  (yL_low, cL_low, none, true, []),
  (yL_low, cL_low, none, true, []),
  (yL_low, cL_low, none, true, []),
  (yL_low, cL_low, none, true, []),
  (yL_low, cL_low, none, true, []),
  (yL_low, cL_low, none, true, []),
  (yL_low, cL_low, none, true, []),
  (yL_low, cL_low, none, true, []),
  (yL_low, cL_low, none, true, []),
  (yL_low, cL_low, none, true, []),
  (yL_low, cL_low, none, true, []),
  (yL_low, cL_low, none, true, []),
  (yL_low, cL_low, none, true, []),
  (yL_low, cL_low, none, true, []),
  (yL_low, cL_low, none, true, []),
  (yJ6_bitCount_0f7a4, cJ6_bitCount_0f7a4, (some .int), true, [210, 209, 26, 0]),
  (yL_low, cL_low, (some .int), true, [254, 253, 17, 0]),
  (yL_cell, cL_cell, (some .int), true, [258, 257, 17, 0, 1]),
  (yL_begins, cL_begins, none, true, [262, 261, 17, 0]),
  (yL_sum, cL_sum, (some .int), true, [382, 381, 17, 0]),
  (yL_isChoice, cL_isChoice, (some .boolean), true, [379, 378, 17, 0]),
  (yL_search, cL_search, (some .boolean), true, [349, 348, 17, 0]),
  (yL_act, cL_act, (some .int), true, [441, 440, 17, 0]),
  (yL_low, cL_low, none, true, [])]
def zSY : List (Nat × Cond) := [(298, .native arraycopyName), (297, .static arraycopyName), (25, .initialized "java/lang/System"), (197, .static Lib.Math.max.name), (198, .code Lib.Math.max.name Lib.Math.max.code 2 (some .int)), (24, .initialized "java/lang/Math"), (294, .static Lib.Math.min.name), (295, .code Lib.Math.min.name Lib.Math.min.code 2 (some .int))]
/-! the small machine's values and memory as the machine's own: cells at addresses that are variables -/
abbrev zG : Type := va_G × (ClassId × ClassId × ClassId × ClassId) × (Nat → Nat)
def zrv (ad : Nat → Nat) (r : Option Nat) : Value := match r with
  | none => .null
  | some k => .ref (ad k)
def zv (ad : Nat → Nat) (v : zV) : Value := match v with
  | .inl x => .int (zJ x)
  | .inr (.inl r) => zrv ad r
  | .inr (.inr (.inl x)) => .long (zJL x)
  | .inr (.inr (.inr _)) => .null
/-- where a class's references go: to the cell so many further on; 0: a number -/
def zfo (c : Nat) : List Nat := [[1, 2, 3, 4, 0, 0], [1, 0, 0], [1, 0], [1, 6, 0, 0, 0, 0, 0], [1, 2, 3, 4, 0, 0, 0], [8, 16, 24, 1, 3, 0], [1, 2, 3, 0, 4, 0, 5, 0, 0, 0, 6, 0, 7]].getD c []
def zfl (ad : Nat → Nat) (r : Int → Int) (k c : Nat) : List Value := (List.range (zfo c).length).map (fun j => match (zfo c).getD j 0 with
  | 0 => .int (zJ (r j))
  | o + 1 => .ref (ad (k + (o + 1))))
def zer (Z : zG) (r : Int → Int) (k : Nat) : va_E := match ykd k with
  | (0, c) => .inr (c, zfl Z.2.2 r k c)
  | (1, n) => .inl (Z.2.1.1, n, .inl (fun j => zJ (r j)))
  | (2, n) => .inl (Z.2.1.2.1, n, .inl (fun j => zJ (r j)))
  | (3, n) => .inl (Z.2.1.2.2.1, n, .inr (.inl (fun j => zJL (r j))))
  | (_, n) => .inl (Z.2.1.2.2.2, n, .inr (.inr (.inr (.inr (fun j => some (Z.2.2 (32 + 8 * j)))))))
def zNC : Nat := 64
def zws (Z : zG) (g : zM) : va_W := (List.range zNC).map (fun k => (Z.2.2 k, zer Z (g k) k))
def zty (Z : zG) : List (ClassId × FieldType) := [(Z.2.1.1, .int), (Z.2.1.2.1, .char), (Z.2.1.2.2.1, .long), (Z.2.1.2.2.2, .object "BranchedSums$State")]
def zA (Z : zG) : Nat → Prop := fun q => ∃ k, k < zNC ∧ q = Z.2.2 k
def zinj (Z : zG) : Prop := ∀ i j, i < zNC → j < zNC → Z.2.2 i = Z.2.2 j → i = j
theorem zws_at {Z : zG} {g : zM} {k : Nat} (h : k < zNC) : (zws Z g)[k]? = some (Z.2.2 k, zer Z (g k) k) := by
  simp [zws, List.getElem?_map, List.getElem?_range h]
theorem zws_of {Z : zG} {g : zM} {k : Nat} {q : Nat × va_E} (h : (zws Z g)[k]? = some q) : k < zNC ∧ q = (Z.2.2 k, zer Z (g k) k) := by
  have hk : k < zNC := by
    have := (List.getElem?_eq_some_iff.mp h).1
    simpa [zws] using this
  refine ⟨hk, ?_⟩
  rw [zws_at hk] at h
  exact (Option.some.inj h).symm
theorem zws_set {Z : zG} {g g' : zM} {k : Nat} (h : k < zNC) {e : va_E} (he : e = zer Z (g' k) k) (ho : ∀ j, j ≠ k → g' j = g j) : (zws Z g).set k (Z.2.2 k, e) = zws Z g' := by
  subst he
  refine List.ext_getElem? (fun j => ?_)
  by_cases hj : j < zNC
  · by_cases hjk : j = k
    · subst hjk
      rw [List.getElem?_set_self (by simpa [zws] using h), zws_at h]
    · rw [List.getElem?_set_ne (Ne.symm hjk), zws_at hj, zws_at hj, ho j hjk]
  · rw [List.getElem?_eq_none (by simp [zws]; omega), List.getElem?_eq_none (by simp [zws]; omega)]
theorem zws_D {Z : zG} {g : zM} {A : Nat → Prop} (hi : zinj Z) (hA : ∀ q, zA Z q → A q) : va_D A (zws Z g) := by
  refine ⟨fun i j x y hx hy hxy => ?_, fun k q hk => ?_⟩
  · obtain ⟨h1, rfl⟩ := zws_of hx
    obtain ⟨h2, rfl⟩ := zws_of hy
    exact hi i j h1 h2 hxy
  · obtain ⟨h1, rfl⟩ := zws_of hk
    exact hA _ ⟨k, h1, rfl⟩
theorem zcat_v (ad : Nat → Nat) (v : zV) : (zv ad v).category = zcat v := by
  rcases v with x | (_ | x) | x | x <;> rfl
theorem zwt_v (ad : Nat → Nat) : ∀ (r : List zV), ((r.map (zv ad)).map fun v => v.category).sum = zwt r
  | [] => rfl
  | v :: r => by
    have h := zwt_v ad r
    simp only [List.map_cons, List.sum_cons, zcat_v]
    rw [show zwt (v :: r) = zcat v + zwt r from rfl, ← h]
/-- the locals -/
def zLs (ad : Nat → Nat) (nL : Nat) (ls : List zV) (real : Array Slot) : Prop := (real.size = nL ∧ ls.length = nL) ∧ lv_wf real ∧ ∀ (i : Nat) (v : zV), ls[i]? = some v → zcat v = 1 → v ≠ zU → real[i]? = some (.val (zv ad v))
/-- the listed locals, as the kit has them -/
def zll (ad : Nat → Nat) (ls : List zV) : List (Nat × Value) := (List.range ls.length).filterMap (fun i => match (ls[i]? : Option zV) with
  | some (Sum.inl x) => some (i, Value.int (zJ x))
  | some (Sum.inr (Sum.inl r)) => some (i, zrv ad r)
  | _ => none)
theorem zll_mem {ad : Nat → Nat} {ls : List zV} {q : Nat × Value} : q ∈ zll ad ls ↔ ∃ v, ls[q.1]? = some v ∧ zcat v = 1 ∧ v ≠ zU ∧ q.2 = zv ad v := by
  unfold zll
  rw [List.mem_filterMap]
  constructor
  · rintro ⟨i, hi, h⟩
    rcases hv : ls[i]? with _ | (x | r | x | x)
    · rw [hv] at h; cases h
    · rw [hv] at h; cases h; exact ⟨_, hv, rfl, by simp, rfl⟩
    · rw [hv] at h; cases h; exact ⟨_, hv, rfl, by simp, rfl⟩
    · rw [hv] at h; cases h
    · rw [hv] at h; cases h
  · rintro ⟨v, hv, hc, hu, h2⟩
    refine ⟨q.1, List.mem_range.mpr (List.getElem?_eq_some_iff.mp hv).1, ?_⟩
    obtain ⟨i, w⟩ := q
    dsimp only at hv h2
    subst h2
    rcases v with x | r | x | x
    · simp [hv, zv]
    · simp [hv, zv]
    · simp [zcat] at hc
    · exact (hu rfl).elim
theorem zLs.has {ad : Nat → Nat} {nL : Nat} {ls : List zV} {real : Array Slot} (h : zLs ad nL ls real) : lv_has real nL (zll ad ls) := by
  refine ⟨h.1.1, h.2.1, fun q hq => ?_⟩
  obtain ⟨v, h1, h2, h3, h4⟩ := zll_mem.mp hq
  rw [h4]
  exact h.2.2 _ _ h1 h2 h3
theorem zLs.at {ad : Nat → Nat} {nL : Nat} {ls : List zV} {real : Array Slot} (h : zLs ad nL ls real) {i : Nat} {v : zV} (hv : ls[i]? = some v) (hc : zcat v = 1) (hu : v ≠ zU) : real[i]? = some (.val (zv ad v)) := h.2.2 i v hv hc hu
theorem zLs.set {ad : Nat → Nat} {nL : Nat} {ls : List zV} {real : Array Slot} {i : Nat} {w : zV} (hn : ls.length = nL)
    (h' : lv_has real nL ((i, zv ad w) :: (zll ad ls).filter (fun q => !(q.1 == i) && !(q.1 + 1 == i && q.2.category == 2)))) : zLs ad nL (ls.set i w) real := by
  refine ⟨⟨h'.1, by simpa using hn⟩, h'.2.1, fun j v hv hc hu => ?_⟩
  by_cases hj : j = i
  · subst hj
    have hlt : j < ls.length := by
      have := (List.getElem?_eq_some_iff.mp hv).1
      simpa using this
    rw [List.getElem?_set_self hlt] at hv
    cases hv
    exact h'.2.2 (j, zv ad w) List.mem_cons_self
  · rw [List.getElem?_set_ne (Ne.symm hj)] at hv
    refine h'.2.2 (j, zv ad v) (List.mem_cons_of_mem _ (List.mem_filter.mpr ⟨zll_mem.mpr ⟨v, hv, hc, hu, rfl⟩, ?_⟩))
    simp [hj, zcat_v, hc]

/-! the script -/
/-- what the law's reader answers of place k of a script of L ints -/
def ycv (L : Nat) (xs : Nat → Int32) (k : Nat) : Int := if k < L then (xs k).toInt else (zJ (40503 * (k : Int) + 977)).toInt
def ySc (b : Nat) (sr : Int → Int) (U : State) (H : Heap) : Prop := ∃ (L : Nat) (xs : Nat → Int32), L ≤ 260 ∧ va_X b L xs U H ∧ ∀ k : Nat, k < 68 → sr (k : Int) = ycv L xs k
theorem ySc.lt {b : Nat} {sr : Int → Int} {U : State} {H : Heap} (h : ySc b sr U H) : b < H.size := by
  obtain ⟨L, xs, -, ⟨scr, h1, -⟩, -⟩ := h
  exact (Array.getElem?_eq_some_iff.mp h1).1
theorem ySc.to {A0 : Nat → Prop} {H0 H : Heap} {locs : List Loc} {b : Nat} {sr : Int → Int} {s U : State} (h : ySc b sr s H0) (hA : ¬ A0 b) (hS : va_S A0 H0 H locs) (hvm : s.vm.Alike U.vm) (hU : U.heap = H) : ySc b sr U U.heap := by
  have hlt := h.lt
  obtain ⟨L, xs, h1, h2, h3⟩ := h
  rw [hU]
  exact ⟨L, xs, h1, (h2.moved hvm).kept (hS.2.1 b hlt hA), h3⟩
