/-! the small machine's values and memory as the machine's own: cells at addresses that are variables -/
abbrev zG : Type := va_G × (ClassId × ClassId × ClassId × ClassId) × (Nat → Nat)
def zrv (ad : Nat → Nat) (r : Option Nat) : Value := match r with
  | none => .null
  | some k => .ref (ad k)
def zv (ad : Nat → Nat) (v : zV) : Value := match v with
  | .inl x => .int (zJ x)
  | .inr (.inl r) => zrv ad r
  | .inr (.inr (.inl x)) => .long (zJL x)
  | .inr (.inr (.inr _)) => .null
/-- where a class's references go: to the cell so many further on; 0: a number -/
def zfo (c : Nat) : List Nat := [[1, 2, 3, 4, 0, 0], [1, 0, 0], [1, 0], [1, 6, 0, 0, 0, 0, 0], [1, 2, 3, 4, 0, 0, 0], [8, 16, 24, 1, 3, 0], [1, 2, 3, 0, 4, 0, 5, 0, 0, 0, 6, 0, 7]].getD c []
def zfl (ad : Nat → Nat) (r : Int → Int) (k c : Nat) : List Value := (List.range (zfo c).length).map (fun j => match (zfo c).getD j 0 with
  | 0 => .int (zJ (r j))
  | o + 1 => .ref (ad (k + (o + 1))))
def zer (Z : zG) (r : Int → Int) (k : Nat) : va_E := match zkd k with
  | (0, c) => .inr (c, zfl Z.2.2 r k c)
  | (1, n) => .inl (Z.2.1.1, n, .inl (fun j => zJ (r j)))
  | (2, n) => .inl (Z.2.1.2.1, n, .inl (fun j => zJ (r j)))
  | (3, n) => .inl (Z.2.1.2.2.1, n, .inr (.inl (fun j => zJL (r j))))
  | (_, n) => .inl (Z.2.1.2.2.2, n, .inr (.inr (.inr (.inr (fun j => some (Z.2.2 (32 + 8 * j)))))))
def zNC : Nat := 72
def zws (Z : zG) (g : zM) : va_W := (List.range zNC).map (fun k => (Z.2.2 k, zer Z (g k) k))
def zty (Z : zG) : List (ClassId × FieldType) := [(Z.2.1.1, .int), (Z.2.1.2.1, .char), (Z.2.1.2.2.1, .long), (Z.2.1.2.2.2, .object "BranchedSums$State")]
def zA (Z : zG) : Nat → Prop := fun q => ∃ k, k < zNC ∧ q = Z.2.2 k
def zinj (Z : zG) : Prop := ∀ i j, i < zNC → j < zNC → Z.2.2 i = Z.2.2 j → i = j
theorem zws_at {Z : zG} {g : zM} {k : Nat} (h : k < zNC) : (zws Z g)[k]? = some (Z.2.2 k, zer Z (g k) k) := by
  simp [zws, List.getElem?_map, List.getElem?_range h]
theorem zws_of {Z : zG} {g : zM} {k : Nat} {q : Nat × va_E} (h : (zws Z g)[k]? = some q) : k < zNC ∧ q = (Z.2.2 k, zer Z (g k) k) := by
  have hk : k < zNC := by
    have := (List.getElem?_eq_some_iff.mp h).1
    simpa [zws] using this
  refine ⟨hk, ?_⟩
  rw [zws_at hk] at h
  exact (Option.some.inj h).symm
theorem zws_set {Z : zG} {g g' : zM} {k : Nat} (h : k < zNC) {e : va_E} (he : e = zer Z (g' k) k) (ho : ∀ j, j ≠ k → g' j = g j) : (zws Z g).set k (Z.2.2 k, e) = zws Z g' := by
  subst he
  refine List.ext_getElem? (fun j => ?_)
  by_cases hj : j < zNC
  · by_cases hjk : j = k
    · subst hjk
      rw [List.getElem?_set_self (by simpa [zws] using h), zws_at h]
    · rw [List.getElem?_set_ne (Ne.symm hjk), zws_at hj, zws_at hj, ho j hjk]
  · rw [List.getElem?_eq_none (by simp [zws]; omega), List.getElem?_eq_none (by simp [zws]; omega)]
theorem zws_D {Z : zG} {g : zM} {A : Nat → Prop} (hi : zinj Z) (hA : ∀ q, zA Z q → A q) : va_D A (zws Z g) := by
  refine ⟨fun i j x y hx hy hxy => ?_, fun k q hk => ?_⟩
  · obtain ⟨h1, rfl⟩ := zws_of hx
    obtain ⟨h2, rfl⟩ := zws_of hy
    exact hi i j h1 h2 hxy
  · obtain ⟨h1, rfl⟩ := zws_of hk
    exact hA _ ⟨k, h1, rfl⟩
theorem zJ_toInt {x : Int} (h : zin x) : (zJ x).toInt = x := Int32.toInt_ofInt_of_le h.1 h.2
theorem zJ_of (z : Int32) : zJ z.toInt = z := Int32.ofInt_toInt z
theorem zJL_of (z : Int64) : zJL z.toInt = z := Int64.ofInt_toInt z
theorem zJ_add (x y : Int) : zJ x + zJ y = zJ (x + y) := (Int32.ofInt_add x y).symm
theorem zJ_sub (x y : Int) : zJ x - zJ y = zJ (x - y) := (Int32.ofInt_sub x y).symm
theorem zJ_mul (x y : Int) : zJ x * zJ y = zJ (x * y) := (Int32.ofInt_mul x y).symm
theorem zJ_clamp {x : Int} (h0 : 0 ≤ x) (h1 : x < 2147483648) : (zJ x).toNatClampNeg = x.toNat := by
  show (zJ x).toInt.toNat = _
  rw [zJ_toInt ⟨by omega, h1⟩]
theorem zJ_lt {x y : Int} (hx : zin x) (hy : zin y) : zJ x < zJ y ↔ x < y := by
  rw [Int32.lt_iff_toInt_lt, zJ_toInt hx, zJ_toInt hy]
theorem zJ_le {x y : Int} (hx : zin x) (hy : zin y) : zJ x ≤ zJ y ↔ x ≤ y := by
  rw [Int32.le_iff_toInt_le, zJ_toInt hx, zJ_toInt hy]
theorem zJ_eq {x y : Int} (hx : zin x) (hy : zin y) : zJ x = zJ y ↔ x = y := by
  constructor
  · intro h
    rw [← zJ_toInt hx, ← zJ_toInt hy, h]
  · intro h
    rw [h]
theorem zin0 : zin 0 := ⟨by decide, by decide⟩
theorem zJ_0 : zJ 0 = 0 := by decide
theorem zJ_vpin {i : Int} {n : Nat} (h0 : 0 ≤ i) (h : i < n) (hn : n < 2147483648) : vp_in (zJ i) n := by
  refine vp_in_iff.mpr ?_
  rw [zJ_toInt ⟨by omega, by omega⟩]
  exact ⟨h0, h⟩
theorem zget_spec {F : zV → Prop} : ∀ (l : List zV) (k : Nat), zget l k F → ∃ v, l[k]? = some v ∧ F v
  | [], _, h => h.elim
  | v :: _, 0, h => ⟨v, rfl, h⟩
  | _ :: l, k + 1, h => by
    obtain ⟨v, h1, h2⟩ := zget_spec l k h
    exact ⟨v, by rw [List.getElem?_cons_succ]; exact h1, h2⟩
theorem zset_spec : ∀ (l : List zV) (k : Nat) (v : zV) {F : List zV → Prop}, zset l k v F → k < l.length ∧ F (l.set k v)
  | [], _, _, _, h => h.elim
  | _ :: l, 0, v, _, h => ⟨by simp, h⟩
  | a :: l, k + 1, v, _, h => by
    obtain ⟨h1, h2⟩ := zset_spec l k v h
    exact ⟨by simp; omega, h2⟩
theorem zpop_spec {F : List zV → List zV → Prop} : ∀ (n : Nat) (st acc : List zV), zpop n st acc F → ∃ xs r, st = xs ++ r ∧ xs.length = n ∧ F (xs.reverse ++ acc) r
  | 0, st, acc, h => ⟨[], st, rfl, rfl, h⟩
  | _ + 1, [], _, h => h.elim
  | n + 1, v :: st, acc, h => by
    obtain ⟨xs, r, h1, h2, h3⟩ := zpop_spec n st (v :: acc) h
    exact ⟨v :: xs, r, by rw [h1]; rfl, by simp [h2], by simpa using h3⟩
theorem zcat_v (ad : Nat → Nat) (v : zV) : (zv ad v).category = zcat v := by
  rcases v with x | (_ | x) | x | x <;> rfl
theorem zwt_v (ad : Nat → Nat) : ∀ (r : List zV), ((r.map (zv ad)).map fun v => v.category).sum = zwt r
  | [] => rfl
  | v :: r => by
    have h := zwt_v ad r
    simp only [List.map_cons, List.sum_cons, zcat_v]
    rw [show zwt (v :: r) = zcat v + zwt r from rfl, ← h]
/-- the locals -/
def zLs (ad : Nat → Nat) (nL : Nat) (ls : List zV) (real : Array Slot) : Prop := (real.size = nL ∧ ls.length = nL) ∧ lv_wf real ∧ ∀ (i : Nat) (v : zV), ls[i]? = some v → zcat v = 1 → v ≠ zU → real[i]? = some (.val (zv ad v))
/-- the listed locals, as the kit has them -/
def zll (ad : Nat → Nat) (ls : List zV) : List (Nat × Value) := (List.range ls.length).filterMap (fun i => match (ls[i]? : Option zV) with
  | some (Sum.inl x) => some (i, Value.int (zJ x))
  | some (Sum.inr (Sum.inl r)) => some (i, zrv ad r)
  | _ => none)
theorem zll_mem {ad : Nat → Nat} {ls : List zV} {q : Nat × Value} : q ∈ zll ad ls ↔ ∃ v, ls[q.1]? = some v ∧ zcat v = 1 ∧ v ≠ zU ∧ q.2 = zv ad v := by
  unfold zll
  rw [List.mem_filterMap]
  constructor
  · rintro ⟨i, hi, h⟩
    rcases hv : ls[i]? with _ | (x | r | x | x)
    · rw [hv] at h; cases h
    · rw [hv] at h; cases h; exact ⟨_, hv, rfl, by simp, rfl⟩
    · rw [hv] at h; cases h; exact ⟨_, hv, rfl, by simp, rfl⟩
    · rw [hv] at h; cases h
    · rw [hv] at h; cases h
  · rintro ⟨v, hv, hc, hu, h2⟩
    refine ⟨q.1, List.mem_range.mpr (List.getElem?_eq_some_iff.mp hv).1, ?_⟩
    obtain ⟨i, w⟩ := q
    dsimp only at hv h2
    subst h2
    rcases v with x | r | x | x
    · simp [hv, zv]
    · simp [hv, zv]
    · simp [zcat] at hc
    · exact (hu rfl).elim
theorem zLs.has {ad : Nat → Nat} {nL : Nat} {ls : List zV} {real : Array Slot} (h : zLs ad nL ls real) : lv_has real nL (zll ad ls) := by
  refine ⟨h.1.1, h.2.1, fun q hq => ?_⟩
  obtain ⟨v, h1, h2, h3, h4⟩ := zll_mem.mp hq
  rw [h4]
  exact h.2.2 _ _ h1 h2 h3
theorem zLs.at {ad : Nat → Nat} {nL : Nat} {ls : List zV} {real : Array Slot} (h : zLs ad nL ls real) {i : Nat} {v : zV} (hv : ls[i]? = some v) (hc : zcat v = 1) (hu : v ≠ zU) : real[i]? = some (.val (zv ad v)) := h.2.2 i v hv hc hu
theorem zLs.set {ad : Nat → Nat} {nL : Nat} {ls : List zV} {real : Array Slot} {i : Nat} {w : zV} (hn : ls.length = nL)
    (h' : lv_has real nL ((i, zv ad w) :: (zll ad ls).filter (fun q => !(q.1 == i) && !(q.1 + 1 == i && q.2.category == 2)))) : zLs ad nL (ls.set i w) real := by
  refine ⟨⟨h'.1, by simpa using hn⟩, h'.2.1, fun j v hv hc hu => ?_⟩
  by_cases hj : j = i
  · subst hj
    have hlt : j < ls.length := by
      have := (List.getElem?_eq_some_iff.mp hv).1
      simpa using this
    rw [List.getElem?_set_self hlt] at hv
    cases hv
    exact h'.2.2 (j, zv ad w) List.mem_cons_self
  · rw [List.getElem?_set_ne (Ne.symm hj)] at hv
    refine h'.2.2 (j, zv ad v) (List.mem_cons_of_mem _ (List.mem_filter.mpr ⟨zll_mem.mpr ⟨v, hv, hc, hu, rfl⟩, ?_⟩))
    simp [hj, zcat_v, hc]
