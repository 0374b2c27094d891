/-! numbers of 32 bits, memory -/
theorem zJ_toInt {x : Int} (h : zin x) : (zJ x).toInt = x := Int32.toInt_ofInt_of_le h.1 h.2
theorem zJ_of (z : Int32) : zJ z.toInt = z := Int32.ofInt_toInt z
theorem zJL_of (z : Int64) : zJL z.toInt = z := Int64.ofInt_toInt z
theorem zJ_add (x y : Int) : zJ x + zJ y = zJ (x + y) := (Int32.ofInt_add x y).symm
theorem zJ_sub (x y : Int) : zJ x - zJ y = zJ (x - y) := (Int32.ofInt_sub x y).symm
theorem zJ_mul (x y : Int) : zJ x * zJ y = zJ (x * y) := (Int32.ofInt_mul x y).symm
theorem zJ_clamp {x : Int} (h0 : 0 ≤ x) (h1 : x < 2147483648) : (zJ x).toNatClampNeg = x.toNat := by
  show (zJ x).toInt.toNat = _
  rw [zJ_toInt ⟨by omega, h1⟩]
theorem zJ_lt {x y : Int} (hx : zin x) (hy : zin y) : zJ x < zJ y ↔ x < y := by
  rw [Int32.lt_iff_toInt_lt, zJ_toInt hx, zJ_toInt hy]
theorem zJ_le {x y : Int} (hx : zin x) (hy : zin y) : zJ x ≤ zJ y ↔ x ≤ y := by
  rw [Int32.le_iff_toInt_le, zJ_toInt hx, zJ_toInt hy]
theorem zJ_eq {x y : Int} (hx : zin x) (hy : zin y) : zJ x = zJ y ↔ x = y := by
  constructor
  · intro h
    rw [← zJ_toInt hx, ← zJ_toInt hy, h]
  · intro h
    rw [h]
theorem zin0 : zin 0 := ⟨by decide, by decide⟩
theorem zJ_0 : zJ 0 = 0 := by decide
theorem zJ_vpin {i : Int} {n : Nat} (h0 : 0 ≤ i) (h : i < n) (hn : n < 2147483648) : vp_in (zJ i) n := by
  refine vp_in_iff.mpr ?_
  rw [zJ_toInt ⟨by omega, by omega⟩]
  exact ⟨h0, h⟩
theorem zget_spec {F : zV → Prop} : ∀ (l : List zV) (k : Nat), zget l k F → ∃ v, l[k]? = some v ∧ F v
  | [], _, h => h.elim
  | v :: _, 0, h => ⟨v, rfl, h⟩
  | _ :: l, k + 1, h => by
    obtain ⟨v, h1, h2⟩ := zget_spec l k h
    exact ⟨v, by rw [List.getElem?_cons_succ]; exact h1, h2⟩
theorem zset_spec : ∀ (l : List zV) (k : Nat) (v : zV) {F : List zV → Prop}, zset l k v F → k < l.length ∧ F (l.set k v)
  | [], _, _, _, h => h.elim
  | _ :: l, 0, v, _, h => ⟨by simp, h⟩
  | a :: l, k + 1, v, _, h => by
    obtain ⟨h1, h2⟩ := zset_spec l k v h
    exact ⟨by simp; omega, h2⟩
theorem zpop_spec {F : List zV → List zV → Prop} : ∀ (n : Nat) (st acc : List zV), zpop n st acc F → ∃ xs r, st = xs ++ r ∧ xs.length = n ∧ F (xs.reverse ++ acc) r
  | 0, st, acc, h => ⟨[], st, rfl, rfl, h⟩
  | _ + 1, [], _, h => h.elim
  | n + 1, v :: st, acc, h => by
    obtain ⟨xs, r, h1, h2, h3⟩ := zpop_spec n st (v :: acc) h
    exact ⟨v :: xs, r, by rw [h1]; rfl, by simp [h2], by simpa using h3⟩
theorem zJ_nat (n : Nat) : zJ (n : Int) = Int32.ofNat n := by
  unfold zJ
  first | exact Int32.ofInt_eq_ofNat | exact (Int32.ofNat_eq_ofInt ..).symm | (apply Int32.toBitVec_inj.mp; simp [Int32.ofInt, Int32.ofNat, BitVec.ofInt_natCast])
theorem zup_row {g : zM} {k : Nat} {i w : Int} : (zup g k i w) k = fun j => if j = i then w else g k j := by
  funext j
  simp [zup]
theorem zup_ne {g : zM} {k j : Nat} {i w : Int} (h : j ≠ k) : (zup g k i w) j = g j := by
  funext x
  simp [zup, h]
theorem zcpy_ne {g : zM} {a b j : Nat} {sp dp n : Int} (h : j ≠ b) : (zcpy g a sp b dp n) j = g j := by
  funext x
  simp [zcpy, h]
theorem zcpy_row {g : zM} {a b : Nat} {sp dp n : Int} : (zcpy g a sp b dp n) b = fun j => if dp ≤ j ∧ j < dp + n then g a (sp + (j - dp)) else g b j := by
  funext x
  simp [zcpy]
theorem zcpy_fn {α : Type} (J : Int → α) {g : zM} {a b : Nat} {sp dp n : Int} (h1 : 0 ≤ sp) (h2 : 0 ≤ dp) (h3 : 0 ≤ n) : va_cpy (fun j : Nat => J (g a j)) (fun j : Nat => J (g b j)) sp.toNat dp.toNat n.toNat = fun j : Nat => J ((fun j : Int => if dp ≤ j ∧ j < dp + n then g a (sp + (j - dp)) else g b j) j) := by
  funext k
  unfold va_cpy
  by_cases hk : dp ≤ (k : Int) ∧ (k : Int) < dp + n
  · have e : ((sp.toNat + (k - dp.toNat) : Nat) : Int) = sp + ((k : Int) - dp) := by omega
    rw [if_pos (by omega)]
    dsimp only
    rw [if_pos hk, e]
  · rw [if_neg (by omega)]
    dsimp only
    rw [if_neg hk]
