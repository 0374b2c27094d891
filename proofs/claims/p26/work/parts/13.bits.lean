/-! bits of small whole numbers, as the small machine computes them -/
theorem zTI {z : Int32} {m : Nat} (h : z.toBitVec.toNat = m) (hm : m < 2 ^ 31) : z.toInt = (m : Int) := by
  show z.toBitVec.toInt = _
  rw [BitVec.toInt_eq_toNat_of_lt (by rw [h]; omega), h]
theorem zTN {a : Nat} (h : a < 2 ^ 32) : (zJ (a : Int)).toBitVec.toNat = a := by
  rw [zJ_nat]
  exact pk_tn h
theorem zand_nat {a b : Nat} (ha : a < 2 ^ 31) (hb : b < 2 ^ 31) : zand a b = ((a &&& b : Nat) : Int) := by
  refine zTI ?_ (Nat.lt_of_le_of_lt Nat.and_le_left ha)
  show ((zJ a).toBitVec &&& (zJ b).toBitVec).toNat = _
  rw [BitVec.toNat_and, zTN (by omega), zTN (by omega)]
theorem zor_nat {a b : Nat} (ha : a < 2 ^ 31) (hb : b < 2 ^ 31) : zor a b = ((a ||| b : Nat) : Int) := by
  refine zTI ?_ (Nat.or_lt_two_pow ha hb)
  show ((zJ a).toBitVec ||| (zJ b).toBitVec).toNat = _
  rw [BitVec.toNat_or, zTN (by omega), zTN (by omega)]
theorem zxor_nat {a b : Nat} (ha : a < 2 ^ 31) (hb : b < 2 ^ 31) : zxor a b = ((a ^^^ b : Nat) : Int) := by
  refine zTI ?_ (Nat.xor_lt_two_pow ha hb)
  show ((zJ a).toBitVec ^^^ (zJ b).toBitVec).toNat = _
  rw [BitVec.toNat_xor, zTN (by omega), zTN (by omega)]
theorem zmod31 {t : Nat} (h : t < 32) : ((zJ (t : Int) &&& 31).toBitVec.smod 32).toNat = t := by
  have : ∀ t : Nat, t < 32 → ((zJ (t : Int) &&& 31).toBitVec.smod 32).toNat = t := by decide +kernel
  exact this t h
theorem zshr_nat {a t : Nat} (ha : a < 2 ^ 31) (ht : t < 32) : zshr a t = ((a / 2 ^ t : Nat) : Int) := by
  unfold zshr
  rw [zJ_nat a]
  show (nI a >>> _).toInt = _
  rw [pk_shrN ha _ t (zmod31 ht)]
  exact nI_toInt (Nat.lt_of_le_of_lt (Nat.div_le_self _ _) ha)
theorem zshl_nat {a t : Nat} (ht : t < 32) (h : a * 2 ^ t < 2 ^ 31) : zshl a t = ((a * 2 ^ t : Nat) : Int) := by
  unfold zshl
  rw [zJ_nat a]
  show (nI a <<< _).toInt = _
  rw [pk_shlN _ t (zmod31 ht) (by omega)]
  exact nI_toInt h
theorem zone_shl {t : Nat} (ht : t < 31) : zshl 1 t = ((2 ^ t : Nat) : Int) := by
  have h := @zshl_nat 1 t (by omega) (by rw [Nat.one_mul]; exact Nat.pow_lt_pow_right (by decide) ht)
  rw [Nat.one_mul] at h
  exact h
theorem nand_pow (a t : Nat) : a &&& 2 ^ t = if a.testBit t then 2 ^ t else 0 := by
  refine Nat.eq_of_testBit_eq (fun i => ?_)
  rw [Nat.testBit_and, Nat.testBit_two_pow]
  by_cases h : a.testBit t = true
  · rw [if_pos h, Nat.testBit_two_pow]
    by_cases hi : t = i
    · subst hi; simp [h]
    · simp [hi]
  · rw [if_neg h, Nat.zero_testBit]
    by_cases hi : t = i
    · subst hi; simpa using h
    · simp [hi]
/-- the bit t of a set -/
theorem zbit {a t : Nat} (ha : a < 2 ^ 31) (ht : t < 32) : zand (zshr a t) 1 = if a.testBit t then 1 else 0 := by
  rw [zshr_nat ha ht]
  have h := @zand_nat (a / 2 ^ t) 1 (Nat.lt_of_le_of_lt (Nat.div_le_self _ _) ha) (by decide)
  have e : ((1 : Nat) : Int) = 1 := rfl
  rw [e] at h
  rw [h, Nat.and_one_is_mod, Nat.testBit_eq_decide_div_mod_eq]
  by_cases hb : a / 2 ^ t % 2 = 1
  · rw [hb]; simp
  · have : a / 2 ^ t % 2 = 0 := by omega
    rw [this]; simp
theorem zbit1 {a t : Nat} (ha : a < 2 ^ 31) (ht : t < 32) : zand (zshr a t) 1 = 1 ↔ a.testBit t = true := by
  rw [zbit ha ht]
  by_cases h : a.testBit t = true <;> simp [h]
theorem zbit2 {a t : Nat} (ha : a < 2 ^ 31) (ht : t < 31) : zand a (zshl 1 t) = if a.testBit t then ((2 ^ t : Nat) : Int) else 0 := by
  rw [zone_shl ht, zand_nat ha (Nat.pow_lt_pow_right (by decide) ht), nand_pow]
  by_cases h : a.testBit t = true
  · rw [if_pos h, if_pos h]
  · have h : a.testBit t = false := by simpa using h
    rw [h]; rfl
theorem zbit3 {a t : Nat} (ha : a < 2 ^ 31) (ht : t < 31) : zand a (zshl 1 t) = 0 ↔ a.testBit t = false := by
  rw [zbit2 ha ht]
  have : 0 < 2 ^ t := Nat.two_pow_pos t
  by_cases h : a.testBit t = true
  · rw [if_pos h, h]
    exact ⟨fun q => by omega, fun q => Bool.noConfusion q⟩
  · have h : a.testBit t = false := by simpa using h
    rw [h]; simp
/-- a without b -/
def ndf (a b : Nat) : Nat := a ^^^ (a &&& b)
theorem ndf_bit (a b t : Nat) : (ndf a b).testBit t = (a.testBit t && !b.testBit t) := by
  unfold ndf
  rw [Nat.testBit_xor, Nat.testBit_and]
  cases a.testBit t <;> cases b.testBit t <;> rfl
theorem zandnot {a b : Nat} (ha : a < 2 ^ 31) (hb : b < 2 ^ 31) : zand a (zxor b (-1)) = ((ndf a b : Nat) : Int) := by
  have hle : ndf a b < 2 ^ 31 := Nat.xor_lt_two_pow ha (Nat.lt_of_le_of_lt Nat.and_le_left ha)
  refine zTI ?_ hle
  show ((zJ a).toBitVec &&& (zJ (zxor b (-1))).toBitVec).toNat = _
  have e : (zJ (zxor b (-1))).toBitVec = ~~~ (zJ b).toBitVec := by
    unfold zxor
    rw [zJ_of]
    show (zJ b).toBitVec ^^^ (zJ (-1)).toBitVec = _
    have : (zJ (-1)).toBitVec = BitVec.allOnes 32 := by decide
    rw [this, BitVec.xor_allOnes]
  rw [e]
  refine Nat.eq_of_testBit_eq (fun t => ?_)
  rw [ndf_bit, BitVec.toNat_and, Nat.testBit_and, zTN (by omega)]
  by_cases ht : t < 32
  · have : (~~~ (zJ b).toBitVec).toNat.testBit t = !(zJ b).toBitVec.toNat.testBit t := by
      rw [BitVec.testBit_toNat, BitVec.getLsbD_not, BitVec.testBit_toNat]
      simp [ht]
    rw [this, zTN (by omega)]
  · have h1 : a.testBit t = false := Nat.testBit_lt_two_pow (Nat.lt_of_lt_of_le ha (Nat.pow_le_pow_right (by decide) (by omega)))
    rw [h1]; rfl
theorem zpow_bit (i t : Nat) : (2 ^ i).testBit t = decide (i = t) := Nat.testBit_two_pow
theorem zbits_lt {a n : Nat} (h : ∀ t, n ≤ t → a.testBit t = false) : a < 2 ^ n := Nat.lt_pow_two_of_testBit a h
theorem zlt_bits {a n t : Nat} (h : a < 2 ^ n) (ht : n ≤ t) : a.testBit t = false := Nat.testBit_lt_two_pow (Nat.lt_of_lt_of_le h (Nat.pow_le_pow_right (by decide) ht))
theorem zp12 {n : Nat} (h : n ≤ 12) : 2 ^ n ≤ 4096 := Nat.pow_le_pow_right (by decide) h
theorem zup_s {g : zM} {k : Nat} {i v : Int} : zup g k i v k i = v := by simp [zup]
theorem zup_k {g : zM} {k k' : Nat} {i v j : Int} (h : k' ≠ k) : zup g k i v k' j = g k' j := by simp [zup, h]
theorem zup_i {g : zM} {k k' : Nat} {i v j : Int} (h : j ≠ i) : zup g k i v k' j = g k' j := by simp [zup, h]
theorem zQe {Q : zP} {x y : Int} {g : zM} (h : Q (some (zI x)) g) (e : y = x) : Q (some (zI y)) g := e ▸ h
