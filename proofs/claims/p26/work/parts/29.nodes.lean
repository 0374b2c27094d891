/-! packed nodes: longs by their parts (the rows wb_.. began as the kit's laws/BITS.to-paste) -/
theorem wb_tb (n : Nat) : (lN n).toBitVec = BitVec.ofNat 64 n := rfl
theorem wb_inj {a b : Int64} (h : a.toBitVec = b.toBitVec) : a = b := Int64.toBitVec_inj.mp h
theorem wb_tn {n : Nat} (h : n < 2 ^ 64) : (lN n).toBitVec.toNat = n := by rw [wb_tb, BitVec.toNat_ofNat, Nat.mod_eq_of_lt h]
theorem wb_of (x : Int64) : ∃ n, n < 2 ^ 64 ∧ x = lN n := ⟨x.toBitVec.toNat, x.toBitVec.isLt, wb_inj (by rw [wb_tb]; simp)⟩
theorem wb_of32 (x : Int32) : ∃ n, n < 2 ^ 32 ∧ x = nI n := ⟨x.toBitVec.toNat, x.toBitVec.isLt, Int32.toBitVec_inj.mp (by show _ = BitVec.ofNat 32 _; simp)⟩
theorem wb_c : ∀ k, k < 64 → ((nI k).toInt64 &&& 63) = lN k := by decide +kernel
theorem wb_cu : ∀ k, k < 64 → ((nI k).toInt64.toUInt64 &&& Int64.toUInt64 63) = UInt64.ofNat k := by decide +kernel
theorem wb_sm : ∀ k, k < 64 → (BitVec.ofNat 64 k).smod 64 = BitVec.ofNat 64 k := by decide +kernel
theorem wb_pw {a b : Nat} (h : a ≤ b) : 2 ^ b = 2 ^ a * 2 ^ (b - a) := by rw [← Nat.pow_add]; congr 1; omega
theorem wb_lt2 {a b : Nat} (h : a < b) : 2 ^ a < 2 ^ b := Nat.pow_lt_pow_right (by decide) h
theorem wb_mod (n : Nat) : lN n = lN (n % 2 ^ 64) := wb_inj (by rw [wb_tb, wb_tb]; apply BitVec.eq_of_toNat_eq; rw [BitVec.toNat_ofNat, BitVec.toNat_ofNat, Nat.mod_mod])
theorem wb_shr {n k : Nat} (hn : n < 2 ^ 64) (hk : k < 64) : ((lN n).toUInt64 >>> ((nI k).toInt64.toUInt64 &&& Int64.toUInt64 63)).toInt64 = lN (n / 2 ^ k) := by
  rw [wb_cu k hk]
  apply wb_inj
  apply BitVec.eq_of_toNat_eq
  show ((lN n).toUInt64 >>> UInt64.ofNat k).toNat = (BitVec.ofNat 64 _).toNat
  have h1 : (UInt64.ofNat k).toNat = k := by
    show (BitVec.ofNat 64 k).toNat = k
    rw [BitVec.toNat_ofNat, Nat.mod_eq_of_lt (by omega)]
  have h2 : (lN n).toUInt64.toNat = n := wb_tn hn
  rw [UInt64.toNat_shiftRight, h1, h2, Nat.mod_eq_of_lt hk, Nat.shiftRight_eq_div_pow, BitVec.toNat_ofNat, Nat.mod_eq_of_lt (Nat.lt_of_le_of_lt (Nat.div_le_self _ _) hn)]
theorem wb_shl (n : Nat) {k : Nat} (hk : k < 64) : lN n <<< ((nI k).toInt64 &&& 63) = lN (n * 2 ^ k) := by
  rw [wb_c k hk]
  apply wb_inj
  rw [Int64.toBitVec_shiftLeft, wb_tb, wb_tb, wb_tb, wb_sm k hk]
  apply BitVec.eq_of_toNat_eq
  rw [BitVec.shiftLeft_eq', BitVec.toNat_shiftLeft, BitVec.toNat_ofNat, BitVec.toNat_ofNat, BitVec.toNat_ofNat, Nat.mod_eq_of_lt (show k < 2 ^ 64 by omega), Nat.shiftLeft_eq, Nat.mul_mod, Nat.mod_mod, ← Nat.mul_mod]
theorem wb_and {a b : Nat} (ha : a < 2 ^ 64) (hb : b < 2 ^ 64) : lN a &&& lN b = lN (a &&& b) := by
  apply wb_inj
  rw [Int64.toBitVec_and, wb_tb, wb_tb, wb_tb]
  apply BitVec.eq_of_toNat_eq
  rw [BitVec.toNat_and, BitVec.toNat_ofNat, BitVec.toNat_ofNat, BitVec.toNat_ofNat, Nat.mod_eq_of_lt ha, Nat.mod_eq_of_lt hb, Nat.mod_eq_of_lt (Nat.and_lt_two_pow _ hb)]
theorem wb_or {a b : Nat} (ha : a < 2 ^ 64) (hb : b < 2 ^ 64) : lN a ||| lN b = lN (a ||| b) := by
  apply wb_inj
  rw [Int64.toBitVec_or, wb_tb, wb_tb, wb_tb]
  apply BitVec.eq_of_toNat_eq
  rw [BitVec.toNat_or, BitVec.toNat_ofNat, BitVec.toNat_ofNat, BitVec.toNat_ofNat, Nat.mod_eq_of_lt ha, Nat.mod_eq_of_lt hb, Nat.mod_eq_of_lt (Nat.or_lt_two_pow ha hb)]
theorem zJL_l2i {y : Int} {v : Nat} (h : zJL y = lN v) : zJ (zl2i y) = nI v := by
  unfold zl2i
  rw [zJ_of, h]
  exact lN_i v
theorem zJL_ushr {x : Int} {u k : Nat} (h : zJL x = lN u) (hu : u < 2 ^ 64) (hk : k < 64) : zJL (zlushr x k) = lN (u / 2 ^ k) := by
  unfold zlushr
  rw [zJL_of, h, zJ_nat]
  exact wb_shr hu hk
theorem zJL_shl {x : Int} {u k : Nat} (h : zJL x = lN u) (hk : k < 64) : zJL (zlshl x k) = lN (u * 2 ^ k) := by
  unfold zlshl
  rw [zJL_of, h, zJ_nat]
  exact wb_shl u hk
theorem zJL_or {x y : Int} {u v : Nat} (hx : zJL x = lN u) (hy : zJL y = lN v) (hu : u < 2 ^ 64) (hv : v < 2 ^ 64) : zJL (zlor x y) = lN (u ||| v) := by
  unfold zlor
  rw [zJL_of, hx, hy]
  exact wb_or hu hv
theorem zJL_and {x y : Int} {u v : Nat} (hx : zJL x = lN u) (hy : zJL y = lN v) (hu : u < 2 ^ 64) (hv : v < 2 ^ 64) : zJL (zland x y) = lN (u &&& v) := by
  unfold zland
  rw [zJL_of, hx, hy]
  exact wb_and hu hv
theorem zJL_i2l {v : Nat} (h : v < 2 ^ 31) : zJL (zi2l v) = lN v := by
  unfold zi2l
  rw [zJL_of, zJ_nat]
  exact nI_l h
/-- a part of a packed node -/
theorem zpart {x : Int} {u k : Nat} (h : zJL x = lN u) (hu : u < 2 ^ 64) (hk : k < 64) : zand (zl2i (zlushr x k)) 4095 = ((u / 2 ^ k % 4096 : Nat) : Int) := by
  have h1 := zJL_l2i (zJL_ushr h hu hk)
  refine zTI (m := u / 2 ^ k % 4096) ?_ (by omega)
  show (zJ (zl2i (zlushr x k)) &&& zJ 4095).toBitVec.toNat = _
  rw [h1, pk_and _ 12 (by decide)]
  have h2 : (nI (u / 2 ^ k)).toBitVec.toNat = u / 2 ^ k % 2 ^ 32 := by
    show (BitVec.ofNat 32 _).toNat = _
    rw [BitVec.toNat_ofNat]
  rw [h2, pk_tn (by omega)]
  omega
theorem nor_add {a b k : Nat} (h : b < 2 ^ k) : a * 2 ^ k ||| b = a * 2 ^ k + b := by
  rw [← Nat.shiftLeft_eq, Nat.shiftLeft_add_eq_or_of_lt h]
/-- a packed node says so: how, bound, in, out, from, fixed -/
def pkd (x h b i o p f : Int) : Prop := ∃ u : Nat, zJL x = lN u ∧ u < 2 ^ 64 ∧ ((u % 4096 : Nat) : Int) = h ∧ ((u / 2 ^ 24 % 4096 : Nat) : Int) = b ∧ ((u / 2 ^ 36 % 4096 : Nat) : Int) = i ∧ ((u / 2 ^ 48 % 4096 : Nat) : Int) = o ∧ ((u / 2 ^ 12 % 4096 : Nat) : Int) = p ∧ ((u / 2 ^ 60 % 4096 : Nat) : Int) = f
theorem pkd_make {h b i o p f : Nat} (hh : h < 4096) (hb : b < 4096) (hi : i < 4096) (ho : o < 4096) (hp : p < 4096) (hf : f < 16) :
    pkd (zlor (zlor (zlor (zlor (zlor (zlshl (zi2l f) 60) (zlshl (zi2l o) 48)) (zlshl (zi2l i) 36)) (zlshl (zi2l b) 24)) (zlshl (zi2l p) 12)) (zlshl (zi2l h) 0)) h b i o p f := by
  have a1 := zJL_shl (k := 60) (zJL_i2l (v := f) (by omega)) (by decide)
  have a2 := zJL_shl (k := 48) (zJL_i2l (v := o) (by omega)) (by decide)
  have a3 := zJL_shl (k := 36) (zJL_i2l (v := i) (by omega)) (by decide)
  have a4 := zJL_shl (k := 24) (zJL_i2l (v := b) (by omega)) (by decide)
  have a5 := zJL_shl (k := 12) (zJL_i2l (v := p) (by omega)) (by decide)
  have a6 := zJL_shl (k := 0) (zJL_i2l (v := h) (by omega)) (by decide)
  have b1 := zJL_or a1 a2 (by omega) (by omega)
  have e1 : f * 2 ^ 60 ||| o * 2 ^ 48 = (f * 4096 + o) * 2 ^ 48 := by rw [nor_add (k := 60) (by omega)]; omega
  rw [e1] at b1
  have b2 := zJL_or b1 a3 (by omega) (by omega)
  have e2 : (f * 4096 + o) * 2 ^ 48 ||| i * 2 ^ 36 = ((f * 4096 + o) * 4096 + i) * 2 ^ 36 := by rw [nor_add (k := 48) (by omega)]; omega
  rw [e2] at b2
  have b3 := zJL_or b2 a4 (by omega) (by omega)
  have e3 : ((f * 4096 + o) * 4096 + i) * 2 ^ 36 ||| b * 2 ^ 24 = (((f * 4096 + o) * 4096 + i) * 4096 + b) * 2 ^ 24 := by rw [nor_add (k := 36) (by omega)]; omega
  rw [e3] at b3
  have b4 := zJL_or b3 a5 (by omega) (by omega)
  have e4 : (((f * 4096 + o) * 4096 + i) * 4096 + b) * 2 ^ 24 ||| p * 2 ^ 12 = ((((f * 4096 + o) * 4096 + i) * 4096 + b) * 4096 + p) * 2 ^ 12 := by rw [nor_add (k := 24) (by omega)]; omega
  rw [e4] at b4
  have b5 := zJL_or b4 a6 (by omega) (by omega)
  have e5 : ((((f * 4096 + o) * 4096 + i) * 4096 + b) * 4096 + p) * 2 ^ 12 ||| h * 2 ^ 0 = ((((f * 4096 + o) * 4096 + i) * 4096 + b) * 4096 + p) * 2 ^ 12 + h := by rw [Nat.pow_zero, Nat.mul_one, nor_add (k := 12) (by omega)]
  rw [e5] at b5
  refine ⟨_, b5, by omega, ?_, ?_, ?_, ?_, ?_, ?_⟩ <;> omega
theorem nmask : ∀ j, j < 64 → (18446744073709547520 : Nat).testBit j = decide (12 ≤ j) := by decide +kernel
theorem nand_hi {u : Nat} (h : u < 2 ^ 64) : u &&& 18446744073709547520 = u / 2 ^ 12 * 2 ^ 12 := by
  refine Nat.eq_of_testBit_eq (fun j => ?_)
  rw [Nat.testBit_and, Nat.testBit_mul_two_pow, Nat.testBit_div_two_pow]
  by_cases hj : j < 64
  · rw [nmask j hj]
    by_cases h12 : 12 ≤ j
    · have e : j - 12 + 12 = j := by omega
      simp [h12, e]
    · simp [h12]
  · rw [zlt_bits h (by omega)]
    by_cases h12 : 12 ≤ j
    · have e : j - 12 + 12 = j := by omega
      rw [e, zlt_bits h (by omega)]
      simp
    · simp [h12]
theorem pkd_settle {x h b i o p f : Int} {w : Nat} (hx : pkd x h b i o p f) (hw : w < 4096) : pkd (zlor (zland x (-4096)) (zlshl (zi2l w) 0)) w b i o p f := by
  obtain ⟨u, h1, h2, h3, h4, h5, h6, h7, h8⟩ := hx
  have m1 : zJL (-4096) = lN 18446744073709547520 := by decide
  have b1 := zJL_and h1 m1 h2 (by decide)
  rw [nand_hi h2] at b1
  have a6 := zJL_shl (k := 0) (zJL_i2l (v := w) (by omega)) (by decide)
  have b2 := zJL_or b1 a6 (by omega) (by omega)
  have e5 : u / 2 ^ 12 * 2 ^ 12 ||| w * 2 ^ 0 = u / 2 ^ 12 * 2 ^ 12 + w := by rw [Nat.pow_zero, Nat.mul_one, nor_add (k := 12) (by omega)]
  rw [e5] at b2
  refine ⟨_, b2, by omega, ?_, ?_, ?_, ?_, ?_, ?_⟩ <;> omega
def zKN (q : Nat) : Prop := zkd q = (0, 2) ∧ zkd (q + 1) = (3, 400)
def RelN (g : zM) (q : Nat) (s : zS) (m : Nat) : Prop := g q (1 : Nat) = (m : Int) ∧ ∀ k : Nat, k < m → pkd (g (q + 1) k) (nd s k 4) (nd s k 3) (nd s k 5) (nd s k 6) (if k = 0 then 0 else nd s k 0) (if k = 0 then 0 else nd s k 1)
section CN
variable {g : zM} {q m : Nat} {s : zS} {d : Nat} {Q : zP}
theorem c_part (hk : zKN q) {node sh u : Nat} (hn : node < 400) (hsh : sh < 64) (hx : zJL (g (q + 1) node) = lN u) (hu : u < 2 ^ 64) (hQ : Q (some (zI (u / 2 ^ sh % 4096 : Nat))) g) : zC (d + 1) 27 [zR q, zI node, zI sh] g Q := by
  obtain ⟨hk0, hk1⟩ := id hk
  have hk11 : (zkd (q + 1)).1 = 3 := by rw [hk1]
  have hk12 : (zkd (q + 1)).2 = 400 := by rw [hk1]
  refine zC.go zm_X2_part ⟨rfl, rfl⟩ rfl ?_
  (refine zW.go (zC_om _) (fun K hK => ?_); conv => whnf)
  (refine And.intro (by first | omega | assumption | rfl | exact zin_and | exact ⟨zin_and, by omega⟩ | exact ⟨by omega, zin_and⟩ | exact Nat.le_of_ble_eq_true rfl | exact ⟨Nat.le_of_ble_eq_true rfl, rfl⟩ | exact ⟨Nat.le_of_ble_eq_true rfl, by assumption⟩ | exact ⟨by omega, Nat.le_of_ble_eq_true rfl⟩ | exact ⟨⟨by assumption, by omega⟩, Nat.le_of_ble_eq_true rfl⟩ | decide) ?_; conv => whnf)
  (refine And.intro (fun h => by omega) (fun h => ?_); conv => whnf)
  (refine And.intro (by first | omega | assumption | rfl | exact zin_and | exact ⟨zin_and, by omega⟩ | exact ⟨by omega, zin_and⟩ | exact Nat.le_of_ble_eq_true rfl | exact ⟨Nat.le_of_ble_eq_true rfl, rfl⟩ | exact ⟨Nat.le_of_ble_eq_true rfl, by assumption⟩ | exact ⟨by omega, Nat.le_of_ble_eq_true rfl⟩ | exact ⟨⟨by assumption, by omega⟩, Nat.le_of_ble_eq_true rfl⟩ | decide) ?_; conv => whnf)
  (refine And.intro (by first | omega | assumption | rfl | exact zin_and | exact ⟨zin_and, by omega⟩ | exact ⟨by omega, zin_and⟩ | exact Nat.le_of_ble_eq_true rfl | exact ⟨Nat.le_of_ble_eq_true rfl, rfl⟩ | exact ⟨Nat.le_of_ble_eq_true rfl, by assumption⟩ | exact ⟨by omega, Nat.le_of_ble_eq_true rfl⟩ | exact ⟨⟨by assumption, by omega⟩, Nat.le_of_ble_eq_true rfl⟩ | decide) ?_; conv => whnf)
  (refine And.intro (by first | omega | assumption | rfl | exact zin_and | exact ⟨zin_and, by omega⟩ | exact ⟨by omega, zin_and⟩ | exact Nat.le_of_ble_eq_true rfl | exact ⟨Nat.le_of_ble_eq_true rfl, rfl⟩ | exact ⟨Nat.le_of_ble_eq_true rfl, by assumption⟩ | exact ⟨by omega, Nat.le_of_ble_eq_true rfl⟩ | exact ⟨⟨by assumption, by omega⟩, Nat.le_of_ble_eq_true rfl⟩ | decide) ?_; conv => whnf)
  (refine And.intro (fun h => by omega) (fun h => ?_); conv => whnf)
  (refine And.intro (by first | omega | assumption | rfl | exact zin_and | exact ⟨zin_and, by omega⟩ | exact ⟨by omega, zin_and⟩ | exact Nat.le_of_ble_eq_true rfl | exact ⟨Nat.le_of_ble_eq_true rfl, rfl⟩ | exact ⟨Nat.le_of_ble_eq_true rfl, by assumption⟩ | exact ⟨by omega, Nat.le_of_ble_eq_true rfl⟩ | exact ⟨⟨by assumption, by omega⟩, Nat.le_of_ble_eq_true rfl⟩ | decide) ?_; conv => whnf)
  (refine And.intro (by first | omega | assumption | rfl | exact zin_and | exact ⟨zin_and, by omega⟩ | exact ⟨by omega, zin_and⟩ | exact Nat.le_of_ble_eq_true rfl | exact ⟨Nat.le_of_ble_eq_true rfl, rfl⟩ | exact ⟨Nat.le_of_ble_eq_true rfl, by assumption⟩ | exact ⟨by omega, Nat.le_of_ble_eq_true rfl⟩ | exact ⟨⟨by assumption, by omega⟩, Nat.le_of_ble_eq_true rfl⟩ | decide) ?_; conv => whnf)
  rw [zpart hx hu hsh]
  (repeat' first | (refine hK _ _ _ _ (zW.go (zC_om _) (fun K hK => ?_)); conv => whnf) | (refine And.intro (by first | omega | assumption | rfl | exact zin_and | exact ⟨zin_and, by omega⟩ | exact ⟨by omega, zin_and⟩ | exact Nat.le_of_ble_eq_true rfl | exact ⟨Nat.le_of_ble_eq_true rfl, rfl⟩ | exact ⟨Nat.le_of_ble_eq_true rfl, by assumption⟩ | exact ⟨by omega, Nat.le_of_ble_eq_true rfl⟩ | exact ⟨⟨by assumption, by omega⟩, Nat.le_of_ble_eq_true rfl⟩ | decide) ?_; conv => whnf) | (refine And.intro (fun h => ?_) (fun h => ?_) <;> conv => whnf) | (intro h; conv => whnf))
  exact hQ
theorem c_how (hk : zKN q) (hr : RelN g q s m) (hm : m ≤ 400) {k : Nat} (hkm : k < m) (hQ : Q (some (zI (nd s k 4))) g) : zC (d + 2) 28 [zR q, zI k] g Q := by
  obtain ⟨hk0, hk1⟩ := id hk
  obtain ⟨u, h1, h2, h3, h4, h5, h6, h7, h8⟩ := hr.2 k hkm
  refine zC.go zm_X2_how ⟨rfl, rfl⟩ rfl ?_
  (refine zW.go (zC_om _) (fun K hK => ?_); conv => whnf)
  (refine And.intro (by first | omega | assumption | rfl | exact zin_and | exact ⟨zin_and, by omega⟩ | exact ⟨by omega, zin_and⟩ | exact Nat.le_of_ble_eq_true rfl | exact ⟨Nat.le_of_ble_eq_true rfl, rfl⟩ | exact ⟨Nat.le_of_ble_eq_true rfl, by assumption⟩ | exact ⟨by omega, Nat.le_of_ble_eq_true rfl⟩ | exact ⟨⟨by assumption, by omega⟩, Nat.le_of_ble_eq_true rfl⟩ | decide) ?_; conv => whnf)
  (refine c_part (sh := 0) hk (by omega) (by decide) h1 h2 ?_; conv => whnf)
  (repeat' first | (refine hK _ _ _ _ (zW.go (zC_om _) (fun K hK => ?_)); conv => whnf) | (refine And.intro (by first | omega | assumption | rfl | exact zin_and | exact ⟨zin_and, by omega⟩ | exact ⟨by omega, zin_and⟩ | exact Nat.le_of_ble_eq_true rfl | exact ⟨Nat.le_of_ble_eq_true rfl, rfl⟩ | exact ⟨Nat.le_of_ble_eq_true rfl, by assumption⟩ | exact ⟨by omega, Nat.le_of_ble_eq_true rfl⟩ | exact ⟨⟨by assumption, by omega⟩, Nat.le_of_ble_eq_true rfl⟩ | decide) ?_; conv => whnf) | (refine And.intro (fun h => ?_) (fun h => ?_) <;> conv => whnf) | (intro h; conv => whnf))
  refine zQe hQ ?_
  rw [← h3, Nat.pow_zero, Nat.div_one]
theorem c_from (hk : zKN q) (hr : RelN g q s m) (hm : m ≤ 400) {k : Nat} (hkm : k < m) (hQ : Q (some (zI (if k = 0 then 0 else nd s k 0))) g) : zC (d + 2) 29 [zR q, zI k] g Q := by
  obtain ⟨hk0, hk1⟩ := id hk
  obtain ⟨u, h1, h2, h3, h4, h5, h6, h7, h8⟩ := hr.2 k hkm
  refine zC.go zm_X2_from ⟨rfl, rfl⟩ rfl ?_
  (refine zW.go (zC_om _) (fun K hK => ?_); conv => whnf)
  (refine And.intro (by first | omega | assumption | rfl | exact zin_and | exact ⟨zin_and, by omega⟩ | exact ⟨by omega, zin_and⟩ | exact Nat.le_of_ble_eq_true rfl | exact ⟨Nat.le_of_ble_eq_true rfl, rfl⟩ | exact ⟨Nat.le_of_ble_eq_true rfl, by assumption⟩ | exact ⟨by omega, Nat.le_of_ble_eq_true rfl⟩ | exact ⟨⟨by assumption, by omega⟩, Nat.le_of_ble_eq_true rfl⟩ | decide) ?_; conv => whnf)
  (refine c_part (sh := 12) hk (by omega) (by decide) h1 h2 ?_; conv => whnf)
  (repeat' first | (refine hK _ _ _ _ (zW.go (zC_om _) (fun K hK => ?_)); conv => whnf) | (refine And.intro (by first | omega | assumption | rfl | exact zin_and | exact ⟨zin_and, by omega⟩ | exact ⟨by omega, zin_and⟩ | exact Nat.le_of_ble_eq_true rfl | exact ⟨Nat.le_of_ble_eq_true rfl, rfl⟩ | exact ⟨Nat.le_of_ble_eq_true rfl, by assumption⟩ | exact ⟨by omega, Nat.le_of_ble_eq_true rfl⟩ | exact ⟨⟨by assumption, by omega⟩, Nat.le_of_ble_eq_true rfl⟩ | decide) ?_; conv => whnf) | (refine And.intro (fun h => ?_) (fun h => ?_) <;> conv => whnf) | (intro h; conv => whnf))
  exact zQe hQ h7
theorem c_nbound (hk : zKN q) (hr : RelN g q s m) (hm : m ≤ 400) {k : Nat} (hkm : k < m) (hQ : Q (some (zI (nd s k 3))) g) : zC (d + 2) 30 [zR q, zI k] g Q := by
  obtain ⟨hk0, hk1⟩ := id hk
  obtain ⟨u, h1, h2, h3, h4, h5, h6, h7, h8⟩ := hr.2 k hkm
  refine zC.go zm_X2_bound ⟨rfl, rfl⟩ rfl ?_
  (refine zW.go (zC_om _) (fun K hK => ?_); conv => whnf)
  (refine And.intro (by first | omega | assumption | rfl | exact zin_and | exact ⟨zin_and, by omega⟩ | exact ⟨by omega, zin_and⟩ | exact Nat.le_of_ble_eq_true rfl | exact ⟨Nat.le_of_ble_eq_true rfl, rfl⟩ | exact ⟨Nat.le_of_ble_eq_true rfl, by assumption⟩ | exact ⟨by omega, Nat.le_of_ble_eq_true rfl⟩ | exact ⟨⟨by assumption, by omega⟩, Nat.le_of_ble_eq_true rfl⟩ | decide) ?_; conv => whnf)
  (refine c_part (sh := 24) hk (by omega) (by decide) h1 h2 ?_; conv => whnf)
  (repeat' first | (refine hK _ _ _ _ (zW.go (zC_om _) (fun K hK => ?_)); conv => whnf) | (refine And.intro (by first | omega | assumption | rfl | exact zin_and | exact ⟨zin_and, by omega⟩ | exact ⟨by omega, zin_and⟩ | exact Nat.le_of_ble_eq_true rfl | exact ⟨Nat.le_of_ble_eq_true rfl, rfl⟩ | exact ⟨Nat.le_of_ble_eq_true rfl, by assumption⟩ | exact ⟨by omega, Nat.le_of_ble_eq_true rfl⟩ | exact ⟨⟨by assumption, by omega⟩, Nat.le_of_ble_eq_true rfl⟩ | decide) ?_; conv => whnf) | (refine And.intro (fun h => ?_) (fun h => ?_) <;> conv => whnf) | (intro h; conv => whnf))
  exact zQe hQ h4
theorem c_in (hk : zKN q) (hr : RelN g q s m) (hm : m ≤ 400) {k : Nat} (hkm : k < m) (hQ : Q (some (zI (nd s k 5))) g) : zC (d + 2) 31 [zR q, zI k] g Q := by
  obtain ⟨hk0, hk1⟩ := id hk
  obtain ⟨u, h1, h2, h3, h4, h5, h6, h7, h8⟩ := hr.2 k hkm
  refine zC.go zm_X2_in ⟨rfl, rfl⟩ rfl ?_
  (refine zW.go (zC_om _) (fun K hK => ?_); conv => whnf)
  (refine And.intro (by first | omega | assumption | rfl | exact zin_and | exact ⟨zin_and, by omega⟩ | exact ⟨by omega, zin_and⟩ | exact Nat.le_of_ble_eq_true rfl | exact ⟨Nat.le_of_ble_eq_true rfl, rfl⟩ | exact ⟨Nat.le_of_ble_eq_true rfl, by assumption⟩ | exact ⟨by omega, Nat.le_of_ble_eq_true rfl⟩ | exact ⟨⟨by assumption, by omega⟩, Nat.le_of_ble_eq_true rfl⟩ | decide) ?_; conv => whnf)
  (refine c_part (sh := 36) hk (by omega) (by decide) h1 h2 ?_; conv => whnf)
  (repeat' first | (refine hK _ _ _ _ (zW.go (zC_om _) (fun K hK => ?_)); conv => whnf) | (refine And.intro (by first | omega | assumption | rfl | exact zin_and | exact ⟨zin_and, by omega⟩ | exact ⟨by omega, zin_and⟩ | exact Nat.le_of_ble_eq_true rfl | exact ⟨Nat.le_of_ble_eq_true rfl, rfl⟩ | exact ⟨Nat.le_of_ble_eq_true rfl, by assumption⟩ | exact ⟨by omega, Nat.le_of_ble_eq_true rfl⟩ | exact ⟨⟨by assumption, by omega⟩, Nat.le_of_ble_eq_true rfl⟩ | decide) ?_; conv => whnf) | (refine And.intro (fun h => ?_) (fun h => ?_) <;> conv => whnf) | (intro h; conv => whnf))
  exact zQe hQ h5
theorem c_out (hk : zKN q) (hr : RelN g q s m) (hm : m ≤ 400) {k : Nat} (hkm : k < m) (hQ : Q (some (zI (nd s k 6))) g) : zC (d + 2) 32 [zR q, zI k] g Q := by
  obtain ⟨hk0, hk1⟩ := id hk
  obtain ⟨u, h1, h2, h3, h4, h5, h6, h7, h8⟩ := hr.2 k hkm
  refine zC.go zm_X2_out ⟨rfl, rfl⟩ rfl ?_
  (refine zW.go (zC_om _) (fun K hK => ?_); conv => whnf)
  (refine And.intro (by first | omega | assumption | rfl | exact zin_and | exact ⟨zin_and, by omega⟩ | exact ⟨by omega, zin_and⟩ | exact Nat.le_of_ble_eq_true rfl | exact ⟨Nat.le_of_ble_eq_true rfl, rfl⟩ | exact ⟨Nat.le_of_ble_eq_true rfl, by assumption⟩ | exact ⟨by omega, Nat.le_of_ble_eq_true rfl⟩ | exact ⟨⟨by assumption, by omega⟩, Nat.le_of_ble_eq_true rfl⟩ | decide) ?_; conv => whnf)
  (refine c_part (sh := 48) hk (by omega) (by decide) h1 h2 ?_; conv => whnf)
  (repeat' first | (refine hK _ _ _ _ (zW.go (zC_om _) (fun K hK => ?_)); conv => whnf) | (refine And.intro (by first | omega | assumption | rfl | exact zin_and | exact ⟨zin_and, by omega⟩ | exact ⟨by omega, zin_and⟩ | exact Nat.le_of_ble_eq_true rfl | exact ⟨Nat.le_of_ble_eq_true rfl, rfl⟩ | exact ⟨Nat.le_of_ble_eq_true rfl, by assumption⟩ | exact ⟨by omega, Nat.le_of_ble_eq_true rfl⟩ | exact ⟨⟨by assumption, by omega⟩, Nat.le_of_ble_eq_true rfl⟩ | decide) ?_; conv => whnf) | (refine And.intro (fun h => ?_) (fun h => ?_) <;> conv => whnf) | (intro h; conv => whnf))
  exact zQe hQ h6
theorem c_fixed (hk : zKN q) (hr : RelN g q s m) (hm : m ≤ 400) {k : Nat} (hkm : k < m) (hQ : Q (some (zI (if k = 0 then 0 else nd s k 1))) g) : zC (d + 2) 33 [zR q, zI k] g Q := by
  obtain ⟨hk0, hk1⟩ := id hk
  obtain ⟨u, h1, h2, h3, h4, h5, h6, h7, h8⟩ := hr.2 k hkm
  refine zC.go zm_X2_fixed ⟨rfl, rfl⟩ rfl ?_
  (refine zW.go (zC_om _) (fun K hK => ?_); conv => whnf)
  (refine And.intro (by first | omega | assumption | rfl | exact zin_and | exact ⟨zin_and, by omega⟩ | exact ⟨by omega, zin_and⟩ | exact Nat.le_of_ble_eq_true rfl | exact ⟨Nat.le_of_ble_eq_true rfl, rfl⟩ | exact ⟨Nat.le_of_ble_eq_true rfl, by assumption⟩ | exact ⟨by omega, Nat.le_of_ble_eq_true rfl⟩ | exact ⟨⟨by assumption, by omega⟩, Nat.le_of_ble_eq_true rfl⟩ | decide) ?_; conv => whnf)
  (refine c_part (sh := 60) hk (by omega) (by decide) h1 h2 ?_; conv => whnf)
  (repeat' first | (refine hK _ _ _ _ (zW.go (zC_om _) (fun K hK => ?_)); conv => whnf) | (refine And.intro (by first | omega | assumption | rfl | exact zin_and | exact ⟨zin_and, by omega⟩ | exact ⟨by omega, zin_and⟩ | exact Nat.le_of_ble_eq_true rfl | exact ⟨Nat.le_of_ble_eq_true rfl, rfl⟩ | exact ⟨Nat.le_of_ble_eq_true rfl, by assumption⟩ | exact ⟨by omega, Nat.le_of_ble_eq_true rfl⟩ | exact ⟨⟨by assumption, by omega⟩, Nat.le_of_ble_eq_true rfl⟩ | decide) ?_; conv => whnf) | (refine And.intro (fun h => ?_) (fun h => ?_) <;> conv => whnf) | (intro h; conv => whnf))
  exact zQe hQ h8
theorem c_nknows (hk : zKN q) (hr : RelN g q s m) (hm : m ≤ 400) {k : Int} (hz : zin k) (hQ : Q (some (zI (if 0 ≤ k ∧ k < m then 1 else 0))) g) : zC (d + 1) 25 [zR q, zI k] g Q := by
  obtain ⟨hk0, hk1⟩ := id hk
  have h1 := hr.1
  refine zC.go zm_X2_knows ⟨rfl, rfl⟩ rfl ?_
  (refine zW.go (zC_om _) (fun K hK => ?_); conv => whnf)
  (repeat' first | (refine hK _ _ _ _ (zW.go (zC_om _) (fun K hK => ?_)); conv => whnf) | (refine And.intro (by first | omega | assumption | rfl | exact zin_and | exact ⟨zin_and, by omega⟩ | exact ⟨by omega, zin_and⟩ | exact Nat.le_of_ble_eq_true rfl | exact ⟨Nat.le_of_ble_eq_true rfl, rfl⟩ | exact ⟨Nat.le_of_ble_eq_true rfl, by assumption⟩ | exact ⟨by omega, Nat.le_of_ble_eq_true rfl⟩ | exact ⟨⟨by assumption, by omega⟩, Nat.le_of_ble_eq_true rfl⟩ | decide) ?_; conv => whnf) | (refine And.intro (fun h => ?_) (fun h => ?_) <;> conv => whnf) | (intro h; conv => whnf))
  all_goals (refine zQe hQ ?_; split <;> omega)
theorem c_countOf (hk : zKN q) (hr : RelN g q s m) (hm : m ≤ 400) {how : Int} (hh : zin how) (hQ : Q (some (zI (mcn s how m : Nat))) g) : zC (d + 3) 36 [zR q, zI how] g Q := by
  obtain ⟨hk0, hk1⟩ := id hk
  have h1 := hr.1
  refine zC.go zm_X2_countOf ⟨rfl, rfl⟩ rfl ?_
  (refine zW.upto (zC_om _) 4 (fun K hK => ?_); conv => whnf)
  refine hK _ _ _ _ (zdown (P := fun k => zW zX2_countOf (zC (d + 2)) Q 4 [zR q, zI how, zI (mcn s how k : Nat), zI k] [] g) m ?_ ?_)
  · (refine zW.go (zC_om _) (fun K hK => ?_); conv => whnf)
    (refine And.intro (by first | omega | assumption | rfl | exact zin_and | exact ⟨zin_and, by omega⟩ | exact ⟨by omega, zin_and⟩ | exact Nat.le_of_ble_eq_true rfl | exact ⟨Nat.le_of_ble_eq_true rfl, rfl⟩ | exact ⟨Nat.le_of_ble_eq_true rfl, by assumption⟩ | exact ⟨by omega, Nat.le_of_ble_eq_true rfl⟩ | exact ⟨⟨by assumption, by omega⟩, Nat.le_of_ble_eq_true rfl⟩ | decide) ?_; conv => whnf)
    (refine And.intro (by first | omega | assumption | rfl | exact zin_and | exact ⟨zin_and, by omega⟩ | exact ⟨by omega, zin_and⟩ | exact Nat.le_of_ble_eq_true rfl | exact ⟨Nat.le_of_ble_eq_true rfl, rfl⟩ | exact ⟨Nat.le_of_ble_eq_true rfl, by assumption⟩ | exact ⟨by omega, Nat.le_of_ble_eq_true rfl⟩ | exact ⟨⟨by assumption, by omega⟩, Nat.le_of_ble_eq_true rfl⟩ | decide) ?_; conv => whnf)
    (refine And.intro (fun h => ?_) (fun h => by omega); conv => whnf)
    (repeat' first | (refine hK _ _ _ _ (zW.go (zC_om _) (fun K hK => ?_)); conv => whnf) | (refine And.intro (by first | omega | assumption | rfl | exact zin_and | exact ⟨zin_and, by omega⟩ | exact ⟨by omega, zin_and⟩ | exact Nat.le_of_ble_eq_true rfl | exact ⟨Nat.le_of_ble_eq_true rfl, rfl⟩ | exact ⟨Nat.le_of_ble_eq_true rfl, by assumption⟩ | exact ⟨by omega, Nat.le_of_ble_eq_true rfl⟩ | exact ⟨⟨by assumption, by omega⟩, Nat.le_of_ble_eq_true rfl⟩ | decide) ?_; conv => whnf) | (refine And.intro (fun h => ?_) (fun h => ?_) <;> conv => whnf) | (intro h; conv => whnf))
    exact hQ
  · intro k hkm hi
    obtain ⟨u, -, -, hu, -⟩ := hr.2 k hkm
    have hi : zW zX2_countOf (zC (d + 2)) Q 4 [zR q, zI how, zI (mcn s how k + (if decide (nd s k 4 = how) = true then 1 else 0) : Nat), zI (k + 1 : Nat)] [] g := hi
    (refine zW.go (zC_om _) (fun K hK => ?_); conv => whnf)
    (refine And.intro (by first | omega | assumption | rfl | exact zin_and | exact ⟨zin_and, by omega⟩ | exact ⟨by omega, zin_and⟩ | exact Nat.le_of_ble_eq_true rfl | exact ⟨Nat.le_of_ble_eq_true rfl, rfl⟩ | exact ⟨Nat.le_of_ble_eq_true rfl, by assumption⟩ | exact ⟨by omega, Nat.le_of_ble_eq_true rfl⟩ | exact ⟨⟨by assumption, by omega⟩, Nat.le_of_ble_eq_true rfl⟩ | decide) ?_; conv => whnf)
    (refine And.intro (by first | omega | assumption | rfl | exact zin_and | exact ⟨zin_and, by omega⟩ | exact ⟨by omega, zin_and⟩ | exact Nat.le_of_ble_eq_true rfl | exact ⟨Nat.le_of_ble_eq_true rfl, rfl⟩ | exact ⟨Nat.le_of_ble_eq_true rfl, by assumption⟩ | exact ⟨by omega, Nat.le_of_ble_eq_true rfl⟩ | exact ⟨⟨by assumption, by omega⟩, Nat.le_of_ble_eq_true rfl⟩ | decide) ?_; conv => whnf)
    (refine And.intro (fun h => by omega) (fun h => ?_); conv => whnf)
    (refine And.intro (by first | omega | assumption | rfl | exact zin_and | exact ⟨zin_and, by omega⟩ | exact ⟨by omega, zin_and⟩ | exact Nat.le_of_ble_eq_true rfl | exact ⟨Nat.le_of_ble_eq_true rfl, rfl⟩ | exact ⟨Nat.le_of_ble_eq_true rfl, by assumption⟩ | exact ⟨by omega, Nat.le_of_ble_eq_true rfl⟩ | exact ⟨⟨by assumption, by omega⟩, Nat.le_of_ble_eq_true rfl⟩ | decide) ?_; conv => whnf)
    (refine c_how hk hr hm hkm ?_; conv => whnf)
    (refine And.intro (by first | omega | assumption | rfl | exact zin_and | exact ⟨zin_and, by omega⟩ | exact ⟨by omega, zin_and⟩ | exact Nat.le_of_ble_eq_true rfl | exact ⟨Nat.le_of_ble_eq_true rfl, rfl⟩ | exact ⟨Nat.le_of_ble_eq_true rfl, by assumption⟩ | exact ⟨by omega, Nat.le_of_ble_eq_true rfl⟩ | exact ⟨⟨by assumption, by omega⟩, Nat.le_of_ble_eq_true rfl⟩ | decide) ?_; conv => whnf)
    by_cases hc : nd s k 4 = how
    · rw [if_pos (decide_eq_true hc)] at hi
      (refine And.intro (fun h => by omega) (fun h => ?_); conv => whnf)
      exact hK _ _ _ _ hi
    · rw [if_neg (by simpa using hc), Nat.add_zero] at hi
      (refine And.intro (fun h => ?_) (fun h => by omega); conv => whnf)
      (refine hK _ _ _ _ (zW.go (zC_om _) (fun K hK => ?_)); conv => whnf)
      exact hK _ _ _ _ hi
theorem c_goesBefore (hk : zKN q) (hr : RelN g q s m) (hm : m ≤ 400) {a b : Nat} {order : Int} (ha : a < m) (hb : b < m) (ho : zin order) (hQ : Q (some (zI (if order = 1 then (if nd s b 3 < nd s a 3 then 1 else 0) else if order = 0 then 1 else 0))) g) : zC (d + 3) 38 [zR q, zI a, zI b, zI order] g Q := by
  obtain ⟨hk0, hk1⟩ := id hk
  obtain ⟨ua, -, -, -, hua, -⟩ := hr.2 a ha
  obtain ⟨ub, -, -, -, hub, -⟩ := hr.2 b hb
  refine zC.go zm_X2_goesBefore ⟨rfl, rfl⟩ rfl ?_
  (refine zW.go (zC_om _) (fun K hK => ?_); conv => whnf)
  (refine And.intro (by first | omega | assumption | rfl | exact zin_and | exact ⟨zin_and, by omega⟩ | exact ⟨by omega, zin_and⟩ | exact Nat.le_of_ble_eq_true rfl | exact ⟨Nat.le_of_ble_eq_true rfl, rfl⟩ | exact ⟨Nat.le_of_ble_eq_true rfl, by assumption⟩ | exact ⟨by omega, Nat.le_of_ble_eq_true rfl⟩ | exact ⟨⟨by assumption, by omega⟩, Nat.le_of_ble_eq_true rfl⟩ | decide) ?_; conv => whnf)
  by_cases h1 : order = 1
  · rw [if_pos h1] at hQ
    (refine And.intro (fun h => by omega) (fun h => ?_); conv => whnf)
    (refine And.intro (by first | omega | assumption | rfl | exact zin_and | exact ⟨zin_and, by omega⟩ | exact ⟨by omega, zin_and⟩ | exact Nat.le_of_ble_eq_true rfl | exact ⟨Nat.le_of_ble_eq_true rfl, rfl⟩ | exact ⟨Nat.le_of_ble_eq_true rfl, by assumption⟩ | exact ⟨by omega, Nat.le_of_ble_eq_true rfl⟩ | exact ⟨⟨by assumption, by omega⟩, Nat.le_of_ble_eq_true rfl⟩ | decide) ?_; conv => whnf)
    (refine c_nbound hk hr hm ha ?_; conv => whnf)
    (refine And.intro (by first | omega | assumption | rfl | exact zin_and | exact ⟨zin_and, by omega⟩ | exact ⟨by omega, zin_and⟩ | exact Nat.le_of_ble_eq_true rfl | exact ⟨Nat.le_of_ble_eq_true rfl, rfl⟩ | exact ⟨Nat.le_of_ble_eq_true rfl, by assumption⟩ | exact ⟨by omega, Nat.le_of_ble_eq_true rfl⟩ | exact ⟨⟨by assumption, by omega⟩, Nat.le_of_ble_eq_true rfl⟩ | decide) ?_; conv => whnf)
    (refine c_nbound hk hr hm hb ?_; conv => whnf)
    (refine And.intro (by first | omega | assumption | rfl | exact zin_and | exact ⟨zin_and, by omega⟩ | exact ⟨by omega, zin_and⟩ | exact Nat.le_of_ble_eq_true rfl | exact ⟨Nat.le_of_ble_eq_true rfl, rfl⟩ | exact ⟨Nat.le_of_ble_eq_true rfl, by assumption⟩ | exact ⟨by omega, Nat.le_of_ble_eq_true rfl⟩ | exact ⟨⟨by assumption, by omega⟩, Nat.le_of_ble_eq_true rfl⟩ | decide) ?_; conv => whnf)
    by_cases h2 : nd s b 3 < nd s a 3
    · rw [if_pos h2] at hQ
      (refine And.intro (fun h => by omega) (fun h => ?_); conv => whnf)
      (repeat' first | (refine hK _ _ _ _ (zW.go (zC_om _) (fun K hK => ?_)); conv => whnf) | (refine And.intro (by first | omega | assumption | rfl | exact zin_and | exact ⟨zin_and, by omega⟩ | exact ⟨by omega, zin_and⟩ | exact Nat.le_of_ble_eq_true rfl | exact ⟨Nat.le_of_ble_eq_true rfl, rfl⟩ | exact ⟨Nat.le_of_ble_eq_true rfl, by assumption⟩ | exact ⟨by omega, Nat.le_of_ble_eq_true rfl⟩ | exact ⟨⟨by assumption, by omega⟩, Nat.le_of_ble_eq_true rfl⟩ | decide) ?_; conv => whnf) | (refine And.intro (fun h => ?_) (fun h => ?_) <;> conv => whnf) | (intro h; conv => whnf))
      exact hQ
    · rw [if_neg h2] at hQ
      (refine And.intro (fun h => ?_) (fun h => by omega); conv => whnf)
      (repeat' first | (refine hK _ _ _ _ (zW.go (zC_om _) (fun K hK => ?_)); conv => whnf) | (refine And.intro (by first | omega | assumption | rfl | exact zin_and | exact ⟨zin_and, by omega⟩ | exact ⟨by omega, zin_and⟩ | exact Nat.le_of_ble_eq_true rfl | exact ⟨Nat.le_of_ble_eq_true rfl, rfl⟩ | exact ⟨Nat.le_of_ble_eq_true rfl, by assumption⟩ | exact ⟨by omega, Nat.le_of_ble_eq_true rfl⟩ | exact ⟨⟨by assumption, by omega⟩, Nat.le_of_ble_eq_true rfl⟩ | decide) ?_; conv => whnf) | (refine And.intro (fun h => ?_) (fun h => ?_) <;> conv => whnf) | (intro h; conv => whnf))
      exact hQ
  · rw [if_neg h1] at hQ
    (refine And.intro (fun h => ?_) (fun h => by omega); conv => whnf)
    (refine hK _ _ _ _ (zW.go (zC_om _) (fun K hK => ?_)); conv => whnf)
    (refine And.intro (by first | omega | assumption | rfl | exact zin_and | exact ⟨zin_and, by omega⟩ | exact ⟨by omega, zin_and⟩ | exact Nat.le_of_ble_eq_true rfl | exact ⟨Nat.le_of_ble_eq_true rfl, rfl⟩ | exact ⟨Nat.le_of_ble_eq_true rfl, by assumption⟩ | exact ⟨by omega, Nat.le_of_ble_eq_true rfl⟩ | exact ⟨⟨by assumption, by omega⟩, Nat.le_of_ble_eq_true rfl⟩ | decide) ?_; conv => whnf)
    by_cases h2 : order = 0
    · rw [if_pos h2] at hQ
      (refine And.intro (fun h => by omega) (fun h => ?_); conv => whnf)
      (repeat' first | (refine hK _ _ _ _ (zW.go (zC_om _) (fun K hK => ?_)); conv => whnf) | (refine And.intro (by first | omega | assumption | rfl | exact zin_and | exact ⟨zin_and, by omega⟩ | exact ⟨by omega, zin_and⟩ | exact Nat.le_of_ble_eq_true rfl | exact ⟨Nat.le_of_ble_eq_true rfl, rfl⟩ | exact ⟨Nat.le_of_ble_eq_true rfl, by assumption⟩ | exact ⟨by omega, Nat.le_of_ble_eq_true rfl⟩ | exact ⟨⟨by assumption, by omega⟩, Nat.le_of_ble_eq_true rfl⟩ | decide) ?_; conv => whnf) | (refine And.intro (fun h => ?_) (fun h => ?_) <;> conv => whnf) | (intro h; conv => whnf))
      exact hQ
    · rw [if_neg h2] at hQ
      (refine And.intro (fun h => ?_) (fun h => by omega); conv => whnf)
      (repeat' first | (refine hK _ _ _ _ (zW.go (zC_om _) (fun K hK => ?_)); conv => whnf) | (refine And.intro (by first | omega | assumption | rfl | exact zin_and | exact ⟨zin_and, by omega⟩ | exact ⟨by omega, zin_and⟩ | exact Nat.le_of_ble_eq_true rfl | exact ⟨Nat.le_of_ble_eq_true rfl, rfl⟩ | exact ⟨Nat.le_of_ble_eq_true rfl, by assumption⟩ | exact ⟨by omega, Nat.le_of_ble_eq_true rfl⟩ | exact ⟨⟨by assumption, by omega⟩, Nat.le_of_ble_eq_true rfl⟩ | decide) ?_; conv => whnf) | (refine And.intro (fun h => ?_) (fun h => ?_) <;> conv => whnf) | (intro h; conv => whnf))
      exact hQ
theorem c_nextOpen (hk : zKN q) (hr : RelN g q s m) (hm : m ≤ 400) {order : Int} (ho : zin order) (hQ : Q (some (zI (mtk s order m))) g) : zC (d + 4) 37 [zR q, zI order] g Q := by
  obtain ⟨hk0, hk1⟩ := id hk
  have h1 := hr.1
  refine zC.go zm_X2_nextOpen ⟨rfl, rfl⟩ rfl ?_
  (refine zW.upto (zC_om _) 4 (fun K hK => ?_); conv => whnf)
  refine hK _ _ _ _ (zdown (P := fun k => zW zX2_nextOpen (zC (d + 3)) Q 4 [zR q, zI order, zI (mtk s order k), zI k] [] g) m ?_ ?_)
  · (refine zW.go (zC_om _) (fun K hK => ?_); conv => whnf)
    (refine And.intro (by first | omega | assumption | rfl | exact zin_and | exact ⟨zin_and, by omega⟩ | exact ⟨by omega, zin_and⟩ | exact Nat.le_of_ble_eq_true rfl | exact ⟨Nat.le_of_ble_eq_true rfl, rfl⟩ | exact ⟨Nat.le_of_ble_eq_true rfl, by assumption⟩ | exact ⟨by omega, Nat.le_of_ble_eq_true rfl⟩ | exact ⟨⟨by assumption, by omega⟩, Nat.le_of_ble_eq_true rfl⟩ | decide) ?_; conv => whnf)
    (refine And.intro (by first | omega | assumption | rfl | exact zin_and | exact ⟨zin_and, by omega⟩ | exact ⟨by omega, zin_and⟩ | exact Nat.le_of_ble_eq_true rfl | exact ⟨Nat.le_of_ble_eq_true rfl, rfl⟩ | exact ⟨Nat.le_of_ble_eq_true rfl, by assumption⟩ | exact ⟨by omega, Nat.le_of_ble_eq_true rfl⟩ | exact ⟨⟨by assumption, by omega⟩, Nat.le_of_ble_eq_true rfl⟩ | decide) ?_; conv => whnf)
    (refine And.intro (fun h => ?_) (fun h => by omega); conv => whnf)
    (repeat' first | (refine hK _ _ _ _ (zW.go (zC_om _) (fun K hK => ?_)); conv => whnf) | (refine And.intro (by first | omega | assumption | rfl | exact zin_and | exact ⟨zin_and, by omega⟩ | exact ⟨by omega, zin_and⟩ | exact Nat.le_of_ble_eq_true rfl | exact ⟨Nat.le_of_ble_eq_true rfl, rfl⟩ | exact ⟨Nat.le_of_ble_eq_true rfl, by assumption⟩ | exact ⟨by omega, Nat.le_of_ble_eq_true rfl⟩ | exact ⟨⟨by assumption, by omega⟩, Nat.le_of_ble_eq_true rfl⟩ | decide) ?_; conv => whnf) | (refine And.intro (fun h => ?_) (fun h => ?_) <;> conv => whnf) | (intro h; conv => whnf))
    exact hQ
  · intro k hkm hi
    obtain ⟨u, -, -, hu, -⟩ := hr.2 k hkm
    have hi : zW zX2_nextOpen (zC (d + 3)) Q 4 [zR q, zI order, zI (mtk s order (k + 1)), zI (k + 1 : Nat)] [] g := hi
    rw [mtk] at hi
    have hrg := mtk_rng s order k
    generalize mtk s order k = f at *
    (refine zW.go (zC_om _) (fun K hK => ?_); conv => whnf)
    (refine And.intro (by first | omega | assumption | rfl | exact zin_and | exact ⟨zin_and, by omega⟩ | exact ⟨by omega, zin_and⟩ | exact Nat.le_of_ble_eq_true rfl | exact ⟨Nat.le_of_ble_eq_true rfl, rfl⟩ | exact ⟨Nat.le_of_ble_eq_true rfl, by assumption⟩ | exact ⟨by omega, Nat.le_of_ble_eq_true rfl⟩ | exact ⟨⟨by assumption, by omega⟩, Nat.le_of_ble_eq_true rfl⟩ | decide) ?_; conv => whnf)
    (refine And.intro (by first | omega | assumption | rfl | exact zin_and | exact ⟨zin_and, by omega⟩ | exact ⟨by omega, zin_and⟩ | exact Nat.le_of_ble_eq_true rfl | exact ⟨Nat.le_of_ble_eq_true rfl, rfl⟩ | exact ⟨Nat.le_of_ble_eq_true rfl, by assumption⟩ | exact ⟨by omega, Nat.le_of_ble_eq_true rfl⟩ | exact ⟨⟨by assumption, by omega⟩, Nat.le_of_ble_eq_true rfl⟩ | decide) ?_; conv => whnf)
    (refine And.intro (fun h => by omega) (fun h => ?_); conv => whnf)
    (refine And.intro (by first | omega | assumption | rfl | exact zin_and | exact ⟨zin_and, by omega⟩ | exact ⟨by omega, zin_and⟩ | exact Nat.le_of_ble_eq_true rfl | exact ⟨Nat.le_of_ble_eq_true rfl, rfl⟩ | exact ⟨Nat.le_of_ble_eq_true rfl, by assumption⟩ | exact ⟨by omega, Nat.le_of_ble_eq_true rfl⟩ | exact ⟨⟨by assumption, by omega⟩, Nat.le_of_ble_eq_true rfl⟩ | decide) ?_; conv => whnf)
    (refine c_how hk hr hm hkm ?_; conv => whnf)
    (refine And.intro (by first | omega | assumption | rfl | exact zin_and | exact ⟨zin_and, by omega⟩ | exact ⟨by omega, zin_and⟩ | exact Nat.le_of_ble_eq_true rfl | exact ⟨Nat.le_of_ble_eq_true rfl, rfl⟩ | exact ⟨Nat.le_of_ble_eq_true rfl, by assumption⟩ | exact ⟨by omega, Nat.le_of_ble_eq_true rfl⟩ | exact ⟨⟨by assumption, by omega⟩, Nat.le_of_ble_eq_true rfl⟩ | decide) ?_; conv => whnf)
    by_cases h4 : nd s k 4 = 0
    · (refine And.intro (fun h => by omega) (fun h => ?_); conv => whnf)
      (refine And.intro (by first | omega | assumption | rfl | exact zin_and | exact ⟨zin_and, by omega⟩ | exact ⟨by omega, zin_and⟩ | exact Nat.le_of_ble_eq_true rfl | exact ⟨Nat.le_of_ble_eq_true rfl, rfl⟩ | exact ⟨Nat.le_of_ble_eq_true rfl, by assumption⟩ | exact ⟨by omega, Nat.le_of_ble_eq_true rfl⟩ | exact ⟨⟨by assumption, by omega⟩, Nat.le_of_ble_eq_true rfl⟩ | decide) ?_; conv => whnf)
      by_cases hf : f = -5
      · rw [if_pos ⟨h4, Or.inl hf⟩] at hi
        (refine And.intro (fun h => ?_) (fun h => by omega); conv => whnf)
        (refine hK _ _ _ _ (zW.go (zC_om _) (fun K hK => ?_)); conv => whnf)
        exact hK _ _ _ _ hi
      · obtain ⟨b, rfl⟩ : ∃ b : Nat, f = (b : Int) := ⟨f.toNat, by omega⟩
        (refine And.intro (fun h => by omega) (fun h => ?_); conv => whnf)
        (refine And.intro (by first | omega | assumption | rfl | exact zin_and | exact ⟨zin_and, by omega⟩ | exact ⟨by omega, zin_and⟩ | exact Nat.le_of_ble_eq_true rfl | exact ⟨Nat.le_of_ble_eq_true rfl, rfl⟩ | exact ⟨Nat.le_of_ble_eq_true rfl, by assumption⟩ | exact ⟨by omega, Nat.le_of_ble_eq_true rfl⟩ | exact ⟨⟨by assumption, by omega⟩, Nat.le_of_ble_eq_true rfl⟩ | decide) ?_; conv => whnf)
        (refine c_goesBefore hk hr hm hkm (by omega) ho ?_; conv => whnf)
        by_cases h1 : order = 1
        · rw [if_pos h1]
          by_cases h2 : nd s b 3 < nd s k 3
          · rw [if_pos ⟨h4, Or.inr (Or.inr ⟨h1, h2⟩)⟩] at hi
            rw [if_pos h2]
            (refine And.intro (by first | omega | assumption | rfl | exact zin_and | exact ⟨zin_and, by omega⟩ | exact ⟨by omega, zin_and⟩ | exact Nat.le_of_ble_eq_true rfl | exact ⟨Nat.le_of_ble_eq_true rfl, rfl⟩ | exact ⟨Nat.le_of_ble_eq_true rfl, by assumption⟩ | exact ⟨by omega, Nat.le_of_ble_eq_true rfl⟩ | exact ⟨⟨by assumption, by omega⟩, Nat.le_of_ble_eq_true rfl⟩ | decide) ?_; conv => whnf)
            (refine And.intro (fun h => by omega) (fun h => ?_); conv => whnf)
            exact hK _ _ _ _ hi
          · rw [if_neg (by omega)] at hi
            rw [if_neg h2]
            (refine And.intro (by first | omega | assumption | rfl | exact zin_and | exact ⟨zin_and, by omega⟩ | exact ⟨by omega, zin_and⟩ | exact Nat.le_of_ble_eq_true rfl | exact ⟨Nat.le_of_ble_eq_true rfl, rfl⟩ | exact ⟨Nat.le_of_ble_eq_true rfl, by assumption⟩ | exact ⟨by omega, Nat.le_of_ble_eq_true rfl⟩ | exact ⟨⟨by assumption, by omega⟩, Nat.le_of_ble_eq_true rfl⟩ | decide) ?_; conv => whnf)
            (refine And.intro (fun h => ?_) (fun h => by omega); conv => whnf)
            (refine hK _ _ _ _ (zW.go (zC_om _) (fun K hK => ?_)); conv => whnf)
            exact hK _ _ _ _ hi
        · rw [if_neg h1]
          by_cases h0 : order = 0
          · rw [if_pos ⟨h4, Or.inr (Or.inl h0)⟩] at hi
            rw [if_pos h0]
            (refine And.intro (by first | omega | assumption | rfl | exact zin_and | exact ⟨zin_and, by omega⟩ | exact ⟨by omega, zin_and⟩ | exact Nat.le_of_ble_eq_true rfl | exact ⟨Nat.le_of_ble_eq_true rfl, rfl⟩ | exact ⟨Nat.le_of_ble_eq_true rfl, by assumption⟩ | exact ⟨by omega, Nat.le_of_ble_eq_true rfl⟩ | exact ⟨⟨by assumption, by omega⟩, Nat.le_of_ble_eq_true rfl⟩ | decide) ?_; conv => whnf)
            (refine And.intro (fun h => by omega) (fun h => ?_); conv => whnf)
            exact hK _ _ _ _ hi
          · rw [if_neg (by omega)] at hi
            rw [if_neg h0]
            (refine And.intro (by first | omega | assumption | rfl | exact zin_and | exact ⟨zin_and, by omega⟩ | exact ⟨by omega, zin_and⟩ | exact Nat.le_of_ble_eq_true rfl | exact ⟨Nat.le_of_ble_eq_true rfl, rfl⟩ | exact ⟨Nat.le_of_ble_eq_true rfl, by assumption⟩ | exact ⟨by omega, Nat.le_of_ble_eq_true rfl⟩ | exact ⟨⟨by assumption, by omega⟩, Nat.le_of_ble_eq_true rfl⟩ | decide) ?_; conv => whnf)
            (refine And.intro (fun h => ?_) (fun h => by omega); conv => whnf)
            (refine hK _ _ _ _ (zW.go (zC_om _) (fun K hK => ?_)); conv => whnf)
            exact hK _ _ _ _ hi
    · rw [if_neg (fun w => h4 w.1)] at hi
      (refine And.intro (fun h => ?_) (fun h => by omega); conv => whnf)
      (refine hK _ _ _ _ (zW.go (zC_om _) (fun K hK => ?_)); conv => whnf)
      exact hK _ _ _ _ hi
end CN
