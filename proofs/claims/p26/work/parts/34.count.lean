/-! how many bits a set has; which two sets can be fixed -/
def pops (v : Nat) : Nat := zcnt 12 (fun t => v.testBit t)
def zbc (x : Int) : Int :=
  let a := x - zand (zushr x 1) 1431655765
  let b := zand a 858993459 + zand (zushr a 2) 858993459
  let c := zand (b + zushr b 4) 252645135
  let e := c + zushr c 8
  zand (e + zushr e 16) 63
theorem zbc_pops (v : Nat) (h : v < 4096) : zbc v = (pops v : Nat) := by
  have : ∀ a : Nat, a < 64 → ∀ b : Nat, b < 64 → zbc (64 * a + b : Nat) = (pops (64 * a + b) : Nat) := by decide +kernel
  have := this (v / 64) (by omega) (v % 64) (by omega)
  rw [show 64 * (v / 64) + v % 64 = v by omega] at this
  exact this
theorem pops_step (v : Nat) (h : v < 4096) (h0 : v ≠ 0) : pops v = pops (v &&& (v - 1)) + 1 ∧ v &&& (v - 1) < v := by
  have : ∀ a : Nat, a < 64 → ∀ b : Nat, b < 64 → 64 * a + b ≠ 0 → pops (64 * a + b) = pops ((64 * a + b) &&& ((64 * a + b) - 1)) + 1 ∧ (64 * a + b) &&& ((64 * a + b) - 1) < 64 * a + b := by decide +kernel
  have := this (v / 64) (by omega) (v % 64) (by omega)
  rw [show 64 * (v / 64) + v % 64 = v by omega] at this
  exact this h0
theorem pops_le (v : Nat) : pops v ≤ 12 := zcnt_le 12 _
theorem j_bitCount {d v : Nat} {g : zM} {Q : zP} (hv : v < 4096) (hQ : Q (some (zI (pops v : Nat))) g) : zC (d + 1) 148 [zI v] g Q := by
  refine zC.go zm_J6_bitCount_0f7a4 ⟨rfl, rfl⟩ rfl ?_
  (refine zW.go (zC_om _) (fun K hK => ?_); conv => whnf)
  (repeat' first | (refine hK _ _ _ _ (zW.go (zC_om _) (fun K hK => ?_)); conv => whnf) | (refine And.intro (by first | omega | assumption | rfl | exact zin_and | exact ⟨zin_and, by omega⟩ | exact ⟨by omega, zin_and⟩ | exact Nat.le_of_ble_eq_true rfl | exact ⟨Nat.le_of_ble_eq_true rfl, rfl⟩ | exact ⟨Nat.le_of_ble_eq_true rfl, by assumption⟩ | exact ⟨by omega, Nat.le_of_ble_eq_true rfl⟩ | exact ⟨⟨by assumption, by omega⟩, Nat.le_of_ble_eq_true rfl⟩ | decide) ?_; conv => whnf) | (refine And.intro (fun h => ?_) (fun h => ?_) <;> conv => whnf) | (intro h; conv => whnf))
  refine zQe hQ ?_
  rw [← zbc_pops v hv]
  rfl
theorem m_ones {d v : Nat} {g : zM} {Q : zP} (hv : v < 4096) (hQ : Q (some (zI (pops v : Nat))) g) : zC (d + 1) 90 [zI v] g Q := by
  refine zC.go zm_X6_ones ⟨rfl, rfl⟩ rfl ?_
  (refine zW.upto (zC_om _) 4 (fun K hK => ?_); conv => whnf)
  have go : ∀ (b v' : Nat) (c : Int), v' ≤ b → v' < 4096 → c + pops v' = pops v → zW zX6_ones (zC d) Q 4 [zI v, zI c, zI v'] [] g := by
    intro b
    induction b with
    | zero =>
      intro v' c h1 h2 h3
      obtain rfl : v' = 0 := by omega
      have h0 : pops 0 = 0 := by decide
      (refine zW.go (zC_om _) (fun K hK => ?_); conv => whnf)
      (refine And.intro (by first | omega | assumption | rfl | exact zin_and | exact ⟨zin_and, by omega⟩ | exact ⟨by omega, zin_and⟩ | exact Nat.le_of_ble_eq_true rfl | exact ⟨Nat.le_of_ble_eq_true rfl, rfl⟩ | exact ⟨Nat.le_of_ble_eq_true rfl, by assumption⟩ | exact ⟨by omega, Nat.le_of_ble_eq_true rfl⟩ | exact ⟨⟨by assumption, by omega⟩, Nat.le_of_ble_eq_true rfl⟩ | decide) ?_; conv => whnf)
      (refine And.intro (fun h => ?_) (fun h => by omega); conv => whnf)
      (repeat' first | (refine hK _ _ _ _ (zW.go (zC_om _) (fun K hK => ?_)); conv => whnf) | (refine And.intro (by first | omega | assumption | rfl | exact zin_and | exact ⟨zin_and, by omega⟩ | exact ⟨by omega, zin_and⟩ | exact Nat.le_of_ble_eq_true rfl | exact ⟨Nat.le_of_ble_eq_true rfl, rfl⟩ | exact ⟨Nat.le_of_ble_eq_true rfl, by assumption⟩ | exact ⟨by omega, Nat.le_of_ble_eq_true rfl⟩ | exact ⟨⟨by assumption, by omega⟩, Nat.le_of_ble_eq_true rfl⟩ | decide) ?_; conv => whnf) | (refine And.intro (fun h => ?_) (fun h => ?_) <;> conv => whnf) | (intro h; conv => whnf))
      refine zQe hQ ?_
      omega
    | succ b ih =>
      intro v' c h1 h2 h3
      by_cases h0 : v' = 0
      · subst h0
        have h0 : pops 0 = 0 := by decide
        (refine zW.go (zC_om _) (fun K hK => ?_); conv => whnf)
        (refine And.intro (by first | omega | assumption | rfl | exact zin_and | exact ⟨zin_and, by omega⟩ | exact ⟨by omega, zin_and⟩ | exact Nat.le_of_ble_eq_true rfl | exact ⟨Nat.le_of_ble_eq_true rfl, rfl⟩ | exact ⟨Nat.le_of_ble_eq_true rfl, by assumption⟩ | exact ⟨by omega, Nat.le_of_ble_eq_true rfl⟩ | exact ⟨⟨by assumption, by omega⟩, Nat.le_of_ble_eq_true rfl⟩ | decide) ?_; conv => whnf)
        (refine And.intro (fun h => ?_) (fun h => by omega); conv => whnf)
        (repeat' first | (refine hK _ _ _ _ (zW.go (zC_om _) (fun K hK => ?_)); conv => whnf) | (refine And.intro (by first | omega | assumption | rfl | exact zin_and | exact ⟨zin_and, by omega⟩ | exact ⟨by omega, zin_and⟩ | exact Nat.le_of_ble_eq_true rfl | exact ⟨Nat.le_of_ble_eq_true rfl, rfl⟩ | exact ⟨Nat.le_of_ble_eq_true rfl, by assumption⟩ | exact ⟨by omega, Nat.le_of_ble_eq_true rfl⟩ | exact ⟨⟨by assumption, by omega⟩, Nat.le_of_ble_eq_true rfl⟩ | decide) ?_; conv => whnf) | (refine And.intro (fun h => ?_) (fun h => ?_) <;> conv => whnf) | (intro h; conv => whnf))
        refine zQe hQ ?_
        omega
      · obtain ⟨p1, p2⟩ := pops_step v' h2 h0
        have e : zand v' ((v' : Int) - 1) = ((v' &&& (v' - 1) : Nat) : Int) := by
          rw [show (v' : Int) - 1 = ((v' - 1 : Nat) : Int) by omega]
          exact zand_nat (by omega) (by omega)
        (refine zW.go (zC_om _) (fun K hK => ?_); conv => whnf)
        (refine And.intro (by first | omega | assumption | rfl | exact zin_and | exact ⟨zin_and, by omega⟩ | exact ⟨by omega, zin_and⟩ | exact Nat.le_of_ble_eq_true rfl | exact ⟨Nat.le_of_ble_eq_true rfl, rfl⟩ | exact ⟨Nat.le_of_ble_eq_true rfl, by assumption⟩ | exact ⟨by omega, Nat.le_of_ble_eq_true rfl⟩ | exact ⟨⟨by assumption, by omega⟩, Nat.le_of_ble_eq_true rfl⟩ | decide) ?_; conv => whnf)
        (refine And.intro (fun h => by omega) (fun h => ?_); conv => whnf)
        rw [e]
        exact hK _ _ _ _ (ih _ (c + 1) (by omega) (by omega) (by omega))
  exact hK _ _ _ _ (go v v 0 (Nat.le_refl _) hv (by omega))
/-- whether the one is in, the other out, of n things -/
def mfx (n : Nat) (x y : Int) : Bool := decide (0 ≤ x) && decide (x < 2 ^ n) && (decide (0 ≤ y) && decide (y < 2 ^ n)) && decide (x.toNat &&& y.toNat = 0)
theorem mfx_iff {n : Nat} {x y : Int} : mfx n x y = true ↔ ∃ i o : Nat, x = (i : Int) ∧ y = (o : Int) ∧ i < 2 ^ n ∧ o < 2 ^ n ∧ i &&& o = 0 := by
  have e : ((2 : Int) ^ n) = ((2 ^ n : Nat) : Int) := by rw [Int.natCast_pow]; rfl
  unfold mfx
  simp only [Bool.and_eq_true, decide_eq_true_eq, e]
  constructor
  · rintro ⟨⟨⟨h1, h2⟩, h3, h4⟩, h5⟩
    exact ⟨x.toNat, y.toNat, by omega, by omega, by omega, by omega, h5⟩
  · rintro ⟨i, o, rfl, rfl, h1, h2, h3⟩
    refine ⟨⟨⟨by omega, by omega⟩, by omega, by omega⟩, ?_⟩
    rw [Int.toNat_natCast, Int.toNat_natCast]
    exact h3
theorem zJ_small {x : Int} {n : Nat} (hx : zin x) (hn : n ≤ 12) : (zJ x).toBitVec.toNat < 2 ^ n ↔ 0 ≤ x ∧ x < 2 ^ n := by
  have h2 := zp12 hn
  have e : ((2 : Int) ^ n) = ((2 ^ n : Nat) : Int) := by rw [Int.natCast_pow]; rfl
  rw [e]
  by_cases h0 : 0 ≤ x
  · obtain ⟨a, rfl⟩ : ∃ a : Nat, x = (a : Int) := ⟨x.toNat, by omega⟩
    rw [zTN (by omega)]
    omega
  · constructor
    · intro h
      exfalso
      have h3 : (zJ x).toBitVec.toInt = (zJ x).toBitVec.toNat := BitVec.toInt_eq_toNat_of_lt (by omega)
      have h4 : (zJ x).toInt = x := zJ_toInt hx
      have h5 : (zJ x).toInt = (zJ x).toBitVec.toInt := rfl
      omega
    · intro h
      omega
/-- no bit of a word above the first n -/
theorem zhi0 {X n : Nat} (hX : X < 2 ^ 32) (hn : n ≤ 32) : X &&& (2 ^ 32 - 2 ^ n) = 0 ↔ X < 2 ^ n := by
  have hb : ∀ j, (2 ^ 32 - 2 ^ n).testBit j = (decide (j < 32) && decide (n ≤ j)) := by
    intro j
    have e : 2 ^ 32 - 2 ^ n = (2 ^ (32 - n) - 1) * 2 ^ n := by
      rw [Nat.sub_mul, ← Nat.pow_add, Nat.one_mul]
      congr 2
      omega
    rw [e, Nat.testBit_mul_two_pow, Nat.testBit_two_pow_sub_one]
    by_cases h1 : n ≤ j
    · simp [h1]; omega
    · simp [h1]
  constructor
  · intro h
    refine zbits_lt (fun t ht => ?_)
    by_cases h32 : t < 32
    · have := congrArg (fun z => z.testBit t) h
      simp only [Nat.testBit_and, hb, Nat.zero_testBit] at this
      simpa [h32, ht] using this
    · exact zlt_bits hX (by omega)
  · intro h
    refine Nat.eq_of_testBit_eq (fun j => ?_)
    rw [Nat.testBit_and, hb, Nat.zero_testBit]
    by_cases h1 : n ≤ j
    · rw [zlt_bits h h1]; rfl
    · simp [h1]
theorem zshlm1 {n : Nat} (hn : n ≤ 12) : (zJ (zshl (-1) n)).toBitVec.toNat = 2 ^ 32 - 2 ^ n := by
  have : ∀ n : Nat, n < 13 → (zJ (zshl (-1) n)).toBitVec.toNat = 2 ^ 32 - 2 ^ n := by decide +kernel
  exact this n (by omega)
theorem zz0 {z : Int32} : z.toInt = 0 ↔ z.toBitVec.toNat = 0 := by
  constructor
  · intro h
    have : z = 0 := Int32.toInt_inj.mp h
    rw [this]; rfl
  · intro h
    have : z.toBitVec = 0#32 := BitVec.eq_of_toNat_eq h
    have : z = 0 := Int32.toBitVec_inj.mp this
    rw [this]; rfl
theorem zfix {x y : Int} {n : Nat} (hx : zin x) (hy : zin y) (hn : n ≤ 12) : (zand (zor x y) (zshl (-1) n) = 0 ∧ zand x y = 0) ↔ mfx n x y = true := by
  have h1 : zand (zor x y) (zshl (-1) n) = 0 ↔ (zJ x).toBitVec.toNat < 2 ^ n ∧ (zJ y).toBitVec.toNat < 2 ^ n := by
    unfold zand
    rw [zz0]
    show ((zJ (zor x y)).toBitVec &&& (zJ (zshl (-1) n)).toBitVec).toNat = 0 ↔ _
    rw [BitVec.toNat_and, zshlm1 hn, zhi0 (zJ (zor x y)).toBitVec.isLt (by omega)]
    unfold zor
    rw [zJ_of]
    show ((zJ x).toBitVec ||| (zJ y).toBitVec).toNat < 2 ^ n ↔ _
    rw [BitVec.toNat_or]
    constructor
    · intro h
      exact ⟨Nat.lt_of_le_of_lt Nat.left_le_or h, Nat.lt_of_le_of_lt Nat.right_le_or h⟩
    · intro h
      exact Nat.or_lt_two_pow h.1 h.2
  rw [h1, zJ_small hx hn, zJ_small hy hn, mfx_iff]
  have e : ((2 : Int) ^ n) = ((2 ^ n : Nat) : Int) := by rw [Int.natCast_pow]; rfl
  have h2 := zp12 hn
  rw [e]
  constructor
  · rintro ⟨⟨⟨a1, a2⟩, a3, a4⟩, a5⟩
    obtain ⟨i, rfl⟩ : ∃ a : Nat, x = (a : Int) := ⟨x.toNat, by omega⟩
    obtain ⟨o, rfl⟩ : ∃ a : Nat, y = (a : Int) := ⟨y.toNat, by omega⟩
    rw [zand_nat (by omega) (by omega)] at a5
    exact ⟨i, o, rfl, rfl, by omega, by omega, by omega⟩
  · rintro ⟨i, o, rfl, rfl, a1, a2, a3⟩
    rw [zand_nat (by omega) (by omega), a3]
    exact ⟨⟨⟨by omega, by omega⟩, by omega, by omega⟩, rfl⟩
section CF
variable {g : zM} {k n : Nat} {s : zS} {d : Nat} {Q : zP}
theorem c_canFix (hk : zKB k) (hn : g k (4 : Nat) = (n : Int)) (hn12 : n ≤ 12) {x y : Int} (hx : zin x) (hy : zin y) (hQ : Q (some (zI (zb (mfx n x y)))) g) : zC (d + 1) 9 [zR k, zI x, zI y] g Q := by
  obtain ⟨hk0, -⟩ := id hk
  have hz := zfix hx hy hn12
  have hin : ∀ a c : Int, zin (zor a c) := fun a c => ⟨Int32.le_toInt _, Int32.toInt_lt _⟩
  refine zC.go zm_X0_canFix ⟨rfl, rfl⟩ rfl ?_
  (refine zW.go (zC_om _) (fun K hK => ?_); conv => whnf)
  (refine And.intro (by first | omega | assumption | rfl | exact zin_and | exact ⟨zin_and, by omega⟩ | exact ⟨by omega, zin_and⟩ | exact Nat.le_of_ble_eq_true rfl | exact ⟨Nat.le_of_ble_eq_true rfl, rfl⟩ | exact ⟨Nat.le_of_ble_eq_true rfl, by assumption⟩ | exact ⟨by omega, Nat.le_of_ble_eq_true rfl⟩ | exact ⟨⟨by assumption, by omega⟩, Nat.le_of_ble_eq_true rfl⟩ | decide) ?_; conv => whnf)
  rw [hn]
  by_cases h1 : zand (zor x y) (zshl (-1) n) = 0
  · by_cases h2 : zand x y = 0
    · rw [hz.1 ⟨h1, h2⟩, zb_t] at hQ
      (refine And.intro (by first | omega | assumption | rfl | exact zin_and | exact ⟨zin_and, by omega⟩ | exact ⟨by omega, zin_and⟩ | exact Nat.le_of_ble_eq_true rfl | exact ⟨Nat.le_of_ble_eq_true rfl, rfl⟩ | exact ⟨Nat.le_of_ble_eq_true rfl, by assumption⟩ | exact ⟨by omega, Nat.le_of_ble_eq_true rfl⟩ | exact ⟨⟨by assumption, by omega⟩, Nat.le_of_ble_eq_true rfl⟩ | decide) ?_; conv => whnf)
      (refine And.intro (fun h => by omega) (fun h => ?_); conv => whnf)
      (refine And.intro (by first | omega | assumption | rfl | exact zin_and | exact ⟨zin_and, by omega⟩ | exact ⟨by omega, zin_and⟩ | exact Nat.le_of_ble_eq_true rfl | exact ⟨Nat.le_of_ble_eq_true rfl, rfl⟩ | exact ⟨Nat.le_of_ble_eq_true rfl, by assumption⟩ | exact ⟨by omega, Nat.le_of_ble_eq_true rfl⟩ | exact ⟨⟨by assumption, by omega⟩, Nat.le_of_ble_eq_true rfl⟩ | decide) ?_; conv => whnf)
      (refine And.intro (fun h => by omega) (fun h => ?_); conv => whnf)
      (repeat' first | (refine hK _ _ _ _ (zW.go (zC_om _) (fun K hK => ?_)); conv => whnf) | (refine And.intro (by first | omega | assumption | rfl | exact zin_and | exact ⟨zin_and, by omega⟩ | exact ⟨by omega, zin_and⟩ | exact Nat.le_of_ble_eq_true rfl | exact ⟨Nat.le_of_ble_eq_true rfl, rfl⟩ | exact ⟨Nat.le_of_ble_eq_true rfl, by assumption⟩ | exact ⟨by omega, Nat.le_of_ble_eq_true rfl⟩ | exact ⟨⟨by assumption, by omega⟩, Nat.le_of_ble_eq_true rfl⟩ | decide) ?_; conv => whnf) | (refine And.intro (fun h => ?_) (fun h => ?_) <;> conv => whnf) | (intro h; conv => whnf))
      exact hQ
    · have : mfx n x y = false := by
        cases hm : mfx n x y with
        | false => rfl
        | true => exact absurd (hz.2 hm).2 h2
      rw [this, zb_f] at hQ
      (refine And.intro (by first | omega | assumption | rfl | exact zin_and | exact ⟨zin_and, by omega⟩ | exact ⟨by omega, zin_and⟩ | exact Nat.le_of_ble_eq_true rfl | exact ⟨Nat.le_of_ble_eq_true rfl, rfl⟩ | exact ⟨Nat.le_of_ble_eq_true rfl, by assumption⟩ | exact ⟨by omega, Nat.le_of_ble_eq_true rfl⟩ | exact ⟨⟨by assumption, by omega⟩, Nat.le_of_ble_eq_true rfl⟩ | decide) ?_; conv => whnf)
      (refine And.intro (fun h => by omega) (fun h => ?_); conv => whnf)
      (refine And.intro (by first | omega | assumption | rfl | exact zin_and | exact ⟨zin_and, by omega⟩ | exact ⟨by omega, zin_and⟩ | exact Nat.le_of_ble_eq_true rfl | exact ⟨Nat.le_of_ble_eq_true rfl, rfl⟩ | exact ⟨Nat.le_of_ble_eq_true rfl, by assumption⟩ | exact ⟨by omega, Nat.le_of_ble_eq_true rfl⟩ | exact ⟨⟨by assumption, by omega⟩, Nat.le_of_ble_eq_true rfl⟩ | decide) ?_; conv => whnf)
      (refine And.intro (fun h => ?_) (fun h => by omega); conv => whnf)
      (repeat' first | (refine hK _ _ _ _ (zW.go (zC_om _) (fun K hK => ?_)); conv => whnf) | (refine And.intro (by first | omega | assumption | rfl | exact zin_and | exact ⟨zin_and, by omega⟩ | exact ⟨by omega, zin_and⟩ | exact Nat.le_of_ble_eq_true rfl | exact ⟨Nat.le_of_ble_eq_true rfl, rfl⟩ | exact ⟨Nat.le_of_ble_eq_true rfl, by assumption⟩ | exact ⟨by omega, Nat.le_of_ble_eq_true rfl⟩ | exact ⟨⟨by assumption, by omega⟩, Nat.le_of_ble_eq_true rfl⟩ | decide) ?_; conv => whnf) | (refine And.intro (fun h => ?_) (fun h => ?_) <;> conv => whnf) | (intro h; conv => whnf))
      exact hQ
  · have : mfx n x y = false := by
      cases hm : mfx n x y with
      | false => rfl
      | true => exact absurd (hz.2 hm).1 h1
    rw [this, zb_f] at hQ
    (refine And.intro (by first | omega | assumption | rfl | exact zin_and | exact ⟨zin_and, by omega⟩ | exact ⟨by omega, zin_and⟩ | exact Nat.le_of_ble_eq_true rfl | exact ⟨Nat.le_of_ble_eq_true rfl, rfl⟩ | exact ⟨Nat.le_of_ble_eq_true rfl, by assumption⟩ | exact ⟨by omega, Nat.le_of_ble_eq_true rfl⟩ | exact ⟨⟨by assumption, by omega⟩, Nat.le_of_ble_eq_true rfl⟩ | decide) ?_; conv => whnf)
    (refine And.intro (fun h => ?_) (fun h => by omega); conv => whnf)
    (repeat' first | (refine hK _ _ _ _ (zW.go (zC_om _) (fun K hK => ?_)); conv => whnf) | (refine And.intro (by first | omega | assumption | rfl | exact zin_and | exact ⟨zin_and, by omega⟩ | exact ⟨by omega, zin_and⟩ | exact Nat.le_of_ble_eq_true rfl | exact ⟨Nat.le_of_ble_eq_true rfl, rfl⟩ | exact ⟨Nat.le_of_ble_eq_true rfl, by assumption⟩ | exact ⟨by omega, Nat.le_of_ble_eq_true rfl⟩ | exact ⟨⟨by assumption, by omega⟩, Nat.le_of_ble_eq_true rfl⟩ | decide) ?_; conv => whnf) | (refine And.intro (fun h => ?_) (fun h => ?_) <;> conv => whnf) | (intro h; conv => whnf))
    exact hQ
end CF
