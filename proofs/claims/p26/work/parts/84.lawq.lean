/-! the law's small methods -/
/-- the law's low: the remainder of a number without its sign -/
def ylow (v n : Int) : Int := zrem (zand v 2147483647) n
theorem zand_max {v : Int} : ∃ a : Nat, zand v 2147483647 = (a : Int) ∧ a < 2 ^ 31 := by
  have h1 : (zJ ((2147483647 : Nat) : Int)).toBitVec.toNat = 2147483647 := zTN (by decide)
  have h2 : (zJ v).toBitVec.toNat &&& 2147483647 < 2 ^ 31 := Nat.lt_of_le_of_lt Nat.and_le_right (by decide)
  refine ⟨(zJ v).toBitVec.toNat &&& 2147483647, ?_, h2⟩
  refine zTI ?_ h2
  rw [Int32.toBitVec_and, BitVec.toNat_and]
  exact congrArg (fun z => (zJ v).toBitVec.toNat &&& z) h1
theorem zrem_nat {a b : Nat} (ha : a < 2 ^ 31) (hb0 : 0 < b) (hb : b < 2 ^ 31) : zrem a b = ((a % b : Nat) : Int) := by
  have e : zJ (a : Int) / zJ (b : Int) = zJ (zdiv a b) := (zJ_of _).symm
  have h := Nat.div_add_mod a b
  have hm := Nat.mod_lt a hb0
  unfold zrem
  rw [e, zdiv_nat ha hb0 hb, zJ_mul, zJ_sub]
  have e2 : (a : Int) - ((a / b : Nat) : Int) * (b : Int) = ((a % b : Nat) : Int) := by
    rw [← Int.natCast_mul, Nat.mul_comm]
    omega
  rw [e2, zJ_toInt (show zin _ by omega)]
theorem ylow_rng {v : Int} {n : Nat} (h0 : 1 ≤ n) (hn : n < 100000) : ∃ r : Nat, ylow v n = (r : Int) ∧ r < n := by
  obtain ⟨a, ha, hl⟩ := zand_max (v := v)
  refine ⟨a % n, ?_, Nat.mod_lt _ h0⟩
  unfold ylow
  rw [ha]
  exact zrem_nat hl h0 (by omega)
section YL
variable {g : zM} {d : Nat} {Q : zP} {s : zS} {n m z : Nat}
theorem w_low {v : Int} {k : Nat} (h0 : 1 ≤ k) (hk : k < 100000) (hQ : Q (some (zI (ylow v k))) g) : zC (d + 1) 149 [zI v, zI k] g Q := by
  refine zC.go zm_L_low ⟨rfl, rfl⟩ rfl ?_
  (refine zW.go (zC_om _) (fun K hK => ?_); conv => whnf)
  refine And.intro (show zin (k : Int) ∧ (k : Int) ≠ 0 by omega) ?_
  exact ⟨⟨fun w => absurd w (by decide), fun w => absurd w (by decide)⟩, hQ⟩
theorem w_cell {k : Int} (h : 0 ≤ k ∧ k < 68) (hQ : Q (some (zI (g 72 k))) g) : zC (d + 1) 150 [zR 72, zI k] g Q := by
  refine zC.go zm_L_cell ⟨rfl, rfl⟩ rfl ?_
  (refine zW.go (zC_om _) (fun K hK => ?_); conv => whnf)
  refine And.intro ⟨rfl, h⟩ ?_
  exact ⟨⟨fun w => absurd w (by decide), fun w => absurd w (by decide)⟩, hQ⟩
theorem w_sum {set : Nat} {y : Int} (hk : yK g s n m z) (hy : y = 0 ∨ y = 1) (hs : set < 2 ^ n) (hQ : Q (some (zI (bsum s (if y = 0 then 9 else 21) set n))) g) : zC (d + 9) 152 [zR 0, zI y, zI set] g Q := by
  have hn := hk.1.n12
  have hok := hk.1.1.1
  have k0 := zkd0
  have h2n := zp12 hn
  have hf : ∃ f : Int, f = (if y = 0 then 9 else 21) ∧ (if y = 0 then 9 else if y = 1 then 21 else 33) = f ∧ ∀ t : Nat, t < n → 0 ≤ s (f + t) ∧ s (f + t) ≤ 99 := by
    refine ⟨_, rfl, ?_, fun t ht => ?_⟩
    · rcases hy with w | w <;> subst w <;> rfl
    · have := hok.2.2.2 t ht
      rcases hy with w | w
      · subst w; exact ⟨by have := this.1; show 0 ≤ s (9 + t); omega, by have := this.1; show s (9 + t) ≤ 99; omega⟩
      · subst w; exact ⟨by have := this.2.1; show 0 ≤ s (21 + t); omega, by have := this.2.1; show s (21 + t) ≤ 99; omega⟩
  obtain ⟨f, hf1, hf2, hf3⟩ := hf
  rw [← hf1] at hQ
  refine zC.go zm_L_sum ⟨rfl, rfl⟩ rfl ?_
  (refine zW.upto (zC_om _) 4 (fun K hK => ?_); conv => whnf)
  refine hK _ _ _ _ (zdown (P := fun t => zW zL_sum (zC (d + 8)) Q 4 [zR 0, zI y, zI set, zI (bsum s f set t), zI t] [] g) n ?_ ?_)
  · (refine zW.go (zC_om _) (fun K hK => ?_); conv => whnf)
    (refine And.intro (by first | omega | assumption | rfl | exact zin_and | exact ⟨zin_and, by omega⟩ | exact ⟨by omega, zin_and⟩ | exact Nat.le_of_ble_eq_true rfl | exact ⟨Nat.le_of_ble_eq_true rfl, rfl⟩ | exact ⟨Nat.le_of_ble_eq_true rfl, by assumption⟩ | exact ⟨by omega, Nat.le_of_ble_eq_true rfl⟩ | exact ⟨⟨by assumption, by omega⟩, Nat.le_of_ble_eq_true rfl⟩ | decide) ?_; conv => whnf)
    (refine a_count hk (y := 0) (by omega) ?_; conv => whnf)
    rw [show mct s n m z 0 0 = (n : Int) from rfl]
    (refine And.intro (by first | omega | assumption | rfl | exact zin_and | exact ⟨zin_and, by omega⟩ | exact ⟨by omega, zin_and⟩ | exact Nat.le_of_ble_eq_true rfl | exact ⟨Nat.le_of_ble_eq_true rfl, rfl⟩ | exact ⟨Nat.le_of_ble_eq_true rfl, by assumption⟩ | exact ⟨by omega, Nat.le_of_ble_eq_true rfl⟩ | exact ⟨⟨by assumption, by omega⟩, Nat.le_of_ble_eq_true rfl⟩ | decide) ?_; conv => whnf)
    (refine And.intro (fun h => ?_) (fun h => by omega); conv => whnf)
    (refine hK _ _ _ _ (zW.go (zC_om _) (fun K hK => ?_)); conv => whnf)
    exact ⟨⟨fun w => absurd w (by decide), fun w => absurd w (by decide)⟩, hQ⟩
  · intro t ht hi
    have hi : zW zL_sum (zC (d + 8)) Q 4 [zR 0, zI y, zI set, zI (bsum s f set (t + 1)), zI (t + 1 : Nat)] [] g := hi
    rw [bsum] at hi
    have hz := zbit1 (a := set) (t := t) (by omega) (by omega)
    have hft := hf3 t ht
    (refine zW.go (zC_om _) (fun K hK => ?_); conv => whnf)
    (refine And.intro (by first | omega | assumption | rfl | exact zin_and | exact ⟨zin_and, by omega⟩ | exact ⟨by omega, zin_and⟩ | exact Nat.le_of_ble_eq_true rfl | exact ⟨Nat.le_of_ble_eq_true rfl, rfl⟩ | exact ⟨Nat.le_of_ble_eq_true rfl, by assumption⟩ | exact ⟨by omega, Nat.le_of_ble_eq_true rfl⟩ | exact ⟨⟨by assumption, by omega⟩, Nat.le_of_ble_eq_true rfl⟩ | decide) ?_; conv => whnf)
    (refine a_count hk (y := 0) (by omega) ?_; conv => whnf)
    rw [show mct s n m z 0 0 = (n : Int) from rfl]
    (refine And.intro (by first | omega | assumption | rfl | exact zin_and | exact ⟨zin_and, by omega⟩ | exact ⟨by omega, zin_and⟩ | exact Nat.le_of_ble_eq_true rfl | exact ⟨Nat.le_of_ble_eq_true rfl, rfl⟩ | exact ⟨Nat.le_of_ble_eq_true rfl, by assumption⟩ | exact ⟨by omega, Nat.le_of_ble_eq_true rfl⟩ | exact ⟨⟨by assumption, by omega⟩, Nat.le_of_ble_eq_true rfl⟩ | decide) ?_; conv => whnf)
    (refine And.intro (fun h => by omega) (fun h => ?_); conv => whnf)
    (refine And.intro (by first | omega | assumption | rfl | exact zin_and | exact ⟨zin_and, by omega⟩ | exact ⟨by omega, zin_and⟩ | exact Nat.le_of_ble_eq_true rfl | exact ⟨Nat.le_of_ble_eq_true rfl, rfl⟩ | exact ⟨Nat.le_of_ble_eq_true rfl, by assumption⟩ | exact ⟨by omega, Nat.le_of_ble_eq_true rfl⟩ | exact ⟨⟨by assumption, by omega⟩, Nat.le_of_ble_eq_true rfl⟩ | decide) ?_; conv => whnf)
    by_cases c : set.testBit t = true
    · rw [if_pos c] at hi
      (refine And.intro (fun h => absurd (hz.mpr c) h) (fun h => ?_); conv => whnf)
      (refine And.intro (by first | omega | assumption | rfl | exact zin_and | exact ⟨zin_and, by omega⟩ | exact ⟨by omega, zin_and⟩ | exact Nat.le_of_ble_eq_true rfl | exact ⟨Nat.le_of_ble_eq_true rfl, rfl⟩ | exact ⟨Nat.le_of_ble_eq_true rfl, by assumption⟩ | exact ⟨by omega, Nat.le_of_ble_eq_true rfl⟩ | exact ⟨⟨by assumption, by omega⟩, Nat.le_of_ble_eq_true rfl⟩ | decide) ?_; conv => whnf)
      (refine a_thing hk ht (by omega) ?_; conv => whnf)
      rw [hf2]
      (refine hK _ _ _ _ (zW.go (zC_om _) (fun K hK => ?_)); conv => whnf)
      exact hK _ _ _ _ hi
    · rw [if_neg c] at hi
      (refine And.intro (fun h => ?_) (fun h => absurd (hz.mp h) c); conv => whnf)
      (refine hK _ _ _ _ (zW.go (zC_om _) (fun K hK => ?_)); conv => whnf)
      exact hK _ _ _ _ hi
/-- a choice is told as one -/
theorem w_isChoice {set : Nat} (hk : yK g s n m z) (hs : set < 2 ^ n) (hp : mposs s n set = true) (hQ : Q (some (zI 1)) g) : zC (d + 10) 153 [zR 0, zI set] g Q := by
  have hn := hk.1.n12
  have hok := hk.1.1.1
  have k0 := zkd0
  have h2n := zp12 hn
  obtain ⟨hp1, hp2⟩ := mposs_iff.mp hp
  have hv := msumv (set := set) hok
  have hr := hok.2.2.1
  have loop : zW zL_isChoice (zC (d + 9)) Q 14 [zR 0, zI set, zI 1, zI 0] [] g := by
    refine zdown (P := fun t => zW zL_isChoice (zC (d + 9)) Q 14 [zR 0, zI set, zI 1, zI t] [] g) n ?_ ?_
    · (refine zW.go (zC_om _) (fun K hK => ?_); conv => whnf)
      (refine And.intro (by first | omega | assumption | rfl | exact zin_and | exact ⟨zin_and, by omega⟩ | exact ⟨by omega, zin_and⟩ | exact Nat.le_of_ble_eq_true rfl | exact ⟨Nat.le_of_ble_eq_true rfl, rfl⟩ | exact ⟨Nat.le_of_ble_eq_true rfl, by assumption⟩ | exact ⟨by omega, Nat.le_of_ble_eq_true rfl⟩ | exact ⟨⟨by assumption, by omega⟩, Nat.le_of_ble_eq_true rfl⟩ | decide) ?_; conv => whnf)
      (refine a_count hk (y := 0) (by omega) ?_; conv => whnf)
      rw [show mct s n m z 0 0 = (n : Int) from rfl]
      (refine And.intro (by first | omega | assumption | rfl | exact zin_and | exact ⟨zin_and, by omega⟩ | exact ⟨by omega, zin_and⟩ | exact Nat.le_of_ble_eq_true rfl | exact ⟨Nat.le_of_ble_eq_true rfl, rfl⟩ | exact ⟨Nat.le_of_ble_eq_true rfl, by assumption⟩ | exact ⟨by omega, Nat.le_of_ble_eq_true rfl⟩ | exact ⟨⟨by assumption, by omega⟩, Nat.le_of_ble_eq_true rfl⟩ | decide) ?_; conv => whnf)
      (refine And.intro (fun h => ?_) (fun h => by omega); conv => whnf)
      (refine hK _ _ _ _ (zW.go (zC_om _) (fun K hK => ?_)); conv => whnf)
      exact ⟨⟨fun w => Or.inr rfl, fun w => absurd w (by decide)⟩, hQ⟩
    · intro t ht hi
      have hi : zW zL_isChoice (zC (d + 9)) Q 14 [zR 0, zI set, zI 1, zI (t + 1 : Nat)] [] g := hi
      have hz := zbit (a := set) (t := t) (by omega) (by omega)
      have hmb := mb_lt hok ht
      (refine zW.go (zC_om _) (fun K hK => ?_); conv => whnf)
      (refine And.intro (by first | omega | assumption | rfl | exact zin_and | exact ⟨zin_and, by omega⟩ | exact ⟨by omega, zin_and⟩ | exact Nat.le_of_ble_eq_true rfl | exact ⟨Nat.le_of_ble_eq_true rfl, rfl⟩ | exact ⟨Nat.le_of_ble_eq_true rfl, by assumption⟩ | exact ⟨by omega, Nat.le_of_ble_eq_true rfl⟩ | exact ⟨⟨by assumption, by omega⟩, Nat.le_of_ble_eq_true rfl⟩ | decide) ?_; conv => whnf)
      (refine a_count hk (y := 0) (by omega) ?_; conv => whnf)
      rw [show mct s n m z 0 0 = (n : Int) from rfl]
      (refine And.intro (by first | omega | assumption | rfl | exact zin_and | exact ⟨zin_and, by omega⟩ | exact ⟨by omega, zin_and⟩ | exact Nat.le_of_ble_eq_true rfl | exact ⟨Nat.le_of_ble_eq_true rfl, rfl⟩ | exact ⟨Nat.le_of_ble_eq_true rfl, by assumption⟩ | exact ⟨by omega, Nat.le_of_ble_eq_true rfl⟩ | exact ⟨⟨by assumption, by omega⟩, Nat.le_of_ble_eq_true rfl⟩ | decide) ?_; conv => whnf)
      (refine And.intro (fun h => by omega) (fun h => ?_); conv => whnf)
      (refine And.intro (by first | omega | assumption | rfl | exact zin_and | exact ⟨zin_and, by omega⟩ | exact ⟨by omega, zin_and⟩ | exact Nat.le_of_ble_eq_true rfl | exact ⟨Nat.le_of_ble_eq_true rfl, rfl⟩ | exact ⟨Nat.le_of_ble_eq_true rfl, by assumption⟩ | exact ⟨by omega, Nat.le_of_ble_eq_true rfl⟩ | exact ⟨⟨by assumption, by omega⟩, Nat.le_of_ble_eq_true rfl⟩ | decide) ?_; conv => whnf)
      (refine And.intro (fun h => by omega) (fun h => ?_); conv => whnf)
      (refine And.intro (by first | omega | assumption | rfl | exact zin_and | exact ⟨zin_and, by omega⟩ | exact ⟨by omega, zin_and⟩ | exact Nat.le_of_ble_eq_true rfl | exact ⟨Nat.le_of_ble_eq_true rfl, rfl⟩ | exact ⟨Nat.le_of_ble_eq_true rfl, by assumption⟩ | exact ⟨by omega, Nat.le_of_ble_eq_true rfl⟩ | exact ⟨⟨by assumption, by omega⟩, Nat.le_of_ble_eq_true rfl⟩ | decide) ?_; conv => whnf)
      by_cases c : set.testBit t = true
      · rw [if_pos c] at hz
        (refine And.intro (fun h => by omega) (fun h => ?_); conv => whnf)
        (refine And.intro (by first | omega | assumption | rfl | exact zin_and | exact ⟨zin_and, by omega⟩ | exact ⟨by omega, zin_and⟩ | exact Nat.le_of_ble_eq_true rfl | exact ⟨Nat.le_of_ble_eq_true rfl, rfl⟩ | exact ⟨Nat.le_of_ble_eq_true rfl, by assumption⟩ | exact ⟨by omega, Nat.le_of_ble_eq_true rfl⟩ | exact ⟨⟨by assumption, by omega⟩, Nat.le_of_ble_eq_true rfl⟩ | decide) ?_; conv => whnf)
        (refine a_thing hk ht (y := 3) (by omega) ?_; conv => whnf)
        have e : zand (s (33 + (t : Int))) set = 0 := by
          rw [mb_eq hok ht, zand_nat (by omega) (by omega), hp2 t ht c]
          rfl
        (refine And.intro zin_and ?_; conv => whnf)
        (refine And.intro (fun h => absurd e h) (fun h => ?_); conv => whnf)
        (refine hK _ _ _ _ (zW.go (zC_om _) (fun K hK => ?_)); conv => whnf)
        exact hK _ _ _ _ hi
      · rw [if_neg c] at hz
        (refine And.intro (fun h => ?_) (fun h => by omega); conv => whnf)
        (refine hK _ _ _ _ (zW.go (zC_om _) (fun K hK => ?_)); conv => whnf)
        (refine hK _ _ _ _ (zW.go (zC_om _) (fun K hK => ?_)); conv => whnf)
        exact hK _ _ _ _ hi
  refine zC.go zm_L_isChoice ⟨rfl, rfl⟩ rfl ?_
  (refine zW.go (zC_om _) (fun K hK => ?_); conv => whnf)
  (refine And.intro (by first | omega | assumption | rfl | exact zin_and | exact ⟨zin_and, by omega⟩ | exact ⟨by omega, zin_and⟩ | exact Nat.le_of_ble_eq_true rfl | exact ⟨Nat.le_of_ble_eq_true rfl, rfl⟩ | exact ⟨Nat.le_of_ble_eq_true rfl, by assumption⟩ | exact ⟨by omega, Nat.le_of_ble_eq_true rfl⟩ | exact ⟨⟨by assumption, by omega⟩, Nat.le_of_ble_eq_true rfl⟩ | decide) ?_; conv => whnf)
  (refine w_sum hk (y := 1) (by omega) hs ?_; conv => whnf)
  (refine And.intro (by first | omega | assumption | rfl | exact zin_and | exact ⟨zin_and, by omega⟩ | exact ⟨by omega, zin_and⟩ | exact Nat.le_of_ble_eq_true rfl | exact ⟨Nat.le_of_ble_eq_true rfl, rfl⟩ | exact ⟨Nat.le_of_ble_eq_true rfl, by assumption⟩ | exact ⟨by omega, Nat.le_of_ble_eq_true rfl⟩ | exact ⟨⟨by assumption, by omega⟩, Nat.le_of_ble_eq_true rfl⟩ | decide) ?_; conv => whnf)
  (refine a_count hk (y := 1) (by omega) ?_; conv => whnf)
  rw [show mct s n m z 0 1 = s 1 from rfl]
  (refine And.intro (show zin (bsum s 21 set n) ∧ zin (s 1) by omega) ?_; conv => whnf)
  (refine And.intro (fun h => absurd h (by show ¬ s 1 < bsum s 21 set n; omega)) (fun h => ?_); conv => whnf)
  (refine hK _ _ _ _ ?_)
  (refine zW.upto (zC_om _) 3 (fun K hK => ?_); conv => whnf)
  exact hK _ _ _ _ loop
end YL
