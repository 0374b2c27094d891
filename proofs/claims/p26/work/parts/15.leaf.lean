/-! the class's small methods -/
theorem zin_and {x y : Int} : zin (zand x y) := ⟨Int32.le_toInt _, Int32.toInt_lt _⟩
theorem s_isWithin {d : Nat} {v a b : Int} {g : zM} {Q : zP} (hv : zin v) (ha : zin a) (hb : zin b) (hQ : Q (some (zI (if a ≤ v ∧ v ≤ b then 1 else 0))) g) : zC (d + 1) 81 [zI v, zI a, zI b] g Q := by
  refine zC.go zm_X5_isWithin ⟨rfl, rfl⟩ rfl ?_
  (refine zW.go (zC_om _) (fun K hK => ?_); conv => whnf)
  (repeat' first | (refine hK _ _ _ _ (zW.go (zC_om _) (fun K hK => ?_)); conv => whnf) | (refine And.intro (by first | omega | assumption | rfl | decide | exact zin_and | exact ⟨zin_and, by omega⟩ | exact ⟨by omega, zin_and⟩ | exact ⟨by omega, by assumption⟩) ?_; conv => whnf) | (refine And.intro (fun h => ?_) (fun h => ?_) <;> conv => whnf) | (intro h; conv => whnf))
  all_goals (refine zQe hQ ?_; split <;> omega)
theorem s_has {d : Nat} {a t : Nat} {g : zM} {Q : zP} (ha : a < 2 ^ 31) (ht : t < 32) (hQ : Q (some (zI (if a.testBit t then 1 else 0))) g) : zC (d + 1) 82 [zI a, zI t] g Q := by
  refine zC.go zm_X5_has ⟨rfl, rfl⟩ rfl ?_
  have hz := zbit1 ha ht
  (refine zW.go (zC_om _) (fun K hK => ?_); conv => whnf)
  (repeat' first | (refine hK _ _ _ _ (zW.go (zC_om _) (fun K hK => ?_)); conv => whnf) | (refine And.intro (by first | omega | assumption | rfl | decide | exact zin_and | exact ⟨zin_and, by omega⟩ | exact ⟨by omega, zin_and⟩ | exact ⟨by omega, by assumption⟩) ?_; conv => whnf) | (refine And.intro (fun h => ?_) (fun h => ?_) <;> conv => whnf) | (intro h; conv => whnf))
  · refine zQe hQ ?_
    rw [if_neg (fun q => h (hz.mpr q))]
  · refine zQe hQ ?_
    rw [if_pos (hz.mp h)]
theorem s_at {d : Nat} {a n : Nat} {i : Int} {g : zM} {Q : zP} (hk : zkd a = (1, n)) (hn : n < 100000) (hi : zin i) (hQ : Q (some (zI (if 0 ≤ i ∧ i < n then g a i else 0))) g) : zC (d + 1) 83 [zR a, zI i] g Q := by
  refine zC.go zm_X5_at ⟨rfl, rfl⟩ rfl ?_
  have hk1 : (zkd a).1 = 1 := by rw [hk]
  have hk2 : (zkd a).2 = n := by rw [hk]
  (refine zW.go (zC_om _) (fun K hK => ?_); conv => whnf)
  (repeat' first | (refine hK _ _ _ _ (zW.go (zC_om _) (fun K hK => ?_)); conv => whnf) | (refine And.intro (by first | omega | assumption | rfl | decide | exact zin_and | exact ⟨zin_and, by omega⟩ | exact ⟨by omega, zin_and⟩ | exact ⟨by omega, by assumption⟩) ?_; conv => whnf) | (refine And.intro (fun h => ?_) (fun h => ?_) <;> conv => whnf) | (intro h; conv => whnf))
  · refine zQe hQ ?_
    rw [if_neg (by omega)]
  · refine zQe hQ ?_
    rw [if_neg (by omega)]
  · refine zQe hQ ?_
    rw [if_pos (by omega)]
theorem s_put {d : Nat} {a n : Nat} {i v : Int} {g : zM} {Q : zP} (hk : zkd a = (1, n)) (hn : n < 100000) (h0 : 0 ≤ i) (h1 : i < n) (hQ : Q none (zup g a i v)) : zC (d + 1) 84 [zR a, zI i, zI v] g Q := by
  refine zC.go zm_X5_put ⟨rfl, rfl⟩ rfl ?_
  have hk1 : (zkd a).1 = 1 := by rw [hk]
  have hk2 : (zkd a).2 = n := by rw [hk]
  (refine zW.go (zC_om _) (fun K hK => ?_); conv => whnf)
  (repeat' first | (refine hK _ _ _ _ (zW.go (zC_om _) (fun K hK => ?_)); conv => whnf) | (refine And.intro (by first | omega | assumption | rfl | decide | exact zin_and | exact ⟨zin_and, by omega⟩ | exact ⟨by omega, zin_and⟩ | exact ⟨by omega, by assumption⟩) ?_; conv => whnf) | (refine And.intro (fun h => ?_) (fun h => ?_) <;> conv => whnf) | (intro h; conv => whnf))
  all_goals first | exact hQ | omega
/-- the sum of the numbers from f on that a set has, of the first n -/
def bsum (r : Int → Int) (f : Int) (set : Nat) : Nat → Int
  | 0 => 0
  | n + 1 => bsum r f set n + if set.testBit n then r (f + n) else 0
theorem s_sumOf {d : Nat} {a set : Nat} {g : zM} {Q : zP} (hk : zkd a = (1, 12)) (hs : set < 2 ^ 12) (hQ : Q (some (zI (bsum (g a) 0 set 12))) g) : zC (d + 1) 85 [zR a, zI set] g Q := by
  have hk1 : (zkd a).1 = 1 := by rw [hk]
  have hk2 : (zkd a).2 = 12 := by rw [hk]
  refine zC.go zm_X5_sumOf ⟨rfl, rfl⟩ rfl ?_
  have loop : ∀ m t : Nat, t + m = 12 → zW zX5_sumOf (zC d) Q 4 [zR a, zI set, zI (bsum (g a) 0 set t), zI t] [] g := by
    intro m
    induction m with
    | zero =>
      intro t ht
      have e : t = 12 := by omega
      subst e
      (refine zW.go (zC_om _) (fun K hK => ?_); conv => whnf)
      (refine And.intro (by first | omega | assumption | rfl | decide | exact zin_and | exact ⟨zin_and, by omega⟩ | exact ⟨by omega, zin_and⟩) ?_; conv => whnf)
      (refine And.intro (by first | omega | assumption | rfl | decide | exact zin_and | exact ⟨zin_and, by omega⟩ | exact ⟨by omega, zin_and⟩) ?_; conv => whnf)
      (refine And.intro (fun h => ?_) (fun h => by omega); conv => whnf)
      (repeat' first | (refine hK _ _ _ _ (zW.go (zC_om _) (fun K hK => ?_)); conv => whnf) | (refine And.intro (by first | omega | assumption | rfl | decide | exact zin_and | exact ⟨zin_and, by omega⟩ | exact ⟨by omega, zin_and⟩ | exact ⟨by omega, by assumption⟩) ?_; conv => whnf) | (refine And.intro (fun h => ?_) (fun h => ?_) <;> conv => whnf) | (intro h; conv => whnf))
      exact hQ
    | succ m ih =>
      intro t ht
      have hb := zbit2 (a := set) (t := t) (by omega) (by omega)
      have e0 : bsum (g a) 0 set (t + 1) = bsum (g a) 0 set t + if set.testBit t then g a t else 0 := by
        show bsum (g a) 0 set t + _ = _
        rw [Int.zero_add]
      have hi := ih (t + 1) (by omega)
      rw [e0] at hi
      have hp : 0 < 2 ^ t := Nat.two_pow_pos t
      (refine zW.go (zC_om _) (fun K hK => ?_); conv => whnf)
      (refine And.intro (by first | omega | assumption | rfl | decide | exact zin_and | exact ⟨zin_and, by omega⟩ | exact ⟨by omega, zin_and⟩) ?_; conv => whnf)
      (refine And.intro (by first | omega | assumption | rfl | decide | exact zin_and | exact ⟨zin_and, by omega⟩ | exact ⟨by omega, zin_and⟩) ?_; conv => whnf)
      (refine And.intro (fun h => by omega) (fun h => ?_); conv => whnf)
      (refine And.intro (by first | omega | assumption | rfl | decide | exact zin_and | exact ⟨zin_and, by omega⟩ | exact ⟨by omega, zin_and⟩) ?_; conv => whnf)
      rw [hb]
      by_cases hbit : set.testBit t = true
      · rw [if_pos hbit] at hi ⊢
        (refine And.intro (fun h => by omega) (fun h => ?_); conv => whnf)
        (refine And.intro (by first | omega | assumption | rfl | decide | exact zin_and | exact ⟨zin_and, by omega⟩ | exact ⟨by omega, zin_and⟩) ?_; conv => whnf)
        exact hK _ _ _ _ hi
      · rw [if_neg hbit, Int.add_zero] at hi
        rw [if_neg hbit]
        (refine And.intro (fun h => ?_) (fun h => by omega); conv => whnf)
        exact hK _ _ _ _ (zW.go (zC_om _) (fun K hK => hK _ _ _ _ hi))
  (refine zW.upto (zC_om _) 4 (fun K hK => ?_); conv => whnf)
  exact hK _ _ _ _ (loop 12 0 rfl)
