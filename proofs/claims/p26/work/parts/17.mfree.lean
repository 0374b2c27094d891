/-! the reference: sums, what is possible, what is free -/
theorem zdown {P : Nat → Prop} : ∀ n : Nat, P n → (∀ t, t < n → P (t + 1) → P t) → P 0
  | 0, h, _ => h
  | n + 1, h, hs => zdown n (hs n (by omega) h) (fun t ht => hs t (by omega))
def zb (b : Bool) : Int := if b then 1 else 0
theorem zb_t : zb true = 1 := rfl
theorem zb_f : zb false = 0 := rfl
/-- what a row says of things and room is in its limits -/
def mok (s : zS) (n : Nat) : Prop := s 0 = n ∧ n ≤ 12 ∧ (0 ≤ s 1 ∧ s 1 ≤ 200) ∧ ∀ t : Nat, t < n → (1 ≤ s (9 + t) ∧ s (9 + t) ≤ 99) ∧ (1 ≤ s (21 + t) ∧ s (21 + t) ≤ 50) ∧ (0 ≤ s (33 + t) ∧ s (33 + t) < 4096)
theorem mok.pos {s : zS} {n : Nat} (h : mok s n) : mpos s n := fun t ht => ⟨(h.2.2.2 t ht).1.1, (h.2.2.2 t ht).2.1.1⟩
def mb (s : zS) (t : Nat) : Nat := (s (33 + t)).toNat
theorem mb_lt {s : zS} {n t : Nat} (h : mok s n) (ht : t < n) : mb s t < 4096 := by
  have := (h.2.2.2 t ht).2.2
  unfold mb
  omega
theorem mb_eq {s : zS} {n t : Nat} (h : mok s n) (ht : t < n) : s (33 + t) = (mb s t : Int) := by
  have := (h.2.2.2 t ht).2.2
  unfold mb
  omega
theorem bsum_bd {r : Int → Int} {f c : Int} {set : Nat} : ∀ n : Nat, (∀ t : Nat, t < n → 0 ≤ r (f + t) ∧ r (f + t) ≤ c) → 0 ≤ bsum r f set n ∧ bsum r f set n ≤ c * n
  | 0, _ => by simp [bsum]
  | n + 1, h => by
    have h1 := bsum_bd (set := set) n (fun t ht => h t (by omega))
    have h2 := h n (by omega)
    have e : c * ((n + 1 : Nat) : Int) = c * n + c := by rw [Int.natCast_add, Int.mul_add]; simp
    show 0 ≤ bsum r f set n + _ ∧ bsum r f set n + _ ≤ _
    rw [e]
    split <;> omega
theorem msumv {s : zS} {n set : Nat} (h : mok s n) : 0 ≤ bsum s 21 set n ∧ bsum s 21 set n ≤ 600 := by
  have h1 := bsum_bd (r := s) (f := 21) (c := 50) (set := set) n (fun t ht => by have := (h.2.2.2 t ht).2.1; omega)
  have h2 := h.2.1
  omega
theorem msumw {s : zS} {n set : Nat} (h : mok s n) : 0 ≤ bsum s 9 set n ∧ bsum s 9 set n ≤ 1188 := by
  have h1 := bsum_bd (r := s) (f := 9) (c := 99) (set := set) n (fun t ht => by have := (h.2.2.2 t ht).1; omega)
  have h2 := h.2.1
  omega
theorem m_in {d : Nat} {v a b : Int} {g : zM} {Q : zP} (hv : zin v) (ha : zin a) (hb : zin b) (hQ : Q (some (zI (if a ≤ v ∧ v ≤ b then 1 else 0))) g) : zC (d + 1) 87 [zI v, zI a, zI b] g Q := by
  refine zC.go zm_X6_in ⟨rfl, rfl⟩ rfl ?_
  (refine zW.go (zC_om _) (fun K hK => ?_); conv => whnf)
  (repeat' first | (refine hK _ _ _ _ (zW.go (zC_om _) (fun K hK => ?_)); conv => whnf) | (refine And.intro (by first | omega | assumption | rfl | exact zin_and | exact ⟨zin_and, by omega⟩ | exact ⟨by omega, zin_and⟩ | exact Nat.le_of_ble_eq_true rfl | exact ⟨Nat.le_of_ble_eq_true rfl, rfl⟩ | exact ⟨Nat.le_of_ble_eq_true rfl, by assumption⟩ | decide) ?_; conv => whnf) | (refine And.intro (fun h => ?_) (fun h => ?_) <;> conv => whnf) | (intro h; conv => whnf))
  all_goals (refine zQe hQ ?_; split <;> omega)
/-- what node k's row says at f -/
abbrev nd (s : zS) (k f : Int) : Int := s (45 + 7 * k + f)
theorem m_of {d a : Nat} {node what : Int} {g : zM} {Q : zP} (ha : zkd a = (1, 2845)) (h1 : 0 ≤ node ∧ node < 400) (h2 : 0 ≤ what ∧ what < 7) (hQ : Q (some (zI (nd (g a) node what))) g) : zC (d + 1) 110 [zR a, zI node, zI what] g Q := by
  have hk1 : (zkd a).1 = 1 := by rw [ha]
  have hk2 : (zkd a).2 = 2845 := by rw [ha]
  refine zC.go zm_X6_of ⟨rfl, rfl⟩ rfl ?_
  (refine zW.go (zC_om _) (fun K hK => ?_); conv => whnf)
  (repeat' first | (refine hK _ _ _ _ (zW.go (zC_om _) (fun K hK => ?_)); conv => whnf) | (refine And.intro (by first | omega | assumption | rfl | exact zin_and | exact ⟨zin_and, by omega⟩ | exact ⟨by omega, zin_and⟩ | exact Nat.le_of_ble_eq_true rfl | exact ⟨Nat.le_of_ble_eq_true rfl, rfl⟩ | exact ⟨Nat.le_of_ble_eq_true rfl, by assumption⟩ | decide) ?_; conv => whnf) | (refine And.intro (fun h => ?_) (fun h => ?_) <;> conv => whnf) | (intro h; conv => whnf))
  exact hQ
theorem m_isThing {d : Nat} {t : Int} {n : Nat} {g : zM} {Q : zP} (ht : zin t) (hn : g 65 0 = n) (hn12 : n ≤ 12) (hQ : Q (some (zI (if 0 ≤ t ∧ t < n then 1 else 0))) g) : zC (d + 2) 88 [zR 64, zI t] g Q := by
  refine zC.go zm_X6_isThing ⟨rfl, rfl⟩ rfl ?_
  (refine zW.go (zC_om _) (fun K hK => ?_); conv => whnf)
  (refine And.intro (by first | omega | assumption | rfl | exact zin_and | exact ⟨zin_and, by omega⟩ | exact ⟨by omega, zin_and⟩ | exact Nat.le_of_ble_eq_true rfl | exact ⟨Nat.le_of_ble_eq_true rfl, rfl⟩ | exact ⟨Nat.le_of_ble_eq_true rfl, by assumption⟩ | decide) ?_; conv => whnf)
  (refine And.intro (by first | omega | assumption | rfl | exact zin_and | exact ⟨zin_and, by omega⟩ | exact ⟨by omega, zin_and⟩ | exact Nat.le_of_ble_eq_true rfl | exact ⟨Nat.le_of_ble_eq_true rfl, rfl⟩ | exact ⟨Nat.le_of_ble_eq_true rfl, by assumption⟩ | decide) ?_; conv => whnf)
  (refine And.intro (by first | omega | assumption | rfl | exact zin_and | exact ⟨zin_and, by omega⟩ | exact ⟨by omega, zin_and⟩ | exact Nat.le_of_ble_eq_true rfl | exact ⟨Nat.le_of_ble_eq_true rfl, rfl⟩ | exact ⟨Nat.le_of_ble_eq_true rfl, by assumption⟩ | decide) ?_; conv => whnf)
  (refine m_in ht (by omega) (by omega) ?_; conv => whnf)
  refine And.intro ⟨fun _ => by split <;> omega, fun q => by omega⟩ ?_
  refine zQe hQ ?_
  split <;> split <;> omega
theorem m_sum {d a n : Nat} {f : Int} {set : Nat} {g : zM} {Q : zP} (ha : zkd a = (1, 2845)) (hn : g a 0 = n) (hn12 : n ≤ 12) (hf0 : 0 ≤ f) (hf : f ≤ 2800) (hs : set < 2 ^ 31) (hQ : Q (some (zI (bsum (g a) f set n))) g) : zC (d + 1) 98 [zR a, zI f, zI set] g Q := by
  have hk1 : (zkd a).1 = 1 := by rw [ha]
  have hk2 : (zkd a).2 = 2845 := by rw [ha]
  refine zC.go zm_X6_sum ⟨rfl, rfl⟩ rfl ?_
  (refine zW.upto (zC_om _) 4 (fun K hK => ?_); conv => whnf)
  refine hK _ _ _ _ (zdown (P := fun t => zW zX6_sum (zC d) Q 4 [zR a, zI f, zI set, zI (bsum (g a) f set t), zI t] [] g) n ?_ ?_)
  · (refine zW.go (zC_om _) (fun K hK => ?_); conv => whnf)
    (refine And.intro (by first | omega | assumption | rfl | exact zin_and | exact ⟨zin_and, by omega⟩ | exact ⟨by omega, zin_and⟩ | exact Nat.le_of_ble_eq_true rfl | exact ⟨Nat.le_of_ble_eq_true rfl, rfl⟩ | exact ⟨Nat.le_of_ble_eq_true rfl, by assumption⟩ | decide) ?_; conv => whnf)
    (refine And.intro (by first | omega | assumption | rfl | exact zin_and | exact ⟨zin_and, by omega⟩ | exact ⟨by omega, zin_and⟩ | exact Nat.le_of_ble_eq_true rfl | exact ⟨Nat.le_of_ble_eq_true rfl, rfl⟩ | exact ⟨Nat.le_of_ble_eq_true rfl, by assumption⟩ | decide) ?_; conv => whnf)
    (refine And.intro (fun h => ?_) (fun h => by omega); conv => whnf)
    (repeat' first | (refine hK _ _ _ _ (zW.go (zC_om _) (fun K hK => ?_)); conv => whnf) | (refine And.intro (by first | omega | assumption | rfl | exact zin_and | exact ⟨zin_and, by omega⟩ | exact ⟨by omega, zin_and⟩ | exact Nat.le_of_ble_eq_true rfl | exact ⟨Nat.le_of_ble_eq_true rfl, rfl⟩ | exact ⟨Nat.le_of_ble_eq_true rfl, by assumption⟩ | decide) ?_; conv => whnf) | (refine And.intro (fun h => ?_) (fun h => ?_) <;> conv => whnf) | (intro h; conv => whnf))
    exact hQ
  · intro t ht hi
    have e0 : bsum (g a) f set (t + 1) = bsum (g a) f set t + if set.testBit t then g a (f + t) else 0 := rfl
    have hi : zW zX6_sum (zC d) Q 4 [zR a, zI f, zI set, zI (bsum (g a) f set (t + 1)), zI (t + 1 : Nat)] [] g := hi
    rw [e0] at hi
    (refine zW.go (zC_om _) (fun K hK => ?_); conv => whnf)
    (refine And.intro (by first | omega | assumption | rfl | exact zin_and | exact ⟨zin_and, by omega⟩ | exact ⟨by omega, zin_and⟩ | exact Nat.le_of_ble_eq_true rfl | exact ⟨Nat.le_of_ble_eq_true rfl, rfl⟩ | exact ⟨Nat.le_of_ble_eq_true rfl, by assumption⟩ | decide) ?_; conv => whnf)
    (refine And.intro (by first | omega | assumption | rfl | exact zin_and | exact ⟨zin_and, by omega⟩ | exact ⟨by omega, zin_and⟩ | exact Nat.le_of_ble_eq_true rfl | exact ⟨Nat.le_of_ble_eq_true rfl, rfl⟩ | exact ⟨Nat.le_of_ble_eq_true rfl, by assumption⟩ | decide) ?_; conv => whnf)
    (refine And.intro (fun h => by omega) (fun h => ?_); conv => whnf)
    rw [zbit hs (by omega)]
    by_cases hbit : set.testBit t = true
    · rw [if_pos hbit] at hi ⊢
      (refine And.intro (by first | omega | assumption | rfl | exact zin_and | exact ⟨zin_and, by omega⟩ | exact ⟨by omega, zin_and⟩ | exact Nat.le_of_ble_eq_true rfl | exact ⟨Nat.le_of_ble_eq_true rfl, rfl⟩ | exact ⟨Nat.le_of_ble_eq_true rfl, by assumption⟩ | decide) ?_; conv => whnf)
      (refine And.intro (fun h => by omega) (fun h => ?_); conv => whnf)
      (refine And.intro (by first | omega | assumption | rfl | exact zin_and | exact ⟨zin_and, by omega⟩ | exact ⟨by omega, zin_and⟩ | exact Nat.le_of_ble_eq_true rfl | exact ⟨Nat.le_of_ble_eq_true rfl, rfl⟩ | exact ⟨Nat.le_of_ble_eq_true rfl, by assumption⟩ | decide) ?_; conv => whnf)
      (refine hK _ _ _ _ (zW.go (zC_om _) (fun K hK => ?_)); conv => whnf)
      exact hK _ _ _ _ hi
    · rw [if_neg hbit] at hi ⊢
      (refine And.intro (by first | omega | assumption | rfl | exact zin_and | exact ⟨zin_and, by omega⟩ | exact ⟨by omega, zin_and⟩ | exact Nat.le_of_ble_eq_true rfl | exact ⟨Nat.le_of_ble_eq_true rfl, rfl⟩ | exact ⟨Nat.le_of_ble_eq_true rfl, by assumption⟩ | decide) ?_; conv => whnf)
      (refine And.intro (fun h => ?_) (fun h => by omega); conv => whnf)
      (refine hK _ _ _ _ (zW.go (zC_om _) (fun K hK => ?_)); conv => whnf)
      exact hK _ _ _ _ hi
def mpb (s : zS) (n set : Nat) : Nat → Bool
  | 0 => decide (bsum s 21 set n ≤ s 1)
  | t + 1 => mpb s n set t && (!set.testBit t || decide (mb s t &&& set = 0))
/-- whether the things of a set fit and do not bar each other -/
abbrev mposs (s : zS) (n set : Nat) : Bool := mpb s n set n
theorem m_isPossible {d a n set : Nat} {g : zM} {Q : zP} (ha : zkd a = (1, 2845)) (hok : mok (g a) n) (hs : set < 2 ^ 31) (hQ : Q (some (zI (zb (mposs (g a) n set)))) g) : zC (d + 2) 99 [zR a, zI set] g Q := by
  have hk1 : (zkd a).1 = 1 := by rw [ha]
  have hk2 : (zkd a).2 = 2845 := by rw [ha]
  obtain ⟨hn, hn12, hroom, hth⟩ := id hok
  have hsv := msumv (set := set) hok
  refine zC.go zm_X6_isPossible ⟨rfl, rfl⟩ rfl ?_
  have loop : zW zX6_isPossible (zC (d + 1)) Q 14 [zR a, zI set, zI (zb (mpb (g a) n set 0)), zI 0] [] g := by
    refine (zdown (P := fun t => zW zX6_isPossible (zC (d + 1)) Q 14 [zR a, zI set, zI (zb (mpb (g a) n set t)), zI t] [] g) n ?_ ?_)
    · (refine zW.go (zC_om _) (fun K hK => ?_); conv => whnf)
      (refine And.intro (by first | omega | assumption | rfl | exact zin_and | exact ⟨zin_and, by omega⟩ | exact ⟨by omega, zin_and⟩ | exact Nat.le_of_ble_eq_true rfl | exact ⟨Nat.le_of_ble_eq_true rfl, rfl⟩ | exact ⟨Nat.le_of_ble_eq_true rfl, by assumption⟩ | decide) ?_; conv => whnf)
      (refine And.intro (by first | omega | assumption | rfl | exact zin_and | exact ⟨zin_and, by omega⟩ | exact ⟨by omega, zin_and⟩ | exact Nat.le_of_ble_eq_true rfl | exact ⟨Nat.le_of_ble_eq_true rfl, rfl⟩ | exact ⟨Nat.le_of_ble_eq_true rfl, by assumption⟩ | decide) ?_; conv => whnf)
      (refine And.intro (fun h => ?_) (fun h => by omega); conv => whnf)
      (refine hK _ _ _ _ (zW.go (zC_om _) (fun K hK => ?_)); conv => whnf)
      refine And.intro ⟨fun _ => by unfold zb; split <;> omega, fun q => by omega⟩ ?_
      exact hQ
    · intro t ht hi
      obtain ⟨-, -, hbt⟩ := hth t ht
      have hmb := mb_eq hok ht
      have hml := mb_lt hok ht
      have hi : zW zX6_isPossible (zC (d + 1)) Q 14 [zR a, zI set, zI (zb (mpb (g a) n set (t + 1))), zI (t + 1 : Nat)] [] g := hi
      have e0 : mpb (g a) n set (t + 1) = (mpb (g a) n set t && (!set.testBit t || decide (mb (g a) t &&& set = 0))) := rfl
      rw [e0] at hi
      (refine zW.go (zC_om _) (fun K hK => ?_); conv => whnf)
      (refine And.intro (by first | omega | assumption | rfl | exact zin_and | exact ⟨zin_and, by omega⟩ | exact ⟨by omega, zin_and⟩ | exact Nat.le_of_ble_eq_true rfl | exact ⟨Nat.le_of_ble_eq_true rfl, rfl⟩ | exact ⟨Nat.le_of_ble_eq_true rfl, by assumption⟩ | decide) ?_; conv => whnf)
      (refine And.intro (by first | omega | assumption | rfl | exact zin_and | exact ⟨zin_and, by omega⟩ | exact ⟨by omega, zin_and⟩ | exact Nat.le_of_ble_eq_true rfl | exact ⟨Nat.le_of_ble_eq_true rfl, rfl⟩ | exact ⟨Nat.le_of_ble_eq_true rfl, by assumption⟩ | decide) ?_; conv => whnf)
      (refine And.intro (fun h => by omega) (fun h => ?_); conv => whnf)
      by_cases h1 : mpb (g a) n set t = true
      · rw [h1] at hi ⊢
        (refine And.intro (by first | omega | assumption | rfl | exact zin_and | exact ⟨zin_and, by omega⟩ | exact ⟨by omega, zin_and⟩ | exact Nat.le_of_ble_eq_true rfl | exact ⟨Nat.le_of_ble_eq_true rfl, rfl⟩ | exact ⟨Nat.le_of_ble_eq_true rfl, by assumption⟩ | decide) ?_; conv => whnf)
        refine And.intro (fun h => absurd h (by decide)) (fun h => ?_)
        conv => whnf
        rw [zbit hs (by omega)]
        by_cases hbit : set.testBit t = true
        · rw [hbit] at hi
          rw [if_pos hbit]
          (refine And.intro (by first | omega | assumption | rfl | exact zin_and | exact ⟨zin_and, by omega⟩ | exact ⟨by omega, zin_and⟩ | exact Nat.le_of_ble_eq_true rfl | exact ⟨Nat.le_of_ble_eq_true rfl, rfl⟩ | exact ⟨Nat.le_of_ble_eq_true rfl, by assumption⟩ | decide) ?_; conv => whnf)
          (refine And.intro (fun h => by omega) (fun h => ?_); conv => whnf)
          (refine And.intro (by first | omega | assumption | rfl | exact zin_and | exact ⟨zin_and, by omega⟩ | exact ⟨by omega, zin_and⟩ | exact Nat.le_of_ble_eq_true rfl | exact ⟨Nat.le_of_ble_eq_true rfl, rfl⟩ | exact ⟨Nat.le_of_ble_eq_true rfl, by assumption⟩ | decide) ?_; conv => whnf)
          rw [hmb, zand_nat (by omega) hs]
          have hle : mb (g a) t &&& set ≤ mb (g a) t := Nat.and_le_left
          (refine And.intro (by first | omega | assumption | rfl | exact zin_and | exact ⟨zin_and, by omega⟩ | exact ⟨by omega, zin_and⟩ | exact Nat.le_of_ble_eq_true rfl | exact ⟨Nat.le_of_ble_eq_true rfl, rfl⟩ | exact ⟨Nat.le_of_ble_eq_true rfl, by assumption⟩ | decide) ?_; conv => whnf)
          by_cases hz : mb (g a) t &&& set = 0
          · rw [hz] at hi ⊢
            (refine And.intro (fun h => by omega) (fun h => ?_); conv => whnf)
            (refine hK _ _ _ _ (zW.go (zC_om _) (fun K hK => ?_)); conv => whnf)
            exact hK _ _ _ _ hi
          · have hz2 : decide (mb (g a) t &&& set = 0) = false := by simpa using hz
            rw [hz2] at hi
            (refine And.intro (fun h => ?_) (fun h => by omega); conv => whnf)
            (refine hK _ _ _ _ (zW.go (zC_om _) (fun K hK => ?_)); conv => whnf)
            exact hK _ _ _ _ hi
        · have hbit2 : set.testBit t = false := by simpa using hbit
          rw [hbit2] at hi
          rw [if_neg hbit]
          (refine And.intro (by first | omega | assumption | rfl | exact zin_and | exact ⟨zin_and, by omega⟩ | exact ⟨by omega, zin_and⟩ | exact Nat.le_of_ble_eq_true rfl | exact ⟨Nat.le_of_ble_eq_true rfl, rfl⟩ | exact ⟨Nat.le_of_ble_eq_true rfl, by assumption⟩ | decide) ?_; conv => whnf)
          (refine And.intro (fun h => ?_) (fun h => by omega); conv => whnf)
          (refine hK _ _ _ _ (zW.go (zC_om _) (fun K hK => ?_)); conv => whnf)
          (refine hK _ _ _ _ (zW.go (zC_om _) (fun K hK => ?_)); conv => whnf)
          exact hK _ _ _ _ hi
      · have h1 : mpb (g a) n set t = false := by simpa using h1
        rw [h1] at hi ⊢
        (refine And.intro (by first | omega | assumption | rfl | exact zin_and | exact ⟨zin_and, by omega⟩ | exact ⟨by omega, zin_and⟩ | exact Nat.le_of_ble_eq_true rfl | exact ⟨Nat.le_of_ble_eq_true rfl, rfl⟩ | exact ⟨Nat.le_of_ble_eq_true rfl, by assumption⟩ | decide) ?_; conv => whnf)
        refine And.intro (fun h => ?_) (fun h => absurd rfl h)
        (refine hK _ _ _ _ (zW.go (zC_om _) (fun K hK => ?_)); conv => whnf)
        exact hK _ _ _ _ hi
  (refine zW.go (zC_om _) (fun K hK => ?_); conv => whnf)
  (refine And.intro (by first | omega | assumption | rfl | exact zin_and | exact ⟨zin_and, by omega⟩ | exact ⟨by omega, zin_and⟩ | exact Nat.le_of_ble_eq_true rfl | exact ⟨Nat.le_of_ble_eq_true rfl, rfl⟩ | exact ⟨Nat.le_of_ble_eq_true rfl, by assumption⟩ | decide) ?_; conv => whnf)
  (refine m_sum ha hn hn12 (by omega) (by omega) hs ?_; conv => whnf)
  (refine And.intro (by first | omega | assumption | rfl | exact zin_and | exact ⟨zin_and, by omega⟩ | exact ⟨by omega, zin_and⟩ | exact Nat.le_of_ble_eq_true rfl | exact ⟨Nat.le_of_ble_eq_true rfl, rfl⟩ | exact ⟨Nat.le_of_ble_eq_true rfl, by assumption⟩ | decide) ?_; conv => whnf)
  (refine And.intro (by first | omega | assumption | rfl | exact zin_and | exact ⟨zin_and, by omega⟩ | exact ⟨by omega, zin_and⟩ | exact Nat.le_of_ble_eq_true rfl | exact ⟨Nat.le_of_ble_eq_true rfl, rfl⟩ | exact ⟨Nat.le_of_ble_eq_true rfl, by assumption⟩ | decide) ?_; conv => whnf)
  by_cases hle : bsum (g a) 21 set n ≤ g a 1
  · have e : zb (mpb (g a) n set 0) = 1 := by simp [mpb, zb, hle]
    rw [e] at loop
    (refine And.intro (fun h => by omega) (fun h => ?_); conv => whnf)
    (refine hK _ _ _ _ ?_)
    (refine zW.upto (zC_om _) 3 (fun K hK => ?_); conv => whnf)
    exact hK _ _ _ _ loop
  · have e : zb (mpb (g a) n set 0) = 0 := by simp [mpb, zb, hle]
    rw [e] at loop
    (refine And.intro (fun h => ?_) (fun h => by omega); conv => whnf)
    (refine hK _ _ _ _ ?_)
    (refine zW.upto (zC_om _) 4 (fun K hK => ?_); conv => whnf)
    exact hK _ _ _ _ loop
/-- whether t is free beside the things of two sets -/
def mfc (s : zS) (n i o t : Nat) : Bool := !(i ||| o).testBit t && (decide (mb s t &&& i = 0) && decide (s (21 + t) ≤ s 1 - bsum s 21 i n))
def mfr (s : zS) (n i o : Nat) : Nat → Nat
  | 0 => 0
  | t + 1 => mfr s n i o t ||| (if mfc s n i o t then 2 ^ t else 0)
/-- the free things -/
abbrev mfree (s : zS) (n i o : Nat) : Nat := mfr s n i o n
theorem mfr_bit (s : zS) (n i o : Nat) : ∀ m t : Nat, (mfr s n i o m).testBit t = (decide (t < m) && mfc s n i o t)
  | 0, t => by simp [mfr]
  | m + 1, t => by
    show (mfr s n i o m ||| (if mfc s n i o m then 2 ^ m else 0)).testBit t = _
    rw [Nat.testBit_or, mfr_bit s n i o m t]
    by_cases hm : t = m
    · subst hm
      cases h : mfc s n i o t <;> simp
    · have h1 : (if mfc s n i o m then 2 ^ m else 0).testBit t = false := by
        split
        · rw [Nat.testBit_two_pow]; simp; omega
        · simp
      rw [h1, Bool.or_false]
      have h2 : decide (t < m) = decide (t < m + 1) := by
        by_cases q : t < m
        · simp [q]; omega
        · have : ¬ t < m + 1 := by omega
          simp [q, this]
      rw [h2]
theorem mfr_lt (s : zS) (n i o m : Nat) : mfr s n i o m < 2 ^ m := by
  refine Nat.lt_pow_two_of_testBit _ (fun t ht => ?_)
  rw [mfr_bit]
  have : ¬ t < m := by omega
  simp [this]
theorem zor_0 {a : Nat} (h : a < 2 ^ 31) : zor (a : Int) 0 = (a : Int) := by
  have := @zor_nat a 0 h (by decide)
  rw [Nat.or_zero] at this
  exact this
theorem m_free {d a n i o : Nat} {g : zM} {Q : zP} (ha : zkd a = (1, 2845)) (hok : mok (g a) n) (hi31 : i < 2 ^ 31) (ho31 : o < 2 ^ 31) (hQ : Q (some (zI (mfree (g a) n i o : Nat))) g) : zC (d + 2) 100 [zR a, zI i, zI o] g Q := by
  have hk1 : (zkd a).1 = 1 := by rw [ha]
  have hk2 : (zkd a).2 = 2845 := by rw [ha]
  obtain ⟨hn, hn12, hroom, hth⟩ := id hok
  have hsv := msumv (set := i) hok
  refine zC.go zm_X6_free ⟨rfl, rfl⟩ rfl ?_
  have loop : ∀ x : zV, zW zX6_free (zC (d + 1)) Q 13 [zR a, zI i, zI o, zI (mfr (g a) n i o 0 : Nat), zI (g a 1 - bsum (g a) 21 i n), zI 0, x] [] g := by
    refine (zdown (P := fun t => ∀ x : zV, zW zX6_free (zC (d + 1)) Q 13 [zR a, zI i, zI o, zI (mfr (g a) n i o t : Nat), zI (g a 1 - bsum (g a) 21 i n), zI t, x] [] g) n ?_ ?_)
    · intro x
      (refine zW.go (zC_om _) (fun K hK => ?_); conv => whnf)
      (refine And.intro (by first | omega | assumption | rfl | exact zin_and | exact ⟨zin_and, by omega⟩ | exact ⟨by omega, zin_and⟩ | exact Nat.le_of_ble_eq_true rfl | exact ⟨Nat.le_of_ble_eq_true rfl, rfl⟩ | exact ⟨Nat.le_of_ble_eq_true rfl, by assumption⟩ | decide) ?_; conv => whnf)
      (refine And.intro (by first | omega | assumption | rfl | exact zin_and | exact ⟨zin_and, by omega⟩ | exact ⟨by omega, zin_and⟩ | exact Nat.le_of_ble_eq_true rfl | exact ⟨Nat.le_of_ble_eq_true rfl, rfl⟩ | exact ⟨Nat.le_of_ble_eq_true rfl, by assumption⟩ | decide) ?_; conv => whnf)
      (refine And.intro (fun h => ?_) (fun h => by omega); conv => whnf)
      (repeat' first | (refine hK _ _ _ _ (zW.go (zC_om _) (fun K hK => ?_)); conv => whnf) | (refine And.intro (by first | omega | assumption | rfl | exact zin_and | exact ⟨zin_and, by omega⟩ | exact ⟨by omega, zin_and⟩ | exact Nat.le_of_ble_eq_true rfl | exact ⟨Nat.le_of_ble_eq_true rfl, rfl⟩ | exact ⟨Nat.le_of_ble_eq_true rfl, by assumption⟩ | decide) ?_; conv => whnf) | (refine And.intro (fun h => ?_) (fun h => ?_) <;> conv => whnf) | (intro h; conv => whnf))
      exact hQ
    · intro t ht hi x
      obtain ⟨-, hvt, hbt⟩ := hth t ht
      have hmb := mb_eq hok ht
      have hml := mb_lt hok ht
      have hlt := mfr_lt (g a) n i o t
      have h2t : 2 ^ t < 2 ^ 31 := Nat.pow_lt_pow_right (by decide) (by omega)
      have h2 : 2 ^ t ≤ 4096 := zp12 (by omega)
      have e0 : mfr (g a) n i o (t + 1) = mfr (g a) n i o t ||| (if mfc (g a) n i o t then 2 ^ t else 0) := rfl
      have j : ∀ c : Bool, mfc (g a) n i o t = c → zW zX6_free (zC (d + 1)) Q 44 [zR a, zI i, zI o, zI (mfr (g a) n i o t : Nat), zI (g a 1 - bsum (g a) 21 i n), zI t, x] [zI (zb c)] g := by
        intro c hc
        rw [hc] at e0
        cases c with
        | true =>
          rw [zb_t]
          have hi := hi (zI 1)
          rw [e0, if_pos rfl] at hi
          (refine zW.go (zC_om _) (fun K hK => ?_); conv => whnf)
          (refine And.intro (by first | omega | assumption | rfl | exact zin_and | exact ⟨zin_and, by omega⟩ | exact ⟨by omega, zin_and⟩ | exact Nat.le_of_ble_eq_true rfl | exact ⟨Nat.le_of_ble_eq_true rfl, rfl⟩ | exact ⟨Nat.le_of_ble_eq_true rfl, by assumption⟩ | decide) ?_; conv => whnf)
          (refine And.intro (fun h => by omega) (fun h => ?_); conv => whnf)
          (refine hK _ _ _ _ (zW.go (zC_om _) (fun K hK => ?_)); conv => whnf)
          rw [zone_shl (by omega), zor_nat (by omega) h2t]
          exact hK _ _ _ _ hi
        | false =>
          rw [zb_f]
          have hi := hi (zI 0)
          rw [e0, if_neg (by decide), Nat.or_zero] at hi
          (refine zW.go (zC_om _) (fun K hK => ?_); conv => whnf)
          (refine And.intro (by first | omega | assumption | rfl | exact zin_and | exact ⟨zin_and, by omega⟩ | exact ⟨by omega, zin_and⟩ | exact Nat.le_of_ble_eq_true rfl | exact ⟨Nat.le_of_ble_eq_true rfl, rfl⟩ | exact ⟨Nat.le_of_ble_eq_true rfl, by assumption⟩ | decide) ?_; conv => whnf)
          (refine And.intro (fun h => ?_) (fun h => by omega); conv => whnf)
          (refine hK _ _ _ _ (zW.go (zC_om _) (fun K hK => ?_)); conv => whnf)
          rw [zor_0 (by omega)]
          exact hK _ _ _ _ hi
      have hor : i ||| o < 2 ^ 31 := Nat.or_lt_two_pow hi31 ho31
      (refine zW.go (zC_om _) (fun K hK => ?_); conv => whnf)
      (refine And.intro (by first | omega | assumption | rfl | exact zin_and | exact ⟨zin_and, by omega⟩ | exact ⟨by omega, zin_and⟩ | exact Nat.le_of_ble_eq_true rfl | exact ⟨Nat.le_of_ble_eq_true rfl, rfl⟩ | exact ⟨Nat.le_of_ble_eq_true rfl, by assumption⟩ | decide) ?_; conv => whnf)
      (refine And.intro (by first | omega | assumption | rfl | exact zin_and | exact ⟨zin_and, by omega⟩ | exact ⟨by omega, zin_and⟩ | exact Nat.le_of_ble_eq_true rfl | exact ⟨Nat.le_of_ble_eq_true rfl, rfl⟩ | exact ⟨Nat.le_of_ble_eq_true rfl, by assumption⟩ | decide) ?_; conv => whnf)
      (refine And.intro (fun h => by omega) (fun h => ?_); conv => whnf)
      rw [zor_nat hi31 ho31, zbit hor (by omega)]
      by_cases hbit : (i ||| o).testBit t = true
      · rw [if_pos hbit]
        (refine And.intro (by first | omega | assumption | rfl | exact zin_and | exact ⟨zin_and, by omega⟩ | exact ⟨by omega, zin_and⟩ | exact Nat.le_of_ble_eq_true rfl | exact ⟨Nat.le_of_ble_eq_true rfl, rfl⟩ | exact ⟨Nat.le_of_ble_eq_true rfl, by assumption⟩ | decide) ?_; conv => whnf)
        (refine And.intro (fun h => ?_) (fun h => by omega); conv => whnf)
        (refine hK _ _ _ _ ?_)
        (refine zW.upto (zC_om _) 1 (fun K hK => ?_); conv => whnf)
        exact hK _ _ _ _ (j false (by simp [mfc, hbit]))
      · have hbit2 : (i ||| o).testBit t = false := by simpa using hbit
        rw [if_neg hbit]
        (refine And.intro (by first | omega | assumption | rfl | exact zin_and | exact ⟨zin_and, by omega⟩ | exact ⟨by omega, zin_and⟩ | exact Nat.le_of_ble_eq_true rfl | exact ⟨Nat.le_of_ble_eq_true rfl, rfl⟩ | exact ⟨Nat.le_of_ble_eq_true rfl, by assumption⟩ | decide) ?_; conv => whnf)
        (refine And.intro (fun h => by omega) (fun h => ?_); conv => whnf)
        (refine And.intro (by first | omega | assumption | rfl | exact zin_and | exact ⟨zin_and, by omega⟩ | exact ⟨by omega, zin_and⟩ | exact Nat.le_of_ble_eq_true rfl | exact ⟨Nat.le_of_ble_eq_true rfl, rfl⟩ | exact ⟨Nat.le_of_ble_eq_true rfl, by assumption⟩ | decide) ?_; conv => whnf)
        rw [hmb, zand_nat (by omega) hi31]
        have hle : mb (g a) t &&& i ≤ mb (g a) t := Nat.and_le_left
        (refine And.intro (by first | omega | assumption | rfl | exact zin_and | exact ⟨zin_and, by omega⟩ | exact ⟨by omega, zin_and⟩ | exact Nat.le_of_ble_eq_true rfl | exact ⟨Nat.le_of_ble_eq_true rfl, rfl⟩ | exact ⟨Nat.le_of_ble_eq_true rfl, by assumption⟩ | decide) ?_; conv => whnf)
        by_cases hz : mb (g a) t &&& i = 0
        · rw [hz]
          (refine And.intro (fun h => by omega) (fun h => ?_); conv => whnf)
          (refine And.intro (by first | omega | assumption | rfl | exact zin_and | exact ⟨zin_and, by omega⟩ | exact ⟨by omega, zin_and⟩ | exact Nat.le_of_ble_eq_true rfl | exact ⟨Nat.le_of_ble_eq_true rfl, rfl⟩ | exact ⟨Nat.le_of_ble_eq_true rfl, by assumption⟩ | decide) ?_; conv => whnf)
          (refine And.intro (by first | omega | assumption | rfl | exact zin_and | exact ⟨zin_and, by omega⟩ | exact ⟨by omega, zin_and⟩ | exact Nat.le_of_ble_eq_true rfl | exact ⟨Nat.le_of_ble_eq_true rfl, rfl⟩ | exact ⟨Nat.le_of_ble_eq_true rfl, by assumption⟩ | decide) ?_; conv => whnf)
          by_cases hw : g a (21 + t) ≤ g a 1 - bsum (g a) 21 i n
          · (refine And.intro (fun h => by omega) (fun h => ?_); conv => whnf)
            exact hK _ _ _ _ (j true (by simp [mfc, hbit2, hz, hw]))
          · (refine And.intro (fun h => ?_) (fun h => by omega); conv => whnf)
            (refine hK _ _ _ _ ?_)
            (refine zW.upto (zC_om _) 1 (fun K hK => ?_); conv => whnf)
            exact hK _ _ _ _ (j false (by simp [mfc, hw]))
        · (refine And.intro (fun h => ?_) (fun h => by omega); conv => whnf)
          (refine hK _ _ _ _ ?_)
          (refine zW.upto (zC_om _) 1 (fun K hK => ?_); conv => whnf)
          exact hK _ _ _ _ (j false (by simp [mfc, hz]))
  (refine zW.upto (zC_om _) 13 (fun K hK => ?_); conv => whnf)
  (refine And.intro (by first | omega | assumption | rfl | exact zin_and | exact ⟨zin_and, by omega⟩ | exact ⟨by omega, zin_and⟩ | exact Nat.le_of_ble_eq_true rfl | exact ⟨Nat.le_of_ble_eq_true rfl, rfl⟩ | exact ⟨Nat.le_of_ble_eq_true rfl, by assumption⟩ | decide) ?_; conv => whnf)
  (refine And.intro (by first | omega | assumption | rfl | exact zin_and | exact ⟨zin_and, by omega⟩ | exact ⟨by omega, zin_and⟩ | exact Nat.le_of_ble_eq_true rfl | exact ⟨Nat.le_of_ble_eq_true rfl, rfl⟩ | exact ⟨Nat.le_of_ble_eq_true rfl, by assumption⟩ | decide) ?_; conv => whnf)
  (refine m_sum ha hn hn12 (by omega) (by omega) hi31 ?_; conv => whnf)
  exact hK _ _ _ _ (loop _)
