/-! the reference: the order, the split, the bound, the heel, the first of a set -/
theorem zmul_bd {x y : Int} (h1 : 0 ≤ x ∧ x ≤ 99) (h2 : 0 ≤ y ∧ y ≤ 50) : 0 ≤ x * y ∧ x * y ≤ 4950 := by
  refine ⟨Int.mul_nonneg h1.1 h2.1, ?_⟩
  have a := Int.mul_le_mul_of_nonneg_right h1.2 h2.1
  omega
theorem m_place {d a n t : Nat} {g : zM} {Q : zP} (ha : zkd a = (1, 2845)) (hok : mok (g a) n) (ht : t < n) (hQ : Q (some (zI (mpl (g a) n t : Nat))) g) : zC (d + 1) 96 [zR a, zI t] g Q := by
  have hk1 : (zkd a).1 = 1 := by rw [ha]
  have hk2 : (zkd a).2 = 2845 := by rw [ha]
  obtain ⟨hn, hn12, hroom, hth⟩ := id hok
  refine zC.go zm_X6_place ⟨rfl, rfl⟩ rfl ?_
  have loop : ∀ x y : zV, zW zX6_place (zC d) Q 4 [zR a, zI t, zI (zcnt 0 (fun k => mah (g a) k t) : Nat), zI 0, x, y] [] g := by
    refine (zdown (P := fun k => ∀ x y : zV, zW zX6_place (zC d) Q 4 [zR a, zI t, zI (zcnt k (fun k => mah (g a) k t) : Nat), zI k, x, y] [] g) n ?_ ?_)
    · intro x y
      (refine zW.go (zC_om _) (fun K hK => ?_); conv => whnf)
      (refine And.intro (by first | omega | assumption | rfl | exact zin_and | exact ⟨zin_and, by omega⟩ | exact ⟨by omega, zin_and⟩ | exact Nat.le_of_ble_eq_true rfl | exact ⟨Nat.le_of_ble_eq_true rfl, rfl⟩ | exact ⟨Nat.le_of_ble_eq_true rfl, by assumption⟩ | decide) ?_; conv => whnf)
      (refine And.intro (by first | omega | assumption | rfl | exact zin_and | exact ⟨zin_and, by omega⟩ | exact ⟨by omega, zin_and⟩ | exact Nat.le_of_ble_eq_true rfl | exact ⟨Nat.le_of_ble_eq_true rfl, rfl⟩ | exact ⟨Nat.le_of_ble_eq_true rfl, by assumption⟩ | decide) ?_; conv => whnf)
      (refine And.intro (fun h => ?_) (fun h => by omega); conv => whnf)
      (repeat' first | (refine hK _ _ _ _ (zW.go (zC_om _) (fun K hK => ?_)); conv => whnf) | (refine And.intro (by first | omega | assumption | rfl | exact zin_and | exact ⟨zin_and, by omega⟩ | exact ⟨by omega, zin_and⟩ | exact Nat.le_of_ble_eq_true rfl | exact ⟨Nat.le_of_ble_eq_true rfl, rfl⟩ | exact ⟨Nat.le_of_ble_eq_true rfl, by assumption⟩ | decide) ?_; conv => whnf) | (refine And.intro (fun h => ?_) (fun h => ?_) <;> conv => whnf) | (intro h; conv => whnf))
      exact hQ
    · intro k hk hi x y
      obtain ⟨hwt, hvt, -⟩ := hth t ht
      obtain ⟨hwk, hvk, -⟩ := hth k hk
      have p1 := zmul_bd (x := g a (9 + k)) (y := g a (21 + t)) (by omega) (by omega)
      have p2 := zmul_bd (x := g a (9 + t)) (y := g a (21 + k)) (by omega) (by omega)
      have hi := hi (zI (g a (9 + k) * g a (21 + t))) (zI (g a (9 + t) * g a (21 + k)))
      have e0 : zcnt (k + 1) (fun k => mah (g a) k t) = zcnt k (fun k => mah (g a) k t) + (if mah (g a) k t then 1 else 0) := rfl
      have j : ∀ c : Bool, mah (g a) k t = c → zW zX6_place (zC d) Q 46 [zR a, zI t, zI (zcnt k (fun k => mah (g a) k t) : Nat), zI k, zI (g a (9 + k) * g a (21 + t)), zI (g a (9 + t) * g a (21 + k))] [zI (zb c), zI (zcnt k (fun k => mah (g a) k t) : Nat)] g := by
        intro c hc
        rw [hc] at e0
        have e1 : ((zcnt (k + 1) (fun k => mah (g a) k t) : Nat) : Int) = (zcnt k (fun k => mah (g a) k t) : Nat) + zb c := by
          rw [e0]
          cases c <;> simp [zb]
        rw [e1] at hi
        (refine zW.go (zC_om _) (fun K hK => ?_); conv => whnf)
        exact hK _ _ _ _ hi
      (refine zW.go (zC_om _) (fun K hK => ?_); conv => whnf)
      (refine And.intro (by first | omega | assumption | rfl | exact zin_and | exact ⟨zin_and, by omega⟩ | exact ⟨by omega, zin_and⟩ | exact Nat.le_of_ble_eq_true rfl | exact ⟨Nat.le_of_ble_eq_true rfl, rfl⟩ | exact ⟨Nat.le_of_ble_eq_true rfl, by assumption⟩ | decide) ?_; conv => whnf)
      (refine And.intro (by first | omega | assumption | rfl | exact zin_and | exact ⟨zin_and, by omega⟩ | exact ⟨by omega, zin_and⟩ | exact Nat.le_of_ble_eq_true rfl | exact ⟨Nat.le_of_ble_eq_true rfl, rfl⟩ | exact ⟨Nat.le_of_ble_eq_true rfl, by assumption⟩ | decide) ?_; conv => whnf)
      (refine And.intro (fun h => by omega) (fun h => ?_); conv => whnf)
      (refine And.intro (by first | omega | assumption | rfl | exact zin_and | exact ⟨zin_and, by omega⟩ | exact ⟨by omega, zin_and⟩ | exact Nat.le_of_ble_eq_true rfl | exact ⟨Nat.le_of_ble_eq_true rfl, rfl⟩ | exact ⟨Nat.le_of_ble_eq_true rfl, by assumption⟩ | decide) ?_; conv => whnf)
      (refine And.intro (by first | omega | assumption | rfl | exact zin_and | exact ⟨zin_and, by omega⟩ | exact ⟨by omega, zin_and⟩ | exact Nat.le_of_ble_eq_true rfl | exact ⟨Nat.le_of_ble_eq_true rfl, rfl⟩ | exact ⟨Nat.le_of_ble_eq_true rfl, by assumption⟩ | decide) ?_; conv => whnf)
      (refine And.intro (by first | omega | assumption | rfl | exact zin_and | exact ⟨zin_and, by omega⟩ | exact ⟨by omega, zin_and⟩ | exact Nat.le_of_ble_eq_true rfl | exact ⟨Nat.le_of_ble_eq_true rfl, rfl⟩ | exact ⟨Nat.le_of_ble_eq_true rfl, by assumption⟩ | decide) ?_; conv => whnf)
      (refine And.intro (by first | omega | assumption | rfl | exact zin_and | exact ⟨zin_and, by omega⟩ | exact ⟨by omega, zin_and⟩ | exact Nat.le_of_ble_eq_true rfl | exact ⟨Nat.le_of_ble_eq_true rfl, rfl⟩ | exact ⟨Nat.le_of_ble_eq_true rfl, by assumption⟩ | decide) ?_; conv => whnf)
      (refine And.intro (by first | omega | assumption | rfl | exact zin_and | exact ⟨zin_and, by omega⟩ | exact ⟨by omega, zin_and⟩ | exact Nat.le_of_ble_eq_true rfl | exact ⟨Nat.le_of_ble_eq_true rfl, rfl⟩ | exact ⟨Nat.le_of_ble_eq_true rfl, by assumption⟩ | decide) ?_; conv => whnf)
      generalize hA : g a (9 + k) * g a (21 + t) = A at *
      generalize hB : g a (9 + t) * g a (21 + k) = B at *
      have hmah : mah (g a) k t = (decide (B < A) || (decide (A = B) && decide (k < t))) := by rw [← hA, ← hB]; rfl
      by_cases c1 : B < A
      · (refine And.intro (fun h => ?_) (fun h => by omega); conv => whnf)
        (refine hK _ _ _ _ ?_)
        (refine zW.upto (zC_om _) 2 (fun K hK => ?_); conv => whnf)
        exact hK _ _ _ _ (j true (by rw [hmah]; simp [c1]))
      · (refine And.intro (fun h => by omega) (fun h => ?_); conv => whnf)
        (refine And.intro (by first | omega | assumption | rfl | exact zin_and | exact ⟨zin_and, by omega⟩ | exact ⟨by omega, zin_and⟩ | exact Nat.le_of_ble_eq_true rfl | exact ⟨Nat.le_of_ble_eq_true rfl, rfl⟩ | exact ⟨Nat.le_of_ble_eq_true rfl, by assumption⟩ | decide) ?_; conv => whnf)
        by_cases c2 : A = B
        · (refine And.intro (fun h => by omega) (fun h => ?_); conv => whnf)
          (refine And.intro (by first | omega | assumption | rfl | exact zin_and | exact ⟨zin_and, by omega⟩ | exact ⟨by omega, zin_and⟩ | exact Nat.le_of_ble_eq_true rfl | exact ⟨Nat.le_of_ble_eq_true rfl, rfl⟩ | exact ⟨Nat.le_of_ble_eq_true rfl, by assumption⟩ | decide) ?_; conv => whnf)
          by_cases c3 : k < t
          · (refine And.intro (fun h => by omega) (fun h => ?_); conv => whnf)
            exact hK _ _ _ _ (j true (by rw [hmah]; simp [c2, c3]))
          · (refine And.intro (fun h => ?_) (fun h => by omega); conv => whnf)
            (refine hK _ _ _ _ ?_)
            (refine zW.upto (zC_om _) 1 (fun K hK => ?_); conv => whnf)
            exact hK _ _ _ _ (j false (by rw [hmah]; simp [c1, c3]))
        · (refine And.intro (fun h => ?_) (fun h => by omega); conv => whnf)
          (refine hK _ _ _ _ ?_)
          (refine zW.upto (zC_om _) 1 (fun K hK => ?_); conv => whnf)
          exact hK _ _ _ _ (j false (by rw [hmah]; simp [c1, c2]))
  (refine zW.upto (zC_om _) 4 (fun K hK => ?_); conv => whnf)
  exact hK _ _ _ _ (loop _ _)
/-- the row of sorted things is right -/
def mso (g : zM) (s : zS) (n : Nat) : Prop := ∀ k : Nat, k < n → g 71 (k : Int) = (mor s n k : Int)
theorem zk71a : (zkd 71).1 = 1 := by decide
theorem zk71b : (zkd 71).2 = 12 := by decide
theorem m_sorts {d n : Nat} {g : zM} {Q : zP} (hok : mok (g 65) n) (hQ : ∀ g', (∀ k, k ≠ 71 → g' k = g k) → mso g' (g 65) n → Q none g') : zC (d + 2) 97 [zR 64] g Q := by
  have hk1 := zk71a
  have hk2 := zk71b
  obtain ⟨hn, hn12, hroom, hth⟩ := id hok
  refine zC.go zm_X6_sorts ⟨rfl, rfl⟩ rfl ?_
  have loop : ∀ g' : zM, (∀ k, k ≠ 71 → g' k = g k) → (∀ u : Nat, u < 0 → g' 71 (mpl (g 65) n u) = (u : Int)) → zW zX6_sorts (zC (d + 1)) Q 2 [zR 64, zI 0] [] g' := by
    refine (zdown (P := fun t => ∀ g' : zM, (∀ k, k ≠ 71 → g' k = g k) → (∀ u : Nat, u < t → g' 71 (mpl (g 65) n u) = (u : Int)) → zW zX6_sorts (zC (d + 1)) Q 2 [zR 64, zI t] [] g') n ?_ ?_)
    · intro g' hf hu
      have h65 : g' 65 = g 65 := hf 65 (by decide)
      have hn' : g' 65 0 = n := by rw [h65]; exact hn
      (refine zW.go (zC_om _) (fun K hK => ?_); conv => whnf)
      (refine And.intro (by first | omega | assumption | rfl | exact zin_and | exact ⟨zin_and, by omega⟩ | exact ⟨by omega, zin_and⟩ | exact Nat.le_of_ble_eq_true rfl | exact ⟨Nat.le_of_ble_eq_true rfl, rfl⟩ | exact ⟨Nat.le_of_ble_eq_true rfl, by assumption⟩ | decide) ?_; conv => whnf)
      (refine And.intro (by first | omega | assumption | rfl | exact zin_and | exact ⟨zin_and, by omega⟩ | exact ⟨by omega, zin_and⟩ | exact Nat.le_of_ble_eq_true rfl | exact ⟨Nat.le_of_ble_eq_true rfl, rfl⟩ | exact ⟨Nat.le_of_ble_eq_true rfl, by assumption⟩ | decide) ?_; conv => whnf)
      (refine And.intro (by first | omega | assumption | rfl | exact zin_and | exact ⟨zin_and, by omega⟩ | exact ⟨by omega, zin_and⟩ | exact Nat.le_of_ble_eq_true rfl | exact ⟨Nat.le_of_ble_eq_true rfl, rfl⟩ | exact ⟨Nat.le_of_ble_eq_true rfl, by assumption⟩ | decide) ?_; conv => whnf)
      (refine And.intro (fun h => ?_) (fun h => by omega); conv => whnf)
      (repeat' first | (refine hK _ _ _ _ (zW.go (zC_om _) (fun K hK => ?_)); conv => whnf) | (refine And.intro (by first | omega | assumption | rfl | exact zin_and | exact ⟨zin_and, by omega⟩ | exact ⟨by omega, zin_and⟩ | exact Nat.le_of_ble_eq_true rfl | exact ⟨Nat.le_of_ble_eq_true rfl, rfl⟩ | exact ⟨Nat.le_of_ble_eq_true rfl, by assumption⟩ | decide) ?_; conv => whnf) | (refine And.intro (fun h => ?_) (fun h => ?_) <;> conv => whnf) | (intro h; conv => whnf))
      refine hQ g' hf (fun k hk => ?_)
      obtain ⟨h1, h2⟩ := mor_spec hok.pos hk
      have h3 := hu _ h1
      rw [h2] at h3
      exact h3
    · intro t ht hi g' hf hu
      have h65 : g' 65 = g 65 := hf 65 (by decide)
      have hn' : g' 65 0 = n := by rw [h65]; exact hn
      have hpl := mpl_lt (s := g 65) ht
      (refine zW.go (zC_om _) (fun K hK => ?_); conv => whnf)
      (refine And.intro (by first | omega | assumption | rfl | exact zin_and | exact ⟨zin_and, by omega⟩ | exact ⟨by omega, zin_and⟩ | exact Nat.le_of_ble_eq_true rfl | exact ⟨Nat.le_of_ble_eq_true rfl, rfl⟩ | exact ⟨Nat.le_of_ble_eq_true rfl, by assumption⟩ | decide) ?_; conv => whnf)
      (refine And.intro (by first | omega | assumption | rfl | exact zin_and | exact ⟨zin_and, by omega⟩ | exact ⟨by omega, zin_and⟩ | exact Nat.le_of_ble_eq_true rfl | exact ⟨Nat.le_of_ble_eq_true rfl, rfl⟩ | exact ⟨Nat.le_of_ble_eq_true rfl, by assumption⟩ | decide) ?_; conv => whnf)
      (refine And.intro (by first | omega | assumption | rfl | exact zin_and | exact ⟨zin_and, by omega⟩ | exact ⟨by omega, zin_and⟩ | exact Nat.le_of_ble_eq_true rfl | exact ⟨Nat.le_of_ble_eq_true rfl, rfl⟩ | exact ⟨Nat.le_of_ble_eq_true rfl, by assumption⟩ | decide) ?_; conv => whnf)
      (refine And.intro (fun h => by omega) (fun h => ?_); conv => whnf)
      (refine And.intro (by first | omega | assumption | rfl | exact zin_and | exact ⟨zin_and, by omega⟩ | exact ⟨by omega, zin_and⟩ | exact Nat.le_of_ble_eq_true rfl | exact ⟨Nat.le_of_ble_eq_true rfl, rfl⟩ | exact ⟨Nat.le_of_ble_eq_true rfl, by assumption⟩ | decide) ?_; conv => whnf)
      (refine And.intro (by first | omega | assumption | rfl | exact zin_and | exact ⟨zin_and, by omega⟩ | exact ⟨by omega, zin_and⟩ | exact Nat.le_of_ble_eq_true rfl | exact ⟨Nat.le_of_ble_eq_true rfl, rfl⟩ | exact ⟨Nat.le_of_ble_eq_true rfl, by assumption⟩ | decide) ?_; conv => whnf)
      (refine And.intro (by first | omega | assumption | rfl | exact zin_and | exact ⟨zin_and, by omega⟩ | exact ⟨by omega, zin_and⟩ | exact Nat.le_of_ble_eq_true rfl | exact ⟨Nat.le_of_ble_eq_true rfl, rfl⟩ | exact ⟨Nat.le_of_ble_eq_true rfl, by assumption⟩ | decide) ?_; conv => whnf)
      (refine m_place (a := 65) rfl (by rw [h65]; exact hok) ht ?_; conv => whnf)
      rw [h65]
      (refine And.intro (by first | omega | assumption | rfl | exact zin_and | exact ⟨zin_and, by omega⟩ | exact ⟨by omega, zin_and⟩ | exact Nat.le_of_ble_eq_true rfl | exact ⟨Nat.le_of_ble_eq_true rfl, rfl⟩ | exact ⟨Nat.le_of_ble_eq_true rfl, by assumption⟩ | decide) ?_; conv => whnf)
      refine hK _ _ _ _ (hi _ (fun k hk => ?_) (fun u hu2 => ?_))
      · rw [zup_ne hk]
        exact hf k hk
      · by_cases hut : u = t
        · subst hut
          rw [zup_s]
        · have : mpl (g 65) n u ≠ mpl (g 65) n t := fun q => hut (mpl_inj hok.pos (by omega) ht q)
          rw [zup_i (by omega)]
          exact hu u (by omega)
  (refine zW.upto (zC_om _) 2 (fun K hK => ?_); conv => whnf)
  exact hK _ _ _ _ (loop g (fun _ _ => rfl) (fun u hu => absurd hu (by omega)))
def mspl (s : zS) (n fr : Nat) : Nat → Nat → Int → Int
  | 0, _, _ => -5
  | m + 1, k, left => if fr.testBit (mor s n k) then (if left < s (21 + (mor s n k : Int)) then (mor s n k : Int) else mspl s n fr m (k + 1) (left - s (21 + (mor s n k : Int)))) else mspl s n fr m (k + 1) left
/-- the room that is left beside a set -/
abbrev mleft (s : zS) (n i : Nat) : Int := s 1 - bsum s 21 i n
abbrev msplit (s : zS) (n i o : Nat) : Int := mspl s n (mfree s n i o) n 0 (mleft s n i)
theorem m_split {d a n i o : Nat} {g : zM} {Q : zP} (ha : zkd a = (1, 2845)) (hok : mok (g a) n) (hso : mso g (g a) n) (hi31 : i < 2 ^ 31) (ho31 : o < 2 ^ 31) (hQ : Q (some (zI (msplit (g a) n i o))) g) : zC (d + 3) 101 [zR 64, zR a, zI i, zI o] g Q := by
  have hk1 : (zkd a).1 = 1 := by rw [ha]
  have hk2 : (zkd a).2 = 2845 := by rw [ha]
  have hk3 := zk71a
  have hk4 := zk71b
  obtain ⟨hn, hn12, hroom, hth⟩ := id hok
  have hsv := msumv (set := i) hok
  have hfl : mfree (g a) n i o < 2 ^ n := mfr_lt (g a) n i o n
  have h2n := zp12 hn12
  generalize hfr : mfree (g a) n i o = fr at *
  refine zC.go zm_X6_split ⟨rfl, rfl⟩ rfl ?_
  have loop : ∀ (m k : Nat) (left : Int) (x : zV), k + m = n → -600 ≤ left ∧ left ≤ 200 → Q (some (zI (mspl (g a) n fr m k left))) g → zW zX6_split (zC (d + 2)) Q 16 [zR 64, zR a, zI i, zI o, zI fr, zI left, zI k, x] [] g := by
    intro m
    induction m with
    | zero =>
      intro k left x hk hl hq
      (refine zW.go (zC_om _) (fun K hK => ?_); conv => whnf)
      (refine And.intro (by first | omega | assumption | rfl | exact zin_and | exact ⟨zin_and, by omega⟩ | exact ⟨by omega, zin_and⟩ | exact Nat.le_of_ble_eq_true rfl | exact ⟨Nat.le_of_ble_eq_true rfl, rfl⟩ | exact ⟨Nat.le_of_ble_eq_true rfl, by assumption⟩ | decide) ?_; conv => whnf)
      (refine And.intro (by first | omega | assumption | rfl | exact zin_and | exact ⟨zin_and, by omega⟩ | exact ⟨by omega, zin_and⟩ | exact Nat.le_of_ble_eq_true rfl | exact ⟨Nat.le_of_ble_eq_true rfl, rfl⟩ | exact ⟨Nat.le_of_ble_eq_true rfl, by assumption⟩ | decide) ?_; conv => whnf)
      (refine And.intro (fun h => ?_) (fun h => by omega); conv => whnf)
      (repeat' first | (refine hK _ _ _ _ (zW.go (zC_om _) (fun K hK => ?_)); conv => whnf) | (refine And.intro (by first | omega | assumption | rfl | exact zin_and | exact ⟨zin_and, by omega⟩ | exact ⟨by omega, zin_and⟩ | exact Nat.le_of_ble_eq_true rfl | exact ⟨Nat.le_of_ble_eq_true rfl, rfl⟩ | exact ⟨Nat.le_of_ble_eq_true rfl, by assumption⟩ | decide) ?_; conv => whnf) | (refine And.intro (fun h => ?_) (fun h => ?_) <;> conv => whnf) | (intro h; conv => whnf))
      exact hq
    | succ m ih =>
      intro k left x hk hl hq
      have hso1 := hso k (by omega)
      obtain ⟨hmo, -⟩ := mor_spec (s := g a) hok.pos (show k < n by omega)
      obtain ⟨-, hvt, -⟩ := hth _ hmo
      have e0 : mspl (g a) n fr (m + 1) k left = if fr.testBit (mor (g a) n k) then (if left < g a (21 + (mor (g a) n k : Int)) then (mor (g a) n k : Int) else mspl (g a) n fr m (k + 1) (left - g a (21 + (mor (g a) n k : Int)))) else mspl (g a) n fr m (k + 1) left := rfl
      rw [e0] at hq
      (refine zW.go (zC_om _) (fun K hK => ?_); conv => whnf)
      (refine And.intro (by first | omega | assumption | rfl | exact zin_and | exact ⟨zin_and, by omega⟩ | exact ⟨by omega, zin_and⟩ | exact Nat.le_of_ble_eq_true rfl | exact ⟨Nat.le_of_ble_eq_true rfl, rfl⟩ | exact ⟨Nat.le_of_ble_eq_true rfl, by assumption⟩ | decide) ?_; conv => whnf)
      (refine And.intro (by first | omega | assumption | rfl | exact zin_and | exact ⟨zin_and, by omega⟩ | exact ⟨by omega, zin_and⟩ | exact Nat.le_of_ble_eq_true rfl | exact ⟨Nat.le_of_ble_eq_true rfl, rfl⟩ | exact ⟨Nat.le_of_ble_eq_true rfl, by assumption⟩ | decide) ?_; conv => whnf)
      (refine And.intro (fun h => by omega) (fun h => ?_); conv => whnf)
      (refine And.intro (by first | omega | assumption | rfl | exact zin_and | exact ⟨zin_and, by omega⟩ | exact ⟨by omega, zin_and⟩ | exact Nat.le_of_ble_eq_true rfl | exact ⟨Nat.le_of_ble_eq_true rfl, rfl⟩ | exact ⟨Nat.le_of_ble_eq_true rfl, by assumption⟩ | decide) ?_; conv => whnf)
      (refine And.intro (by first | omega | assumption | rfl | exact zin_and | exact ⟨zin_and, by omega⟩ | exact ⟨by omega, zin_and⟩ | exact Nat.le_of_ble_eq_true rfl | exact ⟨Nat.le_of_ble_eq_true rfl, rfl⟩ | exact ⟨Nat.le_of_ble_eq_true rfl, by assumption⟩ | decide) ?_; conv => whnf)
      rw [hso1]
      generalize mor (g a) n k = t at *
      rw [zbit (by omega) (by omega)]
      by_cases hbit : fr.testBit t = true
      · rw [if_pos hbit] at hq ⊢
        (refine And.intro (by first | omega | assumption | rfl | exact zin_and | exact ⟨zin_and, by omega⟩ | exact ⟨by omega, zin_and⟩ | exact Nat.le_of_ble_eq_true rfl | exact ⟨Nat.le_of_ble_eq_true rfl, rfl⟩ | exact ⟨Nat.le_of_ble_eq_true rfl, by assumption⟩ | decide) ?_; conv => whnf)
        (refine And.intro (fun h => by omega) (fun h => ?_); conv => whnf)
        (refine And.intro (by first | omega | assumption | rfl | exact zin_and | exact ⟨zin_and, by omega⟩ | exact ⟨by omega, zin_and⟩ | exact Nat.le_of_ble_eq_true rfl | exact ⟨Nat.le_of_ble_eq_true rfl, rfl⟩ | exact ⟨Nat.le_of_ble_eq_true rfl, by assumption⟩ | decide) ?_; conv => whnf)
        (refine And.intro (by first | omega | assumption | rfl | exact zin_and | exact ⟨zin_and, by omega⟩ | exact ⟨by omega, zin_and⟩ | exact Nat.le_of_ble_eq_true rfl | exact ⟨Nat.le_of_ble_eq_true rfl, rfl⟩ | exact ⟨Nat.le_of_ble_eq_true rfl, by assumption⟩ | decide) ?_; conv => whnf)
        by_cases hlt : left < g a (21 + t)
        · rw [if_pos hlt] at hq
          (refine And.intro (fun h => by omega) (fun h => ?_); conv => whnf)
          (repeat' first | (refine hK _ _ _ _ (zW.go (zC_om _) (fun K hK => ?_)); conv => whnf) | (refine And.intro (by first | omega | assumption | rfl | exact zin_and | exact ⟨zin_and, by omega⟩ | exact ⟨by omega, zin_and⟩ | exact Nat.le_of_ble_eq_true rfl | exact ⟨Nat.le_of_ble_eq_true rfl, rfl⟩ | exact ⟨Nat.le_of_ble_eq_true rfl, by assumption⟩ | decide) ?_; conv => whnf) | (refine And.intro (fun h => ?_) (fun h => ?_) <;> conv => whnf) | (intro h; conv => whnf))
          exact hq
        · rw [if_neg hlt] at hq
          (refine And.intro (fun h => ?_) (fun h => by omega); conv => whnf)
          (refine hK _ _ _ _ (zW.go (zC_om _) (fun K hK => ?_)); conv => whnf)
          (refine And.intro (by first | omega | assumption | rfl | exact zin_and | exact ⟨zin_and, by omega⟩ | exact ⟨by omega, zin_and⟩ | exact Nat.le_of_ble_eq_true rfl | exact ⟨Nat.le_of_ble_eq_true rfl, rfl⟩ | exact ⟨Nat.le_of_ble_eq_true rfl, by assumption⟩ | decide) ?_; conv => whnf)
          exact hK _ _ _ _ (ih (k + 1) _ _ (by omega) (by omega) hq)
      · rw [if_neg hbit] at hq ⊢
        (refine And.intro (by first | omega | assumption | rfl | exact zin_and | exact ⟨zin_and, by omega⟩ | exact ⟨by omega, zin_and⟩ | exact Nat.le_of_ble_eq_true rfl | exact ⟨Nat.le_of_ble_eq_true rfl, rfl⟩ | exact ⟨Nat.le_of_ble_eq_true rfl, by assumption⟩ | decide) ?_; conv => whnf)
        (refine And.intro (fun h => ?_) (fun h => by omega); conv => whnf)
        (refine hK _ _ _ _ (zW.go (zC_om _) (fun K hK => ?_)); conv => whnf)
        exact hK _ _ _ _ (ih (k + 1) _ _ (by omega) (by omega) hq)
  (refine zW.upto (zC_om _) 16 (fun K hK => ?_); conv => whnf)
  (refine And.intro (by first | omega | assumption | rfl | exact zin_and | exact ⟨zin_and, by omega⟩ | exact ⟨by omega, zin_and⟩ | exact Nat.le_of_ble_eq_true rfl | exact ⟨Nat.le_of_ble_eq_true rfl, rfl⟩ | exact ⟨Nat.le_of_ble_eq_true rfl, by assumption⟩ | decide) ?_; conv => whnf)
  (refine m_free ha hok hi31 ho31 ?_; conv => whnf)
  rw [hfr]
  (refine And.intro (by first | omega | assumption | rfl | exact zin_and | exact ⟨zin_and, by omega⟩ | exact ⟨by omega, zin_and⟩ | exact Nat.le_of_ble_eq_true rfl | exact ⟨Nat.le_of_ble_eq_true rfl, rfl⟩ | exact ⟨Nat.le_of_ble_eq_true rfl, by assumption⟩ | decide) ?_; conv => whnf)
  (refine And.intro (by first | omega | assumption | rfl | exact zin_and | exact ⟨zin_and, by omega⟩ | exact ⟨by omega, zin_and⟩ | exact Nat.le_of_ble_eq_true rfl | exact ⟨Nat.le_of_ble_eq_true rfl, rfl⟩ | exact ⟨Nat.le_of_ble_eq_true rfl, by assumption⟩ | decide) ?_; conv => whnf)
  (refine m_sum ha hn hn12 (by omega) (by omega) hi31 ?_; conv => whnf)
  exact hK _ _ _ _ (loop n 0 _ _ (by omega) (by omega) (by rw [← hfr]; exact hQ))
def mbd (s : zS) (n fr : Nat) : Nat → Nat → Int → Int → Int
  | 0, _, _, sum => sum
  | m + 1, k, left, sum => if fr.testBit (mor s n k) then (if left < s (21 + (mor s n k : Int)) then sum + zdiv (s (9 + (mor s n k : Int)) * left) (s (21 + (mor s n k : Int))) else mbd s n fr m (k + 1) (left - s (21 + (mor s n k : Int))) (sum + s (9 + (mor s n k : Int)))) else mbd s n fr m (k + 1) left sum
/-- the bound of a node -/
abbrev mbound (s : zS) (n i o : Nat) : Int := mbd s n (mfree s n i o) n 0 (mleft s n i) (bsum s 9 i n)
theorem m_bound {d a n i o : Nat} {g : zM} {Q : zP} (ha : zkd a = (1, 2845)) (hok : mok (g a) n) (hso : mso g (g a) n) (hi31 : i < 2 ^ 31) (ho31 : o < 2 ^ 31) (hQ : Q (some (zI (mbound (g a) n i o))) g) : zC (d + 3) 102 [zR 64, zR a, zI i, zI o] g Q := by
  have hk1 : (zkd a).1 = 1 := by rw [ha]
  have hk2 : (zkd a).2 = 2845 := by rw [ha]
  have hk3 := zk71a
  have hk4 := zk71b
  obtain ⟨hn, hn12, hroom, hth⟩ := id hok
  have hsv := msumv (set := i) hok
  have hfl : mfree (g a) n i o < 2 ^ n := mfr_lt (g a) n i o n
  have h2n := zp12 hn12
  generalize hfr : mfree (g a) n i o = fr at *
  refine zC.go zm_X6_bound ⟨rfl, rfl⟩ rfl ?_
  have loop : ∀ (m k : Nat) (left sum : Int) (x : zV), k + m = n → -600 ≤ left ∧ left ≤ 200 → Q (some (zI (mbd (g a) n fr m k left sum))) g → zW zX6_bound (zC (d + 2)) Q 21 [zR 64, zR a, zI i, zI o, zI fr, zI left, zI sum, zI k, x] [] g := by
    intro m
    induction m with
    | zero =>
      intro k left sum x hk hl hq
      (refine zW.go (zC_om _) (fun K hK => ?_); conv => whnf)
      (refine And.intro (by first | omega | assumption | rfl | exact zin_and | exact ⟨zin_and, by omega⟩ | exact ⟨by omega, zin_and⟩ | exact Nat.le_of_ble_eq_true rfl | exact ⟨Nat.le_of_ble_eq_true rfl, rfl⟩ | exact ⟨Nat.le_of_ble_eq_true rfl, by assumption⟩ | decide) ?_; conv => whnf)
      (refine And.intro (by first | omega | assumption | rfl | exact zin_and | exact ⟨zin_and, by omega⟩ | exact ⟨by omega, zin_and⟩ | exact Nat.le_of_ble_eq_true rfl | exact ⟨Nat.le_of_ble_eq_true rfl, rfl⟩ | exact ⟨Nat.le_of_ble_eq_true rfl, by assumption⟩ | decide) ?_; conv => whnf)
      (refine And.intro (fun h => ?_) (fun h => by omega); conv => whnf)
      (repeat' first | (refine hK _ _ _ _ (zW.go (zC_om _) (fun K hK => ?_)); conv => whnf) | (refine And.intro (by first | omega | assumption | rfl | exact zin_and | exact ⟨zin_and, by omega⟩ | exact ⟨by omega, zin_and⟩ | exact Nat.le_of_ble_eq_true rfl | exact ⟨Nat.le_of_ble_eq_true rfl, rfl⟩ | exact ⟨Nat.le_of_ble_eq_true rfl, by assumption⟩ | decide) ?_; conv => whnf) | (refine And.intro (fun h => ?_) (fun h => ?_) <;> conv => whnf) | (intro h; conv => whnf))
      exact hq
    | succ m ih =>
      intro k left sum x hk hl hq
      have hso1 := hso k (by omega)
      obtain ⟨hmo, -⟩ := mor_spec (s := g a) hok.pos (show k < n by omega)
      obtain ⟨-, hvt, -⟩ := hth _ hmo
      have e0 : mbd (g a) n fr (m + 1) k left sum = if fr.testBit (mor (g a) n k) then (if left < g a (21 + (mor (g a) n k : Int)) then sum + zdiv (g a (9 + (mor (g a) n k : Int)) * left) (g a (21 + (mor (g a) n k : Int))) else mbd (g a) n fr m (k + 1) (left - g a (21 + (mor (g a) n k : Int))) (sum + g a (9 + (mor (g a) n k : Int)))) else mbd (g a) n fr m (k + 1) left sum := rfl
      rw [e0] at hq
      (refine zW.go (zC_om _) (fun K hK => ?_); conv => whnf)
      (refine And.intro (by first | omega | assumption | rfl | exact zin_and | exact ⟨zin_and, by omega⟩ | exact ⟨by omega, zin_and⟩ | exact Nat.le_of_ble_eq_true rfl | exact ⟨Nat.le_of_ble_eq_true rfl, rfl⟩ | exact ⟨Nat.le_of_ble_eq_true rfl, by assumption⟩ | decide) ?_; conv => whnf)
      (refine And.intro (by first | omega | assumption | rfl | exact zin_and | exact ⟨zin_and, by omega⟩ | exact ⟨by omega, zin_and⟩ | exact Nat.le_of_ble_eq_true rfl | exact ⟨Nat.le_of_ble_eq_true rfl, rfl⟩ | exact ⟨Nat.le_of_ble_eq_true rfl, by assumption⟩ | decide) ?_; conv => whnf)
      (refine And.intro (fun h => by omega) (fun h => ?_); conv => whnf)
      (refine And.intro (by first | omega | assumption | rfl | exact zin_and | exact ⟨zin_and, by omega⟩ | exact ⟨by omega, zin_and⟩ | exact Nat.le_of_ble_eq_true rfl | exact ⟨Nat.le_of_ble_eq_true rfl, rfl⟩ | exact ⟨Nat.le_of_ble_eq_true rfl, by assumption⟩ | decide) ?_; conv => whnf)
      (refine And.intro (by first | omega | assumption | rfl | exact zin_and | exact ⟨zin_and, by omega⟩ | exact ⟨by omega, zin_and⟩ | exact Nat.le_of_ble_eq_true rfl | exact ⟨Nat.le_of_ble_eq_true rfl, rfl⟩ | exact ⟨Nat.le_of_ble_eq_true rfl, by assumption⟩ | decide) ?_; conv => whnf)
      rw [hso1]
      generalize mor (g a) n k = t at *
      rw [zbit (by omega) (by omega)]
      by_cases hbit : fr.testBit t = true
      · rw [if_pos hbit] at hq ⊢
        (refine And.intro (by first | omega | assumption | rfl | exact zin_and | exact ⟨zin_and, by omega⟩ | exact ⟨by omega, zin_and⟩ | exact Nat.le_of_ble_eq_true rfl | exact ⟨Nat.le_of_ble_eq_true rfl, rfl⟩ | exact ⟨Nat.le_of_ble_eq_true rfl, by assumption⟩ | decide) ?_; conv => whnf)
        (refine And.intro (fun h => by omega) (fun h => ?_); conv => whnf)
        (refine And.intro (by first | omega | assumption | rfl | exact zin_and | exact ⟨zin_and, by omega⟩ | exact ⟨by omega, zin_and⟩ | exact Nat.le_of_ble_eq_true rfl | exact ⟨Nat.le_of_ble_eq_true rfl, rfl⟩ | exact ⟨Nat.le_of_ble_eq_true rfl, by assumption⟩ | decide) ?_; conv => whnf)
        (refine And.intro (by first | omega | assumption | rfl | exact zin_and | exact ⟨zin_and, by omega⟩ | exact ⟨by omega, zin_and⟩ | exact Nat.le_of_ble_eq_true rfl | exact ⟨Nat.le_of_ble_eq_true rfl, rfl⟩ | exact ⟨Nat.le_of_ble_eq_true rfl, by assumption⟩ | decide) ?_; conv => whnf)
        by_cases hlt : left < g a (21 + t)
        · rw [if_pos hlt] at hq
          (refine And.intro (fun h => by omega) (fun h => ?_); conv => whnf)
          (refine And.intro (by first | omega | assumption | rfl | exact zin_and | exact ⟨zin_and, by omega⟩ | exact ⟨by omega, zin_and⟩ | exact Nat.le_of_ble_eq_true rfl | exact ⟨Nat.le_of_ble_eq_true rfl, rfl⟩ | exact ⟨Nat.le_of_ble_eq_true rfl, by assumption⟩ | decide) ?_; conv => whnf)
          (refine And.intro (by first | omega | assumption | rfl | exact zin_and | exact ⟨zin_and, by omega⟩ | exact ⟨by omega, zin_and⟩ | exact Nat.le_of_ble_eq_true rfl | exact ⟨Nat.le_of_ble_eq_true rfl, rfl⟩ | exact ⟨Nat.le_of_ble_eq_true rfl, by assumption⟩ | decide) ?_; conv => whnf)
          (refine And.intro (by first | omega | assumption | rfl | exact zin_and | exact ⟨zin_and, by omega⟩ | exact ⟨by omega, zin_and⟩ | exact Nat.le_of_ble_eq_true rfl | exact ⟨Nat.le_of_ble_eq_true rfl, rfl⟩ | exact ⟨Nat.le_of_ble_eq_true rfl, by assumption⟩ | decide) ?_; conv => whnf)
          (refine And.intro (by first | omega | assumption | rfl | exact zin_and | exact ⟨zin_and, by omega⟩ | exact ⟨by omega, zin_and⟩ | exact Nat.le_of_ble_eq_true rfl | exact ⟨Nat.le_of_ble_eq_true rfl, rfl⟩ | exact ⟨Nat.le_of_ble_eq_true rfl, by assumption⟩ | decide) ?_; conv => whnf)
          exact hq
        · rw [if_neg hlt] at hq
          (refine And.intro (fun h => ?_) (fun h => by omega); conv => whnf)
          (refine hK _ _ _ _ (zW.go (zC_om _) (fun K hK => ?_)); conv => whnf)
          (refine And.intro (by first | omega | assumption | rfl | exact zin_and | exact ⟨zin_and, by omega⟩ | exact ⟨by omega, zin_and⟩ | exact Nat.le_of_ble_eq_true rfl | exact ⟨Nat.le_of_ble_eq_true rfl, rfl⟩ | exact ⟨Nat.le_of_ble_eq_true rfl, by assumption⟩ | decide) ?_; conv => whnf)
          (refine And.intro (by first | omega | assumption | rfl | exact zin_and | exact ⟨zin_and, by omega⟩ | exact ⟨by omega, zin_and⟩ | exact Nat.le_of_ble_eq_true rfl | exact ⟨Nat.le_of_ble_eq_true rfl, rfl⟩ | exact ⟨Nat.le_of_ble_eq_true rfl, by assumption⟩ | decide) ?_; conv => whnf)
          exact hK _ _ _ _ (ih (k + 1) _ _ _ (by omega) (by omega) hq)
      · rw [if_neg hbit] at hq ⊢
        (refine And.intro (by first | omega | assumption | rfl | exact zin_and | exact ⟨zin_and, by omega⟩ | exact ⟨by omega, zin_and⟩ | exact Nat.le_of_ble_eq_true rfl | exact ⟨Nat.le_of_ble_eq_true rfl, rfl⟩ | exact ⟨Nat.le_of_ble_eq_true rfl, by assumption⟩ | decide) ?_; conv => whnf)
        (refine And.intro (fun h => ?_) (fun h => by omega); conv => whnf)
        (refine hK _ _ _ _ (zW.go (zC_om _) (fun K hK => ?_)); conv => whnf)
        exact hK _ _ _ _ (ih (k + 1) _ _ _ (by omega) (by omega) hq)
  (refine zW.upto (zC_om _) 21 (fun K hK => ?_); conv => whnf)
  (refine And.intro (by first | omega | assumption | rfl | exact zin_and | exact ⟨zin_and, by omega⟩ | exact ⟨by omega, zin_and⟩ | exact Nat.le_of_ble_eq_true rfl | exact ⟨Nat.le_of_ble_eq_true rfl, rfl⟩ | exact ⟨Nat.le_of_ble_eq_true rfl, by assumption⟩ | decide) ?_; conv => whnf)
  (refine m_free ha hok hi31 ho31 ?_; conv => whnf)
  rw [hfr]
  (refine And.intro (by first | omega | assumption | rfl | exact zin_and | exact ⟨zin_and, by omega⟩ | exact ⟨by omega, zin_and⟩ | exact Nat.le_of_ble_eq_true rfl | exact ⟨Nat.le_of_ble_eq_true rfl, rfl⟩ | exact ⟨Nat.le_of_ble_eq_true rfl, by assumption⟩ | decide) ?_; conv => whnf)
  (refine And.intro (by first | omega | assumption | rfl | exact zin_and | exact ⟨zin_and, by omega⟩ | exact ⟨by omega, zin_and⟩ | exact Nat.le_of_ble_eq_true rfl | exact ⟨Nat.le_of_ble_eq_true rfl, rfl⟩ | exact ⟨Nat.le_of_ble_eq_true rfl, by assumption⟩ | decide) ?_; conv => whnf)
  (refine m_sum ha hn hn12 (by omega) (by omega) hi31 ?_; conv => whnf)
  (refine And.intro (by first | omega | assumption | rfl | exact zin_and | exact ⟨zin_and, by omega⟩ | exact ⟨by omega, zin_and⟩ | exact Nat.le_of_ble_eq_true rfl | exact ⟨Nat.le_of_ble_eq_true rfl, rfl⟩ | exact ⟨Nat.le_of_ble_eq_true rfl, by assumption⟩ | decide) ?_; conv => whnf)
  (refine m_sum ha hn hn12 (by omega) (by omega) hi31 ?_; conv => whnf)
  exact hK _ _ _ _ (loop n 0 _ _ _ (by omega) (by omega) (by rw [← hfr]; exact hQ))
/-- whether the heel takes t -/
def mhc (s : zS) (fr t set : Nat) (left : Int) : Bool := fr.testBit t && (decide (s (21 + (t : Int)) ≤ left) && decide (mb s t &&& set = 0))
def mhl (s : zS) (n fr : Nat) : Nat → Nat → Nat → Int → Nat
  | 0, _, set, _ => set
  | m + 1, k, set, left => if mhc s fr (mor s n k) set left then mhl s n fr m (k + 1) (set ||| 2 ^ (mor s n k)) (left - s (21 + (mor s n k : Int))) else mhl s n fr m (k + 1) set left
/-- the heel of a node -/
abbrev mheel (s : zS) (n i o : Nat) : Nat := mhl s n (mfree s n i o) n 0 i (mleft s n i)
theorem m_heel {d a n i o : Nat} {g : zM} {Q : zP} (ha : zkd a = (1, 2845)) (hok : mok (g a) n) (hso : mso g (g a) n) (hi31 : i < 2 ^ 31) (ho31 : o < 2 ^ 31) (hQ : Q (some (zI (mheel (g a) n i o : Nat))) g) : zC (d + 3) 103 [zR 64, zR a, zI i, zI o] g Q := by
  have hk1 : (zkd a).1 = 1 := by rw [ha]
  have hk2 : (zkd a).2 = 2845 := by rw [ha]
  have hk3 := zk71a
  have hk4 := zk71b
  obtain ⟨hn, hn12, hroom, hth⟩ := id hok
  have hsv := msumv (set := i) hok
  have hfl : mfree (g a) n i o < 2 ^ n := mfr_lt (g a) n i o n
  have h2n := zp12 hn12
  generalize hfr : mfree (g a) n i o = fr at *
  refine zC.go zm_X6_heel ⟨rfl, rfl⟩ rfl ?_
  have loop : ∀ (m k set : Nat) (left : Int) (x y : zV), k + m = n → set < 2 ^ 31 → -600 ≤ left ∧ left ≤ 200 → Q (some (zI (mhl (g a) n fr m k set left : Nat))) g → zW zX6_heel (zC (d + 2)) Q 18 [zR 64, zR a, zI i, zI o, zI fr, zI set, zI left, zI k, x, y] [] g := by
    intro m
    induction m with
    | zero =>
      intro k set left x y hk hs hl hq
      (refine zW.go (zC_om _) (fun K hK => ?_); conv => whnf)
      (refine And.intro (by first | omega | assumption | rfl | exact zin_and | exact ⟨zin_and, by omega⟩ | exact ⟨by omega, zin_and⟩ | exact Nat.le_of_ble_eq_true rfl | exact ⟨Nat.le_of_ble_eq_true rfl, rfl⟩ | exact ⟨Nat.le_of_ble_eq_true rfl, by assumption⟩ | decide) ?_; conv => whnf)
      (refine And.intro (by first | omega | assumption | rfl | exact zin_and | exact ⟨zin_and, by omega⟩ | exact ⟨by omega, zin_and⟩ | exact Nat.le_of_ble_eq_true rfl | exact ⟨Nat.le_of_ble_eq_true rfl, rfl⟩ | exact ⟨Nat.le_of_ble_eq_true rfl, by assumption⟩ | decide) ?_; conv => whnf)
      (refine And.intro (fun h => ?_) (fun h => by omega); conv => whnf)
      (repeat' first | (refine hK _ _ _ _ (zW.go (zC_om _) (fun K hK => ?_)); conv => whnf) | (refine And.intro (by first | omega | assumption | rfl | exact zin_and | exact ⟨zin_and, by omega⟩ | exact ⟨by omega, zin_and⟩ | exact Nat.le_of_ble_eq_true rfl | exact ⟨Nat.le_of_ble_eq_true rfl, rfl⟩ | exact ⟨Nat.le_of_ble_eq_true rfl, by assumption⟩ | decide) ?_; conv => whnf) | (refine And.intro (fun h => ?_) (fun h => ?_) <;> conv => whnf) | (intro h; conv => whnf))
      exact hq
    | succ m ih =>
      intro k set left x y hk hs hl hq
      have hso1 := hso k (by omega)
      obtain ⟨hmo, -⟩ := mor_spec (s := g a) hok.pos (show k < n by omega)
      obtain ⟨-, hvt, hbt⟩ := hth _ hmo
      have hmb := mb_eq hok hmo
      have hml := mb_lt hok hmo
      have e0 : mhl (g a) n fr (m + 1) k set left = if mhc (g a) fr (mor (g a) n k) set left then mhl (g a) n fr m (k + 1) (set ||| 2 ^ (mor (g a) n k)) (left - g a (21 + (mor (g a) n k : Int))) else mhl (g a) n fr m (k + 1) set left := rfl
      rw [e0] at hq
      generalize ht : mor (g a) n k = t at *
      have h2t : 2 ^ t < 2 ^ 31 := Nat.pow_lt_pow_right (by decide) (by omega)
      have hst : set ||| 2 ^ t < 2 ^ 31 := Nat.or_lt_two_pow hs h2t
      have j : ∀ c : Bool, mhc (g a) fr t set left = c → zW zX6_heel (zC (d + 2)) Q 53 [zR 64, zR a, zI i, zI o, zI fr, zI set, zI left, zI k, zI t, y] [zI (zb c)] g := by
        intro c hc
        rw [hc] at hq
        cases c with
        | true =>
          rw [zb_t]
          have hc2 : g a (21 + (t : Int)) ≤ left := by
            unfold mhc at hc
            simp at hc
            exact hc.2.1
          rw [if_pos rfl] at hq
          (refine zW.go (zC_om _) (fun K hK => ?_); conv => whnf)
          (refine And.intro (by first | omega | assumption | rfl | exact zin_and | exact ⟨zin_and, by omega⟩ | exact ⟨by omega, zin_and⟩ | exact Nat.le_of_ble_eq_true rfl | exact ⟨Nat.le_of_ble_eq_true rfl, rfl⟩ | exact ⟨Nat.le_of_ble_eq_true rfl, by assumption⟩ | decide) ?_; conv => whnf)
          (refine And.intro (fun h => by omega) (fun h => ?_); conv => whnf)
          (refine hK _ _ _ _ (zW.go (zC_om _) (fun K hK => ?_)); conv => whnf)
          (refine And.intro (by first | omega | assumption | rfl | exact zin_and | exact ⟨zin_and, by omega⟩ | exact ⟨by omega, zin_and⟩ | exact Nat.le_of_ble_eq_true rfl | exact ⟨Nat.le_of_ble_eq_true rfl, rfl⟩ | exact ⟨Nat.le_of_ble_eq_true rfl, by assumption⟩ | decide) ?_; conv => whnf)
          (refine And.intro (fun h => by omega) (fun h => ?_); conv => whnf)
          (refine And.intro (by first | omega | assumption | rfl | exact zin_and | exact ⟨zin_and, by omega⟩ | exact ⟨by omega, zin_and⟩ | exact Nat.le_of_ble_eq_true rfl | exact ⟨Nat.le_of_ble_eq_true rfl, rfl⟩ | exact ⟨Nat.le_of_ble_eq_true rfl, by assumption⟩ | decide) ?_; conv => whnf)
          (refine hK _ _ _ _ (zW.go (zC_om _) (fun K hK => ?_)); conv => whnf)
          rw [zone_shl (by omega), zor_nat hs h2t]
          exact hK _ _ _ _ (ih (k + 1) _ _ _ _ (by omega) hst (by omega) hq)
        | false =>
          rw [zb_f]
          rw [if_neg (by decide)] at hq
          (refine zW.go (zC_om _) (fun K hK => ?_); conv => whnf)
          (refine And.intro (by first | omega | assumption | rfl | exact zin_and | exact ⟨zin_and, by omega⟩ | exact ⟨by omega, zin_and⟩ | exact Nat.le_of_ble_eq_true rfl | exact ⟨Nat.le_of_ble_eq_true rfl, rfl⟩ | exact ⟨Nat.le_of_ble_eq_true rfl, by assumption⟩ | decide) ?_; conv => whnf)
          (refine And.intro (fun h => ?_) (fun h => by omega); conv => whnf)
          (refine hK _ _ _ _ (zW.go (zC_om _) (fun K hK => ?_)); conv => whnf)
          (refine And.intro (by first | omega | assumption | rfl | exact zin_and | exact ⟨zin_and, by omega⟩ | exact ⟨by omega, zin_and⟩ | exact Nat.le_of_ble_eq_true rfl | exact ⟨Nat.le_of_ble_eq_true rfl, rfl⟩ | exact ⟨Nat.le_of_ble_eq_true rfl, by assumption⟩ | decide) ?_; conv => whnf)
          (refine And.intro (fun h => ?_) (fun h => by omega); conv => whnf)
          (refine hK _ _ _ _ (zW.go (zC_om _) (fun K hK => ?_)); conv => whnf)
          rw [zor_0 hs, Int.sub_zero]
          exact hK _ _ _ _ (ih (k + 1) _ _ _ _ (by omega) hs (by omega) hq)
      (refine zW.go (zC_om _) (fun K hK => ?_); conv => whnf)
      (refine And.intro (by first | omega | assumption | rfl | exact zin_and | exact ⟨zin_and, by omega⟩ | exact ⟨by omega, zin_and⟩ | exact Nat.le_of_ble_eq_true rfl | exact ⟨Nat.le_of_ble_eq_true rfl, rfl⟩ | exact ⟨Nat.le_of_ble_eq_true rfl, by assumption⟩ | decide) ?_; conv => whnf)
      (refine And.intro (by first | omega | assumption | rfl | exact zin_and | exact ⟨zin_and, by omega⟩ | exact ⟨by omega, zin_and⟩ | exact Nat.le_of_ble_eq_true rfl | exact ⟨Nat.le_of_ble_eq_true rfl, rfl⟩ | exact ⟨Nat.le_of_ble_eq_true rfl, by assumption⟩ | decide) ?_; conv => whnf)
      (refine And.intro (fun h => by omega) (fun h => ?_); conv => whnf)
      (refine And.intro (by first | omega | assumption | rfl | exact zin_and | exact ⟨zin_and, by omega⟩ | exact ⟨by omega, zin_and⟩ | exact Nat.le_of_ble_eq_true rfl | exact ⟨Nat.le_of_ble_eq_true rfl, rfl⟩ | exact ⟨Nat.le_of_ble_eq_true rfl, by assumption⟩ | decide) ?_; conv => whnf)
      (refine And.intro (by first | omega | assumption | rfl | exact zin_and | exact ⟨zin_and, by omega⟩ | exact ⟨by omega, zin_and⟩ | exact Nat.le_of_ble_eq_true rfl | exact ⟨Nat.le_of_ble_eq_true rfl, rfl⟩ | exact ⟨Nat.le_of_ble_eq_true rfl, by assumption⟩ | decide) ?_; conv => whnf)
      rw [hso1, zbit (by omega) (by omega)]
      by_cases hbit : fr.testBit t = true
      · rw [if_pos hbit]
        (refine And.intro (by first | omega | assumption | rfl | exact zin_and | exact ⟨zin_and, by omega⟩ | exact ⟨by omega, zin_and⟩ | exact Nat.le_of_ble_eq_true rfl | exact ⟨Nat.le_of_ble_eq_true rfl, rfl⟩ | exact ⟨Nat.le_of_ble_eq_true rfl, by assumption⟩ | decide) ?_; conv => whnf)
        (refine And.intro (fun h => by omega) (fun h => ?_); conv => whnf)
        (refine And.intro (by first | omega | assumption | rfl | exact zin_and | exact ⟨zin_and, by omega⟩ | exact ⟨by omega, zin_and⟩ | exact Nat.le_of_ble_eq_true rfl | exact ⟨Nat.le_of_ble_eq_true rfl, rfl⟩ | exact ⟨Nat.le_of_ble_eq_true rfl, by assumption⟩ | decide) ?_; conv => whnf)
        (refine And.intro (by first | omega | assumption | rfl | exact zin_and | exact ⟨zin_and, by omega⟩ | exact ⟨by omega, zin_and⟩ | exact Nat.le_of_ble_eq_true rfl | exact ⟨Nat.le_of_ble_eq_true rfl, rfl⟩ | exact ⟨Nat.le_of_ble_eq_true rfl, by assumption⟩ | decide) ?_; conv => whnf)
        by_cases hle : g a (21 + t) ≤ left
        · (refine And.intro (fun h => by omega) (fun h => ?_); conv => whnf)
          (refine And.intro (by first | omega | assumption | rfl | exact zin_and | exact ⟨zin_and, by omega⟩ | exact ⟨by omega, zin_and⟩ | exact Nat.le_of_ble_eq_true rfl | exact ⟨Nat.le_of_ble_eq_true rfl, rfl⟩ | exact ⟨Nat.le_of_ble_eq_true rfl, by assumption⟩ | decide) ?_; conv => whnf)
          rw [hmb, zand_nat (by omega) hs]
          have hle2 : mb (g a) t &&& set ≤ mb (g a) t := Nat.and_le_left
          (refine And.intro (by first | omega | assumption | rfl | exact zin_and | exact ⟨zin_and, by omega⟩ | exact ⟨by omega, zin_and⟩ | exact Nat.le_of_ble_eq_true rfl | exact ⟨Nat.le_of_ble_eq_true rfl, rfl⟩ | exact ⟨Nat.le_of_ble_eq_true rfl, by assumption⟩ | decide) ?_; conv => whnf)
          by_cases hz : mb (g a) t &&& set = 0
          · rw [hz]
            (refine And.intro (fun h => by omega) (fun h => ?_); conv => whnf)
            exact hK _ _ _ _ (j true (by simp [mhc, hbit, hz, hle]))
          · (refine And.intro (fun h => ?_) (fun h => by omega); conv => whnf)
            (refine hK _ _ _ _ ?_)
            (refine zW.upto (zC_om _) 1 (fun K hK => ?_); conv => whnf)
            exact hK _ _ _ _ (j false (by simp [mhc, hz]))
        · (refine And.intro (fun h => ?_) (fun h => by omega); conv => whnf)
          (refine hK _ _ _ _ ?_)
          (refine zW.upto (zC_om _) 1 (fun K hK => ?_); conv => whnf)
          exact hK _ _ _ _ (j false (by simp [mhc, hle]))
      · have hbit2 : fr.testBit t = false := by simpa using hbit
        rw [if_neg hbit]
        (refine And.intro (by first | omega | assumption | rfl | exact zin_and | exact ⟨zin_and, by omega⟩ | exact ⟨by omega, zin_and⟩ | exact Nat.le_of_ble_eq_true rfl | exact ⟨Nat.le_of_ble_eq_true rfl, rfl⟩ | exact ⟨Nat.le_of_ble_eq_true rfl, by assumption⟩ | decide) ?_; conv => whnf)
        (refine And.intro (fun h => ?_) (fun h => by omega); conv => whnf)
        (refine hK _ _ _ _ ?_)
        (refine zW.upto (zC_om _) 1 (fun K hK => ?_); conv => whnf)
        exact hK _ _ _ _ (j false (by simp [mhc, hbit2]))
  (refine zW.upto (zC_om _) 18 (fun K hK => ?_); conv => whnf)
  (refine And.intro (by first | omega | assumption | rfl | exact zin_and | exact ⟨zin_and, by omega⟩ | exact ⟨by omega, zin_and⟩ | exact Nat.le_of_ble_eq_true rfl | exact ⟨Nat.le_of_ble_eq_true rfl, rfl⟩ | exact ⟨Nat.le_of_ble_eq_true rfl, by assumption⟩ | decide) ?_; conv => whnf)
  (refine m_free ha hok hi31 ho31 ?_; conv => whnf)
  rw [hfr]
  (refine And.intro (by first | omega | assumption | rfl | exact zin_and | exact ⟨zin_and, by omega⟩ | exact ⟨by omega, zin_and⟩ | exact Nat.le_of_ble_eq_true rfl | exact ⟨Nat.le_of_ble_eq_true rfl, rfl⟩ | exact ⟨Nat.le_of_ble_eq_true rfl, by assumption⟩ | decide) ?_; conv => whnf)
  (refine And.intro (by first | omega | assumption | rfl | exact zin_and | exact ⟨zin_and, by omega⟩ | exact ⟨by omega, zin_and⟩ | exact Nat.le_of_ble_eq_true rfl | exact ⟨Nat.le_of_ble_eq_true rfl, rfl⟩ | exact ⟨Nat.le_of_ble_eq_true rfl, by assumption⟩ | decide) ?_; conv => whnf)
  (refine m_sum ha hn hn12 (by omega) (by omega) hi31 ?_; conv => whnf)
  exact hK _ _ _ _ (loop n 0 _ _ _ _ (by omega) hi31 (by omega) (by rw [← hfr]; exact hQ))
def mfs (s : zS) (n set : Nat) : Nat → Nat → Int
  | 0, _ => -5
  | m + 1, k => if set.testBit (mor s n k) then (mor s n k : Int) else mfs s n set m (k + 1)
/-- the first of a set in the order -/
abbrev mfirst (s : zS) (n set : Nat) : Int := mfs s n set n 0
theorem m_first {d a n set : Nat} {g : zM} {Q : zP} (ha : zkd a = (1, 2845)) (hok : mok (g a) n) (hso : mso g (g a) n) (hs : set < 2 ^ 31) (hQ : Q (some (zI (mfirst (g a) n set))) g) : zC (d + 1) 104 [zR 64, zR a, zI set] g Q := by
  have hk1 : (zkd a).1 = 1 := by rw [ha]
  have hk2 : (zkd a).2 = 2845 := by rw [ha]
  have hk3 := zk71a
  have hk4 := zk71b
  obtain ⟨hn, hn12, hroom, hth⟩ := id hok
  refine zC.go zm_X6_first ⟨rfl, rfl⟩ rfl ?_
  have loop : ∀ (m k : Nat), k + m = n → Q (some (zI (mfs (g a) n set m k))) g → zW zX6_first (zC d) Q 2 [zR 64, zR a, zI set, zI k] [] g := by
    intro m
    induction m with
    | zero =>
      intro k hk hq
      (refine zW.go (zC_om _) (fun K hK => ?_); conv => whnf)
      (refine And.intro (by first | omega | assumption | rfl | exact zin_and | exact ⟨zin_and, by omega⟩ | exact ⟨by omega, zin_and⟩ | exact Nat.le_of_ble_eq_true rfl | exact ⟨Nat.le_of_ble_eq_true rfl, rfl⟩ | exact ⟨Nat.le_of_ble_eq_true rfl, by assumption⟩ | decide) ?_; conv => whnf)
      (refine And.intro (by first | omega | assumption | rfl | exact zin_and | exact ⟨zin_and, by omega⟩ | exact ⟨by omega, zin_and⟩ | exact Nat.le_of_ble_eq_true rfl | exact ⟨Nat.le_of_ble_eq_true rfl, rfl⟩ | exact ⟨Nat.le_of_ble_eq_true rfl, by assumption⟩ | decide) ?_; conv => whnf)
      (refine And.intro (fun h => ?_) (fun h => by omega); conv => whnf)
      (repeat' first | (refine hK _ _ _ _ (zW.go (zC_om _) (fun K hK => ?_)); conv => whnf) | (refine And.intro (by first | omega | assumption | rfl | exact zin_and | exact ⟨zin_and, by omega⟩ | exact ⟨by omega, zin_and⟩ | exact Nat.le_of_ble_eq_true rfl | exact ⟨Nat.le_of_ble_eq_true rfl, rfl⟩ | exact ⟨Nat.le_of_ble_eq_true rfl, by assumption⟩ | decide) ?_; conv => whnf) | (refine And.intro (fun h => ?_) (fun h => ?_) <;> conv => whnf) | (intro h; conv => whnf))
      exact hq
    | succ m ih =>
      intro k hk hq
      have hso1 := hso k (by omega)
      obtain ⟨hmo, -⟩ := mor_spec (s := g a) hok.pos (show k < n by omega)
      have e0 : mfs (g a) n set (m + 1) k = if set.testBit (mor (g a) n k) then (mor (g a) n k : Int) else mfs (g a) n set m (k + 1) := rfl
      rw [e0] at hq
      (refine zW.go (zC_om _) (fun K hK => ?_); conv => whnf)
      (refine And.intro (by first | omega | assumption | rfl | exact zin_and | exact ⟨zin_and, by omega⟩ | exact ⟨by omega, zin_and⟩ | exact Nat.le_of_ble_eq_true rfl | exact ⟨Nat.le_of_ble_eq_true rfl, rfl⟩ | exact ⟨Nat.le_of_ble_eq_true rfl, by assumption⟩ | decide) ?_; conv => whnf)
      (refine And.intro (by first | omega | assumption | rfl | exact zin_and | exact ⟨zin_and, by omega⟩ | exact ⟨by omega, zin_and⟩ | exact Nat.le_of_ble_eq_true rfl | exact ⟨Nat.le_of_ble_eq_true rfl, rfl⟩ | exact ⟨Nat.le_of_ble_eq_true rfl, by assumption⟩ | decide) ?_; conv => whnf)
      (refine And.intro (fun h => by omega) (fun h => ?_); conv => whnf)
      (refine And.intro (by first | omega | assumption | rfl | exact zin_and | exact ⟨zin_and, by omega⟩ | exact ⟨by omega, zin_and⟩ | exact Nat.le_of_ble_eq_true rfl | exact ⟨Nat.le_of_ble_eq_true rfl, rfl⟩ | exact ⟨Nat.le_of_ble_eq_true rfl, by assumption⟩ | decide) ?_; conv => whnf)
      (refine And.intro (by first | omega | assumption | rfl | exact zin_and | exact ⟨zin_and, by omega⟩ | exact ⟨by omega, zin_and⟩ | exact Nat.le_of_ble_eq_true rfl | exact ⟨Nat.le_of_ble_eq_true rfl, rfl⟩ | exact ⟨Nat.le_of_ble_eq_true rfl, by assumption⟩ | decide) ?_; conv => whnf)
      rw [hso1, zbit hs (by omega)]
      by_cases hbit : set.testBit (mor (g a) n k) = true
      · rw [if_pos hbit] at hq ⊢
        (refine And.intro (by first | omega | assumption | rfl | exact zin_and | exact ⟨zin_and, by omega⟩ | exact ⟨by omega, zin_and⟩ | exact Nat.le_of_ble_eq_true rfl | exact ⟨Nat.le_of_ble_eq_true rfl, rfl⟩ | exact ⟨Nat.le_of_ble_eq_true rfl, by assumption⟩ | decide) ?_; conv => whnf)
        (refine And.intro (fun h => by omega) (fun h => ?_); conv => whnf)
        (refine And.intro (by first | omega | assumption | rfl | exact zin_and | exact ⟨zin_and, by omega⟩ | exact ⟨by omega, zin_and⟩ | exact Nat.le_of_ble_eq_true rfl | exact ⟨Nat.le_of_ble_eq_true rfl, rfl⟩ | exact ⟨Nat.le_of_ble_eq_true rfl, by assumption⟩ | decide) ?_; conv => whnf)
        (refine And.intro (by first | omega | assumption | rfl | exact zin_and | exact ⟨zin_and, by omega⟩ | exact ⟨by omega, zin_and⟩ | exact Nat.le_of_ble_eq_true rfl | exact ⟨Nat.le_of_ble_eq_true rfl, rfl⟩ | exact ⟨Nat.le_of_ble_eq_true rfl, by assumption⟩ | decide) ?_; conv => whnf)
        (repeat' first | (refine hK _ _ _ _ (zW.go (zC_om _) (fun K hK => ?_)); conv => whnf) | (refine And.intro (by first | omega | assumption | rfl | exact zin_and | exact ⟨zin_and, by omega⟩ | exact ⟨by omega, zin_and⟩ | exact Nat.le_of_ble_eq_true rfl | exact ⟨Nat.le_of_ble_eq_true rfl, rfl⟩ | exact ⟨Nat.le_of_ble_eq_true rfl, by assumption⟩ | decide) ?_; conv => whnf) | (refine And.intro (fun h => ?_) (fun h => ?_) <;> conv => whnf) | (intro h; conv => whnf))
        rw [hso1]
        exact hq
      · rw [if_neg hbit] at hq ⊢
        (refine And.intro (by first | omega | assumption | rfl | exact zin_and | exact ⟨zin_and, by omega⟩ | exact ⟨by omega, zin_and⟩ | exact Nat.le_of_ble_eq_true rfl | exact ⟨Nat.le_of_ble_eq_true rfl, rfl⟩ | exact ⟨Nat.le_of_ble_eq_true rfl, by assumption⟩ | decide) ?_; conv => whnf)
        (refine And.intro (fun h => ?_) (fun h => by omega); conv => whnf)
        (refine hK _ _ _ _ (zW.go (zC_om _) (fun K hK => ?_)); conv => whnf)
        exact hK _ _ _ _ (ih (k + 1) (by omega) hq)
  (refine zW.upto (zC_om _) 2 (fun K hK => ?_); conv => whnf)
  exact hK _ _ _ _ (loop n 0 (by omega) hQ)
