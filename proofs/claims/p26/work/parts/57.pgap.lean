/-! the gap -/
def mgp (s : zS) : Nat → Int
  | 0 => s 7
  | k + 1 => if nd s k 4 = 0 ∧ mgp s k < nd s k 3 then nd s k 3 else mgp s k
theorem mgp_eq {s : zS} : ∀ k : Nat, mgp s k = if mtk s 1 k = -5 then s 7 else max (s 7) (nd s (mtk s 1 k) 3)
  | 0 => by
    have e : mtk s 1 0 = -5 := rfl
    rw [if_pos e]
    rfl
  | k + 1 => by
    have ih := mgp_eq (s := s) k
    have hr := mtk_rng s 1 k
    rw [mgp, mtk]
    by_cases h4 : nd s k 4 = 0
    · by_cases h5 : mtk s 1 k = -5
      · rw [if_pos h5] at ih
        have hk : ¬ ((k : Int) = -5) := by omega
        rw [if_pos (show nd s k 4 = 0 ∧ (mtk s 1 k = -5 ∨ _) from ⟨h4, Or.inl h5⟩), if_neg hk, ih]
        by_cases c : s 7 < nd s k 3
        · rw [if_pos ⟨h4, c⟩]; omega
        · rw [if_neg (fun w => c w.2)]; omega
      · rw [if_neg h5] at ih
        by_cases c2 : nd s (mtk s 1 k) 3 < nd s k 3
        · have hk : ¬ ((k : Int) = -5) := by omega
          rw [if_pos (show nd s k 4 = 0 ∧ (mtk s 1 k = -5 ∨ (1 : Int) = 0 ∨ (1 : Int) = 1 ∧ nd s (mtk s 1 k) 3 < nd s k 3) from ⟨h4, Or.inr (Or.inr ⟨rfl, c2⟩)⟩), if_neg hk, ih]
          by_cases c : max (s 7) (nd s (mtk s 1 k) 3) < nd s k 3
          · rw [if_pos ⟨h4, c⟩]; omega
          · rw [if_neg (fun w => c w.2)]; omega
        · have hno : ¬ (nd s k 4 = 0 ∧ (mtk s 1 k = -5 ∨ (1 : Int) = 0 ∨ (1 : Int) = 1 ∧ nd s (mtk s 1 k) 3 < nd s k 3)) := by
            rintro ⟨-, q | q | q⟩
            · exact h5 q
            · exact absurd q (by decide)
            · exact c2 q.2
          rw [if_neg hno, if_neg h5, ih]
          have hno2 : ¬ (nd s k 4 = 0 ∧ max (s 7) (nd s (mtk s 1 k) 3) < nd s k 3) := by
            rintro ⟨-, q⟩
            omega
          rw [if_neg hno2]
    · have hno : ¬ (nd s k 4 = 0 ∧ (mtk s 1 k = -5 ∨ (1 : Int) = 0 ∨ (1 : Int) = 1 ∧ nd s (mtk s 1 k) 3 < nd s k 3)) := fun w => h4 w.1
      have hno2 : ¬ (nd s k 4 = 0 ∧ mgp s k < nd s k 3) := fun w => h4 w.1
      rw [if_neg hno, if_neg hno2, ih]
section PGA
variable {g : zM} {d : Nat} {Q : zP}
theorem m_gap {n m : Nat} (hw : minw (g 65) n m) (hQ : Q (some (zI (if mtk (g 65) 1 m = -5 then 0 else max 0 (nd (g 65) (mtk (g 65) 1 m) 3 - g 65 7)))) g) : zC (d + 3) 145 [zR 64] g Q := by
  have k64 := zkd64
  have k65a : (zkd 65).1 = 1 := rfl
  have k65b : (zkd 65).2 = 2845 := rfl
  have hm := hw.m400
  have hm5 : g 65 5 = (m : Int) := hw.1.2.2.2.2.1.1
  have h7 := hw.1.2.2.2.2.2.2.2.1
  have hz : ∀ k : Nat, k < m → zin (nd (g 65) k 4) ∧ zin (nd (g 65) k 3) := fun k hk => (hw.1.2.2.2.2.2.2.1 k hk).rng hw.1.1
  have e := mgp_eq (s := g 65) m
  have rngp : ∀ k : Nat, k ≤ m → zin (mgp (g 65) k) := by
    intro k
    induction k with
    | zero => intro _; show zin (g 65 7); omega
    | succ k ih =>
      intro hk
      rw [mgp]
      split
      · exact (hz k (by omega)).2
      · exact ih (by omega)
  refine zC.go zm_X6_gap ⟨rfl, rfl⟩ rfl ?_
  have loop : ∀ (r k : Nat) (x : zV), k + r = m → zW zX6_gap (zC (d + 2)) Q 7 [zR 64, zI (mgp (g 65) k), zI k, x] [] g := by
    intro r
    induction r with
    | zero =>
      intro k x hk
      obtain rfl : k = m := by omega
      (refine zW.go (zC_om _) (fun K hK => ?_); conv => whnf)
      (refine And.intro (by first | omega | assumption | rfl | exact zin_and | exact ⟨zin_and, by omega⟩ | exact ⟨by omega, zin_and⟩ | exact Nat.le_of_ble_eq_true rfl | exact ⟨Nat.le_of_ble_eq_true rfl, rfl⟩ | exact ⟨Nat.le_of_ble_eq_true rfl, by assumption⟩ | exact ⟨by omega, Nat.le_of_ble_eq_true rfl⟩ | exact ⟨⟨by assumption, by omega⟩, Nat.le_of_ble_eq_true rfl⟩ | decide) ?_; conv => whnf)
      (refine And.intro (by first | omega | assumption | rfl | exact zin_and | exact ⟨zin_and, by omega⟩ | exact ⟨by omega, zin_and⟩ | exact Nat.le_of_ble_eq_true rfl | exact ⟨Nat.le_of_ble_eq_true rfl, rfl⟩ | exact ⟨Nat.le_of_ble_eq_true rfl, by assumption⟩ | exact ⟨by omega, Nat.le_of_ble_eq_true rfl⟩ | exact ⟨⟨by assumption, by omega⟩, Nat.le_of_ble_eq_true rfl⟩ | decide) ?_; conv => whnf)
      rw [hm5]
      (refine And.intro (by first | omega | assumption | rfl | exact zin_and | exact ⟨zin_and, by omega⟩ | exact ⟨by omega, zin_and⟩ | exact Nat.le_of_ble_eq_true rfl | exact ⟨Nat.le_of_ble_eq_true rfl, rfl⟩ | exact ⟨Nat.le_of_ble_eq_true rfl, by assumption⟩ | exact ⟨by omega, Nat.le_of_ble_eq_true rfl⟩ | exact ⟨⟨by assumption, by omega⟩, Nat.le_of_ble_eq_true rfl⟩ | decide) ?_; conv => whnf)
      (refine And.intro (fun h => ?_) (fun h => by omega); conv => whnf)
      (refine hK _ _ _ _ (zW.go (zC_om _) (fun K hK => ?_)); conv => whnf)
      (refine And.intro (by first | omega | assumption | rfl | exact zin_and | exact ⟨zin_and, by omega⟩ | exact ⟨by omega, zin_and⟩ | exact Nat.le_of_ble_eq_true rfl | exact ⟨Nat.le_of_ble_eq_true rfl, rfl⟩ | exact ⟨Nat.le_of_ble_eq_true rfl, by assumption⟩ | exact ⟨by omega, Nat.le_of_ble_eq_true rfl⟩ | exact ⟨⟨by assumption, by omega⟩, Nat.le_of_ble_eq_true rfl⟩ | decide) ?_; conv => whnf)
      (refine And.intro (by first | omega | assumption | rfl | exact zin_and | exact ⟨zin_and, by omega⟩ | exact ⟨by omega, zin_and⟩ | exact Nat.le_of_ble_eq_true rfl | exact ⟨Nat.le_of_ble_eq_true rfl, rfl⟩ | exact ⟨Nat.le_of_ble_eq_true rfl, by assumption⟩ | exact ⟨by omega, Nat.le_of_ble_eq_true rfl⟩ | exact ⟨⟨by assumption, by omega⟩, Nat.le_of_ble_eq_true rfl⟩ | decide) ?_; conv => whnf)
      refine ⟨⟨fun w => absurd w (by decide), fun w => absurd w (by decide)⟩, zQe hQ ?_⟩
      rw [e]
      split <;> omega
    | succ r ih =>
      intro k x hk
      have ih := fun x => ih (k + 1) x (by omega)
      rw [mgp] at ih
      obtain ⟨z4, z3⟩ := hz k (by omega)
      have zg := rngp k (by omega)
      generalize mgp (g 65) k = b at *
      have no : ∀ x, ¬ (nd (g 65) k 4 = 0 ∧ b < nd (g 65) k 3) → zW zX6_gap (zC (d + 2)) Q 28 [zR 64, zI b, zI k, x] [] g := by
        intro x hn
        rw [if_neg hn] at ih
        (refine zW.go (zC_om _) (fun K hK => ?_); conv => whnf)
        (refine And.intro (by first | omega | assumption | rfl | exact zin_and | exact ⟨zin_and, by omega⟩ | exact ⟨by omega, zin_and⟩ | exact Nat.le_of_ble_eq_true rfl | exact ⟨Nat.le_of_ble_eq_true rfl, rfl⟩ | exact ⟨Nat.le_of_ble_eq_true rfl, by assumption⟩ | exact ⟨by omega, Nat.le_of_ble_eq_true rfl⟩ | exact ⟨⟨by assumption, by omega⟩, Nat.le_of_ble_eq_true rfl⟩ | decide) ?_; conv => whnf)
        (refine And.intro (fun h => ?_) (fun h => by omega); conv => whnf)
        (refine hK _ _ _ _ (zW.go (zC_om _) (fun K hK => ?_)); conv => whnf)
        exact hK _ _ _ _ (ih _)
      (refine zW.upto (zC_om _) 20 (fun K hK => ?_); conv => whnf)
      (refine And.intro (by first | omega | assumption | rfl | exact zin_and | exact ⟨zin_and, by omega⟩ | exact ⟨by omega, zin_and⟩ | exact Nat.le_of_ble_eq_true rfl | exact ⟨Nat.le_of_ble_eq_true rfl, rfl⟩ | exact ⟨Nat.le_of_ble_eq_true rfl, by assumption⟩ | exact ⟨by omega, Nat.le_of_ble_eq_true rfl⟩ | exact ⟨⟨by assumption, by omega⟩, Nat.le_of_ble_eq_true rfl⟩ | decide) ?_; conv => whnf)
      (refine And.intro (by first | omega | assumption | rfl | exact zin_and | exact ⟨zin_and, by omega⟩ | exact ⟨by omega, zin_and⟩ | exact Nat.le_of_ble_eq_true rfl | exact ⟨Nat.le_of_ble_eq_true rfl, rfl⟩ | exact ⟨Nat.le_of_ble_eq_true rfl, by assumption⟩ | exact ⟨by omega, Nat.le_of_ble_eq_true rfl⟩ | exact ⟨⟨by assumption, by omega⟩, Nat.le_of_ble_eq_true rfl⟩ | decide) ?_; conv => whnf)
      rw [hm5]
      (refine And.intro (by first | omega | assumption | rfl | exact zin_and | exact ⟨zin_and, by omega⟩ | exact ⟨by omega, zin_and⟩ | exact Nat.le_of_ble_eq_true rfl | exact ⟨Nat.le_of_ble_eq_true rfl, rfl⟩ | exact ⟨Nat.le_of_ble_eq_true rfl, by assumption⟩ | exact ⟨by omega, Nat.le_of_ble_eq_true rfl⟩ | exact ⟨⟨by assumption, by omega⟩, Nat.le_of_ble_eq_true rfl⟩ | decide) ?_; conv => whnf)
      (refine And.intro (fun h => by omega) (fun h => ?_); conv => whnf)
      (refine And.intro (by first | omega | assumption | rfl | exact zin_and | exact ⟨zin_and, by omega⟩ | exact ⟨by omega, zin_and⟩ | exact Nat.le_of_ble_eq_true rfl | exact ⟨Nat.le_of_ble_eq_true rfl, rfl⟩ | exact ⟨Nat.le_of_ble_eq_true rfl, by assumption⟩ | exact ⟨by omega, Nat.le_of_ble_eq_true rfl⟩ | exact ⟨⟨by assumption, by omega⟩, Nat.le_of_ble_eq_true rfl⟩ | decide) ?_; conv => whnf)
      (refine And.intro (by first | omega | assumption | rfl | exact zin_and | exact ⟨zin_and, by omega⟩ | exact ⟨by omega, zin_and⟩ | exact Nat.le_of_ble_eq_true rfl | exact ⟨Nat.le_of_ble_eq_true rfl, rfl⟩ | exact ⟨Nat.le_of_ble_eq_true rfl, by assumption⟩ | exact ⟨by omega, Nat.le_of_ble_eq_true rfl⟩ | exact ⟨⟨by assumption, by omega⟩, Nat.le_of_ble_eq_true rfl⟩ | decide) ?_; conv => whnf)
      (refine m_of zkd65 (by omega) (by omega) ?_; conv => whnf)
      (refine And.intro (by first | omega | assumption | rfl | exact zin_and | exact ⟨zin_and, by omega⟩ | exact ⟨by omega, zin_and⟩ | exact Nat.le_of_ble_eq_true rfl | exact ⟨Nat.le_of_ble_eq_true rfl, rfl⟩ | exact ⟨Nat.le_of_ble_eq_true rfl, by assumption⟩ | exact ⟨by omega, Nat.le_of_ble_eq_true rfl⟩ | exact ⟨⟨by assumption, by omega⟩, Nat.le_of_ble_eq_true rfl⟩ | decide) ?_; conv => whnf)
      by_cases h4 : nd (g 65) k 4 = 0
      · (refine And.intro (fun h => by omega) (fun h => ?_); conv => whnf)
        (refine And.intro (by first | omega | assumption | rfl | exact zin_and | exact ⟨zin_and, by omega⟩ | exact ⟨by omega, zin_and⟩ | exact Nat.le_of_ble_eq_true rfl | exact ⟨Nat.le_of_ble_eq_true rfl, rfl⟩ | exact ⟨Nat.le_of_ble_eq_true rfl, by assumption⟩ | exact ⟨by omega, Nat.le_of_ble_eq_true rfl⟩ | exact ⟨⟨by assumption, by omega⟩, Nat.le_of_ble_eq_true rfl⟩ | decide) ?_; conv => whnf)
        (refine And.intro (by first | omega | assumption | rfl | exact zin_and | exact ⟨zin_and, by omega⟩ | exact ⟨by omega, zin_and⟩ | exact Nat.le_of_ble_eq_true rfl | exact ⟨Nat.le_of_ble_eq_true rfl, rfl⟩ | exact ⟨Nat.le_of_ble_eq_true rfl, by assumption⟩ | exact ⟨by omega, Nat.le_of_ble_eq_true rfl⟩ | exact ⟨⟨by assumption, by omega⟩, Nat.le_of_ble_eq_true rfl⟩ | decide) ?_; conv => whnf)
        (refine m_of zkd65 (by omega) (by omega) ?_; conv => whnf)
        (refine And.intro (by first | omega | assumption | rfl | exact zin_and | exact ⟨zin_and, by omega⟩ | exact ⟨by omega, zin_and⟩ | exact Nat.le_of_ble_eq_true rfl | exact ⟨Nat.le_of_ble_eq_true rfl, rfl⟩ | exact ⟨Nat.le_of_ble_eq_true rfl, by assumption⟩ | exact ⟨by omega, Nat.le_of_ble_eq_true rfl⟩ | exact ⟨⟨by assumption, by omega⟩, Nat.le_of_ble_eq_true rfl⟩ | decide) ?_; conv => whnf)
        by_cases h3 : b < nd (g 65) k 3
        · rw [if_pos ⟨h4, h3⟩] at ih
          (refine And.intro (fun h => by omega) (fun h => ?_); conv => whnf)
          refine hK _ _ _ _ (zW.go (zC_om _) (fun K hK => ?_))
          conv => whnf
          refine hK _ _ _ _ (zW.go (zC_om _) (fun K hK => ?_))
          conv => whnf
          (refine And.intro (by first | omega | assumption | rfl | exact zin_and | exact ⟨zin_and, by omega⟩ | exact ⟨by omega, zin_and⟩ | exact Nat.le_of_ble_eq_true rfl | exact ⟨Nat.le_of_ble_eq_true rfl, rfl⟩ | exact ⟨Nat.le_of_ble_eq_true rfl, by assumption⟩ | exact ⟨by omega, Nat.le_of_ble_eq_true rfl⟩ | exact ⟨⟨by assumption, by omega⟩, Nat.le_of_ble_eq_true rfl⟩ | decide) ?_; conv => whnf)
          (refine And.intro (fun h => by omega) (fun h => ?_); conv => whnf)
          (refine And.intro (by first | omega | assumption | rfl | exact zin_and | exact ⟨zin_and, by omega⟩ | exact ⟨by omega, zin_and⟩ | exact Nat.le_of_ble_eq_true rfl | exact ⟨Nat.le_of_ble_eq_true rfl, rfl⟩ | exact ⟨Nat.le_of_ble_eq_true rfl, by assumption⟩ | exact ⟨by omega, Nat.le_of_ble_eq_true rfl⟩ | exact ⟨⟨by assumption, by omega⟩, Nat.le_of_ble_eq_true rfl⟩ | decide) ?_; conv => whnf)
          (refine And.intro (by first | omega | assumption | rfl | exact zin_and | exact ⟨zin_and, by omega⟩ | exact ⟨by omega, zin_and⟩ | exact Nat.le_of_ble_eq_true rfl | exact ⟨Nat.le_of_ble_eq_true rfl, rfl⟩ | exact ⟨Nat.le_of_ble_eq_true rfl, by assumption⟩ | exact ⟨by omega, Nat.le_of_ble_eq_true rfl⟩ | exact ⟨⟨by assumption, by omega⟩, Nat.le_of_ble_eq_true rfl⟩ | decide) ?_; conv => whnf)
          (refine m_of zkd65 (by omega) (by omega) ?_; conv => whnf)
          refine hK _ _ _ _ (zW.go (zC_om _) (fun K hK => ?_))
          conv => whnf
          exact hK _ _ _ _ (ih _)
        · (refine And.intro (fun h => ?_) (fun h => by omega); conv => whnf)
          exact hK _ _ _ _ (no _ (fun w => h3 w.2))
      · (refine And.intro (fun h => ?_) (fun h => by omega); conv => whnf)
        exact hK _ _ _ _ (no _ (fun w => h4 w.1))
  (refine zW.upto (zC_om _) 7 (fun K hK => ?_); conv => whnf)
  (refine And.intro (by first | omega | assumption | rfl | exact zin_and | exact ⟨zin_and, by omega⟩ | exact ⟨by omega, zin_and⟩ | exact Nat.le_of_ble_eq_true rfl | exact ⟨Nat.le_of_ble_eq_true rfl, rfl⟩ | exact ⟨Nat.le_of_ble_eq_true rfl, by assumption⟩ | exact ⟨by omega, Nat.le_of_ble_eq_true rfl⟩ | exact ⟨⟨by assumption, by omega⟩, Nat.le_of_ble_eq_true rfl⟩ | decide) ?_; conv => whnf)
  (refine And.intro (by first | omega | assumption | rfl | exact zin_and | exact ⟨zin_and, by omega⟩ | exact ⟨by omega, zin_and⟩ | exact Nat.le_of_ble_eq_true rfl | exact ⟨Nat.le_of_ble_eq_true rfl, rfl⟩ | exact ⟨Nat.le_of_ble_eq_true rfl, by assumption⟩ | exact ⟨by omega, Nat.le_of_ble_eq_true rfl⟩ | exact ⟨⟨by assumption, by omega⟩, Nat.le_of_ble_eq_true rfl⟩ | decide) ?_; conv => whnf)
  exact hK _ _ _ _ (loop m 0 _ (by omega))
end PGA
