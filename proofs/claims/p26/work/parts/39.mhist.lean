/-! the reference's history -/
theorem zkd64 : zkd 64 = (0, 6) := rfl
theorem zkd65 : zkd 65 = (1, 2845) := rfl
theorem zkd66 : zkd 66 = (1, 2845) := rfl
theorem zkd67 : zkd 67 = (1, 11380) := rfl
theorem zkd68 : zkd 68 = (1, 2845) := rfl
section MH
variable {g : zM} {d : Nat} {Q : zP}
theorem m_copies {a b ca cb : Nat} {sp dp : Nat} (ha : zkd a = (1, ca)) (hb : zkd b = (1, cb)) (hab : a ≠ b) (hs : sp + 2845 ≤ ca) (hd : dp + 2845 ≤ cb) (hca : ca < 100000) (hcb : cb < 100000)
    (hQ : ∀ g' : zM, (∀ j, j ≠ b → g' j = g j) → (∀ j : Int, g' b j = if dp ≤ j ∧ j < dp + 2845 then g a (sp + (j - dp)) else g b j) → Q none g') : zC (d + 1) 91 [zR a, zI sp, zR b, zI dp] g Q := by
  have ha1 : (zkd a).1 = 1 := by rw [ha]
  have ha2 : (zkd a).2 = ca := by rw [ha]
  have hb1 : (zkd b).1 = 1 := by rw [hb]
  have hb2 : (zkd b).2 = cb := by rw [hb]
  refine zC.go zm_X6_copies ⟨rfl, rfl⟩ rfl ?_
  (refine zW.upto (zC_om _) 2 (fun K hK => ?_); conv => whnf)
  have go : ∀ (r x : Nat) (g2 : zM), x + r = 2845 → (∀ j, j ≠ b → g2 j = g j) → (∀ j : Int, g2 b j = if dp ≤ j ∧ j < dp + x then g a (sp + (j - dp)) else g b j) → zW zX6_copies (zC d) Q 2 [zR a, zI sp, zR b, zI dp, zI x] [] g2 := by
    intro r
    induction r with
    | zero =>
      intro x g2 e hf hrow
      obtain rfl : x = 2845 := by omega
      (refine zW.go (zC_om _) (fun K hK => ?_); conv => whnf)
      (refine And.intro (by first | omega | assumption | rfl | exact zin_and | exact ⟨zin_and, by omega⟩ | exact ⟨by omega, zin_and⟩ | exact Nat.le_of_ble_eq_true rfl | exact ⟨Nat.le_of_ble_eq_true rfl, rfl⟩ | exact ⟨Nat.le_of_ble_eq_true rfl, by assumption⟩ | exact ⟨by omega, Nat.le_of_ble_eq_true rfl⟩ | exact ⟨⟨by assumption, by omega⟩, Nat.le_of_ble_eq_true rfl⟩ | decide) ?_; conv => whnf)
      (refine And.intro (fun h => ?_) (fun h => by omega); conv => whnf)
      (refine hK _ _ _ _ (zW.go (zC_om _) (fun K hK => ?_)); conv => whnf)
      exact ⟨trivial, hQ g2 hf hrow⟩
    | succ r ih =>
      intro x g2 e hf hrow
      (refine zW.go (zC_om _) (fun K hK => ?_); conv => whnf)
      (refine And.intro (by first | omega | assumption | rfl | exact zin_and | exact ⟨zin_and, by omega⟩ | exact ⟨by omega, zin_and⟩ | exact Nat.le_of_ble_eq_true rfl | exact ⟨Nat.le_of_ble_eq_true rfl, rfl⟩ | exact ⟨Nat.le_of_ble_eq_true rfl, by assumption⟩ | exact ⟨by omega, Nat.le_of_ble_eq_true rfl⟩ | exact ⟨⟨by assumption, by omega⟩, Nat.le_of_ble_eq_true rfl⟩ | decide) ?_; conv => whnf)
      (refine And.intro (fun h => by omega) (fun h => ?_); conv => whnf)
      (refine And.intro (by first | omega | assumption | rfl | exact zin_and | exact ⟨zin_and, by omega⟩ | exact ⟨by omega, zin_and⟩ | exact Nat.le_of_ble_eq_true rfl | exact ⟨Nat.le_of_ble_eq_true rfl, rfl⟩ | exact ⟨Nat.le_of_ble_eq_true rfl, by assumption⟩ | exact ⟨by omega, Nat.le_of_ble_eq_true rfl⟩ | exact ⟨⟨by assumption, by omega⟩, Nat.le_of_ble_eq_true rfl⟩ | decide) ?_; conv => whnf)
      (refine And.intro (by first | omega | assumption | rfl | exact zin_and | exact ⟨zin_and, by omega⟩ | exact ⟨by omega, zin_and⟩ | exact Nat.le_of_ble_eq_true rfl | exact ⟨Nat.le_of_ble_eq_true rfl, rfl⟩ | exact ⟨Nat.le_of_ble_eq_true rfl, by assumption⟩ | exact ⟨by omega, Nat.le_of_ble_eq_true rfl⟩ | exact ⟨⟨by assumption, by omega⟩, Nat.le_of_ble_eq_true rfl⟩ | decide) ?_; conv => whnf)
      refine hK _ _ _ _ (ih (x + 1) _ (by omega) (fun j hj => ?_) (fun j => ?_))
      · rw [zup_ne hj, hf j hj]
      · have ea : g2 a = g a := hf a hab
        by_cases c : j = (dp : Int) + x
        · subst c
          rw [zup_s, ea, if_pos (by omega)]
          congr 1
          omega
        · rw [zup_i c, hrow j]
          by_cases c2 : dp ≤ j ∧ j < dp + x
          · rw [if_pos c2, if_pos (by omega)]
          · rw [if_neg c2, if_neg (by omega)]
  exact hK _ _ _ _ (go 2845 0 g (by omega) (fun j hj => rfl) (fun j => by rw [if_neg (by omega)]))
/-- rows that the reference has kept -/
def HistM (g : zM) (z : Nat) (rows : Nat → zS) : Prop := g 64 (3 : Nat) = (z : Int) ∧ z ≤ 4 ∧ ∀ i : Nat, i < z → ∀ j : Int, 0 ≤ j → j < 2845 → g 67 (2845 * i + j) = rows i j
def pushr (z : Nat) (rows : Nat → zS) (s : zS) : Nat → zS := fun i => if z = 4 then (if i < 3 then rows (i + 1) else s) else (if i < z then rows i else s)
def pushz (z : Nat) : Nat := if z = 4 then 4 else z + 1
theorem m_records {z : Nat} {rows : Nat → zS} (hh : HistM g z rows) (hQ : ∀ g' : zM, (∀ j, j ≠ 64 → j ≠ 67 → g' j = g j) → (∀ j : Int, j ≠ 3 → g' 64 j = g 64 j) → HistM g' (pushz z) (pushr z rows (g 65)) → Q none g') : zC (d + 2) 92 [zR 64] g Q := by
  obtain ⟨h3, hz, hrow⟩ := hh
  have k64 := zkd64
  have k67a : (zkd 67).1 = 1 := rfl
  have k67b : (zkd 67).2 = 11380 := rfl
  refine zC.go zm_X6_records ⟨rfl, rfl⟩ rfl ?_
  have j27 : ∀ (z' : Nat) (g2 : zM) (x : zV), z' < 4 → g2 64 (3 : Nat) = (z' : Int) → (∀ j, j ≠ 64 → j ≠ 67 → g2 j = g j) → (∀ j : Int, j ≠ 3 → g2 64 j = g 64 j) → (∀ i : Nat, i < z' → ∀ j : Int, 0 ≤ j → j < 2845 → g2 67 (2845 * i + j) = (if z = 4 then rows (i + 1) else rows i) j) → pushz z = z' + 1 → zW zX6_records (zC (d + 1)) Q 27 [zR 64, x] [] g2 := by
    intro z' g2 x hz' h3' hf hf64 hr2 hpz
    (refine zW.go (zC_om _) (fun K hK => ?_); conv => whnf)
    (refine And.intro (by first | omega | assumption | rfl | exact zin_and | exact ⟨zin_and, by omega⟩ | exact ⟨by omega, zin_and⟩ | exact Nat.le_of_ble_eq_true rfl | exact ⟨Nat.le_of_ble_eq_true rfl, rfl⟩ | exact ⟨Nat.le_of_ble_eq_true rfl, by assumption⟩ | exact ⟨by omega, Nat.le_of_ble_eq_true rfl⟩ | exact ⟨⟨by assumption, by omega⟩, Nat.le_of_ble_eq_true rfl⟩ | decide) ?_; conv => whnf)
    (refine And.intro (by first | omega | assumption | rfl | exact zin_and | exact ⟨zin_and, by omega⟩ | exact ⟨by omega, zin_and⟩ | exact Nat.le_of_ble_eq_true rfl | exact ⟨Nat.le_of_ble_eq_true rfl, rfl⟩ | exact ⟨Nat.le_of_ble_eq_true rfl, by assumption⟩ | exact ⟨by omega, Nat.le_of_ble_eq_true rfl⟩ | exact ⟨⟨by assumption, by omega⟩, Nat.le_of_ble_eq_true rfl⟩ | decide) ?_; conv => whnf)
    (refine And.intro (by first | omega | assumption | rfl | exact zin_and | exact ⟨zin_and, by omega⟩ | exact ⟨by omega, zin_and⟩ | exact Nat.le_of_ble_eq_true rfl | exact ⟨Nat.le_of_ble_eq_true rfl, rfl⟩ | exact ⟨Nat.le_of_ble_eq_true rfl, by assumption⟩ | exact ⟨by omega, Nat.le_of_ble_eq_true rfl⟩ | exact ⟨⟨by assumption, by omega⟩, Nat.le_of_ble_eq_true rfl⟩ | decide) ?_; conv => whnf)
    rw [h3', show (2845 : Int) * (z' : Int) = ((2845 * z' : Nat) : Int) by omega]
    (refine And.intro (by first | omega | assumption | rfl | exact zin_and | exact ⟨zin_and, by omega⟩ | exact ⟨by omega, zin_and⟩ | exact Nat.le_of_ble_eq_true rfl | exact ⟨Nat.le_of_ble_eq_true rfl, rfl⟩ | exact ⟨Nat.le_of_ble_eq_true rfl, by assumption⟩ | exact ⟨by omega, Nat.le_of_ble_eq_true rfl⟩ | exact ⟨⟨by assumption, by omega⟩, Nat.le_of_ble_eq_true rfl⟩ | decide) ?_; conv => whnf)
    (refine m_copies (sp := 0) zkd65 zkd67 (by omega) (by omega) (by omega) (by omega) (by omega) (fun g3 hf3 hr3 => ?_); conv => whnf)
    (refine And.intro (by first | omega | assumption | rfl | exact zin_and | exact ⟨zin_and, by omega⟩ | exact ⟨by omega, zin_and⟩ | exact Nat.le_of_ble_eq_true rfl | exact ⟨Nat.le_of_ble_eq_true rfl, rfl⟩ | exact ⟨Nat.le_of_ble_eq_true rfl, by assumption⟩ | exact ⟨by omega, Nat.le_of_ble_eq_true rfl⟩ | exact ⟨⟨by assumption, by omega⟩, Nat.le_of_ble_eq_true rfl⟩ | decide) ?_; conv => whnf)
    rw [hf3 64 (by omega), h3']
    (refine And.intro ⟨by assumption, fun w => absurd w (by decide)⟩ ?_; conv => whnf)
    refine ⟨trivial, hQ _ (fun j c1 c2 => ?_) (fun j c => ?_) ⟨?_, ?_, fun i hi j j0 j1 => ?_⟩⟩
    · rw [zup_ne c1, hf3 j c2, hf j c1 c2]
    · rw [zup_i (by omega), hf3 64 (by omega), hf64 j c]
    · rw [zup_s, hpz]; omega
    · unfold pushz; split <;> omega
    · rw [zup_ne (by omega), hr3]
      rw [hpz] at hi
      unfold pushr
      by_cases c : i = z'
      · subst c
        rw [if_pos (by omega), hf 65 (by omega) (by omega)]
        have : ∀ x : Int, (if z = 4 then (if i < 3 then rows (i + 1) else g 65) else (if i < z then rows i else g 65)) x = g 65 x := by
          intro x
          unfold pushz at hpz
          by_cases c4 : z = 4
          · rw [if_pos c4] at hpz ⊢
            rw [if_neg (by omega)]
          · rw [if_neg c4] at hpz ⊢
            rw [if_neg (by omega)]
        rw [this]
        congr 1
        omega
      · rw [if_neg (by omega), hr2 i (by omega) j j0 j1]
        unfold pushz at hpz
        by_cases c4 : z = 4
        · rw [if_pos c4] at hpz
          rw [if_pos c4, if_pos c4, if_pos (by omega)]
        · rw [if_neg c4] at hpz
          rw [if_neg c4, if_neg c4, if_pos (by omega)]
  by_cases h4 : z = 4
  · have hpz : pushz z = 3 + 1 := by unfold pushz; rw [if_pos h4]
    have shift : ∀ (r x : Nat) (g2 : zM), x + r = 8535 → (∀ j, j ≠ 67 → g2 j = g j) → (∀ j : Int, g2 67 j = if 0 ≤ j ∧ j < x then g 67 (j + 2845) else g 67 j) → zW zX6_records (zC (d + 1)) Q 6 [zR 64, zI x] [] g2 := by
      intro r
      induction r with
      | zero =>
        intro x g2 e hf hrow2
        obtain rfl : x = 8535 := by omega
        (refine zW.go (zC_om _) (fun K hK => ?_); conv => whnf)
        (refine And.intro (by first | omega | assumption | rfl | exact zin_and | exact ⟨zin_and, by omega⟩ | exact ⟨by omega, zin_and⟩ | exact Nat.le_of_ble_eq_true rfl | exact ⟨Nat.le_of_ble_eq_true rfl, rfl⟩ | exact ⟨Nat.le_of_ble_eq_true rfl, by assumption⟩ | exact ⟨by omega, Nat.le_of_ble_eq_true rfl⟩ | exact ⟨⟨by assumption, by omega⟩, Nat.le_of_ble_eq_true rfl⟩ | decide) ?_; conv => whnf)
        (refine And.intro (fun h => ?_) (fun h => by omega); conv => whnf)
        (refine hK _ _ _ _ ?_)
        (refine zW.upto (zC_om _) 6 (fun K hK => ?_); conv => whnf)
        (refine And.intro (by first | omega | assumption | rfl | exact zin_and | exact ⟨zin_and, by omega⟩ | exact ⟨by omega, zin_and⟩ | exact Nat.le_of_ble_eq_true rfl | exact ⟨Nat.le_of_ble_eq_true rfl, rfl⟩ | exact ⟨Nat.le_of_ble_eq_true rfl, by assumption⟩ | exact ⟨by omega, Nat.le_of_ble_eq_true rfl⟩ | exact ⟨⟨by assumption, by omega⟩, Nat.le_of_ble_eq_true rfl⟩ | decide) ?_; conv => whnf)
        rw [hf 64 (by omega), h3, h4]
        (refine And.intro ⟨by assumption, fun w => absurd w (by decide)⟩ ?_; conv => whnf)
        refine hK _ _ _ _ (j27 3 _ _ (by omega) ?_ (fun j c1 c2 => ?_) (fun j c => ?_) (fun i hi j j0 j1 => ?_) hpz)
        · rw [zup_s]; rfl
        · rw [zup_ne c1, hf j c2]
        · rw [zup_i (by omega), hf 64 (by omega)]
        · rw [zup_ne (by omega), hrow2, if_pos (by omega), if_pos h4]
          have := hrow (i + 1) (by omega) j j0 j1
          rw [← this]
          congr 1
          omega
      | succ r ih =>
        intro x g2 e hf hrow2
        (refine zW.go (zC_om _) (fun K hK => ?_); conv => whnf)
        (refine And.intro (by first | omega | assumption | rfl | exact zin_and | exact ⟨zin_and, by omega⟩ | exact ⟨by omega, zin_and⟩ | exact Nat.le_of_ble_eq_true rfl | exact ⟨Nat.le_of_ble_eq_true rfl, rfl⟩ | exact ⟨Nat.le_of_ble_eq_true rfl, by assumption⟩ | exact ⟨by omega, Nat.le_of_ble_eq_true rfl⟩ | exact ⟨⟨by assumption, by omega⟩, Nat.le_of_ble_eq_true rfl⟩ | decide) ?_; conv => whnf)
        (refine And.intro (fun h => by omega) (fun h => ?_); conv => whnf)
        (refine And.intro (by first | omega | assumption | rfl | exact zin_and | exact ⟨zin_and, by omega⟩ | exact ⟨by omega, zin_and⟩ | exact Nat.le_of_ble_eq_true rfl | exact ⟨Nat.le_of_ble_eq_true rfl, rfl⟩ | exact ⟨Nat.le_of_ble_eq_true rfl, by assumption⟩ | exact ⟨by omega, Nat.le_of_ble_eq_true rfl⟩ | exact ⟨⟨by assumption, by omega⟩, Nat.le_of_ble_eq_true rfl⟩ | decide) ?_; conv => whnf)
        (refine And.intro (by first | omega | assumption | rfl | exact zin_and | exact ⟨zin_and, by omega⟩ | exact ⟨by omega, zin_and⟩ | exact Nat.le_of_ble_eq_true rfl | exact ⟨Nat.le_of_ble_eq_true rfl, rfl⟩ | exact ⟨Nat.le_of_ble_eq_true rfl, by assumption⟩ | exact ⟨by omega, Nat.le_of_ble_eq_true rfl⟩ | exact ⟨⟨by assumption, by omega⟩, Nat.le_of_ble_eq_true rfl⟩ | decide) ?_; conv => whnf)
        (refine And.intro (by first | omega | assumption | rfl | exact zin_and | exact ⟨zin_and, by omega⟩ | exact ⟨by omega, zin_and⟩ | exact Nat.le_of_ble_eq_true rfl | exact ⟨Nat.le_of_ble_eq_true rfl, rfl⟩ | exact ⟨Nat.le_of_ble_eq_true rfl, by assumption⟩ | exact ⟨by omega, Nat.le_of_ble_eq_true rfl⟩ | exact ⟨⟨by assumption, by omega⟩, Nat.le_of_ble_eq_true rfl⟩ | decide) ?_; conv => whnf)
        (refine And.intro (by first | omega | assumption | rfl | exact zin_and | exact ⟨zin_and, by omega⟩ | exact ⟨by omega, zin_and⟩ | exact Nat.le_of_ble_eq_true rfl | exact ⟨Nat.le_of_ble_eq_true rfl, rfl⟩ | exact ⟨Nat.le_of_ble_eq_true rfl, by assumption⟩ | exact ⟨by omega, Nat.le_of_ble_eq_true rfl⟩ | exact ⟨⟨by assumption, by omega⟩, Nat.le_of_ble_eq_true rfl⟩ | decide) ?_; conv => whnf)
        refine hK _ _ _ _ (ih (x + 1) _ (by omega) (fun j hj => ?_) (fun j => ?_))
        · rw [zup_ne hj, hf j hj]
        · by_cases c : j = (x : Int)
          · subst c
            rw [zup_s, hrow2, if_neg (by omega), if_pos (by omega)]
          · rw [zup_i c, hrow2 j]
            by_cases c2 : 0 ≤ j ∧ j < x
            · rw [if_pos c2, if_pos (by omega)]
            · rw [if_neg c2, if_neg (by omega)]
    (refine zW.upto (zC_om _) 6 (fun K hK => ?_); conv => whnf)
    (refine And.intro (by first | omega | assumption | rfl | exact zin_and | exact ⟨zin_and, by omega⟩ | exact ⟨by omega, zin_and⟩ | exact Nat.le_of_ble_eq_true rfl | exact ⟨Nat.le_of_ble_eq_true rfl, rfl⟩ | exact ⟨Nat.le_of_ble_eq_true rfl, by assumption⟩ | exact ⟨by omega, Nat.le_of_ble_eq_true rfl⟩ | exact ⟨⟨by assumption, by omega⟩, Nat.le_of_ble_eq_true rfl⟩ | decide) ?_; conv => whnf)
    rw [h3]
    (refine And.intro (by first | omega | assumption | rfl | exact zin_and | exact ⟨zin_and, by omega⟩ | exact ⟨by omega, zin_and⟩ | exact Nat.le_of_ble_eq_true rfl | exact ⟨Nat.le_of_ble_eq_true rfl, rfl⟩ | exact ⟨Nat.le_of_ble_eq_true rfl, by assumption⟩ | exact ⟨by omega, Nat.le_of_ble_eq_true rfl⟩ | exact ⟨⟨by assumption, by omega⟩, Nat.le_of_ble_eq_true rfl⟩ | decide) ?_; conv => whnf)
    (refine And.intro (fun h => by omega) (fun h => ?_); conv => whnf)
    exact hK _ _ _ _ (shift 8535 0 g (by omega) (fun j hj => rfl) (fun j => by rw [if_neg (by omega)]))
  · have hpz : pushz z = z + 1 := by unfold pushz; rw [if_neg h4]
    (refine zW.go (zC_om _) (fun K hK => ?_); conv => whnf)
    (refine And.intro (by first | omega | assumption | rfl | exact zin_and | exact ⟨zin_and, by omega⟩ | exact ⟨by omega, zin_and⟩ | exact Nat.le_of_ble_eq_true rfl | exact ⟨Nat.le_of_ble_eq_true rfl, rfl⟩ | exact ⟨Nat.le_of_ble_eq_true rfl, by assumption⟩ | exact ⟨by omega, Nat.le_of_ble_eq_true rfl⟩ | exact ⟨⟨by assumption, by omega⟩, Nat.le_of_ble_eq_true rfl⟩ | decide) ?_; conv => whnf)
    rw [h3]
    (refine And.intro (by first | omega | assumption | rfl | exact zin_and | exact ⟨zin_and, by omega⟩ | exact ⟨by omega, zin_and⟩ | exact Nat.le_of_ble_eq_true rfl | exact ⟨Nat.le_of_ble_eq_true rfl, rfl⟩ | exact ⟨Nat.le_of_ble_eq_true rfl, by assumption⟩ | exact ⟨by omega, Nat.le_of_ble_eq_true rfl⟩ | exact ⟨⟨by assumption, by omega⟩, Nat.le_of_ble_eq_true rfl⟩ | decide) ?_; conv => whnf)
    (refine And.intro (fun h => ?_) (fun h => by omega); conv => whnf)
    exact hK _ _ _ _ (j27 z g _ (by omega) h3 (fun j _ _ => rfl) (fun j _ => rfl) (fun i hi j j0 j1 => by rw [if_neg h4]; exact hrow i hi j j0 j1) hpz)
theorem m_undo {z : Nat} {rows : Nat → zS} (hh : HistM g (z + 1) rows) (hQ : ∀ g' : zM, (∀ j, j ≠ 64 → j ≠ 65 → g' j = g j) → (∀ j : Int, j ≠ 3 → g' 64 j = g 64 j) → HistM g' z rows → (∀ j : Int, 0 ≤ j → j < 2845 → g' 65 j = rows z j) → Q (some (zI z)) g') : zC (d + 2) 93 [zR 64] g Q := by
  obtain ⟨h3, hz, hrow⟩ := hh
  have k64 := zkd64
  have hz3 : (zup g 64 (3 : Nat) (((z + 1 : Nat) : Int) - 1)) 64 (3 : Nat) = (z : Int) := by rw [zup_s]; omega
  refine zC.go zm_X6_undo ⟨rfl, rfl⟩ rfl ?_
  (refine zW.go (zC_om _) (fun K hK => ?_); conv => whnf)
  (refine And.intro (by first | omega | assumption | rfl | exact zin_and | exact ⟨zin_and, by omega⟩ | exact ⟨by omega, zin_and⟩ | exact Nat.le_of_ble_eq_true rfl | exact ⟨Nat.le_of_ble_eq_true rfl, rfl⟩ | exact ⟨Nat.le_of_ble_eq_true rfl, by assumption⟩ | exact ⟨by omega, Nat.le_of_ble_eq_true rfl⟩ | exact ⟨⟨by assumption, by omega⟩, Nat.le_of_ble_eq_true rfl⟩ | decide) ?_; conv => whnf)
  rw [h3]
  (refine And.intro (by first | omega | assumption | rfl | exact zin_and | exact ⟨zin_and, by omega⟩ | exact ⟨by omega, zin_and⟩ | exact Nat.le_of_ble_eq_true rfl | exact ⟨Nat.le_of_ble_eq_true rfl, rfl⟩ | exact ⟨Nat.le_of_ble_eq_true rfl, by assumption⟩ | exact ⟨by omega, Nat.le_of_ble_eq_true rfl⟩ | exact ⟨⟨by assumption, by omega⟩, Nat.le_of_ble_eq_true rfl⟩ | decide) ?_; conv => whnf)
  (refine And.intro (fun h => ?_) (fun h => by omega); conv => whnf)
  (refine hK _ _ _ _ (zW.go (zC_om _) (fun K hK => ?_)); conv => whnf)
  (refine And.intro (by first | omega | assumption | rfl | exact zin_and | exact ⟨zin_and, by omega⟩ | exact ⟨by omega, zin_and⟩ | exact Nat.le_of_ble_eq_true rfl | exact ⟨Nat.le_of_ble_eq_true rfl, rfl⟩ | exact ⟨Nat.le_of_ble_eq_true rfl, by assumption⟩ | exact ⟨by omega, Nat.le_of_ble_eq_true rfl⟩ | exact ⟨⟨by assumption, by omega⟩, Nat.le_of_ble_eq_true rfl⟩ | decide) ?_; conv => whnf)
  rw [h3]
  (refine And.intro ⟨by assumption, fun w => absurd w (by decide)⟩ ?_; conv => whnf)
  (refine And.intro (by first | omega | assumption | rfl | exact zin_and | exact ⟨zin_and, by omega⟩ | exact ⟨by omega, zin_and⟩ | exact Nat.le_of_ble_eq_true rfl | exact ⟨Nat.le_of_ble_eq_true rfl, rfl⟩ | exact ⟨Nat.le_of_ble_eq_true rfl, by assumption⟩ | exact ⟨by omega, Nat.le_of_ble_eq_true rfl⟩ | exact ⟨⟨by assumption, by omega⟩, Nat.le_of_ble_eq_true rfl⟩ | decide) ?_; conv => whnf)
  (refine And.intro (by first | omega | assumption | rfl | exact zin_and | exact ⟨zin_and, by omega⟩ | exact ⟨by omega, zin_and⟩ | exact Nat.le_of_ble_eq_true rfl | exact ⟨Nat.le_of_ble_eq_true rfl, rfl⟩ | exact ⟨Nat.le_of_ble_eq_true rfl, by assumption⟩ | exact ⟨by omega, Nat.le_of_ble_eq_true rfl⟩ | exact ⟨⟨by assumption, by omega⟩, Nat.le_of_ble_eq_true rfl⟩ | decide) ?_; conv => whnf)
  rw [hz3, show (2845 : Int) * (z : Int) = ((2845 * z : Nat) : Int) by omega]
  (refine And.intro (by first | omega | assumption | rfl | exact zin_and | exact ⟨zin_and, by omega⟩ | exact ⟨by omega, zin_and⟩ | exact Nat.le_of_ble_eq_true rfl | exact ⟨Nat.le_of_ble_eq_true rfl, rfl⟩ | exact ⟨Nat.le_of_ble_eq_true rfl, by assumption⟩ | exact ⟨by omega, Nat.le_of_ble_eq_true rfl⟩ | exact ⟨⟨by assumption, by omega⟩, Nat.le_of_ble_eq_true rfl⟩ | decide) ?_; conv => whnf)
  (refine And.intro (by first | omega | assumption | rfl | exact zin_and | exact ⟨zin_and, by omega⟩ | exact ⟨by omega, zin_and⟩ | exact Nat.le_of_ble_eq_true rfl | exact ⟨Nat.le_of_ble_eq_true rfl, rfl⟩ | exact ⟨Nat.le_of_ble_eq_true rfl, by assumption⟩ | exact ⟨by omega, Nat.le_of_ble_eq_true rfl⟩ | exact ⟨⟨by assumption, by omega⟩, Nat.le_of_ble_eq_true rfl⟩ | decide) ?_; conv => whnf)
  (refine m_copies (dp := 0) zkd67 zkd65 (by omega) (by omega) (by omega) (by omega) (by omega) (fun g3 hf3 hr3 => ?_); conv => whnf)
  (refine And.intro (by first | omega | assumption | rfl | exact zin_and | exact ⟨zin_and, by omega⟩ | exact ⟨by omega, zin_and⟩ | exact Nat.le_of_ble_eq_true rfl | exact ⟨Nat.le_of_ble_eq_true rfl, rfl⟩ | exact ⟨Nat.le_of_ble_eq_true rfl, by assumption⟩ | exact ⟨by omega, Nat.le_of_ble_eq_true rfl⟩ | exact ⟨⟨by assumption, by omega⟩, Nat.le_of_ble_eq_true rfl⟩ | decide) ?_; conv => whnf)
  rw [hf3 64 (by omega), hz3]
  refine ⟨⟨fun w => absurd w (by decide), fun w => absurd w (by decide)⟩, hQ g3 (fun j c1 c2 => ?_) (fun j c => ?_) ⟨?_, by omega, fun i hi j j0 j1 => ?_⟩ (fun j j0 j1 => ?_)⟩
  · rw [hf3 j c2, zup_ne c1]
  · rw [hf3 64 (by omega), zup_i (by omega)]
  · rw [hf3 64 (by omega), hz3]
  · rw [hf3 67 (by omega), zup_ne (by omega)]
    exact hrow i (by omega) j j0 j1
  · rw [hr3, if_pos (by omega), zup_ne (by omega), ← hrow z (by omega) j j0 j1]
    congr 1
    omega
theorem m_keep (hQ : ∀ g' : zM, (∀ j, j ≠ 64 → j ≠ 68 → g' j = g j) → (∀ j : Int, j ≠ 5 → g' 64 j = g 64 j) → g' 64 (5 : Nat) = 1 → (∀ j : Int, 0 ≤ j → j < 2845 → g' 68 j = g 65 j) → Q (some (zI (g 65 0))) g') : zC (d + 2) 94 [zR 64] g Q := by
  have k64 := zkd64
  refine zC.go zm_X6_keep ⟨rfl, rfl⟩ rfl ?_
  (refine zW.go (zC_om _) (fun K hK => ?_); conv => whnf)
  (refine And.intro (by first | omega | assumption | rfl | exact zin_and | exact ⟨zin_and, by omega⟩ | exact ⟨by omega, zin_and⟩ | exact Nat.le_of_ble_eq_true rfl | exact ⟨Nat.le_of_ble_eq_true rfl, rfl⟩ | exact ⟨Nat.le_of_ble_eq_true rfl, by assumption⟩ | exact ⟨by omega, Nat.le_of_ble_eq_true rfl⟩ | exact ⟨⟨by assumption, by omega⟩, Nat.le_of_ble_eq_true rfl⟩ | decide) ?_; conv => whnf)
  (refine And.intro (by first | omega | assumption | rfl | exact zin_and | exact ⟨zin_and, by omega⟩ | exact ⟨by omega, zin_and⟩ | exact Nat.le_of_ble_eq_true rfl | exact ⟨Nat.le_of_ble_eq_true rfl, rfl⟩ | exact ⟨Nat.le_of_ble_eq_true rfl, by assumption⟩ | exact ⟨by omega, Nat.le_of_ble_eq_true rfl⟩ | exact ⟨⟨by assumption, by omega⟩, Nat.le_of_ble_eq_true rfl⟩ | decide) ?_; conv => whnf)
  (refine And.intro (by first | omega | assumption | rfl | exact zin_and | exact ⟨zin_and, by omega⟩ | exact ⟨by omega, zin_and⟩ | exact Nat.le_of_ble_eq_true rfl | exact ⟨Nat.le_of_ble_eq_true rfl, rfl⟩ | exact ⟨Nat.le_of_ble_eq_true rfl, by assumption⟩ | exact ⟨by omega, Nat.le_of_ble_eq_true rfl⟩ | exact ⟨⟨by assumption, by omega⟩, Nat.le_of_ble_eq_true rfl⟩ | decide) ?_; conv => whnf)
  (refine m_copies (sp := 0) (dp := 0) zkd65 zkd68 (by omega) (by omega) (by omega) (by omega) (by omega) (fun g3 hf3 hr3 => ?_); conv => whnf)
  refine And.intro ⟨by assumption, fun _ => Or.inr rfl⟩ ?_
  conv => whnf
  (refine And.intro (by first | omega | assumption | rfl | exact zin_and | exact ⟨zin_and, by omega⟩ | exact ⟨by omega, zin_and⟩ | exact Nat.le_of_ble_eq_true rfl | exact ⟨Nat.le_of_ble_eq_true rfl, rfl⟩ | exact ⟨Nat.le_of_ble_eq_true rfl, by assumption⟩ | exact ⟨by omega, Nat.le_of_ble_eq_true rfl⟩ | exact ⟨⟨by assumption, by omega⟩, Nat.le_of_ble_eq_true rfl⟩ | decide) ?_; conv => whnf)
  (refine And.intro (by first | omega | assumption | rfl | exact zin_and | exact ⟨zin_and, by omega⟩ | exact ⟨by omega, zin_and⟩ | exact Nat.le_of_ble_eq_true rfl | exact ⟨Nat.le_of_ble_eq_true rfl, rfl⟩ | exact ⟨Nat.le_of_ble_eq_true rfl, by assumption⟩ | exact ⟨by omega, Nat.le_of_ble_eq_true rfl⟩ | exact ⟨⟨by assumption, by omega⟩, Nat.le_of_ble_eq_true rfl⟩ | decide) ?_; conv => whnf)
  have e65 : (zup g3 64 (5 : Nat) 1) 65 = g 65 := by rw [zup_ne (by omega), hf3 65 (by omega)]
  have e650 : (zup g3 64 (5 : Nat) 1) 65 0 = g 65 0 := by rw [e65]
  rw [e650]
  refine ⟨⟨fun w => absurd w (by decide), fun w => absurd w (by decide)⟩, hQ _ (fun j c1 c2 => ?_) (fun j c => ?_) zup_s (fun j j0 j1 => ?_)⟩
  · rw [zup_ne c1, hf3 j c2]
  · rw [zup_i (by omega), hf3 64 (by omega)]
  · rw [zup_ne (by omega), hr3, if_pos (by omega)]
    congr 1
    omega
theorem m_undo0 (h3 : g 64 (3 : Nat) = 0) (hQ : Q (some (zI (-5))) g) : zC (d + 2) 93 [zR 64] g Q := by
  have k64 := zkd64
  refine zC.go zm_X6_undo ⟨rfl, rfl⟩ rfl ?_
  (refine zW.go (zC_om _) (fun K hK => ?_); conv => whnf)
  (refine And.intro (by first | omega | assumption | rfl | exact zin_and | exact ⟨zin_and, by omega⟩ | exact ⟨by omega, zin_and⟩ | exact Nat.le_of_ble_eq_true rfl | exact ⟨Nat.le_of_ble_eq_true rfl, rfl⟩ | exact ⟨Nat.le_of_ble_eq_true rfl, by assumption⟩ | exact ⟨by omega, Nat.le_of_ble_eq_true rfl⟩ | exact ⟨⟨by assumption, by omega⟩, Nat.le_of_ble_eq_true rfl⟩ | decide) ?_; conv => whnf)
  rw [h3]
  (refine And.intro (by first | omega | assumption | rfl | exact zin_and | exact ⟨zin_and, by omega⟩ | exact ⟨by omega, zin_and⟩ | exact Nat.le_of_ble_eq_true rfl | exact ⟨Nat.le_of_ble_eq_true rfl, rfl⟩ | exact ⟨Nat.le_of_ble_eq_true rfl, by assumption⟩ | exact ⟨by omega, Nat.le_of_ble_eq_true rfl⟩ | exact ⟨⟨by assumption, by omega⟩, Nat.le_of_ble_eq_true rfl⟩ | decide) ?_; conv => whnf)
  (refine And.intro (fun h => by omega) (fun h => ?_); conv => whnf)
  (refine And.intro (by first | omega | assumption | rfl | exact zin_and | exact ⟨zin_and, by omega⟩ | exact ⟨by omega, zin_and⟩ | exact Nat.le_of_ble_eq_true rfl | exact ⟨Nat.le_of_ble_eq_true rfl, rfl⟩ | exact ⟨Nat.le_of_ble_eq_true rfl, by assumption⟩ | exact ⟨by omega, Nat.le_of_ble_eq_true rfl⟩ | exact ⟨⟨by assumption, by omega⟩, Nat.le_of_ble_eq_true rfl⟩ | decide) ?_; conv => whnf)
  exact hQ
theorem m_restore0 (h5 : g 64 (5 : Nat) = 0) (hQ : Q (some (zI (-5))) g) : zC (d + 2) 95 [zR 64] g Q := by
  have k64 := zkd64
  refine zC.go zm_X6_restore ⟨rfl, rfl⟩ rfl ?_
  (refine zW.go (zC_om _) (fun K hK => ?_); conv => whnf)
  (refine And.intro (by first | omega | assumption | rfl | exact zin_and | exact ⟨zin_and, by omega⟩ | exact ⟨by omega, zin_and⟩ | exact Nat.le_of_ble_eq_true rfl | exact ⟨Nat.le_of_ble_eq_true rfl, rfl⟩ | exact ⟨Nat.le_of_ble_eq_true rfl, by assumption⟩ | exact ⟨by omega, Nat.le_of_ble_eq_true rfl⟩ | exact ⟨⟨by assumption, by omega⟩, Nat.le_of_ble_eq_true rfl⟩ | decide) ?_; conv => whnf)
  rw [h5]
  (refine And.intro (by first | omega | assumption | rfl | exact zin_and | exact ⟨zin_and, by omega⟩ | exact ⟨by omega, zin_and⟩ | exact Nat.le_of_ble_eq_true rfl | exact ⟨Nat.le_of_ble_eq_true rfl, rfl⟩ | exact ⟨Nat.le_of_ble_eq_true rfl, by assumption⟩ | exact ⟨by omega, Nat.le_of_ble_eq_true rfl⟩ | exact ⟨⟨by assumption, by omega⟩, Nat.le_of_ble_eq_true rfl⟩ | decide) ?_; conv => whnf)
  (refine And.intro (fun h => by omega) (fun h => ?_); conv => whnf)
  (refine And.intro (by first | omega | assumption | rfl | exact zin_and | exact ⟨zin_and, by omega⟩ | exact ⟨by omega, zin_and⟩ | exact Nat.le_of_ble_eq_true rfl | exact ⟨Nat.le_of_ble_eq_true rfl, rfl⟩ | exact ⟨Nat.le_of_ble_eq_true rfl, by assumption⟩ | exact ⟨by omega, Nat.le_of_ble_eq_true rfl⟩ | exact ⟨⟨by assumption, by omega⟩, Nat.le_of_ble_eq_true rfl⟩ | decide) ?_; conv => whnf)
  exact hQ
theorem m_restore {z : Nat} {rows : Nat → zS} (hh : HistM g z rows) (h5 : g 64 (5 : Nat) = 1) (hQ : ∀ g' : zM, (∀ j, j ≠ 64 → j ≠ 65 → j ≠ 67 → g' j = g j) → (∀ j : Int, j ≠ 3 → g' 64 j = g 64 j) → HistM g' (pushz z) (pushr z rows (g 65)) → (∀ j : Int, 0 ≤ j → j < 2845 → g' 65 j = g 68 j) → Q (some (zI (g 68 0))) g') : zC (d + 3) 95 [zR 64] g Q := by
  have k64 := zkd64
  refine zC.go zm_X6_restore ⟨rfl, rfl⟩ rfl ?_
  (refine zW.go (zC_om _) (fun K hK => ?_); conv => whnf)
  (refine And.intro (by first | omega | assumption | rfl | exact zin_and | exact ⟨zin_and, by omega⟩ | exact ⟨by omega, zin_and⟩ | exact Nat.le_of_ble_eq_true rfl | exact ⟨Nat.le_of_ble_eq_true rfl, rfl⟩ | exact ⟨Nat.le_of_ble_eq_true rfl, by assumption⟩ | exact ⟨by omega, Nat.le_of_ble_eq_true rfl⟩ | exact ⟨⟨by assumption, by omega⟩, Nat.le_of_ble_eq_true rfl⟩ | decide) ?_; conv => whnf)
  rw [h5]
  (refine And.intro (by first | omega | assumption | rfl | exact zin_and | exact ⟨zin_and, by omega⟩ | exact ⟨by omega, zin_and⟩ | exact Nat.le_of_ble_eq_true rfl | exact ⟨Nat.le_of_ble_eq_true rfl, rfl⟩ | exact ⟨Nat.le_of_ble_eq_true rfl, by assumption⟩ | exact ⟨by omega, Nat.le_of_ble_eq_true rfl⟩ | exact ⟨⟨by assumption, by omega⟩, Nat.le_of_ble_eq_true rfl⟩ | decide) ?_; conv => whnf)
  (refine And.intro (fun h => ?_) (fun h => by omega); conv => whnf)
  (refine hK _ _ _ _ (zW.go (zC_om _) (fun K hK => ?_)); conv => whnf)
  (refine And.intro (by first | omega | assumption | rfl | exact zin_and | exact ⟨zin_and, by omega⟩ | exact ⟨by omega, zin_and⟩ | exact Nat.le_of_ble_eq_true rfl | exact ⟨Nat.le_of_ble_eq_true rfl, rfl⟩ | exact ⟨Nat.le_of_ble_eq_true rfl, by assumption⟩ | exact ⟨by omega, Nat.le_of_ble_eq_true rfl⟩ | exact ⟨⟨by assumption, by omega⟩, Nat.le_of_ble_eq_true rfl⟩ | decide) ?_; conv => whnf)
  (refine m_records hh (fun g1 hf1 hf64 hh1 => ?_); conv => whnf)
  (refine And.intro (by first | omega | assumption | rfl | exact zin_and | exact ⟨zin_and, by omega⟩ | exact ⟨by omega, zin_and⟩ | exact Nat.le_of_ble_eq_true rfl | exact ⟨Nat.le_of_ble_eq_true rfl, rfl⟩ | exact ⟨Nat.le_of_ble_eq_true rfl, by assumption⟩ | exact ⟨by omega, Nat.le_of_ble_eq_true rfl⟩ | exact ⟨⟨by assumption, by omega⟩, Nat.le_of_ble_eq_true rfl⟩ | decide) ?_; conv => whnf)
  (refine And.intro (by first | omega | assumption | rfl | exact zin_and | exact ⟨zin_and, by omega⟩ | exact ⟨by omega, zin_and⟩ | exact Nat.le_of_ble_eq_true rfl | exact ⟨Nat.le_of_ble_eq_true rfl, rfl⟩ | exact ⟨Nat.le_of_ble_eq_true rfl, by assumption⟩ | exact ⟨by omega, Nat.le_of_ble_eq_true rfl⟩ | exact ⟨⟨by assumption, by omega⟩, Nat.le_of_ble_eq_true rfl⟩ | decide) ?_; conv => whnf)
  (refine And.intro (by first | omega | assumption | rfl | exact zin_and | exact ⟨zin_and, by omega⟩ | exact ⟨by omega, zin_and⟩ | exact Nat.le_of_ble_eq_true rfl | exact ⟨Nat.le_of_ble_eq_true rfl, rfl⟩ | exact ⟨Nat.le_of_ble_eq_true rfl, by assumption⟩ | exact ⟨by omega, Nat.le_of_ble_eq_true rfl⟩ | exact ⟨⟨by assumption, by omega⟩, Nat.le_of_ble_eq_true rfl⟩ | decide) ?_; conv => whnf)
  (refine m_copies (sp := 0) (dp := 0) zkd68 zkd65 (by omega) (by omega) (by omega) (by omega) (by omega) (fun g3 hf3 hr3 => ?_); conv => whnf)
  have e : g3 65 0 = g 68 0 := by rw [hr3, if_pos (by omega), hf1 68 (by omega) (by omega)]; rfl
  (refine And.intro (by first | omega | assumption | rfl | exact zin_and | exact ⟨zin_and, by omega⟩ | exact ⟨by omega, zin_and⟩ | exact Nat.le_of_ble_eq_true rfl | exact ⟨Nat.le_of_ble_eq_true rfl, rfl⟩ | exact ⟨Nat.le_of_ble_eq_true rfl, by assumption⟩ | exact ⟨by omega, Nat.le_of_ble_eq_true rfl⟩ | exact ⟨⟨by assumption, by omega⟩, Nat.le_of_ble_eq_true rfl⟩ | decide) ?_; conv => whnf)
  (refine And.intro (by first | omega | assumption | rfl | exact zin_and | exact ⟨zin_and, by omega⟩ | exact ⟨by omega, zin_and⟩ | exact Nat.le_of_ble_eq_true rfl | exact ⟨Nat.le_of_ble_eq_true rfl, rfl⟩ | exact ⟨Nat.le_of_ble_eq_true rfl, by assumption⟩ | exact ⟨by omega, Nat.le_of_ble_eq_true rfl⟩ | exact ⟨⟨by assumption, by omega⟩, Nat.le_of_ble_eq_true rfl⟩ | decide) ?_; conv => whnf)
  rw [e]
  refine ⟨⟨fun w => absurd w (by decide), fun w => absurd w (by decide)⟩, hQ _ (fun j c1 c2 c3 => ?_) (fun j c => ?_) ⟨?_, hh1.2.1, fun i hi j j0 j1 => ?_⟩ (fun j j0 j1 => ?_)⟩
  · rw [hf3 j c2, hf1 j c1 c3]
  · rw [hf3 64 (by omega), hf64 j c]
  · rw [hf3 64 (by omega)]; exact hh1.1
  · rw [hf3 67 (by omega)]; exact hh1.2.2 i hi j j0 j1
  · rw [hr3, if_pos (by omega), hf1 68 (by omega) (by omega)]
    congr 1
    omega
theorem m_forgets (hQ : Q none (zup (zup (zup (zup (zup g 65 4 0) 65 5 0) 65 6 0) 65 7 0) 65 8 0)) : zC (d + 1) 116 [zR 64] g Q := by
  have k64 := zkd64
  have k65a : (zkd 65).1 = 1 := rfl
  have k65b : (zkd 65).2 = 2845 := rfl
  refine zC.go zm_X6_forgets ⟨rfl, rfl⟩ rfl ?_
  (refine zW.go (zC_om _) (fun K hK => ?_); conv => whnf)
  (repeat' first | (refine hK _ _ _ _ (zW.go (zC_om _) (fun K hK => ?_)); conv => whnf) | (refine And.intro (by first | omega | assumption | rfl | exact zin_and | exact ⟨zin_and, by omega⟩ | exact ⟨by omega, zin_and⟩ | exact Nat.le_of_ble_eq_true rfl | exact ⟨Nat.le_of_ble_eq_true rfl, rfl⟩ | exact ⟨Nat.le_of_ble_eq_true rfl, by assumption⟩ | exact ⟨by omega, Nat.le_of_ble_eq_true rfl⟩ | exact ⟨⟨by assumption, by omega⟩, Nat.le_of_ble_eq_true rfl⟩ | decide) ?_; conv => whnf) | (refine And.intro (fun h => ?_) (fun h => ?_) <;> conv => whnf) | (intro h; conv => whnf))
  exact hQ
theorem forgets_row {g : zM} : (zup (zup (zup (zup (zup g 65 4 0) 65 5 0) 65 6 0) 65 7 0) 65 8 0) 65 = mfg (g 65) := by
  rw [zup_ru, zup_ru, zup_ru, zup_ru, zup_ru]
  rfl
/-- a node is open: as the class asks it, as the reference counts it -/
theorem mtk_cn (s : zS) : ∀ k : Nat, mtk s 0 k = -5 ↔ mcn s 0 k = 0
  | 0 => ⟨fun _ => rfl, fun _ => rfl⟩
  | k + 1 => by
    have ih := mtk_cn s k
    have hr := mtk_rng s 0 k
    show (if nd s k 4 = 0 ∧ (mtk s 0 k = -5 ∨ (0 : Int) = 0 ∨ _) then (k : Int) else mtk s 0 k) = -5 ↔ mcn s 0 k + (if decide (nd s k 4 = 0) = true then 1 else 0) = 0
    by_cases h : nd s k 4 = 0
    · rw [if_pos ⟨h, Or.inr (Or.inl rfl)⟩, if_pos (decide_eq_true h)]
      omega
    · rw [if_neg (fun w => h w.1), if_neg (by simpa using h)]
      omega
theorem m_goesOn {n m : Nat} (hinv : minv (g 65) n m) (hQ : Q (some (zI (if mtk (g 65) 0 m = -5 then 0 else 1))) g) : zC (d + 3) 115 [zR 64] g Q := by
  have k64 := zkd64
  obtain ⟨hok, -, -, -, ⟨hm5, hm⟩, -, hnodes, -⟩ := id hinv
  have hz : ∀ k : Nat, k < m → zin (nd (g 65) k 4) := fun k hk => ((hnodes k hk).rng hok).1
  have hle := zcnt_le m (fun j => decide (nd (g 65) j 4 = 0))
  have hle : mcn (g 65) 0 m ≤ m := hle
  have e := mtk_cn (g 65) m
  refine zC.go zm_X6_goesOn ⟨rfl, rfl⟩ rfl ?_
  (refine zW.go (zC_om _) (fun K hK => ?_); conv => whnf)
  (refine And.intro (by first | omega | assumption | rfl | exact zin_and | exact ⟨zin_and, by omega⟩ | exact ⟨by omega, zin_and⟩ | exact Nat.le_of_ble_eq_true rfl | exact ⟨Nat.le_of_ble_eq_true rfl, rfl⟩ | exact ⟨Nat.le_of_ble_eq_true rfl, by assumption⟩ | exact ⟨by omega, Nat.le_of_ble_eq_true rfl⟩ | exact ⟨⟨by assumption, by omega⟩, Nat.le_of_ble_eq_true rfl⟩ | decide) ?_; conv => whnf)
  (refine And.intro (by first | omega | assumption | rfl | exact zin_and | exact ⟨zin_and, by omega⟩ | exact ⟨by omega, zin_and⟩ | exact Nat.le_of_ble_eq_true rfl | exact ⟨Nat.le_of_ble_eq_true rfl, rfl⟩ | exact ⟨Nat.le_of_ble_eq_true rfl, by assumption⟩ | exact ⟨by omega, Nat.le_of_ble_eq_true rfl⟩ | exact ⟨⟨by assumption, by omega⟩, Nat.le_of_ble_eq_true rfl⟩ | decide) ?_; conv => whnf)
  (refine m_many zkd65 hm5 hm (how := 0) (by omega) hz ?_; conv => whnf)
  (refine And.intro (by first | omega | assumption | rfl | exact zin_and | exact ⟨zin_and, by omega⟩ | exact ⟨by omega, zin_and⟩ | exact Nat.le_of_ble_eq_true rfl | exact ⟨Nat.le_of_ble_eq_true rfl, rfl⟩ | exact ⟨Nat.le_of_ble_eq_true rfl, by assumption⟩ | exact ⟨by omega, Nat.le_of_ble_eq_true rfl⟩ | exact ⟨⟨by assumption, by omega⟩, Nat.le_of_ble_eq_true rfl⟩ | decide) ?_; conv => whnf)
  by_cases h : mtk (g 65) 0 m = -5
  · rw [if_pos h] at hQ
    have := e.1 h
    (refine And.intro (fun h => ?_) (fun h => by omega); conv => whnf)
    (repeat' first | (refine hK _ _ _ _ (zW.go (zC_om _) (fun K hK => ?_)); conv => whnf) | (refine And.intro (by first | omega | assumption | rfl | exact zin_and | exact ⟨zin_and, by omega⟩ | exact ⟨by omega, zin_and⟩ | exact Nat.le_of_ble_eq_true rfl | exact ⟨Nat.le_of_ble_eq_true rfl, rfl⟩ | exact ⟨Nat.le_of_ble_eq_true rfl, by assumption⟩ | exact ⟨by omega, Nat.le_of_ble_eq_true rfl⟩ | exact ⟨⟨by assumption, by omega⟩, Nat.le_of_ble_eq_true rfl⟩ | decide) ?_; conv => whnf) | (refine And.intro (fun h => ?_) (fun h => ?_) <;> conv => whnf) | (intro h; conv => whnf))
    exact hQ
  · rw [if_neg h] at hQ
    have : mcn (g 65) 0 m ≠ 0 := fun w => h (e.2 w)
    (refine And.intro (fun h => by omega) (fun h => ?_); conv => whnf)
    (repeat' first | (refine hK _ _ _ _ (zW.go (zC_om _) (fun K hK => ?_)); conv => whnf) | (refine And.intro (by first | omega | assumption | rfl | exact zin_and | exact ⟨zin_and, by omega⟩ | exact ⟨by omega, zin_and⟩ | exact Nat.le_of_ble_eq_true rfl | exact ⟨Nat.le_of_ble_eq_true rfl, rfl⟩ | exact ⟨Nat.le_of_ble_eq_true rfl, by assumption⟩ | exact ⟨by omega, Nat.le_of_ble_eq_true rfl⟩ | exact ⟨⟨by assumption, by omega⟩, Nat.le_of_ble_eq_true rfl⟩ | decide) ?_; conv => whnf) | (refine And.intro (fun h => ?_) (fun h => ?_) <;> conv => whnf) | (intro h; conv => whnf))
    exact hQ
end MH
