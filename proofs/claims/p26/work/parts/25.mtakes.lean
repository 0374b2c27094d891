/-! the reference: a step takes a node -/
abbrev ndi (s : zS) (k : Int) : Nat := (nd s k 5).toNat
abbrev ndo (s : zS) (k : Int) : Nat := (nd s k 6).toNat
/-- the row with one step more, and with the heel's sum if it is better -/
def mtk2 (s : zS) (n : Nat) (k : Int) : zS :=
  if s 7 < bsum s 9 (mheel s n (ndi s k) (ndo s k)) n then ru (ru (ru s 6 (s 6 + 1)) 7 (bsum s 9 (mheel s n (ndi s k) (ndo s k)) n)) 8 (mheel s n (ndi s k) (ndo s k) : Nat) else ru s 6 (s 6 + 1)
/-- .. and with its two children -/
def mtk4 (s : zS) (n : Nat) (k : Int) : zS :=
  mmk (mmk (ru (mtk2 s n k) (45 + 7 * k + 4) 4) n k (mbranch s n (ndi s k) (ndo s k) (s 3)) 0 (ndi s k) (ndo s k ||| 2 ^ (mbranch s n (ndi s k) (ndo s k) (s 3)).toNat)) n k (mbranch s n (ndi s k) (ndo s k) (s 3)) 1 (ndi s k ||| 2 ^ (mbranch s n (ndi s k) (ndo s k) (s 3)).toNat) (ndo s k)
def mtakes (s : zS) (n : Nat) (k : Int) : Int × zS :=
  if nd s k 3 ≤ s 7 then (1, ru (ru s 6 (s 6 + 1)) (45 + 7 * k + 4) 1)
  else if nd s k 3 ≤ bsum s 9 (mheel s n (ndi s k) (ndo s k)) n then (2, ru (mtk2 s n k) (45 + 7 * k + 4) 2)
  else if 400 < s 5 + 2 then (-3, mtk2 s n k)
  else (4, mtk4 s n k)
theorem mtk2_old {s : zS} {n : Nat} {k j : Int} (h : j ≠ 6 ∧ j ≠ 7 ∧ j ≠ 8) : mtk2 s n k j = s j := by
  unfold mtk2
  split
  · rw [ru_n (by omega), ru_n (by omega), ru_n (by omega)]
  · rw [ru_n (by omega)]
theorem mtk2_ag {s : zS} {n : Nat} {k : Int} : magr s (mtk2 s n k) := ⟨(mtk2_old (by omega)).symm, (mtk2_old (by omega)).symm, fun j h1 h2 => (mtk2_old (by omega)).symm⟩
theorem mtk2_7 {s : zS} {n : Nat} {k : Int} (hok : mok s n) (h7 : 0 ≤ s 7 ∧ s 7 ≤ 1188) : 0 ≤ mtk2 s n k 7 ∧ mtk2 s n k 7 ≤ 1188 := by
  have := msumw (set := mheel s n (ndi s k) (ndo s k)) hok
  unfold mtk2
  split
  · rw [ru_n (by omega), ru_s]; exact this
  · rw [ru_n (by omega)]; exact h7
/-- what is branched on is a free thing -/
theorem mbranch_free {s : zS} {n i o : Nat} {c : Int} (hok : mok s n) (hp : mposs s n i = true) (h : ¬ mchild s n i o ≤ bsum s 9 (mheel s n i o) n) : ∃ t : Nat, mbranch s n i o c = (t : Int) ∧ t < n ∧ (mfree s n i o).testBit t = true := by
  have hf : mfree s n i o ≠ 0 := by
    intro q
    obtain ⟨e1, e2⟩ := mfree0 q
    apply h
    unfold mchild
    rw [if_pos hp, e1, e2]
    exact Int.le_refl _
  obtain ⟨h1, h2, h3⟩ := mbranch_rng (c := c) hok hf
  exact ⟨(mbranch s n i o c).toNat, by omega, by omega, h3⟩
set_option maxHeartbeats 2000000 in
theorem m_takes {d a n m k : Nat} {g : zM} {Q : zP} (ha : zkd a = (1, 2845)) (hinv : minv (g a) n m) (hso : mso g (g a) n) (h71 : a ≠ 71) (hk : k < m) (hop : nd (g a) k 4 = 0)
    (hQ : ∀ g' : zM, (∀ j, j ≠ a → g' j = g j) → g' a = (mtakes (g a) n k).2 → Q (some (zI (mtakes (g a) n k).1)) g') : zC (d + 7) 114 [zR 64, zR a, zI k] g Q := by
  have hk1 : (zkd a).1 = 1 := by rw [ha]
  have hk2 : (zkd a).2 = 2845 := by rw [ha]
  obtain ⟨hok, hsym, h2r, h3r, ⟨hm, hm4⟩, h4, hnodes, h7, h8, h0⟩ := id hinv
  have hn12 := hok.2.1
  have h2n := zp12 hn12
  obtain ⟨i, o, hi, ho, hil, hol, h3, hh4, hps, -, -⟩ := hnodes k hk
  have hps := hps hop
  have hcr := mchild_rng (i := i) (o := o) hok
  have hii : ndi (g a) k = i := by unfold ndi; rw [hi]; rfl
  have hoo : ndo (g a) k = o := by unfold ndo; rw [ho]; rfl
  have hhl := mheel_lt (o := o) hok hil
  have hhs := msumw (set := mheel (g a) n i o) hok
  unfold mtakes at hQ
  rw [hii, hoo, h3] at hQ
  have e2 : mtk2 (g a) n k = if g a 7 < bsum (g a) 9 (mheel (g a) n i o) n then ru (ru (ru (g a) 6 (g a 6 + 1)) 7 (bsum (g a) 9 (mheel (g a) n i o) n)) 8 (mheel (g a) n i o : Nat) else ru (g a) 6 (g a 6 + 1) := by
    unfold mtk2
    rw [hii, hoo]
  have e4 : mtk4 (g a) n k = mmk (mmk (ru (mtk2 (g a) n k) (45 + 7 * k + 4) 4) n k (mbranch (g a) n i o (g a 3)) 0 i (o ||| 2 ^ (mbranch (g a) n i o (g a 3)).toNat)) n k (mbranch (g a) n i o (g a 3)) 1 (i ||| 2 ^ (mbranch (g a) n i o (g a 3)).toNat) o := by
    unfold mtk4
    rw [hii, hoo]
  have h3' : g a (45 + 7 * k + 3) = mchild (g a) n i o := h3
  have hi' : g a (45 + 7 * k + 5) = (i : Int) := hi
  have ho' : g a (45 + 7 * k + 6) = (o : Int) := ho
  refine zC.go zm_X6_takes ⟨rfl, rfl⟩ rfl ?_
  have j62 : ¬ mchild (g a) n i o ≤ g a 7 → ∀ (g2 : zM) (x6 : zV), (∀ j, j ≠ a → g2 j = g j) → g2 a = mtk2 (g a) n k → zW zX6_takes (zC (d + 6)) Q 62 [zR 64, zR a, zI k, zI (45 + 7 * k), zI (mheel (g a) n i o : Nat), zI (bsum (g a) 9 (mheel (g a) n i o) n), x6] [] g2 := by
    intro hc7 g2 x6 hf2 hr2
    rw [if_neg hc7] at hQ
    have rd : ∀ j : Int, j ≠ 6 ∧ j ≠ 7 ∧ j ≠ 8 → g2 a j = g a j := fun j hj => by rw [hr2, mtk2_old hj]
    have r3 := rd (45 + 7 * k + 3) (by omega)
    have r5 := rd (45 + 7 * k + 5) (by omega)
    have r6 := rd (45 + 7 * k + 6) (by omega)
    have rm := rd 5 (by omega)
    have rc := rd 3 (by omega)
    have hag2 : magr (g a) (g2 a) := by rw [hr2]; exact mtk2_ag
    have hso2 : mso g2 (g2 a) n := by
      refine ag_so hag2 hn12 (fun j hj => ?_)
      rw [hf2 71 (Ne.symm h71)]
      exact hso j hj
    (refine zW.go (zC_om _) (fun K hK => ?_); conv => whnf)
    (refine And.intro (by first | omega | assumption | rfl | exact zin_and | exact ⟨zin_and, by omega⟩ | exact ⟨by omega, zin_and⟩ | exact Nat.le_of_ble_eq_true rfl | exact ⟨Nat.le_of_ble_eq_true rfl, rfl⟩ | exact ⟨Nat.le_of_ble_eq_true rfl, by assumption⟩ | decide) ?_; conv => whnf)
    rw [r3, h3']
    (refine And.intro (by first | omega | assumption | rfl | exact zin_and | exact ⟨zin_and, by omega⟩ | exact ⟨by omega, zin_and⟩ | exact Nat.le_of_ble_eq_true rfl | exact ⟨Nat.le_of_ble_eq_true rfl, rfl⟩ | exact ⟨Nat.le_of_ble_eq_true rfl, by assumption⟩ | decide) ?_; conv => whnf)
    by_cases c2 : mchild (g a) n i o ≤ bsum (g a) 9 (mheel (g a) n i o) n
    · rw [if_pos c2] at hQ
      (refine And.intro (fun h => by omega) (fun h => ?_); conv => whnf)
      (refine And.intro (by first | omega | assumption | rfl | exact zin_and | exact ⟨zin_and, by omega⟩ | exact ⟨by omega, zin_and⟩ | exact Nat.le_of_ble_eq_true rfl | exact ⟨Nat.le_of_ble_eq_true rfl, rfl⟩ | exact ⟨Nat.le_of_ble_eq_true rfl, by assumption⟩ | decide) ?_; conv => whnf)
      (refine And.intro (by first | omega | assumption | rfl | exact zin_and | exact ⟨zin_and, by omega⟩ | exact ⟨by omega, zin_and⟩ | exact Nat.le_of_ble_eq_true rfl | exact ⟨Nat.le_of_ble_eq_true rfl, rfl⟩ | exact ⟨Nat.le_of_ble_eq_true rfl, by assumption⟩ | decide) ?_; conv => whnf)
      refine hQ _ (fun j hj => ?_) ?_
      · rw [zup_ne hj]; exact hf2 j hj
      · rw [zup_ru, hr2]
    · rw [if_neg c2] at hQ
      (refine And.intro (fun h => ?_) (fun h => by omega); conv => whnf)
      (refine hK _ _ _ _ (zW.go (zC_om _) (fun K hK => ?_)); conv => whnf)
      (refine And.intro (by first | omega | assumption | rfl | exact zin_and | exact ⟨zin_and, by omega⟩ | exact ⟨by omega, zin_and⟩ | exact Nat.le_of_ble_eq_true rfl | exact ⟨Nat.le_of_ble_eq_true rfl, rfl⟩ | exact ⟨Nat.le_of_ble_eq_true rfl, by assumption⟩ | decide) ?_; conv => whnf)
      rw [rm]
      (refine And.intro (by first | omega | assumption | rfl | exact zin_and | exact ⟨zin_and, by omega⟩ | exact ⟨by omega, zin_and⟩ | exact Nat.le_of_ble_eq_true rfl | exact ⟨Nat.le_of_ble_eq_true rfl, rfl⟩ | exact ⟨Nat.le_of_ble_eq_true rfl, by assumption⟩ | decide) ?_; conv => whnf)
      by_cases c3 : 400 < g a 5 + 2
      · rw [if_pos c3] at hQ
        (refine And.intro (fun h => by omega) (fun h => ?_); conv => whnf)
        (refine And.intro (by first | omega | assumption | rfl | exact zin_and | exact ⟨zin_and, by omega⟩ | exact ⟨by omega, zin_and⟩ | exact Nat.le_of_ble_eq_true rfl | exact ⟨Nat.le_of_ble_eq_true rfl, rfl⟩ | exact ⟨Nat.le_of_ble_eq_true rfl, by assumption⟩ | decide) ?_; conv => whnf)
        exact hQ _ hf2 hr2
      · rw [if_neg c3] at hQ
        obtain ⟨t, ht, htn, hbt⟩ := mbranch_free (c := g a 3) hok hps c2
        obtain ⟨-, hti, hto⟩ := mfree_free hbt
        have h2t : 2 ^ t < 2 ^ n := Nat.pow_lt_pow_right (by decide) htn
        (refine And.intro (fun h => ?_) (fun h => by omega); conv => whnf)
        (refine hK _ _ _ _ (zW.go (zC_om _) (fun K hK => ?_)); conv => whnf)
        (refine And.intro (by first | omega | assumption | rfl | exact zin_and | exact ⟨zin_and, by omega⟩ | exact ⟨by omega, zin_and⟩ | exact Nat.le_of_ble_eq_true rfl | exact ⟨Nat.le_of_ble_eq_true rfl, rfl⟩ | exact ⟨Nat.le_of_ble_eq_true rfl, by assumption⟩ | decide) ?_; conv => whnf)
        rw [r5, hi']
        (refine And.intro (by first | omega | assumption | rfl | exact zin_and | exact ⟨zin_and, by omega⟩ | exact ⟨by omega, zin_and⟩ | exact Nat.le_of_ble_eq_true rfl | exact ⟨Nat.le_of_ble_eq_true rfl, rfl⟩ | exact ⟨Nat.le_of_ble_eq_true rfl, by assumption⟩ | decide) ?_; conv => whnf)
        rw [r6, ho']
        (refine And.intro (by first | omega | assumption | rfl | exact zin_and | exact ⟨zin_and, by omega⟩ | exact ⟨by omega, zin_and⟩ | exact Nat.le_of_ble_eq_true rfl | exact ⟨Nat.le_of_ble_eq_true rfl, rfl⟩ | exact ⟨Nat.le_of_ble_eq_true rfl, by assumption⟩ | decide) ?_; conv => whnf)
        rw [rc]
        (refine And.intro (by first | omega | assumption | rfl | exact zin_and | exact ⟨zin_and, by omega⟩ | exact ⟨by omega, zin_and⟩ | exact Nat.le_of_ble_eq_true rfl | exact ⟨Nat.le_of_ble_eq_true rfl, rfl⟩ | exact ⟨Nat.le_of_ble_eq_true rfl, by assumption⟩ | decide) ?_; conv => whnf)
        (refine m_branch ha (hag2.ok hok) hso2 hil (by omega) h3r ?_; conv => whnf)
        rw [← ag_branch hag2 hn12 hok.pos, ht]
        (refine And.intro (by first | omega | assumption | rfl | exact zin_and | exact ⟨zin_and, by omega⟩ | exact ⟨by omega, zin_and⟩ | exact Nat.le_of_ble_eq_true rfl | exact ⟨Nat.le_of_ble_eq_true rfl, rfl⟩ | exact ⟨Nat.le_of_ble_eq_true rfl, by assumption⟩ | decide) ?_; conv => whnf)
        (refine And.intro (by first | omega | assumption | rfl | exact zin_and | exact ⟨zin_and, by omega⟩ | exact ⟨by omega, zin_and⟩ | exact Nat.le_of_ble_eq_true rfl | exact ⟨Nat.le_of_ble_eq_true rfl, rfl⟩ | exact ⟨Nat.le_of_ble_eq_true rfl, by assumption⟩ | decide) ?_; conv => whnf)
        refine m_makesC (b := false) (m := m) ha ((hag2.up (by omega)).ok hok) (ag_so (s := g2 a) (magr.rfl.up (by omega)) hn12 (hso2.up h71)) h71 (by rw [zup_i (by omega), rm, hm]) (by omega) (by omega) (by omega) (i := i) (o := o) ?_ ?_ (by omega) (by omega) ?_ (fun g4 hf4 hr4 => ?_)
        · show (zup g2 a (45 + 7 * k + 4) 4) a (45 + 7 * k + 5) = _
          rw [zup_i (by omega), r5, hi']
        · show (zup g2 a (45 + 7 * k + 4) 4) a (45 + 7 * k + 6) = _
          rw [zup_i (by omega), r6, ho']
        · have := mtk2_7 (k := k) hok h7
          rw [← hr2] at this
          rw [zup_i (by omega)]
          omega
        · rw [zup_ru, hr2] at hr4
          rw [if_neg (by decide), if_neg (by decide)] at hr4
          have hz5 : (ru (mtk2 (g a) n k) (45 + 7 * k + 4) 4) 5 = (m : Int) := by
            rw [ru_n (by omega), mtk2_old (by omega), hm]
          have hag4 : magr (g a) (g4 a) := by
            rw [hr4]
            exact ((mtk2_ag (s := g a) (n := n) (k := k)).ru (by omega)).trans (mmk_ag hz5)
          have hso4 : mso g4 (g4 a) n := by
            refine ag_so hag4 hn12 (fun j hj => ?_)
            rw [hf4 71 (Ne.symm h71), zup_k (Ne.symm h71), hf2 71 (Ne.symm h71)]
            exact hso j hj
          conv => whnf
          (refine And.intro (by first | omega | assumption | rfl | exact zin_and | exact ⟨zin_and, by omega⟩ | exact ⟨by omega, zin_and⟩ | exact Nat.le_of_ble_eq_true rfl | exact ⟨Nat.le_of_ble_eq_true rfl, rfl⟩ | exact ⟨Nat.le_of_ble_eq_true rfl, by assumption⟩ | decide) ?_; conv => whnf)
          refine m_makesC (b := true) (m := m + 1) ha (hag4.ok hok) hso4 h71 (by rw [hr4, mmk_5, hz5]; omega) (by omega) (by omega) (by omega) (i := i) (o := o) ?_ ?_ (by omega) (by omega) ?_ (fun g5 hf5 hr5 => ?_)
          · show g4 a (45 + 7 * k + 5) = _
            rw [hr4, mmk_old hz5 (by omega), ru_n (by omega), mtk2_old (by omega), hi']
          · show g4 a (45 + 7 * k + 6) = _
            rw [hr4, mmk_old hz5 (by omega), ru_n (by omega), mtk2_old (by omega), ho']
          · have := mtk2_7 (k := k) hok h7
            rw [hr4, mmk_old hz5 (by omega), ru_n (by omega)]
            omega
          · rw [if_pos rfl, if_pos rfl] at hr5
            conv => whnf
            (refine And.intro (by first | omega | assumption | rfl | exact zin_and | exact ⟨zin_and, by omega⟩ | exact ⟨by omega, zin_and⟩ | exact Nat.le_of_ble_eq_true rfl | exact ⟨Nat.le_of_ble_eq_true rfl, rfl⟩ | exact ⟨Nat.le_of_ble_eq_true rfl, by assumption⟩ | decide) ?_; conv => whnf)
            refine hQ g5 (fun j hj => ?_) ?_
            · rw [hf5 j hj, hf4 j hj, zup_ne hj]; exact hf2 j hj
            · rw [hr5, hr4, e4, ht]
              rfl
  (refine zW.go (zC_om _) (fun K hK => ?_); conv => whnf)
  (refine And.intro (by first | omega | assumption | rfl | exact zin_and | exact ⟨zin_and, by omega⟩ | exact ⟨by omega, zin_and⟩ | exact Nat.le_of_ble_eq_true rfl | exact ⟨Nat.le_of_ble_eq_true rfl, rfl⟩ | exact ⟨Nat.le_of_ble_eq_true rfl, by assumption⟩ | decide) ?_; conv => whnf)
  (refine And.intro (by first | omega | assumption | rfl | exact zin_and | exact ⟨zin_and, by omega⟩ | exact ⟨by omega, zin_and⟩ | exact Nat.le_of_ble_eq_true rfl | exact ⟨Nat.le_of_ble_eq_true rfl, rfl⟩ | exact ⟨Nat.le_of_ble_eq_true rfl, by assumption⟩ | decide) ?_; conv => whnf)
  (refine And.intro (by first | omega | assumption | rfl | exact zin_and | exact ⟨zin_and, by omega⟩ | exact ⟨by omega, zin_and⟩ | exact Nat.le_of_ble_eq_true rfl | exact ⟨Nat.le_of_ble_eq_true rfl, rfl⟩ | exact ⟨Nat.le_of_ble_eq_true rfl, by assumption⟩ | decide) ?_; conv => whnf)
  (refine And.intro (by first | omega | assumption | rfl | exact zin_and | exact ⟨zin_and, by omega⟩ | exact ⟨by omega, zin_and⟩ | exact Nat.le_of_ble_eq_true rfl | exact ⟨Nat.le_of_ble_eq_true rfl, rfl⟩ | exact ⟨Nat.le_of_ble_eq_true rfl, by assumption⟩ | decide) ?_; conv => whnf)
  rw [zup_i (by omega), zup_i (by omega), h3']
  (refine And.intro (by first | omega | assumption | rfl | exact zin_and | exact ⟨zin_and, by omega⟩ | exact ⟨by omega, zin_and⟩ | exact Nat.le_of_ble_eq_true rfl | exact ⟨Nat.le_of_ble_eq_true rfl, rfl⟩ | exact ⟨Nat.le_of_ble_eq_true rfl, by assumption⟩ | decide) ?_; conv => whnf)
  by_cases c1 : mchild (g a) n i o ≤ g a 7
  · rw [if_pos c1] at hQ
    (refine And.intro (fun h => by omega) (fun h => ?_); conv => whnf)
    (refine And.intro (by first | omega | assumption | rfl | exact zin_and | exact ⟨zin_and, by omega⟩ | exact ⟨by omega, zin_and⟩ | exact Nat.le_of_ble_eq_true rfl | exact ⟨Nat.le_of_ble_eq_true rfl, rfl⟩ | exact ⟨Nat.le_of_ble_eq_true rfl, by assumption⟩ | decide) ?_; conv => whnf)
    (refine And.intro (by first | omega | assumption | rfl | exact zin_and | exact ⟨zin_and, by omega⟩ | exact ⟨by omega, zin_and⟩ | exact Nat.le_of_ble_eq_true rfl | exact ⟨Nat.le_of_ble_eq_true rfl, rfl⟩ | exact ⟨Nat.le_of_ble_eq_true rfl, by assumption⟩ | decide) ?_; conv => whnf)
    refine hQ _ (fun j hj => ?_) ?_
    · rw [zup_ne hj, zup_ne hj]
    · rw [zup_ru, zup_ru]
  · have j62 := j62 c1
    have hag1 : magr (g a) ((zup g a 6 (g a 6 + 1)) a) := magr.rfl.up (by omega)
    have rq5 : (zup g a 6 (g a 6 + 1)) a (45 + 7 * k + 5) = (i : Int) := by rw [zup_i (by omega)]; exact hi'
    have rq6 : (zup g a 6 (g a 6 + 1)) a (45 + 7 * k + 6) = (o : Int) := by rw [zup_i (by omega)]; exact ho'
    have rq7 : (zup g a 6 (g a 6 + 1)) a 7 = g a 7 := zup_i (by omega)
    (refine And.intro (fun h => ?_) (fun h => by omega); conv => whnf)
    (refine hK _ _ _ _ ?_)
    (refine zW.upto (zC_om _) 32 (fun K hK => ?_); conv => whnf)
    (refine And.intro (by first | omega | assumption | rfl | exact zin_and | exact ⟨zin_and, by omega⟩ | exact ⟨by omega, zin_and⟩ | exact Nat.le_of_ble_eq_true rfl | exact ⟨Nat.le_of_ble_eq_true rfl, rfl⟩ | exact ⟨Nat.le_of_ble_eq_true rfl, by assumption⟩ | decide) ?_; conv => whnf)
    rw [rq5]
    (refine And.intro (by first | omega | assumption | rfl | exact zin_and | exact ⟨zin_and, by omega⟩ | exact ⟨by omega, zin_and⟩ | exact Nat.le_of_ble_eq_true rfl | exact ⟨Nat.le_of_ble_eq_true rfl, rfl⟩ | exact ⟨Nat.le_of_ble_eq_true rfl, by assumption⟩ | decide) ?_; conv => whnf)
    rw [rq6]
    (refine And.intro (by first | omega | assumption | rfl | exact zin_and | exact ⟨zin_and, by omega⟩ | exact ⟨by omega, zin_and⟩ | exact Nat.le_of_ble_eq_true rfl | exact ⟨Nat.le_of_ble_eq_true rfl, rfl⟩ | exact ⟨Nat.le_of_ble_eq_true rfl, by assumption⟩ | decide) ?_; conv => whnf)
    (refine m_heel ha (hag1.ok hok) (ag_so hag1 hn12 (hso.up h71)) (by omega) (by omega) ?_; conv => whnf)
    rw [← ag_heel hag1 hn12 hok.pos]
    (refine And.intro (by first | omega | assumption | rfl | exact zin_and | exact ⟨zin_and, by omega⟩ | exact ⟨by omega, zin_and⟩ | exact Nat.le_of_ble_eq_true rfl | exact ⟨Nat.le_of_ble_eq_true rfl, rfl⟩ | exact ⟨Nat.le_of_ble_eq_true rfl, by assumption⟩ | decide) ?_; conv => whnf)
    (refine m_sum ha (hag1.ok hok).1 hn12 (by omega) (by omega) (by omega) ?_; conv => whnf)
    rw [← ag_w hag1 hn12]
    (refine And.intro (by first | omega | assumption | rfl | exact zin_and | exact ⟨zin_and, by omega⟩ | exact ⟨by omega, zin_and⟩ | exact Nat.le_of_ble_eq_true rfl | exact ⟨Nat.le_of_ble_eq_true rfl, rfl⟩ | exact ⟨Nat.le_of_ble_eq_true rfl, by assumption⟩ | decide) ?_; conv => whnf)
    rw [rq7]
    (refine And.intro (by first | omega | assumption | rfl | exact zin_and | exact ⟨zin_and, by omega⟩ | exact ⟨by omega, zin_and⟩ | exact Nat.le_of_ble_eq_true rfl | exact ⟨Nat.le_of_ble_eq_true rfl, rfl⟩ | exact ⟨Nat.le_of_ble_eq_true rfl, by assumption⟩ | decide) ?_; conv => whnf)
    by_cases c5 : g a 7 < bsum (g a) 9 (mheel (g a) n i o) n
    · rw [if_pos c5] at e2
      (refine And.intro (fun h => by omega) (fun h => ?_); conv => whnf)
      (refine And.intro (by first | omega | assumption | rfl | exact zin_and | exact ⟨zin_and, by omega⟩ | exact ⟨by omega, zin_and⟩ | exact Nat.le_of_ble_eq_true rfl | exact ⟨Nat.le_of_ble_eq_true rfl, rfl⟩ | exact ⟨Nat.le_of_ble_eq_true rfl, by assumption⟩ | decide) ?_; conv => whnf)
      (refine And.intro (by first | omega | assumption | rfl | exact zin_and | exact ⟨zin_and, by omega⟩ | exact ⟨by omega, zin_and⟩ | exact Nat.le_of_ble_eq_true rfl | exact ⟨Nat.le_of_ble_eq_true rfl, rfl⟩ | exact ⟨Nat.le_of_ble_eq_true rfl, by assumption⟩ | decide) ?_; conv => whnf)
      refine hK _ _ _ _ (j62 _ _ (fun j hj => ?_) ?_)
      · rw [zup_ne hj, zup_ne hj, zup_ne hj]
      · rw [zup_ru, zup_ru, zup_ru, e2]
    · rw [if_neg c5] at e2
      (refine And.intro (fun h => ?_) (fun h => by omega); conv => whnf)
      refine hK _ _ _ _ (j62 _ _ (fun j hj => ?_) ?_)
      · rw [zup_ne hj]
      · rw [zup_ru, e2]
