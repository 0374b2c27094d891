/-! addAll of the reference; the pair -/
theorem mabs_bit {s : zS} {n b : Nat} (hs : ∀ t, t < n → (mb s t).testBit n = false ∧ (mb s n).testBit t = false) : ∀ (j t : Nat), j ≤ n → j ≤ t → t < n → (mb (mabs s n b j) t).testBit n = false ∧ (mb (mabs s n b j) n).testBit t = false
  | 0, t, _, _, ht => hs t ht
  | j + 1, t, hj, hjt, ht => by
    have ih := mabs_bit (b := b) hs j t (by omega) (by omega) ht
    rw [mabs]
    split
    · rw [mxb_b (by omega), mxb_b (by omega), if_neg (show ¬ t = n by omega), if_neg (show ¬ t = j by omega), if_pos rfl]
      refine ⟨ih.1, ?_⟩
      rw [Nat.testBit_xor, zpow_bit, ih.2]
      have : ¬ j = t := by omega
      simp [this]
    · exact ih
section PMA
variable {g : zM} {d : Nat} {Q : zP}
theorem m_addAll {ch : Int → Int} {L n m z : Nat} {rows : Nat → zS} {res : Bool × Nat × (Nat → zT) × Nat} (hw : minw (g 65) n m) (hh : HistM g z rows) (hc : g 69 = ch) (h7 : g 64 (7 : Nat) = (L : Int)) (hL : L ≤ 80) (hcs : ∀ i : Nat, i < L → 0 ≤ g 69 i ∧ g 69 i < 65536) (hres : mtx ch L (L + 1) 0 0 (fun _ => (0, 0, 0)) = res)
    (hQf : ¬ (res.1 = true ∧ ¬ res.2.2.2 < L) → ∀ g' : zM, FT g g' → Q (some (zI (-100 - (res.2.2.2 : Int)))) g')
    (hQn : (res.1 = true ∧ ¬ res.2.2.2 < L) → ¬ mtk (g 65) 0 m = -5 → ∀ g' : zM, FT g g' → Q (some (zI (-4))) g')
    (hQF : (res.1 = true ∧ ¬ res.2.2.2 < L) → mtk (g 65) 0 m = -5 → 12 < n + res.2.1 → ∀ g' : zM, FT g g' → Q (some (zI (-3))) g')
    (hQU : (res.1 = true ∧ ¬ res.2.2.2 < L) → mtk (g 65) 0 m = -5 → n + res.2.1 ≤ 12 → ¬ mfar0 res.2.2.1 n res.2.1 → ∀ g' : zM, FT g g' → Q (some (zI (-1))) g')
    (hQ : (res.1 = true ∧ ¬ res.2.2.2 < L) → mtk (g 65) 0 m = -5 → n + res.2.1 ≤ 12 → mfar0 res.2.2.1 n res.2.1 → (∀ i, i < res.2.1 → mtok (res.2.2.1 i)) → ∀ g' : zM, (∀ j, j ≠ 64 → j ≠ 65 → j ≠ 67 → j ≠ 70 → g' j = g j) → (∀ j : Int, j ≠ 3 → j ≠ 8 → j ≠ 9 → j ≠ 11 → g' 64 j = g 64 j) → HistM g' (pushz z) (pushr z rows (g 65)) → g' 65 = mal (mfg (g 65)) n res.2.2.1 res.2.1 → Q (some (zI ((n : Int) + res.2.1))) g') : zC (d + 6) 120 [zR 64] g Q := by
  have k64 := zkd64
  have k65a : (zkd 65).1 = 1 := rfl
  have k65b : (zkd 65).2 = 2845 := rfl
  have k70a : (zkd 70).1 = 1 := rfl
  have k70b : (zkd 70).2 = 90 := rfl
  have hn := hw.n12
  have hm := hw.m400
  have hn0 : g 65 0 = n := hw.1.1.1
  have rg := mtx_rng (ch := ch) (L := L) (L + 1) 0 0 (fun _ => (0, 0, 0)) (by omega) (by omega) (by omega) (fun i hi => absurd hi (by omega))
  refine zC.go zm_X6_addAll ⟨rfl, rfl⟩ rfl ?_
  (refine zW.go (zC_om _) (fun K hK => ?_); conv => whnf)
  (refine And.intro (by first | omega | assumption | rfl | exact zin_and | exact ⟨zin_and, by omega⟩ | exact ⟨by omega, zin_and⟩ | exact Nat.le_of_ble_eq_true rfl | exact ⟨Nat.le_of_ble_eq_true rfl, rfl⟩ | exact ⟨Nat.le_of_ble_eq_true rfl, by assumption⟩ | exact ⟨by omega, Nat.le_of_ble_eq_true rfl⟩ | exact ⟨⟨by assumption, by omega⟩, Nat.le_of_ble_eq_true rfl⟩ | decide) ?_; conv => whnf)
  (refine m_isText hc h7 hL hcs hres (fun g1 hf1 hq1 hrow => ?_); conv => whnf)
  rw [hres] at rg
  generalize hk : res.2.1 = k at *
  generalize hT : res.2.2.1 = T at *
  generalize hq : res.2.2.2 = q at *
  have e65 : g1 65 = g 65 := hf1.1 65 (by omega) (by omega)
  by_cases h1 : res.1 = true ∧ ¬ q < L
  · rw [if_pos h1]
    obtain ⟨hrow1, hrow2⟩ := hrow h1.1
    obtain ⟨htok, hk4⟩ := rg.2 h1.1
    (refine And.intro (by first | omega | assumption | rfl | exact zin_and | exact ⟨zin_and, by omega⟩ | exact ⟨by omega, zin_and⟩ | exact Nat.le_of_ble_eq_true rfl | exact ⟨Nat.le_of_ble_eq_true rfl, rfl⟩ | exact ⟨Nat.le_of_ble_eq_true rfl, by assumption⟩ | exact ⟨by omega, Nat.le_of_ble_eq_true rfl⟩ | exact ⟨⟨by assumption, by omega⟩, Nat.le_of_ble_eq_true rfl⟩ | decide) ?_; conv => whnf)
    (refine And.intro (fun h => ?_) (fun h => by omega); conv => whnf)
    (refine hK _ _ _ _ (zW.go (zC_om _) (fun K hK => ?_)); conv => whnf)
    (refine And.intro (by first | omega | assumption | rfl | exact zin_and | exact ⟨zin_and, by omega⟩ | exact ⟨by omega, zin_and⟩ | exact Nat.le_of_ble_eq_true rfl | exact ⟨Nat.le_of_ble_eq_true rfl, rfl⟩ | exact ⟨Nat.le_of_ble_eq_true rfl, by assumption⟩ | exact ⟨by omega, Nat.le_of_ble_eq_true rfl⟩ | exact ⟨⟨by assumption, by omega⟩, Nat.le_of_ble_eq_true rfl⟩ | decide) ?_; conv => whnf)
    (refine m_goesOn (n := n) (m := m) (by rw [e65]; exact hw.1) ?_; conv => whnf)
    rw [e65]
    by_cases h3 : mtk (g 65) 0 m = -5
    · rw [if_pos h3]
      (refine And.intro (by first | omega | assumption | rfl | exact zin_and | exact ⟨zin_and, by omega⟩ | exact ⟨by omega, zin_and⟩ | exact Nat.le_of_ble_eq_true rfl | exact ⟨Nat.le_of_ble_eq_true rfl, rfl⟩ | exact ⟨Nat.le_of_ble_eq_true rfl, by assumption⟩ | exact ⟨by omega, Nat.le_of_ble_eq_true rfl⟩ | exact ⟨⟨by assumption, by omega⟩, Nat.le_of_ble_eq_true rfl⟩ | decide) ?_; conv => whnf)
      (refine And.intro (fun h => ?_) (fun h => by omega); conv => whnf)
      (refine hK _ _ _ _ (zW.go (zC_om _) (fun K hK => ?_)); conv => whnf)
      (refine And.intro (by first | omega | assumption | rfl | exact zin_and | exact ⟨zin_and, by omega⟩ | exact ⟨by omega, zin_and⟩ | exact Nat.le_of_ble_eq_true rfl | exact ⟨Nat.le_of_ble_eq_true rfl, rfl⟩ | exact ⟨Nat.le_of_ble_eq_true rfl, by assumption⟩ | exact ⟨by omega, Nat.le_of_ble_eq_true rfl⟩ | exact ⟨⟨by assumption, by omega⟩, Nat.le_of_ble_eq_true rfl⟩ | decide) ?_; conv => whnf)
      (refine And.intro (by first | omega | assumption | rfl | exact zin_and | exact ⟨zin_and, by omega⟩ | exact ⟨by omega, zin_and⟩ | exact Nat.le_of_ble_eq_true rfl | exact ⟨Nat.le_of_ble_eq_true rfl, rfl⟩ | exact ⟨Nat.le_of_ble_eq_true rfl, by assumption⟩ | exact ⟨by omega, Nat.le_of_ble_eq_true rfl⟩ | exact ⟨⟨by assumption, by omega⟩, Nat.le_of_ble_eq_true rfl⟩ | decide) ?_; conv => whnf)
      rw [e65, hn0]
      (refine And.intro (by first | omega | assumption | rfl | exact zin_and | exact ⟨zin_and, by omega⟩ | exact ⟨by omega, zin_and⟩ | exact Nat.le_of_ble_eq_true rfl | exact ⟨Nat.le_of_ble_eq_true rfl, rfl⟩ | exact ⟨Nat.le_of_ble_eq_true rfl, by assumption⟩ | exact ⟨by omega, Nat.le_of_ble_eq_true rfl⟩ | exact ⟨⟨by assumption, by omega⟩, Nat.le_of_ble_eq_true rfl⟩ | decide) ?_; conv => whnf)
      rw [hrow1]
      (refine And.intro (by first | omega | assumption | rfl | exact zin_and | exact ⟨zin_and, by omega⟩ | exact ⟨by omega, zin_and⟩ | exact Nat.le_of_ble_eq_true rfl | exact ⟨Nat.le_of_ble_eq_true rfl, rfl⟩ | exact ⟨Nat.le_of_ble_eq_true rfl, by assumption⟩ | exact ⟨by omega, Nat.le_of_ble_eq_true rfl⟩ | exact ⟨⟨by assumption, by omega⟩, Nat.le_of_ble_eq_true rfl⟩ | decide) ?_; conv => whnf)
      by_cases h4 : n + k ≤ 12
      · (refine And.intro (fun h => ?_) (fun h => by omega); conv => whnf)
        (refine hK _ _ _ _ ?_)
        (refine zW.upto (zC_om _) 2 (fun K hK => ?_); conv => whnf)
        have hw1 := hw.forget
        have hmal := mal_ok hw1.1.1 hw1.1.2.1 h4 htok
        have lup2 : ∀ (r t : Nat) (g3 : zM) (x2 x3 : zV), t + r = k → mfar0 T n k → (∀ j, j ≠ 64 → j ≠ 65 → j ≠ 67 → g3 j = g1 j) → (∀ j : Int, j ≠ 3 → g3 64 j = g1 64 j) → HistM g3 (pushz z) (pushr z rows (g 65)) → g3 65 = mal (mfg (g 65)) n T t → zW zX6_addAll (zC (d + 5)) Q 56 [zR 64, zI t, x2, x3] [] g3 := by
          intro r
          induction r with
          | zero =>
            intro t g3 x2 x3 e h5 hf3 hf64 hh3 r3
            obtain rfl : t = k := by omega
            have e5 : g3 64 (11 : Nat) = (t : Int) := by rw [hf64 _ (by omega)]; exact hrow1
            have e0 : g3 65 0 = (n + t : Nat) := by rw [r3]; exact (hmal t (Nat.le_refl _)).1.1
            (refine zW.go (zC_om _) (fun K hK => ?_); conv => whnf)
            (refine And.intro (by first | omega | assumption | rfl | exact zin_and | exact ⟨zin_and, by omega⟩ | exact ⟨by omega, zin_and⟩ | exact Nat.le_of_ble_eq_true rfl | exact ⟨Nat.le_of_ble_eq_true rfl, rfl⟩ | exact ⟨Nat.le_of_ble_eq_true rfl, by assumption⟩ | exact ⟨by omega, Nat.le_of_ble_eq_true rfl⟩ | exact ⟨⟨by assumption, by omega⟩, Nat.le_of_ble_eq_true rfl⟩ | decide) ?_; conv => whnf)
            rw [e5]
            (refine And.intro (by first | omega | assumption | rfl | exact zin_and | exact ⟨zin_and, by omega⟩ | exact ⟨by omega, zin_and⟩ | exact Nat.le_of_ble_eq_true rfl | exact ⟨Nat.le_of_ble_eq_true rfl, rfl⟩ | exact ⟨Nat.le_of_ble_eq_true rfl, by assumption⟩ | exact ⟨by omega, Nat.le_of_ble_eq_true rfl⟩ | exact ⟨⟨by assumption, by omega⟩, Nat.le_of_ble_eq_true rfl⟩ | decide) ?_; conv => whnf)
            (refine And.intro (fun h => ?_) (fun h => by omega); conv => whnf)
            (refine hK _ _ _ _ (zW.go (zC_om _) (fun K hK => ?_)); conv => whnf)
            (refine And.intro (by first | omega | assumption | rfl | exact zin_and | exact ⟨zin_and, by omega⟩ | exact ⟨by omega, zin_and⟩ | exact Nat.le_of_ble_eq_true rfl | exact ⟨Nat.le_of_ble_eq_true rfl, rfl⟩ | exact ⟨Nat.le_of_ble_eq_true rfl, by assumption⟩ | exact ⟨by omega, Nat.le_of_ble_eq_true rfl⟩ | exact ⟨⟨by assumption, by omega⟩, Nat.le_of_ble_eq_true rfl⟩ | decide) ?_; conv => whnf)
            (refine And.intro (by first | omega | assumption | rfl | exact zin_and | exact ⟨zin_and, by omega⟩ | exact ⟨by omega, zin_and⟩ | exact Nat.le_of_ble_eq_true rfl | exact ⟨Nat.le_of_ble_eq_true rfl, rfl⟩ | exact ⟨Nat.le_of_ble_eq_true rfl, by assumption⟩ | exact ⟨by omega, Nat.le_of_ble_eq_true rfl⟩ | exact ⟨⟨by assumption, by omega⟩, Nat.le_of_ble_eq_true rfl⟩ | decide) ?_; conv => whnf)
            rw [e0]
            refine ⟨⟨fun w => absurd w (by decide), fun w => absurd w (by decide)⟩, zQe (hQ h1 h3 h4 h5 htok g3 (fun j a b c f => ?_) (fun j a b c f => ?_) hh3 r3) ?_⟩
            · rw [hf3 j a b c]; exact hf1.1 j a f
            · rw [hf64 j a]; exact hf1.2 j b c f
            · omega
          | succ r ih =>
            intro t g3 x2 x3 e h5 hf3 hf64 hh3 r3
            have e5 : g3 64 (11 : Nat) = (k : Int) := by rw [hf64 _ (by omega)]; exact hrow1
            have e70 : g3 70 = g1 70 := hf3 70 (by omega) (by omega) (by omega)
            obtain ⟨w5, w6, w7⟩ := hrow2 t (by omega)
            obtain ⟨b1, b2, b3⟩ := htok t (by omega)
            obtain ⟨ok3, sym3⟩ := hmal t (by omega)
            have okA := madd_ok ok3 (by omega) b1 b2
            have bits0 : ∀ u, u < n + t → (mb (madd (mal (mfg (g 65)) n T t) (n + t) (T t).1 (T t).2.1) u).testBit (n + t) = false ∧ (mb (madd (mal (mfg (g 65)) n T t) (n + t) (T t).1 (T t).2.1) (n + t)).testBit u = false := by
              intro u hu
              rw [madd_b (by omega) (by omega), madd_b (by omega) (by omega), if_neg (by omega), if_pos rfl, Nat.zero_testBit]
              exact ⟨zlt_bits (sym3 u hu).1 (Nat.le_refl _), rfl⟩
            have lup3 : ∀ (r2 u : Nat) (g4 : zM), u + r2 = n + t → (∀ j, j ≠ 65 → g4 j = g3 j) → g4 65 = mabs (madd (mal (mfg (g 65)) n T t) (n + t) (T t).1 (T t).2.1) (n + t) (T t).2.2 u → zW zX6_addAll (zC (d + 5)) Q 79 [zR 64, zI t, zI ((n + t : Nat) : Int), zI u] [] g4 := by
              intro r2
              induction r2 with
              | zero =>
                intro u g4 e2 hf4 r4
                obtain rfl : u = n + t := by omega
                (refine zW.go (zC_om _) (fun K hK => ?_); conv => whnf)
                (refine And.intro (by first | omega | assumption | rfl | exact zin_and | exact ⟨zin_and, by omega⟩ | exact ⟨by omega, zin_and⟩ | exact Nat.le_of_ble_eq_true rfl | exact ⟨Nat.le_of_ble_eq_true rfl, rfl⟩ | exact ⟨Nat.le_of_ble_eq_true rfl, by assumption⟩ | exact ⟨by omega, Nat.le_of_ble_eq_true rfl⟩ | exact ⟨⟨by assumption, by omega⟩, Nat.le_of_ble_eq_true rfl⟩ | decide) ?_; conv => whnf)
                (refine And.intro (fun h => ?_) (fun h => by omega); conv => whnf)
                (refine hK _ _ _ _ (zW.go (zC_om _) (fun K hK => ?_)); conv => whnf)
                refine hK _ _ _ _ (ih (t + 1) g4 _ _ (by omega) h5 (fun j a b c => ?_) (fun j a => ?_) (hh3.frame (by rw [hf4 64 (by omega)]) (hf4 67 (by omega))) r4)
                · rw [hf4 j b]; exact hf3 j a b c
                · rw [hf4 64 (by omega)]; exact hf64 j a
              | succ r2 ih2 =>
                intro u g4 e2 hf4 r4
                have ih2 := fun g5 => ih2 (u + 1) g5 (by omega)
                rw [mabs] at ih2
                have okm := mabs_ok (b := (T t).2.2) okA u (by omega)
                have bts := mabs_bit (b := (T t).2.2) bits0 u u (by omega) (Nat.le_refl _) (by omega)
                rw [← r4] at okm bts ih2
                (refine zW.go (zC_om _) (fun K hK => ?_); conv => whnf)
                (refine And.intro (by first | omega | assumption | rfl | exact zin_and | exact ⟨zin_and, by omega⟩ | exact ⟨by omega, zin_and⟩ | exact Nat.le_of_ble_eq_true rfl | exact ⟨Nat.le_of_ble_eq_true rfl, rfl⟩ | exact ⟨Nat.le_of_ble_eq_true rfl, by assumption⟩ | exact ⟨by omega, Nat.le_of_ble_eq_true rfl⟩ | exact ⟨⟨by assumption, by omega⟩, Nat.le_of_ble_eq_true rfl⟩ | decide) ?_; conv => whnf)
                (refine And.intro (fun h => by omega) (fun h => ?_); conv => whnf)
                (refine And.intro (by first | omega | assumption | rfl | exact zin_and | exact ⟨zin_and, by omega⟩ | exact ⟨by omega, zin_and⟩ | exact Nat.le_of_ble_eq_true rfl | exact ⟨Nat.le_of_ble_eq_true rfl, rfl⟩ | exact ⟨Nat.le_of_ble_eq_true rfl, by assumption⟩ | exact ⟨by omega, Nat.le_of_ble_eq_true rfl⟩ | exact ⟨⟨by assumption, by omega⟩, Nat.le_of_ble_eq_true rfl⟩ | decide) ?_; conv => whnf)
                (refine And.intro (by first | omega | assumption | rfl | exact zin_and | exact ⟨zin_and, by omega⟩ | exact ⟨by omega, zin_and⟩ | exact Nat.le_of_ble_eq_true rfl | exact ⟨Nat.le_of_ble_eq_true rfl, rfl⟩ | exact ⟨Nat.le_of_ble_eq_true rfl, by assumption⟩ | exact ⟨by omega, Nat.le_of_ble_eq_true rfl⟩ | exact ⟨⟨by assumption, by omega⟩, Nat.le_of_ble_eq_true rfl⟩ | decide) ?_; conv => whnf)
                rw [hf4 70 (by omega), e70, w7]
                rw [zbit (by omega) (by omega)]
                (refine And.intro (by first | omega | assumption | rfl | exact zin_and | exact ⟨zin_and, by omega⟩ | exact ⟨by omega, zin_and⟩ | exact Nat.le_of_ble_eq_true rfl | exact ⟨Nat.le_of_ble_eq_true rfl, rfl⟩ | exact ⟨Nat.le_of_ble_eq_true rfl, by assumption⟩ | exact ⟨by omega, Nat.le_of_ble_eq_true rfl⟩ | exact ⟨⟨by assumption, by omega⟩, Nat.le_of_ble_eq_true rfl⟩ | decide) ?_; conv => whnf)
                by_cases hbt : (T t).2.2.testBit u = true
                · rw [if_pos hbt] at ih2 ⊢
                  (refine And.intro (fun h => by omega) (fun h => ?_); conv => whnf)
                  (refine And.intro (by first | omega | assumption | rfl | exact zin_and | exact ⟨zin_and, by omega⟩ | exact ⟨by omega, zin_and⟩ | exact Nat.le_of_ble_eq_true rfl | exact ⟨Nat.le_of_ble_eq_true rfl, rfl⟩ | exact ⟨Nat.le_of_ble_eq_true rfl, by assumption⟩ | exact ⟨by omega, Nat.le_of_ble_eq_true rfl⟩ | exact ⟨⟨by assumption, by omega⟩, Nat.le_of_ble_eq_true rfl⟩ | decide) ?_; conv => whnf)
                  (refine m_bars okm (show n + t < n + t + 1 by omega) (show u < n + t + 1 by omega) (by omega) (Or.inr rfl) bts.2 bts.1 (fun g5 hf5 r5 => ?_); conv => whnf)
                  exact hK _ _ _ _ (ih2 g5 (fun j hj => by rw [hf5 j hj, hf4 j hj]) r5)
                · rw [if_neg hbt] at ih2 ⊢
                  (refine And.intro (fun h => ?_) (fun h => by omega); conv => whnf)
                  (refine hK _ _ _ _ (zW.go (zC_om _) (fun K hK => ?_)); conv => whnf)
                  exact hK _ _ _ _ (ih2 g4 hf4 rfl)
            have e0 : g3 65 0 = (n + t : Nat) := by rw [r3]; exact ok3.1
            (refine zW.upto (zC_om _) 23 (fun K hK => ?_); conv => whnf)
            (refine And.intro (by first | omega | assumption | rfl | exact zin_and | exact ⟨zin_and, by omega⟩ | exact ⟨by omega, zin_and⟩ | exact Nat.le_of_ble_eq_true rfl | exact ⟨Nat.le_of_ble_eq_true rfl, rfl⟩ | exact ⟨Nat.le_of_ble_eq_true rfl, by assumption⟩ | exact ⟨by omega, Nat.le_of_ble_eq_true rfl⟩ | exact ⟨⟨by assumption, by omega⟩, Nat.le_of_ble_eq_true rfl⟩ | decide) ?_; conv => whnf)
            rw [e5]
            (refine And.intro (by first | omega | assumption | rfl | exact zin_and | exact ⟨zin_and, by omega⟩ | exact ⟨by omega, zin_and⟩ | exact Nat.le_of_ble_eq_true rfl | exact ⟨Nat.le_of_ble_eq_true rfl, rfl⟩ | exact ⟨Nat.le_of_ble_eq_true rfl, by assumption⟩ | exact ⟨by omega, Nat.le_of_ble_eq_true rfl⟩ | exact ⟨⟨by assumption, by omega⟩, Nat.le_of_ble_eq_true rfl⟩ | decide) ?_; conv => whnf)
            (refine And.intro (fun h => by omega) (fun h => ?_); conv => whnf)
            (refine And.intro (by first | omega | assumption | rfl | exact zin_and | exact ⟨zin_and, by omega⟩ | exact ⟨by omega, zin_and⟩ | exact Nat.le_of_ble_eq_true rfl | exact ⟨Nat.le_of_ble_eq_true rfl, rfl⟩ | exact ⟨Nat.le_of_ble_eq_true rfl, by assumption⟩ | exact ⟨by omega, Nat.le_of_ble_eq_true rfl⟩ | exact ⟨⟨by assumption, by omega⟩, Nat.le_of_ble_eq_true rfl⟩ | decide) ?_; conv => whnf)
            (refine And.intro (by first | omega | assumption | rfl | exact zin_and | exact ⟨zin_and, by omega⟩ | exact ⟨by omega, zin_and⟩ | exact Nat.le_of_ble_eq_true rfl | exact ⟨Nat.le_of_ble_eq_true rfl, rfl⟩ | exact ⟨Nat.le_of_ble_eq_true rfl, by assumption⟩ | exact ⟨by omega, Nat.le_of_ble_eq_true rfl⟩ | exact ⟨⟨by assumption, by omega⟩, Nat.le_of_ble_eq_true rfl⟩ | decide) ?_; conv => whnf)
            rw [e70, w5]
            (refine And.intro (by first | omega | assumption | rfl | exact zin_and | exact ⟨zin_and, by omega⟩ | exact ⟨by omega, zin_and⟩ | exact Nat.le_of_ble_eq_true rfl | exact ⟨Nat.le_of_ble_eq_true rfl, rfl⟩ | exact ⟨Nat.le_of_ble_eq_true rfl, by assumption⟩ | exact ⟨by omega, Nat.le_of_ble_eq_true rfl⟩ | exact ⟨⟨by assumption, by omega⟩, Nat.le_of_ble_eq_true rfl⟩ | decide) ?_; conv => whnf)
            (refine And.intro (by first | omega | assumption | rfl | exact zin_and | exact ⟨zin_and, by omega⟩ | exact ⟨by omega, zin_and⟩ | exact Nat.le_of_ble_eq_true rfl | exact ⟨Nat.le_of_ble_eq_true rfl, rfl⟩ | exact ⟨Nat.le_of_ble_eq_true rfl, by assumption⟩ | exact ⟨by omega, Nat.le_of_ble_eq_true rfl⟩ | exact ⟨⟨by assumption, by omega⟩, Nat.le_of_ble_eq_true rfl⟩ | decide) ?_; conv => whnf)
            rw [e70, w6]
            (refine And.intro (by first | omega | assumption | rfl | exact zin_and | exact ⟨zin_and, by omega⟩ | exact ⟨by omega, zin_and⟩ | exact Nat.le_of_ble_eq_true rfl | exact ⟨Nat.le_of_ble_eq_true rfl, rfl⟩ | exact ⟨Nat.le_of_ble_eq_true rfl, by assumption⟩ | exact ⟨by omega, Nat.le_of_ble_eq_true rfl⟩ | exact ⟨⟨by assumption, by omega⟩, Nat.le_of_ble_eq_true rfl⟩ | decide) ?_; conv => whnf)
            (refine m_adds (n := n + t) e0 (by omega) (fun g4 hf4 r4 => ?_); conv => whnf)
            rw [r3] at r4
            exact hK _ _ _ _ (lup3 (n + t) 0 g4 (by omega) hf4 r4)
        have lup1 : ∀ (r t : Nat) (x2 x3 : zV), t + r = k → (∀ u, u < t → (T u).2.2 / 2 ^ (n + u) = 0) → zW zX6_addAll (zC (d + 5)) Q 26 [zR 64, zI t, x2, x3] [] g1 := by
          intro r
          induction r with
          | zero =>
            intro t x2 x3 e hu
            obtain rfl : t = k := by omega
            (refine zW.go (zC_om _) (fun K hK => ?_); conv => whnf)
            (refine And.intro (by first | omega | assumption | rfl | exact zin_and | exact ⟨zin_and, by omega⟩ | exact ⟨by omega, zin_and⟩ | exact Nat.le_of_ble_eq_true rfl | exact ⟨Nat.le_of_ble_eq_true rfl, rfl⟩ | exact ⟨Nat.le_of_ble_eq_true rfl, by assumption⟩ | exact ⟨by omega, Nat.le_of_ble_eq_true rfl⟩ | exact ⟨⟨by assumption, by omega⟩, Nat.le_of_ble_eq_true rfl⟩ | decide) ?_; conv => whnf)
            rw [hrow1]
            (refine And.intro (by first | omega | assumption | rfl | exact zin_and | exact ⟨zin_and, by omega⟩ | exact ⟨by omega, zin_and⟩ | exact Nat.le_of_ble_eq_true rfl | exact ⟨Nat.le_of_ble_eq_true rfl, rfl⟩ | exact ⟨Nat.le_of_ble_eq_true rfl, by assumption⟩ | exact ⟨by omega, Nat.le_of_ble_eq_true rfl⟩ | exact ⟨⟨by assumption, by omega⟩, Nat.le_of_ble_eq_true rfl⟩ | decide) ?_; conv => whnf)
            (refine And.intro (fun h => ?_) (fun h => by omega); conv => whnf)
            (refine hK _ _ _ _ ?_)
            (refine zW.upto (zC_om _) 6 (fun K hK => ?_); conv => whnf)
            (refine And.intro (by first | omega | assumption | rfl | exact zin_and | exact ⟨zin_and, by omega⟩ | exact ⟨by omega, zin_and⟩ | exact Nat.le_of_ble_eq_true rfl | exact ⟨Nat.le_of_ble_eq_true rfl, rfl⟩ | exact ⟨Nat.le_of_ble_eq_true rfl, by assumption⟩ | exact ⟨by omega, Nat.le_of_ble_eq_true rfl⟩ | exact ⟨⟨by assumption, by omega⟩, Nat.le_of_ble_eq_true rfl⟩ | decide) ?_; conv => whnf)
            have hhm1 : HistM g1 z rows := hh.frame (hf1.2 _ (by omega) (by omega) (by omega)) (hf1.1 67 (by omega) (by omega))
            (refine m_records hhm1 (fun g2 hf2 hf264 hh2 => ?_); conv => whnf)
            (refine And.intro (by first | omega | assumption | rfl | exact zin_and | exact ⟨zin_and, by omega⟩ | exact ⟨by omega, zin_and⟩ | exact Nat.le_of_ble_eq_true rfl | exact ⟨Nat.le_of_ble_eq_true rfl, rfl⟩ | exact ⟨Nat.le_of_ble_eq_true rfl, by assumption⟩ | exact ⟨by omega, Nat.le_of_ble_eq_true rfl⟩ | exact ⟨⟨by assumption, by omega⟩, Nat.le_of_ble_eq_true rfl⟩ | decide) ?_; conv => whnf)
            (refine m_forgets ?_; conv => whnf)
            have r2 : g2 65 = g 65 := by rw [hf2 65 (by omega) (by omega), e65]
            have hf3 : ∀ j, j ≠ 65 → (zup (zup (zup (zup (zup g2 65 4 0) 65 5 0) 65 6 0) 65 7 0) 65 8 0) j = g2 j := fun j hj => by rw [zup_ne hj, zup_ne hj, zup_ne hj, zup_ne hj, zup_ne hj]
            have r3 := forgets_row (g := g2)
            rw [r2] at r3
            rw [e65] at hh2
            generalize (zup (zup (zup (zup (zup g2 65 4 0) 65 5 0) 65 6 0) 65 7 0) 65 8 0) = g3 at *
            refine hK _ _ _ _ (lup2 t 0 g3 _ _ (by omega) hu (fun j a b c => ?_) (fun j a => ?_) (hh2.frame (by rw [hf3 64 (by omega)]) (hf3 67 (by omega))) r3)
            · rw [hf3 j b]; exact hf2 j a c
            · rw [hf3 64 (by omega)]; exact hf264 j a
          | succ r ih =>
            intro t x2 x3 e hu
            have h7 := (hrow2 t (by omega)).2.2
            have hb := (htok t (by omega)).2.2
            (refine zW.go (zC_om _) (fun K hK => ?_); conv => whnf)
            (refine And.intro (by first | omega | assumption | rfl | exact zin_and | exact ⟨zin_and, by omega⟩ | exact ⟨by omega, zin_and⟩ | exact Nat.le_of_ble_eq_true rfl | exact ⟨Nat.le_of_ble_eq_true rfl, rfl⟩ | exact ⟨Nat.le_of_ble_eq_true rfl, by assumption⟩ | exact ⟨by omega, Nat.le_of_ble_eq_true rfl⟩ | exact ⟨⟨by assumption, by omega⟩, Nat.le_of_ble_eq_true rfl⟩ | decide) ?_; conv => whnf)
            rw [hrow1]
            (refine And.intro (by first | omega | assumption | rfl | exact zin_and | exact ⟨zin_and, by omega⟩ | exact ⟨by omega, zin_and⟩ | exact Nat.le_of_ble_eq_true rfl | exact ⟨Nat.le_of_ble_eq_true rfl, rfl⟩ | exact ⟨Nat.le_of_ble_eq_true rfl, by assumption⟩ | exact ⟨by omega, Nat.le_of_ble_eq_true rfl⟩ | exact ⟨⟨by assumption, by omega⟩, Nat.le_of_ble_eq_true rfl⟩ | decide) ?_; conv => whnf)
            (refine And.intro (fun h => by omega) (fun h => ?_); conv => whnf)
            (refine And.intro (by first | omega | assumption | rfl | exact zin_and | exact ⟨zin_and, by omega⟩ | exact ⟨by omega, zin_and⟩ | exact Nat.le_of_ble_eq_true rfl | exact ⟨Nat.le_of_ble_eq_true rfl, rfl⟩ | exact ⟨Nat.le_of_ble_eq_true rfl, by assumption⟩ | exact ⟨by omega, Nat.le_of_ble_eq_true rfl⟩ | exact ⟨⟨by assumption, by omega⟩, Nat.le_of_ble_eq_true rfl⟩ | decide) ?_; conv => whnf)
            (refine And.intro (by first | omega | assumption | rfl | exact zin_and | exact ⟨zin_and, by omega⟩ | exact ⟨by omega, zin_and⟩ | exact Nat.le_of_ble_eq_true rfl | exact ⟨Nat.le_of_ble_eq_true rfl, rfl⟩ | exact ⟨Nat.le_of_ble_eq_true rfl, by assumption⟩ | exact ⟨by omega, Nat.le_of_ble_eq_true rfl⟩ | exact ⟨⟨by assumption, by omega⟩, Nat.le_of_ble_eq_true rfl⟩ | decide) ?_; conv => whnf)
            rw [h7]
            (refine And.intro (by first | omega | assumption | rfl | exact zin_and | exact ⟨zin_and, by omega⟩ | exact ⟨by omega, zin_and⟩ | exact Nat.le_of_ble_eq_true rfl | exact ⟨Nat.le_of_ble_eq_true rfl, rfl⟩ | exact ⟨Nat.le_of_ble_eq_true rfl, by assumption⟩ | exact ⟨by omega, Nat.le_of_ble_eq_true rfl⟩ | exact ⟨⟨by assumption, by omega⟩, Nat.le_of_ble_eq_true rfl⟩ | decide) ?_; conv => whnf)
            (refine And.intro (by first | omega | assumption | rfl | exact zin_and | exact ⟨zin_and, by omega⟩ | exact ⟨by omega, zin_and⟩ | exact Nat.le_of_ble_eq_true rfl | exact ⟨Nat.le_of_ble_eq_true rfl, rfl⟩ | exact ⟨Nat.le_of_ble_eq_true rfl, by assumption⟩ | exact ⟨by omega, Nat.le_of_ble_eq_true rfl⟩ | exact ⟨⟨by assumption, by omega⟩, Nat.le_of_ble_eq_true rfl⟩ | decide) ?_; conv => whnf)
            rw [e65, hn0, show (n : Int) + (t : Int) = ((n + t : Nat) : Int) from rfl, zshr_nat (by omega) (by omega)]
            have hle : (T t).2.2 / 2 ^ (n + t) ≤ (T t).2.2 := Nat.div_le_self _ _
            generalize hv : (T t).2.2 / 2 ^ (n + t) = v at hle ⊢
            (refine And.intro (by first | omega | assumption | rfl | exact zin_and | exact ⟨zin_and, by omega⟩ | exact ⟨by omega, zin_and⟩ | exact Nat.le_of_ble_eq_true rfl | exact ⟨Nat.le_of_ble_eq_true rfl, rfl⟩ | exact ⟨Nat.le_of_ble_eq_true rfl, by assumption⟩ | exact ⟨by omega, Nat.le_of_ble_eq_true rfl⟩ | exact ⟨⟨by assumption, by omega⟩, Nat.le_of_ble_eq_true rfl⟩ | decide) ?_; conv => whnf)
            by_cases c : v = 0
            · (refine And.intro (fun h => ?_) (fun h => by omega); conv => whnf)
              (refine hK _ _ _ _ (zW.go (zC_om _) (fun K hK => ?_)); conv => whnf)
              exact hK _ _ _ _ (ih (t + 1) _ _ (by omega) (fun u hu2 => by
                by_cases c2 : u = t
                · rw [c2, hv]; exact c
                · exact hu u (by omega)))
            · (refine And.intro (fun h => by omega) (fun h => ?_); conv => whnf)
              exact ⟨⟨fun w => absurd w (by decide), fun w => absurd w (by decide)⟩, hQU h1 h3 h4 (fun w => c (hv ▸ w t (by omega))) g1 hf1⟩
        exact hK _ _ _ _ (lup1 k 0 _ _ (by omega) (fun u hu => absurd hu (by omega)))
      · (refine And.intro (fun h => by omega) (fun h => ?_); conv => whnf)
        exact ⟨⟨fun w => absurd w (by decide), fun w => absurd w (by decide)⟩, hQF h1 h3 (by omega) g1 hf1⟩
    · rw [if_neg h3]
      (refine And.intro (by first | omega | assumption | rfl | exact zin_and | exact ⟨zin_and, by omega⟩ | exact ⟨by omega, zin_and⟩ | exact Nat.le_of_ble_eq_true rfl | exact ⟨Nat.le_of_ble_eq_true rfl, rfl⟩ | exact ⟨Nat.le_of_ble_eq_true rfl, by assumption⟩ | exact ⟨by omega, Nat.le_of_ble_eq_true rfl⟩ | exact ⟨⟨by assumption, by omega⟩, Nat.le_of_ble_eq_true rfl⟩ | decide) ?_; conv => whnf)
      (refine And.intro (fun h => by omega) (fun h => ?_); conv => whnf)
      exact ⟨⟨fun w => absurd w (by decide), fun w => absurd w (by decide)⟩, hQn h1 h3 g1 hf1⟩
  · rw [if_neg h1]
    (refine And.intro (by first | omega | assumption | rfl | exact zin_and | exact ⟨zin_and, by omega⟩ | exact ⟨by omega, zin_and⟩ | exact Nat.le_of_ble_eq_true rfl | exact ⟨Nat.le_of_ble_eq_true rfl, rfl⟩ | exact ⟨Nat.le_of_ble_eq_true rfl, by assumption⟩ | exact ⟨by omega, Nat.le_of_ble_eq_true rfl⟩ | exact ⟨⟨by assumption, by omega⟩, Nat.le_of_ble_eq_true rfl⟩ | decide) ?_; conv => whnf)
    (refine And.intro (fun h => by omega) (fun h => ?_); conv => whnf)
    (refine And.intro (by first | omega | assumption | rfl | exact zin_and | exact ⟨zin_and, by omega⟩ | exact ⟨by omega, zin_and⟩ | exact Nat.le_of_ble_eq_true rfl | exact ⟨Nat.le_of_ble_eq_true rfl, rfl⟩ | exact ⟨Nat.le_of_ble_eq_true rfl, by assumption⟩ | exact ⟨by omega, Nat.le_of_ble_eq_true rfl⟩ | exact ⟨⟨by assumption, by omega⟩, Nat.le_of_ble_eq_true rfl⟩ | decide) ?_; conv => whnf)
    rw [hq1]
    exact ⟨⟨fun w => absurd w (by decide), fun w => absurd w (by decide)⟩, hQf h1 g1 hf1⟩
end PMA
