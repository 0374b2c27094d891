/-! a search begins; a search is given up -/
theorem RelC.but {g : zM} {b n m : Nat} {s s' : zS} (h : RelC g b s n m) (ha : ∀ j : Int, 0 ≤ j → j < 2845 → j ≠ 4 → j ≠ 5 → s' j = s j) (hn : n ≤ 12) (hm : m ≤ 400) : RelC g b s' n m := by
  obtain ⟨h1, h2, h3⟩ := h
  have a := fun j (h : (0 ≤ j ∧ j < 2845) ∧ j ≠ 4 ∧ j ≠ 5) => ha j h.1.1 h.1.2 h.2.1 h.2.2
  have hmag : magr s s' := ⟨(a 0 (by omega)).symm, (a 1 (by omega)).symm, fun j c1 c2 => (a j (by omega)).symm⟩
  refine ⟨h1.frame (fun j _ _ => rfl) hmag hn, h2.frame rfl rfl (fun j c1 c2 => a j (by omega)), ?_⟩
  rw [a 2 (by omega), a 3 (by omega), a 6 (by omega), a 7 (by omega), a 8 (by omega)]
  exact h3
/-- the row of a search that has begun -/
abbrev mbeg (s : zS) (n : Nat) : zS := mmk (ru (mfg s) 4 1) n (-5) (-5) 0 0 0
theorem mfg_6 {s : zS} : mfg s 6 = 0 := rfl
theorem mfg_7 {s : zS} : mfg s 7 = 0 := rfl
theorem mfg_8 {s : zS} : mfg s 8 = 0 := rfl
section PG
variable {g : zM} {d : Nat} {Q : zP}
theorem mbeg_eq {s : zS} {n : Nat} (hok : mok s n) : mbeg s n = ru (mroot s n) 4 1 := by
  have hok1 := (mfg_ag (s := s)).ok hok
  have hag : magr (mfg s) (ru (mfg s) 4 1) := magr.rfl.ru (by omega)
  have h5 : ru (mfg s) 4 1 5 = mfg s 5 := ru_n (by omega)
  have h50 : mfg s 5 = 0 := rfl
  have h7 : ru (mfg s) 4 1 7 = mfg s 7 := ru_n (by omega)
  unfold mbeg mroot mmk mhow
  rw [h5, h7, ← ag_child hag hok.2.1 hok1.pos, ← ag_poss hag hok.2.1, h50]
  rw [ru_c (a := 4) (by omega), ru_c (a := 4) (by omega), ru_c (a := 4) (by omega), ru_c (a := 4) (by omega), ru_c (a := 4) (by omega), ru_c (a := 4) (by omega), ru_c (a := 4) (by omega), ru_c (a := 4) (by omega)]
theorem minw_beg {s : zS} {n m : Nat} (h : minw s n m) : minw (mbeg s n) n 1 := by
  have hw1 := h.forget
  obtain ⟨⟨hok, hsym, h2, h3, -⟩, -⟩ := hw1
  have hn := h.n12
  have hp := Nat.two_pow_pos n
  have h50 : ru (mfg s) 4 1 5 = ((0 : Nat) : Int) := by rw [ru_n (by omega)]; rfl
  have hag : magr (mfg s) (mbeg s n) := (magr.rfl.ru (by omega)).trans (mmk_ag h50)
  have hok2 := hag.ok hok
  have old : ∀ j : Int, j ≠ 5 ∧ j < 45 → mbeg s n j = ru (mfg s) 4 1 j := fun j hj => mmk_old h50 (by omega)
  have e4 : nd (mbeg s n) ((0 : Nat) : Int) 4 = 0 := (mmk_4 h50).trans (by unfold mhow; simp)
  have e3 : nd (mbeg s n) ((0 : Nat) : Int) 3 = mchild (mbeg s n) n 0 0 := (mmk_3 h50).trans (ag_child (mmk_ag h50) hn (((magr.rfl (s := mfg s)).ru (by omega)).ok hok).pos 0 0)
  refine ⟨⟨hok2, hsym.ag hn hag, ?_, ?_, ⟨?_, by omega⟩, ?_, fun k hk => ?_, ?_, ?_, fun w => absurd w (by decide)⟩, ?_, ?_⟩
  · rw [old 2 (by omega), ru_n (by omega)]; exact h2
  · rw [old 3 (by omega), ru_n (by omega)]; exact h3
  · exact (mmk_5).trans (by rw [h50]; rfl)
  · rw [old 4 (by omega), ru_s]; rfl
  · obtain rfl : k = 0 := by omega
    refine ⟨0, 0, mmk_n5 h50, mmk_n6 h50, hp, hp, e3, by rw [e4]; omega, fun _ => mposs0 ?_, fun _ => ⟨mmk_0 h50, mmk_1 h50, mmk_2 h50, rfl, rfl⟩, fun w => absurd w (by decide)⟩
    exact hok2.2.2.1.1
  · rw [old 7 (by omega), ru_n (by omega), mfg_7]; omega
  · rw [old 8 (by omega), ru_n (by omega)]
    have e : ((2 : Int) ^ n) = ((2 ^ n : Nat) : Int) := by rw [Int.natCast_pow]; rfl
    rw [mfg_8]
    omega
  · rw [old 6 (by omega), ru_n (by omega), mfg_6]; omega
  · rw [old 6 (by omega), ru_n (by omega), mfg_6]
    have : mcn (mbeg s n) 0 1 ≤ 1 := zcnt_le 1 (fun j => decide (nd (mbeg s n) j 4 = 0))
    omega
theorem p_begin (hJ : J g) : zPair (d + 8) 60 [zR 0] 126 [zR 64] g := by
  obtain ⟨⟨n, m, hw, hr⟩, ⟨z, rows, hhc, hhm⟩, hs, ht⟩ := id hJ
  have k0 := zkd0
  have k1 := zkd1
  have k8 := zKC_8.1
  have k14 : zkd 14 = (0, 2) := rfl
  have k64 := zkd64
  have k65a : (zkd 65).1 = 1 := rfl
  have k65b : (zkd 65).2 = 2845 := rfl
  have hn := hw.n12
  have hm := hw.m400
  have hw1 := hw.forget
  refine zC.go zm_X5_begin ⟨rfl, rfl⟩ rfl ?_
  (refine zW.go (zC_om _) (fun K hK => ?_); conv => whnf)
  (refine And.intro (by first | omega | assumption | rfl | exact zin_and | exact ⟨zin_and, by omega⟩ | exact ⟨by omega, zin_and⟩ | exact Nat.le_of_ble_eq_true rfl | exact ⟨Nat.le_of_ble_eq_true rfl, rfl⟩ | exact ⟨Nat.le_of_ble_eq_true rfl, by assumption⟩ | exact ⟨by omega, Nat.le_of_ble_eq_true rfl⟩ | exact ⟨⟨by assumption, by omega⟩, Nat.le_of_ble_eq_true rfl⟩ | decide) ?_; conv => whnf)
  (refine And.intro (by first | omega | assumption | rfl | exact zin_and | exact ⟨zin_and, by omega⟩ | exact ⟨by omega, zin_and⟩ | exact Nat.le_of_ble_eq_true rfl | exact ⟨Nat.le_of_ble_eq_true rfl, rfl⟩ | exact ⟨Nat.le_of_ble_eq_true rfl, by assumption⟩ | exact ⟨by omega, Nat.le_of_ble_eq_true rfl⟩ | exact ⟨⟨by assumption, by omega⟩, Nat.le_of_ble_eq_true rfl⟩ | decide) ?_; conv => whnf)
  (refine c_goesOn zKC_8 hr hm ?_; conv => whnf)
  by_cases h3 : mtk (g 65) 0 m = -5
  · rw [if_pos h3]
    (refine And.intro (by first | omega | assumption | rfl | exact zin_and | exact ⟨zin_and, by omega⟩ | exact ⟨by omega, zin_and⟩ | exact Nat.le_of_ble_eq_true rfl | exact ⟨Nat.le_of_ble_eq_true rfl, rfl⟩ | exact ⟨Nat.le_of_ble_eq_true rfl, by assumption⟩ | exact ⟨by omega, Nat.le_of_ble_eq_true rfl⟩ | exact ⟨⟨by assumption, by omega⟩, Nat.le_of_ble_eq_true rfl⟩ | decide) ?_; conv => whnf)
    (refine And.intro (fun h => ?_) (fun h => by omega); conv => whnf)
    (refine hK _ _ _ _ (zW.go (zC_om _) (fun K hK => ?_)); conv => whnf)
    (refine And.intro (by first | omega | assumption | rfl | exact zin_and | exact ⟨zin_and, by omega⟩ | exact ⟨by omega, zin_and⟩ | exact Nat.le_of_ble_eq_true rfl | exact ⟨Nat.le_of_ble_eq_true rfl, rfl⟩ | exact ⟨Nat.le_of_ble_eq_true rfl, by assumption⟩ | exact ⟨by omega, Nat.le_of_ble_eq_true rfl⟩ | exact ⟨⟨by assumption, by omega⟩, Nat.le_of_ble_eq_true rfl⟩ | decide) ?_; conv => whnf)
    (refine And.intro (by first | omega | assumption | rfl | exact zin_and | exact ⟨zin_and, by omega⟩ | exact ⟨by omega, zin_and⟩ | exact Nat.le_of_ble_eq_true rfl | exact ⟨Nat.le_of_ble_eq_true rfl, rfl⟩ | exact ⟨Nat.le_of_ble_eq_true rfl, by assumption⟩ | exact ⟨by omega, Nat.le_of_ble_eq_true rfl⟩ | exact ⟨⟨by assumption, by omega⟩, Nat.le_of_ble_eq_true rfl⟩ | decide) ?_; conv => whnf)
    (refine And.intro (by first | omega | assumption | rfl | exact zin_and | exact ⟨zin_and, by omega⟩ | exact ⟨by omega, zin_and⟩ | exact Nat.le_of_ble_eq_true rfl | exact ⟨Nat.le_of_ble_eq_true rfl, rfl⟩ | exact ⟨Nat.le_of_ble_eq_true rfl, by assumption⟩ | exact ⟨by omega, Nat.le_of_ble_eq_true rfl⟩ | exact ⟨⟨by assumption, by omega⟩, Nat.le_of_ble_eq_true rfl⟩ | decide) ?_; conv => whnf)
    (refine c_pushH zKC_8 (by omega) (by omega) hr hw hhc (fun g1 hf1 hh1 => ?_); conv => whnf)
    (refine And.intro (by first | omega | assumption | rfl | exact zin_and | exact ⟨zin_and, by omega⟩ | exact ⟨by omega, zin_and⟩ | exact Nat.le_of_ble_eq_true rfl | exact ⟨Nat.le_of_ble_eq_true rfl, rfl⟩ | exact ⟨Nat.le_of_ble_eq_true rfl, by assumption⟩ | exact ⟨by omega, Nat.le_of_ble_eq_true rfl⟩ | exact ⟨⟨by assumption, by omega⟩, Nat.le_of_ble_eq_true rfl⟩ | decide) ?_; conv => whnf)
    (refine And.intro (by first | omega | assumption | rfl | exact zin_and | exact ⟨zin_and, by omega⟩ | exact ⟨by omega, zin_and⟩ | exact Nat.le_of_ble_eq_true rfl | exact ⟨Nat.le_of_ble_eq_true rfl, rfl⟩ | exact ⟨Nat.le_of_ble_eq_true rfl, by assumption⟩ | exact ⟨by omega, Nat.le_of_ble_eq_true rfl⟩ | exact ⟨⟨by assumption, by omega⟩, Nat.le_of_ble_eq_true rfl⟩ | decide) ?_; conv => whnf)
    have hr1 : RelC g1 8 (g 65) n m := hr.frame (fun j c1 c2 => hf1 j (by omega) (by omega)) hn
    (refine c_openRoot zKC_8 hr1 hw.1.1 hw.1.2.1 (fun g2 hf2 hr2 => ?_); conv => whnf)
    (refine And.intro (by first | omega | assumption | rfl | exact zin_and | exact ⟨zin_and, by omega⟩ | exact ⟨by omega, zin_and⟩ | exact Nat.le_of_ble_eq_true rfl | exact ⟨Nat.le_of_ble_eq_true rfl, rfl⟩ | exact ⟨Nat.le_of_ble_eq_true rfl, by assumption⟩ | exact ⟨by omega, Nat.le_of_ble_eq_true rfl⟩ | exact ⟨⟨by assumption, by omega⟩, Nat.le_of_ble_eq_true rfl⟩ | decide) ?_; conv => whnf)
    (refine And.intro (by first | omega | assumption | rfl | exact zin_and | exact ⟨zin_and, by omega⟩ | exact ⟨by omega, zin_and⟩ | exact Nat.le_of_ble_eq_true rfl | exact ⟨Nat.le_of_ble_eq_true rfl, rfl⟩ | exact ⟨Nat.le_of_ble_eq_true rfl, by assumption⟩ | exact ⟨by omega, Nat.le_of_ble_eq_true rfl⟩ | exact ⟨⟨by assumption, by omega⟩, Nat.le_of_ble_eq_true rfl⟩ | decide) ?_; conv => whnf)
    (refine And.intro (by first | omega | assumption | rfl | exact zin_and | exact ⟨zin_and, by omega⟩ | exact ⟨by omega, zin_and⟩ | exact Nat.le_of_ble_eq_true rfl | exact ⟨Nat.le_of_ble_eq_true rfl, rfl⟩ | exact ⟨Nat.le_of_ble_eq_true rfl, by assumption⟩ | exact ⟨by omega, Nat.le_of_ble_eq_true rfl⟩ | exact ⟨⟨by assumption, by omega⟩, Nat.le_of_ble_eq_true rfl⟩ | decide) ?_; conv => whnf)
    (refine c_nbound zKC_8.2.2 hr2.2.1 (by omega) (k := 0) (by omega) ?_; conv => whnf)
    have hf : ∀ j, j ≠ 1 → (j < 8 ∨ (16 ≤ j ∧ j < 32) ∨ 64 ≤ j) → g2 j = g j := fun j c1 c2 => by rw [hf2 j (by omega) (by omega) (by omega), hf1 j c1 (by omega)]
    have e64 := hf 64 (by omega) (by omega)
    have e65 := hf 65 (by omega) (by omega)
    have hb := mbeg_eq (s := g 65) (n := n) hw.1.1
    have hnd : nd (mroot (g 65) n) ((0 : Nat) : Int) 3 = nd (mbeg (g 65) n) 0 3 := by
      rw [hb]
      exact (ru_n (s := mroot (g 65) n) (i := 4) (v := 1) (j := 45 + 7 * ((0 : Nat) : Int) + 3) (by omega)).symm
    rw [hnd]
    have hwb := minw_beg hw
    have hz := (hwb.1.2.2.2.2.2.2.1 0 (by omega)).rng hwb.1.1
    refine ⟨⟨fun w => absurd w (by decide), fun w => absurd w (by decide)⟩, nd (mbeg (g 65) n) 0 3, hz.2, rfl, ?_⟩
    refine zC.go zm_X6_begin ⟨rfl, rfl⟩ rfl ?_
    (refine zW.go (zC_om _) (fun K hK => ?_); conv => whnf)
    (refine And.intro (by first | omega | assumption | rfl | exact zin_and | exact ⟨zin_and, by omega⟩ | exact ⟨by omega, zin_and⟩ | exact Nat.le_of_ble_eq_true rfl | exact ⟨Nat.le_of_ble_eq_true rfl, rfl⟩ | exact ⟨Nat.le_of_ble_eq_true rfl, by assumption⟩ | exact ⟨by omega, Nat.le_of_ble_eq_true rfl⟩ | exact ⟨⟨by assumption, by omega⟩, Nat.le_of_ble_eq_true rfl⟩ | decide) ?_; conv => whnf)
    (refine m_goesOn (n := n) (m := m) (by rw [e65]; exact hw.1) ?_; conv => whnf)
    rw [e65, if_pos h3]
    (refine And.intro (by first | omega | assumption | rfl | exact zin_and | exact ⟨zin_and, by omega⟩ | exact ⟨by omega, zin_and⟩ | exact Nat.le_of_ble_eq_true rfl | exact ⟨Nat.le_of_ble_eq_true rfl, rfl⟩ | exact ⟨Nat.le_of_ble_eq_true rfl, by assumption⟩ | exact ⟨by omega, Nat.le_of_ble_eq_true rfl⟩ | exact ⟨⟨by assumption, by omega⟩, Nat.le_of_ble_eq_true rfl⟩ | decide) ?_; conv => whnf)
    (refine And.intro (fun h => ?_) (fun h => by omega); conv => whnf)
    (refine hK _ _ _ _ (zW.go (zC_om _) (fun K hK => ?_)); conv => whnf)
    (refine And.intro (by first | omega | assumption | rfl | exact zin_and | exact ⟨zin_and, by omega⟩ | exact ⟨by omega, zin_and⟩ | exact Nat.le_of_ble_eq_true rfl | exact ⟨Nat.le_of_ble_eq_true rfl, rfl⟩ | exact ⟨Nat.le_of_ble_eq_true rfl, by assumption⟩ | exact ⟨by omega, Nat.le_of_ble_eq_true rfl⟩ | exact ⟨⟨by assumption, by omega⟩, Nat.le_of_ble_eq_true rfl⟩ | decide) ?_; conv => whnf)
    (refine m_records (hhm.frame (by rw [e64]) (hf 67 (by omega) (by omega))) (fun g3 hf3 h643 hh3 => ?_); conv => whnf)
    rw [e65] at hh3
    (refine And.intro (by first | omega | assumption | rfl | exact zin_and | exact ⟨zin_and, by omega⟩ | exact ⟨by omega, zin_and⟩ | exact Nat.le_of_ble_eq_true rfl | exact ⟨Nat.le_of_ble_eq_true rfl, rfl⟩ | exact ⟨Nat.le_of_ble_eq_true rfl, by assumption⟩ | exact ⟨by omega, Nat.le_of_ble_eq_true rfl⟩ | exact ⟨⟨by assumption, by omega⟩, Nat.le_of_ble_eq_true rfl⟩ | decide) ?_; conv => whnf)
    (refine m_forgetsP (fun g4 hf4 r4 => ?_); conv => whnf)
    have r3 : g3 65 = g 65 := by rw [hf3 65 (by omega) (by omega), e65]
    rw [r3] at r4
    (refine And.intro (by first | omega | assumption | rfl | exact zin_and | exact ⟨zin_and, by omega⟩ | exact ⟨by omega, zin_and⟩ | exact Nat.le_of_ble_eq_true rfl | exact ⟨Nat.le_of_ble_eq_true rfl, rfl⟩ | exact ⟨Nat.le_of_ble_eq_true rfl, by assumption⟩ | exact ⟨by omega, Nat.le_of_ble_eq_true rfl⟩ | exact ⟨⟨by assumption, by omega⟩, Nat.le_of_ble_eq_true rfl⟩ | decide) ?_; conv => whnf)
    (refine m_sorts (n := n) (by rw [r4]; exact hw1.1.1) (fun g5 hf5 hso => ?_); conv => whnf)
    have r5 : g5 65 = mfg (g 65) := by rw [hf5 65 (by omega), r4]
    rw [r4] at hso
    (refine And.intro (by first | omega | assumption | rfl | exact zin_and | exact ⟨zin_and, by omega⟩ | exact ⟨by omega, zin_and⟩ | exact Nat.le_of_ble_eq_true rfl | exact ⟨Nat.le_of_ble_eq_true rfl, rfl⟩ | exact ⟨Nat.le_of_ble_eq_true rfl, by assumption⟩ | exact ⟨by omega, Nat.le_of_ble_eq_true rfl⟩ | exact ⟨⟨by assumption, by omega⟩, Nat.le_of_ble_eq_true rfl⟩ | decide) ?_; conv => whnf)
    (refine And.intro (by first | omega | assumption | rfl | exact zin_and | exact ⟨zin_and, by omega⟩ | exact ⟨by omega, zin_and⟩ | exact Nat.le_of_ble_eq_true rfl | exact ⟨Nat.le_of_ble_eq_true rfl, rfl⟩ | exact ⟨Nat.le_of_ble_eq_true rfl, by assumption⟩ | exact ⟨by omega, Nat.le_of_ble_eq_true rfl⟩ | exact ⟨⟨by assumption, by omega⟩, Nat.le_of_ble_eq_true rfl⟩ | decide) ?_; conv => whnf)
    have r6 : (zup g5 65 4 1) 65 = ru (mfg (g 65)) 4 1 := by rw [zup_ru, r5]
    have hag : magr (mfg (g 65)) (ru (mfg (g 65)) 4 1) := magr.rfl.ru (by omega)
    (refine And.intro (by first | omega | assumption | rfl | exact zin_and | exact ⟨zin_and, by omega⟩ | exact ⟨by omega, zin_and⟩ | exact Nat.le_of_ble_eq_true rfl | exact ⟨Nat.le_of_ble_eq_true rfl, rfl⟩ | exact ⟨Nat.le_of_ble_eq_true rfl, by assumption⟩ | exact ⟨by omega, Nat.le_of_ble_eq_true rfl⟩ | exact ⟨⟨by assumption, by omega⟩, Nat.le_of_ble_eq_true rfl⟩ | decide) ?_; conv => whnf)
    (refine And.intro (by first | omega | assumption | rfl | exact zin_and | exact ⟨zin_and, by omega⟩ | exact ⟨by omega, zin_and⟩ | exact Nat.le_of_ble_eq_true rfl | exact ⟨Nat.le_of_ble_eq_true rfl, rfl⟩ | exact ⟨Nat.le_of_ble_eq_true rfl, by assumption⟩ | exact ⟨by omega, Nat.le_of_ble_eq_true rfl⟩ | exact ⟨⟨by assumption, by omega⟩, Nat.le_of_ble_eq_true rfl⟩ | decide) ?_; conv => whnf)
    (refine m_makesR (n := n) (m := 0) zkd65 (by rw [r6]; exact hag.ok hw1.1.1) (by rw [r6]; exact ag_so hag hn (hso.up (by omega))) (by omega) (by rw [r6, ru_n (by omega)]; rfl) (by omega) (by rw [r6, ru_n (by omega), mfg_7]; omega) (fun g7 hf7 r7 => ?_); conv => whnf)
    rw [r6] at r7
    (refine And.intro (by first | omega | assumption | rfl | exact zin_and | exact ⟨zin_and, by omega⟩ | exact ⟨by omega, zin_and⟩ | exact Nat.le_of_ble_eq_true rfl | exact ⟨Nat.le_of_ble_eq_true rfl, rfl⟩ | exact ⟨Nat.le_of_ble_eq_true rfl, by assumption⟩ | exact ⟨by omega, Nat.le_of_ble_eq_true rfl⟩ | exact ⟨⟨by assumption, by omega⟩, Nat.le_of_ble_eq_true rfl⟩ | decide) ?_; conv => whnf)
    (refine And.intro (by first | omega | assumption | rfl | exact zin_and | exact ⟨zin_and, by omega⟩ | exact ⟨by omega, zin_and⟩ | exact Nat.le_of_ble_eq_true rfl | exact ⟨Nat.le_of_ble_eq_true rfl, rfl⟩ | exact ⟨Nat.le_of_ble_eq_true rfl, by assumption⟩ | exact ⟨by omega, Nat.le_of_ble_eq_true rfl⟩ | exact ⟨⟨by assumption, by omega⟩, Nat.le_of_ble_eq_true rfl⟩ | decide) ?_; conv => whnf)
    (refine m_of zkd65 (by omega) (by omega) ?_; conv => whnf)
    rw [r7]
    refine ⟨⟨fun w => absurd w (by decide), fun w => absurd w (by decide)⟩, rfl, ?_⟩
    have hf72 : ∀ j, j ≠ 64 → j ≠ 65 → j ≠ 67 → j ≠ 71 → g7 j = g2 j := fun j c1 c2 c3 c4 => by rw [hf7 j c2, zup_ne c2, hf5 j c4, hf4 j c2, hf3 j c1 c3]
    have e647 : g7 64 = g3 64 := by rw [hf7 64 (by omega), zup_ne (by omega), hf5 64 (by omega), hf4 64 (by omega)]
    refine J.mk (n := n) (m := 1) (z := pushz z) (rows := pushr z rows (g 65)) ?_ ?_ ?_ ?_ hs ht (fun j c => ?_) (fun j c => ?_)
    · rw [r7]; exact hwb
    · rw [r7, show mmk (ru (mfg (g 65)) 4 1) n (-5) (-5) 0 0 0 = ru (mroot (g 65) n) 4 1 from hb]
      exact (hr2.but (fun j c1 c2 c3 c4 => ru_n c3) hn (by omega)).frame (fun j c1 c2 => hf72 j (by omega) (by omega) (by omega) (by omega)) hn
    · exact hh1.frame (fun j c => by rw [hf72 j (by omega) (by omega) (by omega) (by omega), hf2 j (by omega) (by omega) (by omega)])
    · exact hh3.frame (by rw [e647]) (by rw [hf7 67 (by omega), zup_ne (by omega), hf5 67 (by omega), hf4 67 (by omega)])
    · rw [hf72 j (by omega) (by omega) (by omega) (by omega), hf j (by omega) (by omega)]
    · rw [e647, h643 j c, e64]
  · rw [if_neg h3]
    (refine And.intro (by first | omega | assumption | rfl | exact zin_and | exact ⟨zin_and, by omega⟩ | exact ⟨by omega, zin_and⟩ | exact Nat.le_of_ble_eq_true rfl | exact ⟨Nat.le_of_ble_eq_true rfl, rfl⟩ | exact ⟨Nat.le_of_ble_eq_true rfl, by assumption⟩ | exact ⟨by omega, Nat.le_of_ble_eq_true rfl⟩ | exact ⟨⟨by assumption, by omega⟩, Nat.le_of_ble_eq_true rfl⟩ | decide) ?_; conv => whnf)
    (refine And.intro (fun h => by omega) (fun h => ?_); conv => whnf)
    (refine And.intro (by first | omega | assumption | rfl | exact zin_and | exact ⟨zin_and, by omega⟩ | exact ⟨by omega, zin_and⟩ | exact Nat.le_of_ble_eq_true rfl | exact ⟨Nat.le_of_ble_eq_true rfl, rfl⟩ | exact ⟨Nat.le_of_ble_eq_true rfl, by assumption⟩ | exact ⟨by omega, Nat.le_of_ble_eq_true rfl⟩ | exact ⟨⟨by assumption, by omega⟩, Nat.le_of_ble_eq_true rfl⟩ | decide) ?_; conv => whnf)
    refine ⟨-4, by omega, rfl, ?_⟩
    refine zC.go zm_X6_begin ⟨rfl, rfl⟩ rfl ?_
    (refine zW.go (zC_om _) (fun K hK => ?_); conv => whnf)
    (refine And.intro (by first | omega | assumption | rfl | exact zin_and | exact ⟨zin_and, by omega⟩ | exact ⟨by omega, zin_and⟩ | exact Nat.le_of_ble_eq_true rfl | exact ⟨Nat.le_of_ble_eq_true rfl, rfl⟩ | exact ⟨Nat.le_of_ble_eq_true rfl, by assumption⟩ | exact ⟨by omega, Nat.le_of_ble_eq_true rfl⟩ | exact ⟨⟨by assumption, by omega⟩, Nat.le_of_ble_eq_true rfl⟩ | decide) ?_; conv => whnf)
    (refine m_goesOn hw.1 ?_; conv => whnf)
    rw [if_neg h3]
    (refine And.intro (by first | omega | assumption | rfl | exact zin_and | exact ⟨zin_and, by omega⟩ | exact ⟨by omega, zin_and⟩ | exact Nat.le_of_ble_eq_true rfl | exact ⟨Nat.le_of_ble_eq_true rfl, rfl⟩ | exact ⟨Nat.le_of_ble_eq_true rfl, by assumption⟩ | exact ⟨by omega, Nat.le_of_ble_eq_true rfl⟩ | exact ⟨⟨by assumption, by omega⟩, Nat.le_of_ble_eq_true rfl⟩ | decide) ?_; conv => whnf)
    (refine And.intro (fun h => by omega) (fun h => ?_); conv => whnf)
    (refine And.intro (by first | omega | assumption | rfl | exact zin_and | exact ⟨zin_and, by omega⟩ | exact ⟨by omega, zin_and⟩ | exact Nat.le_of_ble_eq_true rfl | exact ⟨Nat.le_of_ble_eq_true rfl, rfl⟩ | exact ⟨Nat.le_of_ble_eq_true rfl, by assumption⟩ | exact ⟨by omega, Nat.le_of_ble_eq_true rfl⟩ | exact ⟨⟨by assumption, by omega⟩, Nat.le_of_ble_eq_true rfl⟩ | decide) ?_; conv => whnf)
    exact ⟨rfl, hJ⟩
end PG
