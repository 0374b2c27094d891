theorem mgu_how {s : zS} {k : Nat} : ∀ {m : Nat}, nd (mgu s m) k 4 = if k < m ∧ nd s k 4 = 0 then 5 else nd s k 4
  | 0 => by rw [if_neg (by omega)]; rfl
  | m + 1 => by
    have ih := mgu_how (s := s) (k := k) (m := m)
    have ihm : nd (mgu s m) m 4 = nd s m 4 := by rw [mgu_how (s := s) (k := m) (m := m), if_neg (by omega)]
    rw [mgu, ihm]
    by_cases h : nd s m 4 = 0
    · rw [if_pos h]
      by_cases c : k = m
      · subst c
        rw [if_pos ⟨by omega, h⟩]
        exact ru_s
      · have e : nd (ru (mgu s m) (45 + 7 * m + 4) 5) k 4 = nd (mgu s m) k 4 := ru_n (by omega)
        rw [e, ih]
        by_cases c2 : k < m ∧ nd s k 4 = 0
        · rw [if_pos c2, if_pos ⟨by omega, c2.2⟩]
        · rw [if_neg c2, if_neg (fun w => c2 ⟨by omega, w.2⟩)]
    · rw [if_neg h, ih]
      by_cases c2 : k < m ∧ nd s k 4 = 0
      · rw [if_pos c2, if_pos ⟨by omega, c2.2⟩]
      · rw [if_neg c2, if_neg (fun w => c2 ⟨by have : k ≠ m := fun q => h (by rw [← q]; exact w.2)
                                               omega, w.2⟩)]
theorem minw.give {s : zS} {n m : Nat} (h : minw s n m) : minw (mgu s m) n m := by
  obtain ⟨⟨hok, hsym, h2, h3, ⟨h5, hm⟩, h4, hn, h7, h8, h0⟩, h6, hs⟩ := h
  have hn12 := hok.2.1
  have old : ∀ j : Int, (∀ k : Nat, k < m → j ≠ 45 + 7 * k + 4) → mgu s m j = s j := fun j hj => mgu_old hj
  have hmag : magr s (mgu s m) := ⟨(old 0 (fun k _ => by omega)).symm, (old 1 (fun k _ => by omega)).symm, fun j c1 c2 => (old j (fun k _ => by omega)).symm⟩
  have hcn : mcn (mgu s m) 0 m ≤ mcn s 0 m := by
    refine zcnt_mono m _ _ (fun k hk hd => ?_)
    have hd : nd (mgu s m) k 4 = 0 := of_decide_eq_true hd
    rw [mgu_how] at hd
    by_cases c : k < m ∧ nd s k 4 = 0
    · exact decide_eq_true c.2
    · rw [if_neg c] at hd
      exact decide_eq_true hd
  refine ⟨⟨hmag.ok hok, hsym.ag hn12 hmag, ?_, ?_, ⟨?_, hm⟩, ?_, fun k hk => ?_, ?_, ?_, ?_⟩, ?_, ?_⟩
  · rw [old 2 (fun k _ => by omega)]; exact h2
  · rw [old 3 (fun k _ => by omega)]; exact h3
  · rw [old 5 (fun k _ => by omega)]; exact h5
  · rw [old 4 (fun k _ => by omega)]; exact h4
  · obtain ⟨i, o, q1, q2, q3, q4, q5, q6, q7, q8, q9⟩ := hn k hk
    have e : ∀ f : Int, 0 ≤ f → f < 7 → f ≠ 4 → nd (mgu s m) k f = nd s k f := fun f c1 c2 c3 => old _ (fun k' _ => by omega)
    have e4 := mgu_how (s := s) (k := k) (m := m)
    refine ⟨i, o, by rw [e 5 (by omega) (by omega) (by omega)]; exact q1, by rw [e 6 (by omega) (by omega) (by omega)]; exact q2, q3, q4, ?_, ?_, ?_, ?_, ?_⟩
    · rw [e 3 (by omega) (by omega) (by omega), ← ag_child hmag hn12 hok.pos]; exact q5
    · rw [e4]; split <;> omega
    · intro w
      rw [e4] at w
      by_cases c : k < m ∧ nd s k 4 = 0
      · rw [if_pos c] at w; omega
      · rw [if_neg c] at w
        rw [← ag_poss hmag hn12]
        exact q7 w
    · rw [e 0 (by omega) (by omega) (by omega), e 1 (by omega) (by omega) (by omega), e 2 (by omega) (by omega) (by omega)]; exact q8
    · rw [e 0 (by omega) (by omega) (by omega), e 1 (by omega) (by omega) (by omega), e 2 (by omega) (by omega) (by omega)]; exact q9
  · rw [old 7 (fun k _ => by omega)]; exact h7
  · rw [old 8 (fun k _ => by omega)]; exact h8
  · rw [old 6 (fun k _ => by omega), old 7 (fun k _ => by omega), old 8 (fun k _ => by omega)]; exact h0
  · rw [old 6 (fun k _ => by omega)]; exact h6
  · rw [old 6 (fun k _ => by omega)]
    omega
section PV
variable {g : zM} {d : Nat} {Q : zP}
theorem ru_same {s : zS} {i v : Int} (h : s i = v) : ru s i v = s := by
  funext j
  unfold ru
  by_cases c : j = i
  · rw [if_pos c, c, h]
  · rw [if_neg c]
theorem p_giveUp (hJ : J g) : zPair (d + 8) 63 [zR 0] 130 [zR 64] g := by
  obtain ⟨⟨n, m, hw, hr⟩, ⟨z, rows, hhc, hhm⟩, hs, ht⟩ := id hJ
  have k0 := zkd0
  have k1 := zkd1
  have k8 := zKC_8.1
  have k14 : zkd 14 = (0, 2) := rfl
  have k64 := zkd64
  have k65a : (zkd 65).1 = 1 := rfl
  have k65b : (zkd 65).2 = 2845 := rfl
  have hn := hw.n12
  have hm := hw.m400
  have hm5 : g 65 5 = m := hw.1.2.2.2.2.1.1
  have hz : ∀ k : Nat, k < m → zin (nd (g 65) k 4) := fun k hk => ((hw.1.2.2.2.2.2.2.1 k hk).rng hw.1.1).1
  have hle : mcn (g 65) 0 m ≤ m := zcnt_le m (fun j => decide (nd (g 65) j 4 = 0))
  refine zC.go zm_X5_giveUp ⟨rfl, rfl⟩ rfl ?_
  (refine zW.go (zC_om _) (fun K hK => ?_); conv => whnf)
  (refine And.intro (by first | omega | assumption | rfl | exact zin_and | exact ⟨zin_and, by omega⟩ | exact ⟨by omega, zin_and⟩ | exact Nat.le_of_ble_eq_true rfl | exact ⟨Nat.le_of_ble_eq_true rfl, rfl⟩ | exact ⟨Nat.le_of_ble_eq_true rfl, by assumption⟩ | exact ⟨by omega, Nat.le_of_ble_eq_true rfl⟩ | exact ⟨⟨by assumption, by omega⟩, Nat.le_of_ble_eq_true rfl⟩ | decide) ?_; conv => whnf)
  (refine And.intro (by first | omega | assumption | rfl | exact zin_and | exact ⟨zin_and, by omega⟩ | exact ⟨by omega, zin_and⟩ | exact Nat.le_of_ble_eq_true rfl | exact ⟨Nat.le_of_ble_eq_true rfl, rfl⟩ | exact ⟨Nat.le_of_ble_eq_true rfl, by assumption⟩ | exact ⟨by omega, Nat.le_of_ble_eq_true rfl⟩ | exact ⟨⟨by assumption, by omega⟩, Nat.le_of_ble_eq_true rfl⟩ | decide) ?_; conv => whnf)
  (refine And.intro (by first | omega | assumption | rfl | exact zin_and | exact ⟨zin_and, by omega⟩ | exact ⟨by omega, zin_and⟩ | exact Nat.le_of_ble_eq_true rfl | exact ⟨Nat.le_of_ble_eq_true rfl, rfl⟩ | exact ⟨Nat.le_of_ble_eq_true rfl, by assumption⟩ | exact ⟨by omega, Nat.le_of_ble_eq_true rfl⟩ | exact ⟨⟨by assumption, by omega⟩, Nat.le_of_ble_eq_true rfl⟩ | decide) ?_; conv => whnf)
  (refine c_countOf zKC_8.2.2 hr.2.1 hm (how := 0) (by omega) ?_; conv => whnf)
  (refine And.intro (by first | omega | assumption | rfl | exact zin_and | exact ⟨zin_and, by omega⟩ | exact ⟨by omega, zin_and⟩ | exact Nat.le_of_ble_eq_true rfl | exact ⟨Nat.le_of_ble_eq_true rfl, rfl⟩ | exact ⟨Nat.le_of_ble_eq_true rfl, by assumption⟩ | exact ⟨by omega, Nat.le_of_ble_eq_true rfl⟩ | exact ⟨⟨by assumption, by omega⟩, Nat.le_of_ble_eq_true rfl⟩ | decide) ?_; conv => whnf)
  by_cases h3 : mcn (g 65) 0 m = 0
  · (refine And.intro (fun h => by omega) (fun h => ?_); conv => whnf)
    (refine And.intro (by first | omega | assumption | rfl | exact zin_and | exact ⟨zin_and, by omega⟩ | exact ⟨by omega, zin_and⟩ | exact Nat.le_of_ble_eq_true rfl | exact ⟨Nat.le_of_ble_eq_true rfl, rfl⟩ | exact ⟨Nat.le_of_ble_eq_true rfl, by assumption⟩ | exact ⟨by omega, Nat.le_of_ble_eq_true rfl⟩ | exact ⟨⟨by assumption, by omega⟩, Nat.le_of_ble_eq_true rfl⟩ | decide) ?_; conv => whnf)
    refine ⟨-5, by omega, rfl, ?_⟩
    refine zC.go zm_X6_giveUp ⟨rfl, rfl⟩ rfl ?_
    (refine zW.go (zC_om _) (fun K hK => ?_); conv => whnf)
    (refine And.intro (by first | omega | assumption | rfl | exact zin_and | exact ⟨zin_and, by omega⟩ | exact ⟨by omega, zin_and⟩ | exact Nat.le_of_ble_eq_true rfl | exact ⟨Nat.le_of_ble_eq_true rfl, rfl⟩ | exact ⟨Nat.le_of_ble_eq_true rfl, by assumption⟩ | exact ⟨by omega, Nat.le_of_ble_eq_true rfl⟩ | exact ⟨⟨by assumption, by omega⟩, Nat.le_of_ble_eq_true rfl⟩ | decide) ?_; conv => whnf)
    (refine And.intro (by first | omega | assumption | rfl | exact zin_and | exact ⟨zin_and, by omega⟩ | exact ⟨by omega, zin_and⟩ | exact Nat.le_of_ble_eq_true rfl | exact ⟨Nat.le_of_ble_eq_true rfl, rfl⟩ | exact ⟨Nat.le_of_ble_eq_true rfl, by assumption⟩ | exact ⟨by omega, Nat.le_of_ble_eq_true rfl⟩ | exact ⟨⟨by assumption, by omega⟩, Nat.le_of_ble_eq_true rfl⟩ | decide) ?_; conv => whnf)
    (refine m_many zkd65 hm5 hm (how := 0) (by omega) hz ?_; conv => whnf)
    (refine And.intro (by first | omega | assumption | rfl | exact zin_and | exact ⟨zin_and, by omega⟩ | exact ⟨by omega, zin_and⟩ | exact Nat.le_of_ble_eq_true rfl | exact ⟨Nat.le_of_ble_eq_true rfl, rfl⟩ | exact ⟨Nat.le_of_ble_eq_true rfl, by assumption⟩ | exact ⟨by omega, Nat.le_of_ble_eq_true rfl⟩ | exact ⟨⟨by assumption, by omega⟩, Nat.le_of_ble_eq_true rfl⟩ | decide) ?_; conv => whnf)
    (refine And.intro (fun h => by omega) (fun h => ?_); conv => whnf)
    (refine And.intro (by first | omega | assumption | rfl | exact zin_and | exact ⟨zin_and, by omega⟩ | exact ⟨by omega, zin_and⟩ | exact Nat.le_of_ble_eq_true rfl | exact ⟨Nat.le_of_ble_eq_true rfl, rfl⟩ | exact ⟨Nat.le_of_ble_eq_true rfl, by assumption⟩ | exact ⟨by omega, Nat.le_of_ble_eq_true rfl⟩ | exact ⟨⟨by assumption, by omega⟩, Nat.le_of_ble_eq_true rfl⟩ | decide) ?_; conv => whnf)
    exact ⟨rfl, hJ⟩
  · (refine And.intro (fun h => ?_) (fun h => by omega); conv => whnf)
    (refine hK _ _ _ _ (zW.go (zC_om _) (fun K hK => ?_)); conv => whnf)
    (refine And.intro (by first | omega | assumption | rfl | exact zin_and | exact ⟨zin_and, by omega⟩ | exact ⟨by omega, zin_and⟩ | exact Nat.le_of_ble_eq_true rfl | exact ⟨Nat.le_of_ble_eq_true rfl, rfl⟩ | exact ⟨Nat.le_of_ble_eq_true rfl, by assumption⟩ | exact ⟨by omega, Nat.le_of_ble_eq_true rfl⟩ | exact ⟨⟨by assumption, by omega⟩, Nat.le_of_ble_eq_true rfl⟩ | decide) ?_; conv => whnf)
    (refine And.intro (by first | omega | assumption | rfl | exact zin_and | exact ⟨zin_and, by omega⟩ | exact ⟨by omega, zin_and⟩ | exact Nat.le_of_ble_eq_true rfl | exact ⟨Nat.le_of_ble_eq_true rfl, rfl⟩ | exact ⟨Nat.le_of_ble_eq_true rfl, by assumption⟩ | exact ⟨by omega, Nat.le_of_ble_eq_true rfl⟩ | exact ⟨⟨by assumption, by omega⟩, Nat.le_of_ble_eq_true rfl⟩ | decide) ?_; conv => whnf)
    (refine And.intro (by first | omega | assumption | rfl | exact zin_and | exact ⟨zin_and, by omega⟩ | exact ⟨by omega, zin_and⟩ | exact Nat.le_of_ble_eq_true rfl | exact ⟨Nat.le_of_ble_eq_true rfl, rfl⟩ | exact ⟨Nat.le_of_ble_eq_true rfl, by assumption⟩ | exact ⟨by omega, Nat.le_of_ble_eq_true rfl⟩ | exact ⟨⟨by assumption, by omega⟩, Nat.le_of_ble_eq_true rfl⟩ | decide) ?_; conv => whnf)
    (refine c_pushH zKC_8 (by omega) (by omega) hr hw hhc (fun g1 hf1 hh1 => ?_); conv => whnf)
    have hr1 : RelC g1 8 (g 65) n m := hr.frame (fun j c1 c2 => hf1 j (by omega) (by omega)) hn
    (refine And.intro (by first | omega | assumption | rfl | exact zin_and | exact ⟨zin_and, by omega⟩ | exact ⟨by omega, zin_and⟩ | exact Nat.le_of_ble_eq_true rfl | exact ⟨Nat.le_of_ble_eq_true rfl, rfl⟩ | exact ⟨Nat.le_of_ble_eq_true rfl, by assumption⟩ | exact ⟨by omega, Nat.le_of_ble_eq_true rfl⟩ | exact ⟨⟨by assumption, by omega⟩, Nat.le_of_ble_eq_true rfl⟩ | decide) ?_; conv => whnf)
    (refine And.intro (by first | omega | assumption | rfl | exact zin_and | exact ⟨zin_and, by omega⟩ | exact ⟨by omega, zin_and⟩ | exact Nat.le_of_ble_eq_true rfl | exact ⟨Nat.le_of_ble_eq_true rfl, rfl⟩ | exact ⟨Nat.le_of_ble_eq_true rfl, by assumption⟩ | exact ⟨by omega, Nat.le_of_ble_eq_true rfl⟩ | exact ⟨⟨by assumption, by omega⟩, Nat.le_of_ble_eq_true rfl⟩ | decide) ?_; conv => whnf)
    (refine And.intro (by first | omega | assumption | rfl | exact zin_and | exact ⟨zin_and, by omega⟩ | exact ⟨by omega, zin_and⟩ | exact Nat.le_of_ble_eq_true rfl | exact ⟨Nat.le_of_ble_eq_true rfl, rfl⟩ | exact ⟨Nat.le_of_ble_eq_true rfl, by assumption⟩ | exact ⟨by omega, Nat.le_of_ble_eq_true rfl⟩ | exact ⟨⟨by assumption, by omega⟩, Nat.le_of_ble_eq_true rfl⟩ | decide) ?_; conv => whnf)
    (refine c_giveUpOpen zKC_8.2.2 hr1.2.1 hm (fun g2 hf2 hr2 => ?_); conv => whnf)
    have hf : ∀ j, j ≠ 1 → (j < 8 ∨ (16 ≤ j ∧ j < 32) ∨ 64 ≤ j) → g2 j = g j := fun j c1 c2 => by rw [hf2 j (by omega), hf1 j c1 (by omega)]
    have e64 := hf 64 (by omega) (by omega)
    have e65 := hf 65 (by omega) (by omega)
    have old : ∀ j : Int, (∀ k : Nat, k < m → j ≠ 45 + 7 * k + 4) → mgu (g 65) m j = g 65 j := fun j hj => mgu_old hj
    have hmag : magr (g 65) (mgu (g 65) m) := ⟨(old 0 (fun k _ => by omega)).symm, (old 1 (fun k _ => by omega)).symm, fun j c1 c2 => (old j (fun k _ => by omega)).symm⟩
    have hrc : RelC g2 8 (mgu (g 65) m) n m := by
      obtain ⟨b1, -, b3⟩ := hr1
      refine ⟨b1.frame (fun j c1 c2 => hf2 j (by omega)) hmag hn, hr2, ?_⟩
      rw [hf2 8 (by omega), old 2 (fun k _ => by omega), old 3 (fun k _ => by omega), old 6 (fun k _ => by omega), old 7 (fun k _ => by omega), old 8 (fun k _ => by omega)]
      exact b3
    refine ⟨⟨fun w => absurd w (by decide), fun w => absurd w (by decide)⟩, (mcn (g 65) 0 m : Nat), by omega, rfl, ?_⟩
    refine zC.go zm_X6_giveUp ⟨rfl, rfl⟩ rfl ?_
    (refine zW.upto (zC_om _) 13 (fun K hK => ?_); conv => whnf)
    (refine And.intro (by first | omega | assumption | rfl | exact zin_and | exact ⟨zin_and, by omega⟩ | exact ⟨by omega, zin_and⟩ | exact Nat.le_of_ble_eq_true rfl | exact ⟨Nat.le_of_ble_eq_true rfl, rfl⟩ | exact ⟨Nat.le_of_ble_eq_true rfl, by assumption⟩ | exact ⟨by omega, Nat.le_of_ble_eq_true rfl⟩ | exact ⟨⟨by assumption, by omega⟩, Nat.le_of_ble_eq_true rfl⟩ | decide) ?_; conv => whnf)
    (refine And.intro (by first | omega | assumption | rfl | exact zin_and | exact ⟨zin_and, by omega⟩ | exact ⟨by omega, zin_and⟩ | exact Nat.le_of_ble_eq_true rfl | exact ⟨Nat.le_of_ble_eq_true rfl, rfl⟩ | exact ⟨Nat.le_of_ble_eq_true rfl, by assumption⟩ | exact ⟨by omega, Nat.le_of_ble_eq_true rfl⟩ | exact ⟨⟨by assumption, by omega⟩, Nat.le_of_ble_eq_true rfl⟩ | decide) ?_; conv => whnf)
    (refine m_many (m := m) (a := 65) (g := g2) zkd65 (by rw [e65]; exact hm5) hm (how := 0) (by omega) (by rw [e65]; exact hz) ?_; conv => whnf)
    rw [e65]
    (refine And.intro (by first | omega | assumption | rfl | exact zin_and | exact ⟨zin_and, by omega⟩ | exact ⟨by omega, zin_and⟩ | exact Nat.le_of_ble_eq_true rfl | exact ⟨Nat.le_of_ble_eq_true rfl, rfl⟩ | exact ⟨Nat.le_of_ble_eq_true rfl, by assumption⟩ | exact ⟨by omega, Nat.le_of_ble_eq_true rfl⟩ | exact ⟨⟨by assumption, by omega⟩, Nat.le_of_ble_eq_true rfl⟩ | decide) ?_; conv => whnf)
    (refine And.intro (fun h => ?_) (fun h => by omega); conv => whnf)
    (refine hK _ _ _ _ ?_)
    (refine zW.upto (zC_om _) 4 (fun K hK => ?_); conv => whnf)
    (refine And.intro (by first | omega | assumption | rfl | exact zin_and | exact ⟨zin_and, by omega⟩ | exact ⟨by omega, zin_and⟩ | exact Nat.le_of_ble_eq_true rfl | exact ⟨Nat.le_of_ble_eq_true rfl, rfl⟩ | exact ⟨Nat.le_of_ble_eq_true rfl, by assumption⟩ | exact ⟨by omega, Nat.le_of_ble_eq_true rfl⟩ | exact ⟨⟨by assumption, by omega⟩, Nat.le_of_ble_eq_true rfl⟩ | decide) ?_; conv => whnf)
    (refine m_records (hhm.frame (by rw [e64]) (hf 67 (by omega) (by omega))) (fun g3 hf3 h643 hh3 => ?_); conv => whnf)
    rw [e65] at hh3
    have r3 : g3 65 = g 65 := by rw [hf3 65 (by omega) (by omega), e65]
    have go : ∀ (r k : Nat) (g4 : zM), k + r = m → (∀ j, j ≠ 65 → g4 j = g3 j) → g4 65 = mgu (g 65) k → zW zX6_giveUp (zC (d + 7)) (fun o' g2 => o' = some (zI (mcn (g 65) 0 m : Nat)) ∧ J g2) 13 [zR 64, zI (mcn (g 65) 0 m : Nat), zI k] [] g4 := by
      intro r
      induction r with
      | zero =>
        intro k g4 e hf4 r4
        obtain rfl : k = m := by omega
        have e45 : g4 65 5 = (k : Int) := by rw [r4, old 5 (fun k _ => by omega)]; exact hm5
        (refine zW.go (zC_om _) (fun K hK => ?_); conv => whnf)
        (refine And.intro (by first | omega | assumption | rfl | exact zin_and | exact ⟨zin_and, by omega⟩ | exact ⟨by omega, zin_and⟩ | exact Nat.le_of_ble_eq_true rfl | exact ⟨Nat.le_of_ble_eq_true rfl, rfl⟩ | exact ⟨Nat.le_of_ble_eq_true rfl, by assumption⟩ | exact ⟨by omega, Nat.le_of_ble_eq_true rfl⟩ | exact ⟨⟨by assumption, by omega⟩, Nat.le_of_ble_eq_true rfl⟩ | decide) ?_; conv => whnf)
        (refine And.intro (by first | omega | assumption | rfl | exact zin_and | exact ⟨zin_and, by omega⟩ | exact ⟨by omega, zin_and⟩ | exact Nat.le_of_ble_eq_true rfl | exact ⟨Nat.le_of_ble_eq_true rfl, rfl⟩ | exact ⟨Nat.le_of_ble_eq_true rfl, by assumption⟩ | exact ⟨by omega, Nat.le_of_ble_eq_true rfl⟩ | exact ⟨⟨by assumption, by omega⟩, Nat.le_of_ble_eq_true rfl⟩ | decide) ?_; conv => whnf)
        rw [e45]
        (refine And.intro (by first | omega | assumption | rfl | exact zin_and | exact ⟨zin_and, by omega⟩ | exact ⟨by omega, zin_and⟩ | exact Nat.le_of_ble_eq_true rfl | exact ⟨Nat.le_of_ble_eq_true rfl, rfl⟩ | exact ⟨Nat.le_of_ble_eq_true rfl, by assumption⟩ | exact ⟨by omega, Nat.le_of_ble_eq_true rfl⟩ | exact ⟨⟨by assumption, by omega⟩, Nat.le_of_ble_eq_true rfl⟩ | decide) ?_; conv => whnf)
        (refine And.intro (fun h => ?_) (fun h => by omega); conv => whnf)
        (refine hK _ _ _ _ (zW.go (zC_om _) (fun K hK => ?_)); conv => whnf)
        refine ⟨⟨fun w => absurd w (by decide), fun w => absurd w (by decide)⟩, rfl, ?_⟩
        refine J.mk (n := n) (m := k) (z := pushz z) (rows := pushr z rows (g 65)) ?_ ?_ ?_ ?_ hs ht (fun j c => ?_) (fun j c => ?_)
        · rw [r4]; exact hw.give
        · rw [r4]
          exact hrc.frame (fun j c1 c2 => by rw [hf4 j (by omega), hf3 j (by omega) (by omega)]) hn
        · exact hh1.frame (fun j c => by rw [hf4 j (by omega), hf3 j (by omega) (by omega), hf2 j (by omega)])
        · exact hh3.frame (by rw [hf4 64 (by omega)]) (by rw [hf4 67 (by omega)])
        · rw [hf4 j (by omega), hf3 j (by omega) (by omega), hf j (by omega) (by omega)]
        · rw [hf4 64 (by omega), h643 j c, e64]
      | succ r ih =>
        intro k g4 e hf4 r4
        have e45 : g4 65 5 = (m : Int) := by rw [r4, mgu_old (fun k _ => by omega)]; exact hm5
        have hzk : zin (nd (g4 65) k 4) := by
          rw [r4, mgu_how, if_neg (by omega)]
          exact hz k (by omega)
        have ih := ih (k + 1)
        rw [mgu] at ih
        (refine zW.go (zC_om _) (fun K hK => ?_); conv => whnf)
        (refine And.intro (by first | omega | assumption | rfl | exact zin_and | exact ⟨zin_and, by omega⟩ | exact ⟨by omega, zin_and⟩ | exact Nat.le_of_ble_eq_true rfl | exact ⟨Nat.le_of_ble_eq_true rfl, rfl⟩ | exact ⟨Nat.le_of_ble_eq_true rfl, by assumption⟩ | exact ⟨by omega, Nat.le_of_ble_eq_true rfl⟩ | exact ⟨⟨by assumption, by omega⟩, Nat.le_of_ble_eq_true rfl⟩ | decide) ?_; conv => whnf)
        (refine And.intro (by first | omega | assumption | rfl | exact zin_and | exact ⟨zin_and, by omega⟩ | exact ⟨by omega, zin_and⟩ | exact Nat.le_of_ble_eq_true rfl | exact ⟨Nat.le_of_ble_eq_true rfl, rfl⟩ | exact ⟨Nat.le_of_ble_eq_true rfl, by assumption⟩ | exact ⟨by omega, Nat.le_of_ble_eq_true rfl⟩ | exact ⟨⟨by assumption, by omega⟩, Nat.le_of_ble_eq_true rfl⟩ | decide) ?_; conv => whnf)
        rw [e45]
        (refine And.intro (by first | omega | assumption | rfl | exact zin_and | exact ⟨zin_and, by omega⟩ | exact ⟨by omega, zin_and⟩ | exact Nat.le_of_ble_eq_true rfl | exact ⟨Nat.le_of_ble_eq_true rfl, rfl⟩ | exact ⟨Nat.le_of_ble_eq_true rfl, by assumption⟩ | exact ⟨by omega, Nat.le_of_ble_eq_true rfl⟩ | exact ⟨⟨by assumption, by omega⟩, Nat.le_of_ble_eq_true rfl⟩ | decide) ?_; conv => whnf)
        (refine And.intro (fun h => by omega) (fun h => ?_); conv => whnf)
        (refine And.intro (by first | omega | assumption | rfl | exact zin_and | exact ⟨zin_and, by omega⟩ | exact ⟨by omega, zin_and⟩ | exact Nat.le_of_ble_eq_true rfl | exact ⟨Nat.le_of_ble_eq_true rfl, rfl⟩ | exact ⟨Nat.le_of_ble_eq_true rfl, by assumption⟩ | exact ⟨by omega, Nat.le_of_ble_eq_true rfl⟩ | exact ⟨⟨by assumption, by omega⟩, Nat.le_of_ble_eq_true rfl⟩ | decide) ?_; conv => whnf)
        (refine And.intro (by first | omega | assumption | rfl | exact zin_and | exact ⟨zin_and, by omega⟩ | exact ⟨by omega, zin_and⟩ | exact Nat.le_of_ble_eq_true rfl | exact ⟨Nat.le_of_ble_eq_true rfl, rfl⟩ | exact ⟨Nat.le_of_ble_eq_true rfl, by assumption⟩ | exact ⟨by omega, Nat.le_of_ble_eq_true rfl⟩ | exact ⟨⟨by assumption, by omega⟩, Nat.le_of_ble_eq_true rfl⟩ | decide) ?_; conv => whnf)
        (refine And.intro (by first | omega | assumption | rfl | exact zin_and | exact ⟨zin_and, by omega⟩ | exact ⟨by omega, zin_and⟩ | exact Nat.le_of_ble_eq_true rfl | exact ⟨Nat.le_of_ble_eq_true rfl, rfl⟩ | exact ⟨Nat.le_of_ble_eq_true rfl, by assumption⟩ | exact ⟨by omega, Nat.le_of_ble_eq_true rfl⟩ | exact ⟨⟨by assumption, by omega⟩, Nat.le_of_ble_eq_true rfl⟩ | decide) ?_; conv => whnf)
        (refine m_of zkd65 (by omega) (by omega) ?_; conv => whnf)
        (refine And.intro (by first | omega | assumption | rfl | exact zin_and | exact ⟨zin_and, by omega⟩ | exact ⟨by omega, zin_and⟩ | exact Nat.le_of_ble_eq_true rfl | exact ⟨Nat.le_of_ble_eq_true rfl, rfl⟩ | exact ⟨Nat.le_of_ble_eq_true rfl, by assumption⟩ | exact ⟨by omega, Nat.le_of_ble_eq_true rfl⟩ | exact ⟨⟨by assumption, by omega⟩, Nat.le_of_ble_eq_true rfl⟩ | decide) ?_; conv => whnf)
        by_cases h4 : nd (g4 65) k 4 = 0
        · rw [if_pos (by rw [← r4]; exact h4)] at ih
          (refine And.intro (fun h => by omega) (fun h => ?_); conv => whnf)
          (refine hK _ _ _ _ (zW.go (zC_om _) (fun K hK => ?_)); conv => whnf)
          (refine And.intro (by first | omega | assumption | rfl | exact zin_and | exact ⟨zin_and, by omega⟩ | exact ⟨by omega, zin_and⟩ | exact Nat.le_of_ble_eq_true rfl | exact ⟨Nat.le_of_ble_eq_true rfl, rfl⟩ | exact ⟨Nat.le_of_ble_eq_true rfl, by assumption⟩ | exact ⟨by omega, Nat.le_of_ble_eq_true rfl⟩ | exact ⟨⟨by assumption, by omega⟩, Nat.le_of_ble_eq_true rfl⟩ | decide) ?_; conv => whnf)
          refine hK _ _ _ _ (ih _ (by omega) (fun j hj => ?_) ?_)
          · rw [zup_ne hj, hf4 j hj]
          · rw [zup_ru, r4]
        · rw [if_neg (by rw [← r4]; exact h4)] at ih
          (refine And.intro (fun h => ?_) (fun h => by omega); conv => whnf)
          (refine hK _ _ _ _ (zW.go (zC_om _) (fun K hK => ?_)); conv => whnf)
          (refine And.intro (by first | omega | assumption | rfl | exact zin_and | exact ⟨zin_and, by omega⟩ | exact ⟨by omega, zin_and⟩ | exact Nat.le_of_ble_eq_true rfl | exact ⟨Nat.le_of_ble_eq_true rfl, rfl⟩ | exact ⟨Nat.le_of_ble_eq_true rfl, by assumption⟩ | exact ⟨by omega, Nat.le_of_ble_eq_true rfl⟩ | exact ⟨⟨by assumption, by omega⟩, Nat.le_of_ble_eq_true rfl⟩ | decide) ?_; conv => whnf)
          (refine And.intro (by first | omega | assumption | rfl | exact zin_and | exact ⟨zin_and, by omega⟩ | exact ⟨by omega, zin_and⟩ | exact Nat.le_of_ble_eq_true rfl | exact ⟨Nat.le_of_ble_eq_true rfl, rfl⟩ | exact ⟨Nat.le_of_ble_eq_true rfl, by assumption⟩ | exact ⟨by omega, Nat.le_of_ble_eq_true rfl⟩ | exact ⟨⟨by assumption, by omega⟩, Nat.le_of_ble_eq_true rfl⟩ | decide) ?_; conv => whnf)
          (refine m_of zkd65 (by omega) (by omega) ?_; conv => whnf)
          (refine And.intro (by first | omega | assumption | rfl | exact zin_and | exact ⟨zin_and, by omega⟩ | exact ⟨by omega, zin_and⟩ | exact Nat.le_of_ble_eq_true rfl | exact ⟨Nat.le_of_ble_eq_true rfl, rfl⟩ | exact ⟨Nat.le_of_ble_eq_true rfl, by assumption⟩ | exact ⟨by omega, Nat.le_of_ble_eq_true rfl⟩ | exact ⟨⟨by assumption, by omega⟩, Nat.le_of_ble_eq_true rfl⟩ | decide) ?_; conv => whnf)
          refine hK _ _ _ _ (ih _ (by omega) (fun j hj => ?_) ?_)
          · rw [zup_ne hj, hf4 j hj]
          · rw [zup_ru, ← r4]
            exact ru_same rfl
    exact hK _ _ _ _ (go m 0 g3 (by omega) (fun j hj => rfl) r3)
end PV
