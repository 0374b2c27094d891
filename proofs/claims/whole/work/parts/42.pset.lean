/-! undo, snapshot, settings, room -/
section PS
variable {g : zM} {d : Nat}
theorem p_undo (hJ : J g) : zPair (d + 8) 66 [zR 0] 93 [zR 64] g := by
  obtain ⟨⟨n, m, hw, hr⟩, ⟨z, rows, hhc, hhm⟩, hs, ht⟩ := id hJ
  have k0 := zkd0
  have k1 := zkd1
  have k64 := zkd64
  obtain ⟨o, ⟨ho, ho4⟩, ⟨hz, hz4⟩, hrows⟩ := id hhc
  refine zC.go zm_X5_undo ⟨rfl, rfl⟩ rfl ?_
  (refine zW.go (zC_om _) (fun K hK => ?_); conv => whnf)
  (refine And.intro (by first | omega | assumption | rfl | exact zin_and | exact ⟨zin_and, by omega⟩ | exact ⟨by omega, zin_and⟩ | exact Nat.le_of_ble_eq_true rfl | exact ⟨Nat.le_of_ble_eq_true rfl, rfl⟩ | exact ⟨Nat.le_of_ble_eq_true rfl, by assumption⟩ | exact ⟨by omega, Nat.le_of_ble_eq_true rfl⟩ | exact ⟨⟨by assumption, by omega⟩, Nat.le_of_ble_eq_true rfl⟩ | decide) ?_; conv => whnf)
  (refine And.intro (by first | omega | assumption | rfl | exact zin_and | exact ⟨zin_and, by omega⟩ | exact ⟨by omega, zin_and⟩ | exact Nat.le_of_ble_eq_true rfl | exact ⟨Nat.le_of_ble_eq_true rfl, rfl⟩ | exact ⟨Nat.le_of_ble_eq_true rfl, by assumption⟩ | exact ⟨by omega, Nat.le_of_ble_eq_true rfl⟩ | exact ⟨⟨by assumption, by omega⟩, Nat.le_of_ble_eq_true rfl⟩ | decide) ?_; conv => whnf)
  rw [hz]
  (refine And.intro (by first | omega | assumption | rfl | exact zin_and | exact ⟨zin_and, by omega⟩ | exact ⟨by omega, zin_and⟩ | exact Nat.le_of_ble_eq_true rfl | exact ⟨Nat.le_of_ble_eq_true rfl, rfl⟩ | exact ⟨Nat.le_of_ble_eq_true rfl, by assumption⟩ | exact ⟨by omega, Nat.le_of_ble_eq_true rfl⟩ | exact ⟨⟨by assumption, by omega⟩, Nat.le_of_ble_eq_true rfl⟩ | decide) ?_; conv => whnf)
  cases z with
  | zero =>
    (refine And.intro (fun h => by omega) (fun h => ?_); conv => whnf)
    (refine And.intro (by first | omega | assumption | rfl | exact zin_and | exact ⟨zin_and, by omega⟩ | exact ⟨by omega, zin_and⟩ | exact Nat.le_of_ble_eq_true rfl | exact ⟨Nat.le_of_ble_eq_true rfl, rfl⟩ | exact ⟨Nat.le_of_ble_eq_true rfl, by assumption⟩ | exact ⟨by omega, Nat.le_of_ble_eq_true rfl⟩ | exact ⟨⟨by assumption, by omega⟩, Nat.le_of_ble_eq_true rfl⟩ | decide) ?_; conv => whnf)
    refine ⟨-5, by omega, rfl, ?_⟩
    exact m_undo0 (by rw [hhm.1]; rfl) ⟨rfl, hJ⟩
  | succ z =>
    obtain ⟨n1, m1, w1, w2⟩ := hrows z (by omega)
    (refine And.intro (fun h => ?_) (fun h => by omega); conv => whnf)
    (refine hK _ _ _ _ (zW.go (zC_om _) (fun K hK => ?_)); conv => whnf)
    (refine And.intro (by first | omega | assumption | rfl | exact zin_and | exact ⟨zin_and, by omega⟩ | exact ⟨by omega, zin_and⟩ | exact Nat.le_of_ble_eq_true rfl | exact ⟨Nat.le_of_ble_eq_true rfl, rfl⟩ | exact ⟨Nat.le_of_ble_eq_true rfl, by assumption⟩ | exact ⟨by omega, Nat.le_of_ble_eq_true rfl⟩ | exact ⟨⟨by assumption, by omega⟩, Nat.le_of_ble_eq_true rfl⟩ | decide) ?_; conv => whnf)
    (refine And.intro (by first | omega | assumption | rfl | exact zin_and | exact ⟨zin_and, by omega⟩ | exact ⟨by omega, zin_and⟩ | exact Nat.le_of_ble_eq_true rfl | exact ⟨Nat.le_of_ble_eq_true rfl, rfl⟩ | exact ⟨Nat.le_of_ble_eq_true rfl, by assumption⟩ | exact ⟨by omega, Nat.le_of_ble_eq_true rfl⟩ | exact ⟨⟨by assumption, by omega⟩, Nat.le_of_ble_eq_true rfl⟩ | decide) ?_; conv => whnf)
    (refine And.intro (by first | omega | assumption | rfl | exact zin_and | exact ⟨zin_and, by omega⟩ | exact ⟨by omega, zin_and⟩ | exact Nat.le_of_ble_eq_true rfl | exact ⟨Nat.le_of_ble_eq_true rfl, rfl⟩ | exact ⟨Nat.le_of_ble_eq_true rfl, by assumption⟩ | exact ⟨by omega, Nat.le_of_ble_eq_true rfl⟩ | exact ⟨⟨by assumption, by omega⟩, Nat.le_of_ble_eq_true rfl⟩ | decide) ?_; conv => whnf)
    (refine c_pop zKC_8 (by omega) (by omega) ho hz ho4 (by omega) w2 w1.n12 w1.m400 (fun g1 hf1 a1 a2 r1 => ?_); conv => whnf)
    (refine And.intro (by first | omega | assumption | rfl | exact zin_and | exact ⟨zin_and, by omega⟩ | exact ⟨by omega, zin_and⟩ | exact Nat.le_of_ble_eq_true rfl | exact ⟨Nat.le_of_ble_eq_true rfl, rfl⟩ | exact ⟨Nat.le_of_ble_eq_true rfl, by assumption⟩ | exact ⟨by omega, Nat.le_of_ble_eq_true rfl⟩ | exact ⟨⟨by assumption, by omega⟩, Nat.le_of_ble_eq_true rfl⟩ | decide) ?_; conv => whnf)
    (refine And.intro (by first | omega | assumption | rfl | exact zin_and | exact ⟨zin_and, by omega⟩ | exact ⟨by omega, zin_and⟩ | exact Nat.le_of_ble_eq_true rfl | exact ⟨Nat.le_of_ble_eq_true rfl, rfl⟩ | exact ⟨Nat.le_of_ble_eq_true rfl, by assumption⟩ | exact ⟨by omega, Nat.le_of_ble_eq_true rfl⟩ | exact ⟨⟨by assumption, by omega⟩, Nat.le_of_ble_eq_true rfl⟩ | decide) ?_; conv => whnf)
    rw [a2]
    refine ⟨⟨fun w => absurd w (by decide), fun w => absurd w (by decide)⟩, z, by omega, rfl, ?_⟩
    have e64 := hf1 64 (by omega) (by omega)
    refine m_undo (hhm.frame (by rw [e64]) (hf1 67 (by omega) (by omega))) (fun g2 hf2 h642 hh2 hr2 => ⟨rfl, ?_⟩)
    refine J.mk (n := n1) (m := m1) (z := z) (rows := rows) (w1.congr hr2) ?_ ?_ hh2 hs ht (fun j c => ?_) (fun j c => ?_)
    · exact (r1.congr hr2 w1.n12 w1.m400).frame (fun j c1 c2 => hf2 j (by omega) (by omega)) w1.n12
    · refine HistC.frame (g := g1) ⟨o, ⟨a1, ho4⟩, ⟨a2, by omega⟩, fun i hi => ?_⟩ (fun j c => hf2 j (by omega) (by omega))
      obtain ⟨n3, m3, v1, v2⟩ := hrows i (by omega)
      have hce : hcell o i = 32 + 8 * ((o + i) % 4) := rfl
      exact ⟨n3, m3, v1, v2.frame (fun j c1 c2 => hf1 j (by omega) (by omega)) v1.n12⟩
    · rw [hf2 j (by omega) (by omega), hf1 j (by omega) (by omega)]
    · rw [h642 j c, e64]
theorem p_keep (hJ : J g) : zPair (d + 8) 67 [zR 0] 94 [zR 64] g := by
  obtain ⟨⟨n, m, hw, hr⟩, ⟨z, rows, hhc, hhm⟩, hs, ht⟩ := id hJ
  have k0 := zkd0
  have k8 := zKC_8.1
  have k9 : zkd 9 = (0, 0) := rfl
  have k24 := zKC_24.1
  have k64 := zkd64
  have hn := hw.n12
  refine zC.go zm_X5_keep ⟨rfl, rfl⟩ rfl ?_
  (refine zW.go (zC_om _) (fun K hK => ?_); conv => whnf)
  (refine And.intro (by first | omega | assumption | rfl | exact zin_and | exact ⟨zin_and, by omega⟩ | exact ⟨by omega, zin_and⟩ | exact Nat.le_of_ble_eq_true rfl | exact ⟨Nat.le_of_ble_eq_true rfl, rfl⟩ | exact ⟨Nat.le_of_ble_eq_true rfl, by assumption⟩ | exact ⟨by omega, Nat.le_of_ble_eq_true rfl⟩ | exact ⟨⟨by assumption, by omega⟩, Nat.le_of_ble_eq_true rfl⟩ | decide) ?_; conv => whnf)
  (refine And.intro (by first | omega | assumption | rfl | exact zin_and | exact ⟨zin_and, by omega⟩ | exact ⟨by omega, zin_and⟩ | exact Nat.le_of_ble_eq_true rfl | exact ⟨Nat.le_of_ble_eq_true rfl, rfl⟩ | exact ⟨Nat.le_of_ble_eq_true rfl, by assumption⟩ | exact ⟨by omega, Nat.le_of_ble_eq_true rfl⟩ | exact ⟨⟨by assumption, by omega⟩, Nat.le_of_ble_eq_true rfl⟩ | decide) ?_; conv => whnf)
  (refine And.intro (by first | omega | assumption | rfl | exact zin_and | exact ⟨zin_and, by omega⟩ | exact ⟨by omega, zin_and⟩ | exact Nat.le_of_ble_eq_true rfl | exact ⟨Nat.le_of_ble_eq_true rfl, rfl⟩ | exact ⟨Nat.le_of_ble_eq_true rfl, by assumption⟩ | exact ⟨by omega, Nat.le_of_ble_eq_true rfl⟩ | exact ⟨⟨by assumption, by omega⟩, Nat.le_of_ble_eq_true rfl⟩ | decide) ?_; conv => whnf)
  (refine c_stateCopy zKC_8 zKC_24 (by omega) hr hn hw.m400 (fun g1 hf1 r1 => ?_); conv => whnf)
  refine And.intro ⟨by assumption, fun _ => Or.inr rfl⟩ ?_
  conv => whnf
  (refine And.intro (by first | omega | assumption | rfl | exact zin_and | exact ⟨zin_and, by omega⟩ | exact ⟨by omega, zin_and⟩ | exact Nat.le_of_ble_eq_true rfl | exact ⟨Nat.le_of_ble_eq_true rfl, rfl⟩ | exact ⟨Nat.le_of_ble_eq_true rfl, by assumption⟩ | exact ⟨by omega, Nat.le_of_ble_eq_true rfl⟩ | exact ⟨⟨by assumption, by omega⟩, Nat.le_of_ble_eq_true rfl⟩ | decide) ?_; conv => whnf)
  (refine And.intro (by first | omega | assumption | rfl | exact zin_and | exact ⟨zin_and, by omega⟩ | exact ⟨by omega, zin_and⟩ | exact Nat.le_of_ble_eq_true rfl | exact ⟨Nat.le_of_ble_eq_true rfl, rfl⟩ | exact ⟨Nat.le_of_ble_eq_true rfl, by assumption⟩ | exact ⟨by omega, Nat.le_of_ble_eq_true rfl⟩ | exact ⟨⟨by assumption, by omega⟩, Nat.le_of_ble_eq_true rfl⟩ | decide) ?_; conv => whnf)
  (refine And.intro (by first | omega | assumption | rfl | exact zin_and | exact ⟨zin_and, by omega⟩ | exact ⟨by omega, zin_and⟩ | exact Nat.le_of_ble_eq_true rfl | exact ⟨Nat.le_of_ble_eq_true rfl, rfl⟩ | exact ⟨Nat.le_of_ble_eq_true rfl, by assumption⟩ | exact ⟨by omega, Nat.le_of_ble_eq_true rfl⟩ | exact ⟨⟨by assumption, by omega⟩, Nat.le_of_ble_eq_true rfl⟩ | decide) ?_; conv => whnf)
  have hn4 : (zup g1 0 (5 : Nat) 1) 9 (4 : Nat) = (n : Int) := by rw [zup_ne (by omega), hf1 9 (by omega)]; exact hr.1.1
  have hf2 : ∀ j, j ≠ 0 → (zup g1 0 (5 : Nat) 1) j = g1 j := fun j hj => zup_ne hj
  have h05 : (zup g1 0 (5 : Nat) 1) 0 (5 : Nat) = 1 := zup_s
  rw [hn4]
  generalize (zup g1 0 (5 : Nat) 1) = g2 at *
  have e65 : g2 65 = g 65 := by rw [hf2 65 (by omega), hf1 65 (by omega)]
  refine ⟨⟨fun w => absurd w (by decide), fun w => absurd w (by decide)⟩, n, by omega, rfl, ?_⟩
  refine m_keep (fun g3 hf3 h643 h65 r3 => ?_)
  have hf : ∀ j, j ≠ 0 → j ≠ 64 → j ≠ 68 → (j < 24 ∨ 31 < j) → g3 j = g j := fun j c1 c2 c3 c4 => by rw [hf3 j c2 c3, hf2 j c1, hf1 j (by omega)]
  have e64 : g2 64 = g 64 := by rw [hf2 64 (by omega), hf1 64 (by omega)]
  rw [e65] at r3 ⊢
  refine ⟨by rw [hw.1.1.1], Cur.frame hw hr (fun j c1 c2 => hf j (by omega) (by omega) (by omega) (by omega)) (hf 65 (by omega) (by omega) (by omega) (by omega)), ⟨z, rows, hhc.frame (fun j c => hf j (by omega) (by omega) (by omega) (by omega)), hhm.frame (by rw [h643 _ (by omega), e64]) (hf 67 (by omega) (by omega) (by omega) (by omega))⟩, Or.inr ⟨?_, h65, n, m, hw.congr r3, ?_⟩, ht.frame (by rw [hf 3 (by omega) (by omega) (by omega) (by omega)]) (hf 4 (by omega) (by omega) (by omega) (by omega)) (by rw [h643 _ (by omega), e64]) (hf 69 (by omega) (by omega) (by omega) (by omega))⟩
  · rw [hf3 0 (by omega) (by omega)]; exact h05
  · exact (r1.congr r3 hn hw.m400).frame (fun j c1 c2 => by rw [hf3 j (by omega) (by omega), hf2 j (by omega)]) hn
theorem p_restore (hJ : J g) : zPair (d + 8) 68 [zR 0] 95 [zR 64] g := by
  obtain ⟨⟨n, m, hw, hr⟩, ⟨z, rows, hhc, hhm⟩, hs, ht⟩ := id hJ
  have k0 := zkd0
  have k1 := zkd1
  have k8 := zKC_8.1
  have k9 : zkd 9 = (0, 0) := rfl
  have k64 := zkd64
  refine zC.go zm_X5_restore ⟨rfl, rfl⟩ rfl ?_
  (refine zW.go (zC_om _) (fun K hK => ?_); conv => whnf)
  (refine And.intro (by first | omega | assumption | rfl | exact zin_and | exact ⟨zin_and, by omega⟩ | exact ⟨by omega, zin_and⟩ | exact Nat.le_of_ble_eq_true rfl | exact ⟨Nat.le_of_ble_eq_true rfl, rfl⟩ | exact ⟨Nat.le_of_ble_eq_true rfl, by assumption⟩ | exact ⟨by omega, Nat.le_of_ble_eq_true rfl⟩ | exact ⟨⟨by assumption, by omega⟩, Nat.le_of_ble_eq_true rfl⟩ | decide) ?_; conv => whnf)
  rcases id hs with ⟨s0, s64⟩ | ⟨s0, s64, n1, m1, w1, q1⟩
  · rw [s0]
    (refine And.intro (by first | omega | assumption | rfl | exact zin_and | exact ⟨zin_and, by omega⟩ | exact ⟨by omega, zin_and⟩ | exact Nat.le_of_ble_eq_true rfl | exact ⟨Nat.le_of_ble_eq_true rfl, rfl⟩ | exact ⟨Nat.le_of_ble_eq_true rfl, by assumption⟩ | exact ⟨by omega, Nat.le_of_ble_eq_true rfl⟩ | exact ⟨⟨by assumption, by omega⟩, Nat.le_of_ble_eq_true rfl⟩ | decide) ?_; conv => whnf)
    (refine And.intro (fun h => by omega) (fun h => ?_); conv => whnf)
    (refine And.intro (by first | omega | assumption | rfl | exact zin_and | exact ⟨zin_and, by omega⟩ | exact ⟨by omega, zin_and⟩ | exact Nat.le_of_ble_eq_true rfl | exact ⟨Nat.le_of_ble_eq_true rfl, rfl⟩ | exact ⟨Nat.le_of_ble_eq_true rfl, by assumption⟩ | exact ⟨by omega, Nat.le_of_ble_eq_true rfl⟩ | exact ⟨⟨by assumption, by omega⟩, Nat.le_of_ble_eq_true rfl⟩ | decide) ?_; conv => whnf)
    exact ⟨-5, by omega, rfl, m_restore0 s64 ⟨rfl, hJ⟩⟩
  · rw [s0]
    (refine And.intro (by first | omega | assumption | rfl | exact zin_and | exact ⟨zin_and, by omega⟩ | exact ⟨by omega, zin_and⟩ | exact Nat.le_of_ble_eq_true rfl | exact ⟨Nat.le_of_ble_eq_true rfl, rfl⟩ | exact ⟨Nat.le_of_ble_eq_true rfl, by assumption⟩ | exact ⟨by omega, Nat.le_of_ble_eq_true rfl⟩ | exact ⟨⟨by assumption, by omega⟩, Nat.le_of_ble_eq_true rfl⟩ | decide) ?_; conv => whnf)
    (refine And.intro (fun h => ?_) (fun h => by omega); conv => whnf)
    (refine hK _ _ _ _ (zW.go (zC_om _) (fun K hK => ?_)); conv => whnf)
    (refine And.intro (by first | omega | assumption | rfl | exact zin_and | exact ⟨zin_and, by omega⟩ | exact ⟨by omega, zin_and⟩ | exact Nat.le_of_ble_eq_true rfl | exact ⟨Nat.le_of_ble_eq_true rfl, rfl⟩ | exact ⟨Nat.le_of_ble_eq_true rfl, by assumption⟩ | exact ⟨by omega, Nat.le_of_ble_eq_true rfl⟩ | exact ⟨⟨by assumption, by omega⟩, Nat.le_of_ble_eq_true rfl⟩ | decide) ?_; conv => whnf)
    (refine And.intro (by first | omega | assumption | rfl | exact zin_and | exact ⟨zin_and, by omega⟩ | exact ⟨by omega, zin_and⟩ | exact Nat.le_of_ble_eq_true rfl | exact ⟨Nat.le_of_ble_eq_true rfl, rfl⟩ | exact ⟨Nat.le_of_ble_eq_true rfl, by assumption⟩ | exact ⟨by omega, Nat.le_of_ble_eq_true rfl⟩ | exact ⟨⟨by assumption, by omega⟩, Nat.le_of_ble_eq_true rfl⟩ | decide) ?_; conv => whnf)
    (refine And.intro (by first | omega | assumption | rfl | exact zin_and | exact ⟨zin_and, by omega⟩ | exact ⟨by omega, zin_and⟩ | exact Nat.le_of_ble_eq_true rfl | exact ⟨Nat.le_of_ble_eq_true rfl, rfl⟩ | exact ⟨Nat.le_of_ble_eq_true rfl, by assumption⟩ | exact ⟨by omega, Nat.le_of_ble_eq_true rfl⟩ | exact ⟨⟨by assumption, by omega⟩, Nat.le_of_ble_eq_true rfl⟩ | decide) ?_; conv => whnf)
    (refine c_pushH zKC_8 (by omega) (by omega) hr hw hhc (fun g1 hf1 hh1 => ?_); conv => whnf)
    (refine And.intro (by first | omega | assumption | rfl | exact zin_and | exact ⟨zin_and, by omega⟩ | exact ⟨by omega, zin_and⟩ | exact Nat.le_of_ble_eq_true rfl | exact ⟨Nat.le_of_ble_eq_true rfl, rfl⟩ | exact ⟨Nat.le_of_ble_eq_true rfl, by assumption⟩ | exact ⟨by omega, Nat.le_of_ble_eq_true rfl⟩ | exact ⟨⟨by assumption, by omega⟩, Nat.le_of_ble_eq_true rfl⟩ | decide) ?_; conv => whnf)
    (refine And.intro (by first | omega | assumption | rfl | exact zin_and | exact ⟨zin_and, by omega⟩ | exact ⟨by omega, zin_and⟩ | exact Nat.le_of_ble_eq_true rfl | exact ⟨Nat.le_of_ble_eq_true rfl, rfl⟩ | exact ⟨Nat.le_of_ble_eq_true rfl, by assumption⟩ | exact ⟨by omega, Nat.le_of_ble_eq_true rfl⟩ | exact ⟨⟨by assumption, by omega⟩, Nat.le_of_ble_eq_true rfl⟩ | decide) ?_; conv => whnf)
    (refine And.intro (by first | omega | assumption | rfl | exact zin_and | exact ⟨zin_and, by omega⟩ | exact ⟨by omega, zin_and⟩ | exact Nat.le_of_ble_eq_true rfl | exact ⟨Nat.le_of_ble_eq_true rfl, rfl⟩ | exact ⟨Nat.le_of_ble_eq_true rfl, by assumption⟩ | exact ⟨by omega, Nat.le_of_ble_eq_true rfl⟩ | exact ⟨⟨by assumption, by omega⟩, Nat.le_of_ble_eq_true rfl⟩ | decide) ?_; conv => whnf)
    have q2 : RelC g1 24 (g 68) n1 m1 := q1.frame (fun j c1 c2 => hf1 j (by omega) (by omega)) w1.n12
    (refine c_stateCopy zKC_24 zKC_8 (by omega) q2 w1.n12 w1.m400 (fun g2 hf2 r2 => ?_); conv => whnf)
    have hn4 : g2 9 (4 : Nat) = (n1 : Int) := r2.1.1
    (refine And.intro (by first | omega | assumption | rfl | exact zin_and | exact ⟨zin_and, by omega⟩ | exact ⟨by omega, zin_and⟩ | exact Nat.le_of_ble_eq_true rfl | exact ⟨Nat.le_of_ble_eq_true rfl, rfl⟩ | exact ⟨Nat.le_of_ble_eq_true rfl, by assumption⟩ | exact ⟨by omega, Nat.le_of_ble_eq_true rfl⟩ | exact ⟨⟨by assumption, by omega⟩, Nat.le_of_ble_eq_true rfl⟩ | decide) ?_; conv => whnf)
    (refine And.intro (by first | omega | assumption | rfl | exact zin_and | exact ⟨zin_and, by omega⟩ | exact ⟨by omega, zin_and⟩ | exact Nat.le_of_ble_eq_true rfl | exact ⟨Nat.le_of_ble_eq_true rfl, rfl⟩ | exact ⟨Nat.le_of_ble_eq_true rfl, by assumption⟩ | exact ⟨by omega, Nat.le_of_ble_eq_true rfl⟩ | exact ⟨⟨by assumption, by omega⟩, Nat.le_of_ble_eq_true rfl⟩ | decide) ?_; conv => whnf)
    (refine And.intro (by first | omega | assumption | rfl | exact zin_and | exact ⟨zin_and, by omega⟩ | exact ⟨by omega, zin_and⟩ | exact Nat.le_of_ble_eq_true rfl | exact ⟨Nat.le_of_ble_eq_true rfl, rfl⟩ | exact ⟨Nat.le_of_ble_eq_true rfl, by assumption⟩ | exact ⟨by omega, Nat.le_of_ble_eq_true rfl⟩ | exact ⟨⟨by assumption, by omega⟩, Nat.le_of_ble_eq_true rfl⟩ | decide) ?_; conv => whnf)
    rw [hn4]
    have hf : ∀ j, j ≠ 1 → (j < 8 ∨ (16 ≤ j ∧ j < 32) ∨ 64 ≤ j) → g2 j = g j := fun j c1 c2 => by rw [hf2 j (by omega), hf1 j c1 (by omega)]
    have e64 := hf 64 (by omega) (by omega)
    have e65 := hf 65 (by omega) (by omega)
    have e68 := hf 68 (by omega) (by omega)
    refine ⟨⟨fun w => absurd w (by decide), fun w => absurd w (by decide)⟩, n1, by have := w1.n12; omega, rfl, ?_⟩
    refine m_restore (hhm.frame (by rw [e64]) (hf 67 (by omega) (by omega))) (by rw [e64]; exact s64) (fun g3 hf3 h643 hh3 r3 => ?_)
    rw [e68] at r3 ⊢
    refine ⟨by rw [w1.1.1.1], ?_⟩
    refine J.mk (n := n1) (m := m1) (z := pushz z) (rows := pushr z rows (g 65)) (w1.congr r3) ?_ ?_ ?_ hs ht (fun j c => ?_) (fun j c => ?_)
    · exact (r2.congr r3 w1.n12 w1.m400).frame (fun j c1 c2 => hf3 j (by omega) (by omega) (by omega)) w1.n12
    · exact (hh1.frame (fun j c => hf2 j (by omega))).frame (fun j c => hf3 j (by omega) (by omega) (by omega))
    · rw [e65] at hh3; exact hh3
    · rw [hf3 j (by omega) (by omega) (by omega), hf j (by omega) (by omega)]
    · rw [h643 j c, e64]
end PS
