/-! the text, read by the class -/
def RowsC (g : zM) (k : Nat) (T : Nat → zT) : Prop := ∀ i : Nat, i < k → i < 12 → g 5 i = (T i).1 ∧ g 6 i = (T i).2.1 ∧ g 7 i = ((T i).2.2 : Int)
def FX (g g' : zM) : Prop := (∀ j, j ≠ 3 → j ≠ 5 → j ≠ 6 → j ≠ 7 → g' j = g j) ∧ g' 3 (4 : Nat) = g 3 (4 : Nat)
section PRD
variable {g : zM} {d : Nat} {Q : zP}
theorem c_readThing {ch : Int → Int} {L p k : Nat} {res : Bool × zT × Nat} (hc : g 4 = ch) (hA : AtC g L p) (hk : g 3 (5 : Nat) = (k : Int)) (hk8 : k ≤ 80) (hres : mpt ch L p = res)
    (hQ : ∀ g' : zM, (∀ j, j ≠ 3 → j ≠ 5 → j ≠ 6 → j ≠ 7 → g' j = g j) → (∀ j : Int, j ≠ 6 → g' 3 j = g 3 j) → AtC g' L res.2.2 → (res.1 = true → (∀ i : Int, i ≠ k → g' 5 i = g 5 i ∧ g' 6 i = g 6 i ∧ g' 7 i = g 7 i) ∧ (k < 12 → g' 5 k = res.2.1.1 ∧ g' 6 k = res.2.1.2.1 ∧ g' 7 k = (res.2.1.2.2 : Int))) → Q (some (zI (zb res.1))) g') : zC (d + 3) 49 [zR 3] g Q := by
  have k3 := zkd3
  have k5 : zkd 5 = (1, 12) := rfl
  have k6 : zkd 6 = (1, 12) := rfl
  have k7 : zkd 7 = (1, 12) := rfl
  obtain ⟨t1, t2, hpl, hL, hcs⟩ := id hA
  unfold mpt mp2 at hres
  have r1 := nu_rng (ch := ch) (L := L) (p := p) (a := 1) (b := 99) (by omega) hpl
  have bad : ∀ g' : zM, FrC g g' → AtC g' L res.2.2 → res.1 = false → Q (some (zI 0)) g' := fun g' hf hA' e => by
    have hh := hQ g' (fun j h1 _ _ _ => hf.1 j h1) hf.2 hA' (fun w => zft (e.symm.trans w))
    rw [e] at hh
    exact hh
  refine zC.go zm_X4_readThing ⟨rfl, rfl⟩ rfl ?_
  (refine zW.go (zC_om _) (fun K hK => ?_); conv => whnf)
  (refine And.intro (by first | omega | assumption | rfl | exact zin_and | exact ⟨zin_and, by omega⟩ | exact ⟨by omega, zin_and⟩ | exact Nat.le_of_ble_eq_true rfl | exact ⟨Nat.le_of_ble_eq_true rfl, rfl⟩ | exact ⟨Nat.le_of_ble_eq_true rfl, by assumption⟩ | exact ⟨by omega, Nat.le_of_ble_eq_true rfl⟩ | exact ⟨⟨by assumption, by omega⟩, Nat.le_of_ble_eq_true rfl⟩ | decide) ?_; conv => whnf)
  (refine c_num hc hA (by omega) (by omega) (by omega) (fun g1 hf1 hA1 => ?_); conv => whnf)
  generalize mnum ch L 1 99 (L - p) p (-5) = x at *
  by_cases h1 : x.1 = -5
  · rw [if_pos h1] at hres
    subst hres
    (refine And.intro (by first | omega | assumption | rfl | exact zin_and | exact ⟨zin_and, by omega⟩ | exact ⟨by omega, zin_and⟩ | exact Nat.le_of_ble_eq_true rfl | exact ⟨Nat.le_of_ble_eq_true rfl, rfl⟩ | exact ⟨Nat.le_of_ble_eq_true rfl, by assumption⟩ | exact ⟨by omega, Nat.le_of_ble_eq_true rfl⟩ | exact ⟨⟨by assumption, by omega⟩, Nat.le_of_ble_eq_true rfl⟩ | decide) ?_; conv => whnf)
    (refine And.intro (fun h => ?_) (fun h => by omega); conv => whnf)
    (refine hK _ _ _ _ (zW.go (zC_om _) (fun K hK => ?_)); conv => whnf)
    exact ⟨⟨fun _ => Or.inl rfl, fun w => absurd w (by decide)⟩, bad g1 hf1 hA1 rfl⟩
  · rw [if_neg h1] at hres
    obtain ⟨hw, hw2⟩ := r1.2.2 h1
    (refine And.intro (by first | omega | assumption | rfl | exact zin_and | exact ⟨zin_and, by omega⟩ | exact ⟨by omega, zin_and⟩ | exact Nat.le_of_ble_eq_true rfl | exact ⟨Nat.le_of_ble_eq_true rfl, rfl⟩ | exact ⟨Nat.le_of_ble_eq_true rfl, by assumption⟩ | exact ⟨by omega, Nat.le_of_ble_eq_true rfl⟩ | exact ⟨⟨by assumption, by omega⟩, Nat.le_of_ble_eq_true rfl⟩ | decide) ?_; conv => whnf)
    (refine And.intro (fun h => by omega) (fun h => ?_); conv => whnf)
    (refine And.intro (by first | omega | assumption | rfl | exact zin_and | exact ⟨zin_and, by omega⟩ | exact ⟨by omega, zin_and⟩ | exact Nat.le_of_ble_eq_true rfl | exact ⟨Nat.le_of_ble_eq_true rfl, rfl⟩ | exact ⟨Nat.le_of_ble_eq_true rfl, by assumption⟩ | exact ⟨by omega, Nat.le_of_ble_eq_true rfl⟩ | exact ⟨⟨by assumption, by omega⟩, Nat.le_of_ble_eq_true rfl⟩ | decide) ?_; conv => whnf)
    have e1 : g1 4 = ch := by rw [hf1.1 4 (by omega)]; exact hc
    refine c_tk e1 hA1 (by omega) (fun hp1 hc1 g2 hf2 hA2 => ?_) (fun hno => ?_)
    · rw [if_pos ⟨hp1, hc1⟩] at hres
      unfold mp3 at hres
      have r2 := nu_rng (ch := ch) (L := L) (p := x.2 + 1) (a := 1) (b := 50) (by omega) (by omega)
      have hf2 := hf1.trans hf2
      have e2 : g2 4 = ch := by rw [hf2.1 4 (by omega)]; exact hc
      conv => whnf
      (refine And.intro (by first | omega | assumption | rfl | exact zin_and | exact ⟨zin_and, by omega⟩ | exact ⟨by omega, zin_and⟩ | exact Nat.le_of_ble_eq_true rfl | exact ⟨Nat.le_of_ble_eq_true rfl, rfl⟩ | exact ⟨Nat.le_of_ble_eq_true rfl, by assumption⟩ | exact ⟨by omega, Nat.le_of_ble_eq_true rfl⟩ | exact ⟨⟨by assumption, by omega⟩, Nat.le_of_ble_eq_true rfl⟩ | decide) ?_; conv => whnf)
      (refine And.intro (fun h => ?_) (fun h => by omega); conv => whnf)
      (refine hK _ _ _ _ (zW.go (zC_om _) (fun K hK => ?_)); conv => whnf)
      (refine And.intro (by first | omega | assumption | rfl | exact zin_and | exact ⟨zin_and, by omega⟩ | exact ⟨by omega, zin_and⟩ | exact Nat.le_of_ble_eq_true rfl | exact ⟨Nat.le_of_ble_eq_true rfl, rfl⟩ | exact ⟨Nat.le_of_ble_eq_true rfl, by assumption⟩ | exact ⟨by omega, Nat.le_of_ble_eq_true rfl⟩ | exact ⟨⟨by assumption, by omega⟩, Nat.le_of_ble_eq_true rfl⟩ | decide) ?_; conv => whnf)
      (refine c_num e2 hA2 (by omega) (by omega) (by omega) (fun g3 hf3 hA3 => ?_); conv => whnf)
      generalize mnum ch L 1 50 (L - (x.2 + 1)) (x.2 + 1) (-5) = y at *
      have hf3 := hf2.trans hf3
      by_cases h2 : y.1 = -5
      · rw [if_pos h2] at hres
        subst hres
        (refine And.intro (by first | omega | assumption | rfl | exact zin_and | exact ⟨zin_and, by omega⟩ | exact ⟨by omega, zin_and⟩ | exact Nat.le_of_ble_eq_true rfl | exact ⟨Nat.le_of_ble_eq_true rfl, rfl⟩ | exact ⟨Nat.le_of_ble_eq_true rfl, by assumption⟩ | exact ⟨by omega, Nat.le_of_ble_eq_true rfl⟩ | exact ⟨⟨by assumption, by omega⟩, Nat.le_of_ble_eq_true rfl⟩ | decide) ?_; conv => whnf)
        (refine And.intro (fun h => by omega) (fun h => ?_); conv => whnf)
        exact ⟨⟨fun _ => Or.inl rfl, fun w => absurd w (by decide)⟩, bad g3 hf3 hA3 rfl⟩
      · rw [if_neg h2] at hres
        obtain ⟨hv, hv2⟩ := r2.2.2 h2
        have fin : ∀ (q b : Nat) (tk : Int) (g4 : zM) (x5 : zV), FrC g g4 → AtC g4 L q → res = (true, (x.1, y.1, b), q) → zW zX4_readThing (zC (d + 2)) Q 54 [zR 3, zI x.1, zI y.1, zI b, zI tk, x5] [] g4 := by
          intro q b tk g4 x5 hf4 hA4 e
          have hk4 : g4 3 (5 : Nat) = (k : Int) := by rw [hf4.2 _ (by omega)]; exact hk
          (refine zW.go (zC_om _) (fun K hK => ?_); conv => whnf)
          (refine And.intro (by first | omega | assumption | rfl | exact zin_and | exact ⟨zin_and, by omega⟩ | exact ⟨by omega, zin_and⟩ | exact Nat.le_of_ble_eq_true rfl | exact ⟨Nat.le_of_ble_eq_true rfl, rfl⟩ | exact ⟨Nat.le_of_ble_eq_true rfl, by assumption⟩ | exact ⟨by omega, Nat.le_of_ble_eq_true rfl⟩ | exact ⟨⟨by assumption, by omega⟩, Nat.le_of_ble_eq_true rfl⟩ | decide) ?_; conv => whnf)
          (refine And.intro (by first | omega | assumption | rfl | exact zin_and | exact ⟨zin_and, by omega⟩ | exact ⟨by omega, zin_and⟩ | exact Nat.le_of_ble_eq_true rfl | exact ⟨Nat.le_of_ble_eq_true rfl, rfl⟩ | exact ⟨Nat.le_of_ble_eq_true rfl, by assumption⟩ | exact ⟨by omega, Nat.le_of_ble_eq_true rfl⟩ | exact ⟨⟨by assumption, by omega⟩, Nat.le_of_ble_eq_true rfl⟩ | decide) ?_; conv => whnf)
          rw [hk4]
          (refine And.intro (by first | omega | assumption | rfl | exact zin_and | exact ⟨zin_and, by omega⟩ | exact ⟨by omega, zin_and⟩ | exact Nat.le_of_ble_eq_true rfl | exact ⟨Nat.le_of_ble_eq_true rfl, rfl⟩ | exact ⟨Nat.le_of_ble_eq_true rfl, by assumption⟩ | exact ⟨by omega, Nat.le_of_ble_eq_true rfl⟩ | exact ⟨⟨by assumption, by omega⟩, Nat.le_of_ble_eq_true rfl⟩ | decide) ?_; conv => whnf)
          (refine s_putq k5 (by omega) (by omega) (by omega) (fun g5 h51 h52 h53 => ?_); conv => whnf)
          have hk5 : g5 3 (5 : Nat) = (k : Int) := by rw [h51 3 (by omega)]; exact hk4
          (refine And.intro (by first | omega | assumption | rfl | exact zin_and | exact ⟨zin_and, by omega⟩ | exact ⟨by omega, zin_and⟩ | exact Nat.le_of_ble_eq_true rfl | exact ⟨Nat.le_of_ble_eq_true rfl, rfl⟩ | exact ⟨Nat.le_of_ble_eq_true rfl, by assumption⟩ | exact ⟨by omega, Nat.le_of_ble_eq_true rfl⟩ | exact ⟨⟨by assumption, by omega⟩, Nat.le_of_ble_eq_true rfl⟩ | decide) ?_; conv => whnf)
          (refine And.intro (by first | omega | assumption | rfl | exact zin_and | exact ⟨zin_and, by omega⟩ | exact ⟨by omega, zin_and⟩ | exact Nat.le_of_ble_eq_true rfl | exact ⟨Nat.le_of_ble_eq_true rfl, rfl⟩ | exact ⟨Nat.le_of_ble_eq_true rfl, by assumption⟩ | exact ⟨by omega, Nat.le_of_ble_eq_true rfl⟩ | exact ⟨⟨by assumption, by omega⟩, Nat.le_of_ble_eq_true rfl⟩ | decide) ?_; conv => whnf)
          rw [hk5]
          (refine And.intro (by first | omega | assumption | rfl | exact zin_and | exact ⟨zin_and, by omega⟩ | exact ⟨by omega, zin_and⟩ | exact Nat.le_of_ble_eq_true rfl | exact ⟨Nat.le_of_ble_eq_true rfl, rfl⟩ | exact ⟨Nat.le_of_ble_eq_true rfl, by assumption⟩ | exact ⟨by omega, Nat.le_of_ble_eq_true rfl⟩ | exact ⟨⟨by assumption, by omega⟩, Nat.le_of_ble_eq_true rfl⟩ | decide) ?_; conv => whnf)
          (refine s_putq k6 (by omega) (by omega) (by omega) (fun g6 h61 h62 h63 => ?_); conv => whnf)
          have hk6 : g6 3 (5 : Nat) = (k : Int) := by rw [h61 3 (by omega)]; exact hk5
          (refine And.intro (by first | omega | assumption | rfl | exact zin_and | exact ⟨zin_and, by omega⟩ | exact ⟨by omega, zin_and⟩ | exact Nat.le_of_ble_eq_true rfl | exact ⟨Nat.le_of_ble_eq_true rfl, rfl⟩ | exact ⟨Nat.le_of_ble_eq_true rfl, by assumption⟩ | exact ⟨by omega, Nat.le_of_ble_eq_true rfl⟩ | exact ⟨⟨by assumption, by omega⟩, Nat.le_of_ble_eq_true rfl⟩ | decide) ?_; conv => whnf)
          (refine And.intro (by first | omega | assumption | rfl | exact zin_and | exact ⟨zin_and, by omega⟩ | exact ⟨by omega, zin_and⟩ | exact Nat.le_of_ble_eq_true rfl | exact ⟨Nat.le_of_ble_eq_true rfl, rfl⟩ | exact ⟨Nat.le_of_ble_eq_true rfl, by assumption⟩ | exact ⟨by omega, Nat.le_of_ble_eq_true rfl⟩ | exact ⟨⟨by assumption, by omega⟩, Nat.le_of_ble_eq_true rfl⟩ | decide) ?_; conv => whnf)
          rw [hk6]
          (refine And.intro (by first | omega | assumption | rfl | exact zin_and | exact ⟨zin_and, by omega⟩ | exact ⟨by omega, zin_and⟩ | exact Nat.le_of_ble_eq_true rfl | exact ⟨Nat.le_of_ble_eq_true rfl, rfl⟩ | exact ⟨Nat.le_of_ble_eq_true rfl, by assumption⟩ | exact ⟨by omega, Nat.le_of_ble_eq_true rfl⟩ | exact ⟨⟨by assumption, by omega⟩, Nat.le_of_ble_eq_true rfl⟩ | decide) ?_; conv => whnf)
          (refine s_putq k7 (by omega) (by omega) (by omega) (fun g7 h71 h72 h73 => ?_); conv => whnf)
          refine ⟨⟨fun _ => Or.inr rfl, fun w => absurd w (by decide)⟩, ?_⟩
          have f7 : ∀ j, j ≠ 5 → j ≠ 6 → j ≠ 7 → g7 j = g4 j := fun j a b c => by rw [h71 j c, h61 j b, h51 j a]
          have hA7 : AtC g7 L q := ⟨by rw [f7 3 (by omega) (by omega) (by omega)]; exact hA4.1, by rw [f7 3 (by omega) (by omega) (by omega)]; exact hA4.2.1, hA4.2.2.1, hL, by rw [f7 4 (by omega) (by omega) (by omega)]; exact hA4.2.2.2.2⟩
          have hh := hQ g7 (fun j a b c f => by rw [f7 j b c f, hf4.1 j a]) (fun j hj => by rw [f7 3 (by omega) (by omega) (by omega), hf4.2 j hj]) (by rw [e]; exact hA7) (fun _ => by
            rw [e]
            refine ⟨fun i hi => ⟨?_, ?_, ?_⟩, fun hk12 => ⟨?_, ?_, ?_⟩⟩
            · rw [h71 5 (by omega), h61 5 (by omega), h52 i hi, hf4.1 5 (by omega)]
            · rw [h71 6 (by omega), h62 i hi, h51 6 (by omega), hf4.1 6 (by omega)]
            · rw [h72 i hi, h61 7 (by omega), h51 7 (by omega), hf4.1 7 (by omega)]
            · rw [h71 5 (by omega), h61 5 (by omega), h53 (by omega)]
            · rw [h71 6 (by omega), h63 (by omega)]
            · rw [h73 (by omega)])
          rw [e] at hh
          exact hh
        have loop : ∀ (f q b tk : Nat) (g4 : zM) (x5 : zV), q ≤ L → L ≤ q + f → tk ≤ q → FrC g g4 → AtC g4 L q → b < 2 ^ 11 → mp4 x.1 y.1 (mbr ch L f q b) = res → zW zX4_readThing (zC (d + 2)) Q 28 [zR 3, zI x.1, zI y.1, zI b, zI tk, x5] [] g4 := by
          intro f
          induction f with
          | zero =>
            intro q b tk g4 x5 hq hqf htk hf4 hA4 hb hr
            rw [mbr] at hr
            have fin := fin q b tk g4 x5 hf4 hA4 hr.symm
            have e4 : g4 4 = ch := by rw [hf4.1 4 (by omega)]; exact hc
            (refine zW.go (zC_om _) (fun K hK => ?_); conv => whnf)
            (refine And.intro (by first | omega | assumption | rfl | exact zin_and | exact ⟨zin_and, by omega⟩ | exact ⟨by omega, zin_and⟩ | exact Nat.le_of_ble_eq_true rfl | exact ⟨Nat.le_of_ble_eq_true rfl, rfl⟩ | exact ⟨Nat.le_of_ble_eq_true rfl, by assumption⟩ | exact ⟨by omega, Nat.le_of_ble_eq_true rfl⟩ | exact ⟨⟨by assumption, by omega⟩, Nat.le_of_ble_eq_true rfl⟩ | decide) ?_; conv => whnf)
            rw [hA4.1]
            (refine And.intro (by first | omega | assumption | rfl | exact zin_and | exact ⟨zin_and, by omega⟩ | exact ⟨by omega, zin_and⟩ | exact Nat.le_of_ble_eq_true rfl | exact ⟨Nat.le_of_ble_eq_true rfl, rfl⟩ | exact ⟨Nat.le_of_ble_eq_true rfl, by assumption⟩ | exact ⟨by omega, Nat.le_of_ble_eq_true rfl⟩ | exact ⟨⟨by assumption, by omega⟩, Nat.le_of_ble_eq_true rfl⟩ | decide) ?_; conv => whnf)
            by_cases c : L ≤ tk
            · (refine And.intro (fun h => ?_) (fun h => by omega); conv => whnf)
              exact hK _ _ _ _ fin
            · (refine And.intro (fun h => by omega) (fun h => ?_); conv => whnf)
              (refine And.intro (by first | omega | assumption | rfl | exact zin_and | exact ⟨zin_and, by omega⟩ | exact ⟨by omega, zin_and⟩ | exact Nat.le_of_ble_eq_true rfl | exact ⟨Nat.le_of_ble_eq_true rfl, rfl⟩ | exact ⟨Nat.le_of_ble_eq_true rfl, by assumption⟩ | exact ⟨by omega, Nat.le_of_ble_eq_true rfl⟩ | exact ⟨⟨by assumption, by omega⟩, Nat.le_of_ble_eq_true rfl⟩ | decide) ?_; conv => whnf)
              (refine c_tk e4 hA4 (by omega) (fun w _ => absurd w (by omega)) (fun _ => ?_); conv => whnf)
              (refine And.intro (by first | omega | assumption | rfl | exact zin_and | exact ⟨zin_and, by omega⟩ | exact ⟨by omega, zin_and⟩ | exact Nat.le_of_ble_eq_true rfl | exact ⟨Nat.le_of_ble_eq_true rfl, rfl⟩ | exact ⟨Nat.le_of_ble_eq_true rfl, by assumption⟩ | exact ⟨by omega, Nat.le_of_ble_eq_true rfl⟩ | exact ⟨⟨by assumption, by omega⟩, Nat.le_of_ble_eq_true rfl⟩ | decide) ?_; conv => whnf)
              (refine And.intro (fun h => ?_) (fun h => by omega); conv => whnf)
              exact hK _ _ _ _ fin
          | succ f ih =>
            intro q b tk g4 x5 hq hqf htk hf4 hA4 hb hr
            rw [mbr] at hr
            have e4 : g4 4 = ch := by rw [hf4.1 4 (by omega)]; exact hc
            by_cases hh : q < L ∧ ch q = 33
            · rw [if_pos hh] at hr
              have r3 := nu_rng (ch := ch) (L := L) (p := q + 1) (a := 0) (b := 10) (by omega) (by omega)
              (refine zW.go (zC_om _) (fun K hK => ?_); conv => whnf)
              (refine And.intro (by first | omega | assumption | rfl | exact zin_and | exact ⟨zin_and, by omega⟩ | exact ⟨by omega, zin_and⟩ | exact Nat.le_of_ble_eq_true rfl | exact ⟨Nat.le_of_ble_eq_true rfl, rfl⟩ | exact ⟨Nat.le_of_ble_eq_true rfl, by assumption⟩ | exact ⟨by omega, Nat.le_of_ble_eq_true rfl⟩ | exact ⟨⟨by assumption, by omega⟩, Nat.le_of_ble_eq_true rfl⟩ | decide) ?_; conv => whnf)
              rw [hA4.1]
              (refine And.intro (by first | omega | assumption | rfl | exact zin_and | exact ⟨zin_and, by omega⟩ | exact ⟨by omega, zin_and⟩ | exact Nat.le_of_ble_eq_true rfl | exact ⟨Nat.le_of_ble_eq_true rfl, rfl⟩ | exact ⟨Nat.le_of_ble_eq_true rfl, by assumption⟩ | exact ⟨by omega, Nat.le_of_ble_eq_true rfl⟩ | exact ⟨⟨by assumption, by omega⟩, Nat.le_of_ble_eq_true rfl⟩ | decide) ?_; conv => whnf)
              (refine And.intro (fun h => by omega) (fun h => ?_); conv => whnf)
              (refine And.intro (by first | omega | assumption | rfl | exact zin_and | exact ⟨zin_and, by omega⟩ | exact ⟨by omega, zin_and⟩ | exact Nat.le_of_ble_eq_true rfl | exact ⟨Nat.le_of_ble_eq_true rfl, rfl⟩ | exact ⟨Nat.le_of_ble_eq_true rfl, by assumption⟩ | exact ⟨by omega, Nat.le_of_ble_eq_true rfl⟩ | exact ⟨⟨by assumption, by omega⟩, Nat.le_of_ble_eq_true rfl⟩ | decide) ?_; conv => whnf)
              refine c_tk e4 hA4 (by omega) (fun _ _ g5 hf5 hA5 => ?_) (fun w => absurd hh w)
              have hf5 := hf4.trans hf5
              have e5 : g5 4 = ch := by rw [hf5.1 4 (by omega)]; exact hc
              conv => whnf
              (refine And.intro (by first | omega | assumption | rfl | exact zin_and | exact ⟨zin_and, by omega⟩ | exact ⟨by omega, zin_and⟩ | exact Nat.le_of_ble_eq_true rfl | exact ⟨Nat.le_of_ble_eq_true rfl, rfl⟩ | exact ⟨Nat.le_of_ble_eq_true rfl, by assumption⟩ | exact ⟨by omega, Nat.le_of_ble_eq_true rfl⟩ | exact ⟨⟨by assumption, by omega⟩, Nat.le_of_ble_eq_true rfl⟩ | decide) ?_; conv => whnf)
              (refine And.intro (fun h => by omega) (fun h => ?_); conv => whnf)
              (refine And.intro (by first | omega | assumption | rfl | exact zin_and | exact ⟨zin_and, by omega⟩ | exact ⟨by omega, zin_and⟩ | exact Nat.le_of_ble_eq_true rfl | exact ⟨Nat.le_of_ble_eq_true rfl, rfl⟩ | exact ⟨Nat.le_of_ble_eq_true rfl, by assumption⟩ | exact ⟨by omega, Nat.le_of_ble_eq_true rfl⟩ | exact ⟨⟨by assumption, by omega⟩, Nat.le_of_ble_eq_true rfl⟩ | decide) ?_; conv => whnf)
              (refine c_num e5 hA5 (by omega) (by omega) (by omega) (fun g6 hf6 hA6 => ?_); conv => whnf)
              generalize mnum ch L 0 10 (L - (q + 1)) (q + 1) (-5) = u at *
              have hf6 := hf5.trans hf6
              by_cases h2 : u.1 = -5
              · rw [if_pos h2] at hr
                subst hr
                (refine And.intro (by first | omega | assumption | rfl | exact zin_and | exact ⟨zin_and, by omega⟩ | exact ⟨by omega, zin_and⟩ | exact Nat.le_of_ble_eq_true rfl | exact ⟨Nat.le_of_ble_eq_true rfl, rfl⟩ | exact ⟨Nat.le_of_ble_eq_true rfl, by assumption⟩ | exact ⟨by omega, Nat.le_of_ble_eq_true rfl⟩ | exact ⟨⟨by assumption, by omega⟩, Nat.le_of_ble_eq_true rfl⟩ | decide) ?_; conv => whnf)
                (refine And.intro (fun h => by omega) (fun h => ?_); conv => whnf)
                exact ⟨⟨fun _ => Or.inl rfl, fun w => absurd w (by decide)⟩, bad g6 hf6 hA6 rfl⟩
              · rw [if_neg h2] at hr
                obtain ⟨hu, hu2⟩ := r3.2.2 h2
                obtain ⟨o, ho⟩ : ∃ o : Nat, u.1 = (o : Int) := ⟨u.1.toNat, by omega⟩
                have p2 : 2 ^ o < 2 ^ 11 := Nat.pow_lt_pow_right (by decide) (by omega)
                have hb2 : b ||| 2 ^ o < 2 ^ 11 := Nat.or_lt_two_pow hb p2
                (refine And.intro (by first | omega | assumption | rfl | exact zin_and | exact ⟨zin_and, by omega⟩ | exact ⟨by omega, zin_and⟩ | exact Nat.le_of_ble_eq_true rfl | exact ⟨Nat.le_of_ble_eq_true rfl, rfl⟩ | exact ⟨Nat.le_of_ble_eq_true rfl, by assumption⟩ | exact ⟨by omega, Nat.le_of_ble_eq_true rfl⟩ | exact ⟨⟨by assumption, by omega⟩, Nat.le_of_ble_eq_true rfl⟩ | decide) ?_; conv => whnf)
                (refine And.intro (fun h => ?_) (fun h => by omega); conv => whnf)
                (refine hK _ _ _ _ (zW.go (zC_om _) (fun K hK => ?_)); conv => whnf)
                rw [ho] at hr ⊢
                rw [Int.toNat_natCast] at hr
                rw [zone_shl (by omega), zor_nat (by omega) (by omega)]
                exact hK _ _ _ _ (ih u.2 _ (tk + 1) g6 _ hA6.2.2.1 (by omega) (by omega) hf6 hA6 hb2 hr)
            · rw [if_neg hh] at hr
              have fin := fin q b tk g4 x5 hf4 hA4 hr.symm
              (refine zW.go (zC_om _) (fun K hK => ?_); conv => whnf)
              (refine And.intro (by first | omega | assumption | rfl | exact zin_and | exact ⟨zin_and, by omega⟩ | exact ⟨by omega, zin_and⟩ | exact Nat.le_of_ble_eq_true rfl | exact ⟨Nat.le_of_ble_eq_true rfl, rfl⟩ | exact ⟨Nat.le_of_ble_eq_true rfl, by assumption⟩ | exact ⟨by omega, Nat.le_of_ble_eq_true rfl⟩ | exact ⟨⟨by assumption, by omega⟩, Nat.le_of_ble_eq_true rfl⟩ | decide) ?_; conv => whnf)
              rw [hA4.1]
              (refine And.intro (by first | omega | assumption | rfl | exact zin_and | exact ⟨zin_and, by omega⟩ | exact ⟨by omega, zin_and⟩ | exact Nat.le_of_ble_eq_true rfl | exact ⟨Nat.le_of_ble_eq_true rfl, rfl⟩ | exact ⟨Nat.le_of_ble_eq_true rfl, by assumption⟩ | exact ⟨by omega, Nat.le_of_ble_eq_true rfl⟩ | exact ⟨⟨by assumption, by omega⟩, Nat.le_of_ble_eq_true rfl⟩ | decide) ?_; conv => whnf)
              by_cases c : L ≤ tk
              · (refine And.intro (fun h => ?_) (fun h => by omega); conv => whnf)
                exact hK _ _ _ _ fin
              · (refine And.intro (fun h => by omega) (fun h => ?_); conv => whnf)
                (refine And.intro (by first | omega | assumption | rfl | exact zin_and | exact ⟨zin_and, by omega⟩ | exact ⟨by omega, zin_and⟩ | exact Nat.le_of_ble_eq_true rfl | exact ⟨Nat.le_of_ble_eq_true rfl, rfl⟩ | exact ⟨Nat.le_of_ble_eq_true rfl, by assumption⟩ | exact ⟨by omega, Nat.le_of_ble_eq_true rfl⟩ | exact ⟨⟨by assumption, by omega⟩, Nat.le_of_ble_eq_true rfl⟩ | decide) ?_; conv => whnf)
                (refine c_tk e4 hA4 (by omega) (fun w w2 => absurd ⟨w, w2⟩ hh) (fun _ => ?_); conv => whnf)
                (refine And.intro (by first | omega | assumption | rfl | exact zin_and | exact ⟨zin_and, by omega⟩ | exact ⟨by omega, zin_and⟩ | exact Nat.le_of_ble_eq_true rfl | exact ⟨Nat.le_of_ble_eq_true rfl, rfl⟩ | exact ⟨Nat.le_of_ble_eq_true rfl, by assumption⟩ | exact ⟨by omega, Nat.le_of_ble_eq_true rfl⟩ | exact ⟨⟨by assumption, by omega⟩, Nat.le_of_ble_eq_true rfl⟩ | decide) ?_; conv => whnf)
                (refine And.intro (fun h => ?_) (fun h => by omega); conv => whnf)
                exact hK _ _ _ _ fin
        (refine And.intro (by first | omega | assumption | rfl | exact zin_and | exact ⟨zin_and, by omega⟩ | exact ⟨by omega, zin_and⟩ | exact Nat.le_of_ble_eq_true rfl | exact ⟨Nat.le_of_ble_eq_true rfl, rfl⟩ | exact ⟨Nat.le_of_ble_eq_true rfl, by assumption⟩ | exact ⟨by omega, Nat.le_of_ble_eq_true rfl⟩ | exact ⟨⟨by assumption, by omega⟩, Nat.le_of_ble_eq_true rfl⟩ | decide) ?_; conv => whnf)
        (refine And.intro (fun h => ?_) (fun h => by omega); conv => whnf)
        (refine hK _ _ _ _ ?_)
        (refine zW.upto (zC_om _) 4 (fun K hK => ?_); conv => whnf)
        exact hK _ _ _ _ (loop (L - y.2) y.2 0 0 g3 _ hA3.2.2.1 (by omega) (by omega) hf3 hA3 (by omega) hres)
    · rw [if_neg hno] at hres
      subst hres
      conv => whnf
      (refine And.intro (by first | omega | assumption | rfl | exact zin_and | exact ⟨zin_and, by omega⟩ | exact ⟨by omega, zin_and⟩ | exact Nat.le_of_ble_eq_true rfl | exact ⟨Nat.le_of_ble_eq_true rfl, rfl⟩ | exact ⟨Nat.le_of_ble_eq_true rfl, by assumption⟩ | exact ⟨by omega, Nat.le_of_ble_eq_true rfl⟩ | exact ⟨⟨by assumption, by omega⟩, Nat.le_of_ble_eq_true rfl⟩ | decide) ?_; conv => whnf)
      (refine And.intro (fun h => by omega) (fun h => ?_); conv => whnf)
      exact ⟨⟨fun _ => Or.inl rfl, fun w => absurd w (by decide)⟩, bad g1 hf1 hA1 rfl⟩
theorem c_read {ch : Int → Int} {L : Nat} {res : Bool × Nat × (Nat → zT) × Nat} (hc : g 4 = ch) (h34 : g 3 (4 : Nat) = (L : Int)) (hL : L ≤ 80) (hcs : ∀ i : Nat, i < L → 0 ≤ g 4 i ∧ g 4 i < 65536) (hres : mtx ch L (L + 1) 0 0 (fun _ => (0, 0, 0)) = res)
    (hQ : ∀ g' : zM, FX g g' → (res.1 = true → g' 3 (5 : Nat) = (res.2.1 : Int) ∧ RowsC g' res.2.1 res.2.2.1) → Q (some (zI (if res.1 = true ∧ ¬ res.2.2.2 < L then -1 else (res.2.2.2 : Int)))) g') : zC (d + 4) 48 [zR 3] g Q := by
  have k3 := zkd3
  refine zC.go zm_X4_read ⟨rfl, rfl⟩ rfl ?_
  have fin : ∀ (q k : Nat) (T : Nat → zT) (g1 : zM), FX g g1 → AtC g1 L q → g1 3 (5 : Nat) = (k : Int) → RowsC g1 k T → res = (true, k, T, q) → zW zX4_read (zC (d + 3)) Q 8 [zR 3, zI 0] [] g1 := by
    intro q k T g1 hf hA hk hT e
    have hh := hQ g1 hf (fun _ => by rw [e]; exact ⟨hk, hT⟩)
    rw [e] at hh
    have hq := hA.2.2.1
    (refine zW.go (zC_om _) (fun K hK => ?_); conv => whnf)
    (refine And.intro (by first | omega | assumption | rfl | exact zin_and | exact ⟨zin_and, by omega⟩ | exact ⟨by omega, zin_and⟩ | exact Nat.le_of_ble_eq_true rfl | exact ⟨Nat.le_of_ble_eq_true rfl, rfl⟩ | exact ⟨Nat.le_of_ble_eq_true rfl, by assumption⟩ | exact ⟨by omega, Nat.le_of_ble_eq_true rfl⟩ | exact ⟨⟨by assumption, by omega⟩, Nat.le_of_ble_eq_true rfl⟩ | decide) ?_; conv => whnf)
    (refine And.intro (fun h => ?_) (fun h => by omega); conv => whnf)
    (refine hK _ _ _ _ (zW.go (zC_om _) (fun K hK => ?_)); conv => whnf)
    (refine And.intro (by first | omega | assumption | rfl | exact zin_and | exact ⟨zin_and, by omega⟩ | exact ⟨by omega, zin_and⟩ | exact Nat.le_of_ble_eq_true rfl | exact ⟨Nat.le_of_ble_eq_true rfl, rfl⟩ | exact ⟨Nat.le_of_ble_eq_true rfl, by assumption⟩ | exact ⟨by omega, Nat.le_of_ble_eq_true rfl⟩ | exact ⟨⟨by assumption, by omega⟩, Nat.le_of_ble_eq_true rfl⟩ | decide) ?_; conv => whnf)
    rw [hA.2.1]
    (refine And.intro (by first | omega | assumption | rfl | exact zin_and | exact ⟨zin_and, by omega⟩ | exact ⟨by omega, zin_and⟩ | exact Nat.le_of_ble_eq_true rfl | exact ⟨Nat.le_of_ble_eq_true rfl, rfl⟩ | exact ⟨Nat.le_of_ble_eq_true rfl, by assumption⟩ | exact ⟨by omega, Nat.le_of_ble_eq_true rfl⟩ | exact ⟨⟨by assumption, by omega⟩, Nat.le_of_ble_eq_true rfl⟩ | decide) ?_; conv => whnf)
    rw [hA.1]
    (refine And.intro (by first | omega | assumption | rfl | exact zin_and | exact ⟨zin_and, by omega⟩ | exact ⟨by omega, zin_and⟩ | exact Nat.le_of_ble_eq_true rfl | exact ⟨Nat.le_of_ble_eq_true rfl, rfl⟩ | exact ⟨Nat.le_of_ble_eq_true rfl, by assumption⟩ | exact ⟨by omega, Nat.le_of_ble_eq_true rfl⟩ | exact ⟨⟨by assumption, by omega⟩, Nat.le_of_ble_eq_true rfl⟩ | decide) ?_; conv => whnf)
    by_cases c : L ≤ q
    · (refine And.intro (fun h => ?_) (fun h => by omega); conv => whnf)
      (refine hK _ _ _ _ (zW.go (zC_om _) (fun K hK => ?_)); conv => whnf)
      refine ⟨⟨fun w => absurd w (by decide), fun w => absurd w (by decide)⟩, zQe hh ?_⟩
      rw [if_pos ⟨rfl, Nat.not_lt.mpr c⟩]
    · (refine And.intro (fun h => by omega) (fun h => ?_); conv => whnf)
      (refine And.intro (by first | omega | assumption | rfl | exact zin_and | exact ⟨zin_and, by omega⟩ | exact ⟨by omega, zin_and⟩ | exact Nat.le_of_ble_eq_true rfl | exact ⟨Nat.le_of_ble_eq_true rfl, rfl⟩ | exact ⟨Nat.le_of_ble_eq_true rfl, by assumption⟩ | exact ⟨by omega, Nat.le_of_ble_eq_true rfl⟩ | exact ⟨⟨by assumption, by omega⟩, Nat.le_of_ble_eq_true rfl⟩ | decide) ?_; conv => whnf)
      rw [hA.2.1]
      (refine hK _ _ _ _ (zW.go (zC_om _) (fun K hK => ?_)); conv => whnf)
      refine ⟨⟨fun w => absurd w (by decide), fun w => absurd w (by decide)⟩, zQe hh ?_⟩
      rw [if_neg (fun w => w.2 (Nat.not_le.mp c))]
  have loop : ∀ (f q k : Nat) (T : Nat → zT) (g1 : zM), q ≤ L → L < q + f → 4 * k ≤ q → FX g g1 → AtC g1 L q → g1 3 (5 : Nat) = (k : Int) → RowsC g1 k T → mtx ch L f q k T = res → zW zX4_read (zC (d + 3)) Q 8 [zR 3, zI 1] [] g1 := by
    intro f
    induction f with
    | zero => intro q k T g1 hq hf; exact absurd hf (by omega)
    | succ f ih =>
      intro q k T g1 hq hqf hkq hf hA hk hT hr
      rw [mtx] at hr
      have rg := mpt_rng (ch := ch) (L := L) hq
      have e1 : g1 4 = ch := by rw [hf.1 4 (by omega) (by omega) (by omega) (by omega)]; exact hc
      (refine zW.go (zC_om _) (fun K hK => ?_); conv => whnf)
      (refine And.intro (by first | omega | assumption | rfl | exact zin_and | exact ⟨zin_and, by omega⟩ | exact ⟨by omega, zin_and⟩ | exact Nat.le_of_ble_eq_true rfl | exact ⟨Nat.le_of_ble_eq_true rfl, rfl⟩ | exact ⟨Nat.le_of_ble_eq_true rfl, by assumption⟩ | exact ⟨by omega, Nat.le_of_ble_eq_true rfl⟩ | exact ⟨⟨by assumption, by omega⟩, Nat.le_of_ble_eq_true rfl⟩ | decide) ?_; conv => whnf)
      (refine And.intro (fun h => by omega) (fun h => ?_); conv => whnf)
      (refine And.intro (by first | omega | assumption | rfl | exact zin_and | exact ⟨zin_and, by omega⟩ | exact ⟨by omega, zin_and⟩ | exact Nat.le_of_ble_eq_true rfl | exact ⟨Nat.le_of_ble_eq_true rfl, rfl⟩ | exact ⟨Nat.le_of_ble_eq_true rfl, by assumption⟩ | exact ⟨by omega, Nat.le_of_ble_eq_true rfl⟩ | exact ⟨⟨by assumption, by omega⟩, Nat.le_of_ble_eq_true rfl⟩ | decide) ?_; conv => whnf)
      rw [hk]
      (refine And.intro (by first | omega | assumption | rfl | exact zin_and | exact ⟨zin_and, by omega⟩ | exact ⟨by omega, zin_and⟩ | exact Nat.le_of_ble_eq_true rfl | exact ⟨Nat.le_of_ble_eq_true rfl, rfl⟩ | exact ⟨Nat.le_of_ble_eq_true rfl, by assumption⟩ | exact ⟨by omega, Nat.le_of_ble_eq_true rfl⟩ | exact ⟨⟨by assumption, by omega⟩, Nat.le_of_ble_eq_true rfl⟩ | decide) ?_; conv => whnf)
      rw [hA.1]
      (refine And.intro (by first | omega | assumption | rfl | exact zin_and | exact ⟨zin_and, by omega⟩ | exact ⟨by omega, zin_and⟩ | exact Nat.le_of_ble_eq_true rfl | exact ⟨Nat.le_of_ble_eq_true rfl, rfl⟩ | exact ⟨Nat.le_of_ble_eq_true rfl, by assumption⟩ | exact ⟨by omega, Nat.le_of_ble_eq_true rfl⟩ | exact ⟨⟨by assumption, by omega⟩, Nat.le_of_ble_eq_true rfl⟩ | decide) ?_; conv => whnf)
      (refine And.intro (fun h => by omega) (fun h => ?_); conv => whnf)
      (refine And.intro (by first | omega | assumption | rfl | exact zin_and | exact ⟨zin_and, by omega⟩ | exact ⟨by omega, zin_and⟩ | exact Nat.le_of_ble_eq_true rfl | exact ⟨Nat.le_of_ble_eq_true rfl, rfl⟩ | exact ⟨Nat.le_of_ble_eq_true rfl, by assumption⟩ | exact ⟨by omega, Nat.le_of_ble_eq_true rfl⟩ | exact ⟨⟨by assumption, by omega⟩, Nat.le_of_ble_eq_true rfl⟩ | decide) ?_; conv => whnf)
      (refine c_readThing e1 hA hk (by omega) rfl (fun g2 h21 h22 hA2 hrow => ?_); conv => whnf)
      generalize mpt ch L q = x at *
      have hf2 : FX g g2 := ⟨fun j a b c f => by rw [h21 j a b c f, hf.1 j a b c f], by rw [h22 _ (by omega), hf.2]⟩
      have e2 : g2 4 = ch := by rw [hf2.1 4 (by omega) (by omega) (by omega) (by omega)]; exact hc
      have hk2 : g2 3 (5 : Nat) = (k : Int) := by rw [h22 _ (by omega)]; exact hk
      by_cases h1 : x.1 = false
      · rw [if_pos h1] at hr
        subst hr
        have hh := hQ g2 hf2 (fun w => zft w)
        rw [h1, zb_f]
        (refine And.intro (by first | omega | assumption | rfl | exact zin_and | exact ⟨zin_and, by omega⟩ | exact ⟨by omega, zin_and⟩ | exact Nat.le_of_ble_eq_true rfl | exact ⟨Nat.le_of_ble_eq_true rfl, rfl⟩ | exact ⟨Nat.le_of_ble_eq_true rfl, by assumption⟩ | exact ⟨by omega, Nat.le_of_ble_eq_true rfl⟩ | exact ⟨⟨by assumption, by omega⟩, Nat.le_of_ble_eq_true rfl⟩ | decide) ?_; conv => whnf)
        (refine And.intro (fun h => by omega) (fun h => ?_); conv => whnf)
        (refine And.intro (by first | omega | assumption | rfl | exact zin_and | exact ⟨zin_and, by omega⟩ | exact ⟨by omega, zin_and⟩ | exact Nat.le_of_ble_eq_true rfl | exact ⟨Nat.le_of_ble_eq_true rfl, rfl⟩ | exact ⟨Nat.le_of_ble_eq_true rfl, by assumption⟩ | exact ⟨by omega, Nat.le_of_ble_eq_true rfl⟩ | exact ⟨⟨by assumption, by omega⟩, Nat.le_of_ble_eq_true rfl⟩ | decide) ?_; conv => whnf)
        rw [hA2.2.1]
        refine ⟨⟨fun w => absurd w (by decide), fun w => absurd w (by decide)⟩, zQe hh ?_⟩
        rw [if_neg (fun w => zft w.1)]
      · have h1 : x.1 = true := by simpa using h1
        rw [if_neg (by rw [h1]; decide)] at hr
        have hrow := hrow h1
        have rg2 := (rg.2 h1).2
        have hT2 : ∀ g3 : zM, g3 5 = g2 5 → g3 6 = g2 6 → g3 7 = g2 7 → RowsC g3 (k + 1) (zTu T k x.2.1) := by
          intro g3 a5 a6 a7 i hi hi12
          rw [a5, a6, a7]
          by_cases c : i = k
          · subst c
            rw [zTu_s]
            exact hrow.2 hi12
          · rw [zTu_n c, (hrow.1 i (by omega)).1, (hrow.1 i (by omega)).2.1, (hrow.1 i (by omega)).2.2]
            exact hT i (by omega) hi12
        rw [h1, zb_t]
        (refine And.intro (by first | omega | assumption | rfl | exact zin_and | exact ⟨zin_and, by omega⟩ | exact ⟨by omega, zin_and⟩ | exact Nat.le_of_ble_eq_true rfl | exact ⟨Nat.le_of_ble_eq_true rfl, rfl⟩ | exact ⟨Nat.le_of_ble_eq_true rfl, by assumption⟩ | exact ⟨by omega, Nat.le_of_ble_eq_true rfl⟩ | exact ⟨⟨by assumption, by omega⟩, Nat.le_of_ble_eq_true rfl⟩ | decide) ?_; conv => whnf)
        (refine And.intro (fun h => ?_) (fun h => by omega); conv => whnf)
        (refine hK _ _ _ _ (zW.go (zC_om _) (fun K hK => ?_)); conv => whnf)
        (refine And.intro (by first | omega | assumption | rfl | exact zin_and | exact ⟨zin_and, by omega⟩ | exact ⟨by omega, zin_and⟩ | exact Nat.le_of_ble_eq_true rfl | exact ⟨Nat.le_of_ble_eq_true rfl, rfl⟩ | exact ⟨Nat.le_of_ble_eq_true rfl, by assumption⟩ | exact ⟨by omega, Nat.le_of_ble_eq_true rfl⟩ | exact ⟨⟨by assumption, by omega⟩, Nat.le_of_ble_eq_true rfl⟩ | decide) ?_; conv => whnf)
        refine c_tk e2 hA2 (by omega) (fun hp hcc g3 hf3 hA3 => ?_) (fun hno => ?_)
        · rw [if_pos ⟨hp, hcc⟩] at hr
          have hk3 : g3 3 (5 : Nat) = (k : Int) := by rw [hf3.2 _ (by omega)]; exact hk2
          conv => whnf
          (refine And.intro (by first | omega | assumption | rfl | exact zin_and | exact ⟨zin_and, by omega⟩ | exact ⟨by omega, zin_and⟩ | exact Nat.le_of_ble_eq_true rfl | exact ⟨Nat.le_of_ble_eq_true rfl, rfl⟩ | exact ⟨Nat.le_of_ble_eq_true rfl, by assumption⟩ | exact ⟨by omega, Nat.le_of_ble_eq_true rfl⟩ | exact ⟨⟨by assumption, by omega⟩, Nat.le_of_ble_eq_true rfl⟩ | decide) ?_; conv => whnf)
          rw [hk3]
          (refine And.intro ⟨by assumption, fun w => absurd w (by decide)⟩ ?_; conv => whnf)
          refine hK _ _ _ _ (ih (x.2.2 + 1) (k + 1) _ _ (by omega) (by omega) (by omega) ⟨fun j a b c f => ?_, ?_⟩ ⟨?_, ?_, hA3.2.2.1, hL, ?_⟩ ?_ (hT2 _ ?_ ?_ ?_) hr)
          · rw [zup_ne a, hf3.1 j a]; exact hf2.1 j a b c f
          · rw [zup_i (by decide), hf3.2 _ (by omega)]; exact hf2.2
          · rw [zup_i (by decide)]; exact hA3.1
          · rw [zup_i (by decide)]; exact hA3.2.1
          · rw [zup_ne (by omega)]; exact hA3.2.2.2.2
          · rw [zup_s]; rfl
          · rw [zup_ne (by omega), hf3.1 5 (by omega)]
          · rw [zup_ne (by omega), hf3.1 6 (by omega)]
          · rw [zup_ne (by omega), hf3.1 7 (by omega)]
        · rw [if_neg hno] at hr
          conv => whnf
          (refine And.intro (by first | omega | assumption | rfl | exact zin_and | exact ⟨zin_and, by omega⟩ | exact ⟨by omega, zin_and⟩ | exact Nat.le_of_ble_eq_true rfl | exact ⟨Nat.le_of_ble_eq_true rfl, rfl⟩ | exact ⟨Nat.le_of_ble_eq_true rfl, by assumption⟩ | exact ⟨by omega, Nat.le_of_ble_eq_true rfl⟩ | exact ⟨⟨by assumption, by omega⟩, Nat.le_of_ble_eq_true rfl⟩ | decide) ?_; conv => whnf)
          rw [hk2]
          (refine And.intro ⟨by assumption, fun w => absurd w (by decide)⟩ ?_; conv => whnf)
          refine hK _ _ _ _ (fin x.2.2 (k + 1) _ _ ⟨fun j a b c f => ?_, ?_⟩ ⟨?_, ?_, hA2.2.2.1, hL, ?_⟩ ?_ (hT2 _ ?_ ?_ ?_) hr.symm)
          · rw [zup_ne a]; exact hf2.1 j a b c f
          · rw [zup_i (by decide)]; exact hf2.2
          · rw [zup_i (by decide)]; exact hA2.1
          · rw [zup_i (by decide)]; exact hA2.2.1
          · rw [zup_ne (by omega)]; exact hA2.2.2.2.2
          · rw [zup_s]; rfl
          · rw [zup_ne (by omega)]
          · rw [zup_ne (by omega)]
          · rw [zup_ne (by omega)]
  (refine zW.upto (zC_om _) 8 (fun K hK => ?_); conv => whnf)
  (refine And.intro ⟨by assumption, fun w => absurd w (by decide)⟩ ?_; conv => whnf)
  (refine And.intro ⟨by assumption, fun w => absurd w (by decide)⟩ ?_; conv => whnf)
  refine hK _ _ _ _ (loop (L + 1) 0 0 _ _ (by omega) (by omega) (by omega) ⟨fun j a b c f => ?_, ?_⟩ ⟨?_, ?_, by omega, hL, ?_⟩ ?_ (fun i hi => absurd hi (by omega)) hres)
  · rw [zup_ne a, zup_ne a]
  · rw [zup_i (by decide), zup_i (by decide)]
  · rw [zup_i (by decide), zup_i (by decide)]; exact h34
  · rw [zup_i (by decide), zup_s]; rfl
  · rw [zup_ne (by omega), zup_ne (by omega)]; exact hcs
  · rw [zup_s]; rfl
end PRD
