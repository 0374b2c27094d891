/-! the text, read by the reference -/
def RowsM (g : zM) (k : Nat) (T : Nat → zT) : Prop := ∀ i : Nat, i < k → g 70 (3 * i) = (T i).1 ∧ g 70 (3 * i + 1) = (T i).2.1 ∧ g 70 (3 * i + 2) = ((T i).2.2 : Int)
def FrN (g g' : zM) : Prop := (∀ j, j ≠ 64 → j ≠ 70 → g' j = g j) ∧ ∀ j : Int, j ≠ 8 → j ≠ 9 → g' 64 j = g 64 j
def FT (g g' : zM) : Prop := (∀ j, j ≠ 64 → j ≠ 70 → g' j = g j) ∧ ∀ j : Int, j ≠ 8 → j ≠ 9 → j ≠ 11 → g' 64 j = g 64 j
theorem FrM.n {g g' : zM} (hh : FrM g g') : FrN g g' := ⟨fun j a _ => hh.1 j a, hh.2⟩
theorem FrN.trans {g g' g'' : zM} (hh : FrN g g') (h' : FrN g' g'') : FrN g g'' := ⟨fun j a b => by rw [h'.1 j a b, hh.1 j a b], fun j a b => by rw [h'.2 j a b, hh.2 j a b]⟩
theorem FrN.up {g : zM} {i v : Int} : FrN g (zup g 70 i v) := ⟨fun j _ b => zup_ne b, fun j _ _ => zup_k (by decide)⟩
theorem AtM.up {g : zM} {L p : Nat} {i v : Int} (hh : AtM g L p) : AtM (zup g 70 i v) L p := ⟨by rw [zup_k (by decide)]; exact hh.1, by rw [zup_k (by decide)]; exact hh.2.1, hh.2.2.1, hh.2.2.2.1, by rw [zup_ne (by decide)]; exact hh.2.2.2.2⟩
section PMT
variable {g : zM} {d : Nat} {Q : zP}
theorem m_isPart {ch : Int → Int} {L p k : Nat} {res : Bool × zT × Nat} (hc : g 69 = ch) (hA : AtM g L p) (hk : g 64 (11 : Nat) = (k : Int)) (hk8 : k ≤ 25) (hres : mpt ch L p = res)
    (hQ : ∀ g' : zM, FrN g g' → AtM g' L res.2.2 → (res.1 = true → (∀ i : Int, (i < 3 * k ∨ 3 * k + 2 < i) → g' 70 i = g 70 i) ∧ g' 70 (3 * k) = res.2.1.1 ∧ g' 70 (3 * k + 1) = res.2.1.2.1 ∧ g' 70 (3 * k + 2) = (res.2.1.2.2 : Int)) → Q (some (zI (zb res.1))) g') : zC (d + 4) 135 [zR 64] g Q := by
  have k64 := zkd64
  have k70a : (zkd 70).1 = 1 := rfl
  have k70b : (zkd 70).2 = 90 := rfl
  obtain ⟨t1, t2, hpl, hL, hcs⟩ := id hA
  unfold mpt mp2 at hres
  have r1 := nu_rng (ch := ch) (L := L) (p := p) (a := 1) (b := 99) (by omega) hpl
  have bad : ∀ g' : zM, FrN g g' → AtM g' L res.2.2 → res.1 = false → Q (some (zI 0)) g' := fun g' hf hA' e => by
    have hh := hQ g' hf hA' (fun w => zft (e.symm.trans w))
    rw [e] at hh
    exact hh
  refine zC.go zm_X6_isPart ⟨rfl, rfl⟩ rfl ?_
  (refine zW.go (zC_om _) (fun K hK => ?_); conv => whnf)
  (refine And.intro (by first | omega | assumption | rfl | exact zin_and | exact ⟨zin_and, by omega⟩ | exact ⟨by omega, zin_and⟩ | exact Nat.le_of_ble_eq_true rfl | exact ⟨Nat.le_of_ble_eq_true rfl, rfl⟩ | exact ⟨Nat.le_of_ble_eq_true rfl, by assumption⟩ | exact ⟨by omega, Nat.le_of_ble_eq_true rfl⟩ | exact ⟨⟨by assumption, by omega⟩, Nat.le_of_ble_eq_true rfl⟩ | decide) ?_; conv => whnf)
  refine m_num hc hA (by omega) (by omega) (fun h1 hA1 => ?_) (fun h1 g1 hf1 hA1 h91 => ?_)
  · rw [if_pos h1] at hres
    subst hres
    conv => whnf
    (refine And.intro (by first | omega | assumption | rfl | exact zin_and | exact ⟨zin_and, by omega⟩ | exact ⟨by omega, zin_and⟩ | exact Nat.le_of_ble_eq_true rfl | exact ⟨Nat.le_of_ble_eq_true rfl, rfl⟩ | exact ⟨Nat.le_of_ble_eq_true rfl, by assumption⟩ | exact ⟨by omega, Nat.le_of_ble_eq_true rfl⟩ | exact ⟨⟨by assumption, by omega⟩, Nat.le_of_ble_eq_true rfl⟩ | decide) ?_; conv => whnf)
    (refine And.intro (fun h => by omega) (fun h => ?_); conv => whnf)
    exact ⟨⟨fun _ => Or.inl rfl, fun w => absurd w (by decide)⟩, bad g FrM.rf.n hA1 rfl⟩
  · rw [if_neg h1] at hres
    generalize mnum ch L 1 99 (L - p) p (-5) = x at *
    obtain ⟨hw, hw2⟩ := r1.2.2 h1
    have hk1 : g1 64 (11 : Nat) = (k : Int) := by rw [hf1.2 _ (by omega) (by omega)]; exact hk
    conv => whnf
    (refine And.intro (by first | omega | assumption | rfl | exact zin_and | exact ⟨zin_and, by omega⟩ | exact ⟨by omega, zin_and⟩ | exact Nat.le_of_ble_eq_true rfl | exact ⟨Nat.le_of_ble_eq_true rfl, rfl⟩ | exact ⟨Nat.le_of_ble_eq_true rfl, by assumption⟩ | exact ⟨by omega, Nat.le_of_ble_eq_true rfl⟩ | exact ⟨⟨by assumption, by omega⟩, Nat.le_of_ble_eq_true rfl⟩ | decide) ?_; conv => whnf)
    (refine And.intro (fun h => ?_) (fun h => by omega); conv => whnf)
    (refine hK _ _ _ _ (zW.go (zC_om _) (fun K hK => ?_)); conv => whnf)
    (refine And.intro (by first | omega | assumption | rfl | exact zin_and | exact ⟨zin_and, by omega⟩ | exact ⟨by omega, zin_and⟩ | exact Nat.le_of_ble_eq_true rfl | exact ⟨Nat.le_of_ble_eq_true rfl, rfl⟩ | exact ⟨Nat.le_of_ble_eq_true rfl, by assumption⟩ | exact ⟨by omega, Nat.le_of_ble_eq_true rfl⟩ | exact ⟨⟨by assumption, by omega⟩, Nat.le_of_ble_eq_true rfl⟩ | decide) ?_; conv => whnf)
    (refine And.intro (by first | omega | assumption | rfl | exact zin_and | exact ⟨zin_and, by omega⟩ | exact ⟨by omega, zin_and⟩ | exact Nat.le_of_ble_eq_true rfl | exact ⟨Nat.le_of_ble_eq_true rfl, rfl⟩ | exact ⟨Nat.le_of_ble_eq_true rfl, by assumption⟩ | exact ⟨by omega, Nat.le_of_ble_eq_true rfl⟩ | exact ⟨⟨by assumption, by omega⟩, Nat.le_of_ble_eq_true rfl⟩ | decide) ?_; conv => whnf)
    rw [hk1]
    (refine And.intro (by first | omega | assumption | rfl | exact zin_and | exact ⟨zin_and, by omega⟩ | exact ⟨by omega, zin_and⟩ | exact Nat.le_of_ble_eq_true rfl | exact ⟨Nat.le_of_ble_eq_true rfl, rfl⟩ | exact ⟨Nat.le_of_ble_eq_true rfl, by assumption⟩ | exact ⟨by omega, Nat.le_of_ble_eq_true rfl⟩ | exact ⟨⟨by assumption, by omega⟩, Nat.le_of_ble_eq_true rfl⟩ | decide) ?_; conv => whnf)
    rw [h91]
    (refine And.intro (by first | omega | assumption | rfl | exact zin_and | exact ⟨zin_and, by omega⟩ | exact ⟨by omega, zin_and⟩ | exact Nat.le_of_ble_eq_true rfl | exact ⟨Nat.le_of_ble_eq_true rfl, rfl⟩ | exact ⟨Nat.le_of_ble_eq_true rfl, by assumption⟩ | exact ⟨by omega, Nat.le_of_ble_eq_true rfl⟩ | exact ⟨⟨by assumption, by omega⟩, Nat.le_of_ble_eq_true rfl⟩ | decide) ?_; conv => whnf)
    have hfu : FrN g (zup g1 70 (3 * k) x.1) := hf1.n.trans FrN.up
    have hAu : AtM (zup g1 70 (3 * k) x.1) L x.2 := hA1.up
    have ho70 : ∀ i : Int, i ≠ 3 * k → (zup g1 70 (3 * k) x.1) 70 i = g 70 i := fun i hi => by rw [zup_i hi, hf1.1 70 (by omega)]
    have hw70 : (zup g1 70 (3 * k) x.1) 70 (3 * k) = x.1 := zup_s
    generalize zup g1 70 (3 * k) x.1 = g2 at *
    have e2 : g2 69 = ch := by rw [hfu.1 69 (by omega) (by omega)]; exact hc
    (refine And.intro (by first | omega | assumption | rfl | exact zin_and | exact ⟨zin_and, by omega⟩ | exact ⟨by omega, zin_and⟩ | exact Nat.le_of_ble_eq_true rfl | exact ⟨Nat.le_of_ble_eq_true rfl, rfl⟩ | exact ⟨Nat.le_of_ble_eq_true rfl, by assumption⟩ | exact ⟨by omega, Nat.le_of_ble_eq_true rfl⟩ | exact ⟨⟨by assumption, by omega⟩, Nat.le_of_ble_eq_true rfl⟩ | decide) ?_; conv => whnf)
    refine m_tk e2 hAu (by omega) (fun hp1 hc1 => ?_) (fun hno => ?_)
    · rw [if_pos ⟨hp1, hc1⟩] at hres
      unfold mp3 at hres
      have r2 := nu_rng (ch := ch) (L := L) (p := x.2 + 1) (a := 1) (b := 50) (by omega) (by omega)
      conv => whnf
      (refine And.intro (by first | omega | assumption | rfl | exact zin_and | exact ⟨zin_and, by omega⟩ | exact ⟨by omega, zin_and⟩ | exact Nat.le_of_ble_eq_true rfl | exact ⟨Nat.le_of_ble_eq_true rfl, rfl⟩ | exact ⟨Nat.le_of_ble_eq_true rfl, by assumption⟩ | exact ⟨by omega, Nat.le_of_ble_eq_true rfl⟩ | exact ⟨⟨by assumption, by omega⟩, Nat.le_of_ble_eq_true rfl⟩ | decide) ?_; conv => whnf)
      (refine And.intro (fun h => ?_) (fun h => by omega); conv => whnf)
      (refine hK _ _ _ _ (zW.go (zC_om _) (fun K hK => ?_)); conv => whnf)
      (refine And.intro (by first | omega | assumption | rfl | exact zin_and | exact ⟨zin_and, by omega⟩ | exact ⟨by omega, zin_and⟩ | exact Nat.le_of_ble_eq_true rfl | exact ⟨Nat.le_of_ble_eq_true rfl, rfl⟩ | exact ⟨Nat.le_of_ble_eq_true rfl, by assumption⟩ | exact ⟨by omega, Nat.le_of_ble_eq_true rfl⟩ | exact ⟨⟨by assumption, by omega⟩, Nat.le_of_ble_eq_true rfl⟩ | decide) ?_; conv => whnf)
      rw [hAu.2.1]
      (refine And.intro ⟨by assumption, fun w => absurd w (by decide)⟩ ?_; conv => whnf)
      obtain ⟨hf3, hA3⟩ := hAu.step hp1
      have o3 : (zup g2 64 (8 : Nat) (x.2 + 1)) 70 = g2 70 := zup_ne (by decide)
      generalize zup g2 64 (8 : Nat) (x.2 + 1) = g3 at *
      have hf3 := hfu.trans hf3.n
      have e3 : g3 69 = ch := by rw [hf3.1 69 (by omega) (by omega)]; exact hc
      (refine And.intro (by first | omega | assumption | rfl | exact zin_and | exact ⟨zin_and, by omega⟩ | exact ⟨by omega, zin_and⟩ | exact Nat.le_of_ble_eq_true rfl | exact ⟨Nat.le_of_ble_eq_true rfl, rfl⟩ | exact ⟨Nat.le_of_ble_eq_true rfl, by assumption⟩ | exact ⟨by omega, Nat.le_of_ble_eq_true rfl⟩ | exact ⟨⟨by assumption, by omega⟩, Nat.le_of_ble_eq_true rfl⟩ | decide) ?_; conv => whnf)
      refine m_num e3 hA3 (by omega) (by omega) (fun h2 hA4 => ?_) (fun h2 g4 hf4 hA4 h94 => ?_)
      · rw [if_pos h2] at hres
        subst hres
        conv => whnf
        (refine And.intro (by first | omega | assumption | rfl | exact zin_and | exact ⟨zin_and, by omega⟩ | exact ⟨by omega, zin_and⟩ | exact Nat.le_of_ble_eq_true rfl | exact ⟨Nat.le_of_ble_eq_true rfl, rfl⟩ | exact ⟨Nat.le_of_ble_eq_true rfl, by assumption⟩ | exact ⟨by omega, Nat.le_of_ble_eq_true rfl⟩ | exact ⟨⟨by assumption, by omega⟩, Nat.le_of_ble_eq_true rfl⟩ | decide) ?_; conv => whnf)
        (refine And.intro (fun h => by omega) (fun h => ?_); conv => whnf)
        exact ⟨⟨fun _ => Or.inl rfl, fun w => absurd w (by decide)⟩, bad g3 hf3 hA4 rfl⟩
      · rw [if_neg h2] at hres
        generalize mnum ch L 1 50 (L - (x.2 + 1)) (x.2 + 1) (-5) = y at *
        obtain ⟨hv, hv2⟩ := r2.2.2 h2
        have o4 : g4 70 = g2 70 := by rw [hf4.1 70 (by omega), o3]
        have hf4 := hf3.trans hf4.n
        have hk4 : g4 64 (11 : Nat) = (k : Int) := by rw [hf4.2 _ (by omega) (by omega)]; exact hk
        conv => whnf
        (refine And.intro (by first | omega | assumption | rfl | exact zin_and | exact ⟨zin_and, by omega⟩ | exact ⟨by omega, zin_and⟩ | exact Nat.le_of_ble_eq_true rfl | exact ⟨Nat.le_of_ble_eq_true rfl, rfl⟩ | exact ⟨Nat.le_of_ble_eq_true rfl, by assumption⟩ | exact ⟨by omega, Nat.le_of_ble_eq_true rfl⟩ | exact ⟨⟨by assumption, by omega⟩, Nat.le_of_ble_eq_true rfl⟩ | decide) ?_; conv => whnf)
        (refine And.intro (fun h => ?_) (fun h => by omega); conv => whnf)
        (refine hK _ _ _ _ ?_)
        (refine zW.upto (zC_om _) 21 (fun K hK => ?_); conv => whnf)
        (refine And.intro (by first | omega | assumption | rfl | exact zin_and | exact ⟨zin_and, by omega⟩ | exact ⟨by omega, zin_and⟩ | exact Nat.le_of_ble_eq_true rfl | exact ⟨Nat.le_of_ble_eq_true rfl, rfl⟩ | exact ⟨Nat.le_of_ble_eq_true rfl, by assumption⟩ | exact ⟨by omega, Nat.le_of_ble_eq_true rfl⟩ | exact ⟨⟨by assumption, by omega⟩, Nat.le_of_ble_eq_true rfl⟩ | decide) ?_; conv => whnf)
        (refine And.intro (by first | omega | assumption | rfl | exact zin_and | exact ⟨zin_and, by omega⟩ | exact ⟨by omega, zin_and⟩ | exact Nat.le_of_ble_eq_true rfl | exact ⟨Nat.le_of_ble_eq_true rfl, rfl⟩ | exact ⟨Nat.le_of_ble_eq_true rfl, by assumption⟩ | exact ⟨by omega, Nat.le_of_ble_eq_true rfl⟩ | exact ⟨⟨by assumption, by omega⟩, Nat.le_of_ble_eq_true rfl⟩ | decide) ?_; conv => whnf)
        rw [hk4]
        (refine And.intro (by first | omega | assumption | rfl | exact zin_and | exact ⟨zin_and, by omega⟩ | exact ⟨by omega, zin_and⟩ | exact Nat.le_of_ble_eq_true rfl | exact ⟨Nat.le_of_ble_eq_true rfl, rfl⟩ | exact ⟨Nat.le_of_ble_eq_true rfl, by assumption⟩ | exact ⟨by omega, Nat.le_of_ble_eq_true rfl⟩ | exact ⟨⟨by assumption, by omega⟩, Nat.le_of_ble_eq_true rfl⟩ | decide) ?_; conv => whnf)
        rw [h94]
        (refine And.intro (by first | omega | assumption | rfl | exact zin_and | exact ⟨zin_and, by omega⟩ | exact ⟨by omega, zin_and⟩ | exact Nat.le_of_ble_eq_true rfl | exact ⟨Nat.le_of_ble_eq_true rfl, rfl⟩ | exact ⟨Nat.le_of_ble_eq_true rfl, by assumption⟩ | exact ⟨by omega, Nat.le_of_ble_eq_true rfl⟩ | exact ⟨⟨by assumption, by omega⟩, Nat.le_of_ble_eq_true rfl⟩ | decide) ?_; conv => whnf)
        have hfu5 : FrN g (zup g4 70 (3 * k + 1) y.1) := hf4.trans FrN.up
        have hAu5 : AtM (zup g4 70 (3 * k + 1) y.1) L y.2 := hA4.up
        have hk5 : (zup g4 70 (3 * k + 1) y.1) 64 (11 : Nat) = (k : Int) := by rw [hfu5.2 _ (by omega) (by omega)]; exact hk
        have ho5 : ∀ i : Int, i ≠ 3 * k → i ≠ 3 * k + 1 → (zup g4 70 (3 * k + 1) y.1) 70 i = g 70 i := fun i hi hi2 => by rw [zup_i hi2, o4]; exact ho70 i hi
        have hw5 : (zup g4 70 (3 * k + 1) y.1) 70 (3 * k) = x.1 := by rw [zup_i (by omega), o4]; exact hw70
        have hv5 : (zup g4 70 (3 * k + 1) y.1) 70 (3 * k + 1) = y.1 := zup_s
        generalize zup g4 70 (3 * k + 1) y.1 = g5 at *
        (refine And.intro (by first | omega | assumption | rfl | exact zin_and | exact ⟨zin_and, by omega⟩ | exact ⟨by omega, zin_and⟩ | exact Nat.le_of_ble_eq_true rfl | exact ⟨Nat.le_of_ble_eq_true rfl, rfl⟩ | exact ⟨Nat.le_of_ble_eq_true rfl, by assumption⟩ | exact ⟨by omega, Nat.le_of_ble_eq_true rfl⟩ | exact ⟨⟨by assumption, by omega⟩, Nat.le_of_ble_eq_true rfl⟩ | decide) ?_; conv => whnf)
        (refine And.intro (by first | omega | assumption | rfl | exact zin_and | exact ⟨zin_and, by omega⟩ | exact ⟨by omega, zin_and⟩ | exact Nat.le_of_ble_eq_true rfl | exact ⟨Nat.le_of_ble_eq_true rfl, rfl⟩ | exact ⟨Nat.le_of_ble_eq_true rfl, by assumption⟩ | exact ⟨by omega, Nat.le_of_ble_eq_true rfl⟩ | exact ⟨⟨by assumption, by omega⟩, Nat.le_of_ble_eq_true rfl⟩ | decide) ?_; conv => whnf)
        rw [hk5]
        (refine And.intro (by first | omega | assumption | rfl | exact zin_and | exact ⟨zin_and, by omega⟩ | exact ⟨by omega, zin_and⟩ | exact Nat.le_of_ble_eq_true rfl | exact ⟨Nat.le_of_ble_eq_true rfl, rfl⟩ | exact ⟨Nat.le_of_ble_eq_true rfl, by assumption⟩ | exact ⟨by omega, Nat.le_of_ble_eq_true rfl⟩ | exact ⟨⟨by assumption, by omega⟩, Nat.le_of_ble_eq_true rfl⟩ | decide) ?_; conv => whnf)
        have hfu6 : FrN g (zup g5 70 (3 * k + 2) 0) := hfu5.trans FrN.up
        have hAu6 : AtM (zup g5 70 (3 * k + 2) 0) L y.2 := hAu5.up
        have ho6 : ∀ i : Int, i ≠ 3 * k → i ≠ 3 * k + 1 → i ≠ 3 * k + 2 → (zup g5 70 (3 * k + 2) 0) 70 i = g 70 i := fun i hi hi2 hi3 => by rw [zup_i hi3]; exact ho5 i hi hi2
        have hw6 : (zup g5 70 (3 * k + 2) 0) 70 (3 * k) = x.1 := by rw [zup_i (by omega)]; exact hw5
        have hv6 : (zup g5 70 (3 * k + 2) 0) 70 (3 * k + 1) = y.1 := by rw [zup_i (by omega)]; exact hv5
        have hb6 : (zup g5 70 (3 * k + 2) 0) 70 (3 * k + 2) = ((0 : Nat) : Int) := zup_s
        generalize zup g5 70 (3 * k + 2) 0 = g6 at *
        have fin : ∀ (q b : Nat) (g7 : zM), FrN g g7 → AtM g7 L q → (∀ i : Int, i ≠ 3 * k → i ≠ 3 * k + 1 → i ≠ 3 * k + 2 → g7 70 i = g 70 i) → g7 70 (3 * k) = x.1 → g7 70 (3 * k + 1) = y.1 → g7 70 (3 * k + 2) = (b : Int) → res = (true, (x.1, y.1, b), q) → zW zX6_isPart (zC (d + 3)) Q 92 [zR 64] [] g7 := by
          intro q b g7 hf7 hA7 ho7 hw7 hv7 hb7 e
          have hh := hQ g7 hf7 (by rw [e]; exact hA7) (fun _ => by rw [e]; exact ⟨fun i hi => ho7 i (by omega) (by omega) (by omega), hw7, hv7, hb7⟩)
          rw [e] at hh
          (refine zW.go (zC_om _) (fun K hK => ?_); conv => whnf)
          exact ⟨⟨fun _ => Or.inr rfl, fun w => absurd w (by decide)⟩, hh⟩
        have loop : ∀ (f q b : Nat) (g7 : zM), q ≤ L → L ≤ q + f → FrN g g7 → AtM g7 L q → (∀ i : Int, i ≠ 3 * k → i ≠ 3 * k + 1 → i ≠ 3 * k + 2 → g7 70 i = g 70 i) → g7 70 (3 * k) = x.1 → g7 70 (3 * k + 1) = y.1 → g7 70 (3 * k + 2) = (b : Int) → b < 2 ^ 11 → mp4 x.1 y.1 (mbr ch L f q b) = res → zW zX6_isPart (zC (d + 3)) Q 57 [zR 64] [] g7 := by
          intro f
          induction f with
          | zero =>
            intro q b g7 hq hqf hf7 hA7 ho7 hw7 hv7 hb7 hb hr
            rw [mbr] at hr
            have fin := fin q b g7 hf7 hA7 ho7 hw7 hv7 hb7 hr.symm
            have e7 : g7 69 = ch := by rw [hf7.1 69 (by omega) (by omega)]; exact hc
            (refine zW.go (zC_om _) (fun K hK => ?_); conv => whnf)
            (refine And.intro (by first | omega | assumption | rfl | exact zin_and | exact ⟨zin_and, by omega⟩ | exact ⟨by omega, zin_and⟩ | exact Nat.le_of_ble_eq_true rfl | exact ⟨Nat.le_of_ble_eq_true rfl, rfl⟩ | exact ⟨Nat.le_of_ble_eq_true rfl, by assumption⟩ | exact ⟨by omega, Nat.le_of_ble_eq_true rfl⟩ | exact ⟨⟨by assumption, by omega⟩, Nat.le_of_ble_eq_true rfl⟩ | decide) ?_; conv => whnf)
            (refine m_tk e7 hA7 (by omega) (fun w _ => absurd w (by omega)) (fun _ => ?_); conv => whnf)
            (refine And.intro (by first | omega | assumption | rfl | exact zin_and | exact ⟨zin_and, by omega⟩ | exact ⟨by omega, zin_and⟩ | exact Nat.le_of_ble_eq_true rfl | exact ⟨Nat.le_of_ble_eq_true rfl, rfl⟩ | exact ⟨Nat.le_of_ble_eq_true rfl, by assumption⟩ | exact ⟨by omega, Nat.le_of_ble_eq_true rfl⟩ | exact ⟨⟨by assumption, by omega⟩, Nat.le_of_ble_eq_true rfl⟩ | decide) ?_; conv => whnf)
            (refine And.intro (fun h => ?_) (fun h => by omega); conv => whnf)
            exact hK _ _ _ _ fin
          | succ f ih =>
            intro q b g7 hq hqf hf7 hA7 ho7 hw7 hv7 hb7 hb hr
            rw [mbr] at hr
            have e7 : g7 69 = ch := by rw [hf7.1 69 (by omega) (by omega)]; exact hc
            by_cases hh : q < L ∧ ch q = 33
            · rw [if_pos hh] at hr
              have r3 := nu_rng (ch := ch) (L := L) (p := q + 1) (a := 0) (b := 10) (by omega) (by omega)
              (refine zW.go (zC_om _) (fun K hK => ?_); conv => whnf)
              (refine And.intro (by first | omega | assumption | rfl | exact zin_and | exact ⟨zin_and, by omega⟩ | exact ⟨by omega, zin_and⟩ | exact Nat.le_of_ble_eq_true rfl | exact ⟨Nat.le_of_ble_eq_true rfl, rfl⟩ | exact ⟨Nat.le_of_ble_eq_true rfl, by assumption⟩ | exact ⟨by omega, Nat.le_of_ble_eq_true rfl⟩ | exact ⟨⟨by assumption, by omega⟩, Nat.le_of_ble_eq_true rfl⟩ | decide) ?_; conv => whnf)
              refine m_tk e7 hA7 (by omega) (fun _ _ => ?_) (fun w => absurd hh w)
              conv => whnf
              (refine And.intro (by first | omega | assumption | rfl | exact zin_and | exact ⟨zin_and, by omega⟩ | exact ⟨by omega, zin_and⟩ | exact Nat.le_of_ble_eq_true rfl | exact ⟨Nat.le_of_ble_eq_true rfl, rfl⟩ | exact ⟨Nat.le_of_ble_eq_true rfl, by assumption⟩ | exact ⟨by omega, Nat.le_of_ble_eq_true rfl⟩ | exact ⟨⟨by assumption, by omega⟩, Nat.le_of_ble_eq_true rfl⟩ | decide) ?_; conv => whnf)
              (refine And.intro (fun h => by omega) (fun h => ?_); conv => whnf)
              (refine And.intro (by first | omega | assumption | rfl | exact zin_and | exact ⟨zin_and, by omega⟩ | exact ⟨by omega, zin_and⟩ | exact Nat.le_of_ble_eq_true rfl | exact ⟨Nat.le_of_ble_eq_true rfl, rfl⟩ | exact ⟨Nat.le_of_ble_eq_true rfl, by assumption⟩ | exact ⟨by omega, Nat.le_of_ble_eq_true rfl⟩ | exact ⟨⟨by assumption, by omega⟩, Nat.le_of_ble_eq_true rfl⟩ | decide) ?_; conv => whnf)
              rw [hA7.2.1]
              (refine And.intro ⟨by assumption, fun w => absurd w (by decide)⟩ ?_; conv => whnf)
              obtain ⟨hf8, hA8⟩ := hA7.step hh.1
              have o8 : (zup g7 64 (8 : Nat) (q + 1)) 70 = g7 70 := zup_ne (by decide)
              generalize zup g7 64 (8 : Nat) (q + 1) = g8 at *
              have hf8 := hf7.trans hf8.n
              have e8 : g8 69 = ch := by rw [hf8.1 69 (by omega) (by omega)]; exact hc
              (refine And.intro (by first | omega | assumption | rfl | exact zin_and | exact ⟨zin_and, by omega⟩ | exact ⟨by omega, zin_and⟩ | exact Nat.le_of_ble_eq_true rfl | exact ⟨Nat.le_of_ble_eq_true rfl, rfl⟩ | exact ⟨Nat.le_of_ble_eq_true rfl, by assumption⟩ | exact ⟨by omega, Nat.le_of_ble_eq_true rfl⟩ | exact ⟨⟨by assumption, by omega⟩, Nat.le_of_ble_eq_true rfl⟩ | decide) ?_; conv => whnf)
              refine m_num e8 hA8 (by omega) (by omega) (fun h2 hA9 => ?_) (fun h2 g9 hf9 hA9 h99 => ?_)
              · rw [if_pos h2] at hr
                subst hr
                conv => whnf
                (refine And.intro (by first | omega | assumption | rfl | exact zin_and | exact ⟨zin_and, by omega⟩ | exact ⟨by omega, zin_and⟩ | exact Nat.le_of_ble_eq_true rfl | exact ⟨Nat.le_of_ble_eq_true rfl, rfl⟩ | exact ⟨Nat.le_of_ble_eq_true rfl, by assumption⟩ | exact ⟨by omega, Nat.le_of_ble_eq_true rfl⟩ | exact ⟨⟨by assumption, by omega⟩, Nat.le_of_ble_eq_true rfl⟩ | decide) ?_; conv => whnf)
                (refine And.intro (fun h => by omega) (fun h => ?_); conv => whnf)
                exact ⟨⟨fun _ => Or.inl rfl, fun w => absurd w (by decide)⟩, bad g8 hf8 hA9 rfl⟩
              · rw [if_neg h2] at hr
                generalize mnum ch L 0 10 (L - (q + 1)) (q + 1) (-5) = u at *
                obtain ⟨hu, hu2⟩ := r3.2.2 h2
                obtain ⟨o, ho⟩ : ∃ o : Nat, u.1 = (o : Int) := ⟨u.1.toNat, by omega⟩
                have p2 : 2 ^ o < 2 ^ 11 := Nat.pow_lt_pow_right (by decide) (by omega)
                have hb2 : b ||| 2 ^ o < 2 ^ 11 := Nat.or_lt_two_pow hb p2
                have o9 : g9 70 = g7 70 := by rw [hf9.1 70 (by omega), o8]
                have hf9 := hf8.trans hf9.n
                have hk9 : g9 64 (11 : Nat) = (k : Int) := by rw [hf9.2 _ (by omega) (by omega)]; exact hk
                rw [ho] at hr h99
                rw [Int.toNat_natCast] at hr
                conv => whnf
                (refine And.intro (by first | omega | assumption | rfl | exact zin_and | exact ⟨zin_and, by omega⟩ | exact ⟨by omega, zin_and⟩ | exact Nat.le_of_ble_eq_true rfl | exact ⟨Nat.le_of_ble_eq_true rfl, rfl⟩ | exact ⟨Nat.le_of_ble_eq_true rfl, by assumption⟩ | exact ⟨by omega, Nat.le_of_ble_eq_true rfl⟩ | exact ⟨⟨by assumption, by omega⟩, Nat.le_of_ble_eq_true rfl⟩ | decide) ?_; conv => whnf)
                (refine And.intro (fun h => ?_) (fun h => by omega); conv => whnf)
                (refine hK _ _ _ _ (zW.go (zC_om _) (fun K hK => ?_)); conv => whnf)
                (refine And.intro (by first | omega | assumption | rfl | exact zin_and | exact ⟨zin_and, by omega⟩ | exact ⟨by omega, zin_and⟩ | exact Nat.le_of_ble_eq_true rfl | exact ⟨Nat.le_of_ble_eq_true rfl, rfl⟩ | exact ⟨Nat.le_of_ble_eq_true rfl, by assumption⟩ | exact ⟨by omega, Nat.le_of_ble_eq_true rfl⟩ | exact ⟨⟨by assumption, by omega⟩, Nat.le_of_ble_eq_true rfl⟩ | decide) ?_; conv => whnf)
                (refine And.intro (by first | omega | assumption | rfl | exact zin_and | exact ⟨zin_and, by omega⟩ | exact ⟨by omega, zin_and⟩ | exact Nat.le_of_ble_eq_true rfl | exact ⟨Nat.le_of_ble_eq_true rfl, rfl⟩ | exact ⟨Nat.le_of_ble_eq_true rfl, by assumption⟩ | exact ⟨by omega, Nat.le_of_ble_eq_true rfl⟩ | exact ⟨⟨by assumption, by omega⟩, Nat.le_of_ble_eq_true rfl⟩ | decide) ?_; conv => whnf)
                rw [hk9]
                (refine And.intro (by first | omega | assumption | rfl | exact zin_and | exact ⟨zin_and, by omega⟩ | exact ⟨by omega, zin_and⟩ | exact Nat.le_of_ble_eq_true rfl | exact ⟨Nat.le_of_ble_eq_true rfl, rfl⟩ | exact ⟨Nat.le_of_ble_eq_true rfl, by assumption⟩ | exact ⟨by omega, Nat.le_of_ble_eq_true rfl⟩ | exact ⟨⟨by assumption, by omega⟩, Nat.le_of_ble_eq_true rfl⟩ | decide) ?_; conv => whnf)
                (refine And.intro (by first | omega | assumption | rfl | exact zin_and | exact ⟨zin_and, by omega⟩ | exact ⟨by omega, zin_and⟩ | exact Nat.le_of_ble_eq_true rfl | exact ⟨Nat.le_of_ble_eq_true rfl, rfl⟩ | exact ⟨Nat.le_of_ble_eq_true rfl, by assumption⟩ | exact ⟨by omega, Nat.le_of_ble_eq_true rfl⟩ | exact ⟨⟨by assumption, by omega⟩, Nat.le_of_ble_eq_true rfl⟩ | decide) ?_; conv => whnf)
                rw [h99, o9, hb7, zone_shl (by omega), zor_nat (by omega) (by omega)]
                (refine And.intro (by first | omega | assumption | rfl | exact zin_and | exact ⟨zin_and, by omega⟩ | exact ⟨by omega, zin_and⟩ | exact Nat.le_of_ble_eq_true rfl | exact ⟨Nat.le_of_ble_eq_true rfl, rfl⟩ | exact ⟨Nat.le_of_ble_eq_true rfl, by assumption⟩ | exact ⟨by omega, Nat.le_of_ble_eq_true rfl⟩ | exact ⟨⟨by assumption, by omega⟩, Nat.le_of_ble_eq_true rfl⟩ | decide) ?_; conv => whnf)
                refine hK _ _ _ _ (ih u.2 (b ||| 2 ^ o) _ hA9.2.2.1 (by omega) (hf9.trans FrN.up) hA9.up (fun i c1 c2 c3 => ?_) ?_ ?_ ?_ hb2 hr)
                · rw [zup_i c3, o9]; exact ho7 i c1 c2 c3
                · rw [zup_i (by omega), o9]; exact hw7
                · rw [zup_i (by omega), o9]; exact hv7
                · exact zup_s
            · rw [if_neg hh] at hr
              have fin := fin q b g7 hf7 hA7 ho7 hw7 hv7 hb7 hr.symm
              (refine zW.go (zC_om _) (fun K hK => ?_); conv => whnf)
              (refine And.intro (by first | omega | assumption | rfl | exact zin_and | exact ⟨zin_and, by omega⟩ | exact ⟨by omega, zin_and⟩ | exact Nat.le_of_ble_eq_true rfl | exact ⟨Nat.le_of_ble_eq_true rfl, rfl⟩ | exact ⟨Nat.le_of_ble_eq_true rfl, by assumption⟩ | exact ⟨by omega, Nat.le_of_ble_eq_true rfl⟩ | exact ⟨⟨by assumption, by omega⟩, Nat.le_of_ble_eq_true rfl⟩ | decide) ?_; conv => whnf)
              (refine m_tk e7 hA7 (by omega) (fun w w2 => absurd ⟨w, w2⟩ hh) (fun _ => ?_); conv => whnf)
              (refine And.intro (by first | omega | assumption | rfl | exact zin_and | exact ⟨zin_and, by omega⟩ | exact ⟨by omega, zin_and⟩ | exact Nat.le_of_ble_eq_true rfl | exact ⟨Nat.le_of_ble_eq_true rfl, rfl⟩ | exact ⟨Nat.le_of_ble_eq_true rfl, by assumption⟩ | exact ⟨by omega, Nat.le_of_ble_eq_true rfl⟩ | exact ⟨⟨by assumption, by omega⟩, Nat.le_of_ble_eq_true rfl⟩ | decide) ?_; conv => whnf)
              (refine And.intro (fun h => ?_) (fun h => by omega); conv => whnf)
              exact hK _ _ _ _ fin
        exact hK _ _ _ _ (loop (L - y.2) y.2 0 g6 hAu6.2.2.1 (by omega) hfu6 hAu6 ho6 hw6 hv6 hb6 (by omega) hres)
    · rw [if_neg hno] at hres
      subst hres
      conv => whnf
      (refine And.intro (by first | omega | assumption | rfl | exact zin_and | exact ⟨zin_and, by omega⟩ | exact ⟨by omega, zin_and⟩ | exact Nat.le_of_ble_eq_true rfl | exact ⟨Nat.le_of_ble_eq_true rfl, rfl⟩ | exact ⟨Nat.le_of_ble_eq_true rfl, by assumption⟩ | exact ⟨by omega, Nat.le_of_ble_eq_true rfl⟩ | exact ⟨⟨by assumption, by omega⟩, Nat.le_of_ble_eq_true rfl⟩ | decide) ?_; conv => whnf)
      (refine And.intro (fun h => by omega) (fun h => ?_); conv => whnf)
      exact ⟨⟨fun _ => Or.inl rfl, fun w => absurd w (by decide)⟩, bad g2 hfu hAu rfl⟩
theorem m_isText {ch : Int → Int} {L : Nat} {res : Bool × Nat × (Nat → zT) × Nat} (hc : g 69 = ch) (h7 : g 64 (7 : Nat) = (L : Int)) (hL : L ≤ 80) (hcs : ∀ i : Nat, i < L → 0 ≤ g 69 i ∧ g 69 i < 65536) (hres : mtx ch L (L + 1) 0 0 (fun _ => (0, 0, 0)) = res)
    (hQ : ∀ g' : zM, FT g g' → g' 64 (8 : Nat) = (res.2.2.2 : Int) → (res.1 = true → g' 64 (11 : Nat) = (res.2.1 : Int) ∧ RowsM g' res.2.1 res.2.2.1) → Q (some (zI (if res.1 = true ∧ ¬ res.2.2.2 < L then 1 else 0))) g') : zC (d + 5) 136 [zR 64] g Q := by
  have k64 := zkd64
  refine zC.go zm_X6_isText ⟨rfl, rfl⟩ rfl ?_
  have fin : ∀ (q k : Nat) (T : Nat → zT) (g1 : zM), FT g g1 → AtM g1 L q → g1 64 (11 : Nat) = (k : Int) → RowsM g1 k T → res = (true, k, T, q) → zW zX6_isText (zC (d + 4)) Q 8 [zR 64, zI 0] [] g1 := by
    intro q k T g1 hf hA hk hT e
    have hh := hQ g1 hf (by rw [e]; exact hA.2.1) (fun _ => by rw [e]; exact ⟨hk, hT⟩)
    rw [e] at hh
    have hq := hA.2.2.1
    (refine zW.go (zC_om _) (fun K hK => ?_); conv => whnf)
    (refine And.intro (by first | omega | assumption | rfl | exact zin_and | exact ⟨zin_and, by omega⟩ | exact ⟨by omega, zin_and⟩ | exact Nat.le_of_ble_eq_true rfl | exact ⟨Nat.le_of_ble_eq_true rfl, rfl⟩ | exact ⟨Nat.le_of_ble_eq_true rfl, by assumption⟩ | exact ⟨by omega, Nat.le_of_ble_eq_true rfl⟩ | exact ⟨⟨by assumption, by omega⟩, Nat.le_of_ble_eq_true rfl⟩ | decide) ?_; conv => whnf)
    (refine And.intro (fun h => ?_) (fun h => by omega); conv => whnf)
    (refine hK _ _ _ _ (zW.go (zC_om _) (fun K hK => ?_)); conv => whnf)
    (refine And.intro (by first | omega | assumption | rfl | exact zin_and | exact ⟨zin_and, by omega⟩ | exact ⟨by omega, zin_and⟩ | exact Nat.le_of_ble_eq_true rfl | exact ⟨Nat.le_of_ble_eq_true rfl, rfl⟩ | exact ⟨Nat.le_of_ble_eq_true rfl, by assumption⟩ | exact ⟨by omega, Nat.le_of_ble_eq_true rfl⟩ | exact ⟨⟨by assumption, by omega⟩, Nat.le_of_ble_eq_true rfl⟩ | decide) ?_; conv => whnf)
    rw [hA.2.1]
    (refine And.intro (by first | omega | assumption | rfl | exact zin_and | exact ⟨zin_and, by omega⟩ | exact ⟨by omega, zin_and⟩ | exact Nat.le_of_ble_eq_true rfl | exact ⟨Nat.le_of_ble_eq_true rfl, rfl⟩ | exact ⟨Nat.le_of_ble_eq_true rfl, by assumption⟩ | exact ⟨by omega, Nat.le_of_ble_eq_true rfl⟩ | exact ⟨⟨by assumption, by omega⟩, Nat.le_of_ble_eq_true rfl⟩ | decide) ?_; conv => whnf)
    rw [hA.1]
    (refine And.intro (by first | omega | assumption | rfl | exact zin_and | exact ⟨zin_and, by omega⟩ | exact ⟨by omega, zin_and⟩ | exact Nat.le_of_ble_eq_true rfl | exact ⟨Nat.le_of_ble_eq_true rfl, rfl⟩ | exact ⟨Nat.le_of_ble_eq_true rfl, by assumption⟩ | exact ⟨by omega, Nat.le_of_ble_eq_true rfl⟩ | exact ⟨⟨by assumption, by omega⟩, Nat.le_of_ble_eq_true rfl⟩ | decide) ?_; conv => whnf)
    by_cases c : q = L
    · (refine And.intro (fun h => by omega) (fun h => ?_); conv => whnf)
      refine hK _ _ _ _ (zW.go (zC_om _) (fun K hK => ?_))
      conv => whnf
      refine ⟨⟨fun _ => Or.inr rfl, fun w => absurd w (by decide)⟩, zQe hh ?_⟩
      rw [if_pos ⟨rfl, by show ¬ q < L; omega⟩]
    · (refine And.intro (fun h => ?_) (fun h => by omega); conv => whnf)
      (refine hK _ _ _ _ (zW.go (zC_om _) (fun K hK => ?_)); conv => whnf)
      refine ⟨⟨fun _ => Or.inl rfl, fun w => absurd w (by decide)⟩, zQe hh ?_⟩
      rw [if_neg (fun w => w.2 (show q < L by omega))]
  have loop : ∀ (f q k : Nat) (T : Nat → zT) (g1 : zM), q ≤ L → L < q + f → 4 * k ≤ q → FT g g1 → AtM g1 L q → g1 64 (11 : Nat) = (k : Int) → RowsM g1 k T → mtx ch L f q k T = res → zW zX6_isText (zC (d + 4)) Q 8 [zR 64, zI 1] [] g1 := by
    intro f
    induction f with
    | zero => intro q k T g1 hq hf; exact absurd hf (by omega)
    | succ f ih =>
      intro q k T g1 hq hqf hkq hf hA hk hT hr
      rw [mtx] at hr
      have rg := mpt_rng (ch := ch) (L := L) hq
      have e1 : g1 69 = ch := by rw [hf.1 69 (by omega) (by omega)]; exact hc
      (refine zW.go (zC_om _) (fun K hK => ?_); conv => whnf)
      (refine And.intro (by first | omega | assumption | rfl | exact zin_and | exact ⟨zin_and, by omega⟩ | exact ⟨by omega, zin_and⟩ | exact Nat.le_of_ble_eq_true rfl | exact ⟨Nat.le_of_ble_eq_true rfl, rfl⟩ | exact ⟨Nat.le_of_ble_eq_true rfl, by assumption⟩ | exact ⟨by omega, Nat.le_of_ble_eq_true rfl⟩ | exact ⟨⟨by assumption, by omega⟩, Nat.le_of_ble_eq_true rfl⟩ | decide) ?_; conv => whnf)
      (refine And.intro (fun h => by omega) (fun h => ?_); conv => whnf)
      (refine And.intro (by first | omega | assumption | rfl | exact zin_and | exact ⟨zin_and, by omega⟩ | exact ⟨by omega, zin_and⟩ | exact Nat.le_of_ble_eq_true rfl | exact ⟨Nat.le_of_ble_eq_true rfl, rfl⟩ | exact ⟨Nat.le_of_ble_eq_true rfl, by assumption⟩ | exact ⟨by omega, Nat.le_of_ble_eq_true rfl⟩ | exact ⟨⟨by assumption, by omega⟩, Nat.le_of_ble_eq_true rfl⟩ | decide) ?_; conv => whnf)
      (refine m_isPart e1 hA hk (by omega) rfl (fun g2 hf2 hA2 hrow => ?_); conv => whnf)
      generalize mpt ch L q = x at *
      have hk2 : g2 64 (11 : Nat) = (k : Int) := by rw [hf2.2 _ (by omega) (by omega)]; exact hk
      have hfg2 : FT g g2 := ⟨fun j a b => by rw [hf2.1 j a b, hf.1 j a b], fun j a b c => by rw [hf2.2 j a b, hf.2 j a b c]⟩
      have e2 : g2 69 = ch := by rw [hfg2.1 69 (by omega) (by omega)]; exact hc
      by_cases h1 : x.1 = false
      · rw [if_pos h1] at hr
        subst hr
        have hh := hQ g2 hfg2 hA2.2.1 (fun w => zft w)
        rw [h1, zb_f]
        (refine And.intro (by first | omega | assumption | rfl | exact zin_and | exact ⟨zin_and, by omega⟩ | exact ⟨by omega, zin_and⟩ | exact Nat.le_of_ble_eq_true rfl | exact ⟨Nat.le_of_ble_eq_true rfl, rfl⟩ | exact ⟨Nat.le_of_ble_eq_true rfl, by assumption⟩ | exact ⟨by omega, Nat.le_of_ble_eq_true rfl⟩ | exact ⟨⟨by assumption, by omega⟩, Nat.le_of_ble_eq_true rfl⟩ | decide) ?_; conv => whnf)
        (refine And.intro (fun h => by omega) (fun h => ?_); conv => whnf)
        refine ⟨⟨fun _ => Or.inl rfl, fun w => absurd w (by decide)⟩, zQe hh ?_⟩
        rw [if_neg (fun w => zft w.1)]
      · have h1 : x.1 = true := by simpa using h1
        rw [if_neg (by rw [h1]; decide)] at hr
        have hrow := hrow h1
        have rg2 := (rg.2 h1).2
        have hT2 : ∀ g3 : zM, g3 70 = g2 70 → RowsM g3 (k + 1) (zTu T k x.2.1) := by
          intro g3 a70 i hi
          rw [a70]
          by_cases c : i = k
          · subst c
            rw [zTu_s]
            exact hrow.2
          · rw [zTu_n c, hrow.1 _ (by omega), hrow.1 _ (by omega), hrow.1 _ (by omega)]
            exact hT i (by omega)
        rw [h1, zb_t]
        (refine And.intro (by first | omega | assumption | rfl | exact zin_and | exact ⟨zin_and, by omega⟩ | exact ⟨by omega, zin_and⟩ | exact Nat.le_of_ble_eq_true rfl | exact ⟨Nat.le_of_ble_eq_true rfl, rfl⟩ | exact ⟨Nat.le_of_ble_eq_true rfl, by assumption⟩ | exact ⟨by omega, Nat.le_of_ble_eq_true rfl⟩ | exact ⟨⟨by assumption, by omega⟩, Nat.le_of_ble_eq_true rfl⟩ | decide) ?_; conv => whnf)
        (refine And.intro (fun h => ?_) (fun h => by omega); conv => whnf)
        (refine hK _ _ _ _ (zW.go (zC_om _) (fun K hK => ?_)); conv => whnf)
        (refine And.intro (by first | omega | assumption | rfl | exact zin_and | exact ⟨zin_and, by omega⟩ | exact ⟨by omega, zin_and⟩ | exact Nat.le_of_ble_eq_true rfl | exact ⟨Nat.le_of_ble_eq_true rfl, rfl⟩ | exact ⟨Nat.le_of_ble_eq_true rfl, by assumption⟩ | exact ⟨by omega, Nat.le_of_ble_eq_true rfl⟩ | exact ⟨⟨by assumption, by omega⟩, Nat.le_of_ble_eq_true rfl⟩ | decide) ?_; conv => whnf)
        rw [hk2]
        (refine And.intro ⟨by assumption, fun w => absurd w (by decide)⟩ ?_; conv => whnf)
        have hf3 : FT g (zup g2 64 (11 : Nat) (k + 1)) := ⟨fun j a b => by rw [zup_ne a]; exact hfg2.1 j a b, fun j a b c => by rw [zup_i (show j ≠ ((11 : Nat) : Int) from c)]; exact hfg2.2 j a b c⟩
        have hA3 : AtM (zup g2 64 (11 : Nat) (k + 1)) L x.2.2 := ⟨by rw [zup_i (by decide)]; exact hA2.1, by rw [zup_i (by decide)]; exact hA2.2.1, hA2.2.2.1, hL, by rw [zup_ne (by decide)]; exact hA2.2.2.2.2⟩
        have o3 : (zup g2 64 (11 : Nat) (k + 1)) 70 = g2 70 := zup_ne (by decide)
        have hk3 : (zup g2 64 (11 : Nat) (k + 1)) 64 (11 : Nat) = ((k + 1 : Nat) : Int) := by rw [zup_s]; rfl
        generalize zup g2 64 (11 : Nat) (k + 1) = g3 at *
        have e3 : g3 69 = ch := by rw [hf3.1 69 (by omega) (by omega)]; exact hc
        (refine And.intro (by first | omega | assumption | rfl | exact zin_and | exact ⟨zin_and, by omega⟩ | exact ⟨by omega, zin_and⟩ | exact Nat.le_of_ble_eq_true rfl | exact ⟨Nat.le_of_ble_eq_true rfl, rfl⟩ | exact ⟨Nat.le_of_ble_eq_true rfl, by assumption⟩ | exact ⟨by omega, Nat.le_of_ble_eq_true rfl⟩ | exact ⟨⟨by assumption, by omega⟩, Nat.le_of_ble_eq_true rfl⟩ | decide) ?_; conv => whnf)
        refine m_tk e3 hA3 (by omega) (fun hp hcc => ?_) (fun hno => ?_)
        · rw [if_pos ⟨hp, hcc⟩] at hr
          conv => whnf
          (refine And.intro (by first | omega | assumption | rfl | exact zin_and | exact ⟨zin_and, by omega⟩ | exact ⟨by omega, zin_and⟩ | exact Nat.le_of_ble_eq_true rfl | exact ⟨Nat.le_of_ble_eq_true rfl, rfl⟩ | exact ⟨Nat.le_of_ble_eq_true rfl, by assumption⟩ | exact ⟨by omega, Nat.le_of_ble_eq_true rfl⟩ | exact ⟨⟨by assumption, by omega⟩, Nat.le_of_ble_eq_true rfl⟩ | decide) ?_; conv => whnf)
          rw [hA3.2.1]
          (refine And.intro (by first | omega | assumption | rfl | exact zin_and | exact ⟨zin_and, by omega⟩ | exact ⟨by omega, zin_and⟩ | exact Nat.le_of_ble_eq_true rfl | exact ⟨Nat.le_of_ble_eq_true rfl, rfl⟩ | exact ⟨Nat.le_of_ble_eq_true rfl, by assumption⟩ | exact ⟨by omega, Nat.le_of_ble_eq_true rfl⟩ | exact ⟨⟨by assumption, by omega⟩, Nat.le_of_ble_eq_true rfl⟩ | decide) ?_; conv => whnf)
          (refine And.intro (fun h => by omega) (fun h => ?_); conv => whnf)
          refine hK _ _ _ _ (zW.go (zC_om _) (fun K hK => ?_))
          conv => whnf
          (refine And.intro ⟨by assumption, fun w => absurd w (by decide)⟩ ?_; conv => whnf)
          obtain ⟨hf4, hA4⟩ := hA3.step hp
          refine hK _ _ _ _ (ih (x.2.2 + 1) (k + 1) _ _ (by omega) (by omega) (by omega) ⟨fun j a b => ?_, fun j a b c => ?_⟩ hA4 ?_ (hT2 _ ?_) hr)
          · rw [zup_ne a]; exact hf3.1 j a b
          · rw [zup_i (show j ≠ ((8 : Nat) : Int) from a)]; exact hf3.2 j a b c
          · rw [zup_i (by decide)]; exact hk3
          · rw [zup_ne (by decide)]; exact o3
        · rw [if_neg hno] at hr
          conv => whnf
          (refine And.intro (by first | omega | assumption | rfl | exact zin_and | exact ⟨zin_and, by omega⟩ | exact ⟨by omega, zin_and⟩ | exact Nat.le_of_ble_eq_true rfl | exact ⟨Nat.le_of_ble_eq_true rfl, rfl⟩ | exact ⟨Nat.le_of_ble_eq_true rfl, by assumption⟩ | exact ⟨by omega, Nat.le_of_ble_eq_true rfl⟩ | exact ⟨⟨by assumption, by omega⟩, Nat.le_of_ble_eq_true rfl⟩ | decide) ?_; conv => whnf)
          rw [hA3.2.1]
          (refine And.intro (by first | omega | assumption | rfl | exact zin_and | exact ⟨zin_and, by omega⟩ | exact ⟨by omega, zin_and⟩ | exact Nat.le_of_ble_eq_true rfl | exact ⟨Nat.le_of_ble_eq_true rfl, rfl⟩ | exact ⟨Nat.le_of_ble_eq_true rfl, by assumption⟩ | exact ⟨by omega, Nat.le_of_ble_eq_true rfl⟩ | exact ⟨⟨by assumption, by omega⟩, Nat.le_of_ble_eq_true rfl⟩ | decide) ?_; conv => whnf)
          (refine And.intro (fun h => ?_) (fun h => by omega); conv => whnf)
          (refine hK _ _ _ _ (zW.go (zC_om _) (fun K hK => ?_)); conv => whnf)
          (refine And.intro ⟨by assumption, fun w => absurd w (by decide)⟩ ?_; conv => whnf)
          refine hK _ _ _ _ (fin x.2.2 (k + 1) _ _ ⟨fun j a b => ?_, fun j a b c => ?_⟩ ⟨?_, ?_, hA3.2.2.1, hL, ?_⟩ ?_ (hT2 _ ?_) hr.symm)
          · rw [zup_ne a]; exact hf3.1 j a b
          · rw [zup_i (show j ≠ ((8 : Nat) : Int) from a)]; exact hf3.2 j a b c
          · rw [zup_i (by decide)]; exact hA3.1
          · rw [zup_s, Int.add_zero]
          · rw [zup_ne (by decide)]; exact hA3.2.2.2.2
          · rw [zup_i (by decide)]; exact hk3
          · rw [zup_ne (by decide)]; exact o3
  (refine zW.upto (zC_om _) 8 (fun K hK => ?_); conv => whnf)
  (refine And.intro ⟨by assumption, fun w => absurd w (by decide)⟩ ?_; conv => whnf)
  (refine And.intro ⟨by assumption, fun w => absurd w (by decide)⟩ ?_; conv => whnf)
  refine hK _ _ _ _ (loop (L + 1) 0 0 _ _ (by omega) (by omega) (by omega) ⟨fun j a b => ?_, fun j a b c => ?_⟩ ⟨?_, ?_, by omega, hL, ?_⟩ ?_ (fun i hi => absurd hi (by omega)) hres)
  · rw [zup_ne a, zup_ne a]
  · rw [zup_i (show j ≠ ((11 : Nat) : Int) from c), zup_i (show j ≠ ((8 : Nat) : Int) from a)]
  · rw [zup_i (by decide), zup_i (by decide)]; exact h7
  · rw [zup_i (by decide), zup_s]; rfl
  · rw [zup_ne (by omega), zup_ne (by omega)]; exact hcs
  · rw [zup_s]; rfl
end PMT
