/-! the law's act -/
def yAct (s : zS) (n m z : Nat) (gv : Prop) (so : Int) (g g' : zM) (r : Int) : Prop := g' 72 = g 72 ∧ (-9 ≤ r ∧ r < 100000) ∧ ∃ (s' : zS) (n' m' z' : Nat), yK g' s' n' m' z' ∧ (r < 0 → s' = s ∧ n' = n ∧ m' = m ∧ z' = z) ∧ (0 ≤ r → z' = pushz z) ∧ yTr s' n' m' ((so = 17 ∧ 0 ≤ r) ∨ (gv ∧ ¬ (7 < so ∧ so < 12 ∧ 0 ≤ r))) ∧ (12 ≤ so → so ≤ 16 → 0 ≤ r → s' 6 = s 6 + r ∧ s 7 ≤ s' 7 ∧ m ≠ 0 ∧ m' ≠ 0)
theorem yAct.err {s : zS} {n m z : Nat} {gv : Prop} {so : Int} {g g' : zM} {r : Int} (hr : -9 ≤ r ∧ r < 0) (h72 : g' 72 = g 72) (hk : yK g' s n m z) (hT : yTr s n m gv) : yAct s n m z gv so g g' r :=
  ⟨h72, by omega, s, n, m, z, hk, fun _ => ⟨rfl, rfl, rfl, rfl⟩, fun w => absurd w (by omega), hT.imp (fun w => Or.inr ⟨w, fun q => by omega⟩), fun _ _ w => absurd w (by omega)⟩
theorem yAct.none {s s' : zS} {n m z n' : Nat} {gv : Prop} {so : Int} {g g' : zM} {r : Int} (hso : so < 12) (hr : 0 ≤ r ∧ r < 100000) (h72 : g' 72 = g 72) (hk : yK g' s' n' 0 (pushz z)) : yAct s n m z gv so g g' r :=
  ⟨h72, by omega, s', n', 0, pushz z, hk, fun w => absurd w (by omega), fun _ => rfl, Or.inl rfl, fun w => absurd w (by omega)⟩
section YT
variable {g : zM} {d : Nat} {Q : zP} {s : zS} {n m z : Nat} {gv : Prop}
theorem zin_shr {x y : Int} : zin (zshr x y) := ⟨Int32.le_toInt _, Int32.toInt_lt _⟩
set_option maxHeartbeats 2000000 in
theorem w_act {k : Int} (hk : yK g s n m z) (hT : yTr s n m gv) (hk0 : 0 ≤ k ∧ k ≤ 66) (hQ : ∀ (r : Int) (g' : zM), yAct s n m z gv (ylow (g 72 k) 20) g g' r → Q (some (zI r)) g') : zC (d + 14) 155 [zR 0, zR 72, zI k] g Q := by
  have k0 := zkd0
  have hw := hk.1
  have hn := hw.n12
  obtain ⟨so, hso, hso20⟩ := ylow_rng (v := g 72 k) (n := 20) (by decide) (by decide)
  have hso : ylow (g 72 k) 20 = (so : Int) := hso
  rw [hso] at hQ
  refine zC.go zm_L_act ⟨rfl, rfl⟩ rfl ?_
  generalize hb : g 72 (k + 1) = b
  have E : ∀ r : Int, -9 ≤ r → r < 0 → Q (some (zI r)) g := fun r h1 h2 => hQ r g (yAct.err ⟨h1, h2⟩ rfl hk hT)
  have N : so < 12 → ∀ (r : Int) (g' : zM) (s' : zS) (n' : Nat), 0 ≤ r → r < 100000 → yfr g g' → yK g' s' n' 0 (pushz z) → Q (some (zI r)) g' := fun h r g' s' n' h1 h2 h3 h4 => hQ r g' (yAct.none (by omega) ⟨h1, h2⟩ (h3 72 (by omega) (by omega)) h4)
  -- sets
  have jset : so = 6 ∨ so = 7 → zW zL_act (zC (d + 13)) Q 77 [zR 0, zR 72, zI k, zI b, zI n] [] g := by
    intro hs
    obtain ⟨x, hx, hx2⟩ := ylow_rng (v := b) (n := 2) (by decide) (by decide)
    obtain ⟨y, hy, hy3⟩ := ylow_rng (v := zshr b 1) (n := 3) (by decide) (by decide)
    (refine zW.go (zC_om _) (fun K hK => ?_); conv => whnf)
    (refine And.intro (by first | omega | assumption | rfl | exact zin_and | exact ⟨zin_and, by omega⟩ | exact ⟨by omega, zin_and⟩ | exact Nat.le_of_ble_eq_true rfl | exact ⟨Nat.le_of_ble_eq_true rfl, rfl⟩ | exact ⟨Nat.le_of_ble_eq_true rfl, by assumption⟩ | exact ⟨by omega, Nat.le_of_ble_eq_true rfl⟩ | exact ⟨⟨by assumption, by omega⟩, Nat.le_of_ble_eq_true rfl⟩ | decide) ?_; conv => whnf)
    (refine w_low (k := 2) (by decide) (by decide) ?_; conv => whnf)
    rw [hx]
    (refine And.intro (by first | omega | assumption | rfl | exact zin_and | exact ⟨zin_and, by omega⟩ | exact ⟨by omega, zin_and⟩ | exact Nat.le_of_ble_eq_true rfl | exact ⟨Nat.le_of_ble_eq_true rfl, rfl⟩ | exact ⟨Nat.le_of_ble_eq_true rfl, by assumption⟩ | exact ⟨by omega, Nat.le_of_ble_eq_true rfl⟩ | exact ⟨⟨by assumption, by omega⟩, Nat.le_of_ble_eq_true rfl⟩ | decide) ?_; conv => whnf)
    (refine w_low (k := 3) (by decide) (by decide) ?_; conv => whnf)
    rw [hy]
    (refine And.intro (by first | omega | assumption | rfl | exact zin_and | exact ⟨zin_and, by omega⟩ | exact ⟨by omega, zin_and⟩ | exact Nat.le_of_ble_eq_true rfl | exact ⟨Nat.le_of_ble_eq_true rfl, rfl⟩ | exact ⟨Nat.le_of_ble_eq_true rfl, by assumption⟩ | exact ⟨by omega, Nat.le_of_ble_eq_true rfl⟩ | exact ⟨⟨by assumption, by omega⟩, Nat.le_of_ble_eq_true rfl⟩ | decide) ?_; conv => whnf)
    refine a_set hk (x := (x : Int)) (y := (y : Int)) (by omega) (by omega) (fun r h1 h2 => ?_) (fun r g' h1 h2 h3 h4 => ?_)
    · exact ⟨⟨fun w => absurd w (by decide), fun w => absurd w (by decide)⟩, E r h1 h2⟩
    · refine ⟨⟨fun w => absurd w (by decide), fun w => absurd w (by decide)⟩, hQ r g' ⟨h3 72 (by omega) (by omega), by omega, _, n, m, pushz z, h4, fun w => absurd w (by omega), fun _ => rfl, (hT.set hn (by omega)).imp (fun w => Or.inr ⟨w, fun q => by omega⟩), fun w => absurd w (by omega)⟩⟩
  have jadd : so < 2 → zW zL_act (zC (d + 13)) Q 16 [zR 0, zR 72, zI k, zI b, zI n] [] g := by
    intro hs
    obtain ⟨x, hx, hx2⟩ := ylow_rng (v := b) (n := 99) (by decide) (by decide)
    obtain ⟨y, hy, hy3⟩ := ylow_rng (v := zshr b 8) (n := 20) (by decide) (by decide)
    (refine zW.go (zC_om _) (fun K hK => ?_); conv => whnf)
    (refine And.intro (by first | omega | assumption | rfl | exact zin_and | exact ⟨zin_and, by omega⟩ | exact ⟨by omega, zin_and⟩ | exact Nat.le_of_ble_eq_true rfl | exact ⟨Nat.le_of_ble_eq_true rfl, rfl⟩ | exact ⟨Nat.le_of_ble_eq_true rfl, by assumption⟩ | exact ⟨by omega, Nat.le_of_ble_eq_true rfl⟩ | exact ⟨⟨by assumption, by omega⟩, Nat.le_of_ble_eq_true rfl⟩ | decide) ?_; conv => whnf)
    by_cases c : n < 7
    · (refine And.intro (fun h => by omega) (fun h => ?_); conv => whnf)
      (refine And.intro (by first | omega | assumption | rfl | exact zin_and | exact ⟨zin_and, by omega⟩ | exact ⟨by omega, zin_and⟩ | exact Nat.le_of_ble_eq_true rfl | exact ⟨Nat.le_of_ble_eq_true rfl, rfl⟩ | exact ⟨Nat.le_of_ble_eq_true rfl, by assumption⟩ | exact ⟨by omega, Nat.le_of_ble_eq_true rfl⟩ | exact ⟨⟨by assumption, by omega⟩, Nat.le_of_ble_eq_true rfl⟩ | decide) ?_; conv => whnf)
      (refine w_low (k := 99) (by decide) (by decide) ?_; conv => whnf)
      rw [hx]
      (refine And.intro (by first | omega | assumption | rfl | exact zin_and | exact ⟨zin_and, by omega⟩ | exact ⟨by omega, zin_and⟩ | exact Nat.le_of_ble_eq_true rfl | exact ⟨Nat.le_of_ble_eq_true rfl, rfl⟩ | exact ⟨Nat.le_of_ble_eq_true rfl, by assumption⟩ | exact ⟨by omega, Nat.le_of_ble_eq_true rfl⟩ | exact ⟨⟨by assumption, by omega⟩, Nat.le_of_ble_eq_true rfl⟩ | decide) ?_; conv => whnf)
      (refine w_low (k := 20) (by decide) (by decide) ?_; conv => whnf)
      rw [hy]
      (refine And.intro (by first | omega | assumption | rfl | exact zin_and | exact ⟨zin_and, by omega⟩ | exact ⟨by omega, zin_and⟩ | exact Nat.le_of_ble_eq_true rfl | exact ⟨Nat.le_of_ble_eq_true rfl, rfl⟩ | exact ⟨Nat.le_of_ble_eq_true rfl, by assumption⟩ | exact ⟨by omega, Nat.le_of_ble_eq_true rfl⟩ | exact ⟨⟨by assumption, by omega⟩, Nat.le_of_ble_eq_true rfl⟩ | decide) ?_; conv => whnf)
      refine a_add hk (by omega) (by omega) (fun r h1 h2 => ?_) (fun r g' s' n' h1 h2 h3 h4 => ?_)
      · conv => whnf
        refine hK _ _ _ _ (zW.go (zC_om _) (fun K hK => ?_))
        conv => whnf
        exact ⟨⟨fun w => absurd w (by decide), fun w => absurd w (by decide)⟩, E r h1 h2⟩
      · conv => whnf
        refine hK _ _ _ _ (zW.go (zC_om _) (fun K hK => ?_))
        conv => whnf
        exact ⟨⟨fun w => absurd w (by decide), fun w => absurd w (by decide)⟩, N (by omega) r g' s' n' h1 h2 h3 h4⟩
    · (refine And.intro (fun h => ?_) (fun h => by omega); conv => whnf)
      (refine hK _ _ _ _ (zW.go (zC_om _) (fun K hK => ?_)); conv => whnf)
      exact ⟨⟨fun w => absurd w (by decide), fun w => absurd w (by decide)⟩, E _ (by omega) (by omega)⟩
  have jbar : so < 12 → zW zL_act (zC (d + 13)) Q 46 [zR 0, zR 72, zI k, zI b, zI n] [] g := by
    intro hs
    (refine zW.go (zC_om _) (fun K hK => ?_); conv => whnf)
    (refine And.intro (by first | omega | assumption | rfl | exact zin_and | exact ⟨zin_and, by omega⟩ | exact ⟨by omega, zin_and⟩ | exact Nat.le_of_ble_eq_true rfl | exact ⟨Nat.le_of_ble_eq_true rfl, rfl⟩ | exact ⟨Nat.le_of_ble_eq_true rfl, by assumption⟩ | exact ⟨by omega, Nat.le_of_ble_eq_true rfl⟩ | exact ⟨⟨by assumption, by omega⟩, Nat.le_of_ble_eq_true rfl⟩ | decide) ?_; conv => whnf)
    by_cases c : n < 2
    · (refine And.intro (fun h => by omega) (fun h => ?_); conv => whnf)
      (refine hK _ _ _ _ (zW.go (zC_om _) (fun K hK => ?_)); conv => whnf)
      exact ⟨⟨fun w => absurd w (by decide), fun w => absurd w (by decide)⟩, E _ (by omega) (by omega)⟩
    · obtain ⟨x, hx, hx2⟩ := ylow_rng (v := b) (n := n) (by omega) (by omega)
      obtain ⟨y, hy, hy2⟩ := ylow_rng (v := zshr b 4) (n := n) (by omega) (by omega)
      obtain ⟨v, hv, hv3⟩ := ylow_rng (v := zshr b 8) (n := 3) (by decide) (by decide)
      have j69 : ∀ q : Int, q = 0 ∨ q = 1 → zW zL_act (zC (d + 13)) Q 69 [zR 0, zR 72, zI k, zI b, zI n] [zI q, zI y, zI x, zR 0] g := by
        intro q hq
        (refine zW.go (zC_om _) (fun K hK => ?_); conv => whnf)
        (refine And.intro (by first | omega | assumption | rfl | exact zin_and | exact ⟨zin_and, by omega⟩ | exact ⟨by omega, zin_and⟩ | exact Nat.le_of_ble_eq_true rfl | exact ⟨Nat.le_of_ble_eq_true rfl, rfl⟩ | exact ⟨Nat.le_of_ble_eq_true rfl, by assumption⟩ | exact ⟨by omega, Nat.le_of_ble_eq_true rfl⟩ | exact ⟨⟨by assumption, by omega⟩, Nat.le_of_ble_eq_true rfl⟩ | decide) ?_; conv => whnf)
        refine a_bar hk (x := (x : Int)) (y := (y : Int)) (by omega) (by omega) hq (fun r h1 h2 => ?_) (fun r g' s' n' h1 h2 h3 h4 => ?_)
        · exact ⟨⟨fun w => absurd w (by decide), fun w => absurd w (by decide)⟩, E r h1 h2⟩
        · exact ⟨⟨fun w => absurd w (by decide), fun w => absurd w (by decide)⟩, N hs r g' s' n' h1 h2 h3 h4⟩
      (refine And.intro (fun h => ?_) (fun h => by omega); conv => whnf)
      (refine hK _ _ _ _ (zW.go (zC_om _) (fun K hK => ?_)); conv => whnf)
      (refine And.intro (by first | omega | assumption | rfl | exact zin_and | exact ⟨zin_and, by omega⟩ | exact ⟨by omega, zin_and⟩ | exact Nat.le_of_ble_eq_true rfl | exact ⟨Nat.le_of_ble_eq_true rfl, rfl⟩ | exact ⟨Nat.le_of_ble_eq_true rfl, by assumption⟩ | exact ⟨by omega, Nat.le_of_ble_eq_true rfl⟩ | exact ⟨⟨by assumption, by omega⟩, Nat.le_of_ble_eq_true rfl⟩ | decide) ?_; conv => whnf)
      (refine w_low (k := n) (by omega) (by omega) ?_; conv => whnf)
      rw [hx]
      (refine And.intro (by first | omega | assumption | rfl | exact zin_and | exact ⟨zin_and, by omega⟩ | exact ⟨by omega, zin_and⟩ | exact Nat.le_of_ble_eq_true rfl | exact ⟨Nat.le_of_ble_eq_true rfl, rfl⟩ | exact ⟨Nat.le_of_ble_eq_true rfl, by assumption⟩ | exact ⟨by omega, Nat.le_of_ble_eq_true rfl⟩ | exact ⟨⟨by assumption, by omega⟩, Nat.le_of_ble_eq_true rfl⟩ | decide) ?_; conv => whnf)
      (refine w_low (k := n) (by omega) (by omega) ?_; conv => whnf)
      rw [hy]
      (refine And.intro (by first | omega | assumption | rfl | exact zin_and | exact ⟨zin_and, by omega⟩ | exact ⟨by omega, zin_and⟩ | exact Nat.le_of_ble_eq_true rfl | exact ⟨Nat.le_of_ble_eq_true rfl, rfl⟩ | exact ⟨Nat.le_of_ble_eq_true rfl, by assumption⟩ | exact ⟨by omega, Nat.le_of_ble_eq_true rfl⟩ | exact ⟨⟨by assumption, by omega⟩, Nat.le_of_ble_eq_true rfl⟩ | decide) ?_; conv => whnf)
      (refine w_low (k := 3) (by decide) (by decide) ?_; conv => whnf)
      rw [hv]
      (refine And.intro (by first | omega | assumption | rfl | exact zin_and | exact ⟨zin_and, by omega⟩ | exact ⟨by omega, zin_and⟩ | exact Nat.le_of_ble_eq_true rfl | exact ⟨Nat.le_of_ble_eq_true rfl, rfl⟩ | exact ⟨Nat.le_of_ble_eq_true rfl, by assumption⟩ | exact ⟨by omega, Nat.le_of_ble_eq_true rfl⟩ | exact ⟨⟨by assumption, by omega⟩, Nat.le_of_ble_eq_true rfl⟩ | decide) ?_; conv => whnf)
      by_cases c2 : v = 0
      · (refine And.intro (fun h => ?_) (fun h => by omega); conv => whnf)
        (refine hK _ _ _ _ ?_)
        (refine zW.upto (zC_om _) 1 (fun K hK => ?_); conv => whnf)
        exact hK _ _ _ _ (j69 0 (Or.inl rfl))
      · (refine And.intro (fun h => by omega) (fun h => ?_); conv => whnf)
        exact hK _ _ _ _ (j69 1 (Or.inr rfl))
  have jbeg : 7 < so → so < 12 → zW zL_act (zC (d + 13)) Q 88 [zR 0, zR 72, zI k, zI b, zI n] [] g := by
    intro hs1 hs2
    (refine zW.go (zC_om _) (fun K hK => ?_); conv => whnf)
    (refine And.intro (by first | omega | assumption | rfl | exact zin_and | exact ⟨zin_and, by omega⟩ | exact ⟨by omega, zin_and⟩ | exact Nat.le_of_ble_eq_true rfl | exact ⟨Nat.le_of_ble_eq_true rfl, rfl⟩ | exact ⟨Nat.le_of_ble_eq_true rfl, by assumption⟩ | exact ⟨by omega, Nat.le_of_ble_eq_true rfl⟩ | exact ⟨⟨by assumption, by omega⟩, Nat.le_of_ble_eq_true rfl⟩ | decide) ?_; conv => whnf)
    refine a_begin hk (fun _ => ?_) (fun r g' h0 h1 h2 h3 h4 => ?_)
    · exact ⟨⟨fun w => absurd w (by decide), fun w => absurd w (by decide)⟩, E _ (by omega) (by omega)⟩
    · exact ⟨⟨fun w => absurd w (by decide), fun w => absurd w (by decide)⟩, hQ r g' ⟨h3 72 (by omega) (by omega), by omega, _, n, 1, pushz z, h4, fun w => absurd w (by omega), fun _ => rfl, yTr.begin hw, fun w => absurd w (by omega)⟩⟩
  have walk : ∀ (order : Int) (u : Bool) (steps c : Nat) (s' : zS) (m' : Nat) (g' : zM), (12 ≤ so ∧ so ≤ 16) → mtk s 0 m ≠ -5 → mwalk order u n steps s m 0 = some (c, s', m') → c ≤ 400 → yfr g g' → yK g' s' n m' (pushz z) → Q (some (zI c)) g' := by
    intro order u steps c s' m' g' hs h0 h1 h2 h3 h4
    have hm0 : m ≠ 0 := fun w => h0 (by subst w; rfl)
    obtain ⟨q1, q2, q3, q4⟩ := mwalk_tr steps s m 0 hw hT c s' m' h1
    exact hQ c g' ⟨h3 72 (by omega) (by omega), by omega, s', n, m', pushz z, h4, fun w => absurd w (by omega), fun _ => rfl, q1.imp (fun w => Or.inr ⟨w, fun q => by omega⟩), fun _ _ _ => ⟨by omega, q3, hm0, by omega⟩⟩
  have full : ∀ g' : zM, yfr g g' → yK g' s n m z → Q (some (zI (-3))) g' := fun g' h1 h2 => hQ _ g' (yAct.err (by omega) (h1 72 (by omega) (by omega)) h2 hT)
  have jstep : 12 ≤ so → so ≤ 16 → zW zL_act (zC (d + 13)) Q 91 [zR 0, zR 72, zI k, zI b, zI n] [] g := by
    intro hs1 hs2
    obtain ⟨x, hx, hx2⟩ := ylow_rng (v := b) (n := 5) (by decide) (by decide)
    (refine zW.go (zC_om _) (fun K hK => ?_); conv => whnf)
    (refine And.intro (by first | omega | assumption | rfl | exact zin_and | exact ⟨zin_and, by omega⟩ | exact ⟨by omega, zin_and⟩ | exact Nat.le_of_ble_eq_true rfl | exact ⟨Nat.le_of_ble_eq_true rfl, rfl⟩ | exact ⟨Nat.le_of_ble_eq_true rfl, by assumption⟩ | exact ⟨by omega, Nat.le_of_ble_eq_true rfl⟩ | exact ⟨⟨by assumption, by omega⟩, Nat.le_of_ble_eq_true rfl⟩ | decide) ?_; conv => whnf)
    (refine w_low (k := 5) (by decide) (by decide) ?_; conv => whnf)
    rw [hx, show (1 : Int) + (x : Int) = ((1 + x : Nat) : Int) by omega]
    (refine And.intro (by first | omega | assumption | rfl | exact zin_and | exact ⟨zin_and, by omega⟩ | exact ⟨by omega, zin_and⟩ | exact Nat.le_of_ble_eq_true rfl | exact ⟨Nat.le_of_ble_eq_true rfl, rfl⟩ | exact ⟨Nat.le_of_ble_eq_true rfl, by assumption⟩ | exact ⟨by omega, Nat.le_of_ble_eq_true rfl⟩ | exact ⟨⟨by assumption, by omega⟩, Nat.le_of_ble_eq_true rfl⟩ | decide) ?_; conv => whnf)
    refine a_step hk (st := 1 + x) (by omega) (fun _ => ?_) (fun g' h1 h2 => ?_) (fun c s' m' g' h0 h1 h2 h3 h4 => ?_)
    · exact ⟨⟨fun w => absurd w (by decide), fun w => absurd w (by decide)⟩, E _ (by omega) (by omega)⟩
    · exact ⟨⟨fun w => absurd w (by decide), fun w => absurd w (by decide)⟩, full g' h1 h2⟩
    · exact ⟨⟨fun w => absurd w (by decide), fun w => absurd w (by decide)⟩, walk _ _ _ c s' m' g' ⟨hs1, hs2⟩ h0 h1 h2 h3 h4⟩
  (refine zW.go (zC_om _) (fun K hK => ?_); conv => whnf)
  (refine And.intro (by first | omega | assumption | rfl | exact zin_and | exact ⟨zin_and, by omega⟩ | exact ⟨by omega, zin_and⟩ | exact Nat.le_of_ble_eq_true rfl | exact ⟨Nat.le_of_ble_eq_true rfl, rfl⟩ | exact ⟨Nat.le_of_ble_eq_true rfl, by assumption⟩ | exact ⟨by omega, Nat.le_of_ble_eq_true rfl⟩ | exact ⟨⟨by assumption, by omega⟩, Nat.le_of_ble_eq_true rfl⟩ | decide) ?_; conv => whnf)
  (refine w_cell (by omega) ?_; conv => whnf)
  rw [hb]
  (refine And.intro (by first | omega | assumption | rfl | exact zin_and | exact ⟨zin_and, by omega⟩ | exact ⟨by omega, zin_and⟩ | exact Nat.le_of_ble_eq_true rfl | exact ⟨Nat.le_of_ble_eq_true rfl, rfl⟩ | exact ⟨Nat.le_of_ble_eq_true rfl, by assumption⟩ | exact ⟨by omega, Nat.le_of_ble_eq_true rfl⟩ | exact ⟨⟨by assumption, by omega⟩, Nat.le_of_ble_eq_true rfl⟩ | decide) ?_; conv => whnf)
  (refine a_count hk (y := 0) (by omega) ?_; conv => whnf)
  rw [show mct s n m z 0 0 = (n : Int) from rfl]
  (refine And.intro (by first | omega | assumption | rfl | exact zin_and | exact ⟨zin_and, by omega⟩ | exact ⟨by omega, zin_and⟩ | exact Nat.le_of_ble_eq_true rfl | exact ⟨Nat.le_of_ble_eq_true rfl, rfl⟩ | exact ⟨Nat.le_of_ble_eq_true rfl, by assumption⟩ | exact ⟨by omega, Nat.le_of_ble_eq_true rfl⟩ | exact ⟨⟨by assumption, by omega⟩, Nat.le_of_ble_eq_true rfl⟩ | decide) ?_; conv => whnf)
  (refine w_cell (by omega) ?_; conv => whnf)
  (refine And.intro (by first | omega | assumption | rfl | exact zin_and | exact ⟨zin_and, by omega⟩ | exact ⟨by omega, zin_and⟩ | exact Nat.le_of_ble_eq_true rfl | exact ⟨Nat.le_of_ble_eq_true rfl, rfl⟩ | exact ⟨Nat.le_of_ble_eq_true rfl, by assumption⟩ | exact ⟨by omega, Nat.le_of_ble_eq_true rfl⟩ | exact ⟨⟨by assumption, by omega⟩, Nat.le_of_ble_eq_true rfl⟩ | decide) ?_; conv => whnf)
  (refine w_low (k := 20) (by decide) (by decide) ?_; conv => whnf)
  rw [show ylow (g 72 k) ((20 : Nat) : Int) = (so : Int) from hso]
  refine ⟨by omega, fun q => ?_, fun q => ?_, fun q => ?_, fun q => ?_, fun q => ?_, fun q => ?_, fun q => ?_, fun q => ?_, fun q => ?_, fun q => ?_, fun q => ?_, fun q => ?_, fun q => ?_, fun q => ?_, fun q => ?_, fun q => ?_, fun q => ?_, fun q => ?_, fun q => ?_, trivial⟩
  · refine hK _ _ _ _ (zW.go (zC_om _) (fun K hK => ?_))
    conv => whnf
    exact ⟨⟨fun w => absurd w (by decide), fun w => absurd w (by decide)⟩, E _ (by omega) (by omega)⟩
  · exact hK _ _ _ _ (jadd (by omega))
  · exact hK _ _ _ _ (jadd (by omega))
  · refine hK _ _ _ _ (zW.go (zC_om _) (fun K hK => ?_))
    conv => whnf
    (refine And.intro (by first | omega | assumption | rfl | exact zin_and | exact ⟨zin_and, by omega⟩ | exact ⟨by omega, zin_and⟩ | exact Nat.le_of_ble_eq_true rfl | exact ⟨Nat.le_of_ble_eq_true rfl, rfl⟩ | exact ⟨Nat.le_of_ble_eq_true rfl, by assumption⟩ | exact ⟨by omega, Nat.le_of_ble_eq_true rfl⟩ | exact ⟨⟨by assumption, by omega⟩, Nat.le_of_ble_eq_true rfl⟩ | decide) ?_; conv => whnf)
    by_cases c : n = 0
    · (refine And.intro (fun h => by omega) (fun h => ?_); conv => whnf)
      (refine hK _ _ _ _ (zW.go (zC_om _) (fun K hK => ?_)); conv => whnf)
      exact ⟨⟨fun w => absurd w (by decide), fun w => absurd w (by decide)⟩, E _ (by omega) (by omega)⟩
    · obtain ⟨x, hx, hx2⟩ := ylow_rng (v := b) (n := n) (by omega) (by omega)
      (refine And.intro (fun h => ?_) (fun h => by omega); conv => whnf)
      (refine hK _ _ _ _ (zW.go (zC_om _) (fun K hK => ?_)); conv => whnf)
      (refine And.intro (by first | omega | assumption | rfl | exact zin_and | exact ⟨zin_and, by omega⟩ | exact ⟨by omega, zin_and⟩ | exact Nat.le_of_ble_eq_true rfl | exact ⟨Nat.le_of_ble_eq_true rfl, rfl⟩ | exact ⟨Nat.le_of_ble_eq_true rfl, by assumption⟩ | exact ⟨by omega, Nat.le_of_ble_eq_true rfl⟩ | exact ⟨⟨by assumption, by omega⟩, Nat.le_of_ble_eq_true rfl⟩ | decide) ?_; conv => whnf)
      (refine w_low (k := n) (by omega) (by omega) ?_; conv => whnf)
      rw [hx]
      (refine And.intro (by first | omega | assumption | rfl | exact zin_and | exact ⟨zin_and, by omega⟩ | exact ⟨by omega, zin_and⟩ | exact Nat.le_of_ble_eq_true rfl | exact ⟨Nat.le_of_ble_eq_true rfl, rfl⟩ | exact ⟨Nat.le_of_ble_eq_true rfl, by assumption⟩ | exact ⟨by omega, Nat.le_of_ble_eq_true rfl⟩ | exact ⟨⟨by assumption, by omega⟩, Nat.le_of_ble_eq_true rfl⟩ | decide) ?_; conv => whnf)
      refine a_remove hk (x := (x : Int)) (by omega) (fun r h1 h2 => ?_) (fun r g' s' n' h1 h2 h3 h4 => ?_)
      · exact ⟨⟨fun w => absurd w (by decide), fun w => absurd w (by decide)⟩, E r h1 h2⟩
      · exact ⟨⟨fun w => absurd w (by decide), fun w => absurd w (by decide)⟩, N (by omega) r g' s' n' h1 h2 h3 h4⟩
  · exact hK _ _ _ _ (jbar (by omega))
  · exact hK _ _ _ _ (jbar (by omega))
  · obtain ⟨x, hx, hx2⟩ := ylow_rng (v := b) (n := 60) (by decide) (by decide)
    refine hK _ _ _ _ (zW.go (zC_om _) (fun K hK => ?_))
    conv => whnf
    (refine And.intro (by first | omega | assumption | rfl | exact zin_and | exact ⟨zin_and, by omega⟩ | exact ⟨by omega, zin_and⟩ | exact Nat.le_of_ble_eq_true rfl | exact ⟨Nat.le_of_ble_eq_true rfl, rfl⟩ | exact ⟨Nat.le_of_ble_eq_true rfl, by assumption⟩ | exact ⟨by omega, Nat.le_of_ble_eq_true rfl⟩ | exact ⟨⟨by assumption, by omega⟩, Nat.le_of_ble_eq_true rfl⟩ | decide) ?_; conv => whnf)
    (refine w_low (k := 60) (by decide) (by decide) ?_; conv => whnf)
    rw [hx]
    (refine And.intro (by first | omega | assumption | rfl | exact zin_and | exact ⟨zin_and, by omega⟩ | exact ⟨by omega, zin_and⟩ | exact Nat.le_of_ble_eq_true rfl | exact ⟨Nat.le_of_ble_eq_true rfl, rfl⟩ | exact ⟨Nat.le_of_ble_eq_true rfl, by assumption⟩ | exact ⟨by omega, Nat.le_of_ble_eq_true rfl⟩ | exact ⟨⟨by assumption, by omega⟩, Nat.le_of_ble_eq_true rfl⟩ | decide) ?_; conv => whnf)
    refine a_setRoom hk (x := (x : Int)) (by omega) (fun r h1 h2 => ?_) (fun r g' s' n' h1 h2 h3 h4 => ?_)
    · exact ⟨⟨fun w => absurd w (by decide), fun w => absurd w (by decide)⟩, E r h1 h2⟩
    · exact ⟨⟨fun w => absurd w (by decide), fun w => absurd w (by decide)⟩, N (by omega) r g' s' n' h1 h2 h3 h4⟩
  · exact hK _ _ _ _ (jset (by omega))
  · exact hK _ _ _ _ (jset (by omega))
  · exact hK _ _ _ _ (jbeg (by omega) (by omega))
  · exact hK _ _ _ _ (jbeg (by omega) (by omega))
  · exact hK _ _ _ _ (jbeg (by omega) (by omega))
  · exact hK _ _ _ _ (jbeg (by omega) (by omega))
  · exact hK _ _ _ _ (jstep (by omega) (by omega))
  · exact hK _ _ _ _ (jstep (by omega) (by omega))
  · exact hK _ _ _ _ (jstep (by omega) (by omega))
  · exact hK _ _ _ _ (jstep (by omega) (by omega))
  · obtain ⟨x, hx, hx2⟩ := ylow_rng (v := b) (n := 2) (by decide) (by decide)
    refine hK _ _ _ _ (zW.go (zC_om _) (fun K hK => ?_))
    conv => whnf
    (refine And.intro (by first | omega | assumption | rfl | exact zin_and | exact ⟨zin_and, by omega⟩ | exact ⟨by omega, zin_and⟩ | exact Nat.le_of_ble_eq_true rfl | exact ⟨Nat.le_of_ble_eq_true rfl, rfl⟩ | exact ⟨Nat.le_of_ble_eq_true rfl, by assumption⟩ | exact ⟨by omega, Nat.le_of_ble_eq_true rfl⟩ | exact ⟨⟨by assumption, by omega⟩, Nat.le_of_ble_eq_true rfl⟩ | decide) ?_; conv => whnf)
    (refine w_low (k := 2) (by decide) (by decide) ?_; conv => whnf)
    rw [hx]
    (refine And.intro (by first | omega | assumption | rfl | exact zin_and | exact ⟨zin_and, by omega⟩ | exact ⟨by omega, zin_and⟩ | exact Nat.le_of_ble_eq_true rfl | exact ⟨Nat.le_of_ble_eq_true rfl, rfl⟩ | exact ⟨Nat.le_of_ble_eq_true rfl, by assumption⟩ | exact ⟨by omega, Nat.le_of_ble_eq_true rfl⟩ | exact ⟨⟨by assumption, by omega⟩, Nat.le_of_ble_eq_true rfl⟩ | decide) ?_; conv => whnf)
    by_cases c : x = 0
    · (refine And.intro (fun h => by omega) (fun h => ?_); conv => whnf)
      (refine And.intro (by first | omega | assumption | rfl | exact zin_and | exact ⟨zin_and, by omega⟩ | exact ⟨by omega, zin_and⟩ | exact Nat.le_of_ble_eq_true rfl | exact ⟨Nat.le_of_ble_eq_true rfl, rfl⟩ | exact ⟨Nat.le_of_ble_eq_true rfl, by assumption⟩ | exact ⟨by omega, Nat.le_of_ble_eq_true rfl⟩ | exact ⟨⟨by assumption, by omega⟩, Nat.le_of_ble_eq_true rfl⟩ | decide) ?_; conv => whnf)
      refine a_dive hk (fun _ => ?_) (fun g' h1 h2 => ?_) (fun c s' m' g' h0 h1 h2 h3 h4 => ?_)
      · conv => whnf
        refine hK _ _ _ _ (zW.go (zC_om _) (fun K hK => ?_))
        conv => whnf
        exact ⟨⟨fun w => absurd w (by decide), fun w => absurd w (by decide)⟩, E _ (by omega) (by omega)⟩
      · conv => whnf
        refine hK _ _ _ _ (zW.go (zC_om _) (fun K hK => ?_))
        conv => whnf
        exact ⟨⟨fun w => absurd w (by decide), fun w => absurd w (by decide)⟩, full g' h1 h2⟩
      · conv => whnf
        refine hK _ _ _ _ (zW.go (zC_om _) (fun K hK => ?_))
        conv => whnf
        exact ⟨⟨fun w => absurd w (by decide), fun w => absurd w (by decide)⟩, walk _ _ _ c s' m' g' (by omega) h0 h1 h2 h3 h4⟩
    · (refine And.intro (fun h => ?_) (fun h => by omega); conv => whnf)
      (refine hK _ _ _ _ (zW.go (zC_om _) (fun K hK => ?_)); conv => whnf)
      exact ⟨⟨fun w => absurd w (by decide), fun w => absurd w (by decide)⟩, E _ (by omega) (by omega)⟩
  · obtain ⟨x, hx, hx2⟩ := ylow_rng (v := b) (n := 3) (by decide) (by decide)
    have hle : mcn s 0 m ≤ m := zcnt_le m _
    have hm := hw.m400
    refine hK _ _ _ _ (zW.go (zC_om _) (fun K hK => ?_))
    conv => whnf
    (refine And.intro (by first | omega | assumption | rfl | exact zin_and | exact ⟨zin_and, by omega⟩ | exact ⟨by omega, zin_and⟩ | exact Nat.le_of_ble_eq_true rfl | exact ⟨Nat.le_of_ble_eq_true rfl, rfl⟩ | exact ⟨Nat.le_of_ble_eq_true rfl, by assumption⟩ | exact ⟨by omega, Nat.le_of_ble_eq_true rfl⟩ | exact ⟨⟨by assumption, by omega⟩, Nat.le_of_ble_eq_true rfl⟩ | decide) ?_; conv => whnf)
    (refine w_low (k := 3) (by decide) (by decide) ?_; conv => whnf)
    rw [hx]
    (refine And.intro (by first | omega | assumption | rfl | exact zin_and | exact ⟨zin_and, by omega⟩ | exact ⟨by omega, zin_and⟩ | exact Nat.le_of_ble_eq_true rfl | exact ⟨Nat.le_of_ble_eq_true rfl, rfl⟩ | exact ⟨Nat.le_of_ble_eq_true rfl, by assumption⟩ | exact ⟨by omega, Nat.le_of_ble_eq_true rfl⟩ | exact ⟨⟨by assumption, by omega⟩, Nat.le_of_ble_eq_true rfl⟩ | decide) ?_; conv => whnf)
    by_cases c : x = 0
    · (refine And.intro (fun h => by omega) (fun h => ?_); conv => whnf)
      (refine And.intro (by first | omega | assumption | rfl | exact zin_and | exact ⟨zin_and, by omega⟩ | exact ⟨by omega, zin_and⟩ | exact Nat.le_of_ble_eq_true rfl | exact ⟨Nat.le_of_ble_eq_true rfl, rfl⟩ | exact ⟨Nat.le_of_ble_eq_true rfl, by assumption⟩ | exact ⟨by omega, Nat.le_of_ble_eq_true rfl⟩ | exact ⟨⟨by assumption, by omega⟩, Nat.le_of_ble_eq_true rfl⟩ | decide) ?_; conv => whnf)
      refine a_giveUp hk (fun _ => ?_) (fun g' h0 h3 h4 => ?_)
      · conv => whnf
        refine hK _ _ _ _ (zW.go (zC_om _) (fun K hK => ?_))
        conv => whnf
        exact ⟨⟨fun w => absurd w (by decide), fun w => absurd w (by decide)⟩, E _ (by omega) (by omega)⟩
      · conv => whnf
        refine hK _ _ _ _ (zW.go (zC_om _) (fun K hK => ?_))
        conv => whnf
        exact ⟨⟨fun w => absurd w (by decide), fun w => absurd w (by decide)⟩, hQ _ g' ⟨h3 72 (by omega) (by omega), by omega, _, n, m, pushz z, h4, fun w => absurd w (by omega), fun _ => rfl, hT.give hn (Or.inl ⟨by omega, by omega⟩), fun _ w => absurd w (by omega)⟩⟩
    · (refine And.intro (fun h => ?_) (fun h => by omega); conv => whnf)
      (refine hK _ _ _ _ (zW.go (zC_om _) (fun K hK => ?_)); conv => whnf)
      exact ⟨⟨fun w => absurd w (by decide), fun w => absurd w (by decide)⟩, E _ (by omega) (by omega)⟩
end YT
