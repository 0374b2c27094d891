/-! the law's beginning -/
def yE (g0 g : zM) : Prop := g 72 = g0 72 ∧ ∃ (s : zS) (n z : Nat), yK g s n 0 z
section YN
variable {g0 : zM} {d : Nat}
theorem e_add {g : zM} {Q : zP} (h : yE g0 g) {x y : Int} (hx : zin x) (hy : zin y) (hQ : ∀ (r : Int) (g' : zM), yE g0 g' → Q (some (zI r)) g') : zC (d + 8) 54 [zR 0, zI x, zI y] g Q := by
  obtain ⟨h72, s, n, z, hk⟩ := id h
  exact a_add hk hx hy (fun r _ _ => hQ r g h) (fun r g' s' n' _ _ h3 h4 => hQ r g' ⟨(h3 72 (by omega) (by omega)).trans h72, s', n', _, h4⟩)
theorem e_room {g : zM} {Q : zP} (h : yE g0 g) {x : Int} (hx : zin x) (hQ : ∀ (r : Int) (g' : zM), yE g0 g' → Q (some (zI r)) g') : zC (d + 8) 58 [zR 0, zI x] g Q := by
  obtain ⟨h72, s, n, z, hk⟩ := id h
  exact a_setRoom hk hx (fun r _ _ => hQ r g h) (fun r g' s' n' _ _ h3 h4 => hQ r g' ⟨(h3 72 (by omega) (by omega)).trans h72, s', n', _, h4⟩)
theorem e_bar {g : zM} {Q : zP} (h : yE g0 g) {x y v : Int} (hx : zin x) (hy : zin y) (hv : v = 0 ∨ v = 1) (hQ : ∀ (r : Int) (g' : zM), yE g0 g' → Q (some (zI r)) g') : zC (d + 8) 57 [zR 0, zI x, zI y, zI v] g Q := by
  obtain ⟨h72, s, n, z, hk⟩ := id h
  exact a_bar hk hx hy hv (fun r _ _ => hQ r g h) (fun r g' s' n' _ _ h3 h4 => hQ r g' ⟨(h3 72 (by omega) (by omega)).trans h72, s', n', _, h4⟩)
theorem e_set {g : zM} {Q : zP} (h : yE g0 g) {x y : Int} (hx : 0 ≤ x ∧ x ≤ 1) (hy : 0 ≤ y ∧ y ≤ 2) (hQ : ∀ (r : Int) (g' : zM), yE g0 g' → Q (some (zI r)) g') : zC (d + 8) 59 [zR 0, zI x, zI y] g Q := by
  obtain ⟨h72, s, n, z, hk⟩ := id h
  exact a_set hk hx hy (fun r _ _ => hQ r g h) (fun r g' _ _ h3 h4 => hQ r g' ⟨(h3 72 (by omega) (by omega)).trans h72, _, n, _, h4⟩)
set_option maxHeartbeats 2000000 in
theorem w_begins {g : zM} {Q : zP} (h0 : yE g0 g) (hQ : ∀ g' : zM, yE g0 g' → Q none g') : zC (d + 10) 151 [zR 0, zR 72, zI 6] g Q := by
  have k0 := zkd0
  refine zC.go zm_L_begins ⟨rfl, rfl⟩ rfl ?_
  obtain ⟨T, hT, hT7⟩ := ylow_rng (v := g0 72 0) (n := 7) (by decide) (by decide)
  -- the settings
  have last : ∀ (hv x5 x6 x7 : zV) (g1 : zM), yE g0 g1 → zW zL_begins (zC (d + 9)) Q 133 [zR 0, zR 72, zI 6, zI T, hv, x5, x6, x7] [] g1 := by
    intro hv x5 x6 x7 g1 h1
    obtain ⟨x, hx, hx3⟩ := ylow_rng (v := g1 72 24) (n := 3) (by decide) (by decide)
    (refine zW.go (zC_om _) (fun K hK => ?_); conv => whnf)
    (refine And.intro (by first | omega | assumption | rfl | exact zin_and | exact ⟨zin_and, by omega⟩ | exact ⟨by omega, zin_and⟩ | exact Nat.le_of_ble_eq_true rfl | exact ⟨Nat.le_of_ble_eq_true rfl, rfl⟩ | exact ⟨Nat.le_of_ble_eq_true rfl, by assumption⟩ | exact ⟨by omega, Nat.le_of_ble_eq_true rfl⟩ | exact ⟨⟨by assumption, by omega⟩, Nat.le_of_ble_eq_true rfl⟩ | decide) ?_; conv => whnf)
    (refine w_cell (by omega) ?_; conv => whnf)
    (refine And.intro (by first | omega | assumption | rfl | exact zin_and | exact ⟨zin_and, by omega⟩ | exact ⟨by omega, zin_and⟩ | exact Nat.le_of_ble_eq_true rfl | exact ⟨Nat.le_of_ble_eq_true rfl, rfl⟩ | exact ⟨Nat.le_of_ble_eq_true rfl, by assumption⟩ | exact ⟨by omega, Nat.le_of_ble_eq_true rfl⟩ | exact ⟨⟨by assumption, by omega⟩, Nat.le_of_ble_eq_true rfl⟩ | decide) ?_; conv => whnf)
    (refine w_low (k := 3) (by decide) (by decide) ?_; conv => whnf)
    rw [hx]
    (refine And.intro (by first | omega | assumption | rfl | exact zin_and | exact ⟨zin_and, by omega⟩ | exact ⟨by omega, zin_and⟩ | exact Nat.le_of_ble_eq_true rfl | exact ⟨Nat.le_of_ble_eq_true rfl, rfl⟩ | exact ⟨Nat.le_of_ble_eq_true rfl, by assumption⟩ | exact ⟨by omega, Nat.le_of_ble_eq_true rfl⟩ | exact ⟨⟨by assumption, by omega⟩, Nat.le_of_ble_eq_true rfl⟩ | decide) ?_; conv => whnf)
    (refine e_set h1 (x := 0) (y := (x : Int)) (by omega) (by omega) (fun r g2 h2 => ?_); conv => whnf)
    obtain ⟨y, hy, hy3⟩ := ylow_rng (v := g2 72 25) (n := 3) (by decide) (by decide)
    (refine And.intro (by first | omega | assumption | rfl | exact zin_and | exact ⟨zin_and, by omega⟩ | exact ⟨by omega, zin_and⟩ | exact Nat.le_of_ble_eq_true rfl | exact ⟨Nat.le_of_ble_eq_true rfl, rfl⟩ | exact ⟨Nat.le_of_ble_eq_true rfl, by assumption⟩ | exact ⟨by omega, Nat.le_of_ble_eq_true rfl⟩ | exact ⟨⟨by assumption, by omega⟩, Nat.le_of_ble_eq_true rfl⟩ | decide) ?_; conv => whnf)
    (refine w_cell (by omega) ?_; conv => whnf)
    (refine And.intro (by first | omega | assumption | rfl | exact zin_and | exact ⟨zin_and, by omega⟩ | exact ⟨by omega, zin_and⟩ | exact Nat.le_of_ble_eq_true rfl | exact ⟨Nat.le_of_ble_eq_true rfl, rfl⟩ | exact ⟨Nat.le_of_ble_eq_true rfl, by assumption⟩ | exact ⟨by omega, Nat.le_of_ble_eq_true rfl⟩ | exact ⟨⟨by assumption, by omega⟩, Nat.le_of_ble_eq_true rfl⟩ | decide) ?_; conv => whnf)
    (refine w_low (k := 3) (by decide) (by decide) ?_; conv => whnf)
    rw [hy]
    (refine And.intro (by first | omega | assumption | rfl | exact zin_and | exact ⟨zin_and, by omega⟩ | exact ⟨by omega, zin_and⟩ | exact Nat.le_of_ble_eq_true rfl | exact ⟨Nat.le_of_ble_eq_true rfl, rfl⟩ | exact ⟨Nat.le_of_ble_eq_true rfl, by assumption⟩ | exact ⟨by omega, Nat.le_of_ble_eq_true rfl⟩ | exact ⟨⟨by assumption, by omega⟩, Nat.le_of_ble_eq_true rfl⟩ | decide) ?_; conv => whnf)
    (refine e_set h2 (x := 1) (y := (y : Int)) (by omega) (by omega) (fun r2 g3 h3 => ?_); conv => whnf)
    exact ⟨trivial, hQ g3 h3⟩
  -- the bars
  have bars : ∀ (hv : zV) (B : Nat), B < 8 → ∀ (r k : Nat) (x7 : zV) (g1 : zM), k + r = B → yE g0 g1 → zW zL_begins (zC (d + 9)) Q 95 [zR 0, zR 72, zI 6, zI T, hv, zI B, zI k, x7] [] g1 := by
    intro hv B hB r
    induction r with
    | zero =>
      intro k x7 g1 hk h1
      (refine zW.go (zC_om _) (fun K hK => ?_); conv => whnf)
      (refine And.intro (by first | omega | assumption | rfl | exact zin_and | exact ⟨zin_and, by omega⟩ | exact ⟨by omega, zin_and⟩ | exact Nat.le_of_ble_eq_true rfl | exact ⟨Nat.le_of_ble_eq_true rfl, rfl⟩ | exact ⟨Nat.le_of_ble_eq_true rfl, by assumption⟩ | exact ⟨by omega, Nat.le_of_ble_eq_true rfl⟩ | exact ⟨⟨by assumption, by omega⟩, Nat.le_of_ble_eq_true rfl⟩ | decide) ?_; conv => whnf)
      (refine And.intro (fun h => ?_) (fun h => by omega); conv => whnf)
      exact hK _ _ _ _ (last _ _ _ _ g1 h1)
    | succ r ih =>
      intro k x7 g1 hk h1
      (refine zW.go (zC_om _) (fun K hK => ?_); conv => whnf)
      (refine And.intro (by first | omega | assumption | rfl | exact zin_and | exact ⟨zin_and, by omega⟩ | exact ⟨by omega, zin_and⟩ | exact Nat.le_of_ble_eq_true rfl | exact ⟨Nat.le_of_ble_eq_true rfl, rfl⟩ | exact ⟨Nat.le_of_ble_eq_true rfl, by assumption⟩ | exact ⟨by omega, Nat.le_of_ble_eq_true rfl⟩ | exact ⟨⟨by assumption, by omega⟩, Nat.le_of_ble_eq_true rfl⟩ | decide) ?_; conv => whnf)
      (refine And.intro (fun h => by omega) (fun h => ?_); conv => whnf)
      (refine And.intro (by first | omega | assumption | rfl | exact zin_and | exact ⟨zin_and, by omega⟩ | exact ⟨by omega, zin_and⟩ | exact Nat.le_of_ble_eq_true rfl | exact ⟨Nat.le_of_ble_eq_true rfl, rfl⟩ | exact ⟨Nat.le_of_ble_eq_true rfl, by assumption⟩ | exact ⟨by omega, Nat.le_of_ble_eq_true rfl⟩ | exact ⟨⟨by assumption, by omega⟩, Nat.le_of_ble_eq_true rfl⟩ | decide) ?_; conv => whnf)
      by_cases c : T ≤ 1
      · (refine And.intro (fun h => ?_) (fun h => by omega); conv => whnf)
        exact hK _ _ _ _ (last _ _ _ _ g1 h1)
      · obtain ⟨x, hx, hx3⟩ := ylow_rng (v := g1 72 (16 + (k : Int))) (n := T) (by omega) (by omega)
        obtain ⟨y, hy, hy3⟩ := ylow_rng (v := zshr (g1 72 (16 + (k : Int))) 5) (n := T - 1) (by omega) (by omega)
        (refine And.intro (fun h => by omega) (fun h => ?_); conv => whnf)
        (refine And.intro (by first | omega | assumption | rfl | exact zin_and | exact ⟨zin_and, by omega⟩ | exact ⟨by omega, zin_and⟩ | exact Nat.le_of_ble_eq_true rfl | exact ⟨Nat.le_of_ble_eq_true rfl, rfl⟩ | exact ⟨Nat.le_of_ble_eq_true rfl, by assumption⟩ | exact ⟨by omega, Nat.le_of_ble_eq_true rfl⟩ | exact ⟨⟨by assumption, by omega⟩, Nat.le_of_ble_eq_true rfl⟩ | decide) ?_; conv => whnf)
        (refine w_cell (by omega) ?_; conv => whnf)
        (refine And.intro (by first | omega | assumption | rfl | exact zin_and | exact ⟨zin_and, by omega⟩ | exact ⟨by omega, zin_and⟩ | exact Nat.le_of_ble_eq_true rfl | exact ⟨Nat.le_of_ble_eq_true rfl, rfl⟩ | exact ⟨Nat.le_of_ble_eq_true rfl, by assumption⟩ | exact ⟨by omega, Nat.le_of_ble_eq_true rfl⟩ | exact ⟨⟨by assumption, by omega⟩, Nat.le_of_ble_eq_true rfl⟩ | decide) ?_; conv => whnf)
        (refine w_low (k := T) (by omega) (by omega) ?_; conv => whnf)
        rw [hx]
        (refine And.intro (by first | omega | assumption | rfl | exact zin_and | exact ⟨zin_and, by omega⟩ | exact ⟨by omega, zin_and⟩ | exact Nat.le_of_ble_eq_true rfl | exact ⟨Nat.le_of_ble_eq_true rfl, rfl⟩ | exact ⟨Nat.le_of_ble_eq_true rfl, by assumption⟩ | exact ⟨by omega, Nat.le_of_ble_eq_true rfl⟩ | exact ⟨⟨by assumption, by omega⟩, Nat.le_of_ble_eq_true rfl⟩ | decide) ?_; conv => whnf)
        (refine w_cell (by omega) ?_; conv => whnf)
        rw [show (T : Int) - 1 = ((T - 1 : Nat) : Int) by omega]
        (refine And.intro (by first | omega | assumption | rfl | exact zin_and | exact ⟨zin_and, by omega⟩ | exact ⟨by omega, zin_and⟩ | exact Nat.le_of_ble_eq_true rfl | exact ⟨Nat.le_of_ble_eq_true rfl, rfl⟩ | exact ⟨Nat.le_of_ble_eq_true rfl, by assumption⟩ | exact ⟨by omega, Nat.le_of_ble_eq_true rfl⟩ | exact ⟨⟨by assumption, by omega⟩, Nat.le_of_ble_eq_true rfl⟩ | decide) ?_; conv => whnf)
        (refine w_low (k := T - 1) (by omega) (by omega) ?_; conv => whnf)
        rw [hy]
        (refine And.intro (show zin (T : Int) ∧ (T : Int) ≠ 0 by omega) ?_; conv => whnf)
        have e : zrem ((x : Int) + 1 + (y : Int)) (T : Int) = (((x + 1 + y) % T : Nat) : Int) := by
          rw [show (x : Int) + 1 + (y : Int) = ((x + 1 + y : Nat) : Int) by omega]
          exact zrem_nat (by omega) (by omega) (by omega)
        have hm := Nat.mod_lt (x + 1 + y) (show 0 < T by omega)
        rw [e]
        generalize (x + 1 + y) % T = w at *
        (refine And.intro (by first | omega | assumption | rfl | exact zin_and | exact ⟨zin_and, by omega⟩ | exact ⟨by omega, zin_and⟩ | exact Nat.le_of_ble_eq_true rfl | exact ⟨Nat.le_of_ble_eq_true rfl, rfl⟩ | exact ⟨Nat.le_of_ble_eq_true rfl, by assumption⟩ | exact ⟨by omega, Nat.le_of_ble_eq_true rfl⟩ | exact ⟨⟨by assumption, by omega⟩, Nat.le_of_ble_eq_true rfl⟩ | decide) ?_; conv => whnf)
        (refine e_bar h1 (x := (x : Int)) (y := (w : Int)) (v := 1) (by omega) (by omega) (by omega) (fun r2 g2 h2 => ?_); conv => whnf)
        exact hK _ _ _ _ (ih (k + 1) _ g2 (by omega) h2)
  -- the things
  have things : ∀ (V : Nat), 1 ≤ V → V ≤ 50 → ∀ (r k : Nat) (x6 x7 : zV) (g1 : zM), k + r = T → yE g0 g1 → zW zL_begins (zC (d + 9)) Q 47 [zR 0, zR 72, zI 6, zI T, zI V, zI k, x6, x7] [] g1 := by
    intro V hV1 hV2 r
    induction r with
    | zero =>
      intro k x6 x7 g1 hk h1
      obtain ⟨B, hB, hB8⟩ := ylow_rng (v := g1 72 15) (n := 8) (by decide) (by decide)
      (refine zW.go (zC_om _) (fun K hK => ?_); conv => whnf)
      (refine And.intro (by first | omega | assumption | rfl | exact zin_and | exact ⟨zin_and, by omega⟩ | exact ⟨by omega, zin_and⟩ | exact Nat.le_of_ble_eq_true rfl | exact ⟨Nat.le_of_ble_eq_true rfl, rfl⟩ | exact ⟨Nat.le_of_ble_eq_true rfl, by assumption⟩ | exact ⟨by omega, Nat.le_of_ble_eq_true rfl⟩ | exact ⟨⟨by assumption, by omega⟩, Nat.le_of_ble_eq_true rfl⟩ | decide) ?_; conv => whnf)
      (refine And.intro (fun h => ?_) (fun h => by omega); conv => whnf)
      (refine hK _ _ _ _ ?_)
      (refine zW.upto (zC_om _) 8 (fun K hK => ?_); conv => whnf)
      (refine And.intro (by first | omega | assumption | rfl | exact zin_and | exact ⟨zin_and, by omega⟩ | exact ⟨by omega, zin_and⟩ | exact Nat.le_of_ble_eq_true rfl | exact ⟨Nat.le_of_ble_eq_true rfl, rfl⟩ | exact ⟨Nat.le_of_ble_eq_true rfl, by assumption⟩ | exact ⟨by omega, Nat.le_of_ble_eq_true rfl⟩ | exact ⟨⟨by assumption, by omega⟩, Nat.le_of_ble_eq_true rfl⟩ | decide) ?_; conv => whnf)
      (refine w_cell (by omega) ?_; conv => whnf)
      (refine And.intro (by first | omega | assumption | rfl | exact zin_and | exact ⟨zin_and, by omega⟩ | exact ⟨by omega, zin_and⟩ | exact Nat.le_of_ble_eq_true rfl | exact ⟨Nat.le_of_ble_eq_true rfl, rfl⟩ | exact ⟨Nat.le_of_ble_eq_true rfl, by assumption⟩ | exact ⟨by omega, Nat.le_of_ble_eq_true rfl⟩ | exact ⟨⟨by assumption, by omega⟩, Nat.le_of_ble_eq_true rfl⟩ | decide) ?_; conv => whnf)
      (refine w_low (k := 8) (by decide) (by decide) ?_; conv => whnf)
      rw [hB]
      exact hK _ _ _ _ (bars _ B hB8 B 0 _ g1 (by omega) h1)
    | succ r ih =>
      intro k x6 x7 g1 hk h1
      obtain ⟨c, hc, hc2⟩ := ylow_rng (v := zshr (g1 72 (3 + (k : Int))) 8) (n := 2) (by decide) (by decide)
      obtain ⟨y, hy, hy3⟩ := ylow_rng (v := zshr (g1 72 (3 + (k : Int))) 10) (n := V) (by omega) (by omega)
      have j70 : ∀ q : Nat, q = 99 ∨ q = 9 → zW zL_begins (zC (d + 9)) Q 70 [zR 0, zR 72, zI 6, zI T, zI V, zI k, x6, x7] [zI q, zI (g1 72 (3 + (k : Int))), zI 1, zR 0] g1 := by
        intro q hq
        obtain ⟨x, hx, hx3⟩ := ylow_rng (v := g1 72 (3 + (k : Int))) (n := q) (by omega) (by omega)
        (refine zW.go (zC_om _) (fun K hK => ?_); conv => whnf)
        (refine And.intro (by first | omega | assumption | rfl | exact zin_and | exact ⟨zin_and, by omega⟩ | exact ⟨by omega, zin_and⟩ | exact Nat.le_of_ble_eq_true rfl | exact ⟨Nat.le_of_ble_eq_true rfl, rfl⟩ | exact ⟨Nat.le_of_ble_eq_true rfl, by assumption⟩ | exact ⟨by omega, Nat.le_of_ble_eq_true rfl⟩ | exact ⟨⟨by assumption, by omega⟩, Nat.le_of_ble_eq_true rfl⟩ | decide) ?_; conv => whnf)
        (refine w_low (k := q) (by omega) (by omega) ?_; conv => whnf)
        rw [hx]
        (refine And.intro (by first | omega | assumption | rfl | exact zin_and | exact ⟨zin_and, by omega⟩ | exact ⟨by omega, zin_and⟩ | exact Nat.le_of_ble_eq_true rfl | exact ⟨Nat.le_of_ble_eq_true rfl, rfl⟩ | exact ⟨Nat.le_of_ble_eq_true rfl, by assumption⟩ | exact ⟨by omega, Nat.le_of_ble_eq_true rfl⟩ | exact ⟨⟨by assumption, by omega⟩, Nat.le_of_ble_eq_true rfl⟩ | decide) ?_; conv => whnf)
        (refine w_cell (by omega) ?_; conv => whnf)
        (refine And.intro (by first | omega | assumption | rfl | exact zin_and | exact ⟨zin_and, by omega⟩ | exact ⟨by omega, zin_and⟩ | exact Nat.le_of_ble_eq_true rfl | exact ⟨Nat.le_of_ble_eq_true rfl, rfl⟩ | exact ⟨Nat.le_of_ble_eq_true rfl, by assumption⟩ | exact ⟨by omega, Nat.le_of_ble_eq_true rfl⟩ | exact ⟨⟨by assumption, by omega⟩, Nat.le_of_ble_eq_true rfl⟩ | decide) ?_; conv => whnf)
        (refine w_low (k := V) (by omega) (by omega) ?_; conv => whnf)
        rw [hy]
        (refine And.intro (by first | omega | assumption | rfl | exact zin_and | exact ⟨zin_and, by omega⟩ | exact ⟨by omega, zin_and⟩ | exact Nat.le_of_ble_eq_true rfl | exact ⟨Nat.le_of_ble_eq_true rfl, rfl⟩ | exact ⟨Nat.le_of_ble_eq_true rfl, by assumption⟩ | exact ⟨by omega, Nat.le_of_ble_eq_true rfl⟩ | exact ⟨⟨by assumption, by omega⟩, Nat.le_of_ble_eq_true rfl⟩ | decide) ?_; conv => whnf)
        (refine e_add h1 (by omega) (by omega) (fun r2 g2 h2 => ?_); conv => whnf)
        exact hK _ _ _ _ (ih (k + 1) _ _ g2 (by omega) h2)
      (refine zW.go (zC_om _) (fun K hK => ?_); conv => whnf)
      (refine And.intro (by first | omega | assumption | rfl | exact zin_and | exact ⟨zin_and, by omega⟩ | exact ⟨by omega, zin_and⟩ | exact Nat.le_of_ble_eq_true rfl | exact ⟨Nat.le_of_ble_eq_true rfl, rfl⟩ | exact ⟨Nat.le_of_ble_eq_true rfl, by assumption⟩ | exact ⟨by omega, Nat.le_of_ble_eq_true rfl⟩ | exact ⟨⟨by assumption, by omega⟩, Nat.le_of_ble_eq_true rfl⟩ | decide) ?_; conv => whnf)
      (refine And.intro (fun h => by omega) (fun h => ?_); conv => whnf)
      (refine And.intro (by first | omega | assumption | rfl | exact zin_and | exact ⟨zin_and, by omega⟩ | exact ⟨by omega, zin_and⟩ | exact Nat.le_of_ble_eq_true rfl | exact ⟨Nat.le_of_ble_eq_true rfl, rfl⟩ | exact ⟨Nat.le_of_ble_eq_true rfl, by assumption⟩ | exact ⟨by omega, Nat.le_of_ble_eq_true rfl⟩ | exact ⟨⟨by assumption, by omega⟩, Nat.le_of_ble_eq_true rfl⟩ | decide) ?_; conv => whnf)
      (refine w_cell (by omega) ?_; conv => whnf)
      (refine And.intro (by first | omega | assumption | rfl | exact zin_and | exact ⟨zin_and, by omega⟩ | exact ⟨by omega, zin_and⟩ | exact Nat.le_of_ble_eq_true rfl | exact ⟨Nat.le_of_ble_eq_true rfl, rfl⟩ | exact ⟨Nat.le_of_ble_eq_true rfl, by assumption⟩ | exact ⟨by omega, Nat.le_of_ble_eq_true rfl⟩ | exact ⟨⟨by assumption, by omega⟩, Nat.le_of_ble_eq_true rfl⟩ | decide) ?_; conv => whnf)
      (refine w_cell (by omega) ?_; conv => whnf)
      (refine And.intro (by first | omega | assumption | rfl | exact zin_and | exact ⟨zin_and, by omega⟩ | exact ⟨by omega, zin_and⟩ | exact Nat.le_of_ble_eq_true rfl | exact ⟨Nat.le_of_ble_eq_true rfl, rfl⟩ | exact ⟨Nat.le_of_ble_eq_true rfl, by assumption⟩ | exact ⟨by omega, Nat.le_of_ble_eq_true rfl⟩ | exact ⟨⟨by assumption, by omega⟩, Nat.le_of_ble_eq_true rfl⟩ | decide) ?_; conv => whnf)
      (refine w_low (k := 2) (by decide) (by decide) ?_; conv => whnf)
      rw [hc]
      (refine And.intro (by first | omega | assumption | rfl | exact zin_and | exact ⟨zin_and, by omega⟩ | exact ⟨by omega, zin_and⟩ | exact Nat.le_of_ble_eq_true rfl | exact ⟨Nat.le_of_ble_eq_true rfl, rfl⟩ | exact ⟨Nat.le_of_ble_eq_true rfl, by assumption⟩ | exact ⟨by omega, Nat.le_of_ble_eq_true rfl⟩ | exact ⟨⟨by assumption, by omega⟩, Nat.le_of_ble_eq_true rfl⟩ | decide) ?_; conv => whnf)
      by_cases c0 : c = 0
      · (refine And.intro (fun h => by omega) (fun h => ?_); conv => whnf)
        exact hK _ _ _ _ (j70 99 (Or.inl rfl))
      · (refine And.intro (fun h => ?_) (fun h => by omega); conv => whnf)
        (refine hK _ _ _ _ ?_)
        (refine zW.upto (zC_om _) 1 (fun K hK => ?_); conv => whnf)
        exact hK _ _ _ _ (j70 9 (Or.inr rfl))
  -- the room
  have room : ∀ (V : Nat) (x5 x6 x7 : zV), 1 ≤ V → V ≤ 50 → zW zL_begins (zC (d + 9)) Q 26 [zR 0, zR 72, zI 6, zI T, zU, x5, x6, x7] [zI V] g := by
    intro V x5 x6 x7 hV1 hV2
    obtain ⟨c, hc, hc3⟩ := ylow_rng (v := zshr (g 72 1) 2) (n := 3) (by decide) (by decide)
    have j42 : ∀ q : Nat, q = 201 ∨ q = 40 → zW zL_begins (zC (d + 9)) Q 42 [zR 0, zR 72, zI 6, zI T, zI V, x5, x6, x7] [zI q, zI (g 72 2), zR 0] g := by
      intro q hq
      obtain ⟨x, hx, hx3⟩ := ylow_rng (v := g 72 2) (n := q) (by omega) (by omega)
      (refine zW.upto (zC_om _) 5 (fun K hK => ?_); conv => whnf)
      (refine And.intro (by first | omega | assumption | rfl | exact zin_and | exact ⟨zin_and, by omega⟩ | exact ⟨by omega, zin_and⟩ | exact Nat.le_of_ble_eq_true rfl | exact ⟨Nat.le_of_ble_eq_true rfl, rfl⟩ | exact ⟨Nat.le_of_ble_eq_true rfl, by assumption⟩ | exact ⟨by omega, Nat.le_of_ble_eq_true rfl⟩ | exact ⟨⟨by assumption, by omega⟩, Nat.le_of_ble_eq_true rfl⟩ | decide) ?_; conv => whnf)
      (refine w_low (k := q) (by omega) (by omega) ?_; conv => whnf)
      rw [hx]
      (refine And.intro (by first | omega | assumption | rfl | exact zin_and | exact ⟨zin_and, by omega⟩ | exact ⟨by omega, zin_and⟩ | exact Nat.le_of_ble_eq_true rfl | exact ⟨Nat.le_of_ble_eq_true rfl, rfl⟩ | exact ⟨Nat.le_of_ble_eq_true rfl, by assumption⟩ | exact ⟨by omega, Nat.le_of_ble_eq_true rfl⟩ | exact ⟨⟨by assumption, by omega⟩, Nat.le_of_ble_eq_true rfl⟩ | decide) ?_; conv => whnf)
      (refine e_room h0 (x := (x : Int)) (by omega) (fun r2 g2 h2 => ?_); conv => whnf)
      exact hK _ _ _ _ (things V hV1 hV2 T 0 _ _ g2 (by omega) h2)
    (refine zW.go (zC_om _) (fun K hK => ?_); conv => whnf)
    (refine And.intro (by first | omega | assumption | rfl | exact zin_and | exact ⟨zin_and, by omega⟩ | exact ⟨by omega, zin_and⟩ | exact Nat.le_of_ble_eq_true rfl | exact ⟨Nat.le_of_ble_eq_true rfl, rfl⟩ | exact ⟨Nat.le_of_ble_eq_true rfl, by assumption⟩ | exact ⟨by omega, Nat.le_of_ble_eq_true rfl⟩ | exact ⟨⟨by assumption, by omega⟩, Nat.le_of_ble_eq_true rfl⟩ | decide) ?_; conv => whnf)
    (refine w_cell (by omega) ?_; conv => whnf)
    (refine And.intro (by first | omega | assumption | rfl | exact zin_and | exact ⟨zin_and, by omega⟩ | exact ⟨by omega, zin_and⟩ | exact Nat.le_of_ble_eq_true rfl | exact ⟨Nat.le_of_ble_eq_true rfl, rfl⟩ | exact ⟨Nat.le_of_ble_eq_true rfl, by assumption⟩ | exact ⟨by omega, Nat.le_of_ble_eq_true rfl⟩ | exact ⟨⟨by assumption, by omega⟩, Nat.le_of_ble_eq_true rfl⟩ | decide) ?_; conv => whnf)
    (refine w_cell (by omega) ?_; conv => whnf)
    (refine And.intro (by first | omega | assumption | rfl | exact zin_and | exact ⟨zin_and, by omega⟩ | exact ⟨by omega, zin_and⟩ | exact Nat.le_of_ble_eq_true rfl | exact ⟨Nat.le_of_ble_eq_true rfl, rfl⟩ | exact ⟨Nat.le_of_ble_eq_true rfl, by assumption⟩ | exact ⟨by omega, Nat.le_of_ble_eq_true rfl⟩ | exact ⟨⟨by assumption, by omega⟩, Nat.le_of_ble_eq_true rfl⟩ | decide) ?_; conv => whnf)
    (refine w_low (k := 3) (by decide) (by decide) ?_; conv => whnf)
    rw [hc]
    (refine And.intro (by first | omega | assumption | rfl | exact zin_and | exact ⟨zin_and, by omega⟩ | exact ⟨by omega, zin_and⟩ | exact Nat.le_of_ble_eq_true rfl | exact ⟨Nat.le_of_ble_eq_true rfl, rfl⟩ | exact ⟨Nat.le_of_ble_eq_true rfl, by assumption⟩ | exact ⟨by omega, Nat.le_of_ble_eq_true rfl⟩ | exact ⟨⟨by assumption, by omega⟩, Nat.le_of_ble_eq_true rfl⟩ | decide) ?_; conv => whnf)
    by_cases c0 : c = 0
    · (refine And.intro (fun h => by omega) (fun h => ?_); conv => whnf)
      exact hK _ _ _ _ (j42 201 (Or.inl rfl))
    · (refine And.intro (fun h => ?_) (fun h => by omega); conv => whnf)
      (refine hK _ _ _ _ ?_)
      (refine zW.upto (zC_om _) 1 (fun K hK => ?_); conv => whnf)
      exact hK _ _ _ _ (j42 40 (Or.inr rfl))
  obtain ⟨c, hc, hc3⟩ := ylow_rng (v := g 72 1) (n := 3) (by decide) (by decide)
  rw [← h0.1] at hT
  (refine zW.go (zC_om _) (fun K hK => ?_); conv => whnf)
  (refine And.intro (by first | omega | assumption | rfl | exact zin_and | exact ⟨zin_and, by omega⟩ | exact ⟨by omega, zin_and⟩ | exact Nat.le_of_ble_eq_true rfl | exact ⟨Nat.le_of_ble_eq_true rfl, rfl⟩ | exact ⟨Nat.le_of_ble_eq_true rfl, by assumption⟩ | exact ⟨by omega, Nat.le_of_ble_eq_true rfl⟩ | exact ⟨⟨by assumption, by omega⟩, Nat.le_of_ble_eq_true rfl⟩ | decide) ?_; conv => whnf)
  (refine w_cell (by omega) ?_; conv => whnf)
  (refine And.intro (by first | omega | assumption | rfl | exact zin_and | exact ⟨zin_and, by omega⟩ | exact ⟨by omega, zin_and⟩ | exact Nat.le_of_ble_eq_true rfl | exact ⟨Nat.le_of_ble_eq_true rfl, rfl⟩ | exact ⟨Nat.le_of_ble_eq_true rfl, by assumption⟩ | exact ⟨by omega, Nat.le_of_ble_eq_true rfl⟩ | exact ⟨⟨by assumption, by omega⟩, Nat.le_of_ble_eq_true rfl⟩ | decide) ?_; conv => whnf)
  (refine w_low (k := 7) (by decide) (by decide) ?_; conv => whnf)
  rw [show ylow (g 72 0) ((7 : Nat) : Int) = (T : Int) from hT]
  (refine And.intro (by first | omega | assumption | rfl | exact zin_and | exact ⟨zin_and, by omega⟩ | exact ⟨by omega, zin_and⟩ | exact Nat.le_of_ble_eq_true rfl | exact ⟨Nat.le_of_ble_eq_true rfl, rfl⟩ | exact ⟨Nat.le_of_ble_eq_true rfl, by assumption⟩ | exact ⟨by omega, Nat.le_of_ble_eq_true rfl⟩ | exact ⟨⟨by assumption, by omega⟩, Nat.le_of_ble_eq_true rfl⟩ | decide) ?_; conv => whnf)
  (refine w_cell (by omega) ?_; conv => whnf)
  (refine And.intro (by first | omega | assumption | rfl | exact zin_and | exact ⟨zin_and, by omega⟩ | exact ⟨by omega, zin_and⟩ | exact Nat.le_of_ble_eq_true rfl | exact ⟨Nat.le_of_ble_eq_true rfl, rfl⟩ | exact ⟨Nat.le_of_ble_eq_true rfl, by assumption⟩ | exact ⟨by omega, Nat.le_of_ble_eq_true rfl⟩ | exact ⟨⟨by assumption, by omega⟩, Nat.le_of_ble_eq_true rfl⟩ | decide) ?_; conv => whnf)
  (refine w_low (k := 3) (by decide) (by decide) ?_; conv => whnf)
  rw [hc]
  (refine And.intro (by first | omega | assumption | rfl | exact zin_and | exact ⟨zin_and, by omega⟩ | exact ⟨by omega, zin_and⟩ | exact Nat.le_of_ble_eq_true rfl | exact ⟨Nat.le_of_ble_eq_true rfl, rfl⟩ | exact ⟨Nat.le_of_ble_eq_true rfl, by assumption⟩ | exact ⟨by omega, Nat.le_of_ble_eq_true rfl⟩ | exact ⟨⟨by assumption, by omega⟩, Nat.le_of_ble_eq_true rfl⟩ | decide) ?_; conv => whnf)
  by_cases c0 : c = 0
  · (refine And.intro (fun h => by omega) (fun h => ?_); conv => whnf)
    exact hK _ _ _ _ (room 50 _ _ _ (by omega) (by omega))
  · (refine And.intro (fun h => ?_) (fun h => by omega); conv => whnf)
    (refine hK _ _ _ _ (zW.go (zC_om _) (fun K hK => ?_)); conv => whnf)
    (refine And.intro (by first | omega | assumption | rfl | exact zin_and | exact ⟨zin_and, by omega⟩ | exact ⟨by omega, zin_and⟩ | exact Nat.le_of_ble_eq_true rfl | exact ⟨Nat.le_of_ble_eq_true rfl, rfl⟩ | exact ⟨Nat.le_of_ble_eq_true rfl, by assumption⟩ | exact ⟨by omega, Nat.le_of_ble_eq_true rfl⟩ | exact ⟨⟨by assumption, by omega⟩, Nat.le_of_ble_eq_true rfl⟩ | decide) ?_; conv => whnf)
    (refine w_cell (by omega) ?_; conv => whnf)
    (refine And.intro (by first | omega | assumption | rfl | exact zin_and | exact ⟨zin_and, by omega⟩ | exact ⟨by omega, zin_and⟩ | exact Nat.le_of_ble_eq_true rfl | exact ⟨Nat.le_of_ble_eq_true rfl, rfl⟩ | exact ⟨Nat.le_of_ble_eq_true rfl, by assumption⟩ | exact ⟨by omega, Nat.le_of_ble_eq_true rfl⟩ | exact ⟨⟨by assumption, by omega⟩, Nat.le_of_ble_eq_true rfl⟩ | decide) ?_; conv => whnf)
    (refine w_low (k := 3) (by decide) (by decide) ?_; conv => whnf)
    rw [hc]
    (refine And.intro (by first | omega | assumption | rfl | exact zin_and | exact ⟨zin_and, by omega⟩ | exact ⟨by omega, zin_and⟩ | exact Nat.le_of_ble_eq_true rfl | exact ⟨Nat.le_of_ble_eq_true rfl, rfl⟩ | exact ⟨Nat.le_of_ble_eq_true rfl, by assumption⟩ | exact ⟨by omega, Nat.le_of_ble_eq_true rfl⟩ | exact ⟨⟨by assumption, by omega⟩, Nat.le_of_ble_eq_true rfl⟩ | decide) ?_; conv => whnf)
    by_cases c1 : c = 1
    · (refine And.intro (fun h => by omega) (fun h => ?_); conv => whnf)
      exact hK _ _ _ _ (room 12 _ _ _ (by omega) (by omega))
    · (refine And.intro (fun h => ?_) (fun h => by omega); conv => whnf)
      (refine hK _ _ _ _ ?_)
      (refine zW.upto (zC_om _) 1 (fun K hK => ?_); conv => whnf)
      exact hK _ _ _ _ (room 4 _ _ _ (by omega) (by omega))
end YN
