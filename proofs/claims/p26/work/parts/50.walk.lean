/-! many steps -/
def mwalk (order : Int) (until_ : Bool) (n : Nat) : Nat → zS → Nat → Nat → Option (Nat × zS × Nat)
  | 0, s, m, c => some (c, s, m)
  | r + 1, s, m, c =>
    if mtk s order m = -5 then some (c, s, m)
    else if (mtakes s n (mtk s order m)).1 = -3 then none
    else if until_ = true ∧ (mtakes s n (mtk s order m)).1 ≠ 4 then some (c + 1, (mtakes s n (mtk s order m)).2, m)
    else mwalk order until_ n r (mtakes s n (mtk s order m)).2 (if (mtakes s n (mtk s order m)).1 = 4 then m + 2 else m) (c + 1)
theorem mtk_none {s : zS} {order : Int} : ∀ k : Nat, mtk s order k = -5 ↔ mtk s 0 k = -5
  | 0 => ⟨fun _ => rfl, fun _ => rfl⟩
  | k + 1 => by
    have ih := mtk_none (s := s) (order := order) k
    rw [mtk, mtk]
    by_cases h : nd s k 4 = 0
    · rw [if_pos (show nd s k 4 = 0 ∧ (mtk s 0 k = -5 ∨ (0 : Int) = 0 ∨ _) from ⟨h, Or.inr (Or.inl rfl)⟩)]
      constructor
      · intro w
        split at w
        · omega
        · next c => exact absurd ⟨h, Or.inl w⟩ c
      · intro w
        omega
    · rw [if_neg (fun w => h w.1), if_neg (fun w => h w.1)]
      exact ih
theorem mtakes_4 {s : zS} {n m : Nat} {k : Int} (h5 : s 5 = (m : Int)) (h : (mtakes s n k).1 = 4) : m + 2 ≤ 400 := by
  unfold mtakes at h
  split at h
  · exact absurd (show (1 : Int) = 4 from h) (by decide)
  · split at h
    · exact absurd (show (2 : Int) = 4 from h) (by decide)
    · split at h
      · exact absurd (show (-3 : Int) = 4 from h) (by decide)
      · next c => omega
theorem mtakes_r (s : zS) (n : Nat) (k : Int) : (mtakes s n k).1 = 1 ∨ (mtakes s n k).1 = 2 ∨ (mtakes s n k).1 = -3 ∨ (mtakes s n k).1 = 4 := by
  unfold mtakes
  split
  · exact Or.inl rfl
  · split
    · exact Or.inr (Or.inl rfl)
    · split
      · exact Or.inr (Or.inr (Or.inl rfl))
      · exact Or.inr (Or.inr (Or.inr rfl))
theorem mtk_k {s : zS} {order : Int} {m : Nat} (h : mtk s order m ≠ -5) : ∃ k : Nat, mtk s order m = (k : Int) ∧ k < m ∧ nd s k 4 = 0 := by
  have := mtk_rng s order m
  refine ⟨(mtk s order m).toNat, by omega, by omega, ?_⟩
  rw [show (((mtk s order m).toNat : Nat) : Int) = mtk s order m by omega]
  omega
theorem mwalk_inv {order : Int} {until_ : Bool} {n : Nat} : ∀ (r : Nat) (s : zS) (m c : Nat), minw s n m → ∀ c' s' m', mwalk order until_ n r s m c = some (c', s', m') → minw s' n m' ∧ c ≤ c' ∧ c' ≤ c + r
  | 0, s, m, c, h, c', s', m', e => by
    rw [mwalk] at e
    injection e with e
    injection e with e1 e2
    injection e2 with e2 e3
    subst e1 e2 e3
    exact ⟨h, by omega, by omega⟩
  | r + 1, s, m, c, h, c', s', m', e => by
    rw [mwalk] at e
    by_cases h1 : mtk s order m = -5
    · rw [if_pos h1] at e
      injection e with e
      injection e with e1 e2
      injection e2 with e2 e3
      subst e1 e2 e3
      exact ⟨h, by omega, by omega⟩
    · rw [if_neg h1] at e
      obtain ⟨k, hk, hkm, hop⟩ := mtk_k h1
      rw [hk] at e
      by_cases h2 : (mtakes s n k).1 = -3
      · rw [if_pos h2] at e
        exact absurd e (by simp)
      · rw [if_neg h2] at e
        have hw := minw_takes h hkm hop h2
        by_cases h3 : until_ = true ∧ (mtakes s n k).1 ≠ 4
        · rw [if_pos h3] at e
          injection e with e
          injection e with e1 e2
          injection e2 with e2 e3
          subst e1 e2 e3
          rw [if_neg h3.2] at hw
          exact ⟨hw, by omega, by omega⟩
        · rw [if_neg h3] at e
          have := mwalk_inv r _ _ _ hw c' s' m' e
          exact ⟨this.1, by omega, by omega⟩
/-- a dive ends long before its steps do -/
theorem mwalk_fuel {order : Int} {n : Nat} : ∀ (x r r' : Nat) (s : zS) (m c : Nat), minw s n m → 400 ≤ m + 2 * x → x < r → x < r' → mwalk order true n r s m c = mwalk order true n r' s m c
  | x, 0, _, _, _, _, _, _, h, _ => absurd h (by omega)
  | x, _ + 1, 0, _, _, _, _, _, _, h => absurd h (by omega)
  | x, r + 1, r' + 1, s, m, c, hw, hx, h1, h2 => by
    rw [mwalk, mwalk]
    by_cases c1 : mtk s order m = -5
    · rw [if_pos c1, if_pos c1]
    · rw [if_neg c1, if_neg c1]
      obtain ⟨k, hk, hkm, hop⟩ := mtk_k c1
      rw [hk]
      by_cases c2 : (mtakes s n k).1 = -3
      · rw [if_pos c2, if_pos c2]
      · rw [if_neg c2, if_neg c2]
        by_cases c3 : (mtakes s n k).1 = 4
        · have q : ¬ (true = true ∧ (mtakes s n k).1 ≠ 4) := fun w => w.2 c3
          rw [if_neg q, if_neg q, if_pos c3]
          have hm := mtakes_4 hw.1.2.2.2.2.1.1 c3
          have hw2 := minw_takes hw hkm hop c2
          rw [if_pos c3] at hw2
          exact mwalk_fuel (x - 1) r r' _ (m + 2) (c + 1) hw2 (by omega) (by omega) (by omega)
        · rw [if_pos ⟨rfl, c3⟩, if_pos ⟨rfl, c3⟩]
section CW
variable {g : zM} {d : Nat} {Q : zP}
theorem c_goThrough {n m z steps : Nat} {order : Int} {u : Bool} {s p : zS} {rows : Nat → zS} (hr : RelC g 8 s n m) (hw : minw s n m) (hrp : RelC g 8 p n m) (hwp : minw p n m) (hh : HistC g z rows) (hst : 1 ≤ steps ∧ steps ≤ 400) (ho : zin order)
    (hQ4 : mtk s 0 m = -5 → Q (some (zI (-4))) g)
    (hQ3 : mwalk order u n steps s m 0 = none → ∀ g' : zM, (∀ j, (j < 8 ∨ 23 < j) → g' j = g j) → RelC g' 8 p n m → Q (some (zI (-3))) g')
    (hQ : mtk s 0 m ≠ -5 → ∀ c s' m', mwalk order u n steps s m 0 = some (c, s', m') → ∀ g' : zM, (∀ j, j ≠ 1 → (j < 8 ∨ (23 < j ∧ j < 32) ∨ 63 < j) → g' j = g j) → HistC g' (pushz z) (pushr z rows p) → RelC g' 8 s' n m' → Q (some (zI c)) g') : zC (d + 7) 79 [zR 0, zI steps, zI order, zI (zb u)] g Q := by
  have k0 := zkd0
  have k1 := zkd1
  have k8 := zKC_8.1
  have k16 := zKC_16.1
  have hn := hw.n12
  have hm := hw.m400
  refine zC.go zm_X5_goThrough ⟨rfl, rfl⟩ rfl ?_
  have end_ : ∀ (done m1 : Nat) (s1 : zS) (g1 : zM) (more : Int) (x6 : zV), (∀ j, (j < 8 ∨ 23 < j) → g1 j = g j) → RelC g1 16 p n m → RelC g1 8 s1 n m1 → mtk s 0 m ≠ -5 → mwalk order u n steps s m 0 = some (done, s1, m1) → zW zX5_goThrough (zC (d + 6)) Q 50 [zR 0, zI steps, zI order, zI (zb u), zI done, zI more, x6] [] g1 := by
    intro done m1 s1 g1 more x6 hf h16 h8 h0 hres
    (refine zW.go (zC_om _) (fun K hK => ?_); conv => whnf)
    (refine And.intro (by first | omega | assumption | rfl | exact zin_and | exact ⟨zin_and, by omega⟩ | exact ⟨by omega, zin_and⟩ | exact Nat.le_of_ble_eq_true rfl | exact ⟨Nat.le_of_ble_eq_true rfl, rfl⟩ | exact ⟨Nat.le_of_ble_eq_true rfl, by assumption⟩ | exact ⟨by omega, Nat.le_of_ble_eq_true rfl⟩ | exact ⟨⟨by assumption, by omega⟩, Nat.le_of_ble_eq_true rfl⟩ | decide) ?_; conv => whnf)
    (refine And.intro (by first | omega | assumption | rfl | exact zin_and | exact ⟨zin_and, by omega⟩ | exact ⟨by omega, zin_and⟩ | exact Nat.le_of_ble_eq_true rfl | exact ⟨Nat.le_of_ble_eq_true rfl, rfl⟩ | exact ⟨Nat.le_of_ble_eq_true rfl, by assumption⟩ | exact ⟨by omega, Nat.le_of_ble_eq_true rfl⟩ | exact ⟨⟨by assumption, by omega⟩, Nat.le_of_ble_eq_true rfl⟩ | decide) ?_; conv => whnf)
    (refine And.intro (by first | omega | assumption | rfl | exact zin_and | exact ⟨zin_and, by omega⟩ | exact ⟨by omega, zin_and⟩ | exact Nat.le_of_ble_eq_true rfl | exact ⟨Nat.le_of_ble_eq_true rfl, rfl⟩ | exact ⟨Nat.le_of_ble_eq_true rfl, by assumption⟩ | exact ⟨by omega, Nat.le_of_ble_eq_true rfl⟩ | exact ⟨⟨by assumption, by omega⟩, Nat.le_of_ble_eq_true rfl⟩ | decide) ?_; conv => whnf)
    (refine c_pushH zKC_16 (by omega) (by omega) h16 hwp (hh.frame (fun j c => hf j (by omega))) (fun g2 hf2 hh2 => ?_); conv => whnf)
    (refine And.intro (by first | omega | assumption | rfl | exact zin_and | exact ⟨zin_and, by omega⟩ | exact ⟨by omega, zin_and⟩ | exact Nat.le_of_ble_eq_true rfl | exact ⟨Nat.le_of_ble_eq_true rfl, rfl⟩ | exact ⟨Nat.le_of_ble_eq_true rfl, by assumption⟩ | exact ⟨by omega, Nat.le_of_ble_eq_true rfl⟩ | exact ⟨⟨by assumption, by omega⟩, Nat.le_of_ble_eq_true rfl⟩ | decide) ?_; conv => whnf)
    refine hQ h0 done s1 m1 hres g2 (fun j c1 c2 => ?_) hh2 (h8.frame (fun j c1 c2 => hf2 j (by omega) (by omega)) hn)
    rw [hf2 j c1 (by omega), hf j (by omega)]
  have loop : ∀ (r done m1 : Nat) (s1 : zS) (g1 : zM) (more : Int) (x6 : zV), done + r = steps → (∀ j, (j < 8 ∨ 23 < j) → g1 j = g j) → RelC g1 16 p n m → RelC g1 8 s1 n m1 → minw s1 n m1 → mtk s 0 m ≠ -5 →
      ((more = 1 ∧ mtk s1 0 m1 ≠ -5 ∧ mwalk order u n steps s m 0 = mwalk order u n r s1 m1 done) ∨ (more = 0 ∧ mwalk order u n steps s m 0 = some (done, s1, m1))) →
      zW zX5_goThrough (zC (d + 6)) Q 15 [zR 0, zI steps, zI order, zI (zb u), zI done, zI more, x6] [] g1 := by
    intro r
    induction r with
    | zero =>
      intro done m1 s1 g1 more x6 e hf h16 h8 hw1 h0 hm1
      have hres : mwalk order u n steps s m 0 = some (done, s1, m1) := by
        rcases hm1 with ⟨-, -, q⟩ | ⟨-, q⟩
        · rw [q, mwalk]
        · exact q
      have end_ := end_ done m1 s1 g1 more x6 hf h16 h8 h0 hres
      rcases hm1 with ⟨q, -, -⟩ | ⟨q, -⟩
      · (refine zW.go (zC_om _) (fun K hK => ?_); conv => whnf)
        (refine And.intro (by first | omega | assumption | rfl | exact zin_and | exact ⟨zin_and, by omega⟩ | exact ⟨by omega, zin_and⟩ | exact Nat.le_of_ble_eq_true rfl | exact ⟨Nat.le_of_ble_eq_true rfl, rfl⟩ | exact ⟨Nat.le_of_ble_eq_true rfl, by assumption⟩ | exact ⟨by omega, Nat.le_of_ble_eq_true rfl⟩ | exact ⟨⟨by assumption, by omega⟩, Nat.le_of_ble_eq_true rfl⟩ | decide) ?_; conv => whnf)
        (refine And.intro (fun h => by omega) (fun h => ?_); conv => whnf)
        (refine And.intro (by first | omega | assumption | rfl | exact zin_and | exact ⟨zin_and, by omega⟩ | exact ⟨by omega, zin_and⟩ | exact Nat.le_of_ble_eq_true rfl | exact ⟨Nat.le_of_ble_eq_true rfl, rfl⟩ | exact ⟨Nat.le_of_ble_eq_true rfl, by assumption⟩ | exact ⟨by omega, Nat.le_of_ble_eq_true rfl⟩ | exact ⟨⟨by assumption, by omega⟩, Nat.le_of_ble_eq_true rfl⟩ | decide) ?_; conv => whnf)
        (refine And.intro (fun h => ?_) (fun h => by omega); conv => whnf)
        exact hK _ _ _ _ end_
      · (refine zW.go (zC_om _) (fun K hK => ?_); conv => whnf)
        (refine And.intro (by first | omega | assumption | rfl | exact zin_and | exact ⟨zin_and, by omega⟩ | exact ⟨by omega, zin_and⟩ | exact Nat.le_of_ble_eq_true rfl | exact ⟨Nat.le_of_ble_eq_true rfl, rfl⟩ | exact ⟨Nat.le_of_ble_eq_true rfl, by assumption⟩ | exact ⟨by omega, Nat.le_of_ble_eq_true rfl⟩ | exact ⟨⟨by assumption, by omega⟩, Nat.le_of_ble_eq_true rfl⟩ | decide) ?_; conv => whnf)
        (refine And.intro (fun h => ?_) (fun h => by omega); conv => whnf)
        exact hK _ _ _ _ end_
    | succ r ih =>
      intro done m1 s1 g1 more x6 e hf h16 h8 hw1 h0 hm1
      rcases hm1 with ⟨q, q2, q3⟩ | ⟨q, q2⟩
      · rw [mwalk, if_neg (fun w => q2 ((mtk_none m1).1 w))] at q3
        obtain ⟨k, hk, hkm, hop⟩ := mtk_k (s := s1) (order := order) (m := m1) (fun w => q2 ((mtk_none m1).1 w))
        rw [hk] at q3
        have hr4 := mtakes_r s1 n k
        (refine zW.go (zC_om _) (fun K hK => ?_); conv => whnf)
        (refine And.intro (by first | omega | assumption | rfl | exact zin_and | exact ⟨zin_and, by omega⟩ | exact ⟨by omega, zin_and⟩ | exact Nat.le_of_ble_eq_true rfl | exact ⟨Nat.le_of_ble_eq_true rfl, rfl⟩ | exact ⟨Nat.le_of_ble_eq_true rfl, by assumption⟩ | exact ⟨by omega, Nat.le_of_ble_eq_true rfl⟩ | exact ⟨⟨by assumption, by omega⟩, Nat.le_of_ble_eq_true rfl⟩ | decide) ?_; conv => whnf)
        (refine And.intro (fun h => by omega) (fun h => ?_); conv => whnf)
        (refine And.intro (by first | omega | assumption | rfl | exact zin_and | exact ⟨zin_and, by omega⟩ | exact ⟨by omega, zin_and⟩ | exact Nat.le_of_ble_eq_true rfl | exact ⟨Nat.le_of_ble_eq_true rfl, rfl⟩ | exact ⟨Nat.le_of_ble_eq_true rfl, by assumption⟩ | exact ⟨by omega, Nat.le_of_ble_eq_true rfl⟩ | exact ⟨⟨by assumption, by omega⟩, Nat.le_of_ble_eq_true rfl⟩ | decide) ?_; conv => whnf)
        (refine And.intro (fun h => by omega) (fun h => ?_); conv => whnf)
        (refine And.intro (by first | omega | assumption | rfl | exact zin_and | exact ⟨zin_and, by omega⟩ | exact ⟨by omega, zin_and⟩ | exact Nat.le_of_ble_eq_true rfl | exact ⟨Nat.le_of_ble_eq_true rfl, rfl⟩ | exact ⟨Nat.le_of_ble_eq_true rfl, by assumption⟩ | exact ⟨by omega, Nat.le_of_ble_eq_true rfl⟩ | exact ⟨⟨by assumption, by omega⟩, Nat.le_of_ble_eq_true rfl⟩ | decide) ?_; conv => whnf)
        (refine And.intro (by first | omega | assumption | rfl | exact zin_and | exact ⟨zin_and, by omega⟩ | exact ⟨by omega, zin_and⟩ | exact Nat.le_of_ble_eq_true rfl | exact ⟨Nat.le_of_ble_eq_true rfl, rfl⟩ | exact ⟨Nat.le_of_ble_eq_true rfl, by assumption⟩ | exact ⟨by omega, Nat.le_of_ble_eq_true rfl⟩ | exact ⟨⟨by assumption, by omega⟩, Nat.le_of_ble_eq_true rfl⟩ | decide) ?_; conv => whnf)
        (refine c_takeStep zKC_8 h8 hw1.1 ho hk (fun g2 hf2 hr2 => ?_); conv => whnf)
        have hw2 := minw_takes hw1 hkm hop
        have hff : ∀ j, (j < 8 ∨ 23 < j) → g2 j = g j := fun j c => by rw [hf2 j (by omega) (by omega) (by omega), hf j c]
        have h162 : RelC g2 16 p n m := h16.frame (fun j c1 c2 => hf2 j (by omega) (by omega) (by omega)) hn
        generalize mtakes s1 n k = T at *
        obtain ⟨hv, s2⟩ := T
        have hr4 : hv = 1 ∨ hv = 2 ∨ hv = -3 ∨ hv = 4 := hr4
        by_cases c1 : hv = -3
        · rw [if_pos c1] at q3
          (refine And.intro (by first | omega | assumption | rfl | exact zin_and | exact ⟨zin_and, by omega⟩ | exact ⟨by omega, zin_and⟩ | exact Nat.le_of_ble_eq_true rfl | exact ⟨Nat.le_of_ble_eq_true rfl, rfl⟩ | exact ⟨Nat.le_of_ble_eq_true rfl, by assumption⟩ | exact ⟨by omega, Nat.le_of_ble_eq_true rfl⟩ | exact ⟨⟨by assumption, by omega⟩, Nat.le_of_ble_eq_true rfl⟩ | decide) ?_; conv => whnf)
          (refine And.intro (fun h => by omega) (fun h => ?_); conv => whnf)
          (refine And.intro (by first | omega | assumption | rfl | exact zin_and | exact ⟨zin_and, by omega⟩ | exact ⟨by omega, zin_and⟩ | exact Nat.le_of_ble_eq_true rfl | exact ⟨Nat.le_of_ble_eq_true rfl, rfl⟩ | exact ⟨Nat.le_of_ble_eq_true rfl, by assumption⟩ | exact ⟨by omega, Nat.le_of_ble_eq_true rfl⟩ | exact ⟨⟨by assumption, by omega⟩, Nat.le_of_ble_eq_true rfl⟩ | decide) ?_; conv => whnf)
          (refine And.intro (by first | omega | assumption | rfl | exact zin_and | exact ⟨zin_and, by omega⟩ | exact ⟨by omega, zin_and⟩ | exact Nat.le_of_ble_eq_true rfl | exact ⟨Nat.le_of_ble_eq_true rfl, rfl⟩ | exact ⟨Nat.le_of_ble_eq_true rfl, by assumption⟩ | exact ⟨by omega, Nat.le_of_ble_eq_true rfl⟩ | exact ⟨⟨by assumption, by omega⟩, Nat.le_of_ble_eq_true rfl⟩ | decide) ?_; conv => whnf)
          (refine And.intro (by first | omega | assumption | rfl | exact zin_and | exact ⟨zin_and, by omega⟩ | exact ⟨by omega, zin_and⟩ | exact Nat.le_of_ble_eq_true rfl | exact ⟨Nat.le_of_ble_eq_true rfl, rfl⟩ | exact ⟨Nat.le_of_ble_eq_true rfl, by assumption⟩ | exact ⟨by omega, Nat.le_of_ble_eq_true rfl⟩ | exact ⟨⟨by assumption, by omega⟩, Nat.le_of_ble_eq_true rfl⟩ | decide) ?_; conv => whnf)
          (refine c_stateCopy zKC_16 zKC_8 (by omega) h162 hn hm (fun g3 hf3 hr3 => ?_); conv => whnf)
          (refine And.intro (by first | omega | assumption | rfl | exact zin_and | exact ⟨zin_and, by omega⟩ | exact ⟨by omega, zin_and⟩ | exact Nat.le_of_ble_eq_true rfl | exact ⟨Nat.le_of_ble_eq_true rfl, rfl⟩ | exact ⟨Nat.le_of_ble_eq_true rfl, by assumption⟩ | exact ⟨by omega, Nat.le_of_ble_eq_true rfl⟩ | exact ⟨⟨by assumption, by omega⟩, Nat.le_of_ble_eq_true rfl⟩ | decide) ?_; conv => whnf)
          refine hQ3 q3 g3 (fun j c => ?_) hr3
          rw [hf3 j (by omega), hff j c]
        · rw [if_neg c1] at q3
          have hr2 : RelC g2 8 s2 n (if hv = 4 then m1 + 2 else m1) := hr2 c1
          have hw2 : minw s2 n (if hv = 4 then m1 + 2 else m1) := hw2 c1
          have q3 : mwalk order u n steps s m 0 = if u = true ∧ hv ≠ 4 then some (done + 1, s2, m1) else mwalk order u n r s2 (if hv = 4 then m1 + 2 else m1) (done + 1) := q3
          have hm2 : ¬ hv = 4 → (if hv = 4 then m1 + 2 else m1) = m1 := fun c => if_neg c
          generalize (if hv = 4 then m1 + 2 else m1) = m2 at *
          have ih := ih (done + 1) m2 s2 g2
          (refine And.intro (by first | omega | assumption | rfl | exact zin_and | exact ⟨zin_and, by omega⟩ | exact ⟨by omega, zin_and⟩ | exact Nat.le_of_ble_eq_true rfl | exact ⟨Nat.le_of_ble_eq_true rfl, rfl⟩ | exact ⟨Nat.le_of_ble_eq_true rfl, by assumption⟩ | exact ⟨by omega, Nat.le_of_ble_eq_true rfl⟩ | exact ⟨⟨by assumption, by omega⟩, Nat.le_of_ble_eq_true rfl⟩ | decide) ?_; conv => whnf)
          (refine And.intro (fun h => ?_) (fun h => by omega); conv => whnf)
          (refine hK _ _ _ _ (zW.go (zC_om _) (fun K hK => ?_)); conv => whnf)
          (refine And.intro (by first | omega | assumption | rfl | exact zin_and | exact ⟨zin_and, by omega⟩ | exact ⟨by omega, zin_and⟩ | exact Nat.le_of_ble_eq_true rfl | exact ⟨Nat.le_of_ble_eq_true rfl, rfl⟩ | exact ⟨Nat.le_of_ble_eq_true rfl, by assumption⟩ | exact ⟨by omega, Nat.le_of_ble_eq_true rfl⟩ | exact ⟨⟨by assumption, by omega⟩, Nat.le_of_ble_eq_true rfl⟩ | decide) ?_; conv => whnf)
          (refine And.intro (by first | omega | assumption | rfl | exact zin_and | exact ⟨zin_and, by omega⟩ | exact ⟨by omega, zin_and⟩ | exact Nat.le_of_ble_eq_true rfl | exact ⟨Nat.le_of_ble_eq_true rfl, rfl⟩ | exact ⟨Nat.le_of_ble_eq_true rfl, by assumption⟩ | exact ⟨by omega, Nat.le_of_ble_eq_true rfl⟩ | exact ⟨⟨by assumption, by omega⟩, Nat.le_of_ble_eq_true rfl⟩ | decide) ?_; conv => whnf)
          (refine c_goesOn zKC_8 hr2 hw2.m400 ?_; conv => whnf)
          by_cases c2 : mtk s2 0 m2 = -5
          · rw [if_pos c2]
            have hres : mwalk order u n steps s m 0 = some (done + 1, s2, m2) := by
              rw [q3]
              by_cases c3 : u = true ∧ hv ≠ 4
              · rw [if_pos c3, hm2 c3.2]
              · rw [if_neg c3]
                cases r with
                | zero => rw [mwalk]
                | succ r => rw [mwalk, if_pos ((mtk_none m2).2 c2)]
            (refine And.intro (by first | omega | assumption | rfl | exact zin_and | exact ⟨zin_and, by omega⟩ | exact ⟨by omega, zin_and⟩ | exact Nat.le_of_ble_eq_true rfl | exact ⟨Nat.le_of_ble_eq_true rfl, rfl⟩ | exact ⟨Nat.le_of_ble_eq_true rfl, by assumption⟩ | exact ⟨by omega, Nat.le_of_ble_eq_true rfl⟩ | exact ⟨⟨by assumption, by omega⟩, Nat.le_of_ble_eq_true rfl⟩ | decide) ?_; conv => whnf)
            (refine And.intro (fun h => ?_) (fun h => by omega); conv => whnf)
            (refine hK _ _ _ _ (zW.go (zC_om _) (fun K hK => ?_)); conv => whnf)
            exact hK _ _ _ _ (ih 0 _ (by omega) hff h162 hr2 hw2 h0 (Or.inr ⟨rfl, hres⟩))
          · rw [if_neg c2]
            (refine And.intro (by first | omega | assumption | rfl | exact zin_and | exact ⟨zin_and, by omega⟩ | exact ⟨by omega, zin_and⟩ | exact Nat.le_of_ble_eq_true rfl | exact ⟨Nat.le_of_ble_eq_true rfl, rfl⟩ | exact ⟨Nat.le_of_ble_eq_true rfl, by assumption⟩ | exact ⟨by omega, Nat.le_of_ble_eq_true rfl⟩ | exact ⟨⟨by assumption, by omega⟩, Nat.le_of_ble_eq_true rfl⟩ | decide) ?_; conv => whnf)
            (refine And.intro (fun h => by omega) (fun h => ?_); conv => whnf)
            cases u with
            | false =>
              rw [if_neg (fun w => absurd w.1 (by decide))] at q3
              rw [zb_f]
              (refine And.intro (by first | omega | assumption | rfl | exact zin_and | exact ⟨zin_and, by omega⟩ | exact ⟨by omega, zin_and⟩ | exact Nat.le_of_ble_eq_true rfl | exact ⟨Nat.le_of_ble_eq_true rfl, rfl⟩ | exact ⟨Nat.le_of_ble_eq_true rfl, by assumption⟩ | exact ⟨by omega, Nat.le_of_ble_eq_true rfl⟩ | exact ⟨⟨by assumption, by omega⟩, Nat.le_of_ble_eq_true rfl⟩ | decide) ?_; conv => whnf)
              (refine And.intro (fun h => ?_) (fun h => by omega); conv => whnf)
              (refine hK _ _ _ _ (zW.go (zC_om _) (fun K hK => ?_)); conv => whnf)
              refine hK _ _ _ _ (zW.go (zC_om _) (fun K hK => ?_))
              conv => whnf
              exact hK _ _ _ _ (ih 1 _ (by omega) hff h162 hr2 hw2 h0 (Or.inl ⟨rfl, c2, q3⟩))
            | true =>
              rw [zb_t]
              by_cases c4 : hv = 4
              · rw [if_neg (fun w => w.2 c4)] at q3
                (refine And.intro (by first | omega | assumption | rfl | exact zin_and | exact ⟨zin_and, by omega⟩ | exact ⟨by omega, zin_and⟩ | exact Nat.le_of_ble_eq_true rfl | exact ⟨Nat.le_of_ble_eq_true rfl, rfl⟩ | exact ⟨Nat.le_of_ble_eq_true rfl, by assumption⟩ | exact ⟨by omega, Nat.le_of_ble_eq_true rfl⟩ | exact ⟨⟨by assumption, by omega⟩, Nat.le_of_ble_eq_true rfl⟩ | decide) ?_; conv => whnf)
                (refine And.intro (fun h => by omega) (fun h => ?_); conv => whnf)
                (refine And.intro (by first | omega | assumption | rfl | exact zin_and | exact ⟨zin_and, by omega⟩ | exact ⟨by omega, zin_and⟩ | exact Nat.le_of_ble_eq_true rfl | exact ⟨Nat.le_of_ble_eq_true rfl, rfl⟩ | exact ⟨Nat.le_of_ble_eq_true rfl, by assumption⟩ | exact ⟨by omega, Nat.le_of_ble_eq_true rfl⟩ | exact ⟨⟨by assumption, by omega⟩, Nat.le_of_ble_eq_true rfl⟩ | decide) ?_; conv => whnf)
                (refine And.intro (fun h => by omega) (fun h => ?_); conv => whnf)
                refine hK _ _ _ _ (zW.go (zC_om _) (fun K hK => ?_))
                conv => whnf
                exact hK _ _ _ _ (ih 1 _ (by omega) hff h162 hr2 hw2 h0 (Or.inl ⟨rfl, c2, q3⟩))
              · rw [if_pos ⟨rfl, c4⟩, ← hm2 c4] at q3
                (refine And.intro (by first | omega | assumption | rfl | exact zin_and | exact ⟨zin_and, by omega⟩ | exact ⟨by omega, zin_and⟩ | exact Nat.le_of_ble_eq_true rfl | exact ⟨Nat.le_of_ble_eq_true rfl, rfl⟩ | exact ⟨Nat.le_of_ble_eq_true rfl, by assumption⟩ | exact ⟨by omega, Nat.le_of_ble_eq_true rfl⟩ | exact ⟨⟨by assumption, by omega⟩, Nat.le_of_ble_eq_true rfl⟩ | decide) ?_; conv => whnf)
                (refine And.intro (fun h => by omega) (fun h => ?_); conv => whnf)
                (refine And.intro (by first | omega | assumption | rfl | exact zin_and | exact ⟨zin_and, by omega⟩ | exact ⟨by omega, zin_and⟩ | exact Nat.le_of_ble_eq_true rfl | exact ⟨Nat.le_of_ble_eq_true rfl, rfl⟩ | exact ⟨Nat.le_of_ble_eq_true rfl, by assumption⟩ | exact ⟨by omega, Nat.le_of_ble_eq_true rfl⟩ | exact ⟨⟨by assumption, by omega⟩, Nat.le_of_ble_eq_true rfl⟩ | decide) ?_; conv => whnf)
                (refine And.intro (fun h => ?_) (fun h => by omega); conv => whnf)
                (refine hK _ _ _ _ (zW.go (zC_om _) (fun K hK => ?_)); conv => whnf)
                exact hK _ _ _ _ (ih 0 _ (by omega) hff h162 hr2 hw2 h0 (Or.inr ⟨rfl, q3⟩))
      · have end_ := end_ done m1 s1 g1 more x6 hf h16 h8 h0 q2
        (refine zW.go (zC_om _) (fun K hK => ?_); conv => whnf)
        (refine And.intro (by first | omega | assumption | rfl | exact zin_and | exact ⟨zin_and, by omega⟩ | exact ⟨by omega, zin_and⟩ | exact Nat.le_of_ble_eq_true rfl | exact ⟨Nat.le_of_ble_eq_true rfl, rfl⟩ | exact ⟨Nat.le_of_ble_eq_true rfl, by assumption⟩ | exact ⟨by omega, Nat.le_of_ble_eq_true rfl⟩ | exact ⟨⟨by assumption, by omega⟩, Nat.le_of_ble_eq_true rfl⟩ | decide) ?_; conv => whnf)
        (refine And.intro (fun h => ?_) (fun h => by omega); conv => whnf)
        exact hK _ _ _ _ end_
  (refine zW.upto (zC_om _) 15 (fun K hK => ?_); conv => whnf)
  (refine And.intro (by first | omega | assumption | rfl | exact zin_and | exact ⟨zin_and, by omega⟩ | exact ⟨by omega, zin_and⟩ | exact Nat.le_of_ble_eq_true rfl | exact ⟨Nat.le_of_ble_eq_true rfl, rfl⟩ | exact ⟨Nat.le_of_ble_eq_true rfl, by assumption⟩ | exact ⟨by omega, Nat.le_of_ble_eq_true rfl⟩ | exact ⟨⟨by assumption, by omega⟩, Nat.le_of_ble_eq_true rfl⟩ | decide) ?_; conv => whnf)
  (refine And.intro (by first | omega | assumption | rfl | exact zin_and | exact ⟨zin_and, by omega⟩ | exact ⟨by omega, zin_and⟩ | exact Nat.le_of_ble_eq_true rfl | exact ⟨Nat.le_of_ble_eq_true rfl, rfl⟩ | exact ⟨Nat.le_of_ble_eq_true rfl, by assumption⟩ | exact ⟨by omega, Nat.le_of_ble_eq_true rfl⟩ | exact ⟨⟨by assumption, by omega⟩, Nat.le_of_ble_eq_true rfl⟩ | decide) ?_; conv => whnf)
  (refine c_goesOn zKC_8 hr hm ?_; conv => whnf)
  by_cases h0 : mtk s 0 m = -5
  · rw [if_pos h0]
    (refine And.intro (by first | omega | assumption | rfl | exact zin_and | exact ⟨zin_and, by omega⟩ | exact ⟨by omega, zin_and⟩ | exact Nat.le_of_ble_eq_true rfl | exact ⟨Nat.le_of_ble_eq_true rfl, rfl⟩ | exact ⟨Nat.le_of_ble_eq_true rfl, by assumption⟩ | exact ⟨by omega, Nat.le_of_ble_eq_true rfl⟩ | exact ⟨⟨by assumption, by omega⟩, Nat.le_of_ble_eq_true rfl⟩ | decide) ?_; conv => whnf)
    (refine And.intro (fun h => by omega) (fun h => ?_); conv => whnf)
    (refine And.intro (by first | omega | assumption | rfl | exact zin_and | exact ⟨zin_and, by omega⟩ | exact ⟨by omega, zin_and⟩ | exact Nat.le_of_ble_eq_true rfl | exact ⟨Nat.le_of_ble_eq_true rfl, rfl⟩ | exact ⟨Nat.le_of_ble_eq_true rfl, by assumption⟩ | exact ⟨by omega, Nat.le_of_ble_eq_true rfl⟩ | exact ⟨⟨by assumption, by omega⟩, Nat.le_of_ble_eq_true rfl⟩ | decide) ?_; conv => whnf)
    exact hQ4 h0
  · rw [if_neg h0]
    (refine And.intro (by first | omega | assumption | rfl | exact zin_and | exact ⟨zin_and, by omega⟩ | exact ⟨by omega, zin_and⟩ | exact Nat.le_of_ble_eq_true rfl | exact ⟨Nat.le_of_ble_eq_true rfl, rfl⟩ | exact ⟨Nat.le_of_ble_eq_true rfl, by assumption⟩ | exact ⟨by omega, Nat.le_of_ble_eq_true rfl⟩ | exact ⟨⟨by assumption, by omega⟩, Nat.le_of_ble_eq_true rfl⟩ | decide) ?_; conv => whnf)
    (refine And.intro (fun h => ?_) (fun h => by omega); conv => whnf)
    (refine hK _ _ _ _ ?_)
    (refine zW.upto (zC_om _) 9 (fun K hK => ?_); conv => whnf)
    (refine And.intro (by first | omega | assumption | rfl | exact zin_and | exact ⟨zin_and, by omega⟩ | exact ⟨by omega, zin_and⟩ | exact Nat.le_of_ble_eq_true rfl | exact ⟨Nat.le_of_ble_eq_true rfl, rfl⟩ | exact ⟨Nat.le_of_ble_eq_true rfl, by assumption⟩ | exact ⟨by omega, Nat.le_of_ble_eq_true rfl⟩ | exact ⟨⟨by assumption, by omega⟩, Nat.le_of_ble_eq_true rfl⟩ | decide) ?_; conv => whnf)
    (refine And.intro (by first | omega | assumption | rfl | exact zin_and | exact ⟨zin_and, by omega⟩ | exact ⟨by omega, zin_and⟩ | exact Nat.le_of_ble_eq_true rfl | exact ⟨Nat.le_of_ble_eq_true rfl, rfl⟩ | exact ⟨Nat.le_of_ble_eq_true rfl, by assumption⟩ | exact ⟨by omega, Nat.le_of_ble_eq_true rfl⟩ | exact ⟨⟨by assumption, by omega⟩, Nat.le_of_ble_eq_true rfl⟩ | decide) ?_; conv => whnf)
    (refine And.intro (by first | omega | assumption | rfl | exact zin_and | exact ⟨zin_and, by omega⟩ | exact ⟨by omega, zin_and⟩ | exact Nat.le_of_ble_eq_true rfl | exact ⟨Nat.le_of_ble_eq_true rfl, rfl⟩ | exact ⟨Nat.le_of_ble_eq_true rfl, by assumption⟩ | exact ⟨by omega, Nat.le_of_ble_eq_true rfl⟩ | exact ⟨⟨by assumption, by omega⟩, Nat.le_of_ble_eq_true rfl⟩ | decide) ?_; conv => whnf)
    (refine c_stateCopy zKC_8 zKC_16 (by omega) hrp hn hm (fun g1 hf1 hr1 => ?_); conv => whnf)
    exact hK _ _ _ _ (loop steps 0 m s g1 1 _ (by omega) (fun j c => hf1 j (by omega)) hr1 (hr.frame (fun j c1 c2 => hf1 j (by omega)) hn) hw h0 (Or.inl ⟨rfl, h0, rfl⟩))
end CW
