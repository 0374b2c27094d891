/-! the class puts its things in order -/
/-- a bag whose order is not yet made -/
def RelU (g : zM) (k : Nat) (s : zS) (n : Nat) : Prop := g k (4 : Nat) = (n : Int) ∧ g k (5 : Nat) = s 1 ∧ ∀ t : Nat, t < n → g (k + 1) t = s (9 + t) ∧ g (k + 2) t = s (21 + t) ∧ g (k + 3) t = s (33 + t)
theorem RelB.U {g : zM} {k : Nat} {s : zS} {n : Nat} (h : RelB g k s n) : RelU g k s n := ⟨h.1, h.2.1, fun t ht => ⟨(h.2.2 t ht).1, (h.2.2 t ht).2.1, (h.2.2 t ht).2.2.1⟩⟩
theorem mah_later {s : zS} {k t : Nat} (h : t < k) : mah s k t = true ↔ s (9 + t) * s (21 + k) < s (9 + k) * s (21 + t) := by
  rw [mah_iff]
  constructor
  · rintro (h1 | ⟨-, h1⟩)
    · exact h1
    · omega
  · exact Or.inl
theorem mpl_succ {s : zS} {t u : Nat} : mpl s (t + 1) u = mpl s t u + if mah s t u = true then 1 else 0 := rfl
/-- a thing goes in where it belongs -/
theorem mor_in {s : zS} {t p : Nat} (hp : mpos s (t + 1)) (hpt : p ≤ t) (h1 : ∀ j, p ≤ j → j < t → mah s t (mor s t j) = true) (h2 : p = 0 ∨ mah s t (mor s t (p - 1)) = false) (j : Nat) (hj : j ≤ t) : (mor s (t + 1) j : Nat) = if j < p then mor s t j else if j = p then t else mor s t (j - 1) := by
  have hpt' : mpos s t := fun u hu => hp u (by omega)
  have low : ∀ i, i < p → mah s t (mor s t i) = false := by
    intro i hi
    rcases h2 with h2 | h2
    · omega
    · by_cases e : i = p - 1
      · rw [e]; exact h2
      · have a1 := mor_spec hpt' (show i < t by omega)
        have a2 := mor_spec hpt' (show p - 1 < t by omega)
        cases hm : mah s t (mor s t i) with
        | false => rfl
        | true =>
          exfalso
          have b1 : mah s (mor s t i) (mor s t (p - 1)) = true := by
            rcases mah_tot (s := s) (k := mor s t i) (t := mor s t (p - 1)) (fun w => by have := mor_inj hpt' (by omega) (by omega) w; omega) with w | w
            · exact w
            · have := mpl_mono hpt' a2.1 a1.1 w
              omega
          have b2 := mah_trans hp (show t < t + 1 by omega) (show mor s t i < t + 1 by omega) (show mor s t (p - 1) < t + 1 by omega) hm b1
          rw [h2] at b2
          exact absurd b2 (by decide)
  have pos : ∀ i, i < t → mpl s (t + 1) (mor s t i) = if i < p then i else i + 1 := by
    intro i hi
    have a1 := mor_spec hpt' hi
    rw [mpl_succ, a1.2]
    by_cases e : i < p
    · rw [low i e, if_pos e, if_neg (by decide), Nat.add_zero]
    · rw [h1 i (by omega) hi, if_neg e, if_pos rfl]
  have hv := mor_spec hp (show j < t + 1 by omega)
  have hback : ∀ i, i < t → mor s (t + 1) (if i < p then i else i + 1) = mor s t i := by
    intro i hi
    rw [← pos i hi]
    exact mor_pl hp (by have := (mor_spec hpt' hi).1; omega)
  by_cases c1 : j < p
  · have := hback j (by omega)
    rw [if_pos c1] at this
    rw [if_pos c1, this]
  · rw [if_neg c1]
    by_cases c2 : j = p
    · rw [if_pos c2]
      by_cases c3 : mor s (t + 1) j < t
      · exfalso
        have i1 := mpl_lt (s := s) c3
        have i2 := mor_pl hpt' c3
        have i3 := pos _ i1
        rw [i2, hv.2] at i3
        split at i3 <;> omega
      · omega
    · have := hback (j - 1) (by omega)
      rw [if_neg (by omega), show j - 1 + 1 = j by omega] at this
      rw [if_neg c2, this]
section CO
variable {g : zM} {k n : Nat} {s : zS} {d : Nat} {Q : zP}
theorem c_knows (hk : zKB k) (hn : g k (4 : Nat) = (n : Int)) (hn12 : n ≤ 12) {t : Int} (ht : zin t) (hQ : Q (some (zI (if 0 ≤ t ∧ t < n then 1 else 0))) g) : zC (d + 1) 1 [zR k, zI t] g Q := by
  obtain ⟨hk0, -⟩ := id hk
  refine zC.go zm_X0_knows ⟨rfl, rfl⟩ rfl ?_
  (refine zW.go (zC_om _) (fun K hK => ?_); conv => whnf)
  (repeat' first | (refine hK _ _ _ _ (zW.go (zC_om _) (fun K hK => ?_)); conv => whnf) | (refine And.intro (by first | omega | assumption | rfl | exact zin_and | exact ⟨zin_and, by omega⟩ | exact ⟨by omega, zin_and⟩ | exact Nat.le_of_ble_eq_true rfl | exact ⟨Nat.le_of_ble_eq_true rfl, rfl⟩ | exact ⟨Nat.le_of_ble_eq_true rfl, by assumption⟩ | exact ⟨by omega, Nat.le_of_ble_eq_true rfl⟩ | exact ⟨⟨by assumption, by omega⟩, Nat.le_of_ble_eq_true rfl⟩ | decide) ?_; conv => whnf) | (refine And.intro (fun h => ?_) (fun h => ?_) <;> conv => whnf) | (intro h; conv => whnf))
  all_goals (refine zQe hQ ?_; split <;> omega)
theorem mprod {s : zS} {n t u : Nat} (hok : mok s n) (ht : t < n) (hu : u < n) : 0 ≤ s (9 + t) * s (21 + u) ∧ s (9 + t) * s (21 + u) ≤ 4950 := by
  have a := (hok.2.2.2 t ht).1
  have b := (hok.2.2.2 u hu).2.1
  constructor
  · exact Int.mul_nonneg (by omega) (by omega)
  · have := Int.mul_le_mul a.2 b.2 (by omega) (by omega)
    omega
theorem c_isAhead (hk : zKB k) (hr : RelU g k s n) (hok : mok s n) {t u : Nat} (ht : t < n) (hu : u < t) (hQ : Q (some (zI (zb (mah s t u)))) g) : zC (d + 2) 7 [zR k, zI t, zI u] g Q := by
  obtain ⟨hk0, -⟩ := id hk
  have hn := hok.2.1
  obtain ⟨a1, a2, -⟩ := hr.2.2 t ht
  obtain ⟨b1, b2, -⟩ := hr.2.2 u (by omega)
  have p1 := mprod hok ht (show u < n by omega)
  have p2 := mprod hok (show u < n by omega) ht
  refine zC.go zm_X0_isAhead ⟨rfl, rfl⟩ rfl ?_
  (refine zW.go (zC_om _) (fun K hK => ?_); conv => whnf)
  (refine And.intro (by first | omega | assumption | rfl | exact zin_and | exact ⟨zin_and, by omega⟩ | exact ⟨by omega, zin_and⟩ | exact Nat.le_of_ble_eq_true rfl | exact ⟨Nat.le_of_ble_eq_true rfl, rfl⟩ | exact ⟨Nat.le_of_ble_eq_true rfl, by assumption⟩ | exact ⟨by omega, Nat.le_of_ble_eq_true rfl⟩ | exact ⟨⟨by assumption, by omega⟩, Nat.le_of_ble_eq_true rfl⟩ | decide) ?_; conv => whnf)
  (refine And.intro (by first | omega | assumption | rfl | exact zin_and | exact ⟨zin_and, by omega⟩ | exact ⟨by omega, zin_and⟩ | exact Nat.le_of_ble_eq_true rfl | exact ⟨Nat.le_of_ble_eq_true rfl, rfl⟩ | exact ⟨Nat.le_of_ble_eq_true rfl, by assumption⟩ | exact ⟨by omega, Nat.le_of_ble_eq_true rfl⟩ | exact ⟨⟨by assumption, by omega⟩, Nat.le_of_ble_eq_true rfl⟩ | decide) ?_; conv => whnf)
  (refine c_at hk.2.1 (by omega) a1 ?_; conv => whnf)
  (refine And.intro (by first | omega | assumption | rfl | exact zin_and | exact ⟨zin_and, by omega⟩ | exact ⟨by omega, zin_and⟩ | exact Nat.le_of_ble_eq_true rfl | exact ⟨Nat.le_of_ble_eq_true rfl, rfl⟩ | exact ⟨Nat.le_of_ble_eq_true rfl, by assumption⟩ | exact ⟨by omega, Nat.le_of_ble_eq_true rfl⟩ | exact ⟨⟨by assumption, by omega⟩, Nat.le_of_ble_eq_true rfl⟩ | decide) ?_; conv => whnf)
  (refine And.intro (by first | omega | assumption | rfl | exact zin_and | exact ⟨zin_and, by omega⟩ | exact ⟨by omega, zin_and⟩ | exact Nat.le_of_ble_eq_true rfl | exact ⟨Nat.le_of_ble_eq_true rfl, rfl⟩ | exact ⟨Nat.le_of_ble_eq_true rfl, by assumption⟩ | exact ⟨by omega, Nat.le_of_ble_eq_true rfl⟩ | exact ⟨⟨by assumption, by omega⟩, Nat.le_of_ble_eq_true rfl⟩ | decide) ?_; conv => whnf)
  (refine c_at hk.2.2.1 (by omega) b2 ?_; conv => whnf)
  (refine And.intro (by first | omega | assumption | rfl | exact zin_and | exact ⟨zin_and, by omega⟩ | exact ⟨by omega, zin_and⟩ | exact Nat.le_of_ble_eq_true rfl | exact ⟨Nat.le_of_ble_eq_true rfl, rfl⟩ | exact ⟨Nat.le_of_ble_eq_true rfl, by assumption⟩ | exact ⟨by omega, Nat.le_of_ble_eq_true rfl⟩ | exact ⟨⟨by assumption, by omega⟩, Nat.le_of_ble_eq_true rfl⟩ | decide) ?_; conv => whnf)
  (refine And.intro (by first | omega | assumption | rfl | exact zin_and | exact ⟨zin_and, by omega⟩ | exact ⟨by omega, zin_and⟩ | exact Nat.le_of_ble_eq_true rfl | exact ⟨Nat.le_of_ble_eq_true rfl, rfl⟩ | exact ⟨Nat.le_of_ble_eq_true rfl, by assumption⟩ | exact ⟨by omega, Nat.le_of_ble_eq_true rfl⟩ | exact ⟨⟨by assumption, by omega⟩, Nat.le_of_ble_eq_true rfl⟩ | decide) ?_; conv => whnf)
  (refine c_at hk.2.1 (by omega) b1 ?_; conv => whnf)
  (refine And.intro (by first | omega | assumption | rfl | exact zin_and | exact ⟨zin_and, by omega⟩ | exact ⟨by omega, zin_and⟩ | exact Nat.le_of_ble_eq_true rfl | exact ⟨Nat.le_of_ble_eq_true rfl, rfl⟩ | exact ⟨Nat.le_of_ble_eq_true rfl, by assumption⟩ | exact ⟨by omega, Nat.le_of_ble_eq_true rfl⟩ | exact ⟨⟨by assumption, by omega⟩, Nat.le_of_ble_eq_true rfl⟩ | decide) ?_; conv => whnf)
  (refine And.intro (by first | omega | assumption | rfl | exact zin_and | exact ⟨zin_and, by omega⟩ | exact ⟨by omega, zin_and⟩ | exact Nat.le_of_ble_eq_true rfl | exact ⟨Nat.le_of_ble_eq_true rfl, rfl⟩ | exact ⟨Nat.le_of_ble_eq_true rfl, by assumption⟩ | exact ⟨by omega, Nat.le_of_ble_eq_true rfl⟩ | exact ⟨⟨by assumption, by omega⟩, Nat.le_of_ble_eq_true rfl⟩ | decide) ?_; conv => whnf)
  (refine c_at hk.2.2.1 (by omega) a2 ?_; conv => whnf)
  (refine And.intro (by first | omega | assumption | rfl | exact zin_and | exact ⟨zin_and, by omega⟩ | exact ⟨by omega, zin_and⟩ | exact Nat.le_of_ble_eq_true rfl | exact ⟨Nat.le_of_ble_eq_true rfl, rfl⟩ | exact ⟨Nat.le_of_ble_eq_true rfl, by assumption⟩ | exact ⟨by omega, Nat.le_of_ble_eq_true rfl⟩ | exact ⟨⟨by assumption, by omega⟩, Nat.le_of_ble_eq_true rfl⟩ | decide) ?_; conv => whnf)
  by_cases h : s (9 + u) * s (21 + t) < s (9 + t) * s (21 + u)
  · rw [(mah_later hu).2 h] at hQ
    (refine And.intro (fun h => by omega) (fun h => ?_); conv => whnf)
    (repeat' first | (refine hK _ _ _ _ (zW.go (zC_om _) (fun K hK => ?_)); conv => whnf) | (refine And.intro (by first | omega | assumption | rfl | exact zin_and | exact ⟨zin_and, by omega⟩ | exact ⟨by omega, zin_and⟩ | exact Nat.le_of_ble_eq_true rfl | exact ⟨Nat.le_of_ble_eq_true rfl, rfl⟩ | exact ⟨Nat.le_of_ble_eq_true rfl, by assumption⟩ | exact ⟨by omega, Nat.le_of_ble_eq_true rfl⟩ | exact ⟨⟨by assumption, by omega⟩, Nat.le_of_ble_eq_true rfl⟩ | decide) ?_; conv => whnf) | (refine And.intro (fun h => ?_) (fun h => ?_) <;> conv => whnf) | (intro h; conv => whnf))
    exact hQ
  · have : mah s t u = false := by
      cases hm : mah s t u with
      | false => rfl
      | true => exact absurd ((mah_later hu).1 hm) h
    rw [this] at hQ
    (refine And.intro (fun h => ?_) (fun h => by omega); conv => whnf)
    (repeat' first | (refine hK _ _ _ _ (zW.go (zC_om _) (fun K hK => ?_)); conv => whnf) | (refine And.intro (by first | omega | assumption | rfl | exact zin_and | exact ⟨zin_and, by omega⟩ | exact ⟨by omega, zin_and⟩ | exact Nat.le_of_ble_eq_true rfl | exact ⟨Nat.le_of_ble_eq_true rfl, rfl⟩ | exact ⟨Nat.le_of_ble_eq_true rfl, by assumption⟩ | exact ⟨by omega, Nat.le_of_ble_eq_true rfl⟩ | exact ⟨⟨by assumption, by omega⟩, Nat.le_of_ble_eq_true rfl⟩ | decide) ?_; conv => whnf) | (refine And.intro (fun h => ?_) (fun h => ?_) <;> conv => whnf) | (intro h; conv => whnf))
    exact hQ
theorem c_placeOf (hk : zKB k) (hr : RelB g k s n) (hok : mok s n) {t : Nat} (ht : t < n) (hQ : Q (some (zI (mpl s n t : Nat))) g) : zC (d + 2) 8 [zR k, zI t] g Q := by
  obtain ⟨hk0, -⟩ := id hk
  have hn := hok.2.1
  have hn4 := hr.1
  have hp := hok.pos
  refine zC.go zm_X0_placeOf ⟨rfl, rfl⟩ rfl ?_
  (refine zW.upto (zC_om _) 2 (fun K hK => ?_); conv => whnf)
  have go : ∀ (r j : Nat), j + r = mpl s n t → zW zX0_placeOf (zC (d + 1)) Q 2 [zR k, zI t, zI j] [] g := by
    intro r
    have hlt := mpl_lt (s := s) ht
    induction r with
    | zero =>
      intro j e
      obtain ⟨-, -, -, a4⟩ := hr.2.2 j (by omega)
      have : mor s n j = t := by
        rw [show j = mpl s n t by omega]
        exact mor_pl hp ht
      rw [this] at a4
      (refine zW.go (zC_om _) (fun K hK => ?_); conv => whnf)
      (refine And.intro (by first | omega | assumption | rfl | exact zin_and | exact ⟨zin_and, by omega⟩ | exact ⟨by omega, zin_and⟩ | exact Nat.le_of_ble_eq_true rfl | exact ⟨Nat.le_of_ble_eq_true rfl, rfl⟩ | exact ⟨Nat.le_of_ble_eq_true rfl, by assumption⟩ | exact ⟨by omega, Nat.le_of_ble_eq_true rfl⟩ | exact ⟨⟨by assumption, by omega⟩, Nat.le_of_ble_eq_true rfl⟩ | decide) ?_; conv => whnf)
      (refine And.intro (by first | omega | assumption | rfl | exact zin_and | exact ⟨zin_and, by omega⟩ | exact ⟨by omega, zin_and⟩ | exact Nat.le_of_ble_eq_true rfl | exact ⟨Nat.le_of_ble_eq_true rfl, rfl⟩ | exact ⟨Nat.le_of_ble_eq_true rfl, by assumption⟩ | exact ⟨by omega, Nat.le_of_ble_eq_true rfl⟩ | exact ⟨⟨by assumption, by omega⟩, Nat.le_of_ble_eq_true rfl⟩ | decide) ?_; conv => whnf)
      (refine And.intro (fun h => by omega) (fun h => ?_); conv => whnf)
      (refine And.intro (by first | omega | assumption | rfl | exact zin_and | exact ⟨zin_and, by omega⟩ | exact ⟨by omega, zin_and⟩ | exact Nat.le_of_ble_eq_true rfl | exact ⟨Nat.le_of_ble_eq_true rfl, rfl⟩ | exact ⟨Nat.le_of_ble_eq_true rfl, by assumption⟩ | exact ⟨by omega, Nat.le_of_ble_eq_true rfl⟩ | exact ⟨⟨by assumption, by omega⟩, Nat.le_of_ble_eq_true rfl⟩ | decide) ?_; conv => whnf)
      (refine And.intro (by first | omega | assumption | rfl | exact zin_and | exact ⟨zin_and, by omega⟩ | exact ⟨by omega, zin_and⟩ | exact Nat.le_of_ble_eq_true rfl | exact ⟨Nat.le_of_ble_eq_true rfl, rfl⟩ | exact ⟨Nat.le_of_ble_eq_true rfl, by assumption⟩ | exact ⟨by omega, Nat.le_of_ble_eq_true rfl⟩ | exact ⟨⟨by assumption, by omega⟩, Nat.le_of_ble_eq_true rfl⟩ | decide) ?_; conv => whnf)
      (refine c_at hk.2.2.2.2 (by omega) a4 ?_; conv => whnf)
      (refine And.intro (by first | omega | assumption | rfl | exact zin_and | exact ⟨zin_and, by omega⟩ | exact ⟨by omega, zin_and⟩ | exact Nat.le_of_ble_eq_true rfl | exact ⟨Nat.le_of_ble_eq_true rfl, rfl⟩ | exact ⟨Nat.le_of_ble_eq_true rfl, by assumption⟩ | exact ⟨by omega, Nat.le_of_ble_eq_true rfl⟩ | exact ⟨⟨by assumption, by omega⟩, Nat.le_of_ble_eq_true rfl⟩ | decide) ?_; conv => whnf)
      (refine And.intro (fun h => by omega) (fun h => ?_); conv => whnf)
      (refine And.intro (by first | omega | assumption | rfl | exact zin_and | exact ⟨zin_and, by omega⟩ | exact ⟨by omega, zin_and⟩ | exact Nat.le_of_ble_eq_true rfl | exact ⟨Nat.le_of_ble_eq_true rfl, rfl⟩ | exact ⟨Nat.le_of_ble_eq_true rfl, by assumption⟩ | exact ⟨by omega, Nat.le_of_ble_eq_true rfl⟩ | exact ⟨⟨by assumption, by omega⟩, Nat.le_of_ble_eq_true rfl⟩ | decide) ?_; conv => whnf)
      refine zQe hQ ?_
      omega
    | succ r ih =>
      intro j e
      obtain ⟨-, -, -, a4⟩ := hr.2.2 j (by omega)
      have hsp := mor_spec hp (show j < n by omega)
      have : mor s n j ≠ t := fun w => by rw [w] at hsp; omega
      (refine zW.go (zC_om _) (fun K hK => ?_); conv => whnf)
      (refine And.intro (by first | omega | assumption | rfl | exact zin_and | exact ⟨zin_and, by omega⟩ | exact ⟨by omega, zin_and⟩ | exact Nat.le_of_ble_eq_true rfl | exact ⟨Nat.le_of_ble_eq_true rfl, rfl⟩ | exact ⟨Nat.le_of_ble_eq_true rfl, by assumption⟩ | exact ⟨by omega, Nat.le_of_ble_eq_true rfl⟩ | exact ⟨⟨by assumption, by omega⟩, Nat.le_of_ble_eq_true rfl⟩ | decide) ?_; conv => whnf)
      (refine And.intro (by first | omega | assumption | rfl | exact zin_and | exact ⟨zin_and, by omega⟩ | exact ⟨by omega, zin_and⟩ | exact Nat.le_of_ble_eq_true rfl | exact ⟨Nat.le_of_ble_eq_true rfl, rfl⟩ | exact ⟨Nat.le_of_ble_eq_true rfl, by assumption⟩ | exact ⟨by omega, Nat.le_of_ble_eq_true rfl⟩ | exact ⟨⟨by assumption, by omega⟩, Nat.le_of_ble_eq_true rfl⟩ | decide) ?_; conv => whnf)
      (refine And.intro (fun h => by omega) (fun h => ?_); conv => whnf)
      (refine And.intro (by first | omega | assumption | rfl | exact zin_and | exact ⟨zin_and, by omega⟩ | exact ⟨by omega, zin_and⟩ | exact Nat.le_of_ble_eq_true rfl | exact ⟨Nat.le_of_ble_eq_true rfl, rfl⟩ | exact ⟨Nat.le_of_ble_eq_true rfl, by assumption⟩ | exact ⟨by omega, Nat.le_of_ble_eq_true rfl⟩ | exact ⟨⟨by assumption, by omega⟩, Nat.le_of_ble_eq_true rfl⟩ | decide) ?_; conv => whnf)
      (refine And.intro (by first | omega | assumption | rfl | exact zin_and | exact ⟨zin_and, by omega⟩ | exact ⟨by omega, zin_and⟩ | exact Nat.le_of_ble_eq_true rfl | exact ⟨Nat.le_of_ble_eq_true rfl, rfl⟩ | exact ⟨Nat.le_of_ble_eq_true rfl, by assumption⟩ | exact ⟨by omega, Nat.le_of_ble_eq_true rfl⟩ | exact ⟨⟨by assumption, by omega⟩, Nat.le_of_ble_eq_true rfl⟩ | decide) ?_; conv => whnf)
      (refine c_at hk.2.2.2.2 (by omega) a4 ?_; conv => whnf)
      (refine And.intro (by first | omega | assumption | rfl | exact zin_and | exact ⟨zin_and, by omega⟩ | exact ⟨by omega, zin_and⟩ | exact Nat.le_of_ble_eq_true rfl | exact ⟨Nat.le_of_ble_eq_true rfl, rfl⟩ | exact ⟨Nat.le_of_ble_eq_true rfl, by assumption⟩ | exact ⟨by omega, Nat.le_of_ble_eq_true rfl⟩ | exact ⟨⟨by assumption, by omega⟩, Nat.le_of_ble_eq_true rfl⟩ | decide) ?_; conv => whnf)
      (refine And.intro (fun h => ?_) (fun h => by omega); conv => whnf)
      (refine hK _ _ _ _ (zW.go (zC_om _) (fun K hK => ?_)); conv => whnf)
      exact hK _ _ _ _ (ih (j + 1) (by omega))
  exact hK _ _ _ _ (go (mpl s n t) 0 (by omega))
theorem RelU.row {g' : zM} (hr : RelU g k s n) (hf : ∀ j, j ≠ k + 4 → g' j = g j) : RelU g' k s n := by
  obtain ⟨h1, h2, h3⟩ := hr
  refine ⟨?_, ?_, fun t ht => ?_⟩
  · rw [hf k (by omega)]; exact h1
  · rw [hf k (by omega)]; exact h2
  · rw [hf (k + 1) (by omega), hf (k + 2) (by omega), hf (k + 3) (by omega)]; exact h3 t ht
theorem c_sort (hk : zKB k) (hr : RelU g k s n) (hok : mok s n) (hQ : ∀ g' : zM, (∀ j, j ≠ k + 4 → g' j = g j) → RelB g' k s n → Q none g') : zC (d + 3) 6 [zR k] g Q := by
  obtain ⟨hk0, hk1, hk2, hk3, hk4⟩ := id hk
  have hn := hok.2.1
  have hp := hok.pos
  refine zC.go zm_X0_sortByRatio ⟨rfl, rfl⟩ rfl ?_
  (refine zW.upto (zC_om _) 2 (fun K hK => ?_); conv => whnf)
  have go : ∀ (r t : Nat) (x : zV) (g2 : zM), t + r = n → (∀ j, j ≠ k + 4 → g2 j = g j) → (∀ j : Nat, j < t → g2 (k + 4) j = (mor s t j : Nat)) → zW zX0_sortByRatio (zC (d + 2)) Q 2 [zR k, zI t, x] [] g2 := by
    intro r
    induction r with
    | zero =>
      intro t x g2 e hf hrow
      have hr2 := hr.row hf
      have hn4 := hr2.1
      obtain rfl : t = n := by omega
      (refine zW.go (zC_om _) (fun K hK => ?_); conv => whnf)
      (refine And.intro (by first | omega | assumption | rfl | exact zin_and | exact ⟨zin_and, by omega⟩ | exact ⟨by omega, zin_and⟩ | exact Nat.le_of_ble_eq_true rfl | exact ⟨Nat.le_of_ble_eq_true rfl, rfl⟩ | exact ⟨Nat.le_of_ble_eq_true rfl, by assumption⟩ | exact ⟨by omega, Nat.le_of_ble_eq_true rfl⟩ | exact ⟨⟨by assumption, by omega⟩, Nat.le_of_ble_eq_true rfl⟩ | decide) ?_; conv => whnf)
      (refine And.intro (by first | omega | assumption | rfl | exact zin_and | exact ⟨zin_and, by omega⟩ | exact ⟨by omega, zin_and⟩ | exact Nat.le_of_ble_eq_true rfl | exact ⟨Nat.le_of_ble_eq_true rfl, rfl⟩ | exact ⟨Nat.le_of_ble_eq_true rfl, by assumption⟩ | exact ⟨by omega, Nat.le_of_ble_eq_true rfl⟩ | exact ⟨⟨by assumption, by omega⟩, Nat.le_of_ble_eq_true rfl⟩ | decide) ?_; conv => whnf)
      (refine And.intro (fun h => ?_) (fun h => by omega); conv => whnf)
      (refine hK _ _ _ _ (zW.go (zC_om _) (fun K hK => ?_)); conv => whnf)
      exact ⟨trivial, hQ g2 hf ⟨hr2.1, hr2.2.1, fun t ht => ⟨(hr2.2.2 t ht).1, (hr2.2.2 t ht).2.1, (hr2.2.2 t ht).2.2, hrow t ht⟩⟩⟩
    | succ r ih =>
      intro t x g2 e hf hrow
      have htn : t < n := by omega
      have hpt : mpos s (t + 1) := fun u hu => hp u (by omega)
      have inner : ∀ (p : Nat) (g3 : zM), p ≤ t → (∀ j, j ≠ k + 4 → g3 j = g j) → (∀ j : Nat, j < p → g3 (k + 4) j = (mor s t j : Nat)) → (∀ j : Nat, p ≤ j → j < t → g3 (k + 4) ((j + 1 : Nat) : Int) = (mor s t j : Nat) ∧ mah s t (mor s t j) = true) → zW zX0_sortByRatio (zC (d + 2)) Q 8 [zR k, zI t, zI p] [] g3 := by
        have putin : ∀ (p : Nat) (g3 : zM), p ≤ t → (∀ j, j ≠ k + 4 → g3 j = g j) → (∀ j : Nat, j < p → g3 (k + 4) j = (mor s t j : Nat)) → (∀ j : Nat, p ≤ j → j < t → g3 (k + 4) ((j + 1 : Nat) : Int) = (mor s t j : Nat) ∧ mah s t (mor s t j) = true) → (p = 0 ∨ mah s t (mor s t (p - 1)) = false) → zW zX0_sortByRatio (zC (d + 2)) Q 32 [zR k, zI t, zI p] [] g3 := by
          intro p g3 hpt' hf3 hlo hhi hend
          have hin := mor_in hpt hpt' (fun j a c => (hhi j a c).2) hend
          (refine zW.go (zC_om _) (fun K hK => ?_); conv => whnf)
          (refine And.intro (by first | omega | assumption | rfl | exact zin_and | exact ⟨zin_and, by omega⟩ | exact ⟨by omega, zin_and⟩ | exact Nat.le_of_ble_eq_true rfl | exact ⟨Nat.le_of_ble_eq_true rfl, rfl⟩ | exact ⟨Nat.le_of_ble_eq_true rfl, by assumption⟩ | exact ⟨by omega, Nat.le_of_ble_eq_true rfl⟩ | exact ⟨⟨by assumption, by omega⟩, Nat.le_of_ble_eq_true rfl⟩ | decide) ?_; conv => whnf)
          (refine And.intro (by first | omega | assumption | rfl | exact zin_and | exact ⟨zin_and, by omega⟩ | exact ⟨by omega, zin_and⟩ | exact Nat.le_of_ble_eq_true rfl | exact ⟨Nat.le_of_ble_eq_true rfl, rfl⟩ | exact ⟨Nat.le_of_ble_eq_true rfl, by assumption⟩ | exact ⟨by omega, Nat.le_of_ble_eq_true rfl⟩ | exact ⟨⟨by assumption, by omega⟩, Nat.le_of_ble_eq_true rfl⟩ | decide) ?_; conv => whnf)
          (refine s_put hk4 (by omega) (by omega) (by omega) ?_; conv => whnf)
          refine hK _ _ _ _ (ih (t + 1) _ _ (by omega) (fun j hj => ?_) (fun j hj => ?_))
          · rw [zup_ne hj, hf3 j hj]
          · rw [hin j (by omega)]
            by_cases c1 : j < p
            · rw [if_pos c1, zup_i (by omega), hlo j c1]
            · rw [if_neg c1]
              by_cases c2 : j = p
              · rw [if_pos c2, c2, zup_s]
              · have := (hhi (j - 1) (by omega) (by omega)).1
                rw [show j - 1 + 1 = j by omega] at this
                rw [if_neg c2, zup_i (by omega), this]
        intro p
        induction p with
        | zero =>
          intro g3 hpt' hf3 hlo hhi
          (refine zW.go (zC_om _) (fun K hK => ?_); conv => whnf)
          (refine And.intro (by first | omega | assumption | rfl | exact zin_and | exact ⟨zin_and, by omega⟩ | exact ⟨by omega, zin_and⟩ | exact Nat.le_of_ble_eq_true rfl | exact ⟨Nat.le_of_ble_eq_true rfl, rfl⟩ | exact ⟨Nat.le_of_ble_eq_true rfl, by assumption⟩ | exact ⟨by omega, Nat.le_of_ble_eq_true rfl⟩ | exact ⟨⟨by assumption, by omega⟩, Nat.le_of_ble_eq_true rfl⟩ | decide) ?_; conv => whnf)
          (refine And.intro (fun h => ?_) (fun h => by omega); conv => whnf)
          exact hK _ _ _ _ (putin 0 g3 hpt' hf3 hlo hhi (Or.inl rfl))
        | succ p ihp =>
          intro g3 hpt' hf3 hlo hhi
          have hsp := mor_spec (s := s) (n := t) (k := p) (fun u hu => hp u (by omega)) (by omega)
          have hlp := hlo p (by omega)
          (refine zW.go (zC_om _) (fun K hK => ?_); conv => whnf)
          (refine And.intro (by first | omega | assumption | rfl | exact zin_and | exact ⟨zin_and, by omega⟩ | exact ⟨by omega, zin_and⟩ | exact Nat.le_of_ble_eq_true rfl | exact ⟨Nat.le_of_ble_eq_true rfl, rfl⟩ | exact ⟨Nat.le_of_ble_eq_true rfl, by assumption⟩ | exact ⟨by omega, Nat.le_of_ble_eq_true rfl⟩ | exact ⟨⟨by assumption, by omega⟩, Nat.le_of_ble_eq_true rfl⟩ | decide) ?_; conv => whnf)
          (refine And.intro (fun h => by omega) (fun h => ?_); conv => whnf)
          (refine And.intro (by first | omega | assumption | rfl | exact zin_and | exact ⟨zin_and, by omega⟩ | exact ⟨by omega, zin_and⟩ | exact Nat.le_of_ble_eq_true rfl | exact ⟨Nat.le_of_ble_eq_true rfl, rfl⟩ | exact ⟨Nat.le_of_ble_eq_true rfl, by assumption⟩ | exact ⟨by omega, Nat.le_of_ble_eq_true rfl⟩ | exact ⟨⟨by assumption, by omega⟩, Nat.le_of_ble_eq_true rfl⟩ | decide) ?_; conv => whnf)
          (refine And.intro (by first | omega | assumption | rfl | exact zin_and | exact ⟨zin_and, by omega⟩ | exact ⟨by omega, zin_and⟩ | exact Nat.le_of_ble_eq_true rfl | exact ⟨Nat.le_of_ble_eq_true rfl, rfl⟩ | exact ⟨Nat.le_of_ble_eq_true rfl, by assumption⟩ | exact ⟨by omega, Nat.le_of_ble_eq_true rfl⟩ | exact ⟨⟨by assumption, by omega⟩, Nat.le_of_ble_eq_true rfl⟩ | decide) ?_; conv => whnf)
          rw [show ((p + 1 : Nat) : Int) - 1 = (p : Int) by omega]
          (refine c_at hk4 (by omega) hlp ?_; conv => whnf)
          (refine And.intro (by first | omega | assumption | rfl | exact zin_and | exact ⟨zin_and, by omega⟩ | exact ⟨by omega, zin_and⟩ | exact Nat.le_of_ble_eq_true rfl | exact ⟨Nat.le_of_ble_eq_true rfl, rfl⟩ | exact ⟨Nat.le_of_ble_eq_true rfl, by assumption⟩ | exact ⟨by omega, Nat.le_of_ble_eq_true rfl⟩ | exact ⟨⟨by assumption, by omega⟩, Nat.le_of_ble_eq_true rfl⟩ | decide) ?_; conv => whnf)
          (refine c_isAhead hk (hr.row hf3) hok htn hsp.1 ?_; conv => whnf)
          cases hm : mah s t (mor s t p) with
          | false =>
            rw [zb_f]
            (refine And.intro (by first | omega | assumption | rfl | exact zin_and | exact ⟨zin_and, by omega⟩ | exact ⟨by omega, zin_and⟩ | exact Nat.le_of_ble_eq_true rfl | exact ⟨Nat.le_of_ble_eq_true rfl, rfl⟩ | exact ⟨Nat.le_of_ble_eq_true rfl, by assumption⟩ | exact ⟨by omega, Nat.le_of_ble_eq_true rfl⟩ | exact ⟨⟨by assumption, by omega⟩, Nat.le_of_ble_eq_true rfl⟩ | decide) ?_; conv => whnf)
            (refine And.intro (fun h => ?_) (fun h => by omega); conv => whnf)
            exact hK _ _ _ _ (putin (p + 1) g3 hpt' hf3 hlo hhi (Or.inr hm))
          | true =>
            rw [zb_t]
            (refine And.intro (by first | omega | assumption | rfl | exact zin_and | exact ⟨zin_and, by omega⟩ | exact ⟨by omega, zin_and⟩ | exact Nat.le_of_ble_eq_true rfl | exact ⟨Nat.le_of_ble_eq_true rfl, rfl⟩ | exact ⟨Nat.le_of_ble_eq_true rfl, by assumption⟩ | exact ⟨by omega, Nat.le_of_ble_eq_true rfl⟩ | exact ⟨⟨by assumption, by omega⟩, Nat.le_of_ble_eq_true rfl⟩ | decide) ?_; conv => whnf)
            (refine And.intro (fun h => by omega) (fun h => ?_); conv => whnf)
            (refine And.intro (by first | omega | assumption | rfl | exact zin_and | exact ⟨zin_and, by omega⟩ | exact ⟨by omega, zin_and⟩ | exact Nat.le_of_ble_eq_true rfl | exact ⟨Nat.le_of_ble_eq_true rfl, rfl⟩ | exact ⟨Nat.le_of_ble_eq_true rfl, by assumption⟩ | exact ⟨by omega, Nat.le_of_ble_eq_true rfl⟩ | exact ⟨⟨by assumption, by omega⟩, Nat.le_of_ble_eq_true rfl⟩ | decide) ?_; conv => whnf)
            (refine And.intro (by first | omega | assumption | rfl | exact zin_and | exact ⟨zin_and, by omega⟩ | exact ⟨by omega, zin_and⟩ | exact Nat.le_of_ble_eq_true rfl | exact ⟨Nat.le_of_ble_eq_true rfl, rfl⟩ | exact ⟨Nat.le_of_ble_eq_true rfl, by assumption⟩ | exact ⟨by omega, Nat.le_of_ble_eq_true rfl⟩ | exact ⟨⟨by assumption, by omega⟩, Nat.le_of_ble_eq_true rfl⟩ | decide) ?_; conv => whnf)
            (refine And.intro (by first | omega | assumption | rfl | exact zin_and | exact ⟨zin_and, by omega⟩ | exact ⟨by omega, zin_and⟩ | exact Nat.le_of_ble_eq_true rfl | exact ⟨Nat.le_of_ble_eq_true rfl, rfl⟩ | exact ⟨Nat.le_of_ble_eq_true rfl, by assumption⟩ | exact ⟨by omega, Nat.le_of_ble_eq_true rfl⟩ | exact ⟨⟨by assumption, by omega⟩, Nat.le_of_ble_eq_true rfl⟩ | decide) ?_; conv => whnf)
            rw [show ((p + 1 : Nat) : Int) - 1 = (p : Int) by omega]
            (refine c_at hk4 (by omega) hlp ?_; conv => whnf)
            (refine And.intro (by first | omega | assumption | rfl | exact zin_and | exact ⟨zin_and, by omega⟩ | exact ⟨by omega, zin_and⟩ | exact Nat.le_of_ble_eq_true rfl | exact ⟨Nat.le_of_ble_eq_true rfl, rfl⟩ | exact ⟨Nat.le_of_ble_eq_true rfl, by assumption⟩ | exact ⟨by omega, Nat.le_of_ble_eq_true rfl⟩ | exact ⟨⟨by assumption, by omega⟩, Nat.le_of_ble_eq_true rfl⟩ | decide) ?_; conv => whnf)
            (refine s_put hk4 (by omega) (by omega) (by omega) ?_; conv => whnf)
            refine hK _ _ _ _ ?_
            rw [show ((p + 1 : Nat) : Int) + -1 = (p : Int) by omega]
            refine ihp _ (by omega) (fun j hj => ?_) (fun j hj => ?_) (fun j h1 h2 => ?_)
            · rw [zup_ne hj, hf3 j hj]
            · rw [zup_i (by omega), hlo j (by omega)]
            · by_cases e : j = p
              · subst e
                rw [zup_s]
                exact ⟨rfl, hm⟩
              · rw [zup_i (by omega)]
                exact hhi j (by omega) h2
      have hn4 := (hr.row hf).1
      (refine zW.upto (zC_om _) 6 (fun K hK => ?_); conv => whnf)
      (refine And.intro (by first | omega | assumption | rfl | exact zin_and | exact ⟨zin_and, by omega⟩ | exact ⟨by omega, zin_and⟩ | exact Nat.le_of_ble_eq_true rfl | exact ⟨Nat.le_of_ble_eq_true rfl, rfl⟩ | exact ⟨Nat.le_of_ble_eq_true rfl, by assumption⟩ | exact ⟨by omega, Nat.le_of_ble_eq_true rfl⟩ | exact ⟨⟨by assumption, by omega⟩, Nat.le_of_ble_eq_true rfl⟩ | decide) ?_; conv => whnf)
      (refine And.intro (by first | omega | assumption | rfl | exact zin_and | exact ⟨zin_and, by omega⟩ | exact ⟨by omega, zin_and⟩ | exact Nat.le_of_ble_eq_true rfl | exact ⟨Nat.le_of_ble_eq_true rfl, rfl⟩ | exact ⟨Nat.le_of_ble_eq_true rfl, by assumption⟩ | exact ⟨by omega, Nat.le_of_ble_eq_true rfl⟩ | exact ⟨⟨by assumption, by omega⟩, Nat.le_of_ble_eq_true rfl⟩ | decide) ?_; conv => whnf)
      (refine And.intro (fun h => by omega) (fun h => ?_); conv => whnf)
      exact hK _ _ _ _ (inner t g2 (Nat.le_refl _) hf hrow (fun j h1 h2 => absurd h2 (by omega)))
  exact hK _ _ _ _ (go n 0 _ g (by omega) (fun j hj => rfl) (fun j hj => absurd hj (by omega)))
end CO
