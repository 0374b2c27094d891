/-! a thing less -/
def mdb (t b : Nat) : Nat := b % 2 ^ t ||| b / 2 ^ (t + 1) * 2 ^ t
theorem mdb_bit (t b j : Nat) : (mdb t b).testBit j = if j < t then b.testBit j else b.testBit (j + 1) := by
  unfold mdb
  rw [Nat.testBit_or, Nat.testBit_mod_two_pow, Nat.testBit_mul_two_pow, Nat.testBit_div_two_pow]
  by_cases h : j < t
  · rw [if_pos h]
    simp [h]
    intro q
    omega
  · rw [if_neg h, show j - t + (t + 1) = j + 1 by omega]
    simp [h]
    omega
theorem mdb_lt {t b n : Nat} (h : b < 2 ^ (n + 1)) (ht : t ≤ n) : mdb t b < 2 ^ n := by
  refine zbits_lt (fun j hj => ?_)
  rw [mdb_bit, if_neg (by omega)]
  exact zlt_bits h (by omega)
theorem ndf_lo (t b : Nat) : ndf (b / 2) (2 ^ t - 1) = b / 2 ^ (t + 1) * 2 ^ t := by
  refine Nat.eq_of_testBit_eq (fun j => ?_)
  rw [ndf_bit, Nat.testBit_two_pow_sub_one, Nat.testBit_mul_two_pow, Nat.testBit_div_two_pow]
  have : (b / 2).testBit j = b.testBit (j + 1) := by
    have := Nat.testBit_div_two_pow (n := 1) b j
    rw [Nat.pow_one] at this
    rw [this]
  rw [this]
  by_cases h : j < t
  · simp [h]
    intro q
    omega
  · have e : j - t + (t + 1) = j + 1 := by omega
    rw [e]
    simp [h]
    omega
theorem zdrop {t b : Nat} (ht : t < 12) (hb : b < 4096) : zor (zand b ((2 ^ t - 1 : Nat) : Int)) (zand (zshr b 1) (zxor ((2 ^ t - 1 : Nat) : Int) (-1))) = (mdb t b : Nat) := by
  have h2 : 2 ^ t < 2 ^ 12 := Nat.pow_lt_pow_right (by decide) ht
  have h1 := zshr_nat (a := b) (t := 1) (by omega) (by omega)
  rw [show ((1 : Nat) : Int) = 1 from rfl, Nat.pow_one] at h1
  rw [h1, zandnot (by omega) (by omega), zand_nat (by omega) (by omega), ndf_lo, Nat.and_two_pow_sub_one_eq_mod]
  have h3 : b / 2 ^ (t + 1) * 2 ^ t ≤ b := by
    have q1 := Nat.div_mul_le_self b (2 ^ (t + 1))
    have q2 : b / 2 ^ (t + 1) * 2 ^ t ≤ b / 2 ^ (t + 1) * 2 ^ (t + 1) := Nat.mul_le_mul_left _ (Nat.pow_le_pow_right (by decide) (by omega))
    omega
  have h4 : b % 2 ^ t ≤ b := Nat.mod_le _ _
  exact zor_nat (by omega) (by omega)
def mdrop (s : zS) (n t : Nat) : zS := fun j =>
  if j = 0 then (n : Int) - 1
  else if (9 + t ≤ j ∧ j < 9 + n - 1) ∨ (21 + t ≤ j ∧ j < 21 + n - 1) then s (j + 1)
  else if 33 ≤ j ∧ j < 33 + n - 1 then (mdb t (mb s (if j < 33 + t then (j - 33).toNat else (j - 32).toNat)) : Nat)
  else s j
theorem mdrop_0 {s : zS} {n t : Nat} : mdrop s n t 0 = (n : Int) - 1 := rfl
theorem mdrop_9 {s : zS} {n t i : Nat} (hn : n ≤ 12) (hi : i + 1 < n) : mdrop s n t (9 + i) = if i < t then s (9 + i) else s (9 + (i + 1 : Nat)) := by
  unfold mdrop
  rw [if_neg (by omega)]
  by_cases h : i < t
  · rw [if_neg (by omega), if_neg (by omega), if_pos h]
  · rw [if_pos (by omega), if_neg h]
    congr 1
theorem mdrop_21 {s : zS} {n t i : Nat} (hn : n ≤ 12) (hi : i + 1 < n) : mdrop s n t (21 + i) = if i < t then s (21 + i) else s (21 + (i + 1 : Nat)) := by
  unfold mdrop
  rw [if_neg (by omega)]
  by_cases h : i < t
  · rw [if_neg (by omega), if_neg (by omega), if_pos h]
  · rw [if_pos (by omega), if_neg h]
    congr 1
theorem mdrop_33 {s : zS} {n t i : Nat} (hn : n ≤ 12) (hi : i + 1 < n) : mdrop s n t (33 + i) = (mdb t (mb s (if i < t then i else i + 1)) : Nat) := by
  unfold mdrop
  rw [if_neg (by omega), if_neg (by omega), if_pos (by omega)]
  congr 3
  by_cases h : i < t
  · rw [if_pos h, if_pos (by omega)]; omega
  · rw [if_neg h, if_neg (by omega)]; omega
theorem mdrop_old {s : zS} {n t : Nat} {j : Int} (hn : n ≤ 12) (h : j ≠ 0 ∧ (j < 9 ∨ 45 ≤ j)) : mdrop s n t j = s j := by
  unfold mdrop
  rw [if_neg (by omega), if_neg (by omega), if_neg (by omega)]
theorem mdrop_ok {s : zS} {n t : Nat} (hok : mok s n) (ht : t < n) : mok (mdrop s n t) (n - 1) := by
  obtain ⟨h1, h2, h3, h4⟩ := id hok
  refine ⟨by rw [mdrop_0]; omega, by omega, by rw [mdrop_old h2 (by omega)]; exact h3, fun x hx => ?_⟩
  rw [mdrop_9 h2 (by omega), mdrop_21 h2 (by omega), mdrop_33 h2 (by omega)]
  have hb : ∀ y, y < n → mdb t (mb s y) < 4096 := by
    intro y hy
    have := mb_lt hok hy
    have : mdb t (mb s y) < 2 ^ 12 := mdb_lt (n := 12) (by omega) (by omega)
    omega
  by_cases c : x < t
  · rw [if_pos c, if_pos c, if_pos c]
    obtain ⟨a1, a2, a3⟩ := h4 x (by omega)
    have := hb x (by omega)
    exact ⟨a1, a2, by omega⟩
  · rw [if_neg c, if_neg c, if_neg c]
    obtain ⟨a1, a2, a3⟩ := h4 (x + 1) (by omega)
    have := hb (x + 1) (by omega)
    exact ⟨a1, a2, by omega⟩
section CDR
variable {g : zM} {k n : Nat} {s : zS} {d : Nat} {Q : zP}
theorem c_drop (hk : zKB k) (hr : RelU g k s n) (hok : mok s n) {t : Nat} (ht : t < n) (hQ : ∀ g' : zM, (∀ j, (j < k ∨ k + 4 < j) → g' j = g j) → RelB g' k (mdrop s n t) (n - 1) → Q none g') : zC (d + 4) 3 [zR k, zI t] g Q := by
  obtain ⟨hk0, hk1, hk2, hk3, hk4⟩ := id hk
  have hn := hok.2.1
  have hn4 := hr.1
  have h2t : 2 ^ t < 2 ^ 12 := Nat.pow_lt_pow_right (by decide) (by omega)
  have h2p := Nat.two_pow_pos t
  have hone := zone_shl (show t < 31 by omega)
  have hsub : (2 ^ t : Nat) - (1 : Int) = ((2 ^ t - 1 : Nat) : Int) := by omega
  refine zC.go zm_X0_drop ⟨rfl, rfl⟩ rfl ?_
  -- the second loop
  have l2 : ∀ (r y : Nat) (g2 : zM) (x4 : zV), y + r = n - 1 → (∀ i, (i < k ∨ k + 4 < i) → g2 i = g i) → g2 k (4 : Nat) = ((n - 1 : Nat) : Int) → g2 k (5 : Nat) = s 1 → (∀ i : Nat, i + 1 < n → g2 (k + 1) i = mdrop s n t (9 + i) ∧ g2 (k + 2) i = mdrop s n t (21 + i) ∧ g2 (k + 3) i = if i < y then mdrop s n t (33 + i) else (mb s (if i < t then i else i + 1) : Nat)) → zW zX0_drop (zC (d + 3)) Q 54 [zR k, zI t, zI ((2 ^ t - 1 : Nat) : Int), zI y, x4] [] g2 := by
    intro r
    induction r with
    | zero =>
      intro y g2 x4 e hf h4 h5 hrow
      (refine zW.go (zC_om _) (fun K hK => ?_); conv => whnf)
      (refine And.intro (by first | omega | assumption | rfl | exact zin_and | exact ⟨zin_and, by omega⟩ | exact ⟨by omega, zin_and⟩ | exact Nat.le_of_ble_eq_true rfl | exact ⟨Nat.le_of_ble_eq_true rfl, rfl⟩ | exact ⟨Nat.le_of_ble_eq_true rfl, by assumption⟩ | exact ⟨by omega, Nat.le_of_ble_eq_true rfl⟩ | exact ⟨⟨by assumption, by omega⟩, Nat.le_of_ble_eq_true rfl⟩ | decide) ?_; conv => whnf)
      rw [h4]
      (refine And.intro (by first | omega | assumption | rfl | exact zin_and | exact ⟨zin_and, by omega⟩ | exact ⟨by omega, zin_and⟩ | exact Nat.le_of_ble_eq_true rfl | exact ⟨Nat.le_of_ble_eq_true rfl, rfl⟩ | exact ⟨Nat.le_of_ble_eq_true rfl, by assumption⟩ | exact ⟨by omega, Nat.le_of_ble_eq_true rfl⟩ | exact ⟨⟨by assumption, by omega⟩, Nat.le_of_ble_eq_true rfl⟩ | decide) ?_; conv => whnf)
      (refine And.intro (fun h => ?_) (fun h => by omega); conv => whnf)
      (refine hK _ _ _ _ (zW.go (zC_om _) (fun K hK => ?_)); conv => whnf)
      (refine And.intro (by first | omega | assumption | rfl | exact zin_and | exact ⟨zin_and, by omega⟩ | exact ⟨by omega, zin_and⟩ | exact Nat.le_of_ble_eq_true rfl | exact ⟨Nat.le_of_ble_eq_true rfl, rfl⟩ | exact ⟨Nat.le_of_ble_eq_true rfl, by assumption⟩ | exact ⟨by omega, Nat.le_of_ble_eq_true rfl⟩ | exact ⟨⟨by assumption, by omega⟩, Nat.le_of_ble_eq_true rfl⟩ | decide) ?_; conv => whnf)
      (refine c_sort (s := mdrop s n t) (n := n - 1) hk ⟨h4, by rw [h5, mdrop_old hn (by omega)], fun i hi => ?_⟩ (mdrop_ok hok ht) (fun g3 hf3 hr3 => ?_); conv => whnf)
      · obtain ⟨a1, a2, a3⟩ := hrow i (by omega)
        rw [if_pos (by omega)] at a3
        exact ⟨a1, a2, a3⟩
      · (refine And.intro (by first | omega | assumption | rfl | exact zin_and | exact ⟨zin_and, by omega⟩ | exact ⟨by omega, zin_and⟩ | exact Nat.le_of_ble_eq_true rfl | exact ⟨Nat.le_of_ble_eq_true rfl, rfl⟩ | exact ⟨Nat.le_of_ble_eq_true rfl, by assumption⟩ | exact ⟨by omega, Nat.le_of_ble_eq_true rfl⟩ | exact ⟨⟨by assumption, by omega⟩, Nat.le_of_ble_eq_true rfl⟩ | decide) ?_; conv => whnf)
        exact hQ g3 (fun i hi => by rw [hf3 i (by omega), hf i hi]) hr3
    | succ r ih =>
      intro y g2 x4 e hf h4 h5 hrow
      obtain ⟨a1, a2, a3⟩ := hrow y (by omega)
      rw [if_neg (by omega)] at a3
      have hb : mb s (if y < t then y else y + 1) < 4096 := by
        split
        · exact mb_lt hok (by omega)
        · exact mb_lt hok (by omega)
      (refine zW.go (zC_om _) (fun K hK => ?_); conv => whnf)
      (refine And.intro (by first | omega | assumption | rfl | exact zin_and | exact ⟨zin_and, by omega⟩ | exact ⟨by omega, zin_and⟩ | exact Nat.le_of_ble_eq_true rfl | exact ⟨Nat.le_of_ble_eq_true rfl, rfl⟩ | exact ⟨Nat.le_of_ble_eq_true rfl, by assumption⟩ | exact ⟨by omega, Nat.le_of_ble_eq_true rfl⟩ | exact ⟨⟨by assumption, by omega⟩, Nat.le_of_ble_eq_true rfl⟩ | decide) ?_; conv => whnf)
      rw [h4]
      (refine And.intro (by first | omega | assumption | rfl | exact zin_and | exact ⟨zin_and, by omega⟩ | exact ⟨by omega, zin_and⟩ | exact Nat.le_of_ble_eq_true rfl | exact ⟨Nat.le_of_ble_eq_true rfl, rfl⟩ | exact ⟨Nat.le_of_ble_eq_true rfl, by assumption⟩ | exact ⟨by omega, Nat.le_of_ble_eq_true rfl⟩ | exact ⟨⟨by assumption, by omega⟩, Nat.le_of_ble_eq_true rfl⟩ | decide) ?_; conv => whnf)
      (refine And.intro (fun h => by omega) (fun h => ?_); conv => whnf)
      (refine And.intro (by first | omega | assumption | rfl | exact zin_and | exact ⟨zin_and, by omega⟩ | exact ⟨by omega, zin_and⟩ | exact Nat.le_of_ble_eq_true rfl | exact ⟨Nat.le_of_ble_eq_true rfl, rfl⟩ | exact ⟨Nat.le_of_ble_eq_true rfl, by assumption⟩ | exact ⟨by omega, Nat.le_of_ble_eq_true rfl⟩ | exact ⟨⟨by assumption, by omega⟩, Nat.le_of_ble_eq_true rfl⟩ | decide) ?_; conv => whnf)
      (refine And.intro (by first | omega | assumption | rfl | exact zin_and | exact ⟨zin_and, by omega⟩ | exact ⟨by omega, zin_and⟩ | exact Nat.le_of_ble_eq_true rfl | exact ⟨Nat.le_of_ble_eq_true rfl, rfl⟩ | exact ⟨Nat.le_of_ble_eq_true rfl, by assumption⟩ | exact ⟨by omega, Nat.le_of_ble_eq_true rfl⟩ | exact ⟨⟨by assumption, by omega⟩, Nat.le_of_ble_eq_true rfl⟩ | decide) ?_; conv => whnf)
      (refine c_at hk3 (by omega) a3 ?_; conv => whnf)
      (refine And.intro (by first | omega | assumption | rfl | exact zin_and | exact ⟨zin_and, by omega⟩ | exact ⟨by omega, zin_and⟩ | exact Nat.le_of_ble_eq_true rfl | exact ⟨Nat.le_of_ble_eq_true rfl, rfl⟩ | exact ⟨Nat.le_of_ble_eq_true rfl, by assumption⟩ | exact ⟨by omega, Nat.le_of_ble_eq_true rfl⟩ | exact ⟨⟨by assumption, by omega⟩, Nat.le_of_ble_eq_true rfl⟩ | decide) ?_; conv => whnf)
      rw [zdrop (by omega) hb]
      (refine And.intro (by first | omega | assumption | rfl | exact zin_and | exact ⟨zin_and, by omega⟩ | exact ⟨by omega, zin_and⟩ | exact Nat.le_of_ble_eq_true rfl | exact ⟨Nat.le_of_ble_eq_true rfl, rfl⟩ | exact ⟨Nat.le_of_ble_eq_true rfl, by assumption⟩ | exact ⟨by omega, Nat.le_of_ble_eq_true rfl⟩ | exact ⟨⟨by assumption, by omega⟩, Nat.le_of_ble_eq_true rfl⟩ | decide) ?_; conv => whnf)
      (refine s_put hk3 (by omega) (by omega) (by omega) ?_; conv => whnf)
      refine hK _ _ _ _ (ih (y + 1) _ _ (by omega) (fun i hi => ?_) ?_ ?_ (fun i hi => ?_))
      · rw [zup_ne (by omega), hf i hi]
      · rw [zup_ne (by omega)]; exact h4
      · rw [zup_ne (by omega)]; exact h5
      · obtain ⟨b1, b2, b3⟩ := hrow i hi
        rw [zup_k (show k + 1 ≠ k + 3 by omega), zup_k (show k + 2 ≠ k + 3 by omega)]
        refine ⟨b1, b2, ?_⟩
        by_cases c : i = y
        · subst c
          rw [zup_s, if_pos (show i < i + 1 by omega), mdrop_33 hn hi]
        · rw [zup_i (by omega), b3]
          by_cases c2 : i < y
          · rw [if_pos c2, if_pos (show i < y + 1 by omega)]
          · rw [if_neg c2, if_neg (show ¬ i < y + 1 by omega)]
  -- the first loop
  have l1 : ∀ (r x : Nat) (g2 : zM), x + r = n → t < x → (∀ i, (i < k ∨ k + 4 < i) → g2 i = g i) → g2 k = g k → (∀ i : Nat, i < n → g2 (k + 1) i = s (9 + (if t ≤ i ∧ i + 1 < x then i + 1 else i : Nat)) ∧ g2 (k + 2) i = s (21 + (if t ≤ i ∧ i + 1 < x then i + 1 else i : Nat)) ∧ g2 (k + 3) i = s (33 + (if t ≤ i ∧ i + 1 < x then i + 1 else i : Nat))) → zW zX0_drop (zC (d + 3)) Q 4 [zR k, zI t, zI x, zU, zU] [] g2 := by
    intro r
    induction r with
    | zero =>
      intro x g2 e hx hf hgk hrow
      obtain rfl : x = n := by omega
      have h4 : g2 k (4 : Nat) = (x : Int) := by rw [hgk]; exact hn4
      (refine zW.go (zC_om _) (fun K hK => ?_); conv => whnf)
      (refine And.intro (by first | omega | assumption | rfl | exact zin_and | exact ⟨zin_and, by omega⟩ | exact ⟨by omega, zin_and⟩ | exact Nat.le_of_ble_eq_true rfl | exact ⟨Nat.le_of_ble_eq_true rfl, rfl⟩ | exact ⟨Nat.le_of_ble_eq_true rfl, by assumption⟩ | exact ⟨by omega, Nat.le_of_ble_eq_true rfl⟩ | exact ⟨⟨by assumption, by omega⟩, Nat.le_of_ble_eq_true rfl⟩ | decide) ?_; conv => whnf)
      (refine And.intro (by first | omega | assumption | rfl | exact zin_and | exact ⟨zin_and, by omega⟩ | exact ⟨by omega, zin_and⟩ | exact Nat.le_of_ble_eq_true rfl | exact ⟨Nat.le_of_ble_eq_true rfl, rfl⟩ | exact ⟨Nat.le_of_ble_eq_true rfl, by assumption⟩ | exact ⟨by omega, Nat.le_of_ble_eq_true rfl⟩ | exact ⟨⟨by assumption, by omega⟩, Nat.le_of_ble_eq_true rfl⟩ | decide) ?_; conv => whnf)
      (refine And.intro (fun h => ?_) (fun h => by omega); conv => whnf)
      (refine hK _ _ _ _ ?_)
      (refine zW.upto (zC_om _) 14 (fun K hK => ?_); conv => whnf)
      (refine And.intro (by first | omega | assumption | rfl | exact zin_and | exact ⟨zin_and, by omega⟩ | exact ⟨by omega, zin_and⟩ | exact Nat.le_of_ble_eq_true rfl | exact ⟨Nat.le_of_ble_eq_true rfl, rfl⟩ | exact ⟨Nat.le_of_ble_eq_true rfl, by assumption⟩ | exact ⟨by omega, Nat.le_of_ble_eq_true rfl⟩ | exact ⟨⟨by assumption, by omega⟩, Nat.le_of_ble_eq_true rfl⟩ | decide) ?_; conv => whnf)
      (refine And.intro ⟨by assumption, fun w => absurd w (by decide)⟩ ?_; conv => whnf)
      rw [hone, hsub, h4]
      refine hK _ _ _ _ (l2 (x - 1) 0 _ _ (by omega) (fun i hi => ?_) ?_ ?_ (fun i hi => ?_))
      · rw [zup_ne (by omega), hf i hi]
      · rw [zup_s]; omega
      · rw [zup_i (by decide), hgk]; exact hr.2.1
      · obtain ⟨b1, b2, b3⟩ := hrow i (by omega)
        rw [zup_k (by omega), zup_k (by omega), zup_k (by omega), mdrop_9 hn hi, mdrop_21 hn hi, b1, b2, b3, if_neg (show ¬ i < 0 by omega)]
        by_cases c : i < t
        · rw [if_neg (by omega), if_pos c, if_pos c, if_pos c, mb_eq hok (by omega)]
          exact ⟨rfl, rfl, rfl⟩
        · rw [if_pos (by omega), if_neg c, if_neg c, if_neg c, mb_eq hok (by omega)]
          exact ⟨rfl, rfl, rfl⟩
    | succ r ih =>
      intro x g2 e hx hf hgk hrow
      have h4 : g2 k (4 : Nat) = (n : Int) := by rw [hgk]; exact hn4
      obtain ⟨a1, a2, a3⟩ := hrow x (by omega)
      rw [if_neg (by omega)] at a1 a2 a3
      have e1 : (x : Int) - 1 = ((x - 1 : Nat) : Int) := by omega
      (refine zW.go (zC_om _) (fun K hK => ?_); conv => whnf)
      (refine And.intro (by first | omega | assumption | rfl | exact zin_and | exact ⟨zin_and, by omega⟩ | exact ⟨by omega, zin_and⟩ | exact Nat.le_of_ble_eq_true rfl | exact ⟨Nat.le_of_ble_eq_true rfl, rfl⟩ | exact ⟨Nat.le_of_ble_eq_true rfl, by assumption⟩ | exact ⟨by omega, Nat.le_of_ble_eq_true rfl⟩ | exact ⟨⟨by assumption, by omega⟩, Nat.le_of_ble_eq_true rfl⟩ | decide) ?_; conv => whnf)
      (refine And.intro (by first | omega | assumption | rfl | exact zin_and | exact ⟨zin_and, by omega⟩ | exact ⟨by omega, zin_and⟩ | exact Nat.le_of_ble_eq_true rfl | exact ⟨Nat.le_of_ble_eq_true rfl, rfl⟩ | exact ⟨Nat.le_of_ble_eq_true rfl, by assumption⟩ | exact ⟨by omega, Nat.le_of_ble_eq_true rfl⟩ | exact ⟨⟨by assumption, by omega⟩, Nat.le_of_ble_eq_true rfl⟩ | decide) ?_; conv => whnf)
      (refine And.intro (fun h => by omega) (fun h => ?_); conv => whnf)
      (refine And.intro (by first | omega | assumption | rfl | exact zin_and | exact ⟨zin_and, by omega⟩ | exact ⟨by omega, zin_and⟩ | exact Nat.le_of_ble_eq_true rfl | exact ⟨Nat.le_of_ble_eq_true rfl, rfl⟩ | exact ⟨Nat.le_of_ble_eq_true rfl, by assumption⟩ | exact ⟨by omega, Nat.le_of_ble_eq_true rfl⟩ | exact ⟨⟨by assumption, by omega⟩, Nat.le_of_ble_eq_true rfl⟩ | decide) ?_; conv => whnf)
      (refine And.intro (by first | omega | assumption | rfl | exact zin_and | exact ⟨zin_and, by omega⟩ | exact ⟨by omega, zin_and⟩ | exact Nat.le_of_ble_eq_true rfl | exact ⟨Nat.le_of_ble_eq_true rfl, rfl⟩ | exact ⟨Nat.le_of_ble_eq_true rfl, by assumption⟩ | exact ⟨by omega, Nat.le_of_ble_eq_true rfl⟩ | exact ⟨⟨by assumption, by omega⟩, Nat.le_of_ble_eq_true rfl⟩ | decide) ?_; conv => whnf)
      (refine And.intro (by first | omega | assumption | rfl | exact zin_and | exact ⟨zin_and, by omega⟩ | exact ⟨by omega, zin_and⟩ | exact Nat.le_of_ble_eq_true rfl | exact ⟨Nat.le_of_ble_eq_true rfl, rfl⟩ | exact ⟨Nat.le_of_ble_eq_true rfl, by assumption⟩ | exact ⟨by omega, Nat.le_of_ble_eq_true rfl⟩ | exact ⟨⟨by assumption, by omega⟩, Nat.le_of_ble_eq_true rfl⟩ | decide) ?_; conv => whnf)
      (refine c_at hk1 (by omega) a1 ?_; conv => whnf)
      rw [e1]
      (refine And.intro (by first | omega | assumption | rfl | exact zin_and | exact ⟨zin_and, by omega⟩ | exact ⟨by omega, zin_and⟩ | exact Nat.le_of_ble_eq_true rfl | exact ⟨Nat.le_of_ble_eq_true rfl, rfl⟩ | exact ⟨Nat.le_of_ble_eq_true rfl, by assumption⟩ | exact ⟨by omega, Nat.le_of_ble_eq_true rfl⟩ | exact ⟨⟨by assumption, by omega⟩, Nat.le_of_ble_eq_true rfl⟩ | decide) ?_; conv => whnf)
      (refine s_put hk1 (by omega) (by omega) (by omega) ?_; conv => whnf)
      (refine And.intro (by first | omega | assumption | rfl | exact zin_and | exact ⟨zin_and, by omega⟩ | exact ⟨by omega, zin_and⟩ | exact Nat.le_of_ble_eq_true rfl | exact ⟨Nat.le_of_ble_eq_true rfl, rfl⟩ | exact ⟨Nat.le_of_ble_eq_true rfl, by assumption⟩ | exact ⟨by omega, Nat.le_of_ble_eq_true rfl⟩ | exact ⟨⟨by assumption, by omega⟩, Nat.le_of_ble_eq_true rfl⟩ | decide) ?_; conv => whnf)
      (refine And.intro (by first | omega | assumption | rfl | exact zin_and | exact ⟨zin_and, by omega⟩ | exact ⟨by omega, zin_and⟩ | exact Nat.le_of_ble_eq_true rfl | exact ⟨Nat.le_of_ble_eq_true rfl, rfl⟩ | exact ⟨Nat.le_of_ble_eq_true rfl, by assumption⟩ | exact ⟨by omega, Nat.le_of_ble_eq_true rfl⟩ | exact ⟨⟨by assumption, by omega⟩, Nat.le_of_ble_eq_true rfl⟩ | decide) ?_; conv => whnf)
      (refine And.intro (by first | omega | assumption | rfl | exact zin_and | exact ⟨zin_and, by omega⟩ | exact ⟨by omega, zin_and⟩ | exact Nat.le_of_ble_eq_true rfl | exact ⟨Nat.le_of_ble_eq_true rfl, rfl⟩ | exact ⟨Nat.le_of_ble_eq_true rfl, by assumption⟩ | exact ⟨by omega, Nat.le_of_ble_eq_true rfl⟩ | exact ⟨⟨by assumption, by omega⟩, Nat.le_of_ble_eq_true rfl⟩ | decide) ?_; conv => whnf)
      (refine c_at hk2 (by omega) (show (zup g2 (k + 1) ((x - 1 : Nat) : Int) (s (9 + x))) (k + 2) x = s (21 + x) by rw [zup_k (by omega)]; exact a2) ?_; conv => whnf)
      rw [e1]
      (refine And.intro (by first | omega | assumption | rfl | exact zin_and | exact ⟨zin_and, by omega⟩ | exact ⟨by omega, zin_and⟩ | exact Nat.le_of_ble_eq_true rfl | exact ⟨Nat.le_of_ble_eq_true rfl, rfl⟩ | exact ⟨Nat.le_of_ble_eq_true rfl, by assumption⟩ | exact ⟨by omega, Nat.le_of_ble_eq_true rfl⟩ | exact ⟨⟨by assumption, by omega⟩, Nat.le_of_ble_eq_true rfl⟩ | decide) ?_; conv => whnf)
      (refine s_put hk2 (by omega) (by omega) (by omega) ?_; conv => whnf)
      (refine And.intro (by first | omega | assumption | rfl | exact zin_and | exact ⟨zin_and, by omega⟩ | exact ⟨by omega, zin_and⟩ | exact Nat.le_of_ble_eq_true rfl | exact ⟨Nat.le_of_ble_eq_true rfl, rfl⟩ | exact ⟨Nat.le_of_ble_eq_true rfl, by assumption⟩ | exact ⟨by omega, Nat.le_of_ble_eq_true rfl⟩ | exact ⟨⟨by assumption, by omega⟩, Nat.le_of_ble_eq_true rfl⟩ | decide) ?_; conv => whnf)
      (refine And.intro (by first | omega | assumption | rfl | exact zin_and | exact ⟨zin_and, by omega⟩ | exact ⟨by omega, zin_and⟩ | exact Nat.le_of_ble_eq_true rfl | exact ⟨Nat.le_of_ble_eq_true rfl, rfl⟩ | exact ⟨Nat.le_of_ble_eq_true rfl, by assumption⟩ | exact ⟨by omega, Nat.le_of_ble_eq_true rfl⟩ | exact ⟨⟨by assumption, by omega⟩, Nat.le_of_ble_eq_true rfl⟩ | decide) ?_; conv => whnf)
      (refine And.intro (by first | omega | assumption | rfl | exact zin_and | exact ⟨zin_and, by omega⟩ | exact ⟨by omega, zin_and⟩ | exact Nat.le_of_ble_eq_true rfl | exact ⟨Nat.le_of_ble_eq_true rfl, rfl⟩ | exact ⟨Nat.le_of_ble_eq_true rfl, by assumption⟩ | exact ⟨by omega, Nat.le_of_ble_eq_true rfl⟩ | exact ⟨⟨by assumption, by omega⟩, Nat.le_of_ble_eq_true rfl⟩ | decide) ?_; conv => whnf)
      (refine c_at hk3 (by omega) (show (zup (zup g2 (k + 1) ((x - 1 : Nat) : Int) (s (9 + x))) (k + 2) ((x - 1 : Nat) : Int) (s (21 + x))) (k + 3) x = s (33 + x) by rw [zup_k (by omega), zup_k (by omega)]; exact a3) ?_; conv => whnf)
      rw [e1]
      (refine And.intro (by first | omega | assumption | rfl | exact zin_and | exact ⟨zin_and, by omega⟩ | exact ⟨by omega, zin_and⟩ | exact Nat.le_of_ble_eq_true rfl | exact ⟨Nat.le_of_ble_eq_true rfl, rfl⟩ | exact ⟨Nat.le_of_ble_eq_true rfl, by assumption⟩ | exact ⟨by omega, Nat.le_of_ble_eq_true rfl⟩ | exact ⟨⟨by assumption, by omega⟩, Nat.le_of_ble_eq_true rfl⟩ | decide) ?_; conv => whnf)
      (refine s_put hk3 (by omega) (by omega) (by omega) ?_; conv => whnf)
      refine hK _ _ _ _ (ih (x + 1) _ (by omega) (by omega) (fun i hi => ?_) ?_ (fun i hi => ?_))
      · rw [zup_ne (by omega), zup_ne (by omega), zup_ne (by omega), hf i hi]
      · rw [zup_ne (by omega), zup_ne (by omega), zup_ne (by omega), hgk]
      · obtain ⟨b1, b2, b3⟩ := hrow i hi
        rw [zup_k (show k + 1 ≠ k + 3 by omega), zup_k (show k + 1 ≠ k + 2 by omega), zup_k (show k + 2 ≠ k + 3 by omega)]
        by_cases c : i = x - 1
        · rw [if_pos (by omega)]
          subst c
          rw [zup_s, zup_s, zup_s, show x - 1 + 1 = x by omega]
          exact ⟨rfl, rfl, rfl⟩
        · rw [zup_i (by omega), zup_i (by omega), zup_k (by omega), zup_i (by omega), zup_k (by omega), zup_k (by omega)]
          by_cases q : t ≤ i ∧ i + 1 < x
          · rw [if_pos q] at b1 b2 b3
            rw [if_pos (show t ≤ i ∧ i + 1 < x + 1 by omega)]
            exact ⟨b1, b2, b3⟩
          · rw [if_neg q] at b1 b2 b3
            rw [if_neg (show ¬ (t ≤ i ∧ i + 1 < x + 1) by omega)]
            exact ⟨b1, b2, b3⟩
  (refine zW.upto (zC_om _) 4 (fun K hK => ?_); conv => whnf)
  exact hK _ _ _ _ (l1 (n - (t + 1)) (t + 1) g (by omega) (by omega) (fun i hi => rfl) rfl (fun i hi => by rw [if_neg (show ¬ (t ≤ i ∧ i + 1 < t + 1) by omega)]; exact hr.2.2 i hi))
end CDR
