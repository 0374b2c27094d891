theorem zft {P : Prop} (h : false = true) : P := Bool.noConfusion h
/-! the best sum: the class's way and the reference's -/
def mbf (s : zS) : Nat → Nat → Nat → Int → Int
  | 0, _, _, _ => 0
  | r + 1, t, x, left => if left < s (21 + t) ∨ x.testBit t = true then mbf s r (t + 1) x left else max (mbf s r (t + 1) x left) (s (9 + t) + mbf s r (t + 1) (x ||| mb s t) (left - s (21 + t)))
/-- no two of a set bar each other -/
def mnb (s : zS) (S : Nat) : Prop := ∀ u v, S.testBit u = true → S.testBit v = true → (mb s u).testBit v = false
theorem mbf_rng {s : zS} {n : Nat} (hok : mok s n) : ∀ (r t x : Nat) (left : Int), t + r = n → 0 ≤ mbf s r t x left ∧ mbf s r t x left ≤ 99 * r
  | 0, _, _, _, _ => ⟨Int.le_refl _, by rw [mbf]; omega⟩
  | r + 1, t, x, left, h => by
    have i1 := mbf_rng hok r (t + 1) x left (by omega)
    have i2 := mbf_rng hok r (t + 1) (x ||| mb s t) (left - s (21 + t)) (by omega)
    have h9 := (hok.2.2.2 t (by omega)).1
    rw [mbf]
    split <;> omega
theorem mbf_ge {s : zS} {n : Nat} (hok : mok s n) : ∀ (r t x : Nat) (left : Int) (S : Nat), t + r = n → (∀ u, S.testBit u = true → t ≤ u ∧ u < n ∧ x.testBit u = false) → bsum s 21 S n ≤ left → mnb s S → bsum s 9 S n ≤ mbf s r t x left
  | 0, t, x, left, S, h, hS, _, _ => by
    have : S = 0 := Nat.eq_of_testBit_eq (fun u => by
      rw [Nat.zero_testBit]
      cases c : S.testBit u with
      | false => rfl
      | true => have := hS u c; omega)
    rw [this, bsum0, mbf]
    exact Int.le_refl _
  | r + 1, t, x, left, S, h, hS, hv, hb => by
    have ht : t < n := by omega
    rw [mbf]
    cases c : S.testBit t with
    | false =>
      have i1 := mbf_ge hok r (t + 1) x left S (by omega) (fun u hu => by
        have := hS u hu
        have : u ≠ t := fun w => by rw [w, c] at hu; exact zft hu
        exact ⟨by omega, (hS u hu).2⟩) hv hb
      split <;> omega
    | true =>
      have bitS : ∀ u, (ndf S (2 ^ t)).testBit u = true → S.testBit u = true ∧ u ≠ t := by
        intro u hu
        rw [ndf_bit, zpow_bit] at hu
        simp at hu
        exact ⟨hu.1, fun w => hu.2 w.symm⟩
      have hSt : (ndf S (2 ^ t)).testBit t = false := by rw [ndf_bit, zpow_bit]; simp
      have eS : S = ndf S (2 ^ t) ||| 2 ^ t := by
        refine Nat.eq_of_testBit_eq (fun u => ?_)
        rw [Nat.testBit_or, ndf_bit, zpow_bit]
        by_cases c2 : t = u
        · rw [← c2, c]; simp
        · simp [c2]
      have e21 := bsum_add (r := s) (f := 21) hSt n
      have e9 := bsum_add (r := s) (f := 9) hSt n
      rw [← eS, if_pos ht] at e21 e9
      have h0 := bsum_bd (r := s) (f := 21) (c := 50) (set := ndf S (2 ^ t)) n (fun u hu => by have := (hok.2.2.2 u hu).2.1; omega)
      have hx := (hS t c).2.2
      have hno : ¬ (left < s (21 + t) ∨ x.testBit t = true) := by
        rintro (w | w)
        · omega
        · rw [hx] at w; exact zft w
      rw [if_neg hno]
      have i2 := mbf_ge hok r (t + 1) (x ||| mb s t) (left - s (21 + t)) (ndf S (2 ^ t)) (by omega) (fun u hu => by
        obtain ⟨b1, b2⟩ := bitS u hu
        obtain ⟨q1, q2, q3⟩ := hS u b1
        refine ⟨by omega, q2, ?_⟩
        rw [Nat.testBit_or, q3, hb t u c b1]
        rfl) (by omega) (fun u v hu hv => hb u v (bitS u hu).1 (bitS v hv).1)
      omega
theorem mbf_at {s : zS} {n : Nat} (hok : mok s n) (hsym : msym s n) : ∀ (r t x : Nat) (left : Int), t + r = n → 0 ≤ left → ∃ S : Nat, (∀ u, S.testBit u = true → t ≤ u ∧ u < n ∧ x.testBit u = false) ∧ bsum s 21 S n ≤ left ∧ mnb s S ∧ bsum s 9 S n = mbf s r t x left
  | 0, t, x, left, h, hl => ⟨0, fun u hu => by rw [Nat.zero_testBit] at hu; exact zft hu, by rw [bsum0]; exact hl, fun u v hu _ => by rw [Nat.zero_testBit] at hu; exact zft hu, by rw [bsum0, mbf]⟩
  | r + 1, t, x, left, h, hl => by
    have ht : t < n := by omega
    obtain ⟨S, a1, a2, a3, a4⟩ := mbf_at hok hsym r (t + 1) x left (by omega) hl
    have a1' : ∀ u, S.testBit u = true → t ≤ u ∧ u < n ∧ x.testBit u = false := fun u hu => ⟨by have := a1 u hu; omega, (a1 u hu).2⟩
    by_cases c : left < s (21 + t) ∨ x.testBit t = true
    · exact ⟨S, a1', a2, a3, by rw [mbf, if_pos c]; exact a4⟩
    · rw [mbf, if_neg c]
      have c1 : s (21 + t) ≤ left := by
        rcases Int.lt_or_le left (s (21 + t)) with w | w
        · exact absurd (Or.inl w) c
        · exact w
      have c2 : x.testBit t = false := by
        cases w : x.testBit t with
        | false => rfl
        | true => exact absurd (Or.inr w) c
      obtain ⟨V, b1, b2, b3, b4⟩ := mbf_at hok hsym r (t + 1) (x ||| mb s t) (left - s (21 + t)) (by omega) (by omega)
      by_cases c3 : s (9 + t) + mbf s r (t + 1) (x ||| mb s t) (left - s (21 + t)) ≤ mbf s r (t + 1) x left
      · exact ⟨S, a1', a2, a3, by omega⟩
      · have bx : ∀ u, V.testBit u = true → t + 1 ≤ u ∧ u < n ∧ x.testBit u = false ∧ (mb s t).testBit u = false := by
          intro u hu
          obtain ⟨q1, q2, q3⟩ := b1 u hu
          rw [Nat.testBit_or, Bool.or_eq_false_iff] at q3
          exact ⟨q1, q2, q3.1, q3.2⟩
        have hVt : V.testBit t = false := by
          cases w : V.testBit t with
          | false => rfl
          | true => have := bx t w; omega
        have e21 := bsum_add (r := s) (f := 21) hVt n
        have e9 := bsum_add (r := s) (f := 9) hVt n
        rw [if_pos ht] at e21 e9
        have bor : ∀ u, (V ||| 2 ^ t).testBit u = true → V.testBit u = true ∨ u = t := by
          intro u hu
          rw [Nat.testBit_or, zpow_bit] at hu
          simp at hu
          rcases hu with w | w
          · exact Or.inl w
          · exact Or.inr w.symm
        refine ⟨V ||| 2 ^ t, fun u hu => ?_, by omega, fun u v hu hv => ?_, by omega⟩
        · rcases bor u hu with w | w
          · have := bx u w
            exact ⟨by omega, this.2.1, this.2.2.1⟩
          · rw [w]
            exact ⟨Nat.le_refl _, ht, c2⟩
        · rcases bor u hu with w | w
          · rcases bor v hv with w2 | w2
            · exact b3 u v w w2
            · have := bx u w
              rw [w2, (hsym u this.2.1).2.1 t ht]
              exact this.2.2.2
          · rcases bor v hv with w2 | w2
            · rw [w]
              exact (bx v w2).2.2.2
            · rw [w, w2]
              exact (hsym t ht).2.2
/-- what the reference takes of a set -/
def mva (s : zS) (n S : Nat) : Int := if mposs s n S = true then bsum s 9 S n else 0
def mbs (s : zS) (n : Nat) : Nat → Int
  | 0 => 0
  | S + 1 => if mbs s n S < mva s n S then mva s n S else mbs s n S
theorem mva_rng {s : zS} {n S : Nat} (hok : mok s n) : 0 ≤ mva s n S ∧ mva s n S ≤ 1188 := by
  have := msumw (set := S) hok
  unfold mva
  split <;> omega
theorem mbs_rng {s : zS} {n : Nat} (hok : mok s n) : ∀ N, 0 ≤ mbs s n N ∧ mbs s n N ≤ 1188
  | 0 => by rw [mbs]; omega
  | N + 1 => by
    have := mbs_rng hok N
    have := mva_rng (S := N) hok
    rw [mbs]
    split <;> omega
theorem mbs_ge {s : zS} {n : Nat} : ∀ N S, S < N → mva s n S ≤ mbs s n N
  | 0, S, h => absurd h (by omega)
  | N + 1, S, h => by
    rw [mbs]
    by_cases c : S = N
    · subst c
      split <;> omega
    · have := mbs_ge (s := s) (n := n) N S (by omega)
      split <;> omega
theorem mbs_at {s : zS} {n : Nat} : ∀ N, mbs s n N = 0 ∨ ∃ S, S < N ∧ mbs s n N = mva s n S
  | 0 => Or.inl rfl
  | N + 1 => by
    rw [mbs]
    split
    · exact Or.inr ⟨N, by omega, rfl⟩
    · rcases mbs_at (s := s) (n := n) N with w | ⟨S, w1, w2⟩
      · exact Or.inl w
      · exact Or.inr ⟨S, by omega, w2⟩
theorem mnb_iff {s : zS} {n S : Nat} (hs : S < 2 ^ n) : (∀ t, t < n → S.testBit t = true → mb s t &&& S = 0) ↔ mnb s S := by
  constructor
  · intro h u v hu hv
    have hun : u < n := by
      rcases Nat.lt_or_ge u n with q | q
      · exact q
      · rw [zlt_bits hs q] at hu; exact zft hu
    cases w : (mb s u).testBit v with
    | false => rfl
    | true => exact absurd ((nand0.mp (h u hun hu)) v w) (by rw [hv]; decide)
  · intro h t _ ht
    refine nand0.mpr (fun u hu => ?_)
    cases w : S.testBit u with
    | false => rfl
    | true => rw [h t u ht w] at hu; exact zft hu
theorem mbest {s : zS} {n : Nat} (hok : mok s n) (hsym : msym s n) : mbf s n 0 0 (s 1) = mbs s n (2 ^ n) := by
  have h1 := hok.2.2.1
  obtain ⟨S, a1, a2, a3, a4⟩ := mbf_at hok hsym n 0 0 (s 1) (by omega) h1.1
  have hS : S < 2 ^ n := zbits_lt (fun t ht => by
    cases w : S.testBit t with
    | false => rfl
    | true => have := a1 t w; omega)
  have e1 : mva s n S = bsum s 9 S n := by
    unfold mva
    rw [if_pos (mposs_iff.mpr ⟨a2, (mnb_iff hS).mpr a3⟩)]
  have l1 := mbs_ge (s := s) (n := n) (2 ^ n) S hS
  have r0 := (mbf_rng hok n 0 0 (s 1) (by omega)).1
  have l2 : mbs s n (2 ^ n) ≤ mbf s n 0 0 (s 1) := by
    rcases mbs_at (s := s) (n := n) (2 ^ n) with w | ⟨V, w1, w2⟩
    · omega
    · rw [w2]
      unfold mva
      split
      · rename_i w3
        obtain ⟨w4, w5⟩ := mposs_iff.mp w3
        refine mbf_ge hok n 0 0 (s 1) V (by omega) (fun u hu => ⟨Nat.zero_le _, ?_, Nat.zero_testBit _⟩) w4 ((mnb_iff w1).mp w5)
        rcases Nat.lt_or_ge u n with q | q
        · exact q
        · rw [zlt_bits w1 q] at hu; exact zft hu
      · exact r0
  omega
section PBS
variable {g : zM}
theorem c_bestFrom {k n : Nat} {s : zS} (hk : zKB k) (hr : RelB g k s n) (hok : mok s n) (hsym : msym s n) (d : Nat) : ∀ (r t x : Nat) (left : Int) (Q : zP), t + r = n → x < 2 ^ n → 0 ≤ left → left ≤ 200 → Q (some (zI (mbf s r t x left))) g → zC (d + r + 2) 80 [zR k, zI t, zI x, zI left] g Q := by
  obtain ⟨hk0, hk1, hk2, hk3, hk4⟩ := id hk
  have hn := hok.2.1
  have h2n := zp12 hn
  have hn4 := hr.1
  intro r
  induction r with
  | zero =>
    intro t x left Q h hx h0 h2 hQ
    refine zC.go zm_X5_bestFrom ⟨rfl, rfl⟩ rfl ?_
    (refine zW.go (zC_om _) (fun K hK => ?_); conv => whnf)
    (refine And.intro (by first | omega | assumption | rfl | exact zin_and | exact ⟨zin_and, by omega⟩ | exact ⟨by omega, zin_and⟩ | exact Nat.le_of_ble_eq_true rfl | exact ⟨Nat.le_of_ble_eq_true rfl, rfl⟩ | exact ⟨Nat.le_of_ble_eq_true rfl, by assumption⟩ | exact ⟨by omega, Nat.le_of_ble_eq_true rfl⟩ | exact ⟨⟨by assumption, by omega⟩, Nat.le_of_ble_eq_true rfl⟩ | decide) ?_; conv => whnf)
    (refine And.intro (fun h => by omega) (fun h => ?_); conv => whnf)
    (refine And.intro (by first | omega | assumption | rfl | exact zin_and | exact ⟨zin_and, by omega⟩ | exact ⟨by omega, zin_and⟩ | exact Nat.le_of_ble_eq_true rfl | exact ⟨Nat.le_of_ble_eq_true rfl, rfl⟩ | exact ⟨Nat.le_of_ble_eq_true rfl, by assumption⟩ | exact ⟨by omega, Nat.le_of_ble_eq_true rfl⟩ | exact ⟨⟨by assumption, by omega⟩, Nat.le_of_ble_eq_true rfl⟩ | decide) ?_; conv => whnf)
    rw [hn4]
    (refine And.intro (by first | omega | assumption | rfl | exact zin_and | exact ⟨zin_and, by omega⟩ | exact ⟨by omega, zin_and⟩ | exact Nat.le_of_ble_eq_true rfl | exact ⟨Nat.le_of_ble_eq_true rfl, rfl⟩ | exact ⟨Nat.le_of_ble_eq_true rfl, by assumption⟩ | exact ⟨by omega, Nat.le_of_ble_eq_true rfl⟩ | exact ⟨⟨by assumption, by omega⟩, Nat.le_of_ble_eq_true rfl⟩ | decide) ?_; conv => whnf)
    (refine And.intro (fun h => by omega) (fun h => ?_); conv => whnf)
    exact ⟨⟨fun w => absurd w (by decide), fun w => absurd w (by decide)⟩, hQ⟩
  | succ r ih =>
    intro t x left Q h hx h0 h2 hQ
    have ht : t < n := by omega
    obtain ⟨r1, r2, r3, -⟩ := hr.2.2 t ht
    obtain ⟨o1, o2, o3⟩ := hok.2.2.2 t ht
    have g1 := mbf_rng hok r (t + 1) x left (by omega)
    have g2 := mbf_rng hok r (t + 1) (x ||| mb s t) (left - s (21 + t)) (by omega)
    have hmb := (hsym t ht).1
    rw [mbf] at hQ
    show zC (d + r + 2 + 1) 80 [zR k, zI t, zI x, zI left] g Q
    refine zC.go zm_X5_bestFrom ⟨rfl, rfl⟩ rfl ?_
    (refine zW.go (zC_om _) (fun K hK => ?_); conv => whnf)
    (refine And.intro (by first | omega | assumption | rfl | exact zin_and | exact ⟨zin_and, by omega⟩ | exact ⟨by omega, zin_and⟩ | exact Nat.le_of_ble_eq_true rfl | exact ⟨Nat.le_of_ble_eq_true rfl, rfl⟩ | exact ⟨Nat.le_of_ble_eq_true rfl, by assumption⟩ | exact ⟨by omega, Nat.le_of_ble_eq_true rfl⟩ | exact ⟨⟨by assumption, by omega⟩, Nat.le_of_ble_eq_true rfl⟩ | decide) ?_; conv => whnf)
    (refine And.intro (fun h => by omega) (fun h => ?_); conv => whnf)
    (refine And.intro (by first | omega | assumption | rfl | exact zin_and | exact ⟨zin_and, by omega⟩ | exact ⟨by omega, zin_and⟩ | exact Nat.le_of_ble_eq_true rfl | exact ⟨Nat.le_of_ble_eq_true rfl, rfl⟩ | exact ⟨Nat.le_of_ble_eq_true rfl, by assumption⟩ | exact ⟨by omega, Nat.le_of_ble_eq_true rfl⟩ | exact ⟨⟨by assumption, by omega⟩, Nat.le_of_ble_eq_true rfl⟩ | decide) ?_; conv => whnf)
    rw [hn4]
    (refine And.intro (by first | omega | assumption | rfl | exact zin_and | exact ⟨zin_and, by omega⟩ | exact ⟨by omega, zin_and⟩ | exact Nat.le_of_ble_eq_true rfl | exact ⟨Nat.le_of_ble_eq_true rfl, rfl⟩ | exact ⟨Nat.le_of_ble_eq_true rfl, by assumption⟩ | exact ⟨by omega, Nat.le_of_ble_eq_true rfl⟩ | exact ⟨⟨by assumption, by omega⟩, Nat.le_of_ble_eq_true rfl⟩ | decide) ?_; conv => whnf)
    (refine And.intro (fun h => ?_) (fun h => by omega); conv => whnf)
    (refine hK _ _ _ _ (zW.go (zC_om _) (fun K hK => ?_)); conv => whnf)
    (refine And.intro (by first | omega | assumption | rfl | exact zin_and | exact ⟨zin_and, by omega⟩ | exact ⟨by omega, zin_and⟩ | exact Nat.le_of_ble_eq_true rfl | exact ⟨Nat.le_of_ble_eq_true rfl, rfl⟩ | exact ⟨Nat.le_of_ble_eq_true rfl, by assumption⟩ | exact ⟨by omega, Nat.le_of_ble_eq_true rfl⟩ | exact ⟨⟨by assumption, by omega⟩, Nat.le_of_ble_eq_true rfl⟩ | decide) ?_; conv => whnf)
    (refine ih (t + 1) x left _ (by omega) hx h0 h2 ?_; conv => whnf)
    (refine And.intro (by first | omega | assumption | rfl | exact zin_and | exact ⟨zin_and, by omega⟩ | exact ⟨by omega, zin_and⟩ | exact Nat.le_of_ble_eq_true rfl | exact ⟨Nat.le_of_ble_eq_true rfl, rfl⟩ | exact ⟨Nat.le_of_ble_eq_true rfl, by assumption⟩ | exact ⟨by omega, Nat.le_of_ble_eq_true rfl⟩ | exact ⟨⟨by assumption, by omega⟩, Nat.le_of_ble_eq_true rfl⟩ | decide) ?_; conv => whnf)
    (refine And.intro (by first | omega | assumption | rfl | exact zin_and | exact ⟨zin_and, by omega⟩ | exact ⟨by omega, zin_and⟩ | exact Nat.le_of_ble_eq_true rfl | exact ⟨Nat.le_of_ble_eq_true rfl, rfl⟩ | exact ⟨Nat.le_of_ble_eq_true rfl, by assumption⟩ | exact ⟨by omega, Nat.le_of_ble_eq_true rfl⟩ | exact ⟨⟨by assumption, by omega⟩, Nat.le_of_ble_eq_true rfl⟩ | decide) ?_; conv => whnf)
    (refine s_at hk2 (by omega) (by omega) ?_; conv => whnf)
    rw [if_pos (by omega), r2]
    generalize mbf s r (t + 1) x left = e1 at *
    generalize hs21 : s (21 + t) = w21 at *
    (refine And.intro (by first | omega | assumption | rfl | exact zin_and | exact ⟨zin_and, by omega⟩ | exact ⟨by omega, zin_and⟩ | exact Nat.le_of_ble_eq_true rfl | exact ⟨Nat.le_of_ble_eq_true rfl, rfl⟩ | exact ⟨Nat.le_of_ble_eq_true rfl, by assumption⟩ | exact ⟨by omega, Nat.le_of_ble_eq_true rfl⟩ | exact ⟨⟨by assumption, by omega⟩, Nat.le_of_ble_eq_true rfl⟩ | decide) ?_; conv => whnf)
    by_cases c1 : left < w21
    · rw [if_pos (Or.inl c1)] at hQ
      (refine And.intro (fun h => ?_) (fun h => by omega); conv => whnf)
      (refine hK _ _ _ _ (zW.go (zC_om _) (fun K hK => ?_)); conv => whnf)
      exact ⟨⟨fun w => absurd w (by decide), fun w => absurd w (by decide)⟩, hQ⟩
    · (refine And.intro (fun h => by omega) (fun h => ?_); conv => whnf)
      (refine And.intro (by first | omega | assumption | rfl | exact zin_and | exact ⟨zin_and, by omega⟩ | exact ⟨by omega, zin_and⟩ | exact Nat.le_of_ble_eq_true rfl | exact ⟨Nat.le_of_ble_eq_true rfl, rfl⟩ | exact ⟨Nat.le_of_ble_eq_true rfl, by assumption⟩ | exact ⟨by omega, Nat.le_of_ble_eq_true rfl⟩ | exact ⟨⟨by assumption, by omega⟩, Nat.le_of_ble_eq_true rfl⟩ | decide) ?_; conv => whnf)
      (refine s_has (by omega) (by omega) ?_; conv => whnf)
      (refine And.intro (by first | omega | assumption | rfl | exact zin_and | exact ⟨zin_and, by omega⟩ | exact ⟨by omega, zin_and⟩ | exact Nat.le_of_ble_eq_true rfl | exact ⟨Nat.le_of_ble_eq_true rfl, rfl⟩ | exact ⟨Nat.le_of_ble_eq_true rfl, by assumption⟩ | exact ⟨by omega, Nat.le_of_ble_eq_true rfl⟩ | exact ⟨⟨by assumption, by omega⟩, Nat.le_of_ble_eq_true rfl⟩ | decide) ?_; conv => whnf)
      by_cases c2 : x.testBit t = true
      · rw [if_pos (Or.inr c2)] at hQ
        rw [if_pos c2]
        (refine And.intro (fun h => by omega) (fun h => ?_); conv => whnf)
        exact ⟨⟨fun w => absurd w (by decide), fun w => absurd w (by decide)⟩, hQ⟩
      · rw [if_neg (fun w => w.elim c1 c2)] at hQ
        rw [if_neg c2]
        (refine And.intro (fun h => ?_) (fun h => by omega); conv => whnf)
        (refine hK _ _ _ _ (zW.go (zC_om _) (fun K hK => ?_)); conv => whnf)
        (refine And.intro (by first | omega | assumption | rfl | exact zin_and | exact ⟨zin_and, by omega⟩ | exact ⟨by omega, zin_and⟩ | exact Nat.le_of_ble_eq_true rfl | exact ⟨Nat.le_of_ble_eq_true rfl, rfl⟩ | exact ⟨Nat.le_of_ble_eq_true rfl, by assumption⟩ | exact ⟨by omega, Nat.le_of_ble_eq_true rfl⟩ | exact ⟨⟨by assumption, by omega⟩, Nat.le_of_ble_eq_true rfl⟩ | decide) ?_; conv => whnf)
        (refine And.intro (by first | omega | assumption | rfl | exact zin_and | exact ⟨zin_and, by omega⟩ | exact ⟨by omega, zin_and⟩ | exact Nat.le_of_ble_eq_true rfl | exact ⟨Nat.le_of_ble_eq_true rfl, rfl⟩ | exact ⟨Nat.le_of_ble_eq_true rfl, by assumption⟩ | exact ⟨by omega, Nat.le_of_ble_eq_true rfl⟩ | exact ⟨⟨by assumption, by omega⟩, Nat.le_of_ble_eq_true rfl⟩ | decide) ?_; conv => whnf)
        (refine s_at hk3 (by omega) (by omega) ?_; conv => whnf)
        rw [if_pos (by omega), r3, mb_eq hok ht, zor_nat (by omega) (by omega)]
        (refine And.intro (by first | omega | assumption | rfl | exact zin_and | exact ⟨zin_and, by omega⟩ | exact ⟨by omega, zin_and⟩ | exact Nat.le_of_ble_eq_true rfl | exact ⟨Nat.le_of_ble_eq_true rfl, rfl⟩ | exact ⟨Nat.le_of_ble_eq_true rfl, by assumption⟩ | exact ⟨by omega, Nat.le_of_ble_eq_true rfl⟩ | exact ⟨⟨by assumption, by omega⟩, Nat.le_of_ble_eq_true rfl⟩ | decide) ?_; conv => whnf)
        (refine ih (t + 1) (x ||| mb s t) (left - w21) _ (by omega) (Nat.or_lt_two_pow hx hmb) (by omega) (by omega) ?_; conv => whnf)
        (refine And.intro (by first | omega | assumption | rfl | exact zin_and | exact ⟨zin_and, by omega⟩ | exact ⟨by omega, zin_and⟩ | exact Nat.le_of_ble_eq_true rfl | exact ⟨Nat.le_of_ble_eq_true rfl, rfl⟩ | exact ⟨Nat.le_of_ble_eq_true rfl, by assumption⟩ | exact ⟨by omega, Nat.le_of_ble_eq_true rfl⟩ | exact ⟨⟨by assumption, by omega⟩, Nat.le_of_ble_eq_true rfl⟩ | decide) ?_; conv => whnf)
        (refine And.intro (by first | omega | assumption | rfl | exact zin_and | exact ⟨zin_and, by omega⟩ | exact ⟨by omega, zin_and⟩ | exact Nat.le_of_ble_eq_true rfl | exact ⟨Nat.le_of_ble_eq_true rfl, rfl⟩ | exact ⟨Nat.le_of_ble_eq_true rfl, by assumption⟩ | exact ⟨by omega, Nat.le_of_ble_eq_true rfl⟩ | exact ⟨⟨by assumption, by omega⟩, Nat.le_of_ble_eq_true rfl⟩ | decide) ?_; conv => whnf)
        (refine s_at hk1 (by omega) (by omega) ?_; conv => whnf)
        rw [if_pos (by omega), r1]
        (refine And.intro (by first | omega | assumption | rfl | exact zin_and | exact ⟨zin_and, by omega⟩ | exact ⟨by omega, zin_and⟩ | exact Nat.le_of_ble_eq_true rfl | exact ⟨Nat.le_of_ble_eq_true rfl, rfl⟩ | exact ⟨Nat.le_of_ble_eq_true rfl, by assumption⟩ | exact ⟨by omega, Nat.le_of_ble_eq_true rfl⟩ | exact ⟨⟨by assumption, by omega⟩, Nat.le_of_ble_eq_true rfl⟩ | decide) ?_; conv => whnf)
        exact ⟨⟨fun w => absurd w (by decide), fun w => absurd w (by decide)⟩, hQ⟩
theorem c_bestSum {d n m : Nat} {s : zS} {Q : zP} (hr : RelC g 8 s n m) (hw : minw s n m) (hQ : Q (some (zI (mbf s n 0 0 (s 1)))) g) : zC (d + 15) 75 [zR 0] g Q := by
  have k0 := zkd0
  have k8 := zKC_8.1
  have k9 : zkd 9 = (0, 0) := rfl
  have hn := hw.n12
  have h1 := hw.1.1.2.2.1
  obtain ⟨D, e⟩ : ∃ D, D = d + 14 := ⟨_, rfl⟩
  rw [show d + 15 = D + 1 by omega]
  refine zC.go zm_X5_bestSum ⟨rfl, rfl⟩ rfl ?_
  (refine zW.go (zC_om _) (fun K hK => ?_); conv => whnf)
  (refine And.intro (by first | omega | assumption | rfl | exact zin_and | exact ⟨zin_and, by omega⟩ | exact ⟨by omega, zin_and⟩ | exact Nat.le_of_ble_eq_true rfl | exact ⟨Nat.le_of_ble_eq_true rfl, rfl⟩ | exact ⟨Nat.le_of_ble_eq_true rfl, by assumption⟩ | exact ⟨by omega, Nat.le_of_ble_eq_true rfl⟩ | exact ⟨⟨by assumption, by omega⟩, Nat.le_of_ble_eq_true rfl⟩ | decide) ?_; conv => whnf)
  (refine And.intro (by first | omega | assumption | rfl | exact zin_and | exact ⟨zin_and, by omega⟩ | exact ⟨by omega, zin_and⟩ | exact Nat.le_of_ble_eq_true rfl | exact ⟨Nat.le_of_ble_eq_true rfl, rfl⟩ | exact ⟨Nat.le_of_ble_eq_true rfl, by assumption⟩ | exact ⟨by omega, Nat.le_of_ble_eq_true rfl⟩ | exact ⟨⟨by assumption, by omega⟩, Nat.le_of_ble_eq_true rfl⟩ | decide) ?_; conv => whnf)
  (refine And.intro (by first | omega | assumption | rfl | exact zin_and | exact ⟨zin_and, by omega⟩ | exact ⟨by omega, zin_and⟩ | exact Nat.le_of_ble_eq_true rfl | exact ⟨Nat.le_of_ble_eq_true rfl, rfl⟩ | exact ⟨Nat.le_of_ble_eq_true rfl, by assumption⟩ | exact ⟨by omega, Nat.le_of_ble_eq_true rfl⟩ | exact ⟨⟨by assumption, by omega⟩, Nat.le_of_ble_eq_true rfl⟩ | decide) ?_; conv => whnf)
  (refine And.intro (by first | omega | assumption | rfl | exact zin_and | exact ⟨zin_and, by omega⟩ | exact ⟨by omega, zin_and⟩ | exact Nat.le_of_ble_eq_true rfl | exact ⟨Nat.le_of_ble_eq_true rfl, rfl⟩ | exact ⟨Nat.le_of_ble_eq_true rfl, by assumption⟩ | exact ⟨by omega, Nat.le_of_ble_eq_true rfl⟩ | exact ⟨⟨by assumption, by omega⟩, Nat.le_of_ble_eq_true rfl⟩ | decide) ?_; conv => whnf)
  (refine And.intro (by first | omega | assumption | rfl | exact zin_and | exact ⟨zin_and, by omega⟩ | exact ⟨by omega, zin_and⟩ | exact Nat.le_of_ble_eq_true rfl | exact ⟨Nat.le_of_ble_eq_true rfl, rfl⟩ | exact ⟨Nat.le_of_ble_eq_true rfl, by assumption⟩ | exact ⟨by omega, Nat.le_of_ble_eq_true rfl⟩ | exact ⟨⟨by assumption, by omega⟩, Nat.le_of_ble_eq_true rfl⟩ | decide) ?_; conv => whnf)
  rw [hr.1.2.1]
  (refine And.intro (by first | omega | assumption | rfl | exact zin_and | exact ⟨zin_and, by omega⟩ | exact ⟨by omega, zin_and⟩ | exact Nat.le_of_ble_eq_true rfl | exact ⟨Nat.le_of_ble_eq_true rfl, rfl⟩ | exact ⟨Nat.le_of_ble_eq_true rfl, by assumption⟩ | exact ⟨by omega, Nat.le_of_ble_eq_true rfl⟩ | exact ⟨⟨by assumption, by omega⟩, Nat.le_of_ble_eq_true rfl⟩ | decide) ?_; conv => whnf)
  rw [show D = (d + (12 - n)) + n + 2 by omega]
  (refine c_bestFrom zKC_8.2.1 hr.1 hw.1.1 hw.1.2.1 (d + (12 - n)) n 0 0 (s 1) _ (by omega) (Nat.two_pow_pos n) h1.1 h1.2 ?_; conv => whnf)
  exact ⟨⟨fun w => absurd w (by decide), fun w => absurd w (by decide)⟩, hQ⟩
theorem m_bestSum {d n m : Nat} {Q : zP} (hw : minw (g 65) n m) (hQ : Q (some (zI (mbs (g 65) n (2 ^ n)))) g) : zC (d + 3) 144 [zR 64] g Q := by
  have k64 := zkd64
  have k65a : (zkd 65).1 = 1 := rfl
  have k65b : (zkd 65).2 = 2845 := rfl
  have hok := hw.1.1
  have hn := hw.n12
  have h2n := zp12 hn
  have hn0 : g 65 0 = n := hok.1
  have hz : zin ((2 ^ n : Nat) : Int) := ⟨by have := Int.natCast_nonneg (2 ^ n); omega, by omega⟩
  refine zC.go zm_X6_bestSum ⟨rfl, rfl⟩ rfl ?_
  have loop : (∀ x : zV, zW zX6_bestSum (zC (d + 2)) Q 4 [zR 64, zI (mbs (g 65) n 0), zI ((0 : Nat) : Int), x] [] g) := by
    refine zdown (P := fun S => ∀ x : zV, zW zX6_bestSum (zC (d + 2)) Q 4 [zR 64, zI (mbs (g 65) n S), zI S, x] [] g) (2 ^ n) (fun x => ?_) (fun S hS hi x => ?_)
    · (refine zW.go (zC_om _) (fun K hK => ?_); conv => whnf)
      (refine And.intro (by first | omega | assumption | rfl | exact zin_and | exact ⟨zin_and, by omega⟩ | exact ⟨by omega, zin_and⟩ | exact Nat.le_of_ble_eq_true rfl | exact ⟨Nat.le_of_ble_eq_true rfl, rfl⟩ | exact ⟨Nat.le_of_ble_eq_true rfl, by assumption⟩ | exact ⟨by omega, Nat.le_of_ble_eq_true rfl⟩ | exact ⟨⟨by assumption, by omega⟩, Nat.le_of_ble_eq_true rfl⟩ | decide) ?_; conv => whnf)
      (refine And.intro (by first | omega | assumption | rfl | exact zin_and | exact ⟨zin_and, by omega⟩ | exact ⟨by omega, zin_and⟩ | exact Nat.le_of_ble_eq_true rfl | exact ⟨Nat.le_of_ble_eq_true rfl, rfl⟩ | exact ⟨Nat.le_of_ble_eq_true rfl, by assumption⟩ | exact ⟨by omega, Nat.le_of_ble_eq_true rfl⟩ | exact ⟨⟨by assumption, by omega⟩, Nat.le_of_ble_eq_true rfl⟩ | decide) ?_; conv => whnf)
      rw [hn0, zone_shl (by omega)]
      refine ⟨⟨hz, hz⟩, ?_⟩
      conv => whnf
      refine And.intro (fun h => ?_) (fun h => absurd (Int.le_refl _) h)
      conv => whnf
      (refine hK _ _ _ _ (zW.go (zC_om _) (fun K hK => ?_)); conv => whnf)
      exact ⟨⟨fun w => absurd w (by decide), fun w => absurd w (by decide)⟩, hQ⟩
    · rw [mbs] at hi
      have q1 := mbs_rng hok S
      have q2 := mva_rng (S := S) hok
      have tail : ∀ (x : zV) (v : Int), v = mva (g 65) n S → zW zX6_bestSum (zC (d + 2)) Q 24 [zR 64, zI (mbs (g 65) n S), zI S, x] [zI v] g := by
        intro x v hv
        rw [← hv] at hi q2
        generalize mbs (g 65) n S = b at *
        (refine zW.go (zC_om _) (fun K hK => ?_); conv => whnf)
        (refine And.intro (by first | omega | assumption | rfl | exact zin_and | exact ⟨zin_and, by omega⟩ | exact ⟨by omega, zin_and⟩ | exact Nat.le_of_ble_eq_true rfl | exact ⟨Nat.le_of_ble_eq_true rfl, rfl⟩ | exact ⟨Nat.le_of_ble_eq_true rfl, by assumption⟩ | exact ⟨by omega, Nat.le_of_ble_eq_true rfl⟩ | exact ⟨⟨by assumption, by omega⟩, Nat.le_of_ble_eq_true rfl⟩ | decide) ?_; conv => whnf)
        by_cases c : v ≤ b
        · rw [if_neg (by omega)] at hi
          (refine And.intro (fun h => ?_) (fun h => by omega); conv => whnf)
          (refine hK _ _ _ _ (zW.go (zC_om _) (fun K hK => ?_)); conv => whnf)
          exact hK _ _ _ _ (hi _)
        · rw [if_pos (by omega)] at hi
          (refine And.intro (fun h => by omega) (fun h => ?_); conv => whnf)
          refine hK _ _ _ _ (zW.go (zC_om _) (fun K hK => ?_))
          conv => whnf
          exact hK _ _ _ _ (hi _)
      (refine zW.upto (zC_om _) 20 (fun K hK => ?_); conv => whnf)
      (refine And.intro (by first | omega | assumption | rfl | exact zin_and | exact ⟨zin_and, by omega⟩ | exact ⟨by omega, zin_and⟩ | exact Nat.le_of_ble_eq_true rfl | exact ⟨Nat.le_of_ble_eq_true rfl, rfl⟩ | exact ⟨Nat.le_of_ble_eq_true rfl, by assumption⟩ | exact ⟨by omega, Nat.le_of_ble_eq_true rfl⟩ | exact ⟨⟨by assumption, by omega⟩, Nat.le_of_ble_eq_true rfl⟩ | decide) ?_; conv => whnf)
      (refine And.intro (by first | omega | assumption | rfl | exact zin_and | exact ⟨zin_and, by omega⟩ | exact ⟨by omega, zin_and⟩ | exact Nat.le_of_ble_eq_true rfl | exact ⟨Nat.le_of_ble_eq_true rfl, rfl⟩ | exact ⟨Nat.le_of_ble_eq_true rfl, by assumption⟩ | exact ⟨by omega, Nat.le_of_ble_eq_true rfl⟩ | exact ⟨⟨by assumption, by omega⟩, Nat.le_of_ble_eq_true rfl⟩ | decide) ?_; conv => whnf)
      rw [hn0, zone_shl (by omega)]
      (refine And.intro (by first | omega | assumption | rfl | exact zin_and | exact ⟨zin_and, by omega⟩ | exact ⟨by omega, zin_and⟩ | exact Nat.le_of_ble_eq_true rfl | exact ⟨Nat.le_of_ble_eq_true rfl, rfl⟩ | exact ⟨Nat.le_of_ble_eq_true rfl, by assumption⟩ | exact ⟨by omega, Nat.le_of_ble_eq_true rfl⟩ | exact ⟨⟨by assumption, by omega⟩, Nat.le_of_ble_eq_true rfl⟩ | decide) ?_; conv => whnf)
      (refine And.intro (fun h => by omega) (fun h => ?_); conv => whnf)
      (refine And.intro (by first | omega | assumption | rfl | exact zin_and | exact ⟨zin_and, by omega⟩ | exact ⟨by omega, zin_and⟩ | exact Nat.le_of_ble_eq_true rfl | exact ⟨Nat.le_of_ble_eq_true rfl, rfl⟩ | exact ⟨Nat.le_of_ble_eq_true rfl, by assumption⟩ | exact ⟨by omega, Nat.le_of_ble_eq_true rfl⟩ | exact ⟨⟨by assumption, by omega⟩, Nat.le_of_ble_eq_true rfl⟩ | decide) ?_; conv => whnf)
      (refine And.intro (by first | omega | assumption | rfl | exact zin_and | exact ⟨zin_and, by omega⟩ | exact ⟨by omega, zin_and⟩ | exact Nat.le_of_ble_eq_true rfl | exact ⟨Nat.le_of_ble_eq_true rfl, rfl⟩ | exact ⟨Nat.le_of_ble_eq_true rfl, by assumption⟩ | exact ⟨by omega, Nat.le_of_ble_eq_true rfl⟩ | exact ⟨⟨by assumption, by omega⟩, Nat.le_of_ble_eq_true rfl⟩ | decide) ?_; conv => whnf)
      (refine m_isPossible zkd65 hok (by omega) ?_; conv => whnf)
      unfold mva at tail
      by_cases c : mposs (g 65) n S = true
      · rw [if_pos c] at tail
        rw [c, zb_t]
        (refine And.intro (by first | omega | assumption | rfl | exact zin_and | exact ⟨zin_and, by omega⟩ | exact ⟨by omega, zin_and⟩ | exact Nat.le_of_ble_eq_true rfl | exact ⟨Nat.le_of_ble_eq_true rfl, rfl⟩ | exact ⟨Nat.le_of_ble_eq_true rfl, by assumption⟩ | exact ⟨by omega, Nat.le_of_ble_eq_true rfl⟩ | exact ⟨⟨by assumption, by omega⟩, Nat.le_of_ble_eq_true rfl⟩ | decide) ?_; conv => whnf)
        (refine And.intro (fun h => by omega) (fun h => ?_); conv => whnf)
        (refine And.intro (by first | omega | assumption | rfl | exact zin_and | exact ⟨zin_and, by omega⟩ | exact ⟨by omega, zin_and⟩ | exact Nat.le_of_ble_eq_true rfl | exact ⟨Nat.le_of_ble_eq_true rfl, rfl⟩ | exact ⟨Nat.le_of_ble_eq_true rfl, by assumption⟩ | exact ⟨by omega, Nat.le_of_ble_eq_true rfl⟩ | exact ⟨⟨by assumption, by omega⟩, Nat.le_of_ble_eq_true rfl⟩ | decide) ?_; conv => whnf)
        (refine And.intro (by first | omega | assumption | rfl | exact zin_and | exact ⟨zin_and, by omega⟩ | exact ⟨by omega, zin_and⟩ | exact Nat.le_of_ble_eq_true rfl | exact ⟨Nat.le_of_ble_eq_true rfl, rfl⟩ | exact ⟨Nat.le_of_ble_eq_true rfl, by assumption⟩ | exact ⟨by omega, Nat.le_of_ble_eq_true rfl⟩ | exact ⟨⟨by assumption, by omega⟩, Nat.le_of_ble_eq_true rfl⟩ | decide) ?_; conv => whnf)
        (refine m_sum (f := 9) zkd65 hn0 hn (by omega) (by omega) (by omega) ?_; conv => whnf)
        exact hK _ _ _ _ (tail _ _ rfl)
      · rw [if_neg c] at tail
        rw [show mposs (g 65) n S = false by simpa using c, zb_f]
        (refine And.intro (by first | omega | assumption | rfl | exact zin_and | exact ⟨zin_and, by omega⟩ | exact ⟨by omega, zin_and⟩ | exact Nat.le_of_ble_eq_true rfl | exact ⟨Nat.le_of_ble_eq_true rfl, rfl⟩ | exact ⟨Nat.le_of_ble_eq_true rfl, by assumption⟩ | exact ⟨by omega, Nat.le_of_ble_eq_true rfl⟩ | exact ⟨⟨by assumption, by omega⟩, Nat.le_of_ble_eq_true rfl⟩ | decide) ?_; conv => whnf)
        (refine And.intro (fun h => ?_) (fun h => by omega); conv => whnf)
        (refine hK _ _ _ _ ?_)
        (refine zW.upto (zC_om _) 1 (fun K hK => ?_); conv => whnf)
        exact hK _ _ _ _ (tail _ _ rfl)
  (refine zW.upto (zC_om _) 4 (fun K hK => ?_); conv => whnf)
  exact hK _ _ _ _ (loop _)
theorem p_bestSum {d : Nat} (hJ : J g) : zPair (d + 15) 75 [zR 0] 144 [zR 64] g := by
  obtain ⟨⟨n, m, hw, hr⟩, -⟩ := id hJ
  have h := mbf_rng hw.1.1 n 0 0 (g 65 1) (by omega)
  have hn := hw.n12
  have e := mbest hw.1.1 hw.1.2.1
  refine c_bestSum hr hw ⟨_, by omega, rfl, m_bestSum (d := d + 12) hw ⟨?_, hJ⟩⟩
  rw [e]
end PBS
