/-! the reference: strong trials -/
def zmx (a b : Int) : Int := if b < a then a else b
def zmn (a b : Int) : Int := if b < a then b else a
def mtr (s : zS) (n fr i o : Nat) : Nat → Int × Int × Int
  | 0 => (-5, 0, 0)
  | t + 1 => if fr.testBit t = true ∧ ((mtr s n fr i o t).1 = -5 ∨ zmx (mchild s n i (o ||| 2 ^ t)) (mchild s n (i ||| 2 ^ t) o) < (mtr s n fr i o t).2.1 ∨ (zmx (mchild s n i (o ||| 2 ^ t)) (mchild s n (i ||| 2 ^ t) o) = (mtr s n fr i o t).2.1 ∧ zmn (mchild s n i (o ||| 2 ^ t)) (mchild s n (i ||| 2 ^ t) o) < (mtr s n fr i o t).2.2))
      then ((t : Int), zmx (mchild s n i (o ||| 2 ^ t)) (mchild s n (i ||| 2 ^ t) o), zmn (mchild s n i (o ||| 2 ^ t)) (mchild s n (i ||| 2 ^ t) o)) else mtr s n fr i o t
abbrev mtrials (s : zS) (n i o : Nat) : Int := (mtr s n (mfree s n i o) i o n).1
theorem zmx_rng {a b : Int} (ha : 0 ≤ a ∧ a ≤ 2376) (hb : 0 ≤ b ∧ b ≤ 2376) : 0 ≤ zmx a b ∧ zmx a b ≤ 2376 := by unfold zmx; split <;> omega
theorem zmn_rng {a b : Int} (ha : 0 ≤ a ∧ a ≤ 2376) (hb : 0 ≤ b ∧ b ≤ 2376) : 0 ≤ zmn a b ∧ zmn a b ≤ 2376 := by unfold zmn; split <;> omega
theorem mtr_rng {s : zS} {n fr i o : Nat} (hok : mok s n) : ∀ t : Nat, ((mtr s n fr i o t).1 = -5 ∨ (0 ≤ (mtr s n fr i o t).1 ∧ (mtr s n fr i o t).1 < t ∧ fr.testBit (mtr s n fr i o t).1.toNat = true)) ∧ (0 ≤ (mtr s n fr i o t).2.1 ∧ (mtr s n fr i o t).2.1 ≤ 2376) ∧ (0 ≤ (mtr s n fr i o t).2.2 ∧ (mtr s n fr i o t).2.2 ≤ 2376)
  | 0 => ⟨Or.inl rfl, by simp [mtr], by simp [mtr]⟩
  | t + 1 => by
    obtain ⟨h1, h2, h3⟩ := mtr_rng (fr := fr) (i := i) (o := o) hok t
    have c1 := mchild_rng (i := i) (o := o ||| 2 ^ t) hok
    have c2 := mchild_rng (i := i ||| 2 ^ t) (o := o) hok
    rw [mtr]
    split
    · next hc => exact ⟨Or.inr ⟨by dsimp only; omega, by dsimp only; omega, by simpa using hc.1⟩, zmx_rng c1 c2, zmn_rng c1 c2⟩
    · refine ⟨?_, h2, h3⟩
      rcases h1 with h | h
      · exact Or.inl h
      · exact Or.inr ⟨h.1, by omega, h.2.2⟩
set_option maxHeartbeats 1000000 in
theorem m_byTrials {d a n i o : Nat} {g : zM} {Q : zP} (ha : zkd a = (1, 2845)) (hok : mok (g a) n) (hso : mso g (g a) n) (hi31 : i < 2 ^ 31) (ho31 : o < 2 ^ 31) (hQ : Q (some (zI (mtrials (g a) n i o))) g) : zC (d + 5) 108 [zR 64, zR a, zI i, zI o] g Q := by
  have hk1 : (zkd a).1 = 1 := by rw [ha]
  have hk2 : (zkd a).2 = 2845 := by rw [ha]
  obtain ⟨hn, hn12, hroom, hth⟩ := id hok
  have hfl : mfree (g a) n i o < 2 ^ n := mfr_lt (g a) n i o n
  have h2n := zp12 hn12
  have hQ : Q (some (zI (mtr (g a) n (mfree (g a) n i o) i o n).1)) g := hQ
  generalize hfr : mfree (g a) n i o = fr at *
  refine zC.go zm_X6_byTrials ⟨rfl, rfl⟩ rfl ?_
  have loop : ∀ x9 x10 x11 x12 x13 : zV, zW zX6_byTrials (zC (d + 4)) Q 13 [zR 64, zR a, zI i, zI o, zI fr, zI (mtr (g a) n fr i o 0).1, zI (mtr (g a) n fr i o 0).2.1, zI (mtr (g a) n fr i o 0).2.2, zI 0, x9, x10, x11, x12, x13] [] g := by
    refine (zdown (P := fun t => ∀ x9 x10 x11 x12 x13 : zV, zW zX6_byTrials (zC (d + 4)) Q 13 [zR 64, zR a, zI i, zI o, zI fr, zI (mtr (g a) n fr i o t).1, zI (mtr (g a) n fr i o t).2.1, zI (mtr (g a) n fr i o t).2.2, zI t, x9, x10, x11, x12, x13] [] g) n ?_ ?_)
    · intro x9 x10 x11 x12 x13
      (refine zW.go (zC_om _) (fun K hK => ?_); conv => whnf)
      (refine And.intro (by first | omega | assumption | rfl | exact zin_and | exact ⟨zin_and, by omega⟩ | exact ⟨by omega, zin_and⟩ | exact Nat.le_of_ble_eq_true rfl | exact ⟨Nat.le_of_ble_eq_true rfl, rfl⟩ | exact ⟨Nat.le_of_ble_eq_true rfl, by assumption⟩ | decide) ?_; conv => whnf)
      (refine And.intro (by first | omega | assumption | rfl | exact zin_and | exact ⟨zin_and, by omega⟩ | exact ⟨by omega, zin_and⟩ | exact Nat.le_of_ble_eq_true rfl | exact ⟨Nat.le_of_ble_eq_true rfl, rfl⟩ | exact ⟨Nat.le_of_ble_eq_true rfl, by assumption⟩ | decide) ?_; conv => whnf)
      (refine And.intro (fun h => ?_) (fun h => by omega); conv => whnf)
      (repeat' first | (refine hK _ _ _ _ (zW.go (zC_om _) (fun K hK => ?_)); conv => whnf) | (refine And.intro (by first | omega | assumption | rfl | exact zin_and | exact ⟨zin_and, by omega⟩ | exact ⟨by omega, zin_and⟩ | exact Nat.le_of_ble_eq_true rfl | exact ⟨Nat.le_of_ble_eq_true rfl, rfl⟩ | exact ⟨Nat.le_of_ble_eq_true rfl, by assumption⟩ | decide) ?_; conv => whnf) | (refine And.intro (fun h => ?_) (fun h => ?_) <;> conv => whnf) | (intro h; conv => whnf))
      exact hQ
    · intro t ht hi x9 x10 x11 x12 x13
      have h2t : 2 ^ t < 2 ^ 31 := Nat.pow_lt_pow_right (by decide) (by omega)
      have hot : o ||| 2 ^ t < 2 ^ 31 := Nat.or_lt_two_pow ho31 h2t
      have hit : i ||| 2 ^ t < 2 ^ 31 := Nat.or_lt_two_pow hi31 h2t
      have c1 := mchild_rng (i := i) (o := o ||| 2 ^ t) hok
      have c2 := mchild_rng (i := i ||| 2 ^ t) (o := o) hok
      have c3 := zmx_rng c1 c2
      have c4 := zmn_rng c1 c2
      obtain ⟨r1, r2, r3⟩ := mtr_rng (fr := fr) (i := i) (o := o) hok t
      have e0 : mtr (g a) n fr i o (t + 1) = if fr.testBit t = true ∧ ((mtr (g a) n fr i o t).1 = -5 ∨ zmx (mchild (g a) n i (o ||| 2 ^ t)) (mchild (g a) n (i ||| 2 ^ t) o) < (mtr (g a) n fr i o t).2.1 ∨ (zmx (mchild (g a) n i (o ||| 2 ^ t)) (mchild (g a) n (i ||| 2 ^ t) o) = (mtr (g a) n fr i o t).2.1 ∧ zmn (mchild (g a) n i (o ||| 2 ^ t)) (mchild (g a) n (i ||| 2 ^ t) o) < (mtr (g a) n fr i o t).2.2))
      then ((t : Int), zmx (mchild (g a) n i (o ||| 2 ^ t)) (mchild (g a) n (i ||| 2 ^ t) o), zmn (mchild (g a) n i (o ||| 2 ^ t)) (mchild (g a) n (i ||| 2 ^ t) o)) else mtr (g a) n fr i o t := rfl
      rw [e0] at hi
      clear e0
      generalize mtr (g a) n fr i o t = p at *
      obtain ⟨f, le, se⟩ := p
      dsimp only at hi r1 r2 r3 ⊢
      (refine zW.go (zC_om _) (fun K hK => ?_); conv => whnf)
      (refine And.intro (by first | omega | assumption | rfl | exact zin_and | exact ⟨zin_and, by omega⟩ | exact ⟨by omega, zin_and⟩ | exact Nat.le_of_ble_eq_true rfl | exact ⟨Nat.le_of_ble_eq_true rfl, rfl⟩ | exact ⟨Nat.le_of_ble_eq_true rfl, by assumption⟩ | decide) ?_; conv => whnf)
      (refine And.intro (by first | omega | assumption | rfl | exact zin_and | exact ⟨zin_and, by omega⟩ | exact ⟨by omega, zin_and⟩ | exact Nat.le_of_ble_eq_true rfl | exact ⟨Nat.le_of_ble_eq_true rfl, rfl⟩ | exact ⟨Nat.le_of_ble_eq_true rfl, by assumption⟩ | decide) ?_; conv => whnf)
      (refine And.intro (fun h => by omega) (fun h => ?_); conv => whnf)
      rw [zbit (by omega) (by omega)]
      by_cases hbit : fr.testBit t = true
      · rw [if_pos hbit]
        (refine And.intro (by first | omega | assumption | rfl | exact zin_and | exact ⟨zin_and, by omega⟩ | exact ⟨by omega, zin_and⟩ | exact Nat.le_of_ble_eq_true rfl | exact ⟨Nat.le_of_ble_eq_true rfl, rfl⟩ | exact ⟨Nat.le_of_ble_eq_true rfl, by assumption⟩ | decide) ?_; conv => whnf)
        (refine And.intro (fun h => by omega) (fun h => ?_); conv => whnf)
        (refine And.intro (by first | omega | assumption | rfl | exact zin_and | exact ⟨zin_and, by omega⟩ | exact ⟨by omega, zin_and⟩ | exact Nat.le_of_ble_eq_true rfl | exact ⟨Nat.le_of_ble_eq_true rfl, rfl⟩ | exact ⟨Nat.le_of_ble_eq_true rfl, by assumption⟩ | decide) ?_; conv => whnf)
        rw [zone_shl (by omega), zor_nat ho31 h2t]
        (refine m_child ha hok hso hi31 hot ?_; conv => whnf)
        (refine And.intro (by first | omega | assumption | rfl | exact zin_and | exact ⟨zin_and, by omega⟩ | exact ⟨by omega, zin_and⟩ | exact Nat.le_of_ble_eq_true rfl | exact ⟨Nat.le_of_ble_eq_true rfl, rfl⟩ | exact ⟨Nat.le_of_ble_eq_true rfl, by assumption⟩ | decide) ?_; conv => whnf)
        rw [zone_shl (by omega), zor_nat hi31 h2t]
        (refine m_child ha hok hso hit ho31 ?_; conv => whnf)
        generalize mchild (g a) n i (o ||| 2 ^ t) = u at *
        generalize mchild (g a) n (i ||| 2 ^ t) o = v at *
        have j74 : ∀ c : Bool, decide (f = -5 ∨ zmx u v < le ∨ (zmx u v = le ∧ zmn u v < se)) = c → zW zX6_byTrials (zC (d + 4)) Q 74 [zR 64, zR a, zI i, zI o, zI fr, zI f, zI le, zI se, zI t, zI u, zI v, zI (zmx u v), zI (zmn u v), x13] [zI (zb c)] g := by
          intro c hc
          cases c with
          | true =>
            rw [zb_t]
            have hi := hi (zI u) (zI v) (zI (zmx u v)) (zI (zmn u v)) (zI 1)
            rw [if_pos ⟨hbit, of_decide_eq_true hc⟩] at hi
            (refine zW.go (zC_om _) (fun K hK => ?_); conv => whnf)
            (refine And.intro (by first | omega | assumption | rfl | exact zin_and | exact ⟨zin_and, by omega⟩ | exact ⟨by omega, zin_and⟩ | exact Nat.le_of_ble_eq_true rfl | exact ⟨Nat.le_of_ble_eq_true rfl, rfl⟩ | exact ⟨Nat.le_of_ble_eq_true rfl, by assumption⟩ | decide) ?_; conv => whnf)
            (refine And.intro (fun h => by omega) (fun h => ?_); conv => whnf)
            (refine hK _ _ _ _ (zW.go (zC_om _) (fun K hK => ?_)); conv => whnf)
            (refine And.intro (by first | omega | assumption | rfl | exact zin_and | exact ⟨zin_and, by omega⟩ | exact ⟨by omega, zin_and⟩ | exact Nat.le_of_ble_eq_true rfl | exact ⟨Nat.le_of_ble_eq_true rfl, rfl⟩ | exact ⟨Nat.le_of_ble_eq_true rfl, by assumption⟩ | decide) ?_; conv => whnf)
            (refine And.intro (fun h => by omega) (fun h => ?_); conv => whnf)
            (refine hK _ _ _ _ (zW.go (zC_om _) (fun K hK => ?_)); conv => whnf)
            (refine And.intro (by first | omega | assumption | rfl | exact zin_and | exact ⟨zin_and, by omega⟩ | exact ⟨by omega, zin_and⟩ | exact Nat.le_of_ble_eq_true rfl | exact ⟨Nat.le_of_ble_eq_true rfl, rfl⟩ | exact ⟨Nat.le_of_ble_eq_true rfl, by assumption⟩ | decide) ?_; conv => whnf)
            (refine And.intro (fun h => by omega) (fun h => ?_); conv => whnf)
            (refine hK _ _ _ _ (zW.go (zC_om _) (fun K hK => ?_)); conv => whnf)
            exact hK _ _ _ _ hi
          | false =>
            rw [zb_f]
            have hi := hi (zI u) (zI v) (zI (zmx u v)) (zI (zmn u v)) (zI 0)
            rw [if_neg (fun q => of_decide_eq_false hc q.2)] at hi
            (refine zW.go (zC_om _) (fun K hK => ?_); conv => whnf)
            (refine And.intro (by first | omega | assumption | rfl | exact zin_and | exact ⟨zin_and, by omega⟩ | exact ⟨by omega, zin_and⟩ | exact Nat.le_of_ble_eq_true rfl | exact ⟨Nat.le_of_ble_eq_true rfl, rfl⟩ | exact ⟨Nat.le_of_ble_eq_true rfl, by assumption⟩ | decide) ?_; conv => whnf)
            (refine And.intro (fun h => ?_) (fun h => by omega); conv => whnf)
            (refine hK _ _ _ _ (zW.go (zC_om _) (fun K hK => ?_)); conv => whnf)
            (refine And.intro (by first | omega | assumption | rfl | exact zin_and | exact ⟨zin_and, by omega⟩ | exact ⟨by omega, zin_and⟩ | exact Nat.le_of_ble_eq_true rfl | exact ⟨Nat.le_of_ble_eq_true rfl, rfl⟩ | exact ⟨Nat.le_of_ble_eq_true rfl, by assumption⟩ | decide) ?_; conv => whnf)
            (refine And.intro (fun h => ?_) (fun h => by omega); conv => whnf)
            (refine hK _ _ _ _ (zW.go (zC_om _) (fun K hK => ?_)); conv => whnf)
            (refine And.intro (by first | omega | assumption | rfl | exact zin_and | exact ⟨zin_and, by omega⟩ | exact ⟨by omega, zin_and⟩ | exact Nat.le_of_ble_eq_true rfl | exact ⟨Nat.le_of_ble_eq_true rfl, rfl⟩ | exact ⟨Nat.le_of_ble_eq_true rfl, by assumption⟩ | decide) ?_; conv => whnf)
            (refine And.intro (fun h => ?_) (fun h => by omega); conv => whnf)
            (refine hK _ _ _ _ (zW.go (zC_om _) (fun K hK => ?_)); conv => whnf)
            exact hK _ _ _ _ hi
        have j58 : zW zX6_byTrials (zC (d + 4)) Q 58 [zR 64, zR a, zI i, zI o, zI fr, zI f, zI le, zI se, zI t, zI u, zI v, zI (zmx u v), x12, x13] [zI (zmn u v)] g := by
          (refine zW.go (zC_om _) (fun K hK => ?_); conv => whnf)
          (refine And.intro (by first | omega | assumption | rfl | exact zin_and | exact ⟨zin_and, by omega⟩ | exact ⟨by omega, zin_and⟩ | exact Nat.le_of_ble_eq_true rfl | exact ⟨Nat.le_of_ble_eq_true rfl, rfl⟩ | exact ⟨Nat.le_of_ble_eq_true rfl, by assumption⟩ | decide) ?_; conv => whnf)
          by_cases c5 : f = -5
          · (refine And.intro (fun h => ?_) (fun h => by omega); conv => whnf)
            (refine hK _ _ _ _ ?_)
            (refine zW.upto (zC_om _) 2 (fun K hK => ?_); conv => whnf)
            exact hK _ _ _ _ (j74 true (by simp [c5]))
          · (refine And.intro (fun h => by omega) (fun h => ?_); conv => whnf)
            (refine And.intro (by first | omega | assumption | rfl | exact zin_and | exact ⟨zin_and, by omega⟩ | exact ⟨by omega, zin_and⟩ | exact Nat.le_of_ble_eq_true rfl | exact ⟨Nat.le_of_ble_eq_true rfl, rfl⟩ | exact ⟨Nat.le_of_ble_eq_true rfl, by assumption⟩ | decide) ?_; conv => whnf)
            by_cases c6 : zmx u v < le
            · (refine And.intro (fun h => ?_) (fun h => by omega); conv => whnf)
              (refine hK _ _ _ _ ?_)
              (refine zW.upto (zC_om _) 2 (fun K hK => ?_); conv => whnf)
              exact hK _ _ _ _ (j74 true (by simp [c6]))
            · (refine And.intro (fun h => by omega) (fun h => ?_); conv => whnf)
              (refine And.intro (by first | omega | assumption | rfl | exact zin_and | exact ⟨zin_and, by omega⟩ | exact ⟨by omega, zin_and⟩ | exact Nat.le_of_ble_eq_true rfl | exact ⟨Nat.le_of_ble_eq_true rfl, rfl⟩ | exact ⟨Nat.le_of_ble_eq_true rfl, by assumption⟩ | decide) ?_; conv => whnf)
              by_cases c7 : zmx u v = le
              · (refine And.intro (fun h => by omega) (fun h => ?_); conv => whnf)
                (refine And.intro (by first | omega | assumption | rfl | exact zin_and | exact ⟨zin_and, by omega⟩ | exact ⟨by omega, zin_and⟩ | exact Nat.le_of_ble_eq_true rfl | exact ⟨Nat.le_of_ble_eq_true rfl, rfl⟩ | exact ⟨Nat.le_of_ble_eq_true rfl, by assumption⟩ | decide) ?_; conv => whnf)
                by_cases c8 : zmn u v < se
                · (refine And.intro (fun h => by omega) (fun h => ?_); conv => whnf)
                  exact hK _ _ _ _ (j74 true (by simp [c7, c8]))
                · (refine And.intro (fun h => ?_) (fun h => by omega); conv => whnf)
                  (refine hK _ _ _ _ ?_)
                  (refine zW.upto (zC_om _) 1 (fun K hK => ?_); conv => whnf)
                  exact hK _ _ _ _ (j74 false (by simp [c5, c6, c8]))
              · (refine And.intro (fun h => ?_) (fun h => by omega); conv => whnf)
                (refine hK _ _ _ _ ?_)
                (refine zW.upto (zC_om _) 1 (fun K hK => ?_); conv => whnf)
                exact hK _ _ _ _ (j74 false (by simp [c5, c6, c7]))
        have j51 : zW zX6_byTrials (zC (d + 4)) Q 51 [zR 64, zR a, zI i, zI o, zI fr, zI f, zI le, zI se, zI t, zI u, zI v, x11, x12, x13] [zI (zmx u v)] g := by
          (refine zW.go (zC_om _) (fun K hK => ?_); conv => whnf)
          (refine And.intro (by first | omega | assumption | rfl | exact zin_and | exact ⟨zin_and, by omega⟩ | exact ⟨by omega, zin_and⟩ | exact Nat.le_of_ble_eq_true rfl | exact ⟨Nat.le_of_ble_eq_true rfl, rfl⟩ | exact ⟨Nat.le_of_ble_eq_true rfl, by assumption⟩ | decide) ?_; conv => whnf)
          by_cases hc : v < u
          · have e1 : zmn u v = v := by unfold zmn; rw [if_pos hc]
            rw [e1] at j58
            (refine And.intro (fun h => by omega) (fun h => ?_); conv => whnf)
            exact hK _ _ _ _ j58
          · have e1 : zmn u v = u := by unfold zmn; rw [if_neg hc]
            rw [e1] at j58
            (refine And.intro (fun h => ?_) (fun h => by omega); conv => whnf)
            (refine hK _ _ _ _ ?_)
            (refine zW.upto (zC_om _) 1 (fun K hK => ?_); conv => whnf)
            exact hK _ _ _ _ j58
        (refine And.intro (by first | omega | assumption | rfl | exact zin_and | exact ⟨zin_and, by omega⟩ | exact ⟨by omega, zin_and⟩ | exact Nat.le_of_ble_eq_true rfl | exact ⟨Nat.le_of_ble_eq_true rfl, rfl⟩ | exact ⟨Nat.le_of_ble_eq_true rfl, by assumption⟩ | decide) ?_; conv => whnf)
        by_cases hc : v < u
        · have e1 : zmx u v = u := by unfold zmx; rw [if_pos hc]
          rw [e1] at j51
          (refine And.intro (fun h => by omega) (fun h => ?_); conv => whnf)
          exact hK _ _ _ _ j51
        · have e1 : zmx u v = v := by unfold zmx; rw [if_neg hc]
          rw [e1] at j51
          (refine And.intro (fun h => ?_) (fun h => by omega); conv => whnf)
          (refine hK _ _ _ _ ?_)
          (refine zW.upto (zC_om _) 1 (fun K hK => ?_); conv => whnf)
          exact hK _ _ _ _ j51
      · have hi := hi x9 x10 x11 x12 x13
        rw [if_neg (fun q => hbit q.1)] at hi
        rw [if_neg hbit]
        (refine And.intro (by first | omega | assumption | rfl | exact zin_and | exact ⟨zin_and, by omega⟩ | exact ⟨by omega, zin_and⟩ | exact Nat.le_of_ble_eq_true rfl | exact ⟨Nat.le_of_ble_eq_true rfl, rfl⟩ | exact ⟨Nat.le_of_ble_eq_true rfl, by assumption⟩ | decide) ?_; conv => whnf)
        (refine And.intro (fun h => ?_) (fun h => by omega); conv => whnf)
        (refine hK _ _ _ _ (zW.go (zC_om _) (fun K hK => ?_)); conv => whnf)
        exact hK _ _ _ _ hi
  (refine zW.upto (zC_om _) 13 (fun K hK => ?_); conv => whnf)
  (refine And.intro (by first | omega | assumption | rfl | exact zin_and | exact ⟨zin_and, by omega⟩ | exact ⟨by omega, zin_and⟩ | exact Nat.le_of_ble_eq_true rfl | exact ⟨Nat.le_of_ble_eq_true rfl, rfl⟩ | exact ⟨Nat.le_of_ble_eq_true rfl, by assumption⟩ | decide) ?_; conv => whnf)
  (refine m_free ha hok hi31 ho31 ?_; conv => whnf)
  rw [hfr]
  exact hK _ _ _ _ (loop _ _ _ _ _)
/-- the thing on which a node is branched -/
def mbranch (s : zS) (n i o : Nat) (c : Int) : Int := if c = 0 then mparts s n i o else if c = 1 then mhv s (mfree s n i o) n else mtrials s n i o
theorem m_branch {d a n i o : Nat} {c : Int} {g : zM} {Q : zP} (ha : zkd a = (1, 2845)) (hok : mok (g a) n) (hso : mso g (g a) n) (hi : i < 2 ^ n) (ho31 : o < 2 ^ 31) (hc : 0 ≤ c ∧ c ≤ 2) (hQ : Q (some (zI (mbranch (g a) n i o c))) g) : zC (d + 6) 109 [zR 64, zR a, zI i, zI o, zI c] g Q := by
  have hn12 := hok.2.1
  have h2n := zp12 hn12
  have hi31 : i < 2 ^ 31 := by omega
  have hfl : mfree (g a) n i o < 2 ^ n := mfr_lt (g a) n i o n
  refine zC.go zm_X6_branch ⟨rfl, rfl⟩ rfl ?_
  unfold mbranch at hQ
  (refine zW.go (zC_om _) (fun K hK => ?_); conv => whnf)
  (refine And.intro (by first | omega | assumption | rfl | exact zin_and | exact ⟨zin_and, by omega⟩ | exact ⟨by omega, zin_and⟩ | exact Nat.le_of_ble_eq_true rfl | exact ⟨Nat.le_of_ble_eq_true rfl, rfl⟩ | exact ⟨Nat.le_of_ble_eq_true rfl, by assumption⟩ | decide) ?_; conv => whnf)
  by_cases h0 : c = 0
  · rw [if_pos h0] at hQ
    (refine And.intro (fun h => by omega) (fun h => ?_); conv => whnf)
    (refine And.intro (by first | omega | assumption | rfl | exact zin_and | exact ⟨zin_and, by omega⟩ | exact ⟨by omega, zin_and⟩ | exact Nat.le_of_ble_eq_true rfl | exact ⟨Nat.le_of_ble_eq_true rfl, rfl⟩ | exact ⟨Nat.le_of_ble_eq_true rfl, by assumption⟩ | decide) ?_; conv => whnf)
    (refine m_byParts ha hok hso hi ho31 ?_; conv => whnf)
    (repeat' first | (refine hK _ _ _ _ (zW.go (zC_om _) (fun K hK => ?_)); conv => whnf) | (refine And.intro (by first | omega | assumption | rfl | exact zin_and | exact ⟨zin_and, by omega⟩ | exact ⟨by omega, zin_and⟩ | exact Nat.le_of_ble_eq_true rfl | exact ⟨Nat.le_of_ble_eq_true rfl, rfl⟩ | exact ⟨Nat.le_of_ble_eq_true rfl, by assumption⟩ | decide) ?_; conv => whnf) | (refine And.intro (fun h => ?_) (fun h => ?_) <;> conv => whnf) | (intro h; conv => whnf))
    exact hQ
  · rw [if_neg h0] at hQ
    (refine And.intro (fun h => ?_) (fun h => by omega); conv => whnf)
    (refine hK _ _ _ _ (zW.go (zC_om _) (fun K hK => ?_)); conv => whnf)
    (refine And.intro (by first | omega | assumption | rfl | exact zin_and | exact ⟨zin_and, by omega⟩ | exact ⟨by omega, zin_and⟩ | exact Nat.le_of_ble_eq_true rfl | exact ⟨Nat.le_of_ble_eq_true rfl, rfl⟩ | exact ⟨Nat.le_of_ble_eq_true rfl, by assumption⟩ | decide) ?_; conv => whnf)
    by_cases h1 : c = 1
    · rw [if_pos h1] at hQ
      (refine And.intro (fun h => by omega) (fun h => ?_); conv => whnf)
      (refine And.intro (by first | omega | assumption | rfl | exact zin_and | exact ⟨zin_and, by omega⟩ | exact ⟨by omega, zin_and⟩ | exact Nat.le_of_ble_eq_true rfl | exact ⟨Nat.le_of_ble_eq_true rfl, rfl⟩ | exact ⟨Nat.le_of_ble_eq_true rfl, by assumption⟩ | decide) ?_; conv => whnf)
      (refine m_free ha hok hi31 ho31 ?_; conv => whnf)
      (refine And.intro (by first | omega | assumption | rfl | exact zin_and | exact ⟨zin_and, by omega⟩ | exact ⟨by omega, zin_and⟩ | exact Nat.le_of_ble_eq_true rfl | exact ⟨Nat.le_of_ble_eq_true rfl, rfl⟩ | exact ⟨Nat.le_of_ble_eq_true rfl, by assumption⟩ | decide) ?_; conv => whnf)
      (refine m_heaviest ha hok (by omega) ?_; conv => whnf)
      (repeat' first | (refine hK _ _ _ _ (zW.go (zC_om _) (fun K hK => ?_)); conv => whnf) | (refine And.intro (by first | omega | assumption | rfl | exact zin_and | exact ⟨zin_and, by omega⟩ | exact ⟨by omega, zin_and⟩ | exact Nat.le_of_ble_eq_true rfl | exact ⟨Nat.le_of_ble_eq_true rfl, rfl⟩ | exact ⟨Nat.le_of_ble_eq_true rfl, by assumption⟩ | decide) ?_; conv => whnf) | (refine And.intro (fun h => ?_) (fun h => ?_) <;> conv => whnf) | (intro h; conv => whnf))
      exact hQ
    · rw [if_neg h1] at hQ
      (refine And.intro (fun h => ?_) (fun h => by omega); conv => whnf)
      (refine hK _ _ _ _ (zW.go (zC_om _) (fun K hK => ?_)); conv => whnf)
      (refine And.intro (by first | omega | assumption | rfl | exact zin_and | exact ⟨zin_and, by omega⟩ | exact ⟨by omega, zin_and⟩ | exact Nat.le_of_ble_eq_true rfl | exact ⟨Nat.le_of_ble_eq_true rfl, rfl⟩ | exact ⟨Nat.le_of_ble_eq_true rfl, by assumption⟩ | decide) ?_; conv => whnf)
      (refine m_byTrials ha hok hso hi31 ho31 ?_; conv => whnf)
      (repeat' first | (refine hK _ _ _ _ (zW.go (zC_om _) (fun K hK => ?_)); conv => whnf) | (refine And.intro (by first | omega | assumption | rfl | exact zin_and | exact ⟨zin_and, by omega⟩ | exact ⟨by omega, zin_and⟩ | exact Nat.le_of_ble_eq_true rfl | exact ⟨Nat.le_of_ble_eq_true rfl, rfl⟩ | exact ⟨Nat.le_of_ble_eq_true rfl, by assumption⟩ | decide) ?_; conv => whnf) | (refine And.intro (fun h => ?_) (fun h => ?_) <;> conv => whnf) | (intro h; conv => whnf))
      exact hQ
