/-! the reference: a node is made -/
/-- how a new node is: 3 cut off at once, 0 open -/
def mhow (s : zS) (n : Nat) (par : Int) (i o : Nat) : Int := if par ≠ -5 ∧ (mposs s n i = false ∨ mchild s n i o ≤ s 7) then 3 else 0
def mmk (s : zS) (n : Nat) (par thing b : Int) (i o : Nat) : zS :=
  ru (ru (ru (ru (ru (ru (ru (ru s (45 + 7 * s 5) par) (45 + 7 * s 5 + 1) thing) (45 + 7 * s 5 + 2) b) (45 + 7 * s 5 + 5) i) (45 + 7 * s 5 + 6) o) (45 + 7 * s 5 + 3) (mchild s n i o)) (45 + 7 * s 5 + 4) (mhow s n par i o)) 5 (s 5 + 1)
set_option maxHeartbeats 1000000 in
theorem m_mk44 {d a n m i o : Nat} {par thing b : Int} {g : zM} {Q : zP} (ha : zkd a = (1, 2845)) (hok : mok (g a) n) (hso : mso g (g a) n) (h71 : a ≠ 71) (hm : g a 5 = m) (hm4 : m < 400) (hpar : zin par) (hb : b = 0 ∨ b = 1) (hi31 : i < 2 ^ 31) (ho31 : o < 2 ^ 31) (h7 : zin (g a 7))
    (hQ : ∀ g' : zM, (∀ k, k ≠ a → g' k = g k) → g' a = mmk (g a) n par thing b i o → Q none g') : zW zX6_makes (zC (d + 4)) Q 44 [zR 64, zR a, zI par, zI thing, zI b, zI (45 + 7 * g a 5), zI i, zI o] [] g := by
  have hk1 : (zkd a).1 = 1 := by rw [ha]
  have hk2 : (zkd a).2 = 2845 := by rw [ha]
  have hn12 := hok.2.1
  generalize hN : 45 + 7 * g a 5 = N at *
  have hmk : mmk (g a) n par thing b i o = ru (ru (ru (ru (ru (ru (ru (ru (g a) N par) (N + 1) thing) (N + 2) b) (N + 5) i) (N + 6) o) (N + 3) (mchild (g a) n i o)) (N + 4) (mhow (g a) n par i o)) 5 (g a 5 + 1) := by
    unfold mmk
    rw [hN]
  have hag : ∀ v1 v2 v3 v4 v5, magr (g a) ((zup (zup (zup (zup (zup g a N v1) a (N + 1) v2) a (N + 2) v3) a (N + 5) v4) a (N + 6) v5) a) := fun v1 v2 v3 v4 v5 => ((((((magr.rfl : magr (g a) (g a)).up (by omega)).up (by omega)).up (by omega)).up (by omega)).up (by omega))
  have hag2 : ∀ v1 v2 v3 v4 v5 v6, magr (g a) ((zup (zup (zup (zup (zup (zup g a N v1) a (N + 1) v2) a (N + 2) v3) a (N + 5) v4) a (N + 6) v5) a (N + 3) v6) a) := fun v1 v2 v3 v4 v5 v6 => (hag v1 v2 v3 v4 v5).up (by omega)
  have hc := mchild_rng (i := i) (o := o) hok
  have tail : ∀ w : Int, w = mhow (g a) n par i o → zW zX6_makes (zC (d + 4)) Q 109 [zR 64, zR a, zI par, zI thing, zI b, zI N, zI i, zI o] [zI w, zI (N + 4), zR a] (zup (zup (zup (zup (zup (zup g a N par) a (N + 1) thing) a (N + 2) b) a (N + 5) i) a (N + 6) o) a (N + 3) (mchild (g a) n i o)) := by
    intro w hw
    (refine zW.go (zC_om _) (fun K hK => ?_); conv => whnf)
    (refine And.intro (by first | omega | assumption | rfl | exact zin_and | exact ⟨zin_and, by omega⟩ | exact ⟨by omega, zin_and⟩ | exact Nat.le_of_ble_eq_true rfl | exact ⟨Nat.le_of_ble_eq_true rfl, rfl⟩ | exact ⟨Nat.le_of_ble_eq_true rfl, by assumption⟩ | decide) ?_; conv => whnf)
    (refine And.intro (by first | omega | assumption | rfl | exact zin_and | exact ⟨zin_and, by omega⟩ | exact ⟨by omega, zin_and⟩ | exact Nat.le_of_ble_eq_true rfl | exact ⟨Nat.le_of_ble_eq_true rfl, rfl⟩ | exact ⟨Nat.le_of_ble_eq_true rfl, by assumption⟩ | decide) ?_; conv => whnf)
    (refine And.intro (by first | omega | assumption | rfl | exact zin_and | exact ⟨zin_and, by omega⟩ | exact ⟨by omega, zin_and⟩ | exact Nat.le_of_ble_eq_true rfl | exact ⟨Nat.le_of_ble_eq_true rfl, rfl⟩ | exact ⟨Nat.le_of_ble_eq_true rfl, by assumption⟩ | decide) ?_; conv => whnf)
    (refine And.intro (by first | omega | assumption | rfl | exact zin_and | exact ⟨zin_and, by omega⟩ | exact ⟨by omega, zin_and⟩ | exact Nat.le_of_ble_eq_true rfl | exact ⟨Nat.le_of_ble_eq_true rfl, rfl⟩ | exact ⟨Nat.le_of_ble_eq_true rfl, by assumption⟩ | decide) ?_; conv => whnf)
    refine hQ _ (fun k hk => ?_) ?_
    · rw [zup_ne hk, zup_ne hk, zup_ne hk, zup_ne hk, zup_ne hk, zup_ne hk, zup_ne hk, zup_ne hk]
    · rw [hmk, zup_i (by omega), zup_i (by omega), zup_i (by omega), zup_i (by omega), zup_i (by omega), zup_i (by omega), zup_i (by omega), hw]
      rw [zup_ru, zup_ru, zup_ru, zup_ru, zup_ru, zup_ru, zup_ru, zup_ru]
  have j63 : zW zX6_makes (zC (d + 4)) Q 63 [zR 64, zR a, zI par, zI thing, zI b, zI N, zI i, zI o] [zI b, zI (N + 2), zR a] (zup (zup g a N par) a (N + 1) thing) := by
    (refine zW.go (zC_om _) (fun K hK => ?_); conv => whnf)
    (refine And.intro (by first | omega | assumption | rfl | exact zin_and | exact ⟨zin_and, by omega⟩ | exact ⟨by omega, zin_and⟩ | exact Nat.le_of_ble_eq_true rfl | exact ⟨Nat.le_of_ble_eq_true rfl, rfl⟩ | exact ⟨Nat.le_of_ble_eq_true rfl, by assumption⟩ | decide) ?_; conv => whnf)
    (refine And.intro (by first | omega | assumption | rfl | exact zin_and | exact ⟨zin_and, by omega⟩ | exact ⟨by omega, zin_and⟩ | exact Nat.le_of_ble_eq_true rfl | exact ⟨Nat.le_of_ble_eq_true rfl, rfl⟩ | exact ⟨Nat.le_of_ble_eq_true rfl, by assumption⟩ | decide) ?_; conv => whnf)
    (refine And.intro (by first | omega | assumption | rfl | exact zin_and | exact ⟨zin_and, by omega⟩ | exact ⟨by omega, zin_and⟩ | exact Nat.le_of_ble_eq_true rfl | exact ⟨Nat.le_of_ble_eq_true rfl, rfl⟩ | exact ⟨Nat.le_of_ble_eq_true rfl, by assumption⟩ | decide) ?_; conv => whnf)
    (refine And.intro (by first | omega | assumption | rfl | exact zin_and | exact ⟨zin_and, by omega⟩ | exact ⟨by omega, zin_and⟩ | exact Nat.le_of_ble_eq_true rfl | exact ⟨Nat.le_of_ble_eq_true rfl, rfl⟩ | exact ⟨Nat.le_of_ble_eq_true rfl, by assumption⟩ | decide) ?_; conv => whnf)
    (refine m_child ha ((hag _ _ _ _ _).ok hok) (ag_so (hag _ _ _ _ _) hn12 (((((hso.up h71).up h71).up h71).up h71).up h71)) hi31 ho31 ?_; conv => whnf)
    rw [← ag_child (hag _ _ _ _ _) hn12 hok.pos]
    (refine And.intro (by first | omega | assumption | rfl | exact zin_and | exact ⟨zin_and, by omega⟩ | exact ⟨by omega, zin_and⟩ | exact Nat.le_of_ble_eq_true rfl | exact ⟨Nat.le_of_ble_eq_true rfl, rfl⟩ | exact ⟨Nat.le_of_ble_eq_true rfl, by assumption⟩ | decide) ?_; conv => whnf)
    (refine And.intro (by first | omega | assumption | rfl | exact zin_and | exact ⟨zin_and, by omega⟩ | exact ⟨by omega, zin_and⟩ | exact Nat.le_of_ble_eq_true rfl | exact ⟨Nat.le_of_ble_eq_true rfl, rfl⟩ | exact ⟨Nat.le_of_ble_eq_true rfl, by assumption⟩ | decide) ?_; conv => whnf)
    by_cases hp : par = -5
    · (refine And.intro (fun h => ?_) (fun h => by omega); conv => whnf)
      (refine hK _ _ _ _ ?_)
      (refine zW.upto (zC_om _) 1 (fun K hK => ?_); conv => whnf)
      exact hK _ _ _ _ (tail 0 (by unfold mhow; rw [if_neg (fun q => q.1 hp)]))
    · (refine And.intro (fun h => by omega) (fun h => ?_); conv => whnf)
      (refine And.intro (by first | omega | assumption | rfl | exact zin_and | exact ⟨zin_and, by omega⟩ | exact ⟨by omega, zin_and⟩ | exact Nat.le_of_ble_eq_true rfl | exact ⟨Nat.le_of_ble_eq_true rfl, rfl⟩ | exact ⟨Nat.le_of_ble_eq_true rfl, by assumption⟩ | decide) ?_; conv => whnf)
      (refine m_isPossible ha ((hag2 _ _ _ _ _ _).ok hok) hi31 ?_; conv => whnf)
      rw [← ag_poss (hag2 _ _ _ _ _ _) hn12]
      cases hps : mposs (g a) n i with
      | false =>
        rw [zb_f]
        (refine And.intro (by first | omega | assumption | rfl | exact zin_and | exact ⟨zin_and, by omega⟩ | exact ⟨by omega, zin_and⟩ | exact Nat.le_of_ble_eq_true rfl | exact ⟨Nat.le_of_ble_eq_true rfl, rfl⟩ | exact ⟨Nat.le_of_ble_eq_true rfl, by assumption⟩ | decide) ?_; conv => whnf)
        (refine And.intro (fun h => ?_) (fun h => by omega); conv => whnf)
        (refine hK _ _ _ _ ?_)
        (refine zW.upto (zC_om _) 2 (fun K hK => ?_); conv => whnf)
        exact hK _ _ _ _ (tail 3 (by unfold mhow; rw [if_pos ⟨hp, Or.inl hps⟩]))
      | true =>
        rw [zb_t]
        (refine And.intro (by first | omega | assumption | rfl | exact zin_and | exact ⟨zin_and, by omega⟩ | exact ⟨by omega, zin_and⟩ | exact Nat.le_of_ble_eq_true rfl | exact ⟨Nat.le_of_ble_eq_true rfl, rfl⟩ | exact ⟨Nat.le_of_ble_eq_true rfl, by assumption⟩ | decide) ?_; conv => whnf)
        (refine And.intro (fun h => by omega) (fun h => ?_); conv => whnf)
        (refine And.intro (by first | omega | assumption | rfl | exact zin_and | exact ⟨zin_and, by omega⟩ | exact ⟨by omega, zin_and⟩ | exact Nat.le_of_ble_eq_true rfl | exact ⟨Nat.le_of_ble_eq_true rfl, rfl⟩ | exact ⟨Nat.le_of_ble_eq_true rfl, by assumption⟩ | decide) ?_; conv => whnf)
        (refine And.intro (by first | omega | assumption | rfl | exact zin_and | exact ⟨zin_and, by omega⟩ | exact ⟨by omega, zin_and⟩ | exact Nat.le_of_ble_eq_true rfl | exact ⟨Nat.le_of_ble_eq_true rfl, rfl⟩ | exact ⟨Nat.le_of_ble_eq_true rfl, by assumption⟩ | decide) ?_; conv => whnf)
        rw [zup_s, zup_i (by omega), zup_i (by omega), zup_i (by omega), zup_i (by omega), zup_i (by omega), zup_i (by omega)]
        (refine And.intro (by first | omega | assumption | rfl | exact zin_and | exact ⟨zin_and, by omega⟩ | exact ⟨by omega, zin_and⟩ | exact Nat.le_of_ble_eq_true rfl | exact ⟨Nat.le_of_ble_eq_true rfl, rfl⟩ | exact ⟨Nat.le_of_ble_eq_true rfl, by assumption⟩ | decide) ?_; conv => whnf)
        by_cases hle : g a 7 < mchild (g a) n i o
        · (refine And.intro (fun h => ?_) (fun h => by omega); conv => whnf)
          (refine hK _ _ _ _ ?_)
          (refine zW.upto (zC_om _) 1 (fun K hK => ?_); conv => whnf)
          exact hK _ _ _ _ (tail 0 (by unfold mhow; rw [if_neg (fun q => q.2.elim (fun h => Bool.noConfusion (hps.symm.trans h)) (fun h => by omega))]))
        · (refine And.intro (fun h => by omega) (fun h => ?_); conv => whnf)
          (refine hK _ _ _ _ ?_)
          (refine zW.upto (zC_om _) 0 (fun K hK => ?_); conv => whnf)
          exact hK _ _ _ _ (tail 3 (by unfold mhow; rw [if_pos ⟨hp, Or.inr (by omega)⟩]))
  (refine zW.go (zC_om _) (fun K hK => ?_); conv => whnf)
  (refine And.intro (by first | omega | assumption | rfl | exact zin_and | exact ⟨zin_and, by omega⟩ | exact ⟨by omega, zin_and⟩ | exact Nat.le_of_ble_eq_true rfl | exact ⟨Nat.le_of_ble_eq_true rfl, rfl⟩ | exact ⟨Nat.le_of_ble_eq_true rfl, by assumption⟩ | decide) ?_; conv => whnf)
  (refine And.intro (by first | omega | assumption | rfl | exact zin_and | exact ⟨zin_and, by omega⟩ | exact ⟨by omega, zin_and⟩ | exact Nat.le_of_ble_eq_true rfl | exact ⟨Nat.le_of_ble_eq_true rfl, rfl⟩ | exact ⟨Nat.le_of_ble_eq_true rfl, by assumption⟩ | decide) ?_; conv => whnf)
  (refine And.intro (by first | omega | assumption | rfl | exact zin_and | exact ⟨zin_and, by omega⟩ | exact ⟨by omega, zin_and⟩ | exact Nat.le_of_ble_eq_true rfl | exact ⟨Nat.le_of_ble_eq_true rfl, rfl⟩ | exact ⟨Nat.le_of_ble_eq_true rfl, by assumption⟩ | decide) ?_; conv => whnf)
  rcases hb with hb | hb
  · subst hb
    (refine And.intro (fun h => ?_) (fun h => by omega); conv => whnf)
    (refine hK _ _ _ _ ?_)
    (refine zW.upto (zC_om _) 1 (fun K hK => ?_); conv => whnf)
    exact hK _ _ _ _ j63
  · subst hb
    (refine And.intro (fun h => by omega) (fun h => ?_); conv => whnf)
    exact hK _ _ _ _ j63
theorem m_makesR {d a n m : Nat} {g : zM} {Q : zP} (ha : zkd a = (1, 2845)) (hok : mok (g a) n) (hso : mso g (g a) n) (h71 : a ≠ 71) (hm : g a 5 = m) (hm4 : m < 400) (h7 : zin (g a 7))
    (hQ : ∀ g' : zM, (∀ k, k ≠ a → g' k = g k) → g' a = mmk (g a) n (-5) (-5) 0 0 0 → Q none g') : zC (d + 5) 112 [zR 64, zR a, zI (-5), zI (-5), zI 0] g Q := by
  have hk1 : (zkd a).1 = 1 := by rw [ha]
  have hk2 : (zkd a).2 = 2845 := by rw [ha]
  refine zC.go zm_X6_makes ⟨rfl, rfl⟩ rfl ?_
  (refine zW.go (zC_om _) (fun K hK => ?_); conv => whnf)
  (refine And.intro (by first | omega | assumption | rfl | exact zin_and | exact ⟨zin_and, by omega⟩ | exact ⟨by omega, zin_and⟩ | exact Nat.le_of_ble_eq_true rfl | exact ⟨Nat.le_of_ble_eq_true rfl, rfl⟩ | exact ⟨Nat.le_of_ble_eq_true rfl, by assumption⟩ | decide) ?_; conv => whnf)
  (refine And.intro (by first | omega | assumption | rfl | exact zin_and | exact ⟨zin_and, by omega⟩ | exact ⟨by omega, zin_and⟩ | exact Nat.le_of_ble_eq_true rfl | exact ⟨Nat.le_of_ble_eq_true rfl, rfl⟩ | exact ⟨Nat.le_of_ble_eq_true rfl, by assumption⟩ | decide) ?_; conv => whnf)
  (refine And.intro (fun h => by omega) (fun h => ?_); conv => whnf)
  (refine hK _ _ _ _ (zW.go (zC_om _) (fun K hK => ?_)); conv => whnf)
  (refine And.intro (by first | omega | assumption | rfl | exact zin_and | exact ⟨zin_and, by omega⟩ | exact ⟨by omega, zin_and⟩ | exact Nat.le_of_ble_eq_true rfl | exact ⟨Nat.le_of_ble_eq_true rfl, rfl⟩ | exact ⟨Nat.le_of_ble_eq_true rfl, by assumption⟩ | decide) ?_; conv => whnf)
  (refine And.intro (fun h => by omega) (fun h => ?_); conv => whnf)
  (refine hK _ _ _ _ ?_)
  (refine zW.upto (zC_om _) 1 (fun K hK => ?_); conv => whnf)
  exact hK _ _ _ _ (m_mk44 ha hok hso h71 hm hm4 (by omega) (Or.inl rfl) (by decide) (by decide) h7 hQ)
theorem m_makesC {d a n m i o t : Nat} {par : Int} {b : Bool} {g : zM} {Q : zP} (ha : zkd a = (1, 2845)) (hok : mok (g a) n) (hso : mso g (g a) n) (h71 : a ≠ 71) (hm : g a 5 = m) (hm4 : m < 400) (hpar : 0 ≤ par ∧ par < 400) (ht : t < 12) (hi : nd (g a) par 5 = (i : Int)) (ho : nd (g a) par 6 = (o : Int)) (hi31 : i < 2 ^ 12) (ho31 : o < 2 ^ 12) (h7 : zin (g a 7))
    (hQ : ∀ g' : zM, (∀ k, k ≠ a → g' k = g k) → g' a = mmk (g a) n par t (zb b) (if b then i ||| 2 ^ t else i) (if b then o else o ||| 2 ^ t) → Q none g') : zC (d + 5) 112 [zR 64, zR a, zI par, zI t, zI (zb b)] g Q := by
  have hk1 : (zkd a).1 = 1 := by rw [ha]
  have hk2 : (zkd a).2 = 2845 := by rw [ha]
  have h2t : 2 ^ t < 2 ^ 31 := Nat.pow_lt_pow_right (by decide) (by omega)
  have hit : i ||| 2 ^ t < 2 ^ 31 := Nat.or_lt_two_pow (by omega) h2t
  have hot : o ||| 2 ^ t < 2 ^ 31 := Nat.or_lt_two_pow (by omega) h2t
  refine zC.go zm_X6_makes ⟨rfl, rfl⟩ rfl ?_
  cases b with
  | true =>
    rw [zb_t] at hQ ⊢
    have k44 := @m_mk44 d a n m (i ||| 2 ^ t) o par t 1 g Q ha hok hso h71 hm hm4 (by omega) (Or.inr rfl) hit (by omega) h7 hQ
    (refine zW.go (zC_om _) (fun K hK => ?_); conv => whnf)
    (refine And.intro (by first | omega | assumption | rfl | exact zin_and | exact ⟨zin_and, by omega⟩ | exact ⟨by omega, zin_and⟩ | exact Nat.le_of_ble_eq_true rfl | exact ⟨Nat.le_of_ble_eq_true rfl, rfl⟩ | exact ⟨Nat.le_of_ble_eq_true rfl, by assumption⟩ | decide) ?_; conv => whnf)
    (refine And.intro (by first | omega | assumption | rfl | exact zin_and | exact ⟨zin_and, by omega⟩ | exact ⟨by omega, zin_and⟩ | exact Nat.le_of_ble_eq_true rfl | exact ⟨Nat.le_of_ble_eq_true rfl, rfl⟩ | exact ⟨Nat.le_of_ble_eq_true rfl, by assumption⟩ | decide) ?_; conv => whnf)
    (refine And.intro (fun h => ?_) (fun h => by omega); conv => whnf)
    (refine hK _ _ _ _ (zW.go (zC_om _) (fun K hK => ?_)); conv => whnf)
    (refine And.intro (by first | omega | assumption | rfl | exact zin_and | exact ⟨zin_and, by omega⟩ | exact ⟨by omega, zin_and⟩ | exact Nat.le_of_ble_eq_true rfl | exact ⟨Nat.le_of_ble_eq_true rfl, rfl⟩ | exact ⟨Nat.le_of_ble_eq_true rfl, by assumption⟩ | decide) ?_; conv => whnf)
    (refine m_of ha (by omega) (by omega) ?_; conv => whnf)
    (refine And.intro (by first | omega | assumption | rfl | exact zin_and | exact ⟨zin_and, by omega⟩ | exact ⟨by omega, zin_and⟩ | exact Nat.le_of_ble_eq_true rfl | exact ⟨Nat.le_of_ble_eq_true rfl, rfl⟩ | exact ⟨Nat.le_of_ble_eq_true rfl, by assumption⟩ | decide) ?_; conv => whnf)
    (refine And.intro (fun h => by omega) (fun h => ?_); conv => whnf)
    rw [hi, zone_shl (by omega)]
    (refine hK _ _ _ _ (zW.go (zC_om _) (fun K hK => ?_)); conv => whnf)
    rw [zor_nat (by omega) h2t]
    (refine And.intro (by first | omega | assumption | rfl | exact zin_and | exact ⟨zin_and, by omega⟩ | exact ⟨by omega, zin_and⟩ | exact Nat.le_of_ble_eq_true rfl | exact ⟨Nat.le_of_ble_eq_true rfl, rfl⟩ | exact ⟨Nat.le_of_ble_eq_true rfl, by assumption⟩ | decide) ?_; conv => whnf)
    (refine And.intro (fun h => ?_) (fun h => by omega); conv => whnf)
    (refine hK _ _ _ _ (zW.go (zC_om _) (fun K hK => ?_)); conv => whnf)
    (refine And.intro (by first | omega | assumption | rfl | exact zin_and | exact ⟨zin_and, by omega⟩ | exact ⟨by omega, zin_and⟩ | exact Nat.le_of_ble_eq_true rfl | exact ⟨Nat.le_of_ble_eq_true rfl, rfl⟩ | exact ⟨Nat.le_of_ble_eq_true rfl, by assumption⟩ | decide) ?_; conv => whnf)
    (refine m_of ha (by omega) (by omega) ?_; conv => whnf)
    (refine And.intro (by first | omega | assumption | rfl | exact zin_and | exact ⟨zin_and, by omega⟩ | exact ⟨by omega, zin_and⟩ | exact Nat.le_of_ble_eq_true rfl | exact ⟨Nat.le_of_ble_eq_true rfl, rfl⟩ | exact ⟨Nat.le_of_ble_eq_true rfl, by assumption⟩ | decide) ?_; conv => whnf)
    (refine And.intro (fun h => by omega) (fun h => ?_); conv => whnf)
    rw [ho]
    (refine hK _ _ _ _ ?_)
    (refine zW.upto (zC_om _) 2 (fun K hK => ?_); conv => whnf)
    rw [zor_0 (by omega)]
    exact hK _ _ _ _ k44
  | false =>
    rw [zb_f] at hQ ⊢
    have k44 := @m_mk44 d a n m i (o ||| 2 ^ t) par t 0 g Q ha hok hso h71 hm hm4 (by omega) (Or.inl rfl) (by omega) hot h7 hQ
    (refine zW.go (zC_om _) (fun K hK => ?_); conv => whnf)
    (refine And.intro (by first | omega | assumption | rfl | exact zin_and | exact ⟨zin_and, by omega⟩ | exact ⟨by omega, zin_and⟩ | exact Nat.le_of_ble_eq_true rfl | exact ⟨Nat.le_of_ble_eq_true rfl, rfl⟩ | exact ⟨Nat.le_of_ble_eq_true rfl, by assumption⟩ | decide) ?_; conv => whnf)
    (refine And.intro (by first | omega | assumption | rfl | exact zin_and | exact ⟨zin_and, by omega⟩ | exact ⟨by omega, zin_and⟩ | exact Nat.le_of_ble_eq_true rfl | exact ⟨Nat.le_of_ble_eq_true rfl, rfl⟩ | exact ⟨Nat.le_of_ble_eq_true rfl, by assumption⟩ | decide) ?_; conv => whnf)
    (refine And.intro (fun h => ?_) (fun h => by omega); conv => whnf)
    (refine hK _ _ _ _ (zW.go (zC_om _) (fun K hK => ?_)); conv => whnf)
    (refine And.intro (by first | omega | assumption | rfl | exact zin_and | exact ⟨zin_and, by omega⟩ | exact ⟨by omega, zin_and⟩ | exact Nat.le_of_ble_eq_true rfl | exact ⟨Nat.le_of_ble_eq_true rfl, rfl⟩ | exact ⟨Nat.le_of_ble_eq_true rfl, by assumption⟩ | decide) ?_; conv => whnf)
    (refine m_of ha (by omega) (by omega) ?_; conv => whnf)
    (refine And.intro (by first | omega | assumption | rfl | exact zin_and | exact ⟨zin_and, by omega⟩ | exact ⟨by omega, zin_and⟩ | exact Nat.le_of_ble_eq_true rfl | exact ⟨Nat.le_of_ble_eq_true rfl, rfl⟩ | exact ⟨Nat.le_of_ble_eq_true rfl, by assumption⟩ | decide) ?_; conv => whnf)
    (refine And.intro (fun h => ?_) (fun h => by omega); conv => whnf)
    rw [hi]
    (refine hK _ _ _ _ (zW.go (zC_om _) (fun K hK => ?_)); conv => whnf)
    rw [zor_0 (by omega)]
    (refine And.intro (by first | omega | assumption | rfl | exact zin_and | exact ⟨zin_and, by omega⟩ | exact ⟨by omega, zin_and⟩ | exact Nat.le_of_ble_eq_true rfl | exact ⟨Nat.le_of_ble_eq_true rfl, rfl⟩ | exact ⟨Nat.le_of_ble_eq_true rfl, by assumption⟩ | decide) ?_; conv => whnf)
    (refine And.intro (fun h => ?_) (fun h => by omega); conv => whnf)
    (refine hK _ _ _ _ (zW.go (zC_om _) (fun K hK => ?_)); conv => whnf)
    (refine And.intro (by first | omega | assumption | rfl | exact zin_and | exact ⟨zin_and, by omega⟩ | exact ⟨by omega, zin_and⟩ | exact Nat.le_of_ble_eq_true rfl | exact ⟨Nat.le_of_ble_eq_true rfl, rfl⟩ | exact ⟨Nat.le_of_ble_eq_true rfl, by assumption⟩ | decide) ?_; conv => whnf)
    (refine m_of ha (by omega) (by omega) ?_; conv => whnf)
    (refine And.intro (by first | omega | assumption | rfl | exact zin_and | exact ⟨zin_and, by omega⟩ | exact ⟨by omega, zin_and⟩ | exact Nat.le_of_ble_eq_true rfl | exact ⟨Nat.le_of_ble_eq_true rfl, rfl⟩ | exact ⟨Nat.le_of_ble_eq_true rfl, by assumption⟩ | decide) ?_; conv => whnf)
    (refine And.intro (fun h => ?_) (fun h => by omega); conv => whnf)
    rw [ho]
    (refine hK _ _ _ _ ?_)
    (refine zW.upto (zC_om _) 5 (fun K hK => ?_); conv => whnf)
    rw [zone_shl (by omega), zor_nat (by omega) h2t]
    exact hK _ _ _ _ k44
