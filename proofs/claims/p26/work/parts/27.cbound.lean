/-! the class's bound, as the reference has it -/
def mwh (s : zS) (n fr : Nat) : Nat → Nat → Int → Nat → Nat
  | 0, _, _, w => w
  | m + 1, k, left, w => if fr.testBit (mor s n k) then (if left < s (21 + (mor s n k : Int)) then w else mwh s n fr m (k + 1) (left - s (21 + (mor s n k : Int))) (w ||| 2 ^ (mor s n k))) else mwh s n fr m (k + 1) left w
abbrev mwhole (s : zS) (n i fr : Nat) : Nat := mwh s n fr n 0 (mleft s n i) 0
theorem mwh_lt {s : zS} {n fr : Nat} (hp : mpos s n) : ∀ (m k : Nat) (left : Int) (w : Nat), k + m = n → w < 2 ^ n → mwh s n fr m k left w < 2 ^ n
  | 0, _, _, _, _, h => h
  | m + 1, k, left, w, hk, h => by
    obtain ⟨hmo, -⟩ := mor_spec (s := s) hp (show k < n by omega)
    rw [mwh]
    split
    · split
      · exact h
      · exact mwh_lt hp m (k + 1) _ _ (by omega) (Nat.or_lt_two_pow h (Nat.pow_lt_pow_right (by decide) hmo))
    · exact mwh_lt hp m (k + 1) _ _ (by omega) h
/-- the first of a set, found at its place -/
theorem mfs_at {s : zS} {n set j : Nat} (hj : j < n) (h1 : ∀ x, x < j → set.testBit (mor s n x) = false) (h2 : set.testBit (mor s n j) = true) : mfirst s n set = (mor s n j : Int) := by
  have go : ∀ (m k : Nat), k + m = n → k ≤ j → mfs s n set m k = (mor s n j : Int) := by
    intro m
    induction m with
    | zero => intro k hk hle; omega
    | succ m ih =>
      intro k hk hle
      rw [mfs]
      by_cases hkj : k = j
      · subst hkj
        rw [if_pos h2]
      · rw [if_neg (by rw [h1 k (by omega)]; decide)]
        exact ih (k + 1) (by omega) (by omega)
  exact go n 0 (by omega) (by omega)
theorem mfs_no {s : zS} {n set : Nat} (h1 : ∀ x, x < n → set.testBit (mor s n x) = false) : mfirst s n set = -5 := by
  have go : ∀ (m k : Nat), k + m = n → mfs s n set m k = -5 := by
    intro m
    induction m with
    | zero => intro k hk; rfl
    | succ m ih =>
      intro k hk
      rw [mfs, if_neg (by rw [h1 k (by omega)]; decide)]
      exact ih (k + 1) (by omega)
  exact go n 0 (by omega)
/-- what a thing that is broken gives -/
def mshare (s : zS) (t left : Int) : Int := if t = -5 then 0 else zdiv (s (9 + t) * left) (s (21 + t))
/-- the whole things, the broken one, and the bound -/
theorem mwh_spec {s : zS} {n i fr : Nat} (hp : mpos s n) (hif : ∀ t, fr.testBit t = true → i.testBit t = false) : ∀ (m k : Nat) (left sum : Int) (w : Nat), k + m = n →
    (∀ x, x < n → w.testBit (mor s n x) = (decide (x < k) && fr.testBit (mor s n x))) → sum = bsum s 9 (i ||| w) n → left = s 1 - bsum s 21 (i ||| w) n →
    mspl s n fr m k left = mfirst s n (ndf fr (mwh s n fr m k left w)) ∧ mbd s n fr m k left sum = bsum s 9 (i ||| mwh s n fr m k left w) n + mshare s (mspl s n fr m k left) (s 1 - bsum s 21 (i ||| mwh s n fr m k left w) n)
  | 0, k, left, sum, w, hk, hw, hs, hl => by
    have hkn : k = n := by omega
    subst hkn
    refine ⟨?_, ?_⟩
    · show (-5 : Int) = mfirst s k (ndf fr w)
      rw [mfs_no]
      intro x hx
      rw [ndf_bit, hw x hx]
      simp [hx]
    · show sum = bsum s 9 (i ||| w) k + mshare s (-5) _
      rw [hs]
      unfold mshare
      simp
  | m + 1, k, left, sum, w, hk, hw, hs, hl => by
    obtain ⟨hmo, -⟩ := mor_spec (s := s) hp (show k < n by omega)
    rw [mspl, mwh, mbd]
    by_cases hb : fr.testBit (mor s n k) = true
    · rw [if_pos hb, if_pos hb, if_pos hb]
      by_cases hlt : left < s (21 + (mor s n k : Int))
      · rw [if_pos hlt, if_pos hlt, if_pos hlt]
        refine ⟨?_, ?_⟩
        · rw [mfs_at (j := k) (by omega)]
          · intro x hx
            rw [ndf_bit, hw x (by omega)]
            simp [hx]
          · rw [ndf_bit, hw k (by omega), hb]
            simp
        · rw [← hs, ← hl]
          unfold mshare
          rw [if_neg (by omega)]
      · rw [if_neg hlt, if_neg hlt, if_neg hlt]
        have hwb : (i ||| w).testBit (mor s n k) = false := by
          rw [Nat.testBit_or, hif _ hb, hw k (by omega)]
          simp
        have hor : i ||| (w ||| 2 ^ (mor s n k)) = (i ||| w) ||| 2 ^ (mor s n k) := (Nat.or_assoc _ _ _).symm
        refine mwh_spec hp hif m (k + 1) _ _ _ (by omega) (fun x hx => ?_) ?_ ?_
        · rw [Nat.testBit_or, hw x hx, Nat.testBit_two_pow]
          by_cases hxk : x = k
          · subst hxk
            simp [hb]
          · have h1 : mor s n k ≠ mor s n x := fun q => hxk (mor_inj hp (by omega) hx q).symm
            have h2 : (x < k + 1) ↔ (x < k) := by omega
            simp [h1, h2]
        · rw [hor, bsum_add hwb, if_pos hmo, hs]
        · rw [hor, bsum_add hwb, if_pos hmo, hl]
          omega
    · rw [if_neg hb, if_neg hb, if_neg hb]
      refine mwh_spec hp hif m (k + 1) _ _ _ (by omega) (fun x hx => ?_) hs hl
      rw [hw x hx]
      by_cases hxk : x = k
      · subst hxk
        simp [hb]
      · have h2 : (x < k + 1) ↔ (x < k) := by omega
        simp [h2]
theorem mwhole_spec {s : zS} {n i o : Nat} (hok : mok s n) : msplit s n i o = mfirst s n (ndf (mfree s n i o) (mwhole s n i (mfree s n i o))) ∧
    mbound s n i o = bsum s 9 (i ||| mwhole s n i (mfree s n i o)) n + mshare s (msplit s n i o) (s 1 - bsum s 21 (i ||| mwhole s n i (mfree s n i o)) n) :=
  mwh_spec hok.pos (fun t ht => (mfree_free ht).2.1) n 0 (mleft s n i) (bsum s 9 i n) 0 (by omega) (fun x _ => by simp) (by rw [Nat.or_zero]) (by rw [Nat.or_zero])
section CQ
variable {g : zM} {k n : Nat} {s : zS} {d : Nat} {Q : zP}
theorem c_first (hk : zKB k) (hr : RelB g k s n) (hok : mok s n) {set : Nat} (hs : set < 2 ^ 31) (hQ : Q (some (zI (mfirst s n set))) g) : zC (d + 2) 15 [zR k, zI set] g Q := by
  obtain ⟨hk0, hk1, hk2, hk3, hk4⟩ := id hk
  have hn12 := hok.2.1
  have hg4 := hr.1
  refine zC.go zm_X0_firstByRatio ⟨rfl, rfl⟩ rfl ?_
  have loop : ∀ (m x : Nat) (y : zV), x + m = n → Q (some (zI (mfs s n set m x))) g → zW zX0_firstByRatio (zC (d + 1)) Q 2 [zR k, zI set, zI x, y] [] g := by
    intro m
    induction m with
    | zero =>
      intro x y hx hq
      (refine zW.go (zC_om _) (fun K hK => ?_); conv => whnf)
      (refine And.intro (by first | omega | assumption | rfl | exact zin_and | exact ⟨zin_and, by omega⟩ | exact ⟨by omega, zin_and⟩ | exact Nat.le_of_ble_eq_true rfl | exact ⟨Nat.le_of_ble_eq_true rfl, rfl⟩ | exact ⟨Nat.le_of_ble_eq_true rfl, by assumption⟩ | decide) ?_; conv => whnf)
      (refine And.intro (by first | omega | assumption | rfl | exact zin_and | exact ⟨zin_and, by omega⟩ | exact ⟨by omega, zin_and⟩ | exact Nat.le_of_ble_eq_true rfl | exact ⟨Nat.le_of_ble_eq_true rfl, rfl⟩ | exact ⟨Nat.le_of_ble_eq_true rfl, by assumption⟩ | decide) ?_; conv => whnf)
      (refine And.intro (fun h => ?_) (fun h => by omega); conv => whnf)
      (repeat' first | (refine hK _ _ _ _ (zW.go (zC_om _) (fun K hK => ?_)); conv => whnf) | (refine And.intro (by first | omega | assumption | rfl | exact zin_and | exact ⟨zin_and, by omega⟩ | exact ⟨by omega, zin_and⟩ | exact Nat.le_of_ble_eq_true rfl | exact ⟨Nat.le_of_ble_eq_true rfl, rfl⟩ | exact ⟨Nat.le_of_ble_eq_true rfl, by assumption⟩ | decide) ?_; conv => whnf) | (refine And.intro (fun h => ?_) (fun h => ?_) <;> conv => whnf) | (intro h; conv => whnf))
      exact hq
    | succ m ih =>
      intro x y hx hq
      obtain ⟨hmo, -⟩ := mor_spec (s := s) hok.pos (show x < n by omega)
      have hrx := (hr.2.2 x (by omega)).2.2.2
      rw [mfs] at hq
      (refine zW.go (zC_om _) (fun K hK => ?_); conv => whnf)
      (refine And.intro (by first | omega | assumption | rfl | exact zin_and | exact ⟨zin_and, by omega⟩ | exact ⟨by omega, zin_and⟩ | exact Nat.le_of_ble_eq_true rfl | exact ⟨Nat.le_of_ble_eq_true rfl, rfl⟩ | exact ⟨Nat.le_of_ble_eq_true rfl, by assumption⟩ | decide) ?_; conv => whnf)
      (refine And.intro (by first | omega | assumption | rfl | exact zin_and | exact ⟨zin_and, by omega⟩ | exact ⟨by omega, zin_and⟩ | exact Nat.le_of_ble_eq_true rfl | exact ⟨Nat.le_of_ble_eq_true rfl, rfl⟩ | exact ⟨Nat.le_of_ble_eq_true rfl, by assumption⟩ | decide) ?_; conv => whnf)
      (refine And.intro (fun h => by omega) (fun h => ?_); conv => whnf)
      (refine And.intro (by first | omega | assumption | rfl | exact zin_and | exact ⟨zin_and, by omega⟩ | exact ⟨by omega, zin_and⟩ | exact Nat.le_of_ble_eq_true rfl | exact ⟨Nat.le_of_ble_eq_true rfl, rfl⟩ | exact ⟨Nat.le_of_ble_eq_true rfl, by assumption⟩ | decide) ?_; conv => whnf)
      (refine And.intro (by first | omega | assumption | rfl | exact zin_and | exact ⟨zin_and, by omega⟩ | exact ⟨by omega, zin_and⟩ | exact Nat.le_of_ble_eq_true rfl | exact ⟨Nat.le_of_ble_eq_true rfl, rfl⟩ | exact ⟨Nat.le_of_ble_eq_true rfl, by assumption⟩ | decide) ?_; conv => whnf)
      (refine c_at hk4 (by omega) hrx ?_; conv => whnf)
      (refine And.intro (by first | omega | assumption | rfl | exact zin_and | exact ⟨zin_and, by omega⟩ | exact ⟨by omega, zin_and⟩ | exact Nat.le_of_ble_eq_true rfl | exact ⟨Nat.le_of_ble_eq_true rfl, rfl⟩ | exact ⟨Nat.le_of_ble_eq_true rfl, by assumption⟩ | decide) ?_; conv => whnf)
      (refine s_has (by omega) (by omega) ?_; conv => whnf)
      by_cases hb : set.testBit (mor s n x) = true
      · rw [if_pos hb] at hq ⊢
        (refine And.intro (by first | omega | assumption | rfl | exact zin_and | exact ⟨zin_and, by omega⟩ | exact ⟨by omega, zin_and⟩ | exact Nat.le_of_ble_eq_true rfl | exact ⟨Nat.le_of_ble_eq_true rfl, rfl⟩ | exact ⟨Nat.le_of_ble_eq_true rfl, by assumption⟩ | decide) ?_; conv => whnf)
        (refine And.intro (fun h => by omega) (fun h => ?_); conv => whnf)
        (repeat' first | (refine hK _ _ _ _ (zW.go (zC_om _) (fun K hK => ?_)); conv => whnf) | (refine And.intro (by first | omega | assumption | rfl | exact zin_and | exact ⟨zin_and, by omega⟩ | exact ⟨by omega, zin_and⟩ | exact Nat.le_of_ble_eq_true rfl | exact ⟨Nat.le_of_ble_eq_true rfl, rfl⟩ | exact ⟨Nat.le_of_ble_eq_true rfl, by assumption⟩ | decide) ?_; conv => whnf) | (refine And.intro (fun h => ?_) (fun h => ?_) <;> conv => whnf) | (intro h; conv => whnf))
        exact hq
      · rw [if_neg hb] at hq ⊢
        (refine And.intro (by first | omega | assumption | rfl | exact zin_and | exact ⟨zin_and, by omega⟩ | exact ⟨by omega, zin_and⟩ | exact Nat.le_of_ble_eq_true rfl | exact ⟨Nat.le_of_ble_eq_true rfl, rfl⟩ | exact ⟨Nat.le_of_ble_eq_true rfl, by assumption⟩ | decide) ?_; conv => whnf)
        (refine And.intro (fun h => ?_) (fun h => by omega); conv => whnf)
        (refine hK _ _ _ _ (zW.go (zC_om _) (fun K hK => ?_)); conv => whnf)
        exact hK _ _ _ _ (ih (x + 1) _ (by omega) hq)
  (refine zW.upto (zC_om _) 2 (fun K hK => ?_); conv => whnf)
  exact hK _ _ _ _ (loop n 0 _ (by omega) hQ)
theorem c_whole (hk : zKB k) (hr : RelB g k s n) (hok : mok s n) {i fr : Nat} (hi : i < 2 ^ n) (hf : fr < 2 ^ n) (hQ : Q (some (zI (mwhole s n i fr : Nat))) g) : zC (d + 2) 14 [zR k, zI i, zI fr] g Q := by
  obtain ⟨hk0, hk1, hk2, hk3, hk4⟩ := id hk
  have hn12 := hok.2.1
  have h2n := zp12 hn12
  have hg4 := hr.1
  have hsv := msumv (set := i) hok
  have hrm := hok.2.2.1
  refine zC.go zm_X0_wholeThings ⟨rfl, rfl⟩ rfl ?_
  have loop : ∀ (m x : Nat) (left : Int) (w : Nat) (y : zV), x + m = n → w < 2 ^ n → -600 ≤ left ∧ left ≤ 200 → Q (some (zI (mwh s n fr m x left w : Nat))) g → zW zX0_wholeThings (zC (d + 1)) Q 12 [zR k, zI i, zI fr, zI left, zI w, zI x, y] [] g := by
    intro m
    induction m with
    | zero =>
      intro x left w y hx hw hl hq
      (refine zW.go (zC_om _) (fun K hK => ?_); conv => whnf)
      (refine And.intro (by first | omega | assumption | rfl | exact zin_and | exact ⟨zin_and, by omega⟩ | exact ⟨by omega, zin_and⟩ | exact Nat.le_of_ble_eq_true rfl | exact ⟨Nat.le_of_ble_eq_true rfl, rfl⟩ | exact ⟨Nat.le_of_ble_eq_true rfl, by assumption⟩ | decide) ?_; conv => whnf)
      (refine And.intro (by first | omega | assumption | rfl | exact zin_and | exact ⟨zin_and, by omega⟩ | exact ⟨by omega, zin_and⟩ | exact Nat.le_of_ble_eq_true rfl | exact ⟨Nat.le_of_ble_eq_true rfl, rfl⟩ | exact ⟨Nat.le_of_ble_eq_true rfl, by assumption⟩ | decide) ?_; conv => whnf)
      (refine And.intro (fun h => ?_) (fun h => by omega); conv => whnf)
      (repeat' first | (refine hK _ _ _ _ (zW.go (zC_om _) (fun K hK => ?_)); conv => whnf) | (refine And.intro (by first | omega | assumption | rfl | exact zin_and | exact ⟨zin_and, by omega⟩ | exact ⟨by omega, zin_and⟩ | exact Nat.le_of_ble_eq_true rfl | exact ⟨Nat.le_of_ble_eq_true rfl, rfl⟩ | exact ⟨Nat.le_of_ble_eq_true rfl, by assumption⟩ | decide) ?_; conv => whnf) | (refine And.intro (fun h => ?_) (fun h => ?_) <;> conv => whnf) | (intro h; conv => whnf))
      exact hq
    | succ m ih =>
      intro x left w y hx hw hl hq
      obtain ⟨hmo, -⟩ := mor_spec (s := s) hok.pos (show x < n by omega)
      have hrx := (hr.2.2 x (by omega)).2.2.2
      have hrv := (hr.2.2 _ hmo).2.1
      have hvr := (hok.2.2.2 _ hmo).2.1
      rw [mwh] at hq
      generalize mor s n x = t at *
      have h2t : 2 ^ t < 2 ^ n := Nat.pow_lt_pow_right (by decide) hmo
      have hwt : w ||| 2 ^ t < 2 ^ n := Nat.or_lt_two_pow hw h2t
      (refine zW.go (zC_om _) (fun K hK => ?_); conv => whnf)
      (refine And.intro (by first | omega | assumption | rfl | exact zin_and | exact ⟨zin_and, by omega⟩ | exact ⟨by omega, zin_and⟩ | exact Nat.le_of_ble_eq_true rfl | exact ⟨Nat.le_of_ble_eq_true rfl, rfl⟩ | exact ⟨Nat.le_of_ble_eq_true rfl, by assumption⟩ | decide) ?_; conv => whnf)
      (refine And.intro (by first | omega | assumption | rfl | exact zin_and | exact ⟨zin_and, by omega⟩ | exact ⟨by omega, zin_and⟩ | exact Nat.le_of_ble_eq_true rfl | exact ⟨Nat.le_of_ble_eq_true rfl, rfl⟩ | exact ⟨Nat.le_of_ble_eq_true rfl, by assumption⟩ | decide) ?_; conv => whnf)
      (refine And.intro (fun h => by omega) (fun h => ?_); conv => whnf)
      (refine And.intro (by first | omega | assumption | rfl | exact zin_and | exact ⟨zin_and, by omega⟩ | exact ⟨by omega, zin_and⟩ | exact Nat.le_of_ble_eq_true rfl | exact ⟨Nat.le_of_ble_eq_true rfl, rfl⟩ | exact ⟨Nat.le_of_ble_eq_true rfl, by assumption⟩ | decide) ?_; conv => whnf)
      (refine And.intro (by first | omega | assumption | rfl | exact zin_and | exact ⟨zin_and, by omega⟩ | exact ⟨by omega, zin_and⟩ | exact Nat.le_of_ble_eq_true rfl | exact ⟨Nat.le_of_ble_eq_true rfl, rfl⟩ | exact ⟨Nat.le_of_ble_eq_true rfl, by assumption⟩ | decide) ?_; conv => whnf)
      (refine c_at hk4 (by omega) hrx ?_; conv => whnf)
      (refine And.intro (by first | omega | assumption | rfl | exact zin_and | exact ⟨zin_and, by omega⟩ | exact ⟨by omega, zin_and⟩ | exact Nat.le_of_ble_eq_true rfl | exact ⟨Nat.le_of_ble_eq_true rfl, rfl⟩ | exact ⟨Nat.le_of_ble_eq_true rfl, by assumption⟩ | decide) ?_; conv => whnf)
      (refine s_has (by omega) (by omega) ?_; conv => whnf)
      by_cases hb : fr.testBit t = true
      · rw [if_pos hb] at hq ⊢
        (refine And.intro (by first | omega | assumption | rfl | exact zin_and | exact ⟨zin_and, by omega⟩ | exact ⟨by omega, zin_and⟩ | exact Nat.le_of_ble_eq_true rfl | exact ⟨Nat.le_of_ble_eq_true rfl, rfl⟩ | exact ⟨Nat.le_of_ble_eq_true rfl, by assumption⟩ | decide) ?_; conv => whnf)
        (refine And.intro (fun h => by omega) (fun h => ?_); conv => whnf)
        (refine And.intro (by first | omega | assumption | rfl | exact zin_and | exact ⟨zin_and, by omega⟩ | exact ⟨by omega, zin_and⟩ | exact Nat.le_of_ble_eq_true rfl | exact ⟨Nat.le_of_ble_eq_true rfl, rfl⟩ | exact ⟨Nat.le_of_ble_eq_true rfl, by assumption⟩ | decide) ?_; conv => whnf)
        (refine And.intro (by first | omega | assumption | rfl | exact zin_and | exact ⟨zin_and, by omega⟩ | exact ⟨by omega, zin_and⟩ | exact Nat.le_of_ble_eq_true rfl | exact ⟨Nat.le_of_ble_eq_true rfl, rfl⟩ | exact ⟨Nat.le_of_ble_eq_true rfl, by assumption⟩ | decide) ?_; conv => whnf)
        (refine c_at hk2 (by omega) hrv ?_; conv => whnf)
        (refine And.intro (by first | omega | assumption | rfl | exact zin_and | exact ⟨zin_and, by omega⟩ | exact ⟨by omega, zin_and⟩ | exact Nat.le_of_ble_eq_true rfl | exact ⟨Nat.le_of_ble_eq_true rfl, rfl⟩ | exact ⟨Nat.le_of_ble_eq_true rfl, by assumption⟩ | decide) ?_; conv => whnf)
        by_cases hlt : left < s (21 + t)
        · rw [if_pos hlt] at hq
          (refine And.intro (fun h => by omega) (fun h => ?_); conv => whnf)
          (repeat' first | (refine hK _ _ _ _ (zW.go (zC_om _) (fun K hK => ?_)); conv => whnf) | (refine And.intro (by first | omega | assumption | rfl | exact zin_and | exact ⟨zin_and, by omega⟩ | exact ⟨by omega, zin_and⟩ | exact Nat.le_of_ble_eq_true rfl | exact ⟨Nat.le_of_ble_eq_true rfl, rfl⟩ | exact ⟨Nat.le_of_ble_eq_true rfl, by assumption⟩ | decide) ?_; conv => whnf) | (refine And.intro (fun h => ?_) (fun h => ?_) <;> conv => whnf) | (intro h; conv => whnf))
          exact hq
        · rw [if_neg hlt] at hq
          (refine And.intro (fun h => ?_) (fun h => by omega); conv => whnf)
          (refine hK _ _ _ _ (zW.go (zC_om _) (fun K hK => ?_)); conv => whnf)
          rw [zone_shl (by omega), zor_nat (by omega) (by omega)]
          exact hK _ _ _ _ (ih (x + 1) _ _ _ (by omega) hwt (by omega) hq)
      · rw [if_neg hb] at hq ⊢
        (refine And.intro (by first | omega | assumption | rfl | exact zin_and | exact ⟨zin_and, by omega⟩ | exact ⟨by omega, zin_and⟩ | exact Nat.le_of_ble_eq_true rfl | exact ⟨Nat.le_of_ble_eq_true rfl, rfl⟩ | exact ⟨Nat.le_of_ble_eq_true rfl, by assumption⟩ | decide) ?_; conv => whnf)
        (refine And.intro (fun h => ?_) (fun h => by omega); conv => whnf)
        (refine hK _ _ _ _ (zW.go (zC_om _) (fun K hK => ?_)); conv => whnf)
        exact hK _ _ _ _ (ih (x + 1) _ _ _ (by omega) hw hl hq)
  (refine zW.upto (zC_om _) 12 (fun K hK => ?_); conv => whnf)
  (refine And.intro (by first | omega | assumption | rfl | exact zin_and | exact ⟨zin_and, by omega⟩ | exact ⟨by omega, zin_and⟩ | exact Nat.le_of_ble_eq_true rfl | exact ⟨Nat.le_of_ble_eq_true rfl, rfl⟩ | exact ⟨Nat.le_of_ble_eq_true rfl, by assumption⟩ | decide) ?_; conv => whnf)
  (refine And.intro (by first | omega | assumption | rfl | exact zin_and | exact ⟨zin_and, by omega⟩ | exact ⟨by omega, zin_and⟩ | exact Nat.le_of_ble_eq_true rfl | exact ⟨Nat.le_of_ble_eq_true rfl, rfl⟩ | exact ⟨Nat.le_of_ble_eq_true rfl, by assumption⟩ | decide) ?_; conv => whnf)
  (refine And.intro (by first | omega | assumption | rfl | exact zin_and | exact ⟨zin_and, by omega⟩ | exact ⟨by omega, zin_and⟩ | exact Nat.le_of_ble_eq_true rfl | exact ⟨Nat.le_of_ble_eq_true rfl, rfl⟩ | exact ⟨Nat.le_of_ble_eq_true rfl, by assumption⟩ | decide) ?_; conv => whnf)
  (refine c_sumV hk hr hn12 hi ?_; conv => whnf)
  rw [hr.2.1]
  exact hK _ _ _ _ (loop n 0 _ 0 _ (by omega) (Nat.two_pow_pos n) (by omega) hQ)
theorem c_share (hk : zKB k) (hr : RelB g k s n) (hok : mok s n) {t left : Int} (ht : t = -5 ∨ (0 ≤ t ∧ t < n)) (hQ : Q (some (zI (mshare s t left))) g) : zC (d + 2) 16 [zR k, zI t, zI left] g Q := by
  obtain ⟨hk0, hk1, hk2, hk3, hk4⟩ := id hk
  have hn12 := hok.2.1
  refine zC.go zm_X0_shareOf ⟨rfl, rfl⟩ rfl ?_
  unfold mshare at hQ
  rcases ht with ht | ht
  · subst ht
    rw [if_pos rfl] at hQ
    (refine zW.go (zC_om _) (fun K hK => ?_); conv => whnf)
    (refine And.intro (by first | omega | assumption | rfl | exact zin_and | exact ⟨zin_and, by omega⟩ | exact ⟨by omega, zin_and⟩ | exact Nat.le_of_ble_eq_true rfl | exact ⟨Nat.le_of_ble_eq_true rfl, rfl⟩ | exact ⟨Nat.le_of_ble_eq_true rfl, by assumption⟩ | decide) ?_; conv => whnf)
    (refine And.intro (by first | omega | assumption | rfl | exact zin_and | exact ⟨zin_and, by omega⟩ | exact ⟨by omega, zin_and⟩ | exact Nat.le_of_ble_eq_true rfl | exact ⟨Nat.le_of_ble_eq_true rfl, rfl⟩ | exact ⟨Nat.le_of_ble_eq_true rfl, by assumption⟩ | decide) ?_; conv => whnf)
    (refine s_at hk2 (by omega) (by omega) ?_; conv => whnf)
    rw [if_neg (by omega)]
    (refine And.intro (by first | omega | assumption | rfl | exact zin_and | exact ⟨zin_and, by omega⟩ | exact ⟨by omega, zin_and⟩ | exact Nat.le_of_ble_eq_true rfl | exact ⟨Nat.le_of_ble_eq_true rfl, rfl⟩ | exact ⟨Nat.le_of_ble_eq_true rfl, by assumption⟩ | decide) ?_; conv => whnf)
    (refine And.intro (fun h => ?_) (fun h => by omega); conv => whnf)
    (repeat' first | (refine hK _ _ _ _ (zW.go (zC_om _) (fun K hK => ?_)); conv => whnf) | (refine And.intro (by first | omega | assumption | rfl | exact zin_and | exact ⟨zin_and, by omega⟩ | exact ⟨by omega, zin_and⟩ | exact Nat.le_of_ble_eq_true rfl | exact ⟨Nat.le_of_ble_eq_true rfl, rfl⟩ | exact ⟨Nat.le_of_ble_eq_true rfl, by assumption⟩ | decide) ?_; conv => whnf) | (refine And.intro (fun h => ?_) (fun h => ?_) <;> conv => whnf) | (intro h; conv => whnf))
    exact hQ
  · obtain ⟨u, rfl⟩ : ∃ u : Nat, t = (u : Int) := ⟨t.toNat, by omega⟩
    rw [if_neg (by omega)] at hQ
    have hu : u < n := by omega
    have hrv := (hr.2.2 u hu).2.1
    have hrw := (hr.2.2 u hu).1
    have hvr := (hok.2.2.2 u hu).2.1
    (refine zW.go (zC_om _) (fun K hK => ?_); conv => whnf)
    (refine And.intro (by first | omega | assumption | rfl | exact zin_and | exact ⟨zin_and, by omega⟩ | exact ⟨by omega, zin_and⟩ | exact Nat.le_of_ble_eq_true rfl | exact ⟨Nat.le_of_ble_eq_true rfl, rfl⟩ | exact ⟨Nat.le_of_ble_eq_true rfl, by assumption⟩ | decide) ?_; conv => whnf)
    (refine And.intro (by first | omega | assumption | rfl | exact zin_and | exact ⟨zin_and, by omega⟩ | exact ⟨by omega, zin_and⟩ | exact Nat.le_of_ble_eq_true rfl | exact ⟨Nat.le_of_ble_eq_true rfl, rfl⟩ | exact ⟨Nat.le_of_ble_eq_true rfl, by assumption⟩ | decide) ?_; conv => whnf)
    (refine c_at hk2 (by omega) hrv ?_; conv => whnf)
    (refine And.intro (by first | omega | assumption | rfl | exact zin_and | exact ⟨zin_and, by omega⟩ | exact ⟨by omega, zin_and⟩ | exact Nat.le_of_ble_eq_true rfl | exact ⟨Nat.le_of_ble_eq_true rfl, rfl⟩ | exact ⟨Nat.le_of_ble_eq_true rfl, by assumption⟩ | decide) ?_; conv => whnf)
    (refine And.intro (fun h => by omega) (fun h => ?_); conv => whnf)
    (refine And.intro (by first | omega | assumption | rfl | exact zin_and | exact ⟨zin_and, by omega⟩ | exact ⟨by omega, zin_and⟩ | exact Nat.le_of_ble_eq_true rfl | exact ⟨Nat.le_of_ble_eq_true rfl, rfl⟩ | exact ⟨Nat.le_of_ble_eq_true rfl, by assumption⟩ | decide) ?_; conv => whnf)
    (refine And.intro (by first | omega | assumption | rfl | exact zin_and | exact ⟨zin_and, by omega⟩ | exact ⟨by omega, zin_and⟩ | exact Nat.le_of_ble_eq_true rfl | exact ⟨Nat.le_of_ble_eq_true rfl, rfl⟩ | exact ⟨Nat.le_of_ble_eq_true rfl, by assumption⟩ | decide) ?_; conv => whnf)
    (refine c_at hk1 (by omega) hrw ?_; conv => whnf)
    (refine And.intro (by first | omega | assumption | rfl | exact zin_and | exact ⟨zin_and, by omega⟩ | exact ⟨by omega, zin_and⟩ | exact Nat.le_of_ble_eq_true rfl | exact ⟨Nat.le_of_ble_eq_true rfl, rfl⟩ | exact ⟨Nat.le_of_ble_eq_true rfl, by assumption⟩ | decide) ?_; conv => whnf)
    (refine hK _ _ _ _ (zW.go (zC_om _) (fun K hK => ?_)); conv => whnf)
    (repeat' first | (refine hK _ _ _ _ (zW.go (zC_om _) (fun K hK => ?_)); conv => whnf) | (refine And.intro (by first | omega | assumption | rfl | exact zin_and | exact ⟨zin_and, by omega⟩ | exact ⟨by omega, zin_and⟩ | exact Nat.le_of_ble_eq_true rfl | exact ⟨Nat.le_of_ble_eq_true rfl, rfl⟩ | exact ⟨Nat.le_of_ble_eq_true rfl, by assumption⟩ | decide) ?_; conv => whnf) | (refine And.intro (fun h => ?_) (fun h => ?_) <;> conv => whnf) | (intro h; conv => whnf))
    exact hQ
theorem c_bound (hk : zKB k) (hr : RelB g k s n) (hok : mok s n) (hsym : msym s n) {i o : Nat} (hi : i < 2 ^ n) (ho : o < 2 ^ n) (hQ : Q (some (zI (if mposs s n i = true then mbound s n i o else -4))) g) : zC (d + 3) 13 [zR k, zI i, zI o] g Q := by
  obtain ⟨hk0, hk1, hk2, hk3, hk4⟩ := id hk
  have hn12 := hok.2.1
  have h2n := zp12 hn12
  have hfl : mfree s n i o < 2 ^ n := mfr_lt s n i o n
  have hwl : mwhole s n i (mfree s n i o) < 2 ^ n := mwh_lt hok.pos n 0 _ 0 (by omega) (Nat.two_pow_pos n)
  have hil : i ||| mwhole s n i (mfree s n i o) < 2 ^ n := Nat.or_lt_two_pow hi hwl
  obtain ⟨e1, e2⟩ := mwhole_spec (i := i) (o := o) hok
  have hdl := ndf_lt (b := i ||| mwhole s n i (mfree s n i o)) hfl
  have hnd : ndf (mfree s n i o) (i ||| mwhole s n i (mfree s n i o)) = ndf (mfree s n i o) (mwhole s n i (mfree s n i o)) := by
    refine Nat.eq_of_testBit_eq (fun t => ?_)
    rw [ndf_bit, ndf_bit, Nat.testBit_or]
    cases hft : (mfree s n i o).testBit t with
    | false => rfl
    | true => rw [(mfree_free hft).2.1]; rfl
  have r1 : msplit s n i o = -5 ∨ (0 ≤ msplit s n i o ∧ msplit s n i o < n) := by
    rcases mspl_rng (s := s) (fr := mfree s n i o) hok.pos n 0 (mleft s n i) (by omega) with r | r
    · exact Or.inl r
    · exact Or.inr ⟨r.1, r.2.1⟩
  refine zC.go zm_X0_bound ⟨rfl, rfl⟩ rfl ?_
  (refine zW.go (zC_om _) (fun K hK => ?_); conv => whnf)
  (refine And.intro (by first | omega | assumption | rfl | exact zin_and | exact ⟨zin_and, by omega⟩ | exact ⟨by omega, zin_and⟩ | exact Nat.le_of_ble_eq_true rfl | exact ⟨Nat.le_of_ble_eq_true rfl, rfl⟩ | exact ⟨Nat.le_of_ble_eq_true rfl, by assumption⟩ | decide) ?_; conv => whnf)
  (refine c_isPossible hk hr hok hsym hi ?_; conv => whnf)
  by_cases hp : mposs s n i = true
  · rw [if_pos hp] at hQ
    rw [hp, zb_t]
    (refine And.intro (by first | omega | assumption | rfl | exact zin_and | exact ⟨zin_and, by omega⟩ | exact ⟨by omega, zin_and⟩ | exact Nat.le_of_ble_eq_true rfl | exact ⟨Nat.le_of_ble_eq_true rfl, rfl⟩ | exact ⟨Nat.le_of_ble_eq_true rfl, by assumption⟩ | decide) ?_; conv => whnf)
    (refine And.intro (fun h => ?_) (fun h => by omega); conv => whnf)
    (refine hK _ _ _ _ (zW.go (zC_om _) (fun K hK => ?_)); conv => whnf)
    (refine And.intro (by first | omega | assumption | rfl | exact zin_and | exact ⟨zin_and, by omega⟩ | exact ⟨by omega, zin_and⟩ | exact Nat.le_of_ble_eq_true rfl | exact ⟨Nat.le_of_ble_eq_true rfl, rfl⟩ | exact ⟨Nat.le_of_ble_eq_true rfl, by assumption⟩ | decide) ?_; conv => whnf)
    (refine c_free hk hr hok hsym hi ho ?_; conv => whnf)
    (refine And.intro (by first | omega | assumption | rfl | exact zin_and | exact ⟨zin_and, by omega⟩ | exact ⟨by omega, zin_and⟩ | exact Nat.le_of_ble_eq_true rfl | exact ⟨Nat.le_of_ble_eq_true rfl, rfl⟩ | exact ⟨Nat.le_of_ble_eq_true rfl, by assumption⟩ | decide) ?_; conv => whnf)
    (refine c_whole hk hr hok hi hfl ?_; conv => whnf)
    rw [zor_nat (by omega) (by omega)]
    rw [zandnot (by omega) (by omega), hnd]
    (refine And.intro (by first | omega | assumption | rfl | exact zin_and | exact ⟨zin_and, by omega⟩ | exact ⟨by omega, zin_and⟩ | exact Nat.le_of_ble_eq_true rfl | exact ⟨Nat.le_of_ble_eq_true rfl, rfl⟩ | exact ⟨Nat.le_of_ble_eq_true rfl, by assumption⟩ | decide) ?_; conv => whnf)
    (refine c_first hk hr hok (by rw [← hnd]; omega) ?_; conv => whnf)
    rw [← e1]
    (refine And.intro (by first | omega | assumption | rfl | exact zin_and | exact ⟨zin_and, by omega⟩ | exact ⟨by omega, zin_and⟩ | exact Nat.le_of_ble_eq_true rfl | exact ⟨Nat.le_of_ble_eq_true rfl, rfl⟩ | exact ⟨Nat.le_of_ble_eq_true rfl, by assumption⟩ | decide) ?_; conv => whnf)
    (refine And.intro (by first | omega | assumption | rfl | exact zin_and | exact ⟨zin_and, by omega⟩ | exact ⟨by omega, zin_and⟩ | exact Nat.le_of_ble_eq_true rfl | exact ⟨Nat.le_of_ble_eq_true rfl, rfl⟩ | exact ⟨Nat.le_of_ble_eq_true rfl, by assumption⟩ | decide) ?_; conv => whnf)
    (refine c_sumW hk hr hn12 hil ?_; conv => whnf)
    (refine And.intro (by first | omega | assumption | rfl | exact zin_and | exact ⟨zin_and, by omega⟩ | exact ⟨by omega, zin_and⟩ | exact Nat.le_of_ble_eq_true rfl | exact ⟨Nat.le_of_ble_eq_true rfl, rfl⟩ | exact ⟨Nat.le_of_ble_eq_true rfl, by assumption⟩ | decide) ?_; conv => whnf)
    (refine And.intro (by first | omega | assumption | rfl | exact zin_and | exact ⟨zin_and, by omega⟩ | exact ⟨by omega, zin_and⟩ | exact Nat.le_of_ble_eq_true rfl | exact ⟨Nat.le_of_ble_eq_true rfl, rfl⟩ | exact ⟨Nat.le_of_ble_eq_true rfl, by assumption⟩ | decide) ?_; conv => whnf)
    (refine And.intro (by first | omega | assumption | rfl | exact zin_and | exact ⟨zin_and, by omega⟩ | exact ⟨by omega, zin_and⟩ | exact Nat.le_of_ble_eq_true rfl | exact ⟨Nat.le_of_ble_eq_true rfl, rfl⟩ | exact ⟨Nat.le_of_ble_eq_true rfl, by assumption⟩ | decide) ?_; conv => whnf)
    (refine c_sumV hk hr hn12 hil ?_; conv => whnf)
    rw [hr.2.1]
    (refine And.intro (by first | omega | assumption | rfl | exact zin_and | exact ⟨zin_and, by omega⟩ | exact ⟨by omega, zin_and⟩ | exact Nat.le_of_ble_eq_true rfl | exact ⟨Nat.le_of_ble_eq_true rfl, rfl⟩ | exact ⟨Nat.le_of_ble_eq_true rfl, by assumption⟩ | decide) ?_; conv => whnf)
    (refine c_share hk hr hok r1 ?_; conv => whnf)
    (refine And.intro (by first | omega | assumption | rfl | exact zin_and | exact ⟨zin_and, by omega⟩ | exact ⟨by omega, zin_and⟩ | exact Nat.le_of_ble_eq_true rfl | exact ⟨Nat.le_of_ble_eq_true rfl, rfl⟩ | exact ⟨Nat.le_of_ble_eq_true rfl, by assumption⟩ | decide) ?_; conv => whnf)
    rw [← e2]
    exact hQ
  · have hp2 : mposs s n i = false := by simpa using hp
    rw [if_neg hp] at hQ
    rw [hp2, zb_f]
    (refine And.intro (by first | omega | assumption | rfl | exact zin_and | exact ⟨zin_and, by omega⟩ | exact ⟨by omega, zin_and⟩ | exact Nat.le_of_ble_eq_true rfl | exact ⟨Nat.le_of_ble_eq_true rfl, rfl⟩ | exact ⟨Nat.le_of_ble_eq_true rfl, by assumption⟩ | decide) ?_; conv => whnf)
    (refine And.intro (fun h => by omega) (fun h => ?_); conv => whnf)
    (repeat' first | (refine hK _ _ _ _ (zW.go (zC_om _) (fun K hK => ?_)); conv => whnf) | (refine And.intro (by first | omega | assumption | rfl | exact zin_and | exact ⟨zin_and, by omega⟩ | exact ⟨by omega, zin_and⟩ | exact Nat.le_of_ble_eq_true rfl | exact ⟨Nat.le_of_ble_eq_true rfl, rfl⟩ | exact ⟨Nat.le_of_ble_eq_true rfl, by assumption⟩ | decide) ?_; conv => whnf) | (refine And.intro (fun h => ?_) (fun h => ?_) <;> conv => whnf) | (intro h; conv => whnf))
    exact hQ
end CQ
