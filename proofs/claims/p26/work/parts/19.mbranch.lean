/-! the reference: the child's bound, and the thing on which a node is branched -/
theorem zdiv_nat {a b : Nat} (ha : a < 2 ^ 31) (hb0 : 0 < b) (hb : b < 2 ^ 31) : zdiv a b = ((a / b : Nat) : Int) := by
  unfold zdiv
  rw [zJ_nat, zJ_nat]
  show (nI a / nI b).toInt = _
  rw [pk_div ha hb0 hb]
  exact nI_toInt (Nat.lt_of_le_of_lt (Nat.div_le_self _ _) ha)
/-- a share of a worth is less than the worth -/
theorem zshare {w l v : Int} (hw : 0 ≤ w ∧ w ≤ 99) (hl : 0 ≤ l) (hlv : l < v) (hv : v ≤ 50) : 0 ≤ zdiv (w * l) v ∧ zdiv (w * l) v ≤ 99 := by
  obtain ⟨p0, p1⟩ := zmul_bd (x := w) (y := l) hw ⟨hl, by omega⟩
  obtain ⟨a, ha⟩ : ∃ a : Nat, w * l = a := ⟨(w * l).toNat, by omega⟩
  obtain ⟨b, hb⟩ : ∃ b : Nat, v = b := ⟨v.toNat, by omega⟩
  have hle : w * l ≤ 99 * v := by
    have h1 := Int.mul_le_mul_of_nonneg_right hw.2 hl
    omega
  rw [ha, hb, zdiv_nat (by omega) (by omega) (by omega)]
  have h2 : a / b ≤ 99 := by
    refine Nat.div_le_of_le_mul ?_
    rw [ha, hb] at hle
    have : (b : Int) * 99 = 99 * b := Int.mul_comm _ _
    omega
  generalize a / b = q at *
  omega
theorem mbd_rng {s : zS} {n fr : Nat} (hok : mok s n) : ∀ (m k : Nat) (left sum : Int), k + m = n → 0 ≤ left → 0 ≤ sum → sum ≤ mbd s n fr m k left sum ∧ mbd s n fr m k left sum ≤ sum + 99 * m
  | 0, k, left, sum, _, _, _ => by simp [mbd]
  | m + 1, k, left, sum, hk, hl, hs => by
    obtain ⟨hmo, -⟩ := mor_spec (s := s) hok.pos (show k < n by omega)
    obtain ⟨hwt, hvt, -⟩ := hok.2.2.2 _ hmo
    have e0 : mbd s n fr (m + 1) k left sum = if fr.testBit (mor s n k) then (if left < s (21 + (mor s n k : Int)) then sum + zdiv (s (9 + (mor s n k : Int)) * left) (s (21 + (mor s n k : Int))) else mbd s n fr m (k + 1) (left - s (21 + (mor s n k : Int))) (sum + s (9 + (mor s n k : Int)))) else mbd s n fr m (k + 1) left sum := rfl
    rw [e0]
    generalize mor s n k = t at *
    have e1 : (99 : Int) * ((m + 1 : Nat) : Int) = 99 * m + 99 := by omega
    rw [e1]
    split
    · split
      · have := zshare (w := s (9 + t)) (l := left) (v := s (21 + t)) (by omega) hl (by omega) (by omega)
        omega
      · have := mbd_rng (fr := fr) hok m (k + 1) (left - s (21 + t)) (sum + s (9 + t)) (by omega) (by omega) (by omega)
        omega
    · have := mbd_rng (fr := fr) hok m (k + 1) left sum (by omega) hl hs
      omega
theorem mposs_left {s : zS} {n i : Nat} (h : mposs s n i = true) : 0 ≤ mleft s n i := by
  have go : ∀ t, mpb s n i t = true → bsum s 21 i n ≤ s 1 := by
    intro t
    induction t with
    | zero => intro h; simpa [mpb] using h
    | succ t ih =>
      intro h
      have h : (mpb s n i t && (!i.testBit t || decide (mb s t &&& i = 0))) = true := h
      rw [Bool.and_eq_true] at h
      exact ih h.1
  have := go n h
  show 0 ≤ s 1 - bsum s 21 i n
  omega
theorem mbound_rng {s : zS} {n i o : Nat} (hok : mok s n) (h : mposs s n i = true) : bsum s 9 i n ≤ mbound s n i o ∧ 0 ≤ mbound s n i o ∧ mbound s n i o ≤ 2376 := by
  have h1 := msumw (set := i) hok
  have h2 := mbd_rng (fr := mfree s n i o) hok n 0 (mleft s n i) (bsum s 9 i n) (by omega) (mposs_left h) h1.1
  have h3 := hok.2.1
  show bsum s 9 i n ≤ mbd s n (mfree s n i o) n 0 (mleft s n i) (bsum s 9 i n) ∧ 0 ≤ mbd s n (mfree s n i o) n 0 (mleft s n i) (bsum s 9 i n) ∧ mbd s n (mfree s n i o) n 0 (mleft s n i) (bsum s 9 i n) ≤ 2376
  omega
/-- the bound of a child; 0 if it is not possible -/
def mchild (s : zS) (n i o : Nat) : Int := if mposs s n i then mbound s n i o else 0
theorem mchild_rng {s : zS} {n i o : Nat} (hok : mok s n) : 0 ≤ mchild s n i o ∧ mchild s n i o ≤ 2376 := by
  unfold mchild
  split
  · next h => exact (mbound_rng hok h).2
  · omega
theorem m_child {d a n i o : Nat} {g : zM} {Q : zP} (ha : zkd a = (1, 2845)) (hok : mok (g a) n) (hso : mso g (g a) n) (hi31 : i < 2 ^ 31) (ho31 : o < 2 ^ 31) (hQ : Q (some (zI (mchild (g a) n i o))) g) : zC (d + 4) 107 [zR 64, zR a, zI i, zI o] g Q := by
  refine zC.go zm_X6_child ⟨rfl, rfl⟩ rfl ?_
  (refine zW.go (zC_om _) (fun K hK => ?_); conv => whnf)
  (refine And.intro (by first | omega | assumption | rfl | exact zin_and | exact ⟨zin_and, by omega⟩ | exact ⟨by omega, zin_and⟩ | exact Nat.le_of_ble_eq_true rfl | exact ⟨Nat.le_of_ble_eq_true rfl, rfl⟩ | exact ⟨Nat.le_of_ble_eq_true rfl, by assumption⟩ | decide) ?_; conv => whnf)
  (refine m_isPossible ha hok hi31 ?_; conv => whnf)
  by_cases h : mposs (g a) n i = true
  · have e : mchild (g a) n i o = mbound (g a) n i o := by unfold mchild; rw [if_pos h]
    rw [e] at hQ
    rw [h, zb_t]
    (refine And.intro (by first | omega | assumption | rfl | exact zin_and | exact ⟨zin_and, by omega⟩ | exact ⟨by omega, zin_and⟩ | exact Nat.le_of_ble_eq_true rfl | exact ⟨Nat.le_of_ble_eq_true rfl, rfl⟩ | exact ⟨Nat.le_of_ble_eq_true rfl, by assumption⟩ | decide) ?_; conv => whnf)
    (refine And.intro (fun h => by omega) (fun h => ?_); conv => whnf)
    (refine And.intro (by first | omega | assumption | rfl | exact zin_and | exact ⟨zin_and, by omega⟩ | exact ⟨by omega, zin_and⟩ | exact Nat.le_of_ble_eq_true rfl | exact ⟨Nat.le_of_ble_eq_true rfl, rfl⟩ | exact ⟨Nat.le_of_ble_eq_true rfl, by assumption⟩ | decide) ?_; conv => whnf)
    (refine m_bound ha hok hso hi31 ho31 ?_; conv => whnf)
    (repeat' first | (refine hK _ _ _ _ (zW.go (zC_om _) (fun K hK => ?_)); conv => whnf) | (refine And.intro (by first | omega | assumption | rfl | exact zin_and | exact ⟨zin_and, by omega⟩ | exact ⟨by omega, zin_and⟩ | exact Nat.le_of_ble_eq_true rfl | exact ⟨Nat.le_of_ble_eq_true rfl, rfl⟩ | exact ⟨Nat.le_of_ble_eq_true rfl, by assumption⟩ | decide) ?_; conv => whnf) | (refine And.intro (fun h => ?_) (fun h => ?_) <;> conv => whnf) | (intro h; conv => whnf))
    exact hQ
  · have h : mposs (g a) n i = false := by simpa using h
    have e : mchild (g a) n i o = 0 := by unfold mchild; rw [if_neg (by rw [h]; decide)]
    rw [e] at hQ
    rw [h, zb_f]
    (refine And.intro (by first | omega | assumption | rfl | exact zin_and | exact ⟨zin_and, by omega⟩ | exact ⟨by omega, zin_and⟩ | exact Nat.le_of_ble_eq_true rfl | exact ⟨Nat.le_of_ble_eq_true rfl, rfl⟩ | exact ⟨Nat.le_of_ble_eq_true rfl, by assumption⟩ | decide) ?_; conv => whnf)
    (refine And.intro (fun h => ?_) (fun h => by omega); conv => whnf)
    (repeat' first | (refine hK _ _ _ _ (zW.go (zC_om _) (fun K hK => ?_)); conv => whnf) | (refine And.intro (by first | omega | assumption | rfl | exact zin_and | exact ⟨zin_and, by omega⟩ | exact ⟨by omega, zin_and⟩ | exact Nat.le_of_ble_eq_true rfl | exact ⟨Nat.le_of_ble_eq_true rfl, rfl⟩ | exact ⟨Nat.le_of_ble_eq_true rfl, by assumption⟩ | decide) ?_; conv => whnf) | (refine And.intro (fun h => ?_) (fun h => ?_) <;> conv => whnf) | (intro h; conv => whnf))
    exact hQ
def mhv (s : zS) (fr : Nat) : Nat → Int
  | 0 => -5
  | t + 1 => if fr.testBit t = true ∧ (mhv s fr t = -5 ∨ s (21 + mhv s fr t) < s (21 + (t : Int))) then (t : Int) else mhv s fr t
theorem mhv_rng (s : zS) (fr : Nat) : ∀ t : Nat, mhv s fr t = -5 ∨ (0 ≤ mhv s fr t ∧ mhv s fr t < t ∧ fr.testBit (mhv s fr t).toNat = true)
  | 0 => Or.inl rfl
  | t + 1 => by
    have h := mhv_rng s fr t
    have e0 : mhv s fr (t + 1) = if fr.testBit t = true ∧ (mhv s fr t = -5 ∨ s (21 + mhv s fr t) < s (21 + (t : Int))) then (t : Int) else mhv s fr t := rfl
    rw [e0]
    split
    · next hc => exact Or.inr ⟨by omega, by omega, by simpa using hc.1⟩
    · rcases h with h | h
      · exact Or.inl h
      · exact Or.inr ⟨h.1, by omega, h.2.2⟩
theorem m_heaviest {d a n fr : Nat} {g : zM} {Q : zP} (ha : zkd a = (1, 2845)) (hok : mok (g a) n) (hs : fr < 2 ^ 31) (hQ : Q (some (zI (mhv (g a) fr n))) g) : zC (d + 1) 106 [zR a, zI fr] g Q := by
  have hk1 : (zkd a).1 = 1 := by rw [ha]
  have hk2 : (zkd a).2 = 2845 := by rw [ha]
  obtain ⟨hn, hn12, hroom, hth⟩ := id hok
  refine zC.go zm_X6_heaviest ⟨rfl, rfl⟩ rfl ?_
  (refine zW.upto (zC_om _) 4 (fun K hK => ?_); conv => whnf)
  refine hK _ _ _ _ (zdown (P := fun t => zW zX6_heaviest (zC d) Q 4 [zR a, zI fr, zI (mhv (g a) fr t), zI t] [] g) n ?_ ?_)
  · (refine zW.go (zC_om _) (fun K hK => ?_); conv => whnf)
    (refine And.intro (by first | omega | assumption | rfl | exact zin_and | exact ⟨zin_and, by omega⟩ | exact ⟨by omega, zin_and⟩ | exact Nat.le_of_ble_eq_true rfl | exact ⟨Nat.le_of_ble_eq_true rfl, rfl⟩ | exact ⟨Nat.le_of_ble_eq_true rfl, by assumption⟩ | decide) ?_; conv => whnf)
    (refine And.intro (by first | omega | assumption | rfl | exact zin_and | exact ⟨zin_and, by omega⟩ | exact ⟨by omega, zin_and⟩ | exact Nat.le_of_ble_eq_true rfl | exact ⟨Nat.le_of_ble_eq_true rfl, rfl⟩ | exact ⟨Nat.le_of_ble_eq_true rfl, by assumption⟩ | decide) ?_; conv => whnf)
    (refine And.intro (fun h => ?_) (fun h => by omega); conv => whnf)
    (repeat' first | (refine hK _ _ _ _ (zW.go (zC_om _) (fun K hK => ?_)); conv => whnf) | (refine And.intro (by first | omega | assumption | rfl | exact zin_and | exact ⟨zin_and, by omega⟩ | exact ⟨by omega, zin_and⟩ | exact Nat.le_of_ble_eq_true rfl | exact ⟨Nat.le_of_ble_eq_true rfl, rfl⟩ | exact ⟨Nat.le_of_ble_eq_true rfl, by assumption⟩ | decide) ?_; conv => whnf) | (refine And.intro (fun h => ?_) (fun h => ?_) <;> conv => whnf) | (intro h; conv => whnf))
    exact hQ
  · intro t ht hi
    obtain ⟨-, hvt, -⟩ := hth t ht
    have hi : zW zX6_heaviest (zC d) Q 4 [zR a, zI fr, zI (mhv (g a) fr (t + 1)), zI (t + 1 : Nat)] [] g := hi
    have e0 : mhv (g a) fr (t + 1) = if fr.testBit t = true ∧ (mhv (g a) fr t = -5 ∨ g a (21 + mhv (g a) fr t) < g a (21 + (t : Int))) then (t : Int) else mhv (g a) fr t := rfl
    rw [e0] at hi
    have hr := mhv_rng (g a) fr t
    generalize mhv (g a) fr t = f at *
    have hvf : f ≠ -5 → 1 ≤ g a (21 + f) ∧ g a (21 + f) ≤ 50 := by
      intro hf
      have hq := (hth f.toNat (by omega)).2.1
      have : ((f.toNat : Nat) : Int) = f := by omega
      rw [this] at hq
      exact hq
    (refine zW.go (zC_om _) (fun K hK => ?_); conv => whnf)
    (refine And.intro (by first | omega | assumption | rfl | exact zin_and | exact ⟨zin_and, by omega⟩ | exact ⟨by omega, zin_and⟩ | exact Nat.le_of_ble_eq_true rfl | exact ⟨Nat.le_of_ble_eq_true rfl, rfl⟩ | exact ⟨Nat.le_of_ble_eq_true rfl, by assumption⟩ | decide) ?_; conv => whnf)
    (refine And.intro (by first | omega | assumption | rfl | exact zin_and | exact ⟨zin_and, by omega⟩ | exact ⟨by omega, zin_and⟩ | exact Nat.le_of_ble_eq_true rfl | exact ⟨Nat.le_of_ble_eq_true rfl, rfl⟩ | exact ⟨Nat.le_of_ble_eq_true rfl, by assumption⟩ | decide) ?_; conv => whnf)
    (refine And.intro (fun h => by omega) (fun h => ?_); conv => whnf)
    rw [zbit hs (by omega)]
    by_cases hbit : fr.testBit t = true
    · rw [if_pos hbit]
      (refine And.intro (by first | omega | assumption | rfl | exact zin_and | exact ⟨zin_and, by omega⟩ | exact ⟨by omega, zin_and⟩ | exact Nat.le_of_ble_eq_true rfl | exact ⟨Nat.le_of_ble_eq_true rfl, rfl⟩ | exact ⟨Nat.le_of_ble_eq_true rfl, by assumption⟩ | decide) ?_; conv => whnf)
      (refine And.intro (fun h => by omega) (fun h => ?_); conv => whnf)
      (refine And.intro (by first | omega | assumption | rfl | exact zin_and | exact ⟨zin_and, by omega⟩ | exact ⟨by omega, zin_and⟩ | exact Nat.le_of_ble_eq_true rfl | exact ⟨Nat.le_of_ble_eq_true rfl, rfl⟩ | exact ⟨Nat.le_of_ble_eq_true rfl, by assumption⟩ | decide) ?_; conv => whnf)
      by_cases hf : f = -5
      · rw [if_pos ⟨hbit, Or.inl hf⟩] at hi
        (refine And.intro (fun h => ?_) (fun h => by omega); conv => whnf)
        (refine hK _ _ _ _ (zW.go (zC_om _) (fun K hK => ?_)); conv => whnf)
        (refine hK _ _ _ _ (zW.go (zC_om _) (fun K hK => ?_)); conv => whnf)
        exact hK _ _ _ _ hi
      · have hvf := hvf hf
        (refine And.intro (fun h => by omega) (fun h => ?_); conv => whnf)
        (refine And.intro (by first | omega | assumption | rfl | exact zin_and | exact ⟨zin_and, by omega⟩ | exact ⟨by omega, zin_and⟩ | exact Nat.le_of_ble_eq_true rfl | exact ⟨Nat.le_of_ble_eq_true rfl, rfl⟩ | exact ⟨Nat.le_of_ble_eq_true rfl, by assumption⟩ | decide) ?_; conv => whnf)
        (refine And.intro (by first | omega | assumption | rfl | exact zin_and | exact ⟨zin_and, by omega⟩ | exact ⟨by omega, zin_and⟩ | exact Nat.le_of_ble_eq_true rfl | exact ⟨Nat.le_of_ble_eq_true rfl, rfl⟩ | exact ⟨Nat.le_of_ble_eq_true rfl, by assumption⟩ | decide) ?_; conv => whnf)
        (refine And.intro (by first | omega | assumption | rfl | exact zin_and | exact ⟨zin_and, by omega⟩ | exact ⟨by omega, zin_and⟩ | exact Nat.le_of_ble_eq_true rfl | exact ⟨Nat.le_of_ble_eq_true rfl, rfl⟩ | exact ⟨Nat.le_of_ble_eq_true rfl, by assumption⟩ | decide) ?_; conv => whnf)
        by_cases hlt : g a (21 + f) < g a (21 + t)
        · rw [if_pos ⟨hbit, Or.inr hlt⟩] at hi
          (refine And.intro (fun h => by omega) (fun h => ?_); conv => whnf)
          (refine hK _ _ _ _ (zW.go (zC_om _) (fun K hK => ?_)); conv => whnf)
          exact hK _ _ _ _ hi
        · rw [if_neg (by omega)] at hi
          (refine And.intro (fun h => ?_) (fun h => by omega); conv => whnf)
          (refine hK _ _ _ _ (zW.go (zC_om _) (fun K hK => ?_)); conv => whnf)
          exact hK _ _ _ _ hi
    · rw [if_neg (fun q => hbit q.1)] at hi
      rw [if_neg hbit]
      (refine And.intro (by first | omega | assumption | rfl | exact zin_and | exact ⟨zin_and, by omega⟩ | exact ⟨by omega, zin_and⟩ | exact Nat.le_of_ble_eq_true rfl | exact ⟨Nat.le_of_ble_eq_true rfl, rfl⟩ | exact ⟨Nat.le_of_ble_eq_true rfl, by assumption⟩ | decide) ?_; conv => whnf)
      (refine And.intro (fun h => ?_) (fun h => by omega); conv => whnf)
      (refine hK _ _ _ _ (zW.go (zC_om _) (fun K hK => ?_)); conv => whnf)
      exact hK _ _ _ _ hi
/-- the free thing by parts -/
def mparts (s : zS) (n i o : Nat) : Int :=
  if msplit s n i o ≠ -5 then msplit s n i o else if mfirst s n (ndf (mfree s n i o) (mheel s n i o)) ≠ -5 then mfirst s n (ndf (mfree s n i o) (mheel s n i o)) else mfirst s n (mfree s n i o)
theorem mspl_rng {s : zS} {n fr : Nat} (hp : mpos s n) : ∀ (m k : Nat) (left : Int), k + m = n → mspl s n fr m k left = -5 ∨ (0 ≤ mspl s n fr m k left ∧ mspl s n fr m k left < n ∧ fr.testBit (mspl s n fr m k left).toNat = true)
  | 0, _, _, _ => Or.inl rfl
  | m + 1, k, left, hk => by
    obtain ⟨hmo, -⟩ := mor_spec (s := s) hp (show k < n by omega)
    have e0 : mspl s n fr (m + 1) k left = if fr.testBit (mor s n k) then (if left < s (21 + (mor s n k : Int)) then (mor s n k : Int) else mspl s n fr m (k + 1) (left - s (21 + (mor s n k : Int)))) else mspl s n fr m (k + 1) left := rfl
    rw [e0]
    split
    · next hb =>
      split
      · exact Or.inr ⟨by omega, by omega, by simpa using hb⟩
      · exact mspl_rng hp m (k + 1) _ (by omega)
    · exact mspl_rng hp m (k + 1) _ (by omega)
theorem mfs_rng {s : zS} {n set : Nat} (hp : mpos s n) : ∀ (m k : Nat), k + m = n → mfs s n set m k = -5 ∨ (0 ≤ mfs s n set m k ∧ mfs s n set m k < n ∧ set.testBit (mfs s n set m k).toNat = true)
  | 0, _, _ => Or.inl rfl
  | m + 1, k, hk => by
    obtain ⟨hmo, -⟩ := mor_spec (s := s) hp (show k < n by omega)
    have e0 : mfs s n set (m + 1) k = if set.testBit (mor s n k) then (mor s n k : Int) else mfs s n set m (k + 1) := rfl
    rw [e0]
    split
    · next hb => exact Or.inr ⟨by omega, by omega, by simpa using hb⟩
    · exact mfs_rng hp m (k + 1) (by omega)
theorem mhl_lt {s : zS} {n fr : Nat} (hn : n ≤ 12) (hp : mpos s n) : ∀ (m k set : Nat) (left : Int), k + m = n → set < 2 ^ n → mhl s n fr m k set left < 2 ^ n
  | 0, _, _, _, _, h => h
  | m + 1, k, set, left, hk, h => by
    obtain ⟨hmo, -⟩ := mor_spec (s := s) hp (show k < n by omega)
    have e0 : mhl s n fr (m + 1) k set left = if mhc s fr (mor s n k) set left then mhl s n fr m (k + 1) (set ||| 2 ^ (mor s n k)) (left - s (21 + (mor s n k : Int))) else mhl s n fr m (k + 1) set left := rfl
    rw [e0]
    split
    · exact mhl_lt hn hp m (k + 1) _ _ (by omega) (Nat.or_lt_two_pow h (Nat.pow_lt_pow_right (by decide) hmo))
    · exact mhl_lt hn hp m (k + 1) _ _ (by omega) h
theorem mheel_lt {s : zS} {n i o : Nat} (hok : mok s n) (hi : i < 2 ^ n) : mheel s n i o < 2 ^ n := mhl_lt hok.2.1 hok.pos n 0 i _ (by omega) hi
theorem ndf_lt {a b n : Nat} (h : a < 2 ^ n) : ndf a b < 2 ^ n := Nat.xor_lt_two_pow h (Nat.lt_of_le_of_lt Nat.and_le_left h)
theorem m_byParts {d a n i o : Nat} {g : zM} {Q : zP} (ha : zkd a = (1, 2845)) (hok : mok (g a) n) (hso : mso g (g a) n) (hi : i < 2 ^ n) (ho31 : o < 2 ^ 31) (hQ : Q (some (zI (mparts (g a) n i o))) g) : zC (d + 4) 105 [zR 64, zR a, zI i, zI o] g Q := by
  have hn12 := hok.2.1
  have h2n := zp12 hn12
  have hi31 : i < 2 ^ 31 := by omega
  have hfl : mfree (g a) n i o < 2 ^ n := mfr_lt (g a) n i o n
  have hhl := mheel_lt (o := o) hok hi
  have hdl := ndf_lt (b := mheel (g a) n i o) hfl
  have r1 : msplit (g a) n i o = -5 ∨ (0 ≤ msplit (g a) n i o ∧ msplit (g a) n i o < n ∧ _) := mspl_rng (s := g a) (fr := mfree (g a) n i o) hok.pos n 0 (mleft (g a) n i) (by omega)
  have r2 : mfirst (g a) n (ndf (mfree (g a) n i o) (mheel (g a) n i o)) = -5 ∨ (0 ≤ mfirst (g a) n (ndf (mfree (g a) n i o) (mheel (g a) n i o)) ∧ mfirst (g a) n (ndf (mfree (g a) n i o) (mheel (g a) n i o)) < n ∧ _) := mfs_rng (s := g a) (set := ndf (mfree (g a) n i o) (mheel (g a) n i o)) hok.pos n 0 (by omega)
  refine zC.go zm_X6_byParts ⟨rfl, rfl⟩ rfl ?_
  unfold mparts at hQ
  (refine zW.go (zC_om _) (fun K hK => ?_); conv => whnf)
  (refine And.intro (by first | omega | assumption | rfl | exact zin_and | exact ⟨zin_and, by omega⟩ | exact ⟨by omega, zin_and⟩ | exact Nat.le_of_ble_eq_true rfl | exact ⟨Nat.le_of_ble_eq_true rfl, rfl⟩ | exact ⟨Nat.le_of_ble_eq_true rfl, by assumption⟩ | decide) ?_; conv => whnf)
  (refine m_split ha hok hso hi31 ho31 ?_; conv => whnf)
  (refine And.intro (by first | omega | assumption | rfl | exact zin_and | exact ⟨zin_and, by omega⟩ | exact ⟨by omega, zin_and⟩ | exact Nat.le_of_ble_eq_true rfl | exact ⟨Nat.le_of_ble_eq_true rfl, rfl⟩ | exact ⟨Nat.le_of_ble_eq_true rfl, by assumption⟩ | decide) ?_; conv => whnf)
  (refine m_free ha hok hi31 ho31 ?_; conv => whnf)
  (refine And.intro (by first | omega | assumption | rfl | exact zin_and | exact ⟨zin_and, by omega⟩ | exact ⟨by omega, zin_and⟩ | exact Nat.le_of_ble_eq_true rfl | exact ⟨Nat.le_of_ble_eq_true rfl, rfl⟩ | exact ⟨Nat.le_of_ble_eq_true rfl, by assumption⟩ | decide) ?_; conv => whnf)
  (refine m_heel ha hok hso hi31 ho31 ?_; conv => whnf)
  rw [zandnot (by omega) (by omega)]
  (refine And.intro (by first | omega | assumption | rfl | exact zin_and | exact ⟨zin_and, by omega⟩ | exact ⟨by omega, zin_and⟩ | exact Nat.le_of_ble_eq_true rfl | exact ⟨Nat.le_of_ble_eq_true rfl, rfl⟩ | exact ⟨Nat.le_of_ble_eq_true rfl, by assumption⟩ | decide) ?_; conv => whnf)
  (refine m_first ha hok hso (by omega) ?_; conv => whnf)
  (refine And.intro (by first | omega | assumption | rfl | exact zin_and | exact ⟨zin_and, by omega⟩ | exact ⟨by omega, zin_and⟩ | exact Nat.le_of_ble_eq_true rfl | exact ⟨Nat.le_of_ble_eq_true rfl, rfl⟩ | exact ⟨Nat.le_of_ble_eq_true rfl, by assumption⟩ | decide) ?_; conv => whnf)
  by_cases h1 : msplit (g a) n i o = -5
  · rw [if_neg (fun q => q h1)] at hQ
    (refine And.intro (fun h => ?_) (fun h => by omega); conv => whnf)
    (refine hK _ _ _ _ (zW.go (zC_om _) (fun K hK => ?_)); conv => whnf)
    (refine And.intro (by first | omega | assumption | rfl | exact zin_and | exact ⟨zin_and, by omega⟩ | exact ⟨by omega, zin_and⟩ | exact Nat.le_of_ble_eq_true rfl | exact ⟨Nat.le_of_ble_eq_true rfl, rfl⟩ | exact ⟨Nat.le_of_ble_eq_true rfl, by assumption⟩ | decide) ?_; conv => whnf)
    by_cases h2 : mfirst (g a) n (ndf (mfree (g a) n i o) (mheel (g a) n i o)) = -5
    · rw [if_neg (fun q => q h2)] at hQ
      (refine And.intro (fun h => ?_) (fun h => by omega); conv => whnf)
      (refine hK _ _ _ _ (zW.go (zC_om _) (fun K hK => ?_)); conv => whnf)
      (refine And.intro (by first | omega | assumption | rfl | exact zin_and | exact ⟨zin_and, by omega⟩ | exact ⟨by omega, zin_and⟩ | exact Nat.le_of_ble_eq_true rfl | exact ⟨Nat.le_of_ble_eq_true rfl, rfl⟩ | exact ⟨Nat.le_of_ble_eq_true rfl, by assumption⟩ | decide) ?_; conv => whnf)
      (refine m_first ha hok hso (by omega) ?_; conv => whnf)
      (repeat' first | (refine hK _ _ _ _ (zW.go (zC_om _) (fun K hK => ?_)); conv => whnf) | (refine And.intro (by first | omega | assumption | rfl | exact zin_and | exact ⟨zin_and, by omega⟩ | exact ⟨by omega, zin_and⟩ | exact Nat.le_of_ble_eq_true rfl | exact ⟨Nat.le_of_ble_eq_true rfl, rfl⟩ | exact ⟨Nat.le_of_ble_eq_true rfl, by assumption⟩ | decide) ?_; conv => whnf) | (refine And.intro (fun h => ?_) (fun h => ?_) <;> conv => whnf) | (intro h; conv => whnf))
      exact hQ
    · rw [if_pos h2] at hQ
      (refine And.intro (fun h => by omega) (fun h => ?_); conv => whnf)
      (repeat' first | (refine hK _ _ _ _ (zW.go (zC_om _) (fun K hK => ?_)); conv => whnf) | (refine And.intro (by first | omega | assumption | rfl | exact zin_and | exact ⟨zin_and, by omega⟩ | exact ⟨by omega, zin_and⟩ | exact Nat.le_of_ble_eq_true rfl | exact ⟨Nat.le_of_ble_eq_true rfl, rfl⟩ | exact ⟨Nat.le_of_ble_eq_true rfl, by assumption⟩ | decide) ?_; conv => whnf) | (refine And.intro (fun h => ?_) (fun h => ?_) <;> conv => whnf) | (intro h; conv => whnf))
      exact hQ
  · rw [if_pos h1] at hQ
    (refine And.intro (fun h => by omega) (fun h => ?_); conv => whnf)
    (repeat' first | (refine hK _ _ _ _ (zW.go (zC_om _) (fun K hK => ?_)); conv => whnf) | (refine And.intro (by first | omega | assumption | rfl | exact zin_and | exact ⟨zin_and, by omega⟩ | exact ⟨by omega, zin_and⟩ | exact Nat.le_of_ble_eq_true rfl | exact ⟨Nat.le_of_ble_eq_true rfl, rfl⟩ | exact ⟨Nat.le_of_ble_eq_true rfl, by assumption⟩ | decide) ?_; conv => whnf) | (refine And.intro (fun h => ?_) (fun h => ?_) <;> conv => whnf) | (intro h; conv => whnf))
    exact hQ
