/-! the class's bag against a row -/
def zKB (k : Nat) : Prop := zkd k = (0, 0) ∧ zkd (k + 1) = (1, 12) ∧ zkd (k + 2) = (1, 12) ∧ zkd (k + 3) = (1, 12) ∧ zkd (k + 4) = (1, 12)
/-- what of a bag follows from its things: the order apart -/
def RelB (g : zM) (k : Nat) (s : zS) (n : Nat) : Prop := g k (4 : Nat) = (n : Int) ∧ g k (5 : Nat) = s 1 ∧ ∀ t : Nat, t < n → g (k + 1) t = s (9 + t) ∧ g (k + 2) t = s (21 + t) ∧ g (k + 3) t = s (33 + t) ∧ g (k + 4) t = (mor s n t : Int)
theorem bsum_cut {r : Int → Int} {f : Int} {set n : Nat} (hs : set < 2 ^ n) : ∀ m : Nat, n ≤ m → bsum r f set m = bsum r f set n := by
  intro m
  induction m with
  | zero => intro h; have : n = 0 := by omega
            subst this; rfl
  | succ m ih =>
    intro h
    by_cases hm : n = m + 1
    · rw [hm]
    · show bsum r f set m + _ = _
      rw [ih (by omega), if_neg (by rw [zlt_bits hs (by omega)]; decide), Int.add_zero]
theorem bsum_shift {r r' : Int → Int} {f f' : Int} {set : Nat} : ∀ n : Nat, (∀ t : Nat, t < n → r (f + t) = r' (f' + t)) → bsum r f set n = bsum r' f' set n
  | 0, _ => rfl
  | n + 1, h => by
    show bsum r f set n + _ = bsum r' f' set n + _
    rw [bsum_shift n (fun t ht => h t (by omega)), h n (by omega)]
/-- one thing more in a sum -/
theorem bsum_add {r : Int → Int} {f : Int} {set t : Nat} (hb : set.testBit t = false) : ∀ n : Nat, bsum r f (set ||| 2 ^ t) n = bsum r f set n + if t < n then r (f + t) else 0
  | 0 => by simp [bsum]
  | n + 1 => by
    show bsum r f (set ||| 2 ^ t) n + _ = bsum r f set n + _ + _
    rw [bsum_add hb n, Nat.testBit_or, Nat.testBit_two_pow]
    by_cases h1 : t = n
    · subst h1
      simp [hb]
    · have h2 : (t < n + 1) ↔ (t < n) := by omega
      simp only [h1, decide_false, Bool.or_false, h2]
      omega
theorem bsum0 {r : Int → Int} {f : Int} : ∀ n : Nat, bsum r f 0 n = 0
  | 0 => rfl
  | n + 1 => by
    show bsum r f 0 n + _ = _
    rw [bsum0 n]
    simp
section CB
variable {g : zM} {k n : Nat} {s : zS} {d : Nat} {Q : zP}
theorem c_sumV (hk : zKB k) (hr : RelB g k s n) (hn : n ≤ 12) {set : Nat} (hs : set < 2 ^ n) (hQ : Q (some (zI (bsum s 21 set n))) g) : zC (d + 1) 85 [zR (k + 2), zI set] g Q := by
  have h12 : set < 2 ^ 12 := Nat.lt_of_lt_of_le hs (Nat.pow_le_pow_right (by decide) hn)
  refine s_sumOf hk.2.2.1 h12 ?_
  rw [bsum_cut hs 12 hn, bsum_shift (r' := s) (f' := 21) n (fun t ht => by rw [Int.zero_add]; exact (hr.2.2 t ht).2.1)]
  exact hQ
theorem c_sumW (hk : zKB k) (hr : RelB g k s n) (hn : n ≤ 12) {set : Nat} (hs : set < 2 ^ n) (hQ : Q (some (zI (bsum s 9 set n))) g) : zC (d + 1) 85 [zR (k + 1), zI set] g Q := by
  have h12 : set < 2 ^ 12 := Nat.lt_of_lt_of_le hs (Nat.pow_le_pow_right (by decide) hn)
  refine s_sumOf hk.2.1 h12 ?_
  rw [bsum_cut hs 12 hn, bsum_shift (r' := s) (f' := 9) n (fun t ht => by rw [Int.zero_add]; exact (hr.2.2 t ht).1)]
  exact hQ
theorem c_at {a : Nat} {t : Nat} (ha : zkd a = (1, 12)) (ht : t < 12) {v : Int} (hv : g a t = v) (hQ : Q (some (zI v)) g) : zC (d + 1) 83 [zR a, zI t] g Q := by
  refine s_at ha (by omega) (by omega) ?_
  rw [if_pos (by omega), hv]
  exact hQ
end CB
theorem nand0 {a b : Nat} : a &&& b = 0 ↔ ∀ u, a.testBit u = true → b.testBit u = false := by
  constructor
  · intro h u hu
    have : (a &&& b).testBit u = false := by rw [h]; simp
    rw [Nat.testBit_and, hu, Bool.true_and] at this
    exact this
  · intro h
    refine Nat.eq_of_testBit_eq (fun u => ?_)
    rw [Nat.testBit_and, Nat.zero_testBit]
    cases hu : a.testBit u with
    | false => rfl
    | true => rw [h u hu]; rfl
/-- the things that those of a set bar -/
def brd (s : zS) (set : Nat) : Nat → Nat
  | 0 => 0
  | t + 1 => brd s set t ||| (if set.testBit t then mb s t else 0)
theorem brd_bit (s : zS) (set u : Nat) : ∀ m : Nat, (brd s set m).testBit u = true ↔ ∃ t, t < m ∧ set.testBit t = true ∧ (mb s t).testBit u = true
  | 0 => by simp [brd]
  | m + 1 => by
    show (brd s set m ||| _).testBit u = true ↔ _
    rw [Nat.testBit_or, Bool.or_eq_true, brd_bit s set u m]
    constructor
    · rintro (⟨t, h1, h2, h3⟩ | h)
      · exact ⟨t, by omega, h2, h3⟩
      · by_cases hb : set.testBit m = true
        · rw [if_pos hb] at h
          exact ⟨m, by omega, hb, h⟩
        · rw [if_neg hb, Nat.zero_testBit] at h
          exact Bool.noConfusion h
    · rintro ⟨t, h1, h2, h3⟩
      by_cases ht : t = m
      · subst ht
        right
        rw [if_pos h2]
        exact h3
      · exact Or.inl ⟨t, by omega, h2, h3⟩
theorem brd_lt {s : zS} {n set : Nat} (hsym : msym s n) (hs : set < 2 ^ n) : ∀ m : Nat, brd s set m < 2 ^ n
  | 0 => Nat.two_pow_pos n
  | m + 1 => by
    refine Nat.or_lt_two_pow (brd_lt hsym hs m) ?_
    by_cases hb : set.testBit m = true
    · rw [if_pos hb]
      refine (hsym m ?_).1
      rcases Nat.lt_or_ge m n with h | h
      · exact h
      · rw [zlt_bits hs h] at hb; exact Bool.noConfusion hb
    · rw [if_neg hb]
      exact Nat.two_pow_pos n
theorem mposs_iff {s : zS} {n set : Nat} : mposs s n set = true ↔ bsum s 21 set n ≤ s 1 ∧ ∀ t, t < n → set.testBit t = true → mb s t &&& set = 0 := by
  have go : ∀ m : Nat, mpb s n set m = true ↔ bsum s 21 set n ≤ s 1 ∧ ∀ t, t < m → set.testBit t = true → mb s t &&& set = 0 := by
    intro m
    induction m with
    | zero => simp [mpb]
    | succ m ih =>
      show (mpb s n set m && (!set.testBit m || decide (mb s m &&& set = 0))) = true ↔ _
      rw [Bool.and_eq_true, ih]
      constructor
      · rintro ⟨⟨h1, h2⟩, h3⟩
        refine ⟨h1, fun t ht hb => ?_⟩
        by_cases he : t = m
        · subst he
          rw [hb] at h3
          simpa using h3
        · exact h2 t (by omega) hb
      · rintro ⟨h1, h2⟩
        refine ⟨⟨h1, fun t ht => h2 t (by omega)⟩, ?_⟩
        cases hb : set.testBit m with
        | false => rfl
        | true => simpa using h2 m (by omega) hb
  exact go n
theorem mposs_brd {s : zS} {n set : Nat} (hs : set < 2 ^ n) (hn : n ≤ 12) : mposs s n set = true ↔ bsum s 21 set n ≤ s 1 ∧ brd s set 12 &&& set = 0 := by
  rw [mposs_iff]
  refine and_congr_right (fun _ => ?_)
  rw [nand0]
  constructor
  · intro h u hu
    obtain ⟨t, h1, h2, h3⟩ := (brd_bit s set u 12).mp hu
    have htn : t < n := by
      rcases Nat.lt_or_ge t n with q | q
      · exact q
      · rw [zlt_bits hs q] at h2; exact Bool.noConfusion h2
    exact nand0.mp (h t htn h2) u h3
  · intro h t ht hb
    refine nand0.mpr (fun u hu => h u ?_)
    exact (brd_bit s set u 12).mpr ⟨t, by omega, hb, hu⟩
section CP
variable {g : zM} {k n : Nat} {s : zS} {d : Nat} {Q : zP}
theorem c_barredBy (hk : zKB k) (hr : RelB g k s n) (hok : mok s n) (hsym : msym s n) {set : Nat} (hs : set < 2 ^ n) (hQ : Q (some (zI (brd s set 12 : Nat))) g) : zC (d + 1) 11 [zR k, zI set] g Q := by
  obtain ⟨hk0, hk1, hk2, hk3, hk4⟩ := id hk
  have hk31 : (zkd (k + 3)).1 = 1 := by rw [hk3]
  have hk32 : (zkd (k + 3)).2 = 12 := by rw [hk3]
  have hn12 := hok.2.1
  have h2n := zp12 hn12
  refine zC.go zm_X0_barredBy ⟨rfl, rfl⟩ rfl ?_
  (refine zW.upto (zC_om _) 4 (fun K hK => ?_); conv => whnf)
  refine hK _ _ _ _ (zdown (P := fun t => zW zX0_barredBy (zC d) Q 4 [zR k, zI set, zI (brd s set t : Nat), zI t] [] g) 12 ?_ ?_)
  · (refine zW.go (zC_om _) (fun K hK => ?_); conv => whnf)
    (refine And.intro (by first | omega | assumption | rfl | exact zin_and | exact ⟨zin_and, by omega⟩ | exact ⟨by omega, zin_and⟩ | exact Nat.le_of_ble_eq_true rfl | exact ⟨Nat.le_of_ble_eq_true rfl, rfl⟩ | exact ⟨Nat.le_of_ble_eq_true rfl, by assumption⟩ | exact ⟨by omega, Nat.le_of_ble_eq_true rfl⟩ | exact ⟨⟨by assumption, by omega⟩, Nat.le_of_ble_eq_true rfl⟩ | decide) ?_; conv => whnf)
    (refine And.intro (by first | omega | assumption | rfl | exact zin_and | exact ⟨zin_and, by omega⟩ | exact ⟨by omega, zin_and⟩ | exact Nat.le_of_ble_eq_true rfl | exact ⟨Nat.le_of_ble_eq_true rfl, rfl⟩ | exact ⟨Nat.le_of_ble_eq_true rfl, by assumption⟩ | exact ⟨by omega, Nat.le_of_ble_eq_true rfl⟩ | exact ⟨⟨by assumption, by omega⟩, Nat.le_of_ble_eq_true rfl⟩ | decide) ?_; conv => whnf)
    (refine And.intro (by first | omega | assumption | rfl | exact zin_and | exact ⟨zin_and, by omega⟩ | exact ⟨by omega, zin_and⟩ | exact Nat.le_of_ble_eq_true rfl | exact ⟨Nat.le_of_ble_eq_true rfl, rfl⟩ | exact ⟨Nat.le_of_ble_eq_true rfl, by assumption⟩ | exact ⟨by omega, Nat.le_of_ble_eq_true rfl⟩ | exact ⟨⟨by assumption, by omega⟩, Nat.le_of_ble_eq_true rfl⟩ | decide) ?_; conv => whnf)
    (refine And.intro (fun h => ?_) (fun h => by omega); conv => whnf)
    (repeat' first | (refine hK _ _ _ _ (zW.go (zC_om _) (fun K hK => ?_)); conv => whnf) | (refine And.intro (by first | omega | assumption | rfl | exact zin_and | exact ⟨zin_and, by omega⟩ | exact ⟨by omega, zin_and⟩ | exact Nat.le_of_ble_eq_true rfl | exact ⟨Nat.le_of_ble_eq_true rfl, rfl⟩ | exact ⟨Nat.le_of_ble_eq_true rfl, by assumption⟩ | exact ⟨by omega, Nat.le_of_ble_eq_true rfl⟩ | exact ⟨⟨by assumption, by omega⟩, Nat.le_of_ble_eq_true rfl⟩ | decide) ?_; conv => whnf) | (refine And.intro (fun h => ?_) (fun h => ?_) <;> conv => whnf) | (intro h; conv => whnf))
    exact hQ
  · intro t ht hi
    have hi : zW zX0_barredBy (zC d) Q 4 [zR k, zI set, zI (brd s set t ||| (if set.testBit t then mb s t else 0) : Nat), zI (t + 1 : Nat)] [] g := hi
    have hbl := brd_lt hsym hs t
    have hp : 0 < 2 ^ t := Nat.two_pow_pos t
    (refine zW.go (zC_om _) (fun K hK => ?_); conv => whnf)
    (refine And.intro (by first | omega | assumption | rfl | exact zin_and | exact ⟨zin_and, by omega⟩ | exact ⟨by omega, zin_and⟩ | exact Nat.le_of_ble_eq_true rfl | exact ⟨Nat.le_of_ble_eq_true rfl, rfl⟩ | exact ⟨Nat.le_of_ble_eq_true rfl, by assumption⟩ | exact ⟨by omega, Nat.le_of_ble_eq_true rfl⟩ | exact ⟨⟨by assumption, by omega⟩, Nat.le_of_ble_eq_true rfl⟩ | decide) ?_; conv => whnf)
    (refine And.intro (by first | omega | assumption | rfl | exact zin_and | exact ⟨zin_and, by omega⟩ | exact ⟨by omega, zin_and⟩ | exact Nat.le_of_ble_eq_true rfl | exact ⟨Nat.le_of_ble_eq_true rfl, rfl⟩ | exact ⟨Nat.le_of_ble_eq_true rfl, by assumption⟩ | exact ⟨by omega, Nat.le_of_ble_eq_true rfl⟩ | exact ⟨⟨by assumption, by omega⟩, Nat.le_of_ble_eq_true rfl⟩ | decide) ?_; conv => whnf)
    (refine And.intro (by first | omega | assumption | rfl | exact zin_and | exact ⟨zin_and, by omega⟩ | exact ⟨by omega, zin_and⟩ | exact Nat.le_of_ble_eq_true rfl | exact ⟨Nat.le_of_ble_eq_true rfl, rfl⟩ | exact ⟨Nat.le_of_ble_eq_true rfl, by assumption⟩ | exact ⟨by omega, Nat.le_of_ble_eq_true rfl⟩ | exact ⟨⟨by assumption, by omega⟩, Nat.le_of_ble_eq_true rfl⟩ | decide) ?_; conv => whnf)
    (refine And.intro (fun h => by omega) (fun h => ?_); conv => whnf)
    rw [zbit2 (by omega) (by omega)]
    have h2t : 2 ^ t ≤ 2 ^ 12 := Nat.pow_le_pow_right (by decide) (by omega)
    by_cases hbit : set.testBit t = true
    · have htn : t < n := by
        rcases Nat.lt_or_ge t n with q | q
        · exact q
        · rw [zlt_bits hs q] at hbit; exact Bool.noConfusion hbit
      have hmb := mb_eq hok htn
      have hml := mb_lt hok htn
      rw [if_pos hbit] at hi ⊢
      (refine And.intro (by first | omega | assumption | rfl | exact zin_and | exact ⟨zin_and, by omega⟩ | exact ⟨by omega, zin_and⟩ | exact Nat.le_of_ble_eq_true rfl | exact ⟨Nat.le_of_ble_eq_true rfl, rfl⟩ | exact ⟨Nat.le_of_ble_eq_true rfl, by assumption⟩ | exact ⟨by omega, Nat.le_of_ble_eq_true rfl⟩ | exact ⟨⟨by assumption, by omega⟩, Nat.le_of_ble_eq_true rfl⟩ | decide) ?_; conv => whnf)
      (refine And.intro (fun h => by omega) (fun h => ?_); conv => whnf)
      (refine And.intro (by first | omega | assumption | rfl | exact zin_and | exact ⟨zin_and, by omega⟩ | exact ⟨by omega, zin_and⟩ | exact Nat.le_of_ble_eq_true rfl | exact ⟨Nat.le_of_ble_eq_true rfl, rfl⟩ | exact ⟨Nat.le_of_ble_eq_true rfl, by assumption⟩ | exact ⟨by omega, Nat.le_of_ble_eq_true rfl⟩ | exact ⟨⟨by assumption, by omega⟩, Nat.le_of_ble_eq_true rfl⟩ | decide) ?_; conv => whnf)
      (refine And.intro (by first | omega | assumption | rfl | exact zin_and | exact ⟨zin_and, by omega⟩ | exact ⟨by omega, zin_and⟩ | exact Nat.le_of_ble_eq_true rfl | exact ⟨Nat.le_of_ble_eq_true rfl, rfl⟩ | exact ⟨Nat.le_of_ble_eq_true rfl, by assumption⟩ | exact ⟨by omega, Nat.le_of_ble_eq_true rfl⟩ | exact ⟨⟨by assumption, by omega⟩, Nat.le_of_ble_eq_true rfl⟩ | decide) ?_; conv => whnf)
      rw [(hr.2.2 t htn).2.2.1, hmb, zor_nat (by omega) (by omega)]
      exact hK _ _ _ _ hi
    · rw [if_neg hbit, Nat.or_zero] at hi
      rw [if_neg hbit]
      (refine And.intro (by first | omega | assumption | rfl | exact zin_and | exact ⟨zin_and, by omega⟩ | exact ⟨by omega, zin_and⟩ | exact Nat.le_of_ble_eq_true rfl | exact ⟨Nat.le_of_ble_eq_true rfl, rfl⟩ | exact ⟨Nat.le_of_ble_eq_true rfl, by assumption⟩ | exact ⟨by omega, Nat.le_of_ble_eq_true rfl⟩ | exact ⟨⟨by assumption, by omega⟩, Nat.le_of_ble_eq_true rfl⟩ | decide) ?_; conv => whnf)
      (refine And.intro (fun h => ?_) (fun h => by omega); conv => whnf)
      (refine hK _ _ _ _ (zW.go (zC_om _) (fun K hK => ?_)); conv => whnf)
      exact hK _ _ _ _ hi
theorem c_isPossible (hk : zKB k) (hr : RelB g k s n) (hok : mok s n) (hsym : msym s n) {set : Nat} (hs : set < 2 ^ n) (hQ : Q (some (zI (zb (mposs s n set)))) g) : zC (d + 2) 10 [zR k, zI set] g Q := by
  obtain ⟨hk0, hk1, hk2, hk3, hk4⟩ := id hk
  have hn12 := hok.2.1
  have h2n := zp12 hn12
  have hbl := brd_lt hsym hs 12
  have hmp := mposs_brd (s := s) hs hn12
  have hsv := msumv (set := set) hok
  have hrm := hok.2.2.1
  refine zC.go zm_X0_isPossible ⟨rfl, rfl⟩ rfl ?_
  (refine zW.go (zC_om _) (fun K hK => ?_); conv => whnf)
  (refine And.intro (by first | omega | assumption | rfl | exact zin_and | exact ⟨zin_and, by omega⟩ | exact ⟨by omega, zin_and⟩ | exact Nat.le_of_ble_eq_true rfl | exact ⟨Nat.le_of_ble_eq_true rfl, rfl⟩ | exact ⟨Nat.le_of_ble_eq_true rfl, by assumption⟩ | exact ⟨by omega, Nat.le_of_ble_eq_true rfl⟩ | exact ⟨⟨by assumption, by omega⟩, Nat.le_of_ble_eq_true rfl⟩ | decide) ?_; conv => whnf)
  (refine And.intro (by first | omega | assumption | rfl | exact zin_and | exact ⟨zin_and, by omega⟩ | exact ⟨by omega, zin_and⟩ | exact Nat.le_of_ble_eq_true rfl | exact ⟨Nat.le_of_ble_eq_true rfl, rfl⟩ | exact ⟨Nat.le_of_ble_eq_true rfl, by assumption⟩ | exact ⟨by omega, Nat.le_of_ble_eq_true rfl⟩ | exact ⟨⟨by assumption, by omega⟩, Nat.le_of_ble_eq_true rfl⟩ | decide) ?_; conv => whnf)
  (refine c_sumV hk hr hn12 hs ?_; conv => whnf)
  (refine And.intro (by first | omega | assumption | rfl | exact zin_and | exact ⟨zin_and, by omega⟩ | exact ⟨by omega, zin_and⟩ | exact Nat.le_of_ble_eq_true rfl | exact ⟨Nat.le_of_ble_eq_true rfl, rfl⟩ | exact ⟨Nat.le_of_ble_eq_true rfl, by assumption⟩ | exact ⟨by omega, Nat.le_of_ble_eq_true rfl⟩ | exact ⟨⟨by assumption, by omega⟩, Nat.le_of_ble_eq_true rfl⟩ | decide) ?_; conv => whnf)
  rw [hr.2.1]
  (refine And.intro (by first | omega | assumption | rfl | exact zin_and | exact ⟨zin_and, by omega⟩ | exact ⟨by omega, zin_and⟩ | exact Nat.le_of_ble_eq_true rfl | exact ⟨Nat.le_of_ble_eq_true rfl, rfl⟩ | exact ⟨Nat.le_of_ble_eq_true rfl, by assumption⟩ | exact ⟨by omega, Nat.le_of_ble_eq_true rfl⟩ | exact ⟨⟨by assumption, by omega⟩, Nat.le_of_ble_eq_true rfl⟩ | decide) ?_; conv => whnf)
  by_cases h1 : bsum s 21 set n ≤ s 1
  · (refine And.intro (fun h => by omega) (fun h => ?_); conv => whnf)
    (refine And.intro (by first | omega | assumption | rfl | exact zin_and | exact ⟨zin_and, by omega⟩ | exact ⟨by omega, zin_and⟩ | exact Nat.le_of_ble_eq_true rfl | exact ⟨Nat.le_of_ble_eq_true rfl, rfl⟩ | exact ⟨Nat.le_of_ble_eq_true rfl, by assumption⟩ | exact ⟨by omega, Nat.le_of_ble_eq_true rfl⟩ | exact ⟨⟨by assumption, by omega⟩, Nat.le_of_ble_eq_true rfl⟩ | decide) ?_; conv => whnf)
    (refine c_barredBy hk hr hok hsym hs ?_; conv => whnf)
    rw [zand_nat (by omega) (by omega)]
    have hle : brd s set 12 &&& set ≤ brd s set 12 := Nat.and_le_left
    (refine And.intro (by first | omega | assumption | rfl | exact zin_and | exact ⟨zin_and, by omega⟩ | exact ⟨by omega, zin_and⟩ | exact Nat.le_of_ble_eq_true rfl | exact ⟨Nat.le_of_ble_eq_true rfl, rfl⟩ | exact ⟨Nat.le_of_ble_eq_true rfl, by assumption⟩ | exact ⟨by omega, Nat.le_of_ble_eq_true rfl⟩ | exact ⟨⟨by assumption, by omega⟩, Nat.le_of_ble_eq_true rfl⟩ | decide) ?_; conv => whnf)
    by_cases h2 : brd s set 12 &&& set = 0
    · rw [hmp.mpr ⟨h1, h2⟩] at hQ
      rw [h2]
      (refine And.intro (fun h => by omega) (fun h => ?_); conv => whnf)
      (repeat' first | (refine hK _ _ _ _ (zW.go (zC_om _) (fun K hK => ?_)); conv => whnf) | (refine And.intro (by first | omega | assumption | rfl | exact zin_and | exact ⟨zin_and, by omega⟩ | exact ⟨by omega, zin_and⟩ | exact Nat.le_of_ble_eq_true rfl | exact ⟨Nat.le_of_ble_eq_true rfl, rfl⟩ | exact ⟨Nat.le_of_ble_eq_true rfl, by assumption⟩ | exact ⟨by omega, Nat.le_of_ble_eq_true rfl⟩ | exact ⟨⟨by assumption, by omega⟩, Nat.le_of_ble_eq_true rfl⟩ | decide) ?_; conv => whnf) | (refine And.intro (fun h => ?_) (fun h => ?_) <;> conv => whnf) | (intro h; conv => whnf))
      exact hQ
    · have : mposs s n set = false := by
        cases hq : mposs s n set with
        | false => rfl
        | true => exact absurd (hmp.mp hq).2 h2
      rw [this] at hQ
      (refine And.intro (fun h => ?_) (fun h => by omega); conv => whnf)
      (repeat' first | (refine hK _ _ _ _ (zW.go (zC_om _) (fun K hK => ?_)); conv => whnf) | (refine And.intro (by first | omega | assumption | rfl | exact zin_and | exact ⟨zin_and, by omega⟩ | exact ⟨by omega, zin_and⟩ | exact Nat.le_of_ble_eq_true rfl | exact ⟨Nat.le_of_ble_eq_true rfl, rfl⟩ | exact ⟨Nat.le_of_ble_eq_true rfl, by assumption⟩ | exact ⟨by omega, Nat.le_of_ble_eq_true rfl⟩ | exact ⟨⟨by assumption, by omega⟩, Nat.le_of_ble_eq_true rfl⟩ | decide) ?_; conv => whnf) | (refine And.intro (fun h => ?_) (fun h => ?_) <;> conv => whnf) | (intro h; conv => whnf))
      exact hQ
  · have : mposs s n set = false := by
      cases hq : mposs s n set with
      | false => rfl
      | true => exact absurd (hmp.mp hq).1 h1
    rw [this] at hQ
    (refine And.intro (fun h => ?_) (fun h => by omega); conv => whnf)
    (repeat' first | (refine hK _ _ _ _ (zW.go (zC_om _) (fun K hK => ?_)); conv => whnf) | (refine And.intro (by first | omega | assumption | rfl | exact zin_and | exact ⟨zin_and, by omega⟩ | exact ⟨by omega, zin_and⟩ | exact Nat.le_of_ble_eq_true rfl | exact ⟨Nat.le_of_ble_eq_true rfl, rfl⟩ | exact ⟨Nat.le_of_ble_eq_true rfl, by assumption⟩ | exact ⟨by omega, Nat.le_of_ble_eq_true rfl⟩ | exact ⟨⟨by assumption, by omega⟩, Nat.le_of_ble_eq_true rfl⟩ | decide) ?_; conv => whnf) | (refine And.intro (fun h => ?_) (fun h => ?_) <;> conv => whnf) | (intro h; conv => whnf))
    exact hQ
theorem brd_sym (hsym : msym s n) {i t : Nat} (hi : i < 2 ^ n) (ht : t < n) (hn : n ≤ 12) : (brd s i 12).testBit t = true ↔ ¬ mb s t &&& i = 0 := by
  rw [brd_bit, nand0]
  constructor
  · rintro ⟨u, h1, h2, h3⟩ h
    have hun : u < n := by
      rcases Nat.lt_or_ge u n with q | q
      · exact q
      · rw [zlt_bits hi q] at h2; exact Bool.noConfusion h2
    have := h u (by rw [(hsym t ht).2.1 u hun]; exact h3)
    rw [h2] at this
    exact Bool.noConfusion this
  · intro h
    refine Classical.byContradiction (fun hne => h (fun u hu => ?_))
    cases hb : i.testBit u with
    | false => rfl
    | true =>
      exfalso
      have hun : u < n := by
        rcases Nat.lt_or_ge u n with q | q
        · exact q
        · rw [zlt_bits hi q] at hb; exact Bool.noConfusion hb
      exact hne ⟨u, by omega, hb, by rw [← (hsym t ht).2.1 u hun]; exact hu⟩
theorem c_free (hk : zKB k) (hr : RelB g k s n) (hok : mok s n) (hsym : msym s n) {i o : Nat} (hi2 : i < 2 ^ n) (ho2 : o < 2 ^ n) (hQ : Q (some (zI (mfree s n i o : Nat))) g) : zC (d + 2) 12 [zR k, zI i, zI o] g Q := by
  obtain ⟨hk0, hk1, hk2, hk3, hk4⟩ := id hk
  have hn12 := hok.2.1
  have h2n := zp12 hn12
  have hbl := brd_lt hsym hi2 12
  have hsv := msumv (set := i) hok
  have hrm := hok.2.2.1
  have hg4 := hr.1
  have hio : i ||| o < 2 ^ n := Nat.or_lt_two_pow hi2 ho2
  have hiob : (i ||| o) ||| brd s i 12 < 2 ^ n := Nat.or_lt_two_pow hio hbl
  refine zC.go zm_X0_freeThings ⟨rfl, rfl⟩ rfl ?_
  have loop : zW zX0_freeThings (zC (d + 1)) Q 20 [zR k, zI i, zI o, zI (mleft s n i), zI ((i ||| o) ||| brd s i 12 : Nat), zI (mfr s n i o 0 : Nat), zI 0] [] g := by
    refine (zdown (P := fun t => zW zX0_freeThings (zC (d + 1)) Q 20 [zR k, zI i, zI o, zI (mleft s n i), zI ((i ||| o) ||| brd s i 12 : Nat), zI (mfr s n i o t : Nat), zI t] [] g) n ?_ ?_)
    · (refine zW.go (zC_om _) (fun K hK => ?_); conv => whnf)
      (refine And.intro (by first | omega | assumption | rfl | exact zin_and | exact ⟨zin_and, by omega⟩ | exact ⟨by omega, zin_and⟩ | exact Nat.le_of_ble_eq_true rfl | exact ⟨Nat.le_of_ble_eq_true rfl, rfl⟩ | exact ⟨Nat.le_of_ble_eq_true rfl, by assumption⟩ | exact ⟨by omega, Nat.le_of_ble_eq_true rfl⟩ | exact ⟨⟨by assumption, by omega⟩, Nat.le_of_ble_eq_true rfl⟩ | decide) ?_; conv => whnf)
      (refine And.intro (by first | omega | assumption | rfl | exact zin_and | exact ⟨zin_and, by omega⟩ | exact ⟨by omega, zin_and⟩ | exact Nat.le_of_ble_eq_true rfl | exact ⟨Nat.le_of_ble_eq_true rfl, rfl⟩ | exact ⟨Nat.le_of_ble_eq_true rfl, by assumption⟩ | exact ⟨by omega, Nat.le_of_ble_eq_true rfl⟩ | exact ⟨⟨by assumption, by omega⟩, Nat.le_of_ble_eq_true rfl⟩ | decide) ?_; conv => whnf)
      (refine And.intro (fun h => ?_) (fun h => by omega); conv => whnf)
      (repeat' first | (refine hK _ _ _ _ (zW.go (zC_om _) (fun K hK => ?_)); conv => whnf) | (refine And.intro (by first | omega | assumption | rfl | exact zin_and | exact ⟨zin_and, by omega⟩ | exact ⟨by omega, zin_and⟩ | exact Nat.le_of_ble_eq_true rfl | exact ⟨Nat.le_of_ble_eq_true rfl, rfl⟩ | exact ⟨Nat.le_of_ble_eq_true rfl, by assumption⟩ | exact ⟨by omega, Nat.le_of_ble_eq_true rfl⟩ | exact ⟨⟨by assumption, by omega⟩, Nat.le_of_ble_eq_true rfl⟩ | decide) ?_; conv => whnf) | (refine And.intro (fun h => ?_) (fun h => ?_) <;> conv => whnf) | (intro h; conv => whnf))
      exact hQ
    · intro t ht hi
      have hlt := mfr_lt s n i o t
      have h2t : 2 ^ t < 2 ^ n := Nat.pow_lt_pow_right (by decide) ht
      have h2tn : 2 ^ t ≤ 2 ^ n := by omega
      have hbs := brd_sym hsym hi2 ht hn12
      have hv := (hr.2.2 t ht).2.1
      have hvr := (hok.2.2.2 t ht).2.1
      have e0 : mfr s n i o (t + 1) = mfr s n i o t ||| (if mfc s n i o t then 2 ^ t else 0) := rfl
      have e1 : mfc s n i o t = (!(i ||| o).testBit t && (decide (mb s t &&& i = 0) && decide (s (21 + t) ≤ mleft s n i))) := rfl
      rw [e0] at hi
      have hbo : ((i ||| o) ||| brd s i 12).testBit t = ((i ||| o).testBit t || (brd s i 12).testBit t) := Nat.testBit_or _ _ _
      have hlr : -600 ≤ mleft s n i ∧ mleft s n i ≤ 200 := by unfold mleft; omega
      generalize mleft s n i = left at *
      (refine zW.go (zC_om _) (fun K hK => ?_); conv => whnf)
      (refine And.intro (by first | omega | assumption | rfl | exact zin_and | exact ⟨zin_and, by omega⟩ | exact ⟨by omega, zin_and⟩ | exact Nat.le_of_ble_eq_true rfl | exact ⟨Nat.le_of_ble_eq_true rfl, rfl⟩ | exact ⟨Nat.le_of_ble_eq_true rfl, by assumption⟩ | exact ⟨by omega, Nat.le_of_ble_eq_true rfl⟩ | exact ⟨⟨by assumption, by omega⟩, Nat.le_of_ble_eq_true rfl⟩ | decide) ?_; conv => whnf)
      (refine And.intro (by first | omega | assumption | rfl | exact zin_and | exact ⟨zin_and, by omega⟩ | exact ⟨by omega, zin_and⟩ | exact Nat.le_of_ble_eq_true rfl | exact ⟨Nat.le_of_ble_eq_true rfl, rfl⟩ | exact ⟨Nat.le_of_ble_eq_true rfl, by assumption⟩ | exact ⟨by omega, Nat.le_of_ble_eq_true rfl⟩ | exact ⟨⟨by assumption, by omega⟩, Nat.le_of_ble_eq_true rfl⟩ | decide) ?_; conv => whnf)
      (refine And.intro (fun h => by omega) (fun h => ?_); conv => whnf)
      (refine And.intro (by first | omega | assumption | rfl | exact zin_and | exact ⟨zin_and, by omega⟩ | exact ⟨by omega, zin_and⟩ | exact Nat.le_of_ble_eq_true rfl | exact ⟨Nat.le_of_ble_eq_true rfl, rfl⟩ | exact ⟨Nat.le_of_ble_eq_true rfl, by assumption⟩ | exact ⟨by omega, Nat.le_of_ble_eq_true rfl⟩ | exact ⟨⟨by assumption, by omega⟩, Nat.le_of_ble_eq_true rfl⟩ | decide) ?_; conv => whnf)
      (refine s_has (by omega) (by omega) ?_; conv => whnf)
      by_cases hb : ((i ||| o) ||| brd s i 12).testBit t = true
      · have hc : mfc s n i o t = false := by
          rw [e1]
          rw [hbo, Bool.or_eq_true] at hb
          rcases hb with hb | hb
          · simp [hb]
          · have := hbs.mp hb
            simp [this]
        rw [hc, if_neg (by decide), Nat.or_zero] at hi
        rw [if_pos hb]
        (refine And.intro (by first | omega | assumption | rfl | exact zin_and | exact ⟨zin_and, by omega⟩ | exact ⟨by omega, zin_and⟩ | exact Nat.le_of_ble_eq_true rfl | exact ⟨Nat.le_of_ble_eq_true rfl, rfl⟩ | exact ⟨Nat.le_of_ble_eq_true rfl, by assumption⟩ | exact ⟨by omega, Nat.le_of_ble_eq_true rfl⟩ | exact ⟨⟨by assumption, by omega⟩, Nat.le_of_ble_eq_true rfl⟩ | decide) ?_; conv => whnf)
        (refine And.intro (fun h => ?_) (fun h => by omega); conv => whnf)
        (refine hK _ _ _ _ (zW.go (zC_om _) (fun K hK => ?_)); conv => whnf)
        exact hK _ _ _ _ hi
      · have hb1 : (i ||| o).testBit t = false := by
          cases h : (i ||| o).testBit t with
          | false => rfl
          | true => exact absurd (by rw [hbo, h]; rfl) hb
        have hb2 : mb s t &&& i = 0 := by
          refine Classical.byContradiction (fun q => hb ?_)
          rw [hbo, hbs.mpr q, Bool.or_true]
        rw [if_neg hb]
        (refine And.intro (by first | omega | assumption | rfl | exact zin_and | exact ⟨zin_and, by omega⟩ | exact ⟨by omega, zin_and⟩ | exact Nat.le_of_ble_eq_true rfl | exact ⟨Nat.le_of_ble_eq_true rfl, rfl⟩ | exact ⟨Nat.le_of_ble_eq_true rfl, by assumption⟩ | exact ⟨by omega, Nat.le_of_ble_eq_true rfl⟩ | exact ⟨⟨by assumption, by omega⟩, Nat.le_of_ble_eq_true rfl⟩ | decide) ?_; conv => whnf)
        (refine And.intro (fun h => by omega) (fun h => ?_); conv => whnf)
        (refine And.intro (by first | omega | assumption | rfl | exact zin_and | exact ⟨zin_and, by omega⟩ | exact ⟨by omega, zin_and⟩ | exact Nat.le_of_ble_eq_true rfl | exact ⟨Nat.le_of_ble_eq_true rfl, rfl⟩ | exact ⟨Nat.le_of_ble_eq_true rfl, by assumption⟩ | exact ⟨by omega, Nat.le_of_ble_eq_true rfl⟩ | exact ⟨⟨by assumption, by omega⟩, Nat.le_of_ble_eq_true rfl⟩ | decide) ?_; conv => whnf)
        (refine And.intro (by first | omega | assumption | rfl | exact zin_and | exact ⟨zin_and, by omega⟩ | exact ⟨by omega, zin_and⟩ | exact Nat.le_of_ble_eq_true rfl | exact ⟨Nat.le_of_ble_eq_true rfl, rfl⟩ | exact ⟨Nat.le_of_ble_eq_true rfl, by assumption⟩ | exact ⟨by omega, Nat.le_of_ble_eq_true rfl⟩ | exact ⟨⟨by assumption, by omega⟩, Nat.le_of_ble_eq_true rfl⟩ | decide) ?_; conv => whnf)
        (refine c_at hk2 (by omega) hv ?_; conv => whnf)
        (refine And.intro (by first | omega | assumption | rfl | exact zin_and | exact ⟨zin_and, by omega⟩ | exact ⟨by omega, zin_and⟩ | exact Nat.le_of_ble_eq_true rfl | exact ⟨Nat.le_of_ble_eq_true rfl, rfl⟩ | exact ⟨Nat.le_of_ble_eq_true rfl, by assumption⟩ | exact ⟨by omega, Nat.le_of_ble_eq_true rfl⟩ | exact ⟨⟨by assumption, by omega⟩, Nat.le_of_ble_eq_true rfl⟩ | decide) ?_; conv => whnf)
        by_cases hw : s (21 + t) ≤ left
        · have hc : mfc s n i o t = true := by rw [e1]; simp [hb1, hb2, hw]
          rw [hc, if_pos rfl] at hi
          (refine And.intro (fun h => by omega) (fun h => ?_); conv => whnf)
          rw [zone_shl (by omega), zor_nat (by omega) (by omega)]
          exact hK _ _ _ _ hi
        · have hc : mfc s n i o t = false := by rw [e1]; simp [hw]
          rw [hc, if_neg (by decide), Nat.or_zero] at hi
          (refine And.intro (fun h => ?_) (fun h => by omega); conv => whnf)
          (refine hK _ _ _ _ (zW.go (zC_om _) (fun K hK => ?_)); conv => whnf)
          exact hK _ _ _ _ hi
  (refine zW.upto (zC_om _) 20 (fun K hK => ?_); conv => whnf)
  (refine And.intro (by first | omega | assumption | rfl | exact zin_and | exact ⟨zin_and, by omega⟩ | exact ⟨by omega, zin_and⟩ | exact Nat.le_of_ble_eq_true rfl | exact ⟨Nat.le_of_ble_eq_true rfl, rfl⟩ | exact ⟨Nat.le_of_ble_eq_true rfl, by assumption⟩ | exact ⟨by omega, Nat.le_of_ble_eq_true rfl⟩ | exact ⟨⟨by assumption, by omega⟩, Nat.le_of_ble_eq_true rfl⟩ | decide) ?_; conv => whnf)
  (refine And.intro (by first | omega | assumption | rfl | exact zin_and | exact ⟨zin_and, by omega⟩ | exact ⟨by omega, zin_and⟩ | exact Nat.le_of_ble_eq_true rfl | exact ⟨Nat.le_of_ble_eq_true rfl, rfl⟩ | exact ⟨Nat.le_of_ble_eq_true rfl, by assumption⟩ | exact ⟨by omega, Nat.le_of_ble_eq_true rfl⟩ | exact ⟨⟨by assumption, by omega⟩, Nat.le_of_ble_eq_true rfl⟩ | decide) ?_; conv => whnf)
  (refine And.intro (by first | omega | assumption | rfl | exact zin_and | exact ⟨zin_and, by omega⟩ | exact ⟨by omega, zin_and⟩ | exact Nat.le_of_ble_eq_true rfl | exact ⟨Nat.le_of_ble_eq_true rfl, rfl⟩ | exact ⟨Nat.le_of_ble_eq_true rfl, by assumption⟩ | exact ⟨by omega, Nat.le_of_ble_eq_true rfl⟩ | exact ⟨⟨by assumption, by omega⟩, Nat.le_of_ble_eq_true rfl⟩ | decide) ?_; conv => whnf)
  (refine c_sumV hk hr hn12 hi2 ?_; conv => whnf)
  rw [hr.2.1]
  (refine And.intro (by first | omega | assumption | rfl | exact zin_and | exact ⟨zin_and, by omega⟩ | exact ⟨by omega, zin_and⟩ | exact Nat.le_of_ble_eq_true rfl | exact ⟨Nat.le_of_ble_eq_true rfl, rfl⟩ | exact ⟨Nat.le_of_ble_eq_true rfl, by assumption⟩ | exact ⟨by omega, Nat.le_of_ble_eq_true rfl⟩ | exact ⟨⟨by assumption, by omega⟩, Nat.le_of_ble_eq_true rfl⟩ | decide) ?_; conv => whnf)
  (refine c_barredBy hk hr hok hsym hi2 ?_; conv => whnf)
  rw [zor_nat (by omega) (by omega), zor_nat (by omega) (by omega)]
  exact hK _ _ _ _ loop
end CP
