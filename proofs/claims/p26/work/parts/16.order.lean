/-! counting, and the order of the bound: things by worth by weight, on a row of numbers (0 how many, 9.. worths, 21.. weights, 33.. bars) -/
def zcnt : Nat → (Nat → Bool) → Nat
  | 0, _ => 0
  | n + 1, p => zcnt n p + if p n then 1 else 0
theorem zcnt_le : ∀ (n : Nat) (p : Nat → Bool), zcnt n p ≤ n
  | 0, _ => Nat.le_refl _
  | n + 1, p => by
    have h := zcnt_le n p
    show zcnt n p + _ ≤ _
    split <;> omega
theorem zcnt_mono : ∀ (n : Nat) (p q : Nat → Bool), (∀ k, k < n → p k = true → q k = true) → zcnt n p ≤ zcnt n q
  | 0, _, _, _ => Nat.le_refl _
  | n + 1, p, q, h => by
    have h1 := zcnt_mono n p q (fun k hk => h k (by omega))
    have h2 := h n (by omega)
    show zcnt n p + _ ≤ zcnt n q + _
    by_cases hp : p n = true
    · rw [if_pos hp, if_pos (h2 hp)]; omega
    · rw [if_neg hp]; omega
theorem zcnt_lt : ∀ (n : Nat) (p q : Nat → Bool), (∀ k, k < n → p k = true → q k = true) → ∀ j, j < n → p j = false → q j = true → zcnt n p < zcnt n q
  | 0, _, _, _, j, hj, _, _ => absurd hj (by omega)
  | n + 1, p, q, h, j, hj, h1, h2 => by
    show zcnt n p + _ < zcnt n q + _
    by_cases he : j = n
    · subst he
      have h3 := zcnt_mono j p q (fun k hk => h k (by omega))
      rw [if_neg (by rw [h1]; decide), if_pos h2]
      omega
    · have h3 := zcnt_lt n p q (fun k hk => h k (by omega)) j (by omega) h1 h2
      have h4 := h n (by omega)
      by_cases hp : p n = true
      · rw [if_pos hp, if_pos (h4 hp)]; omega
      · rw [if_neg hp]; omega
theorem zcnt_congr : ∀ (n : Nat) (p q : Nat → Bool), (∀ k, k < n → p k = q k) → zcnt n p = zcnt n q
  | 0, _, _, _ => rfl
  | n + 1, p, q, h => by
    show zcnt n p + _ = zcnt n q + _
    rw [zcnt_congr n p q (fun k hk => h k (by omega)), h n (by omega)]
theorem zcnt_all : ∀ (n : Nat), zcnt n (fun _ => true) = n
  | 0 => rfl
  | n + 1 => by
    show zcnt n _ + 1 = _
    rw [zcnt_all n]
/-- a map of n places into themselves that takes none twice takes each -/
theorem zpig : ∀ (n : Nat) (f : Nat → Nat), (∀ i, i < n → f i < n) → (∀ i j, i < n → j < n → f i = f j → i = j) → ∀ k, k < n → ∃ i, i < n ∧ f i = k
  | 0, _, _, _, k, hk => absurd hk (by omega)
  | n + 1, f, hf, hi, k, hk => by
    -- the map with n taken out
    let h : Nat → Nat := fun i => if f i = n then f n else f i
    by_cases hn : f n = k
    · exact ⟨n, by omega, hn⟩
    · have hh : ∀ i, i < n → h i < n := by
        intro i hin
        show (if f i = n then f n else f i) < n
        have h1 := hf i (by omega)
        have h2 := hf n (by omega)
        by_cases hz : f i = n
        · rw [if_pos hz]
          have : f n ≠ f i := fun q => by have := hi n i (by omega) (by omega) q; omega
          omega
        · rw [if_neg hz]; omega
      have hinj : ∀ i j, i < n → j < n → h i = h j → i = j := by
        intro i j hin hjn hij
        have hij : (if f i = n then f n else f i) = (if f j = n then f n else f j) := hij
        by_cases h1 : f i = n <;> by_cases h2 : f j = n
        · exact hi i j (by omega) (by omega) (by omega)
        · rw [if_pos h1, if_neg h2] at hij
          have := hi n j (by omega) (by omega) hij
          omega
        · rw [if_neg h1, if_pos h2] at hij
          have := hi i n (by omega) (by omega) hij
          omega
        · rw [if_neg h1, if_neg h2] at hij
          exact hi i j (by omega) (by omega) hij
      by_cases hkn : k = n
      · -- someone else than n goes to n: else f maps n + 1 places into n
        subst hkn
        have h2 : f k < k := by
          have := hf k (by omega)
          omega
        obtain ⟨i, h3, h4⟩ := zpig k h hh hinj (f k) h2
        have h4 : (if f i = k then f k else f i) = f k := h4
        by_cases hz : f i = k
        · exact ⟨i, by omega, hz⟩
        · rw [if_neg hz] at h4
          have := hi i k (by omega) (by omega) h4
          omega
      · obtain ⟨i, h3, h4⟩ := zpig n h hh hinj k (by omega)
        have h4 : (if f i = n then f n else f i) = k := h4
        by_cases hz : f i = n
        · rw [if_pos hz] at h4
          exact absurd h4 hn
        · rw [if_neg hz] at h4
          exact ⟨i, by omega, h4⟩
def zfind : Nat → (Nat → Bool) → Nat
  | 0, _ => 0
  | n + 1, p => if p n then n else zfind n p
theorem zfind_spec : ∀ (n : Nat) (p : Nat → Bool), (∃ t, t < n ∧ p t = true) → zfind n p < n ∧ p (zfind n p) = true
  | 0, _, h => by obtain ⟨t, h1, -⟩ := h; omega
  | n + 1, p, h => by
    show (if p n then n else zfind n p) < n + 1 ∧ p (if p n then n else zfind n p) = true
    by_cases hp : p n = true
    · rw [if_pos hp]; exact ⟨by omega, hp⟩
    · rw [if_neg hp]
      obtain ⟨t, h1, h2⟩ := h
      have ht : t ≠ n := fun q => hp (q ▸ h2)
      obtain ⟨h3, h4⟩ := zfind_spec n p ⟨t, by omega, h2⟩
      exact ⟨by omega, h4⟩
abbrev zS : Type := Int → Int
/-- k goes ahead of t -/
def mah (s : zS) (k t : Nat) : Bool := decide (s (9 + t) * s (21 + k) < s (9 + k) * s (21 + t)) || (decide (s (9 + k) * s (21 + t) = s (9 + t) * s (21 + k)) && decide (k < t))
theorem mah_iff {s : zS} {k t : Nat} : mah s k t = true ↔ s (9 + t) * s (21 + k) < s (9 + k) * s (21 + t) ∨ (s (9 + k) * s (21 + t) = s (9 + t) * s (21 + k) ∧ k < t) := by
  simp [mah]
def mpl (s : zS) (n t : Nat) : Nat := zcnt n (fun k => mah s k t)
/-- worths and weights of the first n are numbers from 1 on -/
def mpos (s : zS) (n : Nat) : Prop := ∀ t : Nat, t < n → 1 ≤ s (9 + t) ∧ 1 ≤ s (21 + t)
theorem mah_irr {s : zS} {t : Nat} : mah s t t = false := by
  cases h : mah s t t with
  | false => rfl
  | true =>
    rcases mah_iff.mp h with h | h <;> omega
theorem mah_tot {s : zS} {k t : Nat} (h : k ≠ t) : mah s k t = true ∨ mah s t k = true := by
  rw [mah_iff, mah_iff]
  rcases Int.lt_trichotomy (s (9 + t) * s (21 + k)) (s (9 + k) * s (21 + t)) with h1 | h1 | h1
  · exact Or.inl (Or.inl h1)
  · rcases Nat.lt_or_gt_of_ne h with h2 | h2
    · exact Or.inl (Or.inr ⟨h1.symm, h2⟩)
    · exact Or.inr (Or.inr ⟨h1, h2⟩)
  · exact Or.inr (Or.inl h1)
theorem mah_trans {s : zS} {n a b c : Nat} (hp : mpos s n) (ha : a < n) (hb : b < n) (hc : c < n) (h1 : mah s a b = true) (h2 : mah s b c = true) : mah s a c = true := by
  obtain ⟨wa, va⟩ := hp a ha
  obtain ⟨wb, vb⟩ := hp b hb
  obtain ⟨wc, vc⟩ := hp c hc
  rw [mah_iff] at h1 h2 ⊢
  generalize s (9 + a) = wA at *
  generalize s (9 + b) = wB at *
  generalize s (9 + c) = wC at *
  generalize s (21 + a) = vA at *
  generalize s (21 + b) = vB at *
  generalize s (21 + c) = vC at *
  have l1 : wB * vA ≤ wA * vB := by rcases h1 with h | h <;> omega
  have l2 : wC * vB ≤ wB * vC := by rcases h2 with h | h <;> omega
  have m1 : wB * vA * vC ≤ wA * vB * vC := Int.mul_le_mul_of_nonneg_right l1 (by omega)
  have m2 : wC * vB * vA ≤ wB * vC * vA := Int.mul_le_mul_of_nonneg_right l2 (by omega)
  have e1 : wB * vA * vC = wB * vC * vA := by rw [Int.mul_assoc, Int.mul_comm vA vC, ← Int.mul_assoc]
  have e2 : wC * vB * vA = wC * vA * vB := by rw [Int.mul_assoc, Int.mul_comm vB vA, ← Int.mul_assoc]
  have e3 : wA * vB * vC = wA * vC * vB := by rw [Int.mul_assoc, Int.mul_comm vB vC, ← Int.mul_assoc]
  by_cases hs : wB * vA < wA * vB ∨ wC * vB < wB * vC
  · left
    have m3 : wC * vA * vB < wA * vC * vB := by
      rcases hs with h | h
      · have : wB * vA * vC < wA * vB * vC := Int.mul_lt_mul_of_pos_right h (by omega)
        omega
      · have : wC * vB * vA < wB * vC * vA := Int.mul_lt_mul_of_pos_right h (by omega)
        omega
    exact Int.lt_of_mul_lt_mul_right m3 (by omega)
  · right
    have h3 : wA * vB = wB * vA ∧ a < b := by rcases h1 with h | h <;> omega
    have h4 : wB * vC = wC * vB ∧ b < c := by rcases h2 with h | h <;> omega
    refine ⟨?_, by omega⟩
    have m4 : wA * vB * vC = wB * vA * vC := by rw [h3.1]
    have m5 : wB * vC * vA = wC * vB * vA := by rw [h4.1]
    have m6 : wA * vC * vB = wC * vA * vB := by omega
    exact Int.eq_of_mul_eq_mul_right (by omega) m6
theorem mpl_lt {s : zS} {n t : Nat} (ht : t < n) : mpl s n t < n := by
  have h := zcnt_lt n (fun k => mah s k t) (fun _ => true) (fun _ _ _ => rfl) t ht mah_irr rfl
  rw [zcnt_all] at h
  exact h
theorem mpl_mono {s : zS} {n t u : Nat} (hp : mpos s n) (ht : t < n) (hu : u < n) (h : mah s t u = true) : mpl s n t < mpl s n u :=
  zcnt_lt n _ _ (fun k hk q => mah_trans hp hk ht hu q h) t ht mah_irr h
theorem mpl_inj {s : zS} {n t u : Nat} (hp : mpos s n) (ht : t < n) (hu : u < n) (h : mpl s n t = mpl s n u) : t = u := by
  by_cases he : t = u
  · exact he
  · rcases mah_tot (s := s) he with q | q
    · have := mpl_mono hp ht hu q; omega
    · have := mpl_mono hp hu ht q; omega
/-- the thing at a place of the order -/
def mor (s : zS) (n k : Nat) : Nat := zfind n (fun t => mpl s n t == k)
theorem mor_spec {s : zS} {n k : Nat} (hp : mpos s n) (hk : k < n) : mor s n k < n ∧ mpl s n (mor s n k) = k := by
  obtain ⟨i, h1, h2⟩ := zpig n (mpl s n) (fun i hi => mpl_lt hi) (fun i j hi hj h => mpl_inj hp hi hj h) k hk
  have := zfind_spec n (fun t => mpl s n t == k) ⟨i, h1, by simpa using h2⟩
  exact ⟨this.1, beq_iff_eq.mp this.2⟩
theorem mor_pl {s : zS} {n t : Nat} (hp : mpos s n) (ht : t < n) : mor s n (mpl s n t) = t := by
  obtain ⟨h1, h2⟩ := mor_spec hp (mpl_lt (s := s) ht)
  exact mpl_inj hp h1 ht h2
theorem mor_inj {s : zS} {n j k : Nat} (hp : mpos s n) (hj : j < n) (hk : k < n) (h : mor s n j = mor s n k) : j = k := by
  rw [← (mor_spec hp hj).2, ← (mor_spec hp hk).2, h]
