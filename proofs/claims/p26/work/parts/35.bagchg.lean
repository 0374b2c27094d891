/-! the class's bag changes -/
/-- the bar between two things turned -/
def mxb (s : zS) (t u : Nat) : zS := ru (ru s (33 + t) (mb s t ^^^ 2 ^ u : Nat)) (33 + u) (mb s u ^^^ 2 ^ t : Nat)
def madd (s : zS) (n : Nat) (w v : Int) : zS := ru (ru (ru (ru s (9 + n) w) (21 + n) v) (33 + n) 0) 0 (n + 1)
def mabs (s : zS) (n b : Nat) : Nat → zS
  | 0 => s
  | j + 1 => if b.testBit j then mxb (mabs s n b j) n j else mabs s n b j
abbrev mab (s : zS) (n : Nat) (w v : Int) (b : Nat) : zS := mabs (madd s n w v) n b n
theorem mxb_old {s : zS} {t u : Nat} {j : Int} (h : j ≠ 33 + t ∧ j ≠ 33 + u) : mxb s t u j = s j := by
  unfold mxb
  rw [ru_n h.2, ru_n h.1]
theorem mxb_u {s : zS} {t u : Nat} : mxb s t u (33 + u) = (mb s u ^^^ 2 ^ t : Nat) := ru_s
theorem mxb_t {s : zS} {t u : Nat} (h : t ≠ u) : mxb s t u (33 + t) = (mb s t ^^^ 2 ^ u : Nat) := by
  unfold mxb
  rw [ru_n (by omega), ru_s]
theorem mxb_b {s : zS} {t u x : Nat} (h : t ≠ u) : mb (mxb s t u) x = if x = t then mb s t ^^^ 2 ^ u else if x = u then mb s u ^^^ 2 ^ t else mb s x := by
  by_cases h1 : x = t
  · subst h1
    rw [if_pos rfl]
    show (mxb s x u (33 + x)).toNat = _
    rw [mxb_t h]
    rfl
  · rw [if_neg h1]
    by_cases h2 : x = u
    · subst h2
      rw [if_pos rfl]
      show (mxb s t x (33 + x)).toNat = _
      rw [mxb_u]
      rfl
    · rw [if_neg h2]
      show (mxb s t u (33 + x)).toNat = _
      rw [mxb_old (by omega)]
      rfl
theorem mxb_ok {s : zS} {n t u : Nat} (hok : mok s n) (ht : t < n) (hu : u < n) (h : t ≠ u) : mok (mxb s t u) n := by
  have hn := hok.2.1
  obtain ⟨h1, h2, h3, h4⟩ := id hok
  have p : ∀ x, x < n → 2 ^ x < 2 ^ 12 := fun x hx => Nat.pow_lt_pow_right (by decide) (by omega)
  refine ⟨by rw [mxb_old (by omega)]; exact h1, h2, by rw [mxb_old (by omega)]; exact h3, fun x hx => ?_⟩
  rw [mxb_old (by omega), mxb_old (by omega)]
  obtain ⟨a1, a2, a3⟩ := h4 x hx
  refine ⟨a1, a2, ?_⟩
  by_cases c1 : x = t
  · subst c1
    rw [mxb_t h]
    have : mb s x ^^^ 2 ^ u < 2 ^ 12 := Nat.xor_lt_two_pow (mb_lt hok hx) (p u hu)
    omega
  · by_cases c2 : x = u
    · subst c2
      rw [mxb_u]
      have : mb s x ^^^ 2 ^ t < 2 ^ 12 := Nat.xor_lt_two_pow (mb_lt hok hx) (p t ht)
      omega
    · rw [mxb_old (by omega)]
      exact a3
theorem madd_old {s : zS} {n : Nat} {w v j : Int} (h : j ≠ 0 ∧ j ≠ 9 + n ∧ j ≠ 21 + n ∧ j ≠ 33 + n) : madd s n w v j = s j := by
  unfold madd
  rw [ru_n (by omega), ru_n (by omega), ru_n (by omega), ru_n (by omega)]
theorem madd_9 {s : zS} {n : Nat} {w v : Int} (hn : n < 12) : madd s n w v (9 + n) = w := by
  unfold madd
  rw [ru_n (by omega), ru_n (by omega), ru_n (by omega), ru_s]
theorem madd_21 {s : zS} {n : Nat} {w v : Int} (hn : n < 12) : madd s n w v (21 + n) = v := by
  unfold madd
  rw [ru_n (by omega), ru_n (by omega), ru_s]
theorem madd_33 {s : zS} {n : Nat} {w v : Int} : madd s n w v (33 + n) = 0 := by
  unfold madd
  rw [ru_n (by omega), ru_s]
theorem madd_ok {s : zS} {n : Nat} {w v : Int} (hok : mok s n) (hn : n < 12) (hw : 1 ≤ w ∧ w ≤ 99) (hv : 1 ≤ v ∧ v ≤ 50) : mok (madd s n w v) (n + 1) := by
  obtain ⟨h1, h2, h3, h4⟩ := id hok
  refine ⟨ru_s, by omega, by rw [madd_old (by omega)]; exact h3, fun x hx => ?_⟩
  by_cases c : x = n
  · subst c
    rw [madd_9 hn, madd_21 hn, madd_33]
    exact ⟨hw, hv, by omega⟩
  · rw [madd_old (by omega), madd_old (by omega), madd_old (by omega)]
    exact h4 x (by omega)
theorem mabs_ok {s : zS} {n b : Nat} (hok : mok s (n + 1)) : ∀ j, j ≤ n → mok (mabs s n b j) (n + 1)
  | 0, _ => hok
  | j + 1, h => by
    have ih := mabs_ok (b := b) hok j (by omega)
    rw [mabs]
    split
    · exact mxb_ok ih (by omega) (by omega) (by omega)
    · exact ih
theorem RelU.put1 {g : zM} {k n t : Nat} {s : zS} {v : Int} (hr : RelU g k s n) (hn : n ≤ 12) (ht : t < 12) : RelU (zup g (k + 1) t v) k (ru s (9 + t) v) n := by
  obtain ⟨h1, h2, h3⟩ := hr
  refine ⟨by rw [zup_ne (by omega)]; exact h1, by rw [zup_ne (by omega), ru_n (by omega)]; exact h2, fun x hx => ?_⟩
  obtain ⟨a1, a2, a3⟩ := h3 x hx
  rw [zup_k (show k + 2 ≠ k + 1 by omega), zup_k (show k + 3 ≠ k + 1 by omega), ru_n (show (21 + x : Int) ≠ 9 + t by omega), ru_n (show (33 + x : Int) ≠ 9 + t by omega)]
  refine ⟨?_, a2, a3⟩
  by_cases c : x = t
  · subst c; rw [zup_s, ru_s]
  · rw [zup_i (by omega), ru_n (by omega)]; exact a1
theorem RelU.put2 {g : zM} {k n t : Nat} {s : zS} {v : Int} (hr : RelU g k s n) (hn : n ≤ 12) (ht : t < 12) : RelU (zup g (k + 2) t v) k (ru s (21 + t) v) n := by
  obtain ⟨h1, h2, h3⟩ := hr
  refine ⟨by rw [zup_ne (by omega)]; exact h1, by rw [zup_ne (by omega), ru_n (by omega)]; exact h2, fun x hx => ?_⟩
  obtain ⟨a1, a2, a3⟩ := h3 x hx
  rw [zup_k (show k + 1 ≠ k + 2 by omega), zup_k (show k + 3 ≠ k + 2 by omega), ru_n (show (9 + x : Int) ≠ 21 + t by omega), ru_n (show (33 + x : Int) ≠ 21 + t by omega)]
  refine ⟨a1, ?_, a3⟩
  by_cases c : x = t
  · subst c; rw [zup_s, ru_s]
  · rw [zup_i (by omega), ru_n (by omega)]; exact a2
theorem RelU.put3 {g : zM} {k n t : Nat} {s : zS} {v : Int} (hr : RelU g k s n) (hn : n ≤ 12) (ht : t < 12) : RelU (zup g (k + 3) t v) k (ru s (33 + t) v) n := by
  obtain ⟨h1, h2, h3⟩ := hr
  refine ⟨by rw [zup_ne (by omega)]; exact h1, by rw [zup_ne (by omega), ru_n (by omega)]; exact h2, fun x hx => ?_⟩
  obtain ⟨a1, a2, a3⟩ := h3 x hx
  rw [zup_k (show k + 1 ≠ k + 3 by omega), zup_k (show k + 2 ≠ k + 3 by omega), ru_n (show (9 + x : Int) ≠ 33 + t by omega), ru_n (show (21 + x : Int) ≠ 33 + t by omega)]
  refine ⟨a1, a2, ?_⟩
  by_cases c : x = t
  · subst c; rw [zup_s, ru_s]
  · rw [zup_i (by omega), ru_n (by omega)]; exact a3
section CB2
variable {g : zM} {k n : Nat} {s : zS} {d : Nat} {Q : zP}
theorem c_turnBar (hk : zKB k) (hr : RelU g k s n) (hok : mok s n) {t u : Nat} (ht : t < n) (hu : u < n) (htu : t ≠ u) (hQ : ∀ g' : zM, (∀ j, j ≠ k + 3 → g' j = g j) → RelU g' k (mxb s t u) n → Q none g') : zC (d + 2) 4 [zR k, zI t, zI u] g Q := by
  obtain ⟨hk0, hk1, hk2, hk3, hk4⟩ := id hk
  have hn := hok.2.1
  have bt := mb_lt hok ht
  have bu := mb_lt hok hu
  have p : ∀ x, x < n → 2 ^ x < 2 ^ 12 := fun x hx => Nat.pow_lt_pow_right (by decide) (by omega)
  have pt := p t ht
  have pu := p u hu
  have a3 : g (k + 3) t = (mb s t : Int) := by rw [(hr.2.2 t ht).2.2, mb_eq hok ht]
  have b3 : g (k + 3) u = (mb s u : Int) := by rw [(hr.2.2 u hu).2.2, mb_eq hok hu]
  have b3' : (zup g (k + 3) t (mb s t ^^^ 2 ^ u : Nat)) (k + 3) u = (mb s u : Int) := by rw [zup_i (by omega)]; exact b3
  refine zC.go zm_X0_turnBar ⟨rfl, rfl⟩ rfl ?_
  (refine zW.go (zC_om _) (fun K hK => ?_); conv => whnf)
  (refine And.intro (by first | omega | assumption | rfl | exact zin_and | exact ⟨zin_and, by omega⟩ | exact ⟨by omega, zin_and⟩ | exact Nat.le_of_ble_eq_true rfl | exact ⟨Nat.le_of_ble_eq_true rfl, rfl⟩ | exact ⟨Nat.le_of_ble_eq_true rfl, by assumption⟩ | exact ⟨by omega, Nat.le_of_ble_eq_true rfl⟩ | exact ⟨⟨by assumption, by omega⟩, Nat.le_of_ble_eq_true rfl⟩ | decide) ?_; conv => whnf)
  (refine And.intro (by first | omega | assumption | rfl | exact zin_and | exact ⟨zin_and, by omega⟩ | exact ⟨by omega, zin_and⟩ | exact Nat.le_of_ble_eq_true rfl | exact ⟨Nat.le_of_ble_eq_true rfl, rfl⟩ | exact ⟨Nat.le_of_ble_eq_true rfl, by assumption⟩ | exact ⟨by omega, Nat.le_of_ble_eq_true rfl⟩ | exact ⟨⟨by assumption, by omega⟩, Nat.le_of_ble_eq_true rfl⟩ | decide) ?_; conv => whnf)
  (refine And.intro (by first | omega | assumption | rfl | exact zin_and | exact ⟨zin_and, by omega⟩ | exact ⟨by omega, zin_and⟩ | exact Nat.le_of_ble_eq_true rfl | exact ⟨Nat.le_of_ble_eq_true rfl, rfl⟩ | exact ⟨Nat.le_of_ble_eq_true rfl, by assumption⟩ | exact ⟨by omega, Nat.le_of_ble_eq_true rfl⟩ | exact ⟨⟨by assumption, by omega⟩, Nat.le_of_ble_eq_true rfl⟩ | decide) ?_; conv => whnf)
  (refine c_at hk3 (by omega) a3 ?_; conv => whnf)
  rw [zone_shl (by omega), zxor_nat (by omega) (by omega)]
  (refine And.intro (by first | omega | assumption | rfl | exact zin_and | exact ⟨zin_and, by omega⟩ | exact ⟨by omega, zin_and⟩ | exact Nat.le_of_ble_eq_true rfl | exact ⟨Nat.le_of_ble_eq_true rfl, rfl⟩ | exact ⟨Nat.le_of_ble_eq_true rfl, by assumption⟩ | exact ⟨by omega, Nat.le_of_ble_eq_true rfl⟩ | exact ⟨⟨by assumption, by omega⟩, Nat.le_of_ble_eq_true rfl⟩ | decide) ?_; conv => whnf)
  (refine s_put hk3 (by omega) (by omega) (by omega) ?_; conv => whnf)
  (refine And.intro (by first | omega | assumption | rfl | exact zin_and | exact ⟨zin_and, by omega⟩ | exact ⟨by omega, zin_and⟩ | exact Nat.le_of_ble_eq_true rfl | exact ⟨Nat.le_of_ble_eq_true rfl, rfl⟩ | exact ⟨Nat.le_of_ble_eq_true rfl, by assumption⟩ | exact ⟨by omega, Nat.le_of_ble_eq_true rfl⟩ | exact ⟨⟨by assumption, by omega⟩, Nat.le_of_ble_eq_true rfl⟩ | decide) ?_; conv => whnf)
  (refine And.intro (by first | omega | assumption | rfl | exact zin_and | exact ⟨zin_and, by omega⟩ | exact ⟨by omega, zin_and⟩ | exact Nat.le_of_ble_eq_true rfl | exact ⟨Nat.le_of_ble_eq_true rfl, rfl⟩ | exact ⟨Nat.le_of_ble_eq_true rfl, by assumption⟩ | exact ⟨by omega, Nat.le_of_ble_eq_true rfl⟩ | exact ⟨⟨by assumption, by omega⟩, Nat.le_of_ble_eq_true rfl⟩ | decide) ?_; conv => whnf)
  (refine And.intro (by first | omega | assumption | rfl | exact zin_and | exact ⟨zin_and, by omega⟩ | exact ⟨by omega, zin_and⟩ | exact Nat.le_of_ble_eq_true rfl | exact ⟨Nat.le_of_ble_eq_true rfl, rfl⟩ | exact ⟨Nat.le_of_ble_eq_true rfl, by assumption⟩ | exact ⟨by omega, Nat.le_of_ble_eq_true rfl⟩ | exact ⟨⟨by assumption, by omega⟩, Nat.le_of_ble_eq_true rfl⟩ | decide) ?_; conv => whnf)
  (refine c_at hk3 (by omega) b3' ?_; conv => whnf)
  rw [zone_shl (by omega), zxor_nat (by omega) (by omega)]
  (refine And.intro (by first | omega | assumption | rfl | exact zin_and | exact ⟨zin_and, by omega⟩ | exact ⟨by omega, zin_and⟩ | exact Nat.le_of_ble_eq_true rfl | exact ⟨Nat.le_of_ble_eq_true rfl, rfl⟩ | exact ⟨Nat.le_of_ble_eq_true rfl, by assumption⟩ | exact ⟨by omega, Nat.le_of_ble_eq_true rfl⟩ | exact ⟨⟨by assumption, by omega⟩, Nat.le_of_ble_eq_true rfl⟩ | decide) ?_; conv => whnf)
  (refine s_put hk3 (by omega) (by omega) (by omega) ?_; conv => whnf)
  (refine And.intro (by first | omega | assumption | rfl | exact zin_and | exact ⟨zin_and, by omega⟩ | exact ⟨by omega, zin_and⟩ | exact Nat.le_of_ble_eq_true rfl | exact ⟨Nat.le_of_ble_eq_true rfl, rfl⟩ | exact ⟨Nat.le_of_ble_eq_true rfl, by assumption⟩ | exact ⟨by omega, Nat.le_of_ble_eq_true rfl⟩ | exact ⟨⟨by assumption, by omega⟩, Nat.le_of_ble_eq_true rfl⟩ | decide) ?_; conv => whnf)
  refine hQ _ (fun j hj => by rw [zup_ne hj, zup_ne hj]) ?_
  exact (hr.put3 hn (by omega)).put3 hn (by omega)
theorem RelU.add {w v : Int} (hr : RelU g k s n) (hn : n < 12) : RelU (zup (zup (zup (zup g k (4 : Nat) (n + 1)) (k + 1) n w) (k + 2) n v) (k + 3) n 0) k (madd s n w v) (n + 1) := by
  obtain ⟨h1, h2, h3⟩ := hr
  refine ⟨?_, ?_, fun x hx => ?_⟩
  · rw [zup_ne (by omega), zup_ne (by omega), zup_ne (by omega), zup_s]; rfl
  · rw [zup_ne (by omega), zup_ne (by omega), zup_ne (by omega), zup_i (by decide), madd_old (by omega)]; exact h2
  · rw [zup_k (show k + 1 ≠ k + 3 by omega), zup_k (show k + 1 ≠ k + 2 by omega), zup_k (show k + 2 ≠ k + 3 by omega)]
    by_cases c : x = n
    · subst c
      rw [zup_s, zup_s, zup_s, madd_9 hn, madd_21 hn, madd_33]
      exact ⟨rfl, rfl, rfl⟩
    · obtain ⟨a1, a2, a3⟩ := h3 x (by omega)
      rw [madd_old (by omega), madd_old (by omega), madd_old (by omega)]
      refine ⟨?_, ?_, ?_⟩
      · rw [zup_i (by omega), zup_k (by omega)]; exact a1
      · rw [zup_i (by omega), zup_k (by omega), zup_k (by omega)]; exact a2
      · rw [zup_i (by omega), zup_k (by omega), zup_k (by omega), zup_k (by omega)]; exact a3
theorem c_bagAppend (hk : zKB k) (hr : RelU g k s n) (hok : mok s n) (hn : n < 12) {w v : Int} {b : Nat} (hw : 1 ≤ w ∧ w ≤ 99) (hv : 1 ≤ v ∧ v ≤ 50) (hb : b < 2 ^ 31) (hQ : ∀ g' : zM, (∀ j, (j < k ∨ k + 4 < j) → g' j = g j) → RelB g' k (mab s n w v b) (n + 1) → Q none g') : zC (d + 4) 2 [zR k, zI w, zI v, zI b] g Q := by
  obtain ⟨hk0, hk1, hk2, hk3, hk4⟩ := id hk
  have hn4 := hr.1
  have hok1 := madd_ok hok hn hw hv
  have hr1 := hr.add (w := w) (v := v) hn
  refine zC.go zm_X0_append ⟨rfl, rfl⟩ rfl ?_
  have loop : ∀ (r j : Nat) (g2 : zM), j + r = n → (∀ i, (i < k ∨ k + 4 < i) → g2 i = g i) → RelU g2 k (mabs (madd s n w v) n b j) (n + 1) → zW zX0_append (zC (d + 3)) Q 31 [zR k, zI w, zI v, zI b, zI n, zI j] [] g2 := by
    intro r
    induction r with
    | zero =>
      intro j g2 e hf hr2
      obtain rfl : j = n := by omega
      (refine zW.go (zC_om _) (fun K hK => ?_); conv => whnf)
      (refine And.intro (by first | omega | assumption | rfl | exact zin_and | exact ⟨zin_and, by omega⟩ | exact ⟨by omega, zin_and⟩ | exact Nat.le_of_ble_eq_true rfl | exact ⟨Nat.le_of_ble_eq_true rfl, rfl⟩ | exact ⟨Nat.le_of_ble_eq_true rfl, by assumption⟩ | exact ⟨by omega, Nat.le_of_ble_eq_true rfl⟩ | exact ⟨⟨by assumption, by omega⟩, Nat.le_of_ble_eq_true rfl⟩ | decide) ?_; conv => whnf)
      (refine And.intro (fun h => ?_) (fun h => by omega); conv => whnf)
      (refine hK _ _ _ _ (zW.go (zC_om _) (fun K hK => ?_)); conv => whnf)
      (refine And.intro (by first | omega | assumption | rfl | exact zin_and | exact ⟨zin_and, by omega⟩ | exact ⟨by omega, zin_and⟩ | exact Nat.le_of_ble_eq_true rfl | exact ⟨Nat.le_of_ble_eq_true rfl, rfl⟩ | exact ⟨Nat.le_of_ble_eq_true rfl, by assumption⟩ | exact ⟨by omega, Nat.le_of_ble_eq_true rfl⟩ | exact ⟨⟨by assumption, by omega⟩, Nat.le_of_ble_eq_true rfl⟩ | decide) ?_; conv => whnf)
      (refine c_sort hk hr2 (mabs_ok hok1 j (Nat.le_refl _)) (fun g3 hf3 hr3 => ?_); conv => whnf)
      (refine And.intro (by first | omega | assumption | rfl | exact zin_and | exact ⟨zin_and, by omega⟩ | exact ⟨by omega, zin_and⟩ | exact Nat.le_of_ble_eq_true rfl | exact ⟨Nat.le_of_ble_eq_true rfl, rfl⟩ | exact ⟨Nat.le_of_ble_eq_true rfl, by assumption⟩ | exact ⟨by omega, Nat.le_of_ble_eq_true rfl⟩ | exact ⟨⟨by assumption, by omega⟩, Nat.le_of_ble_eq_true rfl⟩ | decide) ?_; conv => whnf)
      refine hQ g3 (fun i hi => ?_) hr3
      rw [hf3 i (by omega), hf i hi]
    | succ r ih =>
      intro j g2 e hf hr2
      have ih := fun g3 => ih (j + 1) g3 (by omega)
      rw [mabs] at ih
      (refine zW.go (zC_om _) (fun K hK => ?_); conv => whnf)
      (refine And.intro (by first | omega | assumption | rfl | exact zin_and | exact ⟨zin_and, by omega⟩ | exact ⟨by omega, zin_and⟩ | exact Nat.le_of_ble_eq_true rfl | exact ⟨Nat.le_of_ble_eq_true rfl, rfl⟩ | exact ⟨Nat.le_of_ble_eq_true rfl, by assumption⟩ | exact ⟨by omega, Nat.le_of_ble_eq_true rfl⟩ | exact ⟨⟨by assumption, by omega⟩, Nat.le_of_ble_eq_true rfl⟩ | decide) ?_; conv => whnf)
      (refine And.intro (fun h => by omega) (fun h => ?_); conv => whnf)
      (refine And.intro (by first | omega | assumption | rfl | exact zin_and | exact ⟨zin_and, by omega⟩ | exact ⟨by omega, zin_and⟩ | exact Nat.le_of_ble_eq_true rfl | exact ⟨Nat.le_of_ble_eq_true rfl, rfl⟩ | exact ⟨Nat.le_of_ble_eq_true rfl, by assumption⟩ | exact ⟨by omega, Nat.le_of_ble_eq_true rfl⟩ | exact ⟨⟨by assumption, by omega⟩, Nat.le_of_ble_eq_true rfl⟩ | decide) ?_; conv => whnf)
      (refine s_has hb (by omega) ?_; conv => whnf)
      (refine And.intro (by first | omega | assumption | rfl | exact zin_and | exact ⟨zin_and, by omega⟩ | exact ⟨by omega, zin_and⟩ | exact Nat.le_of_ble_eq_true rfl | exact ⟨Nat.le_of_ble_eq_true rfl, rfl⟩ | exact ⟨Nat.le_of_ble_eq_true rfl, by assumption⟩ | exact ⟨by omega, Nat.le_of_ble_eq_true rfl⟩ | exact ⟨⟨by assumption, by omega⟩, Nat.le_of_ble_eq_true rfl⟩ | decide) ?_; conv => whnf)
      by_cases hbt : b.testBit j = true
      · rw [if_pos hbt] at ih ⊢
        (refine And.intro (fun h => by omega) (fun h => ?_); conv => whnf)
        (refine And.intro (by first | omega | assumption | rfl | exact zin_and | exact ⟨zin_and, by omega⟩ | exact ⟨by omega, zin_and⟩ | exact Nat.le_of_ble_eq_true rfl | exact ⟨Nat.le_of_ble_eq_true rfl, rfl⟩ | exact ⟨Nat.le_of_ble_eq_true rfl, by assumption⟩ | exact ⟨by omega, Nat.le_of_ble_eq_true rfl⟩ | exact ⟨⟨by assumption, by omega⟩, Nat.le_of_ble_eq_true rfl⟩ | decide) ?_; conv => whnf)
        (refine c_turnBar hk hr2 (mabs_ok hok1 j (by omega)) (by omega) (by omega) (by omega) (fun g3 hf3 hr3 => ?_); conv => whnf)
        refine hK _ _ _ _ (ih g3 (fun i hi => ?_) hr3)
        rw [hf3 i (by omega), hf i hi]
      · rw [if_neg hbt] at ih ⊢
        (refine And.intro (fun h => ?_) (fun h => by omega); conv => whnf)
        (refine hK _ _ _ _ (zW.go (zC_om _) (fun K hK => ?_)); conv => whnf)
        exact hK _ _ _ _ (ih g2 hf hr2)
  (refine zW.go (zC_om _) (fun K hK => ?_); conv => whnf)
  (refine And.intro (by first | omega | assumption | rfl | exact zin_and | exact ⟨zin_and, by omega⟩ | exact ⟨by omega, zin_and⟩ | exact Nat.le_of_ble_eq_true rfl | exact ⟨Nat.le_of_ble_eq_true rfl, rfl⟩ | exact ⟨Nat.le_of_ble_eq_true rfl, by assumption⟩ | exact ⟨by omega, Nat.le_of_ble_eq_true rfl⟩ | exact ⟨⟨by assumption, by omega⟩, Nat.le_of_ble_eq_true rfl⟩ | decide) ?_; conv => whnf)
  (refine And.intro (by first | omega | assumption | rfl | exact zin_and | exact ⟨zin_and, by omega⟩ | exact ⟨by omega, zin_and⟩ | exact Nat.le_of_ble_eq_true rfl | exact ⟨Nat.le_of_ble_eq_true rfl, rfl⟩ | exact ⟨Nat.le_of_ble_eq_true rfl, by assumption⟩ | exact ⟨by omega, Nat.le_of_ble_eq_true rfl⟩ | exact ⟨⟨by assumption, by omega⟩, Nat.le_of_ble_eq_true rfl⟩ | decide) ?_; conv => whnf)
  (refine And.intro (fun h => ?_) (fun h => by omega); conv => whnf)
  (refine hK _ _ _ _ ?_)
  (refine zW.upto (zC_om _) 26 (fun K hK => ?_); conv => whnf)
  (refine And.intro (by first | omega | assumption | rfl | exact zin_and | exact ⟨zin_and, by omega⟩ | exact ⟨by omega, zin_and⟩ | exact Nat.le_of_ble_eq_true rfl | exact ⟨Nat.le_of_ble_eq_true rfl, rfl⟩ | exact ⟨Nat.le_of_ble_eq_true rfl, by assumption⟩ | exact ⟨by omega, Nat.le_of_ble_eq_true rfl⟩ | exact ⟨⟨by assumption, by omega⟩, Nat.le_of_ble_eq_true rfl⟩ | decide) ?_; conv => whnf)
  (refine And.intro (by first | omega | assumption | rfl | exact zin_and | exact ⟨zin_and, by omega⟩ | exact ⟨by omega, zin_and⟩ | exact Nat.le_of_ble_eq_true rfl | exact ⟨Nat.le_of_ble_eq_true rfl, rfl⟩ | exact ⟨Nat.le_of_ble_eq_true rfl, by assumption⟩ | exact ⟨by omega, Nat.le_of_ble_eq_true rfl⟩ | exact ⟨⟨by assumption, by omega⟩, Nat.le_of_ble_eq_true rfl⟩ | decide) ?_; conv => whnf)
  (refine And.intro ⟨by assumption, fun w => absurd w (by decide)⟩ ?_; conv => whnf)
  rw [hn4]
  (refine And.intro (by first | omega | assumption | rfl | exact zin_and | exact ⟨zin_and, by omega⟩ | exact ⟨by omega, zin_and⟩ | exact Nat.le_of_ble_eq_true rfl | exact ⟨Nat.le_of_ble_eq_true rfl, rfl⟩ | exact ⟨Nat.le_of_ble_eq_true rfl, by assumption⟩ | exact ⟨by omega, Nat.le_of_ble_eq_true rfl⟩ | exact ⟨⟨by assumption, by omega⟩, Nat.le_of_ble_eq_true rfl⟩ | decide) ?_; conv => whnf)
  (refine And.intro (by first | omega | assumption | rfl | exact zin_and | exact ⟨zin_and, by omega⟩ | exact ⟨by omega, zin_and⟩ | exact Nat.le_of_ble_eq_true rfl | exact ⟨Nat.le_of_ble_eq_true rfl, rfl⟩ | exact ⟨Nat.le_of_ble_eq_true rfl, by assumption⟩ | exact ⟨by omega, Nat.le_of_ble_eq_true rfl⟩ | exact ⟨⟨by assumption, by omega⟩, Nat.le_of_ble_eq_true rfl⟩ | decide) ?_; conv => whnf)
  (refine s_put hk1 (by omega) (by omega) (by omega) ?_; conv => whnf)
  (refine And.intro (by first | omega | assumption | rfl | exact zin_and | exact ⟨zin_and, by omega⟩ | exact ⟨by omega, zin_and⟩ | exact Nat.le_of_ble_eq_true rfl | exact ⟨Nat.le_of_ble_eq_true rfl, rfl⟩ | exact ⟨Nat.le_of_ble_eq_true rfl, by assumption⟩ | exact ⟨by omega, Nat.le_of_ble_eq_true rfl⟩ | exact ⟨⟨by assumption, by omega⟩, Nat.le_of_ble_eq_true rfl⟩ | decide) ?_; conv => whnf)
  (refine And.intro (by first | omega | assumption | rfl | exact zin_and | exact ⟨zin_and, by omega⟩ | exact ⟨by omega, zin_and⟩ | exact Nat.le_of_ble_eq_true rfl | exact ⟨Nat.le_of_ble_eq_true rfl, rfl⟩ | exact ⟨Nat.le_of_ble_eq_true rfl, by assumption⟩ | exact ⟨by omega, Nat.le_of_ble_eq_true rfl⟩ | exact ⟨⟨by assumption, by omega⟩, Nat.le_of_ble_eq_true rfl⟩ | decide) ?_; conv => whnf)
  (refine s_put hk2 (by omega) (by omega) (by omega) ?_; conv => whnf)
  (refine And.intro (by first | omega | assumption | rfl | exact zin_and | exact ⟨zin_and, by omega⟩ | exact ⟨by omega, zin_and⟩ | exact Nat.le_of_ble_eq_true rfl | exact ⟨Nat.le_of_ble_eq_true rfl, rfl⟩ | exact ⟨Nat.le_of_ble_eq_true rfl, by assumption⟩ | exact ⟨by omega, Nat.le_of_ble_eq_true rfl⟩ | exact ⟨⟨by assumption, by omega⟩, Nat.le_of_ble_eq_true rfl⟩ | decide) ?_; conv => whnf)
  (refine And.intro (by first | omega | assumption | rfl | exact zin_and | exact ⟨zin_and, by omega⟩ | exact ⟨by omega, zin_and⟩ | exact Nat.le_of_ble_eq_true rfl | exact ⟨Nat.le_of_ble_eq_true rfl, rfl⟩ | exact ⟨Nat.le_of_ble_eq_true rfl, by assumption⟩ | exact ⟨by omega, Nat.le_of_ble_eq_true rfl⟩ | exact ⟨⟨by assumption, by omega⟩, Nat.le_of_ble_eq_true rfl⟩ | decide) ?_; conv => whnf)
  (refine s_put hk3 (by omega) (by omega) (by omega) ?_; conv => whnf)
  exact hK _ _ _ _ (loop n 0 _ (by omega) (fun i hi => by rw [zup_ne (by omega), zup_ne (by omega), zup_ne (by omega), zup_ne (by omega)]) hr1)
end CB2
