/-! the greedy bound, over positions: worths V, weights W, which are free b -/
def yG (V W : Nat → Int) (b : Nat → Bool) : Nat → Nat → Int → Int
  | 0, _, _ => 0
  | m + 1, k, l => if b k = true then (if l < W k then V k * l / W k else V k + yG V W b m (k + 1) (l - W k)) else yG V W b m (k + 1) l
/-- worths and weights are numbers from 1 on, the greatest ratio first -/
def yRt (V W : Nat → Int) (n : Nat) : Prop := (∀ k, k < n → 1 ≤ V k ∧ 1 ≤ W k) ∧ ∀ j k, j ≤ k → k < n → V k * W j ≤ V j * W k
theorem yq1 {A W : Int} (hW : 1 ≤ W) : A / W * W ≤ A := Int.ediv_mul_le A (by omega)
theorem yq2 {q A W : Int} (hW : 1 ≤ W) (h : q * W ≤ A) : q ≤ A / W := Int.le_ediv_of_mul_le (by omega) h
theorem yq3 {a b c : Int} (hc : 1 ≤ c) (h : a * c ≤ b * c) : a ≤ b := Int.le_of_mul_le_mul_right h (by omega)
section YG
variable {V W : Nat → Int} {n : Nat}
theorem yG_nn (h : yRt V W n) {b : Nat → Bool} : ∀ (m k : Nat) (l : Int), k + m = n → 0 ≤ l → 0 ≤ yG V W b m k l
  | 0, _, _, _, _ => Int.le_refl _
  | m + 1, k, l, hk, hl => by
    obtain ⟨h1, h2⟩ := h.1 k (by omega)
    rw [yG]
    split
    · split
      · exact Int.ediv_nonneg (Int.mul_nonneg (by omega) hl) (by omega)
      · have := yG_nn h (b := b) m (k + 1) (l - W k) (by omega) (by omega)
        omega
    · exact yG_nn h m (k + 1) l (by omega) hl
theorem yG_e (h : yRt V W n) {b : Nat → Bool} {j : Nat} : ∀ (m k : Nat) (l : Int), k + m = n → j ≤ k → j < n → 0 ≤ l → yG V W b m k l * W j ≤ V j * l
  | 0, k, l, hk, hj, hjn, hl => by
    have := Int.mul_nonneg (show 0 ≤ V j by have := (h.1 j hjn).1; omega) hl
    rw [yG]
    omega
  | m + 1, k, l, hk, hj, hjn, hl => by
    obtain ⟨h1, h2⟩ := h.1 k (by omega)
    obtain ⟨j1, j2⟩ := h.1 j hjn
    have hr := h.2 j k hj (by omega)
    rw [yG]
    split
    · split
      · have q := yq1 (A := V k * l) h2
        generalize V k * l / W k = X at *
        refine yq3 h2 ?_
        have a1 : X * W k * W j ≤ V k * l * W j := Int.mul_le_mul_of_nonneg_right q (by omega)
        have a2 : V k * W j * l ≤ V j * W k * l := Int.mul_le_mul_of_nonneg_right hr hl
        grind
      · have ih := yG_e h (b := b) m (k + 1) (l - W k) (by omega) (by omega) hjn (by omega)
        grind
    · exact yG_e h m (k + 1) l (by omega) (by omega) hjn hl
theorem yG_f (h : yRt V W n) {b : Nat → Bool} {j : Nat} : ∀ (m k : Nat) (l : Int), k + m = n → j ≤ k → j < n → W j ≤ l → yG V W b m k l ≤ V j + yG V W b m k (l - W j)
  | 0, k, l, hk, hj, hjn, hl => by
    have := (h.1 j hjn).1
    rw [yG, yG]
    omega
  | m + 1, k, l, hk, hj, hjn, hl => by
    obtain ⟨h1, h2⟩ := h.1 k (by omega)
    obtain ⟨j1, j2⟩ := h.1 j hjn
    have hr := h.2 j k hj (by omega)
    rw [yG, yG]
    split
    · by_cases c1 : l < W k
      · rw [if_pos c1, if_pos (by omega)]
        have q := yq1 (A := V k * l) h2
        generalize V k * l / W k = X at *
        have : X - V j ≤ V k * (l - W j) / W k := yq2 h2 (by grind)
        omega
      · by_cases c2 : l - W j < W k
        · rw [if_neg c1, if_pos c2]
          have e := yG_e h (b := b) (j := k) m (k + 1) (l - W k) (by omega) (by omega) (by omega) (by omega)
          generalize yG V W b m (k + 1) (l - W k) = X at *
          have : V k + X - V j ≤ V k * (l - W j) / W k := yq2 h2 (by grind)
          omega
        · rw [if_neg c1, if_neg c2]
          have ih := yG_f h (b := b) m (k + 1) (l - W k) (by omega) (by omega) hjn (by omega)
          rw [show l - W j - W k = l - W k - W j by omega]
          omega
    · exact yG_f h m (k + 1) l (by omega) (by omega) hjn hl
theorem yG_d (h : yRt V W n) {b : Nat → Bool} {t : Nat} (hb : b t = true) : ∀ (m k : Nat) (r : Int), k + m = n → k ≤ t → t < n → 0 ≤ r → r < W t → V t * r / W t ≤ yG V W b m k r
  | 0, k, r, hk, ht, htn, hr0, hr => by omega
  | m + 1, k, r, hk, ht, htn, hr0, hrt => by
    obtain ⟨h1, h2⟩ := h.1 k (by omega)
    obtain ⟨t1, t2⟩ := h.1 t htn
    have hr := h.2 k t ht htn
    have q := yq1 (A := V t * r) t2
    rw [yG]
    by_cases ckt : k = t
    · subst ckt
      rw [if_pos hb, if_pos hrt]
      exact Int.le_refl _
    · split
      · split
        · generalize V t * r / W t = X at *
          refine yq2 h2 (yq3 t2 ?_)
          have a1 : X * W t * W k ≤ V t * r * W k := Int.mul_le_mul_of_nonneg_right q (by omega)
          have a2 : V t * W k * r ≤ V k * W t * r := Int.mul_le_mul_of_nonneg_right hr hr0
          grind
        · have ih := yG_d h hb m (k + 1) (r - W k) (by omega) (by omega) htn (by omega) (by omega)
          generalize V t * r / W t = X at *
          have : X - V k ≤ V t * (r - W k) / W t := yq2 t2 (by grind)
          omega
      · exact yG_d h hb m (k + 1) r (by omega) (by omega) htn hr0 hrt
theorem yG_congr {b b' : Nat → Bool} : ∀ (m k : Nat) (l : Int), (∀ j, k ≤ j → j < k + m → b j = b' j) → yG V W b m k l = yG V W b' m k l
  | 0, _, _, _ => rfl
  | m + 1, k, l, h => by
    rw [yG, yG, h k (by omega) (by omega), yG_congr m (k + 1) (l - W k) (fun j c1 c2 => h j (by omega) (by omega)), yG_congr m (k + 1) l (fun j c1 c2 => h j (by omega) (by omega))]
/-- taking one -/
theorem yG_c (h : yRt V W n) {b : Nat → Bool} {t : Nat} (hb : b t = true) : ∀ (m k : Nat) (l : Int), k + m = n → k ≤ t → t < n → W t ≤ l → V t + yG V W (fun j => b j && !decide (j = t)) m k (l - W t) ≤ yG V W b m k l
  | 0, k, l, hk, ht, htn, hl => by omega
  | m + 1, k, l, hk, ht, htn, hl => by
    obtain ⟨h1, h2⟩ := h.1 k (by omega)
    obtain ⟨t1, t2⟩ := h.1 t htn
    have hr := h.2 k t ht htn
    rw [yG, yG]
    by_cases ckt : k = t
    · subst ckt
      rw [if_neg (by simp), if_pos hb, if_neg (by omega)]
      rw [yG_congr (b' := b) m (k + 1) (l - W k) (fun j c1 c2 => by
        have : ¬ j = k := by omega
        simp [this])]
      exact Int.le_refl _
    · have e : (b k && !decide (k = t)) = b k := by simp [ckt]
      rw [e]
      by_cases hbk : b k = true
      · rw [if_pos hbk, if_pos hbk]
        by_cases c1 : l < W k
        · rw [if_pos (by omega), if_pos c1]
          have q := yq1 (A := V k * (l - W t)) h2
          generalize V k * (l - W t) / W k = X at *
          exact yq2 h2 (by grind)
        · by_cases c2 : l - W t < W k
          · rw [if_pos c2, if_neg c1]
            have d := yG_d h hb m (k + 1) (l - W k) (by omega) (by omega) htn (by omega) (by omega)
            have q := yq1 (A := V k * (l - W t)) h2
            generalize V k * (l - W t) / W k = X at *
            have : V t + X - V k ≤ V t * (l - W k) / W t := by
              refine yq2 t2 (yq3 h2 ?_)
              have a1 : X * W k * W t ≤ V k * (l - W t) * W t := Int.mul_le_mul_of_nonneg_right q (by omega)
              have a2 : V t * W k * (W t + W k - l) ≤ V k * W t * (W t + W k - l) := Int.mul_le_mul_of_nonneg_right hr (by omega)
              grind
            omega
          · rw [if_neg c2, if_neg c1]
            have ih := yG_c h hb m (k + 1) (l - W k) (by omega) (by omega) htn (by omega)
            rw [show l - W t - W k = l - W k - W t by omega]
            omega
      · rw [if_neg hbk, if_neg hbk]
        exact yG_c h hb m (k + 1) l (by omega) (by omega) htn hl
/-- more is free -/
theorem yG_b (h : yRt V W n) {b b' : Nat → Bool} (hb : ∀ j, b j = true → b' j = true) : ∀ (m k : Nat) (l : Int), k + m = n → 0 ≤ l → yG V W b m k l ≤ yG V W b' m k l
  | 0, _, _, _, _ => Int.le_refl _
  | m + 1, k, l, hk, hl => by
    obtain ⟨h1, h2⟩ := h.1 k (by omega)
    rw [yG, yG]
    by_cases c : b k = true
    · rw [if_pos c, if_pos (hb k c)]
      by_cases c1 : l < W k
      · rw [if_pos c1, if_pos c1]; exact Int.le_refl _
      · rw [if_neg c1, if_neg c1]
        have := yG_b h hb m (k + 1) (l - W k) (by omega) (by omega)
        omega
    · rw [if_neg c]
      have ih := yG_b h hb m (k + 1) l (by omega) hl
      by_cases c' : b' k = true
      · rw [if_pos c']
        by_cases c1 : l < W k
        · rw [if_pos c1]
          exact yq2 h2 (yG_e h m (k + 1) l (by omega) (by omega) (by omega) hl)
        · rw [if_neg c1]
          have f := yG_f h (b := b) (j := k) m (k + 1) l (by omega) (by omega) (by omega) (by omega)
          have ih2 := yG_b h hb m (k + 1) (l - W k) (by omega) (by omega)
          omega
      · rw [if_neg c']; exact ih
end YG
