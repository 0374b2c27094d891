/-! what always holds of a row: things, bars both ways, settings, nodes -/
def msym (s : zS) (n : Nat) : Prop := ∀ t : Nat, t < n → mb s t < 2 ^ n ∧ (∀ u : Nat, u < n → (mb s t).testBit u = (mb s u).testBit t) ∧ (mb s t).testBit t = false
def mnode (s : zS) (n k : Nat) : Prop := ∃ i o : Nat, nd s k 5 = (i : Int) ∧ nd s k 6 = (o : Int) ∧ i < 2 ^ n ∧ o < 2 ^ n ∧ nd s k 3 = mchild s n i o ∧ (0 ≤ nd s k 4 ∧ nd s k 4 ≤ 5) ∧ (nd s k 4 = 0 → mposs s n i = true) ∧
  (k = 0 → nd s k 0 = -5 ∧ nd s k 1 = -5 ∧ nd s k 2 = 0 ∧ i = 0 ∧ o = 0) ∧ (0 < k → (0 ≤ nd s k 0 ∧ nd s k 0 < k) ∧ (0 ≤ nd s k 1 ∧ nd s k 1 < n) ∧ nd s k 2 = zb (i.testBit (nd s k 1).toNat))
def minv (s : zS) (n m : Nat) : Prop := mok s n ∧ msym s n ∧ (0 ≤ s 2 ∧ s 2 ≤ 2) ∧ (0 ≤ s 3 ∧ s 3 ≤ 2) ∧ (s 5 = m ∧ m ≤ 400) ∧ s 4 = (if m = 0 then 0 else 1) ∧ (∀ k : Nat, k < m → mnode s n k) ∧ (0 ≤ s 7 ∧ s 7 ≤ 1188) ∧ (0 ≤ s 8 ∧ s 8 < 2 ^ n) ∧ (m = 0 → s 6 = 0 ∧ s 7 = 0 ∧ s 8 = 0)
theorem mnode.rng {s : zS} {n k : Nat} (hok : mok s n) (h : mnode s n k) : zin (nd s k 4) ∧ zin (nd s k 3) := by
  obtain ⟨i, o, -, -, -, -, h3, h4, -⟩ := h
  have := mchild_rng (i := i) (o := o) hok
  rw [h3]
  omega
section MK
variable {s : zS} {n m : Nat} {par thing b : Int} {i o : Nat}
theorem mmk_old (hm : s 5 = m) {j : Int} (hj : j ≠ 5 ∧ j < 45 + 7 * m) : mmk s n par thing b i o j = s j := by
  unfold mmk
  rw [hm, ru_n (by omega), ru_n (by omega), ru_n (by omega), ru_n (by omega), ru_n (by omega), ru_n (by omega), ru_n (by omega), ru_n (by omega)]
theorem mmk_5 : mmk s n par thing b i o 5 = s 5 + 1 := ru_s
theorem mmk_ag (hm : s 5 = m) : magr s (mmk s n par thing b i o) := ⟨(mmk_old hm (by omega)).symm, (mmk_old hm (by omega)).symm, fun j h1 h2 => (mmk_old hm (by omega)).symm⟩
theorem mmk_0 (hm : s 5 = m) : nd (mmk s n par thing b i o) m 0 = par := by
  unfold mmk nd
  rw [hm, ru_n (by omega), ru_n (by omega), ru_n (by omega), ru_n (by omega), ru_n (by omega), ru_n (by omega), ru_n (by omega)]
  rw [Int.add_zero]
  exact ru_s
theorem mmk_1 (hm : s 5 = m) : nd (mmk s n par thing b i o) m 1 = thing := by
  unfold mmk nd
  rw [hm, ru_n (by omega), ru_n (by omega), ru_n (by omega), ru_n (by omega), ru_n (by omega), ru_n (by omega)]
  exact ru_s
theorem mmk_2 (hm : s 5 = m) : nd (mmk s n par thing b i o) m 2 = b := by
  unfold mmk nd
  rw [hm, ru_n (by omega), ru_n (by omega), ru_n (by omega), ru_n (by omega), ru_n (by omega)]
  exact ru_s
theorem mmk_3 (hm : s 5 = m) : nd (mmk s n par thing b i o) m 3 = mchild s n i o := by
  unfold mmk nd
  rw [hm, ru_n (by omega), ru_n (by omega)]
  exact ru_s
theorem mmk_4 (hm : s 5 = m) : nd (mmk s n par thing b i o) m 4 = mhow s n par i o := by
  unfold mmk nd
  rw [hm, ru_n (by omega)]
  exact ru_s
theorem mmk_n5 (hm : s 5 = m) : nd (mmk s n par thing b i o) m 5 = (i : Int) := by
  unfold mmk nd
  rw [hm, ru_n (by omega), ru_n (by omega), ru_n (by omega), ru_n (by omega)]
  exact ru_s
theorem mmk_n6 (hm : s 5 = m) : nd (mmk s n par thing b i o) m 6 = (o : Int) := by
  unfold mmk nd
  rw [hm, ru_n (by omega), ru_n (by omega), ru_n (by omega)]
  exact ru_s
end MK
/-- a node's row is kept -/
theorem mnode.kept {s s' : zS} {n k : Nat} (hn : n ≤ 12) (hp : mpos s n) (h : mnode s n k) (ha : magr s s') (hj : ∀ f : Int, 0 ≤ f → f < 7 → nd s' k f = nd s k f) : mnode s' n k := by
  obtain ⟨i, o, h1, h2, h3, h4, h5, h6, h7, h8, h9⟩ := h
  have e0 := hj 0 (by omega) (by omega)
  have e1 := hj 1 (by omega) (by omega)
  have e2 := hj 2 (by omega) (by omega)
  have e3 := hj 3 (by omega) (by omega)
  have e4 := hj 4 (by omega) (by omega)
  have e5 := hj 5 (by omega) (by omega)
  have e6 := hj 6 (by omega) (by omega)
  refine ⟨i, o, by rw [e5]; exact h1, by rw [e6]; exact h2, h3, h4, by rw [e3, ← ag_child ha hn hp]; exact h5, by rw [e4]; exact h6, by rw [e4, ← ag_poss ha hn]; exact h7, by rw [e0, e1, e2]; exact h8, by rw [e0, e1, e2]; exact h9⟩
theorem msym.ag {s s' : zS} {n : Nat} (hn : n ≤ 12) (h : msym s n) (ha : magr s s') : msym s' n := by
  intro t ht
  obtain ⟨h1, h2, h3⟩ := h t ht
  refine ⟨by rw [← ag_b ha (show t < 12 by omega)]; exact h1, fun u hu => ?_, by rw [← ag_b ha (show t < 12 by omega)]; exact h3⟩
  rw [← ag_b ha (show t < 12 by omega), ← ag_b ha (show u < 12 by omega)]
  exact h2 u hu
/-- with nothing free, bound and heel are what is in -/
theorem mfree0 {s : zS} {n i o : Nat} (h : mfree s n i o = 0) : mbound s n i o = bsum s 9 i n ∧ mheel s n i o = i := by
  have g1 : ∀ (m k : Nat) (left sum : Int), mbd s n 0 m k left sum = sum := by
    intro m
    induction m with
    | zero => intro _ _ _; rfl
    | succ m ih => intro k left sum; rw [mbd, Nat.zero_testBit, if_neg (by decide), ih]
  have g2 : ∀ (m k set : Nat) (left : Int), mhl s n 0 m k set left = set := by
    intro m
    induction m with
    | zero => intro _ _ _; rfl
    | succ m ih =>
      intro k set left
      have : mhc s 0 (mor s n k) set left = false := by simp [mhc]
      rw [mhl, this, if_neg (by decide), ih]
  unfold mbound mheel
  rw [h]
  exact ⟨g1 _ _ _ _, g2 _ _ _ _⟩
theorem mfree_bit0 {s : zS} {n i o : Nat} (h : mfree s n i o ≠ 0) : ∃ t, t < n ∧ (mfree s n i o).testBit t = true := by
  obtain ⟨t, ht⟩ := Nat.exists_testBit_of_ne_zero h
  refine ⟨t, ?_, ht⟩
  rw [mfr_bit] at ht
  simp at ht
  exact ht.1
/-- where something is free, a node is branched on a free thing -/
theorem mbranch_rng {s : zS} {n i o : Nat} {c : Int} (hok : mok s n) (hf : mfree s n i o ≠ 0) : 0 ≤ mbranch s n i o c ∧ mbranch s n i o c < n ∧ (mfree s n i o).testBit (mbranch s n i o c).toNat = true := by
  obtain ⟨t, ht, hbt⟩ := mfree_bit0 hf
  generalize hfr : mfree s n i o = fr at *
  unfold mbranch
  split
  · unfold mparts
    rw [hfr]
    have r1 : msplit s n i o = -5 ∨ (0 ≤ msplit s n i o ∧ msplit s n i o < n ∧ fr.testBit (msplit s n i o).toNat = true) := by
      have := mspl_rng (s := s) (fr := fr) hok.pos n 0 (mleft s n i) (by omega)
      rw [← hfr] at this ⊢
      exact this
    have r2 := mfs_rng (s := s) (set := ndf fr (mheel s n i o)) hok.pos n 0 (by omega)
    have r3 := mfs_rng (s := s) (set := fr) hok.pos n 0 (by omega)
    split
    · rcases r1 with r | r
      · next h => exact absurd r h
      · exact r
    · split
      · rcases r2 with r | r
        · next h => exact absurd r h
        · refine ⟨r.1, r.2.1, ?_⟩
          have h3 := r.2.2
          rw [ndf_bit, Bool.and_eq_true] at h3
          exact h3.1
      · rcases r3 with r | r
        · exfalso
          have go : ∀ (m k : Nat), k + m = n → mfs s n fr m k = -5 → ∀ j, k ≤ j → j < n → fr.testBit (mor s n j) = false := by
            intro m
            induction m with
            | zero => intro k hk _ j h1 h2; omega
            | succ m ih =>
              intro k hk hq j h1 h2
              rw [mfs] at hq
              split at hq
              · omega
              · next hb =>
                by_cases hj : j = k
                · subst hj; simpa using hb
                · exact ih (k + 1) (by omega) hq j (by omega) h2
          have := go n 0 (by omega) r (mpl s n t) (by omega) (mpl_lt ht)
          rw [mor_pl hok.pos ht, hbt] at this
          exact Bool.noConfusion this
        · exact r
  · split
    · rw [hfr]
      rcases mhv_rng s fr n with r | r
      · exfalso
        have go : ∀ m : Nat, mhv s fr m = -5 → ∀ j, j < m → fr.testBit j = false := by
          intro m
          induction m with
          | zero => intro _ j hj; omega
          | succ m ih =>
            intro hq j hj
            rw [mhv] at hq
            split at hq
            · omega
            · next hb =>
              by_cases hjm : j = m
              · subst hjm
                cases hz : fr.testBit j with
                | false => rfl
                | true => exact absurd ⟨hz, Or.inl hq⟩ hb
              · exact ih hq j (by omega)
        have := go n r t ht
        rw [hbt] at this
        exact Bool.noConfusion this
      · exact r
    · unfold mtrials
      rw [hfr]
      rcases (mtr_rng (fr := fr) (i := i) (o := o) hok n).1 with r | r
      · exfalso
        have go : ∀ m : Nat, (mtr s n fr i o m).1 = -5 → ∀ j, j < m → fr.testBit j = false := by
          intro m
          induction m with
          | zero => intro _ j hj; omega
          | succ m ih =>
            intro hq j hj
            rw [mtr] at hq
            split at hq
            · dsimp only at hq; omega
            · next hb =>
              by_cases hjm : j = m
              · subst hjm
                cases hz : fr.testBit j with
                | false => rfl
                | true => exact absurd ⟨hz, Or.inl hq⟩ hb
              · exact ih hq j (by omega)
        have := go n r t ht
        rw [hbt] at this
        exact Bool.noConfusion this
      · exact r
theorem mfree_free {s : zS} {n i o t : Nat} (h : (mfree s n i o).testBit t = true) : t < n ∧ i.testBit t = false ∧ o.testBit t = false := by
  rw [mfr_bit] at h
  simp [mfc] at h
  exact ⟨h.1, h.2.1.1, h.2.1.2⟩
