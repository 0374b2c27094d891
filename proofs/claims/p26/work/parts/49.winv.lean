/-! a step keeps what always holds -/
theorem minw.gen {s s' : zS} {n m : Nat} (h : minw s n m) (hm0 : 0 < m) (hs : ∀ j : Int, (j < 6 ∨ (9 ≤ j ∧ j < 45)) → s' j = s j) (hnd : ∀ k : Nat, k < m → ∀ f : Int, 0 ≤ f → f < 7 → f ≠ 4 → nd s' k f = nd s k f) (how : ∀ k : Nat, k < m → nd s' k 4 = nd s k 4 ∨ (0 < nd s' k 4 ∧ nd s' k 4 ≤ 5)) (h7 : 0 ≤ s' 7 ∧ s' 7 ≤ 1188) (h8 : 0 ≤ s' 8 ∧ s' 8 < 2 ^ n) (h6 : 0 ≤ s' 6 ∧ s' 6 + mcn s' 0 m ≤ m) : minw s' n m := by
  obtain ⟨⟨hok, hsym, h2, h3, ⟨h5, hm⟩, h4, hn, -, -, -⟩, -, -⟩ := h
  have hn12 := hok.2.1
  have hmag : magr s s' := ⟨(hs 0 (by omega)).symm, (hs 1 (by omega)).symm, fun j c1 c2 => (hs j (by omega)).symm⟩
  refine ⟨⟨hmag.ok hok, hsym.ag hn12 hmag, ?_, ?_, ⟨?_, hm⟩, ?_, fun k hk => ?_, h7, h8, fun w => absurd w (by omega)⟩, h6⟩
  · rw [hs 2 (by omega)]; exact h2
  · rw [hs 3 (by omega)]; exact h3
  · rw [hs 5 (by omega)]; exact h5
  · rw [hs 4 (by omega)]; exact h4
  · obtain ⟨i, o, q1, q2, q3, q4, q5, q6, q7, q8, q9⟩ := hn k hk
    have e := hnd k hk
    have e4 := how k hk
    refine ⟨i, o, by rw [e 5 (by omega) (by omega) (by omega)]; exact q1, by rw [e 6 (by omega) (by omega) (by omega)]; exact q2, q3, q4, ?_, ?_, ?_, ?_, ?_⟩
    · rw [e 3 (by omega) (by omega) (by omega), ← ag_child hmag hn12 hok.pos]; exact q5
    · omega
    · intro w
      rw [← ag_poss hmag hn12]
      exact q7 (by omega)
    · rw [e 0 (by omega) (by omega) (by omega), e 1 (by omega) (by omega) (by omega), e 2 (by omega) (by omega) (by omega)]; exact q8
    · rw [e 0 (by omega) (by omega) (by omega), e 1 (by omega) (by omega) (by omega), e 2 (by omega) (by omega) (by omega)]; exact q9
theorem mcn_set {s : zS} {k : Nat} {w : Int} (hw : w ≠ 0) (h0 : nd s k 4 = 0) : ∀ m : Nat, k < m → mcn (ru s (45 + 7 * k + 4) w) 0 m + 1 = mcn s 0 m
  | 0, h => absurd h (by omega)
  | m + 1, h => by
    have em : m ≠ k → nd (ru s (45 + 7 * k + 4) w) m 4 = nd s m 4 := fun c => ru_n (by omega)
    show mcn (ru s (45 + 7 * k + 4) w) 0 m + (if decide (nd (ru s (45 + 7 * k + 4) w) m 4 = 0) = true then 1 else 0) + 1 = mcn s 0 m + (if decide (nd s m 4 = 0) = true then 1 else 0)
    by_cases c : m = k
    · subst c
      have e1 : nd (ru s (45 + 7 * m + 4) w) m 4 = w := ru_s
      have e2 : mcn (ru s (45 + 7 * m + 4) w) 0 m = mcn s 0 m := mcn_congr (fun j hj => ru_n (by omega))
      rw [e1, e2, h0, if_neg (by simpa using hw), if_pos (by decide)]
    · have ih := mcn_set hw h0 m (by omega)
      rw [em c]
      omega
theorem minw.more {s : zS} {n m k t i o : Nat} {bb : Int} (h : minw s n m) (hm0 : 0 < m) (hm4 : m < 400) (hk : k < m) (ht : t < n) (hi : i < 2 ^ n) (ho : o < 2 ^ n) (hb : bb = zb (i.testBit t)) : minw (mmk s n k t bb i o) n (m + 1) := by
  obtain ⟨⟨hok, hsym, h2, h3, ⟨h5, hm⟩, h4, hn, h7, h8, h0⟩, h6, hs⟩ := h
  have hn12 := hok.2.1
  have old : ∀ j : Int, j ≠ 5 ∧ j < 45 + 7 * m → mmk s n k t bb i o j = s j := fun j hj => mmk_old h5 hj
  have hmag : magr s (mmk s n k t bb i o) := mmk_ag h5
  have hb4 : 0 ≤ mhow s n k i o ∧ mhow s n k i o ≤ 5 := by unfold mhow; split <;> omega
  refine ⟨⟨hmag.ok hok, hsym.ag hn12 hmag, ?_, ?_, ⟨?_, by omega⟩, ?_, fun x hx => ?_, ?_, ?_, fun w => absurd w (by omega)⟩, ?_, ?_⟩
  · rw [old 2 (by omega)]; exact h2
  · rw [old 3 (by omega)]; exact h3
  · rw [mmk_5, h5]; rfl
  · rw [old 4 (by omega), h4, if_neg (by omega), if_neg (by omega)]
  · by_cases c : x = m
    · subst c
      refine ⟨i, o, mmk_n5 h5, mmk_n6 h5, hi, ho, ?_, ?_, ?_, fun w => absurd w (by omega), fun _ => ?_⟩
      · rw [mmk_3 h5, ← ag_child hmag hn12 hok.pos]
      · rw [mmk_4 h5]; exact hb4
      · intro w
        rw [mmk_4 h5] at w
        rw [← ag_poss hmag hn12]
        cases hp : mposs s n i with
        | true => rfl
        | false =>
          unfold mhow at w
          rw [if_pos ⟨by omega, Or.inl hp⟩] at w
          exact absurd w (by decide)
      · rw [mmk_0 h5, mmk_1 h5, mmk_2 h5, Int.toNat_natCast]
        exact ⟨by omega, by omega, hb⟩
    · exact (hn x (by omega)).kept hn12 hok.pos hmag (fun f c1 c2 => old _ (by omega))
  · rw [old 7 (by omega)]; exact h7
  · rw [old 8 (by omega)]; exact h8
  · rw [old 6 (by omega)]; exact h6
  · rw [old 6 (by omega)]
    have e : mcn (mmk s n k t bb i o) 0 m = mcn s 0 m := mcn_congr (fun j hj => old _ (by omega))
    have e2 : mcn (mmk s n k t bb i o) 0 (m + 1) = mcn (mmk s n k t bb i o) 0 m + (if decide (nd (mmk s n k t bb i o) m 4 = 0) = true then 1 else 0) := rfl
    rw [e2, e]
    split <;> omega
theorem mtk2_w {s : zS} {n m k : Nat} {w : Int} (h : minw s n m) (hk : k < m) (hop : nd s k 4 = 0) (hw : 0 < w ∧ w ≤ 5) : minw (ru (mtk2 s n k) (45 + 7 * k + 4) w) n m := by
  obtain ⟨⟨hok, hsym, h2, h3, ⟨h5, hm⟩, h4, hn, h7, h8, h0⟩, h6, hs⟩ := id h
  obtain ⟨i, o, hi, ho, hil, hol, -⟩ := hn k hk
  have hii : ndi s k = i := by unfold ndi; rw [hi]; rfl
  have hoo : ndo s k = o := by unfold ndo; rw [ho]; rfl
  have hhl := mheel_lt (o := o) hok hil
  have hnd : ∀ x : Nat, x < m → ∀ f : Int, 0 ≤ f → f < 7 → nd (mtk2 s n k) x f = nd s x f := fun x hx f c1 c2 => mtk2_old (by omega)
  have e6 : mtk2 s n k 6 = s 6 + 1 := by
    unfold mtk2
    split
    · rw [ru_n (by omega), ru_n (by omega), ru_s]
    · exact ru_s
  have e8 : 0 ≤ mtk2 s n k 8 ∧ mtk2 s n k 8 < 2 ^ n := by
    unfold mtk2
    rw [hii, hoo]
    split
    · rw [ru_s]
      have e : ((2 : Int) ^ n) = ((2 ^ n : Nat) : Int) := by rw [Int.natCast_pow]; rfl
      omega
    · rw [ru_n (by omega)]; exact h8
  refine h.gen (by omega) (fun j hj => ?_) (fun x hx f c1 c2 c3 => ?_) (fun x hx => ?_) ?_ ?_ ?_
  · rw [ru_n (by omega), mtk2_old (by omega)]
  · have : nd (ru (mtk2 s n k) (45 + 7 * k + 4) w) x f = nd (mtk2 s n k) x f := ru_n (by omega)
    rw [this, hnd x hx f c1 c2]
  · by_cases c : x = k
    · subst c
      have : nd (ru (mtk2 s n x) (45 + 7 * x + 4) w) x 4 = w := ru_s
      rw [this]
      exact Or.inr hw
    · have : nd (ru (mtk2 s n k) (45 + 7 * k + 4) w) x 4 = nd (mtk2 s n k) x 4 := ru_n (by omega)
      rw [this, hnd x hx 4 (by omega) (by omega)]
      exact Or.inl rfl
  · rw [ru_n (by omega)]; exact mtk2_7 hok h7
  · rw [ru_n (by omega)]; exact e8
  · rw [ru_n (by omega), e6]
    have e := mcn_set (s := mtk2 s n k) (w := w) (by omega) (by rw [hnd k hk 4 (by omega) (by omega)]; exact hop) m hk
    have e2 : mcn (mtk2 s n k) 0 m = mcn s 0 m := mcn_congr (fun x hx => hnd x hx 4 (by omega) (by omega))
    omega
theorem minw_takes {s : zS} {n m k : Nat} (h : minw s n m) (hk : k < m) (hop : nd s k 4 = 0) (hf : (mtakes s n k).1 ≠ -3) : minw (mtakes s n k).2 n (if (mtakes s n k).1 = 4 then m + 2 else m) := by
  obtain ⟨⟨hok, hsym, h2, h3, ⟨h5, hm⟩, h4, hn, h7, h8, h0⟩, h6, hs⟩ := id h
  obtain ⟨i, o, hi, ho, hil, hol, hbd, -, hps, -, -⟩ := hn k hk
  have hps := hps hop
  have hii : ndi s k = i := by unfold ndi; rw [hi]; rfl
  have hoo : ndo s k = o := by unfold ndo; rw [ho]; rfl
  have hmt := mtk2_w (n := n) (w := 4) h hk hop (by omega)
  have hmt2 := mtk2_w (n := n) (w := 2) h hk hop (by omega)
  unfold mtakes at hf ⊢
  by_cases c1 : nd s k 3 ≤ s 7
  · rw [if_pos c1, if_neg (show ¬ (1 : Int) = 4 by decide)]
    refine h.gen (by omega) (fun j hj => ?_) (fun x hx f d1 d2 d3 => ?_) (fun x hx => ?_) ?_ ?_ ?_
    · show ru (ru s 6 (s 6 + 1)) (45 + 7 * k + 4) 1 j = s j
      rw [ru_n (by omega), ru_n (by omega)]
    · show ru (ru s 6 (s 6 + 1)) (45 + 7 * k + 4) 1 (45 + 7 * x + f) = s (45 + 7 * x + f)
      rw [ru_n (by omega), ru_n (by omega)]
    · show ru (ru s 6 (s 6 + 1)) (45 + 7 * k + 4) 1 (45 + 7 * x + 4) = s (45 + 7 * x + 4) ∨ _
      by_cases c : x = k
      · subst c
        right
        show 0 < ru (ru s 6 (s 6 + 1)) (45 + 7 * x + 4) 1 (45 + 7 * x + 4) ∧ ru (ru s 6 (s 6 + 1)) (45 + 7 * x + 4) 1 (45 + 7 * x + 4) ≤ 5
        rw [ru_s]; omega
      · left
        rw [ru_n (by omega), ru_n (by omega)]
    · show 0 ≤ ru (ru s 6 (s 6 + 1)) (45 + 7 * k + 4) 1 7 ∧ ru (ru s 6 (s 6 + 1)) (45 + 7 * k + 4) 1 7 ≤ 1188
      rw [ru_n (by omega), ru_n (by omega)]; exact h7
    · show 0 ≤ ru (ru s 6 (s 6 + 1)) (45 + 7 * k + 4) 1 8 ∧ ru (ru s 6 (s 6 + 1)) (45 + 7 * k + 4) 1 8 < 2 ^ n
      rw [ru_n (by omega), ru_n (by omega)]; exact h8
    · show 0 ≤ ru (ru s 6 (s 6 + 1)) (45 + 7 * k + 4) 1 6 ∧ ru (ru s 6 (s 6 + 1)) (45 + 7 * k + 4) 1 6 + mcn (ru (ru s 6 (s 6 + 1)) (45 + 7 * k + 4) 1) 0 m ≤ m
      rw [ru_n (by omega), ru_s]
      have q0 : nd (ru s 6 (s 6 + 1)) k 4 = 0 := (ru_n (by omega)).trans hop
      have e := mcn_set (s := ru s 6 (s 6 + 1)) (w := 1) (by omega) q0 m hk
      have e2 : mcn (ru s 6 (s 6 + 1)) 0 m = mcn s 0 m := mcn_congr (fun x hx => ru_n (by omega))
      omega
  · rw [if_neg c1] at hf ⊢
    by_cases c2 : nd s k 3 ≤ bsum s 9 (mheel s n (ndi s k) (ndo s k)) n
    · rw [if_pos c2, if_neg (show ¬ (2 : Int) = 4 by decide)]
      exact hmt2
    · rw [if_neg c2] at hf ⊢
      by_cases c3 : 400 < s 5 + 2
      · rw [if_pos c3] at hf
        exact absurd rfl hf
      · rw [if_neg c3, if_pos rfl]
        rw [hii, hoo, hbd] at c2
        obtain ⟨t, ht, htn, hbt⟩ := mbranch_free (c := s 3) hok hps c2
        obtain ⟨-, hti, hto⟩ := mfree_free hbt
        have h2t : 2 ^ t < 2 ^ n := Nat.pow_lt_pow_right (by decide) htn
        have hot : o ||| 2 ^ t < 2 ^ n := Nat.or_lt_two_pow hol h2t
        have hit : i ||| 2 ^ t < 2 ^ n := Nat.or_lt_two_pow hil h2t
        show minw (mtk4 s n k) n (m + 2)
        unfold mtk4
        rw [hii, hoo, ht, Int.toNat_natCast]
        refine minw.more (m := m + 1) (minw.more hmt (by omega) (by omega) hk htn hil hot (by rw [hti]; rfl)) (by omega) (by omega) (by omega) htn hit hol ?_
        rw [Nat.testBit_or, zpow_bit]
        simp
        rfl
