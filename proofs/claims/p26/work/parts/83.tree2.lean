/-! a search begun, given up; settings; what the questions tell of a search -/
theorem yTr.imp {s : zS} {n m : Nat} {a b : Prop} (h : yTr s n m a) (hab : a → b) : yTr s n m b := by
  rcases h with h | ⟨h1, h2, h3⟩
  · exact Or.inl h
  · exact Or.inr ⟨h1, h2, fun hb => h3 (fun w => hb (hab w))⟩
theorem yTr.begin {s : zS} {n m : Nat} {a : Prop} (h : minw s n m) : yTr (mbeg s n) n 1 a := by
  have hwb := minw_beg h
  have h50 : ru (mfg s) 4 1 5 = ((0 : Nat) : Int) := by rw [ru_n (by omega)]; rfl
  have old : ∀ j : Int, j ≠ 5 ∧ j < 45 → mbeg s n j = ru (mfg s) 4 1 j := fun j hj => mmk_old h50 (by omega)
  have e4 : nd (mbeg s n) ((0 : Nat) : Int) 4 = 0 := (mmk_4 h50).trans (by unfold mhow; simp)
  have i0 : ndi (mbeg s n) ((0 : Nat) : Int) = 0 := by unfold ndi; rw [show nd (mbeg s n) ((0 : Nat) : Int) 5 = ((0 : Nat) : Int) from mmk_n5 h50]; rfl
  have o0 : ndo (mbeg s n) ((0 : Nat) : Int) = 0 := by unfold ndo; rw [show nd (mbeg s n) ((0 : Nat) : Int) 6 = ((0 : Nat) : Int) from mmk_n6 h50]; rfl
  have p0 : mposs (mbeg s n) n 0 = true := mposs0 hwb.1.1.2.2.1.1
  have e6 : mbeg s n 6 = 0 := by rw [old 6 (by omega), ru_n (by omega), mfg_6]
  have e7 : mbeg s n 7 = 0 := by rw [old 7 (by omega), ru_n (by omega), mfg_7]
  have e8 : mbeg s n 8 = 0 := by rw [old 8 (by omega), ru_n (by omega), mfg_8]
  refine Or.inr ⟨⟨fun k hk => ?_, fun k hk0 hk => absurd hk (by omega), ?_, ?_⟩, rfl, fun _ S _ => Or.inr ⟨0, by omega, e4, ?_⟩⟩
  · obtain rfl : k = 0 := by omega
    rw [i0]
    exact ⟨p0, fun t q => by rw [Nat.zero_testBit] at q; exact zft q⟩
  · rw [e8, e7]
    exact ⟨p0, bsum0 n⟩
  · rw [e6]
    have : ytk (mbeg s n) 0 = false := by
      unfold ytk
      rw [e4]
      decide
    show (0 : Int) = ((zcnt 0 (ytk (mbeg s n)) + if ytk (mbeg s n) 0 = true then 1 else 0 : Nat) : Int)
    rw [this]
    rfl
  · unfold ycov
    rw [i0, o0]
    exact ⟨fun t q => by rw [Nat.zero_testBit] at q; exact zft q, fun t q => by rw [Nat.zero_testBit] at q; exact zft q⟩
theorem yTr.give {s : zS} {n m : Nat} {a b : Prop} (hn : n ≤ 12) (h : yTr s n m a) (hb : b) : yTr (mgu s m) n m b := by
  rcases h with h | ⟨⟨t1, t2, t3, t4⟩, h2, h3⟩
  · exact Or.inl h
  have old : ∀ j : Int, (∀ k : Nat, k < m → j ≠ 45 + 7 * k + 4) → mgu s m j = s j := fun j hj => mgu_old hj
  have hmag : magr s (mgu s m) := ⟨(old 0 (fun k _ => by omega)).symm, (old 1 (fun k _ => by omega)).symm, fun j c1 c2 => (old j (fun k _ => by omega)).symm⟩
  have nold : ∀ x : Nat, x < m → ∀ f : Int, 0 ≤ f → f < 7 → f ≠ 4 → nd (mgu s m) x f = nd s x f := fun x hx f c1 c2 c3 => old _ (fun k _ => by omega)
  have hi : ∀ x : Nat, x < m → ndi (mgu s m) x = ndi s x := fun x hx => by unfold ndi; rw [nold x hx 5 (by omega) (by omega) (by omega)]
  have hoo : ∀ x : Nat, x < m → ndo (mgu s m) x = ndo s x := fun x hx => by unfold ndo; rw [nold x hx 6 (by omega) (by omega) (by omega)]
  have how : ∀ x : Nat, x < m → nd (mgu s m) x 4 = if nd s x 4 = 0 then 5 else nd s x 4 := fun x hx => by
    rw [mgu_how]
    by_cases c : nd s x 4 = 0
    · rw [if_pos ⟨hx, c⟩, if_pos c]
    · rw [if_neg (fun w => c w.2), if_neg c]
  refine Or.inr ⟨⟨fun k hk => ?_, fun k hk0 hk => ?_, ?_, ?_⟩, h2, fun w => absurd hb w⟩
  · rw [hi k hk, hoo k hk, ← ag_poss hmag hn]; exact t1 k hk
  · obtain ⟨p, q1, q2, q3, q4, q5, q6⟩ := t2 k hk0 hk
    refine ⟨p, q1, ?_, ?_, ?_, ?_, ?_⟩
    · rw [nold k hk 0 (by omega) (by omega) (by omega)]; exact q2
    · rw [nold k hk 3 (by omega) (by omega) (by omega), nold p (by omega) 3 (by omega) (by omega) (by omega)]; exact q3
    · rw [how p (by omega), if_neg (by omega)]; exact q4
    · rw [nold k hk 2 (by omega) (by omega) (by omega)]; exact q5
    · rw [hi k hk, hoo k hk, hi p (by omega), hoo p (by omega)]; exact q6
  · rw [old 8 (fun k _ => by omega), old 7 (fun k _ => by omega), ← ag_poss hmag hn, ← ag_w hmag hn]; exact t3
  · rw [old 6 (fun k _ => by omega), t4]
    have : zcnt m (ytk (mgu s m)) = zcnt m (ytk s) := zcnt_congr m _ _ (fun j hj => by
      unfold ytk
      rw [how j hj]
      by_cases c : nd s j 4 = 0
      · rw [if_pos c, c]; decide
      · rw [if_neg c])
    rw [this]
theorem yTr.set {s : zS} {n m : Nat} {a : Prop} {j v : Int} (hn : n ≤ 12) (hj : j = 2 ∨ j = 3) (h : yTr s n m a) : yTr (ru s j v) n m a := by
  rcases h with h | ⟨⟨t1, t2, t3, t4⟩, h2, h3⟩
  · exact Or.inl h
  have e : ∀ i : Int, i ≠ 2 → i ≠ 3 → ru s j v i = s i := fun i a b => ru_n (by omega)
  have hmag : magr s (ru s j v) := ⟨(e 0 (by omega) (by omega)).symm, (e 1 (by omega) (by omega)).symm, fun i c1 c2 => (e i (by omega) (by omega)).symm⟩
  generalize ru s j v = s' at *
  have nold : ∀ x : Nat, ∀ f : Int, 0 ≤ f → f < 7 → nd s' x f = nd s x f := fun x f c1 c2 => e _ (by omega) (by omega)
  have hi : ∀ x : Nat, ndi s' x = ndi s x := fun x => by unfold ndi; rw [nold x 5 (by omega) (by omega)]
  have hoo : ∀ x : Nat, ndo s' x = ndo s x := fun x => by unfold ndo; rw [nold x 6 (by omega) (by omega)]
  refine Or.inr ⟨⟨fun k hk => ?_, fun k hk0 hk => ?_, ?_, ?_⟩, h2, fun w S hS => ?_⟩
  · rw [hi, hoo, ← ag_poss hmag hn]; exact t1 k hk
  · obtain ⟨p, q1, q2, q3, q4, q5, q6⟩ := t2 k hk0 hk
    refine ⟨p, q1, ?_, ?_, ?_, ?_, ?_⟩
    · rw [nold k 0 (by omega) (by omega)]; exact q2
    · rw [nold k 3 (by omega) (by omega), nold p 3 (by omega) (by omega)]; exact q3
    · rw [nold p 4 (by omega) (by omega)]; exact q4
    · rw [nold k 2 (by omega) (by omega)]; exact q5
    · rw [hi, hoo, hi, hoo]; exact q6
  · rw [e 8 (by omega) (by omega), e 7 (by omega) (by omega), ← ag_poss hmag hn, ← ag_w hmag hn]; exact t3
  · rw [e 6 (by omega) (by omega), t4, zcnt_congr m (ytk s') (ytk s) (fun x hx => by unfold ytk; rw [nold x 4 (by omega) (by omega)])]
  · rw [← ag_poss hmag hn] at hS
    rw [← ag_w hmag hn, e 7 (by omega) (by omega)]
    rcases h3 w S hS with q | ⟨k, q1, q2, q3⟩
    · exact Or.inl q
    · refine Or.inr ⟨k, q1, by rw [nold k 4 (by omega) (by omega)]; exact q2, ?_⟩
      unfold ycov
      rw [hi, hoo]
      exact q3
/-- the greatest bound of the open nodes -/
theorem mtk_best {s : zS} {k : Nat} (h0 : nd s k 4 = 0) : ∀ m : Nat, k < m → mtk s 1 m ≠ -5 ∧ nd s k 3 ≤ nd s (mtk s 1 m) 3
  | 0, h => absurd h (by omega)
  | m + 1, h => by
    rw [mtk]
    by_cases c : k = m
    · subst c
      have hr := mtk_rng s 1 k
      split
      · exact ⟨by omega, Int.le_refl _⟩
      · next q =>
        have q1 : ¬ mtk s 1 k = -5 := fun w => q ⟨h0, Or.inl w⟩
        have q2 : ¬ nd s (mtk s 1 k) 3 < nd s k 3 := fun w => q ⟨h0, Or.inr (Or.inr ⟨rfl, w⟩)⟩
        exact ⟨q1, by omega⟩
    · obtain ⟨i1, i2⟩ := mtk_best h0 m (by omega)
      split
      · next q =>
        refine ⟨by omega, ?_⟩
        rcases q.2 with w | w | w
        · exact absurd w i1
        · exact absurd w (by decide)
        · omega
      · exact ⟨i1, i2⟩
theorem mcn_mtk {s : zS} {order : Int} : ∀ m : Nat, mcn s 0 m = 0 ↔ mtk s order m = -5
  | 0 => ⟨fun _ => rfl, fun _ => rfl⟩
  | m + 1 => by
    have ih := mcn_mtk (s := s) (order := order) m
    have e : mcn s 0 (m + 1) = mcn s 0 m + (if decide (nd s m 4 = 0) = true then 1 else 0) := rfl
    have hr := mtk_rng s order m
    rw [e, mtk]
    by_cases c : nd s m 4 = 0
    · rw [if_pos (decide_eq_true c)]
      constructor
      · intro w; omega
      · intro w
        split at w
        · omega
        · next q => exact absurd ⟨c, Or.inl w⟩ q
    · rw [if_neg (by simpa using c), if_neg (fun w => c w.1)]
      simpa using ih
theorem ymnb {s : zS} {n S : Nat} (hS : mposs s n S = true) (hs : ∀ u, S.testBit u = true → u < n) : mnb s S := by
  intro u v hu hv
  have := (mposs_iff.mp hS).2 u (hs u hu) hu
  have := congrArg (fun z => Nat.testBit z v) this
  simp only [Nat.testBit_and, Nat.zero_testBit, hv, Bool.and_true] at this
  exact this
/-- what is told of a search whose nodes are as they should be -/
theorem ytold {s : zS} {n m : Nat} {a : Prop} (hw : minw s n m) (hT : yTr s n m a) (hm : 0 < m) :
    s 7 ≤ mbf s n 0 0 (s 1) ∧ (¬ a → mbf s n 0 0 (s 1) ≤ s 7 + (if mtk s 1 m = -5 then 0 else max 0 (nd s (mtk s 1 m) 3 - s 7))) ∧ (¬ a → mcn s 0 m = 0 → s 7 = mbf s n 0 0 (s 1)) := by
  rcases hT with h | ⟨hT, -, hcov⟩
  · omega
  have hok := hw.1.1
  have h8 := hw.1.2.2.2.2.2.2.2.2.1
  obtain ⟨b1, b2⟩ := hT.2.2.1
  have e2n : ((2 : Int) ^ n) = ((2 ^ n : Nat) : Int) := by rw [Int.natCast_pow]; rfl
  have hbn : ∀ u, (s 8).toNat.testBit u = true → u < n := fun u q => by
    rcases Nat.lt_or_ge u n with w | w
    · exact w
    · rw [zlt_bits (show (s 8).toNat < 2 ^ n by omega) w] at q
      exact zft q
  have g1 : s 7 ≤ mbf s n 0 0 (s 1) := by
    rw [← b2]
    exact mbf_ge hok n 0 0 (s 1) _ (by omega) (fun u q => ⟨by omega, hbn u q, Nat.zero_testBit _⟩) (mposs_iff.mp b1).1 (ymnb b1 hbn)
  have g2 : ¬ a → mbf s n 0 0 (s 1) ≤ s 7 ∨ ∃ k, k < m ∧ nd s k 4 = 0 ∧ mbf s n 0 0 (s 1) ≤ nd s k 3 := by
    intro ha
    obtain ⟨S, q1, q2, q3, q4⟩ := mbf_at hok hw.1.2.1 n 0 0 (s 1) (by omega) hok.2.2.1.1
    have hS : mposs s n S = true := by
      refine mposs_iff.mpr ⟨q2, fun t ht ht2 => ?_⟩
      refine Nat.eq_of_testBit_eq (fun v => ?_)
      rw [Nat.testBit_and, Nat.zero_testBit]
      cases c : S.testBit v with
      | false => simp
      | true => rw [q3 t v ht2 c]; rfl
    rw [← q4]
    rcases hcov ha S hS with w | ⟨k, w1, w2, w3⟩
    · exact Or.inl w
    · exact Or.inr ⟨k, w1, w2, ycov.le hw hT w1 hS w3⟩
  refine ⟨g1, fun ha => ?_, fun ha h0 => ?_⟩
  · rcases g2 ha with q | ⟨k, q1, q2, q3⟩
    · split <;> omega
    · obtain ⟨r1, r2⟩ := mtk_best q2 m q1
      rw [if_neg r1]
      omega
  · rcases g2 ha with q | ⟨k, q1, q2, q3⟩
    · omega
    · have := (mcn_mtk (order := 1) m).mp h0
      exact absurd this (mtk_best q2 m q1).1
