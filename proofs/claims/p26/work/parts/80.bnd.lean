/-! what is known of bounds and heels -/
abbrev yVl (s : zS) (n : Nat) : Nat → Int := fun k => s (9 + (mor s n k : Int))
abbrev yWt (s : zS) (n : Nat) : Nat → Int := fun k => s (21 + (mor s n k : Int))
abbrev yB (s : zS) (n fr : Nat) : Nat → Bool := fun k => fr.testBit (mor s n k)
theorem yzd {w l v : Int} (hw : 0 ≤ w ∧ w ≤ 99) (hl : 0 ≤ l) (hlv : l < v) (hv : v ≤ 50) : zdiv (w * l) v = w * l / v := by
  obtain ⟨a, rfl⟩ : ∃ a : Nat, w = (a : Int) := ⟨w.toNat, by omega⟩
  obtain ⟨b, rfl⟩ : ∃ b : Nat, l = (b : Int) := ⟨l.toNat, by omega⟩
  obtain ⟨c, rfl⟩ : ∃ c : Nat, v = (c : Int) := ⟨v.toNat, by omega⟩
  have h1 : a * b ≤ 99 * 50 := Nat.mul_le_mul (by omega) (by omega)
  rw [show (a : Int) * (b : Int) = ((a * b : Nat) : Int) from (Int.natCast_mul a b).symm, zdiv_nat (by omega) (by omega) (by omega)]
  exact Int.natCast_ediv (a * b) c
theorem yrt {s : zS} {n : Nat} (hok : mok s n) : yRt (yVl s n) (yWt s n) n := by
  have hp := hok.pos
  refine ⟨fun k hk => ?_, fun j k hjk hk => ?_⟩
  · obtain ⟨h1, -⟩ := mor_spec (s := s) hp hk
    exact hp _ h1
  · obtain ⟨h1, h2⟩ := mor_spec (s := s) hp hk
    obtain ⟨h3, h4⟩ := mor_spec (s := s) hp (show j < n by omega)
    show s (9 + (mor s n k : Int)) * s (21 + (mor s n j : Int)) ≤ s (9 + (mor s n j : Int)) * s (21 + (mor s n k : Int))
    by_cases e : mor s n j = mor s n k
    · rw [e]; exact Int.le_refl _
    · rcases mah_tot (s := s) e with c | c
      · rcases mah_iff.mp c with q | q
        · exact Int.le_of_lt q
        · exact Int.le_of_eq q.1.symm
      · have := mpl_mono hp h1 h3 c
        omega
theorem mbd_yG {s : zS} {n fr : Nat} (hok : mok s n) : ∀ (m k : Nat) (left sum : Int), k + m = n → 0 ≤ left → mbd s n fr m k left sum = sum + yG (yVl s n) (yWt s n) (yB s n fr) m k left
  | 0, k, left, sum, _, _ => by rw [mbd, yG]; omega
  | m + 1, k, left, sum, hk, hl => by
    obtain ⟨h1, -⟩ := mor_spec (s := s) hok.pos (show k < n by omega)
    obtain ⟨b1, b2, -⟩ := hok.2.2.2 _ h1
    rw [mbd, yG]
    by_cases c : fr.testBit (mor s n k) = true
    · rw [if_pos c, if_pos (show yB s n fr k = true from c)]
      by_cases c1 : left < s (21 + (mor s n k : Int))
      · rw [if_pos c1, if_pos (show left < yWt s n k from c1), yzd (by omega) hl c1 (by omega)]
      · rw [if_neg c1, if_neg (show ¬ left < yWt s n k from c1), mbd_yG hok m (k + 1) _ _ (by omega) (by omega)]
        exact Int.add_assoc _ _ _
    · rw [if_neg c, if_neg (show ¬ yB s n fr k = true from c), mbd_yG hok m (k + 1) _ _ (by omega) hl]
/-- the greedy sum of free things in so much room -/
abbrev yg (s : zS) (n fr : Nat) (left : Int) : Int := yG (yVl s n) (yWt s n) (yB s n fr) n 0 left
theorem mbound_yg {s : zS} {n i o : Nat} (hok : mok s n) (h : 0 ≤ mleft s n i) : mbound s n i o = bsum s 9 i n + yg s n (mfree s n i o) (mleft s n i) := mbd_yG hok n 0 _ _ (by omega) h
theorem yg_mono {s : zS} {n fr fr' : Nat} {left : Int} (hok : mok s n) (hl : 0 ≤ left) (h : ∀ t, fr.testBit t = true → fr'.testBit t = true) : yg s n fr left ≤ yg s n fr' left := yG_b (yrt hok) (fun j q => h _ q) n 0 left (by omega) hl
/-- one of them taken -/
theorem yg_take {s : zS} {n fr fr' t : Nat} {left : Int} (hok : mok s n) (ht : t < n) (hb : fr.testBit t = true) (hw : s (21 + t) ≤ left) (h : ∀ u, fr'.testBit u = true → fr.testBit u = true ∧ u ≠ t) : s (9 + t) + yg s n fr' (left - s (21 + t)) ≤ yg s n fr left := by
  have hp := hok.pos
  have hm := mor_pl hp ht
  have hlt := mpl_lt (s := s) ht
  have c := yG_c (yrt hok) (b := yB s n fr) (t := mpl s n t) (show fr.testBit (mor s n (mpl s n t)) = true by rw [hm]; exact hb) n 0 left (by omega) (by omega) hlt (show s (21 + (mor s n (mpl s n t) : Int)) ≤ left by rw [hm]; exact hw)
  have e1 : yVl s n (mpl s n t) = s (9 + t) := by show s (9 + (mor s n (mpl s n t) : Int)) = _; rw [hm]
  have e2 : yWt s n (mpl s n t) = s (21 + t) := by show s (21 + (mor s n (mpl s n t) : Int)) = _; rw [hm]
  have m := yG_b (yrt hok) (b := yB s n fr') (b' := fun j => yB s n fr j && !decide (j = mpl s n t)) (fun j q => by
    obtain ⟨q1, q2⟩ := h _ (show fr'.testBit (mor s n j) = true from q)
    have q3 : ¬ j = mpl s n t := fun w => q2 (by rw [w, hm])
    show (fr.testBit (mor s n j) && !decide (j = mpl s n t)) = true
    rw [q1, decide_eq_false q3]
    rfl) n 0 (left - s (21 + t)) (by omega) (by omega)
  have c2 : s (9 + (t : Int)) + yG (yVl s n) (yWt s n) (fun j => yB s n fr j && !decide (j = mpl s n t)) n 0 (left - s (21 + t)) ≤ yG (yVl s n) (yWt s n) (yB s n fr) n 0 left := by
    rw [← e1, ← e2]
    exact c
  exact Int.le_trans (Int.add_le_add_left m _) c2
/-- any free things that fit -/
theorem yg_sum {s : zS} {n T : Nat} (hok : mok s n) : ∀ (k : Nat) (fr : Nat) (left : Int), k ≤ n → 0 ≤ left → (∀ u, u < k → T.testBit u = true → fr.testBit u = true) → bsum s 21 T k ≤ left → bsum s 9 T k ≤ yg s n fr left
  | 0, fr, left, _, hl, _, _ => yG_nn (yrt hok) n 0 left (by omega) hl
  | k + 1, fr, left, hk, hl, hT, hs => by
    rw [bsum] at hs ⊢
    by_cases c : T.testBit k = true
    · rw [if_pos c] at hs ⊢
      have hp := hok.2.2.2 k (by omega)
      have h0 := (bsum_bd (r := s) (f := 21) (c := 50) (set := T) k (fun t ht => by have := (hok.2.2.2 t (by omega)).2.1; omega)).1
      have ih := yg_sum hok k (ndf fr (2 ^ k)) (left - s (21 + k)) (by omega) (by omega) (fun u hu q => by
        rw [ndf_bit, hT u (by omega) q, zpow_bit, decide_eq_false (by omega)]
        rfl) (by omega)
      have := yg_take hok (fr' := ndf fr (2 ^ k)) (show k < n by omega) (hT k (by omega) c) (show s (21 + k) ≤ left by omega) (fun u q => by
        rw [ndf_bit, zpow_bit, Bool.and_eq_true, Bool.not_eq_true', decide_eq_false_iff_not] at q
        exact ⟨q.1, fun w => q.2 w.symm⟩)
      omega
    · rw [if_neg c] at hs ⊢
      have := yg_sum hok k fr left (by omega) hl (fun u hu q => hT u (by omega) q) (by omega)
      omega
theorem bsum_nd {r : Int → Int} {f : Int} {S i : Nat} : ∀ n : Nat, (∀ t, i.testBit t = true → S.testBit t = true) → bsum r f S n = bsum r f i n + bsum r f (ndf S i) n
  | 0, _ => rfl
  | n + 1, h => by
    rw [bsum, bsum, bsum, bsum_nd n h, ndf_bit]
    cases ci : i.testBit n with
    | true => rw [h n ci]; simp; omega
    | false =>
      cases cs : S.testBit n <;> simp <;> omega
theorem mfree_iff {s : zS} {n i o t : Nat} : (mfree s n i o).testBit t = true ↔ t < n ∧ (i.testBit t = false ∧ o.testBit t = false) ∧ mb s t &&& i = 0 ∧ s (21 + t) ≤ mleft s n i := by
  rw [mfr_bit]
  simp [mfc]
theorem mleft_nn {s : zS} {n i : Nat} (h : mposs s n i = true) : 0 ≤ mleft s n i := by
  have := (mposs_iff.mp h).1
  show 0 ≤ s 1 - bsum s 21 i n
  omega
/-- a node's bound is at least the sum of every choice that keeps to what it fixes -/
theorem ybound {s : zS} {n i o S : Nat} (hok : mok s n) (hi : mposs s n i = true) (hS : mposs s n S = true) (hiS : ∀ t, i.testBit t = true → S.testBit t = true) (hoS : ∀ t, o.testBit t = true → S.testBit t = false) : bsum s 9 S n ≤ mbound s n i o := by
  have hl := mleft_nn hi
  obtain ⟨hS1, hS2⟩ := mposs_iff.mp hS
  have hn : bsum s 21 (ndf S i) n ≤ mleft s n i := by
    have := bsum_nd (r := s) (f := 21) n hiS
    show _ ≤ s 1 - bsum s 21 i n
    omega
  rw [mbound_yg hok hl, bsum_nd n hiS]
  have key := yg_sum hok (T := ndf S i) n (mfree s n i o) (mleft s n i) (Nat.le_refl _) hl (fun u hu q => by
    rw [ndf_bit, Bool.and_eq_true, Bool.not_eq_true'] at q
    refine mfree_iff.mpr ⟨hu, ⟨q.2, ?_⟩, ?_, ?_⟩
    · cases c : o.testBit u with
      | false => rfl
      | true => rw [hoS u c] at q; exact zft q.1
    · have h0 := hS2 u hu q.1
      refine Nat.eq_of_testBit_eq (fun t => ?_)
      have := congrArg (fun z => Nat.testBit z t) h0
      simp only [Nat.testBit_and, Nat.zero_testBit] at this ⊢
      cases c : i.testBit t with
      | false => simp
      | true => rw [hiS t c] at this; exact this
    · have e : (ndf S i).testBit u = true := by rw [ndf_bit, q.1, q.2]; rfl
      have : s (21 + (u : Int)) ≤ bsum s 21 (ndf S i) n := by
        have go : ∀ m : Nat, m ≤ n → u < m → s (21 + (u : Int)) ≤ bsum s 21 (ndf S i) m := by
          intro m
          induction m with
          | zero => intro _ h; omega
          | succ m ih =>
            intro hm hum
            have h0 := (bsum_bd (r := s) (f := 21) (c := 50) (set := ndf S i) m (fun t ht => by have := (hok.2.2.2 t (by omega)).2.1; omega)).1
            have hw := (hok.2.2.2 m (by omega)).2.1
            rw [bsum]
            by_cases c : u = m
            · subst c; rw [if_pos e]; omega
            · have := ih (by omega) (by omega)
              split <;> omega
        exact go n (Nat.le_refl _) hu
      omega) hn
  omega
/-- bounds do not rise from a parent to a child -/
theorem yout {s : zS} {n i o t : Nat} (hok : mok s n) (hi : mposs s n i = true) : mbound s n i (o ||| 2 ^ t) ≤ mbound s n i o := by
  have hl := mleft_nn hi
  rw [mbound_yg hok hl, mbound_yg hok hl]
  have := yg_mono hok hl (fr := mfree s n i (o ||| 2 ^ t)) (fr' := mfree s n i o) (fun u q => by
    obtain ⟨q1, ⟨q2, q3⟩, q4, q5⟩ := mfree_iff.mp q
    rw [Nat.testBit_or, Bool.or_eq_false_iff] at q3
    exact mfree_iff.mpr ⟨q1, ⟨q2, q3.1⟩, q4, q5⟩)
  omega
theorem yposs_in {s : zS} {n i o t : Nat} (hsym : msym s n) (hi : mposs s n i = true) (hb : (mfree s n i o).testBit t = true) : mposs s n (i ||| 2 ^ t) = true := by
  obtain ⟨h1, h2⟩ := mposs_iff.mp hi
  obtain ⟨q1, ⟨q2, q3⟩, q4, q5⟩ := mfree_iff.mp hb
  have q5 : s (21 + (t : Int)) ≤ s 1 - bsum s 21 i n := q5
  refine mposs_iff.mpr ⟨?_, fun u hu c => ?_⟩
  · rw [bsum_add q2, if_pos q1]
    omega
  · have b4 : ∀ x, (mb s t).testBit x = true → i.testBit x = false := fun x hx => by
      have := congrArg (fun z => Nat.testBit z x) q4
      simp only [Nat.testBit_and, Nat.zero_testBit, hx, Bool.true_and] at this
      exact this
    refine Nat.eq_of_testBit_eq (fun x => ?_)
    rw [Nat.testBit_and, Nat.zero_testBit, Nat.testBit_or, zpow_bit]
    rw [Nat.testBit_or, zpow_bit, Bool.or_eq_true, decide_eq_true_eq] at c
    have hux : (mb s u).testBit x = true → x < n := fun q => by
      rcases Nat.lt_or_ge x n with w | w
      · exact w
      · rw [zlt_bits (hsym u hu).1 w] at q; exact zft q
    cases cx : (mb s u).testBit x with
    | false => simp
    | true =>
      have hx := hux cx
      rw [Bool.true_and, Bool.or_eq_false_iff, decide_eq_false_iff_not]
      rcases c with c | c
      · have h0 := congrArg (fun z => Nat.testBit z x) (h2 u hu c)
        simp only [Nat.testBit_and, Nat.zero_testBit, cx, Bool.true_and] at h0
        refine ⟨h0, fun w => ?_⟩
        subst w
        rw [(hsym u hu).2.1 t hx] at cx
        rw [b4 u cx] at c
        exact zft c
      · subst c
        refine ⟨b4 x cx, fun w => ?_⟩
        subst w
        rw [(hsym t hu).2.2] at cx
        exact zft cx
theorem yin {s : zS} {n i o t : Nat} (hok : mok s n) (hsym : msym s n) (hi : mposs s n i = true) (hb : (mfree s n i o).testBit t = true) : mbound s n (i ||| 2 ^ t) o ≤ mbound s n i o := by
  obtain ⟨q1, ⟨q2, q3⟩, q4, q5⟩ := mfree_iff.mp hb
  have hl := mleft_nn hi
  have hl2 := mleft_nn (yposs_in hsym hi hb)
  have e : mleft s n (i ||| 2 ^ t) = mleft s n i - s (21 + t) := by
    show s 1 - bsum s 21 (i ||| 2 ^ t) n = s 1 - bsum s 21 i n - s (21 + t)
    rw [bsum_add q2, if_pos q1]
    omega
  rw [mbound_yg hok hl, mbound_yg hok hl2, bsum_add q2, if_pos q1, e]
  have := yg_take hok (fr := mfree s n i o) (fr' := mfree s n (i ||| 2 ^ t) o) q1 hb q5 (fun u q => by
    obtain ⟨p1, ⟨p2, p3⟩, p4, p5⟩ := mfree_iff.mp q
    rw [Nat.testBit_or, Bool.or_eq_false_iff, zpow_bit, decide_eq_false_iff_not] at p2
    refine ⟨mfree_iff.mpr ⟨p1, ⟨p2.1, p3⟩, ?_, ?_⟩, fun w => p2.2 w.symm⟩
    · refine Nat.eq_of_testBit_eq (fun x => ?_)
      have := congrArg (fun z => Nat.testBit z x) p4
      simp only [Nat.testBit_and, Nat.zero_testBit, Nat.testBit_or] at this ⊢
      cases c : (mb s u).testBit x with
      | false => simp
      | true =>
        rw [c, Bool.true_and, Bool.or_eq_false_iff] at this
        rw [this.1]
        rfl
    · rw [e] at p5
      have := (hok.2.2.2 t q1).2.1
      omega)
  omega
/-- the heel is a choice that keeps to what the node fixes -/
theorem yheel_go {s : zS} {n i o fr : Nat} (hok : mok s n) (hsym : msym s n) (hfr : ∀ t, fr.testBit t = true → t < n ∧ i.testBit t = false ∧ o.testBit t = false) : ∀ (m k set : Nat) (left : Int), k + m = n → mposs s n set = true → left = s 1 - bsum s 21 set n → (∀ t, i.testBit t = true → set.testBit t = true) → (∀ t, set.testBit t = true → i.testBit t = true ∨ (fr.testBit t = true ∧ mpl s n t < k)) → mposs s n (mhl s n fr m k set left) = true ∧ (∀ t, i.testBit t = true → (mhl s n fr m k set left).testBit t = true) ∧ (∀ t, (mhl s n fr m k set left).testBit t = true → i.testBit t = true ∨ fr.testBit t = true)
  | 0, k, set, left, hk, hp, hl, h1, h2 => ⟨hp, h1, fun t q => (h2 t q).imp id (fun w => w.1)⟩
  | m + 1, k, set, left, hk, hp, hl, h1, h2 => by
    obtain ⟨hmo, hmp⟩ := mor_spec (s := s) hok.pos (show k < n by omega)
    have h2' : ∀ t, set.testBit t = true → i.testBit t = true ∨ (fr.testBit t = true ∧ mpl s n t < k + 1) := fun t q => (h2 t q).imp id (fun w => ⟨w.1, by omega⟩)
    rw [mhl]
    by_cases c : mhc s fr (mor s n k) set left = true
    · rw [if_pos c]
      generalize hu : mor s n k = u at *
      have c' : fr.testBit u = true ∧ s (21 + (u : Int)) ≤ left ∧ mb s u &&& set = 0 := by simpa [mhc] using c
      obtain ⟨c1, c2, c3⟩ := c'
      have hnot : set.testBit u = false := by
        cases q : set.testBit u with
        | false => rfl
        | true =>
          rcases h2 u q with w | w
          · rw [(hfr u c1).2.1] at w; exact zft w
          · omega
      have hin : mposs s n (set ||| 2 ^ u) = true := by
        refine yposs_in (o := 0) hsym hp (mfree_iff.mpr ⟨hmo, ⟨hnot, Nat.zero_testBit _⟩, c3, ?_⟩)
        show _ ≤ s 1 - bsum s 21 set n
        omega
      refine yheel_go hok hsym hfr m (k + 1) (set ||| 2 ^ u) (left - s (21 + (u : Int))) (by omega) hin ?_ (fun t q => ?_) (fun t q => ?_)
      · rw [bsum_add hnot, if_pos hmo]; omega
      · rw [Nat.testBit_or, h1 t q]; rfl
      · rw [Nat.testBit_or, zpow_bit, Bool.or_eq_true, decide_eq_true_eq] at q
        rcases q with q | q
        · exact h2' t q
        · subst q
          exact Or.inr ⟨c1, by omega⟩
    · rw [if_neg c]
      exact yheel_go hok hsym hfr m (k + 1) set left (by omega) hp hl h1 h2'
theorem yheel {s : zS} {n i o : Nat} (hok : mok s n) (hsym : msym s n) (hi : mposs s n i = true) (hio : ∀ t, i.testBit t = true → o.testBit t = false) : mposs s n (mheel s n i o) = true ∧ (∀ t, i.testBit t = true → (mheel s n i o).testBit t = true) ∧ (∀ t, o.testBit t = true → (mheel s n i o).testBit t = false) := by
  have hfr : ∀ t, (mfree s n i o).testBit t = true → t < n ∧ i.testBit t = false ∧ o.testBit t = false := fun t q => by
    obtain ⟨q1, q2, -⟩ := mfree_iff.mp q
    exact ⟨q1, q2⟩
  obtain ⟨a, b, c⟩ := yheel_go hok hsym hfr n 0 i (mleft s n i) (by omega) hi rfl (fun _ q => q) (fun _ q => Or.inl q)
  refine ⟨a, b, fun t q => ?_⟩
  cases w : (mheel s n i o).testBit t with
  | false => rfl
  | true =>
    rcases c t w with r | r
    · rw [hio t r] at q; exact zft q
    · rw [(hfr t r).2.2] at q; exact zft q
/-- a bound is never below the heel's sum -/
theorem yheel_le {s : zS} {n i o : Nat} (hok : mok s n) (hsym : msym s n) (hi : mposs s n i = true) (hio : ∀ t, i.testBit t = true → o.testBit t = false) : bsum s 9 (mheel s n i o) n ≤ mbound s n i o := by
  obtain ⟨a, b, c⟩ := yheel hok hsym hi hio
  exact ybound hok hi a b c
