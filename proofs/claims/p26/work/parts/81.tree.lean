/-! what always holds of a search's nodes -/
def ytk (s : zS) (k : Nat) : Bool := decide (nd s k 4 = 1 ∨ nd s k 4 = 2 ∨ nd s k 4 = 4)
def ycov (s : zS) (k S : Nat) : Prop := (∀ t, (ndi s k).testBit t = true → S.testBit t = true) ∧ ∀ t, (ndo s k).testBit t = true → S.testBit t = false
def yTs (s : zS) (n m : Nat) : Prop :=
  (∀ k : Nat, k < m → mposs s n (ndi s k) = true ∧ ∀ t, (ndi s k).testBit t = true → (ndo s k).testBit t = false) ∧
  (∀ k : Nat, 0 < k → k < m → ∃ p : Nat, p < k ∧ nd s k 0 = (p : Int) ∧ nd s k 3 ≤ nd s p 3 ∧ nd s p 4 = 4 ∧ nd s k 2 = 1 - (k : Int) % 2 ∧ pops (ndi s k ||| ndo s k) = pops (ndi s p ||| ndo s p) + 1) ∧
  (mposs s n (s 8).toNat = true ∧ bsum s 9 (s 8).toNat n = s 7) ∧
  s 6 = (zcnt m (ytk s) : Int)
def yTr (s : zS) (n m : Nat) (gave : Prop) : Prop := m = 0 ∨ (yTs s n m ∧ m % 2 = 1 ∧ (¬ gave → ∀ S : Nat, mposs s n S = true → bsum s 9 S n ≤ s 7 ∨ ∃ k, k < m ∧ nd s k 4 = 0 ∧ ycov s k S))
theorem zcnt_up {p p' : Nat → Bool} {k : Nat} (h0 : p k = false) (h1 : p' k = true) (h : ∀ j, j ≠ k → p' j = p j) : ∀ m : Nat, k < m → zcnt m p' = zcnt m p + 1
  | 0, hk => absurd hk (by omega)
  | m + 1, hk => by
    rw [zcnt, zcnt]
    by_cases c : k = m
    · subst c
      rw [zcnt_congr k p' p (fun j hj => h j (by omega)), h0, h1]
      rfl
    · rw [h m (by omega), zcnt_up h0 h1 h m (by omega)]
      omega
theorem pops_or {v t : Nat} (ht : t < 12) (h : v.testBit t = false) : pops (v ||| 2 ^ t) = pops v + 1 := by
  refine zcnt_up (k := t) h ?_ (fun j hj => ?_) 12 ht
  · show (v ||| 2 ^ t).testBit t = true
    rw [Nat.testBit_or, zpow_bit]
    simp
  · show (v ||| 2 ^ t).testBit j = v.testBit j
    rw [Nat.testBit_or, zpow_bit, decide_eq_false (by omega), Bool.or_false]
/-- the row of a node that is possible -/
theorem ynode {s : zS} {n m k : Nat} (hw : minw s n m) (hT : yTs s n m) (hk : k < m) : nd s k 5 = (ndi s k : Int) ∧ nd s k 6 = (ndo s k : Int) ∧ ndi s k < 2 ^ n ∧ ndo s k < 2 ^ n ∧ nd s k 3 = mbound s n (ndi s k) (ndo s k) ∧ (ndi s k &&& ndo s k = 0) := by
  obtain ⟨i, o, hi, ho, hil, hol, hbd, -⟩ := hw.1.2.2.2.2.2.2.1 k hk
  have hii : ndi s k = i := by unfold ndi; rw [hi]; rfl
  have hoo : ndo s k = o := by unfold ndo; rw [ho]; rfl
  obtain ⟨h1, h2⟩ := hT.1 k hk
  rw [hii] at h1 h2 ⊢
  rw [hoo] at h2 ⊢
  refine ⟨hi, ho, hil, hol, ?_, ?_⟩
  · rw [hbd, mchild, if_pos h1]
  · refine Nat.eq_of_testBit_eq (fun t => ?_)
    rw [Nat.testBit_and, Nat.zero_testBit]
    cases c : i.testBit t with
    | false => rfl
    | true => rw [h2 t c]; rfl
/-- one open node is settled -/
theorem yTs.settle {s s' : zS} {n m k : Nat} {w : Int} (hn : n ≤ 12) (hT : yTs s n m) (hk : k < m) (hop : nd s k 4 = 0) (hw : w = 1 ∨ w = 2 ∨ w = 4) (hs : ∀ j : Int, (j < 6 ∨ (9 ≤ j ∧ j < 45)) → s' j = s j) (hnd : ∀ x : Nat, x < m → ∀ f : Int, 0 ≤ f → f < 7 → f ≠ 4 → nd s' x f = nd s x f) (ho : ∀ x : Nat, x < m → x ≠ k → nd s' x 4 = nd s x 4) (hkw : nd s' k 4 = w) (h6 : s' 6 = s 6 + 1) (h8 : mposs s n (s' 8).toNat = true ∧ bsum s 9 (s' 8).toNat n = s' 7) : yTs s' n m := by
  obtain ⟨t1, t2, t3, t4⟩ := hT
  have hmag : magr s s' := ⟨(hs 0 (by omega)).symm, (hs 1 (by omega)).symm, fun j c1 c2 => (hs j (by omega)).symm⟩
  have hi : ∀ x : Nat, x < m → ndi s' x = ndi s x := fun x hx => by unfold ndi; rw [hnd x hx 5 (by omega) (by omega) (by omega)]
  have hoo : ∀ x : Nat, x < m → ndo s' x = ndo s x := fun x hx => by unfold ndo; rw [hnd x hx 6 (by omega) (by omega) (by omega)]
  refine ⟨fun x hx => ?_, fun x hx0 hx => ?_, ?_, ?_⟩
  · rw [hi x hx, hoo x hx, ← ag_poss hmag hn]; exact t1 x hx
  · obtain ⟨p, q1, q2, q3, q4, q5, q6⟩ := t2 x hx0 hx
    have hpk : p ≠ k := fun c => by subst c; omega
    refine ⟨p, q1, ?_, ?_, ?_, ?_, ?_⟩
    · rw [hnd x hx 0 (by omega) (by omega) (by omega)]; exact q2
    · rw [hnd x hx 3 (by omega) (by omega) (by omega), hnd p (by omega) 3 (by omega) (by omega) (by omega)]; exact q3
    · rw [ho p (by omega) hpk]; exact q4
    · rw [hnd x hx 2 (by omega) (by omega) (by omega)]; exact q5
    · rw [hi x hx, hoo x hx, hi p (by omega), hoo p (by omega)]; exact q6
  · rw [← ag_poss hmag hn, ← ag_w hmag hn]; exact h8
  · rw [h6, t4]
    have := zcnt_up (p := ytk s) (p' := fun j => if j < m then ytk s' j else ytk s j) (k := k) ?_ ?_ ?_ m hk
    · rw [zcnt_congr m (ytk s') (fun j => if j < m then ytk s' j else ytk s j) (fun j hj => by rw [if_pos hj]), this]
      omega
    · unfold ytk; rw [hop]; decide
    · show (if k < m then ytk s' k else ytk s k) = true
      rw [if_pos hk]
      unfold ytk
      rw [hkw]
      exact decide_eq_true hw
    · intro j hj
      show (if j < m then ytk s' j else ytk s j) = ytk s j
      by_cases c : j < m
      · rw [if_pos c]; unfold ytk; rw [ho j c hj]
      · rw [if_neg c]
/-- a child is made -/
theorem yTs.more {s : zS} {n m k t i o : Nat} {bb : Int} (hok : mok s n) (h5 : s 5 = (m : Int)) (hT : yTs s n m) (hk : k < m) (h4 : nd s k 4 = 4) (hbb : bb = 1 - (m : Int) % 2) (hi : mposs s n i = true) (hio : ∀ u, i.testBit u = true → o.testBit u = false) (hb : mbound s n i o ≤ nd s k 3) (hp : pops (i ||| o) = pops (ndi s k ||| ndo s k) + 1) : yTs (mmk s n k t bb i o) n (m + 1) := by
  obtain ⟨t1, t2, t3, t4⟩ := hT
  have hn := hok.2.1
  have old : ∀ j : Int, j ≠ 5 ∧ j < 45 + 7 * m → mmk s n k t bb i o j = s j := fun j hj => mmk_old h5 hj
  have hmag : magr s (mmk s n k t bb i o) := mmk_ag h5
  have nold : ∀ x : Nat, x < m → ∀ f : Int, 0 ≤ f → f < 7 → nd (mmk s n k t bb i o) x f = nd s x f := fun x hx f c1 c2 => old _ (by omega)
  have hi' : ∀ x : Nat, x < m → ndi (mmk s n k t bb i o) x = ndi s x := fun x hx => by unfold ndi; rw [nold x hx 5 (by omega) (by omega)]
  have ho' : ∀ x : Nat, x < m → ndo (mmk s n k t bb i o) x = ndo s x := fun x hx => by unfold ndo; rw [nold x hx 6 (by omega) (by omega)]
  have im : ndi (mmk s n k t bb i o) m = i := by unfold ndi; rw [mmk_n5 h5]; rfl
  have om : ndo (mmk s n k t bb i o) m = o := by unfold ndo; rw [mmk_n6 h5]; rfl
  refine ⟨fun x hx => ?_, fun x hx0 hx => ?_, ?_, ?_⟩
  · by_cases c : x = m
    · subst c
      rw [im, om, ← ag_poss hmag hn]; exact ⟨hi, hio⟩
    · rw [hi' x (by omega), ho' x (by omega), ← ag_poss hmag hn]; exact t1 x (by omega)
  · by_cases c : x = m
    · subst c
      refine ⟨k, hk, mmk_0 h5, ?_, ?_, ?_, ?_⟩
      · rw [mmk_3 h5, nold k hk 3 (by omega) (by omega), mchild, if_pos hi]; exact hb
      · rw [nold k hk 4 (by omega) (by omega)]; exact h4
      · rw [mmk_2 h5]; exact hbb
      · rw [im, om, hi' k hk, ho' k hk]; exact hp
    · obtain ⟨p, q1, q2, q3, q4, q5, q6⟩ := t2 x hx0 (by omega)
      refine ⟨p, q1, ?_, ?_, ?_, ?_, ?_⟩
      · rw [nold x (by omega) 0 (by omega) (by omega)]; exact q2
      · rw [nold x (by omega) 3 (by omega) (by omega), nold p (by omega) 3 (by omega) (by omega)]; exact q3
      · rw [nold p (by omega) 4 (by omega) (by omega)]; exact q4
      · rw [nold x (by omega) 2 (by omega) (by omega)]; exact q5
      · rw [hi' x (by omega), ho' x (by omega), hi' p (by omega), ho' p (by omega)]; exact q6
  · rw [old 8 (by omega), old 7 (by omega), ← ag_poss hmag hn, ← ag_w hmag hn]; exact t3
  · rw [old 6 (by omega), t4, zcnt]
    have e : zcnt m (ytk (mmk s n k t bb i o)) = zcnt m (ytk s) := zcnt_congr m _ _ (fun j hj => by unfold ytk; rw [nold j hj 4 (by omega) (by omega)])
    have e2 : ytk (mmk s n k t bb i o) m = false := by
      unfold ytk
      rw [mmk_4 h5]
      unfold mhow
      split <;> decide
    rw [e, e2]
    rfl
/-- the best sum behind a look at a heel -/
theorem mtk2_best {s : zS} {n m k : Nat} (hw : minw s n m) (hT : yTs s n m) (hk : k < m) : (mposs s n (mtk2 s n k 8).toNat = true ∧ bsum s 9 (mtk2 s n k 8).toNat n = mtk2 s n k 7) ∧ s 7 ≤ mtk2 s n k 7 ∧ bsum s 9 (mheel s n (ndi s k) (ndo s k)) n ≤ mtk2 s n k 7 := by
  obtain ⟨h1, h2⟩ := hT.1 k hk
  have hh := (yheel hw.1.1 hw.1.2.1 h1 h2).1
  unfold mtk2
  split
  · next c =>
    rw [ru_s, ru_n (show (7 : Int) ≠ 8 by omega), ru_s, Int.toNat_natCast]
    exact ⟨⟨hh, rfl⟩, by omega, Int.le_refl _⟩
  · next c =>
    rw [ru_n (by omega), ru_n (by omega)]
    exact ⟨hT.2.2.1, Int.le_refl _, by omega⟩
theorem mtk2_6 {s : zS} {n k : Nat} : mtk2 s n k 6 = s 6 + 1 := by
  unfold mtk2
  split
  · rw [ru_n (by omega), ru_n (by omega), ru_s]
  · exact ru_s
