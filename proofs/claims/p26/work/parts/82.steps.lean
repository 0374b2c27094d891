/-! a step keeps what holds of the nodes -/
/-- one open node is settled: what becomes of the cover -/
theorem ycov.settle {s s' : zS} {n m k : Nat} {gave : Prop} (h7 : s 7 ≤ s' 7) (hn : n ≤ 12) (hmag : magr s s') (hnd : ∀ x : Nat, x < m → ∀ f : Int, 0 ≤ f → f < 7 → f ≠ 4 → nd s' x f = nd s x f) (ho : ∀ x : Nat, x < m → x ≠ k → nd s' x 4 = nd s x 4)
    (hc : ¬ gave → ∀ S : Nat, mposs s n S = true → bsum s 9 S n ≤ s 7 ∨ ∃ j, j < m ∧ nd s j 4 = 0 ∧ ycov s j S) :
    ¬ gave → ∀ S : Nat, mposs s' n S = true → bsum s' 9 S n ≤ s' 7 ∨ (∃ j, j < m ∧ nd s' j 4 = 0 ∧ ycov s' j S) ∨ ycov s k S := by
  intro hg S hS
  rw [← ag_poss hmag hn] at hS
  rw [← ag_w hmag hn]
  rcases hc hg S hS with q | ⟨j, q1, q2, q3⟩
  · exact Or.inl (by omega)
  · by_cases c : j = k
    · subst c
      exact Or.inr (Or.inr q3)
    · refine Or.inr (Or.inl ⟨j, q1, by rw [ho j q1 c]; exact q2, ?_⟩)
      have hi : ndi s' j = ndi s j := by unfold ndi; rw [hnd j q1 5 (by omega) (by omega) (by omega)]
      have hoo : ndo s' j = ndo s j := by unfold ndo; rw [hnd j q1 6 (by omega) (by omega) (by omega)]
      unfold ycov
      rw [hi, hoo]
      exact q3
theorem ycov.le {s : zS} {n m k S : Nat} (hw : minw s n m) (hT : yTs s n m) (hk : k < m) (hS : mposs s n S = true) (hc : ycov s k S) : bsum s 9 S n ≤ nd s k 3 := by
  rw [(ynode hw hT hk).2.2.2.2.1]
  exact ybound hw.1.1 (hT.1 k hk).1 hS hc.1 hc.2
set_option maxHeartbeats 1000000 in
theorem yTr.takes {s : zS} {n m k : Nat} {gave : Prop} (hw : minw s n m) (hT : yTr s n m gave) (hk : k < m) (hop : nd s k 4 = 0) (hf : (mtakes s n k).1 ≠ -3) : yTr (mtakes s n k).2 n (if (mtakes s n k).1 = 4 then m + 2 else m) gave ∧ (mtakes s n k).2 6 = s 6 + 1 ∧ s 7 ≤ (mtakes s n k).2 7 := by
  rcases hT with hT | ⟨hT, hodd, hcov⟩
  · omega
  obtain ⟨⟨hok, hsym, h2, h3, ⟨h5, hm⟩, h4, hn, h7, h8, h0⟩, h6, hs⟩ := id hw
  have hn12 := hok.2.1
  obtain ⟨e5, e6, hil, hol, hbd, hio⟩ := ynode hw hT hk
  obtain ⟨hps, hdis⟩ := hT.1 k hk
  unfold mtakes at hf ⊢
  by_cases c1 : nd s k 3 ≤ s 7
  · rw [if_pos c1, if_neg (show ¬ (1 : Int) = 4 by decide)]
    show yTr (ru (ru s 6 (s 6 + 1)) (45 + 7 * k + 4) 1) n m gave ∧ ru (ru s 6 (s 6 + 1)) (45 + 7 * k + 4) 1 6 = s 6 + 1 ∧ s 7 ≤ ru (ru s 6 (s 6 + 1)) (45 + 7 * k + 4) 1 7
    have e : ∀ j : Int, j ≠ 6 → j ≠ 45 + 7 * k + 4 → ru (ru s 6 (s 6 + 1)) (45 + 7 * k + 4) 1 j = s j := fun j a b => by rw [ru_n b, ru_n a]
    have e66 : ru (ru s 6 (s 6 + 1)) (45 + 7 * k + 4) 1 6 = s 6 + 1 := by rw [ru_n (by omega), ru_s]
    have ek : nd (ru (ru s 6 (s 6 + 1)) (45 + 7 * k + 4) 1) k 4 = 1 := ru_s
    generalize ru (ru s 6 (s 6 + 1)) (45 + 7 * k + 4) 1 = s' at *
    have hs' : ∀ j : Int, (j < 6 ∨ (9 ≤ j ∧ j < 45)) → s' j = s j := fun j hj => e j (by omega) (by omega)
    have hnd : ∀ x : Nat, x < m → ∀ f : Int, 0 ≤ f → f < 7 → f ≠ 4 → nd s' x f = nd s x f := fun x hx f a b c => e _ (by omega) (by omega)
    have ho : ∀ x : Nat, x < m → x ≠ k → nd s' x 4 = nd s x 4 := fun x hx c => e _ (by omega) (by omega)
    have hmag : magr s s' := ⟨(hs' 0 (by omega)).symm, (hs' 1 (by omega)).symm, fun j a b => (hs' j (by omega)).symm⟩
    have e7 : s' 7 = s 7 := e 7 (by omega) (by omega)
    have e8 : s' 8 = s 8 := e 8 (by omega) (by omega)
    refine ⟨Or.inr ⟨hT.settle hn12 hk hop (Or.inl rfl) hs' hnd ho ek e66 (by rw [e8, e7]; exact hT.2.2.1), hodd, fun hg S hS => ?_⟩, e66, by omega⟩
    rcases ycov.settle (k := k) (Int.le_of_eq e7.symm) hn12 hmag hnd ho hcov hg S hS with q | q | q
    · exact Or.inl q
    · exact Or.inr q
    · rw [← ag_poss hmag hn12] at hS
      have := ycov.le hw hT hk hS q
      rw [← ag_w hmag hn12]
      exact Or.inl (by omega)
  · rw [if_neg c1] at hf ⊢
    obtain ⟨b1, b2, b3⟩ := mtk2_best hw hT hk
    have gen : ∀ w : Int, (w = 2 ∨ w = 4) → yTs (ru (mtk2 s n k) (45 + 7 * k + 4) w) n m ∧ (∀ j : Int, (j < 6 ∨ (9 ≤ j ∧ j < 45)) → ru (mtk2 s n k) (45 + 7 * k + 4) w j = s j) ∧ (∀ x : Nat, x < m → ∀ f : Int, 0 ≤ f → f < 7 → f ≠ 4 → nd (ru (mtk2 s n k) (45 + 7 * k + 4) w) x f = nd s x f) ∧ (∀ x : Nat, x < m → x ≠ k → nd (ru (mtk2 s n k) (45 + 7 * k + 4) w) x 4 = nd s x 4) ∧ nd (ru (mtk2 s n k) (45 + 7 * k + 4) w) k 4 = w ∧ ru (mtk2 s n k) (45 + 7 * k + 4) w 6 = s 6 + 1 ∧ ru (mtk2 s n k) (45 + 7 * k + 4) w 7 = mtk2 s n k 7 := by
      intro w hw2
      have hs' : ∀ j : Int, (j < 6 ∨ (9 ≤ j ∧ j < 45)) → ru (mtk2 s n k) (45 + 7 * k + 4) w j = s j := fun j hj => by rw [ru_n (by omega), mtk2_old (by omega)]
      have hnd : ∀ x : Nat, x < m → ∀ f : Int, 0 ≤ f → f < 7 → f ≠ 4 → nd (ru (mtk2 s n k) (45 + 7 * k + 4) w) x f = nd s x f := fun x hx f a b c => by
        show ru (mtk2 s n k) (45 + 7 * k + 4) w (45 + 7 * x + f) = s (45 + 7 * x + f)
        rw [ru_n (by omega), mtk2_old (by omega)]
      have ho : ∀ x : Nat, x < m → x ≠ k → nd (ru (mtk2 s n k) (45 + 7 * k + 4) w) x 4 = nd s x 4 := fun x hx c => by
        show ru (mtk2 s n k) (45 + 7 * k + 4) w (45 + 7 * x + 4) = s (45 + 7 * x + 4)
        rw [ru_n (by omega), mtk2_old (by omega)]
      have ek : nd (ru (mtk2 s n k) (45 + 7 * k + 4) w) k 4 = w := ru_s
      have e66 : ru (mtk2 s n k) (45 + 7 * k + 4) w 6 = s 6 + 1 := by rw [ru_n (by omega), mtk2_6]
      have e7 : ru (mtk2 s n k) (45 + 7 * k + 4) w 7 = mtk2 s n k 7 := ru_n (by omega)
      have e8 : ru (mtk2 s n k) (45 + 7 * k + 4) w 8 = mtk2 s n k 8 := ru_n (by omega)
      exact ⟨hT.settle hn12 hk hop (Or.inr hw2) hs' hnd ho ek e66 (by rw [e8, e7]; exact b1), hs', hnd, ho, ek, e66, e7⟩
    by_cases c2 : nd s k 3 ≤ bsum s 9 (mheel s n (ndi s k) (ndo s k)) n
    · rw [if_pos c2, if_neg (show ¬ (2 : Int) = 4 by decide)]
      show yTr (ru (mtk2 s n k) (45 + 7 * k + 4) 2) n m gave ∧ ru (mtk2 s n k) (45 + 7 * k + 4) 2 6 = s 6 + 1 ∧ s 7 ≤ ru (mtk2 s n k) (45 + 7 * k + 4) 2 7
      obtain ⟨g1, hs', hnd, ho, ek, e66, e7⟩ := gen 2 (Or.inl rfl)
      generalize ru (mtk2 s n k) (45 + 7 * k + 4) 2 = s' at *
      have hmag : magr s s' := ⟨(hs' 0 (by omega)).symm, (hs' 1 (by omega)).symm, fun j a b => (hs' j (by omega)).symm⟩
      refine ⟨Or.inr ⟨g1, hodd, fun hg S hS => ?_⟩, e66, by omega⟩
      rcases ycov.settle (k := k) (by omega) hn12 hmag hnd ho hcov hg S hS with q | q | q
      · exact Or.inl q
      · exact Or.inr q
      · rw [← ag_poss hmag hn12] at hS
        have := ycov.le hw hT hk hS q
        rw [← ag_w hmag hn12]
        exact Or.inl (by omega)
    · rw [if_neg c2] at hf ⊢
      by_cases c3 : 400 < s 5 + 2
      · rw [if_pos c3] at hf
        exact absurd rfl hf
      · rw [if_neg c3, if_pos rfl]
        have hch : nd s k 3 = mchild s n (ndi s k) (ndo s k) := by rw [hbd, mchild, if_pos hps]
        rw [hch] at c2
        obtain ⟨t, ht, htn, hbt⟩ := mbranch_free (c := s 3) hok hps c2
        obtain ⟨-, hti, hto⟩ := mfree_free hbt
        show yTr (mtk4 s n k) n (m + 2) gave ∧ mtk4 s n k 6 = s 6 + 1 ∧ s 7 ≤ mtk4 s n k 7
        unfold mtk4
        rw [ht, Int.toNat_natCast]
        obtain ⟨g1, hs', hnd, ho, ek, e66, e7⟩ := gen 4 (Or.inr rfl)
        generalize ru (mtk2 s n k) (45 + 7 * k + 4) 4 = s1 at *
        have hmag : magr s s1 := ⟨(hs' 0 (by omega)).symm, (hs' 1 (by omega)).symm, fun j a b => (hs' j (by omega)).symm⟩
        have hii : ndi s1 k = ndi s k := by unfold ndi; rw [hnd k hk 5 (by omega) (by omega) (by omega)]
        have hoo : ndo s1 k = ndo s k := by unfold ndo; rw [hnd k hk 6 (by omega) (by omega) (by omega)]
        have eb1 : nd s1 k 3 = mbound s n (ndi s k) (ndo s k) := by rw [hnd k hk 3 (by omega) (by omega) (by omega), hbd]
        generalize hgi : ndi s k = i at *
        generalize hgo : ndo s k = o at *
        have hok1 := hmag.ok hok
        have h51 : s1 5 = (m : Int) := by rw [hs' 5 (by omega), h5]
        have hpin := yposs_in hsym hps hbt
        have hd1 : ∀ u, i.testBit u = true → (o ||| 2 ^ t).testBit u = false := fun u q => by
          rw [Nat.testBit_or, zpow_bit, hdis u q, Bool.false_or, decide_eq_false_iff_not]
          intro w
          subst w
          rw [hti] at q
          exact zft q
        have hd2 : ∀ u, (i ||| 2 ^ t).testBit u = true → o.testBit u = false := fun u q => by
          rw [Nat.testBit_or, zpow_bit, Bool.or_eq_true, decide_eq_true_eq] at q
          rcases q with q | q
          · exact hdis u q
          · subst q; exact hto
        have hiot : (i ||| o).testBit t = false := by rw [Nat.testBit_or, hti, hto]; rfl
        have ht12 : t < 12 := by omega
        have p1 : pops (i ||| (o ||| 2 ^ t)) = pops (ndi s1 k ||| ndo s1 k) + 1 := by
          rw [hii, hoo, ← Nat.or_assoc]
          exact pops_or ht12 hiot
        have w1 := yTs.more (t := t) (i := i) (o := o ||| 2 ^ t) (bb := 0) hok1 h51 g1 hk ek (by omega) (by rw [← ag_poss hmag hn12]; exact hps) hd1 (by rw [eb1, ← ag_bound hmag hn12 hok.pos]; exact yout hok hps) p1
        have old1 : ∀ j : Int, j ≠ 5 ∧ j < 45 + 7 * m → mmk s1 n k t 0 i (o ||| 2 ^ t) j = s1 j := fun j hj => mmk_old h51 hj
        have mag1 : magr s1 (mmk s1 n k t 0 i (o ||| 2 ^ t)) := mmk_ag h51
        have f52 : mmk s1 n k t 0 i (o ||| 2 ^ t) 5 = ((m + 1 : Nat) : Int) := by rw [mmk_5, h51]; rfl
        have c3a : nd (mmk s1 n k t 0 i (o ||| 2 ^ t)) m 3 = mbound s n i (o ||| 2 ^ t) := by rw [mmk_3 h51, mchild, ← ag_poss hmag hn12, if_pos hps, ← ag_bound hmag hn12 hok.pos]
        have c4a : nd (mmk s1 n k t 0 i (o ||| 2 ^ t)) m 4 = if mbound s n i (o ||| 2 ^ t) ≤ s1 7 then 3 else 0 := by
          rw [mmk_4 h51]
          unfold mhow
          rw [← ag_poss hmag hn12, hps, mchild, ← ag_poss hmag hn12, if_pos hps, ← ag_bound hmag hn12 hok.pos]
          by_cases q : mbound s n i (o ||| 2 ^ t) ≤ s1 7
          · rw [if_pos q, if_pos ⟨by omega, Or.inr q⟩]
          · rw [if_neg q, if_neg (fun w => by
              rcases w.2 with r | r
              · exact zft r.symm
              · exact q r)]
        have i5a : ndi (mmk s1 n k t 0 i (o ||| 2 ^ t)) m = i := by unfold ndi; rw [mmk_n5 h51]; rfl
        have o6a : ndo (mmk s1 n k t 0 i (o ||| 2 ^ t)) m = o ||| 2 ^ t := by unfold ndo; rw [mmk_n6 h51]; rfl
        generalize mmk s1 n k t 0 i (o ||| 2 ^ t) = s2 at *
        have mag2 := hmag.trans mag1
        have hok2 := mag2.ok hok
        have n2 : ∀ x : Nat, x < m → ∀ f : Int, 0 ≤ f → f < 7 → nd s2 x f = nd s1 x f := fun x hx f a b => old1 _ (by omega)
        have hii2 : ndi s2 k = i := by rw [← hii]; unfold ndi; rw [n2 k hk 5 (by omega) (by omega)]
        have hoo2 : ndo s2 k = o := by rw [← hoo]; unfold ndo; rw [n2 k hk 6 (by omega) (by omega)]
        have p2 : pops ((i ||| 2 ^ t) ||| o) = pops (ndi s2 k ||| ndo s2 k) + 1 := by
          rw [hii2, hoo2]
          have : (i ||| 2 ^ t) ||| o = (i ||| o) ||| 2 ^ t := by rw [Nat.or_assoc, Nat.or_assoc, Nat.or_comm (2 ^ t) o]
          rw [this]
          exact pops_or ht12 hiot
        have w2 := yTs.more (t := t) (i := i ||| 2 ^ t) (o := o) (bb := 1) hok2 f52 w1 (show k < m + 1 by omega) (by rw [n2 k hk 4 (by omega) (by omega)]; exact ek) (by omega) (by rw [← ag_poss mag2 hn12]; exact hpin) hd2 (by rw [n2 k hk 3 (by omega) (by omega), eb1, ← ag_bound mag2 hn12 hok.pos]; exact yin hok hsym hps hbt) p2
        have old2 : ∀ j : Int, j ≠ 5 ∧ j < 45 + 7 * (m + 1 : Nat) → mmk s2 n k t 1 (i ||| 2 ^ t) o j = s2 j := fun j hj => mmk_old f52 hj
        have mag3 : magr s2 (mmk s2 n k t 1 (i ||| 2 ^ t) o) := mmk_ag f52
        have c4b : nd (mmk s2 n k t 1 (i ||| 2 ^ t) o) (m + 1 : Nat) 4 = if mbound s n (i ||| 2 ^ t) o ≤ s2 7 then 3 else 0 := by
          rw [mmk_4 f52]
          unfold mhow
          rw [← ag_poss mag2 hn12, hpin, mchild, ← ag_poss mag2 hn12, if_pos hpin, ← ag_bound mag2 hn12 hok.pos]
          by_cases q : mbound s n (i ||| 2 ^ t) o ≤ s2 7
          · rw [if_pos q, if_pos ⟨by omega, Or.inr q⟩]
          · rw [if_neg q, if_neg (fun w => by
              rcases w.2 with r | r
              · exact zft r.symm
              · exact q r)]
        have i5b : ndi (mmk s2 n k t 1 (i ||| 2 ^ t) o) (m + 1 : Nat) = i ||| 2 ^ t := by unfold ndi; rw [mmk_n5 f52]; rfl
        have o6b : ndo (mmk s2 n k t 1 (i ||| 2 ^ t) o) (m + 1 : Nat) = o := by unfold ndo; rw [mmk_n6 f52]; rfl
        generalize mmk s2 n k t 1 (i ||| 2 ^ t) o = s3 at *
        have e73 : s3 7 = s1 7 := by rw [old2 7 (by omega), old1 7 (by omega)]
        have e63 : s3 6 = s1 6 := by rw [old2 6 (by omega), old1 6 (by omega)]
        have e72 : s2 7 = s1 7 := old1 7 (by omega)
        have mag := mag2.trans mag3
        refine ⟨Or.inr ⟨w2, by omega, fun hg S hS => ?_⟩, by omega, by omega⟩
        rw [← ag_poss mag hn12] at hS
        rw [← ag_w mag hn12]
        have hS1 : mposs s1 n S = true := by rw [← ag_poss hmag hn12]; exact hS
        rcases ycov.settle (k := k) (by omega) hn12 hmag hnd ho hcov hg S hS1 with q | ⟨j, q1, q2, q3⟩ | q
        · rw [← ag_w hmag hn12] at q
          exact Or.inl (by omega)
        · have nn : ∀ f : Int, 0 ≤ f → f < 7 → nd s3 j f = nd s1 j f := fun f a b => by
            show s3 (45 + 7 * j + f) = s1 (45 + 7 * j + f)
            rw [old2 _ (by omega), old1 _ (by omega)]
          refine Or.inr ⟨j, by omega, by rw [nn 4 (by omega) (by omega)]; exact q2, ?_⟩
          have hi3 : ndi s3 j = ndi s1 j := by unfold ndi; rw [nn 5 (by omega) (by omega)]
          have ho3 : ndo s3 j = ndo s1 j := by unfold ndo; rw [nn 6 (by omega) (by omega)]
          unfold ycov
          rw [hi3, ho3]
          exact q3
        · obtain ⟨r1, r2⟩ := q
          rw [hgi] at r1
          rw [hgo] at r2
          cases cS : S.testBit t with
          | false =>
            have cov : ∀ u, (o ||| 2 ^ t).testBit u = true → S.testBit u = false := fun u w => by
              rw [Nat.testBit_or, zpow_bit, Bool.or_eq_true, decide_eq_true_eq] at w
              rcases w with w | w
              · exact r2 u w
              · subst w; exact cS
            by_cases q : mbound s n i (o ||| 2 ^ t) ≤ s1 7
            · have := ybound hok hps hS r1 cov
              exact Or.inl (by omega)
            · rw [if_neg q] at c4a
              have nn : ∀ f : Int, 0 ≤ f → f < 7 → nd s3 m f = nd s2 m f := fun f a b => old2 _ (by omega)
              refine Or.inr ⟨m, by omega, by rw [nn 4 (by omega) (by omega)]; exact c4a, ?_⟩
              have hi3 : ndi s3 m = i := by rw [← i5a]; unfold ndi; rw [nn 5 (by omega) (by omega)]
              have ho3 : ndo s3 m = o ||| 2 ^ t := by rw [← o6a]; unfold ndo; rw [nn 6 (by omega) (by omega)]
              unfold ycov
              rw [hi3, ho3]
              exact ⟨r1, cov⟩
          | true =>
            have cov : ∀ u, (i ||| 2 ^ t).testBit u = true → S.testBit u = true := fun u w => by
              rw [Nat.testBit_or, zpow_bit, Bool.or_eq_true, decide_eq_true_eq] at w
              rcases w with w | w
              · exact r1 u w
              · subst w; exact cS
            by_cases q : mbound s n (i ||| 2 ^ t) o ≤ s2 7
            · have := ybound hok hpin hS cov r2
              exact Or.inl (by omega)
            · rw [if_neg q] at c4b
              refine Or.inr ⟨m + 1, by omega, c4b, ?_⟩
              unfold ycov
              rw [i5b, o6b]
              exact ⟨cov, r2⟩
/-- many steps -/
theorem mwalk_tr {order : Int} {u : Bool} {n : Nat} {gave : Prop} : ∀ (r : Nat) (s : zS) (m c : Nat), minw s n m → yTr s n m gave → ∀ c' s' m', mwalk order u n r s m c = some (c', s', m') → yTr s' n m' gave ∧ s' 6 - s 6 = (c' : Int) - c ∧ s 7 ≤ s' 7 ∧ m ≤ m'
  | 0, s, m, c, hw, hT, c', s', m', e => by
    rw [mwalk] at e
    injection e with e
    injection e with e1 e2
    injection e2 with e2 e3
    subst e1 e2 e3
    exact ⟨hT, by omega, Int.le_refl _, Nat.le_refl _⟩
  | r + 1, s, m, c, hw, hT, c', s', m', e => by
    rw [mwalk] at e
    by_cases h1 : mtk s order m = -5
    · rw [if_pos h1] at e
      injection e with e
      injection e with e1 e2
      injection e2 with e2 e3
      subst e1 e2 e3
      exact ⟨hT, by omega, Int.le_refl _, Nat.le_refl _⟩
    · rw [if_neg h1] at e
      obtain ⟨k, hk, hkm, hop⟩ := mtk_k h1
      rw [hk] at e
      by_cases h2 : (mtakes s n k).1 = -3
      · rw [if_pos h2] at e
        exact absurd e (by simp)
      · rw [if_neg h2] at e
        have hw2 := minw_takes hw hkm hop h2
        obtain ⟨t1, t2, t3⟩ := yTr.takes hw hT hkm hop h2
        by_cases h3 : u = true ∧ (mtakes s n k).1 ≠ 4
        · rw [if_pos h3] at e
          injection e with e
          injection e with e1 e2
          injection e2 with e2 e3
          subst e1 e2 e3
          rw [if_neg h3.2] at t1
          exact ⟨t1, by omega, t3, Nat.le_refl _⟩
        · rw [if_neg h3] at e
          obtain ⟨q1, q2, q3, q4⟩ := mwalk_tr r _ _ _ hw2 t1 c' s' m' e
          refine ⟨q1, by omega, by omega, ?_⟩
          split at q4 <;> omega
