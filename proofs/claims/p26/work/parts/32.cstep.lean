/-! the class takes a step -/
section CT
variable {g : zM} {b n m : Nat} {s : zS} {d : Nat} {Q : zP}
theorem mhow_c {par : Int} {i o : Nat} (h7 : 0 ≤ s 7) (hp : par ≠ -5) : mhow s n par i o = if mchild s n i o ≤ s 7 then 3 else 0 := by
  unfold mhow
  by_cases h1 : mposs s n i = true
  · have : ¬ mposs s n i = false := by rw [h1]; decide
    simp [hp, this]
  · have h2 : mposs s n i = false := by simpa using h1
    have h3 : mchild s n i o = 0 := if_neg h1
    rw [if_pos ⟨hp, Or.inl h2⟩, if_pos (by omega)]
theorem c_makeChild (hk : zKC b) (hr : RelC g b s n m) (hok : mok s n) (hsym : msym s n) (hm5 : s 5 = (m : Int)) (hm0 : 0 < m) (hm : m < 400) (h7 : 0 ≤ s 7 ∧ s 7 ≤ 1188) {k t i o : Nat} {bb : Int} (hk4 : k < 400) (ht : t < 12) (hil : i < 2 ^ n) (hol : o < 2 ^ n)
    (hQ : ∀ g' : zM, (∀ j, j ≠ b + 6 → j ≠ b + 6 + 1 → g' j = g j) → RelC g' b (mmk s n k t bb i o) n (m + 1) → Q none g') : zC (d + 4) 46 [zR b, zI k, zI t, zI i, zI o] g Q := by
  obtain ⟨hk0, hkb, hkn⟩ := id hk
  obtain ⟨hkb0, -⟩ := id hkb
  obtain ⟨hkn0, hkn1⟩ := id hkn
  have hn := hok.2.1
  have h2n := zp12 hn
  obtain ⟨-, -, r2, r3, r4, r5, r6⟩ := id hr
  have hch := mchild_rng (i := i) (o := o) hok
  obtain ⟨hmx, hmz⟩ := mchild_max (i := i) (o := o) hok
  have hhow := mhow_c (n := n) (i := i) (o := o) h7.1 (show (k : Int) ≠ -5 by omega)
  refine zC.go zm_X3_makeChild ⟨rfl, rfl⟩ rfl ?_
  (refine zW.go (zC_om _) (fun K hK => ?_); conv => whnf)
  (refine And.intro (by first | omega | assumption | rfl | exact zin_and | exact ⟨zin_and, by omega⟩ | exact ⟨by omega, zin_and⟩ | exact Nat.le_of_ble_eq_true rfl | exact ⟨Nat.le_of_ble_eq_true rfl, rfl⟩ | exact ⟨Nat.le_of_ble_eq_true rfl, by assumption⟩ | exact ⟨by omega, Nat.le_of_ble_eq_true rfl⟩ | exact ⟨⟨by assumption, by omega⟩, Nat.le_of_ble_eq_true rfl⟩ | decide) ?_; conv => whnf)
  (refine And.intro (by first | omega | assumption | rfl | exact zin_and | exact ⟨zin_and, by omega⟩ | exact ⟨by omega, zin_and⟩ | exact Nat.le_of_ble_eq_true rfl | exact ⟨Nat.le_of_ble_eq_true rfl, rfl⟩ | exact ⟨Nat.le_of_ble_eq_true rfl, by assumption⟩ | exact ⟨by omega, Nat.le_of_ble_eq_true rfl⟩ | exact ⟨⟨by assumption, by omega⟩, Nat.le_of_ble_eq_true rfl⟩ | decide) ?_; conv => whnf)
  (refine c_bound hkb hr.1 hok hsym hil hol ?_; conv => whnf)
  (refine And.intro (by first | omega | assumption | rfl | exact zin_and | exact ⟨zin_and, by omega⟩ | exact ⟨by omega, zin_and⟩ | exact Nat.le_of_ble_eq_true rfl | exact ⟨Nat.le_of_ble_eq_true rfl, rfl⟩ | exact ⟨Nat.le_of_ble_eq_true rfl, by assumption⟩ | exact ⟨by omega, Nat.le_of_ble_eq_true rfl⟩ | exact ⟨⟨by assumption, by omega⟩, Nat.le_of_ble_eq_true rfl⟩ | decide) ?_; conv => whnf)
  rw [hmx]
  (refine And.intro (by first | omega | assumption | rfl | exact zin_and | exact ⟨zin_and, by omega⟩ | exact ⟨by omega, zin_and⟩ | exact Nat.le_of_ble_eq_true rfl | exact ⟨Nat.le_of_ble_eq_true rfl, rfl⟩ | exact ⟨Nat.le_of_ble_eq_true rfl, by assumption⟩ | exact ⟨by omega, Nat.le_of_ble_eq_true rfl⟩ | exact ⟨⟨by assumption, by omega⟩, Nat.le_of_ble_eq_true rfl⟩ | decide) ?_; conv => whnf)
  (refine And.intro (by first | omega | assumption | rfl | exact zin_and | exact ⟨zin_and, by omega⟩ | exact ⟨by omega, zin_and⟩ | exact Nat.le_of_ble_eq_true rfl | exact ⟨Nat.le_of_ble_eq_true rfl, rfl⟩ | exact ⟨Nat.le_of_ble_eq_true rfl, by assumption⟩ | exact ⟨by omega, Nat.le_of_ble_eq_true rfl⟩ | exact ⟨⟨by assumption, by omega⟩, Nat.le_of_ble_eq_true rfl⟩ | decide) ?_; conv => whnf)
  obtain ⟨w, hw⟩ : ∃ w : Nat, mchild s n i o = (w : Int) := ⟨(mchild s n i o).toNat, by omega⟩
  have fin : ∀ (h : Nat) (Q' : zP), mhow s n k i o = (h : Int) → h < 4096 → (∀ g' : zM, (∀ j, j ≠ b + 6 → j ≠ b + 6 + 1 → g' j = g j) → RelC g' b (mmk s n k t bb i o) n (m + 1) → Q' none g') → zC (d + 3) 26 [zR (b + 6), zI k, zI t, zI i, zI o, zI w, zI h] g Q' := by
    intro h Q' hh h1 hQ'
    refine c_append hkn hr.2.1.1 hm (by omega) (by omega) (by omega) (by omega) (by omega) h1 (fun x hx => ?_)
    refine hQ' _ (fun j a c => ?_) (hr.snoc hn ?_ (fun j e1 e2 e3 => mmk_old hm5 ⟨e2, e3⟩))
    · rw [zup_ne a, zup_ne c]
    · rw [mmk_4 hm5, mmk_3 hm5, mmk_n5 hm5, mmk_n6 hm5, mmk_0 hm5, mmk_1 hm5, if_neg (by omega), if_neg (by omega), hw, hh]
      exact hx
  rw [hw] at hhow hch ⊢
  (refine And.intro (by first | omega | assumption | rfl | exact zin_and | exact ⟨zin_and, by omega⟩ | exact ⟨by omega, zin_and⟩ | exact Nat.le_of_ble_eq_true rfl | exact ⟨Nat.le_of_ble_eq_true rfl, rfl⟩ | exact ⟨Nat.le_of_ble_eq_true rfl, by assumption⟩ | exact ⟨by omega, Nat.le_of_ble_eq_true rfl⟩ | exact ⟨⟨by assumption, by omega⟩, Nat.le_of_ble_eq_true rfl⟩ | decide) ?_; conv => whnf)
  by_cases c1 : (w : Int) ≤ s 7
  · rw [if_pos c1] at hhow
    (refine And.intro (fun h => ?_) (fun h => by omega); conv => whnf)
    (refine hK _ _ _ _ (zW.go (zC_om _) (fun K hK => ?_)); conv => whnf)
    (refine And.intro (by first | omega | assumption | rfl | exact zin_and | exact ⟨zin_and, by omega⟩ | exact ⟨by omega, zin_and⟩ | exact Nat.le_of_ble_eq_true rfl | exact ⟨Nat.le_of_ble_eq_true rfl, rfl⟩ | exact ⟨Nat.le_of_ble_eq_true rfl, by assumption⟩ | exact ⟨by omega, Nat.le_of_ble_eq_true rfl⟩ | exact ⟨⟨by assumption, by omega⟩, Nat.le_of_ble_eq_true rfl⟩ | decide) ?_; conv => whnf)
    (refine fin 3 _ hhow (by omega) (fun g' hf hr' => ?_); conv => whnf)
    (refine And.intro (by first | omega | assumption | rfl | exact zin_and | exact ⟨zin_and, by omega⟩ | exact ⟨by omega, zin_and⟩ | exact Nat.le_of_ble_eq_true rfl | exact ⟨Nat.le_of_ble_eq_true rfl, rfl⟩ | exact ⟨Nat.le_of_ble_eq_true rfl, by assumption⟩ | exact ⟨by omega, Nat.le_of_ble_eq_true rfl⟩ | exact ⟨⟨by assumption, by omega⟩, Nat.le_of_ble_eq_true rfl⟩ | decide) ?_; conv => whnf)
    exact hQ g' hf hr'
  · rw [if_neg c1] at hhow
    (refine And.intro (fun h => by omega) (fun h => ?_); conv => whnf)
    (refine hK _ _ _ _ (zW.go (zC_om _) (fun K hK => ?_)); conv => whnf)
    (refine And.intro (by first | omega | assumption | rfl | exact zin_and | exact ⟨zin_and, by omega⟩ | exact ⟨by omega, zin_and⟩ | exact Nat.le_of_ble_eq_true rfl | exact ⟨Nat.le_of_ble_eq_true rfl, rfl⟩ | exact ⟨Nat.le_of_ble_eq_true rfl, by assumption⟩ | exact ⟨by omega, Nat.le_of_ble_eq_true rfl⟩ | exact ⟨⟨by assumption, by omega⟩, Nat.le_of_ble_eq_true rfl⟩ | decide) ?_; conv => whnf)
    (refine fin 0 _ hhow (by omega) (fun g' hf hr' => ?_); conv => whnf)
    (refine And.intro (by first | omega | assumption | rfl | exact zin_and | exact ⟨zin_and, by omega⟩ | exact ⟨by omega, zin_and⟩ | exact Nat.le_of_ble_eq_true rfl | exact ⟨Nat.le_of_ble_eq_true rfl, rfl⟩ | exact ⟨Nat.le_of_ble_eq_true rfl, by assumption⟩ | exact ⟨by omega, Nat.le_of_ble_eq_true rfl⟩ | exact ⟨⟨by assumption, by omega⟩, Nat.le_of_ble_eq_true rfl⟩ | decide) ?_; conv => whnf)
    exact hQ g' hf hr'
theorem ru_c {s : zS} {a c v w : Int} (h : a ≠ c) : ru (ru s a v) c w = ru (ru s c w) a v := by
  funext j
  unfold ru
  by_cases h1 : j = c
  · rw [if_pos h1, if_neg (by omega), if_pos h1]
  · rw [if_neg h1, if_neg h1]
theorem mmk_ru {par th bb : Int} {i o : Nat} {a v : Int} (hok : mok s n) (hm5 : s 5 = (m : Int)) (ha : 45 ≤ a) (ha' : a < 45 + 7 * m) : mmk (ru s a v) n par th bb i o = ru (mmk s n par th bb i o) a v := by
  have hag : magr s (ru s a v) := magr.rfl.ru (by omega)
  have h5 : ru s a v 5 = s 5 := ru_n (by omega)
  have h7 : ru s a v 7 = s 7 := ru_n (by omega)
  unfold mmk mhow
  rw [h5, h7, ← ag_child hag hok.2.1 hok.pos, ← ag_poss hag hok.2.1, hm5]
  rw [ru_c (a := a) (by omega), ru_c (a := a) (by omega), ru_c (a := a) (by omega), ru_c (a := a) (by omega), ru_c (a := a) (by omega), ru_c (a := a) (by omega), ru_c (a := a) (by omega), ru_c (a := a) (by omega)]
theorem RelC.settle {k : Nat} {x w : Int} (hr : RelC g b s n m) (hn : n ≤ 12) (hkm : k < m) (hx : pkd x w (nd s k 3) (nd s k 5) (nd s k 6) (if k = 0 then 0 else nd s k 0) (if k = 0 then 0 else nd s k 1)) : RelC (zup g (b + 6 + 1) k x) b (ru s (45 + 7 * k + 4) w) n m := by
  obtain ⟨h1, h2, h3⟩ := hr
  refine ⟨h1.frame (fun j a c => zup_ne (by omega)) (magr.rfl.ru (by omega)) hn, h2.up hkm hx, ?_⟩
  rw [zup_ne (by omega), ru_n (by omega), ru_n (by omega), ru_n (by omega), ru_n (by omega), ru_n (by omega)]
  exact h3
theorem c_takeStep (hk : zKC b) (hr : RelC g b s n m) (hinv : minv s n m) {k : Nat} {order : Int} (ho : zin order) (hkk : mtk s order m = (k : Int)) (hQ : ∀ g' : zM, (∀ j, j ≠ b → j ≠ b + 6 → j ≠ b + 6 + 1 → g' j = g j) → ((mtakes s n k).1 ≠ -3 → RelC g' b (mtakes s n k).2 n (if (mtakes s n k).1 = 4 then m + 2 else m)) → Q (some (zI (mtakes s n k).1)) g') : zC (d + 6) 44 [zR b, zI order] g Q := by
  obtain ⟨hk0, hkb, hkn⟩ := id hk
  obtain ⟨hkb0, -⟩ := id hkb
  obtain ⟨hkn0, hkn1⟩ := id hkn
  obtain ⟨hok, hsym, h2r, h3r, ⟨hm5, hm⟩, h4, hnodes, h7, h8, h0⟩ := id hinv
  have hn := hok.2.1
  have h2n := zp12 hn
  have hkm : k < m ∧ nd s k 4 = 0 := by
    have := mtk_rng s order m
    rw [hkk] at this
    omega
  obtain ⟨hkm, hop⟩ := hkm
  obtain ⟨i, o, hi, ho', hil, hol, h3, hh4, hps, -, -⟩ := hnodes k hkm
  have hps := hps hop
  have hii : ndi s k = i := by unfold ndi; rw [hi]; rfl
  have hoo : ndo s k = o := by unfold ndo; rw [ho']; rfl
  have hhl := mheel_lt (o := o) hok hil
  have hhs := msumw (set := mheel s n i o) hok
  have hag : magr s (ru s 6 (s 6 + 1)) := magr.rfl.ru (by omega)
  have hr1 : RelC (zup g b (4 : Nat) (g b (4 : Nat) + 1)) b (ru s 6 (s 6 + 1)) n m := by
    obtain ⟨-, -, r2, r3, r4, r5, r6⟩ := id hr
    refine hr.fld hn (fun j hj => ru_n (by omega)) ?_
    rw [zup_i (by decide), zup_i (by decide), zup_s, zup_i (by decide), zup_i (by decide), ru_n (by omega), ru_n (by omega), ru_s, ru_n (by omega), ru_n (by omega), r4]
    exact ⟨⟨r2, r3⟩, rfl, r5, r6⟩
  refine zC.go zm_X3_takeStep ⟨rfl, rfl⟩ rfl ?_
  (refine zW.go (zC_om _) (fun K hK => ?_); conv => whnf)
  (refine And.intro (by first | omega | assumption | rfl | exact zin_and | exact ⟨zin_and, by omega⟩ | exact ⟨by omega, zin_and⟩ | exact Nat.le_of_ble_eq_true rfl | exact ⟨Nat.le_of_ble_eq_true rfl, rfl⟩ | exact ⟨Nat.le_of_ble_eq_true rfl, by assumption⟩ | exact ⟨by omega, Nat.le_of_ble_eq_true rfl⟩ | exact ⟨⟨by assumption, by omega⟩, Nat.le_of_ble_eq_true rfl⟩ | decide) ?_; conv => whnf)
  (refine And.intro (by first | omega | assumption | rfl | exact zin_and | exact ⟨zin_and, by omega⟩ | exact ⟨by omega, zin_and⟩ | exact Nat.le_of_ble_eq_true rfl | exact ⟨Nat.le_of_ble_eq_true rfl, rfl⟩ | exact ⟨Nat.le_of_ble_eq_true rfl, by assumption⟩ | exact ⟨by omega, Nat.le_of_ble_eq_true rfl⟩ | exact ⟨⟨by assumption, by omega⟩, Nat.le_of_ble_eq_true rfl⟩ | decide) ?_; conv => whnf)
  (refine c_nextOpen hkn hr.2.1 hm ho ?_; conv => whnf)
  rw [hkk]
  (refine And.intro (by first | omega | assumption | rfl | exact zin_and | exact ⟨zin_and, by omega⟩ | exact ⟨by omega, zin_and⟩ | exact Nat.le_of_ble_eq_true rfl | exact ⟨Nat.le_of_ble_eq_true rfl, rfl⟩ | exact ⟨Nat.le_of_ble_eq_true rfl, by assumption⟩ | exact ⟨by omega, Nat.le_of_ble_eq_true rfl⟩ | exact ⟨⟨by assumption, by omega⟩, Nat.le_of_ble_eq_true rfl⟩ | decide) ?_; conv => whnf)
  (refine And.intro ⟨by assumption, fun w => absurd w (by decide)⟩ ?_; conv => whnf)
  (refine And.intro (by first | omega | assumption | rfl | exact zin_and | exact ⟨zin_and, by omega⟩ | exact ⟨by omega, zin_and⟩ | exact Nat.le_of_ble_eq_true rfl | exact ⟨Nat.le_of_ble_eq_true rfl, rfl⟩ | exact ⟨Nat.le_of_ble_eq_true rfl, by assumption⟩ | exact ⟨by omega, Nat.le_of_ble_eq_true rfl⟩ | exact ⟨⟨by assumption, by omega⟩, Nat.le_of_ble_eq_true rfl⟩ | decide) ?_; conv => whnf)
  have hf1 : ∀ j, j ≠ b → (zup g b (4 : Nat) (g b (4 : Nat) + 1)) j = g j := fun j a => zup_ne a
  generalize (zup g b (4 : Nat) (g b (4 : Nat) + 1)) = g1 at *
  have hs1 : ∀ j : Int, j ≠ 6 → ru s 6 (s 6 + 1) j = s j := fun j hj => ru_n hj
  (refine c_resultFor hk hr1 (hag.ok hok) (hsym.ag hn hag) hm (by rw [hs1 7 (by omega)]; exact h7) hkm (i := i) (o := o) (by unfold nd; rw [hs1 _ (by omega)]; exact hi) (by unfold nd; rw [hs1 _ (by omega)]; exact ho') hil hol (fun g2 hf2 hr2 => ?_); conv => whnf)
  have hnd3 : nd (ru s 6 (s 6 + 1)) k 3 = nd s k 3 := hs1 _ (by omega)
  rw [hnd3] at hr2 ⊢
  unfold mrow at hr2
  unfold mrs
  rw [hs1 7 (by omega), ← ag_heel hag hn hok.pos, ← ag_w hag hn] at hr2 ⊢
  unfold mtakes at hQ
  rw [hii, hoo] at hQ
  have hff : ∀ j, j ≠ b → j ≠ b + 6 → j ≠ b + 6 + 1 → g2 j = g j := fun j a _ _ => by rw [hf2 j a, hf1 j a]
  have set : ∀ (g3 : zM) (s3 : zS) (m' w : Nat) (Q' : zP), RelC g3 b s3 n m' → m' ≤ 400 → k < m' → w < 4096 → (∀ x, RelC (zup g3 (b + 6 + 1) k x) b (ru s3 (45 + 7 * k + 4) w) n m' → Q' none (zup g3 (b + 6 + 1) k x)) → zC (d + 5) 34 [zR (b + 6), zI k, zI w] g3 Q' := by
    intro g3 s3 m' w Q' hr3 hm' hk' hw hQ'
    obtain ⟨u, hu⟩ := hr3.2.1.2 k hk'
    exact c_settle hkn (by omega) ⟨u, hu⟩ hw (fun x hx => hQ' x (hr3.settle hn hk' hx))
  by_cases c1 : nd s k 3 ≤ s 7
  · rw [if_pos c1] at hQ hr2 ⊢
    (refine And.intro (by first | omega | assumption | rfl | exact zin_and | exact ⟨zin_and, by omega⟩ | exact ⟨by omega, zin_and⟩ | exact Nat.le_of_ble_eq_true rfl | exact ⟨Nat.le_of_ble_eq_true rfl, rfl⟩ | exact ⟨Nat.le_of_ble_eq_true rfl, by assumption⟩ | exact ⟨by omega, Nat.le_of_ble_eq_true rfl⟩ | exact ⟨⟨by assumption, by omega⟩, Nat.le_of_ble_eq_true rfl⟩ | decide) ?_; conv => whnf)
    (refine And.intro (fun h => ?_) (fun h => by omega); conv => whnf)
    (refine hK _ _ _ _ (zW.go (zC_om _) (fun K hK => ?_)); conv => whnf)
    (refine And.intro (by first | omega | assumption | rfl | exact zin_and | exact ⟨zin_and, by omega⟩ | exact ⟨by omega, zin_and⟩ | exact Nat.le_of_ble_eq_true rfl | exact ⟨Nat.le_of_ble_eq_true rfl, rfl⟩ | exact ⟨Nat.le_of_ble_eq_true rfl, by assumption⟩ | exact ⟨by omega, Nat.le_of_ble_eq_true rfl⟩ | exact ⟨⟨by assumption, by omega⟩, Nat.le_of_ble_eq_true rfl⟩ | decide) ?_; conv => whnf)
    (refine And.intro (by first | omega | assumption | rfl | exact zin_and | exact ⟨zin_and, by omega⟩ | exact ⟨by omega, zin_and⟩ | exact Nat.le_of_ble_eq_true rfl | exact ⟨Nat.le_of_ble_eq_true rfl, rfl⟩ | exact ⟨Nat.le_of_ble_eq_true rfl, by assumption⟩ | exact ⟨by omega, Nat.le_of_ble_eq_true rfl⟩ | exact ⟨⟨by assumption, by omega⟩, Nat.le_of_ble_eq_true rfl⟩ | decide) ?_; conv => whnf)
    (refine set g2 _ m 1 _ hr2 hm hkm (by omega) (fun x hx => ?_); conv => whnf)
    (refine And.intro (by first | omega | assumption | rfl | exact zin_and | exact ⟨zin_and, by omega⟩ | exact ⟨by omega, zin_and⟩ | exact Nat.le_of_ble_eq_true rfl | exact ⟨Nat.le_of_ble_eq_true rfl, rfl⟩ | exact ⟨Nat.le_of_ble_eq_true rfl, by assumption⟩ | exact ⟨by omega, Nat.le_of_ble_eq_true rfl⟩ | exact ⟨⟨by assumption, by omega⟩, Nat.le_of_ble_eq_true rfl⟩ | decide) ?_; conv => whnf)
    refine hQ _ (fun j e1 e2 e3 => ?_) (fun _ => ?_)
    · rw [zup_ne e3, hff j e1 e2 e3]
    · rw [if_neg (show ¬ (1 : Int) = 4 by decide)]
      exact hx
  · rw [if_neg c1] at hQ hr2 ⊢
    have e2 : (if s 7 < bsum s 9 (mheel s n i o) n then ru (ru (ru s 6 (s 6 + 1)) 7 (bsum s 9 (mheel s n i o) n)) 8 (mheel s n i o : Nat) else ru s 6 (s 6 + 1)) = mtk2 s n k := by
      unfold mtk2
      rw [hii, hoo]
    rw [e2] at hr2
    by_cases c2 : nd s k 3 ≤ bsum s 9 (mheel s n i o) n
    · rw [if_pos c2] at hQ ⊢
      (refine And.intro (by first | omega | assumption | rfl | exact zin_and | exact ⟨zin_and, by omega⟩ | exact ⟨by omega, zin_and⟩ | exact Nat.le_of_ble_eq_true rfl | exact ⟨Nat.le_of_ble_eq_true rfl, rfl⟩ | exact ⟨Nat.le_of_ble_eq_true rfl, by assumption⟩ | exact ⟨by omega, Nat.le_of_ble_eq_true rfl⟩ | exact ⟨⟨by assumption, by omega⟩, Nat.le_of_ble_eq_true rfl⟩ | decide) ?_; conv => whnf)
      (refine And.intro (fun h => ?_) (fun h => by omega); conv => whnf)
      (refine hK _ _ _ _ (zW.go (zC_om _) (fun K hK => ?_)); conv => whnf)
      (refine And.intro (by first | omega | assumption | rfl | exact zin_and | exact ⟨zin_and, by omega⟩ | exact ⟨by omega, zin_and⟩ | exact Nat.le_of_ble_eq_true rfl | exact ⟨Nat.le_of_ble_eq_true rfl, rfl⟩ | exact ⟨Nat.le_of_ble_eq_true rfl, by assumption⟩ | exact ⟨by omega, Nat.le_of_ble_eq_true rfl⟩ | exact ⟨⟨by assumption, by omega⟩, Nat.le_of_ble_eq_true rfl⟩ | decide) ?_; conv => whnf)
      (refine And.intro (by first | omega | assumption | rfl | exact zin_and | exact ⟨zin_and, by omega⟩ | exact ⟨by omega, zin_and⟩ | exact Nat.le_of_ble_eq_true rfl | exact ⟨Nat.le_of_ble_eq_true rfl, rfl⟩ | exact ⟨Nat.le_of_ble_eq_true rfl, by assumption⟩ | exact ⟨by omega, Nat.le_of_ble_eq_true rfl⟩ | exact ⟨⟨by assumption, by omega⟩, Nat.le_of_ble_eq_true rfl⟩ | decide) ?_; conv => whnf)
      (refine set g2 _ m 2 _ hr2 hm hkm (by omega) (fun x hx => ?_); conv => whnf)
      (refine And.intro (by first | omega | assumption | rfl | exact zin_and | exact ⟨zin_and, by omega⟩ | exact ⟨by omega, zin_and⟩ | exact Nat.le_of_ble_eq_true rfl | exact ⟨Nat.le_of_ble_eq_true rfl, rfl⟩ | exact ⟨Nat.le_of_ble_eq_true rfl, by assumption⟩ | exact ⟨by omega, Nat.le_of_ble_eq_true rfl⟩ | exact ⟨⟨by assumption, by omega⟩, Nat.le_of_ble_eq_true rfl⟩ | decide) ?_; conv => whnf)
      refine hQ _ (fun j e1 e2 e3 => ?_) (fun _ => ?_)
      · rw [zup_ne e3, hff j e1 e2 e3]
      · rw [if_neg (show ¬ (2 : Int) = 4 by decide)]
        exact hx
    · rw [if_neg c2] at hQ ⊢
      have hm1 : g2 (b + 6) (1 : Nat) = (m : Int) := hr2.2.1.1
      (refine And.intro (by first | omega | assumption | rfl | exact zin_and | exact ⟨zin_and, by omega⟩ | exact ⟨by omega, zin_and⟩ | exact Nat.le_of_ble_eq_true rfl | exact ⟨Nat.le_of_ble_eq_true rfl, rfl⟩ | exact ⟨Nat.le_of_ble_eq_true rfl, by assumption⟩ | exact ⟨by omega, Nat.le_of_ble_eq_true rfl⟩ | exact ⟨⟨by assumption, by omega⟩, Nat.le_of_ble_eq_true rfl⟩ | decide) ?_; conv => whnf)
      (refine And.intro (fun h => by omega) (fun h => ?_); conv => whnf)
      (refine And.intro (by first | omega | assumption | rfl | exact zin_and | exact ⟨zin_and, by omega⟩ | exact ⟨by omega, zin_and⟩ | exact Nat.le_of_ble_eq_true rfl | exact ⟨Nat.le_of_ble_eq_true rfl, rfl⟩ | exact ⟨Nat.le_of_ble_eq_true rfl, by assumption⟩ | exact ⟨by omega, Nat.le_of_ble_eq_true rfl⟩ | exact ⟨⟨by assumption, by omega⟩, Nat.le_of_ble_eq_true rfl⟩ | decide) ?_; conv => whnf)
      (refine And.intro (by first | omega | assumption | rfl | exact zin_and | exact ⟨zin_and, by omega⟩ | exact ⟨by omega, zin_and⟩ | exact Nat.le_of_ble_eq_true rfl | exact ⟨Nat.le_of_ble_eq_true rfl, rfl⟩ | exact ⟨Nat.le_of_ble_eq_true rfl, by assumption⟩ | exact ⟨by omega, Nat.le_of_ble_eq_true rfl⟩ | exact ⟨⟨by assumption, by omega⟩, Nat.le_of_ble_eq_true rfl⟩ | decide) ?_; conv => whnf)
      rw [hm1]
      (refine And.intro (by first | omega | assumption | rfl | exact zin_and | exact ⟨zin_and, by omega⟩ | exact ⟨by omega, zin_and⟩ | exact Nat.le_of_ble_eq_true rfl | exact ⟨Nat.le_of_ble_eq_true rfl, rfl⟩ | exact ⟨Nat.le_of_ble_eq_true rfl, by assumption⟩ | exact ⟨by omega, Nat.le_of_ble_eq_true rfl⟩ | exact ⟨⟨by assumption, by omega⟩, Nat.le_of_ble_eq_true rfl⟩ | decide) ?_; conv => whnf)
      by_cases c3 : 400 < s 5 + 2
      · rw [if_pos c3] at hQ
        (refine And.intro (fun h => by omega) (fun h => ?_); conv => whnf)
        (refine And.intro (by first | omega | assumption | rfl | exact zin_and | exact ⟨zin_and, by omega⟩ | exact ⟨by omega, zin_and⟩ | exact Nat.le_of_ble_eq_true rfl | exact ⟨Nat.le_of_ble_eq_true rfl, rfl⟩ | exact ⟨Nat.le_of_ble_eq_true rfl, by assumption⟩ | exact ⟨by omega, Nat.le_of_ble_eq_true rfl⟩ | exact ⟨⟨by assumption, by omega⟩, Nat.le_of_ble_eq_true rfl⟩ | decide) ?_; conv => whnf)
        exact hQ _ hff (fun w => absurd rfl w)
      · rw [if_neg c3] at hQ
        obtain ⟨t, ht, htn, hbt⟩ := mbranch_free (c := s 3) hok hps (by rw [← h3]; exact c2)
        obtain ⟨-, hti, hto⟩ := mfree_free hbt
        have h2t : 2 ^ t < 2 ^ n := Nat.pow_lt_pow_right (by decide) htn
        have hag2 : magr s (mtk2 s n k) := mtk2_ag
        have hok2 := hag2.ok hok
        have hsym2 := hsym.ag hn hag2
        have hcc : g2 b (3 : Nat) = s 3 := by rw [hr2.2.2.2.1, mtk2_old (by omega)]
        have hi2 : nd (mtk2 s n k) k 5 = (i : Int) := by unfold nd; rw [mtk2_old (by omega)]; exact hi
        have ho2 : nd (mtk2 s n k) k 6 = (o : Int) := by unfold nd; rw [mtk2_old (by omega)]; exact ho'
        have h52 : mtk2 s n k 5 = (m : Int) := by rw [mtk2_old (by omega), hm5]
        have h72 := mtk2_7 (k := k) hok h7
        (refine And.intro (fun h => ?_) (fun h => by omega); conv => whnf)
        (refine hK _ _ _ _ (zW.go (zC_om _) (fun K hK => ?_)); conv => whnf)
        (refine And.intro (by first | omega | assumption | rfl | exact zin_and | exact ⟨zin_and, by omega⟩ | exact ⟨by omega, zin_and⟩ | exact Nat.le_of_ble_eq_true rfl | exact ⟨Nat.le_of_ble_eq_true rfl, rfl⟩ | exact ⟨Nat.le_of_ble_eq_true rfl, by assumption⟩ | exact ⟨by omega, Nat.le_of_ble_eq_true rfl⟩ | exact ⟨⟨by assumption, by omega⟩, Nat.le_of_ble_eq_true rfl⟩ | decide) ?_; conv => whnf)
        (refine And.intro (by first | omega | assumption | rfl | exact zin_and | exact ⟨zin_and, by omega⟩ | exact ⟨by omega, zin_and⟩ | exact Nat.le_of_ble_eq_true rfl | exact ⟨Nat.le_of_ble_eq_true rfl, rfl⟩ | exact ⟨Nat.le_of_ble_eq_true rfl, by assumption⟩ | exact ⟨by omega, Nat.le_of_ble_eq_true rfl⟩ | exact ⟨⟨by assumption, by omega⟩, Nat.le_of_ble_eq_true rfl⟩ | decide) ?_; conv => whnf)
        (refine c_in hkn hr2.2.1 hm hkm ?_; conv => whnf)
        rw [hi2]
        (refine And.intro (by first | omega | assumption | rfl | exact zin_and | exact ⟨zin_and, by omega⟩ | exact ⟨by omega, zin_and⟩ | exact Nat.le_of_ble_eq_true rfl | exact ⟨Nat.le_of_ble_eq_true rfl, rfl⟩ | exact ⟨Nat.le_of_ble_eq_true rfl, by assumption⟩ | exact ⟨by omega, Nat.le_of_ble_eq_true rfl⟩ | exact ⟨⟨by assumption, by omega⟩, Nat.le_of_ble_eq_true rfl⟩ | decide) ?_; conv => whnf)
        (refine And.intro (by first | omega | assumption | rfl | exact zin_and | exact ⟨zin_and, by omega⟩ | exact ⟨by omega, zin_and⟩ | exact Nat.le_of_ble_eq_true rfl | exact ⟨Nat.le_of_ble_eq_true rfl, rfl⟩ | exact ⟨Nat.le_of_ble_eq_true rfl, by assumption⟩ | exact ⟨by omega, Nat.le_of_ble_eq_true rfl⟩ | exact ⟨⟨by assumption, by omega⟩, Nat.le_of_ble_eq_true rfl⟩ | decide) ?_; conv => whnf)
        (refine c_out hkn hr2.2.1 hm hkm ?_; conv => whnf)
        rw [ho2]
        (refine And.intro (by first | omega | assumption | rfl | exact zin_and | exact ⟨zin_and, by omega⟩ | exact ⟨by omega, zin_and⟩ | exact Nat.le_of_ble_eq_true rfl | exact ⟨Nat.le_of_ble_eq_true rfl, rfl⟩ | exact ⟨Nat.le_of_ble_eq_true rfl, by assumption⟩ | exact ⟨by omega, Nat.le_of_ble_eq_true rfl⟩ | exact ⟨⟨by assumption, by omega⟩, Nat.le_of_ble_eq_true rfl⟩ | decide) ?_; conv => whnf)
        (refine And.intro (by first | omega | assumption | rfl | exact zin_and | exact ⟨zin_and, by omega⟩ | exact ⟨by omega, zin_and⟩ | exact Nat.le_of_ble_eq_true rfl | exact ⟨Nat.le_of_ble_eq_true rfl, rfl⟩ | exact ⟨Nat.le_of_ble_eq_true rfl, by assumption⟩ | exact ⟨by omega, Nat.le_of_ble_eq_true rfl⟩ | exact ⟨⟨by assumption, by omega⟩, Nat.le_of_ble_eq_true rfl⟩ | decide) ?_; conv => whnf)
        rw [hcc]
        (refine And.intro (by first | omega | assumption | rfl | exact zin_and | exact ⟨zin_and, by omega⟩ | exact ⟨by omega, zin_and⟩ | exact Nat.le_of_ble_eq_true rfl | exact ⟨Nat.le_of_ble_eq_true rfl, rfl⟩ | exact ⟨Nat.le_of_ble_eq_true rfl, by assumption⟩ | exact ⟨by omega, Nat.le_of_ble_eq_true rfl⟩ | exact ⟨⟨by assumption, by omega⟩, Nat.le_of_ble_eq_true rfl⟩ | decide) ?_; conv => whnf)
        (refine c_branch hkb hr2.1 hok2 hsym2 hil hol h3r ?_; conv => whnf)
        rw [← ag_branch hag2 hn hok.pos, ht]
        rw [zone_shl (by omega), zor_nat (by omega) (by omega)]
        have hot : o ||| 2 ^ t < 2 ^ n := Nat.or_lt_two_pow hol h2t
        have hit : i ||| 2 ^ t < 2 ^ n := Nat.or_lt_two_pow hil h2t
        (refine And.intro (by first | omega | assumption | rfl | exact zin_and | exact ⟨zin_and, by omega⟩ | exact ⟨by omega, zin_and⟩ | exact Nat.le_of_ble_eq_true rfl | exact ⟨Nat.le_of_ble_eq_true rfl, rfl⟩ | exact ⟨Nat.le_of_ble_eq_true rfl, by assumption⟩ | exact ⟨by omega, Nat.le_of_ble_eq_true rfl⟩ | exact ⟨⟨by assumption, by omega⟩, Nat.le_of_ble_eq_true rfl⟩ | decide) ?_; conv => whnf)
        (refine c_makeChild (bb := 0) hk hr2 hok2 hsym2 h52 (by omega) (by omega) h72 (by omega) (by omega) hil hot (fun g3 hf3 hr3 => ?_); conv => whnf)
        have hag3 : magr (mtk2 s n k) (mmk (mtk2 s n k) n k t 0 i (o ||| 2 ^ t)) := mmk_ag h52
        rw [zone_shl (by omega), zor_nat (by omega) (by omega)]
        (refine And.intro (by first | omega | assumption | rfl | exact zin_and | exact ⟨zin_and, by omega⟩ | exact ⟨by omega, zin_and⟩ | exact Nat.le_of_ble_eq_true rfl | exact ⟨Nat.le_of_ble_eq_true rfl, rfl⟩ | exact ⟨Nat.le_of_ble_eq_true rfl, by assumption⟩ | exact ⟨by omega, Nat.le_of_ble_eq_true rfl⟩ | exact ⟨⟨by assumption, by omega⟩, Nat.le_of_ble_eq_true rfl⟩ | decide) ?_; conv => whnf)
        (refine c_makeChild (m := m + 1) (bb := 1) hk hr3 (hag3.ok hok2) (hsym2.ag hn hag3) (by rw [mmk_5, h52]; omega) (by omega) (by omega) (by rw [mmk_old h52 (by omega)]; exact h72) (by omega) (by omega) hit hol (fun g4 hf4 hr4 => ?_); conv => whnf)
        (refine And.intro (by first | omega | assumption | rfl | exact zin_and | exact ⟨zin_and, by omega⟩ | exact ⟨by omega, zin_and⟩ | exact Nat.le_of_ble_eq_true rfl | exact ⟨Nat.le_of_ble_eq_true rfl, rfl⟩ | exact ⟨Nat.le_of_ble_eq_true rfl, by assumption⟩ | exact ⟨by omega, Nat.le_of_ble_eq_true rfl⟩ | exact ⟨⟨by assumption, by omega⟩, Nat.le_of_ble_eq_true rfl⟩ | decide) ?_; conv => whnf)
        (refine And.intro (by first | omega | assumption | rfl | exact zin_and | exact ⟨zin_and, by omega⟩ | exact ⟨by omega, zin_and⟩ | exact Nat.le_of_ble_eq_true rfl | exact ⟨Nat.le_of_ble_eq_true rfl, rfl⟩ | exact ⟨Nat.le_of_ble_eq_true rfl, by assumption⟩ | exact ⟨by omega, Nat.le_of_ble_eq_true rfl⟩ | exact ⟨⟨by assumption, by omega⟩, Nat.le_of_ble_eq_true rfl⟩ | decide) ?_; conv => whnf)
        (refine set g4 _ (m + 1 + 1) 4 _ hr4 (by omega) (by omega) (by omega) (fun x hx => ?_); conv => whnf)
        (refine And.intro (by first | omega | assumption | rfl | exact zin_and | exact ⟨zin_and, by omega⟩ | exact ⟨by omega, zin_and⟩ | exact Nat.le_of_ble_eq_true rfl | exact ⟨Nat.le_of_ble_eq_true rfl, rfl⟩ | exact ⟨Nat.le_of_ble_eq_true rfl, by assumption⟩ | exact ⟨by omega, Nat.le_of_ble_eq_true rfl⟩ | exact ⟨⟨by assumption, by omega⟩, Nat.le_of_ble_eq_true rfl⟩ | decide) ?_; conv => whnf)
        refine hQ _ (fun j e1 e2 e3 => ?_) (fun _ => ?_)
        · rw [zup_ne e3, hf4 j e2 e3, hf3 j e2 e3, hff j e1 e2 e3]
        · rw [if_pos rfl]
          have e4 : mtk4 s n k = ru (mmk (mmk (mtk2 s n k) n k t 0 i (o ||| 2 ^ t)) n k t 1 (i ||| 2 ^ t) o) (45 + 7 * k + 4) 4 := by
            unfold mtk4
            rw [hii, hoo, ht, Int.toNat_natCast]
            have q1 := mmk_ru (par := k) (th := t) (bb := 0) (i := i) (o := o ||| 2 ^ t) (a := 45 + 7 * k + 4) (v := 4) hok2 h52 (by omega) (by omega)
            have q2 := mmk_ru (par := k) (th := t) (bb := 1) (i := i ||| 2 ^ t) (o := o) (a := 45 + 7 * k + 4) (v := 4) (m := m + 1) (hag3.ok hok2) (by rw [mmk_5, h52]; omega) (by omega) (by omega)
            rw [q1, q2]
          rw [e4]
          exact hx
end CT
