/-! addAll -/
theorem mnum_congr {ch ch' : Int → Int} {L : Nat} {a b : Int} (h : ∀ i : Nat, i < L → ch i = ch' i) : ∀ (f p : Nat) (acc : Int), mnum ch L a b f p acc = mnum ch' L a b f p acc := by
  intro f
  induction f with
  | zero => intro p acc; rfl
  | succ f ih =>
    intro p acc
    rw [mnum, mnum]
    by_cases c : p < L
    · rw [h p c, ih]
    · rw [if_neg (fun w => c w.1.1), if_neg (fun w => c w.1.1)]
theorem mbr_congr {ch ch' : Int → Int} {L : Nat} (h : ∀ i : Nat, i < L → ch i = ch' i) : ∀ (f p b : Nat), mbr ch L f p b = mbr ch' L f p b := by
  intro f
  induction f with
  | zero => intro p b; rfl
  | succ f ih =>
    intro p b
    rw [mbr, mbr]
    by_cases c : p < L
    · rw [h p c, mnum_congr h, ih]
    · rw [if_neg (fun w => c w.1), if_neg (fun w => c w.1)]
theorem mpt_congr {ch ch' : Int → Int} {L p : Nat} (h : ∀ i : Nat, i < L → ch i = ch' i) : mpt ch L p = mpt ch' L p := by
  unfold mpt mp2 mp3
  rw [mnum_congr h]
  generalize mnum ch' L 1 99 (L - p) p (-5) = x
  by_cases c : x.2 < L
  · rw [h x.2 c, mnum_congr h, mbr_congr h]
  · rw [if_neg (c := x.2 < L ∧ ch x.2 = 47) (fun w => c w.1), if_neg (c := x.2 < L ∧ ch' x.2 = 47) (fun w => c w.1)]
theorem mtx_congr {ch ch' : Int → Int} {L : Nat} (h : ∀ i : Nat, i < L → ch i = ch' i) : ∀ (f p k : Nat) (T : Nat → zT), mtx ch L f p k T = mtx ch' L f p k T := by
  intro f
  induction f with
  | zero => intro p k T; rfl
  | succ f ih =>
    intro p k T
    rw [mtx, mtx, mpt_congr h]
    generalize mpt ch' L p = x
    by_cases c : x.2.2 < L
    · rw [h x.2.2 c, ih]
    · rw [if_neg (c := x.2.2 < L ∧ ch x.2.2 = 59) (fun w => c w.1), if_neg (c := x.2.2 < L ∧ ch' x.2.2 = 59) (fun w => c w.1)]
/-- the row with things added -/
def mal (s : zS) (n : Nat) (T : Nat → zT) : Nat → zS
  | 0 => s
  | j + 1 => mab (mal s n T j) (n + j) (T j).1 (T j).2.1 (T j).2.2
theorem mabs_old {s : zS} {n b : Nat} {i : Int} (hn : n < 12) (hi : i < 33 ∨ 45 ≤ i) : ∀ j, j ≤ n → mabs s n b j i = s i
  | 0, _ => rfl
  | j + 1, hj => by
    rw [mabs]
    split
    · rw [mxb_old (by omega), mabs_old hn hi j (by omega)]
    · exact mabs_old hn hi j (by omega)
theorem mabs_sym {s : zS} {n b : Nat} (h : msym s (n + 1)) : ∀ j, j ≤ n → msym (mabs s n b j) (n + 1)
  | 0, _ => h
  | j + 1, hj => by
    rw [mabs]
    split
    · exact mxb_sym (mabs_sym h j (by omega)) (by omega) (by omega) (by omega)
    · exact mabs_sym h j (by omega)
theorem mal_ok {s : zS} {n k : Nat} {T : Nat → zT} (hok : mok s n) (hsym : msym s n) (hnk : n + k ≤ 12) (hT : ∀ i, i < k → mtok (T i)) : ∀ j, j ≤ k → mok (mal s n T j) (n + j) ∧ msym (mal s n T j) (n + j)
  | 0, _ => ⟨hok, hsym⟩
  | j + 1, hj => by
    obtain ⟨h1, h2⟩ := mal_ok hok hsym hnk hT j (by omega)
    obtain ⟨t1, t2, t3⟩ := hT j (by omega)
    exact ⟨mabs_ok (madd_ok h1 (by omega) t1 t2) _ (Nat.le_refl _), mabs_sym (madd_sym h2 (by omega)) _ (Nat.le_refl _)⟩
theorem mal_old {s : zS} {n k : Nat} {T : Nat → zT} (hnk : n + k ≤ 12) {i : Int} (hi : (1 ≤ i ∧ i < 9) ∨ 45 ≤ i) : ∀ j, j ≤ k → mal s n T j i = s i
  | 0, _ => rfl
  | j + 1, hj => by
    rw [mal, mab, mabs_old (by omega) (by omega) _ (Nat.le_refl _), madd_old (by omega)]
    exact mal_old hnk hi j (by omega)
/-- the things ahead of which bars lie -/
abbrev mfar0 (T : Nat → zT) (n k : Nat) : Prop := ∀ t, t < k → (T t).2.2 / 2 ^ (n + t) = 0
section PAA
variable {g : zM} {d : Nat} {Q : zP}
theorem c_tooFar {n k : Nat} {T : Nat → zT} (hk : g 3 (5 : Nat) = (k : Int)) (hnk : n + k ≤ 12) (hT : RowsC g k T) (hok : ∀ i, i < k → mtok (T i)) (hQ1 : ¬ mfar0 T n k → Q (some (zI 1)) g) (hQ0 : mfar0 T n k → Q (some (zI 0)) g) : zC (d + 2) 53 [zR 3, zI n] g Q := by
  have k3 := zkd3
  have k7 : zkd 7 = (1, 12) := rfl
  refine zC.go zm_X4_barsTooFar ⟨rfl, rfl⟩ rfl ?_
  have loop : ∀ (r t : Nat), t + r = k → (∀ u, u < t → (T u).2.2 / 2 ^ (n + u) = 0) → zW zX4_barsTooFar (zC (d + 1)) Q 2 [zR 3, zI n, zI t] [] g := by
    intro r
    induction r with
    | zero =>
      intro t e hu
      obtain rfl : t = k := by omega
      (refine zW.go (zC_om _) (fun K hK => ?_); conv => whnf)
      (refine And.intro (by first | omega | assumption | rfl | exact zin_and | exact ⟨zin_and, by omega⟩ | exact ⟨by omega, zin_and⟩ | exact Nat.le_of_ble_eq_true rfl | exact ⟨Nat.le_of_ble_eq_true rfl, rfl⟩ | exact ⟨Nat.le_of_ble_eq_true rfl, by assumption⟩ | exact ⟨by omega, Nat.le_of_ble_eq_true rfl⟩ | exact ⟨⟨by assumption, by omega⟩, Nat.le_of_ble_eq_true rfl⟩ | decide) ?_; conv => whnf)
      rw [hk]
      (refine And.intro (by first | omega | assumption | rfl | exact zin_and | exact ⟨zin_and, by omega⟩ | exact ⟨by omega, zin_and⟩ | exact Nat.le_of_ble_eq_true rfl | exact ⟨Nat.le_of_ble_eq_true rfl, rfl⟩ | exact ⟨Nat.le_of_ble_eq_true rfl, by assumption⟩ | exact ⟨by omega, Nat.le_of_ble_eq_true rfl⟩ | exact ⟨⟨by assumption, by omega⟩, Nat.le_of_ble_eq_true rfl⟩ | decide) ?_; conv => whnf)
      (refine And.intro (fun h => ?_) (fun h => by omega); conv => whnf)
      (refine hK _ _ _ _ (zW.go (zC_om _) (fun K hK => ?_)); conv => whnf)
      exact ⟨⟨fun _ => Or.inl rfl, fun w => absurd w (by decide)⟩, hQ0 hu⟩
    | succ r ih =>
      intro t e hu
      have h7 := (hT t (by omega) (by omega)).2.2
      have hb := (hok t (by omega)).2.2
      (refine zW.go (zC_om _) (fun K hK => ?_); conv => whnf)
      (refine And.intro (by first | omega | assumption | rfl | exact zin_and | exact ⟨zin_and, by omega⟩ | exact ⟨by omega, zin_and⟩ | exact Nat.le_of_ble_eq_true rfl | exact ⟨Nat.le_of_ble_eq_true rfl, rfl⟩ | exact ⟨Nat.le_of_ble_eq_true rfl, by assumption⟩ | exact ⟨by omega, Nat.le_of_ble_eq_true rfl⟩ | exact ⟨⟨by assumption, by omega⟩, Nat.le_of_ble_eq_true rfl⟩ | decide) ?_; conv => whnf)
      rw [hk]
      (refine And.intro (by first | omega | assumption | rfl | exact zin_and | exact ⟨zin_and, by omega⟩ | exact ⟨by omega, zin_and⟩ | exact Nat.le_of_ble_eq_true rfl | exact ⟨Nat.le_of_ble_eq_true rfl, rfl⟩ | exact ⟨Nat.le_of_ble_eq_true rfl, by assumption⟩ | exact ⟨by omega, Nat.le_of_ble_eq_true rfl⟩ | exact ⟨⟨by assumption, by omega⟩, Nat.le_of_ble_eq_true rfl⟩ | decide) ?_; conv => whnf)
      (refine And.intro (fun h => by omega) (fun h => ?_); conv => whnf)
      (refine And.intro (by first | omega | assumption | rfl | exact zin_and | exact ⟨zin_and, by omega⟩ | exact ⟨by omega, zin_and⟩ | exact Nat.le_of_ble_eq_true rfl | exact ⟨Nat.le_of_ble_eq_true rfl, rfl⟩ | exact ⟨Nat.le_of_ble_eq_true rfl, by assumption⟩ | exact ⟨by omega, Nat.le_of_ble_eq_true rfl⟩ | exact ⟨⟨by assumption, by omega⟩, Nat.le_of_ble_eq_true rfl⟩ | decide) ?_; conv => whnf)
      (refine And.intro (by first | omega | assumption | rfl | exact zin_and | exact ⟨zin_and, by omega⟩ | exact ⟨by omega, zin_and⟩ | exact Nat.le_of_ble_eq_true rfl | exact ⟨Nat.le_of_ble_eq_true rfl, rfl⟩ | exact ⟨Nat.le_of_ble_eq_true rfl, by assumption⟩ | exact ⟨by omega, Nat.le_of_ble_eq_true rfl⟩ | exact ⟨⟨by assumption, by omega⟩, Nat.le_of_ble_eq_true rfl⟩ | decide) ?_; conv => whnf)
      (refine s_at k7 (by omega) (by omega) ?_; conv => whnf)
      rw [if_pos (by omega), h7, show (n : Int) + (t : Int) = ((n + t : Nat) : Int) from rfl, zshr_nat (by omega) (by omega)]
      have hle : (T t).2.2 / 2 ^ (n + t) ≤ (T t).2.2 := Nat.div_le_self _ _
      generalize hv : (T t).2.2 / 2 ^ (n + t) = v at hle ⊢
      (refine And.intro (by first | omega | assumption | rfl | exact zin_and | exact ⟨zin_and, by omega⟩ | exact ⟨by omega, zin_and⟩ | exact Nat.le_of_ble_eq_true rfl | exact ⟨Nat.le_of_ble_eq_true rfl, rfl⟩ | exact ⟨Nat.le_of_ble_eq_true rfl, by assumption⟩ | exact ⟨by omega, Nat.le_of_ble_eq_true rfl⟩ | exact ⟨⟨by assumption, by omega⟩, Nat.le_of_ble_eq_true rfl⟩ | decide) ?_; conv => whnf)
      by_cases c : v = 0
      · (refine And.intro (fun h => ?_) (fun h => by omega); conv => whnf)
        (refine hK _ _ _ _ (zW.go (zC_om _) (fun K hK => ?_)); conv => whnf)
        exact hK _ _ _ _ (ih (t + 1) (by omega) (fun u hu2 => by
          by_cases c2 : u = t
          · rw [c2, hv]; exact c
          · exact hu u (by omega)))
      · (refine And.intro (fun h => by omega) (fun h => ?_); conv => whnf)
        exact ⟨⟨fun _ => Or.inr rfl, fun w => absurd w (by decide)⟩, hQ1 (fun w => c (hv ▸ w t (by omega)))⟩
  (refine zW.upto (zC_om _) 2 (fun K hK => ?_); conv => whnf)
  exact hK _ _ _ _ (loop k 0 (by omega) (fun u hu => absurd hu (by omega)))
theorem c_addAll {ch : Int → Int} {L n m z : Nat} {s : zS} {rows : Nat → zS} {res : Bool × Nat × (Nat → zT) × Nat} (hr : RelC g 8 s n m) (hw : minw s n m) (hh : HistC g z rows) (hc : g 4 = ch) (h34 : g 3 (4 : Nat) = (L : Int)) (hL : L ≤ 80) (hcs : ∀ i : Nat, i < L → 0 ≤ g 4 i ∧ g 4 i < 65536) (hres : mtx ch L (L + 1) 0 0 (fun _ => (0, 0, 0)) = res)
    (hQf : ¬ (res.1 = true ∧ ¬ res.2.2.2 < L) → ∀ g' : zM, FX g g' → Q (some (zI (-100 - (res.2.2.2 : Int)))) g')
    (hQn : (res.1 = true ∧ ¬ res.2.2.2 < L) → ¬ mtk s 0 m = -5 → ∀ g' : zM, FX g g' → Q (some (zI (-4))) g')
    (hQF : (res.1 = true ∧ ¬ res.2.2.2 < L) → mtk s 0 m = -5 → 12 < n + res.2.1 → ∀ g' : zM, FX g g' → Q (some (zI (-3))) g')
    (hQU : (res.1 = true ∧ ¬ res.2.2.2 < L) → mtk s 0 m = -5 → n + res.2.1 ≤ 12 → ¬ mfar0 res.2.2.1 n res.2.1 → ∀ g' : zM, FX g g' → Q (some (zI (-1))) g')
    (hQ : (res.1 = true ∧ ¬ res.2.2.2 < L) → mtk s 0 m = -5 → n + res.2.1 ≤ 12 → mfar0 res.2.2.1 n res.2.1 → (∀ i, i < res.2.1 → mtok (res.2.2.1 i)) → ∀ g' : zM, (∀ j, j ≠ 1 → j ≠ 3 → j ≠ 5 → j ≠ 6 → j ≠ 7 → (j < 8 ∨ (16 ≤ j ∧ j < 32) ∨ 64 ≤ j) → g' j = g j) → g' 3 (4 : Nat) = g 3 (4 : Nat) → HistC g' (pushz z) (pushr z rows s) → RelC g' 8 (mal (mfg s) n res.2.2.1 res.2.1) (n + res.2.1) 0 → Q (some (zI ((n : Int) + res.2.1))) g') : zC (d + 6) 55 [zR 0] g Q := by
  have k0 := zkd0
  have k3 := zkd3
  have k8 := zKC_8.1
  have k9 : zkd 9 = (0, 0) := rfl
  have k5 : zkd 5 = (1, 12) := rfl
  have k6 : zkd 6 = (1, 12) := rfl
  have k7 : zkd 7 = (1, 12) := rfl
  have hn := hw.n12
  have hm := hw.m400
  have rg := mtx_rng (ch := ch) (L := L) (L + 1) 0 0 (fun _ => (0, 0, 0)) (by omega) (by omega) (by omega) (fun i hi => absurd hi (by omega))
  refine zC.go zm_X5_addAll ⟨rfl, rfl⟩ rfl ?_
  (refine zW.go (zC_om _) (fun K hK => ?_); conv => whnf)
  (refine And.intro (by first | omega | assumption | rfl | exact zin_and | exact ⟨zin_and, by omega⟩ | exact ⟨by omega, zin_and⟩ | exact Nat.le_of_ble_eq_true rfl | exact ⟨Nat.le_of_ble_eq_true rfl, rfl⟩ | exact ⟨Nat.le_of_ble_eq_true rfl, by assumption⟩ | exact ⟨by omega, Nat.le_of_ble_eq_true rfl⟩ | exact ⟨⟨by assumption, by omega⟩, Nat.le_of_ble_eq_true rfl⟩ | decide) ?_; conv => whnf)
  (refine And.intro (by first | omega | assumption | rfl | exact zin_and | exact ⟨zin_and, by omega⟩ | exact ⟨by omega, zin_and⟩ | exact Nat.le_of_ble_eq_true rfl | exact ⟨Nat.le_of_ble_eq_true rfl, rfl⟩ | exact ⟨Nat.le_of_ble_eq_true rfl, by assumption⟩ | exact ⟨by omega, Nat.le_of_ble_eq_true rfl⟩ | exact ⟨⟨by assumption, by omega⟩, Nat.le_of_ble_eq_true rfl⟩ | decide) ?_; conv => whnf)
  (refine c_read hc h34 hL hcs hres (fun g1 hf1 hrow => ?_); conv => whnf)
  rw [hres] at rg
  generalize hk : res.2.1 = k at *
  generalize hT : res.2.2.1 = T at *
  generalize hq : res.2.2.2 = q at *
  have hr1 : RelC g1 8 s n m := hr.frame (fun j c1 c2 => hf1.1 j (by omega) (by omega) (by omega) (by omega)) hn
  have hn4 : g1 9 (4 : Nat) = (n : Int) := hr1.1.1
  have hh1 : HistC g1 z rows := hh.frame (fun j c => hf1.1 j (by omega) (by omega) (by omega) (by omega))
  by_cases h1 : res.1 = true ∧ ¬ q < L
  · rw [if_pos h1]
    obtain ⟨hrow1, hrow2⟩ := hrow h1.1
    obtain ⟨htok, hk4⟩ := rg.2 h1.1
    (refine And.intro (by first | omega | assumption | rfl | exact zin_and | exact ⟨zin_and, by omega⟩ | exact ⟨by omega, zin_and⟩ | exact Nat.le_of_ble_eq_true rfl | exact ⟨Nat.le_of_ble_eq_true rfl, rfl⟩ | exact ⟨Nat.le_of_ble_eq_true rfl, by assumption⟩ | exact ⟨by omega, Nat.le_of_ble_eq_true rfl⟩ | exact ⟨⟨by assumption, by omega⟩, Nat.le_of_ble_eq_true rfl⟩ | decide) ?_; conv => whnf)
    (refine And.intro (fun h => ?_) (fun h => by omega); conv => whnf)
    (refine hK _ _ _ _ (zW.go (zC_om _) (fun K hK => ?_)); conv => whnf)
    (refine And.intro (by first | omega | assumption | rfl | exact zin_and | exact ⟨zin_and, by omega⟩ | exact ⟨by omega, zin_and⟩ | exact Nat.le_of_ble_eq_true rfl | exact ⟨Nat.le_of_ble_eq_true rfl, rfl⟩ | exact ⟨Nat.le_of_ble_eq_true rfl, by assumption⟩ | exact ⟨by omega, Nat.le_of_ble_eq_true rfl⟩ | exact ⟨⟨by assumption, by omega⟩, Nat.le_of_ble_eq_true rfl⟩ | decide) ?_; conv => whnf)
    (refine And.intro (by first | omega | assumption | rfl | exact zin_and | exact ⟨zin_and, by omega⟩ | exact ⟨by omega, zin_and⟩ | exact Nat.le_of_ble_eq_true rfl | exact ⟨Nat.le_of_ble_eq_true rfl, rfl⟩ | exact ⟨Nat.le_of_ble_eq_true rfl, by assumption⟩ | exact ⟨by omega, Nat.le_of_ble_eq_true rfl⟩ | exact ⟨⟨by assumption, by omega⟩, Nat.le_of_ble_eq_true rfl⟩ | decide) ?_; conv => whnf)
    (refine c_goesOn zKC_8 hr1 hm ?_; conv => whnf)
    by_cases h3 : mtk s 0 m = -5
    · rw [if_pos h3]
      (refine And.intro (by first | omega | assumption | rfl | exact zin_and | exact ⟨zin_and, by omega⟩ | exact ⟨by omega, zin_and⟩ | exact Nat.le_of_ble_eq_true rfl | exact ⟨Nat.le_of_ble_eq_true rfl, rfl⟩ | exact ⟨Nat.le_of_ble_eq_true rfl, by assumption⟩ | exact ⟨by omega, Nat.le_of_ble_eq_true rfl⟩ | exact ⟨⟨by assumption, by omega⟩, Nat.le_of_ble_eq_true rfl⟩ | decide) ?_; conv => whnf)
      (refine And.intro (fun h => ?_) (fun h => by omega); conv => whnf)
      (refine hK _ _ _ _ (zW.go (zC_om _) (fun K hK => ?_)); conv => whnf)
      (refine And.intro (by first | omega | assumption | rfl | exact zin_and | exact ⟨zin_and, by omega⟩ | exact ⟨by omega, zin_and⟩ | exact Nat.le_of_ble_eq_true rfl | exact ⟨Nat.le_of_ble_eq_true rfl, rfl⟩ | exact ⟨Nat.le_of_ble_eq_true rfl, by assumption⟩ | exact ⟨by omega, Nat.le_of_ble_eq_true rfl⟩ | exact ⟨⟨by assumption, by omega⟩, Nat.le_of_ble_eq_true rfl⟩ | decide) ?_; conv => whnf)
      (refine And.intro (by first | omega | assumption | rfl | exact zin_and | exact ⟨zin_and, by omega⟩ | exact ⟨by omega, zin_and⟩ | exact Nat.le_of_ble_eq_true rfl | exact ⟨Nat.le_of_ble_eq_true rfl, rfl⟩ | exact ⟨Nat.le_of_ble_eq_true rfl, by assumption⟩ | exact ⟨by omega, Nat.le_of_ble_eq_true rfl⟩ | exact ⟨⟨by assumption, by omega⟩, Nat.le_of_ble_eq_true rfl⟩ | decide) ?_; conv => whnf)
      (refine And.intro (by first | omega | assumption | rfl | exact zin_and | exact ⟨zin_and, by omega⟩ | exact ⟨by omega, zin_and⟩ | exact Nat.le_of_ble_eq_true rfl | exact ⟨Nat.le_of_ble_eq_true rfl, rfl⟩ | exact ⟨Nat.le_of_ble_eq_true rfl, by assumption⟩ | exact ⟨by omega, Nat.le_of_ble_eq_true rfl⟩ | exact ⟨⟨by assumption, by omega⟩, Nat.le_of_ble_eq_true rfl⟩ | decide) ?_; conv => whnf)
      rw [hn4]
      (refine And.intro (by first | omega | assumption | rfl | exact zin_and | exact ⟨zin_and, by omega⟩ | exact ⟨by omega, zin_and⟩ | exact Nat.le_of_ble_eq_true rfl | exact ⟨Nat.le_of_ble_eq_true rfl, rfl⟩ | exact ⟨Nat.le_of_ble_eq_true rfl, by assumption⟩ | exact ⟨by omega, Nat.le_of_ble_eq_true rfl⟩ | exact ⟨⟨by assumption, by omega⟩, Nat.le_of_ble_eq_true rfl⟩ | decide) ?_; conv => whnf)
      (refine And.intro (by first | omega | assumption | rfl | exact zin_and | exact ⟨zin_and, by omega⟩ | exact ⟨by omega, zin_and⟩ | exact Nat.le_of_ble_eq_true rfl | exact ⟨Nat.le_of_ble_eq_true rfl, rfl⟩ | exact ⟨Nat.le_of_ble_eq_true rfl, by assumption⟩ | exact ⟨by omega, Nat.le_of_ble_eq_true rfl⟩ | exact ⟨⟨by assumption, by omega⟩, Nat.le_of_ble_eq_true rfl⟩ | decide) ?_; conv => whnf)
      rw [hrow1]
      (refine And.intro (by first | omega | assumption | rfl | exact zin_and | exact ⟨zin_and, by omega⟩ | exact ⟨by omega, zin_and⟩ | exact Nat.le_of_ble_eq_true rfl | exact ⟨Nat.le_of_ble_eq_true rfl, rfl⟩ | exact ⟨Nat.le_of_ble_eq_true rfl, by assumption⟩ | exact ⟨by omega, Nat.le_of_ble_eq_true rfl⟩ | exact ⟨⟨by assumption, by omega⟩, Nat.le_of_ble_eq_true rfl⟩ | decide) ?_; conv => whnf)
      by_cases h4 : n + k ≤ 12
      · (refine And.intro (fun h => ?_) (fun h => by omega); conv => whnf)
        (refine hK _ _ _ _ (zW.go (zC_om _) (fun K hK => ?_)); conv => whnf)
        (refine And.intro (by first | omega | assumption | rfl | exact zin_and | exact ⟨zin_and, by omega⟩ | exact ⟨by omega, zin_and⟩ | exact Nat.le_of_ble_eq_true rfl | exact ⟨Nat.le_of_ble_eq_true rfl, rfl⟩ | exact ⟨Nat.le_of_ble_eq_true rfl, by assumption⟩ | exact ⟨by omega, Nat.le_of_ble_eq_true rfl⟩ | exact ⟨⟨by assumption, by omega⟩, Nat.le_of_ble_eq_true rfl⟩ | decide) ?_; conv => whnf)
        (refine And.intro (by first | omega | assumption | rfl | exact zin_and | exact ⟨zin_and, by omega⟩ | exact ⟨by omega, zin_and⟩ | exact Nat.le_of_ble_eq_true rfl | exact ⟨Nat.le_of_ble_eq_true rfl, rfl⟩ | exact ⟨Nat.le_of_ble_eq_true rfl, by assumption⟩ | exact ⟨by omega, Nat.le_of_ble_eq_true rfl⟩ | exact ⟨⟨by assumption, by omega⟩, Nat.le_of_ble_eq_true rfl⟩ | decide) ?_; conv => whnf)
        (refine And.intro (by first | omega | assumption | rfl | exact zin_and | exact ⟨zin_and, by omega⟩ | exact ⟨by omega, zin_and⟩ | exact Nat.le_of_ble_eq_true rfl | exact ⟨Nat.le_of_ble_eq_true rfl, rfl⟩ | exact ⟨Nat.le_of_ble_eq_true rfl, by assumption⟩ | exact ⟨by omega, Nat.le_of_ble_eq_true rfl⟩ | exact ⟨⟨by assumption, by omega⟩, Nat.le_of_ble_eq_true rfl⟩ | decide) ?_; conv => whnf)
        (refine And.intro (by first | omega | assumption | rfl | exact zin_and | exact ⟨zin_and, by omega⟩ | exact ⟨by omega, zin_and⟩ | exact Nat.le_of_ble_eq_true rfl | exact ⟨Nat.le_of_ble_eq_true rfl, rfl⟩ | exact ⟨Nat.le_of_ble_eq_true rfl, by assumption⟩ | exact ⟨by omega, Nat.le_of_ble_eq_true rfl⟩ | exact ⟨⟨by assumption, by omega⟩, Nat.le_of_ble_eq_true rfl⟩ | decide) ?_; conv => whnf)
        rw [hn4]
        (refine And.intro (by first | omega | assumption | rfl | exact zin_and | exact ⟨zin_and, by omega⟩ | exact ⟨by omega, zin_and⟩ | exact Nat.le_of_ble_eq_true rfl | exact ⟨Nat.le_of_ble_eq_true rfl, rfl⟩ | exact ⟨Nat.le_of_ble_eq_true rfl, by assumption⟩ | exact ⟨by omega, Nat.le_of_ble_eq_true rfl⟩ | exact ⟨⟨by assumption, by omega⟩, Nat.le_of_ble_eq_true rfl⟩ | decide) ?_; conv => whnf)
        refine c_tooFar hrow1 h4 hrow2 htok (fun h5 => ?_) (fun h5 => ?_)
        · conv => whnf
          (refine And.intro (by first | omega | assumption | rfl | exact zin_and | exact ⟨zin_and, by omega⟩ | exact ⟨by omega, zin_and⟩ | exact Nat.le_of_ble_eq_true rfl | exact ⟨Nat.le_of_ble_eq_true rfl, rfl⟩ | exact ⟨Nat.le_of_ble_eq_true rfl, by assumption⟩ | exact ⟨by omega, Nat.le_of_ble_eq_true rfl⟩ | exact ⟨⟨by assumption, by omega⟩, Nat.le_of_ble_eq_true rfl⟩ | decide) ?_; conv => whnf)
          (refine And.intro (fun h => by omega) (fun h => ?_); conv => whnf)
          exact ⟨⟨fun w => absurd w (by decide), fun w => absurd w (by decide)⟩, hQU h1 h3 h4 h5 g1 hf1⟩
        · conv => whnf
          (refine And.intro (by first | omega | assumption | rfl | exact zin_and | exact ⟨zin_and, by omega⟩ | exact ⟨by omega, zin_and⟩ | exact Nat.le_of_ble_eq_true rfl | exact ⟨Nat.le_of_ble_eq_true rfl, rfl⟩ | exact ⟨Nat.le_of_ble_eq_true rfl, by assumption⟩ | exact ⟨by omega, Nat.le_of_ble_eq_true rfl⟩ | exact ⟨⟨by assumption, by omega⟩, Nat.le_of_ble_eq_true rfl⟩ | decide) ?_; conv => whnf)
          (refine And.intro (fun h => ?_) (fun h => by omega); conv => whnf)
          have hw1 := hw.forget
          have hmal := mal_ok hw1.1.1 hw1.1.2.1 h4 htok
          have loop : ∀ (r t : Nat) (g3 : zM), t + r = k → (∀ j, j ≠ 1 → (j < 8 ∨ (16 ≤ j ∧ j < 32) ∨ 64 ≤ j) → g3 j = g1 j) → HistC g3 (pushz z) (pushr z rows s) → RelC g3 8 (mal (mfg s) n T t) (n + t) 0 → zW zX5_addAll (zC (d + 5)) Q 43 [zR 0, zI (-1), zI t] [] g3 := by
            intro r
            induction r with
            | zero =>
              intro t g3 e hf3 hh3 hr3
              obtain rfl : t = k := by omega
              have e5 : g3 3 (5 : Nat) = (t : Int) := by rw [hf3 3 (by omega) (by omega)]; exact hrow1
              (refine zW.go (zC_om _) (fun K hK => ?_); conv => whnf)
              (refine And.intro (by first | omega | assumption | rfl | exact zin_and | exact ⟨zin_and, by omega⟩ | exact ⟨by omega, zin_and⟩ | exact Nat.le_of_ble_eq_true rfl | exact ⟨Nat.le_of_ble_eq_true rfl, rfl⟩ | exact ⟨Nat.le_of_ble_eq_true rfl, by assumption⟩ | exact ⟨by omega, Nat.le_of_ble_eq_true rfl⟩ | exact ⟨⟨by assumption, by omega⟩, Nat.le_of_ble_eq_true rfl⟩ | decide) ?_; conv => whnf)
              (refine And.intro (by first | omega | assumption | rfl | exact zin_and | exact ⟨zin_and, by omega⟩ | exact ⟨by omega, zin_and⟩ | exact Nat.le_of_ble_eq_true rfl | exact ⟨Nat.le_of_ble_eq_true rfl, rfl⟩ | exact ⟨Nat.le_of_ble_eq_true rfl, by assumption⟩ | exact ⟨by omega, Nat.le_of_ble_eq_true rfl⟩ | exact ⟨⟨by assumption, by omega⟩, Nat.le_of_ble_eq_true rfl⟩ | decide) ?_; conv => whnf)
              rw [e5]
              (refine And.intro (by first | omega | assumption | rfl | exact zin_and | exact ⟨zin_and, by omega⟩ | exact ⟨by omega, zin_and⟩ | exact Nat.le_of_ble_eq_true rfl | exact ⟨Nat.le_of_ble_eq_true rfl, rfl⟩ | exact ⟨Nat.le_of_ble_eq_true rfl, by assumption⟩ | exact ⟨by omega, Nat.le_of_ble_eq_true rfl⟩ | exact ⟨⟨by assumption, by omega⟩, Nat.le_of_ble_eq_true rfl⟩ | decide) ?_; conv => whnf)
              (refine And.intro (fun h => ?_) (fun h => by omega); conv => whnf)
              (refine hK _ _ _ _ (zW.go (zC_om _) (fun K hK => ?_)); conv => whnf)
              (refine And.intro (by first | omega | assumption | rfl | exact zin_and | exact ⟨zin_and, by omega⟩ | exact ⟨by omega, zin_and⟩ | exact Nat.le_of_ble_eq_true rfl | exact ⟨Nat.le_of_ble_eq_true rfl, rfl⟩ | exact ⟨Nat.le_of_ble_eq_true rfl, by assumption⟩ | exact ⟨by omega, Nat.le_of_ble_eq_true rfl⟩ | exact ⟨⟨by assumption, by omega⟩, Nat.le_of_ble_eq_true rfl⟩ | decide) ?_; conv => whnf)
              (refine And.intro (by first | omega | assumption | rfl | exact zin_and | exact ⟨zin_and, by omega⟩ | exact ⟨by omega, zin_and⟩ | exact Nat.le_of_ble_eq_true rfl | exact ⟨Nat.le_of_ble_eq_true rfl, rfl⟩ | exact ⟨Nat.le_of_ble_eq_true rfl, by assumption⟩ | exact ⟨by omega, Nat.le_of_ble_eq_true rfl⟩ | exact ⟨⟨by assumption, by omega⟩, Nat.le_of_ble_eq_true rfl⟩ | decide) ?_; conv => whnf)
              (refine And.intro (by first | omega | assumption | rfl | exact zin_and | exact ⟨zin_and, by omega⟩ | exact ⟨by omega, zin_and⟩ | exact Nat.le_of_ble_eq_true rfl | exact ⟨Nat.le_of_ble_eq_true rfl, rfl⟩ | exact ⟨Nat.le_of_ble_eq_true rfl, by assumption⟩ | exact ⟨by omega, Nat.le_of_ble_eq_true rfl⟩ | exact ⟨⟨by assumption, by omega⟩, Nat.le_of_ble_eq_true rfl⟩ | decide) ?_; conv => whnf)
              rw [hr3.1.1]
              refine ⟨⟨fun w => absurd w (by decide), fun w => absurd w (by decide)⟩, zQe (hQ h1 h3 h4 h5 htok g3 (fun j a b c f e i => ?_) ?_ hh3 hr3) ?_⟩
              · rw [hf3 j a i]; exact hf1.1 j b c f e
              · rw [hf3 3 (by omega) (by omega)]; exact hf1.2
              · omega
            | succ r ih =>
              intro t g3 e hf3 hh3 hr3
              have e5 : g3 3 (5 : Nat) = (k : Int) := by rw [hf3 3 (by omega) (by omega)]; exact hrow1
              obtain ⟨w5, w6, w7⟩ := hrow2 t (by omega) (by omega)
              obtain ⟨b1, b2, b3⟩ := htok t (by omega)
              (refine zW.go (zC_om _) (fun K hK => ?_); conv => whnf)
              (refine And.intro (by first | omega | assumption | rfl | exact zin_and | exact ⟨zin_and, by omega⟩ | exact ⟨by omega, zin_and⟩ | exact Nat.le_of_ble_eq_true rfl | exact ⟨Nat.le_of_ble_eq_true rfl, rfl⟩ | exact ⟨Nat.le_of_ble_eq_true rfl, by assumption⟩ | exact ⟨by omega, Nat.le_of_ble_eq_true rfl⟩ | exact ⟨⟨by assumption, by omega⟩, Nat.le_of_ble_eq_true rfl⟩ | decide) ?_; conv => whnf)
              (refine And.intro (by first | omega | assumption | rfl | exact zin_and | exact ⟨zin_and, by omega⟩ | exact ⟨by omega, zin_and⟩ | exact Nat.le_of_ble_eq_true rfl | exact ⟨Nat.le_of_ble_eq_true rfl, rfl⟩ | exact ⟨Nat.le_of_ble_eq_true rfl, by assumption⟩ | exact ⟨by omega, Nat.le_of_ble_eq_true rfl⟩ | exact ⟨⟨by assumption, by omega⟩, Nat.le_of_ble_eq_true rfl⟩ | decide) ?_; conv => whnf)
              rw [e5]
              (refine And.intro (by first | omega | assumption | rfl | exact zin_and | exact ⟨zin_and, by omega⟩ | exact ⟨by omega, zin_and⟩ | exact Nat.le_of_ble_eq_true rfl | exact ⟨Nat.le_of_ble_eq_true rfl, rfl⟩ | exact ⟨Nat.le_of_ble_eq_true rfl, by assumption⟩ | exact ⟨by omega, Nat.le_of_ble_eq_true rfl⟩ | exact ⟨⟨by assumption, by omega⟩, Nat.le_of_ble_eq_true rfl⟩ | decide) ?_; conv => whnf)
              (refine And.intro (fun h => by omega) (fun h => ?_); conv => whnf)
              (refine And.intro (by first | omega | assumption | rfl | exact zin_and | exact ⟨zin_and, by omega⟩ | exact ⟨by omega, zin_and⟩ | exact Nat.le_of_ble_eq_true rfl | exact ⟨Nat.le_of_ble_eq_true rfl, rfl⟩ | exact ⟨Nat.le_of_ble_eq_true rfl, by assumption⟩ | exact ⟨by omega, Nat.le_of_ble_eq_true rfl⟩ | exact ⟨⟨by assumption, by omega⟩, Nat.le_of_ble_eq_true rfl⟩ | decide) ?_; conv => whnf)
              (refine And.intro (by first | omega | assumption | rfl | exact zin_and | exact ⟨zin_and, by omega⟩ | exact ⟨by omega, zin_and⟩ | exact Nat.le_of_ble_eq_true rfl | exact ⟨Nat.le_of_ble_eq_true rfl, rfl⟩ | exact ⟨Nat.le_of_ble_eq_true rfl, by assumption⟩ | exact ⟨by omega, Nat.le_of_ble_eq_true rfl⟩ | exact ⟨⟨by assumption, by omega⟩, Nat.le_of_ble_eq_true rfl⟩ | decide) ?_; conv => whnf)
              (refine And.intro (by first | omega | assumption | rfl | exact zin_and | exact ⟨zin_and, by omega⟩ | exact ⟨by omega, zin_and⟩ | exact Nat.le_of_ble_eq_true rfl | exact ⟨Nat.le_of_ble_eq_true rfl, rfl⟩ | exact ⟨Nat.le_of_ble_eq_true rfl, by assumption⟩ | exact ⟨by omega, Nat.le_of_ble_eq_true rfl⟩ | exact ⟨⟨by assumption, by omega⟩, Nat.le_of_ble_eq_true rfl⟩ | decide) ?_; conv => whnf)
              (refine And.intro (by first | omega | assumption | rfl | exact zin_and | exact ⟨zin_and, by omega⟩ | exact ⟨by omega, zin_and⟩ | exact Nat.le_of_ble_eq_true rfl | exact ⟨Nat.le_of_ble_eq_true rfl, rfl⟩ | exact ⟨Nat.le_of_ble_eq_true rfl, by assumption⟩ | exact ⟨by omega, Nat.le_of_ble_eq_true rfl⟩ | exact ⟨⟨by assumption, by omega⟩, Nat.le_of_ble_eq_true rfl⟩ | decide) ?_; conv => whnf)
              (refine And.intro (by first | omega | assumption | rfl | exact zin_and | exact ⟨zin_and, by omega⟩ | exact ⟨by omega, zin_and⟩ | exact Nat.le_of_ble_eq_true rfl | exact ⟨Nat.le_of_ble_eq_true rfl, rfl⟩ | exact ⟨Nat.le_of_ble_eq_true rfl, by assumption⟩ | exact ⟨by omega, Nat.le_of_ble_eq_true rfl⟩ | exact ⟨⟨by assumption, by omega⟩, Nat.le_of_ble_eq_true rfl⟩ | decide) ?_; conv => whnf)
              (refine s_at k5 (by omega) (by omega) ?_; conv => whnf)
              rw [if_pos (by omega), hf3 5 (by omega) (by omega), w5]
              (refine And.intro (by first | omega | assumption | rfl | exact zin_and | exact ⟨zin_and, by omega⟩ | exact ⟨by omega, zin_and⟩ | exact Nat.le_of_ble_eq_true rfl | exact ⟨Nat.le_of_ble_eq_true rfl, rfl⟩ | exact ⟨Nat.le_of_ble_eq_true rfl, by assumption⟩ | exact ⟨by omega, Nat.le_of_ble_eq_true rfl⟩ | exact ⟨⟨by assumption, by omega⟩, Nat.le_of_ble_eq_true rfl⟩ | decide) ?_; conv => whnf)
              (refine And.intro (by first | omega | assumption | rfl | exact zin_and | exact ⟨zin_and, by omega⟩ | exact ⟨by omega, zin_and⟩ | exact Nat.le_of_ble_eq_true rfl | exact ⟨Nat.le_of_ble_eq_true rfl, rfl⟩ | exact ⟨Nat.le_of_ble_eq_true rfl, by assumption⟩ | exact ⟨by omega, Nat.le_of_ble_eq_true rfl⟩ | exact ⟨⟨by assumption, by omega⟩, Nat.le_of_ble_eq_true rfl⟩ | decide) ?_; conv => whnf)
              (refine And.intro (by first | omega | assumption | rfl | exact zin_and | exact ⟨zin_and, by omega⟩ | exact ⟨by omega, zin_and⟩ | exact Nat.le_of_ble_eq_true rfl | exact ⟨Nat.le_of_ble_eq_true rfl, rfl⟩ | exact ⟨Nat.le_of_ble_eq_true rfl, by assumption⟩ | exact ⟨by omega, Nat.le_of_ble_eq_true rfl⟩ | exact ⟨⟨by assumption, by omega⟩, Nat.le_of_ble_eq_true rfl⟩ | decide) ?_; conv => whnf)
              (refine s_at k6 (by omega) (by omega) ?_; conv => whnf)
              rw [if_pos (by omega), hf3 6 (by omega) (by omega), w6]
              (refine And.intro (by first | omega | assumption | rfl | exact zin_and | exact ⟨zin_and, by omega⟩ | exact ⟨by omega, zin_and⟩ | exact Nat.le_of_ble_eq_true rfl | exact ⟨Nat.le_of_ble_eq_true rfl, rfl⟩ | exact ⟨Nat.le_of_ble_eq_true rfl, by assumption⟩ | exact ⟨by omega, Nat.le_of_ble_eq_true rfl⟩ | exact ⟨⟨by assumption, by omega⟩, Nat.le_of_ble_eq_true rfl⟩ | decide) ?_; conv => whnf)
              (refine And.intro (by first | omega | assumption | rfl | exact zin_and | exact ⟨zin_and, by omega⟩ | exact ⟨by omega, zin_and⟩ | exact Nat.le_of_ble_eq_true rfl | exact ⟨Nat.le_of_ble_eq_true rfl, rfl⟩ | exact ⟨Nat.le_of_ble_eq_true rfl, by assumption⟩ | exact ⟨by omega, Nat.le_of_ble_eq_true rfl⟩ | exact ⟨⟨by assumption, by omega⟩, Nat.le_of_ble_eq_true rfl⟩ | decide) ?_; conv => whnf)
              (refine And.intro (by first | omega | assumption | rfl | exact zin_and | exact ⟨zin_and, by omega⟩ | exact ⟨by omega, zin_and⟩ | exact Nat.le_of_ble_eq_true rfl | exact ⟨Nat.le_of_ble_eq_true rfl, rfl⟩ | exact ⟨Nat.le_of_ble_eq_true rfl, by assumption⟩ | exact ⟨by omega, Nat.le_of_ble_eq_true rfl⟩ | exact ⟨⟨by assumption, by omega⟩, Nat.le_of_ble_eq_true rfl⟩ | decide) ?_; conv => whnf)
              (refine s_at k7 (by omega) (by omega) ?_; conv => whnf)
              rw [if_pos (by omega), hf3 7 (by omega) (by omega), w7]
              (refine And.intro (by first | omega | assumption | rfl | exact zin_and | exact ⟨zin_and, by omega⟩ | exact ⟨by omega, zin_and⟩ | exact Nat.le_of_ble_eq_true rfl | exact ⟨Nat.le_of_ble_eq_true rfl, rfl⟩ | exact ⟨Nat.le_of_ble_eq_true rfl, by assumption⟩ | exact ⟨by omega, Nat.le_of_ble_eq_true rfl⟩ | exact ⟨⟨by assumption, by omega⟩, Nat.le_of_ble_eq_true rfl⟩ | decide) ?_; conv => whnf)
              (refine c_bagAppend zKC_8.2.1 hr3.1.U (hmal t (by omega)).1 (by omega) b1 b2 (by omega) (fun g4 hf4 hr4 => ?_); conv => whnf)
              refine hK _ _ _ _ (ih (t + 1) g4 (by omega) (fun j a b => ?_) (hh3.frame (fun j c => hf4 j (by omega))) (hr3.bag hr4 (fun j c => hf4 j (by omega)) ?_))
              · rw [hf4 j (by omega)]; exact hf3 j a b
              · have o := fun (i : Int) (hi : (1 ≤ i ∧ i < 9) ∨ 45 ≤ i) => (mal_old (s := mfg s) (T := T) h4 hi (t + 1) (by omega)).trans (mal_old (s := mfg s) (T := T) h4 hi t (by omega)).symm
                exact ⟨o 2 (by omega), o 3 (by omega), o 6 (by omega), o 7 (by omega), o 8 (by omega)⟩
          (refine hK _ _ _ _ ?_)
          (refine zW.upto (zC_om _) 4 (fun K hK => ?_); conv => whnf)
          (refine And.intro (by first | omega | assumption | rfl | exact zin_and | exact ⟨zin_and, by omega⟩ | exact ⟨by omega, zin_and⟩ | exact Nat.le_of_ble_eq_true rfl | exact ⟨Nat.le_of_ble_eq_true rfl, rfl⟩ | exact ⟨Nat.le_of_ble_eq_true rfl, by assumption⟩ | exact ⟨by omega, Nat.le_of_ble_eq_true rfl⟩ | exact ⟨⟨by assumption, by omega⟩, Nat.le_of_ble_eq_true rfl⟩ | decide) ?_; conv => whnf)
          (refine c_prepare hr1 hw hh1 (fun g2 hf2 hh2 hr2 => ?_); conv => whnf)
          exact hK _ _ _ _ (loop k 0 g2 (by omega) hf2 hh2 hr2)
      · (refine And.intro (fun h => by omega) (fun h => ?_); conv => whnf)
        exact ⟨⟨fun w => absurd w (by decide), fun w => absurd w (by decide)⟩, hQF h1 h3 (by omega) g1 hf1⟩
    · rw [if_neg h3]
      (refine And.intro (by first | omega | assumption | rfl | exact zin_and | exact ⟨zin_and, by omega⟩ | exact ⟨by omega, zin_and⟩ | exact Nat.le_of_ble_eq_true rfl | exact ⟨Nat.le_of_ble_eq_true rfl, rfl⟩ | exact ⟨Nat.le_of_ble_eq_true rfl, by assumption⟩ | exact ⟨by omega, Nat.le_of_ble_eq_true rfl⟩ | exact ⟨⟨by assumption, by omega⟩, Nat.le_of_ble_eq_true rfl⟩ | decide) ?_; conv => whnf)
      (refine And.intro (fun h => by omega) (fun h => ?_); conv => whnf)
      exact ⟨⟨fun w => absurd w (by decide), fun w => absurd w (by decide)⟩, hQn h1 h3 g1 hf1⟩
  · rw [if_neg h1]
    (refine And.intro (by first | omega | assumption | rfl | exact zin_and | exact ⟨zin_and, by omega⟩ | exact ⟨by omega, zin_and⟩ | exact Nat.le_of_ble_eq_true rfl | exact ⟨Nat.le_of_ble_eq_true rfl, rfl⟩ | exact ⟨Nat.le_of_ble_eq_true rfl, by assumption⟩ | exact ⟨by omega, Nat.le_of_ble_eq_true rfl⟩ | exact ⟨⟨by assumption, by omega⟩, Nat.le_of_ble_eq_true rfl⟩ | decide) ?_; conv => whnf)
    (refine And.intro (fun h => by omega) (fun h => ?_); conv => whnf)
    exact ⟨⟨fun w => absurd w (by decide), fun w => absurd w (by decide)⟩, hQf h1 g1 hf1⟩
end PAA
