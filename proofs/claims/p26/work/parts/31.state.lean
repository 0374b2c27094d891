/-! the class's state against a row -/
def zKC (b : Nat) : Prop := zkd b = (0, 3) ∧ zKB (b + 1) ∧ zKN (b + 6)
def RelC (g : zM) (b : Nat) (s : zS) (n m : Nat) : Prop := RelB g (b + 1) s n ∧ RelN g (b + 6) s m ∧ g b (2 : Nat) = s 2 ∧ g b (3 : Nat) = s 3 ∧ g b (4 : Nat) = s 6 ∧ g b (5 : Nat) = s 7 ∧ g b (6 : Nat) = s 8
theorem RelB.frame {g g' : zM} {k n : Nat} {s s' : zS} (hr : RelB g k s n) (hg : ∀ j, k ≤ j → j < k + 5 → g' j = g j) (ha : magr s s') (hn : n ≤ 12) : RelB g' k s' n := by
  obtain ⟨h1, h2, h3⟩ := hr
  refine ⟨by rw [hg k (by omega) (by omega)]; exact h1, by rw [hg k (by omega) (by omega), h2]; exact ha.2.1, fun t ht => ?_⟩
  rw [hg (k + 1) (by omega) (by omega), hg (k + 2) (by omega) (by omega), hg (k + 3) (by omega) (by omega), hg (k + 4) (by omega) (by omega), ← ag_or ha hn, ← ha.2.2 (9 + t) (by omega) (by omega), ← ha.2.2 (21 + t) (by omega) (by omega), ← ha.2.2 (33 + t) (by omega) (by omega)]
  exact h3 t ht
/-- other cells, and slots of the row that a state does not hold -/
theorem RelC.frame {g g' : zM} {b n m : Nat} {s : zS} (hr : RelC g b s n m) (hg : ∀ j, b ≤ j → j < b + 8 → g' j = g j) (hn : n ≤ 12) : RelC g' b s n m := by
  obtain ⟨h1, h2, h3⟩ := hr
  refine ⟨h1.frame (fun j a c => hg j (by omega) (by omega)) magr.rfl hn, h2.frame (hg _ (by omega) (by omega)) (hg _ (by omega) (by omega)) (fun _ _ _ => rfl), ?_⟩
  rw [hg b (by omega) (by omega)]
  exact h3
section CS
variable {g : zM} {b n m : Nat} {s : zS} {d : Nat} {Q : zP}
theorem c_goesOn (hk : zKC b) (hr : RelC g b s n m) (hm : m ≤ 400) (hQ : Q (some (zI (if mtk s 0 m = -5 then 0 else 1))) g) : zC (d + 5) 40 [zR b] g Q := by
  obtain ⟨hk0, hkb, hkn⟩ := id hk
  obtain ⟨hkb0, -⟩ := id hkb
  obtain ⟨hkn0, hkn1⟩ := id hkn
  have := mtk_rng s 0 m
  refine zC.go zm_X3_goesOn ⟨rfl, rfl⟩ rfl ?_
  (refine zW.go (zC_om _) (fun K hK => ?_); conv => whnf)
  (refine And.intro (by first | omega | assumption | rfl | exact zin_and | exact ⟨zin_and, by omega⟩ | exact ⟨by omega, zin_and⟩ | exact Nat.le_of_ble_eq_true rfl | exact ⟨Nat.le_of_ble_eq_true rfl, rfl⟩ | exact ⟨Nat.le_of_ble_eq_true rfl, by assumption⟩ | exact ⟨by omega, Nat.le_of_ble_eq_true rfl⟩ | exact ⟨⟨by assumption, by omega⟩, Nat.le_of_ble_eq_true rfl⟩ | decide) ?_; conv => whnf)
  (refine And.intro (by first | omega | assumption | rfl | exact zin_and | exact ⟨zin_and, by omega⟩ | exact ⟨by omega, zin_and⟩ | exact Nat.le_of_ble_eq_true rfl | exact ⟨Nat.le_of_ble_eq_true rfl, rfl⟩ | exact ⟨Nat.le_of_ble_eq_true rfl, by assumption⟩ | exact ⟨by omega, Nat.le_of_ble_eq_true rfl⟩ | exact ⟨⟨by assumption, by omega⟩, Nat.le_of_ble_eq_true rfl⟩ | decide) ?_; conv => whnf)
  (refine c_nextOpen hkn hr.2.1 hm (order := 0) (by omega) ?_; conv => whnf)
  (refine And.intro (by first | omega | assumption | rfl | exact zin_and | exact ⟨zin_and, by omega⟩ | exact ⟨by omega, zin_and⟩ | exact Nat.le_of_ble_eq_true rfl | exact ⟨Nat.le_of_ble_eq_true rfl, rfl⟩ | exact ⟨Nat.le_of_ble_eq_true rfl, by assumption⟩ | exact ⟨by omega, Nat.le_of_ble_eq_true rfl⟩ | exact ⟨⟨by assumption, by omega⟩, Nat.le_of_ble_eq_true rfl⟩ | decide) ?_; conv => whnf)
  by_cases h : mtk s 0 m = -5
  · rw [if_pos h] at hQ
    (refine And.intro (fun h => ?_) (fun h => by omega); conv => whnf)
    (repeat' first | (refine hK _ _ _ _ (zW.go (zC_om _) (fun K hK => ?_)); conv => whnf) | (refine And.intro (by first | omega | assumption | rfl | exact zin_and | exact ⟨zin_and, by omega⟩ | exact ⟨by omega, zin_and⟩ | exact Nat.le_of_ble_eq_true rfl | exact ⟨Nat.le_of_ble_eq_true rfl, rfl⟩ | exact ⟨Nat.le_of_ble_eq_true rfl, by assumption⟩ | exact ⟨by omega, Nat.le_of_ble_eq_true rfl⟩ | exact ⟨⟨by assumption, by omega⟩, Nat.le_of_ble_eq_true rfl⟩ | decide) ?_; conv => whnf) | (refine And.intro (fun h => ?_) (fun h => ?_) <;> conv => whnf) | (intro h; conv => whnf))
    exact hQ
  · rw [if_neg h] at hQ
    (refine And.intro (fun h => by omega) (fun h => ?_); conv => whnf)
    (repeat' first | (refine hK _ _ _ _ (zW.go (zC_om _) (fun K hK => ?_)); conv => whnf) | (refine And.intro (by first | omega | assumption | rfl | exact zin_and | exact ⟨zin_and, by omega⟩ | exact ⟨by omega, zin_and⟩ | exact Nat.le_of_ble_eq_true rfl | exact ⟨Nat.le_of_ble_eq_true rfl, rfl⟩ | exact ⟨Nat.le_of_ble_eq_true rfl, by assumption⟩ | exact ⟨by omega, Nat.le_of_ble_eq_true rfl⟩ | exact ⟨⟨by assumption, by omega⟩, Nat.le_of_ble_eq_true rfl⟩ | decide) ?_; conv => whnf) | (refine And.intro (fun h => ?_) (fun h => ?_) <;> conv => whnf) | (intro h; conv => whnf))
    exact hQ
theorem c_gap (hk : zKC b) (hr : RelC g b s n m) (hm : m ≤ 400) (h7 : 0 ≤ s 7 ∧ s 7 ≤ 1188) (hQ : Q (some (zI (if mtk s 1 m = -5 then 0 else max 0 (nd s (mtk s 1 m) 3 - s 7)))) g) : zC (d + 5) 43 [zR b] g Q := by
  obtain ⟨hk0, hkb, hkn⟩ := id hk
  obtain ⟨hkb0, -⟩ := id hkb
  obtain ⟨hkn0, hkn1⟩ := id hkn
  have hrg := mtk_rng s 1 m
  obtain ⟨-, -, -, -, -, hs5, -⟩ := id hr
  refine zC.go zm_X3_gap ⟨rfl, rfl⟩ rfl ?_
  (refine zW.go (zC_om _) (fun K hK => ?_); conv => whnf)
  (refine And.intro (by first | omega | assumption | rfl | exact zin_and | exact ⟨zin_and, by omega⟩ | exact ⟨by omega, zin_and⟩ | exact Nat.le_of_ble_eq_true rfl | exact ⟨Nat.le_of_ble_eq_true rfl, rfl⟩ | exact ⟨Nat.le_of_ble_eq_true rfl, by assumption⟩ | exact ⟨by omega, Nat.le_of_ble_eq_true rfl⟩ | exact ⟨⟨by assumption, by omega⟩, Nat.le_of_ble_eq_true rfl⟩ | decide) ?_; conv => whnf)
  (refine And.intro (by first | omega | assumption | rfl | exact zin_and | exact ⟨zin_and, by omega⟩ | exact ⟨by omega, zin_and⟩ | exact Nat.le_of_ble_eq_true rfl | exact ⟨Nat.le_of_ble_eq_true rfl, rfl⟩ | exact ⟨Nat.le_of_ble_eq_true rfl, by assumption⟩ | exact ⟨by omega, Nat.le_of_ble_eq_true rfl⟩ | exact ⟨⟨by assumption, by omega⟩, Nat.le_of_ble_eq_true rfl⟩ | decide) ?_; conv => whnf)
  (refine c_nextOpen hkn hr.2.1 hm (order := 1) (by omega) ?_; conv => whnf)
  (refine And.intro (by first | omega | assumption | rfl | exact zin_and | exact ⟨zin_and, by omega⟩ | exact ⟨by omega, zin_and⟩ | exact Nat.le_of_ble_eq_true rfl | exact ⟨Nat.le_of_ble_eq_true rfl, rfl⟩ | exact ⟨Nat.le_of_ble_eq_true rfl, by assumption⟩ | exact ⟨by omega, Nat.le_of_ble_eq_true rfl⟩ | exact ⟨⟨by assumption, by omega⟩, Nat.le_of_ble_eq_true rfl⟩ | decide) ?_; conv => whnf)
  generalize mtk s 1 m = f at *
  by_cases h : f = -5
  · rw [if_pos h] at hQ
    (refine And.intro (fun h => by omega) (fun h => ?_); conv => whnf)
    (repeat' first | (refine hK _ _ _ _ (zW.go (zC_om _) (fun K hK => ?_)); conv => whnf) | (refine And.intro (by first | omega | assumption | rfl | exact zin_and | exact ⟨zin_and, by omega⟩ | exact ⟨by omega, zin_and⟩ | exact Nat.le_of_ble_eq_true rfl | exact ⟨Nat.le_of_ble_eq_true rfl, rfl⟩ | exact ⟨Nat.le_of_ble_eq_true rfl, by assumption⟩ | exact ⟨by omega, Nat.le_of_ble_eq_true rfl⟩ | exact ⟨⟨by assumption, by omega⟩, Nat.le_of_ble_eq_true rfl⟩ | decide) ?_; conv => whnf) | (refine And.intro (fun h => ?_) (fun h => ?_) <;> conv => whnf) | (intro h; conv => whnf))
    exact hQ
  · rw [if_neg h] at hQ
    obtain ⟨k, rfl⟩ : ∃ k : Nat, f = (k : Int) := ⟨f.toNat, by omega⟩
    have h2 := hr.2.1.here (k := k) (by omega)
    obtain ⟨u, -, -, -, hbd, -⟩ := hr.2.1.2 k (by omega)
    (refine And.intro (fun h => ?_) (fun h => by omega); conv => whnf)
    (refine hK _ _ _ _ (zW.go (zC_om _) (fun K hK => ?_)); conv => whnf)
    (refine And.intro (by first | omega | assumption | rfl | exact zin_and | exact ⟨zin_and, by omega⟩ | exact ⟨by omega, zin_and⟩ | exact Nat.le_of_ble_eq_true rfl | exact ⟨Nat.le_of_ble_eq_true rfl, rfl⟩ | exact ⟨Nat.le_of_ble_eq_true rfl, by assumption⟩ | exact ⟨by omega, Nat.le_of_ble_eq_true rfl⟩ | exact ⟨⟨by assumption, by omega⟩, Nat.le_of_ble_eq_true rfl⟩ | decide) ?_; conv => whnf)
    (refine And.intro (by first | omega | assumption | rfl | exact zin_and | exact ⟨zin_and, by omega⟩ | exact ⟨by omega, zin_and⟩ | exact Nat.le_of_ble_eq_true rfl | exact ⟨Nat.le_of_ble_eq_true rfl, rfl⟩ | exact ⟨Nat.le_of_ble_eq_true rfl, by assumption⟩ | exact ⟨by omega, Nat.le_of_ble_eq_true rfl⟩ | exact ⟨⟨by assumption, by omega⟩, Nat.le_of_ble_eq_true rfl⟩ | decide) ?_; conv => whnf)
    (refine c_nbound hkn hr.2.1 hm (k := k) (by omega) ?_; conv => whnf)
    (repeat' first | (refine hK _ _ _ _ (zW.go (zC_om _) (fun K hK => ?_)); conv => whnf) | (refine And.intro (by first | omega | assumption | rfl | exact zin_and | exact ⟨zin_and, by omega⟩ | exact ⟨by omega, zin_and⟩ | exact Nat.le_of_ble_eq_true rfl | exact ⟨Nat.le_of_ble_eq_true rfl, rfl⟩ | exact ⟨Nat.le_of_ble_eq_true rfl, by assumption⟩ | exact ⟨by omega, Nat.le_of_ble_eq_true rfl⟩ | exact ⟨⟨by assumption, by omega⟩, Nat.le_of_ble_eq_true rfl⟩ | decide) ?_; conv => whnf) | (refine And.intro (fun h => ?_) (fun h => ?_) <;> conv => whnf) | (intro h; conv => whnf))
    refine zQe hQ ?_
    rw [hs5]
theorem c_forget (hk : zKC b) (hQ : Q none (zup (zup (zup (zup g (b + 6) (1 : Nat) 0) b (4 : Nat) 0) b (5 : Nat) 0) b (6 : Nat) 0)) : zC (d + 1) 41 [zR b] g Q := by
  obtain ⟨hk0, hkb, hkn⟩ := id hk
  obtain ⟨hkb0, -⟩ := id hkb
  obtain ⟨hkn0, hkn1⟩ := id hkn
  refine zC.go zm_X3_forgetSearch ⟨rfl, rfl⟩ rfl ?_
  (refine zW.go (zC_om _) (fun K hK => ?_); conv => whnf)
  (refine And.intro (by first | omega | assumption | rfl | exact zin_and | exact ⟨zin_and, by omega⟩ | exact ⟨by omega, zin_and⟩ | exact Nat.le_of_ble_eq_true rfl | exact ⟨Nat.le_of_ble_eq_true rfl, rfl⟩ | exact ⟨Nat.le_of_ble_eq_true rfl, by assumption⟩ | exact ⟨by omega, Nat.le_of_ble_eq_true rfl⟩ | exact ⟨⟨by assumption, by omega⟩, Nat.le_of_ble_eq_true rfl⟩ | decide) ?_; conv => whnf)
  (refine And.intro ⟨by assumption, fun w => absurd w (by decide)⟩ ?_; conv => whnf)
  (refine And.intro ⟨by assumption, fun w => absurd w (by decide)⟩ ?_; conv => whnf)
  (refine And.intro ⟨by assumption, fun w => absurd w (by decide)⟩ ?_; conv => whnf)
  (refine And.intro ⟨by assumption, fun w => absurd w (by decide)⟩ ?_; conv => whnf)
  exact ⟨trivial, hQ⟩
/-- a search forgotten -/
def mfg (s : zS) : zS := ru (ru (ru (ru (ru s 4 0) 5 0) 6 0) 7 0) 8 0
theorem mfg_old {j : Int} (h : j < 4 ∨ 8 < j) : mfg s j = s j := by
  unfold mfg
  rw [ru_n (by omega), ru_n (by omega), ru_n (by omega), ru_n (by omega), ru_n (by omega)]
theorem mfg_ag : magr s (mfg s) := ⟨(mfg_old (by omega)).symm, (mfg_old (by omega)).symm, fun j h1 h2 => (mfg_old (by omega)).symm⟩
theorem RelC.forget (hr : RelC g b s n m) (hn : n ≤ 12) : RelC (zup (zup (zup (zup g (b + 6) (1 : Nat) 0) b (4 : Nat) 0) b (5 : Nat) 0) b (6 : Nat) 0) b (mfg s) n 0 := by
  obtain ⟨h1, h2, h3, h4, h5, h6, h7⟩ := hr
  refine ⟨h1.frame (fun j a c => ?_) mfg_ag hn, ⟨?_, fun k hk => absurd hk (by omega)⟩, ?_, ?_, ?_, ?_, ?_⟩
  · rw [zup_ne (by omega), zup_ne (by omega), zup_ne (by omega), zup_ne (by omega)]
  · rw [zup_ne (by omega), zup_ne (by omega), zup_ne (by omega), zup_s]
    rfl
  · rw [zup_i (by decide), zup_i (by decide), zup_i (by decide), zup_ne (by omega), mfg_old (by omega)]
    exact h3
  · rw [zup_i (by decide), zup_i (by decide), zup_i (by decide), zup_ne (by omega), mfg_old (by omega)]
    exact h4
  · rw [zup_i (by decide), zup_i (by decide), zup_s]
    rfl
  · rw [zup_i (by decide), zup_s]
    rfl
  · rw [zup_s]
    rfl
/-- what a row is after its root is made, and what a root's row is -/
def mroot (s : zS) (n : Nat) : zS := mmk (mfg s) n (-5) (-5) 0 0 0
theorem mposs0 (h : 0 ≤ s 1) : mposs s n 0 = true := by
  have go : ∀ t, mpb s n 0 t = true := by
    intro t
    induction t with
    | zero => exact decide_eq_true (by rw [bsum0]; exact h)
    | succ t ih => rw [mpb, ih]; simp
  exact go n
theorem RelN.snoc {g : zM} {q m : Nat} {s s' : zS} {x : Int} (hr : RelN g q s m) (hx : pkd x (nd s' m 4) (nd s' m 3) (nd s' m 5) (nd s' m 6) (if m = 0 then 0 else nd s' m 0) (if m = 0 then 0 else nd s' m 1)) (hs : ∀ j : Int, 45 ≤ j → j < 45 + 7 * m → s' j = s j) : RelN (zup (zup g (q + 1) m x) q (1 : Nat) (m + 1)) q s' (m + 1) := by
  refine ⟨by rw [zup_s]; rfl, fun k hk => ?_⟩
  rw [zup_ne (show q + 1 ≠ q by omega)]
  by_cases hkm : k = m
  · subst hkm
    rw [zup_s]
    exact hx
  · have e : ∀ f : Int, 0 ≤ f → f < 7 → nd s' k f = nd s k f := fun f h1 h2 => hs _ (by omega) (by omega)
    rw [zup_i (by omega), e 3 (by omega) (by omega), e 4 (by omega) (by omega), e 5 (by omega) (by omega), e 6 (by omega) (by omega), e 0 (by omega) (by omega), e 1 (by omega) (by omega)]
    exact hr.2 k (by omega)
/-- a state with a node more -/
theorem RelC.snoc {s' : zS} {x : Int} (hr : RelC g b s n m) (hn : n ≤ 12) (hx : pkd x (nd s' m 4) (nd s' m 3) (nd s' m 5) (nd s' m 6) (if m = 0 then 0 else nd s' m 0) (if m = 0 then 0 else nd s' m 1)) (hs : ∀ j : Int, j ≠ 4 → j ≠ 5 → j < 45 + 7 * m → s' j = s j) : RelC (zup (zup g (b + 6 + 1) m x) (b + 6) (1 : Nat) (m + 1)) b s' n (m + 1) := by
  obtain ⟨h1, h2, h3, h4, h5, h6, h7⟩ := hr
  have hg : ∀ j, j ≠ b + 6 → j ≠ b + 6 + 1 → (zup (zup g (b + 6 + 1) m x) (b + 6) (1 : Nat) (m + 1)) j = g j := fun j a c => by rw [zup_ne a, zup_ne c]
  have ha : magr s s' := ⟨(hs _ (by omega) (by omega) (by omega)).symm, (hs _ (by omega) (by omega) (by omega)).symm, fun j a c => (hs _ (by omega) (by omega) (by omega)).symm⟩
  refine ⟨h1.frame (fun j a c => hg j (by omega) (by omega)) ha hn, h2.snoc hx (fun j a c => hs j (by omega) (by omega) (by omega)), ?_⟩
  rw [hg b (by omega) (by omega), hs 2 (by omega) (by omega) (by omega), hs 3 (by omega) (by omega) (by omega), hs 6 (by omega) (by omega) (by omega), hs 7 (by omega) (by omega) (by omega), hs 8 (by omega) (by omega) (by omega)]
  exact ⟨h3, h4, h5, h6, h7⟩
theorem c_openRoot (hk : zKC b) (hr : RelC g b s n m) (hok : mok s n) (hsym : msym s n) (hQ : ∀ g' : zM, (∀ j, j ≠ b → j ≠ b + 6 → j ≠ b + 6 + 1 → g' j = g j) → RelC g' b (mroot s n) n 1 → Q none g') : zC (d + 4) 42 [zR b] g Q := by
  obtain ⟨hk0, hkb, hkn⟩ := id hk
  obtain ⟨hkb0, -⟩ := id hkb
  obtain ⟨hkn0, hkn1⟩ := id hkn
  have hn := hok.2.1
  have hok1 := (mfg_ag (s := s)).ok hok
  have hp0 : mposs (mfg s) n 0 = true := mposs0 (hok1.2.2.1).1
  have hch := mchild_rng (i := 0) (o := 0) hok1
  have h2n : 0 < 2 ^ n := Nat.two_pow_pos n
  have hm5 : mfg s 5 = (0 : Nat) := by rfl
  have h7 : mfg s 7 = 0 := rfl
  refine zC.go zm_X3_openRoot ⟨rfl, rfl⟩ rfl ?_
  (refine zW.go (zC_om _) (fun K hK => ?_); conv => whnf)
  (refine And.intro (by first | omega | assumption | rfl | exact zin_and | exact ⟨zin_and, by omega⟩ | exact ⟨by omega, zin_and⟩ | exact Nat.le_of_ble_eq_true rfl | exact ⟨Nat.le_of_ble_eq_true rfl, rfl⟩ | exact ⟨Nat.le_of_ble_eq_true rfl, by assumption⟩ | exact ⟨by omega, Nat.le_of_ble_eq_true rfl⟩ | exact ⟨⟨by assumption, by omega⟩, Nat.le_of_ble_eq_true rfl⟩ | decide) ?_; conv => whnf)
  (refine c_forget hk ?_; conv => whnf)
  have hr1 := hr.forget hn
  have hf1 : ∀ j, j ≠ b → j ≠ b + 6 → j ≠ b + 6 + 1 → (zup (zup (zup (zup g (b + 6) (1 : Nat) 0) b (4 : Nat) 0) b (5 : Nat) 0) b (6 : Nat) 0) j = g j := fun j a c _ => by rw [zup_ne a, zup_ne a, zup_ne a, zup_ne c]
  generalize (zup (zup (zup (zup g (b + 6) (1 : Nat) 0) b (4 : Nat) 0) b (5 : Nat) 0) b (6 : Nat) 0) = g1 at *
  (refine And.intro (by first | omega | assumption | rfl | exact zin_and | exact ⟨zin_and, by omega⟩ | exact ⟨by omega, zin_and⟩ | exact Nat.le_of_ble_eq_true rfl | exact ⟨Nat.le_of_ble_eq_true rfl, rfl⟩ | exact ⟨Nat.le_of_ble_eq_true rfl, by assumption⟩ | exact ⟨by omega, Nat.le_of_ble_eq_true rfl⟩ | exact ⟨⟨by assumption, by omega⟩, Nat.le_of_ble_eq_true rfl⟩ | decide) ?_; conv => whnf)
  (refine And.intro (by first | omega | assumption | rfl | exact zin_and | exact ⟨zin_and, by omega⟩ | exact ⟨by omega, zin_and⟩ | exact Nat.le_of_ble_eq_true rfl | exact ⟨Nat.le_of_ble_eq_true rfl, rfl⟩ | exact ⟨Nat.le_of_ble_eq_true rfl, by assumption⟩ | exact ⟨by omega, Nat.le_of_ble_eq_true rfl⟩ | exact ⟨⟨by assumption, by omega⟩, Nat.le_of_ble_eq_true rfl⟩ | decide) ?_; conv => whnf)
  (refine And.intro (by first | omega | assumption | rfl | exact zin_and | exact ⟨zin_and, by omega⟩ | exact ⟨by omega, zin_and⟩ | exact Nat.le_of_ble_eq_true rfl | exact ⟨Nat.le_of_ble_eq_true rfl, rfl⟩ | exact ⟨Nat.le_of_ble_eq_true rfl, by assumption⟩ | exact ⟨by omega, Nat.le_of_ble_eq_true rfl⟩ | exact ⟨⟨by assumption, by omega⟩, Nat.le_of_ble_eq_true rfl⟩ | decide) ?_; conv => whnf)
  (refine c_bound hkb hr1.1 hok1 (hsym.ag hn mfg_ag) (i := 0) (o := 0) h2n h2n ?_; conv => whnf)
  rw [if_pos hp0]
  have hch3 : mchild (mfg s) n 0 0 = mbound (mfg s) n 0 0 := if_pos hp0
  rw [hch3] at hch
  obtain ⟨w, hw⟩ : ∃ w : Nat, mbound (mfg s) n 0 0 = (w : Int) := ⟨(mbound (mfg s) n 0 0).toNat, by omega⟩
  rw [hw]
  (refine And.intro (by first | omega | assumption | rfl | exact zin_and | exact ⟨zin_and, by omega⟩ | exact ⟨by omega, zin_and⟩ | exact Nat.le_of_ble_eq_true rfl | exact ⟨Nat.le_of_ble_eq_true rfl, rfl⟩ | exact ⟨Nat.le_of_ble_eq_true rfl, by assumption⟩ | exact ⟨by omega, Nat.le_of_ble_eq_true rfl⟩ | exact ⟨⟨by assumption, by omega⟩, Nat.le_of_ble_eq_true rfl⟩ | decide) ?_; conv => whnf)
  (refine c_append (m := 0) (p := 0) (f := 0) (i := 0) (o := 0) (h := 0) hkn hr1.2.1.1 (by omega) (by omega) (by omega) (by omega) (by omega) (b := w) (by omega) (by omega) (fun x hx => ?_); conv => whnf)
  (refine And.intro (by first | omega | assumption | rfl | exact zin_and | exact ⟨zin_and, by omega⟩ | exact ⟨by omega, zin_and⟩ | exact Nat.le_of_ble_eq_true rfl | exact ⟨Nat.le_of_ble_eq_true rfl, rfl⟩ | exact ⟨Nat.le_of_ble_eq_true rfl, by assumption⟩ | exact ⟨by omega, Nat.le_of_ble_eq_true rfl⟩ | exact ⟨⟨by assumption, by omega⟩, Nat.le_of_ble_eq_true rfl⟩ | decide) ?_; conv => whnf)
  refine hQ _ (fun j a c e => ?_) (hr1.snoc hn ?_ (fun j h1 h2 h3 => ?_))
  · rw [zup_ne c, zup_ne e, hf1 j a c e]
  · have e4 : nd (mroot s n) ((0 : Nat) : Int) 4 = 0 := (mmk_4 hm5).trans (by unfold mhow; simp)
    have e3 : nd (mroot s n) ((0 : Nat) : Int) 3 = w := (mmk_3 hm5).trans (by rw [hch3, hw])
    have e5 : nd (mroot s n) ((0 : Nat) : Int) 5 = 0 := mmk_n5 hm5
    have e6 : nd (mroot s n) ((0 : Nat) : Int) 6 = 0 := mmk_n6 hm5
    rw [e4, e3, e5, e6]
    exact hx
  · exact mmk_old hm5 ⟨h2, h3⟩
theorem RelC.fld {i : Nat} {v : Int} {s' : zS} (hr : RelC g b s n m) (hn : n ≤ 12) (hs : ∀ j : Int, (j < 2 ∨ 8 < j) → s' j = s j) (hf : ((zup g b i v) b (2 : Nat) = s' 2 ∧ (zup g b i v) b (3 : Nat) = s' 3) ∧ ((zup g b i v) b (4 : Nat) = s' 6 ∧ (zup g b i v) b (5 : Nat) = s' 7 ∧ (zup g b i v) b (6 : Nat) = s' 8)) : RelC (zup g b i v) b s' n m :=
  ⟨hr.1.frame (fun j a c => zup_ne (by omega)) ⟨(hs _ (by omega)).symm, (hs _ (by omega)).symm, fun j a c => (hs _ (by omega)).symm⟩ hn, hr.2.1.frame (zup_ne (by omega)) (zup_ne (by omega)) (fun j a c => hs _ (by omega)), hf.1.1, hf.1.2, hf.2.1, hf.2.2.1, hf.2.2.2⟩
/-- what the class tells of a node that is taken, and its row then -/
def mrs (s : zS) (n i o : Nat) (bd : Int) : Int := if bd ≤ s 7 then 1 else if bd ≤ bsum s 9 (mheel s n i o) n then 2 else 4
def mrow (s : zS) (n i o : Nat) (bd : Int) : zS := if bd ≤ s 7 then s else if s 7 < bsum s 9 (mheel s n i o) n then ru (ru s 7 (bsum s 9 (mheel s n i o) n)) 8 (mheel s n i o : Nat) else s
theorem c_resultFor (hk : zKC b) (hr : RelC g b s n m) (hok : mok s n) (hsym : msym s n) (hm : m ≤ 400) (h7 : 0 ≤ s 7 ∧ s 7 ≤ 1188) {k i o : Nat} (hkm : k < m) (hi : nd s k 5 = (i : Int)) (ho : nd s k 6 = (o : Int)) (hil : i < 2 ^ n) (hol : o < 2 ^ n) (hQ : ∀ g' : zM, (∀ j, j ≠ b → g' j = g j) → RelC g' b (mrow s n i o (nd s k 3)) n m → Q (some (zI (mrs s n i o (nd s k 3)))) g') : zC (d + 4) 45 [zR b, zI k] g Q := by
  obtain ⟨hk0, hkb, hkn⟩ := id hk
  obtain ⟨hkb0, -⟩ := id hkb
  obtain ⟨hkn0, hkn1⟩ := id hkn
  have hn := hok.2.1
  obtain ⟨-, -, r2, r3, r4, r5, r6⟩ := id hr
  obtain ⟨u, -, -, -, hbd, -⟩ := hr.2.1.2 k hkm
  have hhs := msumw (set := mheel s n i o) hok
  have hhl := mheel_lt (o := o) hok hil
  have h2n := zp12 hn
  unfold mrs mrow at hQ
  refine zC.go zm_X3_resultFor ⟨rfl, rfl⟩ rfl ?_
  (refine zW.go (zC_om _) (fun K hK => ?_); conv => whnf)
  (refine And.intro (by first | omega | assumption | rfl | exact zin_and | exact ⟨zin_and, by omega⟩ | exact ⟨by omega, zin_and⟩ | exact Nat.le_of_ble_eq_true rfl | exact ⟨Nat.le_of_ble_eq_true rfl, rfl⟩ | exact ⟨Nat.le_of_ble_eq_true rfl, by assumption⟩ | exact ⟨by omega, Nat.le_of_ble_eq_true rfl⟩ | exact ⟨⟨by assumption, by omega⟩, Nat.le_of_ble_eq_true rfl⟩ | decide) ?_; conv => whnf)
  (refine And.intro (by first | omega | assumption | rfl | exact zin_and | exact ⟨zin_and, by omega⟩ | exact ⟨by omega, zin_and⟩ | exact Nat.le_of_ble_eq_true rfl | exact ⟨Nat.le_of_ble_eq_true rfl, rfl⟩ | exact ⟨Nat.le_of_ble_eq_true rfl, by assumption⟩ | exact ⟨by omega, Nat.le_of_ble_eq_true rfl⟩ | exact ⟨⟨by assumption, by omega⟩, Nat.le_of_ble_eq_true rfl⟩ | decide) ?_; conv => whnf)
  (refine c_nbound hkn hr.2.1 hm (k := k) (by omega) ?_; conv => whnf)
  (refine And.intro (by first | omega | assumption | rfl | exact zin_and | exact ⟨zin_and, by omega⟩ | exact ⟨by omega, zin_and⟩ | exact Nat.le_of_ble_eq_true rfl | exact ⟨Nat.le_of_ble_eq_true rfl, rfl⟩ | exact ⟨Nat.le_of_ble_eq_true rfl, by assumption⟩ | exact ⟨by omega, Nat.le_of_ble_eq_true rfl⟩ | exact ⟨⟨by assumption, by omega⟩, Nat.le_of_ble_eq_true rfl⟩ | decide) ?_; conv => whnf)
  generalize nd s k 3 = bd at *
  have h5z : 0 ≤ g b (5 : Nat) ∧ g b (5 : Nat) ≤ 1188 := by omega
  (refine And.intro (by first | omega | assumption | rfl | exact zin_and | exact ⟨zin_and, by omega⟩ | exact ⟨by omega, zin_and⟩ | exact Nat.le_of_ble_eq_true rfl | exact ⟨Nat.le_of_ble_eq_true rfl, rfl⟩ | exact ⟨Nat.le_of_ble_eq_true rfl, by assumption⟩ | exact ⟨by omega, Nat.le_of_ble_eq_true rfl⟩ | exact ⟨⟨by assumption, by omega⟩, Nat.le_of_ble_eq_true rfl⟩ | decide) ?_; conv => whnf)
  by_cases c1 : bd ≤ s 7
  · rw [if_pos c1, if_pos c1] at hQ
    (refine And.intro (fun h => by omega) (fun h => ?_); conv => whnf)
    (repeat' first | (refine hK _ _ _ _ (zW.go (zC_om _) (fun K hK => ?_)); conv => whnf) | (refine And.intro (by first | omega | assumption | rfl | exact zin_and | exact ⟨zin_and, by omega⟩ | exact ⟨by omega, zin_and⟩ | exact Nat.le_of_ble_eq_true rfl | exact ⟨Nat.le_of_ble_eq_true rfl, rfl⟩ | exact ⟨Nat.le_of_ble_eq_true rfl, by assumption⟩ | exact ⟨by omega, Nat.le_of_ble_eq_true rfl⟩ | exact ⟨⟨by assumption, by omega⟩, Nat.le_of_ble_eq_true rfl⟩ | decide) ?_; conv => whnf) | (refine And.intro (fun h => ?_) (fun h => ?_) <;> conv => whnf) | (intro h; conv => whnf))
    exact hQ g (fun _ _ => rfl) hr
  · rw [if_neg c1, if_neg c1] at hQ
    (refine And.intro (fun h => ?_) (fun h => by omega); conv => whnf)
    (refine hK _ _ _ _ ?_)
    (refine zW.upto (zC_om _) 28 (fun K hK => ?_); conv => whnf)
    (refine And.intro (by first | omega | assumption | rfl | exact zin_and | exact ⟨zin_and, by omega⟩ | exact ⟨by omega, zin_and⟩ | exact Nat.le_of_ble_eq_true rfl | exact ⟨Nat.le_of_ble_eq_true rfl, rfl⟩ | exact ⟨Nat.le_of_ble_eq_true rfl, by assumption⟩ | exact ⟨by omega, Nat.le_of_ble_eq_true rfl⟩ | exact ⟨⟨by assumption, by omega⟩, Nat.le_of_ble_eq_true rfl⟩ | decide) ?_; conv => whnf)
    (refine And.intro (by first | omega | assumption | rfl | exact zin_and | exact ⟨zin_and, by omega⟩ | exact ⟨by omega, zin_and⟩ | exact Nat.le_of_ble_eq_true rfl | exact ⟨Nat.le_of_ble_eq_true rfl, rfl⟩ | exact ⟨Nat.le_of_ble_eq_true rfl, by assumption⟩ | exact ⟨by omega, Nat.le_of_ble_eq_true rfl⟩ | exact ⟨⟨by assumption, by omega⟩, Nat.le_of_ble_eq_true rfl⟩ | decide) ?_; conv => whnf)
    (refine And.intro (by first | omega | assumption | rfl | exact zin_and | exact ⟨zin_and, by omega⟩ | exact ⟨by omega, zin_and⟩ | exact Nat.le_of_ble_eq_true rfl | exact ⟨Nat.le_of_ble_eq_true rfl, rfl⟩ | exact ⟨Nat.le_of_ble_eq_true rfl, by assumption⟩ | exact ⟨by omega, Nat.le_of_ble_eq_true rfl⟩ | exact ⟨⟨by assumption, by omega⟩, Nat.le_of_ble_eq_true rfl⟩ | decide) ?_; conv => whnf)
    (refine c_in hkn hr.2.1 hm (k := k) (by omega) ?_; conv => whnf)
    rw [hi]
    (refine And.intro (by first | omega | assumption | rfl | exact zin_and | exact ⟨zin_and, by omega⟩ | exact ⟨by omega, zin_and⟩ | exact Nat.le_of_ble_eq_true rfl | exact ⟨Nat.le_of_ble_eq_true rfl, rfl⟩ | exact ⟨Nat.le_of_ble_eq_true rfl, by assumption⟩ | exact ⟨by omega, Nat.le_of_ble_eq_true rfl⟩ | exact ⟨⟨by assumption, by omega⟩, Nat.le_of_ble_eq_true rfl⟩ | decide) ?_; conv => whnf)
    (refine And.intro (by first | omega | assumption | rfl | exact zin_and | exact ⟨zin_and, by omega⟩ | exact ⟨by omega, zin_and⟩ | exact Nat.le_of_ble_eq_true rfl | exact ⟨Nat.le_of_ble_eq_true rfl, rfl⟩ | exact ⟨Nat.le_of_ble_eq_true rfl, by assumption⟩ | exact ⟨by omega, Nat.le_of_ble_eq_true rfl⟩ | exact ⟨⟨by assumption, by omega⟩, Nat.le_of_ble_eq_true rfl⟩ | decide) ?_; conv => whnf)
    (refine c_out hkn hr.2.1 hm (k := k) (by omega) ?_; conv => whnf)
    rw [ho]
    (refine And.intro (by first | omega | assumption | rfl | exact zin_and | exact ⟨zin_and, by omega⟩ | exact ⟨by omega, zin_and⟩ | exact Nat.le_of_ble_eq_true rfl | exact ⟨Nat.le_of_ble_eq_true rfl, rfl⟩ | exact ⟨Nat.le_of_ble_eq_true rfl, by assumption⟩ | exact ⟨by omega, Nat.le_of_ble_eq_true rfl⟩ | exact ⟨⟨by assumption, by omega⟩, Nat.le_of_ble_eq_true rfl⟩ | decide) ?_; conv => whnf)
    (refine c_heel hkb hr.1 hok hsym hil hol ?_; conv => whnf)
    (refine And.intro (by first | omega | assumption | rfl | exact zin_and | exact ⟨zin_and, by omega⟩ | exact ⟨by omega, zin_and⟩ | exact Nat.le_of_ble_eq_true rfl | exact ⟨Nat.le_of_ble_eq_true rfl, rfl⟩ | exact ⟨Nat.le_of_ble_eq_true rfl, by assumption⟩ | exact ⟨by omega, Nat.le_of_ble_eq_true rfl⟩ | exact ⟨⟨by assumption, by omega⟩, Nat.le_of_ble_eq_true rfl⟩ | decide) ?_; conv => whnf)
    (refine And.intro (by first | omega | assumption | rfl | exact zin_and | exact ⟨zin_and, by omega⟩ | exact ⟨by omega, zin_and⟩ | exact Nat.le_of_ble_eq_true rfl | exact ⟨Nat.le_of_ble_eq_true rfl, rfl⟩ | exact ⟨Nat.le_of_ble_eq_true rfl, by assumption⟩ | exact ⟨by omega, Nat.le_of_ble_eq_true rfl⟩ | exact ⟨⟨by assumption, by omega⟩, Nat.le_of_ble_eq_true rfl⟩ | decide) ?_; conv => whnf)
    (refine And.intro (by first | omega | assumption | rfl | exact zin_and | exact ⟨zin_and, by omega⟩ | exact ⟨by omega, zin_and⟩ | exact Nat.le_of_ble_eq_true rfl | exact ⟨Nat.le_of_ble_eq_true rfl, rfl⟩ | exact ⟨Nat.le_of_ble_eq_true rfl, by assumption⟩ | exact ⟨by omega, Nat.le_of_ble_eq_true rfl⟩ | exact ⟨⟨by assumption, by omega⟩, Nat.le_of_ble_eq_true rfl⟩ | decide) ?_; conv => whnf)
    (refine c_sumW hkb hr.1 hn hhl ?_; conv => whnf)
    generalize bsum s 9 (mheel s n i o) n = hs at *
    have j39 : ∀ g' : zM, (∀ j, j ≠ b → g' j = g j) → RelC g' b (if s 7 < hs then ru (ru s 7 hs) 8 (mheel s n i o : Nat) else s) n m → zW zX3_resultFor (zC (d + 3)) Q 39 [zR b, zI k, zI bd, zI (mheel s n i o : Nat), zI hs] [] g' := by
      intro g' hf hr'
      have hQ := hQ g' hf hr'
      (refine zW.go (zC_om _) (fun K hK => ?_); conv => whnf)
      (refine And.intro (by first | omega | assumption | rfl | exact zin_and | exact ⟨zin_and, by omega⟩ | exact ⟨by omega, zin_and⟩ | exact Nat.le_of_ble_eq_true rfl | exact ⟨Nat.le_of_ble_eq_true rfl, rfl⟩ | exact ⟨Nat.le_of_ble_eq_true rfl, by assumption⟩ | exact ⟨by omega, Nat.le_of_ble_eq_true rfl⟩ | exact ⟨⟨by assumption, by omega⟩, Nat.le_of_ble_eq_true rfl⟩ | decide) ?_; conv => whnf)
      by_cases c2 : bd ≤ hs
      · rw [if_pos c2] at hQ
        (refine And.intro (fun h => by omega) (fun h => ?_); conv => whnf)
        (repeat' first | (refine hK _ _ _ _ (zW.go (zC_om _) (fun K hK => ?_)); conv => whnf) | (refine And.intro (by first | omega | assumption | rfl | exact zin_and | exact ⟨zin_and, by omega⟩ | exact ⟨by omega, zin_and⟩ | exact Nat.le_of_ble_eq_true rfl | exact ⟨Nat.le_of_ble_eq_true rfl, rfl⟩ | exact ⟨Nat.le_of_ble_eq_true rfl, by assumption⟩ | exact ⟨by omega, Nat.le_of_ble_eq_true rfl⟩ | exact ⟨⟨by assumption, by omega⟩, Nat.le_of_ble_eq_true rfl⟩ | decide) ?_; conv => whnf) | (refine And.intro (fun h => ?_) (fun h => ?_) <;> conv => whnf) | (intro h; conv => whnf))
        exact hQ
      · rw [if_neg c2] at hQ
        (refine And.intro (fun h => ?_) (fun h => by omega); conv => whnf)
        (repeat' first | (refine hK _ _ _ _ (zW.go (zC_om _) (fun K hK => ?_)); conv => whnf) | (refine And.intro (by first | omega | assumption | rfl | exact zin_and | exact ⟨zin_and, by omega⟩ | exact ⟨by omega, zin_and⟩ | exact Nat.le_of_ble_eq_true rfl | exact ⟨Nat.le_of_ble_eq_true rfl, rfl⟩ | exact ⟨Nat.le_of_ble_eq_true rfl, by assumption⟩ | exact ⟨by omega, Nat.le_of_ble_eq_true rfl⟩ | exact ⟨⟨by assumption, by omega⟩, Nat.le_of_ble_eq_true rfl⟩ | decide) ?_; conv => whnf) | (refine And.intro (fun h => ?_) (fun h => ?_) <;> conv => whnf) | (intro h; conv => whnf))
        exact hQ
    (refine And.intro (by first | omega | assumption | rfl | exact zin_and | exact ⟨zin_and, by omega⟩ | exact ⟨by omega, zin_and⟩ | exact Nat.le_of_ble_eq_true rfl | exact ⟨Nat.le_of_ble_eq_true rfl, rfl⟩ | exact ⟨Nat.le_of_ble_eq_true rfl, by assumption⟩ | exact ⟨by omega, Nat.le_of_ble_eq_true rfl⟩ | exact ⟨⟨by assumption, by omega⟩, Nat.le_of_ble_eq_true rfl⟩ | decide) ?_; conv => whnf)
    (refine And.intro (by first | omega | assumption | rfl | exact zin_and | exact ⟨zin_and, by omega⟩ | exact ⟨by omega, zin_and⟩ | exact Nat.le_of_ble_eq_true rfl | exact ⟨Nat.le_of_ble_eq_true rfl, rfl⟩ | exact ⟨Nat.le_of_ble_eq_true rfl, by assumption⟩ | exact ⟨by omega, Nat.le_of_ble_eq_true rfl⟩ | exact ⟨⟨by assumption, by omega⟩, Nat.le_of_ble_eq_true rfl⟩ | decide) ?_; conv => whnf)
    by_cases c3 : s 7 < hs
    · rw [if_pos c3] at j39
      (refine And.intro (fun h => by omega) (fun h => ?_); conv => whnf)
      (refine And.intro ⟨by assumption, fun w => absurd w (by decide)⟩ ?_; conv => whnf)
      (refine And.intro ⟨by assumption, fun w => absurd w (by decide)⟩ ?_; conv => whnf)
      refine hK _ _ _ _ (j39 _ (fun j hj => ?_) ?_)
      · rw [zup_ne hj, zup_ne hj]
      · refine RelC.fld (s := ru s 7 hs) (RelC.fld hr hn (fun j h => ru_n (by omega)) ?_) hn (fun j h => ru_n (by omega)) ?_
        · rw [zup_i (by decide), zup_i (by decide), zup_i (by decide), zup_s, zup_i (by decide), ru_s, ru_n (by omega), ru_n (by omega), ru_n (by omega), ru_n (by omega)]
          exact ⟨⟨r2, r3⟩, r4, rfl, r6⟩
        · rw [zup_i (by decide), zup_i (by decide), zup_i (by decide), zup_i (by decide), zup_s, zup_i (by decide), zup_i (by decide), zup_i (by decide), zup_s, ru_s, ru_n (by omega), ru_n (by omega), ru_n (by omega), ru_n (by omega), ru_n (by omega), ru_n (by omega), ru_n (by omega), ru_s]
          exact ⟨⟨r2, r3⟩, r4, rfl, rfl⟩
    · rw [if_neg c3] at j39
      (refine And.intro (fun h => ?_) (fun h => by omega); conv => whnf)
      exact hK _ _ _ _ (j39 _ (fun j hj => rfl) hr)
end CS
