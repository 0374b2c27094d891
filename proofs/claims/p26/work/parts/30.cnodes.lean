/-! nodes are made and settled -/
theorem RelN.up {g : zM} {q m k : Nat} {s : zS} {x w : Int} (hr : RelN g q s m) (hkm : k < m) (hx : pkd x w (nd s k 3) (nd s k 5) (nd s k 6) (if k = 0 then 0 else nd s k 0) (if k = 0 then 0 else nd s k 1)) : RelN (zup g (q + 1) k x) q (ru s (45 + 7 * k + 4) w) m := by
  refine ⟨?_, fun j hj => ?_⟩
  · rw [zup_ne (by omega)]
    exact hr.1
  · have e : ∀ f : Int, 0 ≤ f → f < 7 → (j ≠ k ∨ f ≠ 4) → nd (ru s (45 + 7 * k + 4) w) j f = nd s j f := fun f h1 h2 h3 => ru_n (by omega)
    rw [e 3 (by omega) (by omega) (by omega), e 5 (by omega) (by omega) (by omega), e 6 (by omega) (by omega) (by omega), e 0 (by omega) (by omega) (by omega), e 1 (by omega) (by omega) (by omega)]
    by_cases hjk : j = k
    · subst hjk
      have e4 : nd (ru s (45 + 7 * j + 4) w) j 4 = w := ru_s
      rw [e4, zup_s]
      exact hx
    · rw [e 4 (by omega) (by omega) (by omega), zup_i (by omega)]
      exact hr.2 j hj
theorem RelN.frame {g g' : zM} {q m : Nat} {s s' : zS} (hr : RelN g q s m) (h1 : g' q = g q) (h2 : g' (q + 1) = g (q + 1)) (h3 : ∀ j : Int, 45 ≤ j → j < 45 + 7 * m → s' j = s j) : RelN g' q s' m := by
  refine ⟨by rw [h1]; exact hr.1, fun k hk => ?_⟩
  have e : ∀ f : Int, 0 ≤ f → f < 7 → nd s' k f = nd s k f := fun f h1 h2 => h3 _ (by omega) (by omega)
  rw [h2, e 3 (by omega) (by omega), e 4 (by omega) (by omega), e 5 (by omega) (by omega), e 6 (by omega) (by omega), e 0 (by omega) (by omega), e 1 (by omega) (by omega)]
  exact hr.2 k hk
def mgu (s : zS) : Nat → zS
  | 0 => s
  | k + 1 => if nd (mgu s k) k 4 = 0 then ru (mgu s k) (45 + 7 * k + 4) 5 else mgu s k
section CN2
variable {g : zM} {q m : Nat} {s : zS} {d : Nat} {Q : zP}
theorem c_append (hk : zKN q) (h1 : g q (1 : Nat) = (m : Int)) (hm : m < 400) {p f i o b h : Nat} (hp : p < 4096) (hf : f < 16) (hi : i < 4096) (ho : o < 4096) (hb : b < 4096) (hh : h < 4096)
    (hQ : ∀ x, pkd x h b i o p f → Q none (zup (zup g (q + 1) m x) q (1 : Nat) (m + 1))) : zC (d + 1) 26 [zR q, zI p, zI f, zI i, zI o, zI b, zI h] g Q := by
  obtain ⟨hk0, hk1⟩ := id hk
  have hk11 : (zkd (q + 1)).1 = 3 := by rw [hk1]
  have hk12 : (zkd (q + 1)).2 = 400 := by rw [hk1]
  have hQ := hQ _ (pkd_make hh hb hi ho hp hf)
  refine zC.go zm_X2_append ⟨rfl, rfl⟩ rfl ?_
  (refine zW.go (zC_om _) (fun K hK => ?_); conv => whnf)
  (repeat' first | (refine hK _ _ _ _ (zW.go (zC_om _) (fun K hK => ?_)); conv => whnf) | (refine And.intro (by first | omega | assumption | rfl | exact zin_and | exact ⟨zin_and, by omega⟩ | exact ⟨by omega, zin_and⟩ | exact Nat.le_of_ble_eq_true rfl | exact ⟨Nat.le_of_ble_eq_true rfl, rfl⟩ | exact ⟨Nat.le_of_ble_eq_true rfl, by assumption⟩ | exact ⟨by omega, Nat.le_of_ble_eq_true rfl⟩ | exact ⟨⟨by assumption, by omega⟩, Nat.le_of_ble_eq_true rfl⟩ | decide) ?_; conv => whnf) | (refine And.intro (fun h => ?_) (fun h => ?_) <;> conv => whnf) | (intro h; conv => whnf))
  rw [zup_ne (show q ≠ q + 1 by omega), h1]
  (refine And.intro ⟨by assumption, fun w => absurd w (by decide)⟩ ?_; conv => whnf)
  exact ⟨trivial, hQ⟩
theorem c_settle (hk : zKN q) {k w : Nat} (hk4 : k < 400) {h b i o p f : Int} (hx : pkd (g (q + 1) k) h b i o p f) (hw : w < 4096) (hQ : ∀ x, pkd x w b i o p f → Q none (zup g (q + 1) k x)) : zC (d + 1) 34 [zR q, zI k, zI w] g Q := by
  obtain ⟨hk0, hk1⟩ := id hk
  have hk11 : (zkd (q + 1)).1 = 3 := by rw [hk1]
  have hk12 : (zkd (q + 1)).2 = 400 := by rw [hk1]
  have hQ := hQ _ (pkd_settle hx hw)
  refine zC.go zm_X2_settle ⟨rfl, rfl⟩ rfl ?_
  (refine zW.go (zC_om _) (fun K hK => ?_); conv => whnf)
  (repeat' first | (refine hK _ _ _ _ (zW.go (zC_om _) (fun K hK => ?_)); conv => whnf) | (refine And.intro (by first | omega | assumption | rfl | exact zin_and | exact ⟨zin_and, by omega⟩ | exact ⟨by omega, zin_and⟩ | exact Nat.le_of_ble_eq_true rfl | exact ⟨Nat.le_of_ble_eq_true rfl, rfl⟩ | exact ⟨Nat.le_of_ble_eq_true rfl, by assumption⟩ | exact ⟨by omega, Nat.le_of_ble_eq_true rfl⟩ | exact ⟨⟨by assumption, by omega⟩, Nat.le_of_ble_eq_true rfl⟩ | decide) ?_; conv => whnf) | (refine And.intro (fun h => ?_) (fun h => ?_) <;> conv => whnf) | (intro h; conv => whnf))
  all_goals first | exact hQ | omega
theorem RelN.here {k : Nat} (hr : RelN g q s m) (hkm : k < m) : zin (nd s k 4) ∧ zin (nd s k 3) := by
  obtain ⟨u, -, -, h1, h2, -⟩ := hr.2 k hkm
  omega
theorem mgu_old {s : zS} {m : Nat} : ∀ {j : Int}, (∀ k : Nat, k < m → j ≠ 45 + 7 * k + 4) → mgu s m j = s j := by
  induction m with
  | zero => intro j _; rfl
  | succ m ih =>
    intro j h
    have ih := ih (j := j) (fun k hk => h k (by omega))
    rw [mgu]
    split
    · rw [ru_n (h m (by omega)), ih]
    · exact ih
theorem c_giveUpOpen (hk : zKN q) (hr : RelN g q s m) (hm : m ≤ 400) (hQ : ∀ g' : zM, (∀ j, j ≠ q + 1 → g' j = g j) → RelN g' q (mgu s m) m → Q none g') : zC (d + 3) 35 [zR q] g Q := by
  obtain ⟨hk0, hk1⟩ := id hk
  refine zC.go zm_X2_giveUpOpen ⟨rfl, rfl⟩ rfl ?_
  (refine zW.upto (zC_om _) 2 (fun K hK => ?_); conv => whnf)
  have go : ∀ (r k : Nat) (g2 : zM), k + r = m → (∀ j, j ≠ q + 1 → g2 j = g j) → RelN g2 q (mgu s k) m → zW zX2_giveUpOpen (zC (d + 2)) Q 2 [zR q, zI k] [] g2 := by
    intro r
    induction r with
    | zero =>
      intro k g2 e hf hg
      obtain rfl : k = m := by omega
      have h1 := hg.1
      (refine zW.go (zC_om _) (fun K hK => ?_); conv => whnf)
      (refine And.intro (by first | omega | assumption | rfl | exact zin_and | exact ⟨zin_and, by omega⟩ | exact ⟨by omega, zin_and⟩ | exact Nat.le_of_ble_eq_true rfl | exact ⟨Nat.le_of_ble_eq_true rfl, rfl⟩ | exact ⟨Nat.le_of_ble_eq_true rfl, by assumption⟩ | exact ⟨by omega, Nat.le_of_ble_eq_true rfl⟩ | exact ⟨⟨by assumption, by omega⟩, Nat.le_of_ble_eq_true rfl⟩ | decide) ?_; conv => whnf)
      (refine And.intro (by first | omega | assumption | rfl | exact zin_and | exact ⟨zin_and, by omega⟩ | exact ⟨by omega, zin_and⟩ | exact Nat.le_of_ble_eq_true rfl | exact ⟨Nat.le_of_ble_eq_true rfl, rfl⟩ | exact ⟨Nat.le_of_ble_eq_true rfl, by assumption⟩ | exact ⟨by omega, Nat.le_of_ble_eq_true rfl⟩ | exact ⟨⟨by assumption, by omega⟩, Nat.le_of_ble_eq_true rfl⟩ | decide) ?_; conv => whnf)
      (refine And.intro (fun h => ?_) (fun h => by omega); conv => whnf)
      (repeat' first | (refine hK _ _ _ _ (zW.go (zC_om _) (fun K hK => ?_)); conv => whnf) | (refine And.intro (by first | omega | assumption | rfl | exact zin_and | exact ⟨zin_and, by omega⟩ | exact ⟨by omega, zin_and⟩ | exact Nat.le_of_ble_eq_true rfl | exact ⟨Nat.le_of_ble_eq_true rfl, rfl⟩ | exact ⟨Nat.le_of_ble_eq_true rfl, by assumption⟩ | exact ⟨by omega, Nat.le_of_ble_eq_true rfl⟩ | exact ⟨⟨by assumption, by omega⟩, Nat.le_of_ble_eq_true rfl⟩ | decide) ?_; conv => whnf) | (refine And.intro (fun h => ?_) (fun h => ?_) <;> conv => whnf) | (intro h; conv => whnf))
      exact hQ _ hf hg
    | succ r ih =>
      intro k g2 e hf hg
      have h1 := hg.1
      have hkm : k < m := by omega
      have h2 := hg.here hkm
      have ih := ih (k + 1)
      rw [mgu] at ih
      (refine zW.go (zC_om _) (fun K hK => ?_); conv => whnf)
      (refine And.intro (by first | omega | assumption | rfl | exact zin_and | exact ⟨zin_and, by omega⟩ | exact ⟨by omega, zin_and⟩ | exact Nat.le_of_ble_eq_true rfl | exact ⟨Nat.le_of_ble_eq_true rfl, rfl⟩ | exact ⟨Nat.le_of_ble_eq_true rfl, by assumption⟩ | exact ⟨by omega, Nat.le_of_ble_eq_true rfl⟩ | exact ⟨⟨by assumption, by omega⟩, Nat.le_of_ble_eq_true rfl⟩ | decide) ?_; conv => whnf)
      (refine And.intro (by first | omega | assumption | rfl | exact zin_and | exact ⟨zin_and, by omega⟩ | exact ⟨by omega, zin_and⟩ | exact Nat.le_of_ble_eq_true rfl | exact ⟨Nat.le_of_ble_eq_true rfl, rfl⟩ | exact ⟨Nat.le_of_ble_eq_true rfl, by assumption⟩ | exact ⟨by omega, Nat.le_of_ble_eq_true rfl⟩ | exact ⟨⟨by assumption, by omega⟩, Nat.le_of_ble_eq_true rfl⟩ | decide) ?_; conv => whnf)
      (refine And.intro (fun h => by omega) (fun h => ?_); conv => whnf)
      (refine And.intro (by first | omega | assumption | rfl | exact zin_and | exact ⟨zin_and, by omega⟩ | exact ⟨by omega, zin_and⟩ | exact Nat.le_of_ble_eq_true rfl | exact ⟨Nat.le_of_ble_eq_true rfl, rfl⟩ | exact ⟨Nat.le_of_ble_eq_true rfl, by assumption⟩ | exact ⟨by omega, Nat.le_of_ble_eq_true rfl⟩ | exact ⟨⟨by assumption, by omega⟩, Nat.le_of_ble_eq_true rfl⟩ | decide) ?_; conv => whnf)
      (refine c_how hk hg hm hkm ?_; conv => whnf)
      (refine And.intro (by first | omega | assumption | rfl | exact zin_and | exact ⟨zin_and, by omega⟩ | exact ⟨by omega, zin_and⟩ | exact Nat.le_of_ble_eq_true rfl | exact ⟨Nat.le_of_ble_eq_true rfl, rfl⟩ | exact ⟨Nat.le_of_ble_eq_true rfl, by assumption⟩ | exact ⟨by omega, Nat.le_of_ble_eq_true rfl⟩ | exact ⟨⟨by assumption, by omega⟩, Nat.le_of_ble_eq_true rfl⟩ | decide) ?_; conv => whnf)
      by_cases h4 : nd (mgu s k) k 4 = 0
      · rw [if_pos h4] at ih
        (refine And.intro (fun h => by omega) (fun h => ?_); conv => whnf)
        (refine And.intro (by first | omega | assumption | rfl | exact zin_and | exact ⟨zin_and, by omega⟩ | exact ⟨by omega, zin_and⟩ | exact Nat.le_of_ble_eq_true rfl | exact ⟨Nat.le_of_ble_eq_true rfl, rfl⟩ | exact ⟨Nat.le_of_ble_eq_true rfl, by assumption⟩ | exact ⟨by omega, Nat.le_of_ble_eq_true rfl⟩ | exact ⟨⟨by assumption, by omega⟩, Nat.le_of_ble_eq_true rfl⟩ | decide) ?_; conv => whnf)
        obtain ⟨u, w1⟩ := hg.2 k hkm
        (refine c_settle (w := 5) hk (k := k) (by omega) ⟨u, w1⟩ (by omega) (fun x hx => ?_); conv => whnf)
        refine hK _ _ _ _ (ih _ (by omega) (fun j hj => ?_) (hg.up hkm hx))
        rw [zup_ne hj, hf j hj]
      · rw [if_neg h4] at ih
        (refine And.intro (fun h => ?_) (fun h => by omega); conv => whnf)
        (refine hK _ _ _ _ (zW.go (zC_om _) (fun K hK => ?_)); conv => whnf)
        exact hK _ _ _ _ (ih _ (by omega) hf hg)
  exact hK _ _ _ _ (go m 0 g (by omega) (fun j hj => rfl) hr)
end CN2
