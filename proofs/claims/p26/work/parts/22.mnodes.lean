/-! the reference: nodes -/
def ru (s : zS) (i v : Int) : zS := fun j => if j = i then v else s j
theorem ru_s {s : zS} {i v : Int} : ru s i v i = v := by simp [ru]
theorem ru_n {s : zS} {i v j : Int} (h : j ≠ i) : ru s i v j = s j := by simp [ru, h]
theorem zup_ru {g : zM} {k : Nat} {i v : Int} : (zup g k i v) k = ru (g k) i v := zup_row
theorem magr.ru {s s' : zS} {i v : Int} (h : magr s s') (hi : 45 ≤ i ∨ (2 ≤ i ∧ i < 9)) : magr s (ru s' i v) := by
  refine ⟨?_, ?_, fun j h1 h2 => ?_⟩
  · rw [ru_n (by omega)]; exact h.1
  · rw [ru_n (by omega)]; exact h.2.1
  · rw [ru_n (by omega)]; exact h.2.2 j h1 h2
theorem magr.up {s : zS} {g : zM} {k : Nat} {i v : Int} (h : magr s (g k)) (hi : 45 ≤ i ∨ (2 ≤ i ∧ i < 9)) : magr s ((zup g k i v) k) := by
  rw [zup_ru]
  exact h.ru hi
theorem mso.up {g : zM} {s : zS} {n k : Nat} {i v : Int} (h : mso g s n) (hk : k ≠ 71) : mso (zup g k i v) s n := fun j hj => by
  rw [zup_k (Ne.symm hk)]
  exact h j hj
/-- how many of the first k nodes are so -/
def mcn (s : zS) (how : Int) (k : Nat) : Nat := zcnt k (fun j => decide (nd s j 4 = how))
theorem m_many {d a m : Nat} {how : Int} {g : zM} {Q : zP} (ha : zkd a = (1, 2845)) (hm : g a 5 = m) (hm4 : m ≤ 400) (hh : zin how) (hr : ∀ k : Nat, k < m → zin (nd (g a) k 4)) (hQ : Q (some (zI (mcn (g a) how m : Nat))) g) : zC (d + 2) 111 [zR a, zI how] g Q := by
  have hk1 : (zkd a).1 = 1 := by rw [ha]
  have hk2 : (zkd a).2 = 2845 := by rw [ha]
  refine zC.go zm_X6_many ⟨rfl, rfl⟩ rfl ?_
  (refine zW.upto (zC_om _) 4 (fun K hK => ?_); conv => whnf)
  refine hK _ _ _ _ (zdown (P := fun k => zW zX6_many (zC (d + 1)) Q 4 [zR a, zI how, zI (mcn (g a) how k : Nat), zI k] [] g) m ?_ ?_)
  · (refine zW.go (zC_om _) (fun K hK => ?_); conv => whnf)
    (refine And.intro (by first | omega | assumption | rfl | exact zin_and | exact ⟨zin_and, by omega⟩ | exact ⟨by omega, zin_and⟩ | exact Nat.le_of_ble_eq_true rfl | exact ⟨Nat.le_of_ble_eq_true rfl, rfl⟩ | exact ⟨Nat.le_of_ble_eq_true rfl, by assumption⟩ | decide) ?_; conv => whnf)
    (refine And.intro (by first | omega | assumption | rfl | exact zin_and | exact ⟨zin_and, by omega⟩ | exact ⟨by omega, zin_and⟩ | exact Nat.le_of_ble_eq_true rfl | exact ⟨Nat.le_of_ble_eq_true rfl, rfl⟩ | exact ⟨Nat.le_of_ble_eq_true rfl, by assumption⟩ | decide) ?_; conv => whnf)
    (refine And.intro (fun h => ?_) (fun h => by omega); conv => whnf)
    (repeat' first | (refine hK _ _ _ _ (zW.go (zC_om _) (fun K hK => ?_)); conv => whnf) | (refine And.intro (by first | omega | assumption | rfl | exact zin_and | exact ⟨zin_and, by omega⟩ | exact ⟨by omega, zin_and⟩ | exact Nat.le_of_ble_eq_true rfl | exact ⟨Nat.le_of_ble_eq_true rfl, rfl⟩ | exact ⟨Nat.le_of_ble_eq_true rfl, by assumption⟩ | decide) ?_; conv => whnf) | (refine And.intro (fun h => ?_) (fun h => ?_) <;> conv => whnf) | (intro h; conv => whnf))
    exact hQ
  · intro k hk hi
    have hrk := hr k hk
    have hi : zW zX6_many (zC (d + 1)) Q 4 [zR a, zI how, zI (mcn (g a) how (k + 1) : Nat), zI (k + 1 : Nat)] [] g := hi
    have e0 : mcn (g a) how (k + 1) = mcn (g a) how k + (if decide (nd (g a) k 4 = how) = true then 1 else 0) := rfl
    rw [e0] at hi
    (refine zW.go (zC_om _) (fun K hK => ?_); conv => whnf)
    (refine And.intro (by first | omega | assumption | rfl | exact zin_and | exact ⟨zin_and, by omega⟩ | exact ⟨by omega, zin_and⟩ | exact Nat.le_of_ble_eq_true rfl | exact ⟨Nat.le_of_ble_eq_true rfl, rfl⟩ | exact ⟨Nat.le_of_ble_eq_true rfl, by assumption⟩ | decide) ?_; conv => whnf)
    (refine And.intro (by first | omega | assumption | rfl | exact zin_and | exact ⟨zin_and, by omega⟩ | exact ⟨by omega, zin_and⟩ | exact Nat.le_of_ble_eq_true rfl | exact ⟨Nat.le_of_ble_eq_true rfl, rfl⟩ | exact ⟨Nat.le_of_ble_eq_true rfl, by assumption⟩ | decide) ?_; conv => whnf)
    (refine And.intro (fun h => by omega) (fun h => ?_); conv => whnf)
    (refine And.intro (by first | omega | assumption | rfl | exact zin_and | exact ⟨zin_and, by omega⟩ | exact ⟨by omega, zin_and⟩ | exact Nat.le_of_ble_eq_true rfl | exact ⟨Nat.le_of_ble_eq_true rfl, rfl⟩ | exact ⟨Nat.le_of_ble_eq_true rfl, by assumption⟩ | decide) ?_; conv => whnf)
    (refine m_of ha (by omega) (by omega) ?_; conv => whnf)
    (refine And.intro (by first | omega | assumption | rfl | exact zin_and | exact ⟨zin_and, by omega⟩ | exact ⟨by omega, zin_and⟩ | exact Nat.le_of_ble_eq_true rfl | exact ⟨Nat.le_of_ble_eq_true rfl, rfl⟩ | exact ⟨Nat.le_of_ble_eq_true rfl, by assumption⟩ | decide) ?_; conv => whnf)
    by_cases hc : nd (g a) k 4 = how
    · rw [if_pos (decide_eq_true hc)] at hi
      (refine And.intro (fun h => by omega) (fun h => ?_); conv => whnf)
      (refine hK _ _ _ _ (zW.go (zC_om _) (fun K hK => ?_)); conv => whnf)
      exact hK _ _ _ _ hi
    · rw [if_neg (by simpa using hc), Nat.add_zero] at hi
      (refine And.intro (fun h => ?_) (fun h => by omega); conv => whnf)
      (refine hK _ _ _ _ (zW.go (zC_om _) (fun K hK => ?_)); conv => whnf)
      rw [Int.add_zero]
      exact hK _ _ _ _ hi
def mtk (s : zS) (order : Int) : Nat → Int
  | 0 => -5
  | k + 1 => if nd s k 4 = 0 ∧ (mtk s order k = -5 ∨ order = 0 ∨ (order = 1 ∧ nd s (mtk s order k) 3 < nd s k 3)) then (k : Int) else mtk s order k
theorem mtk_rng (s : zS) (order : Int) : ∀ k : Nat, mtk s order k = -5 ∨ (0 ≤ mtk s order k ∧ mtk s order k < k ∧ nd s (mtk s order k) 4 = 0)
  | 0 => Or.inl rfl
  | k + 1 => by
    have h := mtk_rng s order k
    rw [mtk]
    split
    · next hc => exact Or.inr ⟨by omega, by omega, hc.1⟩
    · rcases h with h | h
      · exact Or.inl h
      · exact Or.inr ⟨h.1, by omega, h.2.2⟩
theorem m_taken {d a m : Nat} {order : Int} {g : zM} {Q : zP} (ha : zkd a = (1, 2845)) (hm : g a 5 = m) (hm4 : m ≤ 400) (ho : zin order) (hr : ∀ k : Nat, k < m → zin (nd (g a) k 4) ∧ zin (nd (g a) k 3)) (hQ : Q (some (zI (mtk (g a) order m))) g) : zC (d + 2) 113 [zR a, zI order] g Q := by
  have hk1 : (zkd a).1 = 1 := by rw [ha]
  have hk2 : (zkd a).2 = 2845 := by rw [ha]
  refine zC.go zm_X6_taken ⟨rfl, rfl⟩ rfl ?_
  have loop : ∀ x : zV, zW zX6_taken (zC (d + 1)) Q 4 [zR a, zI order, zI (mtk (g a) order 0), zI 0, x] [] g := by
    refine (zdown (P := fun k => ∀ x : zV, zW zX6_taken (zC (d + 1)) Q 4 [zR a, zI order, zI (mtk (g a) order k), zI k, x] [] g) m ?_ ?_)
    · intro x
      (refine zW.go (zC_om _) (fun K hK => ?_); conv => whnf)
      (refine And.intro (by first | omega | assumption | rfl | exact zin_and | exact ⟨zin_and, by omega⟩ | exact ⟨by omega, zin_and⟩ | exact Nat.le_of_ble_eq_true rfl | exact ⟨Nat.le_of_ble_eq_true rfl, rfl⟩ | exact ⟨Nat.le_of_ble_eq_true rfl, by assumption⟩ | decide) ?_; conv => whnf)
      (refine And.intro (by first | omega | assumption | rfl | exact zin_and | exact ⟨zin_and, by omega⟩ | exact ⟨by omega, zin_and⟩ | exact Nat.le_of_ble_eq_true rfl | exact ⟨Nat.le_of_ble_eq_true rfl, rfl⟩ | exact ⟨Nat.le_of_ble_eq_true rfl, by assumption⟩ | decide) ?_; conv => whnf)
      (refine And.intro (fun h => ?_) (fun h => by omega); conv => whnf)
      (repeat' first | (refine hK _ _ _ _ (zW.go (zC_om _) (fun K hK => ?_)); conv => whnf) | (refine And.intro (by first | omega | assumption | rfl | exact zin_and | exact ⟨zin_and, by omega⟩ | exact ⟨by omega, zin_and⟩ | exact Nat.le_of_ble_eq_true rfl | exact ⟨Nat.le_of_ble_eq_true rfl, rfl⟩ | exact ⟨Nat.le_of_ble_eq_true rfl, by assumption⟩ | decide) ?_; conv => whnf) | (refine And.intro (fun h => ?_) (fun h => ?_) <;> conv => whnf) | (intro h; conv => whnf))
      exact hQ
    · intro k hk hi x
      obtain ⟨hr4, hr3⟩ := hr k hk
      have e0 : mtk (g a) order (k + 1) = if nd (g a) k 4 = 0 ∧ (mtk (g a) order k = -5 ∨ order = 0 ∨ (order = 1 ∧ nd (g a) (mtk (g a) order k) 3 < nd (g a) k 3)) then (k : Int) else mtk (g a) order k := rfl
      rw [e0] at hi
      have hrg := mtk_rng (g a) order k
      generalize mtk (g a) order k = f at *
      have hf3 : f ≠ -5 → zin (nd (g a) f 3) := by
        intro hf
        have := (hr f.toNat (by omega)).2
        have e : ((f.toNat : Nat) : Int) = f := by omega
        rw [e] at this
        exact this
      have j : nd (g a) k 4 = 0 → ∀ c : Bool, decide (f = -5 ∨ order = 0 ∨ (order = 1 ∧ nd (g a) f 3 < nd (g a) k 3)) = c → zW zX6_taken (zC (d + 1)) Q 34 [zR a, zI order, zI f, zI k, x] [zI (zb c)] g := by
        intro h4 c hc
        cases c with
        | true =>
          rw [zb_t]
          have hi := hi (zI 1)
          rw [if_pos ⟨h4, of_decide_eq_true hc⟩] at hi
          (refine zW.go (zC_om _) (fun K hK => ?_); conv => whnf)
          (refine And.intro (by first | omega | assumption | rfl | exact zin_and | exact ⟨zin_and, by omega⟩ | exact ⟨by omega, zin_and⟩ | exact Nat.le_of_ble_eq_true rfl | exact ⟨Nat.le_of_ble_eq_true rfl, rfl⟩ | exact ⟨Nat.le_of_ble_eq_true rfl, by assumption⟩ | decide) ?_; conv => whnf)
          (refine And.intro (fun h => by omega) (fun h => ?_); conv => whnf)
          (refine hK _ _ _ _ (zW.go (zC_om _) (fun K hK => ?_)); conv => whnf)
          exact hK _ _ _ _ hi
        | false =>
          rw [zb_f]
          have hi := hi (zI 0)
          rw [if_neg (fun q => of_decide_eq_false hc q.2)] at hi
          (refine zW.go (zC_om _) (fun K hK => ?_); conv => whnf)
          (refine And.intro (by first | omega | assumption | rfl | exact zin_and | exact ⟨zin_and, by omega⟩ | exact ⟨by omega, zin_and⟩ | exact Nat.le_of_ble_eq_true rfl | exact ⟨Nat.le_of_ble_eq_true rfl, rfl⟩ | exact ⟨Nat.le_of_ble_eq_true rfl, by assumption⟩ | decide) ?_; conv => whnf)
          (refine And.intro (fun h => ?_) (fun h => by omega); conv => whnf)
          (refine hK _ _ _ _ (zW.go (zC_om _) (fun K hK => ?_)); conv => whnf)
          exact hK _ _ _ _ hi
      (refine zW.go (zC_om _) (fun K hK => ?_); conv => whnf)
      (refine And.intro (by first | omega | assumption | rfl | exact zin_and | exact ⟨zin_and, by omega⟩ | exact ⟨by omega, zin_and⟩ | exact Nat.le_of_ble_eq_true rfl | exact ⟨Nat.le_of_ble_eq_true rfl, rfl⟩ | exact ⟨Nat.le_of_ble_eq_true rfl, by assumption⟩ | decide) ?_; conv => whnf)
      (refine And.intro (by first | omega | assumption | rfl | exact zin_and | exact ⟨zin_and, by omega⟩ | exact ⟨by omega, zin_and⟩ | exact Nat.le_of_ble_eq_true rfl | exact ⟨Nat.le_of_ble_eq_true rfl, rfl⟩ | exact ⟨Nat.le_of_ble_eq_true rfl, by assumption⟩ | decide) ?_; conv => whnf)
      (refine And.intro (fun h => by omega) (fun h => ?_); conv => whnf)
      (refine And.intro (by first | omega | assumption | rfl | exact zin_and | exact ⟨zin_and, by omega⟩ | exact ⟨by omega, zin_and⟩ | exact Nat.le_of_ble_eq_true rfl | exact ⟨Nat.le_of_ble_eq_true rfl, rfl⟩ | exact ⟨Nat.le_of_ble_eq_true rfl, by assumption⟩ | decide) ?_; conv => whnf)
      (refine m_of ha (by omega) (by omega) ?_; conv => whnf)
      (refine And.intro (by first | omega | assumption | rfl | exact zin_and | exact ⟨zin_and, by omega⟩ | exact ⟨by omega, zin_and⟩ | exact Nat.le_of_ble_eq_true rfl | exact ⟨Nat.le_of_ble_eq_true rfl, rfl⟩ | exact ⟨Nat.le_of_ble_eq_true rfl, by assumption⟩ | decide) ?_; conv => whnf)
      by_cases h4 : nd (g a) k 4 = 0
      · have j := j h4
        (refine And.intro (fun h => by omega) (fun h => ?_); conv => whnf)
        (refine And.intro (by first | omega | assumption | rfl | exact zin_and | exact ⟨zin_and, by omega⟩ | exact ⟨by omega, zin_and⟩ | exact Nat.le_of_ble_eq_true rfl | exact ⟨Nat.le_of_ble_eq_true rfl, rfl⟩ | exact ⟨Nat.le_of_ble_eq_true rfl, by assumption⟩ | decide) ?_; conv => whnf)
        by_cases hf : f = -5
        · (refine And.intro (fun h => ?_) (fun h => by omega); conv => whnf)
          (refine hK _ _ _ _ ?_)
          (refine zW.upto (zC_om _) 2 (fun K hK => ?_); conv => whnf)
          exact hK _ _ _ _ (j true (by simp [hf]))
        · have hf3 := hf3 hf
          (refine And.intro (fun h => by omega) (fun h => ?_); conv => whnf)
          (refine And.intro (by first | omega | assumption | rfl | exact zin_and | exact ⟨zin_and, by omega⟩ | exact ⟨by omega, zin_and⟩ | exact Nat.le_of_ble_eq_true rfl | exact ⟨Nat.le_of_ble_eq_true rfl, rfl⟩ | exact ⟨Nat.le_of_ble_eq_true rfl, by assumption⟩ | decide) ?_; conv => whnf)
          by_cases h0 : order = 0
          · (refine And.intro (fun h => ?_) (fun h => by omega); conv => whnf)
            (refine hK _ _ _ _ ?_)
            (refine zW.upto (zC_om _) 2 (fun K hK => ?_); conv => whnf)
            exact hK _ _ _ _ (j true (by simp [h0]))
          · (refine And.intro (fun h => by omega) (fun h => ?_); conv => whnf)
            (refine And.intro (by first | omega | assumption | rfl | exact zin_and | exact ⟨zin_and, by omega⟩ | exact ⟨by omega, zin_and⟩ | exact Nat.le_of_ble_eq_true rfl | exact ⟨Nat.le_of_ble_eq_true rfl, rfl⟩ | exact ⟨Nat.le_of_ble_eq_true rfl, by assumption⟩ | decide) ?_; conv => whnf)
            by_cases h1 : order = 1
            · (refine And.intro (fun h => by omega) (fun h => ?_); conv => whnf)
              (refine And.intro (by first | omega | assumption | rfl | exact zin_and | exact ⟨zin_and, by omega⟩ | exact ⟨by omega, zin_and⟩ | exact Nat.le_of_ble_eq_true rfl | exact ⟨Nat.le_of_ble_eq_true rfl, rfl⟩ | exact ⟨Nat.le_of_ble_eq_true rfl, by assumption⟩ | decide) ?_; conv => whnf)
              (refine m_of ha (by omega) (by omega) ?_; conv => whnf)
              (refine And.intro (by first | omega | assumption | rfl | exact zin_and | exact ⟨zin_and, by omega⟩ | exact ⟨by omega, zin_and⟩ | exact Nat.le_of_ble_eq_true rfl | exact ⟨Nat.le_of_ble_eq_true rfl, rfl⟩ | exact ⟨Nat.le_of_ble_eq_true rfl, by assumption⟩ | decide) ?_; conv => whnf)
              (refine m_of ha (by omega) (by omega) ?_; conv => whnf)
              (refine And.intro (by first | omega | assumption | rfl | exact zin_and | exact ⟨zin_and, by omega⟩ | exact ⟨by omega, zin_and⟩ | exact Nat.le_of_ble_eq_true rfl | exact ⟨Nat.le_of_ble_eq_true rfl, rfl⟩ | exact ⟨Nat.le_of_ble_eq_true rfl, by assumption⟩ | decide) ?_; conv => whnf)
              by_cases hlt : nd (g a) f 3 < nd (g a) k 3
              · (refine And.intro (fun h => by omega) (fun h => ?_); conv => whnf)
                exact hK _ _ _ _ (j true (by simp [h1, hlt]))
              · (refine And.intro (fun h => ?_) (fun h => by omega); conv => whnf)
                (refine hK _ _ _ _ ?_)
                (refine zW.upto (zC_om _) 1 (fun K hK => ?_); conv => whnf)
                exact hK _ _ _ _ (j false (by simp [hf, h0, hlt]))
            · (refine And.intro (fun h => ?_) (fun h => by omega); conv => whnf)
              (refine hK _ _ _ _ ?_)
              (refine zW.upto (zC_om _) 1 (fun K hK => ?_); conv => whnf)
              exact hK _ _ _ _ (j false (by simp [hf, h0, h1]))
      · have hi := hi x
        rw [if_neg (fun q => h4 q.1)] at hi
        (refine And.intro (fun h => ?_) (fun h => by omega); conv => whnf)
        (refine hK _ _ _ _ (zW.go (zC_om _) (fun K hK => ?_)); conv => whnf)
        exact hK _ _ _ _ hi
  (refine zW.upto (zC_om _) 4 (fun K hK => ?_); conv => whnf)
  exact hK _ _ _ _ (loop _)
