theorem mtk_congr {s s' : zS} {order : Int} : ∀ m : Nat, (∀ k : Nat, k < m → nd s' k 4 = nd s k 4 ∧ nd s' k 3 = nd s k 3) → mtk s' order m = mtk s order m
  | 0, _ => rfl
  | m + 1, h => by
    have ih := mtk_congr (order := order) m (fun k hk => h k (by omega))
    have hr := mtk_rng s order m
    rw [mtk, mtk, ih, (h m (by omega)).1, (h m (by omega)).2]
    by_cases c : mtk s order m = -5
    · rw [c]
      by_cases c2 : nd s m 4 = 0
      · rw [if_pos ⟨c2, Or.inl rfl⟩, if_pos ⟨c2, Or.inl rfl⟩]
      · rw [if_neg (fun w => c2 w.1), if_neg (fun w => c2 w.1)]
    · obtain ⟨b, hb⟩ : ∃ b : Nat, mtk s order m = (b : Int) := ⟨(mtk s order m).toNat, by omega⟩
      rw [hb] at hr ⊢
      rw [(h b (by omega)).2]
theorem agr.mtk {s s' : zS} {order : Int} {m : Nat} (h : agr s s') (hm : m ≤ 400) : mtk s' order m = mtk s order m := mtk_congr m (fun k hk => ⟨h _ (by omega) (by omega), h _ (by omega) (by omega)⟩)
theorem mtakes_ag {s : zS} {n m k : Nat} (h5 : s 5 = (m : Int)) (hk : k < m) : magr s (mtakes s n k).2 := by
  unfold mtakes
  split
  · exact ((magr.rfl (s := s)).ru (i := 6) (v := s 6 + 1) (by omega)).ru (by omega)
  · split
    · exact (mtk2_ag (s := s) (n := n) (k := k)).ru (by omega)
    · split
      · exact mtk2_ag
      · have a1 : magr s (ru (mtk2 s n k) (45 + 7 * k + 4) 4) := (mtk2_ag (s := s) (n := n) (k := k)).ru (by omega)
        have e1 : ru (mtk2 s n k) (45 + 7 * k + 4) 4 5 = (m : Int) := by rw [ru_n (by omega), mtk2_old (by omega), h5]
        have a2 := a1.trans (mmk_ag (n := n) (par := k) (thing := mbranch s n (ndi s k) (ndo s k) (s 3)) (b := 0) (i := ndi s k) (o := ndo s k ||| 2 ^ (mbranch s n (ndi s k) (ndo s k) (s 3)).toNat) e1)
        exact a2.trans (mmk_ag (m := m + 1) (by rw [mmk_5, e1]; rfl))
/-- what the reference walks on: its copy of what is now -/
def mcopy (a b : zS) : zS := fun j => if 0 ≤ j ∧ j < 2845 then a j else b j
theorem mcopy_agr {a b : zS} : agr a (mcopy a b) := fun j h0 h1 => if_pos ⟨h0, h1⟩
section MW
variable {g : zM} {d : Nat} {Q : zP}
theorem m_walks {n m z steps : Nat} {order : Int} {u : Bool} {rows : Nat → zS} (hw : minw (g 65) n m) (hh : HistM g z rows) (hst : steps ≤ 100000) (ho : zin order)
    (hQ3 : mwalk order u n steps (mcopy (g 65) (g 66)) m 0 = none → ∀ g' : zM, (∀ j, j ≠ 66 → j ≠ 71 → g' j = g j) → Q (some (zI (-3))) g')
    (hQ : ∀ c s' m', mwalk order u n steps (mcopy (g 65) (g 66)) m 0 = some (c, s', m') → ∀ g' : zM, (∀ j, j ≠ 64 → j ≠ 65 → j ≠ 66 → j ≠ 67 → j ≠ 71 → g' j = g j) → (∀ j : Int, j ≠ 3 → g' 64 j = g 64 j) → HistM g' (pushz z) (pushr z rows (g 65)) → agr s' (g' 65) → Q (some (zI c)) g') : zC (d + 8) 127 [zR 64, zI steps, zI order, zI (zb u)] g Q := by
  have k64 := zkd64
  have hn := hw.n12
  generalize hs0 : mcopy (g 65) (g 66) = s0 at *
  have hw0 : minw s0 n m := by rw [← hs0]; exact hw.congr mcopy_agr
  refine zC.go zm_X6_walks ⟨rfl, rfl⟩ rfl ?_
  have end_ : ∀ (cnt m1 : Nat) (s1 : zS) (g1 : zM) (x5 x6 : zV), (∀ j, j ≠ 66 → j ≠ 71 → g1 j = g j) → g1 66 = s1 → mwalk order u n steps s0 m 0 = some (cnt, s1, m1) → zW zX6_walks (zC (d + 7)) Q 50 [zR 64, zI steps, zI order, zI (zb u), zI cnt, x5, x6] [] g1 := by
    intro cnt m1 s1 g1 x5 x6 hf h66 hres
    (refine zW.go (zC_om _) (fun K hK => ?_); conv => whnf)
    (refine And.intro (by first | omega | assumption | rfl | exact zin_and | exact ⟨zin_and, by omega⟩ | exact ⟨by omega, zin_and⟩ | exact Nat.le_of_ble_eq_true rfl | exact ⟨Nat.le_of_ble_eq_true rfl, rfl⟩ | exact ⟨Nat.le_of_ble_eq_true rfl, by assumption⟩ | exact ⟨by omega, Nat.le_of_ble_eq_true rfl⟩ | exact ⟨⟨by assumption, by omega⟩, Nat.le_of_ble_eq_true rfl⟩ | decide) ?_; conv => whnf)
    (refine m_records (hh.frame (by rw [hf 64 (by omega) (by omega)]) (hf 67 (by omega) (by omega))) (fun g2 hf2 h642 hh2 => ?_); conv => whnf)
    rw [hf 65 (by omega) (by omega)] at hh2
    (refine And.intro (by first | omega | assumption | rfl | exact zin_and | exact ⟨zin_and, by omega⟩ | exact ⟨by omega, zin_and⟩ | exact Nat.le_of_ble_eq_true rfl | exact ⟨Nat.le_of_ble_eq_true rfl, rfl⟩ | exact ⟨Nat.le_of_ble_eq_true rfl, by assumption⟩ | exact ⟨by omega, Nat.le_of_ble_eq_true rfl⟩ | exact ⟨⟨by assumption, by omega⟩, Nat.le_of_ble_eq_true rfl⟩ | decide) ?_; conv => whnf)
    (refine And.intro (by first | omega | assumption | rfl | exact zin_and | exact ⟨zin_and, by omega⟩ | exact ⟨by omega, zin_and⟩ | exact Nat.le_of_ble_eq_true rfl | exact ⟨Nat.le_of_ble_eq_true rfl, rfl⟩ | exact ⟨Nat.le_of_ble_eq_true rfl, by assumption⟩ | exact ⟨by omega, Nat.le_of_ble_eq_true rfl⟩ | exact ⟨⟨by assumption, by omega⟩, Nat.le_of_ble_eq_true rfl⟩ | decide) ?_; conv => whnf)
    (refine And.intro (by first | omega | assumption | rfl | exact zin_and | exact ⟨zin_and, by omega⟩ | exact ⟨by omega, zin_and⟩ | exact Nat.le_of_ble_eq_true rfl | exact ⟨Nat.le_of_ble_eq_true rfl, rfl⟩ | exact ⟨Nat.le_of_ble_eq_true rfl, by assumption⟩ | exact ⟨by omega, Nat.le_of_ble_eq_true rfl⟩ | exact ⟨⟨by assumption, by omega⟩, Nat.le_of_ble_eq_true rfl⟩ | decide) ?_; conv => whnf)
    (refine m_copies (sp := 0) (dp := 0) zkd66 zkd65 (by omega) (by omega) (by omega) (by omega) (by omega) (fun g3 hf3 hr3 => ?_); conv => whnf)
    refine ⟨⟨fun w => absurd w (by decide), fun w => absurd w (by decide)⟩, hQ cnt s1 m1 hres g3 (fun j c1 c2 c3 c4 c5 => ?_) (fun j c => ?_) (hh2.frame (by rw [hf3 64 (by omega)]) (hf3 67 (by omega))) (fun j j0 j1 => ?_)⟩
    · rw [hf3 j c2, hf2 j c1 c4, hf j c3 c5]
    · rw [hf3 64 (by omega), h642 j c, hf 64 (by omega) (by omega)]
    · rw [hr3, if_pos (by omega), hf2 66 (by omega) (by omega), h66]
      congr 1
      omega
  have loop : ∀ (r cnt m1 : Nat) (s1 : zS) (g1 : zM) (how : Int), cnt + r = steps → (∀ j, j ≠ 66 → j ≠ 71 → g1 j = g j) → g1 66 = s1 → minw s1 n m1 → mso g1 s1 n → zin how →
      (((u = true → how ≠ 1 ∧ how ≠ 2) ∧ mwalk order u n steps s0 m 0 = mwalk order u n r s1 m1 cnt) ∨ (u = true ∧ (how = 1 ∨ how = 2) ∧ mwalk order u n steps s0 m 0 = some (cnt, s1, m1))) →
      zW zX6_walks (zC (d + 7)) Q 18 [zR 64, zI steps, zI order, zI (zb u), zI cnt, zI how, zI (mtk s1 order m1)] [] g1 := by
    intro r
    induction r with
    | zero =>
      intro cnt m1 s1 g1 how e hf h66 hw1 hso hhz hres
      have hres : mwalk order u n steps s0 m 0 = some (cnt, s1, m1) := by
        rcases hres with ⟨-, q⟩ | ⟨-, -, q⟩
        · rw [q, mwalk]
        · exact q
      (refine zW.go (zC_om _) (fun K hK => ?_); conv => whnf)
      (refine And.intro (by first | omega | assumption | rfl | exact zin_and | exact ⟨zin_and, by omega⟩ | exact ⟨by omega, zin_and⟩ | exact Nat.le_of_ble_eq_true rfl | exact ⟨Nat.le_of_ble_eq_true rfl, rfl⟩ | exact ⟨Nat.le_of_ble_eq_true rfl, by assumption⟩ | exact ⟨by omega, Nat.le_of_ble_eq_true rfl⟩ | exact ⟨⟨by assumption, by omega⟩, Nat.le_of_ble_eq_true rfl⟩ | decide) ?_; conv => whnf)
      (refine And.intro (fun h => ?_) (fun h => by omega); conv => whnf)
      exact hK _ _ _ _ (end_ cnt m1 s1 g1 _ _ hf h66 hres)
    | succ r ih =>
      intro cnt m1 s1 g1 how e hf h66 hw1 hso hhz hres
      have hrg := mtk_rng s1 order m1
      have hm1 := hw1.m400
      (refine zW.upto (zC_om _) 14 (fun K hK => ?_); conv => whnf)
      (refine And.intro (by first | omega | assumption | rfl | exact zin_and | exact ⟨zin_and, by omega⟩ | exact ⟨by omega, zin_and⟩ | exact Nat.le_of_ble_eq_true rfl | exact ⟨Nat.le_of_ble_eq_true rfl, rfl⟩ | exact ⟨Nat.le_of_ble_eq_true rfl, by assumption⟩ | exact ⟨by omega, Nat.le_of_ble_eq_true rfl⟩ | exact ⟨⟨by assumption, by omega⟩, Nat.le_of_ble_eq_true rfl⟩ | decide) ?_; conv => whnf)
      (refine And.intro (fun h => by omega) (fun h => ?_); conv => whnf)
      (refine And.intro (by first | omega | assumption | rfl | exact zin_and | exact ⟨zin_and, by omega⟩ | exact ⟨by omega, zin_and⟩ | exact Nat.le_of_ble_eq_true rfl | exact ⟨Nat.le_of_ble_eq_true rfl, rfl⟩ | exact ⟨Nat.le_of_ble_eq_true rfl, by assumption⟩ | exact ⟨by omega, Nat.le_of_ble_eq_true rfl⟩ | exact ⟨⟨by assumption, by omega⟩, Nat.le_of_ble_eq_true rfl⟩ | decide) ?_; conv => whnf)
      by_cases h1 : mtk s1 order m1 = -5
      · have hres : mwalk order u n steps s0 m 0 = some (cnt, s1, m1) := by
          rcases hres with ⟨-, q⟩ | ⟨-, -, q⟩
          · rw [q, mwalk, if_pos h1]
          · exact q
        (refine And.intro (fun h => ?_) (fun h => by omega); conv => whnf)
        exact hK _ _ _ _ (end_ cnt m1 s1 g1 _ _ hf h66 hres)
      · obtain ⟨k, hk, hkm, hop⟩ := mtk_k h1
        rw [hk]
        rw [hk] at hrg
        have go : ((u = true → how ≠ 1 ∧ how ≠ 2) ∧ mwalk order u n steps s0 m 0 = mwalk order u n (r + 1) s1 m1 cnt) → zW zX6_walks (zC (d + 7)) Q 32 [zR 64, zI steps, zI order, zI (zb u), zI cnt, zI how, zI k] [] g1 := by
          rintro ⟨-, q3⟩
          rw [mwalk, if_neg h1, hk] at q3
          have hr4 := mtakes_r s1 n k
          have hw2 := minw_takes hw1 hkm hop
          have hag := mtakes_ag (n := n) hw1.1.2.2.2.2.1.1 hkm
          (refine zW.go (zC_om _) (fun K hK => ?_); conv => whnf)
          (refine And.intro (by first | omega | assumption | rfl | exact zin_and | exact ⟨zin_and, by omega⟩ | exact ⟨by omega, zin_and⟩ | exact Nat.le_of_ble_eq_true rfl | exact ⟨Nat.le_of_ble_eq_true rfl, rfl⟩ | exact ⟨Nat.le_of_ble_eq_true rfl, by assumption⟩ | exact ⟨by omega, Nat.le_of_ble_eq_true rfl⟩ | exact ⟨⟨by assumption, by omega⟩, Nat.le_of_ble_eq_true rfl⟩ | decide) ?_; conv => whnf)
          (refine And.intro (by first | omega | assumption | rfl | exact zin_and | exact ⟨zin_and, by omega⟩ | exact ⟨by omega, zin_and⟩ | exact Nat.le_of_ble_eq_true rfl | exact ⟨Nat.le_of_ble_eq_true rfl, rfl⟩ | exact ⟨Nat.le_of_ble_eq_true rfl, by assumption⟩ | exact ⟨by omega, Nat.le_of_ble_eq_true rfl⟩ | exact ⟨⟨by assumption, by omega⟩, Nat.le_of_ble_eq_true rfl⟩ | decide) ?_; conv => whnf)
          (refine m_takes (a := 66) zkd66 (by rw [h66]; exact hw1.1) (by rw [h66]; exact hso) (by omega) hkm (by rw [h66]; exact hop) (fun g2 hf2 r2 => ?_); conv => whnf)
          rw [h66] at r2 ⊢
          generalize mtakes s1 n k = T at *
          obtain ⟨hv, s2⟩ := T
          have hr4 : hv = 1 ∨ hv = 2 ∨ hv = -3 ∨ hv = 4 := hr4
          have hff : ∀ j, j ≠ 66 → j ≠ 71 → g2 j = g j := fun j c1 c2 => by rw [hf2 j c1, hf j c1 c2]
          by_cases c1 : hv = -3
          · rw [if_pos c1] at q3
            (refine And.intro (by first | omega | assumption | rfl | exact zin_and | exact ⟨zin_and, by omega⟩ | exact ⟨by omega, zin_and⟩ | exact Nat.le_of_ble_eq_true rfl | exact ⟨Nat.le_of_ble_eq_true rfl, rfl⟩ | exact ⟨Nat.le_of_ble_eq_true rfl, by assumption⟩ | exact ⟨by omega, Nat.le_of_ble_eq_true rfl⟩ | exact ⟨⟨by assumption, by omega⟩, Nat.le_of_ble_eq_true rfl⟩ | decide) ?_; conv => whnf)
            (refine And.intro (fun h => by omega) (fun h => ?_); conv => whnf)
            (refine And.intro (by first | omega | assumption | rfl | exact zin_and | exact ⟨zin_and, by omega⟩ | exact ⟨by omega, zin_and⟩ | exact Nat.le_of_ble_eq_true rfl | exact ⟨Nat.le_of_ble_eq_true rfl, rfl⟩ | exact ⟨Nat.le_of_ble_eq_true rfl, by assumption⟩ | exact ⟨by omega, Nat.le_of_ble_eq_true rfl⟩ | exact ⟨⟨by assumption, by omega⟩, Nat.le_of_ble_eq_true rfl⟩ | decide) ?_; conv => whnf)
            rw [c1] at *
            exact hQ3 q3 g2 hff
          · rw [if_neg c1] at q3
            have hw2 : minw s2 n (if hv = 4 then m1 + 2 else m1) := hw2 c1
            have q3 : mwalk order u n steps s0 m 0 = if u = true ∧ hv ≠ 4 then some (cnt + 1, s2, m1) else mwalk order u n r s2 (if hv = 4 then m1 + 2 else m1) (cnt + 1) := q3
            have hm2 : ¬ hv = 4 → (if hv = 4 then m1 + 2 else m1) = m1 := fun c => if_neg c
            generalize (if hv = 4 then m1 + 2 else m1) = m2 at *
            have r2 : g2 66 = s2 := r2
            have hag : magr s1 s2 := hag
            have hso2 : mso g2 s2 n := ag_so hag hn (fun j hj => by rw [hf2 71 (by omega)]; exact hso j hj)
            have hz : ∀ j : Nat, j < m2 → zin (nd s2 j 4) ∧ zin (nd s2 j 3) := fun j hj => (hw2.1.2.2.2.2.2.2.1 j hj).rng hw2.1.1
            (refine And.intro (by first | omega | assumption | rfl | exact zin_and | exact ⟨zin_and, by omega⟩ | exact ⟨by omega, zin_and⟩ | exact Nat.le_of_ble_eq_true rfl | exact ⟨Nat.le_of_ble_eq_true rfl, rfl⟩ | exact ⟨Nat.le_of_ble_eq_true rfl, by assumption⟩ | exact ⟨by omega, Nat.le_of_ble_eq_true rfl⟩ | exact ⟨⟨by assumption, by omega⟩, Nat.le_of_ble_eq_true rfl⟩ | decide) ?_; conv => whnf)
            (refine And.intro (fun h => ?_) (fun h => by omega); conv => whnf)
            (refine hK _ _ _ _ (zW.go (zC_om _) (fun K hK => ?_)); conv => whnf)
            (refine And.intro (by first | omega | assumption | rfl | exact zin_and | exact ⟨zin_and, by omega⟩ | exact ⟨by omega, zin_and⟩ | exact Nat.le_of_ble_eq_true rfl | exact ⟨Nat.le_of_ble_eq_true rfl, rfl⟩ | exact ⟨Nat.le_of_ble_eq_true rfl, by assumption⟩ | exact ⟨by omega, Nat.le_of_ble_eq_true rfl⟩ | exact ⟨⟨by assumption, by omega⟩, Nat.le_of_ble_eq_true rfl⟩ | decide) ?_; conv => whnf)
            (refine And.intro (by first | omega | assumption | rfl | exact zin_and | exact ⟨zin_and, by omega⟩ | exact ⟨by omega, zin_and⟩ | exact Nat.le_of_ble_eq_true rfl | exact ⟨Nat.le_of_ble_eq_true rfl, rfl⟩ | exact ⟨Nat.le_of_ble_eq_true rfl, by assumption⟩ | exact ⟨by omega, Nat.le_of_ble_eq_true rfl⟩ | exact ⟨⟨by assumption, by omega⟩, Nat.le_of_ble_eq_true rfl⟩ | decide) ?_; conv => whnf)
            (refine m_taken (m := m2) zkd66 (by rw [r2]; exact hw2.1.2.2.2.2.1.1) hw2.m400 ho (by rw [r2]; exact hz) ?_; conv => whnf)
            rw [r2]
            refine hK _ _ _ _ (ih (cnt + 1) m2 s2 g2 hv (by omega) hff r2 hw2 hso2 (by omega) ?_)
            by_cases c3 : u = true ∧ hv ≠ 4
            · rw [if_pos c3, ← hm2 c3.2] at q3
              exact Or.inr ⟨c3.1, by have := c3.2; omega, q3⟩
            · rw [if_neg c3] at q3
              refine Or.inl ⟨fun w => ?_, q3⟩
              by_cases c4 : hv = 4
              · omega
              · exact absurd ⟨w, c4⟩ c3
        (refine And.intro (fun h => by omega) (fun h => ?_); conv => whnf)
        cases u with
        | false =>
          rw [zb_f]
          (refine And.intro (by first | omega | assumption | rfl | exact zin_and | exact ⟨zin_and, by omega⟩ | exact ⟨by omega, zin_and⟩ | exact Nat.le_of_ble_eq_true rfl | exact ⟨Nat.le_of_ble_eq_true rfl, rfl⟩ | exact ⟨Nat.le_of_ble_eq_true rfl, by assumption⟩ | exact ⟨by omega, Nat.le_of_ble_eq_true rfl⟩ | exact ⟨⟨by assumption, by omega⟩, Nat.le_of_ble_eq_true rfl⟩ | decide) ?_; conv => whnf)
          (refine And.intro (fun h => ?_) (fun h => by omega); conv => whnf)
          rcases hres with q | ⟨q, -⟩
          · exact hK _ _ _ _ (go q)
          · exact absurd q (by decide)
        | true =>
          rw [zb_t]
          (refine And.intro (by first | omega | assumption | rfl | exact zin_and | exact ⟨zin_and, by omega⟩ | exact ⟨by omega, zin_and⟩ | exact Nat.le_of_ble_eq_true rfl | exact ⟨Nat.le_of_ble_eq_true rfl, rfl⟩ | exact ⟨Nat.le_of_ble_eq_true rfl, by assumption⟩ | exact ⟨by omega, Nat.le_of_ble_eq_true rfl⟩ | exact ⟨⟨by assumption, by omega⟩, Nat.le_of_ble_eq_true rfl⟩ | decide) ?_; conv => whnf)
          (refine And.intro (fun h => by omega) (fun h => ?_); conv => whnf)
          (refine And.intro (by first | omega | assumption | rfl | exact zin_and | exact ⟨zin_and, by omega⟩ | exact ⟨by omega, zin_and⟩ | exact Nat.le_of_ble_eq_true rfl | exact ⟨Nat.le_of_ble_eq_true rfl, rfl⟩ | exact ⟨Nat.le_of_ble_eq_true rfl, by assumption⟩ | exact ⟨by omega, Nat.le_of_ble_eq_true rfl⟩ | exact ⟨⟨by assumption, by omega⟩, Nat.le_of_ble_eq_true rfl⟩ | decide) ?_; conv => whnf)
          rcases hres with q | ⟨-, q1, q2⟩
          · have q1 := q.1 rfl
            have := q1.1
            have := q1.2
            (refine And.intro (fun h => by omega) (fun h => ?_); conv => whnf)
            (refine And.intro (by first | omega | assumption | rfl | exact zin_and | exact ⟨zin_and, by omega⟩ | exact ⟨by omega, zin_and⟩ | exact Nat.le_of_ble_eq_true rfl | exact ⟨Nat.le_of_ble_eq_true rfl, rfl⟩ | exact ⟨Nat.le_of_ble_eq_true rfl, by assumption⟩ | exact ⟨by omega, Nat.le_of_ble_eq_true rfl⟩ | exact ⟨⟨by assumption, by omega⟩, Nat.le_of_ble_eq_true rfl⟩ | decide) ?_; conv => whnf)
            (refine And.intro (fun h => by omega) (fun h => ?_); conv => whnf)
            exact hK _ _ _ _ (go q)
          · by_cases q4 : how = 1
            · (refine And.intro (fun h => ?_) (fun h => by omega); conv => whnf)
              exact hK _ _ _ _ (end_ cnt m1 s1 g1 _ _ hf h66 q2)
            · (refine And.intro (fun h => by omega) (fun h => ?_); conv => whnf)
              (refine And.intro (by first | omega | assumption | rfl | exact zin_and | exact ⟨zin_and, by omega⟩ | exact ⟨by omega, zin_and⟩ | exact Nat.le_of_ble_eq_true rfl | exact ⟨Nat.le_of_ble_eq_true rfl, rfl⟩ | exact ⟨Nat.le_of_ble_eq_true rfl, by assumption⟩ | exact ⟨by omega, Nat.le_of_ble_eq_true rfl⟩ | exact ⟨⟨by assumption, by omega⟩, Nat.le_of_ble_eq_true rfl⟩ | decide) ?_; conv => whnf)
              (refine And.intro (fun h => ?_) (fun h => by omega); conv => whnf)
              exact hK _ _ _ _ (end_ cnt m1 s1 g1 _ _ hf h66 q2)
  (refine zW.upto (zC_om _) 18 (fun K hK => ?_); conv => whnf)
  (refine And.intro (by first | omega | assumption | rfl | exact zin_and | exact ⟨zin_and, by omega⟩ | exact ⟨by omega, zin_and⟩ | exact Nat.le_of_ble_eq_true rfl | exact ⟨Nat.le_of_ble_eq_true rfl, rfl⟩ | exact ⟨Nat.le_of_ble_eq_true rfl, by assumption⟩ | exact ⟨by omega, Nat.le_of_ble_eq_true rfl⟩ | exact ⟨⟨by assumption, by omega⟩, Nat.le_of_ble_eq_true rfl⟩ | decide) ?_; conv => whnf)
  (refine And.intro (by first | omega | assumption | rfl | exact zin_and | exact ⟨zin_and, by omega⟩ | exact ⟨by omega, zin_and⟩ | exact Nat.le_of_ble_eq_true rfl | exact ⟨Nat.le_of_ble_eq_true rfl, rfl⟩ | exact ⟨Nat.le_of_ble_eq_true rfl, by assumption⟩ | exact ⟨by omega, Nat.le_of_ble_eq_true rfl⟩ | exact ⟨⟨by assumption, by omega⟩, Nat.le_of_ble_eq_true rfl⟩ | decide) ?_; conv => whnf)
  (refine And.intro (by first | omega | assumption | rfl | exact zin_and | exact ⟨zin_and, by omega⟩ | exact ⟨by omega, zin_and⟩ | exact Nat.le_of_ble_eq_true rfl | exact ⟨Nat.le_of_ble_eq_true rfl, rfl⟩ | exact ⟨Nat.le_of_ble_eq_true rfl, by assumption⟩ | exact ⟨by omega, Nat.le_of_ble_eq_true rfl⟩ | exact ⟨⟨by assumption, by omega⟩, Nat.le_of_ble_eq_true rfl⟩ | decide) ?_; conv => whnf)
  (refine m_copies (sp := 0) (dp := 0) zkd65 zkd66 (by omega) (by omega) (by omega) (by omega) (by omega) (fun g1 hf1 hr1 => ?_); conv => whnf)
  have e66 : g1 66 = s0 := by
    rw [← hs0]
    funext j
    rw [hr1]
    unfold mcopy
    by_cases c : 0 ≤ j ∧ j < 2845
    · rw [if_pos c, if_pos (by omega)]
      congr 1
      omega
    · rw [if_neg c, if_neg (by omega)]
  (refine And.intro (by first | omega | assumption | rfl | exact zin_and | exact ⟨zin_and, by omega⟩ | exact ⟨by omega, zin_and⟩ | exact Nat.le_of_ble_eq_true rfl | exact ⟨Nat.le_of_ble_eq_true rfl, rfl⟩ | exact ⟨Nat.le_of_ble_eq_true rfl, by assumption⟩ | exact ⟨by omega, Nat.le_of_ble_eq_true rfl⟩ | exact ⟨⟨by assumption, by omega⟩, Nat.le_of_ble_eq_true rfl⟩ | decide) ?_; conv => whnf)
  (refine m_sorts (n := n) (by rw [hf1 65 (by omega)]; exact hw.1.1) (fun g2 hf2 hso => ?_); conv => whnf)
  have f66 : g2 66 = s0 := by rw [hf2 66 (by omega), e66]
  have hz : ∀ j : Nat, j < m → zin (nd s0 j 4) ∧ zin (nd s0 j 3) := fun j hj => (hw0.1.2.2.2.2.2.2.1 j hj).rng hw0.1.1
  have hso0 : mso g2 s0 n := by
    rw [hf1 65 (by omega)] at hso
    rw [← hs0]
    exact ag_so mcopy_agr.mag hn hso
  (refine And.intro (by first | omega | assumption | rfl | exact zin_and | exact ⟨zin_and, by omega⟩ | exact ⟨by omega, zin_and⟩ | exact Nat.le_of_ble_eq_true rfl | exact ⟨Nat.le_of_ble_eq_true rfl, rfl⟩ | exact ⟨Nat.le_of_ble_eq_true rfl, by assumption⟩ | exact ⟨by omega, Nat.le_of_ble_eq_true rfl⟩ | exact ⟨⟨by assumption, by omega⟩, Nat.le_of_ble_eq_true rfl⟩ | decide) ?_; conv => whnf)
  (refine And.intro (by first | omega | assumption | rfl | exact zin_and | exact ⟨zin_and, by omega⟩ | exact ⟨by omega, zin_and⟩ | exact Nat.le_of_ble_eq_true rfl | exact ⟨Nat.le_of_ble_eq_true rfl, rfl⟩ | exact ⟨Nat.le_of_ble_eq_true rfl, by assumption⟩ | exact ⟨by omega, Nat.le_of_ble_eq_true rfl⟩ | exact ⟨⟨by assumption, by omega⟩, Nat.le_of_ble_eq_true rfl⟩ | decide) ?_; conv => whnf)
  (refine m_taken (m := m) zkd66 (by rw [f66]; exact hw0.1.2.2.2.2.1.1) hw0.m400 ho (by rw [f66]; exact hz) ?_; conv => whnf)
  rw [f66]
  exact hK _ _ _ _ (loop steps 0 m s0 g2 0 (by omega) (fun j c1 c2 => by rw [hf2 j c2, hf1 j c1]) f66 hw0 hso0 (by omega) (Or.inl ⟨fun _ => by omega, rfl⟩))
theorem p_stepC {n m z : Nat} {rows : Nat → zS} (hw : minw (g 65) n m) (hr : RelC g 8 (g 65) n m) (hhc : HistC g z rows) (hhm : HistM g z rows) (hs : Snap g) (ht : Txt g) {steps : Nat} {order : Int} {u : Bool} (hst : 1 ≤ steps ∧ steps ≤ 400) (ho : zin order) {mod : Int → zM → Prop}
    (hm4 : mtk (g 65) 0 m = -5 → mod (-4) g)
    (hmw : mtk (g 65) 0 m ≠ -5 → ∀ g1 : zM, (∀ j, (j < 8 ∧ j ≠ 1 ∨ 64 ≤ j) → g1 j = g j) → (mwalk order u n steps (mcopy (g1 65) (g1 66)) m 0 = none → J g1 → mod (-3) g1) ∧ (∀ c s' m', mwalk order u n steps (mcopy (g1 65) (g1 66)) m 0 = some (c, s', m') → HistC g1 (pushz z) (pushr z rows (g 65)) → RelC g1 8 s' n m' → minw s' n m' → c ≤ 400 → Snap g1 → Txt g1 → mod c g1)) :
    zC (d + 7) 79 [zR 0, zI steps, zI order, zI (zb u)] g (fun o g1 => ∃ r, zin r ∧ o = some (zI r) ∧ mod r g1) := by
  have hn := hw.n12
  have hm := hw.m400
  have ha := mcopy_agr (a := g 65) (b := g 66)
  have hw0 := hw.congr ha
  have hr0 := hr.congr ha hn hm
  have h0 := ha.mtk (order := 0) hm
  refine c_goThrough hr0 hw0 hr hw hhc hst ho (fun q => ?_) (fun q g1 hf1 hr1 => ?_) (fun q0 c s' m' q g1 hf1 hh1 hr1 => ?_)
  · exact ⟨-4, by omega, rfl, hm4 (by rw [← h0]; exact q)⟩
  · by_cases c0 : mtk (g 65) 0 m = -5
    · exfalso
      obtain ⟨st, rfl⟩ : ∃ st, steps = st + 1 := ⟨steps - 1, by omega⟩
      rw [mwalk, if_pos ((mtk_none m).2 (by rw [h0]; exact c0))] at q
      exact absurd q (by simp)
    · have e65 := hf1 65 (by omega)
      have e66 := hf1 66 (by omega)
      refine ⟨-3, by omega, rfl, (hmw c0 g1 (fun j c => hf1 j (by omega))).1 (by rw [e65, e66]; exact q) ?_⟩
      refine J.mk (g := g) (n := n) (m := m) (z := z) (rows := rows) (by rw [e65]; exact hw) (by rw [e65]; exact hr1) (hhc.frame (fun j c => hf1 j (by omega))) (hhm.frame (by rw [hf1 64 (by omega)]) (hf1 67 (by omega))) hs ht (fun j c => hf1 j (by omega)) (fun j c => by rw [hf1 64 (by omega)])
  · have hi := mwalk_inv steps _ m 0 hw0 c s' m' q
    have e65 := hf1 65 (by omega) (by omega)
    have e66 := hf1 66 (by omega) (by omega)
    refine ⟨c, by omega, rfl, (hmw (by rw [← h0]; exact q0) g1 (fun j c => hf1 j (by omega) (by omega))).2 c s' m' (by rw [e65, e66]; exact q) hh1 hr1 hi.1 (by omega) ?_ ?_⟩
    · exact hs.frame (fun j c => hf1 j (by omega) (by omega)) (by rw [hf1 0 (by omega) (by omega)]) (by rw [hf1 64 (by omega) (by omega)])
    · exact ht.frame (by rw [hf1 3 (by omega) (by omega)]) (hf1 4 (by omega) (by omega)) (by rw [hf1 64 (by omega) (by omega)]) (hf1 69 (by omega) (by omega))
theorem J.walk {g1 g2 : zM} {n m' z : Nat} {s' p : zS} {rows : Nat → zS} (hh : HistC g1 (pushz z) (pushr z rows p)) (hr : RelC g1 8 s' n m') (hw : minw s' n m') (hs : Snap g1) (ht : Txt g1) (hf : ∀ j, j ≠ 64 → j ≠ 65 → j ≠ 66 → j ≠ 67 → j ≠ 71 → g2 j = g1 j) (h64 : ∀ j : Int, j ≠ 3 → g2 64 j = g1 64 j) (hM : HistM g2 (pushz z) (pushr z rows p)) (ha : agr s' (g2 65)) : J g2 :=
  J.mk (g := g1) (n := n) (m := m') (z := pushz z) (rows := pushr z rows p) (hw.congr ha) ((hr.congr ha hw.n12 hw.m400).frame (fun j c1 c2 => hf j (by omega) (by omega) (by omega) (by omega) (by omega)) hw.n12) (hh.frame (fun j c => hf j (by omega) (by omega) (by omega) (by omega) (by omega))) hM hs ht (fun j c => hf j (by omega) (by omega) (by omega) (by omega) (by omega)) h64
/-- where the reference only looks -/
theorem J.look {g g' : zM} (h : J g) (hf : ∀ j, j ≠ 66 → j ≠ 71 → g' j = g j) : J g' :=
  h.frame (fun j c1 c2 => hf j (by omega) (by omega)) (by rw [hf 3 (by omega) (by omega)]) (by rw [hf 64 (by omega) (by omega)]; exact ⟨rfl, rfl, rfl⟩)
theorem p_step (hJ : J g) {x : Int} (hx : zin x) : zPair (d + 11) 61 [zR 0, zI x] 128 [zR 64, zI x] g := by
  obtain ⟨⟨n, m, hw, hr⟩, ⟨z, rows, hhc, hhm⟩, hs, ht⟩ := id hJ
  have k0 := zkd0
  have k8 := zKC_8.1
  have k64 := zkd64
  have k65a : (zkd 65).1 = 1 := rfl
  have k65b : (zkd 65).2 = 2845 := rfl
  have h2r := hw.1.2.2.1
  have hg2 : g 8 (2 : Nat) = g 65 2 := hr.2.2.1
  refine zC.go zm_X5_step ⟨rfl, rfl⟩ rfl ?_
  (refine zW.go (zC_om _) (fun K hK => ?_); conv => whnf)
  (refine And.intro (by first | omega | assumption | rfl | exact zin_and | exact ⟨zin_and, by omega⟩ | exact ⟨by omega, zin_and⟩ | exact Nat.le_of_ble_eq_true rfl | exact ⟨Nat.le_of_ble_eq_true rfl, rfl⟩ | exact ⟨Nat.le_of_ble_eq_true rfl, by assumption⟩ | exact ⟨by omega, Nat.le_of_ble_eq_true rfl⟩ | exact ⟨⟨by assumption, by omega⟩, Nat.le_of_ble_eq_true rfl⟩ | decide) ?_; conv => whnf)
  (refine s_isWithin hx (by omega) (by omega) ?_; conv => whnf)
  by_cases h1 : 1 ≤ x ∧ x ≤ 200
  · rw [if_pos h1]
    obtain ⟨st, rfl⟩ : ∃ t : Nat, x = (t : Int) := ⟨x.toNat, by omega⟩
    (refine And.intro (by first | omega | assumption | rfl | exact zin_and | exact ⟨zin_and, by omega⟩ | exact ⟨by omega, zin_and⟩ | exact Nat.le_of_ble_eq_true rfl | exact ⟨Nat.le_of_ble_eq_true rfl, rfl⟩ | exact ⟨Nat.le_of_ble_eq_true rfl, by assumption⟩ | exact ⟨by omega, Nat.le_of_ble_eq_true rfl⟩ | exact ⟨⟨by assumption, by omega⟩, Nat.le_of_ble_eq_true rfl⟩ | decide) ?_; conv => whnf)
    (refine And.intro (fun h => ?_) (fun h => by omega); conv => whnf)
    (refine hK _ _ _ _ (zW.go (zC_om _) (fun K hK => ?_)); conv => whnf)
    (refine And.intro (by first | omega | assumption | rfl | exact zin_and | exact ⟨zin_and, by omega⟩ | exact ⟨by omega, zin_and⟩ | exact Nat.le_of_ble_eq_true rfl | exact ⟨Nat.le_of_ble_eq_true rfl, rfl⟩ | exact ⟨Nat.le_of_ble_eq_true rfl, by assumption⟩ | exact ⟨by omega, Nat.le_of_ble_eq_true rfl⟩ | exact ⟨⟨by assumption, by omega⟩, Nat.le_of_ble_eq_true rfl⟩ | decide) ?_; conv => whnf)
    (refine And.intro (by first | omega | assumption | rfl | exact zin_and | exact ⟨zin_and, by omega⟩ | exact ⟨by omega, zin_and⟩ | exact Nat.le_of_ble_eq_true rfl | exact ⟨Nat.le_of_ble_eq_true rfl, rfl⟩ | exact ⟨Nat.le_of_ble_eq_true rfl, by assumption⟩ | exact ⟨by omega, Nat.le_of_ble_eq_true rfl⟩ | exact ⟨⟨by assumption, by omega⟩, Nat.le_of_ble_eq_true rfl⟩ | decide) ?_; conv => whnf)
    rw [hg2]
    (refine And.intro (by first | omega | assumption | rfl | exact zin_and | exact ⟨zin_and, by omega⟩ | exact ⟨by omega, zin_and⟩ | exact Nat.le_of_ble_eq_true rfl | exact ⟨Nat.le_of_ble_eq_true rfl, rfl⟩ | exact ⟨Nat.le_of_ble_eq_true rfl, by assumption⟩ | exact ⟨by omega, Nat.le_of_ble_eq_true rfl⟩ | exact ⟨⟨by assumption, by omega⟩, Nat.le_of_ble_eq_true rfl⟩ | decide) ?_; conv => whnf)
    refine zC.q (p_stepC (u := false) (d := d + 3) (mod := fun r g1 => zC (d + 11) 128 [zR 64, zI st] g1 (fun o' g2 => o' = some (zI r) ∧ J g2)) hw hr hhc hhm hs ht (steps := st) (order := g 65 2) (by omega) (by omega) (fun h3 => ?_) (fun h3 g1 hf1 => ⟨fun q hJ1 => ?_, fun c s' m' q hh1 hr1 hw1 hc hs1 ht1 => ?_⟩)) ?_
    · show zC (d + 11) 128 [zR 64, zI st] g _
      refine zC.go zm_X6_step ⟨rfl, rfl⟩ rfl ?_
      (refine zW.go (zC_om _) (fun K hK => ?_); conv => whnf)
      (refine And.intro (by first | omega | assumption | rfl | exact zin_and | exact ⟨zin_and, by omega⟩ | exact ⟨by omega, zin_and⟩ | exact Nat.le_of_ble_eq_true rfl | exact ⟨Nat.le_of_ble_eq_true rfl, rfl⟩ | exact ⟨Nat.le_of_ble_eq_true rfl, by assumption⟩ | exact ⟨by omega, Nat.le_of_ble_eq_true rfl⟩ | exact ⟨⟨by assumption, by omega⟩, Nat.le_of_ble_eq_true rfl⟩ | decide) ?_; conv => whnf)
      (refine m_in hx (by omega) (by omega) ?_; conv => whnf)
      rw [if_pos h1]
      (refine And.intro (by first | omega | assumption | rfl | exact zin_and | exact ⟨zin_and, by omega⟩ | exact ⟨by omega, zin_and⟩ | exact Nat.le_of_ble_eq_true rfl | exact ⟨Nat.le_of_ble_eq_true rfl, rfl⟩ | exact ⟨Nat.le_of_ble_eq_true rfl, by assumption⟩ | exact ⟨by omega, Nat.le_of_ble_eq_true rfl⟩ | exact ⟨⟨by assumption, by omega⟩, Nat.le_of_ble_eq_true rfl⟩ | decide) ?_; conv => whnf)
      (refine And.intro (fun h => ?_) (fun h => by omega); conv => whnf)
      (refine hK _ _ _ _ (zW.go (zC_om _) (fun K hK => ?_)); conv => whnf)
      (refine And.intro (by first | omega | assumption | rfl | exact zin_and | exact ⟨zin_and, by omega⟩ | exact ⟨by omega, zin_and⟩ | exact Nat.le_of_ble_eq_true rfl | exact ⟨Nat.le_of_ble_eq_true rfl, rfl⟩ | exact ⟨Nat.le_of_ble_eq_true rfl, by assumption⟩ | exact ⟨by omega, Nat.le_of_ble_eq_true rfl⟩ | exact ⟨⟨by assumption, by omega⟩, Nat.le_of_ble_eq_true rfl⟩ | decide) ?_; conv => whnf)
      (refine m_goesOn hw.1 ?_; conv => whnf)
      rw [if_pos h3]
      (refine And.intro (by first | omega | assumption | rfl | exact zin_and | exact ⟨zin_and, by omega⟩ | exact ⟨by omega, zin_and⟩ | exact Nat.le_of_ble_eq_true rfl | exact ⟨Nat.le_of_ble_eq_true rfl, rfl⟩ | exact ⟨Nat.le_of_ble_eq_true rfl, by assumption⟩ | exact ⟨by omega, Nat.le_of_ble_eq_true rfl⟩ | exact ⟨⟨by assumption, by omega⟩, Nat.le_of_ble_eq_true rfl⟩ | decide) ?_; conv => whnf)
      (refine And.intro (fun h => ?_) (fun h => by omega); conv => whnf)
      (refine hK _ _ _ _ (zW.go (zC_om _) (fun K hK => ?_)); conv => whnf)
      exact ⟨⟨fun w => absurd w (by decide), fun w => absurd w (by decide)⟩, rfl, hJ⟩
    · show zC (d + 11) 128 [zR 64, zI st] g1 _
      have e65 := hf1 65 (by omega)
      have e64 := hf1 64 (by omega)
      refine zC.go zm_X6_step ⟨rfl, rfl⟩ rfl ?_
      (refine zW.go (zC_om _) (fun K hK => ?_); conv => whnf)
      (refine And.intro (by first | omega | assumption | rfl | exact zin_and | exact ⟨zin_and, by omega⟩ | exact ⟨by omega, zin_and⟩ | exact Nat.le_of_ble_eq_true rfl | exact ⟨Nat.le_of_ble_eq_true rfl, rfl⟩ | exact ⟨Nat.le_of_ble_eq_true rfl, by assumption⟩ | exact ⟨by omega, Nat.le_of_ble_eq_true rfl⟩ | exact ⟨⟨by assumption, by omega⟩, Nat.le_of_ble_eq_true rfl⟩ | decide) ?_; conv => whnf)
      (refine m_in hx (by omega) (by omega) ?_; conv => whnf)
      rw [if_pos h1]
      (refine And.intro (by first | omega | assumption | rfl | exact zin_and | exact ⟨zin_and, by omega⟩ | exact ⟨by omega, zin_and⟩ | exact Nat.le_of_ble_eq_true rfl | exact ⟨Nat.le_of_ble_eq_true rfl, rfl⟩ | exact ⟨Nat.le_of_ble_eq_true rfl, by assumption⟩ | exact ⟨by omega, Nat.le_of_ble_eq_true rfl⟩ | exact ⟨⟨by assumption, by omega⟩, Nat.le_of_ble_eq_true rfl⟩ | decide) ?_; conv => whnf)
      (refine And.intro (fun h => ?_) (fun h => by omega); conv => whnf)
      (refine hK _ _ _ _ (zW.go (zC_om _) (fun K hK => ?_)); conv => whnf)
      (refine And.intro (by first | omega | assumption | rfl | exact zin_and | exact ⟨zin_and, by omega⟩ | exact ⟨by omega, zin_and⟩ | exact Nat.le_of_ble_eq_true rfl | exact ⟨Nat.le_of_ble_eq_true rfl, rfl⟩ | exact ⟨Nat.le_of_ble_eq_true rfl, by assumption⟩ | exact ⟨by omega, Nat.le_of_ble_eq_true rfl⟩ | exact ⟨⟨by assumption, by omega⟩, Nat.le_of_ble_eq_true rfl⟩ | decide) ?_; conv => whnf)
      (refine m_goesOn (n := n) (m := m) (by rw [e65]; exact hw.1) ?_; conv => whnf)
      rw [e65, if_neg h3]
      (refine And.intro (by first | omega | assumption | rfl | exact zin_and | exact ⟨zin_and, by omega⟩ | exact ⟨by omega, zin_and⟩ | exact Nat.le_of_ble_eq_true rfl | exact ⟨Nat.le_of_ble_eq_true rfl, rfl⟩ | exact ⟨Nat.le_of_ble_eq_true rfl, by assumption⟩ | exact ⟨by omega, Nat.le_of_ble_eq_true rfl⟩ | exact ⟨⟨by assumption, by omega⟩, Nat.le_of_ble_eq_true rfl⟩ | decide) ?_; conv => whnf)
      (refine And.intro (fun h => by omega) (fun h => ?_); conv => whnf)
      (refine And.intro (by first | omega | assumption | rfl | exact zin_and | exact ⟨zin_and, by omega⟩ | exact ⟨by omega, zin_and⟩ | exact Nat.le_of_ble_eq_true rfl | exact ⟨Nat.le_of_ble_eq_true rfl, rfl⟩ | exact ⟨Nat.le_of_ble_eq_true rfl, by assumption⟩ | exact ⟨by omega, Nat.le_of_ble_eq_true rfl⟩ | exact ⟨⟨by assumption, by omega⟩, Nat.le_of_ble_eq_true rfl⟩ | decide) ?_; conv => whnf)
      (refine And.intro (by first | omega | assumption | rfl | exact zin_and | exact ⟨zin_and, by omega⟩ | exact ⟨by omega, zin_and⟩ | exact Nat.le_of_ble_eq_true rfl | exact ⟨Nat.le_of_ble_eq_true rfl, rfl⟩ | exact ⟨Nat.le_of_ble_eq_true rfl, by assumption⟩ | exact ⟨by omega, Nat.le_of_ble_eq_true rfl⟩ | exact ⟨⟨by assumption, by omega⟩, Nat.le_of_ble_eq_true rfl⟩ | decide) ?_; conv => whnf)
      rw [e65]
      (refine And.intro (by first | omega | assumption | rfl | exact zin_and | exact ⟨zin_and, by omega⟩ | exact ⟨by omega, zin_and⟩ | exact Nat.le_of_ble_eq_true rfl | exact ⟨Nat.le_of_ble_eq_true rfl, rfl⟩ | exact ⟨Nat.le_of_ble_eq_true rfl, by assumption⟩ | exact ⟨by omega, Nat.le_of_ble_eq_true rfl⟩ | exact ⟨⟨by assumption, by omega⟩, Nat.le_of_ble_eq_true rfl⟩ | decide) ?_; conv => whnf)
      refine m_walks (u := false) (steps := st) (n := n) (m := m) (z := z) (rows := rows) (by rw [e65]; exact hw) (hhm.frame (by rw [e64]) (hf1 67 (by omega))) (by omega) (by omega) (fun _ g2 hf2 => ?_) (fun c' s2 m2 q2 => ?_)
      · conv => whnf
        refine hK _ _ _ _ (zW.go (zC_om _) (fun K hK => ?_))
        conv => whnf
        exact ⟨⟨fun w => absurd w (by decide), fun w => absurd w (by decide)⟩, rfl, hJ1.look hf2⟩
      · rw [q] at q2
        exact absurd q2 (by simp)
    · show zC (d + 11) 128 [zR 64, zI st] g1 _
      have e65 := hf1 65 (by omega)
      have e64 := hf1 64 (by omega)
      refine zC.go zm_X6_step ⟨rfl, rfl⟩ rfl ?_
      (refine zW.go (zC_om _) (fun K hK => ?_); conv => whnf)
      (refine And.intro (by first | omega | assumption | rfl | exact zin_and | exact ⟨zin_and, by omega⟩ | exact ⟨by omega, zin_and⟩ | exact Nat.le_of_ble_eq_true rfl | exact ⟨Nat.le_of_ble_eq_true rfl, rfl⟩ | exact ⟨Nat.le_of_ble_eq_true rfl, by assumption⟩ | exact ⟨by omega, Nat.le_of_ble_eq_true rfl⟩ | exact ⟨⟨by assumption, by omega⟩, Nat.le_of_ble_eq_true rfl⟩ | decide) ?_; conv => whnf)
      (refine m_in hx (by omega) (by omega) ?_; conv => whnf)
      rw [if_pos h1]
      (refine And.intro (by first | omega | assumption | rfl | exact zin_and | exact ⟨zin_and, by omega⟩ | exact ⟨by omega, zin_and⟩ | exact Nat.le_of_ble_eq_true rfl | exact ⟨Nat.le_of_ble_eq_true rfl, rfl⟩ | exact ⟨Nat.le_of_ble_eq_true rfl, by assumption⟩ | exact ⟨by omega, Nat.le_of_ble_eq_true rfl⟩ | exact ⟨⟨by assumption, by omega⟩, Nat.le_of_ble_eq_true rfl⟩ | decide) ?_; conv => whnf)
      (refine And.intro (fun h => ?_) (fun h => by omega); conv => whnf)
      (refine hK _ _ _ _ (zW.go (zC_om _) (fun K hK => ?_)); conv => whnf)
      (refine And.intro (by first | omega | assumption | rfl | exact zin_and | exact ⟨zin_and, by omega⟩ | exact ⟨by omega, zin_and⟩ | exact Nat.le_of_ble_eq_true rfl | exact ⟨Nat.le_of_ble_eq_true rfl, rfl⟩ | exact ⟨Nat.le_of_ble_eq_true rfl, by assumption⟩ | exact ⟨by omega, Nat.le_of_ble_eq_true rfl⟩ | exact ⟨⟨by assumption, by omega⟩, Nat.le_of_ble_eq_true rfl⟩ | decide) ?_; conv => whnf)
      (refine m_goesOn (n := n) (m := m) (by rw [e65]; exact hw.1) ?_; conv => whnf)
      rw [e65, if_neg h3]
      (refine And.intro (by first | omega | assumption | rfl | exact zin_and | exact ⟨zin_and, by omega⟩ | exact ⟨by omega, zin_and⟩ | exact Nat.le_of_ble_eq_true rfl | exact ⟨Nat.le_of_ble_eq_true rfl, rfl⟩ | exact ⟨Nat.le_of_ble_eq_true rfl, by assumption⟩ | exact ⟨by omega, Nat.le_of_ble_eq_true rfl⟩ | exact ⟨⟨by assumption, by omega⟩, Nat.le_of_ble_eq_true rfl⟩ | decide) ?_; conv => whnf)
      (refine And.intro (fun h => by omega) (fun h => ?_); conv => whnf)
      (refine And.intro (by first | omega | assumption | rfl | exact zin_and | exact ⟨zin_and, by omega⟩ | exact ⟨by omega, zin_and⟩ | exact Nat.le_of_ble_eq_true rfl | exact ⟨Nat.le_of_ble_eq_true rfl, rfl⟩ | exact ⟨Nat.le_of_ble_eq_true rfl, by assumption⟩ | exact ⟨by omega, Nat.le_of_ble_eq_true rfl⟩ | exact ⟨⟨by assumption, by omega⟩, Nat.le_of_ble_eq_true rfl⟩ | decide) ?_; conv => whnf)
      (refine And.intro (by first | omega | assumption | rfl | exact zin_and | exact ⟨zin_and, by omega⟩ | exact ⟨by omega, zin_and⟩ | exact Nat.le_of_ble_eq_true rfl | exact ⟨Nat.le_of_ble_eq_true rfl, rfl⟩ | exact ⟨Nat.le_of_ble_eq_true rfl, by assumption⟩ | exact ⟨by omega, Nat.le_of_ble_eq_true rfl⟩ | exact ⟨⟨by assumption, by omega⟩, Nat.le_of_ble_eq_true rfl⟩ | decide) ?_; conv => whnf)
      rw [e65]
      (refine And.intro (by first | omega | assumption | rfl | exact zin_and | exact ⟨zin_and, by omega⟩ | exact ⟨by omega, zin_and⟩ | exact Nat.le_of_ble_eq_true rfl | exact ⟨Nat.le_of_ble_eq_true rfl, rfl⟩ | exact ⟨Nat.le_of_ble_eq_true rfl, by assumption⟩ | exact ⟨by omega, Nat.le_of_ble_eq_true rfl⟩ | exact ⟨⟨by assumption, by omega⟩, Nat.le_of_ble_eq_true rfl⟩ | decide) ?_; conv => whnf)
      refine m_walks (u := false) (steps := st) (n := n) (m := m) (z := z) (rows := rows) (by rw [e65]; exact hw) (hhm.frame (by rw [e64]) (hf1 67 (by omega))) (by omega) (by omega) (fun q2 => ?_) (fun c' s2 m2 q2 g2 hf2 h642 hM ha => ?_)
      · rw [q] at q2
        exact absurd q2 (by simp)
      · rw [q] at q2
        injection q2 with q2
        injection q2 with a1 a2
        injection a2 with a2 a3
        subst a1 a2 a3
        rw [e65] at hM
        conv => whnf
        refine hK _ _ _ _ (zW.go (zC_om _) (fun K hK => ?_))
        conv => whnf
        exact ⟨⟨fun w => absurd w (by decide), fun w => absurd w (by decide)⟩, rfl, J.walk hh1 hr1 hw1 hs1 ht1 hf2 h642 hM ha⟩
    · rintro o g1 ⟨r, hz, rfl, hm⟩
      exact ⟨⟨fun w => absurd w (by decide), fun w => absurd w (by decide)⟩, r, hz, rfl, hm⟩
  · rw [if_neg h1]
    (refine And.intro (by first | omega | assumption | rfl | exact zin_and | exact ⟨zin_and, by omega⟩ | exact ⟨by omega, zin_and⟩ | exact Nat.le_of_ble_eq_true rfl | exact ⟨Nat.le_of_ble_eq_true rfl, rfl⟩ | exact ⟨Nat.le_of_ble_eq_true rfl, by assumption⟩ | exact ⟨by omega, Nat.le_of_ble_eq_true rfl⟩ | exact ⟨⟨by assumption, by omega⟩, Nat.le_of_ble_eq_true rfl⟩ | decide) ?_; conv => whnf)
    (refine And.intro (fun h => by omega) (fun h => ?_); conv => whnf)
    (refine And.intro (by first | omega | assumption | rfl | exact zin_and | exact ⟨zin_and, by omega⟩ | exact ⟨by omega, zin_and⟩ | exact Nat.le_of_ble_eq_true rfl | exact ⟨Nat.le_of_ble_eq_true rfl, rfl⟩ | exact ⟨Nat.le_of_ble_eq_true rfl, by assumption⟩ | exact ⟨by omega, Nat.le_of_ble_eq_true rfl⟩ | exact ⟨⟨by assumption, by omega⟩, Nat.le_of_ble_eq_true rfl⟩ | decide) ?_; conv => whnf)
    refine ⟨-2, by omega, rfl, ?_⟩
    refine zC.go zm_X6_step ⟨rfl, rfl⟩ rfl ?_
    (refine zW.go (zC_om _) (fun K hK => ?_); conv => whnf)
    (refine And.intro (by first | omega | assumption | rfl | exact zin_and | exact ⟨zin_and, by omega⟩ | exact ⟨by omega, zin_and⟩ | exact Nat.le_of_ble_eq_true rfl | exact ⟨Nat.le_of_ble_eq_true rfl, rfl⟩ | exact ⟨Nat.le_of_ble_eq_true rfl, by assumption⟩ | exact ⟨by omega, Nat.le_of_ble_eq_true rfl⟩ | exact ⟨⟨by assumption, by omega⟩, Nat.le_of_ble_eq_true rfl⟩ | decide) ?_; conv => whnf)
    (refine m_in hx (by omega) (by omega) ?_; conv => whnf)
    rw [if_neg h1]
    (refine And.intro (by first | omega | assumption | rfl | exact zin_and | exact ⟨zin_and, by omega⟩ | exact ⟨by omega, zin_and⟩ | exact Nat.le_of_ble_eq_true rfl | exact ⟨Nat.le_of_ble_eq_true rfl, rfl⟩ | exact ⟨Nat.le_of_ble_eq_true rfl, by assumption⟩ | exact ⟨by omega, Nat.le_of_ble_eq_true rfl⟩ | exact ⟨⟨by assumption, by omega⟩, Nat.le_of_ble_eq_true rfl⟩ | decide) ?_; conv => whnf)
    (refine And.intro (fun h => by omega) (fun h => ?_); conv => whnf)
    (refine And.intro (by first | omega | assumption | rfl | exact zin_and | exact ⟨zin_and, by omega⟩ | exact ⟨by omega, zin_and⟩ | exact Nat.le_of_ble_eq_true rfl | exact ⟨Nat.le_of_ble_eq_true rfl, rfl⟩ | exact ⟨Nat.le_of_ble_eq_true rfl, by assumption⟩ | exact ⟨by omega, Nat.le_of_ble_eq_true rfl⟩ | exact ⟨⟨by assumption, by omega⟩, Nat.le_of_ble_eq_true rfl⟩ | decide) ?_; conv => whnf)
    exact ⟨rfl, hJ⟩
theorem p_dive (hJ : J g) : zPair (d + 11) 62 [zR 0] 129 [zR 64] g := by
  obtain ⟨⟨n, m, hw, hr⟩, ⟨z, rows, hhc, hhm⟩, hs, ht⟩ := id hJ
  have k0 := zkd0
  have k64 := zkd64
  have hm := hw.m400
  have fuel : ∀ s : zS, agr (g 65) s → mwalk 0 true n 100000 s m 0 = mwalk 0 true n 400 s m 0 := fun s ha => mwalk_fuel 200 100000 400 s m 0 (hw.congr ha) (by omega) (by omega) (by omega)
  refine zC.go zm_X5_dive ⟨rfl, rfl⟩ rfl ?_
  (refine zW.go (zC_om _) (fun K hK => ?_); conv => whnf)
  (refine And.intro (by first | omega | assumption | rfl | exact zin_and | exact ⟨zin_and, by omega⟩ | exact ⟨by omega, zin_and⟩ | exact Nat.le_of_ble_eq_true rfl | exact ⟨Nat.le_of_ble_eq_true rfl, rfl⟩ | exact ⟨Nat.le_of_ble_eq_true rfl, by assumption⟩ | exact ⟨by omega, Nat.le_of_ble_eq_true rfl⟩ | exact ⟨⟨by assumption, by omega⟩, Nat.le_of_ble_eq_true rfl⟩ | decide) ?_; conv => whnf)
  refine zC.q (p_stepC (u := true) (d := d + 3) (mod := fun r g1 => zC (d + 11) 129 [zR 64] g1 (fun o' g2 => o' = some (zI r) ∧ J g2)) hw hr hhc hhm hs ht (steps := 400) (order := 0) (by omega) (by omega) (fun h3 => ?_) (fun h3 g1 hf1 => ⟨fun q hJ1 => ?_, fun c s' m' q hh1 hr1 hw1 hc hs1 ht1 => ?_⟩)) ?_
  · show zC (d + 11) 129 [zR 64] g _
    refine zC.go zm_X6_dive ⟨rfl, rfl⟩ rfl ?_
    (refine zW.go (zC_om _) (fun K hK => ?_); conv => whnf)
    (refine And.intro (by first | omega | assumption | rfl | exact zin_and | exact ⟨zin_and, by omega⟩ | exact ⟨by omega, zin_and⟩ | exact Nat.le_of_ble_eq_true rfl | exact ⟨Nat.le_of_ble_eq_true rfl, rfl⟩ | exact ⟨Nat.le_of_ble_eq_true rfl, by assumption⟩ | exact ⟨by omega, Nat.le_of_ble_eq_true rfl⟩ | exact ⟨⟨by assumption, by omega⟩, Nat.le_of_ble_eq_true rfl⟩ | decide) ?_; conv => whnf)
    (refine m_goesOn hw.1 ?_; conv => whnf)
    rw [if_pos h3]
    (refine And.intro (by first | omega | assumption | rfl | exact zin_and | exact ⟨zin_and, by omega⟩ | exact ⟨by omega, zin_and⟩ | exact Nat.le_of_ble_eq_true rfl | exact ⟨Nat.le_of_ble_eq_true rfl, rfl⟩ | exact ⟨Nat.le_of_ble_eq_true rfl, by assumption⟩ | exact ⟨by omega, Nat.le_of_ble_eq_true rfl⟩ | exact ⟨⟨by assumption, by omega⟩, Nat.le_of_ble_eq_true rfl⟩ | decide) ?_; conv => whnf)
    (refine And.intro (fun h => ?_) (fun h => by omega); conv => whnf)
    (refine hK _ _ _ _ (zW.go (zC_om _) (fun K hK => ?_)); conv => whnf)
    exact ⟨⟨fun w => absurd w (by decide), fun w => absurd w (by decide)⟩, rfl, hJ⟩
  · show zC (d + 11) 129 [zR 64] g1 _
    have e65 := hf1 65 (by omega)
    have e64 := hf1 64 (by omega)
    have ha := mcopy_agr (a := g1 65) (b := g1 66)
    rw [← fuel _ (by rw [← e65]; exact ha)] at q
    refine zC.go zm_X6_dive ⟨rfl, rfl⟩ rfl ?_
    (refine zW.go (zC_om _) (fun K hK => ?_); conv => whnf)
    (refine And.intro (by first | omega | assumption | rfl | exact zin_and | exact ⟨zin_and, by omega⟩ | exact ⟨by omega, zin_and⟩ | exact Nat.le_of_ble_eq_true rfl | exact ⟨Nat.le_of_ble_eq_true rfl, rfl⟩ | exact ⟨Nat.le_of_ble_eq_true rfl, by assumption⟩ | exact ⟨by omega, Nat.le_of_ble_eq_true rfl⟩ | exact ⟨⟨by assumption, by omega⟩, Nat.le_of_ble_eq_true rfl⟩ | decide) ?_; conv => whnf)
    (refine m_goesOn (n := n) (m := m) (by rw [e65]; exact hw.1) ?_; conv => whnf)
    rw [e65, if_neg h3]
    (refine And.intro (by first | omega | assumption | rfl | exact zin_and | exact ⟨zin_and, by omega⟩ | exact ⟨by omega, zin_and⟩ | exact Nat.le_of_ble_eq_true rfl | exact ⟨Nat.le_of_ble_eq_true rfl, rfl⟩ | exact ⟨Nat.le_of_ble_eq_true rfl, by assumption⟩ | exact ⟨by omega, Nat.le_of_ble_eq_true rfl⟩ | exact ⟨⟨by assumption, by omega⟩, Nat.le_of_ble_eq_true rfl⟩ | decide) ?_; conv => whnf)
    (refine And.intro (fun h => by omega) (fun h => ?_); conv => whnf)
    (refine And.intro (by first | omega | assumption | rfl | exact zin_and | exact ⟨zin_and, by omega⟩ | exact ⟨by omega, zin_and⟩ | exact Nat.le_of_ble_eq_true rfl | exact ⟨Nat.le_of_ble_eq_true rfl, rfl⟩ | exact ⟨Nat.le_of_ble_eq_true rfl, by assumption⟩ | exact ⟨by omega, Nat.le_of_ble_eq_true rfl⟩ | exact ⟨⟨by assumption, by omega⟩, Nat.le_of_ble_eq_true rfl⟩ | decide) ?_; conv => whnf)
    refine m_walks (u := true) (steps := 100000) (n := n) (m := m) (z := z) (rows := rows) (by rw [e65]; exact hw) (hhm.frame (by rw [e64]) (hf1 67 (by omega))) (by omega) (by omega) (fun _ g2 hf2 => ?_) (fun c' s2 m2 q2 => ?_)
    · conv => whnf
      refine hK _ _ _ _ (zW.go (zC_om _) (fun K hK => ?_))
      conv => whnf
      exact ⟨⟨fun w => absurd w (by decide), fun w => absurd w (by decide)⟩, rfl, hJ1.look hf2⟩
    · rw [q] at q2
      exact absurd q2 (by simp)
  · show zC (d + 11) 129 [zR 64] g1 _
    have e65 := hf1 65 (by omega)
    have e64 := hf1 64 (by omega)
    have ha := mcopy_agr (a := g1 65) (b := g1 66)
    rw [← fuel _ (by rw [← e65]; exact ha)] at q
    refine zC.go zm_X6_dive ⟨rfl, rfl⟩ rfl ?_
    (refine zW.go (zC_om _) (fun K hK => ?_); conv => whnf)
    (refine And.intro (by first | omega | assumption | rfl | exact zin_and | exact ⟨zin_and, by omega⟩ | exact ⟨by omega, zin_and⟩ | exact Nat.le_of_ble_eq_true rfl | exact ⟨Nat.le_of_ble_eq_true rfl, rfl⟩ | exact ⟨Nat.le_of_ble_eq_true rfl, by assumption⟩ | exact ⟨by omega, Nat.le_of_ble_eq_true rfl⟩ | exact ⟨⟨by assumption, by omega⟩, Nat.le_of_ble_eq_true rfl⟩ | decide) ?_; conv => whnf)
    (refine m_goesOn (n := n) (m := m) (by rw [e65]; exact hw.1) ?_; conv => whnf)
    rw [e65, if_neg h3]
    (refine And.intro (by first | omega | assumption | rfl | exact zin_and | exact ⟨zin_and, by omega⟩ | exact ⟨by omega, zin_and⟩ | exact Nat.le_of_ble_eq_true rfl | exact ⟨Nat.le_of_ble_eq_true rfl, rfl⟩ | exact ⟨Nat.le_of_ble_eq_true rfl, by assumption⟩ | exact ⟨by omega, Nat.le_of_ble_eq_true rfl⟩ | exact ⟨⟨by assumption, by omega⟩, Nat.le_of_ble_eq_true rfl⟩ | decide) ?_; conv => whnf)
    (refine And.intro (fun h => by omega) (fun h => ?_); conv => whnf)
    (refine And.intro (by first | omega | assumption | rfl | exact zin_and | exact ⟨zin_and, by omega⟩ | exact ⟨by omega, zin_and⟩ | exact Nat.le_of_ble_eq_true rfl | exact ⟨Nat.le_of_ble_eq_true rfl, rfl⟩ | exact ⟨Nat.le_of_ble_eq_true rfl, by assumption⟩ | exact ⟨by omega, Nat.le_of_ble_eq_true rfl⟩ | exact ⟨⟨by assumption, by omega⟩, Nat.le_of_ble_eq_true rfl⟩ | decide) ?_; conv => whnf)
    refine m_walks (u := true) (steps := 100000) (n := n) (m := m) (z := z) (rows := rows) (by rw [e65]; exact hw) (hhm.frame (by rw [e64]) (hf1 67 (by omega))) (by omega) (by omega) (fun q2 => ?_) (fun c' s2 m2 q2 g2 hf2 h642 hM ha => ?_)
    · rw [q] at q2
      exact absurd q2 (by simp)
    · rw [q] at q2
      injection q2 with q2
      injection q2 with a1 a2
      injection a2 with a2 a3
      subst a1 a2 a3
      rw [e65] at hM
      conv => whnf
      refine hK _ _ _ _ (zW.go (zC_om _) (fun K hK => ?_))
      conv => whnf
      exact ⟨⟨fun w => absurd w (by decide), fun w => absurd w (by decide)⟩, rfl, J.walk hh1 hr1 hw1 hs1 ht1 hf2 h642 hM ha⟩
  · rintro o g1 ⟨r, hz, rfl, hm⟩
    exact ⟨⟨fun w => absurd w (by decide), fun w => absurd w (by decide)⟩, r, hz, rfl, hm⟩
end MW
