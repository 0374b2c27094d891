/-! addAll: the pair -/
section PPA
variable {g : zM} {d : Nat} {Q : zP}
theorem p_addAll (hJ : J g) : zPair (d + 8) 55 [zR 0] 120 [zR 64] g := by
  obtain ⟨⟨n, m, hw, hr⟩, ⟨z, rows, hhc, hhm⟩, hs, L, hL, t1, t2, t3⟩ := id hJ
  have ht : Txt g := hJ.2.2.2
  have hn := hw.n12
  have heq : ∀ i : Nat, i < L → g 4 i = g 69 i := fun i hi => ((t3 i hi).2).symm
  have cres := mtx_congr (ch := g 4) (ch' := g 69) heq (L + 1) 0 0 (fun _ => (0, 0, 0))
  have rg := mtx_rng (ch := g 4) (L := L) (L + 1) 0 0 (fun _ => (0, 0, 0)) (by omega) (by omega) (by omega) (fun i hi => absurd hi (by omega))
  generalize hres : mtx (g 4) L (L + 1) 0 0 (fun _ => (0, 0, 0)) = res at cres rg
  have hc69 : ∀ i : Nat, i < L → 0 ≤ g 69 i ∧ g 69 i < 65536 := fun i hi => by rw [← heq i hi]; exact (t3 i hi).1
  have jf : ∀ g1 : zM, FX g g1 → J g1 := fun g1 hf => hJ.frame (fun j c _ => hf.1 j (by omega) (by omega) (by omega) (by omega)) hf.2 ⟨by rw [hf.1 64 (by omega) (by omega) (by omega) (by omega)], by rw [hf.1 64 (by omega) (by omega) (by omega) (by omega)], by rw [hf.1 64 (by omega) (by omega) (by omega) (by omega)]⟩
  have jt : ∀ g1 g2 : zM, J g1 → FT g1 g2 → J g2 := fun g1 g2 h hf => h.frame (fun j c c2 => hf.1 j c2 (by omega)) (by rw [hf.1 3 (by omega) (by omega)]) ⟨hf.2 _ (by omega) (by omega) (by omega), hf.2 _ (by omega) (by omega) (by omega), hf.2 _ (by omega) (by omega) (by omega)⟩
  have md : ∀ (g1 : zM) (Q : zP), (∀ j, j = 64 ∨ j = 65 ∨ j = 67 ∨ j = 69 → g1 j = g j) →
    (¬ (res.1 = true ∧ ¬ res.2.2.2 < L) → ∀ g' : zM, FT g1 g' → Q (some (zI (-100 - (res.2.2.2 : Int)))) g') →
    ((res.1 = true ∧ ¬ res.2.2.2 < L) → ¬ mtk (g 65) 0 m = -5 → ∀ g' : zM, FT g1 g' → Q (some (zI (-4))) g') →
    ((res.1 = true ∧ ¬ res.2.2.2 < L) → mtk (g 65) 0 m = -5 → 12 < n + res.2.1 → ∀ g' : zM, FT g1 g' → Q (some (zI (-3))) g') →
    ((res.1 = true ∧ ¬ res.2.2.2 < L) → mtk (g 65) 0 m = -5 → n + res.2.1 ≤ 12 → ¬ mfar0 res.2.2.1 n res.2.1 → ∀ g' : zM, FT g1 g' → Q (some (zI (-1))) g') →
    ((res.1 = true ∧ ¬ res.2.2.2 < L) → mtk (g 65) 0 m = -5 → n + res.2.1 ≤ 12 → mfar0 res.2.2.1 n res.2.1 → (∀ i, i < res.2.1 → mtok (res.2.2.1 i)) → ∀ g' : zM, (∀ j, j ≠ 64 → j ≠ 65 → j ≠ 67 → j ≠ 70 → g' j = g1 j) → (∀ j : Int, j ≠ 3 → j ≠ 8 → j ≠ 9 → j ≠ 11 → g' 64 j = g1 64 j) → HistM g' (pushz z) (pushr z rows (g 65)) → g' 65 = mal (mfg (g 65)) n res.2.2.1 res.2.1 → Q (some (zI ((n : Int) + res.2.1))) g') → zC (d + 8) 120 [zR 64] g1 Q := by
    intro g1 Q hf q1 q2 q3 q4 q5
    have e65 := hf 65 (by omega)
    have e69 := hf 69 (by omega)
    have e64 := hf 64 (by omega)
    refine m_addAll (d := d + 2) (ch := g 69) (L := L) (n := n) (m := m) (z := z) (rows := rows) (res := res) (by rw [e65]; exact hw) (hhm.frame (by rw [e64]) (hf 67 (by omega))) e69 (by rw [e64]; exact t2) hL (by rw [e69]; exact hc69) cres.symm q1 ?_ ?_ ?_ ?_
    · rw [e65]; exact q2
    · rw [e65]; exact q3
    · rw [e65]; exact q4
    · rw [e65]; exact q5
  have fx : ∀ g1 : zM, FX g g1 → ∀ j, j = 64 ∨ j = 65 ∨ j = 67 ∨ j = 69 → g1 j = g j := fun g1 hf j c => hf.1 j (by omega) (by omega) (by omega) (by omega)
  refine c_addAll (d := d + 2) hr hw hhc rfl t1 hL (fun i hi => (t3 i hi).1) hres ?_ ?_ ?_ ?_ ?_
  · intro h g1 hf
    refine ⟨_, by omega, rfl, md g1 _ (fx g1 hf) (fun _ g2 hf2 => ⟨rfl, jt g1 g2 (jf g1 hf) hf2⟩) (fun a => absurd a h) (fun a => absurd a h) (fun a => absurd a h) (fun a => absurd a h)⟩
  · intro h h2 g1 hf
    refine ⟨_, by omega, rfl, md g1 _ (fx g1 hf) (fun a => absurd h a) (fun _ _ g2 hf2 => ⟨rfl, jt g1 g2 (jf g1 hf) hf2⟩) (fun _ b => absurd b h2) (fun _ b => absurd b h2) (fun _ b => absurd b h2)⟩
  · intro h h2 h3 g1 hf
    refine ⟨_, by omega, rfl, md g1 _ (fx g1 hf) (fun a => absurd h a) (fun _ b => absurd h2 b) (fun _ _ _ g2 hf2 => ⟨rfl, jt g1 g2 (jf g1 hf) hf2⟩) (fun _ _ c => absurd c (by omega)) (fun _ _ c => absurd c (by omega))⟩
  · intro h h2 h3 h4 g1 hf
    refine ⟨_, by omega, rfl, md g1 _ (fx g1 hf) (fun a => absurd h a) (fun _ b => absurd h2 b) (fun _ _ c => absurd c (by omega)) (fun _ _ _ _ g2 hf2 => ⟨rfl, jt g1 g2 (jf g1 hf) hf2⟩) (fun _ _ _ e => absurd e h4)⟩
  · intro h h2 h3 h4 htok g1 hf hf3 hh1 hr1
    refine ⟨_, by omega, rfl, md g1 _ (fun j c => hf j (by omega) (by omega) (by omega) (by omega) (by omega) (by omega)) (fun a => absurd h a) (fun _ b => absurd h2 b) (fun _ _ c => absurd c (by omega)) (fun _ _ _ e => absurd h4 e) (fun _ _ _ _ _ g2 hf2 hf264 hh2 r2 => ⟨rfl, ?_⟩)⟩
    have hw1 := hw.forget
    obtain ⟨k1, k2⟩ := mal_ok hw1.1.1 hw1.1.2.1 h3 htok res.2.1 (Nat.le_refl _)
    have o := fun (i : Int) (hi : (1 ≤ i ∧ i < 9) ∨ 45 ≤ i) => mal_old (s := mfg (g 65)) (T := res.2.2.1) h3 hi res.2.1 (Nat.le_refl _)
    have f12 : ∀ j, j ≠ 64 → j ≠ 65 → j ≠ 67 → j ≠ 70 → j ≠ 1 → j ≠ 3 → j ≠ 5 → j ≠ 6 → j ≠ 7 → (j < 8 ∨ (16 ≤ j ∧ j < 32) ∨ 64 ≤ j) → g2 j = g j := fun j a b c e a1 a2 a3 a4 a5 a6 => by rw [hf2 j a b c e, hf j a1 a2 a3 a4 a5 a6]
    have f64 : ∀ j : Int, j ≠ 3 → j ≠ 8 → j ≠ 9 → j ≠ 11 → g2 64 j = g 64 j := fun j a b c e => by rw [hf264 j a b c e, hf 64 (by omega) (by omega) (by omega) (by omega) (by omega) (by omega)]
    refine ⟨⟨n + res.2.1, 0, ?_, ?_⟩, ⟨pushz z, pushr z rows (g 65), ?_, hh2⟩, ?_, ?_⟩
    · rw [r2]
      refine minw0 k1 k2 ?_ ?_ ?_ ?_ ?_ ?_ ?_
      · rw [o 2 (by omega)]; exact hw1.1.2.2.1
      · rw [o 3 (by omega)]; exact hw1.1.2.2.2.1
      · rw [o 4 (by omega)]; rfl
      · rw [o 5 (by omega)]; rfl
      · rw [o 6 (by omega)]; rfl
      · rw [o 7 (by omega)]; rfl
      · rw [o 8 (by omega)]; rfl
    · rw [r2]
      exact hr1.frame (fun j c1 c2 => hf2 j (by omega) (by omega) (by omega) (by omega)) h3
    · exact hh1.frame (fun j c => hf2 j (by omega) (by omega) (by omega) (by omega))
    · exact hs.frame (fun j c => f12 j (by omega) (by omega) (by omega) (by omega) (by omega) (by omega) (by omega) (by omega) (by omega) (by omega)) (by rw [f12 0 (by omega) (by omega) (by omega) (by omega) (by omega) (by omega) (by omega) (by omega) (by omega) (by omega)]) (f64 _ (by omega) (by omega) (by omega) (by omega))
    · exact ht.frame (by rw [hf2 3 (by omega) (by omega) (by omega) (by omega)]; exact hf3) (f12 4 (by omega) (by omega) (by omega) (by omega) (by omega) (by omega) (by omega) (by omega) (by omega) (by omega)) (f64 _ (by omega) (by omega) (by omega) (by omega)) (f12 69 (by omega) (by omega) (by omega) (by omega) (by omega) (by omega) (by omega) (by omega) (by omega) (by omega))
end PPA
