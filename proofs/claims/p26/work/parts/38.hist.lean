/-! the class's ring of states -/
theorem zKC_8 : zKC 8 := ⟨rfl, ⟨rfl, rfl, rfl, rfl, rfl⟩, rfl, rfl⟩
theorem zKC_16 : zKC 16 := ⟨rfl, ⟨rfl, rfl, rfl, rfl, rfl⟩, rfl, rfl⟩
theorem zKC_24 : zKC 24 := ⟨rfl, ⟨rfl, rfl, rfl, rfl, rfl⟩, rfl, rfl⟩
theorem zKC_ring : ∀ i, i < 4 → zKC (32 + 8 * i)
  | 0, _ => ⟨rfl, ⟨rfl, rfl, rfl, rfl, rfl⟩, rfl, rfl⟩
  | 1, _ => ⟨rfl, ⟨rfl, rfl, rfl, rfl, rfl⟩, rfl, rfl⟩
  | 2, _ => ⟨rfl, ⟨rfl, rfl, rfl, rfl, rfl⟩, rfl, rfl⟩
  | 3, _ => ⟨rfl, ⟨rfl, rfl, rfl, rfl, rfl⟩, rfl, rfl⟩
  | n + 4, h => absurd h (by omega)
abbrev hcell (o a : Nat) : Nat := 32 + 8 * ((o + a) % 4)
theorem zkd1 : zkd 1 = (0, 1) := rfl
section CH
variable {g : zM} {d : Nat} {Q : zP}
theorem c_stateAt {o a : Nat} (ho : g 1 (1 : Nat) = (o : Int)) (ho4 : o < 4) (ha : a < 4) (hQ : Q (some (zR (hcell o a))) g) : zC (d + 1) 23 [zR 1, zI a] g Q := by
  have k1 := zkd1
  have e := zrem4 (a := o + a) (by omega)
  have e2 : (o : Int) + a = ((o + a : Nat) : Int) := by omega
  have h4 : (o + a) % 4 < 4 := by omega
  refine zC.go zm_X1_stateAt ⟨rfl, rfl⟩ rfl ?_
  (refine zW.go (zC_om _) (fun K hK => ?_); conv => whnf)
  (refine And.intro (by first | omega | assumption | rfl | exact zin_and | exact ⟨zin_and, by omega⟩ | exact ⟨by omega, zin_and⟩ | exact Nat.le_of_ble_eq_true rfl | exact ⟨Nat.le_of_ble_eq_true rfl, rfl⟩ | exact ⟨Nat.le_of_ble_eq_true rfl, by assumption⟩ | exact ⟨by omega, Nat.le_of_ble_eq_true rfl⟩ | exact ⟨⟨by assumption, by omega⟩, Nat.le_of_ble_eq_true rfl⟩ | decide) ?_; conv => whnf)
  rw [ho, e2]
  (refine And.intro (by first | omega | assumption | rfl | exact zin_and | exact ⟨zin_and, by omega⟩ | exact ⟨by omega, zin_and⟩ | exact Nat.le_of_ble_eq_true rfl | exact ⟨Nat.le_of_ble_eq_true rfl, rfl⟩ | exact ⟨Nat.le_of_ble_eq_true rfl, by assumption⟩ | exact ⟨by omega, Nat.le_of_ble_eq_true rfl⟩ | exact ⟨⟨by assumption, by omega⟩, Nat.le_of_ble_eq_true rfl⟩ | decide) ?_; conv => whnf)
  rw [e]
  (refine And.intro (by first | omega | assumption | rfl | exact zin_and | exact ⟨zin_and, by omega⟩ | exact ⟨by omega, zin_and⟩ | exact Nat.le_of_ble_eq_true rfl | exact ⟨Nat.le_of_ble_eq_true rfl, rfl⟩ | exact ⟨Nat.le_of_ble_eq_true rfl, by assumption⟩ | exact ⟨by omega, Nat.le_of_ble_eq_true rfl⟩ | exact ⟨⟨by assumption, by omega⟩, Nat.le_of_ble_eq_true rfl⟩ | decide) ?_; conv => whnf)
  (refine And.intro (fun h => by omega) (fun h => ?_); conv => whnf)
  (refine And.intro (by first | omega | assumption | rfl | exact zin_and | exact ⟨zin_and, by omega⟩ | exact ⟨by omega, zin_and⟩ | exact Nat.le_of_ble_eq_true rfl | exact ⟨Nat.le_of_ble_eq_true rfl, rfl⟩ | exact ⟨Nat.le_of_ble_eq_true rfl, by assumption⟩ | exact ⟨by omega, Nat.le_of_ble_eq_true rfl⟩ | exact ⟨⟨by assumption, by omega⟩, Nat.le_of_ble_eq_true rfl⟩ | decide) ?_; conv => whnf)
  refine ⟨⟨by decide, by decide⟩, ?_⟩
  conv => whnf
  rw [show (zkd 2).2 = 4 from rfl]
  (refine And.intro (by first | omega | assumption | rfl | exact zin_and | exact ⟨zin_and, by omega⟩ | exact ⟨by omega, zin_and⟩ | exact Nat.le_of_ble_eq_true rfl | exact ⟨Nat.le_of_ble_eq_true rfl, rfl⟩ | exact ⟨Nat.le_of_ble_eq_true rfl, by assumption⟩ | exact ⟨by omega, Nat.le_of_ble_eq_true rfl⟩ | exact ⟨⟨by assumption, by omega⟩, Nat.le_of_ble_eq_true rfl⟩ | decide) ?_; conv => whnf)
  (refine And.intro (fun h => by omega) (fun h => ?_); conv => whnf)
  (refine And.intro (by first | omega | assumption | rfl | exact zin_and | exact ⟨zin_and, by omega⟩ | exact ⟨by omega, zin_and⟩ | exact Nat.le_of_ble_eq_true rfl | exact ⟨Nat.le_of_ble_eq_true rfl, rfl⟩ | exact ⟨Nat.le_of_ble_eq_true rfl, by assumption⟩ | exact ⟨by omega, Nat.le_of_ble_eq_true rfl⟩ | exact ⟨⟨by assumption, by omega⟩, Nat.le_of_ble_eq_true rfl⟩ | decide) ?_; conv => whnf)
  (refine And.intro (by first | omega | assumption | rfl | exact zin_and | exact ⟨zin_and, by omega⟩ | exact ⟨by omega, zin_and⟩ | exact Nat.le_of_ble_eq_true rfl | exact ⟨Nat.le_of_ble_eq_true rfl, rfl⟩ | exact ⟨Nat.le_of_ble_eq_true rfl, by assumption⟩ | exact ⟨by omega, Nat.le_of_ble_eq_true rfl⟩ | exact ⟨⟨by assumption, by omega⟩, Nat.le_of_ble_eq_true rfl⟩ | decide) ?_; conv => whnf)
  refine hK _ _ _ _ (zW.go (zC_om _) (fun K hK => ?_))
  conv => whnf
  refine ⟨trivial, ?_⟩
  exact hQ
theorem c_push {b n m o z : Nat} {s : zS} (hk : zKC b) (hb : b + 8 ≤ 32) (hb1 : 1 < b) (hr : RelC g b s n m) (hn : n ≤ 12) (hm : m ≤ 400) (ho : g 1 (1 : Nat) = (o : Int)) (hz : g 1 (2 : Nat) = (z : Int)) (ho4 : o < 4) (hz4 : z ≤ 4)
    (hQ : ∀ (g' : zM) (o' z' : Nat), o' = (if z = 4 then (o + 1) % 4 else o) → z' = (if z = 4 then 3 else z) → (∀ j, j ≠ 1 → (j < hcell o' z' ∨ hcell o' z' + 7 < j) → g' j = g j) → g' 1 (1 : Nat) = (o' : Int) → g' 1 (2 : Nat) = ((z' + 1 : Nat) : Int) → RelC g' (hcell o' z') s n m → Q none g') : zC (d + 4) 21 [zR 1, zR b] g Q := by
  have k1 := zkd1
  refine zC.go zm_X1_push ⟨rfl, rfl⟩ rfl ?_
  have j18 : ∀ (g1 : zM) (o' z' : Nat), o' = (if z = 4 then (o + 1) % 4 else o) → z' = (if z = 4 then 3 else z) → g1 1 (1 : Nat) = (o' : Int) → g1 1 (2 : Nat) = (z' : Int) → (∀ j, j ≠ 1 → g1 j = g j) → zW zX1_push (zC (d + 3)) Q 18 [zR 1, zR b, zU] [] g1 := by
    intro g1 o' z' e1 e2 h1 h2 hf
    have ho' : o' < 4 := by
      rw [e1]; split <;> omega
    have hz' : z' < 4 := by
      rw [e2]; split <;> omega
    have hc := zKC_ring ((o' + z') % 4) (by omega)
    have hce : hcell o' z' = 32 + 8 * ((o' + z') % 4) := rfl
    (refine zW.go (zC_om _) (fun K hK => ?_); conv => whnf)
    (refine And.intro (by first | omega | assumption | rfl | exact zin_and | exact ⟨zin_and, by omega⟩ | exact ⟨by omega, zin_and⟩ | exact Nat.le_of_ble_eq_true rfl | exact ⟨Nat.le_of_ble_eq_true rfl, rfl⟩ | exact ⟨Nat.le_of_ble_eq_true rfl, by assumption⟩ | exact ⟨by omega, Nat.le_of_ble_eq_true rfl⟩ | exact ⟨⟨by assumption, by omega⟩, Nat.le_of_ble_eq_true rfl⟩ | decide) ?_; conv => whnf)
    rw [h2]
    (refine And.intro (by first | omega | assumption | rfl | exact zin_and | exact ⟨zin_and, by omega⟩ | exact ⟨by omega, zin_and⟩ | exact Nat.le_of_ble_eq_true rfl | exact ⟨Nat.le_of_ble_eq_true rfl, rfl⟩ | exact ⟨Nat.le_of_ble_eq_true rfl, by assumption⟩ | exact ⟨by omega, Nat.le_of_ble_eq_true rfl⟩ | exact ⟨⟨by assumption, by omega⟩, Nat.le_of_ble_eq_true rfl⟩ | decide) ?_; conv => whnf)
    (refine c_stateAt h1 ho' hz' ?_; conv => whnf)
    refine And.intro ⟨Nat.le_of_ble_eq_true rfl, hc.1⟩ ?_
    conv => whnf
    have hr1 : RelC g1 b s n m := hr.frame (fun j c1 c2 => hf j (by omega)) hn
    (refine c_stateCopy hk hc (by omega) hr1 hn hm (fun g2 hf2 hr2 => ?_); conv => whnf)
    have h22 : g2 1 (2 : Nat) = (z' : Int) := by rw [hf2 1 (by omega)]; exact h2
    have h21 : g2 1 (1 : Nat) = (o' : Int) := by rw [hf2 1 (by omega)]; exact h1
    (refine And.intro (by first | omega | assumption | rfl | exact zin_and | exact ⟨zin_and, by omega⟩ | exact ⟨by omega, zin_and⟩ | exact Nat.le_of_ble_eq_true rfl | exact ⟨Nat.le_of_ble_eq_true rfl, rfl⟩ | exact ⟨Nat.le_of_ble_eq_true rfl, by assumption⟩ | exact ⟨by omega, Nat.le_of_ble_eq_true rfl⟩ | exact ⟨⟨by assumption, by omega⟩, Nat.le_of_ble_eq_true rfl⟩ | decide) ?_; conv => whnf)
    (refine And.intro ⟨by assumption, fun w => absurd w (by decide)⟩ ?_; conv => whnf)
    refine ⟨trivial, hQ _ o' z' e1 e2 (fun j c1 c2 => ?_) ?_ ?_ (hr2.frame (fun j c1 c2 => zup_ne (by omega)) hn)⟩
    · rw [zup_ne c1, hf2 j c2, hf j c1]
    · rw [zup_i (by decide)]; exact h21
    · rw [zup_s, h22]; omega
  (refine zW.upto (zC_om _) 18 (fun K hK => ?_); conv => whnf)
  (refine And.intro (by first | omega | assumption | rfl | exact zin_and | exact ⟨zin_and, by omega⟩ | exact ⟨by omega, zin_and⟩ | exact Nat.le_of_ble_eq_true rfl | exact ⟨Nat.le_of_ble_eq_true rfl, rfl⟩ | exact ⟨Nat.le_of_ble_eq_true rfl, by assumption⟩ | exact ⟨by omega, Nat.le_of_ble_eq_true rfl⟩ | exact ⟨⟨by assumption, by omega⟩, Nat.le_of_ble_eq_true rfl⟩ | decide) ?_; conv => whnf)
  rw [hz]
  (refine And.intro (by first | omega | assumption | rfl | exact zin_and | exact ⟨zin_and, by omega⟩ | exact ⟨by omega, zin_and⟩ | exact Nat.le_of_ble_eq_true rfl | exact ⟨Nat.le_of_ble_eq_true rfl, rfl⟩ | exact ⟨Nat.le_of_ble_eq_true rfl, by assumption⟩ | exact ⟨by omega, Nat.le_of_ble_eq_true rfl⟩ | exact ⟨⟨by assumption, by omega⟩, Nat.le_of_ble_eq_true rfl⟩ | decide) ?_; conv => whnf)
  by_cases h4 : z = 4
  · subst h4
    rw [if_pos rfl, if_pos rfl] at j18
    have e := zrem4 (a := o + 1) (by omega)
    have e2 : (o : Int) + 1 = ((o + 1 : Nat) : Int) := by omega
    (refine And.intro (fun h => by omega) (fun h => ?_); conv => whnf)
    (refine And.intro (by first | omega | assumption | rfl | exact zin_and | exact ⟨zin_and, by omega⟩ | exact ⟨by omega, zin_and⟩ | exact Nat.le_of_ble_eq_true rfl | exact ⟨Nat.le_of_ble_eq_true rfl, rfl⟩ | exact ⟨Nat.le_of_ble_eq_true rfl, by assumption⟩ | exact ⟨by omega, Nat.le_of_ble_eq_true rfl⟩ | exact ⟨⟨by assumption, by omega⟩, Nat.le_of_ble_eq_true rfl⟩ | decide) ?_; conv => whnf)
    rw [ho, e2]
    (refine And.intro (by first | omega | assumption | rfl | exact zin_and | exact ⟨zin_and, by omega⟩ | exact ⟨by omega, zin_and⟩ | exact Nat.le_of_ble_eq_true rfl | exact ⟨Nat.le_of_ble_eq_true rfl, rfl⟩ | exact ⟨Nat.le_of_ble_eq_true rfl, by assumption⟩ | exact ⟨by omega, Nat.le_of_ble_eq_true rfl⟩ | exact ⟨⟨by assumption, by omega⟩, Nat.le_of_ble_eq_true rfl⟩ | decide) ?_; conv => whnf)
    rw [e]
    (refine And.intro ⟨by assumption, fun w => absurd w (by decide)⟩ ?_; conv => whnf)
    (refine And.intro (by first | omega | assumption | rfl | exact zin_and | exact ⟨zin_and, by omega⟩ | exact ⟨by omega, zin_and⟩ | exact Nat.le_of_ble_eq_true rfl | exact ⟨Nat.le_of_ble_eq_true rfl, rfl⟩ | exact ⟨Nat.le_of_ble_eq_true rfl, by assumption⟩ | exact ⟨by omega, Nat.le_of_ble_eq_true rfl⟩ | exact ⟨⟨by assumption, by omega⟩, Nat.le_of_ble_eq_true rfl⟩ | decide) ?_; conv => whnf)
    rw [zup_i (by decide), hz]
    (refine And.intro ⟨by assumption, fun w => absurd w (by decide)⟩ ?_; conv => whnf)
    refine hK _ _ _ _ (j18 _ ((o + 1) % 4) 3 rfl rfl ?_ ?_ (fun j hj => ?_))
    · rw [zup_i (by decide), zup_s]
    · rw [zup_s]; rfl
    · rw [zup_ne hj, zup_ne hj]
  · rw [if_neg h4, if_neg h4] at j18
    (refine And.intro (fun h => ?_) (fun h => by omega); conv => whnf)
    exact hK _ _ _ _ (j18 g o z rfl rfl ho hz (fun j hj => rfl))
theorem c_pop {b n m o z : Nat} {s : zS} (hk : zKC b) (hb : b + 8 ≤ 32) (hb1 : 1 < b) (ho : g 1 (1 : Nat) = (o : Int)) (hz : g 1 (2 : Nat) = ((z + 1 : Nat) : Int)) (ho4 : o < 4) (hz4 : z < 4) (hr : RelC g (hcell o z) s n m) (hn : n ≤ 12) (hm : m ≤ 400)
    (hQ : ∀ g' : zM, (∀ j, j ≠ 1 → (j < b ∨ b + 7 < j) → g' j = g j) → g' 1 (1 : Nat) = (o : Int) → g' 1 (2 : Nat) = (z : Int) → RelC g' b s n m → Q none g') : zC (d + 4) 22 [zR 1, zR b] g Q := by
  have k1 := zkd1
  have hc := zKC_ring ((o + z) % 4) (by omega)
  have hce : hcell o z = 32 + 8 * ((o + z) % 4) := rfl
  refine zC.go zm_X1_pop ⟨rfl, rfl⟩ rfl ?_
  (refine zW.go (zC_om _) (fun K hK => ?_); conv => whnf)
  (refine And.intro (by first | omega | assumption | rfl | exact zin_and | exact ⟨zin_and, by omega⟩ | exact ⟨by omega, zin_and⟩ | exact Nat.le_of_ble_eq_true rfl | exact ⟨Nat.le_of_ble_eq_true rfl, rfl⟩ | exact ⟨Nat.le_of_ble_eq_true rfl, by assumption⟩ | exact ⟨by omega, Nat.le_of_ble_eq_true rfl⟩ | exact ⟨⟨by assumption, by omega⟩, Nat.le_of_ble_eq_true rfl⟩ | decide) ?_; conv => whnf)
  rw [hz]
  (refine And.intro (by first | omega | assumption | rfl | exact zin_and | exact ⟨zin_and, by omega⟩ | exact ⟨by omega, zin_and⟩ | exact Nat.le_of_ble_eq_true rfl | exact ⟨Nat.le_of_ble_eq_true rfl, rfl⟩ | exact ⟨Nat.le_of_ble_eq_true rfl, by assumption⟩ | exact ⟨by omega, Nat.le_of_ble_eq_true rfl⟩ | exact ⟨⟨by assumption, by omega⟩, Nat.le_of_ble_eq_true rfl⟩ | decide) ?_; conv => whnf)
  (refine And.intro (fun h => ?_) (fun h => by omega); conv => whnf)
  (refine hK _ _ _ _ (zW.go (zC_om _) (fun K hK => ?_)); conv => whnf)
  (refine And.intro (by first | omega | assumption | rfl | exact zin_and | exact ⟨zin_and, by omega⟩ | exact ⟨by omega, zin_and⟩ | exact Nat.le_of_ble_eq_true rfl | exact ⟨Nat.le_of_ble_eq_true rfl, rfl⟩ | exact ⟨Nat.le_of_ble_eq_true rfl, by assumption⟩ | exact ⟨by omega, Nat.le_of_ble_eq_true rfl⟩ | exact ⟨⟨by assumption, by omega⟩, Nat.le_of_ble_eq_true rfl⟩ | decide) ?_; conv => whnf)
  rw [hz]
  (refine And.intro ⟨by assumption, fun w => absurd w (by decide)⟩ ?_; conv => whnf)
  have h2 : (zup g 1 (2 : Nat) (((z + 1 : Nat) : Int) - 1)) 1 (2 : Nat) = (z : Int) := by rw [zup_s]; omega
  have h1 : (zup g 1 (2 : Nat) (((z + 1 : Nat) : Int) - 1)) 1 (1 : Nat) = (o : Int) := by rw [zup_i (by decide)]; exact ho
  have hr1 : RelC (zup g 1 (2 : Nat) (((z + 1 : Nat) : Int) - 1)) (hcell o z) s n m := hr.frame (fun j c1 c2 => zup_ne (by omega)) hn
  have hf : ∀ j, j ≠ 1 → (zup g 1 (2 : Nat) (((z + 1 : Nat) : Int) - 1)) j = g j := fun j hj => zup_ne hj
  generalize (zup g 1 (2 : Nat) (((z + 1 : Nat) : Int) - 1)) = g1 at *
  (refine And.intro (by first | omega | assumption | rfl | exact zin_and | exact ⟨zin_and, by omega⟩ | exact ⟨by omega, zin_and⟩ | exact Nat.le_of_ble_eq_true rfl | exact ⟨Nat.le_of_ble_eq_true rfl, rfl⟩ | exact ⟨Nat.le_of_ble_eq_true rfl, by assumption⟩ | exact ⟨by omega, Nat.le_of_ble_eq_true rfl⟩ | exact ⟨⟨by assumption, by omega⟩, Nat.le_of_ble_eq_true rfl⟩ | decide) ?_; conv => whnf)
  rw [h2]
  (refine And.intro (by first | omega | assumption | rfl | exact zin_and | exact ⟨zin_and, by omega⟩ | exact ⟨by omega, zin_and⟩ | exact Nat.le_of_ble_eq_true rfl | exact ⟨Nat.le_of_ble_eq_true rfl, rfl⟩ | exact ⟨Nat.le_of_ble_eq_true rfl, by assumption⟩ | exact ⟨by omega, Nat.le_of_ble_eq_true rfl⟩ | exact ⟨⟨by assumption, by omega⟩, Nat.le_of_ble_eq_true rfl⟩ | decide) ?_; conv => whnf)
  (refine c_stateAt h1 ho4 hz4 ?_; conv => whnf)
  refine And.intro ⟨Nat.le_of_ble_eq_true rfl, hk.1⟩ ?_
  conv => whnf
  (refine c_stateCopy hc hk (by omega) hr1 hn hm (fun g2 hf2 hr2 => ?_); conv => whnf)
  refine ⟨trivial, hQ g2 (fun j c1 c2 => ?_) ?_ ?_ hr2⟩
  · rw [hf2 j c2, hf j c1]
  · rw [hf2 1 (by omega)]; exact h1
  · rw [hf2 1 (by omega)]; exact h2
end CH
