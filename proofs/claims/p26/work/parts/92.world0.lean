/-! the first memory, and its cells behind the constructors -/
def g0 : zM := fun k => if k = 65 then (fun i => if i = 1 then 30 else 0) else if k % 8 = 1 ∧ 8 < k ∧ k < 64 then (fun i => if i = 5 then 30 else 0) else fun _ => 0
abbrev zad (qa : Nat → Nat) (qb : Nat) : Nat → Nat := fun k => if k = 0 then qa 0 else if k < 3 then qa (24 + k) else if k < 8 then qa (56 + k) else if k < 32 then qa (k - 7) else if k < 64 then qa (k - 5) else qb
def zpi (k : Nat) : Nat := if k = 0 then 0 else if k < 3 then 24 + k else if k < 8 then 56 + k else if k < 32 then k - 7 else if k < 64 then k - 5 else k
abbrev zL0 (C4 : zC4) (qa : Nat → Nat) : va_W := wBS C4 qa
theorem zRg_eq {cS : ClassId} {D : va_G} {H : Heap} {r : Nat} {f f' : Nat → Option Nat} (h : va_at D vwCl (r, zar cS f) H) (he : ∀ j, j < 4 → f j = f' j) : va_at D vwCl (r, zar cS f') H := by
  have h : H[r]? = some (vp_cell cS (4, .inr (.inr (.inr (.inr f))))) := h
  show H[r]? = some (vp_cell cS (4, .inr (.inr (.inr (.inr f')))))
  rw [h, vp_cell_q, vp_cell_q]
  have e : (fun j : Fin 4 => va_rf (f j.val)) = fun j : Fin 4 => va_rf (f' j.val) := funext (fun j => by rw [he j.val j.isLt])
  exact congrArg (fun F : Fin 4 → Value => some ({ cls := cS, slots := Array.ofFn F, vm := .none } : Cell)) e
theorem zpeel {k n : Nat} (h : k < n + 1) : k < n ∨ k = n := by omega
set_option maxHeartbeats 4000000 in
set_option maxRecDepth 100000 in
theorem z_cells {D : va_G} {C4 : zC4} {qa : Nat → Nat} {qb : Nat} {H : Heap} (hP : va_P D vwCl (zL0 C4 qa) H) : ∀ k : Nat, k < 64 → (∃ e : va_E, (zL0 C4 qa)[zpi k]? = some (zad qa qb k, e)) ∧ va_at D vwCl (zad qa qb k, zer (D, C4, zad qa qb) (g0 k) k) H := by
  have h0 : va_at D vwCl (zad qa qb 0, zer (D, C4, zad qa qb) (g0 0) 0) H := hP 0 _ rfl
  have h1 : va_at D vwCl (zad qa qb 1, zer (D, C4, zad qa qb) (g0 1) 1) H := hP 25 _ rfl
  have h2 : va_at D vwCl (zad qa qb 2, zer (D, C4, zad qa qb) (g0 2) 2) H := by
    have h := hP 26 (qa 26, zar C4.2.2.2 (zRg (qa 27) (qa 35) (qa 43) (qa 51))) rfl
    refine zRg_eq (f' := fun j => some (zad qa qb (32 + 8 * j))) h (fun j hj => ?_)
    rcases (show j = 0 ∨ j = 1 ∨ j = 2 ∨ j = 3 by omega) with rfl | rfl | rfl | rfl <;> rfl
  have h3 : va_at D vwCl (zad qa qb 3, zer (D, C4, zad qa qb) (g0 3) 3) H := hP 59 _ rfl
  have h4 : va_at D vwCl (zad qa qb 4, zer (D, C4, zad qa qb) (g0 4) 4) H := hP 60 _ rfl
  have h5 : va_at D vwCl (zad qa qb 5, zer (D, C4, zad qa qb) (g0 5) 5) H := hP 61 _ rfl
  have h6 : va_at D vwCl (zad qa qb 6, zer (D, C4, zad qa qb) (g0 6) 6) H := hP 62 _ rfl
  have h7 : va_at D vwCl (zad qa qb 7, zer (D, C4, zad qa qb) (g0 7) 7) H := hP 63 _ rfl
  have h8 : va_at D vwCl (zad qa qb 8, zer (D, C4, zad qa qb) (g0 8) 8) H := hP 1 _ rfl
  have h9 : va_at D vwCl (zad qa qb 9, zer (D, C4, zad qa qb) (g0 9) 9) H := hP 2 _ rfl
  have h10 : va_at D vwCl (zad qa qb 10, zer (D, C4, zad qa qb) (g0 10) 10) H := hP 3 _ rfl
  have h11 : va_at D vwCl (zad qa qb 11, zer (D, C4, zad qa qb) (g0 11) 11) H := hP 4 _ rfl
  have h12 : va_at D vwCl (zad qa qb 12, zer (D, C4, zad qa qb) (g0 12) 12) H := hP 5 _ rfl
  have h13 : va_at D vwCl (zad qa qb 13, zer (D, C4, zad qa qb) (g0 13) 13) H := hP 6 _ rfl
  have h14 : va_at D vwCl (zad qa qb 14, zer (D, C4, zad qa qb) (g0 14) 14) H := hP 7 _ rfl
  have h15 : va_at D vwCl (zad qa qb 15, zer (D, C4, zad qa qb) (g0 15) 15) H := hP 8 _ rfl
  have h16 : va_at D vwCl (zad qa qb 16, zer (D, C4, zad qa qb) (g0 16) 16) H := hP 9 _ rfl
  have h17 : va_at D vwCl (zad qa qb 17, zer (D, C4, zad qa qb) (g0 17) 17) H := hP 10 _ rfl
  have h18 : va_at D vwCl (zad qa qb 18, zer (D, C4, zad qa qb) (g0 18) 18) H := hP 11 _ rfl
  have h19 : va_at D vwCl (zad qa qb 19, zer (D, C4, zad qa qb) (g0 19) 19) H := hP 12 _ rfl
  have h20 : va_at D vwCl (zad qa qb 20, zer (D, C4, zad qa qb) (g0 20) 20) H := hP 13 _ rfl
  have h21 : va_at D vwCl (zad qa qb 21, zer (D, C4, zad qa qb) (g0 21) 21) H := hP 14 _ rfl
  have h22 : va_at D vwCl (zad qa qb 22, zer (D, C4, zad qa qb) (g0 22) 22) H := hP 15 _ rfl
  have h23 : va_at D vwCl (zad qa qb 23, zer (D, C4, zad qa qb) (g0 23) 23) H := hP 16 _ rfl
  have h24 : va_at D vwCl (zad qa qb 24, zer (D, C4, zad qa qb) (g0 24) 24) H := hP 17 _ rfl
  have h25 : va_at D vwCl (zad qa qb 25, zer (D, C4, zad qa qb) (g0 25) 25) H := hP 18 _ rfl
  have h26 : va_at D vwCl (zad qa qb 26, zer (D, C4, zad qa qb) (g0 26) 26) H := hP 19 _ rfl
  have h27 : va_at D vwCl (zad qa qb 27, zer (D, C4, zad qa qb) (g0 27) 27) H := hP 20 _ rfl
  have h28 : va_at D vwCl (zad qa qb 28, zer (D, C4, zad qa qb) (g0 28) 28) H := hP 21 _ rfl
  have h29 : va_at D vwCl (zad qa qb 29, zer (D, C4, zad qa qb) (g0 29) 29) H := hP 22 _ rfl
  have h30 : va_at D vwCl (zad qa qb 30, zer (D, C4, zad qa qb) (g0 30) 30) H := hP 23 _ rfl
  have h31 : va_at D vwCl (zad qa qb 31, zer (D, C4, zad qa qb) (g0 31) 31) H := hP 24 _ rfl
  have h32 : va_at D vwCl (zad qa qb 32, zer (D, C4, zad qa qb) (g0 32) 32) H := hP 27 _ rfl
  have h33 : va_at D vwCl (zad qa qb 33, zer (D, C4, zad qa qb) (g0 33) 33) H := hP 28 _ rfl
  have h34 : va_at D vwCl (zad qa qb 34, zer (D, C4, zad qa qb) (g0 34) 34) H := hP 29 _ rfl
  have h35 : va_at D vwCl (zad qa qb 35, zer (D, C4, zad qa qb) (g0 35) 35) H := hP 30 _ rfl
  have h36 : va_at D vwCl (zad qa qb 36, zer (D, C4, zad qa qb) (g0 36) 36) H := hP 31 _ rfl
  have h37 : va_at D vwCl (zad qa qb 37, zer (D, C4, zad qa qb) (g0 37) 37) H := hP 32 _ rfl
  have h38 : va_at D vwCl (zad qa qb 38, zer (D, C4, zad qa qb) (g0 38) 38) H := hP 33 _ rfl
  have h39 : va_at D vwCl (zad qa qb 39, zer (D, C4, zad qa qb) (g0 39) 39) H := hP 34 _ rfl
  have h40 : va_at D vwCl (zad qa qb 40, zer (D, C4, zad qa qb) (g0 40) 40) H := hP 35 _ rfl
  have h41 : va_at D vwCl (zad qa qb 41, zer (D, C4, zad qa qb) (g0 41) 41) H := hP 36 _ rfl
  have h42 : va_at D vwCl (zad qa qb 42, zer (D, C4, zad qa qb) (g0 42) 42) H := hP 37 _ rfl
  have h43 : va_at D vwCl (zad qa qb 43, zer (D, C4, zad qa qb) (g0 43) 43) H := hP 38 _ rfl
  have h44 : va_at D vwCl (zad qa qb 44, zer (D, C4, zad qa qb) (g0 44) 44) H := hP 39 _ rfl
  have h45 : va_at D vwCl (zad qa qb 45, zer (D, C4, zad qa qb) (g0 45) 45) H := hP 40 _ rfl
  have h46 : va_at D vwCl (zad qa qb 46, zer (D, C4, zad qa qb) (g0 46) 46) H := hP 41 _ rfl
  have h47 : va_at D vwCl (zad qa qb 47, zer (D, C4, zad qa qb) (g0 47) 47) H := hP 42 _ rfl
  have h48 : va_at D vwCl (zad qa qb 48, zer (D, C4, zad qa qb) (g0 48) 48) H := hP 43 _ rfl
  have h49 : va_at D vwCl (zad qa qb 49, zer (D, C4, zad qa qb) (g0 49) 49) H := hP 44 _ rfl
  have h50 : va_at D vwCl (zad qa qb 50, zer (D, C4, zad qa qb) (g0 50) 50) H := hP 45 _ rfl
  have h51 : va_at D vwCl (zad qa qb 51, zer (D, C4, zad qa qb) (g0 51) 51) H := hP 46 _ rfl
  have h52 : va_at D vwCl (zad qa qb 52, zer (D, C4, zad qa qb) (g0 52) 52) H := hP 47 _ rfl
  have h53 : va_at D vwCl (zad qa qb 53, zer (D, C4, zad qa qb) (g0 53) 53) H := hP 48 _ rfl
  have h54 : va_at D vwCl (zad qa qb 54, zer (D, C4, zad qa qb) (g0 54) 54) H := hP 49 _ rfl
  have h55 : va_at D vwCl (zad qa qb 55, zer (D, C4, zad qa qb) (g0 55) 55) H := hP 50 _ rfl
  have h56 : va_at D vwCl (zad qa qb 56, zer (D, C4, zad qa qb) (g0 56) 56) H := hP 51 _ rfl
  have h57 : va_at D vwCl (zad qa qb 57, zer (D, C4, zad qa qb) (g0 57) 57) H := hP 52 _ rfl
  have h58 : va_at D vwCl (zad qa qb 58, zer (D, C4, zad qa qb) (g0 58) 58) H := hP 53 _ rfl
  have h59 : va_at D vwCl (zad qa qb 59, zer (D, C4, zad qa qb) (g0 59) 59) H := hP 54 _ rfl
  have h60 : va_at D vwCl (zad qa qb 60, zer (D, C4, zad qa qb) (g0 60) 60) H := hP 55 _ rfl
  have h61 : va_at D vwCl (zad qa qb 61, zer (D, C4, zad qa qb) (g0 61) 61) H := hP 56 _ rfl
  have h62 : va_at D vwCl (zad qa qb 62, zer (D, C4, zad qa qb) (g0 62) 62) H := hP 57 _ rfl
  have h63 : va_at D vwCl (zad qa qb 63, zer (D, C4, zad qa qb) (g0 63) 63) H := hP 58 _ rfl
  intro k hk
  rcases zpeel hk with hk | rfl
  rotate_left 1
  · exact ⟨⟨_, rfl⟩, h63⟩
  rcases zpeel hk with hk | rfl
  rotate_left 1
  · exact ⟨⟨_, rfl⟩, h62⟩
  rcases zpeel hk with hk | rfl
  rotate_left 1
  · exact ⟨⟨_, rfl⟩, h61⟩
  rcases zpeel hk with hk | rfl
  rotate_left 1
  · exact ⟨⟨_, rfl⟩, h60⟩
  rcases zpeel hk with hk | rfl
  rotate_left 1
  · exact ⟨⟨_, rfl⟩, h59⟩
  rcases zpeel hk with hk | rfl
  rotate_left 1
  · exact ⟨⟨_, rfl⟩, h58⟩
  rcases zpeel hk with hk | rfl
  rotate_left 1
  · exact ⟨⟨_, rfl⟩, h57⟩
  rcases zpeel hk with hk | rfl
  rotate_left 1
  · exact ⟨⟨_, rfl⟩, h56⟩
  rcases zpeel hk with hk | rfl
  rotate_left 1
  · exact ⟨⟨_, rfl⟩, h55⟩
  rcases zpeel hk with hk | rfl
  rotate_left 1
  · exact ⟨⟨_, rfl⟩, h54⟩
  rcases zpeel hk with hk | rfl
  rotate_left 1
  · exact ⟨⟨_, rfl⟩, h53⟩
  rcases zpeel hk with hk | rfl
  rotate_left 1
  · exact ⟨⟨_, rfl⟩, h52⟩
  rcases zpeel hk with hk | rfl
  rotate_left 1
  · exact ⟨⟨_, rfl⟩, h51⟩
  rcases zpeel hk with hk | rfl
  rotate_left 1
  · exact ⟨⟨_, rfl⟩, h50⟩
  rcases zpeel hk with hk | rfl
  rotate_left 1
  · exact ⟨⟨_, rfl⟩, h49⟩
  rcases zpeel hk with hk | rfl
  rotate_left 1
  · exact ⟨⟨_, rfl⟩, h48⟩
  rcases zpeel hk with hk | rfl
  rotate_left 1
  · exact ⟨⟨_, rfl⟩, h47⟩
  rcases zpeel hk with hk | rfl
  rotate_left 1
  · exact ⟨⟨_, rfl⟩, h46⟩
  rcases zpeel hk with hk | rfl
  rotate_left 1
  · exact ⟨⟨_, rfl⟩, h45⟩
  rcases zpeel hk with hk | rfl
  rotate_left 1
  · exact ⟨⟨_, rfl⟩, h44⟩
  rcases zpeel hk with hk | rfl
  rotate_left 1
  · exact ⟨⟨_, rfl⟩, h43⟩
  rcases zpeel hk with hk | rfl
  rotate_left 1
  · exact ⟨⟨_, rfl⟩, h42⟩
  rcases zpeel hk with hk | rfl
  rotate_left 1
  · exact ⟨⟨_, rfl⟩, h41⟩
  rcases zpeel hk with hk | rfl
  rotate_left 1
  · exact ⟨⟨_, rfl⟩, h40⟩
  rcases zpeel hk with hk | rfl
  rotate_left 1
  · exact ⟨⟨_, rfl⟩, h39⟩
  rcases zpeel hk with hk | rfl
  rotate_left 1
  · exact ⟨⟨_, rfl⟩, h38⟩
  rcases zpeel hk with hk | rfl
  rotate_left 1
  · exact ⟨⟨_, rfl⟩, h37⟩
  rcases zpeel hk with hk | rfl
  rotate_left 1
  · exact ⟨⟨_, rfl⟩, h36⟩
  rcases zpeel hk with hk | rfl
  rotate_left 1
  · exact ⟨⟨_, rfl⟩, h35⟩
  rcases zpeel hk with hk | rfl
  rotate_left 1
  · exact ⟨⟨_, rfl⟩, h34⟩
  rcases zpeel hk with hk | rfl
  rotate_left 1
  · exact ⟨⟨_, rfl⟩, h33⟩
  rcases zpeel hk with hk | rfl
  rotate_left 1
  · exact ⟨⟨_, rfl⟩, h32⟩
  rcases zpeel hk with hk | rfl
  rotate_left 1
  · exact ⟨⟨_, rfl⟩, h31⟩
  rcases zpeel hk with hk | rfl
  rotate_left 1
  · exact ⟨⟨_, rfl⟩, h30⟩
  rcases zpeel hk with hk | rfl
  rotate_left 1
  · exact ⟨⟨_, rfl⟩, h29⟩
  rcases zpeel hk with hk | rfl
  rotate_left 1
  · exact ⟨⟨_, rfl⟩, h28⟩
  rcases zpeel hk with hk | rfl
  rotate_left 1
  · exact ⟨⟨_, rfl⟩, h27⟩
  rcases zpeel hk with hk | rfl
  rotate_left 1
  · exact ⟨⟨_, rfl⟩, h26⟩
  rcases zpeel hk with hk | rfl
  rotate_left 1
  · exact ⟨⟨_, rfl⟩, h25⟩
  rcases zpeel hk with hk | rfl
  rotate_left 1
  · exact ⟨⟨_, rfl⟩, h24⟩
  rcases zpeel hk with hk | rfl
  rotate_left 1
  · exact ⟨⟨_, rfl⟩, h23⟩
  rcases zpeel hk with hk | rfl
  rotate_left 1
  · exact ⟨⟨_, rfl⟩, h22⟩
  rcases zpeel hk with hk | rfl
  rotate_left 1
  · exact ⟨⟨_, rfl⟩, h21⟩
  rcases zpeel hk with hk | rfl
  rotate_left 1
  · exact ⟨⟨_, rfl⟩, h20⟩
  rcases zpeel hk with hk | rfl
  rotate_left 1
  · exact ⟨⟨_, rfl⟩, h19⟩
  rcases zpeel hk with hk | rfl
  rotate_left 1
  · exact ⟨⟨_, rfl⟩, h18⟩
  rcases zpeel hk with hk | rfl
  rotate_left 1
  · exact ⟨⟨_, rfl⟩, h17⟩
  rcases zpeel hk with hk | rfl
  rotate_left 1
  · exact ⟨⟨_, rfl⟩, h16⟩
  rcases zpeel hk with hk | rfl
  rotate_left 1
  · exact ⟨⟨_, rfl⟩, h15⟩
  rcases zpeel hk with hk | rfl
  rotate_left 1
  · exact ⟨⟨_, rfl⟩, h14⟩
  rcases zpeel hk with hk | rfl
  rotate_left 1
  · exact ⟨⟨_, rfl⟩, h13⟩
  rcases zpeel hk with hk | rfl
  rotate_left 1
  · exact ⟨⟨_, rfl⟩, h12⟩
  rcases zpeel hk with hk | rfl
  rotate_left 1
  · exact ⟨⟨_, rfl⟩, h11⟩
  rcases zpeel hk with hk | rfl
  rotate_left 1
  · exact ⟨⟨_, rfl⟩, h10⟩
  rcases zpeel hk with hk | rfl
  rotate_left 1
  · exact ⟨⟨_, rfl⟩, h9⟩
  rcases zpeel hk with hk | rfl
  rotate_left 1
  · exact ⟨⟨_, rfl⟩, h8⟩
  rcases zpeel hk with hk | rfl
  rotate_left 1
  · exact ⟨⟨_, rfl⟩, h7⟩
  rcases zpeel hk with hk | rfl
  rotate_left 1
  · exact ⟨⟨_, rfl⟩, h6⟩
  rcases zpeel hk with hk | rfl
  rotate_left 1
  · exact ⟨⟨_, rfl⟩, h5⟩
  rcases zpeel hk with hk | rfl
  rotate_left 1
  · exact ⟨⟨_, rfl⟩, h4⟩
  rcases zpeel hk with hk | rfl
  rotate_left 1
  · exact ⟨⟨_, rfl⟩, h3⟩
  rcases zpeel hk with hk | rfl
  rotate_left 1
  · exact ⟨⟨_, rfl⟩, h2⟩
  rcases zpeel hk with hk | rfl
  rotate_left 1
  · exact ⟨⟨_, rfl⟩, h1⟩
  rcases zpeel hk with hk | rfl
  rotate_left 1
  · exact ⟨⟨_, rfl⟩, h0⟩
  omega
theorem zpi_inj {i j : Nat} (hi : i < 64) (hj : j < 64) (h : zpi i = zpi j) : i = j := by
  unfold zpi at h
  split at h <;> split at h <;> (try split at h) <;> (try split at h) <;> (try split at h) <;> (try split at h) <;> (try split at h) <;> (try split at h) <;> (try split at h) <;> (try split at h) <;> omega
/-- the first memory, with the script's row -/
def gs (sr : Int → Int) : zM := fun k => if k = 72 then sr else g0 k
theorem z_inj {D : va_G} {C4 : zC4} {qa : Nat → Nat} {qb : Nat} {H : Heap} {A : Nat → Prop} (sr : Int → Int) (hP : va_P D vwCl (zL0 C4 qa) H) (hD : va_D A (zL0 C4 qa)) : zinj (D, C4, zad qa qb) ∧ (∀ q, zA (D, C4, zad qa qb) q → A q) ∧ va_P D vwCl (zws (D, C4, zad qa qb) (gs sr)) H := by
  refine ⟨fun i j hi hj h => ?_, fun q hq => ?_, fun k q hq => ?_⟩
  · obtain ⟨⟨e1, h1⟩, -⟩ := z_cells hP i hi
    obtain ⟨⟨e2, h2⟩, -⟩ := z_cells hP j hj
    exact zpi_inj hi hj (hD.1 _ _ _ _ h1 h2 h)
  · obtain ⟨k, hk, rfl⟩ := hq
    obtain ⟨⟨e1, h1⟩, -⟩ := z_cells hP k hk
    exact hD.2 _ _ h1
  · obtain ⟨hk, rfl⟩ := zws_of hq
    have e : gs sr k = g0 k := if_neg (show ¬ k = 72 from fun w => absurd (show k < 64 from hk) (by omega))
    rw [e]
    exact (z_cells hP k hk).2
theorem yK0 (sr : Int → Int) : yK (gs sr) (g0 65) 0 0 0 := by
  refine ⟨?_, ?_, ⟨fun _ => g0 65, 0, ⟨rfl, by omega⟩, ⟨rfl, by omega⟩, fun i hi => absurd hi (by omega)⟩, rfl⟩
  · refine minw0 ⟨rfl, by omega, ⟨?_, ?_⟩, fun t ht => absurd ht (by omega)⟩ (fun t ht => absurd ht (by omega)) ⟨?_, ?_⟩ ⟨?_, ?_⟩ rfl rfl rfl rfl rfl
    · show (0 : Int) ≤ 30; omega
    · show (30 : Int) ≤ 200; omega
    · show (0 : Int) ≤ 0; omega
    · show (0 : Int) ≤ 2; omega
    · show (0 : Int) ≤ 0; omega
    · show (0 : Int) ≤ 2; omega
  · exact ⟨⟨rfl, rfl, fun t ht => absurd ht (by omega)⟩, ⟨rfl, fun k hk => absurd hk (by omega)⟩, rfl, rfl, rfl, rfl, rfl⟩
