/-! what a text says: bars, a thing, all of it -/
def mbr (ch : Int → Int) (L : Nat) : Nat → Nat → Nat → Bool × Nat × Nat
  | 0, p, b => (true, b, p)
  | f + 1, p, b => if p < L ∧ ch p = 33 then (if (mnum ch L 0 10 (L - (p + 1)) (p + 1) (-5)).1 = -5 then (false, b, (mnum ch L 0 10 (L - (p + 1)) (p + 1) (-5)).2) else mbr ch L f (mnum ch L 0 10 (L - (p + 1)) (p + 1) (-5)).2 (b ||| 2 ^ (mnum ch L 0 10 (L - (p + 1)) (p + 1) (-5)).1.toNat)) else (true, b, p)
abbrev zT : Type := Int × Int × Nat
def mp4 (w v : Int) (z : Bool × Nat × Nat) : Bool × zT × Nat := (z.1, (w, v, z.2.1), z.2.2)
def mp3 (ch : Int → Int) (L : Nat) (w : Int) (y : Int × Nat) : Bool × zT × Nat := if y.1 = -5 then (false, (0, 0, 0), y.2) else mp4 w y.1 (mbr ch L (L - y.2) y.2 0)
def mp2 (ch : Int → Int) (L : Nat) (x : Int × Nat) : Bool × zT × Nat := if x.1 = -5 then (false, (0, 0, 0), x.2) else if x.2 < L ∧ ch x.2 = 47 then mp3 ch L x.1 (mnum ch L 1 50 (L - (x.2 + 1)) (x.2 + 1) (-5)) else (false, (0, 0, 0), x.2)
def mpt (ch : Int → Int) (L p : Nat) : Bool × zT × Nat := mp2 ch L (mnum ch L 1 99 (L - p) p (-5))
def zTu (T : Nat → zT) (k : Nat) (x : zT) : Nat → zT := fun i => if i = k then x else T i
theorem zTu_s {T : Nat → zT} {k : Nat} {x : zT} : zTu T k x k = x := by simp [zTu]
theorem zTu_n {T : Nat → zT} {k i : Nat} {x : zT} (h : i ≠ k) : zTu T k x i = T i := by simp [zTu, h]
def mtx (ch : Int → Int) (L : Nat) : Nat → Nat → Nat → (Nat → zT) → Bool × Nat × (Nat → zT) × Nat
  | 0, p, k, T => (false, k, T, p)
  | f + 1, p, k, T => if (mpt ch L p).1 = false then (false, k, T, (mpt ch L p).2.2) else if (mpt ch L p).2.2 < L ∧ ch (mpt ch L p).2.2 = 59 then mtx ch L f ((mpt ch L p).2.2 + 1) (k + 1) (zTu T k (mpt ch L p).2.1) else (true, k + 1, zTu T k (mpt ch L p).2.1, (mpt ch L p).2.2)
theorem zft {P : Prop} (h : false = true) : P := Bool.noConfusion h
/-- a thing within the bounds -/
def mtok (x : zT) : Prop := (1 ≤ x.1 ∧ x.1 ≤ 99) ∧ (1 ≤ x.2.1 ∧ x.2.1 ≤ 50) ∧ x.2.2 < 2 ^ 11
theorem mnum_rng {ch : Int → Int} {L : Nat} {a b : Int} (ha : 0 ≤ a) : ∀ (f p : Nat) (acc : Int), p + f = L → (acc = -5 ∨ (a ≤ acc ∧ acc ≤ b)) → (p ≤ (mnum ch L a b f p acc).2 ∧ (mnum ch L a b f p acc).2 ≤ L) ∧ ((mnum ch L a b f p acc).1 = -5 → acc = -5 ∧ (mnum ch L a b f p acc).2 = p) ∧ ((mnum ch L a b f p acc).1 ≠ -5 → (a ≤ (mnum ch L a b f p acc).1 ∧ (mnum ch L a b f p acc).1 ≤ b) ∧ (acc = -5 → p + 1 ≤ (mnum ch L a b f p acc).2)) := by
  intro f
  induction f with
  | zero =>
    intro p acc hf hacc
    rw [mnum]
    refine ⟨⟨Nat.le_refl _, by omega⟩, fun h => ⟨h, rfl⟩, fun h => ⟨by have h : acc ≠ -5 := h; omega, fun w => absurd w h⟩⟩
  | succ f ih =>
    intro p acc hf hacc
    rw [mnum]
    by_cases h : (p < L ∧ acc ≠ 0) ∧ (0 ≤ ch p - 48 ∧ ch p - 48 ≤ 9) ∧ a ≤ (if acc = -5 then ch p - 48 else acc * 10 + (ch p - 48)) ∧ (if acc = -5 then ch p - 48 else acc * 10 + (ch p - 48)) ≤ b
    · rw [if_pos h]
      obtain ⟨h1, h2, h3⟩ := ih (p + 1) _ (by omega) (Or.inr h.2.2)
      refine ⟨⟨by omega, h1.2⟩, fun w => ?_, fun w => ⟨(h3 w).1, fun _ => h1.1⟩⟩
      have := (h2 w).1
      omega
    · rw [if_neg h]
      refine ⟨⟨Nat.le_refl _, by omega⟩, fun h => ⟨h, rfl⟩, fun h => ⟨by have h : acc ≠ -5 := h; omega, fun w => absurd w h⟩⟩
theorem nu_rng {ch : Int → Int} {L p : Nat} {a b : Int} (ha : 0 ≤ a) (hp : p ≤ L) : (p ≤ (mnum ch L a b (L - p) p (-5)).2 ∧ (mnum ch L a b (L - p) p (-5)).2 ≤ L) ∧ ((mnum ch L a b (L - p) p (-5)).1 = -5 → (mnum ch L a b (L - p) p (-5)).2 = p) ∧ ((mnum ch L a b (L - p) p (-5)).1 ≠ -5 → (a ≤ (mnum ch L a b (L - p) p (-5)).1 ∧ (mnum ch L a b (L - p) p (-5)).1 ≤ b) ∧ p + 1 ≤ (mnum ch L a b (L - p) p (-5)).2) := by
  obtain ⟨h1, h2, h3⟩ := mnum_rng (ch := ch) (L := L) (a := a) (b := b) ha (L - p) p (-5) (by omega) (Or.inl rfl)
  exact ⟨h1, fun w => (h2 w).2, fun w => ⟨(h3 w).1, (h3 w).2 rfl⟩⟩
theorem mbr_rng {ch : Int → Int} {L : Nat} : ∀ (f p b : Nat), p ≤ L → L ≤ p + f → b < 2 ^ 11 → (p ≤ (mbr ch L f p b).2.2 ∧ (mbr ch L f p b).2.2 ≤ L) ∧ (mbr ch L f p b).2.1 < 2 ^ 11 := by
  intro f
  induction f with
  | zero => intro p b hp hf hb; rw [mbr]; exact ⟨⟨Nat.le_refl _, hp⟩, hb⟩
  | succ f ih =>
    intro p b hp hf hb
    rw [mbr]
    by_cases h : p < L ∧ ch p = 33
    · rw [if_pos h]
      obtain ⟨h1, h2, h3⟩ := nu_rng (ch := ch) (L := L) (p := p + 1) (a := 0) (b := 10) (by omega) (by omega)
      generalize mnum ch L 0 10 (L - (p + 1)) (p + 1) (-5) = x at *
      by_cases h4 : x.1 = -5
      · rw [if_pos h4]; exact ⟨⟨show p ≤ x.2 by omega, h1.2⟩, hb⟩
      · rw [if_neg h4]
        have h5 := h3 h4
        have hb2 : b ||| 2 ^ x.1.toNat < 2 ^ 11 := Nat.or_lt_two_pow hb (Nat.pow_lt_pow_right (by decide) (by omega))
        obtain ⟨i1, i2⟩ := ih x.2 _ h1.2 (by omega) hb2
        exact ⟨⟨by omega, i1.2⟩, i2⟩
    · rw [if_neg h]; exact ⟨⟨Nat.le_refl _, hp⟩, hb⟩
theorem mpt_rng {ch : Int → Int} {L p : Nat} (hp : p ≤ L) : (mpt ch L p).2.2 ≤ L ∧ ((mpt ch L p).1 = true → mtok (mpt ch L p).2.1 ∧ p + 3 ≤ (mpt ch L p).2.2) := by
  unfold mpt mp2
  obtain ⟨h1, h2, h3⟩ := nu_rng (ch := ch) (L := L) (p := p) (a := 1) (b := 99) (by omega) hp
  generalize mnum ch L 1 99 (L - p) p (-5) = x at *
  by_cases h4 : x.1 = -5
  · rw [if_pos h4]; exact ⟨h1.2, fun w => zft w⟩
  · rw [if_neg h4]
    by_cases h5 : x.2 < L ∧ ch x.2 = 47
    · rw [if_pos h5]
      unfold mp3
      obtain ⟨g1, g2, g3⟩ := nu_rng (ch := ch) (L := L) (p := x.2 + 1) (a := 1) (b := 50) (by omega) (by omega)
      generalize mnum ch L 1 50 (L - (x.2 + 1)) (x.2 + 1) (-5) = y at *
      by_cases h6 : y.1 = -5
      · rw [if_pos h6]; exact ⟨g1.2, fun w => zft w⟩
      · rw [if_neg h6]
        obtain ⟨i1, i2⟩ := mbr_rng (ch := ch) (L := L) (L - y.2) y.2 0 g1.2 (by omega) (by omega)
        have h7 := h3 h4
        have h8 := g3 h6
        exact ⟨i1.2, fun _ => ⟨⟨h7.1, h8.1, i2⟩, show p + 3 ≤ (mbr ch L (L - y.2) y.2 0).2.2 by omega⟩⟩
    · rw [if_neg h5]; exact ⟨h1.2, fun w => zft w⟩
theorem mtx_rng {ch : Int → Int} {L : Nat} : ∀ (f p k : Nat) (T : Nat → zT), p ≤ L → L < p + f → 4 * k ≤ p → (∀ i, i < k → mtok (T i)) → (mtx ch L f p k T).2.2.2 ≤ L ∧ ((mtx ch L f p k T).1 = true → (∀ i, i < (mtx ch L f p k T).2.1 → mtok ((mtx ch L f p k T).2.2.1 i)) ∧ 4 * (mtx ch L f p k T).2.1 ≤ L + 1) := by
  intro f
  induction f with
  | zero => intro p k T hp hf _ _; exact absurd hf (by omega)
  | succ f ih =>
    intro p k T hp hf hk hT
    rw [mtx]
    obtain ⟨h1, h2⟩ := mpt_rng (ch := ch) (L := L) (p := p) hp
    generalize mpt ch L p = x at *
    by_cases h3 : x.1 = false
    · rw [if_pos h3]; exact ⟨h1, fun w => zft w⟩
    · rw [if_neg h3]
      obtain ⟨h4, h5⟩ := h2 (by simpa using h3)
      have hT2 : ∀ i, i < k + 1 → mtok (zTu T k x.2.1 i) := by
        intro i hi
        by_cases c : i = k
        · rw [c, zTu_s]; exact h4
        · rw [zTu_n c]; exact hT i (by omega)
      by_cases h6 : x.2.2 < L ∧ ch x.2.2 = 59
      · rw [if_pos h6]
        exact ih (x.2.2 + 1) (k + 1) _ (by omega) (by omega) (by omega) hT2
      · rw [if_neg h6]
        exact ⟨h1, fun _ => ⟨hT2, show 4 * (k + 1) ≤ L + 1 by omega⟩⟩
/-! the signs, again, with the frame -/
def FrC (g g' : zM) : Prop := (∀ j, j ≠ 3 → g' j = g j) ∧ ∀ j : Int, j ≠ 6 → g' 3 j = g 3 j
def FrM (g g' : zM) : Prop := (∀ j, j ≠ 64 → g' j = g j) ∧ ∀ j : Int, j ≠ 8 → j ≠ 9 → g' 64 j = g 64 j
theorem FrC.trans {g g' g'' : zM} (h : FrC g g') (h' : FrC g' g'') : FrC g g'' := ⟨fun j hj => by rw [h'.1 j hj, h.1 j hj], fun j hj => by rw [h'.2 j hj, h.2 j hj]⟩
theorem FrM.trans {g g' g'' : zM} (h : FrM g g') (h' : FrM g' g'') : FrM g g'' := ⟨fun j hj => by rw [h'.1 j hj, h.1 j hj], fun j hj hj' => by rw [h'.2 j hj hj', h.2 j hj hj']⟩
theorem FrC.rf {g : zM} : FrC g g := ⟨fun _ _ => rfl, fun _ _ => rfl⟩
theorem FrM.rf {g : zM} : FrM g g := ⟨fun _ _ => rfl, fun _ _ _ => rfl⟩
theorem AtC.at {g g' : zM} {L p q : Nat} (h : AtC g L p) (hf : FrC g g') (h6 : g' 3 (6 : Nat) = (q : Int)) (hq : q ≤ L) : AtC g' L q := by
  obtain ⟨t1, t2, hpl, hL, hcs⟩ := h
  exact ⟨by rw [hf.2 _ (by omega)]; exact t1, h6, hq, hL, by rw [hf.1 4 (by omega)]; exact hcs⟩
theorem AtM.at {g g' : zM} {L p q : Nat} (h : AtM g L p) (hf : FrM g g') (h8 : g' 64 (8 : Nat) = (q : Int)) (hq : q ≤ L) : AtM g' L q := by
  obtain ⟨t1, t2, hpl, hL, hcs⟩ := h
  exact ⟨by rw [hf.2 _ (by omega) (by omega)]; exact t1, h8, hq, hL, by rw [hf.1 69 (by omega)]; exact hcs⟩
section PSP
variable {g : zM} {d : Nat} {Q : zP}
theorem c_num {ch : Int → Int} {L p : Nat} {a b : Int} (hc : g 4 = ch) (hA : AtC g L p) (hl : 0 ≤ a) (hlm : a ≤ 99) (hm : 0 ≤ b ∧ b ≤ 99) (hQ : ∀ g' : zM, FrC g g' → AtC g' L (mnum ch L a b (L - p) p (-5)).2 → Q (some (zI (mnum ch L a b (L - p) p (-5)).1)) g') : zC (d + 2) 51 [zR 3, zI a, zI b] g Q := by
  subst hc
  exact c_takeNumber hA hl hlm hm (fun g' h1 h2 h3 => hQ g' ⟨h1, h2⟩ (hA.at ⟨h1, h2⟩ h3 (nu_rng hl hA.2.2.1).1.2))
theorem c_tk {ch : Int → Int} {L p : Nat} {c : Int} (hc : g 4 = ch) (hA : AtC g L p) (hch : 0 ≤ c ∧ c < 65536) (hQ1 : p < L → ch p = c → ∀ g' : zM, FrC g g' → AtC g' L (p + 1) → Q (some (zI 1)) g') (hQ0 : ¬ (p < L ∧ ch p = c) → Q (some (zI 0)) g) : zC (d + 2) 50 [zR 3, zI c] g Q := by
  subst hc
  refine c_take hA hch (fun h1 h2 => ?_) hQ0
  have hf : FrC g (zup g 3 (6 : Nat) (p + 1)) := ⟨fun j hj => zup_ne hj, fun j hj => zup_i hj⟩
  exact hQ1 h1 h2 _ hf (hA.at hf (by rw [zup_s]; rfl) (by omega))
theorem m_num {ch : Int → Int} {L p : Nat} {a b : Int} (hc : g 69 = ch) (hA : AtM g L p) (hl : 0 ≤ a ∧ a ≤ 9) (hm : 9 ≤ b ∧ b ≤ 99) (hQ0 : (mnum ch L a b (L - p) p (-5)).1 = -5 → AtM g L (mnum ch L a b (L - p) p (-5)).2 → Q (some (zI 0)) g) (hQ : (mnum ch L a b (L - p) p (-5)).1 ≠ -5 → ∀ g' : zM, FrM g g' → AtM g' L (mnum ch L a b (L - p) p (-5)).2 → g' 64 (9 : Nat) = (mnum ch L a b (L - p) p (-5)).1 → Q (some (zI 1)) g') : zC (d + 3) 134 [zR 64, zI a, zI b] g Q := by
  subst hc
  refine m_isNumber hA hl hm (fun h => hQ0 (by rw [h]) (by rw [h]; exact hA)) (fun h0 g' h1 h2 h3 h4 => hQ (by omega) g' ⟨h1, h2⟩ (hA.at ⟨h1, h2⟩ h3 (nu_rng hl.1 hA.2.2.1).1.2) h4)
theorem m_tk {ch : Int → Int} {L p : Nat} {c : Int} (hc : g 69 = ch) (hA : AtM g L p) (hch : 0 ≤ c ∧ c < 65536) (hQ1 : p < L → ch p = c → Q (some (zI 1)) g) (hQ0 : ¬ (p < L ∧ ch p = c) → Q (some (zI 0)) g) : zC (d + 2) 133 [zR 64, zI c, zI c] g Q := by
  subst hc
  exact m_isAt hA (by omega) (by omega) (fun h1 h2 h3 => hQ1 h1 (by omega)) (fun h => hQ0 (fun w => h ⟨w.1, by omega, by omega⟩))
theorem AtM.step {g : zM} {L p : Nat} (h : AtM g L p) (hp : p < L) : FrM g (zup g 64 (8 : Nat) (p + 1)) ∧ AtM (zup g 64 (8 : Nat) (p + 1)) L (p + 1) := by
  have hf : FrM g (zup g 64 (8 : Nat) (p + 1)) := ⟨fun j hj => zup_ne hj, fun j hj _ => zup_i hj⟩
  exact ⟨hf, h.at hf (by rw [zup_s]; rfl) (by omega)⟩
theorem s_putq {a n : Nat} {i v : Int} (hk : zkd a = (1, n)) (hn : n < 100000) (h0 : 0 ≤ i) (hi : zin i) (hQ : ∀ g' : zM, (∀ j, j ≠ a → g' j = g j) → (∀ j : Int, j ≠ i → g' a j = g a j) → (i < n → g' a i = v) → Q none g') : zC (d + 1) 84 [zR a, zI i, zI v] g Q := by
  by_cases h1 : i < n
  · exact s_put hk hn h0 h1 (hQ _ (fun j hj => zup_ne hj) (fun j hj => zup_i hj) (fun _ => zup_s))
  · have q := hQ g (fun _ _ => rfl) (fun _ _ => rfl) (fun w => absurd w h1)
    refine zC.go zm_X5_put ⟨rfl, rfl⟩ rfl ?_
    have hk1 : (zkd a).1 = 1 := by rw [hk]
    have hk2 : (zkd a).2 = n := by rw [hk]
    (refine zW.go (zC_om _) (fun K hK => ?_); conv => whnf)
    (repeat' first | (refine hK _ _ _ _ (zW.go (zC_om _) (fun K hK => ?_)); conv => whnf) | (refine And.intro (by first | omega | assumption | rfl | exact zin_and | exact ⟨zin_and, by omega⟩ | exact ⟨by omega, zin_and⟩ | exact Nat.le_of_ble_eq_true rfl | exact ⟨Nat.le_of_ble_eq_true rfl, rfl⟩ | exact ⟨Nat.le_of_ble_eq_true rfl, by assumption⟩ | exact ⟨by omega, Nat.le_of_ble_eq_true rfl⟩ | exact ⟨⟨by assumption, by omega⟩, Nat.le_of_ble_eq_true rfl⟩ | decide) ?_; conv => whnf) | (refine And.intro (fun h => ?_) (fun h => ?_) <;> conv => whnf) | (intro h; conv => whnf))
    all_goals first | exact q | omega
end PSP
