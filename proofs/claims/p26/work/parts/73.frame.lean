/-! the frame of a method: what its rows need -/
def zTs : List Cond := lw_tbl.filter goodWord
theorem zgw_spec {i : Nat} {w : Cond} (h : zgw i w = true) : w ∈ zTs := by
  unfold zgw at h
  rw [Bool.and_eq_true, decide_eq_true_eq] at h
  exact List.mem_filter.mpr ⟨List.mem_of_getElem? h.1, h.2⟩
def zNest (U : State) : Prop := ∀ w ∈ lw_tbl, zisN w = true → va_Nw w U
theorem zNest.moved {s U : State} (hW : s.WarmedH U.vm) (h : zNest s) : zNest U := by
  intro w hw hn
  cases w <;> first | exact va_Nw.warmM hW (h _ hw rfl) | exact Bool.noConfusion hn
theorem zNest.same {s U : State} (hW : s.vm = U.vm) (h : zNest s) : zNest U := by
  intro w hw hn
  cases w <;> first | exact va_Nw.same rfl hW (h _ hw rfl) | exact Bool.noConfusion hn
def zB (Z : zG) (sr : Int → Int) (g : zM) (U : State) : Prop := va_P Z.1 vwCl (zws Z g) U.heap ∧ va_K Z.1 vwCl (zty Z) U ∧ zNest U ∧ (ySc (Z.2.2 72) sr U U.heap ∧ ¬ zA Z (Z.2.2 72)) ∧ g 72 = sr
def zPc (Z : zG) (sr : Int → Int) (as : List zV) (g : zM) : Array Value → State → Prop := va_Pc (as.map (zv Z.2.2)) (zB Z sr g)
def zQc (Z : zG) (sr : Int → Int) (Q : zP) : Array Value → State → Outcome → State → Prop := fun _ st oc t => (∃ (o : Option zV) (g' : zM), oc = .returned (o.map (zv Z.2.2)) ∧ Q o g' ∧ va_P Z.1 vwCl (zws Z g') t.heap ∧ g' 72 = sr) ∧ va_F (zA Z) st t
def zrm (d : Nat) : Room := { frames := d, cells := 0, slots := 0, locals := 60 * d }
def zwd (y : MethodName) (cc : ByteArray) (ml : Nat) (ret : Option FieldType) : List Cond := .code y cc ml ret :: zTs
theorem zPc_blind (Z : zG) (sr : Int → Int) (as : List zV) (g : zM) : FrameBlind (zPc Z sr as g) := fun a U gf mk q => ⟨q.1, q.2.1, va_K.moved (u := U) (U := U.calling gf mk a) (Vm.Alike.refl U.vm) q.2.2.1, zNest.same (s := U) (U := U.calling gf mk a) rfl q.2.2.2.1, ⟨by
  obtain ⟨L, xs, h1, h2, h3⟩ := q.2.2.2.2.1.1
  exact ⟨L, xs, h1, va_X.moved (u := U) (U := U.calling gf mk a) (Vm.Alike.refl U.vm) h2, h3⟩, q.2.2.2.2.1.2⟩, q.2.2.2.2.2⟩
def yRm (R : Room) (d cells slots : Nat) : Prop := d + 1 ≤ R.frames ∧ 60 * (d + 1) ≤ R.locals ∧ cells ≤ R.cells ∧ slots ≤ R.slots
def zFr (p : Program) (s : State) (m : MethodId) (args : Array Value) (c : Code) (cc : ByteArray) (own : String) (nL : Nat) (Z : zG) (A0 : Nat → Prop) (sr : Int → Int) (H0 : Heap) (R : Room) (d cells slots : Nat) : Prop :=
  p.tables.exec = Jvm.exec ∧ c.code = cc ∧ c.maxLocals = nL ∧ s.vm.findClass own = some m.cls ∧ (∀ w ∈ zTs, w.before args s = true) ∧ (va_K Z.1 vwCl (zty Z) s ∧ zNest s) ∧ zinj Z ∧ (∀ q, zA Z q → A0 q) ∧ yRm R d cells slots ∧ ySc (Z.2.2 72) sr s H0 ∧ ¬ A0 (Z.2.2 72)
def zWd (Z : zG) (sr : Int → Int) (A0 : Nat → Prop) (H0 : Heap) (g : zM) (H : Heap) (locs : List Loc) : Prop := va_P Z.1 vwCl (zws Z g) H ∧ va_S A0 H0 H locs ∧ g 72 = sr
theorem zkd_small : ∀ k, k < 64 → (ykd k).1 ≤ 4 ∧ (ykd k).2 ≤ 11380 := by decide +kernel
theorem zkd_big {k : Nat} (h : 64 ≤ k) : ykd k = (9, 0) := by
  unfold ykd
  rw [if_neg (by omega)]
theorem zkd_lt {k : Nat} (h : (ykd k).1 ≤ 4) : k < zNC := by
  rcases Nat.lt_or_ge k 64 with h1 | h1
  · exact h1
  · rw [zkd_big h1] at h
    exact absurd h (by decide)
theorem zkd_n (k : Nat) : (ykd k).2 ≤ 11380 := by
  rcases Nat.lt_or_ge k 64 with h1 | h1
  · exact (zkd_small k h1).2
  · rw [zkd_big h1]; decide
theorem zcl (ci : Nat) (q : vw_C) (h : vwCl[ci]? = some q) : (∃ ty0 : Nat → FieldType, ∀ k, k < q.2.2 → parseFieldDescriptor (q.2.1 k).2.2.1 = some (ty0 k)) ∧ (∀ a, a < q.2.2 → ∀ b, b < q.2.2 → a ≠ b → (q.2.1 a).2.1 ≠ (q.2.1 b).2.1) ∧ ∀ w ∈ u_ws q.1 q.2.1 q.2.2, w ∈ zTs := by
  have go : ∀ (C : String) (T : u_T) (N : Nat), ((u_ws C T N).all (fun w => decide (w ∈ lw_tbl) && goodWord w)) = true → ∀ w ∈ u_ws C T N, w ∈ zTs := by
    intro C T N h w hw
    have h1 := List.all_eq_true.mp h w hw
    rw [Bool.and_eq_true, decide_eq_true_eq] at h1
    exact List.mem_filter.mpr h1
  rcases ci with _ | _ | _ | _ | _ | _ | ci
  · cases h; exact ⟨⟨_, tyX0_ok⟩, nmX0, go _ _ _ (by decide +kernel)⟩
  · cases h; exact ⟨⟨_, tyX1_ok⟩, nmX1, go _ _ _ (by decide +kernel)⟩
  · cases h; exact ⟨⟨_, tyX2_ok⟩, nmX2, go _ _ _ (by decide +kernel)⟩
  · cases h; exact ⟨⟨_, tyX3_ok⟩, nmX3, go _ _ _ (by decide +kernel)⟩
  · cases h; exact ⟨⟨_, tyX4_ok⟩, nmX4, go _ _ _ (by decide +kernel)⟩
  · cases h; exact ⟨⟨_, tyX5_ok⟩, nmX5, go _ _ _ (by decide +kernel)⟩
  · cases h
def zfv (ad : Nat → Nat) (r : Int → Int) (k j o : Nat) : Value := match o with
  | 0 => .int (zJ (r j))
  | o + 1 => .ref (ad (k + (o + 1)))
theorem zfl_at {ad : Nat → Nat} {r : Int → Int} {k c j o : Nat} (h : (zfo c)[j]? = some o) : (zfl ad r k c)[j]? = some (zfv ad r k j o) := by
  have hj : j < (zfo c).length := (List.getElem?_eq_some_iff.mp h).1
  have hd : (zfo c).getD j 0 = o := by rw [List.getD_eq_getElem?_getD, h]; rfl
  unfold zfl
  rw [List.getElem?_map, List.getElem?_range hj, Option.map_some, hd]
  cases o <;> rfl
theorem zfl_set {ad : Nat → Nat} {r : Int → Int} {k c y : Nat} {w : Int} (h : (zfo c)[y]? = some 0) : (zfl ad r k c).set y (.int (zJ w)) = zfl ad (fun j => if j = (y : Int) then w else r j) k c := by
  have hy : y < (zfo c).length := (List.getElem?_eq_some_iff.mp h).1
  have hlen : ∀ r, (zfl ad r k c).length = (zfo c).length := fun r => by simp [zfl]
  refine List.ext_getElem? (fun j => ?_)
  by_cases hj : j < (zfo c).length
  · have ho := List.getElem?_eq_getElem hj
    by_cases hjy : j = y
    · subst hjy
      rw [List.getElem?_set_self (by rw [hlen]; exact hj), zfl_at h]
      simp [zfv]
    · rw [List.getElem?_set_ne (Ne.symm hjy), zfl_at ho, zfl_at ho]
      rcases (zfo c)[j] with _ | o
      · have : ¬ ((j : Int) = (y : Int)) := by omega
        simp [zfv, this]
      · rfl
  · rw [List.getElem?_eq_none (by simp [hlen]; omega), List.getElem?_eq_none (by simp [hlen]; omega)]
theorem zer_0 {Z : zG} {r : Int → Int} {k c : Nat} (h : ykd k = (0, c)) : zer Z r k = .inr (c, zfl Z.2.2 r k c) := by unfold zer; rw [h]; rfl
theorem zer_1 {Z : zG} {r : Int → Int} {k n : Nat} (h : ykd k = (1, n)) : zer Z r k = .inl (Z.2.1.1, n, .inl (fun j => zJ (r j))) := by unfold zer; rw [h]; rfl
theorem zer_2 {Z : zG} {r : Int → Int} {k n : Nat} (h : ykd k = (2, n)) : zer Z r k = .inl (Z.2.1.2.1, n, .inl (fun j => zJ (r j))) := by unfold zer; rw [h]; rfl
theorem zer_3 {Z : zG} {r : Int → Int} {k n : Nat} (h : ykd k = (3, n)) : zer Z r k = .inl (Z.2.1.2.2.1, n, .inr (.inl (fun j => zJL (r j)))) := by unfold zer; rw [h]; rfl
theorem zer_4 {Z : zG} {r : Int → Int} {k n : Nat} (h : ykd k = (4, n)) : zer Z r k = .inl (Z.2.1.2.2.2, n, .inr (.inr (.inr (.inr (fun j => some (Z.2.2 (32 + 8 * j))))))) := by unfold zer; rw [h]; rfl
theorem zkd_p {k a : Nat} (h : (ykd k).1 = a) : ykd k = (a, (ykd k).2) := by rw [← h]
section ZC
variable {p : Program} {l : Launch} {e : Env} {R : Room} {s : State} {m : MethodId} {args : Array Value} {below : List Frame} {meth : Method} {c : Code} {H : Heap} {locs : List Loc} {cells slots : Nat} {Qw : State → Prop}
theorem z_call {Z : zG} {sr : Int → Int} {Q' : zP} {A0 : Nat → Prop} {H0 : Heap} {pc : Nat} {ls : Array Slot} {st0 rest : List Value} {a : Array Value} (hr : va_Run p l e R s m args below meth c H locs cells slots 0 0 (F0 m pc ls st0) rest (zQc Z sr Q' a) (zA Z)) (hS : va_S A0 H0 H locs) (hA : ∀ q, zA Z q → A0 q)
    (kk : ∀ (o : Option zV) (g' : zM) (H1 : Heap) (locs1 : List Loc), Q' o g' → zWd Z sr A0 H0 g' H1 locs1 → W p l e R s m args below meth c H1 locs1 cells slots Qw (F0 m (pc + 3) ls ((o.map (zv Z.2.2)).toList ++ rest))) : W p l e R s m args below meth c H locs cells slots Qw (F0 m pc ls st0) := by
  intro T hT X
  obtain ⟨v, st₀, t, T', L, h0, X', hL, e1, e2, ⟨⟨o, g', hv, hq, hP, h72⟩, hz, hk⟩, st⟩ := hr T hT X
  cases hv
  rw [h0] at hz hk
  obtain ⟨t2, a1, b1⟩ := kk o g' T'.heap (locs ++ L) hq ⟨by rw [e1]; exact hP, ⟨Nat.le_trans hS.1 (by rw [e1]; exact hz), fun q h1 h2 => by
      rw [e1, hk q (Nat.lt_of_lt_of_le h1 hS.1) (fun z => h2 (hA q z))]
      exact hS.2.1 q h1 h2, fun q hq => by
      rcases List.mem_append.mp hq with h | h
      · exact hS.2.2 q h
      · exact hA _ (hL q h)⟩, h72⟩ T' rfl X'
  exact ⟨t2, st t2 a1, b1⟩
end ZC
