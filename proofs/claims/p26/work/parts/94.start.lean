/-! the law from its entry -/
theorem zNest.of {A : Array Value} {U : State} (h : ∀ w ∈ lw_tbl, w.before A U = true) : zNest U := by
  intro w hw hn
  cases w <;> first | exact va_Nw.of rfl (h _ hw) | exact Bool.noConfusion hn
theorem z_arrK {U : State} {args : Array Value} {ty : FieldType} (h : (Cond.arrayClass ty).before args U = true) : ∃ cA : ClassId, ArrOfT U cA ty ∧ U.vm.findClass ("[" ++ ty.toString) = some cA := by
  obtain ⟨cA, kA, comp, h1, h2, h3⟩ := Cond.arrayClass_spec h
  exact ⟨cA, fun n z => ⟨fun k h => (by cases h), kA, h2, comp, h3⟩, h1⟩
theorem z_arrO {U : State} {args : Array Value} {C : String} (h : (Cond.arrayOver (.object C)).before args U = true) : ∃ cA : ClassId, ArrOfT U cA (.object C) ∧ va_RA U cA (.object C) := by
  obtain ⟨comp, cA, kA, h1, h2, h3, h4, h5⟩ := Cond.arrayOver_spec h
  exact ⟨cA, fun n z => ⟨fun k h => (by cases h), kA, h3, comp, h4⟩, kA, comp, h3, h4, h1, h5⟩
theorem z_pre0 {s : State} {args : Array Value} (hts : ∀ w ∈ lw_tbl, w.before args s = true) : ∃ (D : va_G) (C4 : zC4), zPre D C4 s := by
  have htz : ∀ w ∈ zTs, w.before args s = true := fun w hw => hts w (List.mem_filter.mp hw).1
  have h : ∀ (c : Nat) (q : vw_C), vwCl[c]? = some q → ∃ (cC : ClassId) (iS : Nat → Nat), u_Kn s q.1 q.2.1 q.2.2 cC iS := by
    intro c q hq
    have hin := (zcl c q hq).2.2
    rcases c with _ | _ | _ | _ | _ | _ | c
    · cases hq; exact u_known (n := 6) htz hin (htz (.instantiable RX0 6) (zgw_spec (i := 42) (by decide +kernel)))
    · cases hq; exact u_known (n := 3) htz hin (htz (.instantiable RX1 3) (zgw_spec (i := 119) (by decide +kernel)))
    · cases hq; exact u_known (n := 2) htz hin (htz (.instantiable RX2 2) (zgw_spec (i := 74) (by decide +kernel)))
    · cases hq; exact u_known (n := 7) htz hin (htz (.instantiable RX3 7) (zgw_spec (i := 36) (by decide +kernel)))
    · cases hq; exact u_known (n := 7) htz hin (htz (.instantiable RX4 7) (zgw_spec (i := 139) (by decide +kernel)))
    · cases hq; exact u_known (n := 6) htz hin (htz (.instantiable RX5 6) (zgw_spec (i := 28) (by decide +kernel)))
    · cases hq
  have h' : ∀ c : Nat, ∃ (cC : ClassId) (iS : Nat → Nat), ∀ q : vw_C, vwCl[c]? = some q → u_Kn s q.1 q.2.1 q.2.2 cC iS := by
    intro c
    cases hq : vwCl[c]? with
    | none => exact ⟨0, fun _ => 0, fun q h => by cases h⟩
    | some q0 =>
      obtain ⟨cC, iS, hk⟩ := h c q0 hq
      exact ⟨cC, iS, fun q h => by cases h; exact hk⟩
  obtain ⟨cI, i1, i2⟩ := z_arrK (htz (.arrayClass .int) (zgw_spec (i := 72) (by decide +kernel)))
  obtain ⟨cC, c1, c2⟩ := z_arrK (htz (.arrayClass .char) (zgw_spec (i := 164) (by decide +kernel)))
  obtain ⟨cL, l1, l2⟩ := z_arrK (htz (.arrayClass .long) (zgw_spec (i := 88) (by decide +kernel)))
  have hao := hts (.arrayOver (.object "BranchedSums$State")) (List.mem_of_getElem? (i := 125) (by decide +kernel))
  obtain ⟨cS, s1, s2⟩ := z_arrO hao
  refine ⟨(fun c => Classical.choose (h' c), fun c => Classical.choose (Classical.choose_spec (h' c))), (cI, cC, cL, cS), ⟨fun c q hq => Classical.choose_spec (Classical.choose_spec (h' c)) q hq, fun k q hq => ?_⟩, zNest.of hts, va_AO.of hao⟩
  rcases k with _ | _ | _ | _ | k
  · cases hq; exact ⟨i1, i2⟩
  · cases hq; exact ⟨c1, c2⟩
  · cases hq; exact ⟨l1, l2⟩
  · cases hq; exact ⟨s1, s2⟩
  · cases hq
def yQ1 : zP := fun o _ => o = some (zI 1)
section YZ
variable {p : Program} {l : Launch} {e : Env} {s : State} {m : MethodId} {below : List Frame} {meth : Method} {c : Code} {cells slots d : Nat} {Z : zG} {b : Nat} {sr : Int → Int}
/-- the law's own end, in the machine that is tied to bytecode -/
theorem z_lend (hF : zFr p s m #[Value.ref b] c code R_law 12 Z (fun q : Nat => s.heap.size ≤ q) sr s.heap room_1 d cells slots) (hr : meth.sig.returnType = ret) (hlocks : meth.locks = false) {K : zK} :
    ∀ (e0 : zE) (nx : zX), zisret e0.1 = true → zechk R_law code (some .boolean) zL_law e0 = true → ∀ (ls st : List zV) (g : zM), ystep (yC d) yQ1 K e0 nx ls st g → zGo p l e s m #[Value.ref b] below meth c (lw_Z below #[Value.ref b] s) Z (fun q : Nat => s.heap.size ≤ q) s.heap sr room_1 cells slots 12 e0.2.1 ls st g := by
  obtain ⟨hx, hb, hml, hown, hts, ⟨hKK, hN⟩, hin, hA, hRm, hSc, hScA⟩ := id hF
  intro e0 nx hi hck ls st g h
  obtain ⟨ins, pc, x, y, z, v, lx⟩ := e0
  cases ins
  case ireturn =>
    intro real H locs hls hW
    rcases st with _ | ⟨a | a | a | a, _ | ⟨b, r⟩⟩ <;> first | exact False.elim h | skip
    obtain ⟨-, h3⟩ := h
    have h3 : some (zI a) = some (zI 1) := h3
    have h4 : a = 1 := Sum.inl.inj (Option.some.inj h3)
    subst h4
    simp only [zechk, zlen, Bool.and_eq_true, and_true] at hck
    obtain ⟨hd, -⟩ := hck
    refine va_forget hW.2.1.2.2 ?_
    refine W.widen (k := 600000) (n := 7302250) hRm.2.2.1 hRm.2.2.2 ?_
    exact lw_ret hx hb hr hlocks (of_decide_eq_true hd)
  case areturn =>
    simp only [zechk, zlen, Bool.and_eq_true, and_true] at hck
    exact absurd (of_decide_eq_true hck.2) (by decide)
  case return_ =>
    simp only [zechk, zlen, Bool.and_eq_true, and_true] at hck
    exact absurd (of_decide_eq_true hck.2) (by decide)
  all_goals exact Bool.noConfusion hi
/-- what holds in the small machine of the law's loop, the machine does -/
theorem z_lloop (hF : zFr p s m #[Value.ref b] c code R_law 12 Z (fun q : Nat => s.heap.size ≤ q) sr s.heap room_1 d cells slots) (hr : meth.sig.returnType = ret) (hlocks : meth.locks = false) {as : List zV} {g : zM} (has : yoks as) (hlen : as.length = 6) (h : zC (d + 1) 156 as g yQ1) :
    zGo p l e s m #[Value.ref b] below meth c (lw_Z below #[Value.ref b] s) Z (fun q : Nat => s.heap.size ≤ q) s.heap sr room_1 cells slots 12 43 (as ++ List.replicate 6 zU) [] g := by
  obtain ⟨M, h1, -, h3⟩ := h
  cases zm_L_law.symm.trans h1
  have hls : yoks (as ++ List.replicate 6 zU) := fun v hv => by
    rcases List.mem_append.mp hv with q | q
    · exact has v q
    · rw [List.eq_of_mem_replicate q]
      trivial
  have hW := yW_of (cd := zL_law) (R' := yQ1) (yC_of d) (yC_om d) (yreal_ok (m := 156) rfl zm_L_law) (fun o g _ q => q) hls yoks_nil h3
  have key := hW (fun t ls st g => ∀ e', zL_law[t]? = some e' → zGo p l e s m #[Value.ref b] below meth c (lw_Z below #[Value.ref b] s) Z (fun q : Nat => s.heap.size ≤ q) s.heap sr room_1 cells slots 12 e'.2.1 ls st g) (fun t ls st g hrn e' he' => by
    have hlt : t < zL_law.length := (List.getElem?_eq_some_iff.mp he').1
    have hd : zL_law.drop t = e' :: zL_law.drop (t + 1) := by
      rw [List.drop_eq_getElem_cons hlt]
      congr 1
      exact (List.getElem?_eq_some_iff.mp he').2
    exact zrun_snd hF (zsnd l d) (z_lend hF hr hlocks) (fun t ls st g q => q) (zL_law.drop t) (zcchk_drop _ _ _ _ t _ z_lcc) ls st g hrn e' _ hd)
  exact key _ rfl
end YZ
abbrev yL0 : List zV := [zR 72, zR 0, zU, zU, zU, zU, zU, zU, zU, zU, zU, zU]
def yNx (g0 : zM) : zX := fun ls st g => (ls = yL0 ∧ st = []) ∧ yE g0 g
theorem zdiv_le {L : Nat} (h : L ≤ 260) : zdiv (L : Int) 2 = ((L / 2 : Nat) : Int) := zdiv_nat (b := 2) (by omega) (by decide) (by decide)
set_option maxHeartbeats 4000000 in
set_option maxRecDepth 100000 in
/-- the law from its entry, for every script of at most 260 ints -/
theorem whole_start {p : Program} {e : Env} {s : State} {m : MethodId} {below : List Frame} {meth : Method} {c : Code} (l : Launch) (hflags : l.flags = flags0) {b L : Nat} {xs : Nat → Int32} (hL : L ≤ 260) (C0 : lw_At p s m meth c b L xs) : W p l e room_1 s m #[Value.ref b] below meth c s.heap [] 0 0 (lw_Z below #[Value.ref b] s) (entryFrame m ([Value.ref b] : List Value).toArray 12) := by
  obtain ⟨hx, hb, hr, hml, hown, htl, hX, hbl, hlocks, hgv⟩ := id C0
  have hts : ∀ w ∈ zTs, w.before #[Value.ref b] s = true := fun w hw => htl w (List.mem_filter.mp hw).1
  obtain ⟨D, C4, hpre⟩ := z_pre0 htl
  have hF0 : zFc p s m #[Value.ref b] c code R_law 12 D C4 := ⟨hx, hb, hml, hown, hts, hpre⟩
  have hA0 : ∀ q : Nat, s.heap.size ≤ q → (fun q : Nat => s.heap.size ≤ q) q := fun _ h => h
  have hS : va_S (fun q : Nat => s.heap.size ≤ q) s.heap s.heap [] := va_S.rf
  have hP : va_P D vwCl [] s.heap := fun k q h => by simp at h
  have hD : va_D (fun q : Nat => s.heap.size ≤ q) [] := ⟨fun i j p q h => by simp at h, fun k q h => by simp at h⟩
  have hl := lv_entry ([.ref b]) (n := 12) (Nat.le_of_ble_eq_true rfl)
  rw [lg_entry_eq]
  generalize (lg_sl ([.ref b]) ++ List.replicate (12 - (lg_sl ([.ref b])).length) Slot.unset).toArray = ls at hl ⊢
  have hl : lv_has ls 12 [(0, .ref b)] := hl
  have hfsX5 : ∀ j, j < 6 → defaultValue (tyX5 j) = vp_V [.null, .null, .null, .null, .null, .int (zJ 0)] j := fun j hj => by
    rcases (show j = 0 ∨ j = 1 ∨ j = 2 ∨ j = 3 ∨ j = 4 ∨ j = 5 by omega) with rfl | rfl | rfl | rfl | rfl | rfl <;> first | rfl | (show Value.int 0 = Value.int (zJ 0); rw [zJ_0])
  refine z_new hF0 (k_BS l D C4) false (zgw_spec (i := 31) (by decide +kernel)) (zgw_spec (i := 18) (by decide +kernel)) (zgw_spec (i := 30) (by decide +kernel)) rfl (by decide +kernel) (show Cond.methodLink R_law 74 yX5_init ∈ zTs from (zgw_spec (i := 29) (by decide +kernel))) tyX5 tyX5_ok (zgw_spec (i := 27) (by decide +kernel)) (zgw_spec (i := 28) (by decide +kernel)) rfl rfl hfsX5 ⟨Nat.le_of_ble_eq_true rfl, Nat.le_of_ble_eq_true rfl⟩ ⟨Nat.le_of_ble_eq_true rfl, Nat.le_of_ble_eq_true rfl⟩ hP hD hS hA0 hl.1 (Nat.le_of_ble_eq_true rfl) d_law_0 d_law_3 d_law_4 (fun qa H locs hP hD hS => ?_)
  have hP : va_P D vwCl (zL0 C4 qa) H := hP
  have hD : va_D (fun q : Nat => s.heap.size ≤ q) (zL0 C4 qa) := hD
  refine lv_astore_n (lv' := [(1, .ref (qa 0)), (0, .ref b)]) hx hb d_law_7 rfl hl (by decide) rfl (fun ls hl => ?_)
  -- the script's row
  let sr : Int → Int := fun k => ycv L xs k.toNat
  obtain ⟨hin, hA, hPz⟩ := z_inj (qb := b) sr hP hD
  have hbA : ¬ (fun q : Nat => s.heap.size ≤ q) b := Nat.not_le.mpr hbl
  have hsc : ySc b sr s s.heap := ⟨L, xs, hL, hX, fun k _ => by show ycv L xs ((k : Int).toNat) = _; rw [Int.toNat_natCast]⟩
  have hF : ∀ d, d ≤ 40 → ∀ cells slots, cells ≤ 600000 ∧ slots ≤ 7302250 → zFr p s m #[Value.ref b] c code R_law 12 (D, C4, zad qa b) (fun q : Nat => s.heap.size ≤ q) sr s.heap room_1 d cells slots := fun d hd cells slots hcs =>
    ⟨hx, hb, hml, hown, hts, ⟨hpre.1, hpre.2.1⟩, hin, hA, ⟨by show d + 1 ≤ 2048; omega, by show 60 * (d + 1) ≤ 84000; omega, hcs.1, hcs.2⟩, hsc, hbA⟩
  have hls : zLs (zad qa b) 12 [zR 72, zR 0, zU, zU, zU, zU, zU, zU, zU, zU, zU, zU] ls := by
    refine ⟨⟨hl.1, rfl⟩, hl.2.1, fun i v hv hc hu => ?_⟩
    rcases i with _ | _ | i
    · cases hv; exact lv_at hl 1 rfl
    · cases hv; exact lv_at hl 0 rfl
    · exfalso
      have hi : i < 10 := by
        have := (List.getElem?_eq_some_iff.mp hv).1
        simp at this
        omega
      rcases (show i = 0 ∨ i = 1 ∨ i = 2 ∨ i = 3 ∨ i = 4 ∨ i = 5 ∨ i = 6 ∨ i = 7 ∨ i = 8 ∨ i = 9 by omega) with q | q | q | q | q | q | q | q | q | q <;> (subst q; cases hv; exact hu rfl)
  have hW : zWd (D, C4, zad qa b) sr (fun q : Nat => s.heap.size ≤ q) s.heap (gs sr) H _ := ⟨hPz, hS, rfl⟩
  refine lv_aload_n hx hb d_law_8 rfl (lv_at hl 0 rfl) ?_
  refine lv_aload_n hx hb d_law_9 rfl (lv_at hl 1 rfl) ?_
  refine lv_bipush (v := zJ 6) hx hb d_law_10 (by decide) ?_
  have hE : yE (gs sr) (gs sr) := ⟨rfl, g0 65, 0, 0, yK0 sr⟩
  have hbeg : yC 20 151 [zR 0, zR 72, zI 6] (gs sr) (fun o g => match o with
      | none => yNx (gs sr) yL0 [] g
      | some w => yNx (gs sr) yL0 (w :: []) g) := by
    have has : yoks [zR 0, zR 72, zI 6] := by
      simp only [yoks_cons]
      exact ⟨Or.inl (by decide), Or.inr rfl, trivial, yoks_nil⟩
    exact yC_om 20 _ _ _ _ _ (fun o g q => q.1) (yC_of 20 151 _ _ _ rfl has (w_begins (d := 10) hE (fun g' h' => ⟨⟨rfl, rfl⟩, h'⟩)))
  refine z_stat (Z := (D, C4, zad qa b)) (d := 20) (x := 151) (y := 3) (ls := [zR 72, zR 0, zU, zU, zU, zU, zU, zU, zU, zU, zU, zU]) (st := [zI 6, zR 72, zR 0]) (g := gs sr) (nx := yNx (gs sr)) (hF 20 (by omega) _ _ ⟨Nat.le_of_ble_eq_true rfl, Nat.le_of_ble_eq_true rfl⟩) (zsnd l 20) d_law_12 false ⟨_, rfl, ⟨rfl, by decide⟩, hts _ (zgw_spec (i := 260) (by decide +kernel))⟩ ⟨Nat.le_of_ble_eq_true rfl, hbeg⟩ (fun ls1 st1 g1 hq => ?_) ls H _ hls hW
  obtain ⟨⟨rfl, rfl⟩, h72, s1, n1, z1, hk1⟩ := hq
  intro ls H locs hls hW
  have hl : lv_has ls 12 [(1, .ref (qa 0)), (0, .ref b)] := ⟨hls.1.1, hls.2.1, fun q hq => by
    rcases List.mem_cons.mp hq with h | h
    · subst h; exact hls.at (i := 1) rfl rfl (by simp)
    · rcases List.mem_cons.mp h with h | h
      · subst h; exact hls.at (i := 0) rfl rfl (by simp)
      · exact absurd h List.not_mem_nil⟩
  refine lv_iconst (v := zJ 1) hx hb d_law_15 (by decide) ?_
  refine lv_istore_n (lv' := [(2, .int (zJ 1)), (1, .ref (qa 0)), (0, .ref b)]) hx hb d_law_16 rfl hl (by decide) rfl (fun ls hl => ?_)
  refine lv_iconst (v := zJ 0) hx hb d_law_17 (by decide) ?_
  refine lv_istore_n (lv' := [(3, .int (zJ 0)), (2, .int (zJ 1)), (1, .ref (qa 0)), (0, .ref b)]) hx hb d_law_18 rfl hl (by decide) rfl (fun ls hl => ?_)
  have fin : ∀ T : Nat, T ≤ 34 → W p l e room_1 s m #[Value.ref b] below meth c H locs (0 + 1 + 63) (0 + 6 + 3371) (lw_Z below #[Value.ref b] s) (F0 m 37 ls [.int (zJ (T : Int))]) := by
    intro T hT
    refine lv_istore (lv' := [(4, .int (zJ (T : Int))), (3, .int (zJ 0)), (2, .int (zJ 1)), (1, .ref (qa 0)), (0, .ref b)]) hx hb d_law_37 hl (by decide) rfl (fun ls hl => ?_)
    refine lv_bipush (v := zJ 13) hx hb d_law_39 (by decide) ?_
    refine lv_istore (lv' := [(5, .int (zJ 13)), (4, .int (zJ (T : Int))), (3, .int (zJ 0)), (2, .int (zJ 1)), (1, .ref (qa 0)), (0, .ref b)]) hx hb d_law_41 hl (by decide) rfl (fun ls hl => ?_)
    have has : yoks [zR 72, zR 0, zI 1, zI 0, zI (T : Int), zI 13] := by
      simp only [yoks_cons]
      exact ⟨Or.inr rfl, Or.inl (by decide), trivial, trivial, trivial, trivial, yoks_nil⟩
    refine z_lloop (d := 20) (as := [zR 72, zR 0, zI 1, zI 0, zI (T : Int), zI 13]) (g := g1) (hF 20 (by omega) _ _ ⟨Nat.le_of_ble_eq_true rfl, Nat.le_of_ble_eq_true rfl⟩) hr hlocks has rfl (w_law (d := 4) (fun _ => rfl) hT hk1) ls H locs ?_ hW
    refine ⟨⟨hl.1, rfl⟩, hl.2.1, fun i v hv hc hu => ?_⟩
    rcases i with _ | _ | _ | _ | _ | _ | i
    · cases hv; exact lv_at hl 5 rfl
    · cases hv; exact lv_at hl 4 rfl
    · cases hv; exact lv_at hl 3 rfl
    · cases hv; exact lv_at hl 2 rfl
    · cases hv; exact lv_at hl 1 rfl
    · cases hv; exact lv_at hl 0 rfl
    · exfalso
      have hi : i < 6 := by
        have := (List.getElem?_eq_some_iff.mp hv).1
        simp at this
        omega
      rcases (show i = 0 ∨ i = 1 ∨ i = 2 ∨ i = 3 ∨ i = 4 ∨ i = 5 by omega) with q | q | q | q | q | q <;> (subst q; cases hv; exact hu rfl)
  have h2 : ¬ zJ 2 = 0 := by decide
  have hdz : zJ (L : Int) / zJ 2 = zJ ((L / 2 : Nat) : Int) := by
    rw [← zdiv_le hL]
    exact (zJ_of _).symm
  refine lv_aload_n hx hb d_law_19 rfl (lv_at hl 3 rfl) ?_
  refine va_slen hx hb hX hbl hbA hW.2.1 d_law_20 ?_
  rw [← zJ_nat]
  refine lv_iconst (v := zJ 2) hx hb d_law_21 (by decide) ?_
  refine lv_idiv hx hb d_law_22 h2 ?_
  rw [hdz]
  refine lv_bipush (v := zJ 34) hx hb d_law_23 (by decide) ?_
  refine lv_icmp_le (tgt := 33) hx hb d_law_25 (by decide) (fun h => ?_) (fun h => ?_)
  · have h34 : ((L / 2 : Nat) : Int) ≤ 34 := (zJ_le (by omega) (by omega)).mp h
    refine lv_aload_n hx hb d_law_33 rfl (lv_at hl 3 rfl) ?_
    refine va_slen hx hb hX hbl hbA hW.2.1 d_law_34 ?_
    rw [← zJ_nat]
    refine lv_iconst (v := zJ 2) hx hb d_law_35 (by decide) ?_
    refine lv_idiv hx hb d_law_36 h2 ?_
    rw [hdz]
    exact fin (L / 2) (by omega)
  · refine lv_bipush (v := zJ ((34 : Nat) : Int)) hx hb d_law_28 (by decide) ?_
    refine lv_goto (tgt := 37) hx hb d_law_30 (by decide) ?_
    exact fin 34 (by omega)
set_option maxHeartbeats 4000000 in
theorem lw_walk (l : Launch) (hflags : l.flags = flags0) (b : Addr) (xs : List Int32) : MetFree l x (headSpec (Jvm.Cond.code x code maxLocals ret :: tables_1) room_1) (lw_P b xs) (fun _ _ _ _ _ => True) lw_Q := by
  refine MetFree.of_bodyS (code := code) (maxLocals := maxLocals) (ret := ret) (by decide) ?_ ?_
  · intro args s m h hn
    obtain ⟨meth, c, h1, h2, h3, h4, h5, h6, -, -⟩ := Cond.code_spec hn (atoms_spec (ws := Jvm.Cond.code x code maxLocals ret :: tables_1) h _ List.mem_cons_self)
    exact ⟨meth, c, h1, h2, h3, h4, h5, h6⟩
  · intro p e s m args below meth c s₁ B hml0 hP _
    obtain ⟨rfl, hx, hbd, hgv⟩ := hP
    obtain ⟨scr, harrAt, hlist, hof, hsmall⟩ := hx
    obtain ⟨hcb, hkn, -, -⟩ := State.arrayAt?_spec harrAt
    have hown : s.vm.findClass R_law = some m.cls := findClass_of_methodNamed B.named
    have hts0 : ∀ c ∈ (Jvm.Cond.code x code maxLocals ret :: tables_1), c.before #[Value.ref b] s = true := atoms_spec (ws := Jvm.Cond.code x code maxLocals ret :: tables_1) B.pre
    have hts : ∀ w ∈ lw_tbl, w.before #[Value.ref b] s = true := k2_hts_sels lw_privs (fun w hw => hts0 w (List.mem_cons_of_mem _ hw)) lw_privs_ok
    have hml : c.maxLocals = 12 := B.maxLocals_eq (hts0 _ List.mem_cons_self)
    have X₀ : Stand p l e room_1 s m #[Value.ref b] below meth c s₁ [] 0 0 := Stand.of_body B
    have hh0 : s₁.heap = s.heap := by rw [B.state]; rfl
    have hsz : scr.slots.size = xs.length := by rw [← Array.length_toList, hlist, List.length_map]
    have hval : ∀ j : Nat, j < xs.length → scr.slots[j]? = some (.int (xs.getD j 0)) := fun j hj => by
      rw [← Array.getElem?_toList, hlist]
      simp [hj]
    have hbl : b < s.heap.size := (Array.getElem?_eq_some_iff.mp hcb).1
    have hX : va_X b xs.length (fun j => xs.getD j 0) s s.heap := ⟨scr, hcb, hof, hkn, hsz, hval⟩
    have K : W p l e room_1 s m #[Value.ref b] below meth c s₁.heap [] 0 0 (lw_Z below #[Value.ref b] s) (entryFrame m ([Value.ref b] : List Value).toArray 12) := by
      rw [hh0]
      exact whole_start l hflags hbd ⟨B.exec, B.bytes, B.returns, hml, hown, hts, hX, hbl, B.notSynchronized, hgv⟩
    obtain ⟨t, a1, o, b1, b2, b3⟩ := K s₁ rfl X₀
    exact ⟨t, o, a1, b1, b2, b3⟩
theorem lw_pre_spec {args : Array Value} {s : State} (h : (Jvm.Cond.and given_1 narrow_1).before args s = true) (hr : rest_1_c.before args s = true) : ∃ (b : Addr) (xs : List Int32), lw_P b xs args s := by
  have hs := flat_of_before _ h
  have hq := flat_of_before _ hr
  have hc : (Cond.count 1).before args s = true := hs _ (by decide +kernel)
  have harr : (Cond.arrayOf (.arg 0) .int).before args s = true := hs _ (by decide +kernel)
  have hle : (Cond.le (.length (.arg 0)) (.int 260)).before args s = true := hs _ (by decide +kernel)
  have hlen : (Cond.isInt (.length (.arg 0))).before args s = true := hq _ (by decide +kernel)
  have hall : (Cond.all (.arg 0) (.isInt (.elem (.arg 0) (.index 0)))).before args s = true := hq _ (by decide +kernel)
  obtain ⟨b, xs, hb, hx⟩ := State.ints_of_pre rfl harr hlen hall
  have hsm : xs.length < 2 ^ 31 := hx.choose_spec.2.2.2
  have hev : (Term.length (.arg 0)).eval args s none [] s = some (.int xs.length.toInt32) := hx.length_eval hb
  have hv := Cond.le_ints hev (show (Term.int 260).eval args s none [] s = some (.int 260) from rfl)
  have hd : xs.length.toInt32 ≤ 260 := by
    simpa [Cond.before, Cond.holds, hv] using hle
  have hN : xs.length ≤ 260 := (Int32.ofNat_le_ofNat hsm (by decide)).mp (show Int32.ofNat xs.length ≤ Int32.ofNat 260 from hd)
  exact ⟨b, xs, Cond.one_arg hc (show args[0]? = some (.ref b) from hb), hx, hN, h⟩
theorem lw_comes (l : Launch) (hflags : l.flags = flags0) : Comes l x (Jvm.Cond.code x code maxLocals ret :: tables_1) room_1 (fun tb e args s => Calls_1 tb e args s ∧ rest_1 tb e args s ∧ Pre_1 tb e args s)
    (fun _ _ args s o t => lw_Q args s o t) := by
  intro p e ha hc hk s m args below hf hfit hheap happ hpre
  obtain ⟨b, xs, hP⟩ := lw_pre_spec hpre.2.2 hpre.2.1
  obtain ⟨k, o, h1, h2, h3, hQ⟩ := lw_walk l hflags b xs p e ha hc hk s m args below hf ((Spec.applies_iff_loose hf).mp happ).1 hP trivial
  exact ⟨k, o, h1, h2, h3, hQ⟩
theorem lw_frame {s t : State} {o : Outcome} {args : Array Value} (h : Framed s o t [] 600000 7302250) :
    Framed s o t (fieldLocs frame_1_writes args s ++ arrayLocs frame_1_arrays args s ++ staticLocs frame_1_statics s) 600000 7302250 := h
theorem lw_limb (L : Cond) (hL : ∀ (args : Array Value) (s t : State), L.after args s (.returned (some (.int 1))) t = true) :
    ArmFor flags0 classFile x code maxLocals ret World_1 tables_1 room_1 Calls_1 rest_1 Pre_1
      (fun tb e a s o t => postC L tb e a s o t ∧ Framed s o t (fieldLocs frame_1_writes a s ++ arrayLocs frame_1_arrays a s ++ staticLocs frame_1_statics s) 600000 7302250) := by
  intro l hflags _ _ p e ha hc hk s m args below hf hfit hheap happ hpre
  obtain ⟨k, o, h1, h2, h3, rfl, hF⟩ := lw_comes l hflags p e ha hc hk s m args below hf hfit hheap happ hpre
  exact ⟨k, _, h1, h2, h3, hL args s _, lw_frame hF⟩
theorem i_vc : Claimed_1_1 ∧ Claimed_1_2 := ⟨lw_limb limb_1_1 (fun args s t => by simp [limb_1_1, Cond.after, Cond.holds, Cond.value]), lw_limb limb_1_2 (fun args s t => Cond.after_iff.mpr (by
  first | (rw [show limb_1_2 = Cond.eq .result (.int 1) from rfl, Cond.eq_ints (x := 1) (y := 1) rfl rfl]; simp; done) | (simp [limb_1_2, Cond.value, Term.eval]; done)))⟩
