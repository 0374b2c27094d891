/-! constructors: what holds of one, and how it is called -/
abbrev zC4 : Type := ClassId × ClassId × ClassId × ClassId
abbrev zty4 (C4 : zC4) : List (ClassId × FieldType) := [(C4.1, .int), (C4.2.1, .char), (C4.2.2.1, .long), (C4.2.2.2, .object "BranchedSums$State")]
def zrmC (d mc ms : Nat) : Room := { frames := d, cells := mc, slots := ms, locals := 60 * d }
def zPre (D : va_G) (C4 : zC4) (U : State) : Prop := va_K D vwCl (zty4 C4) U ∧ zNest U ∧ va_AO "BranchedSums$State" U
theorem zPre.moved {D : va_G} {C4 : zC4} {s U : State} (hW : s.WarmedH U.vm) (h : zPre D C4 s) : zPre D C4 U := ⟨va_K.moved hW.alike h.1, zNest.moved hW h.2.1, va_AO.moved hW.alike h.2.2⟩
def zPcC (D : va_G) (C4 : zC4) (ci : Nat) (bl : List Value) (h0 sz : Nat) : State → Prop := fun U => U.heap.size = sz ∧ va_P D vwCl [(h0, .inr (ci, bl))] U.heap ∧ zPre D C4 U
theorem zPcC_blind (D : va_G) (C4 : zC4) (ci : Nat) (bl : List Value) (h0 sz : Nat) : FrameBlind (va_Pc [.ref h0] (zPcC D C4 ci bl h0 sz)) := fun a U gf mk q => ⟨q.1, q.2.1, q.2.2.1, va_K.moved (u := U) (U := U.calling gf mk a) (Vm.Alike.refl U.vm) q.2.2.2.1, zNest.same (s := U) (U := U.calling gf mk a) rfl q.2.2.2.2.1, va_AO.moved (u := U) (U := U.calling gf mk a) (Vm.Alike.refl U.vm) q.2.2.2.2.2⟩
def zCtr (l : Launch) (D : va_G) (C4 : zC4) (y : MethodName) (cc : ByteArray) (ml d mc ms ci : Nat) (bl : List Value) (w : (Nat → Nat) → va_W) : Prop :=
  ∀ (h0 sz : Nat), Met l y (zwd y cc ml none) (zrmC d mc ms) (va_Pc [.ref h0] (zPcC D C4 ci bl h0 sz)) (va_Qv (fun _ : Unit => True) (fun _ t => ∃ q : Nat → Nat, q 0 = h0 ∧ va_P D vwCl (w q) t.heap ∧ va_D (va_A [(h0, .inr (ci, bl))] sz) (w q)) (va_A [(h0, .inr (ci, bl))] sz)) mc ms (va_A [(h0, .inr (ci, bl))] sz)
def zFc (p : Program) (s : State) (m : MethodId) (args : Array Value) (c : Code) (cc : ByteArray) (own : String) (nL : Nat) (D : va_G) (C4 : zC4) : Prop :=
  p.tables.exec = Jvm.exec ∧ c.code = cc ∧ c.maxLocals = nL ∧ s.vm.findClass own = some m.cls ∧ (∀ w ∈ zTs, w.before args s = true) ∧ zPre D C4 s
theorem zlast {wr : va_W} {x : Nat × va_E} : (wr ++ [x])[wr.length]? = some x := by simp
theorem zfront {wr : va_W} {x : Nat × va_E} : (List.range wr.length).map (fun i => (wr ++ [x])[i]?) = wr.map some := by
  refine List.ext_getElem? (fun j => ?_)
  rw [List.getElem?_map, List.getElem?_map]
  by_cases h : j < wr.length
  · rw [List.getElem?_range h, Option.map_some, List.getElem?_append_left h, List.getElem?_eq_getElem h]
    rfl
  · rw [List.getElem?_eq_none (by simpa using h), List.getElem?_eq_none (by omega)]
    rfl
theorem znd : ∀ (l : List Nat), l.Nodup → va_nd l = true
  | [], _ => rfl
  | a :: l, h => by
    rw [List.nodup_cons] at h
    simp only [va_nd, Bool.and_eq_true, decide_eq_true_eq]
    exact ⟨h.1, znd l h.2⟩
section ZCT
variable {p : Program} {l : Launch} {e : Env} {R : Room} {s : State} {m : MethodId} {args : Array Value} {below : List Frame} {meth : Method} {c : Code} {H : Heap} {locs : List Loc} {cells slots : Nat} {Q : State → Prop}
variable {D : va_G} {C4 : zC4} {cc : ByteArray} {own : String} {nL : Nat} {A0 : Nat → Prop} {H0 : Heap} {pc : Nat} {ls : Array Slot} {rest : List Value}
theorem z_ctor (hF : zFc p s m args c cc own nL D C4) {y : MethodName} {cc' : ByteArray} {ml d mc ms ci i q0 : Nat} {bl : List Value} {w : (Nat → Nat) → va_W} {wr : va_W} (hM : zCtr l D C4 y cc' ml d mc ms ci bl w) (nest : Bool)
    (hc : Cond.code y cc' ml none ∈ zTs) (hi : Cond.initialized y.cls ∈ zTs) (hin : Cond.instanceMethod y ∈ zTs) (hy : y.name = "<init>") (hd : y.cls ≠ "java/lang/invoke/MethodHandle" ∧ y.cls ≠ "java/lang/invoke/VarHandle" ∧ (parseMethodDescriptor y.desc).map (fun d => d.parameters.length) = some 0)
    (hl : if nest = true then Cond.methodLinkNest own i y "BranchedSums" ∈ lw_tbl else Cond.methodLink own i y ∈ zTs)
    (hR : d + 1 ≤ R.frames ∧ 8 + (ml + 11) + 60 * d ≤ R.locals) (hroom : cells + mc ≤ R.cells ∧ slots + ms ≤ R.slots)
    (hP : va_P D vwCl (wr ++ [(q0, .inr (ci, bl))]) H) (hD : va_D A0 (wr ++ [(q0, .inr (ci, bl))])) (hS : va_S A0 H0 H locs) (hA : ∀ q, H0.size ≤ q → A0 q)
    (hsz : ls.size = nL) (hrest : (rest.map fun v => v.category).sum ≤ 8) (hdg : decode cc pc = .ok (.invokespecial i, 3))
    (kk : ∀ (q : Nat → Nat) (H1 : Heap) (locs1 : List Loc), q 0 = q0 → va_P D vwCl (wr ++ w q) H1 → va_D A0 (wr ++ w q) → va_S A0 H0 H1 locs1 → W p l e R s m args below meth c H1 locs1 (cells + mc) (slots + ms) Q (F0 m (pc + 3) ls rest)) :
    W p l e R s m args below meth c H locs cells slots Q (F0 m pc ls (.ref q0 :: rest)) := by
  obtain ⟨hx, hb, hml, hown, hts, hpre⟩ := hF
  have hPc : va_P D vwCl [(q0, .inr (ci, bl))] H := fun k x hk => by
    have hz : k < 1 := (List.getElem?_eq_some_iff.mp hk).1
    rw [show k = 0 by omega] at hk
    cases hk
    exact hP wr.length _ zlast
  have hFc := va_free (wc := [(q0, .inr (ci, bl))]) hD hS hA [wr.length] (by simp)
  have hp : PreS s H (va_Pc [.ref q0] (zPcC D C4 ci bl q0 H.size)) [.ref q0] := ⟨zPcC_blind _ _ _ _ _ _, fun U hU hW => ⟨rfl, by rw [hU], by rw [hU]; exact hPc, zPre.moved hW hpre⟩⟩
  have hws : ∀ w ∈ zwd y cc' ml none, ∀ (a' : Array Value) (U : State), s.WarmedH U.vm → w.before a' U = true := by
    refine pay_in (big := zTs) hts (fun w hw => ?_)
    have hz : w ∈ zTs := by
      rcases List.mem_cons.mp hw with h | h
      · rw [h]; exact hc
      · exact h
    exact ⟨hz, good_of_word (List.mem_filter.mp hz).2⟩
  have hlen : ∀ sig, parseMethodDescriptor y.desc = some sig → 0 = sig.parameters.length := fun sig h => by
    have h2 := hd.2.2
    rw [h] at h2
    exact (Option.some.inj h2).symm
  have go : va_Run p l e R s m args below meth c H locs cells slots mc ms (F0 m pc ls (.ref q0 :: rest)) rest (va_Qv (fun _ : Unit => True) (fun _ t => ∃ q : Nat → Nat, q 0 = q0 ∧ va_P D vwCl (w q) t.heap ∧ va_D (va_A [(q0, .inr (ci, bl))] H.size) (w q)) (va_A [(q0, .inr (ci, bl))] H.size) (Value.ref q0 :: []).toArray) (va_A [(q0, .inr (ci, bl))] H.size) := by
    cases nest with
    | false =>
      rw [if_neg (by decide)] at hl
      exact va_runI (As := []) (rest := rest) ⟨hx, hb, hml, hown, hts⟩ (hM q0 H.size) ⟨⟨rfl, rfl, hR.1, hR.2, hws, List.mem_cons_self, hts _ hc, hts _ hi, ⟨hd.1, hd.2.1⟩, hlen, hts _ hl⟩, hy, hts _ hin⟩ hp rfl rfl hsz rfl (lv_room hrest) hdg hroom
    | true =>
      rw [if_pos rfl] at hl
      exact va_runIN (As := []) (rest := rest) ⟨hx, hb, hml, hown, hts⟩ (hM q0 H.size) ⟨⟨⟨rfl, rfl, hR.1, hR.2, hws, List.mem_cons_self⟩, hts _ hc, hts _ hi, ⟨hd.1, hd.2.1⟩, hlen, va_Nw.use rfl (hpre.2.1 _ hl rfl)⟩, hy, hts _ hin⟩ hp rfl rfl hsz rfl (lv_room hrest) hdg hroom
  refine va_callv go hS (fun q _ h => hFc q h) hFc (fun u t H1 locs1 ht hvm hw hB hz1 hk1 hS1 => ?_)
  obtain ⟨q, hq0, hP1, hD1⟩ := hB
  rw [ht] at hP1
  obtain ⟨hP2, hD2⟩ := va_join (wr := wr) (w1 := w q) hP hD [wr.length] (List.range wr.length) (by simp) zfront (znd _ List.nodup_range) (fun i h => by have := List.mem_range.mp h; simp; omega) hk1 hFc hP1 hD1
  exact kk q H1 locs1 hq0 hP2 hD2 hS1
/-- new, dup, the constructor -/
theorem z_new (hF : zFc p s m args c cc own nL D C4) {y : MethodName} {cc' : ByteArray} {ml d mc ms ci i j N : Nat} {C : String} {T : u_T} {bl : List Value} {w : (Nat → Nat) → va_W} {wr : va_W} (hM : zCtr l D C4 y cc' ml d mc ms ci bl w) (nest : Bool)
    (hc : Cond.code y cc' ml none ∈ zTs) (hi : Cond.initialized y.cls ∈ zTs) (hin : Cond.instanceMethod y ∈ zTs) (hy : y.name = "<init>") (hd : y.cls ≠ "java/lang/invoke/MethodHandle" ∧ y.cls ≠ "java/lang/invoke/VarHandle" ∧ (parseMethodDescriptor y.desc).map (fun d => d.parameters.length) = some 0)
    (hl : if nest = true then Cond.methodLinkNest own i y "BranchedSums" ∈ lw_tbl else Cond.methodLink own i y ∈ zTs)
    (ty : Nat → FieldType) (hty : ∀ k, k < N → parseFieldDescriptor (T k).2.2.1 = some (ty k)) (hcl : Cond.classLink own j C ∈ zTs) (hinst : Cond.instantiable C N ∈ zTs) (hyc : y.cls = C) (hci : vwCl[ci]? = some (C, T, N)) (hfs : ∀ j, j < N → defaultValue (ty j) = vp_V bl j)
    (hR : d + 1 ≤ R.frames ∧ 8 + (ml + 11) + 60 * d ≤ R.locals) (hroom : cells + 1 + mc ≤ R.cells ∧ slots + N + ms ≤ R.slots)
    (hP : va_P D vwCl wr H) (hD : va_D A0 wr) (hS : va_S A0 H0 H locs) (hA : ∀ q, H0.size ≤ q → A0 q)
    (hsz : ls.size = nL) (hrest : (rest.map fun v => v.category).sum ≤ 7) (hdg : decode cc pc = .ok (.new j, 3)) (hdu : decode cc (pc + 3) = .ok (.dup, 1)) (hdi : decode cc (pc + 4) = .ok (.invokespecial i, 3))
    (kk : ∀ (q : Nat → Nat) (H1 : Heap) (locs1 : List Loc), va_P D vwCl (wr ++ w q) H1 → va_D A0 (wr ++ w q) → va_S A0 H0 H1 locs1 → W p l e R s m args below meth c H1 locs1 (cells + 1 + mc) (slots + N + ms) Q (F0 m (pc + 7) ls (.ref (q 0) :: rest))) :
    W p l e R s m args below meth c H locs cells slots Q (F0 m pc ls rest) := by
  obtain ⟨hx, hb, hml, hown, hts, hpre⟩ := id hF
  refine va_new (ci := ci) (fs := bl) hx hb hts (zcl ci _ hci).2.2 ty hty hown (hts _ hcl) (hts _ hinst) (hts _ (hyc ▸ hi)) hpre.1 hP hD hS hA hci hfs (by omega) (by show slots + N ≤ R.slots; omega) hdg (fun q0 H1 hP1 hD1 hS1 => ?_)
  refine lv_dup hx hb hdu rfl ?_
  refine z_ctor hF hM nest hc hi hin hy hd hl hR hroom hP1 hD1 hS1 hA hsz (by show 1 + (rest.map fun v => v.category).sum ≤ 8; omega) hdi (fun q H2 locs2 hq hP2 hD2 hS2 => ?_)
  rw [← hq]
  exact kk q H2 locs2 hP2 hD2 hS2
/-- a new array of numbers -/
theorem z_arr (hF : zFc p s m args c cc own nL D C4) {atype : ArrayType} {ty : FieldType} {cA0 : ClassId} {t0 N' : Nat} {wr : va_W} {n : Int32} {a0 : vp_A} (harr : Cond.arrayClass (newarray.typeOf atype) ∈ zTs) (hty : newarray.typeOf atype = ty) (ht : (zty4 C4)[t0]? = some (cA0, ty)) (hra : ∀ (U : State) (cA : ClassId), va_RA U cA ty → U.vm.findClass ("[" ++ ty.toString) = some cA)
    (ha : ∀ cA : ClassId, vp_cell cA a0 = arrV cA N' (fun _ => defaultValue ty)) (hn : ¬ n < 0) (hN : n.toNatClampNeg = N') (hbytes : N' * componentBytes ty ≤ 536870912) (hroom : cells + 1 ≤ R.cells ∧ slots + N' ≤ R.slots)
    (hP : va_P D vwCl wr H) (hD : va_D A0 wr) (hS : va_S A0 H0 H locs) (hA : ∀ q, H0.size ≤ q → A0 q) (hdg : decode cc pc = .ok (.newarray atype, 2))
    (kk : ∀ (q : Nat) (H1 : Heap), va_P D vwCl (wr ++ [(q, .inl (cA0, a0))]) H1 → va_D A0 (wr ++ [(q, .inl (cA0, a0))]) → va_S A0 H0 H1 locs → W p l e R s m args below meth c H1 locs (cells + 1) (slots + N') Q (F0 m (pc + 2) ls (.ref q :: rest))) :
    W p l e R s m args below meth c H locs cells slots Q (F0 m pc ls (.int n :: rest)) := by
  obtain ⟨hx, hb, hml, hown, hts, hpre⟩ := id hF
  refine va_newa hx hb (hts _ harr) hty hpre.1 hP hD hS hA ha hn hN hbytes hroom.1 hroom.2 hdg (fun q cA H1 hK1 hP1 hD1 hS1 => ?_)
  have e1 := hra _ _ (hK1.2 4 (cA, ty) rfl).2
  have e0 := hra _ _ (hpre.1.2 t0 _ ht).2
  obtain rfl : cA = cA0 := Option.some.inj (e1.symm.trans e0)
  exact kk q H1 hP1 hD1 hS1
/-- the ring -/
theorem z_ringA (hF : zFc p s m args c cc own nL D C4) {j N' : Nat} {wr : va_W} {n : Int32} (hcl : Cond.classLink own j "BranchedSums$State" ∈ zTs) (hn : ¬ n < 0) (hN : n.toNatClampNeg = N') (hbytes : N' * 4 ≤ 536870912) (hroom : cells + 1 ≤ R.cells ∧ slots + N' ≤ R.slots)
    (hP : va_P D vwCl wr H) (hD : va_D A0 wr) (hS : va_S A0 H0 H locs) (hA : ∀ q, H0.size ≤ q → A0 q) (hdg : decode cc pc = .ok (.anewarray j, 3))
    (kk : ∀ (q : Nat) (H1 : Heap), va_P D vwCl (wr ++ [(q, .inl (C4.2.2.2, N', .inr (.inr (.inr (.inr (fun _ => none))))))]) H1 → va_D A0 (wr ++ [(q, .inl (C4.2.2.2, N', .inr (.inr (.inr (.inr (fun _ => none))))))]) → va_S A0 H0 H1 locs → W p l e R s m args below meth c H1 locs (cells + 1) (slots + N') Q (F0 m (pc + 3) ls (.ref q :: rest))) :
    W p l e R s m args below meth c H locs cells slots Q (F0 m pc ls (.int n :: rest)) := by
  obtain ⟨hx, hb, hml, hown, hts, hpre⟩ := id hF
  refine va_newq hx hb hown (hts _ hcl) hpre.2.2 hpre.1 hP hD hS hA hn hN hbytes hroom.1 hroom.2 hdg (fun q cA H1 hK1 hP1 hD1 hS1 => ?_)
  obtain ⟨-, -, -, -, -, e1⟩ := (hK1.2 4 (cA, .object "BranchedSums$State") rfl).2
  obtain ⟨-, -, -, -, -, e0⟩ := (hpre.1.2 3 (C4.2.2.2, .object "BranchedSums$State") rfl).2
  obtain rfl : cA = C4.2.2.2 := Option.some.inj (e1.symm.trans e0)
  exact kk q H1 hP1 hD1 hS1
end ZCT
/-- a constructor out of its body, behind Object's -/
theorem zCtr.of {l : Launch} {D : va_G} {C4 : zC4} {y : MethodName} {cc : ByteArray} {ml d mc ms ci idx : Nat} {bl : List Value} {w : (Nat → Nat) → va_W} (hpl : plainName y.cls = true) (hd : 1 ≤ d) (hml1 : 1 ≤ ml) (hy : y.name = "<init>")
    (d0 : decode cc 0 = .ok (.aload_n 0, 1)) (d1 : decode cc 1 = .ok (.invokespecial idx, 3)) (hlk : Cond.methodLink y.cls idx Lib.objectInit ∈ zTs) (hob : Cond.instanceMethod Lib.objectInit ∈ zTs) (hoc : Cond.code Lib.objectInit ⟨#[0xb1]⟩ 1 none ∈ zTs)
    (body : ∀ (h0 : Nat) (p : Program) (e : Env) (s : State) (m : MethodId) (args : Array Value) (below : List Frame) (meth : Method) (c : Code) (A : Nat → Prop) (ls : Array Slot) (Q : State → Prop), zFc p s m args c cc y.cls ml D C4 → meth.name = "<init>" → (∀ q, s.heap.size ≤ q → A q) → va_P D vwCl [(h0, .inr (ci, bl))] s.heap → va_D A [(h0, .inr (ci, bl))] → lv_has ls ml [(0, .ref h0)] →
      (∀ (H : Heap) (locs : List Loc) (pc cells slots : Nat) (ls : Array Slot) (q : Nat → Nat), cells ≤ mc → slots ≤ ms → q 0 = h0 → va_P D vwCl (w q) H → va_D A (w q) → va_S A s.heap H locs → decode cc pc = .ok (.return_, 1) → W p l e (zrmC d mc ms) s m args below meth c H locs cells slots Q (F0 m pc ls [])) →
      W p l e (zrmC d mc ms) s m args below meth c s.heap [] 0 0 Q (F0 m 4 ls [])) : zCtr l D C4 y cc ml d mc ms ci bl w := by
  intro h0 sz
  refine Met.ofW (cc := cc) (maxL := ml) (ret := none) (ws' := zTs) hpl rfl ?_
  intro p e s m args below meth c s₁ B hml hv
  obtain ⟨rfl, hsz, hP, hpre⟩ := hv
  have hts0 := atoms_spec (ws := zwd y cc ml none) B.pre
  have hts : ∀ w ∈ zTs, w.before #[Value.ref h0] s = true := fun w hw => hts0 w (List.mem_cons_of_mem _ hw)
  have hF : zFc p s m #[Value.ref h0] c cc y.cls ml D C4 := ⟨B.exec, B.bytes, hml, findClass_of_methodNamed B.named, hts, hpre⟩
  have hr := B.returns
  have hlocks := B.notSynchronized
  have hin : meth.name = "<init>" := (name_of_methodNamed B.named B.method).1.trans hy
  subst hsz
  have hD0 : va_D (fun _ => True) [(h0, (.inr (ci, bl) : va_E))] := ⟨fun i j p q h1 h2 _ => by
    have a := (List.getElem?_eq_some_iff.mp h1).1
    have b := (List.getElem?_eq_some_iff.mp h2).1
    simp at a b
    omega, fun _ _ _ => trivial⟩
  have hD := hD0.self (sz := s.heap.size)
  generalize hAe : va_A [(h0, (.inr (ci, bl) : va_E))] s.heap.size = A at hD ⊢
  have hA : ∀ q : Nat, s.heap.size ≤ q → A q := fun q h => by rw [← hAe]; exact Or.inr h
  have hl := lv_entry ([.ref h0]) (n := ml) (by show 1 ≤ ml; exact hml1)
  show W p l e _ s m _ below meth c s.heap [] 0 0 _ (entryFrame m ([Value.ref h0] : List Value).toArray ml)
  rw [lg_entry_eq]
  generalize (lg_sl ([.ref h0]) ++ List.replicate (ml - (lg_sl ([.ref h0])).length) Slot.unset).toArray = ls at hl ⊢
  have hl : lv_has ls ml [(0, .ref h0)] := hl
  refine lv_aload_n hF.1 hF.2.1 d0 rfl (lv_at hl 0 rfl) ?_
  refine W.objInit hF.1 hF.2.1 hF.2.2.2.1 (hts _ hlk) (hts _ hob) (hts _ hoc) rfl (by rw [hml]; exact hl.1) rfl d1 (by show 1 ≤ d; exact hd) (by show 12 ≤ 60 * d; omega) ?_
  refine W.eq (g2 := F0 m 4 ls []) rfl ?_
  refine body h0 p e s m _ below meth c A ls _ hF hin hA hP hD hl (fun H locs pc cells slots ls q hc1 hc2 hq hPw hDw hSw hdg => ?_)
  refine W.widen (k := mc) (n := ms) hc1 hc2 ?_
  refine W.vret hF.1 hF.2.1 hr (fun t ht hW => ⟨⟨(), rfl, trivial, q, hq, by rw [ht]; exact hPw, hDw⟩, hSw.F ht⟩) hSw.2.2 hdg
