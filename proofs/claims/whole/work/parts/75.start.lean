/-! the law from its entry -/
theorem zNest.of {A : Array Value} {U : State} (h : ∀ w ∈ lw_tbl, w.before A U = true) : zNest U := by
  intro w hw hn
  cases w <;> first | exact va_Nw.of rfl (h _ hw) | exact Bool.noConfusion hn
theorem z_arrK {U : State} {args : Array Value} {ty : FieldType} (h : (Cond.arrayClass ty).before args U = true) : ∃ cA : ClassId, ArrOfT U cA ty ∧ U.vm.findClass ("[" ++ ty.toString) = some cA := by
  obtain ⟨cA, kA, comp, h1, h2, h3⟩ := Cond.arrayClass_spec h
  exact ⟨cA, fun n z => ⟨fun k h => (by cases h), kA, h2, comp, h3⟩, h1⟩
theorem z_arrO {U : State} {args : Array Value} {C : String} (h : (Cond.arrayOver (.object C)).before args U = true) : ∃ cA : ClassId, ArrOfT U cA (.object C) ∧ va_RA U cA (.object C) := by
  obtain ⟨comp, cA, kA, h1, h2, h3, h4, h5⟩ := Cond.arrayOver_spec h
  exact ⟨cA, fun n z => ⟨fun k h => (by cases h), kA, h3, comp, h4⟩, kA, comp, h3, h4, h1, h5⟩
theorem z_pre0 {s : State} {args : Array Value} (hts : ∀ w ∈ lw_tbl, w.before args s = true) : ∃ (D : va_G) (C4 : zC4), zPre D C4 s := by
  have htz : ∀ w ∈ zTs, w.before args s = true := fun w hw => hts w (List.mem_filter.mp hw).1
  have h : ∀ (c : Nat) (q : vw_C), vwCl[c]? = some q → ∃ (cC : ClassId) (iS : Nat → Nat), u_Kn s q.1 q.2.1 q.2.2 cC iS := by
    intro c q hq
    have hin := (zcl c q hq).2.2
    rcases c with _ | _ | _ | _ | _ | _ | _ | c
    · cases hq; exact u_known (n := 6) htz hin (htz (.instantiable RX0 6) (zgw_spec (i := 74) (by decide +kernel)))
    · cases hq; exact u_known (n := 3) htz hin (htz (.instantiable RX1 3) (zgw_spec (i := 151) (by decide +kernel)))
    · cases hq; exact u_known (n := 2) htz hin (htz (.instantiable RX2 2) (zgw_spec (i := 106) (by decide +kernel)))
    · cases hq; exact u_known (n := 7) htz hin (htz (.instantiable RX3 7) (zgw_spec (i := 68) (by decide +kernel)))
    · cases hq; exact u_known (n := 7) htz hin (htz (.instantiable RX4 7) (zgw_spec (i := 171) (by decide +kernel)))
    · cases hq; exact u_known (n := 6) htz hin (htz (.instantiable RX5 6) (zgw_spec (i := 60) (by decide +kernel)))
    · cases hq; exact u_known (n := 13) htz hin (htz (.instantiable RX6 13) (zgw_spec (i := 610) (by decide +kernel)))
    · cases hq
  have h' : ∀ c : Nat, ∃ (cC : ClassId) (iS : Nat → Nat), ∀ q : vw_C, vwCl[c]? = some q → u_Kn s q.1 q.2.1 q.2.2 cC iS := by
    intro c
    cases hq : vwCl[c]? with
    | none => exact ⟨0, fun _ => 0, fun q h => by cases h⟩
    | some q0 =>
      obtain ⟨cC, iS, hk⟩ := h c q0 hq
      exact ⟨cC, iS, fun q h => by cases h; exact hk⟩
  obtain ⟨cI, i1, i2⟩ := z_arrK (htz (.arrayClass .int) (zgw_spec (i := 104) (by decide +kernel)))
  obtain ⟨cC, c1, c2⟩ := z_arrK (htz (.arrayClass .char) (zgw_spec (i := 203) (by decide +kernel)))
  obtain ⟨cL, l1, l2⟩ := z_arrK (htz (.arrayClass .long) (zgw_spec (i := 120) (by decide +kernel)))
  have hao := hts (.arrayOver (.object "BranchedSums$State")) (List.mem_of_getElem? (i := 157) (by decide +kernel))
  obtain ⟨cS, s1, s2⟩ := z_arrO hao
  refine ⟨(fun c => Classical.choose (h' c), fun c => Classical.choose (Classical.choose_spec (h' c))), (cI, cC, cL, cS), ⟨fun c q hq => Classical.choose_spec (Classical.choose_spec (h' c)) q hq, fun k q hq => ?_⟩, zNest.of hts, va_AO.of hao⟩
  rcases k with _ | _ | _ | _ | k
  · cases hq; exact ⟨i1, i2⟩
  · cases hq; exact ⟨c1, c2⟩
  · cases hq; exact ⟨l1, l2⟩
  · cases hq; exact ⟨s1, s2⟩
  · cases hq
set_option maxHeartbeats 4000000 in
set_option maxRecDepth 100000 in
/-- the law from its entry, for every script of at most 2048 ints -/
theorem whole_start {p : Program} {e : Env} {s : State} {m : MethodId} {below : List Frame} {meth : Method} {c : Code} (l : Launch) (hflags : l.flags = flags0) {b L : Nat} {xs : Nat → Int32} (hL : L ≤ 2048) (C0 : lw_At p s m meth c b L xs) : W p l e room_1 s m #[Value.ref b] below meth c s.heap [] 0 0 (lw_Z below #[Value.ref b] s) (entryFrame m ([Value.ref b] : List Value).toArray 4) := by
  obtain ⟨hx, hb, hr, hml, hown, htl, hX, hbl, hlocks, hgv⟩ := id C0
  have hts : ∀ w ∈ zTs, w.before #[Value.ref b] s = true := fun w hw => htl w (List.mem_filter.mp hw).1
  obtain ⟨D, C4, hpre⟩ := z_pre0 htl
  have hF : zLF p s m c b L xs D C4 := ⟨hx, hb, hml, hown, hts, hpre, hX, hbl⟩
  have hF0 : zFc p s m #[Value.ref b] c code R_law 4 D C4 := ⟨hx, hb, hml, hown, hts, hpre⟩
  have hA0 : ∀ q : Nat, s.heap.size ≤ q → (fun q : Nat => s.heap.size ≤ q) q := fun _ h => h
  have hS : va_S (fun q : Nat => s.heap.size ≤ q) s.heap s.heap [] := va_S.rf
  have hP : va_P D vwCl [] s.heap := fun k q h => by simp at h
  have hD : va_D (fun q : Nat => s.heap.size ≤ q) [] := ⟨fun i j p q h => by simp at h, fun k q h => by simp at h⟩
  have hl := lv_entry ([.ref b]) (n := 4) (Nat.le_of_ble_eq_true rfl)
  rw [lg_entry_eq]
  generalize (lg_sl ([.ref b]) ++ List.replicate (4 - (lg_sl ([.ref b])).length) Slot.unset).toArray = ls at hl ⊢
  have hl : lv_has ls 4 [(0, .ref b)] := hl
  have hfsX5 : ∀ j, j < 6 → defaultValue (tyX5 j) = vp_V [.null, .null, .null, .null, .null, .int (zJ 0)] j := fun j hj => by
    rcases (show j = 0 ∨ j = 1 ∨ j = 2 ∨ j = 3 ∨ j = 4 ∨ j = 5 by omega) with rfl | rfl | rfl | rfl | rfl | rfl <;> first | rfl | (show Value.int 0 = Value.int (zJ 0); rw [zJ_0])
  refine z_new hF0 (k_BS l D C4) false (zgw_spec (i := 63) (by decide +kernel)) (zgw_spec (i := 49) (by decide +kernel)) (zgw_spec (i := 62) (by decide +kernel)) rfl (by decide +kernel) (show Cond.methodLink R_law 9 yX5_init ∈ zTs from (zgw_spec (i := 61) (by decide +kernel))) tyX5 tyX5_ok (zgw_spec (i := 59) (by decide +kernel)) (zgw_spec (i := 60) (by decide +kernel)) rfl rfl hfsX5 ⟨Nat.le_of_ble_eq_true rfl, Nat.le_of_ble_eq_true rfl⟩ ⟨Nat.le_of_ble_eq_true rfl, Nat.le_of_ble_eq_true rfl⟩ hP hD hS hA0 hl.1 (Nat.le_of_ble_eq_true rfl) d_law_0 d_law_3 d_law_4 (fun qa H locs hP hD hS => ?_)
  have hP : va_P D vwCl (wBS C4 qa) H := hP
  have hD : va_D (fun q : Nat => s.heap.size ≤ q) (wBS C4 qa) := hD
  refine lv_astore_n (lv' := [(1, .ref (qa 0)), (0, .ref b)]) hx hb d_law_7 rfl hl (by decide) rfl (fun ls hl => ?_)
  have hfsX6 : ∀ j, j < 13 → defaultValue (tyX6 j) = vp_V [.null, .null, .null, .int (zJ 0), .null, .int (zJ 0), .null, .int (zJ 0), .int (zJ 0), .int (zJ 0), .null, .int (zJ 0), .null] j := fun j hj => by
    rcases (show j = 0 ∨ j = 1 ∨ j = 2 ∨ j = 3 ∨ j = 4 ∨ j = 5 ∨ j = 6 ∨ j = 7 ∨ j = 8 ∨ j = 9 ∨ j = 10 ∨ j = 11 ∨ j = 12 by omega) with rfl | rfl | rfl | rfl | rfl | rfl | rfl | rfl | rfl | rfl | rfl | rfl | rfl <;> first | rfl | (show Value.int 0 = Value.int (zJ 0); rw [zJ_0])
  refine z_new hF0 (k_Model l D C4) false (zgw_spec (i := 613) (by decide +kernel)) (zgw_spec (i := 55) (by decide +kernel)) (zgw_spec (i := 612) (by decide +kernel)) rfl (by decide +kernel) (show Cond.methodLink R_law 12 yX6_init ∈ zTs from (zgw_spec (i := 611) (by decide +kernel))) tyX6 tyX6_ok (zgw_spec (i := 609) (by decide +kernel)) (zgw_spec (i := 610) (by decide +kernel)) rfl rfl hfsX6 ⟨Nat.le_of_ble_eq_true rfl, Nat.le_of_ble_eq_true rfl⟩ ⟨Nat.le_of_ble_eq_true rfl, Nat.le_of_ble_eq_true rfl⟩ hP hD hS hA0 hl.1 (Nat.le_of_ble_eq_true rfl) d_law_8 d_law_11 d_law_12 (fun qm H locs hP hD hS => ?_)
  have hP : va_P D vwCl (zL0 C4 qa qm) H := hP
  have hD : va_D (fun q : Nat => s.heap.size ≤ q) (zL0 C4 qa qm) := hD
  refine lv_astore_n (lv' := [(2, .ref (qm 0)), (1, .ref (qa 0)), (0, .ref b)]) hx hb d_law_15 rfl hl (by decide) rfl (fun ls hl => ?_)
  refine lv_iconst (v := zJ 0) hx hb d_law_16 rfl ?_
  refine lv_istore_n (lv' := [(3, .int (zJ 0)), (2, .ref (qm 0)), (1, .ref (qa 0)), (0, .ref b)]) hx hb d_law_17 rfl hl (by decide) rfl (fun ls hl => ?_)
  obtain ⟨hin, hA, hPz⟩ := z_inj hP hD
  exact law_loop (D := D) (C4 := C4) (ad := zad qa qm) hF hL hr hlocks ⟨Nat.le_of_ble_eq_true rfl, Nat.le_of_ble_eq_true rfl⟩ hin hA L 0 g0 H _ ls (by omega) (by omega) J0 ⟨hPz, hS⟩ (lv_sub hl [0, 3, 2, 1] rfl)
set_option maxHeartbeats 4000000 in
theorem lw_walk (l : Launch) (hflags : l.flags = flags0) (b : Addr) (xs : List Int32) : MetFree l x (headSpec (Jvm.Cond.code x code maxLocals ret :: tables_1) room_1) (lw_P b xs) (fun _ _ _ _ _ => True) lw_Q := by
  refine MetFree.of_bodyS (code := code) (maxLocals := maxLocals) (ret := ret) (by decide) ?_ ?_
  · intro args s m h hn
    obtain ⟨meth, c, h1, h2, h3, h4, h5, h6, -, -⟩ := Cond.code_spec hn (atoms_spec (ws := Jvm.Cond.code x code maxLocals ret :: tables_1) h _ List.mem_cons_self)
    exact ⟨meth, c, h1, h2, h3, h4, h5, h6⟩
  · intro p e s m args below meth c s₁ B hml0 hP _
    obtain ⟨rfl, hx, hbd, hgv⟩ := hP
    obtain ⟨scr, harrAt, hlist, hof, hsmall⟩ := hx
    obtain ⟨hcb, hkn, -, -⟩ := State.arrayAt?_spec harrAt
    have hown : s.vm.findClass R_law = some m.cls := findClass_of_methodNamed B.named
    have hts0 : ∀ c ∈ (Jvm.Cond.code x code maxLocals ret :: tables_1), c.before #[Value.ref b] s = true := atoms_spec (ws := Jvm.Cond.code x code maxLocals ret :: tables_1) B.pre
    have hts : ∀ w ∈ lw_tbl, w.before #[Value.ref b] s = true := k2_hts_sels lw_privs (fun w hw => hts0 w (List.mem_cons_of_mem _ hw)) lw_privs_ok
    have hml : c.maxLocals = 4 := B.maxLocals_eq (hts0 _ List.mem_cons_self)
    have X₀ : Stand p l e room_1 s m #[Value.ref b] below meth c s₁ [] 0 0 := Stand.of_body B
    have hh0 : s₁.heap = s.heap := by rw [B.state]; rfl
    have hsz : scr.slots.size = xs.length := by rw [← Array.length_toList, hlist, List.length_map]
    have hval : ∀ j : Nat, j < xs.length → scr.slots[j]? = some (.int (xs.getD j 0)) := fun j hj => by
      rw [← Array.getElem?_toList, hlist]
      simp [hj]
    have hbl : b < s.heap.size := (Array.getElem?_eq_some_iff.mp hcb).1
    have hX : va_X b xs.length (fun j => xs.getD j 0) s s.heap := ⟨scr, hcb, hof, hkn, hsz, hval⟩
    have K : W p l e room_1 s m #[Value.ref b] below meth c s₁.heap [] 0 0 (lw_Z below #[Value.ref b] s) (entryFrame m ([Value.ref b] : List Value).toArray 4) := by
      rw [hh0]
      exact whole_start l hflags hbd ⟨B.exec, B.bytes, B.returns, hml, hown, hts, hX, hbl, B.notSynchronized, hgv⟩
    obtain ⟨t, a1, o, b1, b2, b3⟩ := K s₁ rfl X₀
    exact ⟨t, o, a1, b1, b2, b3⟩
theorem lw_pre_spec {args : Array Value} {s : State} (h : (Jvm.Cond.and given_1 narrow_1).before args s = true) (hr : rest_1_c.before args s = true) : ∃ (b : Addr) (xs : List Int32), lw_P b xs args s := by
  have hs := flat_of_before _ h
  have hq := flat_of_before _ hr
  have hc : (Cond.count 1).before args s = true := hs _ (by decide +kernel)
  have harr : (Cond.arrayOf (.arg 0) .int).before args s = true := hs _ (by decide +kernel)
  have hle : (Cond.le (.length (.arg 0)) (.int 2048)).before args s = true := hs _ (by decide +kernel)
  have hlen : (Cond.isInt (.length (.arg 0))).before args s = true := hq _ (by decide +kernel)
  have hall : (Cond.all (.arg 0) (.isInt (.elem (.arg 0) (.index 0)))).before args s = true := hq _ (by decide +kernel)
  obtain ⟨b, xs, hb, hx⟩ := State.ints_of_pre rfl harr hlen hall
  have hsm : xs.length < 2 ^ 31 := hx.choose_spec.2.2.2
  have hev : (Term.length (.arg 0)).eval args s none [] s = some (.int xs.length.toInt32) := hx.length_eval hb
  have hv := Cond.le_ints hev (show (Term.int 2048).eval args s none [] s = some (.int 2048) from rfl)
  have hd : xs.length.toInt32 ≤ 2048 := by
    simpa [Cond.before, Cond.holds, hv] using hle
  have hN : xs.length ≤ 2048 := (Int32.ofNat_le_ofNat hsm (by decide)).mp (show Int32.ofNat xs.length ≤ Int32.ofNat 2048 from hd)
  exact ⟨b, xs, Cond.one_arg hc (show args[0]? = some (.ref b) from hb), hx, hN, h⟩
theorem lw_comes (l : Launch) (hflags : l.flags = flags0) : Comes l x (Jvm.Cond.code x code maxLocals ret :: tables_1) room_1 (fun tb e args s => Calls_1 tb e args s ∧ rest_1 tb e args s ∧ Pre_1 tb e args s)
    (fun _ _ args s o t => lw_Q args s o t) := by
  intro p e ha hc hk s m args below hf hfit hheap happ hpre
  obtain ⟨b, xs, hP⟩ := lw_pre_spec hpre.2.2 hpre.2.1
  obtain ⟨k, o, h1, h2, h3, hQ⟩ := lw_walk l hflags b xs p e ha hc hk s m args below hf ((Spec.applies_iff_loose hf).mp happ).1 hP trivial
  exact ⟨k, o, h1, h2, h3, hQ⟩
theorem lw_frame {s t : State} {o : Outcome} {args : Array Value} (h : Framed s o t [] 600000 7302249) :
    Framed s o t (fieldLocs frame_1_writes args s ++ arrayLocs frame_1_arrays args s ++ staticLocs frame_1_statics s) 600000 7302249 := h
theorem lw_limb (L : Cond) (hL : ∀ (args : Array Value) (s t : State), L.after args s (.returned (some (.int 1))) t = true) :
    ArmFor flags0 classFile x code maxLocals ret World_1 tables_1 room_1 Calls_1 rest_1 Pre_1
      (fun tb e a s o t => postC L tb e a s o t ∧ Framed s o t (fieldLocs frame_1_writes a s ++ arrayLocs frame_1_arrays a s ++ staticLocs frame_1_statics s) 600000 7302249) := by
  intro l hflags _ _ p e ha hc hk s m args below hf hfit hheap happ hpre
  obtain ⟨k, o, h1, h2, h3, rfl, hF⟩ := lw_comes l hflags p e ha hc hk s m args below hf hfit hheap happ hpre
  exact ⟨k, _, h1, h2, h3, hL args s _, lw_frame hF⟩
theorem i_vc : Claimed_1_1 ∧ Claimed_1_2 := ⟨lw_limb limb_1_1 (fun args s t => by simp [limb_1_1, Cond.after, Cond.holds, Cond.value]), lw_limb limb_1_2 (fun args s t => Cond.after_iff.mpr (by
  first | (rw [show limb_1_2 = Cond.eq .result (.int 1) from rfl, Cond.eq_ints (x := 1) (y := 1) rfl rfl]; simp; done) | (simp [limb_1_2, Cond.value, Term.eval]; done)))⟩
