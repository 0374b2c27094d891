def zisret (i : Instr) : Bool := match i with
  | .ireturn => true
  | .areturn => true
  | .return_ => true
  | _ => false
section ZU
variable {p : Program} {l : Launch} {e : Env} {d : Nat} {s : State} {m : MethodId} {args : Array Value} {below : List Frame} {meth : Method} {c : Code} {Z : zG} {cc : ByteArray} {own : String} {nL : Nat} {ret : Option FieldType} {cd : List zE} {cells slots : Nat} {R : Room} {sr : Int → Int} {A0 : Nat → Prop} {H0 : Heap} {Qw : State → Prop}
theorem zstep_snd (hF : zFr p s m args c cc own nL Z A0 sr H0 R d cells slots) (hO : ∀ x, zMet l d x) {Q : zP} {K : zK} (hRet : ∀ (e0 : zE) (nx : zX), zisret e0.1 = true → zechk own cc ret cd e0 = true → ∀ (ls st : List zV) (g : zM), ystep (yC d) Q K e0 nx ls st g → zGo p l e s m args below meth c Qw Z A0 H0 sr R cells slots nL e0.2.1 ls st g) {nx : zX} (e0 : zE) (hck : zechk own cc ret cd e0 = true)
    (hK : ∀ t ls st g, K t ls st g → ∀ e', cd[t]? = some e' → zGo p l e s m args below meth c Qw Z A0 H0 sr R cells slots nL e'.2.1 ls st g)
    (hn : (∀ a b c d, e0.1 ≠ .tableswitch a b c d) → ∀ ls st g, nx ls st g → zGo p l e s m args below meth c Qw Z A0 H0 sr R cells slots nL (e0.2.1 + zlen e0.1) ls st g) :
    ∀ (ls st : List zV) (g : zM), ystep (yC d) Q K e0 nx ls st g → zGo p l e s m args below meth c Qw Z A0 H0 sr R cells slots nL e0.2.1 ls st g := by
  intro ls st g h
  obtain ⟨ins, pc, x, y, z, v, lx⟩ := e0
  cases ins
  case tableswitch a b c d => exact zs_tableswitch hF hO hck hK h
  all_goals (have hn := hn (fun _ _ _ _ q => by cases q))
  case iconst n => exact zs_iconst hF hO hck hK hn h
  case bipush n => exact zs_bipush hF hO hck hK hn h
  case sipush n => exact zs_sipush hF hO hck hK hn h
  case ldc n => exact zs_ldc hF hO hck hK hn h
  case ldc_w n => exact zs_ldcw hF hO hck hK hn h
  case ldc2_w n => exact zs_ldc2 hF hO hck hK hn h
  case aconst_null => exact zs_null hF hO hck hK hn h
  case iload_n n => exact zs_iload_n hF hO hck hK hn h
  case iload n => exact zs_iload hF hO hck hK hn h
  case aload_n n => exact zs_aload_n hF hO hck hK hn h
  case aload n => exact zs_aload hF hO hck hK hn h
  case istore_n n => exact zs_istore_n hF hO hck hK hn h
  case istore n => exact zs_istore hF hO hck hK hn h
  case astore_n n => exact zs_astore_n hF hO hck hK hn h
  case astore n => exact zs_astore hF hO hck hK hn h
  case iinc k n => exact zs_iinc hF hO hck hK hn h
  case iadd => exact zs_iadd hF hO hck hK hn h
  case isub => exact zs_isub hF hO hck hK hn h
  case imul => exact zs_imul hF hO hck hK hn h
  case iand => exact zs_iand hF hO hck hK hn h
  case ior => exact zs_ior hF hO hck hK hn h
  case ixor => exact zs_ixor hF hO hck hK hn h
  case ishl => exact zs_ishl hF hO hck hK hn h
  case ishr => exact zs_ishr hF hO hck hK hn h
  case iushr => exact zs_iushr hF hO hck hK hn h
  case idiv => exact zs_idiv hF hO hck hK hn h
  case irem => exact zs_irem hF hO hck hK hn h
  case i2c => exact zs_i2c hF hO hck hK hn h
  case i2l => exact zs_i2l hF hO hck hK hn h
  case l2i => exact zs_l2i hF hO hck hK hn h
  case lor => exact zs_lor hF hO hck hK hn h
  case land => exact zs_land hF hO hck hK hn h
  case lshl => exact zs_lshl hF hO hck hK hn h
  case lushr => exact zs_lushr hF hO hck hK hn h
  case dup => exact zs_dup hF hO hck hK hn h
  case dup2 => exact zs_dup2 hF hO hck hK hn h
  case ifCond a b => exact zs_ifCond hF hO hck hK hn h
  case if_icmp a b => exact zs_if_icmp hF hO hck hK hn h
  case ifnull a => exact zs_ifnull hF hO hck hK hn h
  case goto a => exact zs_goto hF hO hck hK hn h
  case arraylength => exact zs_arraylength hF hO hck hK hn h
  case iaload => exact zs_iaload hF hO hck hK hn h
  case caload => exact zs_caload hF hO hck hK hn h
  case laload => exact zs_laload hF hO hck hK hn h
  case aaload => exact zs_aaload hF hO hck hK hn h
  case iastore => exact zs_iastore hF hO hck hK hn h
  case castore => exact zs_castore hF hO hck hK hn h
  case lastore => exact zs_lastore hF hO hck hK hn h
  case getfield i => exact zs_getfield hF hO hck hK hn h
  case putfield i => exact zs_putfield hF hO hck hK hn h
  case invokevirtual i => exact zs_invokevirtual hF hO hck hK hn h
  case invokestatic i => exact zs_invokestatic hF hO hck hK hn h
  case ireturn => exact hRet (.ireturn, pc, x, y, z, v, lx) _ rfl hck ls st g h
  case areturn => exact hRet (.areturn, pc, x, y, z, v, lx) _ rfl hck ls st g h
  case return_ => exact hRet (.return_, pc, x, y, z, v, lx) _ rfl hck ls st g h
  case pop => exact zs_pop hF hO hck hK hn h
  case saload => exact absurd hck (by simp [zechk])
  all_goals exact False.elim h
theorem zcchk_drop (own : String) (cc : ByteArray) (ret : Option FieldType) (cd : List zE) : ∀ (t : Nat) (es : List zE), zcchk own cc ret cd es = true → zcchk own cc ret cd (es.drop t) = true
  | 0, _, h => h
  | _ + 1, [], h => h
  | t + 1, [e], h => by
    rw [List.drop_succ_cons, List.drop_nil]
    rfl
  | t + 1, e :: e' :: es, h => by
    rw [List.drop_succ_cons]
    refine zcchk_drop own cc ret cd t (e' :: es) ?_
    rw [zcchk, Bool.and_eq_true, Bool.and_eq_true] at h
    exact h.2
theorem zrun_snd (hF : zFr p s m args c cc own nL Z A0 sr H0 R d cells slots) (hO : ∀ x, zMet l d x) {Q : zP} {K : zK} (hRet : ∀ (e0 : zE) (nx : zX), zisret e0.1 = true → zechk own cc ret cd e0 = true → ∀ (ls st : List zV) (g : zM), ystep (yC d) Q K e0 nx ls st g → zGo p l e s m args below meth c Qw Z A0 H0 sr R cells slots nL e0.2.1 ls st g)
    (hK : ∀ t ls st g, K t ls st g → ∀ e', cd[t]? = some e' → zGo p l e s m args below meth c Qw Z A0 H0 sr R cells slots nL e'.2.1 ls st g) :
    ∀ (es : List zE), zcchk own cc ret cd es = true → ∀ (ls st : List zV) (g : zM), yrun (yC d) Q K es ls st g → ∀ e0 es0, es = e0 :: es0 → zGo p l e s m args below meth c Qw Z A0 H0 sr R cells slots nL e0.2.1 ls st g := by
  intro es
  induction es with
  | nil => intro _ _ _ _ _ e0 es0 h; cases h
  | cons e1 es ih =>
    intro hck ls st g h e0 es0 he
    cases he
    cases es with
    | nil => exact zstep_snd hF hO hRet e1 hck hK (fun _ ls st g q => False.elim q) ls st g h
    | cons e2 es2 =>
      rw [zcchk, Bool.and_eq_true, Bool.and_eq_true] at hck
      obtain ⟨⟨h1, h2⟩, h3⟩ := hck
      refine zstep_snd hF hO hRet e1 h1 hK (fun hne ls st g q => ?_) ls st g h
      have k := ih h3 ls st g q e2 es2 rfl
      have e3 : e2.2.1 = e1.2.1 + zlen e1.1 := by
        obtain ⟨ins, r⟩ := e1
        cases ins <;> first | exact (hne _ _ _ _ rfl).elim | exact of_decide_eq_true h2
      rw [e3] at k
      exact k
theorem zargs (ad : Nat → Nat) : ∀ (as : List zV) (i0 : Nat), (∀ v ∈ as, zcat v = 1) → ∀ (j : Nat) (v : zV), as[j]? = some v → (i0 + j, zv ad v) ∈ lv_args i0 (as.map (zv ad))
  | [], _, _, j, v, h => by simp at h
  | a :: as, i0, hc, 0, v, h => by
    cases h
    exact List.mem_cons_self
  | a :: as, i0, hc, j + 1, v, h => by
    have h1 : ¬ (zv ad a).category = 2 := by rw [zcat_v, hc a List.mem_cons_self]; decide
    have h2 := zargs ad as (i0 + 1) (fun w hw => hc w (List.mem_cons_of_mem _ hw)) j v (by simpa using h)
    show _ ∈ (i0, zv ad a) :: lv_args (if (zv ad a).category = 2 then i0 + 2 else i0 + 1) (as.map (zv ad))
    rw [if_neg h1]
    have e : i0 + (j + 1) = i0 + 1 + j := by omega
    rw [e]
    exact List.mem_cons_of_mem _ h2
theorem zsl_len (ad : Nat → Nat) : ∀ (as : List zV), (∀ v ∈ as, zcat v = 1) → (lg_sl (as.map (zv ad))).length = as.length
  | [], _ => rfl
  | a :: as, hc => by
    have h1 : ¬ (zv ad a).category = 2 := by rw [zcat_v, hc a List.mem_cons_self]; decide
    have h2 := zsl_len ad as (fun w hw => hc w (List.mem_cons_of_mem _ hw))
    unfold lg_sl at h2 ⊢
    rw [List.map_cons, List.flatMap_cons, if_neg h1, List.length_append, h2]
    simp
    omega

/-- the ends of a method -/
theorem zret_snd (hF : zFr p s m args c cc own nL Z (zA Z) sr s.heap (zrm (d + 1)) d 0 0) (hO : ∀ x, zMet l d x) (hret : meth.sig.returnType = ret) (hlocks : meth.locks = false) {Q : zP} {K : zK} :
    ∀ (e0 : zE) (nx : zX), zisret e0.1 = true → zechk own cc ret cd e0 = true → ∀ (ls st : List zV) (g : zM), ystep (yC d) Q K e0 nx ls st g → zGo p l e s m args below meth c (zEnd below Z sr Q args s) Z (zA Z) s.heap sr (zrm (d + 1)) 0 0 nL e0.2.1 ls st g := by
  intro e0 nx hi hck ls st g h
  obtain ⟨ins, pc, x, y, z, v, lx⟩ := e0
  cases ins
  case ireturn => exact zs_ireturn hF hO hret hlocks hck (K := fun _ _ _ _ => False) (fun _ _ _ _ q => q.elim) (nx := fun _ _ _ => False) (fun _ _ _ q => q.elim) h
  case areturn => exact zs_areturn hF hO hret hlocks hck (K := fun _ _ _ _ => False) (fun _ _ _ _ q => q.elim) (nx := fun _ _ _ => False) (fun _ _ _ q => q.elim) h
  case return_ => exact zs_return_ hF hO hret hlocks hck (K := fun _ _ _ _ => False) (fun _ _ _ _ q => q.elim) (nx := fun _ _ _ => False) (fun _ _ _ q => q.elim) h
  all_goals exact Bool.noConfusion hi
end ZU

theorem ycell_no : ∀ m, m < 157 → (zMI[m]?.map (fun I => I.2.2.2.2.getD 4 0)) = some 1 → m = 150 := by decide +kernel
theorem ycell_0 : decode cL_cell 0 = .ok (.iload_n 1, 1) := by decide +kernel
theorem ycell_1 : decode cL_cell 1 = .ok (.aload_n 0, 1) := by decide +kernel
theorem ycell_2 : decode cL_cell 2 = .ok (.arraylength, 1) := by decide +kernel
theorem ycell_3 : decode cL_cell 3 = .ok (.if_icmp .ge 9, 3) := by decide +kernel
theorem ycell_6 : decode cL_cell 6 = .ok (.aload_n 0, 1) := by decide +kernel
theorem ycell_7 : decode cL_cell 7 = .ok (.iload_n 1, 1) := by decide +kernel
theorem ycell_8 : decode cL_cell 8 = .ok (.iaload, 1) := by decide +kernel
theorem ycell_9 : decode cL_cell 9 = .ok (.goto 11, 3) := by decide +kernel
theorem ycell_12 : decode cL_cell 12 = .ok (.ldc 8, 2) := by decide +kernel
theorem ycell_14 : decode cL_cell 14 = .ok (.iload_n 1, 1) := by decide +kernel
theorem ycell_15 : decode cL_cell 15 = .ok (.imul, 1) := by decide +kernel
theorem ycell_16 : decode cL_cell 16 = .ok (.sipush 977, 3) := by decide +kernel
theorem ycell_19 : decode cL_cell 19 = .ok (.iadd, 1) := by decide +kernel
theorem ycell_20 : decode cL_cell 20 = .ok (.ireturn, 1) := by decide +kernel
theorem ycell_k : Cond.constant RL 8 (zJ 40503) ∈ zTs := zgw_spec (i := 259) (by decide +kernel)
/-- what the small machine says of the reader -/
theorem ycell_inv {d : Nat} {as : List zV} {g : zM} {Q : zP} (h : yC (d + 1) 150 as g Q) : ∃ k : Int, as = [zR 72, zI k] ∧ (0 ≤ k ∧ k < 68) ∧ Q (some (zI (g 72 k))) g := by
  obtain ⟨M, h1, ⟨h2, h3⟩, hW⟩ := h
  cases (zm_L_cell).symm.trans h1
  rcases as with _ | ⟨a, _ | ⟨b, _ | ⟨c, r⟩⟩⟩
  · exact absurd h2 (by simp)
  · exact absurd h2 (by simp)
  · have key := hW (fun t ls st g' => t = 0 → ls = [a, b] → st = [] → g' = g → ∃ k : Int, [a, b] = [zR 72, zI k] ∧ (0 ≤ k ∧ k < 68) ∧ Q (some (zI (g 72 k))) g) (fun t ls st g' hr ht hls hst hg => by
      subst ht hls hst hg
      revert hr
      rcases a with a | (_ | a) | a | a <;> rcases b with b | b | b | b <;> intro hr <;> first | exact False.elim hr | skip
      obtain ⟨⟨c0, c1⟩, -, c2⟩ := hr
      subst c0
      exact ⟨b, rfl, c1, c2⟩) rfl rfl rfl rfl
    exact key
  · exact absurd h2 (by simp)
section ZV
variable {p : Program} {l : Launch}
set_option maxHeartbeats 1000000 in
/-- the reader itself, over the machine -/
theorem zsnd_cell (d : Nat) (Z : zG) (sr : Int → Int) (hin : zinj Z) (as : List zV) (g : zM) (Q : zP) (hC : yC (d + 1) 150 as g Q) (M : List zE × Nat × Nat) (I : zI5) (hM : zMT[150]? = some M) (hI : zMI[150]? = some I) : Met l I.1 (zwd I.1 I.2.1 M.2.2 I.2.2.1) (zrm (d + 1)) (zPc Z sr as g) (zQc Z sr Q) 0 0 (zA Z) := by
  cases (zm_L_cell).symm.trans hM
  obtain ⟨I', hI', hz⟩ := zk_all 150 _ hM
  cases hI.symm.trans hI'
  have hI2 : I = (yL_cell, cL_cell, some .int, true, I.2.2.2.2) ∧ I.2.2.2.2 ≠ [] := by
    cases hI
    exact ⟨rfl, by decide⟩
  obtain ⟨hIe, hne⟩ := hI2
  generalize hix : I.2.2.2.2 = ix at hIe hne
  subst hIe
  obtain ⟨k0, ⟨q1, q2, q3, q4, q5, q6, q7⟩, k1, k2, k3, k4⟩ := zts_of hz hne
  obtain ⟨k, rfl, ⟨hk0, hk1⟩, hQ⟩ := ycell_inv hC
  refine Met.ofW (cc := cL_cell) (maxL := 2) (ret := some .int) (ws' := zTs) q3 rfl ?_
  intro p e s m args below meth c s₁ B hml hv
  obtain ⟨rfl, hP, hK, hN, ⟨hSc, hScA⟩, h72⟩ := hv
  have hts0 := atoms_spec (ws := zwd yL_cell cL_cell 2 (some .int)) B.pre
  have hts : ∀ w ∈ zTs, w.before ([zR 72, zI k].map (zv Z.2.2)).toArray s = true := fun w hw => hts0 w (List.mem_cons_of_mem _ hw)
  have hx := B.exec
  have hb := B.bytes
  have hown := findClass_of_methodNamed B.named
  obtain ⟨L, xs, hL, hX, hsr⟩ := hSc
  have hbl : Z.2.2 72 < s.heap.size := by
    obtain ⟨scr, h1, -⟩ := hX
    exact (Array.getElem?_eq_some_iff.mp h1).1
  have hl := lv_entry ([.ref (Z.2.2 72), .int (zJ k)]) (n := 2) (Nat.le_of_ble_eq_true rfl)
  show W p l e (zrm (d + 1)) s m ([Value.ref (Z.2.2 72), Value.int (zJ k)]).toArray below meth c s.heap [] 0 0 (MQ below (zQc Z sr Q) ([Value.ref (Z.2.2 72), Value.int (zJ k)]).toArray s 0 0 (zA Z)) _
  rw [lg_entry_eq]
  change W p l e (zrm (d + 1)) s m ([Value.ref (Z.2.2 72), Value.int (zJ k)]).toArray below meth c s.heap [] 0 0 (MQ below (zQc Z sr Q) ([Value.ref (Z.2.2 72), Value.int (zJ k)]).toArray s 0 0 (zA Z)) (F0 m 0 (lg_sl ([Value.ref (Z.2.2 72), Value.int (zJ k)]) ++ List.replicate (2 - (lg_sl ([Value.ref (Z.2.2 72), Value.int (zJ k)])).length) Slot.unset).toArray [])
  generalize (lg_sl ([Value.ref (Z.2.2 72), Value.int (zJ k)]) ++ List.replicate (2 - (lg_sl ([Value.ref (Z.2.2 72), Value.int (zJ k)])).length) Slot.unset).toArray = ls at hl ⊢
  have hl : lv_has ls 2 [(0, .ref (Z.2.2 72)), (1, .int (zJ k))] := hl
  have hS : va_S (zA Z) s.heap s.heap [] := va_S.rf
  have hkn : ((k.toNat : Nat) : Int) = k := Int.toNat_of_nonneg hk0
  have hval := hsr k.toNat (by omega)
  rw [hkn] at hval
  have fin : ∀ (pc : Nat) (v : Int), decode cL_cell pc = .ok (.ireturn, 1) → zJ v = zJ (g 72 k) → W p l e (zrm (d + 1)) s m ([Value.ref (Z.2.2 72), Value.int (zJ k)]).toArray below meth c s.heap [] 0 0 (MQ below (zQc Z sr Q) ([Value.ref (Z.2.2 72), Value.int (zJ k)]).toArray s 0 0 (zA Z)) (F0 m pc ls [.int (zJ v)]) := by
    intro pc v hd hv
    rw [hv]
    exact W.zret (ty := .int) hx hb B.returns rfl (fun t ht _ => ⟨⟨some (zI (g 72 k)), g, rfl, hQ, by rw [ht]; exact hP, h72⟩, hS.F ht⟩) hS.2.2 hd B.notSynchronized
  refine lv_iload_n hx hb ycell_0 rfl (lv_at hl 1 rfl) ?_
  refine lv_aload_n hx hb ycell_1 rfl (lv_at hl 0 rfl) ?_
  refine va_slen hx hb hX hbl hScA hS ycell_2 ?_
  rw [← zJ_nat]
  refine lv_icmp_ge (tgt := 12) hx hb ycell_3 (by decide) (fun h => ?_) (fun h => ?_)
  · have hge : (L : Int) ≤ k := (zJ_le (by omega) (by omega)).mp h
    refine lv_ldc (v := zJ 40503) hx hb hown (hts _ ycell_k) ycell_12 ?_
    refine lv_iload_n hx hb ycell_14 rfl (lv_at hl 1 rfl) ?_
    refine lv_imul hx hb ycell_15 ?_
    rw [zJ_mul]
    refine lv_sipush (v := zJ 977) hx hb ycell_16 (by decide) ?_
    refine lv_iadd hx hb ycell_19 ?_
    rw [zJ_add]
    refine fin 20 _ ycell_20 ?_
    rw [h72, hval]
    unfold ycv
    rw [if_neg (by omega), zJ_of, hkn]
  · have hlt : k < (L : Int) := by
      have : ¬ (L : Int) ≤ k := fun w => h ((zJ_le (by omega) (by omega)).mpr w)
      omega
    refine lv_aload_n hx hb ycell_6 rfl (lv_at hl 0 rfl) ?_
    refine lv_iload_n hx hb ycell_7 rfl (lv_at hl 1 rfl) ?_
    refine va_sld hx hb hX hbl hScA hS (zJ_vpin hk0 hlt (by omega)) ycell_8 ?_
    rw [zJ_clamp hk0 (by omega)]
    refine lv_goto (tgt := 20) hx hb ycell_9 (by decide) ?_
    have e : xs k.toNat = zJ (g 72 k) := by
      rw [h72, hval]
      unfold ycv
      rw [if_pos (by omega), zJ_of]
    rw [e]
    exact fin 20 _ ycell_20 rfl
end ZV
section ZX
set_option maxHeartbeats 1000000 in
/-- what holds of a method in the small machine, the machine does -/
theorem zsnd (l : Launch) : ∀ (d m : Nat), zMet l d m := by
  intro d
  induction d with
  | zero => intro m Z sr hin as g Q hC; exact hC.elim
  | succ d ih =>
    intro mm Z sr hin as g Q hC M I hM hI hne
    have hC0 := hC
    obtain ⟨M', hM', ⟨hlen, hcat⟩, hW⟩ := hC
    cases hM.symm.trans hM'
    obtain ⟨I', hI', hz⟩ := zk_all mm M hM
    cases hI.symm.trans hI'
    obtain ⟨kk, ⟨q1, q2, q3, q4, q5, q6, q7⟩, k1, k2, k3, k4⟩ := zts_of hz hne
    rcases kk with kk | ⟨k0, k00⟩
    · have hlt : mm < 157 := by
        have := (List.getElem?_eq_some_iff.mp hI).1
        rw [zk_len.2] at this
        exact this
      have hmm := ycell_no mm hlt (by rw [hI]; exact congrArg some kk)
      subst hmm
      exact zsnd_cell d Z sr hin as g Q hC0 M I hM hI
    have hcat : ∀ v ∈ as, zcat v = 1 := fun v hv => by
      have := List.all_eq_true.mp hcat v hv
      simpa using this
    refine Met.ofW (cc := I.2.1) (maxL := M.2.2) (ret := I.2.2.1) (ws' := zTs) q3 rfl ?_
    intro p e s m args below meth c s₁ B hml hv
    obtain ⟨rfl, hP, hK, hN, ⟨hSc, hScA⟩, h72⟩ := hv
    have hts0 := atoms_spec (ws := zwd I.1 I.2.1 M.2.2 I.2.2.1) B.pre
    have hF : zFr p s m (as.map (zv Z.2.2)).toArray c I.2.1 I.1.cls M.2.2 Z (zA Z) sr s.heap (zrm (d + 1)) d 0 0 := ⟨B.exec, B.bytes, hml, findClass_of_methodNamed B.named, fun w hw => hts0 w (List.mem_cons_of_mem _ hw), ⟨hK, hN⟩, hin, fun _ h => h, ⟨Nat.le_refl _, Nat.le_refl _, Nat.le_refl _, Nat.le_refl _⟩, hSc, hScA⟩
    have hl := lv_entry (as.map (zv Z.2.2)) (n := M.2.2) (by rw [zsl_len _ _ hcat]; omega)
    rw [lg_entry_eq]
    generalize (lg_sl (as.map (zv Z.2.2)) ++ List.replicate (M.2.2 - (lg_sl (as.map (zv Z.2.2))).length) Slot.unset).toArray = real at hl ⊢
    have hls : zLs Z.2.2 M.2.2 (as ++ List.replicate (M.2.2 - M.2.1) zU) real := by
      refine ⟨⟨hl.1, by simp; omega⟩, hl.2.1, fun i v hv hc hu => ?_⟩
      by_cases hi : i < as.length
      · rw [List.getElem?_append_left hi] at hv
        have h1 := zargs Z.2.2 as 0 hcat i v hv
        rw [Nat.zero_add] at h1
        exact hl.2.2 _ h1
      · rw [List.getElem?_append_right (by omega)] at hv
        have := List.eq_of_mem_replicate (List.mem_of_getElem? hv)
        exact (hu this).elim
    have key := hW (fun t ls st g => ∀ e', M.1[t]? = some e' → zGo p l e s m (as.map (zv Z.2.2)).toArray below meth c (zEnd below Z sr Q (as.map (zv Z.2.2)).toArray s) Z (zA Z) s.heap sr (zrm (d + 1)) 0 0 M.2.2 e'.2.1 ls st g) (fun t ls st g hr e' he' => by
      have hlt : t < M.1.length := (List.getElem?_eq_some_iff.mp he').1
      have hd : M.1.drop t = e' :: M.1.drop (t + 1) := by
        rw [List.drop_eq_getElem_cons hlt]
        congr 1
        exact (List.getElem?_eq_some_iff.mp he').2
      exact zrun_snd hF ih (zret_snd hF ih B.returns B.notSynchronized) (fun t ls st g q => q) (M.1.drop t) (zcchk_drop _ _ _ _ t _ k0) ls st g hr e' _ hd)
    cases hM1 : M.1 with
    | nil => rw [hM1] at k00; exact absurd k00 (by decide)
    | cons e0 es =>
      rw [hM1] at k00
      have k00 : e0.2.1 = 0 := k00
      have := key e0 (by rw [hM1]; rfl) real s.heap [] hls ⟨hP, va_S.rf, h72⟩
      rw [k00] at this
      exact this
end ZX
