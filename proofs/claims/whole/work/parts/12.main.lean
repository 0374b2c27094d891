section ZU
variable {p : Program} {l : Launch} {e : Env} {d : Nat} {s : State} {m : MethodId} {args : Array Value} {below : List Frame} {meth : Method} {c : Code} {Z : zG} {cc : ByteArray} {own : String} {nL : Nat} {ret : Option FieldType} {cd : List zE}
theorem zstep_snd (hF : zFr p s m args c cc own nL Z (zA Z)) (hO : ∀ x, zMet l d x) (hret : meth.sig.returnType = ret) (hlocks : meth.locks = false) {Q : zP} {K : zK} {nx : zX} (e0 : zE) (hck : zechk own cc ret cd e0 = true)
    (hK : ∀ t ls st g, K t ls st g → ∀ e', cd[t]? = some e' → zGo p l e d s m args below meth c (zEnd below Z Q args s) Z (zA Z) s.heap nL e'.2.1 ls st g)
    (hn : (∀ a b c d, e0.1 ≠ .tableswitch a b c d) → ∀ ls st g, nx ls st g → zGo p l e d s m args below meth c (zEnd below Z Q args s) Z (zA Z) s.heap nL (e0.2.1 + zlen e0.1) ls st g) :
    ∀ (ls st : List zV) (g : zM), zstep (zC d) Q K e0 nx ls st g → zGo p l e d s m args below meth c (zEnd below Z Q args s) Z (zA Z) s.heap nL e0.2.1 ls st g := by
  intro ls st g h
  obtain ⟨ins, pc, x, y, z, v, lx⟩ := e0
  cases ins
  case tableswitch a b c d => exact zs_tableswitch hF hO hret hlocks hck hK h
  all_goals (have hn := hn (fun _ _ _ _ q => by cases q))
  case iconst n => exact zs_iconst hF hO hret hlocks hck hK hn h
  case bipush n => exact zs_bipush hF hO hret hlocks hck hK hn h
  case sipush n => exact zs_sipush hF hO hret hlocks hck hK hn h
  case ldc n => exact zs_ldc hF hO hret hlocks hck hK hn h
  case ldc_w n => exact zs_ldcw hF hO hret hlocks hck hK hn h
  case ldc2_w n => exact zs_ldc2 hF hO hret hlocks hck hK hn h
  case aconst_null => exact zs_null hF hO hret hlocks hck hK hn h
  case iload_n n => exact zs_iload_n hF hO hret hlocks hck hK hn h
  case iload n => exact zs_iload hF hO hret hlocks hck hK hn h
  case aload_n n => exact zs_aload_n hF hO hret hlocks hck hK hn h
  case aload n => exact zs_aload hF hO hret hlocks hck hK hn h
  case istore_n n => exact zs_istore_n hF hO hret hlocks hck hK hn h
  case istore n => exact zs_istore hF hO hret hlocks hck hK hn h
  case astore_n n => exact zs_astore_n hF hO hret hlocks hck hK hn h
  case astore n => exact zs_astore hF hO hret hlocks hck hK hn h
  case iinc k n => exact zs_iinc hF hO hret hlocks hck hK hn h
  case iadd => exact zs_iadd hF hO hret hlocks hck hK hn h
  case isub => exact zs_isub hF hO hret hlocks hck hK hn h
  case imul => exact zs_imul hF hO hret hlocks hck hK hn h
  case iand => exact zs_iand hF hO hret hlocks hck hK hn h
  case ior => exact zs_ior hF hO hret hlocks hck hK hn h
  case ixor => exact zs_ixor hF hO hret hlocks hck hK hn h
  case ishl => exact zs_ishl hF hO hret hlocks hck hK hn h
  case ishr => exact zs_ishr hF hO hret hlocks hck hK hn h
  case iushr => exact zs_iushr hF hO hret hlocks hck hK hn h
  case idiv => exact zs_idiv hF hO hret hlocks hck hK hn h
  case irem => exact zs_irem hF hO hret hlocks hck hK hn h
  case i2c => exact zs_i2c hF hO hret hlocks hck hK hn h
  case i2l => exact zs_i2l hF hO hret hlocks hck hK hn h
  case l2i => exact zs_l2i hF hO hret hlocks hck hK hn h
  case lor => exact zs_lor hF hO hret hlocks hck hK hn h
  case land => exact zs_land hF hO hret hlocks hck hK hn h
  case lshl => exact zs_lshl hF hO hret hlocks hck hK hn h
  case lushr => exact zs_lushr hF hO hret hlocks hck hK hn h
  case dup => exact zs_dup hF hO hret hlocks hck hK hn h
  case dup2 => exact zs_dup2 hF hO hret hlocks hck hK hn h
  case ifCond a b => exact zs_ifCond hF hO hret hlocks hck hK hn h
  case if_icmp a b => exact zs_if_icmp hF hO hret hlocks hck hK hn h
  case ifnull a => exact zs_ifnull hF hO hret hlocks hck hK hn h
  case goto a => exact zs_goto hF hO hret hlocks hck hK hn h
  case arraylength => exact zs_arraylength hF hO hret hlocks hck hK hn h
  case iaload => exact zs_iaload hF hO hret hlocks hck hK hn h
  case caload => exact zs_caload hF hO hret hlocks hck hK hn h
  case laload => exact zs_laload hF hO hret hlocks hck hK hn h
  case aaload => exact zs_aaload hF hO hret hlocks hck hK hn h
  case iastore => exact zs_iastore hF hO hret hlocks hck hK hn h
  case castore => exact zs_castore hF hO hret hlocks hck hK hn h
  case lastore => exact zs_lastore hF hO hret hlocks hck hK hn h
  case getfield i => exact zs_getfield hF hO hret hlocks hck hK hn h
  case putfield i => exact zs_putfield hF hO hret hlocks hck hK hn h
  case invokevirtual i => exact zs_invokevirtual hF hO hret hlocks hck hK hn h
  case invokestatic i => exact zs_invokestatic hF hO hret hlocks hck hK hn h
  case ireturn => exact zs_ireturn hF hO hret hlocks hck hK hn h
  case areturn => exact zs_areturn hF hO hret hlocks hck hK hn h
  case return_ => exact zs_return_ hF hO hret hlocks hck hK hn h
  all_goals exact False.elim h
theorem zcchk_drop (own : String) (cc : ByteArray) (ret : Option FieldType) (cd : List zE) : ∀ (t : Nat) (es : List zE), zcchk own cc ret cd es = true → zcchk own cc ret cd (es.drop t) = true
  | 0, _, h => h
  | _ + 1, [], h => h
  | t + 1, [e], h => by
    rw [List.drop_succ_cons, List.drop_nil]
    rfl
  | t + 1, e :: e' :: es, h => by
    rw [List.drop_succ_cons]
    refine zcchk_drop own cc ret cd t (e' :: es) ?_
    rw [zcchk, Bool.and_eq_true, Bool.and_eq_true] at h
    exact h.2
theorem zrun_snd (hF : zFr p s m args c cc own nL Z (zA Z)) (hO : ∀ x, zMet l d x) (hret : meth.sig.returnType = ret) (hlocks : meth.locks = false) {Q : zP} {K : zK}
    (hK : ∀ t ls st g, K t ls st g → ∀ e', cd[t]? = some e' → zGo p l e d s m args below meth c (zEnd below Z Q args s) Z (zA Z) s.heap nL e'.2.1 ls st g) :
    ∀ (es : List zE), zcchk own cc ret cd es = true → ∀ (ls st : List zV) (g : zM), zrun (zC d) Q K es ls st g → ∀ e0 es0, es = e0 :: es0 → zGo p l e d s m args below meth c (zEnd below Z Q args s) Z (zA Z) s.heap nL e0.2.1 ls st g := by
  intro es
  induction es with
  | nil => intro _ _ _ _ _ e0 es0 h; cases h
  | cons e1 es ih =>
    intro hck ls st g h e0 es0 he
    cases he
    cases es with
    | nil => exact zstep_snd hF hO hret hlocks e1 hck hK (fun _ ls st g q => False.elim q) ls st g h
    | cons e2 es2 =>
      rw [zcchk, Bool.and_eq_true, Bool.and_eq_true] at hck
      obtain ⟨⟨h1, h2⟩, h3⟩ := hck
      refine zstep_snd hF hO hret hlocks e1 h1 hK (fun hne ls st g q => ?_) ls st g h
      have k := ih h3 ls st g q e2 es2 rfl
      have e3 : e2.2.1 = e1.2.1 + zlen e1.1 := by
        obtain ⟨ins, r⟩ := e1
        cases ins <;> first | exact (hne _ _ _ _ rfl).elim | exact of_decide_eq_true h2
      rw [e3] at k
      exact k
theorem zargs (ad : Nat → Nat) : ∀ (as : List zV) (i0 : Nat), (∀ v ∈ as, zcat v = 1) → ∀ (j : Nat) (v : zV), as[j]? = some v → (i0 + j, zv ad v) ∈ lv_args i0 (as.map (zv ad))
  | [], _, _, j, v, h => by simp at h
  | a :: as, i0, hc, 0, v, h => by
    cases h
    exact List.mem_cons_self
  | a :: as, i0, hc, j + 1, v, h => by
    have h1 : ¬ (zv ad a).category = 2 := by rw [zcat_v, hc a List.mem_cons_self]; decide
    have h2 := zargs ad as (i0 + 1) (fun w hw => hc w (List.mem_cons_of_mem _ hw)) j v (by simpa using h)
    show _ ∈ (i0, zv ad a) :: lv_args (if (zv ad a).category = 2 then i0 + 2 else i0 + 1) (as.map (zv ad))
    rw [if_neg h1]
    have e : i0 + (j + 1) = i0 + 1 + j := by omega
    rw [e]
    exact List.mem_cons_of_mem _ h2
theorem zsl_len (ad : Nat → Nat) : ∀ (as : List zV), (∀ v ∈ as, zcat v = 1) → (lg_sl (as.map (zv ad))).length = as.length
  | [], _ => rfl
  | a :: as, hc => by
    have h1 : ¬ (zv ad a).category = 2 := by rw [zcat_v, hc a List.mem_cons_self]; decide
    have h2 := zsl_len ad as (fun w hw => hc w (List.mem_cons_of_mem _ hw))
    unfold lg_sl at h2 ⊢
    rw [List.map_cons, List.flatMap_cons, if_neg h1, List.length_append, h2]
    simp
    omega
set_option maxHeartbeats 1000000 in
/-- what holds of a method in the small machine, the machine does -/
theorem zsnd (l : Launch) : ∀ (d m : Nat), zMet l d m := by
  intro d
  induction d with
  | zero => intro m Z hin as g Q hC; exact hC.elim
  | succ d ih =>
    intro mm Z hin as g Q hC M I hM hI
    obtain ⟨M', hM', ⟨hlen, hcat⟩, hW⟩ := hC
    cases hM.symm.trans hM'
    obtain ⟨I', hI', hz⟩ := zk_all mm M hM
    cases hI.symm.trans hI'
    obtain ⟨k0, k00, ⟨q1, q2, q3, q4, q5, q6, q7⟩, k1, k2, k3, k4⟩ := zts_of hz
    have hcat : ∀ v ∈ as, zcat v = 1 := fun v hv => by
      have := List.all_eq_true.mp hcat v hv
      simpa using this
    refine Met.ofW (cc := I.2.1) (maxL := M.2.2) (ret := I.2.2.1) (ws' := zTs) q3 rfl ?_
    intro p e s m args below meth c s₁ B hml hv
    obtain ⟨rfl, hP, hK, hN⟩ := hv
    have hts0 := atoms_spec (ws := zwd I.1 I.2.1 M.2.2 I.2.2.1) B.pre
    have hF : zFr p s m (as.map (zv Z.2.2)).toArray c I.2.1 I.1.cls M.2.2 Z (zA Z) := ⟨B.exec, B.bytes, hml, findClass_of_methodNamed B.named, fun w hw => hts0 w (List.mem_cons_of_mem _ hw), ⟨hK, hN⟩, hin, fun _ h => h⟩
    have hl := lv_entry (as.map (zv Z.2.2)) (n := M.2.2) (by rw [zsl_len _ _ hcat]; omega)
    rw [lg_entry_eq]
    generalize (lg_sl (as.map (zv Z.2.2)) ++ List.replicate (M.2.2 - (lg_sl (as.map (zv Z.2.2))).length) Slot.unset).toArray = real at hl ⊢
    have hls : zLs Z.2.2 M.2.2 (as ++ List.replicate (M.2.2 - M.2.1) zU) real := by
      refine ⟨⟨hl.1, by simp; omega⟩, hl.2.1, fun i v hv hc hu => ?_⟩
      by_cases hi : i < as.length
      · rw [List.getElem?_append_left hi] at hv
        have h1 := zargs Z.2.2 as 0 hcat i v hv
        rw [Nat.zero_add] at h1
        exact hl.2.2 _ h1
      · rw [List.getElem?_append_right (by omega)] at hv
        have := List.eq_of_mem_replicate (List.mem_of_getElem? hv)
        exact (hu this).elim
    have key := hW (fun t ls st g => ∀ e', M.1[t]? = some e' → zGo p l e d s m (as.map (zv Z.2.2)).toArray below meth c (zEnd below Z Q (as.map (zv Z.2.2)).toArray s) Z (zA Z) s.heap M.2.2 e'.2.1 ls st g) (fun t ls st g hr e' he' => by
      have hlt : t < M.1.length := (List.getElem?_eq_some_iff.mp he').1
      have hd : M.1.drop t = e' :: M.1.drop (t + 1) := by
        rw [List.drop_eq_getElem_cons hlt]
        congr 1
        exact (List.getElem?_eq_some_iff.mp he').2
      exact zrun_snd hF ih B.returns B.notSynchronized (fun t ls st g q => q) (M.1.drop t) (zcchk_drop _ _ _ _ t _ k0) ls st g hr e' _ hd)
    cases hM1 : M.1 with
    | nil => rw [hM1] at k00; exact absurd k00 (by decide)
    | cons e0 es =>
      rw [hM1] at k00
      have k00 : e0.2.1 = 0 := k00
      have := key e0 (by rw [hM1]; rfl) real s.heap [] hls ⟨hP, va_S.rf⟩
      rw [k00] at this
      exact this
end ZU
