/-! what is checked, by program, of every instruction of every method: decoded so, the next one behind it, targets, words of the tables -/
def zlen : Instr → Nat
  | .bipush _ | .ldc _ | .iload _ | .aload _ | .istore _ | .astore _ => 2
  | .sipush _ | .ldc_w _ | .ldc2_w _ | .iinc _ _ | .ifCond _ _ | .if_icmp _ _ | .ifnull _ | .goto _ | .getfield _ | .putfield _ | .invokevirtual _ | .invokestatic _ => 3
  | _ => 1
def zgw (i : Nat) (w : Cond) : Bool := decide (lw_tbl[i]? = some w) && goodWord w
def ztg (cd : List zE) (pc : Nat) (off : Int) (t : Nat) : Bool := match cd[t]? with
  | some e => decide ((pc : Int) + off = (e.2.1 : Int))
  | none => false
/-- classes of which there is one object: its cell -/
def zone (x : Nat) : Nat := [100, 1, 100, 100, 3, 0].getD x 100
/-- how far on a reference goes: told from its object, or as the cell itself -/
def zre (x z : Nat) (l : List Nat) : Nat := match z, l with
  | 0, _ => 0
  | _ + 1, [_] => z
  | _ + 1, _ => if zone x < z ∧ zone x < 100 then z - zone x else 1000
def zechk (own : String) (cc : ByteArray) (ret : Option FieldType) (cd : List zE) (e : zE) : Bool := match e with
  | (ins, pc, x, y, z, v, l) => match ins with
    | .tableswitch d lo hi offs => decide (decode cc pc = .ok (ins, 1 + (3 - pc % 4) + 12 + 4 * offs.size)) && decide (lo = v ∧ hi = v + offs.size - 1 ∧ l.length = offs.size + 1) && ztg cd pc d (l.headD 0) && (List.range offs.size).all (fun i => ztg cd pc (offs.toList.getD i 0) (l.getD (i + 1) 0))
    | _ => decide (decode cc pc = .ok (ins, zlen ins)) && match ins with
      | .bipush n => decide ((Int8.ofInt n).toInt32 = zJ n)
      | .sipush n => decide ((Int16.ofInt n).toInt32 = zJ n)
      | .ldc i => zgw (l.headD 0) (.constant own i (zJ v))
      | .ldc_w i => zgw (l.headD 0) (.constant own i (zJ v))
      | .ldc2_w i => zgw (l.headD 0) (.constantLong own i (zJL v))
      | .ifCond _ off => ztg cd pc off x
      | .if_icmp _ off => ztg cd pc off x
      | .ifnull off => ztg cd pc off x
      | .goto off => ztg cd pc off x
      | .getfield i => match vwCl[x]? with
        | some q => decide (y < q.2.2 ∧ (zfo x)[y]? = some (zre x z l)) && zgw (l.headD 0) (.fieldLink own i (q.2.1 y).1 (q.2.1 y).2.1 (q.2.1 y).2.2.1)
        | none => false
      | .putfield i => match vwCl[x]? with
        | some q => decide (y < q.2.2 ∧ (zfo x)[y]? = some 0 ∧ (q.2.1 y).2.2.2 = false ∧ parseFieldDescriptor (q.2.1 y).2.2.1 = some (if v = 2 then .boolean else .int)) && zgw (l.headD 0) (.fieldLink own i (q.2.1 y).1 (q.2.1 y).2.1 (q.2.1 y).2.2.1)
        | none => false
      | .invokevirtual i => match zMI[x]?, vwCl[z]? with
        | some I, some q => decide (q.1 = I.1.cls ∧ I.2.2.2.1 = false ∧ I.2.2.2.2 ≠ []) && zgw (l.headD 0) (.methodLink own i I.1)
        | _, _ => false
      | .invokestatic i => match z with
        | 0 => (match zMI[x]? with
          | some I => decide (I.2.2.2.1 = true ∧ I.2.2.2.2 ≠ []) && zgw (l.headD 0) (.methodLink own i I.1)
          | none => false)
        | 1 => (match zMI[x]? with
          | some I => decide (I.2.2.2.1 = true ∧ I.2.2.2.2 ≠ []) && decide (lw_tbl[l.headD 0]? = some (.methodLinkNest own i I.1 "BranchedSums"))
          | none => false)
        | 2 => zgw (l.headD 0) (.methodLink own i arraycopyName)
        | 3 => zgw (l.headD 0) (.methodLink own i Lib.Math.max.name)
        | 4 => zgw (l.headD 0) (.methodLink own i Lib.Math.min.name)
        | _ => false
      | .ireturn => decide (ret = some (match x with
        | 0 => .int
        | 1 => .boolean
        | _ => .char)) && decide (x < 3)
      | .areturn => decide (ret = some (.object "BranchedSums$State"))
      | .return_ => decide (ret = none)
      | .saload => false
      | _ => true
def zcchk (own : String) (cc : ByteArray) (ret : Option FieldType) (cd : List zE) : List zE → Bool
  | [] => true
  | [e] => zechk own cc ret cd e
  | e :: e' :: es => zechk own cc ret cd e && (match e.1 with
    | .tableswitch _ _ _ _ => true
    | _ => decide (e'.2.1 = e.2.1 + zlen e.1)) && zcchk own cc ret cd (e' :: es)
def zmrest (M : List zE × Nat × Nat) (I : zI5) : Bool :=
  match M, I with
  | (cd, na, ml), (y, cc, ret, stat, ix) =>
    decide (na ≤ ml ∧ ml ≤ 20 ∧ plainName y.cls = true ∧ y.cls ≠ "java/lang/invoke/MethodHandle" ∧ y.cls ≠ "java/lang/invoke/VarHandle" ∧ (parseMethodDescriptor y.desc).map (fun d => d.parameters.length) = some (if stat = true then na else na - 1) ∧ (stat = false → 1 ≤ na)) &&
    zgw (ix.getD 0 0) (.code y cc ml ret) && zgw (ix.getD 1 0) (if stat = true then .static y else .instanceMethod y) && zgw (ix.getD 2 0) (.initialized y.cls) && (stat || zgw (ix.getD 3 0) (.selects y.cls y y))
def zmchk (M : List zE × Nat × Nat) (I : zI5) : Bool := I.2.2.2.2.isEmpty || ((decide (I.2.2.2.2.getD 4 0 = 1) || (zcchk I.1.cls I.2.1 I.2.2.1 M.1 M.1 && decide ((M.1.headD (.nop, 1, 0, 0, 0, 0, [])).2.1 = 0))) && zmrest M I)
theorem zcchk_cut {own : String} {cc : ByteArray} {ret : Option FieldType} {cd : List zE} : ∀ (n : Nat) (es : List zE), zcchk own cc ret cd (es.take (n + 1)) = true → zcchk own cc ret cd (es.drop n) = true → zcchk own cc ret cd es = true
  | 0, _, _, h => h
  | _ + 1, [], _, _ => rfl
  | _ + 1, [_], h, _ => h
  | n + 1, e :: e' :: es, h1, h2 => by
    rw [List.take_succ_cons, List.take_succ_cons, zcchk, Bool.and_eq_true, Bool.and_eq_true] at h1
    rw [zcchk, Bool.and_eq_true, Bool.and_eq_true]
    exact ⟨h1.1, zcchk_cut n (e' :: es) (by rw [List.take_succ_cons]; exact h1.2) h2⟩
def zisN : Cond → Bool
  | .methodLinkNest _ _ _ _ => true
  | _ => false
theorem zSY_ok : zSY.all (fun q => zgw q.1 q.2) = true := by decide +kernel
