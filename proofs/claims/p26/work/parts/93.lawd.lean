/-! the law: its end, its first instructions -/
def R_law : String := "BranchedSumsLaw"
def lw_P (b : Addr) (xs : List Int32) (args : Array Value) (s : State) : Prop := args = #[.ref b] ∧ s.IntsAt b xs ∧ xs.length ≤ 260 ∧ (Jvm.Cond.and given_1 narrow_1).before args s = true
def lw_Q (_ : Array Value) (s : State) (o : Outcome) (t : State) : Prop := o = .returned (some (.int 1)) ∧ Framed s o t [] 600000 7302250
def lw_Z (below : List Frame) (a : Array Value) (s : State) : State → Prop := fun t => ∃ o, t.status = .running ∧ Ended t below o ∧ lw_Q a s o t
/-- the law's own end, with 1 on the stack, nothing written that was there before, its room as the claim has it -/
theorem lw_ret {p : Program} {l : Launch} {e : Env} {s : State} {m : MethodId} {below : List Frame} {meth : Method} {c : Code} {b : Nat} (hx : p.tables.exec = Jvm.exec) (hb : c.code = code) (hr : meth.sig.returnType = ret) (hlocks : meth.locks = false) {pc : Nat} {H : Heap} {ls : Array Slot} (hdg : decode code pc = .ok (.ireturn, 1)) : W p l e room_1 s m #[Value.ref b] below meth c H [] 600000 7302250 (lw_Z below #[Value.ref b] s) (F0 m pc ls [.int 1]) := by
  intro T hT X
  obtain ⟨fs, hret, hrun, hended, hW, hframe⟩ := X.leave (v := some (.int 1)) (hlocks := hlocks) (fun h => by rw [hr] at h; cases h)
  have hmeth' : T.vm.method? m = some meth := X.method'
  refine ⟨T.setFrames fs, ?_, .returned (some (.int 1)), hrun, hended, rfl, ⟨_, rfl⟩, hW, hframe⟩
  jvm_step X.here [X.here.top, hx, hb, hdg, hmeth', hr, ret, narrow_b1]
  (try refine ⟨rfl, ?_⟩); (try refine ⟨rfl, ?_⟩)
  first | (intro acts; rw [hret _ acts rfl rfl rfl]) | rw [hret _ _ rfl rfl rfl]
  exact Steps.refl _
/-- what holds at the law's entry: the machine, the code, the tables' words (any of lw_tbl by 'hts w (by decide +kernel)'), the script of L ints xs at the cell b, what the Statement gives of the start (any of its parts by flat_of_before) -/
def lw_At (p : Program) (s : State) (m : MethodId) (meth : Method) (c : Code) (b L : Nat) (xs : Nat → Int32) : Prop :=
  p.tables.exec = Jvm.exec ∧ c.code = code ∧ meth.sig.returnType = ret ∧ c.maxLocals = 12 ∧ s.vm.findClass R_law = some m.cls ∧ (∀ w ∈ lw_tbl, w.before #[Value.ref b] s = true) ∧ va_X b L xs s s.heap ∧ b < s.heap.size ∧ meth.locks = false ∧ (Jvm.Cond.and given_1 narrow_1).before #[Value.ref b] s = true
theorem d_law_0 : decode code 0 = .ok (.new 20, 3) := by decide +kernel
theorem d_law_3 : decode code 3 = .ok (.dup, 1) := by decide +kernel
theorem d_law_4 : decode code 4 = .ok (.invokespecial 74, 3) := by decide +kernel
theorem d_law_7 : decode code 7 = .ok (.astore_n 1, 1) := by decide +kernel
theorem d_law_8 : decode code 8 = .ok (.aload_n 1, 1) := by decide +kernel
theorem d_law_9 : decode code 9 = .ok (.aload_n 0, 1) := by decide +kernel
theorem d_law_10 : decode code 10 = .ok (.bipush 6, 2) := by decide +kernel
theorem d_law_12 : decode code 12 = .ok (.invokestatic 75, 3) := by decide +kernel
theorem d_law_15 : decode code 15 = .ok (.iconst 1, 1) := by decide +kernel
theorem d_law_16 : decode code 16 = .ok (.istore_n 2, 1) := by decide +kernel
theorem d_law_17 : decode code 17 = .ok (.iconst 0, 1) := by decide +kernel
theorem d_law_18 : decode code 18 = .ok (.istore_n 3, 1) := by decide +kernel
theorem d_law_19 : decode code 19 = .ok (.aload_n 0, 1) := by decide +kernel
theorem d_law_20 : decode code 20 = .ok (.arraylength, 1) := by decide +kernel
theorem d_law_21 : decode code 21 = .ok (.iconst 2, 1) := by decide +kernel
theorem d_law_22 : decode code 22 = .ok (.idiv, 1) := by decide +kernel
theorem d_law_23 : decode code 23 = .ok (.bipush 34, 2) := by decide +kernel
theorem d_law_25 : decode code 25 = .ok (.if_icmp .le 8, 3) := by decide +kernel
theorem d_law_28 : decode code 28 = .ok (.bipush 34, 2) := by decide +kernel
theorem d_law_30 : decode code 30 = .ok (.goto 7, 3) := by decide +kernel
theorem d_law_33 : decode code 33 = .ok (.aload_n 0, 1) := by decide +kernel
theorem d_law_34 : decode code 34 = .ok (.arraylength, 1) := by decide +kernel
theorem d_law_35 : decode code 35 = .ok (.iconst 2, 1) := by decide +kernel
theorem d_law_36 : decode code 36 = .ok (.idiv, 1) := by decide +kernel
theorem d_law_37 : decode code 37 = .ok (.istore 4, 2) := by decide +kernel
theorem d_law_39 : decode code 39 = .ok (.bipush 13, 2) := by decide +kernel
theorem d_law_41 : decode code 41 = .ok (.istore 5, 2) := by decide +kernel
theorem z_lcc : zcchk R_law code (some .boolean) zL_law zL_law = true := by decide +kernel
theorem z_lret : ret = some FieldType.boolean := rfl
