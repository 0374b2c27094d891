/-! the law's arguments and calls -/
def zLF (p : Program) (s : State) (m : MethodId) (c : Code) (b L : Nat) (xs : Nat → Int32) (D : va_G) (C4 : zC4) : Prop :=
  p.tables.exec = Jvm.exec ∧ c.code = code ∧ c.maxLocals = 4 ∧ s.vm.findClass R_law = some m.cls ∧ (∀ w ∈ zTs, w.before #[Value.ref b] s = true) ∧ zPre D C4 s ∧ va_X b L xs s s.heap ∧ b < s.heap.size
theorem zJ_sv (v : Int32) : Value.int v = .int (zJ v.toInt) := by rw [zJ_of]
theorem zin_of (v : Int32) : zin v.toInt := ⟨Int32.le_toInt _, Int32.toInt_lt _⟩
section ZLW
variable {p : Program} {l : Launch} {e : Env} {s : State} {m : MethodId} {below : List Frame} {meth : Method} {c : Code} {H : Heap} {locs : List Loc} {cells slots : Nat} {Q : State → Prop}
variable {D : va_G} {C4 : zC4} {b L : Nat} {xs : Nat → Int32} {pc : Nat} {ls : Array Slot} {rest : List Value}
theorem z_larg (hF : zLF p s m c b L xs D C4) (hS : va_S (fun q : Nat => s.heap.size ≤ q) s.heap H locs) {i k : Nat} (hl0 : ls[0]? = some (.val (.ref b))) (hl3 : ls[3]? = some (.val (.int (zJ (i : Nat))))) (hk : i + k < L) (hL : L ≤ 2048)
    (d0 : decode code pc = .ok (.aload_n 0, 1)) (d1 : decode code (pc + 1) = .ok (.iload_n 3, 1)) (d2 : decode code (pc + 2) = .ok (.iconst (k : Int), 1)) (d3 : decode code (pc + 3) = .ok (.iadd, 1)) (d4 : decode code (pc + 4) = .ok (.iaload, 1))
    (kk : W p l e room_1 s m #[Value.ref b] below meth c H locs cells slots Q (F0 m (pc + 5) ls (.int (zJ (xs (i + k)).toInt) :: rest))) : W p l e room_1 s m #[Value.ref b] below meth c H locs cells slots Q (F0 m pc ls rest) := by
  obtain ⟨hx, hb, hml, hown, hts, hpre, hX, hbl⟩ := hF
  have hbA : ¬ (fun q : Nat => s.heap.size ≤ q) b := Nat.not_le.mpr hbl
  refine lv_aload_n hx hb d0 rfl hl0 ?_
  refine lv_iload_n hx hb d1 rfl hl3 ?_
  refine lv_iconst (v := zJ (k : Nat)) hx hb d2 rfl ?_
  refine lv_iadd hx hb d3 ?_
  rw [zJ_add, show (i : Int) + (k : Int) = ((i + k : Nat) : Int) from rfl]
  refine va_sld hx hb hX hbl hbA hS (zJ_vpin (by omega) (by omega) (by omega)) d4 ?_
  rw [zJ_clamp (by omega) (by omega), Int.toNat_natCast, zJ_sv]
  exact kk
theorem z_lbool (hF : zLF p s m c b L xs D C4) {v : Int} (hv : zin v) (d0 : decode code pc = .ok (.ifCond .eq 7, 3)) (d1 : decode code (pc + 3) = .ok (.iconst 1, 1)) (d2 : decode code (pc + 4) = .ok (.goto 4, 3)) (d3 : decode code (pc + 7) = .ok (.iconst 0, 1))
    (kk : W p l e room_1 s m #[Value.ref b] below meth c H locs cells slots Q (F0 m (pc + 8) ls (.int (zJ (if v = 0 then 0 else 1)) :: rest))) : W p l e room_1 s m #[Value.ref b] below meth c H locs cells slots Q (F0 m pc ls (.int (zJ v) :: rest)) := by
  obtain ⟨hx, hb, hml, hown, hts, hpre, hX, hbl⟩ := hF
  refine lv_if_eq (tgt := pc + 7) hx hb d0 (by omega) (fun h => ?_) (fun h => ?_)
  · have h0 : v = 0 := (zJ_eq hv zin0).mp (by rw [zJ_0]; exact h)
    rw [if_pos h0] at kk
    refine lv_iconst (v := zJ 0) hx hb d3 rfl ?_
    exact kk
  · have h0 : ¬ v = 0 := fun w => h (by rw [w]; exact zJ_0)
    rw [if_neg h0] at kk
    refine lv_iconst (v := zJ 1) hx hb d1 rfl ?_
    refine lv_goto (tgt := pc + 8) hx hb d2 (by omega) ?_
    exact kk
theorem z_lcall (hF : zLF p s m c b L xs D C4) {Z : zG} (hZ : Z.1 = D ∧ zty Z = zty4 C4) (hin : zinj Z) (hA : ∀ q, zA Z q → s.heap.size ≤ q) {x z i a d : Nat} {as : List zV} {g : zM} {Q' : zP} {I : zI5} {q : vw_C} (hC : zC d x (zR a :: as) g Q')
    (hI : zMI[x]? = some I) (hq : vwCl[z]? = some q) (hqc : q.1 = I.1.cls) (hst : I.2.2.2.1 = false) (hlk : Cond.methodLink R_law i I.1 ∈ zTs) (hkd : zkd a = (0, z)) (hd : d ≤ 30) (hsz : ls.size = 4) (hrest : (rest.map fun v => v.category).sum ≤ 8) (hW : zWd Z (fun q : Nat => s.heap.size ≤ q) s.heap g H locs) (hdg : decode code pc = .ok (.invokevirtual i, 3)) (hroom : cells ≤ 600000 ∧ slots ≤ 7302249)
    (kk : ∀ (o : Option zV) (g' : zM) (H1 : Heap) (locs1 : List Loc), Q' o g' → zWd Z (fun q : Nat => s.heap.size ≤ q) s.heap g' H1 locs1 → W p l e room_1 s m #[Value.ref b] below meth c H1 locs1 cells slots Q (F0 m (pc + 3) ls ((o.map (zv Z.2.2)).toList ++ rest))) :
    W p l e room_1 s m #[Value.ref b] below meth c H locs cells slots Q (F0 m pc ls ((as.map (zv Z.2.2)).reverse ++ .ref (Z.2.2 a) :: rest)) := by
  obtain ⟨M, hM, hal, -⟩ := zC_pos hC
  obtain ⟨I', hI', hz⟩ := zk_all x M hM
  cases hI.symm.trans hI'
  obtain ⟨hx, hb, hml, hown, hts, ⟨hK, hN, -⟩, hX, hbl⟩ := hF
  obtain ⟨-, -, ⟨q1, q2, q3, q4, q5, q6, -⟩, k1, k2, k3, k4⟩ := zts_of hz
  rw [if_neg (by rw [hst]; decide)] at q6 k2
  have k4 := k4 hst
  have hmet := zsnd l d x Z hin _ _ _ hC M I hM hI
  have hK : va_K Z.1 vwCl (zty Z) s := by rw [hZ.1, hZ.2]; exact hK
  have hlt : a < zNC := zkd_lt (by rw [hkd]; exact Nat.zero_le _)
  have hcell : (zws Z g)[a]? = some (Z.2.2 a, .inr (z, zfl Z.2.2 (g a) a z)) := by rw [zws_at hlt, zer_0 hkd]
  have hpre : PreV s H I.1.cls (Z.2.2 a) (zPc Z (zR a :: as) g) (as.map (zv Z.2.2)) := by
    refine ⟨zPc_blind _ _ _, ?_, fun U hU hWm => ⟨rfl, by rw [hU]; exact hW.1, va_K.moved hWm.alike hK, zNest.moved hWm hN⟩⟩
    rw [← hqc]
    exact va_recv hK hW.1 hq hcell
  have hlen : ∀ sig, parseMethodDescriptor I.1.desc = some sig → M.2.1 - 1 = sig.parameters.length := fun sig h => by
    rw [h] at q6
    exact (Option.some.inj q6).symm
  have hws : ∀ w ∈ zwd I.1 I.2.1 M.2.2 I.2.2.1, ∀ (a' : Array Value) (U : State), s.WarmedH U.vm → w.before a' U = true := by
    refine pay_in (big := zTs) hts (fun w hw => ?_)
    have hz : w ∈ zTs := by
      rcases List.mem_cons.mp hw with h | h
      · rw [h]; exact k1
      · exact h
    exact ⟨hz, good_of_word (List.mem_filter.mp hz).2⟩
  have hcb : CallB room_1 s #[Value.ref b] R_law i I.1 I.2.1 M.2.2 I.2.2.1 (zwd I.1 I.2.1 M.2.2 I.2.2.1) (zrm d) 0 0 (M.2.1 - 1) := by
    refine ⟨rfl, rfl, ?_, ?_, hws, List.mem_cons_self, hts _ k1, hts _ k3, ⟨q4, q5⟩, hlen, hts _ hlk⟩
    · show d + 1 ≤ 2048
      omega
    · show 8 + (M.2.2 + 11) + 60 * d ≤ 84000
      omega
  refine z_call (va_runV (As := as.map (zv Z.2.2)) (rest := rest) ⟨hx, hb, hml, hown, hts⟩ hmet ⟨hcb, hts _ k2, hts _ k4⟩ hpre rfl ?_ hsz rfl (lv_room hrest) hdg hroom) hW.2 hA kk
  simp at hal ⊢
  omega
end ZLW
