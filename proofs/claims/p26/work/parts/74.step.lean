/-! one instruction: what the small machine asks for is what the machine does -/
section ZS
variable {p : Program} {l : Launch} {e : Env} {d : Nat} {s : State} {m : MethodId} {args : Array Value} {below : List Frame} {meth : Method} {c : Code} {Qw : State → Prop} {Z : zG} {A0 : Nat → Prop} {H0 : Heap} {cc : ByteArray} {own : String} {nL : Nat} {ret : Option FieldType} {cd : List zE} {cells slots : Nat} {R : Room} {sr : Int → Int}
abbrev zGo (p : Program) (l : Launch) (e : Env) (s : State) (m : MethodId) (args : Array Value) (below : List Frame) (meth : Method) (c : Code) (Qw : State → Prop) (Z : zG) (A0 : Nat → Prop) (H0 : Heap) (sr : Int → Int) (R : Room) (cells slots : Nat) (nL : Nat) (pc : Nat) (ls st : List zV) (g : zM) : Prop :=
  ∀ (real : Array Slot) (H : Heap) (locs : List Loc), zLs Z.2.2 nL ls real → zWd Z sr A0 H0 g H locs → W p l e R s m args below meth c H locs cells slots Qw (F0 m pc real (st.map (zv Z.2.2)))
def zMet (l : Launch) (d m : Nat) : Prop := ∀ (Z : zG) (sr : Int → Int), zinj Z → ∀ (as : List zV) (g : zM) (Q : zP), yC d m as g Q → ∀ (M : List zE × Nat × Nat) (I : zI5), zMT[m]? = some M → zMI[m]? = some I → I.2.2.2.2 ≠ [] → Met l I.1 (zwd I.1 I.2.1 M.2.2 I.2.2.1) (zrm d) (zPc Z sr as g) (zQc Z sr Q) 0 0 (zA Z)
theorem zin_i {x : Int} (h : zin x) : -2147483648 ≤ x ∧ x < 2147483648 := h
theorem zts_of {M : List zE × Nat × Nat} {I : zI5} (h : zmchk M I = true) (hne : I.2.2.2.2 ≠ []) : (I.2.2.2.2.getD 4 0 = 1 ∨ zcchk I.1.cls I.2.1 I.2.2.1 M.1 M.1 = true ∧ (M.1.headD (.nop, 1, 0, 0, 0, 0, [])).2.1 = 0) ∧ (M.2.1 ≤ M.2.2 ∧ M.2.2 ≤ 20 ∧ plainName I.1.cls = true ∧ I.1.cls ≠ "java/lang/invoke/MethodHandle" ∧ I.1.cls ≠ "java/lang/invoke/VarHandle" ∧ (parseMethodDescriptor I.1.desc).map (fun d => d.parameters.length) = some (if I.2.2.2.1 = true then M.2.1 else M.2.1 - 1) ∧ (I.2.2.2.1 = false → 1 ≤ M.2.1)) ∧
    Cond.code I.1 I.2.1 M.2.2 I.2.2.1 ∈ zTs ∧ (if I.2.2.2.1 = true then Cond.static I.1 else Cond.instanceMethod I.1) ∈ zTs ∧ Cond.initialized I.1.cls ∈ zTs ∧ (I.2.2.2.1 = false → Cond.selects I.1.cls I.1 I.1 ∈ zTs) := by
  obtain ⟨cd, na, ml⟩ := M
  obtain ⟨y, cc, ret, stat, ix⟩ := I
  dsimp only at hne
  simp only [zmchk, zmrest, Bool.and_eq_true, Bool.or_eq_true, decide_eq_true_eq, List.isEmpty_iff] at h
  rcases h with h | h
  · exact absurd h hne
  obtain ⟨h1, ⟨⟨⟨h3, h4⟩, h5⟩, h6⟩, h7⟩ := h
  refine ⟨h1, h3, zgw_spec h4, zgw_spec h5, zgw_spec h6, fun hs => ?_⟩
  rcases h7 with h7 | h7
  · dsimp only at hs; rw [hs] at h7; exact absurd h7 (by decide)
  · exact zgw_spec h7
/-- the words behind a call -/
theorem z_cb {y : MethodName} {cc' : ByteArray} {ml n idx : Nat} {rt : Option FieldType} (hts : ∀ w ∈ zTs, w.before args s = true) (hRm : yRm R d cells slots) (hc : Cond.code y cc' ml rt ∈ zTs) (hi : Cond.initialized y.cls ∈ zTs) (hl : (Cond.methodLink own idx y).before args s = true)
    (hd : y.cls ≠ "java/lang/invoke/MethodHandle" ∧ y.cls ≠ "java/lang/invoke/VarHandle") (hn : (parseMethodDescriptor y.desc).map (fun d => d.parameters.length) = some n) (hml : ml ≤ 20) : CallB R s args own idx y cc' ml rt (zwd y cc' ml rt) (zrm d) 0 0 n := by
  refine ⟨rfl, rfl, hRm.1, ?_, ?_, List.mem_cons_self, hts _ hc, hts _ hi, hd, fun sig h => ?_, hl⟩
  · show 8 + (ml + 11) + 60 * d ≤ R.locals
    have := hRm.2.1
    omega
  · refine pay_in (big := zTs) hts (fun w hw => ?_)
    have hz : w ∈ zTs := by
      rcases List.mem_cons.mp hw with h | h
      · rw [h]; exact hc
      · exact h
    exact ⟨hz, good_of_word (List.mem_filter.mp hz).2⟩
  · rw [h] at hn
    exact (Option.some.inj hn).symm
theorem z_cn {y : MethodName} {cc' : ByteArray} {ml n idx : Nat} {rt : Option FieldType} {host : String} (hts : ∀ w ∈ zTs, w.before args s = true) (hRm : yRm R d cells slots) (hc : Cond.code y cc' ml rt ∈ zTs) (hi : Cond.initialized y.cls ∈ zTs) (hl : (Cond.methodLinkNest own idx y host).before args s = true)
    (hd : y.cls ≠ "java/lang/invoke/MethodHandle" ∧ y.cls ≠ "java/lang/invoke/VarHandle") (hn : (parseMethodDescriptor y.desc).map (fun d => d.parameters.length) = some n) (hml : ml ≤ 20) : va_CN R s args own idx y host cc' ml rt (zwd y cc' ml rt) (zrm d) 0 0 n := by
  refine ⟨⟨rfl, rfl, hRm.1, ?_, ?_, List.mem_cons_self⟩, hts _ hc, hts _ hi, hd, fun sig h => ?_, hl⟩
  · show 8 + (ml + 11) + 60 * d ≤ R.locals
    have := hRm.2.1
    omega
  · refine pay_in (big := zTs) hts (fun w hw => ?_)
    have hz : w ∈ zTs := by
      rcases List.mem_cons.mp hw with h | h
      · rw [h]; exact hc
      · exact h
    exact ⟨hz, good_of_word (List.mem_filter.mp hz).2⟩
  · rw [h] at hn
    exact (Option.some.inj hn).symm
theorem yC_pos {x : Nat} {as : List zV} {g : zM} {Q : zP} (h : yC d x as g Q) : ∃ M, zMT[x]? = some M ∧ as.length = M.2.1 ∧ (∀ v ∈ as, zcat v = 1) := by
  cases d with
  | zero => exact h.elim
  | succ d =>
    obtain ⟨M, h1, ⟨h2, h3⟩, -⟩ := h
    refine ⟨M, h1, h2, fun v hv => ?_⟩
    have := List.all_eq_true.mp h3 v hv
    simpa using this
theorem z_stat (hF : zFr p s m args c cc own nL Z A0 sr H0 R d cells slots) (hO : ∀ x, zMet l d x) {x y pc i : Nat} {nx : zX} {ls st : List zV} {g : zM} (hd : decode cc pc = .ok (.invokestatic i, 3)) (nest : Bool)
    (hl : ∃ I, zMI[x]? = some I ∧ (I.2.2.2.1 = true ∧ I.2.2.2.2 ≠ []) ∧ (if nest = true then (Cond.methodLinkNest own i I.1 "BranchedSums").before args s = true else (Cond.methodLink own i I.1).before args s = true))
    (h : zpop y st [] (fun as r => zwt r ≤ 8 ∧ yC d x as g (fun o g => match o with
        | none => nx ls r g
        | some w => nx ls (w :: r) g)))
    (hn : ∀ ls st g, nx ls st g → zGo p l e s m args below meth c Qw Z A0 H0 sr R cells slots nL (pc + 3) ls st g) : zGo p l e s m args below meth c Qw Z A0 H0 sr R cells slots nL pc ls st g := by
  intro real H locs hls hW
  obtain ⟨xs, r, rfl, hlen, hw, hC⟩ := zpop_spec _ _ _ h
  rw [List.append_nil] at hC
  obtain ⟨M, hM, hal, -⟩ := yC_pos hC
  obtain ⟨I, hI, ⟨hst, hne⟩, hlk⟩ := hl
  obtain ⟨I', hI', hz⟩ := zk_all x M hM
  cases hI.symm.trans hI'
  obtain ⟨hx, hb, hml, hown, hts, ⟨hK, hN⟩, hin, hA, hRm, hSc, hScA⟩ := hF
  obtain ⟨-, ⟨q1, q2, q3, q4, q5, q6, -⟩, k1, k2, k3, -⟩ := zts_of hz hne
  rw [if_pos hst] at q6 k2
  have hmet := hO x Z sr hin _ _ _ hC M I hM hI hne
  have hpre : PreS s H (zPc Z sr xs.reverse g) (xs.reverse.map (zv Z.2.2)) := ⟨zPc_blind _ _ _ _, fun U hU hWm => ⟨rfl, by rw [hU]; exact hW.1, va_K.moved hWm.alike hK, zNest.moved hWm hN, ⟨hSc.to hScA hW.2.1 hWm.alike hU, fun w => hScA (hA _ w)⟩, hW.2.2⟩⟩
  have hk : ∀ (o : Option zV) (g' : zM) (H1 : Heap) (locs1 : List Loc), (match o with
        | none => nx ls r g'
        | some w => nx ls (w :: r) g') → zWd Z sr A0 H0 g' H1 locs1 → W p l e R s m args below meth c H1 locs1 cells slots Qw (F0 m (pc + 3) real ((o.map (zv Z.2.2)).toList ++ r.map (zv Z.2.2))) := by
    intro o g' H1 locs1 ho hw1
    cases o with
    | none => exact hn _ _ _ ho real H1 locs1 hls hw1
    | some w => exact hn _ _ _ ho real H1 locs1 hls hw1
  have hs2 : (xs ++ r).map (zv Z.2.2) = (xs.reverse.map (zv Z.2.2)).reverse ++ r.map (zv Z.2.2) := by simp
  rw [hs2]
  cases nest with
  | false =>
    rw [if_neg (by decide)] at hlk
    exact z_call (va_runS (As := xs.reverse.map (zv Z.2.2)) (rest := r.map (zv Z.2.2)) ⟨hx, hb, hml, hown, hts⟩ hmet ⟨z_cb hts hRm k1 k3 hlk ⟨q4, q5⟩ q6 q2, hts _ k2⟩ hpre rfl (by simpa using hal) hls.1.1 rfl (lv_room (by rw [zwt_v]; exact hw)) hd ⟨hRm.2.2.1, hRm.2.2.2⟩) hW.2.1 hA hk
  | true =>
    rw [if_pos rfl] at hlk
    exact z_call (va_runSN (As := xs.reverse.map (zv Z.2.2)) (rest := r.map (zv Z.2.2)) ⟨hx, hb, hml, hown, hts⟩ hmet ⟨z_cn hts hRm k1 k3 hlk ⟨q4, q5⟩ q6 q2, hts _ k2, trivial⟩ hpre rfl (by simpa using hal) hls.1.1 rfl (lv_room (by rw [zwt_v]; exact hw)) hd ⟨hRm.2.2.1, hRm.2.2.2⟩) hW.2.1 hA hk
theorem z_virt (hF : zFr p s m args c cc own nL Z A0 sr H0 R d cells slots) (hO : ∀ x, zMet l d x) {x y z pc i : Nat} {nx : zX} {ls st : List zV} {g : zM} (hd : decode cc pc = .ok (.invokevirtual i, 3))
    (hl : ∃ I q, zMI[x]? = some I ∧ vwCl[z]? = some q ∧ q.1 = I.1.cls ∧ (I.2.2.2.1 = false ∧ I.2.2.2.2 ≠ []) ∧ (Cond.methodLink own i I.1).before args s = true)
    (h : zpop y st [] (fun as r => (zwt r ≤ 8 ∧ yrecv z as) ∧ yC d x as g (fun o g => match o with
        | none => nx ls r g
        | some w => nx ls (w :: r) g)))
    (hn : ∀ ls st g, nx ls st g → zGo p l e s m args below meth c Qw Z A0 H0 sr R cells slots nL (pc + 3) ls st g) : zGo p l e s m args below meth c Qw Z A0 H0 sr R cells slots nL pc ls st g := by
  intro real H locs hls hW
  obtain ⟨xs, r, rfl, hlen, ⟨hw, hrv⟩, hC⟩ := zpop_spec _ _ _ h
  rw [List.append_nil] at hC hrv
  obtain ⟨M, hM, hal, -⟩ := yC_pos hC
  obtain ⟨I, q, hI, hq, hqc, ⟨hst, hne⟩, hlk⟩ := hl
  obtain ⟨I', hI', hz⟩ := zk_all x M hM
  cases hI.symm.trans hI'
  obtain ⟨hx, hb, hml, hown, hts, ⟨hK, hN⟩, hin, hA, hRm, hSc, hScA⟩ := hF
  obtain ⟨-, ⟨q1, q2, q3, q4, q5, q6, -⟩, k1, k2, k3, k4⟩ := zts_of hz hne
  rw [if_neg (by rw [hst]; decide)] at q6 k2
  have k4 := k4 hst
  have hmet := hO x Z sr hin _ _ _ hC M I hM hI hne
  generalize has : xs.reverse = as at hC hrv hal hmet
  have hxs : xs = as.reverse := by rw [← has, List.reverse_reverse]
  subst hxs
  rcases as with _ | ⟨v, as⟩
  · exact hrv.elim
  rcases v with v | (_ | a) | v | v
  · exact hrv.elim
  · exact hrv.elim
  · have hkd : ykd a = (0, z) := hrv
    have hlt : a < zNC := zkd_lt (by rw [hkd]; exact Nat.zero_le _)
    have hcell : (zws Z g)[a]? = some (Z.2.2 a, .inr (z, zfl Z.2.2 (g a) a z)) := by rw [zws_at hlt, zer_0 hkd]
    have hpre : PreV s H I.1.cls (Z.2.2 a) (zPc Z sr (zR a :: as) g) (as.map (zv Z.2.2)) := by
      refine ⟨zPc_blind _ _ _ _, ?_, fun U hU hWm => ⟨rfl, by rw [hU]; exact hW.1, va_K.moved hWm.alike hK, zNest.moved hWm hN, ⟨hSc.to hScA hW.2.1 hWm.alike hU, fun w => hScA (hA _ w)⟩, hW.2.2⟩⟩
      rw [← hqc]
      exact va_recv hK hW.1 hq hcell
    have hk : ∀ (o : Option zV) (g' : zM) (H1 : Heap) (locs1 : List Loc), (match o with
          | none => nx ls r g'
          | some w => nx ls (w :: r) g') → zWd Z sr A0 H0 g' H1 locs1 → W p l e R s m args below meth c H1 locs1 cells slots Qw (F0 m (pc + 3) real ((o.map (zv Z.2.2)).toList ++ r.map (zv Z.2.2))) := by
      intro o g' H1 locs1 ho hw1
      cases o with
      | none => exact hn _ _ _ ho real H1 locs1 hls hw1
      | some w => exact hn _ _ _ ho real H1 locs1 hls hw1
    have hs2 : ((zR a :: as).reverse ++ r).map (zv Z.2.2) = (as.map (zv Z.2.2)).reverse ++ .ref (Z.2.2 a) :: r.map (zv Z.2.2) := by simp [zv, zrv]
    rw [hs2]
    refine z_call (va_runV (As := as.map (zv Z.2.2)) (rest := r.map (zv Z.2.2)) ⟨hx, hb, hml, hown, hts⟩ hmet ⟨z_cb hts hRm k1 k3 hlk ⟨q4, q5⟩ q6 q2, hts _ k2, hts _ k4⟩ hpre rfl ?_ hls.1.1 rfl (lv_room (by rw [zwt_v]; exact hw)) hd ⟨hRm.2.2.1, hRm.2.2.2⟩) hW.2.1 hA hk
    simp at hal ⊢
    omega
  · exact hrv.elim
  · exact hrv.elim
end ZS
