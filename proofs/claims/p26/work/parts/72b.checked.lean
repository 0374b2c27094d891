theorem zk_8 : List.all (List.take 1 (List.drop 18 (List.drop 19 (List.drop 19 (List.drop 19 (List.drop 19 (List.drop 19 (List.drop 19 (List.drop 19 (zMT.zip zMI)))))))))) zq = true := by decide +kernel
theorem zk_9 : List.all (List.take 1 (List.drop 1 (List.drop 18 (List.drop 19 (List.drop 19 (List.drop 19 (List.drop 19 (List.drop 19 (List.drop 19 (List.drop 19 (zMT.zip zMI))))))))))) zq = true := by decide +kernel
theorem zk_10 : List.all (List.take 1 (List.drop 1 (List.drop 1 (List.drop 18 (List.drop 19 (List.drop 19 (List.drop 19 (List.drop 19 (List.drop 19 (List.drop 19 (List.drop 19 (zMT.zip zMI)))))))))))) zq = true := by decide +kernel
theorem zks_0 : zcchk RL cL_search (some .boolean) zL_search (List.take 45 zL_search) = true := by decide +kernel
theorem zks_1 : zcchk RL cL_search (some .boolean) zL_search (List.take 45 (List.drop 44 zL_search)) = true := by decide +kernel
theorem zks_2 : zcchk RL cL_search (some .boolean) zL_search (List.take 45 (List.drop 44 (List.drop 44 zL_search))) = true := by decide +kernel
theorem zks_3 : zcchk RL cL_search (some .boolean) zL_search (List.take 45 (List.drop 44 (List.drop 44 (List.drop 44 zL_search)))) = true := by decide +kernel
theorem zks_4 : zcchk RL cL_search (some .boolean) zL_search (List.take 45 (List.drop 44 (List.drop 44 (List.drop 44 (List.drop 44 zL_search))))) = true := by decide +kernel
theorem zks_5 : zcchk RL cL_search (some .boolean) zL_search (List.drop 44 (List.drop 44 (List.drop 44 (List.drop 44 (List.drop 44 zL_search))))) = true := by decide +kernel
theorem zks : zcchk RL cL_search (some .boolean) zL_search zL_search = true := (zcchk_cut 44 _ zks_0 (zcchk_cut 44 _ zks_1 (zcchk_cut 44 _ zks_2 (zcchk_cut 44 _ zks_3 (zcchk_cut 44 _ zks_4 zks_5)))))
theorem zks_r : zmrest (zL_search, 3, 10) (yL_search, cL_search, some .boolean, true, [349, 348, 17, 0]) = true := by decide +kernel
theorem zmchk_of {M : List zE × Nat × Nat} {I : zI5} (h : zcchk I.1.cls I.2.1 I.2.2.1 M.1 M.1 = true) (h0 : decide ((M.1.headD (.nop, 1, 0, 0, 0, 0, [])).2.1 = 0) = true) (r : zmrest M I = true) : zmchk M I = true := by
  unfold zmchk
  rw [h, h0, r]
  simp
set_option maxRecDepth 100000 in
theorem zks_q : zq ((zL_search, 3, 10), (yL_search, cL_search, some .boolean, true, [349, 348, 17, 0])) = true := zmchk_of (M := (zL_search, 3, 10)) (I := (yL_search, cL_search, some .boolean, true, [349, 348, 17, 0])) zks (by decide +kernel) zks_r
theorem zks_x (A : List ((List zE × Nat × Nat) × zI5)) (q : (List zE × Nat × Nat) × zI5) (h : A[154]? = some q) (hq : zq q = true) : List.all (List.take 1 (List.drop 154 A)) zq = true := by
  have hl : 154 < A.length := (List.getElem?_eq_some_iff.mp h).1
  rw [List.drop_eq_getElem_cons hl, List.take_succ_cons, List.take_zero, List.all_cons, List.all_nil, Bool.and_true, (List.getElem?_eq_some_iff.mp h).2]
  exact hq
set_option maxRecDepth 100000 in
theorem zks_at : (zMT.zip zMI)[154]? = some ((zL_search, 3, 10), (yL_search, cL_search, some .boolean, true, [349, 348, 17, 0])) := rfl
theorem zk_11 : List.all (List.take 1 (List.drop 1 (List.drop 1 (List.drop 1 (List.drop 18 (List.drop 19 (List.drop 19 (List.drop 19 (List.drop 19 (List.drop 19 (List.drop 19 (List.drop 19 (zMT.zip zMI))))))))))))) zq = true := by
  have h := zks_x (zMT.zip zMI) _ zks_at zks_q
  simpa only [List.drop_drop] using h
theorem zk_12 : List.all (List.take 1 (List.drop 1 (List.drop 1 (List.drop 1 (List.drop 1 (List.drop 18 (List.drop 19 (List.drop 19 (List.drop 19 (List.drop 19 (List.drop 19 (List.drop 19 (List.drop 19 (zMT.zip zMI)))))))))))))) zq = true := by decide +kernel
theorem zk_13 : List.all (List.drop 1 (List.drop 1 (List.drop 1 (List.drop 1 (List.drop 1 (List.drop 18 (List.drop 19 (List.drop 19 (List.drop 19 (List.drop 19 (List.drop 19 (List.drop 19 (List.drop 19 (zMT.zip zMI)))))))))))))) zq = true := by decide +kernel
theorem zk_len : zMT.length = 157 ∧ zMI.length = 157 := by decide +kernel
theorem zcut {α : Type} (p : α → Bool) (n : Nat) (L : List α) (h1 : List.all (List.take n L) p = true) (h2 : List.all (List.drop n L) p = true) : List.all L p = true := by
  have h : List.all (List.take n L ++ List.drop n L) p = true := by
    rw [List.all_append, h1, h2]
    rfl
  rwa [List.take_append_drop] at h
theorem zk_zip : List.all (zMT.zip zMI) zq = true := (zcut _ 19 _ zk_0 (zcut _ 19 _ zk_1 (zcut _ 19 _ zk_2 (zcut _ 19 _ zk_3 (zcut _ 19 _ zk_4 (zcut _ 19 _ zk_5 (zcut _ 19 _ zk_6 (zcut _ 18 _ zk_7 (zcut _ 1 _ zk_8 (zcut _ 1 _ zk_9 (zcut _ 1 _ zk_10 (zcut _ 1 _ zk_11 (zcut _ 1 _ zk_12 zk_13)))))))))))))
theorem zk_all (m : Nat) (M : List zE × Nat × Nat) (h : zMT[m]? = some M) : ∃ I, zMI[m]? = some I ∧ zmchk M I = true := by
  have hm : m < zMT.length := (List.getElem?_eq_some_iff.mp h).1
  have hm2 : m < zMI.length := by rw [zk_len.2, ← zk_len.1]; exact hm
  refine ⟨zMI[m], List.getElem?_eq_getElem hm2, ?_⟩
  have hz : (zMT.zip zMI)[m]? = some (M, zMI[m]) := by
    rw [List.getElem?_zip_eq_some]
    exact ⟨h, List.getElem?_eq_getElem hm2⟩
  exact List.all_eq_true.mp zk_zip _ (List.mem_of_getElem? hz)
