def zq (q : (List zE × Nat × Nat) × zI5) : Bool := zmchk q.1 q.2
theorem zk_0 : List.all (List.take 19 (zMT.zip zMI)) zq = true := by decide +kernel
theorem zk_1 : List.all (List.take 19 (List.drop 19 (zMT.zip zMI))) zq = true := by decide +kernel
theorem zk_2 : List.all (List.take 19 (List.drop 19 (List.drop 19 (zMT.zip zMI)))) zq = true := by decide +kernel
theorem zk_3 : List.all (List.take 19 (List.drop 19 (List.drop 19 (List.drop 19 (zMT.zip zMI))))) zq = true := by decide +kernel
theorem zk_4 : List.all (List.take 19 (List.drop 19 (List.drop 19 (List.drop 19 (List.drop 19 (zMT.zip zMI)))))) zq = true := by decide +kernel
theorem zk_5 : List.all (List.take 19 (List.drop 19 (List.drop 19 (List.drop 19 (List.drop 19 (List.drop 19 (zMT.zip zMI))))))) zq = true := by decide +kernel
theorem zk_6 : List.all (List.take 19 (List.drop 19 (List.drop 19 (List.drop 19 (List.drop 19 (List.drop 19 (List.drop 19 (zMT.zip zMI)))))))) zq = true := by decide +kernel
theorem zk_7 : List.all (List.drop 19 (List.drop 19 (List.drop 19 (List.drop 19 (List.drop 19 (List.drop 19 (List.drop 19 (zMT.zip zMI)))))))) zq = true := by decide +kernel
theorem zk_len : zMT.length = 157 ∧ zMI.length = 157 := by decide +kernel
theorem zcut {α : Type} (p : α → Bool) (n : Nat) (L : List α) (h1 : List.all (List.take n L) p = true) (h2 : List.all (List.drop n L) p = true) : List.all L p = true := by
  have h : List.all (List.take n L ++ List.drop n L) p = true := by
    rw [List.all_append, h1, h2]
    rfl
  rwa [List.take_append_drop] at h
theorem zk_zip : List.all (zMT.zip zMI) zq = true := (zcut _ 19 _ zk_0 (zcut _ 19 _ zk_1 (zcut _ 19 _ zk_2 (zcut _ 19 _ zk_3 (zcut _ 19 _ zk_4 (zcut _ 19 _ zk_5 (zcut _ 19 _ zk_6 zk_7)))))))
theorem zk_all (m : Nat) (M : List zE × Nat × Nat) (h : zMT[m]? = some M) : ∃ I, zMI[m]? = some I ∧ zmchk M I = true := by
  have hm : m < zMT.length := (List.getElem?_eq_some_iff.mp h).1
  have hm2 : m < zMI.length := by rw [zk_len.2, ← zk_len.1]; exact hm
  refine ⟨zMI[m], List.getElem?_eq_getElem hm2, ?_⟩
  have hz : (zMT.zip zMI)[m]? = some (M, zMI[m]) := by
    rw [List.getElem?_zip_eq_some]
    exact ⟨h, List.getElem?_eq_getElem hm2⟩
  exact List.all_eq_true.mp zk_zip _ (List.mem_of_getElem? hz)
