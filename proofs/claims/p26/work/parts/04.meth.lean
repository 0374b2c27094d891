/-- what holds of method m with calls at most d deep: from these arguments and this memory it ends with Q -/
def zC : Nat → zO
  | 0 => fun _ _ _ _ => False
  | d + 1 => fun m as g Q => ∃ M : List zE × Nat × Nat, zMT[m]? = some M ∧ (as.length = M.2.1 ∧ as.all (fun v => zcat v == 1) = true) ∧ zW M.1 (zC d) Q 0 (as ++ List.replicate (M.2.2 - M.2.1) zU) [] g
theorem zC_om : ∀ d, zOm (zC d)
  | 0 => fun _ _ _ _ _ _ h => h
  | d + 1 => fun _ _ _ _ _ hP h => by
    obtain ⟨M, h1, h2, h3⟩ := h
    exact ⟨M, h1, h2, zW_mono (zC_om d) hP h3⟩
theorem zC.go {d m : Nat} {as ls : List zV} {g : zM} {Q : zP} {cd : List zE} {n k : Nat} (hm : zMT[m]? = some (cd, n, k)) (hn : as.length = n ∧ as.all (fun v => zcat v == 1) = true) (hl : as ++ List.replicate (k - n) zU = ls) (h : zW cd (zC d) Q 0 ls [] g) : zC (d + 1) m as g Q := ⟨_, hm, hn, by subst hl; exact h⟩
theorem zC.q {d m : Nat} {as : List zV} {g : zM} {Q Q' : zP} (h : zC d m as g Q) (hQ : ∀ o g, Q o g → Q' o g) : zC d m as g Q' := zC_om d m as g Q Q' hQ h
