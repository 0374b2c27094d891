/-! what holds between the class and the reference -/
/-- no more steps than nodes that are not open -/
def mst (s : zS) (m : Nat) : Prop := 0 ≤ s 6 ∧ s 6 + mcn s 0 m ≤ m
def minw (s : zS) (n m : Nat) : Prop := minv s n m ∧ mst s m
def agr (s s' : zS) : Prop := ∀ j : Int, 0 ≤ j → j < 2845 → s' j = s j
theorem agr.mag {s s' : zS} (h : agr s s') : magr s s' := ⟨(h 0 (by omega) (by omega)).symm, (h 1 (by omega) (by omega)).symm, fun j a b => (h j (by omega) (by omega)).symm⟩
theorem mcn_congr {s s' : zS} {how : Int} {m : Nat} (h : ∀ k : Nat, k < m → nd s' k 4 = nd s k 4) : mcn s' how m = mcn s how m := zcnt_congr m _ _ (fun k hk => by rw [h k hk])
theorem minw.congr {s s' : zS} {n m : Nat} (h : minw s n m) (ha : agr s s') : minw s' n m := by
  obtain ⟨⟨hok, hsym, h2, h3, ⟨h5, hm⟩, h4, hn, h7, h8, h0⟩, h6, hs⟩ := h
  have hn12 := hok.2.1
  have e : ∀ k : Nat, k < m → ∀ f : Int, 0 ≤ f → f < 7 → nd s' k f = nd s k f := fun k hk f a b => ha _ (by omega) (by omega)
  have a := fun j (h : 0 ≤ j ∧ j < 2845) => ha j h.1 h.2
  refine ⟨⟨ha.mag.ok hok, hsym.ag hn12 ha.mag, ?_, ?_, ⟨?_, hm⟩, ?_, fun k hk => (hn k hk).kept hn12 hok.pos ha.mag (e k hk), ?_, ?_, ?_⟩, ?_, ?_⟩
  · rw [a 2 (by omega)]; exact h2
  · rw [a 3 (by omega)]; exact h3
  · rw [a 5 (by omega)]; exact h5
  · rw [a 4 (by omega)]; exact h4
  · rw [a 7 (by omega)]; exact h7
  · rw [a 8 (by omega)]; exact h8
  · rw [a 6 (by omega), a 7 (by omega), a 8 (by omega)]; exact h0
  · rw [a 6 (by omega)]; exact h6
  · rw [a 6 (by omega), mcn_congr (fun k hk => e k hk 4 (by omega) (by omega))]; exact hs
theorem RelC.congr {g : zM} {b n m : Nat} {s s' : zS} (h : RelC g b s n m) (ha : agr s s') (hn : n ≤ 12) (hm : m ≤ 400) : RelC g b s' n m := by
  obtain ⟨h1, h2, h3⟩ := h
  have a := fun j (h : 0 ≤ j ∧ j < 2845) => ha j h.1 h.2
  refine ⟨h1.frame (fun j _ _ => rfl) ha.mag hn, h2.frame rfl rfl (fun j c1 c2 => a j (by omega)), ?_⟩
  rw [a 2 (by omega), a 3 (by omega), a 6 (by omega), a 7 (by omega), a 8 (by omega)]
  exact h3
def HistC (g : zM) (z : Nat) (rows : Nat → zS) : Prop := ∃ o : Nat, (g 1 (1 : Nat) = (o : Int) ∧ o < 4) ∧ (g 1 (2 : Nat) = (z : Int) ∧ z ≤ 4) ∧ ∀ i : Nat, i < z → ∃ n m : Nat, minw (rows i) n m ∧ RelC g (hcell o i) (rows i) n m
def Hist (g : zM) : Prop := ∃ (z : Nat) (rows : Nat → zS), HistC g z rows ∧ HistM g z rows
def Snap (g : zM) : Prop := (g 0 (5 : Nat) = 0 ∧ g 64 (5 : Nat) = 0) ∨ (g 0 (5 : Nat) = 1 ∧ g 64 (5 : Nat) = 1 ∧ ∃ n m : Nat, minw (g 68) n m ∧ RelC g 24 (g 68) n m)
def Txt (g : zM) : Prop := ∃ L : Nat, L ≤ 80 ∧ g 3 (4 : Nat) = (L : Int) ∧ g 64 (7 : Nat) = (L : Int) ∧ ∀ i : Nat, i < L → (0 ≤ g 4 i ∧ g 4 i < 65536) ∧ g 69 i = g 4 i
def Cur (g : zM) : Prop := ∃ n m : Nat, minw (g 65) n m ∧ RelC g 8 (g 65) n m
def J (g : zM) : Prop := Cur g ∧ Hist g ∧ Snap g ∧ Txt g
theorem minw.n12 {s : zS} {n m : Nat} (h : minw s n m) : n ≤ 12 := h.1.1.2.1
theorem minw.m400 {s : zS} {n m : Nat} (h : minw s n m) : m ≤ 400 := h.1.2.2.2.2.1.2
theorem HistC.frame {g g' : zM} {z : Nat} {rows : Nat → zS} (h : HistC g z rows) (hf : ∀ j, j = 1 ∨ (32 ≤ j ∧ j < 64) → g' j = g j) : HistC g' z rows := by
  obtain ⟨o, ho, hz, hr⟩ := h
  refine ⟨o, by rw [hf 1 (by omega)]; exact ho, by rw [hf 1 (by omega)]; exact hz, fun i hi => ?_⟩
  obtain ⟨n, m, h1, h2⟩ := hr i hi
  have hce : hcell o i = 32 + 8 * ((o + i) % 4) := rfl
  exact ⟨n, m, h1, h2.frame (fun j a b => hf j (by omega)) h1.n12⟩
theorem HistM.frame {g g' : zM} {z : Nat} {rows : Nat → zS} (h : HistM g z rows) (h3 : g' 64 (3 : Nat) = g 64 (3 : Nat)) (h67 : g' 67 = g 67) : HistM g' z rows := by
  obtain ⟨a, b, c⟩ := h
  exact ⟨by rw [h3]; exact a, b, by rw [h67]; exact c⟩
theorem Snap.frame {g g' : zM} (h : Snap g) (hf : ∀ j, (24 ≤ j ∧ j < 32) ∨ j = 68 → g' j = g j) (h0 : g' 0 (5 : Nat) = g 0 (5 : Nat)) (h64 : g' 64 (5 : Nat) = g 64 (5 : Nat)) : Snap g' := by
  rcases h with ⟨a, b⟩ | ⟨a, b, n, m, c1, c2⟩
  · exact Or.inl ⟨by rw [h0]; exact a, by rw [h64]; exact b⟩
  · refine Or.inr ⟨by rw [h0]; exact a, by rw [h64]; exact b, n, m, ?_, ?_⟩
    · rw [hf 68 (by omega)]; exact c1
    · rw [hf 68 (by omega)]; exact c2.frame (fun j a b => hf j (by omega)) c1.n12
theorem Txt.frame {g g' : zM} (h : Txt g) (h3 : g' 3 (4 : Nat) = g 3 (4 : Nat)) (h4 : g' 4 = g 4) (h64 : g' 64 (7 : Nat) = g 64 (7 : Nat)) (h69 : g' 69 = g 69) : Txt g' := by
  obtain ⟨L, a, b, c, e⟩ := h
  exact ⟨L, a, by rw [h3]; exact b, by rw [h64]; exact c, by rw [h4, h69]; exact e⟩
theorem Cur.frame {g g' : zM} {n m : Nat} (h1 : minw (g 65) n m) (h2 : RelC g 8 (g 65) n m) (hf : ∀ j, 8 ≤ j → j < 16 → g' j = g j) (h65 : g' 65 = g 65) : Cur g' := ⟨n, m, by rw [h65]; exact h1, by rw [h65]; exact h2.frame hf h1.n12⟩
/-- nothing that matters is changed -/
theorem J.frame {g g' : zM} (h : J g) (hf : ∀ j, (j < 2 ∨ j = 4 ∨ (8 ≤ j ∧ j < 16) ∨ (24 ≤ j ∧ j < 66) ∨ (67 ≤ j ∧ j < 70)) → j ≠ 64 → g' j = g j) (h3 : g' 3 (4 : Nat) = g 3 (4 : Nat)) (h64 : g' 64 (3 : Nat) = g 64 (3 : Nat) ∧ g' 64 (5 : Nat) = g 64 (5 : Nat) ∧ g' 64 (7 : Nat) = g 64 (7 : Nat)) : J g' := by
  obtain ⟨⟨n, m, a1, a2⟩, ⟨z, rows, b1, b2⟩, c, e⟩ := h
  refine ⟨Cur.frame a1 a2 (fun j c1 c2 => hf j (by omega) (by omega)) (hf 65 (by omega) (by omega)), ⟨z, rows, b1.frame (fun j c => hf j (by omega) (by omega)), b2.frame h64.1 (hf 67 (by omega) (by omega))⟩, c.frame (fun j c => hf j (by omega) (by omega)) ?_ h64.2.1, e.frame h3 (hf 4 (by omega) (by omega)) h64.2.2 (hf 69 (by omega) (by omega))⟩
  rw [hf 0 (by omega) (by omega)]
section PH
variable {g : zM} {d : Nat} {Q : zP}
theorem c_pushH {b n m z : Nat} {s : zS} {rows : Nat → zS} (hk : zKC b) (hb : b + 8 ≤ 32) (hb1 : 1 < b) (hr : RelC g b s n m) (hw : minw s n m) (hh : HistC g z rows)
    (hQ : ∀ g' : zM, (∀ j, j ≠ 1 → (j < 32 ∨ 64 ≤ j) → g' j = g j) → HistC g' (pushz z) (pushr z rows s) → Q none g') : zC (d + 4) 21 [zR 1, zR b] g Q := by
  obtain ⟨o, ⟨ho, ho4⟩, ⟨hz, hz4⟩, hrows⟩ := hh
  refine c_push hk hb hb1 hr hw.n12 hw.m400 ho hz ho4 hz4 (fun g' o' z' e1 e2 hf h1 h2 hr' => ?_)
  have hce : hcell o' z' = 32 + 8 * ((o' + z') % 4) := rfl
  have ho' : o' < 4 := by
    rw [e1]; split <;> omega
  have hpz : pushz z = z' + 1 := by
    unfold pushz
    rw [e2]
    split <;> omega
  refine hQ g' (fun j c1 c2 => hf j c1 (by omega)) ⟨o', ⟨h1, ho'⟩, ⟨by rw [h2, hpz], by unfold pushz; split <;> omega⟩, fun i hi => ?_⟩
  rw [hpz] at hi
  have hci : hcell o' i = 32 + 8 * ((o' + i) % 4) := rfl
  unfold pushr
  by_cases c4 : z = 4
  · rw [if_pos c4] at e1 e2 ⊢
    by_cases c : i < 3
    · rw [if_pos c]
      obtain ⟨n2, m2, w1, w2⟩ := hrows (i + 1) (by omega)
      have e : hcell o (i + 1) = hcell o' i := by
        have : hcell o (i + 1) = 32 + 8 * ((o + (i + 1)) % 4) := rfl
        omega
      rw [e] at w2
      exact ⟨n2, m2, w1, w2.frame (fun j c1 c2 => hf j (by omega) (by omega)) w1.n12⟩
    · rw [if_neg c]
      have : i = z' := by omega
      subst this
      exact ⟨n, m, hw, hr'⟩
  · rw [if_neg c4] at e1 e2 ⊢
    by_cases c : i < z
    · rw [if_pos c]
      obtain ⟨n2, m2, w1, w2⟩ := hrows i c
      have e : hcell o i = hcell o' i := by rw [e1]
      rw [e] at w2
      exact ⟨n2, m2, w1, w2.frame (fun j c1 c2 => hf j (by omega) (by omega)) w1.n12⟩
    · rw [if_neg c]
      have : i = z' := by omega
      subst this
      exact ⟨n, m, hw, hr'⟩
theorem zkd0 : zkd 0 = (0, 5) := rfl
theorem c_prepare {n m z : Nat} {s : zS} {rows : Nat → zS} (hr : RelC g 8 s n m) (hw : minw s n m) (hh : HistC g z rows)
    (hQ : ∀ g' : zM, (∀ j, j ≠ 1 → (j < 8 ∨ (16 ≤ j ∧ j < 32) ∨ 64 ≤ j) → g' j = g j) → HistC g' (pushz z) (pushr z rows s) → RelC g' 8 (mfg s) n 0 → Q none g') : zC (d + 5) 78 [zR 0] g Q := by
  have k0 := zkd0
  have k1 := zkd1
  have k8 := zKC_8.1
  have hn := hw.n12
  refine zC.go zm_X5_prepareForChange ⟨rfl, rfl⟩ rfl ?_
  (refine zW.go (zC_om _) (fun K hK => ?_); conv => whnf)
  (refine And.intro (by first | omega | assumption | rfl | exact zin_and | exact ⟨zin_and, by omega⟩ | exact ⟨by omega, zin_and⟩ | exact Nat.le_of_ble_eq_true rfl | exact ⟨Nat.le_of_ble_eq_true rfl, rfl⟩ | exact ⟨Nat.le_of_ble_eq_true rfl, by assumption⟩ | exact ⟨by omega, Nat.le_of_ble_eq_true rfl⟩ | exact ⟨⟨by assumption, by omega⟩, Nat.le_of_ble_eq_true rfl⟩ | decide) ?_; conv => whnf)
  (refine And.intro (by first | omega | assumption | rfl | exact zin_and | exact ⟨zin_and, by omega⟩ | exact ⟨by omega, zin_and⟩ | exact Nat.le_of_ble_eq_true rfl | exact ⟨Nat.le_of_ble_eq_true rfl, rfl⟩ | exact ⟨Nat.le_of_ble_eq_true rfl, by assumption⟩ | exact ⟨by omega, Nat.le_of_ble_eq_true rfl⟩ | exact ⟨⟨by assumption, by omega⟩, Nat.le_of_ble_eq_true rfl⟩ | decide) ?_; conv => whnf)
  (refine And.intro (by first | omega | assumption | rfl | exact zin_and | exact ⟨zin_and, by omega⟩ | exact ⟨by omega, zin_and⟩ | exact Nat.le_of_ble_eq_true rfl | exact ⟨Nat.le_of_ble_eq_true rfl, rfl⟩ | exact ⟨Nat.le_of_ble_eq_true rfl, by assumption⟩ | exact ⟨by omega, Nat.le_of_ble_eq_true rfl⟩ | exact ⟨⟨by assumption, by omega⟩, Nat.le_of_ble_eq_true rfl⟩ | decide) ?_; conv => whnf)
  (refine c_pushH zKC_8 (by omega) (by omega) hr hw hh (fun g1 hf1 hh1 => ?_); conv => whnf)
  (refine And.intro (by first | omega | assumption | rfl | exact zin_and | exact ⟨zin_and, by omega⟩ | exact ⟨by omega, zin_and⟩ | exact Nat.le_of_ble_eq_true rfl | exact ⟨Nat.le_of_ble_eq_true rfl, rfl⟩ | exact ⟨Nat.le_of_ble_eq_true rfl, by assumption⟩ | exact ⟨by omega, Nat.le_of_ble_eq_true rfl⟩ | exact ⟨⟨by assumption, by omega⟩, Nat.le_of_ble_eq_true rfl⟩ | decide) ?_; conv => whnf)
  (refine And.intro (by first | omega | assumption | rfl | exact zin_and | exact ⟨zin_and, by omega⟩ | exact ⟨by omega, zin_and⟩ | exact Nat.le_of_ble_eq_true rfl | exact ⟨Nat.le_of_ble_eq_true rfl, rfl⟩ | exact ⟨Nat.le_of_ble_eq_true rfl, by assumption⟩ | exact ⟨by omega, Nat.le_of_ble_eq_true rfl⟩ | exact ⟨⟨by assumption, by omega⟩, Nat.le_of_ble_eq_true rfl⟩ | decide) ?_; conv => whnf)
  (refine c_forget zKC_8 ?_; conv => whnf)
  have hr1 : RelC g1 8 s n m := hr.frame (fun j c1 c2 => hf1 j (by omega) (by omega)) hn
  refine ⟨trivial, hQ _ (fun j c1 c2 => ?_) (hh1.frame (fun j c => ?_)) (hr1.forget hn)⟩
  · rw [zup_ne (by omega), zup_ne (by omega), zup_ne (by omega), zup_ne (by omega), hf1 j c1 (by omega)]
  · rw [zup_ne (by omega), zup_ne (by omega), zup_ne (by omega), zup_ne (by omega)]
end PH
