/-! what is said of things and room depends on those numbers alone -/
def magr (s s' : zS) : Prop := s 0 = s' 0 ∧ s 1 = s' 1 ∧ ∀ j : Int, 9 ≤ j → j < 45 → s j = s' j
theorem magr.rfl {s : zS} : magr s s := ⟨Eq.refl _, Eq.refl _, fun _ _ _ => Eq.refl _⟩
theorem magr.symm {s s' : zS} (h : magr s s') : magr s' s := ⟨h.1.symm, h.2.1.symm, fun j a b => (h.2.2 j a b).symm⟩
theorem magr.trans {s s' s'' : zS} (h : magr s s') (h' : magr s' s'') : magr s s'' := ⟨h.1.trans h'.1, h.2.1.trans h'.2.1, fun j a b => (h.2.2 j a b).trans (h'.2.2 j a b)⟩
theorem magr.ok {s s' : zS} {n : Nat} (h : magr s s') (hok : mok s n) : mok s' n := by
  obtain ⟨h0, h1, h2, h3⟩ := hok
  refine ⟨by rw [← h.1]; exact h0, h1, by rw [← h.2.1]; exact h2, fun t ht => ?_⟩
  have h4 := h3 t ht
  rw [h.2.2 (9 + t) (by omega) (by omega), h.2.2 (21 + t) (by omega) (by omega), h.2.2 (33 + t) (by omega) (by omega)] at h4
  exact h4
theorem bsum_congr {s s' : zS} {f : Int} {set : Nat} : ∀ n : Nat, (∀ t : Nat, t < n → s (f + t) = s' (f + t)) → bsum s f set n = bsum s' f set n
  | 0, _ => rfl
  | n + 1, h => by
    show bsum s f set n + _ = bsum s' f set n + _
    rw [bsum_congr n (fun t ht => h t (by omega)), h n (by omega)]
section AG
variable {s s' : zS} {n : Nat}
theorem ag_v (h : magr s s') (hn : n ≤ 12) (set : Nat) : bsum s 21 set n = bsum s' 21 set n := bsum_congr n (fun t ht => h.2.2 _ (by omega) (by omega))
theorem ag_w (h : magr s s') (hn : n ≤ 12) (set : Nat) : bsum s 9 set n = bsum s' 9 set n := bsum_congr n (fun t ht => h.2.2 _ (by omega) (by omega))
theorem ag_b (h : magr s s') {t : Nat} (ht : t < 12) : mb s t = mb s' t := by unfold mb; rw [h.2.2 (33 + t) (by omega) (by omega)]
theorem ag_poss (h : magr s s') (hn : n ≤ 12) (set : Nat) : mposs s n set = mposs s' n set := by
  have go : ∀ t : Nat, t ≤ 12 → mpb s n set t = mpb s' n set t := by
    intro t
    induction t with
    | zero => intro _; show decide _ = decide _; rw [ag_v h hn, h.2.1]
    | succ t ih =>
      intro ht
      show (mpb s n set t && (!set.testBit t || decide (mb s t &&& set = 0))) = (mpb s' n set t && (!set.testBit t || decide (mb s' t &&& set = 0)))
      rw [ih (by omega), ag_b h (show t < 12 by omega)]
  exact go n hn
theorem ag_fc (h : magr s s') (hn : n ≤ 12) (i o : Nat) {t : Nat} (ht : t < 12) : mfc s n i o t = mfc s' n i o t := by
  unfold mfc
  rw [ag_b h ht, ag_v h hn, h.2.1, h.2.2 (21 + t) (by omega) (by omega)]
theorem ag_free (h : magr s s') (hn : n ≤ 12) (i o : Nat) : mfree s n i o = mfree s' n i o := by
  have go : ∀ t : Nat, t ≤ 12 → mfr s n i o t = mfr s' n i o t := by
    intro t
    induction t with
    | zero => intro _; rfl
    | succ t ih =>
      intro ht
      show mfr s n i o t ||| _ = mfr s' n i o t ||| _
      rw [ih (by omega), ag_fc h hn i o (show t < 12 by omega)]
  exact go n hn
theorem ag_ah (h : magr s s') {k t : Nat} (hk : k < 12) (ht : t < 12) : mah s k t = mah s' k t := by
  unfold mah
  rw [h.2.2 (9 + t) (by omega) (by omega), h.2.2 (21 + t) (by omega) (by omega), h.2.2 (9 + k) (by omega) (by omega), h.2.2 (21 + k) (by omega) (by omega)]
theorem ag_pl (h : magr s s') (hn : n ≤ 12) {t : Nat} (ht : t < n) : mpl s n t = mpl s' n t := zcnt_congr n _ _ (fun k hk => ag_ah h (by omega) (by omega))
theorem zfind_congr : ∀ (n : Nat) (p q : Nat → Bool), (∀ k, k < n → p k = q k) → zfind n p = zfind n q
  | 0, _, _, _ => rfl
  | n + 1, p, q, h => by
    show (if p n then n else zfind n p) = (if q n then n else zfind n q)
    rw [h n (by omega), zfind_congr n p q (fun k hk => h k (by omega))]
theorem ag_or (h : magr s s') (hn : n ≤ 12) (k : Nat) : mor s n k = mor s' n k := zfind_congr n _ _ (fun t ht => by rw [ag_pl h hn ht])
theorem ag_left (h : magr s s') (hn : n ≤ 12) (i : Nat) : mleft s n i = mleft s' n i := by unfold mleft; rw [h.2.1, ag_v h hn]
theorem ag_spl (h : magr s s') (hn : n ≤ 12) (hp : mpos s n) (fr : Nat) : ∀ (m k : Nat) (left : Int), k + m = n → mspl s n fr m k left = mspl s' n fr m k left
  | 0, _, _, _ => rfl
  | m + 1, k, left, hk => by
    have hmo := (mor_spec (s := s) hp (show k < n by omega)).1
    rw [mspl, mspl, ← ag_or h hn k, ← h.2.2 (21 + (mor s n k : Int)) (by omega) (by omega), ag_spl h hn hp fr m (k + 1) _ (by omega), ag_spl h hn hp fr m (k + 1) _ (by omega)]
theorem ag_bd (h : magr s s') (hn : n ≤ 12) (hp : mpos s n) (fr : Nat) : ∀ (m k : Nat) (left sum : Int), k + m = n → mbd s n fr m k left sum = mbd s' n fr m k left sum
  | 0, _, _, _, _ => rfl
  | m + 1, k, left, sum, hk => by
    have hmo := (mor_spec (s := s) hp (show k < n by omega)).1
    rw [mbd, mbd, ← ag_or h hn k, ← h.2.2 (21 + (mor s n k : Int)) (by omega) (by omega), ← h.2.2 (9 + (mor s n k : Int)) (by omega) (by omega), ag_bd h hn hp fr m (k + 1) _ _ (by omega), ag_bd h hn hp fr m (k + 1) _ _ (by omega)]
theorem ag_hl (h : magr s s') (hn : n ≤ 12) (hp : mpos s n) (fr : Nat) : ∀ (m k set : Nat) (left : Int), k + m = n → mhl s n fr m k set left = mhl s' n fr m k set left
  | 0, _, _, _, _ => rfl
  | m + 1, k, set, left, hk => by
    have hmo := (mor_spec (s := s) hp (show k < n by omega)).1
    have hc : mhc s fr (mor s n k) set left = mhc s' fr (mor s n k) set left := by
      unfold mhc
      rw [h.2.2 (21 + (mor s n k : Int)) (by omega) (by omega), ag_b h (show mor s n k < 12 by omega)]
    rw [mhl, mhl, ← ag_or h hn k, ← h.2.2 (21 + (mor s n k : Int)) (by omega) (by omega), hc, ag_hl h hn hp fr m (k + 1) _ _ (by omega), ag_hl h hn hp fr m (k + 1) _ _ (by omega)]
theorem ag_fs (h : magr s s') (hn : n ≤ 12) (set : Nat) : ∀ (m k : Nat), mfs s n set m k = mfs s' n set m k
  | 0, _ => rfl
  | m + 1, k => by rw [mfs, mfs, ← ag_or h hn k, ag_fs h hn set m (k + 1)]
theorem ag_bound (h : magr s s') (hn : n ≤ 12) (hp : mpos s n) (i o : Nat) : mbound s n i o = mbound s' n i o := by
  unfold mbound
  rw [ag_free h hn, ag_left h hn, ag_w h hn, ag_bd h hn hp _ n 0 _ _ (by omega)]
theorem ag_heel (h : magr s s') (hn : n ≤ 12) (hp : mpos s n) (i o : Nat) : mheel s n i o = mheel s' n i o := by
  unfold mheel
  rw [ag_free h hn, ag_left h hn, ag_hl h hn hp _ n 0 _ _ (by omega)]
theorem ag_child (h : magr s s') (hn : n ≤ 12) (hp : mpos s n) (i o : Nat) : mchild s n i o = mchild s' n i o := by
  unfold mchild
  rw [ag_poss h hn, ag_bound h hn hp]
theorem ag_hv (h : magr s s') (fr : Nat) : ∀ t : Nat, t ≤ 12 → mhv s fr t = mhv s' fr t
  | 0, _ => rfl
  | t + 1, ht => by
    have ih := ag_hv h fr t (by omega)
    have hr := mhv_rng s fr t
    rw [mhv, mhv, ← ih, ← h.2.2 (21 + (t : Int)) (by omega) (by omega)]
    rcases hr with hr | hr
    · simp [hr]
    · rw [← h.2.2 (21 + mhv s fr t) (by omega) (by omega)]
theorem ag_tr (h : magr s s') (hn : n ≤ 12) (hp : mpos s n) (fr i o : Nat) : ∀ t : Nat, mtr s n fr i o t = mtr s' n fr i o t
  | 0 => rfl
  | t + 1 => by rw [mtr, mtr, ← ag_tr h hn hp fr i o t, ← ag_child h hn hp, ← ag_child h hn hp]
theorem ag_parts (h : magr s s') (hn : n ≤ 12) (hp : mpos s n) (i o : Nat) : mparts s n i o = mparts s' n i o := by
  have e1 : msplit s n i o = msplit s' n i o := by
    unfold msplit
    rw [ag_free h hn, ag_left h hn, ag_spl h hn hp _ n 0 _ (by omega)]
  have e2 : ∀ set, mfirst s n set = mfirst s' n set := fun set => ag_fs h hn set n 0
  unfold mparts
  rw [e1, e2, e2, ag_free h hn, ag_heel h hn hp]
theorem ag_branch (h : magr s s') (hn : n ≤ 12) (hp : mpos s n) (i o : Nat) (c : Int) : mbranch s n i o c = mbranch s' n i o c := by
  unfold mbranch mtrials
  rw [ag_parts h hn hp, ag_free h hn, ag_hv h _ n hn, ag_tr h hn hp]
theorem ag_so {g : zM} (h : magr s s') (hn : n ≤ 12) (hs : mso g s n) : mso g s' n := fun k hk => by rw [← ag_or h hn k]; exact hs k hk
end AG
