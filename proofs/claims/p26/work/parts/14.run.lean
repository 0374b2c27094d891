/-! straight runs that stop ahead of a place: for the heads of loops -/
def zrunE (O : zO) (Ret : zP) (K : zK) (E : zX) (es : List zE) : zX := List.rec (motive := fun _ => zX) E (fun e _ ih => zstep O Ret K e ih) es
theorem zrunE_mono {O : zO} {R : zP} {K : zK} {E E' : zX} (hO : zOm O) (hE : ∀ ls st g, E ls st g → E' ls st g) :
    ∀ (es : List zE) (ls st : List zV) (g : zM), zrunE O R K E es ls st g → zrunE O R K E' es ls st g := by
  intro es
  induction es with
  | nil => exact hE
  | cons e es ih => exact fun ls st g h => zstep_mono hO (fun _ _ q => q) (fun _ _ _ _ q => q) ih e ls st g h
theorem zrunE_app {O : zO} {R : zP} {K : zK} : ∀ (a b : List zE) (ls st : List zV) (g : zM), zrunE O R K (zrun O R K b) a ls st g = zrun O R K (a ++ b) ls st g := by
  intro a b
  induction a with
  | nil => intro _ _ _; rfl
  | cons e es ih =>
    intro ls st g
    have : zrunE O R K (zrun O R K b) es = zrun O R K (es ++ b) := by funext ls st g; exact ih ls st g
    show zstep O R K e (zrunE O R K (zrun O R K b) es) ls st g = zstep O R K e (zrun O R K (es ++ b)) ls st g
    rw [this]
theorem zW.un {cd : List zE} {O : zO} {Ret : zP} (hO : zOm O) {t : Nat} {ls st : List zV} {g : zM} (h : zW cd O Ret t ls st g) : zrun O Ret (zW cd O Ret) (cd.drop t) ls st g :=
  h (fun t ls st g => zrun O Ret (zW cd O Ret) (cd.drop t) ls st g) (fun t ls st g q => zrun_mono hO (fun _ _ q => q) (fun t ls st g q => zW.go hO (fun K hK => zrun_mono hO (fun _ _ q => q) hK _ _ _ _ q)) _ _ _ _ q)
theorem zW.upto {cd : List zE} {O : zO} {Ret : zP} (hO : zOm O) (n : Nat) {t : Nat} {ls st : List zV} {g : zM} (h : ∀ K : zK, (∀ t ls st g, zW cd O Ret t ls st g → K t ls st g) → zrunE O Ret K (fun ls st g => K (t + n) ls st g) ((cd.drop t).take n) ls st g) : zW cd O Ret t ls st g := by
  refine zW.go hO (fun K hK => ?_)
  have h1 := h (zW cd O Ret) (fun _ _ _ _ q => q)
  have h2 := zrunE_mono (E' := zrun O Ret (zW cd O Ret) (cd.drop (t + n))) hO (fun ls st g q => zW.un hO q) _ _ _ _ h1
  have e : cd.drop (t + n) = (cd.drop t).drop n := by rw [List.drop_drop]
  rw [e, zrunE_app, List.take_append_drop] at h2
  exact zrun_mono hO (fun _ _ q => q) hK _ _ _ _ h2
