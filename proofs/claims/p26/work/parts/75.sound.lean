section ZT
variable {p : Program} {l : Launch} {e : Env} {d : Nat} {s : State} {m : MethodId} {args : Array Value} {below : List Frame} {meth : Method} {c : Code} {Z : zG} {cc : ByteArray} {own : String} {nL : Nat} {ret : Option FieldType} {cd : List zE} {cells slots : Nat} {R : Room} {sr : Int → Int} {A0 : Nat → Prop} {H0 : Heap} {Qw : State → Prop}
theorem ztg_spec {pc : Nat} {off : Int} {t : Nat} (h : ztg cd pc off t = true) : ∃ e, cd[t]? = some e ∧ (pc : Int) + off = (e.2.1 : Int) := by
  unfold ztg at h
  cases hc : cd[t]? with
  | none => rw [hc] at h; exact Bool.noConfusion h
  | some e => rw [hc] at h; exact ⟨e, rfl, of_decide_eq_true h⟩
theorem zlow_b {a : Int} (h : a = 0 ∨ a = 1) : narrow .boolean (.int (zJ a)) = .int (zJ a) ∧ fits .boolean (.int (zJ a)) = true := by
  rcases h with rfl | rfl <;> exact ⟨by decide, by decide⟩
theorem zlow_c {a : Int} (h : 0 ≤ a ∧ a < 65536) : narrow .char (.int (zJ a)) = .int (zJ a) ∧ fits .char (.int (zJ a)) = true := by
  have e : zJ a = nI a.toNat := by
    have h1 : a = ((a.toNat : Nat) : Int) := by omega
    rw [h1, zJ_nat]
    rfl
  rw [e]
  exact pk_charN (by omega)
theorem zvp_char {a : Int} (h : 0 ≤ a ∧ a < 65536) : vp_nar .char (zJ a) = zJ a := by
  have := (zlow_c h).1
  unfold vp_nar
  rw [this]
theorem zJ_tn (a : Int) : (((zJ a).toBitVec.toNat : Nat) : Int) = a % 4294967296 := by
  have : (zJ a).toBitVec = BitVec.ofInt 32 a := rfl
  rw [this, BitVec.toNat_ofInt]
  omega
theorem zi2c (a : Int) : ((zJ a).toUInt32 % 65536).toInt32 = zJ (a % 65536) := by
  rw [pk_char]
  have h := zJ_tn a
  have e : a % 65536 = (((zJ a).toBitVec.toNat % 65536 : Nat) : Int) := by omega
  rw [e, zJ_nat]
  rfl
theorem zJ_iand (x y : Int) : zJ x &&& zJ y = zJ (zand x y) := (zJ_of _).symm
theorem zJ_ior (x y : Int) : zJ x ||| zJ y = zJ (zor x y) := (zJ_of _).symm
theorem zJ_ixor (x y : Int) : zJ x ^^^ zJ y = zJ (zxor x y) := (zJ_of _).symm
theorem zJ_ishl (x y : Int) : zJ x <<< (zJ y &&& 31) = zJ (zshl x y) := (zJ_of _).symm
theorem zJ_ishr (x y : Int) : zJ x >>> (zJ y &&& 31) = zJ (zshr x y) := (zJ_of _).symm
theorem zJ_idiv (x y : Int) : zJ x / zJ y = zJ (zdiv x y) := (zJ_of _).symm
theorem zJ_irem (x y : Int) : zJ x - zJ x / zJ y * zJ y = zJ (zrem x y) := (zJ_of _).symm
theorem zJ_lor (x y : Int) : zJL x ||| zJL y = zJL (zlor x y) := (zJL_of _).symm
theorem zJ_land (x y : Int) : zJL x &&& zJL y = zJL (zland x y) := (zJL_of _).symm
theorem zone_at : ∀ a, a < 64 → ∀ x, x < 6 → ykd a = (0, x) → zone x < 100 → zone x = a := by decide +kernel
theorem zfo_lt : ∀ x, x < 6 → ∀ v ∈ zfo x, v < 100 := by decide +kernel
theorem zone_ok {a x y z : Nat} (ha : a < zNC) (hx : x < 6) (hk : ykd a = (0, x)) (hf : (zfo x)[y]? = some (if zone x < z ∧ zone x < 100 then z - zone x else 1000)) : ∃ w, (if zone x < z ∧ zone x < 100 then z - zone x else 1000) = w + 1 ∧ a + (w + 1) = z := by
  by_cases hc : zone x < z ∧ zone x < 100
  · have := zone_at a ha x hx hk hc.2
    rw [if_pos hc]
    exact ⟨z - zone x - 1, by omega, by omega⟩
  · rw [if_neg hc] at hf
    have := zfo_lt x hx _ (List.mem_of_getElem? hf)
    omega
theorem ztab_spec {x : Int} {F : Nat → Prop} : ∀ (ts : List Nat) (i0 : Int), ztab x i0 F ts → ∀ (i : Nat) (t : Nat), ts[i]? = some t → x = i0 + i → F t
  | [], _, _, i, t, hi, _ => by simp at hi
  | t0 :: ts, i0, h, 0, t, hi, hx => by
    cases hi
    exact h.1 (by simpa using hx)
  | t0 :: ts, i0, h, i + 1, t, hi, hx => ztab_spec ts (i0 + 1) h.2 i t (by simpa using hi) (by omega)
theorem zSY0 : Cond.native arraycopyName ∈ zTs := zgw_spec (List.all_eq_true.mp zSY_ok _ (List.mem_of_getElem? (i := 0) rfl))
theorem zSY1 : Cond.static arraycopyName ∈ zTs := zgw_spec (List.all_eq_true.mp zSY_ok _ (List.mem_of_getElem? (i := 1) rfl))
theorem zSY2 : Cond.initialized "java/lang/System" ∈ zTs := zgw_spec (List.all_eq_true.mp zSY_ok _ (List.mem_of_getElem? (i := 2) rfl))
theorem zSY3 : Cond.static Lib.Math.max.name ∈ zTs := zgw_spec (List.all_eq_true.mp zSY_ok _ (List.mem_of_getElem? (i := 3) rfl))
theorem zSY4 : Cond.code Lib.Math.max.name Lib.Math.max.code 2 (some .int) ∈ zTs := zgw_spec (List.all_eq_true.mp zSY_ok _ (List.mem_of_getElem? (i := 4) rfl))
theorem zSY5 : Cond.initialized "java/lang/Math" ∈ zTs := zgw_spec (List.all_eq_true.mp zSY_ok _ (List.mem_of_getElem? (i := 5) rfl))
theorem zSY6 : Cond.static Lib.Math.min.name ∈ zTs := zgw_spec (List.all_eq_true.mp zSY_ok _ (List.mem_of_getElem? (i := 6) rfl))
theorem zSY7 : Cond.code Lib.Math.min.name Lib.Math.min.code 2 (some .int) ∈ zTs := zgw_spec (List.all_eq_true.mp zSY_ok _ (List.mem_of_getElem? (i := 7) rfl))
/-- the end of a method -/
abbrev zEnd (below : List Frame) (Z : zG) (sr : Int → Int) (Q : zP) (args : Array Value) (s : State) : State → Prop := MQ below (zQc Z sr Q) args s 0 0 (zA Z)
set_option maxHeartbeats 1000000 in
theorem zs_iconst {n : Int} (hF : zFr p s m args c cc own nL Z A0 sr H0 R d cells slots) (hO : ∀ x, zMet l d x) {Q : zP} {K : zK} {nx : zX} {pc x y z : Nat} {v : Int} {lx : List Nat} (hck : zechk own cc ret cd (.iconst n, pc, x, y, z, v, lx) = true)
    (hK : ∀ t ls st g, K t ls st g → ∀ e', cd[t]? = some e' → zGo p l e s m args below meth c Qw Z A0 H0 sr R cells slots nL e'.2.1 ls st g)
    (hn : ∀ ls st g, nx ls st g → zGo p l e s m args below meth c Qw Z A0 H0 sr R cells slots nL (pc + 1) ls st g)
    {ls st : List zV} {g : zM} (h : ystep (yC d) Q K (.iconst n, pc, x, y, z, v, lx) nx ls st g) : zGo p l e s m args below meth c Qw Z A0 H0 sr R cells slots nL pc ls st g := by
  obtain ⟨hx, hb, hml, hown, hts, ⟨hKK, hN⟩, hin, hA, hRm, hSc, hScA⟩ := id hF
  have hD : ∀ g, va_D A0 (zws Z g) := fun g => zws_D hin hA
  have hck := hck
  simp only [zechk, zlen, Bool.and_eq_true, and_true] at hck
  intro real H locs hls hW
  exact lv_iconst hx hb (of_decide_eq_true hck) rfl (hn _ _ _ h real H locs hls hW)
set_option maxHeartbeats 1000000 in
theorem zs_bipush {n : Int} (hF : zFr p s m args c cc own nL Z A0 sr H0 R d cells slots) (hO : ∀ x, zMet l d x) {Q : zP} {K : zK} {nx : zX} {pc x y z : Nat} {v : Int} {lx : List Nat} (hck : zechk own cc ret cd (.bipush n, pc, x, y, z, v, lx) = true)
    (hK : ∀ t ls st g, K t ls st g → ∀ e', cd[t]? = some e' → zGo p l e s m args below meth c Qw Z A0 H0 sr R cells slots nL e'.2.1 ls st g)
    (hn : ∀ ls st g, nx ls st g → zGo p l e s m args below meth c Qw Z A0 H0 sr R cells slots nL (pc + 2) ls st g)
    {ls st : List zV} {g : zM} (h : ystep (yC d) Q K (.bipush n, pc, x, y, z, v, lx) nx ls st g) : zGo p l e s m args below meth c Qw Z A0 H0 sr R cells slots nL pc ls st g := by
  obtain ⟨hx, hb, hml, hown, hts, ⟨hKK, hN⟩, hin, hA, hRm, hSc, hScA⟩ := id hF
  have hD : ∀ g, va_D A0 (zws Z g) := fun g => zws_D hin hA
  have hck := hck
  simp only [zechk, zlen, Bool.and_eq_true, and_true] at hck
  intro real H locs hls hW
  exact lv_bipush hx hb (of_decide_eq_true hck.1) (of_decide_eq_true hck.2) (hn _ _ _ h real H locs hls hW)
set_option maxHeartbeats 1000000 in
theorem zs_sipush {n : Int} (hF : zFr p s m args c cc own nL Z A0 sr H0 R d cells slots) (hO : ∀ x, zMet l d x) {Q : zP} {K : zK} {nx : zX} {pc x y z : Nat} {v : Int} {lx : List Nat} (hck : zechk own cc ret cd (.sipush n, pc, x, y, z, v, lx) = true)
    (hK : ∀ t ls st g, K t ls st g → ∀ e', cd[t]? = some e' → zGo p l e s m args below meth c Qw Z A0 H0 sr R cells slots nL e'.2.1 ls st g)
    (hn : ∀ ls st g, nx ls st g → zGo p l e s m args below meth c Qw Z A0 H0 sr R cells slots nL (pc + 3) ls st g)
    {ls st : List zV} {g : zM} (h : ystep (yC d) Q K (.sipush n, pc, x, y, z, v, lx) nx ls st g) : zGo p l e s m args below meth c Qw Z A0 H0 sr R cells slots nL pc ls st g := by
  obtain ⟨hx, hb, hml, hown, hts, ⟨hKK, hN⟩, hin, hA, hRm, hSc, hScA⟩ := id hF
  have hD : ∀ g, va_D A0 (zws Z g) := fun g => zws_D hin hA
  have hck := hck
  simp only [zechk, zlen, Bool.and_eq_true, and_true] at hck
  intro real H locs hls hW
  exact lv_sipush hx hb (of_decide_eq_true hck.1) (of_decide_eq_true hck.2) (hn _ _ _ h real H locs hls hW)
set_option maxHeartbeats 1000000 in
theorem zs_ldc {i : Nat} (hF : zFr p s m args c cc own nL Z A0 sr H0 R d cells slots) (hO : ∀ x, zMet l d x) {Q : zP} {K : zK} {nx : zX} {pc x y z : Nat} {v : Int} {lx : List Nat} (hck : zechk own cc ret cd (.ldc i, pc, x, y, z, v, lx) = true)
    (hK : ∀ t ls st g, K t ls st g → ∀ e', cd[t]? = some e' → zGo p l e s m args below meth c Qw Z A0 H0 sr R cells slots nL e'.2.1 ls st g)
    (hn : ∀ ls st g, nx ls st g → zGo p l e s m args below meth c Qw Z A0 H0 sr R cells slots nL (pc + 2) ls st g)
    {ls st : List zV} {g : zM} (h : ystep (yC d) Q K (.ldc i, pc, x, y, z, v, lx) nx ls st g) : zGo p l e s m args below meth c Qw Z A0 H0 sr R cells slots nL pc ls st g := by
  obtain ⟨hx, hb, hml, hown, hts, ⟨hKK, hN⟩, hin, hA, hRm, hSc, hScA⟩ := id hF
  have hD : ∀ g, va_D A0 (zws Z g) := fun g => zws_D hin hA
  have hck := hck
  simp only [zechk, zlen, Bool.and_eq_true, and_true] at hck
  intro real H locs hls hW
  exact lv_ldc hx hb hown (hts _ (zgw_spec hck.2)) (of_decide_eq_true hck.1) (hn _ _ _ h real H locs hls hW)
set_option maxHeartbeats 1000000 in
theorem zs_ldcw {i : Nat} (hF : zFr p s m args c cc own nL Z A0 sr H0 R d cells slots) (hO : ∀ x, zMet l d x) {Q : zP} {K : zK} {nx : zX} {pc x y z : Nat} {v : Int} {lx : List Nat} (hck : zechk own cc ret cd (.ldc_w i, pc, x, y, z, v, lx) = true)
    (hK : ∀ t ls st g, K t ls st g → ∀ e', cd[t]? = some e' → zGo p l e s m args below meth c Qw Z A0 H0 sr R cells slots nL e'.2.1 ls st g)
    (hn : ∀ ls st g, nx ls st g → zGo p l e s m args below meth c Qw Z A0 H0 sr R cells slots nL (pc + 3) ls st g)
    {ls st : List zV} {g : zM} (h : ystep (yC d) Q K (.ldc_w i, pc, x, y, z, v, lx) nx ls st g) : zGo p l e s m args below meth c Qw Z A0 H0 sr R cells slots nL pc ls st g := by
  obtain ⟨hx, hb, hml, hown, hts, ⟨hKK, hN⟩, hin, hA, hRm, hSc, hScA⟩ := id hF
  have hD : ∀ g, va_D A0 (zws Z g) := fun g => zws_D hin hA
  have hck := hck
  simp only [zechk, zlen, Bool.and_eq_true, and_true] at hck
  intro real H locs hls hW
  exact lv_ldcw hx hb hown (hts _ (zgw_spec hck.2)) (of_decide_eq_true hck.1) (hn _ _ _ h real H locs hls hW)
set_option maxHeartbeats 1000000 in
theorem zs_ldc2 {i : Nat} (hF : zFr p s m args c cc own nL Z A0 sr H0 R d cells slots) (hO : ∀ x, zMet l d x) {Q : zP} {K : zK} {nx : zX} {pc x y z : Nat} {v : Int} {lx : List Nat} (hck : zechk own cc ret cd (.ldc2_w i, pc, x, y, z, v, lx) = true)
    (hK : ∀ t ls st g, K t ls st g → ∀ e', cd[t]? = some e' → zGo p l e s m args below meth c Qw Z A0 H0 sr R cells slots nL e'.2.1 ls st g)
    (hn : ∀ ls st g, nx ls st g → zGo p l e s m args below meth c Qw Z A0 H0 sr R cells slots nL (pc + 3) ls st g)
    {ls st : List zV} {g : zM} (h : ystep (yC d) Q K (.ldc2_w i, pc, x, y, z, v, lx) nx ls st g) : zGo p l e s m args below meth c Qw Z A0 H0 sr R cells slots nL pc ls st g := by
  obtain ⟨hx, hb, hml, hown, hts, ⟨hKK, hN⟩, hin, hA, hRm, hSc, hScA⟩ := id hF
  have hD : ∀ g, va_D A0 (zws Z g) := fun g => zws_D hin hA
  have hck := hck
  simp only [zechk, zlen, Bool.and_eq_true, and_true] at hck
  intro real H locs hls hW
  exact lv_ldc2 hx hb hown (hts _ (zgw_spec hck.2)) (of_decide_eq_true hck.1) (hn _ _ _ h real H locs hls hW)
set_option maxHeartbeats 1000000 in
theorem zs_null (hF : zFr p s m args c cc own nL Z A0 sr H0 R d cells slots) (hO : ∀ x, zMet l d x) {Q : zP} {K : zK} {nx : zX} {pc x y z : Nat} {v : Int} {lx : List Nat} (hck : zechk own cc ret cd (.aconst_null, pc, x, y, z, v, lx) = true)
    (hK : ∀ t ls st g, K t ls st g → ∀ e', cd[t]? = some e' → zGo p l e s m args below meth c Qw Z A0 H0 sr R cells slots nL e'.2.1 ls st g)
    (hn : ∀ ls st g, nx ls st g → zGo p l e s m args below meth c Qw Z A0 H0 sr R cells slots nL (pc + 1) ls st g)
    {ls st : List zV} {g : zM} (h : ystep (yC d) Q K (.aconst_null, pc, x, y, z, v, lx) nx ls st g) : zGo p l e s m args below meth c Qw Z A0 H0 sr R cells slots nL pc ls st g := by
  obtain ⟨hx, hb, hml, hown, hts, ⟨hKK, hN⟩, hin, hA, hRm, hSc, hScA⟩ := id hF
  have hD : ∀ g, va_D A0 (zws Z g) := fun g => zws_D hin hA
  have hck := hck
  simp only [zechk, zlen, Bool.and_eq_true, and_true] at hck
  intro real H locs hls hW
  exact lv_null hx hb (of_decide_eq_true hck) (hn _ _ _ h real H locs hls hW)
set_option maxHeartbeats 1000000 in
theorem zs_iload_n {k : Fin 4} (hF : zFr p s m args c cc own nL Z A0 sr H0 R d cells slots) (hO : ∀ x, zMet l d x) {Q : zP} {K : zK} {nx : zX} {pc x y z : Nat} {v : Int} {lx : List Nat} (hck : zechk own cc ret cd (.iload_n k, pc, x, y, z, v, lx) = true)
    (hK : ∀ t ls st g, K t ls st g → ∀ e', cd[t]? = some e' → zGo p l e s m args below meth c Qw Z A0 H0 sr R cells slots nL e'.2.1 ls st g)
    (hn : ∀ ls st g, nx ls st g → zGo p l e s m args below meth c Qw Z A0 H0 sr R cells slots nL (pc + 1) ls st g)
    {ls st : List zV} {g : zM} (h : ystep (yC d) Q K (.iload_n k, pc, x, y, z, v, lx) nx ls st g) : zGo p l e s m args below meth c Qw Z A0 H0 sr R cells slots nL pc ls st g := by
  obtain ⟨hx, hb, hml, hown, hts, ⟨hKK, hN⟩, hin, hA, hRm, hSc, hScA⟩ := id hF
  have hD : ∀ g, va_D A0 (zws Z g) := fun g => zws_D hin hA
  have hck := hck
  simp only [zechk, zlen, Bool.and_eq_true, and_true] at hck
  intro real H locs hls hW
  obtain ⟨w, hw, hi⟩ := zget_spec _ _ h
  rcases w with q | q | q | q <;> first | exact False.elim hi | skip
  exact lv_iload_n hx hb (of_decide_eq_true hck) rfl (hls.at hw rfl (by simp)) (hn _ _ _ hi real H locs hls hW)
set_option maxHeartbeats 1000000 in
theorem zs_iload {k : Nat} (hF : zFr p s m args c cc own nL Z A0 sr H0 R d cells slots) (hO : ∀ x, zMet l d x) {Q : zP} {K : zK} {nx : zX} {pc x y z : Nat} {v : Int} {lx : List Nat} (hck : zechk own cc ret cd (.iload k, pc, x, y, z, v, lx) = true)
    (hK : ∀ t ls st g, K t ls st g → ∀ e', cd[t]? = some e' → zGo p l e s m args below meth c Qw Z A0 H0 sr R cells slots nL e'.2.1 ls st g)
    (hn : ∀ ls st g, nx ls st g → zGo p l e s m args below meth c Qw Z A0 H0 sr R cells slots nL (pc + 2) ls st g)
    {ls st : List zV} {g : zM} (h : ystep (yC d) Q K (.iload k, pc, x, y, z, v, lx) nx ls st g) : zGo p l e s m args below meth c Qw Z A0 H0 sr R cells slots nL pc ls st g := by
  obtain ⟨hx, hb, hml, hown, hts, ⟨hKK, hN⟩, hin, hA, hRm, hSc, hScA⟩ := id hF
  have hD : ∀ g, va_D A0 (zws Z g) := fun g => zws_D hin hA
  have hck := hck
  simp only [zechk, zlen, Bool.and_eq_true, and_true] at hck
  intro real H locs hls hW
  obtain ⟨w, hw, hi⟩ := zget_spec _ _ h
  rcases w with q | q | q | q <;> first | exact False.elim hi | skip
  exact lv_iload hx hb (of_decide_eq_true hck) (hls.at hw rfl (by simp)) (hn _ _ _ hi real H locs hls hW)
set_option maxHeartbeats 1000000 in
theorem zs_aload_n {k : Fin 4} (hF : zFr p s m args c cc own nL Z A0 sr H0 R d cells slots) (hO : ∀ x, zMet l d x) {Q : zP} {K : zK} {nx : zX} {pc x y z : Nat} {v : Int} {lx : List Nat} (hck : zechk own cc ret cd (.aload_n k, pc, x, y, z, v, lx) = true)
    (hK : ∀ t ls st g, K t ls st g → ∀ e', cd[t]? = some e' → zGo p l e s m args below meth c Qw Z A0 H0 sr R cells slots nL e'.2.1 ls st g)
    (hn : ∀ ls st g, nx ls st g → zGo p l e s m args below meth c Qw Z A0 H0 sr R cells slots nL (pc + 1) ls st g)
    {ls st : List zV} {g : zM} (h : ystep (yC d) Q K (.aload_n k, pc, x, y, z, v, lx) nx ls st g) : zGo p l e s m args below meth c Qw Z A0 H0 sr R cells slots nL pc ls st g := by
  obtain ⟨hx, hb, hml, hown, hts, ⟨hKK, hN⟩, hin, hA, hRm, hSc, hScA⟩ := id hF
  have hD : ∀ g, va_D A0 (zws Z g) := fun g => zws_D hin hA
  have hck := hck
  simp only [zechk, zlen, Bool.and_eq_true, and_true] at hck
  intro real H locs hls hW
  obtain ⟨w, hw, hi⟩ := zget_spec _ _ h
  rcases w with q | (_ | q) | q | q <;> first | exact False.elim hi | skip
  · exact lv_aload_nN hx hb (of_decide_eq_true hck) rfl (hls.at hw rfl (by simp)) (hn _ _ _ hi real H locs hls hW)
  · exact lv_aload_n hx hb (of_decide_eq_true hck) rfl (hls.at hw rfl (by simp)) (hn _ _ _ hi real H locs hls hW)
set_option maxHeartbeats 1000000 in
theorem zs_aload {k : Nat} (hF : zFr p s m args c cc own nL Z A0 sr H0 R d cells slots) (hO : ∀ x, zMet l d x) {Q : zP} {K : zK} {nx : zX} {pc x y z : Nat} {v : Int} {lx : List Nat} (hck : zechk own cc ret cd (.aload k, pc, x, y, z, v, lx) = true)
    (hK : ∀ t ls st g, K t ls st g → ∀ e', cd[t]? = some e' → zGo p l e s m args below meth c Qw Z A0 H0 sr R cells slots nL e'.2.1 ls st g)
    (hn : ∀ ls st g, nx ls st g → zGo p l e s m args below meth c Qw Z A0 H0 sr R cells slots nL (pc + 2) ls st g)
    {ls st : List zV} {g : zM} (h : ystep (yC d) Q K (.aload k, pc, x, y, z, v, lx) nx ls st g) : zGo p l e s m args below meth c Qw Z A0 H0 sr R cells slots nL pc ls st g := by
  obtain ⟨hx, hb, hml, hown, hts, ⟨hKK, hN⟩, hin, hA, hRm, hSc, hScA⟩ := id hF
  have hD : ∀ g, va_D A0 (zws Z g) := fun g => zws_D hin hA
  have hck := hck
  simp only [zechk, zlen, Bool.and_eq_true, and_true] at hck
  intro real H locs hls hW
  obtain ⟨w, hw, hi⟩ := zget_spec _ _ h
  rcases w with q | (_ | q) | q | q <;> first | exact False.elim hi | skip
  · exact lv_aloadN hx hb (of_decide_eq_true hck) (hls.at hw rfl (by simp)) (hn _ _ _ hi real H locs hls hW)
  · exact lv_aload hx hb (of_decide_eq_true hck) (hls.at hw rfl (by simp)) (hn _ _ _ hi real H locs hls hW)
set_option maxHeartbeats 1000000 in
theorem zs_istore_n {k : Fin 4} (hF : zFr p s m args c cc own nL Z A0 sr H0 R d cells slots) (hO : ∀ x, zMet l d x) {Q : zP} {K : zK} {nx : zX} {pc x y z : Nat} {v : Int} {lx : List Nat} (hck : zechk own cc ret cd (.istore_n k, pc, x, y, z, v, lx) = true)
    (hK : ∀ t ls st g, K t ls st g → ∀ e', cd[t]? = some e' → zGo p l e s m args below meth c Qw Z A0 H0 sr R cells slots nL e'.2.1 ls st g)
    (hn : ∀ ls st g, nx ls st g → zGo p l e s m args below meth c Qw Z A0 H0 sr R cells slots nL (pc + 1) ls st g)
    {ls st : List zV} {g : zM} (h : ystep (yC d) Q K (.istore_n k, pc, x, y, z, v, lx) nx ls st g) : zGo p l e s m args below meth c Qw Z A0 H0 sr R cells slots nL pc ls st g := by
  obtain ⟨hx, hb, hml, hown, hts, ⟨hKK, hN⟩, hin, hA, hRm, hSc, hScA⟩ := id hF
  have hD : ∀ g, va_D A0 (zws Z g) := fun g => zws_D hin hA
  have hck := hck
  simp only [zechk, zlen, Bool.and_eq_true, and_true] at hck
  intro real H locs hls hW
  rcases st with _ | ⟨a | a | a | a, r⟩ <;> first | exact False.elim h | skip
  obtain ⟨hlt, hk⟩ := zset_spec _ _ _ h
  exact lv_istore_n hx hb (of_decide_eq_true hck) rfl hls.has (by rw [← hls.1.2]; exact hlt) rfl (fun ls' hl' => hn _ _ _ hk ls' H locs (zLs.set (w := zI a) hls.1.2 hl') hW)
set_option maxHeartbeats 1000000 in
theorem zs_istore {k : Nat} (hF : zFr p s m args c cc own nL Z A0 sr H0 R d cells slots) (hO : ∀ x, zMet l d x) {Q : zP} {K : zK} {nx : zX} {pc x y z : Nat} {v : Int} {lx : List Nat} (hck : zechk own cc ret cd (.istore k, pc, x, y, z, v, lx) = true)
    (hK : ∀ t ls st g, K t ls st g → ∀ e', cd[t]? = some e' → zGo p l e s m args below meth c Qw Z A0 H0 sr R cells slots nL e'.2.1 ls st g)
    (hn : ∀ ls st g, nx ls st g → zGo p l e s m args below meth c Qw Z A0 H0 sr R cells slots nL (pc + 2) ls st g)
    {ls st : List zV} {g : zM} (h : ystep (yC d) Q K (.istore k, pc, x, y, z, v, lx) nx ls st g) : zGo p l e s m args below meth c Qw Z A0 H0 sr R cells slots nL pc ls st g := by
  obtain ⟨hx, hb, hml, hown, hts, ⟨hKK, hN⟩, hin, hA, hRm, hSc, hScA⟩ := id hF
  have hD : ∀ g, va_D A0 (zws Z g) := fun g => zws_D hin hA
  have hck := hck
  simp only [zechk, zlen, Bool.and_eq_true, and_true] at hck
  intro real H locs hls hW
  rcases st with _ | ⟨a | a | a | a, r⟩ <;> first | exact False.elim h | skip
  obtain ⟨hlt, hk⟩ := zset_spec _ _ _ h
  exact lv_istore hx hb (of_decide_eq_true hck) hls.has (by rw [← hls.1.2]; exact hlt) rfl (fun ls' hl' => hn _ _ _ hk ls' H locs (zLs.set (w := zI a) hls.1.2 hl') hW)
set_option maxHeartbeats 1000000 in
theorem zs_astore_n {k : Fin 4} (hF : zFr p s m args c cc own nL Z A0 sr H0 R d cells slots) (hO : ∀ x, zMet l d x) {Q : zP} {K : zK} {nx : zX} {pc x y z : Nat} {v : Int} {lx : List Nat} (hck : zechk own cc ret cd (.astore_n k, pc, x, y, z, v, lx) = true)
    (hK : ∀ t ls st g, K t ls st g → ∀ e', cd[t]? = some e' → zGo p l e s m args below meth c Qw Z A0 H0 sr R cells slots nL e'.2.1 ls st g)
    (hn : ∀ ls st g, nx ls st g → zGo p l e s m args below meth c Qw Z A0 H0 sr R cells slots nL (pc + 1) ls st g)
    {ls st : List zV} {g : zM} (h : ystep (yC d) Q K (.astore_n k, pc, x, y, z, v, lx) nx ls st g) : zGo p l e s m args below meth c Qw Z A0 H0 sr R cells slots nL pc ls st g := by
  obtain ⟨hx, hb, hml, hown, hts, ⟨hKK, hN⟩, hin, hA, hRm, hSc, hScA⟩ := id hF
  have hD : ∀ g, va_D A0 (zws Z g) := fun g => zws_D hin hA
  have hck := hck
  simp only [zechk, zlen, Bool.and_eq_true, and_true] at hck
  intro real H locs hls hW
  rcases st with _ | ⟨a | (_ | a) | a | a, r⟩ <;> first | exact False.elim h | skip
  · obtain ⟨hlt, hk⟩ := zset_spec _ _ _ h
    exact lv_astore_nN hx hb (of_decide_eq_true hck) rfl hls.has (by rw [← hls.1.2]; exact hlt) rfl (fun ls' hl' => hn _ _ _ hk ls' H locs (zLs.set (w := zNl) hls.1.2 hl') hW)
  · obtain ⟨hlt, hk⟩ := zset_spec _ _ _ h
    exact lv_astore_n hx hb (of_decide_eq_true hck) rfl hls.has (by rw [← hls.1.2]; exact hlt) rfl (fun ls' hl' => hn _ _ _ hk ls' H locs (zLs.set (w := zR a) hls.1.2 hl') hW)
set_option maxHeartbeats 1000000 in
theorem zs_astore {k : Nat} (hF : zFr p s m args c cc own nL Z A0 sr H0 R d cells slots) (hO : ∀ x, zMet l d x) {Q : zP} {K : zK} {nx : zX} {pc x y z : Nat} {v : Int} {lx : List Nat} (hck : zechk own cc ret cd (.astore k, pc, x, y, z, v, lx) = true)
    (hK : ∀ t ls st g, K t ls st g → ∀ e', cd[t]? = some e' → zGo p l e s m args below meth c Qw Z A0 H0 sr R cells slots nL e'.2.1 ls st g)
    (hn : ∀ ls st g, nx ls st g → zGo p l e s m args below meth c Qw Z A0 H0 sr R cells slots nL (pc + 2) ls st g)
    {ls st : List zV} {g : zM} (h : ystep (yC d) Q K (.astore k, pc, x, y, z, v, lx) nx ls st g) : zGo p l e s m args below meth c Qw Z A0 H0 sr R cells slots nL pc ls st g := by
  obtain ⟨hx, hb, hml, hown, hts, ⟨hKK, hN⟩, hin, hA, hRm, hSc, hScA⟩ := id hF
  have hD : ∀ g, va_D A0 (zws Z g) := fun g => zws_D hin hA
  have hck := hck
  simp only [zechk, zlen, Bool.and_eq_true, and_true] at hck
  intro real H locs hls hW
  rcases st with _ | ⟨a | (_ | a) | a | a, r⟩ <;> first | exact False.elim h | skip
  · obtain ⟨hlt, hk⟩ := zset_spec _ _ _ h
    exact lv_astoreN hx hb (of_decide_eq_true hck) hls.has (by rw [← hls.1.2]; exact hlt) rfl (fun ls' hl' => hn _ _ _ hk ls' H locs (zLs.set (w := zNl) hls.1.2 hl') hW)
  · obtain ⟨hlt, hk⟩ := zset_spec _ _ _ h
    exact lv_astore hx hb (of_decide_eq_true hck) hls.has (by rw [← hls.1.2]; exact hlt) rfl (fun ls' hl' => hn _ _ _ hk ls' H locs (zLs.set (w := zR a) hls.1.2 hl') hW)
set_option maxHeartbeats 1000000 in
theorem zs_iinc {k : Nat} {n : Int} (hF : zFr p s m args c cc own nL Z A0 sr H0 R d cells slots) (hO : ∀ x, zMet l d x) {Q : zP} {K : zK} {nx : zX} {pc x y z : Nat} {v : Int} {lx : List Nat} (hck : zechk own cc ret cd (.iinc k n, pc, x, y, z, v, lx) = true)
    (hK : ∀ t ls st g, K t ls st g → ∀ e', cd[t]? = some e' → zGo p l e s m args below meth c Qw Z A0 H0 sr R cells slots nL e'.2.1 ls st g)
    (hn : ∀ ls st g, nx ls st g → zGo p l e s m args below meth c Qw Z A0 H0 sr R cells slots nL (pc + 3) ls st g)
    {ls st : List zV} {g : zM} (h : ystep (yC d) Q K (.iinc k n, pc, x, y, z, v, lx) nx ls st g) : zGo p l e s m args below meth c Qw Z A0 H0 sr R cells slots nL pc ls st g := by
  obtain ⟨hx, hb, hml, hown, hts, ⟨hKK, hN⟩, hin, hA, hRm, hSc, hScA⟩ := id hF
  have hD : ∀ g, va_D A0 (zws Z g) := fun g => zws_D hin hA
  have hck := hck
  simp only [zechk, zlen, Bool.and_eq_true, and_true] at hck
  intro real H locs hls hW
  obtain ⟨w, hw, hi⟩ := zget_spec _ _ h
  rcases w with q | q | q | q <;> first | exact False.elim hi | skip
  obtain ⟨hlt, hk⟩ := zset_spec _ _ _ hi
  obtain ⟨j, hj⟩ := List.getElem?_of_mem (zll_mem (ad := Z.2.2) (q := (k, Value.int (zJ q))).mpr ⟨zI q, hw, rfl, by simp, rfl⟩)
  exact lv_iinc (v := zJ (q + n)) hx hb (of_decide_eq_true hck) hls.has hj (zJ_add q n) (by rw [← hls.1.2]; exact hlt) rfl (fun ls' hl' => hn _ _ _ hk ls' H locs (zLs.set (w := zI (q + n)) hls.1.2 hl') hW)
set_option maxHeartbeats 1000000 in
theorem zs_iadd (hF : zFr p s m args c cc own nL Z A0 sr H0 R d cells slots) (hO : ∀ x, zMet l d x) {Q : zP} {K : zK} {nx : zX} {pc x y z : Nat} {v : Int} {lx : List Nat} (hck : zechk own cc ret cd (.iadd, pc, x, y, z, v, lx) = true)
    (hK : ∀ t ls st g, K t ls st g → ∀ e', cd[t]? = some e' → zGo p l e s m args below meth c Qw Z A0 H0 sr R cells slots nL e'.2.1 ls st g)
    (hn : ∀ ls st g, nx ls st g → zGo p l e s m args below meth c Qw Z A0 H0 sr R cells slots nL (pc + 1) ls st g)
    {ls st : List zV} {g : zM} (h : ystep (yC d) Q K (.iadd, pc, x, y, z, v, lx) nx ls st g) : zGo p l e s m args below meth c Qw Z A0 H0 sr R cells slots nL pc ls st g := by
  obtain ⟨hx, hb, hml, hown, hts, ⟨hKK, hN⟩, hin, hA, hRm, hSc, hScA⟩ := id hF
  have hD : ∀ g, va_D A0 (zws Z g) := fun g => zws_D hin hA
  have hck := hck
  simp only [zechk, zlen, Bool.and_eq_true, and_true] at hck
  intro real H locs hls hW
  rcases st with _ | ⟨b | b | b | b, _ | ⟨a | a | a | a, r⟩⟩ <;> first | exact False.elim h | skip
  exact lv_iadd hx hb (of_decide_eq_true hck) (by rw [zJ_add]; exact hn _ _ _ h real H locs hls hW)
set_option maxHeartbeats 1000000 in
theorem zs_isub (hF : zFr p s m args c cc own nL Z A0 sr H0 R d cells slots) (hO : ∀ x, zMet l d x) {Q : zP} {K : zK} {nx : zX} {pc x y z : Nat} {v : Int} {lx : List Nat} (hck : zechk own cc ret cd (.isub, pc, x, y, z, v, lx) = true)
    (hK : ∀ t ls st g, K t ls st g → ∀ e', cd[t]? = some e' → zGo p l e s m args below meth c Qw Z A0 H0 sr R cells slots nL e'.2.1 ls st g)
    (hn : ∀ ls st g, nx ls st g → zGo p l e s m args below meth c Qw Z A0 H0 sr R cells slots nL (pc + 1) ls st g)
    {ls st : List zV} {g : zM} (h : ystep (yC d) Q K (.isub, pc, x, y, z, v, lx) nx ls st g) : zGo p l e s m args below meth c Qw Z A0 H0 sr R cells slots nL pc ls st g := by
  obtain ⟨hx, hb, hml, hown, hts, ⟨hKK, hN⟩, hin, hA, hRm, hSc, hScA⟩ := id hF
  have hD : ∀ g, va_D A0 (zws Z g) := fun g => zws_D hin hA
  have hck := hck
  simp only [zechk, zlen, Bool.and_eq_true, and_true] at hck
  intro real H locs hls hW
  rcases st with _ | ⟨b | b | b | b, _ | ⟨a | a | a | a, r⟩⟩ <;> first | exact False.elim h | skip
  exact lv_isub hx hb (of_decide_eq_true hck) (by rw [zJ_sub]; exact hn _ _ _ h real H locs hls hW)
set_option maxHeartbeats 1000000 in
theorem zs_imul (hF : zFr p s m args c cc own nL Z A0 sr H0 R d cells slots) (hO : ∀ x, zMet l d x) {Q : zP} {K : zK} {nx : zX} {pc x y z : Nat} {v : Int} {lx : List Nat} (hck : zechk own cc ret cd (.imul, pc, x, y, z, v, lx) = true)
    (hK : ∀ t ls st g, K t ls st g → ∀ e', cd[t]? = some e' → zGo p l e s m args below meth c Qw Z A0 H0 sr R cells slots nL e'.2.1 ls st g)
    (hn : ∀ ls st g, nx ls st g → zGo p l e s m args below meth c Qw Z A0 H0 sr R cells slots nL (pc + 1) ls st g)
    {ls st : List zV} {g : zM} (h : ystep (yC d) Q K (.imul, pc, x, y, z, v, lx) nx ls st g) : zGo p l e s m args below meth c Qw Z A0 H0 sr R cells slots nL pc ls st g := by
  obtain ⟨hx, hb, hml, hown, hts, ⟨hKK, hN⟩, hin, hA, hRm, hSc, hScA⟩ := id hF
  have hD : ∀ g, va_D A0 (zws Z g) := fun g => zws_D hin hA
  have hck := hck
  simp only [zechk, zlen, Bool.and_eq_true, and_true] at hck
  intro real H locs hls hW
  rcases st with _ | ⟨b | b | b | b, _ | ⟨a | a | a | a, r⟩⟩ <;> first | exact False.elim h | skip
  exact lv_imul hx hb (of_decide_eq_true hck) (by rw [zJ_mul]; exact hn _ _ _ h real H locs hls hW)
set_option maxHeartbeats 1000000 in
theorem zs_iand (hF : zFr p s m args c cc own nL Z A0 sr H0 R d cells slots) (hO : ∀ x, zMet l d x) {Q : zP} {K : zK} {nx : zX} {pc x y z : Nat} {v : Int} {lx : List Nat} (hck : zechk own cc ret cd (.iand, pc, x, y, z, v, lx) = true)
    (hK : ∀ t ls st g, K t ls st g → ∀ e', cd[t]? = some e' → zGo p l e s m args below meth c Qw Z A0 H0 sr R cells slots nL e'.2.1 ls st g)
    (hn : ∀ ls st g, nx ls st g → zGo p l e s m args below meth c Qw Z A0 H0 sr R cells slots nL (pc + 1) ls st g)
    {ls st : List zV} {g : zM} (h : ystep (yC d) Q K (.iand, pc, x, y, z, v, lx) nx ls st g) : zGo p l e s m args below meth c Qw Z A0 H0 sr R cells slots nL pc ls st g := by
  obtain ⟨hx, hb, hml, hown, hts, ⟨hKK, hN⟩, hin, hA, hRm, hSc, hScA⟩ := id hF
  have hD : ∀ g, va_D A0 (zws Z g) := fun g => zws_D hin hA
  have hck := hck
  simp only [zechk, zlen, Bool.and_eq_true, and_true] at hck
  intro real H locs hls hW
  rcases st with _ | ⟨b | b | b | b, _ | ⟨a | a | a | a, r⟩⟩ <;> first | exact False.elim h | skip
  exact lv_iand hx hb (of_decide_eq_true hck) (by rw [zJ_iand]; exact hn _ _ _ h real H locs hls hW)
set_option maxHeartbeats 1000000 in
theorem zs_ior (hF : zFr p s m args c cc own nL Z A0 sr H0 R d cells slots) (hO : ∀ x, zMet l d x) {Q : zP} {K : zK} {nx : zX} {pc x y z : Nat} {v : Int} {lx : List Nat} (hck : zechk own cc ret cd (.ior, pc, x, y, z, v, lx) = true)
    (hK : ∀ t ls st g, K t ls st g → ∀ e', cd[t]? = some e' → zGo p l e s m args below meth c Qw Z A0 H0 sr R cells slots nL e'.2.1 ls st g)
    (hn : ∀ ls st g, nx ls st g → zGo p l e s m args below meth c Qw Z A0 H0 sr R cells slots nL (pc + 1) ls st g)
    {ls st : List zV} {g : zM} (h : ystep (yC d) Q K (.ior, pc, x, y, z, v, lx) nx ls st g) : zGo p l e s m args below meth c Qw Z A0 H0 sr R cells slots nL pc ls st g := by
  obtain ⟨hx, hb, hml, hown, hts, ⟨hKK, hN⟩, hin, hA, hRm, hSc, hScA⟩ := id hF
  have hD : ∀ g, va_D A0 (zws Z g) := fun g => zws_D hin hA
  have hck := hck
  simp only [zechk, zlen, Bool.and_eq_true, and_true] at hck
  intro real H locs hls hW
  rcases st with _ | ⟨b | b | b | b, _ | ⟨a | a | a | a, r⟩⟩ <;> first | exact False.elim h | skip
  exact lv_ior hx hb (of_decide_eq_true hck) (by rw [zJ_ior]; exact hn _ _ _ h real H locs hls hW)
set_option maxHeartbeats 1000000 in
theorem zs_ixor (hF : zFr p s m args c cc own nL Z A0 sr H0 R d cells slots) (hO : ∀ x, zMet l d x) {Q : zP} {K : zK} {nx : zX} {pc x y z : Nat} {v : Int} {lx : List Nat} (hck : zechk own cc ret cd (.ixor, pc, x, y, z, v, lx) = true)
    (hK : ∀ t ls st g, K t ls st g → ∀ e', cd[t]? = some e' → zGo p l e s m args below meth c Qw Z A0 H0 sr R cells slots nL e'.2.1 ls st g)
    (hn : ∀ ls st g, nx ls st g → zGo p l e s m args below meth c Qw Z A0 H0 sr R cells slots nL (pc + 1) ls st g)
    {ls st : List zV} {g : zM} (h : ystep (yC d) Q K (.ixor, pc, x, y, z, v, lx) nx ls st g) : zGo p l e s m args below meth c Qw Z A0 H0 sr R cells slots nL pc ls st g := by
  obtain ⟨hx, hb, hml, hown, hts, ⟨hKK, hN⟩, hin, hA, hRm, hSc, hScA⟩ := id hF
  have hD : ∀ g, va_D A0 (zws Z g) := fun g => zws_D hin hA
  have hck := hck
  simp only [zechk, zlen, Bool.and_eq_true, and_true] at hck
  intro real H locs hls hW
  rcases st with _ | ⟨b | b | b | b, _ | ⟨a | a | a | a, r⟩⟩ <;> first | exact False.elim h | skip
  exact lv_ixor hx hb (of_decide_eq_true hck) (by rw [zJ_ixor]; exact hn _ _ _ h real H locs hls hW)
set_option maxHeartbeats 1000000 in
theorem zs_ishl (hF : zFr p s m args c cc own nL Z A0 sr H0 R d cells slots) (hO : ∀ x, zMet l d x) {Q : zP} {K : zK} {nx : zX} {pc x y z : Nat} {v : Int} {lx : List Nat} (hck : zechk own cc ret cd (.ishl, pc, x, y, z, v, lx) = true)
    (hK : ∀ t ls st g, K t ls st g → ∀ e', cd[t]? = some e' → zGo p l e s m args below meth c Qw Z A0 H0 sr R cells slots nL e'.2.1 ls st g)
    (hn : ∀ ls st g, nx ls st g → zGo p l e s m args below meth c Qw Z A0 H0 sr R cells slots nL (pc + 1) ls st g)
    {ls st : List zV} {g : zM} (h : ystep (yC d) Q K (.ishl, pc, x, y, z, v, lx) nx ls st g) : zGo p l e s m args below meth c Qw Z A0 H0 sr R cells slots nL pc ls st g := by
  obtain ⟨hx, hb, hml, hown, hts, ⟨hKK, hN⟩, hin, hA, hRm, hSc, hScA⟩ := id hF
  have hD : ∀ g, va_D A0 (zws Z g) := fun g => zws_D hin hA
  have hck := hck
  simp only [zechk, zlen, Bool.and_eq_true, and_true] at hck
  intro real H locs hls hW
  rcases st with _ | ⟨b | b | b | b, _ | ⟨a | a | a | a, r⟩⟩ <;> first | exact False.elim h | skip
  exact lv_ishl hx hb (of_decide_eq_true hck) (by rw [zJ_ishl]; exact hn _ _ _ h real H locs hls hW)
set_option maxHeartbeats 1000000 in
theorem zs_ishr (hF : zFr p s m args c cc own nL Z A0 sr H0 R d cells slots) (hO : ∀ x, zMet l d x) {Q : zP} {K : zK} {nx : zX} {pc x y z : Nat} {v : Int} {lx : List Nat} (hck : zechk own cc ret cd (.ishr, pc, x, y, z, v, lx) = true)
    (hK : ∀ t ls st g, K t ls st g → ∀ e', cd[t]? = some e' → zGo p l e s m args below meth c Qw Z A0 H0 sr R cells slots nL e'.2.1 ls st g)
    (hn : ∀ ls st g, nx ls st g → zGo p l e s m args below meth c Qw Z A0 H0 sr R cells slots nL (pc + 1) ls st g)
    {ls st : List zV} {g : zM} (h : ystep (yC d) Q K (.ishr, pc, x, y, z, v, lx) nx ls st g) : zGo p l e s m args below meth c Qw Z A0 H0 sr R cells slots nL pc ls st g := by
  obtain ⟨hx, hb, hml, hown, hts, ⟨hKK, hN⟩, hin, hA, hRm, hSc, hScA⟩ := id hF
  have hD : ∀ g, va_D A0 (zws Z g) := fun g => zws_D hin hA
  have hck := hck
  simp only [zechk, zlen, Bool.and_eq_true, and_true] at hck
  intro real H locs hls hW
  rcases st with _ | ⟨b | b | b | b, _ | ⟨a | a | a | a, r⟩⟩ <;> first | exact False.elim h | skip
  exact lv_ishr hx hb (of_decide_eq_true hck) (by rw [zJ_ishr]; exact hn _ _ _ h real H locs hls hW)
set_option maxHeartbeats 1000000 in
theorem zs_iushr (hF : zFr p s m args c cc own nL Z A0 sr H0 R d cells slots) (hO : ∀ x, zMet l d x) {Q : zP} {K : zK} {nx : zX} {pc x y z : Nat} {v : Int} {lx : List Nat} (hck : zechk own cc ret cd (.iushr, pc, x, y, z, v, lx) = true)
    (hK : ∀ t ls st g, K t ls st g → ∀ e', cd[t]? = some e' → zGo p l e s m args below meth c Qw Z A0 H0 sr R cells slots nL e'.2.1 ls st g)
    (hn : ∀ ls st g, nx ls st g → zGo p l e s m args below meth c Qw Z A0 H0 sr R cells slots nL (pc + 1) ls st g)
    {ls st : List zV} {g : zM} (h : ystep (yC d) Q K (.iushr, pc, x, y, z, v, lx) nx ls st g) : zGo p l e s m args below meth c Qw Z A0 H0 sr R cells slots nL pc ls st g := by
  obtain ⟨hx, hb, hml, hown, hts, ⟨hKK, hN⟩, hin, hA, hRm, hSc, hScA⟩ := id hF
  have hD : ∀ g, va_D A0 (zws Z g) := fun g => zws_D hin hA
  have hck := hck
  simp only [zechk, zlen, Bool.and_eq_true, and_true] at hck
  intro real H locs hls hW
  rcases st with _ | ⟨b | b | b | b, _ | ⟨a | a | a | a, r⟩⟩ <;> first | exact False.elim h | skip
  exact lv_iushr hx hb (of_decide_eq_true hck) (zJ_of _).symm (hn _ _ _ h real H locs hls hW)
set_option maxHeartbeats 1000000 in
theorem zs_idiv (hF : zFr p s m args c cc own nL Z A0 sr H0 R d cells slots) (hO : ∀ x, zMet l d x) {Q : zP} {K : zK} {nx : zX} {pc x y z : Nat} {v : Int} {lx : List Nat} (hck : zechk own cc ret cd (.idiv, pc, x, y, z, v, lx) = true)
    (hK : ∀ t ls st g, K t ls st g → ∀ e', cd[t]? = some e' → zGo p l e s m args below meth c Qw Z A0 H0 sr R cells slots nL e'.2.1 ls st g)
    (hn : ∀ ls st g, nx ls st g → zGo p l e s m args below meth c Qw Z A0 H0 sr R cells slots nL (pc + 1) ls st g)
    {ls st : List zV} {g : zM} (h : ystep (yC d) Q K (.idiv, pc, x, y, z, v, lx) nx ls st g) : zGo p l e s m args below meth c Qw Z A0 H0 sr R cells slots nL pc ls st g := by
  obtain ⟨hx, hb, hml, hown, hts, ⟨hKK, hN⟩, hin, hA, hRm, hSc, hScA⟩ := id hF
  have hD : ∀ g, va_D A0 (zws Z g) := fun g => zws_D hin hA
  have hck := hck
  simp only [zechk, zlen, Bool.and_eq_true, and_true] at hck
  intro real H locs hls hW
  rcases st with _ | ⟨b | b | b | b, _ | ⟨a | a | a | a, r⟩⟩ <;> first | exact False.elim h | skip
  have hne : ¬ zJ b = 0 := fun q => h.1.2 ((zJ_eq h.1.1 zin0).mp (q.trans zJ_0.symm))
  exact lv_idiv hx hb (of_decide_eq_true hck) hne (by rw [zJ_idiv]; exact hn _ _ _ h.2 real H locs hls hW)
set_option maxHeartbeats 1000000 in
theorem zs_irem (hF : zFr p s m args c cc own nL Z A0 sr H0 R d cells slots) (hO : ∀ x, zMet l d x) {Q : zP} {K : zK} {nx : zX} {pc x y z : Nat} {v : Int} {lx : List Nat} (hck : zechk own cc ret cd (.irem, pc, x, y, z, v, lx) = true)
    (hK : ∀ t ls st g, K t ls st g → ∀ e', cd[t]? = some e' → zGo p l e s m args below meth c Qw Z A0 H0 sr R cells slots nL e'.2.1 ls st g)
    (hn : ∀ ls st g, nx ls st g → zGo p l e s m args below meth c Qw Z A0 H0 sr R cells slots nL (pc + 1) ls st g)
    {ls st : List zV} {g : zM} (h : ystep (yC d) Q K (.irem, pc, x, y, z, v, lx) nx ls st g) : zGo p l e s m args below meth c Qw Z A0 H0 sr R cells slots nL pc ls st g := by
  obtain ⟨hx, hb, hml, hown, hts, ⟨hKK, hN⟩, hin, hA, hRm, hSc, hScA⟩ := id hF
  have hD : ∀ g, va_D A0 (zws Z g) := fun g => zws_D hin hA
  have hck := hck
  simp only [zechk, zlen, Bool.and_eq_true, and_true] at hck
  intro real H locs hls hW
  rcases st with _ | ⟨b | b | b | b, _ | ⟨a | a | a | a, r⟩⟩ <;> first | exact False.elim h | skip
  have hne : ¬ zJ b = 0 := fun q => h.1.2 ((zJ_eq h.1.1 zin0).mp (q.trans zJ_0.symm))
  exact lv_irem hx hb (of_decide_eq_true hck) hne (by rw [zJ_irem]; exact hn _ _ _ h.2 real H locs hls hW)
set_option maxHeartbeats 1000000 in
theorem zs_i2c (hF : zFr p s m args c cc own nL Z A0 sr H0 R d cells slots) (hO : ∀ x, zMet l d x) {Q : zP} {K : zK} {nx : zX} {pc x y z : Nat} {v : Int} {lx : List Nat} (hck : zechk own cc ret cd (.i2c, pc, x, y, z, v, lx) = true)
    (hK : ∀ t ls st g, K t ls st g → ∀ e', cd[t]? = some e' → zGo p l e s m args below meth c Qw Z A0 H0 sr R cells slots nL e'.2.1 ls st g)
    (hn : ∀ ls st g, nx ls st g → zGo p l e s m args below meth c Qw Z A0 H0 sr R cells slots nL (pc + 1) ls st g)
    {ls st : List zV} {g : zM} (h : ystep (yC d) Q K (.i2c, pc, x, y, z, v, lx) nx ls st g) : zGo p l e s m args below meth c Qw Z A0 H0 sr R cells slots nL pc ls st g := by
  obtain ⟨hx, hb, hml, hown, hts, ⟨hKK, hN⟩, hin, hA, hRm, hSc, hScA⟩ := id hF
  have hD : ∀ g, va_D A0 (zws Z g) := fun g => zws_D hin hA
  have hck := hck
  simp only [zechk, zlen, Bool.and_eq_true, and_true] at hck
  intro real H locs hls hW
  rcases st with _ | ⟨a | a | a | a, r⟩ <;> first | exact False.elim h | skip
  exact lv_i2c hx hb (of_decide_eq_true hck) (zi2c a) (hn _ _ _ h real H locs hls hW)
set_option maxHeartbeats 1000000 in
theorem zs_i2l (hF : zFr p s m args c cc own nL Z A0 sr H0 R d cells slots) (hO : ∀ x, zMet l d x) {Q : zP} {K : zK} {nx : zX} {pc x y z : Nat} {v : Int} {lx : List Nat} (hck : zechk own cc ret cd (.i2l, pc, x, y, z, v, lx) = true)
    (hK : ∀ t ls st g, K t ls st g → ∀ e', cd[t]? = some e' → zGo p l e s m args below meth c Qw Z A0 H0 sr R cells slots nL e'.2.1 ls st g)
    (hn : ∀ ls st g, nx ls st g → zGo p l e s m args below meth c Qw Z A0 H0 sr R cells slots nL (pc + 1) ls st g)
    {ls st : List zV} {g : zM} (h : ystep (yC d) Q K (.i2l, pc, x, y, z, v, lx) nx ls st g) : zGo p l e s m args below meth c Qw Z A0 H0 sr R cells slots nL pc ls st g := by
  obtain ⟨hx, hb, hml, hown, hts, ⟨hKK, hN⟩, hin, hA, hRm, hSc, hScA⟩ := id hF
  have hD : ∀ g, va_D A0 (zws Z g) := fun g => zws_D hin hA
  have hck := hck
  simp only [zechk, zlen, Bool.and_eq_true, and_true] at hck
  intro real H locs hls hW
  rcases st with _ | ⟨a | a | a | a, r⟩ <;> first | exact False.elim h | skip
  exact lv_i2l hx hb (of_decide_eq_true hck) (zJL_of _).symm (hn _ _ _ h real H locs hls hW)
set_option maxHeartbeats 1000000 in
theorem zs_l2i (hF : zFr p s m args c cc own nL Z A0 sr H0 R d cells slots) (hO : ∀ x, zMet l d x) {Q : zP} {K : zK} {nx : zX} {pc x y z : Nat} {v : Int} {lx : List Nat} (hck : zechk own cc ret cd (.l2i, pc, x, y, z, v, lx) = true)
    (hK : ∀ t ls st g, K t ls st g → ∀ e', cd[t]? = some e' → zGo p l e s m args below meth c Qw Z A0 H0 sr R cells slots nL e'.2.1 ls st g)
    (hn : ∀ ls st g, nx ls st g → zGo p l e s m args below meth c Qw Z A0 H0 sr R cells slots nL (pc + 1) ls st g)
    {ls st : List zV} {g : zM} (h : ystep (yC d) Q K (.l2i, pc, x, y, z, v, lx) nx ls st g) : zGo p l e s m args below meth c Qw Z A0 H0 sr R cells slots nL pc ls st g := by
  obtain ⟨hx, hb, hml, hown, hts, ⟨hKK, hN⟩, hin, hA, hRm, hSc, hScA⟩ := id hF
  have hD : ∀ g, va_D A0 (zws Z g) := fun g => zws_D hin hA
  have hck := hck
  simp only [zechk, zlen, Bool.and_eq_true, and_true] at hck
  intro real H locs hls hW
  rcases st with _ | ⟨a | a | a | a, r⟩ <;> first | exact False.elim h | skip
  exact lv_l2i hx hb (of_decide_eq_true hck) (zJ_of _).symm (hn _ _ _ h real H locs hls hW)
set_option maxHeartbeats 1000000 in
theorem zs_lor (hF : zFr p s m args c cc own nL Z A0 sr H0 R d cells slots) (hO : ∀ x, zMet l d x) {Q : zP} {K : zK} {nx : zX} {pc x y z : Nat} {v : Int} {lx : List Nat} (hck : zechk own cc ret cd (.lor, pc, x, y, z, v, lx) = true)
    (hK : ∀ t ls st g, K t ls st g → ∀ e', cd[t]? = some e' → zGo p l e s m args below meth c Qw Z A0 H0 sr R cells slots nL e'.2.1 ls st g)
    (hn : ∀ ls st g, nx ls st g → zGo p l e s m args below meth c Qw Z A0 H0 sr R cells slots nL (pc + 1) ls st g)
    {ls st : List zV} {g : zM} (h : ystep (yC d) Q K (.lor, pc, x, y, z, v, lx) nx ls st g) : zGo p l e s m args below meth c Qw Z A0 H0 sr R cells slots nL pc ls st g := by
  obtain ⟨hx, hb, hml, hown, hts, ⟨hKK, hN⟩, hin, hA, hRm, hSc, hScA⟩ := id hF
  have hD : ∀ g, va_D A0 (zws Z g) := fun g => zws_D hin hA
  have hck := hck
  simp only [zechk, zlen, Bool.and_eq_true, and_true] at hck
  intro real H locs hls hW
  rcases st with _ | ⟨b | b | b | b, _ | ⟨a | a | a | a, r⟩⟩ <;> first | exact False.elim h | skip
  exact lv_lor hx hb (of_decide_eq_true hck) (by rw [zJ_lor]; exact hn _ _ _ h real H locs hls hW)
set_option maxHeartbeats 1000000 in
theorem zs_land (hF : zFr p s m args c cc own nL Z A0 sr H0 R d cells slots) (hO : ∀ x, zMet l d x) {Q : zP} {K : zK} {nx : zX} {pc x y z : Nat} {v : Int} {lx : List Nat} (hck : zechk own cc ret cd (.land, pc, x, y, z, v, lx) = true)
    (hK : ∀ t ls st g, K t ls st g → ∀ e', cd[t]? = some e' → zGo p l e s m args below meth c Qw Z A0 H0 sr R cells slots nL e'.2.1 ls st g)
    (hn : ∀ ls st g, nx ls st g → zGo p l e s m args below meth c Qw Z A0 H0 sr R cells slots nL (pc + 1) ls st g)
    {ls st : List zV} {g : zM} (h : ystep (yC d) Q K (.land, pc, x, y, z, v, lx) nx ls st g) : zGo p l e s m args below meth c Qw Z A0 H0 sr R cells slots nL pc ls st g := by
  obtain ⟨hx, hb, hml, hown, hts, ⟨hKK, hN⟩, hin, hA, hRm, hSc, hScA⟩ := id hF
  have hD : ∀ g, va_D A0 (zws Z g) := fun g => zws_D hin hA
  have hck := hck
  simp only [zechk, zlen, Bool.and_eq_true, and_true] at hck
  intro real H locs hls hW
  rcases st with _ | ⟨b | b | b | b, _ | ⟨a | a | a | a, r⟩⟩ <;> first | exact False.elim h | skip
  exact lv_land hx hb (of_decide_eq_true hck) (by rw [zJ_land]; exact hn _ _ _ h real H locs hls hW)
set_option maxHeartbeats 1000000 in
theorem zs_lshl (hF : zFr p s m args c cc own nL Z A0 sr H0 R d cells slots) (hO : ∀ x, zMet l d x) {Q : zP} {K : zK} {nx : zX} {pc x y z : Nat} {v : Int} {lx : List Nat} (hck : zechk own cc ret cd (.lshl, pc, x, y, z, v, lx) = true)
    (hK : ∀ t ls st g, K t ls st g → ∀ e', cd[t]? = some e' → zGo p l e s m args below meth c Qw Z A0 H0 sr R cells slots nL e'.2.1 ls st g)
    (hn : ∀ ls st g, nx ls st g → zGo p l e s m args below meth c Qw Z A0 H0 sr R cells slots nL (pc + 1) ls st g)
    {ls st : List zV} {g : zM} (h : ystep (yC d) Q K (.lshl, pc, x, y, z, v, lx) nx ls st g) : zGo p l e s m args below meth c Qw Z A0 H0 sr R cells slots nL pc ls st g := by
  obtain ⟨hx, hb, hml, hown, hts, ⟨hKK, hN⟩, hin, hA, hRm, hSc, hScA⟩ := id hF
  have hD : ∀ g, va_D A0 (zws Z g) := fun g => zws_D hin hA
  have hck := hck
  simp only [zechk, zlen, Bool.and_eq_true, and_true] at hck
  intro real H locs hls hW
  rcases st with _ | ⟨b | b | b | b, _ | ⟨a | a | a | a, r⟩⟩ <;> first | exact False.elim h | skip
  exact lv_lshl hx hb (of_decide_eq_true hck) (zJL_of _).symm (hn _ _ _ h real H locs hls hW)
set_option maxHeartbeats 1000000 in
theorem zs_lushr (hF : zFr p s m args c cc own nL Z A0 sr H0 R d cells slots) (hO : ∀ x, zMet l d x) {Q : zP} {K : zK} {nx : zX} {pc x y z : Nat} {v : Int} {lx : List Nat} (hck : zechk own cc ret cd (.lushr, pc, x, y, z, v, lx) = true)
    (hK : ∀ t ls st g, K t ls st g → ∀ e', cd[t]? = some e' → zGo p l e s m args below meth c Qw Z A0 H0 sr R cells slots nL e'.2.1 ls st g)
    (hn : ∀ ls st g, nx ls st g → zGo p l e s m args below meth c Qw Z A0 H0 sr R cells slots nL (pc + 1) ls st g)
    {ls st : List zV} {g : zM} (h : ystep (yC d) Q K (.lushr, pc, x, y, z, v, lx) nx ls st g) : zGo p l e s m args below meth c Qw Z A0 H0 sr R cells slots nL pc ls st g := by
  obtain ⟨hx, hb, hml, hown, hts, ⟨hKK, hN⟩, hin, hA, hRm, hSc, hScA⟩ := id hF
  have hD : ∀ g, va_D A0 (zws Z g) := fun g => zws_D hin hA
  have hck := hck
  simp only [zechk, zlen, Bool.and_eq_true, and_true] at hck
  intro real H locs hls hW
  rcases st with _ | ⟨b | b | b | b, _ | ⟨a | a | a | a, r⟩⟩ <;> first | exact False.elim h | skip
  exact lv_lushr hx hb (of_decide_eq_true hck) (zJL_of _).symm (hn _ _ _ h real H locs hls hW)
set_option maxHeartbeats 1000000 in
theorem zs_dup (hF : zFr p s m args c cc own nL Z A0 sr H0 R d cells slots) (hO : ∀ x, zMet l d x) {Q : zP} {K : zK} {nx : zX} {pc x y z : Nat} {v : Int} {lx : List Nat} (hck : zechk own cc ret cd (.dup, pc, x, y, z, v, lx) = true)
    (hK : ∀ t ls st g, K t ls st g → ∀ e', cd[t]? = some e' → zGo p l e s m args below meth c Qw Z A0 H0 sr R cells slots nL e'.2.1 ls st g)
    (hn : ∀ ls st g, nx ls st g → zGo p l e s m args below meth c Qw Z A0 H0 sr R cells slots nL (pc + 1) ls st g)
    {ls st : List zV} {g : zM} (h : ystep (yC d) Q K (.dup, pc, x, y, z, v, lx) nx ls st g) : zGo p l e s m args below meth c Qw Z A0 H0 sr R cells slots nL pc ls st g := by
  obtain ⟨hx, hb, hml, hown, hts, ⟨hKK, hN⟩, hin, hA, hRm, hSc, hScA⟩ := id hF
  have hD : ∀ g, va_D A0 (zws Z g) := fun g => zws_D hin hA
  have hck := hck
  simp only [zechk, zlen, Bool.and_eq_true, and_true] at hck
  intro real H locs hls hW
  rcases st with _ | ⟨a | (_ | a) | a | a, r⟩ <;> first | exact False.elim h | skip
  · exact lv_dup hx hb (of_decide_eq_true hck) rfl (hn _ _ _ h real H locs hls hW)
  · exact lv_dup hx hb (of_decide_eq_true hck) rfl (hn _ _ _ h real H locs hls hW)
  · exact lv_dup hx hb (of_decide_eq_true hck) rfl (hn _ _ _ h real H locs hls hW)
set_option maxHeartbeats 1000000 in
theorem zs_dup2 (hF : zFr p s m args c cc own nL Z A0 sr H0 R d cells slots) (hO : ∀ x, zMet l d x) {Q : zP} {K : zK} {nx : zX} {pc x y z : Nat} {v : Int} {lx : List Nat} (hck : zechk own cc ret cd (.dup2, pc, x, y, z, v, lx) = true)
    (hK : ∀ t ls st g, K t ls st g → ∀ e', cd[t]? = some e' → zGo p l e s m args below meth c Qw Z A0 H0 sr R cells slots nL e'.2.1 ls st g)
    (hn : ∀ ls st g, nx ls st g → zGo p l e s m args below meth c Qw Z A0 H0 sr R cells slots nL (pc + 1) ls st g)
    {ls st : List zV} {g : zM} (h : ystep (yC d) Q K (.dup2, pc, x, y, z, v, lx) nx ls st g) : zGo p l e s m args below meth c Qw Z A0 H0 sr R cells slots nL pc ls st g := by
  obtain ⟨hx, hb, hml, hown, hts, ⟨hKK, hN⟩, hin, hA, hRm, hSc, hScA⟩ := id hF
  have hD : ∀ g, va_D A0 (zws Z g) := fun g => zws_D hin hA
  have hck := hck
  simp only [zechk, zlen, Bool.and_eq_true, and_true] at hck
  intro real H locs hls hW
  rcases st with _ | ⟨b | b | b | b, _ | ⟨a | (_ | a) | a | a, r⟩⟩ <;> first | exact False.elim h | skip
  · exact lv_dup2_11 hx hb (of_decide_eq_true hck) rfl rfl (hn _ _ _ h real H locs hls hW)
  · exact lv_dup2_11 hx hb (of_decide_eq_true hck) rfl rfl (hn _ _ _ h real H locs hls hW)
set_option maxHeartbeats 1000000 in
theorem zs_ifCond {co : Jvm.ClassFile.Cond} {off : Int} (hF : zFr p s m args c cc own nL Z A0 sr H0 R d cells slots) (hO : ∀ x, zMet l d x) {Q : zP} {K : zK} {nx : zX} {pc x y z : Nat} {v : Int} {lx : List Nat} (hck : zechk own cc ret cd (.ifCond co off, pc, x, y, z, v, lx) = true)
    (hK : ∀ t ls st g, K t ls st g → ∀ e', cd[t]? = some e' → zGo p l e s m args below meth c Qw Z A0 H0 sr R cells slots nL e'.2.1 ls st g)
    (hn : ∀ ls st g, nx ls st g → zGo p l e s m args below meth c Qw Z A0 H0 sr R cells slots nL (pc + 3) ls st g)
    {ls st : List zV} {g : zM} (h : ystep (yC d) Q K (.ifCond co off, pc, x, y, z, v, lx) nx ls st g) : zGo p l e s m args below meth c Qw Z A0 H0 sr R cells slots nL pc ls st g := by
  obtain ⟨hx, hb, hml, hown, hts, ⟨hKK, hN⟩, hin, hA, hRm, hSc, hScA⟩ := id hF
  have hD : ∀ g, va_D A0 (zws Z g) := fun g => zws_D hin hA
  have hck := hck
  simp only [zechk, zlen, Bool.and_eq_true, and_true] at hck
  intro real H locs hls hW
  rcases st with _ | ⟨a | a | a | a, r⟩ <;> first | exact False.elim h | skip
  obtain ⟨e1, he1, ho⟩ := ztg_spec hck.2
  obtain ⟨hz, hi⟩ := h
  have k1 := fun q => hK x ls r g q e1 he1 real H locs hls hW
  have k2 := fun q => hn ls r g q real H locs hls hW
  have ceq : zJ a = 0 ↔ a = 0 := by rw [← zJ_0]; exact zJ_eq hz zin0
  have clt : zJ a < 0 ↔ a < 0 := by rw [← zJ_0]; exact zJ_lt hz zin0
  have cgt : 0 < zJ a ↔ 0 < a := by rw [← zJ_0]; exact zJ_lt zin0 hz
  have cle : zJ a ≤ 0 ↔ a ≤ 0 := by rw [← zJ_0]; exact zJ_le hz zin0
  have cge : 0 ≤ zJ a ↔ 0 ≤ a := by rw [← zJ_0]; exact zJ_le zin0 hz
  cases co
  · exact lv_if_eq hx hb (of_decide_eq_true hck.1) ho (fun q => k1 (hi.1 (ceq.mp q))) (fun q => k2 (hi.2 (fun w => q (ceq.mpr w))))
  · exact lv_if_ne hx hb (of_decide_eq_true hck.1) ho (fun q => k1 (hi.1 (fun w => q (ceq.mpr w)))) (fun q => k2 (hi.2 (ceq.mp q)))
  · exact lv_if_lt hx hb (of_decide_eq_true hck.1) ho (fun q => k1 (hi.1 (clt.mp q))) (fun q => k2 (hi.2 (fun w => q (clt.mpr w))))
  · exact lv_if_ge hx hb (of_decide_eq_true hck.1) ho (fun q => k1 (hi.1 (cge.mp q))) (fun q => k2 (hi.2 (fun w => q (cge.mpr w))))
  · exact lv_if_gt hx hb (of_decide_eq_true hck.1) ho (fun q => k1 (hi.1 (cgt.mp q))) (fun q => k2 (hi.2 (fun w => q (cgt.mpr w))))
  · exact lv_if_le hx hb (of_decide_eq_true hck.1) ho (fun q => k1 (hi.1 (cle.mp q))) (fun q => k2 (hi.2 (fun w => q (cle.mpr w))))
set_option maxHeartbeats 1000000 in
theorem zs_if_icmp {co : Jvm.ClassFile.Cond} {off : Int} (hF : zFr p s m args c cc own nL Z A0 sr H0 R d cells slots) (hO : ∀ x, zMet l d x) {Q : zP} {K : zK} {nx : zX} {pc x y z : Nat} {v : Int} {lx : List Nat} (hck : zechk own cc ret cd (.if_icmp co off, pc, x, y, z, v, lx) = true)
    (hK : ∀ t ls st g, K t ls st g → ∀ e', cd[t]? = some e' → zGo p l e s m args below meth c Qw Z A0 H0 sr R cells slots nL e'.2.1 ls st g)
    (hn : ∀ ls st g, nx ls st g → zGo p l e s m args below meth c Qw Z A0 H0 sr R cells slots nL (pc + 3) ls st g)
    {ls st : List zV} {g : zM} (h : ystep (yC d) Q K (.if_icmp co off, pc, x, y, z, v, lx) nx ls st g) : zGo p l e s m args below meth c Qw Z A0 H0 sr R cells slots nL pc ls st g := by
  obtain ⟨hx, hb, hml, hown, hts, ⟨hKK, hN⟩, hin, hA, hRm, hSc, hScA⟩ := id hF
  have hD : ∀ g, va_D A0 (zws Z g) := fun g => zws_D hin hA
  have hck := hck
  simp only [zechk, zlen, Bool.and_eq_true, and_true] at hck
  intro real H locs hls hW
  rcases st with _ | ⟨b | b | b | b, _ | ⟨a | a | a | a, r⟩⟩ <;> first | exact False.elim h | skip
  obtain ⟨e1, he1, ho⟩ := ztg_spec hck.2
  obtain ⟨⟨hza, hzb⟩, hi⟩ := h
  have k1 := fun q => hK x ls r g q e1 he1 real H locs hls hW
  have k2 := fun q => hn ls r g q real H locs hls hW
  have ceq := zJ_eq hza hzb
  have clt := zJ_lt hza hzb
  have cgt := zJ_lt hzb hza
  have cle := zJ_le hza hzb
  have cge := zJ_le hzb hza
  cases co
  · exact lv_icmp_eq hx hb (of_decide_eq_true hck.1) ho (fun q => k1 (hi.1 (ceq.mp q))) (fun q => k2 (hi.2 (fun w => q (ceq.mpr w))))
  · exact lv_icmp_ne hx hb (of_decide_eq_true hck.1) ho (fun q => k1 (hi.1 (fun w => q (ceq.mpr w)))) (fun q => k2 (hi.2 (ceq.mp q)))
  · exact lv_icmp_lt hx hb (of_decide_eq_true hck.1) ho (fun q => k1 (hi.1 (clt.mp q))) (fun q => k2 (hi.2 (fun w => q (clt.mpr w))))
  · exact lv_icmp_ge hx hb (of_decide_eq_true hck.1) ho (fun q => k1 (hi.1 (cge.mp q))) (fun q => k2 (hi.2 (fun w => q (cge.mpr w))))
  · exact lv_icmp_gt hx hb (of_decide_eq_true hck.1) ho (fun q => k1 (hi.1 (cgt.mp q))) (fun q => k2 (hi.2 (fun w => q (cgt.mpr w))))
  · exact lv_icmp_le hx hb (of_decide_eq_true hck.1) ho (fun q => k1 (hi.1 (cle.mp q))) (fun q => k2 (hi.2 (fun w => q (cle.mpr w))))
set_option maxHeartbeats 1000000 in
theorem zs_ifnull {off : Int} (hF : zFr p s m args c cc own nL Z A0 sr H0 R d cells slots) (hO : ∀ x, zMet l d x) {Q : zP} {K : zK} {nx : zX} {pc x y z : Nat} {v : Int} {lx : List Nat} (hck : zechk own cc ret cd (.ifnull off, pc, x, y, z, v, lx) = true)
    (hK : ∀ t ls st g, K t ls st g → ∀ e', cd[t]? = some e' → zGo p l e s m args below meth c Qw Z A0 H0 sr R cells slots nL e'.2.1 ls st g)
    (hn : ∀ ls st g, nx ls st g → zGo p l e s m args below meth c Qw Z A0 H0 sr R cells slots nL (pc + 3) ls st g)
    {ls st : List zV} {g : zM} (h : ystep (yC d) Q K (.ifnull off, pc, x, y, z, v, lx) nx ls st g) : zGo p l e s m args below meth c Qw Z A0 H0 sr R cells slots nL pc ls st g := by
  obtain ⟨hx, hb, hml, hown, hts, ⟨hKK, hN⟩, hin, hA, hRm, hSc, hScA⟩ := id hF
  have hD : ∀ g, va_D A0 (zws Z g) := fun g => zws_D hin hA
  have hck := hck
  simp only [zechk, zlen, Bool.and_eq_true, and_true] at hck
  intro real H locs hls hW
  rcases st with _ | ⟨a | (_ | a) | a | a, r⟩ <;> first | exact False.elim h | skip
  · obtain ⟨e1, he1, ho⟩ := ztg_spec hck.2
    exact lv_ifnullN hx hb (of_decide_eq_true hck.1) ho (hK x ls r g h e1 he1 real H locs hls hW)
  · exact lv_ifnull hx hb (of_decide_eq_true hck.1) (hn ls r g h real H locs hls hW)
set_option maxHeartbeats 1000000 in
theorem zs_goto {off : Int} (hF : zFr p s m args c cc own nL Z A0 sr H0 R d cells slots) (hO : ∀ x, zMet l d x) {Q : zP} {K : zK} {nx : zX} {pc x y z : Nat} {v : Int} {lx : List Nat} (hck : zechk own cc ret cd (.goto off, pc, x, y, z, v, lx) = true)
    (hK : ∀ t ls st g, K t ls st g → ∀ e', cd[t]? = some e' → zGo p l e s m args below meth c Qw Z A0 H0 sr R cells slots nL e'.2.1 ls st g)
    (hn : ∀ ls st g, nx ls st g → zGo p l e s m args below meth c Qw Z A0 H0 sr R cells slots nL (pc + 3) ls st g)
    {ls st : List zV} {g : zM} (h : ystep (yC d) Q K (.goto off, pc, x, y, z, v, lx) nx ls st g) : zGo p l e s m args below meth c Qw Z A0 H0 sr R cells slots nL pc ls st g := by
  obtain ⟨hx, hb, hml, hown, hts, ⟨hKK, hN⟩, hin, hA, hRm, hSc, hScA⟩ := id hF
  have hD : ∀ g, va_D A0 (zws Z g) := fun g => zws_D hin hA
  have hck := hck
  simp only [zechk, zlen, Bool.and_eq_true, and_true] at hck
  intro real H locs hls hW
  obtain ⟨e1, he1, ho⟩ := ztg_spec hck.2
  exact lv_goto hx hb (of_decide_eq_true hck.1) ho (hK x ls st g h e1 he1 real H locs hls hW)
set_option maxHeartbeats 1000000 in
theorem zs_arraylength (hF : zFr p s m args c cc own nL Z A0 sr H0 R d cells slots) (hO : ∀ x, zMet l d x) {Q : zP} {K : zK} {nx : zX} {pc x y z : Nat} {v : Int} {lx : List Nat} (hck : zechk own cc ret cd (.arraylength, pc, x, y, z, v, lx) = true)
    (hK : ∀ t ls st g, K t ls st g → ∀ e', cd[t]? = some e' → zGo p l e s m args below meth c Qw Z A0 H0 sr R cells slots nL e'.2.1 ls st g)
    (hn : ∀ ls st g, nx ls st g → zGo p l e s m args below meth c Qw Z A0 H0 sr R cells slots nL (pc + 1) ls st g)
    {ls st : List zV} {g : zM} (h : ystep (yC d) Q K (.arraylength, pc, x, y, z, v, lx) nx ls st g) : zGo p l e s m args below meth c Qw Z A0 H0 sr R cells slots nL pc ls st g := by
  obtain ⟨hx, hb, hml, hown, hts, ⟨hKK, hN⟩, hin, hA, hRm, hSc, hScA⟩ := id hF
  have hD : ∀ g, va_D A0 (zws Z g) := fun g => zws_D hin hA
  have hck := hck
  simp only [zechk, zlen, Bool.and_eq_true, and_true] at hck
  intro real H locs hls hW
  rcases st with _ | ⟨a | (_ | a) | a | a, r⟩ <;> first | exact False.elim h | skip
  obtain ⟨⟨h1, h4⟩, h⟩ := h
  have hlt : a < zNC := zkd_lt h4
  have k := hn _ _ _ h real H locs hls hW
  have go : ∀ (cA : ClassId) (w : vp_A) (t0 : Nat) (ty : FieldType), zer Z (g a) a = .inl (cA, w) → w.1 = (ykd a).2 → (zty Z)[t0]? = some (cA, ty) → W p l e R s m args below meth c H locs cells slots Qw (F0 m pc real (.ref (Z.2.2 a) :: r.map (zv Z.2.2))) := by
    intro cA w t0 ty he hw ht
    exact va_alen (v := zJ ((ykd a).2 : Int)) hx hb hKK hW.1 a t0 (by rw [zws_at hlt, he]) ht (by rw [zJ_nat, hw]) (of_decide_eq_true hck) k
  obtain ⟨k1, n⟩ : Nat × Nat := ykd a
  rcases hk : (ykd a).1 with _ | _ | _ | _ | _ | q
  · omega
  · exact go _ _ 0 _ (zer_1 (zkd_p hk)) rfl rfl
  · exact go _ _ 1 _ (zer_2 (zkd_p hk)) rfl rfl
  · exact go _ _ 2 _ (zer_3 (zkd_p hk)) rfl rfl
  · exact go _ _ 3 _ (zer_4 (zkd_p hk)) rfl rfl
  · omega
set_option maxHeartbeats 1000000 in
theorem zs_iaload (hF : zFr p s m args c cc own nL Z A0 sr H0 R d cells slots) (hO : ∀ x, zMet l d x) {Q : zP} {K : zK} {nx : zX} {pc x y z : Nat} {v : Int} {lx : List Nat} (hck : zechk own cc ret cd (.iaload, pc, x, y, z, v, lx) = true)
    (hK : ∀ t ls st g, K t ls st g → ∀ e', cd[t]? = some e' → zGo p l e s m args below meth c Qw Z A0 H0 sr R cells slots nL e'.2.1 ls st g)
    (hn : ∀ ls st g, nx ls st g → zGo p l e s m args below meth c Qw Z A0 H0 sr R cells slots nL (pc + 1) ls st g)
    {ls st : List zV} {g : zM} (h : ystep (yC d) Q K (.iaload, pc, x, y, z, v, lx) nx ls st g) : zGo p l e s m args below meth c Qw Z A0 H0 sr R cells slots nL pc ls st g := by
  obtain ⟨hx, hb, hml, hown, hts, ⟨hKK, hN⟩, hin, hA, hRm, hSc, hScA⟩ := id hF
  have hD : ∀ g, va_D A0 (zws Z g) := fun g => zws_D hin hA
  have hck := hck
  simp only [zechk, zlen, Bool.and_eq_true, and_true] at hck
  intro real H locs hls hW
  rcases st with _ | ⟨i | i | i | i, _ | ⟨a | (_ | a) | a | a, r⟩⟩ <;> first | exact False.elim h | skip
  obtain ⟨⟨h1, h2, h3⟩, h⟩ := h
  have hlt : a < zNC := zkd_lt (by rw [h1]; decide)
  have hsz := zkd_n a
  have k := hn _ _ _ h real H locs hls hW
  refine va_iald hx hb hKK hW.1 a 0 (by rw [zws_at hlt, zer_1 (zkd_p h1)]) rfl (zJ_vpin h2 h3 (by omega)) (of_decide_eq_true hck) ?_
  rw [zJ_clamp h2 (by omega), Int.toNat_of_nonneg h2]
  exact k
set_option maxHeartbeats 1000000 in
theorem zs_caload (hF : zFr p s m args c cc own nL Z A0 sr H0 R d cells slots) (hO : ∀ x, zMet l d x) {Q : zP} {K : zK} {nx : zX} {pc x y z : Nat} {v : Int} {lx : List Nat} (hck : zechk own cc ret cd (.caload, pc, x, y, z, v, lx) = true)
    (hK : ∀ t ls st g, K t ls st g → ∀ e', cd[t]? = some e' → zGo p l e s m args below meth c Qw Z A0 H0 sr R cells slots nL e'.2.1 ls st g)
    (hn : ∀ ls st g, nx ls st g → zGo p l e s m args below meth c Qw Z A0 H0 sr R cells slots nL (pc + 1) ls st g)
    {ls st : List zV} {g : zM} (h : ystep (yC d) Q K (.caload, pc, x, y, z, v, lx) nx ls st g) : zGo p l e s m args below meth c Qw Z A0 H0 sr R cells slots nL pc ls st g := by
  obtain ⟨hx, hb, hml, hown, hts, ⟨hKK, hN⟩, hin, hA, hRm, hSc, hScA⟩ := id hF
  have hD : ∀ g, va_D A0 (zws Z g) := fun g => zws_D hin hA
  have hck := hck
  simp only [zechk, zlen, Bool.and_eq_true, and_true] at hck
  intro real H locs hls hW
  rcases st with _ | ⟨i | i | i | i, _ | ⟨a | (_ | a) | a | a, r⟩⟩ <;> first | exact False.elim h | skip
  obtain ⟨⟨h1, h2, h3⟩, h⟩ := h
  have hlt : a < zNC := zkd_lt (by rw [h1]; decide)
  have hsz := zkd_n a
  have k := hn _ _ _ h real H locs hls hW
  refine va_cald hx hb hKK hW.1 a 1 (by rw [zws_at hlt, zer_2 (zkd_p h1)]) rfl (zJ_vpin h2 h3 (by omega)) (of_decide_eq_true hck) ?_
  rw [zJ_clamp h2 (by omega), Int.toNat_of_nonneg h2]
  exact k
set_option maxHeartbeats 1000000 in
theorem zs_laload (hF : zFr p s m args c cc own nL Z A0 sr H0 R d cells slots) (hO : ∀ x, zMet l d x) {Q : zP} {K : zK} {nx : zX} {pc x y z : Nat} {v : Int} {lx : List Nat} (hck : zechk own cc ret cd (.laload, pc, x, y, z, v, lx) = true)
    (hK : ∀ t ls st g, K t ls st g → ∀ e', cd[t]? = some e' → zGo p l e s m args below meth c Qw Z A0 H0 sr R cells slots nL e'.2.1 ls st g)
    (hn : ∀ ls st g, nx ls st g → zGo p l e s m args below meth c Qw Z A0 H0 sr R cells slots nL (pc + 1) ls st g)
    {ls st : List zV} {g : zM} (h : ystep (yC d) Q K (.laload, pc, x, y, z, v, lx) nx ls st g) : zGo p l e s m args below meth c Qw Z A0 H0 sr R cells slots nL pc ls st g := by
  obtain ⟨hx, hb, hml, hown, hts, ⟨hKK, hN⟩, hin, hA, hRm, hSc, hScA⟩ := id hF
  have hD : ∀ g, va_D A0 (zws Z g) := fun g => zws_D hin hA
  have hck := hck
  simp only [zechk, zlen, Bool.and_eq_true, and_true] at hck
  intro real H locs hls hW
  rcases st with _ | ⟨i | i | i | i, _ | ⟨a | (_ | a) | a | a, r⟩⟩ <;> first | exact False.elim h | skip
  obtain ⟨⟨h1, h2, h3⟩, h⟩ := h
  have hlt : a < zNC := zkd_lt (by rw [h1]; decide)
  have hsz := zkd_n a
  have k := hn _ _ _ h real H locs hls hW
  refine va_lald hx hb hKK hW.1 a 2 (by rw [zws_at hlt, zer_3 (zkd_p h1)]) rfl (zJ_vpin h2 h3 (by omega)) (of_decide_eq_true hck) ?_
  rw [zJ_clamp h2 (by omega), Int.toNat_of_nonneg h2]
  exact k
set_option maxHeartbeats 1000000 in
theorem zs_aaload (hF : zFr p s m args c cc own nL Z A0 sr H0 R d cells slots) (hO : ∀ x, zMet l d x) {Q : zP} {K : zK} {nx : zX} {pc x y z : Nat} {v : Int} {lx : List Nat} (hck : zechk own cc ret cd (.aaload, pc, x, y, z, v, lx) = true)
    (hK : ∀ t ls st g, K t ls st g → ∀ e', cd[t]? = some e' → zGo p l e s m args below meth c Qw Z A0 H0 sr R cells slots nL e'.2.1 ls st g)
    (hn : ∀ ls st g, nx ls st g → zGo p l e s m args below meth c Qw Z A0 H0 sr R cells slots nL (pc + 1) ls st g)
    {ls st : List zV} {g : zM} (h : ystep (yC d) Q K (.aaload, pc, x, y, z, v, lx) nx ls st g) : zGo p l e s m args below meth c Qw Z A0 H0 sr R cells slots nL pc ls st g := by
  obtain ⟨hx, hb, hml, hown, hts, ⟨hKK, hN⟩, hin, hA, hRm, hSc, hScA⟩ := id hF
  have hD : ∀ g, va_D A0 (zws Z g) := fun g => zws_D hin hA
  have hck := hck
  simp only [zechk, zlen, Bool.and_eq_true, and_true] at hck
  intro real H locs hls hW
  rcases st with _ | ⟨i | i | i | i, _ | ⟨a | (_ | a) | a | a, r⟩⟩ <;> first | exact False.elim h | skip
  obtain ⟨⟨h1, h2, h3⟩, h⟩ := h
  subst h1
  have hz : ykd 2 = (4, 4) := by decide
  have k := hn _ _ _ h real H locs hls hW
  refine va_aldq hx hb hKK hW.1 2 3 (by rw [zws_at (by decide), zer_4 hz]) rfl (zJ_vpin h2 h3 (by decide)) (of_decide_eq_true hck) ?_
  rw [zJ_clamp h2 (by omega)]
  exact k
set_option maxHeartbeats 1000000 in
theorem zs_iastore (hF : zFr p s m args c cc own nL Z A0 sr H0 R d cells slots) (hO : ∀ x, zMet l d x) {Q : zP} {K : zK} {nx : zX} {pc x y z : Nat} {v : Int} {lx : List Nat} (hck : zechk own cc ret cd (.iastore, pc, x, y, z, v, lx) = true)
    (hK : ∀ t ls st g, K t ls st g → ∀ e', cd[t]? = some e' → zGo p l e s m args below meth c Qw Z A0 H0 sr R cells slots nL e'.2.1 ls st g)
    (hn : ∀ ls st g, nx ls st g → zGo p l e s m args below meth c Qw Z A0 H0 sr R cells slots nL (pc + 1) ls st g)
    {ls st : List zV} {g : zM} (h : ystep (yC d) Q K (.iastore, pc, x, y, z, v, lx) nx ls st g) : zGo p l e s m args below meth c Qw Z A0 H0 sr R cells slots nL pc ls st g := by
  obtain ⟨hx, hb, hml, hown, hts, ⟨hKK, hN⟩, hin, hA, hRm, hSc, hScA⟩ := id hF
  have hD : ∀ g, va_D A0 (zws Z g) := fun g => zws_D hin hA
  have hck := hck
  simp only [zechk, zlen, Bool.and_eq_true, and_true] at hck
  intro real H locs hls hW
  rcases st with _ | ⟨w | w | w | w, _ | ⟨i | i | i | i, _ | ⟨a | (_ | a) | a | a, r⟩⟩⟩ <;> first | exact False.elim h | skip
  obtain ⟨⟨h1, h2, h3⟩, h⟩ := h
  have hlt : a < zNC := zkd_lt (by rw [h1]; decide)
  have hsz := zkd_n a
  refine va_iast hx hb hKK hW.1 (hD g) hW.2.1 a 0 (by rw [zws_at hlt, zer_1 (zkd_p h1)]) rfl (zJ_vpin h2 h3 (by omega)) (of_decide_eq_true hck) (fun H1 locs1 hP1 _ hS1 => ?_)
  have hi := zJ_clamp h2 (by omega : i < 2147483648)
  rw [zws_set (g' := zup g a i w) hlt ?_ (fun j hj => zup_ne hj)] at hP1
  · exact hn _ _ _ h real H1 locs1 hls ⟨hP1, hS1, (zup_ne (fun w => absurd (show a < 64 from hlt) (by omega))).trans hW.2.2⟩
  · rw [zer_1 (zkd_p h1), zup_row, hi]
    refine congrArg (fun f => (Sum.inl (_, _, Sum.inl f) : va_E)) (funext fun j => ?_)
    by_cases hj : j = i.toNat
    · have hc : ((i.toNat : Nat) : Int) = i := Int.toNat_of_nonneg h2
      subst hj
      simp [upd, hc]
    · have : ¬ (j : Int) = i := by omega
      simp [upd, hj, this]
set_option maxHeartbeats 1000000 in
theorem zs_castore (hF : zFr p s m args c cc own nL Z A0 sr H0 R d cells slots) (hO : ∀ x, zMet l d x) {Q : zP} {K : zK} {nx : zX} {pc x y z : Nat} {v : Int} {lx : List Nat} (hck : zechk own cc ret cd (.castore, pc, x, y, z, v, lx) = true)
    (hK : ∀ t ls st g, K t ls st g → ∀ e', cd[t]? = some e' → zGo p l e s m args below meth c Qw Z A0 H0 sr R cells slots nL e'.2.1 ls st g)
    (hn : ∀ ls st g, nx ls st g → zGo p l e s m args below meth c Qw Z A0 H0 sr R cells slots nL (pc + 1) ls st g)
    {ls st : List zV} {g : zM} (h : ystep (yC d) Q K (.castore, pc, x, y, z, v, lx) nx ls st g) : zGo p l e s m args below meth c Qw Z A0 H0 sr R cells slots nL pc ls st g := by
  obtain ⟨hx, hb, hml, hown, hts, ⟨hKK, hN⟩, hin, hA, hRm, hSc, hScA⟩ := id hF
  have hD : ∀ g, va_D A0 (zws Z g) := fun g => zws_D hin hA
  have hck := hck
  simp only [zechk, zlen, Bool.and_eq_true, and_true] at hck
  intro real H locs hls hW
  rcases st with _ | ⟨w | w | w | w, _ | ⟨i | i | i | i, _ | ⟨a | (_ | a) | a | a, r⟩⟩⟩ <;> first | exact False.elim h | skip
  obtain ⟨⟨h1, ⟨h2, h3⟩, h5⟩, h⟩ := h
  have hlt : a < zNC := zkd_lt (by rw [h1]; decide)
  have hsz := zkd_n a
  refine va_cast hx hb hKK hW.1 (hD g) hW.2.1 a 1 (by rw [zws_at hlt, zer_2 (zkd_p h1)]) rfl (zJ_vpin h2 h3 (by omega)) (of_decide_eq_true hck) (fun H1 locs1 hP1 _ hS1 => ?_)
  rw [zvp_char h5] at hP1
  have hi := zJ_clamp h2 (by omega : i < 2147483648)
  rw [zws_set (g' := zup g a i w) hlt ?_ (fun j hj => zup_ne hj)] at hP1
  · exact hn _ _ _ h real H1 locs1 hls ⟨hP1, hS1, (zup_ne (fun w => absurd (show a < 64 from hlt) (by omega))).trans hW.2.2⟩
  · rw [zer_2 (zkd_p h1), zup_row, hi]
    refine congrArg (fun f => (Sum.inl (_, _, Sum.inl f) : va_E)) (funext fun j => ?_)
    by_cases hj : j = i.toNat
    · have hc : ((i.toNat : Nat) : Int) = i := Int.toNat_of_nonneg h2
      subst hj
      simp [upd, hc]
    · have : ¬ (j : Int) = i := by omega
      simp [upd, hj, this]
set_option maxHeartbeats 1000000 in
theorem zs_lastore (hF : zFr p s m args c cc own nL Z A0 sr H0 R d cells slots) (hO : ∀ x, zMet l d x) {Q : zP} {K : zK} {nx : zX} {pc x y z : Nat} {v : Int} {lx : List Nat} (hck : zechk own cc ret cd (.lastore, pc, x, y, z, v, lx) = true)
    (hK : ∀ t ls st g, K t ls st g → ∀ e', cd[t]? = some e' → zGo p l e s m args below meth c Qw Z A0 H0 sr R cells slots nL e'.2.1 ls st g)
    (hn : ∀ ls st g, nx ls st g → zGo p l e s m args below meth c Qw Z A0 H0 sr R cells slots nL (pc + 1) ls st g)
    {ls st : List zV} {g : zM} (h : ystep (yC d) Q K (.lastore, pc, x, y, z, v, lx) nx ls st g) : zGo p l e s m args below meth c Qw Z A0 H0 sr R cells slots nL pc ls st g := by
  obtain ⟨hx, hb, hml, hown, hts, ⟨hKK, hN⟩, hin, hA, hRm, hSc, hScA⟩ := id hF
  have hD : ∀ g, va_D A0 (zws Z g) := fun g => zws_D hin hA
  have hck := hck
  simp only [zechk, zlen, Bool.and_eq_true, and_true] at hck
  intro real H locs hls hW
  rcases st with _ | ⟨w | w | w | w, _ | ⟨i | i | i | i, _ | ⟨a | (_ | a) | a | a, r⟩⟩⟩ <;> first | exact False.elim h | skip
  obtain ⟨⟨h1, h2, h3⟩, h⟩ := h
  have hlt : a < zNC := zkd_lt (by rw [h1]; decide)
  have hsz := zkd_n a
  refine va_last hx hb hKK hW.1 (hD g) hW.2.1 a 2 (by rw [zws_at hlt, zer_3 (zkd_p h1)]) rfl (zJ_vpin h2 h3 (by omega)) (of_decide_eq_true hck) (fun H1 locs1 hP1 _ hS1 => ?_)
  have hi := zJ_clamp h2 (by omega : i < 2147483648)
  rw [zws_set (g' := zup g a i w) hlt ?_ (fun j hj => zup_ne hj)] at hP1
  · exact hn _ _ _ h real H1 locs1 hls ⟨hP1, hS1, (zup_ne (fun w => absurd (show a < 64 from hlt) (by omega))).trans hW.2.2⟩
  · rw [zer_3 (zkd_p h1), zup_row, hi]
    refine congrArg (fun f => (Sum.inl (_, _, Sum.inr (Sum.inl f)) : va_E)) (funext fun j => ?_)
    by_cases hj : j = i.toNat
    · have hc : ((i.toNat : Nat) : Int) = i := Int.toNat_of_nonneg h2
      subst hj
      simp [vp_updL, hc]
    · have : ¬ (j : Int) = i := by omega
      simp [vp_updL, hj, this]
set_option maxHeartbeats 1000000 in
theorem zs_getfield {i : Nat} (hF : zFr p s m args c cc own nL Z A0 sr H0 R d cells slots) (hO : ∀ x, zMet l d x) {Q : zP} {K : zK} {nx : zX} {pc x y z : Nat} {v : Int} {lx : List Nat} (hck : zechk own cc ret cd (.getfield i, pc, x, y, z, v, lx) = true)
    (hK : ∀ t ls st g, K t ls st g → ∀ e', cd[t]? = some e' → zGo p l e s m args below meth c Qw Z A0 H0 sr R cells slots nL e'.2.1 ls st g)
    (hn : ∀ ls st g, nx ls st g → zGo p l e s m args below meth c Qw Z A0 H0 sr R cells slots nL (pc + 3) ls st g)
    {ls st : List zV} {g : zM} (h : ystep (yC d) Q K (.getfield i, pc, x, y, z, v, lx) nx ls st g) : zGo p l e s m args below meth c Qw Z A0 H0 sr R cells slots nL pc ls st g := by
  obtain ⟨hx, hb, hml, hown, hts, ⟨hKK, hN⟩, hin, hA, hRm, hSc, hScA⟩ := id hF
  have hD : ∀ g, va_D A0 (zws Z g) := fun g => zws_D hin hA
  have hck := hck
  simp only [zechk, zlen, Bool.and_eq_true, and_true] at hck
  intro real H locs hls hW
  rcases st with _ | ⟨a | (_ | a) | a | a, r⟩ <;> first | exact False.elim h | skip
  obtain ⟨hk, h⟩ := h
  have hlt : a < zNC := zkd_lt (by rw [hk]; exact Nat.zero_le _)
  obtain ⟨hd, hq⟩ := hck
  cases hc : vwCl[x]? with
  | none => rw [hc] at hq; exact Bool.noConfusion hq
  | some q =>
    rw [hc] at hq
    dsimp only at hq
    rw [Bool.and_eq_true] at hq
    obtain ⟨q1, q2⟩ := hq
    obtain ⟨q3, q4⟩ := of_decide_eq_true q1
    have hlink := hts _ (zgw_spec q2)
    have k : W p l e R s m args below meth c H locs cells slots Qw (F0 m (pc + 3) real (zfv Z.2.2 (g a) a y (zre x z lx) :: r.map (zv Z.2.2))) := by
      have hx7 : x < 6 := (List.getElem?_eq_some_iff.mp hc).1
      rcases z with _ | o
      · exact hn _ _ _ h real H locs hls hW
      · rcases lx with _ | ⟨l0, _ | ⟨l1, l2⟩⟩
        · obtain ⟨w, h1, h2⟩ := zone_ok (z := o + 1) hlt hx7 hk q4
          have := hn _ _ _ h real H locs hls hW
          show W p l e R s m args below meth c H locs cells slots Qw (F0 m (pc + 3) real (zfv Z.2.2 (g a) a y (if zone x < o + 1 ∧ zone x < 100 then o + 1 - zone x else 1000) :: r.map (zv Z.2.2)))
          rw [h1]
          show W p l e R s m args below meth c H locs cells slots Qw (F0 m (pc + 3) real (.ref (Z.2.2 (a + (w + 1))) :: r.map (zv Z.2.2)))
          rw [h2]
          exact this
        · exact hn _ _ _ h real H locs hls hW
        · obtain ⟨w, h1, h2⟩ := zone_ok (z := o + 1) hlt hx7 hk q4
          have := hn _ _ _ h real H locs hls hW
          show W p l e R s m args below meth c H locs cells slots Qw (F0 m (pc + 3) real (zfv Z.2.2 (g a) a y (if zone x < o + 1 ∧ zone x < 100 then o + 1 - zone x else 1000) :: r.map (zv Z.2.2)))
          rw [h1]
          show W p l e R s m args below meth c H locs cells slots Qw (F0 m (pc + 3) real (.ref (Z.2.2 (a + (w + 1))) :: r.map (zv Z.2.2)))
          rw [h2]
          exact this
    exact va_get (C := q.1) (T := q.2.1) (N := q.2.2) hx hb hts (zcl x q hc).2.2 hown hKK hW.1 a (by rw [zws_at hlt, zer_0 hk]) hc y q3 hlink (fun _ w => w) (zfl_at q4) (of_decide_eq_true hd) k
set_option maxHeartbeats 1000000 in
theorem zs_putfield {i : Nat} (hF : zFr p s m args c cc own nL Z A0 sr H0 R d cells slots) (hO : ∀ x, zMet l d x) {Q : zP} {K : zK} {nx : zX} {pc x y z : Nat} {v : Int} {lx : List Nat} (hck : zechk own cc ret cd (.putfield i, pc, x, y, z, v, lx) = true)
    (hK : ∀ t ls st g, K t ls st g → ∀ e', cd[t]? = some e' → zGo p l e s m args below meth c Qw Z A0 H0 sr R cells slots nL e'.2.1 ls st g)
    (hn : ∀ ls st g, nx ls st g → zGo p l e s m args below meth c Qw Z A0 H0 sr R cells slots nL (pc + 3) ls st g)
    {ls st : List zV} {g : zM} (h : ystep (yC d) Q K (.putfield i, pc, x, y, z, v, lx) nx ls st g) : zGo p l e s m args below meth c Qw Z A0 H0 sr R cells slots nL pc ls st g := by
  obtain ⟨hx, hb, hml, hown, hts, ⟨hKK, hN⟩, hin, hA, hRm, hSc, hScA⟩ := id hF
  have hD : ∀ g, va_D A0 (zws Z g) := fun g => zws_D hin hA
  have hck := hck
  simp only [zechk, zlen, Bool.and_eq_true, and_true] at hck
  intro real H locs hls hW
  rcases st with _ | ⟨w | w | w | w, _ | ⟨a | (_ | a) | a | a, r⟩⟩ <;> first | exact False.elim h | skip
  obtain ⟨⟨hk, hv⟩, h⟩ := h
  have hlt : a < zNC := zkd_lt (by rw [hk]; exact Nat.zero_le _)
  obtain ⟨hd, hq⟩ := hck
  cases hc : vwCl[x]? with
  | none => rw [hc] at hq; exact Bool.noConfusion hq
  | some q =>
    rw [hc] at hq
    dsimp only at hq
    rw [Bool.and_eq_true] at hq
    obtain ⟨q1, q2⟩ := hq
    obtain ⟨q3, q4, q5, q6⟩ := of_decide_eq_true q1
    have hlink := hts _ (zgw_spec q2)
    obtain ⟨⟨ty0, hty⟩, hnm, hin2⟩ := zcl x q hc
    have hfit : narrow (if v = 2 then FieldType.boolean else FieldType.int) (.int (zJ w)) = .int (zJ w) ∧ fits (if v = 2 then FieldType.boolean else FieldType.int) (.int (zJ w)) = true := by
      by_cases hv2 : v = 2
      · rw [if_pos hv2]; exact zlow_b (hv hv2)
      · rw [if_neg hv2]; exact ⟨rfl, rfl⟩
    have hl : y < (zfl Z.2.2 (g a) a x).length := by
      have := (List.getElem?_eq_some_iff.mp q4).1
      simpa [zfl] using this
    refine va_put (C := q.1) (T := q.2.1) (N := q.2.2) hx hb hts hin2 ty0 hty hnm hown hKK hW.1 (hD g) hW.2.1 a (by rw [zws_at hlt, zer_0 hk]) hc y q3 hlink (fun _ w => w) q5 q6 hfit.1 hfit.2 hl (of_decide_eq_true hd) (fun H1 locs1 hP1 _ hS1 => ?_)
    rw [zws_set (g' := zup g a y w) hlt ?_ (fun j hj => zup_ne hj)] at hP1
    · exact hn _ _ _ h real H1 locs1 hls ⟨hP1, hS1, (zup_ne (fun w => absurd (show a < 64 from hlt) (by omega))).trans hW.2.2⟩
    · rw [zer_0 hk, zup_row]
      exact congrArg (fun z => Sum.inr (x, z)) (zfl_set q4)
set_option maxHeartbeats 1000000 in
theorem zs_tableswitch {dl lo hi : Int} {offs : Array Int} (hF : zFr p s m args c cc own nL Z A0 sr H0 R d cells slots) (hO : ∀ x, zMet l d x) {Q : zP} {K : zK} {nx : zX} {pc x y z : Nat} {v : Int} {lx : List Nat} (hck : zechk own cc ret cd (.tableswitch dl lo hi offs, pc, x, y, z, v, lx) = true)
    (hK : ∀ t ls st g, K t ls st g → ∀ e', cd[t]? = some e' → zGo p l e s m args below meth c Qw Z A0 H0 sr R cells slots nL e'.2.1 ls st g)
    {ls st : List zV} {g : zM} (h : ystep (yC d) Q K (.tableswitch dl lo hi offs, pc, x, y, z, v, lx) nx ls st g) : zGo p l e s m args below meth c Qw Z A0 H0 sr R cells slots nL pc ls st g := by
  obtain ⟨hx, hb, hml, hown, hts, ⟨hKK, hN⟩, hin, hA, hRm, hSc, hScA⟩ := id hF
  have hD : ∀ g, va_D A0 (zws Z g) := fun g => zws_D hin hA
  have hck := hck
  simp only [zechk, zlen, Bool.and_eq_true, and_true] at hck
  intro real H locs hls hW
  rcases st with _ | ⟨a | a | a | a, r⟩ <;> rcases lx with _ | ⟨t, ts⟩ <;> first | exact False.elim h | skip
  obtain ⟨hz, hout, hin2⟩ := h
  obtain ⟨⟨⟨hd, h2⟩, h3⟩, h4⟩ := hck
  have hdg := of_decide_eq_true hd
  obtain ⟨rfl, h5, h6⟩ := of_decide_eq_true h2
  have h7 : ts.length = offs.size := by simpa using h6
  have hta := zJ_toInt hz
  by_cases ho : a < lo ∨ lo + ts.length ≤ a
  · obtain ⟨e1, he1, ho1⟩ := ztg_spec h3
    exact lv_tableOut hx hb hdg (by rw [hta, h5]; omega) ho1 (hK t ls r g (hout ho) e1 he1 real H locs hls hW)
  · have hi : (a - lo).toNat < ts.length := by omega
    have hi2 : (a - lo).toNat < offs.size := by omega
    have h8 := List.all_eq_true.mp h4 (a - lo).toNat (List.mem_range.mpr hi2)
    have h9 : offs.toList.getD (a - lo).toNat 0 = offs[(a - lo).toNat] := by
      rw [List.getD_eq_getElem?_getD, Array.getElem?_toList, Array.getElem?_eq_getElem hi2]
      rfl
    have h10 : (t :: ts).getD ((a - lo).toNat + 1) 0 = ts[(a - lo).toNat] := by
      rw [List.getD_eq_getElem?_getD, List.getElem?_cons_succ, List.getElem?_eq_getElem hi]
      rfl
    rw [h9, h10] at h8
    obtain ⟨e1, he1, ho1⟩ := ztg_spec h8
    have hk := ztab_spec ts lo hin2 (a - lo).toNat _ (List.getElem?_eq_getElem hi) (by omega)
    exact lv_tableIn hx hb hdg (by rw [hta]; omega) (by rw [hta, h5]; omega) (by rw [hta]; exact Array.getElem?_eq_getElem hi2) ho1 (hK _ ls r g hk e1 he1 real H locs hls hW)
set_option maxHeartbeats 1000000 in
theorem zs_invokevirtual {i : Nat} (hF : zFr p s m args c cc own nL Z A0 sr H0 R d cells slots) (hO : ∀ x, zMet l d x) {Q : zP} {K : zK} {nx : zX} {pc x y z : Nat} {v : Int} {lx : List Nat} (hck : zechk own cc ret cd (.invokevirtual i, pc, x, y, z, v, lx) = true)
    (hK : ∀ t ls st g, K t ls st g → ∀ e', cd[t]? = some e' → zGo p l e s m args below meth c Qw Z A0 H0 sr R cells slots nL e'.2.1 ls st g)
    (hn : ∀ ls st g, nx ls st g → zGo p l e s m args below meth c Qw Z A0 H0 sr R cells slots nL (pc + 3) ls st g)
    {ls st : List zV} {g : zM} (h : ystep (yC d) Q K (.invokevirtual i, pc, x, y, z, v, lx) nx ls st g) : zGo p l e s m args below meth c Qw Z A0 H0 sr R cells slots nL pc ls st g := by
  obtain ⟨hx, hb, hml, hown, hts, ⟨hKK, hN⟩, hin, hA, hRm, hSc, hScA⟩ := id hF
  have hD : ∀ g, va_D A0 (zws Z g) := fun g => zws_D hin hA
  have hck := hck
  simp only [zechk, zlen, Bool.and_eq_true, and_true] at hck
  obtain ⟨hd, hq⟩ := hck
  cases hI : zMI[x]? with
  | none => rw [hI] at hq; exact Bool.noConfusion hq
  | some I =>
    cases hc : vwCl[z]? with
    | none => rw [hI, hc] at hq; exact Bool.noConfusion hq
    | some q =>
      rw [hI, hc] at hq
      dsimp only at hq
      rw [Bool.and_eq_true] at hq
      obtain ⟨q1, q2, q3⟩ := of_decide_eq_true hq.1
      exact z_virt hF hO (of_decide_eq_true hd) ⟨I, q, hI, hc, q1, ⟨q2, q3⟩, hts _ (zgw_spec hq.2)⟩ h hn
set_option maxHeartbeats 1000000 in
theorem zs_invokestatic {i : Nat} (hF : zFr p s m args c cc own nL Z A0 sr H0 R d cells slots) (hO : ∀ x, zMet l d x) {Q : zP} {K : zK} {nx : zX} {pc x y z : Nat} {v : Int} {lx : List Nat} (hck : zechk own cc ret cd (.invokestatic i, pc, x, y, z, v, lx) = true)
    (hK : ∀ t ls st g, K t ls st g → ∀ e', cd[t]? = some e' → zGo p l e s m args below meth c Qw Z A0 H0 sr R cells slots nL e'.2.1 ls st g)
    (hn : ∀ ls st g, nx ls st g → zGo p l e s m args below meth c Qw Z A0 H0 sr R cells slots nL (pc + 3) ls st g)
    {ls st : List zV} {g : zM} (h : ystep (yC d) Q K (.invokestatic i, pc, x, y, z, v, lx) nx ls st g) : zGo p l e s m args below meth c Qw Z A0 H0 sr R cells slots nL pc ls st g := by
  obtain ⟨hx, hb, hml, hown, hts, ⟨hKK, hN⟩, hin, hA, hRm, hSc, hScA⟩ := id hF
  have hD : ∀ g, va_D A0 (zws Z g) := fun g => zws_D hin hA
  have hck := hck
  simp only [zechk, zlen, Bool.and_eq_true, and_true] at hck
  obtain ⟨hd, hq⟩ := hck
  have hdg := of_decide_eq_true hd
  rcases z with _ | _ | _ | _ | _ | z
  · cases hI : zMI[x]? with
    | none => rw [hI] at hq; exact Bool.noConfusion hq
    | some I =>
      rw [hI] at hq
      replace hq : (decide (I.2.2.2.1 = true ∧ I.2.2.2.2 ≠ []) && zgw (lx.headD 0) (Cond.methodLink own i I.1)) = true := hq
      rw [Bool.and_eq_true] at hq
      exact z_stat hF hO hdg false ⟨I, hI, of_decide_eq_true hq.1, hts _ (zgw_spec hq.2)⟩ h hn
  · cases hI : zMI[x]? with
    | none => rw [hI] at hq; exact Bool.noConfusion hq
    | some I =>
      rw [hI] at hq
      replace hq : (decide (I.2.2.2.1 = true ∧ I.2.2.2.2 ≠ []) && decide (lw_tbl[lx.headD 0]? = some (Cond.methodLinkNest own i I.1 "BranchedSums"))) = true := hq
      rw [Bool.and_eq_true] at hq
      exact z_stat hF hO hdg true ⟨I, hI, of_decide_eq_true hq.1, va_Nw.use rfl (hN _ (List.mem_of_getElem? (of_decide_eq_true hq.2)) rfl)⟩ h hn
  · intro real H locs hls hW
    rcases st with _ | ⟨n | n | n | n, _ | ⟨dp | dp | dp | dp, _ | ⟨b | (_ | b) | b | b, _ | ⟨sp | sp | sp | sp, _ | ⟨a | (_ | a) | a | a, r⟩⟩⟩⟩⟩ <;> first | exact False.elim h | skip
    obtain ⟨⟨hkd, ⟨h1, h2, h3⟩, h4, h5⟩, hw, h⟩ := h
    have hlink := hts _ (zgw_spec hq)
    have na := zkd_n a
    have nb := zkd_n b
    have c1 := zJ_clamp h1 (by omega : sp < 2147483648)
    have c2 := zJ_clamp h2 (by omega : dp < 2147483648)
    have c3 := zJ_clamp h3 (by omega : n < 2147483648)
    have ng : ∀ y : Int, 0 ≤ y → y < 2147483648 → ¬ zJ y < 0 := by
      intro y q1 q2 q3
      rw [← zJ_0] at q3
      have := (zJ_lt ⟨by omega, q2⟩ zin0).mp q3
      omega
    have hfr : 1 ≤ R.frames := by have := hRm.1; omega
    have hlo : ((r.map (zv Z.2.2)).map fun v => v.category).sum + (nativeFrameWords "java/lang/System" "arraycopy" 5 + 11) ≤ R.locals := by
      rw [zwt_v]
      show zwt r + (7 + 11) ≤ R.locals
      have := hRm.2.1
      omega
    rcases hkd with ⟨ka, kb⟩ | ⟨ka, kb⟩
    · have hla : a < zNC := zkd_lt (by rw [ka]; decide)
      have hlb : b < zNC := zkd_lt (by rw [kb]; decide)
      refine va_copyi hx hb (hml.trans hls.1.1.symm) hown hlink (hts _ zSY0) (hts _ zSY1) (hts _ zSY2) hKK hW.1 (hD g) hW.2.1 a b 0 0 (by rw [zws_at hla, zer_1 (zkd_p ka)]) (by rw [zws_at hlb, zer_1 (zkd_p kb)]) rfl rfl rfl (ng _ h1 (by omega)) (ng _ h2 (by omega)) (ng _ h3 (by omega)) (by rw [c1, c3]; omega) (by rw [c2, c3]; omega) (fun _ _ => rfl) hfr hlo hdg (fun H1 locs1 hP1 _ hS1 => ?_)
      rw [c1, c2, c3, zws_set (g' := zcpy g a sp b dp n) hlb ?_ (fun j hj => zcpy_ne hj)] at hP1
      · exact hn _ _ _ h real H1 locs1 hls ⟨hP1, hS1, (zcpy_ne (fun w => absurd (show b < 64 from hlb) (by omega))).trans hW.2.2⟩
      · rw [zer_1 (zkd_p kb), zcpy_row]
        exact congrArg (fun f => (Sum.inl (_, _, Sum.inl f) : va_E)) (zcpy_fn zJ h1 h2 h3)
    · have hla : a < zNC := zkd_lt (by rw [ka]; decide)
      have hlb : b < zNC := zkd_lt (by rw [kb]; decide)
      refine va_copyl hx hb (hml.trans hls.1.1.symm) hown hlink (hts _ zSY0) (hts _ zSY1) (hts _ zSY2) hKK hW.1 (hD g) hW.2.1 a b 2 2 (by rw [zws_at hla, zer_3 (zkd_p ka)]) (by rw [zws_at hlb, zer_3 (zkd_p kb)]) rfl rfl rfl (ng _ h1 (by omega)) (ng _ h2 (by omega)) (ng _ h3 (by omega)) (by rw [c1, c3]; omega) (by rw [c2, c3]; omega) (fun _ _ => rfl) hfr hlo hdg (fun H1 locs1 hP1 _ hS1 => ?_)
      rw [c1, c2, c3, zws_set (g' := zcpy g a sp b dp n) hlb ?_ (fun j hj => zcpy_ne hj)] at hP1
      · exact hn _ _ _ h real H1 locs1 hls ⟨hP1, hS1, (zcpy_ne (fun w => absurd (show b < 64 from hlb) (by omega))).trans hW.2.2⟩
      · rw [zer_3 (zkd_p kb), zcpy_row]
        exact congrArg (fun f => (Sum.inl (_, _, Sum.inr (Sum.inl f)) : va_E)) (zcpy_fn zJL h1 h2 h3)
  · intro real H locs hls hW
    rcases st with _ | ⟨b | b | b | b, _ | ⟨a | a | a | a, r⟩⟩ <;> first | exact False.elim h | skip
    obtain ⟨⟨⟨ha, hb2⟩, hw⟩, h⟩ := h
    have hlo : ((r.map (zv Z.2.2)).map fun v => v.category).sum + 13 ≤ R.locals := by
      rw [zwt_v]
      have := hRm.2.1
      omega
    refine va_mmax hx hb (hml.trans hls.1.1.symm) hown (hts _ (zgw_spec hq)) (hts _ zSY3) (hts _ zSY5) (hts _ zSY4) (by have := hRm.1; omega) hlo hRm.2.2.1 hRm.2.2.2 hdg ?_
    have e1 : (if zJ a < zJ b then zJ b else zJ a) = zJ (max a b) := by
      by_cases q : a < b
      · rw [if_pos ((zJ_lt ha hb2).mpr q), Int.max_eq_right (by omega)]
      · rw [if_neg (fun w => q ((zJ_lt ha hb2).mp w)), Int.max_eq_left (by omega)]
    rw [e1]
    exact hn _ _ _ h real H locs hls hW
  · intro real H locs hls hW
    rcases st with _ | ⟨b | b | b | b, _ | ⟨a | a | a | a, r⟩⟩ <;> first | exact False.elim h | skip
    obtain ⟨⟨⟨ha, hb2⟩, hw⟩, h⟩ := h
    have hlo : ((r.map (zv Z.2.2)).map fun v => v.category).sum + 13 ≤ R.locals := by
      rw [zwt_v]
      have := hRm.2.1
      omega
    refine va_mmin hx hb (hml.trans hls.1.1.symm) hown (hts _ (zgw_spec hq)) (hts _ zSY6) (hts _ zSY5) (hts _ zSY7) (by have := hRm.1; omega) hlo hRm.2.2.1 hRm.2.2.2 hdg ?_
    have e1 : (if zJ b < zJ a then zJ b else zJ a) = zJ (min a b) := by
      by_cases q : b < a
      · rw [if_pos ((zJ_lt hb2 ha).mpr q), Int.min_eq_right (by omega)]
      · rw [if_neg (fun w => q ((zJ_lt hb2 ha).mp w)), Int.min_eq_left (by omega)]
    rw [e1]
    exact hn _ _ _ h real H locs hls hW
  · exact Bool.noConfusion hq
set_option maxHeartbeats 1000000 in
theorem zs_ireturn (hF : zFr p s m args c cc own nL Z (zA Z) sr s.heap (zrm (d + 1)) d 0 0) (hO : ∀ x, zMet l d x) (hret : meth.sig.returnType = ret) (hlocks : meth.locks = false) {Q : zP} {K : zK} {nx : zX} {pc x y z : Nat} {v : Int} {lx : List Nat} (hck : zechk own cc ret cd (.ireturn, pc, x, y, z, v, lx) = true)
    (hK : ∀ t ls st g, K t ls st g → ∀ e', cd[t]? = some e' → zGo p l e s m args below meth c (zEnd below Z sr Q args s) Z (zA Z) s.heap sr (zrm (d + 1)) 0 0 nL e'.2.1 ls st g)
    (hn : ∀ ls st g, nx ls st g → zGo p l e s m args below meth c (zEnd below Z sr Q args s) Z (zA Z) s.heap sr (zrm (d + 1)) 0 0 nL (pc + 1) ls st g)
    {ls st : List zV} {g : zM} (h : ystep (yC d) Q K (.ireturn, pc, x, y, z, v, lx) nx ls st g) : zGo p l e s m args below meth c (zEnd below Z sr Q args s) Z (zA Z) s.heap sr (zrm (d + 1)) 0 0 nL pc ls st g := by
  obtain ⟨hx, hb, hml, hown, hts, ⟨hKK, hN⟩, hin, hA, hRm, hSc, hScA⟩ := id hF
  have hD : ∀ g, va_D (zA Z) (zws Z g) := fun g => zws_D hin hA
  have hck := hck
  simp only [zechk, zlen, Bool.and_eq_true, and_true] at hck
  intro real H locs hls hW
  rcases st with _ | ⟨a | a | a | a, _ | ⟨b, r⟩⟩ <;> first | exact False.elim h | skip
  obtain ⟨⟨h1, h2⟩, h3⟩ := h
  obtain ⟨hd, hr, hx3⟩ := hck
  have hdg := of_decide_eq_true hd
  have hr := hret.trans (of_decide_eq_true hr)
  have hx3 := of_decide_eq_true hx3
  have go : ∀ ty, meth.sig.returnType = some ty → narrow ty (.int (zJ a)) = .int (zJ a) → W p l e (zrm (d + 1)) s m args below meth c H locs 0 0 (zEnd below Z sr Q args s) (F0 m pc real [.int (zJ a)]) := by
    intro ty hty hna
    exact W.zret hx hb hty hna (fun t ht _ => ⟨⟨some (zI a), g, rfl, h3, by rw [ht]; exact hW.1, hW.2.2⟩, hW.2.1.F ht⟩) hW.2.1.2.2 hdg hlocks
  rcases x with _ | _ | _ | x
  · exact go _ hr rfl
  · exact go _ hr (zlow_b (h1 rfl)).1
  · exact go _ hr (zlow_c (h2 rfl)).1
  · omega
set_option maxHeartbeats 1000000 in
theorem zs_areturn (hF : zFr p s m args c cc own nL Z (zA Z) sr s.heap (zrm (d + 1)) d 0 0) (hO : ∀ x, zMet l d x) (hret : meth.sig.returnType = ret) (hlocks : meth.locks = false) {Q : zP} {K : zK} {nx : zX} {pc x y z : Nat} {v : Int} {lx : List Nat} (hck : zechk own cc ret cd (.areturn, pc, x, y, z, v, lx) = true)
    (hK : ∀ t ls st g, K t ls st g → ∀ e', cd[t]? = some e' → zGo p l e s m args below meth c (zEnd below Z sr Q args s) Z (zA Z) s.heap sr (zrm (d + 1)) 0 0 nL e'.2.1 ls st g)
    (hn : ∀ ls st g, nx ls st g → zGo p l e s m args below meth c (zEnd below Z sr Q args s) Z (zA Z) s.heap sr (zrm (d + 1)) 0 0 nL (pc + 1) ls st g)
    {ls st : List zV} {g : zM} (h : ystep (yC d) Q K (.areturn, pc, x, y, z, v, lx) nx ls st g) : zGo p l e s m args below meth c (zEnd below Z sr Q args s) Z (zA Z) s.heap sr (zrm (d + 1)) 0 0 nL pc ls st g := by
  obtain ⟨hx, hb, hml, hown, hts, ⟨hKK, hN⟩, hin, hA, hRm, hSc, hScA⟩ := id hF
  have hD : ∀ g, va_D (zA Z) (zws Z g) := fun g => zws_D hin hA
  have hck := hck
  simp only [zechk, zlen, Bool.and_eq_true, and_true] at hck
  intro real H locs hls hW
  rcases st with _ | ⟨a | a | a | a, _ | ⟨b, r⟩⟩ <;> first | exact False.elim h | skip
  have hr := hret.trans (of_decide_eq_true hck.2)
  exact W.aret hx hb hr (Or.inl ⟨_, rfl⟩) (by cases a with
    | none => exact Or.inl rfl
    | some k => exact Or.inr ⟨_, rfl⟩) (fun t ht _ => ⟨⟨some (Sum.inr (Sum.inl a)), g, rfl, h.2, by rw [ht]; exact hW.1, hW.2.2⟩, hW.2.1.F ht⟩) hW.2.1.2.2 (of_decide_eq_true hck.1) hlocks
set_option maxHeartbeats 1000000 in
theorem zs_return_ (hF : zFr p s m args c cc own nL Z (zA Z) sr s.heap (zrm (d + 1)) d 0 0) (hO : ∀ x, zMet l d x) (hret : meth.sig.returnType = ret) (hlocks : meth.locks = false) {Q : zP} {K : zK} {nx : zX} {pc x y z : Nat} {v : Int} {lx : List Nat} (hck : zechk own cc ret cd (.return_, pc, x, y, z, v, lx) = true)
    (hK : ∀ t ls st g, K t ls st g → ∀ e', cd[t]? = some e' → zGo p l e s m args below meth c (zEnd below Z sr Q args s) Z (zA Z) s.heap sr (zrm (d + 1)) 0 0 nL e'.2.1 ls st g)
    (hn : ∀ ls st g, nx ls st g → zGo p l e s m args below meth c (zEnd below Z sr Q args s) Z (zA Z) s.heap sr (zrm (d + 1)) 0 0 nL (pc + 1) ls st g)
    {ls st : List zV} {g : zM} (h : ystep (yC d) Q K (.return_, pc, x, y, z, v, lx) nx ls st g) : zGo p l e s m args below meth c (zEnd below Z sr Q args s) Z (zA Z) s.heap sr (zrm (d + 1)) 0 0 nL pc ls st g := by
  obtain ⟨hx, hb, hml, hown, hts, ⟨hKK, hN⟩, hin, hA, hRm, hSc, hScA⟩ := id hF
  have hD : ∀ g, va_D (zA Z) (zws Z g) := fun g => zws_D hin hA
  have hck := hck
  simp only [zechk, zlen, Bool.and_eq_true, and_true] at hck
  intro real H locs hls hW
  rcases st with _ | ⟨b, r⟩ <;> first | exact False.elim h | skip
  have hr := hret.trans (of_decide_eq_true hck.2)
  exact W.vret hx hb hr (fun t ht _ => ⟨⟨none, g, rfl, h.2, by rw [ht]; exact hW.1, hW.2.2⟩, hW.2.1.F ht⟩) hW.2.1.2.2 (of_decide_eq_true hck.1) hlocks
set_option maxHeartbeats 1000000 in
theorem zs_pop (hF : zFr p s m args c cc own nL Z A0 sr H0 R d cells slots) (hO : ∀ x, zMet l d x) {Q : zP} {K : zK} {nx : zX} {pc x y z : Nat} {v : Int} {lx : List Nat} (hck : zechk own cc ret cd (.pop, pc, x, y, z, v, lx) = true)
    (hK : ∀ t ls st g, K t ls st g → ∀ e', cd[t]? = some e' → zGo p l e s m args below meth c Qw Z A0 H0 sr R cells slots nL e'.2.1 ls st g)
    (hn : ∀ ls st g, nx ls st g → zGo p l e s m args below meth c Qw Z A0 H0 sr R cells slots nL (pc + 1) ls st g)
    {ls st : List zV} {g : zM} (h : ystep (yC d) Q K (.pop, pc, x, y, z, v, lx) nx ls st g) : zGo p l e s m args below meth c Qw Z A0 H0 sr R cells slots nL pc ls st g := by
  obtain ⟨hx, hb, hml, hown, hts, ⟨hKK, hN⟩, hin, hA, hRm, hSc, hScA⟩ := id hF
  have hD : ∀ g, va_D A0 (zws Z g) := fun g => zws_D hin hA
  have hck := hck
  simp only [zechk, zlen, Bool.and_eq_true, and_true] at hck
  intro real H locs hls hW
  rcases st with _ | ⟨a | a | a | a, r⟩ <;> first | exact False.elim h | skip
  exact lv_pop hx hb (of_decide_eq_true hck) rfl (hn _ _ _ h real H locs hls hW)
end ZT
