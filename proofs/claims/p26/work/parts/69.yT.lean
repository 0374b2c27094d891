/-! the machine that is tied to bytecode: only cells below 64 have kinds -/
def ykd (k : Nat) : Nat × Nat := if k < 64 then zkd k else (9, 0)
def yrecv (z : Nat) (as : List zV) : Prop := match as with
  | .inr (.inl (some a)) :: _ => ykd a = (0, z)
  | _ => False
/-- one instruction: what must hold so that the run goes on with nx, or at K, or ends with Ret -/
def ystep (O : zO) (Ret : zP) (K : zK) (e : zE) (nx : zX) (ls st : List zV) (g : zM) : Prop := match e with
  | (ins, _, x, y, z, v, l) => match ins with
    | .iconst n => nx ls (zI n :: st) g
    | .bipush n => nx ls (zI n :: st) g
    | .sipush n => nx ls (zI n :: st) g
    | .ldc _ => nx ls (zI v :: st) g
    | .ldc_w _ => nx ls (zI v :: st) g
    | .ldc2_w _ => nx ls (zL v :: st) g
    | .aconst_null => nx ls (zNl :: st) g
    | .iload_n k => zget ls k.val (fun a => zint a (fun q => nx ls (zI q :: st) g))
    | .iload k => zget ls k (fun a => zint a (fun q => nx ls (zI q :: st) g))
    | .aload_n k => zget ls k.val (fun a => zref a (fun q => nx ls (Sum.inr (Sum.inl q) :: st) g))
    | .aload k => zget ls k (fun a => zref a (fun q => nx ls (Sum.inr (Sum.inl q) :: st) g))
    | .istore_n k => match st with
      | .inl q :: r => zset ls k.val (zI q) (fun ls => nx ls r g)
      | _ => False
    | .istore k => match st with
      | .inl q :: r => zset ls k (zI q) (fun ls => nx ls r g)
      | _ => False
    | .astore_n k => match st with
      | .inr (.inl q) :: r => zset ls k.val (Sum.inr (Sum.inl q)) (fun ls => nx ls r g)
      | _ => False
    | .astore k => match st with
      | .inr (.inl q) :: r => zset ls k (Sum.inr (Sum.inl q)) (fun ls => nx ls r g)
      | _ => False
    | .iinc k n => zget ls k (fun a => zint a (fun q => zset ls k (zI (q + n)) (fun ls => nx ls st g)))
    | .iadd => match st with
      | .inl b :: .inl a :: r => nx ls (zI (a + b) :: r) g
      | _ => False
    | .isub => match st with
      | .inl b :: .inl a :: r => nx ls (zI (a - b) :: r) g
      | _ => False
    | .imul => match st with
      | .inl b :: .inl a :: r => nx ls (zI (a * b) :: r) g
      | _ => False
    | .iand => match st with
      | .inl b :: .inl a :: r => nx ls (zI (zand a b) :: r) g
      | _ => False
    | .ior => match st with
      | .inl b :: .inl a :: r => nx ls (zI (zor a b) :: r) g
      | _ => False
    | .ixor => match st with
      | .inl b :: .inl a :: r => nx ls (zI (zxor a b) :: r) g
      | _ => False
    | .ishl => match st with
      | .inl b :: .inl a :: r => nx ls (zI (zshl a b) :: r) g
      | _ => False
    | .ishr => match st with
      | .inl b :: .inl a :: r => nx ls (zI (zshr a b) :: r) g
      | _ => False
    | .iushr => match st with
      | .inl b :: .inl a :: r => nx ls (zI (zushr a b) :: r) g
      | _ => False
    | .idiv => match st with
      | .inl b :: .inl a :: r => (zin b ∧ b ≠ 0) ∧ nx ls (zI (zdiv a b) :: r) g
      | _ => False
    | .irem => match st with
      | .inl b :: .inl a :: r => (zin b ∧ b ≠ 0) ∧ nx ls (zI (zrem a b) :: r) g
      | _ => False
    | .i2c => match st with
      | .inl a :: r => nx ls (zI (a % 65536) :: r) g
      | _ => False
    | .i2l => match st with
      | .inl a :: r => nx ls (zL (zi2l a) :: r) g
      | _ => False
    | .l2i => match st with
      | .inr (.inr (.inl a)) :: r => nx ls (zI (zl2i a) :: r) g
      | _ => False
    | .lor => match st with
      | .inr (.inr (.inl b)) :: .inr (.inr (.inl a)) :: r => nx ls (zL (zlor a b) :: r) g
      | _ => False
    | .land => match st with
      | .inr (.inr (.inl b)) :: .inr (.inr (.inl a)) :: r => nx ls (zL (zland a b) :: r) g
      | _ => False
    | .lshl => match st with
      | .inl b :: .inr (.inr (.inl a)) :: r => nx ls (zL (zlshl a b) :: r) g
      | _ => False
    | .lushr => match st with
      | .inl b :: .inr (.inr (.inl a)) :: r => nx ls (zL (zlushr a b) :: r) g
      | _ => False
    | .pop => match st with
      | .inl _ :: r => nx ls r g
      | _ => False
    | .dup => match st with
      | .inl a :: r => nx ls (zI a :: zI a :: r) g
      | .inr (.inl a) :: r => nx ls (Sum.inr (Sum.inl a) :: Sum.inr (Sum.inl a) :: r) g
      | _ => False
    | .dup2 => match st with
      | .inl b :: .inr (.inl a) :: r => nx ls (zI b :: Sum.inr (Sum.inl a) :: zI b :: Sum.inr (Sum.inl a) :: r) g
      | _ => False
    | .ifCond c _ => match st with
      | .inl a :: r => zin a ∧ zif c a 0 (K x ls r g) (nx ls r g)
      | _ => False
    | .if_icmp c _ => match st with
      | .inl b :: .inl a :: r => (zin a ∧ zin b) ∧ zif c a b (K x ls r g) (nx ls r g)
      | _ => False
    | .ifnull _ => match st with
      | .inr (.inl none) :: r => K x ls r g
      | .inr (.inl (some _)) :: r => nx ls r g
      | _ => False
    | .goto _ => K x ls st g
    | .tableswitch _ _ _ _ => match st, l with
      | .inl a :: r, t :: ts => zin a ∧ (a < v ∨ v + ts.length ≤ a → K t ls r g) ∧ ztab a v (fun t => K t ls r g) ts
      | _, _ => False
    | .arraylength => match st with
      | .inr (.inl (some a)) :: r => (1 ≤ (ykd a).1 ∧ (ykd a).1 ≤ 4) ∧ nx ls (zI (ykd a).2 :: r) g
      | _ => False
    | .iaload => match st with
      | .inl i :: .inr (.inl (some a)) :: r => ((ykd a).1 = 1 ∧ 0 ≤ i ∧ i < (ykd a).2) ∧ nx ls (zI (g a i) :: r) g
      | _ => False
    | .caload => match st with
      | .inl i :: .inr (.inl (some a)) :: r => ((ykd a).1 = 2 ∧ 0 ≤ i ∧ i < (ykd a).2) ∧ nx ls (zI (g a i) :: r) g
      | _ => False
    | .laload => match st with
      | .inl i :: .inr (.inl (some a)) :: r => ((ykd a).1 = 3 ∧ 0 ≤ i ∧ i < (ykd a).2) ∧ nx ls (zL (g a i) :: r) g
      | _ => False
    | .saload => match st with
      | .inl i :: .inr (.inl (some a)) :: r => (a = 72 ∧ 0 ≤ i ∧ i < 68) ∧ nx ls (zI (g 72 i) :: r) g
      | _ => False
    | .aaload => match st with
      | .inl i :: .inr (.inl (some a)) :: r => (a = 2 ∧ 0 ≤ i ∧ i < 4) ∧ nx ls (zR (32 + 8 * i.toNat) :: r) g
      | _ => False
    | .iastore => match st with
      | .inl w :: .inl i :: .inr (.inl (some a)) :: r => ((ykd a).1 = 1 ∧ 0 ≤ i ∧ i < (ykd a).2) ∧ nx ls r (zup g a i w)
      | _ => False
    | .castore => match st with
      | .inl w :: .inl i :: .inr (.inl (some a)) :: r => ((ykd a).1 = 2 ∧ (0 ≤ i ∧ i < (ykd a).2) ∧ 0 ≤ w ∧ w < 65536) ∧ nx ls r (zup g a i w)
      | _ => False
    | .lastore => match st with
      | .inr (.inr (.inl w)) :: .inl i :: .inr (.inl (some a)) :: r => ((ykd a).1 = 3 ∧ 0 ≤ i ∧ i < (ykd a).2) ∧ nx ls r (zup g a i w)
      | _ => False
    | .getfield _ => match st with
      | .inr (.inl (some a)) :: r => ykd a = (0, x) ∧ match z, l with
        | 0, _ => nx ls (zI (g a y) :: r) g
        | _ + 1, [_] => nx ls (zR (a + z) :: r) g
        | _ + 1, _ => nx ls (zR z :: r) g
      | _ => False
    | .putfield _ => match st with
      | .inl w :: .inr (.inl (some a)) :: r => (ykd a = (0, x) ∧ (v = 2 → w = 0 ∨ w = 1)) ∧ nx ls r (zup g a y w)
      | _ => False
    | .invokevirtual _ => zpop y st [] (fun as r => (zwt r ≤ 8 ∧ yrecv z as) ∧ O x as g (fun o g => match o with
        | none => nx ls r g
        | some w => nx ls (w :: r) g))
    | .invokestatic _ => match z with
      | 2 => match st with
        | .inl n :: .inl dp :: .inr (.inl (some b)) :: .inl sp :: .inr (.inl (some a)) :: r =>
          ((((ykd a).1 = 1 ∧ (ykd b).1 = 1) ∨ ((ykd a).1 = 3 ∧ (ykd b).1 = 3)) ∧ (0 ≤ sp ∧ 0 ≤ dp ∧ 0 ≤ n) ∧ sp + n ≤ (ykd a).2 ∧ dp + n ≤ (ykd b).2) ∧ zwt r ≤ 8 ∧ nx ls r (zcpy g a sp b dp n)
        | _ => False
      | 3 => match st with
        | .inl b :: .inl a :: r => ((zin a ∧ zin b) ∧ zwt r ≤ 8) ∧ nx ls (zI (max a b) :: r) g
        | _ => False
      | 4 => match st with
        | .inl b :: .inl a :: r => ((zin a ∧ zin b) ∧ zwt r ≤ 8) ∧ nx ls (zI (min a b) :: r) g
        | _ => False
      | _ => zpop y st [] (fun as r => zwt r ≤ 8 ∧ O x as g (fun o g => match o with
        | none => nx ls r g
        | some w => nx ls (w :: r) g))
    | .ireturn => match st with
      | .inl a :: [] => ((x = 1 → a = 0 ∨ a = 1) ∧ (x = 2 → 0 ≤ a ∧ a < 65536)) ∧ Ret (some (zI a)) g
      | _ => False
    | .areturn => match st with
      | .inr (.inl a) :: [] => True ∧ Ret (some (Sum.inr (Sum.inl a))) g
      | _ => False
    | .return_ => match st with
      | [] => True ∧ Ret none g
      | _ => False
    | _ => False
def yrun (O : zO) (Ret : zP) (K : zK) (es : List zE) : zX := List.rec (motive := fun _ => zX) (fun _ _ _ => False) (fun e _ ih => ystep O Ret K e ih) es
/-- the least that is closed under straight runs -/
def yW (cd : List zE) (O : zO) (Ret : zP) (t : Nat) (ls st : List zV) (g : zM) : Prop :=
  ∀ P : zK, (∀ t ls st g, yrun O Ret P (cd.drop t) ls st g → P t ls st g) → P t ls st g
set_option maxHeartbeats 2000000 in
theorem ystep_mono {O : zO} {R R' : zP} {K K' : zK} {nx nx' : zX} (hO : zOm O) (hR : ∀ o g, R o g → R' o g) (hK : ∀ t ls st g, K t ls st g → K' t ls st g) (hn : ∀ ls st g, nx ls st g → nx' ls st g) :
    ∀ (e : zE) (ls st : List zV) (g : zM), ystep O R K e nx ls st g → ystep O R' K' e nx' ls st g := by
  intro e ls st g h
  have hcall : ∀ (x : Nat) (as : List zV) (r : List zV) (g : zM), O x as g (fun o g => match o with | none => nx ls r g | some w => nx ls (w :: r) g) → O x as g (fun o g => match o with | none => nx' ls r g | some w => nx' ls (w :: r) g) := by
    intro x as r g h
    refine hO x as g _ _ (fun o g q => ?_) h
    cases o with
    | none => exact hn _ _ _ q
    | some w => exact hn _ _ _ q
  obtain ⟨ins, pc, x, y, z, v, l⟩ := e
  cases ins
  case iload_n k => exact zget_mono (fun a q => zint_mono (fun b q => hn _ _ _ q) a q) ls _ h
  case iload k => exact zget_mono (fun a q => zint_mono (fun b q => hn _ _ _ q) a q) ls _ h
  case aload_n k => exact zget_mono (fun a q => zref_mono (fun b q => hn _ _ _ q) a q) ls _ h
  case aload k => exact zget_mono (fun a q => zref_mono (fun b q => hn _ _ _ q) a q) ls _ h
  case istore_n k => rcases st with _ | ⟨a | a | a | a, r⟩ <;> first | exact False.elim h | exact zset_mono _ _ _ (fun _ q => hn _ _ _ q) h
  case istore k => rcases st with _ | ⟨a | a | a | a, r⟩ <;> first | exact False.elim h | exact zset_mono _ _ _ (fun _ q => hn _ _ _ q) h
  case astore_n k => rcases st with _ | ⟨a | a | a | a, r⟩ <;> first | exact False.elim h | exact zset_mono _ _ _ (fun _ q => hn _ _ _ q) h
  case astore k => rcases st with _ | ⟨a | a | a | a, r⟩ <;> first | exact False.elim h | exact zset_mono _ _ _ (fun _ q => hn _ _ _ q) h
  case iinc k n => exact zget_mono (fun a q => zint_mono (fun b q => zset_mono _ _ _ (fun _ q => hn _ _ _ q) q) a q) ls _ h
  case ifCond c o => rcases st with _ | ⟨a | a | a | a, r⟩ <;> first | exact False.elim h | exact ⟨h.1, zif_mono (hK _ _ _ _) (hn _ _ _) h.2⟩
  case if_icmp c o => rcases st with _ | ⟨a | a | a | a, _ | ⟨b | b | b | b, r⟩⟩ <;> first | exact False.elim h | exact ⟨h.1, zif_mono (hK _ _ _ _) (hn _ _ _) h.2⟩
  case ifnull o => rcases st with _ | ⟨a | (_ | a) | a | a, r⟩ <;> first | exact False.elim h | exact hK _ _ _ _ h | exact hn _ _ _ h
  case goto o => exact hK _ _ _ _ h
  case tableswitch a b c d =>
    rcases st with _ | ⟨a | a | a | a, r⟩ <;> rcases l with _ | ⟨t, ts⟩ <;> first | exact False.elim h | exact ⟨h.1, fun q => hK _ _ _ _ (h.2.1 q), ztab_mono (fun t q => hK _ _ _ _ q) _ _ h.2.2⟩
  case invokevirtual i => exact zpop_mono (fun as r q => ⟨q.1, hcall _ _ _ _ q.2⟩) _ _ _ h
  case invokestatic i =>
    rcases z with _ | _ | _ | _ | _ | z
    · exact zpop_mono (fun as r q => ⟨q.1, hcall _ _ _ _ q.2⟩) _ _ _ h
    · exact zpop_mono (fun as r q => ⟨q.1, hcall _ _ _ _ q.2⟩) _ _ _ h
    · rcases st with _ | ⟨a | a | a | a, _ | ⟨b | b | b | b, _ | ⟨c | (_ | c) | c | c, _ | ⟨d | d | d | d, _ | ⟨e | (_ | e) | e | e, r⟩⟩⟩⟩⟩ <;> first | exact False.elim h | exact ⟨h.1, h.2.1, hn _ _ _ h.2.2⟩
    · rcases st with _ | ⟨a | a | a | a, _ | ⟨b | b | b | b, r⟩⟩ <;> first | exact False.elim h | exact ⟨h.1, hn _ _ _ h.2⟩
    · rcases st with _ | ⟨a | a | a | a, _ | ⟨b | b | b | b, r⟩⟩ <;> first | exact False.elim h | exact ⟨h.1, hn _ _ _ h.2⟩
    · exact zpop_mono (fun as r q => ⟨q.1, hcall _ _ _ _ q.2⟩) _ _ _ h
  case ireturn => rcases st with _ | ⟨a | a | a | a, _ | ⟨b, r⟩⟩ <;> first | exact False.elim h | exact ⟨h.1, hR _ _ h.2⟩
  case areturn => rcases st with _ | ⟨a | a | a | a, _ | ⟨b, r⟩⟩ <;> first | exact False.elim h | exact ⟨h.1, hR _ _ h.2⟩
  case return_ => rcases st with _ | ⟨a, r⟩ <;> first | exact False.elim h | exact ⟨h.1, hR _ _ h.2⟩
  case getfield i =>
    rcases st with _ | ⟨a | (_ | a) | a | a, r⟩ <;> first | exact False.elim h | (rcases z with _ | z <;> rcases l with _ | ⟨l0, _ | ⟨l1, l2⟩⟩ <;> exact ⟨h.1, hn _ _ _ h.2⟩)
  case dup => rcases st with _ | ⟨a | a | a | a, r⟩ <;> first | exact False.elim h | exact hn _ _ _ h
  case iastore => rcases st with _ | ⟨a | a | a | a, _ | ⟨b | b | b | b, _ | ⟨c | (_ | c) | c | c, r⟩⟩⟩ <;> first | exact False.elim h | exact ⟨h.1, hn _ _ _ h.2⟩
  case castore => rcases st with _ | ⟨a | a | a | a, _ | ⟨b | b | b | b, _ | ⟨c | (_ | c) | c | c, r⟩⟩⟩ <;> first | exact False.elim h | exact ⟨h.1, hn _ _ _ h.2⟩
  case lastore => rcases st with _ | ⟨a | a | a | a, _ | ⟨b | b | b | b, _ | ⟨c | (_ | c) | c | c, r⟩⟩⟩ <;> first | exact False.elim h | exact ⟨h.1, hn _ _ _ h.2⟩
  all_goals first
    | exact False.elim h
    | exact hn _ _ _ h
    | (rcases st with _ | ⟨a | (_ | a) | a | a, _ | ⟨b | (_ | b) | b | b, r⟩⟩ <;> first | exact False.elim h | exact hn _ _ _ h | exact ⟨h.1, hn _ _ _ h.2⟩)
theorem yrun_mono {O : zO} {R R' : zP} {K K' : zK} (hO : zOm O) (hR : ∀ o g, R o g → R' o g) (hK : ∀ t ls st g, K t ls st g → K' t ls st g) :
    ∀ (es : List zE) (ls st : List zV) (g : zM), yrun O R K es ls st g → yrun O R' K' es ls st g := by
  intro es
  induction es with
  | nil => exact fun _ _ _ h => h
  | cons e es ih => exact fun ls st g h => ystep_mono hO hR hK ih e ls st g h
/-- one straight run, up to the next jumps: there yW again -/
theorem yW.go {cd : List zE} {O : zO} {Ret : zP} (hO : zOm O) {t : Nat} {ls st : List zV} {g : zM} (h : ∀ K : zK, (∀ t ls st g, yW cd O Ret t ls st g → K t ls st g) → yrun O Ret K (cd.drop t) ls st g) : yW cd O Ret t ls st g := by
  intro P hP
  exact hP _ _ _ _ (yrun_mono hO (fun _ _ q => q) (fun t ls st g q => q P hP) _ _ _ _ (h (yW cd O Ret) (fun _ _ _ _ q => q)))
theorem yW_mono {cd : List zE} {O : zO} {R R' : zP} (hO : zOm O) (hR : ∀ o g, R o g → R' o g) {t : Nat} {ls st : List zV} {g : zM} (h : yW cd O R t ls st g) : yW cd O R' t ls st g :=
  h _ (fun t ls st g q => yW.go hO (fun K hK => yrun_mono hO hR (fun _ _ _ _ q => hK _ _ _ _ q) _ _ _ _ q))
/-- what holds of method m with calls at most d deep: from these arguments and this memory it ends with Q -/
def yC : Nat → zO
  | 0 => fun _ _ _ _ => False
  | d + 1 => fun m as g Q => ∃ M : List zE × Nat × Nat, zMT[m]? = some M ∧ (as.length = M.2.1 ∧ as.all (fun v => zcat v == 1) = true) ∧ yW M.1 (yC d) Q 0 (as ++ List.replicate (M.2.2 - M.2.1) zU) [] g
theorem yC_om : ∀ d, zOm (yC d)
  | 0 => fun _ _ _ _ _ _ h => h
  | d + 1 => fun _ _ _ _ _ hP h => by
    obtain ⟨M, h1, h2, h3⟩ := h
    exact ⟨M, h1, h2, yW_mono (yC_om d) hP h3⟩

/-! what holds in the small machine holds in this one, for code that keeps to such cells -/
def yok (v : zV) : Prop := match v with
  | .inr (.inl (some a)) => a < 64 ∨ a = 72
  | _ => True
def yoks (l : List zV) : Prop := ∀ v ∈ l, yok v
def yoo (o : Option zV) : Prop := ∀ v, o = some v → yok v
def yreal (x : Nat) : Bool := decide (x < 87) || decide (148 ≤ x)
def yrchk (e : zE) : Bool := match e with
  | (ins, _, x, y, z, v, l) => match ins with
    | .getfield _ => match z, l with
      | 0, _ => true
      | _ + 1, [_] => (List.range 64).all (fun a => decide (zkd a = (0, x)) == false || decide (a + z < 64))
      | _ + 1, _ => decide (z < 64)
    | .invokevirtual _ => yreal x
    | .invokestatic _ => match z with
      | 2 => true
      | 3 => true
      | 4 => true
      | _ => yreal x
    | _ => true
theorem ykd_ok {a : Nat} (h : yok (zR a)) : ykd a = zkd a := by
  rcases h with h | h
  · unfold ykd
    rw [if_pos h]
  · subst h
    rfl
theorem yoks_nil : yoks [] := fun v h => absurd h List.not_mem_nil
theorem yoks_cons {v : zV} {l : List zV} : yoks (v :: l) ↔ yok v ∧ yoks l := ⟨fun h => ⟨h v List.mem_cons_self, fun w hw => h w (List.mem_cons_of_mem _ hw)⟩, fun h w hw => by
  rcases List.mem_cons.mp hw with q | q
  · rw [q]; exact h.1
  · exact h.2 w q⟩
theorem yok_I (x : Int) : yok (zI x) := trivial
theorem yok_L (x : Int) : yok (zL x) := trivial
theorem zget_ok {F F' : zV → Prop} : ∀ (l : List zV) (k : Nat), yoks l → (∀ v, yok v → F v → F' v) → zget l k F → zget l k F'
  | [], _, _, _, h => h
  | _ :: _, 0, hl, hF, h => hF _ (yoks_cons.mp hl).1 h
  | _ :: l, k + 1, hl, hF, h => zget_ok l k (yoks_cons.mp hl).2 hF h
theorem zset_ok : ∀ (l : List zV) (k : Nat) (v : zV) {F F' : List zV → Prop}, yoks l → yok v → (∀ l, yoks l → F l → F' l) → zset l k v F → zset l k v F'
  | [], _, _, _, _, _, _, _, h => h
  | _ :: l, 0, v, _, _, hl, hv, hF, h => hF _ (yoks_cons.mpr ⟨hv, (yoks_cons.mp hl).2⟩) h
  | a :: l, k + 1, v, _, _, hl, hv, hF, h => zset_ok l k v (yoks_cons.mp hl).2 hv (fun l' hl' q => hF _ (yoks_cons.mpr ⟨(yoks_cons.mp hl).1, hl'⟩) q) h
theorem zpop_ok {F F' : List zV → List zV → Prop} (hF : ∀ a r, yoks a → yoks r → F a r → F' a r) : ∀ (n : Nat) (st acc : List zV), yoks st → yoks acc → zpop n st acc F → zpop n st acc F'
  | 0, _, _, h1, h2, h => hF _ _ h2 h1 h
  | _ + 1, [], _, _, _, h => h
  | n + 1, _ :: st, acc, h1, h2, h => zpop_ok hF n st _ (yoks_cons.mp h1).2 (yoks_cons.mpr ⟨(yoks_cons.mp h1).1, h2⟩) h
theorem yrecv_of {z : Nat} {as : List zV} (h : yoks as) (hr : zrecv z as) : yrecv z as := by
  rcases as with _ | ⟨v | (_ | a) | v | v, l⟩ <;> first | exact hr.elim | skip
  show ykd a = (0, z)
  rw [ykd_ok (yoks_cons.mp h).1]
  exact hr
def yOT (O O' : zO) : Prop := ∀ m as g (P : zP), yreal m = true → yoks as → O m as g P → O' m as g (fun o g' => P o g' ∧ yoo o)
set_option maxHeartbeats 4000000 in
theorem ystep_of {O O' : zO} {R R' : zP} {K K' : zK} {nx nx' : zX} (hO : yOT O O') (hO' : zOm O') (hR : ∀ o g, yoo o → R o g → R' o g) (hK : ∀ t ls st g, yoks ls → yoks st → K t ls st g → K' t ls st g) (hn : ∀ ls st g, yoks ls → yoks st → nx ls st g → nx' ls st g) :
    ∀ (e : zE) (ls st : List zV) (g : zM), yrchk e = true → yoks ls → yoks st → zstep O R K e nx ls st g → ystep O' R' K' e nx' ls st g := by
  intro e ls st g hck hl hs h
  have hcall : ∀ (x : Nat) (as : List zV) (r : List zV) (g : zM), yreal x = true → yoks as → yoks r → O x as g (fun o g => match o with | none => nx ls r g | some w => nx ls (w :: r) g) → O' x as g (fun o g => match o with | none => nx' ls r g | some w => nx' ls (w :: r) g) := by
    intro x as r g hx ha hr h
    refine hO' _ _ _ _ _ (fun o g q => ?_) (hO x as g _ hx ha h)
    obtain ⟨q1, q2⟩ := q
    cases o with
    | none => exact hn _ _ _ hl hr q1
    | some w => exact hn _ _ _ hl (yoks_cons.mpr ⟨q2 w rfl, hr⟩) q1
  obtain ⟨ins, pc, x, y, z, v, l⟩ := e
  have hsI : ∀ (q : Int) (r : List zV), yoks r → yoks (zI q :: r) := fun q r hr => yoks_cons.mpr ⟨trivial, hr⟩
  have hsL : ∀ (q : Int) (r : List zV), yoks r → yoks (zL q :: r) := fun q r hr => yoks_cons.mpr ⟨trivial, hr⟩
  cases ins
  case iload_n k => exact zget_ok ls _ hl (fun a _ q => zint_mono (fun b q => hn _ _ _ hl (hsI _ _ hs) q) a q) h
  case iload k => exact zget_ok ls _ hl (fun a _ q => zint_mono (fun b q => hn _ _ _ hl (hsI _ _ hs) q) a q) h
  case aload_n k =>
    refine zget_ok ls _ hl (fun a ha q => ?_) h
    rcases a with a | a | a | a <;> first | exact q.elim | exact hn _ _ _ hl (yoks_cons.mpr ⟨ha, hs⟩) q
  case aload k =>
    refine zget_ok ls _ hl (fun a ha q => ?_) h
    rcases a with a | a | a | a <;> first | exact q.elim | exact hn _ _ _ hl (yoks_cons.mpr ⟨ha, hs⟩) q
  case istore_n k => rcases st with _ | ⟨a | a | a | a, r⟩ <;> first | exact False.elim h | exact zset_ok _ _ _ hl (yok_I _) (fun _ hl' q => hn _ _ _ hl' (yoks_cons.mp hs).2 q) h
  case istore k => rcases st with _ | ⟨a | a | a | a, r⟩ <;> first | exact False.elim h | exact zset_ok _ _ _ hl (yok_I _) (fun _ hl' q => hn _ _ _ hl' (yoks_cons.mp hs).2 q) h
  case astore_n k => rcases st with _ | ⟨a | a | a | a, r⟩ <;> first | exact False.elim h | exact zset_ok _ _ _ hl (yoks_cons.mp hs).1 (fun _ hl' q => hn _ _ _ hl' (yoks_cons.mp hs).2 q) h
  case astore k => rcases st with _ | ⟨a | a | a | a, r⟩ <;> first | exact False.elim h | exact zset_ok _ _ _ hl (yoks_cons.mp hs).1 (fun _ hl' q => hn _ _ _ hl' (yoks_cons.mp hs).2 q) h
  case iinc k n => exact zget_ok ls _ hl (fun a _ q => zint_mono (fun b q => zset_ok _ _ _ hl (yok_I _) (fun _ hl' q => hn _ _ _ hl' hs q) q) a q) h
  case ifCond c o => rcases st with _ | ⟨a | a | a | a, r⟩ <;> first | exact False.elim h | exact ⟨h.1, zif_mono (hK _ _ _ _ hl (yoks_cons.mp hs).2) (hn _ _ _ hl (yoks_cons.mp hs).2) h.2⟩
  case if_icmp c o => rcases st with _ | ⟨a | a | a | a, _ | ⟨b | b | b | b, r⟩⟩ <;> first | exact False.elim h | exact ⟨h.1, zif_mono (hK _ _ _ _ hl (yoks_cons.mp (yoks_cons.mp hs).2).2) (hn _ _ _ hl (yoks_cons.mp (yoks_cons.mp hs).2).2) h.2⟩
  case ifnull o => rcases st with _ | ⟨a | (_ | a) | a | a, r⟩ <;> first | exact False.elim h | exact hK _ _ _ _ hl (yoks_cons.mp hs).2 h | exact hn _ _ _ hl (yoks_cons.mp hs).2 h
  case goto o => exact hK _ _ _ _ hl hs h
  case tableswitch a b c d =>
    rcases st with _ | ⟨a | a | a | a, r⟩ <;> rcases l with _ | ⟨t, ts⟩ <;> first | exact False.elim h | exact ⟨h.1, fun q => hK _ _ _ _ hl (yoks_cons.mp hs).2 (h.2.1 q), ztab_mono (fun t q => hK _ _ _ _ hl (yoks_cons.mp hs).2 q) _ _ h.2.2⟩
  case invokevirtual i => exact zpop_ok (fun as r ha hr q => ⟨⟨q.1.1, yrecv_of ha q.1.2⟩, hcall _ _ _ _ hck ha hr q.2⟩) _ _ _ hs yoks_nil h
  case invokestatic i =>
    rcases z with _ | _ | _ | _ | _ | z
    · exact zpop_ok (fun as r ha hr q => ⟨q.1, hcall _ _ _ _ hck ha hr q.2⟩) _ _ _ hs yoks_nil h
    · exact zpop_ok (fun as r ha hr q => ⟨q.1, hcall _ _ _ _ hck ha hr q.2⟩) _ _ _ hs yoks_nil h
    · rcases st with _ | ⟨a | a | a | a, _ | ⟨b | b | b | b, _ | ⟨c | (_ | c) | c | c, _ | ⟨d | d | d | d, _ | ⟨e | (_ | e) | e | e, r⟩⟩⟩⟩⟩ <;> first | exact False.elim h | skip
      simp only [yoks_cons] at hs
      obtain ⟨-, -, hc, -, he, hr⟩ := hs
      refine ⟨?_, h.2.1, hn _ _ _ hl hr h.2.2⟩
      rw [ykd_ok hc, ykd_ok he]
      exact h.1
    · rcases st with _ | ⟨a | a | a | a, _ | ⟨b | b | b | b, r⟩⟩ <;> first | exact False.elim h | exact ⟨h.1, hn _ _ _ hl (hsI _ _ (yoks_cons.mp (yoks_cons.mp hs).2).2) h.2⟩
    · rcases st with _ | ⟨a | a | a | a, _ | ⟨b | b | b | b, r⟩⟩ <;> first | exact False.elim h | exact ⟨h.1, hn _ _ _ hl (hsI _ _ (yoks_cons.mp (yoks_cons.mp hs).2).2) h.2⟩
    · exact zpop_ok (fun as r ha hr q => ⟨q.1, hcall _ _ _ _ hck ha hr q.2⟩) _ _ _ hs yoks_nil h
  case ireturn => rcases st with _ | ⟨a | a | a | a, _ | ⟨b, r⟩⟩ <;> first | exact False.elim h | exact ⟨h.1, hR _ _ (fun v hv => by cases hv; trivial) h.2⟩
  case areturn => rcases st with _ | ⟨a | a | a | a, _ | ⟨b, r⟩⟩ <;> first | exact False.elim h | exact ⟨h.1, hR _ _ (fun v hv => by cases hv; exact (yoks_cons.mp hs).1) h.2⟩
  case return_ => rcases st with _ | ⟨a, r⟩ <;> first | exact False.elim h | exact ⟨h.1, hR _ _ (fun v hv => by cases hv) h.2⟩
  case getfield i =>
    rcases st with _ | ⟨a | (_ | a) | a | a, r⟩ <;> first | exact False.elim h | skip
    obtain ⟨ha, hr⟩ := yoks_cons.mp hs
    obtain ⟨h1, h2⟩ := h
    refine ⟨by rw [ykd_ok ha]; exact h1, ?_⟩
    rcases z with _ | z
    · exact hn _ _ _ hl (hsI _ _ hr) h2
    · rcases l with _ | ⟨l0, _ | ⟨l1, l2⟩⟩
      · exact hn _ _ _ hl (yoks_cons.mpr ⟨Or.inl (of_decide_eq_true hck), hr⟩) h2
      · refine hn _ _ _ hl (yoks_cons.mpr ⟨?_, hr⟩) h2
        have ha64 : a < 64 := by
          rcases ha with q | q
          · exact q
          · subst q
            exact absurd (congrArg Prod.fst h1) (show ¬ (9 : Nat) = 0 by decide)
        have := List.all_eq_true.mp hck a (List.mem_range.mpr ha64)
        rw [decide_eq_true h1] at this
        exact Or.inl (by simpa using this)
      · exact hn _ _ _ hl (yoks_cons.mpr ⟨Or.inl (of_decide_eq_true hck), hr⟩) h2
  case putfield i =>
    rcases st with _ | ⟨a | a | a | a, _ | ⟨b | (_ | b) | b | b, r⟩⟩ <;> first | exact False.elim h | skip
    simp only [yoks_cons] at hs
    exact ⟨by rw [ykd_ok hs.2.1]; exact h.1, hn _ _ _ hl hs.2.2 h.2⟩
  case dup => rcases st with _ | ⟨a | (_ | a) | a | a, r⟩ <;> first | exact False.elim h | (simp only [yoks_cons] at hs; exact hn _ _ _ hl (by simp only [yoks_cons]; exact ⟨hs.1, hs⟩) h)
  case dup2 =>
    rcases st with _ | ⟨a | a | a | a, _ | ⟨b | (_ | b) | b | b, r⟩⟩ <;> first | exact False.elim h | (simp only [yoks_cons] at hs; exact hn _ _ _ hl (by simp only [yoks_cons]; exact ⟨hs.1, hs.2.1, hs⟩) h)
  case arraylength =>
    rcases st with _ | ⟨a | (_ | a) | a | a, r⟩ <;> first | exact False.elim h | skip
    obtain ⟨ha, hr⟩ := yoks_cons.mp hs
    show (1 ≤ (ykd a).1 ∧ (ykd a).1 ≤ 4) ∧ nx' ls (zI (ykd a).2 :: r) g
    rw [ykd_ok ha]
    exact ⟨h.1, hn _ _ _ hl (hsI _ _ hr) h.2⟩
  case iaload =>
    rcases st with _ | ⟨a | a | a | a, _ | ⟨b | (_ | b) | b | b, r⟩⟩ <;> first | exact False.elim h | skip
    simp only [yoks_cons] at hs
    exact ⟨by rw [ykd_ok hs.2.1]; exact h.1, hn _ _ _ hl (hsI _ _ hs.2.2) h.2⟩
  case caload =>
    rcases st with _ | ⟨a | a | a | a, _ | ⟨b | (_ | b) | b | b, r⟩⟩ <;> first | exact False.elim h | skip
    simp only [yoks_cons] at hs
    exact ⟨by rw [ykd_ok hs.2.1]; exact h.1, hn _ _ _ hl (hsI _ _ hs.2.2) h.2⟩
  case laload =>
    rcases st with _ | ⟨a | a | a | a, _ | ⟨b | (_ | b) | b | b, r⟩⟩ <;> first | exact False.elim h | skip
    simp only [yoks_cons] at hs
    exact ⟨by rw [ykd_ok hs.2.1]; exact h.1, hn _ _ _ hl (hsL _ _ hs.2.2) h.2⟩
  case saload =>
    rcases st with _ | ⟨a | a | a | a, _ | ⟨b | (_ | b) | b | b, r⟩⟩ <;> first | exact False.elim h | skip
    simp only [yoks_cons] at hs
    exact ⟨h.1, hn _ _ _ hl (hsI _ _ hs.2.2) h.2⟩
  case aaload =>
    rcases st with _ | ⟨a | a | a | a, _ | ⟨b | (_ | b) | b | b, r⟩⟩ <;> first | exact False.elim h | skip
    simp only [yoks_cons] at hs
    exact ⟨h.1, hn _ _ _ hl (yoks_cons.mpr ⟨Or.inl (by have := h.1; omega), hs.2.2⟩) h.2⟩
  case iastore =>
    rcases st with _ | ⟨a | a | a | a, _ | ⟨b | b | b | b, _ | ⟨c | (_ | c) | c | c, r⟩⟩⟩ <;> first | exact False.elim h | skip
    simp only [yoks_cons] at hs
    exact ⟨by rw [ykd_ok hs.2.2.1]; exact h.1, hn _ _ _ hl hs.2.2.2 h.2⟩
  case castore =>
    rcases st with _ | ⟨a | a | a | a, _ | ⟨b | b | b | b, _ | ⟨c | (_ | c) | c | c, r⟩⟩⟩ <;> first | exact False.elim h | skip
    simp only [yoks_cons] at hs
    exact ⟨by rw [ykd_ok hs.2.2.1]; exact h.1, hn _ _ _ hl hs.2.2.2 h.2⟩
  case lastore =>
    rcases st with _ | ⟨a | a | a | a, _ | ⟨b | b | b | b, _ | ⟨c | (_ | c) | c | c, r⟩⟩⟩ <;> first | exact False.elim h | skip
    simp only [yoks_cons] at hs
    exact ⟨by rw [ykd_ok hs.2.2.1]; exact h.1, hn _ _ _ hl hs.2.2.2 h.2⟩
  case pop => rcases st with _ | ⟨a | a | a | a, r⟩ <;> first | exact False.elim h | exact hn _ _ _ hl (yoks_cons.mp hs).2 h
  case aconst_null => exact hn _ _ _ hl (yoks_cons.mpr ⟨trivial, hs⟩) h
  case idiv => rcases st with _ | ⟨a | a | a | a, _ | ⟨b | b | b | b, r⟩⟩ <;> first | exact False.elim h | exact ⟨h.1, hn _ _ _ hl (hsI _ _ (yoks_cons.mp (yoks_cons.mp hs).2).2) h.2⟩
  case irem => rcases st with _ | ⟨a | a | a | a, _ | ⟨b | b | b | b, r⟩⟩ <;> first | exact False.elim h | exact ⟨h.1, hn _ _ _ hl (hsI _ _ (yoks_cons.mp (yoks_cons.mp hs).2).2) h.2⟩
  all_goals first
    | exact False.elim h
    | exact hn _ _ _ hl (hsI _ _ hs) h
    | exact hn _ _ _ hl (hsL _ _ hs) h
    | (rcases st with _ | ⟨a | (_ | a) | a | a, _ | ⟨b | (_ | b) | b | b, r⟩⟩ <;> first | exact False.elim h | exact hn _ _ _ hl (hsI _ _ (yoks_cons.mp hs).2) h | exact hn _ _ _ hl (hsL _ _ (yoks_cons.mp hs).2) h | exact hn _ _ _ hl (hsI _ _ (yoks_cons.mp (yoks_cons.mp hs).2).2) h | exact hn _ _ _ hl (hsL _ _ (yoks_cons.mp (yoks_cons.mp hs).2).2) h)
theorem yrun_of {O O' : zO} {R R' : zP} {K K' : zK} (hO : yOT O O') (hO' : zOm O') (hR : ∀ o g, yoo o → R o g → R' o g) (hK : ∀ t ls st g, yoks ls → yoks st → K t ls st g → K' t ls st g) :
    ∀ (es : List zE) (ls st : List zV) (g : zM), es.all yrchk = true → yoks ls → yoks st → zrun O R K es ls st g → yrun O' R' K' es ls st g := by
  intro es
  induction es with
  | nil => exact fun _ _ _ _ _ _ h => h
  | cons e es ih =>
    intro ls st g hck hl hs h
    rw [List.all_cons, Bool.and_eq_true] at hck
    exact ystep_of hO hO' hR hK (fun ls st g hl hs q => ih ls st g hck.2 hl hs q) e ls st g hck.1 hl hs h
theorem ydrop {cd : List zE} (h : cd.all yrchk = true) (t : Nat) : (cd.drop t).all yrchk = true := List.all_eq_true.mpr (fun e he => List.all_eq_true.mp h e (List.mem_of_mem_drop he))
theorem yW_of {cd : List zE} {O O' : zO} {R R' : zP} (hO : yOT O O') (hO' : zOm O') (hck : cd.all yrchk = true) (hR : ∀ o g, yoo o → R o g → R' o g) {t : Nat} {ls st : List zV} {g : zM} (hl : yoks ls) (hs : yoks st) (h : zW cd O R t ls st g) : yW cd O' R' t ls st g :=
  h (fun t ls st g => yoks ls → yoks st → yW cd O' R' t ls st g) (fun t ls st g q hl hs => yW.go hO' (fun K hK => yrun_of hO hO' hR (fun t ls st g hl hs q => hK _ _ _ _ (q hl hs)) _ _ _ _ (ydrop hck t) hl hs q)) hl hs
def yall : List (List zE × Nat × Nat) := zMT.take 87 ++ zMT.drop 148
theorem yall_ok : yall.all (fun M => M.1.all yrchk) = true := by decide +kernel
theorem yreal_ok {m : Nat} {M : List zE × Nat × Nat} (hm : yreal m = true) (h : zMT[m]? = some M) : M.1.all yrchk = true := by
  refine List.all_eq_true.mp yall_ok M ?_
  unfold yall
  rw [List.mem_append]
  unfold yreal at hm
  rw [Bool.or_eq_true, decide_eq_true_eq, decide_eq_true_eq] at hm
  rcases hm with q | q
  · exact Or.inl (List.mem_of_getElem? (i := m) (by rw [List.getElem?_take, if_pos q]; exact h))
  · refine Or.inr (List.mem_of_getElem? (i := m - 148) ?_)
    rw [List.getElem?_drop, show 148 + (m - 148) = m by omega]
    exact h
/-- what holds in the small machine of a method of the class or of the law holds in the machine that is tied to bytecode -/
theorem yC_of : ∀ d, yOT (zC d) (yC d)
  | 0 => fun _ _ _ _ _ _ h => h.elim
  | d + 1 => fun m as g Q hm ha h => by
    obtain ⟨M, h1, h2, h3⟩ := h
    refine ⟨M, h1, h2, ?_⟩
    refine yW_of (yC_of d) (yC_om d) (yreal_ok hm h1) (fun o g q1 q2 => ⟨q2, q1⟩) (fun v hv => ?_) yoks_nil h3
    rcases List.mem_append.mp hv with q | q
    · exact ha v q
    · rw [List.eq_of_mem_replicate q]
      trivial
