/-! A SMALL MACHINE of whole numbers (saload: the script, cell 72, as the law's own reader answers): values, memory, one step, straight runs, and what holds of a method (by depth of calls). Sets of rows: z.. -/
abbrev zV : Type := Int ⊕ Option Nat ⊕ Int ⊕ Unit
abbrev zI (x : Int) : zV := Sum.inl x
abbrev zR (k : Nat) : zV := Sum.inr (Sum.inl (some k))
abbrev zNl : zV := Sum.inr (Sum.inl none)
abbrev zL (x : Int) : zV := Sum.inr (Sum.inr (Sum.inl x))
abbrev zU : zV := Sum.inr (Sum.inr (Sum.inr ()))
abbrev zM : Type := Nat → Int → Int
abbrev zE : Type := Instr × Nat × Nat × Nat × Nat × Int × List Nat
abbrev zP : Type := Option zV → zM → Prop
abbrev zK : Type := Nat → List zV → List zV → zM → Prop
abbrev zX : Type := List zV → List zV → zM → Prop
abbrev zO : Type := Nat → List zV → zM → zP → Prop
/-- a number of 32 bits -/
abbrev zin (x : Int) : Prop := -2147483648 ≤ x ∧ x < 2147483648
def zJ (x : Int) : Int32 := Int32.ofInt x
def zJL (x : Int) : Int64 := Int64.ofInt x
def zand (x y : Int) : Int := (zJ x &&& zJ y).toInt
def zor (x y : Int) : Int := (zJ x ||| zJ y).toInt
def zxor (x y : Int) : Int := (zJ x ^^^ zJ y).toInt
def zshl (x y : Int) : Int := (zJ x <<< (zJ y &&& 31)).toInt
def zshr (x y : Int) : Int := (zJ x >>> (zJ y &&& 31)).toInt
def zushr (x y : Int) : Int := (((zJ x).toUInt32 >>> ((zJ y).toUInt32 &&& Int32.toUInt32 31)).toInt32).toInt
def zdiv (x y : Int) : Int := (zJ x / zJ y).toInt
def zrem (x y : Int) : Int := (zJ x - zJ x / zJ y * zJ y).toInt
def zi2l (x : Int) : Int := (zJ x).toInt64.toInt
def zl2i (x : Int) : Int := (zJL x).toInt32.toInt
def zlor (x y : Int) : Int := (zJL x ||| zJL y).toInt
def zland (x y : Int) : Int := (zJL x &&& zJL y).toInt
def zlshl (x y : Int) : Int := (zJL x <<< ((zJ y).toInt64 &&& 63)).toInt
def zlushr (x y : Int) : Int := (((zJL x).toUInt64 >>> ((zJ y).toInt64.toUInt64 &&& Int64.toUInt64 63)).toInt64).toInt
/-- kinds of cells: (0, class), (1, n) ints, (2, n) chars, (3, n) longs, (4, n) states -/
def zkd (k : Nat) : Nat × Nat :=
  if k < 8 then [(0, 5), (0, 1), (4, 4), (0, 4), (2, 80), (1, 12), (1, 12), (1, 12)].getD k (9, 0)
  else if k < 64 then [(0, 3), (0, 0), (1, 12), (1, 12), (1, 12), (1, 12), (0, 2), (3, 400)].getD ((k - 8) % 8) (9, 0)
  else [(0, 6), (1, 2845), (1, 2845), (1, 11380), (1, 2845), (1, 80), (1, 90), (1, 12)].getD (k - 64) (9, 0)
def zup (g : zM) (k : Nat) (i v : Int) : zM := fun k' j => if k' = k ∧ j = i then v else g k' j
def zcpy (g : zM) (a : Nat) (sp : Int) (b : Nat) (dp n : Int) : zM := fun k j => if k = b ∧ dp ≤ j ∧ j < dp + n then g a (sp + (j - dp)) else g k j
def zget : List zV → Nat → (zV → Prop) → Prop
  | [], _, _ => False
  | v :: _, 0, F => F v
  | _ :: l, k + 1, F => zget l k F
def zset : List zV → Nat → zV → (List zV → Prop) → Prop
  | [], _, _, _ => False
  | _ :: l, 0, v, F => F (v :: l)
  | a :: l, k + 1, v, F => zset l k v (fun l' => F (a :: l'))
def zpop : Nat → List zV → List zV → (List zV → List zV → Prop) → Prop
  | 0, st, acc, F => F acc st
  | _ + 1, [], _, _ => False
  | n + 1, v :: st, acc, F => zpop n st (v :: acc) F
def zcat : zV → Nat
  | .inr (.inr (.inl _)) => 2
  | _ => 1
def zwt : List zV → Nat
  | [] => 0
  | v :: l => zcat v + zwt l
def ztab (x i0 : Int) (F : Nat → Prop) : List Nat → Prop
  | [] => True
  | t :: ts => (x = i0 → F t) ∧ ztab x (i0 + 1) F ts
def zint (v : zV) (F : Int → Prop) : Prop := match v with
  | .inl x => F x
  | _ => False
def zref (v : zV) (F : Option Nat → Prop) : Prop := match v with
  | .inr (.inl x) => F x
  | _ => False
def zif (c : Jvm.ClassFile.Cond) (x y : Int) (A B : Prop) : Prop := match c with
  | .eq => (x = y → A) ∧ (¬ x = y → B)
  | .ne => (¬ x = y → A) ∧ (x = y → B)
  | .lt => (x < y → A) ∧ (¬ x < y → B)
  | .ge => (y ≤ x → A) ∧ (¬ y ≤ x → B)
  | .gt => (y < x → A) ∧ (¬ y < x → B)
  | .le => (x ≤ y → A) ∧ (¬ x ≤ y → B)
def zrecv (z : Nat) (as : List zV) : Prop := match as with
  | .inr (.inl (some a)) :: _ => zkd a = (0, z)
  | _ => False
/-- one instruction: what must hold so that the run goes on with nx, or at K, or ends with Ret -/
def zstep (O : zO) (Ret : zP) (K : zK) (e : zE) (nx : zX) (ls st : List zV) (g : zM) : Prop := match e with
  | (ins, _, x, y, z, v, l) => match ins with
    | .iconst n => nx ls (zI n :: st) g
    | .bipush n => nx ls (zI n :: st) g
    | .sipush n => nx ls (zI n :: st) g
    | .ldc _ => nx ls (zI v :: st) g
    | .ldc_w _ => nx ls (zI v :: st) g
    | .ldc2_w _ => nx ls (zL v :: st) g
    | .aconst_null => nx ls (zNl :: st) g
    | .iload_n k => zget ls k.val (fun a => zint a (fun q => nx ls (zI q :: st) g))
    | .iload k => zget ls k (fun a => zint a (fun q => nx ls (zI q :: st) g))
    | .aload_n k => zget ls k.val (fun a => zref a (fun q => nx ls (Sum.inr (Sum.inl q) :: st) g))
    | .aload k => zget ls k (fun a => zref a (fun q => nx ls (Sum.inr (Sum.inl q) :: st) g))
    | .istore_n k => match st with
      | .inl q :: r => zset ls k.val (zI q) (fun ls => nx ls r g)
      | _ => False
    | .istore k => match st with
      | .inl q :: r => zset ls k (zI q) (fun ls => nx ls r g)
      | _ => False
    | .astore_n k => match st with
      | .inr (.inl q) :: r => zset ls k.val (Sum.inr (Sum.inl q)) (fun ls => nx ls r g)
      | _ => False
    | .astore k => match st with
      | .inr (.inl q) :: r => zset ls k (Sum.inr (Sum.inl q)) (fun ls => nx ls r g)
      | _ => False
    | .iinc k n => zget ls k (fun a => zint a (fun q => zset ls k (zI (q + n)) (fun ls => nx ls st g)))
    | .iadd => match st with
      | .inl b :: .inl a :: r => nx ls (zI (a + b) :: r) g
      | _ => False
    | .isub => match st with
      | .inl b :: .inl a :: r => nx ls (zI (a - b) :: r) g
      | _ => False
    | .imul => match st with
      | .inl b :: .inl a :: r => nx ls (zI (a * b) :: r) g
      | _ => False
    | .iand => match st with
      | .inl b :: .inl a :: r => nx ls (zI (zand a b) :: r) g
      | _ => False
    | .ior => match st with
      | .inl b :: .inl a :: r => nx ls (zI (zor a b) :: r) g
      | _ => False
    | .ixor => match st with
      | .inl b :: .inl a :: r => nx ls (zI (zxor a b) :: r) g
      | _ => False
    | .ishl => match st with
      | .inl b :: .inl a :: r => nx ls (zI (zshl a b) :: r) g
      | _ => False
    | .ishr => match st with
      | .inl b :: .inl a :: r => nx ls (zI (zshr a b) :: r) g
      | _ => False
    | .iushr => match st with
      | .inl b :: .inl a :: r => nx ls (zI (zushr a b) :: r) g
      | _ => False
    | .idiv => match st with
      | .inl b :: .inl a :: r => (zin b ∧ b ≠ 0) ∧ nx ls (zI (zdiv a b) :: r) g
      | _ => False
    | .irem => match st with
      | .inl b :: .inl a :: r => (zin b ∧ b ≠ 0) ∧ nx ls (zI (zrem a b) :: r) g
      | _ => False
    | .i2c => match st with
      | .inl a :: r => nx ls (zI (a % 65536) :: r) g
      | _ => False
    | .i2l => match st with
      | .inl a :: r => nx ls (zL (zi2l a) :: r) g
      | _ => False
    | .l2i => match st with
      | .inr (.inr (.inl a)) :: r => nx ls (zI (zl2i a) :: r) g
      | _ => False
    | .lor => match st with
      | .inr (.inr (.inl b)) :: .inr (.inr (.inl a)) :: r => nx ls (zL (zlor a b) :: r) g
      | _ => False
    | .land => match st with
      | .inr (.inr (.inl b)) :: .inr (.inr (.inl a)) :: r => nx ls (zL (zland a b) :: r) g
      | _ => False
    | .lshl => match st with
      | .inl b :: .inr (.inr (.inl a)) :: r => nx ls (zL (zlshl a b) :: r) g
      | _ => False
    | .lushr => match st with
      | .inl b :: .inr (.inr (.inl a)) :: r => nx ls (zL (zlushr a b) :: r) g
      | _ => False
    | .pop => match st with
      | .inl _ :: r => nx ls r g
      | _ => False
    | .dup => match st with
      | .inl a :: r => nx ls (zI a :: zI a :: r) g
      | .inr (.inl a) :: r => nx ls (Sum.inr (Sum.inl a) :: Sum.inr (Sum.inl a) :: r) g
      | _ => False
    | .dup2 => match st with
      | .inl b :: .inr (.inl a) :: r => nx ls (zI b :: Sum.inr (Sum.inl a) :: zI b :: Sum.inr (Sum.inl a) :: r) g
      | _ => False
    | .ifCond c _ => match st with
      | .inl a :: r => zin a ∧ zif c a 0 (K x ls r g) (nx ls r g)
      | _ => False
    | .if_icmp c _ => match st with
      | .inl b :: .inl a :: r => (zin a ∧ zin b) ∧ zif c a b (K x ls r g) (nx ls r g)
      | _ => False
    | .ifnull _ => match st with
      | .inr (.inl none) :: r => K x ls r g
      | .inr (.inl (some _)) :: r => nx ls r g
      | _ => False
    | .goto _ => K x ls st g
    | .tableswitch _ _ _ _ => match st, l with
      | .inl a :: r, t :: ts => zin a ∧ (a < v ∨ v + ts.length ≤ a → K t ls r g) ∧ ztab a v (fun t => K t ls r g) ts
      | _, _ => False
    | .arraylength => match st with
      | .inr (.inl (some a)) :: r => (1 ≤ (zkd a).1 ∧ (zkd a).1 ≤ 4) ∧ nx ls (zI (zkd a).2 :: r) g
      | _ => False
    | .iaload => match st with
      | .inl i :: .inr (.inl (some a)) :: r => ((zkd a).1 = 1 ∧ 0 ≤ i ∧ i < (zkd a).2) ∧ nx ls (zI (g a i) :: r) g
      | _ => False
    | .caload => match st with
      | .inl i :: .inr (.inl (some a)) :: r => ((zkd a).1 = 2 ∧ 0 ≤ i ∧ i < (zkd a).2) ∧ nx ls (zI (g a i) :: r) g
      | _ => False
    | .laload => match st with
      | .inl i :: .inr (.inl (some a)) :: r => ((zkd a).1 = 3 ∧ 0 ≤ i ∧ i < (zkd a).2) ∧ nx ls (zL (g a i) :: r) g
      | _ => False
    | .saload => match st with
      | .inl i :: .inr (.inl (some a)) :: r => (a = 72 ∧ 0 ≤ i ∧ i < 68) ∧ nx ls (zI (g 72 i) :: r) g
      | _ => False
    | .aaload => match st with
      | .inl i :: .inr (.inl (some a)) :: r => (a = 2 ∧ 0 ≤ i ∧ i < 4) ∧ nx ls (zR (32 + 8 * i.toNat) :: r) g
      | _ => False
    | .iastore => match st with
      | .inl w :: .inl i :: .inr (.inl (some a)) :: r => ((zkd a).1 = 1 ∧ 0 ≤ i ∧ i < (zkd a).2) ∧ nx ls r (zup g a i w)
      | _ => False
    | .castore => match st with
      | .inl w :: .inl i :: .inr (.inl (some a)) :: r => ((zkd a).1 = 2 ∧ (0 ≤ i ∧ i < (zkd a).2) ∧ 0 ≤ w ∧ w < 65536) ∧ nx ls r (zup g a i w)
      | _ => False
    | .lastore => match st with
      | .inr (.inr (.inl w)) :: .inl i :: .inr (.inl (some a)) :: r => ((zkd a).1 = 3 ∧ 0 ≤ i ∧ i < (zkd a).2) ∧ nx ls r (zup g a i w)
      | _ => False
    | .getfield _ => match st with
      | .inr (.inl (some a)) :: r => zkd a = (0, x) ∧ match z, l with
        | 0, _ => nx ls (zI (g a y) :: r) g
        | _ + 1, [_] => nx ls (zR (a + z) :: r) g
        | _ + 1, _ => nx ls (zR z :: r) g
      | _ => False
    | .putfield _ => match st with
      | .inl w :: .inr (.inl (some a)) :: r => (zkd a = (0, x) ∧ (v = 2 → w = 0 ∨ w = 1)) ∧ nx ls r (zup g a y w)
      | _ => False
    | .invokevirtual _ => zpop y st [] (fun as r => (zwt r ≤ 8 ∧ zrecv z as) ∧ O x as g (fun o g => match o with
        | none => nx ls r g
        | some w => nx ls (w :: r) g))
    | .invokestatic _ => match z with
      | 2 => match st with
        | .inl n :: .inl dp :: .inr (.inl (some b)) :: .inl sp :: .inr (.inl (some a)) :: r =>
          ((((zkd a).1 = 1 ∧ (zkd b).1 = 1) ∨ ((zkd a).1 = 3 ∧ (zkd b).1 = 3)) ∧ (0 ≤ sp ∧ 0 ≤ dp ∧ 0 ≤ n) ∧ sp + n ≤ (zkd a).2 ∧ dp + n ≤ (zkd b).2) ∧ zwt r ≤ 8 ∧ nx ls r (zcpy g a sp b dp n)
        | _ => False
      | 3 => match st with
        | .inl b :: .inl a :: r => ((zin a ∧ zin b) ∧ zwt r ≤ 8) ∧ nx ls (zI (max a b) :: r) g
        | _ => False
      | 4 => match st with
        | .inl b :: .inl a :: r => ((zin a ∧ zin b) ∧ zwt r ≤ 8) ∧ nx ls (zI (min a b) :: r) g
        | _ => False
      | _ => zpop y st [] (fun as r => zwt r ≤ 8 ∧ O x as g (fun o g => match o with
        | none => nx ls r g
        | some w => nx ls (w :: r) g))
    | .ireturn => match st with
      | .inl a :: [] => ((x = 1 → a = 0 ∨ a = 1) ∧ (x = 2 → 0 ≤ a ∧ a < 65536)) ∧ Ret (some (zI a)) g
      | _ => False
    | .areturn => match st with
      | .inr (.inl a) :: [] => True ∧ Ret (some (Sum.inr (Sum.inl a))) g
      | _ => False
    | .return_ => match st with
      | [] => True ∧ Ret none g
      | _ => False
    | _ => False
def zrun (O : zO) (Ret : zP) (K : zK) (es : List zE) : zX := List.rec (motive := fun _ => zX) (fun _ _ _ => False) (fun e _ ih => zstep O Ret K e ih) es
/-- the least that is closed under straight runs -/
def zW (cd : List zE) (O : zO) (Ret : zP) (t : Nat) (ls st : List zV) (g : zM) : Prop :=
  ∀ P : zK, (∀ t ls st g, zrun O Ret P (cd.drop t) ls st g → P t ls st g) → P t ls st g
def zOm (O : zO) : Prop := ∀ m as g (P P' : zP), (∀ o g, P o g → P' o g) → O m as g P → O m as g P'
theorem zget_mono {F F' : zV → Prop} (hF : ∀ v, F v → F' v) : ∀ (l : List zV) (k : Nat), zget l k F → zget l k F'
  | [], _, h => h
  | _ :: _, 0, h => hF _ h
  | _ :: l, k + 1, h => zget_mono hF l k h
theorem zset_mono : ∀ (l : List zV) (k : Nat) (v : zV) {F F' : List zV → Prop}, (∀ l, F l → F' l) → zset l k v F → zset l k v F'
  | [], _, _, _, _, _, h => h
  | _ :: _, 0, _, _, _, hF, h => hF _ h
  | _ :: l, k + 1, v, _, _, hF, h => zset_mono l k v (fun l' q => hF _ q) h
theorem zpop_mono {F F' : List zV → List zV → Prop} (hF : ∀ a r, F a r → F' a r) : ∀ (n : Nat) (st acc : List zV), zpop n st acc F → zpop n st acc F'
  | 0, _, _, h => hF _ _ h
  | _ + 1, [], _, h => h
  | n + 1, _ :: st, acc, h => zpop_mono hF n st _ h
theorem zint_mono {F F' : Int → Prop} (hF : ∀ v, F v → F' v) : ∀ (v : zV), zint v F → zint v F'
  | .inl _, h => hF _ h
  | .inr _, h => h
theorem zref_mono {F F' : Option Nat → Prop} (hF : ∀ v, F v → F' v) : ∀ (v : zV), zref v F → zref v F'
  | .inr (.inl _), h => hF _ h
  | .inl _, h => h
  | .inr (.inr _), h => h
theorem zif_mono {c : Jvm.ClassFile.Cond} {x y : Int} {A B A' B' : Prop} (hA : A → A') (hB : B → B') (h : zif c x y A B) : zif c x y A' B' := by
  cases c <;> exact ⟨fun q => hA (h.1 q), fun q => hB (h.2 q)⟩
theorem ztab_mono {x : Int} {F F' : Nat → Prop} (hF : ∀ v, F v → F' v) : ∀ (ts : List Nat) (i0 : Int), ztab x i0 F ts → ztab x i0 F' ts
  | [], _, h => h
  | _ :: ts, i0, h => ⟨fun q => hF _ (h.1 q), ztab_mono hF ts (i0 + 1) h.2⟩
set_option maxHeartbeats 2000000 in
theorem zstep_mono {O : zO} {R R' : zP} {K K' : zK} {nx nx' : zX} (hO : zOm O) (hR : ∀ o g, R o g → R' o g) (hK : ∀ t ls st g, K t ls st g → K' t ls st g) (hn : ∀ ls st g, nx ls st g → nx' ls st g) :
    ∀ (e : zE) (ls st : List zV) (g : zM), zstep O R K e nx ls st g → zstep O R' K' e nx' ls st g := by
  intro e ls st g h
  have hcall : ∀ (x : Nat) (as : List zV) (r : List zV) (g : zM), O x as g (fun o g => match o with | none => nx ls r g | some w => nx ls (w :: r) g) → O x as g (fun o g => match o with | none => nx' ls r g | some w => nx' ls (w :: r) g) := by
    intro x as r g h
    refine hO x as g _ _ (fun o g q => ?_) h
    cases o with
    | none => exact hn _ _ _ q
    | some w => exact hn _ _ _ q
  obtain ⟨ins, pc, x, y, z, v, l⟩ := e
  cases ins
  case iload_n k => exact zget_mono (fun a q => zint_mono (fun b q => hn _ _ _ q) a q) ls _ h
  case iload k => exact zget_mono (fun a q => zint_mono (fun b q => hn _ _ _ q) a q) ls _ h
  case aload_n k => exact zget_mono (fun a q => zref_mono (fun b q => hn _ _ _ q) a q) ls _ h
  case aload k => exact zget_mono (fun a q => zref_mono (fun b q => hn _ _ _ q) a q) ls _ h
  case istore_n k => rcases st with _ | ⟨a | a | a | a, r⟩ <;> first | exact False.elim h | exact zset_mono _ _ _ (fun _ q => hn _ _ _ q) h
  case istore k => rcases st with _ | ⟨a | a | a | a, r⟩ <;> first | exact False.elim h | exact zset_mono _ _ _ (fun _ q => hn _ _ _ q) h
  case astore_n k => rcases st with _ | ⟨a | a | a | a, r⟩ <;> first | exact False.elim h | exact zset_mono _ _ _ (fun _ q => hn _ _ _ q) h
  case astore k => rcases st with _ | ⟨a | a | a | a, r⟩ <;> first | exact False.elim h | exact zset_mono _ _ _ (fun _ q => hn _ _ _ q) h
  case iinc k n => exact zget_mono (fun a q => zint_mono (fun b q => zset_mono _ _ _ (fun _ q => hn _ _ _ q) q) a q) ls _ h
  case ifCond c o => rcases st with _ | ⟨a | a | a | a, r⟩ <;> first | exact False.elim h | exact ⟨h.1, zif_mono (hK _ _ _ _) (hn _ _ _) h.2⟩
  case if_icmp c o => rcases st with _ | ⟨a | a | a | a, _ | ⟨b | b | b | b, r⟩⟩ <;> first | exact False.elim h | exact ⟨h.1, zif_mono (hK _ _ _ _) (hn _ _ _) h.2⟩
  case ifnull o => rcases st with _ | ⟨a | (_ | a) | a | a, r⟩ <;> first | exact False.elim h | exact hK _ _ _ _ h | exact hn _ _ _ h
  case goto o => exact hK _ _ _ _ h
  case tableswitch a b c d =>
    rcases st with _ | ⟨a | a | a | a, r⟩ <;> rcases l with _ | ⟨t, ts⟩ <;> first | exact False.elim h | exact ⟨h.1, fun q => hK _ _ _ _ (h.2.1 q), ztab_mono (fun t q => hK _ _ _ _ q) _ _ h.2.2⟩
  case invokevirtual i => exact zpop_mono (fun as r q => ⟨q.1, hcall _ _ _ _ q.2⟩) _ _ _ h
  case invokestatic i =>
    rcases z with _ | _ | _ | _ | _ | z
    · exact zpop_mono (fun as r q => ⟨q.1, hcall _ _ _ _ q.2⟩) _ _ _ h
    · exact zpop_mono (fun as r q => ⟨q.1, hcall _ _ _ _ q.2⟩) _ _ _ h
    · rcases st with _ | ⟨a | a | a | a, _ | ⟨b | b | b | b, _ | ⟨c | (_ | c) | c | c, _ | ⟨d | d | d | d, _ | ⟨e | (_ | e) | e | e, r⟩⟩⟩⟩⟩ <;> first | exact False.elim h | exact ⟨h.1, h.2.1, hn _ _ _ h.2.2⟩
    · rcases st with _ | ⟨a | a | a | a, _ | ⟨b | b | b | b, r⟩⟩ <;> first | exact False.elim h | exact ⟨h.1, hn _ _ _ h.2⟩
    · rcases st with _ | ⟨a | a | a | a, _ | ⟨b | b | b | b, r⟩⟩ <;> first | exact False.elim h | exact ⟨h.1, hn _ _ _ h.2⟩
    · exact zpop_mono (fun as r q => ⟨q.1, hcall _ _ _ _ q.2⟩) _ _ _ h
  case ireturn => rcases st with _ | ⟨a | a | a | a, _ | ⟨b, r⟩⟩ <;> first | exact False.elim h | exact ⟨h.1, hR _ _ h.2⟩
  case areturn => rcases st with _ | ⟨a | a | a | a, _ | ⟨b, r⟩⟩ <;> first | exact False.elim h | exact ⟨h.1, hR _ _ h.2⟩
  case return_ => rcases st with _ | ⟨a, r⟩ <;> first | exact False.elim h | exact ⟨h.1, hR _ _ h.2⟩
  case getfield i =>
    rcases st with _ | ⟨a | (_ | a) | a | a, r⟩ <;> first | exact False.elim h | (rcases z with _ | z <;> rcases l with _ | ⟨l0, _ | ⟨l1, l2⟩⟩ <;> exact ⟨h.1, hn _ _ _ h.2⟩)
  case dup => rcases st with _ | ⟨a | a | a | a, r⟩ <;> first | exact False.elim h | exact hn _ _ _ h
  case iastore => rcases st with _ | ⟨a | a | a | a, _ | ⟨b | b | b | b, _ | ⟨c | (_ | c) | c | c, r⟩⟩⟩ <;> first | exact False.elim h | exact ⟨h.1, hn _ _ _ h.2⟩
  case castore => rcases st with _ | ⟨a | a | a | a, _ | ⟨b | b | b | b, _ | ⟨c | (_ | c) | c | c, r⟩⟩⟩ <;> first | exact False.elim h | exact ⟨h.1, hn _ _ _ h.2⟩
  case lastore => rcases st with _ | ⟨a | a | a | a, _ | ⟨b | b | b | b, _ | ⟨c | (_ | c) | c | c, r⟩⟩⟩ <;> first | exact False.elim h | exact ⟨h.1, hn _ _ _ h.2⟩
  all_goals first
    | exact False.elim h
    | exact hn _ _ _ h
    | (rcases st with _ | ⟨a | (_ | a) | a | a, _ | ⟨b | (_ | b) | b | b, r⟩⟩ <;> first | exact False.elim h | exact hn _ _ _ h | exact ⟨h.1, hn _ _ _ h.2⟩)
theorem zrun_mono {O : zO} {R R' : zP} {K K' : zK} (hO : zOm O) (hR : ∀ o g, R o g → R' o g) (hK : ∀ t ls st g, K t ls st g → K' t ls st g) :
    ∀ (es : List zE) (ls st : List zV) (g : zM), zrun O R K es ls st g → zrun O R' K' es ls st g := by
  intro es
  induction es with
  | nil => exact fun _ _ _ h => h
  | cons e es ih => exact fun ls st g h => zstep_mono hO hR hK ih e ls st g h
/-- one straight run, up to the next jumps: there zW again -/
theorem zW.go {cd : List zE} {O : zO} {Ret : zP} (hO : zOm O) {t : Nat} {ls st : List zV} {g : zM} (h : ∀ K : zK, (∀ t ls st g, zW cd O Ret t ls st g → K t ls st g) → zrun O Ret K (cd.drop t) ls st g) : zW cd O Ret t ls st g := by
  intro P hP
  exact hP _ _ _ _ (zrun_mono hO (fun _ _ q => q) (fun t ls st g q => q P hP) _ _ _ _ (h (zW cd O Ret) (fun _ _ _ _ q => q)))
theorem zW_mono {cd : List zE} {O : zO} {R R' : zP} (hO : zOm O) (hR : ∀ o g, R o g → R' o g) {t : Nat} {ls st : List zV} {g : zM} (h : zW cd O R t ls st g) : zW cd O R' t ls st g :=
  h _ (fun t ls st g q => zW.go hO (fun K hK => zrun_mono hO hR (fun _ _ _ _ q => hK _ _ _ _ q) _ _ _ _ q))
