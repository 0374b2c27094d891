/-! the law's loop -/
set_option maxHeartbeats 4000000 in
set_option maxRecDepth 100000 in
theorem law_loop {p : Program} {l : Launch} {e : Env} {s : State} {m : MethodId} {below : List Frame} {meth : Method} {c : Code} {cells slots : Nat} {D : va_G} {C4 : zC4} {b L : Nat} {xs : Nat → Int32} {ad : Nat → Nat} (hF : zLF p s m c b L xs D C4) (hL : L ≤ 2048) (hr : meth.sig.returnType = ret) (hlocks : meth.locks = false) (hroom : cells ≤ 600000 ∧ slots ≤ 7302249) (hin : zinj (D, C4, ad)) (hA : ∀ q, zA (D, C4, ad) q → s.heap.size ≤ q) :
    ∀ (n i : Nat) (g : zM) (H : Heap) (locs : List Loc) (ls : Array Slot), L ≤ i + n → i ≤ 3000 → J g → zWd (D, C4, ad) (fun q : Nat => s.heap.size ≤ q) s.heap g H locs → lv_has ls 4 [(3, .int (zJ (i : Nat))), (0, .ref b), (1, .ref (ad 0)), (2, .ref (ad 64))] → W p l e room_1 s m #[Value.ref b] below meth c H locs cells slots (lw_Z below #[Value.ref b] s) (F0 m 18 ls []) := by
  obtain ⟨hx, hb, hml, hown, hts, hpre, hX, hbl⟩ := id hF
  have hbA : ¬ (fun q : Nat => s.heap.size ≤ q) b := Nat.not_le.mpr hbl
  intro n
  induction n with
  | zero =>
    intro i g H locs ls hn hi3 hJ hW hl
    refine lv_iload_n hx hb d_law_18 rfl (lv_at hl 0 rfl) ?_
    refine lv_aload_n hx hb d_law_19 rfl (lv_at hl 1 rfl) ?_
    refine va_slen hx hb hX hbl hbA hW.2 d_law_20 ?_
    rw [← zJ_nat]
    refine lv_iconst (v := zJ 4) hx hb d_law_21 rfl ?_
    refine lv_isub hx hb d_law_22 ?_
    rw [zJ_sub]
    refine lv_icmp_gt (tgt := 683) hx hb d_law_23 (by decide) (fun h => ?_) (fun h => absurd ((zJ_lt (by omega) (by omega)).mpr (by omega)) h)
    refine lv_iconst (v := 1) hx hb d_law_683 (by decide) ?_
    refine va_forget hW.2.2.2 ?_
    refine W.widen (k := 600000) (n := 7302249) hroom.1 hroom.2 ?_
    exact lw_ret hx hb hr hlocks d_law_684
  | succ n ih =>
    intro i g H locs ls hn hi3 hJ hW hl
    refine lv_iload_n hx hb d_law_18 rfl (lv_at hl 0 rfl) ?_
    refine lv_aload_n hx hb d_law_19 rfl (lv_at hl 1 rfl) ?_
    refine va_slen hx hb hX hbl hbA hW.2 d_law_20 ?_
    rw [← zJ_nat]
    refine lv_iconst (v := zJ 4) hx hb d_law_21 rfl ?_
    refine lv_isub hx hb d_law_22 ?_
    rw [zJ_sub]
    refine lv_icmp_gt (tgt := 683) hx hb d_law_23 (by decide) (fun h => ?_) (fun h => ?_)
    · refine lv_iconst (v := 1) hx hb d_law_683 (by decide) ?_
      refine va_forget hW.2.2.2 ?_
      refine W.widen (k := 600000) (n := 7302249) hroom.1 hroom.2 ?_
      exact lw_ret hx hb hr hlocks d_law_684
    · have hi4 : i + 4 ≤ L := by
        have : ¬ ((L : Int) - 4 < (i : Int)) := fun w => h ((zJ_lt (by omega) (by omega)).mpr w)
        omega
      have next : ∀ (g1 : zM) (H1 : Heap) (locs1 : List Loc), J g1 → zWd (D, C4, ad) (fun q : Nat => s.heap.size ≤ q) s.heap g1 H1 locs1 → W p l e room_1 s m #[Value.ref b] below meth c H1 locs1 cells slots (lw_Z below #[Value.ref b] s) (F0 m 677 ls []) := by
        intro g1 H1 locs1 hJ1 hW1
        refine lv_iinc (v := zJ ((i + 4 : Nat) : Int)) (lv' := [(3, .int (zJ ((i + 4 : Nat) : Int))), (0, .ref b), (1, .ref (ad 0)), (2, .ref (ad 64))]) (k := 0) hx hb d_law_677 hl rfl (zJ_add (i : Int) 4) (by decide) rfl (fun ls1 hl1 => ?_)
        refine lv_goto (tgt := 18) hx hb d_law_680 (by decide) ?_
        exact ih (i + 4) g1 H1 locs1 ls1 (by omega) (by omega) hJ1 hW1 hl1
      refine lv_aload_n hx hb d_law_26 rfl (lv_at hl 1 rfl) ?_
      refine lv_iload_n hx hb d_law_27 rfl (lv_at hl 0 rfl) ?_
      refine va_sld hx hb hX hbl hbA hW.2 (zJ_vpin (by omega) (by omega) (by omega)) d_law_28 ?_
      refine lv_bipush (v := 31) hx hb d_law_29 (by decide) ?_
      refine lv_iand hx hb d_law_31 ?_
      refine lv_topi (fun y hy => ?_)
      by_cases hout : y.toInt < 0 ∨ 22 < y.toInt
      · refine lv_tableOut (tgt := 677) hx hb d_law_32 hout (by decide) ?_
        exact next g H locs hJ hW
      · have z1 := zin_of (xs (i + 1))
        have z2 := zin_of (xs (i + 2))
        have z3 := zin_of (xs (i + 3))
        rcases (show y.toInt = 0 ∨ y.toInt = 1 ∨ y.toInt = 2 ∨ y.toInt = 3 ∨ y.toInt = 4 ∨ y.toInt = 5 ∨ y.toInt = 6 ∨ y.toInt = 7 ∨ y.toInt = 8 ∨ y.toInt = 9 ∨ y.toInt = 10 ∨ y.toInt = 11 ∨ y.toInt = 12 ∨ y.toInt = 13 ∨ y.toInt = 14 ∨ y.toInt = 15 ∨ y.toInt = 16 ∨ y.toInt = 17 ∨ y.toInt = 18 ∨ y.toInt = 19 ∨ y.toInt = 20 ∨ y.toInt = 21 ∨ y.toInt = 22 by omega) with hk | hk | hk | hk | hk | hk | hk | hk | hk | hk | hk | hk | hk | hk | hk | hk | hk | hk | hk | hk | hk | hk | hk
        · refine lv_tableIn (off := 108) (tgt := 140) hx hb d_law_32 (by omega) (by omega) (by rw [hk]; rfl) (by decide) ?_
          refine lv_aload_n hx hb d_law_140 rfl (lv_at hl 2 rfl) ?_
          refine z_larg hF hW.2 (lv_at hl 1 rfl) (lv_at hl 0 rfl) (k := 1) (by omega) hL d_law_141 d_law_142 d_law_143 d_law_144 d_law_145 ?_
          refine z_larg hF hW.2 (lv_at hl 1 rfl) (lv_at hl 0 rfl) (k := 2) (by omega) hL d_law_146 d_law_147 d_law_148 d_law_149 d_law_150 ?_
          refine z_lcall (Z := (D, C4, ad)) hF ⟨rfl, rfl⟩ hin hA (x := 54) (z := 5) (a := 0) (d := 16) (as := [zI (xs (i + 1)).toInt, zI (xs (i + 2)).toInt]) (p_add (d := 8) hJ z1 z2) rfl rfl rfl rfl (zgw_spec (i := 223) (by decide +kernel)) rfl (by omega) hl.1 (Nat.le_of_ble_eq_true rfl) hW d_law_151 hroom (fun o g1 H1 locs1 hQ hW1 => ?_)
          obtain ⟨r, hrr, rfl, hM⟩ := hQ
          refine lv_aload_n hx hb d_law_154 rfl (lv_at hl 3 rfl) ?_
          refine z_larg hF hW1.2 (lv_at hl 1 rfl) (lv_at hl 0 rfl) (k := 1) (by omega) hL d_law_155 d_law_156 d_law_157 d_law_158 d_law_159 ?_
          refine z_larg hF hW1.2 (lv_at hl 1 rfl) (lv_at hl 0 rfl) (k := 2) (by omega) hL d_law_160 d_law_161 d_law_162 d_law_163 d_law_164 ?_
          refine z_lcall (Z := (D, C4, ad)) hF ⟨rfl, rfl⟩ hin hA (x := 118) (z := 6) (a := 64) (d := 16) (as := [zI (xs (i + 1)).toInt, zI (xs (i + 2)).toInt]) hM rfl rfl rfl rfl (zgw_spec (i := 674) (by decide +kernel)) rfl (by omega) hl.1 (Nat.le_of_ble_eq_true rfl) hW1 d_law_165 hroom (fun o2 g2 H2 locs2 hQ2 hW2 => ?_)
          obtain ⟨rfl, hJ2⟩ := hQ2
          exact lv_icmp_eq (tgt := 677) hx hb d_law_168 (by decide) (fun _ => next g2 H2 locs2 hJ2 hW2) (fun h => absurd rfl h)
        · refine lv_tableIn (off := 141) (tgt := 173) hx hb d_law_32 (by omega) (by omega) (by rw [hk]; rfl) (by decide) ?_
          refine lv_aload_n hx hb d_law_173 rfl (lv_at hl 2 rfl) ?_
          refine z_lcall (Z := (D, C4, ad)) hF ⟨rfl, rfl⟩ hin hA (x := 55) (z := 5) (a := 0) (d := 16) (as := []) (p_addAll (d := 8) hJ ) rfl rfl rfl rfl (zgw_spec (i := 321) (by decide +kernel)) rfl (by omega) hl.1 (Nat.le_of_ble_eq_true rfl) hW d_law_174 hroom (fun o g1 H1 locs1 hQ hW1 => ?_)
          obtain ⟨r, hrr, rfl, hM⟩ := hQ
          refine lv_aload_n hx hb d_law_177 rfl (lv_at hl 3 rfl) ?_
          refine z_lcall (Z := (D, C4, ad)) hF ⟨rfl, rfl⟩ hin hA (x := 120) (z := 6) (a := 64) (d := 16) (as := []) hM rfl rfl rfl rfl (zgw_spec (i := 699) (by decide +kernel)) rfl (by omega) hl.1 (Nat.le_of_ble_eq_true rfl) hW1 d_law_178 hroom (fun o2 g2 H2 locs2 hQ2 hW2 => ?_)
          obtain ⟨rfl, hJ2⟩ := hQ2
          exact lv_icmp_eq (tgt := 677) hx hb d_law_181 (by decide) (fun _ => next g2 H2 locs2 hJ2 hW2) (fun h => absurd rfl h)
        · refine lv_tableIn (off := 154) (tgt := 186) hx hb d_law_32 (by omega) (by omega) (by rw [hk]; rfl) (by decide) ?_
          refine lv_aload_n hx hb d_law_186 rfl (lv_at hl 2 rfl) ?_
          refine z_larg hF hW.2 (lv_at hl 1 rfl) (lv_at hl 0 rfl) (k := 1) (by omega) hL d_law_187 d_law_188 d_law_189 d_law_190 d_law_191 ?_
          refine z_lcall (Z := (D, C4, ad)) hF ⟨rfl, rfl⟩ hin hA (x := 56) (z := 5) (a := 0) (d := 16) (as := [zI (xs (i + 1)).toInt]) (p_remove (d := 8) hJ z1) rfl rfl rfl rfl (zgw_spec (i := 353) (by decide +kernel)) rfl (by omega) hl.1 (Nat.le_of_ble_eq_true rfl) hW d_law_192 hroom (fun o g1 H1 locs1 hQ hW1 => ?_)
          obtain ⟨r, hrr, rfl, hM⟩ := hQ
          refine lv_aload_n hx hb d_law_195 rfl (lv_at hl 3 rfl) ?_
          refine z_larg hF hW1.2 (lv_at hl 1 rfl) (lv_at hl 0 rfl) (k := 1) (by omega) hL d_law_196 d_law_197 d_law_198 d_law_199 d_law_200 ?_
          refine z_lcall (Z := (D, C4, ad)) hF ⟨rfl, rfl⟩ hin hA (x := 121) (z := 6) (a := 64) (d := 16) (as := [zI (xs (i + 1)).toInt]) hM rfl rfl rfl rfl (zgw_spec (i := 723) (by decide +kernel)) rfl (by omega) hl.1 (Nat.le_of_ble_eq_true rfl) hW1 d_law_201 hroom (fun o2 g2 H2 locs2 hQ2 hW2 => ?_)
          obtain ⟨rfl, hJ2⟩ := hQ2
          exact lv_icmp_eq (tgt := 677) hx hb d_law_204 (by decide) (fun _ => next g2 H2 locs2 hJ2 hW2) (fun h => absurd rfl h)
        · refine lv_tableIn (off := 177) (tgt := 209) hx hb d_law_32 (by omega) (by omega) (by rw [hk]; rfl) (by decide) ?_
          refine lv_aload_n hx hb d_law_209 rfl (lv_at hl 2 rfl) ?_
          refine z_larg hF hW.2 (lv_at hl 1 rfl) (lv_at hl 0 rfl) (k := 1) (by omega) hL d_law_210 d_law_211 d_law_212 d_law_213 d_law_214 ?_
          refine z_larg hF hW.2 (lv_at hl 1 rfl) (lv_at hl 0 rfl) (k := 2) (by omega) hL d_law_215 d_law_216 d_law_217 d_law_218 d_law_219 ?_
          refine z_larg hF hW.2 (lv_at hl 1 rfl) (lv_at hl 0 rfl) (k := 3) (by omega) hL d_law_220 d_law_221 d_law_222 d_law_223 d_law_224 ?_
          refine z_lbool hF z3 d_law_225 d_law_228 d_law_229 d_law_232 ?_
          refine z_lcall (Z := (D, C4, ad)) hF ⟨rfl, rfl⟩ hin hA (x := 57) (z := 5) (a := 0) (d := 16) (as := [zI (xs (i + 1)).toInt, zI (xs (i + 2)).toInt, zI (if (xs (i + 3)).toInt = 0 then 0 else 1)]) (p_bar (d := 8) hJ z1 z2 (by split <;> simp)) rfl rfl rfl rfl (zgw_spec (i := 365) (by decide +kernel)) rfl (by omega) hl.1 (Nat.le_of_ble_eq_true rfl) hW d_law_233 hroom (fun o g1 H1 locs1 hQ hW1 => ?_)
          obtain ⟨r, hrr, rfl, hM⟩ := hQ
          refine lv_aload_n hx hb d_law_236 rfl (lv_at hl 3 rfl) ?_
          refine z_larg hF hW1.2 (lv_at hl 1 rfl) (lv_at hl 0 rfl) (k := 1) (by omega) hL d_law_237 d_law_238 d_law_239 d_law_240 d_law_241 ?_
          refine z_larg hF hW1.2 (lv_at hl 1 rfl) (lv_at hl 0 rfl) (k := 2) (by omega) hL d_law_242 d_law_243 d_law_244 d_law_245 d_law_246 ?_
          refine z_larg hF hW1.2 (lv_at hl 1 rfl) (lv_at hl 0 rfl) (k := 3) (by omega) hL d_law_247 d_law_248 d_law_249 d_law_250 d_law_251 ?_
          refine z_lbool hF z3 d_law_252 d_law_255 d_law_256 d_law_259 ?_
          refine z_lcall (Z := (D, C4, ad)) hF ⟨rfl, rfl⟩ hin hA (x := 123) (z := 6) (a := 64) (d := 16) (as := [zI (xs (i + 1)).toInt, zI (xs (i + 2)).toInt, zI (if (xs (i + 3)).toInt = 0 then 0 else 1)]) hM rfl rfl rfl rfl (zgw_spec (i := 731) (by decide +kernel)) rfl (by omega) hl.1 (Nat.le_of_ble_eq_true rfl) hW1 d_law_260 hroom (fun o2 g2 H2 locs2 hQ2 hW2 => ?_)
          obtain ⟨rfl, hJ2⟩ := hQ2
          exact lv_icmp_eq (tgt := 677) hx hb d_law_263 (by decide) (fun _ => next g2 H2 locs2 hJ2 hW2) (fun h => absurd rfl h)
        · refine lv_tableIn (off := 236) (tgt := 268) hx hb d_law_32 (by omega) (by omega) (by rw [hk]; rfl) (by decide) ?_
          refine lv_aload_n hx hb d_law_268 rfl (lv_at hl 2 rfl) ?_
          refine z_larg hF hW.2 (lv_at hl 1 rfl) (lv_at hl 0 rfl) (k := 1) (by omega) hL d_law_269 d_law_270 d_law_271 d_law_272 d_law_273 ?_
          refine z_lcall (Z := (D, C4, ad)) hF ⟨rfl, rfl⟩ hin hA (x := 58) (z := 5) (a := 0) (d := 16) (as := [zI (xs (i + 1)).toInt]) (p_setRoom (d := 8) hJ z1) rfl rfl rfl rfl (zgw_spec (i := 381) (by decide +kernel)) rfl (by omega) hl.1 (Nat.le_of_ble_eq_true rfl) hW d_law_274 hroom (fun o g1 H1 locs1 hQ hW1 => ?_)
          obtain ⟨r, hrr, rfl, hM⟩ := hQ
          refine lv_aload_n hx hb d_law_277 rfl (lv_at hl 3 rfl) ?_
          refine z_larg hF hW1.2 (lv_at hl 1 rfl) (lv_at hl 0 rfl) (k := 1) (by omega) hL d_law_278 d_law_279 d_law_280 d_law_281 d_law_282 ?_
          refine z_lcall (Z := (D, C4, ad)) hF ⟨rfl, rfl⟩ hin hA (x := 124) (z := 6) (a := 64) (d := 16) (as := [zI (xs (i + 1)).toInt]) hM rfl rfl rfl rfl (zgw_spec (i := 742) (by decide +kernel)) rfl (by omega) hl.1 (Nat.le_of_ble_eq_true rfl) hW1 d_law_283 hroom (fun o2 g2 H2 locs2 hQ2 hW2 => ?_)
          obtain ⟨rfl, hJ2⟩ := hQ2
          exact lv_icmp_eq (tgt := 677) hx hb d_law_286 (by decide) (fun _ => next g2 H2 locs2 hJ2 hW2) (fun h => absurd rfl h)
        · refine lv_tableIn (off := 259) (tgt := 291) hx hb d_law_32 (by omega) (by omega) (by rw [hk]; rfl) (by decide) ?_
          refine lv_aload_n hx hb d_law_291 rfl (lv_at hl 2 rfl) ?_
          refine z_larg hF hW.2 (lv_at hl 1 rfl) (lv_at hl 0 rfl) (k := 1) (by omega) hL d_law_292 d_law_293 d_law_294 d_law_295 d_law_296 ?_
          refine z_larg hF hW.2 (lv_at hl 1 rfl) (lv_at hl 0 rfl) (k := 2) (by omega) hL d_law_297 d_law_298 d_law_299 d_law_300 d_law_301 ?_
          refine z_lcall (Z := (D, C4, ad)) hF ⟨rfl, rfl⟩ hin hA (x := 59) (z := 5) (a := 0) (d := 16) (as := [zI (xs (i + 1)).toInt, zI (xs (i + 2)).toInt]) (p_set (d := 8) hJ z1 z2) rfl rfl rfl rfl (zgw_spec (i := 385) (by decide +kernel)) rfl (by omega) hl.1 (Nat.le_of_ble_eq_true rfl) hW d_law_302 hroom (fun o g1 H1 locs1 hQ hW1 => ?_)
          obtain ⟨r, hrr, rfl, hM⟩ := hQ
          refine lv_aload_n hx hb d_law_305 rfl (lv_at hl 3 rfl) ?_
          refine z_larg hF hW1.2 (lv_at hl 1 rfl) (lv_at hl 0 rfl) (k := 1) (by omega) hL d_law_306 d_law_307 d_law_308 d_law_309 d_law_310 ?_
          refine z_larg hF hW1.2 (lv_at hl 1 rfl) (lv_at hl 0 rfl) (k := 2) (by omega) hL d_law_311 d_law_312 d_law_313 d_law_314 d_law_315 ?_
          refine z_lcall (Z := (D, C4, ad)) hF ⟨rfl, rfl⟩ hin hA (x := 125) (z := 6) (a := 64) (d := 16) (as := [zI (xs (i + 1)).toInt, zI (xs (i + 2)).toInt]) hM rfl rfl rfl rfl (zgw_spec (i := 746) (by decide +kernel)) rfl (by omega) hl.1 (Nat.le_of_ble_eq_true rfl) hW1 d_law_316 hroom (fun o2 g2 H2 locs2 hQ2 hW2 => ?_)
          obtain ⟨rfl, hJ2⟩ := hQ2
          exact lv_icmp_eq (tgt := 677) hx hb d_law_319 (by decide) (fun _ => next g2 H2 locs2 hJ2 hW2) (fun h => absurd rfl h)
        · refine lv_tableIn (off := 292) (tgt := 324) hx hb d_law_32 (by omega) (by omega) (by rw [hk]; rfl) (by decide) ?_
          refine lv_aload_n hx hb d_law_324 rfl (lv_at hl 2 rfl) ?_
          refine z_lcall (Z := (D, C4, ad)) hF ⟨rfl, rfl⟩ hin hA (x := 60) (z := 5) (a := 0) (d := 16) (as := []) (p_begin (d := 8) hJ ) rfl rfl rfl rfl (zgw_spec (i := 389) (by decide +kernel)) rfl (by omega) hl.1 (Nat.le_of_ble_eq_true rfl) hW d_law_325 hroom (fun o g1 H1 locs1 hQ hW1 => ?_)
          obtain ⟨r, hrr, rfl, hM⟩ := hQ
          refine lv_aload_n hx hb d_law_328 rfl (lv_at hl 3 rfl) ?_
          refine z_lcall (Z := (D, C4, ad)) hF ⟨rfl, rfl⟩ hin hA (x := 126) (z := 6) (a := 64) (d := 16) (as := []) hM rfl rfl rfl rfl (zgw_spec (i := 750) (by decide +kernel)) rfl (by omega) hl.1 (Nat.le_of_ble_eq_true rfl) hW1 d_law_329 hroom (fun o2 g2 H2 locs2 hQ2 hW2 => ?_)
          obtain ⟨rfl, hJ2⟩ := hQ2
          exact lv_icmp_eq (tgt := 677) hx hb d_law_332 (by decide) (fun _ => next g2 H2 locs2 hJ2 hW2) (fun h => absurd rfl h)
        · refine lv_tableIn (off := 305) (tgt := 337) hx hb d_law_32 (by omega) (by omega) (by rw [hk]; rfl) (by decide) ?_
          refine lv_aload_n hx hb d_law_337 rfl (lv_at hl 2 rfl) ?_
          refine z_larg hF hW.2 (lv_at hl 1 rfl) (lv_at hl 0 rfl) (k := 1) (by omega) hL d_law_338 d_law_339 d_law_340 d_law_341 d_law_342 ?_
          refine z_lcall (Z := (D, C4, ad)) hF ⟨rfl, rfl⟩ hin hA (x := 61) (z := 5) (a := 0) (d := 16) (as := [zI (xs (i + 1)).toInt]) (p_step (d := 5) hJ z1) rfl rfl rfl rfl (zgw_spec (i := 434) (by decide +kernel)) rfl (by omega) hl.1 (Nat.le_of_ble_eq_true rfl) hW d_law_343 hroom (fun o g1 H1 locs1 hQ hW1 => ?_)
          obtain ⟨r, hrr, rfl, hM⟩ := hQ
          refine lv_aload_n hx hb d_law_346 rfl (lv_at hl 3 rfl) ?_
          refine z_larg hF hW1.2 (lv_at hl 1 rfl) (lv_at hl 0 rfl) (k := 1) (by omega) hL d_law_347 d_law_348 d_law_349 d_law_350 d_law_351 ?_
          refine z_lcall (Z := (D, C4, ad)) hF ⟨rfl, rfl⟩ hin hA (x := 128) (z := 6) (a := 64) (d := 16) (as := [zI (xs (i + 1)).toInt]) hM rfl rfl rfl rfl (zgw_spec (i := 782) (by decide +kernel)) rfl (by omega) hl.1 (Nat.le_of_ble_eq_true rfl) hW1 d_law_352 hroom (fun o2 g2 H2 locs2 hQ2 hW2 => ?_)
          obtain ⟨rfl, hJ2⟩ := hQ2
          exact lv_icmp_eq (tgt := 677) hx hb d_law_355 (by decide) (fun _ => next g2 H2 locs2 hJ2 hW2) (fun h => absurd rfl h)
        · refine lv_tableIn (off := 328) (tgt := 360) hx hb d_law_32 (by omega) (by omega) (by rw [hk]; rfl) (by decide) ?_
          refine lv_aload_n hx hb d_law_360 rfl (lv_at hl 2 rfl) ?_
          refine z_lcall (Z := (D, C4, ad)) hF ⟨rfl, rfl⟩ hin hA (x := 62) (z := 5) (a := 0) (d := 16) (as := []) (p_dive (d := 5) hJ ) rfl rfl rfl rfl (zgw_spec (i := 491) (by decide +kernel)) rfl (by omega) hl.1 (Nat.le_of_ble_eq_true rfl) hW d_law_361 hroom (fun o g1 H1 locs1 hQ hW1 => ?_)
          obtain ⟨r, hrr, rfl, hM⟩ := hQ
          refine lv_aload_n hx hb d_law_364 rfl (lv_at hl 3 rfl) ?_
          refine z_lcall (Z := (D, C4, ad)) hF ⟨rfl, rfl⟩ hin hA (x := 129) (z := 6) (a := 64) (d := 16) (as := []) hM rfl rfl rfl rfl (zgw_spec (i := 824) (by decide +kernel)) rfl (by omega) hl.1 (Nat.le_of_ble_eq_true rfl) hW1 d_law_365 hroom (fun o2 g2 H2 locs2 hQ2 hW2 => ?_)
          obtain ⟨rfl, hJ2⟩ := hQ2
          exact lv_icmp_eq (tgt := 677) hx hb d_law_368 (by decide) (fun _ => next g2 H2 locs2 hJ2 hW2) (fun h => absurd rfl h)
        · refine lv_tableIn (off := 341) (tgt := 373) hx hb d_law_32 (by omega) (by omega) (by rw [hk]; rfl) (by decide) ?_
          refine lv_aload_n hx hb d_law_373 rfl (lv_at hl 2 rfl) ?_
          refine z_lcall (Z := (D, C4, ad)) hF ⟨rfl, rfl⟩ hin hA (x := 63) (z := 5) (a := 0) (d := 16) (as := []) (p_giveUp (d := 8) hJ ) rfl rfl rfl rfl (zgw_spec (i := 495) (by decide +kernel)) rfl (by omega) hl.1 (Nat.le_of_ble_eq_true rfl) hW d_law_374 hroom (fun o g1 H1 locs1 hQ hW1 => ?_)
          obtain ⟨r, hrr, rfl, hM⟩ := hQ
          refine lv_aload_n hx hb d_law_377 rfl (lv_at hl 3 rfl) ?_
          refine z_lcall (Z := (D, C4, ad)) hF ⟨rfl, rfl⟩ hin hA (x := 130) (z := 6) (a := 64) (d := 16) (as := []) hM rfl rfl rfl rfl (zgw_spec (i := 829) (by decide +kernel)) rfl (by omega) hl.1 (Nat.le_of_ble_eq_true rfl) hW1 d_law_378 hroom (fun o2 g2 H2 locs2 hQ2 hW2 => ?_)
          obtain ⟨rfl, hJ2⟩ := hQ2
          exact lv_icmp_eq (tgt := 677) hx hb d_law_381 (by decide) (fun _ => next g2 H2 locs2 hJ2 hW2) (fun h => absurd rfl h)
        · refine lv_tableIn (off := 354) (tgt := 386) hx hb d_law_32 (by omega) (by omega) (by rw [hk]; rfl) (by decide) ?_
          refine lv_aload_n hx hb d_law_386 rfl (lv_at hl 2 rfl) ?_
          refine z_larg hF hW.2 (lv_at hl 1 rfl) (lv_at hl 0 rfl) (k := 1) (by omega) hL d_law_387 d_law_388 d_law_389 d_law_390 d_law_391 ?_
          refine lv_i2c (v := zJ ((xs (i + 1)).toInt % 65536)) hx hb d_law_392 (zi2c _) ?_
          refine z_lcall (Z := (D, C4, ad)) hF ⟨rfl, rfl⟩ hin hA (x := 64) (z := 5) (a := 0) (d := 16) (as := [zI ((xs (i + 1)).toInt % 65536)]) (p_type (d := 8) hJ ⟨by omega, by omega⟩) rfl rfl rfl rfl (zgw_spec (i := 508) (by decide +kernel)) rfl (by omega) hl.1 (Nat.le_of_ble_eq_true rfl) hW d_law_393 hroom (fun o g1 H1 locs1 hQ hW1 => ?_)
          obtain ⟨r, hrr, rfl, hM⟩ := hQ
          refine lv_aload_n hx hb d_law_396 rfl (lv_at hl 3 rfl) ?_
          refine z_larg hF hW1.2 (lv_at hl 1 rfl) (lv_at hl 0 rfl) (k := 1) (by omega) hL d_law_397 d_law_398 d_law_399 d_law_400 d_law_401 ?_
          refine lv_i2c (v := zJ ((xs (i + 1)).toInt % 65536)) hx hb d_law_402 (zi2c _) ?_
          refine z_lcall (Z := (D, C4, ad)) hF ⟨rfl, rfl⟩ hin hA (x := 131) (z := 6) (a := 64) (d := 16) (as := [zI ((xs (i + 1)).toInt % 65536)]) hM rfl rfl rfl rfl (zgw_spec (i := 833) (by decide +kernel)) rfl (by omega) hl.1 (Nat.le_of_ble_eq_true rfl) hW1 d_law_403 hroom (fun o2 g2 H2 locs2 hQ2 hW2 => ?_)
          obtain ⟨rfl, hJ2⟩ := hQ2
          exact lv_icmp_eq (tgt := 677) hx hb d_law_406 (by decide) (fun _ => next g2 H2 locs2 hJ2 hW2) (fun h => absurd rfl h)
        · refine lv_tableIn (off := 379) (tgt := 411) hx hb d_law_32 (by omega) (by omega) (by rw [hk]; rfl) (by decide) ?_
          refine lv_aload_n hx hb d_law_411 rfl (lv_at hl 2 rfl) ?_
          refine z_lcall (Z := (D, C4, ad)) hF ⟨rfl, rfl⟩ hin hA (x := 65) (z := 5) (a := 0) (d := 16) (as := []) (p_clearText (d := 8) hJ ) rfl rfl rfl rfl (zgw_spec (i := 516) (by decide +kernel)) rfl (by omega) hl.1 (Nat.le_of_ble_eq_true rfl) hW d_law_412 hroom (fun o g1 H1 locs1 hQ hW1 => ?_)
          obtain ⟨r, hrr, rfl, hM⟩ := hQ
          refine lv_aload_n hx hb d_law_415 rfl (lv_at hl 3 rfl) ?_
          refine z_lcall (Z := (D, C4, ad)) hF ⟨rfl, rfl⟩ hin hA (x := 132) (z := 6) (a := 64) (d := 16) (as := []) hM rfl rfl rfl rfl (zgw_spec (i := 837) (by decide +kernel)) rfl (by omega) hl.1 (Nat.le_of_ble_eq_true rfl) hW1 d_law_416 hroom (fun o2 g2 H2 locs2 hQ2 hW2 => ?_)
          obtain ⟨rfl, hJ2⟩ := hQ2
          exact lv_icmp_eq (tgt := 677) hx hb d_law_419 (by decide) (fun _ => next g2 H2 locs2 hJ2 hW2) (fun h => absurd rfl h)
        · refine lv_tableIn (off := 392) (tgt := 424) hx hb d_law_32 (by omega) (by omega) (by rw [hk]; rfl) (by decide) ?_
          refine lv_aload_n hx hb d_law_424 rfl (lv_at hl 2 rfl) ?_
          refine z_lcall (Z := (D, C4, ad)) hF ⟨rfl, rfl⟩ hin hA (x := 66) (z := 5) (a := 0) (d := 16) (as := []) (p_undo (d := 8) hJ ) rfl rfl rfl rfl (zgw_spec (i := 520) (by decide +kernel)) rfl (by omega) hl.1 (Nat.le_of_ble_eq_true rfl) hW d_law_425 hroom (fun o g1 H1 locs1 hQ hW1 => ?_)
          obtain ⟨r, hrr, rfl, hM⟩ := hQ
          refine lv_aload_n hx hb d_law_428 rfl (lv_at hl 3 rfl) ?_
          refine z_lcall (Z := (D, C4, ad)) hF ⟨rfl, rfl⟩ hin hA (x := 93) (z := 6) (a := 64) (d := 16) (as := []) hM rfl rfl rfl rfl (zgw_spec (i := 655) (by decide +kernel)) rfl (by omega) hl.1 (Nat.le_of_ble_eq_true rfl) hW1 d_law_429 hroom (fun o2 g2 H2 locs2 hQ2 hW2 => ?_)
          obtain ⟨rfl, hJ2⟩ := hQ2
          exact lv_icmp_eq (tgt := 677) hx hb d_law_432 (by decide) (fun _ => next g2 H2 locs2 hJ2 hW2) (fun h => absurd rfl h)
        · refine lv_tableIn (off := 405) (tgt := 437) hx hb d_law_32 (by omega) (by omega) (by rw [hk]; rfl) (by decide) ?_
          refine lv_aload_n hx hb d_law_437 rfl (lv_at hl 2 rfl) ?_
          refine z_lcall (Z := (D, C4, ad)) hF ⟨rfl, rfl⟩ hin hA (x := 67) (z := 5) (a := 0) (d := 16) (as := []) (p_keep (d := 8) hJ ) rfl rfl rfl rfl (zgw_spec (i := 528) (by decide +kernel)) rfl (by omega) hl.1 (Nat.le_of_ble_eq_true rfl) hW d_law_438 hroom (fun o g1 H1 locs1 hQ hW1 => ?_)
          obtain ⟨r, hrr, rfl, hM⟩ := hQ
          refine lv_aload_n hx hb d_law_441 rfl (lv_at hl 3 rfl) ?_
          refine z_lcall (Z := (D, C4, ad)) hF ⟨rfl, rfl⟩ hin hA (x := 94) (z := 6) (a := 64) (d := 16) (as := []) hM rfl rfl rfl rfl (zgw_spec (i := 662) (by decide +kernel)) rfl (by omega) hl.1 (Nat.le_of_ble_eq_true rfl) hW1 d_law_442 hroom (fun o2 g2 H2 locs2 hQ2 hW2 => ?_)
          obtain ⟨rfl, hJ2⟩ := hQ2
          exact lv_icmp_eq (tgt := 677) hx hb d_law_445 (by decide) (fun _ => next g2 H2 locs2 hJ2 hW2) (fun h => absurd rfl h)
        · refine lv_tableIn (off := 418) (tgt := 450) hx hb d_law_32 (by omega) (by omega) (by rw [hk]; rfl) (by decide) ?_
          refine lv_aload_n hx hb d_law_450 rfl (lv_at hl 2 rfl) ?_
          refine z_lcall (Z := (D, C4, ad)) hF ⟨rfl, rfl⟩ hin hA (x := 68) (z := 5) (a := 0) (d := 16) (as := []) (p_restore (d := 8) hJ ) rfl rfl rfl rfl (zgw_spec (i := 532) (by decide +kernel)) rfl (by omega) hl.1 (Nat.le_of_ble_eq_true rfl) hW d_law_451 hroom (fun o g1 H1 locs1 hQ hW1 => ?_)
          obtain ⟨r, hrr, rfl, hM⟩ := hQ
          refine lv_aload_n hx hb d_law_454 rfl (lv_at hl 3 rfl) ?_
          refine z_lcall (Z := (D, C4, ad)) hF ⟨rfl, rfl⟩ hin hA (x := 95) (z := 6) (a := 64) (d := 16) (as := []) hM rfl rfl rfl rfl (zgw_spec (i := 666) (by decide +kernel)) rfl (by omega) hl.1 (Nat.le_of_ble_eq_true rfl) hW1 d_law_455 hroom (fun o2 g2 H2 locs2 hQ2 hW2 => ?_)
          obtain ⟨rfl, hJ2⟩ := hQ2
          exact lv_icmp_eq (tgt := 677) hx hb d_law_458 (by decide) (fun _ => next g2 H2 locs2 hJ2 hW2) (fun h => absurd rfl h)
        · refine lv_tableIn (off := 431) (tgt := 463) hx hb d_law_32 (by omega) (by omega) (by rw [hk]; rfl) (by decide) ?_
          refine lv_aload_n hx hb d_law_463 rfl (lv_at hl 2 rfl) ?_
          refine z_larg hF hW.2 (lv_at hl 1 rfl) (lv_at hl 0 rfl) (k := 1) (by omega) hL d_law_464 d_law_465 d_law_466 d_law_467 d_law_468 ?_
          refine z_larg hF hW.2 (lv_at hl 1 rfl) (lv_at hl 0 rfl) (k := 2) (by omega) hL d_law_469 d_law_470 d_law_471 d_law_472 d_law_473 ?_
          refine z_lcall (Z := (D, C4, ad)) hF ⟨rfl, rfl⟩ hin hA (x := 69) (z := 5) (a := 0) (d := 16) (as := [zI (xs (i + 1)).toInt, zI (xs (i + 2)).toInt]) (p_thing (d := 8) hJ z1 z2) rfl rfl rfl rfl (zgw_spec (i := 536) (by decide +kernel)) rfl (by omega) hl.1 (Nat.le_of_ble_eq_true rfl) hW d_law_474 hroom (fun o g1 H1 locs1 hQ hW1 => ?_)
          obtain ⟨r, hrr, rfl, hM⟩ := hQ
          refine lv_aload_n hx hb d_law_477 rfl (lv_at hl 3 rfl) ?_
          refine z_larg hF hW1.2 (lv_at hl 1 rfl) (lv_at hl 0 rfl) (k := 1) (by omega) hL d_law_478 d_law_479 d_law_480 d_law_481 d_law_482 ?_
          refine z_larg hF hW1.2 (lv_at hl 1 rfl) (lv_at hl 0 rfl) (k := 2) (by omega) hL d_law_483 d_law_484 d_law_485 d_law_486 d_law_487 ?_
          refine z_lcall (Z := (D, C4, ad)) hF ⟨rfl, rfl⟩ hin hA (x := 137) (z := 6) (a := 64) (d := 16) (as := [zI (xs (i + 1)).toInt, zI (xs (i + 2)).toInt]) hM rfl rfl rfl rfl (zgw_spec (i := 841) (by decide +kernel)) rfl (by omega) hl.1 (Nat.le_of_ble_eq_true rfl) hW1 d_law_488 hroom (fun o2 g2 H2 locs2 hQ2 hW2 => ?_)
          obtain ⟨rfl, hJ2⟩ := hQ2
          exact lv_icmp_eq (tgt := 677) hx hb d_law_491 (by decide) (fun _ => next g2 H2 locs2 hJ2 hW2) (fun h => absurd rfl h)
        · refine lv_tableIn (off := 464) (tgt := 496) hx hb d_law_32 (by omega) (by omega) (by rw [hk]; rfl) (by decide) ?_
          refine lv_aload_n hx hb d_law_496 rfl (lv_at hl 2 rfl) ?_
          refine z_larg hF hW.2 (lv_at hl 1 rfl) (lv_at hl 0 rfl) (k := 1) (by omega) hL d_law_497 d_law_498 d_law_499 d_law_500 d_law_501 ?_
          refine z_larg hF hW.2 (lv_at hl 1 rfl) (lv_at hl 0 rfl) (k := 2) (by omega) hL d_law_502 d_law_503 d_law_504 d_law_505 d_law_506 ?_
          refine z_lcall (Z := (D, C4, ad)) hF ⟨rfl, rfl⟩ hin hA (x := 70) (z := 5) (a := 0) (d := 16) (as := [zI (xs (i + 1)).toInt, zI (xs (i + 2)).toInt]) (p_node (d := 8) hJ z1 z2) rfl rfl rfl rfl (zgw_spec (i := 544) (by decide +kernel)) rfl (by omega) hl.1 (Nat.le_of_ble_eq_true rfl) hW d_law_507 hroom (fun o g1 H1 locs1 hQ hW1 => ?_)
          obtain ⟨r, hrr, rfl, hM⟩ := hQ
          refine lv_aload_n hx hb d_law_510 rfl (lv_at hl 3 rfl) ?_
          refine z_larg hF hW1.2 (lv_at hl 1 rfl) (lv_at hl 0 rfl) (k := 1) (by omega) hL d_law_511 d_law_512 d_law_513 d_law_514 d_law_515 ?_
          refine z_larg hF hW1.2 (lv_at hl 1 rfl) (lv_at hl 0 rfl) (k := 2) (by omega) hL d_law_516 d_law_517 d_law_518 d_law_519 d_law_520 ?_
          refine z_lcall (Z := (D, C4, ad)) hF ⟨rfl, rfl⟩ hin hA (x := 138) (z := 6) (a := 64) (d := 16) (as := [zI (xs (i + 1)).toInt, zI (xs (i + 2)).toInt]) hM rfl rfl rfl rfl (zgw_spec (i := 845) (by decide +kernel)) rfl (by omega) hl.1 (Nat.le_of_ble_eq_true rfl) hW1 d_law_521 hroom (fun o2 g2 H2 locs2 hQ2 hW2 => ?_)
          obtain ⟨rfl, hJ2⟩ := hQ2
          exact lv_icmp_eq (tgt := 677) hx hb d_law_524 (by decide) (fun _ => next g2 H2 locs2 hJ2 hW2) (fun h => absurd rfl h)
        · refine lv_tableIn (off := 497) (tgt := 529) hx hb d_law_32 (by omega) (by omega) (by rw [hk]; rfl) (by decide) ?_
          refine lv_aload_n hx hb d_law_529 rfl (lv_at hl 2 rfl) ?_
          refine z_lcall (Z := (D, C4, ad)) hF ⟨rfl, rfl⟩ hin hA (x := 71) (z := 5) (a := 0) (d := 16) (as := []) (p_next (d := 8) hJ ) rfl rfl rfl rfl (zgw_spec (i := 564) (by decide +kernel)) rfl (by omega) hl.1 (Nat.le_of_ble_eq_true rfl) hW d_law_530 hroom (fun o g1 H1 locs1 hQ hW1 => ?_)
          obtain ⟨r, hrr, rfl, hM⟩ := hQ
          refine lv_aload_n hx hb d_law_533 rfl (lv_at hl 3 rfl) ?_
          refine z_lcall (Z := (D, C4, ad)) hF ⟨rfl, rfl⟩ hin hA (x := 139) (z := 6) (a := 64) (d := 16) (as := []) hM rfl rfl rfl rfl (zgw_spec (i := 853) (by decide +kernel)) rfl (by omega) hl.1 (Nat.le_of_ble_eq_true rfl) hW1 d_law_534 hroom (fun o2 g2 H2 locs2 hQ2 hW2 => ?_)
          obtain ⟨rfl, hJ2⟩ := hQ2
          exact lv_icmp_eq (tgt := 677) hx hb d_law_537 (by decide) (fun _ => next g2 H2 locs2 hJ2 hW2) (fun h => absurd rfl h)
        · refine lv_tableIn (off := 510) (tgt := 542) hx hb d_law_32 (by omega) (by omega) (by rw [hk]; rfl) (by decide) ?_
          refine lv_aload_n hx hb d_law_542 rfl (lv_at hl 2 rfl) ?_
          refine z_larg hF hW.2 (lv_at hl 1 rfl) (lv_at hl 0 rfl) (k := 1) (by omega) hL d_law_543 d_law_544 d_law_545 d_law_546 d_law_547 ?_
          refine z_larg hF hW.2 (lv_at hl 1 rfl) (lv_at hl 0 rfl) (k := 2) (by omega) hL d_law_548 d_law_549 d_law_550 d_law_551 d_law_552 ?_
          refine z_lcall (Z := (D, C4, ad)) hF ⟨rfl, rfl⟩ hin hA (x := 72) (z := 5) (a := 0) (d := 16) (as := [zI (xs (i + 1)).toInt, zI (xs (i + 2)).toInt]) (p_branchOf (d := 6) hJ z1 z2) rfl rfl rfl rfl (zgw_spec (i := 569) (by decide +kernel)) rfl (by omega) hl.1 (Nat.le_of_ble_eq_true rfl) hW d_law_553 hroom (fun o g1 H1 locs1 hQ hW1 => ?_)
          obtain ⟨r, hrr, rfl, hM⟩ := hQ
          refine lv_aload_n hx hb d_law_556 rfl (lv_at hl 3 rfl) ?_
          refine z_larg hF hW1.2 (lv_at hl 1 rfl) (lv_at hl 0 rfl) (k := 1) (by omega) hL d_law_557 d_law_558 d_law_559 d_law_560 d_law_561 ?_
          refine z_larg hF hW1.2 (lv_at hl 1 rfl) (lv_at hl 0 rfl) (k := 2) (by omega) hL d_law_562 d_law_563 d_law_564 d_law_565 d_law_566 ?_
          refine z_lcall (Z := (D, C4, ad)) hF ⟨rfl, rfl⟩ hin hA (x := 140) (z := 6) (a := 64) (d := 16) (as := [zI (xs (i + 1)).toInt, zI (xs (i + 2)).toInt]) hM rfl rfl rfl rfl (zgw_spec (i := 857) (by decide +kernel)) rfl (by omega) hl.1 (Nat.le_of_ble_eq_true rfl) hW1 d_law_567 hroom (fun o2 g2 H2 locs2 hQ2 hW2 => ?_)
          obtain ⟨rfl, hJ2⟩ := hQ2
          exact lv_icmp_eq (tgt := 677) hx hb d_law_570 (by decide) (fun _ => next g2 H2 locs2 hJ2 hW2) (fun h => absurd rfl h)
        · refine lv_tableIn (off := 543) (tgt := 575) hx hb d_law_32 (by omega) (by omega) (by rw [hk]; rfl) (by decide) ?_
          refine lv_aload_n hx hb d_law_575 rfl (lv_at hl 2 rfl) ?_
          refine z_larg hF hW.2 (lv_at hl 1 rfl) (lv_at hl 0 rfl) (k := 1) (by omega) hL d_law_576 d_law_577 d_law_578 d_law_579 d_law_580 ?_
          refine z_larg hF hW.2 (lv_at hl 1 rfl) (lv_at hl 0 rfl) (k := 2) (by omega) hL d_law_581 d_law_582 d_law_583 d_law_584 d_law_585 ?_
          refine z_lcall (Z := (D, C4, ad)) hF ⟨rfl, rfl⟩ hin hA (x := 73) (z := 5) (a := 0) (d := 16) (as := [zI (xs (i + 1)).toInt, zI (xs (i + 2)).toInt]) (p_boundOf (d := 7) hJ z1 z2) rfl rfl rfl rfl (zgw_spec (i := 575) (by decide +kernel)) rfl (by omega) hl.1 (Nat.le_of_ble_eq_true rfl) hW d_law_586 hroom (fun o g1 H1 locs1 hQ hW1 => ?_)
          obtain ⟨r, hrr, rfl, hM⟩ := hQ
          refine lv_aload_n hx hb d_law_589 rfl (lv_at hl 3 rfl) ?_
          refine z_larg hF hW1.2 (lv_at hl 1 rfl) (lv_at hl 0 rfl) (k := 1) (by omega) hL d_law_590 d_law_591 d_law_592 d_law_593 d_law_594 ?_
          refine z_larg hF hW1.2 (lv_at hl 1 rfl) (lv_at hl 0 rfl) (k := 2) (by omega) hL d_law_595 d_law_596 d_law_597 d_law_598 d_law_599 ?_
          refine z_lcall (Z := (D, C4, ad)) hF ⟨rfl, rfl⟩ hin hA (x := 142) (z := 6) (a := 64) (d := 16) (as := [zI (xs (i + 1)).toInt, zI (xs (i + 2)).toInt]) hM rfl rfl rfl rfl (zgw_spec (i := 861) (by decide +kernel)) rfl (by omega) hl.1 (Nat.le_of_ble_eq_true rfl) hW1 d_law_600 hroom (fun o2 g2 H2 locs2 hQ2 hW2 => ?_)
          obtain ⟨rfl, hJ2⟩ := hQ2
          exact lv_icmp_eq (tgt := 677) hx hb d_law_603 (by decide) (fun _ => next g2 H2 locs2 hJ2 hW2) (fun h => absurd rfl h)
        · refine lv_tableIn (off := 576) (tgt := 608) hx hb d_law_32 (by omega) (by omega) (by rw [hk]; rfl) (by decide) ?_
          refine lv_aload_n hx hb d_law_608 rfl (lv_at hl 2 rfl) ?_
          refine z_larg hF hW.2 (lv_at hl 1 rfl) (lv_at hl 0 rfl) (k := 1) (by omega) hL d_law_609 d_law_610 d_law_611 d_law_612 d_law_613 ?_
          refine z_larg hF hW.2 (lv_at hl 1 rfl) (lv_at hl 0 rfl) (k := 2) (by omega) hL d_law_614 d_law_615 d_law_616 d_law_617 d_law_618 ?_
          refine z_lcall (Z := (D, C4, ad)) hF ⟨rfl, rfl⟩ hin hA (x := 74) (z := 5) (a := 0) (d := 16) (as := [zI (xs (i + 1)).toInt, zI (xs (i + 2)).toInt]) (p_heelOf (d := 7) hJ z1 z2) rfl rfl rfl rfl (zgw_spec (i := 584) (by decide +kernel)) rfl (by omega) hl.1 (Nat.le_of_ble_eq_true rfl) hW d_law_619 hroom (fun o g1 H1 locs1 hQ hW1 => ?_)
          obtain ⟨r, hrr, rfl, hM⟩ := hQ
          refine lv_aload_n hx hb d_law_622 rfl (lv_at hl 3 rfl) ?_
          refine z_larg hF hW1.2 (lv_at hl 1 rfl) (lv_at hl 0 rfl) (k := 1) (by omega) hL d_law_623 d_law_624 d_law_625 d_law_626 d_law_627 ?_
          refine z_larg hF hW1.2 (lv_at hl 1 rfl) (lv_at hl 0 rfl) (k := 2) (by omega) hL d_law_628 d_law_629 d_law_630 d_law_631 d_law_632 ?_
          refine z_lcall (Z := (D, C4, ad)) hF ⟨rfl, rfl⟩ hin hA (x := 143) (z := 6) (a := 64) (d := 16) (as := [zI (xs (i + 1)).toInt, zI (xs (i + 2)).toInt]) hM rfl rfl rfl rfl (zgw_spec (i := 869) (by decide +kernel)) rfl (by omega) hl.1 (Nat.le_of_ble_eq_true rfl) hW1 d_law_633 hroom (fun o2 g2 H2 locs2 hQ2 hW2 => ?_)
          obtain ⟨rfl, hJ2⟩ := hQ2
          exact lv_icmp_eq (tgt := 677) hx hb d_law_636 (by decide) (fun _ => next g2 H2 locs2 hJ2 hW2) (fun h => absurd rfl h)
        · refine lv_tableIn (off := 609) (tgt := 641) hx hb d_law_32 (by omega) (by omega) (by rw [hk]; rfl) (by decide) ?_
          refine lv_aload_n hx hb d_law_641 rfl (lv_at hl 2 rfl) ?_
          refine z_lcall (Z := (D, C4, ad)) hF ⟨rfl, rfl⟩ hin hA (x := 75) (z := 5) (a := 0) (d := 16) (as := []) (p_bestSum (d := 1) hJ ) rfl rfl rfl rfl (zgw_spec (i := 589) (by decide +kernel)) rfl (by omega) hl.1 (Nat.le_of_ble_eq_true rfl) hW d_law_642 hroom (fun o g1 H1 locs1 hQ hW1 => ?_)
          obtain ⟨r, hrr, rfl, hM⟩ := hQ
          refine lv_aload_n hx hb d_law_645 rfl (lv_at hl 3 rfl) ?_
          refine z_lcall (Z := (D, C4, ad)) hF ⟨rfl, rfl⟩ hin hA (x := 144) (z := 6) (a := 64) (d := 16) (as := []) hM rfl rfl rfl rfl (zgw_spec (i := 873) (by decide +kernel)) rfl (by omega) hl.1 (Nat.le_of_ble_eq_true rfl) hW1 d_law_646 hroom (fun o2 g2 H2 locs2 hQ2 hW2 => ?_)
          obtain ⟨rfl, hJ2⟩ := hQ2
          exact lv_icmp_eq (tgt := 677) hx hb d_law_649 (by decide) (fun _ => next g2 H2 locs2 hJ2 hW2) (fun h => absurd rfl h)
        · refine lv_tableIn (off := 622) (tgt := 654) hx hb d_law_32 (by omega) (by omega) (by rw [hk]; rfl) (by decide) ?_
          refine lv_aload_n hx hb d_law_654 rfl (lv_at hl 2 rfl) ?_
          refine z_larg hF hW.2 (lv_at hl 1 rfl) (lv_at hl 0 rfl) (k := 1) (by omega) hL d_law_655 d_law_656 d_law_657 d_law_658 d_law_659 ?_
          refine z_lcall (Z := (D, C4, ad)) hF ⟨rfl, rfl⟩ hin hA (x := 76) (z := 5) (a := 0) (d := 16) (as := [zI (xs (i + 1)).toInt]) (p_count (d := 8) hJ z1) rfl rfl rfl rfl (zgw_spec (i := 597) (by decide +kernel)) rfl (by omega) hl.1 (Nat.le_of_ble_eq_true rfl) hW d_law_660 hroom (fun o g1 H1 locs1 hQ hW1 => ?_)
          obtain ⟨r, hrr, rfl, hM⟩ := hQ
          refine lv_aload_n hx hb d_law_663 rfl (lv_at hl 3 rfl) ?_
          refine z_larg hF hW1.2 (lv_at hl 1 rfl) (lv_at hl 0 rfl) (k := 1) (by omega) hL d_law_664 d_law_665 d_law_666 d_law_667 d_law_668 ?_
          refine z_lcall (Z := (D, C4, ad)) hF ⟨rfl, rfl⟩ hin hA (x := 147) (z := 6) (a := 64) (d := 16) (as := [zI (xs (i + 1)).toInt]) hM rfl rfl rfl rfl (zgw_spec (i := 877) (by decide +kernel)) rfl (by omega) hl.1 (Nat.le_of_ble_eq_true rfl) hW1 d_law_669 hroom (fun o2 g2 H2 locs2 hQ2 hW2 => ?_)
          obtain ⟨rfl, hJ2⟩ := hQ2
          exact lv_icmp_eq (tgt := 677) hx hb d_law_672 (by decide) (fun _ => next g2 H2 locs2 hJ2 hW2) (fun h => absurd rfl h)
