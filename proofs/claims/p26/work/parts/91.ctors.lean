/-! the worlds that the constructors make -/
abbrev zai (cI : ClassId) (n : Nat) : va_E := .inl (cI, n, .inl (fun _ => zJ 0))
abbrev zal (cL : ClassId) (n : Nat) : va_E := .inl (cL, n, .inr (.inl (fun _ => zJL 0)))
abbrev zRg (a b c d : Nat) : Nat → Option Nat := va_up (va_up (va_up (va_up (fun _ => none) 0 (some a)) 1 (some b)) 2 (some c)) 3 (some d)
abbrev zar (cS : ClassId) (f : Nat → Option Nat) : va_E := .inl (cS, 4, .inr (.inr (.inr (.inr f))))
abbrev zNow : Nat → Int32 := upd (fun _ => zJ 0) 1 (zJ 30)
abbrev wBag (C4 : zC4) (q : Nat → Nat) : va_W := [(q 0, .inr (0, [.ref (q 1), .ref (q 2), .ref (q 3), .ref (q 4), .int (zJ 0), .int (zJ 30)]))] ++ [(q 1, zai C4.1 12)] ++ [(q 2, zai C4.1 12)] ++ [(q 3, zai C4.1 12)] ++ [(q 4, zai C4.1 12)]
abbrev wNodes (C4 : zC4) (q : Nat → Nat) : va_W := [(q 0, .inr (2, [.ref (q 1), .int (zJ 0)]))] ++ [(q 1, zal C4.2.2.1 400)]
abbrev wState (C4 : zC4) (q : Nat → Nat) : va_W := [(q 0, .inr (3, [.ref (q 1), .ref (q 6), .int (zJ 0), .int (zJ 0), .int (zJ 0), .int (zJ 0), .int (zJ 0)]))] ++ wBag C4 (fun i => q (1 + i)) ++ wNodes C4 (fun i => q (6 + i))
abbrev wHist (C4 : zC4) (q : Nat → Nat) : va_W := [(q 0, .inr (1, [.ref (q 1), .int (zJ 0), .int (zJ 0)]))] ++ [(q 1, zar C4.2.2.2 (zRg (q 2) (q 10) (q 18) (q 26)))] ++ wState C4 (fun i => q (2 + i)) ++ wState C4 (fun i => q (10 + i)) ++ wState C4 (fun i => q (18 + i)) ++ wState C4 (fun i => q (26 + i))
abbrev wText (C4 : zC4) (q : Nat → Nat) : va_W := [(q 0, .inr (4, [.ref (q 1), .ref (q 2), .ref (q 3), .ref (q 4), .int (zJ 0), .int (zJ 0), .int (zJ 0)]))] ++ [(q 1, zai C4.2.1 80)] ++ [(q 2, zai C4.1 12)] ++ [(q 3, zai C4.1 12)] ++ [(q 4, zai C4.1 12)]
abbrev wBS (C4 : zC4) (q : Nat → Nat) : va_W := [(q 0, .inr (5, [.ref (q 1), .ref (q 9), .ref (q 17), .ref (q 25), .ref (q 59), .int (zJ 0)]))] ++ wState C4 (fun i => q (1 + i)) ++ wState C4 (fun i => q (9 + i)) ++ wState C4 (fun i => q (17 + i)) ++ wHist C4 (fun i => q (25 + i)) ++ wText C4 (fun i => q (59 + i))
theorem zJL_0 : zJL 0 = 0 := by decide
theorem dX0_init_0 : decode cX0_init 0 = .ok (.aload_n 0, 1) := by decide +kernel
theorem dX0_init_1 : decode cX0_init 1 = .ok (.invokespecial 3, 3) := by decide +kernel
theorem dX0_init_4 : decode cX0_init 4 = .ok (.aload_n 0, 1) := by decide +kernel
theorem dX0_init_5 : decode cX0_init 5 = .ok (.bipush 12, 2) := by decide +kernel
theorem dX0_init_7 : decode cX0_init 7 = .ok (.newarray .int, 2) := by decide +kernel
theorem dX0_init_9 : decode cX0_init 9 = .ok (.putfield 9, 3) := by decide +kernel
theorem dX0_init_12 : decode cX0_init 12 = .ok (.aload_n 0, 1) := by decide +kernel
theorem dX0_init_13 : decode cX0_init 13 = .ok (.bipush 12, 2) := by decide +kernel
theorem dX0_init_15 : decode cX0_init 15 = .ok (.newarray .int, 2) := by decide +kernel
theorem dX0_init_17 : decode cX0_init 17 = .ok (.putfield 15, 3) := by decide +kernel
theorem dX0_init_20 : decode cX0_init 20 = .ok (.aload_n 0, 1) := by decide +kernel
theorem dX0_init_21 : decode cX0_init 21 = .ok (.bipush 12, 2) := by decide +kernel
theorem dX0_init_23 : decode cX0_init 23 = .ok (.newarray .int, 2) := by decide +kernel
theorem dX0_init_25 : decode cX0_init 25 = .ok (.putfield 18, 3) := by decide +kernel
theorem dX0_init_28 : decode cX0_init 28 = .ok (.aload_n 0, 1) := by decide +kernel
theorem dX0_init_29 : decode cX0_init 29 = .ok (.bipush 12, 2) := by decide +kernel
theorem dX0_init_31 : decode cX0_init 31 = .ok (.newarray .int, 2) := by decide +kernel
theorem dX0_init_33 : decode cX0_init 33 = .ok (.putfield 21, 3) := by decide +kernel
theorem dX0_init_36 : decode cX0_init 36 = .ok (.aload_n 0, 1) := by decide +kernel
theorem dX0_init_37 : decode cX0_init 37 = .ok (.bipush 30, 2) := by decide +kernel
theorem dX0_init_39 : decode cX0_init 39 = .ok (.putfield 24, 3) := by decide +kernel
theorem dX0_init_42 : decode cX0_init 42 = .ok (.return_, 1) := by decide +kernel
theorem dX1_init_0 : decode cX1_init 0 = .ok (.aload_n 0, 1) := by decide +kernel
theorem dX1_init_1 : decode cX1_init 1 = .ok (.invokespecial 3, 3) := by decide +kernel
theorem dX1_init_4 : decode cX1_init 4 = .ok (.aload_n 0, 1) := by decide +kernel
theorem dX1_init_5 : decode cX1_init 5 = .ok (.iconst 4, 1) := by decide +kernel
theorem dX1_init_6 : decode cX1_init 6 = .ok (.anewarray 9, 3) := by decide +kernel
theorem dX1_init_9 : decode cX1_init 9 = .ok (.putfield 11, 3) := by decide +kernel
theorem dX1_init_12 : decode cX1_init 12 = .ok (.iconst 0, 1) := by decide +kernel
theorem dX1_init_13 : decode cX1_init 13 = .ok (.istore_n 1, 1) := by decide +kernel
theorem dX1_init_14 : decode cX1_init 14 = .ok (.iload_n 1, 1) := by decide +kernel
theorem dX1_init_15 : decode cX1_init 15 = .ok (.aload_n 0, 1) := by decide +kernel
theorem dX1_init_16 : decode cX1_init 16 = .ok (.getfield 11, 3) := by decide +kernel
theorem dX1_init_19 : decode cX1_init 19 = .ok (.arraylength, 1) := by decide +kernel
theorem dX1_init_20 : decode cX1_init 20 = .ok (.if_icmp .ge 22, 3) := by decide +kernel
theorem dX1_init_23 : decode cX1_init 23 = .ok (.aload_n 0, 1) := by decide +kernel
theorem dX1_init_24 : decode cX1_init 24 = .ok (.getfield 11, 3) := by decide +kernel
theorem dX1_init_27 : decode cX1_init 27 = .ok (.iload_n 1, 1) := by decide +kernel
theorem dX1_init_28 : decode cX1_init 28 = .ok (.new 9, 3) := by decide +kernel
theorem dX1_init_31 : decode cX1_init 31 = .ok (.dup, 1) := by decide +kernel
theorem dX1_init_32 : decode cX1_init 32 = .ok (.invokespecial 17, 3) := by decide +kernel
theorem dX1_init_35 : decode cX1_init 35 = .ok (.aastore, 1) := by decide +kernel
theorem dX1_init_36 : decode cX1_init 36 = .ok (.iinc 1 1, 3) := by decide +kernel
theorem dX1_init_39 : decode cX1_init 39 = .ok (.goto (-25), 3) := by decide +kernel
theorem dX1_init_42 : decode cX1_init 42 = .ok (.return_, 1) := by decide +kernel
theorem dX2_init_0 : decode cX2_init 0 = .ok (.aload_n 0, 1) := by decide +kernel
theorem dX2_init_1 : decode cX2_init 1 = .ok (.invokespecial 5, 3) := by decide +kernel
theorem dX2_init_4 : decode cX2_init 4 = .ok (.aload_n 0, 1) := by decide +kernel
theorem dX2_init_5 : decode cX2_init 5 = .ok (.sipush 400, 3) := by decide +kernel
theorem dX2_init_8 : decode cX2_init 8 = .ok (.newarray .long, 2) := by decide +kernel
theorem dX2_init_10 : decode cX2_init 10 = .ok (.putfield 11, 3) := by decide +kernel
theorem dX2_init_13 : decode cX2_init 13 = .ok (.return_, 1) := by decide +kernel
theorem dX3_init_0 : decode cX3_init 0 = .ok (.aload_n 0, 1) := by decide +kernel
theorem dX3_init_1 : decode cX3_init 1 = .ok (.invokespecial 3, 3) := by decide +kernel
theorem dX3_init_4 : decode cX3_init 4 = .ok (.aload_n 0, 1) := by decide +kernel
theorem dX3_init_5 : decode cX3_init 5 = .ok (.new 9, 3) := by decide +kernel
theorem dX3_init_8 : decode cX3_init 8 = .ok (.dup, 1) := by decide +kernel
theorem dX3_init_9 : decode cX3_init 9 = .ok (.invokespecial 11, 3) := by decide +kernel
theorem dX3_init_12 : decode cX3_init 12 = .ok (.putfield 12, 3) := by decide +kernel
theorem dX3_init_15 : decode cX3_init 15 = .ok (.aload_n 0, 1) := by decide +kernel
theorem dX3_init_16 : decode cX3_init 16 = .ok (.new 18, 3) := by decide +kernel
theorem dX3_init_19 : decode cX3_init 19 = .ok (.dup, 1) := by decide +kernel
theorem dX3_init_20 : decode cX3_init 20 = .ok (.invokespecial 20, 3) := by decide +kernel
theorem dX3_init_23 : decode cX3_init 23 = .ok (.putfield 21, 3) := by decide +kernel
theorem dX3_init_26 : decode cX3_init 26 = .ok (.return_, 1) := by decide +kernel
theorem dX4_init_0 : decode cX4_init 0 = .ok (.aload_n 0, 1) := by decide +kernel
theorem dX4_init_1 : decode cX4_init 1 = .ok (.invokespecial 3, 3) := by decide +kernel
theorem dX4_init_4 : decode cX4_init 4 = .ok (.aload_n 0, 1) := by decide +kernel
theorem dX4_init_5 : decode cX4_init 5 = .ok (.bipush 80, 2) := by decide +kernel
theorem dX4_init_7 : decode cX4_init 7 = .ok (.newarray .char, 2) := by decide +kernel
theorem dX4_init_9 : decode cX4_init 9 = .ok (.putfield 9, 3) := by decide +kernel
theorem dX4_init_12 : decode cX4_init 12 = .ok (.aload_n 0, 1) := by decide +kernel
theorem dX4_init_13 : decode cX4_init 13 = .ok (.bipush 12, 2) := by decide +kernel
theorem dX4_init_15 : decode cX4_init 15 = .ok (.newarray .int, 2) := by decide +kernel
theorem dX4_init_17 : decode cX4_init 17 = .ok (.putfield 15, 3) := by decide +kernel
theorem dX4_init_20 : decode cX4_init 20 = .ok (.aload_n 0, 1) := by decide +kernel
theorem dX4_init_21 : decode cX4_init 21 = .ok (.bipush 12, 2) := by decide +kernel
theorem dX4_init_23 : decode cX4_init 23 = .ok (.newarray .int, 2) := by decide +kernel
theorem dX4_init_25 : decode cX4_init 25 = .ok (.putfield 19, 3) := by decide +kernel
theorem dX4_init_28 : decode cX4_init 28 = .ok (.aload_n 0, 1) := by decide +kernel
theorem dX4_init_29 : decode cX4_init 29 = .ok (.bipush 12, 2) := by decide +kernel
theorem dX4_init_31 : decode cX4_init 31 = .ok (.newarray .int, 2) := by decide +kernel
theorem dX4_init_33 : decode cX4_init 33 = .ok (.putfield 22, 3) := by decide +kernel
theorem dX4_init_36 : decode cX4_init 36 = .ok (.return_, 1) := by decide +kernel
theorem dX5_init_0 : decode cX5_init 0 = .ok (.aload_n 0, 1) := by decide +kernel
theorem dX5_init_1 : decode cX5_init 1 = .ok (.invokespecial 1, 3) := by decide +kernel
theorem dX5_init_4 : decode cX5_init 4 = .ok (.aload_n 0, 1) := by decide +kernel
theorem dX5_init_5 : decode cX5_init 5 = .ok (.new 7, 3) := by decide +kernel
theorem dX5_init_8 : decode cX5_init 8 = .ok (.dup, 1) := by decide +kernel
theorem dX5_init_9 : decode cX5_init 9 = .ok (.invokespecial 9, 3) := by decide +kernel
theorem dX5_init_12 : decode cX5_init 12 = .ok (.putfield 10, 3) := by decide +kernel
theorem dX5_init_15 : decode cX5_init 15 = .ok (.aload_n 0, 1) := by decide +kernel
theorem dX5_init_16 : decode cX5_init 16 = .ok (.new 7, 3) := by decide +kernel
theorem dX5_init_19 : decode cX5_init 19 = .ok (.dup, 1) := by decide +kernel
theorem dX5_init_20 : decode cX5_init 20 = .ok (.invokespecial 9, 3) := by decide +kernel
theorem dX5_init_23 : decode cX5_init 23 = .ok (.putfield 16, 3) := by decide +kernel
theorem dX5_init_26 : decode cX5_init 26 = .ok (.aload_n 0, 1) := by decide +kernel
theorem dX5_init_27 : decode cX5_init 27 = .ok (.new 7, 3) := by decide +kernel
theorem dX5_init_30 : decode cX5_init 30 = .ok (.dup, 1) := by decide +kernel
theorem dX5_init_31 : decode cX5_init 31 = .ok (.invokespecial 9, 3) := by decide +kernel
theorem dX5_init_34 : decode cX5_init 34 = .ok (.putfield 19, 3) := by decide +kernel
theorem dX5_init_37 : decode cX5_init 37 = .ok (.aload_n 0, 1) := by decide +kernel
theorem dX5_init_38 : decode cX5_init 38 = .ok (.new 22, 3) := by decide +kernel
theorem dX5_init_41 : decode cX5_init 41 = .ok (.dup, 1) := by decide +kernel
theorem dX5_init_42 : decode cX5_init 42 = .ok (.invokespecial 24, 3) := by decide +kernel
theorem dX5_init_45 : decode cX5_init 45 = .ok (.putfield 25, 3) := by decide +kernel
theorem dX5_init_48 : decode cX5_init 48 = .ok (.aload_n 0, 1) := by decide +kernel
theorem dX5_init_49 : decode cX5_init 49 = .ok (.new 29, 3) := by decide +kernel
theorem dX5_init_52 : decode cX5_init 52 = .ok (.dup, 1) := by decide +kernel
theorem dX5_init_53 : decode cX5_init 53 = .ok (.invokespecial 31, 3) := by decide +kernel
theorem dX5_init_56 : decode cX5_init 56 = .ok (.putfield 32, 3) := by decide +kernel
theorem dX5_init_59 : decode cX5_init 59 = .ok (.return_, 1) := by decide +kernel
set_option maxHeartbeats 4000000 in
set_option maxRecDepth 100000 in
theorem k_Bag (l : Launch) (D : va_G) (C4 : zC4) : zCtr l D C4 yX0_init cX0_init 1 1 4 48 0 [.null, .null, .null, .null, .int (zJ 0), .int (zJ 0)] (fun q => wBag C4 q) := by
  refine zCtr.of (by decide) (by decide) (by decide) rfl dX0_init_0 dX0_init_1 (zgw_spec (i := 46) (by decide +kernel)) (zgw_spec (i := 33) (by decide +kernel)) (zgw_spec (i := 34) (by decide +kernel)) ?_
  intro h0 p e s m args below meth c A ls Q hF hin hA hP hD hl fin
  obtain ⟨hx, hb, hml, hown, hts, hpre⟩ := id hF
  have hK := hpre.1
  have hS : va_S A s.heap s.heap [] := va_S.rf
  refine lv_aload_n hx hb dX0_init_4 rfl (lv_at hl 0 rfl) ?_
  refine lv_bipush (v := zJ 12) hx hb dX0_init_5 (by decide) ?_
  refine z_arr hF (atype := .int) (ty := .int) (t0 := 0) (a0 := (12, .inl (fun _ => zJ 0))) (zgw_spec (i := 72) (by decide +kernel)) rfl rfl (fun _ _ h => h) (fun cA => by rw [vp_cell_i, zJ_0]; rfl) (by decide) (by decide +kernel) (Nat.le_of_ble_eq_true rfl) ⟨Nat.le_of_ble_eq_true rfl, Nat.le_of_ble_eq_true rfl⟩ hP hD hS hA dX0_init_7 (fun a1 H hP hD hS => ?_)
  have hP : va_P D vwCl ([(h0, .inr (0, [.null, .null, .null, .null, .int (zJ 0), .int (zJ 0)]))] ++ [(a1, zai C4.1 12)]) H := hP
  have hD : va_D A ([(h0, .inr (0, [.null, .null, .null, .null, .int (zJ 0), .int (zJ 0)]))] ++ [(a1, zai C4.1 12)]) := hD
  refine va_putF (D := D) (ref := RX0) (ci := 0) (v := .ref a1) (ty := .array .int) (C := RX0) (T := TX0) (N := 6) hx hb hts (zcl 0 _ rfl).2.2 tyX0 tyX0_ok nmX0 hown hK hP hD hS 0 rfl rfl 0 (by decide) (hts _ (zgw_spec (i := 47) (by decide +kernel))) (fun _ h9 => h9) rfl hin rfl (by decide +kernel) rfl rfl (Nat.le_of_ble_eq_true rfl) dX0_init_9 (fun H locs hP hD hS => ?_)
  have hP : va_P D vwCl ([(h0, .inr (0, [.ref a1, .null, .null, .null, .int (zJ 0), .int (zJ 0)]))] ++ [(a1, zai C4.1 12)]) H := hP
  have hD : va_D A ([(h0, .inr (0, [.ref a1, .null, .null, .null, .int (zJ 0), .int (zJ 0)]))] ++ [(a1, zai C4.1 12)]) := hD
  refine lv_aload_n hx hb dX0_init_12 rfl (lv_at hl 0 rfl) ?_
  refine lv_bipush (v := zJ 12) hx hb dX0_init_13 (by decide) ?_
  refine z_arr hF (atype := .int) (ty := .int) (t0 := 0) (a0 := (12, .inl (fun _ => zJ 0))) (zgw_spec (i := 72) (by decide +kernel)) rfl rfl (fun _ _ h => h) (fun cA => by rw [vp_cell_i, zJ_0]; rfl) (by decide) (by decide +kernel) (Nat.le_of_ble_eq_true rfl) ⟨Nat.le_of_ble_eq_true rfl, Nat.le_of_ble_eq_true rfl⟩ hP hD hS hA dX0_init_15 (fun a2 H hP hD hS => ?_)
  have hP : va_P D vwCl ([(h0, .inr (0, [.ref a1, .null, .null, .null, .int (zJ 0), .int (zJ 0)]))] ++ [(a1, zai C4.1 12)] ++ [(a2, zai C4.1 12)]) H := hP
  have hD : va_D A ([(h0, .inr (0, [.ref a1, .null, .null, .null, .int (zJ 0), .int (zJ 0)]))] ++ [(a1, zai C4.1 12)] ++ [(a2, zai C4.1 12)]) := hD
  refine va_putF (D := D) (ref := RX0) (ci := 0) (v := .ref a2) (ty := .array .int) (C := RX0) (T := TX0) (N := 6) hx hb hts (zcl 0 _ rfl).2.2 tyX0 tyX0_ok nmX0 hown hK hP hD hS 0 rfl rfl 1 (by decide) (hts _ (zgw_spec (i := 50) (by decide +kernel))) (fun _ h9 => h9) rfl hin rfl (by decide +kernel) rfl rfl (Nat.le_of_ble_eq_true rfl) dX0_init_17 (fun H locs hP hD hS => ?_)
  have hP : va_P D vwCl ([(h0, .inr (0, [.ref a1, .ref a2, .null, .null, .int (zJ 0), .int (zJ 0)]))] ++ [(a1, zai C4.1 12)] ++ [(a2, zai C4.1 12)]) H := hP
  have hD : va_D A ([(h0, .inr (0, [.ref a1, .ref a2, .null, .null, .int (zJ 0), .int (zJ 0)]))] ++ [(a1, zai C4.1 12)] ++ [(a2, zai C4.1 12)]) := hD
  refine lv_aload_n hx hb dX0_init_20 rfl (lv_at hl 0 rfl) ?_
  refine lv_bipush (v := zJ 12) hx hb dX0_init_21 (by decide) ?_
  refine z_arr hF (atype := .int) (ty := .int) (t0 := 0) (a0 := (12, .inl (fun _ => zJ 0))) (zgw_spec (i := 72) (by decide +kernel)) rfl rfl (fun _ _ h => h) (fun cA => by rw [vp_cell_i, zJ_0]; rfl) (by decide) (by decide +kernel) (Nat.le_of_ble_eq_true rfl) ⟨Nat.le_of_ble_eq_true rfl, Nat.le_of_ble_eq_true rfl⟩ hP hD hS hA dX0_init_23 (fun a3 H hP hD hS => ?_)
  have hP : va_P D vwCl ([(h0, .inr (0, [.ref a1, .ref a2, .null, .null, .int (zJ 0), .int (zJ 0)]))] ++ [(a1, zai C4.1 12)] ++ [(a2, zai C4.1 12)] ++ [(a3, zai C4.1 12)]) H := hP
  have hD : va_D A ([(h0, .inr (0, [.ref a1, .ref a2, .null, .null, .int (zJ 0), .int (zJ 0)]))] ++ [(a1, zai C4.1 12)] ++ [(a2, zai C4.1 12)] ++ [(a3, zai C4.1 12)]) := hD
  refine va_putF (D := D) (ref := RX0) (ci := 0) (v := .ref a3) (ty := .array .int) (C := RX0) (T := TX0) (N := 6) hx hb hts (zcl 0 _ rfl).2.2 tyX0 tyX0_ok nmX0 hown hK hP hD hS 0 rfl rfl 2 (by decide) (hts _ (zgw_spec (i := 52) (by decide +kernel))) (fun _ h9 => h9) rfl hin rfl (by decide +kernel) rfl rfl (Nat.le_of_ble_eq_true rfl) dX0_init_25 (fun H locs hP hD hS => ?_)
  have hP : va_P D vwCl ([(h0, .inr (0, [.ref a1, .ref a2, .ref a3, .null, .int (zJ 0), .int (zJ 0)]))] ++ [(a1, zai C4.1 12)] ++ [(a2, zai C4.1 12)] ++ [(a3, zai C4.1 12)]) H := hP
  have hD : va_D A ([(h0, .inr (0, [.ref a1, .ref a2, .ref a3, .null, .int (zJ 0), .int (zJ 0)]))] ++ [(a1, zai C4.1 12)] ++ [(a2, zai C4.1 12)] ++ [(a3, zai C4.1 12)]) := hD
  refine lv_aload_n hx hb dX0_init_28 rfl (lv_at hl 0 rfl) ?_
  refine lv_bipush (v := zJ 12) hx hb dX0_init_29 (by decide) ?_
  refine z_arr hF (atype := .int) (ty := .int) (t0 := 0) (a0 := (12, .inl (fun _ => zJ 0))) (zgw_spec (i := 72) (by decide +kernel)) rfl rfl (fun _ _ h => h) (fun cA => by rw [vp_cell_i, zJ_0]; rfl) (by decide) (by decide +kernel) (Nat.le_of_ble_eq_true rfl) ⟨Nat.le_of_ble_eq_true rfl, Nat.le_of_ble_eq_true rfl⟩ hP hD hS hA dX0_init_31 (fun a4 H hP hD hS => ?_)
  have hP : va_P D vwCl ([(h0, .inr (0, [.ref a1, .ref a2, .ref a3, .null, .int (zJ 0), .int (zJ 0)]))] ++ [(a1, zai C4.1 12)] ++ [(a2, zai C4.1 12)] ++ [(a3, zai C4.1 12)] ++ [(a4, zai C4.1 12)]) H := hP
  have hD : va_D A ([(h0, .inr (0, [.ref a1, .ref a2, .ref a3, .null, .int (zJ 0), .int (zJ 0)]))] ++ [(a1, zai C4.1 12)] ++ [(a2, zai C4.1 12)] ++ [(a3, zai C4.1 12)] ++ [(a4, zai C4.1 12)]) := hD
  refine va_putF (D := D) (ref := RX0) (ci := 0) (v := .ref a4) (ty := .array .int) (C := RX0) (T := TX0) (N := 6) hx hb hts (zcl 0 _ rfl).2.2 tyX0 tyX0_ok nmX0 hown hK hP hD hS 0 rfl rfl 3 (by decide) (hts _ (zgw_spec (i := 54) (by decide +kernel))) (fun _ h9 => h9) rfl hin rfl (by decide +kernel) rfl rfl (Nat.le_of_ble_eq_true rfl) dX0_init_33 (fun H locs hP hD hS => ?_)
  have hP : va_P D vwCl ([(h0, .inr (0, [.ref a1, .ref a2, .ref a3, .ref a4, .int (zJ 0), .int (zJ 0)]))] ++ [(a1, zai C4.1 12)] ++ [(a2, zai C4.1 12)] ++ [(a3, zai C4.1 12)] ++ [(a4, zai C4.1 12)]) H := hP
  have hD : va_D A ([(h0, .inr (0, [.ref a1, .ref a2, .ref a3, .ref a4, .int (zJ 0), .int (zJ 0)]))] ++ [(a1, zai C4.1 12)] ++ [(a2, zai C4.1 12)] ++ [(a3, zai C4.1 12)] ++ [(a4, zai C4.1 12)]) := hD
  refine lv_aload_n hx hb dX0_init_36 rfl (lv_at hl 0 rfl) ?_
  refine lv_bipush (v := zJ 30) hx hb dX0_init_37 (by decide) ?_
  refine va_put (D := D) (ref := RX0) (ci := 0) (v := .int (zJ 30)) (ty := .int) (C := RX0) (T := TX0) (N := 6) hx hb hts (zcl 0 _ rfl).2.2 tyX0 tyX0_ok nmX0 hown hK hP hD hS 0 rfl rfl 5 (by decide) (hts _ (zgw_spec (i := 57) (by decide +kernel))) (fun _ h9 => h9) rfl (by decide +kernel) rfl rfl (Nat.le_of_ble_eq_true rfl) dX0_init_39 (fun H locs hP hD hS => ?_)
  have hP : va_P D vwCl ([(h0, .inr (0, [.ref a1, .ref a2, .ref a3, .ref a4, .int (zJ 0), .int (zJ 30)]))] ++ [(a1, zai C4.1 12)] ++ [(a2, zai C4.1 12)] ++ [(a3, zai C4.1 12)] ++ [(a4, zai C4.1 12)]) H := hP
  have hD : va_D A ([(h0, .inr (0, [.ref a1, .ref a2, .ref a3, .ref a4, .int (zJ 0), .int (zJ 30)]))] ++ [(a1, zai C4.1 12)] ++ [(a2, zai C4.1 12)] ++ [(a3, zai C4.1 12)] ++ [(a4, zai C4.1 12)]) := hD
  exact fin H _ 42 _ _ _ (fun i => if i = 0 then h0 else if i < 2 then a1 else if i < 3 then a2 else if i < 4 then a3 else if i < 5 then a4 else 0) (Nat.le_of_ble_eq_true rfl) (Nat.le_of_ble_eq_true rfl) rfl hP hD hS dX0_init_42
set_option maxHeartbeats 4000000 in
set_option maxRecDepth 100000 in
theorem k_Nodes (l : Launch) (D : va_G) (C4 : zC4) : zCtr l D C4 yX2_init cX2_init 1 1 1 400 2 [.null, .int (zJ 0)] (fun q => wNodes C4 q) := by
  refine zCtr.of (by decide) (by decide) (by decide) rfl dX2_init_0 dX2_init_1 (zgw_spec (i := 78) (by decide +kernel)) (zgw_spec (i := 33) (by decide +kernel)) (zgw_spec (i := 34) (by decide +kernel)) ?_
  intro h0 p e s m args below meth c A ls Q hF hin hA hP hD hl fin
  obtain ⟨hx, hb, hml, hown, hts, hpre⟩ := id hF
  have hK := hpre.1
  have hS : va_S A s.heap s.heap [] := va_S.rf
  refine lv_aload_n hx hb dX2_init_4 rfl (lv_at hl 0 rfl) ?_
  refine lv_sipush (v := zJ 400) hx hb dX2_init_5 (by decide) ?_
  refine z_arr hF (atype := .long) (ty := .long) (t0 := 2) (a0 := (400, .inr (.inl (fun _ => zJL 0)))) (zgw_spec (i := 88) (by decide +kernel)) rfl rfl (fun _ _ h => h) (fun cA => by rw [vp_cell_l, zJL_0]; rfl) (by decide) (by decide +kernel) (Nat.le_of_ble_eq_true rfl) ⟨Nat.le_of_ble_eq_true rfl, Nat.le_of_ble_eq_true rfl⟩ hP hD hS hA dX2_init_8 (fun a1 H hP hD hS => ?_)
  have hP : va_P D vwCl ([(h0, .inr (2, [.null, .int (zJ 0)]))] ++ [(a1, zal C4.2.2.1 400)]) H := hP
  have hD : va_D A ([(h0, .inr (2, [.null, .int (zJ 0)]))] ++ [(a1, zal C4.2.2.1 400)]) := hD
  refine va_putF (D := D) (ref := RX2) (ci := 2) (v := .ref a1) (ty := .array .long) (C := RX2) (T := TX2) (N := 2) hx hb hts (zcl 2 _ rfl).2.2 tyX2 tyX2_ok nmX2 hown hK hP hD hS 0 rfl rfl 0 (by decide) (hts _ (zgw_spec (i := 79) (by decide +kernel))) (fun _ h9 => h9) rfl hin rfl (by decide +kernel) rfl rfl (Nat.le_of_ble_eq_true rfl) dX2_init_10 (fun H locs hP hD hS => ?_)
  have hP : va_P D vwCl ([(h0, .inr (2, [.ref a1, .int (zJ 0)]))] ++ [(a1, zal C4.2.2.1 400)]) H := hP
  have hD : va_D A ([(h0, .inr (2, [.ref a1, .int (zJ 0)]))] ++ [(a1, zal C4.2.2.1 400)]) := hD
  exact fin H _ 13 _ _ _ (fun i => if i = 0 then h0 else if i < 2 then a1 else 0) (Nat.le_of_ble_eq_true rfl) (Nat.le_of_ble_eq_true rfl) rfl hP hD hS dX2_init_13
set_option maxHeartbeats 4000000 in
set_option maxRecDepth 100000 in
theorem k_State (l : Launch) (D : va_G) (C4 : zC4) : zCtr l D C4 yX3_init cX3_init 1 2 7 456 3 [.null, .null, .int (zJ 0), .int (zJ 0), .int (zJ 0), .int (zJ 0), .int (zJ 0)] (fun q => wState C4 q) := by
  refine zCtr.of (by decide) (by decide) (by decide) rfl dX3_init_0 dX3_init_1 (zgw_spec (i := 40) (by decide +kernel)) (zgw_spec (i := 33) (by decide +kernel)) (zgw_spec (i := 34) (by decide +kernel)) ?_
  intro h0 p e s m args below meth c A ls Q hF hin hA hP hD hl fin
  obtain ⟨hx, hb, hml, hown, hts, hpre⟩ := id hF
  have hK := hpre.1
  have hS : va_S A s.heap s.heap [] := va_S.rf
  refine lv_aload_n hx hb dX3_init_4 rfl (lv_at hl 0 rfl) ?_
  have hfs1 : ∀ j, j < 6 → defaultValue (tyX0 j) = vp_V [.null, .null, .null, .null, .int (zJ 0), .int (zJ 0)] j := fun j hj => by
    rcases (show j = 0 ∨ j = 1 ∨ j = 2 ∨ j = 3 ∨ j = 4 ∨ j = 5 by omega) with rfl | rfl | rfl | rfl | rfl | rfl <;> first | rfl | (show Value.int 0 = Value.int (zJ 0); rw [zJ_0])
  refine z_new hF (k_Bag l D C4) true (zgw_spec (i := 45) (by decide +kernel)) (zgw_spec (i := 20) (by decide +kernel)) (zgw_spec (i := 44) (by decide +kernel)) rfl (by decide +kernel) (show Cond.methodLinkNest yX3_init.cls 11 yX0_init "BranchedSums" ∈ lw_tbl from (List.mem_of_getElem? (i := 43) (by decide +kernel))) tyX0 tyX0_ok (zgw_spec (i := 41) (by decide +kernel)) (zgw_spec (i := 42) (by decide +kernel)) rfl rfl hfs1 ⟨Nat.le_of_ble_eq_true rfl, Nat.le_of_ble_eq_true rfl⟩ ⟨Nat.le_of_ble_eq_true rfl, Nat.le_of_ble_eq_true rfl⟩ hP hD hS hA hl.1 (Nat.le_of_ble_eq_true rfl) dX3_init_5 dX3_init_8 dX3_init_9 (fun s1 H locs hP hD hS => ?_)
  have hP : va_P D vwCl ([(h0, .inr (3, [.null, .null, .int (zJ 0), .int (zJ 0), .int (zJ 0), .int (zJ 0), .int (zJ 0)]))] ++ wBag C4 s1) H := hP
  have hD : va_D A ([(h0, .inr (3, [.null, .null, .int (zJ 0), .int (zJ 0), .int (zJ 0), .int (zJ 0), .int (zJ 0)]))] ++ wBag C4 s1) := hD
  refine va_putF (D := D) (ref := RX3) (ci := 3) (v := .ref (s1 0)) (ty := .object "BranchedSums$Bag") (C := RX3) (T := TX3) (N := 7) hx hb hts (zcl 3 _ rfl).2.2 tyX3 tyX3_ok nmX3 hown hK hP hD hS 0 rfl rfl 0 (by decide) (hts _ (zgw_spec (i := 89) (by decide +kernel))) (fun _ h9 => h9) rfl hin rfl (by decide +kernel) rfl rfl (Nat.le_of_ble_eq_true rfl) dX3_init_12 (fun H locs hP hD hS => ?_)
  have hP : va_P D vwCl ([(h0, .inr (3, [.ref (s1 0), .null, .int (zJ 0), .int (zJ 0), .int (zJ 0), .int (zJ 0), .int (zJ 0)]))] ++ wBag C4 s1) H := hP
  have hD : va_D A ([(h0, .inr (3, [.ref (s1 0), .null, .int (zJ 0), .int (zJ 0), .int (zJ 0), .int (zJ 0), .int (zJ 0)]))] ++ wBag C4 s1) := hD
  refine lv_aload_n hx hb dX3_init_15 rfl (lv_at hl 0 rfl) ?_
  have hfs2 : ∀ j, j < 2 → defaultValue (tyX2 j) = vp_V [.null, .int (zJ 0)] j := fun j hj => by
    rcases (show j = 0 ∨ j = 1 by omega) with rfl | rfl <;> first | rfl | (show Value.int 0 = Value.int (zJ 0); rw [zJ_0])
  refine z_new hF (k_Nodes l D C4) true (zgw_spec (i := 77) (by decide +kernel)) (zgw_spec (i := 21) (by decide +kernel)) (zgw_spec (i := 76) (by decide +kernel)) rfl (by decide +kernel) (show Cond.methodLinkNest yX3_init.cls 20 yX2_init "BranchedSums" ∈ lw_tbl from (List.mem_of_getElem? (i := 75) (by decide +kernel))) tyX2 tyX2_ok (zgw_spec (i := 73) (by decide +kernel)) (zgw_spec (i := 74) (by decide +kernel)) rfl rfl hfs2 ⟨Nat.le_of_ble_eq_true rfl, Nat.le_of_ble_eq_true rfl⟩ ⟨Nat.le_of_ble_eq_true rfl, Nat.le_of_ble_eq_true rfl⟩ hP hD hS hA hl.1 (Nat.le_of_ble_eq_true rfl) dX3_init_16 dX3_init_19 dX3_init_20 (fun s2 H locs hP hD hS => ?_)
  have hP : va_P D vwCl ([(h0, .inr (3, [.ref (s1 0), .null, .int (zJ 0), .int (zJ 0), .int (zJ 0), .int (zJ 0), .int (zJ 0)]))] ++ wBag C4 s1 ++ wNodes C4 s2) H := hP
  have hD : va_D A ([(h0, .inr (3, [.ref (s1 0), .null, .int (zJ 0), .int (zJ 0), .int (zJ 0), .int (zJ 0), .int (zJ 0)]))] ++ wBag C4 s1 ++ wNodes C4 s2) := hD
  refine va_putF (D := D) (ref := RX3) (ci := 3) (v := .ref (s2 0)) (ty := .object "BranchedSums$Nodes") (C := RX3) (T := TX3) (N := 7) hx hb hts (zcl 3 _ rfl).2.2 tyX3 tyX3_ok nmX3 hown hK hP hD hS 0 rfl rfl 1 (by decide) (hts _ (zgw_spec (i := 91) (by decide +kernel))) (fun _ h9 => h9) rfl hin rfl (by decide +kernel) rfl rfl (Nat.le_of_ble_eq_true rfl) dX3_init_23 (fun H locs hP hD hS => ?_)
  have hP : va_P D vwCl ([(h0, .inr (3, [.ref (s1 0), .ref (s2 0), .int (zJ 0), .int (zJ 0), .int (zJ 0), .int (zJ 0), .int (zJ 0)]))] ++ wBag C4 s1 ++ wNodes C4 s2) H := hP
  have hD : va_D A ([(h0, .inr (3, [.ref (s1 0), .ref (s2 0), .int (zJ 0), .int (zJ 0), .int (zJ 0), .int (zJ 0), .int (zJ 0)]))] ++ wBag C4 s1 ++ wNodes C4 s2) := hD
  exact fin H _ 26 _ _ _ (fun i => if i = 0 then h0 else if i < 6 then s1 (i - 1) else if i < 8 then s2 (i - 6) else 0) (Nat.le_of_ble_eq_true rfl) (Nat.le_of_ble_eq_true rfl) rfl hP hD hS dX3_init_26
set_option maxHeartbeats 4000000 in
set_option maxRecDepth 100000 in
theorem k_Hist (l : Launch) (D : va_G) (C4 : zC4) : zCtr l D C4 yX1_init cX1_init 2 3 33 1856 1 [.null, .int (zJ 0), .int (zJ 0)] (fun q => wHist C4 q) := by
  refine zCtr.of (by decide) (by decide) (by decide) rfl dX1_init_0 dX1_init_1 (zgw_spec (i := 123) (by decide +kernel)) (zgw_spec (i := 33) (by decide +kernel)) (zgw_spec (i := 34) (by decide +kernel)) ?_
  intro h0 p e s m args below meth c A ls Q hF hin hA hP hD hl fin
  obtain ⟨hx, hb, hml, hown, hts, hpre⟩ := id hF
  have hK := hpre.1
  have hS : va_S A s.heap s.heap [] := va_S.rf
  refine lv_aload_n hx hb dX1_init_4 rfl (lv_at hl 0 rfl) ?_
  refine lv_iconst (v := zJ 4) hx hb dX1_init_5 (by decide) ?_
  refine z_ringA hF (N' := 4) (zgw_spec (i := 124) (by decide +kernel)) (by decide) (by decide +kernel) (Nat.le_of_ble_eq_true rfl) ⟨Nat.le_of_ble_eq_true rfl, Nat.le_of_ble_eq_true rfl⟩ hP hD hS hA dX1_init_6 (fun a1 H hP hD hS => ?_)
  have hP : va_P D vwCl ([(h0, .inr (1, [.null, .int (zJ 0), .int (zJ 0)]))] ++ [(a1, zar C4.2.2.2 (fun _ => none))]) H := hP
  have hD : va_D A ([(h0, .inr (1, [.null, .int (zJ 0), .int (zJ 0)]))] ++ [(a1, zar C4.2.2.2 (fun _ => none))]) := hD
  refine va_putF (D := D) (ref := RX1) (ci := 1) (v := .ref a1) (ty := .array (.object "BranchedSums$State")) (C := RX1) (T := TX1) (N := 3) hx hb hts (zcl 1 _ rfl).2.2 tyX1 tyX1_ok nmX1 hown hK hP hD hS 0 rfl rfl 0 (by decide) (hts _ (zgw_spec (i := 127) (by decide +kernel))) (fun _ h9 => h9) rfl hin rfl (by decide +kernel) rfl rfl (Nat.le_of_ble_eq_true rfl) dX1_init_9 (fun H locs hP hD hS => ?_)
  have hP : va_P D vwCl ([(h0, .inr (1, [.ref a1, .int (zJ 0), .int (zJ 0)]))] ++ [(a1, zar C4.2.2.2 (fun _ => none))]) H := hP
  have hD : va_D A ([(h0, .inr (1, [.ref a1, .int (zJ 0), .int (zJ 0)]))] ++ [(a1, zar C4.2.2.2 (fun _ => none))]) := hD
  refine lv_iconst (v := zJ 0) hx hb dX1_init_12 (by decide) ?_
  refine lv_istore_n (lv' := [(1, .int (zJ 0)), (0, .ref h0)]) hx hb dX1_init_13 rfl hl (by decide) rfl (fun ls hl => ?_)
  refine lv_iload_n hx hb dX1_init_14 rfl (lv_at hl 0 rfl) ?_
  refine lv_aload_n hx hb dX1_init_15 rfl (lv_at hl 1 rfl) ?_
  refine va_get (ref := RX1) (C := RX1) (T := TX1) (N := 3) hx hb hts (zcl 1 _ rfl).2.2 hown hK hP 0 rfl rfl 0 (by decide) (hts _ (zgw_spec (i := 127) (by decide +kernel))) (fun _ h9 => h9) rfl dX1_init_16 ?_
  refine va_alen (v := zJ 4) hx hb hK hP 1 3 rfl rfl (show Int32.ofNat 4 = zJ 4 by decide) dX1_init_19 ?_
  refine lv_icmp_ge (tgt := 42) hx hb dX1_init_20 (by decide) (fun h => absurd h (by decide)) (fun _ => ?_)
  refine lv_aload_n hx hb dX1_init_23 rfl (lv_at hl 1 rfl) ?_
  refine va_get (ref := RX1) (C := RX1) (T := TX1) (N := 3) hx hb hts (zcl 1 _ rfl).2.2 hown hK hP 0 rfl rfl 0 (by decide) (hts _ (zgw_spec (i := 127) (by decide +kernel))) (fun _ h9 => h9) rfl dX1_init_24 ?_
  refine lv_iload_n hx hb dX1_init_27 rfl (lv_at hl 0 rfl) ?_
  have hfs2 : ∀ j, j < 7 → defaultValue (tyX3 j) = vp_V [.null, .null, .int (zJ 0), .int (zJ 0), .int (zJ 0), .int (zJ 0), .int (zJ 0)] j := fun j hj => by
    rcases (show j = 0 ∨ j = 1 ∨ j = 2 ∨ j = 3 ∨ j = 4 ∨ j = 5 ∨ j = 6 by omega) with rfl | rfl | rfl | rfl | rfl | rfl | rfl <;> first | rfl | (show Value.int 0 = Value.int (zJ 0); rw [zJ_0])
  refine z_new hF (k_State l D C4) true (zgw_spec (i := 39) (by decide +kernel)) (zgw_spec (i := 19) (by decide +kernel)) (zgw_spec (i := 38) (by decide +kernel)) rfl (by decide +kernel) (show Cond.methodLinkNest yX1_init.cls 17 yX3_init "BranchedSums" ∈ lw_tbl from (List.mem_of_getElem? (i := 126) (by decide +kernel))) tyX3 tyX3_ok (zgw_spec (i := 124) (by decide +kernel)) (zgw_spec (i := 36) (by decide +kernel)) rfl rfl hfs2 ⟨Nat.le_of_ble_eq_true rfl, Nat.le_of_ble_eq_true rfl⟩ ⟨Nat.le_of_ble_eq_true rfl, Nat.le_of_ble_eq_true rfl⟩ hP hD hS hA hl.1 (Nat.le_of_ble_eq_true rfl) dX1_init_28 dX1_init_31 dX1_init_32 (fun s2 H locs hP hD hS => ?_)
  have hP : va_P D vwCl ([(h0, .inr (1, [.ref a1, .int (zJ 0), .int (zJ 0)]))] ++ [(a1, zar C4.2.2.2 (fun _ => none))] ++ wState C4 s2) H := hP
  have hD : va_D A ([(h0, .inr (1, [.ref a1, .int (zJ 0), .int (zJ 0)]))] ++ [(a1, zar C4.2.2.2 (fun _ => none))] ++ wState C4 s2) := hD
  refine va_astq hx hb hK hP hD hS 1 3 2 3 rfl rfl rfl rfl (zJ_vpin (by decide) (by decide) (by decide)) dX1_init_35 (fun H locs hP hD hS => ?_)
  have hP : va_P D vwCl ([(h0, .inr (1, [.ref a1, .int (zJ 0), .int (zJ 0)]))] ++ [(a1, zar C4.2.2.2 (va_up (fun _ => none) 0 (some (s2 0))))] ++ wState C4 s2) H := hP
  have hD : va_D A ([(h0, .inr (1, [.ref a1, .int (zJ 0), .int (zJ 0)]))] ++ [(a1, zar C4.2.2.2 (va_up (fun _ => none) 0 (some (s2 0))))] ++ wState C4 s2) := hD
  refine lv_iinc (v := zJ 1) (lv' := [(1, .int (zJ 1)), (0, .ref h0)]) (k := 0) hx hb dX1_init_36 hl rfl (by decide) (by decide) rfl (fun ls hl => ?_)
  refine lv_goto (tgt := 14) hx hb dX1_init_39 (by decide) ?_
  refine lv_iload_n hx hb dX1_init_14 rfl (lv_at hl 0 rfl) ?_
  refine lv_aload_n hx hb dX1_init_15 rfl (lv_at hl 1 rfl) ?_
  refine va_get (ref := RX1) (C := RX1) (T := TX1) (N := 3) hx hb hts (zcl 1 _ rfl).2.2 hown hK hP 0 rfl rfl 0 (by decide) (hts _ (zgw_spec (i := 127) (by decide +kernel))) (fun _ h9 => h9) rfl dX1_init_16 ?_
  refine va_alen (v := zJ 4) hx hb hK hP 1 3 rfl rfl (show Int32.ofNat 4 = zJ 4 by decide) dX1_init_19 ?_
  refine lv_icmp_ge (tgt := 42) hx hb dX1_init_20 (by decide) (fun h => absurd h (by decide)) (fun _ => ?_)
  refine lv_aload_n hx hb dX1_init_23 rfl (lv_at hl 1 rfl) ?_
  refine va_get (ref := RX1) (C := RX1) (T := TX1) (N := 3) hx hb hts (zcl 1 _ rfl).2.2 hown hK hP 0 rfl rfl 0 (by decide) (hts _ (zgw_spec (i := 127) (by decide +kernel))) (fun _ h9 => h9) rfl dX1_init_24 ?_
  refine lv_iload_n hx hb dX1_init_27 rfl (lv_at hl 0 rfl) ?_
  have hfs3 : ∀ j, j < 7 → defaultValue (tyX3 j) = vp_V [.null, .null, .int (zJ 0), .int (zJ 0), .int (zJ 0), .int (zJ 0), .int (zJ 0)] j := fun j hj => by
    rcases (show j = 0 ∨ j = 1 ∨ j = 2 ∨ j = 3 ∨ j = 4 ∨ j = 5 ∨ j = 6 by omega) with rfl | rfl | rfl | rfl | rfl | rfl | rfl <;> first | rfl | (show Value.int 0 = Value.int (zJ 0); rw [zJ_0])
  refine z_new hF (k_State l D C4) true (zgw_spec (i := 39) (by decide +kernel)) (zgw_spec (i := 19) (by decide +kernel)) (zgw_spec (i := 38) (by decide +kernel)) rfl (by decide +kernel) (show Cond.methodLinkNest yX1_init.cls 17 yX3_init "BranchedSums" ∈ lw_tbl from (List.mem_of_getElem? (i := 126) (by decide +kernel))) tyX3 tyX3_ok (zgw_spec (i := 124) (by decide +kernel)) (zgw_spec (i := 36) (by decide +kernel)) rfl rfl hfs3 ⟨Nat.le_of_ble_eq_true rfl, Nat.le_of_ble_eq_true rfl⟩ ⟨Nat.le_of_ble_eq_true rfl, Nat.le_of_ble_eq_true rfl⟩ hP hD hS hA hl.1 (Nat.le_of_ble_eq_true rfl) dX1_init_28 dX1_init_31 dX1_init_32 (fun s3 H locs hP hD hS => ?_)
  have hP : va_P D vwCl ([(h0, .inr (1, [.ref a1, .int (zJ 0), .int (zJ 0)]))] ++ [(a1, zar C4.2.2.2 (va_up (fun _ => none) 0 (some (s2 0))))] ++ wState C4 s2 ++ wState C4 s3) H := hP
  have hD : va_D A ([(h0, .inr (1, [.ref a1, .int (zJ 0), .int (zJ 0)]))] ++ [(a1, zar C4.2.2.2 (va_up (fun _ => none) 0 (some (s2 0))))] ++ wState C4 s2 ++ wState C4 s3) := hD
  refine va_astq hx hb hK hP hD hS 1 3 10 3 rfl rfl rfl rfl (zJ_vpin (by decide) (by decide) (by decide)) dX1_init_35 (fun H locs hP hD hS => ?_)
  have hP : va_P D vwCl ([(h0, .inr (1, [.ref a1, .int (zJ 0), .int (zJ 0)]))] ++ [(a1, zar C4.2.2.2 (va_up (va_up (fun _ => none) 0 (some (s2 0))) 1 (some (s3 0))))] ++ wState C4 s2 ++ wState C4 s3) H := hP
  have hD : va_D A ([(h0, .inr (1, [.ref a1, .int (zJ 0), .int (zJ 0)]))] ++ [(a1, zar C4.2.2.2 (va_up (va_up (fun _ => none) 0 (some (s2 0))) 1 (some (s3 0))))] ++ wState C4 s2 ++ wState C4 s3) := hD
  refine lv_iinc (v := zJ 2) (lv' := [(1, .int (zJ 2)), (0, .ref h0)]) (k := 0) hx hb dX1_init_36 hl rfl (by decide) (by decide) rfl (fun ls hl => ?_)
  refine lv_goto (tgt := 14) hx hb dX1_init_39 (by decide) ?_
  refine lv_iload_n hx hb dX1_init_14 rfl (lv_at hl 0 rfl) ?_
  refine lv_aload_n hx hb dX1_init_15 rfl (lv_at hl 1 rfl) ?_
  refine va_get (ref := RX1) (C := RX1) (T := TX1) (N := 3) hx hb hts (zcl 1 _ rfl).2.2 hown hK hP 0 rfl rfl 0 (by decide) (hts _ (zgw_spec (i := 127) (by decide +kernel))) (fun _ h9 => h9) rfl dX1_init_16 ?_
  refine va_alen (v := zJ 4) hx hb hK hP 1 3 rfl rfl (show Int32.ofNat 4 = zJ 4 by decide) dX1_init_19 ?_
  refine lv_icmp_ge (tgt := 42) hx hb dX1_init_20 (by decide) (fun h => absurd h (by decide)) (fun _ => ?_)
  refine lv_aload_n hx hb dX1_init_23 rfl (lv_at hl 1 rfl) ?_
  refine va_get (ref := RX1) (C := RX1) (T := TX1) (N := 3) hx hb hts (zcl 1 _ rfl).2.2 hown hK hP 0 rfl rfl 0 (by decide) (hts _ (zgw_spec (i := 127) (by decide +kernel))) (fun _ h9 => h9) rfl dX1_init_24 ?_
  refine lv_iload_n hx hb dX1_init_27 rfl (lv_at hl 0 rfl) ?_
  have hfs4 : ∀ j, j < 7 → defaultValue (tyX3 j) = vp_V [.null, .null, .int (zJ 0), .int (zJ 0), .int (zJ 0), .int (zJ 0), .int (zJ 0)] j := fun j hj => by
    rcases (show j = 0 ∨ j = 1 ∨ j = 2 ∨ j = 3 ∨ j = 4 ∨ j = 5 ∨ j = 6 by omega) with rfl | rfl | rfl | rfl | rfl | rfl | rfl <;> first | rfl | (show Value.int 0 = Value.int (zJ 0); rw [zJ_0])
  refine z_new hF (k_State l D C4) true (zgw_spec (i := 39) (by decide +kernel)) (zgw_spec (i := 19) (by decide +kernel)) (zgw_spec (i := 38) (by decide +kernel)) rfl (by decide +kernel) (show Cond.methodLinkNest yX1_init.cls 17 yX3_init "BranchedSums" ∈ lw_tbl from (List.mem_of_getElem? (i := 126) (by decide +kernel))) tyX3 tyX3_ok (zgw_spec (i := 124) (by decide +kernel)) (zgw_spec (i := 36) (by decide +kernel)) rfl rfl hfs4 ⟨Nat.le_of_ble_eq_true rfl, Nat.le_of_ble_eq_true rfl⟩ ⟨Nat.le_of_ble_eq_true rfl, Nat.le_of_ble_eq_true rfl⟩ hP hD hS hA hl.1 (Nat.le_of_ble_eq_true rfl) dX1_init_28 dX1_init_31 dX1_init_32 (fun s4 H locs hP hD hS => ?_)
  have hP : va_P D vwCl ([(h0, .inr (1, [.ref a1, .int (zJ 0), .int (zJ 0)]))] ++ [(a1, zar C4.2.2.2 (va_up (va_up (fun _ => none) 0 (some (s2 0))) 1 (some (s3 0))))] ++ wState C4 s2 ++ wState C4 s3 ++ wState C4 s4) H := hP
  have hD : va_D A ([(h0, .inr (1, [.ref a1, .int (zJ 0), .int (zJ 0)]))] ++ [(a1, zar C4.2.2.2 (va_up (va_up (fun _ => none) 0 (some (s2 0))) 1 (some (s3 0))))] ++ wState C4 s2 ++ wState C4 s3 ++ wState C4 s4) := hD
  refine va_astq hx hb hK hP hD hS 1 3 18 3 rfl rfl rfl rfl (zJ_vpin (by decide) (by decide) (by decide)) dX1_init_35 (fun H locs hP hD hS => ?_)
  have hP : va_P D vwCl ([(h0, .inr (1, [.ref a1, .int (zJ 0), .int (zJ 0)]))] ++ [(a1, zar C4.2.2.2 (va_up (va_up (va_up (fun _ => none) 0 (some (s2 0))) 1 (some (s3 0))) 2 (some (s4 0))))] ++ wState C4 s2 ++ wState C4 s3 ++ wState C4 s4) H := hP
  have hD : va_D A ([(h0, .inr (1, [.ref a1, .int (zJ 0), .int (zJ 0)]))] ++ [(a1, zar C4.2.2.2 (va_up (va_up (va_up (fun _ => none) 0 (some (s2 0))) 1 (some (s3 0))) 2 (some (s4 0))))] ++ wState C4 s2 ++ wState C4 s3 ++ wState C4 s4) := hD
  refine lv_iinc (v := zJ 3) (lv' := [(1, .int (zJ 3)), (0, .ref h0)]) (k := 0) hx hb dX1_init_36 hl rfl (by decide) (by decide) rfl (fun ls hl => ?_)
  refine lv_goto (tgt := 14) hx hb dX1_init_39 (by decide) ?_
  refine lv_iload_n hx hb dX1_init_14 rfl (lv_at hl 0 rfl) ?_
  refine lv_aload_n hx hb dX1_init_15 rfl (lv_at hl 1 rfl) ?_
  refine va_get (ref := RX1) (C := RX1) (T := TX1) (N := 3) hx hb hts (zcl 1 _ rfl).2.2 hown hK hP 0 rfl rfl 0 (by decide) (hts _ (zgw_spec (i := 127) (by decide +kernel))) (fun _ h9 => h9) rfl dX1_init_16 ?_
  refine va_alen (v := zJ 4) hx hb hK hP 1 3 rfl rfl (show Int32.ofNat 4 = zJ 4 by decide) dX1_init_19 ?_
  refine lv_icmp_ge (tgt := 42) hx hb dX1_init_20 (by decide) (fun h => absurd h (by decide)) (fun _ => ?_)
  refine lv_aload_n hx hb dX1_init_23 rfl (lv_at hl 1 rfl) ?_
  refine va_get (ref := RX1) (C := RX1) (T := TX1) (N := 3) hx hb hts (zcl 1 _ rfl).2.2 hown hK hP 0 rfl rfl 0 (by decide) (hts _ (zgw_spec (i := 127) (by decide +kernel))) (fun _ h9 => h9) rfl dX1_init_24 ?_
  refine lv_iload_n hx hb dX1_init_27 rfl (lv_at hl 0 rfl) ?_
  have hfs5 : ∀ j, j < 7 → defaultValue (tyX3 j) = vp_V [.null, .null, .int (zJ 0), .int (zJ 0), .int (zJ 0), .int (zJ 0), .int (zJ 0)] j := fun j hj => by
    rcases (show j = 0 ∨ j = 1 ∨ j = 2 ∨ j = 3 ∨ j = 4 ∨ j = 5 ∨ j = 6 by omega) with rfl | rfl | rfl | rfl | rfl | rfl | rfl <;> first | rfl | (show Value.int 0 = Value.int (zJ 0); rw [zJ_0])
  refine z_new hF (k_State l D C4) true (zgw_spec (i := 39) (by decide +kernel)) (zgw_spec (i := 19) (by decide +kernel)) (zgw_spec (i := 38) (by decide +kernel)) rfl (by decide +kernel) (show Cond.methodLinkNest yX1_init.cls 17 yX3_init "BranchedSums" ∈ lw_tbl from (List.mem_of_getElem? (i := 126) (by decide +kernel))) tyX3 tyX3_ok (zgw_spec (i := 124) (by decide +kernel)) (zgw_spec (i := 36) (by decide +kernel)) rfl rfl hfs5 ⟨Nat.le_of_ble_eq_true rfl, Nat.le_of_ble_eq_true rfl⟩ ⟨Nat.le_of_ble_eq_true rfl, Nat.le_of_ble_eq_true rfl⟩ hP hD hS hA hl.1 (Nat.le_of_ble_eq_true rfl) dX1_init_28 dX1_init_31 dX1_init_32 (fun s5 H locs hP hD hS => ?_)
  have hP : va_P D vwCl ([(h0, .inr (1, [.ref a1, .int (zJ 0), .int (zJ 0)]))] ++ [(a1, zar C4.2.2.2 (va_up (va_up (va_up (fun _ => none) 0 (some (s2 0))) 1 (some (s3 0))) 2 (some (s4 0))))] ++ wState C4 s2 ++ wState C4 s3 ++ wState C4 s4 ++ wState C4 s5) H := hP
  have hD : va_D A ([(h0, .inr (1, [.ref a1, .int (zJ 0), .int (zJ 0)]))] ++ [(a1, zar C4.2.2.2 (va_up (va_up (va_up (fun _ => none) 0 (some (s2 0))) 1 (some (s3 0))) 2 (some (s4 0))))] ++ wState C4 s2 ++ wState C4 s3 ++ wState C4 s4 ++ wState C4 s5) := hD
  refine va_astq hx hb hK hP hD hS 1 3 26 3 rfl rfl rfl rfl (zJ_vpin (by decide) (by decide) (by decide)) dX1_init_35 (fun H locs hP hD hS => ?_)
  have hP : va_P D vwCl ([(h0, .inr (1, [.ref a1, .int (zJ 0), .int (zJ 0)]))] ++ [(a1, zar C4.2.2.2 (va_up (va_up (va_up (va_up (fun _ => none) 0 (some (s2 0))) 1 (some (s3 0))) 2 (some (s4 0))) 3 (some (s5 0))))] ++ wState C4 s2 ++ wState C4 s3 ++ wState C4 s4 ++ wState C4 s5) H := hP
  have hD : va_D A ([(h0, .inr (1, [.ref a1, .int (zJ 0), .int (zJ 0)]))] ++ [(a1, zar C4.2.2.2 (va_up (va_up (va_up (va_up (fun _ => none) 0 (some (s2 0))) 1 (some (s3 0))) 2 (some (s4 0))) 3 (some (s5 0))))] ++ wState C4 s2 ++ wState C4 s3 ++ wState C4 s4 ++ wState C4 s5) := hD
  refine lv_iinc (v := zJ 4) (lv' := [(1, .int (zJ 4)), (0, .ref h0)]) (k := 0) hx hb dX1_init_36 hl rfl (by decide) (by decide) rfl (fun ls hl => ?_)
  refine lv_goto (tgt := 14) hx hb dX1_init_39 (by decide) ?_
  refine lv_iload_n hx hb dX1_init_14 rfl (lv_at hl 0 rfl) ?_
  refine lv_aload_n hx hb dX1_init_15 rfl (lv_at hl 1 rfl) ?_
  refine va_get (ref := RX1) (C := RX1) (T := TX1) (N := 3) hx hb hts (zcl 1 _ rfl).2.2 hown hK hP 0 rfl rfl 0 (by decide) (hts _ (zgw_spec (i := 127) (by decide +kernel))) (fun _ h9 => h9) rfl dX1_init_16 ?_
  refine va_alen (v := zJ 4) hx hb hK hP 1 3 rfl rfl (show Int32.ofNat 4 = zJ 4 by decide) dX1_init_19 ?_
  refine lv_icmp_ge (tgt := 42) hx hb dX1_init_20 (by decide) (fun _ => ?_) (fun h => absurd (by decide) h)
  exact fin H _ 42 _ _ _ (fun i => if i = 0 then h0 else if i < 2 then a1 else if i < 10 then s2 (i - 2) else if i < 18 then s3 (i - 10) else if i < 26 then s4 (i - 18) else if i < 34 then s5 (i - 26) else 0) (Nat.le_of_ble_eq_true rfl) (Nat.le_of_ble_eq_true rfl) rfl hP hD hS dX1_init_42
set_option maxHeartbeats 4000000 in
set_option maxRecDepth 100000 in
theorem k_Text (l : Launch) (D : va_G) (C4 : zC4) : zCtr l D C4 yX4_init cX4_init 1 1 4 116 4 [.null, .null, .null, .null, .int (zJ 0), .int (zJ 0), .int (zJ 0)] (fun q => wText C4 q) := by
  refine zCtr.of (by decide) (by decide) (by decide) rfl dX4_init_0 dX4_init_1 (zgw_spec (i := 143) (by decide +kernel)) (zgw_spec (i := 33) (by decide +kernel)) (zgw_spec (i := 34) (by decide +kernel)) ?_
  intro h0 p e s m args below meth c A ls Q hF hin hA hP hD hl fin
  obtain ⟨hx, hb, hml, hown, hts, hpre⟩ := id hF
  have hK := hpre.1
  have hS : va_S A s.heap s.heap [] := va_S.rf
  refine lv_aload_n hx hb dX4_init_4 rfl (lv_at hl 0 rfl) ?_
  refine lv_bipush (v := zJ 80) hx hb dX4_init_5 (by decide) ?_
  refine z_arr hF (atype := .char) (ty := .char) (t0 := 1) (a0 := (80, .inl (fun _ => zJ 0))) (zgw_spec (i := 164) (by decide +kernel)) rfl rfl (fun _ _ h => h) (fun cA => by rw [vp_cell_i, zJ_0]; rfl) (by decide) (by decide +kernel) (Nat.le_of_ble_eq_true rfl) ⟨Nat.le_of_ble_eq_true rfl, Nat.le_of_ble_eq_true rfl⟩ hP hD hS hA dX4_init_7 (fun a1 H hP hD hS => ?_)
  have hP : va_P D vwCl ([(h0, .inr (4, [.null, .null, .null, .null, .int (zJ 0), .int (zJ 0), .int (zJ 0)]))] ++ [(a1, zai C4.2.1 80)]) H := hP
  have hD : va_D A ([(h0, .inr (4, [.null, .null, .null, .null, .int (zJ 0), .int (zJ 0), .int (zJ 0)]))] ++ [(a1, zai C4.2.1 80)]) := hD
  refine va_putF (D := D) (ref := RX4) (ci := 4) (v := .ref a1) (ty := .array .char) (C := RX4) (T := TX4) (N := 7) hx hb hts (zcl 4 _ rfl).2.2 tyX4 tyX4_ok nmX4 hown hK hP hD hS 0 rfl rfl 0 (by decide) (hts _ (zgw_spec (i := 144) (by decide +kernel))) (fun _ h9 => h9) rfl hin rfl (by decide +kernel) rfl rfl (Nat.le_of_ble_eq_true rfl) dX4_init_9 (fun H locs hP hD hS => ?_)
  have hP : va_P D vwCl ([(h0, .inr (4, [.ref a1, .null, .null, .null, .int (zJ 0), .int (zJ 0), .int (zJ 0)]))] ++ [(a1, zai C4.2.1 80)]) H := hP
  have hD : va_D A ([(h0, .inr (4, [.ref a1, .null, .null, .null, .int (zJ 0), .int (zJ 0), .int (zJ 0)]))] ++ [(a1, zai C4.2.1 80)]) := hD
  refine lv_aload_n hx hb dX4_init_12 rfl (lv_at hl 0 rfl) ?_
  refine lv_bipush (v := zJ 12) hx hb dX4_init_13 (by decide) ?_
  refine z_arr hF (atype := .int) (ty := .int) (t0 := 0) (a0 := (12, .inl (fun _ => zJ 0))) (zgw_spec (i := 72) (by decide +kernel)) rfl rfl (fun _ _ h => h) (fun cA => by rw [vp_cell_i, zJ_0]; rfl) (by decide) (by decide +kernel) (Nat.le_of_ble_eq_true rfl) ⟨Nat.le_of_ble_eq_true rfl, Nat.le_of_ble_eq_true rfl⟩ hP hD hS hA dX4_init_15 (fun a2 H hP hD hS => ?_)
  have hP : va_P D vwCl ([(h0, .inr (4, [.ref a1, .null, .null, .null, .int (zJ 0), .int (zJ 0), .int (zJ 0)]))] ++ [(a1, zai C4.2.1 80)] ++ [(a2, zai C4.1 12)]) H := hP
  have hD : va_D A ([(h0, .inr (4, [.ref a1, .null, .null, .null, .int (zJ 0), .int (zJ 0), .int (zJ 0)]))] ++ [(a1, zai C4.2.1 80)] ++ [(a2, zai C4.1 12)]) := hD
  refine va_putF (D := D) (ref := RX4) (ci := 4) (v := .ref a2) (ty := .array .int) (C := RX4) (T := TX4) (N := 7) hx hb hts (zcl 4 _ rfl).2.2 tyX4 tyX4_ok nmX4 hown hK hP hD hS 0 rfl rfl 1 (by decide) (hts _ (zgw_spec (i := 145) (by decide +kernel))) (fun _ h9 => h9) rfl hin rfl (by decide +kernel) rfl rfl (Nat.le_of_ble_eq_true rfl) dX4_init_17 (fun H locs hP hD hS => ?_)
  have hP : va_P D vwCl ([(h0, .inr (4, [.ref a1, .ref a2, .null, .null, .int (zJ 0), .int (zJ 0), .int (zJ 0)]))] ++ [(a1, zai C4.2.1 80)] ++ [(a2, zai C4.1 12)]) H := hP
  have hD : va_D A ([(h0, .inr (4, [.ref a1, .ref a2, .null, .null, .int (zJ 0), .int (zJ 0), .int (zJ 0)]))] ++ [(a1, zai C4.2.1 80)] ++ [(a2, zai C4.1 12)]) := hD
  refine lv_aload_n hx hb dX4_init_20 rfl (lv_at hl 0 rfl) ?_
  refine lv_bipush (v := zJ 12) hx hb dX4_init_21 (by decide) ?_
  refine z_arr hF (atype := .int) (ty := .int) (t0 := 0) (a0 := (12, .inl (fun _ => zJ 0))) (zgw_spec (i := 72) (by decide +kernel)) rfl rfl (fun _ _ h => h) (fun cA => by rw [vp_cell_i, zJ_0]; rfl) (by decide) (by decide +kernel) (Nat.le_of_ble_eq_true rfl) ⟨Nat.le_of_ble_eq_true rfl, Nat.le_of_ble_eq_true rfl⟩ hP hD hS hA dX4_init_23 (fun a3 H hP hD hS => ?_)
  have hP : va_P D vwCl ([(h0, .inr (4, [.ref a1, .ref a2, .null, .null, .int (zJ 0), .int (zJ 0), .int (zJ 0)]))] ++ [(a1, zai C4.2.1 80)] ++ [(a2, zai C4.1 12)] ++ [(a3, zai C4.1 12)]) H := hP
  have hD : va_D A ([(h0, .inr (4, [.ref a1, .ref a2, .null, .null, .int (zJ 0), .int (zJ 0), .int (zJ 0)]))] ++ [(a1, zai C4.2.1 80)] ++ [(a2, zai C4.1 12)] ++ [(a3, zai C4.1 12)]) := hD
  refine va_putF (D := D) (ref := RX4) (ci := 4) (v := .ref a3) (ty := .array .int) (C := RX4) (T := TX4) (N := 7) hx hb hts (zcl 4 _ rfl).2.2 tyX4 tyX4_ok nmX4 hown hK hP hD hS 0 rfl rfl 2 (by decide) (hts _ (zgw_spec (i := 146) (by decide +kernel))) (fun _ h9 => h9) rfl hin rfl (by decide +kernel) rfl rfl (Nat.le_of_ble_eq_true rfl) dX4_init_25 (fun H locs hP hD hS => ?_)
  have hP : va_P D vwCl ([(h0, .inr (4, [.ref a1, .ref a2, .ref a3, .null, .int (zJ 0), .int (zJ 0), .int (zJ 0)]))] ++ [(a1, zai C4.2.1 80)] ++ [(a2, zai C4.1 12)] ++ [(a3, zai C4.1 12)]) H := hP
  have hD : va_D A ([(h0, .inr (4, [.ref a1, .ref a2, .ref a3, .null, .int (zJ 0), .int (zJ 0), .int (zJ 0)]))] ++ [(a1, zai C4.2.1 80)] ++ [(a2, zai C4.1 12)] ++ [(a3, zai C4.1 12)]) := hD
  refine lv_aload_n hx hb dX4_init_28 rfl (lv_at hl 0 rfl) ?_
  refine lv_bipush (v := zJ 12) hx hb dX4_init_29 (by decide) ?_
  refine z_arr hF (atype := .int) (ty := .int) (t0 := 0) (a0 := (12, .inl (fun _ => zJ 0))) (zgw_spec (i := 72) (by decide +kernel)) rfl rfl (fun _ _ h => h) (fun cA => by rw [vp_cell_i, zJ_0]; rfl) (by decide) (by decide +kernel) (Nat.le_of_ble_eq_true rfl) ⟨Nat.le_of_ble_eq_true rfl, Nat.le_of_ble_eq_true rfl⟩ hP hD hS hA dX4_init_31 (fun a4 H hP hD hS => ?_)
  have hP : va_P D vwCl ([(h0, .inr (4, [.ref a1, .ref a2, .ref a3, .null, .int (zJ 0), .int (zJ 0), .int (zJ 0)]))] ++ [(a1, zai C4.2.1 80)] ++ [(a2, zai C4.1 12)] ++ [(a3, zai C4.1 12)] ++ [(a4, zai C4.1 12)]) H := hP
  have hD : va_D A ([(h0, .inr (4, [.ref a1, .ref a2, .ref a3, .null, .int (zJ 0), .int (zJ 0), .int (zJ 0)]))] ++ [(a1, zai C4.2.1 80)] ++ [(a2, zai C4.1 12)] ++ [(a3, zai C4.1 12)] ++ [(a4, zai C4.1 12)]) := hD
  refine va_putF (D := D) (ref := RX4) (ci := 4) (v := .ref a4) (ty := .array .int) (C := RX4) (T := TX4) (N := 7) hx hb hts (zcl 4 _ rfl).2.2 tyX4 tyX4_ok nmX4 hown hK hP hD hS 0 rfl rfl 3 (by decide) (hts _ (zgw_spec (i := 147) (by decide +kernel))) (fun _ h9 => h9) rfl hin rfl (by decide +kernel) rfl rfl (Nat.le_of_ble_eq_true rfl) dX4_init_33 (fun H locs hP hD hS => ?_)
  have hP : va_P D vwCl ([(h0, .inr (4, [.ref a1, .ref a2, .ref a3, .ref a4, .int (zJ 0), .int (zJ 0), .int (zJ 0)]))] ++ [(a1, zai C4.2.1 80)] ++ [(a2, zai C4.1 12)] ++ [(a3, zai C4.1 12)] ++ [(a4, zai C4.1 12)]) H := hP
  have hD : va_D A ([(h0, .inr (4, [.ref a1, .ref a2, .ref a3, .ref a4, .int (zJ 0), .int (zJ 0), .int (zJ 0)]))] ++ [(a1, zai C4.2.1 80)] ++ [(a2, zai C4.1 12)] ++ [(a3, zai C4.1 12)] ++ [(a4, zai C4.1 12)]) := hD
  exact fin H _ 36 _ _ _ (fun i => if i = 0 then h0 else if i < 2 then a1 else if i < 3 then a2 else if i < 4 then a3 else if i < 5 then a4 else 0) (Nat.le_of_ble_eq_true rfl) (Nat.le_of_ble_eq_true rfl) rfl hP hD hS dX4_init_36
set_option maxHeartbeats 4000000 in
set_option maxRecDepth 100000 in
theorem k_BS (l : Launch) (D : va_G) (C4 : zC4) : zCtr l D C4 yX5_init cX5_init 1 4 63 3371 5 [.null, .null, .null, .null, .null, .int (zJ 0)] (fun q => wBS C4 q) := by
  refine zCtr.of (by decide) (by decide) (by decide) rfl dX5_init_0 dX5_init_1 (zgw_spec (i := 32) (by decide +kernel)) (zgw_spec (i := 33) (by decide +kernel)) (zgw_spec (i := 34) (by decide +kernel)) ?_
  intro h0 p e s m args below meth c A ls Q hF hin hA hP hD hl fin
  obtain ⟨hx, hb, hml, hown, hts, hpre⟩ := id hF
  have hK := hpre.1
  have hS : va_S A s.heap s.heap [] := va_S.rf
  refine lv_aload_n hx hb dX5_init_4 rfl (lv_at hl 0 rfl) ?_
  have hfs1 : ∀ j, j < 7 → defaultValue (tyX3 j) = vp_V [.null, .null, .int (zJ 0), .int (zJ 0), .int (zJ 0), .int (zJ 0), .int (zJ 0)] j := fun j hj => by
    rcases (show j = 0 ∨ j = 1 ∨ j = 2 ∨ j = 3 ∨ j = 4 ∨ j = 5 ∨ j = 6 by omega) with rfl | rfl | rfl | rfl | rfl | rfl | rfl <;> first | rfl | (show Value.int 0 = Value.int (zJ 0); rw [zJ_0])
  refine z_new hF (k_State l D C4) true (zgw_spec (i := 39) (by decide +kernel)) (zgw_spec (i := 19) (by decide +kernel)) (zgw_spec (i := 38) (by decide +kernel)) rfl (by decide +kernel) (show Cond.methodLinkNest yX5_init.cls 9 yX3_init "BranchedSums" ∈ lw_tbl from (List.mem_of_getElem? (i := 37) (by decide +kernel))) tyX3 tyX3_ok (zgw_spec (i := 35) (by decide +kernel)) (zgw_spec (i := 36) (by decide +kernel)) rfl rfl hfs1 ⟨Nat.le_of_ble_eq_true rfl, Nat.le_of_ble_eq_true rfl⟩ ⟨Nat.le_of_ble_eq_true rfl, Nat.le_of_ble_eq_true rfl⟩ hP hD hS hA hl.1 (Nat.le_of_ble_eq_true rfl) dX5_init_5 dX5_init_8 dX5_init_9 (fun s1 H locs hP hD hS => ?_)
  have hP : va_P D vwCl ([(h0, .inr (5, [.null, .null, .null, .null, .null, .int (zJ 0)]))] ++ wState C4 s1) H := hP
  have hD : va_D A ([(h0, .inr (5, [.null, .null, .null, .null, .null, .int (zJ 0)]))] ++ wState C4 s1) := hD
  refine va_putF (D := D) (ref := RX5) (ci := 5) (v := .ref (s1 0)) (ty := .object "BranchedSums$State") (C := RX5) (T := TX5) (N := 6) hx hb hts (zcl 5 _ rfl).2.2 tyX5 tyX5_ok nmX5 hown hK hP hD hS 0 rfl rfl 0 (by decide) (hts _ (zgw_spec (i := 165) (by decide +kernel))) (fun _ h9 => h9) rfl hin rfl (by decide +kernel) rfl rfl (Nat.le_of_ble_eq_true rfl) dX5_init_12 (fun H locs hP hD hS => ?_)
  have hP : va_P D vwCl ([(h0, .inr (5, [.ref (s1 0), .null, .null, .null, .null, .int (zJ 0)]))] ++ wState C4 s1) H := hP
  have hD : va_D A ([(h0, .inr (5, [.ref (s1 0), .null, .null, .null, .null, .int (zJ 0)]))] ++ wState C4 s1) := hD
  refine lv_aload_n hx hb dX5_init_15 rfl (lv_at hl 0 rfl) ?_
  have hfs2 : ∀ j, j < 7 → defaultValue (tyX3 j) = vp_V [.null, .null, .int (zJ 0), .int (zJ 0), .int (zJ 0), .int (zJ 0), .int (zJ 0)] j := fun j hj => by
    rcases (show j = 0 ∨ j = 1 ∨ j = 2 ∨ j = 3 ∨ j = 4 ∨ j = 5 ∨ j = 6 by omega) with rfl | rfl | rfl | rfl | rfl | rfl | rfl <;> first | rfl | (show Value.int 0 = Value.int (zJ 0); rw [zJ_0])
  refine z_new hF (k_State l D C4) true (zgw_spec (i := 39) (by decide +kernel)) (zgw_spec (i := 19) (by decide +kernel)) (zgw_spec (i := 38) (by decide +kernel)) rfl (by decide +kernel) (show Cond.methodLinkNest yX5_init.cls 9 yX3_init "BranchedSums" ∈ lw_tbl from (List.mem_of_getElem? (i := 37) (by decide +kernel))) tyX3 tyX3_ok (zgw_spec (i := 35) (by decide +kernel)) (zgw_spec (i := 36) (by decide +kernel)) rfl rfl hfs2 ⟨Nat.le_of_ble_eq_true rfl, Nat.le_of_ble_eq_true rfl⟩ ⟨Nat.le_of_ble_eq_true rfl, Nat.le_of_ble_eq_true rfl⟩ hP hD hS hA hl.1 (Nat.le_of_ble_eq_true rfl) dX5_init_16 dX5_init_19 dX5_init_20 (fun s2 H locs hP hD hS => ?_)
  have hP : va_P D vwCl ([(h0, .inr (5, [.ref (s1 0), .null, .null, .null, .null, .int (zJ 0)]))] ++ wState C4 s1 ++ wState C4 s2) H := hP
  have hD : va_D A ([(h0, .inr (5, [.ref (s1 0), .null, .null, .null, .null, .int (zJ 0)]))] ++ wState C4 s1 ++ wState C4 s2) := hD
  refine va_putF (D := D) (ref := RX5) (ci := 5) (v := .ref (s2 0)) (ty := .object "BranchedSums$State") (C := RX5) (T := TX5) (N := 6) hx hb hts (zcl 5 _ rfl).2.2 tyX5 tyX5_ok nmX5 hown hK hP hD hS 0 rfl rfl 1 (by decide) (hts _ (zgw_spec (i := 166) (by decide +kernel))) (fun _ h9 => h9) rfl hin rfl (by decide +kernel) rfl rfl (Nat.le_of_ble_eq_true rfl) dX5_init_23 (fun H locs hP hD hS => ?_)
  have hP : va_P D vwCl ([(h0, .inr (5, [.ref (s1 0), .ref (s2 0), .null, .null, .null, .int (zJ 0)]))] ++ wState C4 s1 ++ wState C4 s2) H := hP
  have hD : va_D A ([(h0, .inr (5, [.ref (s1 0), .ref (s2 0), .null, .null, .null, .int (zJ 0)]))] ++ wState C4 s1 ++ wState C4 s2) := hD
  refine lv_aload_n hx hb dX5_init_26 rfl (lv_at hl 0 rfl) ?_
  have hfs3 : ∀ j, j < 7 → defaultValue (tyX3 j) = vp_V [.null, .null, .int (zJ 0), .int (zJ 0), .int (zJ 0), .int (zJ 0), .int (zJ 0)] j := fun j hj => by
    rcases (show j = 0 ∨ j = 1 ∨ j = 2 ∨ j = 3 ∨ j = 4 ∨ j = 5 ∨ j = 6 by omega) with rfl | rfl | rfl | rfl | rfl | rfl | rfl <;> first | rfl | (show Value.int 0 = Value.int (zJ 0); rw [zJ_0])
  refine z_new hF (k_State l D C4) true (zgw_spec (i := 39) (by decide +kernel)) (zgw_spec (i := 19) (by decide +kernel)) (zgw_spec (i := 38) (by decide +kernel)) rfl (by decide +kernel) (show Cond.methodLinkNest yX5_init.cls 9 yX3_init "BranchedSums" ∈ lw_tbl from (List.mem_of_getElem? (i := 37) (by decide +kernel))) tyX3 tyX3_ok (zgw_spec (i := 35) (by decide +kernel)) (zgw_spec (i := 36) (by decide +kernel)) rfl rfl hfs3 ⟨Nat.le_of_ble_eq_true rfl, Nat.le_of_ble_eq_true rfl⟩ ⟨Nat.le_of_ble_eq_true rfl, Nat.le_of_ble_eq_true rfl⟩ hP hD hS hA hl.1 (Nat.le_of_ble_eq_true rfl) dX5_init_27 dX5_init_30 dX5_init_31 (fun s3 H locs hP hD hS => ?_)
  have hP : va_P D vwCl ([(h0, .inr (5, [.ref (s1 0), .ref (s2 0), .null, .null, .null, .int (zJ 0)]))] ++ wState C4 s1 ++ wState C4 s2 ++ wState C4 s3) H := hP
  have hD : va_D A ([(h0, .inr (5, [.ref (s1 0), .ref (s2 0), .null, .null, .null, .int (zJ 0)]))] ++ wState C4 s1 ++ wState C4 s2 ++ wState C4 s3) := hD
  refine va_putF (D := D) (ref := RX5) (ci := 5) (v := .ref (s3 0)) (ty := .object "BranchedSums$State") (C := RX5) (T := TX5) (N := 6) hx hb hts (zcl 5 _ rfl).2.2 tyX5 tyX5_ok nmX5 hown hK hP hD hS 0 rfl rfl 2 (by decide) (hts _ (zgw_spec (i := 167) (by decide +kernel))) (fun _ h9 => h9) rfl hin rfl (by decide +kernel) rfl rfl (Nat.le_of_ble_eq_true rfl) dX5_init_34 (fun H locs hP hD hS => ?_)
  have hP : va_P D vwCl ([(h0, .inr (5, [.ref (s1 0), .ref (s2 0), .ref (s3 0), .null, .null, .int (zJ 0)]))] ++ wState C4 s1 ++ wState C4 s2 ++ wState C4 s3) H := hP
  have hD : va_D A ([(h0, .inr (5, [.ref (s1 0), .ref (s2 0), .ref (s3 0), .null, .null, .int (zJ 0)]))] ++ wState C4 s1 ++ wState C4 s2 ++ wState C4 s3) := hD
  refine lv_aload_n hx hb dX5_init_37 rfl (lv_at hl 0 rfl) ?_
  have hfs4 : ∀ j, j < 3 → defaultValue (tyX1 j) = vp_V [.null, .int (zJ 0), .int (zJ 0)] j := fun j hj => by
    rcases (show j = 0 ∨ j = 1 ∨ j = 2 by omega) with rfl | rfl | rfl <;> first | rfl | (show Value.int 0 = Value.int (zJ 0); rw [zJ_0])
  refine z_new hF (k_Hist l D C4) false (zgw_spec (i := 122) (by decide +kernel)) (zgw_spec (i := 22) (by decide +kernel)) (zgw_spec (i := 121) (by decide +kernel)) rfl (by decide +kernel) (show Cond.methodLink yX5_init.cls 24 yX1_init ∈ zTs from (zgw_spec (i := 120) (by decide +kernel))) tyX1 tyX1_ok (zgw_spec (i := 118) (by decide +kernel)) (zgw_spec (i := 119) (by decide +kernel)) rfl rfl hfs4 ⟨Nat.le_of_ble_eq_true rfl, Nat.le_of_ble_eq_true rfl⟩ ⟨Nat.le_of_ble_eq_true rfl, Nat.le_of_ble_eq_true rfl⟩ hP hD hS hA hl.1 (Nat.le_of_ble_eq_true rfl) dX5_init_38 dX5_init_41 dX5_init_42 (fun s4 H locs hP hD hS => ?_)
  have hP : va_P D vwCl ([(h0, .inr (5, [.ref (s1 0), .ref (s2 0), .ref (s3 0), .null, .null, .int (zJ 0)]))] ++ wState C4 s1 ++ wState C4 s2 ++ wState C4 s3 ++ wHist C4 s4) H := hP
  have hD : va_D A ([(h0, .inr (5, [.ref (s1 0), .ref (s2 0), .ref (s3 0), .null, .null, .int (zJ 0)]))] ++ wState C4 s1 ++ wState C4 s2 ++ wState C4 s3 ++ wHist C4 s4) := hD
  refine va_putF (D := D) (ref := RX5) (ci := 5) (v := .ref (s4 0)) (ty := .object "BranchedSums$History") (C := RX5) (T := TX5) (N := 6) hx hb hts (zcl 5 _ rfl).2.2 tyX5 tyX5_ok nmX5 hown hK hP hD hS 0 rfl rfl 3 (by decide) (hts _ (zgw_spec (i := 168) (by decide +kernel))) (fun _ h9 => h9) rfl hin rfl (by decide +kernel) rfl rfl (Nat.le_of_ble_eq_true rfl) dX5_init_45 (fun H locs hP hD hS => ?_)
  have hP : va_P D vwCl ([(h0, .inr (5, [.ref (s1 0), .ref (s2 0), .ref (s3 0), .ref (s4 0), .null, .int (zJ 0)]))] ++ wState C4 s1 ++ wState C4 s2 ++ wState C4 s3 ++ wHist C4 s4) H := hP
  have hD : va_D A ([(h0, .inr (5, [.ref (s1 0), .ref (s2 0), .ref (s3 0), .ref (s4 0), .null, .int (zJ 0)]))] ++ wState C4 s1 ++ wState C4 s2 ++ wState C4 s3 ++ wHist C4 s4) := hD
  refine lv_aload_n hx hb dX5_init_48 rfl (lv_at hl 0 rfl) ?_
  have hfs5 : ∀ j, j < 7 → defaultValue (tyX4 j) = vp_V [.null, .null, .null, .null, .int (zJ 0), .int (zJ 0), .int (zJ 0)] j := fun j hj => by
    rcases (show j = 0 ∨ j = 1 ∨ j = 2 ∨ j = 3 ∨ j = 4 ∨ j = 5 ∨ j = 6 by omega) with rfl | rfl | rfl | rfl | rfl | rfl | rfl <;> first | rfl | (show Value.int 0 = Value.int (zJ 0); rw [zJ_0])
  refine z_new hF (k_Text l D C4) true (zgw_spec (i := 142) (by decide +kernel)) (zgw_spec (i := 23) (by decide +kernel)) (zgw_spec (i := 141) (by decide +kernel)) rfl (by decide +kernel) (show Cond.methodLinkNest yX5_init.cls 31 yX4_init "BranchedSums" ∈ lw_tbl from (List.mem_of_getElem? (i := 140) (by decide +kernel))) tyX4 tyX4_ok (zgw_spec (i := 138) (by decide +kernel)) (zgw_spec (i := 139) (by decide +kernel)) rfl rfl hfs5 ⟨Nat.le_of_ble_eq_true rfl, Nat.le_of_ble_eq_true rfl⟩ ⟨Nat.le_of_ble_eq_true rfl, Nat.le_of_ble_eq_true rfl⟩ hP hD hS hA hl.1 (Nat.le_of_ble_eq_true rfl) dX5_init_49 dX5_init_52 dX5_init_53 (fun s5 H locs hP hD hS => ?_)
  have hP : va_P D vwCl ([(h0, .inr (5, [.ref (s1 0), .ref (s2 0), .ref (s3 0), .ref (s4 0), .null, .int (zJ 0)]))] ++ wState C4 s1 ++ wState C4 s2 ++ wState C4 s3 ++ wHist C4 s4 ++ wText C4 s5) H := hP
  have hD : va_D A ([(h0, .inr (5, [.ref (s1 0), .ref (s2 0), .ref (s3 0), .ref (s4 0), .null, .int (zJ 0)]))] ++ wState C4 s1 ++ wState C4 s2 ++ wState C4 s3 ++ wHist C4 s4 ++ wText C4 s5) := hD
  refine va_putF (D := D) (ref := RX5) (ci := 5) (v := .ref (s5 0)) (ty := .object "BranchedSums$Text") (C := RX5) (T := TX5) (N := 6) hx hb hts (zcl 5 _ rfl).2.2 tyX5 tyX5_ok nmX5 hown hK hP hD hS 0 rfl rfl 4 (by decide) (hts _ (zgw_spec (i := 169) (by decide +kernel))) (fun _ h9 => h9) rfl hin rfl (by decide +kernel) rfl rfl (Nat.le_of_ble_eq_true rfl) dX5_init_56 (fun H locs hP hD hS => ?_)
  have hP : va_P D vwCl ([(h0, .inr (5, [.ref (s1 0), .ref (s2 0), .ref (s3 0), .ref (s4 0), .ref (s5 0), .int (zJ 0)]))] ++ wState C4 s1 ++ wState C4 s2 ++ wState C4 s3 ++ wHist C4 s4 ++ wText C4 s5) H := hP
  have hD : va_D A ([(h0, .inr (5, [.ref (s1 0), .ref (s2 0), .ref (s3 0), .ref (s4 0), .ref (s5 0), .int (zJ 0)]))] ++ wState C4 s1 ++ wState C4 s2 ++ wState C4 s3 ++ wHist C4 s4 ++ wText C4 s5) := hD
  exact fin H _ 59 _ _ _ (fun i => if i = 0 then h0 else if i < 9 then s1 (i - 1) else if i < 17 then s2 (i - 9) else if i < 25 then s3 (i - 17) else if i < 59 then s4 (i - 25) else if i < 64 then s5 (i - 59) else 0) (Nat.le_of_ble_eq_true rfl) (Nat.le_of_ble_eq_true rfl) rfl hP hD hS dX5_init_59
