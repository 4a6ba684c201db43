theorem dX4_fail_0 : decode cX4_fail 0 = .ok (.aload_n 0, 1) := by decide +kernel
theorem kw374 : (.fieldLink RX4 73 "SpiceSwaps$Reader" "fault" "I" : Cond) ∈ gT := gT_of 374 (by decide +kernel) (by decide +kernel)
theorem dX4_fail_1 : decode cX4_fail 1 = .ok (.getfield 73, 3) := by decide +kernel
theorem dX4_fail_4 : decode cX4_fail 4 = .ok (.ifCond .ne 28, 3) := by decide +kernel
theorem dX4_fail_32 : decode cX4_fail 32 = .ok (.return_, 1) := by decide +kernel
theorem dX4_fail_7 : decode cX4_fail 7 = .ok (.aload_n 0, 1) := by decide +kernel
theorem dX4_fail_8 : decode cX4_fail 8 = .ok (.aload_n 0, 1) := by decide +kernel
theorem kw371 : (.fieldLink RX4 82 "SpiceSwaps$Reader" "kind" "I" : Cond) ∈ gT := gT_of 371 (by decide +kernel) (by decide +kernel)
theorem dX4_fail_9 : decode cX4_fail 9 = .ok (.getfield 82, 3) := by decide +kernel
theorem dX4_fail_12 : decode cX4_fail 12 = .ok (.iconst 1, 1) := by decide +kernel
theorem dX4_fail_13 : decode cX4_fail 13 = .ok (.if_icmp .ne 7, 3) := by decide +kernel
theorem dX4_fail_20 : decode cX4_fail 20 = .ok (.iload_n 1, 1) := by decide +kernel
theorem dX4_fail_21 : decode cX4_fail 21 = .ok (.putfield 73, 3) := by decide +kernel
theorem dX4_fail_24 : decode cX4_fail 24 = .ok (.aload_n 0, 1) := by decide +kernel
theorem dX4_fail_25 : decode cX4_fail 25 = .ok (.aload_n 0, 1) := by decide +kernel
theorem kw370 : (.fieldLink RX4 225 "SpiceSwaps$Reader" "at" "I" : Cond) ∈ gT := gT_of 370 (by decide +kernel) (by decide +kernel)
theorem dX4_fail_26 : decode cX4_fail 26 = .ok (.getfield 225, 3) := by decide +kernel
theorem kw376 : (.fieldLink RX4 54 "SpiceSwaps$Reader" "faultAt" "I" : Cond) ∈ gT := gT_of 376 (by decide +kernel) (by decide +kernel)
theorem dX4_fail_29 : decode cX4_fail 29 = .ok (.putfield 54, 3) := by decide +kernel
theorem dX4_fail_16 : decode cX4_fail 16 = .ok (.iconst 1, 1) := by decide +kernel
theorem dX4_fail_17 : decode cX4_fail 17 = .ok (.goto 4, 3) := by decide +kernel
set_option maxHeartbeats 4000000 in
set_option maxRecDepth 100000 in
theorem sX4_fail_1 (l : Launch) (D : va_G) (cB cI cJ cZ : ClassId) (aK aV : Nat → Nat) (h0 : Nat) (x1 : Int32) (h2 : Nat) (h3 : Nat) (h4 : Nat) (h5 : Nat) (h6 : Nat) (h7 : Nat) (x8 : Int32) (h9 : Nat) (h10 : Nat) (x11 : Int32) (x12 : Int32) (x13 : Int32) (y14 : Int64) (x15 : Int32) (x16 : Int32) (x17 : Int32) (gh0 : 0 ≤ x1.toInt - 1) (gh1 : 0 ≤ -x1.toInt + 5) (gh2 : 0 ≤ x8.toInt) (gh3 : 0 ≤ -x8.toInt + 1600) (gh4 : 0 ≤ x11.toInt) (gh5 : 0 ≤ -x11.toInt + 1600) (gh6 : 0 ≤ x12.toInt) (gh7 : 0 ≤ -x12.toInt + 1600) (gh8 : 0 ≤ x16.toInt) (gh9 : 0 ≤ -x16.toInt + 5) : MX l yX4_fail cX4_fail 2 none (rmL 1 0 0) D cB cI cJ cZ aK aV [.ref h0, .int x1] [(h0, .inr (4, [.ref h2, .ref h3, .ref h4, .ref h5, .ref h6, .ref h7, .int x8, .ref h9, .ref h10, .int x11, .int x12, .int x13, .long y14, .int x15, .int x16, .int x17]))] (fun r w1 => ∃ z1 : Int32, ∃ z2 : Int32, 0 ≤ z1.toInt ∧ 0 ≤ -z1.toInt + 5 ∧ 0 ≤ z1.toInt - 1 ∧ 0 ≤ -x16.toInt + z1.toInt ∧ r = none ∧ w1 = [(h0, .inr (4, [.ref h2, .ref h3, .ref h4, .ref h5, .ref h6, .ref h7, .int x8, .ref h9, .ref h10, .int x11, .int x12, .int x13, .long y14, .int x15, .int z1, .int z2]))]) := by
  refine MX.intro (by decide) (Nat.le_of_ble_eq_true rfl) ?_
  intro p e s m below meth c A ls hx hb hr hml hown hlocks hnm hts hG hE hA hS hP hD hl hAe
  have hl : lv_has ls 2 [(0, .ref h0), (1, .int x1)] := hl
  have hown : s.vm.findClass RX4 = some m.cls := hown
  refine lv_aload_n hx hb dX4_fail_0 rfl (lv_at hl 0 rfl) ?_
  refine va_get (D := D) (ci := 4) (v := .int x16) (C := RX4) (T := TX4) (N := 16) hx hb hts inX4 hown hG.1 hP 0 rfl rfl 14 (by decide) (hts _ kw374) (fun _ h9 => h9) rfl dX4_fail_1 ?_
  refine lv_if_ne (tgt := 32) hx hb dX4_fail_4 (by decide) (fun c_1 => ?_) (fun c_1 => ?_)
  · have fc_1 : x16.toInt ≠ (0 : Int) := i_ne rfl (by decide) c_1
    have hP9 := hP.sub (ws' := [(h0, .inr (4, [.ref h2, .ref h3, .ref h4, .ref h5, .ref h6, .ref h7, .int x8, .ref h9, .ref h10, .int x11, .int x12, .int x13, .long y14, .int x15, .int x16, .int x17]))]) [0] rfl
    have hD9 := hD.sub (ws' := [(h0, .inr (4, [.ref h2, .ref h3, .ref h4, .ref h5, .ref h6, .ref h7, .int x8, .ref h9, .ref h10, .int x11, .int x12, .int x13, .long y14, .int x15, .int x16, .int x17]))]) [0] (by decide) rfl
    exact xr_v (rm := (rmL 1 0 0)) hx hb hr hlocks hAe hS hP9 hD9 (Nat.le_of_ble_eq_true rfl) (Nat.le_of_ble_eq_true rfl) dX4_fail_32 ⟨x16, x17, by omega, by omega, by omega, by omega, rfl, rfl⟩
  · have fc_1 : x16.toInt = (0 : Int) := i_eq rfl (by decide) c_1
    refine lv_aload_n hx hb dX4_fail_7 rfl (lv_at hl 0 rfl) ?_
    refine lv_aload_n hx hb dX4_fail_8 rfl (lv_at hl 0 rfl) ?_
    refine va_get (D := D) (ci := 4) (v := .int x13) (C := RX4) (T := TX4) (N := 16) hx hb hts inX4 hown hG.1 hP 0 rfl rfl 11 (by decide) (hts _ kw371) (fun _ h9 => h9) rfl dX4_fail_9 ?_
    refine lv_iconst (v := 1) hx hb dX4_fail_12 (by decide +kernel) ?_
    refine lv_icmp_ne (tgt := 20) hx hb dX4_fail_13 (by decide) (fun c_2 => ?_) (fun c_2 => ?_)
    · have fc_2 : x13.toInt ≠ (1 : Int) := i_ne rfl (by decide) c_2
      refine lv_iload_n hx hb dX4_fail_20 rfl (lv_at hl 1 rfl) ?_
      refine va_put (D := D) (ci := 4) (v := .int x1) (ty := .int) (C := RX4) (T := TX4) (N := 16) hx hb hts inX4 tyX4 tyX4_ok nmX4 hown hG.1 hP hD hS 0 rfl rfl 14 (by decide) (hts _ kw374) (fun _ h9 => h9) rfl (by decide +kernel) rfl rfl (Nat.le_of_ble_eq_true rfl) dX4_fail_21 (fun H locs hP hD hS => ?_)
      have hP : va_P D vwCl [(h0, .inr (4, [.ref h2, .ref h3, .ref h4, .ref h5, .ref h6, .ref h7, .int x8, .ref h9, .ref h10, .int x11, .int x12, .int x13, .long y14, .int x15, .int x1, .int x17]))] H := hP
      have hD : va_D A [(h0, .inr (4, [.ref h2, .ref h3, .ref h4, .ref h5, .ref h6, .ref h7, .int x8, .ref h9, .ref h10, .int x11, .int x12, .int x13, .long y14, .int x15, .int x1, .int x17]))] := hD
      refine lv_aload_n hx hb dX4_fail_24 rfl (lv_at hl 0 rfl) ?_
      refine lv_aload_n hx hb dX4_fail_25 rfl (lv_at hl 0 rfl) ?_
      refine va_get (D := D) (ci := 4) (v := .int x12) (C := RX4) (T := TX4) (N := 16) hx hb hts inX4 hown hG.1 hP 0 rfl rfl 10 (by decide) (hts _ kw370) (fun _ h9 => h9) rfl dX4_fail_26 ?_
      refine va_put (D := D) (ci := 4) (v := .int x12) (ty := .int) (C := RX4) (T := TX4) (N := 16) hx hb hts inX4 tyX4 tyX4_ok nmX4 hown hG.1 hP hD hS 0 rfl rfl 15 (by decide) (hts _ kw376) (fun _ h9 => h9) rfl (by decide +kernel) rfl rfl (Nat.le_of_ble_eq_true rfl) dX4_fail_29 (fun H locs hP hD hS => ?_)
      have hP : va_P D vwCl [(h0, .inr (4, [.ref h2, .ref h3, .ref h4, .ref h5, .ref h6, .ref h7, .int x8, .ref h9, .ref h10, .int x11, .int x12, .int x13, .long y14, .int x15, .int x1, .int x12]))] H := hP
      have hD : va_D A [(h0, .inr (4, [.ref h2, .ref h3, .ref h4, .ref h5, .ref h6, .ref h7, .int x8, .ref h9, .ref h10, .int x11, .int x12, .int x13, .long y14, .int x15, .int x1, .int x12]))] := hD
      have hP9 := hP.sub (ws' := [(h0, .inr (4, [.ref h2, .ref h3, .ref h4, .ref h5, .ref h6, .ref h7, .int x8, .ref h9, .ref h10, .int x11, .int x12, .int x13, .long y14, .int x15, .int x1, .int x12]))]) [0] rfl
      have hD9 := hD.sub (ws' := [(h0, .inr (4, [.ref h2, .ref h3, .ref h4, .ref h5, .ref h6, .ref h7, .int x8, .ref h9, .ref h10, .int x11, .int x12, .int x13, .long y14, .int x15, .int x1, .int x12]))]) [0] (by decide) rfl
      exact xr_v (rm := (rmL 1 0 0)) hx hb hr hlocks hAe hS hP9 hD9 (Nat.le_of_ble_eq_true rfl) (Nat.le_of_ble_eq_true rfl) dX4_fail_32 ⟨x1, x12, by omega, by omega, by omega, by omega, rfl, rfl⟩
    · have fc_2 : x13.toInt = (1 : Int) := i_eq rfl (by decide) c_2
      refine lv_iconst (v := 1) hx hb dX4_fail_16 (by decide +kernel) ?_
      refine lv_goto (tgt := 21) hx hb dX4_fail_17 (by decide) ?_
      refine va_put (D := D) (ci := 4) (v := .int 1) (ty := .int) (C := RX4) (T := TX4) (N := 16) hx hb hts inX4 tyX4 tyX4_ok nmX4 hown hG.1 hP hD hS 0 rfl rfl 14 (by decide) (hts _ kw374) (fun _ h9 => h9) rfl (by decide +kernel) rfl rfl (Nat.le_of_ble_eq_true rfl) dX4_fail_21 (fun H locs hP hD hS => ?_)
      have hP : va_P D vwCl [(h0, .inr (4, [.ref h2, .ref h3, .ref h4, .ref h5, .ref h6, .ref h7, .int x8, .ref h9, .ref h10, .int x11, .int x12, .int x13, .long y14, .int x15, .int 1, .int x17]))] H := hP
      have hD : va_D A [(h0, .inr (4, [.ref h2, .ref h3, .ref h4, .ref h5, .ref h6, .ref h7, .int x8, .ref h9, .ref h10, .int x11, .int x12, .int x13, .long y14, .int x15, .int 1, .int x17]))] := hD
      refine lv_aload_n hx hb dX4_fail_24 rfl (lv_at hl 0 rfl) ?_
      refine lv_aload_n hx hb dX4_fail_25 rfl (lv_at hl 0 rfl) ?_
      refine va_get (D := D) (ci := 4) (v := .int x12) (C := RX4) (T := TX4) (N := 16) hx hb hts inX4 hown hG.1 hP 0 rfl rfl 10 (by decide) (hts _ kw370) (fun _ h9 => h9) rfl dX4_fail_26 ?_
      refine va_put (D := D) (ci := 4) (v := .int x12) (ty := .int) (C := RX4) (T := TX4) (N := 16) hx hb hts inX4 tyX4 tyX4_ok nmX4 hown hG.1 hP hD hS 0 rfl rfl 15 (by decide) (hts _ kw376) (fun _ h9 => h9) rfl (by decide +kernel) rfl rfl (Nat.le_of_ble_eq_true rfl) dX4_fail_29 (fun H locs hP hD hS => ?_)
      have hP : va_P D vwCl [(h0, .inr (4, [.ref h2, .ref h3, .ref h4, .ref h5, .ref h6, .ref h7, .int x8, .ref h9, .ref h10, .int x11, .int x12, .int x13, .long y14, .int x15, .int 1, .int x12]))] H := hP
      have hD : va_D A [(h0, .inr (4, [.ref h2, .ref h3, .ref h4, .ref h5, .ref h6, .ref h7, .int x8, .ref h9, .ref h10, .int x11, .int x12, .int x13, .long y14, .int x15, .int 1, .int x12]))] := hD
      have hP9 := hP.sub (ws' := [(h0, .inr (4, [.ref h2, .ref h3, .ref h4, .ref h5, .ref h6, .ref h7, .int x8, .ref h9, .ref h10, .int x11, .int x12, .int x13, .long y14, .int x15, .int 1, .int x12]))]) [0] rfl
      have hD9 := hD.sub (ws' := [(h0, .inr (4, [.ref h2, .ref h3, .ref h4, .ref h5, .ref h6, .ref h7, .int x8, .ref h9, .ref h10, .int x11, .int x12, .int x13, .long y14, .int x15, .int 1, .int x12]))]) [0] (by decide) rfl
      exact xr_v (rm := (rmL 1 0 0)) hx hb hr hlocks hAe hS hP9 hD9 (Nat.le_of_ble_eq_true rfl) (Nat.le_of_ble_eq_true rfl) dX4_fail_32 ⟨1, x12, by have zc1 : (1 : Int32).toInt = 1 := (by decide); omega, by have zc1 : (1 : Int32).toInt = 1 := (by decide); omega, by have zc1 : (1 : Int32).toInt = 1 := (by decide); omega, by have zc1 : (1 : Int32).toInt = 1 := (by decide); omega, rfl, rfl⟩
theorem dX4_packed_0 : decode cX4_packed 0 = .ok (.lload_n 0, 1) := by decide +kernel
theorem kw358 : (.constantLong RX4 245 27 : Cond) ∈ gT := gT_of 358 (by decide +kernel) (by decide +kernel)
theorem dX4_packed_1 : decode cX4_packed 1 = .ok (.ldc2_w 245, 3) := by decide +kernel
theorem dX4_packed_4 : decode cX4_packed 4 = .ok (.lmul, 1) := by decide +kernel
theorem dX4_packed_5 : decode cX4_packed 5 = .ok (.iload_n 2, 1) := by decide +kernel
theorem dX4_packed_6 : decode cX4_packed 6 = .ok (.i2l, 1) := by decide +kernel
theorem dX4_packed_7 : decode cX4_packed 7 = .ok (.ladd, 1) := by decide +kernel
theorem kw359 : (.constantLong RX4 247 97 : Cond) ∈ gT := gT_of 359 (by decide +kernel) (by decide +kernel)
theorem dX4_packed_8 : decode cX4_packed 8 = .ok (.ldc2_w 247, 3) := by decide +kernel
theorem dX4_packed_11 : decode cX4_packed 11 = .ok (.lsub, 1) := by decide +kernel
theorem dX4_packed_12 : decode cX4_packed 12 = .ok (.lconst 1, 1) := by decide +kernel
theorem dX4_packed_13 : decode cX4_packed 13 = .ok (.ladd, 1) := by decide +kernel
theorem dX4_packed_14 : decode cX4_packed 14 = .ok (.lreturn, 1) := by decide +kernel
set_option maxHeartbeats 4000000 in
set_option maxRecDepth 100000 in
theorem sX4_packed_1 (l : Launch) (D : va_G) (cB cI cJ cZ : ClassId) (aK aV : Nat → Nat) (y0 : Int64) (x1 : Int32) : MX l yX4_packed cX4_packed 3 (some .long) (rmL 1 0 0) D cB cI cJ cZ aK aV [.long y0, .int x1] [] (fun r w1 => ∃ z1 : Int64, r = some (.long z1) ∧ w1 = []) := by
  refine MX.intro (by decide) (Nat.le_of_ble_eq_true rfl) ?_
  intro p e s m below meth c A ls hx hb hr hml hown hlocks hnm hts hG hE hA hS hP hD hl hAe
  have hl : lv_has ls 3 [(0, .long y0), (2, .int x1)] := hl
  have hown : s.vm.findClass RX4 = some m.cls := hown
  refine lv_lload_n hx hb dX4_packed_0 rfl (lv_at hl 0 rfl) ?_
  refine lv_ldc2 (v := 27) hx hb hown (hts _ kw358) dX4_packed_1 ?_
  refine lv_lmul hx hb dX4_packed_4 ?_
  refine xt_anyL (fun v_1 => ?_)
  refine lv_iload_n hx hb dX4_packed_5 rfl (lv_at hl 1 rfl) ?_
  refine lv_i2l hx hb dX4_packed_6 rfl ?_
  refine xt_anyL (fun v_2 => ?_)
  refine lv_ladd hx hb dX4_packed_7 ?_
  refine xt_anyL (fun v_3 => ?_)
  refine lv_ldc2 (v := 97) hx hb hown (hts _ kw359) dX4_packed_8 ?_
  refine lv_lsub hx hb dX4_packed_11 ?_
  refine xt_anyL (fun v_4 => ?_)
  refine lv_lconst (v := 1) hx hb dX4_packed_12 (by decide +kernel) ?_
  refine lv_ladd hx hb dX4_packed_13 ?_
  refine xt_anyL (fun v_5 => ?_)
  have hP9 := hP.sub (ws' := []) [] rfl
  have hD9 := hD.sub (ws' := []) [] (by decide) rfl
  exact xr_l (rm := (rmL 1 0 0)) hx hb hr hlocks hAe hS hP9 hD9 (Nat.le_of_ble_eq_true rfl) (Nat.le_of_ble_eq_true rfl) dX4_packed_14 ⟨v_5, rfl, rfl⟩
theorem dX4_stepOverWord_0 : decode cX4_stepOverWord 0 = .ok (.aload_n 0, 1) := by decide +kernel
theorem dX4_stepOverWord_1 : decode cX4_stepOverWord 1 = .ok (.lconst 0, 1) := by decide +kernel
theorem kw372 : (.fieldLink RX4 221 "SpiceSwaps$Reader" "word" "J" : Cond) ∈ gT := gT_of 372 (by decide +kernel) (by decide +kernel)
theorem dX4_stepOverWord_2 : decode cX4_stepOverWord 2 = .ok (.putfield 221, 3) := by decide +kernel
theorem dX4_stepOverWord_5 : decode cX4_stepOverWord 5 = .ok (.aload_n 0, 1) := by decide +kernel
theorem kw369 : (.fieldLink RX4 76 "SpiceSwaps$Reader" "next" "I" : Cond) ∈ gT := gT_of 369 (by decide +kernel) (by decide +kernel)
theorem dX4_stepOverWord_6 : decode cX4_stepOverWord 6 = .ok (.getfield 76, 3) := by decide +kernel
theorem dX4_stepOverWord_9 : decode cX4_stepOverWord 9 = .ok (.aload_n 0, 1) := by decide +kernel
theorem kw366 : (.fieldLink RX4 67 "SpiceSwaps$Reader" "end" "I" : Cond) ∈ gT := gT_of 366 (by decide +kernel) (by decide +kernel)
theorem dX4_stepOverWord_10 : decode cX4_stepOverWord 10 = .ok (.getfield 67, 3) := by decide +kernel
theorem dX4_stepOverWord_13 : decode cX4_stepOverWord 13 = .ok (.if_icmp .ge 64, 3) := by decide +kernel
theorem dX4_stepOverWord_77 : decode cX4_stepOverWord 77 = .ok (.aload_n 0, 1) := by decide +kernel
theorem dX4_stepOverWord_78 : decode cX4_stepOverWord 78 = .ok (.iconst 3, 1) := by decide +kernel
theorem dX4_stepOverWord_79 : decode cX4_stepOverWord 79 = .ok (.putfield 82, 3) := by decide +kernel
theorem dX4_stepOverWord_82 : decode cX4_stepOverWord 82 = .ok (.iconst 0, 1) := by decide +kernel
theorem dX4_stepOverWord_83 : decode cX4_stepOverWord 83 = .ok (.istore_n 1, 1) := by decide +kernel
theorem dX4_stepOverWord_84 : decode cX4_stepOverWord 84 = .ok (.iload_n 1, 1) := by decide +kernel
theorem dX4_stepOverWord_85 : decode cX4_stepOverWord 85 = .ok (.aload_n 0, 1) := by decide +kernel
theorem kw360 : (.fieldLink RX4 41 "SpiceSwaps$Reader" "words" "[J" : Cond) ∈ gT := gT_of 360 (by decide +kernel) (by decide +kernel)
theorem dX4_stepOverWord_86 : decode cX4_stepOverWord 86 = .ok (.getfield 41, 3) := by decide +kernel
theorem dX4_stepOverWord_89 : decode cX4_stepOverWord 89 = .ok (.arraylength, 1) := by decide +kernel
theorem dX4_stepOverWord_90 : decode cX4_stepOverWord 90 = .ok (.if_icmp .ge 32, 3) := by decide +kernel
theorem dX4_stepOverWord_122 : decode cX4_stepOverWord 122 = .ok (.aload_n 0, 1) := by decide +kernel
theorem dX4_stepOverWord_123 : decode cX4_stepOverWord 123 = .ok (.getfield 76, 3) := by decide +kernel
theorem dX4_stepOverWord_126 : decode cX4_stepOverWord 126 = .ok (.aload_n 0, 1) := by decide +kernel
theorem dX4_stepOverWord_127 : decode cX4_stepOverWord 127 = .ok (.getfield 225, 3) := by decide +kernel
theorem dX4_stepOverWord_130 : decode cX4_stepOverWord 130 = .ok (.isub, 1) := by decide +kernel
theorem dX4_stepOverWord_131 : decode cX4_stepOverWord 131 = .ok (.bipush 8, 2) := by decide +kernel
theorem dX4_stepOverWord_133 : decode cX4_stepOverWord 133 = .ok (.if_icmp .le 8, 3) := by decide +kernel
theorem dX4_stepOverWord_141 : decode cX4_stepOverWord 141 = .ok (.return_, 1) := by decide +kernel
theorem dX4_stepOverWord_136 : decode cX4_stepOverWord 136 = .ok (.aload_n 0, 1) := by decide +kernel
theorem dX4_stepOverWord_137 : decode cX4_stepOverWord 137 = .ok (.iconst 1, 1) := by decide +kernel
theorem dX4_stepOverWord_138 : decode cX4_stepOverWord 138 = .ok (.putfield 82, 3) := by decide +kernel
theorem dX4_stepOverWord_93 : decode cX4_stepOverWord 93 = .ok (.aload_n 0, 1) := by decide +kernel
theorem dX4_stepOverWord_94 : decode cX4_stepOverWord 94 = .ok (.getfield 41, 3) := by decide +kernel
theorem dX4_stepOverWord_97 : decode cX4_stepOverWord 97 = .ok (.iload_n 1, 1) := by decide +kernel
theorem dX4_stepOverWord_98 : decode cX4_stepOverWord 98 = .ok (.laload, 1) := by decide +kernel
theorem dX4_stepOverWord_99 : decode cX4_stepOverWord 99 = .ok (.aload_n 0, 1) := by decide +kernel
theorem dX4_stepOverWord_100 : decode cX4_stepOverWord 100 = .ok (.getfield 221, 3) := by decide +kernel
theorem dX4_stepOverWord_103 : decode cX4_stepOverWord 103 = .ok (.lcmp, 1) := by decide +kernel
theorem dX4_stepOverWord_104 : decode cX4_stepOverWord 104 = .ok (.ifCond .ne 12, 3) := by decide +kernel
theorem dX4_stepOverWord_116 : decode cX4_stepOverWord 116 = .ok (.iinc 1 1, 3) := by decide +kernel
theorem dX4_stepOverWord_119 : decode cX4_stepOverWord 119 = .ok (.goto (-35), 3) := by decide +kernel
theorem dX4_stepOverWord_107 : decode cX4_stepOverWord 107 = .ok (.aload_n 0, 1) := by decide +kernel
theorem dX4_stepOverWord_108 : decode cX4_stepOverWord 108 = .ok (.sipush 128, 3) := by decide +kernel
theorem dX4_stepOverWord_111 : decode cX4_stepOverWord 111 = .ok (.iload_n 1, 1) := by decide +kernel
theorem dX4_stepOverWord_112 : decode cX4_stepOverWord 112 = .ok (.iadd, 1) := by decide +kernel
theorem dX4_stepOverWord_113 : decode cX4_stepOverWord 113 = .ok (.putfield 82, 3) := by decide +kernel
theorem dX4_stepOverWord_16 : decode cX4_stepOverWord 16 = .ok (.aload_n 0, 1) := by decide +kernel
theorem kw365 : (.fieldLink RX4 21 "SpiceSwaps$Reader" "bytes" "[B" : Cond) ∈ gT := gT_of 365 (by decide +kernel) (by decide +kernel)
theorem dX4_stepOverWord_17 : decode cX4_stepOverWord 17 = .ok (.getfield 21, 3) := by decide +kernel
theorem dX4_stepOverWord_20 : decode cX4_stepOverWord 20 = .ok (.aload_n 0, 1) := by decide +kernel
theorem dX4_stepOverWord_21 : decode cX4_stepOverWord 21 = .ok (.getfield 76, 3) := by decide +kernel
theorem dX4_stepOverWord_24 : decode cX4_stepOverWord 24 = .ok (.baload, 1) := by decide +kernel
theorem dX4_stepOverWord_25 : decode cX4_stepOverWord 25 = .ok (.bipush 97, 2) := by decide +kernel
theorem dX4_stepOverWord_27 : decode cX4_stepOverWord 27 = .ok (.if_icmp .lt 50, 3) := by decide +kernel
theorem dX4_stepOverWord_30 : decode cX4_stepOverWord 30 = .ok (.aload_n 0, 1) := by decide +kernel
theorem dX4_stepOverWord_31 : decode cX4_stepOverWord 31 = .ok (.getfield 21, 3) := by decide +kernel
theorem dX4_stepOverWord_34 : decode cX4_stepOverWord 34 = .ok (.aload_n 0, 1) := by decide +kernel
theorem dX4_stepOverWord_35 : decode cX4_stepOverWord 35 = .ok (.getfield 76, 3) := by decide +kernel
theorem dX4_stepOverWord_38 : decode cX4_stepOverWord 38 = .ok (.baload, 1) := by decide +kernel
theorem dX4_stepOverWord_39 : decode cX4_stepOverWord 39 = .ok (.bipush 122, 2) := by decide +kernel
theorem dX4_stepOverWord_41 : decode cX4_stepOverWord 41 = .ok (.if_icmp .gt 36, 3) := by decide +kernel
theorem dX4_stepOverWord_44 : decode cX4_stepOverWord 44 = .ok (.aload_n 0, 1) := by decide +kernel
theorem dX4_stepOverWord_45 : decode cX4_stepOverWord 45 = .ok (.aload_n 0, 1) := by decide +kernel
theorem dX4_stepOverWord_46 : decode cX4_stepOverWord 46 = .ok (.getfield 221, 3) := by decide +kernel
theorem dX4_stepOverWord_49 : decode cX4_stepOverWord 49 = .ok (.aload_n 0, 1) := by decide +kernel
theorem dX4_stepOverWord_50 : decode cX4_stepOverWord 50 = .ok (.getfield 21, 3) := by decide +kernel
theorem dX4_stepOverWord_53 : decode cX4_stepOverWord 53 = .ok (.aload_n 0, 1) := by decide +kernel
theorem dX4_stepOverWord_54 : decode cX4_stepOverWord 54 = .ok (.getfield 76, 3) := by decide +kernel
theorem dX4_stepOverWord_57 : decode cX4_stepOverWord 57 = .ok (.baload, 1) := by decide +kernel
theorem kw355 : (.methodLink RX4 241 yX4_packed : Cond) ∈ gT := gT_of 355 (by decide +kernel) (by decide +kernel)
theorem kw357 : (.code yX4_packed cX4_packed 3 (some .long) : Cond) ∈ gT := gT_of 357 (by decide +kernel) (by decide +kernel)
theorem kw356 : (.static yX4_packed : Cond) ∈ gT := gT_of 356 (by decide +kernel) (by decide +kernel)
theorem kw116 : (.initialized RX4 : Cond) ∈ gT := gT_of 116 (by decide +kernel) (by decide +kernel)
theorem dX4_stepOverWord_58 : decode cX4_stepOverWord 58 = .ok (.invokestatic 241, 3) := by decide +kernel
theorem dX4_stepOverWord_61 : decode cX4_stepOverWord 61 = .ok (.putfield 221, 3) := by decide +kernel
theorem dX4_stepOverWord_64 : decode cX4_stepOverWord 64 = .ok (.aload_n 0, 1) := by decide +kernel
theorem dX4_stepOverWord_65 : decode cX4_stepOverWord 65 = .ok (.dup, 1) := by decide +kernel
theorem dX4_stepOverWord_66 : decode cX4_stepOverWord 66 = .ok (.getfield 76, 3) := by decide +kernel
theorem dX4_stepOverWord_69 : decode cX4_stepOverWord 69 = .ok (.iconst 1, 1) := by decide +kernel
theorem dX4_stepOverWord_70 : decode cX4_stepOverWord 70 = .ok (.iadd, 1) := by decide +kernel
theorem dX4_stepOverWord_71 : decode cX4_stepOverWord 71 = .ok (.putfield 76, 3) := by decide +kernel
theorem dX4_stepOverWord_74 : decode cX4_stepOverWord 74 = .ok (.goto (-69), 3) := by decide +kernel
set_option maxHeartbeats 4000000 in
set_option maxRecDepth 100000 in
theorem sX4_stepOverWord_1 (l : Launch) (D : va_G) (cB cI cJ cZ : ClassId) (aK aV : Nat → Nat) (h0 : Nat) (h1 : Nat) (h2 : Nat) (h3 : Nat) (h4 : Nat) (h5 : Nat) (h6 : Nat) (x7 : Int32) (h8 : Nat) (h9 : Nat) (x10 : Int32) (x11 : Int32) (x12 : Int32) (y13 : Int64) (x14 : Int32) (x15 : Int32) (x16 : Int32) (f17 : Nat → Int32) (f18 : Nat → Int64) (gh0 : 0 ≤ x7.toInt) (gh1 : 0 ≤ -x7.toInt + 1600) (gh2 : 0 ≤ x10.toInt) (gh3 : 0 ≤ -x10.toInt + 1600) (gh4 : 0 ≤ x11.toInt) (gh5 : 0 ≤ -x11.toInt + 1600) (gh6 : 0 ≤ x15.toInt) (gh7 : 0 ≤ -x15.toInt + 5) : MX l yX4_stepOverWord cX4_stepOverWord 2 none (rmL 2 0 0) D cB cI cJ cZ aK aV [.ref h0] [(h0, .inr (4, [.ref h1, .ref h2, .ref h3, .ref h4, .ref h5, .ref h6, .int x7, .ref h8, .ref h9, .int x10, .int x11, .int x12, .long y13, .int x14, .int x15, .int x16])), (h6, .inl (cB, 1600, .inl f17)), (h1, .inl (cJ, 21, .inr (.inl f18)))] (fun r w1 => ∃ z1 : Int32, ∃ z2 : Int32, ∃ z3 : Int64, 0 ≤ z1.toInt ∧ 0 ≤ -z1.toInt + 1600 ∧ r = none ∧ w1 = [(h0, .inr (4, [.ref h1, .ref h2, .ref h3, .ref h4, .ref h5, .ref h6, .int x7, .ref h8, .ref h9, .int z1, .int x11, .int z2, .long z3, .int x14, .int x15, .int x16])), (h6, .inl (cB, 1600, .inl f17)), (h1, .inl (cJ, 21, .inr (.inl f18)))]) := by
  refine MX.intro (by decide) (Nat.le_of_ble_eq_true rfl) ?_
  intro p e s m below meth c A ls hx hb hr hml hown hlocks hnm hts hG hE hA hS hP hD hl hAe
  have hl : lv_has ls 2 [(0, .ref h0)] := hl
  have hown : s.vm.findClass RX4 = some m.cls := hown
  refine lv_aload_n hx hb dX4_stepOverWord_0 rfl (lv_at hl 0 rfl) ?_
  refine lv_lconst (v := 0) hx hb dX4_stepOverWord_1 (by decide +kernel) ?_
  refine va_put (D := D) (ci := 4) (v := .long 0) (ty := .long) (C := RX4) (T := TX4) (N := 16) hx hb hts inX4 tyX4 tyX4_ok nmX4 hown hG.1 hP hD hS 0 rfl rfl 12 (by decide) (hts _ kw372) (fun _ h9 => h9) rfl (by decide +kernel) rfl rfl (Nat.le_of_ble_eq_true rfl) dX4_stepOverWord_2 (fun H locs hP hD hS => ?_)
  have hP : va_P D vwCl [(h0, .inr (4, [.ref h1, .ref h2, .ref h3, .ref h4, .ref h5, .ref h6, .int x7, .ref h8, .ref h9, .int x10, .int x11, .int x12, .long 0, .int x14, .int x15, .int x16])), (h6, .inl (cB, 1600, .inl f17)), (h1, .inl (cJ, 21, .inr (.inl f18)))] H := hP
  have hD : va_D A [(h0, .inr (4, [.ref h1, .ref h2, .ref h3, .ref h4, .ref h5, .ref h6, .int x7, .ref h8, .ref h9, .int x10, .int x11, .int x12, .long 0, .int x14, .int x15, .int x16])), (h6, .inl (cB, 1600, .inl f17)), (h1, .inl (cJ, 21, .inr (.inl f18)))] := hD
  have lp_5 : ∀ (n : Nat) (x_3 : Int32) (y_4 : Int64) (H : Heap) (locs : List Loc) (ls : Array Slot), 0 ≤ -x_3.toInt + 1600 → 0 ≤ -x10.toInt + x_3.toInt → -x_3.toInt + 1600 < n → va_P D vwCl [(h0, .inr (4, [.ref h1, .ref h2, .ref h3, .ref h4, .ref h5, .ref h6, .int x7, .ref h8, .ref h9, .int x_3, .int x11, .int x12, .long y_4, .int x14, .int x15, .int x16])), (h6, .inl (cB, 1600, .inl f17)), (h1, .inl (cJ, 21, .inr (.inl f18)))] H → va_D A [(h0, .inr (4, [.ref h1, .ref h2, .ref h3, .ref h4, .ref h5, .ref h6, .int x7, .ref h8, .ref h9, .int x_3, .int x11, .int x12, .long y_4, .int x14, .int x15, .int x16])), (h6, .inl (cB, 1600, .inl f17)), (h1, .inl (cJ, 21, .inr (.inl f18)))] → va_S A s.heap H locs → lv_has ls 2 [(0, .ref h0)] → W p l e (rmL 2 0 0) s m [.ref h0].toArray below meth c H locs 0 0 (ZX D below [.ref h0] s (rmL 2 0 0) [(h0, .inr (4, [.ref h1, .ref h2, .ref h3, .ref h4, .ref h5, .ref h6, .int x7, .ref h8, .ref h9, .int x10, .int x11, .int x12, .long y13, .int x14, .int x15, .int x16])), (h6, .inl (cB, 1600, .inl f17)), (h1, .inl (cJ, 21, .inr (.inl f18)))] (fun r w1 => ∃ z1 : Int32, ∃ z2 : Int32, ∃ z3 : Int64, 0 ≤ z1.toInt ∧ 0 ≤ -z1.toInt + 1600 ∧ r = none ∧ w1 = [(h0, .inr (4, [.ref h1, .ref h2, .ref h3, .ref h4, .ref h5, .ref h6, .int x7, .ref h8, .ref h9, .int z1, .int x11, .int z2, .long z3, .int x14, .int x15, .int x16])), (h6, .inl (cB, 1600, .inl f17)), (h1, .inl (cJ, 21, .inr (.inl f18)))])) (F0 m 5 ls []) := by
    intro n
    induction n with
    | zero => intro x_3 y_4 H locs ls g_6 g_7 g_8; omega
    | succ n ihlp_5 =>
      intro x_3 y_4 H locs ls g_6 g_7 g_8 hP hD hS hl
      refine lv_aload_n hx hb dX4_stepOverWord_5 rfl (lv_at hl 0 rfl) ?_
      refine va_get (D := D) (ci := 4) (v := .int x_3) (C := RX4) (T := TX4) (N := 16) hx hb hts inX4 hown hG.1 hP 0 rfl rfl 9 (by decide) (hts _ kw369) (fun _ h9 => h9) rfl dX4_stepOverWord_6 ?_
      refine lv_aload_n hx hb dX4_stepOverWord_9 rfl (lv_at hl 0 rfl) ?_
      refine va_get (D := D) (ci := 4) (v := .int x7) (C := RX4) (T := TX4) (N := 16) hx hb hts inX4 hown hG.1 hP 0 rfl rfl 6 (by decide) (hts _ kw366) (fun _ h9 => h9) rfl dX4_stepOverWord_10 ?_
      refine lv_icmp_ge (tgt := 77) hx hb dX4_stepOverWord_13 (by decide) (fun c_9 => ?_) (fun c_9 => ?_)
      · have fc_9 : x7.toInt ≤ x_3.toInt := i_le rfl rfl c_9
        refine lv_aload_n hx hb dX4_stepOverWord_77 rfl (lv_at hl 0 rfl) ?_
        refine lv_iconst (v := 3) hx hb dX4_stepOverWord_78 (by decide +kernel) ?_
        refine va_put (D := D) (ci := 4) (v := .int 3) (ty := .int) (C := RX4) (T := TX4) (N := 16) hx hb hts inX4 tyX4 tyX4_ok nmX4 hown hG.1 hP hD hS 0 rfl rfl 11 (by decide) (hts _ kw371) (fun _ h9 => h9) rfl (by decide +kernel) rfl rfl (Nat.le_of_ble_eq_true rfl) dX4_stepOverWord_79 (fun H locs hP hD hS => ?_)
        have hP : va_P D vwCl [(h0, .inr (4, [.ref h1, .ref h2, .ref h3, .ref h4, .ref h5, .ref h6, .int x7, .ref h8, .ref h9, .int x_3, .int x11, .int 3, .long y_4, .int x14, .int x15, .int x16])), (h6, .inl (cB, 1600, .inl f17)), (h1, .inl (cJ, 21, .inr (.inl f18)))] H := hP
        have hD : va_D A [(h0, .inr (4, [.ref h1, .ref h2, .ref h3, .ref h4, .ref h5, .ref h6, .int x7, .ref h8, .ref h9, .int x_3, .int x11, .int 3, .long y_4, .int x14, .int x15, .int x16])), (h6, .inl (cB, 1600, .inl f17)), (h1, .inl (cJ, 21, .inr (.inl f18)))] := hD
        refine lv_iconst (v := 0) hx hb dX4_stepOverWord_82 (by decide +kernel) ?_
        refine lv_istore_n (lv' := [(1, .int 0), (0, .ref h0)]) hx hb dX4_stepOverWord_83 rfl hl (by decide) rfl (fun ls hl => ?_)
        have lp_14 : ∀ (n : Nat) (x_12 x_13 : Int32) (H : Heap) (locs : List Loc) (ls : Array Slot), 0 ≤ x_12.toInt - 3 → 0 ≤ -x_12.toInt + 272 → 0 ≤ x_13.toInt → 0 ≤ -x_13.toInt + 21 → -x_13.toInt + 21 < n → va_P D vwCl [(h0, .inr (4, [.ref h1, .ref h2, .ref h3, .ref h4, .ref h5, .ref h6, .int x7, .ref h8, .ref h9, .int x_3, .int x11, .int x_12, .long y_4, .int x14, .int x15, .int x16])), (h6, .inl (cB, 1600, .inl f17)), (h1, .inl (cJ, 21, .inr (.inl f18)))] H → va_D A [(h0, .inr (4, [.ref h1, .ref h2, .ref h3, .ref h4, .ref h5, .ref h6, .int x7, .ref h8, .ref h9, .int x_3, .int x11, .int x_12, .long y_4, .int x14, .int x15, .int x16])), (h6, .inl (cB, 1600, .inl f17)), (h1, .inl (cJ, 21, .inr (.inl f18)))] → va_S A s.heap H locs → lv_has ls 2 [(1, .int x_13), (0, .ref h0)] → W p l e (rmL 2 0 0) s m [.ref h0].toArray below meth c H locs 0 0 (ZX D below [.ref h0] s (rmL 2 0 0) [(h0, .inr (4, [.ref h1, .ref h2, .ref h3, .ref h4, .ref h5, .ref h6, .int x7, .ref h8, .ref h9, .int x10, .int x11, .int x12, .long y13, .int x14, .int x15, .int x16])), (h6, .inl (cB, 1600, .inl f17)), (h1, .inl (cJ, 21, .inr (.inl f18)))] (fun r w1 => ∃ z1 : Int32, ∃ z2 : Int32, ∃ z3 : Int64, 0 ≤ z1.toInt ∧ 0 ≤ -z1.toInt + 1600 ∧ r = none ∧ w1 = [(h0, .inr (4, [.ref h1, .ref h2, .ref h3, .ref h4, .ref h5, .ref h6, .int x7, .ref h8, .ref h9, .int z1, .int x11, .int z2, .long z3, .int x14, .int x15, .int x16])), (h6, .inl (cB, 1600, .inl f17)), (h1, .inl (cJ, 21, .inr (.inl f18)))])) (F0 m 84 ls []) := by
          intro n
          induction n with
          | zero => intro x_12 x_13 H locs ls g_15 g_16 g_17 g_18 g_19; omega
          | succ n ihlp_14 =>
            intro x_12 x_13 H locs ls g_15 g_16 g_17 g_18 g_19 hP hD hS hl
            refine lv_iload_n hx hb dX4_stepOverWord_84 rfl (lv_at hl 0 rfl) ?_
            refine lv_aload_n hx hb dX4_stepOverWord_85 rfl (lv_at hl 1 rfl) ?_
            refine va_get (D := D) (ci := 4) (v := .ref h1) (C := RX4) (T := TX4) (N := 16) hx hb hts inX4 hown hG.1 hP 0 rfl rfl 0 (by decide) (hts _ kw360) (fun _ h9 => h9) rfl dX4_stepOverWord_86 ?_
            refine xa_alen (v := 21) hx hb hG hP 2 2 rfl rfl rfl dX4_stepOverWord_89 ?_
            refine lv_icmp_ge (tgt := 122) hx hb dX4_stepOverWord_90 (by decide) (fun c_20 => ?_) (fun c_20 => ?_)
            · have fc_20 : (21 : Int) ≤ x_13.toInt := i_le (by decide) rfl c_20
              refine lv_aload_n hx hb dX4_stepOverWord_122 rfl (lv_at hl 1 rfl) ?_
              refine va_get (D := D) (ci := 4) (v := .int x_3) (C := RX4) (T := TX4) (N := 16) hx hb hts inX4 hown hG.1 hP 0 rfl rfl 9 (by decide) (hts _ kw369) (fun _ h9 => h9) rfl dX4_stepOverWord_123 ?_
              refine lv_aload_n hx hb dX4_stepOverWord_126 rfl (lv_at hl 1 rfl) ?_
              refine va_get (D := D) (ci := 4) (v := .int x11) (C := RX4) (T := TX4) (N := 16) hx hb hts inX4 hown hG.1 hP 0 rfl rfl 10 (by decide) (hts _ kw370) (fun _ h9 => h9) rfl dX4_stepOverWord_127 ?_
              refine lv_isub hx hb dX4_stepOverWord_130 ?_
              refine lv_topi (fun v_21 ev_21 => ?_)
              have gv_21 : v_21.toInt = x_3.toInt - x11.toInt := by
                have zx : (x_3 : Int32).toInt = x_3.toInt := rfl
                have zy : (x11 : Int32).toInt = x11.toInt := rfl
                rw [ev_21, i32_sub (by rw [zx, zy]; omega) (by rw [zx, zy]; omega), zx, zy]
              refine lv_bipush (v := 8) hx hb dX4_stepOverWord_131 (by decide +kernel) ?_
              refine lv_icmp_le (tgt := 141) hx hb dX4_stepOverWord_133 (by decide) (fun c_22 => ?_) (fun c_22 => ?_)
              · have fc_22 : v_21.toInt ≤ (8 : Int) := i_le rfl (by decide) c_22
                have hP9 := hP.sub (ws' := [(h0, .inr (4, [.ref h1, .ref h2, .ref h3, .ref h4, .ref h5, .ref h6, .int x7, .ref h8, .ref h9, .int x_3, .int x11, .int x_12, .long y_4, .int x14, .int x15, .int x16])), (h6, .inl (cB, 1600, .inl f17)), (h1, .inl (cJ, 21, .inr (.inl f18)))]) [0, 1, 2] rfl
                have hD9 := hD.sub (ws' := [(h0, .inr (4, [.ref h1, .ref h2, .ref h3, .ref h4, .ref h5, .ref h6, .int x7, .ref h8, .ref h9, .int x_3, .int x11, .int x_12, .long y_4, .int x14, .int x15, .int x16])), (h6, .inl (cB, 1600, .inl f17)), (h1, .inl (cJ, 21, .inr (.inl f18)))]) [0, 1, 2] (by decide) rfl
                exact xr_v (rm := (rmL 2 0 0)) hx hb hr hlocks hAe hS hP9 hD9 (Nat.le_of_ble_eq_true rfl) (Nat.le_of_ble_eq_true rfl) dX4_stepOverWord_141 ⟨x_3, x_12, y_4, by omega, by omega, rfl, rfl⟩
              · have fc_22 : (8 : Int) < v_21.toInt := i_nle rfl (by decide) c_22
                refine lv_aload_n hx hb dX4_stepOverWord_136 rfl (lv_at hl 1 rfl) ?_
                refine lv_iconst (v := 1) hx hb dX4_stepOverWord_137 (by decide +kernel) ?_
                refine va_put (D := D) (ci := 4) (v := .int 1) (ty := .int) (C := RX4) (T := TX4) (N := 16) hx hb hts inX4 tyX4 tyX4_ok nmX4 hown hG.1 hP hD hS 0 rfl rfl 11 (by decide) (hts _ kw371) (fun _ h9 => h9) rfl (by decide +kernel) rfl rfl (Nat.le_of_ble_eq_true rfl) dX4_stepOverWord_138 (fun H locs hP hD hS => ?_)
                have hP : va_P D vwCl [(h0, .inr (4, [.ref h1, .ref h2, .ref h3, .ref h4, .ref h5, .ref h6, .int x7, .ref h8, .ref h9, .int x_3, .int x11, .int 1, .long y_4, .int x14, .int x15, .int x16])), (h6, .inl (cB, 1600, .inl f17)), (h1, .inl (cJ, 21, .inr (.inl f18)))] H := hP
                have hD : va_D A [(h0, .inr (4, [.ref h1, .ref h2, .ref h3, .ref h4, .ref h5, .ref h6, .int x7, .ref h8, .ref h9, .int x_3, .int x11, .int 1, .long y_4, .int x14, .int x15, .int x16])), (h6, .inl (cB, 1600, .inl f17)), (h1, .inl (cJ, 21, .inr (.inl f18)))] := hD
                have hP9 := hP.sub (ws' := [(h0, .inr (4, [.ref h1, .ref h2, .ref h3, .ref h4, .ref h5, .ref h6, .int x7, .ref h8, .ref h9, .int x_3, .int x11, .int 1, .long y_4, .int x14, .int x15, .int x16])), (h6, .inl (cB, 1600, .inl f17)), (h1, .inl (cJ, 21, .inr (.inl f18)))]) [0, 1, 2] rfl
                have hD9 := hD.sub (ws' := [(h0, .inr (4, [.ref h1, .ref h2, .ref h3, .ref h4, .ref h5, .ref h6, .int x7, .ref h8, .ref h9, .int x_3, .int x11, .int 1, .long y_4, .int x14, .int x15, .int x16])), (h6, .inl (cB, 1600, .inl f17)), (h1, .inl (cJ, 21, .inr (.inl f18)))]) [0, 1, 2] (by decide) rfl
                exact xr_v (rm := (rmL 2 0 0)) hx hb hr hlocks hAe hS hP9 hD9 (Nat.le_of_ble_eq_true rfl) (Nat.le_of_ble_eq_true rfl) dX4_stepOverWord_141 ⟨x_3, 1, y_4, by have zc1 : (1 : Int32).toInt = 1 := (by decide); omega, by have zc1 : (1 : Int32).toInt = 1 := (by decide); omega, rfl, rfl⟩
            · have fc_20 : x_13.toInt < (21 : Int) := i_nle (by decide) rfl c_20
              refine lv_aload_n hx hb dX4_stepOverWord_93 rfl (lv_at hl 1 rfl) ?_
              refine va_get (D := D) (ci := 4) (v := .ref h1) (C := RX4) (T := TX4) (N := 16) hx hb hts inX4 hown hG.1 hP 0 rfl rfl 0 (by decide) (hts _ kw360) (fun _ h9 => h9) rfl dX4_stepOverWord_94 ?_
              refine lv_iload_n hx hb dX4_stepOverWord_97 rfl (lv_at hl 0 rfl) ?_
              refine xa_lldU hx hb hG hP 2 rfl (vp_in_iff.mpr ⟨by omega, by omega⟩) dX4_stepOverWord_98 (fun v_23 => ?_)
              refine lv_aload_n hx hb dX4_stepOverWord_99 rfl (lv_at hl 1 rfl) ?_
              refine va_get (D := D) (ci := 4) (v := .long y_4) (C := RX4) (T := TX4) (N := 16) hx hb hts inX4 hown hG.1 hP 0 rfl rfl 12 (by decide) (hts _ kw372) (fun _ h9 => h9) rfl dX4_stepOverWord_100 ?_
              refine W.lcmp hx hb dX4_stepOverWord_103 ?_
              refine xt_any (fun v_24 => ?_)
              refine lv_if_ne (tgt := 116) hx hb dX4_stepOverWord_104 (by decide) (fun c_25 => ?_) (fun c_25 => ?_)
              · have fc_25 : v_24.toInt ≠ (0 : Int) := i_ne rfl (by decide) c_25
                obtain ⟨v_26, ev_26⟩ : ∃ y : Int32, y = x_13 + 1 := ⟨_, rfl⟩
                have gv_26 : v_26.toInt = x_13.toInt + 1 := by
                  have zy : (1 : Int32).toInt = 1 := by decide
                  rw [ev_26, i32_add (by rw [zy]; omega) (by rw [zy]; omega), zy]
                refine lv_iinc (v := v_26) (lv' := [(1, .int v_26), (0, .ref h0)]) hx hb dX4_stepOverWord_116 hl (k := 0) rfl (by rw [ev_26]; rfl) (by decide) rfl (fun ls hl => ?_)
                refine lv_goto (tgt := 84) hx hb dX4_stepOverWord_119 (by decide) ?_
                exact ihlp_14  x_12 v_26 _ _ _ (by omega) (by omega) (by omega) (by omega) (by omega) (hP.sub (ws' := [(h0, .inr (4, [.ref h1, .ref h2, .ref h3, .ref h4, .ref h5, .ref h6, .int x7, .ref h8, .ref h9, .int x_3, .int x11, .int x_12, .long y_4, .int x14, .int x15, .int x16])), (h6, .inl (cB, 1600, .inl f17)), (h1, .inl (cJ, 21, .inr (.inl f18)))]) [0, 1, 2] rfl) (hD.sub (ws' := [(h0, .inr (4, [.ref h1, .ref h2, .ref h3, .ref h4, .ref h5, .ref h6, .int x7, .ref h8, .ref h9, .int x_3, .int x11, .int x_12, .long y_4, .int x14, .int x15, .int x16])), (h6, .inl (cB, 1600, .inl f17)), (h1, .inl (cJ, 21, .inr (.inl f18)))]) [0, 1, 2] (by decide) rfl) hS (lv_sub hl [0, 1] rfl)
              · have fc_25 : v_24.toInt = (0 : Int) := i_eq rfl (by decide) c_25
                refine lv_aload_n hx hb dX4_stepOverWord_107 rfl (lv_at hl 1 rfl) ?_
                refine lv_sipush (v := 128) hx hb dX4_stepOverWord_108 (by decide +kernel) ?_
                refine lv_iload_n hx hb dX4_stepOverWord_111 rfl (lv_at hl 0 rfl) ?_
                refine lv_iadd hx hb dX4_stepOverWord_112 ?_
                refine lv_topi (fun v_27 ev_27 => ?_)
                have gv_27 : v_27.toInt = (128 : Int) + x_13.toInt := by
                  have zx : (128 : Int32).toInt = (128 : Int) := (by decide)
                  have zy : (x_13 : Int32).toInt = x_13.toInt := rfl
                  rw [ev_27, i32_add (by rw [zx, zy]; omega) (by rw [zx, zy]; omega), zx, zy]
                refine va_put (D := D) (ci := 4) (v := .int v_27) (ty := .int) (C := RX4) (T := TX4) (N := 16) hx hb hts inX4 tyX4 tyX4_ok nmX4 hown hG.1 hP hD hS 0 rfl rfl 11 (by decide) (hts _ kw371) (fun _ h9 => h9) rfl (by decide +kernel) rfl rfl (Nat.le_of_ble_eq_true rfl) dX4_stepOverWord_113 (fun H locs hP hD hS => ?_)
                have hP : va_P D vwCl [(h0, .inr (4, [.ref h1, .ref h2, .ref h3, .ref h4, .ref h5, .ref h6, .int x7, .ref h8, .ref h9, .int x_3, .int x11, .int v_27, .long y_4, .int x14, .int x15, .int x16])), (h6, .inl (cB, 1600, .inl f17)), (h1, .inl (cJ, 21, .inr (.inl f18)))] H := hP
                have hD : va_D A [(h0, .inr (4, [.ref h1, .ref h2, .ref h3, .ref h4, .ref h5, .ref h6, .int x7, .ref h8, .ref h9, .int x_3, .int x11, .int v_27, .long y_4, .int x14, .int x15, .int x16])), (h6, .inl (cB, 1600, .inl f17)), (h1, .inl (cJ, 21, .inr (.inl f18)))] := hD
                obtain ⟨v_28, ev_28⟩ : ∃ y : Int32, y = x_13 + 1 := ⟨_, rfl⟩
                have gv_28 : v_28.toInt = x_13.toInt + 1 := by
                  have zy : (1 : Int32).toInt = 1 := by decide
                  rw [ev_28, i32_add (by rw [zy]; omega) (by rw [zy]; omega), zy]
                refine lv_iinc (v := v_28) (lv' := [(1, .int v_28), (0, .ref h0)]) hx hb dX4_stepOverWord_116 hl (k := 0) rfl (by rw [ev_28]; rfl) (by decide) rfl (fun ls hl => ?_)
                refine lv_goto (tgt := 84) hx hb dX4_stepOverWord_119 (by decide) ?_
                exact ihlp_14  v_27 v_28 _ _ _ (by omega) (by omega) (by omega) (by omega) (by omega) (hP.sub (ws' := [(h0, .inr (4, [.ref h1, .ref h2, .ref h3, .ref h4, .ref h5, .ref h6, .int x7, .ref h8, .ref h9, .int x_3, .int x11, .int v_27, .long y_4, .int x14, .int x15, .int x16])), (h6, .inl (cB, 1600, .inl f17)), (h1, .inl (cJ, 21, .inr (.inl f18)))]) [0, 1, 2] rfl) (hD.sub (ws' := [(h0, .inr (4, [.ref h1, .ref h2, .ref h3, .ref h4, .ref h5, .ref h6, .int x7, .ref h8, .ref h9, .int x_3, .int x11, .int v_27, .long y_4, .int x14, .int x15, .int x16])), (h6, .inl (cB, 1600, .inl f17)), (h1, .inl (cJ, 21, .inr (.inl f18)))]) [0, 1, 2] (by decide) rfl) hS (lv_sub hl [0, 1] rfl)
        exact lp_14 23 3 0 _ _ _ (by have zc0 : (0 : Int32).toInt = 0 := (by decide); have zc3 : (3 : Int32).toInt = 3 := (by decide); omega) (by have zc0 : (0 : Int32).toInt = 0 := (by decide); have zc3 : (3 : Int32).toInt = 3 := (by decide); omega) (by have zc0 : (0 : Int32).toInt = 0 := (by decide); have zc3 : (3 : Int32).toInt = 3 := (by decide); omega) (by have zc0 : (0 : Int32).toInt = 0 := (by decide); have zc3 : (3 : Int32).toInt = 3 := (by decide); omega) (by have zc0 : (0 : Int32).toInt = 0 := (by decide); have zc3 : (3 : Int32).toInt = 3 := (by decide); omega) (hP.sub (ws' := [(h0, .inr (4, [.ref h1, .ref h2, .ref h3, .ref h4, .ref h5, .ref h6, .int x7, .ref h8, .ref h9, .int x_3, .int x11, .int 3, .long y_4, .int x14, .int x15, .int x16])), (h6, .inl (cB, 1600, .inl f17)), (h1, .inl (cJ, 21, .inr (.inl f18)))]) [0, 1, 2] rfl) (hD.sub (ws' := [(h0, .inr (4, [.ref h1, .ref h2, .ref h3, .ref h4, .ref h5, .ref h6, .int x7, .ref h8, .ref h9, .int x_3, .int x11, .int 3, .long y_4, .int x14, .int x15, .int x16])), (h6, .inl (cB, 1600, .inl f17)), (h1, .inl (cJ, 21, .inr (.inl f18)))]) [0, 1, 2] (by decide) rfl) hS (lv_sub hl [0, 1] rfl)
      · have fc_9 : x_3.toInt < x7.toInt := i_nle rfl rfl c_9
        refine lv_aload_n hx hb dX4_stepOverWord_16 rfl (lv_at hl 0 rfl) ?_
        refine va_get (D := D) (ci := 4) (v := .ref h6) (C := RX4) (T := TX4) (N := 16) hx hb hts inX4 hown hG.1 hP 0 rfl rfl 5 (by decide) (hts _ kw365) (fun _ h9 => h9) rfl dX4_stepOverWord_17 ?_
        refine lv_aload_n hx hb dX4_stepOverWord_20 rfl (lv_at hl 0 rfl) ?_
        refine va_get (D := D) (ci := 4) (v := .int x_3) (C := RX4) (T := TX4) (N := 16) hx hb hts inX4 hown hG.1 hP 0 rfl rfl 9 (by decide) (hts _ kw369) (fun _ h9 => h9) rfl dX4_stepOverWord_21 ?_
        refine xa_bldU hx hb hG hP 1 rfl (vp_in_iff.mpr ⟨by omega, by omega⟩) dX4_stepOverWord_24 (fun v_29 => ?_)
        refine lv_bipush (v := 97) hx hb dX4_stepOverWord_25 (by decide +kernel) ?_
        refine lv_icmp_lt (tgt := 77) hx hb dX4_stepOverWord_27 (by decide) (fun c_30 => ?_) (fun c_30 => ?_)
        · have fc_30 : v_29.toInt < (97 : Int) := i_lt rfl (by decide) c_30
          refine lv_aload_n hx hb dX4_stepOverWord_77 rfl (lv_at hl 0 rfl) ?_
          refine lv_iconst (v := 3) hx hb dX4_stepOverWord_78 (by decide +kernel) ?_
          refine va_put (D := D) (ci := 4) (v := .int 3) (ty := .int) (C := RX4) (T := TX4) (N := 16) hx hb hts inX4 tyX4 tyX4_ok nmX4 hown hG.1 hP hD hS 0 rfl rfl 11 (by decide) (hts _ kw371) (fun _ h9 => h9) rfl (by decide +kernel) rfl rfl (Nat.le_of_ble_eq_true rfl) dX4_stepOverWord_79 (fun H locs hP hD hS => ?_)
          have hP : va_P D vwCl [(h0, .inr (4, [.ref h1, .ref h2, .ref h3, .ref h4, .ref h5, .ref h6, .int x7, .ref h8, .ref h9, .int x_3, .int x11, .int 3, .long y_4, .int x14, .int x15, .int x16])), (h6, .inl (cB, 1600, .inl f17)), (h1, .inl (cJ, 21, .inr (.inl f18)))] H := hP
          have hD : va_D A [(h0, .inr (4, [.ref h1, .ref h2, .ref h3, .ref h4, .ref h5, .ref h6, .int x7, .ref h8, .ref h9, .int x_3, .int x11, .int 3, .long y_4, .int x14, .int x15, .int x16])), (h6, .inl (cB, 1600, .inl f17)), (h1, .inl (cJ, 21, .inr (.inl f18)))] := hD
          refine lv_iconst (v := 0) hx hb dX4_stepOverWord_82 (by decide +kernel) ?_
          refine lv_istore_n (lv' := [(1, .int 0), (0, .ref h0)]) hx hb dX4_stepOverWord_83 rfl hl (by decide) rfl (fun ls hl => ?_)
          have lp_35 : ∀ (n : Nat) (x_33 x_34 : Int32) (H : Heap) (locs : List Loc) (ls : Array Slot), 0 ≤ x_33.toInt - 3 → 0 ≤ -x_33.toInt + 272 → 0 ≤ x_34.toInt → 0 ≤ -x_34.toInt + 21 → -x_34.toInt + 21 < n → va_P D vwCl [(h0, .inr (4, [.ref h1, .ref h2, .ref h3, .ref h4, .ref h5, .ref h6, .int x7, .ref h8, .ref h9, .int x_3, .int x11, .int x_33, .long y_4, .int x14, .int x15, .int x16])), (h6, .inl (cB, 1600, .inl f17)), (h1, .inl (cJ, 21, .inr (.inl f18)))] H → va_D A [(h0, .inr (4, [.ref h1, .ref h2, .ref h3, .ref h4, .ref h5, .ref h6, .int x7, .ref h8, .ref h9, .int x_3, .int x11, .int x_33, .long y_4, .int x14, .int x15, .int x16])), (h6, .inl (cB, 1600, .inl f17)), (h1, .inl (cJ, 21, .inr (.inl f18)))] → va_S A s.heap H locs → lv_has ls 2 [(1, .int x_34), (0, .ref h0)] → W p l e (rmL 2 0 0) s m [.ref h0].toArray below meth c H locs 0 0 (ZX D below [.ref h0] s (rmL 2 0 0) [(h0, .inr (4, [.ref h1, .ref h2, .ref h3, .ref h4, .ref h5, .ref h6, .int x7, .ref h8, .ref h9, .int x10, .int x11, .int x12, .long y13, .int x14, .int x15, .int x16])), (h6, .inl (cB, 1600, .inl f17)), (h1, .inl (cJ, 21, .inr (.inl f18)))] (fun r w1 => ∃ z1 : Int32, ∃ z2 : Int32, ∃ z3 : Int64, 0 ≤ z1.toInt ∧ 0 ≤ -z1.toInt + 1600 ∧ r = none ∧ w1 = [(h0, .inr (4, [.ref h1, .ref h2, .ref h3, .ref h4, .ref h5, .ref h6, .int x7, .ref h8, .ref h9, .int z1, .int x11, .int z2, .long z3, .int x14, .int x15, .int x16])), (h6, .inl (cB, 1600, .inl f17)), (h1, .inl (cJ, 21, .inr (.inl f18)))])) (F0 m 84 ls []) := by
            intro n
            induction n with
            | zero => intro x_33 x_34 H locs ls g_36 g_37 g_38 g_39 g_40; omega
            | succ n ihlp_35 =>
              intro x_33 x_34 H locs ls g_36 g_37 g_38 g_39 g_40 hP hD hS hl
              refine lv_iload_n hx hb dX4_stepOverWord_84 rfl (lv_at hl 0 rfl) ?_
              refine lv_aload_n hx hb dX4_stepOverWord_85 rfl (lv_at hl 1 rfl) ?_
              refine va_get (D := D) (ci := 4) (v := .ref h1) (C := RX4) (T := TX4) (N := 16) hx hb hts inX4 hown hG.1 hP 0 rfl rfl 0 (by decide) (hts _ kw360) (fun _ h9 => h9) rfl dX4_stepOverWord_86 ?_
              refine xa_alen (v := 21) hx hb hG hP 2 2 rfl rfl rfl dX4_stepOverWord_89 ?_
              refine lv_icmp_ge (tgt := 122) hx hb dX4_stepOverWord_90 (by decide) (fun c_41 => ?_) (fun c_41 => ?_)
              · have fc_41 : (21 : Int) ≤ x_34.toInt := i_le (by decide) rfl c_41
                refine lv_aload_n hx hb dX4_stepOverWord_122 rfl (lv_at hl 1 rfl) ?_
                refine va_get (D := D) (ci := 4) (v := .int x_3) (C := RX4) (T := TX4) (N := 16) hx hb hts inX4 hown hG.1 hP 0 rfl rfl 9 (by decide) (hts _ kw369) (fun _ h9 => h9) rfl dX4_stepOverWord_123 ?_
                refine lv_aload_n hx hb dX4_stepOverWord_126 rfl (lv_at hl 1 rfl) ?_
                refine va_get (D := D) (ci := 4) (v := .int x11) (C := RX4) (T := TX4) (N := 16) hx hb hts inX4 hown hG.1 hP 0 rfl rfl 10 (by decide) (hts _ kw370) (fun _ h9 => h9) rfl dX4_stepOverWord_127 ?_
                refine lv_isub hx hb dX4_stepOverWord_130 ?_
                refine lv_topi (fun v_42 ev_42 => ?_)
                have gv_42 : v_42.toInt = x_3.toInt - x11.toInt := by
                  have zx : (x_3 : Int32).toInt = x_3.toInt := rfl
                  have zy : (x11 : Int32).toInt = x11.toInt := rfl
                  rw [ev_42, i32_sub (by rw [zx, zy]; omega) (by rw [zx, zy]; omega), zx, zy]
                refine lv_bipush (v := 8) hx hb dX4_stepOverWord_131 (by decide +kernel) ?_
                refine lv_icmp_le (tgt := 141) hx hb dX4_stepOverWord_133 (by decide) (fun c_43 => ?_) (fun c_43 => ?_)
                · have fc_43 : v_42.toInt ≤ (8 : Int) := i_le rfl (by decide) c_43
                  have hP9 := hP.sub (ws' := [(h0, .inr (4, [.ref h1, .ref h2, .ref h3, .ref h4, .ref h5, .ref h6, .int x7, .ref h8, .ref h9, .int x_3, .int x11, .int x_33, .long y_4, .int x14, .int x15, .int x16])), (h6, .inl (cB, 1600, .inl f17)), (h1, .inl (cJ, 21, .inr (.inl f18)))]) [0, 1, 2] rfl
                  have hD9 := hD.sub (ws' := [(h0, .inr (4, [.ref h1, .ref h2, .ref h3, .ref h4, .ref h5, .ref h6, .int x7, .ref h8, .ref h9, .int x_3, .int x11, .int x_33, .long y_4, .int x14, .int x15, .int x16])), (h6, .inl (cB, 1600, .inl f17)), (h1, .inl (cJ, 21, .inr (.inl f18)))]) [0, 1, 2] (by decide) rfl
                  exact xr_v (rm := (rmL 2 0 0)) hx hb hr hlocks hAe hS hP9 hD9 (Nat.le_of_ble_eq_true rfl) (Nat.le_of_ble_eq_true rfl) dX4_stepOverWord_141 ⟨x_3, x_33, y_4, by omega, by omega, rfl, rfl⟩
                · have fc_43 : (8 : Int) < v_42.toInt := i_nle rfl (by decide) c_43
                  refine lv_aload_n hx hb dX4_stepOverWord_136 rfl (lv_at hl 1 rfl) ?_
                  refine lv_iconst (v := 1) hx hb dX4_stepOverWord_137 (by decide +kernel) ?_
                  refine va_put (D := D) (ci := 4) (v := .int 1) (ty := .int) (C := RX4) (T := TX4) (N := 16) hx hb hts inX4 tyX4 tyX4_ok nmX4 hown hG.1 hP hD hS 0 rfl rfl 11 (by decide) (hts _ kw371) (fun _ h9 => h9) rfl (by decide +kernel) rfl rfl (Nat.le_of_ble_eq_true rfl) dX4_stepOverWord_138 (fun H locs hP hD hS => ?_)
                  have hP : va_P D vwCl [(h0, .inr (4, [.ref h1, .ref h2, .ref h3, .ref h4, .ref h5, .ref h6, .int x7, .ref h8, .ref h9, .int x_3, .int x11, .int 1, .long y_4, .int x14, .int x15, .int x16])), (h6, .inl (cB, 1600, .inl f17)), (h1, .inl (cJ, 21, .inr (.inl f18)))] H := hP
                  have hD : va_D A [(h0, .inr (4, [.ref h1, .ref h2, .ref h3, .ref h4, .ref h5, .ref h6, .int x7, .ref h8, .ref h9, .int x_3, .int x11, .int 1, .long y_4, .int x14, .int x15, .int x16])), (h6, .inl (cB, 1600, .inl f17)), (h1, .inl (cJ, 21, .inr (.inl f18)))] := hD
                  have hP9 := hP.sub (ws' := [(h0, .inr (4, [.ref h1, .ref h2, .ref h3, .ref h4, .ref h5, .ref h6, .int x7, .ref h8, .ref h9, .int x_3, .int x11, .int 1, .long y_4, .int x14, .int x15, .int x16])), (h6, .inl (cB, 1600, .inl f17)), (h1, .inl (cJ, 21, .inr (.inl f18)))]) [0, 1, 2] rfl
                  have hD9 := hD.sub (ws' := [(h0, .inr (4, [.ref h1, .ref h2, .ref h3, .ref h4, .ref h5, .ref h6, .int x7, .ref h8, .ref h9, .int x_3, .int x11, .int 1, .long y_4, .int x14, .int x15, .int x16])), (h6, .inl (cB, 1600, .inl f17)), (h1, .inl (cJ, 21, .inr (.inl f18)))]) [0, 1, 2] (by decide) rfl
                  exact xr_v (rm := (rmL 2 0 0)) hx hb hr hlocks hAe hS hP9 hD9 (Nat.le_of_ble_eq_true rfl) (Nat.le_of_ble_eq_true rfl) dX4_stepOverWord_141 ⟨x_3, 1, y_4, by have zc1 : (1 : Int32).toInt = 1 := (by decide); omega, by have zc1 : (1 : Int32).toInt = 1 := (by decide); omega, rfl, rfl⟩
              · have fc_41 : x_34.toInt < (21 : Int) := i_nle (by decide) rfl c_41
                refine lv_aload_n hx hb dX4_stepOverWord_93 rfl (lv_at hl 1 rfl) ?_
                refine va_get (D := D) (ci := 4) (v := .ref h1) (C := RX4) (T := TX4) (N := 16) hx hb hts inX4 hown hG.1 hP 0 rfl rfl 0 (by decide) (hts _ kw360) (fun _ h9 => h9) rfl dX4_stepOverWord_94 ?_
                refine lv_iload_n hx hb dX4_stepOverWord_97 rfl (lv_at hl 0 rfl) ?_
                refine xa_lldU hx hb hG hP 2 rfl (vp_in_iff.mpr ⟨by omega, by omega⟩) dX4_stepOverWord_98 (fun v_44 => ?_)
                refine lv_aload_n hx hb dX4_stepOverWord_99 rfl (lv_at hl 1 rfl) ?_
                refine va_get (D := D) (ci := 4) (v := .long y_4) (C := RX4) (T := TX4) (N := 16) hx hb hts inX4 hown hG.1 hP 0 rfl rfl 12 (by decide) (hts _ kw372) (fun _ h9 => h9) rfl dX4_stepOverWord_100 ?_
                refine W.lcmp hx hb dX4_stepOverWord_103 ?_
                refine xt_any (fun v_45 => ?_)
                refine lv_if_ne (tgt := 116) hx hb dX4_stepOverWord_104 (by decide) (fun c_46 => ?_) (fun c_46 => ?_)
                · have fc_46 : v_45.toInt ≠ (0 : Int) := i_ne rfl (by decide) c_46
                  obtain ⟨v_47, ev_47⟩ : ∃ y : Int32, y = x_34 + 1 := ⟨_, rfl⟩
                  have gv_47 : v_47.toInt = x_34.toInt + 1 := by
                    have zy : (1 : Int32).toInt = 1 := by decide
                    rw [ev_47, i32_add (by rw [zy]; omega) (by rw [zy]; omega), zy]
                  refine lv_iinc (v := v_47) (lv' := [(1, .int v_47), (0, .ref h0)]) hx hb dX4_stepOverWord_116 hl (k := 0) rfl (by rw [ev_47]; rfl) (by decide) rfl (fun ls hl => ?_)
                  refine lv_goto (tgt := 84) hx hb dX4_stepOverWord_119 (by decide) ?_
                  exact ihlp_35  x_33 v_47 _ _ _ (by omega) (by omega) (by omega) (by omega) (by omega) (hP.sub (ws' := [(h0, .inr (4, [.ref h1, .ref h2, .ref h3, .ref h4, .ref h5, .ref h6, .int x7, .ref h8, .ref h9, .int x_3, .int x11, .int x_33, .long y_4, .int x14, .int x15, .int x16])), (h6, .inl (cB, 1600, .inl f17)), (h1, .inl (cJ, 21, .inr (.inl f18)))]) [0, 1, 2] rfl) (hD.sub (ws' := [(h0, .inr (4, [.ref h1, .ref h2, .ref h3, .ref h4, .ref h5, .ref h6, .int x7, .ref h8, .ref h9, .int x_3, .int x11, .int x_33, .long y_4, .int x14, .int x15, .int x16])), (h6, .inl (cB, 1600, .inl f17)), (h1, .inl (cJ, 21, .inr (.inl f18)))]) [0, 1, 2] (by decide) rfl) hS (lv_sub hl [0, 1] rfl)
                · have fc_46 : v_45.toInt = (0 : Int) := i_eq rfl (by decide) c_46
                  refine lv_aload_n hx hb dX4_stepOverWord_107 rfl (lv_at hl 1 rfl) ?_
                  refine lv_sipush (v := 128) hx hb dX4_stepOverWord_108 (by decide +kernel) ?_
                  refine lv_iload_n hx hb dX4_stepOverWord_111 rfl (lv_at hl 0 rfl) ?_
                  refine lv_iadd hx hb dX4_stepOverWord_112 ?_
                  refine lv_topi (fun v_48 ev_48 => ?_)
                  have gv_48 : v_48.toInt = (128 : Int) + x_34.toInt := by
                    have zx : (128 : Int32).toInt = (128 : Int) := (by decide)
                    have zy : (x_34 : Int32).toInt = x_34.toInt := rfl
                    rw [ev_48, i32_add (by rw [zx, zy]; omega) (by rw [zx, zy]; omega), zx, zy]
                  refine va_put (D := D) (ci := 4) (v := .int v_48) (ty := .int) (C := RX4) (T := TX4) (N := 16) hx hb hts inX4 tyX4 tyX4_ok nmX4 hown hG.1 hP hD hS 0 rfl rfl 11 (by decide) (hts _ kw371) (fun _ h9 => h9) rfl (by decide +kernel) rfl rfl (Nat.le_of_ble_eq_true rfl) dX4_stepOverWord_113 (fun H locs hP hD hS => ?_)
                  have hP : va_P D vwCl [(h0, .inr (4, [.ref h1, .ref h2, .ref h3, .ref h4, .ref h5, .ref h6, .int x7, .ref h8, .ref h9, .int x_3, .int x11, .int v_48, .long y_4, .int x14, .int x15, .int x16])), (h6, .inl (cB, 1600, .inl f17)), (h1, .inl (cJ, 21, .inr (.inl f18)))] H := hP
                  have hD : va_D A [(h0, .inr (4, [.ref h1, .ref h2, .ref h3, .ref h4, .ref h5, .ref h6, .int x7, .ref h8, .ref h9, .int x_3, .int x11, .int v_48, .long y_4, .int x14, .int x15, .int x16])), (h6, .inl (cB, 1600, .inl f17)), (h1, .inl (cJ, 21, .inr (.inl f18)))] := hD
                  obtain ⟨v_49, ev_49⟩ : ∃ y : Int32, y = x_34 + 1 := ⟨_, rfl⟩
                  have gv_49 : v_49.toInt = x_34.toInt + 1 := by
                    have zy : (1 : Int32).toInt = 1 := by decide
                    rw [ev_49, i32_add (by rw [zy]; omega) (by rw [zy]; omega), zy]
                  refine lv_iinc (v := v_49) (lv' := [(1, .int v_49), (0, .ref h0)]) hx hb dX4_stepOverWord_116 hl (k := 0) rfl (by rw [ev_49]; rfl) (by decide) rfl (fun ls hl => ?_)
                  refine lv_goto (tgt := 84) hx hb dX4_stepOverWord_119 (by decide) ?_
                  exact ihlp_35  v_48 v_49 _ _ _ (by omega) (by omega) (by omega) (by omega) (by omega) (hP.sub (ws' := [(h0, .inr (4, [.ref h1, .ref h2, .ref h3, .ref h4, .ref h5, .ref h6, .int x7, .ref h8, .ref h9, .int x_3, .int x11, .int v_48, .long y_4, .int x14, .int x15, .int x16])), (h6, .inl (cB, 1600, .inl f17)), (h1, .inl (cJ, 21, .inr (.inl f18)))]) [0, 1, 2] rfl) (hD.sub (ws' := [(h0, .inr (4, [.ref h1, .ref h2, .ref h3, .ref h4, .ref h5, .ref h6, .int x7, .ref h8, .ref h9, .int x_3, .int x11, .int v_48, .long y_4, .int x14, .int x15, .int x16])), (h6, .inl (cB, 1600, .inl f17)), (h1, .inl (cJ, 21, .inr (.inl f18)))]) [0, 1, 2] (by decide) rfl) hS (lv_sub hl [0, 1] rfl)
          exact lp_35 23 3 0 _ _ _ (by have zc0 : (0 : Int32).toInt = 0 := (by decide); have zc3 : (3 : Int32).toInt = 3 := (by decide); omega) (by have zc0 : (0 : Int32).toInt = 0 := (by decide); have zc3 : (3 : Int32).toInt = 3 := (by decide); omega) (by have zc0 : (0 : Int32).toInt = 0 := (by decide); have zc3 : (3 : Int32).toInt = 3 := (by decide); omega) (by have zc0 : (0 : Int32).toInt = 0 := (by decide); have zc3 : (3 : Int32).toInt = 3 := (by decide); omega) (by have zc0 : (0 : Int32).toInt = 0 := (by decide); have zc3 : (3 : Int32).toInt = 3 := (by decide); omega) (hP.sub (ws' := [(h0, .inr (4, [.ref h1, .ref h2, .ref h3, .ref h4, .ref h5, .ref h6, .int x7, .ref h8, .ref h9, .int x_3, .int x11, .int 3, .long y_4, .int x14, .int x15, .int x16])), (h6, .inl (cB, 1600, .inl f17)), (h1, .inl (cJ, 21, .inr (.inl f18)))]) [0, 1, 2] rfl) (hD.sub (ws' := [(h0, .inr (4, [.ref h1, .ref h2, .ref h3, .ref h4, .ref h5, .ref h6, .int x7, .ref h8, .ref h9, .int x_3, .int x11, .int 3, .long y_4, .int x14, .int x15, .int x16])), (h6, .inl (cB, 1600, .inl f17)), (h1, .inl (cJ, 21, .inr (.inl f18)))]) [0, 1, 2] (by decide) rfl) hS (lv_sub hl [0, 1] rfl)
        · have fc_30 : (97 : Int) ≤ v_29.toInt := i_nlt rfl (by decide) c_30
          refine lv_aload_n hx hb dX4_stepOverWord_30 rfl (lv_at hl 0 rfl) ?_
          refine va_get (D := D) (ci := 4) (v := .ref h6) (C := RX4) (T := TX4) (N := 16) hx hb hts inX4 hown hG.1 hP 0 rfl rfl 5 (by decide) (hts _ kw365) (fun _ h9 => h9) rfl dX4_stepOverWord_31 ?_
          refine lv_aload_n hx hb dX4_stepOverWord_34 rfl (lv_at hl 0 rfl) ?_
          refine va_get (D := D) (ci := 4) (v := .int x_3) (C := RX4) (T := TX4) (N := 16) hx hb hts inX4 hown hG.1 hP 0 rfl rfl 9 (by decide) (hts _ kw369) (fun _ h9 => h9) rfl dX4_stepOverWord_35 ?_
          refine xa_bldU hx hb hG hP 1 rfl (vp_in_iff.mpr ⟨by omega, by omega⟩) dX4_stepOverWord_38 (fun v_50 => ?_)
          refine lv_bipush (v := 122) hx hb dX4_stepOverWord_39 (by decide +kernel) ?_
          refine lv_icmp_gt (tgt := 77) hx hb dX4_stepOverWord_41 (by decide) (fun c_51 => ?_) (fun c_51 => ?_)
          · have fc_51 : (122 : Int) < v_50.toInt := i_lt (by decide) rfl c_51
            refine lv_aload_n hx hb dX4_stepOverWord_77 rfl (lv_at hl 0 rfl) ?_
            refine lv_iconst (v := 3) hx hb dX4_stepOverWord_78 (by decide +kernel) ?_
            refine va_put (D := D) (ci := 4) (v := .int 3) (ty := .int) (C := RX4) (T := TX4) (N := 16) hx hb hts inX4 tyX4 tyX4_ok nmX4 hown hG.1 hP hD hS 0 rfl rfl 11 (by decide) (hts _ kw371) (fun _ h9 => h9) rfl (by decide +kernel) rfl rfl (Nat.le_of_ble_eq_true rfl) dX4_stepOverWord_79 (fun H locs hP hD hS => ?_)
            have hP : va_P D vwCl [(h0, .inr (4, [.ref h1, .ref h2, .ref h3, .ref h4, .ref h5, .ref h6, .int x7, .ref h8, .ref h9, .int x_3, .int x11, .int 3, .long y_4, .int x14, .int x15, .int x16])), (h6, .inl (cB, 1600, .inl f17)), (h1, .inl (cJ, 21, .inr (.inl f18)))] H := hP
            have hD : va_D A [(h0, .inr (4, [.ref h1, .ref h2, .ref h3, .ref h4, .ref h5, .ref h6, .int x7, .ref h8, .ref h9, .int x_3, .int x11, .int 3, .long y_4, .int x14, .int x15, .int x16])), (h6, .inl (cB, 1600, .inl f17)), (h1, .inl (cJ, 21, .inr (.inl f18)))] := hD
            refine lv_iconst (v := 0) hx hb dX4_stepOverWord_82 (by decide +kernel) ?_
            refine lv_istore_n (lv' := [(1, .int 0), (0, .ref h0)]) hx hb dX4_stepOverWord_83 rfl hl (by decide) rfl (fun ls hl => ?_)
            have lp_56 : ∀ (n : Nat) (x_54 x_55 : Int32) (H : Heap) (locs : List Loc) (ls : Array Slot), 0 ≤ x_54.toInt - 3 → 0 ≤ -x_54.toInt + 272 → 0 ≤ x_55.toInt → 0 ≤ -x_55.toInt + 21 → -x_55.toInt + 21 < n → va_P D vwCl [(h0, .inr (4, [.ref h1, .ref h2, .ref h3, .ref h4, .ref h5, .ref h6, .int x7, .ref h8, .ref h9, .int x_3, .int x11, .int x_54, .long y_4, .int x14, .int x15, .int x16])), (h6, .inl (cB, 1600, .inl f17)), (h1, .inl (cJ, 21, .inr (.inl f18)))] H → va_D A [(h0, .inr (4, [.ref h1, .ref h2, .ref h3, .ref h4, .ref h5, .ref h6, .int x7, .ref h8, .ref h9, .int x_3, .int x11, .int x_54, .long y_4, .int x14, .int x15, .int x16])), (h6, .inl (cB, 1600, .inl f17)), (h1, .inl (cJ, 21, .inr (.inl f18)))] → va_S A s.heap H locs → lv_has ls 2 [(1, .int x_55), (0, .ref h0)] → W p l e (rmL 2 0 0) s m [.ref h0].toArray below meth c H locs 0 0 (ZX D below [.ref h0] s (rmL 2 0 0) [(h0, .inr (4, [.ref h1, .ref h2, .ref h3, .ref h4, .ref h5, .ref h6, .int x7, .ref h8, .ref h9, .int x10, .int x11, .int x12, .long y13, .int x14, .int x15, .int x16])), (h6, .inl (cB, 1600, .inl f17)), (h1, .inl (cJ, 21, .inr (.inl f18)))] (fun r w1 => ∃ z1 : Int32, ∃ z2 : Int32, ∃ z3 : Int64, 0 ≤ z1.toInt ∧ 0 ≤ -z1.toInt + 1600 ∧ r = none ∧ w1 = [(h0, .inr (4, [.ref h1, .ref h2, .ref h3, .ref h4, .ref h5, .ref h6, .int x7, .ref h8, .ref h9, .int z1, .int x11, .int z2, .long z3, .int x14, .int x15, .int x16])), (h6, .inl (cB, 1600, .inl f17)), (h1, .inl (cJ, 21, .inr (.inl f18)))])) (F0 m 84 ls []) := by
              intro n
              induction n with
              | zero => intro x_54 x_55 H locs ls g_57 g_58 g_59 g_60 g_61; omega
              | succ n ihlp_56 =>
                intro x_54 x_55 H locs ls g_57 g_58 g_59 g_60 g_61 hP hD hS hl
                refine lv_iload_n hx hb dX4_stepOverWord_84 rfl (lv_at hl 0 rfl) ?_
                refine lv_aload_n hx hb dX4_stepOverWord_85 rfl (lv_at hl 1 rfl) ?_
                refine va_get (D := D) (ci := 4) (v := .ref h1) (C := RX4) (T := TX4) (N := 16) hx hb hts inX4 hown hG.1 hP 0 rfl rfl 0 (by decide) (hts _ kw360) (fun _ h9 => h9) rfl dX4_stepOverWord_86 ?_
                refine xa_alen (v := 21) hx hb hG hP 2 2 rfl rfl rfl dX4_stepOverWord_89 ?_
                refine lv_icmp_ge (tgt := 122) hx hb dX4_stepOverWord_90 (by decide) (fun c_62 => ?_) (fun c_62 => ?_)
                · have fc_62 : (21 : Int) ≤ x_55.toInt := i_le (by decide) rfl c_62
                  refine lv_aload_n hx hb dX4_stepOverWord_122 rfl (lv_at hl 1 rfl) ?_
                  refine va_get (D := D) (ci := 4) (v := .int x_3) (C := RX4) (T := TX4) (N := 16) hx hb hts inX4 hown hG.1 hP 0 rfl rfl 9 (by decide) (hts _ kw369) (fun _ h9 => h9) rfl dX4_stepOverWord_123 ?_
                  refine lv_aload_n hx hb dX4_stepOverWord_126 rfl (lv_at hl 1 rfl) ?_
                  refine va_get (D := D) (ci := 4) (v := .int x11) (C := RX4) (T := TX4) (N := 16) hx hb hts inX4 hown hG.1 hP 0 rfl rfl 10 (by decide) (hts _ kw370) (fun _ h9 => h9) rfl dX4_stepOverWord_127 ?_
                  refine lv_isub hx hb dX4_stepOverWord_130 ?_
                  refine lv_topi (fun v_63 ev_63 => ?_)
                  have gv_63 : v_63.toInt = x_3.toInt - x11.toInt := by
                    have zx : (x_3 : Int32).toInt = x_3.toInt := rfl
                    have zy : (x11 : Int32).toInt = x11.toInt := rfl
                    rw [ev_63, i32_sub (by rw [zx, zy]; omega) (by rw [zx, zy]; omega), zx, zy]
                  refine lv_bipush (v := 8) hx hb dX4_stepOverWord_131 (by decide +kernel) ?_
                  refine lv_icmp_le (tgt := 141) hx hb dX4_stepOverWord_133 (by decide) (fun c_64 => ?_) (fun c_64 => ?_)
                  · have fc_64 : v_63.toInt ≤ (8 : Int) := i_le rfl (by decide) c_64
                    have hP9 := hP.sub (ws' := [(h0, .inr (4, [.ref h1, .ref h2, .ref h3, .ref h4, .ref h5, .ref h6, .int x7, .ref h8, .ref h9, .int x_3, .int x11, .int x_54, .long y_4, .int x14, .int x15, .int x16])), (h6, .inl (cB, 1600, .inl f17)), (h1, .inl (cJ, 21, .inr (.inl f18)))]) [0, 1, 2] rfl
                    have hD9 := hD.sub (ws' := [(h0, .inr (4, [.ref h1, .ref h2, .ref h3, .ref h4, .ref h5, .ref h6, .int x7, .ref h8, .ref h9, .int x_3, .int x11, .int x_54, .long y_4, .int x14, .int x15, .int x16])), (h6, .inl (cB, 1600, .inl f17)), (h1, .inl (cJ, 21, .inr (.inl f18)))]) [0, 1, 2] (by decide) rfl
                    exact xr_v (rm := (rmL 2 0 0)) hx hb hr hlocks hAe hS hP9 hD9 (Nat.le_of_ble_eq_true rfl) (Nat.le_of_ble_eq_true rfl) dX4_stepOverWord_141 ⟨x_3, x_54, y_4, by omega, by omega, rfl, rfl⟩
                  · have fc_64 : (8 : Int) < v_63.toInt := i_nle rfl (by decide) c_64
                    refine lv_aload_n hx hb dX4_stepOverWord_136 rfl (lv_at hl 1 rfl) ?_
                    refine lv_iconst (v := 1) hx hb dX4_stepOverWord_137 (by decide +kernel) ?_
                    refine va_put (D := D) (ci := 4) (v := .int 1) (ty := .int) (C := RX4) (T := TX4) (N := 16) hx hb hts inX4 tyX4 tyX4_ok nmX4 hown hG.1 hP hD hS 0 rfl rfl 11 (by decide) (hts _ kw371) (fun _ h9 => h9) rfl (by decide +kernel) rfl rfl (Nat.le_of_ble_eq_true rfl) dX4_stepOverWord_138 (fun H locs hP hD hS => ?_)
                    have hP : va_P D vwCl [(h0, .inr (4, [.ref h1, .ref h2, .ref h3, .ref h4, .ref h5, .ref h6, .int x7, .ref h8, .ref h9, .int x_3, .int x11, .int 1, .long y_4, .int x14, .int x15, .int x16])), (h6, .inl (cB, 1600, .inl f17)), (h1, .inl (cJ, 21, .inr (.inl f18)))] H := hP
                    have hD : va_D A [(h0, .inr (4, [.ref h1, .ref h2, .ref h3, .ref h4, .ref h5, .ref h6, .int x7, .ref h8, .ref h9, .int x_3, .int x11, .int 1, .long y_4, .int x14, .int x15, .int x16])), (h6, .inl (cB, 1600, .inl f17)), (h1, .inl (cJ, 21, .inr (.inl f18)))] := hD
                    have hP9 := hP.sub (ws' := [(h0, .inr (4, [.ref h1, .ref h2, .ref h3, .ref h4, .ref h5, .ref h6, .int x7, .ref h8, .ref h9, .int x_3, .int x11, .int 1, .long y_4, .int x14, .int x15, .int x16])), (h6, .inl (cB, 1600, .inl f17)), (h1, .inl (cJ, 21, .inr (.inl f18)))]) [0, 1, 2] rfl
                    have hD9 := hD.sub (ws' := [(h0, .inr (4, [.ref h1, .ref h2, .ref h3, .ref h4, .ref h5, .ref h6, .int x7, .ref h8, .ref h9, .int x_3, .int x11, .int 1, .long y_4, .int x14, .int x15, .int x16])), (h6, .inl (cB, 1600, .inl f17)), (h1, .inl (cJ, 21, .inr (.inl f18)))]) [0, 1, 2] (by decide) rfl
                    exact xr_v (rm := (rmL 2 0 0)) hx hb hr hlocks hAe hS hP9 hD9 (Nat.le_of_ble_eq_true rfl) (Nat.le_of_ble_eq_true rfl) dX4_stepOverWord_141 ⟨x_3, 1, y_4, by have zc1 : (1 : Int32).toInt = 1 := (by decide); omega, by have zc1 : (1 : Int32).toInt = 1 := (by decide); omega, rfl, rfl⟩
                · have fc_62 : x_55.toInt < (21 : Int) := i_nle (by decide) rfl c_62
                  refine lv_aload_n hx hb dX4_stepOverWord_93 rfl (lv_at hl 1 rfl) ?_
                  refine va_get (D := D) (ci := 4) (v := .ref h1) (C := RX4) (T := TX4) (N := 16) hx hb hts inX4 hown hG.1 hP 0 rfl rfl 0 (by decide) (hts _ kw360) (fun _ h9 => h9) rfl dX4_stepOverWord_94 ?_
                  refine lv_iload_n hx hb dX4_stepOverWord_97 rfl (lv_at hl 0 rfl) ?_
                  refine xa_lldU hx hb hG hP 2 rfl (vp_in_iff.mpr ⟨by omega, by omega⟩) dX4_stepOverWord_98 (fun v_65 => ?_)
                  refine lv_aload_n hx hb dX4_stepOverWord_99 rfl (lv_at hl 1 rfl) ?_
                  refine va_get (D := D) (ci := 4) (v := .long y_4) (C := RX4) (T := TX4) (N := 16) hx hb hts inX4 hown hG.1 hP 0 rfl rfl 12 (by decide) (hts _ kw372) (fun _ h9 => h9) rfl dX4_stepOverWord_100 ?_
                  refine W.lcmp hx hb dX4_stepOverWord_103 ?_
                  refine xt_any (fun v_66 => ?_)
                  refine lv_if_ne (tgt := 116) hx hb dX4_stepOverWord_104 (by decide) (fun c_67 => ?_) (fun c_67 => ?_)
                  · have fc_67 : v_66.toInt ≠ (0 : Int) := i_ne rfl (by decide) c_67
                    obtain ⟨v_68, ev_68⟩ : ∃ y : Int32, y = x_55 + 1 := ⟨_, rfl⟩
                    have gv_68 : v_68.toInt = x_55.toInt + 1 := by
                      have zy : (1 : Int32).toInt = 1 := by decide
                      rw [ev_68, i32_add (by rw [zy]; omega) (by rw [zy]; omega), zy]
                    refine lv_iinc (v := v_68) (lv' := [(1, .int v_68), (0, .ref h0)]) hx hb dX4_stepOverWord_116 hl (k := 0) rfl (by rw [ev_68]; rfl) (by decide) rfl (fun ls hl => ?_)
                    refine lv_goto (tgt := 84) hx hb dX4_stepOverWord_119 (by decide) ?_
                    exact ihlp_56  x_54 v_68 _ _ _ (by omega) (by omega) (by omega) (by omega) (by omega) (hP.sub (ws' := [(h0, .inr (4, [.ref h1, .ref h2, .ref h3, .ref h4, .ref h5, .ref h6, .int x7, .ref h8, .ref h9, .int x_3, .int x11, .int x_54, .long y_4, .int x14, .int x15, .int x16])), (h6, .inl (cB, 1600, .inl f17)), (h1, .inl (cJ, 21, .inr (.inl f18)))]) [0, 1, 2] rfl) (hD.sub (ws' := [(h0, .inr (4, [.ref h1, .ref h2, .ref h3, .ref h4, .ref h5, .ref h6, .int x7, .ref h8, .ref h9, .int x_3, .int x11, .int x_54, .long y_4, .int x14, .int x15, .int x16])), (h6, .inl (cB, 1600, .inl f17)), (h1, .inl (cJ, 21, .inr (.inl f18)))]) [0, 1, 2] (by decide) rfl) hS (lv_sub hl [0, 1] rfl)
                  · have fc_67 : v_66.toInt = (0 : Int) := i_eq rfl (by decide) c_67
                    refine lv_aload_n hx hb dX4_stepOverWord_107 rfl (lv_at hl 1 rfl) ?_
                    refine lv_sipush (v := 128) hx hb dX4_stepOverWord_108 (by decide +kernel) ?_
                    refine lv_iload_n hx hb dX4_stepOverWord_111 rfl (lv_at hl 0 rfl) ?_
                    refine lv_iadd hx hb dX4_stepOverWord_112 ?_
                    refine lv_topi (fun v_69 ev_69 => ?_)
                    have gv_69 : v_69.toInt = (128 : Int) + x_55.toInt := by
                      have zx : (128 : Int32).toInt = (128 : Int) := (by decide)
                      have zy : (x_55 : Int32).toInt = x_55.toInt := rfl
                      rw [ev_69, i32_add (by rw [zx, zy]; omega) (by rw [zx, zy]; omega), zx, zy]
                    refine va_put (D := D) (ci := 4) (v := .int v_69) (ty := .int) (C := RX4) (T := TX4) (N := 16) hx hb hts inX4 tyX4 tyX4_ok nmX4 hown hG.1 hP hD hS 0 rfl rfl 11 (by decide) (hts _ kw371) (fun _ h9 => h9) rfl (by decide +kernel) rfl rfl (Nat.le_of_ble_eq_true rfl) dX4_stepOverWord_113 (fun H locs hP hD hS => ?_)
                    have hP : va_P D vwCl [(h0, .inr (4, [.ref h1, .ref h2, .ref h3, .ref h4, .ref h5, .ref h6, .int x7, .ref h8, .ref h9, .int x_3, .int x11, .int v_69, .long y_4, .int x14, .int x15, .int x16])), (h6, .inl (cB, 1600, .inl f17)), (h1, .inl (cJ, 21, .inr (.inl f18)))] H := hP
                    have hD : va_D A [(h0, .inr (4, [.ref h1, .ref h2, .ref h3, .ref h4, .ref h5, .ref h6, .int x7, .ref h8, .ref h9, .int x_3, .int x11, .int v_69, .long y_4, .int x14, .int x15, .int x16])), (h6, .inl (cB, 1600, .inl f17)), (h1, .inl (cJ, 21, .inr (.inl f18)))] := hD
                    obtain ⟨v_70, ev_70⟩ : ∃ y : Int32, y = x_55 + 1 := ⟨_, rfl⟩
                    have gv_70 : v_70.toInt = x_55.toInt + 1 := by
                      have zy : (1 : Int32).toInt = 1 := by decide
                      rw [ev_70, i32_add (by rw [zy]; omega) (by rw [zy]; omega), zy]
                    refine lv_iinc (v := v_70) (lv' := [(1, .int v_70), (0, .ref h0)]) hx hb dX4_stepOverWord_116 hl (k := 0) rfl (by rw [ev_70]; rfl) (by decide) rfl (fun ls hl => ?_)
                    refine lv_goto (tgt := 84) hx hb dX4_stepOverWord_119 (by decide) ?_
                    exact ihlp_56  v_69 v_70 _ _ _ (by omega) (by omega) (by omega) (by omega) (by omega) (hP.sub (ws' := [(h0, .inr (4, [.ref h1, .ref h2, .ref h3, .ref h4, .ref h5, .ref h6, .int x7, .ref h8, .ref h9, .int x_3, .int x11, .int v_69, .long y_4, .int x14, .int x15, .int x16])), (h6, .inl (cB, 1600, .inl f17)), (h1, .inl (cJ, 21, .inr (.inl f18)))]) [0, 1, 2] rfl) (hD.sub (ws' := [(h0, .inr (4, [.ref h1, .ref h2, .ref h3, .ref h4, .ref h5, .ref h6, .int x7, .ref h8, .ref h9, .int x_3, .int x11, .int v_69, .long y_4, .int x14, .int x15, .int x16])), (h6, .inl (cB, 1600, .inl f17)), (h1, .inl (cJ, 21, .inr (.inl f18)))]) [0, 1, 2] (by decide) rfl) hS (lv_sub hl [0, 1] rfl)
            exact lp_56 23 3 0 _ _ _ (by have zc0 : (0 : Int32).toInt = 0 := (by decide); have zc3 : (3 : Int32).toInt = 3 := (by decide); omega) (by have zc0 : (0 : Int32).toInt = 0 := (by decide); have zc3 : (3 : Int32).toInt = 3 := (by decide); omega) (by have zc0 : (0 : Int32).toInt = 0 := (by decide); have zc3 : (3 : Int32).toInt = 3 := (by decide); omega) (by have zc0 : (0 : Int32).toInt = 0 := (by decide); have zc3 : (3 : Int32).toInt = 3 := (by decide); omega) (by have zc0 : (0 : Int32).toInt = 0 := (by decide); have zc3 : (3 : Int32).toInt = 3 := (by decide); omega) (hP.sub (ws' := [(h0, .inr (4, [.ref h1, .ref h2, .ref h3, .ref h4, .ref h5, .ref h6, .int x7, .ref h8, .ref h9, .int x_3, .int x11, .int 3, .long y_4, .int x14, .int x15, .int x16])), (h6, .inl (cB, 1600, .inl f17)), (h1, .inl (cJ, 21, .inr (.inl f18)))]) [0, 1, 2] rfl) (hD.sub (ws' := [(h0, .inr (4, [.ref h1, .ref h2, .ref h3, .ref h4, .ref h5, .ref h6, .int x7, .ref h8, .ref h9, .int x_3, .int x11, .int 3, .long y_4, .int x14, .int x15, .int x16])), (h6, .inl (cB, 1600, .inl f17)), (h1, .inl (cJ, 21, .inr (.inl f18)))]) [0, 1, 2] (by decide) rfl) hS (lv_sub hl [0, 1] rfl)
          · have fc_51 : v_50.toInt ≤ (122 : Int) := i_nlt (by decide) rfl c_51
            refine lv_aload_n hx hb dX4_stepOverWord_44 rfl (lv_at hl 0 rfl) ?_
            refine lv_aload_n hx hb dX4_stepOverWord_45 rfl (lv_at hl 0 rfl) ?_
            refine va_get (D := D) (ci := 4) (v := .long y_4) (C := RX4) (T := TX4) (N := 16) hx hb hts inX4 hown hG.1 hP 0 rfl rfl 12 (by decide) (hts _ kw372) (fun _ h9 => h9) rfl dX4_stepOverWord_46 ?_
            refine lv_aload_n hx hb dX4_stepOverWord_49 rfl (lv_at hl 0 rfl) ?_
            refine va_get (D := D) (ci := 4) (v := .ref h6) (C := RX4) (T := TX4) (N := 16) hx hb hts inX4 hown hG.1 hP 0 rfl rfl 5 (by decide) (hts _ kw365) (fun _ h9 => h9) rfl dX4_stepOverWord_50 ?_
            refine lv_aload_n hx hb dX4_stepOverWord_53 rfl (lv_at hl 0 rfl) ?_
            refine va_get (D := D) (ci := 4) (v := .int x_3) (C := RX4) (T := TX4) (N := 16) hx hb hts inX4 hown hG.1 hP 0 rfl rfl 9 (by decide) (hts _ kw369) (fun _ h9 => h9) rfl dX4_stepOverWord_54 ?_
            refine xa_bldU hx hb hG hP 1 rfl (vp_in_iff.mpr ⟨by omega, by omega⟩) dX4_stepOverWord_57 (fun v_71 => ?_)
            refine xc_core (wr := [(h0, .inr (4, [.ref h1, .ref h2, .ref h3, .ref h4, .ref h5, .ref h6, .int x7, .ref h8, .ref h9, .int x_3, .int x11, .int x12, .long y_4, .int x14, .int x15, .int x16])), (h6, .inl (cB, 1600, .inl f17)), (h1, .inl (cJ, 21, .inr (.inl f18)))]) (k := 0) (n := 0) (xc_runS (As := [.long y_4, .int v_71]) (rest := [.ref h0]) hx hb hml hown hts hG hE hP hD hS hA [] (by decide) rfl (sX4_packed_1 l D cB cI cJ cZ aK aV y_4 v_71) kw357 kw355 kw356 kw116 (show XD yX4_packed 2 from by decide +kernel) (by decide) hl.1 rfl (Nat.le_of_ble_eq_true rfl) dX4_stepOverWord_58 (by decide)) hP hD hS hA [] [0, 1, 2] rfl rfl (by decide) (by decide) (Nat.le_of_ble_eq_true rfl) (Nat.le_of_ble_eq_true rfl) (fun r w1 H locs hpost hP hD hS => ?_)
            obtain ⟨v_72, rfl, rfl⟩ := hpost
            have hP : va_P D vwCl [(h0, .inr (4, [.ref h1, .ref h2, .ref h3, .ref h4, .ref h5, .ref h6, .int x7, .ref h8, .ref h9, .int x_3, .int x11, .int x12, .long y_4, .int x14, .int x15, .int x16])), (h6, .inl (cB, 1600, .inl f17)), (h1, .inl (cJ, 21, .inr (.inl f18)))] H := hP
            have hD : va_D A [(h0, .inr (4, [.ref h1, .ref h2, .ref h3, .ref h4, .ref h5, .ref h6, .int x7, .ref h8, .ref h9, .int x_3, .int x11, .int x12, .long y_4, .int x14, .int x15, .int x16])), (h6, .inl (cB, 1600, .inl f17)), (h1, .inl (cJ, 21, .inr (.inl f18)))] := hD
            refine va_put (D := D) (ci := 4) (v := .long v_72) (ty := .long) (C := RX4) (T := TX4) (N := 16) hx hb hts inX4 tyX4 tyX4_ok nmX4 hown hG.1 hP hD hS 0 rfl rfl 12 (by decide) (hts _ kw372) (fun _ h9 => h9) rfl (by decide +kernel) rfl rfl (Nat.le_of_ble_eq_true rfl) dX4_stepOverWord_61 (fun H locs hP hD hS => ?_)
            have hP : va_P D vwCl [(h0, .inr (4, [.ref h1, .ref h2, .ref h3, .ref h4, .ref h5, .ref h6, .int x7, .ref h8, .ref h9, .int x_3, .int x11, .int x12, .long v_72, .int x14, .int x15, .int x16])), (h6, .inl (cB, 1600, .inl f17)), (h1, .inl (cJ, 21, .inr (.inl f18)))] H := hP
            have hD : va_D A [(h0, .inr (4, [.ref h1, .ref h2, .ref h3, .ref h4, .ref h5, .ref h6, .int x7, .ref h8, .ref h9, .int x_3, .int x11, .int x12, .long v_72, .int x14, .int x15, .int x16])), (h6, .inl (cB, 1600, .inl f17)), (h1, .inl (cJ, 21, .inr (.inl f18)))] := hD
            refine lv_aload_n hx hb dX4_stepOverWord_64 rfl (lv_at hl 0 rfl) ?_
            refine lv_dup hx hb dX4_stepOverWord_65 rfl ?_
            refine va_get (D := D) (ci := 4) (v := .int x_3) (C := RX4) (T := TX4) (N := 16) hx hb hts inX4 hown hG.1 hP 0 rfl rfl 9 (by decide) (hts _ kw369) (fun _ h9 => h9) rfl dX4_stepOverWord_66 ?_
            refine lv_iconst (v := 1) hx hb dX4_stepOverWord_69 (by decide +kernel) ?_
            refine lv_iadd hx hb dX4_stepOverWord_70 ?_
            refine lv_topi (fun v_73 ev_73 => ?_)
            have gv_73 : v_73.toInt = x_3.toInt + (1 : Int) := by
              have zx : (x_3 : Int32).toInt = x_3.toInt := rfl
              have zy : (1 : Int32).toInt = (1 : Int) := (by decide)
              rw [ev_73, i32_add (by rw [zx, zy]; omega) (by rw [zx, zy]; omega), zx, zy]
            refine va_put (D := D) (ci := 4) (v := .int v_73) (ty := .int) (C := RX4) (T := TX4) (N := 16) hx hb hts inX4 tyX4 tyX4_ok nmX4 hown hG.1 hP hD hS 0 rfl rfl 9 (by decide) (hts _ kw369) (fun _ h9 => h9) rfl (by decide +kernel) rfl rfl (Nat.le_of_ble_eq_true rfl) dX4_stepOverWord_71 (fun H locs hP hD hS => ?_)
            have hP : va_P D vwCl [(h0, .inr (4, [.ref h1, .ref h2, .ref h3, .ref h4, .ref h5, .ref h6, .int x7, .ref h8, .ref h9, .int v_73, .int x11, .int x12, .long v_72, .int x14, .int x15, .int x16])), (h6, .inl (cB, 1600, .inl f17)), (h1, .inl (cJ, 21, .inr (.inl f18)))] H := hP
            have hD : va_D A [(h0, .inr (4, [.ref h1, .ref h2, .ref h3, .ref h4, .ref h5, .ref h6, .int x7, .ref h8, .ref h9, .int v_73, .int x11, .int x12, .long v_72, .int x14, .int x15, .int x16])), (h6, .inl (cB, 1600, .inl f17)), (h1, .inl (cJ, 21, .inr (.inl f18)))] := hD
            refine lv_goto (tgt := 5) hx hb dX4_stepOverWord_74 (by decide) ?_
            exact ihlp_5  v_73 v_72 _ _ _ (by omega) (by omega) (by omega) (hP.sub (ws' := [(h0, .inr (4, [.ref h1, .ref h2, .ref h3, .ref h4, .ref h5, .ref h6, .int x7, .ref h8, .ref h9, .int v_73, .int x11, .int x12, .long v_72, .int x14, .int x15, .int x16])), (h6, .inl (cB, 1600, .inl f17)), (h1, .inl (cJ, 21, .inr (.inl f18)))]) [0, 1, 2] rfl) (hD.sub (ws' := [(h0, .inr (4, [.ref h1, .ref h2, .ref h3, .ref h4, .ref h5, .ref h6, .int x7, .ref h8, .ref h9, .int v_73, .int x11, .int x12, .long v_72, .int x14, .int x15, .int x16])), (h6, .inl (cB, 1600, .inl f17)), (h1, .inl (cJ, 21, .inr (.inl f18)))]) [0, 1, 2] (by decide) rfl) hS (lv_sub hl [0] rfl)
  exact lp_5 1602 x10 0 _ _ _ (by omega) (by omega) (by omega) (hP.sub (ws' := [(h0, .inr (4, [.ref h1, .ref h2, .ref h3, .ref h4, .ref h5, .ref h6, .int x7, .ref h8, .ref h9, .int x10, .int x11, .int x12, .long 0, .int x14, .int x15, .int x16])), (h6, .inl (cB, 1600, .inl f17)), (h1, .inl (cJ, 21, .inr (.inl f18)))]) [0, 1, 2] rfl) (hD.sub (ws' := [(h0, .inr (4, [.ref h1, .ref h2, .ref h3, .ref h4, .ref h5, .ref h6, .int x7, .ref h8, .ref h9, .int x10, .int x11, .int x12, .long 0, .int x14, .int x15, .int x16])), (h6, .inl (cB, 1600, .inl f17)), (h1, .inl (cJ, 21, .inr (.inl f18)))]) [0, 1, 2] (by decide) rfl) hS (lv_sub hl [0] rfl)
theorem dX4_stepOverNumber_0 : decode cX4_stepOverNumber 0 = .ok (.aload_n 0, 1) := by decide +kernel
theorem dX4_stepOverNumber_1 : decode cX4_stepOverNumber 1 = .ok (.iconst 0, 1) := by decide +kernel
theorem kw373 : (.fieldLink RX4 218 "SpiceSwaps$Reader" "number" "I" : Cond) ∈ gT := gT_of 373 (by decide +kernel) (by decide +kernel)
theorem dX4_stepOverNumber_2 : decode cX4_stepOverNumber 2 = .ok (.putfield 218, 3) := by decide +kernel
theorem dX4_stepOverNumber_5 : decode cX4_stepOverNumber 5 = .ok (.aload_n 0, 1) := by decide +kernel
theorem dX4_stepOverNumber_6 : decode cX4_stepOverNumber 6 = .ok (.getfield 76, 3) := by decide +kernel
theorem dX4_stepOverNumber_9 : decode cX4_stepOverNumber 9 = .ok (.aload_n 0, 1) := by decide +kernel
theorem dX4_stepOverNumber_10 : decode cX4_stepOverNumber 10 = .ok (.getfield 67, 3) := by decide +kernel
theorem dX4_stepOverNumber_13 : decode cX4_stepOverNumber 13 = .ok (.if_icmp .ge 68, 3) := by decide +kernel
theorem dX4_stepOverNumber_81 : decode cX4_stepOverNumber 81 = .ok (.aload_n 0, 1) := by decide +kernel
theorem dX4_stepOverNumber_82 : decode cX4_stepOverNumber 82 = .ok (.getfield 76, 3) := by decide +kernel
theorem dX4_stepOverNumber_85 : decode cX4_stepOverNumber 85 = .ok (.aload_n 0, 1) := by decide +kernel
theorem dX4_stepOverNumber_86 : decode cX4_stepOverNumber 86 = .ok (.getfield 67, 3) := by decide +kernel
theorem dX4_stepOverNumber_89 : decode cX4_stepOverNumber 89 = .ok (.if_icmp .ge 35, 3) := by decide +kernel
theorem dX4_stepOverNumber_124 : decode cX4_stepOverNumber 124 = .ok (.iconst 0, 1) := by decide +kernel
theorem dX4_stepOverNumber_125 : decode cX4_stepOverNumber 125 = .ok (.istore_n 1, 1) := by decide +kernel
theorem dX4_stepOverNumber_126 : decode cX4_stepOverNumber 126 = .ok (.aload_n 0, 1) := by decide +kernel
theorem dX4_stepOverNumber_127 : decode cX4_stepOverNumber 127 = .ok (.aload_n 0, 1) := by decide +kernel
theorem dX4_stepOverNumber_128 : decode cX4_stepOverNumber 128 = .ok (.getfield 76, 3) := by decide +kernel
theorem dX4_stepOverNumber_131 : decode cX4_stepOverNumber 131 = .ok (.aload_n 0, 1) := by decide +kernel
theorem dX4_stepOverNumber_132 : decode cX4_stepOverNumber 132 = .ok (.getfield 225, 3) := by decide +kernel
theorem dX4_stepOverNumber_135 : decode cX4_stepOverNumber 135 = .ok (.isub, 1) := by decide +kernel
theorem dX4_stepOverNumber_136 : decode cX4_stepOverNumber 136 = .ok (.iconst 4, 1) := by decide +kernel
theorem dX4_stepOverNumber_137 : decode cX4_stepOverNumber 137 = .ok (.if_icmp .gt 7, 3) := by decide +kernel
theorem dX4_stepOverNumber_144 : decode cX4_stepOverNumber 144 = .ok (.iconst 1, 1) := by decide +kernel
theorem dX4_stepOverNumber_145 : decode cX4_stepOverNumber 145 = .ok (.goto 4, 3) := by decide +kernel
theorem dX4_stepOverNumber_149 : decode cX4_stepOverNumber 149 = .ok (.putfield 82, 3) := by decide +kernel
theorem dX4_stepOverNumber_152 : decode cX4_stepOverNumber 152 = .ok (.return_, 1) := by decide +kernel
theorem dX4_stepOverNumber_140 : decode cX4_stepOverNumber 140 = .ok (.iload_n 1, 1) := by decide +kernel
theorem dX4_stepOverNumber_141 : decode cX4_stepOverNumber 141 = .ok (.ifCond .eq 7, 3) := by decide +kernel
theorem dX4_stepOverNumber_148 : decode cX4_stepOverNumber 148 = .ok (.iconst 2, 1) := by decide +kernel
theorem dX4_stepOverNumber_16 : decode cX4_stepOverNumber 16 = .ok (.aload_n 0, 1) := by decide +kernel
theorem dX4_stepOverNumber_17 : decode cX4_stepOverNumber 17 = .ok (.getfield 21, 3) := by decide +kernel
theorem dX4_stepOverNumber_20 : decode cX4_stepOverNumber 20 = .ok (.aload_n 0, 1) := by decide +kernel
theorem dX4_stepOverNumber_21 : decode cX4_stepOverNumber 21 = .ok (.getfield 76, 3) := by decide +kernel
theorem dX4_stepOverNumber_24 : decode cX4_stepOverNumber 24 = .ok (.baload, 1) := by decide +kernel
theorem dX4_stepOverNumber_25 : decode cX4_stepOverNumber 25 = .ok (.bipush 48, 2) := by decide +kernel
theorem dX4_stepOverNumber_27 : decode cX4_stepOverNumber 27 = .ok (.if_icmp .lt 54, 3) := by decide +kernel
theorem dX4_stepOverNumber_92 : decode cX4_stepOverNumber 92 = .ok (.aload_n 0, 1) := by decide +kernel
theorem dX4_stepOverNumber_93 : decode cX4_stepOverNumber 93 = .ok (.getfield 21, 3) := by decide +kernel
theorem dX4_stepOverNumber_96 : decode cX4_stepOverNumber 96 = .ok (.aload_n 0, 1) := by decide +kernel
theorem dX4_stepOverNumber_97 : decode cX4_stepOverNumber 97 = .ok (.getfield 76, 3) := by decide +kernel
theorem dX4_stepOverNumber_100 : decode cX4_stepOverNumber 100 = .ok (.baload, 1) := by decide +kernel
theorem dX4_stepOverNumber_101 : decode cX4_stepOverNumber 101 = .ok (.bipush 97, 2) := by decide +kernel
theorem dX4_stepOverNumber_103 : decode cX4_stepOverNumber 103 = .ok (.if_icmp .lt 21, 3) := by decide +kernel
theorem dX4_stepOverNumber_106 : decode cX4_stepOverNumber 106 = .ok (.aload_n 0, 1) := by decide +kernel
theorem dX4_stepOverNumber_107 : decode cX4_stepOverNumber 107 = .ok (.getfield 21, 3) := by decide +kernel
theorem dX4_stepOverNumber_110 : decode cX4_stepOverNumber 110 = .ok (.aload_n 0, 1) := by decide +kernel
theorem dX4_stepOverNumber_111 : decode cX4_stepOverNumber 111 = .ok (.getfield 76, 3) := by decide +kernel
theorem dX4_stepOverNumber_114 : decode cX4_stepOverNumber 114 = .ok (.baload, 1) := by decide +kernel
theorem dX4_stepOverNumber_115 : decode cX4_stepOverNumber 115 = .ok (.bipush 122, 2) := by decide +kernel
theorem dX4_stepOverNumber_117 : decode cX4_stepOverNumber 117 = .ok (.if_icmp .gt 7, 3) := by decide +kernel
theorem dX4_stepOverNumber_120 : decode cX4_stepOverNumber 120 = .ok (.iconst 1, 1) := by decide +kernel
theorem dX4_stepOverNumber_121 : decode cX4_stepOverNumber 121 = .ok (.goto 4, 3) := by decide +kernel
theorem dX4_stepOverNumber_30 : decode cX4_stepOverNumber 30 = .ok (.aload_n 0, 1) := by decide +kernel
theorem dX4_stepOverNumber_31 : decode cX4_stepOverNumber 31 = .ok (.getfield 21, 3) := by decide +kernel
theorem dX4_stepOverNumber_34 : decode cX4_stepOverNumber 34 = .ok (.aload_n 0, 1) := by decide +kernel
theorem dX4_stepOverNumber_35 : decode cX4_stepOverNumber 35 = .ok (.getfield 76, 3) := by decide +kernel
theorem dX4_stepOverNumber_38 : decode cX4_stepOverNumber 38 = .ok (.baload, 1) := by decide +kernel
theorem dX4_stepOverNumber_39 : decode cX4_stepOverNumber 39 = .ok (.bipush 57, 2) := by decide +kernel
theorem dX4_stepOverNumber_41 : decode cX4_stepOverNumber 41 = .ok (.if_icmp .gt 40, 3) := by decide +kernel
theorem dX4_stepOverNumber_44 : decode cX4_stepOverNumber 44 = .ok (.aload_n 0, 1) := by decide +kernel
theorem dX4_stepOverNumber_45 : decode cX4_stepOverNumber 45 = .ok (.aload_n 0, 1) := by decide +kernel
theorem dX4_stepOverNumber_46 : decode cX4_stepOverNumber 46 = .ok (.getfield 218, 3) := by decide +kernel
theorem dX4_stepOverNumber_49 : decode cX4_stepOverNumber 49 = .ok (.bipush 10, 2) := by decide +kernel
theorem dX4_stepOverNumber_51 : decode cX4_stepOverNumber 51 = .ok (.imul, 1) := by decide +kernel
theorem dX4_stepOverNumber_52 : decode cX4_stepOverNumber 52 = .ok (.aload_n 0, 1) := by decide +kernel
theorem dX4_stepOverNumber_53 : decode cX4_stepOverNumber 53 = .ok (.getfield 21, 3) := by decide +kernel
theorem dX4_stepOverNumber_56 : decode cX4_stepOverNumber 56 = .ok (.aload_n 0, 1) := by decide +kernel
theorem dX4_stepOverNumber_57 : decode cX4_stepOverNumber 57 = .ok (.getfield 76, 3) := by decide +kernel
theorem dX4_stepOverNumber_60 : decode cX4_stepOverNumber 60 = .ok (.baload, 1) := by decide +kernel
theorem dX4_stepOverNumber_61 : decode cX4_stepOverNumber 61 = .ok (.iadd, 1) := by decide +kernel
theorem dX4_stepOverNumber_62 : decode cX4_stepOverNumber 62 = .ok (.bipush 48, 2) := by decide +kernel
theorem dX4_stepOverNumber_64 : decode cX4_stepOverNumber 64 = .ok (.isub, 1) := by decide +kernel
theorem dX4_stepOverNumber_65 : decode cX4_stepOverNumber 65 = .ok (.putfield 218, 3) := by decide +kernel
theorem dX4_stepOverNumber_68 : decode cX4_stepOverNumber 68 = .ok (.aload_n 0, 1) := by decide +kernel
theorem dX4_stepOverNumber_69 : decode cX4_stepOverNumber 69 = .ok (.dup, 1) := by decide +kernel
theorem dX4_stepOverNumber_70 : decode cX4_stepOverNumber 70 = .ok (.getfield 76, 3) := by decide +kernel
theorem dX4_stepOverNumber_73 : decode cX4_stepOverNumber 73 = .ok (.iconst 1, 1) := by decide +kernel
theorem dX4_stepOverNumber_74 : decode cX4_stepOverNumber 74 = .ok (.iadd, 1) := by decide +kernel
theorem dX4_stepOverNumber_75 : decode cX4_stepOverNumber 75 = .ok (.putfield 76, 3) := by decide +kernel
theorem dX4_stepOverNumber_78 : decode cX4_stepOverNumber 78 = .ok (.goto (-73), 3) := by decide +kernel
set_option maxHeartbeats 4000000 in
set_option maxRecDepth 100000 in
theorem sX4_stepOverNumber_1 (l : Launch) (D : va_G) (cB cI cJ cZ : ClassId) (aK aV : Nat → Nat) (h0 : Nat) (h1 : Nat) (h2 : Nat) (h3 : Nat) (h4 : Nat) (h5 : Nat) (h6 : Nat) (x7 : Int32) (h8 : Nat) (h9 : Nat) (x10 : Int32) (x11 : Int32) (x12 : Int32) (y13 : Int64) (x14 : Int32) (x15 : Int32) (x16 : Int32) (f17 : Nat → Int32) (gh0 : 0 ≤ x7.toInt) (gh1 : 0 ≤ -x7.toInt + 1600) (gh2 : 0 ≤ x10.toInt) (gh3 : 0 ≤ -x10.toInt + 1600) (gh4 : 0 ≤ x11.toInt) (gh5 : 0 ≤ -x11.toInt + 1600) (gh6 : 0 ≤ x15.toInt) (gh7 : 0 ≤ -x15.toInt + 5) : MX l yX4_stepOverNumber cX4_stepOverNumber 2 none (rmL 1 0 0) D cB cI cJ cZ aK aV [.ref h0] [(h0, .inr (4, [.ref h1, .ref h2, .ref h3, .ref h4, .ref h5, .ref h6, .int x7, .ref h8, .ref h9, .int x10, .int x11, .int x12, .long y13, .int x14, .int x15, .int x16])), (h6, .inl (cB, 1600, .inl f17))] (fun r w1 => ∃ z1 : Int32, ∃ z2 : Int32, ∃ z3 : Int32, 0 ≤ z1.toInt ∧ 0 ≤ -z1.toInt + 1600 ∧ r = none ∧ w1 = [(h0, .inr (4, [.ref h1, .ref h2, .ref h3, .ref h4, .ref h5, .ref h6, .int x7, .ref h8, .ref h9, .int z1, .int x11, .int z2, .long y13, .int z3, .int x15, .int x16])), (h6, .inl (cB, 1600, .inl f17))]) := by
  refine MX.intro (by decide) (Nat.le_of_ble_eq_true rfl) ?_
  intro p e s m below meth c A ls hx hb hr hml hown hlocks hnm hts hG hE hA hS hP hD hl hAe
  have hl : lv_has ls 2 [(0, .ref h0)] := hl
  have hown : s.vm.findClass RX4 = some m.cls := hown
  refine lv_aload_n hx hb dX4_stepOverNumber_0 rfl (lv_at hl 0 rfl) ?_
  refine lv_iconst (v := 0) hx hb dX4_stepOverNumber_1 (by decide +kernel) ?_
  refine va_put (D := D) (ci := 4) (v := .int 0) (ty := .int) (C := RX4) (T := TX4) (N := 16) hx hb hts inX4 tyX4 tyX4_ok nmX4 hown hG.1 hP hD hS 0 rfl rfl 13 (by decide) (hts _ kw373) (fun _ h9 => h9) rfl (by decide +kernel) rfl rfl (Nat.le_of_ble_eq_true rfl) dX4_stepOverNumber_2 (fun H locs hP hD hS => ?_)
  have hP : va_P D vwCl [(h0, .inr (4, [.ref h1, .ref h2, .ref h3, .ref h4, .ref h5, .ref h6, .int x7, .ref h8, .ref h9, .int x10, .int x11, .int x12, .long y13, .int 0, .int x15, .int x16])), (h6, .inl (cB, 1600, .inl f17))] H := hP
  have hD : va_D A [(h0, .inr (4, [.ref h1, .ref h2, .ref h3, .ref h4, .ref h5, .ref h6, .int x7, .ref h8, .ref h9, .int x10, .int x11, .int x12, .long y13, .int 0, .int x15, .int x16])), (h6, .inl (cB, 1600, .inl f17))] := hD
  have lp_5 : ∀ (n : Nat) (x_3 x_4 : Int32) (H : Heap) (locs : List Loc) (ls : Array Slot), 0 ≤ -x_4.toInt + 1600 → 0 ≤ -x10.toInt + x_4.toInt → -x_4.toInt + 1600 < n → va_P D vwCl [(h0, .inr (4, [.ref h1, .ref h2, .ref h3, .ref h4, .ref h5, .ref h6, .int x7, .ref h8, .ref h9, .int x_4, .int x11, .int x12, .long y13, .int x_3, .int x15, .int x16])), (h6, .inl (cB, 1600, .inl f17))] H → va_D A [(h0, .inr (4, [.ref h1, .ref h2, .ref h3, .ref h4, .ref h5, .ref h6, .int x7, .ref h8, .ref h9, .int x_4, .int x11, .int x12, .long y13, .int x_3, .int x15, .int x16])), (h6, .inl (cB, 1600, .inl f17))] → va_S A s.heap H locs → lv_has ls 2 [(0, .ref h0)] → W p l e (rmL 1 0 0) s m [.ref h0].toArray below meth c H locs 0 0 (ZX D below [.ref h0] s (rmL 1 0 0) [(h0, .inr (4, [.ref h1, .ref h2, .ref h3, .ref h4, .ref h5, .ref h6, .int x7, .ref h8, .ref h9, .int x10, .int x11, .int x12, .long y13, .int x14, .int x15, .int x16])), (h6, .inl (cB, 1600, .inl f17))] (fun r w1 => ∃ z1 : Int32, ∃ z2 : Int32, ∃ z3 : Int32, 0 ≤ z1.toInt ∧ 0 ≤ -z1.toInt + 1600 ∧ r = none ∧ w1 = [(h0, .inr (4, [.ref h1, .ref h2, .ref h3, .ref h4, .ref h5, .ref h6, .int x7, .ref h8, .ref h9, .int z1, .int x11, .int z2, .long y13, .int z3, .int x15, .int x16])), (h6, .inl (cB, 1600, .inl f17))])) (F0 m 5 ls []) := by
    intro n
    induction n with
    | zero => intro x_3 x_4 H locs ls g_6 g_7 g_8; omega
    | succ n ihlp_5 =>
      intro x_3 x_4 H locs ls g_6 g_7 g_8 hP hD hS hl
      refine lv_aload_n hx hb dX4_stepOverNumber_5 rfl (lv_at hl 0 rfl) ?_
      refine va_get (D := D) (ci := 4) (v := .int x_4) (C := RX4) (T := TX4) (N := 16) hx hb hts inX4 hown hG.1 hP 0 rfl rfl 9 (by decide) (hts _ kw369) (fun _ h9 => h9) rfl dX4_stepOverNumber_6 ?_
      refine lv_aload_n hx hb dX4_stepOverNumber_9 rfl (lv_at hl 0 rfl) ?_
      refine va_get (D := D) (ci := 4) (v := .int x7) (C := RX4) (T := TX4) (N := 16) hx hb hts inX4 hown hG.1 hP 0 rfl rfl 6 (by decide) (hts _ kw366) (fun _ h9 => h9) rfl dX4_stepOverNumber_10 ?_
      refine lv_icmp_ge (tgt := 81) hx hb dX4_stepOverNumber_13 (by decide) (fun c_9 => ?_) (fun c_9 => ?_)
      · have fc_9 : x7.toInt ≤ x_4.toInt := i_le rfl rfl c_9
        refine lv_aload_n hx hb dX4_stepOverNumber_81 rfl (lv_at hl 0 rfl) ?_
        refine va_get (D := D) (ci := 4) (v := .int x_4) (C := RX4) (T := TX4) (N := 16) hx hb hts inX4 hown hG.1 hP 0 rfl rfl 9 (by decide) (hts _ kw369) (fun _ h9 => h9) rfl dX4_stepOverNumber_82 ?_
        refine lv_aload_n hx hb dX4_stepOverNumber_85 rfl (lv_at hl 0 rfl) ?_
        refine va_get (D := D) (ci := 4) (v := .int x7) (C := RX4) (T := TX4) (N := 16) hx hb hts inX4 hown hG.1 hP 0 rfl rfl 6 (by decide) (hts _ kw366) (fun _ h9 => h9) rfl dX4_stepOverNumber_86 ?_
        refine lv_icmp_ge (tgt := 124) hx hb dX4_stepOverNumber_89 (by decide) (fun c_10 => ?_) (fun c_10 => by exfalso; have fc_10 : x_4.toInt < x7.toInt := i_nle rfl rfl c_10; omega)
        have fc_10 : x7.toInt ≤ x_4.toInt := i_le rfl rfl c_10
        refine lv_iconst (v := 0) hx hb dX4_stepOverNumber_124 (by decide +kernel) ?_
        refine lv_istore_n (lv' := [(1, .int 0), (0, .ref h0)]) hx hb dX4_stepOverNumber_125 rfl hl (by decide) rfl (fun ls hl => ?_)
        refine lv_aload_n hx hb dX4_stepOverNumber_126 rfl (lv_at hl 1 rfl) ?_
        refine lv_aload_n hx hb dX4_stepOverNumber_127 rfl (lv_at hl 1 rfl) ?_
        refine va_get (D := D) (ci := 4) (v := .int x_4) (C := RX4) (T := TX4) (N := 16) hx hb hts inX4 hown hG.1 hP 0 rfl rfl 9 (by decide) (hts _ kw369) (fun _ h9 => h9) rfl dX4_stepOverNumber_128 ?_
        refine lv_aload_n hx hb dX4_stepOverNumber_131 rfl (lv_at hl 1 rfl) ?_
        refine va_get (D := D) (ci := 4) (v := .int x11) (C := RX4) (T := TX4) (N := 16) hx hb hts inX4 hown hG.1 hP 0 rfl rfl 10 (by decide) (hts _ kw370) (fun _ h9 => h9) rfl dX4_stepOverNumber_132 ?_
        refine lv_isub hx hb dX4_stepOverNumber_135 ?_
        refine lv_topi (fun v_11 ev_11 => ?_)
        have gv_11 : v_11.toInt = x_4.toInt - x11.toInt := by
          have zx : (x_4 : Int32).toInt = x_4.toInt := rfl
          have zy : (x11 : Int32).toInt = x11.toInt := rfl
          rw [ev_11, i32_sub (by rw [zx, zy]; omega) (by rw [zx, zy]; omega), zx, zy]
        refine lv_iconst (v := 4) hx hb dX4_stepOverNumber_136 (by decide +kernel) ?_
        refine lv_icmp_gt (tgt := 144) hx hb dX4_stepOverNumber_137 (by decide) (fun c_12 => ?_) (fun c_12 => ?_)
        · have fc_12 : (4 : Int) < v_11.toInt := i_lt (by decide) rfl c_12
          refine lv_iconst (v := 1) hx hb dX4_stepOverNumber_144 (by decide +kernel) ?_
          refine lv_goto (tgt := 149) hx hb dX4_stepOverNumber_145 (by decide) ?_
          refine va_put (D := D) (ci := 4) (v := .int 1) (ty := .int) (C := RX4) (T := TX4) (N := 16) hx hb hts inX4 tyX4 tyX4_ok nmX4 hown hG.1 hP hD hS 0 rfl rfl 11 (by decide) (hts _ kw371) (fun _ h9 => h9) rfl (by decide +kernel) rfl rfl (Nat.le_of_ble_eq_true rfl) dX4_stepOverNumber_149 (fun H locs hP hD hS => ?_)
          have hP : va_P D vwCl [(h0, .inr (4, [.ref h1, .ref h2, .ref h3, .ref h4, .ref h5, .ref h6, .int x7, .ref h8, .ref h9, .int x_4, .int x11, .int 1, .long y13, .int x_3, .int x15, .int x16])), (h6, .inl (cB, 1600, .inl f17))] H := hP
          have hD : va_D A [(h0, .inr (4, [.ref h1, .ref h2, .ref h3, .ref h4, .ref h5, .ref h6, .int x7, .ref h8, .ref h9, .int x_4, .int x11, .int 1, .long y13, .int x_3, .int x15, .int x16])), (h6, .inl (cB, 1600, .inl f17))] := hD
          have hP9 := hP.sub (ws' := [(h0, .inr (4, [.ref h1, .ref h2, .ref h3, .ref h4, .ref h5, .ref h6, .int x7, .ref h8, .ref h9, .int x_4, .int x11, .int 1, .long y13, .int x_3, .int x15, .int x16])), (h6, .inl (cB, 1600, .inl f17))]) [0, 1] rfl
          have hD9 := hD.sub (ws' := [(h0, .inr (4, [.ref h1, .ref h2, .ref h3, .ref h4, .ref h5, .ref h6, .int x7, .ref h8, .ref h9, .int x_4, .int x11, .int 1, .long y13, .int x_3, .int x15, .int x16])), (h6, .inl (cB, 1600, .inl f17))]) [0, 1] (by decide) rfl
          exact xr_v (rm := (rmL 1 0 0)) hx hb hr hlocks hAe hS hP9 hD9 (Nat.le_of_ble_eq_true rfl) (Nat.le_of_ble_eq_true rfl) dX4_stepOverNumber_152 ⟨x_4, 1, x_3, by have zc1 : (1 : Int32).toInt = 1 := (by decide); omega, by have zc1 : (1 : Int32).toInt = 1 := (by decide); omega, rfl, rfl⟩
        · have fc_12 : v_11.toInt ≤ (4 : Int) := i_nlt (by decide) rfl c_12
          refine lv_iload_n hx hb dX4_stepOverNumber_140 rfl (lv_at hl 0 rfl) ?_
          refine lv_if_eq (tgt := 148) hx hb dX4_stepOverNumber_141 (by decide) (fun _ => ?_) (fun h => absurd h (by decide +kernel))
          refine lv_iconst (v := 2) hx hb dX4_stepOverNumber_148 (by decide +kernel) ?_
          refine va_put (D := D) (ci := 4) (v := .int 2) (ty := .int) (C := RX4) (T := TX4) (N := 16) hx hb hts inX4 tyX4 tyX4_ok nmX4 hown hG.1 hP hD hS 0 rfl rfl 11 (by decide) (hts _ kw371) (fun _ h9 => h9) rfl (by decide +kernel) rfl rfl (Nat.le_of_ble_eq_true rfl) dX4_stepOverNumber_149 (fun H locs hP hD hS => ?_)
          have hP : va_P D vwCl [(h0, .inr (4, [.ref h1, .ref h2, .ref h3, .ref h4, .ref h5, .ref h6, .int x7, .ref h8, .ref h9, .int x_4, .int x11, .int 2, .long y13, .int x_3, .int x15, .int x16])), (h6, .inl (cB, 1600, .inl f17))] H := hP
          have hD : va_D A [(h0, .inr (4, [.ref h1, .ref h2, .ref h3, .ref h4, .ref h5, .ref h6, .int x7, .ref h8, .ref h9, .int x_4, .int x11, .int 2, .long y13, .int x_3, .int x15, .int x16])), (h6, .inl (cB, 1600, .inl f17))] := hD
          have hP9 := hP.sub (ws' := [(h0, .inr (4, [.ref h1, .ref h2, .ref h3, .ref h4, .ref h5, .ref h6, .int x7, .ref h8, .ref h9, .int x_4, .int x11, .int 2, .long y13, .int x_3, .int x15, .int x16])), (h6, .inl (cB, 1600, .inl f17))]) [0, 1] rfl
          have hD9 := hD.sub (ws' := [(h0, .inr (4, [.ref h1, .ref h2, .ref h3, .ref h4, .ref h5, .ref h6, .int x7, .ref h8, .ref h9, .int x_4, .int x11, .int 2, .long y13, .int x_3, .int x15, .int x16])), (h6, .inl (cB, 1600, .inl f17))]) [0, 1] (by decide) rfl
          exact xr_v (rm := (rmL 1 0 0)) hx hb hr hlocks hAe hS hP9 hD9 (Nat.le_of_ble_eq_true rfl) (Nat.le_of_ble_eq_true rfl) dX4_stepOverNumber_152 ⟨x_4, 2, x_3, by have zc2 : (2 : Int32).toInt = 2 := (by decide); omega, by have zc2 : (2 : Int32).toInt = 2 := (by decide); omega, rfl, rfl⟩
      · have fc_9 : x_4.toInt < x7.toInt := i_nle rfl rfl c_9
        refine lv_aload_n hx hb dX4_stepOverNumber_16 rfl (lv_at hl 0 rfl) ?_
        refine va_get (D := D) (ci := 4) (v := .ref h6) (C := RX4) (T := TX4) (N := 16) hx hb hts inX4 hown hG.1 hP 0 rfl rfl 5 (by decide) (hts _ kw365) (fun _ h9 => h9) rfl dX4_stepOverNumber_17 ?_
        refine lv_aload_n hx hb dX4_stepOverNumber_20 rfl (lv_at hl 0 rfl) ?_
        refine va_get (D := D) (ci := 4) (v := .int x_4) (C := RX4) (T := TX4) (N := 16) hx hb hts inX4 hown hG.1 hP 0 rfl rfl 9 (by decide) (hts _ kw369) (fun _ h9 => h9) rfl dX4_stepOverNumber_21 ?_
        refine xa_bldU hx hb hG hP 1 rfl (vp_in_iff.mpr ⟨by omega, by omega⟩) dX4_stepOverNumber_24 (fun v_13 => ?_)
        refine lv_bipush (v := 48) hx hb dX4_stepOverNumber_25 (by decide +kernel) ?_
        refine lv_icmp_lt (tgt := 81) hx hb dX4_stepOverNumber_27 (by decide) (fun c_14 => ?_) (fun c_14 => ?_)
        · have fc_14 : v_13.toInt < (48 : Int) := i_lt rfl (by decide) c_14
          refine lv_aload_n hx hb dX4_stepOverNumber_81 rfl (lv_at hl 0 rfl) ?_
          refine va_get (D := D) (ci := 4) (v := .int x_4) (C := RX4) (T := TX4) (N := 16) hx hb hts inX4 hown hG.1 hP 0 rfl rfl 9 (by decide) (hts _ kw369) (fun _ h9 => h9) rfl dX4_stepOverNumber_82 ?_
          refine lv_aload_n hx hb dX4_stepOverNumber_85 rfl (lv_at hl 0 rfl) ?_
          refine va_get (D := D) (ci := 4) (v := .int x7) (C := RX4) (T := TX4) (N := 16) hx hb hts inX4 hown hG.1 hP 0 rfl rfl 6 (by decide) (hts _ kw366) (fun _ h9 => h9) rfl dX4_stepOverNumber_86 ?_
          refine lv_icmp_ge (tgt := 124) hx hb dX4_stepOverNumber_89 (by decide) (fun c_15 => by exfalso; have fc_15 : x7.toInt ≤ x_4.toInt := i_le rfl rfl c_15; omega) (fun c_15 => ?_)
          have fc_15 : x_4.toInt < x7.toInt := i_nle rfl rfl c_15
          refine lv_aload_n hx hb dX4_stepOverNumber_92 rfl (lv_at hl 0 rfl) ?_
          refine va_get (D := D) (ci := 4) (v := .ref h6) (C := RX4) (T := TX4) (N := 16) hx hb hts inX4 hown hG.1 hP 0 rfl rfl 5 (by decide) (hts _ kw365) (fun _ h9 => h9) rfl dX4_stepOverNumber_93 ?_
          refine lv_aload_n hx hb dX4_stepOverNumber_96 rfl (lv_at hl 0 rfl) ?_
          refine va_get (D := D) (ci := 4) (v := .int x_4) (C := RX4) (T := TX4) (N := 16) hx hb hts inX4 hown hG.1 hP 0 rfl rfl 9 (by decide) (hts _ kw369) (fun _ h9 => h9) rfl dX4_stepOverNumber_97 ?_
          refine xa_bldU hx hb hG hP 1 rfl (vp_in_iff.mpr ⟨by omega, by omega⟩) dX4_stepOverNumber_100 (fun v_16 => ?_)
          refine lv_bipush (v := 97) hx hb dX4_stepOverNumber_101 (by decide +kernel) ?_
          refine lv_icmp_lt (tgt := 124) hx hb dX4_stepOverNumber_103 (by decide) (fun c_17 => ?_) (fun c_17 => ?_)
          · have fc_17 : v_16.toInt < (97 : Int) := i_lt rfl (by decide) c_17
            refine lv_iconst (v := 0) hx hb dX4_stepOverNumber_124 (by decide +kernel) ?_
            refine lv_istore_n (lv' := [(1, .int 0), (0, .ref h0)]) hx hb dX4_stepOverNumber_125 rfl hl (by decide) rfl (fun ls hl => ?_)
            refine lv_aload_n hx hb dX4_stepOverNumber_126 rfl (lv_at hl 1 rfl) ?_
            refine lv_aload_n hx hb dX4_stepOverNumber_127 rfl (lv_at hl 1 rfl) ?_
            refine va_get (D := D) (ci := 4) (v := .int x_4) (C := RX4) (T := TX4) (N := 16) hx hb hts inX4 hown hG.1 hP 0 rfl rfl 9 (by decide) (hts _ kw369) (fun _ h9 => h9) rfl dX4_stepOverNumber_128 ?_
            refine lv_aload_n hx hb dX4_stepOverNumber_131 rfl (lv_at hl 1 rfl) ?_
            refine va_get (D := D) (ci := 4) (v := .int x11) (C := RX4) (T := TX4) (N := 16) hx hb hts inX4 hown hG.1 hP 0 rfl rfl 10 (by decide) (hts _ kw370) (fun _ h9 => h9) rfl dX4_stepOverNumber_132 ?_
            refine lv_isub hx hb dX4_stepOverNumber_135 ?_
            refine lv_topi (fun v_18 ev_18 => ?_)
            have gv_18 : v_18.toInt = x_4.toInt - x11.toInt := by
              have zx : (x_4 : Int32).toInt = x_4.toInt := rfl
              have zy : (x11 : Int32).toInt = x11.toInt := rfl
              rw [ev_18, i32_sub (by rw [zx, zy]; omega) (by rw [zx, zy]; omega), zx, zy]
            refine lv_iconst (v := 4) hx hb dX4_stepOverNumber_136 (by decide +kernel) ?_
            refine lv_icmp_gt (tgt := 144) hx hb dX4_stepOverNumber_137 (by decide) (fun c_19 => ?_) (fun c_19 => ?_)
            · have fc_19 : (4 : Int) < v_18.toInt := i_lt (by decide) rfl c_19
              refine lv_iconst (v := 1) hx hb dX4_stepOverNumber_144 (by decide +kernel) ?_
              refine lv_goto (tgt := 149) hx hb dX4_stepOverNumber_145 (by decide) ?_
              refine va_put (D := D) (ci := 4) (v := .int 1) (ty := .int) (C := RX4) (T := TX4) (N := 16) hx hb hts inX4 tyX4 tyX4_ok nmX4 hown hG.1 hP hD hS 0 rfl rfl 11 (by decide) (hts _ kw371) (fun _ h9 => h9) rfl (by decide +kernel) rfl rfl (Nat.le_of_ble_eq_true rfl) dX4_stepOverNumber_149 (fun H locs hP hD hS => ?_)
              have hP : va_P D vwCl [(h0, .inr (4, [.ref h1, .ref h2, .ref h3, .ref h4, .ref h5, .ref h6, .int x7, .ref h8, .ref h9, .int x_4, .int x11, .int 1, .long y13, .int x_3, .int x15, .int x16])), (h6, .inl (cB, 1600, .inl f17))] H := hP
              have hD : va_D A [(h0, .inr (4, [.ref h1, .ref h2, .ref h3, .ref h4, .ref h5, .ref h6, .int x7, .ref h8, .ref h9, .int x_4, .int x11, .int 1, .long y13, .int x_3, .int x15, .int x16])), (h6, .inl (cB, 1600, .inl f17))] := hD
              have hP9 := hP.sub (ws' := [(h0, .inr (4, [.ref h1, .ref h2, .ref h3, .ref h4, .ref h5, .ref h6, .int x7, .ref h8, .ref h9, .int x_4, .int x11, .int 1, .long y13, .int x_3, .int x15, .int x16])), (h6, .inl (cB, 1600, .inl f17))]) [0, 1] rfl
              have hD9 := hD.sub (ws' := [(h0, .inr (4, [.ref h1, .ref h2, .ref h3, .ref h4, .ref h5, .ref h6, .int x7, .ref h8, .ref h9, .int x_4, .int x11, .int 1, .long y13, .int x_3, .int x15, .int x16])), (h6, .inl (cB, 1600, .inl f17))]) [0, 1] (by decide) rfl
              exact xr_v (rm := (rmL 1 0 0)) hx hb hr hlocks hAe hS hP9 hD9 (Nat.le_of_ble_eq_true rfl) (Nat.le_of_ble_eq_true rfl) dX4_stepOverNumber_152 ⟨x_4, 1, x_3, by have zc1 : (1 : Int32).toInt = 1 := (by decide); omega, by have zc1 : (1 : Int32).toInt = 1 := (by decide); omega, rfl, rfl⟩
            · have fc_19 : v_18.toInt ≤ (4 : Int) := i_nlt (by decide) rfl c_19
              refine lv_iload_n hx hb dX4_stepOverNumber_140 rfl (lv_at hl 0 rfl) ?_
              refine lv_if_eq (tgt := 148) hx hb dX4_stepOverNumber_141 (by decide) (fun _ => ?_) (fun h => absurd h (by decide +kernel))
              refine lv_iconst (v := 2) hx hb dX4_stepOverNumber_148 (by decide +kernel) ?_
              refine va_put (D := D) (ci := 4) (v := .int 2) (ty := .int) (C := RX4) (T := TX4) (N := 16) hx hb hts inX4 tyX4 tyX4_ok nmX4 hown hG.1 hP hD hS 0 rfl rfl 11 (by decide) (hts _ kw371) (fun _ h9 => h9) rfl (by decide +kernel) rfl rfl (Nat.le_of_ble_eq_true rfl) dX4_stepOverNumber_149 (fun H locs hP hD hS => ?_)
              have hP : va_P D vwCl [(h0, .inr (4, [.ref h1, .ref h2, .ref h3, .ref h4, .ref h5, .ref h6, .int x7, .ref h8, .ref h9, .int x_4, .int x11, .int 2, .long y13, .int x_3, .int x15, .int x16])), (h6, .inl (cB, 1600, .inl f17))] H := hP
              have hD : va_D A [(h0, .inr (4, [.ref h1, .ref h2, .ref h3, .ref h4, .ref h5, .ref h6, .int x7, .ref h8, .ref h9, .int x_4, .int x11, .int 2, .long y13, .int x_3, .int x15, .int x16])), (h6, .inl (cB, 1600, .inl f17))] := hD
              have hP9 := hP.sub (ws' := [(h0, .inr (4, [.ref h1, .ref h2, .ref h3, .ref h4, .ref h5, .ref h6, .int x7, .ref h8, .ref h9, .int x_4, .int x11, .int 2, .long y13, .int x_3, .int x15, .int x16])), (h6, .inl (cB, 1600, .inl f17))]) [0, 1] rfl
              have hD9 := hD.sub (ws' := [(h0, .inr (4, [.ref h1, .ref h2, .ref h3, .ref h4, .ref h5, .ref h6, .int x7, .ref h8, .ref h9, .int x_4, .int x11, .int 2, .long y13, .int x_3, .int x15, .int x16])), (h6, .inl (cB, 1600, .inl f17))]) [0, 1] (by decide) rfl
              exact xr_v (rm := (rmL 1 0 0)) hx hb hr hlocks hAe hS hP9 hD9 (Nat.le_of_ble_eq_true rfl) (Nat.le_of_ble_eq_true rfl) dX4_stepOverNumber_152 ⟨x_4, 2, x_3, by have zc2 : (2 : Int32).toInt = 2 := (by decide); omega, by have zc2 : (2 : Int32).toInt = 2 := (by decide); omega, rfl, rfl⟩
          · have fc_17 : (97 : Int) ≤ v_16.toInt := i_nlt rfl (by decide) c_17
            refine lv_aload_n hx hb dX4_stepOverNumber_106 rfl (lv_at hl 0 rfl) ?_
            refine va_get (D := D) (ci := 4) (v := .ref h6) (C := RX4) (T := TX4) (N := 16) hx hb hts inX4 hown hG.1 hP 0 rfl rfl 5 (by decide) (hts _ kw365) (fun _ h9 => h9) rfl dX4_stepOverNumber_107 ?_
            refine lv_aload_n hx hb dX4_stepOverNumber_110 rfl (lv_at hl 0 rfl) ?_
            refine va_get (D := D) (ci := 4) (v := .int x_4) (C := RX4) (T := TX4) (N := 16) hx hb hts inX4 hown hG.1 hP 0 rfl rfl 9 (by decide) (hts _ kw369) (fun _ h9 => h9) rfl dX4_stepOverNumber_111 ?_
            refine xa_bldU hx hb hG hP 1 rfl (vp_in_iff.mpr ⟨by omega, by omega⟩) dX4_stepOverNumber_114 (fun v_20 => ?_)
            refine lv_bipush (v := 122) hx hb dX4_stepOverNumber_115 (by decide +kernel) ?_
            refine lv_icmp_gt (tgt := 124) hx hb dX4_stepOverNumber_117 (by decide) (fun c_21 => ?_) (fun c_21 => ?_)
            · have fc_21 : (122 : Int) < v_20.toInt := i_lt (by decide) rfl c_21
              refine lv_iconst (v := 0) hx hb dX4_stepOverNumber_124 (by decide +kernel) ?_
              refine lv_istore_n (lv' := [(1, .int 0), (0, .ref h0)]) hx hb dX4_stepOverNumber_125 rfl hl (by decide) rfl (fun ls hl => ?_)
              refine lv_aload_n hx hb dX4_stepOverNumber_126 rfl (lv_at hl 1 rfl) ?_
              refine lv_aload_n hx hb dX4_stepOverNumber_127 rfl (lv_at hl 1 rfl) ?_
              refine va_get (D := D) (ci := 4) (v := .int x_4) (C := RX4) (T := TX4) (N := 16) hx hb hts inX4 hown hG.1 hP 0 rfl rfl 9 (by decide) (hts _ kw369) (fun _ h9 => h9) rfl dX4_stepOverNumber_128 ?_
              refine lv_aload_n hx hb dX4_stepOverNumber_131 rfl (lv_at hl 1 rfl) ?_
              refine va_get (D := D) (ci := 4) (v := .int x11) (C := RX4) (T := TX4) (N := 16) hx hb hts inX4 hown hG.1 hP 0 rfl rfl 10 (by decide) (hts _ kw370) (fun _ h9 => h9) rfl dX4_stepOverNumber_132 ?_
              refine lv_isub hx hb dX4_stepOverNumber_135 ?_
              refine lv_topi (fun v_22 ev_22 => ?_)
              have gv_22 : v_22.toInt = x_4.toInt - x11.toInt := by
                have zx : (x_4 : Int32).toInt = x_4.toInt := rfl
                have zy : (x11 : Int32).toInt = x11.toInt := rfl
                rw [ev_22, i32_sub (by rw [zx, zy]; omega) (by rw [zx, zy]; omega), zx, zy]
              refine lv_iconst (v := 4) hx hb dX4_stepOverNumber_136 (by decide +kernel) ?_
              refine lv_icmp_gt (tgt := 144) hx hb dX4_stepOverNumber_137 (by decide) (fun c_23 => ?_) (fun c_23 => ?_)
              · have fc_23 : (4 : Int) < v_22.toInt := i_lt (by decide) rfl c_23
                refine lv_iconst (v := 1) hx hb dX4_stepOverNumber_144 (by decide +kernel) ?_
                refine lv_goto (tgt := 149) hx hb dX4_stepOverNumber_145 (by decide) ?_
                refine va_put (D := D) (ci := 4) (v := .int 1) (ty := .int) (C := RX4) (T := TX4) (N := 16) hx hb hts inX4 tyX4 tyX4_ok nmX4 hown hG.1 hP hD hS 0 rfl rfl 11 (by decide) (hts _ kw371) (fun _ h9 => h9) rfl (by decide +kernel) rfl rfl (Nat.le_of_ble_eq_true rfl) dX4_stepOverNumber_149 (fun H locs hP hD hS => ?_)
                have hP : va_P D vwCl [(h0, .inr (4, [.ref h1, .ref h2, .ref h3, .ref h4, .ref h5, .ref h6, .int x7, .ref h8, .ref h9, .int x_4, .int x11, .int 1, .long y13, .int x_3, .int x15, .int x16])), (h6, .inl (cB, 1600, .inl f17))] H := hP
                have hD : va_D A [(h0, .inr (4, [.ref h1, .ref h2, .ref h3, .ref h4, .ref h5, .ref h6, .int x7, .ref h8, .ref h9, .int x_4, .int x11, .int 1, .long y13, .int x_3, .int x15, .int x16])), (h6, .inl (cB, 1600, .inl f17))] := hD
                have hP9 := hP.sub (ws' := [(h0, .inr (4, [.ref h1, .ref h2, .ref h3, .ref h4, .ref h5, .ref h6, .int x7, .ref h8, .ref h9, .int x_4, .int x11, .int 1, .long y13, .int x_3, .int x15, .int x16])), (h6, .inl (cB, 1600, .inl f17))]) [0, 1] rfl
                have hD9 := hD.sub (ws' := [(h0, .inr (4, [.ref h1, .ref h2, .ref h3, .ref h4, .ref h5, .ref h6, .int x7, .ref h8, .ref h9, .int x_4, .int x11, .int 1, .long y13, .int x_3, .int x15, .int x16])), (h6, .inl (cB, 1600, .inl f17))]) [0, 1] (by decide) rfl
                exact xr_v (rm := (rmL 1 0 0)) hx hb hr hlocks hAe hS hP9 hD9 (Nat.le_of_ble_eq_true rfl) (Nat.le_of_ble_eq_true rfl) dX4_stepOverNumber_152 ⟨x_4, 1, x_3, by have zc1 : (1 : Int32).toInt = 1 := (by decide); omega, by have zc1 : (1 : Int32).toInt = 1 := (by decide); omega, rfl, rfl⟩
              · have fc_23 : v_22.toInt ≤ (4 : Int) := i_nlt (by decide) rfl c_23
                refine lv_iload_n hx hb dX4_stepOverNumber_140 rfl (lv_at hl 0 rfl) ?_
                refine lv_if_eq (tgt := 148) hx hb dX4_stepOverNumber_141 (by decide) (fun _ => ?_) (fun h => absurd h (by decide +kernel))
                refine lv_iconst (v := 2) hx hb dX4_stepOverNumber_148 (by decide +kernel) ?_
                refine va_put (D := D) (ci := 4) (v := .int 2) (ty := .int) (C := RX4) (T := TX4) (N := 16) hx hb hts inX4 tyX4 tyX4_ok nmX4 hown hG.1 hP hD hS 0 rfl rfl 11 (by decide) (hts _ kw371) (fun _ h9 => h9) rfl (by decide +kernel) rfl rfl (Nat.le_of_ble_eq_true rfl) dX4_stepOverNumber_149 (fun H locs hP hD hS => ?_)
                have hP : va_P D vwCl [(h0, .inr (4, [.ref h1, .ref h2, .ref h3, .ref h4, .ref h5, .ref h6, .int x7, .ref h8, .ref h9, .int x_4, .int x11, .int 2, .long y13, .int x_3, .int x15, .int x16])), (h6, .inl (cB, 1600, .inl f17))] H := hP
                have hD : va_D A [(h0, .inr (4, [.ref h1, .ref h2, .ref h3, .ref h4, .ref h5, .ref h6, .int x7, .ref h8, .ref h9, .int x_4, .int x11, .int 2, .long y13, .int x_3, .int x15, .int x16])), (h6, .inl (cB, 1600, .inl f17))] := hD
                have hP9 := hP.sub (ws' := [(h0, .inr (4, [.ref h1, .ref h2, .ref h3, .ref h4, .ref h5, .ref h6, .int x7, .ref h8, .ref h9, .int x_4, .int x11, .int 2, .long y13, .int x_3, .int x15, .int x16])), (h6, .inl (cB, 1600, .inl f17))]) [0, 1] rfl
                have hD9 := hD.sub (ws' := [(h0, .inr (4, [.ref h1, .ref h2, .ref h3, .ref h4, .ref h5, .ref h6, .int x7, .ref h8, .ref h9, .int x_4, .int x11, .int 2, .long y13, .int x_3, .int x15, .int x16])), (h6, .inl (cB, 1600, .inl f17))]) [0, 1] (by decide) rfl
                exact xr_v (rm := (rmL 1 0 0)) hx hb hr hlocks hAe hS hP9 hD9 (Nat.le_of_ble_eq_true rfl) (Nat.le_of_ble_eq_true rfl) dX4_stepOverNumber_152 ⟨x_4, 2, x_3, by have zc2 : (2 : Int32).toInt = 2 := (by decide); omega, by have zc2 : (2 : Int32).toInt = 2 := (by decide); omega, rfl, rfl⟩
            · have fc_21 : v_20.toInt ≤ (122 : Int) := i_nlt (by decide) rfl c_21
              refine lv_iconst (v := 1) hx hb dX4_stepOverNumber_120 (by decide +kernel) ?_
              refine lv_goto (tgt := 125) hx hb dX4_stepOverNumber_121 (by decide) ?_
              refine lv_istore_n (lv' := [(1, .int 1), (0, .ref h0)]) hx hb dX4_stepOverNumber_125 rfl hl (by decide) rfl (fun ls hl => ?_)
              refine lv_aload_n hx hb dX4_stepOverNumber_126 rfl (lv_at hl 1 rfl) ?_
              refine lv_aload_n hx hb dX4_stepOverNumber_127 rfl (lv_at hl 1 rfl) ?_
              refine va_get (D := D) (ci := 4) (v := .int x_4) (C := RX4) (T := TX4) (N := 16) hx hb hts inX4 hown hG.1 hP 0 rfl rfl 9 (by decide) (hts _ kw369) (fun _ h9 => h9) rfl dX4_stepOverNumber_128 ?_
              refine lv_aload_n hx hb dX4_stepOverNumber_131 rfl (lv_at hl 1 rfl) ?_
              refine va_get (D := D) (ci := 4) (v := .int x11) (C := RX4) (T := TX4) (N := 16) hx hb hts inX4 hown hG.1 hP 0 rfl rfl 10 (by decide) (hts _ kw370) (fun _ h9 => h9) rfl dX4_stepOverNumber_132 ?_
              refine lv_isub hx hb dX4_stepOverNumber_135 ?_
              refine lv_topi (fun v_24 ev_24 => ?_)
              have gv_24 : v_24.toInt = x_4.toInt - x11.toInt := by
                have zx : (x_4 : Int32).toInt = x_4.toInt := rfl
                have zy : (x11 : Int32).toInt = x11.toInt := rfl
                rw [ev_24, i32_sub (by rw [zx, zy]; omega) (by rw [zx, zy]; omega), zx, zy]
              refine lv_iconst (v := 4) hx hb dX4_stepOverNumber_136 (by decide +kernel) ?_
              refine lv_icmp_gt (tgt := 144) hx hb dX4_stepOverNumber_137 (by decide) (fun c_25 => ?_) (fun c_25 => ?_)
              · have fc_25 : (4 : Int) < v_24.toInt := i_lt (by decide) rfl c_25
                refine lv_iconst (v := 1) hx hb dX4_stepOverNumber_144 (by decide +kernel) ?_
                refine lv_goto (tgt := 149) hx hb dX4_stepOverNumber_145 (by decide) ?_
                refine va_put (D := D) (ci := 4) (v := .int 1) (ty := .int) (C := RX4) (T := TX4) (N := 16) hx hb hts inX4 tyX4 tyX4_ok nmX4 hown hG.1 hP hD hS 0 rfl rfl 11 (by decide) (hts _ kw371) (fun _ h9 => h9) rfl (by decide +kernel) rfl rfl (Nat.le_of_ble_eq_true rfl) dX4_stepOverNumber_149 (fun H locs hP hD hS => ?_)
                have hP : va_P D vwCl [(h0, .inr (4, [.ref h1, .ref h2, .ref h3, .ref h4, .ref h5, .ref h6, .int x7, .ref h8, .ref h9, .int x_4, .int x11, .int 1, .long y13, .int x_3, .int x15, .int x16])), (h6, .inl (cB, 1600, .inl f17))] H := hP
                have hD : va_D A [(h0, .inr (4, [.ref h1, .ref h2, .ref h3, .ref h4, .ref h5, .ref h6, .int x7, .ref h8, .ref h9, .int x_4, .int x11, .int 1, .long y13, .int x_3, .int x15, .int x16])), (h6, .inl (cB, 1600, .inl f17))] := hD
                have hP9 := hP.sub (ws' := [(h0, .inr (4, [.ref h1, .ref h2, .ref h3, .ref h4, .ref h5, .ref h6, .int x7, .ref h8, .ref h9, .int x_4, .int x11, .int 1, .long y13, .int x_3, .int x15, .int x16])), (h6, .inl (cB, 1600, .inl f17))]) [0, 1] rfl
                have hD9 := hD.sub (ws' := [(h0, .inr (4, [.ref h1, .ref h2, .ref h3, .ref h4, .ref h5, .ref h6, .int x7, .ref h8, .ref h9, .int x_4, .int x11, .int 1, .long y13, .int x_3, .int x15, .int x16])), (h6, .inl (cB, 1600, .inl f17))]) [0, 1] (by decide) rfl
                exact xr_v (rm := (rmL 1 0 0)) hx hb hr hlocks hAe hS hP9 hD9 (Nat.le_of_ble_eq_true rfl) (Nat.le_of_ble_eq_true rfl) dX4_stepOverNumber_152 ⟨x_4, 1, x_3, by have zc1 : (1 : Int32).toInt = 1 := (by decide); omega, by have zc1 : (1 : Int32).toInt = 1 := (by decide); omega, rfl, rfl⟩
              · have fc_25 : v_24.toInt ≤ (4 : Int) := i_nlt (by decide) rfl c_25
                refine lv_iload_n hx hb dX4_stepOverNumber_140 rfl (lv_at hl 0 rfl) ?_
                refine lv_if_eq (tgt := 148) hx hb dX4_stepOverNumber_141 (by decide) (fun h => absurd h (by decide +kernel)) (fun _ => ?_)
                refine lv_iconst (v := 1) hx hb dX4_stepOverNumber_144 (by decide +kernel) ?_
                refine lv_goto (tgt := 149) hx hb dX4_stepOverNumber_145 (by decide) ?_
                refine va_put (D := D) (ci := 4) (v := .int 1) (ty := .int) (C := RX4) (T := TX4) (N := 16) hx hb hts inX4 tyX4 tyX4_ok nmX4 hown hG.1 hP hD hS 0 rfl rfl 11 (by decide) (hts _ kw371) (fun _ h9 => h9) rfl (by decide +kernel) rfl rfl (Nat.le_of_ble_eq_true rfl) dX4_stepOverNumber_149 (fun H locs hP hD hS => ?_)
                have hP : va_P D vwCl [(h0, .inr (4, [.ref h1, .ref h2, .ref h3, .ref h4, .ref h5, .ref h6, .int x7, .ref h8, .ref h9, .int x_4, .int x11, .int 1, .long y13, .int x_3, .int x15, .int x16])), (h6, .inl (cB, 1600, .inl f17))] H := hP
                have hD : va_D A [(h0, .inr (4, [.ref h1, .ref h2, .ref h3, .ref h4, .ref h5, .ref h6, .int x7, .ref h8, .ref h9, .int x_4, .int x11, .int 1, .long y13, .int x_3, .int x15, .int x16])), (h6, .inl (cB, 1600, .inl f17))] := hD
                have hP9 := hP.sub (ws' := [(h0, .inr (4, [.ref h1, .ref h2, .ref h3, .ref h4, .ref h5, .ref h6, .int x7, .ref h8, .ref h9, .int x_4, .int x11, .int 1, .long y13, .int x_3, .int x15, .int x16])), (h6, .inl (cB, 1600, .inl f17))]) [0, 1] rfl
                have hD9 := hD.sub (ws' := [(h0, .inr (4, [.ref h1, .ref h2, .ref h3, .ref h4, .ref h5, .ref h6, .int x7, .ref h8, .ref h9, .int x_4, .int x11, .int 1, .long y13, .int x_3, .int x15, .int x16])), (h6, .inl (cB, 1600, .inl f17))]) [0, 1] (by decide) rfl
                exact xr_v (rm := (rmL 1 0 0)) hx hb hr hlocks hAe hS hP9 hD9 (Nat.le_of_ble_eq_true rfl) (Nat.le_of_ble_eq_true rfl) dX4_stepOverNumber_152 ⟨x_4, 1, x_3, by have zc1 : (1 : Int32).toInt = 1 := (by decide); omega, by have zc1 : (1 : Int32).toInt = 1 := (by decide); omega, rfl, rfl⟩
        · have fc_14 : (48 : Int) ≤ v_13.toInt := i_nlt rfl (by decide) c_14
          refine lv_aload_n hx hb dX4_stepOverNumber_30 rfl (lv_at hl 0 rfl) ?_
          refine va_get (D := D) (ci := 4) (v := .ref h6) (C := RX4) (T := TX4) (N := 16) hx hb hts inX4 hown hG.1 hP 0 rfl rfl 5 (by decide) (hts _ kw365) (fun _ h9 => h9) rfl dX4_stepOverNumber_31 ?_
          refine lv_aload_n hx hb dX4_stepOverNumber_34 rfl (lv_at hl 0 rfl) ?_
          refine va_get (D := D) (ci := 4) (v := .int x_4) (C := RX4) (T := TX4) (N := 16) hx hb hts inX4 hown hG.1 hP 0 rfl rfl 9 (by decide) (hts _ kw369) (fun _ h9 => h9) rfl dX4_stepOverNumber_35 ?_
          refine xa_bldU hx hb hG hP 1 rfl (vp_in_iff.mpr ⟨by omega, by omega⟩) dX4_stepOverNumber_38 (fun v_26 => ?_)
          refine lv_bipush (v := 57) hx hb dX4_stepOverNumber_39 (by decide +kernel) ?_
          refine lv_icmp_gt (tgt := 81) hx hb dX4_stepOverNumber_41 (by decide) (fun c_27 => ?_) (fun c_27 => ?_)
          · have fc_27 : (57 : Int) < v_26.toInt := i_lt (by decide) rfl c_27
            refine lv_aload_n hx hb dX4_stepOverNumber_81 rfl (lv_at hl 0 rfl) ?_
            refine va_get (D := D) (ci := 4) (v := .int x_4) (C := RX4) (T := TX4) (N := 16) hx hb hts inX4 hown hG.1 hP 0 rfl rfl 9 (by decide) (hts _ kw369) (fun _ h9 => h9) rfl dX4_stepOverNumber_82 ?_
            refine lv_aload_n hx hb dX4_stepOverNumber_85 rfl (lv_at hl 0 rfl) ?_
            refine va_get (D := D) (ci := 4) (v := .int x7) (C := RX4) (T := TX4) (N := 16) hx hb hts inX4 hown hG.1 hP 0 rfl rfl 6 (by decide) (hts _ kw366) (fun _ h9 => h9) rfl dX4_stepOverNumber_86 ?_
            refine lv_icmp_ge (tgt := 124) hx hb dX4_stepOverNumber_89 (by decide) (fun c_28 => by exfalso; have fc_28 : x7.toInt ≤ x_4.toInt := i_le rfl rfl c_28; omega) (fun c_28 => ?_)
            have fc_28 : x_4.toInt < x7.toInt := i_nle rfl rfl c_28
            refine lv_aload_n hx hb dX4_stepOverNumber_92 rfl (lv_at hl 0 rfl) ?_
            refine va_get (D := D) (ci := 4) (v := .ref h6) (C := RX4) (T := TX4) (N := 16) hx hb hts inX4 hown hG.1 hP 0 rfl rfl 5 (by decide) (hts _ kw365) (fun _ h9 => h9) rfl dX4_stepOverNumber_93 ?_
            refine lv_aload_n hx hb dX4_stepOverNumber_96 rfl (lv_at hl 0 rfl) ?_
            refine va_get (D := D) (ci := 4) (v := .int x_4) (C := RX4) (T := TX4) (N := 16) hx hb hts inX4 hown hG.1 hP 0 rfl rfl 9 (by decide) (hts _ kw369) (fun _ h9 => h9) rfl dX4_stepOverNumber_97 ?_
            refine xa_bldU hx hb hG hP 1 rfl (vp_in_iff.mpr ⟨by omega, by omega⟩) dX4_stepOverNumber_100 (fun v_29 => ?_)
            refine lv_bipush (v := 97) hx hb dX4_stepOverNumber_101 (by decide +kernel) ?_
            refine lv_icmp_lt (tgt := 124) hx hb dX4_stepOverNumber_103 (by decide) (fun c_30 => ?_) (fun c_30 => ?_)
            · have fc_30 : v_29.toInt < (97 : Int) := i_lt rfl (by decide) c_30
              refine lv_iconst (v := 0) hx hb dX4_stepOverNumber_124 (by decide +kernel) ?_
              refine lv_istore_n (lv' := [(1, .int 0), (0, .ref h0)]) hx hb dX4_stepOverNumber_125 rfl hl (by decide) rfl (fun ls hl => ?_)
              refine lv_aload_n hx hb dX4_stepOverNumber_126 rfl (lv_at hl 1 rfl) ?_
              refine lv_aload_n hx hb dX4_stepOverNumber_127 rfl (lv_at hl 1 rfl) ?_
              refine va_get (D := D) (ci := 4) (v := .int x_4) (C := RX4) (T := TX4) (N := 16) hx hb hts inX4 hown hG.1 hP 0 rfl rfl 9 (by decide) (hts _ kw369) (fun _ h9 => h9) rfl dX4_stepOverNumber_128 ?_
              refine lv_aload_n hx hb dX4_stepOverNumber_131 rfl (lv_at hl 1 rfl) ?_
              refine va_get (D := D) (ci := 4) (v := .int x11) (C := RX4) (T := TX4) (N := 16) hx hb hts inX4 hown hG.1 hP 0 rfl rfl 10 (by decide) (hts _ kw370) (fun _ h9 => h9) rfl dX4_stepOverNumber_132 ?_
              refine lv_isub hx hb dX4_stepOverNumber_135 ?_
              refine lv_topi (fun v_31 ev_31 => ?_)
              have gv_31 : v_31.toInt = x_4.toInt - x11.toInt := by
                have zx : (x_4 : Int32).toInt = x_4.toInt := rfl
                have zy : (x11 : Int32).toInt = x11.toInt := rfl
                rw [ev_31, i32_sub (by rw [zx, zy]; omega) (by rw [zx, zy]; omega), zx, zy]
              refine lv_iconst (v := 4) hx hb dX4_stepOverNumber_136 (by decide +kernel) ?_
              refine lv_icmp_gt (tgt := 144) hx hb dX4_stepOverNumber_137 (by decide) (fun c_32 => ?_) (fun c_32 => ?_)
              · have fc_32 : (4 : Int) < v_31.toInt := i_lt (by decide) rfl c_32
                refine lv_iconst (v := 1) hx hb dX4_stepOverNumber_144 (by decide +kernel) ?_
                refine lv_goto (tgt := 149) hx hb dX4_stepOverNumber_145 (by decide) ?_
                refine va_put (D := D) (ci := 4) (v := .int 1) (ty := .int) (C := RX4) (T := TX4) (N := 16) hx hb hts inX4 tyX4 tyX4_ok nmX4 hown hG.1 hP hD hS 0 rfl rfl 11 (by decide) (hts _ kw371) (fun _ h9 => h9) rfl (by decide +kernel) rfl rfl (Nat.le_of_ble_eq_true rfl) dX4_stepOverNumber_149 (fun H locs hP hD hS => ?_)
                have hP : va_P D vwCl [(h0, .inr (4, [.ref h1, .ref h2, .ref h3, .ref h4, .ref h5, .ref h6, .int x7, .ref h8, .ref h9, .int x_4, .int x11, .int 1, .long y13, .int x_3, .int x15, .int x16])), (h6, .inl (cB, 1600, .inl f17))] H := hP
                have hD : va_D A [(h0, .inr (4, [.ref h1, .ref h2, .ref h3, .ref h4, .ref h5, .ref h6, .int x7, .ref h8, .ref h9, .int x_4, .int x11, .int 1, .long y13, .int x_3, .int x15, .int x16])), (h6, .inl (cB, 1600, .inl f17))] := hD
                have hP9 := hP.sub (ws' := [(h0, .inr (4, [.ref h1, .ref h2, .ref h3, .ref h4, .ref h5, .ref h6, .int x7, .ref h8, .ref h9, .int x_4, .int x11, .int 1, .long y13, .int x_3, .int x15, .int x16])), (h6, .inl (cB, 1600, .inl f17))]) [0, 1] rfl
                have hD9 := hD.sub (ws' := [(h0, .inr (4, [.ref h1, .ref h2, .ref h3, .ref h4, .ref h5, .ref h6, .int x7, .ref h8, .ref h9, .int x_4, .int x11, .int 1, .long y13, .int x_3, .int x15, .int x16])), (h6, .inl (cB, 1600, .inl f17))]) [0, 1] (by decide) rfl
                exact xr_v (rm := (rmL 1 0 0)) hx hb hr hlocks hAe hS hP9 hD9 (Nat.le_of_ble_eq_true rfl) (Nat.le_of_ble_eq_true rfl) dX4_stepOverNumber_152 ⟨x_4, 1, x_3, by have zc1 : (1 : Int32).toInt = 1 := (by decide); omega, by have zc1 : (1 : Int32).toInt = 1 := (by decide); omega, rfl, rfl⟩
              · have fc_32 : v_31.toInt ≤ (4 : Int) := i_nlt (by decide) rfl c_32
                refine lv_iload_n hx hb dX4_stepOverNumber_140 rfl (lv_at hl 0 rfl) ?_
                refine lv_if_eq (tgt := 148) hx hb dX4_stepOverNumber_141 (by decide) (fun _ => ?_) (fun h => absurd h (by decide +kernel))
                refine lv_iconst (v := 2) hx hb dX4_stepOverNumber_148 (by decide +kernel) ?_
                refine va_put (D := D) (ci := 4) (v := .int 2) (ty := .int) (C := RX4) (T := TX4) (N := 16) hx hb hts inX4 tyX4 tyX4_ok nmX4 hown hG.1 hP hD hS 0 rfl rfl 11 (by decide) (hts _ kw371) (fun _ h9 => h9) rfl (by decide +kernel) rfl rfl (Nat.le_of_ble_eq_true rfl) dX4_stepOverNumber_149 (fun H locs hP hD hS => ?_)
                have hP : va_P D vwCl [(h0, .inr (4, [.ref h1, .ref h2, .ref h3, .ref h4, .ref h5, .ref h6, .int x7, .ref h8, .ref h9, .int x_4, .int x11, .int 2, .long y13, .int x_3, .int x15, .int x16])), (h6, .inl (cB, 1600, .inl f17))] H := hP
                have hD : va_D A [(h0, .inr (4, [.ref h1, .ref h2, .ref h3, .ref h4, .ref h5, .ref h6, .int x7, .ref h8, .ref h9, .int x_4, .int x11, .int 2, .long y13, .int x_3, .int x15, .int x16])), (h6, .inl (cB, 1600, .inl f17))] := hD
                have hP9 := hP.sub (ws' := [(h0, .inr (4, [.ref h1, .ref h2, .ref h3, .ref h4, .ref h5, .ref h6, .int x7, .ref h8, .ref h9, .int x_4, .int x11, .int 2, .long y13, .int x_3, .int x15, .int x16])), (h6, .inl (cB, 1600, .inl f17))]) [0, 1] rfl
                have hD9 := hD.sub (ws' := [(h0, .inr (4, [.ref h1, .ref h2, .ref h3, .ref h4, .ref h5, .ref h6, .int x7, .ref h8, .ref h9, .int x_4, .int x11, .int 2, .long y13, .int x_3, .int x15, .int x16])), (h6, .inl (cB, 1600, .inl f17))]) [0, 1] (by decide) rfl
                exact xr_v (rm := (rmL 1 0 0)) hx hb hr hlocks hAe hS hP9 hD9 (Nat.le_of_ble_eq_true rfl) (Nat.le_of_ble_eq_true rfl) dX4_stepOverNumber_152 ⟨x_4, 2, x_3, by have zc2 : (2 : Int32).toInt = 2 := (by decide); omega, by have zc2 : (2 : Int32).toInt = 2 := (by decide); omega, rfl, rfl⟩
            · have fc_30 : (97 : Int) ≤ v_29.toInt := i_nlt rfl (by decide) c_30
              refine lv_aload_n hx hb dX4_stepOverNumber_106 rfl (lv_at hl 0 rfl) ?_
              refine va_get (D := D) (ci := 4) (v := .ref h6) (C := RX4) (T := TX4) (N := 16) hx hb hts inX4 hown hG.1 hP 0 rfl rfl 5 (by decide) (hts _ kw365) (fun _ h9 => h9) rfl dX4_stepOverNumber_107 ?_
              refine lv_aload_n hx hb dX4_stepOverNumber_110 rfl (lv_at hl 0 rfl) ?_
              refine va_get (D := D) (ci := 4) (v := .int x_4) (C := RX4) (T := TX4) (N := 16) hx hb hts inX4 hown hG.1 hP 0 rfl rfl 9 (by decide) (hts _ kw369) (fun _ h9 => h9) rfl dX4_stepOverNumber_111 ?_
              refine xa_bldU hx hb hG hP 1 rfl (vp_in_iff.mpr ⟨by omega, by omega⟩) dX4_stepOverNumber_114 (fun v_33 => ?_)
              refine lv_bipush (v := 122) hx hb dX4_stepOverNumber_115 (by decide +kernel) ?_
              refine lv_icmp_gt (tgt := 124) hx hb dX4_stepOverNumber_117 (by decide) (fun c_34 => ?_) (fun c_34 => ?_)
              · have fc_34 : (122 : Int) < v_33.toInt := i_lt (by decide) rfl c_34
                refine lv_iconst (v := 0) hx hb dX4_stepOverNumber_124 (by decide +kernel) ?_
                refine lv_istore_n (lv' := [(1, .int 0), (0, .ref h0)]) hx hb dX4_stepOverNumber_125 rfl hl (by decide) rfl (fun ls hl => ?_)
                refine lv_aload_n hx hb dX4_stepOverNumber_126 rfl (lv_at hl 1 rfl) ?_
                refine lv_aload_n hx hb dX4_stepOverNumber_127 rfl (lv_at hl 1 rfl) ?_
                refine va_get (D := D) (ci := 4) (v := .int x_4) (C := RX4) (T := TX4) (N := 16) hx hb hts inX4 hown hG.1 hP 0 rfl rfl 9 (by decide) (hts _ kw369) (fun _ h9 => h9) rfl dX4_stepOverNumber_128 ?_
                refine lv_aload_n hx hb dX4_stepOverNumber_131 rfl (lv_at hl 1 rfl) ?_
                refine va_get (D := D) (ci := 4) (v := .int x11) (C := RX4) (T := TX4) (N := 16) hx hb hts inX4 hown hG.1 hP 0 rfl rfl 10 (by decide) (hts _ kw370) (fun _ h9 => h9) rfl dX4_stepOverNumber_132 ?_
                refine lv_isub hx hb dX4_stepOverNumber_135 ?_
                refine lv_topi (fun v_35 ev_35 => ?_)
                have gv_35 : v_35.toInt = x_4.toInt - x11.toInt := by
                  have zx : (x_4 : Int32).toInt = x_4.toInt := rfl
                  have zy : (x11 : Int32).toInt = x11.toInt := rfl
                  rw [ev_35, i32_sub (by rw [zx, zy]; omega) (by rw [zx, zy]; omega), zx, zy]
                refine lv_iconst (v := 4) hx hb dX4_stepOverNumber_136 (by decide +kernel) ?_
                refine lv_icmp_gt (tgt := 144) hx hb dX4_stepOverNumber_137 (by decide) (fun c_36 => ?_) (fun c_36 => ?_)
                · have fc_36 : (4 : Int) < v_35.toInt := i_lt (by decide) rfl c_36
                  refine lv_iconst (v := 1) hx hb dX4_stepOverNumber_144 (by decide +kernel) ?_
                  refine lv_goto (tgt := 149) hx hb dX4_stepOverNumber_145 (by decide) ?_
                  refine va_put (D := D) (ci := 4) (v := .int 1) (ty := .int) (C := RX4) (T := TX4) (N := 16) hx hb hts inX4 tyX4 tyX4_ok nmX4 hown hG.1 hP hD hS 0 rfl rfl 11 (by decide) (hts _ kw371) (fun _ h9 => h9) rfl (by decide +kernel) rfl rfl (Nat.le_of_ble_eq_true rfl) dX4_stepOverNumber_149 (fun H locs hP hD hS => ?_)
                  have hP : va_P D vwCl [(h0, .inr (4, [.ref h1, .ref h2, .ref h3, .ref h4, .ref h5, .ref h6, .int x7, .ref h8, .ref h9, .int x_4, .int x11, .int 1, .long y13, .int x_3, .int x15, .int x16])), (h6, .inl (cB, 1600, .inl f17))] H := hP
                  have hD : va_D A [(h0, .inr (4, [.ref h1, .ref h2, .ref h3, .ref h4, .ref h5, .ref h6, .int x7, .ref h8, .ref h9, .int x_4, .int x11, .int 1, .long y13, .int x_3, .int x15, .int x16])), (h6, .inl (cB, 1600, .inl f17))] := hD
                  have hP9 := hP.sub (ws' := [(h0, .inr (4, [.ref h1, .ref h2, .ref h3, .ref h4, .ref h5, .ref h6, .int x7, .ref h8, .ref h9, .int x_4, .int x11, .int 1, .long y13, .int x_3, .int x15, .int x16])), (h6, .inl (cB, 1600, .inl f17))]) [0, 1] rfl
                  have hD9 := hD.sub (ws' := [(h0, .inr (4, [.ref h1, .ref h2, .ref h3, .ref h4, .ref h5, .ref h6, .int x7, .ref h8, .ref h9, .int x_4, .int x11, .int 1, .long y13, .int x_3, .int x15, .int x16])), (h6, .inl (cB, 1600, .inl f17))]) [0, 1] (by decide) rfl
                  exact xr_v (rm := (rmL 1 0 0)) hx hb hr hlocks hAe hS hP9 hD9 (Nat.le_of_ble_eq_true rfl) (Nat.le_of_ble_eq_true rfl) dX4_stepOverNumber_152 ⟨x_4, 1, x_3, by have zc1 : (1 : Int32).toInt = 1 := (by decide); omega, by have zc1 : (1 : Int32).toInt = 1 := (by decide); omega, rfl, rfl⟩
                · have fc_36 : v_35.toInt ≤ (4 : Int) := i_nlt (by decide) rfl c_36
                  refine lv_iload_n hx hb dX4_stepOverNumber_140 rfl (lv_at hl 0 rfl) ?_
                  refine lv_if_eq (tgt := 148) hx hb dX4_stepOverNumber_141 (by decide) (fun _ => ?_) (fun h => absurd h (by decide +kernel))
                  refine lv_iconst (v := 2) hx hb dX4_stepOverNumber_148 (by decide +kernel) ?_
                  refine va_put (D := D) (ci := 4) (v := .int 2) (ty := .int) (C := RX4) (T := TX4) (N := 16) hx hb hts inX4 tyX4 tyX4_ok nmX4 hown hG.1 hP hD hS 0 rfl rfl 11 (by decide) (hts _ kw371) (fun _ h9 => h9) rfl (by decide +kernel) rfl rfl (Nat.le_of_ble_eq_true rfl) dX4_stepOverNumber_149 (fun H locs hP hD hS => ?_)
                  have hP : va_P D vwCl [(h0, .inr (4, [.ref h1, .ref h2, .ref h3, .ref h4, .ref h5, .ref h6, .int x7, .ref h8, .ref h9, .int x_4, .int x11, .int 2, .long y13, .int x_3, .int x15, .int x16])), (h6, .inl (cB, 1600, .inl f17))] H := hP
                  have hD : va_D A [(h0, .inr (4, [.ref h1, .ref h2, .ref h3, .ref h4, .ref h5, .ref h6, .int x7, .ref h8, .ref h9, .int x_4, .int x11, .int 2, .long y13, .int x_3, .int x15, .int x16])), (h6, .inl (cB, 1600, .inl f17))] := hD
                  have hP9 := hP.sub (ws' := [(h0, .inr (4, [.ref h1, .ref h2, .ref h3, .ref h4, .ref h5, .ref h6, .int x7, .ref h8, .ref h9, .int x_4, .int x11, .int 2, .long y13, .int x_3, .int x15, .int x16])), (h6, .inl (cB, 1600, .inl f17))]) [0, 1] rfl
                  have hD9 := hD.sub (ws' := [(h0, .inr (4, [.ref h1, .ref h2, .ref h3, .ref h4, .ref h5, .ref h6, .int x7, .ref h8, .ref h9, .int x_4, .int x11, .int 2, .long y13, .int x_3, .int x15, .int x16])), (h6, .inl (cB, 1600, .inl f17))]) [0, 1] (by decide) rfl
                  exact xr_v (rm := (rmL 1 0 0)) hx hb hr hlocks hAe hS hP9 hD9 (Nat.le_of_ble_eq_true rfl) (Nat.le_of_ble_eq_true rfl) dX4_stepOverNumber_152 ⟨x_4, 2, x_3, by have zc2 : (2 : Int32).toInt = 2 := (by decide); omega, by have zc2 : (2 : Int32).toInt = 2 := (by decide); omega, rfl, rfl⟩
              · have fc_34 : v_33.toInt ≤ (122 : Int) := i_nlt (by decide) rfl c_34
                refine lv_iconst (v := 1) hx hb dX4_stepOverNumber_120 (by decide +kernel) ?_
                refine lv_goto (tgt := 125) hx hb dX4_stepOverNumber_121 (by decide) ?_
                refine lv_istore_n (lv' := [(1, .int 1), (0, .ref h0)]) hx hb dX4_stepOverNumber_125 rfl hl (by decide) rfl (fun ls hl => ?_)
                refine lv_aload_n hx hb dX4_stepOverNumber_126 rfl (lv_at hl 1 rfl) ?_
                refine lv_aload_n hx hb dX4_stepOverNumber_127 rfl (lv_at hl 1 rfl) ?_
                refine va_get (D := D) (ci := 4) (v := .int x_4) (C := RX4) (T := TX4) (N := 16) hx hb hts inX4 hown hG.1 hP 0 rfl rfl 9 (by decide) (hts _ kw369) (fun _ h9 => h9) rfl dX4_stepOverNumber_128 ?_
                refine lv_aload_n hx hb dX4_stepOverNumber_131 rfl (lv_at hl 1 rfl) ?_
                refine va_get (D := D) (ci := 4) (v := .int x11) (C := RX4) (T := TX4) (N := 16) hx hb hts inX4 hown hG.1 hP 0 rfl rfl 10 (by decide) (hts _ kw370) (fun _ h9 => h9) rfl dX4_stepOverNumber_132 ?_
                refine lv_isub hx hb dX4_stepOverNumber_135 ?_
                refine lv_topi (fun v_37 ev_37 => ?_)
                have gv_37 : v_37.toInt = x_4.toInt - x11.toInt := by
                  have zx : (x_4 : Int32).toInt = x_4.toInt := rfl
                  have zy : (x11 : Int32).toInt = x11.toInt := rfl
                  rw [ev_37, i32_sub (by rw [zx, zy]; omega) (by rw [zx, zy]; omega), zx, zy]
                refine lv_iconst (v := 4) hx hb dX4_stepOverNumber_136 (by decide +kernel) ?_
                refine lv_icmp_gt (tgt := 144) hx hb dX4_stepOverNumber_137 (by decide) (fun c_38 => ?_) (fun c_38 => ?_)
                · have fc_38 : (4 : Int) < v_37.toInt := i_lt (by decide) rfl c_38
                  refine lv_iconst (v := 1) hx hb dX4_stepOverNumber_144 (by decide +kernel) ?_
                  refine lv_goto (tgt := 149) hx hb dX4_stepOverNumber_145 (by decide) ?_
                  refine va_put (D := D) (ci := 4) (v := .int 1) (ty := .int) (C := RX4) (T := TX4) (N := 16) hx hb hts inX4 tyX4 tyX4_ok nmX4 hown hG.1 hP hD hS 0 rfl rfl 11 (by decide) (hts _ kw371) (fun _ h9 => h9) rfl (by decide +kernel) rfl rfl (Nat.le_of_ble_eq_true rfl) dX4_stepOverNumber_149 (fun H locs hP hD hS => ?_)
                  have hP : va_P D vwCl [(h0, .inr (4, [.ref h1, .ref h2, .ref h3, .ref h4, .ref h5, .ref h6, .int x7, .ref h8, .ref h9, .int x_4, .int x11, .int 1, .long y13, .int x_3, .int x15, .int x16])), (h6, .inl (cB, 1600, .inl f17))] H := hP
                  have hD : va_D A [(h0, .inr (4, [.ref h1, .ref h2, .ref h3, .ref h4, .ref h5, .ref h6, .int x7, .ref h8, .ref h9, .int x_4, .int x11, .int 1, .long y13, .int x_3, .int x15, .int x16])), (h6, .inl (cB, 1600, .inl f17))] := hD
                  have hP9 := hP.sub (ws' := [(h0, .inr (4, [.ref h1, .ref h2, .ref h3, .ref h4, .ref h5, .ref h6, .int x7, .ref h8, .ref h9, .int x_4, .int x11, .int 1, .long y13, .int x_3, .int x15, .int x16])), (h6, .inl (cB, 1600, .inl f17))]) [0, 1] rfl
                  have hD9 := hD.sub (ws' := [(h0, .inr (4, [.ref h1, .ref h2, .ref h3, .ref h4, .ref h5, .ref h6, .int x7, .ref h8, .ref h9, .int x_4, .int x11, .int 1, .long y13, .int x_3, .int x15, .int x16])), (h6, .inl (cB, 1600, .inl f17))]) [0, 1] (by decide) rfl
                  exact xr_v (rm := (rmL 1 0 0)) hx hb hr hlocks hAe hS hP9 hD9 (Nat.le_of_ble_eq_true rfl) (Nat.le_of_ble_eq_true rfl) dX4_stepOverNumber_152 ⟨x_4, 1, x_3, by have zc1 : (1 : Int32).toInt = 1 := (by decide); omega, by have zc1 : (1 : Int32).toInt = 1 := (by decide); omega, rfl, rfl⟩
                · have fc_38 : v_37.toInt ≤ (4 : Int) := i_nlt (by decide) rfl c_38
                  refine lv_iload_n hx hb dX4_stepOverNumber_140 rfl (lv_at hl 0 rfl) ?_
                  refine lv_if_eq (tgt := 148) hx hb dX4_stepOverNumber_141 (by decide) (fun h => absurd h (by decide +kernel)) (fun _ => ?_)
                  refine lv_iconst (v := 1) hx hb dX4_stepOverNumber_144 (by decide +kernel) ?_
                  refine lv_goto (tgt := 149) hx hb dX4_stepOverNumber_145 (by decide) ?_
                  refine va_put (D := D) (ci := 4) (v := .int 1) (ty := .int) (C := RX4) (T := TX4) (N := 16) hx hb hts inX4 tyX4 tyX4_ok nmX4 hown hG.1 hP hD hS 0 rfl rfl 11 (by decide) (hts _ kw371) (fun _ h9 => h9) rfl (by decide +kernel) rfl rfl (Nat.le_of_ble_eq_true rfl) dX4_stepOverNumber_149 (fun H locs hP hD hS => ?_)
                  have hP : va_P D vwCl [(h0, .inr (4, [.ref h1, .ref h2, .ref h3, .ref h4, .ref h5, .ref h6, .int x7, .ref h8, .ref h9, .int x_4, .int x11, .int 1, .long y13, .int x_3, .int x15, .int x16])), (h6, .inl (cB, 1600, .inl f17))] H := hP
                  have hD : va_D A [(h0, .inr (4, [.ref h1, .ref h2, .ref h3, .ref h4, .ref h5, .ref h6, .int x7, .ref h8, .ref h9, .int x_4, .int x11, .int 1, .long y13, .int x_3, .int x15, .int x16])), (h6, .inl (cB, 1600, .inl f17))] := hD
                  have hP9 := hP.sub (ws' := [(h0, .inr (4, [.ref h1, .ref h2, .ref h3, .ref h4, .ref h5, .ref h6, .int x7, .ref h8, .ref h9, .int x_4, .int x11, .int 1, .long y13, .int x_3, .int x15, .int x16])), (h6, .inl (cB, 1600, .inl f17))]) [0, 1] rfl
                  have hD9 := hD.sub (ws' := [(h0, .inr (4, [.ref h1, .ref h2, .ref h3, .ref h4, .ref h5, .ref h6, .int x7, .ref h8, .ref h9, .int x_4, .int x11, .int 1, .long y13, .int x_3, .int x15, .int x16])), (h6, .inl (cB, 1600, .inl f17))]) [0, 1] (by decide) rfl
                  exact xr_v (rm := (rmL 1 0 0)) hx hb hr hlocks hAe hS hP9 hD9 (Nat.le_of_ble_eq_true rfl) (Nat.le_of_ble_eq_true rfl) dX4_stepOverNumber_152 ⟨x_4, 1, x_3, by have zc1 : (1 : Int32).toInt = 1 := (by decide); omega, by have zc1 : (1 : Int32).toInt = 1 := (by decide); omega, rfl, rfl⟩
          · have fc_27 : v_26.toInt ≤ (57 : Int) := i_nlt (by decide) rfl c_27
            refine lv_aload_n hx hb dX4_stepOverNumber_44 rfl (lv_at hl 0 rfl) ?_
            refine lv_aload_n hx hb dX4_stepOverNumber_45 rfl (lv_at hl 0 rfl) ?_
            refine va_get (D := D) (ci := 4) (v := .int x_3) (C := RX4) (T := TX4) (N := 16) hx hb hts inX4 hown hG.1 hP 0 rfl rfl 13 (by decide) (hts _ kw373) (fun _ h9 => h9) rfl dX4_stepOverNumber_46 ?_
            refine lv_bipush (v := 10) hx hb dX4_stepOverNumber_49 (by decide +kernel) ?_
            refine lv_imul hx hb dX4_stepOverNumber_51 ?_
            refine xt_any (fun v_39 => ?_)
            refine lv_aload_n hx hb dX4_stepOverNumber_52 rfl (lv_at hl 0 rfl) ?_
            refine va_get (D := D) (ci := 4) (v := .ref h6) (C := RX4) (T := TX4) (N := 16) hx hb hts inX4 hown hG.1 hP 0 rfl rfl 5 (by decide) (hts _ kw365) (fun _ h9 => h9) rfl dX4_stepOverNumber_53 ?_
            refine lv_aload_n hx hb dX4_stepOverNumber_56 rfl (lv_at hl 0 rfl) ?_
            refine va_get (D := D) (ci := 4) (v := .int x_4) (C := RX4) (T := TX4) (N := 16) hx hb hts inX4 hown hG.1 hP 0 rfl rfl 9 (by decide) (hts _ kw369) (fun _ h9 => h9) rfl dX4_stepOverNumber_57 ?_
            refine xa_bldU hx hb hG hP 1 rfl (vp_in_iff.mpr ⟨by omega, by omega⟩) dX4_stepOverNumber_60 (fun v_40 => ?_)
            refine lv_iadd hx hb dX4_stepOverNumber_61 ?_
            refine xt_any (fun v_41 => ?_)
            refine lv_bipush (v := 48) hx hb dX4_stepOverNumber_62 (by decide +kernel) ?_
            refine lv_isub hx hb dX4_stepOverNumber_64 ?_
            refine xt_any (fun v_42 => ?_)
            refine va_put (D := D) (ci := 4) (v := .int v_42) (ty := .int) (C := RX4) (T := TX4) (N := 16) hx hb hts inX4 tyX4 tyX4_ok nmX4 hown hG.1 hP hD hS 0 rfl rfl 13 (by decide) (hts _ kw373) (fun _ h9 => h9) rfl (by decide +kernel) rfl rfl (Nat.le_of_ble_eq_true rfl) dX4_stepOverNumber_65 (fun H locs hP hD hS => ?_)
            have hP : va_P D vwCl [(h0, .inr (4, [.ref h1, .ref h2, .ref h3, .ref h4, .ref h5, .ref h6, .int x7, .ref h8, .ref h9, .int x_4, .int x11, .int x12, .long y13, .int v_42, .int x15, .int x16])), (h6, .inl (cB, 1600, .inl f17))] H := hP
            have hD : va_D A [(h0, .inr (4, [.ref h1, .ref h2, .ref h3, .ref h4, .ref h5, .ref h6, .int x7, .ref h8, .ref h9, .int x_4, .int x11, .int x12, .long y13, .int v_42, .int x15, .int x16])), (h6, .inl (cB, 1600, .inl f17))] := hD
            refine lv_aload_n hx hb dX4_stepOverNumber_68 rfl (lv_at hl 0 rfl) ?_
            refine lv_dup hx hb dX4_stepOverNumber_69 rfl ?_
            refine va_get (D := D) (ci := 4) (v := .int x_4) (C := RX4) (T := TX4) (N := 16) hx hb hts inX4 hown hG.1 hP 0 rfl rfl 9 (by decide) (hts _ kw369) (fun _ h9 => h9) rfl dX4_stepOverNumber_70 ?_
            refine lv_iconst (v := 1) hx hb dX4_stepOverNumber_73 (by decide +kernel) ?_
            refine lv_iadd hx hb dX4_stepOverNumber_74 ?_
            refine lv_topi (fun v_43 ev_43 => ?_)
            have gv_43 : v_43.toInt = x_4.toInt + (1 : Int) := by
              have zx : (x_4 : Int32).toInt = x_4.toInt := rfl
              have zy : (1 : Int32).toInt = (1 : Int) := (by decide)
              rw [ev_43, i32_add (by rw [zx, zy]; omega) (by rw [zx, zy]; omega), zx, zy]
            refine va_put (D := D) (ci := 4) (v := .int v_43) (ty := .int) (C := RX4) (T := TX4) (N := 16) hx hb hts inX4 tyX4 tyX4_ok nmX4 hown hG.1 hP hD hS 0 rfl rfl 9 (by decide) (hts _ kw369) (fun _ h9 => h9) rfl (by decide +kernel) rfl rfl (Nat.le_of_ble_eq_true rfl) dX4_stepOverNumber_75 (fun H locs hP hD hS => ?_)
            have hP : va_P D vwCl [(h0, .inr (4, [.ref h1, .ref h2, .ref h3, .ref h4, .ref h5, .ref h6, .int x7, .ref h8, .ref h9, .int v_43, .int x11, .int x12, .long y13, .int v_42, .int x15, .int x16])), (h6, .inl (cB, 1600, .inl f17))] H := hP
            have hD : va_D A [(h0, .inr (4, [.ref h1, .ref h2, .ref h3, .ref h4, .ref h5, .ref h6, .int x7, .ref h8, .ref h9, .int v_43, .int x11, .int x12, .long y13, .int v_42, .int x15, .int x16])), (h6, .inl (cB, 1600, .inl f17))] := hD
            refine lv_goto (tgt := 5) hx hb dX4_stepOverNumber_78 (by decide) ?_
            exact ihlp_5  v_42 v_43 _ _ _ (by omega) (by omega) (by omega) (hP.sub (ws' := [(h0, .inr (4, [.ref h1, .ref h2, .ref h3, .ref h4, .ref h5, .ref h6, .int x7, .ref h8, .ref h9, .int v_43, .int x11, .int x12, .long y13, .int v_42, .int x15, .int x16])), (h6, .inl (cB, 1600, .inl f17))]) [0, 1] rfl) (hD.sub (ws' := [(h0, .inr (4, [.ref h1, .ref h2, .ref h3, .ref h4, .ref h5, .ref h6, .int x7, .ref h8, .ref h9, .int v_43, .int x11, .int x12, .long y13, .int v_42, .int x15, .int x16])), (h6, .inl (cB, 1600, .inl f17))]) [0, 1] (by decide) rfl) hS (lv_sub hl [0] rfl)
  exact lp_5 1602 0 x10 _ _ _ (by have zc0 : (0 : Int32).toInt = 0 := (by decide); omega) (by have zc0 : (0 : Int32).toInt = 0 := (by decide); omega) (by have zc0 : (0 : Int32).toInt = 0 := (by decide); omega) (hP.sub (ws' := [(h0, .inr (4, [.ref h1, .ref h2, .ref h3, .ref h4, .ref h5, .ref h6, .int x7, .ref h8, .ref h9, .int x10, .int x11, .int x12, .long y13, .int 0, .int x15, .int x16])), (h6, .inl (cB, 1600, .inl f17))]) [0, 1] rfl) (hD.sub (ws' := [(h0, .inr (4, [.ref h1, .ref h2, .ref h3, .ref h4, .ref h5, .ref h6, .int x7, .ref h8, .ref h9, .int x10, .int x11, .int x12, .long y13, .int 0, .int x15, .int x16])), (h6, .inl (cB, 1600, .inl f17))]) [0, 1] (by decide) rfl) hS (lv_sub hl [0] rfl)
theorem kw315 : (.fieldLink RJ0 38 "java/lang/String" "COMPACT_STRINGS" "Z" : Cond) ∈ gT := gT_of 315 (by decide +kernel) (by decide +kernel)
theorem dJ0_isLatin1_aae02_0 : decode cJ0_isLatin1_aae02 0 = .ok (.getstatic 38, 3) := by decide +kernel
theorem dJ0_isLatin1_aae02_3 : decode cJ0_isLatin1_aae02 3 = .ok (.ifCond .eq 14, 3) := by decide +kernel
theorem dJ0_isLatin1_aae02_6 : decode cJ0_isLatin1_aae02 6 = .ok (.aload_n 0, 1) := by decide +kernel
theorem kw2019 : (.fieldLink RJ0 15 "java/lang/String" "coder" "B" : Cond) ∈ gT := gT_of 2019 (by decide +kernel) (by decide +kernel)
theorem dJ0_isLatin1_aae02_7 : decode cJ0_isLatin1_aae02 7 = .ok (.getfield 15, 3) := by decide +kernel
theorem dJ0_isLatin1_aae02_10 : decode cJ0_isLatin1_aae02 10 = .ok (.ifCond .ne 7, 3) := by decide +kernel
theorem dJ0_isLatin1_aae02_13 : decode cJ0_isLatin1_aae02 13 = .ok (.iconst 1, 1) := by decide +kernel
theorem dJ0_isLatin1_aae02_14 : decode cJ0_isLatin1_aae02 14 = .ok (.goto 4, 3) := by decide +kernel
theorem dJ0_isLatin1_aae02_18 : decode cJ0_isLatin1_aae02 18 = .ok (.ireturn, 1) := by decide +kernel
set_option maxHeartbeats 4000000 in
set_option maxRecDepth 100000 in
theorem sJ0_isLatin1_aae02_1 (l : Launch) (D : va_G) (cB cI cJ cZ : ClassId) (aK aV : Nat → Nat) : MX l yJ0_isLatin1_aae02 cJ0_isLatin1_aae02 1 (some .boolean) (rmL 1 0 0) D cB cI cJ cZ aK aV [.ref (aK 1)] [] (fun r w1 => r = some (.int 1) ∧ w1 = []) := by
  refine MX.intro (by decide) (Nat.le_of_ble_eq_true rfl) ?_
  intro p e s m below meth c A ls hx hb hr hml hown hlocks hnm hts hG hE hA hS hP hD hl hAe
  have hl : lv_has ls 1 [(0, .ref (aK 1))] := hl
  have hown : s.vm.findClass RJ0 = some m.cls := hown
  refine va_gets (v := .int 1) hx hb hE.2.1 hS hown (hts _ kw315) (fun _ h9 => h9) dJ0_isLatin1_aae02_0 ?_
  refine lv_if_eq (tgt := 17) hx hb dJ0_isLatin1_aae02_3 (by decide) (fun h => absurd h (by decide +kernel)) (fun _ => ?_)
  refine lv_aload_n hx hb dJ0_isLatin1_aae02_6 rfl (lv_at hl 0 rfl) ?_
  refine vk_getf (v := .int 0) hx hb (hE.1.1 1 (by decide)).2.1 hS hown (hts _ kw2019) (fun _ h9 => h9) dJ0_isLatin1_aae02_7 ?_
  refine lv_if_ne (tgt := 17) hx hb dJ0_isLatin1_aae02_10 (by decide) (fun h => absurd h (by decide +kernel)) (fun _ => ?_)
  refine lv_iconst (v := 1) hx hb dJ0_isLatin1_aae02_13 (by decide +kernel) ?_
  refine lv_goto (tgt := 18) hx hb dJ0_isLatin1_aae02_14 (by decide) ?_
  have hP9 := hP.sub (ws' := []) [] rfl
  have hD9 := hD.sub (ws' := []) [] (by decide) rfl
  exact xr_i (rm := (rmL 1 0 0)) hx hb hr hlocks hAe hS hP9 hD9 (by decide +kernel) (Nat.le_of_ble_eq_true rfl) (Nat.le_of_ble_eq_true rfl) dJ0_isLatin1_aae02_18 ⟨rfl, rfl⟩
theorem dJ0_coder_7d493_0 : decode cJ0_coder_7d493 0 = .ok (.getstatic 38, 3) := by decide +kernel
theorem dJ0_coder_7d493_3 : decode cJ0_coder_7d493 3 = .ok (.ifCond .eq 10, 3) := by decide +kernel
theorem dJ0_coder_7d493_6 : decode cJ0_coder_7d493 6 = .ok (.aload_n 0, 1) := by decide +kernel
theorem dJ0_coder_7d493_7 : decode cJ0_coder_7d493 7 = .ok (.getfield 15, 3) := by decide +kernel
theorem dJ0_coder_7d493_10 : decode cJ0_coder_7d493 10 = .ok (.goto 4, 3) := by decide +kernel
theorem dJ0_coder_7d493_14 : decode cJ0_coder_7d493 14 = .ok (.ireturn, 1) := by decide +kernel
set_option maxHeartbeats 4000000 in
set_option maxRecDepth 100000 in
theorem sJ0_coder_7d493_1 (l : Launch) (D : va_G) (cB cI cJ cZ : ClassId) (aK aV : Nat → Nat) : MX l yJ0_coder_7d493 cJ0_coder_7d493 1 (some .byte) (rmL 1 0 0) D cB cI cJ cZ aK aV [.ref (aK 1)] [] (fun r w1 => r = some (.int 0) ∧ w1 = []) := by
  refine MX.intro (by decide) (Nat.le_of_ble_eq_true rfl) ?_
  intro p e s m below meth c A ls hx hb hr hml hown hlocks hnm hts hG hE hA hS hP hD hl hAe
  have hl : lv_has ls 1 [(0, .ref (aK 1))] := hl
  have hown : s.vm.findClass RJ0 = some m.cls := hown
  refine va_gets (v := .int 1) hx hb hE.2.1 hS hown (hts _ kw315) (fun _ h9 => h9) dJ0_coder_7d493_0 ?_
  refine lv_if_eq (tgt := 13) hx hb dJ0_coder_7d493_3 (by decide) (fun h => absurd h (by decide +kernel)) (fun _ => ?_)
  refine lv_aload_n hx hb dJ0_coder_7d493_6 rfl (lv_at hl 0 rfl) ?_
  refine vk_getf (v := .int 0) hx hb (hE.1.1 1 (by decide)).2.1 hS hown (hts _ kw2019) (fun _ h9 => h9) dJ0_coder_7d493_7 ?_
  refine lv_goto (tgt := 14) hx hb dJ0_coder_7d493_10 (by decide) ?_
  have hP9 := hP.sub (ws' := []) [] rfl
  have hD9 := hD.sub (ws' := []) [] (by decide) rfl
  exact xr_i (rm := (rmL 1 0 0)) hx hb hr hlocks hAe hS hP9 hD9 (by decide +kernel) (Nat.le_of_ble_eq_true rfl) (Nat.le_of_ble_eq_true rfl) dJ0_coder_7d493_14 ⟨rfl, rfl⟩
theorem dJ0_length_8abf5_0 : decode cJ0_length_8abf5 0 = .ok (.aload_n 0, 1) := by decide +kernel
theorem kw2018 : (.fieldLink RJ0 9 "java/lang/String" "value" "[B" : Cond) ∈ gT := gT_of 2018 (by decide +kernel) (by decide +kernel)
theorem dJ0_length_8abf5_1 : decode cJ0_length_8abf5 1 = .ok (.getfield 9, 3) := by decide +kernel
theorem dJ0_length_8abf5_4 : decode cJ0_length_8abf5 4 = .ok (.arraylength, 1) := by decide +kernel
theorem dJ0_length_8abf5_5 : decode cJ0_length_8abf5 5 = .ok (.aload_n 0, 1) := by decide +kernel
theorem kw311 : (.methodLink RJ0 335 yJ0_coder_7d493 : Cond) ∈ gT := gT_of 311 (by decide +kernel) (by decide +kernel)
theorem kw314 : (.code yJ0_coder_7d493 cJ0_coder_7d493 1 (some .byte) : Cond) ∈ gT := gT_of 314 (by decide +kernel) (by decide +kernel)
theorem kw312 : (.instanceMethod yJ0_coder_7d493 : Cond) ∈ gT := gT_of 312 (by decide +kernel) (by decide +kernel)
theorem kw313 : (.selects RJ0 yJ0_coder_7d493 yJ0_coder_7d493 : Cond) ∈ gT := gT_of 313 (by decide +kernel) (by decide +kernel)
theorem kw117 : (.initialized RJ0 : Cond) ∈ gT := gT_of 117 (by decide +kernel) (by decide +kernel)
theorem dJ0_length_8abf5_6 : decode cJ0_length_8abf5 6 = .ok (.invokevirtual 335, 3) := by decide +kernel
theorem dJ0_length_8abf5_9 : decode cJ0_length_8abf5 9 = .ok (.ishr, 1) := by decide +kernel
theorem dJ0_length_8abf5_10 : decode cJ0_length_8abf5 10 = .ok (.ireturn, 1) := by decide +kernel
set_option maxHeartbeats 4000000 in
set_option maxRecDepth 100000 in
theorem sJ0_length_8abf5_1 (l : Launch) (D : va_G) (cB cI cJ cZ : ClassId) (aK aV : Nat → Nat) : MX l yJ0_length_8abf5 cJ0_length_8abf5 1 (some .int) (rmL 2 0 0) D cB cI cJ cZ aK aV [.ref (aK 1)] [] (fun r w1 => r = some (.int 11) ∧ w1 = []) := by
  refine MX.intro (by decide) (Nat.le_of_ble_eq_true rfl) ?_
  intro p e s m below meth c A ls hx hb hr hml hown hlocks hnm hts hG hE hA hS hP hD hl hAe
  have hl : lv_has ls 1 [(0, .ref (aK 1))] := hl
  have hown : s.vm.findClass RJ0 = some m.cls := hown
  refine lv_aload_n hx hb dJ0_length_8abf5_0 rfl (lv_at hl 0 rfl) ?_
  refine vk_getf (v := .ref (aV 1)) hx hb (hE.1.1 1 (by decide)).2.2.1 hS hown (hts _ kw2018) (fun _ h9 => h9) dJ0_length_8abf5_1 ?_
  refine va_tlen (v := 11) hx hb (hE.1.1 1 (by decide)).2.2.2 hS rfl dJ0_length_8abf5_4 ?_
  refine lv_aload_n hx hb dJ0_length_8abf5_5 rfl (lv_at hl 0 rfl) ?_
  refine xc_core (wr := []) (k := 0) (n := 0) (xc_runVK (As := []) (rest := [.int 11]) hx hb hml hown hts hG hE hP hD hS hA [] (by decide) rfl (sJ0_coder_7d493_1 l D cB cI cJ cZ aK aV) kw314 kw311 kw312 kw313 kw117 (show XD yJ0_coder_7d493 0 from by decide +kernel) (by decide) (vk_recv hE.1 (i := 1) (by decide) hS) hl.1 rfl (Nat.le_of_ble_eq_true rfl) dJ0_length_8abf5_6 (by decide)) hP hD hS hA [] [] rfl rfl (by decide) (by decide) (Nat.le_of_ble_eq_true rfl) (Nat.le_of_ble_eq_true rfl) (fun r w1 H locs hpost hP hD hS => ?_)
  obtain ⟨rfl, rfl⟩ := hpost
  have hP : va_P D vwCl [] H := hP
  have hD : va_D A [] := hD
  refine lv_ishr hx hb dJ0_length_8abf5_9 ?_
  refine xt_i (v := 11) (by decide +kernel) ?_
  have hP9 := hP.sub (ws' := []) [] rfl
  have hD9 := hD.sub (ws' := []) [] (by decide) rfl
  exact xr_i (rm := (rmL 2 0 0)) hx hb hr hlocks hAe hS hP9 hD9 rfl (Nat.le_of_ble_eq_true rfl) (Nat.le_of_ble_eq_true rfl) dJ0_length_8abf5_10 ⟨rfl, rfl⟩
theorem dJ1_canEncode_9a6ad_0 : decode cJ1_canEncode_9a6ad 0 = .ok (.iload_n 0, 1) := by decide +kernel
theorem dJ1_canEncode_9a6ad_1 : decode cJ1_canEncode_9a6ad 1 = .ok (.ifCond .lt 14, 3) := by decide +kernel
theorem dJ1_canEncode_9a6ad_15 : decode cJ1_canEncode_9a6ad 15 = .ok (.iconst 0, 1) := by decide +kernel
theorem dJ1_canEncode_9a6ad_16 : decode cJ1_canEncode_9a6ad 16 = .ok (.ireturn, 1) := by decide +kernel
theorem dJ1_canEncode_9a6ad_4 : decode cJ1_canEncode_9a6ad 4 = .ok (.iload_n 0, 1) := by decide +kernel
theorem dJ1_canEncode_9a6ad_5 : decode cJ1_canEncode_9a6ad 5 = .ok (.sipush 255, 3) := by decide +kernel
theorem dJ1_canEncode_9a6ad_8 : decode cJ1_canEncode_9a6ad 8 = .ok (.if_icmp .gt 7, 3) := by decide +kernel
theorem dJ1_canEncode_9a6ad_11 : decode cJ1_canEncode_9a6ad 11 = .ok (.iconst 1, 1) := by decide +kernel
theorem dJ1_canEncode_9a6ad_12 : decode cJ1_canEncode_9a6ad 12 = .ok (.goto 4, 3) := by decide +kernel
set_option maxHeartbeats 4000000 in
set_option maxRecDepth 100000 in
theorem sJ1_canEncode_9a6ad_1 (l : Launch) (D : va_G) (cB cI cJ cZ : ClassId) (aK aV : Nat → Nat) (x0 : Int32) : MX l yJ1_canEncode_9a6ad cJ1_canEncode_9a6ad 1 (some .boolean) (rmL 1 0 0) D cB cI cJ cZ aK aV [.int x0] [] (fun r w1 => ∃ z1 : Int32, 0 ≤ z1.toInt ∧ 0 ≤ -z1.toInt + 1 ∧ r = some (.int z1) ∧ w1 = []) := by
  refine MX.intro (by decide) (Nat.le_of_ble_eq_true rfl) ?_
  intro p e s m below meth c A ls hx hb hr hml hown hlocks hnm hts hG hE hA hS hP hD hl hAe
  have hl : lv_has ls 1 [(0, .int x0)] := hl
  have hown : s.vm.findClass RJ1 = some m.cls := hown
  refine lv_iload_n hx hb dJ1_canEncode_9a6ad_0 rfl (lv_at hl 0 rfl) ?_
  refine lv_if_lt (tgt := 15) hx hb dJ1_canEncode_9a6ad_1 (by decide) (fun c_1 => ?_) (fun c_1 => ?_)
  · have fc_1 : x0.toInt < (0 : Int) := i_lt rfl (by decide) c_1
    refine lv_iconst (v := 0) hx hb dJ1_canEncode_9a6ad_15 (by decide +kernel) ?_
    have hP9 := hP.sub (ws' := []) [] rfl
    have hD9 := hD.sub (ws' := []) [] (by decide) rfl
    exact xr_i (rm := (rmL 1 0 0)) hx hb hr hlocks hAe hS hP9 hD9 (by decide +kernel) (Nat.le_of_ble_eq_true rfl) (Nat.le_of_ble_eq_true rfl) dJ1_canEncode_9a6ad_16 ⟨0, by have zc0 : (0 : Int32).toInt = 0 := (by decide); omega, by have zc0 : (0 : Int32).toInt = 0 := (by decide); omega, rfl, rfl⟩
  · have fc_1 : (0 : Int) ≤ x0.toInt := i_nlt rfl (by decide) c_1
    refine lv_iload_n hx hb dJ1_canEncode_9a6ad_4 rfl (lv_at hl 0 rfl) ?_
    refine lv_sipush (v := 255) hx hb dJ1_canEncode_9a6ad_5 (by decide +kernel) ?_
    refine lv_icmp_gt (tgt := 15) hx hb dJ1_canEncode_9a6ad_8 (by decide) (fun c_2 => ?_) (fun c_2 => ?_)
    · have fc_2 : (255 : Int) < x0.toInt := i_lt (by decide) rfl c_2
      refine lv_iconst (v := 0) hx hb dJ1_canEncode_9a6ad_15 (by decide +kernel) ?_
      have hP9 := hP.sub (ws' := []) [] rfl
      have hD9 := hD.sub (ws' := []) [] (by decide) rfl
      exact xr_i (rm := (rmL 1 0 0)) hx hb hr hlocks hAe hS hP9 hD9 (by decide +kernel) (Nat.le_of_ble_eq_true rfl) (Nat.le_of_ble_eq_true rfl) dJ1_canEncode_9a6ad_16 ⟨0, by have zc0 : (0 : Int32).toInt = 0 := (by decide); omega, by have zc0 : (0 : Int32).toInt = 0 := (by decide); omega, rfl, rfl⟩
    · have fc_2 : x0.toInt ≤ (255 : Int) := i_nlt (by decide) rfl c_2
      refine lv_iconst (v := 1) hx hb dJ1_canEncode_9a6ad_11 (by decide +kernel) ?_
      refine lv_goto (tgt := 16) hx hb dJ1_canEncode_9a6ad_12 (by decide) ?_
      have hP9 := hP.sub (ws' := []) [] rfl
      have hD9 := hD.sub (ws' := []) [] (by decide) rfl
      exact xr_i (rm := (rmL 1 0 0)) hx hb hr hlocks hAe hS hP9 hD9 (by decide +kernel) (Nat.le_of_ble_eq_true rfl) (Nat.le_of_ble_eq_true rfl) dJ1_canEncode_9a6ad_16 ⟨1, by have zc1 : (1 : Int32).toInt = 1 := (by decide); omega, by have zc1 : (1 : Int32).toInt = 1 := (by decide); omega, rfl, rfl⟩
theorem dJ1_indexOfChar_4cfef_0 : decode cJ1_indexOfChar_4cfef 0 = .ok (.iload_n 1, 1) := by decide +kernel
theorem dJ1_indexOfChar_4cfef_1 : decode cJ1_indexOfChar_4cfef 1 = .ok (.i2b, 1) := by decide +kernel
theorem dJ1_indexOfChar_4cfef_2 : decode cJ1_indexOfChar_4cfef 2 = .ok (.istore 4, 2) := by decide +kernel
theorem dJ1_indexOfChar_4cfef_4 : decode cJ1_indexOfChar_4cfef 4 = .ok (.iload_n 2, 1) := by decide +kernel
theorem dJ1_indexOfChar_4cfef_5 : decode cJ1_indexOfChar_4cfef 5 = .ok (.istore 5, 2) := by decide +kernel
theorem dJ1_indexOfChar_4cfef_7 : decode cJ1_indexOfChar_4cfef 7 = .ok (.iload 5, 2) := by decide +kernel
theorem dJ1_indexOfChar_4cfef_9 : decode cJ1_indexOfChar_4cfef 9 = .ok (.iload_n 3, 1) := by decide +kernel
theorem dJ1_indexOfChar_4cfef_10 : decode cJ1_indexOfChar_4cfef 10 = .ok (.if_icmp .ge 21, 3) := by decide +kernel
theorem dJ1_indexOfChar_4cfef_31 : decode cJ1_indexOfChar_4cfef 31 = .ok (.iconst (-1), 1) := by decide +kernel
theorem dJ1_indexOfChar_4cfef_32 : decode cJ1_indexOfChar_4cfef 32 = .ok (.ireturn, 1) := by decide +kernel
theorem dJ1_indexOfChar_4cfef_13 : decode cJ1_indexOfChar_4cfef 13 = .ok (.aload_n 0, 1) := by decide +kernel
theorem dJ1_indexOfChar_4cfef_14 : decode cJ1_indexOfChar_4cfef 14 = .ok (.iload 5, 2) := by decide +kernel
theorem dJ1_indexOfChar_4cfef_16 : decode cJ1_indexOfChar_4cfef 16 = .ok (.baload, 1) := by decide +kernel
theorem dJ1_indexOfChar_4cfef_17 : decode cJ1_indexOfChar_4cfef 17 = .ok (.iload 4, 2) := by decide +kernel
theorem dJ1_indexOfChar_4cfef_19 : decode cJ1_indexOfChar_4cfef 19 = .ok (.if_icmp .ne 6, 3) := by decide +kernel
theorem dJ1_indexOfChar_4cfef_25 : decode cJ1_indexOfChar_4cfef 25 = .ok (.iinc 5 1, 3) := by decide +kernel
theorem dJ1_indexOfChar_4cfef_28 : decode cJ1_indexOfChar_4cfef 28 = .ok (.goto (-21), 3) := by decide +kernel
theorem dJ1_indexOfChar_4cfef_22 : decode cJ1_indexOfChar_4cfef 22 = .ok (.iload 5, 2) := by decide +kernel
theorem dJ1_indexOfChar_4cfef_24 : decode cJ1_indexOfChar_4cfef 24 = .ok (.ireturn, 1) := by decide +kernel
set_option maxHeartbeats 4000000 in
set_option maxRecDepth 100000 in
theorem sJ1_indexOfChar_4cfef_1 (l : Launch) (D : va_G) (cB cI cJ cZ : ClassId) (aK aV : Nat → Nat) (x0 : Int32) (x1 : Int32) (x2 : Int32) (gh0 : 0 ≤ x1.toInt) (gh1 : 0 ≤ -x1.toInt + 11) (gh2 : 0 ≤ x2.toInt) (gh3 : 0 ≤ -x2.toInt + 11) : MX l yJ1_indexOfChar_4cfef cJ1_indexOfChar_4cfef 6 (some .int) (rmL 1 0 0) D cB cI cJ cZ aK aV [.ref (aV 1), .int x0, .int x1, .int x2] [] (fun r w1 => ∃ z1 : Int32, 0 ≤ z1.toInt + 1 ∧ 0 ≤ -z1.toInt + 10 ∧ r = some (.int z1) ∧ w1 = []) := by
  refine MX.intro (by decide) (Nat.le_of_ble_eq_true rfl) ?_
  intro p e s m below meth c A ls hx hb hr hml hown hlocks hnm hts hG hE hA hS hP hD hl hAe
  have hl : lv_has ls 6 [(0, .ref (aV 1)), (1, .int x0), (2, .int x1), (3, .int x2)] := hl
  have hown : s.vm.findClass RJ1 = some m.cls := hown
  refine lv_iload_n hx hb dJ1_indexOfChar_4cfef_0 rfl (lv_at hl 1 rfl) ?_
  refine lv_i2b hx hb dJ1_indexOfChar_4cfef_1 rfl ?_
  refine xt_any (fun v_1 => ?_)
  refine lv_istore (lv' := [(4, .int v_1), (0, .ref (aV 1)), (1, .int x0), (2, .int x1), (3, .int x2)]) hx hb dJ1_indexOfChar_4cfef_2 hl (by decide) rfl (fun ls hl => ?_)
  refine lv_iload_n hx hb dJ1_indexOfChar_4cfef_4 rfl (lv_at hl 3 rfl) ?_
  refine lv_istore (lv' := [(5, .int x1), (4, .int v_1), (0, .ref (aV 1)), (1, .int x0), (2, .int x1), (3, .int x2)]) hx hb dJ1_indexOfChar_4cfef_5 hl (by decide) rfl (fun ls hl => ?_)
  have lp_4 : ∀ (n : Nat) (x_3 : Int32) (H : Heap) (locs : List Loc) (ls : Array Slot), 0 ≤ -x_3.toInt + 11 → 0 ≤ -x1.toInt + x_3.toInt → -x_3.toInt + 11 < n → va_P D vwCl [] H → va_D A [] → va_S A s.heap H locs → lv_has ls 6 [(5, .int x_3), (4, .int v_1), (0, .ref (aV 1)), (1, .int x0), (2, .int x1), (3, .int x2)] → W p l e (rmL 1 0 0) s m [.ref (aV 1), .int x0, .int x1, .int x2].toArray below meth c H locs 0 0 (ZX D below [.ref (aV 1), .int x0, .int x1, .int x2] s (rmL 1 0 0) [] (fun r w1 => ∃ z1 : Int32, 0 ≤ z1.toInt + 1 ∧ 0 ≤ -z1.toInt + 10 ∧ r = some (.int z1) ∧ w1 = [])) (F0 m 7 ls []) := by
    intro n
    induction n with
    | zero => intro x_3 H locs ls g_5 g_6 g_7; omega
    | succ n ihlp_4 =>
      intro x_3 H locs ls g_5 g_6 g_7 hP hD hS hl
      refine lv_iload hx hb dJ1_indexOfChar_4cfef_7 (lv_at hl 0 rfl) ?_
      refine lv_iload_n hx hb dJ1_indexOfChar_4cfef_9 rfl (lv_at hl 5 rfl) ?_
      refine lv_icmp_ge (tgt := 31) hx hb dJ1_indexOfChar_4cfef_10 (by decide) (fun c_8 => ?_) (fun c_8 => ?_)
      · have fc_8 : x2.toInt ≤ x_3.toInt := i_le rfl rfl c_8
        refine lv_iconst (v := (-1)) hx hb dJ1_indexOfChar_4cfef_31 (by decide +kernel) ?_
        have hP9 := hP.sub (ws' := []) [] rfl
        have hD9 := hD.sub (ws' := []) [] (by decide) rfl
        exact xr_i (rm := (rmL 1 0 0)) hx hb hr hlocks hAe hS hP9 hD9 rfl (Nat.le_of_ble_eq_true rfl) (Nat.le_of_ble_eq_true rfl) dJ1_indexOfChar_4cfef_32 ⟨(-1), by have zcm1 : ((-1) : Int32).toInt = (-1) := (by decide); omega, by have zcm1 : ((-1) : Int32).toInt = (-1) := (by decide); omega, rfl, rfl⟩
      · have fc_8 : x_3.toInt < x2.toInt := i_nle rfl rfl c_8
        refine lv_aload_n hx hb dJ1_indexOfChar_4cfef_13 rfl (lv_at hl 2 rfl) ?_
        refine lv_iload hx hb dJ1_indexOfChar_4cfef_14 (lv_at hl 0 rfl) ?_
        refine va_tb hx hb (hE.1.1 1 (by decide)).2.2.2 hS (show vp_in _ 11 from (vp_in_iff.mpr ⟨by omega, by omega⟩)) rfl dJ1_indexOfChar_4cfef_16 ?_
        refine xt_any (fun v_9 => ?_)
        refine lv_iload hx hb dJ1_indexOfChar_4cfef_17 (lv_at hl 1 rfl) ?_
        refine lv_icmp_ne (tgt := 25) hx hb dJ1_indexOfChar_4cfef_19 (by decide) (fun c_10 => ?_) (fun c_10 => ?_)
        · have fc_10 : v_9.toInt ≠ v_1.toInt := i_ne rfl rfl c_10
          obtain ⟨v_11, ev_11⟩ : ∃ y : Int32, y = x_3 + 1 := ⟨_, rfl⟩
          have gv_11 : v_11.toInt = x_3.toInt + 1 := by
            have zy : (1 : Int32).toInt = 1 := by decide
            rw [ev_11, i32_add (by rw [zy]; omega) (by rw [zy]; omega), zy]
          refine lv_iinc (v := v_11) (lv' := [(5, .int v_11), (4, .int v_1), (0, .ref (aV 1)), (1, .int x0), (2, .int x1), (3, .int x2)]) hx hb dJ1_indexOfChar_4cfef_25 hl (k := 0) rfl (by rw [ev_11]; rfl) (by decide) rfl (fun ls hl => ?_)
          refine lv_goto (tgt := 7) hx hb dJ1_indexOfChar_4cfef_28 (by decide) ?_
          exact ihlp_4  v_11 _ _ _ (by omega) (by omega) (by omega) (hP.sub (ws' := []) [] rfl) (hD.sub (ws' := []) [] (by decide) rfl) hS (lv_sub hl [0, 1, 2, 3, 4, 5] rfl)
        · have fc_10 : v_9.toInt = v_1.toInt := i_eq rfl rfl c_10
          refine lv_iload hx hb dJ1_indexOfChar_4cfef_22 (lv_at hl 0 rfl) ?_
          have hP9 := hP.sub (ws' := []) [] rfl
          have hD9 := hD.sub (ws' := []) [] (by decide) rfl
          exact xr_i (rm := (rmL 1 0 0)) hx hb hr hlocks hAe hS hP9 hD9 rfl (Nat.le_of_ble_eq_true rfl) (Nat.le_of_ble_eq_true rfl) dJ1_indexOfChar_4cfef_24 ⟨x_3, by omega, by omega, rfl, rfl⟩
  exact lp_4 13 x1 _ _ _ (by omega) (by omega) (by omega) (hP.sub (ws' := []) [] rfl) (hD.sub (ws' := []) [] (by decide) rfl) hS (lv_sub hl [0, 1, 2, 3, 4, 5] rfl)
theorem dJ1_indexOf_4cfef_0 : decode cJ1_indexOf_4cfef 0 = .ok (.iload_n 1, 1) := by decide +kernel
theorem kw679 : (.methodLink RJ1 88 yJ1_canEncode_9a6ad : Cond) ∈ gT := gT_of 679 (by decide +kernel) (by decide +kernel)
theorem kw681 : (.code yJ1_canEncode_9a6ad cJ1_canEncode_9a6ad 1 (some .boolean) : Cond) ∈ gT := gT_of 681 (by decide +kernel) (by decide +kernel)
theorem kw680 : (.static yJ1_canEncode_9a6ad : Cond) ∈ gT := gT_of 680 (by decide +kernel) (by decide +kernel)
theorem kw118 : (.initialized RJ1 : Cond) ∈ gT := gT_of 118 (by decide +kernel) (by decide +kernel)
theorem dJ1_indexOf_4cfef_1 : decode cJ1_indexOf_4cfef 1 = .ok (.invokestatic 88, 3) := by decide +kernel
theorem dJ1_indexOf_4cfef_4 : decode cJ1_indexOf_4cfef 4 = .ok (.ifCond .ne 5, 3) := by decide +kernel
theorem dJ1_indexOf_4cfef_9 : decode cJ1_indexOf_4cfef 9 = .ok (.iload_n 2, 1) := by decide +kernel
theorem dJ1_indexOf_4cfef_10 : decode cJ1_indexOf_4cfef 10 = .ok (.iconst 0, 1) := by decide +kernel
theorem kw682 : (.methodLink RJ1 92 Lib.Math.max.name : Cond) ∈ gT := gT_of 682 (by decide +kernel) (by decide +kernel)
theorem dJ1_indexOf_4cfef_11 : decode cJ1_indexOf_4cfef 11 = .ok (.invokestatic 92, 3) := by decide +kernel
theorem dJ1_indexOf_4cfef_14 : decode cJ1_indexOf_4cfef 14 = .ok (.istore_n 2, 1) := by decide +kernel
theorem dJ1_indexOf_4cfef_15 : decode cJ1_indexOf_4cfef 15 = .ok (.iload_n 3, 1) := by decide +kernel
theorem dJ1_indexOf_4cfef_16 : decode cJ1_indexOf_4cfef 16 = .ok (.aload_n 0, 1) := by decide +kernel
theorem dJ1_indexOf_4cfef_17 : decode cJ1_indexOf_4cfef 17 = .ok (.arraylength, 1) := by decide +kernel
theorem kw685 : (.methodLink RJ1 38 Lib.Math.min.name : Cond) ∈ gT := gT_of 685 (by decide +kernel) (by decide +kernel)
theorem dJ1_indexOf_4cfef_18 : decode cJ1_indexOf_4cfef 18 = .ok (.invokestatic 38, 3) := by decide +kernel
theorem dJ1_indexOf_4cfef_21 : decode cJ1_indexOf_4cfef 21 = .ok (.istore_n 3, 1) := by decide +kernel
theorem dJ1_indexOf_4cfef_22 : decode cJ1_indexOf_4cfef 22 = .ok (.iload_n 2, 1) := by decide +kernel
theorem dJ1_indexOf_4cfef_23 : decode cJ1_indexOf_4cfef 23 = .ok (.iload_n 3, 1) := by decide +kernel
theorem dJ1_indexOf_4cfef_24 : decode cJ1_indexOf_4cfef 24 = .ok (.if_icmp .lt 5, 3) := by decide +kernel
theorem dJ1_indexOf_4cfef_29 : decode cJ1_indexOf_4cfef 29 = .ok (.aload_n 0, 1) := by decide +kernel
theorem dJ1_indexOf_4cfef_30 : decode cJ1_indexOf_4cfef 30 = .ok (.iload_n 1, 1) := by decide +kernel
theorem dJ1_indexOf_4cfef_31 : decode cJ1_indexOf_4cfef 31 = .ok (.iload_n 2, 1) := by decide +kernel
theorem dJ1_indexOf_4cfef_32 : decode cJ1_indexOf_4cfef 32 = .ok (.iload_n 3, 1) := by decide +kernel
theorem kw686 : (.methodLink RJ1 95 yJ1_indexOfChar_4cfef : Cond) ∈ gT := gT_of 686 (by decide +kernel) (by decide +kernel)
theorem kw688 : (.code yJ1_indexOfChar_4cfef cJ1_indexOfChar_4cfef 6 (some .int) : Cond) ∈ gT := gT_of 688 (by decide +kernel) (by decide +kernel)
theorem kw687 : (.static yJ1_indexOfChar_4cfef : Cond) ∈ gT := gT_of 687 (by decide +kernel) (by decide +kernel)
theorem dJ1_indexOf_4cfef_33 : decode cJ1_indexOf_4cfef 33 = .ok (.invokestatic 95, 3) := by decide +kernel
theorem dJ1_indexOf_4cfef_36 : decode cJ1_indexOf_4cfef 36 = .ok (.ireturn, 1) := by decide +kernel
theorem dJ1_indexOf_4cfef_27 : decode cJ1_indexOf_4cfef 27 = .ok (.iconst (-1), 1) := by decide +kernel
theorem dJ1_indexOf_4cfef_28 : decode cJ1_indexOf_4cfef 28 = .ok (.ireturn, 1) := by decide +kernel
theorem dJ1_indexOf_4cfef_7 : decode cJ1_indexOf_4cfef 7 = .ok (.iconst (-1), 1) := by decide +kernel
theorem dJ1_indexOf_4cfef_8 : decode cJ1_indexOf_4cfef 8 = .ok (.ireturn, 1) := by decide +kernel
set_option maxHeartbeats 4000000 in
set_option maxRecDepth 100000 in
theorem sJ1_indexOf_4cfef_1 (l : Launch) (D : va_G) (cB cI cJ cZ : ClassId) (aK aV : Nat → Nat) (x0 : Int32) (x1 : Int32) (x2 : Int32) (gh0 : 0 ≤ x1.toInt) (gh1 : 0 ≤ -x1.toInt + 11) (gh2 : 0 ≤ x2.toInt) (gh3 : 0 ≤ -x2.toInt + 11) : MX l yJ1_indexOf_4cfef cJ1_indexOf_4cfef 4 (some .int) (rmL 2 0 0) D cB cI cJ cZ aK aV [.ref (aV 1), .int x0, .int x1, .int x2] [] (fun r w1 => ∃ z1 : Int32, 0 ≤ z1.toInt + 1 ∧ 0 ≤ -z1.toInt + 10 ∧ r = some (.int z1) ∧ w1 = []) := by
  refine MX.intro (by decide) (Nat.le_of_ble_eq_true rfl) ?_
  intro p e s m below meth c A ls hx hb hr hml hown hlocks hnm hts hG hE hA hS hP hD hl hAe
  have hl : lv_has ls 4 [(0, .ref (aV 1)), (1, .int x0), (2, .int x1), (3, .int x2)] := hl
  have hown : s.vm.findClass RJ1 = some m.cls := hown
  refine lv_iload_n hx hb dJ1_indexOf_4cfef_0 rfl (lv_at hl 1 rfl) ?_
  refine xc_core (wr := []) (k := 0) (n := 0) (xc_runS (As := [.int x0]) (rest := []) hx hb hml hown hts hG hE hP hD hS hA [] (by decide) rfl (sJ1_canEncode_9a6ad_1 l D cB cI cJ cZ aK aV x0) kw681 kw679 kw680 kw118 (show XD yJ1_canEncode_9a6ad 1 from by decide +kernel) (by decide) hl.1 rfl (Nat.le_of_ble_eq_true rfl) dJ1_indexOf_4cfef_1 (by decide)) hP hD hS hA [] [] rfl rfl (by decide) (by decide) (Nat.le_of_ble_eq_true rfl) (Nat.le_of_ble_eq_true rfl) (fun r w1 H locs hpost hP hD hS => ?_)
  obtain ⟨v_1, g_2, g_3, rfl, rfl⟩ := hpost
  have hP : va_P D vwCl [] H := hP
  have hD : va_D A [] := hD
  refine lv_if_ne (tgt := 9) hx hb dJ1_indexOf_4cfef_4 (by decide) (fun c_4 => ?_) (fun c_4 => ?_)
  · have fc_4 : v_1.toInt ≠ (0 : Int) := i_ne rfl (by decide) c_4
    refine lv_iload_n hx hb dJ1_indexOf_4cfef_9 rfl (lv_at hl 2 rfl) ?_
    refine lv_iconst (v := 0) hx hb dJ1_indexOf_4cfef_10 (by decide +kernel) ?_
    refine va_mmax hx hb (hml.trans hl.1.symm) hown (hts _ kw682) (hts _ kw683) (hts _ kw128) (hts _ kw684) (Nat.le_of_ble_eq_true rfl) (Nat.le_of_ble_eq_true rfl) (Nat.le_of_ble_eq_true rfl) (Nat.le_of_ble_eq_true rfl) dJ1_indexOf_4cfef_11 ?_
    refine lv_topi (fun v_5 ev_5 => ?_)
    have g_6 := i32_max rfl (show (0 : Int32).toInt = 0 from by decide) ev_5
    refine lv_istore_n (lv' := [(2, .int v_5), (0, .ref (aV 1)), (1, .int x0), (3, .int x2)]) hx hb dJ1_indexOf_4cfef_14 rfl hl (by decide) rfl (fun ls hl => ?_)
    refine lv_iload_n hx hb dJ1_indexOf_4cfef_15 rfl (lv_at hl 3 rfl) ?_
    refine lv_aload_n hx hb dJ1_indexOf_4cfef_16 rfl (lv_at hl 1 rfl) ?_
    refine va_tlen (v := 11) hx hb (hE.1.1 1 (by decide)).2.2.2 hS rfl dJ1_indexOf_4cfef_17 ?_
    refine va_mmin hx hb (hml.trans hl.1.symm) hown (hts _ kw685) (hts _ kw651) (hts _ kw128) (hts _ kw652) (Nat.le_of_ble_eq_true rfl) (Nat.le_of_ble_eq_true rfl) (Nat.le_of_ble_eq_true rfl) (Nat.le_of_ble_eq_true rfl) dJ1_indexOf_4cfef_18 ?_
    refine lv_topi (fun v_7 ev_7 => ?_)
    have g_8 := i32_min rfl (show (11 : Int32).toInt = 11 from by decide) ev_7
    refine lv_istore_n (lv' := [(3, .int v_7), (2, .int v_5), (0, .ref (aV 1)), (1, .int x0)]) hx hb dJ1_indexOf_4cfef_21 rfl hl (by decide) rfl (fun ls hl => ?_)
    refine lv_iload_n hx hb dJ1_indexOf_4cfef_22 rfl (lv_at hl 1 rfl) ?_
    refine lv_iload_n hx hb dJ1_indexOf_4cfef_23 rfl (lv_at hl 0 rfl) ?_
    refine lv_icmp_lt (tgt := 29) hx hb dJ1_indexOf_4cfef_24 (by decide) (fun c_9 => ?_) (fun c_9 => ?_)
    · have fc_9 : v_5.toInt < v_7.toInt := i_lt rfl rfl c_9
      refine lv_aload_n hx hb dJ1_indexOf_4cfef_29 rfl (lv_at hl 2 rfl) ?_
      refine lv_iload_n hx hb dJ1_indexOf_4cfef_30 rfl (lv_at hl 3 rfl) ?_
      refine lv_iload_n hx hb dJ1_indexOf_4cfef_31 rfl (lv_at hl 1 rfl) ?_
      refine lv_iload_n hx hb dJ1_indexOf_4cfef_32 rfl (lv_at hl 0 rfl) ?_
      refine xc_core (wr := []) (k := 0) (n := 0) (xc_runS (As := [.ref (aV 1), .int x0, .int v_5, .int v_7]) (rest := []) hx hb hml hown hts hG hE hP hD hS hA [] (by decide) rfl (sJ1_indexOfChar_4cfef_1 l D cB cI cJ cZ aK aV x0 v_5 v_7 (by omega) (by omega) (by omega) (by omega)) kw688 kw686 kw687 kw118 (show XD yJ1_indexOfChar_4cfef 4 from by decide +kernel) (by decide) hl.1 rfl (Nat.le_of_ble_eq_true rfl) dJ1_indexOf_4cfef_33 (by decide)) hP hD hS hA [] [] rfl rfl (by decide) (by decide) (Nat.le_of_ble_eq_true rfl) (Nat.le_of_ble_eq_true rfl) (fun r w1 H locs hpost hP hD hS => ?_)
      obtain ⟨v_10, g_11, g_12, rfl, rfl⟩ := hpost
      have hP : va_P D vwCl [] H := hP
      have hD : va_D A [] := hD
      have hP9 := hP.sub (ws' := []) [] rfl
      have hD9 := hD.sub (ws' := []) [] (by decide) rfl
      exact xr_i (rm := (rmL 2 0 0)) hx hb hr hlocks hAe hS hP9 hD9 rfl (Nat.le_of_ble_eq_true rfl) (Nat.le_of_ble_eq_true rfl) dJ1_indexOf_4cfef_36 ⟨v_10, by omega, by omega, rfl, rfl⟩
    · have fc_9 : v_7.toInt ≤ v_5.toInt := i_nlt rfl rfl c_9
      refine lv_iconst (v := (-1)) hx hb dJ1_indexOf_4cfef_27 (by decide +kernel) ?_
      have hP9 := hP.sub (ws' := []) [] rfl
      have hD9 := hD.sub (ws' := []) [] (by decide) rfl
      exact xr_i (rm := (rmL 2 0 0)) hx hb hr hlocks hAe hS hP9 hD9 rfl (Nat.le_of_ble_eq_true rfl) (Nat.le_of_ble_eq_true rfl) dJ1_indexOf_4cfef_28 ⟨(-1), by have zcm1 : ((-1) : Int32).toInt = (-1) := (by decide); omega, by have zcm1 : ((-1) : Int32).toInt = (-1) := (by decide); omega, rfl, rfl⟩
  · have fc_4 : v_1.toInt = (0 : Int) := i_eq rfl (by decide) c_4
    refine lv_iconst (v := (-1)) hx hb dJ1_indexOf_4cfef_7 (by decide +kernel) ?_
    have hP9 := hP.sub (ws' := []) [] rfl
    have hD9 := hD.sub (ws' := []) [] (by decide) rfl
    exact xr_i (rm := (rmL 2 0 0)) hx hb hr hlocks hAe hS hP9 hD9 rfl (Nat.le_of_ble_eq_true rfl) (Nat.le_of_ble_eq_true rfl) dJ1_indexOf_4cfef_8 ⟨(-1), by have zcm1 : ((-1) : Int32).toInt = (-1) := (by decide); omega, by have zcm1 : ((-1) : Int32).toInt = (-1) := (by decide); omega, rfl, rfl⟩
theorem dJ0_indexOf_7cf53_0 : decode cJ0_indexOf_7cf53 0 = .ok (.aload_n 0, 1) := by decide +kernel
theorem kw321 : (.methodLink RJ0 492 yJ0_isLatin1_aae02 : Cond) ∈ gT := gT_of 321 (by decide +kernel) (by decide +kernel)
theorem kw324 : (.code yJ0_isLatin1_aae02 cJ0_isLatin1_aae02 1 (some .boolean) : Cond) ∈ gT := gT_of 324 (by decide +kernel) (by decide +kernel)
theorem kw322 : (.instanceMethod yJ0_isLatin1_aae02 : Cond) ∈ gT := gT_of 322 (by decide +kernel) (by decide +kernel)
theorem kw323 : (.selects RJ0 yJ0_isLatin1_aae02 yJ0_isLatin1_aae02 : Cond) ∈ gT := gT_of 323 (by decide +kernel) (by decide +kernel)
theorem dJ0_indexOf_7cf53_1 : decode cJ0_indexOf_7cf53 1 = .ok (.invokevirtual 492, 3) := by decide +kernel
theorem dJ0_indexOf_7cf53_4 : decode cJ0_indexOf_7cf53 4 = .ok (.ifCond .eq 19, 3) := by decide +kernel
theorem dJ0_indexOf_7cf53_7 : decode cJ0_indexOf_7cf53 7 = .ok (.aload_n 0, 1) := by decide +kernel
theorem dJ0_indexOf_7cf53_8 : decode cJ0_indexOf_7cf53 8 = .ok (.getfield 9, 3) := by decide +kernel
theorem dJ0_indexOf_7cf53_11 : decode cJ0_indexOf_7cf53 11 = .ok (.iload_n 1, 1) := by decide +kernel
theorem dJ0_indexOf_7cf53_12 : decode cJ0_indexOf_7cf53 12 = .ok (.iload_n 2, 1) := by decide +kernel
theorem dJ0_indexOf_7cf53_13 : decode cJ0_indexOf_7cf53 13 = .ok (.aload_n 0, 1) := by decide +kernel
theorem kw675 : (.methodLink RJ0 505 yJ0_length_8abf5 : Cond) ∈ gT := gT_of 675 (by decide +kernel) (by decide +kernel)
theorem kw310 : (.code yJ0_length_8abf5 cJ0_length_8abf5 1 (some .int) : Cond) ∈ gT := gT_of 310 (by decide +kernel) (by decide +kernel)
theorem kw308 : (.instanceMethod yJ0_length_8abf5 : Cond) ∈ gT := gT_of 308 (by decide +kernel) (by decide +kernel)
theorem kw309 : (.selects RJ0 yJ0_length_8abf5 yJ0_length_8abf5 : Cond) ∈ gT := gT_of 309 (by decide +kernel) (by decide +kernel)
theorem dJ0_indexOf_7cf53_14 : decode cJ0_indexOf_7cf53 14 = .ok (.invokevirtual 505, 3) := by decide +kernel
theorem kw676 : (.methodLink RJ0 637 yJ1_indexOf_4cfef : Cond) ∈ gT := gT_of 676 (by decide +kernel) (by decide +kernel)
theorem kw678 : (.code yJ1_indexOf_4cfef cJ1_indexOf_4cfef 4 (some .int) : Cond) ∈ gT := gT_of 678 (by decide +kernel) (by decide +kernel)
theorem kw677 : (.static yJ1_indexOf_4cfef : Cond) ∈ gT := gT_of 677 (by decide +kernel) (by decide +kernel)
theorem dJ0_indexOf_7cf53_17 : decode cJ0_indexOf_7cf53 17 = .ok (.invokestatic 637, 3) := by decide +kernel
theorem dJ0_indexOf_7cf53_20 : decode cJ0_indexOf_7cf53 20 = .ok (.goto 16, 3) := by decide +kernel
theorem dJ0_indexOf_7cf53_36 : decode cJ0_indexOf_7cf53 36 = .ok (.ireturn, 1) := by decide +kernel
set_option maxHeartbeats 4000000 in
set_option maxRecDepth 100000 in
theorem sJ0_indexOf_7cf53_1 (l : Launch) (D : va_G) (cB cI cJ cZ : ClassId) (aK aV : Nat → Nat) (x0 : Int32) (x1 : Int32) (gh0 : 0 ≤ x1.toInt) (gh1 : 0 ≤ -x1.toInt + 11) : MX l yJ0_indexOf_7cf53 cJ0_indexOf_7cf53 3 (some .int) (rmL 3 0 0) D cB cI cJ cZ aK aV [.ref (aK 1), .int x0, .int x1] [] (fun r w1 => ∃ z1 : Int32, 0 ≤ z1.toInt + 1 ∧ 0 ≤ -z1.toInt + 10 ∧ r = some (.int z1) ∧ w1 = []) := by
  refine MX.intro (by decide) (Nat.le_of_ble_eq_true rfl) ?_
  intro p e s m below meth c A ls hx hb hr hml hown hlocks hnm hts hG hE hA hS hP hD hl hAe
  have hl : lv_has ls 3 [(0, .ref (aK 1)), (1, .int x0), (2, .int x1)] := hl
  have hown : s.vm.findClass RJ0 = some m.cls := hown
  refine lv_aload_n hx hb dJ0_indexOf_7cf53_0 rfl (lv_at hl 0 rfl) ?_
  refine xc_core (wr := []) (k := 0) (n := 0) (xc_runVK (As := []) (rest := []) hx hb hml hown hts hG hE hP hD hS hA [] (by decide) rfl (sJ0_isLatin1_aae02_1 l D cB cI cJ cZ aK aV) kw324 kw321 kw322 kw323 kw117 (show XD yJ0_isLatin1_aae02 0 from by decide +kernel) (by decide) (vk_recv hE.1 (i := 1) (by decide) hS) hl.1 rfl (Nat.le_of_ble_eq_true rfl) dJ0_indexOf_7cf53_1 (by decide)) hP hD hS hA [] [] rfl rfl (by decide) (by decide) (Nat.le_of_ble_eq_true rfl) (Nat.le_of_ble_eq_true rfl) (fun r w1 H locs hpost hP hD hS => ?_)
  obtain ⟨rfl, rfl⟩ := hpost
  have hP : va_P D vwCl [] H := hP
  have hD : va_D A [] := hD
  refine lv_if_eq (tgt := 23) hx hb dJ0_indexOf_7cf53_4 (by decide) (fun h => absurd h (by decide +kernel)) (fun _ => ?_)
  refine lv_aload_n hx hb dJ0_indexOf_7cf53_7 rfl (lv_at hl 0 rfl) ?_
  refine vk_getf (v := .ref (aV 1)) hx hb (hE.1.1 1 (by decide)).2.2.1 hS hown (hts _ kw2018) (fun _ h9 => h9) dJ0_indexOf_7cf53_8 ?_
  refine lv_iload_n hx hb dJ0_indexOf_7cf53_11 rfl (lv_at hl 1 rfl) ?_
  refine lv_iload_n hx hb dJ0_indexOf_7cf53_12 rfl (lv_at hl 2 rfl) ?_
  refine lv_aload_n hx hb dJ0_indexOf_7cf53_13 rfl (lv_at hl 0 rfl) ?_
  refine xc_core (wr := []) (k := 0) (n := 0) (xc_runVK (As := []) (rest := [.int x1, .int x0, .ref (aV 1)]) hx hb hml hown hts hG hE hP hD hS hA [] (by decide) rfl (sJ0_length_8abf5_1 l D cB cI cJ cZ aK aV) kw310 kw675 kw308 kw309 kw117 (show XD yJ0_length_8abf5 0 from by decide +kernel) (by decide) (vk_recv hE.1 (i := 1) (by decide) hS) hl.1 rfl (Nat.le_of_ble_eq_true rfl) dJ0_indexOf_7cf53_14 (by decide)) hP hD hS hA [] [] rfl rfl (by decide) (by decide) (Nat.le_of_ble_eq_true rfl) (Nat.le_of_ble_eq_true rfl) (fun r w1 H locs hpost hP hD hS => ?_)
  obtain ⟨rfl, rfl⟩ := hpost
  have hP : va_P D vwCl [] H := hP
  have hD : va_D A [] := hD
  refine xc_core (wr := []) (k := 0) (n := 0) (xc_runS (As := [.ref (aV 1), .int x0, .int x1, .int 11]) (rest := []) hx hb hml hown hts hG hE hP hD hS hA [] (by decide) rfl (sJ1_indexOf_4cfef_1 l D cB cI cJ cZ aK aV x0 x1 11 (by have zc11 : (11 : Int32).toInt = 11 := (by decide); omega) (by have zc11 : (11 : Int32).toInt = 11 := (by decide); omega) (by have zc11 : (11 : Int32).toInt = 11 := (by decide); omega) (by have zc11 : (11 : Int32).toInt = 11 := (by decide); omega)) kw678 kw676 kw677 kw118 (show XD yJ1_indexOf_4cfef 4 from by decide +kernel) (by decide) hl.1 rfl (Nat.le_of_ble_eq_true rfl) dJ0_indexOf_7cf53_17 (by decide)) hP hD hS hA [] [] rfl rfl (by decide) (by decide) (Nat.le_of_ble_eq_true rfl) (Nat.le_of_ble_eq_true rfl) (fun r w1 H locs hpost hP hD hS => ?_)
  obtain ⟨v_1, g_2, g_3, rfl, rfl⟩ := hpost
  have hP : va_P D vwCl [] H := hP
  have hD : va_D A [] := hD
  refine lv_goto (tgt := 36) hx hb dJ0_indexOf_7cf53_20 (by decide) ?_
  have hP9 := hP.sub (ws' := []) [] rfl
  have hD9 := hD.sub (ws' := []) [] (by decide) rfl
  exact xr_i (rm := (rmL 3 0 0)) hx hb hr hlocks hAe hS hP9 hD9 rfl (Nat.le_of_ble_eq_true rfl) (Nat.le_of_ble_eq_true rfl) dJ0_indexOf_7cf53_36 ⟨v_1, by omega, by omega, rfl, rfl⟩
theorem dJ0_indexOf_0f7a4_0 : decode cJ0_indexOf_0f7a4 0 = .ok (.aload_n 0, 1) := by decide +kernel
theorem dJ0_indexOf_0f7a4_1 : decode cJ0_indexOf_0f7a4 1 = .ok (.iload_n 1, 1) := by decide +kernel
theorem dJ0_indexOf_0f7a4_2 : decode cJ0_indexOf_0f7a4 2 = .ok (.iconst 0, 1) := by decide +kernel
theorem kw671 : (.methodLink RJ0 633 yJ0_indexOf_7cf53 : Cond) ∈ gT := gT_of 671 (by decide +kernel) (by decide +kernel)
theorem kw674 : (.code yJ0_indexOf_7cf53 cJ0_indexOf_7cf53 3 (some .int) : Cond) ∈ gT := gT_of 674 (by decide +kernel) (by decide +kernel)
theorem kw672 : (.instanceMethod yJ0_indexOf_7cf53 : Cond) ∈ gT := gT_of 672 (by decide +kernel) (by decide +kernel)
theorem kw673 : (.selects RJ0 yJ0_indexOf_7cf53 yJ0_indexOf_7cf53 : Cond) ∈ gT := gT_of 673 (by decide +kernel) (by decide +kernel)
theorem dJ0_indexOf_0f7a4_3 : decode cJ0_indexOf_0f7a4 3 = .ok (.invokevirtual 633, 3) := by decide +kernel
theorem dJ0_indexOf_0f7a4_6 : decode cJ0_indexOf_0f7a4 6 = .ok (.ireturn, 1) := by decide +kernel
set_option maxHeartbeats 4000000 in
set_option maxRecDepth 100000 in
theorem sJ0_indexOf_0f7a4_1 (l : Launch) (D : va_G) (cB cI cJ cZ : ClassId) (aK aV : Nat → Nat) (x0 : Int32) : MX l yJ0_indexOf_0f7a4 cJ0_indexOf_0f7a4 2 (some .int) (rmL 4 0 0) D cB cI cJ cZ aK aV [.ref (aK 1), .int x0] [] (fun r w1 => ∃ z1 : Int32, 0 ≤ z1.toInt + 1 ∧ 0 ≤ -z1.toInt + 10 ∧ r = some (.int z1) ∧ w1 = []) := by
  refine MX.intro (by decide) (Nat.le_of_ble_eq_true rfl) ?_
  intro p e s m below meth c A ls hx hb hr hml hown hlocks hnm hts hG hE hA hS hP hD hl hAe
  have hl : lv_has ls 2 [(0, .ref (aK 1)), (1, .int x0)] := hl
  have hown : s.vm.findClass RJ0 = some m.cls := hown
  refine lv_aload_n hx hb dJ0_indexOf_0f7a4_0 rfl (lv_at hl 0 rfl) ?_
  refine lv_iload_n hx hb dJ0_indexOf_0f7a4_1 rfl (lv_at hl 1 rfl) ?_
  refine lv_iconst (v := 0) hx hb dJ0_indexOf_0f7a4_2 (by decide +kernel) ?_
  refine xc_core (wr := []) (k := 0) (n := 0) (xc_runVK (As := [.int x0, .int 0]) (rest := []) hx hb hml hown hts hG hE hP hD hS hA [] (by decide) rfl (sJ0_indexOf_7cf53_1 l D cB cI cJ cZ aK aV x0 0 (by have zc0 : (0 : Int32).toInt = 0 := (by decide); omega) (by have zc0 : (0 : Int32).toInt = 0 := (by decide); omega)) kw674 kw671 kw672 kw673 kw117 (show XD yJ0_indexOf_7cf53 2 from by decide +kernel) (by decide) (vk_recv hE.1 (i := 1) (by decide) hS) hl.1 rfl (Nat.le_of_ble_eq_true rfl) dJ0_indexOf_0f7a4_3 (by decide)) hP hD hS hA [] [] rfl rfl (by decide) (by decide) (Nat.le_of_ble_eq_true rfl) (Nat.le_of_ble_eq_true rfl) (fun r w1 H locs hpost hP hD hS => ?_)
  obtain ⟨v_1, g_2, g_3, rfl, rfl⟩ := hpost
  have hP : va_P D vwCl [] H := hP
  have hD : va_D A [] := hD
  have hP9 := hP.sub (ws' := []) [] rfl
  have hD9 := hD.sub (ws' := []) [] (by decide) rfl
  exact xr_i (rm := (rmL 4 0 0)) hx hb hr hlocks hAe hS hP9 hD9 rfl (Nat.le_of_ble_eq_true rfl) (Nat.le_of_ble_eq_true rfl) dJ0_indexOf_0f7a4_6 ⟨v_1, by omega, by omega, rfl, rfl⟩
theorem dX4_step_0 : decode cX4_step 0 = .ok (.aload_n 0, 1) := by decide +kernel
theorem dX4_step_1 : decode cX4_step 1 = .ok (.getfield 73, 3) := by decide +kernel
theorem dX4_step_4 : decode cX4_step 4 = .ok (.ifCond .eq 4, 3) := by decide +kernel
theorem dX4_step_8 : decode cX4_step 8 = .ok (.aload_n 0, 1) := by decide +kernel
theorem dX4_step_9 : decode cX4_step 9 = .ok (.getfield 76, 3) := by decide +kernel
theorem dX4_step_12 : decode cX4_step 12 = .ok (.aload_n 0, 1) := by decide +kernel
theorem dX4_step_13 : decode cX4_step 13 = .ok (.getfield 67, 3) := by decide +kernel
theorem dX4_step_16 : decode cX4_step 16 = .ok (.if_icmp .ge 44, 3) := by decide +kernel
theorem dX4_step_60 : decode cX4_step 60 = .ok (.aload_n 0, 1) := by decide +kernel
theorem dX4_step_61 : decode cX4_step 61 = .ok (.aload_n 0, 1) := by decide +kernel
theorem dX4_step_62 : decode cX4_step 62 = .ok (.getfield 76, 3) := by decide +kernel
theorem dX4_step_65 : decode cX4_step 65 = .ok (.putfield 225, 3) := by decide +kernel
theorem dX4_step_68 : decode cX4_step 68 = .ok (.aload_n 0, 1) := by decide +kernel
theorem dX4_step_69 : decode cX4_step 69 = .ok (.getfield 76, 3) := by decide +kernel
theorem dX4_step_72 : decode cX4_step 72 = .ok (.aload_n 0, 1) := by decide +kernel
theorem dX4_step_73 : decode cX4_step 73 = .ok (.getfield 67, 3) := by decide +kernel
theorem dX4_step_76 : decode cX4_step 76 = .ok (.if_icmp .lt 9, 3) := by decide +kernel
theorem dX4_step_79 : decode cX4_step 79 = .ok (.aload_n 0, 1) := by decide +kernel
theorem dX4_step_80 : decode cX4_step 80 = .ok (.iconst 0, 1) := by decide +kernel
theorem dX4_step_81 : decode cX4_step 81 = .ok (.putfield 82, 3) := by decide +kernel
theorem dX4_step_84 : decode cX4_step 84 = .ok (.return_, 1) := by decide +kernel
theorem dX4_step_19 : decode cX4_step 19 = .ok (.aload_n 0, 1) := by decide +kernel
theorem dX4_step_20 : decode cX4_step 20 = .ok (.getfield 21, 3) := by decide +kernel
theorem dX4_step_23 : decode cX4_step 23 = .ok (.aload_n 0, 1) := by decide +kernel
theorem dX4_step_24 : decode cX4_step 24 = .ok (.getfield 76, 3) := by decide +kernel
theorem dX4_step_27 : decode cX4_step 27 = .ok (.baload, 1) := by decide +kernel
theorem dX4_step_28 : decode cX4_step 28 = .ok (.bipush 32, 2) := by decide +kernel
theorem dX4_step_30 : decode cX4_step 30 = .ok (.if_icmp .eq 17, 3) := by decide +kernel
theorem dX4_step_47 : decode cX4_step 47 = .ok (.aload_n 0, 1) := by decide +kernel
theorem dX4_step_48 : decode cX4_step 48 = .ok (.dup, 1) := by decide +kernel
theorem dX4_step_49 : decode cX4_step 49 = .ok (.getfield 76, 3) := by decide +kernel
theorem dX4_step_52 : decode cX4_step 52 = .ok (.iconst 1, 1) := by decide +kernel
theorem dX4_step_53 : decode cX4_step 53 = .ok (.iadd, 1) := by decide +kernel
theorem dX4_step_54 : decode cX4_step 54 = .ok (.putfield 76, 3) := by decide +kernel
theorem dX4_step_57 : decode cX4_step 57 = .ok (.goto (-49), 3) := by decide +kernel
theorem dX4_step_33 : decode cX4_step 33 = .ok (.aload_n 0, 1) := by decide +kernel
theorem dX4_step_34 : decode cX4_step 34 = .ok (.getfield 21, 3) := by decide +kernel
theorem dX4_step_37 : decode cX4_step 37 = .ok (.aload_n 0, 1) := by decide +kernel
theorem dX4_step_38 : decode cX4_step 38 = .ok (.getfield 76, 3) := by decide +kernel
theorem dX4_step_41 : decode cX4_step 41 = .ok (.baload, 1) := by decide +kernel
theorem dX4_step_42 : decode cX4_step 42 = .ok (.bipush 10, 2) := by decide +kernel
theorem dX4_step_44 : decode cX4_step 44 = .ok (.if_icmp .ne 16, 3) := by decide +kernel
theorem dX4_step_85 : decode cX4_step 85 = .ok (.aload_n 0, 1) := by decide +kernel
theorem dX4_step_86 : decode cX4_step 86 = .ok (.getfield 21, 3) := by decide +kernel
theorem dX4_step_89 : decode cX4_step 89 = .ok (.aload_n 0, 1) := by decide +kernel
theorem dX4_step_90 : decode cX4_step 90 = .ok (.getfield 76, 3) := by decide +kernel
theorem dX4_step_93 : decode cX4_step 93 = .ok (.baload, 1) := by decide +kernel
theorem dX4_step_94 : decode cX4_step 94 = .ok (.istore_n 1, 1) := by decide +kernel
theorem dX4_step_95 : decode cX4_step 95 = .ok (.iload_n 1, 1) := by decide +kernel
theorem dX4_step_96 : decode cX4_step 96 = .ok (.bipush 97, 2) := by decide +kernel
theorem dX4_step_98 : decode cX4_step 98 = .ok (.if_icmp .lt 16, 3) := by decide +kernel
theorem dX4_step_114 : decode cX4_step 114 = .ok (.iload_n 1, 1) := by decide +kernel
theorem dX4_step_115 : decode cX4_step 115 = .ok (.bipush 48, 2) := by decide +kernel
theorem dX4_step_117 : decode cX4_step 117 = .ok (.if_icmp .lt 16, 3) := by decide +kernel
theorem dX4_step_133 : decode cX4_step 133 = .ok (.aload_n 0, 1) := by decide +kernel
theorem dX4_step_134 : decode cX4_step 134 = .ok (.iload_n 1, 1) := by decide +kernel
theorem dX4_step_135 : decode cX4_step 135 = .ok (.ifCond .le 17, 3) := by decide +kernel
theorem dX4_step_152 : decode cX4_step 152 = .ok (.iconst 1, 1) := by decide +kernel
theorem dX4_step_153 : decode cX4_step 153 = .ok (.putfield 82, 3) := by decide +kernel
theorem dX4_step_156 : decode cX4_step 156 = .ok (.aload_n 0, 1) := by decide +kernel
theorem dX4_step_157 : decode cX4_step 157 = .ok (.dup, 1) := by decide +kernel
theorem dX4_step_158 : decode cX4_step 158 = .ok (.getfield 76, 3) := by decide +kernel
theorem dX4_step_161 : decode cX4_step 161 = .ok (.iconst 1, 1) := by decide +kernel
theorem dX4_step_162 : decode cX4_step 162 = .ok (.iadd, 1) := by decide +kernel
theorem dX4_step_163 : decode cX4_step 163 = .ok (.putfield 76, 3) := by decide +kernel
theorem dX4_step_166 : decode cX4_step 166 = .ok (.return_, 1) := by decide +kernel
theorem dX4_step_138 : decode cX4_step 138 = .ok (.ldc 234, 2) := by decide +kernel
theorem dX4_step_140 : decode cX4_step 140 = .ok (.iload_n 1, 1) := by decide +kernel
theorem dX4_step_141 : decode cX4_step 141 = .ok (.i2c, 1) := by decide +kernel
theorem kw667 : (.methodLink RX4 236 yJ0_indexOf_0f7a4 : Cond) ∈ gT := gT_of 667 (by decide +kernel) (by decide +kernel)
theorem kw670 : (.code yJ0_indexOf_0f7a4 cJ0_indexOf_0f7a4 2 (some .int) : Cond) ∈ gT := gT_of 670 (by decide +kernel) (by decide +kernel)
theorem kw668 : (.instanceMethod yJ0_indexOf_0f7a4 : Cond) ∈ gT := gT_of 668 (by decide +kernel) (by decide +kernel)
theorem kw669 : (.selects RJ0 yJ0_indexOf_0f7a4 yJ0_indexOf_0f7a4 : Cond) ∈ gT := gT_of 669 (by decide +kernel) (by decide +kernel)
theorem dX4_step_142 : decode cX4_step 142 = .ok (.invokevirtual 236, 3) := by decide +kernel
theorem dX4_step_145 : decode cX4_step 145 = .ok (.ifCond .lt 7, 3) := by decide +kernel
theorem dX4_step_148 : decode cX4_step 148 = .ok (.iload_n 1, 1) := by decide +kernel
theorem dX4_step_149 : decode cX4_step 149 = .ok (.goto 4, 3) := by decide +kernel
theorem dX4_step_120 : decode cX4_step 120 = .ok (.iload_n 1, 1) := by decide +kernel
theorem dX4_step_121 : decode cX4_step 121 = .ok (.bipush 57, 2) := by decide +kernel
theorem dX4_step_123 : decode cX4_step 123 = .ok (.if_icmp .gt 10, 3) := by decide +kernel
theorem dX4_step_126 : decode cX4_step 126 = .ok (.aload_n 0, 1) := by decide +kernel
theorem kw662 : (.methodLink RX4 231 yX4_stepOverNumber : Cond) ∈ gT := gT_of 662 (by decide +kernel) (by decide +kernel)
theorem kw665 : (.code yX4_stepOverNumber cX4_stepOverNumber 2 none : Cond) ∈ gT := gT_of 665 (by decide +kernel) (by decide +kernel)
theorem kw664 : (.instanceMethod yX4_stepOverNumber : Cond) ∈ gT := gT_of 664 (by decide +kernel) (by decide +kernel)
theorem kw2 : (.selects RX4 yX4_stepOverNumber yX4_stepOverNumber : Cond) ∈ gT := gT_of 2 (by decide +kernel) (by decide +kernel)
theorem dX4_step_127 : decode cX4_step 127 = .ok (.invokevirtual 231, 3) := by decide +kernel
theorem dX4_step_130 : decode cX4_step 130 = .ok (.goto 36, 3) := by decide +kernel
theorem dX4_step_101 : decode cX4_step 101 = .ok (.iload_n 1, 1) := by decide +kernel
theorem dX4_step_102 : decode cX4_step 102 = .ok (.bipush 122, 2) := by decide +kernel
theorem dX4_step_104 : decode cX4_step 104 = .ok (.if_icmp .gt 10, 3) := by decide +kernel
theorem dX4_step_107 : decode cX4_step 107 = .ok (.aload_n 0, 1) := by decide +kernel
theorem kw658 : (.methodLink RX4 228 yX4_stepOverWord : Cond) ∈ gT := gT_of 658 (by decide +kernel) (by decide +kernel)
theorem kw661 : (.code yX4_stepOverWord cX4_stepOverWord 2 none : Cond) ∈ gT := gT_of 661 (by decide +kernel) (by decide +kernel)
theorem kw660 : (.instanceMethod yX4_stepOverWord : Cond) ∈ gT := gT_of 660 (by decide +kernel) (by decide +kernel)
theorem kw1 : (.selects RX4 yX4_stepOverWord yX4_stepOverWord : Cond) ∈ gT := gT_of 1 (by decide +kernel) (by decide +kernel)
theorem dX4_step_108 : decode cX4_step 108 = .ok (.invokevirtual 228, 3) := by decide +kernel
theorem dX4_step_111 : decode cX4_step 111 = .ok (.goto 55, 3) := by decide +kernel
theorem dX4_step_7 : decode cX4_step 7 = .ok (.return_, 1) := by decide +kernel
set_option maxHeartbeats 4000000 in
set_option maxRecDepth 100000 in
theorem sX4_step_1 (l : Launch) (D : va_G) (cB cI cJ cZ : ClassId) (aK aV : Nat → Nat) (h0 : Nat) (h1 : Nat) (h2 : Nat) (h3 : Nat) (h4 : Nat) (h5 : Nat) (h6 : Nat) (x7 : Int32) (h8 : Nat) (h9 : Nat) (x10 : Int32) (x11 : Int32) (x12 : Int32) (y13 : Int64) (x14 : Int32) (x15 : Int32) (x16 : Int32) (f17 : Nat → Int32) (f18 : Nat → Int64) (gh0 : 0 ≤ x7.toInt) (gh1 : 0 ≤ -x7.toInt + 1600) (gh2 : 0 ≤ x10.toInt) (gh3 : 0 ≤ -x10.toInt + 1600) (gh4 : 0 ≤ x11.toInt) (gh5 : 0 ≤ -x11.toInt + 1600) (gh6 : 0 ≤ x15.toInt) (gh7 : 0 ≤ -x15.toInt + 5) : MX l yX4_step cX4_step 2 none (rmL 5 0 0) D cB cI cJ cZ aK aV [.ref h0] [(h0, .inr (4, [.ref h1, .ref h2, .ref h3, .ref h4, .ref h5, .ref h6, .int x7, .ref h8, .ref h9, .int x10, .int x11, .int x12, .long y13, .int x14, .int x15, .int x16])), (h6, .inl (cB, 1600, .inl f17)), (h1, .inl (cJ, 21, .inr (.inl f18)))] (fun r w1 => ∃ z1 : Int32, ∃ z2 : Int32, ∃ z3 : Int32, ∃ z4 : Int64, ∃ z5 : Int32, 0 ≤ z1.toInt ∧ 0 ≤ -z1.toInt + 1600 ∧ 0 ≤ z2.toInt ∧ 0 ≤ -z2.toInt + 1600 ∧ r = none ∧ w1 = [(h0, .inr (4, [.ref h1, .ref h2, .ref h3, .ref h4, .ref h5, .ref h6, .int x7, .ref h8, .ref h9, .int z1, .int z2, .int z3, .long z4, .int z5, .int x15, .int x16])), (h6, .inl (cB, 1600, .inl f17)), (h1, .inl (cJ, 21, .inr (.inl f18)))]) := by
  refine MX.intro (by decide) (Nat.le_of_ble_eq_true rfl) ?_
  intro p e s m below meth c A ls hx hb hr hml hown hlocks hnm hts hG hE hA hS hP hD hl hAe
  have hl : lv_has ls 2 [(0, .ref h0)] := hl
  have hown : s.vm.findClass RX4 = some m.cls := hown
  refine lv_aload_n hx hb dX4_step_0 rfl (lv_at hl 0 rfl) ?_
  refine va_get (D := D) (ci := 4) (v := .int x15) (C := RX4) (T := TX4) (N := 16) hx hb hts inX4 hown hG.1 hP 0 rfl rfl 14 (by decide) (hts _ kw374) (fun _ h9 => h9) rfl dX4_step_1 ?_
  refine lv_if_eq (tgt := 8) hx hb dX4_step_4 (by decide) (fun c_1 => ?_) (fun c_1 => ?_)
  · have fc_1 : x15.toInt = (0 : Int) := i_eq rfl (by decide) c_1
    have lp_4 : ∀ (n : Nat) (x_3 : Int32) (H : Heap) (locs : List Loc) (ls : Array Slot), 0 ≤ -x_3.toInt + 1600 → 0 ≤ -x10.toInt + x_3.toInt → -x_3.toInt + 1600 < n → va_P D vwCl [(h0, .inr (4, [.ref h1, .ref h2, .ref h3, .ref h4, .ref h5, .ref h6, .int x7, .ref h8, .ref h9, .int x_3, .int x11, .int x12, .long y13, .int x14, .int x15, .int x16])), (h6, .inl (cB, 1600, .inl f17)), (h1, .inl (cJ, 21, .inr (.inl f18)))] H → va_D A [(h0, .inr (4, [.ref h1, .ref h2, .ref h3, .ref h4, .ref h5, .ref h6, .int x7, .ref h8, .ref h9, .int x_3, .int x11, .int x12, .long y13, .int x14, .int x15, .int x16])), (h6, .inl (cB, 1600, .inl f17)), (h1, .inl (cJ, 21, .inr (.inl f18)))] → va_S A s.heap H locs → lv_has ls 2 [(0, .ref h0)] → W p l e (rmL 5 0 0) s m [.ref h0].toArray below meth c H locs 0 0 (ZX D below [.ref h0] s (rmL 5 0 0) [(h0, .inr (4, [.ref h1, .ref h2, .ref h3, .ref h4, .ref h5, .ref h6, .int x7, .ref h8, .ref h9, .int x10, .int x11, .int x12, .long y13, .int x14, .int x15, .int x16])), (h6, .inl (cB, 1600, .inl f17)), (h1, .inl (cJ, 21, .inr (.inl f18)))] (fun r w1 => ∃ z1 : Int32, ∃ z2 : Int32, ∃ z3 : Int32, ∃ z4 : Int64, ∃ z5 : Int32, 0 ≤ z1.toInt ∧ 0 ≤ -z1.toInt + 1600 ∧ 0 ≤ z2.toInt ∧ 0 ≤ -z2.toInt + 1600 ∧ r = none ∧ w1 = [(h0, .inr (4, [.ref h1, .ref h2, .ref h3, .ref h4, .ref h5, .ref h6, .int x7, .ref h8, .ref h9, .int z1, .int z2, .int z3, .long z4, .int z5, .int x15, .int x16])), (h6, .inl (cB, 1600, .inl f17)), (h1, .inl (cJ, 21, .inr (.inl f18)))])) (F0 m 8 ls []) := by
      intro n
      induction n with
      | zero => intro x_3 H locs ls g_5 g_6 g_7; omega
      | succ n ihlp_4 =>
        intro x_3 H locs ls g_5 g_6 g_7 hP hD hS hl
        refine lv_aload_n hx hb dX4_step_8 rfl (lv_at hl 0 rfl) ?_
        refine va_get (D := D) (ci := 4) (v := .int x_3) (C := RX4) (T := TX4) (N := 16) hx hb hts inX4 hown hG.1 hP 0 rfl rfl 9 (by decide) (hts _ kw369) (fun _ h9 => h9) rfl dX4_step_9 ?_
        refine lv_aload_n hx hb dX4_step_12 rfl (lv_at hl 0 rfl) ?_
        refine va_get (D := D) (ci := 4) (v := .int x7) (C := RX4) (T := TX4) (N := 16) hx hb hts inX4 hown hG.1 hP 0 rfl rfl 6 (by decide) (hts _ kw366) (fun _ h9 => h9) rfl dX4_step_13 ?_
        refine lv_icmp_ge (tgt := 60) hx hb dX4_step_16 (by decide) (fun c_8 => ?_) (fun c_8 => ?_)
        · have fc_8 : x7.toInt ≤ x_3.toInt := i_le rfl rfl c_8
          refine lv_aload_n hx hb dX4_step_60 rfl (lv_at hl 0 rfl) ?_
          refine lv_aload_n hx hb dX4_step_61 rfl (lv_at hl 0 rfl) ?_
          refine va_get (D := D) (ci := 4) (v := .int x_3) (C := RX4) (T := TX4) (N := 16) hx hb hts inX4 hown hG.1 hP 0 rfl rfl 9 (by decide) (hts _ kw369) (fun _ h9 => h9) rfl dX4_step_62 ?_
          refine va_put (D := D) (ci := 4) (v := .int x_3) (ty := .int) (C := RX4) (T := TX4) (N := 16) hx hb hts inX4 tyX4 tyX4_ok nmX4 hown hG.1 hP hD hS 0 rfl rfl 10 (by decide) (hts _ kw370) (fun _ h9 => h9) rfl (by decide +kernel) rfl rfl (Nat.le_of_ble_eq_true rfl) dX4_step_65 (fun H locs hP hD hS => ?_)
          have hP : va_P D vwCl [(h0, .inr (4, [.ref h1, .ref h2, .ref h3, .ref h4, .ref h5, .ref h6, .int x7, .ref h8, .ref h9, .int x_3, .int x_3, .int x12, .long y13, .int x14, .int x15, .int x16])), (h6, .inl (cB, 1600, .inl f17)), (h1, .inl (cJ, 21, .inr (.inl f18)))] H := hP
          have hD : va_D A [(h0, .inr (4, [.ref h1, .ref h2, .ref h3, .ref h4, .ref h5, .ref h6, .int x7, .ref h8, .ref h9, .int x_3, .int x_3, .int x12, .long y13, .int x14, .int x15, .int x16])), (h6, .inl (cB, 1600, .inl f17)), (h1, .inl (cJ, 21, .inr (.inl f18)))] := hD
          refine lv_aload_n hx hb dX4_step_68 rfl (lv_at hl 0 rfl) ?_
          refine va_get (D := D) (ci := 4) (v := .int x_3) (C := RX4) (T := TX4) (N := 16) hx hb hts inX4 hown hG.1 hP 0 rfl rfl 9 (by decide) (hts _ kw369) (fun _ h9 => h9) rfl dX4_step_69 ?_
          refine lv_aload_n hx hb dX4_step_72 rfl (lv_at hl 0 rfl) ?_
          refine va_get (D := D) (ci := 4) (v := .int x7) (C := RX4) (T := TX4) (N := 16) hx hb hts inX4 hown hG.1 hP 0 rfl rfl 6 (by decide) (hts _ kw366) (fun _ h9 => h9) rfl dX4_step_73 ?_
          refine lv_icmp_lt (tgt := 85) hx hb dX4_step_76 (by decide) (fun c_9 => by exfalso; have fc_9 : x_3.toInt < x7.toInt := i_lt rfl rfl c_9; omega) (fun c_9 => ?_)
          have fc_9 : x7.toInt ≤ x_3.toInt := i_nlt rfl rfl c_9
          refine lv_aload_n hx hb dX4_step_79 rfl (lv_at hl 0 rfl) ?_
          refine lv_iconst (v := 0) hx hb dX4_step_80 (by decide +kernel) ?_
          refine va_put (D := D) (ci := 4) (v := .int 0) (ty := .int) (C := RX4) (T := TX4) (N := 16) hx hb hts inX4 tyX4 tyX4_ok nmX4 hown hG.1 hP hD hS 0 rfl rfl 11 (by decide) (hts _ kw371) (fun _ h9 => h9) rfl (by decide +kernel) rfl rfl (Nat.le_of_ble_eq_true rfl) dX4_step_81 (fun H locs hP hD hS => ?_)
          have hP : va_P D vwCl [(h0, .inr (4, [.ref h1, .ref h2, .ref h3, .ref h4, .ref h5, .ref h6, .int x7, .ref h8, .ref h9, .int x_3, .int x_3, .int 0, .long y13, .int x14, .int x15, .int x16])), (h6, .inl (cB, 1600, .inl f17)), (h1, .inl (cJ, 21, .inr (.inl f18)))] H := hP
          have hD : va_D A [(h0, .inr (4, [.ref h1, .ref h2, .ref h3, .ref h4, .ref h5, .ref h6, .int x7, .ref h8, .ref h9, .int x_3, .int x_3, .int 0, .long y13, .int x14, .int x15, .int x16])), (h6, .inl (cB, 1600, .inl f17)), (h1, .inl (cJ, 21, .inr (.inl f18)))] := hD
          have hP9 := hP.sub (ws' := [(h0, .inr (4, [.ref h1, .ref h2, .ref h3, .ref h4, .ref h5, .ref h6, .int x7, .ref h8, .ref h9, .int x_3, .int x_3, .int 0, .long y13, .int x14, .int x15, .int x16])), (h6, .inl (cB, 1600, .inl f17)), (h1, .inl (cJ, 21, .inr (.inl f18)))]) [0, 1, 2] rfl
          have hD9 := hD.sub (ws' := [(h0, .inr (4, [.ref h1, .ref h2, .ref h3, .ref h4, .ref h5, .ref h6, .int x7, .ref h8, .ref h9, .int x_3, .int x_3, .int 0, .long y13, .int x14, .int x15, .int x16])), (h6, .inl (cB, 1600, .inl f17)), (h1, .inl (cJ, 21, .inr (.inl f18)))]) [0, 1, 2] (by decide) rfl
          exact xr_v (rm := (rmL 5 0 0)) hx hb hr hlocks hAe hS hP9 hD9 (Nat.le_of_ble_eq_true rfl) (Nat.le_of_ble_eq_true rfl) dX4_step_84 ⟨x_3, x_3, 0, y13, x14, by have zc0 : (0 : Int32).toInt = 0 := (by decide); omega, by have zc0 : (0 : Int32).toInt = 0 := (by decide); omega, by have zc0 : (0 : Int32).toInt = 0 := (by decide); omega, by have zc0 : (0 : Int32).toInt = 0 := (by decide); omega, rfl, rfl⟩
        · have fc_8 : x_3.toInt < x7.toInt := i_nle rfl rfl c_8
          refine lv_aload_n hx hb dX4_step_19 rfl (lv_at hl 0 rfl) ?_
          refine va_get (D := D) (ci := 4) (v := .ref h6) (C := RX4) (T := TX4) (N := 16) hx hb hts inX4 hown hG.1 hP 0 rfl rfl 5 (by decide) (hts _ kw365) (fun _ h9 => h9) rfl dX4_step_20 ?_
          refine lv_aload_n hx hb dX4_step_23 rfl (lv_at hl 0 rfl) ?_
          refine va_get (D := D) (ci := 4) (v := .int x_3) (C := RX4) (T := TX4) (N := 16) hx hb hts inX4 hown hG.1 hP 0 rfl rfl 9 (by decide) (hts _ kw369) (fun _ h9 => h9) rfl dX4_step_24 ?_
          refine xa_bldU hx hb hG hP 1 rfl (vp_in_iff.mpr ⟨by omega, by omega⟩) dX4_step_27 (fun v_10 => ?_)
          refine lv_bipush (v := 32) hx hb dX4_step_28 (by decide +kernel) ?_
          refine lv_icmp_eq (tgt := 47) hx hb dX4_step_30 (by decide) (fun c_11 => ?_) (fun c_11 => ?_)
          · have fc_11 : v_10.toInt = (32 : Int) := i_eq rfl (by decide) c_11
            refine lv_aload_n hx hb dX4_step_47 rfl (lv_at hl 0 rfl) ?_
            refine lv_dup hx hb dX4_step_48 rfl ?_
            refine va_get (D := D) (ci := 4) (v := .int x_3) (C := RX4) (T := TX4) (N := 16) hx hb hts inX4 hown hG.1 hP 0 rfl rfl 9 (by decide) (hts _ kw369) (fun _ h9 => h9) rfl dX4_step_49 ?_
            refine lv_iconst (v := 1) hx hb dX4_step_52 (by decide +kernel) ?_
            refine lv_iadd hx hb dX4_step_53 ?_
            refine lv_topi (fun v_12 ev_12 => ?_)
            have gv_12 : v_12.toInt = x_3.toInt + (1 : Int) := by
              have zx : (x_3 : Int32).toInt = x_3.toInt := rfl
              have zy : (1 : Int32).toInt = (1 : Int) := (by decide)
              rw [ev_12, i32_add (by rw [zx, zy]; omega) (by rw [zx, zy]; omega), zx, zy]
            refine va_put (D := D) (ci := 4) (v := .int v_12) (ty := .int) (C := RX4) (T := TX4) (N := 16) hx hb hts inX4 tyX4 tyX4_ok nmX4 hown hG.1 hP hD hS 0 rfl rfl 9 (by decide) (hts _ kw369) (fun _ h9 => h9) rfl (by decide +kernel) rfl rfl (Nat.le_of_ble_eq_true rfl) dX4_step_54 (fun H locs hP hD hS => ?_)
            have hP : va_P D vwCl [(h0, .inr (4, [.ref h1, .ref h2, .ref h3, .ref h4, .ref h5, .ref h6, .int x7, .ref h8, .ref h9, .int v_12, .int x11, .int x12, .long y13, .int x14, .int x15, .int x16])), (h6, .inl (cB, 1600, .inl f17)), (h1, .inl (cJ, 21, .inr (.inl f18)))] H := hP
            have hD : va_D A [(h0, .inr (4, [.ref h1, .ref h2, .ref h3, .ref h4, .ref h5, .ref h6, .int x7, .ref h8, .ref h9, .int v_12, .int x11, .int x12, .long y13, .int x14, .int x15, .int x16])), (h6, .inl (cB, 1600, .inl f17)), (h1, .inl (cJ, 21, .inr (.inl f18)))] := hD
            refine lv_goto (tgt := 8) hx hb dX4_step_57 (by decide) ?_
            exact ihlp_4  v_12 _ _ _ (by omega) (by omega) (by omega) (hP.sub (ws' := [(h0, .inr (4, [.ref h1, .ref h2, .ref h3, .ref h4, .ref h5, .ref h6, .int x7, .ref h8, .ref h9, .int v_12, .int x11, .int x12, .long y13, .int x14, .int x15, .int x16])), (h6, .inl (cB, 1600, .inl f17)), (h1, .inl (cJ, 21, .inr (.inl f18)))]) [0, 1, 2] rfl) (hD.sub (ws' := [(h0, .inr (4, [.ref h1, .ref h2, .ref h3, .ref h4, .ref h5, .ref h6, .int x7, .ref h8, .ref h9, .int v_12, .int x11, .int x12, .long y13, .int x14, .int x15, .int x16])), (h6, .inl (cB, 1600, .inl f17)), (h1, .inl (cJ, 21, .inr (.inl f18)))]) [0, 1, 2] (by decide) rfl) hS (lv_sub hl [0] rfl)
          · have fc_11 : v_10.toInt ≠ (32 : Int) := i_ne rfl (by decide) c_11
            refine lv_aload_n hx hb dX4_step_33 rfl (lv_at hl 0 rfl) ?_
            refine va_get (D := D) (ci := 4) (v := .ref h6) (C := RX4) (T := TX4) (N := 16) hx hb hts inX4 hown hG.1 hP 0 rfl rfl 5 (by decide) (hts _ kw365) (fun _ h9 => h9) rfl dX4_step_34 ?_
            refine lv_aload_n hx hb dX4_step_37 rfl (lv_at hl 0 rfl) ?_
            refine va_get (D := D) (ci := 4) (v := .int x_3) (C := RX4) (T := TX4) (N := 16) hx hb hts inX4 hown hG.1 hP 0 rfl rfl 9 (by decide) (hts _ kw369) (fun _ h9 => h9) rfl dX4_step_38 ?_
            refine xa_bldU hx hb hG hP 1 rfl (vp_in_iff.mpr ⟨by omega, by omega⟩) dX4_step_41 (fun v_13 => ?_)
            refine lv_bipush (v := 10) hx hb dX4_step_42 (by decide +kernel) ?_
            refine lv_icmp_ne (tgt := 60) hx hb dX4_step_44 (by decide) (fun c_14 => ?_) (fun c_14 => ?_)
            · have fc_14 : v_13.toInt ≠ (10 : Int) := i_ne rfl (by decide) c_14
              refine lv_aload_n hx hb dX4_step_60 rfl (lv_at hl 0 rfl) ?_
              refine lv_aload_n hx hb dX4_step_61 rfl (lv_at hl 0 rfl) ?_
              refine va_get (D := D) (ci := 4) (v := .int x_3) (C := RX4) (T := TX4) (N := 16) hx hb hts inX4 hown hG.1 hP 0 rfl rfl 9 (by decide) (hts _ kw369) (fun _ h9 => h9) rfl dX4_step_62 ?_
              refine va_put (D := D) (ci := 4) (v := .int x_3) (ty := .int) (C := RX4) (T := TX4) (N := 16) hx hb hts inX4 tyX4 tyX4_ok nmX4 hown hG.1 hP hD hS 0 rfl rfl 10 (by decide) (hts _ kw370) (fun _ h9 => h9) rfl (by decide +kernel) rfl rfl (Nat.le_of_ble_eq_true rfl) dX4_step_65 (fun H locs hP hD hS => ?_)
              have hP : va_P D vwCl [(h0, .inr (4, [.ref h1, .ref h2, .ref h3, .ref h4, .ref h5, .ref h6, .int x7, .ref h8, .ref h9, .int x_3, .int x_3, .int x12, .long y13, .int x14, .int x15, .int x16])), (h6, .inl (cB, 1600, .inl f17)), (h1, .inl (cJ, 21, .inr (.inl f18)))] H := hP
              have hD : va_D A [(h0, .inr (4, [.ref h1, .ref h2, .ref h3, .ref h4, .ref h5, .ref h6, .int x7, .ref h8, .ref h9, .int x_3, .int x_3, .int x12, .long y13, .int x14, .int x15, .int x16])), (h6, .inl (cB, 1600, .inl f17)), (h1, .inl (cJ, 21, .inr (.inl f18)))] := hD
              refine lv_aload_n hx hb dX4_step_68 rfl (lv_at hl 0 rfl) ?_
              refine va_get (D := D) (ci := 4) (v := .int x_3) (C := RX4) (T := TX4) (N := 16) hx hb hts inX4 hown hG.1 hP 0 rfl rfl 9 (by decide) (hts _ kw369) (fun _ h9 => h9) rfl dX4_step_69 ?_
              refine lv_aload_n hx hb dX4_step_72 rfl (lv_at hl 0 rfl) ?_
              refine va_get (D := D) (ci := 4) (v := .int x7) (C := RX4) (T := TX4) (N := 16) hx hb hts inX4 hown hG.1 hP 0 rfl rfl 6 (by decide) (hts _ kw366) (fun _ h9 => h9) rfl dX4_step_73 ?_
              refine lv_icmp_lt (tgt := 85) hx hb dX4_step_76 (by decide) (fun c_15 => ?_) (fun c_15 => by exfalso; have fc_15 : x7.toInt ≤ x_3.toInt := i_nlt rfl rfl c_15; omega)
              have fc_15 : x_3.toInt < x7.toInt := i_lt rfl rfl c_15
              refine lv_aload_n hx hb dX4_step_85 rfl (lv_at hl 0 rfl) ?_
              refine va_get (D := D) (ci := 4) (v := .ref h6) (C := RX4) (T := TX4) (N := 16) hx hb hts inX4 hown hG.1 hP 0 rfl rfl 5 (by decide) (hts _ kw365) (fun _ h9 => h9) rfl dX4_step_86 ?_
              refine lv_aload_n hx hb dX4_step_89 rfl (lv_at hl 0 rfl) ?_
              refine va_get (D := D) (ci := 4) (v := .int x_3) (C := RX4) (T := TX4) (N := 16) hx hb hts inX4 hown hG.1 hP 0 rfl rfl 9 (by decide) (hts _ kw369) (fun _ h9 => h9) rfl dX4_step_90 ?_
              refine xa_bldU hx hb hG hP 1 rfl (vp_in_iff.mpr ⟨by omega, by omega⟩) dX4_step_93 (fun v_16 => ?_)
              refine lv_istore_n (lv' := [(1, .int v_16), (0, .ref h0)]) hx hb dX4_step_94 rfl hl (by decide) rfl (fun ls hl => ?_)
              refine lv_iload_n hx hb dX4_step_95 rfl (lv_at hl 0 rfl) ?_
              refine lv_bipush (v := 97) hx hb dX4_step_96 (by decide +kernel) ?_
              refine lv_icmp_lt (tgt := 114) hx hb dX4_step_98 (by decide) (fun c_17 => ?_) (fun c_17 => ?_)
              · have fc_17 : v_16.toInt < (97 : Int) := i_lt rfl (by decide) c_17
                refine lv_iload_n hx hb dX4_step_114 rfl (lv_at hl 0 rfl) ?_
                refine lv_bipush (v := 48) hx hb dX4_step_115 (by decide +kernel) ?_
                refine lv_icmp_lt (tgt := 133) hx hb dX4_step_117 (by decide) (fun c_18 => ?_) (fun c_18 => ?_)
                · have fc_18 : v_16.toInt < (48 : Int) := i_lt rfl (by decide) c_18
                  refine lv_aload_n hx hb dX4_step_133 rfl (lv_at hl 1 rfl) ?_
                  refine lv_iload_n hx hb dX4_step_134 rfl (lv_at hl 0 rfl) ?_
                  refine lv_if_le (tgt := 152) hx hb dX4_step_135 (by decide) (fun c_19 => ?_) (fun c_19 => ?_)
                  · have fc_19 : v_16.toInt ≤ (0 : Int) := i_le rfl (by decide) c_19
                    refine lv_iconst (v := 1) hx hb dX4_step_152 (by decide +kernel) ?_
                    refine va_put (D := D) (ci := 4) (v := .int 1) (ty := .int) (C := RX4) (T := TX4) (N := 16) hx hb hts inX4 tyX4 tyX4_ok nmX4 hown hG.1 hP hD hS 0 rfl rfl 11 (by decide) (hts _ kw371) (fun _ h9 => h9) rfl (by decide +kernel) rfl rfl (Nat.le_of_ble_eq_true rfl) dX4_step_153 (fun H locs hP hD hS => ?_)
                    have hP : va_P D vwCl [(h0, .inr (4, [.ref h1, .ref h2, .ref h3, .ref h4, .ref h5, .ref h6, .int x7, .ref h8, .ref h9, .int x_3, .int x_3, .int 1, .long y13, .int x14, .int x15, .int x16])), (h6, .inl (cB, 1600, .inl f17)), (h1, .inl (cJ, 21, .inr (.inl f18)))] H := hP
                    have hD : va_D A [(h0, .inr (4, [.ref h1, .ref h2, .ref h3, .ref h4, .ref h5, .ref h6, .int x7, .ref h8, .ref h9, .int x_3, .int x_3, .int 1, .long y13, .int x14, .int x15, .int x16])), (h6, .inl (cB, 1600, .inl f17)), (h1, .inl (cJ, 21, .inr (.inl f18)))] := hD
                    refine lv_aload_n hx hb dX4_step_156 rfl (lv_at hl 1 rfl) ?_
                    refine lv_dup hx hb dX4_step_157 rfl ?_
                    refine va_get (D := D) (ci := 4) (v := .int x_3) (C := RX4) (T := TX4) (N := 16) hx hb hts inX4 hown hG.1 hP 0 rfl rfl 9 (by decide) (hts _ kw369) (fun _ h9 => h9) rfl dX4_step_158 ?_
                    refine lv_iconst (v := 1) hx hb dX4_step_161 (by decide +kernel) ?_
                    refine lv_iadd hx hb dX4_step_162 ?_
                    refine lv_topi (fun v_20 ev_20 => ?_)
                    have gv_20 : v_20.toInt = x_3.toInt + (1 : Int) := by
                      have zx : (x_3 : Int32).toInt = x_3.toInt := rfl
                      have zy : (1 : Int32).toInt = (1 : Int) := (by decide)
                      rw [ev_20, i32_add (by rw [zx, zy]; omega) (by rw [zx, zy]; omega), zx, zy]
                    refine va_put (D := D) (ci := 4) (v := .int v_20) (ty := .int) (C := RX4) (T := TX4) (N := 16) hx hb hts inX4 tyX4 tyX4_ok nmX4 hown hG.1 hP hD hS 0 rfl rfl 9 (by decide) (hts _ kw369) (fun _ h9 => h9) rfl (by decide +kernel) rfl rfl (Nat.le_of_ble_eq_true rfl) dX4_step_163 (fun H locs hP hD hS => ?_)
                    have hP : va_P D vwCl [(h0, .inr (4, [.ref h1, .ref h2, .ref h3, .ref h4, .ref h5, .ref h6, .int x7, .ref h8, .ref h9, .int v_20, .int x_3, .int 1, .long y13, .int x14, .int x15, .int x16])), (h6, .inl (cB, 1600, .inl f17)), (h1, .inl (cJ, 21, .inr (.inl f18)))] H := hP
                    have hD : va_D A [(h0, .inr (4, [.ref h1, .ref h2, .ref h3, .ref h4, .ref h5, .ref h6, .int x7, .ref h8, .ref h9, .int v_20, .int x_3, .int 1, .long y13, .int x14, .int x15, .int x16])), (h6, .inl (cB, 1600, .inl f17)), (h1, .inl (cJ, 21, .inr (.inl f18)))] := hD
                    have hP9 := hP.sub (ws' := [(h0, .inr (4, [.ref h1, .ref h2, .ref h3, .ref h4, .ref h5, .ref h6, .int x7, .ref h8, .ref h9, .int v_20, .int x_3, .int 1, .long y13, .int x14, .int x15, .int x16])), (h6, .inl (cB, 1600, .inl f17)), (h1, .inl (cJ, 21, .inr (.inl f18)))]) [0, 1, 2] rfl
                    have hD9 := hD.sub (ws' := [(h0, .inr (4, [.ref h1, .ref h2, .ref h3, .ref h4, .ref h5, .ref h6, .int x7, .ref h8, .ref h9, .int v_20, .int x_3, .int 1, .long y13, .int x14, .int x15, .int x16])), (h6, .inl (cB, 1600, .inl f17)), (h1, .inl (cJ, 21, .inr (.inl f18)))]) [0, 1, 2] (by decide) rfl
                    exact xr_v (rm := (rmL 5 0 0)) hx hb hr hlocks hAe hS hP9 hD9 (Nat.le_of_ble_eq_true rfl) (Nat.le_of_ble_eq_true rfl) dX4_step_166 ⟨v_20, x_3, 1, y13, x14, by have zc1 : (1 : Int32).toInt = 1 := (by decide); omega, by have zc1 : (1 : Int32).toInt = 1 := (by decide); omega, by have zc1 : (1 : Int32).toInt = 1 := (by decide); omega, by have zc1 : (1 : Int32).toInt = 1 := (by decide); omega, rfl, rfl⟩
                  · have fc_19 : (0 : Int) < v_16.toInt := i_nle rfl (by decide) c_19
                    refine va_ldcS hx hb hown hE.2.2.2.1 dX4_step_138 ?_
                    refine lv_iload_n hx hb dX4_step_140 rfl (lv_at hl 0 rfl) ?_
                    refine lv_i2c hx hb dX4_step_141 rfl ?_
                    refine xt_any (fun v_21 => ?_)
                    refine xc_core (wr := [(h0, .inr (4, [.ref h1, .ref h2, .ref h3, .ref h4, .ref h5, .ref h6, .int x7, .ref h8, .ref h9, .int x_3, .int x_3, .int x12, .long y13, .int x14, .int x15, .int x16])), (h6, .inl (cB, 1600, .inl f17)), (h1, .inl (cJ, 21, .inr (.inl f18)))]) (k := 0) (n := 0) (xc_runVK (As := [.int v_21]) (rest := [.ref h0]) hx hb hml hown hts hG hE hP hD hS hA [] (by decide) rfl (sJ0_indexOf_0f7a4_1 l D cB cI cJ cZ aK aV v_21) kw670 kw667 kw668 kw669 kw117 (show XD yJ0_indexOf_0f7a4 1 from by decide +kernel) (by decide) (vk_recv hE.1 (i := 1) (by decide) hS) hl.1 rfl (Nat.le_of_ble_eq_true rfl) dX4_step_142 (by decide)) hP hD hS hA [] [0, 1, 2] rfl rfl (by decide) (by decide) (Nat.le_of_ble_eq_true rfl) (Nat.le_of_ble_eq_true rfl) (fun r w1 H locs hpost hP hD hS => ?_)
                    obtain ⟨v_22, g_23, g_24, rfl, rfl⟩ := hpost
                    have hP : va_P D vwCl [(h0, .inr (4, [.ref h1, .ref h2, .ref h3, .ref h4, .ref h5, .ref h6, .int x7, .ref h8, .ref h9, .int x_3, .int x_3, .int x12, .long y13, .int x14, .int x15, .int x16])), (h6, .inl (cB, 1600, .inl f17)), (h1, .inl (cJ, 21, .inr (.inl f18)))] H := hP
                    have hD : va_D A [(h0, .inr (4, [.ref h1, .ref h2, .ref h3, .ref h4, .ref h5, .ref h6, .int x7, .ref h8, .ref h9, .int x_3, .int x_3, .int x12, .long y13, .int x14, .int x15, .int x16])), (h6, .inl (cB, 1600, .inl f17)), (h1, .inl (cJ, 21, .inr (.inl f18)))] := hD
                    refine lv_if_lt (tgt := 152) hx hb dX4_step_145 (by decide) (fun c_25 => ?_) (fun c_25 => ?_)
                    · have fc_25 : v_22.toInt < (0 : Int) := i_lt rfl (by decide) c_25
                      refine lv_iconst (v := 1) hx hb dX4_step_152 (by decide +kernel) ?_
                      refine va_put (D := D) (ci := 4) (v := .int 1) (ty := .int) (C := RX4) (T := TX4) (N := 16) hx hb hts inX4 tyX4 tyX4_ok nmX4 hown hG.1 hP hD hS 0 rfl rfl 11 (by decide) (hts _ kw371) (fun _ h9 => h9) rfl (by decide +kernel) rfl rfl (Nat.le_of_ble_eq_true rfl) dX4_step_153 (fun H locs hP hD hS => ?_)
                      have hP : va_P D vwCl [(h0, .inr (4, [.ref h1, .ref h2, .ref h3, .ref h4, .ref h5, .ref h6, .int x7, .ref h8, .ref h9, .int x_3, .int x_3, .int 1, .long y13, .int x14, .int x15, .int x16])), (h6, .inl (cB, 1600, .inl f17)), (h1, .inl (cJ, 21, .inr (.inl f18)))] H := hP
                      have hD : va_D A [(h0, .inr (4, [.ref h1, .ref h2, .ref h3, .ref h4, .ref h5, .ref h6, .int x7, .ref h8, .ref h9, .int x_3, .int x_3, .int 1, .long y13, .int x14, .int x15, .int x16])), (h6, .inl (cB, 1600, .inl f17)), (h1, .inl (cJ, 21, .inr (.inl f18)))] := hD
                      refine lv_aload_n hx hb dX4_step_156 rfl (lv_at hl 1 rfl) ?_
                      refine lv_dup hx hb dX4_step_157 rfl ?_
                      refine va_get (D := D) (ci := 4) (v := .int x_3) (C := RX4) (T := TX4) (N := 16) hx hb hts inX4 hown hG.1 hP 0 rfl rfl 9 (by decide) (hts _ kw369) (fun _ h9 => h9) rfl dX4_step_158 ?_
                      refine lv_iconst (v := 1) hx hb dX4_step_161 (by decide +kernel) ?_
                      refine lv_iadd hx hb dX4_step_162 ?_
                      refine lv_topi (fun v_26 ev_26 => ?_)
                      have gv_26 : v_26.toInt = x_3.toInt + (1 : Int) := by
                        have zx : (x_3 : Int32).toInt = x_3.toInt := rfl
                        have zy : (1 : Int32).toInt = (1 : Int) := (by decide)
                        rw [ev_26, i32_add (by rw [zx, zy]; omega) (by rw [zx, zy]; omega), zx, zy]
                      refine va_put (D := D) (ci := 4) (v := .int v_26) (ty := .int) (C := RX4) (T := TX4) (N := 16) hx hb hts inX4 tyX4 tyX4_ok nmX4 hown hG.1 hP hD hS 0 rfl rfl 9 (by decide) (hts _ kw369) (fun _ h9 => h9) rfl (by decide +kernel) rfl rfl (Nat.le_of_ble_eq_true rfl) dX4_step_163 (fun H locs hP hD hS => ?_)
                      have hP : va_P D vwCl [(h0, .inr (4, [.ref h1, .ref h2, .ref h3, .ref h4, .ref h5, .ref h6, .int x7, .ref h8, .ref h9, .int v_26, .int x_3, .int 1, .long y13, .int x14, .int x15, .int x16])), (h6, .inl (cB, 1600, .inl f17)), (h1, .inl (cJ, 21, .inr (.inl f18)))] H := hP
                      have hD : va_D A [(h0, .inr (4, [.ref h1, .ref h2, .ref h3, .ref h4, .ref h5, .ref h6, .int x7, .ref h8, .ref h9, .int v_26, .int x_3, .int 1, .long y13, .int x14, .int x15, .int x16])), (h6, .inl (cB, 1600, .inl f17)), (h1, .inl (cJ, 21, .inr (.inl f18)))] := hD
                      have hP9 := hP.sub (ws' := [(h0, .inr (4, [.ref h1, .ref h2, .ref h3, .ref h4, .ref h5, .ref h6, .int x7, .ref h8, .ref h9, .int v_26, .int x_3, .int 1, .long y13, .int x14, .int x15, .int x16])), (h6, .inl (cB, 1600, .inl f17)), (h1, .inl (cJ, 21, .inr (.inl f18)))]) [0, 1, 2] rfl
                      have hD9 := hD.sub (ws' := [(h0, .inr (4, [.ref h1, .ref h2, .ref h3, .ref h4, .ref h5, .ref h6, .int x7, .ref h8, .ref h9, .int v_26, .int x_3, .int 1, .long y13, .int x14, .int x15, .int x16])), (h6, .inl (cB, 1600, .inl f17)), (h1, .inl (cJ, 21, .inr (.inl f18)))]) [0, 1, 2] (by decide) rfl
                      exact xr_v (rm := (rmL 5 0 0)) hx hb hr hlocks hAe hS hP9 hD9 (Nat.le_of_ble_eq_true rfl) (Nat.le_of_ble_eq_true rfl) dX4_step_166 ⟨v_26, x_3, 1, y13, x14, by have zc1 : (1 : Int32).toInt = 1 := (by decide); omega, by have zc1 : (1 : Int32).toInt = 1 := (by decide); omega, by have zc1 : (1 : Int32).toInt = 1 := (by decide); omega, by have zc1 : (1 : Int32).toInt = 1 := (by decide); omega, rfl, rfl⟩
                    · have fc_25 : (0 : Int) ≤ v_22.toInt := i_nlt rfl (by decide) c_25
                      refine lv_iload_n hx hb dX4_step_148 rfl (lv_at hl 0 rfl) ?_
                      refine lv_goto (tgt := 153) hx hb dX4_step_149 (by decide) ?_
                      refine va_put (D := D) (ci := 4) (v := .int v_16) (ty := .int) (C := RX4) (T := TX4) (N := 16) hx hb hts inX4 tyX4 tyX4_ok nmX4 hown hG.1 hP hD hS 0 rfl rfl 11 (by decide) (hts _ kw371) (fun _ h9 => h9) rfl (by decide +kernel) rfl rfl (Nat.le_of_ble_eq_true rfl) dX4_step_153 (fun H locs hP hD hS => ?_)
                      have hP : va_P D vwCl [(h0, .inr (4, [.ref h1, .ref h2, .ref h3, .ref h4, .ref h5, .ref h6, .int x7, .ref h8, .ref h9, .int x_3, .int x_3, .int v_16, .long y13, .int x14, .int x15, .int x16])), (h6, .inl (cB, 1600, .inl f17)), (h1, .inl (cJ, 21, .inr (.inl f18)))] H := hP
                      have hD : va_D A [(h0, .inr (4, [.ref h1, .ref h2, .ref h3, .ref h4, .ref h5, .ref h6, .int x7, .ref h8, .ref h9, .int x_3, .int x_3, .int v_16, .long y13, .int x14, .int x15, .int x16])), (h6, .inl (cB, 1600, .inl f17)), (h1, .inl (cJ, 21, .inr (.inl f18)))] := hD
                      refine lv_aload_n hx hb dX4_step_156 rfl (lv_at hl 1 rfl) ?_
                      refine lv_dup hx hb dX4_step_157 rfl ?_
                      refine va_get (D := D) (ci := 4) (v := .int x_3) (C := RX4) (T := TX4) (N := 16) hx hb hts inX4 hown hG.1 hP 0 rfl rfl 9 (by decide) (hts _ kw369) (fun _ h9 => h9) rfl dX4_step_158 ?_
                      refine lv_iconst (v := 1) hx hb dX4_step_161 (by decide +kernel) ?_
                      refine lv_iadd hx hb dX4_step_162 ?_
                      refine lv_topi (fun v_27 ev_27 => ?_)
                      have gv_27 : v_27.toInt = x_3.toInt + (1 : Int) := by
                        have zx : (x_3 : Int32).toInt = x_3.toInt := rfl
                        have zy : (1 : Int32).toInt = (1 : Int) := (by decide)
                        rw [ev_27, i32_add (by rw [zx, zy]; omega) (by rw [zx, zy]; omega), zx, zy]
                      refine va_put (D := D) (ci := 4) (v := .int v_27) (ty := .int) (C := RX4) (T := TX4) (N := 16) hx hb hts inX4 tyX4 tyX4_ok nmX4 hown hG.1 hP hD hS 0 rfl rfl 9 (by decide) (hts _ kw369) (fun _ h9 => h9) rfl (by decide +kernel) rfl rfl (Nat.le_of_ble_eq_true rfl) dX4_step_163 (fun H locs hP hD hS => ?_)
                      have hP : va_P D vwCl [(h0, .inr (4, [.ref h1, .ref h2, .ref h3, .ref h4, .ref h5, .ref h6, .int x7, .ref h8, .ref h9, .int v_27, .int x_3, .int v_16, .long y13, .int x14, .int x15, .int x16])), (h6, .inl (cB, 1600, .inl f17)), (h1, .inl (cJ, 21, .inr (.inl f18)))] H := hP
                      have hD : va_D A [(h0, .inr (4, [.ref h1, .ref h2, .ref h3, .ref h4, .ref h5, .ref h6, .int x7, .ref h8, .ref h9, .int v_27, .int x_3, .int v_16, .long y13, .int x14, .int x15, .int x16])), (h6, .inl (cB, 1600, .inl f17)), (h1, .inl (cJ, 21, .inr (.inl f18)))] := hD
                      have hP9 := hP.sub (ws' := [(h0, .inr (4, [.ref h1, .ref h2, .ref h3, .ref h4, .ref h5, .ref h6, .int x7, .ref h8, .ref h9, .int v_27, .int x_3, .int v_16, .long y13, .int x14, .int x15, .int x16])), (h6, .inl (cB, 1600, .inl f17)), (h1, .inl (cJ, 21, .inr (.inl f18)))]) [0, 1, 2] rfl
                      have hD9 := hD.sub (ws' := [(h0, .inr (4, [.ref h1, .ref h2, .ref h3, .ref h4, .ref h5, .ref h6, .int x7, .ref h8, .ref h9, .int v_27, .int x_3, .int v_16, .long y13, .int x14, .int x15, .int x16])), (h6, .inl (cB, 1600, .inl f17)), (h1, .inl (cJ, 21, .inr (.inl f18)))]) [0, 1, 2] (by decide) rfl
                      exact xr_v (rm := (rmL 5 0 0)) hx hb hr hlocks hAe hS hP9 hD9 (Nat.le_of_ble_eq_true rfl) (Nat.le_of_ble_eq_true rfl) dX4_step_166 ⟨v_27, x_3, v_16, y13, x14, by omega, by omega, by omega, by omega, rfl, rfl⟩
                · have fc_18 : (48 : Int) ≤ v_16.toInt := i_nlt rfl (by decide) c_18
                  refine lv_iload_n hx hb dX4_step_120 rfl (lv_at hl 0 rfl) ?_
                  refine lv_bipush (v := 57) hx hb dX4_step_121 (by decide +kernel) ?_
                  refine lv_icmp_gt (tgt := 133) hx hb dX4_step_123 (by decide) (fun c_28 => ?_) (fun c_28 => ?_)
                  · have fc_28 : (57 : Int) < v_16.toInt := i_lt (by decide) rfl c_28
                    refine lv_aload_n hx hb dX4_step_133 rfl (lv_at hl 1 rfl) ?_
                    refine lv_iload_n hx hb dX4_step_134 rfl (lv_at hl 0 rfl) ?_
                    refine lv_if_le (tgt := 152) hx hb dX4_step_135 (by decide) (fun c_29 => by exfalso; have fc_29 : v_16.toInt ≤ (0 : Int) := i_le rfl (by decide) c_29; omega) (fun c_29 => ?_)
                    have fc_29 : (0 : Int) < v_16.toInt := i_nle rfl (by decide) c_29
                    refine va_ldcS hx hb hown hE.2.2.2.1 dX4_step_138 ?_
                    refine lv_iload_n hx hb dX4_step_140 rfl (lv_at hl 0 rfl) ?_
                    refine lv_i2c hx hb dX4_step_141 rfl ?_
                    refine xt_any (fun v_30 => ?_)
                    refine xc_core (wr := [(h0, .inr (4, [.ref h1, .ref h2, .ref h3, .ref h4, .ref h5, .ref h6, .int x7, .ref h8, .ref h9, .int x_3, .int x_3, .int x12, .long y13, .int x14, .int x15, .int x16])), (h6, .inl (cB, 1600, .inl f17)), (h1, .inl (cJ, 21, .inr (.inl f18)))]) (k := 0) (n := 0) (xc_runVK (As := [.int v_30]) (rest := [.ref h0]) hx hb hml hown hts hG hE hP hD hS hA [] (by decide) rfl (sJ0_indexOf_0f7a4_1 l D cB cI cJ cZ aK aV v_30) kw670 kw667 kw668 kw669 kw117 (show XD yJ0_indexOf_0f7a4 1 from by decide +kernel) (by decide) (vk_recv hE.1 (i := 1) (by decide) hS) hl.1 rfl (Nat.le_of_ble_eq_true rfl) dX4_step_142 (by decide)) hP hD hS hA [] [0, 1, 2] rfl rfl (by decide) (by decide) (Nat.le_of_ble_eq_true rfl) (Nat.le_of_ble_eq_true rfl) (fun r w1 H locs hpost hP hD hS => ?_)
                    obtain ⟨v_31, g_32, g_33, rfl, rfl⟩ := hpost
                    have hP : va_P D vwCl [(h0, .inr (4, [.ref h1, .ref h2, .ref h3, .ref h4, .ref h5, .ref h6, .int x7, .ref h8, .ref h9, .int x_3, .int x_3, .int x12, .long y13, .int x14, .int x15, .int x16])), (h6, .inl (cB, 1600, .inl f17)), (h1, .inl (cJ, 21, .inr (.inl f18)))] H := hP
                    have hD : va_D A [(h0, .inr (4, [.ref h1, .ref h2, .ref h3, .ref h4, .ref h5, .ref h6, .int x7, .ref h8, .ref h9, .int x_3, .int x_3, .int x12, .long y13, .int x14, .int x15, .int x16])), (h6, .inl (cB, 1600, .inl f17)), (h1, .inl (cJ, 21, .inr (.inl f18)))] := hD
                    refine lv_if_lt (tgt := 152) hx hb dX4_step_145 (by decide) (fun c_34 => ?_) (fun c_34 => ?_)
                    · have fc_34 : v_31.toInt < (0 : Int) := i_lt rfl (by decide) c_34
                      refine lv_iconst (v := 1) hx hb dX4_step_152 (by decide +kernel) ?_
                      refine va_put (D := D) (ci := 4) (v := .int 1) (ty := .int) (C := RX4) (T := TX4) (N := 16) hx hb hts inX4 tyX4 tyX4_ok nmX4 hown hG.1 hP hD hS 0 rfl rfl 11 (by decide) (hts _ kw371) (fun _ h9 => h9) rfl (by decide +kernel) rfl rfl (Nat.le_of_ble_eq_true rfl) dX4_step_153 (fun H locs hP hD hS => ?_)
                      have hP : va_P D vwCl [(h0, .inr (4, [.ref h1, .ref h2, .ref h3, .ref h4, .ref h5, .ref h6, .int x7, .ref h8, .ref h9, .int x_3, .int x_3, .int 1, .long y13, .int x14, .int x15, .int x16])), (h6, .inl (cB, 1600, .inl f17)), (h1, .inl (cJ, 21, .inr (.inl f18)))] H := hP
                      have hD : va_D A [(h0, .inr (4, [.ref h1, .ref h2, .ref h3, .ref h4, .ref h5, .ref h6, .int x7, .ref h8, .ref h9, .int x_3, .int x_3, .int 1, .long y13, .int x14, .int x15, .int x16])), (h6, .inl (cB, 1600, .inl f17)), (h1, .inl (cJ, 21, .inr (.inl f18)))] := hD
                      refine lv_aload_n hx hb dX4_step_156 rfl (lv_at hl 1 rfl) ?_
                      refine lv_dup hx hb dX4_step_157 rfl ?_
                      refine va_get (D := D) (ci := 4) (v := .int x_3) (C := RX4) (T := TX4) (N := 16) hx hb hts inX4 hown hG.1 hP 0 rfl rfl 9 (by decide) (hts _ kw369) (fun _ h9 => h9) rfl dX4_step_158 ?_
                      refine lv_iconst (v := 1) hx hb dX4_step_161 (by decide +kernel) ?_
                      refine lv_iadd hx hb dX4_step_162 ?_
                      refine lv_topi (fun v_35 ev_35 => ?_)
                      have gv_35 : v_35.toInt = x_3.toInt + (1 : Int) := by
                        have zx : (x_3 : Int32).toInt = x_3.toInt := rfl
                        have zy : (1 : Int32).toInt = (1 : Int) := (by decide)
                        rw [ev_35, i32_add (by rw [zx, zy]; omega) (by rw [zx, zy]; omega), zx, zy]
                      refine va_put (D := D) (ci := 4) (v := .int v_35) (ty := .int) (C := RX4) (T := TX4) (N := 16) hx hb hts inX4 tyX4 tyX4_ok nmX4 hown hG.1 hP hD hS 0 rfl rfl 9 (by decide) (hts _ kw369) (fun _ h9 => h9) rfl (by decide +kernel) rfl rfl (Nat.le_of_ble_eq_true rfl) dX4_step_163 (fun H locs hP hD hS => ?_)
                      have hP : va_P D vwCl [(h0, .inr (4, [.ref h1, .ref h2, .ref h3, .ref h4, .ref h5, .ref h6, .int x7, .ref h8, .ref h9, .int v_35, .int x_3, .int 1, .long y13, .int x14, .int x15, .int x16])), (h6, .inl (cB, 1600, .inl f17)), (h1, .inl (cJ, 21, .inr (.inl f18)))] H := hP
                      have hD : va_D A [(h0, .inr (4, [.ref h1, .ref h2, .ref h3, .ref h4, .ref h5, .ref h6, .int x7, .ref h8, .ref h9, .int v_35, .int x_3, .int 1, .long y13, .int x14, .int x15, .int x16])), (h6, .inl (cB, 1600, .inl f17)), (h1, .inl (cJ, 21, .inr (.inl f18)))] := hD
                      have hP9 := hP.sub (ws' := [(h0, .inr (4, [.ref h1, .ref h2, .ref h3, .ref h4, .ref h5, .ref h6, .int x7, .ref h8, .ref h9, .int v_35, .int x_3, .int 1, .long y13, .int x14, .int x15, .int x16])), (h6, .inl (cB, 1600, .inl f17)), (h1, .inl (cJ, 21, .inr (.inl f18)))]) [0, 1, 2] rfl
                      have hD9 := hD.sub (ws' := [(h0, .inr (4, [.ref h1, .ref h2, .ref h3, .ref h4, .ref h5, .ref h6, .int x7, .ref h8, .ref h9, .int v_35, .int x_3, .int 1, .long y13, .int x14, .int x15, .int x16])), (h6, .inl (cB, 1600, .inl f17)), (h1, .inl (cJ, 21, .inr (.inl f18)))]) [0, 1, 2] (by decide) rfl
                      exact xr_v (rm := (rmL 5 0 0)) hx hb hr hlocks hAe hS hP9 hD9 (Nat.le_of_ble_eq_true rfl) (Nat.le_of_ble_eq_true rfl) dX4_step_166 ⟨v_35, x_3, 1, y13, x14, by have zc1 : (1 : Int32).toInt = 1 := (by decide); omega, by have zc1 : (1 : Int32).toInt = 1 := (by decide); omega, by have zc1 : (1 : Int32).toInt = 1 := (by decide); omega, by have zc1 : (1 : Int32).toInt = 1 := (by decide); omega, rfl, rfl⟩
                    · have fc_34 : (0 : Int) ≤ v_31.toInt := i_nlt rfl (by decide) c_34
                      refine lv_iload_n hx hb dX4_step_148 rfl (lv_at hl 0 rfl) ?_
                      refine lv_goto (tgt := 153) hx hb dX4_step_149 (by decide) ?_
                      refine va_put (D := D) (ci := 4) (v := .int v_16) (ty := .int) (C := RX4) (T := TX4) (N := 16) hx hb hts inX4 tyX4 tyX4_ok nmX4 hown hG.1 hP hD hS 0 rfl rfl 11 (by decide) (hts _ kw371) (fun _ h9 => h9) rfl (by decide +kernel) rfl rfl (Nat.le_of_ble_eq_true rfl) dX4_step_153 (fun H locs hP hD hS => ?_)
                      have hP : va_P D vwCl [(h0, .inr (4, [.ref h1, .ref h2, .ref h3, .ref h4, .ref h5, .ref h6, .int x7, .ref h8, .ref h9, .int x_3, .int x_3, .int v_16, .long y13, .int x14, .int x15, .int x16])), (h6, .inl (cB, 1600, .inl f17)), (h1, .inl (cJ, 21, .inr (.inl f18)))] H := hP
                      have hD : va_D A [(h0, .inr (4, [.ref h1, .ref h2, .ref h3, .ref h4, .ref h5, .ref h6, .int x7, .ref h8, .ref h9, .int x_3, .int x_3, .int v_16, .long y13, .int x14, .int x15, .int x16])), (h6, .inl (cB, 1600, .inl f17)), (h1, .inl (cJ, 21, .inr (.inl f18)))] := hD
                      refine lv_aload_n hx hb dX4_step_156 rfl (lv_at hl 1 rfl) ?_
                      refine lv_dup hx hb dX4_step_157 rfl ?_
                      refine va_get (D := D) (ci := 4) (v := .int x_3) (C := RX4) (T := TX4) (N := 16) hx hb hts inX4 hown hG.1 hP 0 rfl rfl 9 (by decide) (hts _ kw369) (fun _ h9 => h9) rfl dX4_step_158 ?_
                      refine lv_iconst (v := 1) hx hb dX4_step_161 (by decide +kernel) ?_
                      refine lv_iadd hx hb dX4_step_162 ?_
                      refine lv_topi (fun v_36 ev_36 => ?_)
                      have gv_36 : v_36.toInt = x_3.toInt + (1 : Int) := by
                        have zx : (x_3 : Int32).toInt = x_3.toInt := rfl
                        have zy : (1 : Int32).toInt = (1 : Int) := (by decide)
                        rw [ev_36, i32_add (by rw [zx, zy]; omega) (by rw [zx, zy]; omega), zx, zy]
                      refine va_put (D := D) (ci := 4) (v := .int v_36) (ty := .int) (C := RX4) (T := TX4) (N := 16) hx hb hts inX4 tyX4 tyX4_ok nmX4 hown hG.1 hP hD hS 0 rfl rfl 9 (by decide) (hts _ kw369) (fun _ h9 => h9) rfl (by decide +kernel) rfl rfl (Nat.le_of_ble_eq_true rfl) dX4_step_163 (fun H locs hP hD hS => ?_)
                      have hP : va_P D vwCl [(h0, .inr (4, [.ref h1, .ref h2, .ref h3, .ref h4, .ref h5, .ref h6, .int x7, .ref h8, .ref h9, .int v_36, .int x_3, .int v_16, .long y13, .int x14, .int x15, .int x16])), (h6, .inl (cB, 1600, .inl f17)), (h1, .inl (cJ, 21, .inr (.inl f18)))] H := hP
                      have hD : va_D A [(h0, .inr (4, [.ref h1, .ref h2, .ref h3, .ref h4, .ref h5, .ref h6, .int x7, .ref h8, .ref h9, .int v_36, .int x_3, .int v_16, .long y13, .int x14, .int x15, .int x16])), (h6, .inl (cB, 1600, .inl f17)), (h1, .inl (cJ, 21, .inr (.inl f18)))] := hD
                      have hP9 := hP.sub (ws' := [(h0, .inr (4, [.ref h1, .ref h2, .ref h3, .ref h4, .ref h5, .ref h6, .int x7, .ref h8, .ref h9, .int v_36, .int x_3, .int v_16, .long y13, .int x14, .int x15, .int x16])), (h6, .inl (cB, 1600, .inl f17)), (h1, .inl (cJ, 21, .inr (.inl f18)))]) [0, 1, 2] rfl
                      have hD9 := hD.sub (ws' := [(h0, .inr (4, [.ref h1, .ref h2, .ref h3, .ref h4, .ref h5, .ref h6, .int x7, .ref h8, .ref h9, .int v_36, .int x_3, .int v_16, .long y13, .int x14, .int x15, .int x16])), (h6, .inl (cB, 1600, .inl f17)), (h1, .inl (cJ, 21, .inr (.inl f18)))]) [0, 1, 2] (by decide) rfl
                      exact xr_v (rm := (rmL 5 0 0)) hx hb hr hlocks hAe hS hP9 hD9 (Nat.le_of_ble_eq_true rfl) (Nat.le_of_ble_eq_true rfl) dX4_step_166 ⟨v_36, x_3, v_16, y13, x14, by omega, by omega, by omega, by omega, rfl, rfl⟩
                  · have fc_28 : v_16.toInt ≤ (57 : Int) := i_nlt (by decide) rfl c_28
                    refine lv_aload_n hx hb dX4_step_126 rfl (lv_at hl 1 rfl) ?_
                    refine xc_core (wr := [(h1, .inl (cJ, 21, .inr (.inl f18)))]) (k := 0) (n := 0) (xc_runV (As := []) (rest := []) hx hb hml hown hts hG hE hP hD hS hA [0, 1] (by decide) rfl (sX4_stepOverNumber_1 l D cB cI cJ cZ aK aV h0 h1 h2 h3 h4 h5 h6 x7 h8 h9 x_3 x_3 x12 y13 x14 x15 x16 f17 (by omega) (by omega) (by omega) (by omega) (by omega) (by omega) (by omega) (by omega)) kw665 kw662 kw664 kw2 kw116 (show XD yX4_stepOverNumber 0 from by decide +kernel) (by decide) rfl rfl 0 rfl hl.1 rfl (Nat.le_of_ble_eq_true rfl) dX4_step_127 (by decide)) hP hD hS hA [0, 1] [2] rfl rfl (by decide) (by decide) (Nat.le_of_ble_eq_true rfl) (Nat.le_of_ble_eq_true rfl) (fun r w1 H locs hpost hP hD hS => ?_)
                    obtain ⟨v_37, v_38, v_39, g_40, g_41, rfl, rfl⟩ := hpost
                    have hP : va_P D vwCl [(h1, .inl (cJ, 21, .inr (.inl f18))), (h0, .inr (4, [.ref h1, .ref h2, .ref h3, .ref h4, .ref h5, .ref h6, .int x7, .ref h8, .ref h9, .int v_37, .int x_3, .int v_38, .long y13, .int v_39, .int x15, .int x16])), (h6, .inl (cB, 1600, .inl f17))] H := hP
                    have hD : va_D A [(h1, .inl (cJ, 21, .inr (.inl f18))), (h0, .inr (4, [.ref h1, .ref h2, .ref h3, .ref h4, .ref h5, .ref h6, .int x7, .ref h8, .ref h9, .int v_37, .int x_3, .int v_38, .long y13, .int v_39, .int x15, .int x16])), (h6, .inl (cB, 1600, .inl f17))] := hD
                    refine lv_goto (tgt := 166) hx hb dX4_step_130 (by decide) ?_
                    have hP9 := hP.sub (ws' := [(h0, .inr (4, [.ref h1, .ref h2, .ref h3, .ref h4, .ref h5, .ref h6, .int x7, .ref h8, .ref h9, .int v_37, .int x_3, .int v_38, .long y13, .int v_39, .int x15, .int x16])), (h6, .inl (cB, 1600, .inl f17)), (h1, .inl (cJ, 21, .inr (.inl f18)))]) [1, 2, 0] rfl
                    have hD9 := hD.sub (ws' := [(h0, .inr (4, [.ref h1, .ref h2, .ref h3, .ref h4, .ref h5, .ref h6, .int x7, .ref h8, .ref h9, .int v_37, .int x_3, .int v_38, .long y13, .int v_39, .int x15, .int x16])), (h6, .inl (cB, 1600, .inl f17)), (h1, .inl (cJ, 21, .inr (.inl f18)))]) [1, 2, 0] (by decide) rfl
                    exact xr_v (rm := (rmL 5 0 0)) hx hb hr hlocks hAe hS hP9 hD9 (Nat.le_of_ble_eq_true rfl) (Nat.le_of_ble_eq_true rfl) dX4_step_166 ⟨v_37, x_3, v_38, y13, v_39, by omega, by omega, by omega, by omega, rfl, rfl⟩
              · have fc_17 : (97 : Int) ≤ v_16.toInt := i_nlt rfl (by decide) c_17
                refine lv_iload_n hx hb dX4_step_101 rfl (lv_at hl 0 rfl) ?_
                refine lv_bipush (v := 122) hx hb dX4_step_102 (by decide +kernel) ?_
                refine lv_icmp_gt (tgt := 114) hx hb dX4_step_104 (by decide) (fun c_42 => ?_) (fun c_42 => ?_)
                · have fc_42 : (122 : Int) < v_16.toInt := i_lt (by decide) rfl c_42
                  refine lv_iload_n hx hb dX4_step_114 rfl (lv_at hl 0 rfl) ?_
                  refine lv_bipush (v := 48) hx hb dX4_step_115 (by decide +kernel) ?_
                  refine lv_icmp_lt (tgt := 133) hx hb dX4_step_117 (by decide) (fun c_43 => by exfalso; have fc_43 : v_16.toInt < (48 : Int) := i_lt rfl (by decide) c_43; omega) (fun c_43 => ?_)
                  have fc_43 : (48 : Int) ≤ v_16.toInt := i_nlt rfl (by decide) c_43
                  refine lv_iload_n hx hb dX4_step_120 rfl (lv_at hl 0 rfl) ?_
                  refine lv_bipush (v := 57) hx hb dX4_step_121 (by decide +kernel) ?_
                  refine lv_icmp_gt (tgt := 133) hx hb dX4_step_123 (by decide) (fun c_44 => ?_) (fun c_44 => by exfalso; have fc_44 : v_16.toInt ≤ (57 : Int) := i_nlt (by decide) rfl c_44; omega)
                  have fc_44 : (57 : Int) < v_16.toInt := i_lt (by decide) rfl c_44
                  refine lv_aload_n hx hb dX4_step_133 rfl (lv_at hl 1 rfl) ?_
                  refine lv_iload_n hx hb dX4_step_134 rfl (lv_at hl 0 rfl) ?_
                  refine lv_if_le (tgt := 152) hx hb dX4_step_135 (by decide) (fun c_45 => by exfalso; have fc_45 : v_16.toInt ≤ (0 : Int) := i_le rfl (by decide) c_45; omega) (fun c_45 => ?_)
                  have fc_45 : (0 : Int) < v_16.toInt := i_nle rfl (by decide) c_45
                  refine va_ldcS hx hb hown hE.2.2.2.1 dX4_step_138 ?_
                  refine lv_iload_n hx hb dX4_step_140 rfl (lv_at hl 0 rfl) ?_
                  refine lv_i2c hx hb dX4_step_141 rfl ?_
                  refine xt_any (fun v_46 => ?_)
                  refine xc_core (wr := [(h0, .inr (4, [.ref h1, .ref h2, .ref h3, .ref h4, .ref h5, .ref h6, .int x7, .ref h8, .ref h9, .int x_3, .int x_3, .int x12, .long y13, .int x14, .int x15, .int x16])), (h6, .inl (cB, 1600, .inl f17)), (h1, .inl (cJ, 21, .inr (.inl f18)))]) (k := 0) (n := 0) (xc_runVK (As := [.int v_46]) (rest := [.ref h0]) hx hb hml hown hts hG hE hP hD hS hA [] (by decide) rfl (sJ0_indexOf_0f7a4_1 l D cB cI cJ cZ aK aV v_46) kw670 kw667 kw668 kw669 kw117 (show XD yJ0_indexOf_0f7a4 1 from by decide +kernel) (by decide) (vk_recv hE.1 (i := 1) (by decide) hS) hl.1 rfl (Nat.le_of_ble_eq_true rfl) dX4_step_142 (by decide)) hP hD hS hA [] [0, 1, 2] rfl rfl (by decide) (by decide) (Nat.le_of_ble_eq_true rfl) (Nat.le_of_ble_eq_true rfl) (fun r w1 H locs hpost hP hD hS => ?_)
                  obtain ⟨v_47, g_48, g_49, rfl, rfl⟩ := hpost
                  have hP : va_P D vwCl [(h0, .inr (4, [.ref h1, .ref h2, .ref h3, .ref h4, .ref h5, .ref h6, .int x7, .ref h8, .ref h9, .int x_3, .int x_3, .int x12, .long y13, .int x14, .int x15, .int x16])), (h6, .inl (cB, 1600, .inl f17)), (h1, .inl (cJ, 21, .inr (.inl f18)))] H := hP
                  have hD : va_D A [(h0, .inr (4, [.ref h1, .ref h2, .ref h3, .ref h4, .ref h5, .ref h6, .int x7, .ref h8, .ref h9, .int x_3, .int x_3, .int x12, .long y13, .int x14, .int x15, .int x16])), (h6, .inl (cB, 1600, .inl f17)), (h1, .inl (cJ, 21, .inr (.inl f18)))] := hD
                  refine lv_if_lt (tgt := 152) hx hb dX4_step_145 (by decide) (fun c_50 => ?_) (fun c_50 => ?_)
                  · have fc_50 : v_47.toInt < (0 : Int) := i_lt rfl (by decide) c_50
                    refine lv_iconst (v := 1) hx hb dX4_step_152 (by decide +kernel) ?_
                    refine va_put (D := D) (ci := 4) (v := .int 1) (ty := .int) (C := RX4) (T := TX4) (N := 16) hx hb hts inX4 tyX4 tyX4_ok nmX4 hown hG.1 hP hD hS 0 rfl rfl 11 (by decide) (hts _ kw371) (fun _ h9 => h9) rfl (by decide +kernel) rfl rfl (Nat.le_of_ble_eq_true rfl) dX4_step_153 (fun H locs hP hD hS => ?_)
                    have hP : va_P D vwCl [(h0, .inr (4, [.ref h1, .ref h2, .ref h3, .ref h4, .ref h5, .ref h6, .int x7, .ref h8, .ref h9, .int x_3, .int x_3, .int 1, .long y13, .int x14, .int x15, .int x16])), (h6, .inl (cB, 1600, .inl f17)), (h1, .inl (cJ, 21, .inr (.inl f18)))] H := hP
                    have hD : va_D A [(h0, .inr (4, [.ref h1, .ref h2, .ref h3, .ref h4, .ref h5, .ref h6, .int x7, .ref h8, .ref h9, .int x_3, .int x_3, .int 1, .long y13, .int x14, .int x15, .int x16])), (h6, .inl (cB, 1600, .inl f17)), (h1, .inl (cJ, 21, .inr (.inl f18)))] := hD
                    refine lv_aload_n hx hb dX4_step_156 rfl (lv_at hl 1 rfl) ?_
                    refine lv_dup hx hb dX4_step_157 rfl ?_
                    refine va_get (D := D) (ci := 4) (v := .int x_3) (C := RX4) (T := TX4) (N := 16) hx hb hts inX4 hown hG.1 hP 0 rfl rfl 9 (by decide) (hts _ kw369) (fun _ h9 => h9) rfl dX4_step_158 ?_
                    refine lv_iconst (v := 1) hx hb dX4_step_161 (by decide +kernel) ?_
                    refine lv_iadd hx hb dX4_step_162 ?_
                    refine lv_topi (fun v_51 ev_51 => ?_)
                    have gv_51 : v_51.toInt = x_3.toInt + (1 : Int) := by
                      have zx : (x_3 : Int32).toInt = x_3.toInt := rfl
                      have zy : (1 : Int32).toInt = (1 : Int) := (by decide)
                      rw [ev_51, i32_add (by rw [zx, zy]; omega) (by rw [zx, zy]; omega), zx, zy]
                    refine va_put (D := D) (ci := 4) (v := .int v_51) (ty := .int) (C := RX4) (T := TX4) (N := 16) hx hb hts inX4 tyX4 tyX4_ok nmX4 hown hG.1 hP hD hS 0 rfl rfl 9 (by decide) (hts _ kw369) (fun _ h9 => h9) rfl (by decide +kernel) rfl rfl (Nat.le_of_ble_eq_true rfl) dX4_step_163 (fun H locs hP hD hS => ?_)
                    have hP : va_P D vwCl [(h0, .inr (4, [.ref h1, .ref h2, .ref h3, .ref h4, .ref h5, .ref h6, .int x7, .ref h8, .ref h9, .int v_51, .int x_3, .int 1, .long y13, .int x14, .int x15, .int x16])), (h6, .inl (cB, 1600, .inl f17)), (h1, .inl (cJ, 21, .inr (.inl f18)))] H := hP
                    have hD : va_D A [(h0, .inr (4, [.ref h1, .ref h2, .ref h3, .ref h4, .ref h5, .ref h6, .int x7, .ref h8, .ref h9, .int v_51, .int x_3, .int 1, .long y13, .int x14, .int x15, .int x16])), (h6, .inl (cB, 1600, .inl f17)), (h1, .inl (cJ, 21, .inr (.inl f18)))] := hD
                    have hP9 := hP.sub (ws' := [(h0, .inr (4, [.ref h1, .ref h2, .ref h3, .ref h4, .ref h5, .ref h6, .int x7, .ref h8, .ref h9, .int v_51, .int x_3, .int 1, .long y13, .int x14, .int x15, .int x16])), (h6, .inl (cB, 1600, .inl f17)), (h1, .inl (cJ, 21, .inr (.inl f18)))]) [0, 1, 2] rfl
                    have hD9 := hD.sub (ws' := [(h0, .inr (4, [.ref h1, .ref h2, .ref h3, .ref h4, .ref h5, .ref h6, .int x7, .ref h8, .ref h9, .int v_51, .int x_3, .int 1, .long y13, .int x14, .int x15, .int x16])), (h6, .inl (cB, 1600, .inl f17)), (h1, .inl (cJ, 21, .inr (.inl f18)))]) [0, 1, 2] (by decide) rfl
                    exact xr_v (rm := (rmL 5 0 0)) hx hb hr hlocks hAe hS hP9 hD9 (Nat.le_of_ble_eq_true rfl) (Nat.le_of_ble_eq_true rfl) dX4_step_166 ⟨v_51, x_3, 1, y13, x14, by have zc1 : (1 : Int32).toInt = 1 := (by decide); omega, by have zc1 : (1 : Int32).toInt = 1 := (by decide); omega, by have zc1 : (1 : Int32).toInt = 1 := (by decide); omega, by have zc1 : (1 : Int32).toInt = 1 := (by decide); omega, rfl, rfl⟩
                  · have fc_50 : (0 : Int) ≤ v_47.toInt := i_nlt rfl (by decide) c_50
                    refine lv_iload_n hx hb dX4_step_148 rfl (lv_at hl 0 rfl) ?_
                    refine lv_goto (tgt := 153) hx hb dX4_step_149 (by decide) ?_
                    refine va_put (D := D) (ci := 4) (v := .int v_16) (ty := .int) (C := RX4) (T := TX4) (N := 16) hx hb hts inX4 tyX4 tyX4_ok nmX4 hown hG.1 hP hD hS 0 rfl rfl 11 (by decide) (hts _ kw371) (fun _ h9 => h9) rfl (by decide +kernel) rfl rfl (Nat.le_of_ble_eq_true rfl) dX4_step_153 (fun H locs hP hD hS => ?_)
                    have hP : va_P D vwCl [(h0, .inr (4, [.ref h1, .ref h2, .ref h3, .ref h4, .ref h5, .ref h6, .int x7, .ref h8, .ref h9, .int x_3, .int x_3, .int v_16, .long y13, .int x14, .int x15, .int x16])), (h6, .inl (cB, 1600, .inl f17)), (h1, .inl (cJ, 21, .inr (.inl f18)))] H := hP
                    have hD : va_D A [(h0, .inr (4, [.ref h1, .ref h2, .ref h3, .ref h4, .ref h5, .ref h6, .int x7, .ref h8, .ref h9, .int x_3, .int x_3, .int v_16, .long y13, .int x14, .int x15, .int x16])), (h6, .inl (cB, 1600, .inl f17)), (h1, .inl (cJ, 21, .inr (.inl f18)))] := hD
                    refine lv_aload_n hx hb dX4_step_156 rfl (lv_at hl 1 rfl) ?_
                    refine lv_dup hx hb dX4_step_157 rfl ?_
                    refine va_get (D := D) (ci := 4) (v := .int x_3) (C := RX4) (T := TX4) (N := 16) hx hb hts inX4 hown hG.1 hP 0 rfl rfl 9 (by decide) (hts _ kw369) (fun _ h9 => h9) rfl dX4_step_158 ?_
                    refine lv_iconst (v := 1) hx hb dX4_step_161 (by decide +kernel) ?_
                    refine lv_iadd hx hb dX4_step_162 ?_
                    refine lv_topi (fun v_52 ev_52 => ?_)
                    have gv_52 : v_52.toInt = x_3.toInt + (1 : Int) := by
                      have zx : (x_3 : Int32).toInt = x_3.toInt := rfl
                      have zy : (1 : Int32).toInt = (1 : Int) := (by decide)
                      rw [ev_52, i32_add (by rw [zx, zy]; omega) (by rw [zx, zy]; omega), zx, zy]
                    refine va_put (D := D) (ci := 4) (v := .int v_52) (ty := .int) (C := RX4) (T := TX4) (N := 16) hx hb hts inX4 tyX4 tyX4_ok nmX4 hown hG.1 hP hD hS 0 rfl rfl 9 (by decide) (hts _ kw369) (fun _ h9 => h9) rfl (by decide +kernel) rfl rfl (Nat.le_of_ble_eq_true rfl) dX4_step_163 (fun H locs hP hD hS => ?_)
                    have hP : va_P D vwCl [(h0, .inr (4, [.ref h1, .ref h2, .ref h3, .ref h4, .ref h5, .ref h6, .int x7, .ref h8, .ref h9, .int v_52, .int x_3, .int v_16, .long y13, .int x14, .int x15, .int x16])), (h6, .inl (cB, 1600, .inl f17)), (h1, .inl (cJ, 21, .inr (.inl f18)))] H := hP
                    have hD : va_D A [(h0, .inr (4, [.ref h1, .ref h2, .ref h3, .ref h4, .ref h5, .ref h6, .int x7, .ref h8, .ref h9, .int v_52, .int x_3, .int v_16, .long y13, .int x14, .int x15, .int x16])), (h6, .inl (cB, 1600, .inl f17)), (h1, .inl (cJ, 21, .inr (.inl f18)))] := hD
                    have hP9 := hP.sub (ws' := [(h0, .inr (4, [.ref h1, .ref h2, .ref h3, .ref h4, .ref h5, .ref h6, .int x7, .ref h8, .ref h9, .int v_52, .int x_3, .int v_16, .long y13, .int x14, .int x15, .int x16])), (h6, .inl (cB, 1600, .inl f17)), (h1, .inl (cJ, 21, .inr (.inl f18)))]) [0, 1, 2] rfl
                    have hD9 := hD.sub (ws' := [(h0, .inr (4, [.ref h1, .ref h2, .ref h3, .ref h4, .ref h5, .ref h6, .int x7, .ref h8, .ref h9, .int v_52, .int x_3, .int v_16, .long y13, .int x14, .int x15, .int x16])), (h6, .inl (cB, 1600, .inl f17)), (h1, .inl (cJ, 21, .inr (.inl f18)))]) [0, 1, 2] (by decide) rfl
                    exact xr_v (rm := (rmL 5 0 0)) hx hb hr hlocks hAe hS hP9 hD9 (Nat.le_of_ble_eq_true rfl) (Nat.le_of_ble_eq_true rfl) dX4_step_166 ⟨v_52, x_3, v_16, y13, x14, by omega, by omega, by omega, by omega, rfl, rfl⟩
                · have fc_42 : v_16.toInt ≤ (122 : Int) := i_nlt (by decide) rfl c_42
                  refine lv_aload_n hx hb dX4_step_107 rfl (lv_at hl 1 rfl) ?_
                  refine xc_core (wr := []) (k := 0) (n := 0) (xc_runV (As := []) (rest := []) hx hb hml hown hts hG hE hP hD hS hA [0, 1, 2] (by decide) rfl (sX4_stepOverWord_1 l D cB cI cJ cZ aK aV h0 h1 h2 h3 h4 h5 h6 x7 h8 h9 x_3 x_3 x12 y13 x14 x15 x16 f17 f18 (by omega) (by omega) (by omega) (by omega) (by omega) (by omega) (by omega) (by omega)) kw661 kw658 kw660 kw1 kw116 (show XD yX4_stepOverWord 0 from by decide +kernel) (by decide) rfl rfl 0 rfl hl.1 rfl (Nat.le_of_ble_eq_true rfl) dX4_step_108 (by decide)) hP hD hS hA [0, 1, 2] [] rfl rfl (by decide) (by decide) (Nat.le_of_ble_eq_true rfl) (Nat.le_of_ble_eq_true rfl) (fun r w1 H locs hpost hP hD hS => ?_)
                  obtain ⟨v_53, v_54, v_55, g_56, g_57, rfl, rfl⟩ := hpost
                  have hP : va_P D vwCl [(h0, .inr (4, [.ref h1, .ref h2, .ref h3, .ref h4, .ref h5, .ref h6, .int x7, .ref h8, .ref h9, .int v_53, .int x_3, .int v_54, .long v_55, .int x14, .int x15, .int x16])), (h6, .inl (cB, 1600, .inl f17)), (h1, .inl (cJ, 21, .inr (.inl f18)))] H := hP
                  have hD : va_D A [(h0, .inr (4, [.ref h1, .ref h2, .ref h3, .ref h4, .ref h5, .ref h6, .int x7, .ref h8, .ref h9, .int v_53, .int x_3, .int v_54, .long v_55, .int x14, .int x15, .int x16])), (h6, .inl (cB, 1600, .inl f17)), (h1, .inl (cJ, 21, .inr (.inl f18)))] := hD
                  refine lv_goto (tgt := 166) hx hb dX4_step_111 (by decide) ?_
                  have hP9 := hP.sub (ws' := [(h0, .inr (4, [.ref h1, .ref h2, .ref h3, .ref h4, .ref h5, .ref h6, .int x7, .ref h8, .ref h9, .int v_53, .int x_3, .int v_54, .long v_55, .int x14, .int x15, .int x16])), (h6, .inl (cB, 1600, .inl f17)), (h1, .inl (cJ, 21, .inr (.inl f18)))]) [0, 1, 2] rfl
                  have hD9 := hD.sub (ws' := [(h0, .inr (4, [.ref h1, .ref h2, .ref h3, .ref h4, .ref h5, .ref h6, .int x7, .ref h8, .ref h9, .int v_53, .int x_3, .int v_54, .long v_55, .int x14, .int x15, .int x16])), (h6, .inl (cB, 1600, .inl f17)), (h1, .inl (cJ, 21, .inr (.inl f18)))]) [0, 1, 2] (by decide) rfl
                  exact xr_v (rm := (rmL 5 0 0)) hx hb hr hlocks hAe hS hP9 hD9 (Nat.le_of_ble_eq_true rfl) (Nat.le_of_ble_eq_true rfl) dX4_step_166 ⟨v_53, x_3, v_54, v_55, x14, by omega, by omega, by omega, by omega, rfl, rfl⟩
            · have fc_14 : v_13.toInt = (10 : Int) := i_eq rfl (by decide) c_14
              refine lv_aload_n hx hb dX4_step_47 rfl (lv_at hl 0 rfl) ?_
              refine lv_dup hx hb dX4_step_48 rfl ?_
              refine va_get (D := D) (ci := 4) (v := .int x_3) (C := RX4) (T := TX4) (N := 16) hx hb hts inX4 hown hG.1 hP 0 rfl rfl 9 (by decide) (hts _ kw369) (fun _ h9 => h9) rfl dX4_step_49 ?_
              refine lv_iconst (v := 1) hx hb dX4_step_52 (by decide +kernel) ?_
              refine lv_iadd hx hb dX4_step_53 ?_
              refine lv_topi (fun v_58 ev_58 => ?_)
              have gv_58 : v_58.toInt = x_3.toInt + (1 : Int) := by
                have zx : (x_3 : Int32).toInt = x_3.toInt := rfl
                have zy : (1 : Int32).toInt = (1 : Int) := (by decide)
                rw [ev_58, i32_add (by rw [zx, zy]; omega) (by rw [zx, zy]; omega), zx, zy]
              refine va_put (D := D) (ci := 4) (v := .int v_58) (ty := .int) (C := RX4) (T := TX4) (N := 16) hx hb hts inX4 tyX4 tyX4_ok nmX4 hown hG.1 hP hD hS 0 rfl rfl 9 (by decide) (hts _ kw369) (fun _ h9 => h9) rfl (by decide +kernel) rfl rfl (Nat.le_of_ble_eq_true rfl) dX4_step_54 (fun H locs hP hD hS => ?_)
              have hP : va_P D vwCl [(h0, .inr (4, [.ref h1, .ref h2, .ref h3, .ref h4, .ref h5, .ref h6, .int x7, .ref h8, .ref h9, .int v_58, .int x11, .int x12, .long y13, .int x14, .int x15, .int x16])), (h6, .inl (cB, 1600, .inl f17)), (h1, .inl (cJ, 21, .inr (.inl f18)))] H := hP
              have hD : va_D A [(h0, .inr (4, [.ref h1, .ref h2, .ref h3, .ref h4, .ref h5, .ref h6, .int x7, .ref h8, .ref h9, .int v_58, .int x11, .int x12, .long y13, .int x14, .int x15, .int x16])), (h6, .inl (cB, 1600, .inl f17)), (h1, .inl (cJ, 21, .inr (.inl f18)))] := hD
              refine lv_goto (tgt := 8) hx hb dX4_step_57 (by decide) ?_
              exact ihlp_4  v_58 _ _ _ (by omega) (by omega) (by omega) (hP.sub (ws' := [(h0, .inr (4, [.ref h1, .ref h2, .ref h3, .ref h4, .ref h5, .ref h6, .int x7, .ref h8, .ref h9, .int v_58, .int x11, .int x12, .long y13, .int x14, .int x15, .int x16])), (h6, .inl (cB, 1600, .inl f17)), (h1, .inl (cJ, 21, .inr (.inl f18)))]) [0, 1, 2] rfl) (hD.sub (ws' := [(h0, .inr (4, [.ref h1, .ref h2, .ref h3, .ref h4, .ref h5, .ref h6, .int x7, .ref h8, .ref h9, .int v_58, .int x11, .int x12, .long y13, .int x14, .int x15, .int x16])), (h6, .inl (cB, 1600, .inl f17)), (h1, .inl (cJ, 21, .inr (.inl f18)))]) [0, 1, 2] (by decide) rfl) hS (lv_sub hl [0] rfl)
    exact lp_4 1602 x10 _ _ _ (by omega) (by omega) (by omega) (hP.sub (ws' := [(h0, .inr (4, [.ref h1, .ref h2, .ref h3, .ref h4, .ref h5, .ref h6, .int x7, .ref h8, .ref h9, .int x10, .int x11, .int x12, .long y13, .int x14, .int x15, .int x16])), (h6, .inl (cB, 1600, .inl f17)), (h1, .inl (cJ, 21, .inr (.inl f18)))]) [0, 1, 2] rfl) (hD.sub (ws' := [(h0, .inr (4, [.ref h1, .ref h2, .ref h3, .ref h4, .ref h5, .ref h6, .int x7, .ref h8, .ref h9, .int x10, .int x11, .int x12, .long y13, .int x14, .int x15, .int x16])), (h6, .inl (cB, 1600, .inl f17)), (h1, .inl (cJ, 21, .inr (.inl f18)))]) [0, 1, 2] (by decide) rfl) hS (lv_sub hl [0] rfl)
  · have fc_1 : x15.toInt ≠ (0 : Int) := i_ne rfl (by decide) c_1
    have hP9 := hP.sub (ws' := [(h0, .inr (4, [.ref h1, .ref h2, .ref h3, .ref h4, .ref h5, .ref h6, .int x7, .ref h8, .ref h9, .int x10, .int x11, .int x12, .long y13, .int x14, .int x15, .int x16])), (h6, .inl (cB, 1600, .inl f17)), (h1, .inl (cJ, 21, .inr (.inl f18)))]) [0, 1, 2] rfl
    have hD9 := hD.sub (ws' := [(h0, .inr (4, [.ref h1, .ref h2, .ref h3, .ref h4, .ref h5, .ref h6, .int x7, .ref h8, .ref h9, .int x10, .int x11, .int x12, .long y13, .int x14, .int x15, .int x16])), (h6, .inl (cB, 1600, .inl f17)), (h1, .inl (cJ, 21, .inr (.inl f18)))]) [0, 1, 2] (by decide) rfl
    exact xr_v (rm := (rmL 5 0 0)) hx hb hr hlocks hAe hS hP9 hD9 (Nat.le_of_ble_eq_true rfl) (Nat.le_of_ble_eq_true rfl) dX4_step_7 ⟨x10, x11, x12, y13, x14, by omega, by omega, by omega, by omega, rfl, rfl⟩
theorem dX4_take_0 : decode cX4_take 0 = .ok (.aload_n 0, 1) := by decide +kernel
theorem dX4_take_1 : decode cX4_take 1 = .ok (.getfield 82, 3) := by decide +kernel
theorem dX4_take_4 : decode cX4_take 4 = .ok (.iload_n 1, 1) := by decide +kernel
theorem dX4_take_5 : decode cX4_take 5 = .ok (.if_icmp .eq 9, 3) := by decide +kernel
theorem dX4_take_14 : decode cX4_take 14 = .ok (.aload_n 0, 1) := by decide +kernel
theorem kw654 : (.methodLink RX4 79 yX4_step : Cond) ∈ gT := gT_of 654 (by decide +kernel) (by decide +kernel)
theorem kw657 : (.code yX4_step cX4_step 2 none : Cond) ∈ gT := gT_of 657 (by decide +kernel) (by decide +kernel)
theorem kw656 : (.instanceMethod yX4_step : Cond) ∈ gT := gT_of 656 (by decide +kernel) (by decide +kernel)
theorem kw0 : (.selects RX4 yX4_step yX4_step : Cond) ∈ gT := gT_of 0 (by decide +kernel) (by decide +kernel)
theorem dX4_take_15 : decode cX4_take 15 = .ok (.invokevirtual 79, 3) := by decide +kernel
theorem dX4_take_18 : decode cX4_take 18 = .ok (.return_, 1) := by decide +kernel
theorem dX4_take_8 : decode cX4_take 8 = .ok (.aload_n 0, 1) := by decide +kernel
theorem dX4_take_9 : decode cX4_take 9 = .ok (.iconst 2, 1) := by decide +kernel
theorem kw728 : (.methodLink RX4 110 yX4_fail : Cond) ∈ gT := gT_of 728 (by decide +kernel) (by decide +kernel)
theorem kw731 : (.code yX4_fail cX4_fail 2 none : Cond) ∈ gT := gT_of 731 (by decide +kernel) (by decide +kernel)
theorem kw730 : (.instanceMethod yX4_fail : Cond) ∈ gT := gT_of 730 (by decide +kernel) (by decide +kernel)
theorem kw4 : (.selects RX4 yX4_fail yX4_fail : Cond) ∈ gT := gT_of 4 (by decide +kernel) (by decide +kernel)
theorem dX4_take_10 : decode cX4_take 10 = .ok (.invokevirtual 110, 3) := by decide +kernel
theorem dX4_take_13 : decode cX4_take 13 = .ok (.return_, 1) := by decide +kernel
set_option maxHeartbeats 4000000 in
set_option maxRecDepth 100000 in
theorem sX4_take_1 (l : Launch) (D : va_G) (cB cI cJ cZ : ClassId) (aK aV : Nat → Nat) (h0 : Nat) (x1 : Int32) (h2 : Nat) (h3 : Nat) (h4 : Nat) (h5 : Nat) (h6 : Nat) (h7 : Nat) (x8 : Int32) (h9 : Nat) (h10 : Nat) (x11 : Int32) (x12 : Int32) (x13 : Int32) (y14 : Int64) (x15 : Int32) (x16 : Int32) (x17 : Int32) (f18 : Nat → Int32) (f19 : Nat → Int64) (gh0 : 0 ≤ x8.toInt) (gh1 : 0 ≤ -x8.toInt + 1600) (gh2 : 0 ≤ x11.toInt) (gh3 : 0 ≤ -x11.toInt + 1600) (gh4 : 0 ≤ x12.toInt) (gh5 : 0 ≤ -x12.toInt + 1600) (gh6 : 0 ≤ x16.toInt) (gh7 : 0 ≤ -x16.toInt + 5) : MX l yX4_take cX4_take 2 none (rmL 6 0 0) D cB cI cJ cZ aK aV [.ref h0, .int x1] [(h0, .inr (4, [.ref h2, .ref h3, .ref h4, .ref h5, .ref h6, .ref h7, .int x8, .ref h9, .ref h10, .int x11, .int x12, .int x13, .long y14, .int x15, .int x16, .int x17])), (h7, .inl (cB, 1600, .inl f18)), (h2, .inl (cJ, 21, .inr (.inl f19)))] (fun r w1 => ∃ z1 : Int32, ∃ z2 : Int32, ∃ z3 : Int32, ∃ z4 : Int64, ∃ z5 : Int32, ∃ z6 : Int32, ∃ z7 : Int32, 0 ≤ z1.toInt ∧ 0 ≤ -z1.toInt + 1600 ∧ 0 ≤ z2.toInt ∧ 0 ≤ -z2.toInt + 1600 ∧ 0 ≤ z6.toInt ∧ 0 ≤ -z6.toInt + 5 ∧ 0 ≤ -x16.toInt + z6.toInt ∧ r = none ∧ w1 = [(h0, .inr (4, [.ref h2, .ref h3, .ref h4, .ref h5, .ref h6, .ref h7, .int x8, .ref h9, .ref h10, .int z1, .int z2, .int z3, .long z4, .int z5, .int z6, .int z7])), (h7, .inl (cB, 1600, .inl f18)), (h2, .inl (cJ, 21, .inr (.inl f19)))]) := by
  refine MX.intro (by decide) (Nat.le_of_ble_eq_true rfl) ?_
  intro p e s m below meth c A ls hx hb hr hml hown hlocks hnm hts hG hE hA hS hP hD hl hAe
  have hl : lv_has ls 2 [(0, .ref h0), (1, .int x1)] := hl
  have hown : s.vm.findClass RX4 = some m.cls := hown
  refine lv_aload_n hx hb dX4_take_0 rfl (lv_at hl 0 rfl) ?_
  refine va_get (D := D) (ci := 4) (v := .int x13) (C := RX4) (T := TX4) (N := 16) hx hb hts inX4 hown hG.1 hP 0 rfl rfl 11 (by decide) (hts _ kw371) (fun _ h9 => h9) rfl dX4_take_1 ?_
  refine lv_iload_n hx hb dX4_take_4 rfl (lv_at hl 1 rfl) ?_
  refine lv_icmp_eq (tgt := 14) hx hb dX4_take_5 (by decide) (fun c_1 => ?_) (fun c_1 => ?_)
  · have fc_1 : x13.toInt = x1.toInt := i_eq rfl rfl c_1
    refine lv_aload_n hx hb dX4_take_14 rfl (lv_at hl 0 rfl) ?_
    refine xc_core (wr := []) (k := 0) (n := 0) (xc_runV (As := []) (rest := []) hx hb hml hown hts hG hE hP hD hS hA [0, 1, 2] (by decide) rfl (sX4_step_1 l D cB cI cJ cZ aK aV h0 h2 h3 h4 h5 h6 h7 x8 h9 h10 x11 x12 x13 y14 x15 x16 x17 f18 f19 (by omega) (by omega) (by omega) (by omega) (by omega) (by omega) (by omega) (by omega)) kw657 kw654 kw656 kw0 kw116 (show XD yX4_step 0 from by decide +kernel) (by decide) rfl rfl 0 rfl hl.1 rfl (Nat.le_of_ble_eq_true rfl) dX4_take_15 (by decide)) hP hD hS hA [0, 1, 2] [] rfl rfl (by decide) (by decide) (Nat.le_of_ble_eq_true rfl) (Nat.le_of_ble_eq_true rfl) (fun r w1 H locs hpost hP hD hS => ?_)
    obtain ⟨v_2, v_3, v_4, v_5, v_6, g_7, g_8, g_9, g_10, rfl, rfl⟩ := hpost
    have hP : va_P D vwCl [(h0, .inr (4, [.ref h2, .ref h3, .ref h4, .ref h5, .ref h6, .ref h7, .int x8, .ref h9, .ref h10, .int v_2, .int v_3, .int v_4, .long v_5, .int v_6, .int x16, .int x17])), (h7, .inl (cB, 1600, .inl f18)), (h2, .inl (cJ, 21, .inr (.inl f19)))] H := hP
    have hD : va_D A [(h0, .inr (4, [.ref h2, .ref h3, .ref h4, .ref h5, .ref h6, .ref h7, .int x8, .ref h9, .ref h10, .int v_2, .int v_3, .int v_4, .long v_5, .int v_6, .int x16, .int x17])), (h7, .inl (cB, 1600, .inl f18)), (h2, .inl (cJ, 21, .inr (.inl f19)))] := hD
    have hP9 := hP.sub (ws' := [(h0, .inr (4, [.ref h2, .ref h3, .ref h4, .ref h5, .ref h6, .ref h7, .int x8, .ref h9, .ref h10, .int v_2, .int v_3, .int v_4, .long v_5, .int v_6, .int x16, .int x17])), (h7, .inl (cB, 1600, .inl f18)), (h2, .inl (cJ, 21, .inr (.inl f19)))]) [0, 1, 2] rfl
    have hD9 := hD.sub (ws' := [(h0, .inr (4, [.ref h2, .ref h3, .ref h4, .ref h5, .ref h6, .ref h7, .int x8, .ref h9, .ref h10, .int v_2, .int v_3, .int v_4, .long v_5, .int v_6, .int x16, .int x17])), (h7, .inl (cB, 1600, .inl f18)), (h2, .inl (cJ, 21, .inr (.inl f19)))]) [0, 1, 2] (by decide) rfl
    exact xr_v (rm := (rmL 6 0 0)) hx hb hr hlocks hAe hS hP9 hD9 (Nat.le_of_ble_eq_true rfl) (Nat.le_of_ble_eq_true rfl) dX4_take_18 ⟨v_2, v_3, v_4, v_5, v_6, x16, x17, by omega, by omega, by omega, by omega, by omega, by omega, by omega, rfl, rfl⟩
  · have fc_1 : x13.toInt ≠ x1.toInt := i_ne rfl rfl c_1
    refine lv_aload_n hx hb dX4_take_8 rfl (lv_at hl 0 rfl) ?_
    refine lv_iconst (v := 2) hx hb dX4_take_9 (by decide +kernel) ?_
    refine xc_core (wr := [(h7, .inl (cB, 1600, .inl f18)), (h2, .inl (cJ, 21, .inr (.inl f19)))]) (k := 0) (n := 0) (xc_runV (As := [.int 2]) (rest := []) hx hb hml hown hts hG hE hP hD hS hA [0] (by decide) rfl (sX4_fail_1 l D cB cI cJ cZ aK aV h0 2 h2 h3 h4 h5 h6 h7 x8 h9 h10 x11 x12 x13 y14 x15 x16 x17 (by have zc2 : (2 : Int32).toInt = 2 := (by decide); omega) (by have zc2 : (2 : Int32).toInt = 2 := (by decide); omega) (by have zc2 : (2 : Int32).toInt = 2 := (by decide); omega) (by have zc2 : (2 : Int32).toInt = 2 := (by decide); omega) (by have zc2 : (2 : Int32).toInt = 2 := (by decide); omega) (by have zc2 : (2 : Int32).toInt = 2 := (by decide); omega) (by have zc2 : (2 : Int32).toInt = 2 := (by decide); omega) (by have zc2 : (2 : Int32).toInt = 2 := (by decide); omega) (by have zc2 : (2 : Int32).toInt = 2 := (by decide); omega) (by have zc2 : (2 : Int32).toInt = 2 := (by decide); omega)) kw731 kw728 kw730 kw4 kw116 (show XD yX4_fail 1 from by decide +kernel) (by decide) rfl rfl 0 rfl hl.1 rfl (Nat.le_of_ble_eq_true rfl) dX4_take_10 (by decide)) hP hD hS hA [0] [1, 2] rfl rfl (by decide) (by decide) (Nat.le_of_ble_eq_true rfl) (Nat.le_of_ble_eq_true rfl) (fun r w1 H locs hpost hP hD hS => ?_)
    obtain ⟨v_11, v_12, g_13, g_14, g_15, g_16, rfl, rfl⟩ := hpost
    have hP : va_P D vwCl [(h7, .inl (cB, 1600, .inl f18)), (h2, .inl (cJ, 21, .inr (.inl f19))), (h0, .inr (4, [.ref h2, .ref h3, .ref h4, .ref h5, .ref h6, .ref h7, .int x8, .ref h9, .ref h10, .int x11, .int x12, .int x13, .long y14, .int x15, .int v_11, .int v_12]))] H := hP
    have hD : va_D A [(h7, .inl (cB, 1600, .inl f18)), (h2, .inl (cJ, 21, .inr (.inl f19))), (h0, .inr (4, [.ref h2, .ref h3, .ref h4, .ref h5, .ref h6, .ref h7, .int x8, .ref h9, .ref h10, .int x11, .int x12, .int x13, .long y14, .int x15, .int v_11, .int v_12]))] := hD
    have hP9 := hP.sub (ws' := [(h0, .inr (4, [.ref h2, .ref h3, .ref h4, .ref h5, .ref h6, .ref h7, .int x8, .ref h9, .ref h10, .int x11, .int x12, .int x13, .long y14, .int x15, .int v_11, .int v_12])), (h7, .inl (cB, 1600, .inl f18)), (h2, .inl (cJ, 21, .inr (.inl f19)))]) [2, 0, 1] rfl
    have hD9 := hD.sub (ws' := [(h0, .inr (4, [.ref h2, .ref h3, .ref h4, .ref h5, .ref h6, .ref h7, .int x8, .ref h9, .ref h10, .int x11, .int x12, .int x13, .long y14, .int x15, .int v_11, .int v_12])), (h7, .inl (cB, 1600, .inl f18)), (h2, .inl (cJ, 21, .inr (.inl f19)))]) [2, 0, 1] (by decide) rfl
    exact xr_v (rm := (rmL 6 0 0)) hx hb hr hlocks hAe hS hP9 hD9 (Nat.le_of_ble_eq_true rfl) (Nat.le_of_ble_eq_true rfl) dX4_take_13 ⟨x11, x12, x13, y14, x15, v_11, v_12, by omega, by omega, by omega, by omega, by omega, by omega, by omega, rfl, rfl⟩
theorem dX4_takeIfThere_0 : decode cX4_takeIfThere 0 = .ok (.aload_n 0, 1) := by decide +kernel
theorem dX4_takeIfThere_1 : decode cX4_takeIfThere 1 = .ok (.getfield 73, 3) := by decide +kernel
theorem dX4_takeIfThere_4 : decode cX4_takeIfThere 4 = .ok (.ifCond .ne 11, 3) := by decide +kernel
theorem dX4_takeIfThere_15 : decode cX4_takeIfThere 15 = .ok (.iconst 0, 1) := by decide +kernel
theorem dX4_takeIfThere_16 : decode cX4_takeIfThere 16 = .ok (.ireturn, 1) := by decide +kernel
theorem dX4_takeIfThere_7 : decode cX4_takeIfThere 7 = .ok (.aload_n 0, 1) := by decide +kernel
theorem dX4_takeIfThere_8 : decode cX4_takeIfThere 8 = .ok (.getfield 82, 3) := by decide +kernel
theorem dX4_takeIfThere_11 : decode cX4_takeIfThere 11 = .ok (.iload_n 1, 1) := by decide +kernel
theorem dX4_takeIfThere_12 : decode cX4_takeIfThere 12 = .ok (.if_icmp .eq 5, 3) := by decide +kernel
theorem dX4_takeIfThere_17 : decode cX4_takeIfThere 17 = .ok (.aload_n 0, 1) := by decide +kernel
theorem dX4_takeIfThere_18 : decode cX4_takeIfThere 18 = .ok (.invokevirtual 79, 3) := by decide +kernel
theorem dX4_takeIfThere_21 : decode cX4_takeIfThere 21 = .ok (.iconst 1, 1) := by decide +kernel
theorem dX4_takeIfThere_22 : decode cX4_takeIfThere 22 = .ok (.ireturn, 1) := by decide +kernel
set_option maxHeartbeats 4000000 in
set_option maxRecDepth 100000 in
theorem sX4_takeIfThere_1 (l : Launch) (D : va_G) (cB cI cJ cZ : ClassId) (aK aV : Nat → Nat) (h0 : Nat) (x1 : Int32) (h2 : Nat) (h3 : Nat) (h4 : Nat) (h5 : Nat) (h6 : Nat) (h7 : Nat) (x8 : Int32) (h9 : Nat) (h10 : Nat) (x11 : Int32) (x12 : Int32) (x13 : Int32) (y14 : Int64) (x15 : Int32) (x16 : Int32) (x17 : Int32) (f18 : Nat → Int32) (f19 : Nat → Int64) (gh0 : 0 ≤ x8.toInt) (gh1 : 0 ≤ -x8.toInt + 1600) (gh2 : 0 ≤ x11.toInt) (gh3 : 0 ≤ -x11.toInt + 1600) (gh4 : 0 ≤ x12.toInt) (gh5 : 0 ≤ -x12.toInt + 1600) (gh6 : 0 ≤ x16.toInt) (gh7 : 0 ≤ -x16.toInt + 5) : MX l yX4_takeIfThere cX4_takeIfThere 2 (some .boolean) (rmL 6 0 0) D cB cI cJ cZ aK aV [.ref h0, .int x1] [(h0, .inr (4, [.ref h2, .ref h3, .ref h4, .ref h5, .ref h6, .ref h7, .int x8, .ref h9, .ref h10, .int x11, .int x12, .int x13, .long y14, .int x15, .int x16, .int x17])), (h7, .inl (cB, 1600, .inl f18)), (h2, .inl (cJ, 21, .inr (.inl f19)))] (fun r w1 => ∃ z1 : Int32, ∃ z2 : Int32, ∃ z3 : Int32, ∃ z4 : Int64, ∃ z5 : Int32, ∃ z6 : Int32, 0 ≤ z1.toInt ∧ 0 ≤ -z1.toInt + 1600 ∧ 0 ≤ z2.toInt ∧ 0 ≤ -z2.toInt + 1600 ∧ 0 ≤ z6.toInt ∧ 0 ≤ -z6.toInt + 1 ∧ r = some (.int z6) ∧ w1 = [(h0, .inr (4, [.ref h2, .ref h3, .ref h4, .ref h5, .ref h6, .ref h7, .int x8, .ref h9, .ref h10, .int z1, .int z2, .int z3, .long z4, .int z5, .int x16, .int x17])), (h7, .inl (cB, 1600, .inl f18)), (h2, .inl (cJ, 21, .inr (.inl f19)))]) := by
  refine MX.intro (by decide) (Nat.le_of_ble_eq_true rfl) ?_
  intro p e s m below meth c A ls hx hb hr hml hown hlocks hnm hts hG hE hA hS hP hD hl hAe
  have hl : lv_has ls 2 [(0, .ref h0), (1, .int x1)] := hl
  have hown : s.vm.findClass RX4 = some m.cls := hown
  refine lv_aload_n hx hb dX4_takeIfThere_0 rfl (lv_at hl 0 rfl) ?_
  refine va_get (D := D) (ci := 4) (v := .int x16) (C := RX4) (T := TX4) (N := 16) hx hb hts inX4 hown hG.1 hP 0 rfl rfl 14 (by decide) (hts _ kw374) (fun _ h9 => h9) rfl dX4_takeIfThere_1 ?_
  refine lv_if_ne (tgt := 15) hx hb dX4_takeIfThere_4 (by decide) (fun c_1 => ?_) (fun c_1 => ?_)
  · have fc_1 : x16.toInt ≠ (0 : Int) := i_ne rfl (by decide) c_1
    refine lv_iconst (v := 0) hx hb dX4_takeIfThere_15 (by decide +kernel) ?_
    have hP9 := hP.sub (ws' := [(h0, .inr (4, [.ref h2, .ref h3, .ref h4, .ref h5, .ref h6, .ref h7, .int x8, .ref h9, .ref h10, .int x11, .int x12, .int x13, .long y14, .int x15, .int x16, .int x17])), (h7, .inl (cB, 1600, .inl f18)), (h2, .inl (cJ, 21, .inr (.inl f19)))]) [0, 1, 2] rfl
    have hD9 := hD.sub (ws' := [(h0, .inr (4, [.ref h2, .ref h3, .ref h4, .ref h5, .ref h6, .ref h7, .int x8, .ref h9, .ref h10, .int x11, .int x12, .int x13, .long y14, .int x15, .int x16, .int x17])), (h7, .inl (cB, 1600, .inl f18)), (h2, .inl (cJ, 21, .inr (.inl f19)))]) [0, 1, 2] (by decide) rfl
    exact xr_i (rm := (rmL 6 0 0)) hx hb hr hlocks hAe hS hP9 hD9 (by decide +kernel) (Nat.le_of_ble_eq_true rfl) (Nat.le_of_ble_eq_true rfl) dX4_takeIfThere_16 ⟨x11, x12, x13, y14, x15, 0, by have zc0 : (0 : Int32).toInt = 0 := (by decide); omega, by have zc0 : (0 : Int32).toInt = 0 := (by decide); omega, by have zc0 : (0 : Int32).toInt = 0 := (by decide); omega, by have zc0 : (0 : Int32).toInt = 0 := (by decide); omega, by have zc0 : (0 : Int32).toInt = 0 := (by decide); omega, by have zc0 : (0 : Int32).toInt = 0 := (by decide); omega, rfl, rfl⟩
  · have fc_1 : x16.toInt = (0 : Int) := i_eq rfl (by decide) c_1
    refine lv_aload_n hx hb dX4_takeIfThere_7 rfl (lv_at hl 0 rfl) ?_
    refine va_get (D := D) (ci := 4) (v := .int x13) (C := RX4) (T := TX4) (N := 16) hx hb hts inX4 hown hG.1 hP 0 rfl rfl 11 (by decide) (hts _ kw371) (fun _ h9 => h9) rfl dX4_takeIfThere_8 ?_
    refine lv_iload_n hx hb dX4_takeIfThere_11 rfl (lv_at hl 1 rfl) ?_
    refine lv_icmp_eq (tgt := 17) hx hb dX4_takeIfThere_12 (by decide) (fun c_2 => ?_) (fun c_2 => ?_)
    · have fc_2 : x13.toInt = x1.toInt := i_eq rfl rfl c_2
      refine lv_aload_n hx hb dX4_takeIfThere_17 rfl (lv_at hl 0 rfl) ?_
      refine xc_core (wr := []) (k := 0) (n := 0) (xc_runV (As := []) (rest := []) hx hb hml hown hts hG hE hP hD hS hA [0, 1, 2] (by decide) rfl (sX4_step_1 l D cB cI cJ cZ aK aV h0 h2 h3 h4 h5 h6 h7 x8 h9 h10 x11 x12 x13 y14 x15 x16 x17 f18 f19 (by omega) (by omega) (by omega) (by omega) (by omega) (by omega) (by omega) (by omega)) kw657 kw654 kw656 kw0 kw116 (show XD yX4_step 0 from by decide +kernel) (by decide) rfl rfl 0 rfl hl.1 rfl (Nat.le_of_ble_eq_true rfl) dX4_takeIfThere_18 (by decide)) hP hD hS hA [0, 1, 2] [] rfl rfl (by decide) (by decide) (Nat.le_of_ble_eq_true rfl) (Nat.le_of_ble_eq_true rfl) (fun r w1 H locs hpost hP hD hS => ?_)
      obtain ⟨v_3, v_4, v_5, v_6, v_7, g_8, g_9, g_10, g_11, rfl, rfl⟩ := hpost
      have hP : va_P D vwCl [(h0, .inr (4, [.ref h2, .ref h3, .ref h4, .ref h5, .ref h6, .ref h7, .int x8, .ref h9, .ref h10, .int v_3, .int v_4, .int v_5, .long v_6, .int v_7, .int x16, .int x17])), (h7, .inl (cB, 1600, .inl f18)), (h2, .inl (cJ, 21, .inr (.inl f19)))] H := hP
      have hD : va_D A [(h0, .inr (4, [.ref h2, .ref h3, .ref h4, .ref h5, .ref h6, .ref h7, .int x8, .ref h9, .ref h10, .int v_3, .int v_4, .int v_5, .long v_6, .int v_7, .int x16, .int x17])), (h7, .inl (cB, 1600, .inl f18)), (h2, .inl (cJ, 21, .inr (.inl f19)))] := hD
      refine lv_iconst (v := 1) hx hb dX4_takeIfThere_21 (by decide +kernel) ?_
      have hP9 := hP.sub (ws' := [(h0, .inr (4, [.ref h2, .ref h3, .ref h4, .ref h5, .ref h6, .ref h7, .int x8, .ref h9, .ref h10, .int v_3, .int v_4, .int v_5, .long v_6, .int v_7, .int x16, .int x17])), (h7, .inl (cB, 1600, .inl f18)), (h2, .inl (cJ, 21, .inr (.inl f19)))]) [0, 1, 2] rfl
      have hD9 := hD.sub (ws' := [(h0, .inr (4, [.ref h2, .ref h3, .ref h4, .ref h5, .ref h6, .ref h7, .int x8, .ref h9, .ref h10, .int v_3, .int v_4, .int v_5, .long v_6, .int v_7, .int x16, .int x17])), (h7, .inl (cB, 1600, .inl f18)), (h2, .inl (cJ, 21, .inr (.inl f19)))]) [0, 1, 2] (by decide) rfl
      exact xr_i (rm := (rmL 6 0 0)) hx hb hr hlocks hAe hS hP9 hD9 (by decide +kernel) (Nat.le_of_ble_eq_true rfl) (Nat.le_of_ble_eq_true rfl) dX4_takeIfThere_22 ⟨v_3, v_4, v_5, v_6, v_7, 1, by have zc1 : (1 : Int32).toInt = 1 := (by decide); omega, by have zc1 : (1 : Int32).toInt = 1 := (by decide); omega, by have zc1 : (1 : Int32).toInt = 1 := (by decide); omega, by have zc1 : (1 : Int32).toInt = 1 := (by decide); omega, by have zc1 : (1 : Int32).toInt = 1 := (by decide); omega, by have zc1 : (1 : Int32).toInt = 1 := (by decide); omega, rfl, rfl⟩
    · have fc_2 : x13.toInt ≠ x1.toInt := i_ne rfl rfl c_2
      refine lv_iconst (v := 0) hx hb dX4_takeIfThere_15 (by decide +kernel) ?_
      have hP9 := hP.sub (ws' := [(h0, .inr (4, [.ref h2, .ref h3, .ref h4, .ref h5, .ref h6, .ref h7, .int x8, .ref h9, .ref h10, .int x11, .int x12, .int x13, .long y14, .int x15, .int x16, .int x17])), (h7, .inl (cB, 1600, .inl f18)), (h2, .inl (cJ, 21, .inr (.inl f19)))]) [0, 1, 2] rfl
      have hD9 := hD.sub (ws' := [(h0, .inr (4, [.ref h2, .ref h3, .ref h4, .ref h5, .ref h6, .ref h7, .int x8, .ref h9, .ref h10, .int x11, .int x12, .int x13, .long y14, .int x15, .int x16, .int x17])), (h7, .inl (cB, 1600, .inl f18)), (h2, .inl (cJ, 21, .inr (.inl f19)))]) [0, 1, 2] (by decide) rfl
      exact xr_i (rm := (rmL 6 0 0)) hx hb hr hlocks hAe hS hP9 hD9 (by decide +kernel) (Nat.le_of_ble_eq_true rfl) (Nat.le_of_ble_eq_true rfl) dX4_takeIfThere_16 ⟨x11, x12, x13, y14, x15, 0, by have zc0 : (0 : Int32).toInt = 0 := (by decide); omega, by have zc0 : (0 : Int32).toInt = 0 := (by decide); omega, by have zc0 : (0 : Int32).toInt = 0 := (by decide); omega, by have zc0 : (0 : Int32).toInt = 0 := (by decide); omega, by have zc0 : (0 : Int32).toInt = 0 := (by decide); omega, by have zc0 : (0 : Int32).toInt = 0 := (by decide); omega, rfl, rfl⟩
theorem dX4_takeNumber_0 : decode cX4_takeNumber 0 = .ok (.aload_n 0, 1) := by decide +kernel
theorem dX4_takeNumber_1 : decode cX4_takeNumber 1 = .ok (.getfield 82, 3) := by decide +kernel
theorem dX4_takeNumber_4 : decode cX4_takeNumber 4 = .ok (.iconst 2, 1) := by decide +kernel
theorem dX4_takeNumber_5 : decode cX4_takeNumber 5 = .ok (.if_icmp .ne 7, 3) := by decide +kernel
theorem dX4_takeNumber_12 : decode cX4_takeNumber 12 = .ok (.iconst 0, 1) := by decide +kernel
theorem dX4_takeNumber_13 : decode cX4_takeNumber 13 = .ok (.istore_n 3, 1) := by decide +kernel
theorem dX4_takeNumber_14 : decode cX4_takeNumber 14 = .ok (.iload_n 3, 1) := by decide +kernel
theorem dX4_takeNumber_15 : decode cX4_takeNumber 15 = .ok (.ifCond .eq 19, 3) := by decide +kernel
theorem dX4_takeNumber_34 : decode cX4_takeNumber 34 = .ok (.aload_n 0, 1) := by decide +kernel
theorem dX4_takeNumber_35 : decode cX4_takeNumber 35 = .ok (.iload_n 3, 1) := by decide +kernel
theorem dX4_takeNumber_36 : decode cX4_takeNumber 36 = .ok (.ifCond .eq 7, 3) := by decide +kernel
theorem dX4_takeNumber_43 : decode cX4_takeNumber 43 = .ok (.iconst 2, 1) := by decide +kernel
theorem dX4_takeNumber_44 : decode cX4_takeNumber 44 = .ok (.invokevirtual 110, 3) := by decide +kernel
theorem dX4_takeNumber_47 : decode cX4_takeNumber 47 = .ok (.iconst (-1), 1) := by decide +kernel
theorem dX4_takeNumber_48 : decode cX4_takeNumber 48 = .ok (.ireturn, 1) := by decide +kernel
theorem dX4_takeNumber_8 : decode cX4_takeNumber 8 = .ok (.iconst 1, 1) := by decide +kernel
theorem dX4_takeNumber_9 : decode cX4_takeNumber 9 = .ok (.goto 4, 3) := by decide +kernel
theorem dX4_takeNumber_18 : decode cX4_takeNumber 18 = .ok (.aload_n 0, 1) := by decide +kernel
theorem dX4_takeNumber_19 : decode cX4_takeNumber 19 = .ok (.getfield 218, 3) := by decide +kernel
theorem dX4_takeNumber_22 : decode cX4_takeNumber 22 = .ok (.iload_n 1, 1) := by decide +kernel
theorem dX4_takeNumber_23 : decode cX4_takeNumber 23 = .ok (.if_icmp .lt 11, 3) := by decide +kernel
theorem dX4_takeNumber_39 : decode cX4_takeNumber 39 = .ok (.iconst 4, 1) := by decide +kernel
theorem dX4_takeNumber_40 : decode cX4_takeNumber 40 = .ok (.goto 4, 3) := by decide +kernel
theorem dX4_takeNumber_26 : decode cX4_takeNumber 26 = .ok (.aload_n 0, 1) := by decide +kernel
theorem dX4_takeNumber_27 : decode cX4_takeNumber 27 = .ok (.getfield 218, 3) := by decide +kernel
theorem dX4_takeNumber_30 : decode cX4_takeNumber 30 = .ok (.iload_n 2, 1) := by decide +kernel
theorem dX4_takeNumber_31 : decode cX4_takeNumber 31 = .ok (.if_icmp .le 18, 3) := by decide +kernel
theorem dX4_takeNumber_49 : decode cX4_takeNumber 49 = .ok (.aload_n 0, 1) := by decide +kernel
theorem dX4_takeNumber_50 : decode cX4_takeNumber 50 = .ok (.getfield 218, 3) := by decide +kernel
theorem dX4_takeNumber_53 : decode cX4_takeNumber 53 = .ok (.istore 4, 2) := by decide +kernel
theorem dX4_takeNumber_55 : decode cX4_takeNumber 55 = .ok (.aload_n 0, 1) := by decide +kernel
theorem dX4_takeNumber_56 : decode cX4_takeNumber 56 = .ok (.invokevirtual 79, 3) := by decide +kernel
theorem dX4_takeNumber_59 : decode cX4_takeNumber 59 = .ok (.iload 4, 2) := by decide +kernel
theorem dX4_takeNumber_61 : decode cX4_takeNumber 61 = .ok (.ireturn, 1) := by decide +kernel
set_option maxHeartbeats 4000000 in
set_option maxRecDepth 100000 in
theorem sX4_takeNumber_1 (l : Launch) (D : va_G) (cB cI cJ cZ : ClassId) (aK aV : Nat → Nat) (h0 : Nat) (x1 : Int32) (x2 : Int32) (h3 : Nat) (h4 : Nat) (h5 : Nat) (h6 : Nat) (h7 : Nat) (h8 : Nat) (x9 : Int32) (h10 : Nat) (h11 : Nat) (x12 : Int32) (x13 : Int32) (x14 : Int32) (y15 : Int64) (x16 : Int32) (x17 : Int32) (x18 : Int32) (f19 : Nat → Int32) (f20 : Nat → Int64) (gh0 : 0 ≤ x1.toInt) (gh1 : 0 ≤ -x1.toInt + 1) (gh2 : 0 ≤ x2.toInt) (gh3 : 0 ≤ -x2.toInt + 999) (gh4 : 0 ≤ x9.toInt) (gh5 : 0 ≤ -x9.toInt + 1600) (gh6 : 0 ≤ x12.toInt) (gh7 : 0 ≤ -x12.toInt + 1600) (gh8 : 0 ≤ x13.toInt) (gh9 : 0 ≤ -x13.toInt + 1600) (gh10 : 0 ≤ x17.toInt) (gh11 : 0 ≤ -x17.toInt + 5) : MX l yX4_takeNumber cX4_takeNumber 5 (some .int) (rmL 6 0 0) D cB cI cJ cZ aK aV [.ref h0, .int x1, .int x2] [(h0, .inr (4, [.ref h3, .ref h4, .ref h5, .ref h6, .ref h7, .ref h8, .int x9, .ref h10, .ref h11, .int x12, .int x13, .int x14, .long y15, .int x16, .int x17, .int x18])), (h8, .inl (cB, 1600, .inl f19)), (h3, .inl (cJ, 21, .inr (.inl f20)))] (fun r w1 => ∃ z1 : Int32, ∃ z2 : Int32, ∃ z3 : Int32, ∃ z4 : Int64, ∃ z5 : Int32, ∃ z6 : Int32, ∃ z7 : Int32, ∃ z8 : Int32, 0 ≤ z1.toInt ∧ 0 ≤ -z1.toInt + 1600 ∧ 0 ≤ z2.toInt ∧ 0 ≤ -z2.toInt + 1600 ∧ 0 ≤ z6.toInt ∧ 0 ≤ -z6.toInt + 5 ∧ 0 ≤ z8.toInt + 1 ∧ 0 ≤ -z8.toInt + 999 ∧ 0 ≤ z6.toInt + z8.toInt ∧ 0 ≤ -x17.toInt + z6.toInt ∧ r = some (.int z8) ∧ w1 = [(h0, .inr (4, [.ref h3, .ref h4, .ref h5, .ref h6, .ref h7, .ref h8, .int x9, .ref h10, .ref h11, .int z1, .int z2, .int z3, .long z4, .int z5, .int z6, .int z7])), (h8, .inl (cB, 1600, .inl f19)), (h3, .inl (cJ, 21, .inr (.inl f20)))]) := by
  refine MX.intro (by decide) (Nat.le_of_ble_eq_true rfl) ?_
  intro p e s m below meth c A ls hx hb hr hml hown hlocks hnm hts hG hE hA hS hP hD hl hAe
  have hl : lv_has ls 5 [(0, .ref h0), (1, .int x1), (2, .int x2)] := hl
  have hown : s.vm.findClass RX4 = some m.cls := hown
  refine lv_aload_n hx hb dX4_takeNumber_0 rfl (lv_at hl 0 rfl) ?_
  refine va_get (D := D) (ci := 4) (v := .int x14) (C := RX4) (T := TX4) (N := 16) hx hb hts inX4 hown hG.1 hP 0 rfl rfl 11 (by decide) (hts _ kw371) (fun _ h9 => h9) rfl dX4_takeNumber_1 ?_
  refine lv_iconst (v := 2) hx hb dX4_takeNumber_4 (by decide +kernel) ?_
  refine lv_icmp_ne (tgt := 12) hx hb dX4_takeNumber_5 (by decide) (fun c_1 => ?_) (fun c_1 => ?_)
  · have fc_1 : x14.toInt ≠ (2 : Int) := i_ne rfl (by decide) c_1
    refine lv_iconst (v := 0) hx hb dX4_takeNumber_12 (by decide +kernel) ?_
    refine lv_istore_n (lv' := [(3, .int 0), (0, .ref h0), (1, .int x1), (2, .int x2)]) hx hb dX4_takeNumber_13 rfl hl (by decide) rfl (fun ls hl => ?_)
    refine lv_iload_n hx hb dX4_takeNumber_14 rfl (lv_at hl 0 rfl) ?_
    refine lv_if_eq (tgt := 34) hx hb dX4_takeNumber_15 (by decide) (fun _ => ?_) (fun h => absurd h (by decide +kernel))
    refine lv_aload_n hx hb dX4_takeNumber_34 rfl (lv_at hl 1 rfl) ?_
    refine lv_iload_n hx hb dX4_takeNumber_35 rfl (lv_at hl 0 rfl) ?_
    refine lv_if_eq (tgt := 43) hx hb dX4_takeNumber_36 (by decide) (fun _ => ?_) (fun h => absurd h (by decide +kernel))
    refine lv_iconst (v := 2) hx hb dX4_takeNumber_43 (by decide +kernel) ?_
    refine xc_core (wr := [(h8, .inl (cB, 1600, .inl f19)), (h3, .inl (cJ, 21, .inr (.inl f20)))]) (k := 0) (n := 0) (xc_runV (As := [.int 2]) (rest := []) hx hb hml hown hts hG hE hP hD hS hA [0] (by decide) rfl (sX4_fail_1 l D cB cI cJ cZ aK aV h0 2 h3 h4 h5 h6 h7 h8 x9 h10 h11 x12 x13 x14 y15 x16 x17 x18 (by have zc2 : (2 : Int32).toInt = 2 := (by decide); omega) (by have zc2 : (2 : Int32).toInt = 2 := (by decide); omega) (by have zc2 : (2 : Int32).toInt = 2 := (by decide); omega) (by have zc2 : (2 : Int32).toInt = 2 := (by decide); omega) (by have zc2 : (2 : Int32).toInt = 2 := (by decide); omega) (by have zc2 : (2 : Int32).toInt = 2 := (by decide); omega) (by have zc2 : (2 : Int32).toInt = 2 := (by decide); omega) (by have zc2 : (2 : Int32).toInt = 2 := (by decide); omega) (by have zc2 : (2 : Int32).toInt = 2 := (by decide); omega) (by have zc2 : (2 : Int32).toInt = 2 := (by decide); omega)) kw731 kw728 kw730 kw4 kw116 (show XD yX4_fail 1 from by decide +kernel) (by decide) rfl rfl 0 rfl hl.1 rfl (Nat.le_of_ble_eq_true rfl) dX4_takeNumber_44 (by decide)) hP hD hS hA [0] [1, 2] rfl rfl (by decide) (by decide) (Nat.le_of_ble_eq_true rfl) (Nat.le_of_ble_eq_true rfl) (fun r w1 H locs hpost hP hD hS => ?_)
    obtain ⟨v_2, v_3, g_4, g_5, g_6, g_7, rfl, rfl⟩ := hpost
    have hP : va_P D vwCl [(h8, .inl (cB, 1600, .inl f19)), (h3, .inl (cJ, 21, .inr (.inl f20))), (h0, .inr (4, [.ref h3, .ref h4, .ref h5, .ref h6, .ref h7, .ref h8, .int x9, .ref h10, .ref h11, .int x12, .int x13, .int x14, .long y15, .int x16, .int v_2, .int v_3]))] H := hP
    have hD : va_D A [(h8, .inl (cB, 1600, .inl f19)), (h3, .inl (cJ, 21, .inr (.inl f20))), (h0, .inr (4, [.ref h3, .ref h4, .ref h5, .ref h6, .ref h7, .ref h8, .int x9, .ref h10, .ref h11, .int x12, .int x13, .int x14, .long y15, .int x16, .int v_2, .int v_3]))] := hD
    refine lv_iconst (v := (-1)) hx hb dX4_takeNumber_47 (by decide +kernel) ?_
    have hP9 := hP.sub (ws' := [(h0, .inr (4, [.ref h3, .ref h4, .ref h5, .ref h6, .ref h7, .ref h8, .int x9, .ref h10, .ref h11, .int x12, .int x13, .int x14, .long y15, .int x16, .int v_2, .int v_3])), (h8, .inl (cB, 1600, .inl f19)), (h3, .inl (cJ, 21, .inr (.inl f20)))]) [2, 0, 1] rfl
    have hD9 := hD.sub (ws' := [(h0, .inr (4, [.ref h3, .ref h4, .ref h5, .ref h6, .ref h7, .ref h8, .int x9, .ref h10, .ref h11, .int x12, .int x13, .int x14, .long y15, .int x16, .int v_2, .int v_3])), (h8, .inl (cB, 1600, .inl f19)), (h3, .inl (cJ, 21, .inr (.inl f20)))]) [2, 0, 1] (by decide) rfl
    exact xr_i (rm := (rmL 6 0 0)) hx hb hr hlocks hAe hS hP9 hD9 rfl (Nat.le_of_ble_eq_true rfl) (Nat.le_of_ble_eq_true rfl) dX4_takeNumber_48 ⟨x12, x13, x14, y15, x16, v_2, v_3, (-1), by have zcm1 : ((-1) : Int32).toInt = (-1) := (by decide); omega, by have zcm1 : ((-1) : Int32).toInt = (-1) := (by decide); omega, by have zcm1 : ((-1) : Int32).toInt = (-1) := (by decide); omega, by have zcm1 : ((-1) : Int32).toInt = (-1) := (by decide); omega, by have zcm1 : ((-1) : Int32).toInt = (-1) := (by decide); omega, by have zcm1 : ((-1) : Int32).toInt = (-1) := (by decide); omega, by have zcm1 : ((-1) : Int32).toInt = (-1) := (by decide); omega, by have zcm1 : ((-1) : Int32).toInt = (-1) := (by decide); omega, by have zcm1 : ((-1) : Int32).toInt = (-1) := (by decide); omega, by have zcm1 : ((-1) : Int32).toInt = (-1) := (by decide); omega, rfl, rfl⟩
  · have fc_1 : x14.toInt = (2 : Int) := i_eq rfl (by decide) c_1
    refine lv_iconst (v := 1) hx hb dX4_takeNumber_8 (by decide +kernel) ?_
    refine lv_goto (tgt := 13) hx hb dX4_takeNumber_9 (by decide) ?_
    refine lv_istore_n (lv' := [(3, .int 1), (0, .ref h0), (1, .int x1), (2, .int x2)]) hx hb dX4_takeNumber_13 rfl hl (by decide) rfl (fun ls hl => ?_)
    refine lv_iload_n hx hb dX4_takeNumber_14 rfl (lv_at hl 0 rfl) ?_
    refine lv_if_eq (tgt := 34) hx hb dX4_takeNumber_15 (by decide) (fun h => absurd h (by decide +kernel)) (fun _ => ?_)
    refine lv_aload_n hx hb dX4_takeNumber_18 rfl (lv_at hl 1 rfl) ?_
    refine va_get (D := D) (ci := 4) (v := .int x16) (C := RX4) (T := TX4) (N := 16) hx hb hts inX4 hown hG.1 hP 0 rfl rfl 13 (by decide) (hts _ kw373) (fun _ h9 => h9) rfl dX4_takeNumber_19 ?_
    refine lv_iload_n hx hb dX4_takeNumber_22 rfl (lv_at hl 2 rfl) ?_
    refine lv_icmp_lt (tgt := 34) hx hb dX4_takeNumber_23 (by decide) (fun c_8 => ?_) (fun c_8 => ?_)
    · have fc_8 : x16.toInt < x1.toInt := i_lt rfl rfl c_8
      refine lv_aload_n hx hb dX4_takeNumber_34 rfl (lv_at hl 1 rfl) ?_
      refine lv_iload_n hx hb dX4_takeNumber_35 rfl (lv_at hl 0 rfl) ?_
      refine lv_if_eq (tgt := 43) hx hb dX4_takeNumber_36 (by decide) (fun h => absurd h (by decide +kernel)) (fun _ => ?_)
      refine lv_iconst (v := 4) hx hb dX4_takeNumber_39 (by decide +kernel) ?_
      refine lv_goto (tgt := 44) hx hb dX4_takeNumber_40 (by decide) ?_
      refine xc_core (wr := [(h8, .inl (cB, 1600, .inl f19)), (h3, .inl (cJ, 21, .inr (.inl f20)))]) (k := 0) (n := 0) (xc_runV (As := [.int 4]) (rest := []) hx hb hml hown hts hG hE hP hD hS hA [0] (by decide) rfl (sX4_fail_1 l D cB cI cJ cZ aK aV h0 4 h3 h4 h5 h6 h7 h8 x9 h10 h11 x12 x13 x14 y15 x16 x17 x18 (by have zc4 : (4 : Int32).toInt = 4 := (by decide); omega) (by have zc4 : (4 : Int32).toInt = 4 := (by decide); omega) (by have zc4 : (4 : Int32).toInt = 4 := (by decide); omega) (by have zc4 : (4 : Int32).toInt = 4 := (by decide); omega) (by have zc4 : (4 : Int32).toInt = 4 := (by decide); omega) (by have zc4 : (4 : Int32).toInt = 4 := (by decide); omega) (by have zc4 : (4 : Int32).toInt = 4 := (by decide); omega) (by have zc4 : (4 : Int32).toInt = 4 := (by decide); omega) (by have zc4 : (4 : Int32).toInt = 4 := (by decide); omega) (by have zc4 : (4 : Int32).toInt = 4 := (by decide); omega)) kw731 kw728 kw730 kw4 kw116 (show XD yX4_fail 1 from by decide +kernel) (by decide) rfl rfl 0 rfl hl.1 rfl (Nat.le_of_ble_eq_true rfl) dX4_takeNumber_44 (by decide)) hP hD hS hA [0] [1, 2] rfl rfl (by decide) (by decide) (Nat.le_of_ble_eq_true rfl) (Nat.le_of_ble_eq_true rfl) (fun r w1 H locs hpost hP hD hS => ?_)
      obtain ⟨v_9, v_10, g_11, g_12, g_13, g_14, rfl, rfl⟩ := hpost
      have hP : va_P D vwCl [(h8, .inl (cB, 1600, .inl f19)), (h3, .inl (cJ, 21, .inr (.inl f20))), (h0, .inr (4, [.ref h3, .ref h4, .ref h5, .ref h6, .ref h7, .ref h8, .int x9, .ref h10, .ref h11, .int x12, .int x13, .int x14, .long y15, .int x16, .int v_9, .int v_10]))] H := hP
      have hD : va_D A [(h8, .inl (cB, 1600, .inl f19)), (h3, .inl (cJ, 21, .inr (.inl f20))), (h0, .inr (4, [.ref h3, .ref h4, .ref h5, .ref h6, .ref h7, .ref h8, .int x9, .ref h10, .ref h11, .int x12, .int x13, .int x14, .long y15, .int x16, .int v_9, .int v_10]))] := hD
      refine lv_iconst (v := (-1)) hx hb dX4_takeNumber_47 (by decide +kernel) ?_
      have hP9 := hP.sub (ws' := [(h0, .inr (4, [.ref h3, .ref h4, .ref h5, .ref h6, .ref h7, .ref h8, .int x9, .ref h10, .ref h11, .int x12, .int x13, .int x14, .long y15, .int x16, .int v_9, .int v_10])), (h8, .inl (cB, 1600, .inl f19)), (h3, .inl (cJ, 21, .inr (.inl f20)))]) [2, 0, 1] rfl
      have hD9 := hD.sub (ws' := [(h0, .inr (4, [.ref h3, .ref h4, .ref h5, .ref h6, .ref h7, .ref h8, .int x9, .ref h10, .ref h11, .int x12, .int x13, .int x14, .long y15, .int x16, .int v_9, .int v_10])), (h8, .inl (cB, 1600, .inl f19)), (h3, .inl (cJ, 21, .inr (.inl f20)))]) [2, 0, 1] (by decide) rfl
      exact xr_i (rm := (rmL 6 0 0)) hx hb hr hlocks hAe hS hP9 hD9 rfl (Nat.le_of_ble_eq_true rfl) (Nat.le_of_ble_eq_true rfl) dX4_takeNumber_48 ⟨x12, x13, x14, y15, x16, v_9, v_10, (-1), by have zcm1 : ((-1) : Int32).toInt = (-1) := (by decide); omega, by have zcm1 : ((-1) : Int32).toInt = (-1) := (by decide); omega, by have zcm1 : ((-1) : Int32).toInt = (-1) := (by decide); omega, by have zcm1 : ((-1) : Int32).toInt = (-1) := (by decide); omega, by have zcm1 : ((-1) : Int32).toInt = (-1) := (by decide); omega, by have zcm1 : ((-1) : Int32).toInt = (-1) := (by decide); omega, by have zcm1 : ((-1) : Int32).toInt = (-1) := (by decide); omega, by have zcm1 : ((-1) : Int32).toInt = (-1) := (by decide); omega, by have zcm1 : ((-1) : Int32).toInt = (-1) := (by decide); omega, by have zcm1 : ((-1) : Int32).toInt = (-1) := (by decide); omega, rfl, rfl⟩
    · have fc_8 : x1.toInt ≤ x16.toInt := i_nlt rfl rfl c_8
      refine lv_aload_n hx hb dX4_takeNumber_26 rfl (lv_at hl 1 rfl) ?_
      refine va_get (D := D) (ci := 4) (v := .int x16) (C := RX4) (T := TX4) (N := 16) hx hb hts inX4 hown hG.1 hP 0 rfl rfl 13 (by decide) (hts _ kw373) (fun _ h9 => h9) rfl dX4_takeNumber_27 ?_
      refine lv_iload_n hx hb dX4_takeNumber_30 rfl (lv_at hl 3 rfl) ?_
      refine lv_icmp_le (tgt := 49) hx hb dX4_takeNumber_31 (by decide) (fun c_15 => ?_) (fun c_15 => ?_)
      · have fc_15 : x16.toInt ≤ x2.toInt := i_le rfl rfl c_15
        refine lv_aload_n hx hb dX4_takeNumber_49 rfl (lv_at hl 1 rfl) ?_
        refine va_get (D := D) (ci := 4) (v := .int x16) (C := RX4) (T := TX4) (N := 16) hx hb hts inX4 hown hG.1 hP 0 rfl rfl 13 (by decide) (hts _ kw373) (fun _ h9 => h9) rfl dX4_takeNumber_50 ?_
        refine lv_istore (lv' := [(4, .int x16), (3, .int 1), (0, .ref h0), (1, .int x1), (2, .int x2)]) hx hb dX4_takeNumber_53 hl (by decide) rfl (fun ls hl => ?_)
        refine lv_aload_n hx hb dX4_takeNumber_55 rfl (lv_at hl 2 rfl) ?_
        refine xc_core (wr := []) (k := 0) (n := 0) (xc_runV (As := []) (rest := []) hx hb hml hown hts hG hE hP hD hS hA [0, 1, 2] (by decide) rfl (sX4_step_1 l D cB cI cJ cZ aK aV h0 h3 h4 h5 h6 h7 h8 x9 h10 h11 x12 x13 x14 y15 x16 x17 x18 f19 f20 (by omega) (by omega) (by omega) (by omega) (by omega) (by omega) (by omega) (by omega)) kw657 kw654 kw656 kw0 kw116 (show XD yX4_step 0 from by decide +kernel) (by decide) rfl rfl 0 rfl hl.1 rfl (Nat.le_of_ble_eq_true rfl) dX4_takeNumber_56 (by decide)) hP hD hS hA [0, 1, 2] [] rfl rfl (by decide) (by decide) (Nat.le_of_ble_eq_true rfl) (Nat.le_of_ble_eq_true rfl) (fun r w1 H locs hpost hP hD hS => ?_)
        obtain ⟨v_16, v_17, v_18, v_19, v_20, g_21, g_22, g_23, g_24, rfl, rfl⟩ := hpost
        have hP : va_P D vwCl [(h0, .inr (4, [.ref h3, .ref h4, .ref h5, .ref h6, .ref h7, .ref h8, .int x9, .ref h10, .ref h11, .int v_16, .int v_17, .int v_18, .long v_19, .int v_20, .int x17, .int x18])), (h8, .inl (cB, 1600, .inl f19)), (h3, .inl (cJ, 21, .inr (.inl f20)))] H := hP
        have hD : va_D A [(h0, .inr (4, [.ref h3, .ref h4, .ref h5, .ref h6, .ref h7, .ref h8, .int x9, .ref h10, .ref h11, .int v_16, .int v_17, .int v_18, .long v_19, .int v_20, .int x17, .int x18])), (h8, .inl (cB, 1600, .inl f19)), (h3, .inl (cJ, 21, .inr (.inl f20)))] := hD
        refine lv_iload hx hb dX4_takeNumber_59 (lv_at hl 0 rfl) ?_
        have hP9 := hP.sub (ws' := [(h0, .inr (4, [.ref h3, .ref h4, .ref h5, .ref h6, .ref h7, .ref h8, .int x9, .ref h10, .ref h11, .int v_16, .int v_17, .int v_18, .long v_19, .int v_20, .int x17, .int x18])), (h8, .inl (cB, 1600, .inl f19)), (h3, .inl (cJ, 21, .inr (.inl f20)))]) [0, 1, 2] rfl
        have hD9 := hD.sub (ws' := [(h0, .inr (4, [.ref h3, .ref h4, .ref h5, .ref h6, .ref h7, .ref h8, .int x9, .ref h10, .ref h11, .int v_16, .int v_17, .int v_18, .long v_19, .int v_20, .int x17, .int x18])), (h8, .inl (cB, 1600, .inl f19)), (h3, .inl (cJ, 21, .inr (.inl f20)))]) [0, 1, 2] (by decide) rfl
        exact xr_i (rm := (rmL 6 0 0)) hx hb hr hlocks hAe hS hP9 hD9 rfl (Nat.le_of_ble_eq_true rfl) (Nat.le_of_ble_eq_true rfl) dX4_takeNumber_61 ⟨v_16, v_17, v_18, v_19, v_20, x17, x18, x16, by omega, by omega, by omega, by omega, by omega, by omega, by omega, by omega, by omega, by omega, rfl, rfl⟩
      · have fc_15 : x2.toInt < x16.toInt := i_nle rfl rfl c_15
        refine lv_aload_n hx hb dX4_takeNumber_34 rfl (lv_at hl 1 rfl) ?_
        refine lv_iload_n hx hb dX4_takeNumber_35 rfl (lv_at hl 0 rfl) ?_
        refine lv_if_eq (tgt := 43) hx hb dX4_takeNumber_36 (by decide) (fun h => absurd h (by decide +kernel)) (fun _ => ?_)
        refine lv_iconst (v := 4) hx hb dX4_takeNumber_39 (by decide +kernel) ?_
        refine lv_goto (tgt := 44) hx hb dX4_takeNumber_40 (by decide) ?_
        refine xc_core (wr := [(h8, .inl (cB, 1600, .inl f19)), (h3, .inl (cJ, 21, .inr (.inl f20)))]) (k := 0) (n := 0) (xc_runV (As := [.int 4]) (rest := []) hx hb hml hown hts hG hE hP hD hS hA [0] (by decide) rfl (sX4_fail_1 l D cB cI cJ cZ aK aV h0 4 h3 h4 h5 h6 h7 h8 x9 h10 h11 x12 x13 x14 y15 x16 x17 x18 (by have zc4 : (4 : Int32).toInt = 4 := (by decide); omega) (by have zc4 : (4 : Int32).toInt = 4 := (by decide); omega) (by have zc4 : (4 : Int32).toInt = 4 := (by decide); omega) (by have zc4 : (4 : Int32).toInt = 4 := (by decide); omega) (by have zc4 : (4 : Int32).toInt = 4 := (by decide); omega) (by have zc4 : (4 : Int32).toInt = 4 := (by decide); omega) (by have zc4 : (4 : Int32).toInt = 4 := (by decide); omega) (by have zc4 : (4 : Int32).toInt = 4 := (by decide); omega) (by have zc4 : (4 : Int32).toInt = 4 := (by decide); omega) (by have zc4 : (4 : Int32).toInt = 4 := (by decide); omega)) kw731 kw728 kw730 kw4 kw116 (show XD yX4_fail 1 from by decide +kernel) (by decide) rfl rfl 0 rfl hl.1 rfl (Nat.le_of_ble_eq_true rfl) dX4_takeNumber_44 (by decide)) hP hD hS hA [0] [1, 2] rfl rfl (by decide) (by decide) (Nat.le_of_ble_eq_true rfl) (Nat.le_of_ble_eq_true rfl) (fun r w1 H locs hpost hP hD hS => ?_)
        obtain ⟨v_25, v_26, g_27, g_28, g_29, g_30, rfl, rfl⟩ := hpost
        have hP : va_P D vwCl [(h8, .inl (cB, 1600, .inl f19)), (h3, .inl (cJ, 21, .inr (.inl f20))), (h0, .inr (4, [.ref h3, .ref h4, .ref h5, .ref h6, .ref h7, .ref h8, .int x9, .ref h10, .ref h11, .int x12, .int x13, .int x14, .long y15, .int x16, .int v_25, .int v_26]))] H := hP
        have hD : va_D A [(h8, .inl (cB, 1600, .inl f19)), (h3, .inl (cJ, 21, .inr (.inl f20))), (h0, .inr (4, [.ref h3, .ref h4, .ref h5, .ref h6, .ref h7, .ref h8, .int x9, .ref h10, .ref h11, .int x12, .int x13, .int x14, .long y15, .int x16, .int v_25, .int v_26]))] := hD
        refine lv_iconst (v := (-1)) hx hb dX4_takeNumber_47 (by decide +kernel) ?_
        have hP9 := hP.sub (ws' := [(h0, .inr (4, [.ref h3, .ref h4, .ref h5, .ref h6, .ref h7, .ref h8, .int x9, .ref h10, .ref h11, .int x12, .int x13, .int x14, .long y15, .int x16, .int v_25, .int v_26])), (h8, .inl (cB, 1600, .inl f19)), (h3, .inl (cJ, 21, .inr (.inl f20)))]) [2, 0, 1] rfl
        have hD9 := hD.sub (ws' := [(h0, .inr (4, [.ref h3, .ref h4, .ref h5, .ref h6, .ref h7, .ref h8, .int x9, .ref h10, .ref h11, .int x12, .int x13, .int x14, .long y15, .int x16, .int v_25, .int v_26])), (h8, .inl (cB, 1600, .inl f19)), (h3, .inl (cJ, 21, .inr (.inl f20)))]) [2, 0, 1] (by decide) rfl
        exact xr_i (rm := (rmL 6 0 0)) hx hb hr hlocks hAe hS hP9 hD9 rfl (Nat.le_of_ble_eq_true rfl) (Nat.le_of_ble_eq_true rfl) dX4_takeNumber_48 ⟨x12, x13, x14, y15, x16, v_25, v_26, (-1), by have zcm1 : ((-1) : Int32).toInt = (-1) := (by decide); omega, by have zcm1 : ((-1) : Int32).toInt = (-1) := (by decide); omega, by have zcm1 : ((-1) : Int32).toInt = (-1) := (by decide); omega, by have zcm1 : ((-1) : Int32).toInt = (-1) := (by decide); omega, by have zcm1 : ((-1) : Int32).toInt = (-1) := (by decide); omega, by have zcm1 : ((-1) : Int32).toInt = (-1) := (by decide); omega, by have zcm1 : ((-1) : Int32).toInt = (-1) := (by decide); omega, by have zcm1 : ((-1) : Int32).toInt = (-1) := (by decide); omega, by have zcm1 : ((-1) : Int32).toInt = (-1) := (by decide); omega, by have zcm1 : ((-1) : Int32).toInt = (-1) := (by decide); omega, rfl, rfl⟩
