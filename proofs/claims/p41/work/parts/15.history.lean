set_option maxHeartbeats 4000000 in
set_option maxRecDepth 100000 in
theorem sX2_rowAt_2 (l : Launch) (D : va_G) (cB cI cJ cZ : ClassId) (aK aV : Nat → Nat) (h0 : Nat) (x1 : Int32) (h2 : Nat) (x3 : Int32) (x4 : Int32) (x5 : Int32) (gh0 : 0 ≤ x3.toInt) (gh1 : 0 ≤ -x3.toInt + 40) (gh2 : 0 ≤ x4.toInt) (gh3 : 0 ≤ -x4.toInt + 40) (gh4 : 0 ≤ x5.toInt) (gh5 : 0 ≤ -x5.toInt + 40) (gh6 : 0 ≤ x1.toInt) (gh7 : 0 ≤ -x1.toInt + 40) (gh8 : 0 ≤ -x4.toInt - x5.toInt + 40) : MX l yX2_rowAt cX2_rowAt 2 (some .int) (rmL 1 0 0) D cB cI cJ cZ aK aV [.ref h0, .int x1] [(h0, .inr (2, [.ref h2, .int x3, .int x4, .int x5]))] (fun r w1 => ∃ z1 : Int32, 0 ≤ z1.toInt ∧ 0 ≤ -z1.toInt + 1080 ∧ RA (z1.toInt) (x3.toInt) (x1.toInt) ∧ r = some (.int z1) ∧ w1 = [(h0, .inr (2, [.ref h2, .int x3, .int x4, .int x5]))]) := by
  refine MX.intro (by decide) (Nat.le_of_ble_eq_true rfl) ?_
  intro p e s m below meth c A ls hx hb hr hml hown hlocks hnm hts hG hE hA hS hP hD hl hAe
  have hl : lv_has ls 2 [(0, .ref h0), (1, .int x1)] := hl
  have hown : s.vm.findClass RX2 = some m.cls := hown
  refine lv_aload_n hx hb dX2_rowAt_0 rfl (lv_at hl 0 rfl) ?_
  refine va_get (D := D) (ci := 2) (v := .int x3) (C := RX2) (T := TX2) (N := 4) hx hb hts inX2 hown hG.1 hP 0 rfl rfl 1 (by decide) (hts _ kw469) (fun _ h9 => h9) rfl dX2_rowAt_1 ?_
  refine lv_iload_n hx hb dX2_rowAt_4 rfl (lv_at hl 1 rfl) ?_
  refine lv_iadd hx hb dX2_rowAt_5 ?_
  refine lv_topi (fun v_1 ev_1 => ?_)
  have gv_1 : v_1.toInt = x3.toInt + x1.toInt := by
    have zx : (x3 : Int32).toInt = x3.toInt := rfl
    have zy : (x1 : Int32).toInt = x1.toInt := rfl
    rw [ev_1, i32_add (by rw [zx, zy]; omega) (by rw [zx, zy]; omega), zx, zy]
  refine lv_bipush (v := 41) hx hb dX2_rowAt_6 (by decide +kernel) ?_
  refine lv_irem hx hb dX2_rowAt_8 (by decide +kernel) ?_
  refine lv_topi (fun v_2 ev_2 => ?_)
  have mv_2 := i32_remE (b := (41 : Int)) (by decide) (by omega) (by omega) ev_2
  have gv_2 : 0 ≤ v_2.toInt ∧ v_2.toInt < (41 : Int) := by rw [ev_2]; exact i32_rem rfl (by decide) (by omega) (by omega)
  refine lv_bipush (v := 27) hx hb dX2_rowAt_9 (by decide +kernel) ?_
  refine lv_imul hx hb dX2_rowAt_11 ?_
  refine lv_topi (fun v_3 ev_3 => ?_)
  have gv_3 : v_3.toInt = v_2.toInt * (27 : Int) := by
    have zx : (v_2 : Int32).toInt = v_2.toInt := rfl
    have zy : (27 : Int32).toInt = (27 : Int) := (by decide)
    rw [ev_3, i32_mul (by rw [zx, zy]; omega) (by rw [zx, zy]; omega), zx, zy]
  have o_4 : RA (v_3.toInt) (x3.toInt) (x1.toInt) := by unfold RA; omega
  have hP9 := hP.sub (ws' := [(h0, .inr (2, [.ref h2, .int x3, .int x4, .int x5]))]) [0] rfl
  have hD9 := hD.sub (ws' := [(h0, .inr (2, [.ref h2, .int x3, .int x4, .int x5]))]) [0] (by decide) rfl
  exact xr_i (rm := (rmL 1 0 0)) hx hb hr hlocks hAe hS hP9 hD9 rfl (Nat.le_of_ble_eq_true rfl) (Nat.le_of_ble_eq_true rfl) dX2_rowAt_12 ⟨v_3, by omega, by omega, o_4, rfl, rfl⟩
theorem dX3_writeTo_0 : decode cX3_writeTo 0 = .ok (.iload_n 2, 1) := by decide +kernel
theorem dX3_writeTo_1 : decode cX3_writeTo 1 = .ok (.ifCond .lt 12, 3) := by decide +kernel
theorem dX3_writeTo_4 : decode cX3_writeTo 4 = .ok (.iload_n 2, 1) := by decide +kernel
theorem dX3_writeTo_5 : decode cX3_writeTo 5 = .ok (.aload_n 1, 1) := by decide +kernel
theorem dX3_writeTo_6 : decode cX3_writeTo 6 = .ok (.arraylength, 1) := by decide +kernel
theorem dX3_writeTo_7 : decode cX3_writeTo 7 = .ok (.bipush 27, 2) := by decide +kernel
theorem dX3_writeTo_9 : decode cX3_writeTo 9 = .ok (.isub, 1) := by decide +kernel
theorem dX3_writeTo_10 : decode cX3_writeTo 10 = .ok (.if_icmp .le 4, 3) := by decide +kernel
theorem dX3_writeTo_14 : decode cX3_writeTo 14 = .ok (.aload_n 0, 1) := by decide +kernel
theorem dX3_writeTo_15 : decode cX3_writeTo 15 = .ok (.getfield 11, 3) := by decide +kernel
theorem dX3_writeTo_18 : decode cX3_writeTo 18 = .ok (.iconst 0, 1) := by decide +kernel
theorem dX3_writeTo_19 : decode cX3_writeTo 19 = .ok (.aload_n 1, 1) := by decide +kernel
theorem dX3_writeTo_20 : decode cX3_writeTo 20 = .ok (.iload_n 2, 1) := by decide +kernel
theorem dX3_writeTo_21 : decode cX3_writeTo 21 = .ok (.bipush 7, 2) := by decide +kernel
theorem dX3_writeTo_23 : decode cX3_writeTo 23 = .ok (.invokestatic 40, 3) := by decide +kernel
theorem dX3_writeTo_26 : decode cX3_writeTo 26 = .ok (.aload_n 0, 1) := by decide +kernel
theorem dX3_writeTo_27 : decode cX3_writeTo 27 = .ok (.getfield 15, 3) := by decide +kernel
theorem dX3_writeTo_30 : decode cX3_writeTo 30 = .ok (.iconst 0, 1) := by decide +kernel
theorem dX3_writeTo_31 : decode cX3_writeTo 31 = .ok (.aload_n 1, 1) := by decide +kernel
theorem dX3_writeTo_32 : decode cX3_writeTo 32 = .ok (.iload_n 2, 1) := by decide +kernel
theorem dX3_writeTo_33 : decode cX3_writeTo 33 = .ok (.bipush 7, 2) := by decide +kernel
theorem dX3_writeTo_35 : decode cX3_writeTo 35 = .ok (.iadd, 1) := by decide +kernel
theorem dX3_writeTo_36 : decode cX3_writeTo 36 = .ok (.bipush 7, 2) := by decide +kernel
theorem dX3_writeTo_38 : decode cX3_writeTo 38 = .ok (.invokestatic 40, 3) := by decide +kernel
theorem dX3_writeTo_41 : decode cX3_writeTo 41 = .ok (.aload_n 0, 1) := by decide +kernel
theorem dX3_writeTo_42 : decode cX3_writeTo 42 = .ok (.getfield 18, 3) := by decide +kernel
theorem dX3_writeTo_45 : decode cX3_writeTo 45 = .ok (.iconst 0, 1) := by decide +kernel
theorem dX3_writeTo_46 : decode cX3_writeTo 46 = .ok (.aload_n 1, 1) := by decide +kernel
theorem dX3_writeTo_47 : decode cX3_writeTo 47 = .ok (.iload_n 2, 1) := by decide +kernel
theorem dX3_writeTo_48 : decode cX3_writeTo 48 = .ok (.bipush 14, 2) := by decide +kernel
theorem dX3_writeTo_50 : decode cX3_writeTo 50 = .ok (.iadd, 1) := by decide +kernel
theorem dX3_writeTo_51 : decode cX3_writeTo 51 = .ok (.bipush 7, 2) := by decide +kernel
theorem dX3_writeTo_53 : decode cX3_writeTo 53 = .ok (.invokestatic 40, 3) := by decide +kernel
theorem dX3_writeTo_56 : decode cX3_writeTo 56 = .ok (.aload_n 0, 1) := by decide +kernel
theorem dX3_writeTo_57 : decode cX3_writeTo 57 = .ok (.getfield 21, 3) := by decide +kernel
theorem dX3_writeTo_60 : decode cX3_writeTo 60 = .ok (.iconst 0, 1) := by decide +kernel
theorem dX3_writeTo_61 : decode cX3_writeTo 61 = .ok (.aload_n 1, 1) := by decide +kernel
theorem dX3_writeTo_62 : decode cX3_writeTo 62 = .ok (.iload_n 2, 1) := by decide +kernel
theorem dX3_writeTo_63 : decode cX3_writeTo 63 = .ok (.bipush 21, 2) := by decide +kernel
theorem dX3_writeTo_65 : decode cX3_writeTo 65 = .ok (.iadd, 1) := by decide +kernel
theorem dX3_writeTo_66 : decode cX3_writeTo 66 = .ok (.iconst 4, 1) := by decide +kernel
theorem dX3_writeTo_67 : decode cX3_writeTo 67 = .ok (.invokestatic 40, 3) := by decide +kernel
theorem dX3_writeTo_70 : decode cX3_writeTo 70 = .ok (.aload_n 1, 1) := by decide +kernel
theorem dX3_writeTo_71 : decode cX3_writeTo 71 = .ok (.iload_n 2, 1) := by decide +kernel
theorem dX3_writeTo_72 : decode cX3_writeTo 72 = .ok (.bipush 25, 2) := by decide +kernel
theorem dX3_writeTo_74 : decode cX3_writeTo 74 = .ok (.iadd, 1) := by decide +kernel
theorem dX3_writeTo_75 : decode cX3_writeTo 75 = .ok (.aload_n 0, 1) := by decide +kernel
theorem dX3_writeTo_76 : decode cX3_writeTo 76 = .ok (.getfield 49, 3) := by decide +kernel
theorem dX3_writeTo_79 : decode cX3_writeTo 79 = .ok (.iastore, 1) := by decide +kernel
theorem dX3_writeTo_80 : decode cX3_writeTo 80 = .ok (.aload_n 1, 1) := by decide +kernel
theorem dX3_writeTo_81 : decode cX3_writeTo 81 = .ok (.iload_n 2, 1) := by decide +kernel
theorem dX3_writeTo_82 : decode cX3_writeTo 82 = .ok (.bipush 25, 2) := by decide +kernel
theorem dX3_writeTo_84 : decode cX3_writeTo 84 = .ok (.iadd, 1) := by decide +kernel
theorem dX3_writeTo_85 : decode cX3_writeTo 85 = .ok (.iconst 1, 1) := by decide +kernel
theorem dX3_writeTo_86 : decode cX3_writeTo 86 = .ok (.iadd, 1) := by decide +kernel
theorem dX3_writeTo_87 : decode cX3_writeTo 87 = .ok (.aload_n 0, 1) := by decide +kernel
theorem dX3_writeTo_88 : decode cX3_writeTo 88 = .ok (.getfield 56, 3) := by decide +kernel
theorem dX3_writeTo_91 : decode cX3_writeTo 91 = .ok (.iastore, 1) := by decide +kernel
theorem dX3_writeTo_92 : decode cX3_writeTo 92 = .ok (.return_, 1) := by decide +kernel
set_option maxHeartbeats 4000000 in
set_option maxRecDepth 100000 in
theorem sX3_writeTo_1 (l : Launch) (D : va_G) (cB cI cJ cZ : ClassId) (aK aV : Nat → Nat) (h0 : Nat) (h1 : Nat) (x2 : Int32) (h3 : Nat) (h4 : Nat) (h5 : Nat) (h6 : Nat) (h7 : Nat) (h8 : Nat) (x9 : Int32) (x10 : Int32) (f11 : Nat → Int32) (f12 : Nat → Int32) (x13 : Int32) (x14 : Int32) (x15 : Int32) (h16 : Nat) (h17 : Nat) (h18 : Nat) (h19 : Nat) (h20 : Nat) (h21 : Nat) (h22 : Nat) (h23 : Nat) (h24 : Nat) (h25 : Nat) (x26 : Int32) (x27 : Int32) (x28 : Int32) (x29 : Int32) (x30 : Int32) (f31 : Nat → Int32) (f32 : Nat → Int32) (f33 : Nat → Int32) (gh0 : 0 ≤ x10.toInt) (gh1 : 0 ≤ -x10.toInt + 999) (gh2 : 0 ≤ x2.toInt) (gh3 : 0 ≤ -x2.toInt + 1080) (gh4 : 0 ≤ x13.toInt) (gh5 : 0 ≤ -x13.toInt + 4) (gh6 : 0 ≤ x14.toInt) (gh7 : 0 ≤ -x14.toInt + 3) (gh8 : 0 ≤ x15.toInt) (gh9 : 0 ≤ -x15.toInt + 7) (gh10 : 0 ≤ x29.toInt + 1) (gh11 : 0 ≤ -x29.toInt + 999) (ga0 : AR f12 (0) (3) (x15.toInt)) : MX l yX3_writeTo cX3_writeTo 3 none (rmL 1 0 0) D cB cI cJ cZ aK aV [.ref h0, .ref h1, .int x2] [(h0, .inr (3, [.ref h3, .ref h4, .ref h5, .ref h6, .ref h7, .ref h8, .int x9, .int x10])), (h1, .inl (cI, 1107, .inl f11)), (h3, .inr (8, [.int x13, .int x14, .int x15, .ref h16, .ref h17, .ref h18, .ref h19, .ref h20, .ref h21, .ref h22, .ref h23, .ref h24, .ref h25, .int x26, .int x27, .int x28, .int x29, .int x30])), (h4, .inl (cI, 7, .inl f12)), (h5, .inl (cI, 7, .inl f31)), (h6, .inl (cI, 7, .inl f32)), (h7, .inl (cI, 4, .inl f33))] (fun r w1 => ∃ z1 : Nat → Int32, WR f11 z1 (x2.toInt) (x15.toInt) ∧ r = none ∧ w1 = [(h0, .inr (3, [.ref h3, .ref h4, .ref h5, .ref h6, .ref h7, .ref h8, .int x9, .int x10])), (h1, .inl (cI, 1107, .inl z1)), (h3, .inr (8, [.int x13, .int x14, .int x15, .ref h16, .ref h17, .ref h18, .ref h19, .ref h20, .ref h21, .ref h22, .ref h23, .ref h24, .ref h25, .int x26, .int x27, .int x28, .int x29, .int x30])), (h4, .inl (cI, 7, .inl f12)), (h5, .inl (cI, 7, .inl f31)), (h6, .inl (cI, 7, .inl f32)), (h7, .inl (cI, 4, .inl f33))]) := by
  refine MX.intro (by decide) (Nat.le_of_ble_eq_true rfl) ?_
  intro p e s m below meth c A ls hx hb hr hml hown hlocks hnm hts hG hE hA hS hP hD hl hAe
  have hl : lv_has ls 3 [(0, .ref h0), (1, .ref h1), (2, .int x2)] := hl
  have hown : s.vm.findClass RX3 = some m.cls := hown
  refine lv_iload_n hx hb dX3_writeTo_0 rfl (lv_at hl 2 rfl) ?_
  refine lv_if_lt (tgt := 13) hx hb dX3_writeTo_1 (by decide) (fun c_1 => by exfalso; have fc_1 : x2.toInt < (0 : Int) := i_lt rfl (by decide) c_1; omega) (fun c_1 => ?_)
  have fc_1 : (0 : Int) ≤ x2.toInt := i_nlt rfl (by decide) c_1
  refine lv_iload_n hx hb dX3_writeTo_4 rfl (lv_at hl 2 rfl) ?_
  refine lv_aload_n hx hb dX3_writeTo_5 rfl (lv_at hl 1 rfl) ?_
  refine xa_alen (v := 1107) hx hb hG hP 1 1 rfl rfl rfl dX3_writeTo_6 ?_
  refine lv_bipush (v := 27) hx hb dX3_writeTo_7 (by decide +kernel) ?_
  refine lv_isub hx hb dX3_writeTo_9 ?_
  refine xt_i (v := 1080) (by decide +kernel) ?_
  refine lv_icmp_le (tgt := 14) hx hb dX3_writeTo_10 (by decide) (fun c_2 => ?_) (fun c_2 => by exfalso; have fc_2 : (1080 : Int) < x2.toInt := i_nle rfl (by decide) c_2; omega)
  have fc_2 : x2.toInt ≤ (1080 : Int) := i_le rfl (by decide) c_2
  refine lv_aload_n hx hb dX3_writeTo_14 rfl (lv_at hl 0 rfl) ?_
  refine va_get (D := D) (ci := 3) (v := .ref h4) (C := RX3) (T := TX3) (N := 8) hx hb hts inX3 hown hG.1 hP 0 rfl rfl 1 (by decide) (hts _ kw428) (fun _ h9 => h9) rfl dX3_writeTo_15 ?_
  refine lv_iconst (v := 0) hx hb dX3_writeTo_18 (by decide +kernel) ?_
  refine lv_aload_n hx hb dX3_writeTo_19 rfl (lv_at hl 1 rfl) ?_
  refine lv_iload_n hx hb dX3_writeTo_20 rfl (lv_at hl 2 rfl) ?_
  refine lv_bipush (v := 7) hx hb dX3_writeTo_21 (by decide +kernel) ?_
  refine xa_cpyE (sN := 0) (dN := x2.toInt.toNat) (kN := 7) hx hb hml hl.1 hown hts kw422 kw424 kw423 kw122 hG hP hD hS 3 1 rfl rfl (by decide +kernel) (i_nn (by omega)) (by decide +kernel) (by decide +kernel) (cpy_le (k := 7) (by decide +kernel) (by omega) (by omega)) (by decide +kernel) rfl (by decide +kernel) (Nat.le_of_ble_eq_true rfl) (Nat.le_of_ble_eq_true rfl) dX3_writeTo_23 (fun f_3 H locs ef_3 hP hD hS => ?_)
  have hP : va_P D vwCl [(h0, .inr (3, [.ref h3, .ref h4, .ref h5, .ref h6, .ref h7, .ref h8, .int x9, .int x10])), (h1, .inl (cI, 1107, .inl f_3)), (h3, .inr (8, [.int x13, .int x14, .int x15, .ref h16, .ref h17, .ref h18, .ref h19, .ref h20, .ref h21, .ref h22, .ref h23, .ref h24, .ref h25, .int x26, .int x27, .int x28, .int x29, .int x30])), (h4, .inl (cI, 7, .inl f12)), (h5, .inl (cI, 7, .inl f31)), (h6, .inl (cI, 7, .inl f32)), (h7, .inl (cI, 4, .inl f33))] H := hP
  have hD : va_D A [(h0, .inr (3, [.ref h3, .ref h4, .ref h5, .ref h6, .ref h7, .ref h8, .int x9, .int x10])), (h1, .inl (cI, 1107, .inl f_3)), (h3, .inr (8, [.int x13, .int x14, .int x15, .ref h16, .ref h17, .ref h18, .ref h19, .ref h20, .ref h21, .ref h22, .ref h23, .ref h24, .ref h25, .int x26, .int x27, .int x28, .int x29, .int x30])), (h4, .inl (cI, 7, .inl f12)), (h5, .inl (cI, 7, .inl f31)), (h6, .inl (cI, 7, .inl f32)), (h7, .inl (cI, 4, .inl f33))] := hD
  refine lv_aload_n hx hb dX3_writeTo_26 rfl (lv_at hl 0 rfl) ?_
  refine va_get (D := D) (ci := 3) (v := .ref h5) (C := RX3) (T := TX3) (N := 8) hx hb hts inX3 hown hG.1 hP 0 rfl rfl 2 (by decide) (hts _ kw432) (fun _ h9 => h9) rfl dX3_writeTo_27 ?_
  refine lv_iconst (v := 0) hx hb dX3_writeTo_30 (by decide +kernel) ?_
  refine lv_aload_n hx hb dX3_writeTo_31 rfl (lv_at hl 1 rfl) ?_
  refine lv_iload_n hx hb dX3_writeTo_32 rfl (lv_at hl 2 rfl) ?_
  refine lv_bipush (v := 7) hx hb dX3_writeTo_33 (by decide +kernel) ?_
  refine lv_iadd hx hb dX3_writeTo_35 ?_
  refine lv_topi (fun v_4 ev_4 => ?_)
  have gv_4 : v_4.toInt = x2.toInt + (7 : Int) := by
    have zx : (x2 : Int32).toInt = x2.toInt := rfl
    have zy : (7 : Int32).toInt = (7 : Int) := (by decide)
    rw [ev_4, i32_add (by rw [zx, zy]; omega) (by rw [zx, zy]; omega), zx, zy]
  refine lv_bipush (v := 7) hx hb dX3_writeTo_36 (by decide +kernel) ?_
  refine xa_cpyE (sN := 0) (dN := v_4.toInt.toNat) (kN := 7) hx hb hml hl.1 hown hts kw422 kw424 kw423 kw122 hG hP hD hS 4 1 rfl rfl (by decide +kernel) (i_nn (by omega)) (by decide +kernel) (by decide +kernel) (cpy_le (k := 7) (by decide +kernel) (by omega) (by omega)) (by decide +kernel) rfl (by decide +kernel) (Nat.le_of_ble_eq_true rfl) (Nat.le_of_ble_eq_true rfl) dX3_writeTo_38 (fun f_5 H locs ef_5 hP hD hS => ?_)
  have hP : va_P D vwCl [(h0, .inr (3, [.ref h3, .ref h4, .ref h5, .ref h6, .ref h7, .ref h8, .int x9, .int x10])), (h1, .inl (cI, 1107, .inl f_5)), (h3, .inr (8, [.int x13, .int x14, .int x15, .ref h16, .ref h17, .ref h18, .ref h19, .ref h20, .ref h21, .ref h22, .ref h23, .ref h24, .ref h25, .int x26, .int x27, .int x28, .int x29, .int x30])), (h4, .inl (cI, 7, .inl f12)), (h5, .inl (cI, 7, .inl f31)), (h6, .inl (cI, 7, .inl f32)), (h7, .inl (cI, 4, .inl f33))] H := hP
  have hD : va_D A [(h0, .inr (3, [.ref h3, .ref h4, .ref h5, .ref h6, .ref h7, .ref h8, .int x9, .int x10])), (h1, .inl (cI, 1107, .inl f_5)), (h3, .inr (8, [.int x13, .int x14, .int x15, .ref h16, .ref h17, .ref h18, .ref h19, .ref h20, .ref h21, .ref h22, .ref h23, .ref h24, .ref h25, .int x26, .int x27, .int x28, .int x29, .int x30])), (h4, .inl (cI, 7, .inl f12)), (h5, .inl (cI, 7, .inl f31)), (h6, .inl (cI, 7, .inl f32)), (h7, .inl (cI, 4, .inl f33))] := hD
  refine lv_aload_n hx hb dX3_writeTo_41 rfl (lv_at hl 0 rfl) ?_
  refine va_get (D := D) (ci := 3) (v := .ref h6) (C := RX3) (T := TX3) (N := 8) hx hb hts inX3 hown hG.1 hP 0 rfl rfl 3 (by decide) (hts _ kw435) (fun _ h9 => h9) rfl dX3_writeTo_42 ?_
  refine lv_iconst (v := 0) hx hb dX3_writeTo_45 (by decide +kernel) ?_
  refine lv_aload_n hx hb dX3_writeTo_46 rfl (lv_at hl 1 rfl) ?_
  refine lv_iload_n hx hb dX3_writeTo_47 rfl (lv_at hl 2 rfl) ?_
  refine lv_bipush (v := 14) hx hb dX3_writeTo_48 (by decide +kernel) ?_
  refine lv_iadd hx hb dX3_writeTo_50 ?_
  refine lv_topi (fun v_6 ev_6 => ?_)
  have gv_6 : v_6.toInt = x2.toInt + (14 : Int) := by
    have zx : (x2 : Int32).toInt = x2.toInt := rfl
    have zy : (14 : Int32).toInt = (14 : Int) := (by decide)
    rw [ev_6, i32_add (by rw [zx, zy]; omega) (by rw [zx, zy]; omega), zx, zy]
  refine lv_bipush (v := 7) hx hb dX3_writeTo_51 (by decide +kernel) ?_
  refine xa_cpyE (sN := 0) (dN := v_6.toInt.toNat) (kN := 7) hx hb hml hl.1 hown hts kw422 kw424 kw423 kw122 hG hP hD hS 5 1 rfl rfl (by decide +kernel) (i_nn (by omega)) (by decide +kernel) (by decide +kernel) (cpy_le (k := 7) (by decide +kernel) (by omega) (by omega)) (by decide +kernel) rfl (by decide +kernel) (Nat.le_of_ble_eq_true rfl) (Nat.le_of_ble_eq_true rfl) dX3_writeTo_53 (fun f_7 H locs ef_7 hP hD hS => ?_)
  have hP : va_P D vwCl [(h0, .inr (3, [.ref h3, .ref h4, .ref h5, .ref h6, .ref h7, .ref h8, .int x9, .int x10])), (h1, .inl (cI, 1107, .inl f_7)), (h3, .inr (8, [.int x13, .int x14, .int x15, .ref h16, .ref h17, .ref h18, .ref h19, .ref h20, .ref h21, .ref h22, .ref h23, .ref h24, .ref h25, .int x26, .int x27, .int x28, .int x29, .int x30])), (h4, .inl (cI, 7, .inl f12)), (h5, .inl (cI, 7, .inl f31)), (h6, .inl (cI, 7, .inl f32)), (h7, .inl (cI, 4, .inl f33))] H := hP
  have hD : va_D A [(h0, .inr (3, [.ref h3, .ref h4, .ref h5, .ref h6, .ref h7, .ref h8, .int x9, .int x10])), (h1, .inl (cI, 1107, .inl f_7)), (h3, .inr (8, [.int x13, .int x14, .int x15, .ref h16, .ref h17, .ref h18, .ref h19, .ref h20, .ref h21, .ref h22, .ref h23, .ref h24, .ref h25, .int x26, .int x27, .int x28, .int x29, .int x30])), (h4, .inl (cI, 7, .inl f12)), (h5, .inl (cI, 7, .inl f31)), (h6, .inl (cI, 7, .inl f32)), (h7, .inl (cI, 4, .inl f33))] := hD
  refine lv_aload_n hx hb dX3_writeTo_56 rfl (lv_at hl 0 rfl) ?_
  refine va_get (D := D) (ci := 3) (v := .ref h7) (C := RX3) (T := TX3) (N := 8) hx hb hts inX3 hown hG.1 hP 0 rfl rfl 4 (by decide) (hts _ kw438) (fun _ h9 => h9) rfl dX3_writeTo_57 ?_
  refine lv_iconst (v := 0) hx hb dX3_writeTo_60 (by decide +kernel) ?_
  refine lv_aload_n hx hb dX3_writeTo_61 rfl (lv_at hl 1 rfl) ?_
  refine lv_iload_n hx hb dX3_writeTo_62 rfl (lv_at hl 2 rfl) ?_
  refine lv_bipush (v := 21) hx hb dX3_writeTo_63 (by decide +kernel) ?_
  refine lv_iadd hx hb dX3_writeTo_65 ?_
  refine lv_topi (fun v_8 ev_8 => ?_)
  have gv_8 : v_8.toInt = x2.toInt + (21 : Int) := by
    have zx : (x2 : Int32).toInt = x2.toInt := rfl
    have zy : (21 : Int32).toInt = (21 : Int) := (by decide)
    rw [ev_8, i32_add (by rw [zx, zy]; omega) (by rw [zx, zy]; omega), zx, zy]
  refine lv_iconst (v := 4) hx hb dX3_writeTo_66 (by decide +kernel) ?_
  refine xa_cpyE (sN := 0) (dN := v_8.toInt.toNat) (kN := 4) hx hb hml hl.1 hown hts kw422 kw424 kw423 kw122 hG hP hD hS 6 1 rfl rfl (by decide +kernel) (i_nn (by omega)) (by decide +kernel) (by decide +kernel) (cpy_le (k := 4) (by decide +kernel) (by omega) (by omega)) (by decide +kernel) rfl (by decide +kernel) (Nat.le_of_ble_eq_true rfl) (Nat.le_of_ble_eq_true rfl) dX3_writeTo_67 (fun f_9 H locs ef_9 hP hD hS => ?_)
  have hP : va_P D vwCl [(h0, .inr (3, [.ref h3, .ref h4, .ref h5, .ref h6, .ref h7, .ref h8, .int x9, .int x10])), (h1, .inl (cI, 1107, .inl f_9)), (h3, .inr (8, [.int x13, .int x14, .int x15, .ref h16, .ref h17, .ref h18, .ref h19, .ref h20, .ref h21, .ref h22, .ref h23, .ref h24, .ref h25, .int x26, .int x27, .int x28, .int x29, .int x30])), (h4, .inl (cI, 7, .inl f12)), (h5, .inl (cI, 7, .inl f31)), (h6, .inl (cI, 7, .inl f32)), (h7, .inl (cI, 4, .inl f33))] H := hP
  have hD : va_D A [(h0, .inr (3, [.ref h3, .ref h4, .ref h5, .ref h6, .ref h7, .ref h8, .int x9, .int x10])), (h1, .inl (cI, 1107, .inl f_9)), (h3, .inr (8, [.int x13, .int x14, .int x15, .ref h16, .ref h17, .ref h18, .ref h19, .ref h20, .ref h21, .ref h22, .ref h23, .ref h24, .ref h25, .int x26, .int x27, .int x28, .int x29, .int x30])), (h4, .inl (cI, 7, .inl f12)), (h5, .inl (cI, 7, .inl f31)), (h6, .inl (cI, 7, .inl f32)), (h7, .inl (cI, 4, .inl f33))] := hD
  refine lv_aload_n hx hb dX3_writeTo_70 rfl (lv_at hl 1 rfl) ?_
  refine lv_iload_n hx hb dX3_writeTo_71 rfl (lv_at hl 2 rfl) ?_
  refine lv_bipush (v := 25) hx hb dX3_writeTo_72 (by decide +kernel) ?_
  refine lv_iadd hx hb dX3_writeTo_74 ?_
  refine lv_topi (fun v_10 ev_10 => ?_)
  have gv_10 : v_10.toInt = x2.toInt + (25 : Int) := by
    have zx : (x2 : Int32).toInt = x2.toInt := rfl
    have zy : (25 : Int32).toInt = (25 : Int) := (by decide)
    rw [ev_10, i32_add (by rw [zx, zy]; omega) (by rw [zx, zy]; omega), zx, zy]
  refine lv_aload_n hx hb dX3_writeTo_75 rfl (lv_at hl 0 rfl) ?_
  refine va_get (D := D) (ci := 3) (v := .int x9) (C := RX3) (T := TX3) (N := 8) hx hb hts inX3 hown hG.1 hP 0 rfl rfl 6 (by decide) (hts _ kw441) (fun _ h9 => h9) rfl dX3_writeTo_76 ?_
  refine xa_istE hx hb hG hP hD hS 1 rfl (vp_in_iff.mpr ⟨by omega, by omega⟩) dX3_writeTo_79 (fun f_11 H locs ef_11 hP hD hS => ?_)
  have hP : va_P D vwCl [(h0, .inr (3, [.ref h3, .ref h4, .ref h5, .ref h6, .ref h7, .ref h8, .int x9, .int x10])), (h1, .inl (cI, 1107, .inl f_11)), (h3, .inr (8, [.int x13, .int x14, .int x15, .ref h16, .ref h17, .ref h18, .ref h19, .ref h20, .ref h21, .ref h22, .ref h23, .ref h24, .ref h25, .int x26, .int x27, .int x28, .int x29, .int x30])), (h4, .inl (cI, 7, .inl f12)), (h5, .inl (cI, 7, .inl f31)), (h6, .inl (cI, 7, .inl f32)), (h7, .inl (cI, 4, .inl f33))] H := hP
  have hD : va_D A [(h0, .inr (3, [.ref h3, .ref h4, .ref h5, .ref h6, .ref h7, .ref h8, .int x9, .int x10])), (h1, .inl (cI, 1107, .inl f_11)), (h3, .inr (8, [.int x13, .int x14, .int x15, .ref h16, .ref h17, .ref h18, .ref h19, .ref h20, .ref h21, .ref h22, .ref h23, .ref h24, .ref h25, .int x26, .int x27, .int x28, .int x29, .int x30])), (h4, .inl (cI, 7, .inl f12)), (h5, .inl (cI, 7, .inl f31)), (h6, .inl (cI, 7, .inl f32)), (h7, .inl (cI, 4, .inl f33))] := hD
  have o_12 : PT f_11 (v_10.toInt) (x9.toInt) := st_ptn ef_11 (by omega) rfl rfl
  refine lv_aload_n hx hb dX3_writeTo_80 rfl (lv_at hl 1 rfl) ?_
  refine lv_iload_n hx hb dX3_writeTo_81 rfl (lv_at hl 2 rfl) ?_
  refine lv_bipush (v := 25) hx hb dX3_writeTo_82 (by decide +kernel) ?_
  refine lv_iadd hx hb dX3_writeTo_84 ?_
  refine lv_topi (fun v_13 ev_13 => ?_)
  have gv_13 : v_13.toInt = x2.toInt + (25 : Int) := by
    have zx : (x2 : Int32).toInt = x2.toInt := rfl
    have zy : (25 : Int32).toInt = (25 : Int) := (by decide)
    rw [ev_13, i32_add (by rw [zx, zy]; omega) (by rw [zx, zy]; omega), zx, zy]
  refine lv_iconst (v := 1) hx hb dX3_writeTo_85 (by decide +kernel) ?_
  refine lv_iadd hx hb dX3_writeTo_86 ?_
  refine lv_topi (fun v_14 ev_14 => ?_)
  have gv_14 : v_14.toInt = v_13.toInt + (1 : Int) := by
    have zx : (v_13 : Int32).toInt = v_13.toInt := rfl
    have zy : (1 : Int32).toInt = (1 : Int) := (by decide)
    rw [ev_14, i32_add (by rw [zx, zy]; omega) (by rw [zx, zy]; omega), zx, zy]
  refine lv_aload_n hx hb dX3_writeTo_87 rfl (lv_at hl 0 rfl) ?_
  refine va_get (D := D) (ci := 3) (v := .int x10) (C := RX3) (T := TX3) (N := 8) hx hb hts inX3 hown hG.1 hP 0 rfl rfl 7 (by decide) (hts _ kw443) (fun _ h9 => h9) rfl dX3_writeTo_88 ?_
  refine xa_istE hx hb hG hP hD hS 1 rfl (vp_in_iff.mpr ⟨by omega, by omega⟩) dX3_writeTo_91 (fun f_15 H locs ef_15 hP hD hS => ?_)
  have hP : va_P D vwCl [(h0, .inr (3, [.ref h3, .ref h4, .ref h5, .ref h6, .ref h7, .ref h8, .int x9, .int x10])), (h1, .inl (cI, 1107, .inl f_15)), (h3, .inr (8, [.int x13, .int x14, .int x15, .ref h16, .ref h17, .ref h18, .ref h19, .ref h20, .ref h21, .ref h22, .ref h23, .ref h24, .ref h25, .int x26, .int x27, .int x28, .int x29, .int x30])), (h4, .inl (cI, 7, .inl f12)), (h5, .inl (cI, 7, .inl f31)), (h6, .inl (cI, 7, .inl f32)), (h7, .inl (cI, 4, .inl f33))] H := hP
  have hD : va_D A [(h0, .inr (3, [.ref h3, .ref h4, .ref h5, .ref h6, .ref h7, .ref h8, .int x9, .int x10])), (h1, .inl (cI, 1107, .inl f_15)), (h3, .inr (8, [.int x13, .int x14, .int x15, .ref h16, .ref h17, .ref h18, .ref h19, .ref h20, .ref h21, .ref h22, .ref h23, .ref h24, .ref h25, .int x26, .int x27, .int x28, .int x29, .int x30])), (h4, .inl (cI, 7, .inl f12)), (h5, .inl (cI, 7, .inl f31)), (h6, .inl (cI, 7, .inl f32)), (h7, .inl (cI, 4, .inl f33))] := hD
  have o_16 : PT f_15 (v_10.toInt) (x9.toInt) := st_pt ef_15 (by omega) o_12 (by omega) (by omega)
  have o_17 : PT f_15 (v_14.toInt) (x10.toInt) := st_ptn ef_15 (by omega) rfl rfl
  have o_18 : WR f11 f_15 (x2.toInt) (x15.toInt) := wr_all ef_3 ef_5 ef_7 ef_9 ef_11 ef_15 (by omega) (by omega) (by omega) (by omega) (by omega) (by omega) (by omega) ga0 (by omega) (by omega)
  have hP9 := hP.sub (ws' := [(h0, .inr (3, [.ref h3, .ref h4, .ref h5, .ref h6, .ref h7, .ref h8, .int x9, .int x10])), (h1, .inl (cI, 1107, .inl f_15)), (h3, .inr (8, [.int x13, .int x14, .int x15, .ref h16, .ref h17, .ref h18, .ref h19, .ref h20, .ref h21, .ref h22, .ref h23, .ref h24, .ref h25, .int x26, .int x27, .int x28, .int x29, .int x30])), (h4, .inl (cI, 7, .inl f12)), (h5, .inl (cI, 7, .inl f31)), (h6, .inl (cI, 7, .inl f32)), (h7, .inl (cI, 4, .inl f33))]) [0, 1, 2, 3, 4, 5, 6] rfl
  have hD9 := hD.sub (ws' := [(h0, .inr (3, [.ref h3, .ref h4, .ref h5, .ref h6, .ref h7, .ref h8, .int x9, .int x10])), (h1, .inl (cI, 1107, .inl f_15)), (h3, .inr (8, [.int x13, .int x14, .int x15, .ref h16, .ref h17, .ref h18, .ref h19, .ref h20, .ref h21, .ref h22, .ref h23, .ref h24, .ref h25, .int x26, .int x27, .int x28, .int x29, .int x30])), (h4, .inl (cI, 7, .inl f12)), (h5, .inl (cI, 7, .inl f31)), (h6, .inl (cI, 7, .inl f32)), (h7, .inl (cI, 4, .inl f33))]) [0, 1, 2, 3, 4, 5, 6] (by decide) rfl
  exact xr_v (rm := (rmL 1 0 0)) hx hb hr hlocks hAe hS hP9 hD9 (Nat.le_of_ble_eq_true rfl) (Nat.le_of_ble_eq_true rfl) dX3_writeTo_92 ⟨f_15, o_18, rfl, rfl⟩
theorem dX3_readFrom_0 : decode cX3_readFrom 0 = .ok (.iload_n 2, 1) := by decide +kernel
theorem dX3_readFrom_1 : decode cX3_readFrom 1 = .ok (.ifCond .lt 12, 3) := by decide +kernel
theorem dX3_readFrom_4 : decode cX3_readFrom 4 = .ok (.iload_n 2, 1) := by decide +kernel
theorem dX3_readFrom_5 : decode cX3_readFrom 5 = .ok (.aload_n 1, 1) := by decide +kernel
theorem dX3_readFrom_6 : decode cX3_readFrom 6 = .ok (.arraylength, 1) := by decide +kernel
theorem dX3_readFrom_7 : decode cX3_readFrom 7 = .ok (.bipush 27, 2) := by decide +kernel
theorem dX3_readFrom_9 : decode cX3_readFrom 9 = .ok (.isub, 1) := by decide +kernel
theorem dX3_readFrom_10 : decode cX3_readFrom 10 = .ok (.if_icmp .le 4, 3) := by decide +kernel
theorem dX3_readFrom_14 : decode cX3_readFrom 14 = .ok (.aload_n 1, 1) := by decide +kernel
theorem dX3_readFrom_15 : decode cX3_readFrom 15 = .ok (.iload_n 2, 1) := by decide +kernel
theorem dX3_readFrom_16 : decode cX3_readFrom 16 = .ok (.aload_n 0, 1) := by decide +kernel
theorem dX3_readFrom_17 : decode cX3_readFrom 17 = .ok (.getfield 11, 3) := by decide +kernel
theorem dX3_readFrom_20 : decode cX3_readFrom 20 = .ok (.iconst 0, 1) := by decide +kernel
theorem dX3_readFrom_21 : decode cX3_readFrom 21 = .ok (.bipush 7, 2) := by decide +kernel
theorem dX3_readFrom_23 : decode cX3_readFrom 23 = .ok (.invokestatic 40, 3) := by decide +kernel
theorem dX3_readFrom_26 : decode cX3_readFrom 26 = .ok (.aload_n 1, 1) := by decide +kernel
theorem dX3_readFrom_27 : decode cX3_readFrom 27 = .ok (.iload_n 2, 1) := by decide +kernel
theorem dX3_readFrom_28 : decode cX3_readFrom 28 = .ok (.bipush 7, 2) := by decide +kernel
theorem dX3_readFrom_30 : decode cX3_readFrom 30 = .ok (.iadd, 1) := by decide +kernel
theorem dX3_readFrom_31 : decode cX3_readFrom 31 = .ok (.aload_n 0, 1) := by decide +kernel
theorem dX3_readFrom_32 : decode cX3_readFrom 32 = .ok (.getfield 15, 3) := by decide +kernel
theorem dX3_readFrom_35 : decode cX3_readFrom 35 = .ok (.iconst 0, 1) := by decide +kernel
theorem dX3_readFrom_36 : decode cX3_readFrom 36 = .ok (.bipush 7, 2) := by decide +kernel
theorem dX3_readFrom_38 : decode cX3_readFrom 38 = .ok (.invokestatic 40, 3) := by decide +kernel
theorem dX3_readFrom_41 : decode cX3_readFrom 41 = .ok (.aload_n 1, 1) := by decide +kernel
theorem dX3_readFrom_42 : decode cX3_readFrom 42 = .ok (.iload_n 2, 1) := by decide +kernel
theorem dX3_readFrom_43 : decode cX3_readFrom 43 = .ok (.bipush 14, 2) := by decide +kernel
theorem dX3_readFrom_45 : decode cX3_readFrom 45 = .ok (.iadd, 1) := by decide +kernel
theorem dX3_readFrom_46 : decode cX3_readFrom 46 = .ok (.aload_n 0, 1) := by decide +kernel
theorem dX3_readFrom_47 : decode cX3_readFrom 47 = .ok (.getfield 18, 3) := by decide +kernel
theorem dX3_readFrom_50 : decode cX3_readFrom 50 = .ok (.iconst 0, 1) := by decide +kernel
theorem dX3_readFrom_51 : decode cX3_readFrom 51 = .ok (.bipush 7, 2) := by decide +kernel
theorem dX3_readFrom_53 : decode cX3_readFrom 53 = .ok (.invokestatic 40, 3) := by decide +kernel
theorem dX3_readFrom_56 : decode cX3_readFrom 56 = .ok (.aload_n 1, 1) := by decide +kernel
theorem dX3_readFrom_57 : decode cX3_readFrom 57 = .ok (.iload_n 2, 1) := by decide +kernel
theorem dX3_readFrom_58 : decode cX3_readFrom 58 = .ok (.bipush 21, 2) := by decide +kernel
theorem dX3_readFrom_60 : decode cX3_readFrom 60 = .ok (.iadd, 1) := by decide +kernel
theorem dX3_readFrom_61 : decode cX3_readFrom 61 = .ok (.aload_n 0, 1) := by decide +kernel
theorem dX3_readFrom_62 : decode cX3_readFrom 62 = .ok (.getfield 21, 3) := by decide +kernel
theorem dX3_readFrom_65 : decode cX3_readFrom 65 = .ok (.iconst 0, 1) := by decide +kernel
theorem dX3_readFrom_66 : decode cX3_readFrom 66 = .ok (.iconst 4, 1) := by decide +kernel
theorem dX3_readFrom_67 : decode cX3_readFrom 67 = .ok (.invokestatic 40, 3) := by decide +kernel
theorem dX3_readFrom_70 : decode cX3_readFrom 70 = .ok (.aload_n 0, 1) := by decide +kernel
theorem dX3_readFrom_71 : decode cX3_readFrom 71 = .ok (.aload_n 1, 1) := by decide +kernel
theorem dX3_readFrom_72 : decode cX3_readFrom 72 = .ok (.iload_n 2, 1) := by decide +kernel
theorem dX3_readFrom_73 : decode cX3_readFrom 73 = .ok (.bipush 25, 2) := by decide +kernel
theorem dX3_readFrom_75 : decode cX3_readFrom 75 = .ok (.iadd, 1) := by decide +kernel
theorem dX3_readFrom_76 : decode cX3_readFrom 76 = .ok (.iaload, 1) := by decide +kernel
theorem dX3_readFrom_77 : decode cX3_readFrom 77 = .ok (.putfield 49, 3) := by decide +kernel
theorem dX3_readFrom_80 : decode cX3_readFrom 80 = .ok (.aload_n 0, 1) := by decide +kernel
theorem dX3_readFrom_81 : decode cX3_readFrom 81 = .ok (.aload_n 1, 1) := by decide +kernel
theorem dX3_readFrom_82 : decode cX3_readFrom 82 = .ok (.iload_n 2, 1) := by decide +kernel
theorem dX3_readFrom_83 : decode cX3_readFrom 83 = .ok (.bipush 25, 2) := by decide +kernel
theorem dX3_readFrom_85 : decode cX3_readFrom 85 = .ok (.iadd, 1) := by decide +kernel
theorem dX3_readFrom_86 : decode cX3_readFrom 86 = .ok (.iconst 1, 1) := by decide +kernel
theorem dX3_readFrom_87 : decode cX3_readFrom 87 = .ok (.iadd, 1) := by decide +kernel
theorem dX3_readFrom_88 : decode cX3_readFrom 88 = .ok (.iaload, 1) := by decide +kernel
theorem dX3_readFrom_89 : decode cX3_readFrom 89 = .ok (.putfield 56, 3) := by decide +kernel
theorem dX3_readFrom_92 : decode cX3_readFrom 92 = .ok (.return_, 1) := by decide +kernel
set_option maxHeartbeats 4000000 in
set_option maxRecDepth 100000 in
theorem sX3_readFrom_1 (l : Launch) (D : va_G) (cB cI cJ cZ : ClassId) (aK aV : Nat → Nat) (h0 : Nat) (h1 : Nat) (x2 : Int32) (h3 : Nat) (h4 : Nat) (h5 : Nat) (h6 : Nat) (h7 : Nat) (h8 : Nat) (x9 : Int32) (x10 : Int32) (f11 : Nat → Int32) (x12 : Int32) (x13 : Int32) (x14 : Int32) (h15 : Nat) (h16 : Nat) (h17 : Nat) (h18 : Nat) (h19 : Nat) (h20 : Nat) (h21 : Nat) (h22 : Nat) (h23 : Nat) (h24 : Nat) (x25 : Int32) (x26 : Int32) (x27 : Int32) (x28 : Int32) (x29 : Int32) (f30 : Nat → Int32) (f31 : Nat → Int32) (f32 : Nat → Int32) (f33 : Nat → Int32) (gh0 : 0 ≤ x10.toInt) (gh1 : 0 ≤ -x10.toInt + 999) (gh2 : 0 ≤ x2.toInt) (gh3 : 0 ≤ -x2.toInt + 1080) (gh4 : 0 ≤ x12.toInt) (gh5 : 0 ≤ -x12.toInt + 4) (gh6 : 0 ≤ x13.toInt) (gh7 : 0 ≤ -x13.toInt + 3) (gh8 : 0 ≤ x14.toInt) (gh9 : 0 ≤ -x14.toInt + 7) (gh10 : 0 ≤ x28.toInt + 1) (gh11 : 0 ≤ -x28.toInt + 999) (ga0 : AR f30 (0) (3) (x14.toInt)) (go0 : RW f11 (x2.toInt) (x14.toInt)) : MX l yX3_readFrom cX3_readFrom 3 none (rmL 1 0 0) D cB cI cJ cZ aK aV [.ref h0, .ref h1, .int x2] [(h0, .inr (3, [.ref h3, .ref h4, .ref h5, .ref h6, .ref h7, .ref h8, .int x9, .int x10])), (h1, .inl (cI, 1107, .inl f11)), (h3, .inr (8, [.int x12, .int x13, .int x14, .ref h15, .ref h16, .ref h17, .ref h18, .ref h19, .ref h20, .ref h21, .ref h22, .ref h23, .ref h24, .int x25, .int x26, .int x27, .int x28, .int x29])), (h4, .inl (cI, 7, .inl f30)), (h5, .inl (cI, 7, .inl f31)), (h6, .inl (cI, 7, .inl f32)), (h7, .inl (cI, 4, .inl f33))] (fun r w1 => ∃ z1 : Int32, ∃ z2 : Int32, ∃ z3 : Nat → Int32, ∃ z4 : Nat → Int32, ∃ z5 : Nat → Int32, ∃ z6 : Nat → Int32, 0 ≤ z2.toInt ∧ 0 ≤ -z2.toInt + 999 ∧ AR z3 (0) (3) (x14.toInt) ∧ r = none ∧ w1 = [(h0, .inr (3, [.ref h3, .ref h4, .ref h5, .ref h6, .ref h7, .ref h8, .int z1, .int z2])), (h1, .inl (cI, 1107, .inl f11)), (h3, .inr (8, [.int x12, .int x13, .int x14, .ref h15, .ref h16, .ref h17, .ref h18, .ref h19, .ref h20, .ref h21, .ref h22, .ref h23, .ref h24, .int x25, .int x26, .int x27, .int x28, .int x29])), (h4, .inl (cI, 7, .inl z3)), (h5, .inl (cI, 7, .inl z4)), (h6, .inl (cI, 7, .inl z5)), (h7, .inl (cI, 4, .inl z6))]) := by
  refine MX.intro (by decide) (Nat.le_of_ble_eq_true rfl) ?_
  intro p e s m below meth c A ls hx hb hr hml hown hlocks hnm hts hG hE hA hS hP hD hl hAe
  have hl : lv_has ls 3 [(0, .ref h0), (1, .ref h1), (2, .int x2)] := hl
  have hown : s.vm.findClass RX3 = some m.cls := hown
  refine lv_iload_n hx hb dX3_readFrom_0 rfl (lv_at hl 2 rfl) ?_
  refine lv_if_lt (tgt := 13) hx hb dX3_readFrom_1 (by decide) (fun c_1 => by exfalso; have fc_1 : x2.toInt < (0 : Int) := i_lt rfl (by decide) c_1; omega) (fun c_1 => ?_)
  have fc_1 : (0 : Int) ≤ x2.toInt := i_nlt rfl (by decide) c_1
  refine lv_iload_n hx hb dX3_readFrom_4 rfl (lv_at hl 2 rfl) ?_
  refine lv_aload_n hx hb dX3_readFrom_5 rfl (lv_at hl 1 rfl) ?_
  refine xa_alen (v := 1107) hx hb hG hP 1 1 rfl rfl rfl dX3_readFrom_6 ?_
  refine lv_bipush (v := 27) hx hb dX3_readFrom_7 (by decide +kernel) ?_
  refine lv_isub hx hb dX3_readFrom_9 ?_
  refine xt_i (v := 1080) (by decide +kernel) ?_
  refine lv_icmp_le (tgt := 14) hx hb dX3_readFrom_10 (by decide) (fun c_2 => ?_) (fun c_2 => by exfalso; have fc_2 : (1080 : Int) < x2.toInt := i_nle rfl (by decide) c_2; omega)
  have fc_2 : x2.toInt ≤ (1080 : Int) := i_le rfl (by decide) c_2
  refine lv_aload_n hx hb dX3_readFrom_14 rfl (lv_at hl 1 rfl) ?_
  refine lv_iload_n hx hb dX3_readFrom_15 rfl (lv_at hl 2 rfl) ?_
  refine lv_aload_n hx hb dX3_readFrom_16 rfl (lv_at hl 0 rfl) ?_
  refine va_get (D := D) (ci := 3) (v := .ref h4) (C := RX3) (T := TX3) (N := 8) hx hb hts inX3 hown hG.1 hP 0 rfl rfl 1 (by decide) (hts _ kw428) (fun _ h9 => h9) rfl dX3_readFrom_17 ?_
  refine lv_iconst (v := 0) hx hb dX3_readFrom_20 (by decide +kernel) ?_
  refine lv_bipush (v := 7) hx hb dX3_readFrom_21 (by decide +kernel) ?_
  refine xa_cpyE (sN := x2.toInt.toNat) (dN := 0) (kN := 7) hx hb hml hl.1 hown hts kw422 kw424 kw423 kw122 hG hP hD hS 1 3 rfl rfl (i_nn (by omega)) (by decide +kernel) (by decide +kernel) (cpy_le (k := 7) (by decide +kernel) (by omega) (by omega)) (by decide +kernel) rfl (by decide +kernel) (by decide +kernel) (Nat.le_of_ble_eq_true rfl) (Nat.le_of_ble_eq_true rfl) dX3_readFrom_23 (fun f_3 H locs ef_3 hP hD hS => ?_)
  have hP : va_P D vwCl [(h0, .inr (3, [.ref h3, .ref h4, .ref h5, .ref h6, .ref h7, .ref h8, .int x9, .int x10])), (h1, .inl (cI, 1107, .inl f11)), (h3, .inr (8, [.int x12, .int x13, .int x14, .ref h15, .ref h16, .ref h17, .ref h18, .ref h19, .ref h20, .ref h21, .ref h22, .ref h23, .ref h24, .int x25, .int x26, .int x27, .int x28, .int x29])), (h4, .inl (cI, 7, .inl f_3)), (h5, .inl (cI, 7, .inl f31)), (h6, .inl (cI, 7, .inl f32)), (h7, .inl (cI, 4, .inl f33))] H := hP
  have hD : va_D A [(h0, .inr (3, [.ref h3, .ref h4, .ref h5, .ref h6, .ref h7, .ref h8, .int x9, .int x10])), (h1, .inl (cI, 1107, .inl f11)), (h3, .inr (8, [.int x12, .int x13, .int x14, .ref h15, .ref h16, .ref h17, .ref h18, .ref h19, .ref h20, .ref h21, .ref h22, .ref h23, .ref h24, .int x25, .int x26, .int x27, .int x28, .int x29])), (h4, .inl (cI, 7, .inl f_3)), (h5, .inl (cI, 7, .inl f31)), (h6, .inl (cI, 7, .inl f32)), (h7, .inl (cI, 4, .inl f33))] := hD
  have a_4 := rf_ar ef_3 go0 (by omega)
  refine lv_aload_n hx hb dX3_readFrom_26 rfl (lv_at hl 1 rfl) ?_
  refine lv_iload_n hx hb dX3_readFrom_27 rfl (lv_at hl 2 rfl) ?_
  refine lv_bipush (v := 7) hx hb dX3_readFrom_28 (by decide +kernel) ?_
  refine lv_iadd hx hb dX3_readFrom_30 ?_
  refine lv_topi (fun v_5 ev_5 => ?_)
  have gv_5 : v_5.toInt = x2.toInt + (7 : Int) := by
    have zx : (x2 : Int32).toInt = x2.toInt := rfl
    have zy : (7 : Int32).toInt = (7 : Int) := (by decide)
    rw [ev_5, i32_add (by rw [zx, zy]; omega) (by rw [zx, zy]; omega), zx, zy]
  refine lv_aload_n hx hb dX3_readFrom_31 rfl (lv_at hl 0 rfl) ?_
  refine va_get (D := D) (ci := 3) (v := .ref h5) (C := RX3) (T := TX3) (N := 8) hx hb hts inX3 hown hG.1 hP 0 rfl rfl 2 (by decide) (hts _ kw432) (fun _ h9 => h9) rfl dX3_readFrom_32 ?_
  refine lv_iconst (v := 0) hx hb dX3_readFrom_35 (by decide +kernel) ?_
  refine lv_bipush (v := 7) hx hb dX3_readFrom_36 (by decide +kernel) ?_
  refine xa_cpyE (sN := v_5.toInt.toNat) (dN := 0) (kN := 7) hx hb hml hl.1 hown hts kw422 kw424 kw423 kw122 hG hP hD hS 1 4 rfl rfl (i_nn (by omega)) (by decide +kernel) (by decide +kernel) (cpy_le (k := 7) (by decide +kernel) (by omega) (by omega)) (by decide +kernel) rfl (by decide +kernel) (by decide +kernel) (Nat.le_of_ble_eq_true rfl) (Nat.le_of_ble_eq_true rfl) dX3_readFrom_38 (fun f_6 H locs ef_6 hP hD hS => ?_)
  have hP : va_P D vwCl [(h0, .inr (3, [.ref h3, .ref h4, .ref h5, .ref h6, .ref h7, .ref h8, .int x9, .int x10])), (h1, .inl (cI, 1107, .inl f11)), (h3, .inr (8, [.int x12, .int x13, .int x14, .ref h15, .ref h16, .ref h17, .ref h18, .ref h19, .ref h20, .ref h21, .ref h22, .ref h23, .ref h24, .int x25, .int x26, .int x27, .int x28, .int x29])), (h4, .inl (cI, 7, .inl f_3)), (h5, .inl (cI, 7, .inl f_6)), (h6, .inl (cI, 7, .inl f32)), (h7, .inl (cI, 4, .inl f33))] H := hP
  have hD : va_D A [(h0, .inr (3, [.ref h3, .ref h4, .ref h5, .ref h6, .ref h7, .ref h8, .int x9, .int x10])), (h1, .inl (cI, 1107, .inl f11)), (h3, .inr (8, [.int x12, .int x13, .int x14, .ref h15, .ref h16, .ref h17, .ref h18, .ref h19, .ref h20, .ref h21, .ref h22, .ref h23, .ref h24, .int x25, .int x26, .int x27, .int x28, .int x29])), (h4, .inl (cI, 7, .inl f_3)), (h5, .inl (cI, 7, .inl f_6)), (h6, .inl (cI, 7, .inl f32)), (h7, .inl (cI, 4, .inl f33))] := hD
  refine lv_aload_n hx hb dX3_readFrom_41 rfl (lv_at hl 1 rfl) ?_
  refine lv_iload_n hx hb dX3_readFrom_42 rfl (lv_at hl 2 rfl) ?_
  refine lv_bipush (v := 14) hx hb dX3_readFrom_43 (by decide +kernel) ?_
  refine lv_iadd hx hb dX3_readFrom_45 ?_
  refine lv_topi (fun v_7 ev_7 => ?_)
  have gv_7 : v_7.toInt = x2.toInt + (14 : Int) := by
    have zx : (x2 : Int32).toInt = x2.toInt := rfl
    have zy : (14 : Int32).toInt = (14 : Int) := (by decide)
    rw [ev_7, i32_add (by rw [zx, zy]; omega) (by rw [zx, zy]; omega), zx, zy]
  refine lv_aload_n hx hb dX3_readFrom_46 rfl (lv_at hl 0 rfl) ?_
  refine va_get (D := D) (ci := 3) (v := .ref h6) (C := RX3) (T := TX3) (N := 8) hx hb hts inX3 hown hG.1 hP 0 rfl rfl 3 (by decide) (hts _ kw435) (fun _ h9 => h9) rfl dX3_readFrom_47 ?_
  refine lv_iconst (v := 0) hx hb dX3_readFrom_50 (by decide +kernel) ?_
  refine lv_bipush (v := 7) hx hb dX3_readFrom_51 (by decide +kernel) ?_
  refine xa_cpyE (sN := v_7.toInt.toNat) (dN := 0) (kN := 7) hx hb hml hl.1 hown hts kw422 kw424 kw423 kw122 hG hP hD hS 1 5 rfl rfl (i_nn (by omega)) (by decide +kernel) (by decide +kernel) (cpy_le (k := 7) (by decide +kernel) (by omega) (by omega)) (by decide +kernel) rfl (by decide +kernel) (by decide +kernel) (Nat.le_of_ble_eq_true rfl) (Nat.le_of_ble_eq_true rfl) dX3_readFrom_53 (fun f_8 H locs ef_8 hP hD hS => ?_)
  have hP : va_P D vwCl [(h0, .inr (3, [.ref h3, .ref h4, .ref h5, .ref h6, .ref h7, .ref h8, .int x9, .int x10])), (h1, .inl (cI, 1107, .inl f11)), (h3, .inr (8, [.int x12, .int x13, .int x14, .ref h15, .ref h16, .ref h17, .ref h18, .ref h19, .ref h20, .ref h21, .ref h22, .ref h23, .ref h24, .int x25, .int x26, .int x27, .int x28, .int x29])), (h4, .inl (cI, 7, .inl f_3)), (h5, .inl (cI, 7, .inl f_6)), (h6, .inl (cI, 7, .inl f_8)), (h7, .inl (cI, 4, .inl f33))] H := hP
  have hD : va_D A [(h0, .inr (3, [.ref h3, .ref h4, .ref h5, .ref h6, .ref h7, .ref h8, .int x9, .int x10])), (h1, .inl (cI, 1107, .inl f11)), (h3, .inr (8, [.int x12, .int x13, .int x14, .ref h15, .ref h16, .ref h17, .ref h18, .ref h19, .ref h20, .ref h21, .ref h22, .ref h23, .ref h24, .int x25, .int x26, .int x27, .int x28, .int x29])), (h4, .inl (cI, 7, .inl f_3)), (h5, .inl (cI, 7, .inl f_6)), (h6, .inl (cI, 7, .inl f_8)), (h7, .inl (cI, 4, .inl f33))] := hD
  refine lv_aload_n hx hb dX3_readFrom_56 rfl (lv_at hl 1 rfl) ?_
  refine lv_iload_n hx hb dX3_readFrom_57 rfl (lv_at hl 2 rfl) ?_
  refine lv_bipush (v := 21) hx hb dX3_readFrom_58 (by decide +kernel) ?_
  refine lv_iadd hx hb dX3_readFrom_60 ?_
  refine lv_topi (fun v_9 ev_9 => ?_)
  have gv_9 : v_9.toInt = x2.toInt + (21 : Int) := by
    have zx : (x2 : Int32).toInt = x2.toInt := rfl
    have zy : (21 : Int32).toInt = (21 : Int) := (by decide)
    rw [ev_9, i32_add (by rw [zx, zy]; omega) (by rw [zx, zy]; omega), zx, zy]
  refine lv_aload_n hx hb dX3_readFrom_61 rfl (lv_at hl 0 rfl) ?_
  refine va_get (D := D) (ci := 3) (v := .ref h7) (C := RX3) (T := TX3) (N := 8) hx hb hts inX3 hown hG.1 hP 0 rfl rfl 4 (by decide) (hts _ kw438) (fun _ h9 => h9) rfl dX3_readFrom_62 ?_
  refine lv_iconst (v := 0) hx hb dX3_readFrom_65 (by decide +kernel) ?_
  refine lv_iconst (v := 4) hx hb dX3_readFrom_66 (by decide +kernel) ?_
  refine xa_cpyE (sN := v_9.toInt.toNat) (dN := 0) (kN := 4) hx hb hml hl.1 hown hts kw422 kw424 kw423 kw122 hG hP hD hS 1 6 rfl rfl (i_nn (by omega)) (by decide +kernel) (by decide +kernel) (cpy_le (k := 4) (by decide +kernel) (by omega) (by omega)) (by decide +kernel) rfl (by decide +kernel) (by decide +kernel) (Nat.le_of_ble_eq_true rfl) (Nat.le_of_ble_eq_true rfl) dX3_readFrom_67 (fun f_10 H locs ef_10 hP hD hS => ?_)
  have hP : va_P D vwCl [(h0, .inr (3, [.ref h3, .ref h4, .ref h5, .ref h6, .ref h7, .ref h8, .int x9, .int x10])), (h1, .inl (cI, 1107, .inl f11)), (h3, .inr (8, [.int x12, .int x13, .int x14, .ref h15, .ref h16, .ref h17, .ref h18, .ref h19, .ref h20, .ref h21, .ref h22, .ref h23, .ref h24, .int x25, .int x26, .int x27, .int x28, .int x29])), (h4, .inl (cI, 7, .inl f_3)), (h5, .inl (cI, 7, .inl f_6)), (h6, .inl (cI, 7, .inl f_8)), (h7, .inl (cI, 4, .inl f_10))] H := hP
  have hD : va_D A [(h0, .inr (3, [.ref h3, .ref h4, .ref h5, .ref h6, .ref h7, .ref h8, .int x9, .int x10])), (h1, .inl (cI, 1107, .inl f11)), (h3, .inr (8, [.int x12, .int x13, .int x14, .ref h15, .ref h16, .ref h17, .ref h18, .ref h19, .ref h20, .ref h21, .ref h22, .ref h23, .ref h24, .int x25, .int x26, .int x27, .int x28, .int x29])), (h4, .inl (cI, 7, .inl f_3)), (h5, .inl (cI, 7, .inl f_6)), (h6, .inl (cI, 7, .inl f_8)), (h7, .inl (cI, 4, .inl f_10))] := hD
  refine lv_aload_n hx hb dX3_readFrom_70 rfl (lv_at hl 0 rfl) ?_
  refine lv_aload_n hx hb dX3_readFrom_71 rfl (lv_at hl 1 rfl) ?_
  refine lv_iload_n hx hb dX3_readFrom_72 rfl (lv_at hl 2 rfl) ?_
  refine lv_bipush (v := 25) hx hb dX3_readFrom_73 (by decide +kernel) ?_
  refine lv_iadd hx hb dX3_readFrom_75 ?_
  refine lv_topi (fun v_11 ev_11 => ?_)
  have gv_11 : v_11.toInt = x2.toInt + (25 : Int) := by
    have zx : (x2 : Int32).toInt = x2.toInt := rfl
    have zy : (25 : Int32).toInt = (25 : Int) := (by decide)
    rw [ev_11, i32_add (by rw [zx, zy]; omega) (by rw [zx, zy]; omega), zx, zy]
  refine xa_ildE hx hb hG hP 1 rfl (vp_in_iff.mpr ⟨by omega, by omega⟩) dX3_readFrom_76 (fun v_12 ev_12 => ?_)
  have o_13 : PT f11 (v_11.toInt) (v_12.toInt) := mk_pt ev_12
  refine va_put (D := D) (ci := 3) (v := .int v_12) (ty := .int) (C := RX3) (T := TX3) (N := 8) hx hb hts inX3 tyX3 tyX3_ok nmX3 hown hG.1 hP hD hS 0 rfl rfl 6 (by decide) (hts _ kw441) (fun _ h9 => h9) rfl (by decide +kernel) rfl rfl (Nat.le_of_ble_eq_true rfl) dX3_readFrom_77 (fun H locs hP hD hS => ?_)
  have hP : va_P D vwCl [(h0, .inr (3, [.ref h3, .ref h4, .ref h5, .ref h6, .ref h7, .ref h8, .int v_12, .int x10])), (h1, .inl (cI, 1107, .inl f11)), (h3, .inr (8, [.int x12, .int x13, .int x14, .ref h15, .ref h16, .ref h17, .ref h18, .ref h19, .ref h20, .ref h21, .ref h22, .ref h23, .ref h24, .int x25, .int x26, .int x27, .int x28, .int x29])), (h4, .inl (cI, 7, .inl f_3)), (h5, .inl (cI, 7, .inl f_6)), (h6, .inl (cI, 7, .inl f_8)), (h7, .inl (cI, 4, .inl f_10))] H := hP
  have hD : va_D A [(h0, .inr (3, [.ref h3, .ref h4, .ref h5, .ref h6, .ref h7, .ref h8, .int v_12, .int x10])), (h1, .inl (cI, 1107, .inl f11)), (h3, .inr (8, [.int x12, .int x13, .int x14, .ref h15, .ref h16, .ref h17, .ref h18, .ref h19, .ref h20, .ref h21, .ref h22, .ref h23, .ref h24, .int x25, .int x26, .int x27, .int x28, .int x29])), (h4, .inl (cI, 7, .inl f_3)), (h5, .inl (cI, 7, .inl f_6)), (h6, .inl (cI, 7, .inl f_8)), (h7, .inl (cI, 4, .inl f_10))] := hD
  refine lv_aload_n hx hb dX3_readFrom_80 rfl (lv_at hl 0 rfl) ?_
  refine lv_aload_n hx hb dX3_readFrom_81 rfl (lv_at hl 1 rfl) ?_
  refine lv_iload_n hx hb dX3_readFrom_82 rfl (lv_at hl 2 rfl) ?_
  refine lv_bipush (v := 25) hx hb dX3_readFrom_83 (by decide +kernel) ?_
  refine lv_iadd hx hb dX3_readFrom_85 ?_
  refine lv_topi (fun v_14 ev_14 => ?_)
  have gv_14 : v_14.toInt = x2.toInt + (25 : Int) := by
    have zx : (x2 : Int32).toInt = x2.toInt := rfl
    have zy : (25 : Int32).toInt = (25 : Int) := (by decide)
    rw [ev_14, i32_add (by rw [zx, zy]; omega) (by rw [zx, zy]; omega), zx, zy]
  refine lv_iconst (v := 1) hx hb dX3_readFrom_86 (by decide +kernel) ?_
  refine lv_iadd hx hb dX3_readFrom_87 ?_
  refine lv_topi (fun v_15 ev_15 => ?_)
  have gv_15 : v_15.toInt = v_14.toInt + (1 : Int) := by
    have zx : (v_14 : Int32).toInt = v_14.toInt := rfl
    have zy : (1 : Int32).toInt = (1 : Int) := (by decide)
    rw [ev_15, i32_add (by rw [zx, zy]; omega) (by rw [zx, zy]; omega), zx, zy]
  refine xa_ildE hx hb hG hP 1 rfl (vp_in_iff.mpr ⟨by omega, by omega⟩) dX3_readFrom_88 (fun v_16 ev_16 => ?_)
  have o_17 : PT f11 (v_15.toInt) (v_16.toInt) := mk_pt ev_16
  have g_18 := rf_seed go0 ev_16 (by omega) (by omega)
  refine va_put (D := D) (ci := 3) (v := .int v_16) (ty := .int) (C := RX3) (T := TX3) (N := 8) hx hb hts inX3 tyX3 tyX3_ok nmX3 hown hG.1 hP hD hS 0 rfl rfl 7 (by decide) (hts _ kw443) (fun _ h9 => h9) rfl (by decide +kernel) rfl rfl (Nat.le_of_ble_eq_true rfl) dX3_readFrom_89 (fun H locs hP hD hS => ?_)
  have hP : va_P D vwCl [(h0, .inr (3, [.ref h3, .ref h4, .ref h5, .ref h6, .ref h7, .ref h8, .int v_12, .int v_16])), (h1, .inl (cI, 1107, .inl f11)), (h3, .inr (8, [.int x12, .int x13, .int x14, .ref h15, .ref h16, .ref h17, .ref h18, .ref h19, .ref h20, .ref h21, .ref h22, .ref h23, .ref h24, .int x25, .int x26, .int x27, .int x28, .int x29])), (h4, .inl (cI, 7, .inl f_3)), (h5, .inl (cI, 7, .inl f_6)), (h6, .inl (cI, 7, .inl f_8)), (h7, .inl (cI, 4, .inl f_10))] H := hP
  have hD : va_D A [(h0, .inr (3, [.ref h3, .ref h4, .ref h5, .ref h6, .ref h7, .ref h8, .int v_12, .int v_16])), (h1, .inl (cI, 1107, .inl f11)), (h3, .inr (8, [.int x12, .int x13, .int x14, .ref h15, .ref h16, .ref h17, .ref h18, .ref h19, .ref h20, .ref h21, .ref h22, .ref h23, .ref h24, .int x25, .int x26, .int x27, .int x28, .int x29])), (h4, .inl (cI, 7, .inl f_3)), (h5, .inl (cI, 7, .inl f_6)), (h6, .inl (cI, 7, .inl f_8)), (h7, .inl (cI, 4, .inl f_10))] := hD
  have hP9 := hP.sub (ws' := [(h0, .inr (3, [.ref h3, .ref h4, .ref h5, .ref h6, .ref h7, .ref h8, .int v_12, .int v_16])), (h1, .inl (cI, 1107, .inl f11)), (h3, .inr (8, [.int x12, .int x13, .int x14, .ref h15, .ref h16, .ref h17, .ref h18, .ref h19, .ref h20, .ref h21, .ref h22, .ref h23, .ref h24, .int x25, .int x26, .int x27, .int x28, .int x29])), (h4, .inl (cI, 7, .inl f_3)), (h5, .inl (cI, 7, .inl f_6)), (h6, .inl (cI, 7, .inl f_8)), (h7, .inl (cI, 4, .inl f_10))]) [0, 1, 2, 3, 4, 5, 6] rfl
  have hD9 := hD.sub (ws' := [(h0, .inr (3, [.ref h3, .ref h4, .ref h5, .ref h6, .ref h7, .ref h8, .int v_12, .int v_16])), (h1, .inl (cI, 1107, .inl f11)), (h3, .inr (8, [.int x12, .int x13, .int x14, .ref h15, .ref h16, .ref h17, .ref h18, .ref h19, .ref h20, .ref h21, .ref h22, .ref h23, .ref h24, .int x25, .int x26, .int x27, .int x28, .int x29])), (h4, .inl (cI, 7, .inl f_3)), (h5, .inl (cI, 7, .inl f_6)), (h6, .inl (cI, 7, .inl f_8)), (h7, .inl (cI, 4, .inl f_10))]) [0, 1, 2, 3, 4, 5, 6] (by decide) rfl
  exact xr_v (rm := (rmL 1 0 0)) hx hb hr hlocks hAe hS hP9 hD9 (Nat.le_of_ble_eq_true rfl) (Nat.le_of_ble_eq_true rfl) dX3_readFrom_92 ⟨v_12, v_16, f_3, f_6, f_8, f_10, by omega, by omega, a_4.mono (by omega) (by omega) (by omega), rfl, rfl⟩
set_option maxHeartbeats 4000000 in
set_option maxRecDepth 100000 in
theorem sX3_writeTo_2 (l : Launch) (D : va_G) (cB cI cJ cZ : ClassId) (aK aV : Nat → Nat) (h0 : Nat) (h1 : Nat) (x2 : Int32) (h3 : Nat) (h4 : Nat) (h5 : Nat) (h6 : Nat) (h7 : Nat) (h8 : Nat) (x9 : Int32) (x10 : Int32) (f11 : Nat → Int32) (f12 : Nat → Int32) (x13 : Int32) (x14 : Int32) (x15 : Int32) (h16 : Nat) (h17 : Nat) (h18 : Nat) (h19 : Nat) (h20 : Nat) (h21 : Nat) (h22 : Nat) (h23 : Nat) (h24 : Nat) (h25 : Nat) (x26 : Int32) (x27 : Int32) (x28 : Int32) (x29 : Int32) (x30 : Int32) (f31 : Nat → Int32) (f32 : Nat → Int32) (f33 : Nat → Int32) (gh0 : 0 ≤ x10.toInt) (gh1 : 0 ≤ -x10.toInt + 999) (gh2 : 0 ≤ x2.toInt) (gh3 : 0 ≤ -x2.toInt + 54) (gh4 : 0 ≤ x13.toInt) (gh5 : 0 ≤ -x13.toInt + 4) (gh6 : 0 ≤ x14.toInt) (gh7 : 0 ≤ -x14.toInt + 3) (gh8 : 0 ≤ x15.toInt) (gh9 : 0 ≤ -x15.toInt + 7) (gh10 : 0 ≤ x29.toInt + 1) (gh11 : 0 ≤ -x29.toInt + 999) (ga0 : AR f12 (0) (3) (x15.toInt)) : MX l yX3_writeTo cX3_writeTo 3 none (rmL 1 0 0) D cB cI cJ cZ aK aV [.ref h0, .ref h1, .int x2] [(h0, .inr (3, [.ref h3, .ref h4, .ref h5, .ref h6, .ref h7, .ref h8, .int x9, .int x10])), (h1, .inl (cI, 81, .inl f11)), (h3, .inr (8, [.int x13, .int x14, .int x15, .ref h16, .ref h17, .ref h18, .ref h19, .ref h20, .ref h21, .ref h22, .ref h23, .ref h24, .ref h25, .int x26, .int x27, .int x28, .int x29, .int x30])), (h4, .inl (cI, 7, .inl f12)), (h5, .inl (cI, 7, .inl f31)), (h6, .inl (cI, 7, .inl f32)), (h7, .inl (cI, 4, .inl f33))] (fun r w1 => ∃ z1 : Nat → Int32, WR f11 z1 (x2.toInt) (x15.toInt) ∧ r = none ∧ w1 = [(h0, .inr (3, [.ref h3, .ref h4, .ref h5, .ref h6, .ref h7, .ref h8, .int x9, .int x10])), (h1, .inl (cI, 81, .inl z1)), (h3, .inr (8, [.int x13, .int x14, .int x15, .ref h16, .ref h17, .ref h18, .ref h19, .ref h20, .ref h21, .ref h22, .ref h23, .ref h24, .ref h25, .int x26, .int x27, .int x28, .int x29, .int x30])), (h4, .inl (cI, 7, .inl f12)), (h5, .inl (cI, 7, .inl f31)), (h6, .inl (cI, 7, .inl f32)), (h7, .inl (cI, 4, .inl f33))]) := by
  refine MX.intro (by decide) (Nat.le_of_ble_eq_true rfl) ?_
  intro p e s m below meth c A ls hx hb hr hml hown hlocks hnm hts hG hE hA hS hP hD hl hAe
  have hl : lv_has ls 3 [(0, .ref h0), (1, .ref h1), (2, .int x2)] := hl
  have hown : s.vm.findClass RX3 = some m.cls := hown
  refine lv_iload_n hx hb dX3_writeTo_0 rfl (lv_at hl 2 rfl) ?_
  refine lv_if_lt (tgt := 13) hx hb dX3_writeTo_1 (by decide) (fun c_1 => by exfalso; have fc_1 : x2.toInt < (0 : Int) := i_lt rfl (by decide) c_1; omega) (fun c_1 => ?_)
  have fc_1 : (0 : Int) ≤ x2.toInt := i_nlt rfl (by decide) c_1
  refine lv_iload_n hx hb dX3_writeTo_4 rfl (lv_at hl 2 rfl) ?_
  refine lv_aload_n hx hb dX3_writeTo_5 rfl (lv_at hl 1 rfl) ?_
  refine xa_alen (v := 81) hx hb hG hP 1 1 rfl rfl rfl dX3_writeTo_6 ?_
  refine lv_bipush (v := 27) hx hb dX3_writeTo_7 (by decide +kernel) ?_
  refine lv_isub hx hb dX3_writeTo_9 ?_
  refine xt_i (v := 54) (by decide +kernel) ?_
  refine lv_icmp_le (tgt := 14) hx hb dX3_writeTo_10 (by decide) (fun c_2 => ?_) (fun c_2 => by exfalso; have fc_2 : (54 : Int) < x2.toInt := i_nle rfl (by decide) c_2; omega)
  have fc_2 : x2.toInt ≤ (54 : Int) := i_le rfl (by decide) c_2
  refine lv_aload_n hx hb dX3_writeTo_14 rfl (lv_at hl 0 rfl) ?_
  refine va_get (D := D) (ci := 3) (v := .ref h4) (C := RX3) (T := TX3) (N := 8) hx hb hts inX3 hown hG.1 hP 0 rfl rfl 1 (by decide) (hts _ kw428) (fun _ h9 => h9) rfl dX3_writeTo_15 ?_
  refine lv_iconst (v := 0) hx hb dX3_writeTo_18 (by decide +kernel) ?_
  refine lv_aload_n hx hb dX3_writeTo_19 rfl (lv_at hl 1 rfl) ?_
  refine lv_iload_n hx hb dX3_writeTo_20 rfl (lv_at hl 2 rfl) ?_
  refine lv_bipush (v := 7) hx hb dX3_writeTo_21 (by decide +kernel) ?_
  refine xa_cpyE (sN := 0) (dN := x2.toInt.toNat) (kN := 7) hx hb hml hl.1 hown hts kw422 kw424 kw423 kw122 hG hP hD hS 3 1 rfl rfl (by decide +kernel) (i_nn (by omega)) (by decide +kernel) (by decide +kernel) (cpy_le (k := 7) (by decide +kernel) (by omega) (by omega)) (by decide +kernel) rfl (by decide +kernel) (Nat.le_of_ble_eq_true rfl) (Nat.le_of_ble_eq_true rfl) dX3_writeTo_23 (fun f_3 H locs ef_3 hP hD hS => ?_)
  have hP : va_P D vwCl [(h0, .inr (3, [.ref h3, .ref h4, .ref h5, .ref h6, .ref h7, .ref h8, .int x9, .int x10])), (h1, .inl (cI, 81, .inl f_3)), (h3, .inr (8, [.int x13, .int x14, .int x15, .ref h16, .ref h17, .ref h18, .ref h19, .ref h20, .ref h21, .ref h22, .ref h23, .ref h24, .ref h25, .int x26, .int x27, .int x28, .int x29, .int x30])), (h4, .inl (cI, 7, .inl f12)), (h5, .inl (cI, 7, .inl f31)), (h6, .inl (cI, 7, .inl f32)), (h7, .inl (cI, 4, .inl f33))] H := hP
  have hD : va_D A [(h0, .inr (3, [.ref h3, .ref h4, .ref h5, .ref h6, .ref h7, .ref h8, .int x9, .int x10])), (h1, .inl (cI, 81, .inl f_3)), (h3, .inr (8, [.int x13, .int x14, .int x15, .ref h16, .ref h17, .ref h18, .ref h19, .ref h20, .ref h21, .ref h22, .ref h23, .ref h24, .ref h25, .int x26, .int x27, .int x28, .int x29, .int x30])), (h4, .inl (cI, 7, .inl f12)), (h5, .inl (cI, 7, .inl f31)), (h6, .inl (cI, 7, .inl f32)), (h7, .inl (cI, 4, .inl f33))] := hD
  refine lv_aload_n hx hb dX3_writeTo_26 rfl (lv_at hl 0 rfl) ?_
  refine va_get (D := D) (ci := 3) (v := .ref h5) (C := RX3) (T := TX3) (N := 8) hx hb hts inX3 hown hG.1 hP 0 rfl rfl 2 (by decide) (hts _ kw432) (fun _ h9 => h9) rfl dX3_writeTo_27 ?_
  refine lv_iconst (v := 0) hx hb dX3_writeTo_30 (by decide +kernel) ?_
  refine lv_aload_n hx hb dX3_writeTo_31 rfl (lv_at hl 1 rfl) ?_
  refine lv_iload_n hx hb dX3_writeTo_32 rfl (lv_at hl 2 rfl) ?_
  refine lv_bipush (v := 7) hx hb dX3_writeTo_33 (by decide +kernel) ?_
  refine lv_iadd hx hb dX3_writeTo_35 ?_
  refine lv_topi (fun v_4 ev_4 => ?_)
  have gv_4 : v_4.toInt = x2.toInt + (7 : Int) := by
    have zx : (x2 : Int32).toInt = x2.toInt := rfl
    have zy : (7 : Int32).toInt = (7 : Int) := (by decide)
    rw [ev_4, i32_add (by rw [zx, zy]; omega) (by rw [zx, zy]; omega), zx, zy]
  refine lv_bipush (v := 7) hx hb dX3_writeTo_36 (by decide +kernel) ?_
  refine xa_cpyE (sN := 0) (dN := v_4.toInt.toNat) (kN := 7) hx hb hml hl.1 hown hts kw422 kw424 kw423 kw122 hG hP hD hS 4 1 rfl rfl (by decide +kernel) (i_nn (by omega)) (by decide +kernel) (by decide +kernel) (cpy_le (k := 7) (by decide +kernel) (by omega) (by omega)) (by decide +kernel) rfl (by decide +kernel) (Nat.le_of_ble_eq_true rfl) (Nat.le_of_ble_eq_true rfl) dX3_writeTo_38 (fun f_5 H locs ef_5 hP hD hS => ?_)
  have hP : va_P D vwCl [(h0, .inr (3, [.ref h3, .ref h4, .ref h5, .ref h6, .ref h7, .ref h8, .int x9, .int x10])), (h1, .inl (cI, 81, .inl f_5)), (h3, .inr (8, [.int x13, .int x14, .int x15, .ref h16, .ref h17, .ref h18, .ref h19, .ref h20, .ref h21, .ref h22, .ref h23, .ref h24, .ref h25, .int x26, .int x27, .int x28, .int x29, .int x30])), (h4, .inl (cI, 7, .inl f12)), (h5, .inl (cI, 7, .inl f31)), (h6, .inl (cI, 7, .inl f32)), (h7, .inl (cI, 4, .inl f33))] H := hP
  have hD : va_D A [(h0, .inr (3, [.ref h3, .ref h4, .ref h5, .ref h6, .ref h7, .ref h8, .int x9, .int x10])), (h1, .inl (cI, 81, .inl f_5)), (h3, .inr (8, [.int x13, .int x14, .int x15, .ref h16, .ref h17, .ref h18, .ref h19, .ref h20, .ref h21, .ref h22, .ref h23, .ref h24, .ref h25, .int x26, .int x27, .int x28, .int x29, .int x30])), (h4, .inl (cI, 7, .inl f12)), (h5, .inl (cI, 7, .inl f31)), (h6, .inl (cI, 7, .inl f32)), (h7, .inl (cI, 4, .inl f33))] := hD
  refine lv_aload_n hx hb dX3_writeTo_41 rfl (lv_at hl 0 rfl) ?_
  refine va_get (D := D) (ci := 3) (v := .ref h6) (C := RX3) (T := TX3) (N := 8) hx hb hts inX3 hown hG.1 hP 0 rfl rfl 3 (by decide) (hts _ kw435) (fun _ h9 => h9) rfl dX3_writeTo_42 ?_
  refine lv_iconst (v := 0) hx hb dX3_writeTo_45 (by decide +kernel) ?_
  refine lv_aload_n hx hb dX3_writeTo_46 rfl (lv_at hl 1 rfl) ?_
  refine lv_iload_n hx hb dX3_writeTo_47 rfl (lv_at hl 2 rfl) ?_
  refine lv_bipush (v := 14) hx hb dX3_writeTo_48 (by decide +kernel) ?_
  refine lv_iadd hx hb dX3_writeTo_50 ?_
  refine lv_topi (fun v_6 ev_6 => ?_)
  have gv_6 : v_6.toInt = x2.toInt + (14 : Int) := by
    have zx : (x2 : Int32).toInt = x2.toInt := rfl
    have zy : (14 : Int32).toInt = (14 : Int) := (by decide)
    rw [ev_6, i32_add (by rw [zx, zy]; omega) (by rw [zx, zy]; omega), zx, zy]
  refine lv_bipush (v := 7) hx hb dX3_writeTo_51 (by decide +kernel) ?_
  refine xa_cpyE (sN := 0) (dN := v_6.toInt.toNat) (kN := 7) hx hb hml hl.1 hown hts kw422 kw424 kw423 kw122 hG hP hD hS 5 1 rfl rfl (by decide +kernel) (i_nn (by omega)) (by decide +kernel) (by decide +kernel) (cpy_le (k := 7) (by decide +kernel) (by omega) (by omega)) (by decide +kernel) rfl (by decide +kernel) (Nat.le_of_ble_eq_true rfl) (Nat.le_of_ble_eq_true rfl) dX3_writeTo_53 (fun f_7 H locs ef_7 hP hD hS => ?_)
  have hP : va_P D vwCl [(h0, .inr (3, [.ref h3, .ref h4, .ref h5, .ref h6, .ref h7, .ref h8, .int x9, .int x10])), (h1, .inl (cI, 81, .inl f_7)), (h3, .inr (8, [.int x13, .int x14, .int x15, .ref h16, .ref h17, .ref h18, .ref h19, .ref h20, .ref h21, .ref h22, .ref h23, .ref h24, .ref h25, .int x26, .int x27, .int x28, .int x29, .int x30])), (h4, .inl (cI, 7, .inl f12)), (h5, .inl (cI, 7, .inl f31)), (h6, .inl (cI, 7, .inl f32)), (h7, .inl (cI, 4, .inl f33))] H := hP
  have hD : va_D A [(h0, .inr (3, [.ref h3, .ref h4, .ref h5, .ref h6, .ref h7, .ref h8, .int x9, .int x10])), (h1, .inl (cI, 81, .inl f_7)), (h3, .inr (8, [.int x13, .int x14, .int x15, .ref h16, .ref h17, .ref h18, .ref h19, .ref h20, .ref h21, .ref h22, .ref h23, .ref h24, .ref h25, .int x26, .int x27, .int x28, .int x29, .int x30])), (h4, .inl (cI, 7, .inl f12)), (h5, .inl (cI, 7, .inl f31)), (h6, .inl (cI, 7, .inl f32)), (h7, .inl (cI, 4, .inl f33))] := hD
  refine lv_aload_n hx hb dX3_writeTo_56 rfl (lv_at hl 0 rfl) ?_
  refine va_get (D := D) (ci := 3) (v := .ref h7) (C := RX3) (T := TX3) (N := 8) hx hb hts inX3 hown hG.1 hP 0 rfl rfl 4 (by decide) (hts _ kw438) (fun _ h9 => h9) rfl dX3_writeTo_57 ?_
  refine lv_iconst (v := 0) hx hb dX3_writeTo_60 (by decide +kernel) ?_
  refine lv_aload_n hx hb dX3_writeTo_61 rfl (lv_at hl 1 rfl) ?_
  refine lv_iload_n hx hb dX3_writeTo_62 rfl (lv_at hl 2 rfl) ?_
  refine lv_bipush (v := 21) hx hb dX3_writeTo_63 (by decide +kernel) ?_
  refine lv_iadd hx hb dX3_writeTo_65 ?_
  refine lv_topi (fun v_8 ev_8 => ?_)
  have gv_8 : v_8.toInt = x2.toInt + (21 : Int) := by
    have zx : (x2 : Int32).toInt = x2.toInt := rfl
    have zy : (21 : Int32).toInt = (21 : Int) := (by decide)
    rw [ev_8, i32_add (by rw [zx, zy]; omega) (by rw [zx, zy]; omega), zx, zy]
  refine lv_iconst (v := 4) hx hb dX3_writeTo_66 (by decide +kernel) ?_
  refine xa_cpyE (sN := 0) (dN := v_8.toInt.toNat) (kN := 4) hx hb hml hl.1 hown hts kw422 kw424 kw423 kw122 hG hP hD hS 6 1 rfl rfl (by decide +kernel) (i_nn (by omega)) (by decide +kernel) (by decide +kernel) (cpy_le (k := 4) (by decide +kernel) (by omega) (by omega)) (by decide +kernel) rfl (by decide +kernel) (Nat.le_of_ble_eq_true rfl) (Nat.le_of_ble_eq_true rfl) dX3_writeTo_67 (fun f_9 H locs ef_9 hP hD hS => ?_)
  have hP : va_P D vwCl [(h0, .inr (3, [.ref h3, .ref h4, .ref h5, .ref h6, .ref h7, .ref h8, .int x9, .int x10])), (h1, .inl (cI, 81, .inl f_9)), (h3, .inr (8, [.int x13, .int x14, .int x15, .ref h16, .ref h17, .ref h18, .ref h19, .ref h20, .ref h21, .ref h22, .ref h23, .ref h24, .ref h25, .int x26, .int x27, .int x28, .int x29, .int x30])), (h4, .inl (cI, 7, .inl f12)), (h5, .inl (cI, 7, .inl f31)), (h6, .inl (cI, 7, .inl f32)), (h7, .inl (cI, 4, .inl f33))] H := hP
  have hD : va_D A [(h0, .inr (3, [.ref h3, .ref h4, .ref h5, .ref h6, .ref h7, .ref h8, .int x9, .int x10])), (h1, .inl (cI, 81, .inl f_9)), (h3, .inr (8, [.int x13, .int x14, .int x15, .ref h16, .ref h17, .ref h18, .ref h19, .ref h20, .ref h21, .ref h22, .ref h23, .ref h24, .ref h25, .int x26, .int x27, .int x28, .int x29, .int x30])), (h4, .inl (cI, 7, .inl f12)), (h5, .inl (cI, 7, .inl f31)), (h6, .inl (cI, 7, .inl f32)), (h7, .inl (cI, 4, .inl f33))] := hD
  refine lv_aload_n hx hb dX3_writeTo_70 rfl (lv_at hl 1 rfl) ?_
  refine lv_iload_n hx hb dX3_writeTo_71 rfl (lv_at hl 2 rfl) ?_
  refine lv_bipush (v := 25) hx hb dX3_writeTo_72 (by decide +kernel) ?_
  refine lv_iadd hx hb dX3_writeTo_74 ?_
  refine lv_topi (fun v_10 ev_10 => ?_)
  have gv_10 : v_10.toInt = x2.toInt + (25 : Int) := by
    have zx : (x2 : Int32).toInt = x2.toInt := rfl
    have zy : (25 : Int32).toInt = (25 : Int) := (by decide)
    rw [ev_10, i32_add (by rw [zx, zy]; omega) (by rw [zx, zy]; omega), zx, zy]
  refine lv_aload_n hx hb dX3_writeTo_75 rfl (lv_at hl 0 rfl) ?_
  refine va_get (D := D) (ci := 3) (v := .int x9) (C := RX3) (T := TX3) (N := 8) hx hb hts inX3 hown hG.1 hP 0 rfl rfl 6 (by decide) (hts _ kw441) (fun _ h9 => h9) rfl dX3_writeTo_76 ?_
  refine xa_istE hx hb hG hP hD hS 1 rfl (vp_in_iff.mpr ⟨by omega, by omega⟩) dX3_writeTo_79 (fun f_11 H locs ef_11 hP hD hS => ?_)
  have hP : va_P D vwCl [(h0, .inr (3, [.ref h3, .ref h4, .ref h5, .ref h6, .ref h7, .ref h8, .int x9, .int x10])), (h1, .inl (cI, 81, .inl f_11)), (h3, .inr (8, [.int x13, .int x14, .int x15, .ref h16, .ref h17, .ref h18, .ref h19, .ref h20, .ref h21, .ref h22, .ref h23, .ref h24, .ref h25, .int x26, .int x27, .int x28, .int x29, .int x30])), (h4, .inl (cI, 7, .inl f12)), (h5, .inl (cI, 7, .inl f31)), (h6, .inl (cI, 7, .inl f32)), (h7, .inl (cI, 4, .inl f33))] H := hP
  have hD : va_D A [(h0, .inr (3, [.ref h3, .ref h4, .ref h5, .ref h6, .ref h7, .ref h8, .int x9, .int x10])), (h1, .inl (cI, 81, .inl f_11)), (h3, .inr (8, [.int x13, .int x14, .int x15, .ref h16, .ref h17, .ref h18, .ref h19, .ref h20, .ref h21, .ref h22, .ref h23, .ref h24, .ref h25, .int x26, .int x27, .int x28, .int x29, .int x30])), (h4, .inl (cI, 7, .inl f12)), (h5, .inl (cI, 7, .inl f31)), (h6, .inl (cI, 7, .inl f32)), (h7, .inl (cI, 4, .inl f33))] := hD
  have o_12 : PT f_11 (v_10.toInt) (x9.toInt) := st_ptn ef_11 (by omega) rfl rfl
  refine lv_aload_n hx hb dX3_writeTo_80 rfl (lv_at hl 1 rfl) ?_
  refine lv_iload_n hx hb dX3_writeTo_81 rfl (lv_at hl 2 rfl) ?_
  refine lv_bipush (v := 25) hx hb dX3_writeTo_82 (by decide +kernel) ?_
  refine lv_iadd hx hb dX3_writeTo_84 ?_
  refine lv_topi (fun v_13 ev_13 => ?_)
  have gv_13 : v_13.toInt = x2.toInt + (25 : Int) := by
    have zx : (x2 : Int32).toInt = x2.toInt := rfl
    have zy : (25 : Int32).toInt = (25 : Int) := (by decide)
    rw [ev_13, i32_add (by rw [zx, zy]; omega) (by rw [zx, zy]; omega), zx, zy]
  refine lv_iconst (v := 1) hx hb dX3_writeTo_85 (by decide +kernel) ?_
  refine lv_iadd hx hb dX3_writeTo_86 ?_
  refine lv_topi (fun v_14 ev_14 => ?_)
  have gv_14 : v_14.toInt = v_13.toInt + (1 : Int) := by
    have zx : (v_13 : Int32).toInt = v_13.toInt := rfl
    have zy : (1 : Int32).toInt = (1 : Int) := (by decide)
    rw [ev_14, i32_add (by rw [zx, zy]; omega) (by rw [zx, zy]; omega), zx, zy]
  refine lv_aload_n hx hb dX3_writeTo_87 rfl (lv_at hl 0 rfl) ?_
  refine va_get (D := D) (ci := 3) (v := .int x10) (C := RX3) (T := TX3) (N := 8) hx hb hts inX3 hown hG.1 hP 0 rfl rfl 7 (by decide) (hts _ kw443) (fun _ h9 => h9) rfl dX3_writeTo_88 ?_
  refine xa_istE hx hb hG hP hD hS 1 rfl (vp_in_iff.mpr ⟨by omega, by omega⟩) dX3_writeTo_91 (fun f_15 H locs ef_15 hP hD hS => ?_)
  have hP : va_P D vwCl [(h0, .inr (3, [.ref h3, .ref h4, .ref h5, .ref h6, .ref h7, .ref h8, .int x9, .int x10])), (h1, .inl (cI, 81, .inl f_15)), (h3, .inr (8, [.int x13, .int x14, .int x15, .ref h16, .ref h17, .ref h18, .ref h19, .ref h20, .ref h21, .ref h22, .ref h23, .ref h24, .ref h25, .int x26, .int x27, .int x28, .int x29, .int x30])), (h4, .inl (cI, 7, .inl f12)), (h5, .inl (cI, 7, .inl f31)), (h6, .inl (cI, 7, .inl f32)), (h7, .inl (cI, 4, .inl f33))] H := hP
  have hD : va_D A [(h0, .inr (3, [.ref h3, .ref h4, .ref h5, .ref h6, .ref h7, .ref h8, .int x9, .int x10])), (h1, .inl (cI, 81, .inl f_15)), (h3, .inr (8, [.int x13, .int x14, .int x15, .ref h16, .ref h17, .ref h18, .ref h19, .ref h20, .ref h21, .ref h22, .ref h23, .ref h24, .ref h25, .int x26, .int x27, .int x28, .int x29, .int x30])), (h4, .inl (cI, 7, .inl f12)), (h5, .inl (cI, 7, .inl f31)), (h6, .inl (cI, 7, .inl f32)), (h7, .inl (cI, 4, .inl f33))] := hD
  have o_16 : PT f_15 (v_10.toInt) (x9.toInt) := st_pt ef_15 (by omega) o_12 (by omega) (by omega)
  have o_17 : PT f_15 (v_14.toInt) (x10.toInt) := st_ptn ef_15 (by omega) rfl rfl
  have o_18 : WR f11 f_15 (x2.toInt) (x15.toInt) := wr_all ef_3 ef_5 ef_7 ef_9 ef_11 ef_15 (by omega) (by omega) (by omega) (by omega) (by omega) (by omega) (by omega) ga0 (by omega) (by omega)
  have hP9 := hP.sub (ws' := [(h0, .inr (3, [.ref h3, .ref h4, .ref h5, .ref h6, .ref h7, .ref h8, .int x9, .int x10])), (h1, .inl (cI, 81, .inl f_15)), (h3, .inr (8, [.int x13, .int x14, .int x15, .ref h16, .ref h17, .ref h18, .ref h19, .ref h20, .ref h21, .ref h22, .ref h23, .ref h24, .ref h25, .int x26, .int x27, .int x28, .int x29, .int x30])), (h4, .inl (cI, 7, .inl f12)), (h5, .inl (cI, 7, .inl f31)), (h6, .inl (cI, 7, .inl f32)), (h7, .inl (cI, 4, .inl f33))]) [0, 1, 2, 3, 4, 5, 6] rfl
  have hD9 := hD.sub (ws' := [(h0, .inr (3, [.ref h3, .ref h4, .ref h5, .ref h6, .ref h7, .ref h8, .int x9, .int x10])), (h1, .inl (cI, 81, .inl f_15)), (h3, .inr (8, [.int x13, .int x14, .int x15, .ref h16, .ref h17, .ref h18, .ref h19, .ref h20, .ref h21, .ref h22, .ref h23, .ref h24, .ref h25, .int x26, .int x27, .int x28, .int x29, .int x30])), (h4, .inl (cI, 7, .inl f12)), (h5, .inl (cI, 7, .inl f31)), (h6, .inl (cI, 7, .inl f32)), (h7, .inl (cI, 4, .inl f33))]) [0, 1, 2, 3, 4, 5, 6] (by decide) rfl
  exact xr_v (rm := (rmL 1 0 0)) hx hb hr hlocks hAe hS hP9 hD9 (Nat.le_of_ble_eq_true rfl) (Nat.le_of_ble_eq_true rfl) dX3_writeTo_92 ⟨f_15, o_18, rfl, rfl⟩
set_option maxHeartbeats 4000000 in
set_option maxRecDepth 100000 in
theorem sX3_readFrom_2 (l : Launch) (D : va_G) (cB cI cJ cZ : ClassId) (aK aV : Nat → Nat) (h0 : Nat) (h1 : Nat) (x2 : Int32) (h3 : Nat) (h4 : Nat) (h5 : Nat) (h6 : Nat) (h7 : Nat) (h8 : Nat) (x9 : Int32) (x10 : Int32) (f11 : Nat → Int32) (x12 : Int32) (x13 : Int32) (x14 : Int32) (h15 : Nat) (h16 : Nat) (h17 : Nat) (h18 : Nat) (h19 : Nat) (h20 : Nat) (h21 : Nat) (h22 : Nat) (h23 : Nat) (h24 : Nat) (x25 : Int32) (x26 : Int32) (x27 : Int32) (x28 : Int32) (x29 : Int32) (f30 : Nat → Int32) (f31 : Nat → Int32) (f32 : Nat → Int32) (f33 : Nat → Int32) (gh0 : 0 ≤ x10.toInt) (gh1 : 0 ≤ -x10.toInt + 999) (gh2 : 0 ≤ x2.toInt) (gh3 : 0 ≤ -x2.toInt + 54) (gh4 : 0 ≤ x12.toInt) (gh5 : 0 ≤ -x12.toInt + 4) (gh6 : 0 ≤ x13.toInt) (gh7 : 0 ≤ -x13.toInt + 3) (gh8 : 0 ≤ x14.toInt) (gh9 : 0 ≤ -x14.toInt + 7) (gh10 : 0 ≤ x28.toInt + 1) (gh11 : 0 ≤ -x28.toInt + 999) (ga0 : AR f30 (0) (3) (x14.toInt)) (go0 : RW f11 (x2.toInt) (x14.toInt)) : MX l yX3_readFrom cX3_readFrom 3 none (rmL 1 0 0) D cB cI cJ cZ aK aV [.ref h0, .ref h1, .int x2] [(h0, .inr (3, [.ref h3, .ref h4, .ref h5, .ref h6, .ref h7, .ref h8, .int x9, .int x10])), (h1, .inl (cI, 81, .inl f11)), (h3, .inr (8, [.int x12, .int x13, .int x14, .ref h15, .ref h16, .ref h17, .ref h18, .ref h19, .ref h20, .ref h21, .ref h22, .ref h23, .ref h24, .int x25, .int x26, .int x27, .int x28, .int x29])), (h4, .inl (cI, 7, .inl f30)), (h5, .inl (cI, 7, .inl f31)), (h6, .inl (cI, 7, .inl f32)), (h7, .inl (cI, 4, .inl f33))] (fun r w1 => ∃ z1 : Int32, ∃ z2 : Int32, ∃ z3 : Nat → Int32, ∃ z4 : Nat → Int32, ∃ z5 : Nat → Int32, ∃ z6 : Nat → Int32, 0 ≤ z2.toInt ∧ 0 ≤ -z2.toInt + 999 ∧ AR z3 (0) (3) (x14.toInt) ∧ r = none ∧ w1 = [(h0, .inr (3, [.ref h3, .ref h4, .ref h5, .ref h6, .ref h7, .ref h8, .int z1, .int z2])), (h1, .inl (cI, 81, .inl f11)), (h3, .inr (8, [.int x12, .int x13, .int x14, .ref h15, .ref h16, .ref h17, .ref h18, .ref h19, .ref h20, .ref h21, .ref h22, .ref h23, .ref h24, .int x25, .int x26, .int x27, .int x28, .int x29])), (h4, .inl (cI, 7, .inl z3)), (h5, .inl (cI, 7, .inl z4)), (h6, .inl (cI, 7, .inl z5)), (h7, .inl (cI, 4, .inl z6))]) := by
  refine MX.intro (by decide) (Nat.le_of_ble_eq_true rfl) ?_
  intro p e s m below meth c A ls hx hb hr hml hown hlocks hnm hts hG hE hA hS hP hD hl hAe
  have hl : lv_has ls 3 [(0, .ref h0), (1, .ref h1), (2, .int x2)] := hl
  have hown : s.vm.findClass RX3 = some m.cls := hown
  refine lv_iload_n hx hb dX3_readFrom_0 rfl (lv_at hl 2 rfl) ?_
  refine lv_if_lt (tgt := 13) hx hb dX3_readFrom_1 (by decide) (fun c_1 => by exfalso; have fc_1 : x2.toInt < (0 : Int) := i_lt rfl (by decide) c_1; omega) (fun c_1 => ?_)
  have fc_1 : (0 : Int) ≤ x2.toInt := i_nlt rfl (by decide) c_1
  refine lv_iload_n hx hb dX3_readFrom_4 rfl (lv_at hl 2 rfl) ?_
  refine lv_aload_n hx hb dX3_readFrom_5 rfl (lv_at hl 1 rfl) ?_
  refine xa_alen (v := 81) hx hb hG hP 1 1 rfl rfl rfl dX3_readFrom_6 ?_
  refine lv_bipush (v := 27) hx hb dX3_readFrom_7 (by decide +kernel) ?_
  refine lv_isub hx hb dX3_readFrom_9 ?_
  refine xt_i (v := 54) (by decide +kernel) ?_
  refine lv_icmp_le (tgt := 14) hx hb dX3_readFrom_10 (by decide) (fun c_2 => ?_) (fun c_2 => by exfalso; have fc_2 : (54 : Int) < x2.toInt := i_nle rfl (by decide) c_2; omega)
  have fc_2 : x2.toInt ≤ (54 : Int) := i_le rfl (by decide) c_2
  refine lv_aload_n hx hb dX3_readFrom_14 rfl (lv_at hl 1 rfl) ?_
  refine lv_iload_n hx hb dX3_readFrom_15 rfl (lv_at hl 2 rfl) ?_
  refine lv_aload_n hx hb dX3_readFrom_16 rfl (lv_at hl 0 rfl) ?_
  refine va_get (D := D) (ci := 3) (v := .ref h4) (C := RX3) (T := TX3) (N := 8) hx hb hts inX3 hown hG.1 hP 0 rfl rfl 1 (by decide) (hts _ kw428) (fun _ h9 => h9) rfl dX3_readFrom_17 ?_
  refine lv_iconst (v := 0) hx hb dX3_readFrom_20 (by decide +kernel) ?_
  refine lv_bipush (v := 7) hx hb dX3_readFrom_21 (by decide +kernel) ?_
  refine xa_cpyE (sN := x2.toInt.toNat) (dN := 0) (kN := 7) hx hb hml hl.1 hown hts kw422 kw424 kw423 kw122 hG hP hD hS 1 3 rfl rfl (i_nn (by omega)) (by decide +kernel) (by decide +kernel) (cpy_le (k := 7) (by decide +kernel) (by omega) (by omega)) (by decide +kernel) rfl (by decide +kernel) (by decide +kernel) (Nat.le_of_ble_eq_true rfl) (Nat.le_of_ble_eq_true rfl) dX3_readFrom_23 (fun f_3 H locs ef_3 hP hD hS => ?_)
  have hP : va_P D vwCl [(h0, .inr (3, [.ref h3, .ref h4, .ref h5, .ref h6, .ref h7, .ref h8, .int x9, .int x10])), (h1, .inl (cI, 81, .inl f11)), (h3, .inr (8, [.int x12, .int x13, .int x14, .ref h15, .ref h16, .ref h17, .ref h18, .ref h19, .ref h20, .ref h21, .ref h22, .ref h23, .ref h24, .int x25, .int x26, .int x27, .int x28, .int x29])), (h4, .inl (cI, 7, .inl f_3)), (h5, .inl (cI, 7, .inl f31)), (h6, .inl (cI, 7, .inl f32)), (h7, .inl (cI, 4, .inl f33))] H := hP
  have hD : va_D A [(h0, .inr (3, [.ref h3, .ref h4, .ref h5, .ref h6, .ref h7, .ref h8, .int x9, .int x10])), (h1, .inl (cI, 81, .inl f11)), (h3, .inr (8, [.int x12, .int x13, .int x14, .ref h15, .ref h16, .ref h17, .ref h18, .ref h19, .ref h20, .ref h21, .ref h22, .ref h23, .ref h24, .int x25, .int x26, .int x27, .int x28, .int x29])), (h4, .inl (cI, 7, .inl f_3)), (h5, .inl (cI, 7, .inl f31)), (h6, .inl (cI, 7, .inl f32)), (h7, .inl (cI, 4, .inl f33))] := hD
  have a_4 := rf_ar ef_3 go0 (by omega)
  refine lv_aload_n hx hb dX3_readFrom_26 rfl (lv_at hl 1 rfl) ?_
  refine lv_iload_n hx hb dX3_readFrom_27 rfl (lv_at hl 2 rfl) ?_
  refine lv_bipush (v := 7) hx hb dX3_readFrom_28 (by decide +kernel) ?_
  refine lv_iadd hx hb dX3_readFrom_30 ?_
  refine lv_topi (fun v_5 ev_5 => ?_)
  have gv_5 : v_5.toInt = x2.toInt + (7 : Int) := by
    have zx : (x2 : Int32).toInt = x2.toInt := rfl
    have zy : (7 : Int32).toInt = (7 : Int) := (by decide)
    rw [ev_5, i32_add (by rw [zx, zy]; omega) (by rw [zx, zy]; omega), zx, zy]
  refine lv_aload_n hx hb dX3_readFrom_31 rfl (lv_at hl 0 rfl) ?_
  refine va_get (D := D) (ci := 3) (v := .ref h5) (C := RX3) (T := TX3) (N := 8) hx hb hts inX3 hown hG.1 hP 0 rfl rfl 2 (by decide) (hts _ kw432) (fun _ h9 => h9) rfl dX3_readFrom_32 ?_
  refine lv_iconst (v := 0) hx hb dX3_readFrom_35 (by decide +kernel) ?_
  refine lv_bipush (v := 7) hx hb dX3_readFrom_36 (by decide +kernel) ?_
  refine xa_cpyE (sN := v_5.toInt.toNat) (dN := 0) (kN := 7) hx hb hml hl.1 hown hts kw422 kw424 kw423 kw122 hG hP hD hS 1 4 rfl rfl (i_nn (by omega)) (by decide +kernel) (by decide +kernel) (cpy_le (k := 7) (by decide +kernel) (by omega) (by omega)) (by decide +kernel) rfl (by decide +kernel) (by decide +kernel) (Nat.le_of_ble_eq_true rfl) (Nat.le_of_ble_eq_true rfl) dX3_readFrom_38 (fun f_6 H locs ef_6 hP hD hS => ?_)
  have hP : va_P D vwCl [(h0, .inr (3, [.ref h3, .ref h4, .ref h5, .ref h6, .ref h7, .ref h8, .int x9, .int x10])), (h1, .inl (cI, 81, .inl f11)), (h3, .inr (8, [.int x12, .int x13, .int x14, .ref h15, .ref h16, .ref h17, .ref h18, .ref h19, .ref h20, .ref h21, .ref h22, .ref h23, .ref h24, .int x25, .int x26, .int x27, .int x28, .int x29])), (h4, .inl (cI, 7, .inl f_3)), (h5, .inl (cI, 7, .inl f_6)), (h6, .inl (cI, 7, .inl f32)), (h7, .inl (cI, 4, .inl f33))] H := hP
  have hD : va_D A [(h0, .inr (3, [.ref h3, .ref h4, .ref h5, .ref h6, .ref h7, .ref h8, .int x9, .int x10])), (h1, .inl (cI, 81, .inl f11)), (h3, .inr (8, [.int x12, .int x13, .int x14, .ref h15, .ref h16, .ref h17, .ref h18, .ref h19, .ref h20, .ref h21, .ref h22, .ref h23, .ref h24, .int x25, .int x26, .int x27, .int x28, .int x29])), (h4, .inl (cI, 7, .inl f_3)), (h5, .inl (cI, 7, .inl f_6)), (h6, .inl (cI, 7, .inl f32)), (h7, .inl (cI, 4, .inl f33))] := hD
  refine lv_aload_n hx hb dX3_readFrom_41 rfl (lv_at hl 1 rfl) ?_
  refine lv_iload_n hx hb dX3_readFrom_42 rfl (lv_at hl 2 rfl) ?_
  refine lv_bipush (v := 14) hx hb dX3_readFrom_43 (by decide +kernel) ?_
  refine lv_iadd hx hb dX3_readFrom_45 ?_
  refine lv_topi (fun v_7 ev_7 => ?_)
  have gv_7 : v_7.toInt = x2.toInt + (14 : Int) := by
    have zx : (x2 : Int32).toInt = x2.toInt := rfl
    have zy : (14 : Int32).toInt = (14 : Int) := (by decide)
    rw [ev_7, i32_add (by rw [zx, zy]; omega) (by rw [zx, zy]; omega), zx, zy]
  refine lv_aload_n hx hb dX3_readFrom_46 rfl (lv_at hl 0 rfl) ?_
  refine va_get (D := D) (ci := 3) (v := .ref h6) (C := RX3) (T := TX3) (N := 8) hx hb hts inX3 hown hG.1 hP 0 rfl rfl 3 (by decide) (hts _ kw435) (fun _ h9 => h9) rfl dX3_readFrom_47 ?_
  refine lv_iconst (v := 0) hx hb dX3_readFrom_50 (by decide +kernel) ?_
  refine lv_bipush (v := 7) hx hb dX3_readFrom_51 (by decide +kernel) ?_
  refine xa_cpyE (sN := v_7.toInt.toNat) (dN := 0) (kN := 7) hx hb hml hl.1 hown hts kw422 kw424 kw423 kw122 hG hP hD hS 1 5 rfl rfl (i_nn (by omega)) (by decide +kernel) (by decide +kernel) (cpy_le (k := 7) (by decide +kernel) (by omega) (by omega)) (by decide +kernel) rfl (by decide +kernel) (by decide +kernel) (Nat.le_of_ble_eq_true rfl) (Nat.le_of_ble_eq_true rfl) dX3_readFrom_53 (fun f_8 H locs ef_8 hP hD hS => ?_)
  have hP : va_P D vwCl [(h0, .inr (3, [.ref h3, .ref h4, .ref h5, .ref h6, .ref h7, .ref h8, .int x9, .int x10])), (h1, .inl (cI, 81, .inl f11)), (h3, .inr (8, [.int x12, .int x13, .int x14, .ref h15, .ref h16, .ref h17, .ref h18, .ref h19, .ref h20, .ref h21, .ref h22, .ref h23, .ref h24, .int x25, .int x26, .int x27, .int x28, .int x29])), (h4, .inl (cI, 7, .inl f_3)), (h5, .inl (cI, 7, .inl f_6)), (h6, .inl (cI, 7, .inl f_8)), (h7, .inl (cI, 4, .inl f33))] H := hP
  have hD : va_D A [(h0, .inr (3, [.ref h3, .ref h4, .ref h5, .ref h6, .ref h7, .ref h8, .int x9, .int x10])), (h1, .inl (cI, 81, .inl f11)), (h3, .inr (8, [.int x12, .int x13, .int x14, .ref h15, .ref h16, .ref h17, .ref h18, .ref h19, .ref h20, .ref h21, .ref h22, .ref h23, .ref h24, .int x25, .int x26, .int x27, .int x28, .int x29])), (h4, .inl (cI, 7, .inl f_3)), (h5, .inl (cI, 7, .inl f_6)), (h6, .inl (cI, 7, .inl f_8)), (h7, .inl (cI, 4, .inl f33))] := hD
  refine lv_aload_n hx hb dX3_readFrom_56 rfl (lv_at hl 1 rfl) ?_
  refine lv_iload_n hx hb dX3_readFrom_57 rfl (lv_at hl 2 rfl) ?_
  refine lv_bipush (v := 21) hx hb dX3_readFrom_58 (by decide +kernel) ?_
  refine lv_iadd hx hb dX3_readFrom_60 ?_
  refine lv_topi (fun v_9 ev_9 => ?_)
  have gv_9 : v_9.toInt = x2.toInt + (21 : Int) := by
    have zx : (x2 : Int32).toInt = x2.toInt := rfl
    have zy : (21 : Int32).toInt = (21 : Int) := (by decide)
    rw [ev_9, i32_add (by rw [zx, zy]; omega) (by rw [zx, zy]; omega), zx, zy]
  refine lv_aload_n hx hb dX3_readFrom_61 rfl (lv_at hl 0 rfl) ?_
  refine va_get (D := D) (ci := 3) (v := .ref h7) (C := RX3) (T := TX3) (N := 8) hx hb hts inX3 hown hG.1 hP 0 rfl rfl 4 (by decide) (hts _ kw438) (fun _ h9 => h9) rfl dX3_readFrom_62 ?_
  refine lv_iconst (v := 0) hx hb dX3_readFrom_65 (by decide +kernel) ?_
  refine lv_iconst (v := 4) hx hb dX3_readFrom_66 (by decide +kernel) ?_
  refine xa_cpyE (sN := v_9.toInt.toNat) (dN := 0) (kN := 4) hx hb hml hl.1 hown hts kw422 kw424 kw423 kw122 hG hP hD hS 1 6 rfl rfl (i_nn (by omega)) (by decide +kernel) (by decide +kernel) (cpy_le (k := 4) (by decide +kernel) (by omega) (by omega)) (by decide +kernel) rfl (by decide +kernel) (by decide +kernel) (Nat.le_of_ble_eq_true rfl) (Nat.le_of_ble_eq_true rfl) dX3_readFrom_67 (fun f_10 H locs ef_10 hP hD hS => ?_)
  have hP : va_P D vwCl [(h0, .inr (3, [.ref h3, .ref h4, .ref h5, .ref h6, .ref h7, .ref h8, .int x9, .int x10])), (h1, .inl (cI, 81, .inl f11)), (h3, .inr (8, [.int x12, .int x13, .int x14, .ref h15, .ref h16, .ref h17, .ref h18, .ref h19, .ref h20, .ref h21, .ref h22, .ref h23, .ref h24, .int x25, .int x26, .int x27, .int x28, .int x29])), (h4, .inl (cI, 7, .inl f_3)), (h5, .inl (cI, 7, .inl f_6)), (h6, .inl (cI, 7, .inl f_8)), (h7, .inl (cI, 4, .inl f_10))] H := hP
  have hD : va_D A [(h0, .inr (3, [.ref h3, .ref h4, .ref h5, .ref h6, .ref h7, .ref h8, .int x9, .int x10])), (h1, .inl (cI, 81, .inl f11)), (h3, .inr (8, [.int x12, .int x13, .int x14, .ref h15, .ref h16, .ref h17, .ref h18, .ref h19, .ref h20, .ref h21, .ref h22, .ref h23, .ref h24, .int x25, .int x26, .int x27, .int x28, .int x29])), (h4, .inl (cI, 7, .inl f_3)), (h5, .inl (cI, 7, .inl f_6)), (h6, .inl (cI, 7, .inl f_8)), (h7, .inl (cI, 4, .inl f_10))] := hD
  refine lv_aload_n hx hb dX3_readFrom_70 rfl (lv_at hl 0 rfl) ?_
  refine lv_aload_n hx hb dX3_readFrom_71 rfl (lv_at hl 1 rfl) ?_
  refine lv_iload_n hx hb dX3_readFrom_72 rfl (lv_at hl 2 rfl) ?_
  refine lv_bipush (v := 25) hx hb dX3_readFrom_73 (by decide +kernel) ?_
  refine lv_iadd hx hb dX3_readFrom_75 ?_
  refine lv_topi (fun v_11 ev_11 => ?_)
  have gv_11 : v_11.toInt = x2.toInt + (25 : Int) := by
    have zx : (x2 : Int32).toInt = x2.toInt := rfl
    have zy : (25 : Int32).toInt = (25 : Int) := (by decide)
    rw [ev_11, i32_add (by rw [zx, zy]; omega) (by rw [zx, zy]; omega), zx, zy]
  refine xa_ildE hx hb hG hP 1 rfl (vp_in_iff.mpr ⟨by omega, by omega⟩) dX3_readFrom_76 (fun v_12 ev_12 => ?_)
  have o_13 : PT f11 (v_11.toInt) (v_12.toInt) := mk_pt ev_12
  refine va_put (D := D) (ci := 3) (v := .int v_12) (ty := .int) (C := RX3) (T := TX3) (N := 8) hx hb hts inX3 tyX3 tyX3_ok nmX3 hown hG.1 hP hD hS 0 rfl rfl 6 (by decide) (hts _ kw441) (fun _ h9 => h9) rfl (by decide +kernel) rfl rfl (Nat.le_of_ble_eq_true rfl) dX3_readFrom_77 (fun H locs hP hD hS => ?_)
  have hP : va_P D vwCl [(h0, .inr (3, [.ref h3, .ref h4, .ref h5, .ref h6, .ref h7, .ref h8, .int v_12, .int x10])), (h1, .inl (cI, 81, .inl f11)), (h3, .inr (8, [.int x12, .int x13, .int x14, .ref h15, .ref h16, .ref h17, .ref h18, .ref h19, .ref h20, .ref h21, .ref h22, .ref h23, .ref h24, .int x25, .int x26, .int x27, .int x28, .int x29])), (h4, .inl (cI, 7, .inl f_3)), (h5, .inl (cI, 7, .inl f_6)), (h6, .inl (cI, 7, .inl f_8)), (h7, .inl (cI, 4, .inl f_10))] H := hP
  have hD : va_D A [(h0, .inr (3, [.ref h3, .ref h4, .ref h5, .ref h6, .ref h7, .ref h8, .int v_12, .int x10])), (h1, .inl (cI, 81, .inl f11)), (h3, .inr (8, [.int x12, .int x13, .int x14, .ref h15, .ref h16, .ref h17, .ref h18, .ref h19, .ref h20, .ref h21, .ref h22, .ref h23, .ref h24, .int x25, .int x26, .int x27, .int x28, .int x29])), (h4, .inl (cI, 7, .inl f_3)), (h5, .inl (cI, 7, .inl f_6)), (h6, .inl (cI, 7, .inl f_8)), (h7, .inl (cI, 4, .inl f_10))] := hD
  refine lv_aload_n hx hb dX3_readFrom_80 rfl (lv_at hl 0 rfl) ?_
  refine lv_aload_n hx hb dX3_readFrom_81 rfl (lv_at hl 1 rfl) ?_
  refine lv_iload_n hx hb dX3_readFrom_82 rfl (lv_at hl 2 rfl) ?_
  refine lv_bipush (v := 25) hx hb dX3_readFrom_83 (by decide +kernel) ?_
  refine lv_iadd hx hb dX3_readFrom_85 ?_
  refine lv_topi (fun v_14 ev_14 => ?_)
  have gv_14 : v_14.toInt = x2.toInt + (25 : Int) := by
    have zx : (x2 : Int32).toInt = x2.toInt := rfl
    have zy : (25 : Int32).toInt = (25 : Int) := (by decide)
    rw [ev_14, i32_add (by rw [zx, zy]; omega) (by rw [zx, zy]; omega), zx, zy]
  refine lv_iconst (v := 1) hx hb dX3_readFrom_86 (by decide +kernel) ?_
  refine lv_iadd hx hb dX3_readFrom_87 ?_
  refine lv_topi (fun v_15 ev_15 => ?_)
  have gv_15 : v_15.toInt = v_14.toInt + (1 : Int) := by
    have zx : (v_14 : Int32).toInt = v_14.toInt := rfl
    have zy : (1 : Int32).toInt = (1 : Int) := (by decide)
    rw [ev_15, i32_add (by rw [zx, zy]; omega) (by rw [zx, zy]; omega), zx, zy]
  refine xa_ildE hx hb hG hP 1 rfl (vp_in_iff.mpr ⟨by omega, by omega⟩) dX3_readFrom_88 (fun v_16 ev_16 => ?_)
  have o_17 : PT f11 (v_15.toInt) (v_16.toInt) := mk_pt ev_16
  have g_18 := rf_seed go0 ev_16 (by omega) (by omega)
  refine va_put (D := D) (ci := 3) (v := .int v_16) (ty := .int) (C := RX3) (T := TX3) (N := 8) hx hb hts inX3 tyX3 tyX3_ok nmX3 hown hG.1 hP hD hS 0 rfl rfl 7 (by decide) (hts _ kw443) (fun _ h9 => h9) rfl (by decide +kernel) rfl rfl (Nat.le_of_ble_eq_true rfl) dX3_readFrom_89 (fun H locs hP hD hS => ?_)
  have hP : va_P D vwCl [(h0, .inr (3, [.ref h3, .ref h4, .ref h5, .ref h6, .ref h7, .ref h8, .int v_12, .int v_16])), (h1, .inl (cI, 81, .inl f11)), (h3, .inr (8, [.int x12, .int x13, .int x14, .ref h15, .ref h16, .ref h17, .ref h18, .ref h19, .ref h20, .ref h21, .ref h22, .ref h23, .ref h24, .int x25, .int x26, .int x27, .int x28, .int x29])), (h4, .inl (cI, 7, .inl f_3)), (h5, .inl (cI, 7, .inl f_6)), (h6, .inl (cI, 7, .inl f_8)), (h7, .inl (cI, 4, .inl f_10))] H := hP
  have hD : va_D A [(h0, .inr (3, [.ref h3, .ref h4, .ref h5, .ref h6, .ref h7, .ref h8, .int v_12, .int v_16])), (h1, .inl (cI, 81, .inl f11)), (h3, .inr (8, [.int x12, .int x13, .int x14, .ref h15, .ref h16, .ref h17, .ref h18, .ref h19, .ref h20, .ref h21, .ref h22, .ref h23, .ref h24, .int x25, .int x26, .int x27, .int x28, .int x29])), (h4, .inl (cI, 7, .inl f_3)), (h5, .inl (cI, 7, .inl f_6)), (h6, .inl (cI, 7, .inl f_8)), (h7, .inl (cI, 4, .inl f_10))] := hD
  have hP9 := hP.sub (ws' := [(h0, .inr (3, [.ref h3, .ref h4, .ref h5, .ref h6, .ref h7, .ref h8, .int v_12, .int v_16])), (h1, .inl (cI, 81, .inl f11)), (h3, .inr (8, [.int x12, .int x13, .int x14, .ref h15, .ref h16, .ref h17, .ref h18, .ref h19, .ref h20, .ref h21, .ref h22, .ref h23, .ref h24, .int x25, .int x26, .int x27, .int x28, .int x29])), (h4, .inl (cI, 7, .inl f_3)), (h5, .inl (cI, 7, .inl f_6)), (h6, .inl (cI, 7, .inl f_8)), (h7, .inl (cI, 4, .inl f_10))]) [0, 1, 2, 3, 4, 5, 6] rfl
  have hD9 := hD.sub (ws' := [(h0, .inr (3, [.ref h3, .ref h4, .ref h5, .ref h6, .ref h7, .ref h8, .int v_12, .int v_16])), (h1, .inl (cI, 81, .inl f11)), (h3, .inr (8, [.int x12, .int x13, .int x14, .ref h15, .ref h16, .ref h17, .ref h18, .ref h19, .ref h20, .ref h21, .ref h22, .ref h23, .ref h24, .int x25, .int x26, .int x27, .int x28, .int x29])), (h4, .inl (cI, 7, .inl f_3)), (h5, .inl (cI, 7, .inl f_6)), (h6, .inl (cI, 7, .inl f_8)), (h7, .inl (cI, 4, .inl f_10))]) [0, 1, 2, 3, 4, 5, 6] (by decide) rfl
  exact xr_v (rm := (rmL 1 0 0)) hx hb hr hlocks hAe hS hP9 hD9 (Nat.le_of_ble_eq_true rfl) (Nat.le_of_ble_eq_true rfl) dX3_readFrom_92 ⟨v_12, v_16, f_3, f_6, f_8, f_10, by omega, by omega, a_4.mono (by omega) (by omega) (by omega), rfl, rfl⟩
theorem dX2_keep_0 : decode cX2_keep 0 = .ok (.aload_n 0, 1) := by decide +kernel
theorem dX2_keep_1 : decode cX2_keep 1 = .ok (.getfield 19, 3) := by decide +kernel
theorem dX2_keep_4 : decode cX2_keep 4 = .ok (.bipush 40, 2) := by decide +kernel
theorem dX2_keep_6 : decode cX2_keep 6 = .ok (.if_icmp .lt 22, 3) := by decide +kernel
theorem dX2_keep_28 : decode cX2_keep 28 = .ok (.aload_n 1, 1) := by decide +kernel
theorem dX2_keep_29 : decode cX2_keep 29 = .ok (.aload_n 0, 1) := by decide +kernel
theorem kw468 : (.fieldLink RX2 11 "SpiceSwaps$History" "rows" "[I" : Cond) ∈ gT := gT_of 468 (by decide +kernel) (by decide +kernel)
theorem dX2_keep_30 : decode cX2_keep 30 = .ok (.getfield 11, 3) := by decide +kernel
theorem dX2_keep_33 : decode cX2_keep 33 = .ok (.aload_n 0, 1) := by decide +kernel
theorem dX2_keep_34 : decode cX2_keep 34 = .ok (.aload_n 0, 1) := by decide +kernel
theorem dX2_keep_35 : decode cX2_keep 35 = .ok (.getfield 19, 3) := by decide +kernel
theorem kw953 : (.methodLink RX2 25 yX2_rowAt : Cond) ∈ gT := gT_of 953 (by decide +kernel) (by decide +kernel)
theorem kw956 : (.code yX2_rowAt cX2_rowAt 2 (some .int) : Cond) ∈ gT := gT_of 956 (by decide +kernel) (by decide +kernel)
theorem kw955 : (.instanceMethod yX2_rowAt : Cond) ∈ gT := gT_of 955 (by decide +kernel) (by decide +kernel)
theorem kw25 : (.selects RX2 yX2_rowAt yX2_rowAt : Cond) ∈ gT := gT_of 25 (by decide +kernel) (by decide +kernel)
theorem kw123 : (.initialized RX2 : Cond) ∈ gT := gT_of 123 (by decide +kernel) (by decide +kernel)
theorem dX2_keep_38 : decode cX2_keep 38 = .ok (.invokevirtual 25, 3) := by decide +kernel
theorem kw957 : (.methodLink RX2 29 yX3_writeTo : Cond) ∈ gT := gT_of 957 (by decide +kernel) (by decide +kernel)
theorem kw960 : (.code yX3_writeTo cX3_writeTo 3 none : Cond) ∈ gT := gT_of 960 (by decide +kernel) (by decide +kernel)
theorem kw958 : (.instanceMethod yX3_writeTo : Cond) ∈ gT := gT_of 958 (by decide +kernel) (by decide +kernel)
theorem kw959 : (.selects RX3 yX3_writeTo yX3_writeTo : Cond) ∈ gT := gT_of 959 (by decide +kernel) (by decide +kernel)
theorem dX2_keep_41 : decode cX2_keep 41 = .ok (.invokevirtual 29, 3) := by decide +kernel
theorem dX2_keep_44 : decode cX2_keep 44 = .ok (.aload_n 0, 1) := by decide +kernel
theorem dX2_keep_45 : decode cX2_keep 45 = .ok (.dup, 1) := by decide +kernel
theorem dX2_keep_46 : decode cX2_keep 46 = .ok (.getfield 19, 3) := by decide +kernel
theorem dX2_keep_49 : decode cX2_keep 49 = .ok (.iconst 1, 1) := by decide +kernel
theorem dX2_keep_50 : decode cX2_keep 50 = .ok (.iadd, 1) := by decide +kernel
theorem dX2_keep_51 : decode cX2_keep 51 = .ok (.putfield 19, 3) := by decide +kernel
theorem dX2_keep_54 : decode cX2_keep 54 = .ok (.aload_n 0, 1) := by decide +kernel
theorem dX2_keep_55 : decode cX2_keep 55 = .ok (.iconst 0, 1) := by decide +kernel
theorem dX2_keep_56 : decode cX2_keep 56 = .ok (.putfield 22, 3) := by decide +kernel
theorem dX2_keep_59 : decode cX2_keep 59 = .ok (.return_, 1) := by decide +kernel
theorem dX2_keep_9 : decode cX2_keep 9 = .ok (.aload_n 0, 1) := by decide +kernel
theorem dX2_keep_10 : decode cX2_keep 10 = .ok (.aload_n 0, 1) := by decide +kernel
theorem dX2_keep_11 : decode cX2_keep 11 = .ok (.getfield 15, 3) := by decide +kernel
theorem dX2_keep_14 : decode cX2_keep 14 = .ok (.iconst 1, 1) := by decide +kernel
theorem dX2_keep_15 : decode cX2_keep 15 = .ok (.iadd, 1) := by decide +kernel
theorem dX2_keep_16 : decode cX2_keep 16 = .ok (.bipush 41, 2) := by decide +kernel
theorem dX2_keep_18 : decode cX2_keep 18 = .ok (.irem, 1) := by decide +kernel
theorem dX2_keep_19 : decode cX2_keep 19 = .ok (.putfield 15, 3) := by decide +kernel
theorem dX2_keep_22 : decode cX2_keep 22 = .ok (.aload_n 0, 1) := by decide +kernel
theorem dX2_keep_23 : decode cX2_keep 23 = .ok (.bipush 39, 2) := by decide +kernel
theorem dX2_keep_25 : decode cX2_keep 25 = .ok (.putfield 19, 3) := by decide +kernel
set_option maxHeartbeats 4000000 in
set_option maxRecDepth 100000 in
theorem sX2_keep_1 (l : Launch) (D : va_G) (cB cI cJ cZ : ClassId) (aK aV : Nat → Nat) (h0 : Nat) (h1 : Nat) (h2 : Nat) (x3 : Int32) (x4 : Int32) (x5 : Int32) (f6 : Nat → Int32) (h7 : Nat) (h8 : Nat) (h9 : Nat) (h10 : Nat) (h11 : Nat) (h12 : Nat) (x13 : Int32) (x14 : Int32) (x15 : Int32) (x16 : Int32) (x17 : Int32) (h18 : Nat) (h19 : Nat) (h20 : Nat) (h21 : Nat) (h22 : Nat) (h23 : Nat) (h24 : Nat) (h25 : Nat) (h26 : Nat) (h27 : Nat) (x28 : Int32) (x29 : Int32) (x30 : Int32) (x31 : Int32) (x32 : Int32) (f33 : Nat → Int32) (f34 : Nat → Int32) (f35 : Nat → Int32) (f36 : Nat → Int32) (gh0 : 0 ≤ x3.toInt) (gh1 : 0 ≤ -x3.toInt + 40) (gh2 : 0 ≤ x4.toInt) (gh3 : 0 ≤ -x4.toInt + 40) (gh4 : 0 ≤ x5.toInt) (gh5 : 0 ≤ -x5.toInt + 40) (gh6 : 0 ≤ x14.toInt) (gh7 : 0 ≤ -x14.toInt + 999) (gh8 : 0 ≤ x15.toInt) (gh9 : 0 ≤ -x15.toInt + 4) (gh10 : 0 ≤ x16.toInt) (gh11 : 0 ≤ -x16.toInt + 3) (gh12 : 0 ≤ x17.toInt) (gh13 : 0 ≤ -x17.toInt + 7) (gh14 : 0 ≤ x31.toInt + 1) (gh15 : 0 ≤ -x31.toInt + 999) (gh16 : 0 ≤ -x4.toInt - x5.toInt + 40) (ga0 : AR f33 (0) (3) (x17.toInt)) (go0 : HL f6 (x3.toInt) (x4.toInt) (x5.toInt) (x17.toInt)) : MX l yX2_keep cX2_keep 2 none (rmL 2 0 0) D cB cI cJ cZ aK aV [.ref h0, .ref h1] [(h0, .inr (2, [.ref h2, .int x3, .int x4, .int x5])), (h2, .inl (cI, 1107, .inl f6)), (h1, .inr (3, [.ref h7, .ref h8, .ref h9, .ref h10, .ref h11, .ref h12, .int x13, .int x14])), (h7, .inr (8, [.int x15, .int x16, .int x17, .ref h18, .ref h19, .ref h20, .ref h21, .ref h22, .ref h23, .ref h24, .ref h25, .ref h26, .ref h27, .int x28, .int x29, .int x30, .int x31, .int x32])), (h8, .inl (cI, 7, .inl f33)), (h9, .inl (cI, 7, .inl f34)), (h10, .inl (cI, 7, .inl f35)), (h11, .inl (cI, 4, .inl f36))] (fun r w1 => ∃ z1 : Int32, ∃ z2 : Int32, ∃ z3 : Nat → Int32, 0 ≤ z1.toInt ∧ 0 ≤ -z1.toInt + 40 ∧ 0 ≤ z2.toInt ∧ 0 ≤ -z2.toInt + 40 ∧ 0 ≤ -z2.toInt + 40 ∧ HL z3 (z1.toInt) (z2.toInt) (0) (x17.toInt) ∧ r = none ∧ w1 = [(h0, .inr (2, [.ref h2, .int z1, .int z2, .int 0])), (h2, .inl (cI, 1107, .inl z3)), (h1, .inr (3, [.ref h7, .ref h8, .ref h9, .ref h10, .ref h11, .ref h12, .int x13, .int x14])), (h7, .inr (8, [.int x15, .int x16, .int x17, .ref h18, .ref h19, .ref h20, .ref h21, .ref h22, .ref h23, .ref h24, .ref h25, .ref h26, .ref h27, .int x28, .int x29, .int x30, .int x31, .int x32])), (h8, .inl (cI, 7, .inl f33)), (h9, .inl (cI, 7, .inl f34)), (h10, .inl (cI, 7, .inl f35)), (h11, .inl (cI, 4, .inl f36))]) := by
  refine MX.intro (by decide) (Nat.le_of_ble_eq_true rfl) ?_
  intro p e s m below meth c A ls hx hb hr hml hown hlocks hnm hts hG hE hA hS hP hD hl hAe
  have hl : lv_has ls 2 [(0, .ref h0), (1, .ref h1)] := hl
  have hown : s.vm.findClass RX2 = some m.cls := hown
  refine lv_aload_n hx hb dX2_keep_0 rfl (lv_at hl 0 rfl) ?_
  refine va_get (D := D) (ci := 2) (v := .int x4) (C := RX2) (T := TX2) (N := 4) hx hb hts inX2 hown hG.1 hP 0 rfl rfl 2 (by decide) (hts _ kw470) (fun _ h9 => h9) rfl dX2_keep_1 ?_
  refine lv_bipush (v := 40) hx hb dX2_keep_4 (by decide +kernel) ?_
  refine lv_icmp_lt (tgt := 28) hx hb dX2_keep_6 (by decide) (fun c_1 => ?_) (fun c_1 => ?_)
  · have fc_1 : x4.toInt < (40 : Int) := i_lt rfl (by decide) c_1
    refine lv_aload_n hx hb dX2_keep_28 rfl (lv_at hl 1 rfl) ?_
    refine lv_aload_n hx hb dX2_keep_29 rfl (lv_at hl 0 rfl) ?_
    refine va_get (D := D) (ci := 2) (v := .ref h2) (C := RX2) (T := TX2) (N := 4) hx hb hts inX2 hown hG.1 hP 0 rfl rfl 0 (by decide) (hts _ kw468) (fun _ h9 => h9) rfl dX2_keep_30 ?_
    refine lv_aload_n hx hb dX2_keep_33 rfl (lv_at hl 0 rfl) ?_
    refine lv_aload_n hx hb dX2_keep_34 rfl (lv_at hl 0 rfl) ?_
    refine va_get (D := D) (ci := 2) (v := .int x4) (C := RX2) (T := TX2) (N := 4) hx hb hts inX2 hown hG.1 hP 0 rfl rfl 2 (by decide) (hts _ kw470) (fun _ h9 => h9) rfl dX2_keep_35 ?_
    refine xc_core (wr := [(h2, .inl (cI, 1107, .inl f6)), (h1, .inr (3, [.ref h7, .ref h8, .ref h9, .ref h10, .ref h11, .ref h12, .int x13, .int x14])), (h7, .inr (8, [.int x15, .int x16, .int x17, .ref h18, .ref h19, .ref h20, .ref h21, .ref h22, .ref h23, .ref h24, .ref h25, .ref h26, .ref h27, .int x28, .int x29, .int x30, .int x31, .int x32])), (h8, .inl (cI, 7, .inl f33)), (h9, .inl (cI, 7, .inl f34)), (h10, .inl (cI, 7, .inl f35)), (h11, .inl (cI, 4, .inl f36))]) (k := 0) (n := 0) (xc_runV (As := [.int x4]) (rest := [.ref h2, .ref h1]) hx hb hml hown hts hG hE hP hD hS hA [0] (by decide) rfl (sX2_rowAt_2 l D cB cI cJ cZ aK aV h0 x4 h2 x3 x4 x5 (by omega) (by omega) (by omega) (by omega) (by omega) (by omega) (by omega) (by omega) (by omega)) kw956 kw953 kw955 kw25 kw123 (show XD yX2_rowAt 1 from by decide +kernel) (by decide) rfl rfl 0 rfl hl.1 rfl (Nat.le_of_ble_eq_true rfl) dX2_keep_38 (by decide)) hP hD hS hA [0] [1, 2, 3, 4, 5, 6, 7] rfl rfl (by decide) (by decide) (Nat.le_of_ble_eq_true rfl) (Nat.le_of_ble_eq_true rfl) (fun r w1 H locs hpost hP hD hS => ?_)
    obtain ⟨v_2, g_3, g_4, o_5, rfl, rfl⟩ := hpost
    have hP : va_P D vwCl [(h2, .inl (cI, 1107, .inl f6)), (h1, .inr (3, [.ref h7, .ref h8, .ref h9, .ref h10, .ref h11, .ref h12, .int x13, .int x14])), (h7, .inr (8, [.int x15, .int x16, .int x17, .ref h18, .ref h19, .ref h20, .ref h21, .ref h22, .ref h23, .ref h24, .ref h25, .ref h26, .ref h27, .int x28, .int x29, .int x30, .int x31, .int x32])), (h8, .inl (cI, 7, .inl f33)), (h9, .inl (cI, 7, .inl f34)), (h10, .inl (cI, 7, .inl f35)), (h11, .inl (cI, 4, .inl f36)), (h0, .inr (2, [.ref h2, .int x3, .int x4, .int x5]))] H := hP
    have hD : va_D A [(h2, .inl (cI, 1107, .inl f6)), (h1, .inr (3, [.ref h7, .ref h8, .ref h9, .ref h10, .ref h11, .ref h12, .int x13, .int x14])), (h7, .inr (8, [.int x15, .int x16, .int x17, .ref h18, .ref h19, .ref h20, .ref h21, .ref h22, .ref h23, .ref h24, .ref h25, .ref h26, .ref h27, .int x28, .int x29, .int x30, .int x31, .int x32])), (h8, .inl (cI, 7, .inl f33)), (h9, .inl (cI, 7, .inl f34)), (h10, .inl (cI, 7, .inl f35)), (h11, .inl (cI, 4, .inl f36)), (h0, .inr (2, [.ref h2, .int x3, .int x4, .int x5]))] := hD
    refine xc_core (wr := [(h0, .inr (2, [.ref h2, .int x3, .int x4, .int x5]))]) (k := 0) (n := 0) (xc_runV (As := [.ref h2, .int v_2]) (rest := []) hx hb hml hown hts hG hE hP hD hS hA [1, 0, 2, 3, 4, 5, 6] (by decide) rfl (sX3_writeTo_1 l D cB cI cJ cZ aK aV h1 h2 v_2 h7 h8 h9 h10 h11 h12 x13 x14 f6 f33 x15 x16 x17 h18 h19 h20 h21 h22 h23 h24 h25 h26 h27 x28 x29 x30 x31 x32 f34 f35 f36 (by omega) (by omega) (by omega) (by omega) (by omega) (by omega) (by omega) (by omega) (by omega) (by omega) (by omega) (by omega) (ga0.mono (by omega) (by omega) (by omega))) kw960 kw957 kw958 kw959 kw121 (show XD yX3_writeTo 2 from by decide +kernel) (by decide) rfl rfl 1 rfl hl.1 rfl (Nat.le_of_ble_eq_true rfl) dX2_keep_41 (by decide)) hP hD hS hA [1, 0, 2, 3, 4, 5, 6] [7] rfl rfl (by decide) (by decide) (Nat.le_of_ble_eq_true rfl) (Nat.le_of_ble_eq_true rfl) (fun r w1 H locs hpost hP hD hS => ?_)
    obtain ⟨f_6, o_7, rfl, rfl⟩ := hpost
    have hP : va_P D vwCl [(h0, .inr (2, [.ref h2, .int x3, .int x4, .int x5])), (h1, .inr (3, [.ref h7, .ref h8, .ref h9, .ref h10, .ref h11, .ref h12, .int x13, .int x14])), (h2, .inl (cI, 1107, .inl f_6)), (h7, .inr (8, [.int x15, .int x16, .int x17, .ref h18, .ref h19, .ref h20, .ref h21, .ref h22, .ref h23, .ref h24, .ref h25, .ref h26, .ref h27, .int x28, .int x29, .int x30, .int x31, .int x32])), (h8, .inl (cI, 7, .inl f33)), (h9, .inl (cI, 7, .inl f34)), (h10, .inl (cI, 7, .inl f35)), (h11, .inl (cI, 4, .inl f36))] H := hP
    have hD : va_D A [(h0, .inr (2, [.ref h2, .int x3, .int x4, .int x5])), (h1, .inr (3, [.ref h7, .ref h8, .ref h9, .ref h10, .ref h11, .ref h12, .int x13, .int x14])), (h2, .inl (cI, 1107, .inl f_6)), (h7, .inr (8, [.int x15, .int x16, .int x17, .ref h18, .ref h19, .ref h20, .ref h21, .ref h22, .ref h23, .ref h24, .ref h25, .ref h26, .ref h27, .int x28, .int x29, .int x30, .int x31, .int x32])), (h8, .inl (cI, 7, .inl f33)), (h9, .inl (cI, 7, .inl f34)), (h10, .inl (cI, 7, .inl f35)), (h11, .inl (cI, 4, .inl f36))] := hD
    refine lv_aload_n hx hb dX2_keep_44 rfl (lv_at hl 0 rfl) ?_
    refine lv_dup hx hb dX2_keep_45 rfl ?_
    refine va_get (D := D) (ci := 2) (v := .int x4) (C := RX2) (T := TX2) (N := 4) hx hb hts inX2 hown hG.1 hP 0 rfl rfl 2 (by decide) (hts _ kw470) (fun _ h9 => h9) rfl dX2_keep_46 ?_
    refine lv_iconst (v := 1) hx hb dX2_keep_49 (by decide +kernel) ?_
    refine lv_iadd hx hb dX2_keep_50 ?_
    refine lv_topi (fun v_8 ev_8 => ?_)
    have gv_8 : v_8.toInt = x4.toInt + (1 : Int) := by
      have zx : (x4 : Int32).toInt = x4.toInt := rfl
      have zy : (1 : Int32).toInt = (1 : Int) := (by decide)
      rw [ev_8, i32_add (by rw [zx, zy]; omega) (by rw [zx, zy]; omega), zx, zy]
    refine va_put (D := D) (ci := 2) (v := .int v_8) (ty := .int) (C := RX2) (T := TX2) (N := 4) hx hb hts inX2 tyX2 tyX2_ok nmX2 hown hG.1 hP hD hS 0 rfl rfl 2 (by decide) (hts _ kw470) (fun _ h9 => h9) rfl (by decide +kernel) rfl rfl (Nat.le_of_ble_eq_true rfl) dX2_keep_51 (fun H locs hP hD hS => ?_)
    have hP : va_P D vwCl [(h0, .inr (2, [.ref h2, .int x3, .int v_8, .int x5])), (h1, .inr (3, [.ref h7, .ref h8, .ref h9, .ref h10, .ref h11, .ref h12, .int x13, .int x14])), (h2, .inl (cI, 1107, .inl f_6)), (h7, .inr (8, [.int x15, .int x16, .int x17, .ref h18, .ref h19, .ref h20, .ref h21, .ref h22, .ref h23, .ref h24, .ref h25, .ref h26, .ref h27, .int x28, .int x29, .int x30, .int x31, .int x32])), (h8, .inl (cI, 7, .inl f33)), (h9, .inl (cI, 7, .inl f34)), (h10, .inl (cI, 7, .inl f35)), (h11, .inl (cI, 4, .inl f36))] H := hP
    have hD : va_D A [(h0, .inr (2, [.ref h2, .int x3, .int v_8, .int x5])), (h1, .inr (3, [.ref h7, .ref h8, .ref h9, .ref h10, .ref h11, .ref h12, .int x13, .int x14])), (h2, .inl (cI, 1107, .inl f_6)), (h7, .inr (8, [.int x15, .int x16, .int x17, .ref h18, .ref h19, .ref h20, .ref h21, .ref h22, .ref h23, .ref h24, .ref h25, .ref h26, .ref h27, .int x28, .int x29, .int x30, .int x31, .int x32])), (h8, .inl (cI, 7, .inl f33)), (h9, .inl (cI, 7, .inl f34)), (h10, .inl (cI, 7, .inl f35)), (h11, .inl (cI, 4, .inl f36))] := hD
    refine lv_aload_n hx hb dX2_keep_54 rfl (lv_at hl 0 rfl) ?_
    refine lv_iconst (v := 0) hx hb dX2_keep_55 (by decide +kernel) ?_
    refine va_put (D := D) (ci := 2) (v := .int 0) (ty := .int) (C := RX2) (T := TX2) (N := 4) hx hb hts inX2 tyX2 tyX2_ok nmX2 hown hG.1 hP hD hS 0 rfl rfl 3 (by decide) (hts _ kw472) (fun _ h9 => h9) rfl (by decide +kernel) rfl rfl (Nat.le_of_ble_eq_true rfl) dX2_keep_56 (fun H locs hP hD hS => ?_)
    have hP : va_P D vwCl [(h0, .inr (2, [.ref h2, .int x3, .int v_8, .int 0])), (h1, .inr (3, [.ref h7, .ref h8, .ref h9, .ref h10, .ref h11, .ref h12, .int x13, .int x14])), (h2, .inl (cI, 1107, .inl f_6)), (h7, .inr (8, [.int x15, .int x16, .int x17, .ref h18, .ref h19, .ref h20, .ref h21, .ref h22, .ref h23, .ref h24, .ref h25, .ref h26, .ref h27, .int x28, .int x29, .int x30, .int x31, .int x32])), (h8, .inl (cI, 7, .inl f33)), (h9, .inl (cI, 7, .inl f34)), (h10, .inl (cI, 7, .inl f35)), (h11, .inl (cI, 4, .inl f36))] H := hP
    have hD : va_D A [(h0, .inr (2, [.ref h2, .int x3, .int v_8, .int 0])), (h1, .inr (3, [.ref h7, .ref h8, .ref h9, .ref h10, .ref h11, .ref h12, .int x13, .int x14])), (h2, .inl (cI, 1107, .inl f_6)), (h7, .inr (8, [.int x15, .int x16, .int x17, .ref h18, .ref h19, .ref h20, .ref h21, .ref h22, .ref h23, .ref h24, .ref h25, .ref h26, .ref h27, .int x28, .int x29, .int x30, .int x31, .int x32])), (h8, .inl (cI, 7, .inl f33)), (h9, .inl (cI, 7, .inl f34)), (h10, .inl (cI, 7, .inl f35)), (h11, .inl (cI, 4, .inl f36))] := hD
    have o_9 : HL f_6 (x3.toInt) (x4.toInt + 1) (0) (x17.toInt) := hl_keep go0 o_7 o_5 (by omega) (by omega) (by omega) (by omega)
    have hP9 := hP.sub (ws' := [(h0, .inr (2, [.ref h2, .int x3, .int v_8, .int 0])), (h2, .inl (cI, 1107, .inl f_6)), (h1, .inr (3, [.ref h7, .ref h8, .ref h9, .ref h10, .ref h11, .ref h12, .int x13, .int x14])), (h7, .inr (8, [.int x15, .int x16, .int x17, .ref h18, .ref h19, .ref h20, .ref h21, .ref h22, .ref h23, .ref h24, .ref h25, .ref h26, .ref h27, .int x28, .int x29, .int x30, .int x31, .int x32])), (h8, .inl (cI, 7, .inl f33)), (h9, .inl (cI, 7, .inl f34)), (h10, .inl (cI, 7, .inl f35)), (h11, .inl (cI, 4, .inl f36))]) [0, 2, 1, 3, 4, 5, 6, 7] rfl
    have hD9 := hD.sub (ws' := [(h0, .inr (2, [.ref h2, .int x3, .int v_8, .int 0])), (h2, .inl (cI, 1107, .inl f_6)), (h1, .inr (3, [.ref h7, .ref h8, .ref h9, .ref h10, .ref h11, .ref h12, .int x13, .int x14])), (h7, .inr (8, [.int x15, .int x16, .int x17, .ref h18, .ref h19, .ref h20, .ref h21, .ref h22, .ref h23, .ref h24, .ref h25, .ref h26, .ref h27, .int x28, .int x29, .int x30, .int x31, .int x32])), (h8, .inl (cI, 7, .inl f33)), (h9, .inl (cI, 7, .inl f34)), (h10, .inl (cI, 7, .inl f35)), (h11, .inl (cI, 4, .inl f36))]) [0, 2, 1, 3, 4, 5, 6, 7] (by decide) rfl
    exact xr_v (rm := (rmL 2 0 0)) hx hb hr hlocks hAe hS hP9 hD9 (Nat.le_of_ble_eq_true rfl) (Nat.le_of_ble_eq_true rfl) dX2_keep_59 ⟨x3, v_8, f_6, by omega, by omega, by omega, by omega, by omega, (HL.c o_9 (by omega) (by omega) (by omega) (by omega)), rfl, rfl⟩
  · have fc_1 : (40 : Int) ≤ x4.toInt := i_nlt rfl (by decide) c_1
    refine lv_aload_n hx hb dX2_keep_9 rfl (lv_at hl 0 rfl) ?_
    refine lv_aload_n hx hb dX2_keep_10 rfl (lv_at hl 0 rfl) ?_
    refine va_get (D := D) (ci := 2) (v := .int x3) (C := RX2) (T := TX2) (N := 4) hx hb hts inX2 hown hG.1 hP 0 rfl rfl 1 (by decide) (hts _ kw469) (fun _ h9 => h9) rfl dX2_keep_11 ?_
    refine lv_iconst (v := 1) hx hb dX2_keep_14 (by decide +kernel) ?_
    refine lv_iadd hx hb dX2_keep_15 ?_
    refine lv_topi (fun v_10 ev_10 => ?_)
    have gv_10 : v_10.toInt = x3.toInt + (1 : Int) := by
      have zx : (x3 : Int32).toInt = x3.toInt := rfl
      have zy : (1 : Int32).toInt = (1 : Int) := (by decide)
      rw [ev_10, i32_add (by rw [zx, zy]; omega) (by rw [zx, zy]; omega), zx, zy]
    refine lv_bipush (v := 41) hx hb dX2_keep_16 (by decide +kernel) ?_
    refine lv_irem hx hb dX2_keep_18 (by decide +kernel) ?_
    refine lv_topi (fun v_11 ev_11 => ?_)
    have mv_11 := i32_remE (b := (41 : Int)) (by decide) (by omega) (by omega) ev_11
    have gv_11 : 0 ≤ v_11.toInt ∧ v_11.toInt < (41 : Int) := by rw [ev_11]; exact i32_rem rfl (by decide) (by omega) (by omega)
    refine va_put (D := D) (ci := 2) (v := .int v_11) (ty := .int) (C := RX2) (T := TX2) (N := 4) hx hb hts inX2 tyX2 tyX2_ok nmX2 hown hG.1 hP hD hS 0 rfl rfl 1 (by decide) (hts _ kw469) (fun _ h9 => h9) rfl (by decide +kernel) rfl rfl (Nat.le_of_ble_eq_true rfl) dX2_keep_19 (fun H locs hP hD hS => ?_)
    have hP : va_P D vwCl [(h0, .inr (2, [.ref h2, .int v_11, .int x4, .int x5])), (h2, .inl (cI, 1107, .inl f6)), (h1, .inr (3, [.ref h7, .ref h8, .ref h9, .ref h10, .ref h11, .ref h12, .int x13, .int x14])), (h7, .inr (8, [.int x15, .int x16, .int x17, .ref h18, .ref h19, .ref h20, .ref h21, .ref h22, .ref h23, .ref h24, .ref h25, .ref h26, .ref h27, .int x28, .int x29, .int x30, .int x31, .int x32])), (h8, .inl (cI, 7, .inl f33)), (h9, .inl (cI, 7, .inl f34)), (h10, .inl (cI, 7, .inl f35)), (h11, .inl (cI, 4, .inl f36))] H := hP
    have hD : va_D A [(h0, .inr (2, [.ref h2, .int v_11, .int x4, .int x5])), (h2, .inl (cI, 1107, .inl f6)), (h1, .inr (3, [.ref h7, .ref h8, .ref h9, .ref h10, .ref h11, .ref h12, .int x13, .int x14])), (h7, .inr (8, [.int x15, .int x16, .int x17, .ref h18, .ref h19, .ref h20, .ref h21, .ref h22, .ref h23, .ref h24, .ref h25, .ref h26, .ref h27, .int x28, .int x29, .int x30, .int x31, .int x32])), (h8, .inl (cI, 7, .inl f33)), (h9, .inl (cI, 7, .inl f34)), (h10, .inl (cI, 7, .inl f35)), (h11, .inl (cI, 4, .inl f36))] := hD
    refine lv_aload_n hx hb dX2_keep_22 rfl (lv_at hl 0 rfl) ?_
    refine lv_bipush (v := 39) hx hb dX2_keep_23 (by decide +kernel) ?_
    refine va_put (D := D) (ci := 2) (v := .int 39) (ty := .int) (C := RX2) (T := TX2) (N := 4) hx hb hts inX2 tyX2 tyX2_ok nmX2 hown hG.1 hP hD hS 0 rfl rfl 2 (by decide) (hts _ kw470) (fun _ h9 => h9) rfl (by decide +kernel) rfl rfl (Nat.le_of_ble_eq_true rfl) dX2_keep_25 (fun H locs hP hD hS => ?_)
    have hP : va_P D vwCl [(h0, .inr (2, [.ref h2, .int v_11, .int 39, .int x5])), (h2, .inl (cI, 1107, .inl f6)), (h1, .inr (3, [.ref h7, .ref h8, .ref h9, .ref h10, .ref h11, .ref h12, .int x13, .int x14])), (h7, .inr (8, [.int x15, .int x16, .int x17, .ref h18, .ref h19, .ref h20, .ref h21, .ref h22, .ref h23, .ref h24, .ref h25, .ref h26, .ref h27, .int x28, .int x29, .int x30, .int x31, .int x32])), (h8, .inl (cI, 7, .inl f33)), (h9, .inl (cI, 7, .inl f34)), (h10, .inl (cI, 7, .inl f35)), (h11, .inl (cI, 4, .inl f36))] H := hP
    have hD : va_D A [(h0, .inr (2, [.ref h2, .int v_11, .int 39, .int x5])), (h2, .inl (cI, 1107, .inl f6)), (h1, .inr (3, [.ref h7, .ref h8, .ref h9, .ref h10, .ref h11, .ref h12, .int x13, .int x14])), (h7, .inr (8, [.int x15, .int x16, .int x17, .ref h18, .ref h19, .ref h20, .ref h21, .ref h22, .ref h23, .ref h24, .ref h25, .ref h26, .ref h27, .int x28, .int x29, .int x30, .int x31, .int x32])), (h8, .inl (cI, 7, .inl f33)), (h9, .inl (cI, 7, .inl f34)), (h10, .inl (cI, 7, .inl f35)), (h11, .inl (cI, 4, .inl f36))] := hD
    have o_12 : HL f6 (v_11.toInt) (39) (0) (x17.toInt) := hl_shift go0 (by omega) (by omega)
    refine lv_aload_n hx hb dX2_keep_28 rfl (lv_at hl 1 rfl) ?_
    refine lv_aload_n hx hb dX2_keep_29 rfl (lv_at hl 0 rfl) ?_
    refine va_get (D := D) (ci := 2) (v := .ref h2) (C := RX2) (T := TX2) (N := 4) hx hb hts inX2 hown hG.1 hP 0 rfl rfl 0 (by decide) (hts _ kw468) (fun _ h9 => h9) rfl dX2_keep_30 ?_
    refine lv_aload_n hx hb dX2_keep_33 rfl (lv_at hl 0 rfl) ?_
    refine lv_aload_n hx hb dX2_keep_34 rfl (lv_at hl 0 rfl) ?_
    refine va_get (D := D) (ci := 2) (v := .int 39) (C := RX2) (T := TX2) (N := 4) hx hb hts inX2 hown hG.1 hP 0 rfl rfl 2 (by decide) (hts _ kw470) (fun _ h9 => h9) rfl dX2_keep_35 ?_
    refine xc_core (wr := [(h2, .inl (cI, 1107, .inl f6)), (h1, .inr (3, [.ref h7, .ref h8, .ref h9, .ref h10, .ref h11, .ref h12, .int x13, .int x14])), (h7, .inr (8, [.int x15, .int x16, .int x17, .ref h18, .ref h19, .ref h20, .ref h21, .ref h22, .ref h23, .ref h24, .ref h25, .ref h26, .ref h27, .int x28, .int x29, .int x30, .int x31, .int x32])), (h8, .inl (cI, 7, .inl f33)), (h9, .inl (cI, 7, .inl f34)), (h10, .inl (cI, 7, .inl f35)), (h11, .inl (cI, 4, .inl f36))]) (k := 0) (n := 0) (xc_runV (As := [.int 39]) (rest := [.ref h2, .ref h1]) hx hb hml hown hts hG hE hP hD hS hA [0] (by decide) rfl (sX2_rowAt_2 l D cB cI cJ cZ aK aV h0 39 h2 v_11 39 x5 (by have zc39 : (39 : Int32).toInt = 39 := (by decide); omega) (by have zc39 : (39 : Int32).toInt = 39 := (by decide); omega) (by have zc39 : (39 : Int32).toInt = 39 := (by decide); omega) (by have zc39 : (39 : Int32).toInt = 39 := (by decide); omega) (by have zc39 : (39 : Int32).toInt = 39 := (by decide); omega) (by have zc39 : (39 : Int32).toInt = 39 := (by decide); omega) (by have zc39 : (39 : Int32).toInt = 39 := (by decide); omega) (by have zc39 : (39 : Int32).toInt = 39 := (by decide); omega) (by have zc39 : (39 : Int32).toInt = 39 := (by decide); omega)) kw956 kw953 kw955 kw25 kw123 (show XD yX2_rowAt 1 from by decide +kernel) (by decide) rfl rfl 0 rfl hl.1 rfl (Nat.le_of_ble_eq_true rfl) dX2_keep_38 (by decide)) hP hD hS hA [0] [1, 2, 3, 4, 5, 6, 7] rfl rfl (by decide) (by decide) (Nat.le_of_ble_eq_true rfl) (Nat.le_of_ble_eq_true rfl) (fun r w1 H locs hpost hP hD hS => ?_)
    obtain ⟨v_13, g_14, g_15, o_16, rfl, rfl⟩ := hpost
    have hP : va_P D vwCl [(h2, .inl (cI, 1107, .inl f6)), (h1, .inr (3, [.ref h7, .ref h8, .ref h9, .ref h10, .ref h11, .ref h12, .int x13, .int x14])), (h7, .inr (8, [.int x15, .int x16, .int x17, .ref h18, .ref h19, .ref h20, .ref h21, .ref h22, .ref h23, .ref h24, .ref h25, .ref h26, .ref h27, .int x28, .int x29, .int x30, .int x31, .int x32])), (h8, .inl (cI, 7, .inl f33)), (h9, .inl (cI, 7, .inl f34)), (h10, .inl (cI, 7, .inl f35)), (h11, .inl (cI, 4, .inl f36)), (h0, .inr (2, [.ref h2, .int v_11, .int 39, .int x5]))] H := hP
    have hD : va_D A [(h2, .inl (cI, 1107, .inl f6)), (h1, .inr (3, [.ref h7, .ref h8, .ref h9, .ref h10, .ref h11, .ref h12, .int x13, .int x14])), (h7, .inr (8, [.int x15, .int x16, .int x17, .ref h18, .ref h19, .ref h20, .ref h21, .ref h22, .ref h23, .ref h24, .ref h25, .ref h26, .ref h27, .int x28, .int x29, .int x30, .int x31, .int x32])), (h8, .inl (cI, 7, .inl f33)), (h9, .inl (cI, 7, .inl f34)), (h10, .inl (cI, 7, .inl f35)), (h11, .inl (cI, 4, .inl f36)), (h0, .inr (2, [.ref h2, .int v_11, .int 39, .int x5]))] := hD
    refine xc_core (wr := [(h0, .inr (2, [.ref h2, .int v_11, .int 39, .int x5]))]) (k := 0) (n := 0) (xc_runV (As := [.ref h2, .int v_13]) (rest := []) hx hb hml hown hts hG hE hP hD hS hA [1, 0, 2, 3, 4, 5, 6] (by decide) rfl (sX3_writeTo_1 l D cB cI cJ cZ aK aV h1 h2 v_13 h7 h8 h9 h10 h11 h12 x13 x14 f6 f33 x15 x16 x17 h18 h19 h20 h21 h22 h23 h24 h25 h26 h27 x28 x29 x30 x31 x32 f34 f35 f36 (by omega) (by omega) (by omega) (by omega) (by omega) (by omega) (by omega) (by omega) (by omega) (by omega) (by omega) (by omega) (ga0.mono (by omega) (by omega) (by omega))) kw960 kw957 kw958 kw959 kw121 (show XD yX3_writeTo 2 from by decide +kernel) (by decide) rfl rfl 1 rfl hl.1 rfl (Nat.le_of_ble_eq_true rfl) dX2_keep_41 (by decide)) hP hD hS hA [1, 0, 2, 3, 4, 5, 6] [7] rfl rfl (by decide) (by decide) (Nat.le_of_ble_eq_true rfl) (Nat.le_of_ble_eq_true rfl) (fun r w1 H locs hpost hP hD hS => ?_)
    obtain ⟨f_17, o_18, rfl, rfl⟩ := hpost
    have hP : va_P D vwCl [(h0, .inr (2, [.ref h2, .int v_11, .int 39, .int x5])), (h1, .inr (3, [.ref h7, .ref h8, .ref h9, .ref h10, .ref h11, .ref h12, .int x13, .int x14])), (h2, .inl (cI, 1107, .inl f_17)), (h7, .inr (8, [.int x15, .int x16, .int x17, .ref h18, .ref h19, .ref h20, .ref h21, .ref h22, .ref h23, .ref h24, .ref h25, .ref h26, .ref h27, .int x28, .int x29, .int x30, .int x31, .int x32])), (h8, .inl (cI, 7, .inl f33)), (h9, .inl (cI, 7, .inl f34)), (h10, .inl (cI, 7, .inl f35)), (h11, .inl (cI, 4, .inl f36))] H := hP
    have hD : va_D A [(h0, .inr (2, [.ref h2, .int v_11, .int 39, .int x5])), (h1, .inr (3, [.ref h7, .ref h8, .ref h9, .ref h10, .ref h11, .ref h12, .int x13, .int x14])), (h2, .inl (cI, 1107, .inl f_17)), (h7, .inr (8, [.int x15, .int x16, .int x17, .ref h18, .ref h19, .ref h20, .ref h21, .ref h22, .ref h23, .ref h24, .ref h25, .ref h26, .ref h27, .int x28, .int x29, .int x30, .int x31, .int x32])), (h8, .inl (cI, 7, .inl f33)), (h9, .inl (cI, 7, .inl f34)), (h10, .inl (cI, 7, .inl f35)), (h11, .inl (cI, 4, .inl f36))] := hD
    refine lv_aload_n hx hb dX2_keep_44 rfl (lv_at hl 0 rfl) ?_
    refine lv_dup hx hb dX2_keep_45 rfl ?_
    refine va_get (D := D) (ci := 2) (v := .int 39) (C := RX2) (T := TX2) (N := 4) hx hb hts inX2 hown hG.1 hP 0 rfl rfl 2 (by decide) (hts _ kw470) (fun _ h9 => h9) rfl dX2_keep_46 ?_
    refine lv_iconst (v := 1) hx hb dX2_keep_49 (by decide +kernel) ?_
    refine lv_iadd hx hb dX2_keep_50 ?_
    refine xt_i (v := 40) (by decide +kernel) ?_
    refine va_put (D := D) (ci := 2) (v := .int 40) (ty := .int) (C := RX2) (T := TX2) (N := 4) hx hb hts inX2 tyX2 tyX2_ok nmX2 hown hG.1 hP hD hS 0 rfl rfl 2 (by decide) (hts _ kw470) (fun _ h9 => h9) rfl (by decide +kernel) rfl rfl (Nat.le_of_ble_eq_true rfl) dX2_keep_51 (fun H locs hP hD hS => ?_)
    have hP : va_P D vwCl [(h0, .inr (2, [.ref h2, .int v_11, .int 40, .int x5])), (h1, .inr (3, [.ref h7, .ref h8, .ref h9, .ref h10, .ref h11, .ref h12, .int x13, .int x14])), (h2, .inl (cI, 1107, .inl f_17)), (h7, .inr (8, [.int x15, .int x16, .int x17, .ref h18, .ref h19, .ref h20, .ref h21, .ref h22, .ref h23, .ref h24, .ref h25, .ref h26, .ref h27, .int x28, .int x29, .int x30, .int x31, .int x32])), (h8, .inl (cI, 7, .inl f33)), (h9, .inl (cI, 7, .inl f34)), (h10, .inl (cI, 7, .inl f35)), (h11, .inl (cI, 4, .inl f36))] H := hP
    have hD : va_D A [(h0, .inr (2, [.ref h2, .int v_11, .int 40, .int x5])), (h1, .inr (3, [.ref h7, .ref h8, .ref h9, .ref h10, .ref h11, .ref h12, .int x13, .int x14])), (h2, .inl (cI, 1107, .inl f_17)), (h7, .inr (8, [.int x15, .int x16, .int x17, .ref h18, .ref h19, .ref h20, .ref h21, .ref h22, .ref h23, .ref h24, .ref h25, .ref h26, .ref h27, .int x28, .int x29, .int x30, .int x31, .int x32])), (h8, .inl (cI, 7, .inl f33)), (h9, .inl (cI, 7, .inl f34)), (h10, .inl (cI, 7, .inl f35)), (h11, .inl (cI, 4, .inl f36))] := hD
    refine lv_aload_n hx hb dX2_keep_54 rfl (lv_at hl 0 rfl) ?_
    refine lv_iconst (v := 0) hx hb dX2_keep_55 (by decide +kernel) ?_
    refine va_put (D := D) (ci := 2) (v := .int 0) (ty := .int) (C := RX2) (T := TX2) (N := 4) hx hb hts inX2 tyX2 tyX2_ok nmX2 hown hG.1 hP hD hS 0 rfl rfl 3 (by decide) (hts _ kw472) (fun _ h9 => h9) rfl (by decide +kernel) rfl rfl (Nat.le_of_ble_eq_true rfl) dX2_keep_56 (fun H locs hP hD hS => ?_)
    have hP : va_P D vwCl [(h0, .inr (2, [.ref h2, .int v_11, .int 40, .int 0])), (h1, .inr (3, [.ref h7, .ref h8, .ref h9, .ref h10, .ref h11, .ref h12, .int x13, .int x14])), (h2, .inl (cI, 1107, .inl f_17)), (h7, .inr (8, [.int x15, .int x16, .int x17, .ref h18, .ref h19, .ref h20, .ref h21, .ref h22, .ref h23, .ref h24, .ref h25, .ref h26, .ref h27, .int x28, .int x29, .int x30, .int x31, .int x32])), (h8, .inl (cI, 7, .inl f33)), (h9, .inl (cI, 7, .inl f34)), (h10, .inl (cI, 7, .inl f35)), (h11, .inl (cI, 4, .inl f36))] H := hP
    have hD : va_D A [(h0, .inr (2, [.ref h2, .int v_11, .int 40, .int 0])), (h1, .inr (3, [.ref h7, .ref h8, .ref h9, .ref h10, .ref h11, .ref h12, .int x13, .int x14])), (h2, .inl (cI, 1107, .inl f_17)), (h7, .inr (8, [.int x15, .int x16, .int x17, .ref h18, .ref h19, .ref h20, .ref h21, .ref h22, .ref h23, .ref h24, .ref h25, .ref h26, .ref h27, .int x28, .int x29, .int x30, .int x31, .int x32])), (h8, .inl (cI, 7, .inl f33)), (h9, .inl (cI, 7, .inl f34)), (h10, .inl (cI, 7, .inl f35)), (h11, .inl (cI, 4, .inl f36))] := hD
    have o_19 : HL f_17 (v_11.toInt) (40) (0) (x17.toInt) := (hl_keep o_12 o_18 o_16 (by omega) (by omega) (by omega) (by omega)).c rfl (by omega) rfl rfl
    have hP9 := hP.sub (ws' := [(h0, .inr (2, [.ref h2, .int v_11, .int 40, .int 0])), (h2, .inl (cI, 1107, .inl f_17)), (h1, .inr (3, [.ref h7, .ref h8, .ref h9, .ref h10, .ref h11, .ref h12, .int x13, .int x14])), (h7, .inr (8, [.int x15, .int x16, .int x17, .ref h18, .ref h19, .ref h20, .ref h21, .ref h22, .ref h23, .ref h24, .ref h25, .ref h26, .ref h27, .int x28, .int x29, .int x30, .int x31, .int x32])), (h8, .inl (cI, 7, .inl f33)), (h9, .inl (cI, 7, .inl f34)), (h10, .inl (cI, 7, .inl f35)), (h11, .inl (cI, 4, .inl f36))]) [0, 2, 1, 3, 4, 5, 6, 7] rfl
    have hD9 := hD.sub (ws' := [(h0, .inr (2, [.ref h2, .int v_11, .int 40, .int 0])), (h2, .inl (cI, 1107, .inl f_17)), (h1, .inr (3, [.ref h7, .ref h8, .ref h9, .ref h10, .ref h11, .ref h12, .int x13, .int x14])), (h7, .inr (8, [.int x15, .int x16, .int x17, .ref h18, .ref h19, .ref h20, .ref h21, .ref h22, .ref h23, .ref h24, .ref h25, .ref h26, .ref h27, .int x28, .int x29, .int x30, .int x31, .int x32])), (h8, .inl (cI, 7, .inl f33)), (h9, .inl (cI, 7, .inl f34)), (h10, .inl (cI, 7, .inl f35)), (h11, .inl (cI, 4, .inl f36))]) [0, 2, 1, 3, 4, 5, 6, 7] (by decide) rfl
    exact xr_v (rm := (rmL 2 0 0)) hx hb hr hlocks hAe hS hP9 hD9 (Nat.le_of_ble_eq_true rfl) (Nat.le_of_ble_eq_true rfl) dX2_keep_59 ⟨v_11, 40, f_17, by have zc40 : (40 : Int32).toInt = 40 := (by decide); omega, by have zc40 : (40 : Int32).toInt = 40 := (by decide); omega, by have zc40 : (40 : Int32).toInt = 40 := (by decide); omega, by have zc40 : (40 : Int32).toInt = 40 := (by decide); omega, by have zc40 : (40 : Int32).toInt = 40 := (by decide); omega, o_19, rfl, rfl⟩
theorem dX2_takeBack_0 : decode cX2_takeBack 0 = .ok (.aload_n 0, 1) := by decide +kernel
theorem dX2_takeBack_1 : decode cX2_takeBack 1 = .ok (.getfield 19, 3) := by decide +kernel
theorem dX2_takeBack_4 : decode cX2_takeBack 4 = .ok (.ifCond .ne 5, 3) := by decide +kernel
theorem dX2_takeBack_9 : decode cX2_takeBack 9 = .ok (.aload_n 1, 1) := by decide +kernel
theorem dX2_takeBack_10 : decode cX2_takeBack 10 = .ok (.aload_n 0, 1) := by decide +kernel
theorem dX2_takeBack_11 : decode cX2_takeBack 11 = .ok (.getfield 11, 3) := by decide +kernel
theorem dX2_takeBack_14 : decode cX2_takeBack 14 = .ok (.aload_n 0, 1) := by decide +kernel
theorem dX2_takeBack_15 : decode cX2_takeBack 15 = .ok (.aload_n 0, 1) := by decide +kernel
theorem dX2_takeBack_16 : decode cX2_takeBack 16 = .ok (.getfield 19, 3) := by decide +kernel
theorem dX2_takeBack_19 : decode cX2_takeBack 19 = .ok (.invokevirtual 25, 3) := by decide +kernel
theorem dX2_takeBack_22 : decode cX2_takeBack 22 = .ok (.invokevirtual 29, 3) := by decide +kernel
theorem dX2_takeBack_25 : decode cX2_takeBack 25 = .ok (.aload_n 0, 1) := by decide +kernel
theorem dX2_takeBack_26 : decode cX2_takeBack 26 = .ok (.dup, 1) := by decide +kernel
theorem dX2_takeBack_27 : decode cX2_takeBack 27 = .ok (.getfield 19, 3) := by decide +kernel
theorem dX2_takeBack_30 : decode cX2_takeBack 30 = .ok (.iconst 1, 1) := by decide +kernel
theorem dX2_takeBack_31 : decode cX2_takeBack 31 = .ok (.isub, 1) := by decide +kernel
theorem dX2_takeBack_32 : decode cX2_takeBack 32 = .ok (.putfield 19, 3) := by decide +kernel
theorem dX2_takeBack_35 : decode cX2_takeBack 35 = .ok (.aload_n 0, 1) := by decide +kernel
theorem dX2_takeBack_36 : decode cX2_takeBack 36 = .ok (.dup, 1) := by decide +kernel
theorem dX2_takeBack_37 : decode cX2_takeBack 37 = .ok (.getfield 22, 3) := by decide +kernel
theorem dX2_takeBack_40 : decode cX2_takeBack 40 = .ok (.iconst 1, 1) := by decide +kernel
theorem dX2_takeBack_41 : decode cX2_takeBack 41 = .ok (.iadd, 1) := by decide +kernel
theorem dX2_takeBack_42 : decode cX2_takeBack 42 = .ok (.putfield 22, 3) := by decide +kernel
theorem dX2_takeBack_45 : decode cX2_takeBack 45 = .ok (.aload_n 1, 1) := by decide +kernel
theorem dX2_takeBack_46 : decode cX2_takeBack 46 = .ok (.aload_n 0, 1) := by decide +kernel
theorem dX2_takeBack_47 : decode cX2_takeBack 47 = .ok (.getfield 11, 3) := by decide +kernel
theorem dX2_takeBack_50 : decode cX2_takeBack 50 = .ok (.aload_n 0, 1) := by decide +kernel
theorem dX2_takeBack_51 : decode cX2_takeBack 51 = .ok (.aload_n 0, 1) := by decide +kernel
theorem dX2_takeBack_52 : decode cX2_takeBack 52 = .ok (.getfield 19, 3) := by decide +kernel
theorem dX2_takeBack_55 : decode cX2_takeBack 55 = .ok (.invokevirtual 25, 3) := by decide +kernel
theorem kw995 : (.methodLink RX2 33 yX3_readFrom : Cond) ∈ gT := gT_of 995 (by decide +kernel) (by decide +kernel)
theorem kw998 : (.code yX3_readFrom cX3_readFrom 3 none : Cond) ∈ gT := gT_of 998 (by decide +kernel) (by decide +kernel)
theorem kw996 : (.instanceMethod yX3_readFrom : Cond) ∈ gT := gT_of 996 (by decide +kernel) (by decide +kernel)
theorem kw997 : (.selects RX3 yX3_readFrom yX3_readFrom : Cond) ∈ gT := gT_of 997 (by decide +kernel) (by decide +kernel)
theorem dX2_takeBack_58 : decode cX2_takeBack 58 = .ok (.invokevirtual 33, 3) := by decide +kernel
theorem dX2_takeBack_61 : decode cX2_takeBack 61 = .ok (.iconst 1, 1) := by decide +kernel
theorem dX2_takeBack_62 : decode cX2_takeBack 62 = .ok (.ireturn, 1) := by decide +kernel
theorem dX2_takeBack_7 : decode cX2_takeBack 7 = .ok (.iconst 0, 1) := by decide +kernel
theorem dX2_takeBack_8 : decode cX2_takeBack 8 = .ok (.ireturn, 1) := by decide +kernel
set_option maxHeartbeats 4000000 in
set_option maxRecDepth 100000 in
theorem sX2_takeBack_1 (l : Launch) (D : va_G) (cB cI cJ cZ : ClassId) (aK aV : Nat → Nat) (h0 : Nat) (h1 : Nat) (h2 : Nat) (x3 : Int32) (x4 : Int32) (x5 : Int32) (f6 : Nat → Int32) (h7 : Nat) (h8 : Nat) (h9 : Nat) (h10 : Nat) (h11 : Nat) (h12 : Nat) (x13 : Int32) (x14 : Int32) (x15 : Int32) (x16 : Int32) (x17 : Int32) (h18 : Nat) (h19 : Nat) (h20 : Nat) (h21 : Nat) (h22 : Nat) (h23 : Nat) (h24 : Nat) (h25 : Nat) (h26 : Nat) (h27 : Nat) (x28 : Int32) (x29 : Int32) (x30 : Int32) (x31 : Int32) (x32 : Int32) (f33 : Nat → Int32) (f34 : Nat → Int32) (f35 : Nat → Int32) (f36 : Nat → Int32) (gh0 : 0 ≤ x3.toInt) (gh1 : 0 ≤ -x3.toInt + 40) (gh2 : 0 ≤ x4.toInt) (gh3 : 0 ≤ -x4.toInt + 40) (gh4 : 0 ≤ x5.toInt) (gh5 : 0 ≤ -x5.toInt + 40) (gh6 : 0 ≤ x14.toInt) (gh7 : 0 ≤ -x14.toInt + 999) (gh8 : 0 ≤ x15.toInt) (gh9 : 0 ≤ -x15.toInt + 4) (gh10 : 0 ≤ x16.toInt) (gh11 : 0 ≤ -x16.toInt + 3) (gh12 : 0 ≤ x17.toInt) (gh13 : 0 ≤ -x17.toInt + 7) (gh14 : 0 ≤ x31.toInt + 1) (gh15 : 0 ≤ -x31.toInt + 999) (gh16 : 0 ≤ -x4.toInt - x5.toInt + 40) (ga0 : AR f33 (0) (3) (x17.toInt)) (go0 : HL f6 (x3.toInt) (x4.toInt) (x5.toInt) (x17.toInt)) : MX l yX2_takeBack cX2_takeBack 2 (some .boolean) (rmL 2 0 0) D cB cI cJ cZ aK aV [.ref h0, .ref h1] [(h0, .inr (2, [.ref h2, .int x3, .int x4, .int x5])), (h2, .inl (cI, 1107, .inl f6)), (h1, .inr (3, [.ref h7, .ref h8, .ref h9, .ref h10, .ref h11, .ref h12, .int x13, .int x14])), (h7, .inr (8, [.int x15, .int x16, .int x17, .ref h18, .ref h19, .ref h20, .ref h21, .ref h22, .ref h23, .ref h24, .ref h25, .ref h26, .ref h27, .int x28, .int x29, .int x30, .int x31, .int x32])), (h8, .inl (cI, 7, .inl f33)), (h9, .inl (cI, 7, .inl f34)), (h10, .inl (cI, 7, .inl f35)), (h11, .inl (cI, 4, .inl f36))] (fun r w1 => ∃ z1 : Int32, ∃ z2 : Int32, ∃ z3 : Nat → Int32, ∃ z4 : Int32, ∃ z5 : Int32, ∃ z6 : Nat → Int32, ∃ z7 : Nat → Int32, ∃ z8 : Nat → Int32, ∃ z9 : Nat → Int32, ∃ z10 : Int32, 0 ≤ z1.toInt ∧ 0 ≤ -z1.toInt + 40 ∧ 0 ≤ z2.toInt ∧ 0 ≤ -z2.toInt + 40 ∧ 0 ≤ z5.toInt ∧ 0 ≤ -z5.toInt + 999 ∧ 0 ≤ z10.toInt ∧ 0 ≤ -z10.toInt + 1 ∧ 0 ≤ -z1.toInt - z2.toInt + 40 ∧ AR z6 (0) (3) (x17.toInt) ∧ HL z3 (x3.toInt) (z1.toInt) (z2.toInt) (x17.toInt) ∧ r = some (.int z10) ∧ w1 = [(h0, .inr (2, [.ref h2, .int x3, .int z1, .int z2])), (h2, .inl (cI, 1107, .inl z3)), (h1, .inr (3, [.ref h7, .ref h8, .ref h9, .ref h10, .ref h11, .ref h12, .int z4, .int z5])), (h7, .inr (8, [.int x15, .int x16, .int x17, .ref h18, .ref h19, .ref h20, .ref h21, .ref h22, .ref h23, .ref h24, .ref h25, .ref h26, .ref h27, .int x28, .int x29, .int x30, .int x31, .int x32])), (h8, .inl (cI, 7, .inl z6)), (h9, .inl (cI, 7, .inl z7)), (h10, .inl (cI, 7, .inl z8)), (h11, .inl (cI, 4, .inl z9))]) := by
  refine MX.intro (by decide) (Nat.le_of_ble_eq_true rfl) ?_
  intro p e s m below meth c A ls hx hb hr hml hown hlocks hnm hts hG hE hA hS hP hD hl hAe
  have hl : lv_has ls 2 [(0, .ref h0), (1, .ref h1)] := hl
  have hown : s.vm.findClass RX2 = some m.cls := hown
  refine lv_aload_n hx hb dX2_takeBack_0 rfl (lv_at hl 0 rfl) ?_
  refine va_get (D := D) (ci := 2) (v := .int x4) (C := RX2) (T := TX2) (N := 4) hx hb hts inX2 hown hG.1 hP 0 rfl rfl 2 (by decide) (hts _ kw470) (fun _ h9 => h9) rfl dX2_takeBack_1 ?_
  refine lv_if_ne (tgt := 9) hx hb dX2_takeBack_4 (by decide) (fun c_1 => ?_) (fun c_1 => ?_)
  · have fc_1 : x4.toInt ≠ (0 : Int) := i_ne rfl (by decide) c_1
    refine lv_aload_n hx hb dX2_takeBack_9 rfl (lv_at hl 1 rfl) ?_
    refine lv_aload_n hx hb dX2_takeBack_10 rfl (lv_at hl 0 rfl) ?_
    refine va_get (D := D) (ci := 2) (v := .ref h2) (C := RX2) (T := TX2) (N := 4) hx hb hts inX2 hown hG.1 hP 0 rfl rfl 0 (by decide) (hts _ kw468) (fun _ h9 => h9) rfl dX2_takeBack_11 ?_
    refine lv_aload_n hx hb dX2_takeBack_14 rfl (lv_at hl 0 rfl) ?_
    refine lv_aload_n hx hb dX2_takeBack_15 rfl (lv_at hl 0 rfl) ?_
    refine va_get (D := D) (ci := 2) (v := .int x4) (C := RX2) (T := TX2) (N := 4) hx hb hts inX2 hown hG.1 hP 0 rfl rfl 2 (by decide) (hts _ kw470) (fun _ h9 => h9) rfl dX2_takeBack_16 ?_
    refine xc_core (wr := [(h2, .inl (cI, 1107, .inl f6)), (h1, .inr (3, [.ref h7, .ref h8, .ref h9, .ref h10, .ref h11, .ref h12, .int x13, .int x14])), (h7, .inr (8, [.int x15, .int x16, .int x17, .ref h18, .ref h19, .ref h20, .ref h21, .ref h22, .ref h23, .ref h24, .ref h25, .ref h26, .ref h27, .int x28, .int x29, .int x30, .int x31, .int x32])), (h8, .inl (cI, 7, .inl f33)), (h9, .inl (cI, 7, .inl f34)), (h10, .inl (cI, 7, .inl f35)), (h11, .inl (cI, 4, .inl f36))]) (k := 0) (n := 0) (xc_runV (As := [.int x4]) (rest := [.ref h2, .ref h1]) hx hb hml hown hts hG hE hP hD hS hA [0] (by decide) rfl (sX2_rowAt_2 l D cB cI cJ cZ aK aV h0 x4 h2 x3 x4 x5 (by omega) (by omega) (by omega) (by omega) (by omega) (by omega) (by omega) (by omega) (by omega)) kw956 kw953 kw955 kw25 kw123 (show XD yX2_rowAt 1 from by decide +kernel) (by decide) rfl rfl 0 rfl hl.1 rfl (Nat.le_of_ble_eq_true rfl) dX2_takeBack_19 (by decide)) hP hD hS hA [0] [1, 2, 3, 4, 5, 6, 7] rfl rfl (by decide) (by decide) (Nat.le_of_ble_eq_true rfl) (Nat.le_of_ble_eq_true rfl) (fun r w1 H locs hpost hP hD hS => ?_)
    obtain ⟨v_2, g_3, g_4, o_5, rfl, rfl⟩ := hpost
    have hP : va_P D vwCl [(h2, .inl (cI, 1107, .inl f6)), (h1, .inr (3, [.ref h7, .ref h8, .ref h9, .ref h10, .ref h11, .ref h12, .int x13, .int x14])), (h7, .inr (8, [.int x15, .int x16, .int x17, .ref h18, .ref h19, .ref h20, .ref h21, .ref h22, .ref h23, .ref h24, .ref h25, .ref h26, .ref h27, .int x28, .int x29, .int x30, .int x31, .int x32])), (h8, .inl (cI, 7, .inl f33)), (h9, .inl (cI, 7, .inl f34)), (h10, .inl (cI, 7, .inl f35)), (h11, .inl (cI, 4, .inl f36)), (h0, .inr (2, [.ref h2, .int x3, .int x4, .int x5]))] H := hP
    have hD : va_D A [(h2, .inl (cI, 1107, .inl f6)), (h1, .inr (3, [.ref h7, .ref h8, .ref h9, .ref h10, .ref h11, .ref h12, .int x13, .int x14])), (h7, .inr (8, [.int x15, .int x16, .int x17, .ref h18, .ref h19, .ref h20, .ref h21, .ref h22, .ref h23, .ref h24, .ref h25, .ref h26, .ref h27, .int x28, .int x29, .int x30, .int x31, .int x32])), (h8, .inl (cI, 7, .inl f33)), (h9, .inl (cI, 7, .inl f34)), (h10, .inl (cI, 7, .inl f35)), (h11, .inl (cI, 4, .inl f36)), (h0, .inr (2, [.ref h2, .int x3, .int x4, .int x5]))] := hD
    refine xc_core (wr := [(h0, .inr (2, [.ref h2, .int x3, .int x4, .int x5]))]) (k := 0) (n := 0) (xc_runV (As := [.ref h2, .int v_2]) (rest := []) hx hb hml hown hts hG hE hP hD hS hA [1, 0, 2, 3, 4, 5, 6] (by decide) rfl (sX3_writeTo_1 l D cB cI cJ cZ aK aV h1 h2 v_2 h7 h8 h9 h10 h11 h12 x13 x14 f6 f33 x15 x16 x17 h18 h19 h20 h21 h22 h23 h24 h25 h26 h27 x28 x29 x30 x31 x32 f34 f35 f36 (by omega) (by omega) (by omega) (by omega) (by omega) (by omega) (by omega) (by omega) (by omega) (by omega) (by omega) (by omega) (ga0.mono (by omega) (by omega) (by omega))) kw960 kw957 kw958 kw959 kw121 (show XD yX3_writeTo 2 from by decide +kernel) (by decide) rfl rfl 1 rfl hl.1 rfl (Nat.le_of_ble_eq_true rfl) dX2_takeBack_22 (by decide)) hP hD hS hA [1, 0, 2, 3, 4, 5, 6] [7] rfl rfl (by decide) (by decide) (Nat.le_of_ble_eq_true rfl) (Nat.le_of_ble_eq_true rfl) (fun r w1 H locs hpost hP hD hS => ?_)
    obtain ⟨f_6, o_7, rfl, rfl⟩ := hpost
    have hP : va_P D vwCl [(h0, .inr (2, [.ref h2, .int x3, .int x4, .int x5])), (h1, .inr (3, [.ref h7, .ref h8, .ref h9, .ref h10, .ref h11, .ref h12, .int x13, .int x14])), (h2, .inl (cI, 1107, .inl f_6)), (h7, .inr (8, [.int x15, .int x16, .int x17, .ref h18, .ref h19, .ref h20, .ref h21, .ref h22, .ref h23, .ref h24, .ref h25, .ref h26, .ref h27, .int x28, .int x29, .int x30, .int x31, .int x32])), (h8, .inl (cI, 7, .inl f33)), (h9, .inl (cI, 7, .inl f34)), (h10, .inl (cI, 7, .inl f35)), (h11, .inl (cI, 4, .inl f36))] H := hP
    have hD : va_D A [(h0, .inr (2, [.ref h2, .int x3, .int x4, .int x5])), (h1, .inr (3, [.ref h7, .ref h8, .ref h9, .ref h10, .ref h11, .ref h12, .int x13, .int x14])), (h2, .inl (cI, 1107, .inl f_6)), (h7, .inr (8, [.int x15, .int x16, .int x17, .ref h18, .ref h19, .ref h20, .ref h21, .ref h22, .ref h23, .ref h24, .ref h25, .ref h26, .ref h27, .int x28, .int x29, .int x30, .int x31, .int x32])), (h8, .inl (cI, 7, .inl f33)), (h9, .inl (cI, 7, .inl f34)), (h10, .inl (cI, 7, .inl f35)), (h11, .inl (cI, 4, .inl f36))] := hD
    refine lv_aload_n hx hb dX2_takeBack_25 rfl (lv_at hl 0 rfl) ?_
    refine lv_dup hx hb dX2_takeBack_26 rfl ?_
    refine va_get (D := D) (ci := 2) (v := .int x4) (C := RX2) (T := TX2) (N := 4) hx hb hts inX2 hown hG.1 hP 0 rfl rfl 2 (by decide) (hts _ kw470) (fun _ h9 => h9) rfl dX2_takeBack_27 ?_
    refine lv_iconst (v := 1) hx hb dX2_takeBack_30 (by decide +kernel) ?_
    refine lv_isub hx hb dX2_takeBack_31 ?_
    refine lv_topi (fun v_8 ev_8 => ?_)
    have gv_8 : v_8.toInt = x4.toInt - (1 : Int) := by
      have zx : (x4 : Int32).toInt = x4.toInt := rfl
      have zy : (1 : Int32).toInt = (1 : Int) := (by decide)
      rw [ev_8, i32_sub (by rw [zx, zy]; omega) (by rw [zx, zy]; omega), zx, zy]
    refine va_put (D := D) (ci := 2) (v := .int v_8) (ty := .int) (C := RX2) (T := TX2) (N := 4) hx hb hts inX2 tyX2 tyX2_ok nmX2 hown hG.1 hP hD hS 0 rfl rfl 2 (by decide) (hts _ kw470) (fun _ h9 => h9) rfl (by decide +kernel) rfl rfl (Nat.le_of_ble_eq_true rfl) dX2_takeBack_32 (fun H locs hP hD hS => ?_)
    have hP : va_P D vwCl [(h0, .inr (2, [.ref h2, .int x3, .int v_8, .int x5])), (h1, .inr (3, [.ref h7, .ref h8, .ref h9, .ref h10, .ref h11, .ref h12, .int x13, .int x14])), (h2, .inl (cI, 1107, .inl f_6)), (h7, .inr (8, [.int x15, .int x16, .int x17, .ref h18, .ref h19, .ref h20, .ref h21, .ref h22, .ref h23, .ref h24, .ref h25, .ref h26, .ref h27, .int x28, .int x29, .int x30, .int x31, .int x32])), (h8, .inl (cI, 7, .inl f33)), (h9, .inl (cI, 7, .inl f34)), (h10, .inl (cI, 7, .inl f35)), (h11, .inl (cI, 4, .inl f36))] H := hP
    have hD : va_D A [(h0, .inr (2, [.ref h2, .int x3, .int v_8, .int x5])), (h1, .inr (3, [.ref h7, .ref h8, .ref h9, .ref h10, .ref h11, .ref h12, .int x13, .int x14])), (h2, .inl (cI, 1107, .inl f_6)), (h7, .inr (8, [.int x15, .int x16, .int x17, .ref h18, .ref h19, .ref h20, .ref h21, .ref h22, .ref h23, .ref h24, .ref h25, .ref h26, .ref h27, .int x28, .int x29, .int x30, .int x31, .int x32])), (h8, .inl (cI, 7, .inl f33)), (h9, .inl (cI, 7, .inl f34)), (h10, .inl (cI, 7, .inl f35)), (h11, .inl (cI, 4, .inl f36))] := hD
    refine lv_aload_n hx hb dX2_takeBack_35 rfl (lv_at hl 0 rfl) ?_
    refine lv_dup hx hb dX2_takeBack_36 rfl ?_
    refine va_get (D := D) (ci := 2) (v := .int x5) (C := RX2) (T := TX2) (N := 4) hx hb hts inX2 hown hG.1 hP 0 rfl rfl 3 (by decide) (hts _ kw472) (fun _ h9 => h9) rfl dX2_takeBack_37 ?_
    refine lv_iconst (v := 1) hx hb dX2_takeBack_40 (by decide +kernel) ?_
    refine lv_iadd hx hb dX2_takeBack_41 ?_
    refine lv_topi (fun v_9 ev_9 => ?_)
    have gv_9 : v_9.toInt = x5.toInt + (1 : Int) := by
      have zx : (x5 : Int32).toInt = x5.toInt := rfl
      have zy : (1 : Int32).toInt = (1 : Int) := (by decide)
      rw [ev_9, i32_add (by rw [zx, zy]; omega) (by rw [zx, zy]; omega), zx, zy]
    refine va_put (D := D) (ci := 2) (v := .int v_9) (ty := .int) (C := RX2) (T := TX2) (N := 4) hx hb hts inX2 tyX2 tyX2_ok nmX2 hown hG.1 hP hD hS 0 rfl rfl 3 (by decide) (hts _ kw472) (fun _ h9 => h9) rfl (by decide +kernel) rfl rfl (Nat.le_of_ble_eq_true rfl) dX2_takeBack_42 (fun H locs hP hD hS => ?_)
    have hP : va_P D vwCl [(h0, .inr (2, [.ref h2, .int x3, .int v_8, .int v_9])), (h1, .inr (3, [.ref h7, .ref h8, .ref h9, .ref h10, .ref h11, .ref h12, .int x13, .int x14])), (h2, .inl (cI, 1107, .inl f_6)), (h7, .inr (8, [.int x15, .int x16, .int x17, .ref h18, .ref h19, .ref h20, .ref h21, .ref h22, .ref h23, .ref h24, .ref h25, .ref h26, .ref h27, .int x28, .int x29, .int x30, .int x31, .int x32])), (h8, .inl (cI, 7, .inl f33)), (h9, .inl (cI, 7, .inl f34)), (h10, .inl (cI, 7, .inl f35)), (h11, .inl (cI, 4, .inl f36))] H := hP
    have hD : va_D A [(h0, .inr (2, [.ref h2, .int x3, .int v_8, .int v_9])), (h1, .inr (3, [.ref h7, .ref h8, .ref h9, .ref h10, .ref h11, .ref h12, .int x13, .int x14])), (h2, .inl (cI, 1107, .inl f_6)), (h7, .inr (8, [.int x15, .int x16, .int x17, .ref h18, .ref h19, .ref h20, .ref h21, .ref h22, .ref h23, .ref h24, .ref h25, .ref h26, .ref h27, .int x28, .int x29, .int x30, .int x31, .int x32])), (h8, .inl (cI, 7, .inl f33)), (h9, .inl (cI, 7, .inl f34)), (h10, .inl (cI, 7, .inl f35)), (h11, .inl (cI, 4, .inl f36))] := hD
    refine lv_aload_n hx hb dX2_takeBack_45 rfl (lv_at hl 1 rfl) ?_
    refine lv_aload_n hx hb dX2_takeBack_46 rfl (lv_at hl 0 rfl) ?_
    refine va_get (D := D) (ci := 2) (v := .ref h2) (C := RX2) (T := TX2) (N := 4) hx hb hts inX2 hown hG.1 hP 0 rfl rfl 0 (by decide) (hts _ kw468) (fun _ h9 => h9) rfl dX2_takeBack_47 ?_
    refine lv_aload_n hx hb dX2_takeBack_50 rfl (lv_at hl 0 rfl) ?_
    refine lv_aload_n hx hb dX2_takeBack_51 rfl (lv_at hl 0 rfl) ?_
    refine va_get (D := D) (ci := 2) (v := .int v_8) (C := RX2) (T := TX2) (N := 4) hx hb hts inX2 hown hG.1 hP 0 rfl rfl 2 (by decide) (hts _ kw470) (fun _ h9 => h9) rfl dX2_takeBack_52 ?_
    refine xc_core (wr := [(h1, .inr (3, [.ref h7, .ref h8, .ref h9, .ref h10, .ref h11, .ref h12, .int x13, .int x14])), (h2, .inl (cI, 1107, .inl f_6)), (h7, .inr (8, [.int x15, .int x16, .int x17, .ref h18, .ref h19, .ref h20, .ref h21, .ref h22, .ref h23, .ref h24, .ref h25, .ref h26, .ref h27, .int x28, .int x29, .int x30, .int x31, .int x32])), (h8, .inl (cI, 7, .inl f33)), (h9, .inl (cI, 7, .inl f34)), (h10, .inl (cI, 7, .inl f35)), (h11, .inl (cI, 4, .inl f36))]) (k := 0) (n := 0) (xc_runV (As := [.int v_8]) (rest := [.ref h2, .ref h1]) hx hb hml hown hts hG hE hP hD hS hA [0] (by decide) rfl (sX2_rowAt_2 l D cB cI cJ cZ aK aV h0 v_8 h2 x3 v_8 v_9 (by omega) (by omega) (by omega) (by omega) (by omega) (by omega) (by omega) (by omega) (by omega)) kw956 kw953 kw955 kw25 kw123 (show XD yX2_rowAt 1 from by decide +kernel) (by decide) rfl rfl 0 rfl hl.1 rfl (Nat.le_of_ble_eq_true rfl) dX2_takeBack_55 (by decide)) hP hD hS hA [0] [1, 2, 3, 4, 5, 6, 7] rfl rfl (by decide) (by decide) (Nat.le_of_ble_eq_true rfl) (Nat.le_of_ble_eq_true rfl) (fun r w1 H locs hpost hP hD hS => ?_)
    obtain ⟨v_10, g_11, g_12, o_13, rfl, rfl⟩ := hpost
    have hP : va_P D vwCl [(h1, .inr (3, [.ref h7, .ref h8, .ref h9, .ref h10, .ref h11, .ref h12, .int x13, .int x14])), (h2, .inl (cI, 1107, .inl f_6)), (h7, .inr (8, [.int x15, .int x16, .int x17, .ref h18, .ref h19, .ref h20, .ref h21, .ref h22, .ref h23, .ref h24, .ref h25, .ref h26, .ref h27, .int x28, .int x29, .int x30, .int x31, .int x32])), (h8, .inl (cI, 7, .inl f33)), (h9, .inl (cI, 7, .inl f34)), (h10, .inl (cI, 7, .inl f35)), (h11, .inl (cI, 4, .inl f36)), (h0, .inr (2, [.ref h2, .int x3, .int v_8, .int v_9]))] H := hP
    have hD : va_D A [(h1, .inr (3, [.ref h7, .ref h8, .ref h9, .ref h10, .ref h11, .ref h12, .int x13, .int x14])), (h2, .inl (cI, 1107, .inl f_6)), (h7, .inr (8, [.int x15, .int x16, .int x17, .ref h18, .ref h19, .ref h20, .ref h21, .ref h22, .ref h23, .ref h24, .ref h25, .ref h26, .ref h27, .int x28, .int x29, .int x30, .int x31, .int x32])), (h8, .inl (cI, 7, .inl f33)), (h9, .inl (cI, 7, .inl f34)), (h10, .inl (cI, 7, .inl f35)), (h11, .inl (cI, 4, .inl f36)), (h0, .inr (2, [.ref h2, .int x3, .int v_8, .int v_9]))] := hD
    have o_14 : RW f_6 (v_10.toInt) (x17.toInt) := hl_row go0 o_7 o_5 (o_13.c rfl rfl (by omega)) (by omega) (by omega) (by omega) (by omega)
    have o_15 : HL f_6 (x3.toInt) (x4.toInt - 1) (x5.toInt + 1) (x17.toInt) := hl_back go0 o_7 o_5 (by omega) (by omega) (by omega) (by omega) (by omega)
    refine xc_core (wr := [(h0, .inr (2, [.ref h2, .int x3, .int v_8, .int v_9]))]) (k := 0) (n := 0) (xc_runV (As := [.ref h2, .int v_10]) (rest := []) hx hb hml hown hts hG hE hP hD hS hA [0, 1, 2, 3, 4, 5, 6] (by decide) rfl (sX3_readFrom_1 l D cB cI cJ cZ aK aV h1 h2 v_10 h7 h8 h9 h10 h11 h12 x13 x14 f_6 x15 x16 x17 h18 h19 h20 h21 h22 h23 h24 h25 h26 h27 x28 x29 x30 x31 x32 f33 f34 f35 f36 (by omega) (by omega) (by omega) (by omega) (by omega) (by omega) (by omega) (by omega) (by omega) (by omega) (by omega) (by omega) (ga0.mono (by omega) (by omega) (by omega)) o_14) kw998 kw995 kw996 kw997 kw121 (show XD yX3_readFrom 2 from by decide +kernel) (by decide) rfl rfl 0 rfl hl.1 rfl (Nat.le_of_ble_eq_true rfl) dX2_takeBack_58 (by decide)) hP hD hS hA [0, 1, 2, 3, 4, 5, 6] [7] rfl rfl (by decide) (by decide) (Nat.le_of_ble_eq_true rfl) (Nat.le_of_ble_eq_true rfl) (fun r w1 H locs hpost hP hD hS => ?_)
    obtain ⟨v_16, v_17, f_18, f_19, f_20, f_21, g_22, g_23, a_24, rfl, rfl⟩ := hpost
    have hP : va_P D vwCl [(h0, .inr (2, [.ref h2, .int x3, .int v_8, .int v_9])), (h1, .inr (3, [.ref h7, .ref h8, .ref h9, .ref h10, .ref h11, .ref h12, .int v_16, .int v_17])), (h2, .inl (cI, 1107, .inl f_6)), (h7, .inr (8, [.int x15, .int x16, .int x17, .ref h18, .ref h19, .ref h20, .ref h21, .ref h22, .ref h23, .ref h24, .ref h25, .ref h26, .ref h27, .int x28, .int x29, .int x30, .int x31, .int x32])), (h8, .inl (cI, 7, .inl f_18)), (h9, .inl (cI, 7, .inl f_19)), (h10, .inl (cI, 7, .inl f_20)), (h11, .inl (cI, 4, .inl f_21))] H := hP
    have hD : va_D A [(h0, .inr (2, [.ref h2, .int x3, .int v_8, .int v_9])), (h1, .inr (3, [.ref h7, .ref h8, .ref h9, .ref h10, .ref h11, .ref h12, .int v_16, .int v_17])), (h2, .inl (cI, 1107, .inl f_6)), (h7, .inr (8, [.int x15, .int x16, .int x17, .ref h18, .ref h19, .ref h20, .ref h21, .ref h22, .ref h23, .ref h24, .ref h25, .ref h26, .ref h27, .int x28, .int x29, .int x30, .int x31, .int x32])), (h8, .inl (cI, 7, .inl f_18)), (h9, .inl (cI, 7, .inl f_19)), (h10, .inl (cI, 7, .inl f_20)), (h11, .inl (cI, 4, .inl f_21))] := hD
    refine lv_iconst (v := 1) hx hb dX2_takeBack_61 (by decide +kernel) ?_
    have hP9 := hP.sub (ws' := [(h0, .inr (2, [.ref h2, .int x3, .int v_8, .int v_9])), (h2, .inl (cI, 1107, .inl f_6)), (h1, .inr (3, [.ref h7, .ref h8, .ref h9, .ref h10, .ref h11, .ref h12, .int v_16, .int v_17])), (h7, .inr (8, [.int x15, .int x16, .int x17, .ref h18, .ref h19, .ref h20, .ref h21, .ref h22, .ref h23, .ref h24, .ref h25, .ref h26, .ref h27, .int x28, .int x29, .int x30, .int x31, .int x32])), (h8, .inl (cI, 7, .inl f_18)), (h9, .inl (cI, 7, .inl f_19)), (h10, .inl (cI, 7, .inl f_20)), (h11, .inl (cI, 4, .inl f_21))]) [0, 2, 1, 3, 4, 5, 6, 7] rfl
    have hD9 := hD.sub (ws' := [(h0, .inr (2, [.ref h2, .int x3, .int v_8, .int v_9])), (h2, .inl (cI, 1107, .inl f_6)), (h1, .inr (3, [.ref h7, .ref h8, .ref h9, .ref h10, .ref h11, .ref h12, .int v_16, .int v_17])), (h7, .inr (8, [.int x15, .int x16, .int x17, .ref h18, .ref h19, .ref h20, .ref h21, .ref h22, .ref h23, .ref h24, .ref h25, .ref h26, .ref h27, .int x28, .int x29, .int x30, .int x31, .int x32])), (h8, .inl (cI, 7, .inl f_18)), (h9, .inl (cI, 7, .inl f_19)), (h10, .inl (cI, 7, .inl f_20)), (h11, .inl (cI, 4, .inl f_21))]) [0, 2, 1, 3, 4, 5, 6, 7] (by decide) rfl
    exact xr_i (rm := (rmL 2 0 0)) hx hb hr hlocks hAe hS hP9 hD9 (by decide +kernel) (Nat.le_of_ble_eq_true rfl) (Nat.le_of_ble_eq_true rfl) dX2_takeBack_62 ⟨v_8, v_9, f_6, v_16, v_17, f_18, f_19, f_20, f_21, 1, by have zc1 : (1 : Int32).toInt = 1 := (by decide); omega, by have zc1 : (1 : Int32).toInt = 1 := (by decide); omega, by have zc1 : (1 : Int32).toInt = 1 := (by decide); omega, by have zc1 : (1 : Int32).toInt = 1 := (by decide); omega, by have zc1 : (1 : Int32).toInt = 1 := (by decide); omega, by have zc1 : (1 : Int32).toInt = 1 := (by decide); omega, by have zc1 : (1 : Int32).toInt = 1 := (by decide); omega, by have zc1 : (1 : Int32).toInt = 1 := (by decide); omega, by have zc1 : (1 : Int32).toInt = 1 := (by decide); omega, a_24.mono (by have zc1 : (1 : Int32).toInt = 1 := (by decide); omega) (by have zc1 : (1 : Int32).toInt = 1 := (by decide); omega) (by have zc1 : (1 : Int32).toInt = 1 := (by decide); omega), (HL.c o_15 (by have zc1 : (1 : Int32).toInt = 1 := (by decide); omega) (by have zc1 : (1 : Int32).toInt = 1 := (by decide); omega) (by have zc1 : (1 : Int32).toInt = 1 := (by decide); omega) (by have zc1 : (1 : Int32).toInt = 1 := (by decide); omega)), rfl, rfl⟩
  · have fc_1 : x4.toInt = (0 : Int) := i_eq rfl (by decide) c_1
    refine lv_iconst (v := 0) hx hb dX2_takeBack_7 (by decide +kernel) ?_
    have hP9 := hP.sub (ws' := [(h0, .inr (2, [.ref h2, .int x3, .int x4, .int x5])), (h2, .inl (cI, 1107, .inl f6)), (h1, .inr (3, [.ref h7, .ref h8, .ref h9, .ref h10, .ref h11, .ref h12, .int x13, .int x14])), (h7, .inr (8, [.int x15, .int x16, .int x17, .ref h18, .ref h19, .ref h20, .ref h21, .ref h22, .ref h23, .ref h24, .ref h25, .ref h26, .ref h27, .int x28, .int x29, .int x30, .int x31, .int x32])), (h8, .inl (cI, 7, .inl f33)), (h9, .inl (cI, 7, .inl f34)), (h10, .inl (cI, 7, .inl f35)), (h11, .inl (cI, 4, .inl f36))]) [0, 1, 2, 3, 4, 5, 6, 7] rfl
    have hD9 := hD.sub (ws' := [(h0, .inr (2, [.ref h2, .int x3, .int x4, .int x5])), (h2, .inl (cI, 1107, .inl f6)), (h1, .inr (3, [.ref h7, .ref h8, .ref h9, .ref h10, .ref h11, .ref h12, .int x13, .int x14])), (h7, .inr (8, [.int x15, .int x16, .int x17, .ref h18, .ref h19, .ref h20, .ref h21, .ref h22, .ref h23, .ref h24, .ref h25, .ref h26, .ref h27, .int x28, .int x29, .int x30, .int x31, .int x32])), (h8, .inl (cI, 7, .inl f33)), (h9, .inl (cI, 7, .inl f34)), (h10, .inl (cI, 7, .inl f35)), (h11, .inl (cI, 4, .inl f36))]) [0, 1, 2, 3, 4, 5, 6, 7] (by decide) rfl
    exact xr_i (rm := (rmL 2 0 0)) hx hb hr hlocks hAe hS hP9 hD9 (by decide +kernel) (Nat.le_of_ble_eq_true rfl) (Nat.le_of_ble_eq_true rfl) dX2_takeBack_8 ⟨x4, x5, f6, x13, x14, f33, f34, f35, f36, 0, by have zc0 : (0 : Int32).toInt = 0 := (by decide); omega, by have zc0 : (0 : Int32).toInt = 0 := (by decide); omega, by have zc0 : (0 : Int32).toInt = 0 := (by decide); omega, by have zc0 : (0 : Int32).toInt = 0 := (by decide); omega, by have zc0 : (0 : Int32).toInt = 0 := (by decide); omega, by have zc0 : (0 : Int32).toInt = 0 := (by decide); omega, by have zc0 : (0 : Int32).toInt = 0 := (by decide); omega, by have zc0 : (0 : Int32).toInt = 0 := (by decide); omega, by have zc0 : (0 : Int32).toInt = 0 := (by decide); omega, ga0.mono (by have zc0 : (0 : Int32).toInt = 0 := (by decide); omega) (by have zc0 : (0 : Int32).toInt = 0 := (by decide); omega) (by have zc0 : (0 : Int32).toInt = 0 := (by decide); omega), go0, rfl, rfl⟩
theorem dX2_doAgain_0 : decode cX2_doAgain 0 = .ok (.aload_n 0, 1) := by decide +kernel
theorem dX2_doAgain_1 : decode cX2_doAgain 1 = .ok (.getfield 22, 3) := by decide +kernel
theorem dX2_doAgain_4 : decode cX2_doAgain 4 = .ok (.ifCond .ne 5, 3) := by decide +kernel
theorem dX2_doAgain_9 : decode cX2_doAgain 9 = .ok (.aload_n 0, 1) := by decide +kernel
theorem dX2_doAgain_10 : decode cX2_doAgain 10 = .ok (.dup, 1) := by decide +kernel
theorem dX2_doAgain_11 : decode cX2_doAgain 11 = .ok (.getfield 19, 3) := by decide +kernel
theorem dX2_doAgain_14 : decode cX2_doAgain 14 = .ok (.iconst 1, 1) := by decide +kernel
theorem dX2_doAgain_15 : decode cX2_doAgain 15 = .ok (.iadd, 1) := by decide +kernel
theorem dX2_doAgain_16 : decode cX2_doAgain 16 = .ok (.putfield 19, 3) := by decide +kernel
theorem dX2_doAgain_19 : decode cX2_doAgain 19 = .ok (.aload_n 0, 1) := by decide +kernel
theorem dX2_doAgain_20 : decode cX2_doAgain 20 = .ok (.dup, 1) := by decide +kernel
theorem dX2_doAgain_21 : decode cX2_doAgain 21 = .ok (.getfield 22, 3) := by decide +kernel
theorem dX2_doAgain_24 : decode cX2_doAgain 24 = .ok (.iconst 1, 1) := by decide +kernel
theorem dX2_doAgain_25 : decode cX2_doAgain 25 = .ok (.isub, 1) := by decide +kernel
theorem dX2_doAgain_26 : decode cX2_doAgain 26 = .ok (.putfield 22, 3) := by decide +kernel
theorem dX2_doAgain_29 : decode cX2_doAgain 29 = .ok (.aload_n 1, 1) := by decide +kernel
theorem dX2_doAgain_30 : decode cX2_doAgain 30 = .ok (.aload_n 0, 1) := by decide +kernel
theorem dX2_doAgain_31 : decode cX2_doAgain 31 = .ok (.getfield 11, 3) := by decide +kernel
theorem dX2_doAgain_34 : decode cX2_doAgain 34 = .ok (.aload_n 0, 1) := by decide +kernel
theorem dX2_doAgain_35 : decode cX2_doAgain 35 = .ok (.aload_n 0, 1) := by decide +kernel
theorem dX2_doAgain_36 : decode cX2_doAgain 36 = .ok (.getfield 19, 3) := by decide +kernel
theorem dX2_doAgain_39 : decode cX2_doAgain 39 = .ok (.invokevirtual 25, 3) := by decide +kernel
theorem dX2_doAgain_42 : decode cX2_doAgain 42 = .ok (.invokevirtual 33, 3) := by decide +kernel
theorem dX2_doAgain_45 : decode cX2_doAgain 45 = .ok (.iconst 1, 1) := by decide +kernel
theorem dX2_doAgain_46 : decode cX2_doAgain 46 = .ok (.ireturn, 1) := by decide +kernel
theorem dX2_doAgain_7 : decode cX2_doAgain 7 = .ok (.iconst 0, 1) := by decide +kernel
theorem dX2_doAgain_8 : decode cX2_doAgain 8 = .ok (.ireturn, 1) := by decide +kernel
set_option maxHeartbeats 4000000 in
set_option maxRecDepth 100000 in
theorem sX2_doAgain_1 (l : Launch) (D : va_G) (cB cI cJ cZ : ClassId) (aK aV : Nat → Nat) (h0 : Nat) (h1 : Nat) (h2 : Nat) (x3 : Int32) (x4 : Int32) (x5 : Int32) (f6 : Nat → Int32) (h7 : Nat) (h8 : Nat) (h9 : Nat) (h10 : Nat) (h11 : Nat) (h12 : Nat) (x13 : Int32) (x14 : Int32) (x15 : Int32) (x16 : Int32) (x17 : Int32) (h18 : Nat) (h19 : Nat) (h20 : Nat) (h21 : Nat) (h22 : Nat) (h23 : Nat) (h24 : Nat) (h25 : Nat) (h26 : Nat) (h27 : Nat) (x28 : Int32) (x29 : Int32) (x30 : Int32) (x31 : Int32) (x32 : Int32) (f33 : Nat → Int32) (f34 : Nat → Int32) (f35 : Nat → Int32) (f36 : Nat → Int32) (gh0 : 0 ≤ x3.toInt) (gh1 : 0 ≤ -x3.toInt + 40) (gh2 : 0 ≤ x4.toInt) (gh3 : 0 ≤ -x4.toInt + 40) (gh4 : 0 ≤ x5.toInt) (gh5 : 0 ≤ -x5.toInt + 40) (gh6 : 0 ≤ x14.toInt) (gh7 : 0 ≤ -x14.toInt + 999) (gh8 : 0 ≤ x15.toInt) (gh9 : 0 ≤ -x15.toInt + 4) (gh10 : 0 ≤ x16.toInt) (gh11 : 0 ≤ -x16.toInt + 3) (gh12 : 0 ≤ x17.toInt) (gh13 : 0 ≤ -x17.toInt + 7) (gh14 : 0 ≤ x31.toInt + 1) (gh15 : 0 ≤ -x31.toInt + 999) (gh16 : 0 ≤ -x4.toInt - x5.toInt + 40) (ga0 : AR f33 (0) (3) (x17.toInt)) (go0 : HL f6 (x3.toInt) (x4.toInt) (x5.toInt) (x17.toInt)) : MX l yX2_doAgain cX2_doAgain 2 (some .boolean) (rmL 2 0 0) D cB cI cJ cZ aK aV [.ref h0, .ref h1] [(h0, .inr (2, [.ref h2, .int x3, .int x4, .int x5])), (h2, .inl (cI, 1107, .inl f6)), (h1, .inr (3, [.ref h7, .ref h8, .ref h9, .ref h10, .ref h11, .ref h12, .int x13, .int x14])), (h7, .inr (8, [.int x15, .int x16, .int x17, .ref h18, .ref h19, .ref h20, .ref h21, .ref h22, .ref h23, .ref h24, .ref h25, .ref h26, .ref h27, .int x28, .int x29, .int x30, .int x31, .int x32])), (h8, .inl (cI, 7, .inl f33)), (h9, .inl (cI, 7, .inl f34)), (h10, .inl (cI, 7, .inl f35)), (h11, .inl (cI, 4, .inl f36))] (fun r w1 => ∃ z1 : Int32, ∃ z2 : Int32, ∃ z3 : Int32, ∃ z4 : Int32, ∃ z5 : Nat → Int32, ∃ z6 : Nat → Int32, ∃ z7 : Nat → Int32, ∃ z8 : Nat → Int32, ∃ z9 : Int32, 0 ≤ z1.toInt ∧ 0 ≤ -z1.toInt + 40 ∧ 0 ≤ z2.toInt ∧ 0 ≤ -z2.toInt + 40 ∧ 0 ≤ z4.toInt ∧ 0 ≤ -z4.toInt + 999 ∧ 0 ≤ z9.toInt ∧ 0 ≤ -z9.toInt + 1 ∧ 0 ≤ -z1.toInt - z2.toInt + 40 ∧ AR z5 (0) (3) (x17.toInt) ∧ HL f6 (x3.toInt) (z1.toInt) (z2.toInt) (x17.toInt) ∧ r = some (.int z9) ∧ w1 = [(h0, .inr (2, [.ref h2, .int x3, .int z1, .int z2])), (h2, .inl (cI, 1107, .inl f6)), (h1, .inr (3, [.ref h7, .ref h8, .ref h9, .ref h10, .ref h11, .ref h12, .int z3, .int z4])), (h7, .inr (8, [.int x15, .int x16, .int x17, .ref h18, .ref h19, .ref h20, .ref h21, .ref h22, .ref h23, .ref h24, .ref h25, .ref h26, .ref h27, .int x28, .int x29, .int x30, .int x31, .int x32])), (h8, .inl (cI, 7, .inl z5)), (h9, .inl (cI, 7, .inl z6)), (h10, .inl (cI, 7, .inl z7)), (h11, .inl (cI, 4, .inl z8))]) := by
  refine MX.intro (by decide) (Nat.le_of_ble_eq_true rfl) ?_
  intro p e s m below meth c A ls hx hb hr hml hown hlocks hnm hts hG hE hA hS hP hD hl hAe
  have hl : lv_has ls 2 [(0, .ref h0), (1, .ref h1)] := hl
  have hown : s.vm.findClass RX2 = some m.cls := hown
  refine lv_aload_n hx hb dX2_doAgain_0 rfl (lv_at hl 0 rfl) ?_
  refine va_get (D := D) (ci := 2) (v := .int x5) (C := RX2) (T := TX2) (N := 4) hx hb hts inX2 hown hG.1 hP 0 rfl rfl 3 (by decide) (hts _ kw472) (fun _ h9 => h9) rfl dX2_doAgain_1 ?_
  refine lv_if_ne (tgt := 9) hx hb dX2_doAgain_4 (by decide) (fun c_1 => ?_) (fun c_1 => ?_)
  · have fc_1 : x5.toInt ≠ (0 : Int) := i_ne rfl (by decide) c_1
    refine lv_aload_n hx hb dX2_doAgain_9 rfl (lv_at hl 0 rfl) ?_
    refine lv_dup hx hb dX2_doAgain_10 rfl ?_
    refine va_get (D := D) (ci := 2) (v := .int x4) (C := RX2) (T := TX2) (N := 4) hx hb hts inX2 hown hG.1 hP 0 rfl rfl 2 (by decide) (hts _ kw470) (fun _ h9 => h9) rfl dX2_doAgain_11 ?_
    refine lv_iconst (v := 1) hx hb dX2_doAgain_14 (by decide +kernel) ?_
    refine lv_iadd hx hb dX2_doAgain_15 ?_
    refine lv_topi (fun v_2 ev_2 => ?_)
    have gv_2 : v_2.toInt = x4.toInt + (1 : Int) := by
      have zx : (x4 : Int32).toInt = x4.toInt := rfl
      have zy : (1 : Int32).toInt = (1 : Int) := (by decide)
      rw [ev_2, i32_add (by rw [zx, zy]; omega) (by rw [zx, zy]; omega), zx, zy]
    refine va_put (D := D) (ci := 2) (v := .int v_2) (ty := .int) (C := RX2) (T := TX2) (N := 4) hx hb hts inX2 tyX2 tyX2_ok nmX2 hown hG.1 hP hD hS 0 rfl rfl 2 (by decide) (hts _ kw470) (fun _ h9 => h9) rfl (by decide +kernel) rfl rfl (Nat.le_of_ble_eq_true rfl) dX2_doAgain_16 (fun H locs hP hD hS => ?_)
    have hP : va_P D vwCl [(h0, .inr (2, [.ref h2, .int x3, .int v_2, .int x5])), (h2, .inl (cI, 1107, .inl f6)), (h1, .inr (3, [.ref h7, .ref h8, .ref h9, .ref h10, .ref h11, .ref h12, .int x13, .int x14])), (h7, .inr (8, [.int x15, .int x16, .int x17, .ref h18, .ref h19, .ref h20, .ref h21, .ref h22, .ref h23, .ref h24, .ref h25, .ref h26, .ref h27, .int x28, .int x29, .int x30, .int x31, .int x32])), (h8, .inl (cI, 7, .inl f33)), (h9, .inl (cI, 7, .inl f34)), (h10, .inl (cI, 7, .inl f35)), (h11, .inl (cI, 4, .inl f36))] H := hP
    have hD : va_D A [(h0, .inr (2, [.ref h2, .int x3, .int v_2, .int x5])), (h2, .inl (cI, 1107, .inl f6)), (h1, .inr (3, [.ref h7, .ref h8, .ref h9, .ref h10, .ref h11, .ref h12, .int x13, .int x14])), (h7, .inr (8, [.int x15, .int x16, .int x17, .ref h18, .ref h19, .ref h20, .ref h21, .ref h22, .ref h23, .ref h24, .ref h25, .ref h26, .ref h27, .int x28, .int x29, .int x30, .int x31, .int x32])), (h8, .inl (cI, 7, .inl f33)), (h9, .inl (cI, 7, .inl f34)), (h10, .inl (cI, 7, .inl f35)), (h11, .inl (cI, 4, .inl f36))] := hD
    refine lv_aload_n hx hb dX2_doAgain_19 rfl (lv_at hl 0 rfl) ?_
    refine lv_dup hx hb dX2_doAgain_20 rfl ?_
    refine va_get (D := D) (ci := 2) (v := .int x5) (C := RX2) (T := TX2) (N := 4) hx hb hts inX2 hown hG.1 hP 0 rfl rfl 3 (by decide) (hts _ kw472) (fun _ h9 => h9) rfl dX2_doAgain_21 ?_
    refine lv_iconst (v := 1) hx hb dX2_doAgain_24 (by decide +kernel) ?_
    refine lv_isub hx hb dX2_doAgain_25 ?_
    refine lv_topi (fun v_3 ev_3 => ?_)
    have gv_3 : v_3.toInt = x5.toInt - (1 : Int) := by
      have zx : (x5 : Int32).toInt = x5.toInt := rfl
      have zy : (1 : Int32).toInt = (1 : Int) := (by decide)
      rw [ev_3, i32_sub (by rw [zx, zy]; omega) (by rw [zx, zy]; omega), zx, zy]
    refine va_put (D := D) (ci := 2) (v := .int v_3) (ty := .int) (C := RX2) (T := TX2) (N := 4) hx hb hts inX2 tyX2 tyX2_ok nmX2 hown hG.1 hP hD hS 0 rfl rfl 3 (by decide) (hts _ kw472) (fun _ h9 => h9) rfl (by decide +kernel) rfl rfl (Nat.le_of_ble_eq_true rfl) dX2_doAgain_26 (fun H locs hP hD hS => ?_)
    have hP : va_P D vwCl [(h0, .inr (2, [.ref h2, .int x3, .int v_2, .int v_3])), (h2, .inl (cI, 1107, .inl f6)), (h1, .inr (3, [.ref h7, .ref h8, .ref h9, .ref h10, .ref h11, .ref h12, .int x13, .int x14])), (h7, .inr (8, [.int x15, .int x16, .int x17, .ref h18, .ref h19, .ref h20, .ref h21, .ref h22, .ref h23, .ref h24, .ref h25, .ref h26, .ref h27, .int x28, .int x29, .int x30, .int x31, .int x32])), (h8, .inl (cI, 7, .inl f33)), (h9, .inl (cI, 7, .inl f34)), (h10, .inl (cI, 7, .inl f35)), (h11, .inl (cI, 4, .inl f36))] H := hP
    have hD : va_D A [(h0, .inr (2, [.ref h2, .int x3, .int v_2, .int v_3])), (h2, .inl (cI, 1107, .inl f6)), (h1, .inr (3, [.ref h7, .ref h8, .ref h9, .ref h10, .ref h11, .ref h12, .int x13, .int x14])), (h7, .inr (8, [.int x15, .int x16, .int x17, .ref h18, .ref h19, .ref h20, .ref h21, .ref h22, .ref h23, .ref h24, .ref h25, .ref h26, .ref h27, .int x28, .int x29, .int x30, .int x31, .int x32])), (h8, .inl (cI, 7, .inl f33)), (h9, .inl (cI, 7, .inl f34)), (h10, .inl (cI, 7, .inl f35)), (h11, .inl (cI, 4, .inl f36))] := hD
    refine lv_aload_n hx hb dX2_doAgain_29 rfl (lv_at hl 1 rfl) ?_
    refine lv_aload_n hx hb dX2_doAgain_30 rfl (lv_at hl 0 rfl) ?_
    refine va_get (D := D) (ci := 2) (v := .ref h2) (C := RX2) (T := TX2) (N := 4) hx hb hts inX2 hown hG.1 hP 0 rfl rfl 0 (by decide) (hts _ kw468) (fun _ h9 => h9) rfl dX2_doAgain_31 ?_
    refine lv_aload_n hx hb dX2_doAgain_34 rfl (lv_at hl 0 rfl) ?_
    refine lv_aload_n hx hb dX2_doAgain_35 rfl (lv_at hl 0 rfl) ?_
    refine va_get (D := D) (ci := 2) (v := .int v_2) (C := RX2) (T := TX2) (N := 4) hx hb hts inX2 hown hG.1 hP 0 rfl rfl 2 (by decide) (hts _ kw470) (fun _ h9 => h9) rfl dX2_doAgain_36 ?_
    refine xc_core (wr := [(h2, .inl (cI, 1107, .inl f6)), (h1, .inr (3, [.ref h7, .ref h8, .ref h9, .ref h10, .ref h11, .ref h12, .int x13, .int x14])), (h7, .inr (8, [.int x15, .int x16, .int x17, .ref h18, .ref h19, .ref h20, .ref h21, .ref h22, .ref h23, .ref h24, .ref h25, .ref h26, .ref h27, .int x28, .int x29, .int x30, .int x31, .int x32])), (h8, .inl (cI, 7, .inl f33)), (h9, .inl (cI, 7, .inl f34)), (h10, .inl (cI, 7, .inl f35)), (h11, .inl (cI, 4, .inl f36))]) (k := 0) (n := 0) (xc_runV (As := [.int v_2]) (rest := [.ref h2, .ref h1]) hx hb hml hown hts hG hE hP hD hS hA [0] (by decide) rfl (sX2_rowAt_2 l D cB cI cJ cZ aK aV h0 v_2 h2 x3 v_2 v_3 (by omega) (by omega) (by omega) (by omega) (by omega) (by omega) (by omega) (by omega) (by omega)) kw956 kw953 kw955 kw25 kw123 (show XD yX2_rowAt 1 from by decide +kernel) (by decide) rfl rfl 0 rfl hl.1 rfl (Nat.le_of_ble_eq_true rfl) dX2_doAgain_39 (by decide)) hP hD hS hA [0] [1, 2, 3, 4, 5, 6, 7] rfl rfl (by decide) (by decide) (Nat.le_of_ble_eq_true rfl) (Nat.le_of_ble_eq_true rfl) (fun r w1 H locs hpost hP hD hS => ?_)
    obtain ⟨v_4, g_5, g_6, o_7, rfl, rfl⟩ := hpost
    have hP : va_P D vwCl [(h2, .inl (cI, 1107, .inl f6)), (h1, .inr (3, [.ref h7, .ref h8, .ref h9, .ref h10, .ref h11, .ref h12, .int x13, .int x14])), (h7, .inr (8, [.int x15, .int x16, .int x17, .ref h18, .ref h19, .ref h20, .ref h21, .ref h22, .ref h23, .ref h24, .ref h25, .ref h26, .ref h27, .int x28, .int x29, .int x30, .int x31, .int x32])), (h8, .inl (cI, 7, .inl f33)), (h9, .inl (cI, 7, .inl f34)), (h10, .inl (cI, 7, .inl f35)), (h11, .inl (cI, 4, .inl f36)), (h0, .inr (2, [.ref h2, .int x3, .int v_2, .int v_3]))] H := hP
    have hD : va_D A [(h2, .inl (cI, 1107, .inl f6)), (h1, .inr (3, [.ref h7, .ref h8, .ref h9, .ref h10, .ref h11, .ref h12, .int x13, .int x14])), (h7, .inr (8, [.int x15, .int x16, .int x17, .ref h18, .ref h19, .ref h20, .ref h21, .ref h22, .ref h23, .ref h24, .ref h25, .ref h26, .ref h27, .int x28, .int x29, .int x30, .int x31, .int x32])), (h8, .inl (cI, 7, .inl f33)), (h9, .inl (cI, 7, .inl f34)), (h10, .inl (cI, 7, .inl f35)), (h11, .inl (cI, 4, .inl f36)), (h0, .inr (2, [.ref h2, .int x3, .int v_2, .int v_3]))] := hD
    have o_8 : RW f6 (v_4.toInt) (x17.toInt) := hl_next go0 (o_7.c rfl rfl (by omega)) (by omega) (by omega)
    have o_9 : HL f6 (x3.toInt) (x4.toInt + 1) (x5.toInt - 1) (x17.toInt) := hl_again go0 (by omega)
    refine xc_core (wr := [(h0, .inr (2, [.ref h2, .int x3, .int v_2, .int v_3]))]) (k := 0) (n := 0) (xc_runV (As := [.ref h2, .int v_4]) (rest := []) hx hb hml hown hts hG hE hP hD hS hA [1, 0, 2, 3, 4, 5, 6] (by decide) rfl (sX3_readFrom_1 l D cB cI cJ cZ aK aV h1 h2 v_4 h7 h8 h9 h10 h11 h12 x13 x14 f6 x15 x16 x17 h18 h19 h20 h21 h22 h23 h24 h25 h26 h27 x28 x29 x30 x31 x32 f33 f34 f35 f36 (by omega) (by omega) (by omega) (by omega) (by omega) (by omega) (by omega) (by omega) (by omega) (by omega) (by omega) (by omega) (ga0.mono (by omega) (by omega) (by omega)) o_8) kw998 kw995 kw996 kw997 kw121 (show XD yX3_readFrom 2 from by decide +kernel) (by decide) rfl rfl 1 rfl hl.1 rfl (Nat.le_of_ble_eq_true rfl) dX2_doAgain_42 (by decide)) hP hD hS hA [1, 0, 2, 3, 4, 5, 6] [7] rfl rfl (by decide) (by decide) (Nat.le_of_ble_eq_true rfl) (Nat.le_of_ble_eq_true rfl) (fun r w1 H locs hpost hP hD hS => ?_)
    obtain ⟨v_10, v_11, f_12, f_13, f_14, f_15, g_16, g_17, a_18, rfl, rfl⟩ := hpost
    have hP : va_P D vwCl [(h0, .inr (2, [.ref h2, .int x3, .int v_2, .int v_3])), (h1, .inr (3, [.ref h7, .ref h8, .ref h9, .ref h10, .ref h11, .ref h12, .int v_10, .int v_11])), (h2, .inl (cI, 1107, .inl f6)), (h7, .inr (8, [.int x15, .int x16, .int x17, .ref h18, .ref h19, .ref h20, .ref h21, .ref h22, .ref h23, .ref h24, .ref h25, .ref h26, .ref h27, .int x28, .int x29, .int x30, .int x31, .int x32])), (h8, .inl (cI, 7, .inl f_12)), (h9, .inl (cI, 7, .inl f_13)), (h10, .inl (cI, 7, .inl f_14)), (h11, .inl (cI, 4, .inl f_15))] H := hP
    have hD : va_D A [(h0, .inr (2, [.ref h2, .int x3, .int v_2, .int v_3])), (h1, .inr (3, [.ref h7, .ref h8, .ref h9, .ref h10, .ref h11, .ref h12, .int v_10, .int v_11])), (h2, .inl (cI, 1107, .inl f6)), (h7, .inr (8, [.int x15, .int x16, .int x17, .ref h18, .ref h19, .ref h20, .ref h21, .ref h22, .ref h23, .ref h24, .ref h25, .ref h26, .ref h27, .int x28, .int x29, .int x30, .int x31, .int x32])), (h8, .inl (cI, 7, .inl f_12)), (h9, .inl (cI, 7, .inl f_13)), (h10, .inl (cI, 7, .inl f_14)), (h11, .inl (cI, 4, .inl f_15))] := hD
    refine lv_iconst (v := 1) hx hb dX2_doAgain_45 (by decide +kernel) ?_
    have hP9 := hP.sub (ws' := [(h0, .inr (2, [.ref h2, .int x3, .int v_2, .int v_3])), (h2, .inl (cI, 1107, .inl f6)), (h1, .inr (3, [.ref h7, .ref h8, .ref h9, .ref h10, .ref h11, .ref h12, .int v_10, .int v_11])), (h7, .inr (8, [.int x15, .int x16, .int x17, .ref h18, .ref h19, .ref h20, .ref h21, .ref h22, .ref h23, .ref h24, .ref h25, .ref h26, .ref h27, .int x28, .int x29, .int x30, .int x31, .int x32])), (h8, .inl (cI, 7, .inl f_12)), (h9, .inl (cI, 7, .inl f_13)), (h10, .inl (cI, 7, .inl f_14)), (h11, .inl (cI, 4, .inl f_15))]) [0, 2, 1, 3, 4, 5, 6, 7] rfl
    have hD9 := hD.sub (ws' := [(h0, .inr (2, [.ref h2, .int x3, .int v_2, .int v_3])), (h2, .inl (cI, 1107, .inl f6)), (h1, .inr (3, [.ref h7, .ref h8, .ref h9, .ref h10, .ref h11, .ref h12, .int v_10, .int v_11])), (h7, .inr (8, [.int x15, .int x16, .int x17, .ref h18, .ref h19, .ref h20, .ref h21, .ref h22, .ref h23, .ref h24, .ref h25, .ref h26, .ref h27, .int x28, .int x29, .int x30, .int x31, .int x32])), (h8, .inl (cI, 7, .inl f_12)), (h9, .inl (cI, 7, .inl f_13)), (h10, .inl (cI, 7, .inl f_14)), (h11, .inl (cI, 4, .inl f_15))]) [0, 2, 1, 3, 4, 5, 6, 7] (by decide) rfl
    exact xr_i (rm := (rmL 2 0 0)) hx hb hr hlocks hAe hS hP9 hD9 (by decide +kernel) (Nat.le_of_ble_eq_true rfl) (Nat.le_of_ble_eq_true rfl) dX2_doAgain_46 ⟨v_2, v_3, v_10, v_11, f_12, f_13, f_14, f_15, 1, by have zc1 : (1 : Int32).toInt = 1 := (by decide); omega, by have zc1 : (1 : Int32).toInt = 1 := (by decide); omega, by have zc1 : (1 : Int32).toInt = 1 := (by decide); omega, by have zc1 : (1 : Int32).toInt = 1 := (by decide); omega, by have zc1 : (1 : Int32).toInt = 1 := (by decide); omega, by have zc1 : (1 : Int32).toInt = 1 := (by decide); omega, by have zc1 : (1 : Int32).toInt = 1 := (by decide); omega, by have zc1 : (1 : Int32).toInt = 1 := (by decide); omega, by have zc1 : (1 : Int32).toInt = 1 := (by decide); omega, a_18.mono (by have zc1 : (1 : Int32).toInt = 1 := (by decide); omega) (by have zc1 : (1 : Int32).toInt = 1 := (by decide); omega) (by have zc1 : (1 : Int32).toInt = 1 := (by decide); omega), (HL.c o_9 (by have zc1 : (1 : Int32).toInt = 1 := (by decide); omega) (by have zc1 : (1 : Int32).toInt = 1 := (by decide); omega) (by have zc1 : (1 : Int32).toInt = 1 := (by decide); omega) (by have zc1 : (1 : Int32).toInt = 1 := (by decide); omega)), rfl, rfl⟩
  · have fc_1 : x5.toInt = (0 : Int) := i_eq rfl (by decide) c_1
    refine lv_iconst (v := 0) hx hb dX2_doAgain_7 (by decide +kernel) ?_
    have hP9 := hP.sub (ws' := [(h0, .inr (2, [.ref h2, .int x3, .int x4, .int x5])), (h2, .inl (cI, 1107, .inl f6)), (h1, .inr (3, [.ref h7, .ref h8, .ref h9, .ref h10, .ref h11, .ref h12, .int x13, .int x14])), (h7, .inr (8, [.int x15, .int x16, .int x17, .ref h18, .ref h19, .ref h20, .ref h21, .ref h22, .ref h23, .ref h24, .ref h25, .ref h26, .ref h27, .int x28, .int x29, .int x30, .int x31, .int x32])), (h8, .inl (cI, 7, .inl f33)), (h9, .inl (cI, 7, .inl f34)), (h10, .inl (cI, 7, .inl f35)), (h11, .inl (cI, 4, .inl f36))]) [0, 1, 2, 3, 4, 5, 6, 7] rfl
    have hD9 := hD.sub (ws' := [(h0, .inr (2, [.ref h2, .int x3, .int x4, .int x5])), (h2, .inl (cI, 1107, .inl f6)), (h1, .inr (3, [.ref h7, .ref h8, .ref h9, .ref h10, .ref h11, .ref h12, .int x13, .int x14])), (h7, .inr (8, [.int x15, .int x16, .int x17, .ref h18, .ref h19, .ref h20, .ref h21, .ref h22, .ref h23, .ref h24, .ref h25, .ref h26, .ref h27, .int x28, .int x29, .int x30, .int x31, .int x32])), (h8, .inl (cI, 7, .inl f33)), (h9, .inl (cI, 7, .inl f34)), (h10, .inl (cI, 7, .inl f35)), (h11, .inl (cI, 4, .inl f36))]) [0, 1, 2, 3, 4, 5, 6, 7] (by decide) rfl
    exact xr_i (rm := (rmL 2 0 0)) hx hb hr hlocks hAe hS hP9 hD9 (by decide +kernel) (Nat.le_of_ble_eq_true rfl) (Nat.le_of_ble_eq_true rfl) dX2_doAgain_8 ⟨x4, x5, x13, x14, f33, f34, f35, f36, 0, by have zc0 : (0 : Int32).toInt = 0 := (by decide); omega, by have zc0 : (0 : Int32).toInt = 0 := (by decide); omega, by have zc0 : (0 : Int32).toInt = 0 := (by decide); omega, by have zc0 : (0 : Int32).toInt = 0 := (by decide); omega, by have zc0 : (0 : Int32).toInt = 0 := (by decide); omega, by have zc0 : (0 : Int32).toInt = 0 := (by decide); omega, by have zc0 : (0 : Int32).toInt = 0 := (by decide); omega, by have zc0 : (0 : Int32).toInt = 0 := (by decide); omega, by have zc0 : (0 : Int32).toInt = 0 := (by decide); omega, ga0.mono (by have zc0 : (0 : Int32).toInt = 0 := (by decide); omega) (by have zc0 : (0 : Int32).toInt = 0 := (by decide); omega) (by have zc0 : (0 : Int32).toInt = 0 := (by decide); omega), go0, rfl, rfl⟩
