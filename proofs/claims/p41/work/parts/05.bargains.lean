theorem dX2_forget_0 : decode cX2_forget 0 = .ok (.aload_n 0, 1) := by decide +kernel
theorem dX2_forget_1 : decode cX2_forget 1 = .ok (.iconst 0, 1) := by decide +kernel
theorem kw469 : (.fieldLink RX2 15 "SpiceSwaps$History" "first" "I" : Cond) ∈ gT := gT_of 469 (by decide +kernel) (by decide +kernel)
theorem dX2_forget_2 : decode cX2_forget 2 = .ok (.putfield 15, 3) := by decide +kernel
theorem dX2_forget_5 : decode cX2_forget 5 = .ok (.aload_n 0, 1) := by decide +kernel
theorem dX2_forget_6 : decode cX2_forget 6 = .ok (.iconst 0, 1) := by decide +kernel
theorem kw470 : (.fieldLink RX2 19 "SpiceSwaps$History" "done" "I" : Cond) ∈ gT := gT_of 470 (by decide +kernel) (by decide +kernel)
theorem dX2_forget_7 : decode cX2_forget 7 = .ok (.putfield 19, 3) := by decide +kernel
theorem dX2_forget_10 : decode cX2_forget 10 = .ok (.aload_n 0, 1) := by decide +kernel
theorem dX2_forget_11 : decode cX2_forget 11 = .ok (.iconst 0, 1) := by decide +kernel
theorem kw472 : (.fieldLink RX2 22 "SpiceSwaps$History" "undone" "I" : Cond) ∈ gT := gT_of 472 (by decide +kernel) (by decide +kernel)
theorem dX2_forget_12 : decode cX2_forget 12 = .ok (.putfield 22, 3) := by decide +kernel
theorem dX2_forget_15 : decode cX2_forget 15 = .ok (.return_, 1) := by decide +kernel
set_option maxHeartbeats 4000000 in
set_option maxRecDepth 100000 in
theorem sX2_forget_1 (l : Launch) (D : va_G) (cB cI cJ cZ : ClassId) (aK aV : Nat → Nat) (h0 : Nat) (h1 : Nat) (x2 : Int32) (x3 : Int32) (x4 : Int32) (gh0 : 0 ≤ x2.toInt) (gh1 : 0 ≤ -x2.toInt + 40) (gh2 : 0 ≤ x3.toInt) (gh3 : 0 ≤ -x3.toInt + 40) (gh4 : 0 ≤ x4.toInt) (gh5 : 0 ≤ -x4.toInt + 40) : MX l yX2_forget cX2_forget 1 none (rmL 1 0 0) D cB cI cJ cZ aK aV [.ref h0] [(h0, .inr (2, [.ref h1, .int x2, .int x3, .int x4]))] (fun r w1 => r = none ∧ w1 = [(h0, .inr (2, [.ref h1, .int 0, .int 0, .int 0]))]) := by
  refine MX.intro (by decide) (Nat.le_of_ble_eq_true rfl) ?_
  intro p e s m below meth c A ls hx hb hr hml hown hlocks hnm hts hG hE hA hS hP hD hl hAe
  have hl : lv_has ls 1 [(0, .ref h0)] := hl
  have hown : s.vm.findClass RX2 = some m.cls := hown
  refine lv_aload_n hx hb dX2_forget_0 rfl (lv_at hl 0 rfl) ?_
  refine lv_iconst (v := 0) hx hb dX2_forget_1 (by decide +kernel) ?_
  refine va_put (D := D) (ci := 2) (v := .int 0) (ty := .int) (C := RX2) (T := TX2) (N := 4) hx hb hts inX2 tyX2 tyX2_ok nmX2 hown hG.1 hP hD hS 0 rfl rfl 1 (by decide) (hts _ kw469) (fun _ h9 => h9) rfl (by decide +kernel) rfl rfl (Nat.le_of_ble_eq_true rfl) dX2_forget_2 (fun H locs hP hD hS => ?_)
  have hP : va_P D vwCl [(h0, .inr (2, [.ref h1, .int 0, .int x3, .int x4]))] H := hP
  have hD : va_D A [(h0, .inr (2, [.ref h1, .int 0, .int x3, .int x4]))] := hD
  refine lv_aload_n hx hb dX2_forget_5 rfl (lv_at hl 0 rfl) ?_
  refine lv_iconst (v := 0) hx hb dX2_forget_6 (by decide +kernel) ?_
  refine va_put (D := D) (ci := 2) (v := .int 0) (ty := .int) (C := RX2) (T := TX2) (N := 4) hx hb hts inX2 tyX2 tyX2_ok nmX2 hown hG.1 hP hD hS 0 rfl rfl 2 (by decide) (hts _ kw470) (fun _ h9 => h9) rfl (by decide +kernel) rfl rfl (Nat.le_of_ble_eq_true rfl) dX2_forget_7 (fun H locs hP hD hS => ?_)
  have hP : va_P D vwCl [(h0, .inr (2, [.ref h1, .int 0, .int 0, .int x4]))] H := hP
  have hD : va_D A [(h0, .inr (2, [.ref h1, .int 0, .int 0, .int x4]))] := hD
  refine lv_aload_n hx hb dX2_forget_10 rfl (lv_at hl 0 rfl) ?_
  refine lv_iconst (v := 0) hx hb dX2_forget_11 (by decide +kernel) ?_
  refine va_put (D := D) (ci := 2) (v := .int 0) (ty := .int) (C := RX2) (T := TX2) (N := 4) hx hb hts inX2 tyX2 tyX2_ok nmX2 hown hG.1 hP hD hS 0 rfl rfl 3 (by decide) (hts _ kw472) (fun _ h9 => h9) rfl (by decide +kernel) rfl rfl (Nat.le_of_ble_eq_true rfl) dX2_forget_12 (fun H locs hP hD hS => ?_)
  have hP : va_P D vwCl [(h0, .inr (2, [.ref h1, .int 0, .int 0, .int 0]))] H := hP
  have hD : va_D A [(h0, .inr (2, [.ref h1, .int 0, .int 0, .int 0]))] := hD
  have hP9 := hP.sub (ws' := [(h0, .inr (2, [.ref h1, .int 0, .int 0, .int 0]))]) [0] rfl
  have hD9 := hD.sub (ws' := [(h0, .inr (2, [.ref h1, .int 0, .int 0, .int 0]))]) [0] (by decide) rfl
  exact xr_v (rm := (rmL 1 0 0)) hx hb hr hlocks hAe hS hP9 hD9 (Nat.le_of_ble_eq_true rfl) (Nat.le_of_ble_eq_true rfl) dX2_forget_15 ⟨rfl, rfl⟩
theorem dX2_rowAt_0 : decode cX2_rowAt 0 = .ok (.aload_n 0, 1) := by decide +kernel
theorem dX2_rowAt_1 : decode cX2_rowAt 1 = .ok (.getfield 15, 3) := by decide +kernel
theorem dX2_rowAt_4 : decode cX2_rowAt 4 = .ok (.iload_n 1, 1) := by decide +kernel
theorem dX2_rowAt_5 : decode cX2_rowAt 5 = .ok (.iadd, 1) := by decide +kernel
theorem dX2_rowAt_6 : decode cX2_rowAt 6 = .ok (.bipush 41, 2) := by decide +kernel
theorem dX2_rowAt_8 : decode cX2_rowAt 8 = .ok (.irem, 1) := by decide +kernel
theorem dX2_rowAt_9 : decode cX2_rowAt 9 = .ok (.bipush 27, 2) := by decide +kernel
theorem dX2_rowAt_11 : decode cX2_rowAt 11 = .ok (.imul, 1) := by decide +kernel
theorem dX2_rowAt_12 : decode cX2_rowAt 12 = .ok (.ireturn, 1) := by decide +kernel
set_option maxHeartbeats 4000000 in
set_option maxRecDepth 100000 in
theorem sX2_rowAt_1 (l : Launch) (D : va_G) (cB cI cJ cZ : ClassId) (aK aV : Nat → Nat) (h0 : Nat) (x1 : Int32) (h2 : Nat) (x3 : Int32) (x4 : Int32) (x5 : Int32) (gh0 : 0 ≤ x3.toInt) (gh1 : 0 ≤ -x3.toInt + 40) (gh2 : 0 ≤ x4.toInt) (gh3 : 0 ≤ -x4.toInt + 40) (gh4 : 0 ≤ x5.toInt) (gh5 : 0 ≤ -x5.toInt + 40) : MX l yX2_rowAt cX2_rowAt 2 (some .int) (rmL 1 0 0) D cB cI cJ cZ aK aV [.ref h0, .int x1] [(h0, .inr (2, [.ref h2, .int x3, .int x4, .int x5]))] (fun r w1 => ∃ z1 : Int32, r = some (.int z1) ∧ w1 = [(h0, .inr (2, [.ref h2, .int x3, .int x4, .int x5]))]) := by
  refine MX.intro (by decide) (Nat.le_of_ble_eq_true rfl) ?_
  intro p e s m below meth c A ls hx hb hr hml hown hlocks hnm hts hG hE hA hS hP hD hl hAe
  have hl : lv_has ls 2 [(0, .ref h0), (1, .int x1)] := hl
  have hown : s.vm.findClass RX2 = some m.cls := hown
  refine lv_aload_n hx hb dX2_rowAt_0 rfl (lv_at hl 0 rfl) ?_
  refine va_get (D := D) (ci := 2) (v := .int x3) (C := RX2) (T := TX2) (N := 4) hx hb hts inX2 hown hG.1 hP 0 rfl rfl 1 (by decide) (hts _ kw469) (fun _ h9 => h9) rfl dX2_rowAt_1 ?_
  refine lv_iload_n hx hb dX2_rowAt_4 rfl (lv_at hl 1 rfl) ?_
  refine lv_iadd hx hb dX2_rowAt_5 ?_
  refine xt_any (fun v_1 => ?_)
  refine lv_bipush (v := 41) hx hb dX2_rowAt_6 (by decide +kernel) ?_
  refine lv_irem hx hb dX2_rowAt_8 (by decide +kernel) ?_
  refine xt_any (fun v_2 => ?_)
  refine lv_bipush (v := 27) hx hb dX2_rowAt_9 (by decide +kernel) ?_
  refine lv_imul hx hb dX2_rowAt_11 ?_
  refine xt_any (fun v_3 => ?_)
  have hP9 := hP.sub (ws' := [(h0, .inr (2, [.ref h2, .int x3, .int x4, .int x5]))]) [0] rfl
  have hD9 := hD.sub (ws' := [(h0, .inr (2, [.ref h2, .int x3, .int x4, .int x5]))]) [0] (by decide) rfl
  exact xr_i (rm := (rmL 1 0 0)) hx hb hr hlocks hAe hS hP9 hD9 rfl (Nat.le_of_ble_eq_true rfl) (Nat.le_of_ble_eq_true rfl) dX2_rowAt_12 ⟨v_3, rfl, rfl⟩
theorem dX6_counts_0 : decode cX6_counts 0 = .ok (.aload_n 0, 1) := by decide +kernel
theorem dX6_counts_1 : decode cX6_counts 1 = .ok (.getfield 22, 3) := by decide +kernel
theorem dX6_counts_4 : decode cX6_counts 4 = .ok (.iload_n 1, 1) := by decide +kernel
theorem dX6_counts_5 : decode cX6_counts 5 = .ok (.iaload, 1) := by decide +kernel
theorem dX6_counts_6 : decode cX6_counts 6 = .ok (.iload_n 2, 1) := by decide +kernel
theorem dX6_counts_7 : decode cX6_counts 7 = .ok (.if_icmp .gt 27, 3) := by decide +kernel
theorem dX6_counts_34 : decode cX6_counts 34 = .ok (.iconst 0, 1) := by decide +kernel
theorem dX6_counts_35 : decode cX6_counts 35 = .ok (.ireturn, 1) := by decide +kernel
theorem dX6_counts_10 : decode cX6_counts 10 = .ok (.aload_n 0, 1) := by decide +kernel
theorem dX6_counts_11 : decode cX6_counts 11 = .ok (.getfield 25, 3) := by decide +kernel
theorem dX6_counts_14 : decode cX6_counts 14 = .ok (.iload_n 1, 1) := by decide +kernel
theorem dX6_counts_15 : decode cX6_counts 15 = .ok (.iaload, 1) := by decide +kernel
theorem dX6_counts_16 : decode cX6_counts 16 = .ok (.iconst (-1), 1) := by decide +kernel
theorem dX6_counts_17 : decode cX6_counts 17 = .ok (.if_icmp .eq 13, 3) := by decide +kernel
theorem dX6_counts_30 : decode cX6_counts 30 = .ok (.iconst 1, 1) := by decide +kernel
theorem dX6_counts_31 : decode cX6_counts 31 = .ok (.goto 4, 3) := by decide +kernel
theorem dX6_counts_20 : decode cX6_counts 20 = .ok (.aload_n 0, 1) := by decide +kernel
theorem dX6_counts_21 : decode cX6_counts 21 = .ok (.getfield 25, 3) := by decide +kernel
theorem dX6_counts_24 : decode cX6_counts 24 = .ok (.iload_n 1, 1) := by decide +kernel
theorem dX6_counts_25 : decode cX6_counts 25 = .ok (.iaload, 1) := by decide +kernel
theorem dX6_counts_26 : decode cX6_counts 26 = .ok (.iload_n 2, 1) := by decide +kernel
theorem dX6_counts_27 : decode cX6_counts 27 = .ok (.if_icmp .le 7, 3) := by decide +kernel
set_option maxHeartbeats 4000000 in
set_option maxRecDepth 100000 in
theorem sX6_counts_1 (l : Launch) (D : va_G) (cB cI cJ cZ : ClassId) (aK aV : Nat → Nat) (h0 : Nat) (x1 : Int32) (x2 : Int32) (h3 : Nat) (h4 : Nat) (h5 : Nat) (h6 : Nat) (h7 : Nat) (x8 : Int32) (f9 : Nat → Int32) (f10 : Nat → Int32) (gh0 : 0 ≤ x1.toInt) (gh1 : 0 ≤ -x1.toInt + 29) (gh2 : 0 ≤ x8.toInt) (gh3 : 0 ≤ -x8.toInt + 30) : MX l yX6_counts cX6_counts 3 (some .boolean) (rmL 1 0 0) D cB cI cJ cZ aK aV [.ref h0, .int x1, .int x2] [(h0, .inr (6, [.ref h3, .ref h4, .ref h5, .ref h6, .ref h7, .int x8])), (h6, .inl (cI, 30, .inl f9)), (h7, .inl (cI, 30, .inl f10))] (fun r w1 => ∃ z1 : Int32, 0 ≤ z1.toInt ∧ 0 ≤ -z1.toInt + 1 ∧ r = some (.int z1) ∧ w1 = [(h0, .inr (6, [.ref h3, .ref h4, .ref h5, .ref h6, .ref h7, .int x8])), (h6, .inl (cI, 30, .inl f9)), (h7, .inl (cI, 30, .inl f10))]) := by
  refine MX.intro (by decide) (Nat.le_of_ble_eq_true rfl) ?_
  intro p e s m below meth c A ls hx hb hr hml hown hlocks hnm hts hG hE hA hS hP hD hl hAe
  have hl : lv_has ls 3 [(0, .ref h0), (1, .int x1), (2, .int x2)] := hl
  have hown : s.vm.findClass RX6 = some m.cls := hown
  refine lv_aload_n hx hb dX6_counts_0 rfl (lv_at hl 0 rfl) ?_
  refine va_get (D := D) (ci := 6) (v := .ref h6) (C := RX6) (T := TX6) (N := 6) hx hb hts inX6 hown hG.1 hP 0 rfl rfl 3 (by decide) (hts _ kw549) (fun _ h9 => h9) rfl dX6_counts_1 ?_
  refine lv_iload_n hx hb dX6_counts_4 rfl (lv_at hl 1 rfl) ?_
  refine xa_ildU hx hb hG hP 1 rfl (vp_in_iff.mpr ⟨by omega, by omega⟩) dX6_counts_5 (fun v_1 => ?_)
  refine lv_iload_n hx hb dX6_counts_6 rfl (lv_at hl 2 rfl) ?_
  refine lv_icmp_gt (tgt := 34) hx hb dX6_counts_7 (by decide) (fun c_2 => ?_) (fun c_2 => ?_)
  · have fc_2 : x2.toInt < v_1.toInt := i_lt rfl rfl c_2
    refine lv_iconst (v := 0) hx hb dX6_counts_34 (by decide +kernel) ?_
    have hP9 := hP.sub (ws' := [(h0, .inr (6, [.ref h3, .ref h4, .ref h5, .ref h6, .ref h7, .int x8])), (h6, .inl (cI, 30, .inl f9)), (h7, .inl (cI, 30, .inl f10))]) [0, 1, 2] rfl
    have hD9 := hD.sub (ws' := [(h0, .inr (6, [.ref h3, .ref h4, .ref h5, .ref h6, .ref h7, .int x8])), (h6, .inl (cI, 30, .inl f9)), (h7, .inl (cI, 30, .inl f10))]) [0, 1, 2] (by decide) rfl
    exact xr_i (rm := (rmL 1 0 0)) hx hb hr hlocks hAe hS hP9 hD9 (by decide +kernel) (Nat.le_of_ble_eq_true rfl) (Nat.le_of_ble_eq_true rfl) dX6_counts_35 ⟨0, by have zc0 : (0 : Int32).toInt = 0 := (by decide); omega, by have zc0 : (0 : Int32).toInt = 0 := (by decide); omega, rfl, rfl⟩
  · have fc_2 : v_1.toInt ≤ x2.toInt := i_nlt rfl rfl c_2
    refine lv_aload_n hx hb dX6_counts_10 rfl (lv_at hl 0 rfl) ?_
    refine va_get (D := D) (ci := 6) (v := .ref h7) (C := RX6) (T := TX6) (N := 6) hx hb hts inX6 hown hG.1 hP 0 rfl rfl 4 (by decide) (hts _ kw550) (fun _ h9 => h9) rfl dX6_counts_11 ?_
    refine lv_iload_n hx hb dX6_counts_14 rfl (lv_at hl 1 rfl) ?_
    refine xa_ildU hx hb hG hP 2 rfl (vp_in_iff.mpr ⟨by omega, by omega⟩) dX6_counts_15 (fun v_3 => ?_)
    refine lv_iconst (v := (-1)) hx hb dX6_counts_16 (by decide +kernel) ?_
    refine lv_icmp_eq (tgt := 30) hx hb dX6_counts_17 (by decide) (fun c_4 => ?_) (fun c_4 => ?_)
    · have fc_4 : v_3.toInt = ((-1) : Int) := i_eq rfl (by decide) c_4
      refine lv_iconst (v := 1) hx hb dX6_counts_30 (by decide +kernel) ?_
      refine lv_goto (tgt := 35) hx hb dX6_counts_31 (by decide) ?_
      have hP9 := hP.sub (ws' := [(h0, .inr (6, [.ref h3, .ref h4, .ref h5, .ref h6, .ref h7, .int x8])), (h6, .inl (cI, 30, .inl f9)), (h7, .inl (cI, 30, .inl f10))]) [0, 1, 2] rfl
      have hD9 := hD.sub (ws' := [(h0, .inr (6, [.ref h3, .ref h4, .ref h5, .ref h6, .ref h7, .int x8])), (h6, .inl (cI, 30, .inl f9)), (h7, .inl (cI, 30, .inl f10))]) [0, 1, 2] (by decide) rfl
      exact xr_i (rm := (rmL 1 0 0)) hx hb hr hlocks hAe hS hP9 hD9 (by decide +kernel) (Nat.le_of_ble_eq_true rfl) (Nat.le_of_ble_eq_true rfl) dX6_counts_35 ⟨1, by have zc1 : (1 : Int32).toInt = 1 := (by decide); omega, by have zc1 : (1 : Int32).toInt = 1 := (by decide); omega, rfl, rfl⟩
    · have fc_4 : v_3.toInt ≠ ((-1) : Int) := i_ne rfl (by decide) c_4
      refine lv_aload_n hx hb dX6_counts_20 rfl (lv_at hl 0 rfl) ?_
      refine va_get (D := D) (ci := 6) (v := .ref h7) (C := RX6) (T := TX6) (N := 6) hx hb hts inX6 hown hG.1 hP 0 rfl rfl 4 (by decide) (hts _ kw550) (fun _ h9 => h9) rfl dX6_counts_21 ?_
      refine lv_iload_n hx hb dX6_counts_24 rfl (lv_at hl 1 rfl) ?_
      refine xa_ildU hx hb hG hP 2 rfl (vp_in_iff.mpr ⟨by omega, by omega⟩) dX6_counts_25 (fun v_5 => ?_)
      refine lv_iload_n hx hb dX6_counts_26 rfl (lv_at hl 2 rfl) ?_
      refine lv_icmp_le (tgt := 34) hx hb dX6_counts_27 (by decide) (fun c_6 => ?_) (fun c_6 => ?_)
      · have fc_6 : v_5.toInt ≤ x2.toInt := i_le rfl rfl c_6
        refine lv_iconst (v := 0) hx hb dX6_counts_34 (by decide +kernel) ?_
        have hP9 := hP.sub (ws' := [(h0, .inr (6, [.ref h3, .ref h4, .ref h5, .ref h6, .ref h7, .int x8])), (h6, .inl (cI, 30, .inl f9)), (h7, .inl (cI, 30, .inl f10))]) [0, 1, 2] rfl
        have hD9 := hD.sub (ws' := [(h0, .inr (6, [.ref h3, .ref h4, .ref h5, .ref h6, .ref h7, .int x8])), (h6, .inl (cI, 30, .inl f9)), (h7, .inl (cI, 30, .inl f10))]) [0, 1, 2] (by decide) rfl
        exact xr_i (rm := (rmL 1 0 0)) hx hb hr hlocks hAe hS hP9 hD9 (by decide +kernel) (Nat.le_of_ble_eq_true rfl) (Nat.le_of_ble_eq_true rfl) dX6_counts_35 ⟨0, by have zc0 : (0 : Int32).toInt = 0 := (by decide); omega, by have zc0 : (0 : Int32).toInt = 0 := (by decide); omega, rfl, rfl⟩
      · have fc_6 : x2.toInt < v_5.toInt := i_nle rfl rfl c_6
        refine lv_iconst (v := 1) hx hb dX6_counts_30 (by decide +kernel) ?_
        refine lv_goto (tgt := 35) hx hb dX6_counts_31 (by decide) ?_
        have hP9 := hP.sub (ws' := [(h0, .inr (6, [.ref h3, .ref h4, .ref h5, .ref h6, .ref h7, .int x8])), (h6, .inl (cI, 30, .inl f9)), (h7, .inl (cI, 30, .inl f10))]) [0, 1, 2] rfl
        have hD9 := hD.sub (ws' := [(h0, .inr (6, [.ref h3, .ref h4, .ref h5, .ref h6, .ref h7, .int x8])), (h6, .inl (cI, 30, .inl f9)), (h7, .inl (cI, 30, .inl f10))]) [0, 1, 2] (by decide) rfl
        exact xr_i (rm := (rmL 1 0 0)) hx hb hr hlocks hAe hS hP9 hD9 (by decide +kernel) (Nat.le_of_ble_eq_true rfl) (Nat.le_of_ble_eq_true rfl) dX6_counts_35 ⟨1, by have zc1 : (1 : Int32).toInt = 1 := (by decide); omega, by have zc1 : (1 : Int32).toInt = 1 := (by decide); omega, rfl, rfl⟩
theorem dX6_answerOf_0 : decode cX6_answerOf 0 = .ok (.iload_n 0, 1) := by decide +kernel
theorem dX6_answerOf_1 : decode cX6_answerOf 1 = .ok (.iconst 1, 1) := by decide +kernel
theorem dX6_answerOf_2 : decode cX6_answerOf 2 = .ok (.if_icmp .ne 13, 3) := by decide +kernel
theorem dX6_answerOf_15 : decode cX6_answerOf 15 = .ok (.iload_n 0, 1) := by decide +kernel
theorem dX6_answerOf_16 : decode cX6_answerOf 16 = .ok (.iconst 2, 1) := by decide +kernel
theorem dX6_answerOf_17 : decode cX6_answerOf 17 = .ok (.if_icmp .ne 12, 3) := by decide +kernel
theorem dX6_answerOf_29 : decode cX6_answerOf 29 = .ok (.aload_n 1, 1) := by decide +kernel
theorem kw437 : (.fieldLink RX6 68 "SpiceSwaps$Moment" "cropOf" "[I" : Cond) ∈ gT := gT_of 437 (by decide +kernel) (by decide +kernel)
theorem dX6_answerOf_30 : decode cX6_answerOf 30 = .ok (.getfield 68, 3) := by decide +kernel
theorem dX6_answerOf_33 : decode cX6_answerOf 33 = .ok (.iload_n 2, 1) := by decide +kernel
theorem dX6_answerOf_34 : decode cX6_answerOf 34 = .ok (.iaload, 1) := by decide +kernel
theorem dX6_answerOf_35 : decode cX6_answerOf 35 = .ok (.ireturn, 1) := by decide +kernel
theorem dX6_answerOf_20 : decode cX6_answerOf 20 = .ok (.aload_n 1, 1) := by decide +kernel
theorem kw431 : (.fieldLink RX6 65 "SpiceSwaps$Moment" "holderOf" "[I" : Cond) ∈ gT := gT_of 431 (by decide +kernel) (by decide +kernel)
theorem dX6_answerOf_21 : decode cX6_answerOf 21 = .ok (.getfield 65, 3) := by decide +kernel
theorem dX6_answerOf_24 : decode cX6_answerOf 24 = .ok (.iload_n 2, 1) := by decide +kernel
theorem dX6_answerOf_25 : decode cX6_answerOf 25 = .ok (.iaload, 1) := by decide +kernel
theorem dX6_answerOf_26 : decode cX6_answerOf 26 = .ok (.goto 9, 3) := by decide +kernel
theorem dX6_answerOf_5 : decode cX6_answerOf 5 = .ok (.aload_n 1, 1) := by decide +kernel
theorem kw427 : (.fieldLink RX6 32 "SpiceSwaps$Moment" "told" "LSpiceSwaps$Told;" : Cond) ∈ gT := gT_of 427 (by decide +kernel) (by decide +kernel)
theorem dX6_answerOf_6 : decode cX6_answerOf 6 = .ok (.getfield 32, 3) := by decide +kernel
theorem kw231 : (.fieldLink RX6 62 "SpiceSwaps$Told" "harbourOf" "[I" : Cond) ∈ gT := gT_of 231 (by decide +kernel) (by decide +kernel)
theorem dX6_answerOf_9 : decode cX6_answerOf 9 = .ok (.getfield 62, 3) := by decide +kernel
theorem dX6_answerOf_12 : decode cX6_answerOf 12 = .ok (.iload_n 2, 1) := by decide +kernel
theorem dX6_answerOf_13 : decode cX6_answerOf 13 = .ok (.iaload, 1) := by decide +kernel
theorem dX6_answerOf_14 : decode cX6_answerOf 14 = .ok (.ireturn, 1) := by decide +kernel
set_option maxHeartbeats 4000000 in
set_option maxRecDepth 100000 in
theorem sX6_answerOf_1 (l : Launch) (D : va_G) (cB cI cJ cZ : ClassId) (aK aV : Nat → Nat) (x0 : Int32) (h1 : Nat) (x2 : Int32) (h3 : Nat) (h4 : Nat) (h5 : Nat) (h6 : Nat) (h7 : Nat) (h8 : Nat) (x9 : Int32) (x10 : Int32) (f11 : Nat → Int32) (f12 : Nat → Int32) (x13 : Int32) (x14 : Int32) (x15 : Int32) (h16 : Nat) (h17 : Nat) (h18 : Nat) (h19 : Nat) (h20 : Nat) (h21 : Nat) (h22 : Nat) (h23 : Nat) (h24 : Nat) (h25 : Nat) (x26 : Int32) (x27 : Int32) (x28 : Int32) (x29 : Int32) (x30 : Int32) (f31 : Nat → Int32) (gh0 : 0 ≤ x2.toInt) (gh1 : 0 ≤ -x2.toInt + 6) (gh2 : 0 ≤ x10.toInt) (gh3 : 0 ≤ -x10.toInt + 999) (gh4 : 0 ≤ x13.toInt) (gh5 : 0 ≤ -x13.toInt + 4) (gh6 : 0 ≤ x14.toInt) (gh7 : 0 ≤ -x14.toInt + 3) (gh8 : 0 ≤ x15.toInt) (gh9 : 0 ≤ -x15.toInt + 7) (gh10 : 0 ≤ x29.toInt + 1) (gh11 : 0 ≤ -x29.toInt + 999) (ga0 : AR f12 (0) (3) (x15.toInt)) : MX l yX6_answerOf cX6_answerOf 3 (some .int) (rmL 1 0 0) D cB cI cJ cZ aK aV [.int x0, .ref h1, .int x2] [(h1, .inr (3, [.ref h3, .ref h4, .ref h5, .ref h6, .ref h7, .ref h8, .int x9, .int x10])), (h6, .inl (cI, 7, .inl f11)), (h3, .inr (8, [.int x13, .int x14, .int x15, .ref h16, .ref h17, .ref h18, .ref h19, .ref h20, .ref h21, .ref h22, .ref h23, .ref h24, .ref h25, .int x26, .int x27, .int x28, .int x29, .int x30])), (h4, .inl (cI, 7, .inl f12)), (h21, .inl (cI, 7, .inl f31))] (fun r w1 => ∃ z1 : Int32, r = some (.int z1) ∧ w1 = [(h1, .inr (3, [.ref h3, .ref h4, .ref h5, .ref h6, .ref h7, .ref h8, .int x9, .int x10])), (h6, .inl (cI, 7, .inl f11)), (h3, .inr (8, [.int x13, .int x14, .int x15, .ref h16, .ref h17, .ref h18, .ref h19, .ref h20, .ref h21, .ref h22, .ref h23, .ref h24, .ref h25, .int x26, .int x27, .int x28, .int x29, .int x30])), (h4, .inl (cI, 7, .inl f12)), (h21, .inl (cI, 7, .inl f31))]) := by
  refine MX.intro (by decide) (Nat.le_of_ble_eq_true rfl) ?_
  intro p e s m below meth c A ls hx hb hr hml hown hlocks hnm hts hG hE hA hS hP hD hl hAe
  have hl : lv_has ls 3 [(0, .int x0), (1, .ref h1), (2, .int x2)] := hl
  have hown : s.vm.findClass RX6 = some m.cls := hown
  refine lv_iload_n hx hb dX6_answerOf_0 rfl (lv_at hl 0 rfl) ?_
  refine lv_iconst (v := 1) hx hb dX6_answerOf_1 (by decide +kernel) ?_
  refine lv_icmp_ne (tgt := 15) hx hb dX6_answerOf_2 (by decide) (fun c_1 => ?_) (fun c_1 => ?_)
  · have fc_1 : x0.toInt ≠ (1 : Int) := i_ne rfl (by decide) c_1
    refine lv_iload_n hx hb dX6_answerOf_15 rfl (lv_at hl 0 rfl) ?_
    refine lv_iconst (v := 2) hx hb dX6_answerOf_16 (by decide +kernel) ?_
    refine lv_icmp_ne (tgt := 29) hx hb dX6_answerOf_17 (by decide) (fun c_2 => ?_) (fun c_2 => ?_)
    · have fc_2 : x0.toInt ≠ (2 : Int) := i_ne rfl (by decide) c_2
      refine lv_aload_n hx hb dX6_answerOf_29 rfl (lv_at hl 1 rfl) ?_
      refine va_get (D := D) (ci := 3) (v := .ref h6) (C := RX3) (T := TX3) (N := 8) hx hb hts inX3 hown hG.1 hP 0 rfl rfl 3 (by decide) (hts _ kw437) (fun _ h9 => h9) rfl dX6_answerOf_30 ?_
      refine lv_iload_n hx hb dX6_answerOf_33 rfl (lv_at hl 2 rfl) ?_
      refine xa_ildU hx hb hG hP 1 rfl (vp_in_iff.mpr ⟨by omega, by omega⟩) dX6_answerOf_34 (fun v_3 => ?_)
      have hP9 := hP.sub (ws' := [(h1, .inr (3, [.ref h3, .ref h4, .ref h5, .ref h6, .ref h7, .ref h8, .int x9, .int x10])), (h6, .inl (cI, 7, .inl f11)), (h3, .inr (8, [.int x13, .int x14, .int x15, .ref h16, .ref h17, .ref h18, .ref h19, .ref h20, .ref h21, .ref h22, .ref h23, .ref h24, .ref h25, .int x26, .int x27, .int x28, .int x29, .int x30])), (h4, .inl (cI, 7, .inl f12)), (h21, .inl (cI, 7, .inl f31))]) [0, 1, 2, 3, 4] rfl
      have hD9 := hD.sub (ws' := [(h1, .inr (3, [.ref h3, .ref h4, .ref h5, .ref h6, .ref h7, .ref h8, .int x9, .int x10])), (h6, .inl (cI, 7, .inl f11)), (h3, .inr (8, [.int x13, .int x14, .int x15, .ref h16, .ref h17, .ref h18, .ref h19, .ref h20, .ref h21, .ref h22, .ref h23, .ref h24, .ref h25, .int x26, .int x27, .int x28, .int x29, .int x30])), (h4, .inl (cI, 7, .inl f12)), (h21, .inl (cI, 7, .inl f31))]) [0, 1, 2, 3, 4] (by decide) rfl
      exact xr_i (rm := (rmL 1 0 0)) hx hb hr hlocks hAe hS hP9 hD9 rfl (Nat.le_of_ble_eq_true rfl) (Nat.le_of_ble_eq_true rfl) dX6_answerOf_35 ⟨v_3, rfl, rfl⟩
    · have fc_2 : x0.toInt = (2 : Int) := i_eq rfl (by decide) c_2
      refine lv_aload_n hx hb dX6_answerOf_20 rfl (lv_at hl 1 rfl) ?_
      refine va_get (D := D) (ci := 3) (v := .ref h4) (C := RX3) (T := TX3) (N := 8) hx hb hts inX3 hown hG.1 hP 0 rfl rfl 1 (by decide) (hts _ kw431) (fun _ h9 => h9) rfl dX6_answerOf_21 ?_
      refine lv_iload_n hx hb dX6_answerOf_24 rfl (lv_at hl 2 rfl) ?_
      refine xa_ildR hx hb hG hP 3 rfl (vp_in_iff.mpr ⟨by omega, by omega⟩) dX6_answerOf_25 (fun v_4 hv => ?_)
      refine lv_goto (tgt := 35) hx hb dX6_answerOf_26 (by decide) ?_
      have hP9 := hP.sub (ws' := [(h1, .inr (3, [.ref h3, .ref h4, .ref h5, .ref h6, .ref h7, .ref h8, .int x9, .int x10])), (h6, .inl (cI, 7, .inl f11)), (h3, .inr (8, [.int x13, .int x14, .int x15, .ref h16, .ref h17, .ref h18, .ref h19, .ref h20, .ref h21, .ref h22, .ref h23, .ref h24, .ref h25, .int x26, .int x27, .int x28, .int x29, .int x30])), (h4, .inl (cI, 7, .inl f12)), (h21, .inl (cI, 7, .inl f31))]) [0, 1, 2, 3, 4] rfl
      have hD9 := hD.sub (ws' := [(h1, .inr (3, [.ref h3, .ref h4, .ref h5, .ref h6, .ref h7, .ref h8, .int x9, .int x10])), (h6, .inl (cI, 7, .inl f11)), (h3, .inr (8, [.int x13, .int x14, .int x15, .ref h16, .ref h17, .ref h18, .ref h19, .ref h20, .ref h21, .ref h22, .ref h23, .ref h24, .ref h25, .int x26, .int x27, .int x28, .int x29, .int x30])), (h4, .inl (cI, 7, .inl f12)), (h21, .inl (cI, 7, .inl f31))]) [0, 1, 2, 3, 4] (by decide) rfl
      exact xr_i (rm := (rmL 1 0 0)) hx hb hr hlocks hAe hS hP9 hD9 rfl (Nat.le_of_ble_eq_true rfl) (Nat.le_of_ble_eq_true rfl) dX6_answerOf_35 ⟨v_4, rfl, rfl⟩
  · have fc_1 : x0.toInt = (1 : Int) := i_eq rfl (by decide) c_1
    refine lv_aload_n hx hb dX6_answerOf_5 rfl (lv_at hl 1 rfl) ?_
    refine va_get (D := D) (ci := 3) (v := .ref h3) (C := RX3) (T := TX3) (N := 8) hx hb hts inX3 hown hG.1 hP 0 rfl rfl 0 (by decide) (hts _ kw427) (fun _ h9 => h9) rfl dX6_answerOf_6 ?_
    refine va_get (D := D) (ci := 8) (v := .ref h21) (C := RX8) (T := TX8) (N := 18) hx hb hts inX8 hown hG.1 hP 2 rfl rfl 8 (by decide) (hts _ kw231) (fun _ h9 => h9) rfl dX6_answerOf_9 ?_
    refine lv_iload_n hx hb dX6_answerOf_12 rfl (lv_at hl 2 rfl) ?_
    refine xa_ildU hx hb hG hP 4 rfl (vp_in_iff.mpr ⟨by omega, by omega⟩) dX6_answerOf_13 (fun v_5 => ?_)
    have hP9 := hP.sub (ws' := [(h1, .inr (3, [.ref h3, .ref h4, .ref h5, .ref h6, .ref h7, .ref h8, .int x9, .int x10])), (h6, .inl (cI, 7, .inl f11)), (h3, .inr (8, [.int x13, .int x14, .int x15, .ref h16, .ref h17, .ref h18, .ref h19, .ref h20, .ref h21, .ref h22, .ref h23, .ref h24, .ref h25, .int x26, .int x27, .int x28, .int x29, .int x30])), (h4, .inl (cI, 7, .inl f12)), (h21, .inl (cI, 7, .inl f31))]) [0, 1, 2, 3, 4] rfl
    have hD9 := hD.sub (ws' := [(h1, .inr (3, [.ref h3, .ref h4, .ref h5, .ref h6, .ref h7, .ref h8, .int x9, .int x10])), (h6, .inl (cI, 7, .inl f11)), (h3, .inr (8, [.int x13, .int x14, .int x15, .ref h16, .ref h17, .ref h18, .ref h19, .ref h20, .ref h21, .ref h22, .ref h23, .ref h24, .ref h25, .int x26, .int x27, .int x28, .int x29, .int x30])), (h4, .inl (cI, 7, .inl f12)), (h21, .inl (cI, 7, .inl f31))]) [0, 1, 2, 3, 4] (by decide) rfl
    exact xr_i (rm := (rmL 1 0 0)) hx hb hr hlocks hAe hS hP9 hD9 rfl (Nat.le_of_ble_eq_true rfl) (Nat.le_of_ble_eq_true rfl) dX6_answerOf_14 ⟨v_5, rfl, rfl⟩
theorem dX6_isSo_0 : decode cX6_isSo 0 = .ok (.aload_n 0, 1) := by decide +kernel
theorem dX6_isSo_1 : decode cX6_isSo 1 = .ok (.getfield 11, 3) := by decide +kernel
theorem dX6_isSo_4 : decode cX6_isSo 4 = .ok (.iload_n 1, 1) := by decide +kernel
theorem dX6_isSo_5 : decode cX6_isSo 5 = .ok (.iaload, 1) := by decide +kernel
theorem dX6_isSo_6 : decode cX6_isSo 6 = .ok (.ifCond .ne 24, 3) := by decide +kernel
theorem dX6_isSo_30 : decode cX6_isSo 30 = .ok (.aload_n 0, 1) := by decide +kernel
theorem dX6_isSo_31 : decode cX6_isSo 31 = .ok (.getfield 11, 3) := by decide +kernel
theorem dX6_isSo_34 : decode cX6_isSo 34 = .ok (.iload_n 1, 1) := by decide +kernel
theorem dX6_isSo_35 : decode cX6_isSo 35 = .ok (.iaload, 1) := by decide +kernel
theorem dX6_isSo_36 : decode cX6_isSo 36 = .ok (.aload_n 2, 1) := by decide +kernel
theorem dX6_isSo_37 : decode cX6_isSo 37 = .ok (.iload_n 3, 1) := by decide +kernel
theorem kw1229 : (.methodLink RX6 58 yX6_answerOf : Cond) ∈ gT := gT_of 1229 (by decide +kernel) (by decide +kernel)
theorem kw1231 : (.code yX6_answerOf cX6_answerOf 3 (some .int) : Cond) ∈ gT := gT_of 1231 (by decide +kernel) (by decide +kernel)
theorem kw1230 : (.static yX6_answerOf : Cond) ∈ gT := gT_of 1230 (by decide +kernel) (by decide +kernel)
theorem kw125 : (.initialized RX6 : Cond) ∈ gT := gT_of 125 (by decide +kernel) (by decide +kernel)
theorem dX6_isSo_38 : decode cX6_isSo 38 = .ok (.invokestatic 58, 3) := by decide +kernel
theorem dX6_isSo_41 : decode cX6_isSo 41 = .ok (.aload_n 0, 1) := by decide +kernel
theorem dX6_isSo_42 : decode cX6_isSo 42 = .ok (.getfield 15, 3) := by decide +kernel
theorem dX6_isSo_45 : decode cX6_isSo 45 = .ok (.iload_n 1, 1) := by decide +kernel
theorem dX6_isSo_46 : decode cX6_isSo 46 = .ok (.iaload, 1) := by decide +kernel
theorem dX6_isSo_47 : decode cX6_isSo 47 = .ok (.if_icmp .ne 7, 3) := by decide +kernel
theorem dX6_isSo_54 : decode cX6_isSo 54 = .ok (.iconst 0, 1) := by decide +kernel
theorem dX6_isSo_55 : decode cX6_isSo 55 = .ok (.ireturn, 1) := by decide +kernel
theorem dX6_isSo_50 : decode cX6_isSo 50 = .ok (.iconst 1, 1) := by decide +kernel
theorem dX6_isSo_51 : decode cX6_isSo 51 = .ok (.goto 4, 3) := by decide +kernel
theorem dX6_isSo_9 : decode cX6_isSo 9 = .ok (.aload_n 2, 1) := by decide +kernel
theorem kw434 : (.fieldLink RX6 55 "SpiceSwaps$Moment" "yieldOf" "[I" : Cond) ∈ gT := gT_of 434 (by decide +kernel) (by decide +kernel)
theorem dX6_isSo_10 : decode cX6_isSo 10 = .ok (.getfield 55, 3) := by decide +kernel
theorem dX6_isSo_13 : decode cX6_isSo 13 = .ok (.iload_n 3, 1) := by decide +kernel
theorem dX6_isSo_14 : decode cX6_isSo 14 = .ok (.iaload, 1) := by decide +kernel
theorem dX6_isSo_15 : decode cX6_isSo 15 = .ok (.aload_n 0, 1) := by decide +kernel
theorem dX6_isSo_16 : decode cX6_isSo 16 = .ok (.getfield 15, 3) := by decide +kernel
theorem dX6_isSo_19 : decode cX6_isSo 19 = .ok (.iload_n 1, 1) := by decide +kernel
theorem dX6_isSo_20 : decode cX6_isSo 20 = .ok (.iaload, 1) := by decide +kernel
theorem dX6_isSo_21 : decode cX6_isSo 21 = .ok (.if_icmp .lt 7, 3) := by decide +kernel
theorem dX6_isSo_28 : decode cX6_isSo 28 = .ok (.iconst 0, 1) := by decide +kernel
theorem dX6_isSo_29 : decode cX6_isSo 29 = .ok (.ireturn, 1) := by decide +kernel
theorem dX6_isSo_24 : decode cX6_isSo 24 = .ok (.iconst 1, 1) := by decide +kernel
theorem dX6_isSo_25 : decode cX6_isSo 25 = .ok (.goto 4, 3) := by decide +kernel
set_option maxHeartbeats 4000000 in
set_option maxRecDepth 100000 in
theorem sX6_isSo_1 (l : Launch) (D : va_G) (cB cI cJ cZ : ClassId) (aK aV : Nat → Nat) (h0 : Nat) (x1 : Int32) (h2 : Nat) (x3 : Int32) (h4 : Nat) (h5 : Nat) (h6 : Nat) (h7 : Nat) (h8 : Nat) (x9 : Int32) (f10 : Nat → Int32) (h11 : Nat) (h12 : Nat) (h13 : Nat) (h14 : Nat) (h15 : Nat) (h16 : Nat) (x17 : Int32) (x18 : Int32) (f19 : Nat → Int32) (x20 : Int32) (x21 : Int32) (x22 : Int32) (h23 : Nat) (h24 : Nat) (h25 : Nat) (h26 : Nat) (h27 : Nat) (h28 : Nat) (h29 : Nat) (h30 : Nat) (h31 : Nat) (h32 : Nat) (x33 : Int32) (x34 : Int32) (x35 : Int32) (x36 : Int32) (x37 : Int32) (f38 : Nat → Int32) (f39 : Nat → Int32) (f40 : Nat → Int32) (f41 : Nat → Int32) (gh0 : 0 ≤ x1.toInt) (gh1 : 0 ≤ -x1.toInt + 29) (gh2 : 0 ≤ x3.toInt) (gh3 : 0 ≤ -x3.toInt + 6) (gh4 : 0 ≤ x9.toInt) (gh5 : 0 ≤ -x9.toInt + 30) (gh6 : 0 ≤ x18.toInt) (gh7 : 0 ≤ -x18.toInt + 999) (gh8 : 0 ≤ x20.toInt) (gh9 : 0 ≤ -x20.toInt + 4) (gh10 : 0 ≤ x21.toInt) (gh11 : 0 ≤ -x21.toInt + 3) (gh12 : 0 ≤ x22.toInt) (gh13 : 0 ≤ -x22.toInt + 7) (gh14 : 0 ≤ x36.toInt + 1) (gh15 : 0 ≤ -x36.toInt + 999) (ga0 : AR f38 (0) (3) (x22.toInt)) : MX l yX6_isSo cX6_isSo 4 (some .boolean) (rmL 2 0 0) D cB cI cJ cZ aK aV [.ref h0, .int x1, .ref h2, .int x3] [(h0, .inr (6, [.ref h4, .ref h5, .ref h6, .ref h7, .ref h8, .int x9])), (h4, .inl (cI, 30, .inl f10)), (h2, .inr (3, [.ref h11, .ref h12, .ref h13, .ref h14, .ref h15, .ref h16, .int x17, .int x18])), (h14, .inl (cI, 7, .inl f19)), (h11, .inr (8, [.int x20, .int x21, .int x22, .ref h23, .ref h24, .ref h25, .ref h26, .ref h27, .ref h28, .ref h29, .ref h30, .ref h31, .ref h32, .int x33, .int x34, .int x35, .int x36, .int x37])), (h12, .inl (cI, 7, .inl f38)), (h28, .inl (cI, 7, .inl f39)), (h5, .inl (cI, 30, .inl f40)), (h13, .inl (cI, 7, .inl f41))] (fun r w1 => ∃ z1 : Int32, 0 ≤ z1.toInt ∧ 0 ≤ -z1.toInt + 1 ∧ r = some (.int z1) ∧ w1 = [(h0, .inr (6, [.ref h4, .ref h5, .ref h6, .ref h7, .ref h8, .int x9])), (h4, .inl (cI, 30, .inl f10)), (h2, .inr (3, [.ref h11, .ref h12, .ref h13, .ref h14, .ref h15, .ref h16, .int x17, .int x18])), (h14, .inl (cI, 7, .inl f19)), (h11, .inr (8, [.int x20, .int x21, .int x22, .ref h23, .ref h24, .ref h25, .ref h26, .ref h27, .ref h28, .ref h29, .ref h30, .ref h31, .ref h32, .int x33, .int x34, .int x35, .int x36, .int x37])), (h12, .inl (cI, 7, .inl f38)), (h28, .inl (cI, 7, .inl f39)), (h5, .inl (cI, 30, .inl f40)), (h13, .inl (cI, 7, .inl f41))]) := by
  refine MX.intro (by decide) (Nat.le_of_ble_eq_true rfl) ?_
  intro p e s m below meth c A ls hx hb hr hml hown hlocks hnm hts hG hE hA hS hP hD hl hAe
  have hl : lv_has ls 4 [(0, .ref h0), (1, .int x1), (2, .ref h2), (3, .int x3)] := hl
  have hown : s.vm.findClass RX6 = some m.cls := hown
  refine lv_aload_n hx hb dX6_isSo_0 rfl (lv_at hl 0 rfl) ?_
  refine va_get (D := D) (ci := 6) (v := .ref h4) (C := RX6) (T := TX6) (N := 6) hx hb hts inX6 hown hG.1 hP 0 rfl rfl 0 (by decide) (hts _ kw546) (fun _ h9 => h9) rfl dX6_isSo_1 ?_
  refine lv_iload_n hx hb dX6_isSo_4 rfl (lv_at hl 1 rfl) ?_
  refine xa_ildU hx hb hG hP 1 rfl (vp_in_iff.mpr ⟨by omega, by omega⟩) dX6_isSo_5 (fun v_1 => ?_)
  refine lv_if_ne (tgt := 30) hx hb dX6_isSo_6 (by decide) (fun c_2 => ?_) (fun c_2 => ?_)
  · have fc_2 : v_1.toInt ≠ (0 : Int) := i_ne rfl (by decide) c_2
    refine lv_aload_n hx hb dX6_isSo_30 rfl (lv_at hl 0 rfl) ?_
    refine va_get (D := D) (ci := 6) (v := .ref h4) (C := RX6) (T := TX6) (N := 6) hx hb hts inX6 hown hG.1 hP 0 rfl rfl 0 (by decide) (hts _ kw546) (fun _ h9 => h9) rfl dX6_isSo_31 ?_
    refine lv_iload_n hx hb dX6_isSo_34 rfl (lv_at hl 1 rfl) ?_
    refine xa_ildU hx hb hG hP 1 rfl (vp_in_iff.mpr ⟨by omega, by omega⟩) dX6_isSo_35 (fun v_3 => ?_)
    refine lv_aload_n hx hb dX6_isSo_36 rfl (lv_at hl 2 rfl) ?_
    refine lv_iload_n hx hb dX6_isSo_37 rfl (lv_at hl 3 rfl) ?_
    refine xc_core (wr := [(h0, .inr (6, [.ref h4, .ref h5, .ref h6, .ref h7, .ref h8, .int x9])), (h4, .inl (cI, 30, .inl f10)), (h5, .inl (cI, 30, .inl f40)), (h13, .inl (cI, 7, .inl f41))]) (k := 0) (n := 0) (xc_runS (As := [.int v_3, .ref h2, .int x3]) (rest := []) hx hb hml hown hts hG hE hP hD hS hA [2, 3, 4, 5, 6] (by decide) rfl (sX6_answerOf_1 l D cB cI cJ cZ aK aV v_3 h2 x3 h11 h12 h13 h14 h15 h16 x17 x18 f19 f38 x20 x21 x22 h23 h24 h25 h26 h27 h28 h29 h30 h31 h32 x33 x34 x35 x36 x37 f39 (by omega) (by omega) (by omega) (by omega) (by omega) (by omega) (by omega) (by omega) (by omega) (by omega) (by omega) (by omega) (ga0.mono (by omega) (by omega) (by omega))) kw1231 kw1229 kw1230 kw125 (show XD yX6_answerOf 3 from by decide +kernel) (by decide) hl.1 rfl (Nat.le_of_ble_eq_true rfl) dX6_isSo_38 (by decide)) hP hD hS hA [2, 3, 4, 5, 6] [0, 1, 7, 8] rfl rfl (by decide) (by decide) (Nat.le_of_ble_eq_true rfl) (Nat.le_of_ble_eq_true rfl) (fun r w1 H locs hpost hP hD hS => ?_)
    obtain ⟨v_4, rfl, rfl⟩ := hpost
    have hP : va_P D vwCl [(h0, .inr (6, [.ref h4, .ref h5, .ref h6, .ref h7, .ref h8, .int x9])), (h4, .inl (cI, 30, .inl f10)), (h5, .inl (cI, 30, .inl f40)), (h13, .inl (cI, 7, .inl f41)), (h2, .inr (3, [.ref h11, .ref h12, .ref h13, .ref h14, .ref h15, .ref h16, .int x17, .int x18])), (h14, .inl (cI, 7, .inl f19)), (h11, .inr (8, [.int x20, .int x21, .int x22, .ref h23, .ref h24, .ref h25, .ref h26, .ref h27, .ref h28, .ref h29, .ref h30, .ref h31, .ref h32, .int x33, .int x34, .int x35, .int x36, .int x37])), (h12, .inl (cI, 7, .inl f38)), (h28, .inl (cI, 7, .inl f39))] H := hP
    have hD : va_D A [(h0, .inr (6, [.ref h4, .ref h5, .ref h6, .ref h7, .ref h8, .int x9])), (h4, .inl (cI, 30, .inl f10)), (h5, .inl (cI, 30, .inl f40)), (h13, .inl (cI, 7, .inl f41)), (h2, .inr (3, [.ref h11, .ref h12, .ref h13, .ref h14, .ref h15, .ref h16, .int x17, .int x18])), (h14, .inl (cI, 7, .inl f19)), (h11, .inr (8, [.int x20, .int x21, .int x22, .ref h23, .ref h24, .ref h25, .ref h26, .ref h27, .ref h28, .ref h29, .ref h30, .ref h31, .ref h32, .int x33, .int x34, .int x35, .int x36, .int x37])), (h12, .inl (cI, 7, .inl f38)), (h28, .inl (cI, 7, .inl f39))] := hD
    refine lv_aload_n hx hb dX6_isSo_41 rfl (lv_at hl 0 rfl) ?_
    refine va_get (D := D) (ci := 6) (v := .ref h5) (C := RX6) (T := TX6) (N := 6) hx hb hts inX6 hown hG.1 hP 0 rfl rfl 1 (by decide) (hts _ kw547) (fun _ h9 => h9) rfl dX6_isSo_42 ?_
    refine lv_iload_n hx hb dX6_isSo_45 rfl (lv_at hl 1 rfl) ?_
    refine xa_ildU hx hb hG hP 2 rfl (vp_in_iff.mpr ⟨by omega, by omega⟩) dX6_isSo_46 (fun v_5 => ?_)
    refine lv_icmp_ne (tgt := 54) hx hb dX6_isSo_47 (by decide) (fun c_6 => ?_) (fun c_6 => ?_)
    · have fc_6 : v_4.toInt ≠ v_5.toInt := i_ne rfl rfl c_6
      refine lv_iconst (v := 0) hx hb dX6_isSo_54 (by decide +kernel) ?_
      have hP9 := hP.sub (ws' := [(h0, .inr (6, [.ref h4, .ref h5, .ref h6, .ref h7, .ref h8, .int x9])), (h4, .inl (cI, 30, .inl f10)), (h2, .inr (3, [.ref h11, .ref h12, .ref h13, .ref h14, .ref h15, .ref h16, .int x17, .int x18])), (h14, .inl (cI, 7, .inl f19)), (h11, .inr (8, [.int x20, .int x21, .int x22, .ref h23, .ref h24, .ref h25, .ref h26, .ref h27, .ref h28, .ref h29, .ref h30, .ref h31, .ref h32, .int x33, .int x34, .int x35, .int x36, .int x37])), (h12, .inl (cI, 7, .inl f38)), (h28, .inl (cI, 7, .inl f39)), (h5, .inl (cI, 30, .inl f40)), (h13, .inl (cI, 7, .inl f41))]) [0, 1, 4, 5, 6, 7, 8, 2, 3] rfl
      have hD9 := hD.sub (ws' := [(h0, .inr (6, [.ref h4, .ref h5, .ref h6, .ref h7, .ref h8, .int x9])), (h4, .inl (cI, 30, .inl f10)), (h2, .inr (3, [.ref h11, .ref h12, .ref h13, .ref h14, .ref h15, .ref h16, .int x17, .int x18])), (h14, .inl (cI, 7, .inl f19)), (h11, .inr (8, [.int x20, .int x21, .int x22, .ref h23, .ref h24, .ref h25, .ref h26, .ref h27, .ref h28, .ref h29, .ref h30, .ref h31, .ref h32, .int x33, .int x34, .int x35, .int x36, .int x37])), (h12, .inl (cI, 7, .inl f38)), (h28, .inl (cI, 7, .inl f39)), (h5, .inl (cI, 30, .inl f40)), (h13, .inl (cI, 7, .inl f41))]) [0, 1, 4, 5, 6, 7, 8, 2, 3] (by decide) rfl
      exact xr_i (rm := (rmL 2 0 0)) hx hb hr hlocks hAe hS hP9 hD9 (by decide +kernel) (Nat.le_of_ble_eq_true rfl) (Nat.le_of_ble_eq_true rfl) dX6_isSo_55 ⟨0, by have zc0 : (0 : Int32).toInt = 0 := (by decide); omega, by have zc0 : (0 : Int32).toInt = 0 := (by decide); omega, rfl, rfl⟩
    · have fc_6 : v_4.toInt = v_5.toInt := i_eq rfl rfl c_6
      refine lv_iconst (v := 1) hx hb dX6_isSo_50 (by decide +kernel) ?_
      refine lv_goto (tgt := 55) hx hb dX6_isSo_51 (by decide) ?_
      have hP9 := hP.sub (ws' := [(h0, .inr (6, [.ref h4, .ref h5, .ref h6, .ref h7, .ref h8, .int x9])), (h4, .inl (cI, 30, .inl f10)), (h2, .inr (3, [.ref h11, .ref h12, .ref h13, .ref h14, .ref h15, .ref h16, .int x17, .int x18])), (h14, .inl (cI, 7, .inl f19)), (h11, .inr (8, [.int x20, .int x21, .int x22, .ref h23, .ref h24, .ref h25, .ref h26, .ref h27, .ref h28, .ref h29, .ref h30, .ref h31, .ref h32, .int x33, .int x34, .int x35, .int x36, .int x37])), (h12, .inl (cI, 7, .inl f38)), (h28, .inl (cI, 7, .inl f39)), (h5, .inl (cI, 30, .inl f40)), (h13, .inl (cI, 7, .inl f41))]) [0, 1, 4, 5, 6, 7, 8, 2, 3] rfl
      have hD9 := hD.sub (ws' := [(h0, .inr (6, [.ref h4, .ref h5, .ref h6, .ref h7, .ref h8, .int x9])), (h4, .inl (cI, 30, .inl f10)), (h2, .inr (3, [.ref h11, .ref h12, .ref h13, .ref h14, .ref h15, .ref h16, .int x17, .int x18])), (h14, .inl (cI, 7, .inl f19)), (h11, .inr (8, [.int x20, .int x21, .int x22, .ref h23, .ref h24, .ref h25, .ref h26, .ref h27, .ref h28, .ref h29, .ref h30, .ref h31, .ref h32, .int x33, .int x34, .int x35, .int x36, .int x37])), (h12, .inl (cI, 7, .inl f38)), (h28, .inl (cI, 7, .inl f39)), (h5, .inl (cI, 30, .inl f40)), (h13, .inl (cI, 7, .inl f41))]) [0, 1, 4, 5, 6, 7, 8, 2, 3] (by decide) rfl
      exact xr_i (rm := (rmL 2 0 0)) hx hb hr hlocks hAe hS hP9 hD9 (by decide +kernel) (Nat.le_of_ble_eq_true rfl) (Nat.le_of_ble_eq_true rfl) dX6_isSo_55 ⟨1, by have zc1 : (1 : Int32).toInt = 1 := (by decide); omega, by have zc1 : (1 : Int32).toInt = 1 := (by decide); omega, rfl, rfl⟩
  · have fc_2 : v_1.toInt = (0 : Int) := i_eq rfl (by decide) c_2
    refine lv_aload_n hx hb dX6_isSo_9 rfl (lv_at hl 2 rfl) ?_
    refine va_get (D := D) (ci := 3) (v := .ref h13) (C := RX3) (T := TX3) (N := 8) hx hb hts inX3 hown hG.1 hP 2 rfl rfl 2 (by decide) (hts _ kw434) (fun _ h9 => h9) rfl dX6_isSo_10 ?_
    refine lv_iload_n hx hb dX6_isSo_13 rfl (lv_at hl 3 rfl) ?_
    refine xa_ildU hx hb hG hP 8 rfl (vp_in_iff.mpr ⟨by omega, by omega⟩) dX6_isSo_14 (fun v_7 => ?_)
    refine lv_aload_n hx hb dX6_isSo_15 rfl (lv_at hl 0 rfl) ?_
    refine va_get (D := D) (ci := 6) (v := .ref h5) (C := RX6) (T := TX6) (N := 6) hx hb hts inX6 hown hG.1 hP 0 rfl rfl 1 (by decide) (hts _ kw547) (fun _ h9 => h9) rfl dX6_isSo_16 ?_
    refine lv_iload_n hx hb dX6_isSo_19 rfl (lv_at hl 1 rfl) ?_
    refine xa_ildU hx hb hG hP 7 rfl (vp_in_iff.mpr ⟨by omega, by omega⟩) dX6_isSo_20 (fun v_8 => ?_)
    refine lv_icmp_lt (tgt := 28) hx hb dX6_isSo_21 (by decide) (fun c_9 => ?_) (fun c_9 => ?_)
    · have fc_9 : v_7.toInt < v_8.toInt := i_lt rfl rfl c_9
      refine lv_iconst (v := 0) hx hb dX6_isSo_28 (by decide +kernel) ?_
      have hP9 := hP.sub (ws' := [(h0, .inr (6, [.ref h4, .ref h5, .ref h6, .ref h7, .ref h8, .int x9])), (h4, .inl (cI, 30, .inl f10)), (h2, .inr (3, [.ref h11, .ref h12, .ref h13, .ref h14, .ref h15, .ref h16, .int x17, .int x18])), (h14, .inl (cI, 7, .inl f19)), (h11, .inr (8, [.int x20, .int x21, .int x22, .ref h23, .ref h24, .ref h25, .ref h26, .ref h27, .ref h28, .ref h29, .ref h30, .ref h31, .ref h32, .int x33, .int x34, .int x35, .int x36, .int x37])), (h12, .inl (cI, 7, .inl f38)), (h28, .inl (cI, 7, .inl f39)), (h5, .inl (cI, 30, .inl f40)), (h13, .inl (cI, 7, .inl f41))]) [0, 1, 2, 3, 4, 5, 6, 7, 8] rfl
      have hD9 := hD.sub (ws' := [(h0, .inr (6, [.ref h4, .ref h5, .ref h6, .ref h7, .ref h8, .int x9])), (h4, .inl (cI, 30, .inl f10)), (h2, .inr (3, [.ref h11, .ref h12, .ref h13, .ref h14, .ref h15, .ref h16, .int x17, .int x18])), (h14, .inl (cI, 7, .inl f19)), (h11, .inr (8, [.int x20, .int x21, .int x22, .ref h23, .ref h24, .ref h25, .ref h26, .ref h27, .ref h28, .ref h29, .ref h30, .ref h31, .ref h32, .int x33, .int x34, .int x35, .int x36, .int x37])), (h12, .inl (cI, 7, .inl f38)), (h28, .inl (cI, 7, .inl f39)), (h5, .inl (cI, 30, .inl f40)), (h13, .inl (cI, 7, .inl f41))]) [0, 1, 2, 3, 4, 5, 6, 7, 8] (by decide) rfl
      exact xr_i (rm := (rmL 2 0 0)) hx hb hr hlocks hAe hS hP9 hD9 (by decide +kernel) (Nat.le_of_ble_eq_true rfl) (Nat.le_of_ble_eq_true rfl) dX6_isSo_29 ⟨0, by have zc0 : (0 : Int32).toInt = 0 := (by decide); omega, by have zc0 : (0 : Int32).toInt = 0 := (by decide); omega, rfl, rfl⟩
    · have fc_9 : v_8.toInt ≤ v_7.toInt := i_nlt rfl rfl c_9
      refine lv_iconst (v := 1) hx hb dX6_isSo_24 (by decide +kernel) ?_
      refine lv_goto (tgt := 29) hx hb dX6_isSo_25 (by decide) ?_
      have hP9 := hP.sub (ws' := [(h0, .inr (6, [.ref h4, .ref h5, .ref h6, .ref h7, .ref h8, .int x9])), (h4, .inl (cI, 30, .inl f10)), (h2, .inr (3, [.ref h11, .ref h12, .ref h13, .ref h14, .ref h15, .ref h16, .int x17, .int x18])), (h14, .inl (cI, 7, .inl f19)), (h11, .inr (8, [.int x20, .int x21, .int x22, .ref h23, .ref h24, .ref h25, .ref h26, .ref h27, .ref h28, .ref h29, .ref h30, .ref h31, .ref h32, .int x33, .int x34, .int x35, .int x36, .int x37])), (h12, .inl (cI, 7, .inl f38)), (h28, .inl (cI, 7, .inl f39)), (h5, .inl (cI, 30, .inl f40)), (h13, .inl (cI, 7, .inl f41))]) [0, 1, 2, 3, 4, 5, 6, 7, 8] rfl
      have hD9 := hD.sub (ws' := [(h0, .inr (6, [.ref h4, .ref h5, .ref h6, .ref h7, .ref h8, .int x9])), (h4, .inl (cI, 30, .inl f10)), (h2, .inr (3, [.ref h11, .ref h12, .ref h13, .ref h14, .ref h15, .ref h16, .int x17, .int x18])), (h14, .inl (cI, 7, .inl f19)), (h11, .inr (8, [.int x20, .int x21, .int x22, .ref h23, .ref h24, .ref h25, .ref h26, .ref h27, .ref h28, .ref h29, .ref h30, .ref h31, .ref h32, .int x33, .int x34, .int x35, .int x36, .int x37])), (h12, .inl (cI, 7, .inl f38)), (h28, .inl (cI, 7, .inl f39)), (h5, .inl (cI, 30, .inl f40)), (h13, .inl (cI, 7, .inl f41))]) [0, 1, 2, 3, 4, 5, 6, 7, 8] (by decide) rfl
      exact xr_i (rm := (rmL 2 0 0)) hx hb hr hlocks hAe hS hP9 hD9 (by decide +kernel) (Nat.le_of_ble_eq_true rfl) (Nat.le_of_ble_eq_true rfl) dX6_isSo_29 ⟨1, by have zc1 : (1 : Int32).toInt = 1 := (by decide); omega, by have zc1 : (1 : Int32).toInt = 1 := (by decide); omega, rfl, rfl⟩
theorem dX6_fitsAll_0 : decode cX6_fitsAll 0 = .ok (.iconst 0, 1) := by decide +kernel
theorem dX6_fitsAll_1 : decode cX6_fitsAll 1 = .ok (.istore 4, 2) := by decide +kernel
theorem dX6_fitsAll_3 : decode cX6_fitsAll 3 = .ok (.iload 4, 2) := by decide +kernel
theorem dX6_fitsAll_5 : decode cX6_fitsAll 5 = .ok (.aload_n 0, 1) := by decide +kernel
theorem dX6_fitsAll_6 : decode cX6_fitsAll 6 = .ok (.getfield 28, 3) := by decide +kernel
theorem dX6_fitsAll_9 : decode cX6_fitsAll 9 = .ok (.if_icmp .ge 46, 3) := by decide +kernel
theorem dX6_fitsAll_55 : decode cX6_fitsAll 55 = .ok (.iconst 1, 1) := by decide +kernel
theorem dX6_fitsAll_56 : decode cX6_fitsAll 56 = .ok (.ireturn, 1) := by decide +kernel
theorem dX6_fitsAll_12 : decode cX6_fitsAll 12 = .ok (.iload 4, 2) := by decide +kernel
theorem dX6_fitsAll_14 : decode cX6_fitsAll 14 = .ok (.bipush 30, 2) := by decide +kernel
theorem dX6_fitsAll_16 : decode cX6_fitsAll 16 = .ok (.if_icmp .ge 39, 3) := by decide +kernel
theorem dX6_fitsAll_19 : decode cX6_fitsAll 19 = .ok (.aload_n 0, 1) := by decide +kernel
theorem dX6_fitsAll_20 : decode cX6_fitsAll 20 = .ok (.iload 4, 2) := by decide +kernel
theorem dX6_fitsAll_22 : decode cX6_fitsAll 22 = .ok (.iload_n 3, 1) := by decide +kernel
theorem kw1221 : (.methodLink RX6 47 yX6_counts : Cond) ∈ gT := gT_of 1221 (by decide +kernel) (by decide +kernel)
theorem kw1224 : (.code yX6_counts cX6_counts 3 (some .boolean) : Cond) ∈ gT := gT_of 1224 (by decide +kernel) (by decide +kernel)
theorem kw1223 : (.instanceMethod yX6_counts : Cond) ∈ gT := gT_of 1223 (by decide +kernel) (by decide +kernel)
theorem kw39 : (.selects RX6 yX6_counts yX6_counts : Cond) ∈ gT := gT_of 39 (by decide +kernel) (by decide +kernel)
theorem dX6_fitsAll_23 : decode cX6_fitsAll 23 = .ok (.invokevirtual 47, 3) := by decide +kernel
theorem dX6_fitsAll_26 : decode cX6_fitsAll 26 = .ok (.ifCond .eq 23, 3) := by decide +kernel
theorem dX6_fitsAll_49 : decode cX6_fitsAll 49 = .ok (.iinc 4 1, 3) := by decide +kernel
theorem dX6_fitsAll_52 : decode cX6_fitsAll 52 = .ok (.goto (-49), 3) := by decide +kernel
theorem dX6_fitsAll_29 : decode cX6_fitsAll 29 = .ok (.aload_n 0, 1) := by decide +kernel
theorem dX6_fitsAll_30 : decode cX6_fitsAll 30 = .ok (.iload 4, 2) := by decide +kernel
theorem dX6_fitsAll_32 : decode cX6_fitsAll 32 = .ok (.aload_n 1, 1) := by decide +kernel
theorem dX6_fitsAll_33 : decode cX6_fitsAll 33 = .ok (.iload_n 2, 1) := by decide +kernel
theorem kw1225 : (.methodLink RX6 51 yX6_isSo : Cond) ∈ gT := gT_of 1225 (by decide +kernel) (by decide +kernel)
theorem kw1228 : (.code yX6_isSo cX6_isSo 4 (some .boolean) : Cond) ∈ gT := gT_of 1228 (by decide +kernel) (by decide +kernel)
theorem kw1227 : (.instanceMethod yX6_isSo : Cond) ∈ gT := gT_of 1227 (by decide +kernel) (by decide +kernel)
theorem kw40 : (.selects RX6 yX6_isSo yX6_isSo : Cond) ∈ gT := gT_of 40 (by decide +kernel) (by decide +kernel)
theorem dX6_fitsAll_34 : decode cX6_fitsAll 34 = .ok (.invokevirtual 51, 3) := by decide +kernel
theorem dX6_fitsAll_37 : decode cX6_fitsAll 37 = .ok (.aload_n 0, 1) := by decide +kernel
theorem dX6_fitsAll_38 : decode cX6_fitsAll 38 = .ok (.getfield 18, 3) := by decide +kernel
theorem dX6_fitsAll_41 : decode cX6_fitsAll 41 = .ok (.iload 4, 2) := by decide +kernel
theorem dX6_fitsAll_43 : decode cX6_fitsAll 43 = .ok (.baload, 1) := by decide +kernel
theorem dX6_fitsAll_44 : decode cX6_fitsAll 44 = .ok (.if_icmp .eq 5, 3) := by decide +kernel
theorem dX6_fitsAll_47 : decode cX6_fitsAll 47 = .ok (.iconst 0, 1) := by decide +kernel
theorem dX6_fitsAll_48 : decode cX6_fitsAll 48 = .ok (.ireturn, 1) := by decide +kernel
set_option maxHeartbeats 4000000 in
set_option maxRecDepth 100000 in
theorem sX6_fitsAll_1 (l : Launch) (D : va_G) (cB cI cJ cZ : ClassId) (aK aV : Nat → Nat) (h0 : Nat) (h1 : Nat) (x2 : Int32) (x3 : Int32) (h4 : Nat) (h5 : Nat) (h6 : Nat) (h7 : Nat) (h8 : Nat) (x9 : Int32) (f10 : Nat → Int32) (f11 : Nat → Int32) (f12 : Nat → Int32) (h13 : Nat) (h14 : Nat) (h15 : Nat) (h16 : Nat) (h17 : Nat) (h18 : Nat) (x19 : Int32) (x20 : Int32) (f21 : Nat → Int32) (x22 : Int32) (x23 : Int32) (x24 : Int32) (h25 : Nat) (h26 : Nat) (h27 : Nat) (h28 : Nat) (h29 : Nat) (h30 : Nat) (h31 : Nat) (h32 : Nat) (h33 : Nat) (h34 : Nat) (x35 : Int32) (x36 : Int32) (x37 : Int32) (x38 : Int32) (x39 : Int32) (f40 : Nat → Int32) (f41 : Nat → Int32) (f42 : Nat → Int32) (f43 : Nat → Int32) (f44 : Nat → Int32) (gh0 : 0 ≤ x2.toInt) (gh1 : 0 ≤ -x2.toInt + 6) (gh2 : 0 ≤ x9.toInt) (gh3 : 0 ≤ -x9.toInt + 30) (gh4 : 0 ≤ x20.toInt) (gh5 : 0 ≤ -x20.toInt + 999) (gh6 : 0 ≤ x22.toInt) (gh7 : 0 ≤ -x22.toInt + 4) (gh8 : 0 ≤ x23.toInt) (gh9 : 0 ≤ -x23.toInt + 3) (gh10 : 0 ≤ x24.toInt) (gh11 : 0 ≤ -x24.toInt + 7) (gh12 : 0 ≤ x38.toInt + 1) (gh13 : 0 ≤ -x38.toInt + 999) (ga0 : AR f40 (0) (3) (x24.toInt)) : MX l yX6_fitsAll cX6_fitsAll 5 (some .boolean) (rmL 3 0 0) D cB cI cJ cZ aK aV [.ref h0, .ref h1, .int x2, .int x3] [(h0, .inr (6, [.ref h4, .ref h5, .ref h6, .ref h7, .ref h8, .int x9])), (h7, .inl (cI, 30, .inl f10)), (h8, .inl (cI, 30, .inl f11)), (h4, .inl (cI, 30, .inl f12)), (h1, .inr (3, [.ref h13, .ref h14, .ref h15, .ref h16, .ref h17, .ref h18, .int x19, .int x20])), (h16, .inl (cI, 7, .inl f21)), (h13, .inr (8, [.int x22, .int x23, .int x24, .ref h25, .ref h26, .ref h27, .ref h28, .ref h29, .ref h30, .ref h31, .ref h32, .ref h33, .ref h34, .int x35, .int x36, .int x37, .int x38, .int x39])), (h14, .inl (cI, 7, .inl f40)), (h30, .inl (cI, 7, .inl f41)), (h5, .inl (cI, 30, .inl f42)), (h15, .inl (cI, 7, .inl f43)), (h6, .inl (cZ, 30, .inl f44))] (fun r w1 => ∃ z1 : Int32, 0 ≤ z1.toInt ∧ 0 ≤ -z1.toInt + 1 ∧ r = some (.int z1) ∧ w1 = [(h0, .inr (6, [.ref h4, .ref h5, .ref h6, .ref h7, .ref h8, .int x9])), (h7, .inl (cI, 30, .inl f10)), (h8, .inl (cI, 30, .inl f11)), (h4, .inl (cI, 30, .inl f12)), (h1, .inr (3, [.ref h13, .ref h14, .ref h15, .ref h16, .ref h17, .ref h18, .int x19, .int x20])), (h16, .inl (cI, 7, .inl f21)), (h13, .inr (8, [.int x22, .int x23, .int x24, .ref h25, .ref h26, .ref h27, .ref h28, .ref h29, .ref h30, .ref h31, .ref h32, .ref h33, .ref h34, .int x35, .int x36, .int x37, .int x38, .int x39])), (h14, .inl (cI, 7, .inl f40)), (h30, .inl (cI, 7, .inl f41)), (h5, .inl (cI, 30, .inl f42)), (h15, .inl (cI, 7, .inl f43)), (h6, .inl (cZ, 30, .inl f44))]) := by
  refine MX.intro (by decide) (Nat.le_of_ble_eq_true rfl) ?_
  intro p e s m below meth c A ls hx hb hr hml hown hlocks hnm hts hG hE hA hS hP hD hl hAe
  have hl : lv_has ls 5 [(0, .ref h0), (1, .ref h1), (2, .int x2), (3, .int x3)] := hl
  have hown : s.vm.findClass RX6 = some m.cls := hown
  refine lv_iconst (v := 0) hx hb dX6_fitsAll_0 (by decide +kernel) ?_
  refine lv_istore (lv' := [(4, .int 0), (0, .ref h0), (1, .ref h1), (2, .int x2), (3, .int x3)]) hx hb dX6_fitsAll_1 hl (by decide) rfl (fun ls hl => ?_)
  have lp_3 : ∀ (n : Nat) (x_2 : Int32) (H : Heap) (locs : List Loc) (ls : Array Slot), 0 ≤ x_2.toInt → 0 ≤ x9.toInt - x_2.toInt → -x_2.toInt + 30 < n → va_P D vwCl [(h0, .inr (6, [.ref h4, .ref h5, .ref h6, .ref h7, .ref h8, .int x9])), (h7, .inl (cI, 30, .inl f10)), (h8, .inl (cI, 30, .inl f11)), (h4, .inl (cI, 30, .inl f12)), (h1, .inr (3, [.ref h13, .ref h14, .ref h15, .ref h16, .ref h17, .ref h18, .int x19, .int x20])), (h16, .inl (cI, 7, .inl f21)), (h13, .inr (8, [.int x22, .int x23, .int x24, .ref h25, .ref h26, .ref h27, .ref h28, .ref h29, .ref h30, .ref h31, .ref h32, .ref h33, .ref h34, .int x35, .int x36, .int x37, .int x38, .int x39])), (h14, .inl (cI, 7, .inl f40)), (h30, .inl (cI, 7, .inl f41)), (h5, .inl (cI, 30, .inl f42)), (h15, .inl (cI, 7, .inl f43)), (h6, .inl (cZ, 30, .inl f44))] H → va_D A [(h0, .inr (6, [.ref h4, .ref h5, .ref h6, .ref h7, .ref h8, .int x9])), (h7, .inl (cI, 30, .inl f10)), (h8, .inl (cI, 30, .inl f11)), (h4, .inl (cI, 30, .inl f12)), (h1, .inr (3, [.ref h13, .ref h14, .ref h15, .ref h16, .ref h17, .ref h18, .int x19, .int x20])), (h16, .inl (cI, 7, .inl f21)), (h13, .inr (8, [.int x22, .int x23, .int x24, .ref h25, .ref h26, .ref h27, .ref h28, .ref h29, .ref h30, .ref h31, .ref h32, .ref h33, .ref h34, .int x35, .int x36, .int x37, .int x38, .int x39])), (h14, .inl (cI, 7, .inl f40)), (h30, .inl (cI, 7, .inl f41)), (h5, .inl (cI, 30, .inl f42)), (h15, .inl (cI, 7, .inl f43)), (h6, .inl (cZ, 30, .inl f44))] → va_S A s.heap H locs → lv_has ls 5 [(4, .int x_2), (0, .ref h0), (1, .ref h1), (2, .int x2), (3, .int x3)] → W p l e (rmL 3 0 0) s m [.ref h0, .ref h1, .int x2, .int x3].toArray below meth c H locs 0 0 (ZX D below [.ref h0, .ref h1, .int x2, .int x3] s (rmL 3 0 0) [(h0, .inr (6, [.ref h4, .ref h5, .ref h6, .ref h7, .ref h8, .int x9])), (h7, .inl (cI, 30, .inl f10)), (h8, .inl (cI, 30, .inl f11)), (h4, .inl (cI, 30, .inl f12)), (h1, .inr (3, [.ref h13, .ref h14, .ref h15, .ref h16, .ref h17, .ref h18, .int x19, .int x20])), (h16, .inl (cI, 7, .inl f21)), (h13, .inr (8, [.int x22, .int x23, .int x24, .ref h25, .ref h26, .ref h27, .ref h28, .ref h29, .ref h30, .ref h31, .ref h32, .ref h33, .ref h34, .int x35, .int x36, .int x37, .int x38, .int x39])), (h14, .inl (cI, 7, .inl f40)), (h30, .inl (cI, 7, .inl f41)), (h5, .inl (cI, 30, .inl f42)), (h15, .inl (cI, 7, .inl f43)), (h6, .inl (cZ, 30, .inl f44))] (fun r w1 => ∃ z1 : Int32, 0 ≤ z1.toInt ∧ 0 ≤ -z1.toInt + 1 ∧ r = some (.int z1) ∧ w1 = [(h0, .inr (6, [.ref h4, .ref h5, .ref h6, .ref h7, .ref h8, .int x9])), (h7, .inl (cI, 30, .inl f10)), (h8, .inl (cI, 30, .inl f11)), (h4, .inl (cI, 30, .inl f12)), (h1, .inr (3, [.ref h13, .ref h14, .ref h15, .ref h16, .ref h17, .ref h18, .int x19, .int x20])), (h16, .inl (cI, 7, .inl f21)), (h13, .inr (8, [.int x22, .int x23, .int x24, .ref h25, .ref h26, .ref h27, .ref h28, .ref h29, .ref h30, .ref h31, .ref h32, .ref h33, .ref h34, .int x35, .int x36, .int x37, .int x38, .int x39])), (h14, .inl (cI, 7, .inl f40)), (h30, .inl (cI, 7, .inl f41)), (h5, .inl (cI, 30, .inl f42)), (h15, .inl (cI, 7, .inl f43)), (h6, .inl (cZ, 30, .inl f44))])) (F0 m 3 ls []) := by
    intro n
    induction n with
    | zero => intro x_2 H locs ls g_4 g_5 g_6; omega
    | succ n ihlp_3 =>
      intro x_2 H locs ls g_4 g_5 g_6 hP hD hS hl
      refine lv_iload hx hb dX6_fitsAll_3 (lv_at hl 0 rfl) ?_
      refine lv_aload_n hx hb dX6_fitsAll_5 rfl (lv_at hl 1 rfl) ?_
      refine va_get (D := D) (ci := 6) (v := .int x9) (C := RX6) (T := TX6) (N := 6) hx hb hts inX6 hown hG.1 hP 0 rfl rfl 5 (by decide) (hts _ kw551) (fun _ h9 => h9) rfl dX6_fitsAll_6 ?_
      refine lv_icmp_ge (tgt := 55) hx hb dX6_fitsAll_9 (by decide) (fun c_7 => ?_) (fun c_7 => ?_)
      · have fc_7 : x9.toInt ≤ x_2.toInt := i_le rfl rfl c_7
        refine lv_iconst (v := 1) hx hb dX6_fitsAll_55 (by decide +kernel) ?_
        have hP9 := hP.sub (ws' := [(h0, .inr (6, [.ref h4, .ref h5, .ref h6, .ref h7, .ref h8, .int x9])), (h7, .inl (cI, 30, .inl f10)), (h8, .inl (cI, 30, .inl f11)), (h4, .inl (cI, 30, .inl f12)), (h1, .inr (3, [.ref h13, .ref h14, .ref h15, .ref h16, .ref h17, .ref h18, .int x19, .int x20])), (h16, .inl (cI, 7, .inl f21)), (h13, .inr (8, [.int x22, .int x23, .int x24, .ref h25, .ref h26, .ref h27, .ref h28, .ref h29, .ref h30, .ref h31, .ref h32, .ref h33, .ref h34, .int x35, .int x36, .int x37, .int x38, .int x39])), (h14, .inl (cI, 7, .inl f40)), (h30, .inl (cI, 7, .inl f41)), (h5, .inl (cI, 30, .inl f42)), (h15, .inl (cI, 7, .inl f43)), (h6, .inl (cZ, 30, .inl f44))]) [0, 1, 2, 3, 4, 5, 6, 7, 8, 9, 10, 11] rfl
        have hD9 := hD.sub (ws' := [(h0, .inr (6, [.ref h4, .ref h5, .ref h6, .ref h7, .ref h8, .int x9])), (h7, .inl (cI, 30, .inl f10)), (h8, .inl (cI, 30, .inl f11)), (h4, .inl (cI, 30, .inl f12)), (h1, .inr (3, [.ref h13, .ref h14, .ref h15, .ref h16, .ref h17, .ref h18, .int x19, .int x20])), (h16, .inl (cI, 7, .inl f21)), (h13, .inr (8, [.int x22, .int x23, .int x24, .ref h25, .ref h26, .ref h27, .ref h28, .ref h29, .ref h30, .ref h31, .ref h32, .ref h33, .ref h34, .int x35, .int x36, .int x37, .int x38, .int x39])), (h14, .inl (cI, 7, .inl f40)), (h30, .inl (cI, 7, .inl f41)), (h5, .inl (cI, 30, .inl f42)), (h15, .inl (cI, 7, .inl f43)), (h6, .inl (cZ, 30, .inl f44))]) [0, 1, 2, 3, 4, 5, 6, 7, 8, 9, 10, 11] (by decide) rfl
        exact xr_i (rm := (rmL 3 0 0)) hx hb hr hlocks hAe hS hP9 hD9 (by decide +kernel) (Nat.le_of_ble_eq_true rfl) (Nat.le_of_ble_eq_true rfl) dX6_fitsAll_56 ⟨1, by have zc1 : (1 : Int32).toInt = 1 := (by decide); omega, by have zc1 : (1 : Int32).toInt = 1 := (by decide); omega, rfl, rfl⟩
      · have fc_7 : x_2.toInt < x9.toInt := i_nle rfl rfl c_7
        refine lv_iload hx hb dX6_fitsAll_12 (lv_at hl 0 rfl) ?_
        refine lv_bipush (v := 30) hx hb dX6_fitsAll_14 (by decide +kernel) ?_
        refine lv_icmp_ge (tgt := 55) hx hb dX6_fitsAll_16 (by decide) (fun c_8 => by exfalso; have fc_8 : (30 : Int) ≤ x_2.toInt := i_le (by decide) rfl c_8; omega) (fun c_8 => ?_)
        have fc_8 : x_2.toInt < (30 : Int) := i_nle (by decide) rfl c_8
        refine lv_aload_n hx hb dX6_fitsAll_19 rfl (lv_at hl 1 rfl) ?_
        refine lv_iload hx hb dX6_fitsAll_20 (lv_at hl 0 rfl) ?_
        refine lv_iload_n hx hb dX6_fitsAll_22 rfl (lv_at hl 4 rfl) ?_
        refine xc_core (wr := [(h4, .inl (cI, 30, .inl f12)), (h1, .inr (3, [.ref h13, .ref h14, .ref h15, .ref h16, .ref h17, .ref h18, .int x19, .int x20])), (h16, .inl (cI, 7, .inl f21)), (h13, .inr (8, [.int x22, .int x23, .int x24, .ref h25, .ref h26, .ref h27, .ref h28, .ref h29, .ref h30, .ref h31, .ref h32, .ref h33, .ref h34, .int x35, .int x36, .int x37, .int x38, .int x39])), (h14, .inl (cI, 7, .inl f40)), (h30, .inl (cI, 7, .inl f41)), (h5, .inl (cI, 30, .inl f42)), (h15, .inl (cI, 7, .inl f43)), (h6, .inl (cZ, 30, .inl f44))]) (k := 0) (n := 0) (xc_runV (As := [.int x_2, .int x3]) (rest := []) hx hb hml hown hts hG hE hP hD hS hA [0, 1, 2] (by decide) rfl (sX6_counts_1 l D cB cI cJ cZ aK aV h0 x_2 x3 h4 h5 h6 h7 h8 x9 f10 f11 (by omega) (by omega) (by omega) (by omega)) kw1224 kw1221 kw1223 kw39 kw125 (show XD yX6_counts 2 from by decide +kernel) (by decide) rfl rfl 0 rfl hl.1 rfl (Nat.le_of_ble_eq_true rfl) dX6_fitsAll_23 (by decide)) hP hD hS hA [0, 1, 2] [3, 4, 5, 6, 7, 8, 9, 10, 11] rfl rfl (by decide) (by decide) (Nat.le_of_ble_eq_true rfl) (Nat.le_of_ble_eq_true rfl) (fun r w1 H locs hpost hP hD hS => ?_)
        obtain ⟨v_9, g_10, g_11, rfl, rfl⟩ := hpost
        have hP : va_P D vwCl [(h4, .inl (cI, 30, .inl f12)), (h1, .inr (3, [.ref h13, .ref h14, .ref h15, .ref h16, .ref h17, .ref h18, .int x19, .int x20])), (h16, .inl (cI, 7, .inl f21)), (h13, .inr (8, [.int x22, .int x23, .int x24, .ref h25, .ref h26, .ref h27, .ref h28, .ref h29, .ref h30, .ref h31, .ref h32, .ref h33, .ref h34, .int x35, .int x36, .int x37, .int x38, .int x39])), (h14, .inl (cI, 7, .inl f40)), (h30, .inl (cI, 7, .inl f41)), (h5, .inl (cI, 30, .inl f42)), (h15, .inl (cI, 7, .inl f43)), (h6, .inl (cZ, 30, .inl f44)), (h0, .inr (6, [.ref h4, .ref h5, .ref h6, .ref h7, .ref h8, .int x9])), (h7, .inl (cI, 30, .inl f10)), (h8, .inl (cI, 30, .inl f11))] H := hP
        have hD : va_D A [(h4, .inl (cI, 30, .inl f12)), (h1, .inr (3, [.ref h13, .ref h14, .ref h15, .ref h16, .ref h17, .ref h18, .int x19, .int x20])), (h16, .inl (cI, 7, .inl f21)), (h13, .inr (8, [.int x22, .int x23, .int x24, .ref h25, .ref h26, .ref h27, .ref h28, .ref h29, .ref h30, .ref h31, .ref h32, .ref h33, .ref h34, .int x35, .int x36, .int x37, .int x38, .int x39])), (h14, .inl (cI, 7, .inl f40)), (h30, .inl (cI, 7, .inl f41)), (h5, .inl (cI, 30, .inl f42)), (h15, .inl (cI, 7, .inl f43)), (h6, .inl (cZ, 30, .inl f44)), (h0, .inr (6, [.ref h4, .ref h5, .ref h6, .ref h7, .ref h8, .int x9])), (h7, .inl (cI, 30, .inl f10)), (h8, .inl (cI, 30, .inl f11))] := hD
        refine lv_if_eq (tgt := 49) hx hb dX6_fitsAll_26 (by decide) (fun c_12 => ?_) (fun c_12 => ?_)
        · have fc_12 : v_9.toInt = (0 : Int) := i_eq rfl (by decide) c_12
          obtain ⟨v_13, ev_13⟩ : ∃ y : Int32, y = x_2 + 1 := ⟨_, rfl⟩
          have gv_13 : v_13.toInt = x_2.toInt + 1 := by
            have zy : (1 : Int32).toInt = 1 := by decide
            rw [ev_13, i32_add (by rw [zy]; omega) (by rw [zy]; omega), zy]
          refine lv_iinc (v := v_13) (lv' := [(4, .int v_13), (0, .ref h0), (1, .ref h1), (2, .int x2), (3, .int x3)]) hx hb dX6_fitsAll_49 hl (k := 0) rfl (by rw [ev_13]; rfl) (by decide) rfl (fun ls hl => ?_)
          refine lv_goto (tgt := 3) hx hb dX6_fitsAll_52 (by decide) ?_
          exact ihlp_3  v_13 _ _ _ (by omega) (by omega) (by omega) (hP.sub (ws' := [(h0, .inr (6, [.ref h4, .ref h5, .ref h6, .ref h7, .ref h8, .int x9])), (h7, .inl (cI, 30, .inl f10)), (h8, .inl (cI, 30, .inl f11)), (h4, .inl (cI, 30, .inl f12)), (h1, .inr (3, [.ref h13, .ref h14, .ref h15, .ref h16, .ref h17, .ref h18, .int x19, .int x20])), (h16, .inl (cI, 7, .inl f21)), (h13, .inr (8, [.int x22, .int x23, .int x24, .ref h25, .ref h26, .ref h27, .ref h28, .ref h29, .ref h30, .ref h31, .ref h32, .ref h33, .ref h34, .int x35, .int x36, .int x37, .int x38, .int x39])), (h14, .inl (cI, 7, .inl f40)), (h30, .inl (cI, 7, .inl f41)), (h5, .inl (cI, 30, .inl f42)), (h15, .inl (cI, 7, .inl f43)), (h6, .inl (cZ, 30, .inl f44))]) [9, 10, 11, 0, 1, 2, 3, 4, 5, 6, 7, 8] rfl) (hD.sub (ws' := [(h0, .inr (6, [.ref h4, .ref h5, .ref h6, .ref h7, .ref h8, .int x9])), (h7, .inl (cI, 30, .inl f10)), (h8, .inl (cI, 30, .inl f11)), (h4, .inl (cI, 30, .inl f12)), (h1, .inr (3, [.ref h13, .ref h14, .ref h15, .ref h16, .ref h17, .ref h18, .int x19, .int x20])), (h16, .inl (cI, 7, .inl f21)), (h13, .inr (8, [.int x22, .int x23, .int x24, .ref h25, .ref h26, .ref h27, .ref h28, .ref h29, .ref h30, .ref h31, .ref h32, .ref h33, .ref h34, .int x35, .int x36, .int x37, .int x38, .int x39])), (h14, .inl (cI, 7, .inl f40)), (h30, .inl (cI, 7, .inl f41)), (h5, .inl (cI, 30, .inl f42)), (h15, .inl (cI, 7, .inl f43)), (h6, .inl (cZ, 30, .inl f44))]) [9, 10, 11, 0, 1, 2, 3, 4, 5, 6, 7, 8] (by decide) rfl) hS (lv_sub hl [0, 1, 2, 3, 4] rfl)
        · have fc_12 : v_9.toInt ≠ (0 : Int) := i_ne rfl (by decide) c_12
          refine lv_aload_n hx hb dX6_fitsAll_29 rfl (lv_at hl 1 rfl) ?_
          refine lv_iload hx hb dX6_fitsAll_30 (lv_at hl 0 rfl) ?_
          refine lv_aload_n hx hb dX6_fitsAll_32 rfl (lv_at hl 2 rfl) ?_
          refine lv_iload_n hx hb dX6_fitsAll_33 rfl (lv_at hl 3 rfl) ?_
          refine xc_core (wr := [(h6, .inl (cZ, 30, .inl f44)), (h7, .inl (cI, 30, .inl f10)), (h8, .inl (cI, 30, .inl f11))]) (k := 0) (n := 0) (xc_runV (As := [.int x_2, .ref h1, .int x2]) (rest := []) hx hb hml hown hts hG hE hP hD hS hA [9, 0, 1, 2, 3, 4, 5, 6, 7] (by decide) rfl (sX6_isSo_1 l D cB cI cJ cZ aK aV h0 x_2 h1 x2 h4 h5 h6 h7 h8 x9 f12 h13 h14 h15 h16 h17 h18 x19 x20 f21 x22 x23 x24 h25 h26 h27 h28 h29 h30 h31 h32 h33 h34 x35 x36 x37 x38 x39 f40 f41 f42 f43 (by omega) (by omega) (by omega) (by omega) (by omega) (by omega) (by omega) (by omega) (by omega) (by omega) (by omega) (by omega) (by omega) (by omega) (by omega) (by omega) (ga0.mono (by omega) (by omega) (by omega))) kw1228 kw1225 kw1227 kw40 kw125 (show XD yX6_isSo 3 from by decide +kernel) (by decide) rfl rfl 9 rfl hl.1 rfl (Nat.le_of_ble_eq_true rfl) dX6_fitsAll_34 (by decide)) hP hD hS hA [9, 0, 1, 2, 3, 4, 5, 6, 7] [8, 10, 11] rfl rfl (by decide) (by decide) (Nat.le_of_ble_eq_true rfl) (Nat.le_of_ble_eq_true rfl) (fun r w1 H locs hpost hP hD hS => ?_)
          obtain ⟨v_14, g_15, g_16, rfl, rfl⟩ := hpost
          have hP : va_P D vwCl [(h6, .inl (cZ, 30, .inl f44)), (h7, .inl (cI, 30, .inl f10)), (h8, .inl (cI, 30, .inl f11)), (h0, .inr (6, [.ref h4, .ref h5, .ref h6, .ref h7, .ref h8, .int x9])), (h4, .inl (cI, 30, .inl f12)), (h1, .inr (3, [.ref h13, .ref h14, .ref h15, .ref h16, .ref h17, .ref h18, .int x19, .int x20])), (h16, .inl (cI, 7, .inl f21)), (h13, .inr (8, [.int x22, .int x23, .int x24, .ref h25, .ref h26, .ref h27, .ref h28, .ref h29, .ref h30, .ref h31, .ref h32, .ref h33, .ref h34, .int x35, .int x36, .int x37, .int x38, .int x39])), (h14, .inl (cI, 7, .inl f40)), (h30, .inl (cI, 7, .inl f41)), (h5, .inl (cI, 30, .inl f42)), (h15, .inl (cI, 7, .inl f43))] H := hP
          have hD : va_D A [(h6, .inl (cZ, 30, .inl f44)), (h7, .inl (cI, 30, .inl f10)), (h8, .inl (cI, 30, .inl f11)), (h0, .inr (6, [.ref h4, .ref h5, .ref h6, .ref h7, .ref h8, .int x9])), (h4, .inl (cI, 30, .inl f12)), (h1, .inr (3, [.ref h13, .ref h14, .ref h15, .ref h16, .ref h17, .ref h18, .int x19, .int x20])), (h16, .inl (cI, 7, .inl f21)), (h13, .inr (8, [.int x22, .int x23, .int x24, .ref h25, .ref h26, .ref h27, .ref h28, .ref h29, .ref h30, .ref h31, .ref h32, .ref h33, .ref h34, .int x35, .int x36, .int x37, .int x38, .int x39])), (h14, .inl (cI, 7, .inl f40)), (h30, .inl (cI, 7, .inl f41)), (h5, .inl (cI, 30, .inl f42)), (h15, .inl (cI, 7, .inl f43))] := hD
          refine lv_aload_n hx hb dX6_fitsAll_37 rfl (lv_at hl 1 rfl) ?_
          refine va_get (D := D) (ci := 6) (v := .ref h6) (C := RX6) (T := TX6) (N := 6) hx hb hts inX6 hown hG.1 hP 3 rfl rfl 2 (by decide) (hts _ kw548) (fun _ h9 => h9) rfl dX6_fitsAll_38 ?_
          refine lv_iload hx hb dX6_fitsAll_41 (lv_at hl 0 rfl) ?_
          refine xa_zldU hx hb hG hP 0 rfl (vp_in_iff.mpr ⟨by omega, by omega⟩) dX6_fitsAll_43 (fun v_17 => ?_)
          refine lv_icmp_eq (tgt := 49) hx hb dX6_fitsAll_44 (by decide) (fun c_18 => ?_) (fun c_18 => ?_)
          · have fc_18 : v_14.toInt = v_17.toInt := i_eq rfl rfl c_18
            obtain ⟨v_19, ev_19⟩ : ∃ y : Int32, y = x_2 + 1 := ⟨_, rfl⟩
            have gv_19 : v_19.toInt = x_2.toInt + 1 := by
              have zy : (1 : Int32).toInt = 1 := by decide
              rw [ev_19, i32_add (by rw [zy]; omega) (by rw [zy]; omega), zy]
            refine lv_iinc (v := v_19) (lv' := [(4, .int v_19), (0, .ref h0), (1, .ref h1), (2, .int x2), (3, .int x3)]) hx hb dX6_fitsAll_49 hl (k := 0) rfl (by rw [ev_19]; rfl) (by decide) rfl (fun ls hl => ?_)
            refine lv_goto (tgt := 3) hx hb dX6_fitsAll_52 (by decide) ?_
            exact ihlp_3  v_19 _ _ _ (by omega) (by omega) (by omega) (hP.sub (ws' := [(h0, .inr (6, [.ref h4, .ref h5, .ref h6, .ref h7, .ref h8, .int x9])), (h7, .inl (cI, 30, .inl f10)), (h8, .inl (cI, 30, .inl f11)), (h4, .inl (cI, 30, .inl f12)), (h1, .inr (3, [.ref h13, .ref h14, .ref h15, .ref h16, .ref h17, .ref h18, .int x19, .int x20])), (h16, .inl (cI, 7, .inl f21)), (h13, .inr (8, [.int x22, .int x23, .int x24, .ref h25, .ref h26, .ref h27, .ref h28, .ref h29, .ref h30, .ref h31, .ref h32, .ref h33, .ref h34, .int x35, .int x36, .int x37, .int x38, .int x39])), (h14, .inl (cI, 7, .inl f40)), (h30, .inl (cI, 7, .inl f41)), (h5, .inl (cI, 30, .inl f42)), (h15, .inl (cI, 7, .inl f43)), (h6, .inl (cZ, 30, .inl f44))]) [3, 1, 2, 4, 5, 6, 7, 8, 9, 10, 11, 0] rfl) (hD.sub (ws' := [(h0, .inr (6, [.ref h4, .ref h5, .ref h6, .ref h7, .ref h8, .int x9])), (h7, .inl (cI, 30, .inl f10)), (h8, .inl (cI, 30, .inl f11)), (h4, .inl (cI, 30, .inl f12)), (h1, .inr (3, [.ref h13, .ref h14, .ref h15, .ref h16, .ref h17, .ref h18, .int x19, .int x20])), (h16, .inl (cI, 7, .inl f21)), (h13, .inr (8, [.int x22, .int x23, .int x24, .ref h25, .ref h26, .ref h27, .ref h28, .ref h29, .ref h30, .ref h31, .ref h32, .ref h33, .ref h34, .int x35, .int x36, .int x37, .int x38, .int x39])), (h14, .inl (cI, 7, .inl f40)), (h30, .inl (cI, 7, .inl f41)), (h5, .inl (cI, 30, .inl f42)), (h15, .inl (cI, 7, .inl f43)), (h6, .inl (cZ, 30, .inl f44))]) [3, 1, 2, 4, 5, 6, 7, 8, 9, 10, 11, 0] (by decide) rfl) hS (lv_sub hl [0, 1, 2, 3, 4] rfl)
          · have fc_18 : v_14.toInt ≠ v_17.toInt := i_ne rfl rfl c_18
            refine lv_iconst (v := 0) hx hb dX6_fitsAll_47 (by decide +kernel) ?_
            have hP9 := hP.sub (ws' := [(h0, .inr (6, [.ref h4, .ref h5, .ref h6, .ref h7, .ref h8, .int x9])), (h7, .inl (cI, 30, .inl f10)), (h8, .inl (cI, 30, .inl f11)), (h4, .inl (cI, 30, .inl f12)), (h1, .inr (3, [.ref h13, .ref h14, .ref h15, .ref h16, .ref h17, .ref h18, .int x19, .int x20])), (h16, .inl (cI, 7, .inl f21)), (h13, .inr (8, [.int x22, .int x23, .int x24, .ref h25, .ref h26, .ref h27, .ref h28, .ref h29, .ref h30, .ref h31, .ref h32, .ref h33, .ref h34, .int x35, .int x36, .int x37, .int x38, .int x39])), (h14, .inl (cI, 7, .inl f40)), (h30, .inl (cI, 7, .inl f41)), (h5, .inl (cI, 30, .inl f42)), (h15, .inl (cI, 7, .inl f43)), (h6, .inl (cZ, 30, .inl f44))]) [3, 1, 2, 4, 5, 6, 7, 8, 9, 10, 11, 0] rfl
            have hD9 := hD.sub (ws' := [(h0, .inr (6, [.ref h4, .ref h5, .ref h6, .ref h7, .ref h8, .int x9])), (h7, .inl (cI, 30, .inl f10)), (h8, .inl (cI, 30, .inl f11)), (h4, .inl (cI, 30, .inl f12)), (h1, .inr (3, [.ref h13, .ref h14, .ref h15, .ref h16, .ref h17, .ref h18, .int x19, .int x20])), (h16, .inl (cI, 7, .inl f21)), (h13, .inr (8, [.int x22, .int x23, .int x24, .ref h25, .ref h26, .ref h27, .ref h28, .ref h29, .ref h30, .ref h31, .ref h32, .ref h33, .ref h34, .int x35, .int x36, .int x37, .int x38, .int x39])), (h14, .inl (cI, 7, .inl f40)), (h30, .inl (cI, 7, .inl f41)), (h5, .inl (cI, 30, .inl f42)), (h15, .inl (cI, 7, .inl f43)), (h6, .inl (cZ, 30, .inl f44))]) [3, 1, 2, 4, 5, 6, 7, 8, 9, 10, 11, 0] (by decide) rfl
            exact xr_i (rm := (rmL 3 0 0)) hx hb hr hlocks hAe hS hP9 hD9 (by decide +kernel) (Nat.le_of_ble_eq_true rfl) (Nat.le_of_ble_eq_true rfl) dX6_fitsAll_48 ⟨0, by have zc0 : (0 : Int32).toInt = 0 := (by decide); omega, by have zc0 : (0 : Int32).toInt = 0 := (by decide); omega, rfl, rfl⟩
  exact lp_3 32 0 _ _ _ (by have zc0 : (0 : Int32).toInt = 0 := (by decide); omega) (by have zc0 : (0 : Int32).toInt = 0 := (by decide); omega) (by have zc0 : (0 : Int32).toInt = 0 := (by decide); omega) (hP.sub (ws' := [(h0, .inr (6, [.ref h4, .ref h5, .ref h6, .ref h7, .ref h8, .int x9])), (h7, .inl (cI, 30, .inl f10)), (h8, .inl (cI, 30, .inl f11)), (h4, .inl (cI, 30, .inl f12)), (h1, .inr (3, [.ref h13, .ref h14, .ref h15, .ref h16, .ref h17, .ref h18, .int x19, .int x20])), (h16, .inl (cI, 7, .inl f21)), (h13, .inr (8, [.int x22, .int x23, .int x24, .ref h25, .ref h26, .ref h27, .ref h28, .ref h29, .ref h30, .ref h31, .ref h32, .ref h33, .ref h34, .int x35, .int x36, .int x37, .int x38, .int x39])), (h14, .inl (cI, 7, .inl f40)), (h30, .inl (cI, 7, .inl f41)), (h5, .inl (cI, 30, .inl f42)), (h15, .inl (cI, 7, .inl f43)), (h6, .inl (cZ, 30, .inl f44))]) [0, 1, 2, 3, 4, 5, 6, 7, 8, 9, 10, 11] rfl) (hD.sub (ws' := [(h0, .inr (6, [.ref h4, .ref h5, .ref h6, .ref h7, .ref h8, .int x9])), (h7, .inl (cI, 30, .inl f10)), (h8, .inl (cI, 30, .inl f11)), (h4, .inl (cI, 30, .inl f12)), (h1, .inr (3, [.ref h13, .ref h14, .ref h15, .ref h16, .ref h17, .ref h18, .int x19, .int x20])), (h16, .inl (cI, 7, .inl f21)), (h13, .inr (8, [.int x22, .int x23, .int x24, .ref h25, .ref h26, .ref h27, .ref h28, .ref h29, .ref h30, .ref h31, .ref h32, .ref h33, .ref h34, .int x35, .int x36, .int x37, .int x38, .int x39])), (h14, .inl (cI, 7, .inl f40)), (h30, .inl (cI, 7, .inl f41)), (h5, .inl (cI, 30, .inl f42)), (h15, .inl (cI, 7, .inl f43)), (h6, .inl (cZ, 30, .inl f44))]) [0, 1, 2, 3, 4, 5, 6, 7, 8, 9, 10, 11] (by decide) rfl) hS (lv_sub hl [0, 1, 2, 3, 4] rfl)
theorem dX6_fitting_0 : decode cX6_fitting 0 = .ok (.iconst 0, 1) := by decide +kernel
theorem dX6_fitting_1 : decode cX6_fitting 1 = .ok (.istore_n 3, 1) := by decide +kernel
theorem dX6_fitting_2 : decode cX6_fitting 2 = .ok (.iconst 0, 1) := by decide +kernel
theorem dX6_fitting_3 : decode cX6_fitting 3 = .ok (.istore 4, 2) := by decide +kernel
theorem dX6_fitting_5 : decode cX6_fitting 5 = .ok (.iload 4, 2) := by decide +kernel
theorem dX6_fitting_7 : decode cX6_fitting 7 = .ok (.aload_n 1, 1) := by decide +kernel
theorem dX6_fitting_8 : decode cX6_fitting 8 = .ok (.getfield 32, 3) := by decide +kernel
theorem kw210 : (.fieldLink RX6 38 "SpiceSwaps$Told" "places" "I" : Cond) ∈ gT := gT_of 210 (by decide +kernel) (by decide +kernel)
theorem dX6_fitting_11 : decode cX6_fitting 11 = .ok (.getfield 38, 3) := by decide +kernel
theorem dX6_fitting_14 : decode cX6_fitting 14 = .ok (.if_icmp .ge 27, 3) := by decide +kernel
theorem dX6_fitting_41 : decode cX6_fitting 41 = .ok (.iload_n 3, 1) := by decide +kernel
theorem dX6_fitting_42 : decode cX6_fitting 42 = .ok (.ireturn, 1) := by decide +kernel
theorem dX6_fitting_17 : decode cX6_fitting 17 = .ok (.aload_n 0, 1) := by decide +kernel
theorem dX6_fitting_18 : decode cX6_fitting 18 = .ok (.aload_n 1, 1) := by decide +kernel
theorem dX6_fitting_19 : decode cX6_fitting 19 = .ok (.iload 4, 2) := by decide +kernel
theorem dX6_fitting_21 : decode cX6_fitting 21 = .ok (.iload_n 2, 1) := by decide +kernel
theorem kw1217 : (.methodLink RX6 43 yX6_fitsAll : Cond) ∈ gT := gT_of 1217 (by decide +kernel) (by decide +kernel)
theorem kw1220 : (.code yX6_fitsAll cX6_fitsAll 5 (some .boolean) : Cond) ∈ gT := gT_of 1220 (by decide +kernel) (by decide +kernel)
theorem kw1219 : (.instanceMethod yX6_fitsAll : Cond) ∈ gT := gT_of 1219 (by decide +kernel) (by decide +kernel)
theorem kw38 : (.selects RX6 yX6_fitsAll yX6_fitsAll : Cond) ∈ gT := gT_of 38 (by decide +kernel) (by decide +kernel)
theorem dX6_fitting_22 : decode cX6_fitting 22 = .ok (.invokevirtual 43, 3) := by decide +kernel
theorem dX6_fitting_25 : decode cX6_fitting 25 = .ok (.ifCond .eq 10, 3) := by decide +kernel
theorem dX6_fitting_35 : decode cX6_fitting 35 = .ok (.iinc 4 1, 3) := by decide +kernel
theorem dX6_fitting_38 : decode cX6_fitting 38 = .ok (.goto (-33), 3) := by decide +kernel
theorem dX6_fitting_28 : decode cX6_fitting 28 = .ok (.iload_n 3, 1) := by decide +kernel
theorem dX6_fitting_29 : decode cX6_fitting 29 = .ok (.iconst 1, 1) := by decide +kernel
theorem dX6_fitting_30 : decode cX6_fitting 30 = .ok (.iload 4, 2) := by decide +kernel
theorem dX6_fitting_32 : decode cX6_fitting 32 = .ok (.ishl, 1) := by decide +kernel
theorem dX6_fitting_33 : decode cX6_fitting 33 = .ok (.ior, 1) := by decide +kernel
theorem dX6_fitting_34 : decode cX6_fitting 34 = .ok (.istore_n 3, 1) := by decide +kernel
set_option maxHeartbeats 4000000 in
set_option maxRecDepth 100000 in
theorem sX6_fitting_1 (l : Launch) (D : va_G) (cB cI cJ cZ : ClassId) (aK aV : Nat → Nat) (h0 : Nat) (h1 : Nat) (x2 : Int32) (h3 : Nat) (h4 : Nat) (h5 : Nat) (h6 : Nat) (h7 : Nat) (h8 : Nat) (x9 : Int32) (x10 : Int32) (x11 : Int32) (x12 : Int32) (x13 : Int32) (h14 : Nat) (h15 : Nat) (h16 : Nat) (h17 : Nat) (h18 : Nat) (h19 : Nat) (h20 : Nat) (h21 : Nat) (h22 : Nat) (h23 : Nat) (x24 : Int32) (x25 : Int32) (x26 : Int32) (x27 : Int32) (x28 : Int32) (h29 : Nat) (h30 : Nat) (h31 : Nat) (h32 : Nat) (h33 : Nat) (x34 : Int32) (f35 : Nat → Int32) (f36 : Nat → Int32) (f37 : Nat → Int32) (f38 : Nat → Int32) (f39 : Nat → Int32) (f40 : Nat → Int32) (f41 : Nat → Int32) (f42 : Nat → Int32) (f43 : Nat → Int32) (gh0 : 0 ≤ x10.toInt) (gh1 : 0 ≤ -x10.toInt + 999) (gh2 : 0 ≤ x11.toInt) (gh3 : 0 ≤ -x11.toInt + 4) (gh4 : 0 ≤ x12.toInt) (gh5 : 0 ≤ -x12.toInt + 3) (gh6 : 0 ≤ x13.toInt) (gh7 : 0 ≤ -x13.toInt + 7) (gh8 : 0 ≤ x27.toInt + 1) (gh9 : 0 ≤ -x27.toInt + 999) (gh10 : 0 ≤ x34.toInt) (gh11 : 0 ≤ -x34.toInt + 30) (ga0 : AR f39 (0) (3) (x13.toInt)) : MX l yX6_fitting cX6_fitting 5 (some .int) (rmL 4 0 0) D cB cI cJ cZ aK aV [.ref h0, .ref h1, .int x2] [(h1, .inr (3, [.ref h3, .ref h4, .ref h5, .ref h6, .ref h7, .ref h8, .int x9, .int x10])), (h3, .inr (8, [.int x11, .int x12, .int x13, .ref h14, .ref h15, .ref h16, .ref h17, .ref h18, .ref h19, .ref h20, .ref h21, .ref h22, .ref h23, .int x24, .int x25, .int x26, .int x27, .int x28])), (h0, .inr (6, [.ref h29, .ref h30, .ref h31, .ref h32, .ref h33, .int x34])), (h32, .inl (cI, 30, .inl f35)), (h33, .inl (cI, 30, .inl f36)), (h29, .inl (cI, 30, .inl f37)), (h6, .inl (cI, 7, .inl f38)), (h4, .inl (cI, 7, .inl f39)), (h19, .inl (cI, 7, .inl f40)), (h30, .inl (cI, 30, .inl f41)), (h5, .inl (cI, 7, .inl f42)), (h31, .inl (cZ, 30, .inl f43))] (fun r w1 => ∃ z1 : Int32, 0 ≤ z1.toInt ∧ 0 ≤ -z1.toInt + 127 ∧ r = some (.int z1) ∧ w1 = [(h1, .inr (3, [.ref h3, .ref h4, .ref h5, .ref h6, .ref h7, .ref h8, .int x9, .int x10])), (h3, .inr (8, [.int x11, .int x12, .int x13, .ref h14, .ref h15, .ref h16, .ref h17, .ref h18, .ref h19, .ref h20, .ref h21, .ref h22, .ref h23, .int x24, .int x25, .int x26, .int x27, .int x28])), (h0, .inr (6, [.ref h29, .ref h30, .ref h31, .ref h32, .ref h33, .int x34])), (h32, .inl (cI, 30, .inl f35)), (h33, .inl (cI, 30, .inl f36)), (h29, .inl (cI, 30, .inl f37)), (h6, .inl (cI, 7, .inl f38)), (h4, .inl (cI, 7, .inl f39)), (h19, .inl (cI, 7, .inl f40)), (h30, .inl (cI, 30, .inl f41)), (h5, .inl (cI, 7, .inl f42)), (h31, .inl (cZ, 30, .inl f43))]) := by
  refine MX.intro (by decide) (Nat.le_of_ble_eq_true rfl) ?_
  intro p e s m below meth c A ls hx hb hr hml hown hlocks hnm hts hG hE hA hS hP hD hl hAe
  have hl : lv_has ls 5 [(0, .ref h0), (1, .ref h1), (2, .int x2)] := hl
  have hown : s.vm.findClass RX6 = some m.cls := hown
  refine lv_iconst (v := 0) hx hb dX6_fitting_0 (by decide +kernel) ?_
  refine lv_istore_n (lv' := [(3, .int 0), (0, .ref h0), (1, .ref h1), (2, .int x2)]) hx hb dX6_fitting_1 rfl hl (by decide) rfl (fun ls hl => ?_)
  refine lv_iconst (v := 0) hx hb dX6_fitting_2 (by decide +kernel) ?_
  refine lv_istore (lv' := [(4, .int 0), (3, .int 0), (0, .ref h0), (1, .ref h1), (2, .int x2)]) hx hb dX6_fitting_3 hl (by decide) rfl (fun ls hl => ?_)
  have lp_5 : ∀ (n : Nat) (x_3 x_4 : Int32) (H : Heap) (locs : List Loc) (ls : Array Slot), 0 ≤ x_3.toInt → 0 ≤ -x_3.toInt + 127 → 0 ≤ x_4.toInt → 0 ≤ x13.toInt - x_4.toInt → -x_4.toInt + 7 < n → va_P D vwCl [(h1, .inr (3, [.ref h3, .ref h4, .ref h5, .ref h6, .ref h7, .ref h8, .int x9, .int x10])), (h3, .inr (8, [.int x11, .int x12, .int x13, .ref h14, .ref h15, .ref h16, .ref h17, .ref h18, .ref h19, .ref h20, .ref h21, .ref h22, .ref h23, .int x24, .int x25, .int x26, .int x27, .int x28])), (h0, .inr (6, [.ref h29, .ref h30, .ref h31, .ref h32, .ref h33, .int x34])), (h32, .inl (cI, 30, .inl f35)), (h33, .inl (cI, 30, .inl f36)), (h29, .inl (cI, 30, .inl f37)), (h6, .inl (cI, 7, .inl f38)), (h4, .inl (cI, 7, .inl f39)), (h19, .inl (cI, 7, .inl f40)), (h30, .inl (cI, 30, .inl f41)), (h5, .inl (cI, 7, .inl f42)), (h31, .inl (cZ, 30, .inl f43))] H → va_D A [(h1, .inr (3, [.ref h3, .ref h4, .ref h5, .ref h6, .ref h7, .ref h8, .int x9, .int x10])), (h3, .inr (8, [.int x11, .int x12, .int x13, .ref h14, .ref h15, .ref h16, .ref h17, .ref h18, .ref h19, .ref h20, .ref h21, .ref h22, .ref h23, .int x24, .int x25, .int x26, .int x27, .int x28])), (h0, .inr (6, [.ref h29, .ref h30, .ref h31, .ref h32, .ref h33, .int x34])), (h32, .inl (cI, 30, .inl f35)), (h33, .inl (cI, 30, .inl f36)), (h29, .inl (cI, 30, .inl f37)), (h6, .inl (cI, 7, .inl f38)), (h4, .inl (cI, 7, .inl f39)), (h19, .inl (cI, 7, .inl f40)), (h30, .inl (cI, 30, .inl f41)), (h5, .inl (cI, 7, .inl f42)), (h31, .inl (cZ, 30, .inl f43))] → va_S A s.heap H locs → lv_has ls 5 [(4, .int x_4), (3, .int x_3), (0, .ref h0), (1, .ref h1), (2, .int x2)] → W p l e (rmL 4 0 0) s m [.ref h0, .ref h1, .int x2].toArray below meth c H locs 0 0 (ZX D below [.ref h0, .ref h1, .int x2] s (rmL 4 0 0) [(h1, .inr (3, [.ref h3, .ref h4, .ref h5, .ref h6, .ref h7, .ref h8, .int x9, .int x10])), (h3, .inr (8, [.int x11, .int x12, .int x13, .ref h14, .ref h15, .ref h16, .ref h17, .ref h18, .ref h19, .ref h20, .ref h21, .ref h22, .ref h23, .int x24, .int x25, .int x26, .int x27, .int x28])), (h0, .inr (6, [.ref h29, .ref h30, .ref h31, .ref h32, .ref h33, .int x34])), (h32, .inl (cI, 30, .inl f35)), (h33, .inl (cI, 30, .inl f36)), (h29, .inl (cI, 30, .inl f37)), (h6, .inl (cI, 7, .inl f38)), (h4, .inl (cI, 7, .inl f39)), (h19, .inl (cI, 7, .inl f40)), (h30, .inl (cI, 30, .inl f41)), (h5, .inl (cI, 7, .inl f42)), (h31, .inl (cZ, 30, .inl f43))] (fun r w1 => ∃ z1 : Int32, 0 ≤ z1.toInt ∧ 0 ≤ -z1.toInt + 127 ∧ r = some (.int z1) ∧ w1 = [(h1, .inr (3, [.ref h3, .ref h4, .ref h5, .ref h6, .ref h7, .ref h8, .int x9, .int x10])), (h3, .inr (8, [.int x11, .int x12, .int x13, .ref h14, .ref h15, .ref h16, .ref h17, .ref h18, .ref h19, .ref h20, .ref h21, .ref h22, .ref h23, .int x24, .int x25, .int x26, .int x27, .int x28])), (h0, .inr (6, [.ref h29, .ref h30, .ref h31, .ref h32, .ref h33, .int x34])), (h32, .inl (cI, 30, .inl f35)), (h33, .inl (cI, 30, .inl f36)), (h29, .inl (cI, 30, .inl f37)), (h6, .inl (cI, 7, .inl f38)), (h4, .inl (cI, 7, .inl f39)), (h19, .inl (cI, 7, .inl f40)), (h30, .inl (cI, 30, .inl f41)), (h5, .inl (cI, 7, .inl f42)), (h31, .inl (cZ, 30, .inl f43))])) (F0 m 5 ls []) := by
    intro n
    induction n with
    | zero => intro x_3 x_4 H locs ls g_6 g_7 g_8 g_9 g_10; omega
    | succ n ihlp_5 =>
      intro x_3 x_4 H locs ls g_6 g_7 g_8 g_9 g_10 hP hD hS hl
      refine lv_iload hx hb dX6_fitting_5 (lv_at hl 0 rfl) ?_
      refine lv_aload_n hx hb dX6_fitting_7 rfl (lv_at hl 3 rfl) ?_
      refine va_get (D := D) (ci := 3) (v := .ref h3) (C := RX3) (T := TX3) (N := 8) hx hb hts inX3 hown hG.1 hP 0 rfl rfl 0 (by decide) (hts _ kw427) (fun _ h9 => h9) rfl dX6_fitting_8 ?_
      refine va_get (D := D) (ci := 8) (v := .int x13) (C := RX8) (T := TX8) (N := 18) hx hb hts inX8 hown hG.1 hP 1 rfl rfl 2 (by decide) (hts _ kw210) (fun _ h9 => h9) rfl dX6_fitting_11 ?_
      refine lv_icmp_ge (tgt := 41) hx hb dX6_fitting_14 (by decide) (fun c_11 => ?_) (fun c_11 => ?_)
      · have fc_11 : x13.toInt ≤ x_4.toInt := i_le rfl rfl c_11
        refine lv_iload_n hx hb dX6_fitting_41 rfl (lv_at hl 1 rfl) ?_
        have hP9 := hP.sub (ws' := [(h1, .inr (3, [.ref h3, .ref h4, .ref h5, .ref h6, .ref h7, .ref h8, .int x9, .int x10])), (h3, .inr (8, [.int x11, .int x12, .int x13, .ref h14, .ref h15, .ref h16, .ref h17, .ref h18, .ref h19, .ref h20, .ref h21, .ref h22, .ref h23, .int x24, .int x25, .int x26, .int x27, .int x28])), (h0, .inr (6, [.ref h29, .ref h30, .ref h31, .ref h32, .ref h33, .int x34])), (h32, .inl (cI, 30, .inl f35)), (h33, .inl (cI, 30, .inl f36)), (h29, .inl (cI, 30, .inl f37)), (h6, .inl (cI, 7, .inl f38)), (h4, .inl (cI, 7, .inl f39)), (h19, .inl (cI, 7, .inl f40)), (h30, .inl (cI, 30, .inl f41)), (h5, .inl (cI, 7, .inl f42)), (h31, .inl (cZ, 30, .inl f43))]) [0, 1, 2, 3, 4, 5, 6, 7, 8, 9, 10, 11] rfl
        have hD9 := hD.sub (ws' := [(h1, .inr (3, [.ref h3, .ref h4, .ref h5, .ref h6, .ref h7, .ref h8, .int x9, .int x10])), (h3, .inr (8, [.int x11, .int x12, .int x13, .ref h14, .ref h15, .ref h16, .ref h17, .ref h18, .ref h19, .ref h20, .ref h21, .ref h22, .ref h23, .int x24, .int x25, .int x26, .int x27, .int x28])), (h0, .inr (6, [.ref h29, .ref h30, .ref h31, .ref h32, .ref h33, .int x34])), (h32, .inl (cI, 30, .inl f35)), (h33, .inl (cI, 30, .inl f36)), (h29, .inl (cI, 30, .inl f37)), (h6, .inl (cI, 7, .inl f38)), (h4, .inl (cI, 7, .inl f39)), (h19, .inl (cI, 7, .inl f40)), (h30, .inl (cI, 30, .inl f41)), (h5, .inl (cI, 7, .inl f42)), (h31, .inl (cZ, 30, .inl f43))]) [0, 1, 2, 3, 4, 5, 6, 7, 8, 9, 10, 11] (by decide) rfl
        exact xr_i (rm := (rmL 4 0 0)) hx hb hr hlocks hAe hS hP9 hD9 rfl (Nat.le_of_ble_eq_true rfl) (Nat.le_of_ble_eq_true rfl) dX6_fitting_42 ⟨x_3, by omega, by omega, rfl, rfl⟩
      · have fc_11 : x_4.toInt < x13.toInt := i_nle rfl rfl c_11
        refine lv_aload_n hx hb dX6_fitting_17 rfl (lv_at hl 2 rfl) ?_
        refine lv_aload_n hx hb dX6_fitting_18 rfl (lv_at hl 3 rfl) ?_
        refine lv_iload hx hb dX6_fitting_19 (lv_at hl 0 rfl) ?_
        refine lv_iload_n hx hb dX6_fitting_21 rfl (lv_at hl 4 rfl) ?_
        refine xc_core (wr := []) (k := 0) (n := 0) (xc_runV (As := [.ref h1, .int x_4, .int x2]) (rest := []) hx hb hml hown hts hG hE hP hD hS hA [2, 3, 4, 5, 0, 6, 1, 7, 8, 9, 10, 11] (by decide) rfl (sX6_fitsAll_1 l D cB cI cJ cZ aK aV h0 h1 x_4 x2 h29 h30 h31 h32 h33 x34 f35 f36 f37 h3 h4 h5 h6 h7 h8 x9 x10 f38 x11 x12 x13 h14 h15 h16 h17 h18 h19 h20 h21 h22 h23 x24 x25 x26 x27 x28 f39 f40 f41 f42 f43 (by omega) (by omega) (by omega) (by omega) (by omega) (by omega) (by omega) (by omega) (by omega) (by omega) (by omega) (by omega) (by omega) (by omega) (ga0.mono (by omega) (by omega) (by omega))) kw1220 kw1217 kw1219 kw38 kw125 (show XD yX6_fitsAll 3 from by decide +kernel) (by decide) rfl rfl 2 rfl hl.1 rfl (Nat.le_of_ble_eq_true rfl) dX6_fitting_22 (by decide)) hP hD hS hA [2, 3, 4, 5, 0, 6, 1, 7, 8, 9, 10, 11] [] rfl rfl (by decide) (by decide) (Nat.le_of_ble_eq_true rfl) (Nat.le_of_ble_eq_true rfl) (fun r w1 H locs hpost hP hD hS => ?_)
        obtain ⟨v_12, g_13, g_14, rfl, rfl⟩ := hpost
        have hP : va_P D vwCl [(h0, .inr (6, [.ref h29, .ref h30, .ref h31, .ref h32, .ref h33, .int x34])), (h32, .inl (cI, 30, .inl f35)), (h33, .inl (cI, 30, .inl f36)), (h29, .inl (cI, 30, .inl f37)), (h1, .inr (3, [.ref h3, .ref h4, .ref h5, .ref h6, .ref h7, .ref h8, .int x9, .int x10])), (h6, .inl (cI, 7, .inl f38)), (h3, .inr (8, [.int x11, .int x12, .int x13, .ref h14, .ref h15, .ref h16, .ref h17, .ref h18, .ref h19, .ref h20, .ref h21, .ref h22, .ref h23, .int x24, .int x25, .int x26, .int x27, .int x28])), (h4, .inl (cI, 7, .inl f39)), (h19, .inl (cI, 7, .inl f40)), (h30, .inl (cI, 30, .inl f41)), (h5, .inl (cI, 7, .inl f42)), (h31, .inl (cZ, 30, .inl f43))] H := hP
        have hD : va_D A [(h0, .inr (6, [.ref h29, .ref h30, .ref h31, .ref h32, .ref h33, .int x34])), (h32, .inl (cI, 30, .inl f35)), (h33, .inl (cI, 30, .inl f36)), (h29, .inl (cI, 30, .inl f37)), (h1, .inr (3, [.ref h3, .ref h4, .ref h5, .ref h6, .ref h7, .ref h8, .int x9, .int x10])), (h6, .inl (cI, 7, .inl f38)), (h3, .inr (8, [.int x11, .int x12, .int x13, .ref h14, .ref h15, .ref h16, .ref h17, .ref h18, .ref h19, .ref h20, .ref h21, .ref h22, .ref h23, .int x24, .int x25, .int x26, .int x27, .int x28])), (h4, .inl (cI, 7, .inl f39)), (h19, .inl (cI, 7, .inl f40)), (h30, .inl (cI, 30, .inl f41)), (h5, .inl (cI, 7, .inl f42)), (h31, .inl (cZ, 30, .inl f43))] := hD
        refine lv_if_eq (tgt := 35) hx hb dX6_fitting_25 (by decide) (fun c_15 => ?_) (fun c_15 => ?_)
        · have fc_15 : v_12.toInt = (0 : Int) := i_eq rfl (by decide) c_15
          obtain ⟨v_16, ev_16⟩ : ∃ y : Int32, y = x_4 + 1 := ⟨_, rfl⟩
          have gv_16 : v_16.toInt = x_4.toInt + 1 := by
            have zy : (1 : Int32).toInt = 1 := by decide
            rw [ev_16, i32_add (by rw [zy]; omega) (by rw [zy]; omega), zy]
          refine lv_iinc (v := v_16) (lv' := [(4, .int v_16), (3, .int x_3), (0, .ref h0), (1, .ref h1), (2, .int x2)]) hx hb dX6_fitting_35 hl (k := 0) rfl (by rw [ev_16]; rfl) (by decide) rfl (fun ls hl => ?_)
          refine lv_goto (tgt := 5) hx hb dX6_fitting_38 (by decide) ?_
          exact ihlp_5  x_3 v_16 _ _ _ (by omega) (by omega) (by omega) (by omega) (by omega) (hP.sub (ws' := [(h1, .inr (3, [.ref h3, .ref h4, .ref h5, .ref h6, .ref h7, .ref h8, .int x9, .int x10])), (h3, .inr (8, [.int x11, .int x12, .int x13, .ref h14, .ref h15, .ref h16, .ref h17, .ref h18, .ref h19, .ref h20, .ref h21, .ref h22, .ref h23, .int x24, .int x25, .int x26, .int x27, .int x28])), (h0, .inr (6, [.ref h29, .ref h30, .ref h31, .ref h32, .ref h33, .int x34])), (h32, .inl (cI, 30, .inl f35)), (h33, .inl (cI, 30, .inl f36)), (h29, .inl (cI, 30, .inl f37)), (h6, .inl (cI, 7, .inl f38)), (h4, .inl (cI, 7, .inl f39)), (h19, .inl (cI, 7, .inl f40)), (h30, .inl (cI, 30, .inl f41)), (h5, .inl (cI, 7, .inl f42)), (h31, .inl (cZ, 30, .inl f43))]) [4, 6, 0, 1, 2, 3, 5, 7, 8, 9, 10, 11] rfl) (hD.sub (ws' := [(h1, .inr (3, [.ref h3, .ref h4, .ref h5, .ref h6, .ref h7, .ref h8, .int x9, .int x10])), (h3, .inr (8, [.int x11, .int x12, .int x13, .ref h14, .ref h15, .ref h16, .ref h17, .ref h18, .ref h19, .ref h20, .ref h21, .ref h22, .ref h23, .int x24, .int x25, .int x26, .int x27, .int x28])), (h0, .inr (6, [.ref h29, .ref h30, .ref h31, .ref h32, .ref h33, .int x34])), (h32, .inl (cI, 30, .inl f35)), (h33, .inl (cI, 30, .inl f36)), (h29, .inl (cI, 30, .inl f37)), (h6, .inl (cI, 7, .inl f38)), (h4, .inl (cI, 7, .inl f39)), (h19, .inl (cI, 7, .inl f40)), (h30, .inl (cI, 30, .inl f41)), (h5, .inl (cI, 7, .inl f42)), (h31, .inl (cZ, 30, .inl f43))]) [4, 6, 0, 1, 2, 3, 5, 7, 8, 9, 10, 11] (by decide) rfl) hS (lv_sub hl [0, 1, 2, 3, 4] rfl)
        · have fc_15 : v_12.toInt ≠ (0 : Int) := i_ne rfl (by decide) c_15
          refine lv_iload_n hx hb dX6_fitting_28 rfl (lv_at hl 1 rfl) ?_
          refine lv_iconst (v := 1) hx hb dX6_fitting_29 (by decide +kernel) ?_
          refine lv_iload hx hb dX6_fitting_30 (lv_at hl 0 rfl) ?_
          refine lv_ishl hx hb dX6_fitting_32 ?_
          refine lv_topi (fun v_17 ev_17 => ?_)
          have gv_17 : 1 ≤ v_17.toInt ∧ v_17.toInt ≤ 64 := by rw [ev_17]; exact i32_shl1 (by omega) (by omega)
          refine lv_ior hx hb dX6_fitting_33 ?_
          refine lv_topi (fun v_18 ev_18 => ?_)
          have gv_18 : 0 ≤ v_18.toInt ∧ v_18.toInt ≤ 127 := by rw [ev_18]; exact i32_or (by omega) (by omega) (by omega) (by omega)
          refine lv_istore_n (lv' := [(3, .int v_18), (4, .int x_4), (0, .ref h0), (1, .ref h1), (2, .int x2)]) hx hb dX6_fitting_34 rfl hl (by decide) rfl (fun ls hl => ?_)
          obtain ⟨v_19, ev_19⟩ : ∃ y : Int32, y = x_4 + 1 := ⟨_, rfl⟩
          have gv_19 : v_19.toInt = x_4.toInt + 1 := by
            have zy : (1 : Int32).toInt = 1 := by decide
            rw [ev_19, i32_add (by rw [zy]; omega) (by rw [zy]; omega), zy]
          refine lv_iinc (v := v_19) (lv' := [(4, .int v_19), (3, .int v_18), (0, .ref h0), (1, .ref h1), (2, .int x2)]) hx hb dX6_fitting_35 hl (k := 1) rfl (by rw [ev_19]; rfl) (by decide) rfl (fun ls hl => ?_)
          refine lv_goto (tgt := 5) hx hb dX6_fitting_38 (by decide) ?_
          exact ihlp_5  v_18 v_19 _ _ _ (by omega) (by omega) (by omega) (by omega) (by omega) (hP.sub (ws' := [(h1, .inr (3, [.ref h3, .ref h4, .ref h5, .ref h6, .ref h7, .ref h8, .int x9, .int x10])), (h3, .inr (8, [.int x11, .int x12, .int x13, .ref h14, .ref h15, .ref h16, .ref h17, .ref h18, .ref h19, .ref h20, .ref h21, .ref h22, .ref h23, .int x24, .int x25, .int x26, .int x27, .int x28])), (h0, .inr (6, [.ref h29, .ref h30, .ref h31, .ref h32, .ref h33, .int x34])), (h32, .inl (cI, 30, .inl f35)), (h33, .inl (cI, 30, .inl f36)), (h29, .inl (cI, 30, .inl f37)), (h6, .inl (cI, 7, .inl f38)), (h4, .inl (cI, 7, .inl f39)), (h19, .inl (cI, 7, .inl f40)), (h30, .inl (cI, 30, .inl f41)), (h5, .inl (cI, 7, .inl f42)), (h31, .inl (cZ, 30, .inl f43))]) [4, 6, 0, 1, 2, 3, 5, 7, 8, 9, 10, 11] rfl) (hD.sub (ws' := [(h1, .inr (3, [.ref h3, .ref h4, .ref h5, .ref h6, .ref h7, .ref h8, .int x9, .int x10])), (h3, .inr (8, [.int x11, .int x12, .int x13, .ref h14, .ref h15, .ref h16, .ref h17, .ref h18, .ref h19, .ref h20, .ref h21, .ref h22, .ref h23, .int x24, .int x25, .int x26, .int x27, .int x28])), (h0, .inr (6, [.ref h29, .ref h30, .ref h31, .ref h32, .ref h33, .int x34])), (h32, .inl (cI, 30, .inl f35)), (h33, .inl (cI, 30, .inl f36)), (h29, .inl (cI, 30, .inl f37)), (h6, .inl (cI, 7, .inl f38)), (h4, .inl (cI, 7, .inl f39)), (h19, .inl (cI, 7, .inl f40)), (h30, .inl (cI, 30, .inl f41)), (h5, .inl (cI, 7, .inl f42)), (h31, .inl (cZ, 30, .inl f43))]) [4, 6, 0, 1, 2, 3, 5, 7, 8, 9, 10, 11] (by decide) rfl) hS (lv_sub hl [0, 1, 2, 3, 4] rfl)
  exact lp_5 9 0 0 _ _ _ (by have zc0 : (0 : Int32).toInt = 0 := (by decide); omega) (by have zc0 : (0 : Int32).toInt = 0 := (by decide); omega) (by have zc0 : (0 : Int32).toInt = 0 := (by decide); omega) (by have zc0 : (0 : Int32).toInt = 0 := (by decide); omega) (by have zc0 : (0 : Int32).toInt = 0 := (by decide); omega) (hP.sub (ws' := [(h1, .inr (3, [.ref h3, .ref h4, .ref h5, .ref h6, .ref h7, .ref h8, .int x9, .int x10])), (h3, .inr (8, [.int x11, .int x12, .int x13, .ref h14, .ref h15, .ref h16, .ref h17, .ref h18, .ref h19, .ref h20, .ref h21, .ref h22, .ref h23, .int x24, .int x25, .int x26, .int x27, .int x28])), (h0, .inr (6, [.ref h29, .ref h30, .ref h31, .ref h32, .ref h33, .int x34])), (h32, .inl (cI, 30, .inl f35)), (h33, .inl (cI, 30, .inl f36)), (h29, .inl (cI, 30, .inl f37)), (h6, .inl (cI, 7, .inl f38)), (h4, .inl (cI, 7, .inl f39)), (h19, .inl (cI, 7, .inl f40)), (h30, .inl (cI, 30, .inl f41)), (h5, .inl (cI, 7, .inl f42)), (h31, .inl (cZ, 30, .inl f43))]) [0, 1, 2, 3, 4, 5, 6, 7, 8, 9, 10, 11] rfl) (hD.sub (ws' := [(h1, .inr (3, [.ref h3, .ref h4, .ref h5, .ref h6, .ref h7, .ref h8, .int x9, .int x10])), (h3, .inr (8, [.int x11, .int x12, .int x13, .ref h14, .ref h15, .ref h16, .ref h17, .ref h18, .ref h19, .ref h20, .ref h21, .ref h22, .ref h23, .int x24, .int x25, .int x26, .int x27, .int x28])), (h0, .inr (6, [.ref h29, .ref h30, .ref h31, .ref h32, .ref h33, .int x34])), (h32, .inl (cI, 30, .inl f35)), (h33, .inl (cI, 30, .inl f36)), (h29, .inl (cI, 30, .inl f37)), (h6, .inl (cI, 7, .inl f38)), (h4, .inl (cI, 7, .inl f39)), (h19, .inl (cI, 7, .inl f40)), (h30, .inl (cI, 30, .inl f41)), (h5, .inl (cI, 7, .inl f42)), (h31, .inl (cZ, 30, .inl f43))]) [0, 1, 2, 3, 4, 5, 6, 7, 8, 9, 10, 11] (by decide) rfl) hS (lv_sub hl [0, 1, 2, 3, 4] rfl)
theorem dX6_mostLeft_0 : decode cX6_mostLeft 0 = .ok (.iconst 0, 1) := by decide +kernel
theorem dX6_mostLeft_1 : decode cX6_mostLeft 1 = .ok (.istore 4, 2) := by decide +kernel
theorem dX6_mostLeft_3 : decode cX6_mostLeft 3 = .ok (.iconst 0, 1) := by decide +kernel
theorem dX6_mostLeft_4 : decode cX6_mostLeft 4 = .ok (.istore 5, 2) := by decide +kernel
theorem dX6_mostLeft_6 : decode cX6_mostLeft 6 = .ok (.iload 5, 2) := by decide +kernel
theorem dX6_mostLeft_8 : decode cX6_mostLeft 8 = .ok (.aload_n 1, 1) := by decide +kernel
theorem dX6_mostLeft_9 : decode cX6_mostLeft 9 = .ok (.getfield 32, 3) := by decide +kernel
theorem dX6_mostLeft_12 : decode cX6_mostLeft 12 = .ok (.getfield 38, 3) := by decide +kernel
theorem dX6_mostLeft_15 : decode cX6_mostLeft 15 = .ok (.if_icmp .ge 71, 3) := by decide +kernel
theorem dX6_mostLeft_86 : decode cX6_mostLeft 86 = .ok (.iload 4, 2) := by decide +kernel
theorem dX6_mostLeft_88 : decode cX6_mostLeft 88 = .ok (.ireturn, 1) := by decide +kernel
theorem dX6_mostLeft_18 : decode cX6_mostLeft 18 = .ok (.iconst 0, 1) := by decide +kernel
theorem dX6_mostLeft_19 : decode cX6_mostLeft 19 = .ok (.istore 6, 2) := by decide +kernel
theorem dX6_mostLeft_21 : decode cX6_mostLeft 21 = .ok (.iconst 0, 1) := by decide +kernel
theorem dX6_mostLeft_22 : decode cX6_mostLeft 22 = .ok (.istore 7, 2) := by decide +kernel
theorem dX6_mostLeft_24 : decode cX6_mostLeft 24 = .ok (.iload 7, 2) := by decide +kernel
theorem dX6_mostLeft_26 : decode cX6_mostLeft 26 = .ok (.aload_n 1, 1) := by decide +kernel
theorem dX6_mostLeft_27 : decode cX6_mostLeft 27 = .ok (.getfield 32, 3) := by decide +kernel
theorem dX6_mostLeft_30 : decode cX6_mostLeft 30 = .ok (.getfield 38, 3) := by decide +kernel
theorem dX6_mostLeft_33 : decode cX6_mostLeft 33 = .ok (.if_icmp .ge 38, 3) := by decide +kernel
theorem dX6_mostLeft_71 : decode cX6_mostLeft 71 = .ok (.iload 4, 2) := by decide +kernel
theorem dX6_mostLeft_73 : decode cX6_mostLeft 73 = .ok (.iload 6, 2) := by decide +kernel
theorem kw1242 : (.methodLink RX6 71 Lib.Math.max.name : Cond) ∈ gT := gT_of 1242 (by decide +kernel) (by decide +kernel)
theorem dX6_mostLeft_75 : decode cX6_mostLeft 75 = .ok (.invokestatic 71, 3) := by decide +kernel
theorem dX6_mostLeft_78 : decode cX6_mostLeft 78 = .ok (.istore 4, 2) := by decide +kernel
theorem dX6_mostLeft_80 : decode cX6_mostLeft 80 = .ok (.iinc 5 1, 3) := by decide +kernel
theorem dX6_mostLeft_83 : decode cX6_mostLeft 83 = .ok (.goto (-77), 3) := by decide +kernel
theorem dX6_mostLeft_36 : decode cX6_mostLeft 36 = .ok (.iload_n 2, 1) := by decide +kernel
theorem dX6_mostLeft_37 : decode cX6_mostLeft 37 = .ok (.iload 7, 2) := by decide +kernel
theorem dX6_mostLeft_39 : decode cX6_mostLeft 39 = .ok (.ishr, 1) := by decide +kernel
theorem dX6_mostLeft_40 : decode cX6_mostLeft 40 = .ok (.iconst 1, 1) := by decide +kernel
theorem dX6_mostLeft_41 : decode cX6_mostLeft 41 = .ok (.iand, 1) := by decide +kernel
theorem dX6_mostLeft_42 : decode cX6_mostLeft 42 = .ok (.ifCond .eq 23, 3) := by decide +kernel
theorem dX6_mostLeft_65 : decode cX6_mostLeft 65 = .ok (.iinc 7 1, 3) := by decide +kernel
theorem dX6_mostLeft_68 : decode cX6_mostLeft 68 = .ok (.goto (-44), 3) := by decide +kernel
theorem dX6_mostLeft_45 : decode cX6_mostLeft 45 = .ok (.iload_n 3, 1) := by decide +kernel
theorem dX6_mostLeft_46 : decode cX6_mostLeft 46 = .ok (.aload_n 1, 1) := by decide +kernel
theorem dX6_mostLeft_47 : decode cX6_mostLeft 47 = .ok (.iload 7, 2) := by decide +kernel
theorem dX6_mostLeft_49 : decode cX6_mostLeft 49 = .ok (.invokestatic 58, 3) := by decide +kernel
theorem dX6_mostLeft_52 : decode cX6_mostLeft 52 = .ok (.iload_n 3, 1) := by decide +kernel
theorem dX6_mostLeft_53 : decode cX6_mostLeft 53 = .ok (.aload_n 1, 1) := by decide +kernel
theorem dX6_mostLeft_54 : decode cX6_mostLeft 54 = .ok (.iload 5, 2) := by decide +kernel
theorem dX6_mostLeft_56 : decode cX6_mostLeft 56 = .ok (.invokestatic 58, 3) := by decide +kernel
theorem dX6_mostLeft_59 : decode cX6_mostLeft 59 = .ok (.if_icmp .ne 6, 3) := by decide +kernel
theorem dX6_mostLeft_62 : decode cX6_mostLeft 62 = .ok (.iinc 6 1, 3) := by decide +kernel
set_option maxHeartbeats 4000000 in
set_option maxRecDepth 100000 in
theorem sX6_mostLeft_1 (l : Launch) (D : va_G) (cB cI cJ cZ : ClassId) (aK aV : Nat → Nat) (h0 : Nat) (h1 : Nat) (x2 : Int32) (x3 : Int32) (h4 : Nat) (h5 : Nat) (h6 : Nat) (h7 : Nat) (h8 : Nat) (h9 : Nat) (x10 : Int32) (x11 : Int32) (x12 : Int32) (x13 : Int32) (x14 : Int32) (h15 : Nat) (h16 : Nat) (h17 : Nat) (h18 : Nat) (h19 : Nat) (h20 : Nat) (h21 : Nat) (h22 : Nat) (h23 : Nat) (h24 : Nat) (x25 : Int32) (x26 : Int32) (x27 : Int32) (x28 : Int32) (x29 : Int32) (f30 : Nat → Int32) (f31 : Nat → Int32) (f32 : Nat → Int32) (gh0 : 0 ≤ x11.toInt) (gh1 : 0 ≤ -x11.toInt + 999) (gh2 : 0 ≤ x12.toInt) (gh3 : 0 ≤ -x12.toInt + 4) (gh4 : 0 ≤ x13.toInt) (gh5 : 0 ≤ -x13.toInt + 3) (gh6 : 0 ≤ x14.toInt) (gh7 : 0 ≤ -x14.toInt + 7) (gh8 : 0 ≤ x28.toInt + 1) (gh9 : 0 ≤ -x28.toInt + 999) (ga0 : AR f31 (0) (3) (x14.toInt)) : MX l yX6_mostLeft cX6_mostLeft 8 (some .int) (rmL 2 0 0) D cB cI cJ cZ aK aV [.ref h0, .ref h1, .int x2, .int x3] [(h1, .inr (3, [.ref h4, .ref h5, .ref h6, .ref h7, .ref h8, .ref h9, .int x10, .int x11])), (h4, .inr (8, [.int x12, .int x13, .int x14, .ref h15, .ref h16, .ref h17, .ref h18, .ref h19, .ref h20, .ref h21, .ref h22, .ref h23, .ref h24, .int x25, .int x26, .int x27, .int x28, .int x29])), (h7, .inl (cI, 7, .inl f30)), (h5, .inl (cI, 7, .inl f31)), (h20, .inl (cI, 7, .inl f32))] (fun r w1 => ∃ z1 : Int32, 0 ≤ z1.toInt ∧ 0 ≤ -z1.toInt + 7 ∧ r = some (.int z1) ∧ w1 = [(h1, .inr (3, [.ref h4, .ref h5, .ref h6, .ref h7, .ref h8, .ref h9, .int x10, .int x11])), (h4, .inr (8, [.int x12, .int x13, .int x14, .ref h15, .ref h16, .ref h17, .ref h18, .ref h19, .ref h20, .ref h21, .ref h22, .ref h23, .ref h24, .int x25, .int x26, .int x27, .int x28, .int x29])), (h7, .inl (cI, 7, .inl f30)), (h5, .inl (cI, 7, .inl f31)), (h20, .inl (cI, 7, .inl f32))]) := by
  refine MX.intro (by decide) (Nat.le_of_ble_eq_true rfl) ?_
  intro p e s m below meth c A ls hx hb hr hml hown hlocks hnm hts hG hE hA hS hP hD hl hAe
  have hl : lv_has ls 8 [(0, .ref h0), (1, .ref h1), (2, .int x2), (3, .int x3)] := hl
  have hown : s.vm.findClass RX6 = some m.cls := hown
  refine lv_iconst (v := 0) hx hb dX6_mostLeft_0 (by decide +kernel) ?_
  refine lv_istore (lv' := [(4, .int 0), (0, .ref h0), (1, .ref h1), (2, .int x2), (3, .int x3)]) hx hb dX6_mostLeft_1 hl (by decide) rfl (fun ls hl => ?_)
  refine lv_iconst (v := 0) hx hb dX6_mostLeft_3 (by decide +kernel) ?_
  refine lv_istore (lv' := [(5, .int 0), (4, .int 0), (0, .ref h0), (1, .ref h1), (2, .int x2), (3, .int x3)]) hx hb dX6_mostLeft_4 hl (by decide) rfl (fun ls hl => ?_)
  have lp_5 : ∀ (n : Nat) (x_3 x_4 : Int32) (H : Heap) (locs : List Loc) (ls : Array Slot), 0 ≤ x_3.toInt → 0 ≤ -x_3.toInt + 7 → 0 ≤ x_4.toInt → 0 ≤ x14.toInt - x_4.toInt → -x_4.toInt + 7 < n → va_P D vwCl [(h1, .inr (3, [.ref h4, .ref h5, .ref h6, .ref h7, .ref h8, .ref h9, .int x10, .int x11])), (h4, .inr (8, [.int x12, .int x13, .int x14, .ref h15, .ref h16, .ref h17, .ref h18, .ref h19, .ref h20, .ref h21, .ref h22, .ref h23, .ref h24, .int x25, .int x26, .int x27, .int x28, .int x29])), (h7, .inl (cI, 7, .inl f30)), (h5, .inl (cI, 7, .inl f31)), (h20, .inl (cI, 7, .inl f32))] H → va_D A [(h1, .inr (3, [.ref h4, .ref h5, .ref h6, .ref h7, .ref h8, .ref h9, .int x10, .int x11])), (h4, .inr (8, [.int x12, .int x13, .int x14, .ref h15, .ref h16, .ref h17, .ref h18, .ref h19, .ref h20, .ref h21, .ref h22, .ref h23, .ref h24, .int x25, .int x26, .int x27, .int x28, .int x29])), (h7, .inl (cI, 7, .inl f30)), (h5, .inl (cI, 7, .inl f31)), (h20, .inl (cI, 7, .inl f32))] → va_S A s.heap H locs → lv_has ls 8 [(5, .int x_4), (4, .int x_3), (0, .ref h0), (1, .ref h1), (2, .int x2), (3, .int x3)] → W p l e (rmL 2 0 0) s m [.ref h0, .ref h1, .int x2, .int x3].toArray below meth c H locs 0 0 (ZX D below [.ref h0, .ref h1, .int x2, .int x3] s (rmL 2 0 0) [(h1, .inr (3, [.ref h4, .ref h5, .ref h6, .ref h7, .ref h8, .ref h9, .int x10, .int x11])), (h4, .inr (8, [.int x12, .int x13, .int x14, .ref h15, .ref h16, .ref h17, .ref h18, .ref h19, .ref h20, .ref h21, .ref h22, .ref h23, .ref h24, .int x25, .int x26, .int x27, .int x28, .int x29])), (h7, .inl (cI, 7, .inl f30)), (h5, .inl (cI, 7, .inl f31)), (h20, .inl (cI, 7, .inl f32))] (fun r w1 => ∃ z1 : Int32, 0 ≤ z1.toInt ∧ 0 ≤ -z1.toInt + 7 ∧ r = some (.int z1) ∧ w1 = [(h1, .inr (3, [.ref h4, .ref h5, .ref h6, .ref h7, .ref h8, .ref h9, .int x10, .int x11])), (h4, .inr (8, [.int x12, .int x13, .int x14, .ref h15, .ref h16, .ref h17, .ref h18, .ref h19, .ref h20, .ref h21, .ref h22, .ref h23, .ref h24, .int x25, .int x26, .int x27, .int x28, .int x29])), (h7, .inl (cI, 7, .inl f30)), (h5, .inl (cI, 7, .inl f31)), (h20, .inl (cI, 7, .inl f32))])) (F0 m 6 ls []) := by
    intro n
    induction n with
    | zero => intro x_3 x_4 H locs ls g_6 g_7 g_8 g_9 g_10; omega
    | succ n ihlp_5 =>
      intro x_3 x_4 H locs ls g_6 g_7 g_8 g_9 g_10 hP hD hS hl
      refine lv_iload hx hb dX6_mostLeft_6 (lv_at hl 0 rfl) ?_
      refine lv_aload_n hx hb dX6_mostLeft_8 rfl (lv_at hl 3 rfl) ?_
      refine va_get (D := D) (ci := 3) (v := .ref h4) (C := RX3) (T := TX3) (N := 8) hx hb hts inX3 hown hG.1 hP 0 rfl rfl 0 (by decide) (hts _ kw427) (fun _ h9 => h9) rfl dX6_mostLeft_9 ?_
      refine va_get (D := D) (ci := 8) (v := .int x14) (C := RX8) (T := TX8) (N := 18) hx hb hts inX8 hown hG.1 hP 1 rfl rfl 2 (by decide) (hts _ kw210) (fun _ h9 => h9) rfl dX6_mostLeft_12 ?_
      refine lv_icmp_ge (tgt := 86) hx hb dX6_mostLeft_15 (by decide) (fun c_11 => ?_) (fun c_11 => ?_)
      · have fc_11 : x14.toInt ≤ x_4.toInt := i_le rfl rfl c_11
        refine lv_iload hx hb dX6_mostLeft_86 (lv_at hl 1 rfl) ?_
        have hP9 := hP.sub (ws' := [(h1, .inr (3, [.ref h4, .ref h5, .ref h6, .ref h7, .ref h8, .ref h9, .int x10, .int x11])), (h4, .inr (8, [.int x12, .int x13, .int x14, .ref h15, .ref h16, .ref h17, .ref h18, .ref h19, .ref h20, .ref h21, .ref h22, .ref h23, .ref h24, .int x25, .int x26, .int x27, .int x28, .int x29])), (h7, .inl (cI, 7, .inl f30)), (h5, .inl (cI, 7, .inl f31)), (h20, .inl (cI, 7, .inl f32))]) [0, 1, 2, 3, 4] rfl
        have hD9 := hD.sub (ws' := [(h1, .inr (3, [.ref h4, .ref h5, .ref h6, .ref h7, .ref h8, .ref h9, .int x10, .int x11])), (h4, .inr (8, [.int x12, .int x13, .int x14, .ref h15, .ref h16, .ref h17, .ref h18, .ref h19, .ref h20, .ref h21, .ref h22, .ref h23, .ref h24, .int x25, .int x26, .int x27, .int x28, .int x29])), (h7, .inl (cI, 7, .inl f30)), (h5, .inl (cI, 7, .inl f31)), (h20, .inl (cI, 7, .inl f32))]) [0, 1, 2, 3, 4] (by decide) rfl
        exact xr_i (rm := (rmL 2 0 0)) hx hb hr hlocks hAe hS hP9 hD9 rfl (Nat.le_of_ble_eq_true rfl) (Nat.le_of_ble_eq_true rfl) dX6_mostLeft_88 ⟨x_3, by omega, by omega, rfl, rfl⟩
      · have fc_11 : x_4.toInt < x14.toInt := i_nle rfl rfl c_11
        refine lv_iconst (v := 0) hx hb dX6_mostLeft_18 (by decide +kernel) ?_
        refine lv_istore (lv' := [(6, .int 0), (5, .int x_4), (4, .int x_3), (0, .ref h0), (1, .ref h1), (2, .int x2), (3, .int x3)]) hx hb dX6_mostLeft_19 hl (by decide) rfl (fun ls hl => ?_)
        refine lv_iconst (v := 0) hx hb dX6_mostLeft_21 (by decide +kernel) ?_
        refine lv_istore (lv' := [(7, .int 0), (6, .int 0), (5, .int x_4), (4, .int x_3), (0, .ref h0), (1, .ref h1), (2, .int x2), (3, .int x3)]) hx hb dX6_mostLeft_22 hl (by decide) rfl (fun ls hl => ?_)
        have lp_16 : ∀ (n : Nat) (x_14 x_15 : Int32) (H : Heap) (locs : List Loc) (ls : Array Slot), 0 ≤ x_14.toInt → 0 ≤ -x_14.toInt + x_15.toInt → 0 ≤ x14.toInt - x_15.toInt → -x_15.toInt + 7 < n → va_P D vwCl [(h1, .inr (3, [.ref h4, .ref h5, .ref h6, .ref h7, .ref h8, .ref h9, .int x10, .int x11])), (h4, .inr (8, [.int x12, .int x13, .int x14, .ref h15, .ref h16, .ref h17, .ref h18, .ref h19, .ref h20, .ref h21, .ref h22, .ref h23, .ref h24, .int x25, .int x26, .int x27, .int x28, .int x29])), (h7, .inl (cI, 7, .inl f30)), (h5, .inl (cI, 7, .inl f31)), (h20, .inl (cI, 7, .inl f32))] H → va_D A [(h1, .inr (3, [.ref h4, .ref h5, .ref h6, .ref h7, .ref h8, .ref h9, .int x10, .int x11])), (h4, .inr (8, [.int x12, .int x13, .int x14, .ref h15, .ref h16, .ref h17, .ref h18, .ref h19, .ref h20, .ref h21, .ref h22, .ref h23, .ref h24, .int x25, .int x26, .int x27, .int x28, .int x29])), (h7, .inl (cI, 7, .inl f30)), (h5, .inl (cI, 7, .inl f31)), (h20, .inl (cI, 7, .inl f32))] → va_S A s.heap H locs → lv_has ls 8 [(7, .int x_15), (6, .int x_14), (5, .int x_4), (4, .int x_3), (0, .ref h0), (1, .ref h1), (2, .int x2), (3, .int x3)] → W p l e (rmL 2 0 0) s m [.ref h0, .ref h1, .int x2, .int x3].toArray below meth c H locs 0 0 (ZX D below [.ref h0, .ref h1, .int x2, .int x3] s (rmL 2 0 0) [(h1, .inr (3, [.ref h4, .ref h5, .ref h6, .ref h7, .ref h8, .ref h9, .int x10, .int x11])), (h4, .inr (8, [.int x12, .int x13, .int x14, .ref h15, .ref h16, .ref h17, .ref h18, .ref h19, .ref h20, .ref h21, .ref h22, .ref h23, .ref h24, .int x25, .int x26, .int x27, .int x28, .int x29])), (h7, .inl (cI, 7, .inl f30)), (h5, .inl (cI, 7, .inl f31)), (h20, .inl (cI, 7, .inl f32))] (fun r w1 => ∃ z1 : Int32, 0 ≤ z1.toInt ∧ 0 ≤ -z1.toInt + 7 ∧ r = some (.int z1) ∧ w1 = [(h1, .inr (3, [.ref h4, .ref h5, .ref h6, .ref h7, .ref h8, .ref h9, .int x10, .int x11])), (h4, .inr (8, [.int x12, .int x13, .int x14, .ref h15, .ref h16, .ref h17, .ref h18, .ref h19, .ref h20, .ref h21, .ref h22, .ref h23, .ref h24, .int x25, .int x26, .int x27, .int x28, .int x29])), (h7, .inl (cI, 7, .inl f30)), (h5, .inl (cI, 7, .inl f31)), (h20, .inl (cI, 7, .inl f32))])) (F0 m 24 ls []) := by
          intro n
          induction n with
          | zero => intro x_14 x_15 H locs ls g_17 g_18 g_19 g_20; omega
          | succ n ihlp_16 =>
            intro x_14 x_15 H locs ls g_17 g_18 g_19 g_20 hP hD hS hl
            refine lv_iload hx hb dX6_mostLeft_24 (lv_at hl 0 rfl) ?_
            refine lv_aload_n hx hb dX6_mostLeft_26 rfl (lv_at hl 5 rfl) ?_
            refine va_get (D := D) (ci := 3) (v := .ref h4) (C := RX3) (T := TX3) (N := 8) hx hb hts inX3 hown hG.1 hP 0 rfl rfl 0 (by decide) (hts _ kw427) (fun _ h9 => h9) rfl dX6_mostLeft_27 ?_
            refine va_get (D := D) (ci := 8) (v := .int x14) (C := RX8) (T := TX8) (N := 18) hx hb hts inX8 hown hG.1 hP 1 rfl rfl 2 (by decide) (hts _ kw210) (fun _ h9 => h9) rfl dX6_mostLeft_30 ?_
            refine lv_icmp_ge (tgt := 71) hx hb dX6_mostLeft_33 (by decide) (fun c_21 => ?_) (fun c_21 => ?_)
            · have fc_21 : x14.toInt ≤ x_15.toInt := i_le rfl rfl c_21
              refine lv_iload hx hb dX6_mostLeft_71 (lv_at hl 3 rfl) ?_
              refine lv_iload hx hb dX6_mostLeft_73 (lv_at hl 1 rfl) ?_
              refine va_mmax hx hb (hml.trans hl.1.symm) hown (hts _ kw1242) (hts _ kw683) (hts _ kw128) (hts _ kw684) (Nat.le_of_ble_eq_true rfl) (Nat.le_of_ble_eq_true rfl) (Nat.le_of_ble_eq_true rfl) (Nat.le_of_ble_eq_true rfl) dX6_mostLeft_75 ?_
              refine lv_topi (fun v_22 ev_22 => ?_)
              have g_23 := i32_max rfl rfl ev_22
              refine lv_istore (lv' := [(4, .int v_22), (7, .int x_15), (6, .int x_14), (5, .int x_4), (0, .ref h0), (1, .ref h1), (2, .int x2), (3, .int x3)]) hx hb dX6_mostLeft_78 hl (by decide) rfl (fun ls hl => ?_)
              obtain ⟨v_24, ev_24⟩ : ∃ y : Int32, y = x_4 + 1 := ⟨_, rfl⟩
              have gv_24 : v_24.toInt = x_4.toInt + 1 := by
                have zy : (1 : Int32).toInt = 1 := by decide
                rw [ev_24, i32_add (by rw [zy]; omega) (by rw [zy]; omega), zy]
              refine lv_iinc (v := v_24) (lv' := [(5, .int v_24), (4, .int v_22), (7, .int x_15), (6, .int x_14), (0, .ref h0), (1, .ref h1), (2, .int x2), (3, .int x3)]) hx hb dX6_mostLeft_80 hl (k := 3) rfl (by rw [ev_24]; rfl) (by decide) rfl (fun ls hl => ?_)
              refine lv_goto (tgt := 6) hx hb dX6_mostLeft_83 (by decide) ?_
              exact ihlp_5  v_22 v_24 _ _ _ (by omega) (by omega) (by omega) (by omega) (by omega) (hP.sub (ws' := [(h1, .inr (3, [.ref h4, .ref h5, .ref h6, .ref h7, .ref h8, .ref h9, .int x10, .int x11])), (h4, .inr (8, [.int x12, .int x13, .int x14, .ref h15, .ref h16, .ref h17, .ref h18, .ref h19, .ref h20, .ref h21, .ref h22, .ref h23, .ref h24, .int x25, .int x26, .int x27, .int x28, .int x29])), (h7, .inl (cI, 7, .inl f30)), (h5, .inl (cI, 7, .inl f31)), (h20, .inl (cI, 7, .inl f32))]) [0, 1, 2, 3, 4] rfl) (hD.sub (ws' := [(h1, .inr (3, [.ref h4, .ref h5, .ref h6, .ref h7, .ref h8, .ref h9, .int x10, .int x11])), (h4, .inr (8, [.int x12, .int x13, .int x14, .ref h15, .ref h16, .ref h17, .ref h18, .ref h19, .ref h20, .ref h21, .ref h22, .ref h23, .ref h24, .int x25, .int x26, .int x27, .int x28, .int x29])), (h7, .inl (cI, 7, .inl f30)), (h5, .inl (cI, 7, .inl f31)), (h20, .inl (cI, 7, .inl f32))]) [0, 1, 2, 3, 4] (by decide) rfl) hS (lv_sub hl [0, 1, 4, 5, 6, 7] rfl)
            · have fc_21 : x_15.toInt < x14.toInt := i_nle rfl rfl c_21
              refine lv_iload_n hx hb dX6_mostLeft_36 rfl (lv_at hl 6 rfl) ?_
              refine lv_iload hx hb dX6_mostLeft_37 (lv_at hl 0 rfl) ?_
              refine lv_ishr hx hb dX6_mostLeft_39 ?_
              refine xt_any (fun v_25 => ?_)
              refine lv_iconst (v := 1) hx hb dX6_mostLeft_40 (by decide +kernel) ?_
              refine lv_iand hx hb dX6_mostLeft_41 ?_
              refine lv_topi (fun v_26 ev_26 => ?_)
              have gv_26 : 0 ≤ v_26.toInt ∧ v_26.toInt < 2 := by rw [ev_26]; exact i32_and (m := 1) 1 (by decide) (by decide)
              refine lv_if_eq (tgt := 65) hx hb dX6_mostLeft_42 (by decide) (fun c_27 => ?_) (fun c_27 => ?_)
              · have fc_27 : v_26.toInt = (0 : Int) := i_eq rfl (by decide) c_27
                obtain ⟨v_28, ev_28⟩ : ∃ y : Int32, y = x_15 + 1 := ⟨_, rfl⟩
                have gv_28 : v_28.toInt = x_15.toInt + 1 := by
                  have zy : (1 : Int32).toInt = 1 := by decide
                  rw [ev_28, i32_add (by rw [zy]; omega) (by rw [zy]; omega), zy]
                refine lv_iinc (v := v_28) (lv' := [(7, .int v_28), (6, .int x_14), (5, .int x_4), (4, .int x_3), (0, .ref h0), (1, .ref h1), (2, .int x2), (3, .int x3)]) hx hb dX6_mostLeft_65 hl (k := 0) rfl (by rw [ev_28]; rfl) (by decide) rfl (fun ls hl => ?_)
                refine lv_goto (tgt := 24) hx hb dX6_mostLeft_68 (by decide) ?_
                exact ihlp_16  x_14 v_28 _ _ _ (by omega) (by omega) (by omega) (by omega) (hP.sub (ws' := [(h1, .inr (3, [.ref h4, .ref h5, .ref h6, .ref h7, .ref h8, .ref h9, .int x10, .int x11])), (h4, .inr (8, [.int x12, .int x13, .int x14, .ref h15, .ref h16, .ref h17, .ref h18, .ref h19, .ref h20, .ref h21, .ref h22, .ref h23, .ref h24, .int x25, .int x26, .int x27, .int x28, .int x29])), (h7, .inl (cI, 7, .inl f30)), (h5, .inl (cI, 7, .inl f31)), (h20, .inl (cI, 7, .inl f32))]) [0, 1, 2, 3, 4] rfl) (hD.sub (ws' := [(h1, .inr (3, [.ref h4, .ref h5, .ref h6, .ref h7, .ref h8, .ref h9, .int x10, .int x11])), (h4, .inr (8, [.int x12, .int x13, .int x14, .ref h15, .ref h16, .ref h17, .ref h18, .ref h19, .ref h20, .ref h21, .ref h22, .ref h23, .ref h24, .int x25, .int x26, .int x27, .int x28, .int x29])), (h7, .inl (cI, 7, .inl f30)), (h5, .inl (cI, 7, .inl f31)), (h20, .inl (cI, 7, .inl f32))]) [0, 1, 2, 3, 4] (by decide) rfl) hS (lv_sub hl [0, 1, 2, 3, 4, 5, 6, 7] rfl)
              · have fc_27 : v_26.toInt ≠ (0 : Int) := i_ne rfl (by decide) c_27
                refine lv_iload_n hx hb dX6_mostLeft_45 rfl (lv_at hl 7 rfl) ?_
                refine lv_aload_n hx hb dX6_mostLeft_46 rfl (lv_at hl 5 rfl) ?_
                refine lv_iload hx hb dX6_mostLeft_47 (lv_at hl 0 rfl) ?_
                refine xc_core (wr := []) (k := 0) (n := 0) (xc_runS (As := [.int x3, .ref h1, .int x_15]) (rest := []) hx hb hml hown hts hG hE hP hD hS hA [0, 2, 1, 3, 4] (by decide) rfl (sX6_answerOf_1 l D cB cI cJ cZ aK aV x3 h1 x_15 h4 h5 h6 h7 h8 h9 x10 x11 f30 f31 x12 x13 x14 h15 h16 h17 h18 h19 h20 h21 h22 h23 h24 x25 x26 x27 x28 x29 f32 (by omega) (by omega) (by omega) (by omega) (by omega) (by omega) (by omega) (by omega) (by omega) (by omega) (by omega) (by omega) (ga0.mono (by omega) (by omega) (by omega))) kw1231 kw1229 kw1230 kw125 (show XD yX6_answerOf 3 from by decide +kernel) (by decide) hl.1 rfl (Nat.le_of_ble_eq_true rfl) dX6_mostLeft_49 (by decide)) hP hD hS hA [0, 2, 1, 3, 4] [] rfl rfl (by decide) (by decide) (Nat.le_of_ble_eq_true rfl) (Nat.le_of_ble_eq_true rfl) (fun r w1 H locs hpost hP hD hS => ?_)
                obtain ⟨v_29, rfl, rfl⟩ := hpost
                have hP : va_P D vwCl [(h1, .inr (3, [.ref h4, .ref h5, .ref h6, .ref h7, .ref h8, .ref h9, .int x10, .int x11])), (h7, .inl (cI, 7, .inl f30)), (h4, .inr (8, [.int x12, .int x13, .int x14, .ref h15, .ref h16, .ref h17, .ref h18, .ref h19, .ref h20, .ref h21, .ref h22, .ref h23, .ref h24, .int x25, .int x26, .int x27, .int x28, .int x29])), (h5, .inl (cI, 7, .inl f31)), (h20, .inl (cI, 7, .inl f32))] H := hP
                have hD : va_D A [(h1, .inr (3, [.ref h4, .ref h5, .ref h6, .ref h7, .ref h8, .ref h9, .int x10, .int x11])), (h7, .inl (cI, 7, .inl f30)), (h4, .inr (8, [.int x12, .int x13, .int x14, .ref h15, .ref h16, .ref h17, .ref h18, .ref h19, .ref h20, .ref h21, .ref h22, .ref h23, .ref h24, .int x25, .int x26, .int x27, .int x28, .int x29])), (h5, .inl (cI, 7, .inl f31)), (h20, .inl (cI, 7, .inl f32))] := hD
                refine lv_iload_n hx hb dX6_mostLeft_52 rfl (lv_at hl 7 rfl) ?_
                refine lv_aload_n hx hb dX6_mostLeft_53 rfl (lv_at hl 5 rfl) ?_
                refine lv_iload hx hb dX6_mostLeft_54 (lv_at hl 2 rfl) ?_
                refine xc_core (wr := []) (k := 0) (n := 0) (xc_runS (As := [.int x3, .ref h1, .int x_4]) (rest := [.int v_29]) hx hb hml hown hts hG hE hP hD hS hA [0, 1, 2, 3, 4] (by decide) rfl (sX6_answerOf_1 l D cB cI cJ cZ aK aV x3 h1 x_4 h4 h5 h6 h7 h8 h9 x10 x11 f30 f31 x12 x13 x14 h15 h16 h17 h18 h19 h20 h21 h22 h23 h24 x25 x26 x27 x28 x29 f32 (by omega) (by omega) (by omega) (by omega) (by omega) (by omega) (by omega) (by omega) (by omega) (by omega) (by omega) (by omega) (ga0.mono (by omega) (by omega) (by omega))) kw1231 kw1229 kw1230 kw125 (show XD yX6_answerOf 3 from by decide +kernel) (by decide) hl.1 rfl (Nat.le_of_ble_eq_true rfl) dX6_mostLeft_56 (by decide)) hP hD hS hA [0, 1, 2, 3, 4] [] rfl rfl (by decide) (by decide) (Nat.le_of_ble_eq_true rfl) (Nat.le_of_ble_eq_true rfl) (fun r w1 H locs hpost hP hD hS => ?_)
                obtain ⟨v_30, rfl, rfl⟩ := hpost
                have hP : va_P D vwCl [(h1, .inr (3, [.ref h4, .ref h5, .ref h6, .ref h7, .ref h8, .ref h9, .int x10, .int x11])), (h7, .inl (cI, 7, .inl f30)), (h4, .inr (8, [.int x12, .int x13, .int x14, .ref h15, .ref h16, .ref h17, .ref h18, .ref h19, .ref h20, .ref h21, .ref h22, .ref h23, .ref h24, .int x25, .int x26, .int x27, .int x28, .int x29])), (h5, .inl (cI, 7, .inl f31)), (h20, .inl (cI, 7, .inl f32))] H := hP
                have hD : va_D A [(h1, .inr (3, [.ref h4, .ref h5, .ref h6, .ref h7, .ref h8, .ref h9, .int x10, .int x11])), (h7, .inl (cI, 7, .inl f30)), (h4, .inr (8, [.int x12, .int x13, .int x14, .ref h15, .ref h16, .ref h17, .ref h18, .ref h19, .ref h20, .ref h21, .ref h22, .ref h23, .ref h24, .int x25, .int x26, .int x27, .int x28, .int x29])), (h5, .inl (cI, 7, .inl f31)), (h20, .inl (cI, 7, .inl f32))] := hD
                refine lv_icmp_ne (tgt := 65) hx hb dX6_mostLeft_59 (by decide) (fun c_31 => ?_) (fun c_31 => ?_)
                · have fc_31 : v_29.toInt ≠ v_30.toInt := i_ne rfl rfl c_31
                  obtain ⟨v_32, ev_32⟩ : ∃ y : Int32, y = x_15 + 1 := ⟨_, rfl⟩
                  have gv_32 : v_32.toInt = x_15.toInt + 1 := by
                    have zy : (1 : Int32).toInt = 1 := by decide
                    rw [ev_32, i32_add (by rw [zy]; omega) (by rw [zy]; omega), zy]
                  refine lv_iinc (v := v_32) (lv' := [(7, .int v_32), (6, .int x_14), (5, .int x_4), (4, .int x_3), (0, .ref h0), (1, .ref h1), (2, .int x2), (3, .int x3)]) hx hb dX6_mostLeft_65 hl (k := 0) rfl (by rw [ev_32]; rfl) (by decide) rfl (fun ls hl => ?_)
                  refine lv_goto (tgt := 24) hx hb dX6_mostLeft_68 (by decide) ?_
                  exact ihlp_16  x_14 v_32 _ _ _ (by omega) (by omega) (by omega) (by omega) (hP.sub (ws' := [(h1, .inr (3, [.ref h4, .ref h5, .ref h6, .ref h7, .ref h8, .ref h9, .int x10, .int x11])), (h4, .inr (8, [.int x12, .int x13, .int x14, .ref h15, .ref h16, .ref h17, .ref h18, .ref h19, .ref h20, .ref h21, .ref h22, .ref h23, .ref h24, .int x25, .int x26, .int x27, .int x28, .int x29])), (h7, .inl (cI, 7, .inl f30)), (h5, .inl (cI, 7, .inl f31)), (h20, .inl (cI, 7, .inl f32))]) [0, 2, 1, 3, 4] rfl) (hD.sub (ws' := [(h1, .inr (3, [.ref h4, .ref h5, .ref h6, .ref h7, .ref h8, .ref h9, .int x10, .int x11])), (h4, .inr (8, [.int x12, .int x13, .int x14, .ref h15, .ref h16, .ref h17, .ref h18, .ref h19, .ref h20, .ref h21, .ref h22, .ref h23, .ref h24, .int x25, .int x26, .int x27, .int x28, .int x29])), (h7, .inl (cI, 7, .inl f30)), (h5, .inl (cI, 7, .inl f31)), (h20, .inl (cI, 7, .inl f32))]) [0, 2, 1, 3, 4] (by decide) rfl) hS (lv_sub hl [0, 1, 2, 3, 4, 5, 6, 7] rfl)
                · have fc_31 : v_29.toInt = v_30.toInt := i_eq rfl rfl c_31
                  obtain ⟨v_33, ev_33⟩ : ∃ y : Int32, y = x_14 + 1 := ⟨_, rfl⟩
                  have gv_33 : v_33.toInt = x_14.toInt + 1 := by
                    have zy : (1 : Int32).toInt = 1 := by decide
                    rw [ev_33, i32_add (by rw [zy]; omega) (by rw [zy]; omega), zy]
                  refine lv_iinc (v := v_33) (lv' := [(6, .int v_33), (7, .int x_15), (5, .int x_4), (4, .int x_3), (0, .ref h0), (1, .ref h1), (2, .int x2), (3, .int x3)]) hx hb dX6_mostLeft_62 hl (k := 1) rfl (by rw [ev_33]; rfl) (by decide) rfl (fun ls hl => ?_)
                  obtain ⟨v_34, ev_34⟩ : ∃ y : Int32, y = x_15 + 1 := ⟨_, rfl⟩
                  have gv_34 : v_34.toInt = x_15.toInt + 1 := by
                    have zy : (1 : Int32).toInt = 1 := by decide
                    rw [ev_34, i32_add (by rw [zy]; omega) (by rw [zy]; omega), zy]
                  refine lv_iinc (v := v_34) (lv' := [(7, .int v_34), (6, .int v_33), (5, .int x_4), (4, .int x_3), (0, .ref h0), (1, .ref h1), (2, .int x2), (3, .int x3)]) hx hb dX6_mostLeft_65 hl (k := 1) rfl (by rw [ev_34]; rfl) (by decide) rfl (fun ls hl => ?_)
                  refine lv_goto (tgt := 24) hx hb dX6_mostLeft_68 (by decide) ?_
                  exact ihlp_16  v_33 v_34 _ _ _ (by omega) (by omega) (by omega) (by omega) (hP.sub (ws' := [(h1, .inr (3, [.ref h4, .ref h5, .ref h6, .ref h7, .ref h8, .ref h9, .int x10, .int x11])), (h4, .inr (8, [.int x12, .int x13, .int x14, .ref h15, .ref h16, .ref h17, .ref h18, .ref h19, .ref h20, .ref h21, .ref h22, .ref h23, .ref h24, .int x25, .int x26, .int x27, .int x28, .int x29])), (h7, .inl (cI, 7, .inl f30)), (h5, .inl (cI, 7, .inl f31)), (h20, .inl (cI, 7, .inl f32))]) [0, 2, 1, 3, 4] rfl) (hD.sub (ws' := [(h1, .inr (3, [.ref h4, .ref h5, .ref h6, .ref h7, .ref h8, .ref h9, .int x10, .int x11])), (h4, .inr (8, [.int x12, .int x13, .int x14, .ref h15, .ref h16, .ref h17, .ref h18, .ref h19, .ref h20, .ref h21, .ref h22, .ref h23, .ref h24, .int x25, .int x26, .int x27, .int x28, .int x29])), (h7, .inl (cI, 7, .inl f30)), (h5, .inl (cI, 7, .inl f31)), (h20, .inl (cI, 7, .inl f32))]) [0, 2, 1, 3, 4] (by decide) rfl) hS (lv_sub hl [0, 1, 2, 3, 4, 5, 6, 7] rfl)
        exact lp_16 9 0 0 _ _ _ (by have zc0 : (0 : Int32).toInt = 0 := (by decide); omega) (by have zc0 : (0 : Int32).toInt = 0 := (by decide); omega) (by have zc0 : (0 : Int32).toInt = 0 := (by decide); omega) (by have zc0 : (0 : Int32).toInt = 0 := (by decide); omega) (hP.sub (ws' := [(h1, .inr (3, [.ref h4, .ref h5, .ref h6, .ref h7, .ref h8, .ref h9, .int x10, .int x11])), (h4, .inr (8, [.int x12, .int x13, .int x14, .ref h15, .ref h16, .ref h17, .ref h18, .ref h19, .ref h20, .ref h21, .ref h22, .ref h23, .ref h24, .int x25, .int x26, .int x27, .int x28, .int x29])), (h7, .inl (cI, 7, .inl f30)), (h5, .inl (cI, 7, .inl f31)), (h20, .inl (cI, 7, .inl f32))]) [0, 1, 2, 3, 4] rfl) (hD.sub (ws' := [(h1, .inr (3, [.ref h4, .ref h5, .ref h6, .ref h7, .ref h8, .ref h9, .int x10, .int x11])), (h4, .inr (8, [.int x12, .int x13, .int x14, .ref h15, .ref h16, .ref h17, .ref h18, .ref h19, .ref h20, .ref h21, .ref h22, .ref h23, .ref h24, .int x25, .int x26, .int x27, .int x28, .int x29])), (h7, .inl (cI, 7, .inl f30)), (h5, .inl (cI, 7, .inl f31)), (h20, .inl (cI, 7, .inl f32))]) [0, 1, 2, 3, 4] (by decide) rfl) hS (lv_sub hl [0, 1, 2, 3, 4, 5, 6, 7] rfl)
  exact lp_5 9 0 0 _ _ _ (by have zc0 : (0 : Int32).toInt = 0 := (by decide); omega) (by have zc0 : (0 : Int32).toInt = 0 := (by decide); omega) (by have zc0 : (0 : Int32).toInt = 0 := (by decide); omega) (by have zc0 : (0 : Int32).toInt = 0 := (by decide); omega) (by have zc0 : (0 : Int32).toInt = 0 := (by decide); omega) (hP.sub (ws' := [(h1, .inr (3, [.ref h4, .ref h5, .ref h6, .ref h7, .ref h8, .ref h9, .int x10, .int x11])), (h4, .inr (8, [.int x12, .int x13, .int x14, .ref h15, .ref h16, .ref h17, .ref h18, .ref h19, .ref h20, .ref h21, .ref h22, .ref h23, .ref h24, .int x25, .int x26, .int x27, .int x28, .int x29])), (h7, .inl (cI, 7, .inl f30)), (h5, .inl (cI, 7, .inl f31)), (h20, .inl (cI, 7, .inl f32))]) [0, 1, 2, 3, 4] rfl) (hD.sub (ws' := [(h1, .inr (3, [.ref h4, .ref h5, .ref h6, .ref h7, .ref h8, .ref h9, .int x10, .int x11])), (h4, .inr (8, [.int x12, .int x13, .int x14, .ref h15, .ref h16, .ref h17, .ref h18, .ref h19, .ref h20, .ref h21, .ref h22, .ref h23, .ref h24, .int x25, .int x26, .int x27, .int x28, .int x29])), (h7, .inl (cI, 7, .inl f30)), (h5, .inl (cI, 7, .inl f31)), (h20, .inl (cI, 7, .inl f32))]) [0, 1, 2, 3, 4] (by decide) rfl) hS (lv_sub hl [0, 1, 2, 3, 4, 5] rfl)
theorem dX0_weigh_0 : decode cX0_weigh 0 = .ok (.aload_n 0, 1) := by decide +kernel
theorem dX0_weigh_1 : decode cX0_weigh 1 = .ok (.aload_n 1, 1) := by decide +kernel
theorem kw426 : (.fieldLink RX0 24 "SpiceSwaps$Moment" "told" "LSpiceSwaps$Told;" : Cond) ∈ gT := gT_of 426 (by decide +kernel) (by decide +kernel)
theorem dX0_weigh_2 : decode cX0_weigh 2 = .ok (.getfield 24, 3) := by decide +kernel
theorem kw198 : (.fieldLink RX0 30 "SpiceSwaps$Told" "courts" "I" : Cond) ∈ gT := gT_of 198 (by decide +kernel) (by decide +kernel)
theorem dX0_weigh_5 : decode cX0_weigh 5 = .ok (.getfield 30, 3) := by decide +kernel
theorem kw489 : (.fieldLink RX0 36 "SpiceSwaps$Bargains" "courts" "I" : Cond) ∈ gT := gT_of 489 (by decide +kernel) (by decide +kernel)
theorem dX0_weigh_8 : decode cX0_weigh 8 = .ok (.putfield 36, 3) := by decide +kernel
theorem dX0_weigh_11 : decode cX0_weigh 11 = .ok (.aload_n 0, 1) := by decide +kernel
theorem dX0_weigh_12 : decode cX0_weigh 12 = .ok (.aload_n 1, 1) := by decide +kernel
theorem dX0_weigh_13 : decode cX0_weigh 13 = .ok (.getfield 24, 3) := by decide +kernel
theorem kw207 : (.fieldLink RX0 37 "SpiceSwaps$Told" "places" "I" : Cond) ∈ gT := gT_of 207 (by decide +kernel) (by decide +kernel)
theorem dX0_weigh_16 : decode cX0_weigh 16 = .ok (.getfield 37, 3) := by decide +kernel
theorem kw490 : (.fieldLink RX0 40 "SpiceSwaps$Bargains" "places" "I" : Cond) ∈ gT := gT_of 490 (by decide +kernel) (by decide +kernel)
theorem dX0_weigh_19 : decode cX0_weigh 19 = .ok (.putfield 40, 3) := by decide +kernel
theorem dX0_weigh_22 : decode cX0_weigh 22 = .ok (.iconst 0, 1) := by decide +kernel
theorem dX0_weigh_23 : decode cX0_weigh 23 = .ok (.istore_n 2, 1) := by decide +kernel
theorem dX0_weigh_24 : decode cX0_weigh 24 = .ok (.iload_n 2, 1) := by decide +kernel
theorem dX0_weigh_25 : decode cX0_weigh 25 = .ok (.aload_n 0, 1) := by decide +kernel
theorem dX0_weigh_26 : decode cX0_weigh 26 = .ok (.getfield 40, 3) := by decide +kernel
theorem dX0_weigh_29 : decode cX0_weigh 29 = .ok (.if_icmp .ge 54, 3) := by decide +kernel
theorem dX0_weigh_83 : decode cX0_weigh 83 = .ok (.return_, 1) := by decide +kernel
theorem dX0_weigh_32 : decode cX0_weigh 32 = .ok (.aload_n 0, 1) := by decide +kernel
theorem kw492 : (.fieldLink RX0 15 "SpiceSwaps$Bargains" "holders" "[I" : Cond) ∈ gT := gT_of 492 (by decide +kernel) (by decide +kernel)
theorem dX0_weigh_33 : decode cX0_weigh 33 = .ok (.getfield 15, 3) := by decide +kernel
theorem dX0_weigh_36 : decode cX0_weigh 36 = .ok (.iload_n 2, 1) := by decide +kernel
theorem dX0_weigh_37 : decode cX0_weigh 37 = .ok (.aload_n 1, 1) := by decide +kernel
theorem kw429 : (.fieldLink RX0 41 "SpiceSwaps$Moment" "holderOf" "[I" : Cond) ∈ gT := gT_of 429 (by decide +kernel) (by decide +kernel)
theorem dX0_weigh_38 : decode cX0_weigh 38 = .ok (.getfield 41, 3) := by decide +kernel
theorem dX0_weigh_41 : decode cX0_weigh 41 = .ok (.iload_n 2, 1) := by decide +kernel
theorem dX0_weigh_42 : decode cX0_weigh 42 = .ok (.iaload, 1) := by decide +kernel
theorem dX0_weigh_43 : decode cX0_weigh 43 = .ok (.iastore, 1) := by decide +kernel
theorem dX0_weigh_44 : decode cX0_weigh 44 = .ok (.iconst 0, 1) := by decide +kernel
theorem dX0_weigh_45 : decode cX0_weigh 45 = .ok (.istore_n 3, 1) := by decide +kernel
theorem dX0_weigh_46 : decode cX0_weigh 46 = .ok (.iload_n 3, 1) := by decide +kernel
theorem dX0_weigh_47 : decode cX0_weigh 47 = .ok (.aload_n 0, 1) := by decide +kernel
theorem dX0_weigh_48 : decode cX0_weigh 48 = .ok (.getfield 36, 3) := by decide +kernel
theorem dX0_weigh_51 : decode cX0_weigh 51 = .ok (.if_icmp .ge 26, 3) := by decide +kernel
theorem dX0_weigh_77 : decode cX0_weigh 77 = .ok (.iinc 2 1, 3) := by decide +kernel
theorem dX0_weigh_80 : decode cX0_weigh 80 = .ok (.goto (-56), 3) := by decide +kernel
theorem dX0_weigh_54 : decode cX0_weigh 54 = .ok (.aload_n 0, 1) := by decide +kernel
theorem kw491 : (.fieldLink RX0 9 "SpiceSwaps$Bargains" "worths" "[I" : Cond) ∈ gT := gT_of 491 (by decide +kernel) (by decide +kernel)
theorem dX0_weigh_55 : decode cX0_weigh 55 = .ok (.getfield 9, 3) := by decide +kernel
theorem dX0_weigh_58 : decode cX0_weigh 58 = .ok (.iload_n 3, 1) := by decide +kernel
theorem dX0_weigh_59 : decode cX0_weigh 59 = .ok (.bipush 7, 2) := by decide +kernel
theorem dX0_weigh_61 : decode cX0_weigh 61 = .ok (.imul, 1) := by decide +kernel
theorem dX0_weigh_62 : decode cX0_weigh 62 = .ok (.iload_n 2, 1) := by decide +kernel
theorem dX0_weigh_63 : decode cX0_weigh 63 = .ok (.iadd, 1) := by decide +kernel
theorem dX0_weigh_64 : decode cX0_weigh 64 = .ok (.aload_n 1, 1) := by decide +kernel
theorem dX0_weigh_65 : decode cX0_weigh 65 = .ok (.iload_n 3, 1) := by decide +kernel
theorem dX0_weigh_66 : decode cX0_weigh 66 = .ok (.iload_n 2, 1) := by decide +kernel
theorem kw876 : (.methodLink RX0 44 yX3_worthTo : Cond) ∈ gT := gT_of 876 (by decide +kernel) (by decide +kernel)
theorem kw879 : (.code yX3_worthTo cX3_worthTo 4 (some .int) : Cond) ∈ gT := gT_of 879 (by decide +kernel) (by decide +kernel)
theorem kw877 : (.instanceMethod yX3_worthTo : Cond) ∈ gT := gT_of 877 (by decide +kernel) (by decide +kernel)
theorem kw878 : (.selects RX3 yX3_worthTo yX3_worthTo : Cond) ∈ gT := gT_of 878 (by decide +kernel) (by decide +kernel)
theorem dX0_weigh_67 : decode cX0_weigh 67 = .ok (.invokevirtual 44, 3) := by decide +kernel
theorem dX0_weigh_70 : decode cX0_weigh 70 = .ok (.iastore, 1) := by decide +kernel
theorem dX0_weigh_71 : decode cX0_weigh 71 = .ok (.iinc 3 1, 3) := by decide +kernel
theorem dX0_weigh_74 : decode cX0_weigh 74 = .ok (.goto (-28), 3) := by decide +kernel
set_option maxHeartbeats 4000000 in
set_option maxRecDepth 100000 in
theorem sX0_weigh_1 (l : Launch) (D : va_G) (cB cI cJ cZ : ClassId) (aK aV : Nat → Nat) (h0 : Nat) (h1 : Nat) (h2 : Nat) (h3 : Nat) (h4 : Nat) (h5 : Nat) (h6 : Nat) (h7 : Nat) (x8 : Int32) (x9 : Int32) (x10 : Int32) (x11 : Int32) (x12 : Int32) (h13 : Nat) (h14 : Nat) (h15 : Nat) (h16 : Nat) (h17 : Nat) (h18 : Nat) (h19 : Nat) (h20 : Nat) (h21 : Nat) (h22 : Nat) (x23 : Int32) (x24 : Int32) (x25 : Int32) (x26 : Int32) (x27 : Int32) (x28 : Int32) (x29 : Int32) (h30 : Nat) (h31 : Nat) (x32 : Int32) (x33 : Int32) (x34 : Int32) (h35 : Nat) (h36 : Nat) (x37 : Int32) (x38 : Int32) (x39 : Int32) (x40 : Int32) (x41 : Int32) (f42 : Nat → Int32) (f43 : Nat → Int32) (f44 : Nat → Int32) (h45 : Nat) (h46 : Nat) (x47 : Int32) (x48 : Int32) (x49 : Int32) (f50 : Nat → Int32) (f51 : Nat → Int32) (f52 : Nat → Int32) (f53 : Nat → Int32) (f54 : Nat → Int32) (f55 : Nat → Int32) (f56 : Nat → Int32) (f57 : Nat → Int32) (f58 : Nat → Int32) (gh0 : 0 ≤ x9.toInt) (gh1 : 0 ≤ -x9.toInt + 999) (gh2 : 0 ≤ x10.toInt) (gh3 : 0 ≤ -x10.toInt + 4) (gh4 : 0 ≤ x11.toInt) (gh5 : 0 ≤ -x11.toInt + 3) (gh6 : 0 ≤ x12.toInt) (gh7 : 0 ≤ -x12.toInt + 7) (gh8 : 0 ≤ x26.toInt + 1) (gh9 : 0 ≤ -x26.toInt + 999) (gh10 : 0 ≤ x28.toInt) (gh11 : 0 ≤ -x28.toInt + 4) (gh12 : 0 ≤ x29.toInt) (gh13 : 0 ≤ -x29.toInt + 7) (gh14 : 0 ≤ x33.toInt) (gh15 : 0 ≤ -x33.toInt + 6) (gh16 : 0 ≤ x34.toInt) (gh17 : 0 ≤ -x34.toInt + 6) (gh18 : 0 ≤ x47.toInt) (gh19 : 0 ≤ -x47.toInt + 272) (ga0 : AR f42 (0) (3) (x12.toInt)) (ga1 : AR f43 (0) (3) (x29.toInt)) : MX l yX0_weigh cX0_weigh 4 none (rmL 5 0 0) D cB cI cJ cZ aK aV [.ref h0, .ref h1] [(h1, .inr (3, [.ref h2, .ref h3, .ref h4, .ref h5, .ref h6, .ref h7, .int x8, .int x9])), (h2, .inr (8, [.int x10, .int x11, .int x12, .ref h13, .ref h14, .ref h15, .ref h16, .ref h17, .ref h18, .ref h19, .ref h20, .ref h21, .ref h22, .int x23, .int x24, .int x25, .int x26, .int x27])), (h0, .inr (0, [.int x28, .int x29, .ref h30, .ref h31, .int x32, .int x33, .int x34, .ref h35, .ref h36, .int x37, .int x38, .int x39, .int x40, .int x41])), (h3, .inl (cI, 7, .inl f42)), (h31, .inl (cI, 7, .inl f43)), (h20, .inl (cI, 28, .inl f44)), (h21, .inr (1, [.ref h45, .ref h46, .int x47, .int x48, .int x49])), (h4, .inl (cI, 7, .inl f50)), (h7, .inl (cI, 7, .inl f51)), (h18, .inl (cI, 7, .inl f52)), (h19, .inl (cI, 7, .inl f53)), (h5, .inl (cI, 7, .inl f54)), (h14, .inl (cI, 3, .inl f55)), (h45, .inl (cI, 272, .inl f56)), (h46, .inl (cI, 30, .inl f57)), (h30, .inl (cI, 28, .inl f58))] (fun r w1 => ∃ z1 : Nat → Int32, ∃ z2 : Nat → Int32, ∃ z3 : Nat → Int32, ∃ z4 : Nat → Int32, AR z1 (0) (3) (x12.toInt) ∧ r = none ∧ w1 = [(h1, .inr (3, [.ref h2, .ref h3, .ref h4, .ref h5, .ref h6, .ref h7, .int x8, .int x9])), (h2, .inr (8, [.int x10, .int x11, .int x12, .ref h13, .ref h14, .ref h15, .ref h16, .ref h17, .ref h18, .ref h19, .ref h20, .ref h21, .ref h22, .int x23, .int x24, .int x25, .int x26, .int x27])), (h0, .inr (0, [.int x10, .int x12, .ref h30, .ref h31, .int x32, .int x33, .int x34, .ref h35, .ref h36, .int x37, .int x38, .int x39, .int x40, .int x41])), (h3, .inl (cI, 7, .inl f42)), (h31, .inl (cI, 7, .inl z1)), (h20, .inl (cI, 28, .inl f44)), (h21, .inr (1, [.ref h45, .ref h46, .int x47, .int x48, .int x49])), (h4, .inl (cI, 7, .inl f50)), (h7, .inl (cI, 7, .inl z2)), (h18, .inl (cI, 7, .inl f52)), (h19, .inl (cI, 7, .inl f53)), (h5, .inl (cI, 7, .inl f54)), (h14, .inl (cI, 3, .inl f55)), (h45, .inl (cI, 272, .inl f56)), (h46, .inl (cI, 30, .inl z3)), (h30, .inl (cI, 28, .inl z4))]) := by
  refine MX.intro (by decide) (Nat.le_of_ble_eq_true rfl) ?_
  intro p e s m below meth c A ls hx hb hr hml hown hlocks hnm hts hG hE hA hS hP hD hl hAe
  have hl : lv_has ls 4 [(0, .ref h0), (1, .ref h1)] := hl
  have hown : s.vm.findClass RX0 = some m.cls := hown
  refine lv_aload_n hx hb dX0_weigh_0 rfl (lv_at hl 0 rfl) ?_
  refine lv_aload_n hx hb dX0_weigh_1 rfl (lv_at hl 1 rfl) ?_
  refine va_get (D := D) (ci := 3) (v := .ref h2) (C := RX3) (T := TX3) (N := 8) hx hb hts inX3 hown hG.1 hP 0 rfl rfl 0 (by decide) (hts _ kw426) (fun _ h9 => h9) rfl dX0_weigh_2 ?_
  refine va_get (D := D) (ci := 8) (v := .int x10) (C := RX8) (T := TX8) (N := 18) hx hb hts inX8 hown hG.1 hP 1 rfl rfl 0 (by decide) (hts _ kw198) (fun _ h9 => h9) rfl dX0_weigh_5 ?_
  refine va_put (D := D) (ci := 0) (v := .int x10) (ty := .int) (C := RX0) (T := TX0) (N := 14) hx hb hts inX0 tyX0 tyX0_ok nmX0 hown hG.1 hP hD hS 2 rfl rfl 0 (by decide) (hts _ kw489) (fun _ h9 => h9) rfl (by decide +kernel) rfl rfl (Nat.le_of_ble_eq_true rfl) dX0_weigh_8 (fun H locs hP hD hS => ?_)
  have hP : va_P D vwCl [(h1, .inr (3, [.ref h2, .ref h3, .ref h4, .ref h5, .ref h6, .ref h7, .int x8, .int x9])), (h2, .inr (8, [.int x10, .int x11, .int x12, .ref h13, .ref h14, .ref h15, .ref h16, .ref h17, .ref h18, .ref h19, .ref h20, .ref h21, .ref h22, .int x23, .int x24, .int x25, .int x26, .int x27])), (h0, .inr (0, [.int x10, .int x29, .ref h30, .ref h31, .int x32, .int x33, .int x34, .ref h35, .ref h36, .int x37, .int x38, .int x39, .int x40, .int x41])), (h3, .inl (cI, 7, .inl f42)), (h31, .inl (cI, 7, .inl f43)), (h20, .inl (cI, 28, .inl f44)), (h21, .inr (1, [.ref h45, .ref h46, .int x47, .int x48, .int x49])), (h4, .inl (cI, 7, .inl f50)), (h7, .inl (cI, 7, .inl f51)), (h18, .inl (cI, 7, .inl f52)), (h19, .inl (cI, 7, .inl f53)), (h5, .inl (cI, 7, .inl f54)), (h14, .inl (cI, 3, .inl f55)), (h45, .inl (cI, 272, .inl f56)), (h46, .inl (cI, 30, .inl f57)), (h30, .inl (cI, 28, .inl f58))] H := hP
  have hD : va_D A [(h1, .inr (3, [.ref h2, .ref h3, .ref h4, .ref h5, .ref h6, .ref h7, .int x8, .int x9])), (h2, .inr (8, [.int x10, .int x11, .int x12, .ref h13, .ref h14, .ref h15, .ref h16, .ref h17, .ref h18, .ref h19, .ref h20, .ref h21, .ref h22, .int x23, .int x24, .int x25, .int x26, .int x27])), (h0, .inr (0, [.int x10, .int x29, .ref h30, .ref h31, .int x32, .int x33, .int x34, .ref h35, .ref h36, .int x37, .int x38, .int x39, .int x40, .int x41])), (h3, .inl (cI, 7, .inl f42)), (h31, .inl (cI, 7, .inl f43)), (h20, .inl (cI, 28, .inl f44)), (h21, .inr (1, [.ref h45, .ref h46, .int x47, .int x48, .int x49])), (h4, .inl (cI, 7, .inl f50)), (h7, .inl (cI, 7, .inl f51)), (h18, .inl (cI, 7, .inl f52)), (h19, .inl (cI, 7, .inl f53)), (h5, .inl (cI, 7, .inl f54)), (h14, .inl (cI, 3, .inl f55)), (h45, .inl (cI, 272, .inl f56)), (h46, .inl (cI, 30, .inl f57)), (h30, .inl (cI, 28, .inl f58))] := hD
  refine lv_aload_n hx hb dX0_weigh_11 rfl (lv_at hl 0 rfl) ?_
  refine lv_aload_n hx hb dX0_weigh_12 rfl (lv_at hl 1 rfl) ?_
  refine va_get (D := D) (ci := 3) (v := .ref h2) (C := RX3) (T := TX3) (N := 8) hx hb hts inX3 hown hG.1 hP 0 rfl rfl 0 (by decide) (hts _ kw426) (fun _ h9 => h9) rfl dX0_weigh_13 ?_
  refine va_get (D := D) (ci := 8) (v := .int x12) (C := RX8) (T := TX8) (N := 18) hx hb hts inX8 hown hG.1 hP 1 rfl rfl 2 (by decide) (hts _ kw207) (fun _ h9 => h9) rfl dX0_weigh_16 ?_
  refine va_put (D := D) (ci := 0) (v := .int x12) (ty := .int) (C := RX0) (T := TX0) (N := 14) hx hb hts inX0 tyX0 tyX0_ok nmX0 hown hG.1 hP hD hS 2 rfl rfl 1 (by decide) (hts _ kw490) (fun _ h9 => h9) rfl (by decide +kernel) rfl rfl (Nat.le_of_ble_eq_true rfl) dX0_weigh_19 (fun H locs hP hD hS => ?_)
  have hP : va_P D vwCl [(h1, .inr (3, [.ref h2, .ref h3, .ref h4, .ref h5, .ref h6, .ref h7, .int x8, .int x9])), (h2, .inr (8, [.int x10, .int x11, .int x12, .ref h13, .ref h14, .ref h15, .ref h16, .ref h17, .ref h18, .ref h19, .ref h20, .ref h21, .ref h22, .int x23, .int x24, .int x25, .int x26, .int x27])), (h0, .inr (0, [.int x10, .int x12, .ref h30, .ref h31, .int x32, .int x33, .int x34, .ref h35, .ref h36, .int x37, .int x38, .int x39, .int x40, .int x41])), (h3, .inl (cI, 7, .inl f42)), (h31, .inl (cI, 7, .inl f43)), (h20, .inl (cI, 28, .inl f44)), (h21, .inr (1, [.ref h45, .ref h46, .int x47, .int x48, .int x49])), (h4, .inl (cI, 7, .inl f50)), (h7, .inl (cI, 7, .inl f51)), (h18, .inl (cI, 7, .inl f52)), (h19, .inl (cI, 7, .inl f53)), (h5, .inl (cI, 7, .inl f54)), (h14, .inl (cI, 3, .inl f55)), (h45, .inl (cI, 272, .inl f56)), (h46, .inl (cI, 30, .inl f57)), (h30, .inl (cI, 28, .inl f58))] H := hP
  have hD : va_D A [(h1, .inr (3, [.ref h2, .ref h3, .ref h4, .ref h5, .ref h6, .ref h7, .int x8, .int x9])), (h2, .inr (8, [.int x10, .int x11, .int x12, .ref h13, .ref h14, .ref h15, .ref h16, .ref h17, .ref h18, .ref h19, .ref h20, .ref h21, .ref h22, .int x23, .int x24, .int x25, .int x26, .int x27])), (h0, .inr (0, [.int x10, .int x12, .ref h30, .ref h31, .int x32, .int x33, .int x34, .ref h35, .ref h36, .int x37, .int x38, .int x39, .int x40, .int x41])), (h3, .inl (cI, 7, .inl f42)), (h31, .inl (cI, 7, .inl f43)), (h20, .inl (cI, 28, .inl f44)), (h21, .inr (1, [.ref h45, .ref h46, .int x47, .int x48, .int x49])), (h4, .inl (cI, 7, .inl f50)), (h7, .inl (cI, 7, .inl f51)), (h18, .inl (cI, 7, .inl f52)), (h19, .inl (cI, 7, .inl f53)), (h5, .inl (cI, 7, .inl f54)), (h14, .inl (cI, 3, .inl f55)), (h45, .inl (cI, 272, .inl f56)), (h46, .inl (cI, 30, .inl f57)), (h30, .inl (cI, 28, .inl f58))] := hD
  refine lv_iconst (v := 0) hx hb dX0_weigh_22 (by decide +kernel) ?_
  refine lv_istore_n (lv' := [(2, .int 0), (0, .ref h0), (1, .ref h1)]) hx hb dX0_weigh_23 rfl hl (by decide) rfl (fun ls hl => ?_)
  have lp_11 : ∀ (n : Nat) (x_6 : Int32) (f_7 : Nat → Int32) (f_8 : Nat → Int32) (f_9 : Nat → Int32) (f_10 : Nat → Int32) (H : Heap) (locs : List Loc) (ls : Array Slot), 0 ≤ x_6.toInt → 0 ≤ x12.toInt - x_6.toInt → AR f_8 (0) (3) (x29.toInt) → AR f_8 (0) (3) (x_6.toInt) → -x_6.toInt + 7 < n → va_P D vwCl [(h1, .inr (3, [.ref h2, .ref h3, .ref h4, .ref h5, .ref h6, .ref h7, .int x8, .int x9])), (h2, .inr (8, [.int x10, .int x11, .int x12, .ref h13, .ref h14, .ref h15, .ref h16, .ref h17, .ref h18, .ref h19, .ref h20, .ref h21, .ref h22, .int x23, .int x24, .int x25, .int x26, .int x27])), (h0, .inr (0, [.int x10, .int x12, .ref h30, .ref h31, .int x32, .int x33, .int x34, .ref h35, .ref h36, .int x37, .int x38, .int x39, .int x40, .int x41])), (h3, .inl (cI, 7, .inl f42)), (h31, .inl (cI, 7, .inl f_8)), (h20, .inl (cI, 28, .inl f44)), (h21, .inr (1, [.ref h45, .ref h46, .int x47, .int x48, .int x49])), (h4, .inl (cI, 7, .inl f50)), (h7, .inl (cI, 7, .inl f_10)), (h18, .inl (cI, 7, .inl f52)), (h19, .inl (cI, 7, .inl f53)), (h5, .inl (cI, 7, .inl f54)), (h14, .inl (cI, 3, .inl f55)), (h45, .inl (cI, 272, .inl f56)), (h46, .inl (cI, 30, .inl f_9)), (h30, .inl (cI, 28, .inl f_7))] H → va_D A [(h1, .inr (3, [.ref h2, .ref h3, .ref h4, .ref h5, .ref h6, .ref h7, .int x8, .int x9])), (h2, .inr (8, [.int x10, .int x11, .int x12, .ref h13, .ref h14, .ref h15, .ref h16, .ref h17, .ref h18, .ref h19, .ref h20, .ref h21, .ref h22, .int x23, .int x24, .int x25, .int x26, .int x27])), (h0, .inr (0, [.int x10, .int x12, .ref h30, .ref h31, .int x32, .int x33, .int x34, .ref h35, .ref h36, .int x37, .int x38, .int x39, .int x40, .int x41])), (h3, .inl (cI, 7, .inl f42)), (h31, .inl (cI, 7, .inl f_8)), (h20, .inl (cI, 28, .inl f44)), (h21, .inr (1, [.ref h45, .ref h46, .int x47, .int x48, .int x49])), (h4, .inl (cI, 7, .inl f50)), (h7, .inl (cI, 7, .inl f_10)), (h18, .inl (cI, 7, .inl f52)), (h19, .inl (cI, 7, .inl f53)), (h5, .inl (cI, 7, .inl f54)), (h14, .inl (cI, 3, .inl f55)), (h45, .inl (cI, 272, .inl f56)), (h46, .inl (cI, 30, .inl f_9)), (h30, .inl (cI, 28, .inl f_7))] → va_S A s.heap H locs → lv_has ls 4 [(2, .int x_6), (0, .ref h0), (1, .ref h1)] → W p l e (rmL 5 0 0) s m [.ref h0, .ref h1].toArray below meth c H locs 0 0 (ZX D below [.ref h0, .ref h1] s (rmL 5 0 0) [(h1, .inr (3, [.ref h2, .ref h3, .ref h4, .ref h5, .ref h6, .ref h7, .int x8, .int x9])), (h2, .inr (8, [.int x10, .int x11, .int x12, .ref h13, .ref h14, .ref h15, .ref h16, .ref h17, .ref h18, .ref h19, .ref h20, .ref h21, .ref h22, .int x23, .int x24, .int x25, .int x26, .int x27])), (h0, .inr (0, [.int x28, .int x29, .ref h30, .ref h31, .int x32, .int x33, .int x34, .ref h35, .ref h36, .int x37, .int x38, .int x39, .int x40, .int x41])), (h3, .inl (cI, 7, .inl f42)), (h31, .inl (cI, 7, .inl f43)), (h20, .inl (cI, 28, .inl f44)), (h21, .inr (1, [.ref h45, .ref h46, .int x47, .int x48, .int x49])), (h4, .inl (cI, 7, .inl f50)), (h7, .inl (cI, 7, .inl f51)), (h18, .inl (cI, 7, .inl f52)), (h19, .inl (cI, 7, .inl f53)), (h5, .inl (cI, 7, .inl f54)), (h14, .inl (cI, 3, .inl f55)), (h45, .inl (cI, 272, .inl f56)), (h46, .inl (cI, 30, .inl f57)), (h30, .inl (cI, 28, .inl f58))] (fun r w1 => ∃ z1 : Nat → Int32, ∃ z2 : Nat → Int32, ∃ z3 : Nat → Int32, ∃ z4 : Nat → Int32, AR z1 (0) (3) (x12.toInt) ∧ r = none ∧ w1 = [(h1, .inr (3, [.ref h2, .ref h3, .ref h4, .ref h5, .ref h6, .ref h7, .int x8, .int x9])), (h2, .inr (8, [.int x10, .int x11, .int x12, .ref h13, .ref h14, .ref h15, .ref h16, .ref h17, .ref h18, .ref h19, .ref h20, .ref h21, .ref h22, .int x23, .int x24, .int x25, .int x26, .int x27])), (h0, .inr (0, [.int x10, .int x12, .ref h30, .ref h31, .int x32, .int x33, .int x34, .ref h35, .ref h36, .int x37, .int x38, .int x39, .int x40, .int x41])), (h3, .inl (cI, 7, .inl f42)), (h31, .inl (cI, 7, .inl z1)), (h20, .inl (cI, 28, .inl f44)), (h21, .inr (1, [.ref h45, .ref h46, .int x47, .int x48, .int x49])), (h4, .inl (cI, 7, .inl f50)), (h7, .inl (cI, 7, .inl z2)), (h18, .inl (cI, 7, .inl f52)), (h19, .inl (cI, 7, .inl f53)), (h5, .inl (cI, 7, .inl f54)), (h14, .inl (cI, 3, .inl f55)), (h45, .inl (cI, 272, .inl f56)), (h46, .inl (cI, 30, .inl z3)), (h30, .inl (cI, 28, .inl z4))])) (F0 m 24 ls []) := by
    intro n
    induction n with
    | zero => intro x_6 f_7 f_8 f_9 f_10 H locs ls g_12 g_13 g_14 g_15 g_16; omega
    | succ n ihlp_11 =>
      intro x_6 f_7 f_8 f_9 f_10 H locs ls g_12 g_13 g_14 g_15 g_16 hP hD hS hl
      refine lv_iload_n hx hb dX0_weigh_24 rfl (lv_at hl 0 rfl) ?_
      refine lv_aload_n hx hb dX0_weigh_25 rfl (lv_at hl 1 rfl) ?_
      refine va_get (D := D) (ci := 0) (v := .int x12) (C := RX0) (T := TX0) (N := 14) hx hb hts inX0 hown hG.1 hP 2 rfl rfl 1 (by decide) (hts _ kw490) (fun _ h9 => h9) rfl dX0_weigh_26 ?_
      refine lv_icmp_ge (tgt := 83) hx hb dX0_weigh_29 (by decide) (fun c_17 => ?_) (fun c_17 => ?_)
      · have fc_17 : x12.toInt ≤ x_6.toInt := i_le rfl rfl c_17
        have hP9 := hP.sub (ws' := [(h1, .inr (3, [.ref h2, .ref h3, .ref h4, .ref h5, .ref h6, .ref h7, .int x8, .int x9])), (h2, .inr (8, [.int x10, .int x11, .int x12, .ref h13, .ref h14, .ref h15, .ref h16, .ref h17, .ref h18, .ref h19, .ref h20, .ref h21, .ref h22, .int x23, .int x24, .int x25, .int x26, .int x27])), (h0, .inr (0, [.int x10, .int x12, .ref h30, .ref h31, .int x32, .int x33, .int x34, .ref h35, .ref h36, .int x37, .int x38, .int x39, .int x40, .int x41])), (h3, .inl (cI, 7, .inl f42)), (h31, .inl (cI, 7, .inl f_8)), (h20, .inl (cI, 28, .inl f44)), (h21, .inr (1, [.ref h45, .ref h46, .int x47, .int x48, .int x49])), (h4, .inl (cI, 7, .inl f50)), (h7, .inl (cI, 7, .inl f_10)), (h18, .inl (cI, 7, .inl f52)), (h19, .inl (cI, 7, .inl f53)), (h5, .inl (cI, 7, .inl f54)), (h14, .inl (cI, 3, .inl f55)), (h45, .inl (cI, 272, .inl f56)), (h46, .inl (cI, 30, .inl f_9)), (h30, .inl (cI, 28, .inl f_7))]) [0, 1, 2, 3, 4, 5, 6, 7, 8, 9, 10, 11, 12, 13, 14, 15] rfl
        have hD9 := hD.sub (ws' := [(h1, .inr (3, [.ref h2, .ref h3, .ref h4, .ref h5, .ref h6, .ref h7, .int x8, .int x9])), (h2, .inr (8, [.int x10, .int x11, .int x12, .ref h13, .ref h14, .ref h15, .ref h16, .ref h17, .ref h18, .ref h19, .ref h20, .ref h21, .ref h22, .int x23, .int x24, .int x25, .int x26, .int x27])), (h0, .inr (0, [.int x10, .int x12, .ref h30, .ref h31, .int x32, .int x33, .int x34, .ref h35, .ref h36, .int x37, .int x38, .int x39, .int x40, .int x41])), (h3, .inl (cI, 7, .inl f42)), (h31, .inl (cI, 7, .inl f_8)), (h20, .inl (cI, 28, .inl f44)), (h21, .inr (1, [.ref h45, .ref h46, .int x47, .int x48, .int x49])), (h4, .inl (cI, 7, .inl f50)), (h7, .inl (cI, 7, .inl f_10)), (h18, .inl (cI, 7, .inl f52)), (h19, .inl (cI, 7, .inl f53)), (h5, .inl (cI, 7, .inl f54)), (h14, .inl (cI, 3, .inl f55)), (h45, .inl (cI, 272, .inl f56)), (h46, .inl (cI, 30, .inl f_9)), (h30, .inl (cI, 28, .inl f_7))]) [0, 1, 2, 3, 4, 5, 6, 7, 8, 9, 10, 11, 12, 13, 14, 15] (by decide) rfl
        exact xr_v (rm := (rmL 5 0 0)) hx hb hr hlocks hAe hS hP9 hD9 (Nat.le_of_ble_eq_true rfl) (Nat.le_of_ble_eq_true rfl) dX0_weigh_83 ⟨f_8, f_10, f_9, f_7, g_15.mono (by omega) (by omega) (by omega), rfl, rfl⟩
      · have fc_17 : x_6.toInt < x12.toInt := i_nle rfl rfl c_17
        refine lv_aload_n hx hb dX0_weigh_32 rfl (lv_at hl 1 rfl) ?_
        refine va_get (D := D) (ci := 0) (v := .ref h31) (C := RX0) (T := TX0) (N := 14) hx hb hts inX0 hown hG.1 hP 2 rfl rfl 3 (by decide) (hts _ kw492) (fun _ h9 => h9) rfl dX0_weigh_33 ?_
        refine lv_iload_n hx hb dX0_weigh_36 rfl (lv_at hl 0 rfl) ?_
        refine lv_aload_n hx hb dX0_weigh_37 rfl (lv_at hl 2 rfl) ?_
        refine va_get (D := D) (ci := 3) (v := .ref h3) (C := RX3) (T := TX3) (N := 8) hx hb hts inX3 hown hG.1 hP 0 rfl rfl 1 (by decide) (hts _ kw429) (fun _ h9 => h9) rfl dX0_weigh_38 ?_
        refine lv_iload_n hx hb dX0_weigh_41 rfl (lv_at hl 0 rfl) ?_
        refine xa_ildR hx hb hG hP 3 rfl (vp_in_iff.mpr ⟨by omega, by omega⟩) dX0_weigh_42 (fun v_18 hv => ?_)
        have g_19 := hv _ _ _ ga0 (by omega)
        refine xa_istS hx hb hG hP hD hS 4 rfl (vp_in_iff.mpr ⟨by omega, by omega⟩) dX0_weigh_43 (fun f_20 H locs hu hu2 hP hD hS => ?_)
        have a_21 := hu _ _ _ g_14 (by intros; omega)
        have a_22 := hu _ _ _ g_15 (by intros; omega)
        have a_23 := hu2 _ _ _ g_15 (by omega) (by omega)
        have hP : va_P D vwCl [(h1, .inr (3, [.ref h2, .ref h3, .ref h4, .ref h5, .ref h6, .ref h7, .int x8, .int x9])), (h2, .inr (8, [.int x10, .int x11, .int x12, .ref h13, .ref h14, .ref h15, .ref h16, .ref h17, .ref h18, .ref h19, .ref h20, .ref h21, .ref h22, .int x23, .int x24, .int x25, .int x26, .int x27])), (h0, .inr (0, [.int x10, .int x12, .ref h30, .ref h31, .int x32, .int x33, .int x34, .ref h35, .ref h36, .int x37, .int x38, .int x39, .int x40, .int x41])), (h3, .inl (cI, 7, .inl f42)), (h31, .inl (cI, 7, .inl f_20)), (h20, .inl (cI, 28, .inl f44)), (h21, .inr (1, [.ref h45, .ref h46, .int x47, .int x48, .int x49])), (h4, .inl (cI, 7, .inl f50)), (h7, .inl (cI, 7, .inl f_10)), (h18, .inl (cI, 7, .inl f52)), (h19, .inl (cI, 7, .inl f53)), (h5, .inl (cI, 7, .inl f54)), (h14, .inl (cI, 3, .inl f55)), (h45, .inl (cI, 272, .inl f56)), (h46, .inl (cI, 30, .inl f_9)), (h30, .inl (cI, 28, .inl f_7))] H := hP
        have hD : va_D A [(h1, .inr (3, [.ref h2, .ref h3, .ref h4, .ref h5, .ref h6, .ref h7, .int x8, .int x9])), (h2, .inr (8, [.int x10, .int x11, .int x12, .ref h13, .ref h14, .ref h15, .ref h16, .ref h17, .ref h18, .ref h19, .ref h20, .ref h21, .ref h22, .int x23, .int x24, .int x25, .int x26, .int x27])), (h0, .inr (0, [.int x10, .int x12, .ref h30, .ref h31, .int x32, .int x33, .int x34, .ref h35, .ref h36, .int x37, .int x38, .int x39, .int x40, .int x41])), (h3, .inl (cI, 7, .inl f42)), (h31, .inl (cI, 7, .inl f_20)), (h20, .inl (cI, 28, .inl f44)), (h21, .inr (1, [.ref h45, .ref h46, .int x47, .int x48, .int x49])), (h4, .inl (cI, 7, .inl f50)), (h7, .inl (cI, 7, .inl f_10)), (h18, .inl (cI, 7, .inl f52)), (h19, .inl (cI, 7, .inl f53)), (h5, .inl (cI, 7, .inl f54)), (h14, .inl (cI, 3, .inl f55)), (h45, .inl (cI, 272, .inl f56)), (h46, .inl (cI, 30, .inl f_9)), (h30, .inl (cI, 28, .inl f_7))] := hD
        refine lv_iconst (v := 0) hx hb dX0_weigh_44 (by decide +kernel) ?_
        refine lv_istore_n (lv' := [(3, .int 0), (2, .int x_6), (0, .ref h0), (1, .ref h1)]) hx hb dX0_weigh_45 rfl hl (by decide) rfl (fun ls hl => ?_)
        have lp_32 : ∀ (n : Nat) (x_28 : Int32) (f_29 : Nat → Int32) (f_30 : Nat → Int32) (f_31 : Nat → Int32) (H : Heap) (locs : List Loc) (ls : Array Slot), 0 ≤ x_28.toInt → 0 ≤ x10.toInt - x_28.toInt → -x_28.toInt + 4 < n → va_P D vwCl [(h1, .inr (3, [.ref h2, .ref h3, .ref h4, .ref h5, .ref h6, .ref h7, .int x8, .int x9])), (h2, .inr (8, [.int x10, .int x11, .int x12, .ref h13, .ref h14, .ref h15, .ref h16, .ref h17, .ref h18, .ref h19, .ref h20, .ref h21, .ref h22, .int x23, .int x24, .int x25, .int x26, .int x27])), (h0, .inr (0, [.int x10, .int x12, .ref h30, .ref h31, .int x32, .int x33, .int x34, .ref h35, .ref h36, .int x37, .int x38, .int x39, .int x40, .int x41])), (h3, .inl (cI, 7, .inl f42)), (h31, .inl (cI, 7, .inl f_20)), (h20, .inl (cI, 28, .inl f44)), (h21, .inr (1, [.ref h45, .ref h46, .int x47, .int x48, .int x49])), (h4, .inl (cI, 7, .inl f50)), (h7, .inl (cI, 7, .inl f_31)), (h18, .inl (cI, 7, .inl f52)), (h19, .inl (cI, 7, .inl f53)), (h5, .inl (cI, 7, .inl f54)), (h14, .inl (cI, 3, .inl f55)), (h45, .inl (cI, 272, .inl f56)), (h46, .inl (cI, 30, .inl f_30)), (h30, .inl (cI, 28, .inl f_29))] H → va_D A [(h1, .inr (3, [.ref h2, .ref h3, .ref h4, .ref h5, .ref h6, .ref h7, .int x8, .int x9])), (h2, .inr (8, [.int x10, .int x11, .int x12, .ref h13, .ref h14, .ref h15, .ref h16, .ref h17, .ref h18, .ref h19, .ref h20, .ref h21, .ref h22, .int x23, .int x24, .int x25, .int x26, .int x27])), (h0, .inr (0, [.int x10, .int x12, .ref h30, .ref h31, .int x32, .int x33, .int x34, .ref h35, .ref h36, .int x37, .int x38, .int x39, .int x40, .int x41])), (h3, .inl (cI, 7, .inl f42)), (h31, .inl (cI, 7, .inl f_20)), (h20, .inl (cI, 28, .inl f44)), (h21, .inr (1, [.ref h45, .ref h46, .int x47, .int x48, .int x49])), (h4, .inl (cI, 7, .inl f50)), (h7, .inl (cI, 7, .inl f_31)), (h18, .inl (cI, 7, .inl f52)), (h19, .inl (cI, 7, .inl f53)), (h5, .inl (cI, 7, .inl f54)), (h14, .inl (cI, 3, .inl f55)), (h45, .inl (cI, 272, .inl f56)), (h46, .inl (cI, 30, .inl f_30)), (h30, .inl (cI, 28, .inl f_29))] → va_S A s.heap H locs → lv_has ls 4 [(3, .int x_28), (2, .int x_6), (0, .ref h0), (1, .ref h1)] → W p l e (rmL 5 0 0) s m [.ref h0, .ref h1].toArray below meth c H locs 0 0 (ZX D below [.ref h0, .ref h1] s (rmL 5 0 0) [(h1, .inr (3, [.ref h2, .ref h3, .ref h4, .ref h5, .ref h6, .ref h7, .int x8, .int x9])), (h2, .inr (8, [.int x10, .int x11, .int x12, .ref h13, .ref h14, .ref h15, .ref h16, .ref h17, .ref h18, .ref h19, .ref h20, .ref h21, .ref h22, .int x23, .int x24, .int x25, .int x26, .int x27])), (h0, .inr (0, [.int x28, .int x29, .ref h30, .ref h31, .int x32, .int x33, .int x34, .ref h35, .ref h36, .int x37, .int x38, .int x39, .int x40, .int x41])), (h3, .inl (cI, 7, .inl f42)), (h31, .inl (cI, 7, .inl f43)), (h20, .inl (cI, 28, .inl f44)), (h21, .inr (1, [.ref h45, .ref h46, .int x47, .int x48, .int x49])), (h4, .inl (cI, 7, .inl f50)), (h7, .inl (cI, 7, .inl f51)), (h18, .inl (cI, 7, .inl f52)), (h19, .inl (cI, 7, .inl f53)), (h5, .inl (cI, 7, .inl f54)), (h14, .inl (cI, 3, .inl f55)), (h45, .inl (cI, 272, .inl f56)), (h46, .inl (cI, 30, .inl f57)), (h30, .inl (cI, 28, .inl f58))] (fun r w1 => ∃ z1 : Nat → Int32, ∃ z2 : Nat → Int32, ∃ z3 : Nat → Int32, ∃ z4 : Nat → Int32, AR z1 (0) (3) (x12.toInt) ∧ r = none ∧ w1 = [(h1, .inr (3, [.ref h2, .ref h3, .ref h4, .ref h5, .ref h6, .ref h7, .int x8, .int x9])), (h2, .inr (8, [.int x10, .int x11, .int x12, .ref h13, .ref h14, .ref h15, .ref h16, .ref h17, .ref h18, .ref h19, .ref h20, .ref h21, .ref h22, .int x23, .int x24, .int x25, .int x26, .int x27])), (h0, .inr (0, [.int x10, .int x12, .ref h30, .ref h31, .int x32, .int x33, .int x34, .ref h35, .ref h36, .int x37, .int x38, .int x39, .int x40, .int x41])), (h3, .inl (cI, 7, .inl f42)), (h31, .inl (cI, 7, .inl z1)), (h20, .inl (cI, 28, .inl f44)), (h21, .inr (1, [.ref h45, .ref h46, .int x47, .int x48, .int x49])), (h4, .inl (cI, 7, .inl f50)), (h7, .inl (cI, 7, .inl z2)), (h18, .inl (cI, 7, .inl f52)), (h19, .inl (cI, 7, .inl f53)), (h5, .inl (cI, 7, .inl f54)), (h14, .inl (cI, 3, .inl f55)), (h45, .inl (cI, 272, .inl f56)), (h46, .inl (cI, 30, .inl z3)), (h30, .inl (cI, 28, .inl z4))])) (F0 m 46 ls []) := by
          intro n
          induction n with
          | zero => intro x_28 f_29 f_30 f_31 H locs ls g_33 g_34 g_35; omega
          | succ n ihlp_32 =>
            intro x_28 f_29 f_30 f_31 H locs ls g_33 g_34 g_35 hP hD hS hl
            refine lv_iload_n hx hb dX0_weigh_46 rfl (lv_at hl 0 rfl) ?_
            refine lv_aload_n hx hb dX0_weigh_47 rfl (lv_at hl 2 rfl) ?_
            refine va_get (D := D) (ci := 0) (v := .int x10) (C := RX0) (T := TX0) (N := 14) hx hb hts inX0 hown hG.1 hP 2 rfl rfl 0 (by decide) (hts _ kw489) (fun _ h9 => h9) rfl dX0_weigh_48 ?_
            refine lv_icmp_ge (tgt := 77) hx hb dX0_weigh_51 (by decide) (fun c_36 => ?_) (fun c_36 => ?_)
            · have fc_36 : x10.toInt ≤ x_28.toInt := i_le rfl rfl c_36
              obtain ⟨v_37, ev_37⟩ : ∃ y : Int32, y = x_6 + 1 := ⟨_, rfl⟩
              have gv_37 : v_37.toInt = x_6.toInt + 1 := by
                have zy : (1 : Int32).toInt = 1 := by decide
                rw [ev_37, i32_add (by rw [zy]; omega) (by rw [zy]; omega), zy]
              refine lv_iinc (v := v_37) (lv' := [(2, .int v_37), (3, .int x_28), (0, .ref h0), (1, .ref h1)]) hx hb dX0_weigh_77 hl (k := 1) rfl (by rw [ev_37]; rfl) (by decide) rfl (fun ls hl => ?_)
              refine lv_goto (tgt := 24) hx hb dX0_weigh_80 (by decide) ?_
              exact ihlp_11  v_37 f_29 f_20 f_30 f_31 _ _ _ (by omega) (by omega) (a_21.mono (by omega) (by omega) (by omega)) (a_23.mono (by omega) (by omega) (by omega)) (by omega) (hP.sub (ws' := [(h1, .inr (3, [.ref h2, .ref h3, .ref h4, .ref h5, .ref h6, .ref h7, .int x8, .int x9])), (h2, .inr (8, [.int x10, .int x11, .int x12, .ref h13, .ref h14, .ref h15, .ref h16, .ref h17, .ref h18, .ref h19, .ref h20, .ref h21, .ref h22, .int x23, .int x24, .int x25, .int x26, .int x27])), (h0, .inr (0, [.int x10, .int x12, .ref h30, .ref h31, .int x32, .int x33, .int x34, .ref h35, .ref h36, .int x37, .int x38, .int x39, .int x40, .int x41])), (h3, .inl (cI, 7, .inl f42)), (h31, .inl (cI, 7, .inl f_20)), (h20, .inl (cI, 28, .inl f44)), (h21, .inr (1, [.ref h45, .ref h46, .int x47, .int x48, .int x49])), (h4, .inl (cI, 7, .inl f50)), (h7, .inl (cI, 7, .inl f_31)), (h18, .inl (cI, 7, .inl f52)), (h19, .inl (cI, 7, .inl f53)), (h5, .inl (cI, 7, .inl f54)), (h14, .inl (cI, 3, .inl f55)), (h45, .inl (cI, 272, .inl f56)), (h46, .inl (cI, 30, .inl f_30)), (h30, .inl (cI, 28, .inl f_29))]) [0, 1, 2, 3, 4, 5, 6, 7, 8, 9, 10, 11, 12, 13, 14, 15] rfl) (hD.sub (ws' := [(h1, .inr (3, [.ref h2, .ref h3, .ref h4, .ref h5, .ref h6, .ref h7, .int x8, .int x9])), (h2, .inr (8, [.int x10, .int x11, .int x12, .ref h13, .ref h14, .ref h15, .ref h16, .ref h17, .ref h18, .ref h19, .ref h20, .ref h21, .ref h22, .int x23, .int x24, .int x25, .int x26, .int x27])), (h0, .inr (0, [.int x10, .int x12, .ref h30, .ref h31, .int x32, .int x33, .int x34, .ref h35, .ref h36, .int x37, .int x38, .int x39, .int x40, .int x41])), (h3, .inl (cI, 7, .inl f42)), (h31, .inl (cI, 7, .inl f_20)), (h20, .inl (cI, 28, .inl f44)), (h21, .inr (1, [.ref h45, .ref h46, .int x47, .int x48, .int x49])), (h4, .inl (cI, 7, .inl f50)), (h7, .inl (cI, 7, .inl f_31)), (h18, .inl (cI, 7, .inl f52)), (h19, .inl (cI, 7, .inl f53)), (h5, .inl (cI, 7, .inl f54)), (h14, .inl (cI, 3, .inl f55)), (h45, .inl (cI, 272, .inl f56)), (h46, .inl (cI, 30, .inl f_30)), (h30, .inl (cI, 28, .inl f_29))]) [0, 1, 2, 3, 4, 5, 6, 7, 8, 9, 10, 11, 12, 13, 14, 15] (by decide) rfl) hS (lv_sub hl [0, 2, 3] rfl)
            · have fc_36 : x_28.toInt < x10.toInt := i_nle rfl rfl c_36
              refine lv_aload_n hx hb dX0_weigh_54 rfl (lv_at hl 2 rfl) ?_
              refine va_get (D := D) (ci := 0) (v := .ref h30) (C := RX0) (T := TX0) (N := 14) hx hb hts inX0 hown hG.1 hP 2 rfl rfl 2 (by decide) (hts _ kw491) (fun _ h9 => h9) rfl dX0_weigh_55 ?_
              refine lv_iload_n hx hb dX0_weigh_58 rfl (lv_at hl 0 rfl) ?_
              refine lv_bipush (v := 7) hx hb dX0_weigh_59 (by decide +kernel) ?_
              refine lv_imul hx hb dX0_weigh_61 ?_
              refine lv_topi (fun v_38 ev_38 => ?_)
              have gv_38 : v_38.toInt = x_28.toInt * (7 : Int) := by
                have zx : (x_28 : Int32).toInt = x_28.toInt := rfl
                have zy : (7 : Int32).toInt = (7 : Int) := (by decide)
                rw [ev_38, i32_mul (by rw [zx, zy]; omega) (by rw [zx, zy]; omega), zx, zy]
              refine lv_iload_n hx hb dX0_weigh_62 rfl (lv_at hl 1 rfl) ?_
              refine lv_iadd hx hb dX0_weigh_63 ?_
              refine lv_topi (fun v_39 ev_39 => ?_)
              have gv_39 : v_39.toInt = v_38.toInt + x_6.toInt := by
                have zx : (v_38 : Int32).toInt = v_38.toInt := rfl
                have zy : (x_6 : Int32).toInt = x_6.toInt := rfl
                rw [ev_39, i32_add (by rw [zx, zy]; omega) (by rw [zx, zy]; omega), zx, zy]
              refine lv_aload_n hx hb dX0_weigh_64 rfl (lv_at hl 3 rfl) ?_
              refine lv_iload_n hx hb dX0_weigh_65 rfl (lv_at hl 0 rfl) ?_
              refine lv_iload_n hx hb dX0_weigh_66 rfl (lv_at hl 1 rfl) ?_
              refine xc_core (wr := [(h0, .inr (0, [.int x10, .int x12, .ref h30, .ref h31, .int x32, .int x33, .int x34, .ref h35, .ref h36, .int x37, .int x38, .int x39, .int x40, .int x41])), (h31, .inl (cI, 7, .inl f_20)), (h30, .inl (cI, 28, .inl f_29))]) (k := 0) (n := 0) (xc_runV (As := [.int x_28, .int x_6]) (rest := [.int v_39, .ref h30]) hx hb hml hown hts hG hE hP hD hS hA [0, 1, 5, 6, 7, 8, 9, 10, 11, 12, 3, 13, 14] (by decide) rfl (sX3_worthTo_1 l D cB cI cJ cZ aK aV h1 x_28 x_6 h2 h3 h4 h5 h6 h7 x8 x9 x10 x11 x12 h13 h14 h15 h16 h17 h18 h19 h20 h21 h22 x23 x24 x25 x26 x27 f44 h45 h46 x47 x48 x49 f50 f_31 f52 f53 f54 f55 f42 f56 f_30 (by omega) (by omega) (by omega) (by omega) (by omega) (by omega) (by omega) (by omega) (by omega) (by omega) (by omega) (by omega) (by omega) (by omega) (by omega) (by omega) (ga0.mono (by omega) (by omega) (by omega))) kw879 kw876 kw877 kw878 kw121 (show XD yX3_worthTo 2 from by decide +kernel) (by decide) rfl rfl 0 rfl hl.1 rfl (Nat.le_of_ble_eq_true rfl) dX0_weigh_67 (by decide)) hP hD hS hA [0, 1, 5, 6, 7, 8, 9, 10, 11, 12, 3, 13, 14] [2, 4, 15] rfl rfl (by decide) (by decide) (Nat.le_of_ble_eq_true rfl) (Nat.le_of_ble_eq_true rfl) (fun r w1 H locs hpost hP hD hS => ?_)
              obtain ⟨f_40, f_41, v_42, rfl, rfl⟩ := hpost
              have hP : va_P D vwCl [(h0, .inr (0, [.int x10, .int x12, .ref h30, .ref h31, .int x32, .int x33, .int x34, .ref h35, .ref h36, .int x37, .int x38, .int x39, .int x40, .int x41])), (h31, .inl (cI, 7, .inl f_20)), (h30, .inl (cI, 28, .inl f_29)), (h1, .inr (3, [.ref h2, .ref h3, .ref h4, .ref h5, .ref h6, .ref h7, .int x8, .int x9])), (h2, .inr (8, [.int x10, .int x11, .int x12, .ref h13, .ref h14, .ref h15, .ref h16, .ref h17, .ref h18, .ref h19, .ref h20, .ref h21, .ref h22, .int x23, .int x24, .int x25, .int x26, .int x27])), (h20, .inl (cI, 28, .inl f44)), (h21, .inr (1, [.ref h45, .ref h46, .int x47, .int x48, .int x49])), (h4, .inl (cI, 7, .inl f50)), (h7, .inl (cI, 7, .inl f_40)), (h18, .inl (cI, 7, .inl f52)), (h19, .inl (cI, 7, .inl f53)), (h5, .inl (cI, 7, .inl f54)), (h14, .inl (cI, 3, .inl f55)), (h3, .inl (cI, 7, .inl f42)), (h45, .inl (cI, 272, .inl f56)), (h46, .inl (cI, 30, .inl f_41))] H := hP
              have hD : va_D A [(h0, .inr (0, [.int x10, .int x12, .ref h30, .ref h31, .int x32, .int x33, .int x34, .ref h35, .ref h36, .int x37, .int x38, .int x39, .int x40, .int x41])), (h31, .inl (cI, 7, .inl f_20)), (h30, .inl (cI, 28, .inl f_29)), (h1, .inr (3, [.ref h2, .ref h3, .ref h4, .ref h5, .ref h6, .ref h7, .int x8, .int x9])), (h2, .inr (8, [.int x10, .int x11, .int x12, .ref h13, .ref h14, .ref h15, .ref h16, .ref h17, .ref h18, .ref h19, .ref h20, .ref h21, .ref h22, .int x23, .int x24, .int x25, .int x26, .int x27])), (h20, .inl (cI, 28, .inl f44)), (h21, .inr (1, [.ref h45, .ref h46, .int x47, .int x48, .int x49])), (h4, .inl (cI, 7, .inl f50)), (h7, .inl (cI, 7, .inl f_40)), (h18, .inl (cI, 7, .inl f52)), (h19, .inl (cI, 7, .inl f53)), (h5, .inl (cI, 7, .inl f54)), (h14, .inl (cI, 3, .inl f55)), (h3, .inl (cI, 7, .inl f42)), (h45, .inl (cI, 272, .inl f56)), (h46, .inl (cI, 30, .inl f_41))] := hD
              refine xa_istU hx hb hG hP hD hS 2 rfl (vp_in_iff.mpr ⟨by omega, by omega⟩) dX0_weigh_70 (fun f_43 H locs hP hD hS => ?_)
              have hP : va_P D vwCl [(h0, .inr (0, [.int x10, .int x12, .ref h30, .ref h31, .int x32, .int x33, .int x34, .ref h35, .ref h36, .int x37, .int x38, .int x39, .int x40, .int x41])), (h31, .inl (cI, 7, .inl f_20)), (h30, .inl (cI, 28, .inl f_43)), (h1, .inr (3, [.ref h2, .ref h3, .ref h4, .ref h5, .ref h6, .ref h7, .int x8, .int x9])), (h2, .inr (8, [.int x10, .int x11, .int x12, .ref h13, .ref h14, .ref h15, .ref h16, .ref h17, .ref h18, .ref h19, .ref h20, .ref h21, .ref h22, .int x23, .int x24, .int x25, .int x26, .int x27])), (h20, .inl (cI, 28, .inl f44)), (h21, .inr (1, [.ref h45, .ref h46, .int x47, .int x48, .int x49])), (h4, .inl (cI, 7, .inl f50)), (h7, .inl (cI, 7, .inl f_40)), (h18, .inl (cI, 7, .inl f52)), (h19, .inl (cI, 7, .inl f53)), (h5, .inl (cI, 7, .inl f54)), (h14, .inl (cI, 3, .inl f55)), (h3, .inl (cI, 7, .inl f42)), (h45, .inl (cI, 272, .inl f56)), (h46, .inl (cI, 30, .inl f_41))] H := hP
              have hD : va_D A [(h0, .inr (0, [.int x10, .int x12, .ref h30, .ref h31, .int x32, .int x33, .int x34, .ref h35, .ref h36, .int x37, .int x38, .int x39, .int x40, .int x41])), (h31, .inl (cI, 7, .inl f_20)), (h30, .inl (cI, 28, .inl f_43)), (h1, .inr (3, [.ref h2, .ref h3, .ref h4, .ref h5, .ref h6, .ref h7, .int x8, .int x9])), (h2, .inr (8, [.int x10, .int x11, .int x12, .ref h13, .ref h14, .ref h15, .ref h16, .ref h17, .ref h18, .ref h19, .ref h20, .ref h21, .ref h22, .int x23, .int x24, .int x25, .int x26, .int x27])), (h20, .inl (cI, 28, .inl f44)), (h21, .inr (1, [.ref h45, .ref h46, .int x47, .int x48, .int x49])), (h4, .inl (cI, 7, .inl f50)), (h7, .inl (cI, 7, .inl f_40)), (h18, .inl (cI, 7, .inl f52)), (h19, .inl (cI, 7, .inl f53)), (h5, .inl (cI, 7, .inl f54)), (h14, .inl (cI, 3, .inl f55)), (h3, .inl (cI, 7, .inl f42)), (h45, .inl (cI, 272, .inl f56)), (h46, .inl (cI, 30, .inl f_41))] := hD
              obtain ⟨v_44, ev_44⟩ : ∃ y : Int32, y = x_28 + 1 := ⟨_, rfl⟩
              have gv_44 : v_44.toInt = x_28.toInt + 1 := by
                have zy : (1 : Int32).toInt = 1 := by decide
                rw [ev_44, i32_add (by rw [zy]; omega) (by rw [zy]; omega), zy]
              refine lv_iinc (v := v_44) (lv' := [(3, .int v_44), (2, .int x_6), (0, .ref h0), (1, .ref h1)]) hx hb dX0_weigh_71 hl (k := 0) rfl (by rw [ev_44]; rfl) (by decide) rfl (fun ls hl => ?_)
              refine lv_goto (tgt := 46) hx hb dX0_weigh_74 (by decide) ?_
              exact ihlp_32  v_44 f_43 f_41 f_40 _ _ _ (by omega) (by omega) (by omega) (hP.sub (ws' := [(h1, .inr (3, [.ref h2, .ref h3, .ref h4, .ref h5, .ref h6, .ref h7, .int x8, .int x9])), (h2, .inr (8, [.int x10, .int x11, .int x12, .ref h13, .ref h14, .ref h15, .ref h16, .ref h17, .ref h18, .ref h19, .ref h20, .ref h21, .ref h22, .int x23, .int x24, .int x25, .int x26, .int x27])), (h0, .inr (0, [.int x10, .int x12, .ref h30, .ref h31, .int x32, .int x33, .int x34, .ref h35, .ref h36, .int x37, .int x38, .int x39, .int x40, .int x41])), (h3, .inl (cI, 7, .inl f42)), (h31, .inl (cI, 7, .inl f_20)), (h20, .inl (cI, 28, .inl f44)), (h21, .inr (1, [.ref h45, .ref h46, .int x47, .int x48, .int x49])), (h4, .inl (cI, 7, .inl f50)), (h7, .inl (cI, 7, .inl f_40)), (h18, .inl (cI, 7, .inl f52)), (h19, .inl (cI, 7, .inl f53)), (h5, .inl (cI, 7, .inl f54)), (h14, .inl (cI, 3, .inl f55)), (h45, .inl (cI, 272, .inl f56)), (h46, .inl (cI, 30, .inl f_41)), (h30, .inl (cI, 28, .inl f_43))]) [3, 4, 0, 13, 1, 5, 6, 7, 8, 9, 10, 11, 12, 14, 15, 2] rfl) (hD.sub (ws' := [(h1, .inr (3, [.ref h2, .ref h3, .ref h4, .ref h5, .ref h6, .ref h7, .int x8, .int x9])), (h2, .inr (8, [.int x10, .int x11, .int x12, .ref h13, .ref h14, .ref h15, .ref h16, .ref h17, .ref h18, .ref h19, .ref h20, .ref h21, .ref h22, .int x23, .int x24, .int x25, .int x26, .int x27])), (h0, .inr (0, [.int x10, .int x12, .ref h30, .ref h31, .int x32, .int x33, .int x34, .ref h35, .ref h36, .int x37, .int x38, .int x39, .int x40, .int x41])), (h3, .inl (cI, 7, .inl f42)), (h31, .inl (cI, 7, .inl f_20)), (h20, .inl (cI, 28, .inl f44)), (h21, .inr (1, [.ref h45, .ref h46, .int x47, .int x48, .int x49])), (h4, .inl (cI, 7, .inl f50)), (h7, .inl (cI, 7, .inl f_40)), (h18, .inl (cI, 7, .inl f52)), (h19, .inl (cI, 7, .inl f53)), (h5, .inl (cI, 7, .inl f54)), (h14, .inl (cI, 3, .inl f55)), (h45, .inl (cI, 272, .inl f56)), (h46, .inl (cI, 30, .inl f_41)), (h30, .inl (cI, 28, .inl f_43))]) [3, 4, 0, 13, 1, 5, 6, 7, 8, 9, 10, 11, 12, 14, 15, 2] (by decide) rfl) hS (lv_sub hl [0, 1, 2, 3] rfl)
        exact lp_32 6 0 f_7 f_9 f_10 _ _ _ (by have zc0 : (0 : Int32).toInt = 0 := (by decide); omega) (by have zc0 : (0 : Int32).toInt = 0 := (by decide); omega) (by have zc0 : (0 : Int32).toInt = 0 := (by decide); omega) (hP.sub (ws' := [(h1, .inr (3, [.ref h2, .ref h3, .ref h4, .ref h5, .ref h6, .ref h7, .int x8, .int x9])), (h2, .inr (8, [.int x10, .int x11, .int x12, .ref h13, .ref h14, .ref h15, .ref h16, .ref h17, .ref h18, .ref h19, .ref h20, .ref h21, .ref h22, .int x23, .int x24, .int x25, .int x26, .int x27])), (h0, .inr (0, [.int x10, .int x12, .ref h30, .ref h31, .int x32, .int x33, .int x34, .ref h35, .ref h36, .int x37, .int x38, .int x39, .int x40, .int x41])), (h3, .inl (cI, 7, .inl f42)), (h31, .inl (cI, 7, .inl f_20)), (h20, .inl (cI, 28, .inl f44)), (h21, .inr (1, [.ref h45, .ref h46, .int x47, .int x48, .int x49])), (h4, .inl (cI, 7, .inl f50)), (h7, .inl (cI, 7, .inl f_10)), (h18, .inl (cI, 7, .inl f52)), (h19, .inl (cI, 7, .inl f53)), (h5, .inl (cI, 7, .inl f54)), (h14, .inl (cI, 3, .inl f55)), (h45, .inl (cI, 272, .inl f56)), (h46, .inl (cI, 30, .inl f_9)), (h30, .inl (cI, 28, .inl f_7))]) [0, 1, 2, 3, 4, 5, 6, 7, 8, 9, 10, 11, 12, 13, 14, 15] rfl) (hD.sub (ws' := [(h1, .inr (3, [.ref h2, .ref h3, .ref h4, .ref h5, .ref h6, .ref h7, .int x8, .int x9])), (h2, .inr (8, [.int x10, .int x11, .int x12, .ref h13, .ref h14, .ref h15, .ref h16, .ref h17, .ref h18, .ref h19, .ref h20, .ref h21, .ref h22, .int x23, .int x24, .int x25, .int x26, .int x27])), (h0, .inr (0, [.int x10, .int x12, .ref h30, .ref h31, .int x32, .int x33, .int x34, .ref h35, .ref h36, .int x37, .int x38, .int x39, .int x40, .int x41])), (h3, .inl (cI, 7, .inl f42)), (h31, .inl (cI, 7, .inl f_20)), (h20, .inl (cI, 28, .inl f44)), (h21, .inr (1, [.ref h45, .ref h46, .int x47, .int x48, .int x49])), (h4, .inl (cI, 7, .inl f50)), (h7, .inl (cI, 7, .inl f_10)), (h18, .inl (cI, 7, .inl f52)), (h19, .inl (cI, 7, .inl f53)), (h5, .inl (cI, 7, .inl f54)), (h14, .inl (cI, 3, .inl f55)), (h45, .inl (cI, 272, .inl f56)), (h46, .inl (cI, 30, .inl f_9)), (h30, .inl (cI, 28, .inl f_7))]) [0, 1, 2, 3, 4, 5, 6, 7, 8, 9, 10, 11, 12, 13, 14, 15] (by decide) rfl) hS (lv_sub hl [0, 1, 2, 3] rfl)
  exact lp_11 9 0 f58 f43 f57 f51 _ _ _ (by have zc0 : (0 : Int32).toInt = 0 := (by decide); omega) (by have zc0 : (0 : Int32).toInt = 0 := (by decide); omega) (ga1.mono (by have zc0 : (0 : Int32).toInt = 0 := (by decide); omega) (by have zc0 : (0 : Int32).toInt = 0 := (by decide); omega) (by have zc0 : (0 : Int32).toInt = 0 := (by decide); omega)) (ga1.mono (by have zc0 : (0 : Int32).toInt = 0 := (by decide); omega) (by have zc0 : (0 : Int32).toInt = 0 := (by decide); omega) (by have zc0 : (0 : Int32).toInt = 0 := (by decide); omega)) (by have zc0 : (0 : Int32).toInt = 0 := (by decide); omega) (hP.sub (ws' := [(h1, .inr (3, [.ref h2, .ref h3, .ref h4, .ref h5, .ref h6, .ref h7, .int x8, .int x9])), (h2, .inr (8, [.int x10, .int x11, .int x12, .ref h13, .ref h14, .ref h15, .ref h16, .ref h17, .ref h18, .ref h19, .ref h20, .ref h21, .ref h22, .int x23, .int x24, .int x25, .int x26, .int x27])), (h0, .inr (0, [.int x10, .int x12, .ref h30, .ref h31, .int x32, .int x33, .int x34, .ref h35, .ref h36, .int x37, .int x38, .int x39, .int x40, .int x41])), (h3, .inl (cI, 7, .inl f42)), (h31, .inl (cI, 7, .inl f43)), (h20, .inl (cI, 28, .inl f44)), (h21, .inr (1, [.ref h45, .ref h46, .int x47, .int x48, .int x49])), (h4, .inl (cI, 7, .inl f50)), (h7, .inl (cI, 7, .inl f51)), (h18, .inl (cI, 7, .inl f52)), (h19, .inl (cI, 7, .inl f53)), (h5, .inl (cI, 7, .inl f54)), (h14, .inl (cI, 3, .inl f55)), (h45, .inl (cI, 272, .inl f56)), (h46, .inl (cI, 30, .inl f57)), (h30, .inl (cI, 28, .inl f58))]) [0, 1, 2, 3, 4, 5, 6, 7, 8, 9, 10, 11, 12, 13, 14, 15] rfl) (hD.sub (ws' := [(h1, .inr (3, [.ref h2, .ref h3, .ref h4, .ref h5, .ref h6, .ref h7, .int x8, .int x9])), (h2, .inr (8, [.int x10, .int x11, .int x12, .ref h13, .ref h14, .ref h15, .ref h16, .ref h17, .ref h18, .ref h19, .ref h20, .ref h21, .ref h22, .int x23, .int x24, .int x25, .int x26, .int x27])), (h0, .inr (0, [.int x10, .int x12, .ref h30, .ref h31, .int x32, .int x33, .int x34, .ref h35, .ref h36, .int x37, .int x38, .int x39, .int x40, .int x41])), (h3, .inl (cI, 7, .inl f42)), (h31, .inl (cI, 7, .inl f43)), (h20, .inl (cI, 28, .inl f44)), (h21, .inr (1, [.ref h45, .ref h46, .int x47, .int x48, .int x49])), (h4, .inl (cI, 7, .inl f50)), (h7, .inl (cI, 7, .inl f51)), (h18, .inl (cI, 7, .inl f52)), (h19, .inl (cI, 7, .inl f53)), (h5, .inl (cI, 7, .inl f54)), (h14, .inl (cI, 3, .inl f55)), (h45, .inl (cI, 272, .inl f56)), (h46, .inl (cI, 30, .inl f57)), (h30, .inl (cI, 28, .inl f58))]) [0, 1, 2, 3, 4, 5, 6, 7, 8, 9, 10, 11, 12, 13, 14, 15] (by decide) rfl) hS (lv_sub hl [0, 1, 2] rfl)
theorem dX0_worthOf_0 : decode cX0_worthOf 0 = .ok (.aload_n 0, 1) := by decide +kernel
theorem dX0_worthOf_1 : decode cX0_worthOf 1 = .ok (.getfield 9, 3) := by decide +kernel
theorem dX0_worthOf_4 : decode cX0_worthOf 4 = .ok (.iload_n 1, 1) := by decide +kernel
theorem dX0_worthOf_5 : decode cX0_worthOf 5 = .ok (.bipush 7, 2) := by decide +kernel
theorem dX0_worthOf_7 : decode cX0_worthOf 7 = .ok (.imul, 1) := by decide +kernel
theorem dX0_worthOf_8 : decode cX0_worthOf 8 = .ok (.iload_n 2, 1) := by decide +kernel
theorem dX0_worthOf_9 : decode cX0_worthOf 9 = .ok (.iadd, 1) := by decide +kernel
theorem dX0_worthOf_10 : decode cX0_worthOf 10 = .ok (.iaload, 1) := by decide +kernel
theorem dX0_worthOf_11 : decode cX0_worthOf 11 = .ok (.ireturn, 1) := by decide +kernel
set_option maxHeartbeats 4000000 in
set_option maxRecDepth 100000 in
theorem sX0_worthOf_1 (l : Launch) (D : va_G) (cB cI cJ cZ : ClassId) (aK aV : Nat → Nat) (h0 : Nat) (x1 : Int32) (x2 : Int32) (x3 : Int32) (x4 : Int32) (h5 : Nat) (h6 : Nat) (x7 : Int32) (x8 : Int32) (x9 : Int32) (h10 : Nat) (h11 : Nat) (x12 : Int32) (x13 : Int32) (x14 : Int32) (x15 : Int32) (x16 : Int32) (f17 : Nat → Int32) (gh0 : 0 ≤ x1.toInt) (gh1 : 0 ≤ -x1.toInt + 3) (gh2 : 0 ≤ x2.toInt) (gh3 : 0 ≤ -x2.toInt + 6) (gh4 : 0 ≤ x3.toInt) (gh5 : 0 ≤ -x3.toInt + 4) (gh6 : 0 ≤ x4.toInt) (gh7 : 0 ≤ -x4.toInt + 7) (gh8 : 0 ≤ x8.toInt) (gh9 : 0 ≤ -x8.toInt + 6) (gh10 : 0 ≤ x9.toInt) (gh11 : 0 ≤ -x9.toInt + 6) : MX l yX0_worthOf cX0_worthOf 3 (some .int) (rmL 1 0 0) D cB cI cJ cZ aK aV [.ref h0, .int x1, .int x2] [(h0, .inr (0, [.int x3, .int x4, .ref h5, .ref h6, .int x7, .int x8, .int x9, .ref h10, .ref h11, .int x12, .int x13, .int x14, .int x15, .int x16])), (h5, .inl (cI, 28, .inl f17))] (fun r w1 => ∃ z1 : Int32, r = some (.int z1) ∧ w1 = [(h0, .inr (0, [.int x3, .int x4, .ref h5, .ref h6, .int x7, .int x8, .int x9, .ref h10, .ref h11, .int x12, .int x13, .int x14, .int x15, .int x16])), (h5, .inl (cI, 28, .inl f17))]) := by
  refine MX.intro (by decide) (Nat.le_of_ble_eq_true rfl) ?_
  intro p e s m below meth c A ls hx hb hr hml hown hlocks hnm hts hG hE hA hS hP hD hl hAe
  have hl : lv_has ls 3 [(0, .ref h0), (1, .int x1), (2, .int x2)] := hl
  have hown : s.vm.findClass RX0 = some m.cls := hown
  refine lv_aload_n hx hb dX0_worthOf_0 rfl (lv_at hl 0 rfl) ?_
  refine va_get (D := D) (ci := 0) (v := .ref h5) (C := RX0) (T := TX0) (N := 14) hx hb hts inX0 hown hG.1 hP 0 rfl rfl 2 (by decide) (hts _ kw491) (fun _ h9 => h9) rfl dX0_worthOf_1 ?_
  refine lv_iload_n hx hb dX0_worthOf_4 rfl (lv_at hl 1 rfl) ?_
  refine lv_bipush (v := 7) hx hb dX0_worthOf_5 (by decide +kernel) ?_
  refine lv_imul hx hb dX0_worthOf_7 ?_
  refine lv_topi (fun v_1 ev_1 => ?_)
  have gv_1 : v_1.toInt = x1.toInt * (7 : Int) := by
    have zx : (x1 : Int32).toInt = x1.toInt := rfl
    have zy : (7 : Int32).toInt = (7 : Int) := (by decide)
    rw [ev_1, i32_mul (by rw [zx, zy]; omega) (by rw [zx, zy]; omega), zx, zy]
  refine lv_iload_n hx hb dX0_worthOf_8 rfl (lv_at hl 2 rfl) ?_
  refine lv_iadd hx hb dX0_worthOf_9 ?_
  refine lv_topi (fun v_2 ev_2 => ?_)
  have gv_2 : v_2.toInt = v_1.toInt + x2.toInt := by
    have zx : (v_1 : Int32).toInt = v_1.toInt := rfl
    have zy : (x2 : Int32).toInt = x2.toInt := rfl
    rw [ev_2, i32_add (by rw [zx, zy]; omega) (by rw [zx, zy]; omega), zx, zy]
  refine xa_ildU hx hb hG hP 1 rfl (vp_in_iff.mpr ⟨by omega, by omega⟩) dX0_worthOf_10 (fun v_3 => ?_)
  have hP9 := hP.sub (ws' := [(h0, .inr (0, [.int x3, .int x4, .ref h5, .ref h6, .int x7, .int x8, .int x9, .ref h10, .ref h11, .int x12, .int x13, .int x14, .int x15, .int x16])), (h5, .inl (cI, 28, .inl f17))]) [0, 1] rfl
  have hD9 := hD.sub (ws' := [(h0, .inr (0, [.int x3, .int x4, .ref h5, .ref h6, .int x7, .int x8, .int x9, .ref h10, .ref h11, .int x12, .int x13, .int x14, .int x15, .int x16])), (h5, .inl (cI, 28, .inl f17))]) [0, 1] (by decide) rfl
  exact xr_i (rm := (rmL 1 0 0)) hx hb hr hlocks hAe hS hP9 hD9 rfl (Nat.le_of_ble_eq_true rfl) (Nat.le_of_ble_eq_true rfl) dX0_worthOf_11 ⟨v_3, rfl, rfl⟩
theorem dX0_worthOfSet_0 : decode cX0_worthOfSet 0 = .ok (.iconst 0, 1) := by decide +kernel
theorem dX0_worthOfSet_1 : decode cX0_worthOfSet 1 = .ok (.istore_n 3, 1) := by decide +kernel
theorem dX0_worthOfSet_2 : decode cX0_worthOfSet 2 = .ok (.iconst 0, 1) := by decide +kernel
theorem dX0_worthOfSet_3 : decode cX0_worthOfSet 3 = .ok (.istore 4, 2) := by decide +kernel
theorem dX0_worthOfSet_5 : decode cX0_worthOfSet 5 = .ok (.iload 4, 2) := by decide +kernel
theorem dX0_worthOfSet_7 : decode cX0_worthOfSet 7 = .ok (.aload_n 0, 1) := by decide +kernel
theorem dX0_worthOfSet_8 : decode cX0_worthOfSet 8 = .ok (.getfield 40, 3) := by decide +kernel
theorem dX0_worthOfSet_11 : decode cX0_worthOfSet 11 = .ok (.if_icmp .ge 28, 3) := by decide +kernel
theorem dX0_worthOfSet_39 : decode cX0_worthOfSet 39 = .ok (.iload_n 3, 1) := by decide +kernel
theorem dX0_worthOfSet_40 : decode cX0_worthOfSet 40 = .ok (.ireturn, 1) := by decide +kernel
theorem dX0_worthOfSet_14 : decode cX0_worthOfSet 14 = .ok (.iload_n 2, 1) := by decide +kernel
theorem dX0_worthOfSet_15 : decode cX0_worthOfSet 15 = .ok (.iload 4, 2) := by decide +kernel
theorem dX0_worthOfSet_17 : decode cX0_worthOfSet 17 = .ok (.ishr, 1) := by decide +kernel
theorem dX0_worthOfSet_18 : decode cX0_worthOfSet 18 = .ok (.iconst 1, 1) := by decide +kernel
theorem dX0_worthOfSet_19 : decode cX0_worthOfSet 19 = .ok (.iand, 1) := by decide +kernel
theorem dX0_worthOfSet_20 : decode cX0_worthOfSet 20 = .ok (.ifCond .eq 13, 3) := by decide +kernel
theorem dX0_worthOfSet_33 : decode cX0_worthOfSet 33 = .ok (.iinc 4 1, 3) := by decide +kernel
theorem dX0_worthOfSet_36 : decode cX0_worthOfSet 36 = .ok (.goto (-31), 3) := by decide +kernel
theorem dX0_worthOfSet_23 : decode cX0_worthOfSet 23 = .ok (.iload_n 3, 1) := by decide +kernel
theorem dX0_worthOfSet_24 : decode cX0_worthOfSet 24 = .ok (.aload_n 0, 1) := by decide +kernel
theorem dX0_worthOfSet_25 : decode cX0_worthOfSet 25 = .ok (.iload_n 1, 1) := by decide +kernel
theorem dX0_worthOfSet_26 : decode cX0_worthOfSet 26 = .ok (.iload 4, 2) := by decide +kernel
theorem kw914 : (.methodLink RX0 48 yX0_worthOf : Cond) ∈ gT := gT_of 914 (by decide +kernel) (by decide +kernel)
theorem kw917 : (.code yX0_worthOf cX0_worthOf 3 (some .int) : Cond) ∈ gT := gT_of 917 (by decide +kernel) (by decide +kernel)
theorem kw915 : (.instanceMethod yX0_worthOf : Cond) ∈ gT := gT_of 915 (by decide +kernel) (by decide +kernel)
theorem kw916 : (.selects RX0 yX0_worthOf yX0_worthOf : Cond) ∈ gT := gT_of 916 (by decide +kernel) (by decide +kernel)
theorem kw124 : (.initialized RX0 : Cond) ∈ gT := gT_of 124 (by decide +kernel) (by decide +kernel)
theorem dX0_worthOfSet_28 : decode cX0_worthOfSet 28 = .ok (.invokevirtual 48, 3) := by decide +kernel
theorem dX0_worthOfSet_31 : decode cX0_worthOfSet 31 = .ok (.iadd, 1) := by decide +kernel
theorem dX0_worthOfSet_32 : decode cX0_worthOfSet 32 = .ok (.istore_n 3, 1) := by decide +kernel
set_option maxHeartbeats 4000000 in
set_option maxRecDepth 100000 in
theorem sX0_worthOfSet_1 (l : Launch) (D : va_G) (cB cI cJ cZ : ClassId) (aK aV : Nat → Nat) (h0 : Nat) (x1 : Int32) (x2 : Int32) (x3 : Int32) (x4 : Int32) (h5 : Nat) (h6 : Nat) (x7 : Int32) (x8 : Int32) (x9 : Int32) (h10 : Nat) (h11 : Nat) (x12 : Int32) (x13 : Int32) (x14 : Int32) (x15 : Int32) (x16 : Int32) (f17 : Nat → Int32) (gh0 : 0 ≤ x1.toInt) (gh1 : 0 ≤ -x1.toInt + 3) (gh2 : 0 ≤ x3.toInt) (gh3 : 0 ≤ -x3.toInt + 4) (gh4 : 0 ≤ x4.toInt) (gh5 : 0 ≤ -x4.toInt + 7) (gh6 : 0 ≤ x8.toInt) (gh7 : 0 ≤ -x8.toInt + 6) (gh8 : 0 ≤ x9.toInt) (gh9 : 0 ≤ -x9.toInt + 6) : MX l yX0_worthOfSet cX0_worthOfSet 5 (some .int) (rmL 2 0 0) D cB cI cJ cZ aK aV [.ref h0, .int x1, .int x2] [(h0, .inr (0, [.int x3, .int x4, .ref h5, .ref h6, .int x7, .int x8, .int x9, .ref h10, .ref h11, .int x12, .int x13, .int x14, .int x15, .int x16])), (h5, .inl (cI, 28, .inl f17))] (fun r w1 => ∃ z1 : Int32, r = some (.int z1) ∧ w1 = [(h0, .inr (0, [.int x3, .int x4, .ref h5, .ref h6, .int x7, .int x8, .int x9, .ref h10, .ref h11, .int x12, .int x13, .int x14, .int x15, .int x16])), (h5, .inl (cI, 28, .inl f17))]) := by
  refine MX.intro (by decide) (Nat.le_of_ble_eq_true rfl) ?_
  intro p e s m below meth c A ls hx hb hr hml hown hlocks hnm hts hG hE hA hS hP hD hl hAe
  have hl : lv_has ls 5 [(0, .ref h0), (1, .int x1), (2, .int x2)] := hl
  have hown : s.vm.findClass RX0 = some m.cls := hown
  refine lv_iconst (v := 0) hx hb dX0_worthOfSet_0 (by decide +kernel) ?_
  refine lv_istore_n (lv' := [(3, .int 0), (0, .ref h0), (1, .int x1), (2, .int x2)]) hx hb dX0_worthOfSet_1 rfl hl (by decide) rfl (fun ls hl => ?_)
  refine lv_iconst (v := 0) hx hb dX0_worthOfSet_2 (by decide +kernel) ?_
  refine lv_istore (lv' := [(4, .int 0), (3, .int 0), (0, .ref h0), (1, .int x1), (2, .int x2)]) hx hb dX0_worthOfSet_3 hl (by decide) rfl (fun ls hl => ?_)
  have lp_5 : ∀ (n : Nat) (x_3 x_4 : Int32) (H : Heap) (locs : List Loc) (ls : Array Slot), 0 ≤ x_4.toInt → 0 ≤ x4.toInt - x_4.toInt → -x_4.toInt + 7 < n → va_P D vwCl [(h0, .inr (0, [.int x3, .int x4, .ref h5, .ref h6, .int x7, .int x8, .int x9, .ref h10, .ref h11, .int x12, .int x13, .int x14, .int x15, .int x16])), (h5, .inl (cI, 28, .inl f17))] H → va_D A [(h0, .inr (0, [.int x3, .int x4, .ref h5, .ref h6, .int x7, .int x8, .int x9, .ref h10, .ref h11, .int x12, .int x13, .int x14, .int x15, .int x16])), (h5, .inl (cI, 28, .inl f17))] → va_S A s.heap H locs → lv_has ls 5 [(4, .int x_4), (3, .int x_3), (0, .ref h0), (1, .int x1), (2, .int x2)] → W p l e (rmL 2 0 0) s m [.ref h0, .int x1, .int x2].toArray below meth c H locs 0 0 (ZX D below [.ref h0, .int x1, .int x2] s (rmL 2 0 0) [(h0, .inr (0, [.int x3, .int x4, .ref h5, .ref h6, .int x7, .int x8, .int x9, .ref h10, .ref h11, .int x12, .int x13, .int x14, .int x15, .int x16])), (h5, .inl (cI, 28, .inl f17))] (fun r w1 => ∃ z1 : Int32, r = some (.int z1) ∧ w1 = [(h0, .inr (0, [.int x3, .int x4, .ref h5, .ref h6, .int x7, .int x8, .int x9, .ref h10, .ref h11, .int x12, .int x13, .int x14, .int x15, .int x16])), (h5, .inl (cI, 28, .inl f17))])) (F0 m 5 ls []) := by
    intro n
    induction n with
    | zero => intro x_3 x_4 H locs ls g_6 g_7 g_8; omega
    | succ n ihlp_5 =>
      intro x_3 x_4 H locs ls g_6 g_7 g_8 hP hD hS hl
      refine lv_iload hx hb dX0_worthOfSet_5 (lv_at hl 0 rfl) ?_
      refine lv_aload_n hx hb dX0_worthOfSet_7 rfl (lv_at hl 2 rfl) ?_
      refine va_get (D := D) (ci := 0) (v := .int x4) (C := RX0) (T := TX0) (N := 14) hx hb hts inX0 hown hG.1 hP 0 rfl rfl 1 (by decide) (hts _ kw490) (fun _ h9 => h9) rfl dX0_worthOfSet_8 ?_
      refine lv_icmp_ge (tgt := 39) hx hb dX0_worthOfSet_11 (by decide) (fun c_9 => ?_) (fun c_9 => ?_)
      · have fc_9 : x4.toInt ≤ x_4.toInt := i_le rfl rfl c_9
        refine lv_iload_n hx hb dX0_worthOfSet_39 rfl (lv_at hl 1 rfl) ?_
        have hP9 := hP.sub (ws' := [(h0, .inr (0, [.int x3, .int x4, .ref h5, .ref h6, .int x7, .int x8, .int x9, .ref h10, .ref h11, .int x12, .int x13, .int x14, .int x15, .int x16])), (h5, .inl (cI, 28, .inl f17))]) [0, 1] rfl
        have hD9 := hD.sub (ws' := [(h0, .inr (0, [.int x3, .int x4, .ref h5, .ref h6, .int x7, .int x8, .int x9, .ref h10, .ref h11, .int x12, .int x13, .int x14, .int x15, .int x16])), (h5, .inl (cI, 28, .inl f17))]) [0, 1] (by decide) rfl
        exact xr_i (rm := (rmL 2 0 0)) hx hb hr hlocks hAe hS hP9 hD9 rfl (Nat.le_of_ble_eq_true rfl) (Nat.le_of_ble_eq_true rfl) dX0_worthOfSet_40 ⟨x_3, rfl, rfl⟩
      · have fc_9 : x_4.toInt < x4.toInt := i_nle rfl rfl c_9
        refine lv_iload_n hx hb dX0_worthOfSet_14 rfl (lv_at hl 4 rfl) ?_
        refine lv_iload hx hb dX0_worthOfSet_15 (lv_at hl 0 rfl) ?_
        refine lv_ishr hx hb dX0_worthOfSet_17 ?_
        refine xt_any (fun v_10 => ?_)
        refine lv_iconst (v := 1) hx hb dX0_worthOfSet_18 (by decide +kernel) ?_
        refine lv_iand hx hb dX0_worthOfSet_19 ?_
        refine lv_topi (fun v_11 ev_11 => ?_)
        have gv_11 : 0 ≤ v_11.toInt ∧ v_11.toInt < 2 := by rw [ev_11]; exact i32_and (m := 1) 1 (by decide) (by decide)
        refine lv_if_eq (tgt := 33) hx hb dX0_worthOfSet_20 (by decide) (fun c_12 => ?_) (fun c_12 => ?_)
        · have fc_12 : v_11.toInt = (0 : Int) := i_eq rfl (by decide) c_12
          obtain ⟨v_13, ev_13⟩ : ∃ y : Int32, y = x_4 + 1 := ⟨_, rfl⟩
          have gv_13 : v_13.toInt = x_4.toInt + 1 := by
            have zy : (1 : Int32).toInt = 1 := by decide
            rw [ev_13, i32_add (by rw [zy]; omega) (by rw [zy]; omega), zy]
          refine lv_iinc (v := v_13) (lv' := [(4, .int v_13), (3, .int x_3), (0, .ref h0), (1, .int x1), (2, .int x2)]) hx hb dX0_worthOfSet_33 hl (k := 0) rfl (by rw [ev_13]; rfl) (by decide) rfl (fun ls hl => ?_)
          refine lv_goto (tgt := 5) hx hb dX0_worthOfSet_36 (by decide) ?_
          exact ihlp_5  x_3 v_13 _ _ _ (by omega) (by omega) (by omega) (hP.sub (ws' := [(h0, .inr (0, [.int x3, .int x4, .ref h5, .ref h6, .int x7, .int x8, .int x9, .ref h10, .ref h11, .int x12, .int x13, .int x14, .int x15, .int x16])), (h5, .inl (cI, 28, .inl f17))]) [0, 1] rfl) (hD.sub (ws' := [(h0, .inr (0, [.int x3, .int x4, .ref h5, .ref h6, .int x7, .int x8, .int x9, .ref h10, .ref h11, .int x12, .int x13, .int x14, .int x15, .int x16])), (h5, .inl (cI, 28, .inl f17))]) [0, 1] (by decide) rfl) hS (lv_sub hl [0, 1, 2, 3, 4] rfl)
        · have fc_12 : v_11.toInt ≠ (0 : Int) := i_ne rfl (by decide) c_12
          refine lv_iload_n hx hb dX0_worthOfSet_23 rfl (lv_at hl 1 rfl) ?_
          refine lv_aload_n hx hb dX0_worthOfSet_24 rfl (lv_at hl 2 rfl) ?_
          refine lv_iload_n hx hb dX0_worthOfSet_25 rfl (lv_at hl 3 rfl) ?_
          refine lv_iload hx hb dX0_worthOfSet_26 (lv_at hl 0 rfl) ?_
          refine xc_core (wr := []) (k := 0) (n := 0) (xc_runV (As := [.int x1, .int x_4]) (rest := [.int x_3]) hx hb hml hown hts hG hE hP hD hS hA [0, 1] (by decide) rfl (sX0_worthOf_1 l D cB cI cJ cZ aK aV h0 x1 x_4 x3 x4 h5 h6 x7 x8 x9 h10 h11 x12 x13 x14 x15 x16 f17 (by omega) (by omega) (by omega) (by omega) (by omega) (by omega) (by omega) (by omega) (by omega) (by omega) (by omega) (by omega)) kw917 kw914 kw915 kw916 kw124 (show XD yX0_worthOf 2 from by decide +kernel) (by decide) rfl rfl 0 rfl hl.1 rfl (Nat.le_of_ble_eq_true rfl) dX0_worthOfSet_28 (by decide)) hP hD hS hA [0, 1] [] rfl rfl (by decide) (by decide) (Nat.le_of_ble_eq_true rfl) (Nat.le_of_ble_eq_true rfl) (fun r w1 H locs hpost hP hD hS => ?_)
          obtain ⟨v_14, rfl, rfl⟩ := hpost
          have hP : va_P D vwCl [(h0, .inr (0, [.int x3, .int x4, .ref h5, .ref h6, .int x7, .int x8, .int x9, .ref h10, .ref h11, .int x12, .int x13, .int x14, .int x15, .int x16])), (h5, .inl (cI, 28, .inl f17))] H := hP
          have hD : va_D A [(h0, .inr (0, [.int x3, .int x4, .ref h5, .ref h6, .int x7, .int x8, .int x9, .ref h10, .ref h11, .int x12, .int x13, .int x14, .int x15, .int x16])), (h5, .inl (cI, 28, .inl f17))] := hD
          refine lv_iadd hx hb dX0_worthOfSet_31 ?_
          refine xt_any (fun v_15 => ?_)
          refine lv_istore_n (lv' := [(3, .int v_15), (4, .int x_4), (0, .ref h0), (1, .int x1), (2, .int x2)]) hx hb dX0_worthOfSet_32 rfl hl (by decide) rfl (fun ls hl => ?_)
          obtain ⟨v_16, ev_16⟩ : ∃ y : Int32, y = x_4 + 1 := ⟨_, rfl⟩
          have gv_16 : v_16.toInt = x_4.toInt + 1 := by
            have zy : (1 : Int32).toInt = 1 := by decide
            rw [ev_16, i32_add (by rw [zy]; omega) (by rw [zy]; omega), zy]
          refine lv_iinc (v := v_16) (lv' := [(4, .int v_16), (3, .int v_15), (0, .ref h0), (1, .int x1), (2, .int x2)]) hx hb dX0_worthOfSet_33 hl (k := 1) rfl (by rw [ev_16]; rfl) (by decide) rfl (fun ls hl => ?_)
          refine lv_goto (tgt := 5) hx hb dX0_worthOfSet_36 (by decide) ?_
          exact ihlp_5  v_15 v_16 _ _ _ (by omega) (by omega) (by omega) (hP.sub (ws' := [(h0, .inr (0, [.int x3, .int x4, .ref h5, .ref h6, .int x7, .int x8, .int x9, .ref h10, .ref h11, .int x12, .int x13, .int x14, .int x15, .int x16])), (h5, .inl (cI, 28, .inl f17))]) [0, 1] rfl) (hD.sub (ws' := [(h0, .inr (0, [.int x3, .int x4, .ref h5, .ref h6, .int x7, .int x8, .int x9, .ref h10, .ref h11, .int x12, .int x13, .int x14, .int x15, .int x16])), (h5, .inl (cI, 28, .inl f17))]) [0, 1] (by decide) rfl) hS (lv_sub hl [0, 1, 2, 3, 4] rfl)
  exact lp_5 9 0 0 _ _ _ (by have zc0 : (0 : Int32).toInt = 0 := (by decide); omega) (by have zc0 : (0 : Int32).toInt = 0 := (by decide); omega) (by have zc0 : (0 : Int32).toInt = 0 := (by decide); omega) (hP.sub (ws' := [(h0, .inr (0, [.int x3, .int x4, .ref h5, .ref h6, .int x7, .int x8, .int x9, .ref h10, .ref h11, .int x12, .int x13, .int x14, .int x15, .int x16])), (h5, .inl (cI, 28, .inl f17))]) [0, 1] rfl) (hD.sub (ws' := [(h0, .inr (0, [.int x3, .int x4, .ref h5, .ref h6, .int x7, .int x8, .int x9, .ref h10, .ref h11, .int x12, .int x13, .int x14, .int x15, .int x16])), (h5, .inl (cI, 28, .inl f17))]) [0, 1] (by decide) rfl) hS (lv_sub hl [0, 1, 2, 3, 4] rfl)
theorem dX0_dearestCourt_0 : decode cX0_dearestCourt 0 = .ok (.iconst 0, 1) := by decide +kernel
theorem dX0_dearestCourt_1 : decode cX0_dearestCourt 1 = .ok (.istore_n 2, 1) := by decide +kernel
theorem dX0_dearestCourt_2 : decode cX0_dearestCourt 2 = .ok (.iconst 1, 1) := by decide +kernel
theorem dX0_dearestCourt_3 : decode cX0_dearestCourt 3 = .ok (.istore_n 3, 1) := by decide +kernel
theorem dX0_dearestCourt_4 : decode cX0_dearestCourt 4 = .ok (.iload_n 3, 1) := by decide +kernel
theorem dX0_dearestCourt_5 : decode cX0_dearestCourt 5 = .ok (.aload_n 0, 1) := by decide +kernel
theorem dX0_dearestCourt_6 : decode cX0_dearestCourt 6 = .ok (.getfield 36, 3) := by decide +kernel
theorem dX0_dearestCourt_9 : decode cX0_dearestCourt 9 = .ok (.if_icmp .ge 26, 3) := by decide +kernel
theorem dX0_dearestCourt_35 : decode cX0_dearestCourt 35 = .ok (.iload_n 2, 1) := by decide +kernel
theorem dX0_dearestCourt_36 : decode cX0_dearestCourt 36 = .ok (.ireturn, 1) := by decide +kernel
theorem dX0_dearestCourt_12 : decode cX0_dearestCourt 12 = .ok (.aload_n 0, 1) := by decide +kernel
theorem dX0_dearestCourt_13 : decode cX0_dearestCourt 13 = .ok (.iload_n 3, 1) := by decide +kernel
theorem dX0_dearestCourt_14 : decode cX0_dearestCourt 14 = .ok (.iload_n 1, 1) := by decide +kernel
theorem dX0_dearestCourt_15 : decode cX0_dearestCourt 15 = .ok (.invokevirtual 48, 3) := by decide +kernel
theorem dX0_dearestCourt_18 : decode cX0_dearestCourt 18 = .ok (.aload_n 0, 1) := by decide +kernel
theorem dX0_dearestCourt_19 : decode cX0_dearestCourt 19 = .ok (.iload_n 2, 1) := by decide +kernel
theorem dX0_dearestCourt_20 : decode cX0_dearestCourt 20 = .ok (.iload_n 1, 1) := by decide +kernel
theorem dX0_dearestCourt_21 : decode cX0_dearestCourt 21 = .ok (.invokevirtual 48, 3) := by decide +kernel
theorem dX0_dearestCourt_24 : decode cX0_dearestCourt 24 = .ok (.if_icmp .le 5, 3) := by decide +kernel
theorem dX0_dearestCourt_29 : decode cX0_dearestCourt 29 = .ok (.iinc 3 1, 3) := by decide +kernel
theorem dX0_dearestCourt_32 : decode cX0_dearestCourt 32 = .ok (.goto (-28), 3) := by decide +kernel
theorem dX0_dearestCourt_27 : decode cX0_dearestCourt 27 = .ok (.iload_n 3, 1) := by decide +kernel
theorem dX0_dearestCourt_28 : decode cX0_dearestCourt 28 = .ok (.istore_n 2, 1) := by decide +kernel
set_option maxHeartbeats 4000000 in
set_option maxRecDepth 100000 in
theorem sX0_dearestCourt_1 (l : Launch) (D : va_G) (cB cI cJ cZ : ClassId) (aK aV : Nat → Nat) (h0 : Nat) (x1 : Int32) (x2 : Int32) (x3 : Int32) (h4 : Nat) (h5 : Nat) (x6 : Int32) (x7 : Int32) (x8 : Int32) (h9 : Nat) (h10 : Nat) (x11 : Int32) (x12 : Int32) (x13 : Int32) (x14 : Int32) (x15 : Int32) (f16 : Nat → Int32) (gh0 : 0 ≤ x1.toInt) (gh1 : 0 ≤ -x1.toInt + 6) (gh2 : 0 ≤ x2.toInt) (gh3 : 0 ≤ -x2.toInt + 4) (gh4 : 0 ≤ x3.toInt) (gh5 : 0 ≤ -x3.toInt + 7) (gh6 : 0 ≤ x7.toInt) (gh7 : 0 ≤ -x7.toInt + 6) (gh8 : 0 ≤ x8.toInt) (gh9 : 0 ≤ -x8.toInt + 6) : MX l yX0_dearestCourt cX0_dearestCourt 4 (some .int) (rmL 2 0 0) D cB cI cJ cZ aK aV [.ref h0, .int x1] [(h0, .inr (0, [.int x2, .int x3, .ref h4, .ref h5, .int x6, .int x7, .int x8, .ref h9, .ref h10, .int x11, .int x12, .int x13, .int x14, .int x15])), (h4, .inl (cI, 28, .inl f16))] (fun r w1 => ∃ z1 : Int32, 0 ≤ z1.toInt ∧ 0 ≤ -z1.toInt + 3 ∧ r = some (.int z1) ∧ w1 = [(h0, .inr (0, [.int x2, .int x3, .ref h4, .ref h5, .int x6, .int x7, .int x8, .ref h9, .ref h10, .int x11, .int x12, .int x13, .int x14, .int x15])), (h4, .inl (cI, 28, .inl f16))]) := by
  refine MX.intro (by decide) (Nat.le_of_ble_eq_true rfl) ?_
  intro p e s m below meth c A ls hx hb hr hml hown hlocks hnm hts hG hE hA hS hP hD hl hAe
  have hl : lv_has ls 4 [(0, .ref h0), (1, .int x1)] := hl
  have hown : s.vm.findClass RX0 = some m.cls := hown
  refine lv_iconst (v := 0) hx hb dX0_dearestCourt_0 (by decide +kernel) ?_
  refine lv_istore_n (lv' := [(2, .int 0), (0, .ref h0), (1, .int x1)]) hx hb dX0_dearestCourt_1 rfl hl (by decide) rfl (fun ls hl => ?_)
  refine lv_iconst (v := 1) hx hb dX0_dearestCourt_2 (by decide +kernel) ?_
  refine lv_istore_n (lv' := [(3, .int 1), (2, .int 0), (0, .ref h0), (1, .int x1)]) hx hb dX0_dearestCourt_3 rfl hl (by decide) rfl (fun ls hl => ?_)
  have lp_5 : ∀ (n : Nat) (x_3 x_4 : Int32) (H : Heap) (locs : List Loc) (ls : Array Slot), 0 ≤ x_3.toInt → 0 ≤ -x_3.toInt + 3 → 0 ≤ x2.toInt - x_3.toInt → 0 ≤ -x_3.toInt + x_4.toInt → 0 ≤ x_4.toInt - 1 → 0 ≤ -x_4.toInt + 4 → -x_4.toInt + 4 < n → va_P D vwCl [(h0, .inr (0, [.int x2, .int x3, .ref h4, .ref h5, .int x6, .int x7, .int x8, .ref h9, .ref h10, .int x11, .int x12, .int x13, .int x14, .int x15])), (h4, .inl (cI, 28, .inl f16))] H → va_D A [(h0, .inr (0, [.int x2, .int x3, .ref h4, .ref h5, .int x6, .int x7, .int x8, .ref h9, .ref h10, .int x11, .int x12, .int x13, .int x14, .int x15])), (h4, .inl (cI, 28, .inl f16))] → va_S A s.heap H locs → lv_has ls 4 [(3, .int x_4), (2, .int x_3), (0, .ref h0), (1, .int x1)] → W p l e (rmL 2 0 0) s m [.ref h0, .int x1].toArray below meth c H locs 0 0 (ZX D below [.ref h0, .int x1] s (rmL 2 0 0) [(h0, .inr (0, [.int x2, .int x3, .ref h4, .ref h5, .int x6, .int x7, .int x8, .ref h9, .ref h10, .int x11, .int x12, .int x13, .int x14, .int x15])), (h4, .inl (cI, 28, .inl f16))] (fun r w1 => ∃ z1 : Int32, 0 ≤ z1.toInt ∧ 0 ≤ -z1.toInt + 3 ∧ r = some (.int z1) ∧ w1 = [(h0, .inr (0, [.int x2, .int x3, .ref h4, .ref h5, .int x6, .int x7, .int x8, .ref h9, .ref h10, .int x11, .int x12, .int x13, .int x14, .int x15])), (h4, .inl (cI, 28, .inl f16))])) (F0 m 4 ls []) := by
    intro n
    induction n with
    | zero => intro x_3 x_4 H locs ls g_6 g_7 g_8 g_9 g_10 g_11 g_12; omega
    | succ n ihlp_5 =>
      intro x_3 x_4 H locs ls g_6 g_7 g_8 g_9 g_10 g_11 g_12 hP hD hS hl
      refine lv_iload_n hx hb dX0_dearestCourt_4 rfl (lv_at hl 0 rfl) ?_
      refine lv_aload_n hx hb dX0_dearestCourt_5 rfl (lv_at hl 2 rfl) ?_
      refine va_get (D := D) (ci := 0) (v := .int x2) (C := RX0) (T := TX0) (N := 14) hx hb hts inX0 hown hG.1 hP 0 rfl rfl 0 (by decide) (hts _ kw489) (fun _ h9 => h9) rfl dX0_dearestCourt_6 ?_
      refine lv_icmp_ge (tgt := 35) hx hb dX0_dearestCourt_9 (by decide) (fun c_13 => ?_) (fun c_13 => ?_)
      · have fc_13 : x2.toInt ≤ x_4.toInt := i_le rfl rfl c_13
        refine lv_iload_n hx hb dX0_dearestCourt_35 rfl (lv_at hl 1 rfl) ?_
        have hP9 := hP.sub (ws' := [(h0, .inr (0, [.int x2, .int x3, .ref h4, .ref h5, .int x6, .int x7, .int x8, .ref h9, .ref h10, .int x11, .int x12, .int x13, .int x14, .int x15])), (h4, .inl (cI, 28, .inl f16))]) [0, 1] rfl
        have hD9 := hD.sub (ws' := [(h0, .inr (0, [.int x2, .int x3, .ref h4, .ref h5, .int x6, .int x7, .int x8, .ref h9, .ref h10, .int x11, .int x12, .int x13, .int x14, .int x15])), (h4, .inl (cI, 28, .inl f16))]) [0, 1] (by decide) rfl
        exact xr_i (rm := (rmL 2 0 0)) hx hb hr hlocks hAe hS hP9 hD9 rfl (Nat.le_of_ble_eq_true rfl) (Nat.le_of_ble_eq_true rfl) dX0_dearestCourt_36 ⟨x_3, by omega, by omega, rfl, rfl⟩
      · have fc_13 : x_4.toInt < x2.toInt := i_nle rfl rfl c_13
        refine lv_aload_n hx hb dX0_dearestCourt_12 rfl (lv_at hl 2 rfl) ?_
        refine lv_iload_n hx hb dX0_dearestCourt_13 rfl (lv_at hl 0 rfl) ?_
        refine lv_iload_n hx hb dX0_dearestCourt_14 rfl (lv_at hl 3 rfl) ?_
        refine xc_core (wr := []) (k := 0) (n := 0) (xc_runV (As := [.int x_4, .int x1]) (rest := []) hx hb hml hown hts hG hE hP hD hS hA [0, 1] (by decide) rfl (sX0_worthOf_1 l D cB cI cJ cZ aK aV h0 x_4 x1 x2 x3 h4 h5 x6 x7 x8 h9 h10 x11 x12 x13 x14 x15 f16 (by omega) (by omega) (by omega) (by omega) (by omega) (by omega) (by omega) (by omega) (by omega) (by omega) (by omega) (by omega)) kw917 kw914 kw915 kw916 kw124 (show XD yX0_worthOf 2 from by decide +kernel) (by decide) rfl rfl 0 rfl hl.1 rfl (Nat.le_of_ble_eq_true rfl) dX0_dearestCourt_15 (by decide)) hP hD hS hA [0, 1] [] rfl rfl (by decide) (by decide) (Nat.le_of_ble_eq_true rfl) (Nat.le_of_ble_eq_true rfl) (fun r w1 H locs hpost hP hD hS => ?_)
        obtain ⟨v_14, rfl, rfl⟩ := hpost
        have hP : va_P D vwCl [(h0, .inr (0, [.int x2, .int x3, .ref h4, .ref h5, .int x6, .int x7, .int x8, .ref h9, .ref h10, .int x11, .int x12, .int x13, .int x14, .int x15])), (h4, .inl (cI, 28, .inl f16))] H := hP
        have hD : va_D A [(h0, .inr (0, [.int x2, .int x3, .ref h4, .ref h5, .int x6, .int x7, .int x8, .ref h9, .ref h10, .int x11, .int x12, .int x13, .int x14, .int x15])), (h4, .inl (cI, 28, .inl f16))] := hD
        refine lv_aload_n hx hb dX0_dearestCourt_18 rfl (lv_at hl 2 rfl) ?_
        refine lv_iload_n hx hb dX0_dearestCourt_19 rfl (lv_at hl 1 rfl) ?_
        refine lv_iload_n hx hb dX0_dearestCourt_20 rfl (lv_at hl 3 rfl) ?_
        refine xc_core (wr := []) (k := 0) (n := 0) (xc_runV (As := [.int x_3, .int x1]) (rest := [.int v_14]) hx hb hml hown hts hG hE hP hD hS hA [0, 1] (by decide) rfl (sX0_worthOf_1 l D cB cI cJ cZ aK aV h0 x_3 x1 x2 x3 h4 h5 x6 x7 x8 h9 h10 x11 x12 x13 x14 x15 f16 (by omega) (by omega) (by omega) (by omega) (by omega) (by omega) (by omega) (by omega) (by omega) (by omega) (by omega) (by omega)) kw917 kw914 kw915 kw916 kw124 (show XD yX0_worthOf 2 from by decide +kernel) (by decide) rfl rfl 0 rfl hl.1 rfl (Nat.le_of_ble_eq_true rfl) dX0_dearestCourt_21 (by decide)) hP hD hS hA [0, 1] [] rfl rfl (by decide) (by decide) (Nat.le_of_ble_eq_true rfl) (Nat.le_of_ble_eq_true rfl) (fun r w1 H locs hpost hP hD hS => ?_)
        obtain ⟨v_15, rfl, rfl⟩ := hpost
        have hP : va_P D vwCl [(h0, .inr (0, [.int x2, .int x3, .ref h4, .ref h5, .int x6, .int x7, .int x8, .ref h9, .ref h10, .int x11, .int x12, .int x13, .int x14, .int x15])), (h4, .inl (cI, 28, .inl f16))] H := hP
        have hD : va_D A [(h0, .inr (0, [.int x2, .int x3, .ref h4, .ref h5, .int x6, .int x7, .int x8, .ref h9, .ref h10, .int x11, .int x12, .int x13, .int x14, .int x15])), (h4, .inl (cI, 28, .inl f16))] := hD
        refine lv_icmp_le (tgt := 29) hx hb dX0_dearestCourt_24 (by decide) (fun c_16 => ?_) (fun c_16 => ?_)
        · have fc_16 : v_14.toInt ≤ v_15.toInt := i_le rfl rfl c_16
          obtain ⟨v_17, ev_17⟩ : ∃ y : Int32, y = x_4 + 1 := ⟨_, rfl⟩
          have gv_17 : v_17.toInt = x_4.toInt + 1 := by
            have zy : (1 : Int32).toInt = 1 := by decide
            rw [ev_17, i32_add (by rw [zy]; omega) (by rw [zy]; omega), zy]
          refine lv_iinc (v := v_17) (lv' := [(3, .int v_17), (2, .int x_3), (0, .ref h0), (1, .int x1)]) hx hb dX0_dearestCourt_29 hl (k := 0) rfl (by rw [ev_17]; rfl) (by decide) rfl (fun ls hl => ?_)
          refine lv_goto (tgt := 4) hx hb dX0_dearestCourt_32 (by decide) ?_
          exact ihlp_5  x_3 v_17 _ _ _ (by omega) (by omega) (by omega) (by omega) (by omega) (by omega) (by omega) (hP.sub (ws' := [(h0, .inr (0, [.int x2, .int x3, .ref h4, .ref h5, .int x6, .int x7, .int x8, .ref h9, .ref h10, .int x11, .int x12, .int x13, .int x14, .int x15])), (h4, .inl (cI, 28, .inl f16))]) [0, 1] rfl) (hD.sub (ws' := [(h0, .inr (0, [.int x2, .int x3, .ref h4, .ref h5, .int x6, .int x7, .int x8, .ref h9, .ref h10, .int x11, .int x12, .int x13, .int x14, .int x15])), (h4, .inl (cI, 28, .inl f16))]) [0, 1] (by decide) rfl) hS (lv_sub hl [0, 1, 2, 3] rfl)
        · have fc_16 : v_15.toInt < v_14.toInt := i_nle rfl rfl c_16
          refine lv_iload_n hx hb dX0_dearestCourt_27 rfl (lv_at hl 0 rfl) ?_
          refine lv_istore_n (lv' := [(2, .int x_4), (3, .int x_4), (0, .ref h0), (1, .int x1)]) hx hb dX0_dearestCourt_28 rfl hl (by decide) rfl (fun ls hl => ?_)
          obtain ⟨v_18, ev_18⟩ : ∃ y : Int32, y = x_4 + 1 := ⟨_, rfl⟩
          have gv_18 : v_18.toInt = x_4.toInt + 1 := by
            have zy : (1 : Int32).toInt = 1 := by decide
            rw [ev_18, i32_add (by rw [zy]; omega) (by rw [zy]; omega), zy]
          refine lv_iinc (v := v_18) (lv' := [(3, .int v_18), (2, .int x_4), (0, .ref h0), (1, .int x1)]) hx hb dX0_dearestCourt_29 hl (k := 1) rfl (by rw [ev_18]; rfl) (by decide) rfl (fun ls hl => ?_)
          refine lv_goto (tgt := 4) hx hb dX0_dearestCourt_32 (by decide) ?_
          exact ihlp_5  x_4 v_18 _ _ _ (by omega) (by omega) (by omega) (by omega) (by omega) (by omega) (by omega) (hP.sub (ws' := [(h0, .inr (0, [.int x2, .int x3, .ref h4, .ref h5, .int x6, .int x7, .int x8, .ref h9, .ref h10, .int x11, .int x12, .int x13, .int x14, .int x15])), (h4, .inl (cI, 28, .inl f16))]) [0, 1] rfl) (hD.sub (ws' := [(h0, .inr (0, [.int x2, .int x3, .ref h4, .ref h5, .int x6, .int x7, .int x8, .ref h9, .ref h10, .int x11, .int x12, .int x13, .int x14, .int x15])), (h4, .inl (cI, 28, .inl f16))]) [0, 1] (by decide) rfl) hS (lv_sub hl [0, 1, 2, 3] rfl)
  exact lp_5 5 0 1 _ _ _ (by have zc0 : (0 : Int32).toInt = 0 := (by decide); have zc1 : (1 : Int32).toInt = 1 := (by decide); omega) (by have zc0 : (0 : Int32).toInt = 0 := (by decide); have zc1 : (1 : Int32).toInt = 1 := (by decide); omega) (by have zc0 : (0 : Int32).toInt = 0 := (by decide); have zc1 : (1 : Int32).toInt = 1 := (by decide); omega) (by have zc0 : (0 : Int32).toInt = 0 := (by decide); have zc1 : (1 : Int32).toInt = 1 := (by decide); omega) (by have zc0 : (0 : Int32).toInt = 0 := (by decide); have zc1 : (1 : Int32).toInt = 1 := (by decide); omega) (by have zc0 : (0 : Int32).toInt = 0 := (by decide); have zc1 : (1 : Int32).toInt = 1 := (by decide); omega) (by have zc0 : (0 : Int32).toInt = 0 := (by decide); have zc1 : (1 : Int32).toInt = 1 := (by decide); omega) (hP.sub (ws' := [(h0, .inr (0, [.int x2, .int x3, .ref h4, .ref h5, .int x6, .int x7, .int x8, .ref h9, .ref h10, .int x11, .int x12, .int x13, .int x14, .int x15])), (h4, .inl (cI, 28, .inl f16))]) [0, 1] rfl) (hD.sub (ws' := [(h0, .inr (0, [.int x2, .int x3, .ref h4, .ref h5, .int x6, .int x7, .int x8, .ref h9, .ref h10, .int x11, .int x12, .int x13, .int x14, .int x15])), (h4, .inl (cI, 28, .inl f16))]) [0, 1] (by decide) rfl) hS (lv_sub hl [0, 1, 2, 3] rfl)
theorem dX0_swapGain_0 : decode cX0_swapGain 0 = .ok (.aload_n 0, 1) := by decide +kernel
theorem dX0_swapGain_1 : decode cX0_swapGain 1 = .ok (.getfield 15, 3) := by decide +kernel
theorem dX0_swapGain_4 : decode cX0_swapGain 4 = .ok (.iload_n 1, 1) := by decide +kernel
theorem dX0_swapGain_5 : decode cX0_swapGain 5 = .ok (.iaload, 1) := by decide +kernel
theorem dX0_swapGain_6 : decode cX0_swapGain 6 = .ok (.istore_n 3, 1) := by decide +kernel
theorem dX0_swapGain_7 : decode cX0_swapGain 7 = .ok (.aload_n 0, 1) := by decide +kernel
theorem dX0_swapGain_8 : decode cX0_swapGain 8 = .ok (.iload_n 3, 1) := by decide +kernel
theorem dX0_swapGain_9 : decode cX0_swapGain 9 = .ok (.iload_n 2, 1) := by decide +kernel
theorem dX0_swapGain_10 : decode cX0_swapGain 10 = .ok (.invokevirtual 48, 3) := by decide +kernel
theorem dX0_swapGain_13 : decode cX0_swapGain 13 = .ok (.aload_n 0, 1) := by decide +kernel
theorem dX0_swapGain_14 : decode cX0_swapGain 14 = .ok (.iload_n 3, 1) := by decide +kernel
theorem dX0_swapGain_15 : decode cX0_swapGain 15 = .ok (.iload_n 1, 1) := by decide +kernel
theorem dX0_swapGain_16 : decode cX0_swapGain 16 = .ok (.invokevirtual 48, 3) := by decide +kernel
theorem dX0_swapGain_19 : decode cX0_swapGain 19 = .ok (.isub, 1) := by decide +kernel
theorem dX0_swapGain_20 : decode cX0_swapGain 20 = .ok (.ireturn, 1) := by decide +kernel
set_option maxHeartbeats 4000000 in
set_option maxRecDepth 100000 in
theorem sX0_swapGain_1 (l : Launch) (D : va_G) (cB cI cJ cZ : ClassId) (aK aV : Nat → Nat) (h0 : Nat) (x1 : Int32) (x2 : Int32) (x3 : Int32) (x4 : Int32) (h5 : Nat) (h6 : Nat) (x7 : Int32) (x8 : Int32) (x9 : Int32) (h10 : Nat) (h11 : Nat) (x12 : Int32) (x13 : Int32) (x14 : Int32) (x15 : Int32) (x16 : Int32) (f17 : Nat → Int32) (f18 : Nat → Int32) (gh0 : 0 ≤ x1.toInt) (gh1 : 0 ≤ -x1.toInt + 6) (gh2 : 0 ≤ x2.toInt) (gh3 : 0 ≤ -x2.toInt + 6) (gh4 : 0 ≤ x3.toInt) (gh5 : 0 ≤ -x3.toInt + 4) (gh6 : 0 ≤ x4.toInt) (gh7 : 0 ≤ -x4.toInt + 7) (gh8 : 0 ≤ x8.toInt) (gh9 : 0 ≤ -x8.toInt + 6) (gh10 : 0 ≤ x9.toInt) (gh11 : 0 ≤ -x9.toInt + 6) (gh12 : 0 ≤ -x1.toInt + x4.toInt - 1) (ga0 : AR f17 (0) (3) (x4.toInt)) : MX l yX0_swapGain cX0_swapGain 4 (some .int) (rmL 2 0 0) D cB cI cJ cZ aK aV [.ref h0, .int x1, .int x2] [(h0, .inr (0, [.int x3, .int x4, .ref h5, .ref h6, .int x7, .int x8, .int x9, .ref h10, .ref h11, .int x12, .int x13, .int x14, .int x15, .int x16])), (h6, .inl (cI, 7, .inl f17)), (h5, .inl (cI, 28, .inl f18))] (fun r w1 => ∃ z1 : Int32, r = some (.int z1) ∧ w1 = [(h0, .inr (0, [.int x3, .int x4, .ref h5, .ref h6, .int x7, .int x8, .int x9, .ref h10, .ref h11, .int x12, .int x13, .int x14, .int x15, .int x16])), (h6, .inl (cI, 7, .inl f17)), (h5, .inl (cI, 28, .inl f18))]) := by
  refine MX.intro (by decide) (Nat.le_of_ble_eq_true rfl) ?_
  intro p e s m below meth c A ls hx hb hr hml hown hlocks hnm hts hG hE hA hS hP hD hl hAe
  have hl : lv_has ls 4 [(0, .ref h0), (1, .int x1), (2, .int x2)] := hl
  have hown : s.vm.findClass RX0 = some m.cls := hown
  refine lv_aload_n hx hb dX0_swapGain_0 rfl (lv_at hl 0 rfl) ?_
  refine va_get (D := D) (ci := 0) (v := .ref h6) (C := RX0) (T := TX0) (N := 14) hx hb hts inX0 hown hG.1 hP 0 rfl rfl 3 (by decide) (hts _ kw492) (fun _ h9 => h9) rfl dX0_swapGain_1 ?_
  refine lv_iload_n hx hb dX0_swapGain_4 rfl (lv_at hl 1 rfl) ?_
  refine xa_ildR hx hb hG hP 1 rfl (vp_in_iff.mpr ⟨by omega, by omega⟩) dX0_swapGain_5 (fun v_1 hv => ?_)
  have g_2 := hv _ _ _ ga0 (by omega)
  refine lv_istore_n (lv' := [(3, .int v_1), (0, .ref h0), (1, .int x1), (2, .int x2)]) hx hb dX0_swapGain_6 rfl hl (by decide) rfl (fun ls hl => ?_)
  refine lv_aload_n hx hb dX0_swapGain_7 rfl (lv_at hl 1 rfl) ?_
  refine lv_iload_n hx hb dX0_swapGain_8 rfl (lv_at hl 0 rfl) ?_
  refine lv_iload_n hx hb dX0_swapGain_9 rfl (lv_at hl 3 rfl) ?_
  refine xc_core (wr := [(h6, .inl (cI, 7, .inl f17))]) (k := 0) (n := 0) (xc_runV (As := [.int v_1, .int x2]) (rest := []) hx hb hml hown hts hG hE hP hD hS hA [0, 2] (by decide) rfl (sX0_worthOf_1 l D cB cI cJ cZ aK aV h0 v_1 x2 x3 x4 h5 h6 x7 x8 x9 h10 h11 x12 x13 x14 x15 x16 f18 (by omega) (by omega) (by omega) (by omega) (by omega) (by omega) (by omega) (by omega) (by omega) (by omega) (by omega) (by omega)) kw917 kw914 kw915 kw916 kw124 (show XD yX0_worthOf 2 from by decide +kernel) (by decide) rfl rfl 0 rfl hl.1 rfl (Nat.le_of_ble_eq_true rfl) dX0_swapGain_10 (by decide)) hP hD hS hA [0, 2] [1] rfl rfl (by decide) (by decide) (Nat.le_of_ble_eq_true rfl) (Nat.le_of_ble_eq_true rfl) (fun r w1 H locs hpost hP hD hS => ?_)
  obtain ⟨v_3, rfl, rfl⟩ := hpost
  have hP : va_P D vwCl [(h6, .inl (cI, 7, .inl f17)), (h0, .inr (0, [.int x3, .int x4, .ref h5, .ref h6, .int x7, .int x8, .int x9, .ref h10, .ref h11, .int x12, .int x13, .int x14, .int x15, .int x16])), (h5, .inl (cI, 28, .inl f18))] H := hP
  have hD : va_D A [(h6, .inl (cI, 7, .inl f17)), (h0, .inr (0, [.int x3, .int x4, .ref h5, .ref h6, .int x7, .int x8, .int x9, .ref h10, .ref h11, .int x12, .int x13, .int x14, .int x15, .int x16])), (h5, .inl (cI, 28, .inl f18))] := hD
  refine lv_aload_n hx hb dX0_swapGain_13 rfl (lv_at hl 1 rfl) ?_
  refine lv_iload_n hx hb dX0_swapGain_14 rfl (lv_at hl 0 rfl) ?_
  refine lv_iload_n hx hb dX0_swapGain_15 rfl (lv_at hl 2 rfl) ?_
  refine xc_core (wr := [(h6, .inl (cI, 7, .inl f17))]) (k := 0) (n := 0) (xc_runV (As := [.int v_1, .int x1]) (rest := [.int v_3]) hx hb hml hown hts hG hE hP hD hS hA [1, 2] (by decide) rfl (sX0_worthOf_1 l D cB cI cJ cZ aK aV h0 v_1 x1 x3 x4 h5 h6 x7 x8 x9 h10 h11 x12 x13 x14 x15 x16 f18 (by omega) (by omega) (by omega) (by omega) (by omega) (by omega) (by omega) (by omega) (by omega) (by omega) (by omega) (by omega)) kw917 kw914 kw915 kw916 kw124 (show XD yX0_worthOf 2 from by decide +kernel) (by decide) rfl rfl 1 rfl hl.1 rfl (Nat.le_of_ble_eq_true rfl) dX0_swapGain_16 (by decide)) hP hD hS hA [1, 2] [0] rfl rfl (by decide) (by decide) (Nat.le_of_ble_eq_true rfl) (Nat.le_of_ble_eq_true rfl) (fun r w1 H locs hpost hP hD hS => ?_)
  obtain ⟨v_4, rfl, rfl⟩ := hpost
  have hP : va_P D vwCl [(h6, .inl (cI, 7, .inl f17)), (h0, .inr (0, [.int x3, .int x4, .ref h5, .ref h6, .int x7, .int x8, .int x9, .ref h10, .ref h11, .int x12, .int x13, .int x14, .int x15, .int x16])), (h5, .inl (cI, 28, .inl f18))] H := hP
  have hD : va_D A [(h6, .inl (cI, 7, .inl f17)), (h0, .inr (0, [.int x3, .int x4, .ref h5, .ref h6, .int x7, .int x8, .int x9, .ref h10, .ref h11, .int x12, .int x13, .int x14, .int x15, .int x16])), (h5, .inl (cI, 28, .inl f18))] := hD
  refine lv_isub hx hb dX0_swapGain_19 ?_
  refine xt_any (fun v_5 => ?_)
  have hP9 := hP.sub (ws' := [(h0, .inr (0, [.int x3, .int x4, .ref h5, .ref h6, .int x7, .int x8, .int x9, .ref h10, .ref h11, .int x12, .int x13, .int x14, .int x15, .int x16])), (h6, .inl (cI, 7, .inl f17)), (h5, .inl (cI, 28, .inl f18))]) [1, 0, 2] rfl
  have hD9 := hD.sub (ws' := [(h0, .inr (0, [.int x3, .int x4, .ref h5, .ref h6, .int x7, .int x8, .int x9, .ref h10, .ref h11, .int x12, .int x13, .int x14, .int x15, .int x16])), (h6, .inl (cI, 7, .inl f17)), (h5, .inl (cI, 28, .inl f18))]) [1, 0, 2] (by decide) rfl
  exact xr_i (rm := (rmL 2 0 0)) hx hb hr hlocks hAe hS hP9 hD9 rfl (Nat.le_of_ble_eq_true rfl) (Nat.le_of_ble_eq_true rfl) dX0_swapGain_20 ⟨v_5, rfl, rfl⟩
theorem dX0_harmsNone_0 : decode cX0_harmsNone 0 = .ok (.aload_n 0, 1) := by decide +kernel
theorem dX0_harmsNone_1 : decode cX0_harmsNone 1 = .ok (.getfield 15, 3) := by decide +kernel
theorem dX0_harmsNone_4 : decode cX0_harmsNone 4 = .ok (.iload_n 1, 1) := by decide +kernel
theorem dX0_harmsNone_5 : decode cX0_harmsNone 5 = .ok (.iaload, 1) := by decide +kernel
theorem dX0_harmsNone_6 : decode cX0_harmsNone 6 = .ok (.aload_n 0, 1) := by decide +kernel
theorem dX0_harmsNone_7 : decode cX0_harmsNone 7 = .ok (.getfield 15, 3) := by decide +kernel
theorem dX0_harmsNone_10 : decode cX0_harmsNone 10 = .ok (.iload_n 2, 1) := by decide +kernel
theorem dX0_harmsNone_11 : decode cX0_harmsNone 11 = .ok (.iaload, 1) := by decide +kernel
theorem dX0_harmsNone_12 : decode cX0_harmsNone 12 = .ok (.if_icmp .eq 25, 3) := by decide +kernel
theorem dX0_harmsNone_37 : decode cX0_harmsNone 37 = .ok (.iconst 0, 1) := by decide +kernel
theorem dX0_harmsNone_38 : decode cX0_harmsNone 38 = .ok (.ireturn, 1) := by decide +kernel
theorem dX0_harmsNone_15 : decode cX0_harmsNone 15 = .ok (.aload_n 0, 1) := by decide +kernel
theorem dX0_harmsNone_16 : decode cX0_harmsNone 16 = .ok (.iload_n 1, 1) := by decide +kernel
theorem dX0_harmsNone_17 : decode cX0_harmsNone 17 = .ok (.iload_n 2, 1) := by decide +kernel
theorem kw1023 : (.methodLink RX0 55 yX0_swapGain : Cond) ∈ gT := gT_of 1023 (by decide +kernel) (by decide +kernel)
theorem kw1026 : (.code yX0_swapGain cX0_swapGain 4 (some .int) : Cond) ∈ gT := gT_of 1026 (by decide +kernel) (by decide +kernel)
theorem kw1025 : (.instanceMethod yX0_swapGain : Cond) ∈ gT := gT_of 1025 (by decide +kernel) (by decide +kernel)
theorem kw29 : (.selects RX0 yX0_swapGain yX0_swapGain : Cond) ∈ gT := gT_of 29 (by decide +kernel) (by decide +kernel)
theorem dX0_harmsNone_18 : decode cX0_harmsNone 18 = .ok (.invokevirtual 55, 3) := by decide +kernel
theorem dX0_harmsNone_21 : decode cX0_harmsNone 21 = .ok (.ifCond .lt 16, 3) := by decide +kernel
theorem dX0_harmsNone_24 : decode cX0_harmsNone 24 = .ok (.aload_n 0, 1) := by decide +kernel
theorem dX0_harmsNone_25 : decode cX0_harmsNone 25 = .ok (.iload_n 2, 1) := by decide +kernel
theorem dX0_harmsNone_26 : decode cX0_harmsNone 26 = .ok (.iload_n 1, 1) := by decide +kernel
theorem dX0_harmsNone_27 : decode cX0_harmsNone 27 = .ok (.invokevirtual 55, 3) := by decide +kernel
theorem dX0_harmsNone_30 : decode cX0_harmsNone 30 = .ok (.ifCond .lt 7, 3) := by decide +kernel
theorem dX0_harmsNone_33 : decode cX0_harmsNone 33 = .ok (.iconst 1, 1) := by decide +kernel
theorem dX0_harmsNone_34 : decode cX0_harmsNone 34 = .ok (.goto 4, 3) := by decide +kernel
set_option maxHeartbeats 4000000 in
set_option maxRecDepth 100000 in
theorem sX0_harmsNone_1 (l : Launch) (D : va_G) (cB cI cJ cZ : ClassId) (aK aV : Nat → Nat) (h0 : Nat) (x1 : Int32) (x2 : Int32) (x3 : Int32) (x4 : Int32) (h5 : Nat) (h6 : Nat) (x7 : Int32) (x8 : Int32) (x9 : Int32) (h10 : Nat) (h11 : Nat) (x12 : Int32) (x13 : Int32) (x14 : Int32) (x15 : Int32) (x16 : Int32) (f17 : Nat → Int32) (f18 : Nat → Int32) (gh0 : 0 ≤ x1.toInt) (gh1 : 0 ≤ -x1.toInt + 6) (gh2 : 0 ≤ x2.toInt) (gh3 : 0 ≤ -x2.toInt + 6) (gh4 : 0 ≤ x3.toInt) (gh5 : 0 ≤ -x3.toInt + 4) (gh6 : 0 ≤ x4.toInt) (gh7 : 0 ≤ -x4.toInt + 7) (gh8 : 0 ≤ x8.toInt) (gh9 : 0 ≤ -x8.toInt + 6) (gh10 : 0 ≤ x9.toInt) (gh11 : 0 ≤ -x9.toInt + 6) (gh12 : 0 ≤ -x1.toInt + x4.toInt - 1) (gh13 : 0 ≤ -x2.toInt + x4.toInt - 1) (ga0 : AR f17 (0) (3) (x4.toInt)) : MX l yX0_harmsNone cX0_harmsNone 3 (some .boolean) (rmL 3 0 0) D cB cI cJ cZ aK aV [.ref h0, .int x1, .int x2] [(h0, .inr (0, [.int x3, .int x4, .ref h5, .ref h6, .int x7, .int x8, .int x9, .ref h10, .ref h11, .int x12, .int x13, .int x14, .int x15, .int x16])), (h6, .inl (cI, 7, .inl f17)), (h5, .inl (cI, 28, .inl f18))] (fun r w1 => ∃ z1 : Int32, 0 ≤ z1.toInt ∧ 0 ≤ -z1.toInt + 1 ∧ r = some (.int z1) ∧ w1 = [(h0, .inr (0, [.int x3, .int x4, .ref h5, .ref h6, .int x7, .int x8, .int x9, .ref h10, .ref h11, .int x12, .int x13, .int x14, .int x15, .int x16])), (h6, .inl (cI, 7, .inl f17)), (h5, .inl (cI, 28, .inl f18))]) := by
  refine MX.intro (by decide) (Nat.le_of_ble_eq_true rfl) ?_
  intro p e s m below meth c A ls hx hb hr hml hown hlocks hnm hts hG hE hA hS hP hD hl hAe
  have hl : lv_has ls 3 [(0, .ref h0), (1, .int x1), (2, .int x2)] := hl
  have hown : s.vm.findClass RX0 = some m.cls := hown
  refine lv_aload_n hx hb dX0_harmsNone_0 rfl (lv_at hl 0 rfl) ?_
  refine va_get (D := D) (ci := 0) (v := .ref h6) (C := RX0) (T := TX0) (N := 14) hx hb hts inX0 hown hG.1 hP 0 rfl rfl 3 (by decide) (hts _ kw492) (fun _ h9 => h9) rfl dX0_harmsNone_1 ?_
  refine lv_iload_n hx hb dX0_harmsNone_4 rfl (lv_at hl 1 rfl) ?_
  refine xa_ildR hx hb hG hP 1 rfl (vp_in_iff.mpr ⟨by omega, by omega⟩) dX0_harmsNone_5 (fun v_1 hv => ?_)
  have g_2 := hv _ _ _ ga0 (by omega)
  refine lv_aload_n hx hb dX0_harmsNone_6 rfl (lv_at hl 0 rfl) ?_
  refine va_get (D := D) (ci := 0) (v := .ref h6) (C := RX0) (T := TX0) (N := 14) hx hb hts inX0 hown hG.1 hP 0 rfl rfl 3 (by decide) (hts _ kw492) (fun _ h9 => h9) rfl dX0_harmsNone_7 ?_
  refine lv_iload_n hx hb dX0_harmsNone_10 rfl (lv_at hl 2 rfl) ?_
  refine xa_ildR hx hb hG hP 1 rfl (vp_in_iff.mpr ⟨by omega, by omega⟩) dX0_harmsNone_11 (fun v_3 hv => ?_)
  have g_4 := hv _ _ _ ga0 (by omega)
  refine lv_icmp_eq (tgt := 37) hx hb dX0_harmsNone_12 (by decide) (fun c_5 => ?_) (fun c_5 => ?_)
  · have fc_5 : v_1.toInt = v_3.toInt := i_eq rfl rfl c_5
    refine lv_iconst (v := 0) hx hb dX0_harmsNone_37 (by decide +kernel) ?_
    have hP9 := hP.sub (ws' := [(h0, .inr (0, [.int x3, .int x4, .ref h5, .ref h6, .int x7, .int x8, .int x9, .ref h10, .ref h11, .int x12, .int x13, .int x14, .int x15, .int x16])), (h6, .inl (cI, 7, .inl f17)), (h5, .inl (cI, 28, .inl f18))]) [0, 1, 2] rfl
    have hD9 := hD.sub (ws' := [(h0, .inr (0, [.int x3, .int x4, .ref h5, .ref h6, .int x7, .int x8, .int x9, .ref h10, .ref h11, .int x12, .int x13, .int x14, .int x15, .int x16])), (h6, .inl (cI, 7, .inl f17)), (h5, .inl (cI, 28, .inl f18))]) [0, 1, 2] (by decide) rfl
    exact xr_i (rm := (rmL 3 0 0)) hx hb hr hlocks hAe hS hP9 hD9 (by decide +kernel) (Nat.le_of_ble_eq_true rfl) (Nat.le_of_ble_eq_true rfl) dX0_harmsNone_38 ⟨0, by have zc0 : (0 : Int32).toInt = 0 := (by decide); omega, by have zc0 : (0 : Int32).toInt = 0 := (by decide); omega, rfl, rfl⟩
  · have fc_5 : v_1.toInt ≠ v_3.toInt := i_ne rfl rfl c_5
    refine lv_aload_n hx hb dX0_harmsNone_15 rfl (lv_at hl 0 rfl) ?_
    refine lv_iload_n hx hb dX0_harmsNone_16 rfl (lv_at hl 1 rfl) ?_
    refine lv_iload_n hx hb dX0_harmsNone_17 rfl (lv_at hl 2 rfl) ?_
    refine xc_core (wr := []) (k := 0) (n := 0) (xc_runV (As := [.int x1, .int x2]) (rest := []) hx hb hml hown hts hG hE hP hD hS hA [0, 1, 2] (by decide) rfl (sX0_swapGain_1 l D cB cI cJ cZ aK aV h0 x1 x2 x3 x4 h5 h6 x7 x8 x9 h10 h11 x12 x13 x14 x15 x16 f17 f18 (by omega) (by omega) (by omega) (by omega) (by omega) (by omega) (by omega) (by omega) (by omega) (by omega) (by omega) (by omega) (by omega) (ga0.mono (by omega) (by omega) (by omega))) kw1026 kw1023 kw1025 kw29 kw124 (show XD yX0_swapGain 2 from by decide +kernel) (by decide) rfl rfl 0 rfl hl.1 rfl (Nat.le_of_ble_eq_true rfl) dX0_harmsNone_18 (by decide)) hP hD hS hA [0, 1, 2] [] rfl rfl (by decide) (by decide) (Nat.le_of_ble_eq_true rfl) (Nat.le_of_ble_eq_true rfl) (fun r w1 H locs hpost hP hD hS => ?_)
    obtain ⟨v_6, rfl, rfl⟩ := hpost
    have hP : va_P D vwCl [(h0, .inr (0, [.int x3, .int x4, .ref h5, .ref h6, .int x7, .int x8, .int x9, .ref h10, .ref h11, .int x12, .int x13, .int x14, .int x15, .int x16])), (h6, .inl (cI, 7, .inl f17)), (h5, .inl (cI, 28, .inl f18))] H := hP
    have hD : va_D A [(h0, .inr (0, [.int x3, .int x4, .ref h5, .ref h6, .int x7, .int x8, .int x9, .ref h10, .ref h11, .int x12, .int x13, .int x14, .int x15, .int x16])), (h6, .inl (cI, 7, .inl f17)), (h5, .inl (cI, 28, .inl f18))] := hD
    refine lv_if_lt (tgt := 37) hx hb dX0_harmsNone_21 (by decide) (fun c_7 => ?_) (fun c_7 => ?_)
    · have fc_7 : v_6.toInt < (0 : Int) := i_lt rfl (by decide) c_7
      refine lv_iconst (v := 0) hx hb dX0_harmsNone_37 (by decide +kernel) ?_
      have hP9 := hP.sub (ws' := [(h0, .inr (0, [.int x3, .int x4, .ref h5, .ref h6, .int x7, .int x8, .int x9, .ref h10, .ref h11, .int x12, .int x13, .int x14, .int x15, .int x16])), (h6, .inl (cI, 7, .inl f17)), (h5, .inl (cI, 28, .inl f18))]) [0, 1, 2] rfl
      have hD9 := hD.sub (ws' := [(h0, .inr (0, [.int x3, .int x4, .ref h5, .ref h6, .int x7, .int x8, .int x9, .ref h10, .ref h11, .int x12, .int x13, .int x14, .int x15, .int x16])), (h6, .inl (cI, 7, .inl f17)), (h5, .inl (cI, 28, .inl f18))]) [0, 1, 2] (by decide) rfl
      exact xr_i (rm := (rmL 3 0 0)) hx hb hr hlocks hAe hS hP9 hD9 (by decide +kernel) (Nat.le_of_ble_eq_true rfl) (Nat.le_of_ble_eq_true rfl) dX0_harmsNone_38 ⟨0, by have zc0 : (0 : Int32).toInt = 0 := (by decide); omega, by have zc0 : (0 : Int32).toInt = 0 := (by decide); omega, rfl, rfl⟩
    · have fc_7 : (0 : Int) ≤ v_6.toInt := i_nlt rfl (by decide) c_7
      refine lv_aload_n hx hb dX0_harmsNone_24 rfl (lv_at hl 0 rfl) ?_
      refine lv_iload_n hx hb dX0_harmsNone_25 rfl (lv_at hl 2 rfl) ?_
      refine lv_iload_n hx hb dX0_harmsNone_26 rfl (lv_at hl 1 rfl) ?_
      refine xc_core (wr := []) (k := 0) (n := 0) (xc_runV (As := [.int x2, .int x1]) (rest := []) hx hb hml hown hts hG hE hP hD hS hA [0, 1, 2] (by decide) rfl (sX0_swapGain_1 l D cB cI cJ cZ aK aV h0 x2 x1 x3 x4 h5 h6 x7 x8 x9 h10 h11 x12 x13 x14 x15 x16 f17 f18 (by omega) (by omega) (by omega) (by omega) (by omega) (by omega) (by omega) (by omega) (by omega) (by omega) (by omega) (by omega) (by omega) (ga0.mono (by omega) (by omega) (by omega))) kw1026 kw1023 kw1025 kw29 kw124 (show XD yX0_swapGain 2 from by decide +kernel) (by decide) rfl rfl 0 rfl hl.1 rfl (Nat.le_of_ble_eq_true rfl) dX0_harmsNone_27 (by decide)) hP hD hS hA [0, 1, 2] [] rfl rfl (by decide) (by decide) (Nat.le_of_ble_eq_true rfl) (Nat.le_of_ble_eq_true rfl) (fun r w1 H locs hpost hP hD hS => ?_)
      obtain ⟨v_8, rfl, rfl⟩ := hpost
      have hP : va_P D vwCl [(h0, .inr (0, [.int x3, .int x4, .ref h5, .ref h6, .int x7, .int x8, .int x9, .ref h10, .ref h11, .int x12, .int x13, .int x14, .int x15, .int x16])), (h6, .inl (cI, 7, .inl f17)), (h5, .inl (cI, 28, .inl f18))] H := hP
      have hD : va_D A [(h0, .inr (0, [.int x3, .int x4, .ref h5, .ref h6, .int x7, .int x8, .int x9, .ref h10, .ref h11, .int x12, .int x13, .int x14, .int x15, .int x16])), (h6, .inl (cI, 7, .inl f17)), (h5, .inl (cI, 28, .inl f18))] := hD
      refine lv_if_lt (tgt := 37) hx hb dX0_harmsNone_30 (by decide) (fun c_9 => ?_) (fun c_9 => ?_)
      · have fc_9 : v_8.toInt < (0 : Int) := i_lt rfl (by decide) c_9
        refine lv_iconst (v := 0) hx hb dX0_harmsNone_37 (by decide +kernel) ?_
        have hP9 := hP.sub (ws' := [(h0, .inr (0, [.int x3, .int x4, .ref h5, .ref h6, .int x7, .int x8, .int x9, .ref h10, .ref h11, .int x12, .int x13, .int x14, .int x15, .int x16])), (h6, .inl (cI, 7, .inl f17)), (h5, .inl (cI, 28, .inl f18))]) [0, 1, 2] rfl
        have hD9 := hD.sub (ws' := [(h0, .inr (0, [.int x3, .int x4, .ref h5, .ref h6, .int x7, .int x8, .int x9, .ref h10, .ref h11, .int x12, .int x13, .int x14, .int x15, .int x16])), (h6, .inl (cI, 7, .inl f17)), (h5, .inl (cI, 28, .inl f18))]) [0, 1, 2] (by decide) rfl
        exact xr_i (rm := (rmL 3 0 0)) hx hb hr hlocks hAe hS hP9 hD9 (by decide +kernel) (Nat.le_of_ble_eq_true rfl) (Nat.le_of_ble_eq_true rfl) dX0_harmsNone_38 ⟨0, by have zc0 : (0 : Int32).toInt = 0 := (by decide); omega, by have zc0 : (0 : Int32).toInt = 0 := (by decide); omega, rfl, rfl⟩
      · have fc_9 : (0 : Int) ≤ v_8.toInt := i_nlt rfl (by decide) c_9
        refine lv_iconst (v := 1) hx hb dX0_harmsNone_33 (by decide +kernel) ?_
        refine lv_goto (tgt := 38) hx hb dX0_harmsNone_34 (by decide) ?_
        have hP9 := hP.sub (ws' := [(h0, .inr (0, [.int x3, .int x4, .ref h5, .ref h6, .int x7, .int x8, .int x9, .ref h10, .ref h11, .int x12, .int x13, .int x14, .int x15, .int x16])), (h6, .inl (cI, 7, .inl f17)), (h5, .inl (cI, 28, .inl f18))]) [0, 1, 2] rfl
        have hD9 := hD.sub (ws' := [(h0, .inr (0, [.int x3, .int x4, .ref h5, .ref h6, .int x7, .int x8, .int x9, .ref h10, .ref h11, .int x12, .int x13, .int x14, .int x15, .int x16])), (h6, .inl (cI, 7, .inl f17)), (h5, .inl (cI, 28, .inl f18))]) [0, 1, 2] (by decide) rfl
        exact xr_i (rm := (rmL 3 0 0)) hx hb hr hlocks hAe hS hP9 hD9 (by decide +kernel) (Nat.le_of_ble_eq_true rfl) (Nat.le_of_ble_eq_true rfl) dX0_harmsNone_38 ⟨1, by have zc1 : (1 : Int32).toInt = 1 := (by decide); omega, by have zc1 : (1 : Int32).toInt = 1 := (by decide); omega, rfl, rfl⟩
theorem dX0_divideSet_0 : decode cX0_divideSet 0 = .ok (.iconst 0, 1) := by decide +kernel
theorem dX0_divideSet_1 : decode cX0_divideSet 1 = .ok (.istore 4, 2) := by decide +kernel
theorem dX0_divideSet_3 : decode cX0_divideSet 3 = .ok (.iconst 0, 1) := by decide +kernel
theorem dX0_divideSet_4 : decode cX0_divideSet 4 = .ok (.istore 5, 2) := by decide +kernel
theorem dX0_divideSet_6 : decode cX0_divideSet 6 = .ok (.iload 5, 2) := by decide +kernel
theorem dX0_divideSet_8 : decode cX0_divideSet 8 = .ok (.iload_n 3, 1) := by decide +kernel
theorem dX0_divideSet_9 : decode cX0_divideSet 9 = .ok (.if_icmp .gt 109, 3) := by decide +kernel
theorem dX0_divideSet_118 : decode cX0_divideSet 118 = .ok (.return_, 1) := by decide +kernel
theorem dX0_divideSet_12 : decode cX0_divideSet 12 = .ok (.iload 5, 2) := by decide +kernel
theorem dX0_divideSet_14 : decode cX0_divideSet 14 = .ok (.iload_n 3, 1) := by decide +kernel
theorem dX0_divideSet_15 : decode cX0_divideSet 15 = .ok (.iconst (-1), 1) := by decide +kernel
theorem dX0_divideSet_16 : decode cX0_divideSet 16 = .ok (.ixor, 1) := by decide +kernel
theorem dX0_divideSet_17 : decode cX0_divideSet 17 = .ok (.iand, 1) := by decide +kernel
theorem dX0_divideSet_18 : decode cX0_divideSet 18 = .ok (.ifCond .ne 94, 3) := by decide +kernel
theorem dX0_divideSet_112 : decode cX0_divideSet 112 = .ok (.iinc 5 1, 3) := by decide +kernel
theorem dX0_divideSet_115 : decode cX0_divideSet 115 = .ok (.goto (-109), 3) := by decide +kernel
theorem dX0_divideSet_21 : decode cX0_divideSet 21 = .ok (.aload_n 0, 1) := by decide +kernel
theorem dX0_divideSet_22 : decode cX0_divideSet 22 = .ok (.iload_n 1, 1) := by decide +kernel
theorem dX0_divideSet_23 : decode cX0_divideSet 23 = .ok (.iload 5, 2) := by decide +kernel
theorem kw1114 : (.methodLink RX0 104 yX0_worthOfSet : Cond) ∈ gT := gT_of 1114 (by decide +kernel) (by decide +kernel)
theorem kw913 : (.code yX0_worthOfSet cX0_worthOfSet 5 (some .int) : Cond) ∈ gT := gT_of 913 (by decide +kernel) (by decide +kernel)
theorem kw911 : (.instanceMethod yX0_worthOfSet : Cond) ∈ gT := gT_of 911 (by decide +kernel) (by decide +kernel)
theorem kw912 : (.selects RX0 yX0_worthOfSet yX0_worthOfSet : Cond) ∈ gT := gT_of 912 (by decide +kernel) (by decide +kernel)
theorem dX0_divideSet_25 : decode cX0_divideSet 25 = .ok (.invokevirtual 104, 3) := by decide +kernel
theorem dX0_divideSet_28 : decode cX0_divideSet 28 = .ok (.istore 6, 2) := by decide +kernel
theorem dX0_divideSet_30 : decode cX0_divideSet 30 = .ok (.aload_n 0, 1) := by decide +kernel
theorem dX0_divideSet_31 : decode cX0_divideSet 31 = .ok (.iload_n 2, 1) := by decide +kernel
theorem dX0_divideSet_32 : decode cX0_divideSet 32 = .ok (.iload_n 3, 1) := by decide +kernel
theorem dX0_divideSet_33 : decode cX0_divideSet 33 = .ok (.iload 5, 2) := by decide +kernel
theorem dX0_divideSet_35 : decode cX0_divideSet 35 = .ok (.iconst (-1), 1) := by decide +kernel
theorem dX0_divideSet_36 : decode cX0_divideSet 36 = .ok (.ixor, 1) := by decide +kernel
theorem dX0_divideSet_37 : decode cX0_divideSet 37 = .ok (.iand, 1) := by decide +kernel
theorem dX0_divideSet_38 : decode cX0_divideSet 38 = .ok (.invokevirtual 104, 3) := by decide +kernel
theorem dX0_divideSet_41 : decode cX0_divideSet 41 = .ok (.istore 7, 2) := by decide +kernel
theorem dX0_divideSet_43 : decode cX0_divideSet 43 = .ok (.iload 6, 2) := by decide +kernel
theorem dX0_divideSet_45 : decode cX0_divideSet 45 = .ok (.iload 7, 2) := by decide +kernel
theorem kw1115 : (.methodLink RX0 107 Lib.Math.min.name : Cond) ∈ gT := gT_of 1115 (by decide +kernel) (by decide +kernel)
theorem dX0_divideSet_47 : decode cX0_divideSet 47 = .ok (.invokestatic 107, 3) := by decide +kernel
theorem dX0_divideSet_50 : decode cX0_divideSet 50 = .ok (.istore 8, 2) := by decide +kernel
theorem dX0_divideSet_52 : decode cX0_divideSet 52 = .ok (.iload 6, 2) := by decide +kernel
theorem dX0_divideSet_54 : decode cX0_divideSet 54 = .ok (.iload 7, 2) := by decide +kernel
theorem dX0_divideSet_56 : decode cX0_divideSet 56 = .ok (.iadd, 1) := by decide +kernel
theorem dX0_divideSet_57 : decode cX0_divideSet 57 = .ok (.istore 9, 2) := by decide +kernel
theorem dX0_divideSet_59 : decode cX0_divideSet 59 = .ok (.iload 4, 2) := by decide +kernel
theorem dX0_divideSet_61 : decode cX0_divideSet 61 = .ok (.ifCond .eq 30, 3) := by decide +kernel
theorem dX0_divideSet_91 : decode cX0_divideSet 91 = .ok (.iconst 1, 1) := by decide +kernel
theorem dX0_divideSet_92 : decode cX0_divideSet 92 = .ok (.istore 4, 2) := by decide +kernel
theorem dX0_divideSet_94 : decode cX0_divideSet 94 = .ok (.aload_n 0, 1) := by decide +kernel
theorem dX0_divideSet_95 : decode cX0_divideSet 95 = .ok (.iload 5, 2) := by decide +kernel
theorem kw505 : (.fieldLink RX0 116 "SpiceSwaps$Bargains" "part" "I" : Cond) ∈ gT := gT_of 505 (by decide +kernel) (by decide +kernel)
theorem dX0_divideSet_97 : decode cX0_divideSet 97 = .ok (.putfield 116, 3) := by decide +kernel
theorem dX0_divideSet_100 : decode cX0_divideSet 100 = .ok (.aload_n 0, 1) := by decide +kernel
theorem dX0_divideSet_101 : decode cX0_divideSet 101 = .ok (.iload 8, 2) := by decide +kernel
theorem kw507 : (.fieldLink RX0 110 "SpiceSwaps$Bargains" "lesserWorth" "I" : Cond) ∈ gT := gT_of 507 (by decide +kernel) (by decide +kernel)
theorem dX0_divideSet_103 : decode cX0_divideSet 103 = .ok (.putfield 110, 3) := by decide +kernel
theorem dX0_divideSet_106 : decode cX0_divideSet 106 = .ok (.aload_n 0, 1) := by decide +kernel
theorem dX0_divideSet_107 : decode cX0_divideSet 107 = .ok (.iload 9, 2) := by decide +kernel
theorem kw509 : (.fieldLink RX0 113 "SpiceSwaps$Bargains" "bothWorth" "I" : Cond) ∈ gT := gT_of 509 (by decide +kernel) (by decide +kernel)
theorem dX0_divideSet_109 : decode cX0_divideSet 109 = .ok (.putfield 113, 3) := by decide +kernel
theorem dX0_divideSet_64 : decode cX0_divideSet 64 = .ok (.iload 8, 2) := by decide +kernel
theorem dX0_divideSet_66 : decode cX0_divideSet 66 = .ok (.aload_n 0, 1) := by decide +kernel
theorem dX0_divideSet_67 : decode cX0_divideSet 67 = .ok (.getfield 110, 3) := by decide +kernel
theorem dX0_divideSet_70 : decode cX0_divideSet 70 = .ok (.if_icmp .gt 21, 3) := by decide +kernel
theorem dX0_divideSet_73 : decode cX0_divideSet 73 = .ok (.iload 8, 2) := by decide +kernel
theorem dX0_divideSet_75 : decode cX0_divideSet 75 = .ok (.aload_n 0, 1) := by decide +kernel
theorem dX0_divideSet_76 : decode cX0_divideSet 76 = .ok (.getfield 110, 3) := by decide +kernel
theorem dX0_divideSet_79 : decode cX0_divideSet 79 = .ok (.if_icmp .ne 33, 3) := by decide +kernel
theorem dX0_divideSet_82 : decode cX0_divideSet 82 = .ok (.iload 9, 2) := by decide +kernel
theorem dX0_divideSet_84 : decode cX0_divideSet 84 = .ok (.aload_n 0, 1) := by decide +kernel
theorem dX0_divideSet_85 : decode cX0_divideSet 85 = .ok (.getfield 113, 3) := by decide +kernel
theorem dX0_divideSet_88 : decode cX0_divideSet 88 = .ok (.if_icmp .le 24, 3) := by decide +kernel
set_option maxHeartbeats 4000000 in
set_option maxRecDepth 100000 in
theorem sX0_divideSet_1 (l : Launch) (D : va_G) (cB cI cJ cZ : ClassId) (aK aV : Nat → Nat) (h0 : Nat) (x1 : Int32) (x2 : Int32) (x3 : Int32) (x4 : Int32) (x5 : Int32) (h6 : Nat) (h7 : Nat) (x8 : Int32) (x9 : Int32) (x10 : Int32) (h11 : Nat) (h12 : Nat) (x13 : Int32) (x14 : Int32) (x15 : Int32) (x16 : Int32) (x17 : Int32) (f18 : Nat → Int32) (gh0 : 0 ≤ x1.toInt) (gh1 : 0 ≤ -x1.toInt + 3) (gh2 : 0 ≤ x2.toInt) (gh3 : 0 ≤ -x2.toInt + 3) (gh4 : 0 ≤ x3.toInt) (gh5 : 0 ≤ -x3.toInt + 127) (gh6 : 0 ≤ x4.toInt) (gh7 : 0 ≤ -x4.toInt + 4) (gh8 : 0 ≤ x5.toInt) (gh9 : 0 ≤ -x5.toInt + 7) (gh10 : 0 ≤ x9.toInt) (gh11 : 0 ≤ -x9.toInt + 6) (gh12 : 0 ≤ x10.toInt) (gh13 : 0 ≤ -x10.toInt + 6) : MX l yX0_divideSet cX0_divideSet 10 none (rmL 3 0 0) D cB cI cJ cZ aK aV [.ref h0, .int x1, .int x2, .int x3] [(h0, .inr (0, [.int x4, .int x5, .ref h6, .ref h7, .int x8, .int x9, .int x10, .ref h11, .ref h12, .int x13, .int x14, .int x15, .int x16, .int x17])), (h6, .inl (cI, 28, .inl f18))] (fun r w1 => ∃ z1 : Int32, ∃ z2 : Int32, ∃ z3 : Int32, r = none ∧ w1 = [(h0, .inr (0, [.int x4, .int x5, .ref h6, .ref h7, .int x8, .int x9, .int x10, .ref h11, .ref h12, .int x13, .int x14, .int z1, .int z2, .int z3])), (h6, .inl (cI, 28, .inl f18))]) := by
  refine MX.intro (by decide) (Nat.le_of_ble_eq_true rfl) ?_
  intro p e s m below meth c A ls hx hb hr hml hown hlocks hnm hts hG hE hA hS hP hD hl hAe
  have hl : lv_has ls 10 [(0, .ref h0), (1, .int x1), (2, .int x2), (3, .int x3)] := hl
  have hown : s.vm.findClass RX0 = some m.cls := hown
  refine lv_iconst (v := 0) hx hb dX0_divideSet_0 (by decide +kernel) ?_
  refine lv_istore (lv' := [(4, .int 0), (0, .ref h0), (1, .int x1), (2, .int x2), (3, .int x3)]) hx hb dX0_divideSet_1 hl (by decide) rfl (fun ls hl => ?_)
  refine lv_iconst (v := 0) hx hb dX0_divideSet_3 (by decide +kernel) ?_
  refine lv_istore (lv' := [(5, .int 0), (4, .int 0), (0, .ref h0), (1, .int x1), (2, .int x2), (3, .int x3)]) hx hb dX0_divideSet_4 hl (by decide) rfl (fun ls hl => ?_)
  have lp_11 : ∀ (n : Nat) (x_6 x_7 x_8 x_9 x_10 : Int32) (H : Heap) (locs : List Loc) (ls : Array Slot), 0 ≤ x_9.toInt → 0 ≤ -x_9.toInt + 1 → 0 ≤ x_10.toInt - x_9.toInt → 0 ≤ -x_10.toInt + 128 → -x_10.toInt + 128 < n → va_P D vwCl [(h0, .inr (0, [.int x4, .int x5, .ref h6, .ref h7, .int x8, .int x9, .int x10, .ref h11, .ref h12, .int x13, .int x14, .int x_6, .int x_7, .int x_8])), (h6, .inl (cI, 28, .inl f18))] H → va_D A [(h0, .inr (0, [.int x4, .int x5, .ref h6, .ref h7, .int x8, .int x9, .int x10, .ref h11, .ref h12, .int x13, .int x14, .int x_6, .int x_7, .int x_8])), (h6, .inl (cI, 28, .inl f18))] → va_S A s.heap H locs → lv_has ls 10 [(5, .int x_10), (4, .int x_9), (0, .ref h0), (1, .int x1), (2, .int x2), (3, .int x3)] → W p l e (rmL 3 0 0) s m [.ref h0, .int x1, .int x2, .int x3].toArray below meth c H locs 0 0 (ZX D below [.ref h0, .int x1, .int x2, .int x3] s (rmL 3 0 0) [(h0, .inr (0, [.int x4, .int x5, .ref h6, .ref h7, .int x8, .int x9, .int x10, .ref h11, .ref h12, .int x13, .int x14, .int x15, .int x16, .int x17])), (h6, .inl (cI, 28, .inl f18))] (fun r w1 => ∃ z1 : Int32, ∃ z2 : Int32, ∃ z3 : Int32, r = none ∧ w1 = [(h0, .inr (0, [.int x4, .int x5, .ref h6, .ref h7, .int x8, .int x9, .int x10, .ref h11, .ref h12, .int x13, .int x14, .int z1, .int z2, .int z3])), (h6, .inl (cI, 28, .inl f18))])) (F0 m 6 ls []) := by
    intro n
    induction n with
    | zero => intro x_6 x_7 x_8 x_9 x_10 H locs ls g_12 g_13 g_14 g_15 g_16; omega
    | succ n ihlp_11 =>
      intro x_6 x_7 x_8 x_9 x_10 H locs ls g_12 g_13 g_14 g_15 g_16 hP hD hS hl
      refine lv_iload hx hb dX0_divideSet_6 (lv_at hl 0 rfl) ?_
      refine lv_iload_n hx hb dX0_divideSet_8 rfl (lv_at hl 5 rfl) ?_
      refine lv_icmp_gt (tgt := 118) hx hb dX0_divideSet_9 (by decide) (fun c_17 => ?_) (fun c_17 => ?_)
      · have fc_17 : x3.toInt < x_10.toInt := i_lt rfl rfl c_17
        have hP9 := hP.sub (ws' := [(h0, .inr (0, [.int x4, .int x5, .ref h6, .ref h7, .int x8, .int x9, .int x10, .ref h11, .ref h12, .int x13, .int x14, .int x_6, .int x_7, .int x_8])), (h6, .inl (cI, 28, .inl f18))]) [0, 1] rfl
        have hD9 := hD.sub (ws' := [(h0, .inr (0, [.int x4, .int x5, .ref h6, .ref h7, .int x8, .int x9, .int x10, .ref h11, .ref h12, .int x13, .int x14, .int x_6, .int x_7, .int x_8])), (h6, .inl (cI, 28, .inl f18))]) [0, 1] (by decide) rfl
        exact xr_v (rm := (rmL 3 0 0)) hx hb hr hlocks hAe hS hP9 hD9 (Nat.le_of_ble_eq_true rfl) (Nat.le_of_ble_eq_true rfl) dX0_divideSet_118 ⟨x_6, x_7, x_8, rfl, rfl⟩
      · have fc_17 : x_10.toInt ≤ x3.toInt := i_nlt rfl rfl c_17
        refine lv_iload hx hb dX0_divideSet_12 (lv_at hl 0 rfl) ?_
        refine lv_iload_n hx hb dX0_divideSet_14 rfl (lv_at hl 5 rfl) ?_
        refine lv_iconst (v := (-1)) hx hb dX0_divideSet_15 (by decide +kernel) ?_
        refine lv_ixor hx hb dX0_divideSet_16 ?_
        refine xt_any (fun v_18 => ?_)
        refine lv_iand hx hb dX0_divideSet_17 ?_
        refine xt_any (fun v_19 => ?_)
        refine lv_if_ne (tgt := 112) hx hb dX0_divideSet_18 (by decide) (fun c_20 => ?_) (fun c_20 => ?_)
        · have fc_20 : v_19.toInt ≠ (0 : Int) := i_ne rfl (by decide) c_20
          obtain ⟨v_21, ev_21⟩ : ∃ y : Int32, y = x_10 + 1 := ⟨_, rfl⟩
          have gv_21 : v_21.toInt = x_10.toInt + 1 := by
            have zy : (1 : Int32).toInt = 1 := by decide
            rw [ev_21, i32_add (by rw [zy]; omega) (by rw [zy]; omega), zy]
          refine lv_iinc (v := v_21) (lv' := [(5, .int v_21), (4, .int x_9), (0, .ref h0), (1, .int x1), (2, .int x2), (3, .int x3)]) hx hb dX0_divideSet_112 hl (k := 0) rfl (by rw [ev_21]; rfl) (by decide) rfl (fun ls hl => ?_)
          refine lv_goto (tgt := 6) hx hb dX0_divideSet_115 (by decide) ?_
          exact ihlp_11  x_6 x_7 x_8 x_9 v_21 _ _ _ (by omega) (by omega) (by omega) (by omega) (by omega) (hP.sub (ws' := [(h0, .inr (0, [.int x4, .int x5, .ref h6, .ref h7, .int x8, .int x9, .int x10, .ref h11, .ref h12, .int x13, .int x14, .int x_6, .int x_7, .int x_8])), (h6, .inl (cI, 28, .inl f18))]) [0, 1] rfl) (hD.sub (ws' := [(h0, .inr (0, [.int x4, .int x5, .ref h6, .ref h7, .int x8, .int x9, .int x10, .ref h11, .ref h12, .int x13, .int x14, .int x_6, .int x_7, .int x_8])), (h6, .inl (cI, 28, .inl f18))]) [0, 1] (by decide) rfl) hS (lv_sub hl [0, 1, 2, 3, 4, 5] rfl)
        · have fc_20 : v_19.toInt = (0 : Int) := i_eq rfl (by decide) c_20
          refine lv_aload_n hx hb dX0_divideSet_21 rfl (lv_at hl 2 rfl) ?_
          refine lv_iload_n hx hb dX0_divideSet_22 rfl (lv_at hl 3 rfl) ?_
          refine lv_iload hx hb dX0_divideSet_23 (lv_at hl 0 rfl) ?_
          refine xc_core (wr := []) (k := 0) (n := 0) (xc_runV (As := [.int x1, .int x_10]) (rest := []) hx hb hml hown hts hG hE hP hD hS hA [0, 1] (by decide) rfl (sX0_worthOfSet_1 l D cB cI cJ cZ aK aV h0 x1 x_10 x4 x5 h6 h7 x8 x9 x10 h11 h12 x13 x14 x_6 x_7 x_8 f18 (by omega) (by omega) (by omega) (by omega) (by omega) (by omega) (by omega) (by omega) (by omega) (by omega)) kw913 kw1114 kw911 kw912 kw124 (show XD yX0_worthOfSet 2 from by decide +kernel) (by decide) rfl rfl 0 rfl hl.1 rfl (Nat.le_of_ble_eq_true rfl) dX0_divideSet_25 (by decide)) hP hD hS hA [0, 1] [] rfl rfl (by decide) (by decide) (Nat.le_of_ble_eq_true rfl) (Nat.le_of_ble_eq_true rfl) (fun r w1 H locs hpost hP hD hS => ?_)
          obtain ⟨v_22, rfl, rfl⟩ := hpost
          have hP : va_P D vwCl [(h0, .inr (0, [.int x4, .int x5, .ref h6, .ref h7, .int x8, .int x9, .int x10, .ref h11, .ref h12, .int x13, .int x14, .int x_6, .int x_7, .int x_8])), (h6, .inl (cI, 28, .inl f18))] H := hP
          have hD : va_D A [(h0, .inr (0, [.int x4, .int x5, .ref h6, .ref h7, .int x8, .int x9, .int x10, .ref h11, .ref h12, .int x13, .int x14, .int x_6, .int x_7, .int x_8])), (h6, .inl (cI, 28, .inl f18))] := hD
          refine lv_istore (lv' := [(6, .int v_22), (5, .int x_10), (4, .int x_9), (0, .ref h0), (1, .int x1), (2, .int x2), (3, .int x3)]) hx hb dX0_divideSet_28 hl (by decide) rfl (fun ls hl => ?_)
          refine lv_aload_n hx hb dX0_divideSet_30 rfl (lv_at hl 3 rfl) ?_
          refine lv_iload_n hx hb dX0_divideSet_31 rfl (lv_at hl 5 rfl) ?_
          refine lv_iload_n hx hb dX0_divideSet_32 rfl (lv_at hl 6 rfl) ?_
          refine lv_iload hx hb dX0_divideSet_33 (lv_at hl 1 rfl) ?_
          refine lv_iconst (v := (-1)) hx hb dX0_divideSet_35 (by decide +kernel) ?_
          refine lv_ixor hx hb dX0_divideSet_36 ?_
          refine xt_any (fun v_23 => ?_)
          refine lv_iand hx hb dX0_divideSet_37 ?_
          refine xt_any (fun v_24 => ?_)
          refine xc_core (wr := []) (k := 0) (n := 0) (xc_runV (As := [.int x2, .int v_24]) (rest := []) hx hb hml hown hts hG hE hP hD hS hA [0, 1] (by decide) rfl (sX0_worthOfSet_1 l D cB cI cJ cZ aK aV h0 x2 v_24 x4 x5 h6 h7 x8 x9 x10 h11 h12 x13 x14 x_6 x_7 x_8 f18 (by omega) (by omega) (by omega) (by omega) (by omega) (by omega) (by omega) (by omega) (by omega) (by omega)) kw913 kw1114 kw911 kw912 kw124 (show XD yX0_worthOfSet 2 from by decide +kernel) (by decide) rfl rfl 0 rfl hl.1 rfl (Nat.le_of_ble_eq_true rfl) dX0_divideSet_38 (by decide)) hP hD hS hA [0, 1] [] rfl rfl (by decide) (by decide) (Nat.le_of_ble_eq_true rfl) (Nat.le_of_ble_eq_true rfl) (fun r w1 H locs hpost hP hD hS => ?_)
          obtain ⟨v_25, rfl, rfl⟩ := hpost
          have hP : va_P D vwCl [(h0, .inr (0, [.int x4, .int x5, .ref h6, .ref h7, .int x8, .int x9, .int x10, .ref h11, .ref h12, .int x13, .int x14, .int x_6, .int x_7, .int x_8])), (h6, .inl (cI, 28, .inl f18))] H := hP
          have hD : va_D A [(h0, .inr (0, [.int x4, .int x5, .ref h6, .ref h7, .int x8, .int x9, .int x10, .ref h11, .ref h12, .int x13, .int x14, .int x_6, .int x_7, .int x_8])), (h6, .inl (cI, 28, .inl f18))] := hD
          refine lv_istore (lv' := [(7, .int v_25), (6, .int v_22), (5, .int x_10), (4, .int x_9), (0, .ref h0), (1, .int x1), (2, .int x2), (3, .int x3)]) hx hb dX0_divideSet_41 hl (by decide) rfl (fun ls hl => ?_)
          refine lv_iload hx hb dX0_divideSet_43 (lv_at hl 1 rfl) ?_
          refine lv_iload hx hb dX0_divideSet_45 (lv_at hl 0 rfl) ?_
          refine va_mmin hx hb (hml.trans hl.1.symm) hown (hts _ kw1115) (hts _ kw651) (hts _ kw128) (hts _ kw652) (Nat.le_of_ble_eq_true rfl) (Nat.le_of_ble_eq_true rfl) (Nat.le_of_ble_eq_true rfl) (Nat.le_of_ble_eq_true rfl) dX0_divideSet_47 ?_
          refine lv_topi (fun v_26 ev_26 => ?_)
          have g_27 := i32_min rfl rfl ev_26
          refine lv_istore (lv' := [(8, .int v_26), (7, .int v_25), (6, .int v_22), (5, .int x_10), (4, .int x_9), (0, .ref h0), (1, .int x1), (2, .int x2), (3, .int x3)]) hx hb dX0_divideSet_50 hl (by decide) rfl (fun ls hl => ?_)
          refine lv_iload hx hb dX0_divideSet_52 (lv_at hl 2 rfl) ?_
          refine lv_iload hx hb dX0_divideSet_54 (lv_at hl 1 rfl) ?_
          refine lv_iadd hx hb dX0_divideSet_56 ?_
          refine xt_any (fun v_28 => ?_)
          refine lv_istore (lv' := [(9, .int v_28), (8, .int v_26), (7, .int v_25), (6, .int v_22), (5, .int x_10), (4, .int x_9), (0, .ref h0), (1, .int x1), (2, .int x2), (3, .int x3)]) hx hb dX0_divideSet_57 hl (by decide) rfl (fun ls hl => ?_)
          refine lv_iload hx hb dX0_divideSet_59 (lv_at hl 5 rfl) ?_
          refine lv_if_eq (tgt := 91) hx hb dX0_divideSet_61 (by decide) (fun c_29 => ?_) (fun c_29 => ?_)
          · have fc_29 : x_9.toInt = (0 : Int) := i_eq rfl (by decide) c_29
            refine lv_iconst (v := 1) hx hb dX0_divideSet_91 (by decide +kernel) ?_
            refine lv_istore (lv' := [(4, .int 1), (9, .int v_28), (8, .int v_26), (7, .int v_25), (6, .int v_22), (5, .int x_10), (0, .ref h0), (1, .int x1), (2, .int x2), (3, .int x3)]) hx hb dX0_divideSet_92 hl (by decide) rfl (fun ls hl => ?_)
            refine lv_aload_n hx hb dX0_divideSet_94 rfl (lv_at hl 6 rfl) ?_
            refine lv_iload hx hb dX0_divideSet_95 (lv_at hl 5 rfl) ?_
            refine va_put (D := D) (ci := 0) (v := .int x_10) (ty := .int) (C := RX0) (T := TX0) (N := 14) hx hb hts inX0 tyX0 tyX0_ok nmX0 hown hG.1 hP hD hS 0 rfl rfl 11 (by decide) (hts _ kw505) (fun _ h9 => h9) rfl (by decide +kernel) rfl rfl (Nat.le_of_ble_eq_true rfl) dX0_divideSet_97 (fun H locs hP hD hS => ?_)
            have hP : va_P D vwCl [(h0, .inr (0, [.int x4, .int x5, .ref h6, .ref h7, .int x8, .int x9, .int x10, .ref h11, .ref h12, .int x13, .int x14, .int x_10, .int x_7, .int x_8])), (h6, .inl (cI, 28, .inl f18))] H := hP
            have hD : va_D A [(h0, .inr (0, [.int x4, .int x5, .ref h6, .ref h7, .int x8, .int x9, .int x10, .ref h11, .ref h12, .int x13, .int x14, .int x_10, .int x_7, .int x_8])), (h6, .inl (cI, 28, .inl f18))] := hD
            refine lv_aload_n hx hb dX0_divideSet_100 rfl (lv_at hl 6 rfl) ?_
            refine lv_iload hx hb dX0_divideSet_101 (lv_at hl 2 rfl) ?_
            refine va_put (D := D) (ci := 0) (v := .int v_26) (ty := .int) (C := RX0) (T := TX0) (N := 14) hx hb hts inX0 tyX0 tyX0_ok nmX0 hown hG.1 hP hD hS 0 rfl rfl 12 (by decide) (hts _ kw507) (fun _ h9 => h9) rfl (by decide +kernel) rfl rfl (Nat.le_of_ble_eq_true rfl) dX0_divideSet_103 (fun H locs hP hD hS => ?_)
            have hP : va_P D vwCl [(h0, .inr (0, [.int x4, .int x5, .ref h6, .ref h7, .int x8, .int x9, .int x10, .ref h11, .ref h12, .int x13, .int x14, .int x_10, .int v_26, .int x_8])), (h6, .inl (cI, 28, .inl f18))] H := hP
            have hD : va_D A [(h0, .inr (0, [.int x4, .int x5, .ref h6, .ref h7, .int x8, .int x9, .int x10, .ref h11, .ref h12, .int x13, .int x14, .int x_10, .int v_26, .int x_8])), (h6, .inl (cI, 28, .inl f18))] := hD
            refine lv_aload_n hx hb dX0_divideSet_106 rfl (lv_at hl 6 rfl) ?_
            refine lv_iload hx hb dX0_divideSet_107 (lv_at hl 1 rfl) ?_
            refine va_put (D := D) (ci := 0) (v := .int v_28) (ty := .int) (C := RX0) (T := TX0) (N := 14) hx hb hts inX0 tyX0 tyX0_ok nmX0 hown hG.1 hP hD hS 0 rfl rfl 13 (by decide) (hts _ kw509) (fun _ h9 => h9) rfl (by decide +kernel) rfl rfl (Nat.le_of_ble_eq_true rfl) dX0_divideSet_109 (fun H locs hP hD hS => ?_)
            have hP : va_P D vwCl [(h0, .inr (0, [.int x4, .int x5, .ref h6, .ref h7, .int x8, .int x9, .int x10, .ref h11, .ref h12, .int x13, .int x14, .int x_10, .int v_26, .int v_28])), (h6, .inl (cI, 28, .inl f18))] H := hP
            have hD : va_D A [(h0, .inr (0, [.int x4, .int x5, .ref h6, .ref h7, .int x8, .int x9, .int x10, .ref h11, .ref h12, .int x13, .int x14, .int x_10, .int v_26, .int v_28])), (h6, .inl (cI, 28, .inl f18))] := hD
            obtain ⟨v_30, ev_30⟩ : ∃ y : Int32, y = x_10 + 1 := ⟨_, rfl⟩
            have gv_30 : v_30.toInt = x_10.toInt + 1 := by
              have zy : (1 : Int32).toInt = 1 := by decide
              rw [ev_30, i32_add (by rw [zy]; omega) (by rw [zy]; omega), zy]
            refine lv_iinc (v := v_30) (lv' := [(5, .int v_30), (4, .int 1), (9, .int v_28), (8, .int v_26), (7, .int v_25), (6, .int v_22), (0, .ref h0), (1, .int x1), (2, .int x2), (3, .int x3)]) hx hb dX0_divideSet_112 hl (k := 5) rfl (by rw [ev_30]; rfl) (by decide) rfl (fun ls hl => ?_)
            refine lv_goto (tgt := 6) hx hb dX0_divideSet_115 (by decide) ?_
            exact ihlp_11  x_10 v_26 v_28 1 v_30 _ _ _ (by have zc1 : (1 : Int32).toInt = 1 := (by decide); omega) (by have zc1 : (1 : Int32).toInt = 1 := (by decide); omega) (by have zc1 : (1 : Int32).toInt = 1 := (by decide); omega) (by have zc1 : (1 : Int32).toInt = 1 := (by decide); omega) (by have zc1 : (1 : Int32).toInt = 1 := (by decide); omega) (hP.sub (ws' := [(h0, .inr (0, [.int x4, .int x5, .ref h6, .ref h7, .int x8, .int x9, .int x10, .ref h11, .ref h12, .int x13, .int x14, .int x_10, .int v_26, .int v_28])), (h6, .inl (cI, 28, .inl f18))]) [0, 1] rfl) (hD.sub (ws' := [(h0, .inr (0, [.int x4, .int x5, .ref h6, .ref h7, .int x8, .int x9, .int x10, .ref h11, .ref h12, .int x13, .int x14, .int x_10, .int v_26, .int v_28])), (h6, .inl (cI, 28, .inl f18))]) [0, 1] (by decide) rfl) hS (lv_sub hl [0, 1, 6, 7, 8, 9] rfl)
          · have fc_29 : x_9.toInt ≠ (0 : Int) := i_ne rfl (by decide) c_29
            refine lv_iload hx hb dX0_divideSet_64 (lv_at hl 1 rfl) ?_
            refine lv_aload_n hx hb dX0_divideSet_66 rfl (lv_at hl 6 rfl) ?_
            refine va_get (D := D) (ci := 0) (v := .int x_7) (C := RX0) (T := TX0) (N := 14) hx hb hts inX0 hown hG.1 hP 0 rfl rfl 12 (by decide) (hts _ kw507) (fun _ h9 => h9) rfl dX0_divideSet_67 ?_
            refine lv_icmp_gt (tgt := 91) hx hb dX0_divideSet_70 (by decide) (fun c_31 => ?_) (fun c_31 => ?_)
            · have fc_31 : x_7.toInt < v_26.toInt := i_lt rfl rfl c_31
              refine lv_iconst (v := 1) hx hb dX0_divideSet_91 (by decide +kernel) ?_
              refine lv_istore (lv' := [(4, .int 1), (9, .int v_28), (8, .int v_26), (7, .int v_25), (6, .int v_22), (5, .int x_10), (0, .ref h0), (1, .int x1), (2, .int x2), (3, .int x3)]) hx hb dX0_divideSet_92 hl (by decide) rfl (fun ls hl => ?_)
              refine lv_aload_n hx hb dX0_divideSet_94 rfl (lv_at hl 6 rfl) ?_
              refine lv_iload hx hb dX0_divideSet_95 (lv_at hl 5 rfl) ?_
              refine va_put (D := D) (ci := 0) (v := .int x_10) (ty := .int) (C := RX0) (T := TX0) (N := 14) hx hb hts inX0 tyX0 tyX0_ok nmX0 hown hG.1 hP hD hS 0 rfl rfl 11 (by decide) (hts _ kw505) (fun _ h9 => h9) rfl (by decide +kernel) rfl rfl (Nat.le_of_ble_eq_true rfl) dX0_divideSet_97 (fun H locs hP hD hS => ?_)
              have hP : va_P D vwCl [(h0, .inr (0, [.int x4, .int x5, .ref h6, .ref h7, .int x8, .int x9, .int x10, .ref h11, .ref h12, .int x13, .int x14, .int x_10, .int x_7, .int x_8])), (h6, .inl (cI, 28, .inl f18))] H := hP
              have hD : va_D A [(h0, .inr (0, [.int x4, .int x5, .ref h6, .ref h7, .int x8, .int x9, .int x10, .ref h11, .ref h12, .int x13, .int x14, .int x_10, .int x_7, .int x_8])), (h6, .inl (cI, 28, .inl f18))] := hD
              refine lv_aload_n hx hb dX0_divideSet_100 rfl (lv_at hl 6 rfl) ?_
              refine lv_iload hx hb dX0_divideSet_101 (lv_at hl 2 rfl) ?_
              refine va_put (D := D) (ci := 0) (v := .int v_26) (ty := .int) (C := RX0) (T := TX0) (N := 14) hx hb hts inX0 tyX0 tyX0_ok nmX0 hown hG.1 hP hD hS 0 rfl rfl 12 (by decide) (hts _ kw507) (fun _ h9 => h9) rfl (by decide +kernel) rfl rfl (Nat.le_of_ble_eq_true rfl) dX0_divideSet_103 (fun H locs hP hD hS => ?_)
              have hP : va_P D vwCl [(h0, .inr (0, [.int x4, .int x5, .ref h6, .ref h7, .int x8, .int x9, .int x10, .ref h11, .ref h12, .int x13, .int x14, .int x_10, .int v_26, .int x_8])), (h6, .inl (cI, 28, .inl f18))] H := hP
              have hD : va_D A [(h0, .inr (0, [.int x4, .int x5, .ref h6, .ref h7, .int x8, .int x9, .int x10, .ref h11, .ref h12, .int x13, .int x14, .int x_10, .int v_26, .int x_8])), (h6, .inl (cI, 28, .inl f18))] := hD
              refine lv_aload_n hx hb dX0_divideSet_106 rfl (lv_at hl 6 rfl) ?_
              refine lv_iload hx hb dX0_divideSet_107 (lv_at hl 1 rfl) ?_
              refine va_put (D := D) (ci := 0) (v := .int v_28) (ty := .int) (C := RX0) (T := TX0) (N := 14) hx hb hts inX0 tyX0 tyX0_ok nmX0 hown hG.1 hP hD hS 0 rfl rfl 13 (by decide) (hts _ kw509) (fun _ h9 => h9) rfl (by decide +kernel) rfl rfl (Nat.le_of_ble_eq_true rfl) dX0_divideSet_109 (fun H locs hP hD hS => ?_)
              have hP : va_P D vwCl [(h0, .inr (0, [.int x4, .int x5, .ref h6, .ref h7, .int x8, .int x9, .int x10, .ref h11, .ref h12, .int x13, .int x14, .int x_10, .int v_26, .int v_28])), (h6, .inl (cI, 28, .inl f18))] H := hP
              have hD : va_D A [(h0, .inr (0, [.int x4, .int x5, .ref h6, .ref h7, .int x8, .int x9, .int x10, .ref h11, .ref h12, .int x13, .int x14, .int x_10, .int v_26, .int v_28])), (h6, .inl (cI, 28, .inl f18))] := hD
              obtain ⟨v_32, ev_32⟩ : ∃ y : Int32, y = x_10 + 1 := ⟨_, rfl⟩
              have gv_32 : v_32.toInt = x_10.toInt + 1 := by
                have zy : (1 : Int32).toInt = 1 := by decide
                rw [ev_32, i32_add (by rw [zy]; omega) (by rw [zy]; omega), zy]
              refine lv_iinc (v := v_32) (lv' := [(5, .int v_32), (4, .int 1), (9, .int v_28), (8, .int v_26), (7, .int v_25), (6, .int v_22), (0, .ref h0), (1, .int x1), (2, .int x2), (3, .int x3)]) hx hb dX0_divideSet_112 hl (k := 5) rfl (by rw [ev_32]; rfl) (by decide) rfl (fun ls hl => ?_)
              refine lv_goto (tgt := 6) hx hb dX0_divideSet_115 (by decide) ?_
              exact ihlp_11  x_10 v_26 v_28 1 v_32 _ _ _ (by have zc1 : (1 : Int32).toInt = 1 := (by decide); omega) (by have zc1 : (1 : Int32).toInt = 1 := (by decide); omega) (by have zc1 : (1 : Int32).toInt = 1 := (by decide); omega) (by have zc1 : (1 : Int32).toInt = 1 := (by decide); omega) (by have zc1 : (1 : Int32).toInt = 1 := (by decide); omega) (hP.sub (ws' := [(h0, .inr (0, [.int x4, .int x5, .ref h6, .ref h7, .int x8, .int x9, .int x10, .ref h11, .ref h12, .int x13, .int x14, .int x_10, .int v_26, .int v_28])), (h6, .inl (cI, 28, .inl f18))]) [0, 1] rfl) (hD.sub (ws' := [(h0, .inr (0, [.int x4, .int x5, .ref h6, .ref h7, .int x8, .int x9, .int x10, .ref h11, .ref h12, .int x13, .int x14, .int x_10, .int v_26, .int v_28])), (h6, .inl (cI, 28, .inl f18))]) [0, 1] (by decide) rfl) hS (lv_sub hl [0, 1, 6, 7, 8, 9] rfl)
            · have fc_31 : v_26.toInt ≤ x_7.toInt := i_nlt rfl rfl c_31
              refine lv_iload hx hb dX0_divideSet_73 (lv_at hl 1 rfl) ?_
              refine lv_aload_n hx hb dX0_divideSet_75 rfl (lv_at hl 6 rfl) ?_
              refine va_get (D := D) (ci := 0) (v := .int x_7) (C := RX0) (T := TX0) (N := 14) hx hb hts inX0 hown hG.1 hP 0 rfl rfl 12 (by decide) (hts _ kw507) (fun _ h9 => h9) rfl dX0_divideSet_76 ?_
              refine lv_icmp_ne (tgt := 112) hx hb dX0_divideSet_79 (by decide) (fun c_33 => ?_) (fun c_33 => ?_)
              · have fc_33 : v_26.toInt ≠ x_7.toInt := i_ne rfl rfl c_33
                obtain ⟨v_34, ev_34⟩ : ∃ y : Int32, y = x_10 + 1 := ⟨_, rfl⟩
                have gv_34 : v_34.toInt = x_10.toInt + 1 := by
                  have zy : (1 : Int32).toInt = 1 := by decide
                  rw [ev_34, i32_add (by rw [zy]; omega) (by rw [zy]; omega), zy]
                refine lv_iinc (v := v_34) (lv' := [(5, .int v_34), (9, .int v_28), (8, .int v_26), (7, .int v_25), (6, .int v_22), (4, .int x_9), (0, .ref h0), (1, .int x1), (2, .int x2), (3, .int x3)]) hx hb dX0_divideSet_112 hl (k := 4) rfl (by rw [ev_34]; rfl) (by decide) rfl (fun ls hl => ?_)
                refine lv_goto (tgt := 6) hx hb dX0_divideSet_115 (by decide) ?_
                exact ihlp_11  x_6 x_7 x_8 x_9 v_34 _ _ _ (by omega) (by omega) (by omega) (by omega) (by omega) (hP.sub (ws' := [(h0, .inr (0, [.int x4, .int x5, .ref h6, .ref h7, .int x8, .int x9, .int x10, .ref h11, .ref h12, .int x13, .int x14, .int x_6, .int x_7, .int x_8])), (h6, .inl (cI, 28, .inl f18))]) [0, 1] rfl) (hD.sub (ws' := [(h0, .inr (0, [.int x4, .int x5, .ref h6, .ref h7, .int x8, .int x9, .int x10, .ref h11, .ref h12, .int x13, .int x14, .int x_6, .int x_7, .int x_8])), (h6, .inl (cI, 28, .inl f18))]) [0, 1] (by decide) rfl) hS (lv_sub hl [0, 5, 6, 7, 8, 9] rfl)
              · have fc_33 : v_26.toInt = x_7.toInt := i_eq rfl rfl c_33
                refine lv_iload hx hb dX0_divideSet_82 (lv_at hl 0 rfl) ?_
                refine lv_aload_n hx hb dX0_divideSet_84 rfl (lv_at hl 6 rfl) ?_
                refine va_get (D := D) (ci := 0) (v := .int x_8) (C := RX0) (T := TX0) (N := 14) hx hb hts inX0 hown hG.1 hP 0 rfl rfl 13 (by decide) (hts _ kw509) (fun _ h9 => h9) rfl dX0_divideSet_85 ?_
                refine lv_icmp_le (tgt := 112) hx hb dX0_divideSet_88 (by decide) (fun c_35 => ?_) (fun c_35 => ?_)
                · have fc_35 : v_28.toInt ≤ x_8.toInt := i_le rfl rfl c_35
                  obtain ⟨v_36, ev_36⟩ : ∃ y : Int32, y = x_10 + 1 := ⟨_, rfl⟩
                  have gv_36 : v_36.toInt = x_10.toInt + 1 := by
                    have zy : (1 : Int32).toInt = 1 := by decide
                    rw [ev_36, i32_add (by rw [zy]; omega) (by rw [zy]; omega), zy]
                  refine lv_iinc (v := v_36) (lv' := [(5, .int v_36), (9, .int v_28), (8, .int v_26), (7, .int v_25), (6, .int v_22), (4, .int x_9), (0, .ref h0), (1, .int x1), (2, .int x2), (3, .int x3)]) hx hb dX0_divideSet_112 hl (k := 4) rfl (by rw [ev_36]; rfl) (by decide) rfl (fun ls hl => ?_)
                  refine lv_goto (tgt := 6) hx hb dX0_divideSet_115 (by decide) ?_
                  exact ihlp_11  x_6 x_7 x_8 x_9 v_36 _ _ _ (by omega) (by omega) (by omega) (by omega) (by omega) (hP.sub (ws' := [(h0, .inr (0, [.int x4, .int x5, .ref h6, .ref h7, .int x8, .int x9, .int x10, .ref h11, .ref h12, .int x13, .int x14, .int x_6, .int x_7, .int x_8])), (h6, .inl (cI, 28, .inl f18))]) [0, 1] rfl) (hD.sub (ws' := [(h0, .inr (0, [.int x4, .int x5, .ref h6, .ref h7, .int x8, .int x9, .int x10, .ref h11, .ref h12, .int x13, .int x14, .int x_6, .int x_7, .int x_8])), (h6, .inl (cI, 28, .inl f18))]) [0, 1] (by decide) rfl) hS (lv_sub hl [0, 5, 6, 7, 8, 9] rfl)
                · have fc_35 : x_8.toInt < v_28.toInt := i_nle rfl rfl c_35
                  refine lv_iconst (v := 1) hx hb dX0_divideSet_91 (by decide +kernel) ?_
                  refine lv_istore (lv' := [(4, .int 1), (9, .int v_28), (8, .int v_26), (7, .int v_25), (6, .int v_22), (5, .int x_10), (0, .ref h0), (1, .int x1), (2, .int x2), (3, .int x3)]) hx hb dX0_divideSet_92 hl (by decide) rfl (fun ls hl => ?_)
                  refine lv_aload_n hx hb dX0_divideSet_94 rfl (lv_at hl 6 rfl) ?_
                  refine lv_iload hx hb dX0_divideSet_95 (lv_at hl 5 rfl) ?_
                  refine va_put (D := D) (ci := 0) (v := .int x_10) (ty := .int) (C := RX0) (T := TX0) (N := 14) hx hb hts inX0 tyX0 tyX0_ok nmX0 hown hG.1 hP hD hS 0 rfl rfl 11 (by decide) (hts _ kw505) (fun _ h9 => h9) rfl (by decide +kernel) rfl rfl (Nat.le_of_ble_eq_true rfl) dX0_divideSet_97 (fun H locs hP hD hS => ?_)
                  have hP : va_P D vwCl [(h0, .inr (0, [.int x4, .int x5, .ref h6, .ref h7, .int x8, .int x9, .int x10, .ref h11, .ref h12, .int x13, .int x14, .int x_10, .int x_7, .int x_8])), (h6, .inl (cI, 28, .inl f18))] H := hP
                  have hD : va_D A [(h0, .inr (0, [.int x4, .int x5, .ref h6, .ref h7, .int x8, .int x9, .int x10, .ref h11, .ref h12, .int x13, .int x14, .int x_10, .int x_7, .int x_8])), (h6, .inl (cI, 28, .inl f18))] := hD
                  refine lv_aload_n hx hb dX0_divideSet_100 rfl (lv_at hl 6 rfl) ?_
                  refine lv_iload hx hb dX0_divideSet_101 (lv_at hl 2 rfl) ?_
                  refine va_put (D := D) (ci := 0) (v := .int v_26) (ty := .int) (C := RX0) (T := TX0) (N := 14) hx hb hts inX0 tyX0 tyX0_ok nmX0 hown hG.1 hP hD hS 0 rfl rfl 12 (by decide) (hts _ kw507) (fun _ h9 => h9) rfl (by decide +kernel) rfl rfl (Nat.le_of_ble_eq_true rfl) dX0_divideSet_103 (fun H locs hP hD hS => ?_)
                  have hP : va_P D vwCl [(h0, .inr (0, [.int x4, .int x5, .ref h6, .ref h7, .int x8, .int x9, .int x10, .ref h11, .ref h12, .int x13, .int x14, .int x_10, .int v_26, .int x_8])), (h6, .inl (cI, 28, .inl f18))] H := hP
                  have hD : va_D A [(h0, .inr (0, [.int x4, .int x5, .ref h6, .ref h7, .int x8, .int x9, .int x10, .ref h11, .ref h12, .int x13, .int x14, .int x_10, .int v_26, .int x_8])), (h6, .inl (cI, 28, .inl f18))] := hD
                  refine lv_aload_n hx hb dX0_divideSet_106 rfl (lv_at hl 6 rfl) ?_
                  refine lv_iload hx hb dX0_divideSet_107 (lv_at hl 1 rfl) ?_
                  refine va_put (D := D) (ci := 0) (v := .int v_28) (ty := .int) (C := RX0) (T := TX0) (N := 14) hx hb hts inX0 tyX0 tyX0_ok nmX0 hown hG.1 hP hD hS 0 rfl rfl 13 (by decide) (hts _ kw509) (fun _ h9 => h9) rfl (by decide +kernel) rfl rfl (Nat.le_of_ble_eq_true rfl) dX0_divideSet_109 (fun H locs hP hD hS => ?_)
                  have hP : va_P D vwCl [(h0, .inr (0, [.int x4, .int x5, .ref h6, .ref h7, .int x8, .int x9, .int x10, .ref h11, .ref h12, .int x13, .int x14, .int x_10, .int v_26, .int v_28])), (h6, .inl (cI, 28, .inl f18))] H := hP
                  have hD : va_D A [(h0, .inr (0, [.int x4, .int x5, .ref h6, .ref h7, .int x8, .int x9, .int x10, .ref h11, .ref h12, .int x13, .int x14, .int x_10, .int v_26, .int v_28])), (h6, .inl (cI, 28, .inl f18))] := hD
                  obtain ⟨v_37, ev_37⟩ : ∃ y : Int32, y = x_10 + 1 := ⟨_, rfl⟩
                  have gv_37 : v_37.toInt = x_10.toInt + 1 := by
                    have zy : (1 : Int32).toInt = 1 := by decide
                    rw [ev_37, i32_add (by rw [zy]; omega) (by rw [zy]; omega), zy]
                  refine lv_iinc (v := v_37) (lv' := [(5, .int v_37), (4, .int 1), (9, .int v_28), (8, .int v_26), (7, .int v_25), (6, .int v_22), (0, .ref h0), (1, .int x1), (2, .int x2), (3, .int x3)]) hx hb dX0_divideSet_112 hl (k := 5) rfl (by rw [ev_37]; rfl) (by decide) rfl (fun ls hl => ?_)
                  refine lv_goto (tgt := 6) hx hb dX0_divideSet_115 (by decide) ?_
                  exact ihlp_11  x_10 v_26 v_28 1 v_37 _ _ _ (by have zc1 : (1 : Int32).toInt = 1 := (by decide); omega) (by have zc1 : (1 : Int32).toInt = 1 := (by decide); omega) (by have zc1 : (1 : Int32).toInt = 1 := (by decide); omega) (by have zc1 : (1 : Int32).toInt = 1 := (by decide); omega) (by have zc1 : (1 : Int32).toInt = 1 := (by decide); omega) (hP.sub (ws' := [(h0, .inr (0, [.int x4, .int x5, .ref h6, .ref h7, .int x8, .int x9, .int x10, .ref h11, .ref h12, .int x13, .int x14, .int x_10, .int v_26, .int v_28])), (h6, .inl (cI, 28, .inl f18))]) [0, 1] rfl) (hD.sub (ws' := [(h0, .inr (0, [.int x4, .int x5, .ref h6, .ref h7, .int x8, .int x9, .int x10, .ref h11, .ref h12, .int x13, .int x14, .int x_10, .int v_26, .int v_28])), (h6, .inl (cI, 28, .inl f18))]) [0, 1] (by decide) rfl) hS (lv_sub hl [0, 1, 6, 7, 8, 9] rfl)
  exact lp_11 130 x15 x16 x17 0 0 _ _ _ (by have zc0 : (0 : Int32).toInt = 0 := (by decide); omega) (by have zc0 : (0 : Int32).toInt = 0 := (by decide); omega) (by have zc0 : (0 : Int32).toInt = 0 := (by decide); omega) (by have zc0 : (0 : Int32).toInt = 0 := (by decide); omega) (by have zc0 : (0 : Int32).toInt = 0 := (by decide); omega) (hP.sub (ws' := [(h0, .inr (0, [.int x4, .int x5, .ref h6, .ref h7, .int x8, .int x9, .int x10, .ref h11, .ref h12, .int x13, .int x14, .int x15, .int x16, .int x17])), (h6, .inl (cI, 28, .inl f18))]) [0, 1] rfl) (hD.sub (ws' := [(h0, .inr (0, [.int x4, .int x5, .ref h6, .ref h7, .int x8, .int x9, .int x10, .ref h11, .ref h12, .int x13, .int x14, .int x15, .int x16, .int x17])), (h6, .inl (cI, 28, .inl f18))]) [0, 1] (by decide) rfl) hS (lv_sub hl [0, 1, 2, 3, 4, 5] rfl)
theorem dX0_findSwap_0 : decode cX0_findSwap 0 = .ok (.iconst 0, 1) := by decide +kernel
theorem dX0_findSwap_1 : decode cX0_findSwap 1 = .ok (.istore_n 1, 1) := by decide +kernel
theorem dX0_findSwap_2 : decode cX0_findSwap 2 = .ok (.iconst 0, 1) := by decide +kernel
theorem dX0_findSwap_3 : decode cX0_findSwap 3 = .ok (.istore_n 2, 1) := by decide +kernel
theorem dX0_findSwap_4 : decode cX0_findSwap 4 = .ok (.iload_n 2, 1) := by decide +kernel
theorem dX0_findSwap_5 : decode cX0_findSwap 5 = .ok (.aload_n 0, 1) := by decide +kernel
theorem dX0_findSwap_6 : decode cX0_findSwap 6 = .ok (.getfield 40, 3) := by decide +kernel
theorem dX0_findSwap_9 : decode cX0_findSwap 9 = .ok (.if_icmp .ge 82, 3) := by decide +kernel
theorem dX0_findSwap_91 : decode cX0_findSwap 91 = .ok (.iload_n 1, 1) := by decide +kernel
theorem dX0_findSwap_92 : decode cX0_findSwap 92 = .ok (.ireturn, 1) := by decide +kernel
theorem dX0_findSwap_12 : decode cX0_findSwap 12 = .ok (.iload_n 2, 1) := by decide +kernel
theorem dX0_findSwap_13 : decode cX0_findSwap 13 = .ok (.iconst 1, 1) := by decide +kernel
theorem dX0_findSwap_14 : decode cX0_findSwap 14 = .ok (.iadd, 1) := by decide +kernel
theorem dX0_findSwap_15 : decode cX0_findSwap 15 = .ok (.istore_n 3, 1) := by decide +kernel
theorem dX0_findSwap_16 : decode cX0_findSwap 16 = .ok (.iload_n 3, 1) := by decide +kernel
theorem dX0_findSwap_17 : decode cX0_findSwap 17 = .ok (.aload_n 0, 1) := by decide +kernel
theorem dX0_findSwap_18 : decode cX0_findSwap 18 = .ok (.getfield 40, 3) := by decide +kernel
theorem dX0_findSwap_21 : decode cX0_findSwap 21 = .ok (.if_icmp .ge 64, 3) := by decide +kernel
theorem dX0_findSwap_85 : decode cX0_findSwap 85 = .ok (.iinc 2 1, 3) := by decide +kernel
theorem dX0_findSwap_88 : decode cX0_findSwap 88 = .ok (.goto (-84), 3) := by decide +kernel
theorem dX0_findSwap_24 : decode cX0_findSwap 24 = .ok (.aload_n 0, 1) := by decide +kernel
theorem dX0_findSwap_25 : decode cX0_findSwap 25 = .ok (.iload_n 2, 1) := by decide +kernel
theorem dX0_findSwap_26 : decode cX0_findSwap 26 = .ok (.iload_n 3, 1) := by decide +kernel
theorem kw1019 : (.methodLink RX0 51 yX0_harmsNone : Cond) ∈ gT := gT_of 1019 (by decide +kernel) (by decide +kernel)
theorem kw1022 : (.code yX0_harmsNone cX0_harmsNone 3 (some .boolean) : Cond) ∈ gT := gT_of 1022 (by decide +kernel) (by decide +kernel)
theorem kw1021 : (.instanceMethod yX0_harmsNone : Cond) ∈ gT := gT_of 1021 (by decide +kernel) (by decide +kernel)
theorem kw28 : (.selects RX0 yX0_harmsNone yX0_harmsNone : Cond) ∈ gT := gT_of 28 (by decide +kernel) (by decide +kernel)
theorem dX0_findSwap_27 : decode cX0_findSwap 27 = .ok (.invokevirtual 51, 3) := by decide +kernel
theorem dX0_findSwap_30 : decode cX0_findSwap 30 = .ok (.ifCond .eq 49, 3) := by decide +kernel
theorem dX0_findSwap_79 : decode cX0_findSwap 79 = .ok (.iinc 3 1, 3) := by decide +kernel
theorem dX0_findSwap_82 : decode cX0_findSwap 82 = .ok (.goto (-66), 3) := by decide +kernel
theorem dX0_findSwap_33 : decode cX0_findSwap 33 = .ok (.aload_n 0, 1) := by decide +kernel
theorem dX0_findSwap_34 : decode cX0_findSwap 34 = .ok (.iload_n 2, 1) := by decide +kernel
theorem dX0_findSwap_35 : decode cX0_findSwap 35 = .ok (.iload_n 3, 1) := by decide +kernel
theorem dX0_findSwap_36 : decode cX0_findSwap 36 = .ok (.invokevirtual 55, 3) := by decide +kernel
theorem dX0_findSwap_39 : decode cX0_findSwap 39 = .ok (.aload_n 0, 1) := by decide +kernel
theorem dX0_findSwap_40 : decode cX0_findSwap 40 = .ok (.iload_n 3, 1) := by decide +kernel
theorem dX0_findSwap_41 : decode cX0_findSwap 41 = .ok (.iload_n 2, 1) := by decide +kernel
theorem dX0_findSwap_42 : decode cX0_findSwap 42 = .ok (.invokevirtual 55, 3) := by decide +kernel
theorem dX0_findSwap_45 : decode cX0_findSwap 45 = .ok (.iadd, 1) := by decide +kernel
theorem dX0_findSwap_46 : decode cX0_findSwap 46 = .ok (.istore 4, 2) := by decide +kernel
theorem dX0_findSwap_48 : decode cX0_findSwap 48 = .ok (.iload_n 1, 1) := by decide +kernel
theorem dX0_findSwap_49 : decode cX0_findSwap 49 = .ok (.ifCond .eq 12, 3) := by decide +kernel
theorem dX0_findSwap_61 : decode cX0_findSwap 61 = .ok (.iconst 1, 1) := by decide +kernel
theorem dX0_findSwap_62 : decode cX0_findSwap 62 = .ok (.istore_n 1, 1) := by decide +kernel
theorem dX0_findSwap_63 : decode cX0_findSwap 63 = .ok (.aload_n 0, 1) := by decide +kernel
theorem dX0_findSwap_64 : decode cX0_findSwap 64 = .ok (.iload 4, 2) := by decide +kernel
theorem kw494 : (.fieldLink RX0 58 "SpiceSwaps$Bargains" "swapGains" "I" : Cond) ∈ gT := gT_of 494 (by decide +kernel) (by decide +kernel)
theorem dX0_findSwap_66 : decode cX0_findSwap 66 = .ok (.putfield 58, 3) := by decide +kernel
theorem dX0_findSwap_69 : decode cX0_findSwap 69 = .ok (.aload_n 0, 1) := by decide +kernel
theorem dX0_findSwap_70 : decode cX0_findSwap 70 = .ok (.iload_n 2, 1) := by decide +kernel
theorem kw496 : (.fieldLink RX0 61 "SpiceSwaps$Bargains" "swapLow" "I" : Cond) ∈ gT := gT_of 496 (by decide +kernel) (by decide +kernel)
theorem dX0_findSwap_71 : decode cX0_findSwap 71 = .ok (.putfield 61, 3) := by decide +kernel
theorem dX0_findSwap_74 : decode cX0_findSwap 74 = .ok (.aload_n 0, 1) := by decide +kernel
theorem dX0_findSwap_75 : decode cX0_findSwap 75 = .ok (.iload_n 3, 1) := by decide +kernel
theorem kw498 : (.fieldLink RX0 64 "SpiceSwaps$Bargains" "swapHigh" "I" : Cond) ∈ gT := gT_of 498 (by decide +kernel) (by decide +kernel)
theorem dX0_findSwap_76 : decode cX0_findSwap 76 = .ok (.putfield 64, 3) := by decide +kernel
theorem dX0_findSwap_52 : decode cX0_findSwap 52 = .ok (.iload 4, 2) := by decide +kernel
theorem dX0_findSwap_54 : decode cX0_findSwap 54 = .ok (.aload_n 0, 1) := by decide +kernel
theorem dX0_findSwap_55 : decode cX0_findSwap 55 = .ok (.getfield 58, 3) := by decide +kernel
theorem dX0_findSwap_58 : decode cX0_findSwap 58 = .ok (.if_icmp .le 21, 3) := by decide +kernel
set_option maxHeartbeats 4000000 in
set_option maxRecDepth 100000 in
theorem sX0_findSwap_1 (l : Launch) (D : va_G) (cB cI cJ cZ : ClassId) (aK aV : Nat → Nat) (h0 : Nat) (x1 : Int32) (x2 : Int32) (h3 : Nat) (h4 : Nat) (x5 : Int32) (x6 : Int32) (x7 : Int32) (h8 : Nat) (h9 : Nat) (x10 : Int32) (x11 : Int32) (x12 : Int32) (x13 : Int32) (x14 : Int32) (f15 : Nat → Int32) (f16 : Nat → Int32) (gh0 : 0 ≤ x1.toInt) (gh1 : 0 ≤ -x1.toInt + 4) (gh2 : 0 ≤ x2.toInt) (gh3 : 0 ≤ -x2.toInt + 7) (gh4 : 0 ≤ x6.toInt) (gh5 : 0 ≤ -x6.toInt + 6) (gh6 : 0 ≤ x7.toInt) (gh7 : 0 ≤ -x7.toInt + 6) (ga0 : AR f15 (0) (3) (x2.toInt)) : MX l yX0_findSwap cX0_findSwap 5 (some .boolean) (rmL 4 0 0) D cB cI cJ cZ aK aV [.ref h0] [(h0, .inr (0, [.int x1, .int x2, .ref h3, .ref h4, .int x5, .int x6, .int x7, .ref h8, .ref h9, .int x10, .int x11, .int x12, .int x13, .int x14])), (h4, .inl (cI, 7, .inl f15)), (h3, .inl (cI, 28, .inl f16))] (fun r w1 => ∃ z1 : Int32, ∃ z2 : Int32, ∃ z3 : Int32, ∃ z4 : Int32, 0 ≤ z2.toInt ∧ 0 ≤ -z2.toInt + 6 ∧ 0 ≤ z3.toInt ∧ 0 ≤ -z3.toInt + 6 ∧ 0 ≤ z4.toInt ∧ 0 ≤ -z4.toInt + 1 ∧ 0 ≤ x2.toInt - z2.toInt - 7 * z4.toInt + 6 ∧ 0 ≤ x2.toInt - z3.toInt - 7 * z4.toInt + 6 ∧ r = some (.int z4) ∧ w1 = [(h0, .inr (0, [.int x1, .int x2, .ref h3, .ref h4, .int z1, .int z2, .int z3, .ref h8, .ref h9, .int x10, .int x11, .int x12, .int x13, .int x14])), (h4, .inl (cI, 7, .inl f15)), (h3, .inl (cI, 28, .inl f16))]) := by
  refine MX.intro (by decide) (Nat.le_of_ble_eq_true rfl) ?_
  intro p e s m below meth c A ls hx hb hr hml hown hlocks hnm hts hG hE hA hS hP hD hl hAe
  have hl : lv_has ls 5 [(0, .ref h0)] := hl
  have hown : s.vm.findClass RX0 = some m.cls := hown
  refine lv_iconst (v := 0) hx hb dX0_findSwap_0 (by decide +kernel) ?_
  refine lv_istore_n (lv' := [(1, .int 0), (0, .ref h0)]) hx hb dX0_findSwap_1 rfl hl (by decide) rfl (fun ls hl => ?_)
  refine lv_iconst (v := 0) hx hb dX0_findSwap_2 (by decide +kernel) ?_
  refine lv_istore_n (lv' := [(2, .int 0), (1, .int 0), (0, .ref h0)]) hx hb dX0_findSwap_3 rfl hl (by decide) rfl (fun ls hl => ?_)
  have lp_11 : ∀ (n : Nat) (x_6 x_7 x_8 x_9 x_10 : Int32) (H : Heap) (locs : List Loc) (ls : Array Slot), 0 ≤ x_7.toInt → 0 ≤ -x_7.toInt + 6 → 0 ≤ -x_8.toInt + 6 → 0 ≤ x_9.toInt → 0 ≤ x_8.toInt - x_9.toInt → 0 ≤ x_10.toInt - x_9.toInt → 0 ≤ x2.toInt - x_10.toInt → 0 ≤ x2.toInt - x_7.toInt - 7 * x_9.toInt + 6 → 0 ≤ x2.toInt - x_8.toInt - 7 * x_9.toInt + 6 → -x_10.toInt + 7 < n → va_P D vwCl [(h0, .inr (0, [.int x1, .int x2, .ref h3, .ref h4, .int x_6, .int x_7, .int x_8, .ref h8, .ref h9, .int x10, .int x11, .int x12, .int x13, .int x14])), (h4, .inl (cI, 7, .inl f15)), (h3, .inl (cI, 28, .inl f16))] H → va_D A [(h0, .inr (0, [.int x1, .int x2, .ref h3, .ref h4, .int x_6, .int x_7, .int x_8, .ref h8, .ref h9, .int x10, .int x11, .int x12, .int x13, .int x14])), (h4, .inl (cI, 7, .inl f15)), (h3, .inl (cI, 28, .inl f16))] → va_S A s.heap H locs → lv_has ls 5 [(2, .int x_10), (1, .int x_9), (0, .ref h0)] → W p l e (rmL 4 0 0) s m [.ref h0].toArray below meth c H locs 0 0 (ZX D below [.ref h0] s (rmL 4 0 0) [(h0, .inr (0, [.int x1, .int x2, .ref h3, .ref h4, .int x5, .int x6, .int x7, .ref h8, .ref h9, .int x10, .int x11, .int x12, .int x13, .int x14])), (h4, .inl (cI, 7, .inl f15)), (h3, .inl (cI, 28, .inl f16))] (fun r w1 => ∃ z1 : Int32, ∃ z2 : Int32, ∃ z3 : Int32, ∃ z4 : Int32, 0 ≤ z2.toInt ∧ 0 ≤ -z2.toInt + 6 ∧ 0 ≤ z3.toInt ∧ 0 ≤ -z3.toInt + 6 ∧ 0 ≤ z4.toInt ∧ 0 ≤ -z4.toInt + 1 ∧ 0 ≤ x2.toInt - z2.toInt - 7 * z4.toInt + 6 ∧ 0 ≤ x2.toInt - z3.toInt - 7 * z4.toInt + 6 ∧ r = some (.int z4) ∧ w1 = [(h0, .inr (0, [.int x1, .int x2, .ref h3, .ref h4, .int z1, .int z2, .int z3, .ref h8, .ref h9, .int x10, .int x11, .int x12, .int x13, .int x14])), (h4, .inl (cI, 7, .inl f15)), (h3, .inl (cI, 28, .inl f16))])) (F0 m 4 ls []) := by
    intro n
    induction n with
    | zero => intro x_6 x_7 x_8 x_9 x_10 H locs ls g_12 g_13 g_14 g_15 g_16 g_17 g_18 g_19 g_20 g_21; omega
    | succ n ihlp_11 =>
      intro x_6 x_7 x_8 x_9 x_10 H locs ls g_12 g_13 g_14 g_15 g_16 g_17 g_18 g_19 g_20 g_21 hP hD hS hl
      refine lv_iload_n hx hb dX0_findSwap_4 rfl (lv_at hl 0 rfl) ?_
      refine lv_aload_n hx hb dX0_findSwap_5 rfl (lv_at hl 2 rfl) ?_
      refine va_get (D := D) (ci := 0) (v := .int x2) (C := RX0) (T := TX0) (N := 14) hx hb hts inX0 hown hG.1 hP 0 rfl rfl 1 (by decide) (hts _ kw490) (fun _ h9 => h9) rfl dX0_findSwap_6 ?_
      refine lv_icmp_ge (tgt := 91) hx hb dX0_findSwap_9 (by decide) (fun c_22 => ?_) (fun c_22 => ?_)
      · have fc_22 : x2.toInt ≤ x_10.toInt := i_le rfl rfl c_22
        refine lv_iload_n hx hb dX0_findSwap_91 rfl (lv_at hl 1 rfl) ?_
        have hP9 := hP.sub (ws' := [(h0, .inr (0, [.int x1, .int x2, .ref h3, .ref h4, .int x_6, .int x_7, .int x_8, .ref h8, .ref h9, .int x10, .int x11, .int x12, .int x13, .int x14])), (h4, .inl (cI, 7, .inl f15)), (h3, .inl (cI, 28, .inl f16))]) [0, 1, 2] rfl
        have hD9 := hD.sub (ws' := [(h0, .inr (0, [.int x1, .int x2, .ref h3, .ref h4, .int x_6, .int x_7, .int x_8, .ref h8, .ref h9, .int x10, .int x11, .int x12, .int x13, .int x14])), (h4, .inl (cI, 7, .inl f15)), (h3, .inl (cI, 28, .inl f16))]) [0, 1, 2] (by decide) rfl
        exact xr_i (rm := (rmL 4 0 0)) hx hb hr hlocks hAe hS hP9 hD9 (nar_z (by omega) (by omega)) (Nat.le_of_ble_eq_true rfl) (Nat.le_of_ble_eq_true rfl) dX0_findSwap_92 ⟨x_6, x_7, x_8, x_9, by omega, by omega, by omega, by omega, by omega, by omega, by omega, by omega, rfl, rfl⟩
      · have fc_22 : x_10.toInt < x2.toInt := i_nle rfl rfl c_22
        refine lv_iload_n hx hb dX0_findSwap_12 rfl (lv_at hl 0 rfl) ?_
        refine lv_iconst (v := 1) hx hb dX0_findSwap_13 (by decide +kernel) ?_
        refine lv_iadd hx hb dX0_findSwap_14 ?_
        refine lv_topi (fun v_23 ev_23 => ?_)
        have gv_23 : v_23.toInt = x_10.toInt + (1 : Int) := by
          have zx : (x_10 : Int32).toInt = x_10.toInt := rfl
          have zy : (1 : Int32).toInt = (1 : Int) := (by decide)
          rw [ev_23, i32_add (by rw [zx, zy]; omega) (by rw [zx, zy]; omega), zx, zy]
        refine lv_istore_n (lv' := [(3, .int v_23), (2, .int x_10), (1, .int x_9), (0, .ref h0)]) hx hb dX0_findSwap_15 rfl hl (by decide) rfl (fun ls hl => ?_)
        have lp_34 : ∀ (n : Nat) (x_29 x_30 x_31 x_32 x_33 : Int32) (H : Heap) (locs : List Loc) (ls : Array Slot), 0 ≤ x_30.toInt → 0 ≤ -x_30.toInt + 6 → 0 ≤ -x_31.toInt + 6 → 0 ≤ x_32.toInt - x_9.toInt → 0 ≤ x_31.toInt - x_32.toInt → 0 ≤ x2.toInt - x_33.toInt → 0 ≤ -v_23.toInt + x_33.toInt → 0 ≤ x2.toInt - x_30.toInt - 7 * x_32.toInt + 6 → 0 ≤ x2.toInt - x_31.toInt - 7 * x_32.toInt + 6 → -x_33.toInt + 7 < n → va_P D vwCl [(h0, .inr (0, [.int x1, .int x2, .ref h3, .ref h4, .int x_29, .int x_30, .int x_31, .ref h8, .ref h9, .int x10, .int x11, .int x12, .int x13, .int x14])), (h4, .inl (cI, 7, .inl f15)), (h3, .inl (cI, 28, .inl f16))] H → va_D A [(h0, .inr (0, [.int x1, .int x2, .ref h3, .ref h4, .int x_29, .int x_30, .int x_31, .ref h8, .ref h9, .int x10, .int x11, .int x12, .int x13, .int x14])), (h4, .inl (cI, 7, .inl f15)), (h3, .inl (cI, 28, .inl f16))] → va_S A s.heap H locs → lv_has ls 5 [(3, .int x_33), (2, .int x_10), (1, .int x_32), (0, .ref h0)] → W p l e (rmL 4 0 0) s m [.ref h0].toArray below meth c H locs 0 0 (ZX D below [.ref h0] s (rmL 4 0 0) [(h0, .inr (0, [.int x1, .int x2, .ref h3, .ref h4, .int x5, .int x6, .int x7, .ref h8, .ref h9, .int x10, .int x11, .int x12, .int x13, .int x14])), (h4, .inl (cI, 7, .inl f15)), (h3, .inl (cI, 28, .inl f16))] (fun r w1 => ∃ z1 : Int32, ∃ z2 : Int32, ∃ z3 : Int32, ∃ z4 : Int32, 0 ≤ z2.toInt ∧ 0 ≤ -z2.toInt + 6 ∧ 0 ≤ z3.toInt ∧ 0 ≤ -z3.toInt + 6 ∧ 0 ≤ z4.toInt ∧ 0 ≤ -z4.toInt + 1 ∧ 0 ≤ x2.toInt - z2.toInt - 7 * z4.toInt + 6 ∧ 0 ≤ x2.toInt - z3.toInt - 7 * z4.toInt + 6 ∧ r = some (.int z4) ∧ w1 = [(h0, .inr (0, [.int x1, .int x2, .ref h3, .ref h4, .int z1, .int z2, .int z3, .ref h8, .ref h9, .int x10, .int x11, .int x12, .int x13, .int x14])), (h4, .inl (cI, 7, .inl f15)), (h3, .inl (cI, 28, .inl f16))])) (F0 m 16 ls []) := by
          intro n
          induction n with
          | zero => intro x_29 x_30 x_31 x_32 x_33 H locs ls g_35 g_36 g_37 g_38 g_39 g_40 g_41 g_42 g_43 g_44; omega
          | succ n ihlp_34 =>
            intro x_29 x_30 x_31 x_32 x_33 H locs ls g_35 g_36 g_37 g_38 g_39 g_40 g_41 g_42 g_43 g_44 hP hD hS hl
            refine lv_iload_n hx hb dX0_findSwap_16 rfl (lv_at hl 0 rfl) ?_
            refine lv_aload_n hx hb dX0_findSwap_17 rfl (lv_at hl 3 rfl) ?_
            refine va_get (D := D) (ci := 0) (v := .int x2) (C := RX0) (T := TX0) (N := 14) hx hb hts inX0 hown hG.1 hP 0 rfl rfl 1 (by decide) (hts _ kw490) (fun _ h9 => h9) rfl dX0_findSwap_18 ?_
            refine lv_icmp_ge (tgt := 85) hx hb dX0_findSwap_21 (by decide) (fun c_45 => ?_) (fun c_45 => ?_)
            · have fc_45 : x2.toInt ≤ x_33.toInt := i_le rfl rfl c_45
              obtain ⟨v_46, ev_46⟩ : ∃ y : Int32, y = x_10 + 1 := ⟨_, rfl⟩
              have gv_46 : v_46.toInt = x_10.toInt + 1 := by
                have zy : (1 : Int32).toInt = 1 := by decide
                rw [ev_46, i32_add (by rw [zy]; omega) (by rw [zy]; omega), zy]
              refine lv_iinc (v := v_46) (lv' := [(2, .int v_46), (3, .int x_33), (1, .int x_32), (0, .ref h0)]) hx hb dX0_findSwap_85 hl (k := 1) rfl (by rw [ev_46]; rfl) (by decide) rfl (fun ls hl => ?_)
              refine lv_goto (tgt := 4) hx hb dX0_findSwap_88 (by decide) ?_
              exact ihlp_11  x_29 x_30 x_31 x_32 v_46 _ _ _ (by omega) (by omega) (by omega) (by omega) (by omega) (by omega) (by omega) (by omega) (by omega) (by omega) (hP.sub (ws' := [(h0, .inr (0, [.int x1, .int x2, .ref h3, .ref h4, .int x_29, .int x_30, .int x_31, .ref h8, .ref h9, .int x10, .int x11, .int x12, .int x13, .int x14])), (h4, .inl (cI, 7, .inl f15)), (h3, .inl (cI, 28, .inl f16))]) [0, 1, 2] rfl) (hD.sub (ws' := [(h0, .inr (0, [.int x1, .int x2, .ref h3, .ref h4, .int x_29, .int x_30, .int x_31, .ref h8, .ref h9, .int x10, .int x11, .int x12, .int x13, .int x14])), (h4, .inl (cI, 7, .inl f15)), (h3, .inl (cI, 28, .inl f16))]) [0, 1, 2] (by decide) rfl) hS (lv_sub hl [0, 2, 3] rfl)
            · have fc_45 : x_33.toInt < x2.toInt := i_nle rfl rfl c_45
              refine lv_aload_n hx hb dX0_findSwap_24 rfl (lv_at hl 3 rfl) ?_
              refine lv_iload_n hx hb dX0_findSwap_25 rfl (lv_at hl 1 rfl) ?_
              refine lv_iload_n hx hb dX0_findSwap_26 rfl (lv_at hl 0 rfl) ?_
              refine xc_core (wr := []) (k := 0) (n := 0) (xc_runV (As := [.int x_10, .int x_33]) (rest := []) hx hb hml hown hts hG hE hP hD hS hA [0, 1, 2] (by decide) rfl (sX0_harmsNone_1 l D cB cI cJ cZ aK aV h0 x_10 x_33 x1 x2 h3 h4 x_29 x_30 x_31 h8 h9 x10 x11 x12 x13 x14 f15 f16 (by omega) (by omega) (by omega) (by omega) (by omega) (by omega) (by omega) (by omega) (by omega) (by omega) (by omega) (by omega) (by omega) (by omega) (ga0.mono (by omega) (by omega) (by omega))) kw1022 kw1019 kw1021 kw28 kw124 (show XD yX0_harmsNone 2 from by decide +kernel) (by decide) rfl rfl 0 rfl hl.1 rfl (Nat.le_of_ble_eq_true rfl) dX0_findSwap_27 (by decide)) hP hD hS hA [0, 1, 2] [] rfl rfl (by decide) (by decide) (Nat.le_of_ble_eq_true rfl) (Nat.le_of_ble_eq_true rfl) (fun r w1 H locs hpost hP hD hS => ?_)
              obtain ⟨v_47, g_48, g_49, rfl, rfl⟩ := hpost
              have hP : va_P D vwCl [(h0, .inr (0, [.int x1, .int x2, .ref h3, .ref h4, .int x_29, .int x_30, .int x_31, .ref h8, .ref h9, .int x10, .int x11, .int x12, .int x13, .int x14])), (h4, .inl (cI, 7, .inl f15)), (h3, .inl (cI, 28, .inl f16))] H := hP
              have hD : va_D A [(h0, .inr (0, [.int x1, .int x2, .ref h3, .ref h4, .int x_29, .int x_30, .int x_31, .ref h8, .ref h9, .int x10, .int x11, .int x12, .int x13, .int x14])), (h4, .inl (cI, 7, .inl f15)), (h3, .inl (cI, 28, .inl f16))] := hD
              refine lv_if_eq (tgt := 79) hx hb dX0_findSwap_30 (by decide) (fun c_50 => ?_) (fun c_50 => ?_)
              · have fc_50 : v_47.toInt = (0 : Int) := i_eq rfl (by decide) c_50
                obtain ⟨v_51, ev_51⟩ : ∃ y : Int32, y = x_33 + 1 := ⟨_, rfl⟩
                have gv_51 : v_51.toInt = x_33.toInt + 1 := by
                  have zy : (1 : Int32).toInt = 1 := by decide
                  rw [ev_51, i32_add (by rw [zy]; omega) (by rw [zy]; omega), zy]
                refine lv_iinc (v := v_51) (lv' := [(3, .int v_51), (2, .int x_10), (1, .int x_32), (0, .ref h0)]) hx hb dX0_findSwap_79 hl (k := 0) rfl (by rw [ev_51]; rfl) (by decide) rfl (fun ls hl => ?_)
                refine lv_goto (tgt := 16) hx hb dX0_findSwap_82 (by decide) ?_
                exact ihlp_34  x_29 x_30 x_31 x_32 v_51 _ _ _ (by omega) (by omega) (by omega) (by omega) (by omega) (by omega) (by omega) (by omega) (by omega) (by omega) (hP.sub (ws' := [(h0, .inr (0, [.int x1, .int x2, .ref h3, .ref h4, .int x_29, .int x_30, .int x_31, .ref h8, .ref h9, .int x10, .int x11, .int x12, .int x13, .int x14])), (h4, .inl (cI, 7, .inl f15)), (h3, .inl (cI, 28, .inl f16))]) [0, 1, 2] rfl) (hD.sub (ws' := [(h0, .inr (0, [.int x1, .int x2, .ref h3, .ref h4, .int x_29, .int x_30, .int x_31, .ref h8, .ref h9, .int x10, .int x11, .int x12, .int x13, .int x14])), (h4, .inl (cI, 7, .inl f15)), (h3, .inl (cI, 28, .inl f16))]) [0, 1, 2] (by decide) rfl) hS (lv_sub hl [0, 1, 2, 3] rfl)
              · have fc_50 : v_47.toInt ≠ (0 : Int) := i_ne rfl (by decide) c_50
                refine lv_aload_n hx hb dX0_findSwap_33 rfl (lv_at hl 3 rfl) ?_
                refine lv_iload_n hx hb dX0_findSwap_34 rfl (lv_at hl 1 rfl) ?_
                refine lv_iload_n hx hb dX0_findSwap_35 rfl (lv_at hl 0 rfl) ?_
                refine xc_core (wr := []) (k := 0) (n := 0) (xc_runV (As := [.int x_10, .int x_33]) (rest := []) hx hb hml hown hts hG hE hP hD hS hA [0, 1, 2] (by decide) rfl (sX0_swapGain_1 l D cB cI cJ cZ aK aV h0 x_10 x_33 x1 x2 h3 h4 x_29 x_30 x_31 h8 h9 x10 x11 x12 x13 x14 f15 f16 (by omega) (by omega) (by omega) (by omega) (by omega) (by omega) (by omega) (by omega) (by omega) (by omega) (by omega) (by omega) (by omega) (ga0.mono (by omega) (by omega) (by omega))) kw1026 kw1023 kw1025 kw29 kw124 (show XD yX0_swapGain 2 from by decide +kernel) (by decide) rfl rfl 0 rfl hl.1 rfl (Nat.le_of_ble_eq_true rfl) dX0_findSwap_36 (by decide)) hP hD hS hA [0, 1, 2] [] rfl rfl (by decide) (by decide) (Nat.le_of_ble_eq_true rfl) (Nat.le_of_ble_eq_true rfl) (fun r w1 H locs hpost hP hD hS => ?_)
                obtain ⟨v_52, rfl, rfl⟩ := hpost
                have hP : va_P D vwCl [(h0, .inr (0, [.int x1, .int x2, .ref h3, .ref h4, .int x_29, .int x_30, .int x_31, .ref h8, .ref h9, .int x10, .int x11, .int x12, .int x13, .int x14])), (h4, .inl (cI, 7, .inl f15)), (h3, .inl (cI, 28, .inl f16))] H := hP
                have hD : va_D A [(h0, .inr (0, [.int x1, .int x2, .ref h3, .ref h4, .int x_29, .int x_30, .int x_31, .ref h8, .ref h9, .int x10, .int x11, .int x12, .int x13, .int x14])), (h4, .inl (cI, 7, .inl f15)), (h3, .inl (cI, 28, .inl f16))] := hD
                refine lv_aload_n hx hb dX0_findSwap_39 rfl (lv_at hl 3 rfl) ?_
                refine lv_iload_n hx hb dX0_findSwap_40 rfl (lv_at hl 0 rfl) ?_
                refine lv_iload_n hx hb dX0_findSwap_41 rfl (lv_at hl 1 rfl) ?_
                refine xc_core (wr := []) (k := 0) (n := 0) (xc_runV (As := [.int x_33, .int x_10]) (rest := [.int v_52]) hx hb hml hown hts hG hE hP hD hS hA [0, 1, 2] (by decide) rfl (sX0_swapGain_1 l D cB cI cJ cZ aK aV h0 x_33 x_10 x1 x2 h3 h4 x_29 x_30 x_31 h8 h9 x10 x11 x12 x13 x14 f15 f16 (by omega) (by omega) (by omega) (by omega) (by omega) (by omega) (by omega) (by omega) (by omega) (by omega) (by omega) (by omega) (by omega) (ga0.mono (by omega) (by omega) (by omega))) kw1026 kw1023 kw1025 kw29 kw124 (show XD yX0_swapGain 2 from by decide +kernel) (by decide) rfl rfl 0 rfl hl.1 rfl (Nat.le_of_ble_eq_true rfl) dX0_findSwap_42 (by decide)) hP hD hS hA [0, 1, 2] [] rfl rfl (by decide) (by decide) (Nat.le_of_ble_eq_true rfl) (Nat.le_of_ble_eq_true rfl) (fun r w1 H locs hpost hP hD hS => ?_)
                obtain ⟨v_53, rfl, rfl⟩ := hpost
                have hP : va_P D vwCl [(h0, .inr (0, [.int x1, .int x2, .ref h3, .ref h4, .int x_29, .int x_30, .int x_31, .ref h8, .ref h9, .int x10, .int x11, .int x12, .int x13, .int x14])), (h4, .inl (cI, 7, .inl f15)), (h3, .inl (cI, 28, .inl f16))] H := hP
                have hD : va_D A [(h0, .inr (0, [.int x1, .int x2, .ref h3, .ref h4, .int x_29, .int x_30, .int x_31, .ref h8, .ref h9, .int x10, .int x11, .int x12, .int x13, .int x14])), (h4, .inl (cI, 7, .inl f15)), (h3, .inl (cI, 28, .inl f16))] := hD
                refine lv_iadd hx hb dX0_findSwap_45 ?_
                refine xt_any (fun v_54 => ?_)
                refine lv_istore (lv' := [(4, .int v_54), (3, .int x_33), (2, .int x_10), (1, .int x_32), (0, .ref h0)]) hx hb dX0_findSwap_46 hl (by decide) rfl (fun ls hl => ?_)
                refine lv_iload_n hx hb dX0_findSwap_48 rfl (lv_at hl 3 rfl) ?_
                refine lv_if_eq (tgt := 61) hx hb dX0_findSwap_49 (by decide) (fun c_55 => ?_) (fun c_55 => ?_)
                · have fc_55 : x_32.toInt = (0 : Int) := i_eq rfl (by decide) c_55
                  refine lv_iconst (v := 1) hx hb dX0_findSwap_61 (by decide +kernel) ?_
                  refine lv_istore_n (lv' := [(1, .int 1), (4, .int v_54), (3, .int x_33), (2, .int x_10), (0, .ref h0)]) hx hb dX0_findSwap_62 rfl hl (by decide) rfl (fun ls hl => ?_)
                  refine lv_aload_n hx hb dX0_findSwap_63 rfl (lv_at hl 4 rfl) ?_
                  refine lv_iload hx hb dX0_findSwap_64 (lv_at hl 1 rfl) ?_
                  refine va_put (D := D) (ci := 0) (v := .int v_54) (ty := .int) (C := RX0) (T := TX0) (N := 14) hx hb hts inX0 tyX0 tyX0_ok nmX0 hown hG.1 hP hD hS 0 rfl rfl 4 (by decide) (hts _ kw494) (fun _ h9 => h9) rfl (by decide +kernel) rfl rfl (Nat.le_of_ble_eq_true rfl) dX0_findSwap_66 (fun H locs hP hD hS => ?_)
                  have hP : va_P D vwCl [(h0, .inr (0, [.int x1, .int x2, .ref h3, .ref h4, .int v_54, .int x_30, .int x_31, .ref h8, .ref h9, .int x10, .int x11, .int x12, .int x13, .int x14])), (h4, .inl (cI, 7, .inl f15)), (h3, .inl (cI, 28, .inl f16))] H := hP
                  have hD : va_D A [(h0, .inr (0, [.int x1, .int x2, .ref h3, .ref h4, .int v_54, .int x_30, .int x_31, .ref h8, .ref h9, .int x10, .int x11, .int x12, .int x13, .int x14])), (h4, .inl (cI, 7, .inl f15)), (h3, .inl (cI, 28, .inl f16))] := hD
                  refine lv_aload_n hx hb dX0_findSwap_69 rfl (lv_at hl 4 rfl) ?_
                  refine lv_iload_n hx hb dX0_findSwap_70 rfl (lv_at hl 3 rfl) ?_
                  refine va_put (D := D) (ci := 0) (v := .int x_10) (ty := .int) (C := RX0) (T := TX0) (N := 14) hx hb hts inX0 tyX0 tyX0_ok nmX0 hown hG.1 hP hD hS 0 rfl rfl 5 (by decide) (hts _ kw496) (fun _ h9 => h9) rfl (by decide +kernel) rfl rfl (Nat.le_of_ble_eq_true rfl) dX0_findSwap_71 (fun H locs hP hD hS => ?_)
                  have hP : va_P D vwCl [(h0, .inr (0, [.int x1, .int x2, .ref h3, .ref h4, .int v_54, .int x_10, .int x_31, .ref h8, .ref h9, .int x10, .int x11, .int x12, .int x13, .int x14])), (h4, .inl (cI, 7, .inl f15)), (h3, .inl (cI, 28, .inl f16))] H := hP
                  have hD : va_D A [(h0, .inr (0, [.int x1, .int x2, .ref h3, .ref h4, .int v_54, .int x_10, .int x_31, .ref h8, .ref h9, .int x10, .int x11, .int x12, .int x13, .int x14])), (h4, .inl (cI, 7, .inl f15)), (h3, .inl (cI, 28, .inl f16))] := hD
                  refine lv_aload_n hx hb dX0_findSwap_74 rfl (lv_at hl 4 rfl) ?_
                  refine lv_iload_n hx hb dX0_findSwap_75 rfl (lv_at hl 2 rfl) ?_
                  refine va_put (D := D) (ci := 0) (v := .int x_33) (ty := .int) (C := RX0) (T := TX0) (N := 14) hx hb hts inX0 tyX0 tyX0_ok nmX0 hown hG.1 hP hD hS 0 rfl rfl 6 (by decide) (hts _ kw498) (fun _ h9 => h9) rfl (by decide +kernel) rfl rfl (Nat.le_of_ble_eq_true rfl) dX0_findSwap_76 (fun H locs hP hD hS => ?_)
                  have hP : va_P D vwCl [(h0, .inr (0, [.int x1, .int x2, .ref h3, .ref h4, .int v_54, .int x_10, .int x_33, .ref h8, .ref h9, .int x10, .int x11, .int x12, .int x13, .int x14])), (h4, .inl (cI, 7, .inl f15)), (h3, .inl (cI, 28, .inl f16))] H := hP
                  have hD : va_D A [(h0, .inr (0, [.int x1, .int x2, .ref h3, .ref h4, .int v_54, .int x_10, .int x_33, .ref h8, .ref h9, .int x10, .int x11, .int x12, .int x13, .int x14])), (h4, .inl (cI, 7, .inl f15)), (h3, .inl (cI, 28, .inl f16))] := hD
                  obtain ⟨v_56, ev_56⟩ : ∃ y : Int32, y = x_33 + 1 := ⟨_, rfl⟩
                  have gv_56 : v_56.toInt = x_33.toInt + 1 := by
                    have zy : (1 : Int32).toInt = 1 := by decide
                    rw [ev_56, i32_add (by rw [zy]; omega) (by rw [zy]; omega), zy]
                  refine lv_iinc (v := v_56) (lv' := [(3, .int v_56), (1, .int 1), (4, .int v_54), (2, .int x_10), (0, .ref h0)]) hx hb dX0_findSwap_79 hl (k := 2) rfl (by rw [ev_56]; rfl) (by decide) rfl (fun ls hl => ?_)
                  refine lv_goto (tgt := 16) hx hb dX0_findSwap_82 (by decide) ?_
                  exact ihlp_34  v_54 x_10 x_33 1 v_56 _ _ _ (by have zc1 : (1 : Int32).toInt = 1 := (by decide); omega) (by have zc1 : (1 : Int32).toInt = 1 := (by decide); omega) (by have zc1 : (1 : Int32).toInt = 1 := (by decide); omega) (by have zc1 : (1 : Int32).toInt = 1 := (by decide); omega) (by have zc1 : (1 : Int32).toInt = 1 := (by decide); omega) (by have zc1 : (1 : Int32).toInt = 1 := (by decide); omega) (by have zc1 : (1 : Int32).toInt = 1 := (by decide); omega) (by have zc1 : (1 : Int32).toInt = 1 := (by decide); omega) (by have zc1 : (1 : Int32).toInt = 1 := (by decide); omega) (by have zc1 : (1 : Int32).toInt = 1 := (by decide); omega) (hP.sub (ws' := [(h0, .inr (0, [.int x1, .int x2, .ref h3, .ref h4, .int v_54, .int x_10, .int x_33, .ref h8, .ref h9, .int x10, .int x11, .int x12, .int x13, .int x14])), (h4, .inl (cI, 7, .inl f15)), (h3, .inl (cI, 28, .inl f16))]) [0, 1, 2] rfl) (hD.sub (ws' := [(h0, .inr (0, [.int x1, .int x2, .ref h3, .ref h4, .int v_54, .int x_10, .int x_33, .ref h8, .ref h9, .int x10, .int x11, .int x12, .int x13, .int x14])), (h4, .inl (cI, 7, .inl f15)), (h3, .inl (cI, 28, .inl f16))]) [0, 1, 2] (by decide) rfl) hS (lv_sub hl [0, 3, 1, 4] rfl)
                · have fc_55 : x_32.toInt ≠ (0 : Int) := i_ne rfl (by decide) c_55
                  refine lv_iload hx hb dX0_findSwap_52 (lv_at hl 0 rfl) ?_
                  refine lv_aload_n hx hb dX0_findSwap_54 rfl (lv_at hl 4 rfl) ?_
                  refine va_get (D := D) (ci := 0) (v := .int x_29) (C := RX0) (T := TX0) (N := 14) hx hb hts inX0 hown hG.1 hP 0 rfl rfl 4 (by decide) (hts _ kw494) (fun _ h9 => h9) rfl dX0_findSwap_55 ?_
                  refine lv_icmp_le (tgt := 79) hx hb dX0_findSwap_58 (by decide) (fun c_57 => ?_) (fun c_57 => ?_)
                  · have fc_57 : v_54.toInt ≤ x_29.toInt := i_le rfl rfl c_57
                    obtain ⟨v_58, ev_58⟩ : ∃ y : Int32, y = x_33 + 1 := ⟨_, rfl⟩
                    have gv_58 : v_58.toInt = x_33.toInt + 1 := by
                      have zy : (1 : Int32).toInt = 1 := by decide
                      rw [ev_58, i32_add (by rw [zy]; omega) (by rw [zy]; omega), zy]
                    refine lv_iinc (v := v_58) (lv' := [(3, .int v_58), (4, .int v_54), (2, .int x_10), (1, .int x_32), (0, .ref h0)]) hx hb dX0_findSwap_79 hl (k := 1) rfl (by rw [ev_58]; rfl) (by decide) rfl (fun ls hl => ?_)
                    refine lv_goto (tgt := 16) hx hb dX0_findSwap_82 (by decide) ?_
                    exact ihlp_34  x_29 x_30 x_31 x_32 v_58 _ _ _ (by omega) (by omega) (by omega) (by omega) (by omega) (by omega) (by omega) (by omega) (by omega) (by omega) (hP.sub (ws' := [(h0, .inr (0, [.int x1, .int x2, .ref h3, .ref h4, .int x_29, .int x_30, .int x_31, .ref h8, .ref h9, .int x10, .int x11, .int x12, .int x13, .int x14])), (h4, .inl (cI, 7, .inl f15)), (h3, .inl (cI, 28, .inl f16))]) [0, 1, 2] rfl) (hD.sub (ws' := [(h0, .inr (0, [.int x1, .int x2, .ref h3, .ref h4, .int x_29, .int x_30, .int x_31, .ref h8, .ref h9, .int x10, .int x11, .int x12, .int x13, .int x14])), (h4, .inl (cI, 7, .inl f15)), (h3, .inl (cI, 28, .inl f16))]) [0, 1, 2] (by decide) rfl) hS (lv_sub hl [0, 2, 3, 4] rfl)
                  · have fc_57 : x_29.toInt < v_54.toInt := i_nle rfl rfl c_57
                    refine lv_iconst (v := 1) hx hb dX0_findSwap_61 (by decide +kernel) ?_
                    refine lv_istore_n (lv' := [(1, .int 1), (4, .int v_54), (3, .int x_33), (2, .int x_10), (0, .ref h0)]) hx hb dX0_findSwap_62 rfl hl (by decide) rfl (fun ls hl => ?_)
                    refine lv_aload_n hx hb dX0_findSwap_63 rfl (lv_at hl 4 rfl) ?_
                    refine lv_iload hx hb dX0_findSwap_64 (lv_at hl 1 rfl) ?_
                    refine va_put (D := D) (ci := 0) (v := .int v_54) (ty := .int) (C := RX0) (T := TX0) (N := 14) hx hb hts inX0 tyX0 tyX0_ok nmX0 hown hG.1 hP hD hS 0 rfl rfl 4 (by decide) (hts _ kw494) (fun _ h9 => h9) rfl (by decide +kernel) rfl rfl (Nat.le_of_ble_eq_true rfl) dX0_findSwap_66 (fun H locs hP hD hS => ?_)
                    have hP : va_P D vwCl [(h0, .inr (0, [.int x1, .int x2, .ref h3, .ref h4, .int v_54, .int x_30, .int x_31, .ref h8, .ref h9, .int x10, .int x11, .int x12, .int x13, .int x14])), (h4, .inl (cI, 7, .inl f15)), (h3, .inl (cI, 28, .inl f16))] H := hP
                    have hD : va_D A [(h0, .inr (0, [.int x1, .int x2, .ref h3, .ref h4, .int v_54, .int x_30, .int x_31, .ref h8, .ref h9, .int x10, .int x11, .int x12, .int x13, .int x14])), (h4, .inl (cI, 7, .inl f15)), (h3, .inl (cI, 28, .inl f16))] := hD
                    refine lv_aload_n hx hb dX0_findSwap_69 rfl (lv_at hl 4 rfl) ?_
                    refine lv_iload_n hx hb dX0_findSwap_70 rfl (lv_at hl 3 rfl) ?_
                    refine va_put (D := D) (ci := 0) (v := .int x_10) (ty := .int) (C := RX0) (T := TX0) (N := 14) hx hb hts inX0 tyX0 tyX0_ok nmX0 hown hG.1 hP hD hS 0 rfl rfl 5 (by decide) (hts _ kw496) (fun _ h9 => h9) rfl (by decide +kernel) rfl rfl (Nat.le_of_ble_eq_true rfl) dX0_findSwap_71 (fun H locs hP hD hS => ?_)
                    have hP : va_P D vwCl [(h0, .inr (0, [.int x1, .int x2, .ref h3, .ref h4, .int v_54, .int x_10, .int x_31, .ref h8, .ref h9, .int x10, .int x11, .int x12, .int x13, .int x14])), (h4, .inl (cI, 7, .inl f15)), (h3, .inl (cI, 28, .inl f16))] H := hP
                    have hD : va_D A [(h0, .inr (0, [.int x1, .int x2, .ref h3, .ref h4, .int v_54, .int x_10, .int x_31, .ref h8, .ref h9, .int x10, .int x11, .int x12, .int x13, .int x14])), (h4, .inl (cI, 7, .inl f15)), (h3, .inl (cI, 28, .inl f16))] := hD
                    refine lv_aload_n hx hb dX0_findSwap_74 rfl (lv_at hl 4 rfl) ?_
                    refine lv_iload_n hx hb dX0_findSwap_75 rfl (lv_at hl 2 rfl) ?_
                    refine va_put (D := D) (ci := 0) (v := .int x_33) (ty := .int) (C := RX0) (T := TX0) (N := 14) hx hb hts inX0 tyX0 tyX0_ok nmX0 hown hG.1 hP hD hS 0 rfl rfl 6 (by decide) (hts _ kw498) (fun _ h9 => h9) rfl (by decide +kernel) rfl rfl (Nat.le_of_ble_eq_true rfl) dX0_findSwap_76 (fun H locs hP hD hS => ?_)
                    have hP : va_P D vwCl [(h0, .inr (0, [.int x1, .int x2, .ref h3, .ref h4, .int v_54, .int x_10, .int x_33, .ref h8, .ref h9, .int x10, .int x11, .int x12, .int x13, .int x14])), (h4, .inl (cI, 7, .inl f15)), (h3, .inl (cI, 28, .inl f16))] H := hP
                    have hD : va_D A [(h0, .inr (0, [.int x1, .int x2, .ref h3, .ref h4, .int v_54, .int x_10, .int x_33, .ref h8, .ref h9, .int x10, .int x11, .int x12, .int x13, .int x14])), (h4, .inl (cI, 7, .inl f15)), (h3, .inl (cI, 28, .inl f16))] := hD
                    obtain ⟨v_59, ev_59⟩ : ∃ y : Int32, y = x_33 + 1 := ⟨_, rfl⟩
                    have gv_59 : v_59.toInt = x_33.toInt + 1 := by
                      have zy : (1 : Int32).toInt = 1 := by decide
                      rw [ev_59, i32_add (by rw [zy]; omega) (by rw [zy]; omega), zy]
                    refine lv_iinc (v := v_59) (lv' := [(3, .int v_59), (1, .int 1), (4, .int v_54), (2, .int x_10), (0, .ref h0)]) hx hb dX0_findSwap_79 hl (k := 2) rfl (by rw [ev_59]; rfl) (by decide) rfl (fun ls hl => ?_)
                    refine lv_goto (tgt := 16) hx hb dX0_findSwap_82 (by decide) ?_
                    exact ihlp_34  v_54 x_10 x_33 1 v_59 _ _ _ (by have zc1 : (1 : Int32).toInt = 1 := (by decide); omega) (by have zc1 : (1 : Int32).toInt = 1 := (by decide); omega) (by have zc1 : (1 : Int32).toInt = 1 := (by decide); omega) (by have zc1 : (1 : Int32).toInt = 1 := (by decide); omega) (by have zc1 : (1 : Int32).toInt = 1 := (by decide); omega) (by have zc1 : (1 : Int32).toInt = 1 := (by decide); omega) (by have zc1 : (1 : Int32).toInt = 1 := (by decide); omega) (by have zc1 : (1 : Int32).toInt = 1 := (by decide); omega) (by have zc1 : (1 : Int32).toInt = 1 := (by decide); omega) (by have zc1 : (1 : Int32).toInt = 1 := (by decide); omega) (hP.sub (ws' := [(h0, .inr (0, [.int x1, .int x2, .ref h3, .ref h4, .int v_54, .int x_10, .int x_33, .ref h8, .ref h9, .int x10, .int x11, .int x12, .int x13, .int x14])), (h4, .inl (cI, 7, .inl f15)), (h3, .inl (cI, 28, .inl f16))]) [0, 1, 2] rfl) (hD.sub (ws' := [(h0, .inr (0, [.int x1, .int x2, .ref h3, .ref h4, .int v_54, .int x_10, .int x_33, .ref h8, .ref h9, .int x10, .int x11, .int x12, .int x13, .int x14])), (h4, .inl (cI, 7, .inl f15)), (h3, .inl (cI, 28, .inl f16))]) [0, 1, 2] (by decide) rfl) hS (lv_sub hl [0, 3, 1, 4] rfl)
        exact lp_34 8 x_6 x_7 x_8 x_9 v_23 _ _ _ (by omega) (by omega) (by omega) (by omega) (by omega) (by omega) (by omega) (by omega) (by omega) (by omega) (hP.sub (ws' := [(h0, .inr (0, [.int x1, .int x2, .ref h3, .ref h4, .int x_6, .int x_7, .int x_8, .ref h8, .ref h9, .int x10, .int x11, .int x12, .int x13, .int x14])), (h4, .inl (cI, 7, .inl f15)), (h3, .inl (cI, 28, .inl f16))]) [0, 1, 2] rfl) (hD.sub (ws' := [(h0, .inr (0, [.int x1, .int x2, .ref h3, .ref h4, .int x_6, .int x_7, .int x_8, .ref h8, .ref h9, .int x10, .int x11, .int x12, .int x13, .int x14])), (h4, .inl (cI, 7, .inl f15)), (h3, .inl (cI, 28, .inl f16))]) [0, 1, 2] (by decide) rfl) hS (lv_sub hl [0, 1, 2, 3] rfl)
  exact lp_11 9 x5 x6 x7 0 0 _ _ _ (by have zc0 : (0 : Int32).toInt = 0 := (by decide); omega) (by have zc0 : (0 : Int32).toInt = 0 := (by decide); omega) (by have zc0 : (0 : Int32).toInt = 0 := (by decide); omega) (by have zc0 : (0 : Int32).toInt = 0 := (by decide); omega) (by have zc0 : (0 : Int32).toInt = 0 := (by decide); omega) (by have zc0 : (0 : Int32).toInt = 0 := (by decide); omega) (by have zc0 : (0 : Int32).toInt = 0 := (by decide); omega) (by have zc0 : (0 : Int32).toInt = 0 := (by decide); omega) (by have zc0 : (0 : Int32).toInt = 0 := (by decide); omega) (by have zc0 : (0 : Int32).toInt = 0 := (by decide); omega) (hP.sub (ws' := [(h0, .inr (0, [.int x1, .int x2, .ref h3, .ref h4, .int x5, .int x6, .int x7, .ref h8, .ref h9, .int x10, .int x11, .int x12, .int x13, .int x14])), (h4, .inl (cI, 7, .inl f15)), (h3, .inl (cI, 28, .inl f16))]) [0, 1, 2] rfl) (hD.sub (ws' := [(h0, .inr (0, [.int x1, .int x2, .ref h3, .ref h4, .int x5, .int x6, .int x7, .ref h8, .ref h9, .int x10, .int x11, .int x12, .int x13, .int x14])), (h4, .inl (cI, 7, .inl f15)), (h3, .inl (cI, 28, .inl f16))]) [0, 1, 2] (by decide) rfl) hS (lv_sub hl [0, 1, 2] rfl)
theorem dX0_countSwaps_0 : decode cX0_countSwaps 0 = .ok (.iconst 0, 1) := by decide +kernel
theorem dX0_countSwaps_1 : decode cX0_countSwaps 1 = .ok (.istore_n 1, 1) := by decide +kernel
theorem dX0_countSwaps_2 : decode cX0_countSwaps 2 = .ok (.iconst 0, 1) := by decide +kernel
theorem dX0_countSwaps_3 : decode cX0_countSwaps 3 = .ok (.istore_n 2, 1) := by decide +kernel
theorem dX0_countSwaps_4 : decode cX0_countSwaps 4 = .ok (.iload_n 2, 1) := by decide +kernel
theorem dX0_countSwaps_5 : decode cX0_countSwaps 5 = .ok (.aload_n 0, 1) := by decide +kernel
theorem dX0_countSwaps_6 : decode cX0_countSwaps 6 = .ok (.getfield 40, 3) := by decide +kernel
theorem dX0_countSwaps_9 : decode cX0_countSwaps 9 = .ok (.if_icmp .ge 39, 3) := by decide +kernel
theorem dX0_countSwaps_48 : decode cX0_countSwaps 48 = .ok (.iload_n 1, 1) := by decide +kernel
theorem dX0_countSwaps_49 : decode cX0_countSwaps 49 = .ok (.ireturn, 1) := by decide +kernel
theorem dX0_countSwaps_12 : decode cX0_countSwaps 12 = .ok (.iload_n 2, 1) := by decide +kernel
theorem dX0_countSwaps_13 : decode cX0_countSwaps 13 = .ok (.iconst 1, 1) := by decide +kernel
theorem dX0_countSwaps_14 : decode cX0_countSwaps 14 = .ok (.iadd, 1) := by decide +kernel
theorem dX0_countSwaps_15 : decode cX0_countSwaps 15 = .ok (.istore_n 3, 1) := by decide +kernel
theorem dX0_countSwaps_16 : decode cX0_countSwaps 16 = .ok (.iload_n 3, 1) := by decide +kernel
theorem dX0_countSwaps_17 : decode cX0_countSwaps 17 = .ok (.aload_n 0, 1) := by decide +kernel
theorem dX0_countSwaps_18 : decode cX0_countSwaps 18 = .ok (.getfield 40, 3) := by decide +kernel
theorem dX0_countSwaps_21 : decode cX0_countSwaps 21 = .ok (.if_icmp .ge 21, 3) := by decide +kernel
theorem dX0_countSwaps_42 : decode cX0_countSwaps 42 = .ok (.iinc 2 1, 3) := by decide +kernel
theorem dX0_countSwaps_45 : decode cX0_countSwaps 45 = .ok (.goto (-41), 3) := by decide +kernel
theorem dX0_countSwaps_24 : decode cX0_countSwaps 24 = .ok (.aload_n 0, 1) := by decide +kernel
theorem dX0_countSwaps_25 : decode cX0_countSwaps 25 = .ok (.iload_n 2, 1) := by decide +kernel
theorem dX0_countSwaps_26 : decode cX0_countSwaps 26 = .ok (.iload_n 3, 1) := by decide +kernel
theorem dX0_countSwaps_27 : decode cX0_countSwaps 27 = .ok (.invokevirtual 51, 3) := by decide +kernel
theorem dX0_countSwaps_30 : decode cX0_countSwaps 30 = .ok (.ifCond .eq 6, 3) := by decide +kernel
theorem dX0_countSwaps_36 : decode cX0_countSwaps 36 = .ok (.iinc 3 1, 3) := by decide +kernel
theorem dX0_countSwaps_39 : decode cX0_countSwaps 39 = .ok (.goto (-23), 3) := by decide +kernel
theorem dX0_countSwaps_33 : decode cX0_countSwaps 33 = .ok (.iinc 1 1, 3) := by decide +kernel
set_option maxHeartbeats 4000000 in
set_option maxRecDepth 100000 in
theorem sX0_countSwaps_1 (l : Launch) (D : va_G) (cB cI cJ cZ : ClassId) (aK aV : Nat → Nat) (h0 : Nat) (x1 : Int32) (x2 : Int32) (h3 : Nat) (h4 : Nat) (x5 : Int32) (x6 : Int32) (x7 : Int32) (h8 : Nat) (h9 : Nat) (x10 : Int32) (x11 : Int32) (x12 : Int32) (x13 : Int32) (x14 : Int32) (f15 : Nat → Int32) (f16 : Nat → Int32) (gh0 : 0 ≤ x1.toInt) (gh1 : 0 ≤ -x1.toInt + 4) (gh2 : 0 ≤ x2.toInt) (gh3 : 0 ≤ -x2.toInt + 7) (gh4 : 0 ≤ x6.toInt) (gh5 : 0 ≤ -x6.toInt + 6) (gh6 : 0 ≤ x7.toInt) (gh7 : 0 ≤ -x7.toInt + 6) (ga0 : AR f15 (0) (3) (x2.toInt)) : MX l yX0_countSwaps cX0_countSwaps 4 (some .int) (rmL 4 0 0) D cB cI cJ cZ aK aV [.ref h0] [(h0, .inr (0, [.int x1, .int x2, .ref h3, .ref h4, .int x5, .int x6, .int x7, .ref h8, .ref h9, .int x10, .int x11, .int x12, .int x13, .int x14])), (h4, .inl (cI, 7, .inl f15)), (h3, .inl (cI, 28, .inl f16))] (fun r w1 => ∃ z1 : Int32, r = some (.int z1) ∧ w1 = [(h0, .inr (0, [.int x1, .int x2, .ref h3, .ref h4, .int x5, .int x6, .int x7, .ref h8, .ref h9, .int x10, .int x11, .int x12, .int x13, .int x14])), (h4, .inl (cI, 7, .inl f15)), (h3, .inl (cI, 28, .inl f16))]) := by
  refine MX.intro (by decide) (Nat.le_of_ble_eq_true rfl) ?_
  intro p e s m below meth c A ls hx hb hr hml hown hlocks hnm hts hG hE hA hS hP hD hl hAe
  have hl : lv_has ls 4 [(0, .ref h0)] := hl
  have hown : s.vm.findClass RX0 = some m.cls := hown
  refine lv_iconst (v := 0) hx hb dX0_countSwaps_0 (by decide +kernel) ?_
  refine lv_istore_n (lv' := [(1, .int 0), (0, .ref h0)]) hx hb dX0_countSwaps_1 rfl hl (by decide) rfl (fun ls hl => ?_)
  refine lv_iconst (v := 0) hx hb dX0_countSwaps_2 (by decide +kernel) ?_
  refine lv_istore_n (lv' := [(2, .int 0), (1, .int 0), (0, .ref h0)]) hx hb dX0_countSwaps_3 rfl hl (by decide) rfl (fun ls hl => ?_)
  have lp_5 : ∀ (n : Nat) (x_3 x_4 : Int32) (H : Heap) (locs : List Loc) (ls : Array Slot), 0 ≤ x_4.toInt → 0 ≤ x2.toInt - x_4.toInt → -x_4.toInt + 7 < n → va_P D vwCl [(h0, .inr (0, [.int x1, .int x2, .ref h3, .ref h4, .int x5, .int x6, .int x7, .ref h8, .ref h9, .int x10, .int x11, .int x12, .int x13, .int x14])), (h4, .inl (cI, 7, .inl f15)), (h3, .inl (cI, 28, .inl f16))] H → va_D A [(h0, .inr (0, [.int x1, .int x2, .ref h3, .ref h4, .int x5, .int x6, .int x7, .ref h8, .ref h9, .int x10, .int x11, .int x12, .int x13, .int x14])), (h4, .inl (cI, 7, .inl f15)), (h3, .inl (cI, 28, .inl f16))] → va_S A s.heap H locs → lv_has ls 4 [(2, .int x_4), (1, .int x_3), (0, .ref h0)] → W p l e (rmL 4 0 0) s m [.ref h0].toArray below meth c H locs 0 0 (ZX D below [.ref h0] s (rmL 4 0 0) [(h0, .inr (0, [.int x1, .int x2, .ref h3, .ref h4, .int x5, .int x6, .int x7, .ref h8, .ref h9, .int x10, .int x11, .int x12, .int x13, .int x14])), (h4, .inl (cI, 7, .inl f15)), (h3, .inl (cI, 28, .inl f16))] (fun r w1 => ∃ z1 : Int32, r = some (.int z1) ∧ w1 = [(h0, .inr (0, [.int x1, .int x2, .ref h3, .ref h4, .int x5, .int x6, .int x7, .ref h8, .ref h9, .int x10, .int x11, .int x12, .int x13, .int x14])), (h4, .inl (cI, 7, .inl f15)), (h3, .inl (cI, 28, .inl f16))])) (F0 m 4 ls []) := by
    intro n
    induction n with
    | zero => intro x_3 x_4 H locs ls g_6 g_7 g_8; omega
    | succ n ihlp_5 =>
      intro x_3 x_4 H locs ls g_6 g_7 g_8 hP hD hS hl
      refine lv_iload_n hx hb dX0_countSwaps_4 rfl (lv_at hl 0 rfl) ?_
      refine lv_aload_n hx hb dX0_countSwaps_5 rfl (lv_at hl 2 rfl) ?_
      refine va_get (D := D) (ci := 0) (v := .int x2) (C := RX0) (T := TX0) (N := 14) hx hb hts inX0 hown hG.1 hP 0 rfl rfl 1 (by decide) (hts _ kw490) (fun _ h9 => h9) rfl dX0_countSwaps_6 ?_
      refine lv_icmp_ge (tgt := 48) hx hb dX0_countSwaps_9 (by decide) (fun c_9 => ?_) (fun c_9 => ?_)
      · have fc_9 : x2.toInt ≤ x_4.toInt := i_le rfl rfl c_9
        refine lv_iload_n hx hb dX0_countSwaps_48 rfl (lv_at hl 1 rfl) ?_
        have hP9 := hP.sub (ws' := [(h0, .inr (0, [.int x1, .int x2, .ref h3, .ref h4, .int x5, .int x6, .int x7, .ref h8, .ref h9, .int x10, .int x11, .int x12, .int x13, .int x14])), (h4, .inl (cI, 7, .inl f15)), (h3, .inl (cI, 28, .inl f16))]) [0, 1, 2] rfl
        have hD9 := hD.sub (ws' := [(h0, .inr (0, [.int x1, .int x2, .ref h3, .ref h4, .int x5, .int x6, .int x7, .ref h8, .ref h9, .int x10, .int x11, .int x12, .int x13, .int x14])), (h4, .inl (cI, 7, .inl f15)), (h3, .inl (cI, 28, .inl f16))]) [0, 1, 2] (by decide) rfl
        exact xr_i (rm := (rmL 4 0 0)) hx hb hr hlocks hAe hS hP9 hD9 rfl (Nat.le_of_ble_eq_true rfl) (Nat.le_of_ble_eq_true rfl) dX0_countSwaps_49 ⟨x_3, rfl, rfl⟩
      · have fc_9 : x_4.toInt < x2.toInt := i_nle rfl rfl c_9
        refine lv_iload_n hx hb dX0_countSwaps_12 rfl (lv_at hl 0 rfl) ?_
        refine lv_iconst (v := 1) hx hb dX0_countSwaps_13 (by decide +kernel) ?_
        refine lv_iadd hx hb dX0_countSwaps_14 ?_
        refine lv_topi (fun v_10 ev_10 => ?_)
        have gv_10 : v_10.toInt = x_4.toInt + (1 : Int) := by
          have zx : (x_4 : Int32).toInt = x_4.toInt := rfl
          have zy : (1 : Int32).toInt = (1 : Int) := (by decide)
          rw [ev_10, i32_add (by rw [zx, zy]; omega) (by rw [zx, zy]; omega), zx, zy]
        refine lv_istore_n (lv' := [(3, .int v_10), (2, .int x_4), (1, .int x_3), (0, .ref h0)]) hx hb dX0_countSwaps_15 rfl hl (by decide) rfl (fun ls hl => ?_)
        have lp_15 : ∀ (n : Nat) (x_13 x_14 : Int32) (H : Heap) (locs : List Loc) (ls : Array Slot), 0 ≤ x2.toInt - x_14.toInt → 0 ≤ -v_10.toInt + x_14.toInt → -x_14.toInt + 7 < n → va_P D vwCl [(h0, .inr (0, [.int x1, .int x2, .ref h3, .ref h4, .int x5, .int x6, .int x7, .ref h8, .ref h9, .int x10, .int x11, .int x12, .int x13, .int x14])), (h4, .inl (cI, 7, .inl f15)), (h3, .inl (cI, 28, .inl f16))] H → va_D A [(h0, .inr (0, [.int x1, .int x2, .ref h3, .ref h4, .int x5, .int x6, .int x7, .ref h8, .ref h9, .int x10, .int x11, .int x12, .int x13, .int x14])), (h4, .inl (cI, 7, .inl f15)), (h3, .inl (cI, 28, .inl f16))] → va_S A s.heap H locs → lv_has ls 4 [(3, .int x_14), (2, .int x_4), (1, .int x_13), (0, .ref h0)] → W p l e (rmL 4 0 0) s m [.ref h0].toArray below meth c H locs 0 0 (ZX D below [.ref h0] s (rmL 4 0 0) [(h0, .inr (0, [.int x1, .int x2, .ref h3, .ref h4, .int x5, .int x6, .int x7, .ref h8, .ref h9, .int x10, .int x11, .int x12, .int x13, .int x14])), (h4, .inl (cI, 7, .inl f15)), (h3, .inl (cI, 28, .inl f16))] (fun r w1 => ∃ z1 : Int32, r = some (.int z1) ∧ w1 = [(h0, .inr (0, [.int x1, .int x2, .ref h3, .ref h4, .int x5, .int x6, .int x7, .ref h8, .ref h9, .int x10, .int x11, .int x12, .int x13, .int x14])), (h4, .inl (cI, 7, .inl f15)), (h3, .inl (cI, 28, .inl f16))])) (F0 m 16 ls []) := by
          intro n
          induction n with
          | zero => intro x_13 x_14 H locs ls g_16 g_17 g_18; omega
          | succ n ihlp_15 =>
            intro x_13 x_14 H locs ls g_16 g_17 g_18 hP hD hS hl
            refine lv_iload_n hx hb dX0_countSwaps_16 rfl (lv_at hl 0 rfl) ?_
            refine lv_aload_n hx hb dX0_countSwaps_17 rfl (lv_at hl 3 rfl) ?_
            refine va_get (D := D) (ci := 0) (v := .int x2) (C := RX0) (T := TX0) (N := 14) hx hb hts inX0 hown hG.1 hP 0 rfl rfl 1 (by decide) (hts _ kw490) (fun _ h9 => h9) rfl dX0_countSwaps_18 ?_
            refine lv_icmp_ge (tgt := 42) hx hb dX0_countSwaps_21 (by decide) (fun c_19 => ?_) (fun c_19 => ?_)
            · have fc_19 : x2.toInt ≤ x_14.toInt := i_le rfl rfl c_19
              obtain ⟨v_20, ev_20⟩ : ∃ y : Int32, y = x_4 + 1 := ⟨_, rfl⟩
              have gv_20 : v_20.toInt = x_4.toInt + 1 := by
                have zy : (1 : Int32).toInt = 1 := by decide
                rw [ev_20, i32_add (by rw [zy]; omega) (by rw [zy]; omega), zy]
              refine lv_iinc (v := v_20) (lv' := [(2, .int v_20), (3, .int x_14), (1, .int x_13), (0, .ref h0)]) hx hb dX0_countSwaps_42 hl (k := 1) rfl (by rw [ev_20]; rfl) (by decide) rfl (fun ls hl => ?_)
              refine lv_goto (tgt := 4) hx hb dX0_countSwaps_45 (by decide) ?_
              exact ihlp_5  x_13 v_20 _ _ _ (by omega) (by omega) (by omega) (hP.sub (ws' := [(h0, .inr (0, [.int x1, .int x2, .ref h3, .ref h4, .int x5, .int x6, .int x7, .ref h8, .ref h9, .int x10, .int x11, .int x12, .int x13, .int x14])), (h4, .inl (cI, 7, .inl f15)), (h3, .inl (cI, 28, .inl f16))]) [0, 1, 2] rfl) (hD.sub (ws' := [(h0, .inr (0, [.int x1, .int x2, .ref h3, .ref h4, .int x5, .int x6, .int x7, .ref h8, .ref h9, .int x10, .int x11, .int x12, .int x13, .int x14])), (h4, .inl (cI, 7, .inl f15)), (h3, .inl (cI, 28, .inl f16))]) [0, 1, 2] (by decide) rfl) hS (lv_sub hl [0, 2, 3] rfl)
            · have fc_19 : x_14.toInt < x2.toInt := i_nle rfl rfl c_19
              refine lv_aload_n hx hb dX0_countSwaps_24 rfl (lv_at hl 3 rfl) ?_
              refine lv_iload_n hx hb dX0_countSwaps_25 rfl (lv_at hl 1 rfl) ?_
              refine lv_iload_n hx hb dX0_countSwaps_26 rfl (lv_at hl 0 rfl) ?_
              refine xc_core (wr := []) (k := 0) (n := 0) (xc_runV (As := [.int x_4, .int x_14]) (rest := []) hx hb hml hown hts hG hE hP hD hS hA [0, 1, 2] (by decide) rfl (sX0_harmsNone_1 l D cB cI cJ cZ aK aV h0 x_4 x_14 x1 x2 h3 h4 x5 x6 x7 h8 h9 x10 x11 x12 x13 x14 f15 f16 (by omega) (by omega) (by omega) (by omega) (by omega) (by omega) (by omega) (by omega) (by omega) (by omega) (by omega) (by omega) (by omega) (by omega) (ga0.mono (by omega) (by omega) (by omega))) kw1022 kw1019 kw1021 kw28 kw124 (show XD yX0_harmsNone 2 from by decide +kernel) (by decide) rfl rfl 0 rfl hl.1 rfl (Nat.le_of_ble_eq_true rfl) dX0_countSwaps_27 (by decide)) hP hD hS hA [0, 1, 2] [] rfl rfl (by decide) (by decide) (Nat.le_of_ble_eq_true rfl) (Nat.le_of_ble_eq_true rfl) (fun r w1 H locs hpost hP hD hS => ?_)
              obtain ⟨v_21, g_22, g_23, rfl, rfl⟩ := hpost
              have hP : va_P D vwCl [(h0, .inr (0, [.int x1, .int x2, .ref h3, .ref h4, .int x5, .int x6, .int x7, .ref h8, .ref h9, .int x10, .int x11, .int x12, .int x13, .int x14])), (h4, .inl (cI, 7, .inl f15)), (h3, .inl (cI, 28, .inl f16))] H := hP
              have hD : va_D A [(h0, .inr (0, [.int x1, .int x2, .ref h3, .ref h4, .int x5, .int x6, .int x7, .ref h8, .ref h9, .int x10, .int x11, .int x12, .int x13, .int x14])), (h4, .inl (cI, 7, .inl f15)), (h3, .inl (cI, 28, .inl f16))] := hD
              refine lv_if_eq (tgt := 36) hx hb dX0_countSwaps_30 (by decide) (fun c_24 => ?_) (fun c_24 => ?_)
              · have fc_24 : v_21.toInt = (0 : Int) := i_eq rfl (by decide) c_24
                obtain ⟨v_25, ev_25⟩ : ∃ y : Int32, y = x_14 + 1 := ⟨_, rfl⟩
                have gv_25 : v_25.toInt = x_14.toInt + 1 := by
                  have zy : (1 : Int32).toInt = 1 := by decide
                  rw [ev_25, i32_add (by rw [zy]; omega) (by rw [zy]; omega), zy]
                refine lv_iinc (v := v_25) (lv' := [(3, .int v_25), (2, .int x_4), (1, .int x_13), (0, .ref h0)]) hx hb dX0_countSwaps_36 hl (k := 0) rfl (by rw [ev_25]; rfl) (by decide) rfl (fun ls hl => ?_)
                refine lv_goto (tgt := 16) hx hb dX0_countSwaps_39 (by decide) ?_
                exact ihlp_15  x_13 v_25 _ _ _ (by omega) (by omega) (by omega) (hP.sub (ws' := [(h0, .inr (0, [.int x1, .int x2, .ref h3, .ref h4, .int x5, .int x6, .int x7, .ref h8, .ref h9, .int x10, .int x11, .int x12, .int x13, .int x14])), (h4, .inl (cI, 7, .inl f15)), (h3, .inl (cI, 28, .inl f16))]) [0, 1, 2] rfl) (hD.sub (ws' := [(h0, .inr (0, [.int x1, .int x2, .ref h3, .ref h4, .int x5, .int x6, .int x7, .ref h8, .ref h9, .int x10, .int x11, .int x12, .int x13, .int x14])), (h4, .inl (cI, 7, .inl f15)), (h3, .inl (cI, 28, .inl f16))]) [0, 1, 2] (by decide) rfl) hS (lv_sub hl [0, 1, 2, 3] rfl)
              · have fc_24 : v_21.toInt ≠ (0 : Int) := i_ne rfl (by decide) c_24
                obtain ⟨v_26, ev_26⟩ : ∃ y : Int32, y = x_13 + 1 := ⟨_, rfl⟩
                refine lv_iinc (v := v_26) (lv' := [(1, .int v_26), (3, .int x_14), (2, .int x_4), (0, .ref h0)]) hx hb dX0_countSwaps_33 hl (k := 2) rfl (by rw [ev_26]; rfl) (by decide) rfl (fun ls hl => ?_)
                obtain ⟨v_27, ev_27⟩ : ∃ y : Int32, y = x_14 + 1 := ⟨_, rfl⟩
                have gv_27 : v_27.toInt = x_14.toInt + 1 := by
                  have zy : (1 : Int32).toInt = 1 := by decide
                  rw [ev_27, i32_add (by rw [zy]; omega) (by rw [zy]; omega), zy]
                refine lv_iinc (v := v_27) (lv' := [(3, .int v_27), (1, .int v_26), (2, .int x_4), (0, .ref h0)]) hx hb dX0_countSwaps_36 hl (k := 1) rfl (by rw [ev_27]; rfl) (by decide) rfl (fun ls hl => ?_)
                refine lv_goto (tgt := 16) hx hb dX0_countSwaps_39 (by decide) ?_
                exact ihlp_15  v_26 v_27 _ _ _ (by omega) (by omega) (by omega) (hP.sub (ws' := [(h0, .inr (0, [.int x1, .int x2, .ref h3, .ref h4, .int x5, .int x6, .int x7, .ref h8, .ref h9, .int x10, .int x11, .int x12, .int x13, .int x14])), (h4, .inl (cI, 7, .inl f15)), (h3, .inl (cI, 28, .inl f16))]) [0, 1, 2] rfl) (hD.sub (ws' := [(h0, .inr (0, [.int x1, .int x2, .ref h3, .ref h4, .int x5, .int x6, .int x7, .ref h8, .ref h9, .int x10, .int x11, .int x12, .int x13, .int x14])), (h4, .inl (cI, 7, .inl f15)), (h3, .inl (cI, 28, .inl f16))]) [0, 1, 2] (by decide) rfl) hS (lv_sub hl [0, 2, 1, 3] rfl)
        exact lp_15 8 x_3 v_10 _ _ _ (by omega) (by omega) (by omega) (hP.sub (ws' := [(h0, .inr (0, [.int x1, .int x2, .ref h3, .ref h4, .int x5, .int x6, .int x7, .ref h8, .ref h9, .int x10, .int x11, .int x12, .int x13, .int x14])), (h4, .inl (cI, 7, .inl f15)), (h3, .inl (cI, 28, .inl f16))]) [0, 1, 2] rfl) (hD.sub (ws' := [(h0, .inr (0, [.int x1, .int x2, .ref h3, .ref h4, .int x5, .int x6, .int x7, .ref h8, .ref h9, .int x10, .int x11, .int x12, .int x13, .int x14])), (h4, .inl (cI, 7, .inl f15)), (h3, .inl (cI, 28, .inl f16))]) [0, 1, 2] (by decide) rfl) hS (lv_sub hl [0, 1, 2, 3] rfl)
  exact lp_5 9 0 0 _ _ _ (by have zc0 : (0 : Int32).toInt = 0 := (by decide); omega) (by have zc0 : (0 : Int32).toInt = 0 := (by decide); omega) (by have zc0 : (0 : Int32).toInt = 0 := (by decide); omega) (hP.sub (ws' := [(h0, .inr (0, [.int x1, .int x2, .ref h3, .ref h4, .int x5, .int x6, .int x7, .ref h8, .ref h9, .int x10, .int x11, .int x12, .int x13, .int x14])), (h4, .inl (cI, 7, .inl f15)), (h3, .inl (cI, 28, .inl f16))]) [0, 1, 2] rfl) (hD.sub (ws' := [(h0, .inr (0, [.int x1, .int x2, .ref h3, .ref h4, .int x5, .int x6, .int x7, .ref h8, .ref h9, .int x10, .int x11, .int x12, .int x13, .int x14])), (h4, .inl (cI, 7, .inl f15)), (h3, .inl (cI, 28, .inl f16))]) [0, 1, 2] (by decide) rfl) hS (lv_sub hl [0, 1, 2] rfl)
theorem dX0_findLots_0 : decode cX0_findLots 0 = .ok (.iconst 0, 1) := by decide +kernel
theorem dX0_findLots_1 : decode cX0_findLots 1 = .ok (.istore 4, 2) := by decide +kernel
theorem dX0_findLots_3 : decode cX0_findLots 3 = .ok (.iconst 0, 1) := by decide +kernel
theorem dX0_findLots_4 : decode cX0_findLots 4 = .ok (.istore 5, 2) := by decide +kernel
theorem dX0_findLots_6 : decode cX0_findLots 6 = .ok (.iload 5, 2) := by decide +kernel
theorem dX0_findLots_8 : decode cX0_findLots 8 = .ok (.aload_n 0, 1) := by decide +kernel
theorem dX0_findLots_9 : decode cX0_findLots 9 = .ok (.getfield 40, 3) := by decide +kernel
theorem dX0_findLots_12 : decode cX0_findLots 12 = .ok (.if_icmp .ge 33, 3) := by decide +kernel
theorem dX0_findLots_45 : decode cX0_findLots 45 = .ok (.iconst 0, 1) := by decide +kernel
theorem dX0_findLots_46 : decode cX0_findLots 46 = .ok (.istore 5, 2) := by decide +kernel
theorem dX0_findLots_48 : decode cX0_findLots 48 = .ok (.iconst 0, 1) := by decide +kernel
theorem dX0_findLots_49 : decode cX0_findLots 49 = .ok (.istore 6, 2) := by decide +kernel
theorem dX0_findLots_51 : decode cX0_findLots 51 = .ok (.iload 6, 2) := by decide +kernel
theorem dX0_findLots_53 : decode cX0_findLots 53 = .ok (.iload 4, 2) := by decide +kernel
theorem dX0_findLots_55 : decode cX0_findLots 55 = .ok (.if_icmp .gt 93, 3) := by decide +kernel
theorem dX0_findLots_148 : decode cX0_findLots 148 = .ok (.iload 5, 2) := by decide +kernel
theorem dX0_findLots_150 : decode cX0_findLots 150 = .ok (.ireturn, 1) := by decide +kernel
theorem dX0_findLots_58 : decode cX0_findLots 58 = .ok (.iload 6, 2) := by decide +kernel
theorem dX0_findLots_60 : decode cX0_findLots 60 = .ok (.iload 4, 2) := by decide +kernel
theorem dX0_findLots_62 : decode cX0_findLots 62 = .ok (.iconst (-1), 1) := by decide +kernel
theorem dX0_findLots_63 : decode cX0_findLots 63 = .ok (.ixor, 1) := by decide +kernel
theorem dX0_findLots_64 : decode cX0_findLots 64 = .ok (.iand, 1) := by decide +kernel
theorem dX0_findLots_65 : decode cX0_findLots 65 = .ok (.ifCond .ne 77, 3) := by decide +kernel
theorem dX0_findLots_142 : decode cX0_findLots 142 = .ok (.iinc 6 1, 3) := by decide +kernel
theorem dX0_findLots_145 : decode cX0_findLots 145 = .ok (.goto (-94), 3) := by decide +kernel
theorem dX0_findLots_68 : decode cX0_findLots 68 = .ok (.aload_n 0, 1) := by decide +kernel
theorem dX0_findLots_69 : decode cX0_findLots 69 = .ok (.iload_n 2, 1) := by decide +kernel
theorem dX0_findLots_70 : decode cX0_findLots 70 = .ok (.iload 6, 2) := by decide +kernel
theorem dX0_findLots_72 : decode cX0_findLots 72 = .ok (.invokevirtual 104, 3) := by decide +kernel
theorem dX0_findLots_75 : decode cX0_findLots 75 = .ok (.iload_n 3, 1) := by decide +kernel
theorem dX0_findLots_76 : decode cX0_findLots 76 = .ok (.if_icmp .lt 66, 3) := by decide +kernel
theorem dX0_findLots_79 : decode cX0_findLots 79 = .ok (.aload_n 0, 1) := by decide +kernel
theorem dX0_findLots_80 : decode cX0_findLots 80 = .ok (.iload_n 1, 1) := by decide +kernel
theorem dX0_findLots_81 : decode cX0_findLots 81 = .ok (.iload 6, 2) := by decide +kernel
theorem dX0_findLots_83 : decode cX0_findLots 83 = .ok (.invokevirtual 104, 3) := by decide +kernel
theorem dX0_findLots_86 : decode cX0_findLots 86 = .ok (.istore 7, 2) := by decide +kernel
theorem dX0_findLots_88 : decode cX0_findLots 88 = .ok (.iload 6, 2) := by decide +kernel
theorem kw1124 : (.methodLink RX0 119 yJ6_bitCount_0f7a4 : Cond) ∈ gT := gT_of 1124 (by decide +kernel) (by decide +kernel)
theorem dX0_findLots_90 : decode cX0_findLots 90 = .ok (.invokestatic 119, 3) := by decide +kernel
theorem dX0_findLots_93 : decode cX0_findLots 93 = .ok (.aload_n 0, 1) := by decide +kernel
theorem dX0_findLots_94 : decode cX0_findLots 94 = .ok (.getfield 116, 3) := by decide +kernel
theorem dX0_findLots_97 : decode cX0_findLots 97 = .ok (.invokestatic 119, 3) := by decide +kernel
theorem dX0_findLots_100 : decode cX0_findLots 100 = .ok (.isub, 1) := by decide +kernel
theorem dX0_findLots_101 : decode cX0_findLots 101 = .ok (.istore 8, 2) := by decide +kernel
theorem dX0_findLots_103 : decode cX0_findLots 103 = .ok (.iload 5, 2) := by decide +kernel
theorem dX0_findLots_105 : decode cX0_findLots 105 = .ok (.ifCond .eq 22, 3) := by decide +kernel
theorem dX0_findLots_127 : decode cX0_findLots 127 = .ok (.iconst 1, 1) := by decide +kernel
theorem dX0_findLots_128 : decode cX0_findLots 128 = .ok (.istore 5, 2) := by decide +kernel
theorem dX0_findLots_130 : decode cX0_findLots 130 = .ok (.aload_n 0, 1) := by decide +kernel
theorem dX0_findLots_131 : decode cX0_findLots 131 = .ok (.iload 6, 2) := by decide +kernel
theorem dX0_findLots_133 : decode cX0_findLots 133 = .ok (.putfield 116, 3) := by decide +kernel
theorem dX0_findLots_136 : decode cX0_findLots 136 = .ok (.aload_n 0, 1) := by decide +kernel
theorem dX0_findLots_137 : decode cX0_findLots 137 = .ok (.iload 7, 2) := by decide +kernel
theorem dX0_findLots_139 : decode cX0_findLots 139 = .ok (.putfield 110, 3) := by decide +kernel
theorem dX0_findLots_108 : decode cX0_findLots 108 = .ok (.iload 8, 2) := by decide +kernel
theorem dX0_findLots_110 : decode cX0_findLots 110 = .ok (.ifCond .lt 17, 3) := by decide +kernel
theorem dX0_findLots_113 : decode cX0_findLots 113 = .ok (.iload 8, 2) := by decide +kernel
theorem dX0_findLots_115 : decode cX0_findLots 115 = .ok (.ifCond .ne 27, 3) := by decide +kernel
theorem dX0_findLots_118 : decode cX0_findLots 118 = .ok (.iload 7, 2) := by decide +kernel
theorem dX0_findLots_120 : decode cX0_findLots 120 = .ok (.aload_n 0, 1) := by decide +kernel
theorem dX0_findLots_121 : decode cX0_findLots 121 = .ok (.getfield 110, 3) := by decide +kernel
theorem dX0_findLots_124 : decode cX0_findLots 124 = .ok (.if_icmp .ge 18, 3) := by decide +kernel
theorem dX0_findLots_15 : decode cX0_findLots 15 = .ok (.iload 4, 2) := by decide +kernel
theorem dX0_findLots_17 : decode cX0_findLots 17 = .ok (.aload_n 0, 1) := by decide +kernel
theorem dX0_findLots_18 : decode cX0_findLots 18 = .ok (.getfield 15, 3) := by decide +kernel
theorem dX0_findLots_21 : decode cX0_findLots 21 = .ok (.iload 5, 2) := by decide +kernel
theorem dX0_findLots_23 : decode cX0_findLots 23 = .ok (.iaload, 1) := by decide +kernel
theorem dX0_findLots_24 : decode cX0_findLots 24 = .ok (.iload_n 1, 1) := by decide +kernel
theorem dX0_findLots_25 : decode cX0_findLots 25 = .ok (.if_icmp .ne 10, 3) := by decide +kernel
theorem dX0_findLots_35 : decode cX0_findLots 35 = .ok (.iconst 0, 1) := by decide +kernel
theorem dX0_findLots_36 : decode cX0_findLots 36 = .ok (.ior, 1) := by decide +kernel
theorem dX0_findLots_37 : decode cX0_findLots 37 = .ok (.istore 4, 2) := by decide +kernel
theorem dX0_findLots_39 : decode cX0_findLots 39 = .ok (.iinc 5 1, 3) := by decide +kernel
theorem dX0_findLots_42 : decode cX0_findLots 42 = .ok (.goto (-36), 3) := by decide +kernel
theorem dX0_findLots_28 : decode cX0_findLots 28 = .ok (.iconst 1, 1) := by decide +kernel
theorem dX0_findLots_29 : decode cX0_findLots 29 = .ok (.iload 5, 2) := by decide +kernel
theorem dX0_findLots_31 : decode cX0_findLots 31 = .ok (.ishl, 1) := by decide +kernel
theorem dX0_findLots_32 : decode cX0_findLots 32 = .ok (.goto 4, 3) := by decide +kernel
set_option maxHeartbeats 4000000 in
set_option maxRecDepth 100000 in
theorem sX0_findLots_1 (l : Launch) (D : va_G) (cB cI cJ cZ : ClassId) (aK aV : Nat → Nat) (h0 : Nat) (x1 : Int32) (x2 : Int32) (x3 : Int32) (x4 : Int32) (x5 : Int32) (h6 : Nat) (h7 : Nat) (x8 : Int32) (x9 : Int32) (x10 : Int32) (h11 : Nat) (h12 : Nat) (x13 : Int32) (x14 : Int32) (x15 : Int32) (x16 : Int32) (x17 : Int32) (f18 : Nat → Int32) (f19 : Nat → Int32) (gh0 : 0 ≤ x1.toInt) (gh1 : 0 ≤ -x1.toInt + 3) (gh2 : 0 ≤ x2.toInt) (gh3 : 0 ≤ -x2.toInt + 3) (gh4 : 0 ≤ x4.toInt) (gh5 : 0 ≤ -x4.toInt + 4) (gh6 : 0 ≤ x5.toInt) (gh7 : 0 ≤ -x5.toInt + 7) (gh8 : 0 ≤ x9.toInt) (gh9 : 0 ≤ -x9.toInt + 6) (gh10 : 0 ≤ x10.toInt) (gh11 : 0 ≤ -x10.toInt + 6) (ga0 : AR f18 (0) (3) (x5.toInt)) : MX l yX0_findLots cX0_findLots 9 (some .boolean) (rmL 3 0 0) D cB cI cJ cZ aK aV [.ref h0, .int x1, .int x2, .int x3] [(h0, .inr (0, [.int x4, .int x5, .ref h6, .ref h7, .int x8, .int x9, .int x10, .ref h11, .ref h12, .int x13, .int x14, .int x15, .int x16, .int x17])), (h7, .inl (cI, 7, .inl f18)), (h6, .inl (cI, 28, .inl f19))] (fun r w1 => ∃ z1 : Int32, ∃ z2 : Int32, ∃ z3 : Int32, 0 ≤ z3.toInt ∧ 0 ≤ -z3.toInt + 1 ∧ r = some (.int z3) ∧ w1 = [(h0, .inr (0, [.int x4, .int x5, .ref h6, .ref h7, .int x8, .int x9, .int x10, .ref h11, .ref h12, .int x13, .int x14, .int z1, .int z2, .int x17])), (h7, .inl (cI, 7, .inl f18)), (h6, .inl (cI, 28, .inl f19))]) := by
  refine MX.intro (by decide) (Nat.le_of_ble_eq_true rfl) ?_
  intro p e s m below meth c A ls hx hb hr hml hown hlocks hnm hts hG hE hA hS hP hD hl hAe
  have hl : lv_has ls 9 [(0, .ref h0), (1, .int x1), (2, .int x2), (3, .int x3)] := hl
  have hown : s.vm.findClass RX0 = some m.cls := hown
  refine lv_iconst (v := 0) hx hb dX0_findLots_0 (by decide +kernel) ?_
  refine lv_istore (lv' := [(4, .int 0), (0, .ref h0), (1, .int x1), (2, .int x2), (3, .int x3)]) hx hb dX0_findLots_1 hl (by decide) rfl (fun ls hl => ?_)
  refine lv_iconst (v := 0) hx hb dX0_findLots_3 (by decide +kernel) ?_
  refine lv_istore (lv' := [(5, .int 0), (4, .int 0), (0, .ref h0), (1, .int x1), (2, .int x2), (3, .int x3)]) hx hb dX0_findLots_4 hl (by decide) rfl (fun ls hl => ?_)
  have lp_5 : ∀ (n : Nat) (x_3 x_4 : Int32) (H : Heap) (locs : List Loc) (ls : Array Slot), 0 ≤ x_3.toInt → 0 ≤ -x_3.toInt + 127 → 0 ≤ x_4.toInt → 0 ≤ x5.toInt - x_4.toInt → -x_4.toInt + 7 < n → va_P D vwCl [(h0, .inr (0, [.int x4, .int x5, .ref h6, .ref h7, .int x8, .int x9, .int x10, .ref h11, .ref h12, .int x13, .int x14, .int x15, .int x16, .int x17])), (h7, .inl (cI, 7, .inl f18)), (h6, .inl (cI, 28, .inl f19))] H → va_D A [(h0, .inr (0, [.int x4, .int x5, .ref h6, .ref h7, .int x8, .int x9, .int x10, .ref h11, .ref h12, .int x13, .int x14, .int x15, .int x16, .int x17])), (h7, .inl (cI, 7, .inl f18)), (h6, .inl (cI, 28, .inl f19))] → va_S A s.heap H locs → lv_has ls 9 [(5, .int x_4), (4, .int x_3), (0, .ref h0), (1, .int x1), (2, .int x2), (3, .int x3)] → W p l e (rmL 3 0 0) s m [.ref h0, .int x1, .int x2, .int x3].toArray below meth c H locs 0 0 (ZX D below [.ref h0, .int x1, .int x2, .int x3] s (rmL 3 0 0) [(h0, .inr (0, [.int x4, .int x5, .ref h6, .ref h7, .int x8, .int x9, .int x10, .ref h11, .ref h12, .int x13, .int x14, .int x15, .int x16, .int x17])), (h7, .inl (cI, 7, .inl f18)), (h6, .inl (cI, 28, .inl f19))] (fun r w1 => ∃ z1 : Int32, ∃ z2 : Int32, ∃ z3 : Int32, 0 ≤ z3.toInt ∧ 0 ≤ -z3.toInt + 1 ∧ r = some (.int z3) ∧ w1 = [(h0, .inr (0, [.int x4, .int x5, .ref h6, .ref h7, .int x8, .int x9, .int x10, .ref h11, .ref h12, .int x13, .int x14, .int z1, .int z2, .int x17])), (h7, .inl (cI, 7, .inl f18)), (h6, .inl (cI, 28, .inl f19))])) (F0 m 6 ls []) := by
    intro n
    induction n with
    | zero => intro x_3 x_4 H locs ls g_6 g_7 g_8 g_9 g_10; omega
    | succ n ihlp_5 =>
      intro x_3 x_4 H locs ls g_6 g_7 g_8 g_9 g_10 hP hD hS hl
      refine lv_iload hx hb dX0_findLots_6 (lv_at hl 0 rfl) ?_
      refine lv_aload_n hx hb dX0_findLots_8 rfl (lv_at hl 2 rfl) ?_
      refine va_get (D := D) (ci := 0) (v := .int x5) (C := RX0) (T := TX0) (N := 14) hx hb hts inX0 hown hG.1 hP 0 rfl rfl 1 (by decide) (hts _ kw490) (fun _ h9 => h9) rfl dX0_findLots_9 ?_
      refine lv_icmp_ge (tgt := 45) hx hb dX0_findLots_12 (by decide) (fun c_11 => ?_) (fun c_11 => ?_)
      · have fc_11 : x5.toInt ≤ x_4.toInt := i_le rfl rfl c_11
        refine lv_iconst (v := 0) hx hb dX0_findLots_45 (by decide +kernel) ?_
        refine lv_istore (lv' := [(5, .int 0), (4, .int x_3), (0, .ref h0), (1, .int x1), (2, .int x2), (3, .int x3)]) hx hb dX0_findLots_46 hl (by decide) rfl (fun ls hl => ?_)
        refine lv_iconst (v := 0) hx hb dX0_findLots_48 (by decide +kernel) ?_
        refine lv_istore (lv' := [(6, .int 0), (5, .int 0), (4, .int x_3), (0, .ref h0), (1, .int x1), (2, .int x2), (3, .int x3)]) hx hb dX0_findLots_49 hl (by decide) rfl (fun ls hl => ?_)
        have lp_20 : ∀ (n : Nat) (x_16 x_17 x_18 x_19 : Int32) (H : Heap) (locs : List Loc) (ls : Array Slot), 0 ≤ x_18.toInt → 0 ≤ -x_18.toInt + 1 → 0 ≤ -x_18.toInt + x_19.toInt → 0 ≤ -x_19.toInt + 128 → -x_19.toInt + 128 < n → va_P D vwCl [(h0, .inr (0, [.int x4, .int x5, .ref h6, .ref h7, .int x8, .int x9, .int x10, .ref h11, .ref h12, .int x13, .int x14, .int x_16, .int x_17, .int x17])), (h7, .inl (cI, 7, .inl f18)), (h6, .inl (cI, 28, .inl f19))] H → va_D A [(h0, .inr (0, [.int x4, .int x5, .ref h6, .ref h7, .int x8, .int x9, .int x10, .ref h11, .ref h12, .int x13, .int x14, .int x_16, .int x_17, .int x17])), (h7, .inl (cI, 7, .inl f18)), (h6, .inl (cI, 28, .inl f19))] → va_S A s.heap H locs → lv_has ls 9 [(6, .int x_19), (5, .int x_18), (4, .int x_3), (0, .ref h0), (1, .int x1), (2, .int x2), (3, .int x3)] → W p l e (rmL 3 0 0) s m [.ref h0, .int x1, .int x2, .int x3].toArray below meth c H locs 0 0 (ZX D below [.ref h0, .int x1, .int x2, .int x3] s (rmL 3 0 0) [(h0, .inr (0, [.int x4, .int x5, .ref h6, .ref h7, .int x8, .int x9, .int x10, .ref h11, .ref h12, .int x13, .int x14, .int x15, .int x16, .int x17])), (h7, .inl (cI, 7, .inl f18)), (h6, .inl (cI, 28, .inl f19))] (fun r w1 => ∃ z1 : Int32, ∃ z2 : Int32, ∃ z3 : Int32, 0 ≤ z3.toInt ∧ 0 ≤ -z3.toInt + 1 ∧ r = some (.int z3) ∧ w1 = [(h0, .inr (0, [.int x4, .int x5, .ref h6, .ref h7, .int x8, .int x9, .int x10, .ref h11, .ref h12, .int x13, .int x14, .int z1, .int z2, .int x17])), (h7, .inl (cI, 7, .inl f18)), (h6, .inl (cI, 28, .inl f19))])) (F0 m 51 ls []) := by
          intro n
          induction n with
          | zero => intro x_16 x_17 x_18 x_19 H locs ls g_21 g_22 g_23 g_24 g_25; omega
          | succ n ihlp_20 =>
            intro x_16 x_17 x_18 x_19 H locs ls g_21 g_22 g_23 g_24 g_25 hP hD hS hl
            refine lv_iload hx hb dX0_findLots_51 (lv_at hl 0 rfl) ?_
            refine lv_iload hx hb dX0_findLots_53 (lv_at hl 2 rfl) ?_
            refine lv_icmp_gt (tgt := 148) hx hb dX0_findLots_55 (by decide) (fun c_26 => ?_) (fun c_26 => ?_)
            · have fc_26 : x_3.toInt < x_19.toInt := i_lt rfl rfl c_26
              refine lv_iload hx hb dX0_findLots_148 (lv_at hl 1 rfl) ?_
              have hP9 := hP.sub (ws' := [(h0, .inr (0, [.int x4, .int x5, .ref h6, .ref h7, .int x8, .int x9, .int x10, .ref h11, .ref h12, .int x13, .int x14, .int x_16, .int x_17, .int x17])), (h7, .inl (cI, 7, .inl f18)), (h6, .inl (cI, 28, .inl f19))]) [0, 1, 2] rfl
              have hD9 := hD.sub (ws' := [(h0, .inr (0, [.int x4, .int x5, .ref h6, .ref h7, .int x8, .int x9, .int x10, .ref h11, .ref h12, .int x13, .int x14, .int x_16, .int x_17, .int x17])), (h7, .inl (cI, 7, .inl f18)), (h6, .inl (cI, 28, .inl f19))]) [0, 1, 2] (by decide) rfl
              exact xr_i (rm := (rmL 3 0 0)) hx hb hr hlocks hAe hS hP9 hD9 (nar_z (by omega) (by omega)) (Nat.le_of_ble_eq_true rfl) (Nat.le_of_ble_eq_true rfl) dX0_findLots_150 ⟨x_16, x_17, x_18, by omega, by omega, rfl, rfl⟩
            · have fc_26 : x_19.toInt ≤ x_3.toInt := i_nlt rfl rfl c_26
              refine lv_iload hx hb dX0_findLots_58 (lv_at hl 0 rfl) ?_
              refine lv_iload hx hb dX0_findLots_60 (lv_at hl 2 rfl) ?_
              refine lv_iconst (v := (-1)) hx hb dX0_findLots_62 (by decide +kernel) ?_
              refine lv_ixor hx hb dX0_findLots_63 ?_
              refine xt_any (fun v_27 => ?_)
              refine lv_iand hx hb dX0_findLots_64 ?_
              refine xt_any (fun v_28 => ?_)
              refine lv_if_ne (tgt := 142) hx hb dX0_findLots_65 (by decide) (fun c_29 => ?_) (fun c_29 => ?_)
              · have fc_29 : v_28.toInt ≠ (0 : Int) := i_ne rfl (by decide) c_29
                obtain ⟨v_30, ev_30⟩ : ∃ y : Int32, y = x_19 + 1 := ⟨_, rfl⟩
                have gv_30 : v_30.toInt = x_19.toInt + 1 := by
                  have zy : (1 : Int32).toInt = 1 := by decide
                  rw [ev_30, i32_add (by rw [zy]; omega) (by rw [zy]; omega), zy]
                refine lv_iinc (v := v_30) (lv' := [(6, .int v_30), (5, .int x_18), (4, .int x_3), (0, .ref h0), (1, .int x1), (2, .int x2), (3, .int x3)]) hx hb dX0_findLots_142 hl (k := 0) rfl (by rw [ev_30]; rfl) (by decide) rfl (fun ls hl => ?_)
                refine lv_goto (tgt := 51) hx hb dX0_findLots_145 (by decide) ?_
                exact ihlp_20  x_16 x_17 x_18 v_30 _ _ _ (by omega) (by omega) (by omega) (by omega) (by omega) (hP.sub (ws' := [(h0, .inr (0, [.int x4, .int x5, .ref h6, .ref h7, .int x8, .int x9, .int x10, .ref h11, .ref h12, .int x13, .int x14, .int x_16, .int x_17, .int x17])), (h7, .inl (cI, 7, .inl f18)), (h6, .inl (cI, 28, .inl f19))]) [0, 1, 2] rfl) (hD.sub (ws' := [(h0, .inr (0, [.int x4, .int x5, .ref h6, .ref h7, .int x8, .int x9, .int x10, .ref h11, .ref h12, .int x13, .int x14, .int x_16, .int x_17, .int x17])), (h7, .inl (cI, 7, .inl f18)), (h6, .inl (cI, 28, .inl f19))]) [0, 1, 2] (by decide) rfl) hS (lv_sub hl [0, 1, 2, 3, 4, 5, 6] rfl)
              · have fc_29 : v_28.toInt = (0 : Int) := i_eq rfl (by decide) c_29
                refine lv_aload_n hx hb dX0_findLots_68 rfl (lv_at hl 3 rfl) ?_
                refine lv_iload_n hx hb dX0_findLots_69 rfl (lv_at hl 5 rfl) ?_
                refine lv_iload hx hb dX0_findLots_70 (lv_at hl 0 rfl) ?_
                refine xc_core (wr := [(h7, .inl (cI, 7, .inl f18))]) (k := 0) (n := 0) (xc_runV (As := [.int x2, .int x_19]) (rest := []) hx hb hml hown hts hG hE hP hD hS hA [0, 2] (by decide) rfl (sX0_worthOfSet_1 l D cB cI cJ cZ aK aV h0 x2 x_19 x4 x5 h6 h7 x8 x9 x10 h11 h12 x13 x14 x_16 x_17 x17 f19 (by omega) (by omega) (by omega) (by omega) (by omega) (by omega) (by omega) (by omega) (by omega) (by omega)) kw913 kw1114 kw911 kw912 kw124 (show XD yX0_worthOfSet 2 from by decide +kernel) (by decide) rfl rfl 0 rfl hl.1 rfl (Nat.le_of_ble_eq_true rfl) dX0_findLots_72 (by decide)) hP hD hS hA [0, 2] [1] rfl rfl (by decide) (by decide) (Nat.le_of_ble_eq_true rfl) (Nat.le_of_ble_eq_true rfl) (fun r w1 H locs hpost hP hD hS => ?_)
                obtain ⟨v_31, rfl, rfl⟩ := hpost
                have hP : va_P D vwCl [(h7, .inl (cI, 7, .inl f18)), (h0, .inr (0, [.int x4, .int x5, .ref h6, .ref h7, .int x8, .int x9, .int x10, .ref h11, .ref h12, .int x13, .int x14, .int x_16, .int x_17, .int x17])), (h6, .inl (cI, 28, .inl f19))] H := hP
                have hD : va_D A [(h7, .inl (cI, 7, .inl f18)), (h0, .inr (0, [.int x4, .int x5, .ref h6, .ref h7, .int x8, .int x9, .int x10, .ref h11, .ref h12, .int x13, .int x14, .int x_16, .int x_17, .int x17])), (h6, .inl (cI, 28, .inl f19))] := hD
                refine lv_iload_n hx hb dX0_findLots_75 rfl (lv_at hl 6 rfl) ?_
                refine lv_icmp_lt (tgt := 142) hx hb dX0_findLots_76 (by decide) (fun c_32 => ?_) (fun c_32 => ?_)
                · have fc_32 : v_31.toInt < x3.toInt := i_lt rfl rfl c_32
                  obtain ⟨v_33, ev_33⟩ : ∃ y : Int32, y = x_19 + 1 := ⟨_, rfl⟩
                  have gv_33 : v_33.toInt = x_19.toInt + 1 := by
                    have zy : (1 : Int32).toInt = 1 := by decide
                    rw [ev_33, i32_add (by rw [zy]; omega) (by rw [zy]; omega), zy]
                  refine lv_iinc (v := v_33) (lv' := [(6, .int v_33), (5, .int x_18), (4, .int x_3), (0, .ref h0), (1, .int x1), (2, .int x2), (3, .int x3)]) hx hb dX0_findLots_142 hl (k := 0) rfl (by rw [ev_33]; rfl) (by decide) rfl (fun ls hl => ?_)
                  refine lv_goto (tgt := 51) hx hb dX0_findLots_145 (by decide) ?_
                  exact ihlp_20  x_16 x_17 x_18 v_33 _ _ _ (by omega) (by omega) (by omega) (by omega) (by omega) (hP.sub (ws' := [(h0, .inr (0, [.int x4, .int x5, .ref h6, .ref h7, .int x8, .int x9, .int x10, .ref h11, .ref h12, .int x13, .int x14, .int x_16, .int x_17, .int x17])), (h7, .inl (cI, 7, .inl f18)), (h6, .inl (cI, 28, .inl f19))]) [1, 0, 2] rfl) (hD.sub (ws' := [(h0, .inr (0, [.int x4, .int x5, .ref h6, .ref h7, .int x8, .int x9, .int x10, .ref h11, .ref h12, .int x13, .int x14, .int x_16, .int x_17, .int x17])), (h7, .inl (cI, 7, .inl f18)), (h6, .inl (cI, 28, .inl f19))]) [1, 0, 2] (by decide) rfl) hS (lv_sub hl [0, 1, 2, 3, 4, 5, 6] rfl)
                · have fc_32 : x3.toInt ≤ v_31.toInt := i_nlt rfl rfl c_32
                  refine lv_aload_n hx hb dX0_findLots_79 rfl (lv_at hl 3 rfl) ?_
                  refine lv_iload_n hx hb dX0_findLots_80 rfl (lv_at hl 4 rfl) ?_
                  refine lv_iload hx hb dX0_findLots_81 (lv_at hl 0 rfl) ?_
                  refine xc_core (wr := [(h7, .inl (cI, 7, .inl f18))]) (k := 0) (n := 0) (xc_runV (As := [.int x1, .int x_19]) (rest := []) hx hb hml hown hts hG hE hP hD hS hA [1, 2] (by decide) rfl (sX0_worthOfSet_1 l D cB cI cJ cZ aK aV h0 x1 x_19 x4 x5 h6 h7 x8 x9 x10 h11 h12 x13 x14 x_16 x_17 x17 f19 (by omega) (by omega) (by omega) (by omega) (by omega) (by omega) (by omega) (by omega) (by omega) (by omega)) kw913 kw1114 kw911 kw912 kw124 (show XD yX0_worthOfSet 2 from by decide +kernel) (by decide) rfl rfl 1 rfl hl.1 rfl (Nat.le_of_ble_eq_true rfl) dX0_findLots_83 (by decide)) hP hD hS hA [1, 2] [0] rfl rfl (by decide) (by decide) (Nat.le_of_ble_eq_true rfl) (Nat.le_of_ble_eq_true rfl) (fun r w1 H locs hpost hP hD hS => ?_)
                  obtain ⟨v_34, rfl, rfl⟩ := hpost
                  have hP : va_P D vwCl [(h7, .inl (cI, 7, .inl f18)), (h0, .inr (0, [.int x4, .int x5, .ref h6, .ref h7, .int x8, .int x9, .int x10, .ref h11, .ref h12, .int x13, .int x14, .int x_16, .int x_17, .int x17])), (h6, .inl (cI, 28, .inl f19))] H := hP
                  have hD : va_D A [(h7, .inl (cI, 7, .inl f18)), (h0, .inr (0, [.int x4, .int x5, .ref h6, .ref h7, .int x8, .int x9, .int x10, .ref h11, .ref h12, .int x13, .int x14, .int x_16, .int x_17, .int x17])), (h6, .inl (cI, 28, .inl f19))] := hD
                  refine lv_istore (lv' := [(7, .int v_34), (6, .int x_19), (5, .int x_18), (4, .int x_3), (0, .ref h0), (1, .int x1), (2, .int x2), (3, .int x3)]) hx hb dX0_findLots_86 hl (by decide) rfl (fun ls hl => ?_)
                  refine lv_iload hx hb dX0_findLots_88 (lv_at hl 1 rfl) ?_
                  refine xc_core (wr := [(h7, .inl (cI, 7, .inl f18)), (h0, .inr (0, [.int x4, .int x5, .ref h6, .ref h7, .int x8, .int x9, .int x10, .ref h11, .ref h12, .int x13, .int x14, .int x_16, .int x_17, .int x17])), (h6, .inl (cI, 28, .inl f19))]) (k := 0) (n := 0) (xc_runS (As := [.int x_19]) (rest := []) hx hb hml hown hts hG hE hP hD hS hA [] (by decide) rfl (sJ6_bitCount_0f7a4_1 l D cB cI cJ cZ aK aV x_19) kw846 kw1124 kw845 kw130 (show XD yJ6_bitCount_0f7a4 1 from by decide +kernel) (by decide) hl.1 rfl (Nat.le_of_ble_eq_true rfl) dX0_findLots_90 (by decide)) hP hD hS hA [] [0, 1, 2] rfl rfl (by decide) (by decide) (Nat.le_of_ble_eq_true rfl) (Nat.le_of_ble_eq_true rfl) (fun r w1 H locs hpost hP hD hS => ?_)
                  obtain ⟨v_35, g_36, g_37, rfl, rfl⟩ := hpost
                  have hP : va_P D vwCl [(h7, .inl (cI, 7, .inl f18)), (h0, .inr (0, [.int x4, .int x5, .ref h6, .ref h7, .int x8, .int x9, .int x10, .ref h11, .ref h12, .int x13, .int x14, .int x_16, .int x_17, .int x17])), (h6, .inl (cI, 28, .inl f19))] H := hP
                  have hD : va_D A [(h7, .inl (cI, 7, .inl f18)), (h0, .inr (0, [.int x4, .int x5, .ref h6, .ref h7, .int x8, .int x9, .int x10, .ref h11, .ref h12, .int x13, .int x14, .int x_16, .int x_17, .int x17])), (h6, .inl (cI, 28, .inl f19))] := hD
                  refine lv_aload_n hx hb dX0_findLots_93 rfl (lv_at hl 4 rfl) ?_
                  refine va_get (D := D) (ci := 0) (v := .int x_16) (C := RX0) (T := TX0) (N := 14) hx hb hts inX0 hown hG.1 hP 1 rfl rfl 11 (by decide) (hts _ kw505) (fun _ h9 => h9) rfl dX0_findLots_94 ?_
                  refine xc_core (wr := [(h7, .inl (cI, 7, .inl f18)), (h0, .inr (0, [.int x4, .int x5, .ref h6, .ref h7, .int x8, .int x9, .int x10, .ref h11, .ref h12, .int x13, .int x14, .int x_16, .int x_17, .int x17])), (h6, .inl (cI, 28, .inl f19))]) (k := 0) (n := 0) (xc_runS (As := [.int x_16]) (rest := [.int v_35]) hx hb hml hown hts hG hE hP hD hS hA [] (by decide) rfl (sJ6_bitCount_0f7a4_1 l D cB cI cJ cZ aK aV x_16) kw846 kw1124 kw845 kw130 (show XD yJ6_bitCount_0f7a4 1 from by decide +kernel) (by decide) hl.1 rfl (Nat.le_of_ble_eq_true rfl) dX0_findLots_97 (by decide)) hP hD hS hA [] [0, 1, 2] rfl rfl (by decide) (by decide) (Nat.le_of_ble_eq_true rfl) (Nat.le_of_ble_eq_true rfl) (fun r w1 H locs hpost hP hD hS => ?_)
                  obtain ⟨v_38, g_39, g_40, rfl, rfl⟩ := hpost
                  have hP : va_P D vwCl [(h7, .inl (cI, 7, .inl f18)), (h0, .inr (0, [.int x4, .int x5, .ref h6, .ref h7, .int x8, .int x9, .int x10, .ref h11, .ref h12, .int x13, .int x14, .int x_16, .int x_17, .int x17])), (h6, .inl (cI, 28, .inl f19))] H := hP
                  have hD : va_D A [(h7, .inl (cI, 7, .inl f18)), (h0, .inr (0, [.int x4, .int x5, .ref h6, .ref h7, .int x8, .int x9, .int x10, .ref h11, .ref h12, .int x13, .int x14, .int x_16, .int x_17, .int x17])), (h6, .inl (cI, 28, .inl f19))] := hD
                  refine lv_isub hx hb dX0_findLots_100 ?_
                  refine lv_topi (fun v_41 ev_41 => ?_)
                  have gv_41 : v_41.toInt = v_35.toInt - v_38.toInt := by
                    have zx : (v_35 : Int32).toInt = v_35.toInt := rfl
                    have zy : (v_38 : Int32).toInt = v_38.toInt := rfl
                    rw [ev_41, i32_sub (by rw [zx, zy]; omega) (by rw [zx, zy]; omega), zx, zy]
                  refine lv_istore (lv' := [(8, .int v_41), (7, .int v_34), (6, .int x_19), (5, .int x_18), (4, .int x_3), (0, .ref h0), (1, .int x1), (2, .int x2), (3, .int x3)]) hx hb dX0_findLots_101 hl (by decide) rfl (fun ls hl => ?_)
                  refine lv_iload hx hb dX0_findLots_103 (lv_at hl 3 rfl) ?_
                  refine lv_if_eq (tgt := 127) hx hb dX0_findLots_105 (by decide) (fun c_42 => ?_) (fun c_42 => ?_)
                  · have fc_42 : x_18.toInt = (0 : Int) := i_eq rfl (by decide) c_42
                    refine lv_iconst (v := 1) hx hb dX0_findLots_127 (by decide +kernel) ?_
                    refine lv_istore (lv' := [(5, .int 1), (8, .int v_41), (7, .int v_34), (6, .int x_19), (4, .int x_3), (0, .ref h0), (1, .int x1), (2, .int x2), (3, .int x3)]) hx hb dX0_findLots_128 hl (by decide) rfl (fun ls hl => ?_)
                    refine lv_aload_n hx hb dX0_findLots_130 rfl (lv_at hl 5 rfl) ?_
                    refine lv_iload hx hb dX0_findLots_131 (lv_at hl 3 rfl) ?_
                    refine va_put (D := D) (ci := 0) (v := .int x_19) (ty := .int) (C := RX0) (T := TX0) (N := 14) hx hb hts inX0 tyX0 tyX0_ok nmX0 hown hG.1 hP hD hS 1 rfl rfl 11 (by decide) (hts _ kw505) (fun _ h9 => h9) rfl (by decide +kernel) rfl rfl (Nat.le_of_ble_eq_true rfl) dX0_findLots_133 (fun H locs hP hD hS => ?_)
                    have hP : va_P D vwCl [(h7, .inl (cI, 7, .inl f18)), (h0, .inr (0, [.int x4, .int x5, .ref h6, .ref h7, .int x8, .int x9, .int x10, .ref h11, .ref h12, .int x13, .int x14, .int x_19, .int x_17, .int x17])), (h6, .inl (cI, 28, .inl f19))] H := hP
                    have hD : va_D A [(h7, .inl (cI, 7, .inl f18)), (h0, .inr (0, [.int x4, .int x5, .ref h6, .ref h7, .int x8, .int x9, .int x10, .ref h11, .ref h12, .int x13, .int x14, .int x_19, .int x_17, .int x17])), (h6, .inl (cI, 28, .inl f19))] := hD
                    refine lv_aload_n hx hb dX0_findLots_136 rfl (lv_at hl 5 rfl) ?_
                    refine lv_iload hx hb dX0_findLots_137 (lv_at hl 2 rfl) ?_
                    refine va_put (D := D) (ci := 0) (v := .int v_34) (ty := .int) (C := RX0) (T := TX0) (N := 14) hx hb hts inX0 tyX0 tyX0_ok nmX0 hown hG.1 hP hD hS 1 rfl rfl 12 (by decide) (hts _ kw507) (fun _ h9 => h9) rfl (by decide +kernel) rfl rfl (Nat.le_of_ble_eq_true rfl) dX0_findLots_139 (fun H locs hP hD hS => ?_)
                    have hP : va_P D vwCl [(h7, .inl (cI, 7, .inl f18)), (h0, .inr (0, [.int x4, .int x5, .ref h6, .ref h7, .int x8, .int x9, .int x10, .ref h11, .ref h12, .int x13, .int x14, .int x_19, .int v_34, .int x17])), (h6, .inl (cI, 28, .inl f19))] H := hP
                    have hD : va_D A [(h7, .inl (cI, 7, .inl f18)), (h0, .inr (0, [.int x4, .int x5, .ref h6, .ref h7, .int x8, .int x9, .int x10, .ref h11, .ref h12, .int x13, .int x14, .int x_19, .int v_34, .int x17])), (h6, .inl (cI, 28, .inl f19))] := hD
                    obtain ⟨v_43, ev_43⟩ : ∃ y : Int32, y = x_19 + 1 := ⟨_, rfl⟩
                    have gv_43 : v_43.toInt = x_19.toInt + 1 := by
                      have zy : (1 : Int32).toInt = 1 := by decide
                      rw [ev_43, i32_add (by rw [zy]; omega) (by rw [zy]; omega), zy]
                    refine lv_iinc (v := v_43) (lv' := [(6, .int v_43), (5, .int 1), (8, .int v_41), (7, .int v_34), (4, .int x_3), (0, .ref h0), (1, .int x1), (2, .int x2), (3, .int x3)]) hx hb dX0_findLots_142 hl (k := 3) rfl (by rw [ev_43]; rfl) (by decide) rfl (fun ls hl => ?_)
                    refine lv_goto (tgt := 51) hx hb dX0_findLots_145 (by decide) ?_
                    exact ihlp_20  x_19 v_34 1 v_43 _ _ _ (by have zc1 : (1 : Int32).toInt = 1 := (by decide); omega) (by have zc1 : (1 : Int32).toInt = 1 := (by decide); omega) (by have zc1 : (1 : Int32).toInt = 1 := (by decide); omega) (by have zc1 : (1 : Int32).toInt = 1 := (by decide); omega) (by have zc1 : (1 : Int32).toInt = 1 := (by decide); omega) (hP.sub (ws' := [(h0, .inr (0, [.int x4, .int x5, .ref h6, .ref h7, .int x8, .int x9, .int x10, .ref h11, .ref h12, .int x13, .int x14, .int x_19, .int v_34, .int x17])), (h7, .inl (cI, 7, .inl f18)), (h6, .inl (cI, 28, .inl f19))]) [1, 0, 2] rfl) (hD.sub (ws' := [(h0, .inr (0, [.int x4, .int x5, .ref h6, .ref h7, .int x8, .int x9, .int x10, .ref h11, .ref h12, .int x13, .int x14, .int x_19, .int v_34, .int x17])), (h7, .inl (cI, 7, .inl f18)), (h6, .inl (cI, 28, .inl f19))]) [1, 0, 2] (by decide) rfl) hS (lv_sub hl [0, 1, 4, 5, 6, 7, 8] rfl)
                  · have fc_42 : x_18.toInt ≠ (0 : Int) := i_ne rfl (by decide) c_42
                    refine lv_iload hx hb dX0_findLots_108 (lv_at hl 0 rfl) ?_
                    refine lv_if_lt (tgt := 127) hx hb dX0_findLots_110 (by decide) (fun c_44 => ?_) (fun c_44 => ?_)
                    · have fc_44 : v_41.toInt < (0 : Int) := i_lt rfl (by decide) c_44
                      refine lv_iconst (v := 1) hx hb dX0_findLots_127 (by decide +kernel) ?_
                      refine lv_istore (lv' := [(5, .int 1), (8, .int v_41), (7, .int v_34), (6, .int x_19), (4, .int x_3), (0, .ref h0), (1, .int x1), (2, .int x2), (3, .int x3)]) hx hb dX0_findLots_128 hl (by decide) rfl (fun ls hl => ?_)
                      refine lv_aload_n hx hb dX0_findLots_130 rfl (lv_at hl 5 rfl) ?_
                      refine lv_iload hx hb dX0_findLots_131 (lv_at hl 3 rfl) ?_
                      refine va_put (D := D) (ci := 0) (v := .int x_19) (ty := .int) (C := RX0) (T := TX0) (N := 14) hx hb hts inX0 tyX0 tyX0_ok nmX0 hown hG.1 hP hD hS 1 rfl rfl 11 (by decide) (hts _ kw505) (fun _ h9 => h9) rfl (by decide +kernel) rfl rfl (Nat.le_of_ble_eq_true rfl) dX0_findLots_133 (fun H locs hP hD hS => ?_)
                      have hP : va_P D vwCl [(h7, .inl (cI, 7, .inl f18)), (h0, .inr (0, [.int x4, .int x5, .ref h6, .ref h7, .int x8, .int x9, .int x10, .ref h11, .ref h12, .int x13, .int x14, .int x_19, .int x_17, .int x17])), (h6, .inl (cI, 28, .inl f19))] H := hP
                      have hD : va_D A [(h7, .inl (cI, 7, .inl f18)), (h0, .inr (0, [.int x4, .int x5, .ref h6, .ref h7, .int x8, .int x9, .int x10, .ref h11, .ref h12, .int x13, .int x14, .int x_19, .int x_17, .int x17])), (h6, .inl (cI, 28, .inl f19))] := hD
                      refine lv_aload_n hx hb dX0_findLots_136 rfl (lv_at hl 5 rfl) ?_
                      refine lv_iload hx hb dX0_findLots_137 (lv_at hl 2 rfl) ?_
                      refine va_put (D := D) (ci := 0) (v := .int v_34) (ty := .int) (C := RX0) (T := TX0) (N := 14) hx hb hts inX0 tyX0 tyX0_ok nmX0 hown hG.1 hP hD hS 1 rfl rfl 12 (by decide) (hts _ kw507) (fun _ h9 => h9) rfl (by decide +kernel) rfl rfl (Nat.le_of_ble_eq_true rfl) dX0_findLots_139 (fun H locs hP hD hS => ?_)
                      have hP : va_P D vwCl [(h7, .inl (cI, 7, .inl f18)), (h0, .inr (0, [.int x4, .int x5, .ref h6, .ref h7, .int x8, .int x9, .int x10, .ref h11, .ref h12, .int x13, .int x14, .int x_19, .int v_34, .int x17])), (h6, .inl (cI, 28, .inl f19))] H := hP
                      have hD : va_D A [(h7, .inl (cI, 7, .inl f18)), (h0, .inr (0, [.int x4, .int x5, .ref h6, .ref h7, .int x8, .int x9, .int x10, .ref h11, .ref h12, .int x13, .int x14, .int x_19, .int v_34, .int x17])), (h6, .inl (cI, 28, .inl f19))] := hD
                      obtain ⟨v_45, ev_45⟩ : ∃ y : Int32, y = x_19 + 1 := ⟨_, rfl⟩
                      have gv_45 : v_45.toInt = x_19.toInt + 1 := by
                        have zy : (1 : Int32).toInt = 1 := by decide
                        rw [ev_45, i32_add (by rw [zy]; omega) (by rw [zy]; omega), zy]
                      refine lv_iinc (v := v_45) (lv' := [(6, .int v_45), (5, .int 1), (8, .int v_41), (7, .int v_34), (4, .int x_3), (0, .ref h0), (1, .int x1), (2, .int x2), (3, .int x3)]) hx hb dX0_findLots_142 hl (k := 3) rfl (by rw [ev_45]; rfl) (by decide) rfl (fun ls hl => ?_)
                      refine lv_goto (tgt := 51) hx hb dX0_findLots_145 (by decide) ?_
                      exact ihlp_20  x_19 v_34 1 v_45 _ _ _ (by have zc1 : (1 : Int32).toInt = 1 := (by decide); omega) (by have zc1 : (1 : Int32).toInt = 1 := (by decide); omega) (by have zc1 : (1 : Int32).toInt = 1 := (by decide); omega) (by have zc1 : (1 : Int32).toInt = 1 := (by decide); omega) (by have zc1 : (1 : Int32).toInt = 1 := (by decide); omega) (hP.sub (ws' := [(h0, .inr (0, [.int x4, .int x5, .ref h6, .ref h7, .int x8, .int x9, .int x10, .ref h11, .ref h12, .int x13, .int x14, .int x_19, .int v_34, .int x17])), (h7, .inl (cI, 7, .inl f18)), (h6, .inl (cI, 28, .inl f19))]) [1, 0, 2] rfl) (hD.sub (ws' := [(h0, .inr (0, [.int x4, .int x5, .ref h6, .ref h7, .int x8, .int x9, .int x10, .ref h11, .ref h12, .int x13, .int x14, .int x_19, .int v_34, .int x17])), (h7, .inl (cI, 7, .inl f18)), (h6, .inl (cI, 28, .inl f19))]) [1, 0, 2] (by decide) rfl) hS (lv_sub hl [0, 1, 4, 5, 6, 7, 8] rfl)
                    · have fc_44 : (0 : Int) ≤ v_41.toInt := i_nlt rfl (by decide) c_44
                      refine lv_iload hx hb dX0_findLots_113 (lv_at hl 0 rfl) ?_
                      refine lv_if_ne (tgt := 142) hx hb dX0_findLots_115 (by decide) (fun c_46 => ?_) (fun c_46 => ?_)
                      · have fc_46 : v_41.toInt ≠ (0 : Int) := i_ne rfl (by decide) c_46
                        obtain ⟨v_47, ev_47⟩ : ∃ y : Int32, y = x_19 + 1 := ⟨_, rfl⟩
                        have gv_47 : v_47.toInt = x_19.toInt + 1 := by
                          have zy : (1 : Int32).toInt = 1 := by decide
                          rw [ev_47, i32_add (by rw [zy]; omega) (by rw [zy]; omega), zy]
                        refine lv_iinc (v := v_47) (lv' := [(6, .int v_47), (8, .int v_41), (7, .int v_34), (5, .int x_18), (4, .int x_3), (0, .ref h0), (1, .int x1), (2, .int x2), (3, .int x3)]) hx hb dX0_findLots_142 hl (k := 2) rfl (by rw [ev_47]; rfl) (by decide) rfl (fun ls hl => ?_)
                        refine lv_goto (tgt := 51) hx hb dX0_findLots_145 (by decide) ?_
                        exact ihlp_20  x_16 x_17 x_18 v_47 _ _ _ (by omega) (by omega) (by omega) (by omega) (by omega) (hP.sub (ws' := [(h0, .inr (0, [.int x4, .int x5, .ref h6, .ref h7, .int x8, .int x9, .int x10, .ref h11, .ref h12, .int x13, .int x14, .int x_16, .int x_17, .int x17])), (h7, .inl (cI, 7, .inl f18)), (h6, .inl (cI, 28, .inl f19))]) [1, 0, 2] rfl) (hD.sub (ws' := [(h0, .inr (0, [.int x4, .int x5, .ref h6, .ref h7, .int x8, .int x9, .int x10, .ref h11, .ref h12, .int x13, .int x14, .int x_16, .int x_17, .int x17])), (h7, .inl (cI, 7, .inl f18)), (h6, .inl (cI, 28, .inl f19))]) [1, 0, 2] (by decide) rfl) hS (lv_sub hl [0, 3, 4, 5, 6, 7, 8] rfl)
                      · have fc_46 : v_41.toInt = (0 : Int) := i_eq rfl (by decide) c_46
                        refine lv_iload hx hb dX0_findLots_118 (lv_at hl 1 rfl) ?_
                        refine lv_aload_n hx hb dX0_findLots_120 rfl (lv_at hl 5 rfl) ?_
                        refine va_get (D := D) (ci := 0) (v := .int x_17) (C := RX0) (T := TX0) (N := 14) hx hb hts inX0 hown hG.1 hP 1 rfl rfl 12 (by decide) (hts _ kw507) (fun _ h9 => h9) rfl dX0_findLots_121 ?_
                        refine lv_icmp_ge (tgt := 142) hx hb dX0_findLots_124 (by decide) (fun c_48 => ?_) (fun c_48 => ?_)
                        · have fc_48 : x_17.toInt ≤ v_34.toInt := i_le rfl rfl c_48
                          obtain ⟨v_49, ev_49⟩ : ∃ y : Int32, y = x_19 + 1 := ⟨_, rfl⟩
                          have gv_49 : v_49.toInt = x_19.toInt + 1 := by
                            have zy : (1 : Int32).toInt = 1 := by decide
                            rw [ev_49, i32_add (by rw [zy]; omega) (by rw [zy]; omega), zy]
                          refine lv_iinc (v := v_49) (lv' := [(6, .int v_49), (8, .int v_41), (7, .int v_34), (5, .int x_18), (4, .int x_3), (0, .ref h0), (1, .int x1), (2, .int x2), (3, .int x3)]) hx hb dX0_findLots_142 hl (k := 2) rfl (by rw [ev_49]; rfl) (by decide) rfl (fun ls hl => ?_)
                          refine lv_goto (tgt := 51) hx hb dX0_findLots_145 (by decide) ?_
                          exact ihlp_20  x_16 x_17 x_18 v_49 _ _ _ (by omega) (by omega) (by omega) (by omega) (by omega) (hP.sub (ws' := [(h0, .inr (0, [.int x4, .int x5, .ref h6, .ref h7, .int x8, .int x9, .int x10, .ref h11, .ref h12, .int x13, .int x14, .int x_16, .int x_17, .int x17])), (h7, .inl (cI, 7, .inl f18)), (h6, .inl (cI, 28, .inl f19))]) [1, 0, 2] rfl) (hD.sub (ws' := [(h0, .inr (0, [.int x4, .int x5, .ref h6, .ref h7, .int x8, .int x9, .int x10, .ref h11, .ref h12, .int x13, .int x14, .int x_16, .int x_17, .int x17])), (h7, .inl (cI, 7, .inl f18)), (h6, .inl (cI, 28, .inl f19))]) [1, 0, 2] (by decide) rfl) hS (lv_sub hl [0, 3, 4, 5, 6, 7, 8] rfl)
                        · have fc_48 : v_34.toInt < x_17.toInt := i_nle rfl rfl c_48
                          refine lv_iconst (v := 1) hx hb dX0_findLots_127 (by decide +kernel) ?_
                          refine lv_istore (lv' := [(5, .int 1), (8, .int v_41), (7, .int v_34), (6, .int x_19), (4, .int x_3), (0, .ref h0), (1, .int x1), (2, .int x2), (3, .int x3)]) hx hb dX0_findLots_128 hl (by decide) rfl (fun ls hl => ?_)
                          refine lv_aload_n hx hb dX0_findLots_130 rfl (lv_at hl 5 rfl) ?_
                          refine lv_iload hx hb dX0_findLots_131 (lv_at hl 3 rfl) ?_
                          refine va_put (D := D) (ci := 0) (v := .int x_19) (ty := .int) (C := RX0) (T := TX0) (N := 14) hx hb hts inX0 tyX0 tyX0_ok nmX0 hown hG.1 hP hD hS 1 rfl rfl 11 (by decide) (hts _ kw505) (fun _ h9 => h9) rfl (by decide +kernel) rfl rfl (Nat.le_of_ble_eq_true rfl) dX0_findLots_133 (fun H locs hP hD hS => ?_)
                          have hP : va_P D vwCl [(h7, .inl (cI, 7, .inl f18)), (h0, .inr (0, [.int x4, .int x5, .ref h6, .ref h7, .int x8, .int x9, .int x10, .ref h11, .ref h12, .int x13, .int x14, .int x_19, .int x_17, .int x17])), (h6, .inl (cI, 28, .inl f19))] H := hP
                          have hD : va_D A [(h7, .inl (cI, 7, .inl f18)), (h0, .inr (0, [.int x4, .int x5, .ref h6, .ref h7, .int x8, .int x9, .int x10, .ref h11, .ref h12, .int x13, .int x14, .int x_19, .int x_17, .int x17])), (h6, .inl (cI, 28, .inl f19))] := hD
                          refine lv_aload_n hx hb dX0_findLots_136 rfl (lv_at hl 5 rfl) ?_
                          refine lv_iload hx hb dX0_findLots_137 (lv_at hl 2 rfl) ?_
                          refine va_put (D := D) (ci := 0) (v := .int v_34) (ty := .int) (C := RX0) (T := TX0) (N := 14) hx hb hts inX0 tyX0 tyX0_ok nmX0 hown hG.1 hP hD hS 1 rfl rfl 12 (by decide) (hts _ kw507) (fun _ h9 => h9) rfl (by decide +kernel) rfl rfl (Nat.le_of_ble_eq_true rfl) dX0_findLots_139 (fun H locs hP hD hS => ?_)
                          have hP : va_P D vwCl [(h7, .inl (cI, 7, .inl f18)), (h0, .inr (0, [.int x4, .int x5, .ref h6, .ref h7, .int x8, .int x9, .int x10, .ref h11, .ref h12, .int x13, .int x14, .int x_19, .int v_34, .int x17])), (h6, .inl (cI, 28, .inl f19))] H := hP
                          have hD : va_D A [(h7, .inl (cI, 7, .inl f18)), (h0, .inr (0, [.int x4, .int x5, .ref h6, .ref h7, .int x8, .int x9, .int x10, .ref h11, .ref h12, .int x13, .int x14, .int x_19, .int v_34, .int x17])), (h6, .inl (cI, 28, .inl f19))] := hD
                          obtain ⟨v_50, ev_50⟩ : ∃ y : Int32, y = x_19 + 1 := ⟨_, rfl⟩
                          have gv_50 : v_50.toInt = x_19.toInt + 1 := by
                            have zy : (1 : Int32).toInt = 1 := by decide
                            rw [ev_50, i32_add (by rw [zy]; omega) (by rw [zy]; omega), zy]
                          refine lv_iinc (v := v_50) (lv' := [(6, .int v_50), (5, .int 1), (8, .int v_41), (7, .int v_34), (4, .int x_3), (0, .ref h0), (1, .int x1), (2, .int x2), (3, .int x3)]) hx hb dX0_findLots_142 hl (k := 3) rfl (by rw [ev_50]; rfl) (by decide) rfl (fun ls hl => ?_)
                          refine lv_goto (tgt := 51) hx hb dX0_findLots_145 (by decide) ?_
                          exact ihlp_20  x_19 v_34 1 v_50 _ _ _ (by have zc1 : (1 : Int32).toInt = 1 := (by decide); omega) (by have zc1 : (1 : Int32).toInt = 1 := (by decide); omega) (by have zc1 : (1 : Int32).toInt = 1 := (by decide); omega) (by have zc1 : (1 : Int32).toInt = 1 := (by decide); omega) (by have zc1 : (1 : Int32).toInt = 1 := (by decide); omega) (hP.sub (ws' := [(h0, .inr (0, [.int x4, .int x5, .ref h6, .ref h7, .int x8, .int x9, .int x10, .ref h11, .ref h12, .int x13, .int x14, .int x_19, .int v_34, .int x17])), (h7, .inl (cI, 7, .inl f18)), (h6, .inl (cI, 28, .inl f19))]) [1, 0, 2] rfl) (hD.sub (ws' := [(h0, .inr (0, [.int x4, .int x5, .ref h6, .ref h7, .int x8, .int x9, .int x10, .ref h11, .ref h12, .int x13, .int x14, .int x_19, .int v_34, .int x17])), (h7, .inl (cI, 7, .inl f18)), (h6, .inl (cI, 28, .inl f19))]) [1, 0, 2] (by decide) rfl) hS (lv_sub hl [0, 1, 4, 5, 6, 7, 8] rfl)
        exact lp_20 130 x15 x16 0 0 _ _ _ (by have zc0 : (0 : Int32).toInt = 0 := (by decide); omega) (by have zc0 : (0 : Int32).toInt = 0 := (by decide); omega) (by have zc0 : (0 : Int32).toInt = 0 := (by decide); omega) (by have zc0 : (0 : Int32).toInt = 0 := (by decide); omega) (by have zc0 : (0 : Int32).toInt = 0 := (by decide); omega) (hP.sub (ws' := [(h0, .inr (0, [.int x4, .int x5, .ref h6, .ref h7, .int x8, .int x9, .int x10, .ref h11, .ref h12, .int x13, .int x14, .int x15, .int x16, .int x17])), (h7, .inl (cI, 7, .inl f18)), (h6, .inl (cI, 28, .inl f19))]) [0, 1, 2] rfl) (hD.sub (ws' := [(h0, .inr (0, [.int x4, .int x5, .ref h6, .ref h7, .int x8, .int x9, .int x10, .ref h11, .ref h12, .int x13, .int x14, .int x15, .int x16, .int x17])), (h7, .inl (cI, 7, .inl f18)), (h6, .inl (cI, 28, .inl f19))]) [0, 1, 2] (by decide) rfl) hS (lv_sub hl [0, 1, 2, 3, 4, 5, 6] rfl)
      · have fc_11 : x_4.toInt < x5.toInt := i_nle rfl rfl c_11
        refine lv_iload hx hb dX0_findLots_15 (lv_at hl 1 rfl) ?_
        refine lv_aload_n hx hb dX0_findLots_17 rfl (lv_at hl 2 rfl) ?_
        refine va_get (D := D) (ci := 0) (v := .ref h7) (C := RX0) (T := TX0) (N := 14) hx hb hts inX0 hown hG.1 hP 0 rfl rfl 3 (by decide) (hts _ kw492) (fun _ h9 => h9) rfl dX0_findLots_18 ?_
        refine lv_iload hx hb dX0_findLots_21 (lv_at hl 0 rfl) ?_
        refine xa_ildR hx hb hG hP 1 rfl (vp_in_iff.mpr ⟨by omega, by omega⟩) dX0_findLots_23 (fun v_51 hv => ?_)
        have g_52 := hv _ _ _ ga0 (by omega)
        refine lv_iload_n hx hb dX0_findLots_24 rfl (lv_at hl 3 rfl) ?_
        refine lv_icmp_ne (tgt := 35) hx hb dX0_findLots_25 (by decide) (fun c_53 => ?_) (fun c_53 => ?_)
        · have fc_53 : v_51.toInt ≠ x1.toInt := i_ne rfl rfl c_53
          refine lv_iconst (v := 0) hx hb dX0_findLots_35 (by decide +kernel) ?_
          refine lv_ior hx hb dX0_findLots_36 ?_
          refine lv_topi (fun v_54 ev_54 => ?_)
          have gv_54 : 0 ≤ v_54.toInt ∧ v_54.toInt ≤ 127 := by have zy : (0 : Int32).toInt = 0 := (by decide); rw [ev_54]; exact i32_or (by omega) (by omega) (by omega) (by omega)
          refine lv_istore (lv' := [(4, .int v_54), (5, .int x_4), (0, .ref h0), (1, .int x1), (2, .int x2), (3, .int x3)]) hx hb dX0_findLots_37 hl (by decide) rfl (fun ls hl => ?_)
          obtain ⟨v_55, ev_55⟩ : ∃ y : Int32, y = x_4 + 1 := ⟨_, rfl⟩
          have gv_55 : v_55.toInt = x_4.toInt + 1 := by
            have zy : (1 : Int32).toInt = 1 := by decide
            rw [ev_55, i32_add (by rw [zy]; omega) (by rw [zy]; omega), zy]
          refine lv_iinc (v := v_55) (lv' := [(5, .int v_55), (4, .int v_54), (0, .ref h0), (1, .int x1), (2, .int x2), (3, .int x3)]) hx hb dX0_findLots_39 hl (k := 1) rfl (by rw [ev_55]; rfl) (by decide) rfl (fun ls hl => ?_)
          refine lv_goto (tgt := 6) hx hb dX0_findLots_42 (by decide) ?_
          exact ihlp_5  v_54 v_55 _ _ _ (by omega) (by omega) (by omega) (by omega) (by omega) (hP.sub (ws' := [(h0, .inr (0, [.int x4, .int x5, .ref h6, .ref h7, .int x8, .int x9, .int x10, .ref h11, .ref h12, .int x13, .int x14, .int x15, .int x16, .int x17])), (h7, .inl (cI, 7, .inl f18)), (h6, .inl (cI, 28, .inl f19))]) [0, 1, 2] rfl) (hD.sub (ws' := [(h0, .inr (0, [.int x4, .int x5, .ref h6, .ref h7, .int x8, .int x9, .int x10, .ref h11, .ref h12, .int x13, .int x14, .int x15, .int x16, .int x17])), (h7, .inl (cI, 7, .inl f18)), (h6, .inl (cI, 28, .inl f19))]) [0, 1, 2] (by decide) rfl) hS (lv_sub hl [0, 1, 2, 3, 4, 5] rfl)
        · have fc_53 : v_51.toInt = x1.toInt := i_eq rfl rfl c_53
          refine lv_iconst (v := 1) hx hb dX0_findLots_28 (by decide +kernel) ?_
          refine lv_iload hx hb dX0_findLots_29 (lv_at hl 0 rfl) ?_
          refine lv_ishl hx hb dX0_findLots_31 ?_
          refine lv_topi (fun v_56 ev_56 => ?_)
          have gv_56 : 1 ≤ v_56.toInt ∧ v_56.toInt ≤ 64 := by rw [ev_56]; exact i32_shl1 (by omega) (by omega)
          refine lv_goto (tgt := 36) hx hb dX0_findLots_32 (by decide) ?_
          refine lv_ior hx hb dX0_findLots_36 ?_
          refine lv_topi (fun v_57 ev_57 => ?_)
          have gv_57 : 0 ≤ v_57.toInt ∧ v_57.toInt ≤ 127 := by rw [ev_57]; exact i32_or (by omega) (by omega) (by omega) (by omega)
          refine lv_istore (lv' := [(4, .int v_57), (5, .int x_4), (0, .ref h0), (1, .int x1), (2, .int x2), (3, .int x3)]) hx hb dX0_findLots_37 hl (by decide) rfl (fun ls hl => ?_)
          obtain ⟨v_58, ev_58⟩ : ∃ y : Int32, y = x_4 + 1 := ⟨_, rfl⟩
          have gv_58 : v_58.toInt = x_4.toInt + 1 := by
            have zy : (1 : Int32).toInt = 1 := by decide
            rw [ev_58, i32_add (by rw [zy]; omega) (by rw [zy]; omega), zy]
          refine lv_iinc (v := v_58) (lv' := [(5, .int v_58), (4, .int v_57), (0, .ref h0), (1, .int x1), (2, .int x2), (3, .int x3)]) hx hb dX0_findLots_39 hl (k := 1) rfl (by rw [ev_58]; rfl) (by decide) rfl (fun ls hl => ?_)
          refine lv_goto (tgt := 6) hx hb dX0_findLots_42 (by decide) ?_
          exact ihlp_5  v_57 v_58 _ _ _ (by omega) (by omega) (by omega) (by omega) (by omega) (hP.sub (ws' := [(h0, .inr (0, [.int x4, .int x5, .ref h6, .ref h7, .int x8, .int x9, .int x10, .ref h11, .ref h12, .int x13, .int x14, .int x15, .int x16, .int x17])), (h7, .inl (cI, 7, .inl f18)), (h6, .inl (cI, 28, .inl f19))]) [0, 1, 2] rfl) (hD.sub (ws' := [(h0, .inr (0, [.int x4, .int x5, .ref h6, .ref h7, .int x8, .int x9, .int x10, .ref h11, .ref h12, .int x13, .int x14, .int x15, .int x16, .int x17])), (h7, .inl (cI, 7, .inl f18)), (h6, .inl (cI, 28, .inl f19))]) [0, 1, 2] (by decide) rfl) hS (lv_sub hl [0, 1, 2, 3, 4, 5] rfl)
  exact lp_5 9 0 0 _ _ _ (by have zc0 : (0 : Int32).toInt = 0 := (by decide); omega) (by have zc0 : (0 : Int32).toInt = 0 := (by decide); omega) (by have zc0 : (0 : Int32).toInt = 0 := (by decide); omega) (by have zc0 : (0 : Int32).toInt = 0 := (by decide); omega) (by have zc0 : (0 : Int32).toInt = 0 := (by decide); omega) (hP.sub (ws' := [(h0, .inr (0, [.int x4, .int x5, .ref h6, .ref h7, .int x8, .int x9, .int x10, .ref h11, .ref h12, .int x13, .int x14, .int x15, .int x16, .int x17])), (h7, .inl (cI, 7, .inl f18)), (h6, .inl (cI, 28, .inl f19))]) [0, 1, 2] rfl) (hD.sub (ws' := [(h0, .inr (0, [.int x4, .int x5, .ref h6, .ref h7, .int x8, .int x9, .int x10, .ref h11, .ref h12, .int x13, .int x14, .int x15, .int x16, .int x17])), (h7, .inl (cI, 7, .inl f18)), (h6, .inl (cI, 28, .inl f19))]) [0, 1, 2] (by decide) rfl) hS (lv_sub hl [0, 1, 2, 3, 4, 5] rfl)
theorem dX0_settle_0 : decode cX0_settle 0 = .ok (.iconst 0, 1) := by decide +kernel
theorem dX0_settle_1 : decode cX0_settle 1 = .ok (.istore_n 1, 1) := by decide +kernel
theorem dX0_settle_2 : decode cX0_settle 2 = .ok (.iload_n 1, 1) := by decide +kernel
theorem dX0_settle_3 : decode cX0_settle 3 = .ok (.bipush 20, 2) := by decide +kernel
theorem dX0_settle_5 : decode cX0_settle 5 = .ok (.if_icmp .gt 63, 3) := by decide +kernel
theorem dX0_settle_68 : decode cX0_settle 68 = .ok (.iconst (-1), 1) := by decide +kernel
theorem dX0_settle_69 : decode cX0_settle 69 = .ok (.ireturn, 1) := by decide +kernel
theorem dX0_settle_8 : decode cX0_settle 8 = .ok (.aload_n 0, 1) := by decide +kernel
theorem kw1043 : (.methodLink RX0 67 yX0_findSwap : Cond) ∈ gT := gT_of 1043 (by decide +kernel) (by decide +kernel)
theorem kw1018 : (.code yX0_findSwap cX0_findSwap 5 (some .boolean) : Cond) ∈ gT := gT_of 1018 (by decide +kernel) (by decide +kernel)
theorem kw1016 : (.instanceMethod yX0_findSwap : Cond) ∈ gT := gT_of 1016 (by decide +kernel) (by decide +kernel)
theorem kw1017 : (.selects RX0 yX0_findSwap yX0_findSwap : Cond) ∈ gT := gT_of 1017 (by decide +kernel) (by decide +kernel)
theorem dX0_settle_9 : decode cX0_settle 9 = .ok (.invokevirtual 67, 3) := by decide +kernel
theorem dX0_settle_12 : decode cX0_settle 12 = .ok (.ifCond .eq 10, 3) := by decide +kernel
theorem dX0_settle_22 : decode cX0_settle 22 = .ok (.iload_n 1, 1) := by decide +kernel
theorem dX0_settle_23 : decode cX0_settle 23 = .ok (.ireturn, 1) := by decide +kernel
theorem dX0_settle_15 : decode cX0_settle 15 = .ok (.aload_n 0, 1) := by decide +kernel
theorem dX0_settle_16 : decode cX0_settle 16 = .ok (.getfield 58, 3) := by decide +kernel
theorem dX0_settle_19 : decode cX0_settle 19 = .ok (.ifCond .gt 5, 3) := by decide +kernel
theorem dX0_settle_24 : decode cX0_settle 24 = .ok (.aload_n 0, 1) := by decide +kernel
theorem dX0_settle_25 : decode cX0_settle 25 = .ok (.getfield 15, 3) := by decide +kernel
theorem dX0_settle_28 : decode cX0_settle 28 = .ok (.aload_n 0, 1) := by decide +kernel
theorem dX0_settle_29 : decode cX0_settle 29 = .ok (.getfield 61, 3) := by decide +kernel
theorem dX0_settle_32 : decode cX0_settle 32 = .ok (.iaload, 1) := by decide +kernel
theorem dX0_settle_33 : decode cX0_settle 33 = .ok (.istore_n 2, 1) := by decide +kernel
theorem dX0_settle_34 : decode cX0_settle 34 = .ok (.aload_n 0, 1) := by decide +kernel
theorem dX0_settle_35 : decode cX0_settle 35 = .ok (.getfield 15, 3) := by decide +kernel
theorem dX0_settle_38 : decode cX0_settle 38 = .ok (.aload_n 0, 1) := by decide +kernel
theorem dX0_settle_39 : decode cX0_settle 39 = .ok (.getfield 61, 3) := by decide +kernel
theorem dX0_settle_42 : decode cX0_settle 42 = .ok (.aload_n 0, 1) := by decide +kernel
theorem dX0_settle_43 : decode cX0_settle 43 = .ok (.getfield 15, 3) := by decide +kernel
theorem dX0_settle_46 : decode cX0_settle 46 = .ok (.aload_n 0, 1) := by decide +kernel
theorem dX0_settle_47 : decode cX0_settle 47 = .ok (.getfield 64, 3) := by decide +kernel
theorem dX0_settle_50 : decode cX0_settle 50 = .ok (.iaload, 1) := by decide +kernel
theorem dX0_settle_51 : decode cX0_settle 51 = .ok (.iastore, 1) := by decide +kernel
theorem dX0_settle_52 : decode cX0_settle 52 = .ok (.aload_n 0, 1) := by decide +kernel
theorem dX0_settle_53 : decode cX0_settle 53 = .ok (.getfield 15, 3) := by decide +kernel
theorem dX0_settle_56 : decode cX0_settle 56 = .ok (.aload_n 0, 1) := by decide +kernel
theorem dX0_settle_57 : decode cX0_settle 57 = .ok (.getfield 64, 3) := by decide +kernel
theorem dX0_settle_60 : decode cX0_settle 60 = .ok (.iload_n 2, 1) := by decide +kernel
theorem dX0_settle_61 : decode cX0_settle 61 = .ok (.iastore, 1) := by decide +kernel
theorem dX0_settle_62 : decode cX0_settle 62 = .ok (.iinc 1 1, 3) := by decide +kernel
theorem dX0_settle_65 : decode cX0_settle 65 = .ok (.goto (-63), 3) := by decide +kernel
set_option maxHeartbeats 4000000 in
set_option maxRecDepth 100000 in
theorem sX0_settle_1 (l : Launch) (D : va_G) (cB cI cJ cZ : ClassId) (aK aV : Nat → Nat) (h0 : Nat) (x1 : Int32) (x2 : Int32) (h3 : Nat) (h4 : Nat) (x5 : Int32) (x6 : Int32) (x7 : Int32) (h8 : Nat) (h9 : Nat) (x10 : Int32) (x11 : Int32) (x12 : Int32) (x13 : Int32) (x14 : Int32) (f15 : Nat → Int32) (f16 : Nat → Int32) (gh0 : 0 ≤ x1.toInt) (gh1 : 0 ≤ -x1.toInt + 4) (gh2 : 0 ≤ x2.toInt) (gh3 : 0 ≤ -x2.toInt + 7) (gh4 : 0 ≤ x6.toInt) (gh5 : 0 ≤ -x6.toInt + 6) (gh6 : 0 ≤ x7.toInt) (gh7 : 0 ≤ -x7.toInt + 6) (ga0 : AR f15 (0) (3) (x2.toInt)) : MX l yX0_settle cX0_settle 3 (some .int) (rmL 5 0 0) D cB cI cJ cZ aK aV [.ref h0] [(h0, .inr (0, [.int x1, .int x2, .ref h3, .ref h4, .int x5, .int x6, .int x7, .ref h8, .ref h9, .int x10, .int x11, .int x12, .int x13, .int x14])), (h4, .inl (cI, 7, .inl f15)), (h3, .inl (cI, 28, .inl f16))] (fun r w1 => ∃ z1 : Int32, ∃ z2 : Int32, ∃ z3 : Int32, ∃ z4 : Nat → Int32, ∃ z5 : Int32, 0 ≤ z2.toInt ∧ 0 ≤ -z2.toInt + 6 ∧ 0 ≤ z3.toInt ∧ 0 ≤ -z3.toInt + 6 ∧ 0 ≤ z5.toInt + 1 ∧ 0 ≤ -z5.toInt + 20 ∧ AR z4 (0) (3) (x2.toInt) ∧ r = some (.int z5) ∧ w1 = [(h0, .inr (0, [.int x1, .int x2, .ref h3, .ref h4, .int z1, .int z2, .int z3, .ref h8, .ref h9, .int x10, .int x11, .int x12, .int x13, .int x14])), (h4, .inl (cI, 7, .inl z4)), (h3, .inl (cI, 28, .inl f16))]) := by
  refine MX.intro (by decide) (Nat.le_of_ble_eq_true rfl) ?_
  intro p e s m below meth c A ls hx hb hr hml hown hlocks hnm hts hG hE hA hS hP hD hl hAe
  have hl : lv_has ls 3 [(0, .ref h0)] := hl
  have hown : s.vm.findClass RX0 = some m.cls := hown
  refine lv_iconst (v := 0) hx hb dX0_settle_0 (by decide +kernel) ?_
  refine lv_istore_n (lv' := [(1, .int 0), (0, .ref h0)]) hx hb dX0_settle_1 rfl hl (by decide) rfl (fun ls hl => ?_)
  have lp_11 : ∀ (n : Nat) (x_6 x_7 x_8 x_9 : Int32) (f_10 : Nat → Int32) (H : Heap) (locs : List Loc) (ls : Array Slot), 0 ≤ x_7.toInt → 0 ≤ -x_7.toInt + 6 → 0 ≤ x_8.toInt → 0 ≤ -x_8.toInt + 6 → 0 ≤ x_9.toInt → 0 ≤ -x_9.toInt + 21 → AR f_10 (0) (3) (x2.toInt) → -x_9.toInt + 21 < n → va_P D vwCl [(h0, .inr (0, [.int x1, .int x2, .ref h3, .ref h4, .int x_6, .int x_7, .int x_8, .ref h8, .ref h9, .int x10, .int x11, .int x12, .int x13, .int x14])), (h4, .inl (cI, 7, .inl f_10)), (h3, .inl (cI, 28, .inl f16))] H → va_D A [(h0, .inr (0, [.int x1, .int x2, .ref h3, .ref h4, .int x_6, .int x_7, .int x_8, .ref h8, .ref h9, .int x10, .int x11, .int x12, .int x13, .int x14])), (h4, .inl (cI, 7, .inl f_10)), (h3, .inl (cI, 28, .inl f16))] → va_S A s.heap H locs → lv_has ls 3 [(1, .int x_9), (0, .ref h0)] → W p l e (rmL 5 0 0) s m [.ref h0].toArray below meth c H locs 0 0 (ZX D below [.ref h0] s (rmL 5 0 0) [(h0, .inr (0, [.int x1, .int x2, .ref h3, .ref h4, .int x5, .int x6, .int x7, .ref h8, .ref h9, .int x10, .int x11, .int x12, .int x13, .int x14])), (h4, .inl (cI, 7, .inl f15)), (h3, .inl (cI, 28, .inl f16))] (fun r w1 => ∃ z1 : Int32, ∃ z2 : Int32, ∃ z3 : Int32, ∃ z4 : Nat → Int32, ∃ z5 : Int32, 0 ≤ z2.toInt ∧ 0 ≤ -z2.toInt + 6 ∧ 0 ≤ z3.toInt ∧ 0 ≤ -z3.toInt + 6 ∧ 0 ≤ z5.toInt + 1 ∧ 0 ≤ -z5.toInt + 20 ∧ AR z4 (0) (3) (x2.toInt) ∧ r = some (.int z5) ∧ w1 = [(h0, .inr (0, [.int x1, .int x2, .ref h3, .ref h4, .int z1, .int z2, .int z3, .ref h8, .ref h9, .int x10, .int x11, .int x12, .int x13, .int x14])), (h4, .inl (cI, 7, .inl z4)), (h3, .inl (cI, 28, .inl f16))])) (F0 m 2 ls []) := by
    intro n
    induction n with
    | zero => intro x_6 x_7 x_8 x_9 f_10 H locs ls g_12 g_13 g_14 g_15 g_16 g_17 g_18 g_19; omega
    | succ n ihlp_11 =>
      intro x_6 x_7 x_8 x_9 f_10 H locs ls g_12 g_13 g_14 g_15 g_16 g_17 g_18 g_19 hP hD hS hl
      refine lv_iload_n hx hb dX0_settle_2 rfl (lv_at hl 0 rfl) ?_
      refine lv_bipush (v := 20) hx hb dX0_settle_3 (by decide +kernel) ?_
      refine lv_icmp_gt (tgt := 68) hx hb dX0_settle_5 (by decide) (fun c_20 => ?_) (fun c_20 => ?_)
      · have fc_20 : (20 : Int) < x_9.toInt := i_lt (by decide) rfl c_20
        refine lv_iconst (v := (-1)) hx hb dX0_settle_68 (by decide +kernel) ?_
        have hP9 := hP.sub (ws' := [(h0, .inr (0, [.int x1, .int x2, .ref h3, .ref h4, .int x_6, .int x_7, .int x_8, .ref h8, .ref h9, .int x10, .int x11, .int x12, .int x13, .int x14])), (h4, .inl (cI, 7, .inl f_10)), (h3, .inl (cI, 28, .inl f16))]) [0, 1, 2] rfl
        have hD9 := hD.sub (ws' := [(h0, .inr (0, [.int x1, .int x2, .ref h3, .ref h4, .int x_6, .int x_7, .int x_8, .ref h8, .ref h9, .int x10, .int x11, .int x12, .int x13, .int x14])), (h4, .inl (cI, 7, .inl f_10)), (h3, .inl (cI, 28, .inl f16))]) [0, 1, 2] (by decide) rfl
        exact xr_i (rm := (rmL 5 0 0)) hx hb hr hlocks hAe hS hP9 hD9 rfl (Nat.le_of_ble_eq_true rfl) (Nat.le_of_ble_eq_true rfl) dX0_settle_69 ⟨x_6, x_7, x_8, f_10, (-1), by have zcm1 : ((-1) : Int32).toInt = (-1) := (by decide); omega, by have zcm1 : ((-1) : Int32).toInt = (-1) := (by decide); omega, by have zcm1 : ((-1) : Int32).toInt = (-1) := (by decide); omega, by have zcm1 : ((-1) : Int32).toInt = (-1) := (by decide); omega, by have zcm1 : ((-1) : Int32).toInt = (-1) := (by decide); omega, by have zcm1 : ((-1) : Int32).toInt = (-1) := (by decide); omega, g_18.mono (by have zcm1 : ((-1) : Int32).toInt = (-1) := (by decide); omega) (by have zcm1 : ((-1) : Int32).toInt = (-1) := (by decide); omega) (by have zcm1 : ((-1) : Int32).toInt = (-1) := (by decide); omega), rfl, rfl⟩
      · have fc_20 : x_9.toInt ≤ (20 : Int) := i_nlt (by decide) rfl c_20
        refine lv_aload_n hx hb dX0_settle_8 rfl (lv_at hl 1 rfl) ?_
        refine xc_core (wr := []) (k := 0) (n := 0) (xc_runV (As := []) (rest := []) hx hb hml hown hts hG hE hP hD hS hA [0, 1, 2] (by decide) rfl (sX0_findSwap_1 l D cB cI cJ cZ aK aV h0 x1 x2 h3 h4 x_6 x_7 x_8 h8 h9 x10 x11 x12 x13 x14 f_10 f16 (by omega) (by omega) (by omega) (by omega) (by omega) (by omega) (by omega) (by omega) (g_18.mono (by omega) (by omega) (by omega))) kw1018 kw1043 kw1016 kw1017 kw124 (show XD yX0_findSwap 0 from by decide +kernel) (by decide) rfl rfl 0 rfl hl.1 rfl (Nat.le_of_ble_eq_true rfl) dX0_settle_9 (by decide)) hP hD hS hA [0, 1, 2] [] rfl rfl (by decide) (by decide) (Nat.le_of_ble_eq_true rfl) (Nat.le_of_ble_eq_true rfl) (fun r w1 H locs hpost hP hD hS => ?_)
        obtain ⟨v_21, v_22, v_23, v_24, g_25, g_26, g_27, g_28, g_29, g_30, g_31, g_32, rfl, rfl⟩ := hpost
        have hP : va_P D vwCl [(h0, .inr (0, [.int x1, .int x2, .ref h3, .ref h4, .int v_21, .int v_22, .int v_23, .ref h8, .ref h9, .int x10, .int x11, .int x12, .int x13, .int x14])), (h4, .inl (cI, 7, .inl f_10)), (h3, .inl (cI, 28, .inl f16))] H := hP
        have hD : va_D A [(h0, .inr (0, [.int x1, .int x2, .ref h3, .ref h4, .int v_21, .int v_22, .int v_23, .ref h8, .ref h9, .int x10, .int x11, .int x12, .int x13, .int x14])), (h4, .inl (cI, 7, .inl f_10)), (h3, .inl (cI, 28, .inl f16))] := hD
        refine lv_if_eq (tgt := 22) hx hb dX0_settle_12 (by decide) (fun c_33 => ?_) (fun c_33 => ?_)
        · have fc_33 : v_24.toInt = (0 : Int) := i_eq rfl (by decide) c_33
          refine lv_iload_n hx hb dX0_settle_22 rfl (lv_at hl 0 rfl) ?_
          have hP9 := hP.sub (ws' := [(h0, .inr (0, [.int x1, .int x2, .ref h3, .ref h4, .int v_21, .int v_22, .int v_23, .ref h8, .ref h9, .int x10, .int x11, .int x12, .int x13, .int x14])), (h4, .inl (cI, 7, .inl f_10)), (h3, .inl (cI, 28, .inl f16))]) [0, 1, 2] rfl
          have hD9 := hD.sub (ws' := [(h0, .inr (0, [.int x1, .int x2, .ref h3, .ref h4, .int v_21, .int v_22, .int v_23, .ref h8, .ref h9, .int x10, .int x11, .int x12, .int x13, .int x14])), (h4, .inl (cI, 7, .inl f_10)), (h3, .inl (cI, 28, .inl f16))]) [0, 1, 2] (by decide) rfl
          exact xr_i (rm := (rmL 5 0 0)) hx hb hr hlocks hAe hS hP9 hD9 rfl (Nat.le_of_ble_eq_true rfl) (Nat.le_of_ble_eq_true rfl) dX0_settle_23 ⟨v_21, v_22, v_23, f_10, x_9, by omega, by omega, by omega, by omega, by omega, by omega, g_18.mono (by omega) (by omega) (by omega), rfl, rfl⟩
        · have fc_33 : v_24.toInt ≠ (0 : Int) := i_ne rfl (by decide) c_33
          refine lv_aload_n hx hb dX0_settle_15 rfl (lv_at hl 1 rfl) ?_
          refine va_get (D := D) (ci := 0) (v := .int v_21) (C := RX0) (T := TX0) (N := 14) hx hb hts inX0 hown hG.1 hP 0 rfl rfl 4 (by decide) (hts _ kw494) (fun _ h9 => h9) rfl dX0_settle_16 ?_
          refine lv_if_gt (tgt := 24) hx hb dX0_settle_19 (by decide) (fun c_34 => ?_) (fun c_34 => ?_)
          · have fc_34 : (0 : Int) < v_21.toInt := i_lt (by decide) rfl c_34
            refine lv_aload_n hx hb dX0_settle_24 rfl (lv_at hl 1 rfl) ?_
            refine va_get (D := D) (ci := 0) (v := .ref h4) (C := RX0) (T := TX0) (N := 14) hx hb hts inX0 hown hG.1 hP 0 rfl rfl 3 (by decide) (hts _ kw492) (fun _ h9 => h9) rfl dX0_settle_25 ?_
            refine lv_aload_n hx hb dX0_settle_28 rfl (lv_at hl 1 rfl) ?_
            refine va_get (D := D) (ci := 0) (v := .int v_22) (C := RX0) (T := TX0) (N := 14) hx hb hts inX0 hown hG.1 hP 0 rfl rfl 5 (by decide) (hts _ kw496) (fun _ h9 => h9) rfl dX0_settle_29 ?_
            refine xa_ildR hx hb hG hP 1 rfl (vp_in_iff.mpr ⟨by omega, by omega⟩) dX0_settle_32 (fun v_35 hv => ?_)
            have g_36 := hv _ _ _ g_18 (by omega)
            refine lv_istore_n (lv' := [(2, .int v_35), (1, .int x_9), (0, .ref h0)]) hx hb dX0_settle_33 rfl hl (by decide) rfl (fun ls hl => ?_)
            refine lv_aload_n hx hb dX0_settle_34 rfl (lv_at hl 2 rfl) ?_
            refine va_get (D := D) (ci := 0) (v := .ref h4) (C := RX0) (T := TX0) (N := 14) hx hb hts inX0 hown hG.1 hP 0 rfl rfl 3 (by decide) (hts _ kw492) (fun _ h9 => h9) rfl dX0_settle_35 ?_
            refine lv_aload_n hx hb dX0_settle_38 rfl (lv_at hl 2 rfl) ?_
            refine va_get (D := D) (ci := 0) (v := .int v_22) (C := RX0) (T := TX0) (N := 14) hx hb hts inX0 hown hG.1 hP 0 rfl rfl 5 (by decide) (hts _ kw496) (fun _ h9 => h9) rfl dX0_settle_39 ?_
            refine lv_aload_n hx hb dX0_settle_42 rfl (lv_at hl 2 rfl) ?_
            refine va_get (D := D) (ci := 0) (v := .ref h4) (C := RX0) (T := TX0) (N := 14) hx hb hts inX0 hown hG.1 hP 0 rfl rfl 3 (by decide) (hts _ kw492) (fun _ h9 => h9) rfl dX0_settle_43 ?_
            refine lv_aload_n hx hb dX0_settle_46 rfl (lv_at hl 2 rfl) ?_
            refine va_get (D := D) (ci := 0) (v := .int v_23) (C := RX0) (T := TX0) (N := 14) hx hb hts inX0 hown hG.1 hP 0 rfl rfl 6 (by decide) (hts _ kw498) (fun _ h9 => h9) rfl dX0_settle_47 ?_
            refine xa_ildR hx hb hG hP 1 rfl (vp_in_iff.mpr ⟨by omega, by omega⟩) dX0_settle_50 (fun v_37 hv => ?_)
            have g_38 := hv _ _ _ g_18 (by omega)
            refine xa_istS hx hb hG hP hD hS 1 rfl (vp_in_iff.mpr ⟨by omega, by omega⟩) dX0_settle_51 (fun f_39 H locs hu hu2 hP hD hS => ?_)
            have a_40 := hu _ _ _ g_18 (by intros; omega)
            have hP : va_P D vwCl [(h0, .inr (0, [.int x1, .int x2, .ref h3, .ref h4, .int v_21, .int v_22, .int v_23, .ref h8, .ref h9, .int x10, .int x11, .int x12, .int x13, .int x14])), (h4, .inl (cI, 7, .inl f_39)), (h3, .inl (cI, 28, .inl f16))] H := hP
            have hD : va_D A [(h0, .inr (0, [.int x1, .int x2, .ref h3, .ref h4, .int v_21, .int v_22, .int v_23, .ref h8, .ref h9, .int x10, .int x11, .int x12, .int x13, .int x14])), (h4, .inl (cI, 7, .inl f_39)), (h3, .inl (cI, 28, .inl f16))] := hD
            refine lv_aload_n hx hb dX0_settle_52 rfl (lv_at hl 2 rfl) ?_
            refine va_get (D := D) (ci := 0) (v := .ref h4) (C := RX0) (T := TX0) (N := 14) hx hb hts inX0 hown hG.1 hP 0 rfl rfl 3 (by decide) (hts _ kw492) (fun _ h9 => h9) rfl dX0_settle_53 ?_
            refine lv_aload_n hx hb dX0_settle_56 rfl (lv_at hl 2 rfl) ?_
            refine va_get (D := D) (ci := 0) (v := .int v_23) (C := RX0) (T := TX0) (N := 14) hx hb hts inX0 hown hG.1 hP 0 rfl rfl 6 (by decide) (hts _ kw498) (fun _ h9 => h9) rfl dX0_settle_57 ?_
            refine lv_iload_n hx hb dX0_settle_60 rfl (lv_at hl 0 rfl) ?_
            refine xa_istS hx hb hG hP hD hS 1 rfl (vp_in_iff.mpr ⟨by omega, by omega⟩) dX0_settle_61 (fun f_41 H locs hu hu2 hP hD hS => ?_)
            have a_42 := hu _ _ _ a_40 (by intros; omega)
            have hP : va_P D vwCl [(h0, .inr (0, [.int x1, .int x2, .ref h3, .ref h4, .int v_21, .int v_22, .int v_23, .ref h8, .ref h9, .int x10, .int x11, .int x12, .int x13, .int x14])), (h4, .inl (cI, 7, .inl f_41)), (h3, .inl (cI, 28, .inl f16))] H := hP
            have hD : va_D A [(h0, .inr (0, [.int x1, .int x2, .ref h3, .ref h4, .int v_21, .int v_22, .int v_23, .ref h8, .ref h9, .int x10, .int x11, .int x12, .int x13, .int x14])), (h4, .inl (cI, 7, .inl f_41)), (h3, .inl (cI, 28, .inl f16))] := hD
            obtain ⟨v_43, ev_43⟩ : ∃ y : Int32, y = x_9 + 1 := ⟨_, rfl⟩
            have gv_43 : v_43.toInt = x_9.toInt + 1 := by
              have zy : (1 : Int32).toInt = 1 := by decide
              rw [ev_43, i32_add (by rw [zy]; omega) (by rw [zy]; omega), zy]
            refine lv_iinc (v := v_43) (lv' := [(1, .int v_43), (2, .int v_35), (0, .ref h0)]) hx hb dX0_settle_62 hl (k := 1) rfl (by rw [ev_43]; rfl) (by decide) rfl (fun ls hl => ?_)
            refine lv_goto (tgt := 2) hx hb dX0_settle_65 (by decide) ?_
            exact ihlp_11  v_21 v_22 v_23 v_43 f_41 _ _ _ (by omega) (by omega) (by omega) (by omega) (by omega) (by omega) (a_42.mono (by omega) (by omega) (by omega)) (by omega) (hP.sub (ws' := [(h0, .inr (0, [.int x1, .int x2, .ref h3, .ref h4, .int v_21, .int v_22, .int v_23, .ref h8, .ref h9, .int x10, .int x11, .int x12, .int x13, .int x14])), (h4, .inl (cI, 7, .inl f_41)), (h3, .inl (cI, 28, .inl f16))]) [0, 1, 2] rfl) (hD.sub (ws' := [(h0, .inr (0, [.int x1, .int x2, .ref h3, .ref h4, .int v_21, .int v_22, .int v_23, .ref h8, .ref h9, .int x10, .int x11, .int x12, .int x13, .int x14])), (h4, .inl (cI, 7, .inl f_41)), (h3, .inl (cI, 28, .inl f16))]) [0, 1, 2] (by decide) rfl) hS (lv_sub hl [0, 2] rfl)
          · have fc_34 : v_21.toInt ≤ (0 : Int) := i_nlt (by decide) rfl c_34
            refine lv_iload_n hx hb dX0_settle_22 rfl (lv_at hl 0 rfl) ?_
            have hP9 := hP.sub (ws' := [(h0, .inr (0, [.int x1, .int x2, .ref h3, .ref h4, .int v_21, .int v_22, .int v_23, .ref h8, .ref h9, .int x10, .int x11, .int x12, .int x13, .int x14])), (h4, .inl (cI, 7, .inl f_10)), (h3, .inl (cI, 28, .inl f16))]) [0, 1, 2] rfl
            have hD9 := hD.sub (ws' := [(h0, .inr (0, [.int x1, .int x2, .ref h3, .ref h4, .int v_21, .int v_22, .int v_23, .ref h8, .ref h9, .int x10, .int x11, .int x12, .int x13, .int x14])), (h4, .inl (cI, 7, .inl f_10)), (h3, .inl (cI, 28, .inl f16))]) [0, 1, 2] (by decide) rfl
            exact xr_i (rm := (rmL 5 0 0)) hx hb hr hlocks hAe hS hP9 hD9 rfl (Nat.le_of_ble_eq_true rfl) (Nat.le_of_ble_eq_true rfl) dX0_settle_23 ⟨v_21, v_22, v_23, f_10, x_9, by omega, by omega, by omega, by omega, by omega, by omega, g_18.mono (by omega) (by omega) (by omega), rfl, rfl⟩
  exact lp_11 23 x5 x6 x7 0 f15 _ _ _ (by have zc0 : (0 : Int32).toInt = 0 := (by decide); omega) (by have zc0 : (0 : Int32).toInt = 0 := (by decide); omega) (by have zc0 : (0 : Int32).toInt = 0 := (by decide); omega) (by have zc0 : (0 : Int32).toInt = 0 := (by decide); omega) (by have zc0 : (0 : Int32).toInt = 0 := (by decide); omega) (by have zc0 : (0 : Int32).toInt = 0 := (by decide); omega) (ga0.mono (by have zc0 : (0 : Int32).toInt = 0 := (by decide); omega) (by have zc0 : (0 : Int32).toInt = 0 := (by decide); omega) (by have zc0 : (0 : Int32).toInt = 0 := (by decide); omega)) (by have zc0 : (0 : Int32).toInt = 0 := (by decide); omega) (hP.sub (ws' := [(h0, .inr (0, [.int x1, .int x2, .ref h3, .ref h4, .int x5, .int x6, .int x7, .ref h8, .ref h9, .int x10, .int x11, .int x12, .int x13, .int x14])), (h4, .inl (cI, 7, .inl f15)), (h3, .inl (cI, 28, .inl f16))]) [0, 1, 2] rfl) (hD.sub (ws' := [(h0, .inr (0, [.int x1, .int x2, .ref h3, .ref h4, .int x5, .int x6, .int x7, .ref h8, .ref h9, .int x10, .int x11, .int x12, .int x13, .int x14])), (h4, .inl (cI, 7, .inl f15)), (h3, .inl (cI, 28, .inl f16))]) [0, 1, 2] (by decide) rfl) hS (lv_sub hl [0, 1] rfl)
