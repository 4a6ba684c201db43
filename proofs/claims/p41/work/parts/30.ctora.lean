theorem dX5_init_0 : decode cX5_init 0 = .ok (.aload_n 0, 1) := by decide +kernel
theorem kw572 : (.methodLink RX5 3 objectInit : Cond) ∈ gT := gT_of 572 (by decide +kernel) (by decide +kernel)
theorem kw137 : (.instanceMethod objectInit : Cond) ∈ gT := gT_of 137 (by decide +kernel) (by decide +kernel)
theorem kw138 : (.code objectInit ⟨#[0xb1]⟩ 1 none : Cond) ∈ gT := gT_of 138 (by decide +kernel) (by decide +kernel)
theorem dX5_init_1 : decode cX5_init 1 = .ok (.invokespecial 3, 3) := by decide +kernel
theorem dX5_init_4 : decode cX5_init 4 = .ok (.aload_n 0, 1) := by decide +kernel
theorem dX5_init_5 : decode cX5_init 5 = .ok (.bipush 7, 2) := by decide +kernel
theorem kw188 : (.arrayClass .int : Cond) ∈ gT := gT_of 188 (by decide +kernel) (by decide +kernel)
theorem dX5_init_7 : decode cX5_init 7 = .ok (.newarray .int, 2) := by decide +kernel
theorem dX5_init_9 : decode cX5_init 9 = .ok (.putfield 9, 3) := by decide +kernel
theorem dX5_init_12 : decode cX5_init 12 = .ok (.return_, 1) := by decide +kernel
set_option maxHeartbeats 4000000 in
set_option maxRecDepth 100000 in
theorem cX5_init_1 (l : Launch) (D : va_G) (cB cI cJ cZ : ClassId) (aK aV : Nat → Nat) (h0 : Nat) : MX l yX5_init cX5_init 1 none (rmL 1 1 7) D cB cI cJ cZ aK aV [.ref h0] [(h0, .inr (5, [.null, .int 0]))] (fun r w1 => ∃ q_1 : Nat, r = none ∧ w1 = [(h0, .inr (5, [.ref q_1, .int 0])), (q_1, .inl (cI, 7, .inl (fun _ => 0)))]) := by
  refine MX.intro (by decide) (Nat.le_of_ble_eq_true rfl) ?_
  intro p e s m below meth c A ls hx hb hr hml hown hlocks hnm hts hG hE hA hS hP hD hl hAe
  have hl : lv_has ls 1 [(0, .ref h0)] := hl
  have hown : s.vm.findClass RX5 = some m.cls := hown
  refine lv_aload_n hx hb dX5_init_0 rfl (lv_at hl 0 rfl) ?_
  refine W.objInit hx hb hown (hts _ kw572) (hts _ kw137) (hts _ kw138) rfl (by rw [hml]; exact hl.1) rfl dX5_init_1 (Nat.le_of_ble_eq_true rfl) (Nat.le_of_ble_eq_true rfl) ?_
  refine W.eq (g2 := F0 m 4 ls []) rfl ?_
  refine lv_aload_n hx hb dX5_init_4 rfl (lv_at hl 0 rfl) ?_
  refine lv_bipush (v := 7) hx hb dX5_init_5 (by decide +kernel) ?_
  refine xn_newa (D := D) (a0 := (7, .inl (fun _ => 0))) (N' := 7) (k1 := 1) (n1 := 7) (cA := cI) hx hb (ty := .int) rfl hts kw188 hG hP hD hS hA 1 rfl (fun _ h9 => h9) (fun _ => rfl) (by decide) (by decide +kernel) (by decide) (Nat.le_of_ble_eq_true rfl) (Nat.le_of_ble_eq_true rfl) (Nat.le_of_ble_eq_true rfl) (Nat.le_of_ble_eq_true rfl) dX5_init_7 (fun q_1 H hP hD hS => ?_)
  have hP : va_P D vwCl [(h0, .inr (5, [.null, .int 0])), (q_1, .inl (cI, 7, .inl (fun _ => 0)))] H := hP
  have hD : va_D A [(h0, .inr (5, [.null, .int 0])), (q_1, .inl (cI, 7, .inl (fun _ => 0)))] := hD
  refine va_putF (D := D) (ci := 5) (v := .ref q_1) (ty := .array .int) (C := RX5) (T := TX5) (N := 2) hx hb hts inX5 tyX5 tyX5_ok nmX5 hown hG.1 hP hD hS 0 rfl rfl 0 (by decide) (hts _ kw573) (fun _ h9 => h9) rfl hnm rfl (by decide +kernel) rfl rfl (Nat.le_of_ble_eq_true rfl) dX5_init_9 (fun H locs hP hD hS => ?_)
  have hP : va_P D vwCl [(h0, .inr (5, [.ref q_1, .int 0])), (q_1, .inl (cI, 7, .inl (fun _ => 0)))] H := hP
  have hD : va_D A [(h0, .inr (5, [.ref q_1, .int 0])), (q_1, .inl (cI, 7, .inl (fun _ => 0)))] := hD
  have hP9 := hP.sub (ws' := [(h0, .inr (5, [.ref q_1, .int 0])), (q_1, .inl (cI, 7, .inl (fun _ => 0)))]) [0, 1] rfl
  have hD9 := hD.sub (ws' := [(h0, .inr (5, [.ref q_1, .int 0])), (q_1, .inl (cI, 7, .inl (fun _ => 0)))]) [0, 1] (by decide) rfl
  exact xr_v (rm := (rmL 1 1 7)) hx hb hr hlocks hAe hS hP9 hD9 (Nat.le_of_ble_eq_true rfl) (Nat.le_of_ble_eq_true rfl) dX5_init_12 ⟨q_1, rfl, rfl⟩
theorem dX7_init_0 : decode cX7_init 0 = .ok (.aload_n 0, 1) := by decide +kernel
theorem kw144 : (.methodLink RX7 1 objectInit : Cond) ∈ gT := gT_of 144 (by decide +kernel) (by decide +kernel)
theorem dX7_init_1 : decode cX7_init 1 = .ok (.invokespecial 1, 3) := by decide +kernel
theorem dX7_init_4 : decode cX7_init 4 = .ok (.aload_n 0, 1) := by decide +kernel
theorem dX7_init_5 : decode cX7_init 5 = .ok (.sipush 1600, 3) := by decide +kernel
theorem kw155 : (.arrayClass .byte : Cond) ∈ gT := gT_of 155 (by decide +kernel) (by decide +kernel)
theorem dX7_init_8 : decode cX7_init 8 = .ok (.newarray .byte, 2) := by decide +kernel
theorem dX7_init_10 : decode cX7_init 10 = .ok (.putfield 9, 3) := by decide +kernel
theorem dX7_init_13 : decode cX7_init 13 = .ok (.return_, 1) := by decide +kernel
set_option maxHeartbeats 4000000 in
set_option maxRecDepth 100000 in
theorem cX7_init_1 (l : Launch) (D : va_G) (cB cI cJ cZ : ClassId) (aK aV : Nat → Nat) (h0 : Nat) : MX l yX7_init cX7_init 1 none (rmL 1 1 1600) D cB cI cJ cZ aK aV [.ref h0] [(h0, .inr (7, [.null, .int 0]))] (fun r w1 => ∃ q_1 : Nat, r = none ∧ w1 = [(h0, .inr (7, [.ref q_1, .int 0])), (q_1, .inl (cB, 1600, .inl (fun _ => 0)))]) := by
  refine MX.intro (by decide) (Nat.le_of_ble_eq_true rfl) ?_
  intro p e s m below meth c A ls hx hb hr hml hown hlocks hnm hts hG hE hA hS hP hD hl hAe
  have hl : lv_has ls 1 [(0, .ref h0)] := hl
  have hown : s.vm.findClass RX7 = some m.cls := hown
  refine lv_aload_n hx hb dX7_init_0 rfl (lv_at hl 0 rfl) ?_
  refine W.objInit hx hb hown (hts _ kw144) (hts _ kw137) (hts _ kw138) rfl (by rw [hml]; exact hl.1) rfl dX7_init_1 (Nat.le_of_ble_eq_true rfl) (Nat.le_of_ble_eq_true rfl) ?_
  refine W.eq (g2 := F0 m 4 ls []) rfl ?_
  refine lv_aload_n hx hb dX7_init_4 rfl (lv_at hl 0 rfl) ?_
  refine lv_sipush (v := 1600) hx hb dX7_init_5 (by decide +kernel) ?_
  refine xn_newa (D := D) (a0 := (1600, .inl (fun _ => 0))) (N' := 1600) (k1 := 1) (n1 := 1600) (cA := cB) hx hb (ty := .byte) rfl hts kw155 hG hP hD hS hA 0 rfl (fun _ h9 => h9) (fun _ => rfl) (by decide) (by decide +kernel) (by decide) (Nat.le_of_ble_eq_true rfl) (Nat.le_of_ble_eq_true rfl) (Nat.le_of_ble_eq_true rfl) (Nat.le_of_ble_eq_true rfl) dX7_init_8 (fun q_1 H hP hD hS => ?_)
  have hP : va_P D vwCl [(h0, .inr (7, [.null, .int 0])), (q_1, .inl (cB, 1600, .inl (fun _ => 0)))] H := hP
  have hD : va_D A [(h0, .inr (7, [.null, .int 0])), (q_1, .inl (cB, 1600, .inl (fun _ => 0)))] := hD
  refine va_putF (D := D) (ci := 7) (v := .ref q_1) (ty := .array .byte) (C := RX7) (T := TX7) (N := 2) hx hb hts inX7 tyX7 tyX7_ok nmX7 hown hG.1 hP hD hS 0 rfl rfl 0 (by decide) (hts _ kw145) (fun _ h9 => h9) rfl hnm rfl (by decide +kernel) rfl rfl (Nat.le_of_ble_eq_true rfl) dX7_init_10 (fun H locs hP hD hS => ?_)
  have hP : va_P D vwCl [(h0, .inr (7, [.ref q_1, .int 0])), (q_1, .inl (cB, 1600, .inl (fun _ => 0)))] H := hP
  have hD : va_D A [(h0, .inr (7, [.ref q_1, .int 0])), (q_1, .inl (cB, 1600, .inl (fun _ => 0)))] := hD
  have hP9 := hP.sub (ws' := [(h0, .inr (7, [.ref q_1, .int 0])), (q_1, .inl (cB, 1600, .inl (fun _ => 0)))]) [0, 1] rfl
  have hD9 := hD.sub (ws' := [(h0, .inr (7, [.ref q_1, .int 0])), (q_1, .inl (cB, 1600, .inl (fun _ => 0)))]) [0, 1] (by decide) rfl
  exact xr_v (rm := (rmL 1 1 1600)) hx hb hr hlocks hAe hS hP9 hD9 (Nat.le_of_ble_eq_true rfl) (Nat.le_of_ble_eq_true rfl) dX7_init_13 ⟨q_1, rfl, rfl⟩
theorem dX1_init_0 : decode cX1_init 0 = .ok (.aload_n 0, 1) := by decide +kernel
theorem kw167 : (.methodLink RX1 1 objectInit : Cond) ∈ gT := gT_of 167 (by decide +kernel) (by decide +kernel)
theorem dX1_init_1 : decode cX1_init 1 = .ok (.invokespecial 1, 3) := by decide +kernel
theorem dX1_init_4 : decode cX1_init 4 = .ok (.aload_n 0, 1) := by decide +kernel
theorem dX1_init_5 : decode cX1_init 5 = .ok (.sipush 272, 3) := by decide +kernel
theorem dX1_init_8 : decode cX1_init 8 = .ok (.newarray .int, 2) := by decide +kernel
theorem dX1_init_10 : decode cX1_init 10 = .ok (.putfield 9, 3) := by decide +kernel
theorem dX1_init_13 : decode cX1_init 13 = .ok (.aload_n 0, 1) := by decide +kernel
theorem dX1_init_14 : decode cX1_init 14 = .ok (.bipush 30, 2) := by decide +kernel
theorem dX1_init_16 : decode cX1_init 16 = .ok (.newarray .int, 2) := by decide +kernel
theorem dX1_init_18 : decode cX1_init 18 = .ok (.putfield 13, 3) := by decide +kernel
theorem dX1_init_21 : decode cX1_init 21 = .ok (.return_, 1) := by decide +kernel
set_option maxHeartbeats 4000000 in
set_option maxRecDepth 100000 in
theorem cX1_init_1 (l : Launch) (D : va_G) (cB cI cJ cZ : ClassId) (aK aV : Nat → Nat) (h0 : Nat) : MX l yX1_init cX1_init 1 none (rmL 1 2 302) D cB cI cJ cZ aK aV [.ref h0] [(h0, .inr (1, [.null, .null, .int 0, .int 0, .int 0]))] (fun r w1 => ∃ q_1 : Nat, ∃ q_2 : Nat, r = none ∧ w1 = [(h0, .inr (1, [.ref q_1, .ref q_2, .int 0, .int 0, .int 0])), (q_1, .inl (cI, 272, .inl (fun _ => 0))), (q_2, .inl (cI, 30, .inl (fun _ => 0)))]) := by
  refine MX.intro (by decide) (Nat.le_of_ble_eq_true rfl) ?_
  intro p e s m below meth c A ls hx hb hr hml hown hlocks hnm hts hG hE hA hS hP hD hl hAe
  have hl : lv_has ls 1 [(0, .ref h0)] := hl
  have hown : s.vm.findClass RX1 = some m.cls := hown
  refine lv_aload_n hx hb dX1_init_0 rfl (lv_at hl 0 rfl) ?_
  refine W.objInit hx hb hown (hts _ kw167) (hts _ kw137) (hts _ kw138) rfl (by rw [hml]; exact hl.1) rfl dX1_init_1 (Nat.le_of_ble_eq_true rfl) (Nat.le_of_ble_eq_true rfl) ?_
  refine W.eq (g2 := F0 m 4 ls []) rfl ?_
  refine lv_aload_n hx hb dX1_init_4 rfl (lv_at hl 0 rfl) ?_
  refine lv_sipush (v := 272) hx hb dX1_init_5 (by decide +kernel) ?_
  refine xn_newa (D := D) (a0 := (272, .inl (fun _ => 0))) (N' := 272) (k1 := 1) (n1 := 272) (cA := cI) hx hb (ty := .int) rfl hts kw188 hG hP hD hS hA 1 rfl (fun _ h9 => h9) (fun _ => rfl) (by decide) (by decide +kernel) (by decide) (Nat.le_of_ble_eq_true rfl) (Nat.le_of_ble_eq_true rfl) (Nat.le_of_ble_eq_true rfl) (Nat.le_of_ble_eq_true rfl) dX1_init_8 (fun q_1 H hP hD hS => ?_)
  have hP : va_P D vwCl [(h0, .inr (1, [.null, .null, .int 0, .int 0, .int 0])), (q_1, .inl (cI, 272, .inl (fun _ => 0)))] H := hP
  have hD : va_D A [(h0, .inr (1, [.null, .null, .int 0, .int 0, .int 0])), (q_1, .inl (cI, 272, .inl (fun _ => 0)))] := hD
  refine va_putF (D := D) (ci := 1) (v := .ref q_1) (ty := .array .int) (C := RX1) (T := TX1) (N := 5) hx hb hts inX1 tyX1 tyX1_ok nmX1 hown hG.1 hP hD hS 0 rfl rfl 0 (by decide) (hts _ kw168) (fun _ h9 => h9) rfl hnm rfl (by decide +kernel) rfl rfl (Nat.le_of_ble_eq_true rfl) dX1_init_10 (fun H locs hP hD hS => ?_)
  have hP : va_P D vwCl [(h0, .inr (1, [.ref q_1, .null, .int 0, .int 0, .int 0])), (q_1, .inl (cI, 272, .inl (fun _ => 0)))] H := hP
  have hD : va_D A [(h0, .inr (1, [.ref q_1, .null, .int 0, .int 0, .int 0])), (q_1, .inl (cI, 272, .inl (fun _ => 0)))] := hD
  refine lv_aload_n hx hb dX1_init_13 rfl (lv_at hl 0 rfl) ?_
  refine lv_bipush (v := 30) hx hb dX1_init_14 (by decide +kernel) ?_
  refine xn_newa (D := D) (a0 := (30, .inl (fun _ => 0))) (N' := 30) (k1 := 2) (n1 := 302) (cA := cI) hx hb (ty := .int) rfl hts kw188 hG hP hD hS hA 1 rfl (fun _ h9 => h9) (fun _ => rfl) (by decide) (by decide +kernel) (by decide) (Nat.le_of_ble_eq_true rfl) (Nat.le_of_ble_eq_true rfl) (Nat.le_of_ble_eq_true rfl) (Nat.le_of_ble_eq_true rfl) dX1_init_16 (fun q_2 H hP hD hS => ?_)
  have hP : va_P D vwCl [(h0, .inr (1, [.ref q_1, .null, .int 0, .int 0, .int 0])), (q_1, .inl (cI, 272, .inl (fun _ => 0))), (q_2, .inl (cI, 30, .inl (fun _ => 0)))] H := hP
  have hD : va_D A [(h0, .inr (1, [.ref q_1, .null, .int 0, .int 0, .int 0])), (q_1, .inl (cI, 272, .inl (fun _ => 0))), (q_2, .inl (cI, 30, .inl (fun _ => 0)))] := hD
  refine va_putF (D := D) (ci := 1) (v := .ref q_2) (ty := .array .int) (C := RX1) (T := TX1) (N := 5) hx hb hts inX1 tyX1 tyX1_ok nmX1 hown hG.1 hP hD hS 0 rfl rfl 1 (by decide) (hts _ kw169) (fun _ h9 => h9) rfl hnm rfl (by decide +kernel) rfl rfl (Nat.le_of_ble_eq_true rfl) dX1_init_18 (fun H locs hP hD hS => ?_)
  have hP : va_P D vwCl [(h0, .inr (1, [.ref q_1, .ref q_2, .int 0, .int 0, .int 0])), (q_1, .inl (cI, 272, .inl (fun _ => 0))), (q_2, .inl (cI, 30, .inl (fun _ => 0)))] H := hP
  have hD : va_D A [(h0, .inr (1, [.ref q_1, .ref q_2, .int 0, .int 0, .int 0])), (q_1, .inl (cI, 272, .inl (fun _ => 0))), (q_2, .inl (cI, 30, .inl (fun _ => 0)))] := hD
  have hP9 := hP.sub (ws' := [(h0, .inr (1, [.ref q_1, .ref q_2, .int 0, .int 0, .int 0])), (q_1, .inl (cI, 272, .inl (fun _ => 0))), (q_2, .inl (cI, 30, .inl (fun _ => 0)))]) [0, 1, 2] rfl
  have hD9 := hD.sub (ws' := [(h0, .inr (1, [.ref q_1, .ref q_2, .int 0, .int 0, .int 0])), (q_1, .inl (cI, 272, .inl (fun _ => 0))), (q_2, .inl (cI, 30, .inl (fun _ => 0)))]) [0, 1, 2] (by decide) rfl
  exact xr_v (rm := (rmL 1 2 302)) hx hb hr hlocks hAe hS hP9 hD9 (Nat.le_of_ble_eq_true rfl) (Nat.le_of_ble_eq_true rfl) dX1_init_21 ⟨q_1, q_2, rfl, rfl⟩
theorem dX2_init_0 : decode cX2_init 0 = .ok (.aload_n 0, 1) := by decide +kernel
theorem kw467 : (.methodLink RX2 1 objectInit : Cond) ∈ gT := gT_of 467 (by decide +kernel) (by decide +kernel)
theorem dX2_init_1 : decode cX2_init 1 = .ok (.invokespecial 1, 3) := by decide +kernel
theorem dX2_init_4 : decode cX2_init 4 = .ok (.aload_n 0, 1) := by decide +kernel
theorem dX2_init_5 : decode cX2_init 5 = .ok (.sipush 1107, 3) := by decide +kernel
theorem dX2_init_8 : decode cX2_init 8 = .ok (.newarray .int, 2) := by decide +kernel
theorem dX2_init_10 : decode cX2_init 10 = .ok (.putfield 11, 3) := by decide +kernel
theorem dX2_init_13 : decode cX2_init 13 = .ok (.return_, 1) := by decide +kernel
set_option maxHeartbeats 4000000 in
set_option maxRecDepth 100000 in
theorem cX2_init_1 (l : Launch) (D : va_G) (cB cI cJ cZ : ClassId) (aK aV : Nat → Nat) (h0 : Nat) : MX l yX2_init cX2_init 1 none (rmL 1 1 1107) D cB cI cJ cZ aK aV [.ref h0] [(h0, .inr (2, [.null, .int 0, .int 0, .int 0]))] (fun r w1 => ∃ q_1 : Nat, r = none ∧ w1 = [(h0, .inr (2, [.ref q_1, .int 0, .int 0, .int 0])), (q_1, .inl (cI, 1107, .inl (fun _ => 0)))]) := by
  refine MX.intro (by decide) (Nat.le_of_ble_eq_true rfl) ?_
  intro p e s m below meth c A ls hx hb hr hml hown hlocks hnm hts hG hE hA hS hP hD hl hAe
  have hl : lv_has ls 1 [(0, .ref h0)] := hl
  have hown : s.vm.findClass RX2 = some m.cls := hown
  refine lv_aload_n hx hb dX2_init_0 rfl (lv_at hl 0 rfl) ?_
  refine W.objInit hx hb hown (hts _ kw467) (hts _ kw137) (hts _ kw138) rfl (by rw [hml]; exact hl.1) rfl dX2_init_1 (Nat.le_of_ble_eq_true rfl) (Nat.le_of_ble_eq_true rfl) ?_
  refine W.eq (g2 := F0 m 4 ls []) rfl ?_
  refine lv_aload_n hx hb dX2_init_4 rfl (lv_at hl 0 rfl) ?_
  refine lv_sipush (v := 1107) hx hb dX2_init_5 (by decide +kernel) ?_
  refine xn_newa (D := D) (a0 := (1107, .inl (fun _ => 0))) (N' := 1107) (k1 := 1) (n1 := 1107) (cA := cI) hx hb (ty := .int) rfl hts kw188 hG hP hD hS hA 1 rfl (fun _ h9 => h9) (fun _ => rfl) (by decide) (by decide +kernel) (by decide) (Nat.le_of_ble_eq_true rfl) (Nat.le_of_ble_eq_true rfl) (Nat.le_of_ble_eq_true rfl) (Nat.le_of_ble_eq_true rfl) dX2_init_8 (fun q_1 H hP hD hS => ?_)
  have hP : va_P D vwCl [(h0, .inr (2, [.null, .int 0, .int 0, .int 0])), (q_1, .inl (cI, 1107, .inl (fun _ => 0)))] H := hP
  have hD : va_D A [(h0, .inr (2, [.null, .int 0, .int 0, .int 0])), (q_1, .inl (cI, 1107, .inl (fun _ => 0)))] := hD
  refine va_putF (D := D) (ci := 2) (v := .ref q_1) (ty := .array .int) (C := RX2) (T := TX2) (N := 4) hx hb hts inX2 tyX2 tyX2_ok nmX2 hown hG.1 hP hD hS 0 rfl rfl 0 (by decide) (hts _ kw468) (fun _ h9 => h9) rfl hnm rfl (by decide +kernel) rfl rfl (Nat.le_of_ble_eq_true rfl) dX2_init_10 (fun H locs hP hD hS => ?_)
  have hP : va_P D vwCl [(h0, .inr (2, [.ref q_1, .int 0, .int 0, .int 0])), (q_1, .inl (cI, 1107, .inl (fun _ => 0)))] H := hP
  have hD : va_D A [(h0, .inr (2, [.ref q_1, .int 0, .int 0, .int 0])), (q_1, .inl (cI, 1107, .inl (fun _ => 0)))] := hD
  have hP9 := hP.sub (ws' := [(h0, .inr (2, [.ref q_1, .int 0, .int 0, .int 0])), (q_1, .inl (cI, 1107, .inl (fun _ => 0)))]) [0, 1] rfl
  have hD9 := hD.sub (ws' := [(h0, .inr (2, [.ref q_1, .int 0, .int 0, .int 0])), (q_1, .inl (cI, 1107, .inl (fun _ => 0)))]) [0, 1] (by decide) rfl
  exact xr_v (rm := (rmL 1 1 1107)) hx hb hr hlocks hAe hS hP9 hD9 (Nat.le_of_ble_eq_true rfl) (Nat.le_of_ble_eq_true rfl) dX2_init_13 ⟨q_1, rfl, rfl⟩
theorem dX0_init_0 : decode cX0_init 0 = .ok (.aload_n 0, 1) := by decide +kernel
theorem kw488 : (.methodLink RX0 3 objectInit : Cond) ∈ gT := gT_of 488 (by decide +kernel) (by decide +kernel)
theorem dX0_init_1 : decode cX0_init 1 = .ok (.invokespecial 3, 3) := by decide +kernel
theorem dX0_init_4 : decode cX0_init 4 = .ok (.aload_n 0, 1) := by decide +kernel
theorem dX0_init_5 : decode cX0_init 5 = .ok (.bipush 28, 2) := by decide +kernel
theorem dX0_init_7 : decode cX0_init 7 = .ok (.newarray .int, 2) := by decide +kernel
theorem dX0_init_9 : decode cX0_init 9 = .ok (.putfield 9, 3) := by decide +kernel
theorem dX0_init_12 : decode cX0_init 12 = .ok (.aload_n 0, 1) := by decide +kernel
theorem dX0_init_13 : decode cX0_init 13 = .ok (.bipush 7, 2) := by decide +kernel
theorem dX0_init_15 : decode cX0_init 15 = .ok (.newarray .int, 2) := by decide +kernel
theorem dX0_init_17 : decode cX0_init 17 = .ok (.putfield 15, 3) := by decide +kernel
theorem dX0_init_20 : decode cX0_init 20 = .ok (.aload_n 0, 1) := by decide +kernel
theorem dX0_init_21 : decode cX0_init 21 = .ok (.iconst 4, 1) := by decide +kernel
theorem dX0_init_22 : decode cX0_init 22 = .ok (.newarray .int, 2) := by decide +kernel
theorem dX0_init_24 : decode cX0_init 24 = .ok (.putfield 18, 3) := by decide +kernel
theorem dX0_init_27 : decode cX0_init 27 = .ok (.aload_n 0, 1) := by decide +kernel
theorem dX0_init_28 : decode cX0_init 28 = .ok (.iconst 4, 1) := by decide +kernel
theorem dX0_init_29 : decode cX0_init 29 = .ok (.newarray .int, 2) := by decide +kernel
theorem dX0_init_31 : decode cX0_init 31 = .ok (.putfield 21, 3) := by decide +kernel
theorem dX0_init_34 : decode cX0_init 34 = .ok (.return_, 1) := by decide +kernel
set_option maxHeartbeats 4000000 in
set_option maxRecDepth 100000 in
theorem cX0_init_1 (l : Launch) (D : va_G) (cB cI cJ cZ : ClassId) (aK aV : Nat → Nat) (h0 : Nat) : MX l yX0_init cX0_init 1 none (rmL 1 4 43) D cB cI cJ cZ aK aV [.ref h0] [(h0, .inr (0, [.int 0, .int 0, .null, .null, .int 0, .int 0, .int 0, .null, .null, .int 0, .int 0, .int 0, .int 0, .int 0]))] (fun r w1 => ∃ q_1 : Nat, ∃ q_2 : Nat, ∃ q_3 : Nat, ∃ q_4 : Nat, r = none ∧ w1 = [(h0, .inr (0, [.int 0, .int 0, .ref q_1, .ref q_2, .int 0, .int 0, .int 0, .ref q_3, .ref q_4, .int 0, .int 0, .int 0, .int 0, .int 0])), (q_1, .inl (cI, 28, .inl (fun _ => 0))), (q_2, .inl (cI, 7, .inl (fun _ => 0))), (q_3, .inl (cI, 4, .inl (fun _ => 0))), (q_4, .inl (cI, 4, .inl (fun _ => 0)))]) := by
  refine MX.intro (by decide) (Nat.le_of_ble_eq_true rfl) ?_
  intro p e s m below meth c A ls hx hb hr hml hown hlocks hnm hts hG hE hA hS hP hD hl hAe
  have hl : lv_has ls 1 [(0, .ref h0)] := hl
  have hown : s.vm.findClass RX0 = some m.cls := hown
  refine lv_aload_n hx hb dX0_init_0 rfl (lv_at hl 0 rfl) ?_
  refine W.objInit hx hb hown (hts _ kw488) (hts _ kw137) (hts _ kw138) rfl (by rw [hml]; exact hl.1) rfl dX0_init_1 (Nat.le_of_ble_eq_true rfl) (Nat.le_of_ble_eq_true rfl) ?_
  refine W.eq (g2 := F0 m 4 ls []) rfl ?_
  refine lv_aload_n hx hb dX0_init_4 rfl (lv_at hl 0 rfl) ?_
  refine lv_bipush (v := 28) hx hb dX0_init_5 (by decide +kernel) ?_
  refine xn_newa (D := D) (a0 := (28, .inl (fun _ => 0))) (N' := 28) (k1 := 1) (n1 := 28) (cA := cI) hx hb (ty := .int) rfl hts kw188 hG hP hD hS hA 1 rfl (fun _ h9 => h9) (fun _ => rfl) (by decide) (by decide +kernel) (by decide) (Nat.le_of_ble_eq_true rfl) (Nat.le_of_ble_eq_true rfl) (Nat.le_of_ble_eq_true rfl) (Nat.le_of_ble_eq_true rfl) dX0_init_7 (fun q_1 H hP hD hS => ?_)
  have hP : va_P D vwCl [(h0, .inr (0, [.int 0, .int 0, .null, .null, .int 0, .int 0, .int 0, .null, .null, .int 0, .int 0, .int 0, .int 0, .int 0])), (q_1, .inl (cI, 28, .inl (fun _ => 0)))] H := hP
  have hD : va_D A [(h0, .inr (0, [.int 0, .int 0, .null, .null, .int 0, .int 0, .int 0, .null, .null, .int 0, .int 0, .int 0, .int 0, .int 0])), (q_1, .inl (cI, 28, .inl (fun _ => 0)))] := hD
  refine va_putF (D := D) (ci := 0) (v := .ref q_1) (ty := .array .int) (C := RX0) (T := TX0) (N := 14) hx hb hts inX0 tyX0 tyX0_ok nmX0 hown hG.1 hP hD hS 0 rfl rfl 2 (by decide) (hts _ kw491) (fun _ h9 => h9) rfl hnm rfl (by decide +kernel) rfl rfl (Nat.le_of_ble_eq_true rfl) dX0_init_9 (fun H locs hP hD hS => ?_)
  have hP : va_P D vwCl [(h0, .inr (0, [.int 0, .int 0, .ref q_1, .null, .int 0, .int 0, .int 0, .null, .null, .int 0, .int 0, .int 0, .int 0, .int 0])), (q_1, .inl (cI, 28, .inl (fun _ => 0)))] H := hP
  have hD : va_D A [(h0, .inr (0, [.int 0, .int 0, .ref q_1, .null, .int 0, .int 0, .int 0, .null, .null, .int 0, .int 0, .int 0, .int 0, .int 0])), (q_1, .inl (cI, 28, .inl (fun _ => 0)))] := hD
  refine lv_aload_n hx hb dX0_init_12 rfl (lv_at hl 0 rfl) ?_
  refine lv_bipush (v := 7) hx hb dX0_init_13 (by decide +kernel) ?_
  refine xn_newa (D := D) (a0 := (7, .inl (fun _ => 0))) (N' := 7) (k1 := 2) (n1 := 35) (cA := cI) hx hb (ty := .int) rfl hts kw188 hG hP hD hS hA 1 rfl (fun _ h9 => h9) (fun _ => rfl) (by decide) (by decide +kernel) (by decide) (Nat.le_of_ble_eq_true rfl) (Nat.le_of_ble_eq_true rfl) (Nat.le_of_ble_eq_true rfl) (Nat.le_of_ble_eq_true rfl) dX0_init_15 (fun q_2 H hP hD hS => ?_)
  have hP : va_P D vwCl [(h0, .inr (0, [.int 0, .int 0, .ref q_1, .null, .int 0, .int 0, .int 0, .null, .null, .int 0, .int 0, .int 0, .int 0, .int 0])), (q_1, .inl (cI, 28, .inl (fun _ => 0))), (q_2, .inl (cI, 7, .inl (fun _ => 0)))] H := hP
  have hD : va_D A [(h0, .inr (0, [.int 0, .int 0, .ref q_1, .null, .int 0, .int 0, .int 0, .null, .null, .int 0, .int 0, .int 0, .int 0, .int 0])), (q_1, .inl (cI, 28, .inl (fun _ => 0))), (q_2, .inl (cI, 7, .inl (fun _ => 0)))] := hD
  refine va_putF (D := D) (ci := 0) (v := .ref q_2) (ty := .array .int) (C := RX0) (T := TX0) (N := 14) hx hb hts inX0 tyX0 tyX0_ok nmX0 hown hG.1 hP hD hS 0 rfl rfl 3 (by decide) (hts _ kw492) (fun _ h9 => h9) rfl hnm rfl (by decide +kernel) rfl rfl (Nat.le_of_ble_eq_true rfl) dX0_init_17 (fun H locs hP hD hS => ?_)
  have hP : va_P D vwCl [(h0, .inr (0, [.int 0, .int 0, .ref q_1, .ref q_2, .int 0, .int 0, .int 0, .null, .null, .int 0, .int 0, .int 0, .int 0, .int 0])), (q_1, .inl (cI, 28, .inl (fun _ => 0))), (q_2, .inl (cI, 7, .inl (fun _ => 0)))] H := hP
  have hD : va_D A [(h0, .inr (0, [.int 0, .int 0, .ref q_1, .ref q_2, .int 0, .int 0, .int 0, .null, .null, .int 0, .int 0, .int 0, .int 0, .int 0])), (q_1, .inl (cI, 28, .inl (fun _ => 0))), (q_2, .inl (cI, 7, .inl (fun _ => 0)))] := hD
  refine lv_aload_n hx hb dX0_init_20 rfl (lv_at hl 0 rfl) ?_
  refine lv_iconst (v := 4) hx hb dX0_init_21 (by decide +kernel) ?_
  refine xn_newa (D := D) (a0 := (4, .inl (fun _ => 0))) (N' := 4) (k1 := 3) (n1 := 39) (cA := cI) hx hb (ty := .int) rfl hts kw188 hG hP hD hS hA 1 rfl (fun _ h9 => h9) (fun _ => rfl) (by decide) (by decide +kernel) (by decide) (Nat.le_of_ble_eq_true rfl) (Nat.le_of_ble_eq_true rfl) (Nat.le_of_ble_eq_true rfl) (Nat.le_of_ble_eq_true rfl) dX0_init_22 (fun q_3 H hP hD hS => ?_)
  have hP : va_P D vwCl [(h0, .inr (0, [.int 0, .int 0, .ref q_1, .ref q_2, .int 0, .int 0, .int 0, .null, .null, .int 0, .int 0, .int 0, .int 0, .int 0])), (q_1, .inl (cI, 28, .inl (fun _ => 0))), (q_2, .inl (cI, 7, .inl (fun _ => 0))), (q_3, .inl (cI, 4, .inl (fun _ => 0)))] H := hP
  have hD : va_D A [(h0, .inr (0, [.int 0, .int 0, .ref q_1, .ref q_2, .int 0, .int 0, .int 0, .null, .null, .int 0, .int 0, .int 0, .int 0, .int 0])), (q_1, .inl (cI, 28, .inl (fun _ => 0))), (q_2, .inl (cI, 7, .inl (fun _ => 0))), (q_3, .inl (cI, 4, .inl (fun _ => 0)))] := hD
  refine va_putF (D := D) (ci := 0) (v := .ref q_3) (ty := .array .int) (C := RX0) (T := TX0) (N := 14) hx hb hts inX0 tyX0 tyX0_ok nmX0 hown hG.1 hP hD hS 0 rfl rfl 7 (by decide) (hts _ kw500) (fun _ h9 => h9) rfl hnm rfl (by decide +kernel) rfl rfl (Nat.le_of_ble_eq_true rfl) dX0_init_24 (fun H locs hP hD hS => ?_)
  have hP : va_P D vwCl [(h0, .inr (0, [.int 0, .int 0, .ref q_1, .ref q_2, .int 0, .int 0, .int 0, .ref q_3, .null, .int 0, .int 0, .int 0, .int 0, .int 0])), (q_1, .inl (cI, 28, .inl (fun _ => 0))), (q_2, .inl (cI, 7, .inl (fun _ => 0))), (q_3, .inl (cI, 4, .inl (fun _ => 0)))] H := hP
  have hD : va_D A [(h0, .inr (0, [.int 0, .int 0, .ref q_1, .ref q_2, .int 0, .int 0, .int 0, .ref q_3, .null, .int 0, .int 0, .int 0, .int 0, .int 0])), (q_1, .inl (cI, 28, .inl (fun _ => 0))), (q_2, .inl (cI, 7, .inl (fun _ => 0))), (q_3, .inl (cI, 4, .inl (fun _ => 0)))] := hD
  refine lv_aload_n hx hb dX0_init_27 rfl (lv_at hl 0 rfl) ?_
  refine lv_iconst (v := 4) hx hb dX0_init_28 (by decide +kernel) ?_
  refine xn_newa (D := D) (a0 := (4, .inl (fun _ => 0))) (N' := 4) (k1 := 4) (n1 := 43) (cA := cI) hx hb (ty := .int) rfl hts kw188 hG hP hD hS hA 1 rfl (fun _ h9 => h9) (fun _ => rfl) (by decide) (by decide +kernel) (by decide) (Nat.le_of_ble_eq_true rfl) (Nat.le_of_ble_eq_true rfl) (Nat.le_of_ble_eq_true rfl) (Nat.le_of_ble_eq_true rfl) dX0_init_29 (fun q_4 H hP hD hS => ?_)
  have hP : va_P D vwCl [(h0, .inr (0, [.int 0, .int 0, .ref q_1, .ref q_2, .int 0, .int 0, .int 0, .ref q_3, .null, .int 0, .int 0, .int 0, .int 0, .int 0])), (q_1, .inl (cI, 28, .inl (fun _ => 0))), (q_2, .inl (cI, 7, .inl (fun _ => 0))), (q_3, .inl (cI, 4, .inl (fun _ => 0))), (q_4, .inl (cI, 4, .inl (fun _ => 0)))] H := hP
  have hD : va_D A [(h0, .inr (0, [.int 0, .int 0, .ref q_1, .ref q_2, .int 0, .int 0, .int 0, .ref q_3, .null, .int 0, .int 0, .int 0, .int 0, .int 0])), (q_1, .inl (cI, 28, .inl (fun _ => 0))), (q_2, .inl (cI, 7, .inl (fun _ => 0))), (q_3, .inl (cI, 4, .inl (fun _ => 0))), (q_4, .inl (cI, 4, .inl (fun _ => 0)))] := hD
  refine va_putF (D := D) (ci := 0) (v := .ref q_4) (ty := .array .int) (C := RX0) (T := TX0) (N := 14) hx hb hts inX0 tyX0 tyX0_ok nmX0 hown hG.1 hP hD hS 0 rfl rfl 8 (by decide) (hts _ kw501) (fun _ h9 => h9) rfl hnm rfl (by decide +kernel) rfl rfl (Nat.le_of_ble_eq_true rfl) dX0_init_31 (fun H locs hP hD hS => ?_)
  have hP : va_P D vwCl [(h0, .inr (0, [.int 0, .int 0, .ref q_1, .ref q_2, .int 0, .int 0, .int 0, .ref q_3, .ref q_4, .int 0, .int 0, .int 0, .int 0, .int 0])), (q_1, .inl (cI, 28, .inl (fun _ => 0))), (q_2, .inl (cI, 7, .inl (fun _ => 0))), (q_3, .inl (cI, 4, .inl (fun _ => 0))), (q_4, .inl (cI, 4, .inl (fun _ => 0)))] H := hP
  have hD : va_D A [(h0, .inr (0, [.int 0, .int 0, .ref q_1, .ref q_2, .int 0, .int 0, .int 0, .ref q_3, .ref q_4, .int 0, .int 0, .int 0, .int 0, .int 0])), (q_1, .inl (cI, 28, .inl (fun _ => 0))), (q_2, .inl (cI, 7, .inl (fun _ => 0))), (q_3, .inl (cI, 4, .inl (fun _ => 0))), (q_4, .inl (cI, 4, .inl (fun _ => 0)))] := hD
  have hP9 := hP.sub (ws' := [(h0, .inr (0, [.int 0, .int 0, .ref q_1, .ref q_2, .int 0, .int 0, .int 0, .ref q_3, .ref q_4, .int 0, .int 0, .int 0, .int 0, .int 0])), (q_1, .inl (cI, 28, .inl (fun _ => 0))), (q_2, .inl (cI, 7, .inl (fun _ => 0))), (q_3, .inl (cI, 4, .inl (fun _ => 0))), (q_4, .inl (cI, 4, .inl (fun _ => 0)))]) [0, 1, 2, 3, 4] rfl
  have hD9 := hD.sub (ws' := [(h0, .inr (0, [.int 0, .int 0, .ref q_1, .ref q_2, .int 0, .int 0, .int 0, .ref q_3, .ref q_4, .int 0, .int 0, .int 0, .int 0, .int 0])), (q_1, .inl (cI, 28, .inl (fun _ => 0))), (q_2, .inl (cI, 7, .inl (fun _ => 0))), (q_3, .inl (cI, 4, .inl (fun _ => 0))), (q_4, .inl (cI, 4, .inl (fun _ => 0)))]) [0, 1, 2, 3, 4] (by decide) rfl
  exact xr_v (rm := (rmL 1 4 43)) hx hb hr hlocks hAe hS hP9 hD9 (Nat.le_of_ble_eq_true rfl) (Nat.le_of_ble_eq_true rfl) dX0_init_34 ⟨q_1, q_2, q_3, q_4, rfl, rfl⟩
theorem dX6_init_0 : decode cX6_init 0 = .ok (.aload_n 0, 1) := by decide +kernel
theorem kw545 : (.methodLink RX6 3 objectInit : Cond) ∈ gT := gT_of 545 (by decide +kernel) (by decide +kernel)
theorem dX6_init_1 : decode cX6_init 1 = .ok (.invokespecial 3, 3) := by decide +kernel
theorem dX6_init_4 : decode cX6_init 4 = .ok (.aload_n 0, 1) := by decide +kernel
theorem dX6_init_5 : decode cX6_init 5 = .ok (.bipush 30, 2) := by decide +kernel
theorem dX6_init_7 : decode cX6_init 7 = .ok (.newarray .int, 2) := by decide +kernel
theorem dX6_init_9 : decode cX6_init 9 = .ok (.putfield 11, 3) := by decide +kernel
theorem dX6_init_12 : decode cX6_init 12 = .ok (.aload_n 0, 1) := by decide +kernel
theorem dX6_init_13 : decode cX6_init 13 = .ok (.bipush 30, 2) := by decide +kernel
theorem dX6_init_15 : decode cX6_init 15 = .ok (.newarray .int, 2) := by decide +kernel
theorem dX6_init_17 : decode cX6_init 17 = .ok (.putfield 15, 3) := by decide +kernel
theorem dX6_init_20 : decode cX6_init 20 = .ok (.aload_n 0, 1) := by decide +kernel
theorem dX6_init_21 : decode cX6_init 21 = .ok (.bipush 30, 2) := by decide +kernel
theorem kw566 : (.arrayClass .boolean : Cond) ∈ gT := gT_of 566 (by decide +kernel) (by decide +kernel)
theorem dX6_init_23 : decode cX6_init 23 = .ok (.newarray .boolean, 2) := by decide +kernel
theorem dX6_init_25 : decode cX6_init 25 = .ok (.putfield 18, 3) := by decide +kernel
theorem dX6_init_28 : decode cX6_init 28 = .ok (.aload_n 0, 1) := by decide +kernel
theorem dX6_init_29 : decode cX6_init 29 = .ok (.bipush 30, 2) := by decide +kernel
theorem dX6_init_31 : decode cX6_init 31 = .ok (.newarray .int, 2) := by decide +kernel
theorem dX6_init_33 : decode cX6_init 33 = .ok (.putfield 22, 3) := by decide +kernel
theorem dX6_init_36 : decode cX6_init 36 = .ok (.aload_n 0, 1) := by decide +kernel
theorem dX6_init_37 : decode cX6_init 37 = .ok (.bipush 30, 2) := by decide +kernel
theorem dX6_init_39 : decode cX6_init 39 = .ok (.newarray .int, 2) := by decide +kernel
theorem dX6_init_41 : decode cX6_init 41 = .ok (.putfield 25, 3) := by decide +kernel
theorem dX6_init_44 : decode cX6_init 44 = .ok (.return_, 1) := by decide +kernel
set_option maxHeartbeats 4000000 in
set_option maxRecDepth 100000 in
theorem cX6_init_1 (l : Launch) (D : va_G) (cB cI cJ cZ : ClassId) (aK aV : Nat → Nat) (h0 : Nat) : MX l yX6_init cX6_init 1 none (rmL 1 5 150) D cB cI cJ cZ aK aV [.ref h0] [(h0, .inr (6, [.null, .null, .null, .null, .null, .int 0]))] (fun r w1 => ∃ q_1 : Nat, ∃ q_2 : Nat, ∃ q_3 : Nat, ∃ q_4 : Nat, ∃ q_5 : Nat, r = none ∧ w1 = [(h0, .inr (6, [.ref q_1, .ref q_2, .ref q_3, .ref q_4, .ref q_5, .int 0])), (q_1, .inl (cI, 30, .inl (fun _ => 0))), (q_2, .inl (cI, 30, .inl (fun _ => 0))), (q_3, .inl (cZ, 30, .inl (fun _ => 0))), (q_4, .inl (cI, 30, .inl (fun _ => 0))), (q_5, .inl (cI, 30, .inl (fun _ => 0)))]) := by
  refine MX.intro (by decide) (Nat.le_of_ble_eq_true rfl) ?_
  intro p e s m below meth c A ls hx hb hr hml hown hlocks hnm hts hG hE hA hS hP hD hl hAe
  have hl : lv_has ls 1 [(0, .ref h0)] := hl
  have hown : s.vm.findClass RX6 = some m.cls := hown
  refine lv_aload_n hx hb dX6_init_0 rfl (lv_at hl 0 rfl) ?_
  refine W.objInit hx hb hown (hts _ kw545) (hts _ kw137) (hts _ kw138) rfl (by rw [hml]; exact hl.1) rfl dX6_init_1 (Nat.le_of_ble_eq_true rfl) (Nat.le_of_ble_eq_true rfl) ?_
  refine W.eq (g2 := F0 m 4 ls []) rfl ?_
  refine lv_aload_n hx hb dX6_init_4 rfl (lv_at hl 0 rfl) ?_
  refine lv_bipush (v := 30) hx hb dX6_init_5 (by decide +kernel) ?_
  refine xn_newa (D := D) (a0 := (30, .inl (fun _ => 0))) (N' := 30) (k1 := 1) (n1 := 30) (cA := cI) hx hb (ty := .int) rfl hts kw188 hG hP hD hS hA 1 rfl (fun _ h9 => h9) (fun _ => rfl) (by decide) (by decide +kernel) (by decide) (Nat.le_of_ble_eq_true rfl) (Nat.le_of_ble_eq_true rfl) (Nat.le_of_ble_eq_true rfl) (Nat.le_of_ble_eq_true rfl) dX6_init_7 (fun q_1 H hP hD hS => ?_)
  have hP : va_P D vwCl [(h0, .inr (6, [.null, .null, .null, .null, .null, .int 0])), (q_1, .inl (cI, 30, .inl (fun _ => 0)))] H := hP
  have hD : va_D A [(h0, .inr (6, [.null, .null, .null, .null, .null, .int 0])), (q_1, .inl (cI, 30, .inl (fun _ => 0)))] := hD
  refine va_putF (D := D) (ci := 6) (v := .ref q_1) (ty := .array .int) (C := RX6) (T := TX6) (N := 6) hx hb hts inX6 tyX6 tyX6_ok nmX6 hown hG.1 hP hD hS 0 rfl rfl 0 (by decide) (hts _ kw546) (fun _ h9 => h9) rfl hnm rfl (by decide +kernel) rfl rfl (Nat.le_of_ble_eq_true rfl) dX6_init_9 (fun H locs hP hD hS => ?_)
  have hP : va_P D vwCl [(h0, .inr (6, [.ref q_1, .null, .null, .null, .null, .int 0])), (q_1, .inl (cI, 30, .inl (fun _ => 0)))] H := hP
  have hD : va_D A [(h0, .inr (6, [.ref q_1, .null, .null, .null, .null, .int 0])), (q_1, .inl (cI, 30, .inl (fun _ => 0)))] := hD
  refine lv_aload_n hx hb dX6_init_12 rfl (lv_at hl 0 rfl) ?_
  refine lv_bipush (v := 30) hx hb dX6_init_13 (by decide +kernel) ?_
  refine xn_newa (D := D) (a0 := (30, .inl (fun _ => 0))) (N' := 30) (k1 := 2) (n1 := 60) (cA := cI) hx hb (ty := .int) rfl hts kw188 hG hP hD hS hA 1 rfl (fun _ h9 => h9) (fun _ => rfl) (by decide) (by decide +kernel) (by decide) (Nat.le_of_ble_eq_true rfl) (Nat.le_of_ble_eq_true rfl) (Nat.le_of_ble_eq_true rfl) (Nat.le_of_ble_eq_true rfl) dX6_init_15 (fun q_2 H hP hD hS => ?_)
  have hP : va_P D vwCl [(h0, .inr (6, [.ref q_1, .null, .null, .null, .null, .int 0])), (q_1, .inl (cI, 30, .inl (fun _ => 0))), (q_2, .inl (cI, 30, .inl (fun _ => 0)))] H := hP
  have hD : va_D A [(h0, .inr (6, [.ref q_1, .null, .null, .null, .null, .int 0])), (q_1, .inl (cI, 30, .inl (fun _ => 0))), (q_2, .inl (cI, 30, .inl (fun _ => 0)))] := hD
  refine va_putF (D := D) (ci := 6) (v := .ref q_2) (ty := .array .int) (C := RX6) (T := TX6) (N := 6) hx hb hts inX6 tyX6 tyX6_ok nmX6 hown hG.1 hP hD hS 0 rfl rfl 1 (by decide) (hts _ kw547) (fun _ h9 => h9) rfl hnm rfl (by decide +kernel) rfl rfl (Nat.le_of_ble_eq_true rfl) dX6_init_17 (fun H locs hP hD hS => ?_)
  have hP : va_P D vwCl [(h0, .inr (6, [.ref q_1, .ref q_2, .null, .null, .null, .int 0])), (q_1, .inl (cI, 30, .inl (fun _ => 0))), (q_2, .inl (cI, 30, .inl (fun _ => 0)))] H := hP
  have hD : va_D A [(h0, .inr (6, [.ref q_1, .ref q_2, .null, .null, .null, .int 0])), (q_1, .inl (cI, 30, .inl (fun _ => 0))), (q_2, .inl (cI, 30, .inl (fun _ => 0)))] := hD
  refine lv_aload_n hx hb dX6_init_20 rfl (lv_at hl 0 rfl) ?_
  refine lv_bipush (v := 30) hx hb dX6_init_21 (by decide +kernel) ?_
  refine xn_newa (D := D) (a0 := (30, .inl (fun _ => 0))) (N' := 30) (k1 := 3) (n1 := 90) (cA := cZ) hx hb (ty := .boolean) rfl hts kw566 hG hP hD hS hA 3 rfl (fun _ h9 => h9) (fun _ => rfl) (by decide) (by decide +kernel) (by decide) (Nat.le_of_ble_eq_true rfl) (Nat.le_of_ble_eq_true rfl) (Nat.le_of_ble_eq_true rfl) (Nat.le_of_ble_eq_true rfl) dX6_init_23 (fun q_3 H hP hD hS => ?_)
  have hP : va_P D vwCl [(h0, .inr (6, [.ref q_1, .ref q_2, .null, .null, .null, .int 0])), (q_1, .inl (cI, 30, .inl (fun _ => 0))), (q_2, .inl (cI, 30, .inl (fun _ => 0))), (q_3, .inl (cZ, 30, .inl (fun _ => 0)))] H := hP
  have hD : va_D A [(h0, .inr (6, [.ref q_1, .ref q_2, .null, .null, .null, .int 0])), (q_1, .inl (cI, 30, .inl (fun _ => 0))), (q_2, .inl (cI, 30, .inl (fun _ => 0))), (q_3, .inl (cZ, 30, .inl (fun _ => 0)))] := hD
  refine va_putF (D := D) (ci := 6) (v := .ref q_3) (ty := .array .boolean) (C := RX6) (T := TX6) (N := 6) hx hb hts inX6 tyX6 tyX6_ok nmX6 hown hG.1 hP hD hS 0 rfl rfl 2 (by decide) (hts _ kw548) (fun _ h9 => h9) rfl hnm rfl (by decide +kernel) rfl rfl (Nat.le_of_ble_eq_true rfl) dX6_init_25 (fun H locs hP hD hS => ?_)
  have hP : va_P D vwCl [(h0, .inr (6, [.ref q_1, .ref q_2, .ref q_3, .null, .null, .int 0])), (q_1, .inl (cI, 30, .inl (fun _ => 0))), (q_2, .inl (cI, 30, .inl (fun _ => 0))), (q_3, .inl (cZ, 30, .inl (fun _ => 0)))] H := hP
  have hD : va_D A [(h0, .inr (6, [.ref q_1, .ref q_2, .ref q_3, .null, .null, .int 0])), (q_1, .inl (cI, 30, .inl (fun _ => 0))), (q_2, .inl (cI, 30, .inl (fun _ => 0))), (q_3, .inl (cZ, 30, .inl (fun _ => 0)))] := hD
  refine lv_aload_n hx hb dX6_init_28 rfl (lv_at hl 0 rfl) ?_
  refine lv_bipush (v := 30) hx hb dX6_init_29 (by decide +kernel) ?_
  refine xn_newa (D := D) (a0 := (30, .inl (fun _ => 0))) (N' := 30) (k1 := 4) (n1 := 120) (cA := cI) hx hb (ty := .int) rfl hts kw188 hG hP hD hS hA 1 rfl (fun _ h9 => h9) (fun _ => rfl) (by decide) (by decide +kernel) (by decide) (Nat.le_of_ble_eq_true rfl) (Nat.le_of_ble_eq_true rfl) (Nat.le_of_ble_eq_true rfl) (Nat.le_of_ble_eq_true rfl) dX6_init_31 (fun q_4 H hP hD hS => ?_)
  have hP : va_P D vwCl [(h0, .inr (6, [.ref q_1, .ref q_2, .ref q_3, .null, .null, .int 0])), (q_1, .inl (cI, 30, .inl (fun _ => 0))), (q_2, .inl (cI, 30, .inl (fun _ => 0))), (q_3, .inl (cZ, 30, .inl (fun _ => 0))), (q_4, .inl (cI, 30, .inl (fun _ => 0)))] H := hP
  have hD : va_D A [(h0, .inr (6, [.ref q_1, .ref q_2, .ref q_3, .null, .null, .int 0])), (q_1, .inl (cI, 30, .inl (fun _ => 0))), (q_2, .inl (cI, 30, .inl (fun _ => 0))), (q_3, .inl (cZ, 30, .inl (fun _ => 0))), (q_4, .inl (cI, 30, .inl (fun _ => 0)))] := hD
  refine va_putF (D := D) (ci := 6) (v := .ref q_4) (ty := .array .int) (C := RX6) (T := TX6) (N := 6) hx hb hts inX6 tyX6 tyX6_ok nmX6 hown hG.1 hP hD hS 0 rfl rfl 3 (by decide) (hts _ kw549) (fun _ h9 => h9) rfl hnm rfl (by decide +kernel) rfl rfl (Nat.le_of_ble_eq_true rfl) dX6_init_33 (fun H locs hP hD hS => ?_)
  have hP : va_P D vwCl [(h0, .inr (6, [.ref q_1, .ref q_2, .ref q_3, .ref q_4, .null, .int 0])), (q_1, .inl (cI, 30, .inl (fun _ => 0))), (q_2, .inl (cI, 30, .inl (fun _ => 0))), (q_3, .inl (cZ, 30, .inl (fun _ => 0))), (q_4, .inl (cI, 30, .inl (fun _ => 0)))] H := hP
  have hD : va_D A [(h0, .inr (6, [.ref q_1, .ref q_2, .ref q_3, .ref q_4, .null, .int 0])), (q_1, .inl (cI, 30, .inl (fun _ => 0))), (q_2, .inl (cI, 30, .inl (fun _ => 0))), (q_3, .inl (cZ, 30, .inl (fun _ => 0))), (q_4, .inl (cI, 30, .inl (fun _ => 0)))] := hD
  refine lv_aload_n hx hb dX6_init_36 rfl (lv_at hl 0 rfl) ?_
  refine lv_bipush (v := 30) hx hb dX6_init_37 (by decide +kernel) ?_
  refine xn_newa (D := D) (a0 := (30, .inl (fun _ => 0))) (N' := 30) (k1 := 5) (n1 := 150) (cA := cI) hx hb (ty := .int) rfl hts kw188 hG hP hD hS hA 1 rfl (fun _ h9 => h9) (fun _ => rfl) (by decide) (by decide +kernel) (by decide) (Nat.le_of_ble_eq_true rfl) (Nat.le_of_ble_eq_true rfl) (Nat.le_of_ble_eq_true rfl) (Nat.le_of_ble_eq_true rfl) dX6_init_39 (fun q_5 H hP hD hS => ?_)
  have hP : va_P D vwCl [(h0, .inr (6, [.ref q_1, .ref q_2, .ref q_3, .ref q_4, .null, .int 0])), (q_1, .inl (cI, 30, .inl (fun _ => 0))), (q_2, .inl (cI, 30, .inl (fun _ => 0))), (q_3, .inl (cZ, 30, .inl (fun _ => 0))), (q_4, .inl (cI, 30, .inl (fun _ => 0))), (q_5, .inl (cI, 30, .inl (fun _ => 0)))] H := hP
  have hD : va_D A [(h0, .inr (6, [.ref q_1, .ref q_2, .ref q_3, .ref q_4, .null, .int 0])), (q_1, .inl (cI, 30, .inl (fun _ => 0))), (q_2, .inl (cI, 30, .inl (fun _ => 0))), (q_3, .inl (cZ, 30, .inl (fun _ => 0))), (q_4, .inl (cI, 30, .inl (fun _ => 0))), (q_5, .inl (cI, 30, .inl (fun _ => 0)))] := hD
  refine va_putF (D := D) (ci := 6) (v := .ref q_5) (ty := .array .int) (C := RX6) (T := TX6) (N := 6) hx hb hts inX6 tyX6 tyX6_ok nmX6 hown hG.1 hP hD hS 0 rfl rfl 4 (by decide) (hts _ kw550) (fun _ h9 => h9) rfl hnm rfl (by decide +kernel) rfl rfl (Nat.le_of_ble_eq_true rfl) dX6_init_41 (fun H locs hP hD hS => ?_)
  have hP : va_P D vwCl [(h0, .inr (6, [.ref q_1, .ref q_2, .ref q_3, .ref q_4, .ref q_5, .int 0])), (q_1, .inl (cI, 30, .inl (fun _ => 0))), (q_2, .inl (cI, 30, .inl (fun _ => 0))), (q_3, .inl (cZ, 30, .inl (fun _ => 0))), (q_4, .inl (cI, 30, .inl (fun _ => 0))), (q_5, .inl (cI, 30, .inl (fun _ => 0)))] H := hP
  have hD : va_D A [(h0, .inr (6, [.ref q_1, .ref q_2, .ref q_3, .ref q_4, .ref q_5, .int 0])), (q_1, .inl (cI, 30, .inl (fun _ => 0))), (q_2, .inl (cI, 30, .inl (fun _ => 0))), (q_3, .inl (cZ, 30, .inl (fun _ => 0))), (q_4, .inl (cI, 30, .inl (fun _ => 0))), (q_5, .inl (cI, 30, .inl (fun _ => 0)))] := hD
  have hP9 := hP.sub (ws' := [(h0, .inr (6, [.ref q_1, .ref q_2, .ref q_3, .ref q_4, .ref q_5, .int 0])), (q_1, .inl (cI, 30, .inl (fun _ => 0))), (q_2, .inl (cI, 30, .inl (fun _ => 0))), (q_3, .inl (cZ, 30, .inl (fun _ => 0))), (q_4, .inl (cI, 30, .inl (fun _ => 0))), (q_5, .inl (cI, 30, .inl (fun _ => 0)))]) [0, 1, 2, 3, 4, 5] rfl
  have hD9 := hD.sub (ws' := [(h0, .inr (6, [.ref q_1, .ref q_2, .ref q_3, .ref q_4, .ref q_5, .int 0])), (q_1, .inl (cI, 30, .inl (fun _ => 0))), (q_2, .inl (cI, 30, .inl (fun _ => 0))), (q_3, .inl (cZ, 30, .inl (fun _ => 0))), (q_4, .inl (cI, 30, .inl (fun _ => 0))), (q_5, .inl (cI, 30, .inl (fun _ => 0)))]) [0, 1, 2, 3, 4, 5] (by decide) rfl
  exact xr_v (rm := (rmL 1 5 150)) hx hb hr hlocks hAe hS hP9 hD9 (Nat.le_of_ble_eq_true rfl) (Nat.le_of_ble_eq_true rfl) dX6_init_44 ⟨q_1, q_2, q_3, q_4, q_5, rfl, rfl⟩
theorem dX8_init_0 : decode cX8_init 0 = .ok (.aload_n 0, 1) := by decide +kernel
theorem kw161 : (.methodLink RX8 3 objectInit : Cond) ∈ gT := gT_of 161 (by decide +kernel) (by decide +kernel)
theorem dX8_init_1 : decode cX8_init 1 = .ok (.invokespecial 3, 3) := by decide +kernel
theorem dX8_init_4 : decode cX8_init 4 = .ok (.aload_n 0, 1) := by decide +kernel
theorem dX8_init_5 : decode cX8_init 5 = .ok (.iconst 4, 1) := by decide +kernel
theorem dX8_init_6 : decode cX8_init 6 = .ok (.newarray .int, 2) := by decide +kernel
theorem kw212 : (.fieldLink RX8 9 "SpiceSwaps$Told" "goldOf" "[I" : Cond) ∈ gT := gT_of 212 (by decide +kernel) (by decide +kernel)
theorem dX8_init_8 : decode cX8_init 8 = .ok (.putfield 9, 3) := by decide +kernel
theorem dX8_init_11 : decode cX8_init 11 = .ok (.aload_n 0, 1) := by decide +kernel
theorem dX8_init_12 : decode cX8_init 12 = .ok (.iconst 3, 1) := by decide +kernel
theorem dX8_init_13 : decode cX8_init 13 = .ok (.newarray .int, 2) := by decide +kernel
theorem kw215 : (.fieldLink RX8 15 "SpiceSwaps$Told" "priceOf" "[I" : Cond) ∈ gT := gT_of 215 (by decide +kernel) (by decide +kernel)
theorem dX8_init_15 : decode cX8_init 15 = .ok (.putfield 15, 3) := by decide +kernel
theorem dX8_init_18 : decode cX8_init 18 = .ok (.aload_n 0, 1) := by decide +kernel
theorem dX8_init_19 : decode cX8_init 19 = .ok (.bipush 7, 2) := by decide +kernel
theorem dX8_init_21 : decode cX8_init 21 = .ok (.newarray .int, 2) := by decide +kernel
theorem kw219 : (.fieldLink RX8 18 "SpiceSwaps$Told" "holderOf" "[I" : Cond) ∈ gT := gT_of 219 (by decide +kernel) (by decide +kernel)
theorem dX8_init_23 : decode cX8_init 23 = .ok (.putfield 18, 3) := by decide +kernel
theorem dX8_init_26 : decode cX8_init 26 = .ok (.aload_n 0, 1) := by decide +kernel
theorem dX8_init_27 : decode cX8_init 27 = .ok (.bipush 7, 2) := by decide +kernel
theorem dX8_init_29 : decode cX8_init 29 = .ok (.newarray .int, 2) := by decide +kernel
theorem kw222 : (.fieldLink RX8 21 "SpiceSwaps$Told" "yieldOf" "[I" : Cond) ∈ gT := gT_of 222 (by decide +kernel) (by decide +kernel)
theorem dX8_init_31 : decode cX8_init 31 = .ok (.putfield 21, 3) := by decide +kernel
theorem dX8_init_34 : decode cX8_init 34 = .ok (.aload_n 0, 1) := by decide +kernel
theorem dX8_init_35 : decode cX8_init 35 = .ok (.bipush 7, 2) := by decide +kernel
theorem dX8_init_37 : decode cX8_init 37 = .ok (.newarray .int, 2) := by decide +kernel
theorem kw225 : (.fieldLink RX8 24 "SpiceSwaps$Told" "cropOf" "[I" : Cond) ∈ gT := gT_of 225 (by decide +kernel) (by decide +kernel)
theorem dX8_init_39 : decode cX8_init 39 = .ok (.putfield 24, 3) := by decide +kernel
theorem dX8_init_42 : decode cX8_init 42 = .ok (.aload_n 0, 1) := by decide +kernel
theorem dX8_init_43 : decode cX8_init 43 = .ok (.bipush 7, 2) := by decide +kernel
theorem dX8_init_45 : decode cX8_init 45 = .ok (.newarray .int, 2) := by decide +kernel
theorem kw228 : (.fieldLink RX8 27 "SpiceSwaps$Told" "harbourOf" "[I" : Cond) ∈ gT := gT_of 228 (by decide +kernel) (by decide +kernel)
theorem dX8_init_47 : decode cX8_init 47 = .ok (.putfield 27, 3) := by decide +kernel
theorem dX8_init_50 : decode cX8_init 50 = .ok (.aload_n 0, 1) := by decide +kernel
theorem dX8_init_51 : decode cX8_init 51 = .ok (.bipush 7, 2) := by decide +kernel
theorem dX8_init_53 : decode cX8_init 53 = .ok (.newarray .int, 2) := by decide +kernel
theorem kw233 : (.fieldLink RX8 30 "SpiceSwaps$Told" "garrisonOf" "[I" : Cond) ∈ gT := gT_of 233 (by decide +kernel) (by decide +kernel)
theorem dX8_init_55 : decode cX8_init 55 = .ok (.putfield 30, 3) := by decide +kernel
theorem dX8_init_58 : decode cX8_init 58 = .ok (.aload_n 0, 1) := by decide +kernel
theorem dX8_init_59 : decode cX8_init 59 = .ok (.bipush 28, 2) := by decide +kernel
theorem dX8_init_61 : decode cX8_init 61 = .ok (.newarray .int, 2) := by decide +kernel
theorem dX8_init_63 : decode cX8_init 63 = .ok (.putfield 33, 3) := by decide +kernel
theorem dX8_init_66 : decode cX8_init 66 = .ok (.aload_n 0, 1) := by decide +kernel
theorem kw162 : (.classLink RX8 36 RX1 : Cond) ∈ gT := gT_of 162 (by decide +kernel) (by decide +kernel)
theorem kw163 : (.instantiable RX1 5 : Cond) ∈ gT := gT_of 163 (by decide +kernel) (by decide +kernel)
theorem dX8_init_67 : decode cX8_init 67 = .ok (.new 36, 3) := by decide +kernel
theorem dX8_init_70 : decode cX8_init 70 = .ok (.dup, 1) := by decide +kernel
theorem kw166 : (.code yX1_init cX1_init 1 none : Cond) ∈ gT := gT_of 166 (by decide +kernel) (by decide +kernel)
theorem kw165 : (.instanceMethod yX1_init : Cond) ∈ gT := gT_of 165 (by decide +kernel) (by decide +kernel)
theorem dX8_init_71 : decode cX8_init 71 = .ok (.invokespecial 38, 3) := by decide +kernel
theorem dX8_init_74 : decode cX8_init 74 = .ok (.putfield 39, 3) := by decide +kernel
theorem dX8_init_77 : decode cX8_init 77 = .ok (.aload_n 0, 1) := by decide +kernel
theorem dX8_init_78 : decode cX8_init 78 = .ok (.new 36, 3) := by decide +kernel
theorem dX8_init_81 : decode cX8_init 81 = .ok (.dup, 1) := by decide +kernel
theorem dX8_init_82 : decode cX8_init 82 = .ok (.invokespecial 38, 3) := by decide +kernel
theorem dX8_init_85 : decode cX8_init 85 = .ok (.putfield 43, 3) := by decide +kernel
theorem dX8_init_88 : decode cX8_init 88 = .ok (.aload_n 0, 1) := by decide +kernel
set_option maxHeartbeats 4000000 in
set_option maxRecDepth 100000 in
theorem cX1_forget_2 (l : Launch) (D : va_G) (cB cI cJ cZ : ClassId) (aK aV : Nat → Nat) (h0 : Nat) (h1 : Nat) (h2 : Nat) : MX l yX1_forget cX1_forget 1 none (rmL 1 0 0) D cB cI cJ cZ aK aV [.ref h0] [(h0, .inr (1, [.ref h1, .ref h2, .int 0, .int 0, .int 0]))] (fun r w1 => r = none ∧ w1 = [(h0, .inr (1, [.ref h1, .ref h2, .int 0, .int 0, .int 0]))]) := by
  refine MX.intro (by decide) (Nat.le_of_ble_eq_true rfl) ?_
  intro p e s m below meth c A ls hx hb hr hml hown hlocks hnm hts hG hE hA hS hP hD hl hAe
  have hl : lv_has ls 1 [(0, .ref h0)] := hl
  have hown : s.vm.findClass RX1 = some m.cls := hown
  refine lv_aload_n hx hb dX1_forget_0 rfl (lv_at hl 0 rfl) ?_
  refine lv_iconst (v := 0) hx hb dX1_forget_1 (by decide +kernel) ?_
  refine va_put (D := D) (ci := 1) (v := .int 0) (ty := .int) (C := RX1) (T := TX1) (N := 5) hx hb hts inX1 tyX1 tyX1_ok nmX1 hown hG.1 hP hD hS 0 rfl rfl 2 (by decide) (hts _ kw170) (fun _ h9 => h9) rfl (by decide +kernel) rfl rfl (Nat.le_of_ble_eq_true rfl) dX1_forget_2 (fun H locs hP hD hS => ?_)
  have hP : va_P D vwCl [(h0, .inr (1, [.ref h1, .ref h2, .int 0, .int 0, .int 0]))] H := hP
  have hD : va_D A [(h0, .inr (1, [.ref h1, .ref h2, .int 0, .int 0, .int 0]))] := hD
  refine lv_aload_n hx hb dX1_forget_5 rfl (lv_at hl 0 rfl) ?_
  refine lv_iconst (v := 0) hx hb dX1_forget_6 (by decide +kernel) ?_
  refine va_put (D := D) (ci := 1) (v := .int 0) (ty := .int) (C := RX1) (T := TX1) (N := 5) hx hb hts inX1 tyX1 tyX1_ok nmX1 hown hG.1 hP hD hS 0 rfl rfl 3 (by decide) (hts _ kw171) (fun _ h9 => h9) rfl (by decide +kernel) rfl rfl (Nat.le_of_ble_eq_true rfl) dX1_forget_7 (fun H locs hP hD hS => ?_)
  have hP : va_P D vwCl [(h0, .inr (1, [.ref h1, .ref h2, .int 0, .int 0, .int 0]))] H := hP
  have hD : va_D A [(h0, .inr (1, [.ref h1, .ref h2, .int 0, .int 0, .int 0]))] := hD
  refine lv_aload_n hx hb dX1_forget_10 rfl (lv_at hl 0 rfl) ?_
  refine lv_iconst (v := 0) hx hb dX1_forget_11 (by decide +kernel) ?_
  refine va_put (D := D) (ci := 1) (v := .int 0) (ty := .boolean) (C := RX1) (T := TX1) (N := 5) hx hb hts inX1 tyX1 tyX1_ok nmX1 hown hG.1 hP hD hS 0 rfl rfl 4 (by decide) (hts _ kw174) (fun _ h9 => h9) rfl (by decide +kernel) (by decide +kernel) (by decide +kernel) (Nat.le_of_ble_eq_true rfl) dX1_forget_12 (fun H locs hP hD hS => ?_)
  have hP : va_P D vwCl [(h0, .inr (1, [.ref h1, .ref h2, .int 0, .int 0, .int 0]))] H := hP
  have hD : va_D A [(h0, .inr (1, [.ref h1, .ref h2, .int 0, .int 0, .int 0]))] := hD
  have hP9 := hP.sub (ws' := [(h0, .inr (1, [.ref h1, .ref h2, .int 0, .int 0, .int 0]))]) [0] rfl
  have hD9 := hD.sub (ws' := [(h0, .inr (1, [.ref h1, .ref h2, .int 0, .int 0, .int 0]))]) [0] (by decide) rfl
  exact xr_v (rm := (rmL 1 0 0)) hx hb hr hlocks hAe hS hP9 hD9 (Nat.le_of_ble_eq_true rfl) (Nat.le_of_ble_eq_true rfl) dX1_forget_15 ⟨rfl, rfl⟩
set_option maxHeartbeats 4000000 in
set_option maxRecDepth 100000 in
theorem cX8_forget_2 (l : Launch) (D : va_G) (cB cI cJ cZ : ClassId) (aK aV : Nat → Nat) (h0 : Nat) (h1 : Nat) (h2 : Nat) (h3 : Nat) (h4 : Nat) (h5 : Nat) (h6 : Nat) (h7 : Nat) (h8 : Nat) (h9 : Nat) (h10 : Nat) (f11 : Nat → Int32) (h12 : Nat) (h13 : Nat) (h14 : Nat) (h15 : Nat) : MX l yX8_forget cX8_forget 2 none (rmL 2 0 0) D cB cI cJ cZ aK aV [.ref h0] [(h0, .inr (8, [.int 0, .int 0, .int 0, .ref h1, .ref h2, .ref h3, .ref h4, .ref h5, .ref h6, .ref h7, .ref h8, .ref h9, .ref h10, .int 0, .int 0, .int 0, .int 0, .int 0])), (h8, .inl (cI, 28, .inl f11)), (h9, .inr (1, [.ref h12, .ref h13, .int 0, .int 0, .int 0])), (h10, .inr (1, [.ref h14, .ref h15, .int 0, .int 0, .int 0]))] (fun r w1 => ∃ f_28 : Nat → Int32, r = none ∧ w1 = [(h0, .inr (8, [.int 0, .int 0, .int 0, .ref h1, .ref h2, .ref h3, .ref h4, .ref h5, .ref h6, .ref h7, .ref h8, .ref h9, .ref h10, .int 0, .int 1, .int 0, .int 0, .int 0])), (h8, .inl (cI, 28, .inl f_28)), (h9, .inr (1, [.ref h12, .ref h13, .int 0, .int 0, .int 0])), (h10, .inr (1, [.ref h14, .ref h15, .int 0, .int 0, .int 0]))]) := by
  refine MX.intro (by decide) (Nat.le_of_ble_eq_true rfl) ?_
  intro p e s m below meth c A ls hx hb hr hml hown hlocks hnm hts hG hE hA hS hP hD hl hAe
  have hl : lv_has ls 2 [(0, .ref h0)] := hl
  have hown : s.vm.findClass RX8 = some m.cls := hown
  refine lv_aload_n hx hb dX8_forget_0 rfl (lv_at hl 0 rfl) ?_
  refine lv_iconst (v := 0) hx hb dX8_forget_1 (by decide +kernel) ?_
  refine va_put (D := D) (ci := 8) (v := .int 0) (ty := .int) (C := RX8) (T := TX8) (N := 18) hx hb hts inX8 tyX8 tyX8_ok nmX8 hown hG.1 hP hD hS 0 rfl rfl 0 (by decide) (hts _ kw197) (fun _ h9 => h9) rfl (by decide +kernel) rfl rfl (Nat.le_of_ble_eq_true rfl) dX8_forget_2 (fun H locs hP hD hS => ?_)
  have hP : va_P D vwCl [(h0, .inr (8, [.int 0, .int 0, .int 0, .ref h1, .ref h2, .ref h3, .ref h4, .ref h5, .ref h6, .ref h7, .ref h8, .ref h9, .ref h10, .int 0, .int 0, .int 0, .int 0, .int 0])), (h8, .inl (cI, 28, .inl f11)), (h9, .inr (1, [.ref h12, .ref h13, .int 0, .int 0, .int 0])), (h10, .inr (1, [.ref h14, .ref h15, .int 0, .int 0, .int 0]))] H := hP
  have hD : va_D A [(h0, .inr (8, [.int 0, .int 0, .int 0, .ref h1, .ref h2, .ref h3, .ref h4, .ref h5, .ref h6, .ref h7, .ref h8, .ref h9, .ref h10, .int 0, .int 0, .int 0, .int 0, .int 0])), (h8, .inl (cI, 28, .inl f11)), (h9, .inr (1, [.ref h12, .ref h13, .int 0, .int 0, .int 0])), (h10, .inr (1, [.ref h14, .ref h15, .int 0, .int 0, .int 0]))] := hD
  refine lv_aload_n hx hb dX8_forget_5 rfl (lv_at hl 0 rfl) ?_
  refine lv_iconst (v := 0) hx hb dX8_forget_6 (by decide +kernel) ?_
  refine va_put (D := D) (ci := 8) (v := .int 0) (ty := .int) (C := RX8) (T := TX8) (N := 18) hx hb hts inX8 tyX8 tyX8_ok nmX8 hown hG.1 hP hD hS 0 rfl rfl 1 (by decide) (hts _ kw202) (fun _ h9 => h9) rfl (by decide +kernel) rfl rfl (Nat.le_of_ble_eq_true rfl) dX8_forget_7 (fun H locs hP hD hS => ?_)
  have hP : va_P D vwCl [(h0, .inr (8, [.int 0, .int 0, .int 0, .ref h1, .ref h2, .ref h3, .ref h4, .ref h5, .ref h6, .ref h7, .ref h8, .ref h9, .ref h10, .int 0, .int 0, .int 0, .int 0, .int 0])), (h8, .inl (cI, 28, .inl f11)), (h9, .inr (1, [.ref h12, .ref h13, .int 0, .int 0, .int 0])), (h10, .inr (1, [.ref h14, .ref h15, .int 0, .int 0, .int 0]))] H := hP
  have hD : va_D A [(h0, .inr (8, [.int 0, .int 0, .int 0, .ref h1, .ref h2, .ref h3, .ref h4, .ref h5, .ref h6, .ref h7, .ref h8, .ref h9, .ref h10, .int 0, .int 0, .int 0, .int 0, .int 0])), (h8, .inl (cI, 28, .inl f11)), (h9, .inr (1, [.ref h12, .ref h13, .int 0, .int 0, .int 0])), (h10, .inr (1, [.ref h14, .ref h15, .int 0, .int 0, .int 0]))] := hD
  refine lv_aload_n hx hb dX8_forget_10 rfl (lv_at hl 0 rfl) ?_
  refine lv_iconst (v := 0) hx hb dX8_forget_11 (by decide +kernel) ?_
  refine va_put (D := D) (ci := 8) (v := .int 0) (ty := .int) (C := RX8) (T := TX8) (N := 18) hx hb hts inX8 tyX8 tyX8_ok nmX8 hown hG.1 hP hD hS 0 rfl rfl 2 (by decide) (hts _ kw206) (fun _ h9 => h9) rfl (by decide +kernel) rfl rfl (Nat.le_of_ble_eq_true rfl) dX8_forget_12 (fun H locs hP hD hS => ?_)
  have hP : va_P D vwCl [(h0, .inr (8, [.int 0, .int 0, .int 0, .ref h1, .ref h2, .ref h3, .ref h4, .ref h5, .ref h6, .ref h7, .ref h8, .ref h9, .ref h10, .int 0, .int 0, .int 0, .int 0, .int 0])), (h8, .inl (cI, 28, .inl f11)), (h9, .inr (1, [.ref h12, .ref h13, .int 0, .int 0, .int 0])), (h10, .inr (1, [.ref h14, .ref h15, .int 0, .int 0, .int 0]))] H := hP
  have hD : va_D A [(h0, .inr (8, [.int 0, .int 0, .int 0, .ref h1, .ref h2, .ref h3, .ref h4, .ref h5, .ref h6, .ref h7, .ref h8, .ref h9, .ref h10, .int 0, .int 0, .int 0, .int 0, .int 0])), (h8, .inl (cI, 28, .inl f11)), (h9, .inr (1, [.ref h12, .ref h13, .int 0, .int 0, .int 0])), (h10, .inr (1, [.ref h14, .ref h15, .int 0, .int 0, .int 0]))] := hD
  refine lv_iconst (v := 0) hx hb dX8_forget_15 (by decide +kernel) ?_
  refine lv_istore_n (lv' := [(1, .int 0), (0, .ref h0)]) hx hb dX8_forget_16 rfl hl (by decide) rfl (fun ls hl => ?_)
  refine lv_iload_n hx hb dX8_forget_17 rfl (lv_at hl 0 rfl) ?_
  refine lv_aload_n hx hb dX8_forget_18 rfl (lv_at hl 1 rfl) ?_
  refine va_get (D := D) (ci := 8) (v := .ref h8) (C := RX8) (T := TX8) (N := 18) hx hb hts inX8 hown hG.1 hP 0 rfl rfl 10 (by decide) (hts _ kw237) (fun _ h9 => h9) rfl dX8_forget_19 ?_
  refine xa_alen (v := 28) hx hb hG hP 1 1 rfl rfl rfl dX8_forget_22 ?_
  refine lv_icmp_ge (tgt := 39) hx hb dX8_forget_23 (by decide) (fun h => absurd h (by decide +kernel)) (fun _ => ?_)
  refine lv_aload_n hx hb dX8_forget_26 rfl (lv_at hl 1 rfl) ?_
  refine va_get (D := D) (ci := 8) (v := .ref h8) (C := RX8) (T := TX8) (N := 18) hx hb hts inX8 hown hG.1 hP 0 rfl rfl 10 (by decide) (hts _ kw237) (fun _ h9 => h9) rfl dX8_forget_27 ?_
  refine lv_iload_n hx hb dX8_forget_30 rfl (lv_at hl 0 rfl) ?_
  refine lv_iconst (v := (-1)) hx hb dX8_forget_31 (by decide +kernel) ?_
  refine xa_istU hx hb hG hP hD hS 1 rfl (vin (by decide +kernel)) dX8_forget_32 (fun f_1 H locs hP hD hS => ?_)
  have hP : va_P D vwCl [(h0, .inr (8, [.int 0, .int 0, .int 0, .ref h1, .ref h2, .ref h3, .ref h4, .ref h5, .ref h6, .ref h7, .ref h8, .ref h9, .ref h10, .int 0, .int 0, .int 0, .int 0, .int 0])), (h8, .inl (cI, 28, .inl f_1)), (h9, .inr (1, [.ref h12, .ref h13, .int 0, .int 0, .int 0])), (h10, .inr (1, [.ref h14, .ref h15, .int 0, .int 0, .int 0]))] H := hP
  have hD : va_D A [(h0, .inr (8, [.int 0, .int 0, .int 0, .ref h1, .ref h2, .ref h3, .ref h4, .ref h5, .ref h6, .ref h7, .ref h8, .ref h9, .ref h10, .int 0, .int 0, .int 0, .int 0, .int 0])), (h8, .inl (cI, 28, .inl f_1)), (h9, .inr (1, [.ref h12, .ref h13, .int 0, .int 0, .int 0])), (h10, .inr (1, [.ref h14, .ref h15, .int 0, .int 0, .int 0]))] := hD
  refine lv_iinc (v := 1) (lv' := [(1, .int 1), (0, .ref h0)]) hx hb dX8_forget_33 hl (k := 0) rfl (by decide +kernel) (by decide) rfl (fun ls hl => ?_)
  refine lv_goto (tgt := 17) hx hb dX8_forget_36 (by decide) ?_
  refine lv_iload_n hx hb dX8_forget_17 rfl (lv_at hl 0 rfl) ?_
  refine lv_aload_n hx hb dX8_forget_18 rfl (lv_at hl 1 rfl) ?_
  refine va_get (D := D) (ci := 8) (v := .ref h8) (C := RX8) (T := TX8) (N := 18) hx hb hts inX8 hown hG.1 hP 0 rfl rfl 10 (by decide) (hts _ kw237) (fun _ h9 => h9) rfl dX8_forget_19 ?_
  refine xa_alen (v := 28) hx hb hG hP 1 1 rfl rfl rfl dX8_forget_22 ?_
  refine lv_icmp_ge (tgt := 39) hx hb dX8_forget_23 (by decide) (fun h => absurd h (by decide +kernel)) (fun _ => ?_)
  refine lv_aload_n hx hb dX8_forget_26 rfl (lv_at hl 1 rfl) ?_
  refine va_get (D := D) (ci := 8) (v := .ref h8) (C := RX8) (T := TX8) (N := 18) hx hb hts inX8 hown hG.1 hP 0 rfl rfl 10 (by decide) (hts _ kw237) (fun _ h9 => h9) rfl dX8_forget_27 ?_
  refine lv_iload_n hx hb dX8_forget_30 rfl (lv_at hl 0 rfl) ?_
  refine lv_iconst (v := (-1)) hx hb dX8_forget_31 (by decide +kernel) ?_
  refine xa_istU hx hb hG hP hD hS 1 rfl (vin (by decide +kernel)) dX8_forget_32 (fun f_2 H locs hP hD hS => ?_)
  have hP : va_P D vwCl [(h0, .inr (8, [.int 0, .int 0, .int 0, .ref h1, .ref h2, .ref h3, .ref h4, .ref h5, .ref h6, .ref h7, .ref h8, .ref h9, .ref h10, .int 0, .int 0, .int 0, .int 0, .int 0])), (h8, .inl (cI, 28, .inl f_2)), (h9, .inr (1, [.ref h12, .ref h13, .int 0, .int 0, .int 0])), (h10, .inr (1, [.ref h14, .ref h15, .int 0, .int 0, .int 0]))] H := hP
  have hD : va_D A [(h0, .inr (8, [.int 0, .int 0, .int 0, .ref h1, .ref h2, .ref h3, .ref h4, .ref h5, .ref h6, .ref h7, .ref h8, .ref h9, .ref h10, .int 0, .int 0, .int 0, .int 0, .int 0])), (h8, .inl (cI, 28, .inl f_2)), (h9, .inr (1, [.ref h12, .ref h13, .int 0, .int 0, .int 0])), (h10, .inr (1, [.ref h14, .ref h15, .int 0, .int 0, .int 0]))] := hD
  refine lv_iinc (v := 2) (lv' := [(1, .int 2), (0, .ref h0)]) hx hb dX8_forget_33 hl (k := 0) rfl (by decide +kernel) (by decide) rfl (fun ls hl => ?_)
  refine lv_goto (tgt := 17) hx hb dX8_forget_36 (by decide) ?_
  refine lv_iload_n hx hb dX8_forget_17 rfl (lv_at hl 0 rfl) ?_
  refine lv_aload_n hx hb dX8_forget_18 rfl (lv_at hl 1 rfl) ?_
  refine va_get (D := D) (ci := 8) (v := .ref h8) (C := RX8) (T := TX8) (N := 18) hx hb hts inX8 hown hG.1 hP 0 rfl rfl 10 (by decide) (hts _ kw237) (fun _ h9 => h9) rfl dX8_forget_19 ?_
  refine xa_alen (v := 28) hx hb hG hP 1 1 rfl rfl rfl dX8_forget_22 ?_
  refine lv_icmp_ge (tgt := 39) hx hb dX8_forget_23 (by decide) (fun h => absurd h (by decide +kernel)) (fun _ => ?_)
  refine lv_aload_n hx hb dX8_forget_26 rfl (lv_at hl 1 rfl) ?_
  refine va_get (D := D) (ci := 8) (v := .ref h8) (C := RX8) (T := TX8) (N := 18) hx hb hts inX8 hown hG.1 hP 0 rfl rfl 10 (by decide) (hts _ kw237) (fun _ h9 => h9) rfl dX8_forget_27 ?_
  refine lv_iload_n hx hb dX8_forget_30 rfl (lv_at hl 0 rfl) ?_
  refine lv_iconst (v := (-1)) hx hb dX8_forget_31 (by decide +kernel) ?_
  refine xa_istU hx hb hG hP hD hS 1 rfl (vin (by decide +kernel)) dX8_forget_32 (fun f_3 H locs hP hD hS => ?_)
  have hP : va_P D vwCl [(h0, .inr (8, [.int 0, .int 0, .int 0, .ref h1, .ref h2, .ref h3, .ref h4, .ref h5, .ref h6, .ref h7, .ref h8, .ref h9, .ref h10, .int 0, .int 0, .int 0, .int 0, .int 0])), (h8, .inl (cI, 28, .inl f_3)), (h9, .inr (1, [.ref h12, .ref h13, .int 0, .int 0, .int 0])), (h10, .inr (1, [.ref h14, .ref h15, .int 0, .int 0, .int 0]))] H := hP
  have hD : va_D A [(h0, .inr (8, [.int 0, .int 0, .int 0, .ref h1, .ref h2, .ref h3, .ref h4, .ref h5, .ref h6, .ref h7, .ref h8, .ref h9, .ref h10, .int 0, .int 0, .int 0, .int 0, .int 0])), (h8, .inl (cI, 28, .inl f_3)), (h9, .inr (1, [.ref h12, .ref h13, .int 0, .int 0, .int 0])), (h10, .inr (1, [.ref h14, .ref h15, .int 0, .int 0, .int 0]))] := hD
  refine lv_iinc (v := 3) (lv' := [(1, .int 3), (0, .ref h0)]) hx hb dX8_forget_33 hl (k := 0) rfl (by decide +kernel) (by decide) rfl (fun ls hl => ?_)
  refine lv_goto (tgt := 17) hx hb dX8_forget_36 (by decide) ?_
  refine lv_iload_n hx hb dX8_forget_17 rfl (lv_at hl 0 rfl) ?_
  refine lv_aload_n hx hb dX8_forget_18 rfl (lv_at hl 1 rfl) ?_
  refine va_get (D := D) (ci := 8) (v := .ref h8) (C := RX8) (T := TX8) (N := 18) hx hb hts inX8 hown hG.1 hP 0 rfl rfl 10 (by decide) (hts _ kw237) (fun _ h9 => h9) rfl dX8_forget_19 ?_
  refine xa_alen (v := 28) hx hb hG hP 1 1 rfl rfl rfl dX8_forget_22 ?_
  refine lv_icmp_ge (tgt := 39) hx hb dX8_forget_23 (by decide) (fun h => absurd h (by decide +kernel)) (fun _ => ?_)
  refine lv_aload_n hx hb dX8_forget_26 rfl (lv_at hl 1 rfl) ?_
  refine va_get (D := D) (ci := 8) (v := .ref h8) (C := RX8) (T := TX8) (N := 18) hx hb hts inX8 hown hG.1 hP 0 rfl rfl 10 (by decide) (hts _ kw237) (fun _ h9 => h9) rfl dX8_forget_27 ?_
  refine lv_iload_n hx hb dX8_forget_30 rfl (lv_at hl 0 rfl) ?_
  refine lv_iconst (v := (-1)) hx hb dX8_forget_31 (by decide +kernel) ?_
  refine xa_istU hx hb hG hP hD hS 1 rfl (vin (by decide +kernel)) dX8_forget_32 (fun f_4 H locs hP hD hS => ?_)
  have hP : va_P D vwCl [(h0, .inr (8, [.int 0, .int 0, .int 0, .ref h1, .ref h2, .ref h3, .ref h4, .ref h5, .ref h6, .ref h7, .ref h8, .ref h9, .ref h10, .int 0, .int 0, .int 0, .int 0, .int 0])), (h8, .inl (cI, 28, .inl f_4)), (h9, .inr (1, [.ref h12, .ref h13, .int 0, .int 0, .int 0])), (h10, .inr (1, [.ref h14, .ref h15, .int 0, .int 0, .int 0]))] H := hP
  have hD : va_D A [(h0, .inr (8, [.int 0, .int 0, .int 0, .ref h1, .ref h2, .ref h3, .ref h4, .ref h5, .ref h6, .ref h7, .ref h8, .ref h9, .ref h10, .int 0, .int 0, .int 0, .int 0, .int 0])), (h8, .inl (cI, 28, .inl f_4)), (h9, .inr (1, [.ref h12, .ref h13, .int 0, .int 0, .int 0])), (h10, .inr (1, [.ref h14, .ref h15, .int 0, .int 0, .int 0]))] := hD
  refine lv_iinc (v := 4) (lv' := [(1, .int 4), (0, .ref h0)]) hx hb dX8_forget_33 hl (k := 0) rfl (by decide +kernel) (by decide) rfl (fun ls hl => ?_)
  refine lv_goto (tgt := 17) hx hb dX8_forget_36 (by decide) ?_
  refine lv_iload_n hx hb dX8_forget_17 rfl (lv_at hl 0 rfl) ?_
  refine lv_aload_n hx hb dX8_forget_18 rfl (lv_at hl 1 rfl) ?_
  refine va_get (D := D) (ci := 8) (v := .ref h8) (C := RX8) (T := TX8) (N := 18) hx hb hts inX8 hown hG.1 hP 0 rfl rfl 10 (by decide) (hts _ kw237) (fun _ h9 => h9) rfl dX8_forget_19 ?_
  refine xa_alen (v := 28) hx hb hG hP 1 1 rfl rfl rfl dX8_forget_22 ?_
  refine lv_icmp_ge (tgt := 39) hx hb dX8_forget_23 (by decide) (fun h => absurd h (by decide +kernel)) (fun _ => ?_)
  refine lv_aload_n hx hb dX8_forget_26 rfl (lv_at hl 1 rfl) ?_
  refine va_get (D := D) (ci := 8) (v := .ref h8) (C := RX8) (T := TX8) (N := 18) hx hb hts inX8 hown hG.1 hP 0 rfl rfl 10 (by decide) (hts _ kw237) (fun _ h9 => h9) rfl dX8_forget_27 ?_
  refine lv_iload_n hx hb dX8_forget_30 rfl (lv_at hl 0 rfl) ?_
  refine lv_iconst (v := (-1)) hx hb dX8_forget_31 (by decide +kernel) ?_
  refine xa_istU hx hb hG hP hD hS 1 rfl (vin (by decide +kernel)) dX8_forget_32 (fun f_5 H locs hP hD hS => ?_)
  have hP : va_P D vwCl [(h0, .inr (8, [.int 0, .int 0, .int 0, .ref h1, .ref h2, .ref h3, .ref h4, .ref h5, .ref h6, .ref h7, .ref h8, .ref h9, .ref h10, .int 0, .int 0, .int 0, .int 0, .int 0])), (h8, .inl (cI, 28, .inl f_5)), (h9, .inr (1, [.ref h12, .ref h13, .int 0, .int 0, .int 0])), (h10, .inr (1, [.ref h14, .ref h15, .int 0, .int 0, .int 0]))] H := hP
  have hD : va_D A [(h0, .inr (8, [.int 0, .int 0, .int 0, .ref h1, .ref h2, .ref h3, .ref h4, .ref h5, .ref h6, .ref h7, .ref h8, .ref h9, .ref h10, .int 0, .int 0, .int 0, .int 0, .int 0])), (h8, .inl (cI, 28, .inl f_5)), (h9, .inr (1, [.ref h12, .ref h13, .int 0, .int 0, .int 0])), (h10, .inr (1, [.ref h14, .ref h15, .int 0, .int 0, .int 0]))] := hD
  refine lv_iinc (v := 5) (lv' := [(1, .int 5), (0, .ref h0)]) hx hb dX8_forget_33 hl (k := 0) rfl (by decide +kernel) (by decide) rfl (fun ls hl => ?_)
  refine lv_goto (tgt := 17) hx hb dX8_forget_36 (by decide) ?_
  refine lv_iload_n hx hb dX8_forget_17 rfl (lv_at hl 0 rfl) ?_
  refine lv_aload_n hx hb dX8_forget_18 rfl (lv_at hl 1 rfl) ?_
  refine va_get (D := D) (ci := 8) (v := .ref h8) (C := RX8) (T := TX8) (N := 18) hx hb hts inX8 hown hG.1 hP 0 rfl rfl 10 (by decide) (hts _ kw237) (fun _ h9 => h9) rfl dX8_forget_19 ?_
  refine xa_alen (v := 28) hx hb hG hP 1 1 rfl rfl rfl dX8_forget_22 ?_
  refine lv_icmp_ge (tgt := 39) hx hb dX8_forget_23 (by decide) (fun h => absurd h (by decide +kernel)) (fun _ => ?_)
  refine lv_aload_n hx hb dX8_forget_26 rfl (lv_at hl 1 rfl) ?_
  refine va_get (D := D) (ci := 8) (v := .ref h8) (C := RX8) (T := TX8) (N := 18) hx hb hts inX8 hown hG.1 hP 0 rfl rfl 10 (by decide) (hts _ kw237) (fun _ h9 => h9) rfl dX8_forget_27 ?_
  refine lv_iload_n hx hb dX8_forget_30 rfl (lv_at hl 0 rfl) ?_
  refine lv_iconst (v := (-1)) hx hb dX8_forget_31 (by decide +kernel) ?_
  refine xa_istU hx hb hG hP hD hS 1 rfl (vin (by decide +kernel)) dX8_forget_32 (fun f_6 H locs hP hD hS => ?_)
  have hP : va_P D vwCl [(h0, .inr (8, [.int 0, .int 0, .int 0, .ref h1, .ref h2, .ref h3, .ref h4, .ref h5, .ref h6, .ref h7, .ref h8, .ref h9, .ref h10, .int 0, .int 0, .int 0, .int 0, .int 0])), (h8, .inl (cI, 28, .inl f_6)), (h9, .inr (1, [.ref h12, .ref h13, .int 0, .int 0, .int 0])), (h10, .inr (1, [.ref h14, .ref h15, .int 0, .int 0, .int 0]))] H := hP
  have hD : va_D A [(h0, .inr (8, [.int 0, .int 0, .int 0, .ref h1, .ref h2, .ref h3, .ref h4, .ref h5, .ref h6, .ref h7, .ref h8, .ref h9, .ref h10, .int 0, .int 0, .int 0, .int 0, .int 0])), (h8, .inl (cI, 28, .inl f_6)), (h9, .inr (1, [.ref h12, .ref h13, .int 0, .int 0, .int 0])), (h10, .inr (1, [.ref h14, .ref h15, .int 0, .int 0, .int 0]))] := hD
  refine lv_iinc (v := 6) (lv' := [(1, .int 6), (0, .ref h0)]) hx hb dX8_forget_33 hl (k := 0) rfl (by decide +kernel) (by decide) rfl (fun ls hl => ?_)
  refine lv_goto (tgt := 17) hx hb dX8_forget_36 (by decide) ?_
  refine lv_iload_n hx hb dX8_forget_17 rfl (lv_at hl 0 rfl) ?_
  refine lv_aload_n hx hb dX8_forget_18 rfl (lv_at hl 1 rfl) ?_
  refine va_get (D := D) (ci := 8) (v := .ref h8) (C := RX8) (T := TX8) (N := 18) hx hb hts inX8 hown hG.1 hP 0 rfl rfl 10 (by decide) (hts _ kw237) (fun _ h9 => h9) rfl dX8_forget_19 ?_
  refine xa_alen (v := 28) hx hb hG hP 1 1 rfl rfl rfl dX8_forget_22 ?_
  refine lv_icmp_ge (tgt := 39) hx hb dX8_forget_23 (by decide) (fun h => absurd h (by decide +kernel)) (fun _ => ?_)
  refine lv_aload_n hx hb dX8_forget_26 rfl (lv_at hl 1 rfl) ?_
  refine va_get (D := D) (ci := 8) (v := .ref h8) (C := RX8) (T := TX8) (N := 18) hx hb hts inX8 hown hG.1 hP 0 rfl rfl 10 (by decide) (hts _ kw237) (fun _ h9 => h9) rfl dX8_forget_27 ?_
  refine lv_iload_n hx hb dX8_forget_30 rfl (lv_at hl 0 rfl) ?_
  refine lv_iconst (v := (-1)) hx hb dX8_forget_31 (by decide +kernel) ?_
  refine xa_istU hx hb hG hP hD hS 1 rfl (vin (by decide +kernel)) dX8_forget_32 (fun f_7 H locs hP hD hS => ?_)
  have hP : va_P D vwCl [(h0, .inr (8, [.int 0, .int 0, .int 0, .ref h1, .ref h2, .ref h3, .ref h4, .ref h5, .ref h6, .ref h7, .ref h8, .ref h9, .ref h10, .int 0, .int 0, .int 0, .int 0, .int 0])), (h8, .inl (cI, 28, .inl f_7)), (h9, .inr (1, [.ref h12, .ref h13, .int 0, .int 0, .int 0])), (h10, .inr (1, [.ref h14, .ref h15, .int 0, .int 0, .int 0]))] H := hP
  have hD : va_D A [(h0, .inr (8, [.int 0, .int 0, .int 0, .ref h1, .ref h2, .ref h3, .ref h4, .ref h5, .ref h6, .ref h7, .ref h8, .ref h9, .ref h10, .int 0, .int 0, .int 0, .int 0, .int 0])), (h8, .inl (cI, 28, .inl f_7)), (h9, .inr (1, [.ref h12, .ref h13, .int 0, .int 0, .int 0])), (h10, .inr (1, [.ref h14, .ref h15, .int 0, .int 0, .int 0]))] := hD
  refine lv_iinc (v := 7) (lv' := [(1, .int 7), (0, .ref h0)]) hx hb dX8_forget_33 hl (k := 0) rfl (by decide +kernel) (by decide) rfl (fun ls hl => ?_)
  refine lv_goto (tgt := 17) hx hb dX8_forget_36 (by decide) ?_
  refine lv_iload_n hx hb dX8_forget_17 rfl (lv_at hl 0 rfl) ?_
  refine lv_aload_n hx hb dX8_forget_18 rfl (lv_at hl 1 rfl) ?_
  refine va_get (D := D) (ci := 8) (v := .ref h8) (C := RX8) (T := TX8) (N := 18) hx hb hts inX8 hown hG.1 hP 0 rfl rfl 10 (by decide) (hts _ kw237) (fun _ h9 => h9) rfl dX8_forget_19 ?_
  refine xa_alen (v := 28) hx hb hG hP 1 1 rfl rfl rfl dX8_forget_22 ?_
  refine lv_icmp_ge (tgt := 39) hx hb dX8_forget_23 (by decide) (fun h => absurd h (by decide +kernel)) (fun _ => ?_)
  refine lv_aload_n hx hb dX8_forget_26 rfl (lv_at hl 1 rfl) ?_
  refine va_get (D := D) (ci := 8) (v := .ref h8) (C := RX8) (T := TX8) (N := 18) hx hb hts inX8 hown hG.1 hP 0 rfl rfl 10 (by decide) (hts _ kw237) (fun _ h9 => h9) rfl dX8_forget_27 ?_
  refine lv_iload_n hx hb dX8_forget_30 rfl (lv_at hl 0 rfl) ?_
  refine lv_iconst (v := (-1)) hx hb dX8_forget_31 (by decide +kernel) ?_
  refine xa_istU hx hb hG hP hD hS 1 rfl (vin (by decide +kernel)) dX8_forget_32 (fun f_8 H locs hP hD hS => ?_)
  have hP : va_P D vwCl [(h0, .inr (8, [.int 0, .int 0, .int 0, .ref h1, .ref h2, .ref h3, .ref h4, .ref h5, .ref h6, .ref h7, .ref h8, .ref h9, .ref h10, .int 0, .int 0, .int 0, .int 0, .int 0])), (h8, .inl (cI, 28, .inl f_8)), (h9, .inr (1, [.ref h12, .ref h13, .int 0, .int 0, .int 0])), (h10, .inr (1, [.ref h14, .ref h15, .int 0, .int 0, .int 0]))] H := hP
  have hD : va_D A [(h0, .inr (8, [.int 0, .int 0, .int 0, .ref h1, .ref h2, .ref h3, .ref h4, .ref h5, .ref h6, .ref h7, .ref h8, .ref h9, .ref h10, .int 0, .int 0, .int 0, .int 0, .int 0])), (h8, .inl (cI, 28, .inl f_8)), (h9, .inr (1, [.ref h12, .ref h13, .int 0, .int 0, .int 0])), (h10, .inr (1, [.ref h14, .ref h15, .int 0, .int 0, .int 0]))] := hD
  refine lv_iinc (v := 8) (lv' := [(1, .int 8), (0, .ref h0)]) hx hb dX8_forget_33 hl (k := 0) rfl (by decide +kernel) (by decide) rfl (fun ls hl => ?_)
  refine lv_goto (tgt := 17) hx hb dX8_forget_36 (by decide) ?_
  refine lv_iload_n hx hb dX8_forget_17 rfl (lv_at hl 0 rfl) ?_
  refine lv_aload_n hx hb dX8_forget_18 rfl (lv_at hl 1 rfl) ?_
  refine va_get (D := D) (ci := 8) (v := .ref h8) (C := RX8) (T := TX8) (N := 18) hx hb hts inX8 hown hG.1 hP 0 rfl rfl 10 (by decide) (hts _ kw237) (fun _ h9 => h9) rfl dX8_forget_19 ?_
  refine xa_alen (v := 28) hx hb hG hP 1 1 rfl rfl rfl dX8_forget_22 ?_
  refine lv_icmp_ge (tgt := 39) hx hb dX8_forget_23 (by decide) (fun h => absurd h (by decide +kernel)) (fun _ => ?_)
  refine lv_aload_n hx hb dX8_forget_26 rfl (lv_at hl 1 rfl) ?_
  refine va_get (D := D) (ci := 8) (v := .ref h8) (C := RX8) (T := TX8) (N := 18) hx hb hts inX8 hown hG.1 hP 0 rfl rfl 10 (by decide) (hts _ kw237) (fun _ h9 => h9) rfl dX8_forget_27 ?_
  refine lv_iload_n hx hb dX8_forget_30 rfl (lv_at hl 0 rfl) ?_
  refine lv_iconst (v := (-1)) hx hb dX8_forget_31 (by decide +kernel) ?_
  refine xa_istU hx hb hG hP hD hS 1 rfl (vin (by decide +kernel)) dX8_forget_32 (fun f_9 H locs hP hD hS => ?_)
  have hP : va_P D vwCl [(h0, .inr (8, [.int 0, .int 0, .int 0, .ref h1, .ref h2, .ref h3, .ref h4, .ref h5, .ref h6, .ref h7, .ref h8, .ref h9, .ref h10, .int 0, .int 0, .int 0, .int 0, .int 0])), (h8, .inl (cI, 28, .inl f_9)), (h9, .inr (1, [.ref h12, .ref h13, .int 0, .int 0, .int 0])), (h10, .inr (1, [.ref h14, .ref h15, .int 0, .int 0, .int 0]))] H := hP
  have hD : va_D A [(h0, .inr (8, [.int 0, .int 0, .int 0, .ref h1, .ref h2, .ref h3, .ref h4, .ref h5, .ref h6, .ref h7, .ref h8, .ref h9, .ref h10, .int 0, .int 0, .int 0, .int 0, .int 0])), (h8, .inl (cI, 28, .inl f_9)), (h9, .inr (1, [.ref h12, .ref h13, .int 0, .int 0, .int 0])), (h10, .inr (1, [.ref h14, .ref h15, .int 0, .int 0, .int 0]))] := hD
  refine lv_iinc (v := 9) (lv' := [(1, .int 9), (0, .ref h0)]) hx hb dX8_forget_33 hl (k := 0) rfl (by decide +kernel) (by decide) rfl (fun ls hl => ?_)
  refine lv_goto (tgt := 17) hx hb dX8_forget_36 (by decide) ?_
  refine lv_iload_n hx hb dX8_forget_17 rfl (lv_at hl 0 rfl) ?_
  refine lv_aload_n hx hb dX8_forget_18 rfl (lv_at hl 1 rfl) ?_
  refine va_get (D := D) (ci := 8) (v := .ref h8) (C := RX8) (T := TX8) (N := 18) hx hb hts inX8 hown hG.1 hP 0 rfl rfl 10 (by decide) (hts _ kw237) (fun _ h9 => h9) rfl dX8_forget_19 ?_
  refine xa_alen (v := 28) hx hb hG hP 1 1 rfl rfl rfl dX8_forget_22 ?_
  refine lv_icmp_ge (tgt := 39) hx hb dX8_forget_23 (by decide) (fun h => absurd h (by decide +kernel)) (fun _ => ?_)
  refine lv_aload_n hx hb dX8_forget_26 rfl (lv_at hl 1 rfl) ?_
  refine va_get (D := D) (ci := 8) (v := .ref h8) (C := RX8) (T := TX8) (N := 18) hx hb hts inX8 hown hG.1 hP 0 rfl rfl 10 (by decide) (hts _ kw237) (fun _ h9 => h9) rfl dX8_forget_27 ?_
  refine lv_iload_n hx hb dX8_forget_30 rfl (lv_at hl 0 rfl) ?_
  refine lv_iconst (v := (-1)) hx hb dX8_forget_31 (by decide +kernel) ?_
  refine xa_istU hx hb hG hP hD hS 1 rfl (vin (by decide +kernel)) dX8_forget_32 (fun f_10 H locs hP hD hS => ?_)
  have hP : va_P D vwCl [(h0, .inr (8, [.int 0, .int 0, .int 0, .ref h1, .ref h2, .ref h3, .ref h4, .ref h5, .ref h6, .ref h7, .ref h8, .ref h9, .ref h10, .int 0, .int 0, .int 0, .int 0, .int 0])), (h8, .inl (cI, 28, .inl f_10)), (h9, .inr (1, [.ref h12, .ref h13, .int 0, .int 0, .int 0])), (h10, .inr (1, [.ref h14, .ref h15, .int 0, .int 0, .int 0]))] H := hP
  have hD : va_D A [(h0, .inr (8, [.int 0, .int 0, .int 0, .ref h1, .ref h2, .ref h3, .ref h4, .ref h5, .ref h6, .ref h7, .ref h8, .ref h9, .ref h10, .int 0, .int 0, .int 0, .int 0, .int 0])), (h8, .inl (cI, 28, .inl f_10)), (h9, .inr (1, [.ref h12, .ref h13, .int 0, .int 0, .int 0])), (h10, .inr (1, [.ref h14, .ref h15, .int 0, .int 0, .int 0]))] := hD
  refine lv_iinc (v := 10) (lv' := [(1, .int 10), (0, .ref h0)]) hx hb dX8_forget_33 hl (k := 0) rfl (by decide +kernel) (by decide) rfl (fun ls hl => ?_)
  refine lv_goto (tgt := 17) hx hb dX8_forget_36 (by decide) ?_
  refine lv_iload_n hx hb dX8_forget_17 rfl (lv_at hl 0 rfl) ?_
  refine lv_aload_n hx hb dX8_forget_18 rfl (lv_at hl 1 rfl) ?_
  refine va_get (D := D) (ci := 8) (v := .ref h8) (C := RX8) (T := TX8) (N := 18) hx hb hts inX8 hown hG.1 hP 0 rfl rfl 10 (by decide) (hts _ kw237) (fun _ h9 => h9) rfl dX8_forget_19 ?_
  refine xa_alen (v := 28) hx hb hG hP 1 1 rfl rfl rfl dX8_forget_22 ?_
  refine lv_icmp_ge (tgt := 39) hx hb dX8_forget_23 (by decide) (fun h => absurd h (by decide +kernel)) (fun _ => ?_)
  refine lv_aload_n hx hb dX8_forget_26 rfl (lv_at hl 1 rfl) ?_
  refine va_get (D := D) (ci := 8) (v := .ref h8) (C := RX8) (T := TX8) (N := 18) hx hb hts inX8 hown hG.1 hP 0 rfl rfl 10 (by decide) (hts _ kw237) (fun _ h9 => h9) rfl dX8_forget_27 ?_
  refine lv_iload_n hx hb dX8_forget_30 rfl (lv_at hl 0 rfl) ?_
  refine lv_iconst (v := (-1)) hx hb dX8_forget_31 (by decide +kernel) ?_
  refine xa_istU hx hb hG hP hD hS 1 rfl (vin (by decide +kernel)) dX8_forget_32 (fun f_11 H locs hP hD hS => ?_)
  have hP : va_P D vwCl [(h0, .inr (8, [.int 0, .int 0, .int 0, .ref h1, .ref h2, .ref h3, .ref h4, .ref h5, .ref h6, .ref h7, .ref h8, .ref h9, .ref h10, .int 0, .int 0, .int 0, .int 0, .int 0])), (h8, .inl (cI, 28, .inl f_11)), (h9, .inr (1, [.ref h12, .ref h13, .int 0, .int 0, .int 0])), (h10, .inr (1, [.ref h14, .ref h15, .int 0, .int 0, .int 0]))] H := hP
  have hD : va_D A [(h0, .inr (8, [.int 0, .int 0, .int 0, .ref h1, .ref h2, .ref h3, .ref h4, .ref h5, .ref h6, .ref h7, .ref h8, .ref h9, .ref h10, .int 0, .int 0, .int 0, .int 0, .int 0])), (h8, .inl (cI, 28, .inl f_11)), (h9, .inr (1, [.ref h12, .ref h13, .int 0, .int 0, .int 0])), (h10, .inr (1, [.ref h14, .ref h15, .int 0, .int 0, .int 0]))] := hD
  refine lv_iinc (v := 11) (lv' := [(1, .int 11), (0, .ref h0)]) hx hb dX8_forget_33 hl (k := 0) rfl (by decide +kernel) (by decide) rfl (fun ls hl => ?_)
  refine lv_goto (tgt := 17) hx hb dX8_forget_36 (by decide) ?_
  refine lv_iload_n hx hb dX8_forget_17 rfl (lv_at hl 0 rfl) ?_
  refine lv_aload_n hx hb dX8_forget_18 rfl (lv_at hl 1 rfl) ?_
  refine va_get (D := D) (ci := 8) (v := .ref h8) (C := RX8) (T := TX8) (N := 18) hx hb hts inX8 hown hG.1 hP 0 rfl rfl 10 (by decide) (hts _ kw237) (fun _ h9 => h9) rfl dX8_forget_19 ?_
  refine xa_alen (v := 28) hx hb hG hP 1 1 rfl rfl rfl dX8_forget_22 ?_
  refine lv_icmp_ge (tgt := 39) hx hb dX8_forget_23 (by decide) (fun h => absurd h (by decide +kernel)) (fun _ => ?_)
  refine lv_aload_n hx hb dX8_forget_26 rfl (lv_at hl 1 rfl) ?_
  refine va_get (D := D) (ci := 8) (v := .ref h8) (C := RX8) (T := TX8) (N := 18) hx hb hts inX8 hown hG.1 hP 0 rfl rfl 10 (by decide) (hts _ kw237) (fun _ h9 => h9) rfl dX8_forget_27 ?_
  refine lv_iload_n hx hb dX8_forget_30 rfl (lv_at hl 0 rfl) ?_
  refine lv_iconst (v := (-1)) hx hb dX8_forget_31 (by decide +kernel) ?_
  refine xa_istU hx hb hG hP hD hS 1 rfl (vin (by decide +kernel)) dX8_forget_32 (fun f_12 H locs hP hD hS => ?_)
  have hP : va_P D vwCl [(h0, .inr (8, [.int 0, .int 0, .int 0, .ref h1, .ref h2, .ref h3, .ref h4, .ref h5, .ref h6, .ref h7, .ref h8, .ref h9, .ref h10, .int 0, .int 0, .int 0, .int 0, .int 0])), (h8, .inl (cI, 28, .inl f_12)), (h9, .inr (1, [.ref h12, .ref h13, .int 0, .int 0, .int 0])), (h10, .inr (1, [.ref h14, .ref h15, .int 0, .int 0, .int 0]))] H := hP
  have hD : va_D A [(h0, .inr (8, [.int 0, .int 0, .int 0, .ref h1, .ref h2, .ref h3, .ref h4, .ref h5, .ref h6, .ref h7, .ref h8, .ref h9, .ref h10, .int 0, .int 0, .int 0, .int 0, .int 0])), (h8, .inl (cI, 28, .inl f_12)), (h9, .inr (1, [.ref h12, .ref h13, .int 0, .int 0, .int 0])), (h10, .inr (1, [.ref h14, .ref h15, .int 0, .int 0, .int 0]))] := hD
  refine lv_iinc (v := 12) (lv' := [(1, .int 12), (0, .ref h0)]) hx hb dX8_forget_33 hl (k := 0) rfl (by decide +kernel) (by decide) rfl (fun ls hl => ?_)
  refine lv_goto (tgt := 17) hx hb dX8_forget_36 (by decide) ?_
  refine lv_iload_n hx hb dX8_forget_17 rfl (lv_at hl 0 rfl) ?_
  refine lv_aload_n hx hb dX8_forget_18 rfl (lv_at hl 1 rfl) ?_
  refine va_get (D := D) (ci := 8) (v := .ref h8) (C := RX8) (T := TX8) (N := 18) hx hb hts inX8 hown hG.1 hP 0 rfl rfl 10 (by decide) (hts _ kw237) (fun _ h9 => h9) rfl dX8_forget_19 ?_
  refine xa_alen (v := 28) hx hb hG hP 1 1 rfl rfl rfl dX8_forget_22 ?_
  refine lv_icmp_ge (tgt := 39) hx hb dX8_forget_23 (by decide) (fun h => absurd h (by decide +kernel)) (fun _ => ?_)
  refine lv_aload_n hx hb dX8_forget_26 rfl (lv_at hl 1 rfl) ?_
  refine va_get (D := D) (ci := 8) (v := .ref h8) (C := RX8) (T := TX8) (N := 18) hx hb hts inX8 hown hG.1 hP 0 rfl rfl 10 (by decide) (hts _ kw237) (fun _ h9 => h9) rfl dX8_forget_27 ?_
  refine lv_iload_n hx hb dX8_forget_30 rfl (lv_at hl 0 rfl) ?_
  refine lv_iconst (v := (-1)) hx hb dX8_forget_31 (by decide +kernel) ?_
  refine xa_istU hx hb hG hP hD hS 1 rfl (vin (by decide +kernel)) dX8_forget_32 (fun f_13 H locs hP hD hS => ?_)
  have hP : va_P D vwCl [(h0, .inr (8, [.int 0, .int 0, .int 0, .ref h1, .ref h2, .ref h3, .ref h4, .ref h5, .ref h6, .ref h7, .ref h8, .ref h9, .ref h10, .int 0, .int 0, .int 0, .int 0, .int 0])), (h8, .inl (cI, 28, .inl f_13)), (h9, .inr (1, [.ref h12, .ref h13, .int 0, .int 0, .int 0])), (h10, .inr (1, [.ref h14, .ref h15, .int 0, .int 0, .int 0]))] H := hP
  have hD : va_D A [(h0, .inr (8, [.int 0, .int 0, .int 0, .ref h1, .ref h2, .ref h3, .ref h4, .ref h5, .ref h6, .ref h7, .ref h8, .ref h9, .ref h10, .int 0, .int 0, .int 0, .int 0, .int 0])), (h8, .inl (cI, 28, .inl f_13)), (h9, .inr (1, [.ref h12, .ref h13, .int 0, .int 0, .int 0])), (h10, .inr (1, [.ref h14, .ref h15, .int 0, .int 0, .int 0]))] := hD
  refine lv_iinc (v := 13) (lv' := [(1, .int 13), (0, .ref h0)]) hx hb dX8_forget_33 hl (k := 0) rfl (by decide +kernel) (by decide) rfl (fun ls hl => ?_)
  refine lv_goto (tgt := 17) hx hb dX8_forget_36 (by decide) ?_
  refine lv_iload_n hx hb dX8_forget_17 rfl (lv_at hl 0 rfl) ?_
  refine lv_aload_n hx hb dX8_forget_18 rfl (lv_at hl 1 rfl) ?_
  refine va_get (D := D) (ci := 8) (v := .ref h8) (C := RX8) (T := TX8) (N := 18) hx hb hts inX8 hown hG.1 hP 0 rfl rfl 10 (by decide) (hts _ kw237) (fun _ h9 => h9) rfl dX8_forget_19 ?_
  refine xa_alen (v := 28) hx hb hG hP 1 1 rfl rfl rfl dX8_forget_22 ?_
  refine lv_icmp_ge (tgt := 39) hx hb dX8_forget_23 (by decide) (fun h => absurd h (by decide +kernel)) (fun _ => ?_)
  refine lv_aload_n hx hb dX8_forget_26 rfl (lv_at hl 1 rfl) ?_
  refine va_get (D := D) (ci := 8) (v := .ref h8) (C := RX8) (T := TX8) (N := 18) hx hb hts inX8 hown hG.1 hP 0 rfl rfl 10 (by decide) (hts _ kw237) (fun _ h9 => h9) rfl dX8_forget_27 ?_
  refine lv_iload_n hx hb dX8_forget_30 rfl (lv_at hl 0 rfl) ?_
  refine lv_iconst (v := (-1)) hx hb dX8_forget_31 (by decide +kernel) ?_
  refine xa_istU hx hb hG hP hD hS 1 rfl (vin (by decide +kernel)) dX8_forget_32 (fun f_14 H locs hP hD hS => ?_)
  have hP : va_P D vwCl [(h0, .inr (8, [.int 0, .int 0, .int 0, .ref h1, .ref h2, .ref h3, .ref h4, .ref h5, .ref h6, .ref h7, .ref h8, .ref h9, .ref h10, .int 0, .int 0, .int 0, .int 0, .int 0])), (h8, .inl (cI, 28, .inl f_14)), (h9, .inr (1, [.ref h12, .ref h13, .int 0, .int 0, .int 0])), (h10, .inr (1, [.ref h14, .ref h15, .int 0, .int 0, .int 0]))] H := hP
  have hD : va_D A [(h0, .inr (8, [.int 0, .int 0, .int 0, .ref h1, .ref h2, .ref h3, .ref h4, .ref h5, .ref h6, .ref h7, .ref h8, .ref h9, .ref h10, .int 0, .int 0, .int 0, .int 0, .int 0])), (h8, .inl (cI, 28, .inl f_14)), (h9, .inr (1, [.ref h12, .ref h13, .int 0, .int 0, .int 0])), (h10, .inr (1, [.ref h14, .ref h15, .int 0, .int 0, .int 0]))] := hD
  refine lv_iinc (v := 14) (lv' := [(1, .int 14), (0, .ref h0)]) hx hb dX8_forget_33 hl (k := 0) rfl (by decide +kernel) (by decide) rfl (fun ls hl => ?_)
  refine lv_goto (tgt := 17) hx hb dX8_forget_36 (by decide) ?_
  refine lv_iload_n hx hb dX8_forget_17 rfl (lv_at hl 0 rfl) ?_
  refine lv_aload_n hx hb dX8_forget_18 rfl (lv_at hl 1 rfl) ?_
  refine va_get (D := D) (ci := 8) (v := .ref h8) (C := RX8) (T := TX8) (N := 18) hx hb hts inX8 hown hG.1 hP 0 rfl rfl 10 (by decide) (hts _ kw237) (fun _ h9 => h9) rfl dX8_forget_19 ?_
  refine xa_alen (v := 28) hx hb hG hP 1 1 rfl rfl rfl dX8_forget_22 ?_
  refine lv_icmp_ge (tgt := 39) hx hb dX8_forget_23 (by decide) (fun h => absurd h (by decide +kernel)) (fun _ => ?_)
  refine lv_aload_n hx hb dX8_forget_26 rfl (lv_at hl 1 rfl) ?_
  refine va_get (D := D) (ci := 8) (v := .ref h8) (C := RX8) (T := TX8) (N := 18) hx hb hts inX8 hown hG.1 hP 0 rfl rfl 10 (by decide) (hts _ kw237) (fun _ h9 => h9) rfl dX8_forget_27 ?_
  refine lv_iload_n hx hb dX8_forget_30 rfl (lv_at hl 0 rfl) ?_
  refine lv_iconst (v := (-1)) hx hb dX8_forget_31 (by decide +kernel) ?_
  refine xa_istU hx hb hG hP hD hS 1 rfl (vin (by decide +kernel)) dX8_forget_32 (fun f_15 H locs hP hD hS => ?_)
  have hP : va_P D vwCl [(h0, .inr (8, [.int 0, .int 0, .int 0, .ref h1, .ref h2, .ref h3, .ref h4, .ref h5, .ref h6, .ref h7, .ref h8, .ref h9, .ref h10, .int 0, .int 0, .int 0, .int 0, .int 0])), (h8, .inl (cI, 28, .inl f_15)), (h9, .inr (1, [.ref h12, .ref h13, .int 0, .int 0, .int 0])), (h10, .inr (1, [.ref h14, .ref h15, .int 0, .int 0, .int 0]))] H := hP
  have hD : va_D A [(h0, .inr (8, [.int 0, .int 0, .int 0, .ref h1, .ref h2, .ref h3, .ref h4, .ref h5, .ref h6, .ref h7, .ref h8, .ref h9, .ref h10, .int 0, .int 0, .int 0, .int 0, .int 0])), (h8, .inl (cI, 28, .inl f_15)), (h9, .inr (1, [.ref h12, .ref h13, .int 0, .int 0, .int 0])), (h10, .inr (1, [.ref h14, .ref h15, .int 0, .int 0, .int 0]))] := hD
  refine lv_iinc (v := 15) (lv' := [(1, .int 15), (0, .ref h0)]) hx hb dX8_forget_33 hl (k := 0) rfl (by decide +kernel) (by decide) rfl (fun ls hl => ?_)
  refine lv_goto (tgt := 17) hx hb dX8_forget_36 (by decide) ?_
  refine lv_iload_n hx hb dX8_forget_17 rfl (lv_at hl 0 rfl) ?_
  refine lv_aload_n hx hb dX8_forget_18 rfl (lv_at hl 1 rfl) ?_
  refine va_get (D := D) (ci := 8) (v := .ref h8) (C := RX8) (T := TX8) (N := 18) hx hb hts inX8 hown hG.1 hP 0 rfl rfl 10 (by decide) (hts _ kw237) (fun _ h9 => h9) rfl dX8_forget_19 ?_
  refine xa_alen (v := 28) hx hb hG hP 1 1 rfl rfl rfl dX8_forget_22 ?_
  refine lv_icmp_ge (tgt := 39) hx hb dX8_forget_23 (by decide) (fun h => absurd h (by decide +kernel)) (fun _ => ?_)
  refine lv_aload_n hx hb dX8_forget_26 rfl (lv_at hl 1 rfl) ?_
  refine va_get (D := D) (ci := 8) (v := .ref h8) (C := RX8) (T := TX8) (N := 18) hx hb hts inX8 hown hG.1 hP 0 rfl rfl 10 (by decide) (hts _ kw237) (fun _ h9 => h9) rfl dX8_forget_27 ?_
  refine lv_iload_n hx hb dX8_forget_30 rfl (lv_at hl 0 rfl) ?_
  refine lv_iconst (v := (-1)) hx hb dX8_forget_31 (by decide +kernel) ?_
  refine xa_istU hx hb hG hP hD hS 1 rfl (vin (by decide +kernel)) dX8_forget_32 (fun f_16 H locs hP hD hS => ?_)
  have hP : va_P D vwCl [(h0, .inr (8, [.int 0, .int 0, .int 0, .ref h1, .ref h2, .ref h3, .ref h4, .ref h5, .ref h6, .ref h7, .ref h8, .ref h9, .ref h10, .int 0, .int 0, .int 0, .int 0, .int 0])), (h8, .inl (cI, 28, .inl f_16)), (h9, .inr (1, [.ref h12, .ref h13, .int 0, .int 0, .int 0])), (h10, .inr (1, [.ref h14, .ref h15, .int 0, .int 0, .int 0]))] H := hP
  have hD : va_D A [(h0, .inr (8, [.int 0, .int 0, .int 0, .ref h1, .ref h2, .ref h3, .ref h4, .ref h5, .ref h6, .ref h7, .ref h8, .ref h9, .ref h10, .int 0, .int 0, .int 0, .int 0, .int 0])), (h8, .inl (cI, 28, .inl f_16)), (h9, .inr (1, [.ref h12, .ref h13, .int 0, .int 0, .int 0])), (h10, .inr (1, [.ref h14, .ref h15, .int 0, .int 0, .int 0]))] := hD
  refine lv_iinc (v := 16) (lv' := [(1, .int 16), (0, .ref h0)]) hx hb dX8_forget_33 hl (k := 0) rfl (by decide +kernel) (by decide) rfl (fun ls hl => ?_)
  refine lv_goto (tgt := 17) hx hb dX8_forget_36 (by decide) ?_
  refine lv_iload_n hx hb dX8_forget_17 rfl (lv_at hl 0 rfl) ?_
  refine lv_aload_n hx hb dX8_forget_18 rfl (lv_at hl 1 rfl) ?_
  refine va_get (D := D) (ci := 8) (v := .ref h8) (C := RX8) (T := TX8) (N := 18) hx hb hts inX8 hown hG.1 hP 0 rfl rfl 10 (by decide) (hts _ kw237) (fun _ h9 => h9) rfl dX8_forget_19 ?_
  refine xa_alen (v := 28) hx hb hG hP 1 1 rfl rfl rfl dX8_forget_22 ?_
  refine lv_icmp_ge (tgt := 39) hx hb dX8_forget_23 (by decide) (fun h => absurd h (by decide +kernel)) (fun _ => ?_)
  refine lv_aload_n hx hb dX8_forget_26 rfl (lv_at hl 1 rfl) ?_
  refine va_get (D := D) (ci := 8) (v := .ref h8) (C := RX8) (T := TX8) (N := 18) hx hb hts inX8 hown hG.1 hP 0 rfl rfl 10 (by decide) (hts _ kw237) (fun _ h9 => h9) rfl dX8_forget_27 ?_
  refine lv_iload_n hx hb dX8_forget_30 rfl (lv_at hl 0 rfl) ?_
  refine lv_iconst (v := (-1)) hx hb dX8_forget_31 (by decide +kernel) ?_
  refine xa_istU hx hb hG hP hD hS 1 rfl (vin (by decide +kernel)) dX8_forget_32 (fun f_17 H locs hP hD hS => ?_)
  have hP : va_P D vwCl [(h0, .inr (8, [.int 0, .int 0, .int 0, .ref h1, .ref h2, .ref h3, .ref h4, .ref h5, .ref h6, .ref h7, .ref h8, .ref h9, .ref h10, .int 0, .int 0, .int 0, .int 0, .int 0])), (h8, .inl (cI, 28, .inl f_17)), (h9, .inr (1, [.ref h12, .ref h13, .int 0, .int 0, .int 0])), (h10, .inr (1, [.ref h14, .ref h15, .int 0, .int 0, .int 0]))] H := hP
  have hD : va_D A [(h0, .inr (8, [.int 0, .int 0, .int 0, .ref h1, .ref h2, .ref h3, .ref h4, .ref h5, .ref h6, .ref h7, .ref h8, .ref h9, .ref h10, .int 0, .int 0, .int 0, .int 0, .int 0])), (h8, .inl (cI, 28, .inl f_17)), (h9, .inr (1, [.ref h12, .ref h13, .int 0, .int 0, .int 0])), (h10, .inr (1, [.ref h14, .ref h15, .int 0, .int 0, .int 0]))] := hD
  refine lv_iinc (v := 17) (lv' := [(1, .int 17), (0, .ref h0)]) hx hb dX8_forget_33 hl (k := 0) rfl (by decide +kernel) (by decide) rfl (fun ls hl => ?_)
  refine lv_goto (tgt := 17) hx hb dX8_forget_36 (by decide) ?_
  refine lv_iload_n hx hb dX8_forget_17 rfl (lv_at hl 0 rfl) ?_
  refine lv_aload_n hx hb dX8_forget_18 rfl (lv_at hl 1 rfl) ?_
  refine va_get (D := D) (ci := 8) (v := .ref h8) (C := RX8) (T := TX8) (N := 18) hx hb hts inX8 hown hG.1 hP 0 rfl rfl 10 (by decide) (hts _ kw237) (fun _ h9 => h9) rfl dX8_forget_19 ?_
  refine xa_alen (v := 28) hx hb hG hP 1 1 rfl rfl rfl dX8_forget_22 ?_
  refine lv_icmp_ge (tgt := 39) hx hb dX8_forget_23 (by decide) (fun h => absurd h (by decide +kernel)) (fun _ => ?_)
  refine lv_aload_n hx hb dX8_forget_26 rfl (lv_at hl 1 rfl) ?_
  refine va_get (D := D) (ci := 8) (v := .ref h8) (C := RX8) (T := TX8) (N := 18) hx hb hts inX8 hown hG.1 hP 0 rfl rfl 10 (by decide) (hts _ kw237) (fun _ h9 => h9) rfl dX8_forget_27 ?_
  refine lv_iload_n hx hb dX8_forget_30 rfl (lv_at hl 0 rfl) ?_
  refine lv_iconst (v := (-1)) hx hb dX8_forget_31 (by decide +kernel) ?_
  refine xa_istU hx hb hG hP hD hS 1 rfl (vin (by decide +kernel)) dX8_forget_32 (fun f_18 H locs hP hD hS => ?_)
  have hP : va_P D vwCl [(h0, .inr (8, [.int 0, .int 0, .int 0, .ref h1, .ref h2, .ref h3, .ref h4, .ref h5, .ref h6, .ref h7, .ref h8, .ref h9, .ref h10, .int 0, .int 0, .int 0, .int 0, .int 0])), (h8, .inl (cI, 28, .inl f_18)), (h9, .inr (1, [.ref h12, .ref h13, .int 0, .int 0, .int 0])), (h10, .inr (1, [.ref h14, .ref h15, .int 0, .int 0, .int 0]))] H := hP
  have hD : va_D A [(h0, .inr (8, [.int 0, .int 0, .int 0, .ref h1, .ref h2, .ref h3, .ref h4, .ref h5, .ref h6, .ref h7, .ref h8, .ref h9, .ref h10, .int 0, .int 0, .int 0, .int 0, .int 0])), (h8, .inl (cI, 28, .inl f_18)), (h9, .inr (1, [.ref h12, .ref h13, .int 0, .int 0, .int 0])), (h10, .inr (1, [.ref h14, .ref h15, .int 0, .int 0, .int 0]))] := hD
  refine lv_iinc (v := 18) (lv' := [(1, .int 18), (0, .ref h0)]) hx hb dX8_forget_33 hl (k := 0) rfl (by decide +kernel) (by decide) rfl (fun ls hl => ?_)
  refine lv_goto (tgt := 17) hx hb dX8_forget_36 (by decide) ?_
  refine lv_iload_n hx hb dX8_forget_17 rfl (lv_at hl 0 rfl) ?_
  refine lv_aload_n hx hb dX8_forget_18 rfl (lv_at hl 1 rfl) ?_
  refine va_get (D := D) (ci := 8) (v := .ref h8) (C := RX8) (T := TX8) (N := 18) hx hb hts inX8 hown hG.1 hP 0 rfl rfl 10 (by decide) (hts _ kw237) (fun _ h9 => h9) rfl dX8_forget_19 ?_
  refine xa_alen (v := 28) hx hb hG hP 1 1 rfl rfl rfl dX8_forget_22 ?_
  refine lv_icmp_ge (tgt := 39) hx hb dX8_forget_23 (by decide) (fun h => absurd h (by decide +kernel)) (fun _ => ?_)
  refine lv_aload_n hx hb dX8_forget_26 rfl (lv_at hl 1 rfl) ?_
  refine va_get (D := D) (ci := 8) (v := .ref h8) (C := RX8) (T := TX8) (N := 18) hx hb hts inX8 hown hG.1 hP 0 rfl rfl 10 (by decide) (hts _ kw237) (fun _ h9 => h9) rfl dX8_forget_27 ?_
  refine lv_iload_n hx hb dX8_forget_30 rfl (lv_at hl 0 rfl) ?_
  refine lv_iconst (v := (-1)) hx hb dX8_forget_31 (by decide +kernel) ?_
  refine xa_istU hx hb hG hP hD hS 1 rfl (vin (by decide +kernel)) dX8_forget_32 (fun f_19 H locs hP hD hS => ?_)
  have hP : va_P D vwCl [(h0, .inr (8, [.int 0, .int 0, .int 0, .ref h1, .ref h2, .ref h3, .ref h4, .ref h5, .ref h6, .ref h7, .ref h8, .ref h9, .ref h10, .int 0, .int 0, .int 0, .int 0, .int 0])), (h8, .inl (cI, 28, .inl f_19)), (h9, .inr (1, [.ref h12, .ref h13, .int 0, .int 0, .int 0])), (h10, .inr (1, [.ref h14, .ref h15, .int 0, .int 0, .int 0]))] H := hP
  have hD : va_D A [(h0, .inr (8, [.int 0, .int 0, .int 0, .ref h1, .ref h2, .ref h3, .ref h4, .ref h5, .ref h6, .ref h7, .ref h8, .ref h9, .ref h10, .int 0, .int 0, .int 0, .int 0, .int 0])), (h8, .inl (cI, 28, .inl f_19)), (h9, .inr (1, [.ref h12, .ref h13, .int 0, .int 0, .int 0])), (h10, .inr (1, [.ref h14, .ref h15, .int 0, .int 0, .int 0]))] := hD
  refine lv_iinc (v := 19) (lv' := [(1, .int 19), (0, .ref h0)]) hx hb dX8_forget_33 hl (k := 0) rfl (by decide +kernel) (by decide) rfl (fun ls hl => ?_)
  refine lv_goto (tgt := 17) hx hb dX8_forget_36 (by decide) ?_
  refine lv_iload_n hx hb dX8_forget_17 rfl (lv_at hl 0 rfl) ?_
  refine lv_aload_n hx hb dX8_forget_18 rfl (lv_at hl 1 rfl) ?_
  refine va_get (D := D) (ci := 8) (v := .ref h8) (C := RX8) (T := TX8) (N := 18) hx hb hts inX8 hown hG.1 hP 0 rfl rfl 10 (by decide) (hts _ kw237) (fun _ h9 => h9) rfl dX8_forget_19 ?_
  refine xa_alen (v := 28) hx hb hG hP 1 1 rfl rfl rfl dX8_forget_22 ?_
  refine lv_icmp_ge (tgt := 39) hx hb dX8_forget_23 (by decide) (fun h => absurd h (by decide +kernel)) (fun _ => ?_)
  refine lv_aload_n hx hb dX8_forget_26 rfl (lv_at hl 1 rfl) ?_
  refine va_get (D := D) (ci := 8) (v := .ref h8) (C := RX8) (T := TX8) (N := 18) hx hb hts inX8 hown hG.1 hP 0 rfl rfl 10 (by decide) (hts _ kw237) (fun _ h9 => h9) rfl dX8_forget_27 ?_
  refine lv_iload_n hx hb dX8_forget_30 rfl (lv_at hl 0 rfl) ?_
  refine lv_iconst (v := (-1)) hx hb dX8_forget_31 (by decide +kernel) ?_
  refine xa_istU hx hb hG hP hD hS 1 rfl (vin (by decide +kernel)) dX8_forget_32 (fun f_20 H locs hP hD hS => ?_)
  have hP : va_P D vwCl [(h0, .inr (8, [.int 0, .int 0, .int 0, .ref h1, .ref h2, .ref h3, .ref h4, .ref h5, .ref h6, .ref h7, .ref h8, .ref h9, .ref h10, .int 0, .int 0, .int 0, .int 0, .int 0])), (h8, .inl (cI, 28, .inl f_20)), (h9, .inr (1, [.ref h12, .ref h13, .int 0, .int 0, .int 0])), (h10, .inr (1, [.ref h14, .ref h15, .int 0, .int 0, .int 0]))] H := hP
  have hD : va_D A [(h0, .inr (8, [.int 0, .int 0, .int 0, .ref h1, .ref h2, .ref h3, .ref h4, .ref h5, .ref h6, .ref h7, .ref h8, .ref h9, .ref h10, .int 0, .int 0, .int 0, .int 0, .int 0])), (h8, .inl (cI, 28, .inl f_20)), (h9, .inr (1, [.ref h12, .ref h13, .int 0, .int 0, .int 0])), (h10, .inr (1, [.ref h14, .ref h15, .int 0, .int 0, .int 0]))] := hD
  refine lv_iinc (v := 20) (lv' := [(1, .int 20), (0, .ref h0)]) hx hb dX8_forget_33 hl (k := 0) rfl (by decide +kernel) (by decide) rfl (fun ls hl => ?_)
  refine lv_goto (tgt := 17) hx hb dX8_forget_36 (by decide) ?_
  refine lv_iload_n hx hb dX8_forget_17 rfl (lv_at hl 0 rfl) ?_
  refine lv_aload_n hx hb dX8_forget_18 rfl (lv_at hl 1 rfl) ?_
  refine va_get (D := D) (ci := 8) (v := .ref h8) (C := RX8) (T := TX8) (N := 18) hx hb hts inX8 hown hG.1 hP 0 rfl rfl 10 (by decide) (hts _ kw237) (fun _ h9 => h9) rfl dX8_forget_19 ?_
  refine xa_alen (v := 28) hx hb hG hP 1 1 rfl rfl rfl dX8_forget_22 ?_
  refine lv_icmp_ge (tgt := 39) hx hb dX8_forget_23 (by decide) (fun h => absurd h (by decide +kernel)) (fun _ => ?_)
  refine lv_aload_n hx hb dX8_forget_26 rfl (lv_at hl 1 rfl) ?_
  refine va_get (D := D) (ci := 8) (v := .ref h8) (C := RX8) (T := TX8) (N := 18) hx hb hts inX8 hown hG.1 hP 0 rfl rfl 10 (by decide) (hts _ kw237) (fun _ h9 => h9) rfl dX8_forget_27 ?_
  refine lv_iload_n hx hb dX8_forget_30 rfl (lv_at hl 0 rfl) ?_
  refine lv_iconst (v := (-1)) hx hb dX8_forget_31 (by decide +kernel) ?_
  refine xa_istU hx hb hG hP hD hS 1 rfl (vin (by decide +kernel)) dX8_forget_32 (fun f_21 H locs hP hD hS => ?_)
  have hP : va_P D vwCl [(h0, .inr (8, [.int 0, .int 0, .int 0, .ref h1, .ref h2, .ref h3, .ref h4, .ref h5, .ref h6, .ref h7, .ref h8, .ref h9, .ref h10, .int 0, .int 0, .int 0, .int 0, .int 0])), (h8, .inl (cI, 28, .inl f_21)), (h9, .inr (1, [.ref h12, .ref h13, .int 0, .int 0, .int 0])), (h10, .inr (1, [.ref h14, .ref h15, .int 0, .int 0, .int 0]))] H := hP
  have hD : va_D A [(h0, .inr (8, [.int 0, .int 0, .int 0, .ref h1, .ref h2, .ref h3, .ref h4, .ref h5, .ref h6, .ref h7, .ref h8, .ref h9, .ref h10, .int 0, .int 0, .int 0, .int 0, .int 0])), (h8, .inl (cI, 28, .inl f_21)), (h9, .inr (1, [.ref h12, .ref h13, .int 0, .int 0, .int 0])), (h10, .inr (1, [.ref h14, .ref h15, .int 0, .int 0, .int 0]))] := hD
  refine lv_iinc (v := 21) (lv' := [(1, .int 21), (0, .ref h0)]) hx hb dX8_forget_33 hl (k := 0) rfl (by decide +kernel) (by decide) rfl (fun ls hl => ?_)
  refine lv_goto (tgt := 17) hx hb dX8_forget_36 (by decide) ?_
  refine lv_iload_n hx hb dX8_forget_17 rfl (lv_at hl 0 rfl) ?_
  refine lv_aload_n hx hb dX8_forget_18 rfl (lv_at hl 1 rfl) ?_
  refine va_get (D := D) (ci := 8) (v := .ref h8) (C := RX8) (T := TX8) (N := 18) hx hb hts inX8 hown hG.1 hP 0 rfl rfl 10 (by decide) (hts _ kw237) (fun _ h9 => h9) rfl dX8_forget_19 ?_
  refine xa_alen (v := 28) hx hb hG hP 1 1 rfl rfl rfl dX8_forget_22 ?_
  refine lv_icmp_ge (tgt := 39) hx hb dX8_forget_23 (by decide) (fun h => absurd h (by decide +kernel)) (fun _ => ?_)
  refine lv_aload_n hx hb dX8_forget_26 rfl (lv_at hl 1 rfl) ?_
  refine va_get (D := D) (ci := 8) (v := .ref h8) (C := RX8) (T := TX8) (N := 18) hx hb hts inX8 hown hG.1 hP 0 rfl rfl 10 (by decide) (hts _ kw237) (fun _ h9 => h9) rfl dX8_forget_27 ?_
  refine lv_iload_n hx hb dX8_forget_30 rfl (lv_at hl 0 rfl) ?_
  refine lv_iconst (v := (-1)) hx hb dX8_forget_31 (by decide +kernel) ?_
  refine xa_istU hx hb hG hP hD hS 1 rfl (vin (by decide +kernel)) dX8_forget_32 (fun f_22 H locs hP hD hS => ?_)
  have hP : va_P D vwCl [(h0, .inr (8, [.int 0, .int 0, .int 0, .ref h1, .ref h2, .ref h3, .ref h4, .ref h5, .ref h6, .ref h7, .ref h8, .ref h9, .ref h10, .int 0, .int 0, .int 0, .int 0, .int 0])), (h8, .inl (cI, 28, .inl f_22)), (h9, .inr (1, [.ref h12, .ref h13, .int 0, .int 0, .int 0])), (h10, .inr (1, [.ref h14, .ref h15, .int 0, .int 0, .int 0]))] H := hP
  have hD : va_D A [(h0, .inr (8, [.int 0, .int 0, .int 0, .ref h1, .ref h2, .ref h3, .ref h4, .ref h5, .ref h6, .ref h7, .ref h8, .ref h9, .ref h10, .int 0, .int 0, .int 0, .int 0, .int 0])), (h8, .inl (cI, 28, .inl f_22)), (h9, .inr (1, [.ref h12, .ref h13, .int 0, .int 0, .int 0])), (h10, .inr (1, [.ref h14, .ref h15, .int 0, .int 0, .int 0]))] := hD
  refine lv_iinc (v := 22) (lv' := [(1, .int 22), (0, .ref h0)]) hx hb dX8_forget_33 hl (k := 0) rfl (by decide +kernel) (by decide) rfl (fun ls hl => ?_)
  refine lv_goto (tgt := 17) hx hb dX8_forget_36 (by decide) ?_
  refine lv_iload_n hx hb dX8_forget_17 rfl (lv_at hl 0 rfl) ?_
  refine lv_aload_n hx hb dX8_forget_18 rfl (lv_at hl 1 rfl) ?_
  refine va_get (D := D) (ci := 8) (v := .ref h8) (C := RX8) (T := TX8) (N := 18) hx hb hts inX8 hown hG.1 hP 0 rfl rfl 10 (by decide) (hts _ kw237) (fun _ h9 => h9) rfl dX8_forget_19 ?_
  refine xa_alen (v := 28) hx hb hG hP 1 1 rfl rfl rfl dX8_forget_22 ?_
  refine lv_icmp_ge (tgt := 39) hx hb dX8_forget_23 (by decide) (fun h => absurd h (by decide +kernel)) (fun _ => ?_)
  refine lv_aload_n hx hb dX8_forget_26 rfl (lv_at hl 1 rfl) ?_
  refine va_get (D := D) (ci := 8) (v := .ref h8) (C := RX8) (T := TX8) (N := 18) hx hb hts inX8 hown hG.1 hP 0 rfl rfl 10 (by decide) (hts _ kw237) (fun _ h9 => h9) rfl dX8_forget_27 ?_
  refine lv_iload_n hx hb dX8_forget_30 rfl (lv_at hl 0 rfl) ?_
  refine lv_iconst (v := (-1)) hx hb dX8_forget_31 (by decide +kernel) ?_
  refine xa_istU hx hb hG hP hD hS 1 rfl (vin (by decide +kernel)) dX8_forget_32 (fun f_23 H locs hP hD hS => ?_)
  have hP : va_P D vwCl [(h0, .inr (8, [.int 0, .int 0, .int 0, .ref h1, .ref h2, .ref h3, .ref h4, .ref h5, .ref h6, .ref h7, .ref h8, .ref h9, .ref h10, .int 0, .int 0, .int 0, .int 0, .int 0])), (h8, .inl (cI, 28, .inl f_23)), (h9, .inr (1, [.ref h12, .ref h13, .int 0, .int 0, .int 0])), (h10, .inr (1, [.ref h14, .ref h15, .int 0, .int 0, .int 0]))] H := hP
  have hD : va_D A [(h0, .inr (8, [.int 0, .int 0, .int 0, .ref h1, .ref h2, .ref h3, .ref h4, .ref h5, .ref h6, .ref h7, .ref h8, .ref h9, .ref h10, .int 0, .int 0, .int 0, .int 0, .int 0])), (h8, .inl (cI, 28, .inl f_23)), (h9, .inr (1, [.ref h12, .ref h13, .int 0, .int 0, .int 0])), (h10, .inr (1, [.ref h14, .ref h15, .int 0, .int 0, .int 0]))] := hD
  refine lv_iinc (v := 23) (lv' := [(1, .int 23), (0, .ref h0)]) hx hb dX8_forget_33 hl (k := 0) rfl (by decide +kernel) (by decide) rfl (fun ls hl => ?_)
  refine lv_goto (tgt := 17) hx hb dX8_forget_36 (by decide) ?_
  refine lv_iload_n hx hb dX8_forget_17 rfl (lv_at hl 0 rfl) ?_
  refine lv_aload_n hx hb dX8_forget_18 rfl (lv_at hl 1 rfl) ?_
  refine va_get (D := D) (ci := 8) (v := .ref h8) (C := RX8) (T := TX8) (N := 18) hx hb hts inX8 hown hG.1 hP 0 rfl rfl 10 (by decide) (hts _ kw237) (fun _ h9 => h9) rfl dX8_forget_19 ?_
  refine xa_alen (v := 28) hx hb hG hP 1 1 rfl rfl rfl dX8_forget_22 ?_
  refine lv_icmp_ge (tgt := 39) hx hb dX8_forget_23 (by decide) (fun h => absurd h (by decide +kernel)) (fun _ => ?_)
  refine lv_aload_n hx hb dX8_forget_26 rfl (lv_at hl 1 rfl) ?_
  refine va_get (D := D) (ci := 8) (v := .ref h8) (C := RX8) (T := TX8) (N := 18) hx hb hts inX8 hown hG.1 hP 0 rfl rfl 10 (by decide) (hts _ kw237) (fun _ h9 => h9) rfl dX8_forget_27 ?_
  refine lv_iload_n hx hb dX8_forget_30 rfl (lv_at hl 0 rfl) ?_
  refine lv_iconst (v := (-1)) hx hb dX8_forget_31 (by decide +kernel) ?_
  refine xa_istU hx hb hG hP hD hS 1 rfl (vin (by decide +kernel)) dX8_forget_32 (fun f_24 H locs hP hD hS => ?_)
  have hP : va_P D vwCl [(h0, .inr (8, [.int 0, .int 0, .int 0, .ref h1, .ref h2, .ref h3, .ref h4, .ref h5, .ref h6, .ref h7, .ref h8, .ref h9, .ref h10, .int 0, .int 0, .int 0, .int 0, .int 0])), (h8, .inl (cI, 28, .inl f_24)), (h9, .inr (1, [.ref h12, .ref h13, .int 0, .int 0, .int 0])), (h10, .inr (1, [.ref h14, .ref h15, .int 0, .int 0, .int 0]))] H := hP
  have hD : va_D A [(h0, .inr (8, [.int 0, .int 0, .int 0, .ref h1, .ref h2, .ref h3, .ref h4, .ref h5, .ref h6, .ref h7, .ref h8, .ref h9, .ref h10, .int 0, .int 0, .int 0, .int 0, .int 0])), (h8, .inl (cI, 28, .inl f_24)), (h9, .inr (1, [.ref h12, .ref h13, .int 0, .int 0, .int 0])), (h10, .inr (1, [.ref h14, .ref h15, .int 0, .int 0, .int 0]))] := hD
  refine lv_iinc (v := 24) (lv' := [(1, .int 24), (0, .ref h0)]) hx hb dX8_forget_33 hl (k := 0) rfl (by decide +kernel) (by decide) rfl (fun ls hl => ?_)
  refine lv_goto (tgt := 17) hx hb dX8_forget_36 (by decide) ?_
  refine lv_iload_n hx hb dX8_forget_17 rfl (lv_at hl 0 rfl) ?_
  refine lv_aload_n hx hb dX8_forget_18 rfl (lv_at hl 1 rfl) ?_
  refine va_get (D := D) (ci := 8) (v := .ref h8) (C := RX8) (T := TX8) (N := 18) hx hb hts inX8 hown hG.1 hP 0 rfl rfl 10 (by decide) (hts _ kw237) (fun _ h9 => h9) rfl dX8_forget_19 ?_
  refine xa_alen (v := 28) hx hb hG hP 1 1 rfl rfl rfl dX8_forget_22 ?_
  refine lv_icmp_ge (tgt := 39) hx hb dX8_forget_23 (by decide) (fun h => absurd h (by decide +kernel)) (fun _ => ?_)
  refine lv_aload_n hx hb dX8_forget_26 rfl (lv_at hl 1 rfl) ?_
  refine va_get (D := D) (ci := 8) (v := .ref h8) (C := RX8) (T := TX8) (N := 18) hx hb hts inX8 hown hG.1 hP 0 rfl rfl 10 (by decide) (hts _ kw237) (fun _ h9 => h9) rfl dX8_forget_27 ?_
  refine lv_iload_n hx hb dX8_forget_30 rfl (lv_at hl 0 rfl) ?_
  refine lv_iconst (v := (-1)) hx hb dX8_forget_31 (by decide +kernel) ?_
  refine xa_istU hx hb hG hP hD hS 1 rfl (vin (by decide +kernel)) dX8_forget_32 (fun f_25 H locs hP hD hS => ?_)
  have hP : va_P D vwCl [(h0, .inr (8, [.int 0, .int 0, .int 0, .ref h1, .ref h2, .ref h3, .ref h4, .ref h5, .ref h6, .ref h7, .ref h8, .ref h9, .ref h10, .int 0, .int 0, .int 0, .int 0, .int 0])), (h8, .inl (cI, 28, .inl f_25)), (h9, .inr (1, [.ref h12, .ref h13, .int 0, .int 0, .int 0])), (h10, .inr (1, [.ref h14, .ref h15, .int 0, .int 0, .int 0]))] H := hP
  have hD : va_D A [(h0, .inr (8, [.int 0, .int 0, .int 0, .ref h1, .ref h2, .ref h3, .ref h4, .ref h5, .ref h6, .ref h7, .ref h8, .ref h9, .ref h10, .int 0, .int 0, .int 0, .int 0, .int 0])), (h8, .inl (cI, 28, .inl f_25)), (h9, .inr (1, [.ref h12, .ref h13, .int 0, .int 0, .int 0])), (h10, .inr (1, [.ref h14, .ref h15, .int 0, .int 0, .int 0]))] := hD
  refine lv_iinc (v := 25) (lv' := [(1, .int 25), (0, .ref h0)]) hx hb dX8_forget_33 hl (k := 0) rfl (by decide +kernel) (by decide) rfl (fun ls hl => ?_)
  refine lv_goto (tgt := 17) hx hb dX8_forget_36 (by decide) ?_
  refine lv_iload_n hx hb dX8_forget_17 rfl (lv_at hl 0 rfl) ?_
  refine lv_aload_n hx hb dX8_forget_18 rfl (lv_at hl 1 rfl) ?_
  refine va_get (D := D) (ci := 8) (v := .ref h8) (C := RX8) (T := TX8) (N := 18) hx hb hts inX8 hown hG.1 hP 0 rfl rfl 10 (by decide) (hts _ kw237) (fun _ h9 => h9) rfl dX8_forget_19 ?_
  refine xa_alen (v := 28) hx hb hG hP 1 1 rfl rfl rfl dX8_forget_22 ?_
  refine lv_icmp_ge (tgt := 39) hx hb dX8_forget_23 (by decide) (fun h => absurd h (by decide +kernel)) (fun _ => ?_)
  refine lv_aload_n hx hb dX8_forget_26 rfl (lv_at hl 1 rfl) ?_
  refine va_get (D := D) (ci := 8) (v := .ref h8) (C := RX8) (T := TX8) (N := 18) hx hb hts inX8 hown hG.1 hP 0 rfl rfl 10 (by decide) (hts _ kw237) (fun _ h9 => h9) rfl dX8_forget_27 ?_
  refine lv_iload_n hx hb dX8_forget_30 rfl (lv_at hl 0 rfl) ?_
  refine lv_iconst (v := (-1)) hx hb dX8_forget_31 (by decide +kernel) ?_
  refine xa_istU hx hb hG hP hD hS 1 rfl (vin (by decide +kernel)) dX8_forget_32 (fun f_26 H locs hP hD hS => ?_)
  have hP : va_P D vwCl [(h0, .inr (8, [.int 0, .int 0, .int 0, .ref h1, .ref h2, .ref h3, .ref h4, .ref h5, .ref h6, .ref h7, .ref h8, .ref h9, .ref h10, .int 0, .int 0, .int 0, .int 0, .int 0])), (h8, .inl (cI, 28, .inl f_26)), (h9, .inr (1, [.ref h12, .ref h13, .int 0, .int 0, .int 0])), (h10, .inr (1, [.ref h14, .ref h15, .int 0, .int 0, .int 0]))] H := hP
  have hD : va_D A [(h0, .inr (8, [.int 0, .int 0, .int 0, .ref h1, .ref h2, .ref h3, .ref h4, .ref h5, .ref h6, .ref h7, .ref h8, .ref h9, .ref h10, .int 0, .int 0, .int 0, .int 0, .int 0])), (h8, .inl (cI, 28, .inl f_26)), (h9, .inr (1, [.ref h12, .ref h13, .int 0, .int 0, .int 0])), (h10, .inr (1, [.ref h14, .ref h15, .int 0, .int 0, .int 0]))] := hD
  refine lv_iinc (v := 26) (lv' := [(1, .int 26), (0, .ref h0)]) hx hb dX8_forget_33 hl (k := 0) rfl (by decide +kernel) (by decide) rfl (fun ls hl => ?_)
  refine lv_goto (tgt := 17) hx hb dX8_forget_36 (by decide) ?_
  refine lv_iload_n hx hb dX8_forget_17 rfl (lv_at hl 0 rfl) ?_
  refine lv_aload_n hx hb dX8_forget_18 rfl (lv_at hl 1 rfl) ?_
  refine va_get (D := D) (ci := 8) (v := .ref h8) (C := RX8) (T := TX8) (N := 18) hx hb hts inX8 hown hG.1 hP 0 rfl rfl 10 (by decide) (hts _ kw237) (fun _ h9 => h9) rfl dX8_forget_19 ?_
  refine xa_alen (v := 28) hx hb hG hP 1 1 rfl rfl rfl dX8_forget_22 ?_
  refine lv_icmp_ge (tgt := 39) hx hb dX8_forget_23 (by decide) (fun h => absurd h (by decide +kernel)) (fun _ => ?_)
  refine lv_aload_n hx hb dX8_forget_26 rfl (lv_at hl 1 rfl) ?_
  refine va_get (D := D) (ci := 8) (v := .ref h8) (C := RX8) (T := TX8) (N := 18) hx hb hts inX8 hown hG.1 hP 0 rfl rfl 10 (by decide) (hts _ kw237) (fun _ h9 => h9) rfl dX8_forget_27 ?_
  refine lv_iload_n hx hb dX8_forget_30 rfl (lv_at hl 0 rfl) ?_
  refine lv_iconst (v := (-1)) hx hb dX8_forget_31 (by decide +kernel) ?_
  refine xa_istU hx hb hG hP hD hS 1 rfl (vin (by decide +kernel)) dX8_forget_32 (fun f_27 H locs hP hD hS => ?_)
  have hP : va_P D vwCl [(h0, .inr (8, [.int 0, .int 0, .int 0, .ref h1, .ref h2, .ref h3, .ref h4, .ref h5, .ref h6, .ref h7, .ref h8, .ref h9, .ref h10, .int 0, .int 0, .int 0, .int 0, .int 0])), (h8, .inl (cI, 28, .inl f_27)), (h9, .inr (1, [.ref h12, .ref h13, .int 0, .int 0, .int 0])), (h10, .inr (1, [.ref h14, .ref h15, .int 0, .int 0, .int 0]))] H := hP
  have hD : va_D A [(h0, .inr (8, [.int 0, .int 0, .int 0, .ref h1, .ref h2, .ref h3, .ref h4, .ref h5, .ref h6, .ref h7, .ref h8, .ref h9, .ref h10, .int 0, .int 0, .int 0, .int 0, .int 0])), (h8, .inl (cI, 28, .inl f_27)), (h9, .inr (1, [.ref h12, .ref h13, .int 0, .int 0, .int 0])), (h10, .inr (1, [.ref h14, .ref h15, .int 0, .int 0, .int 0]))] := hD
  refine lv_iinc (v := 27) (lv' := [(1, .int 27), (0, .ref h0)]) hx hb dX8_forget_33 hl (k := 0) rfl (by decide +kernel) (by decide) rfl (fun ls hl => ?_)
  refine lv_goto (tgt := 17) hx hb dX8_forget_36 (by decide) ?_
  refine lv_iload_n hx hb dX8_forget_17 rfl (lv_at hl 0 rfl) ?_
  refine lv_aload_n hx hb dX8_forget_18 rfl (lv_at hl 1 rfl) ?_
  refine va_get (D := D) (ci := 8) (v := .ref h8) (C := RX8) (T := TX8) (N := 18) hx hb hts inX8 hown hG.1 hP 0 rfl rfl 10 (by decide) (hts _ kw237) (fun _ h9 => h9) rfl dX8_forget_19 ?_
  refine xa_alen (v := 28) hx hb hG hP 1 1 rfl rfl rfl dX8_forget_22 ?_
  refine lv_icmp_ge (tgt := 39) hx hb dX8_forget_23 (by decide) (fun h => absurd h (by decide +kernel)) (fun _ => ?_)
  refine lv_aload_n hx hb dX8_forget_26 rfl (lv_at hl 1 rfl) ?_
  refine va_get (D := D) (ci := 8) (v := .ref h8) (C := RX8) (T := TX8) (N := 18) hx hb hts inX8 hown hG.1 hP 0 rfl rfl 10 (by decide) (hts _ kw237) (fun _ h9 => h9) rfl dX8_forget_27 ?_
  refine lv_iload_n hx hb dX8_forget_30 rfl (lv_at hl 0 rfl) ?_
  refine lv_iconst (v := (-1)) hx hb dX8_forget_31 (by decide +kernel) ?_
  refine xa_istU hx hb hG hP hD hS 1 rfl (vin (by decide +kernel)) dX8_forget_32 (fun f_28 H locs hP hD hS => ?_)
  have hP : va_P D vwCl [(h0, .inr (8, [.int 0, .int 0, .int 0, .ref h1, .ref h2, .ref h3, .ref h4, .ref h5, .ref h6, .ref h7, .ref h8, .ref h9, .ref h10, .int 0, .int 0, .int 0, .int 0, .int 0])), (h8, .inl (cI, 28, .inl f_28)), (h9, .inr (1, [.ref h12, .ref h13, .int 0, .int 0, .int 0])), (h10, .inr (1, [.ref h14, .ref h15, .int 0, .int 0, .int 0]))] H := hP
  have hD : va_D A [(h0, .inr (8, [.int 0, .int 0, .int 0, .ref h1, .ref h2, .ref h3, .ref h4, .ref h5, .ref h6, .ref h7, .ref h8, .ref h9, .ref h10, .int 0, .int 0, .int 0, .int 0, .int 0])), (h8, .inl (cI, 28, .inl f_28)), (h9, .inr (1, [.ref h12, .ref h13, .int 0, .int 0, .int 0])), (h10, .inr (1, [.ref h14, .ref h15, .int 0, .int 0, .int 0]))] := hD
  refine lv_iinc (v := 28) (lv' := [(1, .int 28), (0, .ref h0)]) hx hb dX8_forget_33 hl (k := 0) rfl (by decide +kernel) (by decide) rfl (fun ls hl => ?_)
  refine lv_goto (tgt := 17) hx hb dX8_forget_36 (by decide) ?_
  refine lv_iload_n hx hb dX8_forget_17 rfl (lv_at hl 0 rfl) ?_
  refine lv_aload_n hx hb dX8_forget_18 rfl (lv_at hl 1 rfl) ?_
  refine va_get (D := D) (ci := 8) (v := .ref h8) (C := RX8) (T := TX8) (N := 18) hx hb hts inX8 hown hG.1 hP 0 rfl rfl 10 (by decide) (hts _ kw237) (fun _ h9 => h9) rfl dX8_forget_19 ?_
  refine xa_alen (v := 28) hx hb hG hP 1 1 rfl rfl rfl dX8_forget_22 ?_
  refine lv_icmp_ge (tgt := 39) hx hb dX8_forget_23 (by decide) (fun _ => ?_) (fun h => absurd h (by decide +kernel))
  refine lv_aload_n hx hb dX8_forget_39 rfl (lv_at hl 1 rfl) ?_
  refine va_get (D := D) (ci := 8) (v := .ref h9) (C := RX8) (T := TX8) (N := 18) hx hb hts inX8 hown hG.1 hP 0 rfl rfl 11 (by decide) (hts _ kw239) (fun _ h9 => h9) rfl dX8_forget_40 ?_
  refine xc_core (wr := [(h0, .inr (8, [.int 0, .int 0, .int 0, .ref h1, .ref h2, .ref h3, .ref h4, .ref h5, .ref h6, .ref h7, .ref h8, .ref h9, .ref h10, .int 0, .int 0, .int 0, .int 0, .int 0])), (h8, .inl (cI, 28, .inl f_28)), (h10, .inr (1, [.ref h14, .ref h15, .int 0, .int 0, .int 0]))]) (k := 0) (n := 0) (xc_runV (As := []) (rest := []) hx hb hml hown hts hG hE hP hD hS hA [2] (by decide) rfl (cX1_forget_2 l D cB cI cJ cZ aK aV h9 h12 h13) kw196 kw193 kw194 kw195 kw115 (show XD yX1_forget 0 from by decide +kernel) (by decide) rfl rfl 2 rfl hl.1 rfl (Nat.le_of_ble_eq_true rfl) dX8_forget_43 (by decide)) hP hD hS hA [2] [0, 1, 3] rfl rfl (by decide) (by decide) (Nat.le_of_ble_eq_true rfl) (Nat.le_of_ble_eq_true rfl) (fun r w1 H locs hpost hP hD hS => ?_)
  obtain ⟨rfl, rfl⟩ := hpost
  have hP : va_P D vwCl [(h0, .inr (8, [.int 0, .int 0, .int 0, .ref h1, .ref h2, .ref h3, .ref h4, .ref h5, .ref h6, .ref h7, .ref h8, .ref h9, .ref h10, .int 0, .int 0, .int 0, .int 0, .int 0])), (h8, .inl (cI, 28, .inl f_28)), (h10, .inr (1, [.ref h14, .ref h15, .int 0, .int 0, .int 0])), (h9, .inr (1, [.ref h12, .ref h13, .int 0, .int 0, .int 0]))] H := hP
  have hD : va_D A [(h0, .inr (8, [.int 0, .int 0, .int 0, .ref h1, .ref h2, .ref h3, .ref h4, .ref h5, .ref h6, .ref h7, .ref h8, .ref h9, .ref h10, .int 0, .int 0, .int 0, .int 0, .int 0])), (h8, .inl (cI, 28, .inl f_28)), (h10, .inr (1, [.ref h14, .ref h15, .int 0, .int 0, .int 0])), (h9, .inr (1, [.ref h12, .ref h13, .int 0, .int 0, .int 0]))] := hD
  refine lv_aload_n hx hb dX8_forget_46 rfl (lv_at hl 1 rfl) ?_
  refine va_get (D := D) (ci := 8) (v := .ref h10) (C := RX8) (T := TX8) (N := 18) hx hb hts inX8 hown hG.1 hP 0 rfl rfl 12 (by decide) (hts _ kw242) (fun _ h9 => h9) rfl dX8_forget_47 ?_
  refine xc_core (wr := [(h0, .inr (8, [.int 0, .int 0, .int 0, .ref h1, .ref h2, .ref h3, .ref h4, .ref h5, .ref h6, .ref h7, .ref h8, .ref h9, .ref h10, .int 0, .int 0, .int 0, .int 0, .int 0])), (h8, .inl (cI, 28, .inl f_28)), (h9, .inr (1, [.ref h12, .ref h13, .int 0, .int 0, .int 0]))]) (k := 0) (n := 0) (xc_runV (As := []) (rest := []) hx hb hml hown hts hG hE hP hD hS hA [2] (by decide) rfl (cX1_forget_2 l D cB cI cJ cZ aK aV h10 h14 h15) kw196 kw193 kw194 kw195 kw115 (show XD yX1_forget 0 from by decide +kernel) (by decide) rfl rfl 2 rfl hl.1 rfl (Nat.le_of_ble_eq_true rfl) dX8_forget_50 (by decide)) hP hD hS hA [2] [0, 1, 3] rfl rfl (by decide) (by decide) (Nat.le_of_ble_eq_true rfl) (Nat.le_of_ble_eq_true rfl) (fun r w1 H locs hpost hP hD hS => ?_)
  obtain ⟨rfl, rfl⟩ := hpost
  have hP : va_P D vwCl [(h0, .inr (8, [.int 0, .int 0, .int 0, .ref h1, .ref h2, .ref h3, .ref h4, .ref h5, .ref h6, .ref h7, .ref h8, .ref h9, .ref h10, .int 0, .int 0, .int 0, .int 0, .int 0])), (h8, .inl (cI, 28, .inl f_28)), (h9, .inr (1, [.ref h12, .ref h13, .int 0, .int 0, .int 0])), (h10, .inr (1, [.ref h14, .ref h15, .int 0, .int 0, .int 0]))] H := hP
  have hD : va_D A [(h0, .inr (8, [.int 0, .int 0, .int 0, .ref h1, .ref h2, .ref h3, .ref h4, .ref h5, .ref h6, .ref h7, .ref h8, .ref h9, .ref h10, .int 0, .int 0, .int 0, .int 0, .int 0])), (h8, .inl (cI, 28, .inl f_28)), (h9, .inr (1, [.ref h12, .ref h13, .int 0, .int 0, .int 0])), (h10, .inr (1, [.ref h14, .ref h15, .int 0, .int 0, .int 0]))] := hD
  refine lv_aload_n hx hb dX8_forget_53 rfl (lv_at hl 1 rfl) ?_
  refine lv_iconst (v := 0) hx hb dX8_forget_54 (by decide +kernel) ?_
  refine va_put (D := D) (ci := 8) (v := .int 0) (ty := .int) (C := RX8) (T := TX8) (N := 18) hx hb hts inX8 tyX8 tyX8_ok nmX8 hown hG.1 hP hD hS 0 rfl rfl 13 (by decide) (hts _ kw246) (fun _ h9 => h9) rfl (by decide +kernel) rfl rfl (Nat.le_of_ble_eq_true rfl) dX8_forget_55 (fun H locs hP hD hS => ?_)
  have hP : va_P D vwCl [(h0, .inr (8, [.int 0, .int 0, .int 0, .ref h1, .ref h2, .ref h3, .ref h4, .ref h5, .ref h6, .ref h7, .ref h8, .ref h9, .ref h10, .int 0, .int 0, .int 0, .int 0, .int 0])), (h8, .inl (cI, 28, .inl f_28)), (h9, .inr (1, [.ref h12, .ref h13, .int 0, .int 0, .int 0])), (h10, .inr (1, [.ref h14, .ref h15, .int 0, .int 0, .int 0]))] H := hP
  have hD : va_D A [(h0, .inr (8, [.int 0, .int 0, .int 0, .ref h1, .ref h2, .ref h3, .ref h4, .ref h5, .ref h6, .ref h7, .ref h8, .ref h9, .ref h10, .int 0, .int 0, .int 0, .int 0, .int 0])), (h8, .inl (cI, 28, .inl f_28)), (h9, .inr (1, [.ref h12, .ref h13, .int 0, .int 0, .int 0])), (h10, .inr (1, [.ref h14, .ref h15, .int 0, .int 0, .int 0]))] := hD
  refine lv_aload_n hx hb dX8_forget_58 rfl (lv_at hl 1 rfl) ?_
  refine lv_iconst (v := 1) hx hb dX8_forget_59 (by decide +kernel) ?_
  refine va_put (D := D) (ci := 8) (v := .int 1) (ty := .int) (C := RX8) (T := TX8) (N := 18) hx hb hts inX8 tyX8 tyX8_ok nmX8 hown hG.1 hP hD hS 0 rfl rfl 14 (by decide) (hts _ kw250) (fun _ h9 => h9) rfl (by decide +kernel) rfl rfl (Nat.le_of_ble_eq_true rfl) dX8_forget_60 (fun H locs hP hD hS => ?_)
  have hP : va_P D vwCl [(h0, .inr (8, [.int 0, .int 0, .int 0, .ref h1, .ref h2, .ref h3, .ref h4, .ref h5, .ref h6, .ref h7, .ref h8, .ref h9, .ref h10, .int 0, .int 1, .int 0, .int 0, .int 0])), (h8, .inl (cI, 28, .inl f_28)), (h9, .inr (1, [.ref h12, .ref h13, .int 0, .int 0, .int 0])), (h10, .inr (1, [.ref h14, .ref h15, .int 0, .int 0, .int 0]))] H := hP
  have hD : va_D A [(h0, .inr (8, [.int 0, .int 0, .int 0, .ref h1, .ref h2, .ref h3, .ref h4, .ref h5, .ref h6, .ref h7, .ref h8, .ref h9, .ref h10, .int 0, .int 1, .int 0, .int 0, .int 0])), (h8, .inl (cI, 28, .inl f_28)), (h9, .inr (1, [.ref h12, .ref h13, .int 0, .int 0, .int 0])), (h10, .inr (1, [.ref h14, .ref h15, .int 0, .int 0, .int 0]))] := hD
  refine lv_aload_n hx hb dX8_forget_63 rfl (lv_at hl 1 rfl) ?_
  refine lv_iconst (v := 0) hx hb dX8_forget_64 (by decide +kernel) ?_
  refine va_put (D := D) (ci := 8) (v := .int 0) (ty := .boolean) (C := RX8) (T := TX8) (N := 18) hx hb hts inX8 tyX8 tyX8_ok nmX8 hown hG.1 hP hD hS 0 rfl rfl 15 (by decide) (hts _ kw253) (fun _ h9 => h9) rfl (by decide +kernel) (by decide +kernel) (by decide +kernel) (Nat.le_of_ble_eq_true rfl) dX8_forget_65 (fun H locs hP hD hS => ?_)
  have hP : va_P D vwCl [(h0, .inr (8, [.int 0, .int 0, .int 0, .ref h1, .ref h2, .ref h3, .ref h4, .ref h5, .ref h6, .ref h7, .ref h8, .ref h9, .ref h10, .int 0, .int 1, .int 0, .int 0, .int 0])), (h8, .inl (cI, 28, .inl f_28)), (h9, .inr (1, [.ref h12, .ref h13, .int 0, .int 0, .int 0])), (h10, .inr (1, [.ref h14, .ref h15, .int 0, .int 0, .int 0]))] H := hP
  have hD : va_D A [(h0, .inr (8, [.int 0, .int 0, .int 0, .ref h1, .ref h2, .ref h3, .ref h4, .ref h5, .ref h6, .ref h7, .ref h8, .ref h9, .ref h10, .int 0, .int 1, .int 0, .int 0, .int 0])), (h8, .inl (cI, 28, .inl f_28)), (h9, .inr (1, [.ref h12, .ref h13, .int 0, .int 0, .int 0])), (h10, .inr (1, [.ref h14, .ref h15, .int 0, .int 0, .int 0]))] := hD
  refine lv_aload_n hx hb dX8_forget_68 rfl (lv_at hl 1 rfl) ?_
  refine lv_iconst (v := 0) hx hb dX8_forget_69 (by decide +kernel) ?_
  refine va_put (D := D) (ci := 8) (v := .int 0) (ty := .int) (C := RX8) (T := TX8) (N := 18) hx hb hts inX8 tyX8 tyX8_ok nmX8 hown hG.1 hP hD hS 0 rfl rfl 16 (by decide) (hts _ kw255) (fun _ h9 => h9) rfl (by decide +kernel) rfl rfl (Nat.le_of_ble_eq_true rfl) dX8_forget_70 (fun H locs hP hD hS => ?_)
  have hP : va_P D vwCl [(h0, .inr (8, [.int 0, .int 0, .int 0, .ref h1, .ref h2, .ref h3, .ref h4, .ref h5, .ref h6, .ref h7, .ref h8, .ref h9, .ref h10, .int 0, .int 1, .int 0, .int 0, .int 0])), (h8, .inl (cI, 28, .inl f_28)), (h9, .inr (1, [.ref h12, .ref h13, .int 0, .int 0, .int 0])), (h10, .inr (1, [.ref h14, .ref h15, .int 0, .int 0, .int 0]))] H := hP
  have hD : va_D A [(h0, .inr (8, [.int 0, .int 0, .int 0, .ref h1, .ref h2, .ref h3, .ref h4, .ref h5, .ref h6, .ref h7, .ref h8, .ref h9, .ref h10, .int 0, .int 1, .int 0, .int 0, .int 0])), (h8, .inl (cI, 28, .inl f_28)), (h9, .inr (1, [.ref h12, .ref h13, .int 0, .int 0, .int 0])), (h10, .inr (1, [.ref h14, .ref h15, .int 0, .int 0, .int 0]))] := hD
  refine lv_aload_n hx hb dX8_forget_73 rfl (lv_at hl 1 rfl) ?_
  refine lv_iconst (v := 0) hx hb dX8_forget_74 (by decide +kernel) ?_
  refine va_put (D := D) (ci := 8) (v := .int 0) (ty := .boolean) (C := RX8) (T := TX8) (N := 18) hx hb hts inX8 tyX8 tyX8_ok nmX8 hown hG.1 hP hD hS 0 rfl rfl 17 (by decide) (hts _ kw258) (fun _ h9 => h9) rfl (by decide +kernel) (by decide +kernel) (by decide +kernel) (Nat.le_of_ble_eq_true rfl) dX8_forget_75 (fun H locs hP hD hS => ?_)
  have hP : va_P D vwCl [(h0, .inr (8, [.int 0, .int 0, .int 0, .ref h1, .ref h2, .ref h3, .ref h4, .ref h5, .ref h6, .ref h7, .ref h8, .ref h9, .ref h10, .int 0, .int 1, .int 0, .int 0, .int 0])), (h8, .inl (cI, 28, .inl f_28)), (h9, .inr (1, [.ref h12, .ref h13, .int 0, .int 0, .int 0])), (h10, .inr (1, [.ref h14, .ref h15, .int 0, .int 0, .int 0]))] H := hP
  have hD : va_D A [(h0, .inr (8, [.int 0, .int 0, .int 0, .ref h1, .ref h2, .ref h3, .ref h4, .ref h5, .ref h6, .ref h7, .ref h8, .ref h9, .ref h10, .int 0, .int 1, .int 0, .int 0, .int 0])), (h8, .inl (cI, 28, .inl f_28)), (h9, .inr (1, [.ref h12, .ref h13, .int 0, .int 0, .int 0])), (h10, .inr (1, [.ref h14, .ref h15, .int 0, .int 0, .int 0]))] := hD
  have hP9 := hP.sub (ws' := [(h0, .inr (8, [.int 0, .int 0, .int 0, .ref h1, .ref h2, .ref h3, .ref h4, .ref h5, .ref h6, .ref h7, .ref h8, .ref h9, .ref h10, .int 0, .int 1, .int 0, .int 0, .int 0])), (h8, .inl (cI, 28, .inl f_28)), (h9, .inr (1, [.ref h12, .ref h13, .int 0, .int 0, .int 0])), (h10, .inr (1, [.ref h14, .ref h15, .int 0, .int 0, .int 0]))]) [0, 1, 2, 3] rfl
  have hD9 := hD.sub (ws' := [(h0, .inr (8, [.int 0, .int 0, .int 0, .ref h1, .ref h2, .ref h3, .ref h4, .ref h5, .ref h6, .ref h7, .ref h8, .ref h9, .ref h10, .int 0, .int 1, .int 0, .int 0, .int 0])), (h8, .inl (cI, 28, .inl f_28)), (h9, .inr (1, [.ref h12, .ref h13, .int 0, .int 0, .int 0])), (h10, .inr (1, [.ref h14, .ref h15, .int 0, .int 0, .int 0]))]) [0, 1, 2, 3] (by decide) rfl
  exact xr_v (rm := (rmL 2 0 0)) hx hb hr hlocks hAe hS hP9 hD9 (Nat.le_of_ble_eq_true rfl) (Nat.le_of_ble_eq_true rfl) dX8_forget_78 ⟨f_28, rfl, rfl⟩
theorem kw189 : (.methodLink RX8 46 yX8_forget : Cond) ∈ gT := gT_of 189 (by decide +kernel) (by decide +kernel)
theorem dX8_init_89 : decode cX8_init 89 = .ok (.invokevirtual 46, 3) := by decide +kernel
theorem dX8_init_92 : decode cX8_init 92 = .ok (.return_, 1) := by decide +kernel
set_option maxHeartbeats 4000000 in
set_option maxRecDepth 100000 in
theorem cX8_init_1 (l : Launch) (D : va_G) (cB cI cJ cZ : ClassId) (aK aV : Nat → Nat) (h0 : Nat) : MX l yX8_init cX8_init 1 none (rmL 3 14 684) D cB cI cJ cZ aK aV [.ref h0] [(h0, .inr (8, [.int 0, .int 0, .int 0, .null, .null, .null, .null, .null, .null, .null, .null, .null, .null, .int 0, .int 0, .int 0, .int 0, .int 0]))] (fun r w1 => ∃ q_1 : Nat, ∃ q_2 : Nat, ∃ q_3 : Nat, ∃ q_4 : Nat, ∃ q_5 : Nat, ∃ q_6 : Nat, ∃ q_7 : Nat, ∃ q_8 : Nat, ∃ q_9 : Nat, ∃ q_12 : Nat, ∃ f_42 : Nat → Int32, ∃ q_10 : Nat, ∃ q_11 : Nat, ∃ q_13 : Nat, ∃ q_14 : Nat, r = none ∧ w1 = [(h0, .inr (8, [.int 0, .int 0, .int 0, .ref q_1, .ref q_2, .ref q_3, .ref q_4, .ref q_5, .ref q_6, .ref q_7, .ref q_8, .ref q_9, .ref q_12, .int 0, .int 1, .int 0, .int 0, .int 0])), (q_1, .inl (cI, 4, .inl (fun _ => 0))), (q_2, .inl (cI, 3, .inl (fun _ => 0))), (q_3, .inl (cI, 7, .inl (fun _ => 0))), (q_4, .inl (cI, 7, .inl (fun _ => 0))), (q_5, .inl (cI, 7, .inl (fun _ => 0))), (q_6, .inl (cI, 7, .inl (fun _ => 0))), (q_7, .inl (cI, 7, .inl (fun _ => 0))), (q_8, .inl (cI, 28, .inl f_42)), (q_9, .inr (1, [.ref q_10, .ref q_11, .int 0, .int 0, .int 0])), (q_10, .inl (cI, 272, .inl (fun _ => 0))), (q_11, .inl (cI, 30, .inl (fun _ => 0))), (q_12, .inr (1, [.ref q_13, .ref q_14, .int 0, .int 0, .int 0])), (q_13, .inl (cI, 272, .inl (fun _ => 0))), (q_14, .inl (cI, 30, .inl (fun _ => 0)))]) := by
  refine MX.intro (by decide) (Nat.le_of_ble_eq_true rfl) ?_
  intro p e s m below meth c A ls hx hb hr hml hown hlocks hnm hts hG hE hA hS hP hD hl hAe
  have hl : lv_has ls 1 [(0, .ref h0)] := hl
  have hown : s.vm.findClass RX8 = some m.cls := hown
  refine lv_aload_n hx hb dX8_init_0 rfl (lv_at hl 0 rfl) ?_
  refine W.objInit hx hb hown (hts _ kw161) (hts _ kw137) (hts _ kw138) rfl (by rw [hml]; exact hl.1) rfl dX8_init_1 (Nat.le_of_ble_eq_true rfl) (Nat.le_of_ble_eq_true rfl) ?_
  refine W.eq (g2 := F0 m 4 ls []) rfl ?_
  refine lv_aload_n hx hb dX8_init_4 rfl (lv_at hl 0 rfl) ?_
  refine lv_iconst (v := 4) hx hb dX8_init_5 (by decide +kernel) ?_
  refine xn_newa (D := D) (a0 := (4, .inl (fun _ => 0))) (N' := 4) (k1 := 1) (n1 := 4) (cA := cI) hx hb (ty := .int) rfl hts kw188 hG hP hD hS hA 1 rfl (fun _ h9 => h9) (fun _ => rfl) (by decide) (by decide +kernel) (by decide) (Nat.le_of_ble_eq_true rfl) (Nat.le_of_ble_eq_true rfl) (Nat.le_of_ble_eq_true rfl) (Nat.le_of_ble_eq_true rfl) dX8_init_6 (fun q_1 H hP hD hS => ?_)
  have hP : va_P D vwCl [(h0, .inr (8, [.int 0, .int 0, .int 0, .null, .null, .null, .null, .null, .null, .null, .null, .null, .null, .int 0, .int 0, .int 0, .int 0, .int 0])), (q_1, .inl (cI, 4, .inl (fun _ => 0)))] H := hP
  have hD : va_D A [(h0, .inr (8, [.int 0, .int 0, .int 0, .null, .null, .null, .null, .null, .null, .null, .null, .null, .null, .int 0, .int 0, .int 0, .int 0, .int 0])), (q_1, .inl (cI, 4, .inl (fun _ => 0)))] := hD
  refine va_putF (D := D) (ci := 8) (v := .ref q_1) (ty := .array .int) (C := RX8) (T := TX8) (N := 18) hx hb hts inX8 tyX8 tyX8_ok nmX8 hown hG.1 hP hD hS 0 rfl rfl 3 (by decide) (hts _ kw212) (fun _ h9 => h9) rfl hnm rfl (by decide +kernel) rfl rfl (Nat.le_of_ble_eq_true rfl) dX8_init_8 (fun H locs hP hD hS => ?_)
  have hP : va_P D vwCl [(h0, .inr (8, [.int 0, .int 0, .int 0, .ref q_1, .null, .null, .null, .null, .null, .null, .null, .null, .null, .int 0, .int 0, .int 0, .int 0, .int 0])), (q_1, .inl (cI, 4, .inl (fun _ => 0)))] H := hP
  have hD : va_D A [(h0, .inr (8, [.int 0, .int 0, .int 0, .ref q_1, .null, .null, .null, .null, .null, .null, .null, .null, .null, .int 0, .int 0, .int 0, .int 0, .int 0])), (q_1, .inl (cI, 4, .inl (fun _ => 0)))] := hD
  refine lv_aload_n hx hb dX8_init_11 rfl (lv_at hl 0 rfl) ?_
  refine lv_iconst (v := 3) hx hb dX8_init_12 (by decide +kernel) ?_
  refine xn_newa (D := D) (a0 := (3, .inl (fun _ => 0))) (N' := 3) (k1 := 2) (n1 := 7) (cA := cI) hx hb (ty := .int) rfl hts kw188 hG hP hD hS hA 1 rfl (fun _ h9 => h9) (fun _ => rfl) (by decide) (by decide +kernel) (by decide) (Nat.le_of_ble_eq_true rfl) (Nat.le_of_ble_eq_true rfl) (Nat.le_of_ble_eq_true rfl) (Nat.le_of_ble_eq_true rfl) dX8_init_13 (fun q_2 H hP hD hS => ?_)
  have hP : va_P D vwCl [(h0, .inr (8, [.int 0, .int 0, .int 0, .ref q_1, .null, .null, .null, .null, .null, .null, .null, .null, .null, .int 0, .int 0, .int 0, .int 0, .int 0])), (q_1, .inl (cI, 4, .inl (fun _ => 0))), (q_2, .inl (cI, 3, .inl (fun _ => 0)))] H := hP
  have hD : va_D A [(h0, .inr (8, [.int 0, .int 0, .int 0, .ref q_1, .null, .null, .null, .null, .null, .null, .null, .null, .null, .int 0, .int 0, .int 0, .int 0, .int 0])), (q_1, .inl (cI, 4, .inl (fun _ => 0))), (q_2, .inl (cI, 3, .inl (fun _ => 0)))] := hD
  refine va_putF (D := D) (ci := 8) (v := .ref q_2) (ty := .array .int) (C := RX8) (T := TX8) (N := 18) hx hb hts inX8 tyX8 tyX8_ok nmX8 hown hG.1 hP hD hS 0 rfl rfl 4 (by decide) (hts _ kw215) (fun _ h9 => h9) rfl hnm rfl (by decide +kernel) rfl rfl (Nat.le_of_ble_eq_true rfl) dX8_init_15 (fun H locs hP hD hS => ?_)
  have hP : va_P D vwCl [(h0, .inr (8, [.int 0, .int 0, .int 0, .ref q_1, .ref q_2, .null, .null, .null, .null, .null, .null, .null, .null, .int 0, .int 0, .int 0, .int 0, .int 0])), (q_1, .inl (cI, 4, .inl (fun _ => 0))), (q_2, .inl (cI, 3, .inl (fun _ => 0)))] H := hP
  have hD : va_D A [(h0, .inr (8, [.int 0, .int 0, .int 0, .ref q_1, .ref q_2, .null, .null, .null, .null, .null, .null, .null, .null, .int 0, .int 0, .int 0, .int 0, .int 0])), (q_1, .inl (cI, 4, .inl (fun _ => 0))), (q_2, .inl (cI, 3, .inl (fun _ => 0)))] := hD
  refine lv_aload_n hx hb dX8_init_18 rfl (lv_at hl 0 rfl) ?_
  refine lv_bipush (v := 7) hx hb dX8_init_19 (by decide +kernel) ?_
  refine xn_newa (D := D) (a0 := (7, .inl (fun _ => 0))) (N' := 7) (k1 := 3) (n1 := 14) (cA := cI) hx hb (ty := .int) rfl hts kw188 hG hP hD hS hA 1 rfl (fun _ h9 => h9) (fun _ => rfl) (by decide) (by decide +kernel) (by decide) (Nat.le_of_ble_eq_true rfl) (Nat.le_of_ble_eq_true rfl) (Nat.le_of_ble_eq_true rfl) (Nat.le_of_ble_eq_true rfl) dX8_init_21 (fun q_3 H hP hD hS => ?_)
  have hP : va_P D vwCl [(h0, .inr (8, [.int 0, .int 0, .int 0, .ref q_1, .ref q_2, .null, .null, .null, .null, .null, .null, .null, .null, .int 0, .int 0, .int 0, .int 0, .int 0])), (q_1, .inl (cI, 4, .inl (fun _ => 0))), (q_2, .inl (cI, 3, .inl (fun _ => 0))), (q_3, .inl (cI, 7, .inl (fun _ => 0)))] H := hP
  have hD : va_D A [(h0, .inr (8, [.int 0, .int 0, .int 0, .ref q_1, .ref q_2, .null, .null, .null, .null, .null, .null, .null, .null, .int 0, .int 0, .int 0, .int 0, .int 0])), (q_1, .inl (cI, 4, .inl (fun _ => 0))), (q_2, .inl (cI, 3, .inl (fun _ => 0))), (q_3, .inl (cI, 7, .inl (fun _ => 0)))] := hD
  refine va_putF (D := D) (ci := 8) (v := .ref q_3) (ty := .array .int) (C := RX8) (T := TX8) (N := 18) hx hb hts inX8 tyX8 tyX8_ok nmX8 hown hG.1 hP hD hS 0 rfl rfl 5 (by decide) (hts _ kw219) (fun _ h9 => h9) rfl hnm rfl (by decide +kernel) rfl rfl (Nat.le_of_ble_eq_true rfl) dX8_init_23 (fun H locs hP hD hS => ?_)
  have hP : va_P D vwCl [(h0, .inr (8, [.int 0, .int 0, .int 0, .ref q_1, .ref q_2, .ref q_3, .null, .null, .null, .null, .null, .null, .null, .int 0, .int 0, .int 0, .int 0, .int 0])), (q_1, .inl (cI, 4, .inl (fun _ => 0))), (q_2, .inl (cI, 3, .inl (fun _ => 0))), (q_3, .inl (cI, 7, .inl (fun _ => 0)))] H := hP
  have hD : va_D A [(h0, .inr (8, [.int 0, .int 0, .int 0, .ref q_1, .ref q_2, .ref q_3, .null, .null, .null, .null, .null, .null, .null, .int 0, .int 0, .int 0, .int 0, .int 0])), (q_1, .inl (cI, 4, .inl (fun _ => 0))), (q_2, .inl (cI, 3, .inl (fun _ => 0))), (q_3, .inl (cI, 7, .inl (fun _ => 0)))] := hD
  refine lv_aload_n hx hb dX8_init_26 rfl (lv_at hl 0 rfl) ?_
  refine lv_bipush (v := 7) hx hb dX8_init_27 (by decide +kernel) ?_
  refine xn_newa (D := D) (a0 := (7, .inl (fun _ => 0))) (N' := 7) (k1 := 4) (n1 := 21) (cA := cI) hx hb (ty := .int) rfl hts kw188 hG hP hD hS hA 1 rfl (fun _ h9 => h9) (fun _ => rfl) (by decide) (by decide +kernel) (by decide) (Nat.le_of_ble_eq_true rfl) (Nat.le_of_ble_eq_true rfl) (Nat.le_of_ble_eq_true rfl) (Nat.le_of_ble_eq_true rfl) dX8_init_29 (fun q_4 H hP hD hS => ?_)
  have hP : va_P D vwCl [(h0, .inr (8, [.int 0, .int 0, .int 0, .ref q_1, .ref q_2, .ref q_3, .null, .null, .null, .null, .null, .null, .null, .int 0, .int 0, .int 0, .int 0, .int 0])), (q_1, .inl (cI, 4, .inl (fun _ => 0))), (q_2, .inl (cI, 3, .inl (fun _ => 0))), (q_3, .inl (cI, 7, .inl (fun _ => 0))), (q_4, .inl (cI, 7, .inl (fun _ => 0)))] H := hP
  have hD : va_D A [(h0, .inr (8, [.int 0, .int 0, .int 0, .ref q_1, .ref q_2, .ref q_3, .null, .null, .null, .null, .null, .null, .null, .int 0, .int 0, .int 0, .int 0, .int 0])), (q_1, .inl (cI, 4, .inl (fun _ => 0))), (q_2, .inl (cI, 3, .inl (fun _ => 0))), (q_3, .inl (cI, 7, .inl (fun _ => 0))), (q_4, .inl (cI, 7, .inl (fun _ => 0)))] := hD
  refine va_putF (D := D) (ci := 8) (v := .ref q_4) (ty := .array .int) (C := RX8) (T := TX8) (N := 18) hx hb hts inX8 tyX8 tyX8_ok nmX8 hown hG.1 hP hD hS 0 rfl rfl 6 (by decide) (hts _ kw222) (fun _ h9 => h9) rfl hnm rfl (by decide +kernel) rfl rfl (Nat.le_of_ble_eq_true rfl) dX8_init_31 (fun H locs hP hD hS => ?_)
  have hP : va_P D vwCl [(h0, .inr (8, [.int 0, .int 0, .int 0, .ref q_1, .ref q_2, .ref q_3, .ref q_4, .null, .null, .null, .null, .null, .null, .int 0, .int 0, .int 0, .int 0, .int 0])), (q_1, .inl (cI, 4, .inl (fun _ => 0))), (q_2, .inl (cI, 3, .inl (fun _ => 0))), (q_3, .inl (cI, 7, .inl (fun _ => 0))), (q_4, .inl (cI, 7, .inl (fun _ => 0)))] H := hP
  have hD : va_D A [(h0, .inr (8, [.int 0, .int 0, .int 0, .ref q_1, .ref q_2, .ref q_3, .ref q_4, .null, .null, .null, .null, .null, .null, .int 0, .int 0, .int 0, .int 0, .int 0])), (q_1, .inl (cI, 4, .inl (fun _ => 0))), (q_2, .inl (cI, 3, .inl (fun _ => 0))), (q_3, .inl (cI, 7, .inl (fun _ => 0))), (q_4, .inl (cI, 7, .inl (fun _ => 0)))] := hD
  refine lv_aload_n hx hb dX8_init_34 rfl (lv_at hl 0 rfl) ?_
  refine lv_bipush (v := 7) hx hb dX8_init_35 (by decide +kernel) ?_
  refine xn_newa (D := D) (a0 := (7, .inl (fun _ => 0))) (N' := 7) (k1 := 5) (n1 := 28) (cA := cI) hx hb (ty := .int) rfl hts kw188 hG hP hD hS hA 1 rfl (fun _ h9 => h9) (fun _ => rfl) (by decide) (by decide +kernel) (by decide) (Nat.le_of_ble_eq_true rfl) (Nat.le_of_ble_eq_true rfl) (Nat.le_of_ble_eq_true rfl) (Nat.le_of_ble_eq_true rfl) dX8_init_37 (fun q_5 H hP hD hS => ?_)
  have hP : va_P D vwCl [(h0, .inr (8, [.int 0, .int 0, .int 0, .ref q_1, .ref q_2, .ref q_3, .ref q_4, .null, .null, .null, .null, .null, .null, .int 0, .int 0, .int 0, .int 0, .int 0])), (q_1, .inl (cI, 4, .inl (fun _ => 0))), (q_2, .inl (cI, 3, .inl (fun _ => 0))), (q_3, .inl (cI, 7, .inl (fun _ => 0))), (q_4, .inl (cI, 7, .inl (fun _ => 0))), (q_5, .inl (cI, 7, .inl (fun _ => 0)))] H := hP
  have hD : va_D A [(h0, .inr (8, [.int 0, .int 0, .int 0, .ref q_1, .ref q_2, .ref q_3, .ref q_4, .null, .null, .null, .null, .null, .null, .int 0, .int 0, .int 0, .int 0, .int 0])), (q_1, .inl (cI, 4, .inl (fun _ => 0))), (q_2, .inl (cI, 3, .inl (fun _ => 0))), (q_3, .inl (cI, 7, .inl (fun _ => 0))), (q_4, .inl (cI, 7, .inl (fun _ => 0))), (q_5, .inl (cI, 7, .inl (fun _ => 0)))] := hD
  refine va_putF (D := D) (ci := 8) (v := .ref q_5) (ty := .array .int) (C := RX8) (T := TX8) (N := 18) hx hb hts inX8 tyX8 tyX8_ok nmX8 hown hG.1 hP hD hS 0 rfl rfl 7 (by decide) (hts _ kw225) (fun _ h9 => h9) rfl hnm rfl (by decide +kernel) rfl rfl (Nat.le_of_ble_eq_true rfl) dX8_init_39 (fun H locs hP hD hS => ?_)
  have hP : va_P D vwCl [(h0, .inr (8, [.int 0, .int 0, .int 0, .ref q_1, .ref q_2, .ref q_3, .ref q_4, .ref q_5, .null, .null, .null, .null, .null, .int 0, .int 0, .int 0, .int 0, .int 0])), (q_1, .inl (cI, 4, .inl (fun _ => 0))), (q_2, .inl (cI, 3, .inl (fun _ => 0))), (q_3, .inl (cI, 7, .inl (fun _ => 0))), (q_4, .inl (cI, 7, .inl (fun _ => 0))), (q_5, .inl (cI, 7, .inl (fun _ => 0)))] H := hP
  have hD : va_D A [(h0, .inr (8, [.int 0, .int 0, .int 0, .ref q_1, .ref q_2, .ref q_3, .ref q_4, .ref q_5, .null, .null, .null, .null, .null, .int 0, .int 0, .int 0, .int 0, .int 0])), (q_1, .inl (cI, 4, .inl (fun _ => 0))), (q_2, .inl (cI, 3, .inl (fun _ => 0))), (q_3, .inl (cI, 7, .inl (fun _ => 0))), (q_4, .inl (cI, 7, .inl (fun _ => 0))), (q_5, .inl (cI, 7, .inl (fun _ => 0)))] := hD
  refine lv_aload_n hx hb dX8_init_42 rfl (lv_at hl 0 rfl) ?_
  refine lv_bipush (v := 7) hx hb dX8_init_43 (by decide +kernel) ?_
  refine xn_newa (D := D) (a0 := (7, .inl (fun _ => 0))) (N' := 7) (k1 := 6) (n1 := 35) (cA := cI) hx hb (ty := .int) rfl hts kw188 hG hP hD hS hA 1 rfl (fun _ h9 => h9) (fun _ => rfl) (by decide) (by decide +kernel) (by decide) (Nat.le_of_ble_eq_true rfl) (Nat.le_of_ble_eq_true rfl) (Nat.le_of_ble_eq_true rfl) (Nat.le_of_ble_eq_true rfl) dX8_init_45 (fun q_6 H hP hD hS => ?_)
  have hP : va_P D vwCl [(h0, .inr (8, [.int 0, .int 0, .int 0, .ref q_1, .ref q_2, .ref q_3, .ref q_4, .ref q_5, .null, .null, .null, .null, .null, .int 0, .int 0, .int 0, .int 0, .int 0])), (q_1, .inl (cI, 4, .inl (fun _ => 0))), (q_2, .inl (cI, 3, .inl (fun _ => 0))), (q_3, .inl (cI, 7, .inl (fun _ => 0))), (q_4, .inl (cI, 7, .inl (fun _ => 0))), (q_5, .inl (cI, 7, .inl (fun _ => 0))), (q_6, .inl (cI, 7, .inl (fun _ => 0)))] H := hP
  have hD : va_D A [(h0, .inr (8, [.int 0, .int 0, .int 0, .ref q_1, .ref q_2, .ref q_3, .ref q_4, .ref q_5, .null, .null, .null, .null, .null, .int 0, .int 0, .int 0, .int 0, .int 0])), (q_1, .inl (cI, 4, .inl (fun _ => 0))), (q_2, .inl (cI, 3, .inl (fun _ => 0))), (q_3, .inl (cI, 7, .inl (fun _ => 0))), (q_4, .inl (cI, 7, .inl (fun _ => 0))), (q_5, .inl (cI, 7, .inl (fun _ => 0))), (q_6, .inl (cI, 7, .inl (fun _ => 0)))] := hD
  refine va_putF (D := D) (ci := 8) (v := .ref q_6) (ty := .array .int) (C := RX8) (T := TX8) (N := 18) hx hb hts inX8 tyX8 tyX8_ok nmX8 hown hG.1 hP hD hS 0 rfl rfl 8 (by decide) (hts _ kw228) (fun _ h9 => h9) rfl hnm rfl (by decide +kernel) rfl rfl (Nat.le_of_ble_eq_true rfl) dX8_init_47 (fun H locs hP hD hS => ?_)
  have hP : va_P D vwCl [(h0, .inr (8, [.int 0, .int 0, .int 0, .ref q_1, .ref q_2, .ref q_3, .ref q_4, .ref q_5, .ref q_6, .null, .null, .null, .null, .int 0, .int 0, .int 0, .int 0, .int 0])), (q_1, .inl (cI, 4, .inl (fun _ => 0))), (q_2, .inl (cI, 3, .inl (fun _ => 0))), (q_3, .inl (cI, 7, .inl (fun _ => 0))), (q_4, .inl (cI, 7, .inl (fun _ => 0))), (q_5, .inl (cI, 7, .inl (fun _ => 0))), (q_6, .inl (cI, 7, .inl (fun _ => 0)))] H := hP
  have hD : va_D A [(h0, .inr (8, [.int 0, .int 0, .int 0, .ref q_1, .ref q_2, .ref q_3, .ref q_4, .ref q_5, .ref q_6, .null, .null, .null, .null, .int 0, .int 0, .int 0, .int 0, .int 0])), (q_1, .inl (cI, 4, .inl (fun _ => 0))), (q_2, .inl (cI, 3, .inl (fun _ => 0))), (q_3, .inl (cI, 7, .inl (fun _ => 0))), (q_4, .inl (cI, 7, .inl (fun _ => 0))), (q_5, .inl (cI, 7, .inl (fun _ => 0))), (q_6, .inl (cI, 7, .inl (fun _ => 0)))] := hD
  refine lv_aload_n hx hb dX8_init_50 rfl (lv_at hl 0 rfl) ?_
  refine lv_bipush (v := 7) hx hb dX8_init_51 (by decide +kernel) ?_
  refine xn_newa (D := D) (a0 := (7, .inl (fun _ => 0))) (N' := 7) (k1 := 7) (n1 := 42) (cA := cI) hx hb (ty := .int) rfl hts kw188 hG hP hD hS hA 1 rfl (fun _ h9 => h9) (fun _ => rfl) (by decide) (by decide +kernel) (by decide) (Nat.le_of_ble_eq_true rfl) (Nat.le_of_ble_eq_true rfl) (Nat.le_of_ble_eq_true rfl) (Nat.le_of_ble_eq_true rfl) dX8_init_53 (fun q_7 H hP hD hS => ?_)
  have hP : va_P D vwCl [(h0, .inr (8, [.int 0, .int 0, .int 0, .ref q_1, .ref q_2, .ref q_3, .ref q_4, .ref q_5, .ref q_6, .null, .null, .null, .null, .int 0, .int 0, .int 0, .int 0, .int 0])), (q_1, .inl (cI, 4, .inl (fun _ => 0))), (q_2, .inl (cI, 3, .inl (fun _ => 0))), (q_3, .inl (cI, 7, .inl (fun _ => 0))), (q_4, .inl (cI, 7, .inl (fun _ => 0))), (q_5, .inl (cI, 7, .inl (fun _ => 0))), (q_6, .inl (cI, 7, .inl (fun _ => 0))), (q_7, .inl (cI, 7, .inl (fun _ => 0)))] H := hP
  have hD : va_D A [(h0, .inr (8, [.int 0, .int 0, .int 0, .ref q_1, .ref q_2, .ref q_3, .ref q_4, .ref q_5, .ref q_6, .null, .null, .null, .null, .int 0, .int 0, .int 0, .int 0, .int 0])), (q_1, .inl (cI, 4, .inl (fun _ => 0))), (q_2, .inl (cI, 3, .inl (fun _ => 0))), (q_3, .inl (cI, 7, .inl (fun _ => 0))), (q_4, .inl (cI, 7, .inl (fun _ => 0))), (q_5, .inl (cI, 7, .inl (fun _ => 0))), (q_6, .inl (cI, 7, .inl (fun _ => 0))), (q_7, .inl (cI, 7, .inl (fun _ => 0)))] := hD
  refine va_putF (D := D) (ci := 8) (v := .ref q_7) (ty := .array .int) (C := RX8) (T := TX8) (N := 18) hx hb hts inX8 tyX8 tyX8_ok nmX8 hown hG.1 hP hD hS 0 rfl rfl 9 (by decide) (hts _ kw233) (fun _ h9 => h9) rfl hnm rfl (by decide +kernel) rfl rfl (Nat.le_of_ble_eq_true rfl) dX8_init_55 (fun H locs hP hD hS => ?_)
  have hP : va_P D vwCl [(h0, .inr (8, [.int 0, .int 0, .int 0, .ref q_1, .ref q_2, .ref q_3, .ref q_4, .ref q_5, .ref q_6, .ref q_7, .null, .null, .null, .int 0, .int 0, .int 0, .int 0, .int 0])), (q_1, .inl (cI, 4, .inl (fun _ => 0))), (q_2, .inl (cI, 3, .inl (fun _ => 0))), (q_3, .inl (cI, 7, .inl (fun _ => 0))), (q_4, .inl (cI, 7, .inl (fun _ => 0))), (q_5, .inl (cI, 7, .inl (fun _ => 0))), (q_6, .inl (cI, 7, .inl (fun _ => 0))), (q_7, .inl (cI, 7, .inl (fun _ => 0)))] H := hP
  have hD : va_D A [(h0, .inr (8, [.int 0, .int 0, .int 0, .ref q_1, .ref q_2, .ref q_3, .ref q_4, .ref q_5, .ref q_6, .ref q_7, .null, .null, .null, .int 0, .int 0, .int 0, .int 0, .int 0])), (q_1, .inl (cI, 4, .inl (fun _ => 0))), (q_2, .inl (cI, 3, .inl (fun _ => 0))), (q_3, .inl (cI, 7, .inl (fun _ => 0))), (q_4, .inl (cI, 7, .inl (fun _ => 0))), (q_5, .inl (cI, 7, .inl (fun _ => 0))), (q_6, .inl (cI, 7, .inl (fun _ => 0))), (q_7, .inl (cI, 7, .inl (fun _ => 0)))] := hD
  refine lv_aload_n hx hb dX8_init_58 rfl (lv_at hl 0 rfl) ?_
  refine lv_bipush (v := 28) hx hb dX8_init_59 (by decide +kernel) ?_
  refine xn_newa (D := D) (a0 := (28, .inl (fun _ => 0))) (N' := 28) (k1 := 8) (n1 := 70) (cA := cI) hx hb (ty := .int) rfl hts kw188 hG hP hD hS hA 1 rfl (fun _ h9 => h9) (fun _ => rfl) (by decide) (by decide +kernel) (by decide) (Nat.le_of_ble_eq_true rfl) (Nat.le_of_ble_eq_true rfl) (Nat.le_of_ble_eq_true rfl) (Nat.le_of_ble_eq_true rfl) dX8_init_61 (fun q_8 H hP hD hS => ?_)
  have hP : va_P D vwCl [(h0, .inr (8, [.int 0, .int 0, .int 0, .ref q_1, .ref q_2, .ref q_3, .ref q_4, .ref q_5, .ref q_6, .ref q_7, .null, .null, .null, .int 0, .int 0, .int 0, .int 0, .int 0])), (q_1, .inl (cI, 4, .inl (fun _ => 0))), (q_2, .inl (cI, 3, .inl (fun _ => 0))), (q_3, .inl (cI, 7, .inl (fun _ => 0))), (q_4, .inl (cI, 7, .inl (fun _ => 0))), (q_5, .inl (cI, 7, .inl (fun _ => 0))), (q_6, .inl (cI, 7, .inl (fun _ => 0))), (q_7, .inl (cI, 7, .inl (fun _ => 0))), (q_8, .inl (cI, 28, .inl (fun _ => 0)))] H := hP
  have hD : va_D A [(h0, .inr (8, [.int 0, .int 0, .int 0, .ref q_1, .ref q_2, .ref q_3, .ref q_4, .ref q_5, .ref q_6, .ref q_7, .null, .null, .null, .int 0, .int 0, .int 0, .int 0, .int 0])), (q_1, .inl (cI, 4, .inl (fun _ => 0))), (q_2, .inl (cI, 3, .inl (fun _ => 0))), (q_3, .inl (cI, 7, .inl (fun _ => 0))), (q_4, .inl (cI, 7, .inl (fun _ => 0))), (q_5, .inl (cI, 7, .inl (fun _ => 0))), (q_6, .inl (cI, 7, .inl (fun _ => 0))), (q_7, .inl (cI, 7, .inl (fun _ => 0))), (q_8, .inl (cI, 28, .inl (fun _ => 0)))] := hD
  refine va_putF (D := D) (ci := 8) (v := .ref q_8) (ty := .array .int) (C := RX8) (T := TX8) (N := 18) hx hb hts inX8 tyX8 tyX8_ok nmX8 hown hG.1 hP hD hS 0 rfl rfl 10 (by decide) (hts _ kw237) (fun _ h9 => h9) rfl hnm rfl (by decide +kernel) rfl rfl (Nat.le_of_ble_eq_true rfl) dX8_init_63 (fun H locs hP hD hS => ?_)
  have hP : va_P D vwCl [(h0, .inr (8, [.int 0, .int 0, .int 0, .ref q_1, .ref q_2, .ref q_3, .ref q_4, .ref q_5, .ref q_6, .ref q_7, .ref q_8, .null, .null, .int 0, .int 0, .int 0, .int 0, .int 0])), (q_1, .inl (cI, 4, .inl (fun _ => 0))), (q_2, .inl (cI, 3, .inl (fun _ => 0))), (q_3, .inl (cI, 7, .inl (fun _ => 0))), (q_4, .inl (cI, 7, .inl (fun _ => 0))), (q_5, .inl (cI, 7, .inl (fun _ => 0))), (q_6, .inl (cI, 7, .inl (fun _ => 0))), (q_7, .inl (cI, 7, .inl (fun _ => 0))), (q_8, .inl (cI, 28, .inl (fun _ => 0)))] H := hP
  have hD : va_D A [(h0, .inr (8, [.int 0, .int 0, .int 0, .ref q_1, .ref q_2, .ref q_3, .ref q_4, .ref q_5, .ref q_6, .ref q_7, .ref q_8, .null, .null, .int 0, .int 0, .int 0, .int 0, .int 0])), (q_1, .inl (cI, 4, .inl (fun _ => 0))), (q_2, .inl (cI, 3, .inl (fun _ => 0))), (q_3, .inl (cI, 7, .inl (fun _ => 0))), (q_4, .inl (cI, 7, .inl (fun _ => 0))), (q_5, .inl (cI, 7, .inl (fun _ => 0))), (q_6, .inl (cI, 7, .inl (fun _ => 0))), (q_7, .inl (cI, 7, .inl (fun _ => 0))), (q_8, .inl (cI, 28, .inl (fun _ => 0)))] := hD
  refine lv_aload_n hx hb dX8_init_66 rfl (lv_at hl 0 rfl) ?_
  refine xn_new (D := D) (ci := 1) (C := RX1) (T := TX1) (N := 5) (fs := [.null, .null, .int 0, .int 0, .int 0]) (k1 := 9) (n1 := 75) hx hb hts inX1 tyX1 tyX1_ok hown kw162 kw163 kw115 hG hP hD hS hA rfl (by decide +kernel) (Nat.le_of_ble_eq_true rfl) (Nat.le_of_ble_eq_true rfl) (Nat.le_of_ble_eq_true rfl) (Nat.le_of_ble_eq_true rfl) dX8_init_67 (fun q_9 H hP hD hS => ?_)
  have hP : va_P D vwCl [(h0, .inr (8, [.int 0, .int 0, .int 0, .ref q_1, .ref q_2, .ref q_3, .ref q_4, .ref q_5, .ref q_6, .ref q_7, .ref q_8, .null, .null, .int 0, .int 0, .int 0, .int 0, .int 0])), (q_1, .inl (cI, 4, .inl (fun _ => 0))), (q_2, .inl (cI, 3, .inl (fun _ => 0))), (q_3, .inl (cI, 7, .inl (fun _ => 0))), (q_4, .inl (cI, 7, .inl (fun _ => 0))), (q_5, .inl (cI, 7, .inl (fun _ => 0))), (q_6, .inl (cI, 7, .inl (fun _ => 0))), (q_7, .inl (cI, 7, .inl (fun _ => 0))), (q_8, .inl (cI, 28, .inl (fun _ => 0))), (q_9, .inr (1, [.null, .null, .int 0, .int 0, .int 0]))] H := hP
  have hD : va_D A [(h0, .inr (8, [.int 0, .int 0, .int 0, .ref q_1, .ref q_2, .ref q_3, .ref q_4, .ref q_5, .ref q_6, .ref q_7, .ref q_8, .null, .null, .int 0, .int 0, .int 0, .int 0, .int 0])), (q_1, .inl (cI, 4, .inl (fun _ => 0))), (q_2, .inl (cI, 3, .inl (fun _ => 0))), (q_3, .inl (cI, 7, .inl (fun _ => 0))), (q_4, .inl (cI, 7, .inl (fun _ => 0))), (q_5, .inl (cI, 7, .inl (fun _ => 0))), (q_6, .inl (cI, 7, .inl (fun _ => 0))), (q_7, .inl (cI, 7, .inl (fun _ => 0))), (q_8, .inl (cI, 28, .inl (fun _ => 0))), (q_9, .inr (1, [.null, .null, .int 0, .int 0, .int 0]))] := hD
  refine lv_dup hx hb dX8_init_70 rfl ?_
  refine xc_core (wr := [(h0, .inr (8, [.int 0, .int 0, .int 0, .ref q_1, .ref q_2, .ref q_3, .ref q_4, .ref q_5, .ref q_6, .ref q_7, .ref q_8, .null, .null, .int 0, .int 0, .int 0, .int 0, .int 0])), (q_1, .inl (cI, 4, .inl (fun _ => 0))), (q_2, .inl (cI, 3, .inl (fun _ => 0))), (q_3, .inl (cI, 7, .inl (fun _ => 0))), (q_4, .inl (cI, 7, .inl (fun _ => 0))), (q_5, .inl (cI, 7, .inl (fun _ => 0))), (q_6, .inl (cI, 7, .inl (fun _ => 0))), (q_7, .inl (cI, 7, .inl (fun _ => 0))), (q_8, .inl (cI, 28, .inl (fun _ => 0)))]) (k := 11) (n := 377) (xc_runIN (As := []) (rest := [.ref q_9, .ref h0]) hx hb hml hown hts hG hE hP hD hS hA [9] (by decide) rfl (cX1_init_1 l D cB cI cJ cZ aK aV q_9) kw166 (by decide +kernel) kw165 kw115 rfl (show XD yX1_init 0 from by decide +kernel) (by decide) hl.1 rfl (Nat.le_of_ble_eq_true rfl) dX8_init_71 (by decide)) hP hD hS hA [9] [0, 1, 2, 3, 4, 5, 6, 7, 8] rfl rfl (by decide) (by decide) (Nat.le_of_ble_eq_true rfl) (Nat.le_of_ble_eq_true rfl) (fun r w1 H locs hpost hP hD hS => ?_)
  obtain ⟨q_10, q_11, rfl, rfl⟩ := hpost
  have hP : va_P D vwCl [(h0, .inr (8, [.int 0, .int 0, .int 0, .ref q_1, .ref q_2, .ref q_3, .ref q_4, .ref q_5, .ref q_6, .ref q_7, .ref q_8, .null, .null, .int 0, .int 0, .int 0, .int 0, .int 0])), (q_1, .inl (cI, 4, .inl (fun _ => 0))), (q_2, .inl (cI, 3, .inl (fun _ => 0))), (q_3, .inl (cI, 7, .inl (fun _ => 0))), (q_4, .inl (cI, 7, .inl (fun _ => 0))), (q_5, .inl (cI, 7, .inl (fun _ => 0))), (q_6, .inl (cI, 7, .inl (fun _ => 0))), (q_7, .inl (cI, 7, .inl (fun _ => 0))), (q_8, .inl (cI, 28, .inl (fun _ => 0))), (q_9, .inr (1, [.ref q_10, .ref q_11, .int 0, .int 0, .int 0])), (q_10, .inl (cI, 272, .inl (fun _ => 0))), (q_11, .inl (cI, 30, .inl (fun _ => 0)))] H := hP
  have hD : va_D A [(h0, .inr (8, [.int 0, .int 0, .int 0, .ref q_1, .ref q_2, .ref q_3, .ref q_4, .ref q_5, .ref q_6, .ref q_7, .ref q_8, .null, .null, .int 0, .int 0, .int 0, .int 0, .int 0])), (q_1, .inl (cI, 4, .inl (fun _ => 0))), (q_2, .inl (cI, 3, .inl (fun _ => 0))), (q_3, .inl (cI, 7, .inl (fun _ => 0))), (q_4, .inl (cI, 7, .inl (fun _ => 0))), (q_5, .inl (cI, 7, .inl (fun _ => 0))), (q_6, .inl (cI, 7, .inl (fun _ => 0))), (q_7, .inl (cI, 7, .inl (fun _ => 0))), (q_8, .inl (cI, 28, .inl (fun _ => 0))), (q_9, .inr (1, [.ref q_10, .ref q_11, .int 0, .int 0, .int 0])), (q_10, .inl (cI, 272, .inl (fun _ => 0))), (q_11, .inl (cI, 30, .inl (fun _ => 0)))] := hD
  refine va_putF (D := D) (ci := 8) (v := .ref q_9) (ty := .object "SpiceSwaps$Formula") (C := RX8) (T := TX8) (N := 18) hx hb hts inX8 tyX8 tyX8_ok nmX8 hown hG.1 hP hD hS 0 rfl rfl 11 (by decide) (hts _ kw239) (fun _ h9 => h9) rfl hnm rfl (by decide +kernel) rfl rfl (Nat.le_of_ble_eq_true rfl) dX8_init_74 (fun H locs hP hD hS => ?_)
  have hP : va_P D vwCl [(h0, .inr (8, [.int 0, .int 0, .int 0, .ref q_1, .ref q_2, .ref q_3, .ref q_4, .ref q_5, .ref q_6, .ref q_7, .ref q_8, .ref q_9, .null, .int 0, .int 0, .int 0, .int 0, .int 0])), (q_1, .inl (cI, 4, .inl (fun _ => 0))), (q_2, .inl (cI, 3, .inl (fun _ => 0))), (q_3, .inl (cI, 7, .inl (fun _ => 0))), (q_4, .inl (cI, 7, .inl (fun _ => 0))), (q_5, .inl (cI, 7, .inl (fun _ => 0))), (q_6, .inl (cI, 7, .inl (fun _ => 0))), (q_7, .inl (cI, 7, .inl (fun _ => 0))), (q_8, .inl (cI, 28, .inl (fun _ => 0))), (q_9, .inr (1, [.ref q_10, .ref q_11, .int 0, .int 0, .int 0])), (q_10, .inl (cI, 272, .inl (fun _ => 0))), (q_11, .inl (cI, 30, .inl (fun _ => 0)))] H := hP
  have hD : va_D A [(h0, .inr (8, [.int 0, .int 0, .int 0, .ref q_1, .ref q_2, .ref q_3, .ref q_4, .ref q_5, .ref q_6, .ref q_7, .ref q_8, .ref q_9, .null, .int 0, .int 0, .int 0, .int 0, .int 0])), (q_1, .inl (cI, 4, .inl (fun _ => 0))), (q_2, .inl (cI, 3, .inl (fun _ => 0))), (q_3, .inl (cI, 7, .inl (fun _ => 0))), (q_4, .inl (cI, 7, .inl (fun _ => 0))), (q_5, .inl (cI, 7, .inl (fun _ => 0))), (q_6, .inl (cI, 7, .inl (fun _ => 0))), (q_7, .inl (cI, 7, .inl (fun _ => 0))), (q_8, .inl (cI, 28, .inl (fun _ => 0))), (q_9, .inr (1, [.ref q_10, .ref q_11, .int 0, .int 0, .int 0])), (q_10, .inl (cI, 272, .inl (fun _ => 0))), (q_11, .inl (cI, 30, .inl (fun _ => 0)))] := hD
  refine lv_aload_n hx hb dX8_init_77 rfl (lv_at hl 0 rfl) ?_
  refine xn_new (D := D) (ci := 1) (C := RX1) (T := TX1) (N := 5) (fs := [.null, .null, .int 0, .int 0, .int 0]) (k1 := 12) (n1 := 382) hx hb hts inX1 tyX1 tyX1_ok hown kw162 kw163 kw115 hG hP hD hS hA rfl (by decide +kernel) (Nat.le_of_ble_eq_true rfl) (Nat.le_of_ble_eq_true rfl) (Nat.le_of_ble_eq_true rfl) (Nat.le_of_ble_eq_true rfl) dX8_init_78 (fun q_12 H hP hD hS => ?_)
  have hP : va_P D vwCl [(h0, .inr (8, [.int 0, .int 0, .int 0, .ref q_1, .ref q_2, .ref q_3, .ref q_4, .ref q_5, .ref q_6, .ref q_7, .ref q_8, .ref q_9, .null, .int 0, .int 0, .int 0, .int 0, .int 0])), (q_1, .inl (cI, 4, .inl (fun _ => 0))), (q_2, .inl (cI, 3, .inl (fun _ => 0))), (q_3, .inl (cI, 7, .inl (fun _ => 0))), (q_4, .inl (cI, 7, .inl (fun _ => 0))), (q_5, .inl (cI, 7, .inl (fun _ => 0))), (q_6, .inl (cI, 7, .inl (fun _ => 0))), (q_7, .inl (cI, 7, .inl (fun _ => 0))), (q_8, .inl (cI, 28, .inl (fun _ => 0))), (q_9, .inr (1, [.ref q_10, .ref q_11, .int 0, .int 0, .int 0])), (q_10, .inl (cI, 272, .inl (fun _ => 0))), (q_11, .inl (cI, 30, .inl (fun _ => 0))), (q_12, .inr (1, [.null, .null, .int 0, .int 0, .int 0]))] H := hP
  have hD : va_D A [(h0, .inr (8, [.int 0, .int 0, .int 0, .ref q_1, .ref q_2, .ref q_3, .ref q_4, .ref q_5, .ref q_6, .ref q_7, .ref q_8, .ref q_9, .null, .int 0, .int 0, .int 0, .int 0, .int 0])), (q_1, .inl (cI, 4, .inl (fun _ => 0))), (q_2, .inl (cI, 3, .inl (fun _ => 0))), (q_3, .inl (cI, 7, .inl (fun _ => 0))), (q_4, .inl (cI, 7, .inl (fun _ => 0))), (q_5, .inl (cI, 7, .inl (fun _ => 0))), (q_6, .inl (cI, 7, .inl (fun _ => 0))), (q_7, .inl (cI, 7, .inl (fun _ => 0))), (q_8, .inl (cI, 28, .inl (fun _ => 0))), (q_9, .inr (1, [.ref q_10, .ref q_11, .int 0, .int 0, .int 0])), (q_10, .inl (cI, 272, .inl (fun _ => 0))), (q_11, .inl (cI, 30, .inl (fun _ => 0))), (q_12, .inr (1, [.null, .null, .int 0, .int 0, .int 0]))] := hD
  refine lv_dup hx hb dX8_init_81 rfl ?_
  refine xc_core (wr := [(h0, .inr (8, [.int 0, .int 0, .int 0, .ref q_1, .ref q_2, .ref q_3, .ref q_4, .ref q_5, .ref q_6, .ref q_7, .ref q_8, .ref q_9, .null, .int 0, .int 0, .int 0, .int 0, .int 0])), (q_1, .inl (cI, 4, .inl (fun _ => 0))), (q_2, .inl (cI, 3, .inl (fun _ => 0))), (q_3, .inl (cI, 7, .inl (fun _ => 0))), (q_4, .inl (cI, 7, .inl (fun _ => 0))), (q_5, .inl (cI, 7, .inl (fun _ => 0))), (q_6, .inl (cI, 7, .inl (fun _ => 0))), (q_7, .inl (cI, 7, .inl (fun _ => 0))), (q_8, .inl (cI, 28, .inl (fun _ => 0))), (q_9, .inr (1, [.ref q_10, .ref q_11, .int 0, .int 0, .int 0])), (q_10, .inl (cI, 272, .inl (fun _ => 0))), (q_11, .inl (cI, 30, .inl (fun _ => 0)))]) (k := 14) (n := 684) (xc_runIN (As := []) (rest := [.ref q_12, .ref h0]) hx hb hml hown hts hG hE hP hD hS hA [12] (by decide) rfl (cX1_init_1 l D cB cI cJ cZ aK aV q_12) kw166 (by decide +kernel) kw165 kw115 rfl (show XD yX1_init 0 from by decide +kernel) (by decide) hl.1 rfl (Nat.le_of_ble_eq_true rfl) dX8_init_82 (by decide)) hP hD hS hA [12] [0, 1, 2, 3, 4, 5, 6, 7, 8, 9, 10, 11] rfl rfl (by decide) (by decide) (Nat.le_of_ble_eq_true rfl) (Nat.le_of_ble_eq_true rfl) (fun r w1 H locs hpost hP hD hS => ?_)
  obtain ⟨q_13, q_14, rfl, rfl⟩ := hpost
  have hP : va_P D vwCl [(h0, .inr (8, [.int 0, .int 0, .int 0, .ref q_1, .ref q_2, .ref q_3, .ref q_4, .ref q_5, .ref q_6, .ref q_7, .ref q_8, .ref q_9, .null, .int 0, .int 0, .int 0, .int 0, .int 0])), (q_1, .inl (cI, 4, .inl (fun _ => 0))), (q_2, .inl (cI, 3, .inl (fun _ => 0))), (q_3, .inl (cI, 7, .inl (fun _ => 0))), (q_4, .inl (cI, 7, .inl (fun _ => 0))), (q_5, .inl (cI, 7, .inl (fun _ => 0))), (q_6, .inl (cI, 7, .inl (fun _ => 0))), (q_7, .inl (cI, 7, .inl (fun _ => 0))), (q_8, .inl (cI, 28, .inl (fun _ => 0))), (q_9, .inr (1, [.ref q_10, .ref q_11, .int 0, .int 0, .int 0])), (q_10, .inl (cI, 272, .inl (fun _ => 0))), (q_11, .inl (cI, 30, .inl (fun _ => 0))), (q_12, .inr (1, [.ref q_13, .ref q_14, .int 0, .int 0, .int 0])), (q_13, .inl (cI, 272, .inl (fun _ => 0))), (q_14, .inl (cI, 30, .inl (fun _ => 0)))] H := hP
  have hD : va_D A [(h0, .inr (8, [.int 0, .int 0, .int 0, .ref q_1, .ref q_2, .ref q_3, .ref q_4, .ref q_5, .ref q_6, .ref q_7, .ref q_8, .ref q_9, .null, .int 0, .int 0, .int 0, .int 0, .int 0])), (q_1, .inl (cI, 4, .inl (fun _ => 0))), (q_2, .inl (cI, 3, .inl (fun _ => 0))), (q_3, .inl (cI, 7, .inl (fun _ => 0))), (q_4, .inl (cI, 7, .inl (fun _ => 0))), (q_5, .inl (cI, 7, .inl (fun _ => 0))), (q_6, .inl (cI, 7, .inl (fun _ => 0))), (q_7, .inl (cI, 7, .inl (fun _ => 0))), (q_8, .inl (cI, 28, .inl (fun _ => 0))), (q_9, .inr (1, [.ref q_10, .ref q_11, .int 0, .int 0, .int 0])), (q_10, .inl (cI, 272, .inl (fun _ => 0))), (q_11, .inl (cI, 30, .inl (fun _ => 0))), (q_12, .inr (1, [.ref q_13, .ref q_14, .int 0, .int 0, .int 0])), (q_13, .inl (cI, 272, .inl (fun _ => 0))), (q_14, .inl (cI, 30, .inl (fun _ => 0)))] := hD
  refine va_putF (D := D) (ci := 8) (v := .ref q_12) (ty := .object "SpiceSwaps$Formula") (C := RX8) (T := TX8) (N := 18) hx hb hts inX8 tyX8 tyX8_ok nmX8 hown hG.1 hP hD hS 0 rfl rfl 12 (by decide) (hts _ kw242) (fun _ h9 => h9) rfl hnm rfl (by decide +kernel) rfl rfl (Nat.le_of_ble_eq_true rfl) dX8_init_85 (fun H locs hP hD hS => ?_)
  have hP : va_P D vwCl [(h0, .inr (8, [.int 0, .int 0, .int 0, .ref q_1, .ref q_2, .ref q_3, .ref q_4, .ref q_5, .ref q_6, .ref q_7, .ref q_8, .ref q_9, .ref q_12, .int 0, .int 0, .int 0, .int 0, .int 0])), (q_1, .inl (cI, 4, .inl (fun _ => 0))), (q_2, .inl (cI, 3, .inl (fun _ => 0))), (q_3, .inl (cI, 7, .inl (fun _ => 0))), (q_4, .inl (cI, 7, .inl (fun _ => 0))), (q_5, .inl (cI, 7, .inl (fun _ => 0))), (q_6, .inl (cI, 7, .inl (fun _ => 0))), (q_7, .inl (cI, 7, .inl (fun _ => 0))), (q_8, .inl (cI, 28, .inl (fun _ => 0))), (q_9, .inr (1, [.ref q_10, .ref q_11, .int 0, .int 0, .int 0])), (q_10, .inl (cI, 272, .inl (fun _ => 0))), (q_11, .inl (cI, 30, .inl (fun _ => 0))), (q_12, .inr (1, [.ref q_13, .ref q_14, .int 0, .int 0, .int 0])), (q_13, .inl (cI, 272, .inl (fun _ => 0))), (q_14, .inl (cI, 30, .inl (fun _ => 0)))] H := hP
  have hD : va_D A [(h0, .inr (8, [.int 0, .int 0, .int 0, .ref q_1, .ref q_2, .ref q_3, .ref q_4, .ref q_5, .ref q_6, .ref q_7, .ref q_8, .ref q_9, .ref q_12, .int 0, .int 0, .int 0, .int 0, .int 0])), (q_1, .inl (cI, 4, .inl (fun _ => 0))), (q_2, .inl (cI, 3, .inl (fun _ => 0))), (q_3, .inl (cI, 7, .inl (fun _ => 0))), (q_4, .inl (cI, 7, .inl (fun _ => 0))), (q_5, .inl (cI, 7, .inl (fun _ => 0))), (q_6, .inl (cI, 7, .inl (fun _ => 0))), (q_7, .inl (cI, 7, .inl (fun _ => 0))), (q_8, .inl (cI, 28, .inl (fun _ => 0))), (q_9, .inr (1, [.ref q_10, .ref q_11, .int 0, .int 0, .int 0])), (q_10, .inl (cI, 272, .inl (fun _ => 0))), (q_11, .inl (cI, 30, .inl (fun _ => 0))), (q_12, .inr (1, [.ref q_13, .ref q_14, .int 0, .int 0, .int 0])), (q_13, .inl (cI, 272, .inl (fun _ => 0))), (q_14, .inl (cI, 30, .inl (fun _ => 0)))] := hD
  refine lv_aload_n hx hb dX8_init_88 rfl (lv_at hl 0 rfl) ?_
  refine xc_core (wr := [(q_1, .inl (cI, 4, .inl (fun _ => 0))), (q_2, .inl (cI, 3, .inl (fun _ => 0))), (q_3, .inl (cI, 7, .inl (fun _ => 0))), (q_4, .inl (cI, 7, .inl (fun _ => 0))), (q_5, .inl (cI, 7, .inl (fun _ => 0))), (q_6, .inl (cI, 7, .inl (fun _ => 0))), (q_7, .inl (cI, 7, .inl (fun _ => 0))), (q_10, .inl (cI, 272, .inl (fun _ => 0))), (q_11, .inl (cI, 30, .inl (fun _ => 0))), (q_13, .inl (cI, 272, .inl (fun _ => 0))), (q_14, .inl (cI, 30, .inl (fun _ => 0)))]) (k := 14) (n := 684) (xc_runV (As := []) (rest := []) hx hb hml hown hts hG hE hP hD hS hA [0, 8, 9, 12] (by decide) rfl (cX8_forget_2 l D cB cI cJ cZ aK aV h0 q_1 q_2 q_3 q_4 q_5 q_6 q_7 q_8 q_9 q_12 ((fun _ => 0)) q_10 q_11 q_13 q_14) kw192 kw189 kw190 kw191 kw114 (show XD yX8_forget 0 from by decide +kernel) (by decide) rfl rfl 0 rfl hl.1 rfl (Nat.le_of_ble_eq_true rfl) dX8_init_89 (by decide)) hP hD hS hA [0, 8, 9, 12] [1, 2, 3, 4, 5, 6, 7, 10, 11, 13, 14] rfl rfl (by decide) (by decide) (Nat.le_of_ble_eq_true rfl) (Nat.le_of_ble_eq_true rfl) (fun r w1 H locs hpost hP hD hS => ?_)
  obtain ⟨f_15, rfl, rfl⟩ := hpost
  have hP : va_P D vwCl [(q_1, .inl (cI, 4, .inl (fun _ => 0))), (q_2, .inl (cI, 3, .inl (fun _ => 0))), (q_3, .inl (cI, 7, .inl (fun _ => 0))), (q_4, .inl (cI, 7, .inl (fun _ => 0))), (q_5, .inl (cI, 7, .inl (fun _ => 0))), (q_6, .inl (cI, 7, .inl (fun _ => 0))), (q_7, .inl (cI, 7, .inl (fun _ => 0))), (q_10, .inl (cI, 272, .inl (fun _ => 0))), (q_11, .inl (cI, 30, .inl (fun _ => 0))), (q_13, .inl (cI, 272, .inl (fun _ => 0))), (q_14, .inl (cI, 30, .inl (fun _ => 0))), (h0, .inr (8, [.int 0, .int 0, .int 0, .ref q_1, .ref q_2, .ref q_3, .ref q_4, .ref q_5, .ref q_6, .ref q_7, .ref q_8, .ref q_9, .ref q_12, .int 0, .int 1, .int 0, .int 0, .int 0])), (q_8, .inl (cI, 28, .inl f_15)), (q_9, .inr (1, [.ref q_10, .ref q_11, .int 0, .int 0, .int 0])), (q_12, .inr (1, [.ref q_13, .ref q_14, .int 0, .int 0, .int 0]))] H := hP
  have hD : va_D A [(q_1, .inl (cI, 4, .inl (fun _ => 0))), (q_2, .inl (cI, 3, .inl (fun _ => 0))), (q_3, .inl (cI, 7, .inl (fun _ => 0))), (q_4, .inl (cI, 7, .inl (fun _ => 0))), (q_5, .inl (cI, 7, .inl (fun _ => 0))), (q_6, .inl (cI, 7, .inl (fun _ => 0))), (q_7, .inl (cI, 7, .inl (fun _ => 0))), (q_10, .inl (cI, 272, .inl (fun _ => 0))), (q_11, .inl (cI, 30, .inl (fun _ => 0))), (q_13, .inl (cI, 272, .inl (fun _ => 0))), (q_14, .inl (cI, 30, .inl (fun _ => 0))), (h0, .inr (8, [.int 0, .int 0, .int 0, .ref q_1, .ref q_2, .ref q_3, .ref q_4, .ref q_5, .ref q_6, .ref q_7, .ref q_8, .ref q_9, .ref q_12, .int 0, .int 1, .int 0, .int 0, .int 0])), (q_8, .inl (cI, 28, .inl f_15)), (q_9, .inr (1, [.ref q_10, .ref q_11, .int 0, .int 0, .int 0])), (q_12, .inr (1, [.ref q_13, .ref q_14, .int 0, .int 0, .int 0]))] := hD
  have hP9 := hP.sub (ws' := [(h0, .inr (8, [.int 0, .int 0, .int 0, .ref q_1, .ref q_2, .ref q_3, .ref q_4, .ref q_5, .ref q_6, .ref q_7, .ref q_8, .ref q_9, .ref q_12, .int 0, .int 1, .int 0, .int 0, .int 0])), (q_1, .inl (cI, 4, .inl (fun _ => 0))), (q_2, .inl (cI, 3, .inl (fun _ => 0))), (q_3, .inl (cI, 7, .inl (fun _ => 0))), (q_4, .inl (cI, 7, .inl (fun _ => 0))), (q_5, .inl (cI, 7, .inl (fun _ => 0))), (q_6, .inl (cI, 7, .inl (fun _ => 0))), (q_7, .inl (cI, 7, .inl (fun _ => 0))), (q_8, .inl (cI, 28, .inl f_15)), (q_9, .inr (1, [.ref q_10, .ref q_11, .int 0, .int 0, .int 0])), (q_10, .inl (cI, 272, .inl (fun _ => 0))), (q_11, .inl (cI, 30, .inl (fun _ => 0))), (q_12, .inr (1, [.ref q_13, .ref q_14, .int 0, .int 0, .int 0])), (q_13, .inl (cI, 272, .inl (fun _ => 0))), (q_14, .inl (cI, 30, .inl (fun _ => 0)))]) [11, 0, 1, 2, 3, 4, 5, 6, 12, 13, 7, 8, 14, 9, 10] rfl
  have hD9 := hD.sub (ws' := [(h0, .inr (8, [.int 0, .int 0, .int 0, .ref q_1, .ref q_2, .ref q_3, .ref q_4, .ref q_5, .ref q_6, .ref q_7, .ref q_8, .ref q_9, .ref q_12, .int 0, .int 1, .int 0, .int 0, .int 0])), (q_1, .inl (cI, 4, .inl (fun _ => 0))), (q_2, .inl (cI, 3, .inl (fun _ => 0))), (q_3, .inl (cI, 7, .inl (fun _ => 0))), (q_4, .inl (cI, 7, .inl (fun _ => 0))), (q_5, .inl (cI, 7, .inl (fun _ => 0))), (q_6, .inl (cI, 7, .inl (fun _ => 0))), (q_7, .inl (cI, 7, .inl (fun _ => 0))), (q_8, .inl (cI, 28, .inl f_15)), (q_9, .inr (1, [.ref q_10, .ref q_11, .int 0, .int 0, .int 0])), (q_10, .inl (cI, 272, .inl (fun _ => 0))), (q_11, .inl (cI, 30, .inl (fun _ => 0))), (q_12, .inr (1, [.ref q_13, .ref q_14, .int 0, .int 0, .int 0])), (q_13, .inl (cI, 272, .inl (fun _ => 0))), (q_14, .inl (cI, 30, .inl (fun _ => 0)))]) [11, 0, 1, 2, 3, 4, 5, 6, 12, 13, 7, 8, 14, 9, 10] (by decide) rfl
  exact xr_v (rm := (rmL 3 14 684)) hx hb hr hlocks hAe hS hP9 hD9 (Nat.le_of_ble_eq_true rfl) (Nat.le_of_ble_eq_true rfl) dX8_init_92 ⟨q_1, q_2, q_3, q_4, q_5, q_6, q_7, q_8, q_9, q_12, f_15, q_10, q_11, q_13, q_14, rfl, rfl⟩
set_option maxHeartbeats 4000000 in
set_option maxRecDepth 100000 in
theorem cJ0_coder_7d493_2 (l : Launch) (D : va_G) (cB cI cJ cZ : ClassId) (aK aV : Nat → Nat) : MX l yJ0_coder_7d493 cJ0_coder_7d493 1 (some .byte) (rmL 1 0 0) D cB cI cJ cZ aK aV [.ref (aK 0)] [] (fun r w1 => r = some (.int 0) ∧ w1 = []) := by
  refine MX.intro (by decide) (Nat.le_of_ble_eq_true rfl) ?_
  intro p e s m below meth c A ls hx hb hr hml hown hlocks hnm hts hG hE hA hS hP hD hl hAe
  have hl : lv_has ls 1 [(0, .ref (aK 0))] := hl
  have hown : s.vm.findClass RJ0 = some m.cls := hown
  refine va_gets (v := .int 1) hx hb hE.2.1 hS hown (hts _ kw315) (fun _ h9 => h9) dJ0_coder_7d493_0 ?_
  refine lv_if_eq (tgt := 13) hx hb dJ0_coder_7d493_3 (by decide) (fun h => absurd h (by decide +kernel)) (fun _ => ?_)
  refine lv_aload_n hx hb dJ0_coder_7d493_6 rfl (lv_at hl 0 rfl) ?_
  refine vk_getf (v := .int 0) hx hb (hE.1.1 0 (by decide)).2.1 hS hown (hts _ kw2019) (fun _ h9 => h9) dJ0_coder_7d493_7 ?_
  refine lv_goto (tgt := 14) hx hb dJ0_coder_7d493_10 (by decide) ?_
  have hP9 := hP.sub (ws' := []) [] rfl
  have hD9 := hD.sub (ws' := []) [] (by decide) rfl
  exact xr_i (rm := (rmL 1 0 0)) hx hb hr hlocks hAe hS hP9 hD9 (by decide +kernel) (Nat.le_of_ble_eq_true rfl) (Nat.le_of_ble_eq_true rfl) dJ0_coder_7d493_14 ⟨rfl, rfl⟩
set_option maxHeartbeats 4000000 in
set_option maxRecDepth 100000 in
theorem cJ0_length_8abf5_2 (l : Launch) (D : va_G) (cB cI cJ cZ : ClassId) (aK aV : Nat → Nat) : MX l yJ0_length_8abf5 cJ0_length_8abf5 1 (some .int) (rmL 2 0 0) D cB cI cJ cZ aK aV [.ref (aK 0)] [] (fun r w1 => r = some (.int 119) ∧ w1 = []) := by
  refine MX.intro (by decide) (Nat.le_of_ble_eq_true rfl) ?_
  intro p e s m below meth c A ls hx hb hr hml hown hlocks hnm hts hG hE hA hS hP hD hl hAe
  have hl : lv_has ls 1 [(0, .ref (aK 0))] := hl
  have hown : s.vm.findClass RJ0 = some m.cls := hown
  refine lv_aload_n hx hb dJ0_length_8abf5_0 rfl (lv_at hl 0 rfl) ?_
  refine vk_getf (v := .ref (aV 0)) hx hb (hE.1.1 0 (by decide)).2.2.1 hS hown (hts _ kw2018) (fun _ h9 => h9) dJ0_length_8abf5_1 ?_
  refine va_tlen (v := 119) hx hb (hE.1.1 0 (by decide)).2.2.2 hS rfl dJ0_length_8abf5_4 ?_
  refine lv_aload_n hx hb dJ0_length_8abf5_5 rfl (lv_at hl 0 rfl) ?_
  refine xc_core (wr := []) (k := 0) (n := 0) (xc_runVK (As := []) (rest := [.int 119]) hx hb hml hown hts hG hE hP hD hS hA [] (by decide) rfl (cJ0_coder_7d493_2 l D cB cI cJ cZ aK aV) kw314 kw311 kw312 kw313 kw117 (show XD yJ0_coder_7d493 0 from by decide +kernel) (by decide) (vk_recv hE.1 (i := 0) (by decide) hS) hl.1 rfl (Nat.le_of_ble_eq_true rfl) dJ0_length_8abf5_6 (by decide)) hP hD hS hA [] [] rfl rfl (by decide) (by decide) (Nat.le_of_ble_eq_true rfl) (Nat.le_of_ble_eq_true rfl) (fun r w1 H locs hpost hP hD hS => ?_)
  obtain ⟨rfl, rfl⟩ := hpost
  have hP : va_P D vwCl [] H := hP
  have hD : va_D A [] := hD
  refine lv_ishr hx hb dJ0_length_8abf5_9 ?_
  refine xt_i (v := 119) (by decide +kernel) ?_
  have hP9 := hP.sub (ws' := []) [] rfl
  have hD9 := hD.sub (ws' := []) [] (by decide) rfl
  exact xr_i (rm := (rmL 2 0 0)) hx hb hr hlocks hAe hS hP9 hD9 rfl (Nat.le_of_ble_eq_true rfl) (Nat.le_of_ble_eq_true rfl) dJ0_length_8abf5_10 ⟨rfl, rfl⟩
theorem dJ0_charAt_5068e_0 : decode cJ0_charAt_5068e 0 = .ok (.aload_n 0, 1) := by decide +kernel
set_option maxHeartbeats 4000000 in
set_option maxRecDepth 100000 in
theorem cJ0_isLatin1_aae02_2 (l : Launch) (D : va_G) (cB cI cJ cZ : ClassId) (aK aV : Nat → Nat) : MX l yJ0_isLatin1_aae02 cJ0_isLatin1_aae02 1 (some .boolean) (rmL 1 0 0) D cB cI cJ cZ aK aV [.ref (aK 0)] [] (fun r w1 => r = some (.int 1) ∧ w1 = []) := by
  refine MX.intro (by decide) (Nat.le_of_ble_eq_true rfl) ?_
  intro p e s m below meth c A ls hx hb hr hml hown hlocks hnm hts hG hE hA hS hP hD hl hAe
  have hl : lv_has ls 1 [(0, .ref (aK 0))] := hl
  have hown : s.vm.findClass RJ0 = some m.cls := hown
  refine va_gets (v := .int 1) hx hb hE.2.1 hS hown (hts _ kw315) (fun _ h9 => h9) dJ0_isLatin1_aae02_0 ?_
  refine lv_if_eq (tgt := 17) hx hb dJ0_isLatin1_aae02_3 (by decide) (fun h => absurd h (by decide +kernel)) (fun _ => ?_)
  refine lv_aload_n hx hb dJ0_isLatin1_aae02_6 rfl (lv_at hl 0 rfl) ?_
  refine vk_getf (v := .int 0) hx hb (hE.1.1 0 (by decide)).2.1 hS hown (hts _ kw2019) (fun _ h9 => h9) dJ0_isLatin1_aae02_7 ?_
  refine lv_if_ne (tgt := 17) hx hb dJ0_isLatin1_aae02_10 (by decide) (fun h => absurd h (by decide +kernel)) (fun _ => ?_)
  refine lv_iconst (v := 1) hx hb dJ0_isLatin1_aae02_13 (by decide +kernel) ?_
  refine lv_goto (tgt := 18) hx hb dJ0_isLatin1_aae02_14 (by decide) ?_
  have hP9 := hP.sub (ws' := []) [] rfl
  have hD9 := hD.sub (ws' := []) [] (by decide) rfl
  exact xr_i (rm := (rmL 1 0 0)) hx hb hr hlocks hAe hS hP9 hD9 (by decide +kernel) (Nat.le_of_ble_eq_true rfl) (Nat.le_of_ble_eq_true rfl) dJ0_isLatin1_aae02_18 ⟨rfl, rfl⟩
theorem dJ0_charAt_5068e_1 : decode cJ0_charAt_5068e 1 = .ok (.invokevirtual 492, 3) := by decide +kernel
theorem dJ0_charAt_5068e_4 : decode cJ0_charAt_5068e 4 = .ok (.ifCond .eq 12, 3) := by decide +kernel
theorem dJ0_charAt_5068e_7 : decode cJ0_charAt_5068e 7 = .ok (.aload_n 0, 1) := by decide +kernel
theorem dJ0_charAt_5068e_8 : decode cJ0_charAt_5068e 8 = .ok (.getfield 9, 3) := by decide +kernel
theorem dJ0_charAt_5068e_11 : decode cJ0_charAt_5068e 11 = .ok (.iload_n 1, 1) := by decide +kernel
theorem dJ1_charAt_3b067_0 : decode cJ1_charAt_3b067 0 = .ok (.iload_n 1, 1) := by decide +kernel
theorem dJ1_charAt_3b067_1 : decode cJ1_charAt_3b067 1 = .ok (.aload_n 0, 1) := by decide +kernel
theorem dJ1_charAt_3b067_2 : decode cJ1_charAt_3b067 2 = .ok (.arraylength, 1) := by decide +kernel
theorem dJ0_checkIndex_df160_0 : decode cJ0_checkIndex_df160 0 = .ok (.iload_n 0, 1) := by decide +kernel
theorem dJ0_checkIndex_df160_1 : decode cJ0_checkIndex_df160 1 = .ok (.iload_n 1, 1) := by decide +kernel
theorem kw331 : (.fieldLink RJ0 1053 "jdk/internal/util/Preconditions" "SIOOBE_FORMATTER" "Ljava/util/function/BiFunction;" : Cond) ∈ gT := gT_of 331 (by decide +kernel) (by decide +kernel)
theorem dJ0_checkIndex_df160_2 : decode cJ0_checkIndex_df160 2 = .ok (.getstatic 1053, 3) := by decide +kernel
theorem dJ3_checkIndex_8e157_0 : decode cJ3_checkIndex_8e157 0 = .ok (.iload_n 0, 1) := by decide +kernel
theorem dJ3_checkIndex_8e157_1 : decode cJ3_checkIndex_8e157 1 = .ok (.ifCond .lt 8, 3) := by decide +kernel
theorem dJ3_checkIndex_8e157_4 : decode cJ3_checkIndex_8e157 4 = .ok (.iload_n 0, 1) := by decide +kernel
theorem dJ3_checkIndex_8e157_5 : decode cJ3_checkIndex_8e157 5 = .ok (.iload_n 1, 1) := by decide +kernel
theorem dJ3_checkIndex_8e157_6 : decode cJ3_checkIndex_8e157 6 = .ok (.if_icmp .lt 10, 3) := by decide +kernel
theorem dJ3_checkIndex_8e157_16 : decode cJ3_checkIndex_8e157 16 = .ok (.iload_n 0, 1) := by decide +kernel
theorem dJ3_checkIndex_8e157_17 : decode cJ3_checkIndex_8e157 17 = .ok (.ireturn, 1) := by decide +kernel
set_option maxHeartbeats 4000000 in
set_option maxRecDepth 100000 in
theorem cJ3_checkIndex_8e157_1 (l : Launch) (D : va_G) (cB cI cJ cZ : ClassId) (aK aV : Nat → Nat) (x0 : Int32) (g_x0_lo : 0 ≤ x0.toInt) (g_x0_hi : x0.toInt ≤ 118) : MX l yJ3_checkIndex_8e157 cJ3_checkIndex_8e157 3 (some .int) (rmL 1 0 0) D cB cI cJ cZ aK aV [.int x0, .int 119, .null] [] (fun r w1 => r = some (.int x0) ∧ w1 = []) := by
  refine MX.intro (by decide) (Nat.le_of_ble_eq_true rfl) ?_
  intro p e s m below meth c A ls hx hb hr hml hown hlocks hnm hts hG hE hA hS hP hD hl hAe
  have hl : lv_has ls 3 [(0, .int x0), (1, .int 119), (2, .null)] := hl
  have hown : s.vm.findClass RJ3 = some m.cls := hown
  refine lv_iload_n hx hb dJ3_checkIndex_8e157_0 rfl (lv_at hl 0 rfl) ?_
  refine lv_if_lt (tgt := 9) hx hb dJ3_checkIndex_8e157_1 (by decide) (fun c_1 => (by exfalso; have zc_1 := Int32.lt_iff_toInt_lt.mp c_1; have i32_0 : (0 : Int32).toInt = 0 := (by decide); omega)) (fun _ => ?_)
  refine lv_iload_n hx hb dJ3_checkIndex_8e157_4 rfl (lv_at hl 0 rfl) ?_
  refine lv_iload_n hx hb dJ3_checkIndex_8e157_5 rfl (lv_at hl 1 rfl) ?_
  refine lv_icmp_lt (tgt := 16) hx hb dJ3_checkIndex_8e157_6 (by decide) (fun _ => ?_) (fun c_2 => (by exfalso; have zc_2 := Int32.le_iff_toInt_le.mp (Int32.not_lt.mp c_2); have i32_119 : (119 : Int32).toInt = 119 := (by decide); omega))
  refine lv_iload_n hx hb dJ3_checkIndex_8e157_16 rfl (lv_at hl 0 rfl) ?_
  have hP9 := hP.sub (ws' := []) [] rfl
  have hD9 := hD.sub (ws' := []) [] (by decide) rfl
  exact xr_i (rm := (rmL 1 0 0)) hx hb hr hlocks hAe hS hP9 hD9 rfl (Nat.le_of_ble_eq_true rfl) (Nat.le_of_ble_eq_true rfl) dJ3_checkIndex_8e157_17 ⟨rfl, rfl⟩
theorem kw333 : (.methodLink RJ0 1059 yJ3_checkIndex_8e157 : Cond) ∈ gT := gT_of 333 (by decide +kernel) (by decide +kernel)
theorem kw335 : (.code yJ3_checkIndex_8e157 cJ3_checkIndex_8e157 3 (some .int) : Cond) ∈ gT := gT_of 335 (by decide +kernel) (by decide +kernel)
theorem kw334 : (.static yJ3_checkIndex_8e157 : Cond) ∈ gT := gT_of 334 (by decide +kernel) (by decide +kernel)
theorem kw119 : (.initialized RJ3 : Cond) ∈ gT := gT_of 119 (by decide +kernel) (by decide +kernel)
theorem dJ0_checkIndex_df160_5 : decode cJ0_checkIndex_df160 5 = .ok (.invokestatic 1059, 3) := by decide +kernel
theorem dJ0_checkIndex_df160_8 : decode cJ0_checkIndex_df160 8 = .ok (.pop, 1) := by decide +kernel
theorem dJ0_checkIndex_df160_9 : decode cJ0_checkIndex_df160 9 = .ok (.return_, 1) := by decide +kernel
set_option maxHeartbeats 4000000 in
set_option maxRecDepth 100000 in
theorem cJ3_checkIndex_8e157_2 (l : Launch) (D : va_G) (cB cI cJ cZ : ClassId) (aK aV : Nat → Nat) (x0 : Int32) (h1 : Nat) (g_x0_lo : 0 ≤ x0.toInt) (g_x0_hi : x0.toInt ≤ 118) : MX l yJ3_checkIndex_8e157 cJ3_checkIndex_8e157 3 (some .int) (rmL 1 0 0) D cB cI cJ cZ aK aV [.int x0, .int 119, .ref h1] [] (fun r w1 => r = some (.int x0) ∧ w1 = []) := by
  refine MX.intro (by decide) (Nat.le_of_ble_eq_true rfl) ?_
  intro p e s m below meth c A ls hx hb hr hml hown hlocks hnm hts hG hE hA hS hP hD hl hAe
  have hl : lv_has ls 3 [(0, .int x0), (1, .int 119), (2, .ref h1)] := hl
  have hown : s.vm.findClass RJ3 = some m.cls := hown
  refine lv_iload_n hx hb dJ3_checkIndex_8e157_0 rfl (lv_at hl 0 rfl) ?_
  refine lv_if_lt (tgt := 9) hx hb dJ3_checkIndex_8e157_1 (by decide) (fun c_1 => (by exfalso; have zc_1 := Int32.lt_iff_toInt_lt.mp c_1; have i32_0 : (0 : Int32).toInt = 0 := (by decide); omega)) (fun _ => ?_)
  refine lv_iload_n hx hb dJ3_checkIndex_8e157_4 rfl (lv_at hl 0 rfl) ?_
  refine lv_iload_n hx hb dJ3_checkIndex_8e157_5 rfl (lv_at hl 1 rfl) ?_
  refine lv_icmp_lt (tgt := 16) hx hb dJ3_checkIndex_8e157_6 (by decide) (fun _ => ?_) (fun c_2 => (by exfalso; have zc_2 := Int32.le_iff_toInt_le.mp (Int32.not_lt.mp c_2); have i32_119 : (119 : Int32).toInt = 119 := (by decide); omega))
  refine lv_iload_n hx hb dJ3_checkIndex_8e157_16 rfl (lv_at hl 0 rfl) ?_
  have hP9 := hP.sub (ws' := []) [] rfl
  have hD9 := hD.sub (ws' := []) [] (by decide) rfl
  exact xr_i (rm := (rmL 1 0 0)) hx hb hr hlocks hAe hS hP9 hD9 rfl (Nat.le_of_ble_eq_true rfl) (Nat.le_of_ble_eq_true rfl) dJ3_checkIndex_8e157_17 ⟨rfl, rfl⟩
set_option maxHeartbeats 4000000 in
set_option maxRecDepth 100000 in
theorem cJ0_checkIndex_df160_1 (l : Launch) (D : va_G) (cB cI cJ cZ : ClassId) (aK aV : Nat → Nat) (x0 : Int32) (g_x0_lo : 0 ≤ x0.toInt) (g_x0_hi : x0.toInt ≤ 118) : MX l yJ0_checkIndex_df160 cJ0_checkIndex_df160 2 none (rmL 2 0 0) D cB cI cJ cZ aK aV [.int x0, .int 119] [] (fun r w1 => r = none ∧ w1 = []) := by
  refine MX.intro (by decide) (Nat.le_of_ble_eq_true rfl) ?_
  intro p e s m below meth c A ls hx hb hr hml hown hlocks hnm hts hG hE hA hS hP hD hl hAe
  have hl : lv_has ls 2 [(0, .int x0), (1, .int 119)] := hl
  have hown : s.vm.findClass RJ0 = some m.cls := hown
  refine lv_iload_n hx hb dJ0_checkIndex_df160_0 rfl (lv_at hl 0 rfl) ?_
  refine lv_iload_n hx hb dJ0_checkIndex_df160_1 rfl (lv_at hl 1 rfl) ?_
  obtain ⟨rq, hZq⟩ := hE.2.2.2.2.1
  refine va_gets hx hb hZq hS hown (hts _ kw331) (fun _ h9 => h9) dJ0_checkIndex_df160_2 ?_
  rcases rq with _ | q_1
  · refine W.eq (g2 := F0 m 5 ls [.null, .int 119, .int x0]) rfl ?_
    refine xc_core (wr := []) (k := 0) (n := 0) (xc_runS (As := [.int x0, .int 119, .null]) (rest := []) hx hb hml hown hts hG hE hP hD hS hA [] (by decide) rfl (cJ3_checkIndex_8e157_1 l D cB cI cJ cZ aK aV x0 ((by skip; omega)) ((by skip; omega))) kw335 kw333 kw334 kw119 (show XD yJ3_checkIndex_8e157 3 from by decide +kernel) (by decide) hl.1 rfl (Nat.le_of_ble_eq_true rfl) dJ0_checkIndex_df160_5 (by decide)) hP hD hS hA [] [] rfl rfl (by decide) (by decide) (Nat.le_of_ble_eq_true rfl) (Nat.le_of_ble_eq_true rfl) (fun r w1 H locs hpost hP hD hS => ?_)
    obtain ⟨rfl, rfl⟩ := hpost
    have hP : va_P D vwCl [] H := hP
    have hD : va_D A [] := hD
    refine lv_pop hx hb dJ0_checkIndex_df160_8 rfl ?_
    have hP9 := hP.sub (ws' := []) [] rfl
    have hD9 := hD.sub (ws' := []) [] (by decide) rfl
    exact xr_v (rm := (rmL 2 0 0)) hx hb hr hlocks hAe hS hP9 hD9 (Nat.le_of_ble_eq_true rfl) (Nat.le_of_ble_eq_true rfl) dJ0_checkIndex_df160_9 ⟨rfl, rfl⟩
  · refine W.eq (g2 := F0 m 5 ls [.ref q_1, .int 119, .int x0]) rfl ?_
    refine xc_core (wr := []) (k := 0) (n := 0) (xc_runS (As := [.int x0, .int 119, .ref q_1]) (rest := []) hx hb hml hown hts hG hE hP hD hS hA [] (by decide) rfl (cJ3_checkIndex_8e157_2 l D cB cI cJ cZ aK aV x0 q_1 ((by skip; omega)) ((by skip; omega))) kw335 kw333 kw334 kw119 (show XD yJ3_checkIndex_8e157 3 from by decide +kernel) (by decide) hl.1 rfl (Nat.le_of_ble_eq_true rfl) dJ0_checkIndex_df160_5 (by decide)) hP hD hS hA [] [] rfl rfl (by decide) (by decide) (Nat.le_of_ble_eq_true rfl) (Nat.le_of_ble_eq_true rfl) (fun r w1 H locs hpost hP hD hS => ?_)
    obtain ⟨rfl, rfl⟩ := hpost
    have hP : va_P D vwCl [] H := hP
    have hD : va_D A [] := hD
    refine lv_pop hx hb dJ0_checkIndex_df160_8 rfl ?_
    have hP9 := hP.sub (ws' := []) [] rfl
    have hD9 := hD.sub (ws' := []) [] (by decide) rfl
    exact xr_v (rm := (rmL 2 0 0)) hx hb hr hlocks hAe hS hP9 hD9 (Nat.le_of_ble_eq_true rfl) (Nat.le_of_ble_eq_true rfl) dJ0_checkIndex_df160_9 ⟨rfl, rfl⟩
theorem kw328 : (.methodLink RJ1 9 yJ0_checkIndex_df160 : Cond) ∈ gT := gT_of 328 (by decide +kernel) (by decide +kernel)
theorem kw330 : (.code yJ0_checkIndex_df160 cJ0_checkIndex_df160 2 none : Cond) ∈ gT := gT_of 330 (by decide +kernel) (by decide +kernel)
theorem kw329 : (.static yJ0_checkIndex_df160 : Cond) ∈ gT := gT_of 329 (by decide +kernel) (by decide +kernel)
theorem dJ1_charAt_3b067_3 : decode cJ1_charAt_3b067 3 = .ok (.invokestatic 9, 3) := by decide +kernel
theorem dJ1_charAt_3b067_6 : decode cJ1_charAt_3b067 6 = .ok (.aload_n 0, 1) := by decide +kernel
theorem dJ1_charAt_3b067_7 : decode cJ1_charAt_3b067 7 = .ok (.iload_n 1, 1) := by decide +kernel
theorem dJ1_charAt_3b067_8 : decode cJ1_charAt_3b067 8 = .ok (.baload, 1) := by decide +kernel
theorem dJ1_charAt_3b067_9 : decode cJ1_charAt_3b067 9 = .ok (.sipush 255, 3) := by decide +kernel
theorem dJ1_charAt_3b067_12 : decode cJ1_charAt_3b067 12 = .ok (.iand, 1) := by decide +kernel
theorem dJ1_charAt_3b067_13 : decode cJ1_charAt_3b067 13 = .ok (.i2c, 1) := by decide +kernel
theorem dJ1_charAt_3b067_14 : decode cJ1_charAt_3b067 14 = .ok (.ireturn, 1) := by decide +kernel
set_option maxHeartbeats 4000000 in
set_option maxRecDepth 100000 in
theorem cJ1_charAt_3b067_1 (l : Launch) (D : va_G) (cB cI cJ cZ : ClassId) (aK aV : Nat → Nat) (x0 : Int32) (g_x0_lo : 0 ≤ x0.toInt) (g_x0_hi : x0.toInt ≤ 118) : MX l yJ1_charAt_3b067 cJ1_charAt_3b067 2 (some .char) (rmL 3 0 0) D cB cI cJ cZ aK aV [.ref (aV 0), .int x0] [] (fun r w1 => ∃ v_0 : Int32, r = some (.int v_0) ∧ narrow .char (.int v_0) = .int v_0 ∧ w1 = []) := by
  refine MX.intro (by decide) (Nat.le_of_ble_eq_true rfl) ?_
  intro p e s m below meth c A ls hx hb hr hml hown hlocks hnm hts hG hE hA hS hP hD hl hAe
  have hl : lv_has ls 2 [(0, .ref (aV 0)), (1, .int x0)] := hl
  have hown : s.vm.findClass RJ1 = some m.cls := hown
  refine lv_iload_n hx hb dJ1_charAt_3b067_0 rfl (lv_at hl 1 rfl) ?_
  refine lv_aload_n hx hb dJ1_charAt_3b067_1 rfl (lv_at hl 0 rfl) ?_
  refine va_tlen (v := 119) hx hb (hE.1.1 0 (by decide)).2.2.2 hS rfl dJ1_charAt_3b067_2 ?_
  refine xc_core (wr := []) (k := 0) (n := 0) (xc_runS (As := [.int x0, .int 119]) (rest := []) hx hb hml hown hts hG hE hP hD hS hA [] (by decide) rfl (cJ0_checkIndex_df160_1 l D cB cI cJ cZ aK aV x0 ((by skip; omega)) ((by skip; omega))) kw330 kw328 kw329 kw117 (show XD yJ0_checkIndex_df160 2 from by decide +kernel) (by decide) hl.1 rfl (Nat.le_of_ble_eq_true rfl) dJ1_charAt_3b067_3 (by decide)) hP hD hS hA [] [] rfl rfl (by decide) (by decide) (Nat.le_of_ble_eq_true rfl) (Nat.le_of_ble_eq_true rfl) (fun r w1 H locs hpost hP hD hS => ?_)
  obtain ⟨rfl, rfl⟩ := hpost
  have hP : va_P D vwCl [] H := hP
  have hD : va_D A [] := hD
  refine lv_aload_n hx hb dJ1_charAt_3b067_6 rfl (lv_at hl 0 rfl) ?_
  refine lv_iload_n hx hb dJ1_charAt_3b067_7 rfl (lv_at hl 1 rfl) ?_
  refine va_tb hx hb (hE.1.1 0 (by decide)).2.2.2 hS (vp_in_iff.mpr ⟨by skip; omega, by skip; show x0.toInt < (119 : Int); omega⟩) rfl dJ1_charAt_3b067_8 ?_
  refine xt_any (fun v_1 => ?_)
  refine lv_sipush (v := 255) hx hb dJ1_charAt_3b067_9 (by decide +kernel) ?_
  refine lv_iand hx hb dJ1_charAt_3b067_12 ?_
  refine xt_any (fun v_2 => ?_)
  refine lv_i2c hx hb dJ1_charAt_3b067_13 rfl ?_
  have hP9 := hP.sub (ws' := []) [] rfl
  have hD9 := hD.sub (ws' := []) [] (by decide) rfl
  exact xr_i (rm := (rmL 3 0 0)) hx hb hr hlocks hAe hS hP9 hD9 (pk_nc _) (Nat.le_of_ble_eq_true rfl) (Nat.le_of_ble_eq_true rfl) dJ1_charAt_3b067_14 ⟨((v_2).toUInt32 % 65536).toInt32, rfl, (pk_nc _), rfl⟩
theorem kw325 : (.methodLink RJ0 495 yJ1_charAt_3b067 : Cond) ∈ gT := gT_of 325 (by decide +kernel) (by decide +kernel)
theorem kw327 : (.code yJ1_charAt_3b067 cJ1_charAt_3b067 2 (some .char) : Cond) ∈ gT := gT_of 327 (by decide +kernel) (by decide +kernel)
theorem kw326 : (.static yJ1_charAt_3b067 : Cond) ∈ gT := gT_of 326 (by decide +kernel) (by decide +kernel)
theorem dJ0_charAt_5068e_12 : decode cJ0_charAt_5068e 12 = .ok (.invokestatic 495, 3) := by decide +kernel
theorem dJ0_charAt_5068e_15 : decode cJ0_charAt_5068e 15 = .ok (.ireturn, 1) := by decide +kernel
set_option maxHeartbeats 4000000 in
set_option maxRecDepth 100000 in
theorem cJ0_charAt_5068e_1 (l : Launch) (D : va_G) (cB cI cJ cZ : ClassId) (aK aV : Nat → Nat) (x0 : Int32) (g_x0_lo : 0 ≤ x0.toInt) (g_x0_hi : x0.toInt ≤ 118) : MX l yJ0_charAt_5068e cJ0_charAt_5068e 2 (some .char) (rmL 4 0 0) D cB cI cJ cZ aK aV [.ref (aK 0), .int x0] [] (fun r w1 => ∃ v_0 : Int32, r = some (.int v_0) ∧ narrow .char (.int v_0) = .int v_0 ∧ w1 = []) := by
  refine MX.intro (by decide) (Nat.le_of_ble_eq_true rfl) ?_
  intro p e s m below meth c A ls hx hb hr hml hown hlocks hnm hts hG hE hA hS hP hD hl hAe
  have hl : lv_has ls 2 [(0, .ref (aK 0)), (1, .int x0)] := hl
  have hown : s.vm.findClass RJ0 = some m.cls := hown
  refine lv_aload_n hx hb dJ0_charAt_5068e_0 rfl (lv_at hl 0 rfl) ?_
  refine xc_core (wr := []) (k := 0) (n := 0) (xc_runVK (As := []) (rest := []) hx hb hml hown hts hG hE hP hD hS hA [] (by decide) rfl (cJ0_isLatin1_aae02_2 l D cB cI cJ cZ aK aV) kw324 kw321 kw322 kw323 kw117 (show XD yJ0_isLatin1_aae02 0 from by decide +kernel) (by decide) (vk_recv hE.1 (i := 0) (by decide) hS) hl.1 rfl (Nat.le_of_ble_eq_true rfl) dJ0_charAt_5068e_1 (by decide)) hP hD hS hA [] [] rfl rfl (by decide) (by decide) (Nat.le_of_ble_eq_true rfl) (Nat.le_of_ble_eq_true rfl) (fun r w1 H locs hpost hP hD hS => ?_)
  obtain ⟨rfl, rfl⟩ := hpost
  have hP : va_P D vwCl [] H := hP
  have hD : va_D A [] := hD
  refine lv_if_eq (tgt := 16) hx hb dJ0_charAt_5068e_4 (by decide) (fun h => absurd h (by decide +kernel)) (fun _ => ?_)
  refine lv_aload_n hx hb dJ0_charAt_5068e_7 rfl (lv_at hl 0 rfl) ?_
  refine vk_getf (v := .ref (aV 0)) hx hb (hE.1.1 0 (by decide)).2.2.1 hS hown (hts _ kw2018) (fun _ h9 => h9) dJ0_charAt_5068e_8 ?_
  refine lv_iload_n hx hb dJ0_charAt_5068e_11 rfl (lv_at hl 1 rfl) ?_
  refine xc_core (wr := []) (k := 0) (n := 0) (xc_runS (As := [.ref (aV 0), .int x0]) (rest := []) hx hb hml hown hts hG hE hP hD hS hA [] (by decide) rfl (cJ1_charAt_3b067_1 l D cB cI cJ cZ aK aV x0 ((by skip; omega)) ((by skip; omega))) kw327 kw325 kw326 kw118 (show XD yJ1_charAt_3b067 2 from by decide +kernel) (by decide) hl.1 rfl (Nat.le_of_ble_eq_true rfl) dJ0_charAt_5068e_12 (by decide)) hP hD hS hA [] [] rfl rfl (by decide) (by decide) (Nat.le_of_ble_eq_true rfl) (Nat.le_of_ble_eq_true rfl) (fun r w1 H locs hpost hP hD hS => ?_)
  obtain ⟨v_1, rfl, n_2, rfl⟩ := hpost
  have hP : va_P D vwCl [] H := hP
  have hD : va_D A [] := hD
  have hP9 := hP.sub (ws' := []) [] rfl
  have hD9 := hD.sub (ws' := []) [] (by decide) rfl
  exact xr_i (rm := (rmL 4 0 0)) hx hb hr hlocks hAe hS hP9 hD9 n_2 (Nat.le_of_ble_eq_true rfl) (Nat.le_of_ble_eq_true rfl) dJ0_charAt_5068e_15 ⟨v_1, rfl, n_2, rfl⟩
theorem dX4_packAll_0 : decode cX4_packAll 0 = .ok (.bipush 21, 2) := by decide +kernel
theorem kw411 : (.arrayClass .long : Cond) ∈ gT := gT_of 411 (by decide +kernel) (by decide +kernel)
theorem dX4_packAll_2 : decode cX4_packAll 2 = .ok (.newarray .long, 2) := by decide +kernel
theorem dX4_packAll_4 : decode cX4_packAll 4 = .ok (.astore_n 1, 1) := by decide +kernel
theorem dX4_packAll_5 : decode cX4_packAll 5 = .ok (.iconst 0, 1) := by decide +kernel
theorem dX4_packAll_6 : decode cX4_packAll 6 = .ok (.istore_n 2, 1) := by decide +kernel
theorem dX4_packAll_7 : decode cX4_packAll 7 = .ok (.iconst 0, 1) := by decide +kernel
theorem dX4_packAll_8 : decode cX4_packAll 8 = .ok (.istore_n 3, 1) := by decide +kernel
theorem dX4_packAll_9 : decode cX4_packAll 9 = .ok (.iload_n 3, 1) := by decide +kernel
theorem dX4_packAll_10 : decode cX4_packAll 10 = .ok (.aload_n 0, 1) := by decide +kernel
theorem kw307 : (.methodLink RX4 249 yJ0_length_8abf5 : Cond) ∈ gT := gT_of 307 (by decide +kernel) (by decide +kernel)
theorem dX4_packAll_11 : decode cX4_packAll 11 = .ok (.invokevirtual 249, 3) := by decide +kernel
theorem dX4_packAll_14 : decode cX4_packAll 14 = .ok (.if_icmp .ge 45, 3) := by decide +kernel
theorem dX4_packAll_59 : decode cX4_packAll 59 = .ok (.aload_n 1, 1) := by decide +kernel
theorem dX4_packAll_60 : decode cX4_packAll 60 = .ok (.areturn, 1) := by decide +kernel
theorem dX4_packAll_17 : decode cX4_packAll 17 = .ok (.iload_n 2, 1) := by decide +kernel
theorem dX4_packAll_18 : decode cX4_packAll 18 = .ok (.bipush 21, 2) := by decide +kernel
theorem dX4_packAll_20 : decode cX4_packAll 20 = .ok (.if_icmp .ge 39, 3) := by decide +kernel
theorem dX4_packAll_23 : decode cX4_packAll 23 = .ok (.aload_n 0, 1) := by decide +kernel
theorem dX4_packAll_24 : decode cX4_packAll 24 = .ok (.iload_n 3, 1) := by decide +kernel
theorem kw317 : (.methodLink RX4 253 yJ0_charAt_5068e : Cond) ∈ gT := gT_of 317 (by decide +kernel) (by decide +kernel)
theorem kw320 : (.code yJ0_charAt_5068e cJ0_charAt_5068e 2 (some .char) : Cond) ∈ gT := gT_of 320 (by decide +kernel) (by decide +kernel)
theorem kw318 : (.instanceMethod yJ0_charAt_5068e : Cond) ∈ gT := gT_of 318 (by decide +kernel) (by decide +kernel)
theorem kw319 : (.selects RJ0 yJ0_charAt_5068e yJ0_charAt_5068e : Cond) ∈ gT := gT_of 319 (by decide +kernel) (by decide +kernel)
theorem dX4_packAll_25 : decode cX4_packAll 25 = .ok (.invokevirtual 253, 3) := by decide +kernel
theorem dX4_packAll_28 : decode cX4_packAll 28 = .ok (.bipush 32, 2) := by decide +kernel
theorem dX4_packAll_30 : decode cX4_packAll 30 = .ok (.if_icmp .ne 9, 3) := by decide +kernel
theorem dX4_packAll_39 : decode cX4_packAll 39 = .ok (.aload_n 1, 1) := by decide +kernel
theorem dX4_packAll_40 : decode cX4_packAll 40 = .ok (.iload_n 2, 1) := by decide +kernel
theorem dX4_packAll_41 : decode cX4_packAll 41 = .ok (.aload_n 1, 1) := by decide +kernel
theorem dX4_packAll_42 : decode cX4_packAll 42 = .ok (.iload_n 2, 1) := by decide +kernel
theorem dX4_packAll_43 : decode cX4_packAll 43 = .ok (.laload, 1) := by decide +kernel
theorem dX4_packAll_44 : decode cX4_packAll 44 = .ok (.aload_n 0, 1) := by decide +kernel
theorem dX4_packAll_45 : decode cX4_packAll 45 = .ok (.iload_n 3, 1) := by decide +kernel
theorem dX4_packAll_46 : decode cX4_packAll 46 = .ok (.invokevirtual 253, 3) := by decide +kernel
set_option maxHeartbeats 4000000 in
set_option maxRecDepth 100000 in
theorem cX4_packed_2 (l : Launch) (D : va_G) (cB cI cJ cZ : ClassId) (aK aV : Nat → Nat) (y0 : Int64) (x1 : Int32) : MX l yX4_packed cX4_packed 3 (some .long) (rmL 1 0 0) D cB cI cJ cZ aK aV [.long y0, .int x1] [] (fun r w1 => ∃ v_5 : Int64, r = some (.long v_5) ∧ w1 = []) := by
  refine MX.intro (by decide) (Nat.le_of_ble_eq_true rfl) ?_
  intro p e s m below meth c A ls hx hb hr hml hown hlocks hnm hts hG hE hA hS hP hD hl hAe
  have hl : lv_has ls 3 [(0, .long y0), (2, .int x1)] := hl
  have hown : s.vm.findClass RX4 = some m.cls := hown
  refine lv_lload_n hx hb dX4_packed_0 rfl (lv_at hl 0 rfl) ?_
  refine lv_ldc2 (v := 27) hx hb hown (hts _ kw358) dX4_packed_1 ?_
  refine lv_lmul hx hb dX4_packed_4 ?_
  refine xt_anyL (fun v_1 => ?_)
  refine lv_iload_n hx hb dX4_packed_5 rfl (lv_at hl 1 rfl) ?_
  refine lv_i2l hx hb dX4_packed_6 rfl ?_
  refine xt_anyL (fun v_2 => ?_)
  refine lv_ladd hx hb dX4_packed_7 ?_
  refine xt_anyL (fun v_3 => ?_)
  refine lv_ldc2 (v := 97) hx hb hown (hts _ kw359) dX4_packed_8 ?_
  refine lv_lsub hx hb dX4_packed_11 ?_
  refine xt_anyL (fun v_4 => ?_)
  refine lv_lconst (v := 1) hx hb dX4_packed_12 (by decide +kernel) ?_
  refine lv_ladd hx hb dX4_packed_13 ?_
  refine xt_anyL (fun v_5 => ?_)
  have hP9 := hP.sub (ws' := []) [] rfl
  have hD9 := hD.sub (ws' := []) [] (by decide) rfl
  exact xr_l (rm := (rmL 1 0 0)) hx hb hr hlocks hAe hS hP9 hD9 (Nat.le_of_ble_eq_true rfl) (Nat.le_of_ble_eq_true rfl) dX4_packed_14 ⟨v_5, rfl, rfl⟩
theorem dX4_packAll_49 : decode cX4_packAll 49 = .ok (.invokestatic 241, 3) := by decide +kernel
theorem dX4_packAll_52 : decode cX4_packAll 52 = .ok (.lastore, 1) := by decide +kernel
theorem dX4_packAll_53 : decode cX4_packAll 53 = .ok (.iinc 3 1, 3) := by decide +kernel
theorem dX4_packAll_56 : decode cX4_packAll 56 = .ok (.goto (-47), 3) := by decide +kernel
theorem dX4_packAll_33 : decode cX4_packAll 33 = .ok (.iinc 2 1, 3) := by decide +kernel
theorem dX4_packAll_36 : decode cX4_packAll 36 = .ok (.goto 17, 3) := by decide +kernel
set_option maxHeartbeats 4000000 in
set_option maxRecDepth 100000 in
theorem cX4_packAll_1 (l : Launch) (D : va_G) (cB cI cJ cZ : ClassId) (aK aV : Nat → Nat) : MX l yX4_packAll cX4_packAll 4 (some (.array .long)) (rmL 5 1 21) D cB cI cJ cZ aK aV [.ref (aK 0)] [] (fun r w1 => ∃ q_1 : Nat, ∃ f_2 : Nat → Int64, r = some (.ref q_1) ∧ w1 = [(q_1, .inl (cJ, 21, .inr (.inl f_2)))]) := by
  refine MX.intro (by decide) (Nat.le_of_ble_eq_true rfl) ?_
  intro p e s m below meth c A ls hx hb hr hml hown hlocks hnm hts hG hE hA hS hP hD hl hAe
  have hl : lv_has ls 4 [(0, .ref (aK 0))] := hl
  have hown : s.vm.findClass RX4 = some m.cls := hown
  refine lv_bipush (v := 21) hx hb dX4_packAll_0 (by decide +kernel) ?_
  refine xn_newa (D := D) (a0 := (21, .inr (.inl (fun _ => 0)))) (N' := 21) (k1 := 1) (n1 := 21) (cA := cJ) hx hb (ty := .long) rfl hts kw411 hG hP hD hS hA 2 rfl (fun _ h9 => h9) (fun _ => rfl) (by decide) (by decide +kernel) (by decide) (Nat.le_of_ble_eq_true rfl) (Nat.le_of_ble_eq_true rfl) (Nat.le_of_ble_eq_true rfl) (Nat.le_of_ble_eq_true rfl) dX4_packAll_2 (fun q_1 H hP hD hS => ?_)
  have hP : va_P D vwCl [(q_1, .inl (cJ, 21, .inr (.inl (fun _ => 0))))] H := hP
  have hD : va_D A [(q_1, .inl (cJ, 21, .inr (.inl (fun _ => 0))))] := hD
  refine lv_astore_n (lv' := [(1, .ref q_1), (0, .ref (aK 0))]) hx hb dX4_packAll_4 rfl hl (by decide) rfl (fun ls hl => ?_)
  refine lv_iconst (v := 0) hx hb dX4_packAll_5 (by decide +kernel) ?_
  refine lv_istore_n (lv' := [(2, .int 0), (1, .ref q_1), (0, .ref (aK 0))]) hx hb dX4_packAll_6 rfl hl (by decide) rfl (fun ls hl => ?_)
  refine lv_iconst (v := 0) hx hb dX4_packAll_7 (by decide +kernel) ?_
  refine lv_istore_n (lv' := [(3, .int 0), (2, .int 0), (1, .ref q_1), (0, .ref (aK 0))]) hx hb dX4_packAll_8 rfl hl (by decide) rfl (fun ls hl => ?_)
  have lp : ∀ (n : Nat) (x_3 x_4 : Int32) (f_2 : Nat → Int64) (H : Heap) (locs : List Loc) (ls : Array Slot), 0 ≤ x_3.toInt → x_3.toInt ≤ 21 → 0 ≤ x_4.toInt → x_4.toInt ≤ 119 → 119 - x_4.toInt < n → va_P D vwCl [(q_1, .inl (cJ, 21, .inr (.inl f_2)))] H → va_D A [(q_1, .inl (cJ, 21, .inr (.inl f_2)))] → va_S A s.heap H locs → lv_has ls 4 [(0, .ref (aK 0)), (1, .ref q_1), (2, .int x_3), (3, .int x_4)] → W p l e (rmL 5 1 21) s m [.ref (aK 0)].toArray below meth c H locs 1 21 (ZX D below [.ref (aK 0)] s (rmL 5 1 21) [] (fun r w1 => ∃ q_1 : Nat, ∃ f_2 : Nat → Int64, r = some (.ref q_1) ∧ w1 = [(q_1, .inl (cJ, 21, .inr (.inl f_2)))])) (F0 m 9 ls []) := by
    intro n
    induction n with
    | zero => intro x_3 x_4 f_2 H locs ls gl_0 gl_1 gl_2 gl_3 gl_4; omega
    | succ n ih =>
      intro x_3 x_4 f_2 H locs ls gl_0 gl_1 gl_2 gl_3 gl_4 hP hD hS hl
      refine lv_iload_n hx hb dX4_packAll_9 rfl (lv_at hl 3 rfl) ?_
      refine lv_aload_n hx hb dX4_packAll_10 rfl (lv_at hl 0 rfl) ?_
      refine xc_core (wr := [(q_1, .inl (cJ, 21, .inr (.inl f_2)))]) (k := 1) (n := 21) (xc_runVK (As := []) (rest := [.int x_4]) hx hb hml hown hts hG hE hP hD hS hA [] (by decide) rfl (cJ0_length_8abf5_2 l D cB cI cJ cZ aK aV) kw310 kw307 kw308 kw309 kw117 (show XD yJ0_length_8abf5 0 from by decide +kernel) (by decide) (vk_recv hE.1 (i := 0) (by decide) hS) hl.1 rfl (Nat.le_of_ble_eq_true rfl) dX4_packAll_11 (by decide)) hP hD hS hA [] [0] rfl rfl (by decide) (by decide) (Nat.le_of_ble_eq_true rfl) (Nat.le_of_ble_eq_true rfl) (fun r w1 H locs hpost hP hD hS => ?_)
      obtain ⟨rfl, rfl⟩ := hpost
      have hP : va_P D vwCl [(q_1, .inl (cJ, 21, .inr (.inl f_2)))] H := hP
      have hD : va_D A [(q_1, .inl (cJ, 21, .inr (.inl f_2)))] := hD
      refine lv_icmp_ge (tgt := 59) hx hb dX4_packAll_14 (by decide) (fun c_5 => ?_) (fun c_5 => ?_)
      · -- x_4 ge 119 True
        refine lv_aload_n hx hb dX4_packAll_59 rfl (lv_at hl 1 rfl) ?_
        have hP9 := hP.sub (ws' := [(q_1, .inl (cJ, 21, .inr (.inl f_2)))]) [0] rfl
        have hD9 := hD.sub (ws' := [(q_1, .inl (cJ, 21, .inr (.inl f_2)))]) [0] (by decide) rfl
        exact xr_a (rm := (rmL 5 1 21)) hx hb hr hlocks hAe hS hP9 hD9 (Nat.le_of_ble_eq_true rfl) (Nat.le_of_ble_eq_true rfl) dX4_packAll_60 ⟨q_1, f_2, rfl, rfl⟩
      · -- x_4 ge 119 False
        refine lv_iload_n hx hb dX4_packAll_17 rfl (lv_at hl 2 rfl) ?_
        refine lv_bipush (v := 21) hx hb dX4_packAll_18 (by decide +kernel) ?_
        refine lv_icmp_ge (tgt := 59) hx hb dX4_packAll_20 (by decide) (fun c_6 => ?_) (fun c_6 => ?_)
        · -- x_3 ge 21 True
          refine lv_aload_n hx hb dX4_packAll_59 rfl (lv_at hl 1 rfl) ?_
          have hP9 := hP.sub (ws' := [(q_1, .inl (cJ, 21, .inr (.inl f_2)))]) [0] rfl
          have hD9 := hD.sub (ws' := [(q_1, .inl (cJ, 21, .inr (.inl f_2)))]) [0] (by decide) rfl
          exact xr_a (rm := (rmL 5 1 21)) hx hb hr hlocks hAe hS hP9 hD9 (Nat.le_of_ble_eq_true rfl) (Nat.le_of_ble_eq_true rfl) dX4_packAll_60 ⟨q_1, f_2, rfl, rfl⟩
        · -- x_3 ge 21 False
          refine lv_aload_n hx hb dX4_packAll_23 rfl (lv_at hl 0 rfl) ?_
          refine lv_iload_n hx hb dX4_packAll_24 rfl (lv_at hl 3 rfl) ?_
          refine xc_core (wr := [(q_1, .inl (cJ, 21, .inr (.inl f_2)))]) (k := 1) (n := 21) (xc_runVK (As := [.int x_4]) (rest := []) hx hb hml hown hts hG hE hP hD hS hA [] (by decide) rfl (cJ0_charAt_5068e_1 l D cB cI cJ cZ aK aV x_4 ((by have zc_5 := Int32.lt_iff_toInt_lt.mp (Int32.not_le.mp c_5); have zc_6 := Int32.lt_iff_toInt_lt.mp (Int32.not_le.mp c_6); have i32_21 : (21 : Int32).toInt = 21 := (by decide); have i32_119 : (119 : Int32).toInt = 119 := (by decide); omega)) ((by have zc_5 := Int32.lt_iff_toInt_lt.mp (Int32.not_le.mp c_5); have zc_6 := Int32.lt_iff_toInt_lt.mp (Int32.not_le.mp c_6); have i32_21 : (21 : Int32).toInt = 21 := (by decide); have i32_119 : (119 : Int32).toInt = 119 := (by decide); omega))) kw320 kw317 kw318 kw319 kw117 (show XD yJ0_charAt_5068e 1 from by decide +kernel) (by decide) (vk_recv hE.1 (i := 0) (by decide) hS) hl.1 rfl (Nat.le_of_ble_eq_true rfl) dX4_packAll_25 (by decide)) hP hD hS hA [] [0] rfl rfl (by decide) (by decide) (Nat.le_of_ble_eq_true rfl) (Nat.le_of_ble_eq_true rfl) (fun r w1 H locs hpost hP hD hS => ?_)
          obtain ⟨v_7, rfl, n_8, rfl⟩ := hpost
          have hP : va_P D vwCl [(q_1, .inl (cJ, 21, .inr (.inl f_2)))] H := hP
          have hD : va_D A [(q_1, .inl (cJ, 21, .inr (.inl f_2)))] := hD
          refine lv_bipush (v := 32) hx hb dX4_packAll_28 (by decide +kernel) ?_
          refine lv_icmp_ne (tgt := 39) hx hb dX4_packAll_30 (by decide) (fun c_9 => ?_) (fun c_9 => ?_)
          · -- v_7 ne 32 True
            refine lv_aload_n hx hb dX4_packAll_39 rfl (lv_at hl 1 rfl) ?_
            refine lv_iload_n hx hb dX4_packAll_40 rfl (lv_at hl 2 rfl) ?_
            refine lv_aload_n hx hb dX4_packAll_41 rfl (lv_at hl 1 rfl) ?_
            refine lv_iload_n hx hb dX4_packAll_42 rfl (lv_at hl 2 rfl) ?_
            refine xa_lldU hx hb hG hP 0 rfl (vp_in_iff.mpr ⟨by have zc_5 := Int32.lt_iff_toInt_lt.mp (Int32.not_le.mp c_5); have zc_6 := Int32.lt_iff_toInt_lt.mp (Int32.not_le.mp c_6); have zc_9 := mt Int32.toInt_inj.mp c_9; have i32_21 : (21 : Int32).toInt = 21 := (by decide); have i32_32 : (32 : Int32).toInt = 32 := (by decide); have i32_119 : (119 : Int32).toInt = 119 := (by decide); omega, by have zc_5 := Int32.lt_iff_toInt_lt.mp (Int32.not_le.mp c_5); have zc_6 := Int32.lt_iff_toInt_lt.mp (Int32.not_le.mp c_6); have zc_9 := mt Int32.toInt_inj.mp c_9; have i32_21 : (21 : Int32).toInt = 21 := (by decide); have i32_32 : (32 : Int32).toInt = 32 := (by decide); have i32_119 : (119 : Int32).toInt = 119 := (by decide); show x_3.toInt < (21 : Int); omega⟩) dX4_packAll_43 (fun v_10 => ?_)
            refine lv_aload_n hx hb dX4_packAll_44 rfl (lv_at hl 0 rfl) ?_
            refine lv_iload_n hx hb dX4_packAll_45 rfl (lv_at hl 3 rfl) ?_
            refine xc_core (wr := [(q_1, .inl (cJ, 21, .inr (.inl f_2)))]) (k := 1) (n := 21) (xc_runVK (As := [.int x_4]) (rest := [.long v_10, .int x_3, .ref q_1]) hx hb hml hown hts hG hE hP hD hS hA [] (by decide) rfl (cJ0_charAt_5068e_1 l D cB cI cJ cZ aK aV x_4 ((by have zc_5 := Int32.lt_iff_toInt_lt.mp (Int32.not_le.mp c_5); have zc_6 := Int32.lt_iff_toInt_lt.mp (Int32.not_le.mp c_6); have zc_9 := mt Int32.toInt_inj.mp c_9; have i32_21 : (21 : Int32).toInt = 21 := (by decide); have i32_32 : (32 : Int32).toInt = 32 := (by decide); have i32_119 : (119 : Int32).toInt = 119 := (by decide); omega)) ((by have zc_5 := Int32.lt_iff_toInt_lt.mp (Int32.not_le.mp c_5); have zc_6 := Int32.lt_iff_toInt_lt.mp (Int32.not_le.mp c_6); have zc_9 := mt Int32.toInt_inj.mp c_9; have i32_21 : (21 : Int32).toInt = 21 := (by decide); have i32_32 : (32 : Int32).toInt = 32 := (by decide); have i32_119 : (119 : Int32).toInt = 119 := (by decide); omega))) kw320 kw317 kw318 kw319 kw117 (show XD yJ0_charAt_5068e 1 from by decide +kernel) (by decide) (vk_recv hE.1 (i := 0) (by decide) hS) hl.1 rfl (Nat.le_of_ble_eq_true rfl) dX4_packAll_46 (by decide)) hP hD hS hA [] [0] rfl rfl (by decide) (by decide) (Nat.le_of_ble_eq_true rfl) (Nat.le_of_ble_eq_true rfl) (fun r w1 H locs hpost hP hD hS => ?_)
            obtain ⟨v_11, rfl, n_12, rfl⟩ := hpost
            have hP : va_P D vwCl [(q_1, .inl (cJ, 21, .inr (.inl f_2)))] H := hP
            have hD : va_D A [(q_1, .inl (cJ, 21, .inr (.inl f_2)))] := hD
            refine xc_core (wr := [(q_1, .inl (cJ, 21, .inr (.inl f_2)))]) (k := 1) (n := 21) (xc_runS (As := [.long v_10, .int v_11]) (rest := [.int x_3, .ref q_1]) hx hb hml hown hts hG hE hP hD hS hA [] (by decide) rfl (cX4_packed_2 l D cB cI cJ cZ aK aV v_10 v_11) kw357 kw355 kw356 kw116 (show XD yX4_packed 2 from by decide +kernel) (by decide) hl.1 rfl (Nat.le_of_ble_eq_true rfl) dX4_packAll_49 (by decide)) hP hD hS hA [] [0] rfl rfl (by decide) (by decide) (Nat.le_of_ble_eq_true rfl) (Nat.le_of_ble_eq_true rfl) (fun r w1 H locs hpost hP hD hS => ?_)
            obtain ⟨v_13, rfl, rfl⟩ := hpost
            have hP : va_P D vwCl [(q_1, .inl (cJ, 21, .inr (.inl f_2)))] H := hP
            have hD : va_D A [(q_1, .inl (cJ, 21, .inr (.inl f_2)))] := hD
            refine xa_lstU hx hb hG hP hD hS 0 rfl (vp_in_iff.mpr ⟨by have zc_5 := Int32.lt_iff_toInt_lt.mp (Int32.not_le.mp c_5); have zc_6 := Int32.lt_iff_toInt_lt.mp (Int32.not_le.mp c_6); have zc_9 := mt Int32.toInt_inj.mp c_9; have i32_21 : (21 : Int32).toInt = 21 := (by decide); have i32_32 : (32 : Int32).toInt = 32 := (by decide); have i32_119 : (119 : Int32).toInt = 119 := (by decide); omega, by have zc_5 := Int32.lt_iff_toInt_lt.mp (Int32.not_le.mp c_5); have zc_6 := Int32.lt_iff_toInt_lt.mp (Int32.not_le.mp c_6); have zc_9 := mt Int32.toInt_inj.mp c_9; have i32_21 : (21 : Int32).toInt = 21 := (by decide); have i32_32 : (32 : Int32).toInt = 32 := (by decide); have i32_119 : (119 : Int32).toInt = 119 := (by decide); show x_3.toInt < (21 : Int); omega⟩) dX4_packAll_52 (fun f_14 H locs hP hD hS => ?_)
            have hP : va_P D vwCl [(q_1, .inl (cJ, 21, .inr (.inl f_14)))] H := hP
            have hD : va_D A [(q_1, .inl (cJ, 21, .inr (.inl f_14)))] := hD
            obtain ⟨v_15, ev_15⟩ : ∃ y : Int32, y = x_4 + 1 := ⟨_, rfl⟩
            have gv_15 : v_15.toInt = x_4.toInt + 1 := by have zc_5 := Int32.lt_iff_toInt_lt.mp (Int32.not_le.mp c_5); have zc_6 := Int32.lt_iff_toInt_lt.mp (Int32.not_le.mp c_6); have zc_9 := mt Int32.toInt_inj.mp c_9; have i32_21 : (21 : Int32).toInt = 21 := (by decide); have i32_32 : (32 : Int32).toInt = 32 := (by decide); have i32_119 : (119 : Int32).toInt = 119 := (by decide); rw [ev_15]; exact i32_add1 (by omega)
            refine lv_iinc (v := v_15) (lv' := [(3, .int v_15), (0, .ref (aK 0)), (1, .ref q_1), (2, .int x_3)]) hx hb dX4_packAll_53 hl (k := 3) rfl (by rw [ev_15]; rfl) (by decide) rfl (fun ls hl => ?_)
            refine lv_goto (tgt := 9) hx hb dX4_packAll_56 (by decide) ?_
            exact ih _ _ _ _ _ _ (by have zc_5 := Int32.lt_iff_toInt_lt.mp (Int32.not_le.mp c_5); have zc_6 := Int32.lt_iff_toInt_lt.mp (Int32.not_le.mp c_6); have zc_9 := mt Int32.toInt_inj.mp c_9; have i32_21 : (21 : Int32).toInt = 21 := (by decide); have i32_32 : (32 : Int32).toInt = 32 := (by decide); have i32_119 : (119 : Int32).toInt = 119 := (by decide); omega) (by have zc_5 := Int32.lt_iff_toInt_lt.mp (Int32.not_le.mp c_5); have zc_6 := Int32.lt_iff_toInt_lt.mp (Int32.not_le.mp c_6); have zc_9 := mt Int32.toInt_inj.mp c_9; have i32_21 : (21 : Int32).toInt = 21 := (by decide); have i32_32 : (32 : Int32).toInt = 32 := (by decide); have i32_119 : (119 : Int32).toInt = 119 := (by decide); omega) (by have zc_5 := Int32.lt_iff_toInt_lt.mp (Int32.not_le.mp c_5); have zc_6 := Int32.lt_iff_toInt_lt.mp (Int32.not_le.mp c_6); have zc_9 := mt Int32.toInt_inj.mp c_9; have i32_21 : (21 : Int32).toInt = 21 := (by decide); have i32_32 : (32 : Int32).toInt = 32 := (by decide); have i32_119 : (119 : Int32).toInt = 119 := (by decide); omega) (by have zc_5 := Int32.lt_iff_toInt_lt.mp (Int32.not_le.mp c_5); have zc_6 := Int32.lt_iff_toInt_lt.mp (Int32.not_le.mp c_6); have zc_9 := mt Int32.toInt_inj.mp c_9; have i32_21 : (21 : Int32).toInt = 21 := (by decide); have i32_32 : (32 : Int32).toInt = 32 := (by decide); have i32_119 : (119 : Int32).toInt = 119 := (by decide); omega) (by have zc_5 := Int32.lt_iff_toInt_lt.mp (Int32.not_le.mp c_5); have zc_6 := Int32.lt_iff_toInt_lt.mp (Int32.not_le.mp c_6); have zc_9 := mt Int32.toInt_inj.mp c_9; have i32_21 : (21 : Int32).toInt = 21 := (by decide); have i32_32 : (32 : Int32).toInt = 32 := (by decide); have i32_119 : (119 : Int32).toInt = 119 := (by decide); omega) (hP.sub (ws' := [(q_1, .inl (cJ, 21, .inr (.inl f_14)))]) [0] rfl) (hD.sub (ws' := [(q_1, .inl (cJ, 21, .inr (.inl f_14)))]) [0] (by decide) rfl) hS (lv_sub hl [1, 2, 3, 0] rfl)
          · -- v_7 ne 32 False
            obtain ⟨v_16, ev_16⟩ : ∃ y : Int32, y = x_3 + 1 := ⟨_, rfl⟩
            have gv_16 : v_16.toInt = x_3.toInt + 1 := by have zc_5 := Int32.lt_iff_toInt_lt.mp (Int32.not_le.mp c_5); have zc_6 := Int32.lt_iff_toInt_lt.mp (Int32.not_le.mp c_6); have zc_9 := congrArg Int32.toInt c_9; have i32_21 : (21 : Int32).toInt = 21 := (by decide); have i32_32 : (32 : Int32).toInt = 32 := (by decide); have i32_119 : (119 : Int32).toInt = 119 := (by decide); rw [ev_16]; exact i32_add1 (by omega)
            refine lv_iinc (v := v_16) (lv' := [(2, .int v_16), (0, .ref (aK 0)), (1, .ref q_1), (3, .int x_4)]) hx hb dX4_packAll_33 hl (k := 2) rfl (by rw [ev_16]; rfl) (by decide) rfl (fun ls hl => ?_)
            refine lv_goto (tgt := 53) hx hb dX4_packAll_36 (by decide) ?_
            obtain ⟨v_17, ev_17⟩ : ∃ y : Int32, y = x_4 + 1 := ⟨_, rfl⟩
            have gv_17 : v_17.toInt = x_4.toInt + 1 := by have zc_5 := Int32.lt_iff_toInt_lt.mp (Int32.not_le.mp c_5); have zc_6 := Int32.lt_iff_toInt_lt.mp (Int32.not_le.mp c_6); have zc_9 := congrArg Int32.toInt c_9; have i32_21 : (21 : Int32).toInt = 21 := (by decide); have i32_32 : (32 : Int32).toInt = 32 := (by decide); have i32_119 : (119 : Int32).toInt = 119 := (by decide); rw [ev_17]; exact i32_add1 (by omega)
            refine lv_iinc (v := v_17) (lv' := [(3, .int v_17), (2, .int v_16), (0, .ref (aK 0)), (1, .ref q_1)]) hx hb dX4_packAll_53 hl (k := 3) rfl (by rw [ev_17]; rfl) (by decide) rfl (fun ls hl => ?_)
            refine lv_goto (tgt := 9) hx hb dX4_packAll_56 (by decide) ?_
            exact ih _ _ _ _ _ _ (by have zc_5 := Int32.lt_iff_toInt_lt.mp (Int32.not_le.mp c_5); have zc_6 := Int32.lt_iff_toInt_lt.mp (Int32.not_le.mp c_6); have zc_9 := congrArg Int32.toInt c_9; have i32_21 : (21 : Int32).toInt = 21 := (by decide); have i32_32 : (32 : Int32).toInt = 32 := (by decide); have i32_119 : (119 : Int32).toInt = 119 := (by decide); omega) (by have zc_5 := Int32.lt_iff_toInt_lt.mp (Int32.not_le.mp c_5); have zc_6 := Int32.lt_iff_toInt_lt.mp (Int32.not_le.mp c_6); have zc_9 := congrArg Int32.toInt c_9; have i32_21 : (21 : Int32).toInt = 21 := (by decide); have i32_32 : (32 : Int32).toInt = 32 := (by decide); have i32_119 : (119 : Int32).toInt = 119 := (by decide); omega) (by have zc_5 := Int32.lt_iff_toInt_lt.mp (Int32.not_le.mp c_5); have zc_6 := Int32.lt_iff_toInt_lt.mp (Int32.not_le.mp c_6); have zc_9 := congrArg Int32.toInt c_9; have i32_21 : (21 : Int32).toInt = 21 := (by decide); have i32_32 : (32 : Int32).toInt = 32 := (by decide); have i32_119 : (119 : Int32).toInt = 119 := (by decide); omega) (by have zc_5 := Int32.lt_iff_toInt_lt.mp (Int32.not_le.mp c_5); have zc_6 := Int32.lt_iff_toInt_lt.mp (Int32.not_le.mp c_6); have zc_9 := congrArg Int32.toInt c_9; have i32_21 : (21 : Int32).toInt = 21 := (by decide); have i32_32 : (32 : Int32).toInt = 32 := (by decide); have i32_119 : (119 : Int32).toInt = 119 := (by decide); omega) (by have zc_5 := Int32.lt_iff_toInt_lt.mp (Int32.not_le.mp c_5); have zc_6 := Int32.lt_iff_toInt_lt.mp (Int32.not_le.mp c_6); have zc_9 := congrArg Int32.toInt c_9; have i32_21 : (21 : Int32).toInt = 21 := (by decide); have i32_32 : (32 : Int32).toInt = 32 := (by decide); have i32_119 : (119 : Int32).toInt = 119 := (by decide); omega) (hP.sub (ws' := [(q_1, .inl (cJ, 21, .inr (.inl f_2)))]) [0] rfl) (hD.sub (ws' := [(q_1, .inl (cJ, 21, .inr (.inl f_2)))]) [0] (by decide) rfl) hS (lv_sub hl [2, 3, 1, 0] rfl)
  exact lp 120 0 0 _ _ _ _ (by have i32_0 : (0 : Int32).toInt = 0 := (by decide); omega) (by have i32_0 : (0 : Int32).toInt = 0 := (by decide); omega) (by have i32_0 : (0 : Int32).toInt = 0 := (by decide); omega) (by have i32_0 : (0 : Int32).toInt = 0 := (by decide); omega) (by have i32_0 : (0 : Int32).toInt = 0 := (by decide); omega) hP hD hS (lv_sub hl [3, 2, 1, 0] rfl)
