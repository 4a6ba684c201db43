theorem dX5_init_0 : decode cX5_init 0 = .ok (.aload_n 0, 1) := by decide +kernel
theorem kw572 : (.methodLink RX5 3 objectInit : Cond) ∈ gT := gT_of 572 (by decide +kernel) (by decide +kernel)
theorem kw137 : (.instanceMethod objectInit : Cond) ∈ gT := gT_of 137 (by decide +kernel) (by decide +kernel)
theorem kw138 : (.code objectInit ⟨#[0xb1]⟩ 1 none : Cond) ∈ gT := gT_of 138 (by decide +kernel) (by decide +kernel)
theorem dX5_init_1 : decode cX5_init 1 = .ok (.invokespecial 3, 3) := by decide +kernel
theorem dX5_init_4 : decode cX5_init 4 = .ok (.aload_n 0, 1) := by decide +kernel
theorem dX5_init_5 : decode cX5_init 5 = .ok (.bipush 7, 2) := by decide +kernel
theorem kw188 : (.arrayClass .int : Cond) ∈ gT := gT_of 188 (by decide +kernel) (by decide +kernel)
theorem dX5_init_7 : decode cX5_init 7 = .ok (.newarray .int, 2) := by decide +kernel
theorem kw573 : (.fieldLink RX5 9 "SpiceSwaps$Row" "numbers" "[I" : Cond) ∈ gT := gT_of 573 (by decide +kernel) (by decide +kernel)
theorem dX5_init_9 : decode cX5_init 9 = .ok (.putfield 9, 3) := by decide +kernel
theorem dX5_init_12 : decode cX5_init 12 = .ok (.return_, 1) := by decide +kernel
set_option maxHeartbeats 4000000 in
set_option maxRecDepth 100000 in
theorem cX5_init_1 (l : Launch) (D : va_G) (cB cI cJ cZ : ClassId) (aK aV : Nat → Nat) (h0 : Nat) : MX l yX5_init cX5_init 1 none (rmL 1 1 7) D cB cI cJ cZ aK aV [.ref h0] [(h0, .inr (5, [.null, .int 0]))] (fun r w1 => ∃ q_1 : Nat, r = none ∧ w1 = [(h0, .inr (5, [.ref q_1, .int 0])), (q_1, .inl (cI, 7, .inl (fun _ => 0)))]) := by
  refine MX.intro (by decide) (Nat.le_of_ble_eq_true rfl) ?_
  intro p e s m below meth c A ls hx hb hr hml hown hlocks hnm hts hG hE hA hS hP hD hl hAe
  have hl : lv_has ls 1 [(0, .ref h0)] := hl
  have hown : s.vm.findClass RX5 = some m.cls := hown
  refine lv_aload_n hx hb dX5_init_0 rfl (lv_at hl 0 rfl) ?_
  refine W.objInit hx hb hown (hts _ kw572) (hts _ kw137) (hts _ kw138) rfl (by rw [hml]; exact hl.1) rfl dX5_init_1 (Nat.le_of_ble_eq_true rfl) (Nat.le_of_ble_eq_true rfl) ?_
  refine W.eq (g2 := F0 m 4 ls []) rfl ?_
  refine lv_aload_n hx hb dX5_init_4 rfl (lv_at hl 0 rfl) ?_
  refine lv_bipush (v := 7) hx hb dX5_init_5 (by decide +kernel) ?_
  refine xn_newa (D := D) (a0 := (7, .inl (fun _ => 0))) (N' := 7) (k1 := 1) (n1 := 7) (cA := cI) hx hb (ty := .int) rfl hts kw188 hG hP hD hS hA 1 rfl (fun _ h9 => h9) (fun _ => rfl) (by decide) (by decide +kernel) (by decide) (Nat.le_of_ble_eq_true rfl) (Nat.le_of_ble_eq_true rfl) (Nat.le_of_ble_eq_true rfl) (Nat.le_of_ble_eq_true rfl) dX5_init_7 (fun q_1 H hP hD hS => ?_)
  have hP : va_P D vwCl [(h0, .inr (5, [.null, .int 0])), (q_1, .inl (cI, 7, .inl (fun _ => 0)))] H := hP
  have hD : va_D A [(h0, .inr (5, [.null, .int 0])), (q_1, .inl (cI, 7, .inl (fun _ => 0)))] := hD
  refine va_putF (D := D) (ci := 5) (v := .ref q_1) (ty := .array .int) (C := RX5) (T := TX5) (N := 2) hx hb hts inX5 tyX5 tyX5_ok nmX5 hown hG.1 hP hD hS 0 rfl rfl 0 (by decide) (hts _ kw573) (fun _ h9 => h9) rfl hnm rfl (by decide +kernel) rfl rfl (Nat.le_of_ble_eq_true rfl) dX5_init_9 (fun H locs hP hD hS => ?_)
  have hP : va_P D vwCl [(h0, .inr (5, [.ref q_1, .int 0])), (q_1, .inl (cI, 7, .inl (fun _ => 0)))] H := hP
  have hD : va_D A [(h0, .inr (5, [.ref q_1, .int 0])), (q_1, .inl (cI, 7, .inl (fun _ => 0)))] := hD
  have hP9 := hP.sub (ws' := [(h0, .inr (5, [.ref q_1, .int 0])), (q_1, .inl (cI, 7, .inl (fun _ => 0)))]) [0, 1] rfl
  have hD9 := hD.sub (ws' := [(h0, .inr (5, [.ref q_1, .int 0])), (q_1, .inl (cI, 7, .inl (fun _ => 0)))]) [0, 1] (by decide) rfl
  exact xr_v (rm := (rmL 1 1 7)) hx hb hr hlocks hAe hS hP9 hD9 (Nat.le_of_ble_eq_true rfl) (Nat.le_of_ble_eq_true rfl) dX5_init_12 ⟨q_1, rfl, rfl⟩
theorem dX7_init_0 : decode cX7_init 0 = .ok (.aload_n 0, 1) := by decide +kernel
theorem kw144 : (.methodLink RX7 1 objectInit : Cond) ∈ gT := gT_of 144 (by decide +kernel) (by decide +kernel)
theorem dX7_init_1 : decode cX7_init 1 = .ok (.invokespecial 1, 3) := by decide +kernel
theorem dX7_init_4 : decode cX7_init 4 = .ok (.aload_n 0, 1) := by decide +kernel
theorem dX7_init_5 : decode cX7_init 5 = .ok (.sipush 1600, 3) := by decide +kernel
theorem kw155 : (.arrayClass .byte : Cond) ∈ gT := gT_of 155 (by decide +kernel) (by decide +kernel)
theorem dX7_init_8 : decode cX7_init 8 = .ok (.newarray .byte, 2) := by decide +kernel
theorem kw145 : (.fieldLink RX7 9 "SpiceSwaps$Tape" "bytes" "[B" : Cond) ∈ gT := gT_of 145 (by decide +kernel) (by decide +kernel)
theorem dX7_init_10 : decode cX7_init 10 = .ok (.putfield 9, 3) := by decide +kernel
theorem dX7_init_13 : decode cX7_init 13 = .ok (.return_, 1) := by decide +kernel
set_option maxHeartbeats 4000000 in
set_option maxRecDepth 100000 in
theorem cX7_init_1 (l : Launch) (D : va_G) (cB cI cJ cZ : ClassId) (aK aV : Nat → Nat) (h0 : Nat) : MX l yX7_init cX7_init 1 none (rmL 1 1 1600) D cB cI cJ cZ aK aV [.ref h0] [(h0, .inr (7, [.null, .int 0]))] (fun r w1 => ∃ q_1 : Nat, r = none ∧ w1 = [(h0, .inr (7, [.ref q_1, .int 0])), (q_1, .inl (cB, 1600, .inl (fun _ => 0)))]) := by
  refine MX.intro (by decide) (Nat.le_of_ble_eq_true rfl) ?_
  intro p e s m below meth c A ls hx hb hr hml hown hlocks hnm hts hG hE hA hS hP hD hl hAe
  have hl : lv_has ls 1 [(0, .ref h0)] := hl
  have hown : s.vm.findClass RX7 = some m.cls := hown
  refine lv_aload_n hx hb dX7_init_0 rfl (lv_at hl 0 rfl) ?_
  refine W.objInit hx hb hown (hts _ kw144) (hts _ kw137) (hts _ kw138) rfl (by rw [hml]; exact hl.1) rfl dX7_init_1 (Nat.le_of_ble_eq_true rfl) (Nat.le_of_ble_eq_true rfl) ?_
  refine W.eq (g2 := F0 m 4 ls []) rfl ?_
  refine lv_aload_n hx hb dX7_init_4 rfl (lv_at hl 0 rfl) ?_
  refine lv_sipush (v := 1600) hx hb dX7_init_5 (by decide +kernel) ?_
  refine xn_newa (D := D) (a0 := (1600, .inl (fun _ => 0))) (N' := 1600) (k1 := 1) (n1 := 1600) (cA := cB) hx hb (ty := .byte) rfl hts kw155 hG hP hD hS hA 0 rfl (fun _ h9 => h9) (fun _ => rfl) (by decide) (by decide +kernel) (by decide) (Nat.le_of_ble_eq_true rfl) (Nat.le_of_ble_eq_true rfl) (Nat.le_of_ble_eq_true rfl) (Nat.le_of_ble_eq_true rfl) dX7_init_8 (fun q_1 H hP hD hS => ?_)
  have hP : va_P D vwCl [(h0, .inr (7, [.null, .int 0])), (q_1, .inl (cB, 1600, .inl (fun _ => 0)))] H := hP
  have hD : va_D A [(h0, .inr (7, [.null, .int 0])), (q_1, .inl (cB, 1600, .inl (fun _ => 0)))] := hD
  refine va_putF (D := D) (ci := 7) (v := .ref q_1) (ty := .array .byte) (C := RX7) (T := TX7) (N := 2) hx hb hts inX7 tyX7 tyX7_ok nmX7 hown hG.1 hP hD hS 0 rfl rfl 0 (by decide) (hts _ kw145) (fun _ h9 => h9) rfl hnm rfl (by decide +kernel) rfl rfl (Nat.le_of_ble_eq_true rfl) dX7_init_10 (fun H locs hP hD hS => ?_)
  have hP : va_P D vwCl [(h0, .inr (7, [.ref q_1, .int 0])), (q_1, .inl (cB, 1600, .inl (fun _ => 0)))] H := hP
  have hD : va_D A [(h0, .inr (7, [.ref q_1, .int 0])), (q_1, .inl (cB, 1600, .inl (fun _ => 0)))] := hD
  have hP9 := hP.sub (ws' := [(h0, .inr (7, [.ref q_1, .int 0])), (q_1, .inl (cB, 1600, .inl (fun _ => 0)))]) [0, 1] rfl
  have hD9 := hD.sub (ws' := [(h0, .inr (7, [.ref q_1, .int 0])), (q_1, .inl (cB, 1600, .inl (fun _ => 0)))]) [0, 1] (by decide) rfl
  exact xr_v (rm := (rmL 1 1 1600)) hx hb hr hlocks hAe hS hP9 hD9 (Nat.le_of_ble_eq_true rfl) (Nat.le_of_ble_eq_true rfl) dX7_init_13 ⟨q_1, rfl, rfl⟩
theorem dX1_init_0 : decode cX1_init 0 = .ok (.aload_n 0, 1) := by decide +kernel
theorem kw167 : (.methodLink RX1 1 objectInit : Cond) ∈ gT := gT_of 167 (by decide +kernel) (by decide +kernel)
theorem dX1_init_1 : decode cX1_init 1 = .ok (.invokespecial 1, 3) := by decide +kernel
theorem dX1_init_4 : decode cX1_init 4 = .ok (.aload_n 0, 1) := by decide +kernel
theorem dX1_init_5 : decode cX1_init 5 = .ok (.sipush 272, 3) := by decide +kernel
theorem dX1_init_8 : decode cX1_init 8 = .ok (.newarray .int, 2) := by decide +kernel
theorem kw168 : (.fieldLink RX1 9 "SpiceSwaps$Formula" "steps" "[I" : Cond) ∈ gT := gT_of 168 (by decide +kernel) (by decide +kernel)
theorem dX1_init_10 : decode cX1_init 10 = .ok (.putfield 9, 3) := by decide +kernel
theorem dX1_init_13 : decode cX1_init 13 = .ok (.aload_n 0, 1) := by decide +kernel
theorem dX1_init_14 : decode cX1_init 14 = .ok (.bipush 30, 2) := by decide +kernel
theorem dX1_init_16 : decode cX1_init 16 = .ok (.newarray .int, 2) := by decide +kernel
theorem kw169 : (.fieldLink RX1 13 "SpiceSwaps$Formula" "stack" "[I" : Cond) ∈ gT := gT_of 169 (by decide +kernel) (by decide +kernel)
theorem dX1_init_18 : decode cX1_init 18 = .ok (.putfield 13, 3) := by decide +kernel
theorem dX1_init_21 : decode cX1_init 21 = .ok (.return_, 1) := by decide +kernel
set_option maxHeartbeats 4000000 in
set_option maxRecDepth 100000 in
theorem cX1_init_1 (l : Launch) (D : va_G) (cB cI cJ cZ : ClassId) (aK aV : Nat → Nat) (h0 : Nat) : MX l yX1_init cX1_init 1 none (rmL 1 2 302) D cB cI cJ cZ aK aV [.ref h0] [(h0, .inr (1, [.null, .null, .int 0, .int 0, .int 0]))] (fun r w1 => ∃ q_1 : Nat, ∃ q_2 : Nat, r = none ∧ w1 = [(h0, .inr (1, [.ref q_1, .ref q_2, .int 0, .int 0, .int 0])), (q_1, .inl (cI, 272, .inl (fun _ => 0))), (q_2, .inl (cI, 30, .inl (fun _ => 0)))]) := by
  refine MX.intro (by decide) (Nat.le_of_ble_eq_true rfl) ?_
  intro p e s m below meth c A ls hx hb hr hml hown hlocks hnm hts hG hE hA hS hP hD hl hAe
  have hl : lv_has ls 1 [(0, .ref h0)] := hl
  have hown : s.vm.findClass RX1 = some m.cls := hown
  refine lv_aload_n hx hb dX1_init_0 rfl (lv_at hl 0 rfl) ?_
  refine W.objInit hx hb hown (hts _ kw167) (hts _ kw137) (hts _ kw138) rfl (by rw [hml]; exact hl.1) rfl dX1_init_1 (Nat.le_of_ble_eq_true rfl) (Nat.le_of_ble_eq_true rfl) ?_
  refine W.eq (g2 := F0 m 4 ls []) rfl ?_
  refine lv_aload_n hx hb dX1_init_4 rfl (lv_at hl 0 rfl) ?_
  refine lv_sipush (v := 272) hx hb dX1_init_5 (by decide +kernel) ?_
  refine xn_newa (D := D) (a0 := (272, .inl (fun _ => 0))) (N' := 272) (k1 := 1) (n1 := 272) (cA := cI) hx hb (ty := .int) rfl hts kw188 hG hP hD hS hA 1 rfl (fun _ h9 => h9) (fun _ => rfl) (by decide) (by decide +kernel) (by decide) (Nat.le_of_ble_eq_true rfl) (Nat.le_of_ble_eq_true rfl) (Nat.le_of_ble_eq_true rfl) (Nat.le_of_ble_eq_true rfl) dX1_init_8 (fun q_1 H hP hD hS => ?_)
  have hP : va_P D vwCl [(h0, .inr (1, [.null, .null, .int 0, .int 0, .int 0])), (q_1, .inl (cI, 272, .inl (fun _ => 0)))] H := hP
  have hD : va_D A [(h0, .inr (1, [.null, .null, .int 0, .int 0, .int 0])), (q_1, .inl (cI, 272, .inl (fun _ => 0)))] := hD
  refine va_putF (D := D) (ci := 1) (v := .ref q_1) (ty := .array .int) (C := RX1) (T := TX1) (N := 5) hx hb hts inX1 tyX1 tyX1_ok nmX1 hown hG.1 hP hD hS 0 rfl rfl 0 (by decide) (hts _ kw168) (fun _ h9 => h9) rfl hnm rfl (by decide +kernel) rfl rfl (Nat.le_of_ble_eq_true rfl) dX1_init_10 (fun H locs hP hD hS => ?_)
  have hP : va_P D vwCl [(h0, .inr (1, [.ref q_1, .null, .int 0, .int 0, .int 0])), (q_1, .inl (cI, 272, .inl (fun _ => 0)))] H := hP
  have hD : va_D A [(h0, .inr (1, [.ref q_1, .null, .int 0, .int 0, .int 0])), (q_1, .inl (cI, 272, .inl (fun _ => 0)))] := hD
  refine lv_aload_n hx hb dX1_init_13 rfl (lv_at hl 0 rfl) ?_
  refine lv_bipush (v := 30) hx hb dX1_init_14 (by decide +kernel) ?_
  refine xn_newa (D := D) (a0 := (30, .inl (fun _ => 0))) (N' := 30) (k1 := 2) (n1 := 302) (cA := cI) hx hb (ty := .int) rfl hts kw188 hG hP hD hS hA 1 rfl (fun _ h9 => h9) (fun _ => rfl) (by decide) (by decide +kernel) (by decide) (Nat.le_of_ble_eq_true rfl) (Nat.le_of_ble_eq_true rfl) (Nat.le_of_ble_eq_true rfl) (Nat.le_of_ble_eq_true rfl) dX1_init_16 (fun q_2 H hP hD hS => ?_)
  have hP : va_P D vwCl [(h0, .inr (1, [.ref q_1, .null, .int 0, .int 0, .int 0])), (q_1, .inl (cI, 272, .inl (fun _ => 0))), (q_2, .inl (cI, 30, .inl (fun _ => 0)))] H := hP
  have hD : va_D A [(h0, .inr (1, [.ref q_1, .null, .int 0, .int 0, .int 0])), (q_1, .inl (cI, 272, .inl (fun _ => 0))), (q_2, .inl (cI, 30, .inl (fun _ => 0)))] := hD
  refine va_putF (D := D) (ci := 1) (v := .ref q_2) (ty := .array .int) (C := RX1) (T := TX1) (N := 5) hx hb hts inX1 tyX1 tyX1_ok nmX1 hown hG.1 hP hD hS 0 rfl rfl 1 (by decide) (hts _ kw169) (fun _ h9 => h9) rfl hnm rfl (by decide +kernel) rfl rfl (Nat.le_of_ble_eq_true rfl) dX1_init_18 (fun H locs hP hD hS => ?_)
  have hP : va_P D vwCl [(h0, .inr (1, [.ref q_1, .ref q_2, .int 0, .int 0, .int 0])), (q_1, .inl (cI, 272, .inl (fun _ => 0))), (q_2, .inl (cI, 30, .inl (fun _ => 0)))] H := hP
  have hD : va_D A [(h0, .inr (1, [.ref q_1, .ref q_2, .int 0, .int 0, .int 0])), (q_1, .inl (cI, 272, .inl (fun _ => 0))), (q_2, .inl (cI, 30, .inl (fun _ => 0)))] := hD
  have hP9 := hP.sub (ws' := [(h0, .inr (1, [.ref q_1, .ref q_2, .int 0, .int 0, .int 0])), (q_1, .inl (cI, 272, .inl (fun _ => 0))), (q_2, .inl (cI, 30, .inl (fun _ => 0)))]) [0, 1, 2] rfl
  have hD9 := hD.sub (ws' := [(h0, .inr (1, [.ref q_1, .ref q_2, .int 0, .int 0, .int 0])), (q_1, .inl (cI, 272, .inl (fun _ => 0))), (q_2, .inl (cI, 30, .inl (fun _ => 0)))]) [0, 1, 2] (by decide) rfl
  exact xr_v (rm := (rmL 1 2 302)) hx hb hr hlocks hAe hS hP9 hD9 (Nat.le_of_ble_eq_true rfl) (Nat.le_of_ble_eq_true rfl) dX1_init_21 ⟨q_1, q_2, rfl, rfl⟩
theorem dX2_init_0 : decode cX2_init 0 = .ok (.aload_n 0, 1) := by decide +kernel
theorem kw467 : (.methodLink RX2 1 objectInit : Cond) ∈ gT := gT_of 467 (by decide +kernel) (by decide +kernel)
theorem dX2_init_1 : decode cX2_init 1 = .ok (.invokespecial 1, 3) := by decide +kernel
theorem dX2_init_4 : decode cX2_init 4 = .ok (.aload_n 0, 1) := by decide +kernel
theorem dX2_init_5 : decode cX2_init 5 = .ok (.sipush 1107, 3) := by decide +kernel
theorem dX2_init_8 : decode cX2_init 8 = .ok (.newarray .int, 2) := by decide +kernel
theorem kw468 : (.fieldLink RX2 11 "SpiceSwaps$History" "rows" "[I" : Cond) ∈ gT := gT_of 468 (by decide +kernel) (by decide +kernel)
theorem dX2_init_10 : decode cX2_init 10 = .ok (.putfield 11, 3) := by decide +kernel
theorem dX2_init_13 : decode cX2_init 13 = .ok (.return_, 1) := by decide +kernel
set_option maxHeartbeats 4000000 in
set_option maxRecDepth 100000 in
theorem cX2_init_1 (l : Launch) (D : va_G) (cB cI cJ cZ : ClassId) (aK aV : Nat → Nat) (h0 : Nat) : MX l yX2_init cX2_init 1 none (rmL 1 1 1107) D cB cI cJ cZ aK aV [.ref h0] [(h0, .inr (2, [.null, .int 0, .int 0, .int 0]))] (fun r w1 => ∃ q_1 : Nat, r = none ∧ w1 = [(h0, .inr (2, [.ref q_1, .int 0, .int 0, .int 0])), (q_1, .inl (cI, 1107, .inl (fun _ => 0)))]) := by
  refine MX.intro (by decide) (Nat.le_of_ble_eq_true rfl) ?_
  intro p e s m below meth c A ls hx hb hr hml hown hlocks hnm hts hG hE hA hS hP hD hl hAe
  have hl : lv_has ls 1 [(0, .ref h0)] := hl
  have hown : s.vm.findClass RX2 = some m.cls := hown
  refine lv_aload_n hx hb dX2_init_0 rfl (lv_at hl 0 rfl) ?_
  refine W.objInit hx hb hown (hts _ kw467) (hts _ kw137) (hts _ kw138) rfl (by rw [hml]; exact hl.1) rfl dX2_init_1 (Nat.le_of_ble_eq_true rfl) (Nat.le_of_ble_eq_true rfl) ?_
  refine W.eq (g2 := F0 m 4 ls []) rfl ?_
  refine lv_aload_n hx hb dX2_init_4 rfl (lv_at hl 0 rfl) ?_
  refine lv_sipush (v := 1107) hx hb dX2_init_5 (by decide +kernel) ?_
  refine xn_newa (D := D) (a0 := (1107, .inl (fun _ => 0))) (N' := 1107) (k1 := 1) (n1 := 1107) (cA := cI) hx hb (ty := .int) rfl hts kw188 hG hP hD hS hA 1 rfl (fun _ h9 => h9) (fun _ => rfl) (by decide) (by decide +kernel) (by decide) (Nat.le_of_ble_eq_true rfl) (Nat.le_of_ble_eq_true rfl) (Nat.le_of_ble_eq_true rfl) (Nat.le_of_ble_eq_true rfl) dX2_init_8 (fun q_1 H hP hD hS => ?_)
  have hP : va_P D vwCl [(h0, .inr (2, [.null, .int 0, .int 0, .int 0])), (q_1, .inl (cI, 1107, .inl (fun _ => 0)))] H := hP
  have hD : va_D A [(h0, .inr (2, [.null, .int 0, .int 0, .int 0])), (q_1, .inl (cI, 1107, .inl (fun _ => 0)))] := hD
  refine va_putF (D := D) (ci := 2) (v := .ref q_1) (ty := .array .int) (C := RX2) (T := TX2) (N := 4) hx hb hts inX2 tyX2 tyX2_ok nmX2 hown hG.1 hP hD hS 0 rfl rfl 0 (by decide) (hts _ kw468) (fun _ h9 => h9) rfl hnm rfl (by decide +kernel) rfl rfl (Nat.le_of_ble_eq_true rfl) dX2_init_10 (fun H locs hP hD hS => ?_)
  have hP : va_P D vwCl [(h0, .inr (2, [.ref q_1, .int 0, .int 0, .int 0])), (q_1, .inl (cI, 1107, .inl (fun _ => 0)))] H := hP
  have hD : va_D A [(h0, .inr (2, [.ref q_1, .int 0, .int 0, .int 0])), (q_1, .inl (cI, 1107, .inl (fun _ => 0)))] := hD
  have hP9 := hP.sub (ws' := [(h0, .inr (2, [.ref q_1, .int 0, .int 0, .int 0])), (q_1, .inl (cI, 1107, .inl (fun _ => 0)))]) [0, 1] rfl
  have hD9 := hD.sub (ws' := [(h0, .inr (2, [.ref q_1, .int 0, .int 0, .int 0])), (q_1, .inl (cI, 1107, .inl (fun _ => 0)))]) [0, 1] (by decide) rfl
  exact xr_v (rm := (rmL 1 1 1107)) hx hb hr hlocks hAe hS hP9 hD9 (Nat.le_of_ble_eq_true rfl) (Nat.le_of_ble_eq_true rfl) dX2_init_13 ⟨q_1, rfl, rfl⟩
theorem dX0_init_0 : decode cX0_init 0 = .ok (.aload_n 0, 1) := by decide +kernel
theorem kw488 : (.methodLink RX0 3 objectInit : Cond) ∈ gT := gT_of 488 (by decide +kernel) (by decide +kernel)
theorem dX0_init_1 : decode cX0_init 1 = .ok (.invokespecial 3, 3) := by decide +kernel
theorem dX0_init_4 : decode cX0_init 4 = .ok (.aload_n 0, 1) := by decide +kernel
theorem dX0_init_5 : decode cX0_init 5 = .ok (.bipush 28, 2) := by decide +kernel
theorem dX0_init_7 : decode cX0_init 7 = .ok (.newarray .int, 2) := by decide +kernel
theorem kw491 : (.fieldLink RX0 9 "SpiceSwaps$Bargains" "worths" "[I" : Cond) ∈ gT := gT_of 491 (by decide +kernel) (by decide +kernel)
theorem dX0_init_9 : decode cX0_init 9 = .ok (.putfield 9, 3) := by decide +kernel
theorem dX0_init_12 : decode cX0_init 12 = .ok (.aload_n 0, 1) := by decide +kernel
theorem dX0_init_13 : decode cX0_init 13 = .ok (.bipush 7, 2) := by decide +kernel
theorem dX0_init_15 : decode cX0_init 15 = .ok (.newarray .int, 2) := by decide +kernel
theorem kw492 : (.fieldLink RX0 15 "SpiceSwaps$Bargains" "holders" "[I" : Cond) ∈ gT := gT_of 492 (by decide +kernel) (by decide +kernel)
theorem dX0_init_17 : decode cX0_init 17 = .ok (.putfield 15, 3) := by decide +kernel
theorem dX0_init_20 : decode cX0_init 20 = .ok (.aload_n 0, 1) := by decide +kernel
theorem dX0_init_21 : decode cX0_init 21 = .ok (.iconst 4, 1) := by decide +kernel
theorem dX0_init_22 : decode cX0_init 22 = .ok (.newarray .int, 2) := by decide +kernel
theorem kw500 : (.fieldLink RX0 18 "SpiceSwaps$Bargains" "gifts" "[I" : Cond) ∈ gT := gT_of 500 (by decide +kernel) (by decide +kernel)
theorem dX0_init_24 : decode cX0_init 24 = .ok (.putfield 18, 3) := by decide +kernel
theorem dX0_init_27 : decode cX0_init 27 = .ok (.aload_n 0, 1) := by decide +kernel
theorem dX0_init_28 : decode cX0_init 28 = .ok (.iconst 4, 1) := by decide +kernel
theorem dX0_init_29 : decode cX0_init 29 = .ok (.newarray .int, 2) := by decide +kernel
theorem kw501 : (.fieldLink RX0 21 "SpiceSwaps$Bargains" "ringGifts" "[I" : Cond) ∈ gT := gT_of 501 (by decide +kernel) (by decide +kernel)
theorem dX0_init_31 : decode cX0_init 31 = .ok (.putfield 21, 3) := by decide +kernel
theorem dX0_init_34 : decode cX0_init 34 = .ok (.return_, 1) := by decide +kernel
set_option maxHeartbeats 4000000 in
set_option maxRecDepth 100000 in
theorem cX0_init_1 (l : Launch) (D : va_G) (cB cI cJ cZ : ClassId) (aK aV : Nat → Nat) (h0 : Nat) : MX l yX0_init cX0_init 1 none (rmL 1 4 43) D cB cI cJ cZ aK aV [.ref h0] [(h0, .inr (0, [.int 0, .int 0, .null, .null, .int 0, .int 0, .int 0, .null, .null, .int 0, .int 0, .int 0, .int 0, .int 0]))] (fun r w1 => ∃ q_1 : Nat, ∃ q_2 : Nat, ∃ q_3 : Nat, ∃ q_4 : Nat, r = none ∧ w1 = [(h0, .inr (0, [.int 0, .int 0, .ref q_1, .ref q_2, .int 0, .int 0, .int 0, .ref q_3, .ref q_4, .int 0, .int 0, .int 0, .int 0, .int 0])), (q_1, .inl (cI, 28, .inl (fun _ => 0))), (q_2, .inl (cI, 7, .inl (fun _ => 0))), (q_3, .inl (cI, 4, .inl (fun _ => 0))), (q_4, .inl (cI, 4, .inl (fun _ => 0)))]) := by
  refine MX.intro (by decide) (Nat.le_of_ble_eq_true rfl) ?_
  intro p e s m below meth c A ls hx hb hr hml hown hlocks hnm hts hG hE hA hS hP hD hl hAe
  have hl : lv_has ls 1 [(0, .ref h0)] := hl
  have hown : s.vm.findClass RX0 = some m.cls := hown
  refine lv_aload_n hx hb dX0_init_0 rfl (lv_at hl 0 rfl) ?_
  refine W.objInit hx hb hown (hts _ kw488) (hts _ kw137) (hts _ kw138) rfl (by rw [hml]; exact hl.1) rfl dX0_init_1 (Nat.le_of_ble_eq_true rfl) (Nat.le_of_ble_eq_true rfl) ?_
  refine W.eq (g2 := F0 m 4 ls []) rfl ?_
  refine lv_aload_n hx hb dX0_init_4 rfl (lv_at hl 0 rfl) ?_
  refine lv_bipush (v := 28) hx hb dX0_init_5 (by decide +kernel) ?_
  refine xn_newa (D := D) (a0 := (28, .inl (fun _ => 0))) (N' := 28) (k1 := 1) (n1 := 28) (cA := cI) hx hb (ty := .int) rfl hts kw188 hG hP hD hS hA 1 rfl (fun _ h9 => h9) (fun _ => rfl) (by decide) (by decide +kernel) (by decide) (Nat.le_of_ble_eq_true rfl) (Nat.le_of_ble_eq_true rfl) (Nat.le_of_ble_eq_true rfl) (Nat.le_of_ble_eq_true rfl) dX0_init_7 (fun q_1 H hP hD hS => ?_)
  have hP : va_P D vwCl [(h0, .inr (0, [.int 0, .int 0, .null, .null, .int 0, .int 0, .int 0, .null, .null, .int 0, .int 0, .int 0, .int 0, .int 0])), (q_1, .inl (cI, 28, .inl (fun _ => 0)))] H := hP
  have hD : va_D A [(h0, .inr (0, [.int 0, .int 0, .null, .null, .int 0, .int 0, .int 0, .null, .null, .int 0, .int 0, .int 0, .int 0, .int 0])), (q_1, .inl (cI, 28, .inl (fun _ => 0)))] := hD
  refine va_putF (D := D) (ci := 0) (v := .ref q_1) (ty := .array .int) (C := RX0) (T := TX0) (N := 14) hx hb hts inX0 tyX0 tyX0_ok nmX0 hown hG.1 hP hD hS 0 rfl rfl 2 (by decide) (hts _ kw491) (fun _ h9 => h9) rfl hnm rfl (by decide +kernel) rfl rfl (Nat.le_of_ble_eq_true rfl) dX0_init_9 (fun H locs hP hD hS => ?_)
  have hP : va_P D vwCl [(h0, .inr (0, [.int 0, .int 0, .ref q_1, .null, .int 0, .int 0, .int 0, .null, .null, .int 0, .int 0, .int 0, .int 0, .int 0])), (q_1, .inl (cI, 28, .inl (fun _ => 0)))] H := hP
  have hD : va_D A [(h0, .inr (0, [.int 0, .int 0, .ref q_1, .null, .int 0, .int 0, .int 0, .null, .null, .int 0, .int 0, .int 0, .int 0, .int 0])), (q_1, .inl (cI, 28, .inl (fun _ => 0)))] := hD
  refine lv_aload_n hx hb dX0_init_12 rfl (lv_at hl 0 rfl) ?_
  refine lv_bipush (v := 7) hx hb dX0_init_13 (by decide +kernel) ?_
  refine xn_newa (D := D) (a0 := (7, .inl (fun _ => 0))) (N' := 7) (k1 := 2) (n1 := 35) (cA := cI) hx hb (ty := .int) rfl hts kw188 hG hP hD hS hA 1 rfl (fun _ h9 => h9) (fun _ => rfl) (by decide) (by decide +kernel) (by decide) (Nat.le_of_ble_eq_true rfl) (Nat.le_of_ble_eq_true rfl) (Nat.le_of_ble_eq_true rfl) (Nat.le_of_ble_eq_true rfl) dX0_init_15 (fun q_2 H hP hD hS => ?_)
  have hP : va_P D vwCl [(h0, .inr (0, [.int 0, .int 0, .ref q_1, .null, .int 0, .int 0, .int 0, .null, .null, .int 0, .int 0, .int 0, .int 0, .int 0])), (q_1, .inl (cI, 28, .inl (fun _ => 0))), (q_2, .inl (cI, 7, .inl (fun _ => 0)))] H := hP
  have hD : va_D A [(h0, .inr (0, [.int 0, .int 0, .ref q_1, .null, .int 0, .int 0, .int 0, .null, .null, .int 0, .int 0, .int 0, .int 0, .int 0])), (q_1, .inl (cI, 28, .inl (fun _ => 0))), (q_2, .inl (cI, 7, .inl (fun _ => 0)))] := hD
  refine va_putF (D := D) (ci := 0) (v := .ref q_2) (ty := .array .int) (C := RX0) (T := TX0) (N := 14) hx hb hts inX0 tyX0 tyX0_ok nmX0 hown hG.1 hP hD hS 0 rfl rfl 3 (by decide) (hts _ kw492) (fun _ h9 => h9) rfl hnm rfl (by decide +kernel) rfl rfl (Nat.le_of_ble_eq_true rfl) dX0_init_17 (fun H locs hP hD hS => ?_)
  have hP : va_P D vwCl [(h0, .inr (0, [.int 0, .int 0, .ref q_1, .ref q_2, .int 0, .int 0, .int 0, .null, .null, .int 0, .int 0, .int 0, .int 0, .int 0])), (q_1, .inl (cI, 28, .inl (fun _ => 0))), (q_2, .inl (cI, 7, .inl (fun _ => 0)))] H := hP
  have hD : va_D A [(h0, .inr (0, [.int 0, .int 0, .ref q_1, .ref q_2, .int 0, .int 0, .int 0, .null, .null, .int 0, .int 0, .int 0, .int 0, .int 0])), (q_1, .inl (cI, 28, .inl (fun _ => 0))), (q_2, .inl (cI, 7, .inl (fun _ => 0)))] := hD
  refine lv_aload_n hx hb dX0_init_20 rfl (lv_at hl 0 rfl) ?_
  refine lv_iconst (v := 4) hx hb dX0_init_21 (by decide +kernel) ?_
  refine xn_newa (D := D) (a0 := (4, .inl (fun _ => 0))) (N' := 4) (k1 := 3) (n1 := 39) (cA := cI) hx hb (ty := .int) rfl hts kw188 hG hP hD hS hA 1 rfl (fun _ h9 => h9) (fun _ => rfl) (by decide) (by decide +kernel) (by decide) (Nat.le_of_ble_eq_true rfl) (Nat.le_of_ble_eq_true rfl) (Nat.le_of_ble_eq_true rfl) (Nat.le_of_ble_eq_true rfl) dX0_init_22 (fun q_3 H hP hD hS => ?_)
  have hP : va_P D vwCl [(h0, .inr (0, [.int 0, .int 0, .ref q_1, .ref q_2, .int 0, .int 0, .int 0, .null, .null, .int 0, .int 0, .int 0, .int 0, .int 0])), (q_1, .inl (cI, 28, .inl (fun _ => 0))), (q_2, .inl (cI, 7, .inl (fun _ => 0))), (q_3, .inl (cI, 4, .inl (fun _ => 0)))] H := hP
  have hD : va_D A [(h0, .inr (0, [.int 0, .int 0, .ref q_1, .ref q_2, .int 0, .int 0, .int 0, .null, .null, .int 0, .int 0, .int 0, .int 0, .int 0])), (q_1, .inl (cI, 28, .inl (fun _ => 0))), (q_2, .inl (cI, 7, .inl (fun _ => 0))), (q_3, .inl (cI, 4, .inl (fun _ => 0)))] := hD
  refine va_putF (D := D) (ci := 0) (v := .ref q_3) (ty := .array .int) (C := RX0) (T := TX0) (N := 14) hx hb hts inX0 tyX0 tyX0_ok nmX0 hown hG.1 hP hD hS 0 rfl rfl 7 (by decide) (hts _ kw500) (fun _ h9 => h9) rfl hnm rfl (by decide +kernel) rfl rfl (Nat.le_of_ble_eq_true rfl) dX0_init_24 (fun H locs hP hD hS => ?_)
  have hP : va_P D vwCl [(h0, .inr (0, [.int 0, .int 0, .ref q_1, .ref q_2, .int 0, .int 0, .int 0, .ref q_3, .null, .int 0, .int 0, .int 0, .int 0, .int 0])), (q_1, .inl (cI, 28, .inl (fun _ => 0))), (q_2, .inl (cI, 7, .inl (fun _ => 0))), (q_3, .inl (cI, 4, .inl (fun _ => 0)))] H := hP
  have hD : va_D A [(h0, .inr (0, [.int 0, .int 0, .ref q_1, .ref q_2, .int 0, .int 0, .int 0, .ref q_3, .null, .int 0, .int 0, .int 0, .int 0, .int 0])), (q_1, .inl (cI, 28, .inl (fun _ => 0))), (q_2, .inl (cI, 7, .inl (fun _ => 0))), (q_3, .inl (cI, 4, .inl (fun _ => 0)))] := hD
  refine lv_aload_n hx hb dX0_init_27 rfl (lv_at hl 0 rfl) ?_
  refine lv_iconst (v := 4) hx hb dX0_init_28 (by decide +kernel) ?_
  refine xn_newa (D := D) (a0 := (4, .inl (fun _ => 0))) (N' := 4) (k1 := 4) (n1 := 43) (cA := cI) hx hb (ty := .int) rfl hts kw188 hG hP hD hS hA 1 rfl (fun _ h9 => h9) (fun _ => rfl) (by decide) (by decide +kernel) (by decide) (Nat.le_of_ble_eq_true rfl) (Nat.le_of_ble_eq_true rfl) (Nat.le_of_ble_eq_true rfl) (Nat.le_of_ble_eq_true rfl) dX0_init_29 (fun q_4 H hP hD hS => ?_)
  have hP : va_P D vwCl [(h0, .inr (0, [.int 0, .int 0, .ref q_1, .ref q_2, .int 0, .int 0, .int 0, .ref q_3, .null, .int 0, .int 0, .int 0, .int 0, .int 0])), (q_1, .inl (cI, 28, .inl (fun _ => 0))), (q_2, .inl (cI, 7, .inl (fun _ => 0))), (q_3, .inl (cI, 4, .inl (fun _ => 0))), (q_4, .inl (cI, 4, .inl (fun _ => 0)))] H := hP
  have hD : va_D A [(h0, .inr (0, [.int 0, .int 0, .ref q_1, .ref q_2, .int 0, .int 0, .int 0, .ref q_3, .null, .int 0, .int 0, .int 0, .int 0, .int 0])), (q_1, .inl (cI, 28, .inl (fun _ => 0))), (q_2, .inl (cI, 7, .inl (fun _ => 0))), (q_3, .inl (cI, 4, .inl (fun _ => 0))), (q_4, .inl (cI, 4, .inl (fun _ => 0)))] := hD
  refine va_putF (D := D) (ci := 0) (v := .ref q_4) (ty := .array .int) (C := RX0) (T := TX0) (N := 14) hx hb hts inX0 tyX0 tyX0_ok nmX0 hown hG.1 hP hD hS 0 rfl rfl 8 (by decide) (hts _ kw501) (fun _ h9 => h9) rfl hnm rfl (by decide +kernel) rfl rfl (Nat.le_of_ble_eq_true rfl) dX0_init_31 (fun H locs hP hD hS => ?_)
  have hP : va_P D vwCl [(h0, .inr (0, [.int 0, .int 0, .ref q_1, .ref q_2, .int 0, .int 0, .int 0, .ref q_3, .ref q_4, .int 0, .int 0, .int 0, .int 0, .int 0])), (q_1, .inl (cI, 28, .inl (fun _ => 0))), (q_2, .inl (cI, 7, .inl (fun _ => 0))), (q_3, .inl (cI, 4, .inl (fun _ => 0))), (q_4, .inl (cI, 4, .inl (fun _ => 0)))] H := hP
  have hD : va_D A [(h0, .inr (0, [.int 0, .int 0, .ref q_1, .ref q_2, .int 0, .int 0, .int 0, .ref q_3, .ref q_4, .int 0, .int 0, .int 0, .int 0, .int 0])), (q_1, .inl (cI, 28, .inl (fun _ => 0))), (q_2, .inl (cI, 7, .inl (fun _ => 0))), (q_3, .inl (cI, 4, .inl (fun _ => 0))), (q_4, .inl (cI, 4, .inl (fun _ => 0)))] := hD
  have hP9 := hP.sub (ws' := [(h0, .inr (0, [.int 0, .int 0, .ref q_1, .ref q_2, .int 0, .int 0, .int 0, .ref q_3, .ref q_4, .int 0, .int 0, .int 0, .int 0, .int 0])), (q_1, .inl (cI, 28, .inl (fun _ => 0))), (q_2, .inl (cI, 7, .inl (fun _ => 0))), (q_3, .inl (cI, 4, .inl (fun _ => 0))), (q_4, .inl (cI, 4, .inl (fun _ => 0)))]) [0, 1, 2, 3, 4] rfl
  have hD9 := hD.sub (ws' := [(h0, .inr (0, [.int 0, .int 0, .ref q_1, .ref q_2, .int 0, .int 0, .int 0, .ref q_3, .ref q_4, .int 0, .int 0, .int 0, .int 0, .int 0])), (q_1, .inl (cI, 28, .inl (fun _ => 0))), (q_2, .inl (cI, 7, .inl (fun _ => 0))), (q_3, .inl (cI, 4, .inl (fun _ => 0))), (q_4, .inl (cI, 4, .inl (fun _ => 0)))]) [0, 1, 2, 3, 4] (by decide) rfl
  exact xr_v (rm := (rmL 1 4 43)) hx hb hr hlocks hAe hS hP9 hD9 (Nat.le_of_ble_eq_true rfl) (Nat.le_of_ble_eq_true rfl) dX0_init_34 ⟨q_1, q_2, q_3, q_4, rfl, rfl⟩
theorem dX6_init_0 : decode cX6_init 0 = .ok (.aload_n 0, 1) := by decide +kernel
theorem kw545 : (.methodLink RX6 3 objectInit : Cond) ∈ gT := gT_of 545 (by decide +kernel) (by decide +kernel)
theorem dX6_init_1 : decode cX6_init 1 = .ok (.invokespecial 3, 3) := by decide +kernel
theorem dX6_init_4 : decode cX6_init 4 = .ok (.aload_n 0, 1) := by decide +kernel
theorem dX6_init_5 : decode cX6_init 5 = .ok (.bipush 30, 2) := by decide +kernel
theorem dX6_init_7 : decode cX6_init 7 = .ok (.newarray .int, 2) := by decide +kernel
theorem kw546 : (.fieldLink RX6 11 "SpiceSwaps$Secrets" "sorts" "[I" : Cond) ∈ gT := gT_of 546 (by decide +kernel) (by decide +kernel)
theorem dX6_init_9 : decode cX6_init 9 = .ok (.putfield 11, 3) := by decide +kernel
theorem dX6_init_12 : decode cX6_init 12 = .ok (.aload_n 0, 1) := by decide +kernel
theorem dX6_init_13 : decode cX6_init 13 = .ok (.bipush 30, 2) := by decide +kernel
theorem dX6_init_15 : decode cX6_init 15 = .ok (.newarray .int, 2) := by decide +kernel
theorem kw547 : (.fieldLink RX6 15 "SpiceSwaps$Secrets" "values" "[I" : Cond) ∈ gT := gT_of 547 (by decide +kernel) (by decide +kernel)
theorem dX6_init_17 : decode cX6_init 17 = .ok (.putfield 15, 3) := by decide +kernel
theorem dX6_init_20 : decode cX6_init 20 = .ok (.aload_n 0, 1) := by decide +kernel
theorem dX6_init_21 : decode cX6_init 21 = .ok (.bipush 30, 2) := by decide +kernel
theorem kw566 : (.arrayClass .boolean : Cond) ∈ gT := gT_of 566 (by decide +kernel) (by decide +kernel)
theorem dX6_init_23 : decode cX6_init 23 = .ok (.newarray .boolean, 2) := by decide +kernel
theorem kw548 : (.fieldLink RX6 18 "SpiceSwaps$Secrets" "truths" "[Z" : Cond) ∈ gT := gT_of 548 (by decide +kernel) (by decide +kernel)
theorem dX6_init_25 : decode cX6_init 25 = .ok (.putfield 18, 3) := by decide +kernel
theorem dX6_init_28 : decode cX6_init 28 = .ok (.aload_n 0, 1) := by decide +kernel
theorem dX6_init_29 : decode cX6_init 29 = .ok (.bipush 30, 2) := by decide +kernel
theorem dX6_init_31 : decode cX6_init 31 = .ok (.newarray .int, 2) := by decide +kernel
theorem kw549 : (.fieldLink RX6 22 "SpiceSwaps$Secrets" "toldAt" "[I" : Cond) ∈ gT := gT_of 549 (by decide +kernel) (by decide +kernel)
theorem dX6_init_33 : decode cX6_init 33 = .ok (.putfield 22, 3) := by decide +kernel
theorem dX6_init_36 : decode cX6_init 36 = .ok (.aload_n 0, 1) := by decide +kernel
theorem dX6_init_37 : decode cX6_init 37 = .ok (.bipush 30, 2) := by decide +kernel
theorem dX6_init_39 : decode cX6_init 39 = .ok (.newarray .int, 2) := by decide +kernel
theorem kw550 : (.fieldLink RX6 25 "SpiceSwaps$Secrets" "untoldAt" "[I" : Cond) ∈ gT := gT_of 550 (by decide +kernel) (by decide +kernel)
theorem dX6_init_41 : decode cX6_init 41 = .ok (.putfield 25, 3) := by decide +kernel
theorem dX6_init_44 : decode cX6_init 44 = .ok (.return_, 1) := by decide +kernel
set_option maxHeartbeats 4000000 in
set_option maxRecDepth 100000 in
theorem cX6_init_1 (l : Launch) (D : va_G) (cB cI cJ cZ : ClassId) (aK aV : Nat → Nat) (h0 : Nat) : MX l yX6_init cX6_init 1 none (rmL 1 5 150) D cB cI cJ cZ aK aV [.ref h0] [(h0, .inr (6, [.null, .null, .null, .null, .null, .int 0]))] (fun r w1 => ∃ q_1 : Nat, ∃ q_2 : Nat, ∃ q_3 : Nat, ∃ q_4 : Nat, ∃ q_5 : Nat, r = none ∧ w1 = [(h0, .inr (6, [.ref q_1, .ref q_2, .ref q_3, .ref q_4, .ref q_5, .int 0])), (q_1, .inl (cI, 30, .inl (fun _ => 0))), (q_2, .inl (cI, 30, .inl (fun _ => 0))), (q_3, .inl (cZ, 30, .inl (fun _ => 0))), (q_4, .inl (cI, 30, .inl (fun _ => 0))), (q_5, .inl (cI, 30, .inl (fun _ => 0)))]) := by
  refine MX.intro (by decide) (Nat.le_of_ble_eq_true rfl) ?_
  intro p e s m below meth c A ls hx hb hr hml hown hlocks hnm hts hG hE hA hS hP hD hl hAe
  have hl : lv_has ls 1 [(0, .ref h0)] := hl
  have hown : s.vm.findClass RX6 = some m.cls := hown
  refine lv_aload_n hx hb dX6_init_0 rfl (lv_at hl 0 rfl) ?_
  refine W.objInit hx hb hown (hts _ kw545) (hts _ kw137) (hts _ kw138) rfl (by rw [hml]; exact hl.1) rfl dX6_init_1 (Nat.le_of_ble_eq_true rfl) (Nat.le_of_ble_eq_true rfl) ?_
  refine W.eq (g2 := F0 m 4 ls []) rfl ?_
  refine lv_aload_n hx hb dX6_init_4 rfl (lv_at hl 0 rfl) ?_
  refine lv_bipush (v := 30) hx hb dX6_init_5 (by decide +kernel) ?_
  refine xn_newa (D := D) (a0 := (30, .inl (fun _ => 0))) (N' := 30) (k1 := 1) (n1 := 30) (cA := cI) hx hb (ty := .int) rfl hts kw188 hG hP hD hS hA 1 rfl (fun _ h9 => h9) (fun _ => rfl) (by decide) (by decide +kernel) (by decide) (Nat.le_of_ble_eq_true rfl) (Nat.le_of_ble_eq_true rfl) (Nat.le_of_ble_eq_true rfl) (Nat.le_of_ble_eq_true rfl) dX6_init_7 (fun q_1 H hP hD hS => ?_)
  have hP : va_P D vwCl [(h0, .inr (6, [.null, .null, .null, .null, .null, .int 0])), (q_1, .inl (cI, 30, .inl (fun _ => 0)))] H := hP
  have hD : va_D A [(h0, .inr (6, [.null, .null, .null, .null, .null, .int 0])), (q_1, .inl (cI, 30, .inl (fun _ => 0)))] := hD
  refine va_putF (D := D) (ci := 6) (v := .ref q_1) (ty := .array .int) (C := RX6) (T := TX6) (N := 6) hx hb hts inX6 tyX6 tyX6_ok nmX6 hown hG.1 hP hD hS 0 rfl rfl 0 (by decide) (hts _ kw546) (fun _ h9 => h9) rfl hnm rfl (by decide +kernel) rfl rfl (Nat.le_of_ble_eq_true rfl) dX6_init_9 (fun H locs hP hD hS => ?_)
  have hP : va_P D vwCl [(h0, .inr (6, [.ref q_1, .null, .null, .null, .null, .int 0])), (q_1, .inl (cI, 30, .inl (fun _ => 0)))] H := hP
  have hD : va_D A [(h0, .inr (6, [.ref q_1, .null, .null, .null, .null, .int 0])), (q_1, .inl (cI, 30, .inl (fun _ => 0)))] := hD
  refine lv_aload_n hx hb dX6_init_12 rfl (lv_at hl 0 rfl) ?_
  refine lv_bipush (v := 30) hx hb dX6_init_13 (by decide +kernel) ?_
  refine xn_newa (D := D) (a0 := (30, .inl (fun _ => 0))) (N' := 30) (k1 := 2) (n1 := 60) (cA := cI) hx hb (ty := .int) rfl hts kw188 hG hP hD hS hA 1 rfl (fun _ h9 => h9) (fun _ => rfl) (by decide) (by decide +kernel) (by decide) (Nat.le_of_ble_eq_true rfl) (Nat.le_of_ble_eq_true rfl) (Nat.le_of_ble_eq_true rfl) (Nat.le_of_ble_eq_true rfl) dX6_init_15 (fun q_2 H hP hD hS => ?_)
  have hP : va_P D vwCl [(h0, .inr (6, [.ref q_1, .null, .null, .null, .null, .int 0])), (q_1, .inl (cI, 30, .inl (fun _ => 0))), (q_2, .inl (cI, 30, .inl (fun _ => 0)))] H := hP
  have hD : va_D A [(h0, .inr (6, [.ref q_1, .null, .null, .null, .null, .int 0])), (q_1, .inl (cI, 30, .inl (fun _ => 0))), (q_2, .inl (cI, 30, .inl (fun _ => 0)))] := hD
  refine va_putF (D := D) (ci := 6) (v := .ref q_2) (ty := .array .int) (C := RX6) (T := TX6) (N := 6) hx hb hts inX6 tyX6 tyX6_ok nmX6 hown hG.1 hP hD hS 0 rfl rfl 1 (by decide) (hts _ kw547) (fun _ h9 => h9) rfl hnm rfl (by decide +kernel) rfl rfl (Nat.le_of_ble_eq_true rfl) dX6_init_17 (fun H locs hP hD hS => ?_)
  have hP : va_P D vwCl [(h0, .inr (6, [.ref q_1, .ref q_2, .null, .null, .null, .int 0])), (q_1, .inl (cI, 30, .inl (fun _ => 0))), (q_2, .inl (cI, 30, .inl (fun _ => 0)))] H := hP
  have hD : va_D A [(h0, .inr (6, [.ref q_1, .ref q_2, .null, .null, .null, .int 0])), (q_1, .inl (cI, 30, .inl (fun _ => 0))), (q_2, .inl (cI, 30, .inl (fun _ => 0)))] := hD
  refine lv_aload_n hx hb dX6_init_20 rfl (lv_at hl 0 rfl) ?_
  refine lv_bipush (v := 30) hx hb dX6_init_21 (by decide +kernel) ?_
  refine xn_newa (D := D) (a0 := (30, .inl (fun _ => 0))) (N' := 30) (k1 := 3) (n1 := 90) (cA := cZ) hx hb (ty := .boolean) rfl hts kw566 hG hP hD hS hA 3 rfl (fun _ h9 => h9) (fun _ => rfl) (by decide) (by decide +kernel) (by decide) (Nat.le_of_ble_eq_true rfl) (Nat.le_of_ble_eq_true rfl) (Nat.le_of_ble_eq_true rfl) (Nat.le_of_ble_eq_true rfl) dX6_init_23 (fun q_3 H hP hD hS => ?_)
  have hP : va_P D vwCl [(h0, .inr (6, [.ref q_1, .ref q_2, .null, .null, .null, .int 0])), (q_1, .inl (cI, 30, .inl (fun _ => 0))), (q_2, .inl (cI, 30, .inl (fun _ => 0))), (q_3, .inl (cZ, 30, .inl (fun _ => 0)))] H := hP
  have hD : va_D A [(h0, .inr (6, [.ref q_1, .ref q_2, .null, .null, .null, .int 0])), (q_1, .inl (cI, 30, .inl (fun _ => 0))), (q_2, .inl (cI, 30, .inl (fun _ => 0))), (q_3, .inl (cZ, 30, .inl (fun _ => 0)))] := hD
  refine va_putF (D := D) (ci := 6) (v := .ref q_3) (ty := .array .boolean) (C := RX6) (T := TX6) (N := 6) hx hb hts inX6 tyX6 tyX6_ok nmX6 hown hG.1 hP hD hS 0 rfl rfl 2 (by decide) (hts _ kw548) (fun _ h9 => h9) rfl hnm rfl (by decide +kernel) rfl rfl (Nat.le_of_ble_eq_true rfl) dX6_init_25 (fun H locs hP hD hS => ?_)
  have hP : va_P D vwCl [(h0, .inr (6, [.ref q_1, .ref q_2, .ref q_3, .null, .null, .int 0])), (q_1, .inl (cI, 30, .inl (fun _ => 0))), (q_2, .inl (cI, 30, .inl (fun _ => 0))), (q_3, .inl (cZ, 30, .inl (fun _ => 0)))] H := hP
  have hD : va_D A [(h0, .inr (6, [.ref q_1, .ref q_2, .ref q_3, .null, .null, .int 0])), (q_1, .inl (cI, 30, .inl (fun _ => 0))), (q_2, .inl (cI, 30, .inl (fun _ => 0))), (q_3, .inl (cZ, 30, .inl (fun _ => 0)))] := hD
  refine lv_aload_n hx hb dX6_init_28 rfl (lv_at hl 0 rfl) ?_
  refine lv_bipush (v := 30) hx hb dX6_init_29 (by decide +kernel) ?_
  refine xn_newa (D := D) (a0 := (30, .inl (fun _ => 0))) (N' := 30) (k1 := 4) (n1 := 120) (cA := cI) hx hb (ty := .int) rfl hts kw188 hG hP hD hS hA 1 rfl (fun _ h9 => h9) (fun _ => rfl) (by decide) (by decide +kernel) (by decide) (Nat.le_of_ble_eq_true rfl) (Nat.le_of_ble_eq_true rfl) (Nat.le_of_ble_eq_true rfl) (Nat.le_of_ble_eq_true rfl) dX6_init_31 (fun q_4 H hP hD hS => ?_)
  have hP : va_P D vwCl [(h0, .inr (6, [.ref q_1, .ref q_2, .ref q_3, .null, .null, .int 0])), (q_1, .inl (cI, 30, .inl (fun _ => 0))), (q_2, .inl (cI, 30, .inl (fun _ => 0))), (q_3, .inl (cZ, 30, .inl (fun _ => 0))), (q_4, .inl (cI, 30, .inl (fun _ => 0)))] H := hP
  have hD : va_D A [(h0, .inr (6, [.ref q_1, .ref q_2, .ref q_3, .null, .null, .int 0])), (q_1, .inl (cI, 30, .inl (fun _ => 0))), (q_2, .inl (cI, 30, .inl (fun _ => 0))), (q_3, .inl (cZ, 30, .inl (fun _ => 0))), (q_4, .inl (cI, 30, .inl (fun _ => 0)))] := hD
  refine va_putF (D := D) (ci := 6) (v := .ref q_4) (ty := .array .int) (C := RX6) (T := TX6) (N := 6) hx hb hts inX6 tyX6 tyX6_ok nmX6 hown hG.1 hP hD hS 0 rfl rfl 3 (by decide) (hts _ kw549) (fun _ h9 => h9) rfl hnm rfl (by decide +kernel) rfl rfl (Nat.le_of_ble_eq_true rfl) dX6_init_33 (fun H locs hP hD hS => ?_)
  have hP : va_P D vwCl [(h0, .inr (6, [.ref q_1, .ref q_2, .ref q_3, .ref q_4, .null, .int 0])), (q_1, .inl (cI, 30, .inl (fun _ => 0))), (q_2, .inl (cI, 30, .inl (fun _ => 0))), (q_3, .inl (cZ, 30, .inl (fun _ => 0))), (q_4, .inl (cI, 30, .inl (fun _ => 0)))] H := hP
  have hD : va_D A [(h0, .inr (6, [.ref q_1, .ref q_2, .ref q_3, .ref q_4, .null, .int 0])), (q_1, .inl (cI, 30, .inl (fun _ => 0))), (q_2, .inl (cI, 30, .inl (fun _ => 0))), (q_3, .inl (cZ, 30, .inl (fun _ => 0))), (q_4, .inl (cI, 30, .inl (fun _ => 0)))] := hD
  refine lv_aload_n hx hb dX6_init_36 rfl (lv_at hl 0 rfl) ?_
  refine lv_bipush (v := 30) hx hb dX6_init_37 (by decide +kernel) ?_
  refine xn_newa (D := D) (a0 := (30, .inl (fun _ => 0))) (N' := 30) (k1 := 5) (n1 := 150) (cA := cI) hx hb (ty := .int) rfl hts kw188 hG hP hD hS hA 1 rfl (fun _ h9 => h9) (fun _ => rfl) (by decide) (by decide +kernel) (by decide) (Nat.le_of_ble_eq_true rfl) (Nat.le_of_ble_eq_true rfl) (Nat.le_of_ble_eq_true rfl) (Nat.le_of_ble_eq_true rfl) dX6_init_39 (fun q_5 H hP hD hS => ?_)
  have hP : va_P D vwCl [(h0, .inr (6, [.ref q_1, .ref q_2, .ref q_3, .ref q_4, .null, .int 0])), (q_1, .inl (cI, 30, .inl (fun _ => 0))), (q_2, .inl (cI, 30, .inl (fun _ => 0))), (q_3, .inl (cZ, 30, .inl (fun _ => 0))), (q_4, .inl (cI, 30, .inl (fun _ => 0))), (q_5, .inl (cI, 30, .inl (fun _ => 0)))] H := hP
  have hD : va_D A [(h0, .inr (6, [.ref q_1, .ref q_2, .ref q_3, .ref q_4, .null, .int 0])), (q_1, .inl (cI, 30, .inl (fun _ => 0))), (q_2, .inl (cI, 30, .inl (fun _ => 0))), (q_3, .inl (cZ, 30, .inl (fun _ => 0))), (q_4, .inl (cI, 30, .inl (fun _ => 0))), (q_5, .inl (cI, 30, .inl (fun _ => 0)))] := hD
  refine va_putF (D := D) (ci := 6) (v := .ref q_5) (ty := .array .int) (C := RX6) (T := TX6) (N := 6) hx hb hts inX6 tyX6 tyX6_ok nmX6 hown hG.1 hP hD hS 0 rfl rfl 4 (by decide) (hts _ kw550) (fun _ h9 => h9) rfl hnm rfl (by decide +kernel) rfl rfl (Nat.le_of_ble_eq_true rfl) dX6_init_41 (fun H locs hP hD hS => ?_)
  have hP : va_P D vwCl [(h0, .inr (6, [.ref q_1, .ref q_2, .ref q_3, .ref q_4, .ref q_5, .int 0])), (q_1, .inl (cI, 30, .inl (fun _ => 0))), (q_2, .inl (cI, 30, .inl (fun _ => 0))), (q_3, .inl (cZ, 30, .inl (fun _ => 0))), (q_4, .inl (cI, 30, .inl (fun _ => 0))), (q_5, .inl (cI, 30, .inl (fun _ => 0)))] H := hP
  have hD : va_D A [(h0, .inr (6, [.ref q_1, .ref q_2, .ref q_3, .ref q_4, .ref q_5, .int 0])), (q_1, .inl (cI, 30, .inl (fun _ => 0))), (q_2, .inl (cI, 30, .inl (fun _ => 0))), (q_3, .inl (cZ, 30, .inl (fun _ => 0))), (q_4, .inl (cI, 30, .inl (fun _ => 0))), (q_5, .inl (cI, 30, .inl (fun _ => 0)))] := hD
  have hP9 := hP.sub (ws' := [(h0, .inr (6, [.ref q_1, .ref q_2, .ref q_3, .ref q_4, .ref q_5, .int 0])), (q_1, .inl (cI, 30, .inl (fun _ => 0))), (q_2, .inl (cI, 30, .inl (fun _ => 0))), (q_3, .inl (cZ, 30, .inl (fun _ => 0))), (q_4, .inl (cI, 30, .inl (fun _ => 0))), (q_5, .inl (cI, 30, .inl (fun _ => 0)))]) [0, 1, 2, 3, 4, 5] rfl
  have hD9 := hD.sub (ws' := [(h0, .inr (6, [.ref q_1, .ref q_2, .ref q_3, .ref q_4, .ref q_5, .int 0])), (q_1, .inl (cI, 30, .inl (fun _ => 0))), (q_2, .inl (cI, 30, .inl (fun _ => 0))), (q_3, .inl (cZ, 30, .inl (fun _ => 0))), (q_4, .inl (cI, 30, .inl (fun _ => 0))), (q_5, .inl (cI, 30, .inl (fun _ => 0)))]) [0, 1, 2, 3, 4, 5] (by decide) rfl
  exact xr_v (rm := (rmL 1 5 150)) hx hb hr hlocks hAe hS hP9 hD9 (Nat.le_of_ble_eq_true rfl) (Nat.le_of_ble_eq_true rfl) dX6_init_44 ⟨q_1, q_2, q_3, q_4, q_5, rfl, rfl⟩
theorem dX8_init_0 : decode cX8_init 0 = .ok (.aload_n 0, 1) := by decide +kernel
theorem kw161 : (.methodLink RX8 3 objectInit : Cond) ∈ gT := gT_of 161 (by decide +kernel) (by decide +kernel)
theorem dX8_init_1 : decode cX8_init 1 = .ok (.invokespecial 3, 3) := by decide +kernel
theorem dX8_init_4 : decode cX8_init 4 = .ok (.aload_n 0, 1) := by decide +kernel
theorem dX8_init_5 : decode cX8_init 5 = .ok (.iconst 4, 1) := by decide +kernel
theorem dX8_init_6 : decode cX8_init 6 = .ok (.newarray .int, 2) := by decide +kernel
theorem kw212 : (.fieldLink RX8 9 "SpiceSwaps$Told" "goldOf" "[I" : Cond) ∈ gT := gT_of 212 (by decide +kernel) (by decide +kernel)
theorem dX8_init_8 : decode cX8_init 8 = .ok (.putfield 9, 3) := by decide +kernel
theorem dX8_init_11 : decode cX8_init 11 = .ok (.aload_n 0, 1) := by decide +kernel
theorem dX8_init_12 : decode cX8_init 12 = .ok (.iconst 3, 1) := by decide +kernel
theorem dX8_init_13 : decode cX8_init 13 = .ok (.newarray .int, 2) := by decide +kernel
theorem kw215 : (.fieldLink RX8 15 "SpiceSwaps$Told" "priceOf" "[I" : Cond) ∈ gT := gT_of 215 (by decide +kernel) (by decide +kernel)
theorem dX8_init_15 : decode cX8_init 15 = .ok (.putfield 15, 3) := by decide +kernel
theorem dX8_init_18 : decode cX8_init 18 = .ok (.aload_n 0, 1) := by decide +kernel
theorem dX8_init_19 : decode cX8_init 19 = .ok (.bipush 7, 2) := by decide +kernel
theorem dX8_init_21 : decode cX8_init 21 = .ok (.newarray .int, 2) := by decide +kernel
theorem kw219 : (.fieldLink RX8 18 "SpiceSwaps$Told" "holderOf" "[I" : Cond) ∈ gT := gT_of 219 (by decide +kernel) (by decide +kernel)
theorem dX8_init_23 : decode cX8_init 23 = .ok (.putfield 18, 3) := by decide +kernel
theorem dX8_init_26 : decode cX8_init 26 = .ok (.aload_n 0, 1) := by decide +kernel
theorem dX8_init_27 : decode cX8_init 27 = .ok (.bipush 7, 2) := by decide +kernel
theorem dX8_init_29 : decode cX8_init 29 = .ok (.newarray .int, 2) := by decide +kernel
theorem kw222 : (.fieldLink RX8 21 "SpiceSwaps$Told" "yieldOf" "[I" : Cond) ∈ gT := gT_of 222 (by decide +kernel) (by decide +kernel)
theorem dX8_init_31 : decode cX8_init 31 = .ok (.putfield 21, 3) := by decide +kernel
theorem dX8_init_34 : decode cX8_init 34 = .ok (.aload_n 0, 1) := by decide +kernel
theorem dX8_init_35 : decode cX8_init 35 = .ok (.bipush 7, 2) := by decide +kernel
theorem dX8_init_37 : decode cX8_init 37 = .ok (.newarray .int, 2) := by decide +kernel
theorem kw225 : (.fieldLink RX8 24 "SpiceSwaps$Told" "cropOf" "[I" : Cond) ∈ gT := gT_of 225 (by decide +kernel) (by decide +kernel)
theorem dX8_init_39 : decode cX8_init 39 = .ok (.putfield 24, 3) := by decide +kernel
theorem dX8_init_42 : decode cX8_init 42 = .ok (.aload_n 0, 1) := by decide +kernel
theorem dX8_init_43 : decode cX8_init 43 = .ok (.bipush 7, 2) := by decide +kernel
theorem dX8_init_45 : decode cX8_init 45 = .ok (.newarray .int, 2) := by decide +kernel
theorem kw228 : (.fieldLink RX8 27 "SpiceSwaps$Told" "harbourOf" "[I" : Cond) ∈ gT := gT_of 228 (by decide +kernel) (by decide +kernel)
theorem dX8_init_47 : decode cX8_init 47 = .ok (.putfield 27, 3) := by decide +kernel
theorem dX8_init_50 : decode cX8_init 50 = .ok (.aload_n 0, 1) := by decide +kernel
theorem dX8_init_51 : decode cX8_init 51 = .ok (.bipush 7, 2) := by decide +kernel
theorem dX8_init_53 : decode cX8_init 53 = .ok (.newarray .int, 2) := by decide +kernel
theorem kw233 : (.fieldLink RX8 30 "SpiceSwaps$Told" "garrisonOf" "[I" : Cond) ∈ gT := gT_of 233 (by decide +kernel) (by decide +kernel)
theorem dX8_init_55 : decode cX8_init 55 = .ok (.putfield 30, 3) := by decide +kernel
theorem dX8_init_58 : decode cX8_init 58 = .ok (.aload_n 0, 1) := by decide +kernel
theorem dX8_init_59 : decode cX8_init 59 = .ok (.bipush 28, 2) := by decide +kernel
theorem dX8_init_61 : decode cX8_init 61 = .ok (.newarray .int, 2) := by decide +kernel
theorem kw237 : (.fieldLink RX8 33 "SpiceSwaps$Told" "beliefOf" "[I" : Cond) ∈ gT := gT_of 237 (by decide +kernel) (by decide +kernel)
theorem dX8_init_63 : decode cX8_init 63 = .ok (.putfield 33, 3) := by decide +kernel
theorem dX8_init_66 : decode cX8_init 66 = .ok (.aload_n 0, 1) := by decide +kernel
theorem kw162 : (.classLink RX8 36 RX1 : Cond) ∈ gT := gT_of 162 (by decide +kernel) (by decide +kernel)
theorem kw163 : (.instantiable RX1 5 : Cond) ∈ gT := gT_of 163 (by decide +kernel) (by decide +kernel)
theorem kw115 : (.initialized RX1 : Cond) ∈ gT := gT_of 115 (by decide +kernel) (by decide +kernel)
theorem dX8_init_67 : decode cX8_init 67 = .ok (.new 36, 3) := by decide +kernel
theorem dX8_init_70 : decode cX8_init 70 = .ok (.dup, 1) := by decide +kernel
theorem kw166 : (.code yX1_init cX1_init 1 none : Cond) ∈ gT := gT_of 166 (by decide +kernel) (by decide +kernel)
theorem kw165 : (.instanceMethod yX1_init : Cond) ∈ gT := gT_of 165 (by decide +kernel) (by decide +kernel)
theorem dX8_init_71 : decode cX8_init 71 = .ok (.invokespecial 38, 3) := by decide +kernel
theorem kw239 : (.fieldLink RX8 39 "SpiceSwaps$Told" "worthBy" "LSpiceSwaps$Formula;" : Cond) ∈ gT := gT_of 239 (by decide +kernel) (by decide +kernel)
theorem dX8_init_74 : decode cX8_init 74 = .ok (.putfield 39, 3) := by decide +kernel
theorem dX8_init_77 : decode cX8_init 77 = .ok (.aload_n 0, 1) := by decide +kernel
theorem dX8_init_78 : decode cX8_init 78 = .ok (.new 36, 3) := by decide +kernel
theorem dX8_init_81 : decode cX8_init 81 = .ok (.dup, 1) := by decide +kernel
theorem dX8_init_82 : decode cX8_init 82 = .ok (.invokespecial 38, 3) := by decide +kernel
theorem kw242 : (.fieldLink RX8 43 "SpiceSwaps$Told" "growBy" "LSpiceSwaps$Formula;" : Cond) ∈ gT := gT_of 242 (by decide +kernel) (by decide +kernel)
theorem dX8_init_85 : decode cX8_init 85 = .ok (.putfield 43, 3) := by decide +kernel
theorem dX8_init_88 : decode cX8_init 88 = .ok (.aload_n 0, 1) := by decide +kernel
theorem dX8_forget_0 : decode cX8_forget 0 = .ok (.aload_n 0, 1) := by decide +kernel
theorem dX8_forget_1 : decode cX8_forget 1 = .ok (.iconst 0, 1) := by decide +kernel
theorem kw197 : (.fieldLink RX8 49 "SpiceSwaps$Told" "courts" "I" : Cond) ∈ gT := gT_of 197 (by decide +kernel) (by decide +kernel)
theorem dX8_forget_2 : decode cX8_forget 2 = .ok (.putfield 49, 3) := by decide +kernel
theorem dX8_forget_5 : decode cX8_forget 5 = .ok (.aload_n 0, 1) := by decide +kernel
theorem dX8_forget_6 : decode cX8_forget 6 = .ok (.iconst 0, 1) := by decide +kernel
theorem kw202 : (.fieldLink RX8 53 "SpiceSwaps$Told" "crops" "I" : Cond) ∈ gT := gT_of 202 (by decide +kernel) (by decide +kernel)
theorem dX8_forget_7 : decode cX8_forget 7 = .ok (.putfield 53, 3) := by decide +kernel
theorem dX8_forget_10 : decode cX8_forget 10 = .ok (.aload_n 0, 1) := by decide +kernel
theorem dX8_forget_11 : decode cX8_forget 11 = .ok (.iconst 0, 1) := by decide +kernel
theorem kw206 : (.fieldLink RX8 56 "SpiceSwaps$Told" "places" "I" : Cond) ∈ gT := gT_of 206 (by decide +kernel) (by decide +kernel)
theorem dX8_forget_12 : decode cX8_forget 12 = .ok (.putfield 56, 3) := by decide +kernel
theorem dX8_forget_15 : decode cX8_forget 15 = .ok (.iconst 0, 1) := by decide +kernel
theorem dX8_forget_16 : decode cX8_forget 16 = .ok (.istore_n 1, 1) := by decide +kernel
theorem dX8_forget_17 : decode cX8_forget 17 = .ok (.iload_n 1, 1) := by decide +kernel
theorem dX8_forget_18 : decode cX8_forget 18 = .ok (.aload_n 0, 1) := by decide +kernel
theorem dX8_forget_19 : decode cX8_forget 19 = .ok (.getfield 33, 3) := by decide +kernel
theorem dX8_forget_22 : decode cX8_forget 22 = .ok (.arraylength, 1) := by decide +kernel
theorem dX8_forget_23 : decode cX8_forget 23 = .ok (.if_icmp .ge 16, 3) := by decide +kernel
theorem dX8_forget_26 : decode cX8_forget 26 = .ok (.aload_n 0, 1) := by decide +kernel
theorem dX8_forget_27 : decode cX8_forget 27 = .ok (.getfield 33, 3) := by decide +kernel
theorem dX8_forget_30 : decode cX8_forget 30 = .ok (.iload_n 1, 1) := by decide +kernel
theorem dX8_forget_31 : decode cX8_forget 31 = .ok (.iconst (-1), 1) := by decide +kernel
theorem dX8_forget_32 : decode cX8_forget 32 = .ok (.iastore, 1) := by decide +kernel
theorem dX8_forget_33 : decode cX8_forget 33 = .ok (.iinc 1 1, 3) := by decide +kernel
theorem dX8_forget_36 : decode cX8_forget 36 = .ok (.goto (-19), 3) := by decide +kernel
theorem dX8_forget_39 : decode cX8_forget 39 = .ok (.aload_n 0, 1) := by decide +kernel
theorem dX8_forget_40 : decode cX8_forget 40 = .ok (.getfield 39, 3) := by decide +kernel
theorem dX1_forget_0 : decode cX1_forget 0 = .ok (.aload_n 0, 1) := by decide +kernel
theorem dX1_forget_1 : decode cX1_forget 1 = .ok (.iconst 0, 1) := by decide +kernel
theorem kw170 : (.fieldLink RX1 16 "SpiceSwaps$Formula" "size" "I" : Cond) ∈ gT := gT_of 170 (by decide +kernel) (by decide +kernel)
theorem dX1_forget_2 : decode cX1_forget 2 = .ok (.putfield 16, 3) := by decide +kernel
theorem dX1_forget_5 : decode cX1_forget 5 = .ok (.aload_n 0, 1) := by decide +kernel
theorem dX1_forget_6 : decode cX1_forget 6 = .ok (.iconst 0, 1) := by decide +kernel
theorem kw171 : (.fieldLink RX1 20 "SpiceSwaps$Formula" "units" "I" : Cond) ∈ gT := gT_of 171 (by decide +kernel) (by decide +kernel)
theorem dX1_forget_7 : decode cX1_forget 7 = .ok (.putfield 20, 3) := by decide +kernel
theorem dX1_forget_10 : decode cX1_forget 10 = .ok (.aload_n 0, 1) := by decide +kernel
theorem dX1_forget_11 : decode cX1_forget 11 = .ok (.iconst 0, 1) := by decide +kernel
theorem kw174 : (.fieldLink RX1 23 "SpiceSwaps$Formula" "isTold" "Z" : Cond) ∈ gT := gT_of 174 (by decide +kernel) (by decide +kernel)
theorem dX1_forget_12 : decode cX1_forget 12 = .ok (.putfield 23, 3) := by decide +kernel
theorem dX1_forget_15 : decode cX1_forget 15 = .ok (.return_, 1) := by decide +kernel
set_option maxHeartbeats 4000000 in
set_option maxRecDepth 100000 in
theorem cX1_forget_1 (l : Launch) (D : va_G) (cB cI cJ cZ : ClassId) (aK aV : Nat → Nat) (h0 : Nat) (h1 : Nat) (h2 : Nat) : MX l yX1_forget cX1_forget 1 none (rmL 1 0 0) D cB cI cJ cZ aK aV [.ref h0] [(h0, .inr (1, [.ref h1, .ref h2, .int 0, .int 0, .int 0]))] (fun r w1 => r = none ∧ w1 = [(h0, .inr (1, [.ref h1, .ref h2, .int 0, .int 0, .int 0]))]) := by
  refine MX.intro (by decide) (Nat.le_of_ble_eq_true rfl) ?_
  intro p e s m below meth c A ls hx hb hr hml hown hlocks hnm hts hG hE hA hS hP hD hl hAe
  have hl : lv_has ls 1 [(0, .ref h0)] := hl
  have hown : s.vm.findClass RX1 = some m.cls := hown
  refine lv_aload_n hx hb dX1_forget_0 rfl (lv_at hl 0 rfl) ?_
  refine lv_iconst (v := 0) hx hb dX1_forget_1 (by decide +kernel) ?_
  refine va_put (D := D) (ci := 1) (v := .int 0) (ty := .int) (C := RX1) (T := TX1) (N := 5) hx hb hts inX1 tyX1 tyX1_ok nmX1 hown hG.1 hP hD hS 0 rfl rfl 2 (by decide) (hts _ kw170) (fun _ h9 => h9) rfl (by decide +kernel) rfl rfl (Nat.le_of_ble_eq_true rfl) dX1_forget_2 (fun H locs hP hD hS => ?_)
  have hP : va_P D vwCl [(h0, .inr (1, [.ref h1, .ref h2, .int 0, .int 0, .int 0]))] H := hP
  have hD : va_D A [(h0, .inr (1, [.ref h1, .ref h2, .int 0, .int 0, .int 0]))] := hD
  refine lv_aload_n hx hb dX1_forget_5 rfl (lv_at hl 0 rfl) ?_
  refine lv_iconst (v := 0) hx hb dX1_forget_6 (by decide +kernel) ?_
  refine va_put (D := D) (ci := 1) (v := .int 0) (ty := .int) (C := RX1) (T := TX1) (N := 5) hx hb hts inX1 tyX1 tyX1_ok nmX1 hown hG.1 hP hD hS 0 rfl rfl 3 (by decide) (hts _ kw171) (fun _ h9 => h9) rfl (by decide +kernel) rfl rfl (Nat.le_of_ble_eq_true rfl) dX1_forget_7 (fun H locs hP hD hS => ?_)
  have hP : va_P D vwCl [(h0, .inr (1, [.ref h1, .ref h2, .int 0, .int 0, .int 0]))] H := hP
  have hD : va_D A [(h0, .inr (1, [.ref h1, .ref h2, .int 0, .int 0, .int 0]))] := hD
  refine lv_aload_n hx hb dX1_forget_10 rfl (lv_at hl 0 rfl) ?_
  refine lv_iconst (v := 0) hx hb dX1_forget_11 (by decide +kernel) ?_
  refine va_put (D := D) (ci := 1) (v := .int 0) (ty := .boolean) (C := RX1) (T := TX1) (N := 5) hx hb hts inX1 tyX1 tyX1_ok nmX1 hown hG.1 hP hD hS 0 rfl rfl 4 (by decide) (hts _ kw174) (fun _ h9 => h9) rfl (by decide +kernel) (by decide +kernel) (by decide +kernel) (Nat.le_of_ble_eq_true rfl) dX1_forget_12 (fun H locs hP hD hS => ?_)
  have hP : va_P D vwCl [(h0, .inr (1, [.ref h1, .ref h2, .int 0, .int 0, .int 0]))] H := hP
  have hD : va_D A [(h0, .inr (1, [.ref h1, .ref h2, .int 0, .int 0, .int 0]))] := hD
  have hP9 := hP.sub (ws' := [(h0, .inr (1, [.ref h1, .ref h2, .int 0, .int 0, .int 0]))]) [0] rfl
  have hD9 := hD.sub (ws' := [(h0, .inr (1, [.ref h1, .ref h2, .int 0, .int 0, .int 0]))]) [0] (by decide) rfl
  exact xr_v (rm := (rmL 1 0 0)) hx hb hr hlocks hAe hS hP9 hD9 (Nat.le_of_ble_eq_true rfl) (Nat.le_of_ble_eq_true rfl) dX1_forget_15 ⟨rfl, rfl⟩
theorem kw193 : (.methodLink RX8 59 yX1_forget : Cond) ∈ gT := gT_of 193 (by decide +kernel) (by decide +kernel)
theorem kw196 : (.code yX1_forget cX1_forget 1 none : Cond) ∈ gT := gT_of 196 (by decide +kernel) (by decide +kernel)
theorem kw194 : (.instanceMethod yX1_forget : Cond) ∈ gT := gT_of 194 (by decide +kernel) (by decide +kernel)
theorem kw195 : (.selects RX1 yX1_forget yX1_forget : Cond) ∈ gT := gT_of 195 (by decide +kernel) (by decide +kernel)
theorem dX8_forget_43 : decode cX8_forget 43 = .ok (.invokevirtual 59, 3) := by decide +kernel
theorem dX8_forget_46 : decode cX8_forget 46 = .ok (.aload_n 0, 1) := by decide +kernel
theorem dX8_forget_47 : decode cX8_forget 47 = .ok (.getfield 43, 3) := by decide +kernel
theorem dX8_forget_50 : decode cX8_forget 50 = .ok (.invokevirtual 59, 3) := by decide +kernel
theorem dX8_forget_53 : decode cX8_forget 53 = .ok (.aload_n 0, 1) := by decide +kernel
theorem dX8_forget_54 : decode cX8_forget 54 = .ok (.iconst 0, 1) := by decide +kernel
theorem kw246 : (.fieldLink RX8 60 "SpiceSwaps$Told" "storm" "I" : Cond) ∈ gT := gT_of 246 (by decide +kernel) (by decide +kernel)
theorem dX8_forget_55 : decode cX8_forget 55 = .ok (.putfield 60, 3) := by decide +kernel
theorem dX8_forget_58 : decode cX8_forget 58 = .ok (.aload_n 0, 1) := by decide +kernel
theorem dX8_forget_59 : decode cX8_forget 59 = .ok (.iconst 1, 1) := by decide +kernel
theorem kw250 : (.fieldLink RX8 63 "SpiceSwaps$Told" "stormLoss" "I" : Cond) ∈ gT := gT_of 250 (by decide +kernel) (by decide +kernel)
theorem dX8_forget_60 : decode cX8_forget 60 = .ok (.putfield 63, 3) := by decide +kernel
theorem dX8_forget_63 : decode cX8_forget 63 = .ok (.aload_n 0, 1) := by decide +kernel
theorem dX8_forget_64 : decode cX8_forget 64 = .ok (.iconst 0, 1) := by decide +kernel
theorem kw253 : (.fieldLink RX8 66 "SpiceSwaps$Told" "stormIsTold" "Z" : Cond) ∈ gT := gT_of 253 (by decide +kernel) (by decide +kernel)
theorem dX8_forget_65 : decode cX8_forget 65 = .ok (.putfield 66, 3) := by decide +kernel
theorem dX8_forget_68 : decode cX8_forget 68 = .ok (.aload_n 0, 1) := by decide +kernel
theorem dX8_forget_69 : decode cX8_forget 69 = .ok (.iconst 0, 1) := by decide +kernel
theorem kw255 : (.fieldLink RX8 70 "SpiceSwaps$Told" "draw" "I" : Cond) ∈ gT := gT_of 255 (by decide +kernel) (by decide +kernel)
theorem dX8_forget_70 : decode cX8_forget 70 = .ok (.putfield 70, 3) := by decide +kernel
theorem dX8_forget_73 : decode cX8_forget 73 = .ok (.aload_n 0, 1) := by decide +kernel
theorem dX8_forget_74 : decode cX8_forget 74 = .ok (.iconst 0, 1) := by decide +kernel
theorem kw258 : (.fieldLink RX8 73 "SpiceSwaps$Told" "drawIsTold" "Z" : Cond) ∈ gT := gT_of 258 (by decide +kernel) (by decide +kernel)
theorem dX8_forget_75 : decode cX8_forget 75 = .ok (.putfield 73, 3) := by decide +kernel
theorem dX8_forget_78 : decode cX8_forget 78 = .ok (.return_, 1) := by decide +kernel
set_option maxHeartbeats 4000000 in
set_option maxRecDepth 100000 in
theorem cX8_forget_1 (l : Launch) (D : va_G) (cB cI cJ cZ : ClassId) (aK aV : Nat → Nat) (h0 : Nat) (h1 : Nat) (h2 : Nat) (h3 : Nat) (h4 : Nat) (h5 : Nat) (h6 : Nat) (h7 : Nat) (h8 : Nat) (h9 : Nat) (h10 : Nat) (f11 : Nat → Int32) (h12 : Nat) (h13 : Nat) (h14 : Nat) (h15 : Nat) : MX l yX8_forget cX8_forget 2 none (rmL 2 0 0) D cB cI cJ cZ aK aV [.ref h0] [(h0, .inr (8, [.int 0, .int 0, .int 0, .ref h1, .ref h2, .ref h3, .ref h4, .ref h5, .ref h6, .ref h7, .ref h8, .ref h9, .ref h10, .int 0, .int 0, .int 0, .int 0, .int 0])), (h8, .inl (cI, 28, .inl f11)), (h9, .inr (1, [.ref h12, .ref h13, .int 0, .int 0, .int 0])), (h10, .inr (1, [.ref h14, .ref h15, .int 0, .int 0, .int 0]))] (fun r w1 => ∃ f_28 : Nat → Int32, r = none ∧ w1 = [(h0, .inr (8, [.int 0, .int 0, .int 0, .ref h1, .ref h2, .ref h3, .ref h4, .ref h5, .ref h6, .ref h7, .ref h8, .ref h9, .ref h10, .int 0, .int 1, .int 0, .int 0, .int 0])), (h8, .inl (cI, 28, .inl f_28)), (h9, .inr (1, [.ref h12, .ref h13, .int 0, .int 0, .int 0])), (h10, .inr (1, [.ref h14, .ref h15, .int 0, .int 0, .int 0]))]) := by
  refine MX.intro (by decide) (Nat.le_of_ble_eq_true rfl) ?_
  intro p e s m below meth c A ls hx hb hr hml hown hlocks hnm hts hG hE hA hS hP hD hl hAe
  have hl : lv_has ls 2 [(0, .ref h0)] := hl
  have hown : s.vm.findClass RX8 = some m.cls := hown
  refine lv_aload_n hx hb dX8_forget_0 rfl (lv_at hl 0 rfl) ?_
  refine lv_iconst (v := 0) hx hb dX8_forget_1 (by decide +kernel) ?_
  refine va_put (D := D) (ci := 8) (v := .int 0) (ty := .int) (C := RX8) (T := TX8) (N := 18) hx hb hts inX8 tyX8 tyX8_ok nmX8 hown hG.1 hP hD hS 0 rfl rfl 0 (by decide) (hts _ kw197) (fun _ h9 => h9) rfl (by decide +kernel) rfl rfl (Nat.le_of_ble_eq_true rfl) dX8_forget_2 (fun H locs hP hD hS => ?_)
  have hP : va_P D vwCl [(h0, .inr (8, [.int 0, .int 0, .int 0, .ref h1, .ref h2, .ref h3, .ref h4, .ref h5, .ref h6, .ref h7, .ref h8, .ref h9, .ref h10, .int 0, .int 0, .int 0, .int 0, .int 0])), (h8, .inl (cI, 28, .inl f11)), (h9, .inr (1, [.ref h12, .ref h13, .int 0, .int 0, .int 0])), (h10, .inr (1, [.ref h14, .ref h15, .int 0, .int 0, .int 0]))] H := hP
  have hD : va_D A [(h0, .inr (8, [.int 0, .int 0, .int 0, .ref h1, .ref h2, .ref h3, .ref h4, .ref h5, .ref h6, .ref h7, .ref h8, .ref h9, .ref h10, .int 0, .int 0, .int 0, .int 0, .int 0])), (h8, .inl (cI, 28, .inl f11)), (h9, .inr (1, [.ref h12, .ref h13, .int 0, .int 0, .int 0])), (h10, .inr (1, [.ref h14, .ref h15, .int 0, .int 0, .int 0]))] := hD
  refine lv_aload_n hx hb dX8_forget_5 rfl (lv_at hl 0 rfl) ?_
  refine lv_iconst (v := 0) hx hb dX8_forget_6 (by decide +kernel) ?_
  refine va_put (D := D) (ci := 8) (v := .int 0) (ty := .int) (C := RX8) (T := TX8) (N := 18) hx hb hts inX8 tyX8 tyX8_ok nmX8 hown hG.1 hP hD hS 0 rfl rfl 1 (by decide) (hts _ kw202) (fun _ h9 => h9) rfl (by decide +kernel) rfl rfl (Nat.le_of_ble_eq_true rfl) dX8_forget_7 (fun H locs hP hD hS => ?_)
  have hP : va_P D vwCl [(h0, .inr (8, [.int 0, .int 0, .int 0, .ref h1, .ref h2, .ref h3, .ref h4, .ref h5, .ref h6, .ref h7, .ref h8, .ref h9, .ref h10, .int 0, .int 0, .int 0, .int 0, .int 0])), (h8, .inl (cI, 28, .inl f11)), (h9, .inr (1, [.ref h12, .ref h13, .int 0, .int 0, .int 0])), (h10, .inr (1, [.ref h14, .ref h15, .int 0, .int 0, .int 0]))] H := hP
  have hD : va_D A [(h0, .inr (8, [.int 0, .int 0, .int 0, .ref h1, .ref h2, .ref h3, .ref h4, .ref h5, .ref h6, .ref h7, .ref h8, .ref h9, .ref h10, .int 0, .int 0, .int 0, .int 0, .int 0])), (h8, .inl (cI, 28, .inl f11)), (h9, .inr (1, [.ref h12, .ref h13, .int 0, .int 0, .int 0])), (h10, .inr (1, [.ref h14, .ref h15, .int 0, .int 0, .int 0]))] := hD
  refine lv_aload_n hx hb dX8_forget_10 rfl (lv_at hl 0 rfl) ?_
  refine lv_iconst (v := 0) hx hb dX8_forget_11 (by decide +kernel) ?_
  refine va_put (D := D) (ci := 8) (v := .int 0) (ty := .int) (C := RX8) (T := TX8) (N := 18) hx hb hts inX8 tyX8 tyX8_ok nmX8 hown hG.1 hP hD hS 0 rfl rfl 2 (by decide) (hts _ kw206) (fun _ h9 => h9) rfl (by decide +kernel) rfl rfl (Nat.le_of_ble_eq_true rfl) dX8_forget_12 (fun H locs hP hD hS => ?_)
  have hP : va_P D vwCl [(h0, .inr (8, [.int 0, .int 0, .int 0, .ref h1, .ref h2, .ref h3, .ref h4, .ref h5, .ref h6, .ref h7, .ref h8, .ref h9, .ref h10, .int 0, .int 0, .int 0, .int 0, .int 0])), (h8, .inl (cI, 28, .inl f11)), (h9, .inr (1, [.ref h12, .ref h13, .int 0, .int 0, .int 0])), (h10, .inr (1, [.ref h14, .ref h15, .int 0, .int 0, .int 0]))] H := hP
  have hD : va_D A [(h0, .inr (8, [.int 0, .int 0, .int 0, .ref h1, .ref h2, .ref h3, .ref h4, .ref h5, .ref h6, .ref h7, .ref h8, .ref h9, .ref h10, .int 0, .int 0, .int 0, .int 0, .int 0])), (h8, .inl (cI, 28, .inl f11)), (h9, .inr (1, [.ref h12, .ref h13, .int 0, .int 0, .int 0])), (h10, .inr (1, [.ref h14, .ref h15, .int 0, .int 0, .int 0]))] := hD
  refine lv_iconst (v := 0) hx hb dX8_forget_15 (by decide +kernel) ?_
  refine lv_istore_n (lv' := [(1, .int 0), (0, .ref h0)]) hx hb dX8_forget_16 rfl hl (by decide) rfl (fun ls hl => ?_)
  refine lv_iload_n hx hb dX8_forget_17 rfl (lv_at hl 0 rfl) ?_
  refine lv_aload_n hx hb dX8_forget_18 rfl (lv_at hl 1 rfl) ?_
  refine va_get (D := D) (ci := 8) (v := .ref h8) (C := RX8) (T := TX8) (N := 18) hx hb hts inX8 hown hG.1 hP 0 rfl rfl 10 (by decide) (hts _ kw237) (fun _ h9 => h9) rfl dX8_forget_19 ?_
  refine xa_alen (v := 28) hx hb hG hP 1 1 rfl rfl rfl dX8_forget_22 ?_
  refine lv_icmp_ge (tgt := 39) hx hb dX8_forget_23 (by decide) (fun h => absurd h (by decide +kernel)) (fun _ => ?_)
  refine lv_aload_n hx hb dX8_forget_26 rfl (lv_at hl 1 rfl) ?_
  refine va_get (D := D) (ci := 8) (v := .ref h8) (C := RX8) (T := TX8) (N := 18) hx hb hts inX8 hown hG.1 hP 0 rfl rfl 10 (by decide) (hts _ kw237) (fun _ h9 => h9) rfl dX8_forget_27 ?_
  refine lv_iload_n hx hb dX8_forget_30 rfl (lv_at hl 0 rfl) ?_
  refine lv_iconst (v := (-1)) hx hb dX8_forget_31 (by decide +kernel) ?_
  refine xa_istU hx hb hG hP hD hS 1 rfl (vin (by decide +kernel)) dX8_forget_32 (fun f_1 H locs hP hD hS => ?_)
  have hP : va_P D vwCl [(h0, .inr (8, [.int 0, .int 0, .int 0, .ref h1, .ref h2, .ref h3, .ref h4, .ref h5, .ref h6, .ref h7, .ref h8, .ref h9, .ref h10, .int 0, .int 0, .int 0, .int 0, .int 0])), (h8, .inl (cI, 28, .inl f_1)), (h9, .inr (1, [.ref h12, .ref h13, .int 0, .int 0, .int 0])), (h10, .inr (1, [.ref h14, .ref h15, .int 0, .int 0, .int 0]))] H := hP
  have hD : va_D A [(h0, .inr (8, [.int 0, .int 0, .int 0, .ref h1, .ref h2, .ref h3, .ref h4, .ref h5, .ref h6, .ref h7, .ref h8, .ref h9, .ref h10, .int 0, .int 0, .int 0, .int 0, .int 0])), (h8, .inl (cI, 28, .inl f_1)), (h9, .inr (1, [.ref h12, .ref h13, .int 0, .int 0, .int 0])), (h10, .inr (1, [.ref h14, .ref h15, .int 0, .int 0, .int 0]))] := hD
  refine lv_iinc (v := 1) (lv' := [(1, .int 1), (0, .ref h0)]) hx hb dX8_forget_33 hl (k := 0) rfl (by decide +kernel) (by decide) rfl (fun ls hl => ?_)
  refine lv_goto (tgt := 17) hx hb dX8_forget_36 (by decide) ?_
  refine lv_iload_n hx hb dX8_forget_17 rfl (lv_at hl 0 rfl) ?_
  refine lv_aload_n hx hb dX8_forget_18 rfl (lv_at hl 1 rfl) ?_
  refine va_get (D := D) (ci := 8) (v := .ref h8) (C := RX8) (T := TX8) (N := 18) hx hb hts inX8 hown hG.1 hP 0 rfl rfl 10 (by decide) (hts _ kw237) (fun _ h9 => h9) rfl dX8_forget_19 ?_
  refine xa_alen (v := 28) hx hb hG hP 1 1 rfl rfl rfl dX8_forget_22 ?_
  refine lv_icmp_ge (tgt := 39) hx hb dX8_forget_23 (by decide) (fun h => absurd h (by decide +kernel)) (fun _ => ?_)
  refine lv_aload_n hx hb dX8_forget_26 rfl (lv_at hl 1 rfl) ?_
  refine va_get (D := D) (ci := 8) (v := .ref h8) (C := RX8) (T := TX8) (N := 18) hx hb hts inX8 hown hG.1 hP 0 rfl rfl 10 (by decide) (hts _ kw237) (fun _ h9 => h9) rfl dX8_forget_27 ?_
  refine lv_iload_n hx hb dX8_forget_30 rfl (lv_at hl 0 rfl) ?_
  refine lv_iconst (v := (-1)) hx hb dX8_forget_31 (by decide +kernel) ?_
  refine xa_istU hx hb hG hP hD hS 1 rfl (vin (by decide +kernel)) dX8_forget_32 (fun f_2 H locs hP hD hS => ?_)
  have hP : va_P D vwCl [(h0, .inr (8, [.int 0, .int 0, .int 0, .ref h1, .ref h2, .ref h3, .ref h4, .ref h5, .ref h6, .ref h7, .ref h8, .ref h9, .ref h10, .int 0, .int 0, .int 0, .int 0, .int 0])), (h8, .inl (cI, 28, .inl f_2)), (h9, .inr (1, [.ref h12, .ref h13, .int 0, .int 0, .int 0])), (h10, .inr (1, [.ref h14, .ref h15, .int 0, .int 0, .int 0]))] H := hP
  have hD : va_D A [(h0, .inr (8, [.int 0, .int 0, .int 0, .ref h1, .ref h2, .ref h3, .ref h4, .ref h5, .ref h6, .ref h7, .ref h8, .ref h9, .ref h10, .int 0, .int 0, .int 0, .int 0, .int 0])), (h8, .inl (cI, 28, .inl f_2)), (h9, .inr (1, [.ref h12, .ref h13, .int 0, .int 0, .int 0])), (h10, .inr (1, [.ref h14, .ref h15, .int 0, .int 0, .int 0]))] := hD
  refine lv_iinc (v := 2) (lv' := [(1, .int 2), (0, .ref h0)]) hx hb dX8_forget_33 hl (k := 0) rfl (by decide +kernel) (by decide) rfl (fun ls hl => ?_)
  refine lv_goto (tgt := 17) hx hb dX8_forget_36 (by decide) ?_
  refine lv_iload_n hx hb dX8_forget_17 rfl (lv_at hl 0 rfl) ?_
  refine lv_aload_n hx hb dX8_forget_18 rfl (lv_at hl 1 rfl) ?_
  refine va_get (D := D) (ci := 8) (v := .ref h8) (C := RX8) (T := TX8) (N := 18) hx hb hts inX8 hown hG.1 hP 0 rfl rfl 10 (by decide) (hts _ kw237) (fun _ h9 => h9) rfl dX8_forget_19 ?_
  refine xa_alen (v := 28) hx hb hG hP 1 1 rfl rfl rfl dX8_forget_22 ?_
  refine lv_icmp_ge (tgt := 39) hx hb dX8_forget_23 (by decide) (fun h => absurd h (by decide +kernel)) (fun _ => ?_)
  refine lv_aload_n hx hb dX8_forget_26 rfl (lv_at hl 1 rfl) ?_
  refine va_get (D := D) (ci := 8) (v := .ref h8) (C := RX8) (T := TX8) (N := 18) hx hb hts inX8 hown hG.1 hP 0 rfl rfl 10 (by decide) (hts _ kw237) (fun _ h9 => h9) rfl dX8_forget_27 ?_
  refine lv_iload_n hx hb dX8_forget_30 rfl (lv_at hl 0 rfl) ?_
  refine lv_iconst (v := (-1)) hx hb dX8_forget_31 (by decide +kernel) ?_
  refine xa_istU hx hb hG hP hD hS 1 rfl (vin (by decide +kernel)) dX8_forget_32 (fun f_3 H locs hP hD hS => ?_)
  have hP : va_P D vwCl [(h0, .inr (8, [.int 0, .int 0, .int 0, .ref h1, .ref h2, .ref h3, .ref h4, .ref h5, .ref h6, .ref h7, .ref h8, .ref h9, .ref h10, .int 0, .int 0, .int 0, .int 0, .int 0])), (h8, .inl (cI, 28, .inl f_3)), (h9, .inr (1, [.ref h12, .ref h13, .int 0, .int 0, .int 0])), (h10, .inr (1, [.ref h14, .ref h15, .int 0, .int 0, .int 0]))] H := hP
  have hD : va_D A [(h0, .inr (8, [.int 0, .int 0, .int 0, .ref h1, .ref h2, .ref h3, .ref h4, .ref h5, .ref h6, .ref h7, .ref h8, .ref h9, .ref h10, .int 0, .int 0, .int 0, .int 0, .int 0])), (h8, .inl (cI, 28, .inl f_3)), (h9, .inr (1, [.ref h12, .ref h13, .int 0, .int 0, .int 0])), (h10, .inr (1, [.ref h14, .ref h15, .int 0, .int 0, .int 0]))] := hD
  refine lv_iinc (v := 3) (lv' := [(1, .int 3), (0, .ref h0)]) hx hb dX8_forget_33 hl (k := 0) rfl (by decide +kernel) (by decide) rfl (fun ls hl => ?_)
  refine lv_goto (tgt := 17) hx hb dX8_forget_36 (by decide) ?_
  refine lv_iload_n hx hb dX8_forget_17 rfl (lv_at hl 0 rfl) ?_
  refine lv_aload_n hx hb dX8_forget_18 rfl (lv_at hl 1 rfl) ?_
  refine va_get (D := D) (ci := 8) (v := .ref h8) (C := RX8) (T := TX8) (N := 18) hx hb hts inX8 hown hG.1 hP 0 rfl rfl 10 (by decide) (hts _ kw237) (fun _ h9 => h9) rfl dX8_forget_19 ?_
  refine xa_alen (v := 28) hx hb hG hP 1 1 rfl rfl rfl dX8_forget_22 ?_
  refine lv_icmp_ge (tgt := 39) hx hb dX8_forget_23 (by decide) (fun h => absurd h (by decide +kernel)) (fun _ => ?_)
  refine lv_aload_n hx hb dX8_forget_26 rfl (lv_at hl 1 rfl) ?_
  refine va_get (D := D) (ci := 8) (v := .ref h8) (C := RX8) (T := TX8) (N := 18) hx hb hts inX8 hown hG.1 hP 0 rfl rfl 10 (by decide) (hts _ kw237) (fun _ h9 => h9) rfl dX8_forget_27 ?_
  refine lv_iload_n hx hb dX8_forget_30 rfl (lv_at hl 0 rfl) ?_
  refine lv_iconst (v := (-1)) hx hb dX8_forget_31 (by decide +kernel) ?_
  refine xa_istU hx hb hG hP hD hS 1 rfl (vin (by decide +kernel)) dX8_forget_32 (fun f_4 H locs hP hD hS => ?_)
  have hP : va_P D vwCl [(h0, .inr (8, [.int 0, .int 0, .int 0, .ref h1, .ref h2, .ref h3, .ref h4, .ref h5, .ref h6, .ref h7, .ref h8, .ref h9, .ref h10, .int 0, .int 0, .int 0, .int 0, .int 0])), (h8, .inl (cI, 28, .inl f_4)), (h9, .inr (1, [.ref h12, .ref h13, .int 0, .int 0, .int 0])), (h10, .inr (1, [.ref h14, .ref h15, .int 0, .int 0, .int 0]))] H := hP
  have hD : va_D A [(h0, .inr (8, [.int 0, .int 0, .int 0, .ref h1, .ref h2, .ref h3, .ref h4, .ref h5, .ref h6, .ref h7, .ref h8, .ref h9, .ref h10, .int 0, .int 0, .int 0, .int 0, .int 0])), (h8, .inl (cI, 28, .inl f_4)), (h9, .inr (1, [.ref h12, .ref h13, .int 0, .int 0, .int 0])), (h10, .inr (1, [.ref h14, .ref h15, .int 0, .int 0, .int 0]))] := hD
  refine lv_iinc (v := 4) (lv' := [(1, .int 4), (0, .ref h0)]) hx hb dX8_forget_33 hl (k := 0) rfl (by decide +kernel) (by decide) rfl (fun ls hl => ?_)
  refine lv_goto (tgt := 17) hx hb dX8_forget_36 (by decide) ?_
  refine lv_iload_n hx hb dX8_forget_17 rfl (lv_at hl 0 rfl) ?_
  refine lv_aload_n hx hb dX8_forget_18 rfl (lv_at hl 1 rfl) ?_
  refine va_get (D := D) (ci := 8) (v := .ref h8) (C := RX8) (T := TX8) (N := 18) hx hb hts inX8 hown hG.1 hP 0 rfl rfl 10 (by decide) (hts _ kw237) (fun _ h9 => h9) rfl dX8_forget_19 ?_
  refine xa_alen (v := 28) hx hb hG hP 1 1 rfl rfl rfl dX8_forget_22 ?_
  refine lv_icmp_ge (tgt := 39) hx hb dX8_forget_23 (by decide) (fun h => absurd h (by decide +kernel)) (fun _ => ?_)
  refine lv_aload_n hx hb dX8_forget_26 rfl (lv_at hl 1 rfl) ?_
  refine va_get (D := D) (ci := 8) (v := .ref h8) (C := RX8) (T := TX8) (N := 18) hx hb hts inX8 hown hG.1 hP 0 rfl rfl 10 (by decide) (hts _ kw237) (fun _ h9 => h9) rfl dX8_forget_27 ?_
  refine lv_iload_n hx hb dX8_forget_30 rfl (lv_at hl 0 rfl) ?_
  refine lv_iconst (v := (-1)) hx hb dX8_forget_31 (by decide +kernel) ?_
  refine xa_istU hx hb hG hP hD hS 1 rfl (vin (by decide +kernel)) dX8_forget_32 (fun f_5 H locs hP hD hS => ?_)
  have hP : va_P D vwCl [(h0, .inr (8, [.int 0, .int 0, .int 0, .ref h1, .ref h2, .ref h3, .ref h4, .ref h5, .ref h6, .ref h7, .ref h8, .ref h9, .ref h10, .int 0, .int 0, .int 0, .int 0, .int 0])), (h8, .inl (cI, 28, .inl f_5)), (h9, .inr (1, [.ref h12, .ref h13, .int 0, .int 0, .int 0])), (h10, .inr (1, [.ref h14, .ref h15, .int 0, .int 0, .int 0]))] H := hP
  have hD : va_D A [(h0, .inr (8, [.int 0, .int 0, .int 0, .ref h1, .ref h2, .ref h3, .ref h4, .ref h5, .ref h6, .ref h7, .ref h8, .ref h9, .ref h10, .int 0, .int 0, .int 0, .int 0, .int 0])), (h8, .inl (cI, 28, .inl f_5)), (h9, .inr (1, [.ref h12, .ref h13, .int 0, .int 0, .int 0])), (h10, .inr (1, [.ref h14, .ref h15, .int 0, .int 0, .int 0]))] := hD
  refine lv_iinc (v := 5) (lv' := [(1, .int 5), (0, .ref h0)]) hx hb dX8_forget_33 hl (k := 0) rfl (by decide +kernel) (by decide) rfl (fun ls hl => ?_)
  refine lv_goto (tgt := 17) hx hb dX8_forget_36 (by decide) ?_
  refine lv_iload_n hx hb dX8_forget_17 rfl (lv_at hl 0 rfl) ?_
  refine lv_aload_n hx hb dX8_forget_18 rfl (lv_at hl 1 rfl) ?_
  refine va_get (D := D) (ci := 8) (v := .ref h8) (C := RX8) (T := TX8) (N := 18) hx hb hts inX8 hown hG.1 hP 0 rfl rfl 10 (by decide) (hts _ kw237) (fun _ h9 => h9) rfl dX8_forget_19 ?_
  refine xa_alen (v := 28) hx hb hG hP 1 1 rfl rfl rfl dX8_forget_22 ?_
  refine lv_icmp_ge (tgt := 39) hx hb dX8_forget_23 (by decide) (fun h => absurd h (by decide +kernel)) (fun _ => ?_)
  refine lv_aload_n hx hb dX8_forget_26 rfl (lv_at hl 1 rfl) ?_
  refine va_get (D := D) (ci := 8) (v := .ref h8) (C := RX8) (T := TX8) (N := 18) hx hb hts inX8 hown hG.1 hP 0 rfl rfl 10 (by decide) (hts _ kw237) (fun _ h9 => h9) rfl dX8_forget_27 ?_
  refine lv_iload_n hx hb dX8_forget_30 rfl (lv_at hl 0 rfl) ?_
  refine lv_iconst (v := (-1)) hx hb dX8_forget_31 (by decide +kernel) ?_
  refine xa_istU hx hb hG hP hD hS 1 rfl (vin (by decide +kernel)) dX8_forget_32 (fun f_6 H locs hP hD hS => ?_)
  have hP : va_P D vwCl [(h0, .inr (8, [.int 0, .int 0, .int 0, .ref h1, .ref h2, .ref h3, .ref h4, .ref h5, .ref h6, .ref h7, .ref h8, .ref h9, .ref h10, .int 0, .int 0, .int 0, .int 0, .int 0])), (h8, .inl (cI, 28, .inl f_6)), (h9, .inr (1, [.ref h12, .ref h13, .int 0, .int 0, .int 0])), (h10, .inr (1, [.ref h14, .ref h15, .int 0, .int 0, .int 0]))] H := hP
  have hD : va_D A [(h0, .inr (8, [.int 0, .int 0, .int 0, .ref h1, .ref h2, .ref h3, .ref h4, .ref h5, .ref h6, .ref h7, .ref h8, .ref h9, .ref h10, .int 0, .int 0, .int 0, .int 0, .int 0])), (h8, .inl (cI, 28, .inl f_6)), (h9, .inr (1, [.ref h12, .ref h13, .int 0, .int 0, .int 0])), (h10, .inr (1, [.ref h14, .ref h15, .int 0, .int 0, .int 0]))] := hD
  refine lv_iinc (v := 6) (lv' := [(1, .int 6), (0, .ref h0)]) hx hb dX8_forget_33 hl (k := 0) rfl (by decide +kernel) (by decide) rfl (fun ls hl => ?_)
  refine lv_goto (tgt := 17) hx hb dX8_forget_36 (by decide) ?_
  refine lv_iload_n hx hb dX8_forget_17 rfl (lv_at hl 0 rfl) ?_
  refine lv_aload_n hx hb dX8_forget_18 rfl (lv_at hl 1 rfl) ?_
  refine va_get (D := D) (ci := 8) (v := .ref h8) (C := RX8) (T := TX8) (N := 18) hx hb hts inX8 hown hG.1 hP 0 rfl rfl 10 (by decide) (hts _ kw237) (fun _ h9 => h9) rfl dX8_forget_19 ?_
  refine xa_alen (v := 28) hx hb hG hP 1 1 rfl rfl rfl dX8_forget_22 ?_
  refine lv_icmp_ge (tgt := 39) hx hb dX8_forget_23 (by decide) (fun h => absurd h (by decide +kernel)) (fun _ => ?_)
  refine lv_aload_n hx hb dX8_forget_26 rfl (lv_at hl 1 rfl) ?_
  refine va_get (D := D) (ci := 8) (v := .ref h8) (C := RX8) (T := TX8) (N := 18) hx hb hts inX8 hown hG.1 hP 0 rfl rfl 10 (by decide) (hts _ kw237) (fun _ h9 => h9) rfl dX8_forget_27 ?_
  refine lv_iload_n hx hb dX8_forget_30 rfl (lv_at hl 0 rfl) ?_
  refine lv_iconst (v := (-1)) hx hb dX8_forget_31 (by decide +kernel) ?_
  refine xa_istU hx hb hG hP hD hS 1 rfl (vin (by decide +kernel)) dX8_forget_32 (fun f_7 H locs hP hD hS => ?_)
  have hP : va_P D vwCl [(h0, .inr (8, [.int 0, .int 0, .int 0, .ref h1, .ref h2, .ref h3, .ref h4, .ref h5, .ref h6, .ref h7, .ref h8, .ref h9, .ref h10, .int 0, .int 0, .int 0, .int 0, .int 0])), (h8, .inl (cI, 28, .inl f_7)), (h9, .inr (1, [.ref h12, .ref h13, .int 0, .int 0, .int 0])), (h10, .inr (1, [.ref h14, .ref h15, .int 0, .int 0, .int 0]))] H := hP
  have hD : va_D A [(h0, .inr (8, [.int 0, .int 0, .int 0, .ref h1, .ref h2, .ref h3, .ref h4, .ref h5, .ref h6, .ref h7, .ref h8, .ref h9, .ref h10, .int 0, .int 0, .int 0, .int 0, .int 0])), (h8, .inl (cI, 28, .inl f_7)), (h9, .inr (1, [.ref h12, .ref h13, .int 0, .int 0, .int 0])), (h10, .inr (1, [.ref h14, .ref h15, .int 0, .int 0, .int 0]))] := hD
  refine lv_iinc (v := 7) (lv' := [(1, .int 7), (0, .ref h0)]) hx hb dX8_forget_33 hl (k := 0) rfl (by decide +kernel) (by decide) rfl (fun ls hl => ?_)
  refine lv_goto (tgt := 17) hx hb dX8_forget_36 (by decide) ?_
  refine lv_iload_n hx hb dX8_forget_17 rfl (lv_at hl 0 rfl) ?_
  refine lv_aload_n hx hb dX8_forget_18 rfl (lv_at hl 1 rfl) ?_
  refine va_get (D := D) (ci := 8) (v := .ref h8) (C := RX8) (T := TX8) (N := 18) hx hb hts inX8 hown hG.1 hP 0 rfl rfl 10 (by decide) (hts _ kw237) (fun _ h9 => h9) rfl dX8_forget_19 ?_
  refine xa_alen (v := 28) hx hb hG hP 1 1 rfl rfl rfl dX8_forget_22 ?_
  refine lv_icmp_ge (tgt := 39) hx hb dX8_forget_23 (by decide) (fun h => absurd h (by decide +kernel)) (fun _ => ?_)
  refine lv_aload_n hx hb dX8_forget_26 rfl (lv_at hl 1 rfl) ?_
  refine va_get (D := D) (ci := 8) (v := .ref h8) (C := RX8) (T := TX8) (N := 18) hx hb hts inX8 hown hG.1 hP 0 rfl rfl 10 (by decide) (hts _ kw237) (fun _ h9 => h9) rfl dX8_forget_27 ?_
  refine lv_iload_n hx hb dX8_forget_30 rfl (lv_at hl 0 rfl) ?_
  refine lv_iconst (v := (-1)) hx hb dX8_forget_31 (by decide +kernel) ?_
  refine xa_istU hx hb hG hP hD hS 1 rfl (vin (by decide +kernel)) dX8_forget_32 (fun f_8 H locs hP hD hS => ?_)
  have hP : va_P D vwCl [(h0, .inr (8, [.int 0, .int 0, .int 0, .ref h1, .ref h2, .ref h3, .ref h4, .ref h5, .ref h6, .ref h7, .ref h8, .ref h9, .ref h10, .int 0, .int 0, .int 0, .int 0, .int 0])), (h8, .inl (cI, 28, .inl f_8)), (h9, .inr (1, [.ref h12, .ref h13, .int 0, .int 0, .int 0])), (h10, .inr (1, [.ref h14, .ref h15, .int 0, .int 0, .int 0]))] H := hP
  have hD : va_D A [(h0, .inr (8, [.int 0, .int 0, .int 0, .ref h1, .ref h2, .ref h3, .ref h4, .ref h5, .ref h6, .ref h7, .ref h8, .ref h9, .ref h10, .int 0, .int 0, .int 0, .int 0, .int 0])), (h8, .inl (cI, 28, .inl f_8)), (h9, .inr (1, [.ref h12, .ref h13, .int 0, .int 0, .int 0])), (h10, .inr (1, [.ref h14, .ref h15, .int 0, .int 0, .int 0]))] := hD
  refine lv_iinc (v := 8) (lv' := [(1, .int 8), (0, .ref h0)]) hx hb dX8_forget_33 hl (k := 0) rfl (by decide +kernel) (by decide) rfl (fun ls hl => ?_)
  refine lv_goto (tgt := 17) hx hb dX8_forget_36 (by decide) ?_
  refine lv_iload_n hx hb dX8_forget_17 rfl (lv_at hl 0 rfl) ?_
  refine lv_aload_n hx hb dX8_forget_18 rfl (lv_at hl 1 rfl) ?_
  refine va_get (D := D) (ci := 8) (v := .ref h8) (C := RX8) (T := TX8) (N := 18) hx hb hts inX8 hown hG.1 hP 0 rfl rfl 10 (by decide) (hts _ kw237) (fun _ h9 => h9) rfl dX8_forget_19 ?_
  refine xa_alen (v := 28) hx hb hG hP 1 1 rfl rfl rfl dX8_forget_22 ?_
  refine lv_icmp_ge (tgt := 39) hx hb dX8_forget_23 (by decide) (fun h => absurd h (by decide +kernel)) (fun _ => ?_)
  refine lv_aload_n hx hb dX8_forget_26 rfl (lv_at hl 1 rfl) ?_
  refine va_get (D := D) (ci := 8) (v := .ref h8) (C := RX8) (T := TX8) (N := 18) hx hb hts inX8 hown hG.1 hP 0 rfl rfl 10 (by decide) (hts _ kw237) (fun _ h9 => h9) rfl dX8_forget_27 ?_
  refine lv_iload_n hx hb dX8_forget_30 rfl (lv_at hl 0 rfl) ?_
  refine lv_iconst (v := (-1)) hx hb dX8_forget_31 (by decide +kernel) ?_
  refine xa_istU hx hb hG hP hD hS 1 rfl (vin (by decide +kernel)) dX8_forget_32 (fun f_9 H locs hP hD hS => ?_)
  have hP : va_P D vwCl [(h0, .inr (8, [.int 0, .int 0, .int 0, .ref h1, .ref h2, .ref h3, .ref h4, .ref h5, .ref h6, .ref h7, .ref h8, .ref h9, .ref h10, .int 0, .int 0, .int 0, .int 0, .int 0])), (h8, .inl (cI, 28, .inl f_9)), (h9, .inr (1, [.ref h12, .ref h13, .int 0, .int 0, .int 0])), (h10, .inr (1, [.ref h14, .ref h15, .int 0, .int 0, .int 0]))] H := hP
  have hD : va_D A [(h0, .inr (8, [.int 0, .int 0, .int 0, .ref h1, .ref h2, .ref h3, .ref h4, .ref h5, .ref h6, .ref h7, .ref h8, .ref h9, .ref h10, .int 0, .int 0, .int 0, .int 0, .int 0])), (h8, .inl (cI, 28, .inl f_9)), (h9, .inr (1, [.ref h12, .ref h13, .int 0, .int 0, .int 0])), (h10, .inr (1, [.ref h14, .ref h15, .int 0, .int 0, .int 0]))] := hD
  refine lv_iinc (v := 9) (lv' := [(1, .int 9), (0, .ref h0)]) hx hb dX8_forget_33 hl (k := 0) rfl (by decide +kernel) (by decide) rfl (fun ls hl => ?_)
  refine lv_goto (tgt := 17) hx hb dX8_forget_36 (by decide) ?_
  refine lv_iload_n hx hb dX8_forget_17 rfl (lv_at hl 0 rfl) ?_
  refine lv_aload_n hx hb dX8_forget_18 rfl (lv_at hl 1 rfl) ?_
  refine va_get (D := D) (ci := 8) (v := .ref h8) (C := RX8) (T := TX8) (N := 18) hx hb hts inX8 hown hG.1 hP 0 rfl rfl 10 (by decide) (hts _ kw237) (fun _ h9 => h9) rfl dX8_forget_19 ?_
  refine xa_alen (v := 28) hx hb hG hP 1 1 rfl rfl rfl dX8_forget_22 ?_
  refine lv_icmp_ge (tgt := 39) hx hb dX8_forget_23 (by decide) (fun h => absurd h (by decide +kernel)) (fun _ => ?_)
  refine lv_aload_n hx hb dX8_forget_26 rfl (lv_at hl 1 rfl) ?_
  refine va_get (D := D) (ci := 8) (v := .ref h8) (C := RX8) (T := TX8) (N := 18) hx hb hts inX8 hown hG.1 hP 0 rfl rfl 10 (by decide) (hts _ kw237) (fun _ h9 => h9) rfl dX8_forget_27 ?_
  refine lv_iload_n hx hb dX8_forget_30 rfl (lv_at hl 0 rfl) ?_
  refine lv_iconst (v := (-1)) hx hb dX8_forget_31 (by decide +kernel) ?_
  refine xa_istU hx hb hG hP hD hS 1 rfl (vin (by decide +kernel)) dX8_forget_32 (fun f_10 H locs hP hD hS => ?_)
  have hP : va_P D vwCl [(h0, .inr (8, [.int 0, .int 0, .int 0, .ref h1, .ref h2, .ref h3, .ref h4, .ref h5, .ref h6, .ref h7, .ref h8, .ref h9, .ref h10, .int 0, .int 0, .int 0, .int 0, .int 0])), (h8, .inl (cI, 28, .inl f_10)), (h9, .inr (1, [.ref h12, .ref h13, .int 0, .int 0, .int 0])), (h10, .inr (1, [.ref h14, .ref h15, .int 0, .int 0, .int 0]))] H := hP
  have hD : va_D A [(h0, .inr (8, [.int 0, .int 0, .int 0, .ref h1, .ref h2, .ref h3, .ref h4, .ref h5, .ref h6, .ref h7, .ref h8, .ref h9, .ref h10, .int 0, .int 0, .int 0, .int 0, .int 0])), (h8, .inl (cI, 28, .inl f_10)), (h9, .inr (1, [.ref h12, .ref h13, .int 0, .int 0, .int 0])), (h10, .inr (1, [.ref h14, .ref h15, .int 0, .int 0, .int 0]))] := hD
  refine lv_iinc (v := 10) (lv' := [(1, .int 10), (0, .ref h0)]) hx hb dX8_forget_33 hl (k := 0) rfl (by decide +kernel) (by decide) rfl (fun ls hl => ?_)
  refine lv_goto (tgt := 17) hx hb dX8_forget_36 (by decide) ?_
  refine lv_iload_n hx hb dX8_forget_17 rfl (lv_at hl 0 rfl) ?_
  refine lv_aload_n hx hb dX8_forget_18 rfl (lv_at hl 1 rfl) ?_
  refine va_get (D := D) (ci := 8) (v := .ref h8) (C := RX8) (T := TX8) (N := 18) hx hb hts inX8 hown hG.1 hP 0 rfl rfl 10 (by decide) (hts _ kw237) (fun _ h9 => h9) rfl dX8_forget_19 ?_
  refine xa_alen (v := 28) hx hb hG hP 1 1 rfl rfl rfl dX8_forget_22 ?_
  refine lv_icmp_ge (tgt := 39) hx hb dX8_forget_23 (by decide) (fun h => absurd h (by decide +kernel)) (fun _ => ?_)
  refine lv_aload_n hx hb dX8_forget_26 rfl (lv_at hl 1 rfl) ?_
  refine va_get (D := D) (ci := 8) (v := .ref h8) (C := RX8) (T := TX8) (N := 18) hx hb hts inX8 hown hG.1 hP 0 rfl rfl 10 (by decide) (hts _ kw237) (fun _ h9 => h9) rfl dX8_forget_27 ?_
  refine lv_iload_n hx hb dX8_forget_30 rfl (lv_at hl 0 rfl) ?_
  refine lv_iconst (v := (-1)) hx hb dX8_forget_31 (by decide +kernel) ?_
  refine xa_istU hx hb hG hP hD hS 1 rfl (vin (by decide +kernel)) dX8_forget_32 (fun f_11 H locs hP hD hS => ?_)
  have hP : va_P D vwCl [(h0, .inr (8, [.int 0, .int 0, .int 0, .ref h1, .ref h2, .ref h3, .ref h4, .ref h5, .ref h6, .ref h7, .ref h8, .ref h9, .ref h10, .int 0, .int 0, .int 0, .int 0, .int 0])), (h8, .inl (cI, 28, .inl f_11)), (h9, .inr (1, [.ref h12, .ref h13, .int 0, .int 0, .int 0])), (h10, .inr (1, [.ref h14, .ref h15, .int 0, .int 0, .int 0]))] H := hP
  have hD : va_D A [(h0, .inr (8, [.int 0, .int 0, .int 0, .ref h1, .ref h2, .ref h3, .ref h4, .ref h5, .ref h6, .ref h7, .ref h8, .ref h9, .ref h10, .int 0, .int 0, .int 0, .int 0, .int 0])), (h8, .inl (cI, 28, .inl f_11)), (h9, .inr (1, [.ref h12, .ref h13, .int 0, .int 0, .int 0])), (h10, .inr (1, [.ref h14, .ref h15, .int 0, .int 0, .int 0]))] := hD
  refine lv_iinc (v := 11) (lv' := [(1, .int 11), (0, .ref h0)]) hx hb dX8_forget_33 hl (k := 0) rfl (by decide +kernel) (by decide) rfl (fun ls hl => ?_)
  refine lv_goto (tgt := 17) hx hb dX8_forget_36 (by decide) ?_
  refine lv_iload_n hx hb dX8_forget_17 rfl (lv_at hl 0 rfl) ?_
  refine lv_aload_n hx hb dX8_forget_18 rfl (lv_at hl 1 rfl) ?_
  refine va_get (D := D) (ci := 8) (v := .ref h8) (C := RX8) (T := TX8) (N := 18) hx hb hts inX8 hown hG.1 hP 0 rfl rfl 10 (by decide) (hts _ kw237) (fun _ h9 => h9) rfl dX8_forget_19 ?_
  refine xa_alen (v := 28) hx hb hG hP 1 1 rfl rfl rfl dX8_forget_22 ?_
  refine lv_icmp_ge (tgt := 39) hx hb dX8_forget_23 (by decide) (fun h => absurd h (by decide +kernel)) (fun _ => ?_)
  refine lv_aload_n hx hb dX8_forget_26 rfl (lv_at hl 1 rfl) ?_
  refine va_get (D := D) (ci := 8) (v := .ref h8) (C := RX8) (T := TX8) (N := 18) hx hb hts inX8 hown hG.1 hP 0 rfl rfl 10 (by decide) (hts _ kw237) (fun _ h9 => h9) rfl dX8_forget_27 ?_
  refine lv_iload_n hx hb dX8_forget_30 rfl (lv_at hl 0 rfl) ?_
  refine lv_iconst (v := (-1)) hx hb dX8_forget_31 (by decide +kernel) ?_
  refine xa_istU hx hb hG hP hD hS 1 rfl (vin (by decide +kernel)) dX8_forget_32 (fun f_12 H locs hP hD hS => ?_)
  have hP : va_P D vwCl [(h0, .inr (8, [.int 0, .int 0, .int 0, .ref h1, .ref h2, .ref h3, .ref h4, .ref h5, .ref h6, .ref h7, .ref h8, .ref h9, .ref h10, .int 0, .int 0, .int 0, .int 0, .int 0])), (h8, .inl (cI, 28, .inl f_12)), (h9, .inr (1, [.ref h12, .ref h13, .int 0, .int 0, .int 0])), (h10, .inr (1, [.ref h14, .ref h15, .int 0, .int 0, .int 0]))] H := hP
  have hD : va_D A [(h0, .inr (8, [.int 0, .int 0, .int 0, .ref h1, .ref h2, .ref h3, .ref h4, .ref h5, .ref h6, .ref h7, .ref h8, .ref h9, .ref h10, .int 0, .int 0, .int 0, .int 0, .int 0])), (h8, .inl (cI, 28, .inl f_12)), (h9, .inr (1, [.ref h12, .ref h13, .int 0, .int 0, .int 0])), (h10, .inr (1, [.ref h14, .ref h15, .int 0, .int 0, .int 0]))] := hD
  refine lv_iinc (v := 12) (lv' := [(1, .int 12), (0, .ref h0)]) hx hb dX8_forget_33 hl (k := 0) rfl (by decide +kernel) (by decide) rfl (fun ls hl => ?_)
  refine lv_goto (tgt := 17) hx hb dX8_forget_36 (by decide) ?_
  refine lv_iload_n hx hb dX8_forget_17 rfl (lv_at hl 0 rfl) ?_
  refine lv_aload_n hx hb dX8_forget_18 rfl (lv_at hl 1 rfl) ?_
  refine va_get (D := D) (ci := 8) (v := .ref h8) (C := RX8) (T := TX8) (N := 18) hx hb hts inX8 hown hG.1 hP 0 rfl rfl 10 (by decide) (hts _ kw237) (fun _ h9 => h9) rfl dX8_forget_19 ?_
  refine xa_alen (v := 28) hx hb hG hP 1 1 rfl rfl rfl dX8_forget_22 ?_
  refine lv_icmp_ge (tgt := 39) hx hb dX8_forget_23 (by decide) (fun h => absurd h (by decide +kernel)) (fun _ => ?_)
  refine lv_aload_n hx hb dX8_forget_26 rfl (lv_at hl 1 rfl) ?_
  refine va_get (D := D) (ci := 8) (v := .ref h8) (C := RX8) (T := TX8) (N := 18) hx hb hts inX8 hown hG.1 hP 0 rfl rfl 10 (by decide) (hts _ kw237) (fun _ h9 => h9) rfl dX8_forget_27 ?_
  refine lv_iload_n hx hb dX8_forget_30 rfl (lv_at hl 0 rfl) ?_
  refine lv_iconst (v := (-1)) hx hb dX8_forget_31 (by decide +kernel) ?_
  refine xa_istU hx hb hG hP hD hS 1 rfl (vin (by decide +kernel)) dX8_forget_32 (fun f_13 H locs hP hD hS => ?_)
  have hP : va_P D vwCl [(h0, .inr (8, [.int 0, .int 0, .int 0, .ref h1, .ref h2, .ref h3, .ref h4, .ref h5, .ref h6, .ref h7, .ref h8, .ref h9, .ref h10, .int 0, .int 0, .int 0, .int 0, .int 0])), (h8, .inl (cI, 28, .inl f_13)), (h9, .inr (1, [.ref h12, .ref h13, .int 0, .int 0, .int 0])), (h10, .inr (1, [.ref h14, .ref h15, .int 0, .int 0, .int 0]))] H := hP
  have hD : va_D A [(h0, .inr (8, [.int 0, .int 0, .int 0, .ref h1, .ref h2, .ref h3, .ref h4, .ref h5, .ref h6, .ref h7, .ref h8, .ref h9, .ref h10, .int 0, .int 0, .int 0, .int 0, .int 0])), (h8, .inl (cI, 28, .inl f_13)), (h9, .inr (1, [.ref h12, .ref h13, .int 0, .int 0, .int 0])), (h10, .inr (1, [.ref h14, .ref h15, .int 0, .int 0, .int 0]))] := hD
  refine lv_iinc (v := 13) (lv' := [(1, .int 13), (0, .ref h0)]) hx hb dX8_forget_33 hl (k := 0) rfl (by decide +kernel) (by decide) rfl (fun ls hl => ?_)
  refine lv_goto (tgt := 17) hx hb dX8_forget_36 (by decide) ?_
  refine lv_iload_n hx hb dX8_forget_17 rfl (lv_at hl 0 rfl) ?_
  refine lv_aload_n hx hb dX8_forget_18 rfl (lv_at hl 1 rfl) ?_
  refine va_get (D := D) (ci := 8) (v := .ref h8) (C := RX8) (T := TX8) (N := 18) hx hb hts inX8 hown hG.1 hP 0 rfl rfl 10 (by decide) (hts _ kw237) (fun _ h9 => h9) rfl dX8_forget_19 ?_
  refine xa_alen (v := 28) hx hb hG hP 1 1 rfl rfl rfl dX8_forget_22 ?_
  refine lv_icmp_ge (tgt := 39) hx hb dX8_forget_23 (by decide) (fun h => absurd h (by decide +kernel)) (fun _ => ?_)
  refine lv_aload_n hx hb dX8_forget_26 rfl (lv_at hl 1 rfl) ?_
  refine va_get (D := D) (ci := 8) (v := .ref h8) (C := RX8) (T := TX8) (N := 18) hx hb hts inX8 hown hG.1 hP 0 rfl rfl 10 (by decide) (hts _ kw237) (fun _ h9 => h9) rfl dX8_forget_27 ?_
  refine lv_iload_n hx hb dX8_forget_30 rfl (lv_at hl 0 rfl) ?_
  refine lv_iconst (v := (-1)) hx hb dX8_forget_31 (by decide +kernel) ?_
  refine xa_istU hx hb hG hP hD hS 1 rfl (vin (by decide +kernel)) dX8_forget_32 (fun f_14 H locs hP hD hS => ?_)
  have hP : va_P D vwCl [(h0, .inr (8, [.int 0, .int 0, .int 0, .ref h1, .ref h2, .ref h3, .ref h4, .ref h5, .ref h6, .ref h7, .ref h8, .ref h9, .ref h10, .int 0, .int 0, .int 0, .int 0, .int 0])), (h8, .inl (cI, 28, .inl f_14)), (h9, .inr (1, [.ref h12, .ref h13, .int 0, .int 0, .int 0])), (h10, .inr (1, [.ref h14, .ref h15, .int 0, .int 0, .int 0]))] H := hP
  have hD : va_D A [(h0, .inr (8, [.int 0, .int 0, .int 0, .ref h1, .ref h2, .ref h3, .ref h4, .ref h5, .ref h6, .ref h7, .ref h8, .ref h9, .ref h10, .int 0, .int 0, .int 0, .int 0, .int 0])), (h8, .inl (cI, 28, .inl f_14)), (h9, .inr (1, [.ref h12, .ref h13, .int 0, .int 0, .int 0])), (h10, .inr (1, [.ref h14, .ref h15, .int 0, .int 0, .int 0]))] := hD
  refine lv_iinc (v := 14) (lv' := [(1, .int 14), (0, .ref h0)]) hx hb dX8_forget_33 hl (k := 0) rfl (by decide +kernel) (by decide) rfl (fun ls hl => ?_)
  refine lv_goto (tgt := 17) hx hb dX8_forget_36 (by decide) ?_
  refine lv_iload_n hx hb dX8_forget_17 rfl (lv_at hl 0 rfl) ?_
  refine lv_aload_n hx hb dX8_forget_18 rfl (lv_at hl 1 rfl) ?_
  refine va_get (D := D) (ci := 8) (v := .ref h8) (C := RX8) (T := TX8) (N := 18) hx hb hts inX8 hown hG.1 hP 0 rfl rfl 10 (by decide) (hts _ kw237) (fun _ h9 => h9) rfl dX8_forget_19 ?_
  refine xa_alen (v := 28) hx hb hG hP 1 1 rfl rfl rfl dX8_forget_22 ?_
  refine lv_icmp_ge (tgt := 39) hx hb dX8_forget_23 (by decide) (fun h => absurd h (by decide +kernel)) (fun _ => ?_)
  refine lv_aload_n hx hb dX8_forget_26 rfl (lv_at hl 1 rfl) ?_
  refine va_get (D := D) (ci := 8) (v := .ref h8) (C := RX8) (T := TX8) (N := 18) hx hb hts inX8 hown hG.1 hP 0 rfl rfl 10 (by decide) (hts _ kw237) (fun _ h9 => h9) rfl dX8_forget_27 ?_
  refine lv_iload_n hx hb dX8_forget_30 rfl (lv_at hl 0 rfl) ?_
  refine lv_iconst (v := (-1)) hx hb dX8_forget_31 (by decide +kernel) ?_
  refine xa_istU hx hb hG hP hD hS 1 rfl (vin (by decide +kernel)) dX8_forget_32 (fun f_15 H locs hP hD hS => ?_)
  have hP : va_P D vwCl [(h0, .inr (8, [.int 0, .int 0, .int 0, .ref h1, .ref h2, .ref h3, .ref h4, .ref h5, .ref h6, .ref h7, .ref h8, .ref h9, .ref h10, .int 0, .int 0, .int 0, .int 0, .int 0])), (h8, .inl (cI, 28, .inl f_15)), (h9, .inr (1, [.ref h12, .ref h13, .int 0, .int 0, .int 0])), (h10, .inr (1, [.ref h14, .ref h15, .int 0, .int 0, .int 0]))] H := hP
  have hD : va_D A [(h0, .inr (8, [.int 0, .int 0, .int 0, .ref h1, .ref h2, .ref h3, .ref h4, .ref h5, .ref h6, .ref h7, .ref h8, .ref h9, .ref h10, .int 0, .int 0, .int 0, .int 0, .int 0])), (h8, .inl (cI, 28, .inl f_15)), (h9, .inr (1, [.ref h12, .ref h13, .int 0, .int 0, .int 0])), (h10, .inr (1, [.ref h14, .ref h15, .int 0, .int 0, .int 0]))] := hD
  refine lv_iinc (v := 15) (lv' := [(1, .int 15), (0, .ref h0)]) hx hb dX8_forget_33 hl (k := 0) rfl (by decide +kernel) (by decide) rfl (fun ls hl => ?_)
  refine lv_goto (tgt := 17) hx hb dX8_forget_36 (by decide) ?_
  refine lv_iload_n hx hb dX8_forget_17 rfl (lv_at hl 0 rfl) ?_
  refine lv_aload_n hx hb dX8_forget_18 rfl (lv_at hl 1 rfl) ?_
  refine va_get (D := D) (ci := 8) (v := .ref h8) (C := RX8) (T := TX8) (N := 18) hx hb hts inX8 hown hG.1 hP 0 rfl rfl 10 (by decide) (hts _ kw237) (fun _ h9 => h9) rfl dX8_forget_19 ?_
  refine xa_alen (v := 28) hx hb hG hP 1 1 rfl rfl rfl dX8_forget_22 ?_
  refine lv_icmp_ge (tgt := 39) hx hb dX8_forget_23 (by decide) (fun h => absurd h (by decide +kernel)) (fun _ => ?_)
  refine lv_aload_n hx hb dX8_forget_26 rfl (lv_at hl 1 rfl) ?_
  refine va_get (D := D) (ci := 8) (v := .ref h8) (C := RX8) (T := TX8) (N := 18) hx hb hts inX8 hown hG.1 hP 0 rfl rfl 10 (by decide) (hts _ kw237) (fun _ h9 => h9) rfl dX8_forget_27 ?_
  refine lv_iload_n hx hb dX8_forget_30 rfl (lv_at hl 0 rfl) ?_
  refine lv_iconst (v := (-1)) hx hb dX8_forget_31 (by decide +kernel) ?_
  refine xa_istU hx hb hG hP hD hS 1 rfl (vin (by decide +kernel)) dX8_forget_32 (fun f_16 H locs hP hD hS => ?_)
  have hP : va_P D vwCl [(h0, .inr (8, [.int 0, .int 0, .int 0, .ref h1, .ref h2, .ref h3, .ref h4, .ref h5, .ref h6, .ref h7, .ref h8, .ref h9, .ref h10, .int 0, .int 0, .int 0, .int 0, .int 0])), (h8, .inl (cI, 28, .inl f_16)), (h9, .inr (1, [.ref h12, .ref h13, .int 0, .int 0, .int 0])), (h10, .inr (1, [.ref h14, .ref h15, .int 0, .int 0, .int 0]))] H := hP
  have hD : va_D A [(h0, .inr (8, [.int 0, .int 0, .int 0, .ref h1, .ref h2, .ref h3, .ref h4, .ref h5, .ref h6, .ref h7, .ref h8, .ref h9, .ref h10, .int 0, .int 0, .int 0, .int 0, .int 0])), (h8, .inl (cI, 28, .inl f_16)), (h9, .inr (1, [.ref h12, .ref h13, .int 0, .int 0, .int 0])), (h10, .inr (1, [.ref h14, .ref h15, .int 0, .int 0, .int 0]))] := hD
  refine lv_iinc (v := 16) (lv' := [(1, .int 16), (0, .ref h0)]) hx hb dX8_forget_33 hl (k := 0) rfl (by decide +kernel) (by decide) rfl (fun ls hl => ?_)
  refine lv_goto (tgt := 17) hx hb dX8_forget_36 (by decide) ?_
  refine lv_iload_n hx hb dX8_forget_17 rfl (lv_at hl 0 rfl) ?_
  refine lv_aload_n hx hb dX8_forget_18 rfl (lv_at hl 1 rfl) ?_
  refine va_get (D := D) (ci := 8) (v := .ref h8) (C := RX8) (T := TX8) (N := 18) hx hb hts inX8 hown hG.1 hP 0 rfl rfl 10 (by decide) (hts _ kw237) (fun _ h9 => h9) rfl dX8_forget_19 ?_
  refine xa_alen (v := 28) hx hb hG hP 1 1 rfl rfl rfl dX8_forget_22 ?_
  refine lv_icmp_ge (tgt := 39) hx hb dX8_forget_23 (by decide) (fun h => absurd h (by decide +kernel)) (fun _ => ?_)
  refine lv_aload_n hx hb dX8_forget_26 rfl (lv_at hl 1 rfl) ?_
  refine va_get (D := D) (ci := 8) (v := .ref h8) (C := RX8) (T := TX8) (N := 18) hx hb hts inX8 hown hG.1 hP 0 rfl rfl 10 (by decide) (hts _ kw237) (fun _ h9 => h9) rfl dX8_forget_27 ?_
  refine lv_iload_n hx hb dX8_forget_30 rfl (lv_at hl 0 rfl) ?_
  refine lv_iconst (v := (-1)) hx hb dX8_forget_31 (by decide +kernel) ?_
  refine xa_istU hx hb hG hP hD hS 1 rfl (vin (by decide +kernel)) dX8_forget_32 (fun f_17 H locs hP hD hS => ?_)
  have hP : va_P D vwCl [(h0, .inr (8, [.int 0, .int 0, .int 0, .ref h1, .ref h2, .ref h3, .ref h4, .ref h5, .ref h6, .ref h7, .ref h8, .ref h9, .ref h10, .int 0, .int 0, .int 0, .int 0, .int 0])), (h8, .inl (cI, 28, .inl f_17)), (h9, .inr (1, [.ref h12, .ref h13, .int 0, .int 0, .int 0])), (h10, .inr (1, [.ref h14, .ref h15, .int 0, .int 0, .int 0]))] H := hP
  have hD : va_D A [(h0, .inr (8, [.int 0, .int 0, .int 0, .ref h1, .ref h2, .ref h3, .ref h4, .ref h5, .ref h6, .ref h7, .ref h8, .ref h9, .ref h10, .int 0, .int 0, .int 0, .int 0, .int 0])), (h8, .inl (cI, 28, .inl f_17)), (h9, .inr (1, [.ref h12, .ref h13, .int 0, .int 0, .int 0])), (h10, .inr (1, [.ref h14, .ref h15, .int 0, .int 0, .int 0]))] := hD
  refine lv_iinc (v := 17) (lv' := [(1, .int 17), (0, .ref h0)]) hx hb dX8_forget_33 hl (k := 0) rfl (by decide +kernel) (by decide) rfl (fun ls hl => ?_)
  refine lv_goto (tgt := 17) hx hb dX8_forget_36 (by decide) ?_
  refine lv_iload_n hx hb dX8_forget_17 rfl (lv_at hl 0 rfl) ?_
  refine lv_aload_n hx hb dX8_forget_18 rfl (lv_at hl 1 rfl) ?_
  refine va_get (D := D) (ci := 8) (v := .ref h8) (C := RX8) (T := TX8) (N := 18) hx hb hts inX8 hown hG.1 hP 0 rfl rfl 10 (by decide) (hts _ kw237) (fun _ h9 => h9) rfl dX8_forget_19 ?_
  refine xa_alen (v := 28) hx hb hG hP 1 1 rfl rfl rfl dX8_forget_22 ?_
  refine lv_icmp_ge (tgt := 39) hx hb dX8_forget_23 (by decide) (fun h => absurd h (by decide +kernel)) (fun _ => ?_)
  refine lv_aload_n hx hb dX8_forget_26 rfl (lv_at hl 1 rfl) ?_
  refine va_get (D := D) (ci := 8) (v := .ref h8) (C := RX8) (T := TX8) (N := 18) hx hb hts inX8 hown hG.1 hP 0 rfl rfl 10 (by decide) (hts _ kw237) (fun _ h9 => h9) rfl dX8_forget_27 ?_
  refine lv_iload_n hx hb dX8_forget_30 rfl (lv_at hl 0 rfl) ?_
  refine lv_iconst (v := (-1)) hx hb dX8_forget_31 (by decide +kernel) ?_
  refine xa_istU hx hb hG hP hD hS 1 rfl (vin (by decide +kernel)) dX8_forget_32 (fun f_18 H locs hP hD hS => ?_)
  have hP : va_P D vwCl [(h0, .inr (8, [.int 0, .int 0, .int 0, .ref h1, .ref h2, .ref h3, .ref h4, .ref h5, .ref h6, .ref h7, .ref h8, .ref h9, .ref h10, .int 0, .int 0, .int 0, .int 0, .int 0])), (h8, .inl (cI, 28, .inl f_18)), (h9, .inr (1, [.ref h12, .ref h13, .int 0, .int 0, .int 0])), (h10, .inr (1, [.ref h14, .ref h15, .int 0, .int 0, .int 0]))] H := hP
  have hD : va_D A [(h0, .inr (8, [.int 0, .int 0, .int 0, .ref h1, .ref h2, .ref h3, .ref h4, .ref h5, .ref h6, .ref h7, .ref h8, .ref h9, .ref h10, .int 0, .int 0, .int 0, .int 0, .int 0])), (h8, .inl (cI, 28, .inl f_18)), (h9, .inr (1, [.ref h12, .ref h13, .int 0, .int 0, .int 0])), (h10, .inr (1, [.ref h14, .ref h15, .int 0, .int 0, .int 0]))] := hD
  refine lv_iinc (v := 18) (lv' := [(1, .int 18), (0, .ref h0)]) hx hb dX8_forget_33 hl (k := 0) rfl (by decide +kernel) (by decide) rfl (fun ls hl => ?_)
  refine lv_goto (tgt := 17) hx hb dX8_forget_36 (by decide) ?_
  refine lv_iload_n hx hb dX8_forget_17 rfl (lv_at hl 0 rfl) ?_
  refine lv_aload_n hx hb dX8_forget_18 rfl (lv_at hl 1 rfl) ?_
  refine va_get (D := D) (ci := 8) (v := .ref h8) (C := RX8) (T := TX8) (N := 18) hx hb hts inX8 hown hG.1 hP 0 rfl rfl 10 (by decide) (hts _ kw237) (fun _ h9 => h9) rfl dX8_forget_19 ?_
  refine xa_alen (v := 28) hx hb hG hP 1 1 rfl rfl rfl dX8_forget_22 ?_
  refine lv_icmp_ge (tgt := 39) hx hb dX8_forget_23 (by decide) (fun h => absurd h (by decide +kernel)) (fun _ => ?_)
  refine lv_aload_n hx hb dX8_forget_26 rfl (lv_at hl 1 rfl) ?_
  refine va_get (D := D) (ci := 8) (v := .ref h8) (C := RX8) (T := TX8) (N := 18) hx hb hts inX8 hown hG.1 hP 0 rfl rfl 10 (by decide) (hts _ kw237) (fun _ h9 => h9) rfl dX8_forget_27 ?_
  refine lv_iload_n hx hb dX8_forget_30 rfl (lv_at hl 0 rfl) ?_
  refine lv_iconst (v := (-1)) hx hb dX8_forget_31 (by decide +kernel) ?_
  refine xa_istU hx hb hG hP hD hS 1 rfl (vin (by decide +kernel)) dX8_forget_32 (fun f_19 H locs hP hD hS => ?_)
  have hP : va_P D vwCl [(h0, .inr (8, [.int 0, .int 0, .int 0, .ref h1, .ref h2, .ref h3, .ref h4, .ref h5, .ref h6, .ref h7, .ref h8, .ref h9, .ref h10, .int 0, .int 0, .int 0, .int 0, .int 0])), (h8, .inl (cI, 28, .inl f_19)), (h9, .inr (1, [.ref h12, .ref h13, .int 0, .int 0, .int 0])), (h10, .inr (1, [.ref h14, .ref h15, .int 0, .int 0, .int 0]))] H := hP
  have hD : va_D A [(h0, .inr (8, [.int 0, .int 0, .int 0, .ref h1, .ref h2, .ref h3, .ref h4, .ref h5, .ref h6, .ref h7, .ref h8, .ref h9, .ref h10, .int 0, .int 0, .int 0, .int 0, .int 0])), (h8, .inl (cI, 28, .inl f_19)), (h9, .inr (1, [.ref h12, .ref h13, .int 0, .int 0, .int 0])), (h10, .inr (1, [.ref h14, .ref h15, .int 0, .int 0, .int 0]))] := hD
  refine lv_iinc (v := 19) (lv' := [(1, .int 19), (0, .ref h0)]) hx hb dX8_forget_33 hl (k := 0) rfl (by decide +kernel) (by decide) rfl (fun ls hl => ?_)
  refine lv_goto (tgt := 17) hx hb dX8_forget_36 (by decide) ?_
  refine lv_iload_n hx hb dX8_forget_17 rfl (lv_at hl 0 rfl) ?_
  refine lv_aload_n hx hb dX8_forget_18 rfl (lv_at hl 1 rfl) ?_
  refine va_get (D := D) (ci := 8) (v := .ref h8) (C := RX8) (T := TX8) (N := 18) hx hb hts inX8 hown hG.1 hP 0 rfl rfl 10 (by decide) (hts _ kw237) (fun _ h9 => h9) rfl dX8_forget_19 ?_
  refine xa_alen (v := 28) hx hb hG hP 1 1 rfl rfl rfl dX8_forget_22 ?_
  refine lv_icmp_ge (tgt := 39) hx hb dX8_forget_23 (by decide) (fun h => absurd h (by decide +kernel)) (fun _ => ?_)
  refine lv_aload_n hx hb dX8_forget_26 rfl (lv_at hl 1 rfl) ?_
  refine va_get (D := D) (ci := 8) (v := .ref h8) (C := RX8) (T := TX8) (N := 18) hx hb hts inX8 hown hG.1 hP 0 rfl rfl 10 (by decide) (hts _ kw237) (fun _ h9 => h9) rfl dX8_forget_27 ?_
  refine lv_iload_n hx hb dX8_forget_30 rfl (lv_at hl 0 rfl) ?_
  refine lv_iconst (v := (-1)) hx hb dX8_forget_31 (by decide +kernel) ?_
  refine xa_istU hx hb hG hP hD hS 1 rfl (vin (by decide +kernel)) dX8_forget_32 (fun f_20 H locs hP hD hS => ?_)
  have hP : va_P D vwCl [(h0, .inr (8, [.int 0, .int 0, .int 0, .ref h1, .ref h2, .ref h3, .ref h4, .ref h5, .ref h6, .ref h7, .ref h8, .ref h9, .ref h10, .int 0, .int 0, .int 0, .int 0, .int 0])), (h8, .inl (cI, 28, .inl f_20)), (h9, .inr (1, [.ref h12, .ref h13, .int 0, .int 0, .int 0])), (h10, .inr (1, [.ref h14, .ref h15, .int 0, .int 0, .int 0]))] H := hP
  have hD : va_D A [(h0, .inr (8, [.int 0, .int 0, .int 0, .ref h1, .ref h2, .ref h3, .ref h4, .ref h5, .ref h6, .ref h7, .ref h8, .ref h9, .ref h10, .int 0, .int 0, .int 0, .int 0, .int 0])), (h8, .inl (cI, 28, .inl f_20)), (h9, .inr (1, [.ref h12, .ref h13, .int 0, .int 0, .int 0])), (h10, .inr (1, [.ref h14, .ref h15, .int 0, .int 0, .int 0]))] := hD
  refine lv_iinc (v := 20) (lv' := [(1, .int 20), (0, .ref h0)]) hx hb dX8_forget_33 hl (k := 0) rfl (by decide +kernel) (by decide) rfl (fun ls hl => ?_)
  refine lv_goto (tgt := 17) hx hb dX8_forget_36 (by decide) ?_
  refine lv_iload_n hx hb dX8_forget_17 rfl (lv_at hl 0 rfl) ?_
  refine lv_aload_n hx hb dX8_forget_18 rfl (lv_at hl 1 rfl) ?_
  refine va_get (D := D) (ci := 8) (v := .ref h8) (C := RX8) (T := TX8) (N := 18) hx hb hts inX8 hown hG.1 hP 0 rfl rfl 10 (by decide) (hts _ kw237) (fun _ h9 => h9) rfl dX8_forget_19 ?_
  refine xa_alen (v := 28) hx hb hG hP 1 1 rfl rfl rfl dX8_forget_22 ?_
  refine lv_icmp_ge (tgt := 39) hx hb dX8_forget_23 (by decide) (fun h => absurd h (by decide +kernel)) (fun _ => ?_)
  refine lv_aload_n hx hb dX8_forget_26 rfl (lv_at hl 1 rfl) ?_
  refine va_get (D := D) (ci := 8) (v := .ref h8) (C := RX8) (T := TX8) (N := 18) hx hb hts inX8 hown hG.1 hP 0 rfl rfl 10 (by decide) (hts _ kw237) (fun _ h9 => h9) rfl dX8_forget_27 ?_
  refine lv_iload_n hx hb dX8_forget_30 rfl (lv_at hl 0 rfl) ?_
  refine lv_iconst (v := (-1)) hx hb dX8_forget_31 (by decide +kernel) ?_
  refine xa_istU hx hb hG hP hD hS 1 rfl (vin (by decide +kernel)) dX8_forget_32 (fun f_21 H locs hP hD hS => ?_)
  have hP : va_P D vwCl [(h0, .inr (8, [.int 0, .int 0, .int 0, .ref h1, .ref h2, .ref h3, .ref h4, .ref h5, .ref h6, .ref h7, .ref h8, .ref h9, .ref h10, .int 0, .int 0, .int 0, .int 0, .int 0])), (h8, .inl (cI, 28, .inl f_21)), (h9, .inr (1, [.ref h12, .ref h13, .int 0, .int 0, .int 0])), (h10, .inr (1, [.ref h14, .ref h15, .int 0, .int 0, .int 0]))] H := hP
  have hD : va_D A [(h0, .inr (8, [.int 0, .int 0, .int 0, .ref h1, .ref h2, .ref h3, .ref h4, .ref h5, .ref h6, .ref h7, .ref h8, .ref h9, .ref h10, .int 0, .int 0, .int 0, .int 0, .int 0])), (h8, .inl (cI, 28, .inl f_21)), (h9, .inr (1, [.ref h12, .ref h13, .int 0, .int 0, .int 0])), (h10, .inr (1, [.ref h14, .ref h15, .int 0, .int 0, .int 0]))] := hD
  refine lv_iinc (v := 21) (lv' := [(1, .int 21), (0, .ref h0)]) hx hb dX8_forget_33 hl (k := 0) rfl (by decide +kernel) (by decide) rfl (fun ls hl => ?_)
  refine lv_goto (tgt := 17) hx hb dX8_forget_36 (by decide) ?_
  refine lv_iload_n hx hb dX8_forget_17 rfl (lv_at hl 0 rfl) ?_
  refine lv_aload_n hx hb dX8_forget_18 rfl (lv_at hl 1 rfl) ?_
  refine va_get (D := D) (ci := 8) (v := .ref h8) (C := RX8) (T := TX8) (N := 18) hx hb hts inX8 hown hG.1 hP 0 rfl rfl 10 (by decide) (hts _ kw237) (fun _ h9 => h9) rfl dX8_forget_19 ?_
  refine xa_alen (v := 28) hx hb hG hP 1 1 rfl rfl rfl dX8_forget_22 ?_
  refine lv_icmp_ge (tgt := 39) hx hb dX8_forget_23 (by decide) (fun h => absurd h (by decide +kernel)) (fun _ => ?_)
  refine lv_aload_n hx hb dX8_forget_26 rfl (lv_at hl 1 rfl) ?_
  refine va_get (D := D) (ci := 8) (v := .ref h8) (C := RX8) (T := TX8) (N := 18) hx hb hts inX8 hown hG.1 hP 0 rfl rfl 10 (by decide) (hts _ kw237) (fun _ h9 => h9) rfl dX8_forget_27 ?_
  refine lv_iload_n hx hb dX8_forget_30 rfl (lv_at hl 0 rfl) ?_
  refine lv_iconst (v := (-1)) hx hb dX8_forget_31 (by decide +kernel) ?_
  refine xa_istU hx hb hG hP hD hS 1 rfl (vin (by decide +kernel)) dX8_forget_32 (fun f_22 H locs hP hD hS => ?_)
  have hP : va_P D vwCl [(h0, .inr (8, [.int 0, .int 0, .int 0, .ref h1, .ref h2, .ref h3, .ref h4, .ref h5, .ref h6, .ref h7, .ref h8, .ref h9, .ref h10, .int 0, .int 0, .int 0, .int 0, .int 0])), (h8, .inl (cI, 28, .inl f_22)), (h9, .inr (1, [.ref h12, .ref h13, .int 0, .int 0, .int 0])), (h10, .inr (1, [.ref h14, .ref h15, .int 0, .int 0, .int 0]))] H := hP
  have hD : va_D A [(h0, .inr (8, [.int 0, .int 0, .int 0, .ref h1, .ref h2, .ref h3, .ref h4, .ref h5, .ref h6, .ref h7, .ref h8, .ref h9, .ref h10, .int 0, .int 0, .int 0, .int 0, .int 0])), (h8, .inl (cI, 28, .inl f_22)), (h9, .inr (1, [.ref h12, .ref h13, .int 0, .int 0, .int 0])), (h10, .inr (1, [.ref h14, .ref h15, .int 0, .int 0, .int 0]))] := hD
  refine lv_iinc (v := 22) (lv' := [(1, .int 22), (0, .ref h0)]) hx hb dX8_forget_33 hl (k := 0) rfl (by decide +kernel) (by decide) rfl (fun ls hl => ?_)
  refine lv_goto (tgt := 17) hx hb dX8_forget_36 (by decide) ?_
  refine lv_iload_n hx hb dX8_forget_17 rfl (lv_at hl 0 rfl) ?_
  refine lv_aload_n hx hb dX8_forget_18 rfl (lv_at hl 1 rfl) ?_
  refine va_get (D := D) (ci := 8) (v := .ref h8) (C := RX8) (T := TX8) (N := 18) hx hb hts inX8 hown hG.1 hP 0 rfl rfl 10 (by decide) (hts _ kw237) (fun _ h9 => h9) rfl dX8_forget_19 ?_
  refine xa_alen (v := 28) hx hb hG hP 1 1 rfl rfl rfl dX8_forget_22 ?_
  refine lv_icmp_ge (tgt := 39) hx hb dX8_forget_23 (by decide) (fun h => absurd h (by decide +kernel)) (fun _ => ?_)
  refine lv_aload_n hx hb dX8_forget_26 rfl (lv_at hl 1 rfl) ?_
  refine va_get (D := D) (ci := 8) (v := .ref h8) (C := RX8) (T := TX8) (N := 18) hx hb hts inX8 hown hG.1 hP 0 rfl rfl 10 (by decide) (hts _ kw237) (fun _ h9 => h9) rfl dX8_forget_27 ?_
  refine lv_iload_n hx hb dX8_forget_30 rfl (lv_at hl 0 rfl) ?_
  refine lv_iconst (v := (-1)) hx hb dX8_forget_31 (by decide +kernel) ?_
  refine xa_istU hx hb hG hP hD hS 1 rfl (vin (by decide +kernel)) dX8_forget_32 (fun f_23 H locs hP hD hS => ?_)
  have hP : va_P D vwCl [(h0, .inr (8, [.int 0, .int 0, .int 0, .ref h1, .ref h2, .ref h3, .ref h4, .ref h5, .ref h6, .ref h7, .ref h8, .ref h9, .ref h10, .int 0, .int 0, .int 0, .int 0, .int 0])), (h8, .inl (cI, 28, .inl f_23)), (h9, .inr (1, [.ref h12, .ref h13, .int 0, .int 0, .int 0])), (h10, .inr (1, [.ref h14, .ref h15, .int 0, .int 0, .int 0]))] H := hP
  have hD : va_D A [(h0, .inr (8, [.int 0, .int 0, .int 0, .ref h1, .ref h2, .ref h3, .ref h4, .ref h5, .ref h6, .ref h7, .ref h8, .ref h9, .ref h10, .int 0, .int 0, .int 0, .int 0, .int 0])), (h8, .inl (cI, 28, .inl f_23)), (h9, .inr (1, [.ref h12, .ref h13, .int 0, .int 0, .int 0])), (h10, .inr (1, [.ref h14, .ref h15, .int 0, .int 0, .int 0]))] := hD
  refine lv_iinc (v := 23) (lv' := [(1, .int 23), (0, .ref h0)]) hx hb dX8_forget_33 hl (k := 0) rfl (by decide +kernel) (by decide) rfl (fun ls hl => ?_)
  refine lv_goto (tgt := 17) hx hb dX8_forget_36 (by decide) ?_
  refine lv_iload_n hx hb dX8_forget_17 rfl (lv_at hl 0 rfl) ?_
  refine lv_aload_n hx hb dX8_forget_18 rfl (lv_at hl 1 rfl) ?_
  refine va_get (D := D) (ci := 8) (v := .ref h8) (C := RX8) (T := TX8) (N := 18) hx hb hts inX8 hown hG.1 hP 0 rfl rfl 10 (by decide) (hts _ kw237) (fun _ h9 => h9) rfl dX8_forget_19 ?_
  refine xa_alen (v := 28) hx hb hG hP 1 1 rfl rfl rfl dX8_forget_22 ?_
  refine lv_icmp_ge (tgt := 39) hx hb dX8_forget_23 (by decide) (fun h => absurd h (by decide +kernel)) (fun _ => ?_)
  refine lv_aload_n hx hb dX8_forget_26 rfl (lv_at hl 1 rfl) ?_
  refine va_get (D := D) (ci := 8) (v := .ref h8) (C := RX8) (T := TX8) (N := 18) hx hb hts inX8 hown hG.1 hP 0 rfl rfl 10 (by decide) (hts _ kw237) (fun _ h9 => h9) rfl dX8_forget_27 ?_
  refine lv_iload_n hx hb dX8_forget_30 rfl (lv_at hl 0 rfl) ?_
  refine lv_iconst (v := (-1)) hx hb dX8_forget_31 (by decide +kernel) ?_
  refine xa_istU hx hb hG hP hD hS 1 rfl (vin (by decide +kernel)) dX8_forget_32 (fun f_24 H locs hP hD hS => ?_)
  have hP : va_P D vwCl [(h0, .inr (8, [.int 0, .int 0, .int 0, .ref h1, .ref h2, .ref h3, .ref h4, .ref h5, .ref h6, .ref h7, .ref h8, .ref h9, .ref h10, .int 0, .int 0, .int 0, .int 0, .int 0])), (h8, .inl (cI, 28, .inl f_24)), (h9, .inr (1, [.ref h12, .ref h13, .int 0, .int 0, .int 0])), (h10, .inr (1, [.ref h14, .ref h15, .int 0, .int 0, .int 0]))] H := hP
  have hD : va_D A [(h0, .inr (8, [.int 0, .int 0, .int 0, .ref h1, .ref h2, .ref h3, .ref h4, .ref h5, .ref h6, .ref h7, .ref h8, .ref h9, .ref h10, .int 0, .int 0, .int 0, .int 0, .int 0])), (h8, .inl (cI, 28, .inl f_24)), (h9, .inr (1, [.ref h12, .ref h13, .int 0, .int 0, .int 0])), (h10, .inr (1, [.ref h14, .ref h15, .int 0, .int 0, .int 0]))] := hD
  refine lv_iinc (v := 24) (lv' := [(1, .int 24), (0, .ref h0)]) hx hb dX8_forget_33 hl (k := 0) rfl (by decide +kernel) (by decide) rfl (fun ls hl => ?_)
  refine lv_goto (tgt := 17) hx hb dX8_forget_36 (by decide) ?_
  refine lv_iload_n hx hb dX8_forget_17 rfl (lv_at hl 0 rfl) ?_
  refine lv_aload_n hx hb dX8_forget_18 rfl (lv_at hl 1 rfl) ?_
  refine va_get (D := D) (ci := 8) (v := .ref h8) (C := RX8) (T := TX8) (N := 18) hx hb hts inX8 hown hG.1 hP 0 rfl rfl 10 (by decide) (hts _ kw237) (fun _ h9 => h9) rfl dX8_forget_19 ?_
  refine xa_alen (v := 28) hx hb hG hP 1 1 rfl rfl rfl dX8_forget_22 ?_
  refine lv_icmp_ge (tgt := 39) hx hb dX8_forget_23 (by decide) (fun h => absurd h (by decide +kernel)) (fun _ => ?_)
  refine lv_aload_n hx hb dX8_forget_26 rfl (lv_at hl 1 rfl) ?_
  refine va_get (D := D) (ci := 8) (v := .ref h8) (C := RX8) (T := TX8) (N := 18) hx hb hts inX8 hown hG.1 hP 0 rfl rfl 10 (by decide) (hts _ kw237) (fun _ h9 => h9) rfl dX8_forget_27 ?_
  refine lv_iload_n hx hb dX8_forget_30 rfl (lv_at hl 0 rfl) ?_
  refine lv_iconst (v := (-1)) hx hb dX8_forget_31 (by decide +kernel) ?_
  refine xa_istU hx hb hG hP hD hS 1 rfl (vin (by decide +kernel)) dX8_forget_32 (fun f_25 H locs hP hD hS => ?_)
  have hP : va_P D vwCl [(h0, .inr (8, [.int 0, .int 0, .int 0, .ref h1, .ref h2, .ref h3, .ref h4, .ref h5, .ref h6, .ref h7, .ref h8, .ref h9, .ref h10, .int 0, .int 0, .int 0, .int 0, .int 0])), (h8, .inl (cI, 28, .inl f_25)), (h9, .inr (1, [.ref h12, .ref h13, .int 0, .int 0, .int 0])), (h10, .inr (1, [.ref h14, .ref h15, .int 0, .int 0, .int 0]))] H := hP
  have hD : va_D A [(h0, .inr (8, [.int 0, .int 0, .int 0, .ref h1, .ref h2, .ref h3, .ref h4, .ref h5, .ref h6, .ref h7, .ref h8, .ref h9, .ref h10, .int 0, .int 0, .int 0, .int 0, .int 0])), (h8, .inl (cI, 28, .inl f_25)), (h9, .inr (1, [.ref h12, .ref h13, .int 0, .int 0, .int 0])), (h10, .inr (1, [.ref h14, .ref h15, .int 0, .int 0, .int 0]))] := hD
  refine lv_iinc (v := 25) (lv' := [(1, .int 25), (0, .ref h0)]) hx hb dX8_forget_33 hl (k := 0) rfl (by decide +kernel) (by decide) rfl (fun ls hl => ?_)
  refine lv_goto (tgt := 17) hx hb dX8_forget_36 (by decide) ?_
  refine lv_iload_n hx hb dX8_forget_17 rfl (lv_at hl 0 rfl) ?_
  refine lv_aload_n hx hb dX8_forget_18 rfl (lv_at hl 1 rfl) ?_
  refine va_get (D := D) (ci := 8) (v := .ref h8) (C := RX8) (T := TX8) (N := 18) hx hb hts inX8 hown hG.1 hP 0 rfl rfl 10 (by decide) (hts _ kw237) (fun _ h9 => h9) rfl dX8_forget_19 ?_
  refine xa_alen (v := 28) hx hb hG hP 1 1 rfl rfl rfl dX8_forget_22 ?_
  refine lv_icmp_ge (tgt := 39) hx hb dX8_forget_23 (by decide) (fun h => absurd h (by decide +kernel)) (fun _ => ?_)
  refine lv_aload_n hx hb dX8_forget_26 rfl (lv_at hl 1 rfl) ?_
  refine va_get (D := D) (ci := 8) (v := .ref h8) (C := RX8) (T := TX8) (N := 18) hx hb hts inX8 hown hG.1 hP 0 rfl rfl 10 (by decide) (hts _ kw237) (fun _ h9 => h9) rfl dX8_forget_27 ?_
  refine lv_iload_n hx hb dX8_forget_30 rfl (lv_at hl 0 rfl) ?_
  refine lv_iconst (v := (-1)) hx hb dX8_forget_31 (by decide +kernel) ?_
  refine xa_istU hx hb hG hP hD hS 1 rfl (vin (by decide +kernel)) dX8_forget_32 (fun f_26 H locs hP hD hS => ?_)
  have hP : va_P D vwCl [(h0, .inr (8, [.int 0, .int 0, .int 0, .ref h1, .ref h2, .ref h3, .ref h4, .ref h5, .ref h6, .ref h7, .ref h8, .ref h9, .ref h10, .int 0, .int 0, .int 0, .int 0, .int 0])), (h8, .inl (cI, 28, .inl f_26)), (h9, .inr (1, [.ref h12, .ref h13, .int 0, .int 0, .int 0])), (h10, .inr (1, [.ref h14, .ref h15, .int 0, .int 0, .int 0]))] H := hP
  have hD : va_D A [(h0, .inr (8, [.int 0, .int 0, .int 0, .ref h1, .ref h2, .ref h3, .ref h4, .ref h5, .ref h6, .ref h7, .ref h8, .ref h9, .ref h10, .int 0, .int 0, .int 0, .int 0, .int 0])), (h8, .inl (cI, 28, .inl f_26)), (h9, .inr (1, [.ref h12, .ref h13, .int 0, .int 0, .int 0])), (h10, .inr (1, [.ref h14, .ref h15, .int 0, .int 0, .int 0]))] := hD
  refine lv_iinc (v := 26) (lv' := [(1, .int 26), (0, .ref h0)]) hx hb dX8_forget_33 hl (k := 0) rfl (by decide +kernel) (by decide) rfl (fun ls hl => ?_)
  refine lv_goto (tgt := 17) hx hb dX8_forget_36 (by decide) ?_
  refine lv_iload_n hx hb dX8_forget_17 rfl (lv_at hl 0 rfl) ?_
  refine lv_aload_n hx hb dX8_forget_18 rfl (lv_at hl 1 rfl) ?_
  refine va_get (D := D) (ci := 8) (v := .ref h8) (C := RX8) (T := TX8) (N := 18) hx hb hts inX8 hown hG.1 hP 0 rfl rfl 10 (by decide) (hts _ kw237) (fun _ h9 => h9) rfl dX8_forget_19 ?_
  refine xa_alen (v := 28) hx hb hG hP 1 1 rfl rfl rfl dX8_forget_22 ?_
  refine lv_icmp_ge (tgt := 39) hx hb dX8_forget_23 (by decide) (fun h => absurd h (by decide +kernel)) (fun _ => ?_)
  refine lv_aload_n hx hb dX8_forget_26 rfl (lv_at hl 1 rfl) ?_
  refine va_get (D := D) (ci := 8) (v := .ref h8) (C := RX8) (T := TX8) (N := 18) hx hb hts inX8 hown hG.1 hP 0 rfl rfl 10 (by decide) (hts _ kw237) (fun _ h9 => h9) rfl dX8_forget_27 ?_
  refine lv_iload_n hx hb dX8_forget_30 rfl (lv_at hl 0 rfl) ?_
  refine lv_iconst (v := (-1)) hx hb dX8_forget_31 (by decide +kernel) ?_
  refine xa_istU hx hb hG hP hD hS 1 rfl (vin (by decide +kernel)) dX8_forget_32 (fun f_27 H locs hP hD hS => ?_)
  have hP : va_P D vwCl [(h0, .inr (8, [.int 0, .int 0, .int 0, .ref h1, .ref h2, .ref h3, .ref h4, .ref h5, .ref h6, .ref h7, .ref h8, .ref h9, .ref h10, .int 0, .int 0, .int 0, .int 0, .int 0])), (h8, .inl (cI, 28, .inl f_27)), (h9, .inr (1, [.ref h12, .ref h13, .int 0, .int 0, .int 0])), (h10, .inr (1, [.ref h14, .ref h15, .int 0, .int 0, .int 0]))] H := hP
  have hD : va_D A [(h0, .inr (8, [.int 0, .int 0, .int 0, .ref h1, .ref h2, .ref h3, .ref h4, .ref h5, .ref h6, .ref h7, .ref h8, .ref h9, .ref h10, .int 0, .int 0, .int 0, .int 0, .int 0])), (h8, .inl (cI, 28, .inl f_27)), (h9, .inr (1, [.ref h12, .ref h13, .int 0, .int 0, .int 0])), (h10, .inr (1, [.ref h14, .ref h15, .int 0, .int 0, .int 0]))] := hD
  refine lv_iinc (v := 27) (lv' := [(1, .int 27), (0, .ref h0)]) hx hb dX8_forget_33 hl (k := 0) rfl (by decide +kernel) (by decide) rfl (fun ls hl => ?_)
  refine lv_goto (tgt := 17) hx hb dX8_forget_36 (by decide) ?_
  refine lv_iload_n hx hb dX8_forget_17 rfl (lv_at hl 0 rfl) ?_
  refine lv_aload_n hx hb dX8_forget_18 rfl (lv_at hl 1 rfl) ?_
  refine va_get (D := D) (ci := 8) (v := .ref h8) (C := RX8) (T := TX8) (N := 18) hx hb hts inX8 hown hG.1 hP 0 rfl rfl 10 (by decide) (hts _ kw237) (fun _ h9 => h9) rfl dX8_forget_19 ?_
  refine xa_alen (v := 28) hx hb hG hP 1 1 rfl rfl rfl dX8_forget_22 ?_
  refine lv_icmp_ge (tgt := 39) hx hb dX8_forget_23 (by decide) (fun h => absurd h (by decide +kernel)) (fun _ => ?_)
  refine lv_aload_n hx hb dX8_forget_26 rfl (lv_at hl 1 rfl) ?_
  refine va_get (D := D) (ci := 8) (v := .ref h8) (C := RX8) (T := TX8) (N := 18) hx hb hts inX8 hown hG.1 hP 0 rfl rfl 10 (by decide) (hts _ kw237) (fun _ h9 => h9) rfl dX8_forget_27 ?_
  refine lv_iload_n hx hb dX8_forget_30 rfl (lv_at hl 0 rfl) ?_
  refine lv_iconst (v := (-1)) hx hb dX8_forget_31 (by decide +kernel) ?_
  refine xa_istU hx hb hG hP hD hS 1 rfl (vin (by decide +kernel)) dX8_forget_32 (fun f_28 H locs hP hD hS => ?_)
  have hP : va_P D vwCl [(h0, .inr (8, [.int 0, .int 0, .int 0, .ref h1, .ref h2, .ref h3, .ref h4, .ref h5, .ref h6, .ref h7, .ref h8, .ref h9, .ref h10, .int 0, .int 0, .int 0, .int 0, .int 0])), (h8, .inl (cI, 28, .inl f_28)), (h9, .inr (1, [.ref h12, .ref h13, .int 0, .int 0, .int 0])), (h10, .inr (1, [.ref h14, .ref h15, .int 0, .int 0, .int 0]))] H := hP
  have hD : va_D A [(h0, .inr (8, [.int 0, .int 0, .int 0, .ref h1, .ref h2, .ref h3, .ref h4, .ref h5, .ref h6, .ref h7, .ref h8, .ref h9, .ref h10, .int 0, .int 0, .int 0, .int 0, .int 0])), (h8, .inl (cI, 28, .inl f_28)), (h9, .inr (1, [.ref h12, .ref h13, .int 0, .int 0, .int 0])), (h10, .inr (1, [.ref h14, .ref h15, .int 0, .int 0, .int 0]))] := hD
  refine lv_iinc (v := 28) (lv' := [(1, .int 28), (0, .ref h0)]) hx hb dX8_forget_33 hl (k := 0) rfl (by decide +kernel) (by decide) rfl (fun ls hl => ?_)
  refine lv_goto (tgt := 17) hx hb dX8_forget_36 (by decide) ?_
  refine lv_iload_n hx hb dX8_forget_17 rfl (lv_at hl 0 rfl) ?_
  refine lv_aload_n hx hb dX8_forget_18 rfl (lv_at hl 1 rfl) ?_
  refine va_get (D := D) (ci := 8) (v := .ref h8) (C := RX8) (T := TX8) (N := 18) hx hb hts inX8 hown hG.1 hP 0 rfl rfl 10 (by decide) (hts _ kw237) (fun _ h9 => h9) rfl dX8_forget_19 ?_
  refine xa_alen (v := 28) hx hb hG hP 1 1 rfl rfl rfl dX8_forget_22 ?_
  refine lv_icmp_ge (tgt := 39) hx hb dX8_forget_23 (by decide) (fun _ => ?_) (fun h => absurd h (by decide +kernel))
  refine lv_aload_n hx hb dX8_forget_39 rfl (lv_at hl 1 rfl) ?_
  refine va_get (D := D) (ci := 8) (v := .ref h9) (C := RX8) (T := TX8) (N := 18) hx hb hts inX8 hown hG.1 hP 0 rfl rfl 11 (by decide) (hts _ kw239) (fun _ h9 => h9) rfl dX8_forget_40 ?_
  refine xc_core (wr := [(h0, .inr (8, [.int 0, .int 0, .int 0, .ref h1, .ref h2, .ref h3, .ref h4, .ref h5, .ref h6, .ref h7, .ref h8, .ref h9, .ref h10, .int 0, .int 0, .int 0, .int 0, .int 0])), (h8, .inl (cI, 28, .inl f_28)), (h10, .inr (1, [.ref h14, .ref h15, .int 0, .int 0, .int 0]))]) (k := 0) (n := 0) (xc_runV (As := []) (rest := []) hx hb hml hown hts hG hE hP hD hS hA [2] (by decide) rfl (cX1_forget_1 l D cB cI cJ cZ aK aV h9 h12 h13) kw196 kw193 kw194 kw195 kw115 (show XD yX1_forget 0 from by decide +kernel) (by decide) rfl rfl 2 rfl hl.1 rfl (Nat.le_of_ble_eq_true rfl) dX8_forget_43 (by decide)) hP hD hS hA [2] [0, 1, 3] rfl rfl (by decide) (by decide) (Nat.le_of_ble_eq_true rfl) (Nat.le_of_ble_eq_true rfl) (fun r w1 H locs hpost hP hD hS => ?_)
  obtain ⟨rfl, rfl⟩ := hpost
  have hP : va_P D vwCl [(h0, .inr (8, [.int 0, .int 0, .int 0, .ref h1, .ref h2, .ref h3, .ref h4, .ref h5, .ref h6, .ref h7, .ref h8, .ref h9, .ref h10, .int 0, .int 0, .int 0, .int 0, .int 0])), (h8, .inl (cI, 28, .inl f_28)), (h10, .inr (1, [.ref h14, .ref h15, .int 0, .int 0, .int 0])), (h9, .inr (1, [.ref h12, .ref h13, .int 0, .int 0, .int 0]))] H := hP
  have hD : va_D A [(h0, .inr (8, [.int 0, .int 0, .int 0, .ref h1, .ref h2, .ref h3, .ref h4, .ref h5, .ref h6, .ref h7, .ref h8, .ref h9, .ref h10, .int 0, .int 0, .int 0, .int 0, .int 0])), (h8, .inl (cI, 28, .inl f_28)), (h10, .inr (1, [.ref h14, .ref h15, .int 0, .int 0, .int 0])), (h9, .inr (1, [.ref h12, .ref h13, .int 0, .int 0, .int 0]))] := hD
  refine lv_aload_n hx hb dX8_forget_46 rfl (lv_at hl 1 rfl) ?_
  refine va_get (D := D) (ci := 8) (v := .ref h10) (C := RX8) (T := TX8) (N := 18) hx hb hts inX8 hown hG.1 hP 0 rfl rfl 12 (by decide) (hts _ kw242) (fun _ h9 => h9) rfl dX8_forget_47 ?_
  refine xc_core (wr := [(h0, .inr (8, [.int 0, .int 0, .int 0, .ref h1, .ref h2, .ref h3, .ref h4, .ref h5, .ref h6, .ref h7, .ref h8, .ref h9, .ref h10, .int 0, .int 0, .int 0, .int 0, .int 0])), (h8, .inl (cI, 28, .inl f_28)), (h9, .inr (1, [.ref h12, .ref h13, .int 0, .int 0, .int 0]))]) (k := 0) (n := 0) (xc_runV (As := []) (rest := []) hx hb hml hown hts hG hE hP hD hS hA [2] (by decide) rfl (cX1_forget_1 l D cB cI cJ cZ aK aV h10 h14 h15) kw196 kw193 kw194 kw195 kw115 (show XD yX1_forget 0 from by decide +kernel) (by decide) rfl rfl 2 rfl hl.1 rfl (Nat.le_of_ble_eq_true rfl) dX8_forget_50 (by decide)) hP hD hS hA [2] [0, 1, 3] rfl rfl (by decide) (by decide) (Nat.le_of_ble_eq_true rfl) (Nat.le_of_ble_eq_true rfl) (fun r w1 H locs hpost hP hD hS => ?_)
  obtain ⟨rfl, rfl⟩ := hpost
  have hP : va_P D vwCl [(h0, .inr (8, [.int 0, .int 0, .int 0, .ref h1, .ref h2, .ref h3, .ref h4, .ref h5, .ref h6, .ref h7, .ref h8, .ref h9, .ref h10, .int 0, .int 0, .int 0, .int 0, .int 0])), (h8, .inl (cI, 28, .inl f_28)), (h9, .inr (1, [.ref h12, .ref h13, .int 0, .int 0, .int 0])), (h10, .inr (1, [.ref h14, .ref h15, .int 0, .int 0, .int 0]))] H := hP
  have hD : va_D A [(h0, .inr (8, [.int 0, .int 0, .int 0, .ref h1, .ref h2, .ref h3, .ref h4, .ref h5, .ref h6, .ref h7, .ref h8, .ref h9, .ref h10, .int 0, .int 0, .int 0, .int 0, .int 0])), (h8, .inl (cI, 28, .inl f_28)), (h9, .inr (1, [.ref h12, .ref h13, .int 0, .int 0, .int 0])), (h10, .inr (1, [.ref h14, .ref h15, .int 0, .int 0, .int 0]))] := hD
  refine lv_aload_n hx hb dX8_forget_53 rfl (lv_at hl 1 rfl) ?_
  refine lv_iconst (v := 0) hx hb dX8_forget_54 (by decide +kernel) ?_
  refine va_put (D := D) (ci := 8) (v := .int 0) (ty := .int) (C := RX8) (T := TX8) (N := 18) hx hb hts inX8 tyX8 tyX8_ok nmX8 hown hG.1 hP hD hS 0 rfl rfl 13 (by decide) (hts _ kw246) (fun _ h9 => h9) rfl (by decide +kernel) rfl rfl (Nat.le_of_ble_eq_true rfl) dX8_forget_55 (fun H locs hP hD hS => ?_)
  have hP : va_P D vwCl [(h0, .inr (8, [.int 0, .int 0, .int 0, .ref h1, .ref h2, .ref h3, .ref h4, .ref h5, .ref h6, .ref h7, .ref h8, .ref h9, .ref h10, .int 0, .int 0, .int 0, .int 0, .int 0])), (h8, .inl (cI, 28, .inl f_28)), (h9, .inr (1, [.ref h12, .ref h13, .int 0, .int 0, .int 0])), (h10, .inr (1, [.ref h14, .ref h15, .int 0, .int 0, .int 0]))] H := hP
  have hD : va_D A [(h0, .inr (8, [.int 0, .int 0, .int 0, .ref h1, .ref h2, .ref h3, .ref h4, .ref h5, .ref h6, .ref h7, .ref h8, .ref h9, .ref h10, .int 0, .int 0, .int 0, .int 0, .int 0])), (h8, .inl (cI, 28, .inl f_28)), (h9, .inr (1, [.ref h12, .ref h13, .int 0, .int 0, .int 0])), (h10, .inr (1, [.ref h14, .ref h15, .int 0, .int 0, .int 0]))] := hD
  refine lv_aload_n hx hb dX8_forget_58 rfl (lv_at hl 1 rfl) ?_
  refine lv_iconst (v := 1) hx hb dX8_forget_59 (by decide +kernel) ?_
  refine va_put (D := D) (ci := 8) (v := .int 1) (ty := .int) (C := RX8) (T := TX8) (N := 18) hx hb hts inX8 tyX8 tyX8_ok nmX8 hown hG.1 hP hD hS 0 rfl rfl 14 (by decide) (hts _ kw250) (fun _ h9 => h9) rfl (by decide +kernel) rfl rfl (Nat.le_of_ble_eq_true rfl) dX8_forget_60 (fun H locs hP hD hS => ?_)
  have hP : va_P D vwCl [(h0, .inr (8, [.int 0, .int 0, .int 0, .ref h1, .ref h2, .ref h3, .ref h4, .ref h5, .ref h6, .ref h7, .ref h8, .ref h9, .ref h10, .int 0, .int 1, .int 0, .int 0, .int 0])), (h8, .inl (cI, 28, .inl f_28)), (h9, .inr (1, [.ref h12, .ref h13, .int 0, .int 0, .int 0])), (h10, .inr (1, [.ref h14, .ref h15, .int 0, .int 0, .int 0]))] H := hP
  have hD : va_D A [(h0, .inr (8, [.int 0, .int 0, .int 0, .ref h1, .ref h2, .ref h3, .ref h4, .ref h5, .ref h6, .ref h7, .ref h8, .ref h9, .ref h10, .int 0, .int 1, .int 0, .int 0, .int 0])), (h8, .inl (cI, 28, .inl f_28)), (h9, .inr (1, [.ref h12, .ref h13, .int 0, .int 0, .int 0])), (h10, .inr (1, [.ref h14, .ref h15, .int 0, .int 0, .int 0]))] := hD
  refine lv_aload_n hx hb dX8_forget_63 rfl (lv_at hl 1 rfl) ?_
  refine lv_iconst (v := 0) hx hb dX8_forget_64 (by decide +kernel) ?_
  refine va_put (D := D) (ci := 8) (v := .int 0) (ty := .boolean) (C := RX8) (T := TX8) (N := 18) hx hb hts inX8 tyX8 tyX8_ok nmX8 hown hG.1 hP hD hS 0 rfl rfl 15 (by decide) (hts _ kw253) (fun _ h9 => h9) rfl (by decide +kernel) (by decide +kernel) (by decide +kernel) (Nat.le_of_ble_eq_true rfl) dX8_forget_65 (fun H locs hP hD hS => ?_)
  have hP : va_P D vwCl [(h0, .inr (8, [.int 0, .int 0, .int 0, .ref h1, .ref h2, .ref h3, .ref h4, .ref h5, .ref h6, .ref h7, .ref h8, .ref h9, .ref h10, .int 0, .int 1, .int 0, .int 0, .int 0])), (h8, .inl (cI, 28, .inl f_28)), (h9, .inr (1, [.ref h12, .ref h13, .int 0, .int 0, .int 0])), (h10, .inr (1, [.ref h14, .ref h15, .int 0, .int 0, .int 0]))] H := hP
  have hD : va_D A [(h0, .inr (8, [.int 0, .int 0, .int 0, .ref h1, .ref h2, .ref h3, .ref h4, .ref h5, .ref h6, .ref h7, .ref h8, .ref h9, .ref h10, .int 0, .int 1, .int 0, .int 0, .int 0])), (h8, .inl (cI, 28, .inl f_28)), (h9, .inr (1, [.ref h12, .ref h13, .int 0, .int 0, .int 0])), (h10, .inr (1, [.ref h14, .ref h15, .int 0, .int 0, .int 0]))] := hD
  refine lv_aload_n hx hb dX8_forget_68 rfl (lv_at hl 1 rfl) ?_
  refine lv_iconst (v := 0) hx hb dX8_forget_69 (by decide +kernel) ?_
  refine va_put (D := D) (ci := 8) (v := .int 0) (ty := .int) (C := RX8) (T := TX8) (N := 18) hx hb hts inX8 tyX8 tyX8_ok nmX8 hown hG.1 hP hD hS 0 rfl rfl 16 (by decide) (hts _ kw255) (fun _ h9 => h9) rfl (by decide +kernel) rfl rfl (Nat.le_of_ble_eq_true rfl) dX8_forget_70 (fun H locs hP hD hS => ?_)
  have hP : va_P D vwCl [(h0, .inr (8, [.int 0, .int 0, .int 0, .ref h1, .ref h2, .ref h3, .ref h4, .ref h5, .ref h6, .ref h7, .ref h8, .ref h9, .ref h10, .int 0, .int 1, .int 0, .int 0, .int 0])), (h8, .inl (cI, 28, .inl f_28)), (h9, .inr (1, [.ref h12, .ref h13, .int 0, .int 0, .int 0])), (h10, .inr (1, [.ref h14, .ref h15, .int 0, .int 0, .int 0]))] H := hP
  have hD : va_D A [(h0, .inr (8, [.int 0, .int 0, .int 0, .ref h1, .ref h2, .ref h3, .ref h4, .ref h5, .ref h6, .ref h7, .ref h8, .ref h9, .ref h10, .int 0, .int 1, .int 0, .int 0, .int 0])), (h8, .inl (cI, 28, .inl f_28)), (h9, .inr (1, [.ref h12, .ref h13, .int 0, .int 0, .int 0])), (h10, .inr (1, [.ref h14, .ref h15, .int 0, .int 0, .int 0]))] := hD
  refine lv_aload_n hx hb dX8_forget_73 rfl (lv_at hl 1 rfl) ?_
  refine lv_iconst (v := 0) hx hb dX8_forget_74 (by decide +kernel) ?_
  refine va_put (D := D) (ci := 8) (v := .int 0) (ty := .boolean) (C := RX8) (T := TX8) (N := 18) hx hb hts inX8 tyX8 tyX8_ok nmX8 hown hG.1 hP hD hS 0 rfl rfl 17 (by decide) (hts _ kw258) (fun _ h9 => h9) rfl (by decide +kernel) (by decide +kernel) (by decide +kernel) (Nat.le_of_ble_eq_true rfl) dX8_forget_75 (fun H locs hP hD hS => ?_)
  have hP : va_P D vwCl [(h0, .inr (8, [.int 0, .int 0, .int 0, .ref h1, .ref h2, .ref h3, .ref h4, .ref h5, .ref h6, .ref h7, .ref h8, .ref h9, .ref h10, .int 0, .int 1, .int 0, .int 0, .int 0])), (h8, .inl (cI, 28, .inl f_28)), (h9, .inr (1, [.ref h12, .ref h13, .int 0, .int 0, .int 0])), (h10, .inr (1, [.ref h14, .ref h15, .int 0, .int 0, .int 0]))] H := hP
  have hD : va_D A [(h0, .inr (8, [.int 0, .int 0, .int 0, .ref h1, .ref h2, .ref h3, .ref h4, .ref h5, .ref h6, .ref h7, .ref h8, .ref h9, .ref h10, .int 0, .int 1, .int 0, .int 0, .int 0])), (h8, .inl (cI, 28, .inl f_28)), (h9, .inr (1, [.ref h12, .ref h13, .int 0, .int 0, .int 0])), (h10, .inr (1, [.ref h14, .ref h15, .int 0, .int 0, .int 0]))] := hD
  have hP9 := hP.sub (ws' := [(h0, .inr (8, [.int 0, .int 0, .int 0, .ref h1, .ref h2, .ref h3, .ref h4, .ref h5, .ref h6, .ref h7, .ref h8, .ref h9, .ref h10, .int 0, .int 1, .int 0, .int 0, .int 0])), (h8, .inl (cI, 28, .inl f_28)), (h9, .inr (1, [.ref h12, .ref h13, .int 0, .int 0, .int 0])), (h10, .inr (1, [.ref h14, .ref h15, .int 0, .int 0, .int 0]))]) [0, 1, 2, 3] rfl
  have hD9 := hD.sub (ws' := [(h0, .inr (8, [.int 0, .int 0, .int 0, .ref h1, .ref h2, .ref h3, .ref h4, .ref h5, .ref h6, .ref h7, .ref h8, .ref h9, .ref h10, .int 0, .int 1, .int 0, .int 0, .int 0])), (h8, .inl (cI, 28, .inl f_28)), (h9, .inr (1, [.ref h12, .ref h13, .int 0, .int 0, .int 0])), (h10, .inr (1, [.ref h14, .ref h15, .int 0, .int 0, .int 0]))]) [0, 1, 2, 3] (by decide) rfl
  exact xr_v (rm := (rmL 2 0 0)) hx hb hr hlocks hAe hS hP9 hD9 (Nat.le_of_ble_eq_true rfl) (Nat.le_of_ble_eq_true rfl) dX8_forget_78 ⟨f_28, rfl, rfl⟩
theorem kw189 : (.methodLink RX8 46 yX8_forget : Cond) ∈ gT := gT_of 189 (by decide +kernel) (by decide +kernel)
theorem kw192 : (.code yX8_forget cX8_forget 2 none : Cond) ∈ gT := gT_of 192 (by decide +kernel) (by decide +kernel)
theorem kw190 : (.instanceMethod yX8_forget : Cond) ∈ gT := gT_of 190 (by decide +kernel) (by decide +kernel)
theorem kw191 : (.selects RX8 yX8_forget yX8_forget : Cond) ∈ gT := gT_of 191 (by decide +kernel) (by decide +kernel)
theorem kw114 : (.initialized RX8 : Cond) ∈ gT := gT_of 114 (by decide +kernel) (by decide +kernel)
theorem dX8_init_89 : decode cX8_init 89 = .ok (.invokevirtual 46, 3) := by decide +kernel
theorem dX8_init_92 : decode cX8_init 92 = .ok (.return_, 1) := by decide +kernel
set_option maxHeartbeats 4000000 in
set_option maxRecDepth 100000 in
theorem cX8_init_1 (l : Launch) (D : va_G) (cB cI cJ cZ : ClassId) (aK aV : Nat → Nat) (h0 : Nat) : MX l yX8_init cX8_init 1 none (rmL 3 14 684) D cB cI cJ cZ aK aV [.ref h0] [(h0, .inr (8, [.int 0, .int 0, .int 0, .null, .null, .null, .null, .null, .null, .null, .null, .null, .null, .int 0, .int 0, .int 0, .int 0, .int 0]))] (fun r w1 => ∃ q_1 : Nat, ∃ q_2 : Nat, ∃ q_3 : Nat, ∃ q_4 : Nat, ∃ q_5 : Nat, ∃ q_6 : Nat, ∃ q_7 : Nat, ∃ q_8 : Nat, ∃ q_9 : Nat, ∃ q_12 : Nat, ∃ f_42 : Nat → Int32, ∃ q_10 : Nat, ∃ q_11 : Nat, ∃ q_13 : Nat, ∃ q_14 : Nat, r = none ∧ w1 = [(h0, .inr (8, [.int 0, .int 0, .int 0, .ref q_1, .ref q_2, .ref q_3, .ref q_4, .ref q_5, .ref q_6, .ref q_7, .ref q_8, .ref q_9, .ref q_12, .int 0, .int 1, .int 0, .int 0, .int 0])), (q_1, .inl (cI, 4, .inl (fun _ => 0))), (q_2, .inl (cI, 3, .inl (fun _ => 0))), (q_3, .inl (cI, 7, .inl (fun _ => 0))), (q_4, .inl (cI, 7, .inl (fun _ => 0))), (q_5, .inl (cI, 7, .inl (fun _ => 0))), (q_6, .inl (cI, 7, .inl (fun _ => 0))), (q_7, .inl (cI, 7, .inl (fun _ => 0))), (q_8, .inl (cI, 28, .inl f_42)), (q_9, .inr (1, [.ref q_10, .ref q_11, .int 0, .int 0, .int 0])), (q_10, .inl (cI, 272, .inl (fun _ => 0))), (q_11, .inl (cI, 30, .inl (fun _ => 0))), (q_12, .inr (1, [.ref q_13, .ref q_14, .int 0, .int 0, .int 0])), (q_13, .inl (cI, 272, .inl (fun _ => 0))), (q_14, .inl (cI, 30, .inl (fun _ => 0)))]) := by
  refine MX.intro (by decide) (Nat.le_of_ble_eq_true rfl) ?_
  intro p e s m below meth c A ls hx hb hr hml hown hlocks hnm hts hG hE hA hS hP hD hl hAe
  have hl : lv_has ls 1 [(0, .ref h0)] := hl
  have hown : s.vm.findClass RX8 = some m.cls := hown
  refine lv_aload_n hx hb dX8_init_0 rfl (lv_at hl 0 rfl) ?_
  refine W.objInit hx hb hown (hts _ kw161) (hts _ kw137) (hts _ kw138) rfl (by rw [hml]; exact hl.1) rfl dX8_init_1 (Nat.le_of_ble_eq_true rfl) (Nat.le_of_ble_eq_true rfl) ?_
  refine W.eq (g2 := F0 m 4 ls []) rfl ?_
  refine lv_aload_n hx hb dX8_init_4 rfl (lv_at hl 0 rfl) ?_
  refine lv_iconst (v := 4) hx hb dX8_init_5 (by decide +kernel) ?_
  refine xn_newa (D := D) (a0 := (4, .inl (fun _ => 0))) (N' := 4) (k1 := 1) (n1 := 4) (cA := cI) hx hb (ty := .int) rfl hts kw188 hG hP hD hS hA 1 rfl (fun _ h9 => h9) (fun _ => rfl) (by decide) (by decide +kernel) (by decide) (Nat.le_of_ble_eq_true rfl) (Nat.le_of_ble_eq_true rfl) (Nat.le_of_ble_eq_true rfl) (Nat.le_of_ble_eq_true rfl) dX8_init_6 (fun q_1 H hP hD hS => ?_)
  have hP : va_P D vwCl [(h0, .inr (8, [.int 0, .int 0, .int 0, .null, .null, .null, .null, .null, .null, .null, .null, .null, .null, .int 0, .int 0, .int 0, .int 0, .int 0])), (q_1, .inl (cI, 4, .inl (fun _ => 0)))] H := hP
  have hD : va_D A [(h0, .inr (8, [.int 0, .int 0, .int 0, .null, .null, .null, .null, .null, .null, .null, .null, .null, .null, .int 0, .int 0, .int 0, .int 0, .int 0])), (q_1, .inl (cI, 4, .inl (fun _ => 0)))] := hD
  refine va_putF (D := D) (ci := 8) (v := .ref q_1) (ty := .array .int) (C := RX8) (T := TX8) (N := 18) hx hb hts inX8 tyX8 tyX8_ok nmX8 hown hG.1 hP hD hS 0 rfl rfl 3 (by decide) (hts _ kw212) (fun _ h9 => h9) rfl hnm rfl (by decide +kernel) rfl rfl (Nat.le_of_ble_eq_true rfl) dX8_init_8 (fun H locs hP hD hS => ?_)
  have hP : va_P D vwCl [(h0, .inr (8, [.int 0, .int 0, .int 0, .ref q_1, .null, .null, .null, .null, .null, .null, .null, .null, .null, .int 0, .int 0, .int 0, .int 0, .int 0])), (q_1, .inl (cI, 4, .inl (fun _ => 0)))] H := hP
  have hD : va_D A [(h0, .inr (8, [.int 0, .int 0, .int 0, .ref q_1, .null, .null, .null, .null, .null, .null, .null, .null, .null, .int 0, .int 0, .int 0, .int 0, .int 0])), (q_1, .inl (cI, 4, .inl (fun _ => 0)))] := hD
  refine lv_aload_n hx hb dX8_init_11 rfl (lv_at hl 0 rfl) ?_
  refine lv_iconst (v := 3) hx hb dX8_init_12 (by decide +kernel) ?_
  refine xn_newa (D := D) (a0 := (3, .inl (fun _ => 0))) (N' := 3) (k1 := 2) (n1 := 7) (cA := cI) hx hb (ty := .int) rfl hts kw188 hG hP hD hS hA 1 rfl (fun _ h9 => h9) (fun _ => rfl) (by decide) (by decide +kernel) (by decide) (Nat.le_of_ble_eq_true rfl) (Nat.le_of_ble_eq_true rfl) (Nat.le_of_ble_eq_true rfl) (Nat.le_of_ble_eq_true rfl) dX8_init_13 (fun q_2 H hP hD hS => ?_)
  have hP : va_P D vwCl [(h0, .inr (8, [.int 0, .int 0, .int 0, .ref q_1, .null, .null, .null, .null, .null, .null, .null, .null, .null, .int 0, .int 0, .int 0, .int 0, .int 0])), (q_1, .inl (cI, 4, .inl (fun _ => 0))), (q_2, .inl (cI, 3, .inl (fun _ => 0)))] H := hP
  have hD : va_D A [(h0, .inr (8, [.int 0, .int 0, .int 0, .ref q_1, .null, .null, .null, .null, .null, .null, .null, .null, .null, .int 0, .int 0, .int 0, .int 0, .int 0])), (q_1, .inl (cI, 4, .inl (fun _ => 0))), (q_2, .inl (cI, 3, .inl (fun _ => 0)))] := hD
  refine va_putF (D := D) (ci := 8) (v := .ref q_2) (ty := .array .int) (C := RX8) (T := TX8) (N := 18) hx hb hts inX8 tyX8 tyX8_ok nmX8 hown hG.1 hP hD hS 0 rfl rfl 4 (by decide) (hts _ kw215) (fun _ h9 => h9) rfl hnm rfl (by decide +kernel) rfl rfl (Nat.le_of_ble_eq_true rfl) dX8_init_15 (fun H locs hP hD hS => ?_)
  have hP : va_P D vwCl [(h0, .inr (8, [.int 0, .int 0, .int 0, .ref q_1, .ref q_2, .null, .null, .null, .null, .null, .null, .null, .null, .int 0, .int 0, .int 0, .int 0, .int 0])), (q_1, .inl (cI, 4, .inl (fun _ => 0))), (q_2, .inl (cI, 3, .inl (fun _ => 0)))] H := hP
  have hD : va_D A [(h0, .inr (8, [.int 0, .int 0, .int 0, .ref q_1, .ref q_2, .null, .null, .null, .null, .null, .null, .null, .null, .int 0, .int 0, .int 0, .int 0, .int 0])), (q_1, .inl (cI, 4, .inl (fun _ => 0))), (q_2, .inl (cI, 3, .inl (fun _ => 0)))] := hD
  refine lv_aload_n hx hb dX8_init_18 rfl (lv_at hl 0 rfl) ?_
  refine lv_bipush (v := 7) hx hb dX8_init_19 (by decide +kernel) ?_
  refine xn_newa (D := D) (a0 := (7, .inl (fun _ => 0))) (N' := 7) (k1 := 3) (n1 := 14) (cA := cI) hx hb (ty := .int) rfl hts kw188 hG hP hD hS hA 1 rfl (fun _ h9 => h9) (fun _ => rfl) (by decide) (by decide +kernel) (by decide) (Nat.le_of_ble_eq_true rfl) (Nat.le_of_ble_eq_true rfl) (Nat.le_of_ble_eq_true rfl) (Nat.le_of_ble_eq_true rfl) dX8_init_21 (fun q_3 H hP hD hS => ?_)
  have hP : va_P D vwCl [(h0, .inr (8, [.int 0, .int 0, .int 0, .ref q_1, .ref q_2, .null, .null, .null, .null, .null, .null, .null, .null, .int 0, .int 0, .int 0, .int 0, .int 0])), (q_1, .inl (cI, 4, .inl (fun _ => 0))), (q_2, .inl (cI, 3, .inl (fun _ => 0))), (q_3, .inl (cI, 7, .inl (fun _ => 0)))] H := hP
  have hD : va_D A [(h0, .inr (8, [.int 0, .int 0, .int 0, .ref q_1, .ref q_2, .null, .null, .null, .null, .null, .null, .null, .null, .int 0, .int 0, .int 0, .int 0, .int 0])), (q_1, .inl (cI, 4, .inl (fun _ => 0))), (q_2, .inl (cI, 3, .inl (fun _ => 0))), (q_3, .inl (cI, 7, .inl (fun _ => 0)))] := hD
  refine va_putF (D := D) (ci := 8) (v := .ref q_3) (ty := .array .int) (C := RX8) (T := TX8) (N := 18) hx hb hts inX8 tyX8 tyX8_ok nmX8 hown hG.1 hP hD hS 0 rfl rfl 5 (by decide) (hts _ kw219) (fun _ h9 => h9) rfl hnm rfl (by decide +kernel) rfl rfl (Nat.le_of_ble_eq_true rfl) dX8_init_23 (fun H locs hP hD hS => ?_)
  have hP : va_P D vwCl [(h0, .inr (8, [.int 0, .int 0, .int 0, .ref q_1, .ref q_2, .ref q_3, .null, .null, .null, .null, .null, .null, .null, .int 0, .int 0, .int 0, .int 0, .int 0])), (q_1, .inl (cI, 4, .inl (fun _ => 0))), (q_2, .inl (cI, 3, .inl (fun _ => 0))), (q_3, .inl (cI, 7, .inl (fun _ => 0)))] H := hP
  have hD : va_D A [(h0, .inr (8, [.int 0, .int 0, .int 0, .ref q_1, .ref q_2, .ref q_3, .null, .null, .null, .null, .null, .null, .null, .int 0, .int 0, .int 0, .int 0, .int 0])), (q_1, .inl (cI, 4, .inl (fun _ => 0))), (q_2, .inl (cI, 3, .inl (fun _ => 0))), (q_3, .inl (cI, 7, .inl (fun _ => 0)))] := hD
  refine lv_aload_n hx hb dX8_init_26 rfl (lv_at hl 0 rfl) ?_
  refine lv_bipush (v := 7) hx hb dX8_init_27 (by decide +kernel) ?_
  refine xn_newa (D := D) (a0 := (7, .inl (fun _ => 0))) (N' := 7) (k1 := 4) (n1 := 21) (cA := cI) hx hb (ty := .int) rfl hts kw188 hG hP hD hS hA 1 rfl (fun _ h9 => h9) (fun _ => rfl) (by decide) (by decide +kernel) (by decide) (Nat.le_of_ble_eq_true rfl) (Nat.le_of_ble_eq_true rfl) (Nat.le_of_ble_eq_true rfl) (Nat.le_of_ble_eq_true rfl) dX8_init_29 (fun q_4 H hP hD hS => ?_)
  have hP : va_P D vwCl [(h0, .inr (8, [.int 0, .int 0, .int 0, .ref q_1, .ref q_2, .ref q_3, .null, .null, .null, .null, .null, .null, .null, .int 0, .int 0, .int 0, .int 0, .int 0])), (q_1, .inl (cI, 4, .inl (fun _ => 0))), (q_2, .inl (cI, 3, .inl (fun _ => 0))), (q_3, .inl (cI, 7, .inl (fun _ => 0))), (q_4, .inl (cI, 7, .inl (fun _ => 0)))] H := hP
  have hD : va_D A [(h0, .inr (8, [.int 0, .int 0, .int 0, .ref q_1, .ref q_2, .ref q_3, .null, .null, .null, .null, .null, .null, .null, .int 0, .int 0, .int 0, .int 0, .int 0])), (q_1, .inl (cI, 4, .inl (fun _ => 0))), (q_2, .inl (cI, 3, .inl (fun _ => 0))), (q_3, .inl (cI, 7, .inl (fun _ => 0))), (q_4, .inl (cI, 7, .inl (fun _ => 0)))] := hD
  refine va_putF (D := D) (ci := 8) (v := .ref q_4) (ty := .array .int) (C := RX8) (T := TX8) (N := 18) hx hb hts inX8 tyX8 tyX8_ok nmX8 hown hG.1 hP hD hS 0 rfl rfl 6 (by decide) (hts _ kw222) (fun _ h9 => h9) rfl hnm rfl (by decide +kernel) rfl rfl (Nat.le_of_ble_eq_true rfl) dX8_init_31 (fun H locs hP hD hS => ?_)
  have hP : va_P D vwCl [(h0, .inr (8, [.int 0, .int 0, .int 0, .ref q_1, .ref q_2, .ref q_3, .ref q_4, .null, .null, .null, .null, .null, .null, .int 0, .int 0, .int 0, .int 0, .int 0])), (q_1, .inl (cI, 4, .inl (fun _ => 0))), (q_2, .inl (cI, 3, .inl (fun _ => 0))), (q_3, .inl (cI, 7, .inl (fun _ => 0))), (q_4, .inl (cI, 7, .inl (fun _ => 0)))] H := hP
  have hD : va_D A [(h0, .inr (8, [.int 0, .int 0, .int 0, .ref q_1, .ref q_2, .ref q_3, .ref q_4, .null, .null, .null, .null, .null, .null, .int 0, .int 0, .int 0, .int 0, .int 0])), (q_1, .inl (cI, 4, .inl (fun _ => 0))), (q_2, .inl (cI, 3, .inl (fun _ => 0))), (q_3, .inl (cI, 7, .inl (fun _ => 0))), (q_4, .inl (cI, 7, .inl (fun _ => 0)))] := hD
  refine lv_aload_n hx hb dX8_init_34 rfl (lv_at hl 0 rfl) ?_
  refine lv_bipush (v := 7) hx hb dX8_init_35 (by decide +kernel) ?_
  refine xn_newa (D := D) (a0 := (7, .inl (fun _ => 0))) (N' := 7) (k1 := 5) (n1 := 28) (cA := cI) hx hb (ty := .int) rfl hts kw188 hG hP hD hS hA 1 rfl (fun _ h9 => h9) (fun _ => rfl) (by decide) (by decide +kernel) (by decide) (Nat.le_of_ble_eq_true rfl) (Nat.le_of_ble_eq_true rfl) (Nat.le_of_ble_eq_true rfl) (Nat.le_of_ble_eq_true rfl) dX8_init_37 (fun q_5 H hP hD hS => ?_)
  have hP : va_P D vwCl [(h0, .inr (8, [.int 0, .int 0, .int 0, .ref q_1, .ref q_2, .ref q_3, .ref q_4, .null, .null, .null, .null, .null, .null, .int 0, .int 0, .int 0, .int 0, .int 0])), (q_1, .inl (cI, 4, .inl (fun _ => 0))), (q_2, .inl (cI, 3, .inl (fun _ => 0))), (q_3, .inl (cI, 7, .inl (fun _ => 0))), (q_4, .inl (cI, 7, .inl (fun _ => 0))), (q_5, .inl (cI, 7, .inl (fun _ => 0)))] H := hP
  have hD : va_D A [(h0, .inr (8, [.int 0, .int 0, .int 0, .ref q_1, .ref q_2, .ref q_3, .ref q_4, .null, .null, .null, .null, .null, .null, .int 0, .int 0, .int 0, .int 0, .int 0])), (q_1, .inl (cI, 4, .inl (fun _ => 0))), (q_2, .inl (cI, 3, .inl (fun _ => 0))), (q_3, .inl (cI, 7, .inl (fun _ => 0))), (q_4, .inl (cI, 7, .inl (fun _ => 0))), (q_5, .inl (cI, 7, .inl (fun _ => 0)))] := hD
  refine va_putF (D := D) (ci := 8) (v := .ref q_5) (ty := .array .int) (C := RX8) (T := TX8) (N := 18) hx hb hts inX8 tyX8 tyX8_ok nmX8 hown hG.1 hP hD hS 0 rfl rfl 7 (by decide) (hts _ kw225) (fun _ h9 => h9) rfl hnm rfl (by decide +kernel) rfl rfl (Nat.le_of_ble_eq_true rfl) dX8_init_39 (fun H locs hP hD hS => ?_)
  have hP : va_P D vwCl [(h0, .inr (8, [.int 0, .int 0, .int 0, .ref q_1, .ref q_2, .ref q_3, .ref q_4, .ref q_5, .null, .null, .null, .null, .null, .int 0, .int 0, .int 0, .int 0, .int 0])), (q_1, .inl (cI, 4, .inl (fun _ => 0))), (q_2, .inl (cI, 3, .inl (fun _ => 0))), (q_3, .inl (cI, 7, .inl (fun _ => 0))), (q_4, .inl (cI, 7, .inl (fun _ => 0))), (q_5, .inl (cI, 7, .inl (fun _ => 0)))] H := hP
  have hD : va_D A [(h0, .inr (8, [.int 0, .int 0, .int 0, .ref q_1, .ref q_2, .ref q_3, .ref q_4, .ref q_5, .null, .null, .null, .null, .null, .int 0, .int 0, .int 0, .int 0, .int 0])), (q_1, .inl (cI, 4, .inl (fun _ => 0))), (q_2, .inl (cI, 3, .inl (fun _ => 0))), (q_3, .inl (cI, 7, .inl (fun _ => 0))), (q_4, .inl (cI, 7, .inl (fun _ => 0))), (q_5, .inl (cI, 7, .inl (fun _ => 0)))] := hD
  refine lv_aload_n hx hb dX8_init_42 rfl (lv_at hl 0 rfl) ?_
  refine lv_bipush (v := 7) hx hb dX8_init_43 (by decide +kernel) ?_
  refine xn_newa (D := D) (a0 := (7, .inl (fun _ => 0))) (N' := 7) (k1 := 6) (n1 := 35) (cA := cI) hx hb (ty := .int) rfl hts kw188 hG hP hD hS hA 1 rfl (fun _ h9 => h9) (fun _ => rfl) (by decide) (by decide +kernel) (by decide) (Nat.le_of_ble_eq_true rfl) (Nat.le_of_ble_eq_true rfl) (Nat.le_of_ble_eq_true rfl) (Nat.le_of_ble_eq_true rfl) dX8_init_45 (fun q_6 H hP hD hS => ?_)
  have hP : va_P D vwCl [(h0, .inr (8, [.int 0, .int 0, .int 0, .ref q_1, .ref q_2, .ref q_3, .ref q_4, .ref q_5, .null, .null, .null, .null, .null, .int 0, .int 0, .int 0, .int 0, .int 0])), (q_1, .inl (cI, 4, .inl (fun _ => 0))), (q_2, .inl (cI, 3, .inl (fun _ => 0))), (q_3, .inl (cI, 7, .inl (fun _ => 0))), (q_4, .inl (cI, 7, .inl (fun _ => 0))), (q_5, .inl (cI, 7, .inl (fun _ => 0))), (q_6, .inl (cI, 7, .inl (fun _ => 0)))] H := hP
  have hD : va_D A [(h0, .inr (8, [.int 0, .int 0, .int 0, .ref q_1, .ref q_2, .ref q_3, .ref q_4, .ref q_5, .null, .null, .null, .null, .null, .int 0, .int 0, .int 0, .int 0, .int 0])), (q_1, .inl (cI, 4, .inl (fun _ => 0))), (q_2, .inl (cI, 3, .inl (fun _ => 0))), (q_3, .inl (cI, 7, .inl (fun _ => 0))), (q_4, .inl (cI, 7, .inl (fun _ => 0))), (q_5, .inl (cI, 7, .inl (fun _ => 0))), (q_6, .inl (cI, 7, .inl (fun _ => 0)))] := hD
  refine va_putF (D := D) (ci := 8) (v := .ref q_6) (ty := .array .int) (C := RX8) (T := TX8) (N := 18) hx hb hts inX8 tyX8 tyX8_ok nmX8 hown hG.1 hP hD hS 0 rfl rfl 8 (by decide) (hts _ kw228) (fun _ h9 => h9) rfl hnm rfl (by decide +kernel) rfl rfl (Nat.le_of_ble_eq_true rfl) dX8_init_47 (fun H locs hP hD hS => ?_)
  have hP : va_P D vwCl [(h0, .inr (8, [.int 0, .int 0, .int 0, .ref q_1, .ref q_2, .ref q_3, .ref q_4, .ref q_5, .ref q_6, .null, .null, .null, .null, .int 0, .int 0, .int 0, .int 0, .int 0])), (q_1, .inl (cI, 4, .inl (fun _ => 0))), (q_2, .inl (cI, 3, .inl (fun _ => 0))), (q_3, .inl (cI, 7, .inl (fun _ => 0))), (q_4, .inl (cI, 7, .inl (fun _ => 0))), (q_5, .inl (cI, 7, .inl (fun _ => 0))), (q_6, .inl (cI, 7, .inl (fun _ => 0)))] H := hP
  have hD : va_D A [(h0, .inr (8, [.int 0, .int 0, .int 0, .ref q_1, .ref q_2, .ref q_3, .ref q_4, .ref q_5, .ref q_6, .null, .null, .null, .null, .int 0, .int 0, .int 0, .int 0, .int 0])), (q_1, .inl (cI, 4, .inl (fun _ => 0))), (q_2, .inl (cI, 3, .inl (fun _ => 0))), (q_3, .inl (cI, 7, .inl (fun _ => 0))), (q_4, .inl (cI, 7, .inl (fun _ => 0))), (q_5, .inl (cI, 7, .inl (fun _ => 0))), (q_6, .inl (cI, 7, .inl (fun _ => 0)))] := hD
  refine lv_aload_n hx hb dX8_init_50 rfl (lv_at hl 0 rfl) ?_
  refine lv_bipush (v := 7) hx hb dX8_init_51 (by decide +kernel) ?_
  refine xn_newa (D := D) (a0 := (7, .inl (fun _ => 0))) (N' := 7) (k1 := 7) (n1 := 42) (cA := cI) hx hb (ty := .int) rfl hts kw188 hG hP hD hS hA 1 rfl (fun _ h9 => h9) (fun _ => rfl) (by decide) (by decide +kernel) (by decide) (Nat.le_of_ble_eq_true rfl) (Nat.le_of_ble_eq_true rfl) (Nat.le_of_ble_eq_true rfl) (Nat.le_of_ble_eq_true rfl) dX8_init_53 (fun q_7 H hP hD hS => ?_)
  have hP : va_P D vwCl [(h0, .inr (8, [.int 0, .int 0, .int 0, .ref q_1, .ref q_2, .ref q_3, .ref q_4, .ref q_5, .ref q_6, .null, .null, .null, .null, .int 0, .int 0, .int 0, .int 0, .int 0])), (q_1, .inl (cI, 4, .inl (fun _ => 0))), (q_2, .inl (cI, 3, .inl (fun _ => 0))), (q_3, .inl (cI, 7, .inl (fun _ => 0))), (q_4, .inl (cI, 7, .inl (fun _ => 0))), (q_5, .inl (cI, 7, .inl (fun _ => 0))), (q_6, .inl (cI, 7, .inl (fun _ => 0))), (q_7, .inl (cI, 7, .inl (fun _ => 0)))] H := hP
  have hD : va_D A [(h0, .inr (8, [.int 0, .int 0, .int 0, .ref q_1, .ref q_2, .ref q_3, .ref q_4, .ref q_5, .ref q_6, .null, .null, .null, .null, .int 0, .int 0, .int 0, .int 0, .int 0])), (q_1, .inl (cI, 4, .inl (fun _ => 0))), (q_2, .inl (cI, 3, .inl (fun _ => 0))), (q_3, .inl (cI, 7, .inl (fun _ => 0))), (q_4, .inl (cI, 7, .inl (fun _ => 0))), (q_5, .inl (cI, 7, .inl (fun _ => 0))), (q_6, .inl (cI, 7, .inl (fun _ => 0))), (q_7, .inl (cI, 7, .inl (fun _ => 0)))] := hD
  refine va_putF (D := D) (ci := 8) (v := .ref q_7) (ty := .array .int) (C := RX8) (T := TX8) (N := 18) hx hb hts inX8 tyX8 tyX8_ok nmX8 hown hG.1 hP hD hS 0 rfl rfl 9 (by decide) (hts _ kw233) (fun _ h9 => h9) rfl hnm rfl (by decide +kernel) rfl rfl (Nat.le_of_ble_eq_true rfl) dX8_init_55 (fun H locs hP hD hS => ?_)
  have hP : va_P D vwCl [(h0, .inr (8, [.int 0, .int 0, .int 0, .ref q_1, .ref q_2, .ref q_3, .ref q_4, .ref q_5, .ref q_6, .ref q_7, .null, .null, .null, .int 0, .int 0, .int 0, .int 0, .int 0])), (q_1, .inl (cI, 4, .inl (fun _ => 0))), (q_2, .inl (cI, 3, .inl (fun _ => 0))), (q_3, .inl (cI, 7, .inl (fun _ => 0))), (q_4, .inl (cI, 7, .inl (fun _ => 0))), (q_5, .inl (cI, 7, .inl (fun _ => 0))), (q_6, .inl (cI, 7, .inl (fun _ => 0))), (q_7, .inl (cI, 7, .inl (fun _ => 0)))] H := hP
  have hD : va_D A [(h0, .inr (8, [.int 0, .int 0, .int 0, .ref q_1, .ref q_2, .ref q_3, .ref q_4, .ref q_5, .ref q_6, .ref q_7, .null, .null, .null, .int 0, .int 0, .int 0, .int 0, .int 0])), (q_1, .inl (cI, 4, .inl (fun _ => 0))), (q_2, .inl (cI, 3, .inl (fun _ => 0))), (q_3, .inl (cI, 7, .inl (fun _ => 0))), (q_4, .inl (cI, 7, .inl (fun _ => 0))), (q_5, .inl (cI, 7, .inl (fun _ => 0))), (q_6, .inl (cI, 7, .inl (fun _ => 0))), (q_7, .inl (cI, 7, .inl (fun _ => 0)))] := hD
  refine lv_aload_n hx hb dX8_init_58 rfl (lv_at hl 0 rfl) ?_
  refine lv_bipush (v := 28) hx hb dX8_init_59 (by decide +kernel) ?_
  refine xn_newa (D := D) (a0 := (28, .inl (fun _ => 0))) (N' := 28) (k1 := 8) (n1 := 70) (cA := cI) hx hb (ty := .int) rfl hts kw188 hG hP hD hS hA 1 rfl (fun _ h9 => h9) (fun _ => rfl) (by decide) (by decide +kernel) (by decide) (Nat.le_of_ble_eq_true rfl) (Nat.le_of_ble_eq_true rfl) (Nat.le_of_ble_eq_true rfl) (Nat.le_of_ble_eq_true rfl) dX8_init_61 (fun q_8 H hP hD hS => ?_)
  have hP : va_P D vwCl [(h0, .inr (8, [.int 0, .int 0, .int 0, .ref q_1, .ref q_2, .ref q_3, .ref q_4, .ref q_5, .ref q_6, .ref q_7, .null, .null, .null, .int 0, .int 0, .int 0, .int 0, .int 0])), (q_1, .inl (cI, 4, .inl (fun _ => 0))), (q_2, .inl (cI, 3, .inl (fun _ => 0))), (q_3, .inl (cI, 7, .inl (fun _ => 0))), (q_4, .inl (cI, 7, .inl (fun _ => 0))), (q_5, .inl (cI, 7, .inl (fun _ => 0))), (q_6, .inl (cI, 7, .inl (fun _ => 0))), (q_7, .inl (cI, 7, .inl (fun _ => 0))), (q_8, .inl (cI, 28, .inl (fun _ => 0)))] H := hP
  have hD : va_D A [(h0, .inr (8, [.int 0, .int 0, .int 0, .ref q_1, .ref q_2, .ref q_3, .ref q_4, .ref q_5, .ref q_6, .ref q_7, .null, .null, .null, .int 0, .int 0, .int 0, .int 0, .int 0])), (q_1, .inl (cI, 4, .inl (fun _ => 0))), (q_2, .inl (cI, 3, .inl (fun _ => 0))), (q_3, .inl (cI, 7, .inl (fun _ => 0))), (q_4, .inl (cI, 7, .inl (fun _ => 0))), (q_5, .inl (cI, 7, .inl (fun _ => 0))), (q_6, .inl (cI, 7, .inl (fun _ => 0))), (q_7, .inl (cI, 7, .inl (fun _ => 0))), (q_8, .inl (cI, 28, .inl (fun _ => 0)))] := hD
  refine va_putF (D := D) (ci := 8) (v := .ref q_8) (ty := .array .int) (C := RX8) (T := TX8) (N := 18) hx hb hts inX8 tyX8 tyX8_ok nmX8 hown hG.1 hP hD hS 0 rfl rfl 10 (by decide) (hts _ kw237) (fun _ h9 => h9) rfl hnm rfl (by decide +kernel) rfl rfl (Nat.le_of_ble_eq_true rfl) dX8_init_63 (fun H locs hP hD hS => ?_)
  have hP : va_P D vwCl [(h0, .inr (8, [.int 0, .int 0, .int 0, .ref q_1, .ref q_2, .ref q_3, .ref q_4, .ref q_5, .ref q_6, .ref q_7, .ref q_8, .null, .null, .int 0, .int 0, .int 0, .int 0, .int 0])), (q_1, .inl (cI, 4, .inl (fun _ => 0))), (q_2, .inl (cI, 3, .inl (fun _ => 0))), (q_3, .inl (cI, 7, .inl (fun _ => 0))), (q_4, .inl (cI, 7, .inl (fun _ => 0))), (q_5, .inl (cI, 7, .inl (fun _ => 0))), (q_6, .inl (cI, 7, .inl (fun _ => 0))), (q_7, .inl (cI, 7, .inl (fun _ => 0))), (q_8, .inl (cI, 28, .inl (fun _ => 0)))] H := hP
  have hD : va_D A [(h0, .inr (8, [.int 0, .int 0, .int 0, .ref q_1, .ref q_2, .ref q_3, .ref q_4, .ref q_5, .ref q_6, .ref q_7, .ref q_8, .null, .null, .int 0, .int 0, .int 0, .int 0, .int 0])), (q_1, .inl (cI, 4, .inl (fun _ => 0))), (q_2, .inl (cI, 3, .inl (fun _ => 0))), (q_3, .inl (cI, 7, .inl (fun _ => 0))), (q_4, .inl (cI, 7, .inl (fun _ => 0))), (q_5, .inl (cI, 7, .inl (fun _ => 0))), (q_6, .inl (cI, 7, .inl (fun _ => 0))), (q_7, .inl (cI, 7, .inl (fun _ => 0))), (q_8, .inl (cI, 28, .inl (fun _ => 0)))] := hD
  refine lv_aload_n hx hb dX8_init_66 rfl (lv_at hl 0 rfl) ?_
  refine xn_new (D := D) (ci := 1) (C := RX1) (T := TX1) (N := 5) (fs := [.null, .null, .int 0, .int 0, .int 0]) (k1 := 9) (n1 := 75) hx hb hts inX1 tyX1 tyX1_ok hown kw162 kw163 kw115 hG hP hD hS hA rfl (by decide +kernel) (Nat.le_of_ble_eq_true rfl) (Nat.le_of_ble_eq_true rfl) (Nat.le_of_ble_eq_true rfl) (Nat.le_of_ble_eq_true rfl) dX8_init_67 (fun q_9 H hP hD hS => ?_)
  have hP : va_P D vwCl [(h0, .inr (8, [.int 0, .int 0, .int 0, .ref q_1, .ref q_2, .ref q_3, .ref q_4, .ref q_5, .ref q_6, .ref q_7, .ref q_8, .null, .null, .int 0, .int 0, .int 0, .int 0, .int 0])), (q_1, .inl (cI, 4, .inl (fun _ => 0))), (q_2, .inl (cI, 3, .inl (fun _ => 0))), (q_3, .inl (cI, 7, .inl (fun _ => 0))), (q_4, .inl (cI, 7, .inl (fun _ => 0))), (q_5, .inl (cI, 7, .inl (fun _ => 0))), (q_6, .inl (cI, 7, .inl (fun _ => 0))), (q_7, .inl (cI, 7, .inl (fun _ => 0))), (q_8, .inl (cI, 28, .inl (fun _ => 0))), (q_9, .inr (1, [.null, .null, .int 0, .int 0, .int 0]))] H := hP
  have hD : va_D A [(h0, .inr (8, [.int 0, .int 0, .int 0, .ref q_1, .ref q_2, .ref q_3, .ref q_4, .ref q_5, .ref q_6, .ref q_7, .ref q_8, .null, .null, .int 0, .int 0, .int 0, .int 0, .int 0])), (q_1, .inl (cI, 4, .inl (fun _ => 0))), (q_2, .inl (cI, 3, .inl (fun _ => 0))), (q_3, .inl (cI, 7, .inl (fun _ => 0))), (q_4, .inl (cI, 7, .inl (fun _ => 0))), (q_5, .inl (cI, 7, .inl (fun _ => 0))), (q_6, .inl (cI, 7, .inl (fun _ => 0))), (q_7, .inl (cI, 7, .inl (fun _ => 0))), (q_8, .inl (cI, 28, .inl (fun _ => 0))), (q_9, .inr (1, [.null, .null, .int 0, .int 0, .int 0]))] := hD
  refine lv_dup hx hb dX8_init_70 rfl ?_
  refine xc_core (wr := [(h0, .inr (8, [.int 0, .int 0, .int 0, .ref q_1, .ref q_2, .ref q_3, .ref q_4, .ref q_5, .ref q_6, .ref q_7, .ref q_8, .null, .null, .int 0, .int 0, .int 0, .int 0, .int 0])), (q_1, .inl (cI, 4, .inl (fun _ => 0))), (q_2, .inl (cI, 3, .inl (fun _ => 0))), (q_3, .inl (cI, 7, .inl (fun _ => 0))), (q_4, .inl (cI, 7, .inl (fun _ => 0))), (q_5, .inl (cI, 7, .inl (fun _ => 0))), (q_6, .inl (cI, 7, .inl (fun _ => 0))), (q_7, .inl (cI, 7, .inl (fun _ => 0))), (q_8, .inl (cI, 28, .inl (fun _ => 0)))]) (k := 11) (n := 377) (xc_runIN (As := []) (rest := [.ref q_9, .ref h0]) hx hb hml hown hts hG hE hP hD hS hA [9] (by decide) rfl (cX1_init_1 l D cB cI cJ cZ aK aV q_9) kw166 (by decide +kernel) kw165 kw115 rfl (show XD yX1_init 0 from by decide +kernel) (by decide) hl.1 rfl (Nat.le_of_ble_eq_true rfl) dX8_init_71 (by decide)) hP hD hS hA [9] [0, 1, 2, 3, 4, 5, 6, 7, 8] rfl rfl (by decide) (by decide) (Nat.le_of_ble_eq_true rfl) (Nat.le_of_ble_eq_true rfl) (fun r w1 H locs hpost hP hD hS => ?_)
  obtain ⟨q_10, q_11, rfl, rfl⟩ := hpost
  have hP : va_P D vwCl [(h0, .inr (8, [.int 0, .int 0, .int 0, .ref q_1, .ref q_2, .ref q_3, .ref q_4, .ref q_5, .ref q_6, .ref q_7, .ref q_8, .null, .null, .int 0, .int 0, .int 0, .int 0, .int 0])), (q_1, .inl (cI, 4, .inl (fun _ => 0))), (q_2, .inl (cI, 3, .inl (fun _ => 0))), (q_3, .inl (cI, 7, .inl (fun _ => 0))), (q_4, .inl (cI, 7, .inl (fun _ => 0))), (q_5, .inl (cI, 7, .inl (fun _ => 0))), (q_6, .inl (cI, 7, .inl (fun _ => 0))), (q_7, .inl (cI, 7, .inl (fun _ => 0))), (q_8, .inl (cI, 28, .inl (fun _ => 0))), (q_9, .inr (1, [.ref q_10, .ref q_11, .int 0, .int 0, .int 0])), (q_10, .inl (cI, 272, .inl (fun _ => 0))), (q_11, .inl (cI, 30, .inl (fun _ => 0)))] H := hP
  have hD : va_D A [(h0, .inr (8, [.int 0, .int 0, .int 0, .ref q_1, .ref q_2, .ref q_3, .ref q_4, .ref q_5, .ref q_6, .ref q_7, .ref q_8, .null, .null, .int 0, .int 0, .int 0, .int 0, .int 0])), (q_1, .inl (cI, 4, .inl (fun _ => 0))), (q_2, .inl (cI, 3, .inl (fun _ => 0))), (q_3, .inl (cI, 7, .inl (fun _ => 0))), (q_4, .inl (cI, 7, .inl (fun _ => 0))), (q_5, .inl (cI, 7, .inl (fun _ => 0))), (q_6, .inl (cI, 7, .inl (fun _ => 0))), (q_7, .inl (cI, 7, .inl (fun _ => 0))), (q_8, .inl (cI, 28, .inl (fun _ => 0))), (q_9, .inr (1, [.ref q_10, .ref q_11, .int 0, .int 0, .int 0])), (q_10, .inl (cI, 272, .inl (fun _ => 0))), (q_11, .inl (cI, 30, .inl (fun _ => 0)))] := hD
  refine va_putF (D := D) (ci := 8) (v := .ref q_9) (ty := .object "SpiceSwaps$Formula") (C := RX8) (T := TX8) (N := 18) hx hb hts inX8 tyX8 tyX8_ok nmX8 hown hG.1 hP hD hS 0 rfl rfl 11 (by decide) (hts _ kw239) (fun _ h9 => h9) rfl hnm rfl (by decide +kernel) rfl rfl (Nat.le_of_ble_eq_true rfl) dX8_init_74 (fun H locs hP hD hS => ?_)
  have hP : va_P D vwCl [(h0, .inr (8, [.int 0, .int 0, .int 0, .ref q_1, .ref q_2, .ref q_3, .ref q_4, .ref q_5, .ref q_6, .ref q_7, .ref q_8, .ref q_9, .null, .int 0, .int 0, .int 0, .int 0, .int 0])), (q_1, .inl (cI, 4, .inl (fun _ => 0))), (q_2, .inl (cI, 3, .inl (fun _ => 0))), (q_3, .inl (cI, 7, .inl (fun _ => 0))), (q_4, .inl (cI, 7, .inl (fun _ => 0))), (q_5, .inl (cI, 7, .inl (fun _ => 0))), (q_6, .inl (cI, 7, .inl (fun _ => 0))), (q_7, .inl (cI, 7, .inl (fun _ => 0))), (q_8, .inl (cI, 28, .inl (fun _ => 0))), (q_9, .inr (1, [.ref q_10, .ref q_11, .int 0, .int 0, .int 0])), (q_10, .inl (cI, 272, .inl (fun _ => 0))), (q_11, .inl (cI, 30, .inl (fun _ => 0)))] H := hP
  have hD : va_D A [(h0, .inr (8, [.int 0, .int 0, .int 0, .ref q_1, .ref q_2, .ref q_3, .ref q_4, .ref q_5, .ref q_6, .ref q_7, .ref q_8, .ref q_9, .null, .int 0, .int 0, .int 0, .int 0, .int 0])), (q_1, .inl (cI, 4, .inl (fun _ => 0))), (q_2, .inl (cI, 3, .inl (fun _ => 0))), (q_3, .inl (cI, 7, .inl (fun _ => 0))), (q_4, .inl (cI, 7, .inl (fun _ => 0))), (q_5, .inl (cI, 7, .inl (fun _ => 0))), (q_6, .inl (cI, 7, .inl (fun _ => 0))), (q_7, .inl (cI, 7, .inl (fun _ => 0))), (q_8, .inl (cI, 28, .inl (fun _ => 0))), (q_9, .inr (1, [.ref q_10, .ref q_11, .int 0, .int 0, .int 0])), (q_10, .inl (cI, 272, .inl (fun _ => 0))), (q_11, .inl (cI, 30, .inl (fun _ => 0)))] := hD
  refine lv_aload_n hx hb dX8_init_77 rfl (lv_at hl 0 rfl) ?_
  refine xn_new (D := D) (ci := 1) (C := RX1) (T := TX1) (N := 5) (fs := [.null, .null, .int 0, .int 0, .int 0]) (k1 := 12) (n1 := 382) hx hb hts inX1 tyX1 tyX1_ok hown kw162 kw163 kw115 hG hP hD hS hA rfl (by decide +kernel) (Nat.le_of_ble_eq_true rfl) (Nat.le_of_ble_eq_true rfl) (Nat.le_of_ble_eq_true rfl) (Nat.le_of_ble_eq_true rfl) dX8_init_78 (fun q_12 H hP hD hS => ?_)
  have hP : va_P D vwCl [(h0, .inr (8, [.int 0, .int 0, .int 0, .ref q_1, .ref q_2, .ref q_3, .ref q_4, .ref q_5, .ref q_6, .ref q_7, .ref q_8, .ref q_9, .null, .int 0, .int 0, .int 0, .int 0, .int 0])), (q_1, .inl (cI, 4, .inl (fun _ => 0))), (q_2, .inl (cI, 3, .inl (fun _ => 0))), (q_3, .inl (cI, 7, .inl (fun _ => 0))), (q_4, .inl (cI, 7, .inl (fun _ => 0))), (q_5, .inl (cI, 7, .inl (fun _ => 0))), (q_6, .inl (cI, 7, .inl (fun _ => 0))), (q_7, .inl (cI, 7, .inl (fun _ => 0))), (q_8, .inl (cI, 28, .inl (fun _ => 0))), (q_9, .inr (1, [.ref q_10, .ref q_11, .int 0, .int 0, .int 0])), (q_10, .inl (cI, 272, .inl (fun _ => 0))), (q_11, .inl (cI, 30, .inl (fun _ => 0))), (q_12, .inr (1, [.null, .null, .int 0, .int 0, .int 0]))] H := hP
  have hD : va_D A [(h0, .inr (8, [.int 0, .int 0, .int 0, .ref q_1, .ref q_2, .ref q_3, .ref q_4, .ref q_5, .ref q_6, .ref q_7, .ref q_8, .ref q_9, .null, .int 0, .int 0, .int 0, .int 0, .int 0])), (q_1, .inl (cI, 4, .inl (fun _ => 0))), (q_2, .inl (cI, 3, .inl (fun _ => 0))), (q_3, .inl (cI, 7, .inl (fun _ => 0))), (q_4, .inl (cI, 7, .inl (fun _ => 0))), (q_5, .inl (cI, 7, .inl (fun _ => 0))), (q_6, .inl (cI, 7, .inl (fun _ => 0))), (q_7, .inl (cI, 7, .inl (fun _ => 0))), (q_8, .inl (cI, 28, .inl (fun _ => 0))), (q_9, .inr (1, [.ref q_10, .ref q_11, .int 0, .int 0, .int 0])), (q_10, .inl (cI, 272, .inl (fun _ => 0))), (q_11, .inl (cI, 30, .inl (fun _ => 0))), (q_12, .inr (1, [.null, .null, .int 0, .int 0, .int 0]))] := hD
  refine lv_dup hx hb dX8_init_81 rfl ?_
  refine xc_core (wr := [(h0, .inr (8, [.int 0, .int 0, .int 0, .ref q_1, .ref q_2, .ref q_3, .ref q_4, .ref q_5, .ref q_6, .ref q_7, .ref q_8, .ref q_9, .null, .int 0, .int 0, .int 0, .int 0, .int 0])), (q_1, .inl (cI, 4, .inl (fun _ => 0))), (q_2, .inl (cI, 3, .inl (fun _ => 0))), (q_3, .inl (cI, 7, .inl (fun _ => 0))), (q_4, .inl (cI, 7, .inl (fun _ => 0))), (q_5, .inl (cI, 7, .inl (fun _ => 0))), (q_6, .inl (cI, 7, .inl (fun _ => 0))), (q_7, .inl (cI, 7, .inl (fun _ => 0))), (q_8, .inl (cI, 28, .inl (fun _ => 0))), (q_9, .inr (1, [.ref q_10, .ref q_11, .int 0, .int 0, .int 0])), (q_10, .inl (cI, 272, .inl (fun _ => 0))), (q_11, .inl (cI, 30, .inl (fun _ => 0)))]) (k := 14) (n := 684) (xc_runIN (As := []) (rest := [.ref q_12, .ref h0]) hx hb hml hown hts hG hE hP hD hS hA [12] (by decide) rfl (cX1_init_1 l D cB cI cJ cZ aK aV q_12) kw166 (by decide +kernel) kw165 kw115 rfl (show XD yX1_init 0 from by decide +kernel) (by decide) hl.1 rfl (Nat.le_of_ble_eq_true rfl) dX8_init_82 (by decide)) hP hD hS hA [12] [0, 1, 2, 3, 4, 5, 6, 7, 8, 9, 10, 11] rfl rfl (by decide) (by decide) (Nat.le_of_ble_eq_true rfl) (Nat.le_of_ble_eq_true rfl) (fun r w1 H locs hpost hP hD hS => ?_)
  obtain ⟨q_13, q_14, rfl, rfl⟩ := hpost
  have hP : va_P D vwCl [(h0, .inr (8, [.int 0, .int 0, .int 0, .ref q_1, .ref q_2, .ref q_3, .ref q_4, .ref q_5, .ref q_6, .ref q_7, .ref q_8, .ref q_9, .null, .int 0, .int 0, .int 0, .int 0, .int 0])), (q_1, .inl (cI, 4, .inl (fun _ => 0))), (q_2, .inl (cI, 3, .inl (fun _ => 0))), (q_3, .inl (cI, 7, .inl (fun _ => 0))), (q_4, .inl (cI, 7, .inl (fun _ => 0))), (q_5, .inl (cI, 7, .inl (fun _ => 0))), (q_6, .inl (cI, 7, .inl (fun _ => 0))), (q_7, .inl (cI, 7, .inl (fun _ => 0))), (q_8, .inl (cI, 28, .inl (fun _ => 0))), (q_9, .inr (1, [.ref q_10, .ref q_11, .int 0, .int 0, .int 0])), (q_10, .inl (cI, 272, .inl (fun _ => 0))), (q_11, .inl (cI, 30, .inl (fun _ => 0))), (q_12, .inr (1, [.ref q_13, .ref q_14, .int 0, .int 0, .int 0])), (q_13, .inl (cI, 272, .inl (fun _ => 0))), (q_14, .inl (cI, 30, .inl (fun _ => 0)))] H := hP
  have hD : va_D A [(h0, .inr (8, [.int 0, .int 0, .int 0, .ref q_1, .ref q_2, .ref q_3, .ref q_4, .ref q_5, .ref q_6, .ref q_7, .ref q_8, .ref q_9, .null, .int 0, .int 0, .int 0, .int 0, .int 0])), (q_1, .inl (cI, 4, .inl (fun _ => 0))), (q_2, .inl (cI, 3, .inl (fun _ => 0))), (q_3, .inl (cI, 7, .inl (fun _ => 0))), (q_4, .inl (cI, 7, .inl (fun _ => 0))), (q_5, .inl (cI, 7, .inl (fun _ => 0))), (q_6, .inl (cI, 7, .inl (fun _ => 0))), (q_7, .inl (cI, 7, .inl (fun _ => 0))), (q_8, .inl (cI, 28, .inl (fun _ => 0))), (q_9, .inr (1, [.ref q_10, .ref q_11, .int 0, .int 0, .int 0])), (q_10, .inl (cI, 272, .inl (fun _ => 0))), (q_11, .inl (cI, 30, .inl (fun _ => 0))), (q_12, .inr (1, [.ref q_13, .ref q_14, .int 0, .int 0, .int 0])), (q_13, .inl (cI, 272, .inl (fun _ => 0))), (q_14, .inl (cI, 30, .inl (fun _ => 0)))] := hD
  refine va_putF (D := D) (ci := 8) (v := .ref q_12) (ty := .object "SpiceSwaps$Formula") (C := RX8) (T := TX8) (N := 18) hx hb hts inX8 tyX8 tyX8_ok nmX8 hown hG.1 hP hD hS 0 rfl rfl 12 (by decide) (hts _ kw242) (fun _ h9 => h9) rfl hnm rfl (by decide +kernel) rfl rfl (Nat.le_of_ble_eq_true rfl) dX8_init_85 (fun H locs hP hD hS => ?_)
  have hP : va_P D vwCl [(h0, .inr (8, [.int 0, .int 0, .int 0, .ref q_1, .ref q_2, .ref q_3, .ref q_4, .ref q_5, .ref q_6, .ref q_7, .ref q_8, .ref q_9, .ref q_12, .int 0, .int 0, .int 0, .int 0, .int 0])), (q_1, .inl (cI, 4, .inl (fun _ => 0))), (q_2, .inl (cI, 3, .inl (fun _ => 0))), (q_3, .inl (cI, 7, .inl (fun _ => 0))), (q_4, .inl (cI, 7, .inl (fun _ => 0))), (q_5, .inl (cI, 7, .inl (fun _ => 0))), (q_6, .inl (cI, 7, .inl (fun _ => 0))), (q_7, .inl (cI, 7, .inl (fun _ => 0))), (q_8, .inl (cI, 28, .inl (fun _ => 0))), (q_9, .inr (1, [.ref q_10, .ref q_11, .int 0, .int 0, .int 0])), (q_10, .inl (cI, 272, .inl (fun _ => 0))), (q_11, .inl (cI, 30, .inl (fun _ => 0))), (q_12, .inr (1, [.ref q_13, .ref q_14, .int 0, .int 0, .int 0])), (q_13, .inl (cI, 272, .inl (fun _ => 0))), (q_14, .inl (cI, 30, .inl (fun _ => 0)))] H := hP
  have hD : va_D A [(h0, .inr (8, [.int 0, .int 0, .int 0, .ref q_1, .ref q_2, .ref q_3, .ref q_4, .ref q_5, .ref q_6, .ref q_7, .ref q_8, .ref q_9, .ref q_12, .int 0, .int 0, .int 0, .int 0, .int 0])), (q_1, .inl (cI, 4, .inl (fun _ => 0))), (q_2, .inl (cI, 3, .inl (fun _ => 0))), (q_3, .inl (cI, 7, .inl (fun _ => 0))), (q_4, .inl (cI, 7, .inl (fun _ => 0))), (q_5, .inl (cI, 7, .inl (fun _ => 0))), (q_6, .inl (cI, 7, .inl (fun _ => 0))), (q_7, .inl (cI, 7, .inl (fun _ => 0))), (q_8, .inl (cI, 28, .inl (fun _ => 0))), (q_9, .inr (1, [.ref q_10, .ref q_11, .int 0, .int 0, .int 0])), (q_10, .inl (cI, 272, .inl (fun _ => 0))), (q_11, .inl (cI, 30, .inl (fun _ => 0))), (q_12, .inr (1, [.ref q_13, .ref q_14, .int 0, .int 0, .int 0])), (q_13, .inl (cI, 272, .inl (fun _ => 0))), (q_14, .inl (cI, 30, .inl (fun _ => 0)))] := hD
  refine lv_aload_n hx hb dX8_init_88 rfl (lv_at hl 0 rfl) ?_
  refine xc_core (wr := [(q_1, .inl (cI, 4, .inl (fun _ => 0))), (q_2, .inl (cI, 3, .inl (fun _ => 0))), (q_3, .inl (cI, 7, .inl (fun _ => 0))), (q_4, .inl (cI, 7, .inl (fun _ => 0))), (q_5, .inl (cI, 7, .inl (fun _ => 0))), (q_6, .inl (cI, 7, .inl (fun _ => 0))), (q_7, .inl (cI, 7, .inl (fun _ => 0))), (q_10, .inl (cI, 272, .inl (fun _ => 0))), (q_11, .inl (cI, 30, .inl (fun _ => 0))), (q_13, .inl (cI, 272, .inl (fun _ => 0))), (q_14, .inl (cI, 30, .inl (fun _ => 0)))]) (k := 14) (n := 684) (xc_runV (As := []) (rest := []) hx hb hml hown hts hG hE hP hD hS hA [0, 8, 9, 12] (by decide) rfl (cX8_forget_1 l D cB cI cJ cZ aK aV h0 q_1 q_2 q_3 q_4 q_5 q_6 q_7 q_8 q_9 q_12 ((fun _ => 0)) q_10 q_11 q_13 q_14) kw192 kw189 kw190 kw191 kw114 (show XD yX8_forget 0 from by decide +kernel) (by decide) rfl rfl 0 rfl hl.1 rfl (Nat.le_of_ble_eq_true rfl) dX8_init_89 (by decide)) hP hD hS hA [0, 8, 9, 12] [1, 2, 3, 4, 5, 6, 7, 10, 11, 13, 14] rfl rfl (by decide) (by decide) (Nat.le_of_ble_eq_true rfl) (Nat.le_of_ble_eq_true rfl) (fun r w1 H locs hpost hP hD hS => ?_)
  obtain ⟨f_15, rfl, rfl⟩ := hpost
  have hP : va_P D vwCl [(q_1, .inl (cI, 4, .inl (fun _ => 0))), (q_2, .inl (cI, 3, .inl (fun _ => 0))), (q_3, .inl (cI, 7, .inl (fun _ => 0))), (q_4, .inl (cI, 7, .inl (fun _ => 0))), (q_5, .inl (cI, 7, .inl (fun _ => 0))), (q_6, .inl (cI, 7, .inl (fun _ => 0))), (q_7, .inl (cI, 7, .inl (fun _ => 0))), (q_10, .inl (cI, 272, .inl (fun _ => 0))), (q_11, .inl (cI, 30, .inl (fun _ => 0))), (q_13, .inl (cI, 272, .inl (fun _ => 0))), (q_14, .inl (cI, 30, .inl (fun _ => 0))), (h0, .inr (8, [.int 0, .int 0, .int 0, .ref q_1, .ref q_2, .ref q_3, .ref q_4, .ref q_5, .ref q_6, .ref q_7, .ref q_8, .ref q_9, .ref q_12, .int 0, .int 1, .int 0, .int 0, .int 0])), (q_8, .inl (cI, 28, .inl f_15)), (q_9, .inr (1, [.ref q_10, .ref q_11, .int 0, .int 0, .int 0])), (q_12, .inr (1, [.ref q_13, .ref q_14, .int 0, .int 0, .int 0]))] H := hP
  have hD : va_D A [(q_1, .inl (cI, 4, .inl (fun _ => 0))), (q_2, .inl (cI, 3, .inl (fun _ => 0))), (q_3, .inl (cI, 7, .inl (fun _ => 0))), (q_4, .inl (cI, 7, .inl (fun _ => 0))), (q_5, .inl (cI, 7, .inl (fun _ => 0))), (q_6, .inl (cI, 7, .inl (fun _ => 0))), (q_7, .inl (cI, 7, .inl (fun _ => 0))), (q_10, .inl (cI, 272, .inl (fun _ => 0))), (q_11, .inl (cI, 30, .inl (fun _ => 0))), (q_13, .inl (cI, 272, .inl (fun _ => 0))), (q_14, .inl (cI, 30, .inl (fun _ => 0))), (h0, .inr (8, [.int 0, .int 0, .int 0, .ref q_1, .ref q_2, .ref q_3, .ref q_4, .ref q_5, .ref q_6, .ref q_7, .ref q_8, .ref q_9, .ref q_12, .int 0, .int 1, .int 0, .int 0, .int 0])), (q_8, .inl (cI, 28, .inl f_15)), (q_9, .inr (1, [.ref q_10, .ref q_11, .int 0, .int 0, .int 0])), (q_12, .inr (1, [.ref q_13, .ref q_14, .int 0, .int 0, .int 0]))] := hD
  have hP9 := hP.sub (ws' := [(h0, .inr (8, [.int 0, .int 0, .int 0, .ref q_1, .ref q_2, .ref q_3, .ref q_4, .ref q_5, .ref q_6, .ref q_7, .ref q_8, .ref q_9, .ref q_12, .int 0, .int 1, .int 0, .int 0, .int 0])), (q_1, .inl (cI, 4, .inl (fun _ => 0))), (q_2, .inl (cI, 3, .inl (fun _ => 0))), (q_3, .inl (cI, 7, .inl (fun _ => 0))), (q_4, .inl (cI, 7, .inl (fun _ => 0))), (q_5, .inl (cI, 7, .inl (fun _ => 0))), (q_6, .inl (cI, 7, .inl (fun _ => 0))), (q_7, .inl (cI, 7, .inl (fun _ => 0))), (q_8, .inl (cI, 28, .inl f_15)), (q_9, .inr (1, [.ref q_10, .ref q_11, .int 0, .int 0, .int 0])), (q_10, .inl (cI, 272, .inl (fun _ => 0))), (q_11, .inl (cI, 30, .inl (fun _ => 0))), (q_12, .inr (1, [.ref q_13, .ref q_14, .int 0, .int 0, .int 0])), (q_13, .inl (cI, 272, .inl (fun _ => 0))), (q_14, .inl (cI, 30, .inl (fun _ => 0)))]) [11, 0, 1, 2, 3, 4, 5, 6, 12, 13, 7, 8, 14, 9, 10] rfl
  have hD9 := hD.sub (ws' := [(h0, .inr (8, [.int 0, .int 0, .int 0, .ref q_1, .ref q_2, .ref q_3, .ref q_4, .ref q_5, .ref q_6, .ref q_7, .ref q_8, .ref q_9, .ref q_12, .int 0, .int 1, .int 0, .int 0, .int 0])), (q_1, .inl (cI, 4, .inl (fun _ => 0))), (q_2, .inl (cI, 3, .inl (fun _ => 0))), (q_3, .inl (cI, 7, .inl (fun _ => 0))), (q_4, .inl (cI, 7, .inl (fun _ => 0))), (q_5, .inl (cI, 7, .inl (fun _ => 0))), (q_6, .inl (cI, 7, .inl (fun _ => 0))), (q_7, .inl (cI, 7, .inl (fun _ => 0))), (q_8, .inl (cI, 28, .inl f_15)), (q_9, .inr (1, [.ref q_10, .ref q_11, .int 0, .int 0, .int 0])), (q_10, .inl (cI, 272, .inl (fun _ => 0))), (q_11, .inl (cI, 30, .inl (fun _ => 0))), (q_12, .inr (1, [.ref q_13, .ref q_14, .int 0, .int 0, .int 0])), (q_13, .inl (cI, 272, .inl (fun _ => 0))), (q_14, .inl (cI, 30, .inl (fun _ => 0)))]) [11, 0, 1, 2, 3, 4, 5, 6, 12, 13, 7, 8, 14, 9, 10] (by decide) rfl
  exact xr_v (rm := (rmL 3 14 684)) hx hb hr hlocks hAe hS hP9 hD9 (Nat.le_of_ble_eq_true rfl) (Nat.le_of_ble_eq_true rfl) dX8_init_92 ⟨q_1, q_2, q_3, q_4, q_5, q_6, q_7, q_8, q_9, q_12, f_15, q_10, q_11, q_13, q_14, rfl, rfl⟩
