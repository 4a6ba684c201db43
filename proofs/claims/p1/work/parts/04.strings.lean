theorem dJ0_length_8abf5_0 : decode cJ0_length_8abf5 0 = .ok (.aload_n 0, 1) := by decide +kernel
theorem kw2018 : (.fieldLink RJ0 9 "java/lang/String" "value" "[B" : Cond) ∈ gT := gT_of 2018 (by decide +kernel) (by decide +kernel)
theorem dJ0_length_8abf5_1 : decode cJ0_length_8abf5 1 = .ok (.getfield 9, 3) := by decide +kernel
theorem dJ0_length_8abf5_4 : decode cJ0_length_8abf5 4 = .ok (.arraylength, 1) := by decide +kernel
theorem dJ0_length_8abf5_5 : decode cJ0_length_8abf5 5 = .ok (.aload_n 0, 1) := by decide +kernel
theorem kw315 : (.fieldLink RJ0 38 "java/lang/String" "COMPACT_STRINGS" "Z" : Cond) ∈ gT := gT_of 315 (by decide +kernel) (by decide +kernel)
theorem dJ0_coder_7d493_0 : decode cJ0_coder_7d493 0 = .ok (.getstatic 38, 3) := by decide +kernel
theorem dJ0_coder_7d493_3 : decode cJ0_coder_7d493 3 = .ok (.ifCond .eq 10, 3) := by decide +kernel
theorem dJ0_coder_7d493_6 : decode cJ0_coder_7d493 6 = .ok (.aload_n 0, 1) := by decide +kernel
theorem kw2019 : (.fieldLink RJ0 15 "java/lang/String" "coder" "B" : Cond) ∈ gT := gT_of 2019 (by decide +kernel) (by decide +kernel)
theorem dJ0_coder_7d493_7 : decode cJ0_coder_7d493 7 = .ok (.getfield 15, 3) := by decide +kernel
theorem dJ0_coder_7d493_10 : decode cJ0_coder_7d493 10 = .ok (.goto 4, 3) := by decide +kernel
theorem dJ0_coder_7d493_14 : decode cJ0_coder_7d493 14 = .ok (.ireturn, 1) := by decide +kernel
set_option maxHeartbeats 4000000 in
set_option maxRecDepth 100000 in
theorem cJ0_coder_7d493_1 (l : Launch) (D : va_G) (cB cI cJ cZ : ClassId) (aK aV : Nat → Nat) : MX l yJ0_coder_7d493 cJ0_coder_7d493 1 (some .byte) (rmL 1 0 0) D cB cI cJ cZ aK aV [.ref (aK 0)] [] (fun r w1 => r = some (.int 0) ∧ w1 = []) := by
  refine MX.intro (by decide) (Nat.le_of_ble_eq_true rfl) ?_
  intro p e s m below meth c A ls hx hb hr hml hown hlocks hnm hts hG hE hA hS hP hD hl hAe
  have hl : lv_has ls 1 [(0, .ref (aK 0))] := hl
  have hown : s.vm.findClass RJ0 = some m.cls := hown
  refine va_gets (v := .int 1) hx hb hE.2.1 hS hown (hts _ kw315) (fun _ h9 => h9) dJ0_coder_7d493_0 ?_
  refine lv_if_eq (tgt := 13) hx hb dJ0_coder_7d493_3 (by decide) (fun h => absurd h (by decide +kernel)) (fun _ => ?_)
  refine lv_aload_n hx hb dJ0_coder_7d493_6 rfl (lv_at hl 0 rfl) ?_
  refine vk_getf (v := .int 0) hx hb (hE.1.1 0 (by decide)).2.1 hS hown (hts _ kw2019) (fun _ h9 => h9) dJ0_coder_7d493_7 ?_
  refine lv_goto (tgt := 14) hx hb dJ0_coder_7d493_10 (by decide) ?_
  have hP9 := hP.sub (ws' := []) [] rfl
  have hD9 := hD.sub (ws' := []) [] (by decide) rfl
  exact xr_i (rm := (rmL 1 0 0)) hx hb hr hlocks hAe hS hP9 hD9 (by decide +kernel) (Nat.le_of_ble_eq_true rfl) (Nat.le_of_ble_eq_true rfl) dJ0_coder_7d493_14 ⟨rfl, rfl⟩
theorem kw311 : (.methodLink RJ0 335 yJ0_coder_7d493 : Cond) ∈ gT := gT_of 311 (by decide +kernel) (by decide +kernel)
theorem kw314 : (.code yJ0_coder_7d493 cJ0_coder_7d493 1 (some .byte) : Cond) ∈ gT := gT_of 314 (by decide +kernel) (by decide +kernel)
theorem kw312 : (.instanceMethod yJ0_coder_7d493 : Cond) ∈ gT := gT_of 312 (by decide +kernel) (by decide +kernel)
theorem kw313 : (.selects RJ0 yJ0_coder_7d493 yJ0_coder_7d493 : Cond) ∈ gT := gT_of 313 (by decide +kernel) (by decide +kernel)
theorem kw117 : (.initialized RJ0 : Cond) ∈ gT := gT_of 117 (by decide +kernel) (by decide +kernel)
theorem dJ0_length_8abf5_6 : decode cJ0_length_8abf5 6 = .ok (.invokevirtual 335, 3) := by decide +kernel
theorem dJ0_length_8abf5_9 : decode cJ0_length_8abf5 9 = .ok (.ishr, 1) := by decide +kernel
theorem dJ0_length_8abf5_10 : decode cJ0_length_8abf5 10 = .ok (.ireturn, 1) := by decide +kernel
set_option maxHeartbeats 4000000 in
set_option maxRecDepth 100000 in
theorem cJ0_length_8abf5_1 (l : Launch) (D : va_G) (cB cI cJ cZ : ClassId) (aK aV : Nat → Nat) : MX l yJ0_length_8abf5 cJ0_length_8abf5 1 (some .int) (rmL 2 0 0) D cB cI cJ cZ aK aV [.ref (aK 0)] [] (fun r w1 => r = some (.int 119) ∧ w1 = []) := by
  refine MX.intro (by decide) (Nat.le_of_ble_eq_true rfl) ?_
  intro p e s m below meth c A ls hx hb hr hml hown hlocks hnm hts hG hE hA hS hP hD hl hAe
  have hl : lv_has ls 1 [(0, .ref (aK 0))] := hl
  have hown : s.vm.findClass RJ0 = some m.cls := hown
  refine lv_aload_n hx hb dJ0_length_8abf5_0 rfl (lv_at hl 0 rfl) ?_
  refine vk_getf (v := .ref (aV 0)) hx hb (hE.1.1 0 (by decide)).2.2.1 hS hown (hts _ kw2018) (fun _ h9 => h9) dJ0_length_8abf5_1 ?_
  refine va_tlen (v := 119) hx hb (hE.1.1 0 (by decide)).2.2.2 hS rfl dJ0_length_8abf5_4 ?_
  refine lv_aload_n hx hb dJ0_length_8abf5_5 rfl (lv_at hl 0 rfl) ?_
  refine xc_core (wr := []) (k := 0) (n := 0) (xc_runVK (As := []) (rest := [.int 119]) hx hb hml hown hts hG hE hP hD hS hA [] (by decide) rfl (cJ0_coder_7d493_1 l D cB cI cJ cZ aK aV) kw314 kw311 kw312 kw313 kw117 (show XD yJ0_coder_7d493 0 from by decide +kernel) (by decide) (vk_recv hE.1 (i := 0) (by decide) hS) hl.1 rfl (Nat.le_of_ble_eq_true rfl) dJ0_length_8abf5_6 (by decide)) hP hD hS hA [] [] rfl rfl (by decide) (by decide) (Nat.le_of_ble_eq_true rfl) (Nat.le_of_ble_eq_true rfl) (fun r w1 H locs hpost hP hD hS => ?_)
  obtain ⟨rfl, rfl⟩ := hpost
  have hP : va_P D vwCl [] H := hP
  have hD : va_D A [] := hD
  refine lv_ishr hx hb dJ0_length_8abf5_9 ?_
  refine xt_i (v := 119) (by decide +kernel) ?_
  have hP9 := hP.sub (ws' := []) [] rfl
  have hD9 := hD.sub (ws' := []) [] (by decide) rfl
  exact xr_i (rm := (rmL 2 0 0)) hx hb hr hlocks hAe hS hP9 hD9 rfl (Nat.le_of_ble_eq_true rfl) (Nat.le_of_ble_eq_true rfl) dJ0_length_8abf5_10 ⟨rfl, rfl⟩
theorem dJ0_charAt_5068e_0 : decode cJ0_charAt_5068e 0 = .ok (.aload_n 0, 1) := by decide +kernel
theorem dJ0_isLatin1_aae02_0 : decode cJ0_isLatin1_aae02 0 = .ok (.getstatic 38, 3) := by decide +kernel
theorem dJ0_isLatin1_aae02_3 : decode cJ0_isLatin1_aae02 3 = .ok (.ifCond .eq 14, 3) := by decide +kernel
theorem dJ0_isLatin1_aae02_6 : decode cJ0_isLatin1_aae02 6 = .ok (.aload_n 0, 1) := by decide +kernel
theorem dJ0_isLatin1_aae02_7 : decode cJ0_isLatin1_aae02 7 = .ok (.getfield 15, 3) := by decide +kernel
theorem dJ0_isLatin1_aae02_10 : decode cJ0_isLatin1_aae02 10 = .ok (.ifCond .ne 7, 3) := by decide +kernel
theorem dJ0_isLatin1_aae02_13 : decode cJ0_isLatin1_aae02 13 = .ok (.iconst 1, 1) := by decide +kernel
theorem dJ0_isLatin1_aae02_14 : decode cJ0_isLatin1_aae02 14 = .ok (.goto 4, 3) := by decide +kernel
theorem dJ0_isLatin1_aae02_18 : decode cJ0_isLatin1_aae02 18 = .ok (.ireturn, 1) := by decide +kernel
set_option maxHeartbeats 4000000 in
set_option maxRecDepth 100000 in
theorem cJ0_isLatin1_aae02_1 (l : Launch) (D : va_G) (cB cI cJ cZ : ClassId) (aK aV : Nat → Nat) : MX l yJ0_isLatin1_aae02 cJ0_isLatin1_aae02 1 (some .boolean) (rmL 1 0 0) D cB cI cJ cZ aK aV [.ref (aK 0)] [] (fun r w1 => r = some (.int 1) ∧ w1 = []) := by
  refine MX.intro (by decide) (Nat.le_of_ble_eq_true rfl) ?_
  intro p e s m below meth c A ls hx hb hr hml hown hlocks hnm hts hG hE hA hS hP hD hl hAe
  have hl : lv_has ls 1 [(0, .ref (aK 0))] := hl
  have hown : s.vm.findClass RJ0 = some m.cls := hown
  refine va_gets (v := .int 1) hx hb hE.2.1 hS hown (hts _ kw315) (fun _ h9 => h9) dJ0_isLatin1_aae02_0 ?_
  refine lv_if_eq (tgt := 17) hx hb dJ0_isLatin1_aae02_3 (by decide) (fun h => absurd h (by decide +kernel)) (fun _ => ?_)
  refine lv_aload_n hx hb dJ0_isLatin1_aae02_6 rfl (lv_at hl 0 rfl) ?_
  refine vk_getf (v := .int 0) hx hb (hE.1.1 0 (by decide)).2.1 hS hown (hts _ kw2019) (fun _ h9 => h9) dJ0_isLatin1_aae02_7 ?_
  refine lv_if_ne (tgt := 17) hx hb dJ0_isLatin1_aae02_10 (by decide) (fun h => absurd h (by decide +kernel)) (fun _ => ?_)
  refine lv_iconst (v := 1) hx hb dJ0_isLatin1_aae02_13 (by decide +kernel) ?_
  refine lv_goto (tgt := 18) hx hb dJ0_isLatin1_aae02_14 (by decide) ?_
  have hP9 := hP.sub (ws' := []) [] rfl
  have hD9 := hD.sub (ws' := []) [] (by decide) rfl
  exact xr_i (rm := (rmL 1 0 0)) hx hb hr hlocks hAe hS hP9 hD9 (by decide +kernel) (Nat.le_of_ble_eq_true rfl) (Nat.le_of_ble_eq_true rfl) dJ0_isLatin1_aae02_18 ⟨rfl, rfl⟩
theorem kw321 : (.methodLink RJ0 492 yJ0_isLatin1_aae02 : Cond) ∈ gT := gT_of 321 (by decide +kernel) (by decide +kernel)
theorem kw324 : (.code yJ0_isLatin1_aae02 cJ0_isLatin1_aae02 1 (some .boolean) : Cond) ∈ gT := gT_of 324 (by decide +kernel) (by decide +kernel)
theorem kw322 : (.instanceMethod yJ0_isLatin1_aae02 : Cond) ∈ gT := gT_of 322 (by decide +kernel) (by decide +kernel)
theorem kw323 : (.selects RJ0 yJ0_isLatin1_aae02 yJ0_isLatin1_aae02 : Cond) ∈ gT := gT_of 323 (by decide +kernel) (by decide +kernel)
theorem dJ0_charAt_5068e_1 : decode cJ0_charAt_5068e 1 = .ok (.invokevirtual 492, 3) := by decide +kernel
theorem dJ0_charAt_5068e_4 : decode cJ0_charAt_5068e 4 = .ok (.ifCond .eq 12, 3) := by decide +kernel
theorem dJ0_charAt_5068e_7 : decode cJ0_charAt_5068e 7 = .ok (.aload_n 0, 1) := by decide +kernel
theorem dJ0_charAt_5068e_8 : decode cJ0_charAt_5068e 8 = .ok (.getfield 9, 3) := by decide +kernel
theorem dJ0_charAt_5068e_11 : decode cJ0_charAt_5068e 11 = .ok (.iload_n 1, 1) := by decide +kernel
theorem dJ1_charAt_3b067_0 : decode cJ1_charAt_3b067 0 = .ok (.iload_n 1, 1) := by decide +kernel
theorem dJ1_charAt_3b067_1 : decode cJ1_charAt_3b067 1 = .ok (.aload_n 0, 1) := by decide +kernel
theorem dJ1_charAt_3b067_2 : decode cJ1_charAt_3b067 2 = .ok (.arraylength, 1) := by decide +kernel
theorem dJ0_checkIndex_df160_0 : decode cJ0_checkIndex_df160 0 = .ok (.iload_n 0, 1) := by decide +kernel
theorem dJ0_checkIndex_df160_1 : decode cJ0_checkIndex_df160 1 = .ok (.iload_n 1, 1) := by decide +kernel
theorem kw331 : (.fieldLink RJ0 1053 "jdk/internal/util/Preconditions" "SIOOBE_FORMATTER" "Ljava/util/function/BiFunction;" : Cond) ∈ gT := gT_of 331 (by decide +kernel) (by decide +kernel)
theorem dJ0_checkIndex_df160_2 : decode cJ0_checkIndex_df160 2 = .ok (.getstatic 1053, 3) := by decide +kernel
theorem dJ3_checkIndex_8e157_0 : decode cJ3_checkIndex_8e157 0 = .ok (.iload_n 0, 1) := by decide +kernel
theorem dJ3_checkIndex_8e157_1 : decode cJ3_checkIndex_8e157 1 = .ok (.ifCond .lt 8, 3) := by decide +kernel
theorem dJ3_checkIndex_8e157_4 : decode cJ3_checkIndex_8e157 4 = .ok (.iload_n 0, 1) := by decide +kernel
theorem dJ3_checkIndex_8e157_5 : decode cJ3_checkIndex_8e157 5 = .ok (.iload_n 1, 1) := by decide +kernel
theorem dJ3_checkIndex_8e157_6 : decode cJ3_checkIndex_8e157 6 = .ok (.if_icmp .lt 10, 3) := by decide +kernel
theorem dJ3_checkIndex_8e157_16 : decode cJ3_checkIndex_8e157 16 = .ok (.iload_n 0, 1) := by decide +kernel
theorem dJ3_checkIndex_8e157_17 : decode cJ3_checkIndex_8e157 17 = .ok (.ireturn, 1) := by decide +kernel
set_option maxHeartbeats 4000000 in
set_option maxRecDepth 100000 in
theorem cJ3_checkIndex_8e157_1 (l : Launch) (D : va_G) (cB cI cJ cZ : ClassId) (aK aV : Nat → Nat) (x0 : Int32) (g_x0_lo : 0 ≤ x0.toInt) (g_x0_hi : x0.toInt ≤ 118) : MX l yJ3_checkIndex_8e157 cJ3_checkIndex_8e157 3 (some .int) (rmL 1 0 0) D cB cI cJ cZ aK aV [.int x0, .int 119, .null] [] (fun r w1 => r = some (.int x0) ∧ w1 = []) := by
  refine MX.intro (by decide) (Nat.le_of_ble_eq_true rfl) ?_
  intro p e s m below meth c A ls hx hb hr hml hown hlocks hnm hts hG hE hA hS hP hD hl hAe
  have hl : lv_has ls 3 [(0, .int x0), (1, .int 119), (2, .null)] := hl
  have hown : s.vm.findClass RJ3 = some m.cls := hown
  refine lv_iload_n hx hb dJ3_checkIndex_8e157_0 rfl (lv_at hl 0 rfl) ?_
  refine lv_if_lt (tgt := 9) hx hb dJ3_checkIndex_8e157_1 (by decide) (fun c_1 => (by exfalso; have zc_1 := Int32.lt_iff_toInt_lt.mp c_1; have i32_0 : (0 : Int32).toInt = 0 := (by decide); omega)) (fun _ => ?_)
  refine lv_iload_n hx hb dJ3_checkIndex_8e157_4 rfl (lv_at hl 0 rfl) ?_
  refine lv_iload_n hx hb dJ3_checkIndex_8e157_5 rfl (lv_at hl 1 rfl) ?_
  refine lv_icmp_lt (tgt := 16) hx hb dJ3_checkIndex_8e157_6 (by decide) (fun _ => ?_) (fun c_2 => (by exfalso; have zc_2 := Int32.le_iff_toInt_le.mp (Int32.not_lt.mp c_2); have i32_119 : (119 : Int32).toInt = 119 := (by decide); omega))
  refine lv_iload_n hx hb dJ3_checkIndex_8e157_16 rfl (lv_at hl 0 rfl) ?_
  have hP9 := hP.sub (ws' := []) [] rfl
  have hD9 := hD.sub (ws' := []) [] (by decide) rfl
  exact xr_i (rm := (rmL 1 0 0)) hx hb hr hlocks hAe hS hP9 hD9 rfl (Nat.le_of_ble_eq_true rfl) (Nat.le_of_ble_eq_true rfl) dJ3_checkIndex_8e157_17 ⟨rfl, rfl⟩
theorem kw333 : (.methodLink RJ0 1059 yJ3_checkIndex_8e157 : Cond) ∈ gT := gT_of 333 (by decide +kernel) (by decide +kernel)
theorem kw335 : (.code yJ3_checkIndex_8e157 cJ3_checkIndex_8e157 3 (some .int) : Cond) ∈ gT := gT_of 335 (by decide +kernel) (by decide +kernel)
theorem kw334 : (.static yJ3_checkIndex_8e157 : Cond) ∈ gT := gT_of 334 (by decide +kernel) (by decide +kernel)
theorem kw119 : (.initialized RJ3 : Cond) ∈ gT := gT_of 119 (by decide +kernel) (by decide +kernel)
theorem dJ0_checkIndex_df160_5 : decode cJ0_checkIndex_df160 5 = .ok (.invokestatic 1059, 3) := by decide +kernel
theorem dJ0_checkIndex_df160_8 : decode cJ0_checkIndex_df160 8 = .ok (.pop, 1) := by decide +kernel
theorem dJ0_checkIndex_df160_9 : decode cJ0_checkIndex_df160 9 = .ok (.return_, 1) := by decide +kernel
set_option maxHeartbeats 4000000 in
set_option maxRecDepth 100000 in
theorem cJ3_checkIndex_8e157_2 (l : Launch) (D : va_G) (cB cI cJ cZ : ClassId) (aK aV : Nat → Nat) (x0 : Int32) (h1 : Nat) (g_x0_lo : 0 ≤ x0.toInt) (g_x0_hi : x0.toInt ≤ 118) : MX l yJ3_checkIndex_8e157 cJ3_checkIndex_8e157 3 (some .int) (rmL 1 0 0) D cB cI cJ cZ aK aV [.int x0, .int 119, .ref h1] [] (fun r w1 => r = some (.int x0) ∧ w1 = []) := by
  refine MX.intro (by decide) (Nat.le_of_ble_eq_true rfl) ?_
  intro p e s m below meth c A ls hx hb hr hml hown hlocks hnm hts hG hE hA hS hP hD hl hAe
  have hl : lv_has ls 3 [(0, .int x0), (1, .int 119), (2, .ref h1)] := hl
  have hown : s.vm.findClass RJ3 = some m.cls := hown
  refine lv_iload_n hx hb dJ3_checkIndex_8e157_0 rfl (lv_at hl 0 rfl) ?_
  refine lv_if_lt (tgt := 9) hx hb dJ3_checkIndex_8e157_1 (by decide) (fun c_1 => (by exfalso; have zc_1 := Int32.lt_iff_toInt_lt.mp c_1; have i32_0 : (0 : Int32).toInt = 0 := (by decide); omega)) (fun _ => ?_)
  refine lv_iload_n hx hb dJ3_checkIndex_8e157_4 rfl (lv_at hl 0 rfl) ?_
  refine lv_iload_n hx hb dJ3_checkIndex_8e157_5 rfl (lv_at hl 1 rfl) ?_
  refine lv_icmp_lt (tgt := 16) hx hb dJ3_checkIndex_8e157_6 (by decide) (fun _ => ?_) (fun c_2 => (by exfalso; have zc_2 := Int32.le_iff_toInt_le.mp (Int32.not_lt.mp c_2); have i32_119 : (119 : Int32).toInt = 119 := (by decide); omega))
  refine lv_iload_n hx hb dJ3_checkIndex_8e157_16 rfl (lv_at hl 0 rfl) ?_
  have hP9 := hP.sub (ws' := []) [] rfl
  have hD9 := hD.sub (ws' := []) [] (by decide) rfl
  exact xr_i (rm := (rmL 1 0 0)) hx hb hr hlocks hAe hS hP9 hD9 rfl (Nat.le_of_ble_eq_true rfl) (Nat.le_of_ble_eq_true rfl) dJ3_checkIndex_8e157_17 ⟨rfl, rfl⟩
set_option maxHeartbeats 4000000 in
set_option maxRecDepth 100000 in
theorem cJ0_checkIndex_df160_1 (l : Launch) (D : va_G) (cB cI cJ cZ : ClassId) (aK aV : Nat → Nat) (x0 : Int32) (g_x0_lo : 0 ≤ x0.toInt) (g_x0_hi : x0.toInt ≤ 118) : MX l yJ0_checkIndex_df160 cJ0_checkIndex_df160 2 none (rmL 2 0 0) D cB cI cJ cZ aK aV [.int x0, .int 119] [] (fun r w1 => r = none ∧ w1 = []) := by
  refine MX.intro (by decide) (Nat.le_of_ble_eq_true rfl) ?_
  intro p e s m below meth c A ls hx hb hr hml hown hlocks hnm hts hG hE hA hS hP hD hl hAe
  have hl : lv_has ls 2 [(0, .int x0), (1, .int 119)] := hl
  have hown : s.vm.findClass RJ0 = some m.cls := hown
  refine lv_iload_n hx hb dJ0_checkIndex_df160_0 rfl (lv_at hl 0 rfl) ?_
  refine lv_iload_n hx hb dJ0_checkIndex_df160_1 rfl (lv_at hl 1 rfl) ?_
  obtain ⟨rq, hZq⟩ := hE.2.2.2.2
  refine va_gets hx hb hZq hS hown (hts _ kw331) (fun _ h9 => h9) dJ0_checkIndex_df160_2 ?_
  rcases rq with _ | q_1
  · refine W.eq (g2 := F0 m 5 ls [.null, .int 119, .int x0]) rfl ?_
    refine xc_core (wr := []) (k := 0) (n := 0) (xc_runS (As := [.int x0, .int 119, .null]) (rest := []) hx hb hml hown hts hG hE hP hD hS hA [] (by decide) rfl (cJ3_checkIndex_8e157_1 l D cB cI cJ cZ aK aV x0 ((by skip; omega)) ((by skip; omega))) kw335 kw333 kw334 kw119 (show XD yJ3_checkIndex_8e157 3 from by decide +kernel) (by decide) hl.1 rfl (Nat.le_of_ble_eq_true rfl) dJ0_checkIndex_df160_5 (by decide)) hP hD hS hA [] [] rfl rfl (by decide) (by decide) (Nat.le_of_ble_eq_true rfl) (Nat.le_of_ble_eq_true rfl) (fun r w1 H locs hpost hP hD hS => ?_)
    obtain ⟨rfl, rfl⟩ := hpost
    have hP : va_P D vwCl [] H := hP
    have hD : va_D A [] := hD
    refine lv_pop hx hb dJ0_checkIndex_df160_8 rfl ?_
    have hP9 := hP.sub (ws' := []) [] rfl
    have hD9 := hD.sub (ws' := []) [] (by decide) rfl
    exact xr_v (rm := (rmL 2 0 0)) hx hb hr hlocks hAe hS hP9 hD9 (Nat.le_of_ble_eq_true rfl) (Nat.le_of_ble_eq_true rfl) dJ0_checkIndex_df160_9 ⟨rfl, rfl⟩
  · refine W.eq (g2 := F0 m 5 ls [.ref q_1, .int 119, .int x0]) rfl ?_
    refine xc_core (wr := []) (k := 0) (n := 0) (xc_runS (As := [.int x0, .int 119, .ref q_1]) (rest := []) hx hb hml hown hts hG hE hP hD hS hA [] (by decide) rfl (cJ3_checkIndex_8e157_2 l D cB cI cJ cZ aK aV x0 q_1 ((by skip; omega)) ((by skip; omega))) kw335 kw333 kw334 kw119 (show XD yJ3_checkIndex_8e157 3 from by decide +kernel) (by decide) hl.1 rfl (Nat.le_of_ble_eq_true rfl) dJ0_checkIndex_df160_5 (by decide)) hP hD hS hA [] [] rfl rfl (by decide) (by decide) (Nat.le_of_ble_eq_true rfl) (Nat.le_of_ble_eq_true rfl) (fun r w1 H locs hpost hP hD hS => ?_)
    obtain ⟨rfl, rfl⟩ := hpost
    have hP : va_P D vwCl [] H := hP
    have hD : va_D A [] := hD
    refine lv_pop hx hb dJ0_checkIndex_df160_8 rfl ?_
    have hP9 := hP.sub (ws' := []) [] rfl
    have hD9 := hD.sub (ws' := []) [] (by decide) rfl
    exact xr_v (rm := (rmL 2 0 0)) hx hb hr hlocks hAe hS hP9 hD9 (Nat.le_of_ble_eq_true rfl) (Nat.le_of_ble_eq_true rfl) dJ0_checkIndex_df160_9 ⟨rfl, rfl⟩
theorem kw328 : (.methodLink RJ1 9 yJ0_checkIndex_df160 : Cond) ∈ gT := gT_of 328 (by decide +kernel) (by decide +kernel)
theorem kw330 : (.code yJ0_checkIndex_df160 cJ0_checkIndex_df160 2 none : Cond) ∈ gT := gT_of 330 (by decide +kernel) (by decide +kernel)
theorem kw329 : (.static yJ0_checkIndex_df160 : Cond) ∈ gT := gT_of 329 (by decide +kernel) (by decide +kernel)
theorem dJ1_charAt_3b067_3 : decode cJ1_charAt_3b067 3 = .ok (.invokestatic 9, 3) := by decide +kernel
theorem dJ1_charAt_3b067_6 : decode cJ1_charAt_3b067 6 = .ok (.aload_n 0, 1) := by decide +kernel
theorem dJ1_charAt_3b067_7 : decode cJ1_charAt_3b067 7 = .ok (.iload_n 1, 1) := by decide +kernel
theorem dJ1_charAt_3b067_8 : decode cJ1_charAt_3b067 8 = .ok (.baload, 1) := by decide +kernel
theorem dJ1_charAt_3b067_9 : decode cJ1_charAt_3b067 9 = .ok (.sipush 255, 3) := by decide +kernel
theorem dJ1_charAt_3b067_12 : decode cJ1_charAt_3b067 12 = .ok (.iand, 1) := by decide +kernel
theorem dJ1_charAt_3b067_13 : decode cJ1_charAt_3b067 13 = .ok (.i2c, 1) := by decide +kernel
theorem dJ1_charAt_3b067_14 : decode cJ1_charAt_3b067 14 = .ok (.ireturn, 1) := by decide +kernel
set_option maxHeartbeats 4000000 in
set_option maxRecDepth 100000 in
theorem cJ1_charAt_3b067_1 (l : Launch) (D : va_G) (cB cI cJ cZ : ClassId) (aK aV : Nat → Nat) (x0 : Int32) (g_x0_lo : 0 ≤ x0.toInt) (g_x0_hi : x0.toInt ≤ 118) : MX l yJ1_charAt_3b067 cJ1_charAt_3b067 2 (some .char) (rmL 3 0 0) D cB cI cJ cZ aK aV [.ref (aV 0), .int x0] [] (fun r w1 => ∃ v_0 : Int32, r = some (.int v_0) ∧ narrow .char (.int v_0) = .int v_0 ∧ w1 = []) := by
  refine MX.intro (by decide) (Nat.le_of_ble_eq_true rfl) ?_
  intro p e s m below meth c A ls hx hb hr hml hown hlocks hnm hts hG hE hA hS hP hD hl hAe
  have hl : lv_has ls 2 [(0, .ref (aV 0)), (1, .int x0)] := hl
  have hown : s.vm.findClass RJ1 = some m.cls := hown
  refine lv_iload_n hx hb dJ1_charAt_3b067_0 rfl (lv_at hl 1 rfl) ?_
  refine lv_aload_n hx hb dJ1_charAt_3b067_1 rfl (lv_at hl 0 rfl) ?_
  refine va_tlen (v := 119) hx hb (hE.1.1 0 (by decide)).2.2.2 hS rfl dJ1_charAt_3b067_2 ?_
  refine xc_core (wr := []) (k := 0) (n := 0) (xc_runS (As := [.int x0, .int 119]) (rest := []) hx hb hml hown hts hG hE hP hD hS hA [] (by decide) rfl (cJ0_checkIndex_df160_1 l D cB cI cJ cZ aK aV x0 ((by skip; omega)) ((by skip; omega))) kw330 kw328 kw329 kw117 (show XD yJ0_checkIndex_df160 2 from by decide +kernel) (by decide) hl.1 rfl (Nat.le_of_ble_eq_true rfl) dJ1_charAt_3b067_3 (by decide)) hP hD hS hA [] [] rfl rfl (by decide) (by decide) (Nat.le_of_ble_eq_true rfl) (Nat.le_of_ble_eq_true rfl) (fun r w1 H locs hpost hP hD hS => ?_)
  obtain ⟨rfl, rfl⟩ := hpost
  have hP : va_P D vwCl [] H := hP
  have hD : va_D A [] := hD
  refine lv_aload_n hx hb dJ1_charAt_3b067_6 rfl (lv_at hl 0 rfl) ?_
  refine lv_iload_n hx hb dJ1_charAt_3b067_7 rfl (lv_at hl 1 rfl) ?_
  refine va_tb hx hb (hE.1.1 0 (by decide)).2.2.2 hS (vp_in_iff.mpr ⟨by skip; omega, by skip; show x0.toInt < (119 : Int); omega⟩) rfl dJ1_charAt_3b067_8 ?_
  refine xt_any (fun v_1 => ?_)
  refine lv_sipush (v := 255) hx hb dJ1_charAt_3b067_9 (by decide +kernel) ?_
  refine lv_iand hx hb dJ1_charAt_3b067_12 ?_
  refine xt_any (fun v_2 => ?_)
  refine lv_i2c hx hb dJ1_charAt_3b067_13 rfl ?_
  have hP9 := hP.sub (ws' := []) [] rfl
  have hD9 := hD.sub (ws' := []) [] (by decide) rfl
  exact xr_i (rm := (rmL 3 0 0)) hx hb hr hlocks hAe hS hP9 hD9 (pk_nc _) (Nat.le_of_ble_eq_true rfl) (Nat.le_of_ble_eq_true rfl) dJ1_charAt_3b067_14 ⟨((v_2).toUInt32 % 65536).toInt32, rfl, (pk_nc _), rfl⟩
theorem kw325 : (.methodLink RJ0 495 yJ1_charAt_3b067 : Cond) ∈ gT := gT_of 325 (by decide +kernel) (by decide +kernel)
theorem kw327 : (.code yJ1_charAt_3b067 cJ1_charAt_3b067 2 (some .char) : Cond) ∈ gT := gT_of 327 (by decide +kernel) (by decide +kernel)
theorem kw326 : (.static yJ1_charAt_3b067 : Cond) ∈ gT := gT_of 326 (by decide +kernel) (by decide +kernel)
theorem kw118 : (.initialized RJ1 : Cond) ∈ gT := gT_of 118 (by decide +kernel) (by decide +kernel)
theorem dJ0_charAt_5068e_12 : decode cJ0_charAt_5068e 12 = .ok (.invokestatic 495, 3) := by decide +kernel
theorem dJ0_charAt_5068e_15 : decode cJ0_charAt_5068e 15 = .ok (.ireturn, 1) := by decide +kernel
set_option maxHeartbeats 4000000 in
set_option maxRecDepth 100000 in
theorem cJ0_charAt_5068e_1 (l : Launch) (D : va_G) (cB cI cJ cZ : ClassId) (aK aV : Nat → Nat) (x0 : Int32) (g_x0_lo : 0 ≤ x0.toInt) (g_x0_hi : x0.toInt ≤ 118) : MX l yJ0_charAt_5068e cJ0_charAt_5068e 2 (some .char) (rmL 4 0 0) D cB cI cJ cZ aK aV [.ref (aK 0), .int x0] [] (fun r w1 => ∃ v_0 : Int32, r = some (.int v_0) ∧ narrow .char (.int v_0) = .int v_0 ∧ w1 = []) := by
  refine MX.intro (by decide) (Nat.le_of_ble_eq_true rfl) ?_
  intro p e s m below meth c A ls hx hb hr hml hown hlocks hnm hts hG hE hA hS hP hD hl hAe
  have hl : lv_has ls 2 [(0, .ref (aK 0)), (1, .int x0)] := hl
  have hown : s.vm.findClass RJ0 = some m.cls := hown
  refine lv_aload_n hx hb dJ0_charAt_5068e_0 rfl (lv_at hl 0 rfl) ?_
  refine xc_core (wr := []) (k := 0) (n := 0) (xc_runVK (As := []) (rest := []) hx hb hml hown hts hG hE hP hD hS hA [] (by decide) rfl (cJ0_isLatin1_aae02_1 l D cB cI cJ cZ aK aV) kw324 kw321 kw322 kw323 kw117 (show XD yJ0_isLatin1_aae02 0 from by decide +kernel) (by decide) (vk_recv hE.1 (i := 0) (by decide) hS) hl.1 rfl (Nat.le_of_ble_eq_true rfl) dJ0_charAt_5068e_1 (by decide)) hP hD hS hA [] [] rfl rfl (by decide) (by decide) (Nat.le_of_ble_eq_true rfl) (Nat.le_of_ble_eq_true rfl) (fun r w1 H locs hpost hP hD hS => ?_)
  obtain ⟨rfl, rfl⟩ := hpost
  have hP : va_P D vwCl [] H := hP
  have hD : va_D A [] := hD
  refine lv_if_eq (tgt := 16) hx hb dJ0_charAt_5068e_4 (by decide) (fun h => absurd h (by decide +kernel)) (fun _ => ?_)
  refine lv_aload_n hx hb dJ0_charAt_5068e_7 rfl (lv_at hl 0 rfl) ?_
  refine vk_getf (v := .ref (aV 0)) hx hb (hE.1.1 0 (by decide)).2.2.1 hS hown (hts _ kw2018) (fun _ h9 => h9) dJ0_charAt_5068e_8 ?_
  refine lv_iload_n hx hb dJ0_charAt_5068e_11 rfl (lv_at hl 1 rfl) ?_
  refine xc_core (wr := []) (k := 0) (n := 0) (xc_runS (As := [.ref (aV 0), .int x0]) (rest := []) hx hb hml hown hts hG hE hP hD hS hA [] (by decide) rfl (cJ1_charAt_3b067_1 l D cB cI cJ cZ aK aV x0 ((by skip; omega)) ((by skip; omega))) kw327 kw325 kw326 kw118 (show XD yJ1_charAt_3b067 2 from by decide +kernel) (by decide) hl.1 rfl (Nat.le_of_ble_eq_true rfl) dJ0_charAt_5068e_12 (by decide)) hP hD hS hA [] [] rfl rfl (by decide) (by decide) (Nat.le_of_ble_eq_true rfl) (Nat.le_of_ble_eq_true rfl) (fun r w1 H locs hpost hP hD hS => ?_)
  obtain ⟨v_1, rfl, n_2, rfl⟩ := hpost
  have hP : va_P D vwCl [] H := hP
  have hD : va_D A [] := hD
  have hP9 := hP.sub (ws' := []) [] rfl
  have hD9 := hD.sub (ws' := []) [] (by decide) rfl
  exact xr_i (rm := (rmL 4 0 0)) hx hb hr hlocks hAe hS hP9 hD9 n_2 (Nat.le_of_ble_eq_true rfl) (Nat.le_of_ble_eq_true rfl) dJ0_charAt_5068e_15 ⟨v_1, rfl, n_2, rfl⟩
theorem dX4_packAll_0 : decode cX4_packAll 0 = .ok (.bipush 21, 2) := by decide +kernel
theorem kw411 : (.arrayClass .long : Cond) ∈ gT := gT_of 411 (by decide +kernel) (by decide +kernel)
theorem dX4_packAll_2 : decode cX4_packAll 2 = .ok (.newarray .long, 2) := by decide +kernel
theorem dX4_packAll_4 : decode cX4_packAll 4 = .ok (.astore_n 1, 1) := by decide +kernel
theorem dX4_packAll_5 : decode cX4_packAll 5 = .ok (.iconst 0, 1) := by decide +kernel
theorem dX4_packAll_6 : decode cX4_packAll 6 = .ok (.istore_n 2, 1) := by decide +kernel
theorem dX4_packAll_7 : decode cX4_packAll 7 = .ok (.iconst 0, 1) := by decide +kernel
theorem dX4_packAll_8 : decode cX4_packAll 8 = .ok (.istore_n 3, 1) := by decide +kernel
theorem dX4_packAll_9 : decode cX4_packAll 9 = .ok (.iload_n 3, 1) := by decide +kernel
theorem dX4_packAll_10 : decode cX4_packAll 10 = .ok (.aload_n 0, 1) := by decide +kernel
theorem kw307 : (.methodLink RX4 249 yJ0_length_8abf5 : Cond) ∈ gT := gT_of 307 (by decide +kernel) (by decide +kernel)
theorem kw310 : (.code yJ0_length_8abf5 cJ0_length_8abf5 1 (some .int) : Cond) ∈ gT := gT_of 310 (by decide +kernel) (by decide +kernel)
theorem kw308 : (.instanceMethod yJ0_length_8abf5 : Cond) ∈ gT := gT_of 308 (by decide +kernel) (by decide +kernel)
theorem kw309 : (.selects RJ0 yJ0_length_8abf5 yJ0_length_8abf5 : Cond) ∈ gT := gT_of 309 (by decide +kernel) (by decide +kernel)
theorem dX4_packAll_11 : decode cX4_packAll 11 = .ok (.invokevirtual 249, 3) := by decide +kernel
theorem dX4_packAll_14 : decode cX4_packAll 14 = .ok (.if_icmp .ge 45, 3) := by decide +kernel
theorem dX4_packAll_59 : decode cX4_packAll 59 = .ok (.aload_n 1, 1) := by decide +kernel
theorem dX4_packAll_60 : decode cX4_packAll 60 = .ok (.areturn, 1) := by decide +kernel
theorem dX4_packAll_17 : decode cX4_packAll 17 = .ok (.iload_n 2, 1) := by decide +kernel
theorem dX4_packAll_18 : decode cX4_packAll 18 = .ok (.bipush 21, 2) := by decide +kernel
theorem dX4_packAll_20 : decode cX4_packAll 20 = .ok (.if_icmp .ge 39, 3) := by decide +kernel
theorem dX4_packAll_23 : decode cX4_packAll 23 = .ok (.aload_n 0, 1) := by decide +kernel
theorem dX4_packAll_24 : decode cX4_packAll 24 = .ok (.iload_n 3, 1) := by decide +kernel
theorem kw317 : (.methodLink RX4 253 yJ0_charAt_5068e : Cond) ∈ gT := gT_of 317 (by decide +kernel) (by decide +kernel)
theorem kw320 : (.code yJ0_charAt_5068e cJ0_charAt_5068e 2 (some .char) : Cond) ∈ gT := gT_of 320 (by decide +kernel) (by decide +kernel)
theorem kw318 : (.instanceMethod yJ0_charAt_5068e : Cond) ∈ gT := gT_of 318 (by decide +kernel) (by decide +kernel)
theorem kw319 : (.selects RJ0 yJ0_charAt_5068e yJ0_charAt_5068e : Cond) ∈ gT := gT_of 319 (by decide +kernel) (by decide +kernel)
theorem dX4_packAll_25 : decode cX4_packAll 25 = .ok (.invokevirtual 253, 3) := by decide +kernel
theorem dX4_packAll_28 : decode cX4_packAll 28 = .ok (.bipush 32, 2) := by decide +kernel
theorem dX4_packAll_30 : decode cX4_packAll 30 = .ok (.if_icmp .ne 9, 3) := by decide +kernel
theorem dX4_packAll_39 : decode cX4_packAll 39 = .ok (.aload_n 1, 1) := by decide +kernel
theorem dX4_packAll_40 : decode cX4_packAll 40 = .ok (.iload_n 2, 1) := by decide +kernel
theorem dX4_packAll_41 : decode cX4_packAll 41 = .ok (.aload_n 1, 1) := by decide +kernel
theorem dX4_packAll_42 : decode cX4_packAll 42 = .ok (.iload_n 2, 1) := by decide +kernel
theorem dX4_packAll_43 : decode cX4_packAll 43 = .ok (.laload, 1) := by decide +kernel
theorem dX4_packAll_44 : decode cX4_packAll 44 = .ok (.aload_n 0, 1) := by decide +kernel
theorem dX4_packAll_45 : decode cX4_packAll 45 = .ok (.iload_n 3, 1) := by decide +kernel
theorem dX4_packAll_46 : decode cX4_packAll 46 = .ok (.invokevirtual 253, 3) := by decide +kernel
theorem dX4_packed_0 : decode cX4_packed 0 = .ok (.lload_n 0, 1) := by decide +kernel
theorem kw358 : (.constantLong RX4 245 27 : Cond) ∈ gT := gT_of 358 (by decide +kernel) (by decide +kernel)
theorem dX4_packed_1 : decode cX4_packed 1 = .ok (.ldc2_w 245, 3) := by decide +kernel
theorem dX4_packed_4 : decode cX4_packed 4 = .ok (.lmul, 1) := by decide +kernel
theorem dX4_packed_5 : decode cX4_packed 5 = .ok (.iload_n 2, 1) := by decide +kernel
theorem dX4_packed_6 : decode cX4_packed 6 = .ok (.i2l, 1) := by decide +kernel
theorem dX4_packed_7 : decode cX4_packed 7 = .ok (.ladd, 1) := by decide +kernel
theorem kw359 : (.constantLong RX4 247 97 : Cond) ∈ gT := gT_of 359 (by decide +kernel) (by decide +kernel)
theorem dX4_packed_8 : decode cX4_packed 8 = .ok (.ldc2_w 247, 3) := by decide +kernel
theorem dX4_packed_11 : decode cX4_packed 11 = .ok (.lsub, 1) := by decide +kernel
theorem dX4_packed_12 : decode cX4_packed 12 = .ok (.lconst 1, 1) := by decide +kernel
theorem dX4_packed_13 : decode cX4_packed 13 = .ok (.ladd, 1) := by decide +kernel
theorem dX4_packed_14 : decode cX4_packed 14 = .ok (.lreturn, 1) := by decide +kernel
set_option maxHeartbeats 4000000 in
set_option maxRecDepth 100000 in
theorem cX4_packed_1 (l : Launch) (D : va_G) (cB cI cJ cZ : ClassId) (aK aV : Nat → Nat) (y0 : Int64) (x1 : Int32) : MX l yX4_packed cX4_packed 3 (some .long) (rmL 1 0 0) D cB cI cJ cZ aK aV [.long y0, .int x1] [] (fun r w1 => ∃ v_5 : Int64, r = some (.long v_5) ∧ w1 = []) := by
  refine MX.intro (by decide) (Nat.le_of_ble_eq_true rfl) ?_
  intro p e s m below meth c A ls hx hb hr hml hown hlocks hnm hts hG hE hA hS hP hD hl hAe
  have hl : lv_has ls 3 [(0, .long y0), (2, .int x1)] := hl
  have hown : s.vm.findClass RX4 = some m.cls := hown
  refine lv_lload_n hx hb dX4_packed_0 rfl (lv_at hl 0 rfl) ?_
  refine lv_ldc2 (v := 27) hx hb hown (hts _ kw358) dX4_packed_1 ?_
  refine lv_lmul hx hb dX4_packed_4 ?_
  refine xt_anyL (fun v_1 => ?_)
  refine lv_iload_n hx hb dX4_packed_5 rfl (lv_at hl 1 rfl) ?_
  refine lv_i2l hx hb dX4_packed_6 rfl ?_
  refine xt_anyL (fun v_2 => ?_)
  refine lv_ladd hx hb dX4_packed_7 ?_
  refine xt_anyL (fun v_3 => ?_)
  refine lv_ldc2 (v := 97) hx hb hown (hts _ kw359) dX4_packed_8 ?_
  refine lv_lsub hx hb dX4_packed_11 ?_
  refine xt_anyL (fun v_4 => ?_)
  refine lv_lconst (v := 1) hx hb dX4_packed_12 (by decide +kernel) ?_
  refine lv_ladd hx hb dX4_packed_13 ?_
  refine xt_anyL (fun v_5 => ?_)
  have hP9 := hP.sub (ws' := []) [] rfl
  have hD9 := hD.sub (ws' := []) [] (by decide) rfl
  exact xr_l (rm := (rmL 1 0 0)) hx hb hr hlocks hAe hS hP9 hD9 (Nat.le_of_ble_eq_true rfl) (Nat.le_of_ble_eq_true rfl) dX4_packed_14 ⟨v_5, rfl, rfl⟩
theorem kw355 : (.methodLink RX4 241 yX4_packed : Cond) ∈ gT := gT_of 355 (by decide +kernel) (by decide +kernel)
theorem kw357 : (.code yX4_packed cX4_packed 3 (some .long) : Cond) ∈ gT := gT_of 357 (by decide +kernel) (by decide +kernel)
theorem kw356 : (.static yX4_packed : Cond) ∈ gT := gT_of 356 (by decide +kernel) (by decide +kernel)
theorem kw116 : (.initialized RX4 : Cond) ∈ gT := gT_of 116 (by decide +kernel) (by decide +kernel)
theorem dX4_packAll_49 : decode cX4_packAll 49 = .ok (.invokestatic 241, 3) := by decide +kernel
theorem dX4_packAll_52 : decode cX4_packAll 52 = .ok (.lastore, 1) := by decide +kernel
theorem dX4_packAll_53 : decode cX4_packAll 53 = .ok (.iinc 3 1, 3) := by decide +kernel
theorem dX4_packAll_56 : decode cX4_packAll 56 = .ok (.goto (-47), 3) := by decide +kernel
theorem dX4_packAll_33 : decode cX4_packAll 33 = .ok (.iinc 2 1, 3) := by decide +kernel
theorem dX4_packAll_36 : decode cX4_packAll 36 = .ok (.goto 17, 3) := by decide +kernel
set_option maxHeartbeats 4000000 in
set_option maxRecDepth 100000 in
theorem cX4_packAll_1 (l : Launch) (D : va_G) (cB cI cJ cZ : ClassId) (aK aV : Nat → Nat) : MX l yX4_packAll cX4_packAll 4 (some (.array .long)) (rmL 5 1 21) D cB cI cJ cZ aK aV [.ref (aK 0)] [] (fun r w1 => ∃ q_1 : Nat, ∃ f_2 : Nat → Int64, r = some (.ref q_1) ∧ w1 = [(q_1, .inl (cJ, 21, .inr (.inl f_2)))]) := by
  refine MX.intro (by decide) (Nat.le_of_ble_eq_true rfl) ?_
  intro p e s m below meth c A ls hx hb hr hml hown hlocks hnm hts hG hE hA hS hP hD hl hAe
  have hl : lv_has ls 4 [(0, .ref (aK 0))] := hl
  have hown : s.vm.findClass RX4 = some m.cls := hown
  refine lv_bipush (v := 21) hx hb dX4_packAll_0 (by decide +kernel) ?_
  refine xn_newa (D := D) (a0 := (21, .inr (.inl (fun _ => 0)))) (N' := 21) (k1 := 1) (n1 := 21) (cA := cJ) hx hb (ty := .long) rfl hts kw411 hG hP hD hS hA 2 rfl (fun _ h9 => h9) (fun _ => rfl) (by decide) (by decide +kernel) (by decide) (Nat.le_of_ble_eq_true rfl) (Nat.le_of_ble_eq_true rfl) (Nat.le_of_ble_eq_true rfl) (Nat.le_of_ble_eq_true rfl) dX4_packAll_2 (fun q_1 H hP hD hS => ?_)
  have hP : va_P D vwCl [(q_1, .inl (cJ, 21, .inr (.inl (fun _ => 0))))] H := hP
  have hD : va_D A [(q_1, .inl (cJ, 21, .inr (.inl (fun _ => 0))))] := hD
  refine lv_astore_n (lv' := [(1, .ref q_1), (0, .ref (aK 0))]) hx hb dX4_packAll_4 rfl hl (by decide) rfl (fun ls hl => ?_)
  refine lv_iconst (v := 0) hx hb dX4_packAll_5 (by decide +kernel) ?_
  refine lv_istore_n (lv' := [(2, .int 0), (1, .ref q_1), (0, .ref (aK 0))]) hx hb dX4_packAll_6 rfl hl (by decide) rfl (fun ls hl => ?_)
  refine lv_iconst (v := 0) hx hb dX4_packAll_7 (by decide +kernel) ?_
  refine lv_istore_n (lv' := [(3, .int 0), (2, .int 0), (1, .ref q_1), (0, .ref (aK 0))]) hx hb dX4_packAll_8 rfl hl (by decide) rfl (fun ls hl => ?_)
  have lp : ∀ (n : Nat) (x_3 x_4 : Int32) (f_2 : Nat → Int64) (H : Heap) (locs : List Loc) (ls : Array Slot), 0 ≤ x_3.toInt → x_3.toInt ≤ 21 → 0 ≤ x_4.toInt → x_4.toInt ≤ 119 → 119 - x_4.toInt < n → va_P D vwCl [(q_1, .inl (cJ, 21, .inr (.inl f_2)))] H → va_D A [(q_1, .inl (cJ, 21, .inr (.inl f_2)))] → va_S A s.heap H locs → lv_has ls 4 [(0, .ref (aK 0)), (1, .ref q_1), (2, .int x_3), (3, .int x_4)] → W p l e (rmL 5 1 21) s m [.ref (aK 0)].toArray below meth c H locs 1 21 (ZX D below [.ref (aK 0)] s (rmL 5 1 21) [] (fun r w1 => ∃ q_1 : Nat, ∃ f_2 : Nat → Int64, r = some (.ref q_1) ∧ w1 = [(q_1, .inl (cJ, 21, .inr (.inl f_2)))])) (F0 m 9 ls []) := by
    intro n
    induction n with
    | zero => intro x_3 x_4 f_2 H locs ls gl_0 gl_1 gl_2 gl_3 gl_4; omega
    | succ n ih =>
      intro x_3 x_4 f_2 H locs ls gl_0 gl_1 gl_2 gl_3 gl_4 hP hD hS hl
      refine lv_iload_n hx hb dX4_packAll_9 rfl (lv_at hl 3 rfl) ?_
      refine lv_aload_n hx hb dX4_packAll_10 rfl (lv_at hl 0 rfl) ?_
      refine xc_core (wr := [(q_1, .inl (cJ, 21, .inr (.inl f_2)))]) (k := 1) (n := 21) (xc_runVK (As := []) (rest := [.int x_4]) hx hb hml hown hts hG hE hP hD hS hA [] (by decide) rfl (cJ0_length_8abf5_1 l D cB cI cJ cZ aK aV) kw310 kw307 kw308 kw309 kw117 (show XD yJ0_length_8abf5 0 from by decide +kernel) (by decide) (vk_recv hE.1 (i := 0) (by decide) hS) hl.1 rfl (Nat.le_of_ble_eq_true rfl) dX4_packAll_11 (by decide)) hP hD hS hA [] [0] rfl rfl (by decide) (by decide) (Nat.le_of_ble_eq_true rfl) (Nat.le_of_ble_eq_true rfl) (fun r w1 H locs hpost hP hD hS => ?_)
      obtain ⟨rfl, rfl⟩ := hpost
      have hP : va_P D vwCl [(q_1, .inl (cJ, 21, .inr (.inl f_2)))] H := hP
      have hD : va_D A [(q_1, .inl (cJ, 21, .inr (.inl f_2)))] := hD
      refine lv_icmp_ge (tgt := 59) hx hb dX4_packAll_14 (by decide) (fun c_5 => ?_) (fun c_5 => ?_)
      · -- x_4 ge 119 True
        refine lv_aload_n hx hb dX4_packAll_59 rfl (lv_at hl 1 rfl) ?_
        have hP9 := hP.sub (ws' := [(q_1, .inl (cJ, 21, .inr (.inl f_2)))]) [0] rfl
        have hD9 := hD.sub (ws' := [(q_1, .inl (cJ, 21, .inr (.inl f_2)))]) [0] (by decide) rfl
        exact xr_a (rm := (rmL 5 1 21)) hx hb hr hlocks hAe hS hP9 hD9 (Nat.le_of_ble_eq_true rfl) (Nat.le_of_ble_eq_true rfl) dX4_packAll_60 ⟨q_1, f_2, rfl, rfl⟩
      · -- x_4 ge 119 False
        refine lv_iload_n hx hb dX4_packAll_17 rfl (lv_at hl 2 rfl) ?_
        refine lv_bipush (v := 21) hx hb dX4_packAll_18 (by decide +kernel) ?_
        refine lv_icmp_ge (tgt := 59) hx hb dX4_packAll_20 (by decide) (fun c_6 => ?_) (fun c_6 => ?_)
        · -- x_3 ge 21 True
          refine lv_aload_n hx hb dX4_packAll_59 rfl (lv_at hl 1 rfl) ?_
          have hP9 := hP.sub (ws' := [(q_1, .inl (cJ, 21, .inr (.inl f_2)))]) [0] rfl
          have hD9 := hD.sub (ws' := [(q_1, .inl (cJ, 21, .inr (.inl f_2)))]) [0] (by decide) rfl
          exact xr_a (rm := (rmL 5 1 21)) hx hb hr hlocks hAe hS hP9 hD9 (Nat.le_of_ble_eq_true rfl) (Nat.le_of_ble_eq_true rfl) dX4_packAll_60 ⟨q_1, f_2, rfl, rfl⟩
        · -- x_3 ge 21 False
          refine lv_aload_n hx hb dX4_packAll_23 rfl (lv_at hl 0 rfl) ?_
          refine lv_iload_n hx hb dX4_packAll_24 rfl (lv_at hl 3 rfl) ?_
          refine xc_core (wr := [(q_1, .inl (cJ, 21, .inr (.inl f_2)))]) (k := 1) (n := 21) (xc_runVK (As := [.int x_4]) (rest := []) hx hb hml hown hts hG hE hP hD hS hA [] (by decide) rfl (cJ0_charAt_5068e_1 l D cB cI cJ cZ aK aV x_4 ((by have zc_5 := Int32.lt_iff_toInt_lt.mp (Int32.not_le.mp c_5); have zc_6 := Int32.lt_iff_toInt_lt.mp (Int32.not_le.mp c_6); have i32_21 : (21 : Int32).toInt = 21 := (by decide); have i32_119 : (119 : Int32).toInt = 119 := (by decide); omega)) ((by have zc_5 := Int32.lt_iff_toInt_lt.mp (Int32.not_le.mp c_5); have zc_6 := Int32.lt_iff_toInt_lt.mp (Int32.not_le.mp c_6); have i32_21 : (21 : Int32).toInt = 21 := (by decide); have i32_119 : (119 : Int32).toInt = 119 := (by decide); omega))) kw320 kw317 kw318 kw319 kw117 (show XD yJ0_charAt_5068e 1 from by decide +kernel) (by decide) (vk_recv hE.1 (i := 0) (by decide) hS) hl.1 rfl (Nat.le_of_ble_eq_true rfl) dX4_packAll_25 (by decide)) hP hD hS hA [] [0] rfl rfl (by decide) (by decide) (Nat.le_of_ble_eq_true rfl) (Nat.le_of_ble_eq_true rfl) (fun r w1 H locs hpost hP hD hS => ?_)
          obtain ⟨v_7, rfl, n_8, rfl⟩ := hpost
          have hP : va_P D vwCl [(q_1, .inl (cJ, 21, .inr (.inl f_2)))] H := hP
          have hD : va_D A [(q_1, .inl (cJ, 21, .inr (.inl f_2)))] := hD
          refine lv_bipush (v := 32) hx hb dX4_packAll_28 (by decide +kernel) ?_
          refine lv_icmp_ne (tgt := 39) hx hb dX4_packAll_30 (by decide) (fun c_9 => ?_) (fun c_9 => ?_)
          · -- v_7 ne 32 True
            refine lv_aload_n hx hb dX4_packAll_39 rfl (lv_at hl 1 rfl) ?_
            refine lv_iload_n hx hb dX4_packAll_40 rfl (lv_at hl 2 rfl) ?_
            refine lv_aload_n hx hb dX4_packAll_41 rfl (lv_at hl 1 rfl) ?_
            refine lv_iload_n hx hb dX4_packAll_42 rfl (lv_at hl 2 rfl) ?_
            refine xa_lldU hx hb hG hP 0 rfl (vp_in_iff.mpr ⟨by have zc_5 := Int32.lt_iff_toInt_lt.mp (Int32.not_le.mp c_5); have zc_6 := Int32.lt_iff_toInt_lt.mp (Int32.not_le.mp c_6); have zc_9 := mt Int32.toInt_inj.mp c_9; have i32_21 : (21 : Int32).toInt = 21 := (by decide); have i32_32 : (32 : Int32).toInt = 32 := (by decide); have i32_119 : (119 : Int32).toInt = 119 := (by decide); omega, by have zc_5 := Int32.lt_iff_toInt_lt.mp (Int32.not_le.mp c_5); have zc_6 := Int32.lt_iff_toInt_lt.mp (Int32.not_le.mp c_6); have zc_9 := mt Int32.toInt_inj.mp c_9; have i32_21 : (21 : Int32).toInt = 21 := (by decide); have i32_32 : (32 : Int32).toInt = 32 := (by decide); have i32_119 : (119 : Int32).toInt = 119 := (by decide); show x_3.toInt < (21 : Int); omega⟩) dX4_packAll_43 (fun v_10 => ?_)
            refine lv_aload_n hx hb dX4_packAll_44 rfl (lv_at hl 0 rfl) ?_
            refine lv_iload_n hx hb dX4_packAll_45 rfl (lv_at hl 3 rfl) ?_
            refine xc_core (wr := [(q_1, .inl (cJ, 21, .inr (.inl f_2)))]) (k := 1) (n := 21) (xc_runVK (As := [.int x_4]) (rest := [.long v_10, .int x_3, .ref q_1]) hx hb hml hown hts hG hE hP hD hS hA [] (by decide) rfl (cJ0_charAt_5068e_1 l D cB cI cJ cZ aK aV x_4 ((by have zc_5 := Int32.lt_iff_toInt_lt.mp (Int32.not_le.mp c_5); have zc_6 := Int32.lt_iff_toInt_lt.mp (Int32.not_le.mp c_6); have zc_9 := mt Int32.toInt_inj.mp c_9; have i32_21 : (21 : Int32).toInt = 21 := (by decide); have i32_32 : (32 : Int32).toInt = 32 := (by decide); have i32_119 : (119 : Int32).toInt = 119 := (by decide); omega)) ((by have zc_5 := Int32.lt_iff_toInt_lt.mp (Int32.not_le.mp c_5); have zc_6 := Int32.lt_iff_toInt_lt.mp (Int32.not_le.mp c_6); have zc_9 := mt Int32.toInt_inj.mp c_9; have i32_21 : (21 : Int32).toInt = 21 := (by decide); have i32_32 : (32 : Int32).toInt = 32 := (by decide); have i32_119 : (119 : Int32).toInt = 119 := (by decide); omega))) kw320 kw317 kw318 kw319 kw117 (show XD yJ0_charAt_5068e 1 from by decide +kernel) (by decide) (vk_recv hE.1 (i := 0) (by decide) hS) hl.1 rfl (Nat.le_of_ble_eq_true rfl) dX4_packAll_46 (by decide)) hP hD hS hA [] [0] rfl rfl (by decide) (by decide) (Nat.le_of_ble_eq_true rfl) (Nat.le_of_ble_eq_true rfl) (fun r w1 H locs hpost hP hD hS => ?_)
            obtain ⟨v_11, rfl, n_12, rfl⟩ := hpost
            have hP : va_P D vwCl [(q_1, .inl (cJ, 21, .inr (.inl f_2)))] H := hP
            have hD : va_D A [(q_1, .inl (cJ, 21, .inr (.inl f_2)))] := hD
            refine xc_core (wr := [(q_1, .inl (cJ, 21, .inr (.inl f_2)))]) (k := 1) (n := 21) (xc_runS (As := [.long v_10, .int v_11]) (rest := [.int x_3, .ref q_1]) hx hb hml hown hts hG hE hP hD hS hA [] (by decide) rfl (cX4_packed_1 l D cB cI cJ cZ aK aV v_10 v_11) kw357 kw355 kw356 kw116 (show XD yX4_packed 2 from by decide +kernel) (by decide) hl.1 rfl (Nat.le_of_ble_eq_true rfl) dX4_packAll_49 (by decide)) hP hD hS hA [] [0] rfl rfl (by decide) (by decide) (Nat.le_of_ble_eq_true rfl) (Nat.le_of_ble_eq_true rfl) (fun r w1 H locs hpost hP hD hS => ?_)
            obtain ⟨v_13, rfl, rfl⟩ := hpost
            have hP : va_P D vwCl [(q_1, .inl (cJ, 21, .inr (.inl f_2)))] H := hP
            have hD : va_D A [(q_1, .inl (cJ, 21, .inr (.inl f_2)))] := hD
            refine xa_lstU hx hb hG hP hD hS 0 rfl (vp_in_iff.mpr ⟨by have zc_5 := Int32.lt_iff_toInt_lt.mp (Int32.not_le.mp c_5); have zc_6 := Int32.lt_iff_toInt_lt.mp (Int32.not_le.mp c_6); have zc_9 := mt Int32.toInt_inj.mp c_9; have i32_21 : (21 : Int32).toInt = 21 := (by decide); have i32_32 : (32 : Int32).toInt = 32 := (by decide); have i32_119 : (119 : Int32).toInt = 119 := (by decide); omega, by have zc_5 := Int32.lt_iff_toInt_lt.mp (Int32.not_le.mp c_5); have zc_6 := Int32.lt_iff_toInt_lt.mp (Int32.not_le.mp c_6); have zc_9 := mt Int32.toInt_inj.mp c_9; have i32_21 : (21 : Int32).toInt = 21 := (by decide); have i32_32 : (32 : Int32).toInt = 32 := (by decide); have i32_119 : (119 : Int32).toInt = 119 := (by decide); show x_3.toInt < (21 : Int); omega⟩) dX4_packAll_52 (fun f_14 H locs hP hD hS => ?_)
            have hP : va_P D vwCl [(q_1, .inl (cJ, 21, .inr (.inl f_14)))] H := hP
            have hD : va_D A [(q_1, .inl (cJ, 21, .inr (.inl f_14)))] := hD
            obtain ⟨v_15, ev_15⟩ : ∃ y : Int32, y = x_4 + 1 := ⟨_, rfl⟩
            have gv_15 : v_15.toInt = x_4.toInt + 1 := by have zc_5 := Int32.lt_iff_toInt_lt.mp (Int32.not_le.mp c_5); have zc_6 := Int32.lt_iff_toInt_lt.mp (Int32.not_le.mp c_6); have zc_9 := mt Int32.toInt_inj.mp c_9; have i32_21 : (21 : Int32).toInt = 21 := (by decide); have i32_32 : (32 : Int32).toInt = 32 := (by decide); have i32_119 : (119 : Int32).toInt = 119 := (by decide); rw [ev_15]; exact i32_add1 (by omega)
            refine lv_iinc (v := v_15) (lv' := [(3, .int v_15), (0, .ref (aK 0)), (1, .ref q_1), (2, .int x_3)]) hx hb dX4_packAll_53 hl (k := 3) rfl (by rw [ev_15]; rfl) (by decide) rfl (fun ls hl => ?_)
            refine lv_goto (tgt := 9) hx hb dX4_packAll_56 (by decide) ?_
            exact ih _ _ _ _ _ _ (by have zc_5 := Int32.lt_iff_toInt_lt.mp (Int32.not_le.mp c_5); have zc_6 := Int32.lt_iff_toInt_lt.mp (Int32.not_le.mp c_6); have zc_9 := mt Int32.toInt_inj.mp c_9; have i32_21 : (21 : Int32).toInt = 21 := (by decide); have i32_32 : (32 : Int32).toInt = 32 := (by decide); have i32_119 : (119 : Int32).toInt = 119 := (by decide); omega) (by have zc_5 := Int32.lt_iff_toInt_lt.mp (Int32.not_le.mp c_5); have zc_6 := Int32.lt_iff_toInt_lt.mp (Int32.not_le.mp c_6); have zc_9 := mt Int32.toInt_inj.mp c_9; have i32_21 : (21 : Int32).toInt = 21 := (by decide); have i32_32 : (32 : Int32).toInt = 32 := (by decide); have i32_119 : (119 : Int32).toInt = 119 := (by decide); omega) (by have zc_5 := Int32.lt_iff_toInt_lt.mp (Int32.not_le.mp c_5); have zc_6 := Int32.lt_iff_toInt_lt.mp (Int32.not_le.mp c_6); have zc_9 := mt Int32.toInt_inj.mp c_9; have i32_21 : (21 : Int32).toInt = 21 := (by decide); have i32_32 : (32 : Int32).toInt = 32 := (by decide); have i32_119 : (119 : Int32).toInt = 119 := (by decide); omega) (by have zc_5 := Int32.lt_iff_toInt_lt.mp (Int32.not_le.mp c_5); have zc_6 := Int32.lt_iff_toInt_lt.mp (Int32.not_le.mp c_6); have zc_9 := mt Int32.toInt_inj.mp c_9; have i32_21 : (21 : Int32).toInt = 21 := (by decide); have i32_32 : (32 : Int32).toInt = 32 := (by decide); have i32_119 : (119 : Int32).toInt = 119 := (by decide); omega) (by have zc_5 := Int32.lt_iff_toInt_lt.mp (Int32.not_le.mp c_5); have zc_6 := Int32.lt_iff_toInt_lt.mp (Int32.not_le.mp c_6); have zc_9 := mt Int32.toInt_inj.mp c_9; have i32_21 : (21 : Int32).toInt = 21 := (by decide); have i32_32 : (32 : Int32).toInt = 32 := (by decide); have i32_119 : (119 : Int32).toInt = 119 := (by decide); omega) (hP.sub (ws' := [(q_1, .inl (cJ, 21, .inr (.inl f_14)))]) [0] rfl) (hD.sub (ws' := [(q_1, .inl (cJ, 21, .inr (.inl f_14)))]) [0] (by decide) rfl) hS (lv_sub hl [1, 2, 3, 0] rfl)
          · -- v_7 ne 32 False
            obtain ⟨v_16, ev_16⟩ : ∃ y : Int32, y = x_3 + 1 := ⟨_, rfl⟩
            have gv_16 : v_16.toInt = x_3.toInt + 1 := by have zc_5 := Int32.lt_iff_toInt_lt.mp (Int32.not_le.mp c_5); have zc_6 := Int32.lt_iff_toInt_lt.mp (Int32.not_le.mp c_6); have zc_9 := congrArg Int32.toInt c_9; have i32_21 : (21 : Int32).toInt = 21 := (by decide); have i32_32 : (32 : Int32).toInt = 32 := (by decide); have i32_119 : (119 : Int32).toInt = 119 := (by decide); rw [ev_16]; exact i32_add1 (by omega)
            refine lv_iinc (v := v_16) (lv' := [(2, .int v_16), (0, .ref (aK 0)), (1, .ref q_1), (3, .int x_4)]) hx hb dX4_packAll_33 hl (k := 2) rfl (by rw [ev_16]; rfl) (by decide) rfl (fun ls hl => ?_)
            refine lv_goto (tgt := 53) hx hb dX4_packAll_36 (by decide) ?_
            obtain ⟨v_17, ev_17⟩ : ∃ y : Int32, y = x_4 + 1 := ⟨_, rfl⟩
            have gv_17 : v_17.toInt = x_4.toInt + 1 := by have zc_5 := Int32.lt_iff_toInt_lt.mp (Int32.not_le.mp c_5); have zc_6 := Int32.lt_iff_toInt_lt.mp (Int32.not_le.mp c_6); have zc_9 := congrArg Int32.toInt c_9; have i32_21 : (21 : Int32).toInt = 21 := (by decide); have i32_32 : (32 : Int32).toInt = 32 := (by decide); have i32_119 : (119 : Int32).toInt = 119 := (by decide); rw [ev_17]; exact i32_add1 (by omega)
            refine lv_iinc (v := v_17) (lv' := [(3, .int v_17), (2, .int v_16), (0, .ref (aK 0)), (1, .ref q_1)]) hx hb dX4_packAll_53 hl (k := 3) rfl (by rw [ev_17]; rfl) (by decide) rfl (fun ls hl => ?_)
            refine lv_goto (tgt := 9) hx hb dX4_packAll_56 (by decide) ?_
            exact ih _ _ _ _ _ _ (by have zc_5 := Int32.lt_iff_toInt_lt.mp (Int32.not_le.mp c_5); have zc_6 := Int32.lt_iff_toInt_lt.mp (Int32.not_le.mp c_6); have zc_9 := congrArg Int32.toInt c_9; have i32_21 : (21 : Int32).toInt = 21 := (by decide); have i32_32 : (32 : Int32).toInt = 32 := (by decide); have i32_119 : (119 : Int32).toInt = 119 := (by decide); omega) (by have zc_5 := Int32.lt_iff_toInt_lt.mp (Int32.not_le.mp c_5); have zc_6 := Int32.lt_iff_toInt_lt.mp (Int32.not_le.mp c_6); have zc_9 := congrArg Int32.toInt c_9; have i32_21 : (21 : Int32).toInt = 21 := (by decide); have i32_32 : (32 : Int32).toInt = 32 := (by decide); have i32_119 : (119 : Int32).toInt = 119 := (by decide); omega) (by have zc_5 := Int32.lt_iff_toInt_lt.mp (Int32.not_le.mp c_5); have zc_6 := Int32.lt_iff_toInt_lt.mp (Int32.not_le.mp c_6); have zc_9 := congrArg Int32.toInt c_9; have i32_21 : (21 : Int32).toInt = 21 := (by decide); have i32_32 : (32 : Int32).toInt = 32 := (by decide); have i32_119 : (119 : Int32).toInt = 119 := (by decide); omega) (by have zc_5 := Int32.lt_iff_toInt_lt.mp (Int32.not_le.mp c_5); have zc_6 := Int32.lt_iff_toInt_lt.mp (Int32.not_le.mp c_6); have zc_9 := congrArg Int32.toInt c_9; have i32_21 : (21 : Int32).toInt = 21 := (by decide); have i32_32 : (32 : Int32).toInt = 32 := (by decide); have i32_119 : (119 : Int32).toInt = 119 := (by decide); omega) (by have zc_5 := Int32.lt_iff_toInt_lt.mp (Int32.not_le.mp c_5); have zc_6 := Int32.lt_iff_toInt_lt.mp (Int32.not_le.mp c_6); have zc_9 := congrArg Int32.toInt c_9; have i32_21 : (21 : Int32).toInt = 21 := (by decide); have i32_32 : (32 : Int32).toInt = 32 := (by decide); have i32_119 : (119 : Int32).toInt = 119 := (by decide); omega) (hP.sub (ws' := [(q_1, .inl (cJ, 21, .inr (.inl f_2)))]) [0] rfl) (hD.sub (ws' := [(q_1, .inl (cJ, 21, .inr (.inl f_2)))]) [0] (by decide) rfl) hS (lv_sub hl [2, 3, 1, 0] rfl)
  exact lp 120 0 0 _ _ _ _ (by have i32_0 : (0 : Int32).toInt = 0 := (by decide); omega) (by have i32_0 : (0 : Int32).toInt = 0 := (by decide); omega) (by have i32_0 : (0 : Int32).toInt = 0 := (by decide); omega) (by have i32_0 : (0 : Int32).toInt = 0 := (by decide); omega) (by have i32_0 : (0 : Int32).toInt = 0 := (by decide); omega) hP hD hS (lv_sub hl [3, 2, 1, 0] rfl)
