theorem dX0_gainByGift_0 : decode cX0_gainByGift 0 = .ok (.aload_n 0, 1) := by decide +kernel
theorem dX0_gainByGift_1 : decode cX0_gainByGift 1 = .ok (.iload_n 1, 1) := by decide +kernel
theorem dX0_gainByGift_2 : decode cX0_gainByGift 2 = .ok (.aload_n 0, 1) := by decide +kernel
theorem kw500 : (.fieldLink RX0 18 "SpiceSwaps$Bargains" "gifts" "[I" : Cond) ∈ gT := gT_of 500 (by decide +kernel) (by decide +kernel)
theorem dX0_gainByGift_3 : decode cX0_gainByGift 3 = .ok (.getfield 18, 3) := by decide +kernel
theorem dX0_gainByGift_6 : decode cX0_gainByGift 6 = .ok (.iload_n 2, 1) := by decide +kernel
theorem dX0_gainByGift_7 : decode cX0_gainByGift 7 = .ok (.iaload, 1) := by decide +kernel
theorem dX0_gainByGift_8 : decode cX0_gainByGift 8 = .ok (.invokevirtual 48, 3) := by decide +kernel
theorem dX0_gainByGift_11 : decode cX0_gainByGift 11 = .ok (.aload_n 0, 1) := by decide +kernel
theorem dX0_gainByGift_12 : decode cX0_gainByGift 12 = .ok (.iload_n 1, 1) := by decide +kernel
theorem dX0_gainByGift_13 : decode cX0_gainByGift 13 = .ok (.aload_n 0, 1) := by decide +kernel
theorem dX0_gainByGift_14 : decode cX0_gainByGift 14 = .ok (.getfield 18, 3) := by decide +kernel
theorem dX0_gainByGift_17 : decode cX0_gainByGift 17 = .ok (.iload_n 1, 1) := by decide +kernel
theorem dX0_gainByGift_18 : decode cX0_gainByGift 18 = .ok (.iaload, 1) := by decide +kernel
theorem dX0_gainByGift_19 : decode cX0_gainByGift 19 = .ok (.invokevirtual 48, 3) := by decide +kernel
theorem dX0_gainByGift_22 : decode cX0_gainByGift 22 = .ok (.isub, 1) := by decide +kernel
theorem dX0_gainByGift_23 : decode cX0_gainByGift 23 = .ok (.ireturn, 1) := by decide +kernel
set_option maxHeartbeats 4000000 in
set_option maxRecDepth 100000 in
theorem sX0_gainByGift_1 (l : Launch) (D : va_G) (cB cI cJ cZ : ClassId) (aK aV : Nat → Nat) (h0 : Nat) (x1 : Int32) (x2 : Int32) (x3 : Int32) (x4 : Int32) (h5 : Nat) (h6 : Nat) (x7 : Int32) (x8 : Int32) (x9 : Int32) (h10 : Nat) (h11 : Nat) (x12 : Int32) (x13 : Int32) (x14 : Int32) (x15 : Int32) (x16 : Int32) (f17 : Nat → Int32) (x18 : Int32) (x19 : Int32) (f20 : Nat → Int32) (gh0 : 0 ≤ x1.toInt) (gh1 : 0 ≤ -x1.toInt + 3) (gh2 : 0 ≤ x2.toInt) (gh3 : 0 ≤ -x2.toInt + 3) (gh4 : 0 ≤ x3.toInt) (gh5 : 0 ≤ -x3.toInt + 4) (gh6 : 0 ≤ x4.toInt) (gh7 : 0 ≤ -x4.toInt + 7) (gh8 : 0 ≤ x8.toInt) (gh9 : 0 ≤ -x8.toInt + 6) (gh10 : 0 ≤ x9.toInt) (gh11 : 0 ≤ -x9.toInt + 6) (gh12 : 0 ≤ x18.toInt) (gh13 : 0 ≤ -x18.toInt + 6) (gh14 : 0 ≤ x19.toInt) (gh15 : 0 ≤ -x19.toInt + 6) (ga0 : AR f17 (-1) (6) (4)) (go0 : PT f17 (x1.toInt) (x18.toInt)) (go1 : PT f17 (x2.toInt) (x19.toInt)) : MX l yX0_gainByGift cX0_gainByGift 3 (some .int) (rmL 2 0 0) D cB cI cJ cZ aK aV [.ref h0, .int x1, .int x2] [(h0, .inr (0, [.int x3, .int x4, .ref h5, .ref h6, .int x7, .int x8, .int x9, .ref h10, .ref h11, .int x12, .int x13, .int x14, .int x15, .int x16])), (h10, .inl (cI, 4, .inl f17)), (h5, .inl (cI, 28, .inl f20))] (fun r w1 => ∃ z1 : Int32, r = some (.int z1) ∧ w1 = [(h0, .inr (0, [.int x3, .int x4, .ref h5, .ref h6, .int x7, .int x8, .int x9, .ref h10, .ref h11, .int x12, .int x13, .int x14, .int x15, .int x16])), (h10, .inl (cI, 4, .inl f17)), (h5, .inl (cI, 28, .inl f20))]) := by
  refine MX.intro (by decide) (Nat.le_of_ble_eq_true rfl) ?_
  intro p e s m below meth c A ls hx hb hr hml hown hlocks hnm hts hG hE hA hS hP hD hl hAe
  have hl : lv_has ls 3 [(0, .ref h0), (1, .int x1), (2, .int x2)] := hl
  have hown : s.vm.findClass RX0 = some m.cls := hown
  refine lv_aload_n hx hb dX0_gainByGift_0 rfl (lv_at hl 0 rfl) ?_
  refine lv_iload_n hx hb dX0_gainByGift_1 rfl (lv_at hl 1 rfl) ?_
  refine lv_aload_n hx hb dX0_gainByGift_2 rfl (lv_at hl 0 rfl) ?_
  refine va_get (D := D) (ci := 0) (v := .ref h10) (C := RX0) (T := TX0) (N := 14) hx hb hts inX0 hown hG.1 hP 0 rfl rfl 7 (by decide) (hts _ kw500) (fun _ h9 => h9) rfl dX0_gainByGift_3 ?_
  refine lv_iload_n hx hb dX0_gainByGift_6 rfl (lv_at hl 2 rfl) ?_
  refine xa_ildE hx hb hG hP 1 rfl (vp_in_iff.mpr ⟨by omega, by omega⟩) dX0_gainByGift_7 (fun v_1 ev_1 => ?_)
  have g_2 := rd_ar ga0 ev_1 (by omega) (by omega)
  have g_3 := rd_pt go1 ev_1 (by omega) (by omega)
  have o_4 : PT f17 (x2.toInt) (v_1.toInt) := mk_pt ev_1
  refine xc_core (wr := [(h10, .inl (cI, 4, .inl f17))]) (k := 0) (n := 0) (xc_runV (As := [.int x1, .int v_1]) (rest := []) hx hb hml hown hts hG hE hP hD hS hA [0, 2] (by decide) rfl (sX0_worthOf_1 l D cB cI cJ cZ aK aV h0 x1 v_1 x3 x4 h5 h6 x7 x8 x9 h10 h11 x12 x13 x14 x15 x16 f20 (by omega) (by omega) (by omega) (by omega) (by omega) (by omega) (by omega) (by omega) (by omega) (by omega) (by omega) (by omega)) kw917 kw914 kw915 kw916 kw124 (show XD yX0_worthOf 2 from by decide +kernel) (by decide) rfl rfl 0 rfl hl.1 rfl (Nat.le_of_ble_eq_true rfl) dX0_gainByGift_8 (by decide)) hP hD hS hA [0, 2] [1] rfl rfl (by decide) (by decide) (Nat.le_of_ble_eq_true rfl) (Nat.le_of_ble_eq_true rfl) (fun r w1 H locs hpost hP hD hS => ?_)
  obtain ⟨v_5, rfl, rfl⟩ := hpost
  have hP : va_P D vwCl [(h10, .inl (cI, 4, .inl f17)), (h0, .inr (0, [.int x3, .int x4, .ref h5, .ref h6, .int x7, .int x8, .int x9, .ref h10, .ref h11, .int x12, .int x13, .int x14, .int x15, .int x16])), (h5, .inl (cI, 28, .inl f20))] H := hP
  have hD : va_D A [(h10, .inl (cI, 4, .inl f17)), (h0, .inr (0, [.int x3, .int x4, .ref h5, .ref h6, .int x7, .int x8, .int x9, .ref h10, .ref h11, .int x12, .int x13, .int x14, .int x15, .int x16])), (h5, .inl (cI, 28, .inl f20))] := hD
  refine lv_aload_n hx hb dX0_gainByGift_11 rfl (lv_at hl 0 rfl) ?_
  refine lv_iload_n hx hb dX0_gainByGift_12 rfl (lv_at hl 1 rfl) ?_
  refine lv_aload_n hx hb dX0_gainByGift_13 rfl (lv_at hl 0 rfl) ?_
  refine va_get (D := D) (ci := 0) (v := .ref h10) (C := RX0) (T := TX0) (N := 14) hx hb hts inX0 hown hG.1 hP 1 rfl rfl 7 (by decide) (hts _ kw500) (fun _ h9 => h9) rfl dX0_gainByGift_14 ?_
  refine lv_iload_n hx hb dX0_gainByGift_17 rfl (lv_at hl 1 rfl) ?_
  refine xa_ildE hx hb hG hP 0 rfl (vp_in_iff.mpr ⟨by omega, by omega⟩) dX0_gainByGift_18 (fun v_6 ev_6 => ?_)
  have g_7 := rd_ar ga0 ev_6 (by omega) (by omega)
  have g_8 := rd_pt go0 ev_6 (by omega) (by omega)
  have o_9 : PT f17 (x1.toInt) (v_6.toInt) := mk_pt ev_6
  refine xc_core (wr := [(h10, .inl (cI, 4, .inl f17))]) (k := 0) (n := 0) (xc_runV (As := [.int x1, .int v_6]) (rest := [.int v_5]) hx hb hml hown hts hG hE hP hD hS hA [1, 2] (by decide) rfl (sX0_worthOf_1 l D cB cI cJ cZ aK aV h0 x1 v_6 x3 x4 h5 h6 x7 x8 x9 h10 h11 x12 x13 x14 x15 x16 f20 (by omega) (by omega) (by omega) (by omega) (by omega) (by omega) (by omega) (by omega) (by omega) (by omega) (by omega) (by omega)) kw917 kw914 kw915 kw916 kw124 (show XD yX0_worthOf 2 from by decide +kernel) (by decide) rfl rfl 1 rfl hl.1 rfl (Nat.le_of_ble_eq_true rfl) dX0_gainByGift_19 (by decide)) hP hD hS hA [1, 2] [0] rfl rfl (by decide) (by decide) (Nat.le_of_ble_eq_true rfl) (Nat.le_of_ble_eq_true rfl) (fun r w1 H locs hpost hP hD hS => ?_)
  obtain ⟨v_10, rfl, rfl⟩ := hpost
  have hP : va_P D vwCl [(h10, .inl (cI, 4, .inl f17)), (h0, .inr (0, [.int x3, .int x4, .ref h5, .ref h6, .int x7, .int x8, .int x9, .ref h10, .ref h11, .int x12, .int x13, .int x14, .int x15, .int x16])), (h5, .inl (cI, 28, .inl f20))] H := hP
  have hD : va_D A [(h10, .inl (cI, 4, .inl f17)), (h0, .inr (0, [.int x3, .int x4, .ref h5, .ref h6, .int x7, .int x8, .int x9, .ref h10, .ref h11, .int x12, .int x13, .int x14, .int x15, .int x16])), (h5, .inl (cI, 28, .inl f20))] := hD
  refine lv_isub hx hb dX0_gainByGift_22 ?_
  refine xt_any (fun v_11 => ?_)
  have hP9 := hP.sub (ws' := [(h0, .inr (0, [.int x3, .int x4, .ref h5, .ref h6, .int x7, .int x8, .int x9, .ref h10, .ref h11, .int x12, .int x13, .int x14, .int x15, .int x16])), (h10, .inl (cI, 4, .inl f17)), (h5, .inl (cI, 28, .inl f20))]) [1, 0, 2] rfl
  have hD9 := hD.sub (ws' := [(h0, .inr (0, [.int x3, .int x4, .ref h5, .ref h6, .int x7, .int x8, .int x9, .ref h10, .ref h11, .int x12, .int x13, .int x14, .int x15, .int x16])), (h10, .inl (cI, 4, .inl f17)), (h5, .inl (cI, 28, .inl f20))]) [1, 0, 2] (by decide) rfl
  exact xr_i (rm := (rmL 2 0 0)) hx hb hr hlocks hAe hS hP9 hD9 rfl (Nat.le_of_ble_eq_true rfl) (Nat.le_of_ble_eq_true rfl) dX0_gainByGift_23 ⟨v_11, rfl, rfl⟩
theorem kw1069 : (.constant RX0 71 (-1000000000) : Cond) ∈ gT := gT_of 1069 (by decide +kernel) (by decide +kernel)
theorem dX0_closeRound_0 : decode cX0_closeRound 0 = .ok (.ldc 71, 2) := by decide +kernel
theorem dX0_closeRound_2 : decode cX0_closeRound 2 = .ok (.istore 4, 2) := by decide +kernel
theorem dX0_closeRound_4 : decode cX0_closeRound 4 = .ok (.iconst 1, 1) := by decide +kernel
theorem dX0_closeRound_5 : decode cX0_closeRound 5 = .ok (.istore 5, 2) := by decide +kernel
theorem dX0_closeRound_7 : decode cX0_closeRound 7 = .ok (.iconst 0, 1) := by decide +kernel
theorem dX0_closeRound_8 : decode cX0_closeRound 8 = .ok (.istore 6, 2) := by decide +kernel
theorem dX0_closeRound_10 : decode cX0_closeRound 10 = .ok (.iload 6, 2) := by decide +kernel
theorem dX0_closeRound_12 : decode cX0_closeRound 12 = .ok (.aload_n 0, 1) := by decide +kernel
theorem dX0_closeRound_13 : decode cX0_closeRound 13 = .ok (.getfield 36, 3) := by decide +kernel
theorem dX0_closeRound_16 : decode cX0_closeRound 16 = .ok (.if_icmp .ge 85, 3) := by decide +kernel
theorem dX0_closeRound_101 : decode cX0_closeRound 101 = .ok (.iload 5, 2) := by decide +kernel
theorem dX0_closeRound_103 : decode cX0_closeRound 103 = .ok (.ifCond .ne 6, 3) := by decide +kernel
theorem dX0_closeRound_109 : decode cX0_closeRound 109 = .ok (.aload_n 0, 1) := by decide +kernel
theorem dX0_closeRound_110 : decode cX0_closeRound 110 = .ok (.iload_n 1, 1) := by decide +kernel
theorem dX0_closeRound_111 : decode cX0_closeRound 111 = .ok (.iload_n 2, 1) := by decide +kernel
theorem kw1082 : (.methodLink RX0 96 yX0_gainByGift : Cond) ∈ gT := gT_of 1082 (by decide +kernel) (by decide +kernel)
theorem kw1085 : (.code yX0_gainByGift cX0_gainByGift 3 (some .int) : Cond) ∈ gT := gT_of 1085 (by decide +kernel) (by decide +kernel)
theorem kw1084 : (.instanceMethod yX0_gainByGift : Cond) ∈ gT := gT_of 1084 (by decide +kernel) (by decide +kernel)
theorem kw33 : (.selects RX0 yX0_gainByGift yX0_gainByGift : Cond) ∈ gT := gT_of 33 (by decide +kernel) (by decide +kernel)
theorem dX0_closeRound_112 : decode cX0_closeRound 112 = .ok (.invokevirtual 96, 3) := by decide +kernel
theorem dX0_closeRound_115 : decode cX0_closeRound 115 = .ok (.istore 6, 2) := by decide +kernel
theorem dX0_closeRound_117 : decode cX0_closeRound 117 = .ok (.iload 6, 2) := by decide +kernel
theorem dX0_closeRound_119 : decode cX0_closeRound 119 = .ok (.ifCond .ge 8, 3) := by decide +kernel
theorem dX0_closeRound_127 : decode cX0_closeRound 127 = .ok (.iload 6, 2) := by decide +kernel
theorem dX0_closeRound_129 : decode cX0_closeRound 129 = .ok (.ireturn, 1) := by decide +kernel
theorem dX0_closeRound_122 : decode cX0_closeRound 122 = .ok (.ldc 71, 2) := by decide +kernel
theorem dX0_closeRound_124 : decode cX0_closeRound 124 = .ok (.goto 5, 3) := by decide +kernel
theorem dX0_closeRound_19 : decode cX0_closeRound 19 = .ok (.aload_n 0, 1) := by decide +kernel
theorem dX0_closeRound_20 : decode cX0_closeRound 20 = .ok (.getfield 18, 3) := by decide +kernel
theorem dX0_closeRound_23 : decode cX0_closeRound 23 = .ok (.iload 6, 2) := by decide +kernel
theorem dX0_closeRound_25 : decode cX0_closeRound 25 = .ok (.iaload, 1) := by decide +kernel
theorem dX0_closeRound_26 : decode cX0_closeRound 26 = .ok (.iconst (-1), 1) := by decide +kernel
theorem dX0_closeRound_27 : decode cX0_closeRound 27 = .ok (.if_icmp .eq 68, 3) := by decide +kernel
theorem dX0_closeRound_95 : decode cX0_closeRound 95 = .ok (.iinc 6 1, 3) := by decide +kernel
theorem dX0_closeRound_98 : decode cX0_closeRound 98 = .ok (.goto (-88), 3) := by decide +kernel
theorem dX0_closeRound_30 : decode cX0_closeRound 30 = .ok (.iload_n 3, 1) := by decide +kernel
theorem dX0_closeRound_31 : decode cX0_closeRound 31 = .ok (.iload 6, 2) := by decide +kernel
theorem dX0_closeRound_33 : decode cX0_closeRound 33 = .ok (.ishr, 1) := by decide +kernel
theorem dX0_closeRound_34 : decode cX0_closeRound 34 = .ok (.iconst 1, 1) := by decide +kernel
theorem dX0_closeRound_35 : decode cX0_closeRound 35 = .ok (.iand, 1) := by decide +kernel
theorem dX0_closeRound_36 : decode cX0_closeRound 36 = .ok (.ifCond .ne 59, 3) := by decide +kernel
set_option maxHeartbeats 4000000 in
set_option maxRecDepth 100000 in
theorem sX0_closeRound_1 (l : Launch) (D : va_G) (cB cI cJ cZ : ClassId) (aK aV : Nat → Nat) (h0 : Nat) (x1 : Int32) (x2 : Int32) (x3 : Int32) (x4 : Int32) (x5 : Int32) (h6 : Nat) (h7 : Nat) (x8 : Int32) (x9 : Int32) (x10 : Int32) (h11 : Nat) (h12 : Nat) (x13 : Int32) (x14 : Int32) (x15 : Int32) (x16 : Int32) (x17 : Int32) (f18 : Nat → Int32) (x19 : Int32) (x20 : Int32) (f21 : Nat → Int32) (gh0 : 0 ≤ x1.toInt) (gh1 : 0 ≤ -x1.toInt + 3) (gh2 : 0 ≤ x2.toInt) (gh3 : 0 ≤ -x2.toInt + 3) (gh4 : 0 ≤ x3.toInt) (gh5 : 0 ≤ -x3.toInt + 15) (gh6 : 0 ≤ x4.toInt) (gh7 : 0 ≤ -x4.toInt + 4) (gh8 : 0 ≤ x5.toInt) (gh9 : 0 ≤ -x5.toInt + 7) (gh10 : 0 ≤ x9.toInt) (gh11 : 0 ≤ -x9.toInt + 6) (gh12 : 0 ≤ x10.toInt) (gh13 : 0 ≤ -x10.toInt + 6) (gh14 : 0 ≤ x19.toInt) (gh15 : 0 ≤ -x19.toInt + 6) (gh16 : 0 ≤ x20.toInt) (gh17 : 0 ≤ -x20.toInt + 6) (ga0 : AR f18 (-1) (6) (4)) (go0 : PT f18 (x1.toInt) (x19.toInt)) (go1 : PT f18 (x2.toInt) (x20.toInt)) (go2 : BC (x3.toInt) (4)) : MX l yX0_closeRound cX0_closeRound 9 (some .int) (rmL 3 0 0) D cB cI cJ cZ aK aV [.ref h0, .int x1, .int x2, .int x3] [(h0, .inr (0, [.int x4, .int x5, .ref h6, .ref h7, .int x8, .int x9, .int x10, .ref h11, .ref h12, .int x13, .int x14, .int x15, .int x16, .int x17])), (h11, .inl (cI, 4, .inl f18)), (h6, .inl (cI, 28, .inl f21))] (fun r w1 => ∃ z1 : Int32, 0 ≤ z1.toInt + 1000000000 ∧ r = some (.int z1) ∧ w1 = [(h0, .inr (0, [.int x4, .int x5, .ref h6, .ref h7, .int x8, .int x9, .int x10, .ref h11, .ref h12, .int x13, .int x14, .int x15, .int x16, .int x17])), (h11, .inl (cI, 4, .inl f18)), (h6, .inl (cI, 28, .inl f21))]) := by
  refine MX.intro (by decide) (Nat.le_of_ble_eq_true rfl) ?_
  intro p e s m below meth c A ls hx hb hr hml hown hlocks hnm hts hG hE hA hS hP hD hl hAe
  have hl : lv_has ls 9 [(0, .ref h0), (1, .int x1), (2, .int x2), (3, .int x3)] := hl
  have hown : s.vm.findClass RX0 = some m.cls := hown
  refine lv_ldc (v := (-1000000000)) hx hb hown (hts _ kw1069) dX0_closeRound_0 ?_
  refine lv_istore (lv' := [(4, .int (-1000000000)), (0, .ref h0), (1, .int x1), (2, .int x2), (3, .int x3)]) hx hb dX0_closeRound_2 hl (by decide) rfl (fun ls hl => ?_)
  refine lv_iconst (v := 1) hx hb dX0_closeRound_4 (by decide +kernel) ?_
  refine lv_istore (lv' := [(5, .int 1), (4, .int (-1000000000)), (0, .ref h0), (1, .int x1), (2, .int x2), (3, .int x3)]) hx hb dX0_closeRound_5 hl (by decide) rfl (fun ls hl => ?_)
  refine lv_iconst (v := 0) hx hb dX0_closeRound_7 (by decide +kernel) ?_
  refine lv_istore (lv' := [(6, .int 0), (5, .int 1), (4, .int (-1000000000)), (0, .ref h0), (1, .int x1), (2, .int x2), (3, .int x3)]) hx hb dX0_closeRound_8 hl (by decide) rfl (fun ls hl => ?_)
  have lp_3 : ∀ (n : Nat) (x_2 : Int32) (H : Heap) (locs : List Loc) (ls : Array Slot), 0 ≤ x_2.toInt → 0 ≤ x4.toInt - x_2.toInt → -x_2.toInt + 4 < n → va_P D vwCl [(h0, .inr (0, [.int x4, .int x5, .ref h6, .ref h7, .int x8, .int x9, .int x10, .ref h11, .ref h12, .int x13, .int x14, .int x15, .int x16, .int x17])), (h11, .inl (cI, 4, .inl f18)), (h6, .inl (cI, 28, .inl f21))] H → va_D A [(h0, .inr (0, [.int x4, .int x5, .ref h6, .ref h7, .int x8, .int x9, .int x10, .ref h11, .ref h12, .int x13, .int x14, .int x15, .int x16, .int x17])), (h11, .inl (cI, 4, .inl f18)), (h6, .inl (cI, 28, .inl f21))] → va_S A s.heap H locs → lv_has ls 9 [(6, .int x_2), (5, .int 1), (4, .int (-1000000000)), (0, .ref h0), (1, .int x1), (2, .int x2), (3, .int x3)] → W p l e (rmL 3 0 0) s m [.ref h0, .int x1, .int x2, .int x3].toArray below meth c H locs 0 0 (ZX D below [.ref h0, .int x1, .int x2, .int x3] s (rmL 3 0 0) [(h0, .inr (0, [.int x4, .int x5, .ref h6, .ref h7, .int x8, .int x9, .int x10, .ref h11, .ref h12, .int x13, .int x14, .int x15, .int x16, .int x17])), (h11, .inl (cI, 4, .inl f18)), (h6, .inl (cI, 28, .inl f21))] (fun r w1 => ∃ z1 : Int32, 0 ≤ z1.toInt + 1000000000 ∧ r = some (.int z1) ∧ w1 = [(h0, .inr (0, [.int x4, .int x5, .ref h6, .ref h7, .int x8, .int x9, .int x10, .ref h11, .ref h12, .int x13, .int x14, .int x15, .int x16, .int x17])), (h11, .inl (cI, 4, .inl f18)), (h6, .inl (cI, 28, .inl f21))])) (F0 m 10 ls []) := by
    intro n
    induction n with
    | zero => intro x_2 H locs ls g_4 g_5 g_6; omega
    | succ n ihlp_3 =>
      intro x_2 H locs ls g_4 g_5 g_6 hP hD hS hl
      refine lv_iload hx hb dX0_closeRound_10 (lv_at hl 0 rfl) ?_
      refine lv_aload_n hx hb dX0_closeRound_12 rfl (lv_at hl 3 rfl) ?_
      refine va_get (D := D) (ci := 0) (v := .int x4) (C := RX0) (T := TX0) (N := 14) hx hb hts inX0 hown hG.1 hP 0 rfl rfl 0 (by decide) (hts _ kw489) (fun _ h9 => h9) rfl dX0_closeRound_13 ?_
      refine lv_icmp_ge (tgt := 101) hx hb dX0_closeRound_16 (by decide) (fun c_7 => ?_) (fun c_7 => ?_)
      · have fc_7 : x4.toInt ≤ x_2.toInt := i_le rfl rfl c_7
        refine lv_iload hx hb dX0_closeRound_101 (lv_at hl 1 rfl) ?_
        refine lv_if_ne (tgt := 109) hx hb dX0_closeRound_103 (by decide) (fun _ => ?_) (fun h => absurd h (by decide +kernel))
        refine lv_aload_n hx hb dX0_closeRound_109 rfl (lv_at hl 3 rfl) ?_
        refine lv_iload_n hx hb dX0_closeRound_110 rfl (lv_at hl 4 rfl) ?_
        refine lv_iload_n hx hb dX0_closeRound_111 rfl (lv_at hl 5 rfl) ?_
        refine xc_core (wr := []) (k := 0) (n := 0) (xc_runV (As := [.int x1, .int x2]) (rest := []) hx hb hml hown hts hG hE hP hD hS hA [0, 1, 2] (by decide) rfl (sX0_gainByGift_1 l D cB cI cJ cZ aK aV h0 x1 x2 x4 x5 h6 h7 x8 x9 x10 h11 h12 x13 x14 x15 x16 x17 f18 x19 x20 f21 (by omega) (by omega) (by omega) (by omega) (by omega) (by omega) (by omega) (by omega) (by omega) (by omega) (by omega) (by omega) (by omega) (by omega) (by omega) (by omega) (ga0.mono (by omega) (by omega) (by omega)) go0 go1) kw1085 kw1082 kw1084 kw33 kw124 (show XD yX0_gainByGift 2 from by decide +kernel) (by decide) rfl rfl 0 rfl hl.1 rfl (Nat.le_of_ble_eq_true rfl) dX0_closeRound_112 (by decide)) hP hD hS hA [0, 1, 2] [] rfl rfl (by decide) (by decide) (Nat.le_of_ble_eq_true rfl) (Nat.le_of_ble_eq_true rfl) (fun r w1 H locs hpost hP hD hS => ?_)
        obtain ⟨v_8, rfl, rfl⟩ := hpost
        have hP : va_P D vwCl [(h0, .inr (0, [.int x4, .int x5, .ref h6, .ref h7, .int x8, .int x9, .int x10, .ref h11, .ref h12, .int x13, .int x14, .int x15, .int x16, .int x17])), (h11, .inl (cI, 4, .inl f18)), (h6, .inl (cI, 28, .inl f21))] H := hP
        have hD : va_D A [(h0, .inr (0, [.int x4, .int x5, .ref h6, .ref h7, .int x8, .int x9, .int x10, .ref h11, .ref h12, .int x13, .int x14, .int x15, .int x16, .int x17])), (h11, .inl (cI, 4, .inl f18)), (h6, .inl (cI, 28, .inl f21))] := hD
        refine lv_istore (lv' := [(6, .int v_8), (5, .int 1), (4, .int (-1000000000)), (0, .ref h0), (1, .int x1), (2, .int x2), (3, .int x3)]) hx hb dX0_closeRound_115 hl (by decide) rfl (fun ls hl => ?_)
        refine lv_iload hx hb dX0_closeRound_117 (lv_at hl 0 rfl) ?_
        refine lv_if_ge (tgt := 127) hx hb dX0_closeRound_119 (by decide) (fun c_9 => ?_) (fun c_9 => ?_)
        · have fc_9 : (0 : Int) ≤ v_8.toInt := i_le (by decide) rfl c_9
          refine lv_iload hx hb dX0_closeRound_127 (lv_at hl 0 rfl) ?_
          have hP9 := hP.sub (ws' := [(h0, .inr (0, [.int x4, .int x5, .ref h6, .ref h7, .int x8, .int x9, .int x10, .ref h11, .ref h12, .int x13, .int x14, .int x15, .int x16, .int x17])), (h11, .inl (cI, 4, .inl f18)), (h6, .inl (cI, 28, .inl f21))]) [0, 1, 2] rfl
          have hD9 := hD.sub (ws' := [(h0, .inr (0, [.int x4, .int x5, .ref h6, .ref h7, .int x8, .int x9, .int x10, .ref h11, .ref h12, .int x13, .int x14, .int x15, .int x16, .int x17])), (h11, .inl (cI, 4, .inl f18)), (h6, .inl (cI, 28, .inl f21))]) [0, 1, 2] (by decide) rfl
          exact xr_i (rm := (rmL 3 0 0)) hx hb hr hlocks hAe hS hP9 hD9 rfl (Nat.le_of_ble_eq_true rfl) (Nat.le_of_ble_eq_true rfl) dX0_closeRound_129 ⟨v_8, by omega, rfl, rfl⟩
        · have fc_9 : v_8.toInt < (0 : Int) := i_nle (by decide) rfl c_9
          refine lv_ldc (v := (-1000000000)) hx hb hown (hts _ kw1069) dX0_closeRound_122 ?_
          refine lv_goto (tgt := 129) hx hb dX0_closeRound_124 (by decide) ?_
          have hP9 := hP.sub (ws' := [(h0, .inr (0, [.int x4, .int x5, .ref h6, .ref h7, .int x8, .int x9, .int x10, .ref h11, .ref h12, .int x13, .int x14, .int x15, .int x16, .int x17])), (h11, .inl (cI, 4, .inl f18)), (h6, .inl (cI, 28, .inl f21))]) [0, 1, 2] rfl
          have hD9 := hD.sub (ws' := [(h0, .inr (0, [.int x4, .int x5, .ref h6, .ref h7, .int x8, .int x9, .int x10, .ref h11, .ref h12, .int x13, .int x14, .int x15, .int x16, .int x17])), (h11, .inl (cI, 4, .inl f18)), (h6, .inl (cI, 28, .inl f21))]) [0, 1, 2] (by decide) rfl
          exact xr_i (rm := (rmL 3 0 0)) hx hb hr hlocks hAe hS hP9 hD9 rfl (Nat.le_of_ble_eq_true rfl) (Nat.le_of_ble_eq_true rfl) dX0_closeRound_129 ⟨(-1000000000), by have zcm1000000000 : ((-1000000000) : Int32).toInt = (-1000000000) := (by decide); omega, rfl, rfl⟩
      · have fc_7 : x_2.toInt < x4.toInt := i_nle rfl rfl c_7
        refine lv_aload_n hx hb dX0_closeRound_19 rfl (lv_at hl 3 rfl) ?_
        refine va_get (D := D) (ci := 0) (v := .ref h11) (C := RX0) (T := TX0) (N := 14) hx hb hts inX0 hown hG.1 hP 0 rfl rfl 7 (by decide) (hts _ kw500) (fun _ h9 => h9) rfl dX0_closeRound_20 ?_
        refine lv_iload hx hb dX0_closeRound_23 (lv_at hl 0 rfl) ?_
        refine xa_ildE hx hb hG hP 1 rfl (vp_in_iff.mpr ⟨by omega, by omega⟩) dX0_closeRound_25 (fun v_10 ev_10 => ?_)
        have g_11 := rd_ar ga0 ev_10 (by omega) (by omega)
        have o_12 : PT f18 (x_2.toInt) (v_10.toInt) := mk_pt ev_10
        refine lv_iconst (v := (-1)) hx hb dX0_closeRound_26 (by decide +kernel) ?_
        refine lv_icmp_eq (tgt := 95) hx hb dX0_closeRound_27 (by decide) (fun c_13 => ?_) (fun c_13 => ?_)
        · have fc_13 : v_10.toInt = ((-1) : Int) := i_eq rfl (by decide) c_13
          obtain ⟨v_14, ev_14⟩ : ∃ y : Int32, y = x_2 + 1 := ⟨_, rfl⟩
          have gv_14 : v_14.toInt = x_2.toInt + 1 := by
            have zy : (1 : Int32).toInt = 1 := by decide
            rw [ev_14, i32_add (by rw [zy]; omega) (by rw [zy]; omega), zy]
          refine lv_iinc (v := v_14) (lv' := [(6, .int v_14), (5, .int 1), (4, .int (-1000000000)), (0, .ref h0), (1, .int x1), (2, .int x2), (3, .int x3)]) hx hb dX0_closeRound_95 hl (k := 0) rfl (by rw [ev_14]; rfl) (by decide) rfl (fun ls hl => ?_)
          refine lv_goto (tgt := 10) hx hb dX0_closeRound_98 (by decide) ?_
          exact ihlp_3  v_14 _ _ _ (by omega) (by omega) (by omega) (hP.sub (ws' := [(h0, .inr (0, [.int x4, .int x5, .ref h6, .ref h7, .int x8, .int x9, .int x10, .ref h11, .ref h12, .int x13, .int x14, .int x15, .int x16, .int x17])), (h11, .inl (cI, 4, .inl f18)), (h6, .inl (cI, 28, .inl f21))]) [0, 1, 2] rfl) (hD.sub (ws' := [(h0, .inr (0, [.int x4, .int x5, .ref h6, .ref h7, .int x8, .int x9, .int x10, .ref h11, .ref h12, .int x13, .int x14, .int x15, .int x16, .int x17])), (h11, .inl (cI, 4, .inl f18)), (h6, .inl (cI, 28, .inl f21))]) [0, 1, 2] (by decide) rfl) hS (lv_sub hl [0, 1, 2, 3, 4, 5, 6] rfl)
        · have fc_13 : v_10.toInt ≠ ((-1) : Int) := i_ne rfl (by decide) c_13
          refine lv_iload_n hx hb dX0_closeRound_30 rfl (lv_at hl 6 rfl) ?_
          refine lv_iload hx hb dX0_closeRound_31 (lv_at hl 0 rfl) ?_
          refine lv_ishr hx hb dX0_closeRound_33 ?_
          refine lv_topi (fun v_15 ev_15 => ?_)
          refine lv_iconst (v := 1) hx hb dX0_closeRound_34 (by decide +kernel) ?_
          refine lv_iand hx hb dX0_closeRound_35 ?_
          refine lv_topi (fun v_16 ev_16 => ?_)
          have gv_16 : 0 ≤ v_16.toInt ∧ v_16.toInt < 2 := by rw [ev_16]; exact i32_and (m := 1) 1 (by decide) (by decide)
          refine lv_if_ne (tgt := 95) hx hb dX0_closeRound_36 (by decide) (fun c_17 => ?_) (fun c_17 => ?_)
          · have fc_17 : v_16.toInt ≠ (0 : Int) := i_ne rfl (by decide) c_17
            obtain ⟨v_18, ev_18⟩ : ∃ y : Int32, y = x_2 + 1 := ⟨_, rfl⟩
            have gv_18 : v_18.toInt = x_2.toInt + 1 := by
              have zy : (1 : Int32).toInt = 1 := by decide
              rw [ev_18, i32_add (by rw [zy]; omega) (by rw [zy]; omega), zy]
            refine lv_iinc (v := v_18) (lv' := [(6, .int v_18), (5, .int 1), (4, .int (-1000000000)), (0, .ref h0), (1, .int x1), (2, .int x2), (3, .int x3)]) hx hb dX0_closeRound_95 hl (k := 0) rfl (by rw [ev_18]; rfl) (by decide) rfl (fun ls hl => ?_)
            refine lv_goto (tgt := 10) hx hb dX0_closeRound_98 (by decide) ?_
            exact ihlp_3  v_18 _ _ _ (by omega) (by omega) (by omega) (hP.sub (ws' := [(h0, .inr (0, [.int x4, .int x5, .ref h6, .ref h7, .int x8, .int x9, .int x10, .ref h11, .ref h12, .int x13, .int x14, .int x15, .int x16, .int x17])), (h11, .inl (cI, 4, .inl f18)), (h6, .inl (cI, 28, .inl f21))]) [0, 1, 2] rfl) (hD.sub (ws' := [(h0, .inr (0, [.int x4, .int x5, .ref h6, .ref h7, .int x8, .int x9, .int x10, .ref h11, .ref h12, .int x13, .int x14, .int x15, .int x16, .int x17])), (h11, .inl (cI, 4, .inl f18)), (h6, .inl (cI, 28, .inl f21))]) [0, 1, 2] (by decide) rfl) hS (lv_sub hl [0, 1, 2, 3, 4, 5, 6] rfl)
          · have fc_17 : v_16.toInt = (0 : Int) := i_eq rfl (by decide) c_17
            exact absurd (bc_full go2 ev_15 ev_16 (by omega) (by omega) (by omega)) (by decide)
  exact lp_3 6 0 _ _ _ (by have zc0 : (0 : Int32).toInt = 0 := (by decide); omega) (by have zc0 : (0 : Int32).toInt = 0 := (by decide); omega) (by have zc0 : (0 : Int32).toInt = 0 := (by decide); omega) (hP.sub (ws' := [(h0, .inr (0, [.int x4, .int x5, .ref h6, .ref h7, .int x8, .int x9, .int x10, .ref h11, .ref h12, .int x13, .int x14, .int x15, .int x16, .int x17])), (h11, .inl (cI, 4, .inl f18)), (h6, .inl (cI, 28, .inl f21))]) [0, 1, 2] rfl) (hD.sub (ws' := [(h0, .inr (0, [.int x4, .int x5, .ref h6, .ref h7, .int x8, .int x9, .int x10, .ref h11, .ref h12, .int x13, .int x14, .int x15, .int x16, .int x17])), (h11, .inl (cI, 4, .inl f18)), (h6, .inl (cI, 28, .inl f21))]) [0, 1, 2] (by decide) rfl) hS (lv_sub hl [0, 1, 2, 3, 4, 5, 6] rfl)
theorem dX0_closeRound_106 : decode cX0_closeRound 106 = .ok (.iload 4, 2) := by decide +kernel
theorem dX0_closeRound_108 : decode cX0_closeRound 108 = .ok (.ireturn, 1) := by decide +kernel
theorem dX0_closeRound_39 : decode cX0_closeRound 39 = .ok (.iconst 0, 1) := by decide +kernel
theorem dX0_closeRound_40 : decode cX0_closeRound 40 = .ok (.istore 5, 2) := by decide +kernel
theorem dX0_closeRound_42 : decode cX0_closeRound 42 = .ok (.aload_n 0, 1) := by decide +kernel
theorem dX0_closeRound_43 : decode cX0_closeRound 43 = .ok (.iload 6, 2) := by decide +kernel
theorem dX0_closeRound_45 : decode cX0_closeRound 45 = .ok (.iload_n 2, 1) := by decide +kernel
theorem dX0_closeRound_46 : decode cX0_closeRound 46 = .ok (.invokevirtual 96, 3) := by decide +kernel
theorem dX0_closeRound_49 : decode cX0_closeRound 49 = .ok (.istore 7, 2) := by decide +kernel
theorem dX0_closeRound_51 : decode cX0_closeRound 51 = .ok (.iload 7, 2) := by decide +kernel
theorem dX0_closeRound_53 : decode cX0_closeRound 53 = .ok (.ifCond .ge 8, 3) := by decide +kernel
theorem dX0_closeRound_61 : decode cX0_closeRound 61 = .ok (.aload_n 0, 1) := by decide +kernel
theorem dX0_closeRound_62 : decode cX0_closeRound 62 = .ok (.iload_n 1, 1) := by decide +kernel
theorem dX0_closeRound_63 : decode cX0_closeRound 63 = .ok (.iload 6, 2) := by decide +kernel
theorem dX0_closeRound_65 : decode cX0_closeRound 65 = .ok (.iload_n 3, 1) := by decide +kernel
theorem dX0_closeRound_66 : decode cX0_closeRound 66 = .ok (.iconst 1, 1) := by decide +kernel
theorem dX0_closeRound_67 : decode cX0_closeRound 67 = .ok (.iload 6, 2) := by decide +kernel
theorem dX0_closeRound_69 : decode cX0_closeRound 69 = .ok (.ishl, 1) := by decide +kernel
theorem dX0_closeRound_70 : decode cX0_closeRound 70 = .ok (.ior, 1) := by decide +kernel
theorem kw1078 : (.methodLink RX0 86 yX0_closeRound : Cond) ∈ gT := gT_of 1078 (by decide +kernel) (by decide +kernel)
theorem kw1081 : (.code yX0_closeRound cX0_closeRound 9 (some .int) : Cond) ∈ gT := gT_of 1081 (by decide +kernel) (by decide +kernel)
theorem kw1080 : (.instanceMethod yX0_closeRound : Cond) ∈ gT := gT_of 1080 (by decide +kernel) (by decide +kernel)
theorem kw32 : (.selects RX0 yX0_closeRound yX0_closeRound : Cond) ∈ gT := gT_of 32 (by decide +kernel) (by decide +kernel)
theorem dX0_closeRound_71 : decode cX0_closeRound 71 = .ok (.invokevirtual 86, 3) := by decide +kernel
theorem dX0_closeRound_74 : decode cX0_closeRound 74 = .ok (.istore 8, 2) := by decide +kernel
theorem dX0_closeRound_76 : decode cX0_closeRound 76 = .ok (.iload 8, 2) := by decide +kernel
theorem dX0_closeRound_78 : decode cX0_closeRound 78 = .ok (.ldc 71, 2) := by decide +kernel
theorem dX0_closeRound_80 : decode cX0_closeRound 80 = .ok (.if_icmp .eq 15, 3) := by decide +kernel
theorem dX0_closeRound_83 : decode cX0_closeRound 83 = .ok (.iload 4, 2) := by decide +kernel
theorem dX0_closeRound_85 : decode cX0_closeRound 85 = .ok (.iload 7, 2) := by decide +kernel
theorem dX0_closeRound_87 : decode cX0_closeRound 87 = .ok (.iload 8, 2) := by decide +kernel
theorem dX0_closeRound_89 : decode cX0_closeRound 89 = .ok (.iadd, 1) := by decide +kernel
theorem kw1086 : (.methodLink RX0 99 Lib.Math.max.name : Cond) ∈ gT := gT_of 1086 (by decide +kernel) (by decide +kernel)
theorem dX0_closeRound_90 : decode cX0_closeRound 90 = .ok (.invokestatic 99, 3) := by decide +kernel
theorem dX0_closeRound_93 : decode cX0_closeRound 93 = .ok (.istore 4, 2) := by decide +kernel
theorem dX0_closeRound_56 : decode cX0_closeRound 56 = .ok (.ldc 71, 2) := by decide +kernel
theorem dX0_closeRound_58 : decode cX0_closeRound 58 = .ok (.goto 16, 3) := by decide +kernel
set_option maxHeartbeats 4000000 in
set_option maxRecDepth 100000 in
theorem sX0_closeRound_2 (l : Launch) (D : va_G) (cB cI cJ cZ : ClassId) (aK aV : Nat → Nat) (h0 : Nat) (x1 : Int32) (x2 : Int32) (x3 : Int32) (x4 : Int32) (x5 : Int32) (h6 : Nat) (h7 : Nat) (x8 : Int32) (x9 : Int32) (x10 : Int32) (h11 : Nat) (h12 : Nat) (x13 : Int32) (x14 : Int32) (x15 : Int32) (x16 : Int32) (x17 : Int32) (f18 : Nat → Int32) (x19 : Int32) (x20 : Int32) (f21 : Nat → Int32) (gh0 : 0 ≤ x1.toInt) (gh1 : 0 ≤ -x1.toInt + 3) (gh2 : 0 ≤ x2.toInt) (gh3 : 0 ≤ -x2.toInt + 3) (gh4 : 0 ≤ x3.toInt) (gh5 : 0 ≤ -x3.toInt + 15) (gh6 : 0 ≤ x4.toInt) (gh7 : 0 ≤ -x4.toInt + 4) (gh8 : 0 ≤ x5.toInt) (gh9 : 0 ≤ -x5.toInt + 7) (gh10 : 0 ≤ x9.toInt) (gh11 : 0 ≤ -x9.toInt + 6) (gh12 : 0 ≤ x10.toInt) (gh13 : 0 ≤ -x10.toInt + 6) (gh14 : 0 ≤ x19.toInt) (gh15 : 0 ≤ -x19.toInt + 6) (gh16 : 0 ≤ x20.toInt) (gh17 : 0 ≤ -x20.toInt + 6) (ga0 : AR f18 (-1) (6) (4)) (go0 : PT f18 (x1.toInt) (x19.toInt)) (go1 : PT f18 (x2.toInt) (x20.toInt)) (go2 : BC (x3.toInt) (3)) : MX l yX0_closeRound cX0_closeRound 9 (some .int) (rmL 4 0 0) D cB cI cJ cZ aK aV [.ref h0, .int x1, .int x2, .int x3] [(h0, .inr (0, [.int x4, .int x5, .ref h6, .ref h7, .int x8, .int x9, .int x10, .ref h11, .ref h12, .int x13, .int x14, .int x15, .int x16, .int x17])), (h11, .inl (cI, 4, .inl f18)), (h6, .inl (cI, 28, .inl f21))] (fun r w1 => ∃ z1 : Int32, 0 ≤ z1.toInt + 1000000000 ∧ r = some (.int z1) ∧ w1 = [(h0, .inr (0, [.int x4, .int x5, .ref h6, .ref h7, .int x8, .int x9, .int x10, .ref h11, .ref h12, .int x13, .int x14, .int x15, .int x16, .int x17])), (h11, .inl (cI, 4, .inl f18)), (h6, .inl (cI, 28, .inl f21))]) := by
  refine MX.intro (by decide) (Nat.le_of_ble_eq_true rfl) ?_
  intro p e s m below meth c A ls hx hb hr hml hown hlocks hnm hts hG hE hA hS hP hD hl hAe
  have hl : lv_has ls 9 [(0, .ref h0), (1, .int x1), (2, .int x2), (3, .int x3)] := hl
  have hown : s.vm.findClass RX0 = some m.cls := hown
  refine lv_ldc (v := (-1000000000)) hx hb hown (hts _ kw1069) dX0_closeRound_0 ?_
  refine lv_istore (lv' := [(4, .int (-1000000000)), (0, .ref h0), (1, .int x1), (2, .int x2), (3, .int x3)]) hx hb dX0_closeRound_2 hl (by decide) rfl (fun ls hl => ?_)
  refine lv_iconst (v := 1) hx hb dX0_closeRound_4 (by decide +kernel) ?_
  refine lv_istore (lv' := [(5, .int 1), (4, .int (-1000000000)), (0, .ref h0), (1, .int x1), (2, .int x2), (3, .int x3)]) hx hb dX0_closeRound_5 hl (by decide) rfl (fun ls hl => ?_)
  refine lv_iconst (v := 0) hx hb dX0_closeRound_7 (by decide +kernel) ?_
  refine lv_istore (lv' := [(6, .int 0), (5, .int 1), (4, .int (-1000000000)), (0, .ref h0), (1, .int x1), (2, .int x2), (3, .int x3)]) hx hb dX0_closeRound_8 hl (by decide) rfl (fun ls hl => ?_)
  have lp_7 : ∀ (n : Nat) (x_4 x_5 x_6 : Int32) (H : Heap) (locs : List Loc) (ls : Array Slot), 0 ≤ x_4.toInt + 1000000000 → 0 ≤ x_5.toInt → 0 ≤ -x_5.toInt + 1 → 0 ≤ x_6.toInt → 0 ≤ x4.toInt - x_6.toInt → -x_6.toInt + 4 < n → va_P D vwCl [(h0, .inr (0, [.int x4, .int x5, .ref h6, .ref h7, .int x8, .int x9, .int x10, .ref h11, .ref h12, .int x13, .int x14, .int x15, .int x16, .int x17])), (h11, .inl (cI, 4, .inl f18)), (h6, .inl (cI, 28, .inl f21))] H → va_D A [(h0, .inr (0, [.int x4, .int x5, .ref h6, .ref h7, .int x8, .int x9, .int x10, .ref h11, .ref h12, .int x13, .int x14, .int x15, .int x16, .int x17])), (h11, .inl (cI, 4, .inl f18)), (h6, .inl (cI, 28, .inl f21))] → va_S A s.heap H locs → lv_has ls 9 [(6, .int x_6), (5, .int x_5), (4, .int x_4), (0, .ref h0), (1, .int x1), (2, .int x2), (3, .int x3)] → W p l e (rmL 4 0 0) s m [.ref h0, .int x1, .int x2, .int x3].toArray below meth c H locs 0 0 (ZX D below [.ref h0, .int x1, .int x2, .int x3] s (rmL 4 0 0) [(h0, .inr (0, [.int x4, .int x5, .ref h6, .ref h7, .int x8, .int x9, .int x10, .ref h11, .ref h12, .int x13, .int x14, .int x15, .int x16, .int x17])), (h11, .inl (cI, 4, .inl f18)), (h6, .inl (cI, 28, .inl f21))] (fun r w1 => ∃ z1 : Int32, 0 ≤ z1.toInt + 1000000000 ∧ r = some (.int z1) ∧ w1 = [(h0, .inr (0, [.int x4, .int x5, .ref h6, .ref h7, .int x8, .int x9, .int x10, .ref h11, .ref h12, .int x13, .int x14, .int x15, .int x16, .int x17])), (h11, .inl (cI, 4, .inl f18)), (h6, .inl (cI, 28, .inl f21))])) (F0 m 10 ls []) := by
    intro n
    induction n with
    | zero => intro x_4 x_5 x_6 H locs ls g_8 g_9 g_10 g_11 g_12 g_13; omega
    | succ n ihlp_7 =>
      intro x_4 x_5 x_6 H locs ls g_8 g_9 g_10 g_11 g_12 g_13 hP hD hS hl
      refine lv_iload hx hb dX0_closeRound_10 (lv_at hl 0 rfl) ?_
      refine lv_aload_n hx hb dX0_closeRound_12 rfl (lv_at hl 3 rfl) ?_
      refine va_get (D := D) (ci := 0) (v := .int x4) (C := RX0) (T := TX0) (N := 14) hx hb hts inX0 hown hG.1 hP 0 rfl rfl 0 (by decide) (hts _ kw489) (fun _ h9 => h9) rfl dX0_closeRound_13 ?_
      refine lv_icmp_ge (tgt := 101) hx hb dX0_closeRound_16 (by decide) (fun c_14 => ?_) (fun c_14 => ?_)
      · have fc_14 : x4.toInt ≤ x_6.toInt := i_le rfl rfl c_14
        refine lv_iload hx hb dX0_closeRound_101 (lv_at hl 1 rfl) ?_
        refine lv_if_ne (tgt := 109) hx hb dX0_closeRound_103 (by decide) (fun c_15 => ?_) (fun c_15 => ?_)
        · have fc_15 : x_5.toInt ≠ (0 : Int) := i_ne rfl (by decide) c_15
          refine lv_aload_n hx hb dX0_closeRound_109 rfl (lv_at hl 3 rfl) ?_
          refine lv_iload_n hx hb dX0_closeRound_110 rfl (lv_at hl 4 rfl) ?_
          refine lv_iload_n hx hb dX0_closeRound_111 rfl (lv_at hl 5 rfl) ?_
          refine xc_core (wr := []) (k := 0) (n := 0) (xc_runV (As := [.int x1, .int x2]) (rest := []) hx hb hml hown hts hG hE hP hD hS hA [0, 1, 2] (by decide) rfl (sX0_gainByGift_1 l D cB cI cJ cZ aK aV h0 x1 x2 x4 x5 h6 h7 x8 x9 x10 h11 h12 x13 x14 x15 x16 x17 f18 x19 x20 f21 (by omega) (by omega) (by omega) (by omega) (by omega) (by omega) (by omega) (by omega) (by omega) (by omega) (by omega) (by omega) (by omega) (by omega) (by omega) (by omega) (ga0.mono (by omega) (by omega) (by omega)) go0 go1) kw1085 kw1082 kw1084 kw33 kw124 (show XD yX0_gainByGift 2 from by decide +kernel) (by decide) rfl rfl 0 rfl hl.1 rfl (Nat.le_of_ble_eq_true rfl) dX0_closeRound_112 (by decide)) hP hD hS hA [0, 1, 2] [] rfl rfl (by decide) (by decide) (Nat.le_of_ble_eq_true rfl) (Nat.le_of_ble_eq_true rfl) (fun r w1 H locs hpost hP hD hS => ?_)
          obtain ⟨v_16, rfl, rfl⟩ := hpost
          have hP : va_P D vwCl [(h0, .inr (0, [.int x4, .int x5, .ref h6, .ref h7, .int x8, .int x9, .int x10, .ref h11, .ref h12, .int x13, .int x14, .int x15, .int x16, .int x17])), (h11, .inl (cI, 4, .inl f18)), (h6, .inl (cI, 28, .inl f21))] H := hP
          have hD : va_D A [(h0, .inr (0, [.int x4, .int x5, .ref h6, .ref h7, .int x8, .int x9, .int x10, .ref h11, .ref h12, .int x13, .int x14, .int x15, .int x16, .int x17])), (h11, .inl (cI, 4, .inl f18)), (h6, .inl (cI, 28, .inl f21))] := hD
          refine lv_istore (lv' := [(6, .int v_16), (5, .int x_5), (4, .int x_4), (0, .ref h0), (1, .int x1), (2, .int x2), (3, .int x3)]) hx hb dX0_closeRound_115 hl (by decide) rfl (fun ls hl => ?_)
          refine lv_iload hx hb dX0_closeRound_117 (lv_at hl 0 rfl) ?_
          refine lv_if_ge (tgt := 127) hx hb dX0_closeRound_119 (by decide) (fun c_17 => ?_) (fun c_17 => ?_)
          · have fc_17 : (0 : Int) ≤ v_16.toInt := i_le (by decide) rfl c_17
            refine lv_iload hx hb dX0_closeRound_127 (lv_at hl 0 rfl) ?_
            have hP9 := hP.sub (ws' := [(h0, .inr (0, [.int x4, .int x5, .ref h6, .ref h7, .int x8, .int x9, .int x10, .ref h11, .ref h12, .int x13, .int x14, .int x15, .int x16, .int x17])), (h11, .inl (cI, 4, .inl f18)), (h6, .inl (cI, 28, .inl f21))]) [0, 1, 2] rfl
            have hD9 := hD.sub (ws' := [(h0, .inr (0, [.int x4, .int x5, .ref h6, .ref h7, .int x8, .int x9, .int x10, .ref h11, .ref h12, .int x13, .int x14, .int x15, .int x16, .int x17])), (h11, .inl (cI, 4, .inl f18)), (h6, .inl (cI, 28, .inl f21))]) [0, 1, 2] (by decide) rfl
            exact xr_i (rm := (rmL 4 0 0)) hx hb hr hlocks hAe hS hP9 hD9 rfl (Nat.le_of_ble_eq_true rfl) (Nat.le_of_ble_eq_true rfl) dX0_closeRound_129 ⟨v_16, by omega, rfl, rfl⟩
          · have fc_17 : v_16.toInt < (0 : Int) := i_nle (by decide) rfl c_17
            refine lv_ldc (v := (-1000000000)) hx hb hown (hts _ kw1069) dX0_closeRound_122 ?_
            refine lv_goto (tgt := 129) hx hb dX0_closeRound_124 (by decide) ?_
            have hP9 := hP.sub (ws' := [(h0, .inr (0, [.int x4, .int x5, .ref h6, .ref h7, .int x8, .int x9, .int x10, .ref h11, .ref h12, .int x13, .int x14, .int x15, .int x16, .int x17])), (h11, .inl (cI, 4, .inl f18)), (h6, .inl (cI, 28, .inl f21))]) [0, 1, 2] rfl
            have hD9 := hD.sub (ws' := [(h0, .inr (0, [.int x4, .int x5, .ref h6, .ref h7, .int x8, .int x9, .int x10, .ref h11, .ref h12, .int x13, .int x14, .int x15, .int x16, .int x17])), (h11, .inl (cI, 4, .inl f18)), (h6, .inl (cI, 28, .inl f21))]) [0, 1, 2] (by decide) rfl
            exact xr_i (rm := (rmL 4 0 0)) hx hb hr hlocks hAe hS hP9 hD9 rfl (Nat.le_of_ble_eq_true rfl) (Nat.le_of_ble_eq_true rfl) dX0_closeRound_129 ⟨(-1000000000), by have zcm1000000000 : ((-1000000000) : Int32).toInt = (-1000000000) := (by decide); omega, rfl, rfl⟩
        · have fc_15 : x_5.toInt = (0 : Int) := i_eq rfl (by decide) c_15
          refine lv_iload hx hb dX0_closeRound_106 (lv_at hl 2 rfl) ?_
          have hP9 := hP.sub (ws' := [(h0, .inr (0, [.int x4, .int x5, .ref h6, .ref h7, .int x8, .int x9, .int x10, .ref h11, .ref h12, .int x13, .int x14, .int x15, .int x16, .int x17])), (h11, .inl (cI, 4, .inl f18)), (h6, .inl (cI, 28, .inl f21))]) [0, 1, 2] rfl
          have hD9 := hD.sub (ws' := [(h0, .inr (0, [.int x4, .int x5, .ref h6, .ref h7, .int x8, .int x9, .int x10, .ref h11, .ref h12, .int x13, .int x14, .int x15, .int x16, .int x17])), (h11, .inl (cI, 4, .inl f18)), (h6, .inl (cI, 28, .inl f21))]) [0, 1, 2] (by decide) rfl
          exact xr_i (rm := (rmL 4 0 0)) hx hb hr hlocks hAe hS hP9 hD9 rfl (Nat.le_of_ble_eq_true rfl) (Nat.le_of_ble_eq_true rfl) dX0_closeRound_108 ⟨x_4, by omega, rfl, rfl⟩
      · have fc_14 : x_6.toInt < x4.toInt := i_nle rfl rfl c_14
        refine lv_aload_n hx hb dX0_closeRound_19 rfl (lv_at hl 3 rfl) ?_
        refine va_get (D := D) (ci := 0) (v := .ref h11) (C := RX0) (T := TX0) (N := 14) hx hb hts inX0 hown hG.1 hP 0 rfl rfl 7 (by decide) (hts _ kw500) (fun _ h9 => h9) rfl dX0_closeRound_20 ?_
        refine lv_iload hx hb dX0_closeRound_23 (lv_at hl 0 rfl) ?_
        refine xa_ildE hx hb hG hP 1 rfl (vp_in_iff.mpr ⟨by omega, by omega⟩) dX0_closeRound_25 (fun v_18 ev_18 => ?_)
        have g_19 := rd_ar ga0 ev_18 (by omega) (by omega)
        have o_20 : PT f18 (x_6.toInt) (v_18.toInt) := mk_pt ev_18
        refine lv_iconst (v := (-1)) hx hb dX0_closeRound_26 (by decide +kernel) ?_
        refine lv_icmp_eq (tgt := 95) hx hb dX0_closeRound_27 (by decide) (fun c_21 => ?_) (fun c_21 => ?_)
        · have fc_21 : v_18.toInt = ((-1) : Int) := i_eq rfl (by decide) c_21
          obtain ⟨v_22, ev_22⟩ : ∃ y : Int32, y = x_6 + 1 := ⟨_, rfl⟩
          have gv_22 : v_22.toInt = x_6.toInt + 1 := by
            have zy : (1 : Int32).toInt = 1 := by decide
            rw [ev_22, i32_add (by rw [zy]; omega) (by rw [zy]; omega), zy]
          refine lv_iinc (v := v_22) (lv' := [(6, .int v_22), (5, .int x_5), (4, .int x_4), (0, .ref h0), (1, .int x1), (2, .int x2), (3, .int x3)]) hx hb dX0_closeRound_95 hl (k := 0) rfl (by rw [ev_22]; rfl) (by decide) rfl (fun ls hl => ?_)
          refine lv_goto (tgt := 10) hx hb dX0_closeRound_98 (by decide) ?_
          exact ihlp_7  x_4 x_5 v_22 _ _ _ (by omega) (by omega) (by omega) (by omega) (by omega) (by omega) (hP.sub (ws' := [(h0, .inr (0, [.int x4, .int x5, .ref h6, .ref h7, .int x8, .int x9, .int x10, .ref h11, .ref h12, .int x13, .int x14, .int x15, .int x16, .int x17])), (h11, .inl (cI, 4, .inl f18)), (h6, .inl (cI, 28, .inl f21))]) [0, 1, 2] rfl) (hD.sub (ws' := [(h0, .inr (0, [.int x4, .int x5, .ref h6, .ref h7, .int x8, .int x9, .int x10, .ref h11, .ref h12, .int x13, .int x14, .int x15, .int x16, .int x17])), (h11, .inl (cI, 4, .inl f18)), (h6, .inl (cI, 28, .inl f21))]) [0, 1, 2] (by decide) rfl) hS (lv_sub hl [0, 1, 2, 3, 4, 5, 6] rfl)
        · have fc_21 : v_18.toInt ≠ ((-1) : Int) := i_ne rfl (by decide) c_21
          refine lv_iload_n hx hb dX0_closeRound_30 rfl (lv_at hl 6 rfl) ?_
          refine lv_iload hx hb dX0_closeRound_31 (lv_at hl 0 rfl) ?_
          refine lv_ishr hx hb dX0_closeRound_33 ?_
          refine lv_topi (fun v_23 ev_23 => ?_)
          refine lv_iconst (v := 1) hx hb dX0_closeRound_34 (by decide +kernel) ?_
          refine lv_iand hx hb dX0_closeRound_35 ?_
          refine lv_topi (fun v_24 ev_24 => ?_)
          have gv_24 : 0 ≤ v_24.toInt ∧ v_24.toInt < 2 := by rw [ev_24]; exact i32_and (m := 1) 1 (by decide) (by decide)
          refine lv_if_ne (tgt := 95) hx hb dX0_closeRound_36 (by decide) (fun c_25 => ?_) (fun c_25 => ?_)
          · have fc_25 : v_24.toInt ≠ (0 : Int) := i_ne rfl (by decide) c_25
            obtain ⟨v_26, ev_26⟩ : ∃ y : Int32, y = x_6 + 1 := ⟨_, rfl⟩
            have gv_26 : v_26.toInt = x_6.toInt + 1 := by
              have zy : (1 : Int32).toInt = 1 := by decide
              rw [ev_26, i32_add (by rw [zy]; omega) (by rw [zy]; omega), zy]
            refine lv_iinc (v := v_26) (lv' := [(6, .int v_26), (5, .int x_5), (4, .int x_4), (0, .ref h0), (1, .int x1), (2, .int x2), (3, .int x3)]) hx hb dX0_closeRound_95 hl (k := 0) rfl (by rw [ev_26]; rfl) (by decide) rfl (fun ls hl => ?_)
            refine lv_goto (tgt := 10) hx hb dX0_closeRound_98 (by decide) ?_
            exact ihlp_7  x_4 x_5 v_26 _ _ _ (by omega) (by omega) (by omega) (by omega) (by omega) (by omega) (hP.sub (ws' := [(h0, .inr (0, [.int x4, .int x5, .ref h6, .ref h7, .int x8, .int x9, .int x10, .ref h11, .ref h12, .int x13, .int x14, .int x15, .int x16, .int x17])), (h11, .inl (cI, 4, .inl f18)), (h6, .inl (cI, 28, .inl f21))]) [0, 1, 2] rfl) (hD.sub (ws' := [(h0, .inr (0, [.int x4, .int x5, .ref h6, .ref h7, .int x8, .int x9, .int x10, .ref h11, .ref h12, .int x13, .int x14, .int x15, .int x16, .int x17])), (h11, .inl (cI, 4, .inl f18)), (h6, .inl (cI, 28, .inl f21))]) [0, 1, 2] (by decide) rfl) hS (lv_sub hl [0, 1, 2, 3, 4, 5, 6] rfl)
          · have fc_25 : v_24.toInt = (0 : Int) := i_eq rfl (by decide) c_25
            refine lv_iconst (v := 0) hx hb dX0_closeRound_39 (by decide +kernel) ?_
            refine lv_istore (lv' := [(5, .int 0), (6, .int x_6), (4, .int x_4), (0, .ref h0), (1, .int x1), (2, .int x2), (3, .int x3)]) hx hb dX0_closeRound_40 hl (by decide) rfl (fun ls hl => ?_)
            refine lv_aload_n hx hb dX0_closeRound_42 rfl (lv_at hl 3 rfl) ?_
            refine lv_iload hx hb dX0_closeRound_43 (lv_at hl 1 rfl) ?_
            refine lv_iload_n hx hb dX0_closeRound_45 rfl (lv_at hl 5 rfl) ?_
            refine xc_core (wr := []) (k := 0) (n := 0) (xc_runV (As := [.int x_6, .int x2]) (rest := []) hx hb hml hown hts hG hE hP hD hS hA [0, 1, 2] (by decide) rfl (sX0_gainByGift_1 l D cB cI cJ cZ aK aV h0 x_6 x2 x4 x5 h6 h7 x8 x9 x10 h11 h12 x13 x14 x15 x16 x17 f18 v_18 x20 f21 (by omega) (by omega) (by omega) (by omega) (by omega) (by omega) (by omega) (by omega) (by omega) (by omega) (by omega) (by omega) (by omega) (by omega) (by omega) (by omega) (ga0.mono (by omega) (by omega) (by omega)) o_20 go1) kw1085 kw1082 kw1084 kw33 kw124 (show XD yX0_gainByGift 2 from by decide +kernel) (by decide) rfl rfl 0 rfl hl.1 rfl (Nat.le_of_ble_eq_true rfl) dX0_closeRound_46 (by decide)) hP hD hS hA [0, 1, 2] [] rfl rfl (by decide) (by decide) (Nat.le_of_ble_eq_true rfl) (Nat.le_of_ble_eq_true rfl) (fun r w1 H locs hpost hP hD hS => ?_)
            obtain ⟨v_27, rfl, rfl⟩ := hpost
            have hP : va_P D vwCl [(h0, .inr (0, [.int x4, .int x5, .ref h6, .ref h7, .int x8, .int x9, .int x10, .ref h11, .ref h12, .int x13, .int x14, .int x15, .int x16, .int x17])), (h11, .inl (cI, 4, .inl f18)), (h6, .inl (cI, 28, .inl f21))] H := hP
            have hD : va_D A [(h0, .inr (0, [.int x4, .int x5, .ref h6, .ref h7, .int x8, .int x9, .int x10, .ref h11, .ref h12, .int x13, .int x14, .int x15, .int x16, .int x17])), (h11, .inl (cI, 4, .inl f18)), (h6, .inl (cI, 28, .inl f21))] := hD
            refine lv_istore (lv' := [(7, .int v_27), (5, .int 0), (6, .int x_6), (4, .int x_4), (0, .ref h0), (1, .int x1), (2, .int x2), (3, .int x3)]) hx hb dX0_closeRound_49 hl (by decide) rfl (fun ls hl => ?_)
            refine lv_iload hx hb dX0_closeRound_51 (lv_at hl 0 rfl) ?_
            refine lv_if_ge (tgt := 61) hx hb dX0_closeRound_53 (by decide) (fun c_28 => ?_) (fun c_28 => ?_)
            · have fc_28 : (0 : Int) ≤ v_27.toInt := i_le (by decide) rfl c_28
              refine lv_aload_n hx hb dX0_closeRound_61 rfl (lv_at hl 4 rfl) ?_
              refine lv_iload_n hx hb dX0_closeRound_62 rfl (lv_at hl 5 rfl) ?_
              refine lv_iload hx hb dX0_closeRound_63 (lv_at hl 2 rfl) ?_
              refine lv_iload_n hx hb dX0_closeRound_65 rfl (lv_at hl 7 rfl) ?_
              refine lv_iconst (v := 1) hx hb dX0_closeRound_66 (by decide +kernel) ?_
              refine lv_iload hx hb dX0_closeRound_67 (lv_at hl 2 rfl) ?_
              refine lv_ishl hx hb dX0_closeRound_69 ?_
              refine lv_topi (fun v_29 ev_29 => ?_)
              have gv_29 : 1 ≤ v_29.toInt ∧ v_29.toInt ≤ 64 := by rw [ev_29]; exact i32_shl1 (by omega) (by omega)
              refine lv_ior hx hb dX0_closeRound_70 ?_
              refine lv_topi (fun v_30 ev_30 => ?_)
              have gv_30 : 0 ≤ v_30.toInt ∧ v_30.toInt ≤ 127 := by rw [ev_30]; exact i32_or (by omega) (by omega) (by omega) (by omega)
              have o_31 : BC (v_30.toInt) (4) := bc_or go2 ev_23 ev_24 (by omega) ev_29 ev_30 (by omega) (by omega)
              have g_32 := bc_le o_31
              refine xc_core (wr := []) (k := 0) (n := 0) (xc_runV (As := [.int x1, .int x_6, .int v_30]) (rest := []) hx hb hml hown hts hG hE hP hD hS hA [0, 1, 2] (by decide) rfl (sX0_closeRound_1 l D cB cI cJ cZ aK aV h0 x1 x_6 v_30 x4 x5 h6 h7 x8 x9 x10 h11 h12 x13 x14 x15 x16 x17 f18 x19 v_18 f21 (by omega) (by omega) (by omega) (by omega) (by omega) (by omega) (by omega) (by omega) (by omega) (by omega) (by omega) (by omega) (by omega) (by omega) (by omega) (by omega) (by omega) (by omega) (ga0.mono (by omega) (by omega) (by omega)) go0 o_20 o_31) kw1081 kw1078 kw1080 kw32 kw124 (show XD yX0_closeRound 3 from by decide +kernel) (by decide) rfl rfl 0 rfl hl.1 rfl (Nat.le_of_ble_eq_true rfl) dX0_closeRound_71 (by decide)) hP hD hS hA [0, 1, 2] [] rfl rfl (by decide) (by decide) (Nat.le_of_ble_eq_true rfl) (Nat.le_of_ble_eq_true rfl) (fun r w1 H locs hpost hP hD hS => ?_)
              obtain ⟨v_33, g_34, rfl, rfl⟩ := hpost
              have hP : va_P D vwCl [(h0, .inr (0, [.int x4, .int x5, .ref h6, .ref h7, .int x8, .int x9, .int x10, .ref h11, .ref h12, .int x13, .int x14, .int x15, .int x16, .int x17])), (h11, .inl (cI, 4, .inl f18)), (h6, .inl (cI, 28, .inl f21))] H := hP
              have hD : va_D A [(h0, .inr (0, [.int x4, .int x5, .ref h6, .ref h7, .int x8, .int x9, .int x10, .ref h11, .ref h12, .int x13, .int x14, .int x15, .int x16, .int x17])), (h11, .inl (cI, 4, .inl f18)), (h6, .inl (cI, 28, .inl f21))] := hD
              refine lv_istore (lv' := [(8, .int v_33), (7, .int v_27), (5, .int 0), (6, .int x_6), (4, .int x_4), (0, .ref h0), (1, .int x1), (2, .int x2), (3, .int x3)]) hx hb dX0_closeRound_74 hl (by decide) rfl (fun ls hl => ?_)
              refine lv_iload hx hb dX0_closeRound_76 (lv_at hl 0 rfl) ?_
              refine lv_ldc (v := (-1000000000)) hx hb hown (hts _ kw1069) dX0_closeRound_78 ?_
              refine lv_icmp_eq (tgt := 95) hx hb dX0_closeRound_80 (by decide) (fun c_35 => ?_) (fun c_35 => ?_)
              · have fc_35 : v_33.toInt = ((-1000000000) : Int) := i_eq rfl (by decide) c_35
                obtain ⟨v_36, ev_36⟩ : ∃ y : Int32, y = x_6 + 1 := ⟨_, rfl⟩
                have gv_36 : v_36.toInt = x_6.toInt + 1 := by
                  have zy : (1 : Int32).toInt = 1 := by decide
                  rw [ev_36, i32_add (by rw [zy]; omega) (by rw [zy]; omega), zy]
                refine lv_iinc (v := v_36) (lv' := [(6, .int v_36), (8, .int v_33), (7, .int v_27), (5, .int 0), (4, .int x_4), (0, .ref h0), (1, .int x1), (2, .int x2), (3, .int x3)]) hx hb dX0_closeRound_95 hl (k := 3) rfl (by rw [ev_36]; rfl) (by decide) rfl (fun ls hl => ?_)
                refine lv_goto (tgt := 10) hx hb dX0_closeRound_98 (by decide) ?_
                exact ihlp_7  x_4 0 v_36 _ _ _ (by have zc0 : (0 : Int32).toInt = 0 := (by decide); omega) (by have zc0 : (0 : Int32).toInt = 0 := (by decide); omega) (by have zc0 : (0 : Int32).toInt = 0 := (by decide); omega) (by have zc0 : (0 : Int32).toInt = 0 := (by decide); omega) (by have zc0 : (0 : Int32).toInt = 0 := (by decide); omega) (by have zc0 : (0 : Int32).toInt = 0 := (by decide); omega) (hP.sub (ws' := [(h0, .inr (0, [.int x4, .int x5, .ref h6, .ref h7, .int x8, .int x9, .int x10, .ref h11, .ref h12, .int x13, .int x14, .int x15, .int x16, .int x17])), (h11, .inl (cI, 4, .inl f18)), (h6, .inl (cI, 28, .inl f21))]) [0, 1, 2] rfl) (hD.sub (ws' := [(h0, .inr (0, [.int x4, .int x5, .ref h6, .ref h7, .int x8, .int x9, .int x10, .ref h11, .ref h12, .int x13, .int x14, .int x15, .int x16, .int x17])), (h11, .inl (cI, 4, .inl f18)), (h6, .inl (cI, 28, .inl f21))]) [0, 1, 2] (by decide) rfl) hS (lv_sub hl [0, 3, 4, 5, 6, 7, 8] rfl)
              · have fc_35 : v_33.toInt ≠ ((-1000000000) : Int) := i_ne rfl (by decide) c_35
                refine lv_iload hx hb dX0_closeRound_83 (lv_at hl 4 rfl) ?_
                refine lv_iload hx hb dX0_closeRound_85 (lv_at hl 1 rfl) ?_
                refine lv_iload hx hb dX0_closeRound_87 (lv_at hl 0 rfl) ?_
                refine lv_iadd hx hb dX0_closeRound_89 ?_
                refine xt_any (fun v_37 => ?_)
                refine va_mmax hx hb (hml.trans hl.1.symm) hown (hts _ kw1086) (hts _ kw683) (hts _ kw128) (hts _ kw684) (Nat.le_of_ble_eq_true rfl) (Nat.le_of_ble_eq_true rfl) (Nat.le_of_ble_eq_true rfl) (Nat.le_of_ble_eq_true rfl) dX0_closeRound_90 ?_
                refine lv_topi (fun v_38 ev_38 => ?_)
                have g_39 := i32_max rfl rfl ev_38
                refine lv_istore (lv' := [(4, .int v_38), (8, .int v_33), (7, .int v_27), (5, .int 0), (6, .int x_6), (0, .ref h0), (1, .int x1), (2, .int x2), (3, .int x3)]) hx hb dX0_closeRound_93 hl (by decide) rfl (fun ls hl => ?_)
                obtain ⟨v_40, ev_40⟩ : ∃ y : Int32, y = x_6 + 1 := ⟨_, rfl⟩
                have gv_40 : v_40.toInt = x_6.toInt + 1 := by
                  have zy : (1 : Int32).toInt = 1 := by decide
                  rw [ev_40, i32_add (by rw [zy]; omega) (by rw [zy]; omega), zy]
                refine lv_iinc (v := v_40) (lv' := [(6, .int v_40), (4, .int v_38), (8, .int v_33), (7, .int v_27), (5, .int 0), (0, .ref h0), (1, .int x1), (2, .int x2), (3, .int x3)]) hx hb dX0_closeRound_95 hl (k := 4) rfl (by rw [ev_40]; rfl) (by decide) rfl (fun ls hl => ?_)
                refine lv_goto (tgt := 10) hx hb dX0_closeRound_98 (by decide) ?_
                exact ihlp_7  v_38 0 v_40 _ _ _ (by have zc0 : (0 : Int32).toInt = 0 := (by decide); omega) (by have zc0 : (0 : Int32).toInt = 0 := (by decide); omega) (by have zc0 : (0 : Int32).toInt = 0 := (by decide); omega) (by have zc0 : (0 : Int32).toInt = 0 := (by decide); omega) (by have zc0 : (0 : Int32).toInt = 0 := (by decide); omega) (by have zc0 : (0 : Int32).toInt = 0 := (by decide); omega) (hP.sub (ws' := [(h0, .inr (0, [.int x4, .int x5, .ref h6, .ref h7, .int x8, .int x9, .int x10, .ref h11, .ref h12, .int x13, .int x14, .int x15, .int x16, .int x17])), (h11, .inl (cI, 4, .inl f18)), (h6, .inl (cI, 28, .inl f21))]) [0, 1, 2] rfl) (hD.sub (ws' := [(h0, .inr (0, [.int x4, .int x5, .ref h6, .ref h7, .int x8, .int x9, .int x10, .ref h11, .ref h12, .int x13, .int x14, .int x15, .int x16, .int x17])), (h11, .inl (cI, 4, .inl f18)), (h6, .inl (cI, 28, .inl f21))]) [0, 1, 2] (by decide) rfl) hS (lv_sub hl [0, 4, 1, 5, 6, 7, 8] rfl)
            · have fc_28 : v_27.toInt < (0 : Int) := i_nle (by decide) rfl c_28
              refine lv_ldc (v := (-1000000000)) hx hb hown (hts _ kw1069) dX0_closeRound_56 ?_
              refine lv_goto (tgt := 74) hx hb dX0_closeRound_58 (by decide) ?_
              refine lv_istore (lv' := [(8, .int (-1000000000)), (7, .int v_27), (5, .int 0), (6, .int x_6), (4, .int x_4), (0, .ref h0), (1, .int x1), (2, .int x2), (3, .int x3)]) hx hb dX0_closeRound_74 hl (by decide) rfl (fun ls hl => ?_)
              refine lv_iload hx hb dX0_closeRound_76 (lv_at hl 0 rfl) ?_
              refine lv_ldc (v := (-1000000000)) hx hb hown (hts _ kw1069) dX0_closeRound_78 ?_
              refine lv_icmp_eq (tgt := 95) hx hb dX0_closeRound_80 (by decide) (fun _ => ?_) (fun h => absurd h (by decide +kernel))
              obtain ⟨v_41, ev_41⟩ : ∃ y : Int32, y = x_6 + 1 := ⟨_, rfl⟩
              have gv_41 : v_41.toInt = x_6.toInt + 1 := by
                have zy : (1 : Int32).toInt = 1 := by decide
                rw [ev_41, i32_add (by rw [zy]; omega) (by rw [zy]; omega), zy]
              refine lv_iinc (v := v_41) (lv' := [(6, .int v_41), (8, .int (-1000000000)), (7, .int v_27), (5, .int 0), (4, .int x_4), (0, .ref h0), (1, .int x1), (2, .int x2), (3, .int x3)]) hx hb dX0_closeRound_95 hl (k := 3) rfl (by rw [ev_41]; rfl) (by decide) rfl (fun ls hl => ?_)
              refine lv_goto (tgt := 10) hx hb dX0_closeRound_98 (by decide) ?_
              exact ihlp_7  x_4 0 v_41 _ _ _ (by have zc0 : (0 : Int32).toInt = 0 := (by decide); omega) (by have zc0 : (0 : Int32).toInt = 0 := (by decide); omega) (by have zc0 : (0 : Int32).toInt = 0 := (by decide); omega) (by have zc0 : (0 : Int32).toInt = 0 := (by decide); omega) (by have zc0 : (0 : Int32).toInt = 0 := (by decide); omega) (by have zc0 : (0 : Int32).toInt = 0 := (by decide); omega) (hP.sub (ws' := [(h0, .inr (0, [.int x4, .int x5, .ref h6, .ref h7, .int x8, .int x9, .int x10, .ref h11, .ref h12, .int x13, .int x14, .int x15, .int x16, .int x17])), (h11, .inl (cI, 4, .inl f18)), (h6, .inl (cI, 28, .inl f21))]) [0, 1, 2] rfl) (hD.sub (ws' := [(h0, .inr (0, [.int x4, .int x5, .ref h6, .ref h7, .int x8, .int x9, .int x10, .ref h11, .ref h12, .int x13, .int x14, .int x15, .int x16, .int x17])), (h11, .inl (cI, 4, .inl f18)), (h6, .inl (cI, 28, .inl f21))]) [0, 1, 2] (by decide) rfl) hS (lv_sub hl [0, 3, 4, 5, 6, 7, 8] rfl)
  exact lp_7 6 (-1000000000) 1 0 _ _ _ (by have zcm1000000000 : ((-1000000000) : Int32).toInt = (-1000000000) := (by decide); have zc0 : (0 : Int32).toInt = 0 := (by decide); have zc1 : (1 : Int32).toInt = 1 := (by decide); omega) (by have zcm1000000000 : ((-1000000000) : Int32).toInt = (-1000000000) := (by decide); have zc0 : (0 : Int32).toInt = 0 := (by decide); have zc1 : (1 : Int32).toInt = 1 := (by decide); omega) (by have zcm1000000000 : ((-1000000000) : Int32).toInt = (-1000000000) := (by decide); have zc0 : (0 : Int32).toInt = 0 := (by decide); have zc1 : (1 : Int32).toInt = 1 := (by decide); omega) (by have zcm1000000000 : ((-1000000000) : Int32).toInt = (-1000000000) := (by decide); have zc0 : (0 : Int32).toInt = 0 := (by decide); have zc1 : (1 : Int32).toInt = 1 := (by decide); omega) (by have zcm1000000000 : ((-1000000000) : Int32).toInt = (-1000000000) := (by decide); have zc0 : (0 : Int32).toInt = 0 := (by decide); have zc1 : (1 : Int32).toInt = 1 := (by decide); omega) (by have zcm1000000000 : ((-1000000000) : Int32).toInt = (-1000000000) := (by decide); have zc0 : (0 : Int32).toInt = 0 := (by decide); have zc1 : (1 : Int32).toInt = 1 := (by decide); omega) (hP.sub (ws' := [(h0, .inr (0, [.int x4, .int x5, .ref h6, .ref h7, .int x8, .int x9, .int x10, .ref h11, .ref h12, .int x13, .int x14, .int x15, .int x16, .int x17])), (h11, .inl (cI, 4, .inl f18)), (h6, .inl (cI, 28, .inl f21))]) [0, 1, 2] rfl) (hD.sub (ws' := [(h0, .inr (0, [.int x4, .int x5, .ref h6, .ref h7, .int x8, .int x9, .int x10, .ref h11, .ref h12, .int x13, .int x14, .int x15, .int x16, .int x17])), (h11, .inl (cI, 4, .inl f18)), (h6, .inl (cI, 28, .inl f21))]) [0, 1, 2] (by decide) rfl) hS (lv_sub hl [0, 1, 2, 3, 4, 5, 6] rfl)
set_option maxHeartbeats 4000000 in
set_option maxRecDepth 100000 in
theorem sX0_closeRound_3 (l : Launch) (D : va_G) (cB cI cJ cZ : ClassId) (aK aV : Nat → Nat) (h0 : Nat) (x1 : Int32) (x2 : Int32) (x3 : Int32) (x4 : Int32) (x5 : Int32) (h6 : Nat) (h7 : Nat) (x8 : Int32) (x9 : Int32) (x10 : Int32) (h11 : Nat) (h12 : Nat) (x13 : Int32) (x14 : Int32) (x15 : Int32) (x16 : Int32) (x17 : Int32) (f18 : Nat → Int32) (x19 : Int32) (x20 : Int32) (f21 : Nat → Int32) (gh0 : 0 ≤ x1.toInt) (gh1 : 0 ≤ -x1.toInt + 3) (gh2 : 0 ≤ x2.toInt) (gh3 : 0 ≤ -x2.toInt + 3) (gh4 : 0 ≤ x3.toInt) (gh5 : 0 ≤ -x3.toInt + 15) (gh6 : 0 ≤ x4.toInt) (gh7 : 0 ≤ -x4.toInt + 4) (gh8 : 0 ≤ x5.toInt) (gh9 : 0 ≤ -x5.toInt + 7) (gh10 : 0 ≤ x9.toInt) (gh11 : 0 ≤ -x9.toInt + 6) (gh12 : 0 ≤ x10.toInt) (gh13 : 0 ≤ -x10.toInt + 6) (gh14 : 0 ≤ x19.toInt) (gh15 : 0 ≤ -x19.toInt + 6) (gh16 : 0 ≤ x20.toInt) (gh17 : 0 ≤ -x20.toInt + 6) (ga0 : AR f18 (-1) (6) (4)) (go0 : PT f18 (x1.toInt) (x19.toInt)) (go1 : PT f18 (x2.toInt) (x20.toInt)) (go2 : BC (x3.toInt) (2)) : MX l yX0_closeRound cX0_closeRound 9 (some .int) (rmL 5 0 0) D cB cI cJ cZ aK aV [.ref h0, .int x1, .int x2, .int x3] [(h0, .inr (0, [.int x4, .int x5, .ref h6, .ref h7, .int x8, .int x9, .int x10, .ref h11, .ref h12, .int x13, .int x14, .int x15, .int x16, .int x17])), (h11, .inl (cI, 4, .inl f18)), (h6, .inl (cI, 28, .inl f21))] (fun r w1 => ∃ z1 : Int32, 0 ≤ z1.toInt + 1000000000 ∧ r = some (.int z1) ∧ w1 = [(h0, .inr (0, [.int x4, .int x5, .ref h6, .ref h7, .int x8, .int x9, .int x10, .ref h11, .ref h12, .int x13, .int x14, .int x15, .int x16, .int x17])), (h11, .inl (cI, 4, .inl f18)), (h6, .inl (cI, 28, .inl f21))]) := by
  refine MX.intro (by decide) (Nat.le_of_ble_eq_true rfl) ?_
  intro p e s m below meth c A ls hx hb hr hml hown hlocks hnm hts hG hE hA hS hP hD hl hAe
  have hl : lv_has ls 9 [(0, .ref h0), (1, .int x1), (2, .int x2), (3, .int x3)] := hl
  have hown : s.vm.findClass RX0 = some m.cls := hown
  refine lv_ldc (v := (-1000000000)) hx hb hown (hts _ kw1069) dX0_closeRound_0 ?_
  refine lv_istore (lv' := [(4, .int (-1000000000)), (0, .ref h0), (1, .int x1), (2, .int x2), (3, .int x3)]) hx hb dX0_closeRound_2 hl (by decide) rfl (fun ls hl => ?_)
  refine lv_iconst (v := 1) hx hb dX0_closeRound_4 (by decide +kernel) ?_
  refine lv_istore (lv' := [(5, .int 1), (4, .int (-1000000000)), (0, .ref h0), (1, .int x1), (2, .int x2), (3, .int x3)]) hx hb dX0_closeRound_5 hl (by decide) rfl (fun ls hl => ?_)
  refine lv_iconst (v := 0) hx hb dX0_closeRound_7 (by decide +kernel) ?_
  refine lv_istore (lv' := [(6, .int 0), (5, .int 1), (4, .int (-1000000000)), (0, .ref h0), (1, .int x1), (2, .int x2), (3, .int x3)]) hx hb dX0_closeRound_8 hl (by decide) rfl (fun ls hl => ?_)
  have lp_7 : ∀ (n : Nat) (x_4 x_5 x_6 : Int32) (H : Heap) (locs : List Loc) (ls : Array Slot), 0 ≤ x_4.toInt + 1000000000 → 0 ≤ x_5.toInt → 0 ≤ -x_5.toInt + 1 → 0 ≤ x_6.toInt → 0 ≤ x4.toInt - x_6.toInt → -x_6.toInt + 4 < n → va_P D vwCl [(h0, .inr (0, [.int x4, .int x5, .ref h6, .ref h7, .int x8, .int x9, .int x10, .ref h11, .ref h12, .int x13, .int x14, .int x15, .int x16, .int x17])), (h11, .inl (cI, 4, .inl f18)), (h6, .inl (cI, 28, .inl f21))] H → va_D A [(h0, .inr (0, [.int x4, .int x5, .ref h6, .ref h7, .int x8, .int x9, .int x10, .ref h11, .ref h12, .int x13, .int x14, .int x15, .int x16, .int x17])), (h11, .inl (cI, 4, .inl f18)), (h6, .inl (cI, 28, .inl f21))] → va_S A s.heap H locs → lv_has ls 9 [(6, .int x_6), (5, .int x_5), (4, .int x_4), (0, .ref h0), (1, .int x1), (2, .int x2), (3, .int x3)] → W p l e (rmL 5 0 0) s m [.ref h0, .int x1, .int x2, .int x3].toArray below meth c H locs 0 0 (ZX D below [.ref h0, .int x1, .int x2, .int x3] s (rmL 5 0 0) [(h0, .inr (0, [.int x4, .int x5, .ref h6, .ref h7, .int x8, .int x9, .int x10, .ref h11, .ref h12, .int x13, .int x14, .int x15, .int x16, .int x17])), (h11, .inl (cI, 4, .inl f18)), (h6, .inl (cI, 28, .inl f21))] (fun r w1 => ∃ z1 : Int32, 0 ≤ z1.toInt + 1000000000 ∧ r = some (.int z1) ∧ w1 = [(h0, .inr (0, [.int x4, .int x5, .ref h6, .ref h7, .int x8, .int x9, .int x10, .ref h11, .ref h12, .int x13, .int x14, .int x15, .int x16, .int x17])), (h11, .inl (cI, 4, .inl f18)), (h6, .inl (cI, 28, .inl f21))])) (F0 m 10 ls []) := by
    intro n
    induction n with
    | zero => intro x_4 x_5 x_6 H locs ls g_8 g_9 g_10 g_11 g_12 g_13; omega
    | succ n ihlp_7 =>
      intro x_4 x_5 x_6 H locs ls g_8 g_9 g_10 g_11 g_12 g_13 hP hD hS hl
      refine lv_iload hx hb dX0_closeRound_10 (lv_at hl 0 rfl) ?_
      refine lv_aload_n hx hb dX0_closeRound_12 rfl (lv_at hl 3 rfl) ?_
      refine va_get (D := D) (ci := 0) (v := .int x4) (C := RX0) (T := TX0) (N := 14) hx hb hts inX0 hown hG.1 hP 0 rfl rfl 0 (by decide) (hts _ kw489) (fun _ h9 => h9) rfl dX0_closeRound_13 ?_
      refine lv_icmp_ge (tgt := 101) hx hb dX0_closeRound_16 (by decide) (fun c_14 => ?_) (fun c_14 => ?_)
      · have fc_14 : x4.toInt ≤ x_6.toInt := i_le rfl rfl c_14
        refine lv_iload hx hb dX0_closeRound_101 (lv_at hl 1 rfl) ?_
        refine lv_if_ne (tgt := 109) hx hb dX0_closeRound_103 (by decide) (fun c_15 => ?_) (fun c_15 => ?_)
        · have fc_15 : x_5.toInt ≠ (0 : Int) := i_ne rfl (by decide) c_15
          refine lv_aload_n hx hb dX0_closeRound_109 rfl (lv_at hl 3 rfl) ?_
          refine lv_iload_n hx hb dX0_closeRound_110 rfl (lv_at hl 4 rfl) ?_
          refine lv_iload_n hx hb dX0_closeRound_111 rfl (lv_at hl 5 rfl) ?_
          refine xc_core (wr := []) (k := 0) (n := 0) (xc_runV (As := [.int x1, .int x2]) (rest := []) hx hb hml hown hts hG hE hP hD hS hA [0, 1, 2] (by decide) rfl (sX0_gainByGift_1 l D cB cI cJ cZ aK aV h0 x1 x2 x4 x5 h6 h7 x8 x9 x10 h11 h12 x13 x14 x15 x16 x17 f18 x19 x20 f21 (by omega) (by omega) (by omega) (by omega) (by omega) (by omega) (by omega) (by omega) (by omega) (by omega) (by omega) (by omega) (by omega) (by omega) (by omega) (by omega) (ga0.mono (by omega) (by omega) (by omega)) go0 go1) kw1085 kw1082 kw1084 kw33 kw124 (show XD yX0_gainByGift 2 from by decide +kernel) (by decide) rfl rfl 0 rfl hl.1 rfl (Nat.le_of_ble_eq_true rfl) dX0_closeRound_112 (by decide)) hP hD hS hA [0, 1, 2] [] rfl rfl (by decide) (by decide) (Nat.le_of_ble_eq_true rfl) (Nat.le_of_ble_eq_true rfl) (fun r w1 H locs hpost hP hD hS => ?_)
          obtain ⟨v_16, rfl, rfl⟩ := hpost
          have hP : va_P D vwCl [(h0, .inr (0, [.int x4, .int x5, .ref h6, .ref h7, .int x8, .int x9, .int x10, .ref h11, .ref h12, .int x13, .int x14, .int x15, .int x16, .int x17])), (h11, .inl (cI, 4, .inl f18)), (h6, .inl (cI, 28, .inl f21))] H := hP
          have hD : va_D A [(h0, .inr (0, [.int x4, .int x5, .ref h6, .ref h7, .int x8, .int x9, .int x10, .ref h11, .ref h12, .int x13, .int x14, .int x15, .int x16, .int x17])), (h11, .inl (cI, 4, .inl f18)), (h6, .inl (cI, 28, .inl f21))] := hD
          refine lv_istore (lv' := [(6, .int v_16), (5, .int x_5), (4, .int x_4), (0, .ref h0), (1, .int x1), (2, .int x2), (3, .int x3)]) hx hb dX0_closeRound_115 hl (by decide) rfl (fun ls hl => ?_)
          refine lv_iload hx hb dX0_closeRound_117 (lv_at hl 0 rfl) ?_
          refine lv_if_ge (tgt := 127) hx hb dX0_closeRound_119 (by decide) (fun c_17 => ?_) (fun c_17 => ?_)
          · have fc_17 : (0 : Int) ≤ v_16.toInt := i_le (by decide) rfl c_17
            refine lv_iload hx hb dX0_closeRound_127 (lv_at hl 0 rfl) ?_
            have hP9 := hP.sub (ws' := [(h0, .inr (0, [.int x4, .int x5, .ref h6, .ref h7, .int x8, .int x9, .int x10, .ref h11, .ref h12, .int x13, .int x14, .int x15, .int x16, .int x17])), (h11, .inl (cI, 4, .inl f18)), (h6, .inl (cI, 28, .inl f21))]) [0, 1, 2] rfl
            have hD9 := hD.sub (ws' := [(h0, .inr (0, [.int x4, .int x5, .ref h6, .ref h7, .int x8, .int x9, .int x10, .ref h11, .ref h12, .int x13, .int x14, .int x15, .int x16, .int x17])), (h11, .inl (cI, 4, .inl f18)), (h6, .inl (cI, 28, .inl f21))]) [0, 1, 2] (by decide) rfl
            exact xr_i (rm := (rmL 5 0 0)) hx hb hr hlocks hAe hS hP9 hD9 rfl (Nat.le_of_ble_eq_true rfl) (Nat.le_of_ble_eq_true rfl) dX0_closeRound_129 ⟨v_16, by omega, rfl, rfl⟩
          · have fc_17 : v_16.toInt < (0 : Int) := i_nle (by decide) rfl c_17
            refine lv_ldc (v := (-1000000000)) hx hb hown (hts _ kw1069) dX0_closeRound_122 ?_
            refine lv_goto (tgt := 129) hx hb dX0_closeRound_124 (by decide) ?_
            have hP9 := hP.sub (ws' := [(h0, .inr (0, [.int x4, .int x5, .ref h6, .ref h7, .int x8, .int x9, .int x10, .ref h11, .ref h12, .int x13, .int x14, .int x15, .int x16, .int x17])), (h11, .inl (cI, 4, .inl f18)), (h6, .inl (cI, 28, .inl f21))]) [0, 1, 2] rfl
            have hD9 := hD.sub (ws' := [(h0, .inr (0, [.int x4, .int x5, .ref h6, .ref h7, .int x8, .int x9, .int x10, .ref h11, .ref h12, .int x13, .int x14, .int x15, .int x16, .int x17])), (h11, .inl (cI, 4, .inl f18)), (h6, .inl (cI, 28, .inl f21))]) [0, 1, 2] (by decide) rfl
            exact xr_i (rm := (rmL 5 0 0)) hx hb hr hlocks hAe hS hP9 hD9 rfl (Nat.le_of_ble_eq_true rfl) (Nat.le_of_ble_eq_true rfl) dX0_closeRound_129 ⟨(-1000000000), by have zcm1000000000 : ((-1000000000) : Int32).toInt = (-1000000000) := (by decide); omega, rfl, rfl⟩
        · have fc_15 : x_5.toInt = (0 : Int) := i_eq rfl (by decide) c_15
          refine lv_iload hx hb dX0_closeRound_106 (lv_at hl 2 rfl) ?_
          have hP9 := hP.sub (ws' := [(h0, .inr (0, [.int x4, .int x5, .ref h6, .ref h7, .int x8, .int x9, .int x10, .ref h11, .ref h12, .int x13, .int x14, .int x15, .int x16, .int x17])), (h11, .inl (cI, 4, .inl f18)), (h6, .inl (cI, 28, .inl f21))]) [0, 1, 2] rfl
          have hD9 := hD.sub (ws' := [(h0, .inr (0, [.int x4, .int x5, .ref h6, .ref h7, .int x8, .int x9, .int x10, .ref h11, .ref h12, .int x13, .int x14, .int x15, .int x16, .int x17])), (h11, .inl (cI, 4, .inl f18)), (h6, .inl (cI, 28, .inl f21))]) [0, 1, 2] (by decide) rfl
          exact xr_i (rm := (rmL 5 0 0)) hx hb hr hlocks hAe hS hP9 hD9 rfl (Nat.le_of_ble_eq_true rfl) (Nat.le_of_ble_eq_true rfl) dX0_closeRound_108 ⟨x_4, by omega, rfl, rfl⟩
      · have fc_14 : x_6.toInt < x4.toInt := i_nle rfl rfl c_14
        refine lv_aload_n hx hb dX0_closeRound_19 rfl (lv_at hl 3 rfl) ?_
        refine va_get (D := D) (ci := 0) (v := .ref h11) (C := RX0) (T := TX0) (N := 14) hx hb hts inX0 hown hG.1 hP 0 rfl rfl 7 (by decide) (hts _ kw500) (fun _ h9 => h9) rfl dX0_closeRound_20 ?_
        refine lv_iload hx hb dX0_closeRound_23 (lv_at hl 0 rfl) ?_
        refine xa_ildE hx hb hG hP 1 rfl (vp_in_iff.mpr ⟨by omega, by omega⟩) dX0_closeRound_25 (fun v_18 ev_18 => ?_)
        have g_19 := rd_ar ga0 ev_18 (by omega) (by omega)
        have o_20 : PT f18 (x_6.toInt) (v_18.toInt) := mk_pt ev_18
        refine lv_iconst (v := (-1)) hx hb dX0_closeRound_26 (by decide +kernel) ?_
        refine lv_icmp_eq (tgt := 95) hx hb dX0_closeRound_27 (by decide) (fun c_21 => ?_) (fun c_21 => ?_)
        · have fc_21 : v_18.toInt = ((-1) : Int) := i_eq rfl (by decide) c_21
          obtain ⟨v_22, ev_22⟩ : ∃ y : Int32, y = x_6 + 1 := ⟨_, rfl⟩
          have gv_22 : v_22.toInt = x_6.toInt + 1 := by
            have zy : (1 : Int32).toInt = 1 := by decide
            rw [ev_22, i32_add (by rw [zy]; omega) (by rw [zy]; omega), zy]
          refine lv_iinc (v := v_22) (lv' := [(6, .int v_22), (5, .int x_5), (4, .int x_4), (0, .ref h0), (1, .int x1), (2, .int x2), (3, .int x3)]) hx hb dX0_closeRound_95 hl (k := 0) rfl (by rw [ev_22]; rfl) (by decide) rfl (fun ls hl => ?_)
          refine lv_goto (tgt := 10) hx hb dX0_closeRound_98 (by decide) ?_
          exact ihlp_7  x_4 x_5 v_22 _ _ _ (by omega) (by omega) (by omega) (by omega) (by omega) (by omega) (hP.sub (ws' := [(h0, .inr (0, [.int x4, .int x5, .ref h6, .ref h7, .int x8, .int x9, .int x10, .ref h11, .ref h12, .int x13, .int x14, .int x15, .int x16, .int x17])), (h11, .inl (cI, 4, .inl f18)), (h6, .inl (cI, 28, .inl f21))]) [0, 1, 2] rfl) (hD.sub (ws' := [(h0, .inr (0, [.int x4, .int x5, .ref h6, .ref h7, .int x8, .int x9, .int x10, .ref h11, .ref h12, .int x13, .int x14, .int x15, .int x16, .int x17])), (h11, .inl (cI, 4, .inl f18)), (h6, .inl (cI, 28, .inl f21))]) [0, 1, 2] (by decide) rfl) hS (lv_sub hl [0, 1, 2, 3, 4, 5, 6] rfl)
        · have fc_21 : v_18.toInt ≠ ((-1) : Int) := i_ne rfl (by decide) c_21
          refine lv_iload_n hx hb dX0_closeRound_30 rfl (lv_at hl 6 rfl) ?_
          refine lv_iload hx hb dX0_closeRound_31 (lv_at hl 0 rfl) ?_
          refine lv_ishr hx hb dX0_closeRound_33 ?_
          refine lv_topi (fun v_23 ev_23 => ?_)
          refine lv_iconst (v := 1) hx hb dX0_closeRound_34 (by decide +kernel) ?_
          refine lv_iand hx hb dX0_closeRound_35 ?_
          refine lv_topi (fun v_24 ev_24 => ?_)
          have gv_24 : 0 ≤ v_24.toInt ∧ v_24.toInt < 2 := by rw [ev_24]; exact i32_and (m := 1) 1 (by decide) (by decide)
          refine lv_if_ne (tgt := 95) hx hb dX0_closeRound_36 (by decide) (fun c_25 => ?_) (fun c_25 => ?_)
          · have fc_25 : v_24.toInt ≠ (0 : Int) := i_ne rfl (by decide) c_25
            obtain ⟨v_26, ev_26⟩ : ∃ y : Int32, y = x_6 + 1 := ⟨_, rfl⟩
            have gv_26 : v_26.toInt = x_6.toInt + 1 := by
              have zy : (1 : Int32).toInt = 1 := by decide
              rw [ev_26, i32_add (by rw [zy]; omega) (by rw [zy]; omega), zy]
            refine lv_iinc (v := v_26) (lv' := [(6, .int v_26), (5, .int x_5), (4, .int x_4), (0, .ref h0), (1, .int x1), (2, .int x2), (3, .int x3)]) hx hb dX0_closeRound_95 hl (k := 0) rfl (by rw [ev_26]; rfl) (by decide) rfl (fun ls hl => ?_)
            refine lv_goto (tgt := 10) hx hb dX0_closeRound_98 (by decide) ?_
            exact ihlp_7  x_4 x_5 v_26 _ _ _ (by omega) (by omega) (by omega) (by omega) (by omega) (by omega) (hP.sub (ws' := [(h0, .inr (0, [.int x4, .int x5, .ref h6, .ref h7, .int x8, .int x9, .int x10, .ref h11, .ref h12, .int x13, .int x14, .int x15, .int x16, .int x17])), (h11, .inl (cI, 4, .inl f18)), (h6, .inl (cI, 28, .inl f21))]) [0, 1, 2] rfl) (hD.sub (ws' := [(h0, .inr (0, [.int x4, .int x5, .ref h6, .ref h7, .int x8, .int x9, .int x10, .ref h11, .ref h12, .int x13, .int x14, .int x15, .int x16, .int x17])), (h11, .inl (cI, 4, .inl f18)), (h6, .inl (cI, 28, .inl f21))]) [0, 1, 2] (by decide) rfl) hS (lv_sub hl [0, 1, 2, 3, 4, 5, 6] rfl)
          · have fc_25 : v_24.toInt = (0 : Int) := i_eq rfl (by decide) c_25
            refine lv_iconst (v := 0) hx hb dX0_closeRound_39 (by decide +kernel) ?_
            refine lv_istore (lv' := [(5, .int 0), (6, .int x_6), (4, .int x_4), (0, .ref h0), (1, .int x1), (2, .int x2), (3, .int x3)]) hx hb dX0_closeRound_40 hl (by decide) rfl (fun ls hl => ?_)
            refine lv_aload_n hx hb dX0_closeRound_42 rfl (lv_at hl 3 rfl) ?_
            refine lv_iload hx hb dX0_closeRound_43 (lv_at hl 1 rfl) ?_
            refine lv_iload_n hx hb dX0_closeRound_45 rfl (lv_at hl 5 rfl) ?_
            refine xc_core (wr := []) (k := 0) (n := 0) (xc_runV (As := [.int x_6, .int x2]) (rest := []) hx hb hml hown hts hG hE hP hD hS hA [0, 1, 2] (by decide) rfl (sX0_gainByGift_1 l D cB cI cJ cZ aK aV h0 x_6 x2 x4 x5 h6 h7 x8 x9 x10 h11 h12 x13 x14 x15 x16 x17 f18 v_18 x20 f21 (by omega) (by omega) (by omega) (by omega) (by omega) (by omega) (by omega) (by omega) (by omega) (by omega) (by omega) (by omega) (by omega) (by omega) (by omega) (by omega) (ga0.mono (by omega) (by omega) (by omega)) o_20 go1) kw1085 kw1082 kw1084 kw33 kw124 (show XD yX0_gainByGift 2 from by decide +kernel) (by decide) rfl rfl 0 rfl hl.1 rfl (Nat.le_of_ble_eq_true rfl) dX0_closeRound_46 (by decide)) hP hD hS hA [0, 1, 2] [] rfl rfl (by decide) (by decide) (Nat.le_of_ble_eq_true rfl) (Nat.le_of_ble_eq_true rfl) (fun r w1 H locs hpost hP hD hS => ?_)
            obtain ⟨v_27, rfl, rfl⟩ := hpost
            have hP : va_P D vwCl [(h0, .inr (0, [.int x4, .int x5, .ref h6, .ref h7, .int x8, .int x9, .int x10, .ref h11, .ref h12, .int x13, .int x14, .int x15, .int x16, .int x17])), (h11, .inl (cI, 4, .inl f18)), (h6, .inl (cI, 28, .inl f21))] H := hP
            have hD : va_D A [(h0, .inr (0, [.int x4, .int x5, .ref h6, .ref h7, .int x8, .int x9, .int x10, .ref h11, .ref h12, .int x13, .int x14, .int x15, .int x16, .int x17])), (h11, .inl (cI, 4, .inl f18)), (h6, .inl (cI, 28, .inl f21))] := hD
            refine lv_istore (lv' := [(7, .int v_27), (5, .int 0), (6, .int x_6), (4, .int x_4), (0, .ref h0), (1, .int x1), (2, .int x2), (3, .int x3)]) hx hb dX0_closeRound_49 hl (by decide) rfl (fun ls hl => ?_)
            refine lv_iload hx hb dX0_closeRound_51 (lv_at hl 0 rfl) ?_
            refine lv_if_ge (tgt := 61) hx hb dX0_closeRound_53 (by decide) (fun c_28 => ?_) (fun c_28 => ?_)
            · have fc_28 : (0 : Int) ≤ v_27.toInt := i_le (by decide) rfl c_28
              refine lv_aload_n hx hb dX0_closeRound_61 rfl (lv_at hl 4 rfl) ?_
              refine lv_iload_n hx hb dX0_closeRound_62 rfl (lv_at hl 5 rfl) ?_
              refine lv_iload hx hb dX0_closeRound_63 (lv_at hl 2 rfl) ?_
              refine lv_iload_n hx hb dX0_closeRound_65 rfl (lv_at hl 7 rfl) ?_
              refine lv_iconst (v := 1) hx hb dX0_closeRound_66 (by decide +kernel) ?_
              refine lv_iload hx hb dX0_closeRound_67 (lv_at hl 2 rfl) ?_
              refine lv_ishl hx hb dX0_closeRound_69 ?_
              refine lv_topi (fun v_29 ev_29 => ?_)
              have gv_29 : 1 ≤ v_29.toInt ∧ v_29.toInt ≤ 64 := by rw [ev_29]; exact i32_shl1 (by omega) (by omega)
              refine lv_ior hx hb dX0_closeRound_70 ?_
              refine lv_topi (fun v_30 ev_30 => ?_)
              have gv_30 : 0 ≤ v_30.toInt ∧ v_30.toInt ≤ 127 := by rw [ev_30]; exact i32_or (by omega) (by omega) (by omega) (by omega)
              have o_31 : BC (v_30.toInt) (3) := bc_or go2 ev_23 ev_24 (by omega) ev_29 ev_30 (by omega) (by omega)
              have g_32 := bc_le o_31
              refine xc_core (wr := []) (k := 0) (n := 0) (xc_runV (As := [.int x1, .int x_6, .int v_30]) (rest := []) hx hb hml hown hts hG hE hP hD hS hA [0, 1, 2] (by decide) rfl (sX0_closeRound_2 l D cB cI cJ cZ aK aV h0 x1 x_6 v_30 x4 x5 h6 h7 x8 x9 x10 h11 h12 x13 x14 x15 x16 x17 f18 x19 v_18 f21 (by omega) (by omega) (by omega) (by omega) (by omega) (by omega) (by omega) (by omega) (by omega) (by omega) (by omega) (by omega) (by omega) (by omega) (by omega) (by omega) (by omega) (by omega) (ga0.mono (by omega) (by omega) (by omega)) go0 o_20 o_31) kw1081 kw1078 kw1080 kw32 kw124 (show XD yX0_closeRound 3 from by decide +kernel) (by decide) rfl rfl 0 rfl hl.1 rfl (Nat.le_of_ble_eq_true rfl) dX0_closeRound_71 (by decide)) hP hD hS hA [0, 1, 2] [] rfl rfl (by decide) (by decide) (Nat.le_of_ble_eq_true rfl) (Nat.le_of_ble_eq_true rfl) (fun r w1 H locs hpost hP hD hS => ?_)
              obtain ⟨v_33, g_34, rfl, rfl⟩ := hpost
              have hP : va_P D vwCl [(h0, .inr (0, [.int x4, .int x5, .ref h6, .ref h7, .int x8, .int x9, .int x10, .ref h11, .ref h12, .int x13, .int x14, .int x15, .int x16, .int x17])), (h11, .inl (cI, 4, .inl f18)), (h6, .inl (cI, 28, .inl f21))] H := hP
              have hD : va_D A [(h0, .inr (0, [.int x4, .int x5, .ref h6, .ref h7, .int x8, .int x9, .int x10, .ref h11, .ref h12, .int x13, .int x14, .int x15, .int x16, .int x17])), (h11, .inl (cI, 4, .inl f18)), (h6, .inl (cI, 28, .inl f21))] := hD
              refine lv_istore (lv' := [(8, .int v_33), (7, .int v_27), (5, .int 0), (6, .int x_6), (4, .int x_4), (0, .ref h0), (1, .int x1), (2, .int x2), (3, .int x3)]) hx hb dX0_closeRound_74 hl (by decide) rfl (fun ls hl => ?_)
              refine lv_iload hx hb dX0_closeRound_76 (lv_at hl 0 rfl) ?_
              refine lv_ldc (v := (-1000000000)) hx hb hown (hts _ kw1069) dX0_closeRound_78 ?_
              refine lv_icmp_eq (tgt := 95) hx hb dX0_closeRound_80 (by decide) (fun c_35 => ?_) (fun c_35 => ?_)
              · have fc_35 : v_33.toInt = ((-1000000000) : Int) := i_eq rfl (by decide) c_35
                obtain ⟨v_36, ev_36⟩ : ∃ y : Int32, y = x_6 + 1 := ⟨_, rfl⟩
                have gv_36 : v_36.toInt = x_6.toInt + 1 := by
                  have zy : (1 : Int32).toInt = 1 := by decide
                  rw [ev_36, i32_add (by rw [zy]; omega) (by rw [zy]; omega), zy]
                refine lv_iinc (v := v_36) (lv' := [(6, .int v_36), (8, .int v_33), (7, .int v_27), (5, .int 0), (4, .int x_4), (0, .ref h0), (1, .int x1), (2, .int x2), (3, .int x3)]) hx hb dX0_closeRound_95 hl (k := 3) rfl (by rw [ev_36]; rfl) (by decide) rfl (fun ls hl => ?_)
                refine lv_goto (tgt := 10) hx hb dX0_closeRound_98 (by decide) ?_
                exact ihlp_7  x_4 0 v_36 _ _ _ (by have zc0 : (0 : Int32).toInt = 0 := (by decide); omega) (by have zc0 : (0 : Int32).toInt = 0 := (by decide); omega) (by have zc0 : (0 : Int32).toInt = 0 := (by decide); omega) (by have zc0 : (0 : Int32).toInt = 0 := (by decide); omega) (by have zc0 : (0 : Int32).toInt = 0 := (by decide); omega) (by have zc0 : (0 : Int32).toInt = 0 := (by decide); omega) (hP.sub (ws' := [(h0, .inr (0, [.int x4, .int x5, .ref h6, .ref h7, .int x8, .int x9, .int x10, .ref h11, .ref h12, .int x13, .int x14, .int x15, .int x16, .int x17])), (h11, .inl (cI, 4, .inl f18)), (h6, .inl (cI, 28, .inl f21))]) [0, 1, 2] rfl) (hD.sub (ws' := [(h0, .inr (0, [.int x4, .int x5, .ref h6, .ref h7, .int x8, .int x9, .int x10, .ref h11, .ref h12, .int x13, .int x14, .int x15, .int x16, .int x17])), (h11, .inl (cI, 4, .inl f18)), (h6, .inl (cI, 28, .inl f21))]) [0, 1, 2] (by decide) rfl) hS (lv_sub hl [0, 3, 4, 5, 6, 7, 8] rfl)
              · have fc_35 : v_33.toInt ≠ ((-1000000000) : Int) := i_ne rfl (by decide) c_35
                refine lv_iload hx hb dX0_closeRound_83 (lv_at hl 4 rfl) ?_
                refine lv_iload hx hb dX0_closeRound_85 (lv_at hl 1 rfl) ?_
                refine lv_iload hx hb dX0_closeRound_87 (lv_at hl 0 rfl) ?_
                refine lv_iadd hx hb dX0_closeRound_89 ?_
                refine xt_any (fun v_37 => ?_)
                refine va_mmax hx hb (hml.trans hl.1.symm) hown (hts _ kw1086) (hts _ kw683) (hts _ kw128) (hts _ kw684) (Nat.le_of_ble_eq_true rfl) (Nat.le_of_ble_eq_true rfl) (Nat.le_of_ble_eq_true rfl) (Nat.le_of_ble_eq_true rfl) dX0_closeRound_90 ?_
                refine lv_topi (fun v_38 ev_38 => ?_)
                have g_39 := i32_max rfl rfl ev_38
                refine lv_istore (lv' := [(4, .int v_38), (8, .int v_33), (7, .int v_27), (5, .int 0), (6, .int x_6), (0, .ref h0), (1, .int x1), (2, .int x2), (3, .int x3)]) hx hb dX0_closeRound_93 hl (by decide) rfl (fun ls hl => ?_)
                obtain ⟨v_40, ev_40⟩ : ∃ y : Int32, y = x_6 + 1 := ⟨_, rfl⟩
                have gv_40 : v_40.toInt = x_6.toInt + 1 := by
                  have zy : (1 : Int32).toInt = 1 := by decide
                  rw [ev_40, i32_add (by rw [zy]; omega) (by rw [zy]; omega), zy]
                refine lv_iinc (v := v_40) (lv' := [(6, .int v_40), (4, .int v_38), (8, .int v_33), (7, .int v_27), (5, .int 0), (0, .ref h0), (1, .int x1), (2, .int x2), (3, .int x3)]) hx hb dX0_closeRound_95 hl (k := 4) rfl (by rw [ev_40]; rfl) (by decide) rfl (fun ls hl => ?_)
                refine lv_goto (tgt := 10) hx hb dX0_closeRound_98 (by decide) ?_
                exact ihlp_7  v_38 0 v_40 _ _ _ (by have zc0 : (0 : Int32).toInt = 0 := (by decide); omega) (by have zc0 : (0 : Int32).toInt = 0 := (by decide); omega) (by have zc0 : (0 : Int32).toInt = 0 := (by decide); omega) (by have zc0 : (0 : Int32).toInt = 0 := (by decide); omega) (by have zc0 : (0 : Int32).toInt = 0 := (by decide); omega) (by have zc0 : (0 : Int32).toInt = 0 := (by decide); omega) (hP.sub (ws' := [(h0, .inr (0, [.int x4, .int x5, .ref h6, .ref h7, .int x8, .int x9, .int x10, .ref h11, .ref h12, .int x13, .int x14, .int x15, .int x16, .int x17])), (h11, .inl (cI, 4, .inl f18)), (h6, .inl (cI, 28, .inl f21))]) [0, 1, 2] rfl) (hD.sub (ws' := [(h0, .inr (0, [.int x4, .int x5, .ref h6, .ref h7, .int x8, .int x9, .int x10, .ref h11, .ref h12, .int x13, .int x14, .int x15, .int x16, .int x17])), (h11, .inl (cI, 4, .inl f18)), (h6, .inl (cI, 28, .inl f21))]) [0, 1, 2] (by decide) rfl) hS (lv_sub hl [0, 4, 1, 5, 6, 7, 8] rfl)
            · have fc_28 : v_27.toInt < (0 : Int) := i_nle (by decide) rfl c_28
              refine lv_ldc (v := (-1000000000)) hx hb hown (hts _ kw1069) dX0_closeRound_56 ?_
              refine lv_goto (tgt := 74) hx hb dX0_closeRound_58 (by decide) ?_
              refine lv_istore (lv' := [(8, .int (-1000000000)), (7, .int v_27), (5, .int 0), (6, .int x_6), (4, .int x_4), (0, .ref h0), (1, .int x1), (2, .int x2), (3, .int x3)]) hx hb dX0_closeRound_74 hl (by decide) rfl (fun ls hl => ?_)
              refine lv_iload hx hb dX0_closeRound_76 (lv_at hl 0 rfl) ?_
              refine lv_ldc (v := (-1000000000)) hx hb hown (hts _ kw1069) dX0_closeRound_78 ?_
              refine lv_icmp_eq (tgt := 95) hx hb dX0_closeRound_80 (by decide) (fun _ => ?_) (fun h => absurd h (by decide +kernel))
              obtain ⟨v_41, ev_41⟩ : ∃ y : Int32, y = x_6 + 1 := ⟨_, rfl⟩
              have gv_41 : v_41.toInt = x_6.toInt + 1 := by
                have zy : (1 : Int32).toInt = 1 := by decide
                rw [ev_41, i32_add (by rw [zy]; omega) (by rw [zy]; omega), zy]
              refine lv_iinc (v := v_41) (lv' := [(6, .int v_41), (8, .int (-1000000000)), (7, .int v_27), (5, .int 0), (4, .int x_4), (0, .ref h0), (1, .int x1), (2, .int x2), (3, .int x3)]) hx hb dX0_closeRound_95 hl (k := 3) rfl (by rw [ev_41]; rfl) (by decide) rfl (fun ls hl => ?_)
              refine lv_goto (tgt := 10) hx hb dX0_closeRound_98 (by decide) ?_
              exact ihlp_7  x_4 0 v_41 _ _ _ (by have zc0 : (0 : Int32).toInt = 0 := (by decide); omega) (by have zc0 : (0 : Int32).toInt = 0 := (by decide); omega) (by have zc0 : (0 : Int32).toInt = 0 := (by decide); omega) (by have zc0 : (0 : Int32).toInt = 0 := (by decide); omega) (by have zc0 : (0 : Int32).toInt = 0 := (by decide); omega) (by have zc0 : (0 : Int32).toInt = 0 := (by decide); omega) (hP.sub (ws' := [(h0, .inr (0, [.int x4, .int x5, .ref h6, .ref h7, .int x8, .int x9, .int x10, .ref h11, .ref h12, .int x13, .int x14, .int x15, .int x16, .int x17])), (h11, .inl (cI, 4, .inl f18)), (h6, .inl (cI, 28, .inl f21))]) [0, 1, 2] rfl) (hD.sub (ws' := [(h0, .inr (0, [.int x4, .int x5, .ref h6, .ref h7, .int x8, .int x9, .int x10, .ref h11, .ref h12, .int x13, .int x14, .int x15, .int x16, .int x17])), (h11, .inl (cI, 4, .inl f18)), (h6, .inl (cI, 28, .inl f21))]) [0, 1, 2] (by decide) rfl) hS (lv_sub hl [0, 3, 4, 5, 6, 7, 8] rfl)
  exact lp_7 6 (-1000000000) 1 0 _ _ _ (by have zcm1000000000 : ((-1000000000) : Int32).toInt = (-1000000000) := (by decide); have zc0 : (0 : Int32).toInt = 0 := (by decide); have zc1 : (1 : Int32).toInt = 1 := (by decide); omega) (by have zcm1000000000 : ((-1000000000) : Int32).toInt = (-1000000000) := (by decide); have zc0 : (0 : Int32).toInt = 0 := (by decide); have zc1 : (1 : Int32).toInt = 1 := (by decide); omega) (by have zcm1000000000 : ((-1000000000) : Int32).toInt = (-1000000000) := (by decide); have zc0 : (0 : Int32).toInt = 0 := (by decide); have zc1 : (1 : Int32).toInt = 1 := (by decide); omega) (by have zcm1000000000 : ((-1000000000) : Int32).toInt = (-1000000000) := (by decide); have zc0 : (0 : Int32).toInt = 0 := (by decide); have zc1 : (1 : Int32).toInt = 1 := (by decide); omega) (by have zcm1000000000 : ((-1000000000) : Int32).toInt = (-1000000000) := (by decide); have zc0 : (0 : Int32).toInt = 0 := (by decide); have zc1 : (1 : Int32).toInt = 1 := (by decide); omega) (by have zcm1000000000 : ((-1000000000) : Int32).toInt = (-1000000000) := (by decide); have zc0 : (0 : Int32).toInt = 0 := (by decide); have zc1 : (1 : Int32).toInt = 1 := (by decide); omega) (hP.sub (ws' := [(h0, .inr (0, [.int x4, .int x5, .ref h6, .ref h7, .int x8, .int x9, .int x10, .ref h11, .ref h12, .int x13, .int x14, .int x15, .int x16, .int x17])), (h11, .inl (cI, 4, .inl f18)), (h6, .inl (cI, 28, .inl f21))]) [0, 1, 2] rfl) (hD.sub (ws' := [(h0, .inr (0, [.int x4, .int x5, .ref h6, .ref h7, .int x8, .int x9, .int x10, .ref h11, .ref h12, .int x13, .int x14, .int x15, .int x16, .int x17])), (h11, .inl (cI, 4, .inl f18)), (h6, .inl (cI, 28, .inl f21))]) [0, 1, 2] (by decide) rfl) hS (lv_sub hl [0, 1, 2, 3, 4, 5, 6] rfl)
set_option maxHeartbeats 4000000 in
set_option maxRecDepth 100000 in
theorem sX0_closeRound_4 (l : Launch) (D : va_G) (cB cI cJ cZ : ClassId) (aK aV : Nat → Nat) (h0 : Nat) (x1 : Int32) (x2 : Int32) (x3 : Int32) (x4 : Int32) (x5 : Int32) (h6 : Nat) (h7 : Nat) (x8 : Int32) (x9 : Int32) (x10 : Int32) (h11 : Nat) (h12 : Nat) (x13 : Int32) (x14 : Int32) (x15 : Int32) (x16 : Int32) (x17 : Int32) (f18 : Nat → Int32) (x19 : Int32) (x20 : Int32) (f21 : Nat → Int32) (gh0 : 0 ≤ x1.toInt) (gh1 : 0 ≤ -x1.toInt + 3) (gh2 : 0 ≤ x2.toInt) (gh3 : 0 ≤ -x2.toInt + 3) (gh4 : 0 ≤ x3.toInt) (gh5 : 0 ≤ -x3.toInt + 15) (gh6 : 0 ≤ x4.toInt) (gh7 : 0 ≤ -x4.toInt + 4) (gh8 : 0 ≤ x5.toInt) (gh9 : 0 ≤ -x5.toInt + 7) (gh10 : 0 ≤ x9.toInt) (gh11 : 0 ≤ -x9.toInt + 6) (gh12 : 0 ≤ x10.toInt) (gh13 : 0 ≤ -x10.toInt + 6) (gh14 : 0 ≤ x19.toInt) (gh15 : 0 ≤ -x19.toInt + 6) (gh16 : 0 ≤ x20.toInt) (gh17 : 0 ≤ -x20.toInt + 6) (ga0 : AR f18 (-1) (6) (4)) (go0 : PT f18 (x1.toInt) (x19.toInt)) (go1 : PT f18 (x2.toInt) (x20.toInt)) (go2 : BC (x3.toInt) (1)) : MX l yX0_closeRound cX0_closeRound 9 (some .int) (rmL 6 0 0) D cB cI cJ cZ aK aV [.ref h0, .int x1, .int x2, .int x3] [(h0, .inr (0, [.int x4, .int x5, .ref h6, .ref h7, .int x8, .int x9, .int x10, .ref h11, .ref h12, .int x13, .int x14, .int x15, .int x16, .int x17])), (h11, .inl (cI, 4, .inl f18)), (h6, .inl (cI, 28, .inl f21))] (fun r w1 => ∃ z1 : Int32, 0 ≤ z1.toInt + 1000000000 ∧ r = some (.int z1) ∧ w1 = [(h0, .inr (0, [.int x4, .int x5, .ref h6, .ref h7, .int x8, .int x9, .int x10, .ref h11, .ref h12, .int x13, .int x14, .int x15, .int x16, .int x17])), (h11, .inl (cI, 4, .inl f18)), (h6, .inl (cI, 28, .inl f21))]) := by
  refine MX.intro (by decide) (Nat.le_of_ble_eq_true rfl) ?_
  intro p e s m below meth c A ls hx hb hr hml hown hlocks hnm hts hG hE hA hS hP hD hl hAe
  have hl : lv_has ls 9 [(0, .ref h0), (1, .int x1), (2, .int x2), (3, .int x3)] := hl
  have hown : s.vm.findClass RX0 = some m.cls := hown
  refine lv_ldc (v := (-1000000000)) hx hb hown (hts _ kw1069) dX0_closeRound_0 ?_
  refine lv_istore (lv' := [(4, .int (-1000000000)), (0, .ref h0), (1, .int x1), (2, .int x2), (3, .int x3)]) hx hb dX0_closeRound_2 hl (by decide) rfl (fun ls hl => ?_)
  refine lv_iconst (v := 1) hx hb dX0_closeRound_4 (by decide +kernel) ?_
  refine lv_istore (lv' := [(5, .int 1), (4, .int (-1000000000)), (0, .ref h0), (1, .int x1), (2, .int x2), (3, .int x3)]) hx hb dX0_closeRound_5 hl (by decide) rfl (fun ls hl => ?_)
  refine lv_iconst (v := 0) hx hb dX0_closeRound_7 (by decide +kernel) ?_
  refine lv_istore (lv' := [(6, .int 0), (5, .int 1), (4, .int (-1000000000)), (0, .ref h0), (1, .int x1), (2, .int x2), (3, .int x3)]) hx hb dX0_closeRound_8 hl (by decide) rfl (fun ls hl => ?_)
  have lp_7 : ∀ (n : Nat) (x_4 x_5 x_6 : Int32) (H : Heap) (locs : List Loc) (ls : Array Slot), 0 ≤ x_4.toInt + 1000000000 → 0 ≤ x_5.toInt → 0 ≤ -x_5.toInt + 1 → 0 ≤ x_6.toInt → 0 ≤ x4.toInt - x_6.toInt → -x_6.toInt + 4 < n → va_P D vwCl [(h0, .inr (0, [.int x4, .int x5, .ref h6, .ref h7, .int x8, .int x9, .int x10, .ref h11, .ref h12, .int x13, .int x14, .int x15, .int x16, .int x17])), (h11, .inl (cI, 4, .inl f18)), (h6, .inl (cI, 28, .inl f21))] H → va_D A [(h0, .inr (0, [.int x4, .int x5, .ref h6, .ref h7, .int x8, .int x9, .int x10, .ref h11, .ref h12, .int x13, .int x14, .int x15, .int x16, .int x17])), (h11, .inl (cI, 4, .inl f18)), (h6, .inl (cI, 28, .inl f21))] → va_S A s.heap H locs → lv_has ls 9 [(6, .int x_6), (5, .int x_5), (4, .int x_4), (0, .ref h0), (1, .int x1), (2, .int x2), (3, .int x3)] → W p l e (rmL 6 0 0) s m [.ref h0, .int x1, .int x2, .int x3].toArray below meth c H locs 0 0 (ZX D below [.ref h0, .int x1, .int x2, .int x3] s (rmL 6 0 0) [(h0, .inr (0, [.int x4, .int x5, .ref h6, .ref h7, .int x8, .int x9, .int x10, .ref h11, .ref h12, .int x13, .int x14, .int x15, .int x16, .int x17])), (h11, .inl (cI, 4, .inl f18)), (h6, .inl (cI, 28, .inl f21))] (fun r w1 => ∃ z1 : Int32, 0 ≤ z1.toInt + 1000000000 ∧ r = some (.int z1) ∧ w1 = [(h0, .inr (0, [.int x4, .int x5, .ref h6, .ref h7, .int x8, .int x9, .int x10, .ref h11, .ref h12, .int x13, .int x14, .int x15, .int x16, .int x17])), (h11, .inl (cI, 4, .inl f18)), (h6, .inl (cI, 28, .inl f21))])) (F0 m 10 ls []) := by
    intro n
    induction n with
    | zero => intro x_4 x_5 x_6 H locs ls g_8 g_9 g_10 g_11 g_12 g_13; omega
    | succ n ihlp_7 =>
      intro x_4 x_5 x_6 H locs ls g_8 g_9 g_10 g_11 g_12 g_13 hP hD hS hl
      refine lv_iload hx hb dX0_closeRound_10 (lv_at hl 0 rfl) ?_
      refine lv_aload_n hx hb dX0_closeRound_12 rfl (lv_at hl 3 rfl) ?_
      refine va_get (D := D) (ci := 0) (v := .int x4) (C := RX0) (T := TX0) (N := 14) hx hb hts inX0 hown hG.1 hP 0 rfl rfl 0 (by decide) (hts _ kw489) (fun _ h9 => h9) rfl dX0_closeRound_13 ?_
      refine lv_icmp_ge (tgt := 101) hx hb dX0_closeRound_16 (by decide) (fun c_14 => ?_) (fun c_14 => ?_)
      · have fc_14 : x4.toInt ≤ x_6.toInt := i_le rfl rfl c_14
        refine lv_iload hx hb dX0_closeRound_101 (lv_at hl 1 rfl) ?_
        refine lv_if_ne (tgt := 109) hx hb dX0_closeRound_103 (by decide) (fun c_15 => ?_) (fun c_15 => ?_)
        · have fc_15 : x_5.toInt ≠ (0 : Int) := i_ne rfl (by decide) c_15
          refine lv_aload_n hx hb dX0_closeRound_109 rfl (lv_at hl 3 rfl) ?_
          refine lv_iload_n hx hb dX0_closeRound_110 rfl (lv_at hl 4 rfl) ?_
          refine lv_iload_n hx hb dX0_closeRound_111 rfl (lv_at hl 5 rfl) ?_
          refine xc_core (wr := []) (k := 0) (n := 0) (xc_runV (As := [.int x1, .int x2]) (rest := []) hx hb hml hown hts hG hE hP hD hS hA [0, 1, 2] (by decide) rfl (sX0_gainByGift_1 l D cB cI cJ cZ aK aV h0 x1 x2 x4 x5 h6 h7 x8 x9 x10 h11 h12 x13 x14 x15 x16 x17 f18 x19 x20 f21 (by omega) (by omega) (by omega) (by omega) (by omega) (by omega) (by omega) (by omega) (by omega) (by omega) (by omega) (by omega) (by omega) (by omega) (by omega) (by omega) (ga0.mono (by omega) (by omega) (by omega)) go0 go1) kw1085 kw1082 kw1084 kw33 kw124 (show XD yX0_gainByGift 2 from by decide +kernel) (by decide) rfl rfl 0 rfl hl.1 rfl (Nat.le_of_ble_eq_true rfl) dX0_closeRound_112 (by decide)) hP hD hS hA [0, 1, 2] [] rfl rfl (by decide) (by decide) (Nat.le_of_ble_eq_true rfl) (Nat.le_of_ble_eq_true rfl) (fun r w1 H locs hpost hP hD hS => ?_)
          obtain ⟨v_16, rfl, rfl⟩ := hpost
          have hP : va_P D vwCl [(h0, .inr (0, [.int x4, .int x5, .ref h6, .ref h7, .int x8, .int x9, .int x10, .ref h11, .ref h12, .int x13, .int x14, .int x15, .int x16, .int x17])), (h11, .inl (cI, 4, .inl f18)), (h6, .inl (cI, 28, .inl f21))] H := hP
          have hD : va_D A [(h0, .inr (0, [.int x4, .int x5, .ref h6, .ref h7, .int x8, .int x9, .int x10, .ref h11, .ref h12, .int x13, .int x14, .int x15, .int x16, .int x17])), (h11, .inl (cI, 4, .inl f18)), (h6, .inl (cI, 28, .inl f21))] := hD
          refine lv_istore (lv' := [(6, .int v_16), (5, .int x_5), (4, .int x_4), (0, .ref h0), (1, .int x1), (2, .int x2), (3, .int x3)]) hx hb dX0_closeRound_115 hl (by decide) rfl (fun ls hl => ?_)
          refine lv_iload hx hb dX0_closeRound_117 (lv_at hl 0 rfl) ?_
          refine lv_if_ge (tgt := 127) hx hb dX0_closeRound_119 (by decide) (fun c_17 => ?_) (fun c_17 => ?_)
          · have fc_17 : (0 : Int) ≤ v_16.toInt := i_le (by decide) rfl c_17
            refine lv_iload hx hb dX0_closeRound_127 (lv_at hl 0 rfl) ?_
            have hP9 := hP.sub (ws' := [(h0, .inr (0, [.int x4, .int x5, .ref h6, .ref h7, .int x8, .int x9, .int x10, .ref h11, .ref h12, .int x13, .int x14, .int x15, .int x16, .int x17])), (h11, .inl (cI, 4, .inl f18)), (h6, .inl (cI, 28, .inl f21))]) [0, 1, 2] rfl
            have hD9 := hD.sub (ws' := [(h0, .inr (0, [.int x4, .int x5, .ref h6, .ref h7, .int x8, .int x9, .int x10, .ref h11, .ref h12, .int x13, .int x14, .int x15, .int x16, .int x17])), (h11, .inl (cI, 4, .inl f18)), (h6, .inl (cI, 28, .inl f21))]) [0, 1, 2] (by decide) rfl
            exact xr_i (rm := (rmL 6 0 0)) hx hb hr hlocks hAe hS hP9 hD9 rfl (Nat.le_of_ble_eq_true rfl) (Nat.le_of_ble_eq_true rfl) dX0_closeRound_129 ⟨v_16, by omega, rfl, rfl⟩
          · have fc_17 : v_16.toInt < (0 : Int) := i_nle (by decide) rfl c_17
            refine lv_ldc (v := (-1000000000)) hx hb hown (hts _ kw1069) dX0_closeRound_122 ?_
            refine lv_goto (tgt := 129) hx hb dX0_closeRound_124 (by decide) ?_
            have hP9 := hP.sub (ws' := [(h0, .inr (0, [.int x4, .int x5, .ref h6, .ref h7, .int x8, .int x9, .int x10, .ref h11, .ref h12, .int x13, .int x14, .int x15, .int x16, .int x17])), (h11, .inl (cI, 4, .inl f18)), (h6, .inl (cI, 28, .inl f21))]) [0, 1, 2] rfl
            have hD9 := hD.sub (ws' := [(h0, .inr (0, [.int x4, .int x5, .ref h6, .ref h7, .int x8, .int x9, .int x10, .ref h11, .ref h12, .int x13, .int x14, .int x15, .int x16, .int x17])), (h11, .inl (cI, 4, .inl f18)), (h6, .inl (cI, 28, .inl f21))]) [0, 1, 2] (by decide) rfl
            exact xr_i (rm := (rmL 6 0 0)) hx hb hr hlocks hAe hS hP9 hD9 rfl (Nat.le_of_ble_eq_true rfl) (Nat.le_of_ble_eq_true rfl) dX0_closeRound_129 ⟨(-1000000000), by have zcm1000000000 : ((-1000000000) : Int32).toInt = (-1000000000) := (by decide); omega, rfl, rfl⟩
        · have fc_15 : x_5.toInt = (0 : Int) := i_eq rfl (by decide) c_15
          refine lv_iload hx hb dX0_closeRound_106 (lv_at hl 2 rfl) ?_
          have hP9 := hP.sub (ws' := [(h0, .inr (0, [.int x4, .int x5, .ref h6, .ref h7, .int x8, .int x9, .int x10, .ref h11, .ref h12, .int x13, .int x14, .int x15, .int x16, .int x17])), (h11, .inl (cI, 4, .inl f18)), (h6, .inl (cI, 28, .inl f21))]) [0, 1, 2] rfl
          have hD9 := hD.sub (ws' := [(h0, .inr (0, [.int x4, .int x5, .ref h6, .ref h7, .int x8, .int x9, .int x10, .ref h11, .ref h12, .int x13, .int x14, .int x15, .int x16, .int x17])), (h11, .inl (cI, 4, .inl f18)), (h6, .inl (cI, 28, .inl f21))]) [0, 1, 2] (by decide) rfl
          exact xr_i (rm := (rmL 6 0 0)) hx hb hr hlocks hAe hS hP9 hD9 rfl (Nat.le_of_ble_eq_true rfl) (Nat.le_of_ble_eq_true rfl) dX0_closeRound_108 ⟨x_4, by omega, rfl, rfl⟩
      · have fc_14 : x_6.toInt < x4.toInt := i_nle rfl rfl c_14
        refine lv_aload_n hx hb dX0_closeRound_19 rfl (lv_at hl 3 rfl) ?_
        refine va_get (D := D) (ci := 0) (v := .ref h11) (C := RX0) (T := TX0) (N := 14) hx hb hts inX0 hown hG.1 hP 0 rfl rfl 7 (by decide) (hts _ kw500) (fun _ h9 => h9) rfl dX0_closeRound_20 ?_
        refine lv_iload hx hb dX0_closeRound_23 (lv_at hl 0 rfl) ?_
        refine xa_ildE hx hb hG hP 1 rfl (vp_in_iff.mpr ⟨by omega, by omega⟩) dX0_closeRound_25 (fun v_18 ev_18 => ?_)
        have g_19 := rd_ar ga0 ev_18 (by omega) (by omega)
        have o_20 : PT f18 (x_6.toInt) (v_18.toInt) := mk_pt ev_18
        refine lv_iconst (v := (-1)) hx hb dX0_closeRound_26 (by decide +kernel) ?_
        refine lv_icmp_eq (tgt := 95) hx hb dX0_closeRound_27 (by decide) (fun c_21 => ?_) (fun c_21 => ?_)
        · have fc_21 : v_18.toInt = ((-1) : Int) := i_eq rfl (by decide) c_21
          obtain ⟨v_22, ev_22⟩ : ∃ y : Int32, y = x_6 + 1 := ⟨_, rfl⟩
          have gv_22 : v_22.toInt = x_6.toInt + 1 := by
            have zy : (1 : Int32).toInt = 1 := by decide
            rw [ev_22, i32_add (by rw [zy]; omega) (by rw [zy]; omega), zy]
          refine lv_iinc (v := v_22) (lv' := [(6, .int v_22), (5, .int x_5), (4, .int x_4), (0, .ref h0), (1, .int x1), (2, .int x2), (3, .int x3)]) hx hb dX0_closeRound_95 hl (k := 0) rfl (by rw [ev_22]; rfl) (by decide) rfl (fun ls hl => ?_)
          refine lv_goto (tgt := 10) hx hb dX0_closeRound_98 (by decide) ?_
          exact ihlp_7  x_4 x_5 v_22 _ _ _ (by omega) (by omega) (by omega) (by omega) (by omega) (by omega) (hP.sub (ws' := [(h0, .inr (0, [.int x4, .int x5, .ref h6, .ref h7, .int x8, .int x9, .int x10, .ref h11, .ref h12, .int x13, .int x14, .int x15, .int x16, .int x17])), (h11, .inl (cI, 4, .inl f18)), (h6, .inl (cI, 28, .inl f21))]) [0, 1, 2] rfl) (hD.sub (ws' := [(h0, .inr (0, [.int x4, .int x5, .ref h6, .ref h7, .int x8, .int x9, .int x10, .ref h11, .ref h12, .int x13, .int x14, .int x15, .int x16, .int x17])), (h11, .inl (cI, 4, .inl f18)), (h6, .inl (cI, 28, .inl f21))]) [0, 1, 2] (by decide) rfl) hS (lv_sub hl [0, 1, 2, 3, 4, 5, 6] rfl)
        · have fc_21 : v_18.toInt ≠ ((-1) : Int) := i_ne rfl (by decide) c_21
          refine lv_iload_n hx hb dX0_closeRound_30 rfl (lv_at hl 6 rfl) ?_
          refine lv_iload hx hb dX0_closeRound_31 (lv_at hl 0 rfl) ?_
          refine lv_ishr hx hb dX0_closeRound_33 ?_
          refine lv_topi (fun v_23 ev_23 => ?_)
          refine lv_iconst (v := 1) hx hb dX0_closeRound_34 (by decide +kernel) ?_
          refine lv_iand hx hb dX0_closeRound_35 ?_
          refine lv_topi (fun v_24 ev_24 => ?_)
          have gv_24 : 0 ≤ v_24.toInt ∧ v_24.toInt < 2 := by rw [ev_24]; exact i32_and (m := 1) 1 (by decide) (by decide)
          refine lv_if_ne (tgt := 95) hx hb dX0_closeRound_36 (by decide) (fun c_25 => ?_) (fun c_25 => ?_)
          · have fc_25 : v_24.toInt ≠ (0 : Int) := i_ne rfl (by decide) c_25
            obtain ⟨v_26, ev_26⟩ : ∃ y : Int32, y = x_6 + 1 := ⟨_, rfl⟩
            have gv_26 : v_26.toInt = x_6.toInt + 1 := by
              have zy : (1 : Int32).toInt = 1 := by decide
              rw [ev_26, i32_add (by rw [zy]; omega) (by rw [zy]; omega), zy]
            refine lv_iinc (v := v_26) (lv' := [(6, .int v_26), (5, .int x_5), (4, .int x_4), (0, .ref h0), (1, .int x1), (2, .int x2), (3, .int x3)]) hx hb dX0_closeRound_95 hl (k := 0) rfl (by rw [ev_26]; rfl) (by decide) rfl (fun ls hl => ?_)
            refine lv_goto (tgt := 10) hx hb dX0_closeRound_98 (by decide) ?_
            exact ihlp_7  x_4 x_5 v_26 _ _ _ (by omega) (by omega) (by omega) (by omega) (by omega) (by omega) (hP.sub (ws' := [(h0, .inr (0, [.int x4, .int x5, .ref h6, .ref h7, .int x8, .int x9, .int x10, .ref h11, .ref h12, .int x13, .int x14, .int x15, .int x16, .int x17])), (h11, .inl (cI, 4, .inl f18)), (h6, .inl (cI, 28, .inl f21))]) [0, 1, 2] rfl) (hD.sub (ws' := [(h0, .inr (0, [.int x4, .int x5, .ref h6, .ref h7, .int x8, .int x9, .int x10, .ref h11, .ref h12, .int x13, .int x14, .int x15, .int x16, .int x17])), (h11, .inl (cI, 4, .inl f18)), (h6, .inl (cI, 28, .inl f21))]) [0, 1, 2] (by decide) rfl) hS (lv_sub hl [0, 1, 2, 3, 4, 5, 6] rfl)
          · have fc_25 : v_24.toInt = (0 : Int) := i_eq rfl (by decide) c_25
            refine lv_iconst (v := 0) hx hb dX0_closeRound_39 (by decide +kernel) ?_
            refine lv_istore (lv' := [(5, .int 0), (6, .int x_6), (4, .int x_4), (0, .ref h0), (1, .int x1), (2, .int x2), (3, .int x3)]) hx hb dX0_closeRound_40 hl (by decide) rfl (fun ls hl => ?_)
            refine lv_aload_n hx hb dX0_closeRound_42 rfl (lv_at hl 3 rfl) ?_
            refine lv_iload hx hb dX0_closeRound_43 (lv_at hl 1 rfl) ?_
            refine lv_iload_n hx hb dX0_closeRound_45 rfl (lv_at hl 5 rfl) ?_
            refine xc_core (wr := []) (k := 0) (n := 0) (xc_runV (As := [.int x_6, .int x2]) (rest := []) hx hb hml hown hts hG hE hP hD hS hA [0, 1, 2] (by decide) rfl (sX0_gainByGift_1 l D cB cI cJ cZ aK aV h0 x_6 x2 x4 x5 h6 h7 x8 x9 x10 h11 h12 x13 x14 x15 x16 x17 f18 v_18 x20 f21 (by omega) (by omega) (by omega) (by omega) (by omega) (by omega) (by omega) (by omega) (by omega) (by omega) (by omega) (by omega) (by omega) (by omega) (by omega) (by omega) (ga0.mono (by omega) (by omega) (by omega)) o_20 go1) kw1085 kw1082 kw1084 kw33 kw124 (show XD yX0_gainByGift 2 from by decide +kernel) (by decide) rfl rfl 0 rfl hl.1 rfl (Nat.le_of_ble_eq_true rfl) dX0_closeRound_46 (by decide)) hP hD hS hA [0, 1, 2] [] rfl rfl (by decide) (by decide) (Nat.le_of_ble_eq_true rfl) (Nat.le_of_ble_eq_true rfl) (fun r w1 H locs hpost hP hD hS => ?_)
            obtain ⟨v_27, rfl, rfl⟩ := hpost
            have hP : va_P D vwCl [(h0, .inr (0, [.int x4, .int x5, .ref h6, .ref h7, .int x8, .int x9, .int x10, .ref h11, .ref h12, .int x13, .int x14, .int x15, .int x16, .int x17])), (h11, .inl (cI, 4, .inl f18)), (h6, .inl (cI, 28, .inl f21))] H := hP
            have hD : va_D A [(h0, .inr (0, [.int x4, .int x5, .ref h6, .ref h7, .int x8, .int x9, .int x10, .ref h11, .ref h12, .int x13, .int x14, .int x15, .int x16, .int x17])), (h11, .inl (cI, 4, .inl f18)), (h6, .inl (cI, 28, .inl f21))] := hD
            refine lv_istore (lv' := [(7, .int v_27), (5, .int 0), (6, .int x_6), (4, .int x_4), (0, .ref h0), (1, .int x1), (2, .int x2), (3, .int x3)]) hx hb dX0_closeRound_49 hl (by decide) rfl (fun ls hl => ?_)
            refine lv_iload hx hb dX0_closeRound_51 (lv_at hl 0 rfl) ?_
            refine lv_if_ge (tgt := 61) hx hb dX0_closeRound_53 (by decide) (fun c_28 => ?_) (fun c_28 => ?_)
            · have fc_28 : (0 : Int) ≤ v_27.toInt := i_le (by decide) rfl c_28
              refine lv_aload_n hx hb dX0_closeRound_61 rfl (lv_at hl 4 rfl) ?_
              refine lv_iload_n hx hb dX0_closeRound_62 rfl (lv_at hl 5 rfl) ?_
              refine lv_iload hx hb dX0_closeRound_63 (lv_at hl 2 rfl) ?_
              refine lv_iload_n hx hb dX0_closeRound_65 rfl (lv_at hl 7 rfl) ?_
              refine lv_iconst (v := 1) hx hb dX0_closeRound_66 (by decide +kernel) ?_
              refine lv_iload hx hb dX0_closeRound_67 (lv_at hl 2 rfl) ?_
              refine lv_ishl hx hb dX0_closeRound_69 ?_
              refine lv_topi (fun v_29 ev_29 => ?_)
              have gv_29 : 1 ≤ v_29.toInt ∧ v_29.toInt ≤ 64 := by rw [ev_29]; exact i32_shl1 (by omega) (by omega)
              refine lv_ior hx hb dX0_closeRound_70 ?_
              refine lv_topi (fun v_30 ev_30 => ?_)
              have gv_30 : 0 ≤ v_30.toInt ∧ v_30.toInt ≤ 127 := by rw [ev_30]; exact i32_or (by omega) (by omega) (by omega) (by omega)
              have o_31 : BC (v_30.toInt) (2) := bc_or go2 ev_23 ev_24 (by omega) ev_29 ev_30 (by omega) (by omega)
              have g_32 := bc_le o_31
              refine xc_core (wr := []) (k := 0) (n := 0) (xc_runV (As := [.int x1, .int x_6, .int v_30]) (rest := []) hx hb hml hown hts hG hE hP hD hS hA [0, 1, 2] (by decide) rfl (sX0_closeRound_3 l D cB cI cJ cZ aK aV h0 x1 x_6 v_30 x4 x5 h6 h7 x8 x9 x10 h11 h12 x13 x14 x15 x16 x17 f18 x19 v_18 f21 (by omega) (by omega) (by omega) (by omega) (by omega) (by omega) (by omega) (by omega) (by omega) (by omega) (by omega) (by omega) (by omega) (by omega) (by omega) (by omega) (by omega) (by omega) (ga0.mono (by omega) (by omega) (by omega)) go0 o_20 o_31) kw1081 kw1078 kw1080 kw32 kw124 (show XD yX0_closeRound 3 from by decide +kernel) (by decide) rfl rfl 0 rfl hl.1 rfl (Nat.le_of_ble_eq_true rfl) dX0_closeRound_71 (by decide)) hP hD hS hA [0, 1, 2] [] rfl rfl (by decide) (by decide) (Nat.le_of_ble_eq_true rfl) (Nat.le_of_ble_eq_true rfl) (fun r w1 H locs hpost hP hD hS => ?_)
              obtain ⟨v_33, g_34, rfl, rfl⟩ := hpost
              have hP : va_P D vwCl [(h0, .inr (0, [.int x4, .int x5, .ref h6, .ref h7, .int x8, .int x9, .int x10, .ref h11, .ref h12, .int x13, .int x14, .int x15, .int x16, .int x17])), (h11, .inl (cI, 4, .inl f18)), (h6, .inl (cI, 28, .inl f21))] H := hP
              have hD : va_D A [(h0, .inr (0, [.int x4, .int x5, .ref h6, .ref h7, .int x8, .int x9, .int x10, .ref h11, .ref h12, .int x13, .int x14, .int x15, .int x16, .int x17])), (h11, .inl (cI, 4, .inl f18)), (h6, .inl (cI, 28, .inl f21))] := hD
              refine lv_istore (lv' := [(8, .int v_33), (7, .int v_27), (5, .int 0), (6, .int x_6), (4, .int x_4), (0, .ref h0), (1, .int x1), (2, .int x2), (3, .int x3)]) hx hb dX0_closeRound_74 hl (by decide) rfl (fun ls hl => ?_)
              refine lv_iload hx hb dX0_closeRound_76 (lv_at hl 0 rfl) ?_
              refine lv_ldc (v := (-1000000000)) hx hb hown (hts _ kw1069) dX0_closeRound_78 ?_
              refine lv_icmp_eq (tgt := 95) hx hb dX0_closeRound_80 (by decide) (fun c_35 => ?_) (fun c_35 => ?_)
              · have fc_35 : v_33.toInt = ((-1000000000) : Int) := i_eq rfl (by decide) c_35
                obtain ⟨v_36, ev_36⟩ : ∃ y : Int32, y = x_6 + 1 := ⟨_, rfl⟩
                have gv_36 : v_36.toInt = x_6.toInt + 1 := by
                  have zy : (1 : Int32).toInt = 1 := by decide
                  rw [ev_36, i32_add (by rw [zy]; omega) (by rw [zy]; omega), zy]
                refine lv_iinc (v := v_36) (lv' := [(6, .int v_36), (8, .int v_33), (7, .int v_27), (5, .int 0), (4, .int x_4), (0, .ref h0), (1, .int x1), (2, .int x2), (3, .int x3)]) hx hb dX0_closeRound_95 hl (k := 3) rfl (by rw [ev_36]; rfl) (by decide) rfl (fun ls hl => ?_)
                refine lv_goto (tgt := 10) hx hb dX0_closeRound_98 (by decide) ?_
                exact ihlp_7  x_4 0 v_36 _ _ _ (by have zc0 : (0 : Int32).toInt = 0 := (by decide); omega) (by have zc0 : (0 : Int32).toInt = 0 := (by decide); omega) (by have zc0 : (0 : Int32).toInt = 0 := (by decide); omega) (by have zc0 : (0 : Int32).toInt = 0 := (by decide); omega) (by have zc0 : (0 : Int32).toInt = 0 := (by decide); omega) (by have zc0 : (0 : Int32).toInt = 0 := (by decide); omega) (hP.sub (ws' := [(h0, .inr (0, [.int x4, .int x5, .ref h6, .ref h7, .int x8, .int x9, .int x10, .ref h11, .ref h12, .int x13, .int x14, .int x15, .int x16, .int x17])), (h11, .inl (cI, 4, .inl f18)), (h6, .inl (cI, 28, .inl f21))]) [0, 1, 2] rfl) (hD.sub (ws' := [(h0, .inr (0, [.int x4, .int x5, .ref h6, .ref h7, .int x8, .int x9, .int x10, .ref h11, .ref h12, .int x13, .int x14, .int x15, .int x16, .int x17])), (h11, .inl (cI, 4, .inl f18)), (h6, .inl (cI, 28, .inl f21))]) [0, 1, 2] (by decide) rfl) hS (lv_sub hl [0, 3, 4, 5, 6, 7, 8] rfl)
              · have fc_35 : v_33.toInt ≠ ((-1000000000) : Int) := i_ne rfl (by decide) c_35
                refine lv_iload hx hb dX0_closeRound_83 (lv_at hl 4 rfl) ?_
                refine lv_iload hx hb dX0_closeRound_85 (lv_at hl 1 rfl) ?_
                refine lv_iload hx hb dX0_closeRound_87 (lv_at hl 0 rfl) ?_
                refine lv_iadd hx hb dX0_closeRound_89 ?_
                refine xt_any (fun v_37 => ?_)
                refine va_mmax hx hb (hml.trans hl.1.symm) hown (hts _ kw1086) (hts _ kw683) (hts _ kw128) (hts _ kw684) (Nat.le_of_ble_eq_true rfl) (Nat.le_of_ble_eq_true rfl) (Nat.le_of_ble_eq_true rfl) (Nat.le_of_ble_eq_true rfl) dX0_closeRound_90 ?_
                refine lv_topi (fun v_38 ev_38 => ?_)
                have g_39 := i32_max rfl rfl ev_38
                refine lv_istore (lv' := [(4, .int v_38), (8, .int v_33), (7, .int v_27), (5, .int 0), (6, .int x_6), (0, .ref h0), (1, .int x1), (2, .int x2), (3, .int x3)]) hx hb dX0_closeRound_93 hl (by decide) rfl (fun ls hl => ?_)
                obtain ⟨v_40, ev_40⟩ : ∃ y : Int32, y = x_6 + 1 := ⟨_, rfl⟩
                have gv_40 : v_40.toInt = x_6.toInt + 1 := by
                  have zy : (1 : Int32).toInt = 1 := by decide
                  rw [ev_40, i32_add (by rw [zy]; omega) (by rw [zy]; omega), zy]
                refine lv_iinc (v := v_40) (lv' := [(6, .int v_40), (4, .int v_38), (8, .int v_33), (7, .int v_27), (5, .int 0), (0, .ref h0), (1, .int x1), (2, .int x2), (3, .int x3)]) hx hb dX0_closeRound_95 hl (k := 4) rfl (by rw [ev_40]; rfl) (by decide) rfl (fun ls hl => ?_)
                refine lv_goto (tgt := 10) hx hb dX0_closeRound_98 (by decide) ?_
                exact ihlp_7  v_38 0 v_40 _ _ _ (by have zc0 : (0 : Int32).toInt = 0 := (by decide); omega) (by have zc0 : (0 : Int32).toInt = 0 := (by decide); omega) (by have zc0 : (0 : Int32).toInt = 0 := (by decide); omega) (by have zc0 : (0 : Int32).toInt = 0 := (by decide); omega) (by have zc0 : (0 : Int32).toInt = 0 := (by decide); omega) (by have zc0 : (0 : Int32).toInt = 0 := (by decide); omega) (hP.sub (ws' := [(h0, .inr (0, [.int x4, .int x5, .ref h6, .ref h7, .int x8, .int x9, .int x10, .ref h11, .ref h12, .int x13, .int x14, .int x15, .int x16, .int x17])), (h11, .inl (cI, 4, .inl f18)), (h6, .inl (cI, 28, .inl f21))]) [0, 1, 2] rfl) (hD.sub (ws' := [(h0, .inr (0, [.int x4, .int x5, .ref h6, .ref h7, .int x8, .int x9, .int x10, .ref h11, .ref h12, .int x13, .int x14, .int x15, .int x16, .int x17])), (h11, .inl (cI, 4, .inl f18)), (h6, .inl (cI, 28, .inl f21))]) [0, 1, 2] (by decide) rfl) hS (lv_sub hl [0, 4, 1, 5, 6, 7, 8] rfl)
            · have fc_28 : v_27.toInt < (0 : Int) := i_nle (by decide) rfl c_28
              refine lv_ldc (v := (-1000000000)) hx hb hown (hts _ kw1069) dX0_closeRound_56 ?_
              refine lv_goto (tgt := 74) hx hb dX0_closeRound_58 (by decide) ?_
              refine lv_istore (lv' := [(8, .int (-1000000000)), (7, .int v_27), (5, .int 0), (6, .int x_6), (4, .int x_4), (0, .ref h0), (1, .int x1), (2, .int x2), (3, .int x3)]) hx hb dX0_closeRound_74 hl (by decide) rfl (fun ls hl => ?_)
              refine lv_iload hx hb dX0_closeRound_76 (lv_at hl 0 rfl) ?_
              refine lv_ldc (v := (-1000000000)) hx hb hown (hts _ kw1069) dX0_closeRound_78 ?_
              refine lv_icmp_eq (tgt := 95) hx hb dX0_closeRound_80 (by decide) (fun _ => ?_) (fun h => absurd h (by decide +kernel))
              obtain ⟨v_41, ev_41⟩ : ∃ y : Int32, y = x_6 + 1 := ⟨_, rfl⟩
              have gv_41 : v_41.toInt = x_6.toInt + 1 := by
                have zy : (1 : Int32).toInt = 1 := by decide
                rw [ev_41, i32_add (by rw [zy]; omega) (by rw [zy]; omega), zy]
              refine lv_iinc (v := v_41) (lv' := [(6, .int v_41), (8, .int (-1000000000)), (7, .int v_27), (5, .int 0), (4, .int x_4), (0, .ref h0), (1, .int x1), (2, .int x2), (3, .int x3)]) hx hb dX0_closeRound_95 hl (k := 3) rfl (by rw [ev_41]; rfl) (by decide) rfl (fun ls hl => ?_)
              refine lv_goto (tgt := 10) hx hb dX0_closeRound_98 (by decide) ?_
              exact ihlp_7  x_4 0 v_41 _ _ _ (by have zc0 : (0 : Int32).toInt = 0 := (by decide); omega) (by have zc0 : (0 : Int32).toInt = 0 := (by decide); omega) (by have zc0 : (0 : Int32).toInt = 0 := (by decide); omega) (by have zc0 : (0 : Int32).toInt = 0 := (by decide); omega) (by have zc0 : (0 : Int32).toInt = 0 := (by decide); omega) (by have zc0 : (0 : Int32).toInt = 0 := (by decide); omega) (hP.sub (ws' := [(h0, .inr (0, [.int x4, .int x5, .ref h6, .ref h7, .int x8, .int x9, .int x10, .ref h11, .ref h12, .int x13, .int x14, .int x15, .int x16, .int x17])), (h11, .inl (cI, 4, .inl f18)), (h6, .inl (cI, 28, .inl f21))]) [0, 1, 2] rfl) (hD.sub (ws' := [(h0, .inr (0, [.int x4, .int x5, .ref h6, .ref h7, .int x8, .int x9, .int x10, .ref h11, .ref h12, .int x13, .int x14, .int x15, .int x16, .int x17])), (h11, .inl (cI, 4, .inl f18)), (h6, .inl (cI, 28, .inl f21))]) [0, 1, 2] (by decide) rfl) hS (lv_sub hl [0, 3, 4, 5, 6, 7, 8] rfl)
  exact lp_7 6 (-1000000000) 1 0 _ _ _ (by have zcm1000000000 : ((-1000000000) : Int32).toInt = (-1000000000) := (by decide); have zc0 : (0 : Int32).toInt = 0 := (by decide); have zc1 : (1 : Int32).toInt = 1 := (by decide); omega) (by have zcm1000000000 : ((-1000000000) : Int32).toInt = (-1000000000) := (by decide); have zc0 : (0 : Int32).toInt = 0 := (by decide); have zc1 : (1 : Int32).toInt = 1 := (by decide); omega) (by have zcm1000000000 : ((-1000000000) : Int32).toInt = (-1000000000) := (by decide); have zc0 : (0 : Int32).toInt = 0 := (by decide); have zc1 : (1 : Int32).toInt = 1 := (by decide); omega) (by have zcm1000000000 : ((-1000000000) : Int32).toInt = (-1000000000) := (by decide); have zc0 : (0 : Int32).toInt = 0 := (by decide); have zc1 : (1 : Int32).toInt = 1 := (by decide); omega) (by have zcm1000000000 : ((-1000000000) : Int32).toInt = (-1000000000) := (by decide); have zc0 : (0 : Int32).toInt = 0 := (by decide); have zc1 : (1 : Int32).toInt = 1 := (by decide); omega) (by have zcm1000000000 : ((-1000000000) : Int32).toInt = (-1000000000) := (by decide); have zc0 : (0 : Int32).toInt = 0 := (by decide); have zc1 : (1 : Int32).toInt = 1 := (by decide); omega) (hP.sub (ws' := [(h0, .inr (0, [.int x4, .int x5, .ref h6, .ref h7, .int x8, .int x9, .int x10, .ref h11, .ref h12, .int x13, .int x14, .int x15, .int x16, .int x17])), (h11, .inl (cI, 4, .inl f18)), (h6, .inl (cI, 28, .inl f21))]) [0, 1, 2] rfl) (hD.sub (ws' := [(h0, .inr (0, [.int x4, .int x5, .ref h6, .ref h7, .int x8, .int x9, .int x10, .ref h11, .ref h12, .int x13, .int x14, .int x15, .int x16, .int x17])), (h11, .inl (cI, 4, .inl f18)), (h6, .inl (cI, 28, .inl f21))]) [0, 1, 2] (by decide) rfl) hS (lv_sub hl [0, 1, 2, 3, 4, 5, 6] rfl)
theorem dX0_tryGifts_0 : decode cX0_tryGifts 0 = .ok (.iconst 0, 1) := by decide +kernel
theorem dX0_tryGifts_1 : decode cX0_tryGifts 1 = .ok (.istore_n 2, 1) := by decide +kernel
theorem dX0_tryGifts_2 : decode cX0_tryGifts 2 = .ok (.aload_n 0, 1) := by decide +kernel
theorem dX0_tryGifts_3 : decode cX0_tryGifts 3 = .ok (.getfield 36, 3) := by decide +kernel
theorem dX0_tryGifts_6 : decode cX0_tryGifts 6 = .ok (.iconst 1, 1) := by decide +kernel
theorem dX0_tryGifts_7 : decode cX0_tryGifts 7 = .ok (.isub, 1) := by decide +kernel
theorem dX0_tryGifts_8 : decode cX0_tryGifts 8 = .ok (.istore_n 3, 1) := by decide +kernel
theorem dX0_tryGifts_9 : decode cX0_tryGifts 9 = .ok (.iload_n 3, 1) := by decide +kernel
theorem dX0_tryGifts_10 : decode cX0_tryGifts 10 = .ok (.ifCond .lt 21, 3) := by decide +kernel
theorem dX0_tryGifts_31 : decode cX0_tryGifts 31 = .ok (.aload_n 0, 1) := by decide +kernel
theorem dX0_tryGifts_32 : decode cX0_tryGifts 32 = .ok (.iload_n 2, 1) := by decide +kernel
theorem dX0_tryGifts_33 : decode cX0_tryGifts 33 = .ok (.iload_n 2, 1) := by decide +kernel
theorem dX0_tryGifts_34 : decode cX0_tryGifts 34 = .ok (.iconst 1, 1) := by decide +kernel
theorem dX0_tryGifts_35 : decode cX0_tryGifts 35 = .ok (.iload_n 2, 1) := by decide +kernel
theorem dX0_tryGifts_36 : decode cX0_tryGifts 36 = .ok (.ishl, 1) := by decide +kernel
theorem dX0_tryGifts_37 : decode cX0_tryGifts 37 = .ok (.invokevirtual 86, 3) := by decide +kernel
theorem dX0_tryGifts_40 : decode cX0_tryGifts 40 = .ok (.istore_n 3, 1) := by decide +kernel
theorem dX0_tryGifts_41 : decode cX0_tryGifts 41 = .ok (.iload_n 3, 1) := by decide +kernel
theorem dX0_tryGifts_42 : decode cX0_tryGifts 42 = .ok (.ldc 71, 2) := by decide +kernel
theorem dX0_tryGifts_44 : decode cX0_tryGifts 44 = .ok (.if_icmp .eq 27, 3) := by decide +kernel
theorem dX0_tryGifts_71 : decode cX0_tryGifts 71 = .ok (.return_, 1) := by decide +kernel
theorem dX0_tryGifts_47 : decode cX0_tryGifts 47 = .ok (.iload_n 3, 1) := by decide +kernel
theorem dX0_tryGifts_48 : decode cX0_tryGifts 48 = .ok (.aload_n 0, 1) := by decide +kernel
theorem kw503 : (.fieldLink RX0 72 "SpiceSwaps$Bargains" "ringGains" "I" : Cond) ∈ gT := gT_of 503 (by decide +kernel) (by decide +kernel)
theorem dX0_tryGifts_49 : decode cX0_tryGifts 49 = .ok (.getfield 72, 3) := by decide +kernel
theorem dX0_tryGifts_52 : decode cX0_tryGifts 52 = .ok (.if_icmp .lt 19, 3) := by decide +kernel
theorem dX0_tryGifts_55 : decode cX0_tryGifts 55 = .ok (.iload_n 3, 1) := by decide +kernel
theorem dX0_tryGifts_56 : decode cX0_tryGifts 56 = .ok (.aload_n 0, 1) := by decide +kernel
theorem dX0_tryGifts_57 : decode cX0_tryGifts 57 = .ok (.getfield 72, 3) := by decide +kernel
theorem dX0_tryGifts_60 : decode cX0_tryGifts 60 = .ok (.if_icmp .ne 12, 3) := by decide +kernel
theorem dX0_tryGifts_72 : decode cX0_tryGifts 72 = .ok (.aload_n 0, 1) := by decide +kernel
theorem dX0_tryGifts_73 : decode cX0_tryGifts 73 = .ok (.iload_n 3, 1) := by decide +kernel
theorem dX0_tryGifts_74 : decode cX0_tryGifts 74 = .ok (.putfield 72, 3) := by decide +kernel
theorem dX0_tryGifts_77 : decode cX0_tryGifts 77 = .ok (.aload_n 0, 1) := by decide +kernel
theorem dX0_tryGifts_78 : decode cX0_tryGifts 78 = .ok (.iload_n 1, 1) := by decide +kernel
theorem kw504 : (.fieldLink RX0 75 "SpiceSwaps$Bargains" "ringSize" "I" : Cond) ∈ gT := gT_of 504 (by decide +kernel) (by decide +kernel)
theorem dX0_tryGifts_79 : decode cX0_tryGifts 79 = .ok (.putfield 75, 3) := by decide +kernel
theorem dX0_tryGifts_82 : decode cX0_tryGifts 82 = .ok (.aload_n 0, 1) := by decide +kernel
theorem dX0_tryGifts_83 : decode cX0_tryGifts 83 = .ok (.getfield 18, 3) := by decide +kernel
theorem dX0_tryGifts_86 : decode cX0_tryGifts 86 = .ok (.iconst 0, 1) := by decide +kernel
theorem dX0_tryGifts_87 : decode cX0_tryGifts 87 = .ok (.aload_n 0, 1) := by decide +kernel
theorem kw501 : (.fieldLink RX0 21 "SpiceSwaps$Bargains" "ringGifts" "[I" : Cond) ∈ gT := gT_of 501 (by decide +kernel) (by decide +kernel)
theorem dX0_tryGifts_88 : decode cX0_tryGifts 88 = .ok (.getfield 21, 3) := by decide +kernel
theorem dX0_tryGifts_91 : decode cX0_tryGifts 91 = .ok (.iconst 0, 1) := by decide +kernel
theorem dX0_tryGifts_92 : decode cX0_tryGifts 92 = .ok (.iconst 4, 1) := by decide +kernel
theorem kw1087 : (.methodLink RX0 90 arraycopyName : Cond) ∈ gT := gT_of 1087 (by decide +kernel) (by decide +kernel)
theorem dX0_tryGifts_93 : decode cX0_tryGifts 93 = .ok (.invokestatic 90, 3) := by decide +kernel
theorem dX0_tryGifts_96 : decode cX0_tryGifts 96 = .ok (.return_, 1) := by decide +kernel
theorem dX0_tryGifts_63 : decode cX0_tryGifts 63 = .ok (.iload_n 1, 1) := by decide +kernel
theorem dX0_tryGifts_64 : decode cX0_tryGifts 64 = .ok (.aload_n 0, 1) := by decide +kernel
theorem dX0_tryGifts_65 : decode cX0_tryGifts 65 = .ok (.getfield 75, 3) := by decide +kernel
theorem dX0_tryGifts_68 : decode cX0_tryGifts 68 = .ok (.if_icmp .lt 4, 3) := by decide +kernel
theorem dX0_tryGifts_13 : decode cX0_tryGifts 13 = .ok (.aload_n 0, 1) := by decide +kernel
theorem dX0_tryGifts_14 : decode cX0_tryGifts 14 = .ok (.getfield 18, 3) := by decide +kernel
theorem dX0_tryGifts_17 : decode cX0_tryGifts 17 = .ok (.iload_n 3, 1) := by decide +kernel
theorem dX0_tryGifts_18 : decode cX0_tryGifts 18 = .ok (.iaload, 1) := by decide +kernel
theorem dX0_tryGifts_19 : decode cX0_tryGifts 19 = .ok (.iconst (-1), 1) := by decide +kernel
theorem dX0_tryGifts_20 : decode cX0_tryGifts 20 = .ok (.if_icmp .eq 5, 3) := by decide +kernel
theorem dX0_tryGifts_25 : decode cX0_tryGifts 25 = .ok (.iinc 3 (-1), 3) := by decide +kernel
theorem dX0_tryGifts_28 : decode cX0_tryGifts 28 = .ok (.goto (-19), 3) := by decide +kernel
theorem dX0_tryGifts_23 : decode cX0_tryGifts 23 = .ok (.iload_n 3, 1) := by decide +kernel
theorem dX0_tryGifts_24 : decode cX0_tryGifts 24 = .ok (.istore_n 2, 1) := by decide +kernel
set_option maxHeartbeats 4000000 in
set_option maxRecDepth 100000 in
theorem sX0_tryGifts_1 (l : Launch) (D : va_G) (cB cI cJ cZ : ClassId) (aK aV : Nat → Nat) (h0 : Nat) (x1 : Int32) (x2 : Int32) (x3 : Int32) (h4 : Nat) (h5 : Nat) (x6 : Int32) (x7 : Int32) (x8 : Int32) (h9 : Nat) (h10 : Nat) (x11 : Int32) (x12 : Int32) (x13 : Int32) (x14 : Int32) (x15 : Int32) (f16 : Nat → Int32) (f17 : Nat → Int32) (f18 : Nat → Int32) (gh0 : 0 ≤ x2.toInt) (gh1 : 0 ≤ -x2.toInt + 4) (gh2 : 0 ≤ x3.toInt) (gh3 : 0 ≤ -x3.toInt + 7) (gh4 : 0 ≤ x7.toInt) (gh5 : 0 ≤ -x7.toInt + 6) (gh6 : 0 ≤ x8.toInt) (gh7 : 0 ≤ -x8.toInt + 6) (ga0 : AR f16 (-1) (6) (4)) (go0 : EG f16 (x2.toInt)) : MX l yX0_tryGifts cX0_tryGifts 4 none (rmL 7 0 0) D cB cI cJ cZ aK aV [.ref h0, .int x1] [(h0, .inr (0, [.int x2, .int x3, .ref h4, .ref h5, .int x6, .int x7, .int x8, .ref h9, .ref h10, .int x11, .int x12, .int x13, .int x14, .int x15])), (h9, .inl (cI, 4, .inl f16)), (h4, .inl (cI, 28, .inl f17)), (h10, .inl (cI, 4, .inl f18))] (fun r w1 => ∃ z1 : Int32, ∃ z2 : Int32, ∃ z3 : Nat → Int32, r = none ∧ w1 = [(h0, .inr (0, [.int x2, .int x3, .ref h4, .ref h5, .int x6, .int x7, .int x8, .ref h9, .ref h10, .int z1, .int z2, .int x13, .int x14, .int x15])), (h9, .inl (cI, 4, .inl f16)), (h4, .inl (cI, 28, .inl f17)), (h10, .inl (cI, 4, .inl z3))]) := by
  refine MX.intro (by decide) (Nat.le_of_ble_eq_true rfl) ?_
  intro p e s m below meth c A ls hx hb hr hml hown hlocks hnm hts hG hE hA hS hP hD hl hAe
  have hl : lv_has ls 4 [(0, .ref h0), (1, .int x1)] := hl
  have hown : s.vm.findClass RX0 = some m.cls := hown
  refine lv_iconst (v := 0) hx hb dX0_tryGifts_0 (by decide +kernel) ?_
  refine lv_istore_n (lv' := [(2, .int 0), (0, .ref h0), (1, .int x1)]) hx hb dX0_tryGifts_1 rfl hl (by decide) rfl (fun ls hl => ?_)
  refine lv_aload_n hx hb dX0_tryGifts_2 rfl (lv_at hl 1 rfl) ?_
  refine va_get (D := D) (ci := 0) (v := .int x2) (C := RX0) (T := TX0) (N := 14) hx hb hts inX0 hown hG.1 hP 0 rfl rfl 0 (by decide) (hts _ kw489) (fun _ h9 => h9) rfl dX0_tryGifts_3 ?_
  refine lv_iconst (v := 1) hx hb dX0_tryGifts_6 (by decide +kernel) ?_
  refine lv_isub hx hb dX0_tryGifts_7 ?_
  refine lv_topi (fun v_1 ev_1 => ?_)
  have gv_1 : v_1.toInt = x2.toInt - (1 : Int) := by
    have zx : (x2 : Int32).toInt = x2.toInt := rfl
    have zy : (1 : Int32).toInt = (1 : Int) := (by decide)
    rw [ev_1, i32_sub (by rw [zx, zy]; omega) (by rw [zx, zy]; omega), zx, zy]
  refine lv_istore_n (lv' := [(3, .int v_1), (2, .int 0), (0, .ref h0), (1, .int x1)]) hx hb dX0_tryGifts_8 rfl hl (by decide) rfl (fun ls hl => ?_)
  have lp_6 : ∀ (n : Nat) (x_4 x_5 : Int32) (H : Heap) (locs : List Loc) (ls : Array Slot), 0 ≤ x_4.toInt → 0 ≤ -x_4.toInt + 3 → 0 ≤ x2.toInt - x_4.toInt → 0 ≤ x_5.toInt + 1 → 0 ≤ v_1.toInt - x_5.toInt → TG f16 (x_5.toInt) (x_4.toInt) (x2.toInt) → x_5.toInt + 1 < n → va_P D vwCl [(h0, .inr (0, [.int x2, .int x3, .ref h4, .ref h5, .int x6, .int x7, .int x8, .ref h9, .ref h10, .int x11, .int x12, .int x13, .int x14, .int x15])), (h9, .inl (cI, 4, .inl f16)), (h4, .inl (cI, 28, .inl f17)), (h10, .inl (cI, 4, .inl f18))] H → va_D A [(h0, .inr (0, [.int x2, .int x3, .ref h4, .ref h5, .int x6, .int x7, .int x8, .ref h9, .ref h10, .int x11, .int x12, .int x13, .int x14, .int x15])), (h9, .inl (cI, 4, .inl f16)), (h4, .inl (cI, 28, .inl f17)), (h10, .inl (cI, 4, .inl f18))] → va_S A s.heap H locs → lv_has ls 4 [(3, .int x_5), (2, .int x_4), (0, .ref h0), (1, .int x1)] → W p l e (rmL 7 0 0) s m [.ref h0, .int x1].toArray below meth c H locs 0 0 (ZX D below [.ref h0, .int x1] s (rmL 7 0 0) [(h0, .inr (0, [.int x2, .int x3, .ref h4, .ref h5, .int x6, .int x7, .int x8, .ref h9, .ref h10, .int x11, .int x12, .int x13, .int x14, .int x15])), (h9, .inl (cI, 4, .inl f16)), (h4, .inl (cI, 28, .inl f17)), (h10, .inl (cI, 4, .inl f18))] (fun r w1 => ∃ z1 : Int32, ∃ z2 : Int32, ∃ z3 : Nat → Int32, r = none ∧ w1 = [(h0, .inr (0, [.int x2, .int x3, .ref h4, .ref h5, .int x6, .int x7, .int x8, .ref h9, .ref h10, .int z1, .int z2, .int x13, .int x14, .int x15])), (h9, .inl (cI, 4, .inl f16)), (h4, .inl (cI, 28, .inl f17)), (h10, .inl (cI, 4, .inl z3))])) (F0 m 9 ls []) := by
    intro n
    induction n with
    | zero => intro x_4 x_5 H locs ls g_7 g_8 g_9 g_10 g_11 g_12 g_13; omega
    | succ n ihlp_6 =>
      intro x_4 x_5 H locs ls g_7 g_8 g_9 g_10 g_11 g_12 g_13 hP hD hS hl
      refine lv_iload_n hx hb dX0_tryGifts_9 rfl (lv_at hl 0 rfl) ?_
      refine lv_if_lt (tgt := 31) hx hb dX0_tryGifts_10 (by decide) (fun c_14 => ?_) (fun c_14 => ?_)
      · have fc_14 : x_5.toInt < (0 : Int) := i_lt rfl (by decide) c_14
        obtain ⟨v_15, o_16, g_17⟩ := tg_end g_12 go0 (by omega)
        have g_18 := pt_ar o_16 ga0 (by omega) (by omega)
        refine lv_aload_n hx hb dX0_tryGifts_31 rfl (lv_at hl 2 rfl) ?_
        refine lv_iload_n hx hb dX0_tryGifts_32 rfl (lv_at hl 1 rfl) ?_
        refine lv_iload_n hx hb dX0_tryGifts_33 rfl (lv_at hl 1 rfl) ?_
        refine lv_iconst (v := 1) hx hb dX0_tryGifts_34 (by decide +kernel) ?_
        refine lv_iload_n hx hb dX0_tryGifts_35 rfl (lv_at hl 1 rfl) ?_
        refine lv_ishl hx hb dX0_tryGifts_36 ?_
        refine lv_topi (fun v_19 ev_19 => ?_)
        have gv_19 : 1 ≤ v_19.toInt ∧ v_19.toInt ≤ 64 := by rw [ev_19]; exact i32_shl1 (by omega) (by omega)
        have o_20 : BC (v_19.toInt) (1) := bc_one ev_19 (by omega) (by omega)
        have g_21 := bc_le o_20
        refine xc_core (wr := [(h10, .inl (cI, 4, .inl f18))]) (k := 0) (n := 0) (xc_runV (As := [.int x_4, .int x_4, .int v_19]) (rest := []) hx hb hml hown hts hG hE hP hD hS hA [0, 1, 2] (by decide) rfl (sX0_closeRound_4 l D cB cI cJ cZ aK aV h0 x_4 x_4 v_19 x2 x3 h4 h5 x6 x7 x8 h9 h10 x11 x12 x13 x14 x15 f16 v_15 v_15 f17 (by omega) (by omega) (by omega) (by omega) (by omega) (by omega) (by omega) (by omega) (by omega) (by omega) (by omega) (by omega) (by omega) (by omega) (by omega) (by omega) (by omega) (by omega) (ga0.mono (by omega) (by omega) (by omega)) o_16 o_16 o_20) kw1081 kw1078 kw1080 kw32 kw124 (show XD yX0_closeRound 3 from by decide +kernel) (by decide) rfl rfl 0 rfl hl.1 rfl (Nat.le_of_ble_eq_true rfl) dX0_tryGifts_37 (by decide)) hP hD hS hA [0, 1, 2] [3] rfl rfl (by decide) (by decide) (Nat.le_of_ble_eq_true rfl) (Nat.le_of_ble_eq_true rfl) (fun r w1 H locs hpost hP hD hS => ?_)
        obtain ⟨v_22, g_23, rfl, rfl⟩ := hpost
        have hP : va_P D vwCl [(h10, .inl (cI, 4, .inl f18)), (h0, .inr (0, [.int x2, .int x3, .ref h4, .ref h5, .int x6, .int x7, .int x8, .ref h9, .ref h10, .int x11, .int x12, .int x13, .int x14, .int x15])), (h9, .inl (cI, 4, .inl f16)), (h4, .inl (cI, 28, .inl f17))] H := hP
        have hD : va_D A [(h10, .inl (cI, 4, .inl f18)), (h0, .inr (0, [.int x2, .int x3, .ref h4, .ref h5, .int x6, .int x7, .int x8, .ref h9, .ref h10, .int x11, .int x12, .int x13, .int x14, .int x15])), (h9, .inl (cI, 4, .inl f16)), (h4, .inl (cI, 28, .inl f17))] := hD
        refine lv_istore_n (lv' := [(3, .int v_22), (2, .int x_4), (0, .ref h0), (1, .int x1)]) hx hb dX0_tryGifts_40 rfl hl (by decide) rfl (fun ls hl => ?_)
        refine lv_iload_n hx hb dX0_tryGifts_41 rfl (lv_at hl 0 rfl) ?_
        refine lv_ldc (v := (-1000000000)) hx hb hown (hts _ kw1069) dX0_tryGifts_42 ?_
        refine lv_icmp_eq (tgt := 71) hx hb dX0_tryGifts_44 (by decide) (fun c_24 => ?_) (fun c_24 => ?_)
        · have fc_24 : v_22.toInt = ((-1000000000) : Int) := i_eq rfl (by decide) c_24
          have hP9 := hP.sub (ws' := [(h0, .inr (0, [.int x2, .int x3, .ref h4, .ref h5, .int x6, .int x7, .int x8, .ref h9, .ref h10, .int x11, .int x12, .int x13, .int x14, .int x15])), (h9, .inl (cI, 4, .inl f16)), (h4, .inl (cI, 28, .inl f17)), (h10, .inl (cI, 4, .inl f18))]) [1, 2, 3, 0] rfl
          have hD9 := hD.sub (ws' := [(h0, .inr (0, [.int x2, .int x3, .ref h4, .ref h5, .int x6, .int x7, .int x8, .ref h9, .ref h10, .int x11, .int x12, .int x13, .int x14, .int x15])), (h9, .inl (cI, 4, .inl f16)), (h4, .inl (cI, 28, .inl f17)), (h10, .inl (cI, 4, .inl f18))]) [1, 2, 3, 0] (by decide) rfl
          exact xr_v (rm := (rmL 7 0 0)) hx hb hr hlocks hAe hS hP9 hD9 (Nat.le_of_ble_eq_true rfl) (Nat.le_of_ble_eq_true rfl) dX0_tryGifts_71 ⟨x11, x12, f18, rfl, rfl⟩
        · have fc_24 : v_22.toInt ≠ ((-1000000000) : Int) := i_ne rfl (by decide) c_24
          refine lv_iload_n hx hb dX0_tryGifts_47 rfl (lv_at hl 0 rfl) ?_
          refine lv_aload_n hx hb dX0_tryGifts_48 rfl (lv_at hl 2 rfl) ?_
          refine va_get (D := D) (ci := 0) (v := .int x11) (C := RX0) (T := TX0) (N := 14) hx hb hts inX0 hown hG.1 hP 1 rfl rfl 9 (by decide) (hts _ kw503) (fun _ h9 => h9) rfl dX0_tryGifts_49 ?_
          refine lv_icmp_lt (tgt := 71) hx hb dX0_tryGifts_52 (by decide) (fun c_25 => ?_) (fun c_25 => ?_)
          · have fc_25 : v_22.toInt < x11.toInt := i_lt rfl rfl c_25
            have hP9 := hP.sub (ws' := [(h0, .inr (0, [.int x2, .int x3, .ref h4, .ref h5, .int x6, .int x7, .int x8, .ref h9, .ref h10, .int x11, .int x12, .int x13, .int x14, .int x15])), (h9, .inl (cI, 4, .inl f16)), (h4, .inl (cI, 28, .inl f17)), (h10, .inl (cI, 4, .inl f18))]) [1, 2, 3, 0] rfl
            have hD9 := hD.sub (ws' := [(h0, .inr (0, [.int x2, .int x3, .ref h4, .ref h5, .int x6, .int x7, .int x8, .ref h9, .ref h10, .int x11, .int x12, .int x13, .int x14, .int x15])), (h9, .inl (cI, 4, .inl f16)), (h4, .inl (cI, 28, .inl f17)), (h10, .inl (cI, 4, .inl f18))]) [1, 2, 3, 0] (by decide) rfl
            exact xr_v (rm := (rmL 7 0 0)) hx hb hr hlocks hAe hS hP9 hD9 (Nat.le_of_ble_eq_true rfl) (Nat.le_of_ble_eq_true rfl) dX0_tryGifts_71 ⟨x11, x12, f18, rfl, rfl⟩
          · have fc_25 : x11.toInt ≤ v_22.toInt := i_nlt rfl rfl c_25
            refine lv_iload_n hx hb dX0_tryGifts_55 rfl (lv_at hl 0 rfl) ?_
            refine lv_aload_n hx hb dX0_tryGifts_56 rfl (lv_at hl 2 rfl) ?_
            refine va_get (D := D) (ci := 0) (v := .int x11) (C := RX0) (T := TX0) (N := 14) hx hb hts inX0 hown hG.1 hP 1 rfl rfl 9 (by decide) (hts _ kw503) (fun _ h9 => h9) rfl dX0_tryGifts_57 ?_
            refine lv_icmp_ne (tgt := 72) hx hb dX0_tryGifts_60 (by decide) (fun c_26 => ?_) (fun c_26 => ?_)
            · have fc_26 : v_22.toInt ≠ x11.toInt := i_ne rfl rfl c_26
              refine lv_aload_n hx hb dX0_tryGifts_72 rfl (lv_at hl 2 rfl) ?_
              refine lv_iload_n hx hb dX0_tryGifts_73 rfl (lv_at hl 0 rfl) ?_
              refine va_put (D := D) (ci := 0) (v := .int v_22) (ty := .int) (C := RX0) (T := TX0) (N := 14) hx hb hts inX0 tyX0 tyX0_ok nmX0 hown hG.1 hP hD hS 1 rfl rfl 9 (by decide) (hts _ kw503) (fun _ h9 => h9) rfl (by decide +kernel) rfl rfl (Nat.le_of_ble_eq_true rfl) dX0_tryGifts_74 (fun H locs hP hD hS => ?_)
              have hP : va_P D vwCl [(h10, .inl (cI, 4, .inl f18)), (h0, .inr (0, [.int x2, .int x3, .ref h4, .ref h5, .int x6, .int x7, .int x8, .ref h9, .ref h10, .int v_22, .int x12, .int x13, .int x14, .int x15])), (h9, .inl (cI, 4, .inl f16)), (h4, .inl (cI, 28, .inl f17))] H := hP
              have hD : va_D A [(h10, .inl (cI, 4, .inl f18)), (h0, .inr (0, [.int x2, .int x3, .ref h4, .ref h5, .int x6, .int x7, .int x8, .ref h9, .ref h10, .int v_22, .int x12, .int x13, .int x14, .int x15])), (h9, .inl (cI, 4, .inl f16)), (h4, .inl (cI, 28, .inl f17))] := hD
              refine lv_aload_n hx hb dX0_tryGifts_77 rfl (lv_at hl 2 rfl) ?_
              refine lv_iload_n hx hb dX0_tryGifts_78 rfl (lv_at hl 3 rfl) ?_
              refine va_put (D := D) (ci := 0) (v := .int x1) (ty := .int) (C := RX0) (T := TX0) (N := 14) hx hb hts inX0 tyX0 tyX0_ok nmX0 hown hG.1 hP hD hS 1 rfl rfl 10 (by decide) (hts _ kw504) (fun _ h9 => h9) rfl (by decide +kernel) rfl rfl (Nat.le_of_ble_eq_true rfl) dX0_tryGifts_79 (fun H locs hP hD hS => ?_)
              have hP : va_P D vwCl [(h10, .inl (cI, 4, .inl f18)), (h0, .inr (0, [.int x2, .int x3, .ref h4, .ref h5, .int x6, .int x7, .int x8, .ref h9, .ref h10, .int v_22, .int x1, .int x13, .int x14, .int x15])), (h9, .inl (cI, 4, .inl f16)), (h4, .inl (cI, 28, .inl f17))] H := hP
              have hD : va_D A [(h10, .inl (cI, 4, .inl f18)), (h0, .inr (0, [.int x2, .int x3, .ref h4, .ref h5, .int x6, .int x7, .int x8, .ref h9, .ref h10, .int v_22, .int x1, .int x13, .int x14, .int x15])), (h9, .inl (cI, 4, .inl f16)), (h4, .inl (cI, 28, .inl f17))] := hD
              refine lv_aload_n hx hb dX0_tryGifts_82 rfl (lv_at hl 2 rfl) ?_
              refine va_get (D := D) (ci := 0) (v := .ref h9) (C := RX0) (T := TX0) (N := 14) hx hb hts inX0 hown hG.1 hP 1 rfl rfl 7 (by decide) (hts _ kw500) (fun _ h9 => h9) rfl dX0_tryGifts_83 ?_
              refine lv_iconst (v := 0) hx hb dX0_tryGifts_86 (by decide +kernel) ?_
              refine lv_aload_n hx hb dX0_tryGifts_87 rfl (lv_at hl 2 rfl) ?_
              refine va_get (D := D) (ci := 0) (v := .ref h10) (C := RX0) (T := TX0) (N := 14) hx hb hts inX0 hown hG.1 hP 1 rfl rfl 8 (by decide) (hts _ kw501) (fun _ h9 => h9) rfl dX0_tryGifts_88 ?_
              refine lv_iconst (v := 0) hx hb dX0_tryGifts_91 (by decide +kernel) ?_
              refine lv_iconst (v := 4) hx hb dX0_tryGifts_92 (by decide +kernel) ?_
              refine xa_cpyR (k := 4) hx hb hml hl.1 hown hts kw1087 kw424 kw423 kw122 hG hP hD hS 2 0 rfl rfl (by decide +kernel) (by decide +kernel) (by decide +kernel) (by decide +kernel) (by decide +kernel) (by decide +kernel) (by decide +kernel) (by decide +kernel) (Nat.le_of_ble_eq_true rfl) (Nat.le_of_ble_eq_true rfl) dX0_tryGifts_93 (fun f_27 H locs hu hP hD hS => ?_)
              have a_28 := hu _ _ _ (by omega) ga0
              have hP : va_P D vwCl [(h10, .inl (cI, 4, .inl f_27)), (h0, .inr (0, [.int x2, .int x3, .ref h4, .ref h5, .int x6, .int x7, .int x8, .ref h9, .ref h10, .int v_22, .int x1, .int x13, .int x14, .int x15])), (h9, .inl (cI, 4, .inl f16)), (h4, .inl (cI, 28, .inl f17))] H := hP
              have hD : va_D A [(h10, .inl (cI, 4, .inl f_27)), (h0, .inr (0, [.int x2, .int x3, .ref h4, .ref h5, .int x6, .int x7, .int x8, .ref h9, .ref h10, .int v_22, .int x1, .int x13, .int x14, .int x15])), (h9, .inl (cI, 4, .inl f16)), (h4, .inl (cI, 28, .inl f17))] := hD
              have hP9 := hP.sub (ws' := [(h0, .inr (0, [.int x2, .int x3, .ref h4, .ref h5, .int x6, .int x7, .int x8, .ref h9, .ref h10, .int v_22, .int x1, .int x13, .int x14, .int x15])), (h9, .inl (cI, 4, .inl f16)), (h4, .inl (cI, 28, .inl f17)), (h10, .inl (cI, 4, .inl f_27))]) [1, 2, 3, 0] rfl
              have hD9 := hD.sub (ws' := [(h0, .inr (0, [.int x2, .int x3, .ref h4, .ref h5, .int x6, .int x7, .int x8, .ref h9, .ref h10, .int v_22, .int x1, .int x13, .int x14, .int x15])), (h9, .inl (cI, 4, .inl f16)), (h4, .inl (cI, 28, .inl f17)), (h10, .inl (cI, 4, .inl f_27))]) [1, 2, 3, 0] (by decide) rfl
              exact xr_v (rm := (rmL 7 0 0)) hx hb hr hlocks hAe hS hP9 hD9 (Nat.le_of_ble_eq_true rfl) (Nat.le_of_ble_eq_true rfl) dX0_tryGifts_96 ⟨v_22, x1, f_27, rfl, rfl⟩
            · have fc_26 : v_22.toInt = x11.toInt := i_eq rfl rfl c_26
              refine lv_iload_n hx hb dX0_tryGifts_63 rfl (lv_at hl 3 rfl) ?_
              refine lv_aload_n hx hb dX0_tryGifts_64 rfl (lv_at hl 2 rfl) ?_
              refine va_get (D := D) (ci := 0) (v := .int x12) (C := RX0) (T := TX0) (N := 14) hx hb hts inX0 hown hG.1 hP 1 rfl rfl 10 (by decide) (hts _ kw504) (fun _ h9 => h9) rfl dX0_tryGifts_65 ?_
              refine lv_icmp_lt (tgt := 72) hx hb dX0_tryGifts_68 (by decide) (fun c_29 => ?_) (fun c_29 => ?_)
              · have fc_29 : x1.toInt < x12.toInt := i_lt rfl rfl c_29
                refine lv_aload_n hx hb dX0_tryGifts_72 rfl (lv_at hl 2 rfl) ?_
                refine lv_iload_n hx hb dX0_tryGifts_73 rfl (lv_at hl 0 rfl) ?_
                refine va_put (D := D) (ci := 0) (v := .int v_22) (ty := .int) (C := RX0) (T := TX0) (N := 14) hx hb hts inX0 tyX0 tyX0_ok nmX0 hown hG.1 hP hD hS 1 rfl rfl 9 (by decide) (hts _ kw503) (fun _ h9 => h9) rfl (by decide +kernel) rfl rfl (Nat.le_of_ble_eq_true rfl) dX0_tryGifts_74 (fun H locs hP hD hS => ?_)
                have hP : va_P D vwCl [(h10, .inl (cI, 4, .inl f18)), (h0, .inr (0, [.int x2, .int x3, .ref h4, .ref h5, .int x6, .int x7, .int x8, .ref h9, .ref h10, .int v_22, .int x12, .int x13, .int x14, .int x15])), (h9, .inl (cI, 4, .inl f16)), (h4, .inl (cI, 28, .inl f17))] H := hP
                have hD : va_D A [(h10, .inl (cI, 4, .inl f18)), (h0, .inr (0, [.int x2, .int x3, .ref h4, .ref h5, .int x6, .int x7, .int x8, .ref h9, .ref h10, .int v_22, .int x12, .int x13, .int x14, .int x15])), (h9, .inl (cI, 4, .inl f16)), (h4, .inl (cI, 28, .inl f17))] := hD
                refine lv_aload_n hx hb dX0_tryGifts_77 rfl (lv_at hl 2 rfl) ?_
                refine lv_iload_n hx hb dX0_tryGifts_78 rfl (lv_at hl 3 rfl) ?_
                refine va_put (D := D) (ci := 0) (v := .int x1) (ty := .int) (C := RX0) (T := TX0) (N := 14) hx hb hts inX0 tyX0 tyX0_ok nmX0 hown hG.1 hP hD hS 1 rfl rfl 10 (by decide) (hts _ kw504) (fun _ h9 => h9) rfl (by decide +kernel) rfl rfl (Nat.le_of_ble_eq_true rfl) dX0_tryGifts_79 (fun H locs hP hD hS => ?_)
                have hP : va_P D vwCl [(h10, .inl (cI, 4, .inl f18)), (h0, .inr (0, [.int x2, .int x3, .ref h4, .ref h5, .int x6, .int x7, .int x8, .ref h9, .ref h10, .int v_22, .int x1, .int x13, .int x14, .int x15])), (h9, .inl (cI, 4, .inl f16)), (h4, .inl (cI, 28, .inl f17))] H := hP
                have hD : va_D A [(h10, .inl (cI, 4, .inl f18)), (h0, .inr (0, [.int x2, .int x3, .ref h4, .ref h5, .int x6, .int x7, .int x8, .ref h9, .ref h10, .int v_22, .int x1, .int x13, .int x14, .int x15])), (h9, .inl (cI, 4, .inl f16)), (h4, .inl (cI, 28, .inl f17))] := hD
                refine lv_aload_n hx hb dX0_tryGifts_82 rfl (lv_at hl 2 rfl) ?_
                refine va_get (D := D) (ci := 0) (v := .ref h9) (C := RX0) (T := TX0) (N := 14) hx hb hts inX0 hown hG.1 hP 1 rfl rfl 7 (by decide) (hts _ kw500) (fun _ h9 => h9) rfl dX0_tryGifts_83 ?_
                refine lv_iconst (v := 0) hx hb dX0_tryGifts_86 (by decide +kernel) ?_
                refine lv_aload_n hx hb dX0_tryGifts_87 rfl (lv_at hl 2 rfl) ?_
                refine va_get (D := D) (ci := 0) (v := .ref h10) (C := RX0) (T := TX0) (N := 14) hx hb hts inX0 hown hG.1 hP 1 rfl rfl 8 (by decide) (hts _ kw501) (fun _ h9 => h9) rfl dX0_tryGifts_88 ?_
                refine lv_iconst (v := 0) hx hb dX0_tryGifts_91 (by decide +kernel) ?_
                refine lv_iconst (v := 4) hx hb dX0_tryGifts_92 (by decide +kernel) ?_
                refine xa_cpyR (k := 4) hx hb hml hl.1 hown hts kw1087 kw424 kw423 kw122 hG hP hD hS 2 0 rfl rfl (by decide +kernel) (by decide +kernel) (by decide +kernel) (by decide +kernel) (by decide +kernel) (by decide +kernel) (by decide +kernel) (by decide +kernel) (Nat.le_of_ble_eq_true rfl) (Nat.le_of_ble_eq_true rfl) dX0_tryGifts_93 (fun f_30 H locs hu hP hD hS => ?_)
                have a_31 := hu _ _ _ (by omega) ga0
                have hP : va_P D vwCl [(h10, .inl (cI, 4, .inl f_30)), (h0, .inr (0, [.int x2, .int x3, .ref h4, .ref h5, .int x6, .int x7, .int x8, .ref h9, .ref h10, .int v_22, .int x1, .int x13, .int x14, .int x15])), (h9, .inl (cI, 4, .inl f16)), (h4, .inl (cI, 28, .inl f17))] H := hP
                have hD : va_D A [(h10, .inl (cI, 4, .inl f_30)), (h0, .inr (0, [.int x2, .int x3, .ref h4, .ref h5, .int x6, .int x7, .int x8, .ref h9, .ref h10, .int v_22, .int x1, .int x13, .int x14, .int x15])), (h9, .inl (cI, 4, .inl f16)), (h4, .inl (cI, 28, .inl f17))] := hD
                have hP9 := hP.sub (ws' := [(h0, .inr (0, [.int x2, .int x3, .ref h4, .ref h5, .int x6, .int x7, .int x8, .ref h9, .ref h10, .int v_22, .int x1, .int x13, .int x14, .int x15])), (h9, .inl (cI, 4, .inl f16)), (h4, .inl (cI, 28, .inl f17)), (h10, .inl (cI, 4, .inl f_30))]) [1, 2, 3, 0] rfl
                have hD9 := hD.sub (ws' := [(h0, .inr (0, [.int x2, .int x3, .ref h4, .ref h5, .int x6, .int x7, .int x8, .ref h9, .ref h10, .int v_22, .int x1, .int x13, .int x14, .int x15])), (h9, .inl (cI, 4, .inl f16)), (h4, .inl (cI, 28, .inl f17)), (h10, .inl (cI, 4, .inl f_30))]) [1, 2, 3, 0] (by decide) rfl
                exact xr_v (rm := (rmL 7 0 0)) hx hb hr hlocks hAe hS hP9 hD9 (Nat.le_of_ble_eq_true rfl) (Nat.le_of_ble_eq_true rfl) dX0_tryGifts_96 ⟨v_22, x1, f_30, rfl, rfl⟩
              · have fc_29 : x12.toInt ≤ x1.toInt := i_nlt rfl rfl c_29
                have hP9 := hP.sub (ws' := [(h0, .inr (0, [.int x2, .int x3, .ref h4, .ref h5, .int x6, .int x7, .int x8, .ref h9, .ref h10, .int x11, .int x12, .int x13, .int x14, .int x15])), (h9, .inl (cI, 4, .inl f16)), (h4, .inl (cI, 28, .inl f17)), (h10, .inl (cI, 4, .inl f18))]) [1, 2, 3, 0] rfl
                have hD9 := hD.sub (ws' := [(h0, .inr (0, [.int x2, .int x3, .ref h4, .ref h5, .int x6, .int x7, .int x8, .ref h9, .ref h10, .int x11, .int x12, .int x13, .int x14, .int x15])), (h9, .inl (cI, 4, .inl f16)), (h4, .inl (cI, 28, .inl f17)), (h10, .inl (cI, 4, .inl f18))]) [1, 2, 3, 0] (by decide) rfl
                exact xr_v (rm := (rmL 7 0 0)) hx hb hr hlocks hAe hS hP9 hD9 (Nat.le_of_ble_eq_true rfl) (Nat.le_of_ble_eq_true rfl) dX0_tryGifts_71 ⟨x11, x12, f18, rfl, rfl⟩
      · have fc_14 : (0 : Int) ≤ x_5.toInt := i_nlt rfl (by decide) c_14
        refine lv_aload_n hx hb dX0_tryGifts_13 rfl (lv_at hl 2 rfl) ?_
        refine va_get (D := D) (ci := 0) (v := .ref h9) (C := RX0) (T := TX0) (N := 14) hx hb hts inX0 hown hG.1 hP 0 rfl rfl 7 (by decide) (hts _ kw500) (fun _ h9 => h9) rfl dX0_tryGifts_14 ?_
        refine lv_iload_n hx hb dX0_tryGifts_17 rfl (lv_at hl 0 rfl) ?_
        refine xa_ildE hx hb hG hP 1 rfl (vp_in_iff.mpr ⟨by omega, by omega⟩) dX0_tryGifts_18 (fun v_32 ev_32 => ?_)
        have g_33 := rd_ar ga0 ev_32 (by omega) (by omega)
        have o_34 : PT f16 (x_5.toInt) (v_32.toInt) := mk_pt ev_32
        refine lv_iconst (v := (-1)) hx hb dX0_tryGifts_19 (by decide +kernel) ?_
        refine lv_icmp_eq (tgt := 25) hx hb dX0_tryGifts_20 (by decide) (fun c_35 => ?_) (fun c_35 => ?_)
        · have fc_35 : v_32.toInt = ((-1) : Int) := i_eq rfl (by decide) c_35
          have o_36 : TG f16 (x_5.toInt - 1) (x_4.toInt) (x2.toInt) := tg_skip g_12 o_34 (by omega)
          obtain ⟨v_37, ev_37⟩ : ∃ y : Int32, y = x_5 + (-1) := ⟨_, rfl⟩
          have gv_37 : v_37.toInt = x_5.toInt + (-1) := by
            have zy : ((-1) : Int32).toInt = (-1) := by decide
            rw [ev_37, i32_add (by rw [zy]; omega) (by rw [zy]; omega), zy]
          refine lv_iinc (v := v_37) (lv' := [(3, .int v_37), (2, .int x_4), (0, .ref h0), (1, .int x1)]) hx hb dX0_tryGifts_25 hl (k := 0) rfl (by rw [ev_37]; rfl) (by decide) rfl (fun ls hl => ?_)
          refine lv_goto (tgt := 9) hx hb dX0_tryGifts_28 (by decide) ?_
          exact ihlp_6  x_4 v_37 _ _ _ (by omega) (by omega) (by omega) (by omega) (by omega) (TG.c o_36 (by omega) (by omega) (by omega)) (by omega) (hP.sub (ws' := [(h0, .inr (0, [.int x2, .int x3, .ref h4, .ref h5, .int x6, .int x7, .int x8, .ref h9, .ref h10, .int x11, .int x12, .int x13, .int x14, .int x15])), (h9, .inl (cI, 4, .inl f16)), (h4, .inl (cI, 28, .inl f17)), (h10, .inl (cI, 4, .inl f18))]) [0, 1, 2, 3] rfl) (hD.sub (ws' := [(h0, .inr (0, [.int x2, .int x3, .ref h4, .ref h5, .int x6, .int x7, .int x8, .ref h9, .ref h10, .int x11, .int x12, .int x13, .int x14, .int x15])), (h9, .inl (cI, 4, .inl f16)), (h4, .inl (cI, 28, .inl f17)), (h10, .inl (cI, 4, .inl f18))]) [0, 1, 2, 3] (by decide) rfl) hS (lv_sub hl [0, 1, 2, 3] rfl)
        · have fc_35 : v_32.toInt ≠ ((-1) : Int) := i_ne rfl (by decide) c_35
          refine lv_iload_n hx hb dX0_tryGifts_23 rfl (lv_at hl 0 rfl) ?_
          refine lv_istore_n (lv' := [(2, .int x_5), (3, .int x_5), (0, .ref h0), (1, .int x1)]) hx hb dX0_tryGifts_24 rfl hl (by decide) rfl (fun ls hl => ?_)
          have o_38 : TG f16 (x_5.toInt - 1) (x_5.toInt) (x2.toInt) := tg_take o_34 (by omega)
          obtain ⟨v_39, ev_39⟩ : ∃ y : Int32, y = x_5 + (-1) := ⟨_, rfl⟩
          have gv_39 : v_39.toInt = x_5.toInt + (-1) := by
            have zy : ((-1) : Int32).toInt = (-1) := by decide
            rw [ev_39, i32_add (by rw [zy]; omega) (by rw [zy]; omega), zy]
          refine lv_iinc (v := v_39) (lv' := [(3, .int v_39), (2, .int x_5), (0, .ref h0), (1, .int x1)]) hx hb dX0_tryGifts_25 hl (k := 1) rfl (by rw [ev_39]; rfl) (by decide) rfl (fun ls hl => ?_)
          refine lv_goto (tgt := 9) hx hb dX0_tryGifts_28 (by decide) ?_
          exact ihlp_6  x_5 v_39 _ _ _ (by omega) (by omega) (by omega) (by omega) (by omega) (TG.c o_38 (by omega) (by omega) (by omega)) (by omega) (hP.sub (ws' := [(h0, .inr (0, [.int x2, .int x3, .ref h4, .ref h5, .int x6, .int x7, .int x8, .ref h9, .ref h10, .int x11, .int x12, .int x13, .int x14, .int x15])), (h9, .inl (cI, 4, .inl f16)), (h4, .inl (cI, 28, .inl f17)), (h10, .inl (cI, 4, .inl f18))]) [0, 1, 2, 3] rfl) (hD.sub (ws' := [(h0, .inr (0, [.int x2, .int x3, .ref h4, .ref h5, .int x6, .int x7, .int x8, .ref h9, .ref h10, .int x11, .int x12, .int x13, .int x14, .int x15])), (h9, .inl (cI, 4, .inl f16)), (h4, .inl (cI, 28, .inl f17)), (h10, .inl (cI, 4, .inl f18))]) [0, 1, 2, 3] (by decide) rfl) hS (lv_sub hl [0, 1, 2, 3] rfl)
  exact lp_6 6 0 v_1 _ _ _ (by have zc0 : (0 : Int32).toInt = 0 := (by decide); omega) (by have zc0 : (0 : Int32).toInt = 0 := (by decide); omega) (by have zc0 : (0 : Int32).toInt = 0 := (by decide); omega) (by have zc0 : (0 : Int32).toInt = 0 := (by decide); omega) (by have zc0 : (0 : Int32).toInt = 0 := (by decide); omega) (tg_nil (by have zc0 : (0 : Int32).toInt = 0 := (by decide); omega)) (by have zc0 : (0 : Int32).toInt = 0 := (by decide); omega) (hP.sub (ws' := [(h0, .inr (0, [.int x2, .int x3, .ref h4, .ref h5, .int x6, .int x7, .int x8, .ref h9, .ref h10, .int x11, .int x12, .int x13, .int x14, .int x15])), (h9, .inl (cI, 4, .inl f16)), (h4, .inl (cI, 28, .inl f17)), (h10, .inl (cI, 4, .inl f18))]) [0, 1, 2, 3] rfl) (hD.sub (ws' := [(h0, .inr (0, [.int x2, .int x3, .ref h4, .ref h5, .int x6, .int x7, .int x8, .ref h9, .ref h10, .int x11, .int x12, .int x13, .int x14, .int x15])), (h9, .inl (cI, 4, .inl f16)), (h4, .inl (cI, 28, .inl f17)), (h10, .inl (cI, 4, .inl f18))]) [0, 1, 2, 3] (by decide) rfl) hS (lv_sub hl [0, 1, 2, 3] rfl)
theorem dX0_chooseGifts_0 : decode cX0_chooseGifts 0 = .ok (.iload_n 1, 1) := by decide +kernel
theorem dX0_chooseGifts_1 : decode cX0_chooseGifts 1 = .ok (.aload_n 0, 1) := by decide +kernel
theorem dX0_chooseGifts_2 : decode cX0_chooseGifts 2 = .ok (.getfield 36, 3) := by decide +kernel
theorem dX0_chooseGifts_5 : decode cX0_chooseGifts 5 = .ok (.if_icmp .lt 14, 3) := by decide +kernel
theorem dX0_chooseGifts_8 : decode cX0_chooseGifts 8 = .ok (.iload_n 2, 1) := by decide +kernel
theorem dX0_chooseGifts_9 : decode cX0_chooseGifts 9 = .ok (.iconst 2, 1) := by decide +kernel
theorem dX0_chooseGifts_10 : decode cX0_chooseGifts 10 = .ok (.if_icmp .lt 8, 3) := by decide +kernel
theorem dX0_chooseGifts_18 : decode cX0_chooseGifts 18 = .ok (.return_, 1) := by decide +kernel
theorem dX0_chooseGifts_13 : decode cX0_chooseGifts 13 = .ok (.aload_n 0, 1) := by decide +kernel
theorem dX0_chooseGifts_14 : decode cX0_chooseGifts 14 = .ok (.iload_n 2, 1) := by decide +kernel
theorem kw1074 : (.methodLink RX0 82 yX0_tryGifts : Cond) ∈ gT := gT_of 1074 (by decide +kernel) (by decide +kernel)
theorem kw1077 : (.code yX0_tryGifts cX0_tryGifts 4 none : Cond) ∈ gT := gT_of 1077 (by decide +kernel) (by decide +kernel)
theorem kw1076 : (.instanceMethod yX0_tryGifts : Cond) ∈ gT := gT_of 1076 (by decide +kernel) (by decide +kernel)
theorem kw31 : (.selects RX0 yX0_tryGifts yX0_tryGifts : Cond) ∈ gT := gT_of 31 (by decide +kernel) (by decide +kernel)
theorem dX0_chooseGifts_15 : decode cX0_chooseGifts 15 = .ok (.invokevirtual 82, 3) := by decide +kernel
set_option maxHeartbeats 4000000 in
set_option maxRecDepth 100000 in
theorem sX0_chooseGifts_1 (l : Launch) (D : va_G) (cB cI cJ cZ : ClassId) (aK aV : Nat → Nat) (h0 : Nat) (x1 : Int32) (x2 : Int32) (x3 : Int32) (h4 : Nat) (h5 : Nat) (x6 : Int32) (x7 : Int32) (x8 : Int32) (h9 : Nat) (h10 : Nat) (x11 : Int32) (x12 : Int32) (x13 : Int32) (x14 : Int32) (x15 : Int32) (f16 : Nat → Int32) (f17 : Nat → Int32) (f18 : Nat → Int32) (gh0 : 0 ≤ x2.toInt) (gh1 : 0 ≤ -x2.toInt + 4) (gh2 : 0 ≤ x3.toInt) (gh3 : 0 ≤ -x3.toInt + 7) (gh4 : 0 ≤ x7.toInt) (gh5 : 0 ≤ -x7.toInt + 6) (gh6 : 0 ≤ x8.toInt) (gh7 : 0 ≤ -x8.toInt + 6) (gh8 : 0 ≤ x2.toInt - 4) (gh9 : 0 ≤ x1.toInt) (gh10 : 0 ≤ -x1.toInt + 4) (ga0 : AR f16 (-1) (6) (4)) (go0 : GV f16 (4) (x1.toInt)) : MX l yX0_chooseGifts cX0_chooseGifts 4 none (rmL 8 0 0) D cB cI cJ cZ aK aV [.ref h0, .int 4, .int x1] [(h0, .inr (0, [.int x2, .int x3, .ref h4, .ref h5, .int x6, .int x7, .int x8, .ref h9, .ref h10, .int x11, .int x12, .int x13, .int x14, .int x15])), (h9, .inl (cI, 4, .inl f16)), (h4, .inl (cI, 28, .inl f17)), (h10, .inl (cI, 4, .inl f18))] (fun r w1 => ∃ z1 : Int32, ∃ z2 : Int32, ∃ z3 : Nat → Int32, r = none ∧ w1 = [(h0, .inr (0, [.int x2, .int x3, .ref h4, .ref h5, .int x6, .int x7, .int x8, .ref h9, .ref h10, .int z1, .int z2, .int x13, .int x14, .int x15])), (h9, .inl (cI, 4, .inl f16)), (h4, .inl (cI, 28, .inl f17)), (h10, .inl (cI, 4, .inl z3))]) := by
  refine MX.intro (by decide) (Nat.le_of_ble_eq_true rfl) ?_
  intro p e s m below meth c A ls hx hb hr hml hown hlocks hnm hts hG hE hA hS hP hD hl hAe
  have hl : lv_has ls 4 [(0, .ref h0), (1, .int 4), (2, .int x1)] := hl
  have hown : s.vm.findClass RX0 = some m.cls := hown
  refine lv_iload_n hx hb dX0_chooseGifts_0 rfl (lv_at hl 1 rfl) ?_
  refine lv_aload_n hx hb dX0_chooseGifts_1 rfl (lv_at hl 0 rfl) ?_
  refine va_get (D := D) (ci := 0) (v := .int x2) (C := RX0) (T := TX0) (N := 14) hx hb hts inX0 hown hG.1 hP 0 rfl rfl 0 (by decide) (hts _ kw489) (fun _ h9 => h9) rfl dX0_chooseGifts_2 ?_
  refine lv_icmp_lt (tgt := 19) hx hb dX0_chooseGifts_5 (by decide) (fun c_1 => by exfalso; have fc_1 : (4 : Int) < x2.toInt := i_lt (by decide) rfl c_1; omega) (fun c_1 => ?_)
  have fc_1 : x2.toInt ≤ (4 : Int) := i_nlt (by decide) rfl c_1
  refine lv_iload_n hx hb dX0_chooseGifts_8 rfl (lv_at hl 2 rfl) ?_
  refine lv_iconst (v := 2) hx hb dX0_chooseGifts_9 (by decide +kernel) ?_
  refine lv_icmp_lt (tgt := 18) hx hb dX0_chooseGifts_10 (by decide) (fun c_2 => ?_) (fun c_2 => ?_)
  · have fc_2 : x1.toInt < (2 : Int) := i_lt rfl (by decide) c_2
    have hP9 := hP.sub (ws' := [(h0, .inr (0, [.int x2, .int x3, .ref h4, .ref h5, .int x6, .int x7, .int x8, .ref h9, .ref h10, .int x11, .int x12, .int x13, .int x14, .int x15])), (h9, .inl (cI, 4, .inl f16)), (h4, .inl (cI, 28, .inl f17)), (h10, .inl (cI, 4, .inl f18))]) [0, 1, 2, 3] rfl
    have hD9 := hD.sub (ws' := [(h0, .inr (0, [.int x2, .int x3, .ref h4, .ref h5, .int x6, .int x7, .int x8, .ref h9, .ref h10, .int x11, .int x12, .int x13, .int x14, .int x15])), (h9, .inl (cI, 4, .inl f16)), (h4, .inl (cI, 28, .inl f17)), (h10, .inl (cI, 4, .inl f18))]) [0, 1, 2, 3] (by decide) rfl
    exact xr_v (rm := (rmL 8 0 0)) hx hb hr hlocks hAe hS hP9 hD9 (Nat.le_of_ble_eq_true rfl) (Nat.le_of_ble_eq_true rfl) dX0_chooseGifts_18 ⟨x11, x12, f18, rfl, rfl⟩
  · have fc_2 : (2 : Int) ≤ x1.toInt := i_nlt rfl (by decide) c_2
    have o_3 : EG f16 (x2.toInt) := eg_of go0 (by omega) (by omega)
    refine lv_aload_n hx hb dX0_chooseGifts_13 rfl (lv_at hl 0 rfl) ?_
    refine lv_iload_n hx hb dX0_chooseGifts_14 rfl (lv_at hl 2 rfl) ?_
    refine xc_core (wr := []) (k := 0) (n := 0) (xc_runV (As := [.int x1]) (rest := []) hx hb hml hown hts hG hE hP hD hS hA [0, 1, 2, 3] (by decide) rfl (sX0_tryGifts_1 l D cB cI cJ cZ aK aV h0 x1 x2 x3 h4 h5 x6 x7 x8 h9 h10 x11 x12 x13 x14 x15 f16 f17 f18 (by omega) (by omega) (by omega) (by omega) (by omega) (by omega) (by omega) (by omega) (ga0.mono (by omega) (by omega) (by omega)) o_3) kw1077 kw1074 kw1076 kw31 kw124 (show XD yX0_tryGifts 1 from by decide +kernel) (by decide) rfl rfl 0 rfl hl.1 rfl (Nat.le_of_ble_eq_true rfl) dX0_chooseGifts_15 (by decide)) hP hD hS hA [0, 1, 2, 3] [] rfl rfl (by decide) (by decide) (Nat.le_of_ble_eq_true rfl) (Nat.le_of_ble_eq_true rfl) (fun r w1 H locs hpost hP hD hS => ?_)
    obtain ⟨v_4, v_5, f_6, rfl, rfl⟩ := hpost
    have hP : va_P D vwCl [(h0, .inr (0, [.int x2, .int x3, .ref h4, .ref h5, .int x6, .int x7, .int x8, .ref h9, .ref h10, .int v_4, .int v_5, .int x13, .int x14, .int x15])), (h9, .inl (cI, 4, .inl f16)), (h4, .inl (cI, 28, .inl f17)), (h10, .inl (cI, 4, .inl f_6))] H := hP
    have hD : va_D A [(h0, .inr (0, [.int x2, .int x3, .ref h4, .ref h5, .int x6, .int x7, .int x8, .ref h9, .ref h10, .int v_4, .int v_5, .int x13, .int x14, .int x15])), (h9, .inl (cI, 4, .inl f16)), (h4, .inl (cI, 28, .inl f17)), (h10, .inl (cI, 4, .inl f_6))] := hD
    have hP9 := hP.sub (ws' := [(h0, .inr (0, [.int x2, .int x3, .ref h4, .ref h5, .int x6, .int x7, .int x8, .ref h9, .ref h10, .int v_4, .int v_5, .int x13, .int x14, .int x15])), (h9, .inl (cI, 4, .inl f16)), (h4, .inl (cI, 28, .inl f17)), (h10, .inl (cI, 4, .inl f_6))]) [0, 1, 2, 3] rfl
    have hD9 := hD.sub (ws' := [(h0, .inr (0, [.int x2, .int x3, .ref h4, .ref h5, .int x6, .int x7, .int x8, .ref h9, .ref h10, .int v_4, .int v_5, .int x13, .int x14, .int x15])), (h9, .inl (cI, 4, .inl f16)), (h4, .inl (cI, 28, .inl f17)), (h10, .inl (cI, 4, .inl f_6))]) [0, 1, 2, 3] (by decide) rfl
    exact xr_v (rm := (rmL 8 0 0)) hx hb hr hlocks hAe hS hP9 hD9 (Nat.le_of_ble_eq_true rfl) (Nat.le_of_ble_eq_true rfl) dX0_chooseGifts_18 ⟨v_4, v_5, f_6, rfl, rfl⟩
theorem dX0_chooseGifts_19 : decode cX0_chooseGifts 19 = .ok (.aload_n 0, 1) := by decide +kernel
theorem dX0_chooseGifts_20 : decode cX0_chooseGifts 20 = .ok (.getfield 18, 3) := by decide +kernel
theorem dX0_chooseGifts_23 : decode cX0_chooseGifts 23 = .ok (.iload_n 1, 1) := by decide +kernel
theorem dX0_chooseGifts_24 : decode cX0_chooseGifts 24 = .ok (.iconst (-1), 1) := by decide +kernel
theorem dX0_chooseGifts_25 : decode cX0_chooseGifts 25 = .ok (.iastore, 1) := by decide +kernel
theorem dX0_chooseGifts_26 : decode cX0_chooseGifts 26 = .ok (.aload_n 0, 1) := by decide +kernel
theorem dX0_chooseGifts_27 : decode cX0_chooseGifts 27 = .ok (.iload_n 1, 1) := by decide +kernel
theorem dX0_chooseGifts_28 : decode cX0_chooseGifts 28 = .ok (.iconst 1, 1) := by decide +kernel
theorem dX0_chooseGifts_29 : decode cX0_chooseGifts 29 = .ok (.iadd, 1) := by decide +kernel
theorem dX0_chooseGifts_30 : decode cX0_chooseGifts 30 = .ok (.iload_n 2, 1) := by decide +kernel
theorem kw1070 : (.methodLink RX0 78 yX0_chooseGifts : Cond) ∈ gT := gT_of 1070 (by decide +kernel) (by decide +kernel)
theorem kw1073 : (.code yX0_chooseGifts cX0_chooseGifts 4 none : Cond) ∈ gT := gT_of 1073 (by decide +kernel) (by decide +kernel)
theorem kw1072 : (.instanceMethod yX0_chooseGifts : Cond) ∈ gT := gT_of 1072 (by decide +kernel) (by decide +kernel)
theorem kw30 : (.selects RX0 yX0_chooseGifts yX0_chooseGifts : Cond) ∈ gT := gT_of 30 (by decide +kernel) (by decide +kernel)
theorem dX0_chooseGifts_31 : decode cX0_chooseGifts 31 = .ok (.invokevirtual 78, 3) := by decide +kernel
theorem dX0_chooseGifts_34 : decode cX0_chooseGifts 34 = .ok (.iconst 0, 1) := by decide +kernel
theorem dX0_chooseGifts_35 : decode cX0_chooseGifts 35 = .ok (.istore_n 3, 1) := by decide +kernel
theorem dX0_chooseGifts_36 : decode cX0_chooseGifts 36 = .ok (.iload_n 3, 1) := by decide +kernel
theorem dX0_chooseGifts_37 : decode cX0_chooseGifts 37 = .ok (.aload_n 0, 1) := by decide +kernel
theorem dX0_chooseGifts_38 : decode cX0_chooseGifts 38 = .ok (.getfield 40, 3) := by decide +kernel
theorem dX0_chooseGifts_41 : decode cX0_chooseGifts 41 = .ok (.if_icmp .ge 36, 3) := by decide +kernel
theorem dX0_chooseGifts_77 : decode cX0_chooseGifts 77 = .ok (.return_, 1) := by decide +kernel
theorem dX0_chooseGifts_44 : decode cX0_chooseGifts 44 = .ok (.aload_n 0, 1) := by decide +kernel
theorem dX0_chooseGifts_45 : decode cX0_chooseGifts 45 = .ok (.getfield 15, 3) := by decide +kernel
theorem dX0_chooseGifts_48 : decode cX0_chooseGifts 48 = .ok (.iload_n 3, 1) := by decide +kernel
theorem dX0_chooseGifts_49 : decode cX0_chooseGifts 49 = .ok (.iaload, 1) := by decide +kernel
theorem dX0_chooseGifts_50 : decode cX0_chooseGifts 50 = .ok (.iload_n 1, 1) := by decide +kernel
theorem dX0_chooseGifts_51 : decode cX0_chooseGifts 51 = .ok (.if_icmp .ne 20, 3) := by decide +kernel
theorem dX0_chooseGifts_71 : decode cX0_chooseGifts 71 = .ok (.iinc 3 1, 3) := by decide +kernel
theorem dX0_chooseGifts_74 : decode cX0_chooseGifts 74 = .ok (.goto (-38), 3) := by decide +kernel
theorem dX0_chooseGifts_54 : decode cX0_chooseGifts 54 = .ok (.aload_n 0, 1) := by decide +kernel
theorem dX0_chooseGifts_55 : decode cX0_chooseGifts 55 = .ok (.getfield 18, 3) := by decide +kernel
theorem dX0_chooseGifts_58 : decode cX0_chooseGifts 58 = .ok (.iload_n 1, 1) := by decide +kernel
theorem dX0_chooseGifts_59 : decode cX0_chooseGifts 59 = .ok (.iload_n 3, 1) := by decide +kernel
theorem dX0_chooseGifts_60 : decode cX0_chooseGifts 60 = .ok (.iastore, 1) := by decide +kernel
theorem dX0_chooseGifts_61 : decode cX0_chooseGifts 61 = .ok (.aload_n 0, 1) := by decide +kernel
theorem dX0_chooseGifts_62 : decode cX0_chooseGifts 62 = .ok (.iload_n 1, 1) := by decide +kernel
theorem dX0_chooseGifts_63 : decode cX0_chooseGifts 63 = .ok (.iconst 1, 1) := by decide +kernel
theorem dX0_chooseGifts_64 : decode cX0_chooseGifts 64 = .ok (.iadd, 1) := by decide +kernel
theorem dX0_chooseGifts_65 : decode cX0_chooseGifts 65 = .ok (.iload_n 2, 1) := by decide +kernel
theorem dX0_chooseGifts_66 : decode cX0_chooseGifts 66 = .ok (.iconst 1, 1) := by decide +kernel
theorem dX0_chooseGifts_67 : decode cX0_chooseGifts 67 = .ok (.iadd, 1) := by decide +kernel
theorem dX0_chooseGifts_68 : decode cX0_chooseGifts 68 = .ok (.invokevirtual 78, 3) := by decide +kernel
set_option maxHeartbeats 4000000 in
set_option maxRecDepth 100000 in
theorem sX0_chooseGifts_2 (l : Launch) (D : va_G) (cB cI cJ cZ : ClassId) (aK aV : Nat → Nat) (h0 : Nat) (x1 : Int32) (x2 : Int32) (x3 : Int32) (h4 : Nat) (h5 : Nat) (x6 : Int32) (x7 : Int32) (x8 : Int32) (h9 : Nat) (h10 : Nat) (x11 : Int32) (x12 : Int32) (x13 : Int32) (x14 : Int32) (x15 : Int32) (f16 : Nat → Int32) (f17 : Nat → Int32) (f18 : Nat → Int32) (f19 : Nat → Int32) (gh0 : 0 ≤ x2.toInt) (gh1 : 0 ≤ -x2.toInt + 4) (gh2 : 0 ≤ x3.toInt) (gh3 : 0 ≤ -x3.toInt + 7) (gh4 : 0 ≤ x7.toInt) (gh5 : 0 ≤ -x7.toInt + 6) (gh6 : 0 ≤ x8.toInt) (gh7 : 0 ≤ -x8.toInt + 6) (gh8 : 0 ≤ x2.toInt - 3) (gh9 : 0 ≤ x1.toInt) (gh10 : 0 ≤ -x1.toInt + 3) (ga0 : AR f16 (-1) (6) (4)) (ga1 : AR f19 (0) (3) (x3.toInt)) (go0 : GV f16 (3) (x1.toInt)) : MX l yX0_chooseGifts cX0_chooseGifts 4 none (rmL 9 0 0) D cB cI cJ cZ aK aV [.ref h0, .int 3, .int x1] [(h0, .inr (0, [.int x2, .int x3, .ref h4, .ref h5, .int x6, .int x7, .int x8, .ref h9, .ref h10, .int x11, .int x12, .int x13, .int x14, .int x15])), (h9, .inl (cI, 4, .inl f16)), (h4, .inl (cI, 28, .inl f17)), (h10, .inl (cI, 4, .inl f18)), (h5, .inl (cI, 7, .inl f19))] (fun r w1 => ∃ z1 : Int32, ∃ z2 : Int32, ∃ z3 : Nat → Int32, ∃ z4 : Nat → Int32, AR z3 (-1) (6) (4) ∧ KP f16 z3 (3) ∧ r = none ∧ w1 = [(h0, .inr (0, [.int x2, .int x3, .ref h4, .ref h5, .int x6, .int x7, .int x8, .ref h9, .ref h10, .int z1, .int z2, .int x13, .int x14, .int x15])), (h9, .inl (cI, 4, .inl z3)), (h4, .inl (cI, 28, .inl f17)), (h10, .inl (cI, 4, .inl z4)), (h5, .inl (cI, 7, .inl f19))]) := by
  refine MX.intro (by decide) (Nat.le_of_ble_eq_true rfl) ?_
  intro p e s m below meth c A ls hx hb hr hml hown hlocks hnm hts hG hE hA hS hP hD hl hAe
  have hl : lv_has ls 4 [(0, .ref h0), (1, .int 3), (2, .int x1)] := hl
  have hown : s.vm.findClass RX0 = some m.cls := hown
  refine lv_iload_n hx hb dX0_chooseGifts_0 rfl (lv_at hl 1 rfl) ?_
  refine lv_aload_n hx hb dX0_chooseGifts_1 rfl (lv_at hl 0 rfl) ?_
  refine va_get (D := D) (ci := 0) (v := .int x2) (C := RX0) (T := TX0) (N := 14) hx hb hts inX0 hown hG.1 hP 0 rfl rfl 0 (by decide) (hts _ kw489) (fun _ h9 => h9) rfl dX0_chooseGifts_2 ?_
  refine lv_icmp_lt (tgt := 19) hx hb dX0_chooseGifts_5 (by decide) (fun c_1 => ?_) (fun c_1 => ?_)
  · have fc_1 : (3 : Int) < x2.toInt := i_lt (by decide) rfl c_1
    refine lv_aload_n hx hb dX0_chooseGifts_19 rfl (lv_at hl 0 rfl) ?_
    refine va_get (D := D) (ci := 0) (v := .ref h9) (C := RX0) (T := TX0) (N := 14) hx hb hts inX0 hown hG.1 hP 0 rfl rfl 7 (by decide) (hts _ kw500) (fun _ h9 => h9) rfl dX0_chooseGifts_20 ?_
    refine lv_iload_n hx hb dX0_chooseGifts_23 rfl (lv_at hl 1 rfl) ?_
    refine lv_iconst (v := (-1)) hx hb dX0_chooseGifts_24 (by decide +kernel) ?_
    refine xa_istE hx hb hG hP hD hS 1 rfl (vin (by decide +kernel)) dX0_chooseGifts_25 (fun f_2 H locs ef_2 hP hD hS => ?_)
    have hP : va_P D vwCl [(h0, .inr (0, [.int x2, .int x3, .ref h4, .ref h5, .int x6, .int x7, .int x8, .ref h9, .ref h10, .int x11, .int x12, .int x13, .int x14, .int x15])), (h9, .inl (cI, 4, .inl f_2)), (h4, .inl (cI, 28, .inl f17)), (h10, .inl (cI, 4, .inl f18)), (h5, .inl (cI, 7, .inl f19))] H := hP
    have hD : va_D A [(h0, .inr (0, [.int x2, .int x3, .ref h4, .ref h5, .int x6, .int x7, .int x8, .ref h9, .ref h10, .int x11, .int x12, .int x13, .int x14, .int x15])), (h9, .inl (cI, 4, .inl f_2)), (h4, .inl (cI, 28, .inl f17)), (h10, .inl (cI, 4, .inl f18)), (h5, .inl (cI, 7, .inl f19))] := hD
    have a_3 := st_ar ef_2 (by have z3 : (3 : Int32).toInt = 3 := (by decide); have zm1 : ((-1) : Int32).toInt = (-1) := (by decide); omega) ga0 (by have z3 : (3 : Int32).toInt = 3 := (by decide); have zm1 : ((-1) : Int32).toInt = (-1) := (by decide); intros; omega)
    have o_4 : PT f_2 (3) (-1) := st_ptn ef_2 (by have z3 : (3 : Int32).toInt = 3 := (by decide); have zm1 : ((-1) : Int32).toInt = (-1) := (by decide); omega) (by decide) (by decide)
    refine lv_aload_n hx hb dX0_chooseGifts_26 rfl (lv_at hl 0 rfl) ?_
    refine lv_iload_n hx hb dX0_chooseGifts_27 rfl (lv_at hl 1 rfl) ?_
    refine lv_iconst (v := 1) hx hb dX0_chooseGifts_28 (by decide +kernel) ?_
    refine lv_iadd hx hb dX0_chooseGifts_29 ?_
    refine xt_i (v := 4) (by decide +kernel) ?_
    refine lv_iload_n hx hb dX0_chooseGifts_30 rfl (lv_at hl 2 rfl) ?_
    have o_5 : KP f16 f_2 (3) := kp_st ef_2 (by decide)
    have o_6 : GV f_2 (4) (x1.toInt) := gv_keep go0 o_5 (by omega)
    refine xc_core (wr := [(h5, .inl (cI, 7, .inl f19))]) (k := 0) (n := 0) (xc_runV (As := [.int 4, .int x1]) (rest := []) hx hb hml hown hts hG hE hP hD hS hA [0, 1, 2, 3] (by decide) rfl (sX0_chooseGifts_1 l D cB cI cJ cZ aK aV h0 x1 x2 x3 h4 h5 x6 x7 x8 h9 h10 x11 x12 x13 x14 x15 f_2 f17 f18 (by omega) (by omega) (by omega) (by omega) (by omega) (by omega) (by omega) (by omega) (by omega) (by omega) (by omega) (a_3.mono (by omega) (by omega) (by omega)) o_6) kw1073 kw1070 kw1072 kw30 kw124 (show XD yX0_chooseGifts 2 from by decide +kernel) (by decide) rfl rfl 0 rfl hl.1 rfl (Nat.le_of_ble_eq_true rfl) dX0_chooseGifts_31 (by decide)) hP hD hS hA [0, 1, 2, 3] [4] rfl rfl (by decide) (by decide) (Nat.le_of_ble_eq_true rfl) (Nat.le_of_ble_eq_true rfl) (fun r w1 H locs hpost hP hD hS => ?_)
    obtain ⟨v_7, v_8, f_9, rfl, rfl⟩ := hpost
    have hP : va_P D vwCl [(h5, .inl (cI, 7, .inl f19)), (h0, .inr (0, [.int x2, .int x3, .ref h4, .ref h5, .int x6, .int x7, .int x8, .ref h9, .ref h10, .int v_7, .int v_8, .int x13, .int x14, .int x15])), (h9, .inl (cI, 4, .inl f_2)), (h4, .inl (cI, 28, .inl f17)), (h10, .inl (cI, 4, .inl f_9))] H := hP
    have hD : va_D A [(h5, .inl (cI, 7, .inl f19)), (h0, .inr (0, [.int x2, .int x3, .ref h4, .ref h5, .int x6, .int x7, .int x8, .ref h9, .ref h10, .int v_7, .int v_8, .int x13, .int x14, .int x15])), (h9, .inl (cI, 4, .inl f_2)), (h4, .inl (cI, 28, .inl f17)), (h10, .inl (cI, 4, .inl f_9))] := hD
    refine lv_iconst (v := 0) hx hb dX0_chooseGifts_34 (by decide +kernel) ?_
    refine lv_istore_n (lv' := [(3, .int 0), (0, .ref h0), (1, .int 3), (2, .int x1)]) hx hb dX0_chooseGifts_35 rfl hl (by decide) rfl (fun ls hl => ?_)
    have lp_20 : ∀ (n : Nat) (x_15 x_16 x_17 : Int32) (f_18 : Nat → Int32) (f_19 : Nat → Int32) (H : Heap) (locs : List Loc) (ls : Array Slot), 0 ≤ x_17.toInt → 0 ≤ x3.toInt - x_17.toInt → AR f_19 (-1) (6) (4) → KP f16 f_19 (3) → -x_17.toInt + 7 < n → va_P D vwCl [(h5, .inl (cI, 7, .inl f19)), (h0, .inr (0, [.int x2, .int x3, .ref h4, .ref h5, .int x6, .int x7, .int x8, .ref h9, .ref h10, .int x_16, .int x_15, .int x13, .int x14, .int x15])), (h9, .inl (cI, 4, .inl f_19)), (h4, .inl (cI, 28, .inl f17)), (h10, .inl (cI, 4, .inl f_18))] H → va_D A [(h5, .inl (cI, 7, .inl f19)), (h0, .inr (0, [.int x2, .int x3, .ref h4, .ref h5, .int x6, .int x7, .int x8, .ref h9, .ref h10, .int x_16, .int x_15, .int x13, .int x14, .int x15])), (h9, .inl (cI, 4, .inl f_19)), (h4, .inl (cI, 28, .inl f17)), (h10, .inl (cI, 4, .inl f_18))] → va_S A s.heap H locs → lv_has ls 4 [(3, .int x_17), (0, .ref h0), (1, .int 3), (2, .int x1)] → W p l e (rmL 9 0 0) s m [.ref h0, .int 3, .int x1].toArray below meth c H locs 0 0 (ZX D below [.ref h0, .int 3, .int x1] s (rmL 9 0 0) [(h0, .inr (0, [.int x2, .int x3, .ref h4, .ref h5, .int x6, .int x7, .int x8, .ref h9, .ref h10, .int x11, .int x12, .int x13, .int x14, .int x15])), (h9, .inl (cI, 4, .inl f16)), (h4, .inl (cI, 28, .inl f17)), (h10, .inl (cI, 4, .inl f18)), (h5, .inl (cI, 7, .inl f19))] (fun r w1 => ∃ z1 : Int32, ∃ z2 : Int32, ∃ z3 : Nat → Int32, ∃ z4 : Nat → Int32, AR z3 (-1) (6) (4) ∧ KP f16 z3 (3) ∧ r = none ∧ w1 = [(h0, .inr (0, [.int x2, .int x3, .ref h4, .ref h5, .int x6, .int x7, .int x8, .ref h9, .ref h10, .int z1, .int z2, .int x13, .int x14, .int x15])), (h9, .inl (cI, 4, .inl z3)), (h4, .inl (cI, 28, .inl f17)), (h10, .inl (cI, 4, .inl z4)), (h5, .inl (cI, 7, .inl f19))])) (F0 m 36 ls []) := by
      intro n
      induction n with
      | zero => intro x_15 x_16 x_17 f_18 f_19 H locs ls g_21 g_22 g_23 g_24 g_25; omega
      | succ n ihlp_20 =>
        intro x_15 x_16 x_17 f_18 f_19 H locs ls g_21 g_22 g_23 g_24 g_25 hP hD hS hl
        refine lv_iload_n hx hb dX0_chooseGifts_36 rfl (lv_at hl 0 rfl) ?_
        refine lv_aload_n hx hb dX0_chooseGifts_37 rfl (lv_at hl 1 rfl) ?_
        refine va_get (D := D) (ci := 0) (v := .int x3) (C := RX0) (T := TX0) (N := 14) hx hb hts inX0 hown hG.1 hP 1 rfl rfl 1 (by decide) (hts _ kw490) (fun _ h9 => h9) rfl dX0_chooseGifts_38 ?_
        refine lv_icmp_ge (tgt := 77) hx hb dX0_chooseGifts_41 (by decide) (fun c_26 => ?_) (fun c_26 => ?_)
        · have fc_26 : x3.toInt ≤ x_17.toInt := i_le rfl rfl c_26
          have hP9 := hP.sub (ws' := [(h0, .inr (0, [.int x2, .int x3, .ref h4, .ref h5, .int x6, .int x7, .int x8, .ref h9, .ref h10, .int x_16, .int x_15, .int x13, .int x14, .int x15])), (h9, .inl (cI, 4, .inl f_19)), (h4, .inl (cI, 28, .inl f17)), (h10, .inl (cI, 4, .inl f_18)), (h5, .inl (cI, 7, .inl f19))]) [1, 2, 3, 4, 0] rfl
          have hD9 := hD.sub (ws' := [(h0, .inr (0, [.int x2, .int x3, .ref h4, .ref h5, .int x6, .int x7, .int x8, .ref h9, .ref h10, .int x_16, .int x_15, .int x13, .int x14, .int x15])), (h9, .inl (cI, 4, .inl f_19)), (h4, .inl (cI, 28, .inl f17)), (h10, .inl (cI, 4, .inl f_18)), (h5, .inl (cI, 7, .inl f19))]) [1, 2, 3, 4, 0] (by decide) rfl
          exact xr_v (rm := (rmL 9 0 0)) hx hb hr hlocks hAe hS hP9 hD9 (Nat.le_of_ble_eq_true rfl) (Nat.le_of_ble_eq_true rfl) dX0_chooseGifts_77 ⟨x_16, x_15, f_19, f_18, g_23.mono (by omega) (by omega) (by omega), g_24, rfl, rfl⟩
        · have fc_26 : x_17.toInt < x3.toInt := i_nle rfl rfl c_26
          refine lv_aload_n hx hb dX0_chooseGifts_44 rfl (lv_at hl 1 rfl) ?_
          refine va_get (D := D) (ci := 0) (v := .ref h5) (C := RX0) (T := TX0) (N := 14) hx hb hts inX0 hown hG.1 hP 1 rfl rfl 3 (by decide) (hts _ kw492) (fun _ h9 => h9) rfl dX0_chooseGifts_45 ?_
          refine lv_iload_n hx hb dX0_chooseGifts_48 rfl (lv_at hl 0 rfl) ?_
          refine xa_ildR hx hb hG hP 0 rfl (vp_in_iff.mpr ⟨by omega, by omega⟩) dX0_chooseGifts_49 (fun v_27 hv => ?_)
          have g_28 := hv _ _ _ ga1 (by omega)
          refine lv_iload_n hx hb dX0_chooseGifts_50 rfl (lv_at hl 2 rfl) ?_
          refine lv_icmp_ne (tgt := 71) hx hb dX0_chooseGifts_51 (by decide) (fun c_29 => ?_) (fun c_29 => ?_)
          · have fc_29 : v_27.toInt ≠ (3 : Int) := i_ne rfl (by decide) c_29
            obtain ⟨v_30, ev_30⟩ : ∃ y : Int32, y = x_17 + 1 := ⟨_, rfl⟩
            have gv_30 : v_30.toInt = x_17.toInt + 1 := by
              have zy : (1 : Int32).toInt = 1 := by decide
              rw [ev_30, i32_add (by rw [zy]; omega) (by rw [zy]; omega), zy]
            refine lv_iinc (v := v_30) (lv' := [(3, .int v_30), (0, .ref h0), (1, .int 3), (2, .int x1)]) hx hb dX0_chooseGifts_71 hl (k := 0) rfl (by rw [ev_30]; rfl) (by decide) rfl (fun ls hl => ?_)
            refine lv_goto (tgt := 36) hx hb dX0_chooseGifts_74 (by decide) ?_
            exact ihlp_20  x_15 x_16 v_30 f_18 f_19 _ _ _ (by omega) (by omega) (g_23.mono (by omega) (by omega) (by omega)) g_24 (by omega) (hP.sub (ws' := [(h5, .inl (cI, 7, .inl f19)), (h0, .inr (0, [.int x2, .int x3, .ref h4, .ref h5, .int x6, .int x7, .int x8, .ref h9, .ref h10, .int x_16, .int x_15, .int x13, .int x14, .int x15])), (h9, .inl (cI, 4, .inl f_19)), (h4, .inl (cI, 28, .inl f17)), (h10, .inl (cI, 4, .inl f_18))]) [0, 1, 2, 3, 4] rfl) (hD.sub (ws' := [(h5, .inl (cI, 7, .inl f19)), (h0, .inr (0, [.int x2, .int x3, .ref h4, .ref h5, .int x6, .int x7, .int x8, .ref h9, .ref h10, .int x_16, .int x_15, .int x13, .int x14, .int x15])), (h9, .inl (cI, 4, .inl f_19)), (h4, .inl (cI, 28, .inl f17)), (h10, .inl (cI, 4, .inl f_18))]) [0, 1, 2, 3, 4] (by decide) rfl) hS (lv_sub hl [0, 1, 2, 3] rfl)
          · have fc_29 : v_27.toInt = (3 : Int) := i_eq rfl (by decide) c_29
            refine lv_aload_n hx hb dX0_chooseGifts_54 rfl (lv_at hl 1 rfl) ?_
            refine va_get (D := D) (ci := 0) (v := .ref h9) (C := RX0) (T := TX0) (N := 14) hx hb hts inX0 hown hG.1 hP 1 rfl rfl 7 (by decide) (hts _ kw500) (fun _ h9 => h9) rfl dX0_chooseGifts_55 ?_
            refine lv_iload_n hx hb dX0_chooseGifts_58 rfl (lv_at hl 2 rfl) ?_
            refine lv_iload_n hx hb dX0_chooseGifts_59 rfl (lv_at hl 0 rfl) ?_
            refine xa_istE hx hb hG hP hD hS 2 rfl (vin (by decide +kernel)) dX0_chooseGifts_60 (fun f_31 H locs ef_31 hP hD hS => ?_)
            have hP : va_P D vwCl [(h5, .inl (cI, 7, .inl f19)), (h0, .inr (0, [.int x2, .int x3, .ref h4, .ref h5, .int x6, .int x7, .int x8, .ref h9, .ref h10, .int x_16, .int x_15, .int x13, .int x14, .int x15])), (h9, .inl (cI, 4, .inl f_31)), (h4, .inl (cI, 28, .inl f17)), (h10, .inl (cI, 4, .inl f_18))] H := hP
            have hD : va_D A [(h5, .inl (cI, 7, .inl f19)), (h0, .inr (0, [.int x2, .int x3, .ref h4, .ref h5, .int x6, .int x7, .int x8, .ref h9, .ref h10, .int x_16, .int x_15, .int x13, .int x14, .int x15])), (h9, .inl (cI, 4, .inl f_31)), (h4, .inl (cI, 28, .inl f17)), (h10, .inl (cI, 4, .inl f_18))] := hD
            have a_32 := st_ar ef_31 (by have z3 : (3 : Int32).toInt = 3 := (by decide); omega) g_23 (by have z3 : (3 : Int32).toInt = 3 := (by decide); intros; omega)
            have o_33 : PT f_31 (3) (x_17.toInt) := st_ptn ef_31 (by have z3 : (3 : Int32).toInt = 3 := (by decide); omega) (by decide) rfl
            refine lv_aload_n hx hb dX0_chooseGifts_61 rfl (lv_at hl 1 rfl) ?_
            refine lv_iload_n hx hb dX0_chooseGifts_62 rfl (lv_at hl 2 rfl) ?_
            refine lv_iconst (v := 1) hx hb dX0_chooseGifts_63 (by decide +kernel) ?_
            refine lv_iadd hx hb dX0_chooseGifts_64 ?_
            refine xt_i (v := 4) (by decide +kernel) ?_
            refine lv_iload_n hx hb dX0_chooseGifts_65 rfl (lv_at hl 3 rfl) ?_
            refine lv_iconst (v := 1) hx hb dX0_chooseGifts_66 (by decide +kernel) ?_
            refine lv_iadd hx hb dX0_chooseGifts_67 ?_
            refine lv_topi (fun v_34 ev_34 => ?_)
            have gv_34 : v_34.toInt = x1.toInt + (1 : Int) := by
              have zx : (x1 : Int32).toInt = x1.toInt := rfl
              have zy : (1 : Int32).toInt = (1 : Int) := (by decide)
              rw [ev_34, i32_add (by rw [zx, zy]; omega) (by rw [zx, zy]; omega), zx, zy]
            have o_35 : KP f_19 f_31 (3) := kp_st ef_31 (by decide)
            have o_36 : KP f16 f_31 (3) := kp_tr g_24 o_35 (by omega) (by omega)
            have o_37 : GV f_31 (4) (x1.toInt + 1) := gv_new ef_31 (by decide) (by decide) (by omega)
            refine xc_core (wr := [(h5, .inl (cI, 7, .inl f19))]) (k := 0) (n := 0) (xc_runV (As := [.int 4, .int v_34]) (rest := []) hx hb hml hown hts hG hE hP hD hS hA [1, 2, 3, 4] (by decide) rfl (sX0_chooseGifts_1 l D cB cI cJ cZ aK aV h0 v_34 x2 x3 h4 h5 x6 x7 x8 h9 h10 x_16 x_15 x13 x14 x15 f_31 f17 f_18 (by omega) (by omega) (by omega) (by omega) (by omega) (by omega) (by omega) (by omega) (by omega) (by omega) (by omega) (a_32.mono (by omega) (by omega) (by omega)) (GV.c o_37 (by omega) (by omega))) kw1073 kw1070 kw1072 kw30 kw124 (show XD yX0_chooseGifts 2 from by decide +kernel) (by decide) rfl rfl 1 rfl hl.1 rfl (Nat.le_of_ble_eq_true rfl) dX0_chooseGifts_68 (by decide)) hP hD hS hA [1, 2, 3, 4] [0] rfl rfl (by decide) (by decide) (Nat.le_of_ble_eq_true rfl) (Nat.le_of_ble_eq_true rfl) (fun r w1 H locs hpost hP hD hS => ?_)
            obtain ⟨v_38, v_39, f_40, rfl, rfl⟩ := hpost
            have hP : va_P D vwCl [(h5, .inl (cI, 7, .inl f19)), (h0, .inr (0, [.int x2, .int x3, .ref h4, .ref h5, .int x6, .int x7, .int x8, .ref h9, .ref h10, .int v_38, .int v_39, .int x13, .int x14, .int x15])), (h9, .inl (cI, 4, .inl f_31)), (h4, .inl (cI, 28, .inl f17)), (h10, .inl (cI, 4, .inl f_40))] H := hP
            have hD : va_D A [(h5, .inl (cI, 7, .inl f19)), (h0, .inr (0, [.int x2, .int x3, .ref h4, .ref h5, .int x6, .int x7, .int x8, .ref h9, .ref h10, .int v_38, .int v_39, .int x13, .int x14, .int x15])), (h9, .inl (cI, 4, .inl f_31)), (h4, .inl (cI, 28, .inl f17)), (h10, .inl (cI, 4, .inl f_40))] := hD
            obtain ⟨v_41, ev_41⟩ : ∃ y : Int32, y = x_17 + 1 := ⟨_, rfl⟩
            have gv_41 : v_41.toInt = x_17.toInt + 1 := by
              have zy : (1 : Int32).toInt = 1 := by decide
              rw [ev_41, i32_add (by rw [zy]; omega) (by rw [zy]; omega), zy]
            refine lv_iinc (v := v_41) (lv' := [(3, .int v_41), (0, .ref h0), (1, .int 3), (2, .int x1)]) hx hb dX0_chooseGifts_71 hl (k := 0) rfl (by rw [ev_41]; rfl) (by decide) rfl (fun ls hl => ?_)
            refine lv_goto (tgt := 36) hx hb dX0_chooseGifts_74 (by decide) ?_
            exact ihlp_20  v_39 v_38 v_41 f_40 f_31 _ _ _ (by omega) (by omega) (a_32.mono (by omega) (by omega) (by omega)) o_36 (by omega) (hP.sub (ws' := [(h5, .inl (cI, 7, .inl f19)), (h0, .inr (0, [.int x2, .int x3, .ref h4, .ref h5, .int x6, .int x7, .int x8, .ref h9, .ref h10, .int v_38, .int v_39, .int x13, .int x14, .int x15])), (h9, .inl (cI, 4, .inl f_31)), (h4, .inl (cI, 28, .inl f17)), (h10, .inl (cI, 4, .inl f_40))]) [0, 1, 2, 3, 4] rfl) (hD.sub (ws' := [(h5, .inl (cI, 7, .inl f19)), (h0, .inr (0, [.int x2, .int x3, .ref h4, .ref h5, .int x6, .int x7, .int x8, .ref h9, .ref h10, .int v_38, .int v_39, .int x13, .int x14, .int x15])), (h9, .inl (cI, 4, .inl f_31)), (h4, .inl (cI, 28, .inl f17)), (h10, .inl (cI, 4, .inl f_40))]) [0, 1, 2, 3, 4] (by decide) rfl) hS (lv_sub hl [0, 1, 2, 3] rfl)
    exact lp_20 9 v_8 v_7 0 f_9 f_2 _ _ _ (by have zc0 : (0 : Int32).toInt = 0 := (by decide); omega) (by have zc0 : (0 : Int32).toInt = 0 := (by decide); omega) (a_3.mono (by have zc0 : (0 : Int32).toInt = 0 := (by decide); omega) (by have zc0 : (0 : Int32).toInt = 0 := (by decide); omega) (by have zc0 : (0 : Int32).toInt = 0 := (by decide); omega)) o_5 (by have zc0 : (0 : Int32).toInt = 0 := (by decide); omega) (hP.sub (ws' := [(h5, .inl (cI, 7, .inl f19)), (h0, .inr (0, [.int x2, .int x3, .ref h4, .ref h5, .int x6, .int x7, .int x8, .ref h9, .ref h10, .int v_7, .int v_8, .int x13, .int x14, .int x15])), (h9, .inl (cI, 4, .inl f_2)), (h4, .inl (cI, 28, .inl f17)), (h10, .inl (cI, 4, .inl f_9))]) [0, 1, 2, 3, 4] rfl) (hD.sub (ws' := [(h5, .inl (cI, 7, .inl f19)), (h0, .inr (0, [.int x2, .int x3, .ref h4, .ref h5, .int x6, .int x7, .int x8, .ref h9, .ref h10, .int v_7, .int v_8, .int x13, .int x14, .int x15])), (h9, .inl (cI, 4, .inl f_2)), (h4, .inl (cI, 28, .inl f17)), (h10, .inl (cI, 4, .inl f_9))]) [0, 1, 2, 3, 4] (by decide) rfl) hS (lv_sub hl [0, 1, 2, 3] rfl)
  · have fc_1 : x2.toInt ≤ (3 : Int) := i_nlt (by decide) rfl c_1
    refine lv_iload_n hx hb dX0_chooseGifts_8 rfl (lv_at hl 2 rfl) ?_
    refine lv_iconst (v := 2) hx hb dX0_chooseGifts_9 (by decide +kernel) ?_
    refine lv_icmp_lt (tgt := 18) hx hb dX0_chooseGifts_10 (by decide) (fun c_42 => ?_) (fun c_42 => ?_)
    · have fc_42 : x1.toInt < (2 : Int) := i_lt rfl (by decide) c_42
      have hP9 := hP.sub (ws' := [(h0, .inr (0, [.int x2, .int x3, .ref h4, .ref h5, .int x6, .int x7, .int x8, .ref h9, .ref h10, .int x11, .int x12, .int x13, .int x14, .int x15])), (h9, .inl (cI, 4, .inl f16)), (h4, .inl (cI, 28, .inl f17)), (h10, .inl (cI, 4, .inl f18)), (h5, .inl (cI, 7, .inl f19))]) [0, 1, 2, 3, 4] rfl
      have hD9 := hD.sub (ws' := [(h0, .inr (0, [.int x2, .int x3, .ref h4, .ref h5, .int x6, .int x7, .int x8, .ref h9, .ref h10, .int x11, .int x12, .int x13, .int x14, .int x15])), (h9, .inl (cI, 4, .inl f16)), (h4, .inl (cI, 28, .inl f17)), (h10, .inl (cI, 4, .inl f18)), (h5, .inl (cI, 7, .inl f19))]) [0, 1, 2, 3, 4] (by decide) rfl
      exact xr_v (rm := (rmL 9 0 0)) hx hb hr hlocks hAe hS hP9 hD9 (Nat.le_of_ble_eq_true rfl) (Nat.le_of_ble_eq_true rfl) dX0_chooseGifts_18 ⟨x11, x12, f16, f18, ga0.mono (by omega) (by omega) (by omega), kp_rf, rfl, rfl⟩
    · have fc_42 : (2 : Int) ≤ x1.toInt := i_nlt rfl (by decide) c_42
      have o_43 : EG f16 (x2.toInt) := eg_of go0 (by omega) (by omega)
      refine lv_aload_n hx hb dX0_chooseGifts_13 rfl (lv_at hl 0 rfl) ?_
      refine lv_iload_n hx hb dX0_chooseGifts_14 rfl (lv_at hl 2 rfl) ?_
      refine xc_core (wr := [(h5, .inl (cI, 7, .inl f19))]) (k := 0) (n := 0) (xc_runV (As := [.int x1]) (rest := []) hx hb hml hown hts hG hE hP hD hS hA [0, 1, 2, 3] (by decide) rfl (sX0_tryGifts_1 l D cB cI cJ cZ aK aV h0 x1 x2 x3 h4 h5 x6 x7 x8 h9 h10 x11 x12 x13 x14 x15 f16 f17 f18 (by omega) (by omega) (by omega) (by omega) (by omega) (by omega) (by omega) (by omega) (ga0.mono (by omega) (by omega) (by omega)) o_43) kw1077 kw1074 kw1076 kw31 kw124 (show XD yX0_tryGifts 1 from by decide +kernel) (by decide) rfl rfl 0 rfl hl.1 rfl (Nat.le_of_ble_eq_true rfl) dX0_chooseGifts_15 (by decide)) hP hD hS hA [0, 1, 2, 3] [4] rfl rfl (by decide) (by decide) (Nat.le_of_ble_eq_true rfl) (Nat.le_of_ble_eq_true rfl) (fun r w1 H locs hpost hP hD hS => ?_)
      obtain ⟨v_44, v_45, f_46, rfl, rfl⟩ := hpost
      have hP : va_P D vwCl [(h5, .inl (cI, 7, .inl f19)), (h0, .inr (0, [.int x2, .int x3, .ref h4, .ref h5, .int x6, .int x7, .int x8, .ref h9, .ref h10, .int v_44, .int v_45, .int x13, .int x14, .int x15])), (h9, .inl (cI, 4, .inl f16)), (h4, .inl (cI, 28, .inl f17)), (h10, .inl (cI, 4, .inl f_46))] H := hP
      have hD : va_D A [(h5, .inl (cI, 7, .inl f19)), (h0, .inr (0, [.int x2, .int x3, .ref h4, .ref h5, .int x6, .int x7, .int x8, .ref h9, .ref h10, .int v_44, .int v_45, .int x13, .int x14, .int x15])), (h9, .inl (cI, 4, .inl f16)), (h4, .inl (cI, 28, .inl f17)), (h10, .inl (cI, 4, .inl f_46))] := hD
      have hP9 := hP.sub (ws' := [(h0, .inr (0, [.int x2, .int x3, .ref h4, .ref h5, .int x6, .int x7, .int x8, .ref h9, .ref h10, .int v_44, .int v_45, .int x13, .int x14, .int x15])), (h9, .inl (cI, 4, .inl f16)), (h4, .inl (cI, 28, .inl f17)), (h10, .inl (cI, 4, .inl f_46)), (h5, .inl (cI, 7, .inl f19))]) [1, 2, 3, 4, 0] rfl
      have hD9 := hD.sub (ws' := [(h0, .inr (0, [.int x2, .int x3, .ref h4, .ref h5, .int x6, .int x7, .int x8, .ref h9, .ref h10, .int v_44, .int v_45, .int x13, .int x14, .int x15])), (h9, .inl (cI, 4, .inl f16)), (h4, .inl (cI, 28, .inl f17)), (h10, .inl (cI, 4, .inl f_46)), (h5, .inl (cI, 7, .inl f19))]) [1, 2, 3, 4, 0] (by decide) rfl
      exact xr_v (rm := (rmL 9 0 0)) hx hb hr hlocks hAe hS hP9 hD9 (Nat.le_of_ble_eq_true rfl) (Nat.le_of_ble_eq_true rfl) dX0_chooseGifts_18 ⟨v_44, v_45, f16, f_46, ga0.mono (by omega) (by omega) (by omega), kp_rf, rfl, rfl⟩
set_option maxHeartbeats 4000000 in
set_option maxRecDepth 100000 in
theorem sX0_chooseGifts_3 (l : Launch) (D : va_G) (cB cI cJ cZ : ClassId) (aK aV : Nat → Nat) (h0 : Nat) (x1 : Int32) (x2 : Int32) (x3 : Int32) (h4 : Nat) (h5 : Nat) (x6 : Int32) (x7 : Int32) (x8 : Int32) (h9 : Nat) (h10 : Nat) (x11 : Int32) (x12 : Int32) (x13 : Int32) (x14 : Int32) (x15 : Int32) (f16 : Nat → Int32) (f17 : Nat → Int32) (f18 : Nat → Int32) (f19 : Nat → Int32) (gh0 : 0 ≤ x2.toInt) (gh1 : 0 ≤ -x2.toInt + 4) (gh2 : 0 ≤ x3.toInt) (gh3 : 0 ≤ -x3.toInt + 7) (gh4 : 0 ≤ x7.toInt) (gh5 : 0 ≤ -x7.toInt + 6) (gh6 : 0 ≤ x8.toInt) (gh7 : 0 ≤ -x8.toInt + 6) (gh8 : 0 ≤ x2.toInt - 2) (gh9 : 0 ≤ x1.toInt) (gh10 : 0 ≤ -x1.toInt + 2) (ga0 : AR f16 (-1) (6) (4)) (ga1 : AR f19 (0) (3) (x3.toInt)) (go0 : GV f16 (2) (x1.toInt)) : MX l yX0_chooseGifts cX0_chooseGifts 4 none (rmL 10 0 0) D cB cI cJ cZ aK aV [.ref h0, .int 2, .int x1] [(h0, .inr (0, [.int x2, .int x3, .ref h4, .ref h5, .int x6, .int x7, .int x8, .ref h9, .ref h10, .int x11, .int x12, .int x13, .int x14, .int x15])), (h9, .inl (cI, 4, .inl f16)), (h4, .inl (cI, 28, .inl f17)), (h10, .inl (cI, 4, .inl f18)), (h5, .inl (cI, 7, .inl f19))] (fun r w1 => ∃ z1 : Int32, ∃ z2 : Int32, ∃ z3 : Nat → Int32, ∃ z4 : Nat → Int32, AR z3 (-1) (6) (4) ∧ KP f16 z3 (2) ∧ r = none ∧ w1 = [(h0, .inr (0, [.int x2, .int x3, .ref h4, .ref h5, .int x6, .int x7, .int x8, .ref h9, .ref h10, .int z1, .int z2, .int x13, .int x14, .int x15])), (h9, .inl (cI, 4, .inl z3)), (h4, .inl (cI, 28, .inl f17)), (h10, .inl (cI, 4, .inl z4)), (h5, .inl (cI, 7, .inl f19))]) := by
  refine MX.intro (by decide) (Nat.le_of_ble_eq_true rfl) ?_
  intro p e s m below meth c A ls hx hb hr hml hown hlocks hnm hts hG hE hA hS hP hD hl hAe
  have hl : lv_has ls 4 [(0, .ref h0), (1, .int 2), (2, .int x1)] := hl
  have hown : s.vm.findClass RX0 = some m.cls := hown
  refine lv_iload_n hx hb dX0_chooseGifts_0 rfl (lv_at hl 1 rfl) ?_
  refine lv_aload_n hx hb dX0_chooseGifts_1 rfl (lv_at hl 0 rfl) ?_
  refine va_get (D := D) (ci := 0) (v := .int x2) (C := RX0) (T := TX0) (N := 14) hx hb hts inX0 hown hG.1 hP 0 rfl rfl 0 (by decide) (hts _ kw489) (fun _ h9 => h9) rfl dX0_chooseGifts_2 ?_
  refine lv_icmp_lt (tgt := 19) hx hb dX0_chooseGifts_5 (by decide) (fun c_1 => ?_) (fun c_1 => ?_)
  · have fc_1 : (2 : Int) < x2.toInt := i_lt (by decide) rfl c_1
    refine lv_aload_n hx hb dX0_chooseGifts_19 rfl (lv_at hl 0 rfl) ?_
    refine va_get (D := D) (ci := 0) (v := .ref h9) (C := RX0) (T := TX0) (N := 14) hx hb hts inX0 hown hG.1 hP 0 rfl rfl 7 (by decide) (hts _ kw500) (fun _ h9 => h9) rfl dX0_chooseGifts_20 ?_
    refine lv_iload_n hx hb dX0_chooseGifts_23 rfl (lv_at hl 1 rfl) ?_
    refine lv_iconst (v := (-1)) hx hb dX0_chooseGifts_24 (by decide +kernel) ?_
    refine xa_istE hx hb hG hP hD hS 1 rfl (vin (by decide +kernel)) dX0_chooseGifts_25 (fun f_2 H locs ef_2 hP hD hS => ?_)
    have hP : va_P D vwCl [(h0, .inr (0, [.int x2, .int x3, .ref h4, .ref h5, .int x6, .int x7, .int x8, .ref h9, .ref h10, .int x11, .int x12, .int x13, .int x14, .int x15])), (h9, .inl (cI, 4, .inl f_2)), (h4, .inl (cI, 28, .inl f17)), (h10, .inl (cI, 4, .inl f18)), (h5, .inl (cI, 7, .inl f19))] H := hP
    have hD : va_D A [(h0, .inr (0, [.int x2, .int x3, .ref h4, .ref h5, .int x6, .int x7, .int x8, .ref h9, .ref h10, .int x11, .int x12, .int x13, .int x14, .int x15])), (h9, .inl (cI, 4, .inl f_2)), (h4, .inl (cI, 28, .inl f17)), (h10, .inl (cI, 4, .inl f18)), (h5, .inl (cI, 7, .inl f19))] := hD
    have a_3 := st_ar ef_2 (by have z2 : (2 : Int32).toInt = 2 := (by decide); have zm1 : ((-1) : Int32).toInt = (-1) := (by decide); omega) ga0 (by have z2 : (2 : Int32).toInt = 2 := (by decide); have zm1 : ((-1) : Int32).toInt = (-1) := (by decide); intros; omega)
    have o_4 : PT f_2 (2) (-1) := st_ptn ef_2 (by have z2 : (2 : Int32).toInt = 2 := (by decide); have zm1 : ((-1) : Int32).toInt = (-1) := (by decide); omega) (by decide) (by decide)
    refine lv_aload_n hx hb dX0_chooseGifts_26 rfl (lv_at hl 0 rfl) ?_
    refine lv_iload_n hx hb dX0_chooseGifts_27 rfl (lv_at hl 1 rfl) ?_
    refine lv_iconst (v := 1) hx hb dX0_chooseGifts_28 (by decide +kernel) ?_
    refine lv_iadd hx hb dX0_chooseGifts_29 ?_
    refine xt_i (v := 3) (by decide +kernel) ?_
    refine lv_iload_n hx hb dX0_chooseGifts_30 rfl (lv_at hl 2 rfl) ?_
    have o_5 : KP f16 f_2 (2) := kp_st ef_2 (by decide)
    have o_6 : GV f_2 (3) (x1.toInt) := gv_keep go0 o_5 (by omega)
    refine xc_core (wr := []) (k := 0) (n := 0) (xc_runV (As := [.int 3, .int x1]) (rest := []) hx hb hml hown hts hG hE hP hD hS hA [0, 1, 2, 3, 4] (by decide) rfl (sX0_chooseGifts_2 l D cB cI cJ cZ aK aV h0 x1 x2 x3 h4 h5 x6 x7 x8 h9 h10 x11 x12 x13 x14 x15 f_2 f17 f18 f19 (by omega) (by omega) (by omega) (by omega) (by omega) (by omega) (by omega) (by omega) (by omega) (by omega) (by omega) (a_3.mono (by omega) (by omega) (by omega)) (ga1.mono (by omega) (by omega) (by omega)) o_6) kw1073 kw1070 kw1072 kw30 kw124 (show XD yX0_chooseGifts 2 from by decide +kernel) (by decide) rfl rfl 0 rfl hl.1 rfl (Nat.le_of_ble_eq_true rfl) dX0_chooseGifts_31 (by decide)) hP hD hS hA [0, 1, 2, 3, 4] [] rfl rfl (by decide) (by decide) (Nat.le_of_ble_eq_true rfl) (Nat.le_of_ble_eq_true rfl) (fun r w1 H locs hpost hP hD hS => ?_)
    obtain ⟨v_7, v_8, f_9, f_10, a_11, o_12, rfl, rfl⟩ := hpost
    have hP : va_P D vwCl [(h0, .inr (0, [.int x2, .int x3, .ref h4, .ref h5, .int x6, .int x7, .int x8, .ref h9, .ref h10, .int v_7, .int v_8, .int x13, .int x14, .int x15])), (h9, .inl (cI, 4, .inl f_9)), (h4, .inl (cI, 28, .inl f17)), (h10, .inl (cI, 4, .inl f_10)), (h5, .inl (cI, 7, .inl f19))] H := hP
    have hD : va_D A [(h0, .inr (0, [.int x2, .int x3, .ref h4, .ref h5, .int x6, .int x7, .int x8, .ref h9, .ref h10, .int v_7, .int v_8, .int x13, .int x14, .int x15])), (h9, .inl (cI, 4, .inl f_9)), (h4, .inl (cI, 28, .inl f17)), (h10, .inl (cI, 4, .inl f_10)), (h5, .inl (cI, 7, .inl f19))] := hD
    have o_13 : KP f16 f_9 (2) := kp_tr o_5 o_12 (by omega) (by omega)
    refine lv_iconst (v := 0) hx hb dX0_chooseGifts_34 (by decide +kernel) ?_
    refine lv_istore_n (lv' := [(3, .int 0), (0, .ref h0), (1, .int 2), (2, .int x1)]) hx hb dX0_chooseGifts_35 rfl hl (by decide) rfl (fun ls hl => ?_)
    have lp_24 : ∀ (n : Nat) (x_19 x_20 x_21 : Int32) (f_22 : Nat → Int32) (f_23 : Nat → Int32) (H : Heap) (locs : List Loc) (ls : Array Slot), 0 ≤ x_21.toInt → 0 ≤ x3.toInt - x_21.toInt → AR f_23 (-1) (6) (4) → KP f16 f_23 (2) → -x_21.toInt + 7 < n → va_P D vwCl [(h0, .inr (0, [.int x2, .int x3, .ref h4, .ref h5, .int x6, .int x7, .int x8, .ref h9, .ref h10, .int x_20, .int x_19, .int x13, .int x14, .int x15])), (h9, .inl (cI, 4, .inl f_23)), (h4, .inl (cI, 28, .inl f17)), (h10, .inl (cI, 4, .inl f_22)), (h5, .inl (cI, 7, .inl f19))] H → va_D A [(h0, .inr (0, [.int x2, .int x3, .ref h4, .ref h5, .int x6, .int x7, .int x8, .ref h9, .ref h10, .int x_20, .int x_19, .int x13, .int x14, .int x15])), (h9, .inl (cI, 4, .inl f_23)), (h4, .inl (cI, 28, .inl f17)), (h10, .inl (cI, 4, .inl f_22)), (h5, .inl (cI, 7, .inl f19))] → va_S A s.heap H locs → lv_has ls 4 [(3, .int x_21), (0, .ref h0), (1, .int 2), (2, .int x1)] → W p l e (rmL 10 0 0) s m [.ref h0, .int 2, .int x1].toArray below meth c H locs 0 0 (ZX D below [.ref h0, .int 2, .int x1] s (rmL 10 0 0) [(h0, .inr (0, [.int x2, .int x3, .ref h4, .ref h5, .int x6, .int x7, .int x8, .ref h9, .ref h10, .int x11, .int x12, .int x13, .int x14, .int x15])), (h9, .inl (cI, 4, .inl f16)), (h4, .inl (cI, 28, .inl f17)), (h10, .inl (cI, 4, .inl f18)), (h5, .inl (cI, 7, .inl f19))] (fun r w1 => ∃ z1 : Int32, ∃ z2 : Int32, ∃ z3 : Nat → Int32, ∃ z4 : Nat → Int32, AR z3 (-1) (6) (4) ∧ KP f16 z3 (2) ∧ r = none ∧ w1 = [(h0, .inr (0, [.int x2, .int x3, .ref h4, .ref h5, .int x6, .int x7, .int x8, .ref h9, .ref h10, .int z1, .int z2, .int x13, .int x14, .int x15])), (h9, .inl (cI, 4, .inl z3)), (h4, .inl (cI, 28, .inl f17)), (h10, .inl (cI, 4, .inl z4)), (h5, .inl (cI, 7, .inl f19))])) (F0 m 36 ls []) := by
      intro n
      induction n with
      | zero => intro x_19 x_20 x_21 f_22 f_23 H locs ls g_25 g_26 g_27 g_28 g_29; omega
      | succ n ihlp_24 =>
        intro x_19 x_20 x_21 f_22 f_23 H locs ls g_25 g_26 g_27 g_28 g_29 hP hD hS hl
        refine lv_iload_n hx hb dX0_chooseGifts_36 rfl (lv_at hl 0 rfl) ?_
        refine lv_aload_n hx hb dX0_chooseGifts_37 rfl (lv_at hl 1 rfl) ?_
        refine va_get (D := D) (ci := 0) (v := .int x3) (C := RX0) (T := TX0) (N := 14) hx hb hts inX0 hown hG.1 hP 0 rfl rfl 1 (by decide) (hts _ kw490) (fun _ h9 => h9) rfl dX0_chooseGifts_38 ?_
        refine lv_icmp_ge (tgt := 77) hx hb dX0_chooseGifts_41 (by decide) (fun c_30 => ?_) (fun c_30 => ?_)
        · have fc_30 : x3.toInt ≤ x_21.toInt := i_le rfl rfl c_30
          have hP9 := hP.sub (ws' := [(h0, .inr (0, [.int x2, .int x3, .ref h4, .ref h5, .int x6, .int x7, .int x8, .ref h9, .ref h10, .int x_20, .int x_19, .int x13, .int x14, .int x15])), (h9, .inl (cI, 4, .inl f_23)), (h4, .inl (cI, 28, .inl f17)), (h10, .inl (cI, 4, .inl f_22)), (h5, .inl (cI, 7, .inl f19))]) [0, 1, 2, 3, 4] rfl
          have hD9 := hD.sub (ws' := [(h0, .inr (0, [.int x2, .int x3, .ref h4, .ref h5, .int x6, .int x7, .int x8, .ref h9, .ref h10, .int x_20, .int x_19, .int x13, .int x14, .int x15])), (h9, .inl (cI, 4, .inl f_23)), (h4, .inl (cI, 28, .inl f17)), (h10, .inl (cI, 4, .inl f_22)), (h5, .inl (cI, 7, .inl f19))]) [0, 1, 2, 3, 4] (by decide) rfl
          exact xr_v (rm := (rmL 10 0 0)) hx hb hr hlocks hAe hS hP9 hD9 (Nat.le_of_ble_eq_true rfl) (Nat.le_of_ble_eq_true rfl) dX0_chooseGifts_77 ⟨x_20, x_19, f_23, f_22, g_27.mono (by omega) (by omega) (by omega), g_28, rfl, rfl⟩
        · have fc_30 : x_21.toInt < x3.toInt := i_nle rfl rfl c_30
          refine lv_aload_n hx hb dX0_chooseGifts_44 rfl (lv_at hl 1 rfl) ?_
          refine va_get (D := D) (ci := 0) (v := .ref h5) (C := RX0) (T := TX0) (N := 14) hx hb hts inX0 hown hG.1 hP 0 rfl rfl 3 (by decide) (hts _ kw492) (fun _ h9 => h9) rfl dX0_chooseGifts_45 ?_
          refine lv_iload_n hx hb dX0_chooseGifts_48 rfl (lv_at hl 0 rfl) ?_
          refine xa_ildR hx hb hG hP 4 rfl (vp_in_iff.mpr ⟨by omega, by omega⟩) dX0_chooseGifts_49 (fun v_31 hv => ?_)
          have g_32 := hv _ _ _ ga1 (by omega)
          refine lv_iload_n hx hb dX0_chooseGifts_50 rfl (lv_at hl 2 rfl) ?_
          refine lv_icmp_ne (tgt := 71) hx hb dX0_chooseGifts_51 (by decide) (fun c_33 => ?_) (fun c_33 => ?_)
          · have fc_33 : v_31.toInt ≠ (2 : Int) := i_ne rfl (by decide) c_33
            obtain ⟨v_34, ev_34⟩ : ∃ y : Int32, y = x_21 + 1 := ⟨_, rfl⟩
            have gv_34 : v_34.toInt = x_21.toInt + 1 := by
              have zy : (1 : Int32).toInt = 1 := by decide
              rw [ev_34, i32_add (by rw [zy]; omega) (by rw [zy]; omega), zy]
            refine lv_iinc (v := v_34) (lv' := [(3, .int v_34), (0, .ref h0), (1, .int 2), (2, .int x1)]) hx hb dX0_chooseGifts_71 hl (k := 0) rfl (by rw [ev_34]; rfl) (by decide) rfl (fun ls hl => ?_)
            refine lv_goto (tgt := 36) hx hb dX0_chooseGifts_74 (by decide) ?_
            exact ihlp_24  x_19 x_20 v_34 f_22 f_23 _ _ _ (by omega) (by omega) (g_27.mono (by omega) (by omega) (by omega)) g_28 (by omega) (hP.sub (ws' := [(h0, .inr (0, [.int x2, .int x3, .ref h4, .ref h5, .int x6, .int x7, .int x8, .ref h9, .ref h10, .int x_20, .int x_19, .int x13, .int x14, .int x15])), (h9, .inl (cI, 4, .inl f_23)), (h4, .inl (cI, 28, .inl f17)), (h10, .inl (cI, 4, .inl f_22)), (h5, .inl (cI, 7, .inl f19))]) [0, 1, 2, 3, 4] rfl) (hD.sub (ws' := [(h0, .inr (0, [.int x2, .int x3, .ref h4, .ref h5, .int x6, .int x7, .int x8, .ref h9, .ref h10, .int x_20, .int x_19, .int x13, .int x14, .int x15])), (h9, .inl (cI, 4, .inl f_23)), (h4, .inl (cI, 28, .inl f17)), (h10, .inl (cI, 4, .inl f_22)), (h5, .inl (cI, 7, .inl f19))]) [0, 1, 2, 3, 4] (by decide) rfl) hS (lv_sub hl [0, 1, 2, 3] rfl)
          · have fc_33 : v_31.toInt = (2 : Int) := i_eq rfl (by decide) c_33
            refine lv_aload_n hx hb dX0_chooseGifts_54 rfl (lv_at hl 1 rfl) ?_
            refine va_get (D := D) (ci := 0) (v := .ref h9) (C := RX0) (T := TX0) (N := 14) hx hb hts inX0 hown hG.1 hP 0 rfl rfl 7 (by decide) (hts _ kw500) (fun _ h9 => h9) rfl dX0_chooseGifts_55 ?_
            refine lv_iload_n hx hb dX0_chooseGifts_58 rfl (lv_at hl 2 rfl) ?_
            refine lv_iload_n hx hb dX0_chooseGifts_59 rfl (lv_at hl 0 rfl) ?_
            refine xa_istE hx hb hG hP hD hS 1 rfl (vin (by decide +kernel)) dX0_chooseGifts_60 (fun f_35 H locs ef_35 hP hD hS => ?_)
            have hP : va_P D vwCl [(h0, .inr (0, [.int x2, .int x3, .ref h4, .ref h5, .int x6, .int x7, .int x8, .ref h9, .ref h10, .int x_20, .int x_19, .int x13, .int x14, .int x15])), (h9, .inl (cI, 4, .inl f_35)), (h4, .inl (cI, 28, .inl f17)), (h10, .inl (cI, 4, .inl f_22)), (h5, .inl (cI, 7, .inl f19))] H := hP
            have hD : va_D A [(h0, .inr (0, [.int x2, .int x3, .ref h4, .ref h5, .int x6, .int x7, .int x8, .ref h9, .ref h10, .int x_20, .int x_19, .int x13, .int x14, .int x15])), (h9, .inl (cI, 4, .inl f_35)), (h4, .inl (cI, 28, .inl f17)), (h10, .inl (cI, 4, .inl f_22)), (h5, .inl (cI, 7, .inl f19))] := hD
            have a_36 := st_ar ef_35 (by have z2 : (2 : Int32).toInt = 2 := (by decide); omega) g_27 (by have z2 : (2 : Int32).toInt = 2 := (by decide); intros; omega)
            have o_37 : PT f_35 (2) (x_21.toInt) := st_ptn ef_35 (by have z2 : (2 : Int32).toInt = 2 := (by decide); omega) (by decide) rfl
            refine lv_aload_n hx hb dX0_chooseGifts_61 rfl (lv_at hl 1 rfl) ?_
            refine lv_iload_n hx hb dX0_chooseGifts_62 rfl (lv_at hl 2 rfl) ?_
            refine lv_iconst (v := 1) hx hb dX0_chooseGifts_63 (by decide +kernel) ?_
            refine lv_iadd hx hb dX0_chooseGifts_64 ?_
            refine xt_i (v := 3) (by decide +kernel) ?_
            refine lv_iload_n hx hb dX0_chooseGifts_65 rfl (lv_at hl 3 rfl) ?_
            refine lv_iconst (v := 1) hx hb dX0_chooseGifts_66 (by decide +kernel) ?_
            refine lv_iadd hx hb dX0_chooseGifts_67 ?_
            refine lv_topi (fun v_38 ev_38 => ?_)
            have gv_38 : v_38.toInt = x1.toInt + (1 : Int) := by
              have zx : (x1 : Int32).toInt = x1.toInt := rfl
              have zy : (1 : Int32).toInt = (1 : Int) := (by decide)
              rw [ev_38, i32_add (by rw [zx, zy]; omega) (by rw [zx, zy]; omega), zx, zy]
            have o_39 : KP f_23 f_35 (2) := kp_st ef_35 (by decide)
            have o_40 : KP f16 f_35 (2) := kp_tr g_28 o_39 (by omega) (by omega)
            have o_41 : GV f_35 (3) (x1.toInt + 1) := gv_new ef_35 (by decide) (by decide) (by omega)
            refine xc_core (wr := []) (k := 0) (n := 0) (xc_runV (As := [.int 3, .int v_38]) (rest := []) hx hb hml hown hts hG hE hP hD hS hA [0, 1, 2, 3, 4] (by decide) rfl (sX0_chooseGifts_2 l D cB cI cJ cZ aK aV h0 v_38 x2 x3 h4 h5 x6 x7 x8 h9 h10 x_20 x_19 x13 x14 x15 f_35 f17 f_22 f19 (by omega) (by omega) (by omega) (by omega) (by omega) (by omega) (by omega) (by omega) (by omega) (by omega) (by omega) (a_36.mono (by omega) (by omega) (by omega)) (ga1.mono (by omega) (by omega) (by omega)) (GV.c o_41 (by omega) (by omega))) kw1073 kw1070 kw1072 kw30 kw124 (show XD yX0_chooseGifts 2 from by decide +kernel) (by decide) rfl rfl 0 rfl hl.1 rfl (Nat.le_of_ble_eq_true rfl) dX0_chooseGifts_68 (by decide)) hP hD hS hA [0, 1, 2, 3, 4] [] rfl rfl (by decide) (by decide) (Nat.le_of_ble_eq_true rfl) (Nat.le_of_ble_eq_true rfl) (fun r w1 H locs hpost hP hD hS => ?_)
            obtain ⟨v_42, v_43, f_44, f_45, a_46, o_47, rfl, rfl⟩ := hpost
            have hP : va_P D vwCl [(h0, .inr (0, [.int x2, .int x3, .ref h4, .ref h5, .int x6, .int x7, .int x8, .ref h9, .ref h10, .int v_42, .int v_43, .int x13, .int x14, .int x15])), (h9, .inl (cI, 4, .inl f_44)), (h4, .inl (cI, 28, .inl f17)), (h10, .inl (cI, 4, .inl f_45)), (h5, .inl (cI, 7, .inl f19))] H := hP
            have hD : va_D A [(h0, .inr (0, [.int x2, .int x3, .ref h4, .ref h5, .int x6, .int x7, .int x8, .ref h9, .ref h10, .int v_42, .int v_43, .int x13, .int x14, .int x15])), (h9, .inl (cI, 4, .inl f_44)), (h4, .inl (cI, 28, .inl f17)), (h10, .inl (cI, 4, .inl f_45)), (h5, .inl (cI, 7, .inl f19))] := hD
            have o_48 : KP f16 f_44 (2) := kp_tr o_40 o_47 (by omega) (by omega)
            obtain ⟨v_49, ev_49⟩ : ∃ y : Int32, y = x_21 + 1 := ⟨_, rfl⟩
            have gv_49 : v_49.toInt = x_21.toInt + 1 := by
              have zy : (1 : Int32).toInt = 1 := by decide
              rw [ev_49, i32_add (by rw [zy]; omega) (by rw [zy]; omega), zy]
            refine lv_iinc (v := v_49) (lv' := [(3, .int v_49), (0, .ref h0), (1, .int 2), (2, .int x1)]) hx hb dX0_chooseGifts_71 hl (k := 0) rfl (by rw [ev_49]; rfl) (by decide) rfl (fun ls hl => ?_)
            refine lv_goto (tgt := 36) hx hb dX0_chooseGifts_74 (by decide) ?_
            exact ihlp_24  v_43 v_42 v_49 f_45 f_44 _ _ _ (by omega) (by omega) (a_46.mono (by omega) (by omega) (by omega)) o_48 (by omega) (hP.sub (ws' := [(h0, .inr (0, [.int x2, .int x3, .ref h4, .ref h5, .int x6, .int x7, .int x8, .ref h9, .ref h10, .int v_42, .int v_43, .int x13, .int x14, .int x15])), (h9, .inl (cI, 4, .inl f_44)), (h4, .inl (cI, 28, .inl f17)), (h10, .inl (cI, 4, .inl f_45)), (h5, .inl (cI, 7, .inl f19))]) [0, 1, 2, 3, 4] rfl) (hD.sub (ws' := [(h0, .inr (0, [.int x2, .int x3, .ref h4, .ref h5, .int x6, .int x7, .int x8, .ref h9, .ref h10, .int v_42, .int v_43, .int x13, .int x14, .int x15])), (h9, .inl (cI, 4, .inl f_44)), (h4, .inl (cI, 28, .inl f17)), (h10, .inl (cI, 4, .inl f_45)), (h5, .inl (cI, 7, .inl f19))]) [0, 1, 2, 3, 4] (by decide) rfl) hS (lv_sub hl [0, 1, 2, 3] rfl)
    exact lp_24 9 v_8 v_7 0 f_10 f_9 _ _ _ (by have zc0 : (0 : Int32).toInt = 0 := (by decide); omega) (by have zc0 : (0 : Int32).toInt = 0 := (by decide); omega) (a_11.mono (by have zc0 : (0 : Int32).toInt = 0 := (by decide); omega) (by have zc0 : (0 : Int32).toInt = 0 := (by decide); omega) (by have zc0 : (0 : Int32).toInt = 0 := (by decide); omega)) o_13 (by have zc0 : (0 : Int32).toInt = 0 := (by decide); omega) (hP.sub (ws' := [(h0, .inr (0, [.int x2, .int x3, .ref h4, .ref h5, .int x6, .int x7, .int x8, .ref h9, .ref h10, .int v_7, .int v_8, .int x13, .int x14, .int x15])), (h9, .inl (cI, 4, .inl f_9)), (h4, .inl (cI, 28, .inl f17)), (h10, .inl (cI, 4, .inl f_10)), (h5, .inl (cI, 7, .inl f19))]) [0, 1, 2, 3, 4] rfl) (hD.sub (ws' := [(h0, .inr (0, [.int x2, .int x3, .ref h4, .ref h5, .int x6, .int x7, .int x8, .ref h9, .ref h10, .int v_7, .int v_8, .int x13, .int x14, .int x15])), (h9, .inl (cI, 4, .inl f_9)), (h4, .inl (cI, 28, .inl f17)), (h10, .inl (cI, 4, .inl f_10)), (h5, .inl (cI, 7, .inl f19))]) [0, 1, 2, 3, 4] (by decide) rfl) hS (lv_sub hl [0, 1, 2, 3] rfl)
  · have fc_1 : x2.toInt ≤ (2 : Int) := i_nlt (by decide) rfl c_1
    refine lv_iload_n hx hb dX0_chooseGifts_8 rfl (lv_at hl 2 rfl) ?_
    refine lv_iconst (v := 2) hx hb dX0_chooseGifts_9 (by decide +kernel) ?_
    refine lv_icmp_lt (tgt := 18) hx hb dX0_chooseGifts_10 (by decide) (fun c_50 => ?_) (fun c_50 => ?_)
    · have fc_50 : x1.toInt < (2 : Int) := i_lt rfl (by decide) c_50
      have hP9 := hP.sub (ws' := [(h0, .inr (0, [.int x2, .int x3, .ref h4, .ref h5, .int x6, .int x7, .int x8, .ref h9, .ref h10, .int x11, .int x12, .int x13, .int x14, .int x15])), (h9, .inl (cI, 4, .inl f16)), (h4, .inl (cI, 28, .inl f17)), (h10, .inl (cI, 4, .inl f18)), (h5, .inl (cI, 7, .inl f19))]) [0, 1, 2, 3, 4] rfl
      have hD9 := hD.sub (ws' := [(h0, .inr (0, [.int x2, .int x3, .ref h4, .ref h5, .int x6, .int x7, .int x8, .ref h9, .ref h10, .int x11, .int x12, .int x13, .int x14, .int x15])), (h9, .inl (cI, 4, .inl f16)), (h4, .inl (cI, 28, .inl f17)), (h10, .inl (cI, 4, .inl f18)), (h5, .inl (cI, 7, .inl f19))]) [0, 1, 2, 3, 4] (by decide) rfl
      exact xr_v (rm := (rmL 10 0 0)) hx hb hr hlocks hAe hS hP9 hD9 (Nat.le_of_ble_eq_true rfl) (Nat.le_of_ble_eq_true rfl) dX0_chooseGifts_18 ⟨x11, x12, f16, f18, ga0.mono (by omega) (by omega) (by omega), kp_rf, rfl, rfl⟩
    · have fc_50 : (2 : Int) ≤ x1.toInt := i_nlt rfl (by decide) c_50
      have o_51 : EG f16 (x2.toInt) := eg_of go0 (by omega) (by omega)
      refine lv_aload_n hx hb dX0_chooseGifts_13 rfl (lv_at hl 0 rfl) ?_
      refine lv_iload_n hx hb dX0_chooseGifts_14 rfl (lv_at hl 2 rfl) ?_
      refine xc_core (wr := [(h5, .inl (cI, 7, .inl f19))]) (k := 0) (n := 0) (xc_runV (As := [.int x1]) (rest := []) hx hb hml hown hts hG hE hP hD hS hA [0, 1, 2, 3] (by decide) rfl (sX0_tryGifts_1 l D cB cI cJ cZ aK aV h0 x1 x2 x3 h4 h5 x6 x7 x8 h9 h10 x11 x12 x13 x14 x15 f16 f17 f18 (by omega) (by omega) (by omega) (by omega) (by omega) (by omega) (by omega) (by omega) (ga0.mono (by omega) (by omega) (by omega)) o_51) kw1077 kw1074 kw1076 kw31 kw124 (show XD yX0_tryGifts 1 from by decide +kernel) (by decide) rfl rfl 0 rfl hl.1 rfl (Nat.le_of_ble_eq_true rfl) dX0_chooseGifts_15 (by decide)) hP hD hS hA [0, 1, 2, 3] [4] rfl rfl (by decide) (by decide) (Nat.le_of_ble_eq_true rfl) (Nat.le_of_ble_eq_true rfl) (fun r w1 H locs hpost hP hD hS => ?_)
      obtain ⟨v_52, v_53, f_54, rfl, rfl⟩ := hpost
      have hP : va_P D vwCl [(h5, .inl (cI, 7, .inl f19)), (h0, .inr (0, [.int x2, .int x3, .ref h4, .ref h5, .int x6, .int x7, .int x8, .ref h9, .ref h10, .int v_52, .int v_53, .int x13, .int x14, .int x15])), (h9, .inl (cI, 4, .inl f16)), (h4, .inl (cI, 28, .inl f17)), (h10, .inl (cI, 4, .inl f_54))] H := hP
      have hD : va_D A [(h5, .inl (cI, 7, .inl f19)), (h0, .inr (0, [.int x2, .int x3, .ref h4, .ref h5, .int x6, .int x7, .int x8, .ref h9, .ref h10, .int v_52, .int v_53, .int x13, .int x14, .int x15])), (h9, .inl (cI, 4, .inl f16)), (h4, .inl (cI, 28, .inl f17)), (h10, .inl (cI, 4, .inl f_54))] := hD
      have hP9 := hP.sub (ws' := [(h0, .inr (0, [.int x2, .int x3, .ref h4, .ref h5, .int x6, .int x7, .int x8, .ref h9, .ref h10, .int v_52, .int v_53, .int x13, .int x14, .int x15])), (h9, .inl (cI, 4, .inl f16)), (h4, .inl (cI, 28, .inl f17)), (h10, .inl (cI, 4, .inl f_54)), (h5, .inl (cI, 7, .inl f19))]) [1, 2, 3, 4, 0] rfl
      have hD9 := hD.sub (ws' := [(h0, .inr (0, [.int x2, .int x3, .ref h4, .ref h5, .int x6, .int x7, .int x8, .ref h9, .ref h10, .int v_52, .int v_53, .int x13, .int x14, .int x15])), (h9, .inl (cI, 4, .inl f16)), (h4, .inl (cI, 28, .inl f17)), (h10, .inl (cI, 4, .inl f_54)), (h5, .inl (cI, 7, .inl f19))]) [1, 2, 3, 4, 0] (by decide) rfl
      exact xr_v (rm := (rmL 10 0 0)) hx hb hr hlocks hAe hS hP9 hD9 (Nat.le_of_ble_eq_true rfl) (Nat.le_of_ble_eq_true rfl) dX0_chooseGifts_18 ⟨v_52, v_53, f16, f_54, ga0.mono (by omega) (by omega) (by omega), kp_rf, rfl, rfl⟩
set_option maxHeartbeats 4000000 in
set_option maxRecDepth 100000 in
theorem sX0_chooseGifts_4 (l : Launch) (D : va_G) (cB cI cJ cZ : ClassId) (aK aV : Nat → Nat) (h0 : Nat) (x1 : Int32) (x2 : Int32) (x3 : Int32) (h4 : Nat) (h5 : Nat) (x6 : Int32) (x7 : Int32) (x8 : Int32) (h9 : Nat) (h10 : Nat) (x11 : Int32) (x12 : Int32) (x13 : Int32) (x14 : Int32) (x15 : Int32) (f16 : Nat → Int32) (f17 : Nat → Int32) (f18 : Nat → Int32) (f19 : Nat → Int32) (gh0 : 0 ≤ x2.toInt) (gh1 : 0 ≤ -x2.toInt + 4) (gh2 : 0 ≤ x3.toInt) (gh3 : 0 ≤ -x3.toInt + 7) (gh4 : 0 ≤ x7.toInt) (gh5 : 0 ≤ -x7.toInt + 6) (gh6 : 0 ≤ x8.toInt) (gh7 : 0 ≤ -x8.toInt + 6) (gh8 : 0 ≤ x2.toInt - 1) (gh9 : 0 ≤ x1.toInt) (gh10 : 0 ≤ -x1.toInt + 1) (ga0 : AR f16 (-1) (6) (4)) (ga1 : AR f19 (0) (3) (x3.toInt)) (go0 : GV f16 (1) (x1.toInt)) : MX l yX0_chooseGifts cX0_chooseGifts 4 none (rmL 11 0 0) D cB cI cJ cZ aK aV [.ref h0, .int 1, .int x1] [(h0, .inr (0, [.int x2, .int x3, .ref h4, .ref h5, .int x6, .int x7, .int x8, .ref h9, .ref h10, .int x11, .int x12, .int x13, .int x14, .int x15])), (h9, .inl (cI, 4, .inl f16)), (h4, .inl (cI, 28, .inl f17)), (h10, .inl (cI, 4, .inl f18)), (h5, .inl (cI, 7, .inl f19))] (fun r w1 => ∃ z1 : Int32, ∃ z2 : Int32, ∃ z3 : Nat → Int32, ∃ z4 : Nat → Int32, AR z3 (-1) (6) (4) ∧ KP f16 z3 (1) ∧ r = none ∧ w1 = [(h0, .inr (0, [.int x2, .int x3, .ref h4, .ref h5, .int x6, .int x7, .int x8, .ref h9, .ref h10, .int z1, .int z2, .int x13, .int x14, .int x15])), (h9, .inl (cI, 4, .inl z3)), (h4, .inl (cI, 28, .inl f17)), (h10, .inl (cI, 4, .inl z4)), (h5, .inl (cI, 7, .inl f19))]) := by
  refine MX.intro (by decide) (Nat.le_of_ble_eq_true rfl) ?_
  intro p e s m below meth c A ls hx hb hr hml hown hlocks hnm hts hG hE hA hS hP hD hl hAe
  have hl : lv_has ls 4 [(0, .ref h0), (1, .int 1), (2, .int x1)] := hl
  have hown : s.vm.findClass RX0 = some m.cls := hown
  refine lv_iload_n hx hb dX0_chooseGifts_0 rfl (lv_at hl 1 rfl) ?_
  refine lv_aload_n hx hb dX0_chooseGifts_1 rfl (lv_at hl 0 rfl) ?_
  refine va_get (D := D) (ci := 0) (v := .int x2) (C := RX0) (T := TX0) (N := 14) hx hb hts inX0 hown hG.1 hP 0 rfl rfl 0 (by decide) (hts _ kw489) (fun _ h9 => h9) rfl dX0_chooseGifts_2 ?_
  refine lv_icmp_lt (tgt := 19) hx hb dX0_chooseGifts_5 (by decide) (fun c_1 => ?_) (fun c_1 => ?_)
  · have fc_1 : (1 : Int) < x2.toInt := i_lt (by decide) rfl c_1
    refine lv_aload_n hx hb dX0_chooseGifts_19 rfl (lv_at hl 0 rfl) ?_
    refine va_get (D := D) (ci := 0) (v := .ref h9) (C := RX0) (T := TX0) (N := 14) hx hb hts inX0 hown hG.1 hP 0 rfl rfl 7 (by decide) (hts _ kw500) (fun _ h9 => h9) rfl dX0_chooseGifts_20 ?_
    refine lv_iload_n hx hb dX0_chooseGifts_23 rfl (lv_at hl 1 rfl) ?_
    refine lv_iconst (v := (-1)) hx hb dX0_chooseGifts_24 (by decide +kernel) ?_
    refine xa_istE hx hb hG hP hD hS 1 rfl (vin (by decide +kernel)) dX0_chooseGifts_25 (fun f_2 H locs ef_2 hP hD hS => ?_)
    have hP : va_P D vwCl [(h0, .inr (0, [.int x2, .int x3, .ref h4, .ref h5, .int x6, .int x7, .int x8, .ref h9, .ref h10, .int x11, .int x12, .int x13, .int x14, .int x15])), (h9, .inl (cI, 4, .inl f_2)), (h4, .inl (cI, 28, .inl f17)), (h10, .inl (cI, 4, .inl f18)), (h5, .inl (cI, 7, .inl f19))] H := hP
    have hD : va_D A [(h0, .inr (0, [.int x2, .int x3, .ref h4, .ref h5, .int x6, .int x7, .int x8, .ref h9, .ref h10, .int x11, .int x12, .int x13, .int x14, .int x15])), (h9, .inl (cI, 4, .inl f_2)), (h4, .inl (cI, 28, .inl f17)), (h10, .inl (cI, 4, .inl f18)), (h5, .inl (cI, 7, .inl f19))] := hD
    have a_3 := st_ar ef_2 (by have z1 : (1 : Int32).toInt = 1 := (by decide); have zm1 : ((-1) : Int32).toInt = (-1) := (by decide); omega) ga0 (by have z1 : (1 : Int32).toInt = 1 := (by decide); have zm1 : ((-1) : Int32).toInt = (-1) := (by decide); intros; omega)
    have o_4 : PT f_2 (1) (-1) := st_ptn ef_2 (by have z1 : (1 : Int32).toInt = 1 := (by decide); have zm1 : ((-1) : Int32).toInt = (-1) := (by decide); omega) (by decide) (by decide)
    refine lv_aload_n hx hb dX0_chooseGifts_26 rfl (lv_at hl 0 rfl) ?_
    refine lv_iload_n hx hb dX0_chooseGifts_27 rfl (lv_at hl 1 rfl) ?_
    refine lv_iconst (v := 1) hx hb dX0_chooseGifts_28 (by decide +kernel) ?_
    refine lv_iadd hx hb dX0_chooseGifts_29 ?_
    refine xt_i (v := 2) (by decide +kernel) ?_
    refine lv_iload_n hx hb dX0_chooseGifts_30 rfl (lv_at hl 2 rfl) ?_
    have o_5 : KP f16 f_2 (1) := kp_st ef_2 (by decide)
    have o_6 : GV f_2 (2) (x1.toInt) := gv_keep go0 o_5 (by omega)
    refine xc_core (wr := []) (k := 0) (n := 0) (xc_runV (As := [.int 2, .int x1]) (rest := []) hx hb hml hown hts hG hE hP hD hS hA [0, 1, 2, 3, 4] (by decide) rfl (sX0_chooseGifts_3 l D cB cI cJ cZ aK aV h0 x1 x2 x3 h4 h5 x6 x7 x8 h9 h10 x11 x12 x13 x14 x15 f_2 f17 f18 f19 (by omega) (by omega) (by omega) (by omega) (by omega) (by omega) (by omega) (by omega) (by omega) (by omega) (by omega) (a_3.mono (by omega) (by omega) (by omega)) (ga1.mono (by omega) (by omega) (by omega)) o_6) kw1073 kw1070 kw1072 kw30 kw124 (show XD yX0_chooseGifts 2 from by decide +kernel) (by decide) rfl rfl 0 rfl hl.1 rfl (Nat.le_of_ble_eq_true rfl) dX0_chooseGifts_31 (by decide)) hP hD hS hA [0, 1, 2, 3, 4] [] rfl rfl (by decide) (by decide) (Nat.le_of_ble_eq_true rfl) (Nat.le_of_ble_eq_true rfl) (fun r w1 H locs hpost hP hD hS => ?_)
    obtain ⟨v_7, v_8, f_9, f_10, a_11, o_12, rfl, rfl⟩ := hpost
    have hP : va_P D vwCl [(h0, .inr (0, [.int x2, .int x3, .ref h4, .ref h5, .int x6, .int x7, .int x8, .ref h9, .ref h10, .int v_7, .int v_8, .int x13, .int x14, .int x15])), (h9, .inl (cI, 4, .inl f_9)), (h4, .inl (cI, 28, .inl f17)), (h10, .inl (cI, 4, .inl f_10)), (h5, .inl (cI, 7, .inl f19))] H := hP
    have hD : va_D A [(h0, .inr (0, [.int x2, .int x3, .ref h4, .ref h5, .int x6, .int x7, .int x8, .ref h9, .ref h10, .int v_7, .int v_8, .int x13, .int x14, .int x15])), (h9, .inl (cI, 4, .inl f_9)), (h4, .inl (cI, 28, .inl f17)), (h10, .inl (cI, 4, .inl f_10)), (h5, .inl (cI, 7, .inl f19))] := hD
    have o_13 : KP f16 f_9 (1) := kp_tr o_5 o_12 (by omega) (by omega)
    refine lv_iconst (v := 0) hx hb dX0_chooseGifts_34 (by decide +kernel) ?_
    refine lv_istore_n (lv' := [(3, .int 0), (0, .ref h0), (1, .int 1), (2, .int x1)]) hx hb dX0_chooseGifts_35 rfl hl (by decide) rfl (fun ls hl => ?_)
    have lp_24 : ∀ (n : Nat) (x_19 x_20 x_21 : Int32) (f_22 : Nat → Int32) (f_23 : Nat → Int32) (H : Heap) (locs : List Loc) (ls : Array Slot), 0 ≤ x_21.toInt → 0 ≤ x3.toInt - x_21.toInt → AR f_23 (-1) (6) (4) → KP f16 f_23 (1) → -x_21.toInt + 7 < n → va_P D vwCl [(h0, .inr (0, [.int x2, .int x3, .ref h4, .ref h5, .int x6, .int x7, .int x8, .ref h9, .ref h10, .int x_20, .int x_19, .int x13, .int x14, .int x15])), (h9, .inl (cI, 4, .inl f_23)), (h4, .inl (cI, 28, .inl f17)), (h10, .inl (cI, 4, .inl f_22)), (h5, .inl (cI, 7, .inl f19))] H → va_D A [(h0, .inr (0, [.int x2, .int x3, .ref h4, .ref h5, .int x6, .int x7, .int x8, .ref h9, .ref h10, .int x_20, .int x_19, .int x13, .int x14, .int x15])), (h9, .inl (cI, 4, .inl f_23)), (h4, .inl (cI, 28, .inl f17)), (h10, .inl (cI, 4, .inl f_22)), (h5, .inl (cI, 7, .inl f19))] → va_S A s.heap H locs → lv_has ls 4 [(3, .int x_21), (0, .ref h0), (1, .int 1), (2, .int x1)] → W p l e (rmL 11 0 0) s m [.ref h0, .int 1, .int x1].toArray below meth c H locs 0 0 (ZX D below [.ref h0, .int 1, .int x1] s (rmL 11 0 0) [(h0, .inr (0, [.int x2, .int x3, .ref h4, .ref h5, .int x6, .int x7, .int x8, .ref h9, .ref h10, .int x11, .int x12, .int x13, .int x14, .int x15])), (h9, .inl (cI, 4, .inl f16)), (h4, .inl (cI, 28, .inl f17)), (h10, .inl (cI, 4, .inl f18)), (h5, .inl (cI, 7, .inl f19))] (fun r w1 => ∃ z1 : Int32, ∃ z2 : Int32, ∃ z3 : Nat → Int32, ∃ z4 : Nat → Int32, AR z3 (-1) (6) (4) ∧ KP f16 z3 (1) ∧ r = none ∧ w1 = [(h0, .inr (0, [.int x2, .int x3, .ref h4, .ref h5, .int x6, .int x7, .int x8, .ref h9, .ref h10, .int z1, .int z2, .int x13, .int x14, .int x15])), (h9, .inl (cI, 4, .inl z3)), (h4, .inl (cI, 28, .inl f17)), (h10, .inl (cI, 4, .inl z4)), (h5, .inl (cI, 7, .inl f19))])) (F0 m 36 ls []) := by
      intro n
      induction n with
      | zero => intro x_19 x_20 x_21 f_22 f_23 H locs ls g_25 g_26 g_27 g_28 g_29; omega
      | succ n ihlp_24 =>
        intro x_19 x_20 x_21 f_22 f_23 H locs ls g_25 g_26 g_27 g_28 g_29 hP hD hS hl
        refine lv_iload_n hx hb dX0_chooseGifts_36 rfl (lv_at hl 0 rfl) ?_
        refine lv_aload_n hx hb dX0_chooseGifts_37 rfl (lv_at hl 1 rfl) ?_
        refine va_get (D := D) (ci := 0) (v := .int x3) (C := RX0) (T := TX0) (N := 14) hx hb hts inX0 hown hG.1 hP 0 rfl rfl 1 (by decide) (hts _ kw490) (fun _ h9 => h9) rfl dX0_chooseGifts_38 ?_
        refine lv_icmp_ge (tgt := 77) hx hb dX0_chooseGifts_41 (by decide) (fun c_30 => ?_) (fun c_30 => ?_)
        · have fc_30 : x3.toInt ≤ x_21.toInt := i_le rfl rfl c_30
          have hP9 := hP.sub (ws' := [(h0, .inr (0, [.int x2, .int x3, .ref h4, .ref h5, .int x6, .int x7, .int x8, .ref h9, .ref h10, .int x_20, .int x_19, .int x13, .int x14, .int x15])), (h9, .inl (cI, 4, .inl f_23)), (h4, .inl (cI, 28, .inl f17)), (h10, .inl (cI, 4, .inl f_22)), (h5, .inl (cI, 7, .inl f19))]) [0, 1, 2, 3, 4] rfl
          have hD9 := hD.sub (ws' := [(h0, .inr (0, [.int x2, .int x3, .ref h4, .ref h5, .int x6, .int x7, .int x8, .ref h9, .ref h10, .int x_20, .int x_19, .int x13, .int x14, .int x15])), (h9, .inl (cI, 4, .inl f_23)), (h4, .inl (cI, 28, .inl f17)), (h10, .inl (cI, 4, .inl f_22)), (h5, .inl (cI, 7, .inl f19))]) [0, 1, 2, 3, 4] (by decide) rfl
          exact xr_v (rm := (rmL 11 0 0)) hx hb hr hlocks hAe hS hP9 hD9 (Nat.le_of_ble_eq_true rfl) (Nat.le_of_ble_eq_true rfl) dX0_chooseGifts_77 ⟨x_20, x_19, f_23, f_22, g_27.mono (by omega) (by omega) (by omega), g_28, rfl, rfl⟩
        · have fc_30 : x_21.toInt < x3.toInt := i_nle rfl rfl c_30
          refine lv_aload_n hx hb dX0_chooseGifts_44 rfl (lv_at hl 1 rfl) ?_
          refine va_get (D := D) (ci := 0) (v := .ref h5) (C := RX0) (T := TX0) (N := 14) hx hb hts inX0 hown hG.1 hP 0 rfl rfl 3 (by decide) (hts _ kw492) (fun _ h9 => h9) rfl dX0_chooseGifts_45 ?_
          refine lv_iload_n hx hb dX0_chooseGifts_48 rfl (lv_at hl 0 rfl) ?_
          refine xa_ildR hx hb hG hP 4 rfl (vp_in_iff.mpr ⟨by omega, by omega⟩) dX0_chooseGifts_49 (fun v_31 hv => ?_)
          have g_32 := hv _ _ _ ga1 (by omega)
          refine lv_iload_n hx hb dX0_chooseGifts_50 rfl (lv_at hl 2 rfl) ?_
          refine lv_icmp_ne (tgt := 71) hx hb dX0_chooseGifts_51 (by decide) (fun c_33 => ?_) (fun c_33 => ?_)
          · have fc_33 : v_31.toInt ≠ (1 : Int) := i_ne rfl (by decide) c_33
            obtain ⟨v_34, ev_34⟩ : ∃ y : Int32, y = x_21 + 1 := ⟨_, rfl⟩
            have gv_34 : v_34.toInt = x_21.toInt + 1 := by
              have zy : (1 : Int32).toInt = 1 := by decide
              rw [ev_34, i32_add (by rw [zy]; omega) (by rw [zy]; omega), zy]
            refine lv_iinc (v := v_34) (lv' := [(3, .int v_34), (0, .ref h0), (1, .int 1), (2, .int x1)]) hx hb dX0_chooseGifts_71 hl (k := 0) rfl (by rw [ev_34]; rfl) (by decide) rfl (fun ls hl => ?_)
            refine lv_goto (tgt := 36) hx hb dX0_chooseGifts_74 (by decide) ?_
            exact ihlp_24  x_19 x_20 v_34 f_22 f_23 _ _ _ (by omega) (by omega) (g_27.mono (by omega) (by omega) (by omega)) g_28 (by omega) (hP.sub (ws' := [(h0, .inr (0, [.int x2, .int x3, .ref h4, .ref h5, .int x6, .int x7, .int x8, .ref h9, .ref h10, .int x_20, .int x_19, .int x13, .int x14, .int x15])), (h9, .inl (cI, 4, .inl f_23)), (h4, .inl (cI, 28, .inl f17)), (h10, .inl (cI, 4, .inl f_22)), (h5, .inl (cI, 7, .inl f19))]) [0, 1, 2, 3, 4] rfl) (hD.sub (ws' := [(h0, .inr (0, [.int x2, .int x3, .ref h4, .ref h5, .int x6, .int x7, .int x8, .ref h9, .ref h10, .int x_20, .int x_19, .int x13, .int x14, .int x15])), (h9, .inl (cI, 4, .inl f_23)), (h4, .inl (cI, 28, .inl f17)), (h10, .inl (cI, 4, .inl f_22)), (h5, .inl (cI, 7, .inl f19))]) [0, 1, 2, 3, 4] (by decide) rfl) hS (lv_sub hl [0, 1, 2, 3] rfl)
          · have fc_33 : v_31.toInt = (1 : Int) := i_eq rfl (by decide) c_33
            refine lv_aload_n hx hb dX0_chooseGifts_54 rfl (lv_at hl 1 rfl) ?_
            refine va_get (D := D) (ci := 0) (v := .ref h9) (C := RX0) (T := TX0) (N := 14) hx hb hts inX0 hown hG.1 hP 0 rfl rfl 7 (by decide) (hts _ kw500) (fun _ h9 => h9) rfl dX0_chooseGifts_55 ?_
            refine lv_iload_n hx hb dX0_chooseGifts_58 rfl (lv_at hl 2 rfl) ?_
            refine lv_iload_n hx hb dX0_chooseGifts_59 rfl (lv_at hl 0 rfl) ?_
            refine xa_istE hx hb hG hP hD hS 1 rfl (vin (by decide +kernel)) dX0_chooseGifts_60 (fun f_35 H locs ef_35 hP hD hS => ?_)
            have hP : va_P D vwCl [(h0, .inr (0, [.int x2, .int x3, .ref h4, .ref h5, .int x6, .int x7, .int x8, .ref h9, .ref h10, .int x_20, .int x_19, .int x13, .int x14, .int x15])), (h9, .inl (cI, 4, .inl f_35)), (h4, .inl (cI, 28, .inl f17)), (h10, .inl (cI, 4, .inl f_22)), (h5, .inl (cI, 7, .inl f19))] H := hP
            have hD : va_D A [(h0, .inr (0, [.int x2, .int x3, .ref h4, .ref h5, .int x6, .int x7, .int x8, .ref h9, .ref h10, .int x_20, .int x_19, .int x13, .int x14, .int x15])), (h9, .inl (cI, 4, .inl f_35)), (h4, .inl (cI, 28, .inl f17)), (h10, .inl (cI, 4, .inl f_22)), (h5, .inl (cI, 7, .inl f19))] := hD
            have a_36 := st_ar ef_35 (by have z1 : (1 : Int32).toInt = 1 := (by decide); omega) g_27 (by have z1 : (1 : Int32).toInt = 1 := (by decide); intros; omega)
            have o_37 : PT f_35 (1) (x_21.toInt) := st_ptn ef_35 (by have z1 : (1 : Int32).toInt = 1 := (by decide); omega) (by decide) rfl
            refine lv_aload_n hx hb dX0_chooseGifts_61 rfl (lv_at hl 1 rfl) ?_
            refine lv_iload_n hx hb dX0_chooseGifts_62 rfl (lv_at hl 2 rfl) ?_
            refine lv_iconst (v := 1) hx hb dX0_chooseGifts_63 (by decide +kernel) ?_
            refine lv_iadd hx hb dX0_chooseGifts_64 ?_
            refine xt_i (v := 2) (by decide +kernel) ?_
            refine lv_iload_n hx hb dX0_chooseGifts_65 rfl (lv_at hl 3 rfl) ?_
            refine lv_iconst (v := 1) hx hb dX0_chooseGifts_66 (by decide +kernel) ?_
            refine lv_iadd hx hb dX0_chooseGifts_67 ?_
            refine lv_topi (fun v_38 ev_38 => ?_)
            have gv_38 : v_38.toInt = x1.toInt + (1 : Int) := by
              have zx : (x1 : Int32).toInt = x1.toInt := rfl
              have zy : (1 : Int32).toInt = (1 : Int) := (by decide)
              rw [ev_38, i32_add (by rw [zx, zy]; omega) (by rw [zx, zy]; omega), zx, zy]
            have o_39 : KP f_23 f_35 (1) := kp_st ef_35 (by decide)
            have o_40 : KP f16 f_35 (1) := kp_tr g_28 o_39 (by omega) (by omega)
            have o_41 : GV f_35 (2) (x1.toInt + 1) := gv_new ef_35 (by decide) (by decide) (by omega)
            refine xc_core (wr := []) (k := 0) (n := 0) (xc_runV (As := [.int 2, .int v_38]) (rest := []) hx hb hml hown hts hG hE hP hD hS hA [0, 1, 2, 3, 4] (by decide) rfl (sX0_chooseGifts_3 l D cB cI cJ cZ aK aV h0 v_38 x2 x3 h4 h5 x6 x7 x8 h9 h10 x_20 x_19 x13 x14 x15 f_35 f17 f_22 f19 (by omega) (by omega) (by omega) (by omega) (by omega) (by omega) (by omega) (by omega) (by omega) (by omega) (by omega) (a_36.mono (by omega) (by omega) (by omega)) (ga1.mono (by omega) (by omega) (by omega)) (GV.c o_41 (by omega) (by omega))) kw1073 kw1070 kw1072 kw30 kw124 (show XD yX0_chooseGifts 2 from by decide +kernel) (by decide) rfl rfl 0 rfl hl.1 rfl (Nat.le_of_ble_eq_true rfl) dX0_chooseGifts_68 (by decide)) hP hD hS hA [0, 1, 2, 3, 4] [] rfl rfl (by decide) (by decide) (Nat.le_of_ble_eq_true rfl) (Nat.le_of_ble_eq_true rfl) (fun r w1 H locs hpost hP hD hS => ?_)
            obtain ⟨v_42, v_43, f_44, f_45, a_46, o_47, rfl, rfl⟩ := hpost
            have hP : va_P D vwCl [(h0, .inr (0, [.int x2, .int x3, .ref h4, .ref h5, .int x6, .int x7, .int x8, .ref h9, .ref h10, .int v_42, .int v_43, .int x13, .int x14, .int x15])), (h9, .inl (cI, 4, .inl f_44)), (h4, .inl (cI, 28, .inl f17)), (h10, .inl (cI, 4, .inl f_45)), (h5, .inl (cI, 7, .inl f19))] H := hP
            have hD : va_D A [(h0, .inr (0, [.int x2, .int x3, .ref h4, .ref h5, .int x6, .int x7, .int x8, .ref h9, .ref h10, .int v_42, .int v_43, .int x13, .int x14, .int x15])), (h9, .inl (cI, 4, .inl f_44)), (h4, .inl (cI, 28, .inl f17)), (h10, .inl (cI, 4, .inl f_45)), (h5, .inl (cI, 7, .inl f19))] := hD
            have o_48 : KP f16 f_44 (1) := kp_tr o_40 o_47 (by omega) (by omega)
            obtain ⟨v_49, ev_49⟩ : ∃ y : Int32, y = x_21 + 1 := ⟨_, rfl⟩
            have gv_49 : v_49.toInt = x_21.toInt + 1 := by
              have zy : (1 : Int32).toInt = 1 := by decide
              rw [ev_49, i32_add (by rw [zy]; omega) (by rw [zy]; omega), zy]
            refine lv_iinc (v := v_49) (lv' := [(3, .int v_49), (0, .ref h0), (1, .int 1), (2, .int x1)]) hx hb dX0_chooseGifts_71 hl (k := 0) rfl (by rw [ev_49]; rfl) (by decide) rfl (fun ls hl => ?_)
            refine lv_goto (tgt := 36) hx hb dX0_chooseGifts_74 (by decide) ?_
            exact ihlp_24  v_43 v_42 v_49 f_45 f_44 _ _ _ (by omega) (by omega) (a_46.mono (by omega) (by omega) (by omega)) o_48 (by omega) (hP.sub (ws' := [(h0, .inr (0, [.int x2, .int x3, .ref h4, .ref h5, .int x6, .int x7, .int x8, .ref h9, .ref h10, .int v_42, .int v_43, .int x13, .int x14, .int x15])), (h9, .inl (cI, 4, .inl f_44)), (h4, .inl (cI, 28, .inl f17)), (h10, .inl (cI, 4, .inl f_45)), (h5, .inl (cI, 7, .inl f19))]) [0, 1, 2, 3, 4] rfl) (hD.sub (ws' := [(h0, .inr (0, [.int x2, .int x3, .ref h4, .ref h5, .int x6, .int x7, .int x8, .ref h9, .ref h10, .int v_42, .int v_43, .int x13, .int x14, .int x15])), (h9, .inl (cI, 4, .inl f_44)), (h4, .inl (cI, 28, .inl f17)), (h10, .inl (cI, 4, .inl f_45)), (h5, .inl (cI, 7, .inl f19))]) [0, 1, 2, 3, 4] (by decide) rfl) hS (lv_sub hl [0, 1, 2, 3] rfl)
    exact lp_24 9 v_8 v_7 0 f_10 f_9 _ _ _ (by have zc0 : (0 : Int32).toInt = 0 := (by decide); omega) (by have zc0 : (0 : Int32).toInt = 0 := (by decide); omega) (a_11.mono (by have zc0 : (0 : Int32).toInt = 0 := (by decide); omega) (by have zc0 : (0 : Int32).toInt = 0 := (by decide); omega) (by have zc0 : (0 : Int32).toInt = 0 := (by decide); omega)) o_13 (by have zc0 : (0 : Int32).toInt = 0 := (by decide); omega) (hP.sub (ws' := [(h0, .inr (0, [.int x2, .int x3, .ref h4, .ref h5, .int x6, .int x7, .int x8, .ref h9, .ref h10, .int v_7, .int v_8, .int x13, .int x14, .int x15])), (h9, .inl (cI, 4, .inl f_9)), (h4, .inl (cI, 28, .inl f17)), (h10, .inl (cI, 4, .inl f_10)), (h5, .inl (cI, 7, .inl f19))]) [0, 1, 2, 3, 4] rfl) (hD.sub (ws' := [(h0, .inr (0, [.int x2, .int x3, .ref h4, .ref h5, .int x6, .int x7, .int x8, .ref h9, .ref h10, .int v_7, .int v_8, .int x13, .int x14, .int x15])), (h9, .inl (cI, 4, .inl f_9)), (h4, .inl (cI, 28, .inl f17)), (h10, .inl (cI, 4, .inl f_10)), (h5, .inl (cI, 7, .inl f19))]) [0, 1, 2, 3, 4] (by decide) rfl) hS (lv_sub hl [0, 1, 2, 3] rfl)
  · have fc_1 : x2.toInt ≤ (1 : Int) := i_nlt (by decide) rfl c_1
    refine lv_iload_n hx hb dX0_chooseGifts_8 rfl (lv_at hl 2 rfl) ?_
    refine lv_iconst (v := 2) hx hb dX0_chooseGifts_9 (by decide +kernel) ?_
    refine lv_icmp_lt (tgt := 18) hx hb dX0_chooseGifts_10 (by decide) (fun c_50 => ?_) (fun c_50 => by exfalso; have fc_50 : (2 : Int) ≤ x1.toInt := i_nlt rfl (by decide) c_50; omega)
    have fc_50 : x1.toInt < (2 : Int) := i_lt rfl (by decide) c_50
    have hP9 := hP.sub (ws' := [(h0, .inr (0, [.int x2, .int x3, .ref h4, .ref h5, .int x6, .int x7, .int x8, .ref h9, .ref h10, .int x11, .int x12, .int x13, .int x14, .int x15])), (h9, .inl (cI, 4, .inl f16)), (h4, .inl (cI, 28, .inl f17)), (h10, .inl (cI, 4, .inl f18)), (h5, .inl (cI, 7, .inl f19))]) [0, 1, 2, 3, 4] rfl
    have hD9 := hD.sub (ws' := [(h0, .inr (0, [.int x2, .int x3, .ref h4, .ref h5, .int x6, .int x7, .int x8, .ref h9, .ref h10, .int x11, .int x12, .int x13, .int x14, .int x15])), (h9, .inl (cI, 4, .inl f16)), (h4, .inl (cI, 28, .inl f17)), (h10, .inl (cI, 4, .inl f18)), (h5, .inl (cI, 7, .inl f19))]) [0, 1, 2, 3, 4] (by decide) rfl
    exact xr_v (rm := (rmL 11 0 0)) hx hb hr hlocks hAe hS hP9 hD9 (Nat.le_of_ble_eq_true rfl) (Nat.le_of_ble_eq_true rfl) dX0_chooseGifts_18 ⟨x11, x12, f16, f18, ga0.mono (by omega) (by omega) (by omega), kp_rf, rfl, rfl⟩
set_option maxHeartbeats 4000000 in
set_option maxRecDepth 100000 in
theorem sX0_chooseGifts_5 (l : Launch) (D : va_G) (cB cI cJ cZ : ClassId) (aK aV : Nat → Nat) (h0 : Nat) (x1 : Int32) (x2 : Int32) (x3 : Int32) (h4 : Nat) (h5 : Nat) (x6 : Int32) (x7 : Int32) (x8 : Int32) (h9 : Nat) (h10 : Nat) (x11 : Int32) (x12 : Int32) (x13 : Int32) (x14 : Int32) (x15 : Int32) (f16 : Nat → Int32) (f17 : Nat → Int32) (f18 : Nat → Int32) (f19 : Nat → Int32) (gh0 : 0 ≤ x2.toInt) (gh1 : 0 ≤ -x2.toInt + 4) (gh2 : 0 ≤ x3.toInt) (gh3 : 0 ≤ -x3.toInt + 7) (gh4 : 0 ≤ x7.toInt) (gh5 : 0 ≤ -x7.toInt + 6) (gh6 : 0 ≤ x8.toInt) (gh7 : 0 ≤ -x8.toInt + 6) (gh8 : 0 ≤ x2.toInt) (gh9 : 0 ≤ x1.toInt) (gh10 : 0 ≤ -x1.toInt) (ga0 : AR f16 (-1) (6) (4)) (ga1 : AR f19 (0) (3) (x3.toInt)) (go0 : GV f16 (0) (x1.toInt)) : MX l yX0_chooseGifts cX0_chooseGifts 4 none (rmL 12 0 0) D cB cI cJ cZ aK aV [.ref h0, .int 0, .int x1] [(h0, .inr (0, [.int x2, .int x3, .ref h4, .ref h5, .int x6, .int x7, .int x8, .ref h9, .ref h10, .int x11, .int x12, .int x13, .int x14, .int x15])), (h9, .inl (cI, 4, .inl f16)), (h4, .inl (cI, 28, .inl f17)), (h10, .inl (cI, 4, .inl f18)), (h5, .inl (cI, 7, .inl f19))] (fun r w1 => ∃ z1 : Int32, ∃ z2 : Int32, ∃ z3 : Nat → Int32, ∃ z4 : Nat → Int32, AR z3 (-1) (6) (4) ∧ KP f16 z3 (0) ∧ r = none ∧ w1 = [(h0, .inr (0, [.int x2, .int x3, .ref h4, .ref h5, .int x6, .int x7, .int x8, .ref h9, .ref h10, .int z1, .int z2, .int x13, .int x14, .int x15])), (h9, .inl (cI, 4, .inl z3)), (h4, .inl (cI, 28, .inl f17)), (h10, .inl (cI, 4, .inl z4)), (h5, .inl (cI, 7, .inl f19))]) := by
  refine MX.intro (by decide) (Nat.le_of_ble_eq_true rfl) ?_
  intro p e s m below meth c A ls hx hb hr hml hown hlocks hnm hts hG hE hA hS hP hD hl hAe
  have hl : lv_has ls 4 [(0, .ref h0), (1, .int 0), (2, .int x1)] := hl
  have hown : s.vm.findClass RX0 = some m.cls := hown
  refine lv_iload_n hx hb dX0_chooseGifts_0 rfl (lv_at hl 1 rfl) ?_
  refine lv_aload_n hx hb dX0_chooseGifts_1 rfl (lv_at hl 0 rfl) ?_
  refine va_get (D := D) (ci := 0) (v := .int x2) (C := RX0) (T := TX0) (N := 14) hx hb hts inX0 hown hG.1 hP 0 rfl rfl 0 (by decide) (hts _ kw489) (fun _ h9 => h9) rfl dX0_chooseGifts_2 ?_
  refine lv_icmp_lt (tgt := 19) hx hb dX0_chooseGifts_5 (by decide) (fun c_1 => ?_) (fun c_1 => ?_)
  · have fc_1 : (0 : Int) < x2.toInt := i_lt (by decide) rfl c_1
    refine lv_aload_n hx hb dX0_chooseGifts_19 rfl (lv_at hl 0 rfl) ?_
    refine va_get (D := D) (ci := 0) (v := .ref h9) (C := RX0) (T := TX0) (N := 14) hx hb hts inX0 hown hG.1 hP 0 rfl rfl 7 (by decide) (hts _ kw500) (fun _ h9 => h9) rfl dX0_chooseGifts_20 ?_
    refine lv_iload_n hx hb dX0_chooseGifts_23 rfl (lv_at hl 1 rfl) ?_
    refine lv_iconst (v := (-1)) hx hb dX0_chooseGifts_24 (by decide +kernel) ?_
    refine xa_istE hx hb hG hP hD hS 1 rfl (vin (by decide +kernel)) dX0_chooseGifts_25 (fun f_2 H locs ef_2 hP hD hS => ?_)
    have hP : va_P D vwCl [(h0, .inr (0, [.int x2, .int x3, .ref h4, .ref h5, .int x6, .int x7, .int x8, .ref h9, .ref h10, .int x11, .int x12, .int x13, .int x14, .int x15])), (h9, .inl (cI, 4, .inl f_2)), (h4, .inl (cI, 28, .inl f17)), (h10, .inl (cI, 4, .inl f18)), (h5, .inl (cI, 7, .inl f19))] H := hP
    have hD : va_D A [(h0, .inr (0, [.int x2, .int x3, .ref h4, .ref h5, .int x6, .int x7, .int x8, .ref h9, .ref h10, .int x11, .int x12, .int x13, .int x14, .int x15])), (h9, .inl (cI, 4, .inl f_2)), (h4, .inl (cI, 28, .inl f17)), (h10, .inl (cI, 4, .inl f18)), (h5, .inl (cI, 7, .inl f19))] := hD
    have a_3 := st_ar ef_2 (by have z0 : (0 : Int32).toInt = 0 := (by decide); have zm1 : ((-1) : Int32).toInt = (-1) := (by decide); omega) ga0 (by have z0 : (0 : Int32).toInt = 0 := (by decide); have zm1 : ((-1) : Int32).toInt = (-1) := (by decide); intros; omega)
    have o_4 : PT f_2 (0) (-1) := st_ptn ef_2 (by have z0 : (0 : Int32).toInt = 0 := (by decide); have zm1 : ((-1) : Int32).toInt = (-1) := (by decide); omega) (by decide) (by decide)
    refine lv_aload_n hx hb dX0_chooseGifts_26 rfl (lv_at hl 0 rfl) ?_
    refine lv_iload_n hx hb dX0_chooseGifts_27 rfl (lv_at hl 1 rfl) ?_
    refine lv_iconst (v := 1) hx hb dX0_chooseGifts_28 (by decide +kernel) ?_
    refine lv_iadd hx hb dX0_chooseGifts_29 ?_
    refine xt_i (v := 1) (by decide +kernel) ?_
    refine lv_iload_n hx hb dX0_chooseGifts_30 rfl (lv_at hl 2 rfl) ?_
    have o_5 : KP f16 f_2 (0) := kp_st ef_2 (by decide)
    have o_6 : GV f_2 (1) (x1.toInt) := gv_keep go0 o_5 (by omega)
    refine xc_core (wr := []) (k := 0) (n := 0) (xc_runV (As := [.int 1, .int x1]) (rest := []) hx hb hml hown hts hG hE hP hD hS hA [0, 1, 2, 3, 4] (by decide) rfl (sX0_chooseGifts_4 l D cB cI cJ cZ aK aV h0 x1 x2 x3 h4 h5 x6 x7 x8 h9 h10 x11 x12 x13 x14 x15 f_2 f17 f18 f19 (by omega) (by omega) (by omega) (by omega) (by omega) (by omega) (by omega) (by omega) (by omega) (by omega) (by omega) (a_3.mono (by omega) (by omega) (by omega)) (ga1.mono (by omega) (by omega) (by omega)) o_6) kw1073 kw1070 kw1072 kw30 kw124 (show XD yX0_chooseGifts 2 from by decide +kernel) (by decide) rfl rfl 0 rfl hl.1 rfl (Nat.le_of_ble_eq_true rfl) dX0_chooseGifts_31 (by decide)) hP hD hS hA [0, 1, 2, 3, 4] [] rfl rfl (by decide) (by decide) (Nat.le_of_ble_eq_true rfl) (Nat.le_of_ble_eq_true rfl) (fun r w1 H locs hpost hP hD hS => ?_)
    obtain ⟨v_7, v_8, f_9, f_10, a_11, o_12, rfl, rfl⟩ := hpost
    have hP : va_P D vwCl [(h0, .inr (0, [.int x2, .int x3, .ref h4, .ref h5, .int x6, .int x7, .int x8, .ref h9, .ref h10, .int v_7, .int v_8, .int x13, .int x14, .int x15])), (h9, .inl (cI, 4, .inl f_9)), (h4, .inl (cI, 28, .inl f17)), (h10, .inl (cI, 4, .inl f_10)), (h5, .inl (cI, 7, .inl f19))] H := hP
    have hD : va_D A [(h0, .inr (0, [.int x2, .int x3, .ref h4, .ref h5, .int x6, .int x7, .int x8, .ref h9, .ref h10, .int v_7, .int v_8, .int x13, .int x14, .int x15])), (h9, .inl (cI, 4, .inl f_9)), (h4, .inl (cI, 28, .inl f17)), (h10, .inl (cI, 4, .inl f_10)), (h5, .inl (cI, 7, .inl f19))] := hD
    have o_13 : KP f16 f_9 (0) := kp_tr o_5 o_12 (by omega) (by omega)
    refine lv_iconst (v := 0) hx hb dX0_chooseGifts_34 (by decide +kernel) ?_
    refine lv_istore_n (lv' := [(3, .int 0), (0, .ref h0), (1, .int 0), (2, .int x1)]) hx hb dX0_chooseGifts_35 rfl hl (by decide) rfl (fun ls hl => ?_)
    have lp_24 : ∀ (n : Nat) (x_19 x_20 x_21 : Int32) (f_22 : Nat → Int32) (f_23 : Nat → Int32) (H : Heap) (locs : List Loc) (ls : Array Slot), 0 ≤ x1.toInt + x_21.toInt → 0 ≤ x3.toInt - x_21.toInt → AR f_23 (-1) (6) (4) → KP f16 f_23 (0) → -x_21.toInt + 7 < n → va_P D vwCl [(h0, .inr (0, [.int x2, .int x3, .ref h4, .ref h5, .int x6, .int x7, .int x8, .ref h9, .ref h10, .int x_20, .int x_19, .int x13, .int x14, .int x15])), (h9, .inl (cI, 4, .inl f_23)), (h4, .inl (cI, 28, .inl f17)), (h10, .inl (cI, 4, .inl f_22)), (h5, .inl (cI, 7, .inl f19))] H → va_D A [(h0, .inr (0, [.int x2, .int x3, .ref h4, .ref h5, .int x6, .int x7, .int x8, .ref h9, .ref h10, .int x_20, .int x_19, .int x13, .int x14, .int x15])), (h9, .inl (cI, 4, .inl f_23)), (h4, .inl (cI, 28, .inl f17)), (h10, .inl (cI, 4, .inl f_22)), (h5, .inl (cI, 7, .inl f19))] → va_S A s.heap H locs → lv_has ls 4 [(3, .int x_21), (0, .ref h0), (1, .int 0), (2, .int x1)] → W p l e (rmL 12 0 0) s m [.ref h0, .int 0, .int x1].toArray below meth c H locs 0 0 (ZX D below [.ref h0, .int 0, .int x1] s (rmL 12 0 0) [(h0, .inr (0, [.int x2, .int x3, .ref h4, .ref h5, .int x6, .int x7, .int x8, .ref h9, .ref h10, .int x11, .int x12, .int x13, .int x14, .int x15])), (h9, .inl (cI, 4, .inl f16)), (h4, .inl (cI, 28, .inl f17)), (h10, .inl (cI, 4, .inl f18)), (h5, .inl (cI, 7, .inl f19))] (fun r w1 => ∃ z1 : Int32, ∃ z2 : Int32, ∃ z3 : Nat → Int32, ∃ z4 : Nat → Int32, AR z3 (-1) (6) (4) ∧ KP f16 z3 (0) ∧ r = none ∧ w1 = [(h0, .inr (0, [.int x2, .int x3, .ref h4, .ref h5, .int x6, .int x7, .int x8, .ref h9, .ref h10, .int z1, .int z2, .int x13, .int x14, .int x15])), (h9, .inl (cI, 4, .inl z3)), (h4, .inl (cI, 28, .inl f17)), (h10, .inl (cI, 4, .inl z4)), (h5, .inl (cI, 7, .inl f19))])) (F0 m 36 ls []) := by
      intro n
      induction n with
      | zero => intro x_19 x_20 x_21 f_22 f_23 H locs ls g_25 g_26 g_27 g_28 g_29; omega
      | succ n ihlp_24 =>
        intro x_19 x_20 x_21 f_22 f_23 H locs ls g_25 g_26 g_27 g_28 g_29 hP hD hS hl
        refine lv_iload_n hx hb dX0_chooseGifts_36 rfl (lv_at hl 0 rfl) ?_
        refine lv_aload_n hx hb dX0_chooseGifts_37 rfl (lv_at hl 1 rfl) ?_
        refine va_get (D := D) (ci := 0) (v := .int x3) (C := RX0) (T := TX0) (N := 14) hx hb hts inX0 hown hG.1 hP 0 rfl rfl 1 (by decide) (hts _ kw490) (fun _ h9 => h9) rfl dX0_chooseGifts_38 ?_
        refine lv_icmp_ge (tgt := 77) hx hb dX0_chooseGifts_41 (by decide) (fun c_30 => ?_) (fun c_30 => ?_)
        · have fc_30 : x3.toInt ≤ x_21.toInt := i_le rfl rfl c_30
          have hP9 := hP.sub (ws' := [(h0, .inr (0, [.int x2, .int x3, .ref h4, .ref h5, .int x6, .int x7, .int x8, .ref h9, .ref h10, .int x_20, .int x_19, .int x13, .int x14, .int x15])), (h9, .inl (cI, 4, .inl f_23)), (h4, .inl (cI, 28, .inl f17)), (h10, .inl (cI, 4, .inl f_22)), (h5, .inl (cI, 7, .inl f19))]) [0, 1, 2, 3, 4] rfl
          have hD9 := hD.sub (ws' := [(h0, .inr (0, [.int x2, .int x3, .ref h4, .ref h5, .int x6, .int x7, .int x8, .ref h9, .ref h10, .int x_20, .int x_19, .int x13, .int x14, .int x15])), (h9, .inl (cI, 4, .inl f_23)), (h4, .inl (cI, 28, .inl f17)), (h10, .inl (cI, 4, .inl f_22)), (h5, .inl (cI, 7, .inl f19))]) [0, 1, 2, 3, 4] (by decide) rfl
          exact xr_v (rm := (rmL 12 0 0)) hx hb hr hlocks hAe hS hP9 hD9 (Nat.le_of_ble_eq_true rfl) (Nat.le_of_ble_eq_true rfl) dX0_chooseGifts_77 ⟨x_20, x_19, f_23, f_22, g_27.mono (by omega) (by omega) (by omega), g_28, rfl, rfl⟩
        · have fc_30 : x_21.toInt < x3.toInt := i_nle rfl rfl c_30
          refine lv_aload_n hx hb dX0_chooseGifts_44 rfl (lv_at hl 1 rfl) ?_
          refine va_get (D := D) (ci := 0) (v := .ref h5) (C := RX0) (T := TX0) (N := 14) hx hb hts inX0 hown hG.1 hP 0 rfl rfl 3 (by decide) (hts _ kw492) (fun _ h9 => h9) rfl dX0_chooseGifts_45 ?_
          refine lv_iload_n hx hb dX0_chooseGifts_48 rfl (lv_at hl 0 rfl) ?_
          refine xa_ildR hx hb hG hP 4 rfl (vp_in_iff.mpr ⟨by omega, by omega⟩) dX0_chooseGifts_49 (fun v_31 hv => ?_)
          have g_32 := hv _ _ _ ga1 (by omega)
          refine lv_iload_n hx hb dX0_chooseGifts_50 rfl (lv_at hl 2 rfl) ?_
          refine lv_icmp_ne (tgt := 71) hx hb dX0_chooseGifts_51 (by decide) (fun c_33 => ?_) (fun c_33 => ?_)
          · have fc_33 : v_31.toInt ≠ (0 : Int) := i_ne rfl (by decide) c_33
            obtain ⟨v_34, ev_34⟩ : ∃ y : Int32, y = x_21 + 1 := ⟨_, rfl⟩
            have gv_34 : v_34.toInt = x_21.toInt + 1 := by
              have zy : (1 : Int32).toInt = 1 := by decide
              rw [ev_34, i32_add (by rw [zy]; omega) (by rw [zy]; omega), zy]
            refine lv_iinc (v := v_34) (lv' := [(3, .int v_34), (0, .ref h0), (1, .int 0), (2, .int x1)]) hx hb dX0_chooseGifts_71 hl (k := 0) rfl (by rw [ev_34]; rfl) (by decide) rfl (fun ls hl => ?_)
            refine lv_goto (tgt := 36) hx hb dX0_chooseGifts_74 (by decide) ?_
            exact ihlp_24  x_19 x_20 v_34 f_22 f_23 _ _ _ (by omega) (by omega) (g_27.mono (by omega) (by omega) (by omega)) g_28 (by omega) (hP.sub (ws' := [(h0, .inr (0, [.int x2, .int x3, .ref h4, .ref h5, .int x6, .int x7, .int x8, .ref h9, .ref h10, .int x_20, .int x_19, .int x13, .int x14, .int x15])), (h9, .inl (cI, 4, .inl f_23)), (h4, .inl (cI, 28, .inl f17)), (h10, .inl (cI, 4, .inl f_22)), (h5, .inl (cI, 7, .inl f19))]) [0, 1, 2, 3, 4] rfl) (hD.sub (ws' := [(h0, .inr (0, [.int x2, .int x3, .ref h4, .ref h5, .int x6, .int x7, .int x8, .ref h9, .ref h10, .int x_20, .int x_19, .int x13, .int x14, .int x15])), (h9, .inl (cI, 4, .inl f_23)), (h4, .inl (cI, 28, .inl f17)), (h10, .inl (cI, 4, .inl f_22)), (h5, .inl (cI, 7, .inl f19))]) [0, 1, 2, 3, 4] (by decide) rfl) hS (lv_sub hl [0, 1, 2, 3] rfl)
          · have fc_33 : v_31.toInt = (0 : Int) := i_eq rfl (by decide) c_33
            refine lv_aload_n hx hb dX0_chooseGifts_54 rfl (lv_at hl 1 rfl) ?_
            refine va_get (D := D) (ci := 0) (v := .ref h9) (C := RX0) (T := TX0) (N := 14) hx hb hts inX0 hown hG.1 hP 0 rfl rfl 7 (by decide) (hts _ kw500) (fun _ h9 => h9) rfl dX0_chooseGifts_55 ?_
            refine lv_iload_n hx hb dX0_chooseGifts_58 rfl (lv_at hl 2 rfl) ?_
            refine lv_iload_n hx hb dX0_chooseGifts_59 rfl (lv_at hl 0 rfl) ?_
            refine xa_istE hx hb hG hP hD hS 1 rfl (vin (by decide +kernel)) dX0_chooseGifts_60 (fun f_35 H locs ef_35 hP hD hS => ?_)
            have hP : va_P D vwCl [(h0, .inr (0, [.int x2, .int x3, .ref h4, .ref h5, .int x6, .int x7, .int x8, .ref h9, .ref h10, .int x_20, .int x_19, .int x13, .int x14, .int x15])), (h9, .inl (cI, 4, .inl f_35)), (h4, .inl (cI, 28, .inl f17)), (h10, .inl (cI, 4, .inl f_22)), (h5, .inl (cI, 7, .inl f19))] H := hP
            have hD : va_D A [(h0, .inr (0, [.int x2, .int x3, .ref h4, .ref h5, .int x6, .int x7, .int x8, .ref h9, .ref h10, .int x_20, .int x_19, .int x13, .int x14, .int x15])), (h9, .inl (cI, 4, .inl f_35)), (h4, .inl (cI, 28, .inl f17)), (h10, .inl (cI, 4, .inl f_22)), (h5, .inl (cI, 7, .inl f19))] := hD
            have a_36 := st_ar ef_35 (by have z0 : (0 : Int32).toInt = 0 := (by decide); omega) g_27 (by have z0 : (0 : Int32).toInt = 0 := (by decide); intros; omega)
            have o_37 : PT f_35 (0) (x_21.toInt) := st_ptn ef_35 (by have z0 : (0 : Int32).toInt = 0 := (by decide); omega) (by decide) rfl
            refine lv_aload_n hx hb dX0_chooseGifts_61 rfl (lv_at hl 1 rfl) ?_
            refine lv_iload_n hx hb dX0_chooseGifts_62 rfl (lv_at hl 2 rfl) ?_
            refine lv_iconst (v := 1) hx hb dX0_chooseGifts_63 (by decide +kernel) ?_
            refine lv_iadd hx hb dX0_chooseGifts_64 ?_
            refine xt_i (v := 1) (by decide +kernel) ?_
            refine lv_iload_n hx hb dX0_chooseGifts_65 rfl (lv_at hl 3 rfl) ?_
            refine lv_iconst (v := 1) hx hb dX0_chooseGifts_66 (by decide +kernel) ?_
            refine lv_iadd hx hb dX0_chooseGifts_67 ?_
            refine lv_topi (fun v_38 ev_38 => ?_)
            have gv_38 : v_38.toInt = x1.toInt + (1 : Int) := by
              have zx : (x1 : Int32).toInt = x1.toInt := rfl
              have zy : (1 : Int32).toInt = (1 : Int) := (by decide)
              rw [ev_38, i32_add (by rw [zx, zy]; omega) (by rw [zx, zy]; omega), zx, zy]
            have o_39 : KP f_23 f_35 (0) := kp_st ef_35 (by decide)
            have o_40 : KP f16 f_35 (0) := kp_tr g_28 o_39 (by omega) (by omega)
            have o_41 : GV f_35 (1) (x1.toInt + 1) := gv_new ef_35 (by decide) (by decide) (by omega)
            refine xc_core (wr := []) (k := 0) (n := 0) (xc_runV (As := [.int 1, .int v_38]) (rest := []) hx hb hml hown hts hG hE hP hD hS hA [0, 1, 2, 3, 4] (by decide) rfl (sX0_chooseGifts_4 l D cB cI cJ cZ aK aV h0 v_38 x2 x3 h4 h5 x6 x7 x8 h9 h10 x_20 x_19 x13 x14 x15 f_35 f17 f_22 f19 (by omega) (by omega) (by omega) (by omega) (by omega) (by omega) (by omega) (by omega) (by omega) (by omega) (by omega) (a_36.mono (by omega) (by omega) (by omega)) (ga1.mono (by omega) (by omega) (by omega)) (GV.c o_41 (by omega) (by omega))) kw1073 kw1070 kw1072 kw30 kw124 (show XD yX0_chooseGifts 2 from by decide +kernel) (by decide) rfl rfl 0 rfl hl.1 rfl (Nat.le_of_ble_eq_true rfl) dX0_chooseGifts_68 (by decide)) hP hD hS hA [0, 1, 2, 3, 4] [] rfl rfl (by decide) (by decide) (Nat.le_of_ble_eq_true rfl) (Nat.le_of_ble_eq_true rfl) (fun r w1 H locs hpost hP hD hS => ?_)
            obtain ⟨v_42, v_43, f_44, f_45, a_46, o_47, rfl, rfl⟩ := hpost
            have hP : va_P D vwCl [(h0, .inr (0, [.int x2, .int x3, .ref h4, .ref h5, .int x6, .int x7, .int x8, .ref h9, .ref h10, .int v_42, .int v_43, .int x13, .int x14, .int x15])), (h9, .inl (cI, 4, .inl f_44)), (h4, .inl (cI, 28, .inl f17)), (h10, .inl (cI, 4, .inl f_45)), (h5, .inl (cI, 7, .inl f19))] H := hP
            have hD : va_D A [(h0, .inr (0, [.int x2, .int x3, .ref h4, .ref h5, .int x6, .int x7, .int x8, .ref h9, .ref h10, .int v_42, .int v_43, .int x13, .int x14, .int x15])), (h9, .inl (cI, 4, .inl f_44)), (h4, .inl (cI, 28, .inl f17)), (h10, .inl (cI, 4, .inl f_45)), (h5, .inl (cI, 7, .inl f19))] := hD
            have o_48 : KP f16 f_44 (0) := kp_tr o_40 o_47 (by omega) (by omega)
            obtain ⟨v_49, ev_49⟩ : ∃ y : Int32, y = x_21 + 1 := ⟨_, rfl⟩
            have gv_49 : v_49.toInt = x_21.toInt + 1 := by
              have zy : (1 : Int32).toInt = 1 := by decide
              rw [ev_49, i32_add (by rw [zy]; omega) (by rw [zy]; omega), zy]
            refine lv_iinc (v := v_49) (lv' := [(3, .int v_49), (0, .ref h0), (1, .int 0), (2, .int x1)]) hx hb dX0_chooseGifts_71 hl (k := 0) rfl (by rw [ev_49]; rfl) (by decide) rfl (fun ls hl => ?_)
            refine lv_goto (tgt := 36) hx hb dX0_chooseGifts_74 (by decide) ?_
            exact ihlp_24  v_43 v_42 v_49 f_45 f_44 _ _ _ (by omega) (by omega) (a_46.mono (by omega) (by omega) (by omega)) o_48 (by omega) (hP.sub (ws' := [(h0, .inr (0, [.int x2, .int x3, .ref h4, .ref h5, .int x6, .int x7, .int x8, .ref h9, .ref h10, .int v_42, .int v_43, .int x13, .int x14, .int x15])), (h9, .inl (cI, 4, .inl f_44)), (h4, .inl (cI, 28, .inl f17)), (h10, .inl (cI, 4, .inl f_45)), (h5, .inl (cI, 7, .inl f19))]) [0, 1, 2, 3, 4] rfl) (hD.sub (ws' := [(h0, .inr (0, [.int x2, .int x3, .ref h4, .ref h5, .int x6, .int x7, .int x8, .ref h9, .ref h10, .int v_42, .int v_43, .int x13, .int x14, .int x15])), (h9, .inl (cI, 4, .inl f_44)), (h4, .inl (cI, 28, .inl f17)), (h10, .inl (cI, 4, .inl f_45)), (h5, .inl (cI, 7, .inl f19))]) [0, 1, 2, 3, 4] (by decide) rfl) hS (lv_sub hl [0, 1, 2, 3] rfl)
    exact lp_24 9 v_8 v_7 0 f_10 f_9 _ _ _ (by have zc0 : (0 : Int32).toInt = 0 := (by decide); omega) (by have zc0 : (0 : Int32).toInt = 0 := (by decide); omega) (a_11.mono (by have zc0 : (0 : Int32).toInt = 0 := (by decide); omega) (by have zc0 : (0 : Int32).toInt = 0 := (by decide); omega) (by have zc0 : (0 : Int32).toInt = 0 := (by decide); omega)) o_13 (by have zc0 : (0 : Int32).toInt = 0 := (by decide); omega) (hP.sub (ws' := [(h0, .inr (0, [.int x2, .int x3, .ref h4, .ref h5, .int x6, .int x7, .int x8, .ref h9, .ref h10, .int v_7, .int v_8, .int x13, .int x14, .int x15])), (h9, .inl (cI, 4, .inl f_9)), (h4, .inl (cI, 28, .inl f17)), (h10, .inl (cI, 4, .inl f_10)), (h5, .inl (cI, 7, .inl f19))]) [0, 1, 2, 3, 4] rfl) (hD.sub (ws' := [(h0, .inr (0, [.int x2, .int x3, .ref h4, .ref h5, .int x6, .int x7, .int x8, .ref h9, .ref h10, .int v_7, .int v_8, .int x13, .int x14, .int x15])), (h9, .inl (cI, 4, .inl f_9)), (h4, .inl (cI, 28, .inl f17)), (h10, .inl (cI, 4, .inl f_10)), (h5, .inl (cI, 7, .inl f19))]) [0, 1, 2, 3, 4] (by decide) rfl) hS (lv_sub hl [0, 1, 2, 3] rfl)
  · have fc_1 : x2.toInt ≤ (0 : Int) := i_nlt (by decide) rfl c_1
    refine lv_iload_n hx hb dX0_chooseGifts_8 rfl (lv_at hl 2 rfl) ?_
    refine lv_iconst (v := 2) hx hb dX0_chooseGifts_9 (by decide +kernel) ?_
    refine lv_icmp_lt (tgt := 18) hx hb dX0_chooseGifts_10 (by decide) (fun c_50 => ?_) (fun c_50 => by exfalso; have fc_50 : (2 : Int) ≤ x1.toInt := i_nlt rfl (by decide) c_50; omega)
    have fc_50 : x1.toInt < (2 : Int) := i_lt rfl (by decide) c_50
    have hP9 := hP.sub (ws' := [(h0, .inr (0, [.int x2, .int x3, .ref h4, .ref h5, .int x6, .int x7, .int x8, .ref h9, .ref h10, .int x11, .int x12, .int x13, .int x14, .int x15])), (h9, .inl (cI, 4, .inl f16)), (h4, .inl (cI, 28, .inl f17)), (h10, .inl (cI, 4, .inl f18)), (h5, .inl (cI, 7, .inl f19))]) [0, 1, 2, 3, 4] rfl
    have hD9 := hD.sub (ws' := [(h0, .inr (0, [.int x2, .int x3, .ref h4, .ref h5, .int x6, .int x7, .int x8, .ref h9, .ref h10, .int x11, .int x12, .int x13, .int x14, .int x15])), (h9, .inl (cI, 4, .inl f16)), (h4, .inl (cI, 28, .inl f17)), (h10, .inl (cI, 4, .inl f18)), (h5, .inl (cI, 7, .inl f19))]) [0, 1, 2, 3, 4] (by decide) rfl
    exact xr_v (rm := (rmL 12 0 0)) hx hb hr hlocks hAe hS hP9 hD9 (Nat.le_of_ble_eq_true rfl) (Nat.le_of_ble_eq_true rfl) dX0_chooseGifts_18 ⟨x11, x12, f16, f18, ga0.mono (by omega) (by omega) (by omega), kp_rf, rfl, rfl⟩
theorem dX0_findRing_0 : decode cX0_findRing 0 = .ok (.aload_n 0, 1) := by decide +kernel
theorem dX0_findRing_1 : decode cX0_findRing 1 = .ok (.ldc 71, 2) := by decide +kernel
theorem dX0_findRing_3 : decode cX0_findRing 3 = .ok (.putfield 72, 3) := by decide +kernel
theorem dX0_findRing_6 : decode cX0_findRing 6 = .ok (.aload_n 0, 1) := by decide +kernel
theorem dX0_findRing_7 : decode cX0_findRing 7 = .ok (.iconst 0, 1) := by decide +kernel
theorem dX0_findRing_8 : decode cX0_findRing 8 = .ok (.putfield 75, 3) := by decide +kernel
theorem dX0_findRing_11 : decode cX0_findRing 11 = .ok (.aload_n 0, 1) := by decide +kernel
theorem dX0_findRing_12 : decode cX0_findRing 12 = .ok (.iconst 0, 1) := by decide +kernel
theorem dX0_findRing_13 : decode cX0_findRing 13 = .ok (.iconst 0, 1) := by decide +kernel
theorem dX0_findRing_14 : decode cX0_findRing 14 = .ok (.invokevirtual 78, 3) := by decide +kernel
theorem dX0_findRing_17 : decode cX0_findRing 17 = .ok (.aload_n 0, 1) := by decide +kernel
theorem dX0_findRing_18 : decode cX0_findRing 18 = .ok (.getfield 72, 3) := by decide +kernel
theorem dX0_findRing_21 : decode cX0_findRing 21 = .ok (.ireturn, 1) := by decide +kernel
set_option maxHeartbeats 4000000 in
set_option maxRecDepth 100000 in
theorem sX0_findRing_1 (l : Launch) (D : va_G) (cB cI cJ cZ : ClassId) (aK aV : Nat → Nat) (h0 : Nat) (x1 : Int32) (x2 : Int32) (h3 : Nat) (h4 : Nat) (x5 : Int32) (x6 : Int32) (x7 : Int32) (h8 : Nat) (h9 : Nat) (x10 : Int32) (x11 : Int32) (x12 : Int32) (x13 : Int32) (x14 : Int32) (f15 : Nat → Int32) (f16 : Nat → Int32) (f17 : Nat → Int32) (f18 : Nat → Int32) (gh0 : 0 ≤ x1.toInt) (gh1 : 0 ≤ -x1.toInt + 4) (gh2 : 0 ≤ x2.toInt) (gh3 : 0 ≤ -x2.toInt + 7) (gh4 : 0 ≤ x6.toInt) (gh5 : 0 ≤ -x6.toInt + 6) (gh6 : 0 ≤ x7.toInt) (gh7 : 0 ≤ -x7.toInt + 6) (ga0 : AR f15 (-1) (6) (4)) (ga1 : AR f18 (0) (3) (x2.toInt)) : MX l yX0_findRing cX0_findRing 1 (some .int) (rmL 13 0 0) D cB cI cJ cZ aK aV [.ref h0] [(h0, .inr (0, [.int x1, .int x2, .ref h3, .ref h4, .int x5, .int x6, .int x7, .ref h8, .ref h9, .int x10, .int x11, .int x12, .int x13, .int x14])), (h8, .inl (cI, 4, .inl f15)), (h3, .inl (cI, 28, .inl f16)), (h9, .inl (cI, 4, .inl f17)), (h4, .inl (cI, 7, .inl f18))] (fun r w1 => ∃ z1 : Int32, ∃ z2 : Int32, ∃ z3 : Nat → Int32, ∃ z4 : Nat → Int32, ∃ z5 : Int32, AR z3 (-1) (6) (4) ∧ r = some (.int z5) ∧ w1 = [(h0, .inr (0, [.int x1, .int x2, .ref h3, .ref h4, .int x5, .int x6, .int x7, .ref h8, .ref h9, .int z1, .int z2, .int x12, .int x13, .int x14])), (h8, .inl (cI, 4, .inl z3)), (h3, .inl (cI, 28, .inl f16)), (h9, .inl (cI, 4, .inl z4)), (h4, .inl (cI, 7, .inl f18))]) := by
  refine MX.intro (by decide) (Nat.le_of_ble_eq_true rfl) ?_
  intro p e s m below meth c A ls hx hb hr hml hown hlocks hnm hts hG hE hA hS hP hD hl hAe
  have hl : lv_has ls 1 [(0, .ref h0)] := hl
  have hown : s.vm.findClass RX0 = some m.cls := hown
  refine lv_aload_n hx hb dX0_findRing_0 rfl (lv_at hl 0 rfl) ?_
  refine lv_ldc (v := (-1000000000)) hx hb hown (hts _ kw1069) dX0_findRing_1 ?_
  refine va_put (D := D) (ci := 0) (v := .int (-1000000000)) (ty := .int) (C := RX0) (T := TX0) (N := 14) hx hb hts inX0 tyX0 tyX0_ok nmX0 hown hG.1 hP hD hS 0 rfl rfl 9 (by decide) (hts _ kw503) (fun _ h9 => h9) rfl (by decide +kernel) rfl rfl (Nat.le_of_ble_eq_true rfl) dX0_findRing_3 (fun H locs hP hD hS => ?_)
  have hP : va_P D vwCl [(h0, .inr (0, [.int x1, .int x2, .ref h3, .ref h4, .int x5, .int x6, .int x7, .ref h8, .ref h9, .int (-1000000000), .int x11, .int x12, .int x13, .int x14])), (h8, .inl (cI, 4, .inl f15)), (h3, .inl (cI, 28, .inl f16)), (h9, .inl (cI, 4, .inl f17)), (h4, .inl (cI, 7, .inl f18))] H := hP
  have hD : va_D A [(h0, .inr (0, [.int x1, .int x2, .ref h3, .ref h4, .int x5, .int x6, .int x7, .ref h8, .ref h9, .int (-1000000000), .int x11, .int x12, .int x13, .int x14])), (h8, .inl (cI, 4, .inl f15)), (h3, .inl (cI, 28, .inl f16)), (h9, .inl (cI, 4, .inl f17)), (h4, .inl (cI, 7, .inl f18))] := hD
  refine lv_aload_n hx hb dX0_findRing_6 rfl (lv_at hl 0 rfl) ?_
  refine lv_iconst (v := 0) hx hb dX0_findRing_7 (by decide +kernel) ?_
  refine va_put (D := D) (ci := 0) (v := .int 0) (ty := .int) (C := RX0) (T := TX0) (N := 14) hx hb hts inX0 tyX0 tyX0_ok nmX0 hown hG.1 hP hD hS 0 rfl rfl 10 (by decide) (hts _ kw504) (fun _ h9 => h9) rfl (by decide +kernel) rfl rfl (Nat.le_of_ble_eq_true rfl) dX0_findRing_8 (fun H locs hP hD hS => ?_)
  have hP : va_P D vwCl [(h0, .inr (0, [.int x1, .int x2, .ref h3, .ref h4, .int x5, .int x6, .int x7, .ref h8, .ref h9, .int (-1000000000), .int 0, .int x12, .int x13, .int x14])), (h8, .inl (cI, 4, .inl f15)), (h3, .inl (cI, 28, .inl f16)), (h9, .inl (cI, 4, .inl f17)), (h4, .inl (cI, 7, .inl f18))] H := hP
  have hD : va_D A [(h0, .inr (0, [.int x1, .int x2, .ref h3, .ref h4, .int x5, .int x6, .int x7, .ref h8, .ref h9, .int (-1000000000), .int 0, .int x12, .int x13, .int x14])), (h8, .inl (cI, 4, .inl f15)), (h3, .inl (cI, 28, .inl f16)), (h9, .inl (cI, 4, .inl f17)), (h4, .inl (cI, 7, .inl f18))] := hD
  refine lv_aload_n hx hb dX0_findRing_11 rfl (lv_at hl 0 rfl) ?_
  refine lv_iconst (v := 0) hx hb dX0_findRing_12 (by decide +kernel) ?_
  refine lv_iconst (v := 0) hx hb dX0_findRing_13 (by decide +kernel) ?_
  refine xc_core (wr := []) (k := 0) (n := 0) (xc_runV (As := [.int 0, .int 0]) (rest := []) hx hb hml hown hts hG hE hP hD hS hA [0, 1, 2, 3, 4] (by decide) rfl (sX0_chooseGifts_5 l D cB cI cJ cZ aK aV h0 0 x1 x2 h3 h4 x5 x6 x7 h8 h9 (-1000000000) 0 x12 x13 x14 f15 f16 f17 f18 (by have zcm1000000000 : ((-1000000000) : Int32).toInt = (-1000000000) := (by decide); have zc0 : (0 : Int32).toInt = 0 := (by decide); omega) (by have zcm1000000000 : ((-1000000000) : Int32).toInt = (-1000000000) := (by decide); have zc0 : (0 : Int32).toInt = 0 := (by decide); omega) (by have zcm1000000000 : ((-1000000000) : Int32).toInt = (-1000000000) := (by decide); have zc0 : (0 : Int32).toInt = 0 := (by decide); omega) (by have zcm1000000000 : ((-1000000000) : Int32).toInt = (-1000000000) := (by decide); have zc0 : (0 : Int32).toInt = 0 := (by decide); omega) (by have zcm1000000000 : ((-1000000000) : Int32).toInt = (-1000000000) := (by decide); have zc0 : (0 : Int32).toInt = 0 := (by decide); omega) (by have zcm1000000000 : ((-1000000000) : Int32).toInt = (-1000000000) := (by decide); have zc0 : (0 : Int32).toInt = 0 := (by decide); omega) (by have zcm1000000000 : ((-1000000000) : Int32).toInt = (-1000000000) := (by decide); have zc0 : (0 : Int32).toInt = 0 := (by decide); omega) (by have zcm1000000000 : ((-1000000000) : Int32).toInt = (-1000000000) := (by decide); have zc0 : (0 : Int32).toInt = 0 := (by decide); omega) (by have zcm1000000000 : ((-1000000000) : Int32).toInt = (-1000000000) := (by decide); have zc0 : (0 : Int32).toInt = 0 := (by decide); omega) (by have zcm1000000000 : ((-1000000000) : Int32).toInt = (-1000000000) := (by decide); have zc0 : (0 : Int32).toInt = 0 := (by decide); omega) (by have zcm1000000000 : ((-1000000000) : Int32).toInt = (-1000000000) := (by decide); have zc0 : (0 : Int32).toInt = 0 := (by decide); omega) (ga0.mono (by have zcm1000000000 : ((-1000000000) : Int32).toInt = (-1000000000) := (by decide); have zc0 : (0 : Int32).toInt = 0 := (by decide); omega) (by have zcm1000000000 : ((-1000000000) : Int32).toInt = (-1000000000) := (by decide); have zc0 : (0 : Int32).toInt = 0 := (by decide); omega) (by have zcm1000000000 : ((-1000000000) : Int32).toInt = (-1000000000) := (by decide); have zc0 : (0 : Int32).toInt = 0 := (by decide); omega)) (ga1.mono (by have zcm1000000000 : ((-1000000000) : Int32).toInt = (-1000000000) := (by decide); have zc0 : (0 : Int32).toInt = 0 := (by decide); omega) (by have zcm1000000000 : ((-1000000000) : Int32).toInt = (-1000000000) := (by decide); have zc0 : (0 : Int32).toInt = 0 := (by decide); omega) (by have zcm1000000000 : ((-1000000000) : Int32).toInt = (-1000000000) := (by decide); have zc0 : (0 : Int32).toInt = 0 := (by decide); omega)) (gv_nil (by have zcm1000000000 : ((-1000000000) : Int32).toInt = (-1000000000) := (by decide); have zc0 : (0 : Int32).toInt = 0 := (by decide); omega))) kw1073 kw1070 kw1072 kw30 kw124 (show XD yX0_chooseGifts 2 from by decide +kernel) (by decide) rfl rfl 0 rfl hl.1 rfl (Nat.le_of_ble_eq_true rfl) dX0_findRing_14 (by decide)) hP hD hS hA [0, 1, 2, 3, 4] [] rfl rfl (by decide) (by decide) (Nat.le_of_ble_eq_true rfl) (Nat.le_of_ble_eq_true rfl) (fun r w1 H locs hpost hP hD hS => ?_)
  obtain ⟨v_1, v_2, f_3, f_4, a_5, o_6, rfl, rfl⟩ := hpost
  have hP : va_P D vwCl [(h0, .inr (0, [.int x1, .int x2, .ref h3, .ref h4, .int x5, .int x6, .int x7, .ref h8, .ref h9, .int v_1, .int v_2, .int x12, .int x13, .int x14])), (h8, .inl (cI, 4, .inl f_3)), (h3, .inl (cI, 28, .inl f16)), (h9, .inl (cI, 4, .inl f_4)), (h4, .inl (cI, 7, .inl f18))] H := hP
  have hD : va_D A [(h0, .inr (0, [.int x1, .int x2, .ref h3, .ref h4, .int x5, .int x6, .int x7, .ref h8, .ref h9, .int v_1, .int v_2, .int x12, .int x13, .int x14])), (h8, .inl (cI, 4, .inl f_3)), (h3, .inl (cI, 28, .inl f16)), (h9, .inl (cI, 4, .inl f_4)), (h4, .inl (cI, 7, .inl f18))] := hD
  refine lv_aload_n hx hb dX0_findRing_17 rfl (lv_at hl 0 rfl) ?_
  refine va_get (D := D) (ci := 0) (v := .int v_1) (C := RX0) (T := TX0) (N := 14) hx hb hts inX0 hown hG.1 hP 0 rfl rfl 9 (by decide) (hts _ kw503) (fun _ h9 => h9) rfl dX0_findRing_18 ?_
  have hP9 := hP.sub (ws' := [(h0, .inr (0, [.int x1, .int x2, .ref h3, .ref h4, .int x5, .int x6, .int x7, .ref h8, .ref h9, .int v_1, .int v_2, .int x12, .int x13, .int x14])), (h8, .inl (cI, 4, .inl f_3)), (h3, .inl (cI, 28, .inl f16)), (h9, .inl (cI, 4, .inl f_4)), (h4, .inl (cI, 7, .inl f18))]) [0, 1, 2, 3, 4] rfl
  have hD9 := hD.sub (ws' := [(h0, .inr (0, [.int x1, .int x2, .ref h3, .ref h4, .int x5, .int x6, .int x7, .ref h8, .ref h9, .int v_1, .int v_2, .int x12, .int x13, .int x14])), (h8, .inl (cI, 4, .inl f_3)), (h3, .inl (cI, 28, .inl f16)), (h9, .inl (cI, 4, .inl f_4)), (h4, .inl (cI, 7, .inl f18))]) [0, 1, 2, 3, 4] (by decide) rfl
  exact xr_i (rm := (rmL 13 0 0)) hx hb hr hlocks hAe hS hP9 hD9 rfl (Nat.le_of_ble_eq_true rfl) (Nat.le_of_ble_eq_true rfl) dX0_findRing_21 ⟨v_1, v_2, f_3, f_4, v_1, a_5.mono (by omega) (by omega) (by omega), rfl, rfl⟩
