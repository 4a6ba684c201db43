theorem dX7_hasRoomFor_0 : decode cX7_hasRoomFor 0 = .ok (.aload_n 0, 1) := by decide +kernel
theorem kw147 : (.fieldLink RX7 13 "SpiceSwaps$Tape" "size" "I" : Cond) ∈ gT := gT_of 147 (by decide +kernel) (by decide +kernel)
theorem dX7_hasRoomFor_1 : decode cX7_hasRoomFor 1 = .ok (.getfield 13, 3) := by decide +kernel
theorem dX7_hasRoomFor_4 : decode cX7_hasRoomFor 4 = .ok (.iload_n 1, 1) := by decide +kernel
theorem dX7_hasRoomFor_5 : decode cX7_hasRoomFor 5 = .ok (.iadd, 1) := by decide +kernel
theorem dX7_hasRoomFor_6 : decode cX7_hasRoomFor 6 = .ok (.sipush 1600, 3) := by decide +kernel
theorem dX7_hasRoomFor_9 : decode cX7_hasRoomFor 9 = .ok (.if_icmp .gt 7, 3) := by decide +kernel
theorem dX7_hasRoomFor_16 : decode cX7_hasRoomFor 16 = .ok (.iconst 0, 1) := by decide +kernel
theorem dX7_hasRoomFor_17 : decode cX7_hasRoomFor 17 = .ok (.ireturn, 1) := by decide +kernel
theorem dX7_hasRoomFor_12 : decode cX7_hasRoomFor 12 = .ok (.iconst 1, 1) := by decide +kernel
theorem dX7_hasRoomFor_13 : decode cX7_hasRoomFor 13 = .ok (.goto 4, 3) := by decide +kernel
set_option maxHeartbeats 4000000 in
set_option maxRecDepth 100000 in
theorem sX7_hasRoomFor_1 (l : Launch) (D : va_G) (cB cI cJ cZ : ClassId) (aK aV : Nat → Nat) (h0 : Nat) (x1 : Int32) (h2 : Nat) (x3 : Int32) (gh0 : 0 ≤ x3.toInt) (gh1 : 0 ≤ -x3.toInt + 1600) : MX l yX7_hasRoomFor cX7_hasRoomFor 2 (some .boolean) (rmL 1 0 0) D cB cI cJ cZ aK aV [.ref h0, .int x1] [(h0, .inr (7, [.ref h2, .int x3]))] (fun r w1 => ∃ z1 : Int32, 0 ≤ z1.toInt ∧ 0 ≤ -z1.toInt + 1 ∧ r = some (.int z1) ∧ w1 = [(h0, .inr (7, [.ref h2, .int x3]))]) := by
  refine MX.intro (by decide) (Nat.le_of_ble_eq_true rfl) ?_
  intro p e s m below meth c A ls hx hb hr hml hown hlocks hnm hts hG hE hA hS hP hD hl hAe
  have hl : lv_has ls 2 [(0, .ref h0), (1, .int x1)] := hl
  have hown : s.vm.findClass RX7 = some m.cls := hown
  refine lv_aload_n hx hb dX7_hasRoomFor_0 rfl (lv_at hl 0 rfl) ?_
  refine va_get (D := D) (ci := 7) (v := .int x3) (C := RX7) (T := TX7) (N := 2) hx hb hts inX7 hown hG.1 hP 0 rfl rfl 1 (by decide) (hts _ kw147) (fun _ h9 => h9) rfl dX7_hasRoomFor_1 ?_
  refine lv_iload_n hx hb dX7_hasRoomFor_4 rfl (lv_at hl 1 rfl) ?_
  refine lv_iadd hx hb dX7_hasRoomFor_5 ?_
  refine xt_any (fun v_1 => ?_)
  refine lv_sipush (v := 1600) hx hb dX7_hasRoomFor_6 (by decide +kernel) ?_
  refine lv_icmp_gt (tgt := 16) hx hb dX7_hasRoomFor_9 (by decide) (fun c_2 => ?_) (fun c_2 => ?_)
  · have fc_2 : (1600 : Int) < v_1.toInt := i_lt (by decide) rfl c_2
    refine lv_iconst (v := 0) hx hb dX7_hasRoomFor_16 (by decide +kernel) ?_
    have hP9 := hP.sub (ws' := [(h0, .inr (7, [.ref h2, .int x3]))]) [0] rfl
    have hD9 := hD.sub (ws' := [(h0, .inr (7, [.ref h2, .int x3]))]) [0] (by decide) rfl
    exact xr_i (rm := (rmL 1 0 0)) hx hb hr hlocks hAe hS hP9 hD9 (by decide +kernel) (Nat.le_of_ble_eq_true rfl) (Nat.le_of_ble_eq_true rfl) dX7_hasRoomFor_17 ⟨0, by have zc0 : (0 : Int32).toInt = 0 := (by decide); omega, by have zc0 : (0 : Int32).toInt = 0 := (by decide); omega, rfl, rfl⟩
  · have fc_2 : v_1.toInt ≤ (1600 : Int) := i_nlt (by decide) rfl c_2
    refine lv_iconst (v := 1) hx hb dX7_hasRoomFor_12 (by decide +kernel) ?_
    refine lv_goto (tgt := 17) hx hb dX7_hasRoomFor_13 (by decide) ?_
    have hP9 := hP.sub (ws' := [(h0, .inr (7, [.ref h2, .int x3]))]) [0] rfl
    have hD9 := hD.sub (ws' := [(h0, .inr (7, [.ref h2, .int x3]))]) [0] (by decide) rfl
    exact xr_i (rm := (rmL 1 0 0)) hx hb hr hlocks hAe hS hP9 hD9 (by decide +kernel) (Nat.le_of_ble_eq_true rfl) (Nat.le_of_ble_eq_true rfl) dX7_hasRoomFor_17 ⟨1, by have zc1 : (1 : Int32).toInt = 1 := (by decide); omega, by have zc1 : (1 : Int32).toInt = 1 := (by decide); omega, rfl, rfl⟩
theorem dX7_cutTo_0 : decode cX7_cutTo 0 = .ok (.iload_n 1, 1) := by decide +kernel
theorem dX7_cutTo_1 : decode cX7_cutTo 1 = .ok (.ifCond .lt 11, 3) := by decide +kernel
theorem dX7_cutTo_12 : decode cX7_cutTo 12 = .ok (.iconst 0, 1) := by decide +kernel
theorem dX7_cutTo_13 : decode cX7_cutTo 13 = .ok (.ireturn, 1) := by decide +kernel
theorem dX7_cutTo_4 : decode cX7_cutTo 4 = .ok (.iload_n 1, 1) := by decide +kernel
theorem dX7_cutTo_5 : decode cX7_cutTo 5 = .ok (.aload_n 0, 1) := by decide +kernel
theorem dX7_cutTo_6 : decode cX7_cutTo 6 = .ok (.getfield 13, 3) := by decide +kernel
theorem dX7_cutTo_9 : decode cX7_cutTo 9 = .ok (.if_icmp .le 5, 3) := by decide +kernel
theorem dX7_cutTo_14 : decode cX7_cutTo 14 = .ok (.aload_n 0, 1) := by decide +kernel
theorem dX7_cutTo_15 : decode cX7_cutTo 15 = .ok (.iload_n 1, 1) := by decide +kernel
theorem dX7_cutTo_16 : decode cX7_cutTo 16 = .ok (.putfield 13, 3) := by decide +kernel
theorem dX7_cutTo_19 : decode cX7_cutTo 19 = .ok (.iconst 1, 1) := by decide +kernel
theorem dX7_cutTo_20 : decode cX7_cutTo 20 = .ok (.ireturn, 1) := by decide +kernel
set_option maxHeartbeats 4000000 in
set_option maxRecDepth 100000 in
theorem sX7_cutTo_1 (l : Launch) (D : va_G) (cB cI cJ cZ : ClassId) (aK aV : Nat → Nat) (h0 : Nat) (x1 : Int32) (h2 : Nat) (x3 : Int32) (gh0 : 0 ≤ x3.toInt) (gh1 : 0 ≤ -x3.toInt + 1600) : MX l yX7_cutTo cX7_cutTo 2 (some .boolean) (rmL 1 0 0) D cB cI cJ cZ aK aV [.ref h0, .int x1] [(h0, .inr (7, [.ref h2, .int x3]))] (fun r w1 => ∃ z1 : Int32, ∃ z2 : Int32, 0 ≤ z1.toInt ∧ 0 ≤ -z1.toInt + 1600 ∧ 0 ≤ z2.toInt ∧ 0 ≤ -z2.toInt + 1 ∧ r = some (.int z2) ∧ w1 = [(h0, .inr (7, [.ref h2, .int z1]))]) := by
  refine MX.intro (by decide) (Nat.le_of_ble_eq_true rfl) ?_
  intro p e s m below meth c A ls hx hb hr hml hown hlocks hnm hts hG hE hA hS hP hD hl hAe
  have hl : lv_has ls 2 [(0, .ref h0), (1, .int x1)] := hl
  have hown : s.vm.findClass RX7 = some m.cls := hown
  refine lv_iload_n hx hb dX7_cutTo_0 rfl (lv_at hl 1 rfl) ?_
  refine lv_if_lt (tgt := 12) hx hb dX7_cutTo_1 (by decide) (fun c_1 => ?_) (fun c_1 => ?_)
  · have fc_1 : x1.toInt < (0 : Int) := i_lt rfl (by decide) c_1
    refine lv_iconst (v := 0) hx hb dX7_cutTo_12 (by decide +kernel) ?_
    have hP9 := hP.sub (ws' := [(h0, .inr (7, [.ref h2, .int x3]))]) [0] rfl
    have hD9 := hD.sub (ws' := [(h0, .inr (7, [.ref h2, .int x3]))]) [0] (by decide) rfl
    exact xr_i (rm := (rmL 1 0 0)) hx hb hr hlocks hAe hS hP9 hD9 (by decide +kernel) (Nat.le_of_ble_eq_true rfl) (Nat.le_of_ble_eq_true rfl) dX7_cutTo_13 ⟨x3, 0, by have zc0 : (0 : Int32).toInt = 0 := (by decide); omega, by have zc0 : (0 : Int32).toInt = 0 := (by decide); omega, by have zc0 : (0 : Int32).toInt = 0 := (by decide); omega, by have zc0 : (0 : Int32).toInt = 0 := (by decide); omega, rfl, rfl⟩
  · have fc_1 : (0 : Int) ≤ x1.toInt := i_nlt rfl (by decide) c_1
    refine lv_iload_n hx hb dX7_cutTo_4 rfl (lv_at hl 1 rfl) ?_
    refine lv_aload_n hx hb dX7_cutTo_5 rfl (lv_at hl 0 rfl) ?_
    refine va_get (D := D) (ci := 7) (v := .int x3) (C := RX7) (T := TX7) (N := 2) hx hb hts inX7 hown hG.1 hP 0 rfl rfl 1 (by decide) (hts _ kw147) (fun _ h9 => h9) rfl dX7_cutTo_6 ?_
    refine lv_icmp_le (tgt := 14) hx hb dX7_cutTo_9 (by decide) (fun c_2 => ?_) (fun c_2 => ?_)
    · have fc_2 : x1.toInt ≤ x3.toInt := i_le rfl rfl c_2
      refine lv_aload_n hx hb dX7_cutTo_14 rfl (lv_at hl 0 rfl) ?_
      refine lv_iload_n hx hb dX7_cutTo_15 rfl (lv_at hl 1 rfl) ?_
      refine va_put (D := D) (ci := 7) (v := .int x1) (ty := .int) (C := RX7) (T := TX7) (N := 2) hx hb hts inX7 tyX7 tyX7_ok nmX7 hown hG.1 hP hD hS 0 rfl rfl 1 (by decide) (hts _ kw147) (fun _ h9 => h9) rfl (by decide +kernel) rfl rfl (Nat.le_of_ble_eq_true rfl) dX7_cutTo_16 (fun H locs hP hD hS => ?_)
      have hP : va_P D vwCl [(h0, .inr (7, [.ref h2, .int x1]))] H := hP
      have hD : va_D A [(h0, .inr (7, [.ref h2, .int x1]))] := hD
      refine lv_iconst (v := 1) hx hb dX7_cutTo_19 (by decide +kernel) ?_
      have hP9 := hP.sub (ws' := [(h0, .inr (7, [.ref h2, .int x1]))]) [0] rfl
      have hD9 := hD.sub (ws' := [(h0, .inr (7, [.ref h2, .int x1]))]) [0] (by decide) rfl
      exact xr_i (rm := (rmL 1 0 0)) hx hb hr hlocks hAe hS hP9 hD9 (by decide +kernel) (Nat.le_of_ble_eq_true rfl) (Nat.le_of_ble_eq_true rfl) dX7_cutTo_20 ⟨x1, 1, by have zc1 : (1 : Int32).toInt = 1 := (by decide); omega, by have zc1 : (1 : Int32).toInt = 1 := (by decide); omega, by have zc1 : (1 : Int32).toInt = 1 := (by decide); omega, by have zc1 : (1 : Int32).toInt = 1 := (by decide); omega, rfl, rfl⟩
    · have fc_2 : x3.toInt < x1.toInt := i_nle rfl rfl c_2
      refine lv_iconst (v := 0) hx hb dX7_cutTo_12 (by decide +kernel) ?_
      have hP9 := hP.sub (ws' := [(h0, .inr (7, [.ref h2, .int x3]))]) [0] rfl
      have hD9 := hD.sub (ws' := [(h0, .inr (7, [.ref h2, .int x3]))]) [0] (by decide) rfl
      exact xr_i (rm := (rmL 1 0 0)) hx hb hr hlocks hAe hS hP9 hD9 (by decide +kernel) (Nat.le_of_ble_eq_true rfl) (Nat.le_of_ble_eq_true rfl) dX7_cutTo_13 ⟨x3, 0, by have zc0 : (0 : Int32).toInt = 0 := (by decide); omega, by have zc0 : (0 : Int32).toInt = 0 := (by decide); omega, by have zc0 : (0 : Int32).toInt = 0 := (by decide); omega, by have zc0 : (0 : Int32).toInt = 0 := (by decide); omega, rfl, rfl⟩
theorem dX7_put_0 : decode cX7_put 0 = .ok (.bipush 24, 2) := by decide +kernel
theorem dX7_put_2 : decode cX7_put 2 = .ok (.istore_n 2, 1) := by decide +kernel
theorem dX7_put_3 : decode cX7_put 3 = .ok (.iload_n 2, 1) := by decide +kernel
theorem dX7_put_4 : decode cX7_put 4 = .ok (.ifCond .lt 42, 3) := by decide +kernel
theorem dX7_put_46 : decode cX7_put 46 = .ok (.return_, 1) := by decide +kernel
theorem dX7_put_7 : decode cX7_put 7 = .ok (.aload_n 0, 1) := by decide +kernel
theorem dX7_put_8 : decode cX7_put 8 = .ok (.getfield 13, 3) := by decide +kernel
theorem dX7_put_11 : decode cX7_put 11 = .ok (.sipush 1600, 3) := by decide +kernel
theorem dX7_put_14 : decode cX7_put 14 = .ok (.if_icmp .ge 32, 3) := by decide +kernel
theorem dX7_put_17 : decode cX7_put 17 = .ok (.aload_n 0, 1) := by decide +kernel
theorem kw145 : (.fieldLink RX7 9 "SpiceSwaps$Tape" "bytes" "[B" : Cond) ∈ gT := gT_of 145 (by decide +kernel) (by decide +kernel)
theorem dX7_put_18 : decode cX7_put 18 = .ok (.getfield 9, 3) := by decide +kernel
theorem dX7_put_21 : decode cX7_put 21 = .ok (.aload_n 0, 1) := by decide +kernel
theorem dX7_put_22 : decode cX7_put 22 = .ok (.getfield 13, 3) := by decide +kernel
theorem dX7_put_25 : decode cX7_put 25 = .ok (.iload_n 1, 1) := by decide +kernel
theorem dX7_put_26 : decode cX7_put 26 = .ok (.iload_n 2, 1) := by decide +kernel
theorem dX7_put_27 : decode cX7_put 27 = .ok (.ishr, 1) := by decide +kernel
theorem dX7_put_28 : decode cX7_put 28 = .ok (.i2b, 1) := by decide +kernel
theorem dX7_put_29 : decode cX7_put 29 = .ok (.bastore, 1) := by decide +kernel
theorem dX7_put_30 : decode cX7_put 30 = .ok (.aload_n 0, 1) := by decide +kernel
theorem dX7_put_31 : decode cX7_put 31 = .ok (.dup, 1) := by decide +kernel
theorem dX7_put_32 : decode cX7_put 32 = .ok (.getfield 13, 3) := by decide +kernel
theorem dX7_put_35 : decode cX7_put 35 = .ok (.iconst 1, 1) := by decide +kernel
theorem dX7_put_36 : decode cX7_put 36 = .ok (.iadd, 1) := by decide +kernel
theorem dX7_put_37 : decode cX7_put 37 = .ok (.putfield 13, 3) := by decide +kernel
theorem dX7_put_40 : decode cX7_put 40 = .ok (.iinc 2 (-8), 3) := by decide +kernel
theorem dX7_put_43 : decode cX7_put 43 = .ok (.goto (-40), 3) := by decide +kernel
set_option maxHeartbeats 4000000 in
set_option maxRecDepth 100000 in
theorem sX7_put_1 (l : Launch) (D : va_G) (cB cI cJ cZ : ClassId) (aK aV : Nat → Nat) (h0 : Nat) (x1 : Int32) (h2 : Nat) (x3 : Int32) (f4 : Nat → Int32) (gh0 : 0 ≤ x3.toInt) (gh1 : 0 ≤ -x3.toInt + 1600) : MX l yX7_put cX7_put 3 none (rmL 1 0 0) D cB cI cJ cZ aK aV [.ref h0, .int x1] [(h0, .inr (7, [.ref h2, .int x3])), (h2, .inl (cB, 1600, .inl f4))] (fun r w1 => ∃ z1 : Int32, ∃ z2 : Nat → Int32, 0 ≤ z1.toInt ∧ 0 ≤ -z1.toInt + 1600 ∧ r = none ∧ w1 = [(h0, .inr (7, [.ref h2, .int z1])), (h2, .inl (cB, 1600, .inl z2))]) := by
  refine MX.intro (by decide) (Nat.le_of_ble_eq_true rfl) ?_
  intro p e s m below meth c A ls hx hb hr hml hown hlocks hnm hts hG hE hA hS hP hD hl hAe
  have hl : lv_has ls 3 [(0, .ref h0), (1, .int x1)] := hl
  have hown : s.vm.findClass RX7 = some m.cls := hown
  refine lv_bipush (v := 24) hx hb dX7_put_0 (by decide +kernel) ?_
  refine lv_istore_n (lv' := [(2, .int 24), (0, .ref h0), (1, .int x1)]) hx hb dX7_put_2 rfl hl (by decide) rfl (fun ls hl => ?_)
  have lp_7 : ∀ (n : Nat) (x_4 x_5 : Int32) (f_6 : Nat → Int32) (H : Heap) (locs : List Loc) (ls : Array Slot), 0 ≤ -x_4.toInt + 1600 → 0 ≤ -x3.toInt + x_4.toInt → 0 ≤ -x_5.toInt + 24 → -x_4.toInt + 1600 < n → va_P D vwCl [(h0, .inr (7, [.ref h2, .int x_4])), (h2, .inl (cB, 1600, .inl f_6))] H → va_D A [(h0, .inr (7, [.ref h2, .int x_4])), (h2, .inl (cB, 1600, .inl f_6))] → va_S A s.heap H locs → lv_has ls 3 [(2, .int x_5), (0, .ref h0), (1, .int x1)] → W p l e (rmL 1 0 0) s m [.ref h0, .int x1].toArray below meth c H locs 0 0 (ZX D below [.ref h0, .int x1] s (rmL 1 0 0) [(h0, .inr (7, [.ref h2, .int x3])), (h2, .inl (cB, 1600, .inl f4))] (fun r w1 => ∃ z1 : Int32, ∃ z2 : Nat → Int32, 0 ≤ z1.toInt ∧ 0 ≤ -z1.toInt + 1600 ∧ r = none ∧ w1 = [(h0, .inr (7, [.ref h2, .int z1])), (h2, .inl (cB, 1600, .inl z2))])) (F0 m 3 ls []) := by
    intro n
    induction n with
    | zero => intro x_4 x_5 f_6 H locs ls g_8 g_9 g_10 g_11; omega
    | succ n ihlp_7 =>
      intro x_4 x_5 f_6 H locs ls g_8 g_9 g_10 g_11 hP hD hS hl
      refine lv_iload_n hx hb dX7_put_3 rfl (lv_at hl 0 rfl) ?_
      refine lv_if_lt (tgt := 46) hx hb dX7_put_4 (by decide) (fun c_12 => ?_) (fun c_12 => ?_)
      · have fc_12 : x_5.toInt < (0 : Int) := i_lt rfl (by decide) c_12
        have hP9 := hP.sub (ws' := [(h0, .inr (7, [.ref h2, .int x_4])), (h2, .inl (cB, 1600, .inl f_6))]) [0, 1] rfl
        have hD9 := hD.sub (ws' := [(h0, .inr (7, [.ref h2, .int x_4])), (h2, .inl (cB, 1600, .inl f_6))]) [0, 1] (by decide) rfl
        exact xr_v (rm := (rmL 1 0 0)) hx hb hr hlocks hAe hS hP9 hD9 (Nat.le_of_ble_eq_true rfl) (Nat.le_of_ble_eq_true rfl) dX7_put_46 ⟨x_4, f_6, by omega, by omega, rfl, rfl⟩
      · have fc_12 : (0 : Int) ≤ x_5.toInt := i_nlt rfl (by decide) c_12
        refine lv_aload_n hx hb dX7_put_7 rfl (lv_at hl 1 rfl) ?_
        refine va_get (D := D) (ci := 7) (v := .int x_4) (C := RX7) (T := TX7) (N := 2) hx hb hts inX7 hown hG.1 hP 0 rfl rfl 1 (by decide) (hts _ kw147) (fun _ h9 => h9) rfl dX7_put_8 ?_
        refine lv_sipush (v := 1600) hx hb dX7_put_11 (by decide +kernel) ?_
        refine lv_icmp_ge (tgt := 46) hx hb dX7_put_14 (by decide) (fun c_13 => ?_) (fun c_13 => ?_)
        · have fc_13 : (1600 : Int) ≤ x_4.toInt := i_le (by decide) rfl c_13
          have hP9 := hP.sub (ws' := [(h0, .inr (7, [.ref h2, .int x_4])), (h2, .inl (cB, 1600, .inl f_6))]) [0, 1] rfl
          have hD9 := hD.sub (ws' := [(h0, .inr (7, [.ref h2, .int x_4])), (h2, .inl (cB, 1600, .inl f_6))]) [0, 1] (by decide) rfl
          exact xr_v (rm := (rmL 1 0 0)) hx hb hr hlocks hAe hS hP9 hD9 (Nat.le_of_ble_eq_true rfl) (Nat.le_of_ble_eq_true rfl) dX7_put_46 ⟨x_4, f_6, by omega, by omega, rfl, rfl⟩
        · have fc_13 : x_4.toInt < (1600 : Int) := i_nle (by decide) rfl c_13
          refine lv_aload_n hx hb dX7_put_17 rfl (lv_at hl 1 rfl) ?_
          refine va_get (D := D) (ci := 7) (v := .ref h2) (C := RX7) (T := TX7) (N := 2) hx hb hts inX7 hown hG.1 hP 0 rfl rfl 0 (by decide) (hts _ kw145) (fun _ h9 => h9) rfl dX7_put_18 ?_
          refine lv_aload_n hx hb dX7_put_21 rfl (lv_at hl 1 rfl) ?_
          refine va_get (D := D) (ci := 7) (v := .int x_4) (C := RX7) (T := TX7) (N := 2) hx hb hts inX7 hown hG.1 hP 0 rfl rfl 1 (by decide) (hts _ kw147) (fun _ h9 => h9) rfl dX7_put_22 ?_
          refine lv_iload_n hx hb dX7_put_25 rfl (lv_at hl 2 rfl) ?_
          refine lv_iload_n hx hb dX7_put_26 rfl (lv_at hl 0 rfl) ?_
          refine lv_ishr hx hb dX7_put_27 ?_
          refine xt_any (fun v_14 => ?_)
          refine lv_i2b hx hb dX7_put_28 rfl ?_
          refine xt_any (fun v_15 => ?_)
          refine xa_bstU hx hb hG hP hD hS 1 rfl (vp_in_iff.mpr ⟨by omega, by omega⟩) dX7_put_29 (fun f_16 H locs hP hD hS => ?_)
          have hP : va_P D vwCl [(h0, .inr (7, [.ref h2, .int x_4])), (h2, .inl (cB, 1600, .inl f_16))] H := hP
          have hD : va_D A [(h0, .inr (7, [.ref h2, .int x_4])), (h2, .inl (cB, 1600, .inl f_16))] := hD
          refine lv_aload_n hx hb dX7_put_30 rfl (lv_at hl 1 rfl) ?_
          refine lv_dup hx hb dX7_put_31 rfl ?_
          refine va_get (D := D) (ci := 7) (v := .int x_4) (C := RX7) (T := TX7) (N := 2) hx hb hts inX7 hown hG.1 hP 0 rfl rfl 1 (by decide) (hts _ kw147) (fun _ h9 => h9) rfl dX7_put_32 ?_
          refine lv_iconst (v := 1) hx hb dX7_put_35 (by decide +kernel) ?_
          refine lv_iadd hx hb dX7_put_36 ?_
          refine lv_topi (fun v_17 ev_17 => ?_)
          have gv_17 : v_17.toInt = x_4.toInt + (1 : Int) := by
            have zx : (x_4 : Int32).toInt = x_4.toInt := rfl
            have zy : (1 : Int32).toInt = (1 : Int) := (by decide)
            rw [ev_17, i32_add (by rw [zx, zy]; omega) (by rw [zx, zy]; omega), zx, zy]
          refine va_put (D := D) (ci := 7) (v := .int v_17) (ty := .int) (C := RX7) (T := TX7) (N := 2) hx hb hts inX7 tyX7 tyX7_ok nmX7 hown hG.1 hP hD hS 0 rfl rfl 1 (by decide) (hts _ kw147) (fun _ h9 => h9) rfl (by decide +kernel) rfl rfl (Nat.le_of_ble_eq_true rfl) dX7_put_37 (fun H locs hP hD hS => ?_)
          have hP : va_P D vwCl [(h0, .inr (7, [.ref h2, .int v_17])), (h2, .inl (cB, 1600, .inl f_16))] H := hP
          have hD : va_D A [(h0, .inr (7, [.ref h2, .int v_17])), (h2, .inl (cB, 1600, .inl f_16))] := hD
          obtain ⟨v_18, ev_18⟩ : ∃ y : Int32, y = x_5 + (-8) := ⟨_, rfl⟩
          have gv_18 : v_18.toInt = x_5.toInt + (-8) := by
            have zy : ((-8) : Int32).toInt = (-8) := by decide
            rw [ev_18, i32_add (by rw [zy]; omega) (by rw [zy]; omega), zy]
          refine lv_iinc (v := v_18) (lv' := [(2, .int v_18), (0, .ref h0), (1, .int x1)]) hx hb dX7_put_40 hl (k := 0) rfl (by rw [ev_18]; rfl) (by decide) rfl (fun ls hl => ?_)
          refine lv_goto (tgt := 3) hx hb dX7_put_43 (by decide) ?_
          exact ihlp_7  v_17 v_18 f_16 _ _ _ (by omega) (by omega) (by omega) (by omega) (hP.sub (ws' := [(h0, .inr (7, [.ref h2, .int v_17])), (h2, .inl (cB, 1600, .inl f_16))]) [0, 1] rfl) (hD.sub (ws' := [(h0, .inr (7, [.ref h2, .int v_17])), (h2, .inl (cB, 1600, .inl f_16))]) [0, 1] (by decide) rfl) hS (lv_sub hl [0, 1, 2] rfl)
  exact lp_7 1602 x3 24 f4 _ _ _ (by have zc24 : (24 : Int32).toInt = 24 := (by decide); omega) (by have zc24 : (24 : Int32).toInt = 24 := (by decide); omega) (by have zc24 : (24 : Int32).toInt = 24 := (by decide); omega) (by have zc24 : (24 : Int32).toInt = 24 := (by decide); omega) (hP.sub (ws' := [(h0, .inr (7, [.ref h2, .int x3])), (h2, .inl (cB, 1600, .inl f4))]) [0, 1] rfl) (hD.sub (ws' := [(h0, .inr (7, [.ref h2, .int x3])), (h2, .inl (cB, 1600, .inl f4))]) [0, 1] (by decide) rfl) hS (lv_sub hl [0, 1, 2] rfl)
theorem dX5_empty_0 : decode cX5_empty 0 = .ok (.aload_n 0, 1) := by decide +kernel
theorem dX5_empty_1 : decode cX5_empty 1 = .ok (.iconst 0, 1) := by decide +kernel
theorem kw575 : (.fieldLink RX5 15 "SpiceSwaps$Row" "size" "I" : Cond) ∈ gT := gT_of 575 (by decide +kernel) (by decide +kernel)
theorem dX5_empty_2 : decode cX5_empty 2 = .ok (.putfield 15, 3) := by decide +kernel
theorem dX5_empty_5 : decode cX5_empty 5 = .ok (.return_, 1) := by decide +kernel
set_option maxHeartbeats 4000000 in
set_option maxRecDepth 100000 in
theorem sX5_empty_1 (l : Launch) (D : va_G) (cB cI cJ cZ : ClassId) (aK aV : Nat → Nat) (h0 : Nat) (h1 : Nat) (x2 : Int32) (gh0 : 0 ≤ x2.toInt) (gh1 : 0 ≤ -x2.toInt + 7) : MX l yX5_empty cX5_empty 1 none (rmL 1 0 0) D cB cI cJ cZ aK aV [.ref h0] [(h0, .inr (5, [.ref h1, .int x2]))] (fun r w1 => r = none ∧ w1 = [(h0, .inr (5, [.ref h1, .int 0]))]) := by
  refine MX.intro (by decide) (Nat.le_of_ble_eq_true rfl) ?_
  intro p e s m below meth c A ls hx hb hr hml hown hlocks hnm hts hG hE hA hS hP hD hl hAe
  have hl : lv_has ls 1 [(0, .ref h0)] := hl
  have hown : s.vm.findClass RX5 = some m.cls := hown
  refine lv_aload_n hx hb dX5_empty_0 rfl (lv_at hl 0 rfl) ?_
  refine lv_iconst (v := 0) hx hb dX5_empty_1 (by decide +kernel) ?_
  refine va_put (D := D) (ci := 5) (v := .int 0) (ty := .int) (C := RX5) (T := TX5) (N := 2) hx hb hts inX5 tyX5 tyX5_ok nmX5 hown hG.1 hP hD hS 0 rfl rfl 1 (by decide) (hts _ kw575) (fun _ h9 => h9) rfl (by decide +kernel) rfl rfl (Nat.le_of_ble_eq_true rfl) dX5_empty_2 (fun H locs hP hD hS => ?_)
  have hP : va_P D vwCl [(h0, .inr (5, [.ref h1, .int 0]))] H := hP
  have hD : va_D A [(h0, .inr (5, [.ref h1, .int 0]))] := hD
  have hP9 := hP.sub (ws' := [(h0, .inr (5, [.ref h1, .int 0]))]) [0] rfl
  have hD9 := hD.sub (ws' := [(h0, .inr (5, [.ref h1, .int 0]))]) [0] (by decide) rfl
  exact xr_v (rm := (rmL 1 0 0)) hx hb hr hlocks hAe hS hP9 hD9 (Nat.le_of_ble_eq_true rfl) (Nat.le_of_ble_eq_true rfl) dX5_empty_5 ⟨rfl, rfl⟩
theorem dX5_add_0 : decode cX5_add 0 = .ok (.aload_n 0, 1) := by decide +kernel
theorem dX5_add_1 : decode cX5_add 1 = .ok (.getfield 15, 3) := by decide +kernel
theorem dX5_add_4 : decode cX5_add 4 = .ok (.aload_n 0, 1) := by decide +kernel
theorem kw573 : (.fieldLink RX5 9 "SpiceSwaps$Row" "numbers" "[I" : Cond) ∈ gT := gT_of 573 (by decide +kernel) (by decide +kernel)
theorem dX5_add_5 : decode cX5_add 5 = .ok (.getfield 9, 3) := by decide +kernel
theorem dX5_add_8 : decode cX5_add 8 = .ok (.arraylength, 1) := by decide +kernel
theorem dX5_add_9 : decode cX5_add 9 = .ok (.if_icmp .ge 23, 3) := by decide +kernel
theorem dX5_add_32 : decode cX5_add 32 = .ok (.return_, 1) := by decide +kernel
theorem dX5_add_12 : decode cX5_add 12 = .ok (.aload_n 0, 1) := by decide +kernel
theorem dX5_add_13 : decode cX5_add 13 = .ok (.getfield 9, 3) := by decide +kernel
theorem dX5_add_16 : decode cX5_add 16 = .ok (.aload_n 0, 1) := by decide +kernel
theorem dX5_add_17 : decode cX5_add 17 = .ok (.getfield 15, 3) := by decide +kernel
theorem dX5_add_20 : decode cX5_add 20 = .ok (.iload_n 1, 1) := by decide +kernel
theorem dX5_add_21 : decode cX5_add 21 = .ok (.iastore, 1) := by decide +kernel
theorem dX5_add_22 : decode cX5_add 22 = .ok (.aload_n 0, 1) := by decide +kernel
theorem dX5_add_23 : decode cX5_add 23 = .ok (.dup, 1) := by decide +kernel
theorem dX5_add_24 : decode cX5_add 24 = .ok (.getfield 15, 3) := by decide +kernel
theorem dX5_add_27 : decode cX5_add 27 = .ok (.iconst 1, 1) := by decide +kernel
theorem dX5_add_28 : decode cX5_add 28 = .ok (.iadd, 1) := by decide +kernel
theorem dX5_add_29 : decode cX5_add 29 = .ok (.putfield 15, 3) := by decide +kernel
set_option maxHeartbeats 4000000 in
set_option maxRecDepth 100000 in
theorem sX5_add_1 (l : Launch) (D : va_G) (cB cI cJ cZ : ClassId) (aK aV : Nat → Nat) (h0 : Nat) (x1 : Int32) (h2 : Nat) (x3 : Int32) (f4 : Nat → Int32) (gh0 : 0 ≤ x3.toInt) (gh1 : 0 ≤ -x3.toInt + 7) : MX l yX5_add cX5_add 2 none (rmL 1 0 0) D cB cI cJ cZ aK aV [.ref h0, .int x1] [(h0, .inr (5, [.ref h2, .int x3])), (h2, .inl (cI, 7, .inl f4))] (fun r w1 => ∃ z1 : Int32, ∃ z2 : Nat → Int32, 0 ≤ z1.toInt ∧ 0 ≤ -z1.toInt + 7 ∧ r = none ∧ w1 = [(h0, .inr (5, [.ref h2, .int z1])), (h2, .inl (cI, 7, .inl z2))]) := by
  refine MX.intro (by decide) (Nat.le_of_ble_eq_true rfl) ?_
  intro p e s m below meth c A ls hx hb hr hml hown hlocks hnm hts hG hE hA hS hP hD hl hAe
  have hl : lv_has ls 2 [(0, .ref h0), (1, .int x1)] := hl
  have hown : s.vm.findClass RX5 = some m.cls := hown
  refine lv_aload_n hx hb dX5_add_0 rfl (lv_at hl 0 rfl) ?_
  refine va_get (D := D) (ci := 5) (v := .int x3) (C := RX5) (T := TX5) (N := 2) hx hb hts inX5 hown hG.1 hP 0 rfl rfl 1 (by decide) (hts _ kw575) (fun _ h9 => h9) rfl dX5_add_1 ?_
  refine lv_aload_n hx hb dX5_add_4 rfl (lv_at hl 0 rfl) ?_
  refine va_get (D := D) (ci := 5) (v := .ref h2) (C := RX5) (T := TX5) (N := 2) hx hb hts inX5 hown hG.1 hP 0 rfl rfl 0 (by decide) (hts _ kw573) (fun _ h9 => h9) rfl dX5_add_5 ?_
  refine xa_alen (v := 7) hx hb hG hP 1 1 rfl rfl rfl dX5_add_8 ?_
  refine lv_icmp_ge (tgt := 32) hx hb dX5_add_9 (by decide) (fun c_1 => ?_) (fun c_1 => ?_)
  · have fc_1 : (7 : Int) ≤ x3.toInt := i_le (by decide) rfl c_1
    have hP9 := hP.sub (ws' := [(h0, .inr (5, [.ref h2, .int x3])), (h2, .inl (cI, 7, .inl f4))]) [0, 1] rfl
    have hD9 := hD.sub (ws' := [(h0, .inr (5, [.ref h2, .int x3])), (h2, .inl (cI, 7, .inl f4))]) [0, 1] (by decide) rfl
    exact xr_v (rm := (rmL 1 0 0)) hx hb hr hlocks hAe hS hP9 hD9 (Nat.le_of_ble_eq_true rfl) (Nat.le_of_ble_eq_true rfl) dX5_add_32 ⟨x3, f4, by omega, by omega, rfl, rfl⟩
  · have fc_1 : x3.toInt < (7 : Int) := i_nle (by decide) rfl c_1
    refine lv_aload_n hx hb dX5_add_12 rfl (lv_at hl 0 rfl) ?_
    refine va_get (D := D) (ci := 5) (v := .ref h2) (C := RX5) (T := TX5) (N := 2) hx hb hts inX5 hown hG.1 hP 0 rfl rfl 0 (by decide) (hts _ kw573) (fun _ h9 => h9) rfl dX5_add_13 ?_
    refine lv_aload_n hx hb dX5_add_16 rfl (lv_at hl 0 rfl) ?_
    refine va_get (D := D) (ci := 5) (v := .int x3) (C := RX5) (T := TX5) (N := 2) hx hb hts inX5 hown hG.1 hP 0 rfl rfl 1 (by decide) (hts _ kw575) (fun _ h9 => h9) rfl dX5_add_17 ?_
    refine lv_iload_n hx hb dX5_add_20 rfl (lv_at hl 1 rfl) ?_
    refine xa_istU hx hb hG hP hD hS 1 rfl (vp_in_iff.mpr ⟨by omega, by omega⟩) dX5_add_21 (fun f_2 H locs hP hD hS => ?_)
    have hP : va_P D vwCl [(h0, .inr (5, [.ref h2, .int x3])), (h2, .inl (cI, 7, .inl f_2))] H := hP
    have hD : va_D A [(h0, .inr (5, [.ref h2, .int x3])), (h2, .inl (cI, 7, .inl f_2))] := hD
    refine lv_aload_n hx hb dX5_add_22 rfl (lv_at hl 0 rfl) ?_
    refine lv_dup hx hb dX5_add_23 rfl ?_
    refine va_get (D := D) (ci := 5) (v := .int x3) (C := RX5) (T := TX5) (N := 2) hx hb hts inX5 hown hG.1 hP 0 rfl rfl 1 (by decide) (hts _ kw575) (fun _ h9 => h9) rfl dX5_add_24 ?_
    refine lv_iconst (v := 1) hx hb dX5_add_27 (by decide +kernel) ?_
    refine lv_iadd hx hb dX5_add_28 ?_
    refine lv_topi (fun v_3 ev_3 => ?_)
    have gv_3 : v_3.toInt = x3.toInt + (1 : Int) := by
      have zx : (x3 : Int32).toInt = x3.toInt := rfl
      have zy : (1 : Int32).toInt = (1 : Int) := (by decide)
      rw [ev_3, i32_add (by rw [zx, zy]; omega) (by rw [zx, zy]; omega), zx, zy]
    refine va_put (D := D) (ci := 5) (v := .int v_3) (ty := .int) (C := RX5) (T := TX5) (N := 2) hx hb hts inX5 tyX5 tyX5_ok nmX5 hown hG.1 hP hD hS 0 rfl rfl 1 (by decide) (hts _ kw575) (fun _ h9 => h9) rfl (by decide +kernel) rfl rfl (Nat.le_of_ble_eq_true rfl) dX5_add_29 (fun H locs hP hD hS => ?_)
    have hP : va_P D vwCl [(h0, .inr (5, [.ref h2, .int v_3])), (h2, .inl (cI, 7, .inl f_2))] H := hP
    have hD : va_D A [(h0, .inr (5, [.ref h2, .int v_3])), (h2, .inl (cI, 7, .inl f_2))] := hD
    have hP9 := hP.sub (ws' := [(h0, .inr (5, [.ref h2, .int v_3])), (h2, .inl (cI, 7, .inl f_2))]) [0, 1] rfl
    have hD9 := hD.sub (ws' := [(h0, .inr (5, [.ref h2, .int v_3])), (h2, .inl (cI, 7, .inl f_2))]) [0, 1] (by decide) rfl
    exact xr_v (rm := (rmL 1 0 0)) hx hb hr hlocks hAe hS hP9 hD9 (Nat.le_of_ble_eq_true rfl) (Nat.le_of_ble_eq_true rfl) dX5_add_32 ⟨v_3, f_2, by omega, by omega, rfl, rfl⟩
theorem dX5_fill_0 : decode cX5_fill 0 = .ok (.aload_n 0, 1) := by decide +kernel
theorem kw1048 : (.methodLink RX5 19 yX5_empty : Cond) ∈ gT := gT_of 1048 (by decide +kernel) (by decide +kernel)
theorem kw822 : (.code yX5_empty cX5_empty 1 none : Cond) ∈ gT := gT_of 822 (by decide +kernel) (by decide +kernel)
theorem kw820 : (.instanceMethod yX5_empty : Cond) ∈ gT := gT_of 820 (by decide +kernel) (by decide +kernel)
theorem kw821 : (.selects RX5 yX5_empty yX5_empty : Cond) ∈ gT := gT_of 821 (by decide +kernel) (by decide +kernel)
theorem kw126 : (.initialized RX5 : Cond) ∈ gT := gT_of 126 (by decide +kernel) (by decide +kernel)
theorem dX5_fill_1 : decode cX5_fill 1 = .ok (.invokevirtual 19, 3) := by decide +kernel
theorem dX5_fill_4 : decode cX5_fill 4 = .ok (.iconst 0, 1) := by decide +kernel
theorem dX5_fill_5 : decode cX5_fill 5 = .ok (.istore_n 3, 1) := by decide +kernel
theorem dX5_fill_6 : decode cX5_fill 6 = .ok (.iload_n 3, 1) := by decide +kernel
theorem dX5_fill_7 : decode cX5_fill 7 = .ok (.iload_n 2, 1) := by decide +kernel
theorem dX5_fill_8 : decode cX5_fill 8 = .ok (.if_icmp .ge 22, 3) := by decide +kernel
theorem dX5_fill_30 : decode cX5_fill 30 = .ok (.return_, 1) := by decide +kernel
theorem dX5_fill_11 : decode cX5_fill 11 = .ok (.iload_n 3, 1) := by decide +kernel
theorem dX5_fill_12 : decode cX5_fill 12 = .ok (.aload_n 1, 1) := by decide +kernel
theorem dX5_fill_13 : decode cX5_fill 13 = .ok (.arraylength, 1) := by decide +kernel
theorem dX5_fill_14 : decode cX5_fill 14 = .ok (.if_icmp .ge 16, 3) := by decide +kernel
theorem dX5_fill_17 : decode cX5_fill 17 = .ok (.aload_n 0, 1) := by decide +kernel
theorem dX5_fill_18 : decode cX5_fill 18 = .ok (.aload_n 1, 1) := by decide +kernel
theorem dX5_fill_19 : decode cX5_fill 19 = .ok (.iload_n 3, 1) := by decide +kernel
theorem dX5_fill_20 : decode cX5_fill 20 = .ok (.iaload, 1) := by decide +kernel
theorem kw1049 : (.methodLink RX5 22 yX5_add : Cond) ∈ gT := gT_of 1049 (by decide +kernel) (by decide +kernel)
theorem kw1052 : (.code yX5_add cX5_add 2 none : Cond) ∈ gT := gT_of 1052 (by decide +kernel) (by decide +kernel)
theorem kw1050 : (.instanceMethod yX5_add : Cond) ∈ gT := gT_of 1050 (by decide +kernel) (by decide +kernel)
theorem kw1051 : (.selects RX5 yX5_add yX5_add : Cond) ∈ gT := gT_of 1051 (by decide +kernel) (by decide +kernel)
theorem dX5_fill_21 : decode cX5_fill 21 = .ok (.invokevirtual 22, 3) := by decide +kernel
theorem dX5_fill_24 : decode cX5_fill 24 = .ok (.iinc 3 1, 3) := by decide +kernel
theorem dX5_fill_27 : decode cX5_fill 27 = .ok (.goto (-21), 3) := by decide +kernel
set_option maxHeartbeats 4000000 in
set_option maxRecDepth 100000 in
theorem sX5_fill_1 (l : Launch) (D : va_G) (cB cI cJ cZ : ClassId) (aK aV : Nat → Nat) (h0 : Nat) (h1 : Nat) (x2 : Int32) (h3 : Nat) (x4 : Int32) (f5 : Nat → Int32) (f6 : Nat → Int32) (gh0 : 0 ≤ x4.toInt) (gh1 : 0 ≤ -x4.toInt + 7) : MX l yX5_fill cX5_fill 4 none (rmL 2 0 0) D cB cI cJ cZ aK aV [.ref h0, .ref h1, .int x2] [(h0, .inr (5, [.ref h3, .int x4])), (h1, .inl (cI, 7, .inl f5)), (h3, .inl (cI, 7, .inl f6))] (fun r w1 => ∃ z1 : Int32, ∃ z2 : Nat → Int32, 0 ≤ z1.toInt ∧ 0 ≤ -z1.toInt + 7 ∧ r = none ∧ w1 = [(h0, .inr (5, [.ref h3, .int z1])), (h1, .inl (cI, 7, .inl f5)), (h3, .inl (cI, 7, .inl z2))]) := by
  refine MX.intro (by decide) (Nat.le_of_ble_eq_true rfl) ?_
  intro p e s m below meth c A ls hx hb hr hml hown hlocks hnm hts hG hE hA hS hP hD hl hAe
  have hl : lv_has ls 4 [(0, .ref h0), (1, .ref h1), (2, .int x2)] := hl
  have hown : s.vm.findClass RX5 = some m.cls := hown
  refine lv_aload_n hx hb dX5_fill_0 rfl (lv_at hl 0 rfl) ?_
  refine xc_core (wr := [(h1, .inl (cI, 7, .inl f5)), (h3, .inl (cI, 7, .inl f6))]) (k := 0) (n := 0) (xc_runV (As := []) (rest := []) hx hb hml hown hts hG hE hP hD hS hA [0] (by decide) rfl (sX5_empty_1 l D cB cI cJ cZ aK aV h0 h3 x4 (by omega) (by omega)) kw822 kw1048 kw820 kw821 kw126 (show XD yX5_empty 0 from by decide +kernel) (by decide) rfl rfl 0 rfl hl.1 rfl (Nat.le_of_ble_eq_true rfl) dX5_fill_1 (by decide)) hP hD hS hA [0] [1, 2] rfl rfl (by decide) (by decide) (Nat.le_of_ble_eq_true rfl) (Nat.le_of_ble_eq_true rfl) (fun r w1 H locs hpost hP hD hS => ?_)
  obtain ⟨rfl, rfl⟩ := hpost
  have hP : va_P D vwCl [(h1, .inl (cI, 7, .inl f5)), (h3, .inl (cI, 7, .inl f6)), (h0, .inr (5, [.ref h3, .int 0]))] H := hP
  have hD : va_D A [(h1, .inl (cI, 7, .inl f5)), (h3, .inl (cI, 7, .inl f6)), (h0, .inr (5, [.ref h3, .int 0]))] := hD
  refine lv_iconst (v := 0) hx hb dX5_fill_4 (by decide +kernel) ?_
  refine lv_istore_n (lv' := [(3, .int 0), (0, .ref h0), (1, .ref h1), (2, .int x2)]) hx hb dX5_fill_5 rfl hl (by decide) rfl (fun ls hl => ?_)
  have lp_7 : ∀ (n : Nat) (x_4 x_5 : Int32) (f_6 : Nat → Int32) (H : Heap) (locs : List Loc) (ls : Array Slot), 0 ≤ x_4.toInt → 0 ≤ -x_4.toInt + 7 → 0 ≤ x_5.toInt → 0 ≤ -x_5.toInt + 7 → -x_5.toInt + 7 < n → va_P D vwCl [(h1, .inl (cI, 7, .inl f5)), (h3, .inl (cI, 7, .inl f_6)), (h0, .inr (5, [.ref h3, .int x_4]))] H → va_D A [(h1, .inl (cI, 7, .inl f5)), (h3, .inl (cI, 7, .inl f_6)), (h0, .inr (5, [.ref h3, .int x_4]))] → va_S A s.heap H locs → lv_has ls 4 [(3, .int x_5), (0, .ref h0), (1, .ref h1), (2, .int x2)] → W p l e (rmL 2 0 0) s m [.ref h0, .ref h1, .int x2].toArray below meth c H locs 0 0 (ZX D below [.ref h0, .ref h1, .int x2] s (rmL 2 0 0) [(h0, .inr (5, [.ref h3, .int x4])), (h1, .inl (cI, 7, .inl f5)), (h3, .inl (cI, 7, .inl f6))] (fun r w1 => ∃ z1 : Int32, ∃ z2 : Nat → Int32, 0 ≤ z1.toInt ∧ 0 ≤ -z1.toInt + 7 ∧ r = none ∧ w1 = [(h0, .inr (5, [.ref h3, .int z1])), (h1, .inl (cI, 7, .inl f5)), (h3, .inl (cI, 7, .inl z2))])) (F0 m 6 ls []) := by
    intro n
    induction n with
    | zero => intro x_4 x_5 f_6 H locs ls g_8 g_9 g_10 g_11 g_12; omega
    | succ n ihlp_7 =>
      intro x_4 x_5 f_6 H locs ls g_8 g_9 g_10 g_11 g_12 hP hD hS hl
      refine lv_iload_n hx hb dX5_fill_6 rfl (lv_at hl 0 rfl) ?_
      refine lv_iload_n hx hb dX5_fill_7 rfl (lv_at hl 3 rfl) ?_
      refine lv_icmp_ge (tgt := 30) hx hb dX5_fill_8 (by decide) (fun c_13 => ?_) (fun c_13 => ?_)
      · have fc_13 : x2.toInt ≤ x_5.toInt := i_le rfl rfl c_13
        have hP9 := hP.sub (ws' := [(h0, .inr (5, [.ref h3, .int x_4])), (h1, .inl (cI, 7, .inl f5)), (h3, .inl (cI, 7, .inl f_6))]) [2, 0, 1] rfl
        have hD9 := hD.sub (ws' := [(h0, .inr (5, [.ref h3, .int x_4])), (h1, .inl (cI, 7, .inl f5)), (h3, .inl (cI, 7, .inl f_6))]) [2, 0, 1] (by decide) rfl
        exact xr_v (rm := (rmL 2 0 0)) hx hb hr hlocks hAe hS hP9 hD9 (Nat.le_of_ble_eq_true rfl) (Nat.le_of_ble_eq_true rfl) dX5_fill_30 ⟨x_4, f_6, by omega, by omega, rfl, rfl⟩
      · have fc_13 : x_5.toInt < x2.toInt := i_nle rfl rfl c_13
        refine lv_iload_n hx hb dX5_fill_11 rfl (lv_at hl 0 rfl) ?_
        refine lv_aload_n hx hb dX5_fill_12 rfl (lv_at hl 2 rfl) ?_
        refine xa_alen (v := 7) hx hb hG hP 0 1 rfl rfl rfl dX5_fill_13 ?_
        refine lv_icmp_ge (tgt := 30) hx hb dX5_fill_14 (by decide) (fun c_14 => ?_) (fun c_14 => ?_)
        · have fc_14 : (7 : Int) ≤ x_5.toInt := i_le (by decide) rfl c_14
          have hP9 := hP.sub (ws' := [(h0, .inr (5, [.ref h3, .int x_4])), (h1, .inl (cI, 7, .inl f5)), (h3, .inl (cI, 7, .inl f_6))]) [2, 0, 1] rfl
          have hD9 := hD.sub (ws' := [(h0, .inr (5, [.ref h3, .int x_4])), (h1, .inl (cI, 7, .inl f5)), (h3, .inl (cI, 7, .inl f_6))]) [2, 0, 1] (by decide) rfl
          exact xr_v (rm := (rmL 2 0 0)) hx hb hr hlocks hAe hS hP9 hD9 (Nat.le_of_ble_eq_true rfl) (Nat.le_of_ble_eq_true rfl) dX5_fill_30 ⟨x_4, f_6, by omega, by omega, rfl, rfl⟩
        · have fc_14 : x_5.toInt < (7 : Int) := i_nle (by decide) rfl c_14
          refine lv_aload_n hx hb dX5_fill_17 rfl (lv_at hl 1 rfl) ?_
          refine lv_aload_n hx hb dX5_fill_18 rfl (lv_at hl 2 rfl) ?_
          refine lv_iload_n hx hb dX5_fill_19 rfl (lv_at hl 0 rfl) ?_
          refine xa_ildU hx hb hG hP 0 rfl (vp_in_iff.mpr ⟨by omega, by omega⟩) dX5_fill_20 (fun v_15 => ?_)
          refine xc_core (wr := [(h1, .inl (cI, 7, .inl f5))]) (k := 0) (n := 0) (xc_runV (As := [.int v_15]) (rest := []) hx hb hml hown hts hG hE hP hD hS hA [2, 1] (by decide) rfl (sX5_add_1 l D cB cI cJ cZ aK aV h0 v_15 h3 x_4 f_6 (by omega) (by omega)) kw1052 kw1049 kw1050 kw1051 kw126 (show XD yX5_add 1 from by decide +kernel) (by decide) rfl rfl 2 rfl hl.1 rfl (Nat.le_of_ble_eq_true rfl) dX5_fill_21 (by decide)) hP hD hS hA [2, 1] [0] rfl rfl (by decide) (by decide) (Nat.le_of_ble_eq_true rfl) (Nat.le_of_ble_eq_true rfl) (fun r w1 H locs hpost hP hD hS => ?_)
          obtain ⟨v_16, f_17, g_18, g_19, rfl, rfl⟩ := hpost
          have hP : va_P D vwCl [(h1, .inl (cI, 7, .inl f5)), (h0, .inr (5, [.ref h3, .int v_16])), (h3, .inl (cI, 7, .inl f_17))] H := hP
          have hD : va_D A [(h1, .inl (cI, 7, .inl f5)), (h0, .inr (5, [.ref h3, .int v_16])), (h3, .inl (cI, 7, .inl f_17))] := hD
          obtain ⟨v_20, ev_20⟩ : ∃ y : Int32, y = x_5 + 1 := ⟨_, rfl⟩
          have gv_20 : v_20.toInt = x_5.toInt + 1 := by
            have zy : (1 : Int32).toInt = 1 := by decide
            rw [ev_20, i32_add (by rw [zy]; omega) (by rw [zy]; omega), zy]
          refine lv_iinc (v := v_20) (lv' := [(3, .int v_20), (0, .ref h0), (1, .ref h1), (2, .int x2)]) hx hb dX5_fill_24 hl (k := 0) rfl (by rw [ev_20]; rfl) (by decide) rfl (fun ls hl => ?_)
          refine lv_goto (tgt := 6) hx hb dX5_fill_27 (by decide) ?_
          exact ihlp_7  v_16 v_20 f_17 _ _ _ (by omega) (by omega) (by omega) (by omega) (by omega) (hP.sub (ws' := [(h1, .inl (cI, 7, .inl f5)), (h3, .inl (cI, 7, .inl f_17)), (h0, .inr (5, [.ref h3, .int v_16]))]) [0, 2, 1] rfl) (hD.sub (ws' := [(h1, .inl (cI, 7, .inl f5)), (h3, .inl (cI, 7, .inl f_17)), (h0, .inr (5, [.ref h3, .int v_16]))]) [0, 2, 1] (by decide) rfl) hS (lv_sub hl [0, 1, 2, 3] rfl)
  exact lp_7 9 0 0 f6 _ _ _ (by have zc0 : (0 : Int32).toInt = 0 := (by decide); omega) (by have zc0 : (0 : Int32).toInt = 0 := (by decide); omega) (by have zc0 : (0 : Int32).toInt = 0 := (by decide); omega) (by have zc0 : (0 : Int32).toInt = 0 := (by decide); omega) (by have zc0 : (0 : Int32).toInt = 0 := (by decide); omega) (hP.sub (ws' := [(h1, .inl (cI, 7, .inl f5)), (h3, .inl (cI, 7, .inl f6)), (h0, .inr (5, [.ref h3, .int 0]))]) [0, 1, 2] rfl) (hD.sub (ws' := [(h1, .inl (cI, 7, .inl f5)), (h3, .inl (cI, 7, .inl f6)), (h0, .inr (5, [.ref h3, .int 0]))]) [0, 1, 2] (by decide) rfl) hS (lv_sub hl [0, 1, 2, 3] rfl)
set_option maxHeartbeats 4000000 in
set_option maxRecDepth 100000 in
theorem sX5_fill_2 (l : Launch) (D : va_G) (cB cI cJ cZ : ClassId) (aK aV : Nat → Nat) (h0 : Nat) (h1 : Nat) (x2 : Int32) (h3 : Nat) (x4 : Int32) (f5 : Nat → Int32) (f6 : Nat → Int32) (gh0 : 0 ≤ x4.toInt) (gh1 : 0 ≤ -x4.toInt + 7) : MX l yX5_fill cX5_fill 4 none (rmL 2 0 0) D cB cI cJ cZ aK aV [.ref h0, .ref h1, .int x2] [(h0, .inr (5, [.ref h3, .int x4])), (h1, .inl (cI, 4, .inl f5)), (h3, .inl (cI, 7, .inl f6))] (fun r w1 => ∃ z1 : Int32, ∃ z2 : Nat → Int32, 0 ≤ z1.toInt ∧ 0 ≤ -z1.toInt + 7 ∧ r = none ∧ w1 = [(h0, .inr (5, [.ref h3, .int z1])), (h1, .inl (cI, 4, .inl f5)), (h3, .inl (cI, 7, .inl z2))]) := by
  refine MX.intro (by decide) (Nat.le_of_ble_eq_true rfl) ?_
  intro p e s m below meth c A ls hx hb hr hml hown hlocks hnm hts hG hE hA hS hP hD hl hAe
  have hl : lv_has ls 4 [(0, .ref h0), (1, .ref h1), (2, .int x2)] := hl
  have hown : s.vm.findClass RX5 = some m.cls := hown
  refine lv_aload_n hx hb dX5_fill_0 rfl (lv_at hl 0 rfl) ?_
  refine xc_core (wr := [(h1, .inl (cI, 4, .inl f5)), (h3, .inl (cI, 7, .inl f6))]) (k := 0) (n := 0) (xc_runV (As := []) (rest := []) hx hb hml hown hts hG hE hP hD hS hA [0] (by decide) rfl (sX5_empty_1 l D cB cI cJ cZ aK aV h0 h3 x4 (by omega) (by omega)) kw822 kw1048 kw820 kw821 kw126 (show XD yX5_empty 0 from by decide +kernel) (by decide) rfl rfl 0 rfl hl.1 rfl (Nat.le_of_ble_eq_true rfl) dX5_fill_1 (by decide)) hP hD hS hA [0] [1, 2] rfl rfl (by decide) (by decide) (Nat.le_of_ble_eq_true rfl) (Nat.le_of_ble_eq_true rfl) (fun r w1 H locs hpost hP hD hS => ?_)
  obtain ⟨rfl, rfl⟩ := hpost
  have hP : va_P D vwCl [(h1, .inl (cI, 4, .inl f5)), (h3, .inl (cI, 7, .inl f6)), (h0, .inr (5, [.ref h3, .int 0]))] H := hP
  have hD : va_D A [(h1, .inl (cI, 4, .inl f5)), (h3, .inl (cI, 7, .inl f6)), (h0, .inr (5, [.ref h3, .int 0]))] := hD
  refine lv_iconst (v := 0) hx hb dX5_fill_4 (by decide +kernel) ?_
  refine lv_istore_n (lv' := [(3, .int 0), (0, .ref h0), (1, .ref h1), (2, .int x2)]) hx hb dX5_fill_5 rfl hl (by decide) rfl (fun ls hl => ?_)
  have lp_7 : ∀ (n : Nat) (x_4 x_5 : Int32) (f_6 : Nat → Int32) (H : Heap) (locs : List Loc) (ls : Array Slot), 0 ≤ x_4.toInt → 0 ≤ -x_4.toInt + 7 → 0 ≤ x_5.toInt → 0 ≤ -x_5.toInt + 4 → -x_5.toInt + 4 < n → va_P D vwCl [(h1, .inl (cI, 4, .inl f5)), (h3, .inl (cI, 7, .inl f_6)), (h0, .inr (5, [.ref h3, .int x_4]))] H → va_D A [(h1, .inl (cI, 4, .inl f5)), (h3, .inl (cI, 7, .inl f_6)), (h0, .inr (5, [.ref h3, .int x_4]))] → va_S A s.heap H locs → lv_has ls 4 [(3, .int x_5), (0, .ref h0), (1, .ref h1), (2, .int x2)] → W p l e (rmL 2 0 0) s m [.ref h0, .ref h1, .int x2].toArray below meth c H locs 0 0 (ZX D below [.ref h0, .ref h1, .int x2] s (rmL 2 0 0) [(h0, .inr (5, [.ref h3, .int x4])), (h1, .inl (cI, 4, .inl f5)), (h3, .inl (cI, 7, .inl f6))] (fun r w1 => ∃ z1 : Int32, ∃ z2 : Nat → Int32, 0 ≤ z1.toInt ∧ 0 ≤ -z1.toInt + 7 ∧ r = none ∧ w1 = [(h0, .inr (5, [.ref h3, .int z1])), (h1, .inl (cI, 4, .inl f5)), (h3, .inl (cI, 7, .inl z2))])) (F0 m 6 ls []) := by
    intro n
    induction n with
    | zero => intro x_4 x_5 f_6 H locs ls g_8 g_9 g_10 g_11 g_12; omega
    | succ n ihlp_7 =>
      intro x_4 x_5 f_6 H locs ls g_8 g_9 g_10 g_11 g_12 hP hD hS hl
      refine lv_iload_n hx hb dX5_fill_6 rfl (lv_at hl 0 rfl) ?_
      refine lv_iload_n hx hb dX5_fill_7 rfl (lv_at hl 3 rfl) ?_
      refine lv_icmp_ge (tgt := 30) hx hb dX5_fill_8 (by decide) (fun c_13 => ?_) (fun c_13 => ?_)
      · have fc_13 : x2.toInt ≤ x_5.toInt := i_le rfl rfl c_13
        have hP9 := hP.sub (ws' := [(h0, .inr (5, [.ref h3, .int x_4])), (h1, .inl (cI, 4, .inl f5)), (h3, .inl (cI, 7, .inl f_6))]) [2, 0, 1] rfl
        have hD9 := hD.sub (ws' := [(h0, .inr (5, [.ref h3, .int x_4])), (h1, .inl (cI, 4, .inl f5)), (h3, .inl (cI, 7, .inl f_6))]) [2, 0, 1] (by decide) rfl
        exact xr_v (rm := (rmL 2 0 0)) hx hb hr hlocks hAe hS hP9 hD9 (Nat.le_of_ble_eq_true rfl) (Nat.le_of_ble_eq_true rfl) dX5_fill_30 ⟨x_4, f_6, by omega, by omega, rfl, rfl⟩
      · have fc_13 : x_5.toInt < x2.toInt := i_nle rfl rfl c_13
        refine lv_iload_n hx hb dX5_fill_11 rfl (lv_at hl 0 rfl) ?_
        refine lv_aload_n hx hb dX5_fill_12 rfl (lv_at hl 2 rfl) ?_
        refine xa_alen (v := 4) hx hb hG hP 0 1 rfl rfl rfl dX5_fill_13 ?_
        refine lv_icmp_ge (tgt := 30) hx hb dX5_fill_14 (by decide) (fun c_14 => ?_) (fun c_14 => ?_)
        · have fc_14 : (4 : Int) ≤ x_5.toInt := i_le (by decide) rfl c_14
          have hP9 := hP.sub (ws' := [(h0, .inr (5, [.ref h3, .int x_4])), (h1, .inl (cI, 4, .inl f5)), (h3, .inl (cI, 7, .inl f_6))]) [2, 0, 1] rfl
          have hD9 := hD.sub (ws' := [(h0, .inr (5, [.ref h3, .int x_4])), (h1, .inl (cI, 4, .inl f5)), (h3, .inl (cI, 7, .inl f_6))]) [2, 0, 1] (by decide) rfl
          exact xr_v (rm := (rmL 2 0 0)) hx hb hr hlocks hAe hS hP9 hD9 (Nat.le_of_ble_eq_true rfl) (Nat.le_of_ble_eq_true rfl) dX5_fill_30 ⟨x_4, f_6, by omega, by omega, rfl, rfl⟩
        · have fc_14 : x_5.toInt < (4 : Int) := i_nle (by decide) rfl c_14
          refine lv_aload_n hx hb dX5_fill_17 rfl (lv_at hl 1 rfl) ?_
          refine lv_aload_n hx hb dX5_fill_18 rfl (lv_at hl 2 rfl) ?_
          refine lv_iload_n hx hb dX5_fill_19 rfl (lv_at hl 0 rfl) ?_
          refine xa_ildU hx hb hG hP 0 rfl (vp_in_iff.mpr ⟨by omega, by omega⟩) dX5_fill_20 (fun v_15 => ?_)
          refine xc_core (wr := [(h1, .inl (cI, 4, .inl f5))]) (k := 0) (n := 0) (xc_runV (As := [.int v_15]) (rest := []) hx hb hml hown hts hG hE hP hD hS hA [2, 1] (by decide) rfl (sX5_add_1 l D cB cI cJ cZ aK aV h0 v_15 h3 x_4 f_6 (by omega) (by omega)) kw1052 kw1049 kw1050 kw1051 kw126 (show XD yX5_add 1 from by decide +kernel) (by decide) rfl rfl 2 rfl hl.1 rfl (Nat.le_of_ble_eq_true rfl) dX5_fill_21 (by decide)) hP hD hS hA [2, 1] [0] rfl rfl (by decide) (by decide) (Nat.le_of_ble_eq_true rfl) (Nat.le_of_ble_eq_true rfl) (fun r w1 H locs hpost hP hD hS => ?_)
          obtain ⟨v_16, f_17, g_18, g_19, rfl, rfl⟩ := hpost
          have hP : va_P D vwCl [(h1, .inl (cI, 4, .inl f5)), (h0, .inr (5, [.ref h3, .int v_16])), (h3, .inl (cI, 7, .inl f_17))] H := hP
          have hD : va_D A [(h1, .inl (cI, 4, .inl f5)), (h0, .inr (5, [.ref h3, .int v_16])), (h3, .inl (cI, 7, .inl f_17))] := hD
          obtain ⟨v_20, ev_20⟩ : ∃ y : Int32, y = x_5 + 1 := ⟨_, rfl⟩
          have gv_20 : v_20.toInt = x_5.toInt + 1 := by
            have zy : (1 : Int32).toInt = 1 := by decide
            rw [ev_20, i32_add (by rw [zy]; omega) (by rw [zy]; omega), zy]
          refine lv_iinc (v := v_20) (lv' := [(3, .int v_20), (0, .ref h0), (1, .ref h1), (2, .int x2)]) hx hb dX5_fill_24 hl (k := 0) rfl (by rw [ev_20]; rfl) (by decide) rfl (fun ls hl => ?_)
          refine lv_goto (tgt := 6) hx hb dX5_fill_27 (by decide) ?_
          exact ihlp_7  v_16 v_20 f_17 _ _ _ (by omega) (by omega) (by omega) (by omega) (by omega) (hP.sub (ws' := [(h1, .inl (cI, 4, .inl f5)), (h3, .inl (cI, 7, .inl f_17)), (h0, .inr (5, [.ref h3, .int v_16]))]) [0, 2, 1] rfl) (hD.sub (ws' := [(h1, .inl (cI, 4, .inl f5)), (h3, .inl (cI, 7, .inl f_17)), (h0, .inr (5, [.ref h3, .int v_16]))]) [0, 2, 1] (by decide) rfl) hS (lv_sub hl [0, 1, 2, 3] rfl)
  exact lp_7 6 0 0 f6 _ _ _ (by have zc0 : (0 : Int32).toInt = 0 := (by decide); omega) (by have zc0 : (0 : Int32).toInt = 0 := (by decide); omega) (by have zc0 : (0 : Int32).toInt = 0 := (by decide); omega) (by have zc0 : (0 : Int32).toInt = 0 := (by decide); omega) (by have zc0 : (0 : Int32).toInt = 0 := (by decide); omega) (hP.sub (ws' := [(h1, .inl (cI, 4, .inl f5)), (h3, .inl (cI, 7, .inl f6)), (h0, .inr (5, [.ref h3, .int 0]))]) [0, 1, 2] rfl) (hD.sub (ws' := [(h1, .inl (cI, 4, .inl f5)), (h3, .inl (cI, 7, .inl f6)), (h0, .inr (5, [.ref h3, .int 0]))]) [0, 1, 2] (by decide) rfl) hS (lv_sub hl [0, 1, 2, 3] rfl)
theorem dX6_forget_0 : decode cX6_forget 0 = .ok (.aload_n 0, 1) := by decide +kernel
theorem dX6_forget_1 : decode cX6_forget 1 = .ok (.iconst 0, 1) := by decide +kernel
theorem kw551 : (.fieldLink RX6 28 "SpiceSwaps$Secrets" "size" "I" : Cond) ∈ gT := gT_of 551 (by decide +kernel) (by decide +kernel)
theorem dX6_forget_2 : decode cX6_forget 2 = .ok (.putfield 28, 3) := by decide +kernel
theorem dX6_forget_5 : decode cX6_forget 5 = .ok (.return_, 1) := by decide +kernel
set_option maxHeartbeats 4000000 in
set_option maxRecDepth 100000 in
theorem sX6_forget_1 (l : Launch) (D : va_G) (cB cI cJ cZ : ClassId) (aK aV : Nat → Nat) (h0 : Nat) (h1 : Nat) (h2 : Nat) (h3 : Nat) (h4 : Nat) (h5 : Nat) (x6 : Int32) (gh0 : 0 ≤ x6.toInt) (gh1 : 0 ≤ -x6.toInt + 30) : MX l yX6_forget cX6_forget 1 none (rmL 1 0 0) D cB cI cJ cZ aK aV [.ref h0] [(h0, .inr (6, [.ref h1, .ref h2, .ref h3, .ref h4, .ref h5, .int x6]))] (fun r w1 => r = none ∧ w1 = [(h0, .inr (6, [.ref h1, .ref h2, .ref h3, .ref h4, .ref h5, .int 0]))]) := by
  refine MX.intro (by decide) (Nat.le_of_ble_eq_true rfl) ?_
  intro p e s m below meth c A ls hx hb hr hml hown hlocks hnm hts hG hE hA hS hP hD hl hAe
  have hl : lv_has ls 1 [(0, .ref h0)] := hl
  have hown : s.vm.findClass RX6 = some m.cls := hown
  refine lv_aload_n hx hb dX6_forget_0 rfl (lv_at hl 0 rfl) ?_
  refine lv_iconst (v := 0) hx hb dX6_forget_1 (by decide +kernel) ?_
  refine va_put (D := D) (ci := 6) (v := .int 0) (ty := .int) (C := RX6) (T := TX6) (N := 6) hx hb hts inX6 tyX6 tyX6_ok nmX6 hown hG.1 hP hD hS 0 rfl rfl 5 (by decide) (hts _ kw551) (fun _ h9 => h9) rfl (by decide +kernel) rfl rfl (Nat.le_of_ble_eq_true rfl) dX6_forget_2 (fun H locs hP hD hS => ?_)
  have hP : va_P D vwCl [(h0, .inr (6, [.ref h1, .ref h2, .ref h3, .ref h4, .ref h5, .int 0]))] H := hP
  have hD : va_D A [(h0, .inr (6, [.ref h1, .ref h2, .ref h3, .ref h4, .ref h5, .int 0]))] := hD
  have hP9 := hP.sub (ws' := [(h0, .inr (6, [.ref h1, .ref h2, .ref h3, .ref h4, .ref h5, .int 0]))]) [0] rfl
  have hD9 := hD.sub (ws' := [(h0, .inr (6, [.ref h1, .ref h2, .ref h3, .ref h4, .ref h5, .int 0]))]) [0] (by decide) rfl
  exact xr_v (rm := (rmL 1 0 0)) hx hb hr hlocks hAe hS hP9 hD9 (Nat.le_of_ble_eq_true rfl) (Nat.le_of_ble_eq_true rfl) dX6_forget_5 ⟨rfl, rfl⟩
theorem dX6_tell_0 : decode cX6_tell 0 = .ok (.aload_n 0, 1) := by decide +kernel
theorem dX6_tell_1 : decode cX6_tell 1 = .ok (.getfield 28, 3) := by decide +kernel
theorem dX6_tell_4 : decode cX6_tell 4 = .ok (.bipush 30, 2) := by decide +kernel
theorem dX6_tell_6 : decode cX6_tell 6 = .ok (.if_icmp .lt 5, 3) := by decide +kernel
theorem dX6_tell_11 : decode cX6_tell 11 = .ok (.aload_n 0, 1) := by decide +kernel
theorem kw546 : (.fieldLink RX6 11 "SpiceSwaps$Secrets" "sorts" "[I" : Cond) ∈ gT := gT_of 546 (by decide +kernel) (by decide +kernel)
theorem dX6_tell_12 : decode cX6_tell 12 = .ok (.getfield 11, 3) := by decide +kernel
theorem dX6_tell_15 : decode cX6_tell 15 = .ok (.aload_n 0, 1) := by decide +kernel
theorem dX6_tell_16 : decode cX6_tell 16 = .ok (.getfield 28, 3) := by decide +kernel
theorem dX6_tell_19 : decode cX6_tell 19 = .ok (.iload_n 1, 1) := by decide +kernel
theorem dX6_tell_20 : decode cX6_tell 20 = .ok (.iastore, 1) := by decide +kernel
theorem dX6_tell_21 : decode cX6_tell 21 = .ok (.aload_n 0, 1) := by decide +kernel
theorem kw547 : (.fieldLink RX6 15 "SpiceSwaps$Secrets" "values" "[I" : Cond) ∈ gT := gT_of 547 (by decide +kernel) (by decide +kernel)
theorem dX6_tell_22 : decode cX6_tell 22 = .ok (.getfield 15, 3) := by decide +kernel
theorem dX6_tell_25 : decode cX6_tell 25 = .ok (.aload_n 0, 1) := by decide +kernel
theorem dX6_tell_26 : decode cX6_tell 26 = .ok (.getfield 28, 3) := by decide +kernel
theorem dX6_tell_29 : decode cX6_tell 29 = .ok (.iload_n 2, 1) := by decide +kernel
theorem dX6_tell_30 : decode cX6_tell 30 = .ok (.iastore, 1) := by decide +kernel
theorem dX6_tell_31 : decode cX6_tell 31 = .ok (.aload_n 0, 1) := by decide +kernel
theorem kw548 : (.fieldLink RX6 18 "SpiceSwaps$Secrets" "truths" "[Z" : Cond) ∈ gT := gT_of 548 (by decide +kernel) (by decide +kernel)
theorem dX6_tell_32 : decode cX6_tell 32 = .ok (.getfield 18, 3) := by decide +kernel
theorem dX6_tell_35 : decode cX6_tell 35 = .ok (.aload_n 0, 1) := by decide +kernel
theorem dX6_tell_36 : decode cX6_tell 36 = .ok (.getfield 28, 3) := by decide +kernel
theorem dX6_tell_39 : decode cX6_tell 39 = .ok (.iload_n 3, 1) := by decide +kernel
theorem dX6_tell_40 : decode cX6_tell 40 = .ok (.bastore, 1) := by decide +kernel
theorem dX6_tell_41 : decode cX6_tell 41 = .ok (.aload_n 0, 1) := by decide +kernel
theorem kw549 : (.fieldLink RX6 22 "SpiceSwaps$Secrets" "toldAt" "[I" : Cond) ∈ gT := gT_of 549 (by decide +kernel) (by decide +kernel)
theorem dX6_tell_42 : decode cX6_tell 42 = .ok (.getfield 22, 3) := by decide +kernel
theorem dX6_tell_45 : decode cX6_tell 45 = .ok (.aload_n 0, 1) := by decide +kernel
theorem dX6_tell_46 : decode cX6_tell 46 = .ok (.getfield 28, 3) := by decide +kernel
theorem dX6_tell_49 : decode cX6_tell 49 = .ok (.iload 4, 2) := by decide +kernel
theorem dX6_tell_51 : decode cX6_tell 51 = .ok (.iastore, 1) := by decide +kernel
theorem dX6_tell_52 : decode cX6_tell 52 = .ok (.aload_n 0, 1) := by decide +kernel
theorem kw550 : (.fieldLink RX6 25 "SpiceSwaps$Secrets" "untoldAt" "[I" : Cond) ∈ gT := gT_of 550 (by decide +kernel) (by decide +kernel)
theorem dX6_tell_53 : decode cX6_tell 53 = .ok (.getfield 25, 3) := by decide +kernel
theorem dX6_tell_56 : decode cX6_tell 56 = .ok (.aload_n 0, 1) := by decide +kernel
theorem dX6_tell_57 : decode cX6_tell 57 = .ok (.getfield 28, 3) := by decide +kernel
theorem dX6_tell_60 : decode cX6_tell 60 = .ok (.iconst (-1), 1) := by decide +kernel
theorem dX6_tell_61 : decode cX6_tell 61 = .ok (.iastore, 1) := by decide +kernel
theorem dX6_tell_62 : decode cX6_tell 62 = .ok (.aload_n 0, 1) := by decide +kernel
theorem dX6_tell_63 : decode cX6_tell 63 = .ok (.dup, 1) := by decide +kernel
theorem dX6_tell_64 : decode cX6_tell 64 = .ok (.getfield 28, 3) := by decide +kernel
theorem dX6_tell_67 : decode cX6_tell 67 = .ok (.iconst 1, 1) := by decide +kernel
theorem dX6_tell_68 : decode cX6_tell 68 = .ok (.iadd, 1) := by decide +kernel
theorem dX6_tell_69 : decode cX6_tell 69 = .ok (.putfield 28, 3) := by decide +kernel
theorem dX6_tell_72 : decode cX6_tell 72 = .ok (.aload_n 0, 1) := by decide +kernel
theorem dX6_tell_73 : decode cX6_tell 73 = .ok (.getfield 28, 3) := by decide +kernel
theorem dX6_tell_76 : decode cX6_tell 76 = .ok (.iconst 1, 1) := by decide +kernel
theorem dX6_tell_77 : decode cX6_tell 77 = .ok (.isub, 1) := by decide +kernel
theorem dX6_tell_78 : decode cX6_tell 78 = .ok (.ireturn, 1) := by decide +kernel
theorem dX6_tell_9 : decode cX6_tell 9 = .ok (.iconst (-1), 1) := by decide +kernel
theorem dX6_tell_10 : decode cX6_tell 10 = .ok (.ireturn, 1) := by decide +kernel
set_option maxHeartbeats 4000000 in
set_option maxRecDepth 100000 in
theorem sX6_tell_1 (l : Launch) (D : va_G) (cB cI cJ cZ : ClassId) (aK aV : Nat → Nat) (h0 : Nat) (x1 : Int32) (x2 : Int32) (x3 : Int32) (x4 : Int32) (h5 : Nat) (h6 : Nat) (h7 : Nat) (h8 : Nat) (h9 : Nat) (x10 : Int32) (f11 : Nat → Int32) (f12 : Nat → Int32) (f13 : Nat → Int32) (f14 : Nat → Int32) (f15 : Nat → Int32) (gh0 : 0 ≤ x10.toInt) (gh1 : 0 ≤ -x10.toInt + 30) : MX l yX6_tell cX6_tell 5 (some .int) (rmL 1 0 0) D cB cI cJ cZ aK aV [.ref h0, .int x1, .int x2, .int x3, .int x4] [(h0, .inr (6, [.ref h5, .ref h6, .ref h7, .ref h8, .ref h9, .int x10])), (h5, .inl (cI, 30, .inl f11)), (h6, .inl (cI, 30, .inl f12)), (h7, .inl (cZ, 30, .inl f13)), (h8, .inl (cI, 30, .inl f14)), (h9, .inl (cI, 30, .inl f15))] (fun r w1 => ∃ z1 : Int32, ∃ z2 : Nat → Int32, ∃ z3 : Nat → Int32, ∃ z4 : Nat → Int32, ∃ z5 : Nat → Int32, ∃ z6 : Nat → Int32, ∃ z7 : Int32, 0 ≤ z1.toInt ∧ 0 ≤ -z1.toInt + 30 ∧ 0 ≤ z7.toInt + 1 ∧ 0 ≤ -z7.toInt + 29 ∧ r = some (.int z7) ∧ w1 = [(h0, .inr (6, [.ref h5, .ref h6, .ref h7, .ref h8, .ref h9, .int z1])), (h5, .inl (cI, 30, .inl z2)), (h6, .inl (cI, 30, .inl z3)), (h7, .inl (cZ, 30, .inl z4)), (h8, .inl (cI, 30, .inl z5)), (h9, .inl (cI, 30, .inl z6))]) := by
  refine MX.intro (by decide) (Nat.le_of_ble_eq_true rfl) ?_
  intro p e s m below meth c A ls hx hb hr hml hown hlocks hnm hts hG hE hA hS hP hD hl hAe
  have hl : lv_has ls 5 [(0, .ref h0), (1, .int x1), (2, .int x2), (3, .int x3), (4, .int x4)] := hl
  have hown : s.vm.findClass RX6 = some m.cls := hown
  refine lv_aload_n hx hb dX6_tell_0 rfl (lv_at hl 0 rfl) ?_
  refine va_get (D := D) (ci := 6) (v := .int x10) (C := RX6) (T := TX6) (N := 6) hx hb hts inX6 hown hG.1 hP 0 rfl rfl 5 (by decide) (hts _ kw551) (fun _ h9 => h9) rfl dX6_tell_1 ?_
  refine lv_bipush (v := 30) hx hb dX6_tell_4 (by decide +kernel) ?_
  refine lv_icmp_lt (tgt := 11) hx hb dX6_tell_6 (by decide) (fun c_1 => ?_) (fun c_1 => ?_)
  · have fc_1 : x10.toInt < (30 : Int) := i_lt rfl (by decide) c_1
    refine lv_aload_n hx hb dX6_tell_11 rfl (lv_at hl 0 rfl) ?_
    refine va_get (D := D) (ci := 6) (v := .ref h5) (C := RX6) (T := TX6) (N := 6) hx hb hts inX6 hown hG.1 hP 0 rfl rfl 0 (by decide) (hts _ kw546) (fun _ h9 => h9) rfl dX6_tell_12 ?_
    refine lv_aload_n hx hb dX6_tell_15 rfl (lv_at hl 0 rfl) ?_
    refine va_get (D := D) (ci := 6) (v := .int x10) (C := RX6) (T := TX6) (N := 6) hx hb hts inX6 hown hG.1 hP 0 rfl rfl 5 (by decide) (hts _ kw551) (fun _ h9 => h9) rfl dX6_tell_16 ?_
    refine lv_iload_n hx hb dX6_tell_19 rfl (lv_at hl 1 rfl) ?_
    refine xa_istU hx hb hG hP hD hS 1 rfl (vp_in_iff.mpr ⟨by omega, by omega⟩) dX6_tell_20 (fun f_2 H locs hP hD hS => ?_)
    have hP : va_P D vwCl [(h0, .inr (6, [.ref h5, .ref h6, .ref h7, .ref h8, .ref h9, .int x10])), (h5, .inl (cI, 30, .inl f_2)), (h6, .inl (cI, 30, .inl f12)), (h7, .inl (cZ, 30, .inl f13)), (h8, .inl (cI, 30, .inl f14)), (h9, .inl (cI, 30, .inl f15))] H := hP
    have hD : va_D A [(h0, .inr (6, [.ref h5, .ref h6, .ref h7, .ref h8, .ref h9, .int x10])), (h5, .inl (cI, 30, .inl f_2)), (h6, .inl (cI, 30, .inl f12)), (h7, .inl (cZ, 30, .inl f13)), (h8, .inl (cI, 30, .inl f14)), (h9, .inl (cI, 30, .inl f15))] := hD
    refine lv_aload_n hx hb dX6_tell_21 rfl (lv_at hl 0 rfl) ?_
    refine va_get (D := D) (ci := 6) (v := .ref h6) (C := RX6) (T := TX6) (N := 6) hx hb hts inX6 hown hG.1 hP 0 rfl rfl 1 (by decide) (hts _ kw547) (fun _ h9 => h9) rfl dX6_tell_22 ?_
    refine lv_aload_n hx hb dX6_tell_25 rfl (lv_at hl 0 rfl) ?_
    refine va_get (D := D) (ci := 6) (v := .int x10) (C := RX6) (T := TX6) (N := 6) hx hb hts inX6 hown hG.1 hP 0 rfl rfl 5 (by decide) (hts _ kw551) (fun _ h9 => h9) rfl dX6_tell_26 ?_
    refine lv_iload_n hx hb dX6_tell_29 rfl (lv_at hl 2 rfl) ?_
    refine xa_istU hx hb hG hP hD hS 2 rfl (vp_in_iff.mpr ⟨by omega, by omega⟩) dX6_tell_30 (fun f_3 H locs hP hD hS => ?_)
    have hP : va_P D vwCl [(h0, .inr (6, [.ref h5, .ref h6, .ref h7, .ref h8, .ref h9, .int x10])), (h5, .inl (cI, 30, .inl f_2)), (h6, .inl (cI, 30, .inl f_3)), (h7, .inl (cZ, 30, .inl f13)), (h8, .inl (cI, 30, .inl f14)), (h9, .inl (cI, 30, .inl f15))] H := hP
    have hD : va_D A [(h0, .inr (6, [.ref h5, .ref h6, .ref h7, .ref h8, .ref h9, .int x10])), (h5, .inl (cI, 30, .inl f_2)), (h6, .inl (cI, 30, .inl f_3)), (h7, .inl (cZ, 30, .inl f13)), (h8, .inl (cI, 30, .inl f14)), (h9, .inl (cI, 30, .inl f15))] := hD
    refine lv_aload_n hx hb dX6_tell_31 rfl (lv_at hl 0 rfl) ?_
    refine va_get (D := D) (ci := 6) (v := .ref h7) (C := RX6) (T := TX6) (N := 6) hx hb hts inX6 hown hG.1 hP 0 rfl rfl 2 (by decide) (hts _ kw548) (fun _ h9 => h9) rfl dX6_tell_32 ?_
    refine lv_aload_n hx hb dX6_tell_35 rfl (lv_at hl 0 rfl) ?_
    refine va_get (D := D) (ci := 6) (v := .int x10) (C := RX6) (T := TX6) (N := 6) hx hb hts inX6 hown hG.1 hP 0 rfl rfl 5 (by decide) (hts _ kw551) (fun _ h9 => h9) rfl dX6_tell_36 ?_
    refine lv_iload_n hx hb dX6_tell_39 rfl (lv_at hl 3 rfl) ?_
    refine xa_zstU hx hb hG hP hD hS 3 rfl (vp_in_iff.mpr ⟨by omega, by omega⟩) dX6_tell_40 (fun f_4 H locs hP hD hS => ?_)
    have hP : va_P D vwCl [(h0, .inr (6, [.ref h5, .ref h6, .ref h7, .ref h8, .ref h9, .int x10])), (h5, .inl (cI, 30, .inl f_2)), (h6, .inl (cI, 30, .inl f_3)), (h7, .inl (cZ, 30, .inl f_4)), (h8, .inl (cI, 30, .inl f14)), (h9, .inl (cI, 30, .inl f15))] H := hP
    have hD : va_D A [(h0, .inr (6, [.ref h5, .ref h6, .ref h7, .ref h8, .ref h9, .int x10])), (h5, .inl (cI, 30, .inl f_2)), (h6, .inl (cI, 30, .inl f_3)), (h7, .inl (cZ, 30, .inl f_4)), (h8, .inl (cI, 30, .inl f14)), (h9, .inl (cI, 30, .inl f15))] := hD
    refine lv_aload_n hx hb dX6_tell_41 rfl (lv_at hl 0 rfl) ?_
    refine va_get (D := D) (ci := 6) (v := .ref h8) (C := RX6) (T := TX6) (N := 6) hx hb hts inX6 hown hG.1 hP 0 rfl rfl 3 (by decide) (hts _ kw549) (fun _ h9 => h9) rfl dX6_tell_42 ?_
    refine lv_aload_n hx hb dX6_tell_45 rfl (lv_at hl 0 rfl) ?_
    refine va_get (D := D) (ci := 6) (v := .int x10) (C := RX6) (T := TX6) (N := 6) hx hb hts inX6 hown hG.1 hP 0 rfl rfl 5 (by decide) (hts _ kw551) (fun _ h9 => h9) rfl dX6_tell_46 ?_
    refine lv_iload hx hb dX6_tell_49 (lv_at hl 4 rfl) ?_
    refine xa_istU hx hb hG hP hD hS 4 rfl (vp_in_iff.mpr ⟨by omega, by omega⟩) dX6_tell_51 (fun f_5 H locs hP hD hS => ?_)
    have hP : va_P D vwCl [(h0, .inr (6, [.ref h5, .ref h6, .ref h7, .ref h8, .ref h9, .int x10])), (h5, .inl (cI, 30, .inl f_2)), (h6, .inl (cI, 30, .inl f_3)), (h7, .inl (cZ, 30, .inl f_4)), (h8, .inl (cI, 30, .inl f_5)), (h9, .inl (cI, 30, .inl f15))] H := hP
    have hD : va_D A [(h0, .inr (6, [.ref h5, .ref h6, .ref h7, .ref h8, .ref h9, .int x10])), (h5, .inl (cI, 30, .inl f_2)), (h6, .inl (cI, 30, .inl f_3)), (h7, .inl (cZ, 30, .inl f_4)), (h8, .inl (cI, 30, .inl f_5)), (h9, .inl (cI, 30, .inl f15))] := hD
    refine lv_aload_n hx hb dX6_tell_52 rfl (lv_at hl 0 rfl) ?_
    refine va_get (D := D) (ci := 6) (v := .ref h9) (C := RX6) (T := TX6) (N := 6) hx hb hts inX6 hown hG.1 hP 0 rfl rfl 4 (by decide) (hts _ kw550) (fun _ h9 => h9) rfl dX6_tell_53 ?_
    refine lv_aload_n hx hb dX6_tell_56 rfl (lv_at hl 0 rfl) ?_
    refine va_get (D := D) (ci := 6) (v := .int x10) (C := RX6) (T := TX6) (N := 6) hx hb hts inX6 hown hG.1 hP 0 rfl rfl 5 (by decide) (hts _ kw551) (fun _ h9 => h9) rfl dX6_tell_57 ?_
    refine lv_iconst (v := (-1)) hx hb dX6_tell_60 (by decide +kernel) ?_
    refine xa_istU hx hb hG hP hD hS 5 rfl (vp_in_iff.mpr ⟨by omega, by omega⟩) dX6_tell_61 (fun f_6 H locs hP hD hS => ?_)
    have hP : va_P D vwCl [(h0, .inr (6, [.ref h5, .ref h6, .ref h7, .ref h8, .ref h9, .int x10])), (h5, .inl (cI, 30, .inl f_2)), (h6, .inl (cI, 30, .inl f_3)), (h7, .inl (cZ, 30, .inl f_4)), (h8, .inl (cI, 30, .inl f_5)), (h9, .inl (cI, 30, .inl f_6))] H := hP
    have hD : va_D A [(h0, .inr (6, [.ref h5, .ref h6, .ref h7, .ref h8, .ref h9, .int x10])), (h5, .inl (cI, 30, .inl f_2)), (h6, .inl (cI, 30, .inl f_3)), (h7, .inl (cZ, 30, .inl f_4)), (h8, .inl (cI, 30, .inl f_5)), (h9, .inl (cI, 30, .inl f_6))] := hD
    refine lv_aload_n hx hb dX6_tell_62 rfl (lv_at hl 0 rfl) ?_
    refine lv_dup hx hb dX6_tell_63 rfl ?_
    refine va_get (D := D) (ci := 6) (v := .int x10) (C := RX6) (T := TX6) (N := 6) hx hb hts inX6 hown hG.1 hP 0 rfl rfl 5 (by decide) (hts _ kw551) (fun _ h9 => h9) rfl dX6_tell_64 ?_
    refine lv_iconst (v := 1) hx hb dX6_tell_67 (by decide +kernel) ?_
    refine lv_iadd hx hb dX6_tell_68 ?_
    refine lv_topi (fun v_7 ev_7 => ?_)
    have gv_7 : v_7.toInt = x10.toInt + (1 : Int) := by
      have zx : (x10 : Int32).toInt = x10.toInt := rfl
      have zy : (1 : Int32).toInt = (1 : Int) := (by decide)
      rw [ev_7, i32_add (by rw [zx, zy]; omega) (by rw [zx, zy]; omega), zx, zy]
    refine va_put (D := D) (ci := 6) (v := .int v_7) (ty := .int) (C := RX6) (T := TX6) (N := 6) hx hb hts inX6 tyX6 tyX6_ok nmX6 hown hG.1 hP hD hS 0 rfl rfl 5 (by decide) (hts _ kw551) (fun _ h9 => h9) rfl (by decide +kernel) rfl rfl (Nat.le_of_ble_eq_true rfl) dX6_tell_69 (fun H locs hP hD hS => ?_)
    have hP : va_P D vwCl [(h0, .inr (6, [.ref h5, .ref h6, .ref h7, .ref h8, .ref h9, .int v_7])), (h5, .inl (cI, 30, .inl f_2)), (h6, .inl (cI, 30, .inl f_3)), (h7, .inl (cZ, 30, .inl f_4)), (h8, .inl (cI, 30, .inl f_5)), (h9, .inl (cI, 30, .inl f_6))] H := hP
    have hD : va_D A [(h0, .inr (6, [.ref h5, .ref h6, .ref h7, .ref h8, .ref h9, .int v_7])), (h5, .inl (cI, 30, .inl f_2)), (h6, .inl (cI, 30, .inl f_3)), (h7, .inl (cZ, 30, .inl f_4)), (h8, .inl (cI, 30, .inl f_5)), (h9, .inl (cI, 30, .inl f_6))] := hD
    refine lv_aload_n hx hb dX6_tell_72 rfl (lv_at hl 0 rfl) ?_
    refine va_get (D := D) (ci := 6) (v := .int v_7) (C := RX6) (T := TX6) (N := 6) hx hb hts inX6 hown hG.1 hP 0 rfl rfl 5 (by decide) (hts _ kw551) (fun _ h9 => h9) rfl dX6_tell_73 ?_
    refine lv_iconst (v := 1) hx hb dX6_tell_76 (by decide +kernel) ?_
    refine lv_isub hx hb dX6_tell_77 ?_
    refine lv_topi (fun v_8 ev_8 => ?_)
    have gv_8 : v_8.toInt = v_7.toInt - (1 : Int) := by
      have zx : (v_7 : Int32).toInt = v_7.toInt := rfl
      have zy : (1 : Int32).toInt = (1 : Int) := (by decide)
      rw [ev_8, i32_sub (by rw [zx, zy]; omega) (by rw [zx, zy]; omega), zx, zy]
    have hP9 := hP.sub (ws' := [(h0, .inr (6, [.ref h5, .ref h6, .ref h7, .ref h8, .ref h9, .int v_7])), (h5, .inl (cI, 30, .inl f_2)), (h6, .inl (cI, 30, .inl f_3)), (h7, .inl (cZ, 30, .inl f_4)), (h8, .inl (cI, 30, .inl f_5)), (h9, .inl (cI, 30, .inl f_6))]) [0, 1, 2, 3, 4, 5] rfl
    have hD9 := hD.sub (ws' := [(h0, .inr (6, [.ref h5, .ref h6, .ref h7, .ref h8, .ref h9, .int v_7])), (h5, .inl (cI, 30, .inl f_2)), (h6, .inl (cI, 30, .inl f_3)), (h7, .inl (cZ, 30, .inl f_4)), (h8, .inl (cI, 30, .inl f_5)), (h9, .inl (cI, 30, .inl f_6))]) [0, 1, 2, 3, 4, 5] (by decide) rfl
    exact xr_i (rm := (rmL 1 0 0)) hx hb hr hlocks hAe hS hP9 hD9 rfl (Nat.le_of_ble_eq_true rfl) (Nat.le_of_ble_eq_true rfl) dX6_tell_78 ⟨v_7, f_2, f_3, f_4, f_5, f_6, v_8, by omega, by omega, by omega, by omega, rfl, rfl⟩
  · have fc_1 : (30 : Int) ≤ x10.toInt := i_nlt rfl (by decide) c_1
    refine lv_iconst (v := (-1)) hx hb dX6_tell_9 (by decide +kernel) ?_
    have hP9 := hP.sub (ws' := [(h0, .inr (6, [.ref h5, .ref h6, .ref h7, .ref h8, .ref h9, .int x10])), (h5, .inl (cI, 30, .inl f11)), (h6, .inl (cI, 30, .inl f12)), (h7, .inl (cZ, 30, .inl f13)), (h8, .inl (cI, 30, .inl f14)), (h9, .inl (cI, 30, .inl f15))]) [0, 1, 2, 3, 4, 5] rfl
    have hD9 := hD.sub (ws' := [(h0, .inr (6, [.ref h5, .ref h6, .ref h7, .ref h8, .ref h9, .int x10])), (h5, .inl (cI, 30, .inl f11)), (h6, .inl (cI, 30, .inl f12)), (h7, .inl (cZ, 30, .inl f13)), (h8, .inl (cI, 30, .inl f14)), (h9, .inl (cI, 30, .inl f15))]) [0, 1, 2, 3, 4, 5] (by decide) rfl
    exact xr_i (rm := (rmL 1 0 0)) hx hb hr hlocks hAe hS hP9 hD9 rfl (Nat.le_of_ble_eq_true rfl) (Nat.le_of_ble_eq_true rfl) dX6_tell_10 ⟨x10, f11, f12, f13, f14, f15, (-1), by have zcm1 : ((-1) : Int32).toInt = (-1) := (by decide); omega, by have zcm1 : ((-1) : Int32).toInt = (-1) := (by decide); omega, by have zcm1 : ((-1) : Int32).toInt = (-1) := (by decide); omega, by have zcm1 : ((-1) : Int32).toInt = (-1) := (by decide); omega, rfl, rfl⟩
theorem dX6_takeAway_0 : decode cX6_takeAway 0 = .ok (.iload_n 1, 1) := by decide +kernel
theorem dX6_takeAway_1 : decode cX6_takeAway 1 = .ok (.ifCond .lt 21, 3) := by decide +kernel
theorem dX6_takeAway_22 : decode cX6_takeAway 22 = .ok (.iconst 0, 1) := by decide +kernel
theorem dX6_takeAway_23 : decode cX6_takeAway 23 = .ok (.ireturn, 1) := by decide +kernel
theorem dX6_takeAway_4 : decode cX6_takeAway 4 = .ok (.iload_n 1, 1) := by decide +kernel
theorem dX6_takeAway_5 : decode cX6_takeAway 5 = .ok (.aload_n 0, 1) := by decide +kernel
theorem dX6_takeAway_6 : decode cX6_takeAway 6 = .ok (.getfield 28, 3) := by decide +kernel
theorem dX6_takeAway_9 : decode cX6_takeAway 9 = .ok (.if_icmp .ge 13, 3) := by decide +kernel
theorem dX6_takeAway_12 : decode cX6_takeAway 12 = .ok (.aload_n 0, 1) := by decide +kernel
theorem dX6_takeAway_13 : decode cX6_takeAway 13 = .ok (.getfield 25, 3) := by decide +kernel
theorem dX6_takeAway_16 : decode cX6_takeAway 16 = .ok (.iload_n 1, 1) := by decide +kernel
theorem dX6_takeAway_17 : decode cX6_takeAway 17 = .ok (.iaload, 1) := by decide +kernel
theorem dX6_takeAway_18 : decode cX6_takeAway 18 = .ok (.iconst (-1), 1) := by decide +kernel
theorem dX6_takeAway_19 : decode cX6_takeAway 19 = .ok (.if_icmp .eq 5, 3) := by decide +kernel
theorem dX6_takeAway_24 : decode cX6_takeAway 24 = .ok (.aload_n 0, 1) := by decide +kernel
theorem dX6_takeAway_25 : decode cX6_takeAway 25 = .ok (.getfield 25, 3) := by decide +kernel
theorem dX6_takeAway_28 : decode cX6_takeAway 28 = .ok (.iload_n 1, 1) := by decide +kernel
theorem dX6_takeAway_29 : decode cX6_takeAway 29 = .ok (.iload_n 2, 1) := by decide +kernel
theorem dX6_takeAway_30 : decode cX6_takeAway 30 = .ok (.iastore, 1) := by decide +kernel
theorem dX6_takeAway_31 : decode cX6_takeAway 31 = .ok (.iconst 1, 1) := by decide +kernel
theorem dX6_takeAway_32 : decode cX6_takeAway 32 = .ok (.ireturn, 1) := by decide +kernel
set_option maxHeartbeats 4000000 in
set_option maxRecDepth 100000 in
theorem sX6_takeAway_1 (l : Launch) (D : va_G) (cB cI cJ cZ : ClassId) (aK aV : Nat → Nat) (h0 : Nat) (x1 : Int32) (x2 : Int32) (h3 : Nat) (h4 : Nat) (h5 : Nat) (h6 : Nat) (h7 : Nat) (x8 : Int32) (f9 : Nat → Int32) (gh0 : 0 ≤ x8.toInt) (gh1 : 0 ≤ -x8.toInt + 30) : MX l yX6_takeAway cX6_takeAway 3 (some .boolean) (rmL 1 0 0) D cB cI cJ cZ aK aV [.ref h0, .int x1, .int x2] [(h0, .inr (6, [.ref h3, .ref h4, .ref h5, .ref h6, .ref h7, .int x8])), (h7, .inl (cI, 30, .inl f9))] (fun r w1 => ∃ z1 : Nat → Int32, ∃ z2 : Int32, 0 ≤ z2.toInt ∧ 0 ≤ -z2.toInt + 1 ∧ r = some (.int z2) ∧ w1 = [(h0, .inr (6, [.ref h3, .ref h4, .ref h5, .ref h6, .ref h7, .int x8])), (h7, .inl (cI, 30, .inl z1))]) := by
  refine MX.intro (by decide) (Nat.le_of_ble_eq_true rfl) ?_
  intro p e s m below meth c A ls hx hb hr hml hown hlocks hnm hts hG hE hA hS hP hD hl hAe
  have hl : lv_has ls 3 [(0, .ref h0), (1, .int x1), (2, .int x2)] := hl
  have hown : s.vm.findClass RX6 = some m.cls := hown
  refine lv_iload_n hx hb dX6_takeAway_0 rfl (lv_at hl 1 rfl) ?_
  refine lv_if_lt (tgt := 22) hx hb dX6_takeAway_1 (by decide) (fun c_1 => ?_) (fun c_1 => ?_)
  · have fc_1 : x1.toInt < (0 : Int) := i_lt rfl (by decide) c_1
    refine lv_iconst (v := 0) hx hb dX6_takeAway_22 (by decide +kernel) ?_
    have hP9 := hP.sub (ws' := [(h0, .inr (6, [.ref h3, .ref h4, .ref h5, .ref h6, .ref h7, .int x8])), (h7, .inl (cI, 30, .inl f9))]) [0, 1] rfl
    have hD9 := hD.sub (ws' := [(h0, .inr (6, [.ref h3, .ref h4, .ref h5, .ref h6, .ref h7, .int x8])), (h7, .inl (cI, 30, .inl f9))]) [0, 1] (by decide) rfl
    exact xr_i (rm := (rmL 1 0 0)) hx hb hr hlocks hAe hS hP9 hD9 (by decide +kernel) (Nat.le_of_ble_eq_true rfl) (Nat.le_of_ble_eq_true rfl) dX6_takeAway_23 ⟨f9, 0, by have zc0 : (0 : Int32).toInt = 0 := (by decide); omega, by have zc0 : (0 : Int32).toInt = 0 := (by decide); omega, rfl, rfl⟩
  · have fc_1 : (0 : Int) ≤ x1.toInt := i_nlt rfl (by decide) c_1
    refine lv_iload_n hx hb dX6_takeAway_4 rfl (lv_at hl 1 rfl) ?_
    refine lv_aload_n hx hb dX6_takeAway_5 rfl (lv_at hl 0 rfl) ?_
    refine va_get (D := D) (ci := 6) (v := .int x8) (C := RX6) (T := TX6) (N := 6) hx hb hts inX6 hown hG.1 hP 0 rfl rfl 5 (by decide) (hts _ kw551) (fun _ h9 => h9) rfl dX6_takeAway_6 ?_
    refine lv_icmp_ge (tgt := 22) hx hb dX6_takeAway_9 (by decide) (fun c_2 => ?_) (fun c_2 => ?_)
    · have fc_2 : x8.toInt ≤ x1.toInt := i_le rfl rfl c_2
      refine lv_iconst (v := 0) hx hb dX6_takeAway_22 (by decide +kernel) ?_
      have hP9 := hP.sub (ws' := [(h0, .inr (6, [.ref h3, .ref h4, .ref h5, .ref h6, .ref h7, .int x8])), (h7, .inl (cI, 30, .inl f9))]) [0, 1] rfl
      have hD9 := hD.sub (ws' := [(h0, .inr (6, [.ref h3, .ref h4, .ref h5, .ref h6, .ref h7, .int x8])), (h7, .inl (cI, 30, .inl f9))]) [0, 1] (by decide) rfl
      exact xr_i (rm := (rmL 1 0 0)) hx hb hr hlocks hAe hS hP9 hD9 (by decide +kernel) (Nat.le_of_ble_eq_true rfl) (Nat.le_of_ble_eq_true rfl) dX6_takeAway_23 ⟨f9, 0, by have zc0 : (0 : Int32).toInt = 0 := (by decide); omega, by have zc0 : (0 : Int32).toInt = 0 := (by decide); omega, rfl, rfl⟩
    · have fc_2 : x1.toInt < x8.toInt := i_nle rfl rfl c_2
      refine lv_aload_n hx hb dX6_takeAway_12 rfl (lv_at hl 0 rfl) ?_
      refine va_get (D := D) (ci := 6) (v := .ref h7) (C := RX6) (T := TX6) (N := 6) hx hb hts inX6 hown hG.1 hP 0 rfl rfl 4 (by decide) (hts _ kw550) (fun _ h9 => h9) rfl dX6_takeAway_13 ?_
      refine lv_iload_n hx hb dX6_takeAway_16 rfl (lv_at hl 1 rfl) ?_
      refine xa_ildU hx hb hG hP 1 rfl (vp_in_iff.mpr ⟨by omega, by omega⟩) dX6_takeAway_17 (fun v_3 => ?_)
      refine lv_iconst (v := (-1)) hx hb dX6_takeAway_18 (by decide +kernel) ?_
      refine lv_icmp_eq (tgt := 24) hx hb dX6_takeAway_19 (by decide) (fun c_4 => ?_) (fun c_4 => ?_)
      · have fc_4 : v_3.toInt = ((-1) : Int) := i_eq rfl (by decide) c_4
        refine lv_aload_n hx hb dX6_takeAway_24 rfl (lv_at hl 0 rfl) ?_
        refine va_get (D := D) (ci := 6) (v := .ref h7) (C := RX6) (T := TX6) (N := 6) hx hb hts inX6 hown hG.1 hP 0 rfl rfl 4 (by decide) (hts _ kw550) (fun _ h9 => h9) rfl dX6_takeAway_25 ?_
        refine lv_iload_n hx hb dX6_takeAway_28 rfl (lv_at hl 1 rfl) ?_
        refine lv_iload_n hx hb dX6_takeAway_29 rfl (lv_at hl 2 rfl) ?_
        refine xa_istU hx hb hG hP hD hS 1 rfl (vp_in_iff.mpr ⟨by omega, by omega⟩) dX6_takeAway_30 (fun f_5 H locs hP hD hS => ?_)
        have hP : va_P D vwCl [(h0, .inr (6, [.ref h3, .ref h4, .ref h5, .ref h6, .ref h7, .int x8])), (h7, .inl (cI, 30, .inl f_5))] H := hP
        have hD : va_D A [(h0, .inr (6, [.ref h3, .ref h4, .ref h5, .ref h6, .ref h7, .int x8])), (h7, .inl (cI, 30, .inl f_5))] := hD
        refine lv_iconst (v := 1) hx hb dX6_takeAway_31 (by decide +kernel) ?_
        have hP9 := hP.sub (ws' := [(h0, .inr (6, [.ref h3, .ref h4, .ref h5, .ref h6, .ref h7, .int x8])), (h7, .inl (cI, 30, .inl f_5))]) [0, 1] rfl
        have hD9 := hD.sub (ws' := [(h0, .inr (6, [.ref h3, .ref h4, .ref h5, .ref h6, .ref h7, .int x8])), (h7, .inl (cI, 30, .inl f_5))]) [0, 1] (by decide) rfl
        exact xr_i (rm := (rmL 1 0 0)) hx hb hr hlocks hAe hS hP9 hD9 (by decide +kernel) (Nat.le_of_ble_eq_true rfl) (Nat.le_of_ble_eq_true rfl) dX6_takeAway_32 ⟨f_5, 1, by have zc1 : (1 : Int32).toInt = 1 := (by decide); omega, by have zc1 : (1 : Int32).toInt = 1 := (by decide); omega, rfl, rfl⟩
      · have fc_4 : v_3.toInt ≠ ((-1) : Int) := i_ne rfl (by decide) c_4
        refine lv_iconst (v := 0) hx hb dX6_takeAway_22 (by decide +kernel) ?_
        have hP9 := hP.sub (ws' := [(h0, .inr (6, [.ref h3, .ref h4, .ref h5, .ref h6, .ref h7, .int x8])), (h7, .inl (cI, 30, .inl f9))]) [0, 1] rfl
        have hD9 := hD.sub (ws' := [(h0, .inr (6, [.ref h3, .ref h4, .ref h5, .ref h6, .ref h7, .int x8])), (h7, .inl (cI, 30, .inl f9))]) [0, 1] (by decide) rfl
        exact xr_i (rm := (rmL 1 0 0)) hx hb hr hlocks hAe hS hP9 hD9 (by decide +kernel) (Nat.le_of_ble_eq_true rfl) (Nat.le_of_ble_eq_true rfl) dX6_takeAway_23 ⟨f9, 0, by have zc0 : (0 : Int32).toInt = 0 := (by decide); omega, by have zc0 : (0 : Int32).toInt = 0 := (by decide); omega, rfl, rfl⟩
theorem dX1_forget_0 : decode cX1_forget 0 = .ok (.aload_n 0, 1) := by decide +kernel
theorem dX1_forget_1 : decode cX1_forget 1 = .ok (.iconst 0, 1) := by decide +kernel
theorem kw170 : (.fieldLink RX1 16 "SpiceSwaps$Formula" "size" "I" : Cond) ∈ gT := gT_of 170 (by decide +kernel) (by decide +kernel)
theorem dX1_forget_2 : decode cX1_forget 2 = .ok (.putfield 16, 3) := by decide +kernel
theorem dX1_forget_5 : decode cX1_forget 5 = .ok (.aload_n 0, 1) := by decide +kernel
theorem dX1_forget_6 : decode cX1_forget 6 = .ok (.iconst 0, 1) := by decide +kernel
theorem kw171 : (.fieldLink RX1 20 "SpiceSwaps$Formula" "units" "I" : Cond) ∈ gT := gT_of 171 (by decide +kernel) (by decide +kernel)
theorem dX1_forget_7 : decode cX1_forget 7 = .ok (.putfield 20, 3) := by decide +kernel
theorem dX1_forget_10 : decode cX1_forget 10 = .ok (.aload_n 0, 1) := by decide +kernel
theorem dX1_forget_11 : decode cX1_forget 11 = .ok (.iconst 0, 1) := by decide +kernel
theorem kw174 : (.fieldLink RX1 23 "SpiceSwaps$Formula" "isTold" "Z" : Cond) ∈ gT := gT_of 174 (by decide +kernel) (by decide +kernel)
theorem dX1_forget_12 : decode cX1_forget 12 = .ok (.putfield 23, 3) := by decide +kernel
theorem dX1_forget_15 : decode cX1_forget 15 = .ok (.return_, 1) := by decide +kernel
set_option maxHeartbeats 4000000 in
set_option maxRecDepth 100000 in
theorem sX1_forget_1 (l : Launch) (D : va_G) (cB cI cJ cZ : ClassId) (aK aV : Nat → Nat) (h0 : Nat) (h1 : Nat) (h2 : Nat) (x3 : Int32) (x4 : Int32) (x5 : Int32) (gh0 : 0 ≤ x3.toInt) (gh1 : 0 ≤ -x3.toInt + 272) : MX l yX1_forget cX1_forget 1 none (rmL 1 0 0) D cB cI cJ cZ aK aV [.ref h0] [(h0, .inr (1, [.ref h1, .ref h2, .int x3, .int x4, .int x5]))] (fun r w1 => r = none ∧ w1 = [(h0, .inr (1, [.ref h1, .ref h2, .int 0, .int 0, .int 0]))]) := by
  refine MX.intro (by decide) (Nat.le_of_ble_eq_true rfl) ?_
  intro p e s m below meth c A ls hx hb hr hml hown hlocks hnm hts hG hE hA hS hP hD hl hAe
  have hl : lv_has ls 1 [(0, .ref h0)] := hl
  have hown : s.vm.findClass RX1 = some m.cls := hown
  refine lv_aload_n hx hb dX1_forget_0 rfl (lv_at hl 0 rfl) ?_
  refine lv_iconst (v := 0) hx hb dX1_forget_1 (by decide +kernel) ?_
  refine va_put (D := D) (ci := 1) (v := .int 0) (ty := .int) (C := RX1) (T := TX1) (N := 5) hx hb hts inX1 tyX1 tyX1_ok nmX1 hown hG.1 hP hD hS 0 rfl rfl 2 (by decide) (hts _ kw170) (fun _ h9 => h9) rfl (by decide +kernel) rfl rfl (Nat.le_of_ble_eq_true rfl) dX1_forget_2 (fun H locs hP hD hS => ?_)
  have hP : va_P D vwCl [(h0, .inr (1, [.ref h1, .ref h2, .int 0, .int x4, .int x5]))] H := hP
  have hD : va_D A [(h0, .inr (1, [.ref h1, .ref h2, .int 0, .int x4, .int x5]))] := hD
  refine lv_aload_n hx hb dX1_forget_5 rfl (lv_at hl 0 rfl) ?_
  refine lv_iconst (v := 0) hx hb dX1_forget_6 (by decide +kernel) ?_
  refine va_put (D := D) (ci := 1) (v := .int 0) (ty := .int) (C := RX1) (T := TX1) (N := 5) hx hb hts inX1 tyX1 tyX1_ok nmX1 hown hG.1 hP hD hS 0 rfl rfl 3 (by decide) (hts _ kw171) (fun _ h9 => h9) rfl (by decide +kernel) rfl rfl (Nat.le_of_ble_eq_true rfl) dX1_forget_7 (fun H locs hP hD hS => ?_)
  have hP : va_P D vwCl [(h0, .inr (1, [.ref h1, .ref h2, .int 0, .int 0, .int x5]))] H := hP
  have hD : va_D A [(h0, .inr (1, [.ref h1, .ref h2, .int 0, .int 0, .int x5]))] := hD
  refine lv_aload_n hx hb dX1_forget_10 rfl (lv_at hl 0 rfl) ?_
  refine lv_iconst (v := 0) hx hb dX1_forget_11 (by decide +kernel) ?_
  refine va_put (D := D) (ci := 1) (v := .int 0) (ty := .boolean) (C := RX1) (T := TX1) (N := 5) hx hb hts inX1 tyX1 tyX1_ok nmX1 hown hG.1 hP hD hS 0 rfl rfl 4 (by decide) (hts _ kw174) (fun _ h9 => h9) rfl (by decide +kernel) (by decide +kernel) (by decide +kernel) (Nat.le_of_ble_eq_true rfl) dX1_forget_12 (fun H locs hP hD hS => ?_)
  have hP : va_P D vwCl [(h0, .inr (1, [.ref h1, .ref h2, .int 0, .int 0, .int 0]))] H := hP
  have hD : va_D A [(h0, .inr (1, [.ref h1, .ref h2, .int 0, .int 0, .int 0]))] := hD
  have hP9 := hP.sub (ws' := [(h0, .inr (1, [.ref h1, .ref h2, .int 0, .int 0, .int 0]))]) [0] rfl
  have hD9 := hD.sub (ws' := [(h0, .inr (1, [.ref h1, .ref h2, .int 0, .int 0, .int 0]))]) [0] (by decide) rfl
  exact xr_v (rm := (rmL 1 0 0)) hx hb hr hlocks hAe hS hP9 hD9 (Nat.le_of_ble_eq_true rfl) (Nat.le_of_ble_eq_true rfl) dX1_forget_15 ⟨rfl, rfl⟩
theorem dX1_add_0 : decode cX1_add 0 = .ok (.aload_n 0, 1) := by decide +kernel
theorem dX1_add_1 : decode cX1_add 1 = .ok (.getfield 16, 3) := by decide +kernel
theorem dX1_add_4 : decode cX1_add 4 = .ok (.aload_n 0, 1) := by decide +kernel
theorem kw168 : (.fieldLink RX1 9 "SpiceSwaps$Formula" "steps" "[I" : Cond) ∈ gT := gT_of 168 (by decide +kernel) (by decide +kernel)
theorem dX1_add_5 : decode cX1_add 5 = .ok (.getfield 9, 3) := by decide +kernel
theorem dX1_add_8 : decode cX1_add 8 = .ok (.arraylength, 1) := by decide +kernel
theorem dX1_add_9 : decode cX1_add 9 = .ok (.if_icmp .ge 23, 3) := by decide +kernel
theorem dX1_add_32 : decode cX1_add 32 = .ok (.return_, 1) := by decide +kernel
theorem dX1_add_12 : decode cX1_add 12 = .ok (.aload_n 0, 1) := by decide +kernel
theorem dX1_add_13 : decode cX1_add 13 = .ok (.getfield 9, 3) := by decide +kernel
theorem dX1_add_16 : decode cX1_add 16 = .ok (.aload_n 0, 1) := by decide +kernel
theorem dX1_add_17 : decode cX1_add 17 = .ok (.getfield 16, 3) := by decide +kernel
theorem dX1_add_20 : decode cX1_add 20 = .ok (.iload_n 1, 1) := by decide +kernel
theorem dX1_add_21 : decode cX1_add 21 = .ok (.iastore, 1) := by decide +kernel
theorem dX1_add_22 : decode cX1_add 22 = .ok (.aload_n 0, 1) := by decide +kernel
theorem dX1_add_23 : decode cX1_add 23 = .ok (.dup, 1) := by decide +kernel
theorem dX1_add_24 : decode cX1_add 24 = .ok (.getfield 16, 3) := by decide +kernel
theorem dX1_add_27 : decode cX1_add 27 = .ok (.iconst 1, 1) := by decide +kernel
theorem dX1_add_28 : decode cX1_add 28 = .ok (.iadd, 1) := by decide +kernel
theorem dX1_add_29 : decode cX1_add 29 = .ok (.putfield 16, 3) := by decide +kernel
set_option maxHeartbeats 4000000 in
set_option maxRecDepth 100000 in
theorem sX1_add_1 (l : Launch) (D : va_G) (cB cI cJ cZ : ClassId) (aK aV : Nat → Nat) (h0 : Nat) (x1 : Int32) (h2 : Nat) (h3 : Nat) (x4 : Int32) (x5 : Int32) (x6 : Int32) (f7 : Nat → Int32) (gh0 : 0 ≤ x4.toInt) (gh1 : 0 ≤ -x4.toInt + 272) : MX l yX1_add cX1_add 2 none (rmL 1 0 0) D cB cI cJ cZ aK aV [.ref h0, .int x1] [(h0, .inr (1, [.ref h2, .ref h3, .int x4, .int x5, .int x6])), (h2, .inl (cI, 272, .inl f7))] (fun r w1 => ∃ z1 : Int32, ∃ z2 : Nat → Int32, 0 ≤ z1.toInt ∧ 0 ≤ -z1.toInt + 272 ∧ r = none ∧ w1 = [(h0, .inr (1, [.ref h2, .ref h3, .int z1, .int x5, .int x6])), (h2, .inl (cI, 272, .inl z2))]) := by
  refine MX.intro (by decide) (Nat.le_of_ble_eq_true rfl) ?_
  intro p e s m below meth c A ls hx hb hr hml hown hlocks hnm hts hG hE hA hS hP hD hl hAe
  have hl : lv_has ls 2 [(0, .ref h0), (1, .int x1)] := hl
  have hown : s.vm.findClass RX1 = some m.cls := hown
  refine lv_aload_n hx hb dX1_add_0 rfl (lv_at hl 0 rfl) ?_
  refine va_get (D := D) (ci := 1) (v := .int x4) (C := RX1) (T := TX1) (N := 5) hx hb hts inX1 hown hG.1 hP 0 rfl rfl 2 (by decide) (hts _ kw170) (fun _ h9 => h9) rfl dX1_add_1 ?_
  refine lv_aload_n hx hb dX1_add_4 rfl (lv_at hl 0 rfl) ?_
  refine va_get (D := D) (ci := 1) (v := .ref h2) (C := RX1) (T := TX1) (N := 5) hx hb hts inX1 hown hG.1 hP 0 rfl rfl 0 (by decide) (hts _ kw168) (fun _ h9 => h9) rfl dX1_add_5 ?_
  refine xa_alen (v := 272) hx hb hG hP 1 1 rfl rfl rfl dX1_add_8 ?_
  refine lv_icmp_ge (tgt := 32) hx hb dX1_add_9 (by decide) (fun c_1 => ?_) (fun c_1 => ?_)
  · have fc_1 : (272 : Int) ≤ x4.toInt := i_le (by decide) rfl c_1
    have hP9 := hP.sub (ws' := [(h0, .inr (1, [.ref h2, .ref h3, .int x4, .int x5, .int x6])), (h2, .inl (cI, 272, .inl f7))]) [0, 1] rfl
    have hD9 := hD.sub (ws' := [(h0, .inr (1, [.ref h2, .ref h3, .int x4, .int x5, .int x6])), (h2, .inl (cI, 272, .inl f7))]) [0, 1] (by decide) rfl
    exact xr_v (rm := (rmL 1 0 0)) hx hb hr hlocks hAe hS hP9 hD9 (Nat.le_of_ble_eq_true rfl) (Nat.le_of_ble_eq_true rfl) dX1_add_32 ⟨x4, f7, by omega, by omega, rfl, rfl⟩
  · have fc_1 : x4.toInt < (272 : Int) := i_nle (by decide) rfl c_1
    refine lv_aload_n hx hb dX1_add_12 rfl (lv_at hl 0 rfl) ?_
    refine va_get (D := D) (ci := 1) (v := .ref h2) (C := RX1) (T := TX1) (N := 5) hx hb hts inX1 hown hG.1 hP 0 rfl rfl 0 (by decide) (hts _ kw168) (fun _ h9 => h9) rfl dX1_add_13 ?_
    refine lv_aload_n hx hb dX1_add_16 rfl (lv_at hl 0 rfl) ?_
    refine va_get (D := D) (ci := 1) (v := .int x4) (C := RX1) (T := TX1) (N := 5) hx hb hts inX1 hown hG.1 hP 0 rfl rfl 2 (by decide) (hts _ kw170) (fun _ h9 => h9) rfl dX1_add_17 ?_
    refine lv_iload_n hx hb dX1_add_20 rfl (lv_at hl 1 rfl) ?_
    refine xa_istU hx hb hG hP hD hS 1 rfl (vp_in_iff.mpr ⟨by omega, by omega⟩) dX1_add_21 (fun f_2 H locs hP hD hS => ?_)
    have hP : va_P D vwCl [(h0, .inr (1, [.ref h2, .ref h3, .int x4, .int x5, .int x6])), (h2, .inl (cI, 272, .inl f_2))] H := hP
    have hD : va_D A [(h0, .inr (1, [.ref h2, .ref h3, .int x4, .int x5, .int x6])), (h2, .inl (cI, 272, .inl f_2))] := hD
    refine lv_aload_n hx hb dX1_add_22 rfl (lv_at hl 0 rfl) ?_
    refine lv_dup hx hb dX1_add_23 rfl ?_
    refine va_get (D := D) (ci := 1) (v := .int x4) (C := RX1) (T := TX1) (N := 5) hx hb hts inX1 hown hG.1 hP 0 rfl rfl 2 (by decide) (hts _ kw170) (fun _ h9 => h9) rfl dX1_add_24 ?_
    refine lv_iconst (v := 1) hx hb dX1_add_27 (by decide +kernel) ?_
    refine lv_iadd hx hb dX1_add_28 ?_
    refine lv_topi (fun v_3 ev_3 => ?_)
    have gv_3 : v_3.toInt = x4.toInt + (1 : Int) := by
      have zx : (x4 : Int32).toInt = x4.toInt := rfl
      have zy : (1 : Int32).toInt = (1 : Int) := (by decide)
      rw [ev_3, i32_add (by rw [zx, zy]; omega) (by rw [zx, zy]; omega), zx, zy]
    refine va_put (D := D) (ci := 1) (v := .int v_3) (ty := .int) (C := RX1) (T := TX1) (N := 5) hx hb hts inX1 tyX1 tyX1_ok nmX1 hown hG.1 hP hD hS 0 rfl rfl 2 (by decide) (hts _ kw170) (fun _ h9 => h9) rfl (by decide +kernel) rfl rfl (Nat.le_of_ble_eq_true rfl) dX1_add_29 (fun H locs hP hD hS => ?_)
    have hP : va_P D vwCl [(h0, .inr (1, [.ref h2, .ref h3, .int v_3, .int x5, .int x6])), (h2, .inl (cI, 272, .inl f_2))] H := hP
    have hD : va_D A [(h0, .inr (1, [.ref h2, .ref h3, .int v_3, .int x5, .int x6])), (h2, .inl (cI, 272, .inl f_2))] := hD
    have hP9 := hP.sub (ws' := [(h0, .inr (1, [.ref h2, .ref h3, .int v_3, .int x5, .int x6])), (h2, .inl (cI, 272, .inl f_2))]) [0, 1] rfl
    have hD9 := hD.sub (ws' := [(h0, .inr (1, [.ref h2, .ref h3, .int v_3, .int x5, .int x6])), (h2, .inl (cI, 272, .inl f_2))]) [0, 1] (by decide) rfl
    exact xr_v (rm := (rmL 1 0 0)) hx hb hr hlocks hAe hS hP9 hD9 (Nat.le_of_ble_eq_true rfl) (Nat.le_of_ble_eq_true rfl) dX1_add_32 ⟨v_3, f_2, by omega, by omega, rfl, rfl⟩
theorem dX1_bit_0 : decode cX1_bit 0 = .ok (.iload_n 0, 1) := by decide +kernel
theorem dX1_bit_1 : decode cX1_bit 1 = .ok (.ifCond .eq 7, 3) := by decide +kernel
theorem dX1_bit_8 : decode cX1_bit 8 = .ok (.iconst 0, 1) := by decide +kernel
theorem dX1_bit_9 : decode cX1_bit 9 = .ok (.ireturn, 1) := by decide +kernel
theorem dX1_bit_4 : decode cX1_bit 4 = .ok (.iconst 1, 1) := by decide +kernel
theorem dX1_bit_5 : decode cX1_bit 5 = .ok (.goto 4, 3) := by decide +kernel
set_option maxHeartbeats 4000000 in
set_option maxRecDepth 100000 in
theorem sX1_bit_1 (l : Launch) (D : va_G) (cB cI cJ cZ : ClassId) (aK aV : Nat → Nat) (x0 : Int32) : MX l yX1_bit cX1_bit 1 (some .int) (rmL 1 0 0) D cB cI cJ cZ aK aV [.int x0] [] (fun r w1 => ∃ z1 : Int32, 0 ≤ z1.toInt ∧ 0 ≤ -z1.toInt + 1 ∧ r = some (.int z1) ∧ w1 = []) := by
  refine MX.intro (by decide) (Nat.le_of_ble_eq_true rfl) ?_
  intro p e s m below meth c A ls hx hb hr hml hown hlocks hnm hts hG hE hA hS hP hD hl hAe
  have hl : lv_has ls 1 [(0, .int x0)] := hl
  have hown : s.vm.findClass RX1 = some m.cls := hown
  refine lv_iload_n hx hb dX1_bit_0 rfl (lv_at hl 0 rfl) ?_
  refine lv_if_eq (tgt := 8) hx hb dX1_bit_1 (by decide) (fun c_1 => ?_) (fun c_1 => ?_)
  · have fc_1 : x0.toInt = (0 : Int) := i_eq rfl (by decide) c_1
    refine lv_iconst (v := 0) hx hb dX1_bit_8 (by decide +kernel) ?_
    have hP9 := hP.sub (ws' := []) [] rfl
    have hD9 := hD.sub (ws' := []) [] (by decide) rfl
    exact xr_i (rm := (rmL 1 0 0)) hx hb hr hlocks hAe hS hP9 hD9 rfl (Nat.le_of_ble_eq_true rfl) (Nat.le_of_ble_eq_true rfl) dX1_bit_9 ⟨0, by have zc0 : (0 : Int32).toInt = 0 := (by decide); omega, by have zc0 : (0 : Int32).toInt = 0 := (by decide); omega, rfl, rfl⟩
  · have fc_1 : x0.toInt ≠ (0 : Int) := i_ne rfl (by decide) c_1
    refine lv_iconst (v := 1) hx hb dX1_bit_4 (by decide +kernel) ?_
    refine lv_goto (tgt := 9) hx hb dX1_bit_5 (by decide) ?_
    have hP9 := hP.sub (ws' := []) [] rfl
    have hD9 := hD.sub (ws' := []) [] (by decide) rfl
    exact xr_i (rm := (rmL 1 0 0)) hx hb hr hlocks hAe hS hP9 hD9 rfl (Nat.le_of_ble_eq_true rfl) (Nat.le_of_ble_eq_true rfl) dX1_bit_9 ⟨1, by have zc1 : (1 : Int32).toInt = 1 := (by decide); omega, by have zc1 : (1 : Int32).toInt = 1 := (by decide); omega, rfl, rfl⟩
theorem dX1_join_0 : decode cX1_join 0 = .ok (.iload_n 0, 1) := by decide +kernel
theorem dX1_join_1 : decode cX1_join 1 = .ok (.tableswitch 151 8 16 #[51, 68, 85, 99, 113, 127, 131, 135, 139], 51) := by decide +kernel
theorem dX1_join_52 : decode cX1_join 52 = .ok (.iload_n 1, 1) := by decide +kernel
theorem dX1_join_53 : decode cX1_join 53 = .ok (.ifCond .ne 7, 3) := by decide +kernel
theorem dX1_join_60 : decode cX1_join 60 = .ok (.iconst 1, 1) := by decide +kernel
theorem dX1_join_61 : decode cX1_join 61 = .ok (.goto 4, 3) := by decide +kernel
theorem kw898 : (.methodLink RX1 31 yX1_bit : Cond) ∈ gT := gT_of 898 (by decide +kernel) (by decide +kernel)
theorem kw900 : (.code yX1_bit cX1_bit 1 (some .int) : Cond) ∈ gT := gT_of 900 (by decide +kernel) (by decide +kernel)
theorem kw899 : (.static yX1_bit : Cond) ∈ gT := gT_of 899 (by decide +kernel) (by decide +kernel)
theorem kw115 : (.initialized RX1 : Cond) ∈ gT := gT_of 115 (by decide +kernel) (by decide +kernel)
theorem dX1_join_65 : decode cX1_join 65 = .ok (.invokestatic 31, 3) := by decide +kernel
theorem dX1_join_68 : decode cX1_join 68 = .ok (.ireturn, 1) := by decide +kernel
theorem dX1_join_56 : decode cX1_join 56 = .ok (.iload_n 2, 1) := by decide +kernel
theorem dX1_join_57 : decode cX1_join 57 = .ok (.ifCond .eq 7, 3) := by decide +kernel
theorem dX1_join_64 : decode cX1_join 64 = .ok (.iconst 0, 1) := by decide +kernel
theorem dX1_join_69 : decode cX1_join 69 = .ok (.iload_n 1, 1) := by decide +kernel
theorem dX1_join_70 : decode cX1_join 70 = .ok (.ifCond .eq 11, 3) := by decide +kernel
theorem dX1_join_81 : decode cX1_join 81 = .ok (.iconst 0, 1) := by decide +kernel
theorem dX1_join_82 : decode cX1_join 82 = .ok (.invokestatic 31, 3) := by decide +kernel
theorem dX1_join_85 : decode cX1_join 85 = .ok (.ireturn, 1) := by decide +kernel
theorem dX1_join_73 : decode cX1_join 73 = .ok (.iload_n 2, 1) := by decide +kernel
theorem dX1_join_74 : decode cX1_join 74 = .ok (.ifCond .eq 7, 3) := by decide +kernel
theorem dX1_join_77 : decode cX1_join 77 = .ok (.iconst 1, 1) := by decide +kernel
theorem dX1_join_78 : decode cX1_join 78 = .ok (.goto 4, 3) := by decide +kernel
theorem dX1_join_86 : decode cX1_join 86 = .ok (.iload_n 1, 1) := by decide +kernel
theorem dX1_join_87 : decode cX1_join 87 = .ok (.iload_n 2, 1) := by decide +kernel
theorem dX1_join_88 : decode cX1_join 88 = .ok (.if_icmp .ge 7, 3) := by decide +kernel
theorem dX1_join_95 : decode cX1_join 95 = .ok (.iconst 0, 1) := by decide +kernel
theorem dX1_join_96 : decode cX1_join 96 = .ok (.invokestatic 31, 3) := by decide +kernel
theorem dX1_join_99 : decode cX1_join 99 = .ok (.ireturn, 1) := by decide +kernel
theorem dX1_join_91 : decode cX1_join 91 = .ok (.iconst 1, 1) := by decide +kernel
theorem dX1_join_92 : decode cX1_join 92 = .ok (.goto 4, 3) := by decide +kernel
theorem dX1_join_100 : decode cX1_join 100 = .ok (.iload_n 1, 1) := by decide +kernel
theorem dX1_join_101 : decode cX1_join 101 = .ok (.iload_n 2, 1) := by decide +kernel
theorem dX1_join_102 : decode cX1_join 102 = .ok (.if_icmp .le 7, 3) := by decide +kernel
theorem dX1_join_109 : decode cX1_join 109 = .ok (.iconst 0, 1) := by decide +kernel
theorem dX1_join_110 : decode cX1_join 110 = .ok (.invokestatic 31, 3) := by decide +kernel
theorem dX1_join_113 : decode cX1_join 113 = .ok (.ireturn, 1) := by decide +kernel
theorem dX1_join_105 : decode cX1_join 105 = .ok (.iconst 1, 1) := by decide +kernel
theorem dX1_join_106 : decode cX1_join 106 = .ok (.goto 4, 3) := by decide +kernel
theorem dX1_join_114 : decode cX1_join 114 = .ok (.iload_n 1, 1) := by decide +kernel
theorem dX1_join_115 : decode cX1_join 115 = .ok (.iload_n 2, 1) := by decide +kernel
theorem dX1_join_116 : decode cX1_join 116 = .ok (.if_icmp .ne 7, 3) := by decide +kernel
theorem dX1_join_123 : decode cX1_join 123 = .ok (.iconst 0, 1) := by decide +kernel
theorem dX1_join_124 : decode cX1_join 124 = .ok (.invokestatic 31, 3) := by decide +kernel
theorem dX1_join_127 : decode cX1_join 127 = .ok (.ireturn, 1) := by decide +kernel
theorem dX1_join_119 : decode cX1_join 119 = .ok (.iconst 1, 1) := by decide +kernel
theorem dX1_join_120 : decode cX1_join 120 = .ok (.goto 4, 3) := by decide +kernel
theorem dX1_join_128 : decode cX1_join 128 = .ok (.iload_n 1, 1) := by decide +kernel
theorem dX1_join_129 : decode cX1_join 129 = .ok (.iload_n 2, 1) := by decide +kernel
theorem dX1_join_130 : decode cX1_join 130 = .ok (.iadd, 1) := by decide +kernel
theorem dX1_join_131 : decode cX1_join 131 = .ok (.ireturn, 1) := by decide +kernel
theorem dX1_join_132 : decode cX1_join 132 = .ok (.iload_n 1, 1) := by decide +kernel
theorem dX1_join_133 : decode cX1_join 133 = .ok (.iload_n 2, 1) := by decide +kernel
theorem dX1_join_134 : decode cX1_join 134 = .ok (.isub, 1) := by decide +kernel
theorem dX1_join_135 : decode cX1_join 135 = .ok (.ireturn, 1) := by decide +kernel
theorem dX1_join_136 : decode cX1_join 136 = .ok (.iload_n 1, 1) := by decide +kernel
theorem dX1_join_137 : decode cX1_join 137 = .ok (.iload_n 2, 1) := by decide +kernel
theorem dX1_join_138 : decode cX1_join 138 = .ok (.imul, 1) := by decide +kernel
theorem dX1_join_139 : decode cX1_join 139 = .ok (.ireturn, 1) := by decide +kernel
theorem dX1_join_140 : decode cX1_join 140 = .ok (.iload_n 2, 1) := by decide +kernel
theorem dX1_join_141 : decode cX1_join 141 = .ok (.ifCond .ne 7, 3) := by decide +kernel
theorem dX1_join_148 : decode cX1_join 148 = .ok (.iload_n 1, 1) := by decide +kernel
theorem dX1_join_149 : decode cX1_join 149 = .ok (.iload_n 2, 1) := by decide +kernel
theorem dX1_join_150 : decode cX1_join 150 = .ok (.idiv, 1) := by decide +kernel
theorem dX1_join_151 : decode cX1_join 151 = .ok (.ireturn, 1) := by decide +kernel
theorem dX1_join_144 : decode cX1_join 144 = .ok (.iconst 0, 1) := by decide +kernel
theorem dX1_join_145 : decode cX1_join 145 = .ok (.goto 6, 3) := by decide +kernel
theorem dX1_join_152 : decode cX1_join 152 = .ok (.iload_n 2, 1) := by decide +kernel
theorem dX1_join_153 : decode cX1_join 153 = .ok (.ifCond .ne 7, 3) := by decide +kernel
theorem dX1_join_160 : decode cX1_join 160 = .ok (.iload_n 1, 1) := by decide +kernel
theorem dX1_join_161 : decode cX1_join 161 = .ok (.iload_n 2, 1) := by decide +kernel
theorem dX1_join_162 : decode cX1_join 162 = .ok (.irem, 1) := by decide +kernel
theorem dX1_join_163 : decode cX1_join 163 = .ok (.ireturn, 1) := by decide +kernel
theorem dX1_join_156 : decode cX1_join 156 = .ok (.iconst 0, 1) := by decide +kernel
theorem dX1_join_157 : decode cX1_join 157 = .ok (.goto 6, 3) := by decide +kernel
set_option maxHeartbeats 4000000 in
set_option maxRecDepth 100000 in
theorem sX1_join_1 (l : Launch) (D : va_G) (cB cI cJ cZ : ClassId) (aK aV : Nat → Nat) (x0 : Int32) (x1 : Int32) (x2 : Int32) : MX l yX1_join cX1_join 3 (some .int) (rmL 2 0 0) D cB cI cJ cZ aK aV [.int x0, .int x1, .int x2] [] (fun r w1 => ∃ z1 : Int32, r = some (.int z1) ∧ w1 = []) := by
  refine MX.intro (by decide) (Nat.le_of_ble_eq_true rfl) ?_
  intro p e s m below meth c A ls hx hb hr hml hown hlocks hnm hts hG hE hA hS hP hD hl hAe
  have hl : lv_has ls 3 [(0, .int x0), (1, .int x1), (2, .int x2)] := hl
  have hown : s.vm.findClass RX1 = some m.cls := hown
  refine lv_iload_n hx hb dX1_join_0 rfl (lv_at hl 0 rfl) ?_
  by_cases c_1 : x0.toInt = 8
  · skip
    refine lv_tableIn (off := 51) (tgt := 52) hx hb dX1_join_1 (by omega) (by omega) (by rw [c_1]; decide +kernel) (by decide) ?_
    refine lv_iload_n hx hb dX1_join_52 rfl (lv_at hl 1 rfl) ?_
    refine lv_if_ne (tgt := 60) hx hb dX1_join_53 (by decide) (fun c_2 => ?_) (fun c_2 => ?_)
    · have fc_2 : x1.toInt ≠ (0 : Int) := i_ne rfl (by decide) c_2
      refine lv_iconst (v := 1) hx hb dX1_join_60 (by decide +kernel) ?_
      refine lv_goto (tgt := 65) hx hb dX1_join_61 (by decide) ?_
      refine xc_core (wr := []) (k := 0) (n := 0) (xc_runS (As := [.int 1]) (rest := []) hx hb hml hown hts hG hE hP hD hS hA [] (by decide) rfl (sX1_bit_1 l D cB cI cJ cZ aK aV 1) kw900 kw898 kw899 kw115 (show XD yX1_bit 1 from by decide +kernel) (by decide) hl.1 rfl (Nat.le_of_ble_eq_true rfl) dX1_join_65 (by decide)) hP hD hS hA [] [] rfl rfl (by decide) (by decide) (Nat.le_of_ble_eq_true rfl) (Nat.le_of_ble_eq_true rfl) (fun r w1 H locs hpost hP hD hS => ?_)
      obtain ⟨v_3, g_4, g_5, rfl, rfl⟩ := hpost
      have hP : va_P D vwCl [] H := hP
      have hD : va_D A [] := hD
      have hP9 := hP.sub (ws' := []) [] rfl
      have hD9 := hD.sub (ws' := []) [] (by decide) rfl
      exact xr_i (rm := (rmL 2 0 0)) hx hb hr hlocks hAe hS hP9 hD9 rfl (Nat.le_of_ble_eq_true rfl) (Nat.le_of_ble_eq_true rfl) dX1_join_68 ⟨v_3, rfl, rfl⟩
    · have fc_2 : x1.toInt = (0 : Int) := i_eq rfl (by decide) c_2
      refine lv_iload_n hx hb dX1_join_56 rfl (lv_at hl 2 rfl) ?_
      refine lv_if_eq (tgt := 64) hx hb dX1_join_57 (by decide) (fun c_6 => ?_) (fun c_6 => ?_)
      · have fc_6 : x2.toInt = (0 : Int) := i_eq rfl (by decide) c_6
        refine lv_iconst (v := 0) hx hb dX1_join_64 (by decide +kernel) ?_
        refine xc_core (wr := []) (k := 0) (n := 0) (xc_runS (As := [.int 0]) (rest := []) hx hb hml hown hts hG hE hP hD hS hA [] (by decide) rfl (sX1_bit_1 l D cB cI cJ cZ aK aV 0) kw900 kw898 kw899 kw115 (show XD yX1_bit 1 from by decide +kernel) (by decide) hl.1 rfl (Nat.le_of_ble_eq_true rfl) dX1_join_65 (by decide)) hP hD hS hA [] [] rfl rfl (by decide) (by decide) (Nat.le_of_ble_eq_true rfl) (Nat.le_of_ble_eq_true rfl) (fun r w1 H locs hpost hP hD hS => ?_)
        obtain ⟨v_7, g_8, g_9, rfl, rfl⟩ := hpost
        have hP : va_P D vwCl [] H := hP
        have hD : va_D A [] := hD
        have hP9 := hP.sub (ws' := []) [] rfl
        have hD9 := hD.sub (ws' := []) [] (by decide) rfl
        exact xr_i (rm := (rmL 2 0 0)) hx hb hr hlocks hAe hS hP9 hD9 rfl (Nat.le_of_ble_eq_true rfl) (Nat.le_of_ble_eq_true rfl) dX1_join_68 ⟨v_7, rfl, rfl⟩
      · have fc_6 : x2.toInt ≠ (0 : Int) := i_ne rfl (by decide) c_6
        refine lv_iconst (v := 1) hx hb dX1_join_60 (by decide +kernel) ?_
        refine lv_goto (tgt := 65) hx hb dX1_join_61 (by decide) ?_
        refine xc_core (wr := []) (k := 0) (n := 0) (xc_runS (As := [.int 1]) (rest := []) hx hb hml hown hts hG hE hP hD hS hA [] (by decide) rfl (sX1_bit_1 l D cB cI cJ cZ aK aV 1) kw900 kw898 kw899 kw115 (show XD yX1_bit 1 from by decide +kernel) (by decide) hl.1 rfl (Nat.le_of_ble_eq_true rfl) dX1_join_65 (by decide)) hP hD hS hA [] [] rfl rfl (by decide) (by decide) (Nat.le_of_ble_eq_true rfl) (Nat.le_of_ble_eq_true rfl) (fun r w1 H locs hpost hP hD hS => ?_)
        obtain ⟨v_10, g_11, g_12, rfl, rfl⟩ := hpost
        have hP : va_P D vwCl [] H := hP
        have hD : va_D A [] := hD
        have hP9 := hP.sub (ws' := []) [] rfl
        have hD9 := hD.sub (ws' := []) [] (by decide) rfl
        exact xr_i (rm := (rmL 2 0 0)) hx hb hr hlocks hAe hS hP9 hD9 rfl (Nat.le_of_ble_eq_true rfl) (Nat.le_of_ble_eq_true rfl) dX1_join_68 ⟨v_10, rfl, rfl⟩
  by_cases c_13 : x0.toInt = 9
  · skip
    refine lv_tableIn (off := 68) (tgt := 69) hx hb dX1_join_1 (by omega) (by omega) (by rw [c_13]; decide +kernel) (by decide) ?_
    refine lv_iload_n hx hb dX1_join_69 rfl (lv_at hl 1 rfl) ?_
    refine lv_if_eq (tgt := 81) hx hb dX1_join_70 (by decide) (fun c_14 => ?_) (fun c_14 => ?_)
    · have fc_14 : x1.toInt = (0 : Int) := i_eq rfl (by decide) c_14
      refine lv_iconst (v := 0) hx hb dX1_join_81 (by decide +kernel) ?_
      refine xc_core (wr := []) (k := 0) (n := 0) (xc_runS (As := [.int 0]) (rest := []) hx hb hml hown hts hG hE hP hD hS hA [] (by decide) rfl (sX1_bit_1 l D cB cI cJ cZ aK aV 0) kw900 kw898 kw899 kw115 (show XD yX1_bit 1 from by decide +kernel) (by decide) hl.1 rfl (Nat.le_of_ble_eq_true rfl) dX1_join_82 (by decide)) hP hD hS hA [] [] rfl rfl (by decide) (by decide) (Nat.le_of_ble_eq_true rfl) (Nat.le_of_ble_eq_true rfl) (fun r w1 H locs hpost hP hD hS => ?_)
      obtain ⟨v_15, g_16, g_17, rfl, rfl⟩ := hpost
      have hP : va_P D vwCl [] H := hP
      have hD : va_D A [] := hD
      have hP9 := hP.sub (ws' := []) [] rfl
      have hD9 := hD.sub (ws' := []) [] (by decide) rfl
      exact xr_i (rm := (rmL 2 0 0)) hx hb hr hlocks hAe hS hP9 hD9 rfl (Nat.le_of_ble_eq_true rfl) (Nat.le_of_ble_eq_true rfl) dX1_join_85 ⟨v_15, rfl, rfl⟩
    · have fc_14 : x1.toInt ≠ (0 : Int) := i_ne rfl (by decide) c_14
      refine lv_iload_n hx hb dX1_join_73 rfl (lv_at hl 2 rfl) ?_
      refine lv_if_eq (tgt := 81) hx hb dX1_join_74 (by decide) (fun c_18 => ?_) (fun c_18 => ?_)
      · have fc_18 : x2.toInt = (0 : Int) := i_eq rfl (by decide) c_18
        refine lv_iconst (v := 0) hx hb dX1_join_81 (by decide +kernel) ?_
        refine xc_core (wr := []) (k := 0) (n := 0) (xc_runS (As := [.int 0]) (rest := []) hx hb hml hown hts hG hE hP hD hS hA [] (by decide) rfl (sX1_bit_1 l D cB cI cJ cZ aK aV 0) kw900 kw898 kw899 kw115 (show XD yX1_bit 1 from by decide +kernel) (by decide) hl.1 rfl (Nat.le_of_ble_eq_true rfl) dX1_join_82 (by decide)) hP hD hS hA [] [] rfl rfl (by decide) (by decide) (Nat.le_of_ble_eq_true rfl) (Nat.le_of_ble_eq_true rfl) (fun r w1 H locs hpost hP hD hS => ?_)
        obtain ⟨v_19, g_20, g_21, rfl, rfl⟩ := hpost
        have hP : va_P D vwCl [] H := hP
        have hD : va_D A [] := hD
        have hP9 := hP.sub (ws' := []) [] rfl
        have hD9 := hD.sub (ws' := []) [] (by decide) rfl
        exact xr_i (rm := (rmL 2 0 0)) hx hb hr hlocks hAe hS hP9 hD9 rfl (Nat.le_of_ble_eq_true rfl) (Nat.le_of_ble_eq_true rfl) dX1_join_85 ⟨v_19, rfl, rfl⟩
      · have fc_18 : x2.toInt ≠ (0 : Int) := i_ne rfl (by decide) c_18
        refine lv_iconst (v := 1) hx hb dX1_join_77 (by decide +kernel) ?_
        refine lv_goto (tgt := 82) hx hb dX1_join_78 (by decide) ?_
        refine xc_core (wr := []) (k := 0) (n := 0) (xc_runS (As := [.int 1]) (rest := []) hx hb hml hown hts hG hE hP hD hS hA [] (by decide) rfl (sX1_bit_1 l D cB cI cJ cZ aK aV 1) kw900 kw898 kw899 kw115 (show XD yX1_bit 1 from by decide +kernel) (by decide) hl.1 rfl (Nat.le_of_ble_eq_true rfl) dX1_join_82 (by decide)) hP hD hS hA [] [] rfl rfl (by decide) (by decide) (Nat.le_of_ble_eq_true rfl) (Nat.le_of_ble_eq_true rfl) (fun r w1 H locs hpost hP hD hS => ?_)
        obtain ⟨v_22, g_23, g_24, rfl, rfl⟩ := hpost
        have hP : va_P D vwCl [] H := hP
        have hD : va_D A [] := hD
        have hP9 := hP.sub (ws' := []) [] rfl
        have hD9 := hD.sub (ws' := []) [] (by decide) rfl
        exact xr_i (rm := (rmL 2 0 0)) hx hb hr hlocks hAe hS hP9 hD9 rfl (Nat.le_of_ble_eq_true rfl) (Nat.le_of_ble_eq_true rfl) dX1_join_85 ⟨v_22, rfl, rfl⟩
  by_cases c_25 : x0.toInt = 10
  · skip
    refine lv_tableIn (off := 85) (tgt := 86) hx hb dX1_join_1 (by omega) (by omega) (by rw [c_25]; decide +kernel) (by decide) ?_
    refine lv_iload_n hx hb dX1_join_86 rfl (lv_at hl 1 rfl) ?_
    refine lv_iload_n hx hb dX1_join_87 rfl (lv_at hl 2 rfl) ?_
    refine lv_icmp_ge (tgt := 95) hx hb dX1_join_88 (by decide) (fun c_26 => ?_) (fun c_26 => ?_)
    · have fc_26 : x2.toInt ≤ x1.toInt := i_le rfl rfl c_26
      refine lv_iconst (v := 0) hx hb dX1_join_95 (by decide +kernel) ?_
      refine xc_core (wr := []) (k := 0) (n := 0) (xc_runS (As := [.int 0]) (rest := []) hx hb hml hown hts hG hE hP hD hS hA [] (by decide) rfl (sX1_bit_1 l D cB cI cJ cZ aK aV 0) kw900 kw898 kw899 kw115 (show XD yX1_bit 1 from by decide +kernel) (by decide) hl.1 rfl (Nat.le_of_ble_eq_true rfl) dX1_join_96 (by decide)) hP hD hS hA [] [] rfl rfl (by decide) (by decide) (Nat.le_of_ble_eq_true rfl) (Nat.le_of_ble_eq_true rfl) (fun r w1 H locs hpost hP hD hS => ?_)
      obtain ⟨v_27, g_28, g_29, rfl, rfl⟩ := hpost
      have hP : va_P D vwCl [] H := hP
      have hD : va_D A [] := hD
      have hP9 := hP.sub (ws' := []) [] rfl
      have hD9 := hD.sub (ws' := []) [] (by decide) rfl
      exact xr_i (rm := (rmL 2 0 0)) hx hb hr hlocks hAe hS hP9 hD9 rfl (Nat.le_of_ble_eq_true rfl) (Nat.le_of_ble_eq_true rfl) dX1_join_99 ⟨v_27, rfl, rfl⟩
    · have fc_26 : x1.toInt < x2.toInt := i_nle rfl rfl c_26
      refine lv_iconst (v := 1) hx hb dX1_join_91 (by decide +kernel) ?_
      refine lv_goto (tgt := 96) hx hb dX1_join_92 (by decide) ?_
      refine xc_core (wr := []) (k := 0) (n := 0) (xc_runS (As := [.int 1]) (rest := []) hx hb hml hown hts hG hE hP hD hS hA [] (by decide) rfl (sX1_bit_1 l D cB cI cJ cZ aK aV 1) kw900 kw898 kw899 kw115 (show XD yX1_bit 1 from by decide +kernel) (by decide) hl.1 rfl (Nat.le_of_ble_eq_true rfl) dX1_join_96 (by decide)) hP hD hS hA [] [] rfl rfl (by decide) (by decide) (Nat.le_of_ble_eq_true rfl) (Nat.le_of_ble_eq_true rfl) (fun r w1 H locs hpost hP hD hS => ?_)
      obtain ⟨v_30, g_31, g_32, rfl, rfl⟩ := hpost
      have hP : va_P D vwCl [] H := hP
      have hD : va_D A [] := hD
      have hP9 := hP.sub (ws' := []) [] rfl
      have hD9 := hD.sub (ws' := []) [] (by decide) rfl
      exact xr_i (rm := (rmL 2 0 0)) hx hb hr hlocks hAe hS hP9 hD9 rfl (Nat.le_of_ble_eq_true rfl) (Nat.le_of_ble_eq_true rfl) dX1_join_99 ⟨v_30, rfl, rfl⟩
  by_cases c_33 : x0.toInt = 11
  · skip
    refine lv_tableIn (off := 99) (tgt := 100) hx hb dX1_join_1 (by omega) (by omega) (by rw [c_33]; decide +kernel) (by decide) ?_
    refine lv_iload_n hx hb dX1_join_100 rfl (lv_at hl 1 rfl) ?_
    refine lv_iload_n hx hb dX1_join_101 rfl (lv_at hl 2 rfl) ?_
    refine lv_icmp_le (tgt := 109) hx hb dX1_join_102 (by decide) (fun c_34 => ?_) (fun c_34 => ?_)
    · have fc_34 : x1.toInt ≤ x2.toInt := i_le rfl rfl c_34
      refine lv_iconst (v := 0) hx hb dX1_join_109 (by decide +kernel) ?_
      refine xc_core (wr := []) (k := 0) (n := 0) (xc_runS (As := [.int 0]) (rest := []) hx hb hml hown hts hG hE hP hD hS hA [] (by decide) rfl (sX1_bit_1 l D cB cI cJ cZ aK aV 0) kw900 kw898 kw899 kw115 (show XD yX1_bit 1 from by decide +kernel) (by decide) hl.1 rfl (Nat.le_of_ble_eq_true rfl) dX1_join_110 (by decide)) hP hD hS hA [] [] rfl rfl (by decide) (by decide) (Nat.le_of_ble_eq_true rfl) (Nat.le_of_ble_eq_true rfl) (fun r w1 H locs hpost hP hD hS => ?_)
      obtain ⟨v_35, g_36, g_37, rfl, rfl⟩ := hpost
      have hP : va_P D vwCl [] H := hP
      have hD : va_D A [] := hD
      have hP9 := hP.sub (ws' := []) [] rfl
      have hD9 := hD.sub (ws' := []) [] (by decide) rfl
      exact xr_i (rm := (rmL 2 0 0)) hx hb hr hlocks hAe hS hP9 hD9 rfl (Nat.le_of_ble_eq_true rfl) (Nat.le_of_ble_eq_true rfl) dX1_join_113 ⟨v_35, rfl, rfl⟩
    · have fc_34 : x2.toInt < x1.toInt := i_nle rfl rfl c_34
      refine lv_iconst (v := 1) hx hb dX1_join_105 (by decide +kernel) ?_
      refine lv_goto (tgt := 110) hx hb dX1_join_106 (by decide) ?_
      refine xc_core (wr := []) (k := 0) (n := 0) (xc_runS (As := [.int 1]) (rest := []) hx hb hml hown hts hG hE hP hD hS hA [] (by decide) rfl (sX1_bit_1 l D cB cI cJ cZ aK aV 1) kw900 kw898 kw899 kw115 (show XD yX1_bit 1 from by decide +kernel) (by decide) hl.1 rfl (Nat.le_of_ble_eq_true rfl) dX1_join_110 (by decide)) hP hD hS hA [] [] rfl rfl (by decide) (by decide) (Nat.le_of_ble_eq_true rfl) (Nat.le_of_ble_eq_true rfl) (fun r w1 H locs hpost hP hD hS => ?_)
      obtain ⟨v_38, g_39, g_40, rfl, rfl⟩ := hpost
      have hP : va_P D vwCl [] H := hP
      have hD : va_D A [] := hD
      have hP9 := hP.sub (ws' := []) [] rfl
      have hD9 := hD.sub (ws' := []) [] (by decide) rfl
      exact xr_i (rm := (rmL 2 0 0)) hx hb hr hlocks hAe hS hP9 hD9 rfl (Nat.le_of_ble_eq_true rfl) (Nat.le_of_ble_eq_true rfl) dX1_join_113 ⟨v_38, rfl, rfl⟩
  by_cases c_41 : x0.toInt = 12
  · skip
    refine lv_tableIn (off := 113) (tgt := 114) hx hb dX1_join_1 (by omega) (by omega) (by rw [c_41]; decide +kernel) (by decide) ?_
    refine lv_iload_n hx hb dX1_join_114 rfl (lv_at hl 1 rfl) ?_
    refine lv_iload_n hx hb dX1_join_115 rfl (lv_at hl 2 rfl) ?_
    refine lv_icmp_ne (tgt := 123) hx hb dX1_join_116 (by decide) (fun c_42 => ?_) (fun c_42 => ?_)
    · have fc_42 : x1.toInt ≠ x2.toInt := i_ne rfl rfl c_42
      refine lv_iconst (v := 0) hx hb dX1_join_123 (by decide +kernel) ?_
      refine xc_core (wr := []) (k := 0) (n := 0) (xc_runS (As := [.int 0]) (rest := []) hx hb hml hown hts hG hE hP hD hS hA [] (by decide) rfl (sX1_bit_1 l D cB cI cJ cZ aK aV 0) kw900 kw898 kw899 kw115 (show XD yX1_bit 1 from by decide +kernel) (by decide) hl.1 rfl (Nat.le_of_ble_eq_true rfl) dX1_join_124 (by decide)) hP hD hS hA [] [] rfl rfl (by decide) (by decide) (Nat.le_of_ble_eq_true rfl) (Nat.le_of_ble_eq_true rfl) (fun r w1 H locs hpost hP hD hS => ?_)
      obtain ⟨v_43, g_44, g_45, rfl, rfl⟩ := hpost
      have hP : va_P D vwCl [] H := hP
      have hD : va_D A [] := hD
      have hP9 := hP.sub (ws' := []) [] rfl
      have hD9 := hD.sub (ws' := []) [] (by decide) rfl
      exact xr_i (rm := (rmL 2 0 0)) hx hb hr hlocks hAe hS hP9 hD9 rfl (Nat.le_of_ble_eq_true rfl) (Nat.le_of_ble_eq_true rfl) dX1_join_127 ⟨v_43, rfl, rfl⟩
    · have fc_42 : x1.toInt = x2.toInt := i_eq rfl rfl c_42
      refine lv_iconst (v := 1) hx hb dX1_join_119 (by decide +kernel) ?_
      refine lv_goto (tgt := 124) hx hb dX1_join_120 (by decide) ?_
      refine xc_core (wr := []) (k := 0) (n := 0) (xc_runS (As := [.int 1]) (rest := []) hx hb hml hown hts hG hE hP hD hS hA [] (by decide) rfl (sX1_bit_1 l D cB cI cJ cZ aK aV 1) kw900 kw898 kw899 kw115 (show XD yX1_bit 1 from by decide +kernel) (by decide) hl.1 rfl (Nat.le_of_ble_eq_true rfl) dX1_join_124 (by decide)) hP hD hS hA [] [] rfl rfl (by decide) (by decide) (Nat.le_of_ble_eq_true rfl) (Nat.le_of_ble_eq_true rfl) (fun r w1 H locs hpost hP hD hS => ?_)
      obtain ⟨v_46, g_47, g_48, rfl, rfl⟩ := hpost
      have hP : va_P D vwCl [] H := hP
      have hD : va_D A [] := hD
      have hP9 := hP.sub (ws' := []) [] rfl
      have hD9 := hD.sub (ws' := []) [] (by decide) rfl
      exact xr_i (rm := (rmL 2 0 0)) hx hb hr hlocks hAe hS hP9 hD9 rfl (Nat.le_of_ble_eq_true rfl) (Nat.le_of_ble_eq_true rfl) dX1_join_127 ⟨v_46, rfl, rfl⟩
  by_cases c_49 : x0.toInt = 13
  · skip
    refine lv_tableIn (off := 127) (tgt := 128) hx hb dX1_join_1 (by omega) (by omega) (by rw [c_49]; decide +kernel) (by decide) ?_
    refine lv_iload_n hx hb dX1_join_128 rfl (lv_at hl 1 rfl) ?_
    refine lv_iload_n hx hb dX1_join_129 rfl (lv_at hl 2 rfl) ?_
    refine lv_iadd hx hb dX1_join_130 ?_
    refine xt_any (fun v_50 => ?_)
    have hP9 := hP.sub (ws' := []) [] rfl
    have hD9 := hD.sub (ws' := []) [] (by decide) rfl
    exact xr_i (rm := (rmL 2 0 0)) hx hb hr hlocks hAe hS hP9 hD9 rfl (Nat.le_of_ble_eq_true rfl) (Nat.le_of_ble_eq_true rfl) dX1_join_131 ⟨v_50, rfl, rfl⟩
  by_cases c_51 : x0.toInt = 14
  · skip
    refine lv_tableIn (off := 131) (tgt := 132) hx hb dX1_join_1 (by omega) (by omega) (by rw [c_51]; decide +kernel) (by decide) ?_
    refine lv_iload_n hx hb dX1_join_132 rfl (lv_at hl 1 rfl) ?_
    refine lv_iload_n hx hb dX1_join_133 rfl (lv_at hl 2 rfl) ?_
    refine lv_isub hx hb dX1_join_134 ?_
    refine xt_any (fun v_52 => ?_)
    have hP9 := hP.sub (ws' := []) [] rfl
    have hD9 := hD.sub (ws' := []) [] (by decide) rfl
    exact xr_i (rm := (rmL 2 0 0)) hx hb hr hlocks hAe hS hP9 hD9 rfl (Nat.le_of_ble_eq_true rfl) (Nat.le_of_ble_eq_true rfl) dX1_join_135 ⟨v_52, rfl, rfl⟩
  by_cases c_53 : x0.toInt = 15
  · skip
    refine lv_tableIn (off := 135) (tgt := 136) hx hb dX1_join_1 (by omega) (by omega) (by rw [c_53]; decide +kernel) (by decide) ?_
    refine lv_iload_n hx hb dX1_join_136 rfl (lv_at hl 1 rfl) ?_
    refine lv_iload_n hx hb dX1_join_137 rfl (lv_at hl 2 rfl) ?_
    refine lv_imul hx hb dX1_join_138 ?_
    refine xt_any (fun v_54 => ?_)
    have hP9 := hP.sub (ws' := []) [] rfl
    have hD9 := hD.sub (ws' := []) [] (by decide) rfl
    exact xr_i (rm := (rmL 2 0 0)) hx hb hr hlocks hAe hS hP9 hD9 rfl (Nat.le_of_ble_eq_true rfl) (Nat.le_of_ble_eq_true rfl) dX1_join_139 ⟨v_54, rfl, rfl⟩
  by_cases c_55 : x0.toInt = 16
  · skip
    refine lv_tableIn (off := 139) (tgt := 140) hx hb dX1_join_1 (by omega) (by omega) (by rw [c_55]; decide +kernel) (by decide) ?_
    refine lv_iload_n hx hb dX1_join_140 rfl (lv_at hl 2 rfl) ?_
    refine lv_if_ne (tgt := 148) hx hb dX1_join_141 (by decide) (fun c_56 => ?_) (fun c_56 => ?_)
    · have fc_56 : x2.toInt ≠ (0 : Int) := i_ne rfl (by decide) c_56
      refine lv_iload_n hx hb dX1_join_148 rfl (lv_at hl 1 rfl) ?_
      refine lv_iload_n hx hb dX1_join_149 rfl (lv_at hl 2 rfl) ?_
      refine lv_idiv hx hb dX1_join_150 (i_nz (by omega)) ?_
      refine xt_any (fun v_57 => ?_)
      have hP9 := hP.sub (ws' := []) [] rfl
      have hD9 := hD.sub (ws' := []) [] (by decide) rfl
      exact xr_i (rm := (rmL 2 0 0)) hx hb hr hlocks hAe hS hP9 hD9 rfl (Nat.le_of_ble_eq_true rfl) (Nat.le_of_ble_eq_true rfl) dX1_join_151 ⟨v_57, rfl, rfl⟩
    · have fc_56 : x2.toInt = (0 : Int) := i_eq rfl (by decide) c_56
      refine lv_iconst (v := 0) hx hb dX1_join_144 (by decide +kernel) ?_
      refine lv_goto (tgt := 151) hx hb dX1_join_145 (by decide) ?_
      have hP9 := hP.sub (ws' := []) [] rfl
      have hD9 := hD.sub (ws' := []) [] (by decide) rfl
      exact xr_i (rm := (rmL 2 0 0)) hx hb hr hlocks hAe hS hP9 hD9 rfl (Nat.le_of_ble_eq_true rfl) (Nat.le_of_ble_eq_true rfl) dX1_join_151 ⟨0, rfl, rfl⟩
  refine lv_tableOut (tgt := 152) hx hb dX1_join_1 (by omega) (by decide) ?_
  refine lv_iload_n hx hb dX1_join_152 rfl (lv_at hl 2 rfl) ?_
  refine lv_if_ne (tgt := 160) hx hb dX1_join_153 (by decide) (fun c_58 => ?_) (fun c_58 => ?_)
  · have fc_58 : x2.toInt ≠ (0 : Int) := i_ne rfl (by decide) c_58
    refine lv_iload_n hx hb dX1_join_160 rfl (lv_at hl 1 rfl) ?_
    refine lv_iload_n hx hb dX1_join_161 rfl (lv_at hl 2 rfl) ?_
    refine lv_irem hx hb dX1_join_162 (i_nz (by omega)) ?_
    refine xt_any (fun v_59 => ?_)
    have hP9 := hP.sub (ws' := []) [] rfl
    have hD9 := hD.sub (ws' := []) [] (by decide) rfl
    exact xr_i (rm := (rmL 2 0 0)) hx hb hr hlocks hAe hS hP9 hD9 rfl (Nat.le_of_ble_eq_true rfl) (Nat.le_of_ble_eq_true rfl) dX1_join_163 ⟨v_59, rfl, rfl⟩
  · have fc_58 : x2.toInt = (0 : Int) := i_eq rfl (by decide) c_58
    refine lv_iconst (v := 0) hx hb dX1_join_156 (by decide +kernel) ?_
    refine lv_goto (tgt := 163) hx hb dX1_join_157 (by decide) ?_
    have hP9 := hP.sub (ws' := []) [] rfl
    have hD9 := hD.sub (ws' := []) [] (by decide) rfl
    exact xr_i (rm := (rmL 2 0 0)) hx hb hr hlocks hAe hS hP9 hD9 rfl (Nat.le_of_ble_eq_true rfl) (Nat.le_of_ble_eq_true rfl) dX1_join_163 ⟨0, rfl, rfl⟩
