theorem dX1_lightAt_0 : decode cX1_lightAt 0 = .ok (.iload_n 1, 1) := by decide +kernel
theorem dX1_lightAt_1 : decode cX1_lightAt 1 = .ok (.ifCond .lt 15, 3) := by decide +kernel
theorem dX1_lightAt_16 : decode cX1_lightAt 16 = .ok (.iconst 0, 1) := by decide +kernel
theorem dX1_lightAt_17 : decode cX1_lightAt 17 = .ok (.ireturn, 1) := by decide +kernel
theorem dX1_lightAt_4 : decode cX1_lightAt 4 = .ok (.iload_n 1, 1) := by decide +kernel
theorem dX1_lightAt_5 : decode cX1_lightAt 5 = .ok (.aload_n 0, 1) := by decide +kernel
theorem dX1_lightAt_6 : decode cX1_lightAt 6 = .ok (.arraylength, 1) := by decide +kernel
theorem dX1_lightAt_7 : decode cX1_lightAt 7 = .ok (.if_icmp .ge 9, 3) := by decide +kernel
theorem dX1_lightAt_10 : decode cX1_lightAt 10 = .ok (.aload_n 0, 1) := by decide +kernel
theorem dX1_lightAt_11 : decode cX1_lightAt 11 = .ok (.iload_n 1, 1) := by decide +kernel
theorem dX1_lightAt_12 : decode cX1_lightAt 12 = .ok (.iaload, 1) := by decide +kernel
theorem dX1_lightAt_13 : decode cX1_lightAt 13 = .ok (.goto 4, 3) := by decide +kernel
set_option maxHeartbeats 4000000 in
set_option maxRecDepth 100000 in
theorem sX1_lightAt_1 (l : Launch) (D : va_G) (cB cI cJ cZ : ClassId) (aK aV : Nat → Nat) (h0 : Nat) (x1 : Int32) (f2 : Nat → Int32) : MX l yX1_lightAt cX1_lightAt 2 (some .int) (rmL 1 0 0) D cB cI cJ cZ aK aV [.ref h0, .int x1] [(h0, .inl (cI, 7, .inl f2))] (fun r w1 => ∃ z1 : Int32, r = some (.int z1) ∧ w1 = [(h0, .inl (cI, 7, .inl f2))]) := by
  refine MX.intro (by decide) (Nat.le_of_ble_eq_true rfl) ?_
  intro p e s m below meth c A ls hx hb hr hml hown hlocks hnm hts hG hE hA hS hP hD hl hAe
  have hl : lv_has ls 2 [(0, .ref h0), (1, .int x1)] := hl
  have hown : s.vm.findClass RX1 = some m.cls := hown
  refine lv_iload_n hx hb dX1_lightAt_0 rfl (lv_at hl 1 rfl) ?_
  refine lv_if_lt (tgt := 16) hx hb dX1_lightAt_1 (by decide) (fun c_1 => ?_) (fun c_1 => ?_)
  · have fc_1 : x1.toInt < (0 : Int) := i_lt rfl (by decide) c_1
    refine lv_iconst (v := 0) hx hb dX1_lightAt_16 (by decide +kernel) ?_
    have hP9 := hP.sub (ws' := [(h0, .inl (cI, 7, .inl f2))]) [0] rfl
    have hD9 := hD.sub (ws' := [(h0, .inl (cI, 7, .inl f2))]) [0] (by decide) rfl
    exact xr_i (rm := (rmL 1 0 0)) hx hb hr hlocks hAe hS hP9 hD9 rfl (Nat.le_of_ble_eq_true rfl) (Nat.le_of_ble_eq_true rfl) dX1_lightAt_17 ⟨0, rfl, rfl⟩
  · have fc_1 : (0 : Int) ≤ x1.toInt := i_nlt rfl (by decide) c_1
    refine lv_iload_n hx hb dX1_lightAt_4 rfl (lv_at hl 1 rfl) ?_
    refine lv_aload_n hx hb dX1_lightAt_5 rfl (lv_at hl 0 rfl) ?_
    refine xa_alen (v := 7) hx hb hG hP 0 1 rfl rfl rfl dX1_lightAt_6 ?_
    refine lv_icmp_ge (tgt := 16) hx hb dX1_lightAt_7 (by decide) (fun c_2 => ?_) (fun c_2 => ?_)
    · have fc_2 : (7 : Int) ≤ x1.toInt := i_le (by decide) rfl c_2
      refine lv_iconst (v := 0) hx hb dX1_lightAt_16 (by decide +kernel) ?_
      have hP9 := hP.sub (ws' := [(h0, .inl (cI, 7, .inl f2))]) [0] rfl
      have hD9 := hD.sub (ws' := [(h0, .inl (cI, 7, .inl f2))]) [0] (by decide) rfl
      exact xr_i (rm := (rmL 1 0 0)) hx hb hr hlocks hAe hS hP9 hD9 rfl (Nat.le_of_ble_eq_true rfl) (Nat.le_of_ble_eq_true rfl) dX1_lightAt_17 ⟨0, rfl, rfl⟩
    · have fc_2 : x1.toInt < (7 : Int) := i_nle (by decide) rfl c_2
      refine lv_aload_n hx hb dX1_lightAt_10 rfl (lv_at hl 0 rfl) ?_
      refine lv_iload_n hx hb dX1_lightAt_11 rfl (lv_at hl 1 rfl) ?_
      refine xa_ildU hx hb hG hP 0 rfl (vp_in_iff.mpr ⟨by omega, by omega⟩) dX1_lightAt_12 (fun v_3 => ?_)
      refine lv_goto (tgt := 17) hx hb dX1_lightAt_13 (by decide) ?_
      have hP9 := hP.sub (ws' := [(h0, .inl (cI, 7, .inl f2))]) [0] rfl
      have hD9 := hD.sub (ws' := [(h0, .inl (cI, 7, .inl f2))]) [0] (by decide) rfl
      exact xr_i (rm := (rmL 1 0 0)) hx hb hr hlocks hAe hS hP9 hD9 rfl (Nat.le_of_ble_eq_true rfl) (Nat.le_of_ble_eq_true rfl) dX1_lightAt_17 ⟨v_3, rfl, rfl⟩
theorem dX1_reckon_0 : decode cX1_reckon 0 = .ok (.iconst 0, 1) := by decide +kernel
theorem dX1_reckon_1 : decode cX1_reckon 1 = .ok (.istore_n 2, 1) := by decide +kernel
theorem dX1_reckon_2 : decode cX1_reckon 2 = .ok (.iconst 0, 1) := by decide +kernel
theorem dX1_reckon_3 : decode cX1_reckon 3 = .ok (.istore_n 3, 1) := by decide +kernel
theorem dX1_reckon_4 : decode cX1_reckon 4 = .ok (.iload_n 3, 1) := by decide +kernel
theorem dX1_reckon_5 : decode cX1_reckon 5 = .ok (.aload_n 0, 1) := by decide +kernel
theorem dX1_reckon_6 : decode cX1_reckon 6 = .ok (.getfield 16, 3) := by decide +kernel
theorem dX1_reckon_9 : decode cX1_reckon 9 = .ok (.if_icmp .ge 159, 3) := by decide +kernel
theorem dX1_reckon_168 : decode cX1_reckon 168 = .ok (.iload_n 2, 1) := by decide +kernel
theorem dX1_reckon_169 : decode cX1_reckon 169 = .ok (.ifCond .le 12, 3) := by decide +kernel
theorem dX1_reckon_181 : decode cX1_reckon 181 = .ok (.iconst 0, 1) := by decide +kernel
theorem dX1_reckon_182 : decode cX1_reckon 182 = .ok (.ireturn, 1) := by decide +kernel
theorem dX1_reckon_172 : decode cX1_reckon 172 = .ok (.aload_n 0, 1) := by decide +kernel
theorem kw169 : (.fieldLink RX1 13 "SpiceSwaps$Formula" "stack" "[I" : Cond) ∈ gT := gT_of 169 (by decide +kernel) (by decide +kernel)
theorem dX1_reckon_173 : decode cX1_reckon 173 = .ok (.getfield 13, 3) := by decide +kernel
theorem dX1_reckon_176 : decode cX1_reckon 176 = .ok (.iconst 0, 1) := by decide +kernel
theorem dX1_reckon_177 : decode cX1_reckon 177 = .ok (.iaload, 1) := by decide +kernel
theorem dX1_reckon_178 : decode cX1_reckon 178 = .ok (.goto 4, 3) := by decide +kernel
theorem dX1_reckon_12 : decode cX1_reckon 12 = .ok (.iload_n 3, 1) := by decide +kernel
theorem dX1_reckon_13 : decode cX1_reckon 13 = .ok (.aload_n 0, 1) := by decide +kernel
theorem dX1_reckon_14 : decode cX1_reckon 14 = .ok (.getfield 9, 3) := by decide +kernel
theorem dX1_reckon_17 : decode cX1_reckon 17 = .ok (.arraylength, 1) := by decide +kernel
theorem dX1_reckon_18 : decode cX1_reckon 18 = .ok (.if_icmp .ge 150, 3) := by decide +kernel
theorem dX1_reckon_21 : decode cX1_reckon 21 = .ok (.aload_n 0, 1) := by decide +kernel
theorem dX1_reckon_22 : decode cX1_reckon 22 = .ok (.getfield 9, 3) := by decide +kernel
theorem dX1_reckon_25 : decode cX1_reckon 25 = .ok (.iload_n 3, 1) := by decide +kernel
theorem dX1_reckon_26 : decode cX1_reckon 26 = .ok (.iaload, 1) := by decide +kernel
theorem dX1_reckon_27 : decode cX1_reckon 27 = .ok (.istore 4, 2) := by decide +kernel
theorem dX1_reckon_29 : decode cX1_reckon 29 = .ok (.iload 4, 2) := by decide +kernel
theorem dX1_reckon_31 : decode cX1_reckon 31 = .ok (.bipush 7, 2) := by decide +kernel
theorem dX1_reckon_33 : decode cX1_reckon 33 = .ok (.if_icmp .lt 10, 3) := by decide +kernel
theorem dX1_reckon_43 : decode cX1_reckon 43 = .ok (.iload_n 2, 1) := by decide +kernel
theorem dX1_reckon_44 : decode cX1_reckon 44 = .ok (.aload_n 0, 1) := by decide +kernel
theorem dX1_reckon_45 : decode cX1_reckon 45 = .ok (.getfield 13, 3) := by decide +kernel
theorem dX1_reckon_48 : decode cX1_reckon 48 = .ok (.arraylength, 1) := by decide +kernel
theorem dX1_reckon_49 : decode cX1_reckon 49 = .ok (.if_icmp .ge 113, 3) := by decide +kernel
theorem dX1_reckon_162 : decode cX1_reckon 162 = .ok (.iinc 3 1, 3) := by decide +kernel
theorem dX1_reckon_165 : decode cX1_reckon 165 = .ok (.goto (-161), 3) := by decide +kernel
theorem dX1_reckon_52 : decode cX1_reckon 52 = .ok (.aload_n 0, 1) := by decide +kernel
theorem dX1_reckon_53 : decode cX1_reckon 53 = .ok (.getfield 13, 3) := by decide +kernel
theorem dX1_reckon_56 : decode cX1_reckon 56 = .ok (.iload_n 2, 1) := by decide +kernel
theorem dX1_reckon_57 : decode cX1_reckon 57 = .ok (.iload 4, 2) := by decide +kernel
theorem dX1_reckon_59 : decode cX1_reckon 59 = .ok (.bipush 100, 2) := by decide +kernel
theorem dX1_reckon_61 : decode cX1_reckon 61 = .ok (.if_icmp .lt 11, 3) := by decide +kernel
theorem dX1_reckon_72 : decode cX1_reckon 72 = .ok (.aload_n 1, 1) := by decide +kernel
theorem dX1_reckon_73 : decode cX1_reckon 73 = .ok (.iload 4, 2) := by decide +kernel
theorem kw895 : (.methodLink RX1 27 yX1_lightAt : Cond) ∈ gT := gT_of 895 (by decide +kernel) (by decide +kernel)
theorem kw897 : (.code yX1_lightAt cX1_lightAt 2 (some .int) : Cond) ∈ gT := gT_of 897 (by decide +kernel) (by decide +kernel)
theorem kw896 : (.static yX1_lightAt : Cond) ∈ gT := gT_of 896 (by decide +kernel) (by decide +kernel)
theorem dX1_reckon_75 : decode cX1_reckon 75 = .ok (.invokestatic 27, 3) := by decide +kernel
theorem dX1_reckon_78 : decode cX1_reckon 78 = .ok (.iastore, 1) := by decide +kernel
theorem dX1_reckon_79 : decode cX1_reckon 79 = .ok (.iinc 2 1, 3) := by decide +kernel
theorem dX1_reckon_82 : decode cX1_reckon 82 = .ok (.goto 80, 3) := by decide +kernel
theorem dX1_reckon_36 : decode cX1_reckon 36 = .ok (.iload 4, 2) := by decide +kernel
theorem dX1_reckon_38 : decode cX1_reckon 38 = .ok (.bipush 100, 2) := by decide +kernel
theorem dX1_reckon_40 : decode cX1_reckon 40 = .ok (.if_icmp .lt 45, 3) := by decide +kernel
theorem dX1_reckon_85 : decode cX1_reckon 85 = .ok (.iload 4, 2) := by decide +kernel
theorem dX1_reckon_87 : decode cX1_reckon 87 = .ok (.bipush 7, 2) := by decide +kernel
theorem dX1_reckon_89 : decode cX1_reckon 89 = .ok (.if_icmp .ne 38, 3) := by decide +kernel
theorem dX1_reckon_127 : decode cX1_reckon 127 = .ok (.iload_n 2, 1) := by decide +kernel
theorem dX1_reckon_128 : decode cX1_reckon 128 = .ok (.iconst 2, 1) := by decide +kernel
theorem dX1_reckon_129 : decode cX1_reckon 129 = .ok (.if_icmp .lt 33, 3) := by decide +kernel
theorem dX1_reckon_132 : decode cX1_reckon 132 = .ok (.iinc 2 (-1), 3) := by decide +kernel
theorem dX1_reckon_135 : decode cX1_reckon 135 = .ok (.aload_n 0, 1) := by decide +kernel
theorem dX1_reckon_136 : decode cX1_reckon 136 = .ok (.getfield 13, 3) := by decide +kernel
theorem dX1_reckon_139 : decode cX1_reckon 139 = .ok (.iload_n 2, 1) := by decide +kernel
theorem dX1_reckon_140 : decode cX1_reckon 140 = .ok (.iconst 1, 1) := by decide +kernel
theorem dX1_reckon_141 : decode cX1_reckon 141 = .ok (.isub, 1) := by decide +kernel
theorem dX1_reckon_142 : decode cX1_reckon 142 = .ok (.iload 4, 2) := by decide +kernel
theorem dX1_reckon_144 : decode cX1_reckon 144 = .ok (.aload_n 0, 1) := by decide +kernel
theorem dX1_reckon_145 : decode cX1_reckon 145 = .ok (.getfield 13, 3) := by decide +kernel
theorem dX1_reckon_148 : decode cX1_reckon 148 = .ok (.iload_n 2, 1) := by decide +kernel
theorem dX1_reckon_149 : decode cX1_reckon 149 = .ok (.iconst 1, 1) := by decide +kernel
theorem dX1_reckon_150 : decode cX1_reckon 150 = .ok (.isub, 1) := by decide +kernel
theorem dX1_reckon_151 : decode cX1_reckon 151 = .ok (.iaload, 1) := by decide +kernel
theorem dX1_reckon_152 : decode cX1_reckon 152 = .ok (.aload_n 0, 1) := by decide +kernel
theorem dX1_reckon_153 : decode cX1_reckon 153 = .ok (.getfield 13, 3) := by decide +kernel
theorem dX1_reckon_156 : decode cX1_reckon 156 = .ok (.iload_n 2, 1) := by decide +kernel
theorem dX1_reckon_157 : decode cX1_reckon 157 = .ok (.iaload, 1) := by decide +kernel
theorem kw901 : (.methodLink RX1 35 yX1_join : Cond) ∈ gT := gT_of 901 (by decide +kernel) (by decide +kernel)
theorem kw903 : (.code yX1_join cX1_join 3 (some .int) : Cond) ∈ gT := gT_of 903 (by decide +kernel) (by decide +kernel)
theorem kw902 : (.static yX1_join : Cond) ∈ gT := gT_of 902 (by decide +kernel) (by decide +kernel)
theorem dX1_reckon_158 : decode cX1_reckon 158 = .ok (.invokestatic 35, 3) := by decide +kernel
theorem dX1_reckon_161 : decode cX1_reckon 161 = .ok (.iastore, 1) := by decide +kernel
theorem dX1_reckon_92 : decode cX1_reckon 92 = .ok (.iload_n 2, 1) := by decide +kernel
theorem dX1_reckon_93 : decode cX1_reckon 93 = .ok (.iconst 1, 1) := by decide +kernel
theorem dX1_reckon_94 : decode cX1_reckon 94 = .ok (.if_icmp .lt 33, 3) := by decide +kernel
theorem dX1_reckon_97 : decode cX1_reckon 97 = .ok (.aload_n 0, 1) := by decide +kernel
theorem dX1_reckon_98 : decode cX1_reckon 98 = .ok (.getfield 13, 3) := by decide +kernel
theorem dX1_reckon_101 : decode cX1_reckon 101 = .ok (.iload_n 2, 1) := by decide +kernel
theorem dX1_reckon_102 : decode cX1_reckon 102 = .ok (.iconst 1, 1) := by decide +kernel
theorem dX1_reckon_103 : decode cX1_reckon 103 = .ok (.isub, 1) := by decide +kernel
theorem dX1_reckon_104 : decode cX1_reckon 104 = .ok (.aload_n 0, 1) := by decide +kernel
theorem dX1_reckon_105 : decode cX1_reckon 105 = .ok (.getfield 13, 3) := by decide +kernel
theorem dX1_reckon_108 : decode cX1_reckon 108 = .ok (.iload_n 2, 1) := by decide +kernel
theorem dX1_reckon_109 : decode cX1_reckon 109 = .ok (.iconst 1, 1) := by decide +kernel
theorem dX1_reckon_110 : decode cX1_reckon 110 = .ok (.isub, 1) := by decide +kernel
theorem dX1_reckon_111 : decode cX1_reckon 111 = .ok (.iaload, 1) := by decide +kernel
theorem dX1_reckon_112 : decode cX1_reckon 112 = .ok (.ifCond .ne 7, 3) := by decide +kernel
theorem dX1_reckon_119 : decode cX1_reckon 119 = .ok (.iconst 0, 1) := by decide +kernel
theorem dX1_reckon_120 : decode cX1_reckon 120 = .ok (.invokestatic 31, 3) := by decide +kernel
theorem dX1_reckon_123 : decode cX1_reckon 123 = .ok (.iastore, 1) := by decide +kernel
theorem dX1_reckon_124 : decode cX1_reckon 124 = .ok (.goto 38, 3) := by decide +kernel
theorem dX1_reckon_115 : decode cX1_reckon 115 = .ok (.iconst 1, 1) := by decide +kernel
theorem dX1_reckon_116 : decode cX1_reckon 116 = .ok (.goto 4, 3) := by decide +kernel
theorem dX1_reckon_64 : decode cX1_reckon 64 = .ok (.iload 4, 2) := by decide +kernel
theorem dX1_reckon_66 : decode cX1_reckon 66 = .ok (.bipush 100, 2) := by decide +kernel
theorem dX1_reckon_68 : decode cX1_reckon 68 = .ok (.isub, 1) := by decide +kernel
theorem dX1_reckon_69 : decode cX1_reckon 69 = .ok (.goto 9, 3) := by decide +kernel
set_option maxHeartbeats 4000000 in
set_option maxRecDepth 100000 in
theorem sX1_reckon_1 (l : Launch) (D : va_G) (cB cI cJ cZ : ClassId) (aK aV : Nat → Nat) (h0 : Nat) (h1 : Nat) (h2 : Nat) (h3 : Nat) (x4 : Int32) (x5 : Int32) (x6 : Int32) (f7 : Nat → Int32) (f8 : Nat → Int32) (f9 : Nat → Int32) (gh0 : 0 ≤ x4.toInt) (gh1 : 0 ≤ -x4.toInt + 272) : MX l yX1_reckon cX1_reckon 5 (some .int) (rmL 3 0 0) D cB cI cJ cZ aK aV [.ref h0, .ref h1] [(h0, .inr (1, [.ref h2, .ref h3, .int x4, .int x5, .int x6])), (h2, .inl (cI, 272, .inl f7)), (h3, .inl (cI, 30, .inl f8)), (h1, .inl (cI, 7, .inl f9))] (fun r w1 => ∃ z1 : Nat → Int32, ∃ z2 : Int32, r = some (.int z2) ∧ w1 = [(h0, .inr (1, [.ref h2, .ref h3, .int x4, .int x5, .int x6])), (h2, .inl (cI, 272, .inl f7)), (h3, .inl (cI, 30, .inl z1)), (h1, .inl (cI, 7, .inl f9))]) := by
  refine MX.intro (by decide) (Nat.le_of_ble_eq_true rfl) ?_
  intro p e s m below meth c A ls hx hb hr hml hown hlocks hnm hts hG hE hA hS hP hD hl hAe
  have hl : lv_has ls 5 [(0, .ref h0), (1, .ref h1)] := hl
  have hown : s.vm.findClass RX1 = some m.cls := hown
  refine lv_iconst (v := 0) hx hb dX1_reckon_0 (by decide +kernel) ?_
  refine lv_istore_n (lv' := [(2, .int 0), (0, .ref h0), (1, .ref h1)]) hx hb dX1_reckon_1 rfl hl (by decide) rfl (fun ls hl => ?_)
  refine lv_iconst (v := 0) hx hb dX1_reckon_2 (by decide +kernel) ?_
  refine lv_istore_n (lv' := [(3, .int 0), (2, .int 0), (0, .ref h0), (1, .ref h1)]) hx hb dX1_reckon_3 rfl hl (by decide) rfl (fun ls hl => ?_)
  have lp_7 : ∀ (n : Nat) (x_4 x_5 : Int32) (f_6 : Nat → Int32) (H : Heap) (locs : List Loc) (ls : Array Slot), 0 ≤ x_4.toInt → 0 ≤ -x_4.toInt + 30 → 0 ≤ -x_4.toInt + x_5.toInt → 0 ≤ x4.toInt - x_5.toInt → -x_5.toInt + 272 < n → va_P D vwCl [(h0, .inr (1, [.ref h2, .ref h3, .int x4, .int x5, .int x6])), (h2, .inl (cI, 272, .inl f7)), (h3, .inl (cI, 30, .inl f_6)), (h1, .inl (cI, 7, .inl f9))] H → va_D A [(h0, .inr (1, [.ref h2, .ref h3, .int x4, .int x5, .int x6])), (h2, .inl (cI, 272, .inl f7)), (h3, .inl (cI, 30, .inl f_6)), (h1, .inl (cI, 7, .inl f9))] → va_S A s.heap H locs → lv_has ls 5 [(3, .int x_5), (2, .int x_4), (0, .ref h0), (1, .ref h1)] → W p l e (rmL 3 0 0) s m [.ref h0, .ref h1].toArray below meth c H locs 0 0 (ZX D below [.ref h0, .ref h1] s (rmL 3 0 0) [(h0, .inr (1, [.ref h2, .ref h3, .int x4, .int x5, .int x6])), (h2, .inl (cI, 272, .inl f7)), (h3, .inl (cI, 30, .inl f8)), (h1, .inl (cI, 7, .inl f9))] (fun r w1 => ∃ z1 : Nat → Int32, ∃ z2 : Int32, r = some (.int z2) ∧ w1 = [(h0, .inr (1, [.ref h2, .ref h3, .int x4, .int x5, .int x6])), (h2, .inl (cI, 272, .inl f7)), (h3, .inl (cI, 30, .inl z1)), (h1, .inl (cI, 7, .inl f9))])) (F0 m 4 ls []) := by
    intro n
    induction n with
    | zero => intro x_4 x_5 f_6 H locs ls g_8 g_9 g_10 g_11 g_12; omega
    | succ n ihlp_7 =>
      intro x_4 x_5 f_6 H locs ls g_8 g_9 g_10 g_11 g_12 hP hD hS hl
      refine lv_iload_n hx hb dX1_reckon_4 rfl (lv_at hl 0 rfl) ?_
      refine lv_aload_n hx hb dX1_reckon_5 rfl (lv_at hl 2 rfl) ?_
      refine va_get (D := D) (ci := 1) (v := .int x4) (C := RX1) (T := TX1) (N := 5) hx hb hts inX1 hown hG.1 hP 0 rfl rfl 2 (by decide) (hts _ kw170) (fun _ h9 => h9) rfl dX1_reckon_6 ?_
      refine lv_icmp_ge (tgt := 168) hx hb dX1_reckon_9 (by decide) (fun c_13 => ?_) (fun c_13 => ?_)
      · have fc_13 : x4.toInt ≤ x_5.toInt := i_le rfl rfl c_13
        refine lv_iload_n hx hb dX1_reckon_168 rfl (lv_at hl 1 rfl) ?_
        refine lv_if_le (tgt := 181) hx hb dX1_reckon_169 (by decide) (fun c_14 => ?_) (fun c_14 => ?_)
        · have fc_14 : x_4.toInt ≤ (0 : Int) := i_le rfl (by decide) c_14
          refine lv_iconst (v := 0) hx hb dX1_reckon_181 (by decide +kernel) ?_
          have hP9 := hP.sub (ws' := [(h0, .inr (1, [.ref h2, .ref h3, .int x4, .int x5, .int x6])), (h2, .inl (cI, 272, .inl f7)), (h3, .inl (cI, 30, .inl f_6)), (h1, .inl (cI, 7, .inl f9))]) [0, 1, 2, 3] rfl
          have hD9 := hD.sub (ws' := [(h0, .inr (1, [.ref h2, .ref h3, .int x4, .int x5, .int x6])), (h2, .inl (cI, 272, .inl f7)), (h3, .inl (cI, 30, .inl f_6)), (h1, .inl (cI, 7, .inl f9))]) [0, 1, 2, 3] (by decide) rfl
          exact xr_i (rm := (rmL 3 0 0)) hx hb hr hlocks hAe hS hP9 hD9 rfl (Nat.le_of_ble_eq_true rfl) (Nat.le_of_ble_eq_true rfl) dX1_reckon_182 ⟨f_6, 0, rfl, rfl⟩
        · have fc_14 : (0 : Int) < x_4.toInt := i_nle rfl (by decide) c_14
          refine lv_aload_n hx hb dX1_reckon_172 rfl (lv_at hl 2 rfl) ?_
          refine va_get (D := D) (ci := 1) (v := .ref h3) (C := RX1) (T := TX1) (N := 5) hx hb hts inX1 hown hG.1 hP 0 rfl rfl 1 (by decide) (hts _ kw169) (fun _ h9 => h9) rfl dX1_reckon_173 ?_
          refine lv_iconst (v := 0) hx hb dX1_reckon_176 (by decide +kernel) ?_
          refine xa_ildU hx hb hG hP 2 rfl (vin (by decide +kernel)) dX1_reckon_177 (fun v_15 => ?_)
          refine lv_goto (tgt := 182) hx hb dX1_reckon_178 (by decide) ?_
          have hP9 := hP.sub (ws' := [(h0, .inr (1, [.ref h2, .ref h3, .int x4, .int x5, .int x6])), (h2, .inl (cI, 272, .inl f7)), (h3, .inl (cI, 30, .inl f_6)), (h1, .inl (cI, 7, .inl f9))]) [0, 1, 2, 3] rfl
          have hD9 := hD.sub (ws' := [(h0, .inr (1, [.ref h2, .ref h3, .int x4, .int x5, .int x6])), (h2, .inl (cI, 272, .inl f7)), (h3, .inl (cI, 30, .inl f_6)), (h1, .inl (cI, 7, .inl f9))]) [0, 1, 2, 3] (by decide) rfl
          exact xr_i (rm := (rmL 3 0 0)) hx hb hr hlocks hAe hS hP9 hD9 rfl (Nat.le_of_ble_eq_true rfl) (Nat.le_of_ble_eq_true rfl) dX1_reckon_182 ⟨f_6, v_15, rfl, rfl⟩
      · have fc_13 : x_5.toInt < x4.toInt := i_nle rfl rfl c_13
        refine lv_iload_n hx hb dX1_reckon_12 rfl (lv_at hl 0 rfl) ?_
        refine lv_aload_n hx hb dX1_reckon_13 rfl (lv_at hl 2 rfl) ?_
        refine va_get (D := D) (ci := 1) (v := .ref h2) (C := RX1) (T := TX1) (N := 5) hx hb hts inX1 hown hG.1 hP 0 rfl rfl 0 (by decide) (hts _ kw168) (fun _ h9 => h9) rfl dX1_reckon_14 ?_
        refine xa_alen (v := 272) hx hb hG hP 1 1 rfl rfl rfl dX1_reckon_17 ?_
        refine lv_icmp_ge (tgt := 168) hx hb dX1_reckon_18 (by decide) (fun c_16 => by exfalso; have fc_16 : (272 : Int) ≤ x_5.toInt := i_le (by decide) rfl c_16; omega) (fun c_16 => ?_)
        have fc_16 : x_5.toInt < (272 : Int) := i_nle (by decide) rfl c_16
        refine lv_aload_n hx hb dX1_reckon_21 rfl (lv_at hl 2 rfl) ?_
        refine va_get (D := D) (ci := 1) (v := .ref h2) (C := RX1) (T := TX1) (N := 5) hx hb hts inX1 hown hG.1 hP 0 rfl rfl 0 (by decide) (hts _ kw168) (fun _ h9 => h9) rfl dX1_reckon_22 ?_
        refine lv_iload_n hx hb dX1_reckon_25 rfl (lv_at hl 0 rfl) ?_
        refine xa_ildU hx hb hG hP 1 rfl (vp_in_iff.mpr ⟨by omega, by omega⟩) dX1_reckon_26 (fun v_17 => ?_)
        refine lv_istore (lv' := [(4, .int v_17), (3, .int x_5), (2, .int x_4), (0, .ref h0), (1, .ref h1)]) hx hb dX1_reckon_27 hl (by decide) rfl (fun ls hl => ?_)
        refine lv_iload hx hb dX1_reckon_29 (lv_at hl 0 rfl) ?_
        refine lv_bipush (v := 7) hx hb dX1_reckon_31 (by decide +kernel) ?_
        refine lv_icmp_lt (tgt := 43) hx hb dX1_reckon_33 (by decide) (fun c_18 => ?_) (fun c_18 => ?_)
        · have fc_18 : v_17.toInt < (7 : Int) := i_lt rfl (by decide) c_18
          refine lv_iload_n hx hb dX1_reckon_43 rfl (lv_at hl 2 rfl) ?_
          refine lv_aload_n hx hb dX1_reckon_44 rfl (lv_at hl 3 rfl) ?_
          refine va_get (D := D) (ci := 1) (v := .ref h3) (C := RX1) (T := TX1) (N := 5) hx hb hts inX1 hown hG.1 hP 0 rfl rfl 1 (by decide) (hts _ kw169) (fun _ h9 => h9) rfl dX1_reckon_45 ?_
          refine xa_alen (v := 30) hx hb hG hP 2 1 rfl rfl rfl dX1_reckon_48 ?_
          refine lv_icmp_ge (tgt := 162) hx hb dX1_reckon_49 (by decide) (fun c_19 => ?_) (fun c_19 => ?_)
          · have fc_19 : (30 : Int) ≤ x_4.toInt := i_le (by decide) rfl c_19
            obtain ⟨v_20, ev_20⟩ : ∃ y : Int32, y = x_5 + 1 := ⟨_, rfl⟩
            have gv_20 : v_20.toInt = x_5.toInt + 1 := by
              have zy : (1 : Int32).toInt = 1 := by decide
              rw [ev_20, i32_add (by rw [zy]; omega) (by rw [zy]; omega), zy]
            refine lv_iinc (v := v_20) (lv' := [(3, .int v_20), (4, .int v_17), (2, .int x_4), (0, .ref h0), (1, .ref h1)]) hx hb dX1_reckon_162 hl (k := 1) rfl (by rw [ev_20]; rfl) (by decide) rfl (fun ls hl => ?_)
            refine lv_goto (tgt := 4) hx hb dX1_reckon_165 (by decide) ?_
            exact ihlp_7  x_4 v_20 f_6 _ _ _ (by omega) (by omega) (by omega) (by omega) (by omega) (hP.sub (ws' := [(h0, .inr (1, [.ref h2, .ref h3, .int x4, .int x5, .int x6])), (h2, .inl (cI, 272, .inl f7)), (h3, .inl (cI, 30, .inl f_6)), (h1, .inl (cI, 7, .inl f9))]) [0, 1, 2, 3] rfl) (hD.sub (ws' := [(h0, .inr (1, [.ref h2, .ref h3, .int x4, .int x5, .int x6])), (h2, .inl (cI, 272, .inl f7)), (h3, .inl (cI, 30, .inl f_6)), (h1, .inl (cI, 7, .inl f9))]) [0, 1, 2, 3] (by decide) rfl) hS (lv_sub hl [0, 2, 3, 4] rfl)
          · have fc_19 : x_4.toInt < (30 : Int) := i_nle (by decide) rfl c_19
            refine lv_aload_n hx hb dX1_reckon_52 rfl (lv_at hl 3 rfl) ?_
            refine va_get (D := D) (ci := 1) (v := .ref h3) (C := RX1) (T := TX1) (N := 5) hx hb hts inX1 hown hG.1 hP 0 rfl rfl 1 (by decide) (hts _ kw169) (fun _ h9 => h9) rfl dX1_reckon_53 ?_
            refine lv_iload_n hx hb dX1_reckon_56 rfl (lv_at hl 2 rfl) ?_
            refine lv_iload hx hb dX1_reckon_57 (lv_at hl 0 rfl) ?_
            refine lv_bipush (v := 100) hx hb dX1_reckon_59 (by decide +kernel) ?_
            refine lv_icmp_lt (tgt := 72) hx hb dX1_reckon_61 (by decide) (fun c_21 => ?_) (fun c_21 => by exfalso; have fc_21 : (100 : Int) ≤ v_17.toInt := i_nlt rfl (by decide) c_21; omega)
            have fc_21 : v_17.toInt < (100 : Int) := i_lt rfl (by decide) c_21
            refine lv_aload_n hx hb dX1_reckon_72 rfl (lv_at hl 4 rfl) ?_
            refine lv_iload hx hb dX1_reckon_73 (lv_at hl 0 rfl) ?_
            refine xc_core (wr := [(h0, .inr (1, [.ref h2, .ref h3, .int x4, .int x5, .int x6])), (h2, .inl (cI, 272, .inl f7)), (h3, .inl (cI, 30, .inl f_6))]) (k := 0) (n := 0) (xc_runS (As := [.ref h1, .int v_17]) (rest := [.int x_4, .ref h3]) hx hb hml hown hts hG hE hP hD hS hA [3] (by decide) rfl (sX1_lightAt_1 l D cB cI cJ cZ aK aV h1 v_17 f9) kw897 kw895 kw896 kw115 (show XD yX1_lightAt 2 from by decide +kernel) (by decide) hl.1 rfl (Nat.le_of_ble_eq_true rfl) dX1_reckon_75 (by decide)) hP hD hS hA [3] [0, 1, 2] rfl rfl (by decide) (by decide) (Nat.le_of_ble_eq_true rfl) (Nat.le_of_ble_eq_true rfl) (fun r w1 H locs hpost hP hD hS => ?_)
            obtain ⟨v_22, rfl, rfl⟩ := hpost
            have hP : va_P D vwCl [(h0, .inr (1, [.ref h2, .ref h3, .int x4, .int x5, .int x6])), (h2, .inl (cI, 272, .inl f7)), (h3, .inl (cI, 30, .inl f_6)), (h1, .inl (cI, 7, .inl f9))] H := hP
            have hD : va_D A [(h0, .inr (1, [.ref h2, .ref h3, .int x4, .int x5, .int x6])), (h2, .inl (cI, 272, .inl f7)), (h3, .inl (cI, 30, .inl f_6)), (h1, .inl (cI, 7, .inl f9))] := hD
            refine xa_istU hx hb hG hP hD hS 2 rfl (vp_in_iff.mpr ⟨by omega, by omega⟩) dX1_reckon_78 (fun f_23 H locs hP hD hS => ?_)
            have hP : va_P D vwCl [(h0, .inr (1, [.ref h2, .ref h3, .int x4, .int x5, .int x6])), (h2, .inl (cI, 272, .inl f7)), (h3, .inl (cI, 30, .inl f_23)), (h1, .inl (cI, 7, .inl f9))] H := hP
            have hD : va_D A [(h0, .inr (1, [.ref h2, .ref h3, .int x4, .int x5, .int x6])), (h2, .inl (cI, 272, .inl f7)), (h3, .inl (cI, 30, .inl f_23)), (h1, .inl (cI, 7, .inl f9))] := hD
            obtain ⟨v_24, ev_24⟩ : ∃ y : Int32, y = x_4 + 1 := ⟨_, rfl⟩
            have gv_24 : v_24.toInt = x_4.toInt + 1 := by
              have zy : (1 : Int32).toInt = 1 := by decide
              rw [ev_24, i32_add (by rw [zy]; omega) (by rw [zy]; omega), zy]
            refine lv_iinc (v := v_24) (lv' := [(2, .int v_24), (4, .int v_17), (3, .int x_5), (0, .ref h0), (1, .ref h1)]) hx hb dX1_reckon_79 hl (k := 2) rfl (by rw [ev_24]; rfl) (by decide) rfl (fun ls hl => ?_)
            refine lv_goto (tgt := 162) hx hb dX1_reckon_82 (by decide) ?_
            obtain ⟨v_25, ev_25⟩ : ∃ y : Int32, y = x_5 + 1 := ⟨_, rfl⟩
            have gv_25 : v_25.toInt = x_5.toInt + 1 := by
              have zy : (1 : Int32).toInt = 1 := by decide
              rw [ev_25, i32_add (by rw [zy]; omega) (by rw [zy]; omega), zy]
            refine lv_iinc (v := v_25) (lv' := [(3, .int v_25), (2, .int v_24), (4, .int v_17), (0, .ref h0), (1, .ref h1)]) hx hb dX1_reckon_162 hl (k := 2) rfl (by rw [ev_25]; rfl) (by decide) rfl (fun ls hl => ?_)
            refine lv_goto (tgt := 4) hx hb dX1_reckon_165 (by decide) ?_
            exact ihlp_7  v_24 v_25 f_23 _ _ _ (by omega) (by omega) (by omega) (by omega) (by omega) (hP.sub (ws' := [(h0, .inr (1, [.ref h2, .ref h3, .int x4, .int x5, .int x6])), (h2, .inl (cI, 272, .inl f7)), (h3, .inl (cI, 30, .inl f_23)), (h1, .inl (cI, 7, .inl f9))]) [0, 1, 2, 3] rfl) (hD.sub (ws' := [(h0, .inr (1, [.ref h2, .ref h3, .int x4, .int x5, .int x6])), (h2, .inl (cI, 272, .inl f7)), (h3, .inl (cI, 30, .inl f_23)), (h1, .inl (cI, 7, .inl f9))]) [0, 1, 2, 3] (by decide) rfl) hS (lv_sub hl [0, 1, 3, 4] rfl)
        · have fc_18 : (7 : Int) ≤ v_17.toInt := i_nlt rfl (by decide) c_18
          refine lv_iload hx hb dX1_reckon_36 (lv_at hl 0 rfl) ?_
          refine lv_bipush (v := 100) hx hb dX1_reckon_38 (by decide +kernel) ?_
          refine lv_icmp_lt (tgt := 85) hx hb dX1_reckon_40 (by decide) (fun c_26 => ?_) (fun c_26 => ?_)
          · have fc_26 : v_17.toInt < (100 : Int) := i_lt rfl (by decide) c_26
            refine lv_iload hx hb dX1_reckon_85 (lv_at hl 0 rfl) ?_
            refine lv_bipush (v := 7) hx hb dX1_reckon_87 (by decide +kernel) ?_
            refine lv_icmp_ne (tgt := 127) hx hb dX1_reckon_89 (by decide) (fun c_27 => ?_) (fun c_27 => ?_)
            · have fc_27 : v_17.toInt ≠ (7 : Int) := i_ne rfl (by decide) c_27
              refine lv_iload_n hx hb dX1_reckon_127 rfl (lv_at hl 2 rfl) ?_
              refine lv_iconst (v := 2) hx hb dX1_reckon_128 (by decide +kernel) ?_
              refine lv_icmp_lt (tgt := 162) hx hb dX1_reckon_129 (by decide) (fun c_28 => ?_) (fun c_28 => ?_)
              · have fc_28 : x_4.toInt < (2 : Int) := i_lt rfl (by decide) c_28
                obtain ⟨v_29, ev_29⟩ : ∃ y : Int32, y = x_5 + 1 := ⟨_, rfl⟩
                have gv_29 : v_29.toInt = x_5.toInt + 1 := by
                  have zy : (1 : Int32).toInt = 1 := by decide
                  rw [ev_29, i32_add (by rw [zy]; omega) (by rw [zy]; omega), zy]
                refine lv_iinc (v := v_29) (lv' := [(3, .int v_29), (4, .int v_17), (2, .int x_4), (0, .ref h0), (1, .ref h1)]) hx hb dX1_reckon_162 hl (k := 1) rfl (by rw [ev_29]; rfl) (by decide) rfl (fun ls hl => ?_)
                refine lv_goto (tgt := 4) hx hb dX1_reckon_165 (by decide) ?_
                exact ihlp_7  x_4 v_29 f_6 _ _ _ (by omega) (by omega) (by omega) (by omega) (by omega) (hP.sub (ws' := [(h0, .inr (1, [.ref h2, .ref h3, .int x4, .int x5, .int x6])), (h2, .inl (cI, 272, .inl f7)), (h3, .inl (cI, 30, .inl f_6)), (h1, .inl (cI, 7, .inl f9))]) [0, 1, 2, 3] rfl) (hD.sub (ws' := [(h0, .inr (1, [.ref h2, .ref h3, .int x4, .int x5, .int x6])), (h2, .inl (cI, 272, .inl f7)), (h3, .inl (cI, 30, .inl f_6)), (h1, .inl (cI, 7, .inl f9))]) [0, 1, 2, 3] (by decide) rfl) hS (lv_sub hl [0, 2, 3, 4] rfl)
              · have fc_28 : (2 : Int) ≤ x_4.toInt := i_nlt rfl (by decide) c_28
                obtain ⟨v_30, ev_30⟩ : ∃ y : Int32, y = x_4 + (-1) := ⟨_, rfl⟩
                have gv_30 : v_30.toInt = x_4.toInt + (-1) := by
                  have zy : ((-1) : Int32).toInt = (-1) := by decide
                  rw [ev_30, i32_add (by rw [zy]; omega) (by rw [zy]; omega), zy]
                refine lv_iinc (v := v_30) (lv' := [(2, .int v_30), (4, .int v_17), (3, .int x_5), (0, .ref h0), (1, .ref h1)]) hx hb dX1_reckon_132 hl (k := 2) rfl (by rw [ev_30]; rfl) (by decide) rfl (fun ls hl => ?_)
                refine lv_aload_n hx hb dX1_reckon_135 rfl (lv_at hl 3 rfl) ?_
                refine va_get (D := D) (ci := 1) (v := .ref h3) (C := RX1) (T := TX1) (N := 5) hx hb hts inX1 hown hG.1 hP 0 rfl rfl 1 (by decide) (hts _ kw169) (fun _ h9 => h9) rfl dX1_reckon_136 ?_
                refine lv_iload_n hx hb dX1_reckon_139 rfl (lv_at hl 0 rfl) ?_
                refine lv_iconst (v := 1) hx hb dX1_reckon_140 (by decide +kernel) ?_
                refine lv_isub hx hb dX1_reckon_141 ?_
                refine lv_topi (fun v_31 ev_31 => ?_)
                have gv_31 : v_31.toInt = v_30.toInt - (1 : Int) := by
                  have zx : (v_30 : Int32).toInt = v_30.toInt := rfl
                  have zy : (1 : Int32).toInt = (1 : Int) := (by decide)
                  rw [ev_31, i32_sub (by rw [zx, zy]; omega) (by rw [zx, zy]; omega), zx, zy]
                refine lv_iload hx hb dX1_reckon_142 (lv_at hl 1 rfl) ?_
                refine lv_aload_n hx hb dX1_reckon_144 rfl (lv_at hl 3 rfl) ?_
                refine va_get (D := D) (ci := 1) (v := .ref h3) (C := RX1) (T := TX1) (N := 5) hx hb hts inX1 hown hG.1 hP 0 rfl rfl 1 (by decide) (hts _ kw169) (fun _ h9 => h9) rfl dX1_reckon_145 ?_
                refine lv_iload_n hx hb dX1_reckon_148 rfl (lv_at hl 0 rfl) ?_
                refine lv_iconst (v := 1) hx hb dX1_reckon_149 (by decide +kernel) ?_
                refine lv_isub hx hb dX1_reckon_150 ?_
                refine lv_topi (fun v_32 ev_32 => ?_)
                have gv_32 : v_32.toInt = v_30.toInt - (1 : Int) := by
                  have zx : (v_30 : Int32).toInt = v_30.toInt := rfl
                  have zy : (1 : Int32).toInt = (1 : Int) := (by decide)
                  rw [ev_32, i32_sub (by rw [zx, zy]; omega) (by rw [zx, zy]; omega), zx, zy]
                refine xa_ildU hx hb hG hP 2 rfl (vp_in_iff.mpr ⟨by omega, by omega⟩) dX1_reckon_151 (fun v_33 => ?_)
                refine lv_aload_n hx hb dX1_reckon_152 rfl (lv_at hl 3 rfl) ?_
                refine va_get (D := D) (ci := 1) (v := .ref h3) (C := RX1) (T := TX1) (N := 5) hx hb hts inX1 hown hG.1 hP 0 rfl rfl 1 (by decide) (hts _ kw169) (fun _ h9 => h9) rfl dX1_reckon_153 ?_
                refine lv_iload_n hx hb dX1_reckon_156 rfl (lv_at hl 0 rfl) ?_
                refine xa_ildU hx hb hG hP 2 rfl (vp_in_iff.mpr ⟨by omega, by omega⟩) dX1_reckon_157 (fun v_34 => ?_)
                refine xc_core (wr := [(h0, .inr (1, [.ref h2, .ref h3, .int x4, .int x5, .int x6])), (h2, .inl (cI, 272, .inl f7)), (h3, .inl (cI, 30, .inl f_6)), (h1, .inl (cI, 7, .inl f9))]) (k := 0) (n := 0) (xc_runS (As := [.int v_17, .int v_33, .int v_34]) (rest := [.int v_31, .ref h3]) hx hb hml hown hts hG hE hP hD hS hA [] (by decide) rfl (sX1_join_1 l D cB cI cJ cZ aK aV v_17 v_33 v_34) kw903 kw901 kw902 kw115 (show XD yX1_join 3 from by decide +kernel) (by decide) hl.1 rfl (Nat.le_of_ble_eq_true rfl) dX1_reckon_158 (by decide)) hP hD hS hA [] [0, 1, 2, 3] rfl rfl (by decide) (by decide) (Nat.le_of_ble_eq_true rfl) (Nat.le_of_ble_eq_true rfl) (fun r w1 H locs hpost hP hD hS => ?_)
                obtain ⟨v_35, rfl, rfl⟩ := hpost
                have hP : va_P D vwCl [(h0, .inr (1, [.ref h2, .ref h3, .int x4, .int x5, .int x6])), (h2, .inl (cI, 272, .inl f7)), (h3, .inl (cI, 30, .inl f_6)), (h1, .inl (cI, 7, .inl f9))] H := hP
                have hD : va_D A [(h0, .inr (1, [.ref h2, .ref h3, .int x4, .int x5, .int x6])), (h2, .inl (cI, 272, .inl f7)), (h3, .inl (cI, 30, .inl f_6)), (h1, .inl (cI, 7, .inl f9))] := hD
                refine xa_istU hx hb hG hP hD hS 2 rfl (vp_in_iff.mpr ⟨by omega, by omega⟩) dX1_reckon_161 (fun f_36 H locs hP hD hS => ?_)
                have hP : va_P D vwCl [(h0, .inr (1, [.ref h2, .ref h3, .int x4, .int x5, .int x6])), (h2, .inl (cI, 272, .inl f7)), (h3, .inl (cI, 30, .inl f_36)), (h1, .inl (cI, 7, .inl f9))] H := hP
                have hD : va_D A [(h0, .inr (1, [.ref h2, .ref h3, .int x4, .int x5, .int x6])), (h2, .inl (cI, 272, .inl f7)), (h3, .inl (cI, 30, .inl f_36)), (h1, .inl (cI, 7, .inl f9))] := hD
                obtain ⟨v_37, ev_37⟩ : ∃ y : Int32, y = x_5 + 1 := ⟨_, rfl⟩
                have gv_37 : v_37.toInt = x_5.toInt + 1 := by
                  have zy : (1 : Int32).toInt = 1 := by decide
                  rw [ev_37, i32_add (by rw [zy]; omega) (by rw [zy]; omega), zy]
                refine lv_iinc (v := v_37) (lv' := [(3, .int v_37), (2, .int v_30), (4, .int v_17), (0, .ref h0), (1, .ref h1)]) hx hb dX1_reckon_162 hl (k := 2) rfl (by rw [ev_37]; rfl) (by decide) rfl (fun ls hl => ?_)
                refine lv_goto (tgt := 4) hx hb dX1_reckon_165 (by decide) ?_
                exact ihlp_7  v_30 v_37 f_36 _ _ _ (by omega) (by omega) (by omega) (by omega) (by omega) (hP.sub (ws' := [(h0, .inr (1, [.ref h2, .ref h3, .int x4, .int x5, .int x6])), (h2, .inl (cI, 272, .inl f7)), (h3, .inl (cI, 30, .inl f_36)), (h1, .inl (cI, 7, .inl f9))]) [0, 1, 2, 3] rfl) (hD.sub (ws' := [(h0, .inr (1, [.ref h2, .ref h3, .int x4, .int x5, .int x6])), (h2, .inl (cI, 272, .inl f7)), (h3, .inl (cI, 30, .inl f_36)), (h1, .inl (cI, 7, .inl f9))]) [0, 1, 2, 3] (by decide) rfl) hS (lv_sub hl [0, 1, 3, 4] rfl)
            · have fc_27 : v_17.toInt = (7 : Int) := i_eq rfl (by decide) c_27
              refine lv_iload_n hx hb dX1_reckon_92 rfl (lv_at hl 2 rfl) ?_
              refine lv_iconst (v := 1) hx hb dX1_reckon_93 (by decide +kernel) ?_
              refine lv_icmp_lt (tgt := 127) hx hb dX1_reckon_94 (by decide) (fun c_38 => ?_) (fun c_38 => ?_)
              · have fc_38 : x_4.toInt < (1 : Int) := i_lt rfl (by decide) c_38
                refine lv_iload_n hx hb dX1_reckon_127 rfl (lv_at hl 2 rfl) ?_
                refine lv_iconst (v := 2) hx hb dX1_reckon_128 (by decide +kernel) ?_
                refine lv_icmp_lt (tgt := 162) hx hb dX1_reckon_129 (by decide) (fun c_39 => ?_) (fun c_39 => by exfalso; have fc_39 : (2 : Int) ≤ x_4.toInt := i_nlt rfl (by decide) c_39; omega)
                have fc_39 : x_4.toInt < (2 : Int) := i_lt rfl (by decide) c_39
                obtain ⟨v_40, ev_40⟩ : ∃ y : Int32, y = x_5 + 1 := ⟨_, rfl⟩
                have gv_40 : v_40.toInt = x_5.toInt + 1 := by
                  have zy : (1 : Int32).toInt = 1 := by decide
                  rw [ev_40, i32_add (by rw [zy]; omega) (by rw [zy]; omega), zy]
                refine lv_iinc (v := v_40) (lv' := [(3, .int v_40), (4, .int v_17), (2, .int x_4), (0, .ref h0), (1, .ref h1)]) hx hb dX1_reckon_162 hl (k := 1) rfl (by rw [ev_40]; rfl) (by decide) rfl (fun ls hl => ?_)
                refine lv_goto (tgt := 4) hx hb dX1_reckon_165 (by decide) ?_
                exact ihlp_7  x_4 v_40 f_6 _ _ _ (by omega) (by omega) (by omega) (by omega) (by omega) (hP.sub (ws' := [(h0, .inr (1, [.ref h2, .ref h3, .int x4, .int x5, .int x6])), (h2, .inl (cI, 272, .inl f7)), (h3, .inl (cI, 30, .inl f_6)), (h1, .inl (cI, 7, .inl f9))]) [0, 1, 2, 3] rfl) (hD.sub (ws' := [(h0, .inr (1, [.ref h2, .ref h3, .int x4, .int x5, .int x6])), (h2, .inl (cI, 272, .inl f7)), (h3, .inl (cI, 30, .inl f_6)), (h1, .inl (cI, 7, .inl f9))]) [0, 1, 2, 3] (by decide) rfl) hS (lv_sub hl [0, 2, 3, 4] rfl)
              · have fc_38 : (1 : Int) ≤ x_4.toInt := i_nlt rfl (by decide) c_38
                refine lv_aload_n hx hb dX1_reckon_97 rfl (lv_at hl 3 rfl) ?_
                refine va_get (D := D) (ci := 1) (v := .ref h3) (C := RX1) (T := TX1) (N := 5) hx hb hts inX1 hown hG.1 hP 0 rfl rfl 1 (by decide) (hts _ kw169) (fun _ h9 => h9) rfl dX1_reckon_98 ?_
                refine lv_iload_n hx hb dX1_reckon_101 rfl (lv_at hl 2 rfl) ?_
                refine lv_iconst (v := 1) hx hb dX1_reckon_102 (by decide +kernel) ?_
                refine lv_isub hx hb dX1_reckon_103 ?_
                refine lv_topi (fun v_41 ev_41 => ?_)
                have gv_41 : v_41.toInt = x_4.toInt - (1 : Int) := by
                  have zx : (x_4 : Int32).toInt = x_4.toInt := rfl
                  have zy : (1 : Int32).toInt = (1 : Int) := (by decide)
                  rw [ev_41, i32_sub (by rw [zx, zy]; omega) (by rw [zx, zy]; omega), zx, zy]
                refine lv_aload_n hx hb dX1_reckon_104 rfl (lv_at hl 3 rfl) ?_
                refine va_get (D := D) (ci := 1) (v := .ref h3) (C := RX1) (T := TX1) (N := 5) hx hb hts inX1 hown hG.1 hP 0 rfl rfl 1 (by decide) (hts _ kw169) (fun _ h9 => h9) rfl dX1_reckon_105 ?_
                refine lv_iload_n hx hb dX1_reckon_108 rfl (lv_at hl 2 rfl) ?_
                refine lv_iconst (v := 1) hx hb dX1_reckon_109 (by decide +kernel) ?_
                refine lv_isub hx hb dX1_reckon_110 ?_
                refine lv_topi (fun v_42 ev_42 => ?_)
                have gv_42 : v_42.toInt = x_4.toInt - (1 : Int) := by
                  have zx : (x_4 : Int32).toInt = x_4.toInt := rfl
                  have zy : (1 : Int32).toInt = (1 : Int) := (by decide)
                  rw [ev_42, i32_sub (by rw [zx, zy]; omega) (by rw [zx, zy]; omega), zx, zy]
                refine xa_ildU hx hb hG hP 2 rfl (vp_in_iff.mpr ⟨by omega, by omega⟩) dX1_reckon_111 (fun v_43 => ?_)
                refine lv_if_ne (tgt := 119) hx hb dX1_reckon_112 (by decide) (fun c_44 => ?_) (fun c_44 => ?_)
                · have fc_44 : v_43.toInt ≠ (0 : Int) := i_ne rfl (by decide) c_44
                  refine lv_iconst (v := 0) hx hb dX1_reckon_119 (by decide +kernel) ?_
                  refine xc_core (wr := [(h0, .inr (1, [.ref h2, .ref h3, .int x4, .int x5, .int x6])), (h2, .inl (cI, 272, .inl f7)), (h3, .inl (cI, 30, .inl f_6)), (h1, .inl (cI, 7, .inl f9))]) (k := 0) (n := 0) (xc_runS (As := [.int 0]) (rest := [.int v_41, .ref h3]) hx hb hml hown hts hG hE hP hD hS hA [] (by decide) rfl (sX1_bit_1 l D cB cI cJ cZ aK aV 0) kw900 kw898 kw899 kw115 (show XD yX1_bit 1 from by decide +kernel) (by decide) hl.1 rfl (Nat.le_of_ble_eq_true rfl) dX1_reckon_120 (by decide)) hP hD hS hA [] [0, 1, 2, 3] rfl rfl (by decide) (by decide) (Nat.le_of_ble_eq_true rfl) (Nat.le_of_ble_eq_true rfl) (fun r w1 H locs hpost hP hD hS => ?_)
                  obtain ⟨v_45, g_46, g_47, rfl, rfl⟩ := hpost
                  have hP : va_P D vwCl [(h0, .inr (1, [.ref h2, .ref h3, .int x4, .int x5, .int x6])), (h2, .inl (cI, 272, .inl f7)), (h3, .inl (cI, 30, .inl f_6)), (h1, .inl (cI, 7, .inl f9))] H := hP
                  have hD : va_D A [(h0, .inr (1, [.ref h2, .ref h3, .int x4, .int x5, .int x6])), (h2, .inl (cI, 272, .inl f7)), (h3, .inl (cI, 30, .inl f_6)), (h1, .inl (cI, 7, .inl f9))] := hD
                  refine xa_istU hx hb hG hP hD hS 2 rfl (vp_in_iff.mpr ⟨by omega, by omega⟩) dX1_reckon_123 (fun f_48 H locs hP hD hS => ?_)
                  have hP : va_P D vwCl [(h0, .inr (1, [.ref h2, .ref h3, .int x4, .int x5, .int x6])), (h2, .inl (cI, 272, .inl f7)), (h3, .inl (cI, 30, .inl f_48)), (h1, .inl (cI, 7, .inl f9))] H := hP
                  have hD : va_D A [(h0, .inr (1, [.ref h2, .ref h3, .int x4, .int x5, .int x6])), (h2, .inl (cI, 272, .inl f7)), (h3, .inl (cI, 30, .inl f_48)), (h1, .inl (cI, 7, .inl f9))] := hD
                  refine lv_goto (tgt := 162) hx hb dX1_reckon_124 (by decide) ?_
                  obtain ⟨v_49, ev_49⟩ : ∃ y : Int32, y = x_5 + 1 := ⟨_, rfl⟩
                  have gv_49 : v_49.toInt = x_5.toInt + 1 := by
                    have zy : (1 : Int32).toInt = 1 := by decide
                    rw [ev_49, i32_add (by rw [zy]; omega) (by rw [zy]; omega), zy]
                  refine lv_iinc (v := v_49) (lv' := [(3, .int v_49), (4, .int v_17), (2, .int x_4), (0, .ref h0), (1, .ref h1)]) hx hb dX1_reckon_162 hl (k := 1) rfl (by rw [ev_49]; rfl) (by decide) rfl (fun ls hl => ?_)
                  refine lv_goto (tgt := 4) hx hb dX1_reckon_165 (by decide) ?_
                  exact ihlp_7  x_4 v_49 f_48 _ _ _ (by omega) (by omega) (by omega) (by omega) (by omega) (hP.sub (ws' := [(h0, .inr (1, [.ref h2, .ref h3, .int x4, .int x5, .int x6])), (h2, .inl (cI, 272, .inl f7)), (h3, .inl (cI, 30, .inl f_48)), (h1, .inl (cI, 7, .inl f9))]) [0, 1, 2, 3] rfl) (hD.sub (ws' := [(h0, .inr (1, [.ref h2, .ref h3, .int x4, .int x5, .int x6])), (h2, .inl (cI, 272, .inl f7)), (h3, .inl (cI, 30, .inl f_48)), (h1, .inl (cI, 7, .inl f9))]) [0, 1, 2, 3] (by decide) rfl) hS (lv_sub hl [0, 2, 3, 4] rfl)
                · have fc_44 : v_43.toInt = (0 : Int) := i_eq rfl (by decide) c_44
                  refine lv_iconst (v := 1) hx hb dX1_reckon_115 (by decide +kernel) ?_
                  refine lv_goto (tgt := 120) hx hb dX1_reckon_116 (by decide) ?_
                  refine xc_core (wr := [(h0, .inr (1, [.ref h2, .ref h3, .int x4, .int x5, .int x6])), (h2, .inl (cI, 272, .inl f7)), (h3, .inl (cI, 30, .inl f_6)), (h1, .inl (cI, 7, .inl f9))]) (k := 0) (n := 0) (xc_runS (As := [.int 1]) (rest := [.int v_41, .ref h3]) hx hb hml hown hts hG hE hP hD hS hA [] (by decide) rfl (sX1_bit_1 l D cB cI cJ cZ aK aV 1) kw900 kw898 kw899 kw115 (show XD yX1_bit 1 from by decide +kernel) (by decide) hl.1 rfl (Nat.le_of_ble_eq_true rfl) dX1_reckon_120 (by decide)) hP hD hS hA [] [0, 1, 2, 3] rfl rfl (by decide) (by decide) (Nat.le_of_ble_eq_true rfl) (Nat.le_of_ble_eq_true rfl) (fun r w1 H locs hpost hP hD hS => ?_)
                  obtain ⟨v_50, g_51, g_52, rfl, rfl⟩ := hpost
                  have hP : va_P D vwCl [(h0, .inr (1, [.ref h2, .ref h3, .int x4, .int x5, .int x6])), (h2, .inl (cI, 272, .inl f7)), (h3, .inl (cI, 30, .inl f_6)), (h1, .inl (cI, 7, .inl f9))] H := hP
                  have hD : va_D A [(h0, .inr (1, [.ref h2, .ref h3, .int x4, .int x5, .int x6])), (h2, .inl (cI, 272, .inl f7)), (h3, .inl (cI, 30, .inl f_6)), (h1, .inl (cI, 7, .inl f9))] := hD
                  refine xa_istU hx hb hG hP hD hS 2 rfl (vp_in_iff.mpr ⟨by omega, by omega⟩) dX1_reckon_123 (fun f_53 H locs hP hD hS => ?_)
                  have hP : va_P D vwCl [(h0, .inr (1, [.ref h2, .ref h3, .int x4, .int x5, .int x6])), (h2, .inl (cI, 272, .inl f7)), (h3, .inl (cI, 30, .inl f_53)), (h1, .inl (cI, 7, .inl f9))] H := hP
                  have hD : va_D A [(h0, .inr (1, [.ref h2, .ref h3, .int x4, .int x5, .int x6])), (h2, .inl (cI, 272, .inl f7)), (h3, .inl (cI, 30, .inl f_53)), (h1, .inl (cI, 7, .inl f9))] := hD
                  refine lv_goto (tgt := 162) hx hb dX1_reckon_124 (by decide) ?_
                  obtain ⟨v_54, ev_54⟩ : ∃ y : Int32, y = x_5 + 1 := ⟨_, rfl⟩
                  have gv_54 : v_54.toInt = x_5.toInt + 1 := by
                    have zy : (1 : Int32).toInt = 1 := by decide
                    rw [ev_54, i32_add (by rw [zy]; omega) (by rw [zy]; omega), zy]
                  refine lv_iinc (v := v_54) (lv' := [(3, .int v_54), (4, .int v_17), (2, .int x_4), (0, .ref h0), (1, .ref h1)]) hx hb dX1_reckon_162 hl (k := 1) rfl (by rw [ev_54]; rfl) (by decide) rfl (fun ls hl => ?_)
                  refine lv_goto (tgt := 4) hx hb dX1_reckon_165 (by decide) ?_
                  exact ihlp_7  x_4 v_54 f_53 _ _ _ (by omega) (by omega) (by omega) (by omega) (by omega) (hP.sub (ws' := [(h0, .inr (1, [.ref h2, .ref h3, .int x4, .int x5, .int x6])), (h2, .inl (cI, 272, .inl f7)), (h3, .inl (cI, 30, .inl f_53)), (h1, .inl (cI, 7, .inl f9))]) [0, 1, 2, 3] rfl) (hD.sub (ws' := [(h0, .inr (1, [.ref h2, .ref h3, .int x4, .int x5, .int x6])), (h2, .inl (cI, 272, .inl f7)), (h3, .inl (cI, 30, .inl f_53)), (h1, .inl (cI, 7, .inl f9))]) [0, 1, 2, 3] (by decide) rfl) hS (lv_sub hl [0, 2, 3, 4] rfl)
          · have fc_26 : (100 : Int) ≤ v_17.toInt := i_nlt rfl (by decide) c_26
            refine lv_iload_n hx hb dX1_reckon_43 rfl (lv_at hl 2 rfl) ?_
            refine lv_aload_n hx hb dX1_reckon_44 rfl (lv_at hl 3 rfl) ?_
            refine va_get (D := D) (ci := 1) (v := .ref h3) (C := RX1) (T := TX1) (N := 5) hx hb hts inX1 hown hG.1 hP 0 rfl rfl 1 (by decide) (hts _ kw169) (fun _ h9 => h9) rfl dX1_reckon_45 ?_
            refine xa_alen (v := 30) hx hb hG hP 2 1 rfl rfl rfl dX1_reckon_48 ?_
            refine lv_icmp_ge (tgt := 162) hx hb dX1_reckon_49 (by decide) (fun c_55 => ?_) (fun c_55 => ?_)
            · have fc_55 : (30 : Int) ≤ x_4.toInt := i_le (by decide) rfl c_55
              obtain ⟨v_56, ev_56⟩ : ∃ y : Int32, y = x_5 + 1 := ⟨_, rfl⟩
              have gv_56 : v_56.toInt = x_5.toInt + 1 := by
                have zy : (1 : Int32).toInt = 1 := by decide
                rw [ev_56, i32_add (by rw [zy]; omega) (by rw [zy]; omega), zy]
              refine lv_iinc (v := v_56) (lv' := [(3, .int v_56), (4, .int v_17), (2, .int x_4), (0, .ref h0), (1, .ref h1)]) hx hb dX1_reckon_162 hl (k := 1) rfl (by rw [ev_56]; rfl) (by decide) rfl (fun ls hl => ?_)
              refine lv_goto (tgt := 4) hx hb dX1_reckon_165 (by decide) ?_
              exact ihlp_7  x_4 v_56 f_6 _ _ _ (by omega) (by omega) (by omega) (by omega) (by omega) (hP.sub (ws' := [(h0, .inr (1, [.ref h2, .ref h3, .int x4, .int x5, .int x6])), (h2, .inl (cI, 272, .inl f7)), (h3, .inl (cI, 30, .inl f_6)), (h1, .inl (cI, 7, .inl f9))]) [0, 1, 2, 3] rfl) (hD.sub (ws' := [(h0, .inr (1, [.ref h2, .ref h3, .int x4, .int x5, .int x6])), (h2, .inl (cI, 272, .inl f7)), (h3, .inl (cI, 30, .inl f_6)), (h1, .inl (cI, 7, .inl f9))]) [0, 1, 2, 3] (by decide) rfl) hS (lv_sub hl [0, 2, 3, 4] rfl)
            · have fc_55 : x_4.toInt < (30 : Int) := i_nle (by decide) rfl c_55
              refine lv_aload_n hx hb dX1_reckon_52 rfl (lv_at hl 3 rfl) ?_
              refine va_get (D := D) (ci := 1) (v := .ref h3) (C := RX1) (T := TX1) (N := 5) hx hb hts inX1 hown hG.1 hP 0 rfl rfl 1 (by decide) (hts _ kw169) (fun _ h9 => h9) rfl dX1_reckon_53 ?_
              refine lv_iload_n hx hb dX1_reckon_56 rfl (lv_at hl 2 rfl) ?_
              refine lv_iload hx hb dX1_reckon_57 (lv_at hl 0 rfl) ?_
              refine lv_bipush (v := 100) hx hb dX1_reckon_59 (by decide +kernel) ?_
              refine lv_icmp_lt (tgt := 72) hx hb dX1_reckon_61 (by decide) (fun c_57 => by exfalso; have fc_57 : v_17.toInt < (100 : Int) := i_lt rfl (by decide) c_57; omega) (fun c_57 => ?_)
              have fc_57 : (100 : Int) ≤ v_17.toInt := i_nlt rfl (by decide) c_57
              refine lv_iload hx hb dX1_reckon_64 (lv_at hl 0 rfl) ?_
              refine lv_bipush (v := 100) hx hb dX1_reckon_66 (by decide +kernel) ?_
              refine lv_isub hx hb dX1_reckon_68 ?_
              refine xt_any (fun v_58 => ?_)
              refine lv_goto (tgt := 78) hx hb dX1_reckon_69 (by decide) ?_
              refine xa_istU hx hb hG hP hD hS 2 rfl (vp_in_iff.mpr ⟨by omega, by omega⟩) dX1_reckon_78 (fun f_59 H locs hP hD hS => ?_)
              have hP : va_P D vwCl [(h0, .inr (1, [.ref h2, .ref h3, .int x4, .int x5, .int x6])), (h2, .inl (cI, 272, .inl f7)), (h3, .inl (cI, 30, .inl f_59)), (h1, .inl (cI, 7, .inl f9))] H := hP
              have hD : va_D A [(h0, .inr (1, [.ref h2, .ref h3, .int x4, .int x5, .int x6])), (h2, .inl (cI, 272, .inl f7)), (h3, .inl (cI, 30, .inl f_59)), (h1, .inl (cI, 7, .inl f9))] := hD
              obtain ⟨v_60, ev_60⟩ : ∃ y : Int32, y = x_4 + 1 := ⟨_, rfl⟩
              have gv_60 : v_60.toInt = x_4.toInt + 1 := by
                have zy : (1 : Int32).toInt = 1 := by decide
                rw [ev_60, i32_add (by rw [zy]; omega) (by rw [zy]; omega), zy]
              refine lv_iinc (v := v_60) (lv' := [(2, .int v_60), (4, .int v_17), (3, .int x_5), (0, .ref h0), (1, .ref h1)]) hx hb dX1_reckon_79 hl (k := 2) rfl (by rw [ev_60]; rfl) (by decide) rfl (fun ls hl => ?_)
              refine lv_goto (tgt := 162) hx hb dX1_reckon_82 (by decide) ?_
              obtain ⟨v_61, ev_61⟩ : ∃ y : Int32, y = x_5 + 1 := ⟨_, rfl⟩
              have gv_61 : v_61.toInt = x_5.toInt + 1 := by
                have zy : (1 : Int32).toInt = 1 := by decide
                rw [ev_61, i32_add (by rw [zy]; omega) (by rw [zy]; omega), zy]
              refine lv_iinc (v := v_61) (lv' := [(3, .int v_61), (2, .int v_60), (4, .int v_17), (0, .ref h0), (1, .ref h1)]) hx hb dX1_reckon_162 hl (k := 2) rfl (by rw [ev_61]; rfl) (by decide) rfl (fun ls hl => ?_)
              refine lv_goto (tgt := 4) hx hb dX1_reckon_165 (by decide) ?_
              exact ihlp_7  v_60 v_61 f_59 _ _ _ (by omega) (by omega) (by omega) (by omega) (by omega) (hP.sub (ws' := [(h0, .inr (1, [.ref h2, .ref h3, .int x4, .int x5, .int x6])), (h2, .inl (cI, 272, .inl f7)), (h3, .inl (cI, 30, .inl f_59)), (h1, .inl (cI, 7, .inl f9))]) [0, 1, 2, 3] rfl) (hD.sub (ws' := [(h0, .inr (1, [.ref h2, .ref h3, .int x4, .int x5, .int x6])), (h2, .inl (cI, 272, .inl f7)), (h3, .inl (cI, 30, .inl f_59)), (h1, .inl (cI, 7, .inl f9))]) [0, 1, 2, 3] (by decide) rfl) hS (lv_sub hl [0, 1, 3, 4] rfl)
  exact lp_7 274 0 0 f8 _ _ _ (by have zc0 : (0 : Int32).toInt = 0 := (by decide); omega) (by have zc0 : (0 : Int32).toInt = 0 := (by decide); omega) (by have zc0 : (0 : Int32).toInt = 0 := (by decide); omega) (by have zc0 : (0 : Int32).toInt = 0 := (by decide); omega) (by have zc0 : (0 : Int32).toInt = 0 := (by decide); omega) (hP.sub (ws' := [(h0, .inr (1, [.ref h2, .ref h3, .int x4, .int x5, .int x6])), (h2, .inl (cI, 272, .inl f7)), (h3, .inl (cI, 30, .inl f8)), (h1, .inl (cI, 7, .inl f9))]) [0, 1, 2, 3] rfl) (hD.sub (ws' := [(h0, .inr (1, [.ref h2, .ref h3, .int x4, .int x5, .int x6])), (h2, .inl (cI, 272, .inl f7)), (h3, .inl (cI, 30, .inl f8)), (h1, .inl (cI, 7, .inl f9))]) [0, 1, 2, 3] (by decide) rfl) hS (lv_sub hl [0, 1, 2, 3] rfl)
theorem dX8_forget_0 : decode cX8_forget 0 = .ok (.aload_n 0, 1) := by decide +kernel
theorem dX8_forget_1 : decode cX8_forget 1 = .ok (.iconst 0, 1) := by decide +kernel
theorem kw197 : (.fieldLink RX8 49 "SpiceSwaps$Told" "courts" "I" : Cond) ∈ gT := gT_of 197 (by decide +kernel) (by decide +kernel)
theorem dX8_forget_2 : decode cX8_forget 2 = .ok (.putfield 49, 3) := by decide +kernel
theorem dX8_forget_5 : decode cX8_forget 5 = .ok (.aload_n 0, 1) := by decide +kernel
theorem dX8_forget_6 : decode cX8_forget 6 = .ok (.iconst 0, 1) := by decide +kernel
theorem kw202 : (.fieldLink RX8 53 "SpiceSwaps$Told" "crops" "I" : Cond) ∈ gT := gT_of 202 (by decide +kernel) (by decide +kernel)
theorem dX8_forget_7 : decode cX8_forget 7 = .ok (.putfield 53, 3) := by decide +kernel
theorem dX8_forget_10 : decode cX8_forget 10 = .ok (.aload_n 0, 1) := by decide +kernel
theorem dX8_forget_11 : decode cX8_forget 11 = .ok (.iconst 0, 1) := by decide +kernel
theorem kw206 : (.fieldLink RX8 56 "SpiceSwaps$Told" "places" "I" : Cond) ∈ gT := gT_of 206 (by decide +kernel) (by decide +kernel)
theorem dX8_forget_12 : decode cX8_forget 12 = .ok (.putfield 56, 3) := by decide +kernel
theorem dX8_forget_15 : decode cX8_forget 15 = .ok (.iconst 0, 1) := by decide +kernel
theorem dX8_forget_16 : decode cX8_forget 16 = .ok (.istore_n 1, 1) := by decide +kernel
theorem dX8_forget_17 : decode cX8_forget 17 = .ok (.iload_n 1, 1) := by decide +kernel
theorem dX8_forget_18 : decode cX8_forget 18 = .ok (.aload_n 0, 1) := by decide +kernel
theorem kw237 : (.fieldLink RX8 33 "SpiceSwaps$Told" "beliefOf" "[I" : Cond) ∈ gT := gT_of 237 (by decide +kernel) (by decide +kernel)
theorem dX8_forget_19 : decode cX8_forget 19 = .ok (.getfield 33, 3) := by decide +kernel
theorem dX8_forget_22 : decode cX8_forget 22 = .ok (.arraylength, 1) := by decide +kernel
theorem dX8_forget_23 : decode cX8_forget 23 = .ok (.if_icmp .ge 16, 3) := by decide +kernel
theorem dX8_forget_39 : decode cX8_forget 39 = .ok (.aload_n 0, 1) := by decide +kernel
theorem kw239 : (.fieldLink RX8 39 "SpiceSwaps$Told" "worthBy" "LSpiceSwaps$Formula;" : Cond) ∈ gT := gT_of 239 (by decide +kernel) (by decide +kernel)
theorem dX8_forget_40 : decode cX8_forget 40 = .ok (.getfield 39, 3) := by decide +kernel
theorem kw193 : (.methodLink RX8 59 yX1_forget : Cond) ∈ gT := gT_of 193 (by decide +kernel) (by decide +kernel)
theorem kw196 : (.code yX1_forget cX1_forget 1 none : Cond) ∈ gT := gT_of 196 (by decide +kernel) (by decide +kernel)
theorem kw194 : (.instanceMethod yX1_forget : Cond) ∈ gT := gT_of 194 (by decide +kernel) (by decide +kernel)
theorem kw195 : (.selects RX1 yX1_forget yX1_forget : Cond) ∈ gT := gT_of 195 (by decide +kernel) (by decide +kernel)
theorem dX8_forget_43 : decode cX8_forget 43 = .ok (.invokevirtual 59, 3) := by decide +kernel
theorem dX8_forget_46 : decode cX8_forget 46 = .ok (.aload_n 0, 1) := by decide +kernel
theorem kw242 : (.fieldLink RX8 43 "SpiceSwaps$Told" "growBy" "LSpiceSwaps$Formula;" : Cond) ∈ gT := gT_of 242 (by decide +kernel) (by decide +kernel)
theorem dX8_forget_47 : decode cX8_forget 47 = .ok (.getfield 43, 3) := by decide +kernel
theorem dX8_forget_50 : decode cX8_forget 50 = .ok (.invokevirtual 59, 3) := by decide +kernel
theorem dX8_forget_53 : decode cX8_forget 53 = .ok (.aload_n 0, 1) := by decide +kernel
theorem dX8_forget_54 : decode cX8_forget 54 = .ok (.iconst 0, 1) := by decide +kernel
theorem kw246 : (.fieldLink RX8 60 "SpiceSwaps$Told" "storm" "I" : Cond) ∈ gT := gT_of 246 (by decide +kernel) (by decide +kernel)
theorem dX8_forget_55 : decode cX8_forget 55 = .ok (.putfield 60, 3) := by decide +kernel
theorem dX8_forget_58 : decode cX8_forget 58 = .ok (.aload_n 0, 1) := by decide +kernel
theorem dX8_forget_59 : decode cX8_forget 59 = .ok (.iconst 1, 1) := by decide +kernel
theorem kw250 : (.fieldLink RX8 63 "SpiceSwaps$Told" "stormLoss" "I" : Cond) ∈ gT := gT_of 250 (by decide +kernel) (by decide +kernel)
theorem dX8_forget_60 : decode cX8_forget 60 = .ok (.putfield 63, 3) := by decide +kernel
theorem dX8_forget_63 : decode cX8_forget 63 = .ok (.aload_n 0, 1) := by decide +kernel
theorem dX8_forget_64 : decode cX8_forget 64 = .ok (.iconst 0, 1) := by decide +kernel
theorem kw253 : (.fieldLink RX8 66 "SpiceSwaps$Told" "stormIsTold" "Z" : Cond) ∈ gT := gT_of 253 (by decide +kernel) (by decide +kernel)
theorem dX8_forget_65 : decode cX8_forget 65 = .ok (.putfield 66, 3) := by decide +kernel
theorem dX8_forget_68 : decode cX8_forget 68 = .ok (.aload_n 0, 1) := by decide +kernel
theorem dX8_forget_69 : decode cX8_forget 69 = .ok (.iconst 0, 1) := by decide +kernel
theorem kw255 : (.fieldLink RX8 70 "SpiceSwaps$Told" "draw" "I" : Cond) ∈ gT := gT_of 255 (by decide +kernel) (by decide +kernel)
theorem dX8_forget_70 : decode cX8_forget 70 = .ok (.putfield 70, 3) := by decide +kernel
theorem dX8_forget_73 : decode cX8_forget 73 = .ok (.aload_n 0, 1) := by decide +kernel
theorem dX8_forget_74 : decode cX8_forget 74 = .ok (.iconst 0, 1) := by decide +kernel
theorem kw258 : (.fieldLink RX8 73 "SpiceSwaps$Told" "drawIsTold" "Z" : Cond) ∈ gT := gT_of 258 (by decide +kernel) (by decide +kernel)
theorem dX8_forget_75 : decode cX8_forget 75 = .ok (.putfield 73, 3) := by decide +kernel
theorem dX8_forget_78 : decode cX8_forget 78 = .ok (.return_, 1) := by decide +kernel
theorem dX8_forget_26 : decode cX8_forget 26 = .ok (.aload_n 0, 1) := by decide +kernel
theorem dX8_forget_27 : decode cX8_forget 27 = .ok (.getfield 33, 3) := by decide +kernel
theorem dX8_forget_30 : decode cX8_forget 30 = .ok (.iload_n 1, 1) := by decide +kernel
theorem dX8_forget_31 : decode cX8_forget 31 = .ok (.iconst (-1), 1) := by decide +kernel
theorem dX8_forget_32 : decode cX8_forget 32 = .ok (.iastore, 1) := by decide +kernel
theorem dX8_forget_33 : decode cX8_forget 33 = .ok (.iinc 1 1, 3) := by decide +kernel
theorem dX8_forget_36 : decode cX8_forget 36 = .ok (.goto (-19), 3) := by decide +kernel
set_option maxHeartbeats 4000000 in
set_option maxRecDepth 100000 in
theorem sX8_forget_1 (l : Launch) (D : va_G) (cB cI cJ cZ : ClassId) (aK aV : Nat → Nat) (h0 : Nat) (x1 : Int32) (x2 : Int32) (x3 : Int32) (h4 : Nat) (h5 : Nat) (h6 : Nat) (h7 : Nat) (h8 : Nat) (h9 : Nat) (h10 : Nat) (h11 : Nat) (h12 : Nat) (h13 : Nat) (x14 : Int32) (x15 : Int32) (x16 : Int32) (x17 : Int32) (x18 : Int32) (f19 : Nat → Int32) (h20 : Nat) (h21 : Nat) (x22 : Int32) (x23 : Int32) (x24 : Int32) (h25 : Nat) (h26 : Nat) (x27 : Int32) (x28 : Int32) (x29 : Int32) (gh0 : 0 ≤ x1.toInt) (gh1 : 0 ≤ -x1.toInt + 4) (gh2 : 0 ≤ x2.toInt) (gh3 : 0 ≤ -x2.toInt + 3) (gh4 : 0 ≤ x3.toInt) (gh5 : 0 ≤ -x3.toInt + 7) (gh6 : 0 ≤ x17.toInt + 1) (gh7 : 0 ≤ -x17.toInt + 999) (gh8 : 0 ≤ x22.toInt) (gh9 : 0 ≤ -x22.toInt + 272) (gh10 : 0 ≤ x27.toInt) (gh11 : 0 ≤ -x27.toInt + 272) : MX l yX8_forget cX8_forget 2 none (rmL 2 0 0) D cB cI cJ cZ aK aV [.ref h0] [(h0, .inr (8, [.int x1, .int x2, .int x3, .ref h4, .ref h5, .ref h6, .ref h7, .ref h8, .ref h9, .ref h10, .ref h11, .ref h12, .ref h13, .int x14, .int x15, .int x16, .int x17, .int x18])), (h11, .inl (cI, 28, .inl f19)), (h12, .inr (1, [.ref h20, .ref h21, .int x22, .int x23, .int x24])), (h13, .inr (1, [.ref h25, .ref h26, .int x27, .int x28, .int x29]))] (fun r w1 => ∃ z1 : Nat → Int32, r = none ∧ w1 = [(h0, .inr (8, [.int 0, .int 0, .int 0, .ref h4, .ref h5, .ref h6, .ref h7, .ref h8, .ref h9, .ref h10, .ref h11, .ref h12, .ref h13, .int 0, .int 1, .int 0, .int 0, .int 0])), (h11, .inl (cI, 28, .inl z1)), (h12, .inr (1, [.ref h20, .ref h21, .int 0, .int 0, .int 0])), (h13, .inr (1, [.ref h25, .ref h26, .int 0, .int 0, .int 0]))]) := by
  refine MX.intro (by decide) (Nat.le_of_ble_eq_true rfl) ?_
  intro p e s m below meth c A ls hx hb hr hml hown hlocks hnm hts hG hE hA hS hP hD hl hAe
  have hl : lv_has ls 2 [(0, .ref h0)] := hl
  have hown : s.vm.findClass RX8 = some m.cls := hown
  refine lv_aload_n hx hb dX8_forget_0 rfl (lv_at hl 0 rfl) ?_
  refine lv_iconst (v := 0) hx hb dX8_forget_1 (by decide +kernel) ?_
  refine va_put (D := D) (ci := 8) (v := .int 0) (ty := .int) (C := RX8) (T := TX8) (N := 18) hx hb hts inX8 tyX8 tyX8_ok nmX8 hown hG.1 hP hD hS 0 rfl rfl 0 (by decide) (hts _ kw197) (fun _ h9 => h9) rfl (by decide +kernel) rfl rfl (Nat.le_of_ble_eq_true rfl) dX8_forget_2 (fun H locs hP hD hS => ?_)
  have hP : va_P D vwCl [(h0, .inr (8, [.int 0, .int x2, .int x3, .ref h4, .ref h5, .ref h6, .ref h7, .ref h8, .ref h9, .ref h10, .ref h11, .ref h12, .ref h13, .int x14, .int x15, .int x16, .int x17, .int x18])), (h11, .inl (cI, 28, .inl f19)), (h12, .inr (1, [.ref h20, .ref h21, .int x22, .int x23, .int x24])), (h13, .inr (1, [.ref h25, .ref h26, .int x27, .int x28, .int x29]))] H := hP
  have hD : va_D A [(h0, .inr (8, [.int 0, .int x2, .int x3, .ref h4, .ref h5, .ref h6, .ref h7, .ref h8, .ref h9, .ref h10, .ref h11, .ref h12, .ref h13, .int x14, .int x15, .int x16, .int x17, .int x18])), (h11, .inl (cI, 28, .inl f19)), (h12, .inr (1, [.ref h20, .ref h21, .int x22, .int x23, .int x24])), (h13, .inr (1, [.ref h25, .ref h26, .int x27, .int x28, .int x29]))] := hD
  refine lv_aload_n hx hb dX8_forget_5 rfl (lv_at hl 0 rfl) ?_
  refine lv_iconst (v := 0) hx hb dX8_forget_6 (by decide +kernel) ?_
  refine va_put (D := D) (ci := 8) (v := .int 0) (ty := .int) (C := RX8) (T := TX8) (N := 18) hx hb hts inX8 tyX8 tyX8_ok nmX8 hown hG.1 hP hD hS 0 rfl rfl 1 (by decide) (hts _ kw202) (fun _ h9 => h9) rfl (by decide +kernel) rfl rfl (Nat.le_of_ble_eq_true rfl) dX8_forget_7 (fun H locs hP hD hS => ?_)
  have hP : va_P D vwCl [(h0, .inr (8, [.int 0, .int 0, .int x3, .ref h4, .ref h5, .ref h6, .ref h7, .ref h8, .ref h9, .ref h10, .ref h11, .ref h12, .ref h13, .int x14, .int x15, .int x16, .int x17, .int x18])), (h11, .inl (cI, 28, .inl f19)), (h12, .inr (1, [.ref h20, .ref h21, .int x22, .int x23, .int x24])), (h13, .inr (1, [.ref h25, .ref h26, .int x27, .int x28, .int x29]))] H := hP
  have hD : va_D A [(h0, .inr (8, [.int 0, .int 0, .int x3, .ref h4, .ref h5, .ref h6, .ref h7, .ref h8, .ref h9, .ref h10, .ref h11, .ref h12, .ref h13, .int x14, .int x15, .int x16, .int x17, .int x18])), (h11, .inl (cI, 28, .inl f19)), (h12, .inr (1, [.ref h20, .ref h21, .int x22, .int x23, .int x24])), (h13, .inr (1, [.ref h25, .ref h26, .int x27, .int x28, .int x29]))] := hD
  refine lv_aload_n hx hb dX8_forget_10 rfl (lv_at hl 0 rfl) ?_
  refine lv_iconst (v := 0) hx hb dX8_forget_11 (by decide +kernel) ?_
  refine va_put (D := D) (ci := 8) (v := .int 0) (ty := .int) (C := RX8) (T := TX8) (N := 18) hx hb hts inX8 tyX8 tyX8_ok nmX8 hown hG.1 hP hD hS 0 rfl rfl 2 (by decide) (hts _ kw206) (fun _ h9 => h9) rfl (by decide +kernel) rfl rfl (Nat.le_of_ble_eq_true rfl) dX8_forget_12 (fun H locs hP hD hS => ?_)
  have hP : va_P D vwCl [(h0, .inr (8, [.int 0, .int 0, .int 0, .ref h4, .ref h5, .ref h6, .ref h7, .ref h8, .ref h9, .ref h10, .ref h11, .ref h12, .ref h13, .int x14, .int x15, .int x16, .int x17, .int x18])), (h11, .inl (cI, 28, .inl f19)), (h12, .inr (1, [.ref h20, .ref h21, .int x22, .int x23, .int x24])), (h13, .inr (1, [.ref h25, .ref h26, .int x27, .int x28, .int x29]))] H := hP
  have hD : va_D A [(h0, .inr (8, [.int 0, .int 0, .int 0, .ref h4, .ref h5, .ref h6, .ref h7, .ref h8, .ref h9, .ref h10, .ref h11, .ref h12, .ref h13, .int x14, .int x15, .int x16, .int x17, .int x18])), (h11, .inl (cI, 28, .inl f19)), (h12, .inr (1, [.ref h20, .ref h21, .int x22, .int x23, .int x24])), (h13, .inr (1, [.ref h25, .ref h26, .int x27, .int x28, .int x29]))] := hD
  refine lv_iconst (v := 0) hx hb dX8_forget_15 (by decide +kernel) ?_
  refine lv_istore_n (lv' := [(1, .int 0), (0, .ref h0)]) hx hb dX8_forget_16 rfl hl (by decide) rfl (fun ls hl => ?_)
  have lp_5 : ∀ (n : Nat) (x_3 : Int32) (f_4 : Nat → Int32) (H : Heap) (locs : List Loc) (ls : Array Slot), 0 ≤ x_3.toInt → 0 ≤ -x_3.toInt + 28 → -x_3.toInt + 28 < n → va_P D vwCl [(h0, .inr (8, [.int 0, .int 0, .int 0, .ref h4, .ref h5, .ref h6, .ref h7, .ref h8, .ref h9, .ref h10, .ref h11, .ref h12, .ref h13, .int x14, .int x15, .int x16, .int x17, .int x18])), (h11, .inl (cI, 28, .inl f_4)), (h12, .inr (1, [.ref h20, .ref h21, .int x22, .int x23, .int x24])), (h13, .inr (1, [.ref h25, .ref h26, .int x27, .int x28, .int x29]))] H → va_D A [(h0, .inr (8, [.int 0, .int 0, .int 0, .ref h4, .ref h5, .ref h6, .ref h7, .ref h8, .ref h9, .ref h10, .ref h11, .ref h12, .ref h13, .int x14, .int x15, .int x16, .int x17, .int x18])), (h11, .inl (cI, 28, .inl f_4)), (h12, .inr (1, [.ref h20, .ref h21, .int x22, .int x23, .int x24])), (h13, .inr (1, [.ref h25, .ref h26, .int x27, .int x28, .int x29]))] → va_S A s.heap H locs → lv_has ls 2 [(1, .int x_3), (0, .ref h0)] → W p l e (rmL 2 0 0) s m [.ref h0].toArray below meth c H locs 0 0 (ZX D below [.ref h0] s (rmL 2 0 0) [(h0, .inr (8, [.int x1, .int x2, .int x3, .ref h4, .ref h5, .ref h6, .ref h7, .ref h8, .ref h9, .ref h10, .ref h11, .ref h12, .ref h13, .int x14, .int x15, .int x16, .int x17, .int x18])), (h11, .inl (cI, 28, .inl f19)), (h12, .inr (1, [.ref h20, .ref h21, .int x22, .int x23, .int x24])), (h13, .inr (1, [.ref h25, .ref h26, .int x27, .int x28, .int x29]))] (fun r w1 => ∃ z1 : Nat → Int32, r = none ∧ w1 = [(h0, .inr (8, [.int 0, .int 0, .int 0, .ref h4, .ref h5, .ref h6, .ref h7, .ref h8, .ref h9, .ref h10, .ref h11, .ref h12, .ref h13, .int 0, .int 1, .int 0, .int 0, .int 0])), (h11, .inl (cI, 28, .inl z1)), (h12, .inr (1, [.ref h20, .ref h21, .int 0, .int 0, .int 0])), (h13, .inr (1, [.ref h25, .ref h26, .int 0, .int 0, .int 0]))])) (F0 m 17 ls []) := by
    intro n
    induction n with
    | zero => intro x_3 f_4 H locs ls g_6 g_7 g_8; omega
    | succ n ihlp_5 =>
      intro x_3 f_4 H locs ls g_6 g_7 g_8 hP hD hS hl
      refine lv_iload_n hx hb dX8_forget_17 rfl (lv_at hl 0 rfl) ?_
      refine lv_aload_n hx hb dX8_forget_18 rfl (lv_at hl 1 rfl) ?_
      refine va_get (D := D) (ci := 8) (v := .ref h11) (C := RX8) (T := TX8) (N := 18) hx hb hts inX8 hown hG.1 hP 0 rfl rfl 10 (by decide) (hts _ kw237) (fun _ h9 => h9) rfl dX8_forget_19 ?_
      refine xa_alen (v := 28) hx hb hG hP 1 1 rfl rfl rfl dX8_forget_22 ?_
      refine lv_icmp_ge (tgt := 39) hx hb dX8_forget_23 (by decide) (fun c_9 => ?_) (fun c_9 => ?_)
      · have fc_9 : (28 : Int) ≤ x_3.toInt := i_le (by decide) rfl c_9
        refine lv_aload_n hx hb dX8_forget_39 rfl (lv_at hl 1 rfl) ?_
        refine va_get (D := D) (ci := 8) (v := .ref h12) (C := RX8) (T := TX8) (N := 18) hx hb hts inX8 hown hG.1 hP 0 rfl rfl 11 (by decide) (hts _ kw239) (fun _ h9 => h9) rfl dX8_forget_40 ?_
        refine xc_core (wr := [(h0, .inr (8, [.int 0, .int 0, .int 0, .ref h4, .ref h5, .ref h6, .ref h7, .ref h8, .ref h9, .ref h10, .ref h11, .ref h12, .ref h13, .int x14, .int x15, .int x16, .int x17, .int x18])), (h11, .inl (cI, 28, .inl f_4)), (h13, .inr (1, [.ref h25, .ref h26, .int x27, .int x28, .int x29]))]) (k := 0) (n := 0) (xc_runV (As := []) (rest := []) hx hb hml hown hts hG hE hP hD hS hA [2] (by decide) rfl (sX1_forget_1 l D cB cI cJ cZ aK aV h12 h20 h21 x22 x23 x24 (by omega) (by omega)) kw196 kw193 kw194 kw195 kw115 (show XD yX1_forget 0 from by decide +kernel) (by decide) rfl rfl 2 rfl hl.1 rfl (Nat.le_of_ble_eq_true rfl) dX8_forget_43 (by decide)) hP hD hS hA [2] [0, 1, 3] rfl rfl (by decide) (by decide) (Nat.le_of_ble_eq_true rfl) (Nat.le_of_ble_eq_true rfl) (fun r w1 H locs hpost hP hD hS => ?_)
        obtain ⟨rfl, rfl⟩ := hpost
        have hP : va_P D vwCl [(h0, .inr (8, [.int 0, .int 0, .int 0, .ref h4, .ref h5, .ref h6, .ref h7, .ref h8, .ref h9, .ref h10, .ref h11, .ref h12, .ref h13, .int x14, .int x15, .int x16, .int x17, .int x18])), (h11, .inl (cI, 28, .inl f_4)), (h13, .inr (1, [.ref h25, .ref h26, .int x27, .int x28, .int x29])), (h12, .inr (1, [.ref h20, .ref h21, .int 0, .int 0, .int 0]))] H := hP
        have hD : va_D A [(h0, .inr (8, [.int 0, .int 0, .int 0, .ref h4, .ref h5, .ref h6, .ref h7, .ref h8, .ref h9, .ref h10, .ref h11, .ref h12, .ref h13, .int x14, .int x15, .int x16, .int x17, .int x18])), (h11, .inl (cI, 28, .inl f_4)), (h13, .inr (1, [.ref h25, .ref h26, .int x27, .int x28, .int x29])), (h12, .inr (1, [.ref h20, .ref h21, .int 0, .int 0, .int 0]))] := hD
        refine lv_aload_n hx hb dX8_forget_46 rfl (lv_at hl 1 rfl) ?_
        refine va_get (D := D) (ci := 8) (v := .ref h13) (C := RX8) (T := TX8) (N := 18) hx hb hts inX8 hown hG.1 hP 0 rfl rfl 12 (by decide) (hts _ kw242) (fun _ h9 => h9) rfl dX8_forget_47 ?_
        refine xc_core (wr := [(h0, .inr (8, [.int 0, .int 0, .int 0, .ref h4, .ref h5, .ref h6, .ref h7, .ref h8, .ref h9, .ref h10, .ref h11, .ref h12, .ref h13, .int x14, .int x15, .int x16, .int x17, .int x18])), (h11, .inl (cI, 28, .inl f_4)), (h12, .inr (1, [.ref h20, .ref h21, .int 0, .int 0, .int 0]))]) (k := 0) (n := 0) (xc_runV (As := []) (rest := []) hx hb hml hown hts hG hE hP hD hS hA [2] (by decide) rfl (sX1_forget_1 l D cB cI cJ cZ aK aV h13 h25 h26 x27 x28 x29 (by omega) (by omega)) kw196 kw193 kw194 kw195 kw115 (show XD yX1_forget 0 from by decide +kernel) (by decide) rfl rfl 2 rfl hl.1 rfl (Nat.le_of_ble_eq_true rfl) dX8_forget_50 (by decide)) hP hD hS hA [2] [0, 1, 3] rfl rfl (by decide) (by decide) (Nat.le_of_ble_eq_true rfl) (Nat.le_of_ble_eq_true rfl) (fun r w1 H locs hpost hP hD hS => ?_)
        obtain ⟨rfl, rfl⟩ := hpost
        have hP : va_P D vwCl [(h0, .inr (8, [.int 0, .int 0, .int 0, .ref h4, .ref h5, .ref h6, .ref h7, .ref h8, .ref h9, .ref h10, .ref h11, .ref h12, .ref h13, .int x14, .int x15, .int x16, .int x17, .int x18])), (h11, .inl (cI, 28, .inl f_4)), (h12, .inr (1, [.ref h20, .ref h21, .int 0, .int 0, .int 0])), (h13, .inr (1, [.ref h25, .ref h26, .int 0, .int 0, .int 0]))] H := hP
        have hD : va_D A [(h0, .inr (8, [.int 0, .int 0, .int 0, .ref h4, .ref h5, .ref h6, .ref h7, .ref h8, .ref h9, .ref h10, .ref h11, .ref h12, .ref h13, .int x14, .int x15, .int x16, .int x17, .int x18])), (h11, .inl (cI, 28, .inl f_4)), (h12, .inr (1, [.ref h20, .ref h21, .int 0, .int 0, .int 0])), (h13, .inr (1, [.ref h25, .ref h26, .int 0, .int 0, .int 0]))] := hD
        refine lv_aload_n hx hb dX8_forget_53 rfl (lv_at hl 1 rfl) ?_
        refine lv_iconst (v := 0) hx hb dX8_forget_54 (by decide +kernel) ?_
        refine va_put (D := D) (ci := 8) (v := .int 0) (ty := .int) (C := RX8) (T := TX8) (N := 18) hx hb hts inX8 tyX8 tyX8_ok nmX8 hown hG.1 hP hD hS 0 rfl rfl 13 (by decide) (hts _ kw246) (fun _ h9 => h9) rfl (by decide +kernel) rfl rfl (Nat.le_of_ble_eq_true rfl) dX8_forget_55 (fun H locs hP hD hS => ?_)
        have hP : va_P D vwCl [(h0, .inr (8, [.int 0, .int 0, .int 0, .ref h4, .ref h5, .ref h6, .ref h7, .ref h8, .ref h9, .ref h10, .ref h11, .ref h12, .ref h13, .int 0, .int x15, .int x16, .int x17, .int x18])), (h11, .inl (cI, 28, .inl f_4)), (h12, .inr (1, [.ref h20, .ref h21, .int 0, .int 0, .int 0])), (h13, .inr (1, [.ref h25, .ref h26, .int 0, .int 0, .int 0]))] H := hP
        have hD : va_D A [(h0, .inr (8, [.int 0, .int 0, .int 0, .ref h4, .ref h5, .ref h6, .ref h7, .ref h8, .ref h9, .ref h10, .ref h11, .ref h12, .ref h13, .int 0, .int x15, .int x16, .int x17, .int x18])), (h11, .inl (cI, 28, .inl f_4)), (h12, .inr (1, [.ref h20, .ref h21, .int 0, .int 0, .int 0])), (h13, .inr (1, [.ref h25, .ref h26, .int 0, .int 0, .int 0]))] := hD
        refine lv_aload_n hx hb dX8_forget_58 rfl (lv_at hl 1 rfl) ?_
        refine lv_iconst (v := 1) hx hb dX8_forget_59 (by decide +kernel) ?_
        refine va_put (D := D) (ci := 8) (v := .int 1) (ty := .int) (C := RX8) (T := TX8) (N := 18) hx hb hts inX8 tyX8 tyX8_ok nmX8 hown hG.1 hP hD hS 0 rfl rfl 14 (by decide) (hts _ kw250) (fun _ h9 => h9) rfl (by decide +kernel) rfl rfl (Nat.le_of_ble_eq_true rfl) dX8_forget_60 (fun H locs hP hD hS => ?_)
        have hP : va_P D vwCl [(h0, .inr (8, [.int 0, .int 0, .int 0, .ref h4, .ref h5, .ref h6, .ref h7, .ref h8, .ref h9, .ref h10, .ref h11, .ref h12, .ref h13, .int 0, .int 1, .int x16, .int x17, .int x18])), (h11, .inl (cI, 28, .inl f_4)), (h12, .inr (1, [.ref h20, .ref h21, .int 0, .int 0, .int 0])), (h13, .inr (1, [.ref h25, .ref h26, .int 0, .int 0, .int 0]))] H := hP
        have hD : va_D A [(h0, .inr (8, [.int 0, .int 0, .int 0, .ref h4, .ref h5, .ref h6, .ref h7, .ref h8, .ref h9, .ref h10, .ref h11, .ref h12, .ref h13, .int 0, .int 1, .int x16, .int x17, .int x18])), (h11, .inl (cI, 28, .inl f_4)), (h12, .inr (1, [.ref h20, .ref h21, .int 0, .int 0, .int 0])), (h13, .inr (1, [.ref h25, .ref h26, .int 0, .int 0, .int 0]))] := hD
        refine lv_aload_n hx hb dX8_forget_63 rfl (lv_at hl 1 rfl) ?_
        refine lv_iconst (v := 0) hx hb dX8_forget_64 (by decide +kernel) ?_
        refine va_put (D := D) (ci := 8) (v := .int 0) (ty := .boolean) (C := RX8) (T := TX8) (N := 18) hx hb hts inX8 tyX8 tyX8_ok nmX8 hown hG.1 hP hD hS 0 rfl rfl 15 (by decide) (hts _ kw253) (fun _ h9 => h9) rfl (by decide +kernel) (by decide +kernel) (by decide +kernel) (Nat.le_of_ble_eq_true rfl) dX8_forget_65 (fun H locs hP hD hS => ?_)
        have hP : va_P D vwCl [(h0, .inr (8, [.int 0, .int 0, .int 0, .ref h4, .ref h5, .ref h6, .ref h7, .ref h8, .ref h9, .ref h10, .ref h11, .ref h12, .ref h13, .int 0, .int 1, .int 0, .int x17, .int x18])), (h11, .inl (cI, 28, .inl f_4)), (h12, .inr (1, [.ref h20, .ref h21, .int 0, .int 0, .int 0])), (h13, .inr (1, [.ref h25, .ref h26, .int 0, .int 0, .int 0]))] H := hP
        have hD : va_D A [(h0, .inr (8, [.int 0, .int 0, .int 0, .ref h4, .ref h5, .ref h6, .ref h7, .ref h8, .ref h9, .ref h10, .ref h11, .ref h12, .ref h13, .int 0, .int 1, .int 0, .int x17, .int x18])), (h11, .inl (cI, 28, .inl f_4)), (h12, .inr (1, [.ref h20, .ref h21, .int 0, .int 0, .int 0])), (h13, .inr (1, [.ref h25, .ref h26, .int 0, .int 0, .int 0]))] := hD
        refine lv_aload_n hx hb dX8_forget_68 rfl (lv_at hl 1 rfl) ?_
        refine lv_iconst (v := 0) hx hb dX8_forget_69 (by decide +kernel) ?_
        refine va_put (D := D) (ci := 8) (v := .int 0) (ty := .int) (C := RX8) (T := TX8) (N := 18) hx hb hts inX8 tyX8 tyX8_ok nmX8 hown hG.1 hP hD hS 0 rfl rfl 16 (by decide) (hts _ kw255) (fun _ h9 => h9) rfl (by decide +kernel) rfl rfl (Nat.le_of_ble_eq_true rfl) dX8_forget_70 (fun H locs hP hD hS => ?_)
        have hP : va_P D vwCl [(h0, .inr (8, [.int 0, .int 0, .int 0, .ref h4, .ref h5, .ref h6, .ref h7, .ref h8, .ref h9, .ref h10, .ref h11, .ref h12, .ref h13, .int 0, .int 1, .int 0, .int 0, .int x18])), (h11, .inl (cI, 28, .inl f_4)), (h12, .inr (1, [.ref h20, .ref h21, .int 0, .int 0, .int 0])), (h13, .inr (1, [.ref h25, .ref h26, .int 0, .int 0, .int 0]))] H := hP
        have hD : va_D A [(h0, .inr (8, [.int 0, .int 0, .int 0, .ref h4, .ref h5, .ref h6, .ref h7, .ref h8, .ref h9, .ref h10, .ref h11, .ref h12, .ref h13, .int 0, .int 1, .int 0, .int 0, .int x18])), (h11, .inl (cI, 28, .inl f_4)), (h12, .inr (1, [.ref h20, .ref h21, .int 0, .int 0, .int 0])), (h13, .inr (1, [.ref h25, .ref h26, .int 0, .int 0, .int 0]))] := hD
        refine lv_aload_n hx hb dX8_forget_73 rfl (lv_at hl 1 rfl) ?_
        refine lv_iconst (v := 0) hx hb dX8_forget_74 (by decide +kernel) ?_
        refine va_put (D := D) (ci := 8) (v := .int 0) (ty := .boolean) (C := RX8) (T := TX8) (N := 18) hx hb hts inX8 tyX8 tyX8_ok nmX8 hown hG.1 hP hD hS 0 rfl rfl 17 (by decide) (hts _ kw258) (fun _ h9 => h9) rfl (by decide +kernel) (by decide +kernel) (by decide +kernel) (Nat.le_of_ble_eq_true rfl) dX8_forget_75 (fun H locs hP hD hS => ?_)
        have hP : va_P D vwCl [(h0, .inr (8, [.int 0, .int 0, .int 0, .ref h4, .ref h5, .ref h6, .ref h7, .ref h8, .ref h9, .ref h10, .ref h11, .ref h12, .ref h13, .int 0, .int 1, .int 0, .int 0, .int 0])), (h11, .inl (cI, 28, .inl f_4)), (h12, .inr (1, [.ref h20, .ref h21, .int 0, .int 0, .int 0])), (h13, .inr (1, [.ref h25, .ref h26, .int 0, .int 0, .int 0]))] H := hP
        have hD : va_D A [(h0, .inr (8, [.int 0, .int 0, .int 0, .ref h4, .ref h5, .ref h6, .ref h7, .ref h8, .ref h9, .ref h10, .ref h11, .ref h12, .ref h13, .int 0, .int 1, .int 0, .int 0, .int 0])), (h11, .inl (cI, 28, .inl f_4)), (h12, .inr (1, [.ref h20, .ref h21, .int 0, .int 0, .int 0])), (h13, .inr (1, [.ref h25, .ref h26, .int 0, .int 0, .int 0]))] := hD
        have hP9 := hP.sub (ws' := [(h0, .inr (8, [.int 0, .int 0, .int 0, .ref h4, .ref h5, .ref h6, .ref h7, .ref h8, .ref h9, .ref h10, .ref h11, .ref h12, .ref h13, .int 0, .int 1, .int 0, .int 0, .int 0])), (h11, .inl (cI, 28, .inl f_4)), (h12, .inr (1, [.ref h20, .ref h21, .int 0, .int 0, .int 0])), (h13, .inr (1, [.ref h25, .ref h26, .int 0, .int 0, .int 0]))]) [0, 1, 2, 3] rfl
        have hD9 := hD.sub (ws' := [(h0, .inr (8, [.int 0, .int 0, .int 0, .ref h4, .ref h5, .ref h6, .ref h7, .ref h8, .ref h9, .ref h10, .ref h11, .ref h12, .ref h13, .int 0, .int 1, .int 0, .int 0, .int 0])), (h11, .inl (cI, 28, .inl f_4)), (h12, .inr (1, [.ref h20, .ref h21, .int 0, .int 0, .int 0])), (h13, .inr (1, [.ref h25, .ref h26, .int 0, .int 0, .int 0]))]) [0, 1, 2, 3] (by decide) rfl
        exact xr_v (rm := (rmL 2 0 0)) hx hb hr hlocks hAe hS hP9 hD9 (Nat.le_of_ble_eq_true rfl) (Nat.le_of_ble_eq_true rfl) dX8_forget_78 ⟨f_4, rfl, rfl⟩
      · have fc_9 : x_3.toInt < (28 : Int) := i_nle (by decide) rfl c_9
        refine lv_aload_n hx hb dX8_forget_26 rfl (lv_at hl 1 rfl) ?_
        refine va_get (D := D) (ci := 8) (v := .ref h11) (C := RX8) (T := TX8) (N := 18) hx hb hts inX8 hown hG.1 hP 0 rfl rfl 10 (by decide) (hts _ kw237) (fun _ h9 => h9) rfl dX8_forget_27 ?_
        refine lv_iload_n hx hb dX8_forget_30 rfl (lv_at hl 0 rfl) ?_
        refine lv_iconst (v := (-1)) hx hb dX8_forget_31 (by decide +kernel) ?_
        refine xa_istU hx hb hG hP hD hS 1 rfl (vp_in_iff.mpr ⟨by omega, by omega⟩) dX8_forget_32 (fun f_10 H locs hP hD hS => ?_)
        have hP : va_P D vwCl [(h0, .inr (8, [.int 0, .int 0, .int 0, .ref h4, .ref h5, .ref h6, .ref h7, .ref h8, .ref h9, .ref h10, .ref h11, .ref h12, .ref h13, .int x14, .int x15, .int x16, .int x17, .int x18])), (h11, .inl (cI, 28, .inl f_10)), (h12, .inr (1, [.ref h20, .ref h21, .int x22, .int x23, .int x24])), (h13, .inr (1, [.ref h25, .ref h26, .int x27, .int x28, .int x29]))] H := hP
        have hD : va_D A [(h0, .inr (8, [.int 0, .int 0, .int 0, .ref h4, .ref h5, .ref h6, .ref h7, .ref h8, .ref h9, .ref h10, .ref h11, .ref h12, .ref h13, .int x14, .int x15, .int x16, .int x17, .int x18])), (h11, .inl (cI, 28, .inl f_10)), (h12, .inr (1, [.ref h20, .ref h21, .int x22, .int x23, .int x24])), (h13, .inr (1, [.ref h25, .ref h26, .int x27, .int x28, .int x29]))] := hD
        obtain ⟨v_11, ev_11⟩ : ∃ y : Int32, y = x_3 + 1 := ⟨_, rfl⟩
        have gv_11 : v_11.toInt = x_3.toInt + 1 := by
          have zy : (1 : Int32).toInt = 1 := by decide
          rw [ev_11, i32_add (by rw [zy]; omega) (by rw [zy]; omega), zy]
        refine lv_iinc (v := v_11) (lv' := [(1, .int v_11), (0, .ref h0)]) hx hb dX8_forget_33 hl (k := 0) rfl (by rw [ev_11]; rfl) (by decide) rfl (fun ls hl => ?_)
        refine lv_goto (tgt := 17) hx hb dX8_forget_36 (by decide) ?_
        exact ihlp_5  v_11 f_10 _ _ _ (by omega) (by omega) (by omega) (hP.sub (ws' := [(h0, .inr (8, [.int 0, .int 0, .int 0, .ref h4, .ref h5, .ref h6, .ref h7, .ref h8, .ref h9, .ref h10, .ref h11, .ref h12, .ref h13, .int x14, .int x15, .int x16, .int x17, .int x18])), (h11, .inl (cI, 28, .inl f_10)), (h12, .inr (1, [.ref h20, .ref h21, .int x22, .int x23, .int x24])), (h13, .inr (1, [.ref h25, .ref h26, .int x27, .int x28, .int x29]))]) [0, 1, 2, 3] rfl) (hD.sub (ws' := [(h0, .inr (8, [.int 0, .int 0, .int 0, .ref h4, .ref h5, .ref h6, .ref h7, .ref h8, .ref h9, .ref h10, .ref h11, .ref h12, .ref h13, .int x14, .int x15, .int x16, .int x17, .int x18])), (h11, .inl (cI, 28, .inl f_10)), (h12, .inr (1, [.ref h20, .ref h21, .int x22, .int x23, .int x24])), (h13, .inr (1, [.ref h25, .ref h26, .int x27, .int x28, .int x29]))]) [0, 1, 2, 3] (by decide) rfl) hS (lv_sub hl [0, 1] rfl)
  exact lp_5 30 0 f19 _ _ _ (by have zc0 : (0 : Int32).toInt = 0 := (by decide); omega) (by have zc0 : (0 : Int32).toInt = 0 := (by decide); omega) (by have zc0 : (0 : Int32).toInt = 0 := (by decide); omega) (hP.sub (ws' := [(h0, .inr (8, [.int 0, .int 0, .int 0, .ref h4, .ref h5, .ref h6, .ref h7, .ref h8, .ref h9, .ref h10, .ref h11, .ref h12, .ref h13, .int x14, .int x15, .int x16, .int x17, .int x18])), (h11, .inl (cI, 28, .inl f19)), (h12, .inr (1, [.ref h20, .ref h21, .int x22, .int x23, .int x24])), (h13, .inr (1, [.ref h25, .ref h26, .int x27, .int x28, .int x29]))]) [0, 1, 2, 3] rfl) (hD.sub (ws' := [(h0, .inr (8, [.int 0, .int 0, .int 0, .ref h4, .ref h5, .ref h6, .ref h7, .ref h8, .ref h9, .ref h10, .ref h11, .ref h12, .ref h13, .int x14, .int x15, .int x16, .int x17, .int x18])), (h11, .inl (cI, 28, .inl f19)), (h12, .inr (1, [.ref h20, .ref h21, .int x22, .int x23, .int x24])), (h13, .inr (1, [.ref h25, .ref h26, .int x27, .int x28, .int x29]))]) [0, 1, 2, 3] (by decide) rfl) hS (lv_sub hl [0, 1] rfl)
theorem dX8_isBelieved_0 : decode cX8_isBelieved 0 = .ok (.aload_n 0, 1) := by decide +kernel
theorem dX8_isBelieved_1 : decode cX8_isBelieved 1 = .ok (.getfield 33, 3) := by decide +kernel
theorem dX8_isBelieved_4 : decode cX8_isBelieved 4 = .ok (.iload_n 1, 1) := by decide +kernel
theorem dX8_isBelieved_5 : decode cX8_isBelieved 5 = .ok (.bipush 7, 2) := by decide +kernel
theorem dX8_isBelieved_7 : decode cX8_isBelieved 7 = .ok (.imul, 1) := by decide +kernel
theorem dX8_isBelieved_8 : decode cX8_isBelieved 8 = .ok (.iload_n 2, 1) := by decide +kernel
theorem dX8_isBelieved_9 : decode cX8_isBelieved 9 = .ok (.iadd, 1) := by decide +kernel
theorem dX8_isBelieved_10 : decode cX8_isBelieved 10 = .ok (.iaload, 1) := by decide +kernel
theorem dX8_isBelieved_11 : decode cX8_isBelieved 11 = .ok (.iconst (-1), 1) := by decide +kernel
theorem dX8_isBelieved_12 : decode cX8_isBelieved 12 = .ok (.if_icmp .eq 7, 3) := by decide +kernel
theorem dX8_isBelieved_19 : decode cX8_isBelieved 19 = .ok (.iconst 0, 1) := by decide +kernel
theorem dX8_isBelieved_20 : decode cX8_isBelieved 20 = .ok (.ireturn, 1) := by decide +kernel
theorem dX8_isBelieved_15 : decode cX8_isBelieved 15 = .ok (.iconst 1, 1) := by decide +kernel
theorem dX8_isBelieved_16 : decode cX8_isBelieved 16 = .ok (.goto 4, 3) := by decide +kernel
set_option maxHeartbeats 4000000 in
set_option maxRecDepth 100000 in
theorem sX8_isBelieved_1 (l : Launch) (D : va_G) (cB cI cJ cZ : ClassId) (aK aV : Nat → Nat) (h0 : Nat) (x1 : Int32) (x2 : Int32) (x3 : Int32) (x4 : Int32) (x5 : Int32) (h6 : Nat) (h7 : Nat) (h8 : Nat) (h9 : Nat) (h10 : Nat) (h11 : Nat) (h12 : Nat) (h13 : Nat) (h14 : Nat) (h15 : Nat) (x16 : Int32) (x17 : Int32) (x18 : Int32) (x19 : Int32) (x20 : Int32) (f21 : Nat → Int32) (gh0 : 0 ≤ x1.toInt) (gh1 : 0 ≤ -x1.toInt + 3) (gh2 : 0 ≤ x2.toInt) (gh3 : 0 ≤ -x2.toInt + 6) (gh4 : 0 ≤ x3.toInt) (gh5 : 0 ≤ -x3.toInt + 4) (gh6 : 0 ≤ x4.toInt) (gh7 : 0 ≤ -x4.toInt + 3) (gh8 : 0 ≤ x5.toInt) (gh9 : 0 ≤ -x5.toInt + 7) (gh10 : 0 ≤ x19.toInt + 1) (gh11 : 0 ≤ -x19.toInt + 999) : MX l yX8_isBelieved cX8_isBelieved 3 (some .boolean) (rmL 1 0 0) D cB cI cJ cZ aK aV [.ref h0, .int x1, .int x2] [(h0, .inr (8, [.int x3, .int x4, .int x5, .ref h6, .ref h7, .ref h8, .ref h9, .ref h10, .ref h11, .ref h12, .ref h13, .ref h14, .ref h15, .int x16, .int x17, .int x18, .int x19, .int x20])), (h13, .inl (cI, 28, .inl f21))] (fun r w1 => ∃ z1 : Int32, 0 ≤ z1.toInt ∧ 0 ≤ -z1.toInt + 1 ∧ r = some (.int z1) ∧ w1 = [(h0, .inr (8, [.int x3, .int x4, .int x5, .ref h6, .ref h7, .ref h8, .ref h9, .ref h10, .ref h11, .ref h12, .ref h13, .ref h14, .ref h15, .int x16, .int x17, .int x18, .int x19, .int x20])), (h13, .inl (cI, 28, .inl f21))]) := by
  refine MX.intro (by decide) (Nat.le_of_ble_eq_true rfl) ?_
  intro p e s m below meth c A ls hx hb hr hml hown hlocks hnm hts hG hE hA hS hP hD hl hAe
  have hl : lv_has ls 3 [(0, .ref h0), (1, .int x1), (2, .int x2)] := hl
  have hown : s.vm.findClass RX8 = some m.cls := hown
  refine lv_aload_n hx hb dX8_isBelieved_0 rfl (lv_at hl 0 rfl) ?_
  refine va_get (D := D) (ci := 8) (v := .ref h13) (C := RX8) (T := TX8) (N := 18) hx hb hts inX8 hown hG.1 hP 0 rfl rfl 10 (by decide) (hts _ kw237) (fun _ h9 => h9) rfl dX8_isBelieved_1 ?_
  refine lv_iload_n hx hb dX8_isBelieved_4 rfl (lv_at hl 1 rfl) ?_
  refine lv_bipush (v := 7) hx hb dX8_isBelieved_5 (by decide +kernel) ?_
  refine lv_imul hx hb dX8_isBelieved_7 ?_
  refine lv_topi (fun v_1 ev_1 => ?_)
  have gv_1 : v_1.toInt = x1.toInt * (7 : Int) := by
    have zx : (x1 : Int32).toInt = x1.toInt := rfl
    have zy : (7 : Int32).toInt = (7 : Int) := (by decide)
    rw [ev_1, i32_mul (by rw [zx, zy]; omega) (by rw [zx, zy]; omega), zx, zy]
  refine lv_iload_n hx hb dX8_isBelieved_8 rfl (lv_at hl 2 rfl) ?_
  refine lv_iadd hx hb dX8_isBelieved_9 ?_
  refine lv_topi (fun v_2 ev_2 => ?_)
  have gv_2 : v_2.toInt = v_1.toInt + x2.toInt := by
    have zx : (v_1 : Int32).toInt = v_1.toInt := rfl
    have zy : (x2 : Int32).toInt = x2.toInt := rfl
    rw [ev_2, i32_add (by rw [zx, zy]; omega) (by rw [zx, zy]; omega), zx, zy]
  refine xa_ildU hx hb hG hP 1 rfl (vp_in_iff.mpr ⟨by omega, by omega⟩) dX8_isBelieved_10 (fun v_3 => ?_)
  refine lv_iconst (v := (-1)) hx hb dX8_isBelieved_11 (by decide +kernel) ?_
  refine lv_icmp_eq (tgt := 19) hx hb dX8_isBelieved_12 (by decide) (fun c_4 => ?_) (fun c_4 => ?_)
  · have fc_4 : v_3.toInt = ((-1) : Int) := i_eq rfl (by decide) c_4
    refine lv_iconst (v := 0) hx hb dX8_isBelieved_19 (by decide +kernel) ?_
    have hP9 := hP.sub (ws' := [(h0, .inr (8, [.int x3, .int x4, .int x5, .ref h6, .ref h7, .ref h8, .ref h9, .ref h10, .ref h11, .ref h12, .ref h13, .ref h14, .ref h15, .int x16, .int x17, .int x18, .int x19, .int x20])), (h13, .inl (cI, 28, .inl f21))]) [0, 1] rfl
    have hD9 := hD.sub (ws' := [(h0, .inr (8, [.int x3, .int x4, .int x5, .ref h6, .ref h7, .ref h8, .ref h9, .ref h10, .ref h11, .ref h12, .ref h13, .ref h14, .ref h15, .int x16, .int x17, .int x18, .int x19, .int x20])), (h13, .inl (cI, 28, .inl f21))]) [0, 1] (by decide) rfl
    exact xr_i (rm := (rmL 1 0 0)) hx hb hr hlocks hAe hS hP9 hD9 (by decide +kernel) (Nat.le_of_ble_eq_true rfl) (Nat.le_of_ble_eq_true rfl) dX8_isBelieved_20 ⟨0, by have zc0 : (0 : Int32).toInt = 0 := (by decide); omega, by have zc0 : (0 : Int32).toInt = 0 := (by decide); omega, rfl, rfl⟩
  · have fc_4 : v_3.toInt ≠ ((-1) : Int) := i_ne rfl (by decide) c_4
    refine lv_iconst (v := 1) hx hb dX8_isBelieved_15 (by decide +kernel) ?_
    refine lv_goto (tgt := 20) hx hb dX8_isBelieved_16 (by decide) ?_
    have hP9 := hP.sub (ws' := [(h0, .inr (8, [.int x3, .int x4, .int x5, .ref h6, .ref h7, .ref h8, .ref h9, .ref h10, .ref h11, .ref h12, .ref h13, .ref h14, .ref h15, .int x16, .int x17, .int x18, .int x19, .int x20])), (h13, .inl (cI, 28, .inl f21))]) [0, 1] rfl
    have hD9 := hD.sub (ws' := [(h0, .inr (8, [.int x3, .int x4, .int x5, .ref h6, .ref h7, .ref h8, .ref h9, .ref h10, .ref h11, .ref h12, .ref h13, .ref h14, .ref h15, .int x16, .int x17, .int x18, .int x19, .int x20])), (h13, .inl (cI, 28, .inl f21))]) [0, 1] (by decide) rfl
    exact xr_i (rm := (rmL 1 0 0)) hx hb hr hlocks hAe hS hP9 hD9 (by decide +kernel) (Nat.le_of_ble_eq_true rfl) (Nat.le_of_ble_eq_true rfl) dX8_isBelieved_20 ⟨1, by have zc1 : (1 : Int32).toInt = 1 := (by decide); omega, by have zc1 : (1 : Int32).toInt = 1 := (by decide); omega, rfl, rfl⟩
theorem dX8_believe_0 : decode cX8_believe 0 = .ok (.aload_n 0, 1) := by decide +kernel
theorem dX8_believe_1 : decode cX8_believe 1 = .ok (.getfield 33, 3) := by decide +kernel
theorem dX8_believe_4 : decode cX8_believe 4 = .ok (.iload_n 1, 1) := by decide +kernel
theorem dX8_believe_5 : decode cX8_believe 5 = .ok (.bipush 7, 2) := by decide +kernel
theorem dX8_believe_7 : decode cX8_believe 7 = .ok (.imul, 1) := by decide +kernel
theorem dX8_believe_8 : decode cX8_believe 8 = .ok (.iload_n 2, 1) := by decide +kernel
theorem dX8_believe_9 : decode cX8_believe 9 = .ok (.iadd, 1) := by decide +kernel
theorem dX8_believe_10 : decode cX8_believe 10 = .ok (.iload_n 3, 1) := by decide +kernel
theorem dX8_believe_11 : decode cX8_believe 11 = .ok (.iastore, 1) := by decide +kernel
theorem dX8_believe_12 : decode cX8_believe 12 = .ok (.return_, 1) := by decide +kernel
set_option maxHeartbeats 4000000 in
set_option maxRecDepth 100000 in
theorem sX8_believe_1 (l : Launch) (D : va_G) (cB cI cJ cZ : ClassId) (aK aV : Nat → Nat) (h0 : Nat) (x1 : Int32) (x2 : Int32) (x3 : Int32) (x4 : Int32) (x5 : Int32) (x6 : Int32) (h7 : Nat) (h8 : Nat) (h9 : Nat) (h10 : Nat) (h11 : Nat) (h12 : Nat) (h13 : Nat) (h14 : Nat) (h15 : Nat) (h16 : Nat) (x17 : Int32) (x18 : Int32) (x19 : Int32) (x20 : Int32) (x21 : Int32) (f22 : Nat → Int32) (gh0 : 0 ≤ x1.toInt) (gh1 : 0 ≤ -x1.toInt + 3) (gh2 : 0 ≤ x2.toInt) (gh3 : 0 ≤ -x2.toInt + 6) (gh4 : 0 ≤ x4.toInt) (gh5 : 0 ≤ -x4.toInt + 4) (gh6 : 0 ≤ x5.toInt) (gh7 : 0 ≤ -x5.toInt + 3) (gh8 : 0 ≤ x6.toInt) (gh9 : 0 ≤ -x6.toInt + 7) (gh10 : 0 ≤ x20.toInt + 1) (gh11 : 0 ≤ -x20.toInt + 999) : MX l yX8_believe cX8_believe 4 none (rmL 1 0 0) D cB cI cJ cZ aK aV [.ref h0, .int x1, .int x2, .int x3] [(h0, .inr (8, [.int x4, .int x5, .int x6, .ref h7, .ref h8, .ref h9, .ref h10, .ref h11, .ref h12, .ref h13, .ref h14, .ref h15, .ref h16, .int x17, .int x18, .int x19, .int x20, .int x21])), (h14, .inl (cI, 28, .inl f22))] (fun r w1 => ∃ z1 : Nat → Int32, r = none ∧ w1 = [(h0, .inr (8, [.int x4, .int x5, .int x6, .ref h7, .ref h8, .ref h9, .ref h10, .ref h11, .ref h12, .ref h13, .ref h14, .ref h15, .ref h16, .int x17, .int x18, .int x19, .int x20, .int x21])), (h14, .inl (cI, 28, .inl z1))]) := by
  refine MX.intro (by decide) (Nat.le_of_ble_eq_true rfl) ?_
  intro p e s m below meth c A ls hx hb hr hml hown hlocks hnm hts hG hE hA hS hP hD hl hAe
  have hl : lv_has ls 4 [(0, .ref h0), (1, .int x1), (2, .int x2), (3, .int x3)] := hl
  have hown : s.vm.findClass RX8 = some m.cls := hown
  refine lv_aload_n hx hb dX8_believe_0 rfl (lv_at hl 0 rfl) ?_
  refine va_get (D := D) (ci := 8) (v := .ref h14) (C := RX8) (T := TX8) (N := 18) hx hb hts inX8 hown hG.1 hP 0 rfl rfl 10 (by decide) (hts _ kw237) (fun _ h9 => h9) rfl dX8_believe_1 ?_
  refine lv_iload_n hx hb dX8_believe_4 rfl (lv_at hl 1 rfl) ?_
  refine lv_bipush (v := 7) hx hb dX8_believe_5 (by decide +kernel) ?_
  refine lv_imul hx hb dX8_believe_7 ?_
  refine lv_topi (fun v_1 ev_1 => ?_)
  have gv_1 : v_1.toInt = x1.toInt * (7 : Int) := by
    have zx : (x1 : Int32).toInt = x1.toInt := rfl
    have zy : (7 : Int32).toInt = (7 : Int) := (by decide)
    rw [ev_1, i32_mul (by rw [zx, zy]; omega) (by rw [zx, zy]; omega), zx, zy]
  refine lv_iload_n hx hb dX8_believe_8 rfl (lv_at hl 2 rfl) ?_
  refine lv_iadd hx hb dX8_believe_9 ?_
  refine lv_topi (fun v_2 ev_2 => ?_)
  have gv_2 : v_2.toInt = v_1.toInt + x2.toInt := by
    have zx : (v_1 : Int32).toInt = v_1.toInt := rfl
    have zy : (x2 : Int32).toInt = x2.toInt := rfl
    rw [ev_2, i32_add (by rw [zx, zy]; omega) (by rw [zx, zy]; omega), zx, zy]
  refine lv_iload_n hx hb dX8_believe_10 rfl (lv_at hl 3 rfl) ?_
  refine xa_istU hx hb hG hP hD hS 1 rfl (vp_in_iff.mpr ⟨by omega, by omega⟩) dX8_believe_11 (fun f_3 H locs hP hD hS => ?_)
  have hP : va_P D vwCl [(h0, .inr (8, [.int x4, .int x5, .int x6, .ref h7, .ref h8, .ref h9, .ref h10, .ref h11, .ref h12, .ref h13, .ref h14, .ref h15, .ref h16, .int x17, .int x18, .int x19, .int x20, .int x21])), (h14, .inl (cI, 28, .inl f_3))] H := hP
  have hD : va_D A [(h0, .inr (8, [.int x4, .int x5, .int x6, .ref h7, .ref h8, .ref h9, .ref h10, .ref h11, .ref h12, .ref h13, .ref h14, .ref h15, .ref h16, .int x17, .int x18, .int x19, .int x20, .int x21])), (h14, .inl (cI, 28, .inl f_3))] := hD
  have hP9 := hP.sub (ws' := [(h0, .inr (8, [.int x4, .int x5, .int x6, .ref h7, .ref h8, .ref h9, .ref h10, .ref h11, .ref h12, .ref h13, .ref h14, .ref h15, .ref h16, .int x17, .int x18, .int x19, .int x20, .int x21])), (h14, .inl (cI, 28, .inl f_3))]) [0, 1] rfl
  have hD9 := hD.sub (ws' := [(h0, .inr (8, [.int x4, .int x5, .int x6, .ref h7, .ref h8, .ref h9, .ref h10, .ref h11, .ref h12, .ref h13, .ref h14, .ref h15, .ref h16, .int x17, .int x18, .int x19, .int x20, .int x21])), (h14, .inl (cI, 28, .inl f_3))]) [0, 1] (by decide) rfl
  exact xr_v (rm := (rmL 1 0 0)) hx hb hr hlocks hAe hS hP9 hD9 (Nat.le_of_ble_eq_true rfl) (Nat.le_of_ble_eq_true rfl) dX8_believe_12 ⟨f_3, rfl, rfl⟩
theorem dX8_believed_0 : decode cX8_believed 0 = .ok (.aload_n 0, 1) := by decide +kernel
theorem dX8_believed_1 : decode cX8_believed 1 = .ok (.iload_n 1, 1) := by decide +kernel
theorem dX8_believed_2 : decode cX8_believed 2 = .ok (.iload_n 2, 1) := by decide +kernel
theorem kw884 : (.methodLink RX8 76 yX8_isBelieved : Cond) ∈ gT := gT_of 884 (by decide +kernel) (by decide +kernel)
theorem kw771 : (.code yX8_isBelieved cX8_isBelieved 3 (some .boolean) : Cond) ∈ gT := gT_of 771 (by decide +kernel) (by decide +kernel)
theorem kw769 : (.instanceMethod yX8_isBelieved : Cond) ∈ gT := gT_of 769 (by decide +kernel) (by decide +kernel)
theorem kw770 : (.selects RX8 yX8_isBelieved yX8_isBelieved : Cond) ∈ gT := gT_of 770 (by decide +kernel) (by decide +kernel)
theorem kw114 : (.initialized RX8 : Cond) ∈ gT := gT_of 114 (by decide +kernel) (by decide +kernel)
theorem dX8_believed_3 : decode cX8_believed 3 = .ok (.invokevirtual 76, 3) := by decide +kernel
theorem dX8_believed_6 : decode cX8_believed 6 = .ok (.ifCond .eq 17, 3) := by decide +kernel
theorem dX8_believed_23 : decode cX8_believed 23 = .ok (.bipush 100, 2) := by decide +kernel
theorem dX8_believed_25 : decode cX8_believed 25 = .ok (.ireturn, 1) := by decide +kernel
theorem dX8_believed_9 : decode cX8_believed 9 = .ok (.aload_n 0, 1) := by decide +kernel
theorem dX8_believed_10 : decode cX8_believed 10 = .ok (.getfield 33, 3) := by decide +kernel
theorem dX8_believed_13 : decode cX8_believed 13 = .ok (.iload_n 1, 1) := by decide +kernel
theorem dX8_believed_14 : decode cX8_believed 14 = .ok (.bipush 7, 2) := by decide +kernel
theorem dX8_believed_16 : decode cX8_believed 16 = .ok (.imul, 1) := by decide +kernel
theorem dX8_believed_17 : decode cX8_believed 17 = .ok (.iload_n 2, 1) := by decide +kernel
theorem dX8_believed_18 : decode cX8_believed 18 = .ok (.iadd, 1) := by decide +kernel
theorem dX8_believed_19 : decode cX8_believed 19 = .ok (.iaload, 1) := by decide +kernel
theorem dX8_believed_20 : decode cX8_believed 20 = .ok (.goto 5, 3) := by decide +kernel
set_option maxHeartbeats 4000000 in
set_option maxRecDepth 100000 in
theorem sX8_believed_1 (l : Launch) (D : va_G) (cB cI cJ cZ : ClassId) (aK aV : Nat → Nat) (h0 : Nat) (x1 : Int32) (x2 : Int32) (x3 : Int32) (x4 : Int32) (x5 : Int32) (h6 : Nat) (h7 : Nat) (h8 : Nat) (h9 : Nat) (h10 : Nat) (h11 : Nat) (h12 : Nat) (h13 : Nat) (h14 : Nat) (h15 : Nat) (x16 : Int32) (x17 : Int32) (x18 : Int32) (x19 : Int32) (x20 : Int32) (f21 : Nat → Int32) (gh0 : 0 ≤ x1.toInt) (gh1 : 0 ≤ -x1.toInt + 3) (gh2 : 0 ≤ x2.toInt) (gh3 : 0 ≤ -x2.toInt + 6) (gh4 : 0 ≤ x3.toInt) (gh5 : 0 ≤ -x3.toInt + 4) (gh6 : 0 ≤ x4.toInt) (gh7 : 0 ≤ -x4.toInt + 3) (gh8 : 0 ≤ x5.toInt) (gh9 : 0 ≤ -x5.toInt + 7) (gh10 : 0 ≤ x19.toInt + 1) (gh11 : 0 ≤ -x19.toInt + 999) : MX l yX8_believed cX8_believed 3 (some .int) (rmL 2 0 0) D cB cI cJ cZ aK aV [.ref h0, .int x1, .int x2] [(h0, .inr (8, [.int x3, .int x4, .int x5, .ref h6, .ref h7, .ref h8, .ref h9, .ref h10, .ref h11, .ref h12, .ref h13, .ref h14, .ref h15, .int x16, .int x17, .int x18, .int x19, .int x20])), (h13, .inl (cI, 28, .inl f21))] (fun r w1 => ∃ z1 : Int32, r = some (.int z1) ∧ w1 = [(h0, .inr (8, [.int x3, .int x4, .int x5, .ref h6, .ref h7, .ref h8, .ref h9, .ref h10, .ref h11, .ref h12, .ref h13, .ref h14, .ref h15, .int x16, .int x17, .int x18, .int x19, .int x20])), (h13, .inl (cI, 28, .inl f21))]) := by
  refine MX.intro (by decide) (Nat.le_of_ble_eq_true rfl) ?_
  intro p e s m below meth c A ls hx hb hr hml hown hlocks hnm hts hG hE hA hS hP hD hl hAe
  have hl : lv_has ls 3 [(0, .ref h0), (1, .int x1), (2, .int x2)] := hl
  have hown : s.vm.findClass RX8 = some m.cls := hown
  refine lv_aload_n hx hb dX8_believed_0 rfl (lv_at hl 0 rfl) ?_
  refine lv_iload_n hx hb dX8_believed_1 rfl (lv_at hl 1 rfl) ?_
  refine lv_iload_n hx hb dX8_believed_2 rfl (lv_at hl 2 rfl) ?_
  refine xc_core (wr := []) (k := 0) (n := 0) (xc_runV (As := [.int x1, .int x2]) (rest := []) hx hb hml hown hts hG hE hP hD hS hA [0, 1] (by decide) rfl (sX8_isBelieved_1 l D cB cI cJ cZ aK aV h0 x1 x2 x3 x4 x5 h6 h7 h8 h9 h10 h11 h12 h13 h14 h15 x16 x17 x18 x19 x20 f21 (by omega) (by omega) (by omega) (by omega) (by omega) (by omega) (by omega) (by omega) (by omega) (by omega) (by omega) (by omega)) kw771 kw884 kw769 kw770 kw114 (show XD yX8_isBelieved 2 from by decide +kernel) (by decide) rfl rfl 0 rfl hl.1 rfl (Nat.le_of_ble_eq_true rfl) dX8_believed_3 (by decide)) hP hD hS hA [0, 1] [] rfl rfl (by decide) (by decide) (Nat.le_of_ble_eq_true rfl) (Nat.le_of_ble_eq_true rfl) (fun r w1 H locs hpost hP hD hS => ?_)
  obtain ⟨v_1, g_2, g_3, rfl, rfl⟩ := hpost
  have hP : va_P D vwCl [(h0, .inr (8, [.int x3, .int x4, .int x5, .ref h6, .ref h7, .ref h8, .ref h9, .ref h10, .ref h11, .ref h12, .ref h13, .ref h14, .ref h15, .int x16, .int x17, .int x18, .int x19, .int x20])), (h13, .inl (cI, 28, .inl f21))] H := hP
  have hD : va_D A [(h0, .inr (8, [.int x3, .int x4, .int x5, .ref h6, .ref h7, .ref h8, .ref h9, .ref h10, .ref h11, .ref h12, .ref h13, .ref h14, .ref h15, .int x16, .int x17, .int x18, .int x19, .int x20])), (h13, .inl (cI, 28, .inl f21))] := hD
  refine lv_if_eq (tgt := 23) hx hb dX8_believed_6 (by decide) (fun c_4 => ?_) (fun c_4 => ?_)
  · have fc_4 : v_1.toInt = (0 : Int) := i_eq rfl (by decide) c_4
    refine lv_bipush (v := 100) hx hb dX8_believed_23 (by decide +kernel) ?_
    have hP9 := hP.sub (ws' := [(h0, .inr (8, [.int x3, .int x4, .int x5, .ref h6, .ref h7, .ref h8, .ref h9, .ref h10, .ref h11, .ref h12, .ref h13, .ref h14, .ref h15, .int x16, .int x17, .int x18, .int x19, .int x20])), (h13, .inl (cI, 28, .inl f21))]) [0, 1] rfl
    have hD9 := hD.sub (ws' := [(h0, .inr (8, [.int x3, .int x4, .int x5, .ref h6, .ref h7, .ref h8, .ref h9, .ref h10, .ref h11, .ref h12, .ref h13, .ref h14, .ref h15, .int x16, .int x17, .int x18, .int x19, .int x20])), (h13, .inl (cI, 28, .inl f21))]) [0, 1] (by decide) rfl
    exact xr_i (rm := (rmL 2 0 0)) hx hb hr hlocks hAe hS hP9 hD9 rfl (Nat.le_of_ble_eq_true rfl) (Nat.le_of_ble_eq_true rfl) dX8_believed_25 ⟨100, rfl, rfl⟩
  · have fc_4 : v_1.toInt ≠ (0 : Int) := i_ne rfl (by decide) c_4
    refine lv_aload_n hx hb dX8_believed_9 rfl (lv_at hl 0 rfl) ?_
    refine va_get (D := D) (ci := 8) (v := .ref h13) (C := RX8) (T := TX8) (N := 18) hx hb hts inX8 hown hG.1 hP 0 rfl rfl 10 (by decide) (hts _ kw237) (fun _ h9 => h9) rfl dX8_believed_10 ?_
    refine lv_iload_n hx hb dX8_believed_13 rfl (lv_at hl 1 rfl) ?_
    refine lv_bipush (v := 7) hx hb dX8_believed_14 (by decide +kernel) ?_
    refine lv_imul hx hb dX8_believed_16 ?_
    refine lv_topi (fun v_5 ev_5 => ?_)
    have gv_5 : v_5.toInt = x1.toInt * (7 : Int) := by
      have zx : (x1 : Int32).toInt = x1.toInt := rfl
      have zy : (7 : Int32).toInt = (7 : Int) := (by decide)
      rw [ev_5, i32_mul (by rw [zx, zy]; omega) (by rw [zx, zy]; omega), zx, zy]
    refine lv_iload_n hx hb dX8_believed_17 rfl (lv_at hl 2 rfl) ?_
    refine lv_iadd hx hb dX8_believed_18 ?_
    refine lv_topi (fun v_6 ev_6 => ?_)
    have gv_6 : v_6.toInt = v_5.toInt + x2.toInt := by
      have zx : (v_5 : Int32).toInt = v_5.toInt := rfl
      have zy : (x2 : Int32).toInt = x2.toInt := rfl
      rw [ev_6, i32_add (by rw [zx, zy]; omega) (by rw [zx, zy]; omega), zx, zy]
    refine xa_ildU hx hb hG hP 1 rfl (vp_in_iff.mpr ⟨by omega, by omega⟩) dX8_believed_19 (fun v_7 => ?_)
    refine lv_goto (tgt := 25) hx hb dX8_believed_20 (by decide) ?_
    have hP9 := hP.sub (ws' := [(h0, .inr (8, [.int x3, .int x4, .int x5, .ref h6, .ref h7, .ref h8, .ref h9, .ref h10, .ref h11, .ref h12, .ref h13, .ref h14, .ref h15, .int x16, .int x17, .int x18, .int x19, .int x20])), (h13, .inl (cI, 28, .inl f21))]) [0, 1] rfl
    have hD9 := hD.sub (ws' := [(h0, .inr (8, [.int x3, .int x4, .int x5, .ref h6, .ref h7, .ref h8, .ref h9, .ref h10, .ref h11, .ref h12, .ref h13, .ref h14, .ref h15, .int x16, .int x17, .int x18, .int x19, .int x20])), (h13, .inl (cI, 28, .inl f21))]) [0, 1] (by decide) rfl
    exact xr_i (rm := (rmL 2 0 0)) hx hb hr hlocks hAe hS hP9 hD9 rfl (Nat.le_of_ble_eq_true rfl) (Nat.le_of_ble_eq_true rfl) dX8_believed_25 ⟨v_7, rfl, rfl⟩
theorem dX3_placesOf_0 : decode cX3_placesOf 0 = .ok (.iconst 0, 1) := by decide +kernel
theorem dX3_placesOf_1 : decode cX3_placesOf 1 = .ok (.istore_n 2, 1) := by decide +kernel
theorem dX3_placesOf_2 : decode cX3_placesOf 2 = .ok (.iconst 0, 1) := by decide +kernel
theorem dX3_placesOf_3 : decode cX3_placesOf 3 = .ok (.istore_n 3, 1) := by decide +kernel
theorem dX3_placesOf_4 : decode cX3_placesOf 4 = .ok (.iload_n 3, 1) := by decide +kernel
theorem dX3_placesOf_5 : decode cX3_placesOf 5 = .ok (.aload_n 0, 1) := by decide +kernel
theorem kw425 : (.fieldLink RX3 33 "SpiceSwaps$Moment" "told" "LSpiceSwaps$Told;" : Cond) ∈ gT := gT_of 425 (by decide +kernel) (by decide +kernel)
theorem dX3_placesOf_6 : decode cX3_placesOf 6 = .ok (.getfield 33, 3) := by decide +kernel
theorem kw211 : (.fieldLink RX3 59 "SpiceSwaps$Told" "places" "I" : Cond) ∈ gT := gT_of 211 (by decide +kernel) (by decide +kernel)
theorem dX3_placesOf_9 : decode cX3_placesOf 9 = .ok (.getfield 59, 3) := by decide +kernel
theorem dX3_placesOf_12 : decode cX3_placesOf 12 = .ok (.if_icmp .ge 25, 3) := by decide +kernel
theorem dX3_placesOf_37 : decode cX3_placesOf 37 = .ok (.iload_n 2, 1) := by decide +kernel
theorem dX3_placesOf_38 : decode cX3_placesOf 38 = .ok (.ireturn, 1) := by decide +kernel
theorem dX3_placesOf_15 : decode cX3_placesOf 15 = .ok (.aload_n 0, 1) := by decide +kernel
theorem kw428 : (.fieldLink RX3 11 "SpiceSwaps$Moment" "holderOf" "[I" : Cond) ∈ gT := gT_of 428 (by decide +kernel) (by decide +kernel)
theorem dX3_placesOf_16 : decode cX3_placesOf 16 = .ok (.getfield 11, 3) := by decide +kernel
theorem dX3_placesOf_19 : decode cX3_placesOf 19 = .ok (.iload_n 3, 1) := by decide +kernel
theorem dX3_placesOf_20 : decode cX3_placesOf 20 = .ok (.iaload, 1) := by decide +kernel
theorem dX3_placesOf_21 : decode cX3_placesOf 21 = .ok (.iload_n 1, 1) := by decide +kernel
theorem dX3_placesOf_22 : decode cX3_placesOf 22 = .ok (.if_icmp .ne 9, 3) := by decide +kernel
theorem dX3_placesOf_31 : decode cX3_placesOf 31 = .ok (.iinc 3 1, 3) := by decide +kernel
theorem dX3_placesOf_34 : decode cX3_placesOf 34 = .ok (.goto (-30), 3) := by decide +kernel
theorem dX3_placesOf_25 : decode cX3_placesOf 25 = .ok (.iload_n 2, 1) := by decide +kernel
theorem dX3_placesOf_26 : decode cX3_placesOf 26 = .ok (.iconst 1, 1) := by decide +kernel
theorem dX3_placesOf_27 : decode cX3_placesOf 27 = .ok (.iload_n 3, 1) := by decide +kernel
theorem dX3_placesOf_28 : decode cX3_placesOf 28 = .ok (.ishl, 1) := by decide +kernel
theorem dX3_placesOf_29 : decode cX3_placesOf 29 = .ok (.ior, 1) := by decide +kernel
theorem dX3_placesOf_30 : decode cX3_placesOf 30 = .ok (.istore_n 2, 1) := by decide +kernel
set_option maxHeartbeats 4000000 in
set_option maxRecDepth 100000 in
theorem sX3_placesOf_1 (l : Launch) (D : va_G) (cB cI cJ cZ : ClassId) (aK aV : Nat → Nat) (h0 : Nat) (x1 : Int32) (h2 : Nat) (h3 : Nat) (h4 : Nat) (h5 : Nat) (h6 : Nat) (h7 : Nat) (x8 : Int32) (x9 : Int32) (x10 : Int32) (x11 : Int32) (x12 : Int32) (h13 : Nat) (h14 : Nat) (h15 : Nat) (h16 : Nat) (h17 : Nat) (h18 : Nat) (h19 : Nat) (h20 : Nat) (h21 : Nat) (h22 : Nat) (x23 : Int32) (x24 : Int32) (x25 : Int32) (x26 : Int32) (x27 : Int32) (f28 : Nat → Int32) (gh0 : 0 ≤ x9.toInt) (gh1 : 0 ≤ -x9.toInt + 999) (gh2 : 0 ≤ x10.toInt) (gh3 : 0 ≤ -x10.toInt + 4) (gh4 : 0 ≤ x11.toInt) (gh5 : 0 ≤ -x11.toInt + 3) (gh6 : 0 ≤ x12.toInt) (gh7 : 0 ≤ -x12.toInt + 7) (gh8 : 0 ≤ x26.toInt + 1) (gh9 : 0 ≤ -x26.toInt + 999) (ga0 : AR f28 (0) (3) (x12.toInt)) : MX l yX3_placesOf cX3_placesOf 4 (some .int) (rmL 1 0 0) D cB cI cJ cZ aK aV [.ref h0, .int x1] [(h0, .inr (3, [.ref h2, .ref h3, .ref h4, .ref h5, .ref h6, .ref h7, .int x8, .int x9])), (h2, .inr (8, [.int x10, .int x11, .int x12, .ref h13, .ref h14, .ref h15, .ref h16, .ref h17, .ref h18, .ref h19, .ref h20, .ref h21, .ref h22, .int x23, .int x24, .int x25, .int x26, .int x27])), (h3, .inl (cI, 7, .inl f28))] (fun r w1 => ∃ z1 : Int32, 0 ≤ z1.toInt ∧ 0 ≤ -z1.toInt + 127 ∧ r = some (.int z1) ∧ w1 = [(h0, .inr (3, [.ref h2, .ref h3, .ref h4, .ref h5, .ref h6, .ref h7, .int x8, .int x9])), (h2, .inr (8, [.int x10, .int x11, .int x12, .ref h13, .ref h14, .ref h15, .ref h16, .ref h17, .ref h18, .ref h19, .ref h20, .ref h21, .ref h22, .int x23, .int x24, .int x25, .int x26, .int x27])), (h3, .inl (cI, 7, .inl f28))]) := by
  refine MX.intro (by decide) (Nat.le_of_ble_eq_true rfl) ?_
  intro p e s m below meth c A ls hx hb hr hml hown hlocks hnm hts hG hE hA hS hP hD hl hAe
  have hl : lv_has ls 4 [(0, .ref h0), (1, .int x1)] := hl
  have hown : s.vm.findClass RX3 = some m.cls := hown
  refine lv_iconst (v := 0) hx hb dX3_placesOf_0 (by decide +kernel) ?_
  refine lv_istore_n (lv' := [(2, .int 0), (0, .ref h0), (1, .int x1)]) hx hb dX3_placesOf_1 rfl hl (by decide) rfl (fun ls hl => ?_)
  refine lv_iconst (v := 0) hx hb dX3_placesOf_2 (by decide +kernel) ?_
  refine lv_istore_n (lv' := [(3, .int 0), (2, .int 0), (0, .ref h0), (1, .int x1)]) hx hb dX3_placesOf_3 rfl hl (by decide) rfl (fun ls hl => ?_)
  have lp_5 : ∀ (n : Nat) (x_3 x_4 : Int32) (H : Heap) (locs : List Loc) (ls : Array Slot), 0 ≤ x_3.toInt → 0 ≤ -x_3.toInt + 127 → 0 ≤ x_4.toInt → 0 ≤ x12.toInt - x_4.toInt → -x_4.toInt + 7 < n → va_P D vwCl [(h0, .inr (3, [.ref h2, .ref h3, .ref h4, .ref h5, .ref h6, .ref h7, .int x8, .int x9])), (h2, .inr (8, [.int x10, .int x11, .int x12, .ref h13, .ref h14, .ref h15, .ref h16, .ref h17, .ref h18, .ref h19, .ref h20, .ref h21, .ref h22, .int x23, .int x24, .int x25, .int x26, .int x27])), (h3, .inl (cI, 7, .inl f28))] H → va_D A [(h0, .inr (3, [.ref h2, .ref h3, .ref h4, .ref h5, .ref h6, .ref h7, .int x8, .int x9])), (h2, .inr (8, [.int x10, .int x11, .int x12, .ref h13, .ref h14, .ref h15, .ref h16, .ref h17, .ref h18, .ref h19, .ref h20, .ref h21, .ref h22, .int x23, .int x24, .int x25, .int x26, .int x27])), (h3, .inl (cI, 7, .inl f28))] → va_S A s.heap H locs → lv_has ls 4 [(3, .int x_4), (2, .int x_3), (0, .ref h0), (1, .int x1)] → W p l e (rmL 1 0 0) s m [.ref h0, .int x1].toArray below meth c H locs 0 0 (ZX D below [.ref h0, .int x1] s (rmL 1 0 0) [(h0, .inr (3, [.ref h2, .ref h3, .ref h4, .ref h5, .ref h6, .ref h7, .int x8, .int x9])), (h2, .inr (8, [.int x10, .int x11, .int x12, .ref h13, .ref h14, .ref h15, .ref h16, .ref h17, .ref h18, .ref h19, .ref h20, .ref h21, .ref h22, .int x23, .int x24, .int x25, .int x26, .int x27])), (h3, .inl (cI, 7, .inl f28))] (fun r w1 => ∃ z1 : Int32, 0 ≤ z1.toInt ∧ 0 ≤ -z1.toInt + 127 ∧ r = some (.int z1) ∧ w1 = [(h0, .inr (3, [.ref h2, .ref h3, .ref h4, .ref h5, .ref h6, .ref h7, .int x8, .int x9])), (h2, .inr (8, [.int x10, .int x11, .int x12, .ref h13, .ref h14, .ref h15, .ref h16, .ref h17, .ref h18, .ref h19, .ref h20, .ref h21, .ref h22, .int x23, .int x24, .int x25, .int x26, .int x27])), (h3, .inl (cI, 7, .inl f28))])) (F0 m 4 ls []) := by
    intro n
    induction n with
    | zero => intro x_3 x_4 H locs ls g_6 g_7 g_8 g_9 g_10; omega
    | succ n ihlp_5 =>
      intro x_3 x_4 H locs ls g_6 g_7 g_8 g_9 g_10 hP hD hS hl
      refine lv_iload_n hx hb dX3_placesOf_4 rfl (lv_at hl 0 rfl) ?_
      refine lv_aload_n hx hb dX3_placesOf_5 rfl (lv_at hl 2 rfl) ?_
      refine va_get (D := D) (ci := 3) (v := .ref h2) (C := RX3) (T := TX3) (N := 8) hx hb hts inX3 hown hG.1 hP 0 rfl rfl 0 (by decide) (hts _ kw425) (fun _ h9 => h9) rfl dX3_placesOf_6 ?_
      refine va_get (D := D) (ci := 8) (v := .int x12) (C := RX8) (T := TX8) (N := 18) hx hb hts inX8 hown hG.1 hP 1 rfl rfl 2 (by decide) (hts _ kw211) (fun _ h9 => h9) rfl dX3_placesOf_9 ?_
      refine lv_icmp_ge (tgt := 37) hx hb dX3_placesOf_12 (by decide) (fun c_11 => ?_) (fun c_11 => ?_)
      · have fc_11 : x12.toInt ≤ x_4.toInt := i_le rfl rfl c_11
        refine lv_iload_n hx hb dX3_placesOf_37 rfl (lv_at hl 1 rfl) ?_
        have hP9 := hP.sub (ws' := [(h0, .inr (3, [.ref h2, .ref h3, .ref h4, .ref h5, .ref h6, .ref h7, .int x8, .int x9])), (h2, .inr (8, [.int x10, .int x11, .int x12, .ref h13, .ref h14, .ref h15, .ref h16, .ref h17, .ref h18, .ref h19, .ref h20, .ref h21, .ref h22, .int x23, .int x24, .int x25, .int x26, .int x27])), (h3, .inl (cI, 7, .inl f28))]) [0, 1, 2] rfl
        have hD9 := hD.sub (ws' := [(h0, .inr (3, [.ref h2, .ref h3, .ref h4, .ref h5, .ref h6, .ref h7, .int x8, .int x9])), (h2, .inr (8, [.int x10, .int x11, .int x12, .ref h13, .ref h14, .ref h15, .ref h16, .ref h17, .ref h18, .ref h19, .ref h20, .ref h21, .ref h22, .int x23, .int x24, .int x25, .int x26, .int x27])), (h3, .inl (cI, 7, .inl f28))]) [0, 1, 2] (by decide) rfl
        exact xr_i (rm := (rmL 1 0 0)) hx hb hr hlocks hAe hS hP9 hD9 rfl (Nat.le_of_ble_eq_true rfl) (Nat.le_of_ble_eq_true rfl) dX3_placesOf_38 ⟨x_3, by omega, by omega, rfl, rfl⟩
      · have fc_11 : x_4.toInt < x12.toInt := i_nle rfl rfl c_11
        refine lv_aload_n hx hb dX3_placesOf_15 rfl (lv_at hl 2 rfl) ?_
        refine va_get (D := D) (ci := 3) (v := .ref h3) (C := RX3) (T := TX3) (N := 8) hx hb hts inX3 hown hG.1 hP 0 rfl rfl 1 (by decide) (hts _ kw428) (fun _ h9 => h9) rfl dX3_placesOf_16 ?_
        refine lv_iload_n hx hb dX3_placesOf_19 rfl (lv_at hl 0 rfl) ?_
        refine xa_ildR hx hb hG hP 2 rfl (vp_in_iff.mpr ⟨by omega, by omega⟩) dX3_placesOf_20 (fun v_12 hv => ?_)
        have g_13 := hv _ _ _ ga0 (by omega)
        refine lv_iload_n hx hb dX3_placesOf_21 rfl (lv_at hl 3 rfl) ?_
        refine lv_icmp_ne (tgt := 31) hx hb dX3_placesOf_22 (by decide) (fun c_14 => ?_) (fun c_14 => ?_)
        · have fc_14 : v_12.toInt ≠ x1.toInt := i_ne rfl rfl c_14
          obtain ⟨v_15, ev_15⟩ : ∃ y : Int32, y = x_4 + 1 := ⟨_, rfl⟩
          have gv_15 : v_15.toInt = x_4.toInt + 1 := by
            have zy : (1 : Int32).toInt = 1 := by decide
            rw [ev_15, i32_add (by rw [zy]; omega) (by rw [zy]; omega), zy]
          refine lv_iinc (v := v_15) (lv' := [(3, .int v_15), (2, .int x_3), (0, .ref h0), (1, .int x1)]) hx hb dX3_placesOf_31 hl (k := 0) rfl (by rw [ev_15]; rfl) (by decide) rfl (fun ls hl => ?_)
          refine lv_goto (tgt := 4) hx hb dX3_placesOf_34 (by decide) ?_
          exact ihlp_5  x_3 v_15 _ _ _ (by omega) (by omega) (by omega) (by omega) (by omega) (hP.sub (ws' := [(h0, .inr (3, [.ref h2, .ref h3, .ref h4, .ref h5, .ref h6, .ref h7, .int x8, .int x9])), (h2, .inr (8, [.int x10, .int x11, .int x12, .ref h13, .ref h14, .ref h15, .ref h16, .ref h17, .ref h18, .ref h19, .ref h20, .ref h21, .ref h22, .int x23, .int x24, .int x25, .int x26, .int x27])), (h3, .inl (cI, 7, .inl f28))]) [0, 1, 2] rfl) (hD.sub (ws' := [(h0, .inr (3, [.ref h2, .ref h3, .ref h4, .ref h5, .ref h6, .ref h7, .int x8, .int x9])), (h2, .inr (8, [.int x10, .int x11, .int x12, .ref h13, .ref h14, .ref h15, .ref h16, .ref h17, .ref h18, .ref h19, .ref h20, .ref h21, .ref h22, .int x23, .int x24, .int x25, .int x26, .int x27])), (h3, .inl (cI, 7, .inl f28))]) [0, 1, 2] (by decide) rfl) hS (lv_sub hl [0, 1, 2, 3] rfl)
        · have fc_14 : v_12.toInt = x1.toInt := i_eq rfl rfl c_14
          refine lv_iload_n hx hb dX3_placesOf_25 rfl (lv_at hl 1 rfl) ?_
          refine lv_iconst (v := 1) hx hb dX3_placesOf_26 (by decide +kernel) ?_
          refine lv_iload_n hx hb dX3_placesOf_27 rfl (lv_at hl 0 rfl) ?_
          refine lv_ishl hx hb dX3_placesOf_28 ?_
          refine lv_topi (fun v_16 ev_16 => ?_)
          have gv_16 : 1 ≤ v_16.toInt ∧ v_16.toInt ≤ 64 := by rw [ev_16]; exact i32_shl1 (by omega) (by omega)
          refine lv_ior hx hb dX3_placesOf_29 ?_
          refine lv_topi (fun v_17 ev_17 => ?_)
          have gv_17 : 0 ≤ v_17.toInt ∧ v_17.toInt ≤ 127 := by rw [ev_17]; exact i32_or (by omega) (by omega) (by omega) (by omega)
          refine lv_istore_n (lv' := [(2, .int v_17), (3, .int x_4), (0, .ref h0), (1, .int x1)]) hx hb dX3_placesOf_30 rfl hl (by decide) rfl (fun ls hl => ?_)
          obtain ⟨v_18, ev_18⟩ : ∃ y : Int32, y = x_4 + 1 := ⟨_, rfl⟩
          have gv_18 : v_18.toInt = x_4.toInt + 1 := by
            have zy : (1 : Int32).toInt = 1 := by decide
            rw [ev_18, i32_add (by rw [zy]; omega) (by rw [zy]; omega), zy]
          refine lv_iinc (v := v_18) (lv' := [(3, .int v_18), (2, .int v_17), (0, .ref h0), (1, .int x1)]) hx hb dX3_placesOf_31 hl (k := 1) rfl (by rw [ev_18]; rfl) (by decide) rfl (fun ls hl => ?_)
          refine lv_goto (tgt := 4) hx hb dX3_placesOf_34 (by decide) ?_
          exact ihlp_5  v_17 v_18 _ _ _ (by omega) (by omega) (by omega) (by omega) (by omega) (hP.sub (ws' := [(h0, .inr (3, [.ref h2, .ref h3, .ref h4, .ref h5, .ref h6, .ref h7, .int x8, .int x9])), (h2, .inr (8, [.int x10, .int x11, .int x12, .ref h13, .ref h14, .ref h15, .ref h16, .ref h17, .ref h18, .ref h19, .ref h20, .ref h21, .ref h22, .int x23, .int x24, .int x25, .int x26, .int x27])), (h3, .inl (cI, 7, .inl f28))]) [0, 1, 2] rfl) (hD.sub (ws' := [(h0, .inr (3, [.ref h2, .ref h3, .ref h4, .ref h5, .ref h6, .ref h7, .int x8, .int x9])), (h2, .inr (8, [.int x10, .int x11, .int x12, .ref h13, .ref h14, .ref h15, .ref h16, .ref h17, .ref h18, .ref h19, .ref h20, .ref h21, .ref h22, .int x23, .int x24, .int x25, .int x26, .int x27])), (h3, .inl (cI, 7, .inl f28))]) [0, 1, 2] (by decide) rfl) hS (lv_sub hl [0, 1, 2, 3] rfl)
  exact lp_5 9 0 0 _ _ _ (by have zc0 : (0 : Int32).toInt = 0 := (by decide); omega) (by have zc0 : (0 : Int32).toInt = 0 := (by decide); omega) (by have zc0 : (0 : Int32).toInt = 0 := (by decide); omega) (by have zc0 : (0 : Int32).toInt = 0 := (by decide); omega) (by have zc0 : (0 : Int32).toInt = 0 := (by decide); omega) (hP.sub (ws' := [(h0, .inr (3, [.ref h2, .ref h3, .ref h4, .ref h5, .ref h6, .ref h7, .int x8, .int x9])), (h2, .inr (8, [.int x10, .int x11, .int x12, .ref h13, .ref h14, .ref h15, .ref h16, .ref h17, .ref h18, .ref h19, .ref h20, .ref h21, .ref h22, .int x23, .int x24, .int x25, .int x26, .int x27])), (h3, .inl (cI, 7, .inl f28))]) [0, 1, 2] rfl) (hD.sub (ws' := [(h0, .inr (3, [.ref h2, .ref h3, .ref h4, .ref h5, .ref h6, .ref h7, .int x8, .int x9])), (h2, .inr (8, [.int x10, .int x11, .int x12, .ref h13, .ref h14, .ref h15, .ref h16, .ref h17, .ref h18, .ref h19, .ref h20, .ref h21, .ref h22, .int x23, .int x24, .int x25, .int x26, .int x27])), (h3, .inl (cI, 7, .inl f28))]) [0, 1, 2] (by decide) rfl) hS (lv_sub hl [0, 1, 2, 3] rfl)
theorem dX3_plantedWith_0 : decode cX3_plantedWith 0 = .ok (.iconst 0, 1) := by decide +kernel
theorem dX3_plantedWith_1 : decode cX3_plantedWith 1 = .ok (.istore_n 2, 1) := by decide +kernel
theorem dX3_plantedWith_2 : decode cX3_plantedWith 2 = .ok (.iconst 0, 1) := by decide +kernel
theorem dX3_plantedWith_3 : decode cX3_plantedWith 3 = .ok (.istore_n 3, 1) := by decide +kernel
theorem dX3_plantedWith_4 : decode cX3_plantedWith 4 = .ok (.iload_n 3, 1) := by decide +kernel
theorem dX3_plantedWith_5 : decode cX3_plantedWith 5 = .ok (.aload_n 0, 1) := by decide +kernel
theorem dX3_plantedWith_6 : decode cX3_plantedWith 6 = .ok (.getfield 33, 3) := by decide +kernel
theorem dX3_plantedWith_9 : decode cX3_plantedWith 9 = .ok (.getfield 59, 3) := by decide +kernel
theorem dX3_plantedWith_12 : decode cX3_plantedWith 12 = .ok (.if_icmp .ge 25, 3) := by decide +kernel
theorem dX3_plantedWith_37 : decode cX3_plantedWith 37 = .ok (.iload_n 2, 1) := by decide +kernel
theorem dX3_plantedWith_38 : decode cX3_plantedWith 38 = .ok (.ireturn, 1) := by decide +kernel
theorem dX3_plantedWith_15 : decode cX3_plantedWith 15 = .ok (.aload_n 0, 1) := by decide +kernel
theorem kw435 : (.fieldLink RX3 18 "SpiceSwaps$Moment" "cropOf" "[I" : Cond) ∈ gT := gT_of 435 (by decide +kernel) (by decide +kernel)
theorem dX3_plantedWith_16 : decode cX3_plantedWith 16 = .ok (.getfield 18, 3) := by decide +kernel
theorem dX3_plantedWith_19 : decode cX3_plantedWith 19 = .ok (.iload_n 3, 1) := by decide +kernel
theorem dX3_plantedWith_20 : decode cX3_plantedWith 20 = .ok (.iaload, 1) := by decide +kernel
theorem dX3_plantedWith_21 : decode cX3_plantedWith 21 = .ok (.iload_n 1, 1) := by decide +kernel
theorem dX3_plantedWith_22 : decode cX3_plantedWith 22 = .ok (.if_icmp .ne 9, 3) := by decide +kernel
theorem dX3_plantedWith_31 : decode cX3_plantedWith 31 = .ok (.iinc 3 1, 3) := by decide +kernel
theorem dX3_plantedWith_34 : decode cX3_plantedWith 34 = .ok (.goto (-30), 3) := by decide +kernel
theorem dX3_plantedWith_25 : decode cX3_plantedWith 25 = .ok (.iload_n 2, 1) := by decide +kernel
theorem dX3_plantedWith_26 : decode cX3_plantedWith 26 = .ok (.iconst 1, 1) := by decide +kernel
theorem dX3_plantedWith_27 : decode cX3_plantedWith 27 = .ok (.iload_n 3, 1) := by decide +kernel
theorem dX3_plantedWith_28 : decode cX3_plantedWith 28 = .ok (.ishl, 1) := by decide +kernel
theorem dX3_plantedWith_29 : decode cX3_plantedWith 29 = .ok (.ior, 1) := by decide +kernel
theorem dX3_plantedWith_30 : decode cX3_plantedWith 30 = .ok (.istore_n 2, 1) := by decide +kernel
set_option maxHeartbeats 4000000 in
set_option maxRecDepth 100000 in
theorem sX3_plantedWith_1 (l : Launch) (D : va_G) (cB cI cJ cZ : ClassId) (aK aV : Nat → Nat) (h0 : Nat) (x1 : Int32) (h2 : Nat) (h3 : Nat) (h4 : Nat) (h5 : Nat) (h6 : Nat) (h7 : Nat) (x8 : Int32) (x9 : Int32) (x10 : Int32) (x11 : Int32) (x12 : Int32) (h13 : Nat) (h14 : Nat) (h15 : Nat) (h16 : Nat) (h17 : Nat) (h18 : Nat) (h19 : Nat) (h20 : Nat) (h21 : Nat) (h22 : Nat) (x23 : Int32) (x24 : Int32) (x25 : Int32) (x26 : Int32) (x27 : Int32) (f28 : Nat → Int32) (gh0 : 0 ≤ x9.toInt) (gh1 : 0 ≤ -x9.toInt + 999) (gh2 : 0 ≤ x10.toInt) (gh3 : 0 ≤ -x10.toInt + 4) (gh4 : 0 ≤ x11.toInt) (gh5 : 0 ≤ -x11.toInt + 3) (gh6 : 0 ≤ x12.toInt) (gh7 : 0 ≤ -x12.toInt + 7) (gh8 : 0 ≤ x26.toInt + 1) (gh9 : 0 ≤ -x26.toInt + 999) : MX l yX3_plantedWith cX3_plantedWith 4 (some .int) (rmL 1 0 0) D cB cI cJ cZ aK aV [.ref h0, .int x1] [(h0, .inr (3, [.ref h2, .ref h3, .ref h4, .ref h5, .ref h6, .ref h7, .int x8, .int x9])), (h2, .inr (8, [.int x10, .int x11, .int x12, .ref h13, .ref h14, .ref h15, .ref h16, .ref h17, .ref h18, .ref h19, .ref h20, .ref h21, .ref h22, .int x23, .int x24, .int x25, .int x26, .int x27])), (h5, .inl (cI, 7, .inl f28))] (fun r w1 => ∃ z1 : Int32, 0 ≤ z1.toInt ∧ 0 ≤ -z1.toInt + 127 ∧ r = some (.int z1) ∧ w1 = [(h0, .inr (3, [.ref h2, .ref h3, .ref h4, .ref h5, .ref h6, .ref h7, .int x8, .int x9])), (h2, .inr (8, [.int x10, .int x11, .int x12, .ref h13, .ref h14, .ref h15, .ref h16, .ref h17, .ref h18, .ref h19, .ref h20, .ref h21, .ref h22, .int x23, .int x24, .int x25, .int x26, .int x27])), (h5, .inl (cI, 7, .inl f28))]) := by
  refine MX.intro (by decide) (Nat.le_of_ble_eq_true rfl) ?_
  intro p e s m below meth c A ls hx hb hr hml hown hlocks hnm hts hG hE hA hS hP hD hl hAe
  have hl : lv_has ls 4 [(0, .ref h0), (1, .int x1)] := hl
  have hown : s.vm.findClass RX3 = some m.cls := hown
  refine lv_iconst (v := 0) hx hb dX3_plantedWith_0 (by decide +kernel) ?_
  refine lv_istore_n (lv' := [(2, .int 0), (0, .ref h0), (1, .int x1)]) hx hb dX3_plantedWith_1 rfl hl (by decide) rfl (fun ls hl => ?_)
  refine lv_iconst (v := 0) hx hb dX3_plantedWith_2 (by decide +kernel) ?_
  refine lv_istore_n (lv' := [(3, .int 0), (2, .int 0), (0, .ref h0), (1, .int x1)]) hx hb dX3_plantedWith_3 rfl hl (by decide) rfl (fun ls hl => ?_)
  have lp_5 : ∀ (n : Nat) (x_3 x_4 : Int32) (H : Heap) (locs : List Loc) (ls : Array Slot), 0 ≤ x_3.toInt → 0 ≤ -x_3.toInt + 127 → 0 ≤ x_4.toInt → 0 ≤ x12.toInt - x_4.toInt → -x_4.toInt + 7 < n → va_P D vwCl [(h0, .inr (3, [.ref h2, .ref h3, .ref h4, .ref h5, .ref h6, .ref h7, .int x8, .int x9])), (h2, .inr (8, [.int x10, .int x11, .int x12, .ref h13, .ref h14, .ref h15, .ref h16, .ref h17, .ref h18, .ref h19, .ref h20, .ref h21, .ref h22, .int x23, .int x24, .int x25, .int x26, .int x27])), (h5, .inl (cI, 7, .inl f28))] H → va_D A [(h0, .inr (3, [.ref h2, .ref h3, .ref h4, .ref h5, .ref h6, .ref h7, .int x8, .int x9])), (h2, .inr (8, [.int x10, .int x11, .int x12, .ref h13, .ref h14, .ref h15, .ref h16, .ref h17, .ref h18, .ref h19, .ref h20, .ref h21, .ref h22, .int x23, .int x24, .int x25, .int x26, .int x27])), (h5, .inl (cI, 7, .inl f28))] → va_S A s.heap H locs → lv_has ls 4 [(3, .int x_4), (2, .int x_3), (0, .ref h0), (1, .int x1)] → W p l e (rmL 1 0 0) s m [.ref h0, .int x1].toArray below meth c H locs 0 0 (ZX D below [.ref h0, .int x1] s (rmL 1 0 0) [(h0, .inr (3, [.ref h2, .ref h3, .ref h4, .ref h5, .ref h6, .ref h7, .int x8, .int x9])), (h2, .inr (8, [.int x10, .int x11, .int x12, .ref h13, .ref h14, .ref h15, .ref h16, .ref h17, .ref h18, .ref h19, .ref h20, .ref h21, .ref h22, .int x23, .int x24, .int x25, .int x26, .int x27])), (h5, .inl (cI, 7, .inl f28))] (fun r w1 => ∃ z1 : Int32, 0 ≤ z1.toInt ∧ 0 ≤ -z1.toInt + 127 ∧ r = some (.int z1) ∧ w1 = [(h0, .inr (3, [.ref h2, .ref h3, .ref h4, .ref h5, .ref h6, .ref h7, .int x8, .int x9])), (h2, .inr (8, [.int x10, .int x11, .int x12, .ref h13, .ref h14, .ref h15, .ref h16, .ref h17, .ref h18, .ref h19, .ref h20, .ref h21, .ref h22, .int x23, .int x24, .int x25, .int x26, .int x27])), (h5, .inl (cI, 7, .inl f28))])) (F0 m 4 ls []) := by
    intro n
    induction n with
    | zero => intro x_3 x_4 H locs ls g_6 g_7 g_8 g_9 g_10; omega
    | succ n ihlp_5 =>
      intro x_3 x_4 H locs ls g_6 g_7 g_8 g_9 g_10 hP hD hS hl
      refine lv_iload_n hx hb dX3_plantedWith_4 rfl (lv_at hl 0 rfl) ?_
      refine lv_aload_n hx hb dX3_plantedWith_5 rfl (lv_at hl 2 rfl) ?_
      refine va_get (D := D) (ci := 3) (v := .ref h2) (C := RX3) (T := TX3) (N := 8) hx hb hts inX3 hown hG.1 hP 0 rfl rfl 0 (by decide) (hts _ kw425) (fun _ h9 => h9) rfl dX3_plantedWith_6 ?_
      refine va_get (D := D) (ci := 8) (v := .int x12) (C := RX8) (T := TX8) (N := 18) hx hb hts inX8 hown hG.1 hP 1 rfl rfl 2 (by decide) (hts _ kw211) (fun _ h9 => h9) rfl dX3_plantedWith_9 ?_
      refine lv_icmp_ge (tgt := 37) hx hb dX3_plantedWith_12 (by decide) (fun c_11 => ?_) (fun c_11 => ?_)
      · have fc_11 : x12.toInt ≤ x_4.toInt := i_le rfl rfl c_11
        refine lv_iload_n hx hb dX3_plantedWith_37 rfl (lv_at hl 1 rfl) ?_
        have hP9 := hP.sub (ws' := [(h0, .inr (3, [.ref h2, .ref h3, .ref h4, .ref h5, .ref h6, .ref h7, .int x8, .int x9])), (h2, .inr (8, [.int x10, .int x11, .int x12, .ref h13, .ref h14, .ref h15, .ref h16, .ref h17, .ref h18, .ref h19, .ref h20, .ref h21, .ref h22, .int x23, .int x24, .int x25, .int x26, .int x27])), (h5, .inl (cI, 7, .inl f28))]) [0, 1, 2] rfl
        have hD9 := hD.sub (ws' := [(h0, .inr (3, [.ref h2, .ref h3, .ref h4, .ref h5, .ref h6, .ref h7, .int x8, .int x9])), (h2, .inr (8, [.int x10, .int x11, .int x12, .ref h13, .ref h14, .ref h15, .ref h16, .ref h17, .ref h18, .ref h19, .ref h20, .ref h21, .ref h22, .int x23, .int x24, .int x25, .int x26, .int x27])), (h5, .inl (cI, 7, .inl f28))]) [0, 1, 2] (by decide) rfl
        exact xr_i (rm := (rmL 1 0 0)) hx hb hr hlocks hAe hS hP9 hD9 rfl (Nat.le_of_ble_eq_true rfl) (Nat.le_of_ble_eq_true rfl) dX3_plantedWith_38 ⟨x_3, by omega, by omega, rfl, rfl⟩
      · have fc_11 : x_4.toInt < x12.toInt := i_nle rfl rfl c_11
        refine lv_aload_n hx hb dX3_plantedWith_15 rfl (lv_at hl 2 rfl) ?_
        refine va_get (D := D) (ci := 3) (v := .ref h5) (C := RX3) (T := TX3) (N := 8) hx hb hts inX3 hown hG.1 hP 0 rfl rfl 3 (by decide) (hts _ kw435) (fun _ h9 => h9) rfl dX3_plantedWith_16 ?_
        refine lv_iload_n hx hb dX3_plantedWith_19 rfl (lv_at hl 0 rfl) ?_
        refine xa_ildU hx hb hG hP 2 rfl (vp_in_iff.mpr ⟨by omega, by omega⟩) dX3_plantedWith_20 (fun v_12 => ?_)
        refine lv_iload_n hx hb dX3_plantedWith_21 rfl (lv_at hl 3 rfl) ?_
        refine lv_icmp_ne (tgt := 31) hx hb dX3_plantedWith_22 (by decide) (fun c_13 => ?_) (fun c_13 => ?_)
        · have fc_13 : v_12.toInt ≠ x1.toInt := i_ne rfl rfl c_13
          obtain ⟨v_14, ev_14⟩ : ∃ y : Int32, y = x_4 + 1 := ⟨_, rfl⟩
          have gv_14 : v_14.toInt = x_4.toInt + 1 := by
            have zy : (1 : Int32).toInt = 1 := by decide
            rw [ev_14, i32_add (by rw [zy]; omega) (by rw [zy]; omega), zy]
          refine lv_iinc (v := v_14) (lv' := [(3, .int v_14), (2, .int x_3), (0, .ref h0), (1, .int x1)]) hx hb dX3_plantedWith_31 hl (k := 0) rfl (by rw [ev_14]; rfl) (by decide) rfl (fun ls hl => ?_)
          refine lv_goto (tgt := 4) hx hb dX3_plantedWith_34 (by decide) ?_
          exact ihlp_5  x_3 v_14 _ _ _ (by omega) (by omega) (by omega) (by omega) (by omega) (hP.sub (ws' := [(h0, .inr (3, [.ref h2, .ref h3, .ref h4, .ref h5, .ref h6, .ref h7, .int x8, .int x9])), (h2, .inr (8, [.int x10, .int x11, .int x12, .ref h13, .ref h14, .ref h15, .ref h16, .ref h17, .ref h18, .ref h19, .ref h20, .ref h21, .ref h22, .int x23, .int x24, .int x25, .int x26, .int x27])), (h5, .inl (cI, 7, .inl f28))]) [0, 1, 2] rfl) (hD.sub (ws' := [(h0, .inr (3, [.ref h2, .ref h3, .ref h4, .ref h5, .ref h6, .ref h7, .int x8, .int x9])), (h2, .inr (8, [.int x10, .int x11, .int x12, .ref h13, .ref h14, .ref h15, .ref h16, .ref h17, .ref h18, .ref h19, .ref h20, .ref h21, .ref h22, .int x23, .int x24, .int x25, .int x26, .int x27])), (h5, .inl (cI, 7, .inl f28))]) [0, 1, 2] (by decide) rfl) hS (lv_sub hl [0, 1, 2, 3] rfl)
        · have fc_13 : v_12.toInt = x1.toInt := i_eq rfl rfl c_13
          refine lv_iload_n hx hb dX3_plantedWith_25 rfl (lv_at hl 1 rfl) ?_
          refine lv_iconst (v := 1) hx hb dX3_plantedWith_26 (by decide +kernel) ?_
          refine lv_iload_n hx hb dX3_plantedWith_27 rfl (lv_at hl 0 rfl) ?_
          refine lv_ishl hx hb dX3_plantedWith_28 ?_
          refine lv_topi (fun v_15 ev_15 => ?_)
          have gv_15 : 1 ≤ v_15.toInt ∧ v_15.toInt ≤ 64 := by rw [ev_15]; exact i32_shl1 (by omega) (by omega)
          refine lv_ior hx hb dX3_plantedWith_29 ?_
          refine lv_topi (fun v_16 ev_16 => ?_)
          have gv_16 : 0 ≤ v_16.toInt ∧ v_16.toInt ≤ 127 := by rw [ev_16]; exact i32_or (by omega) (by omega) (by omega) (by omega)
          refine lv_istore_n (lv' := [(2, .int v_16), (3, .int x_4), (0, .ref h0), (1, .int x1)]) hx hb dX3_plantedWith_30 rfl hl (by decide) rfl (fun ls hl => ?_)
          obtain ⟨v_17, ev_17⟩ : ∃ y : Int32, y = x_4 + 1 := ⟨_, rfl⟩
          have gv_17 : v_17.toInt = x_4.toInt + 1 := by
            have zy : (1 : Int32).toInt = 1 := by decide
            rw [ev_17, i32_add (by rw [zy]; omega) (by rw [zy]; omega), zy]
          refine lv_iinc (v := v_17) (lv' := [(3, .int v_17), (2, .int v_16), (0, .ref h0), (1, .int x1)]) hx hb dX3_plantedWith_31 hl (k := 1) rfl (by rw [ev_17]; rfl) (by decide) rfl (fun ls hl => ?_)
          refine lv_goto (tgt := 4) hx hb dX3_plantedWith_34 (by decide) ?_
          exact ihlp_5  v_16 v_17 _ _ _ (by omega) (by omega) (by omega) (by omega) (by omega) (hP.sub (ws' := [(h0, .inr (3, [.ref h2, .ref h3, .ref h4, .ref h5, .ref h6, .ref h7, .int x8, .int x9])), (h2, .inr (8, [.int x10, .int x11, .int x12, .ref h13, .ref h14, .ref h15, .ref h16, .ref h17, .ref h18, .ref h19, .ref h20, .ref h21, .ref h22, .int x23, .int x24, .int x25, .int x26, .int x27])), (h5, .inl (cI, 7, .inl f28))]) [0, 1, 2] rfl) (hD.sub (ws' := [(h0, .inr (3, [.ref h2, .ref h3, .ref h4, .ref h5, .ref h6, .ref h7, .int x8, .int x9])), (h2, .inr (8, [.int x10, .int x11, .int x12, .ref h13, .ref h14, .ref h15, .ref h16, .ref h17, .ref h18, .ref h19, .ref h20, .ref h21, .ref h22, .int x23, .int x24, .int x25, .int x26, .int x27])), (h5, .inl (cI, 7, .inl f28))]) [0, 1, 2] (by decide) rfl) hS (lv_sub hl [0, 1, 2, 3] rfl)
  exact lp_5 9 0 0 _ _ _ (by have zc0 : (0 : Int32).toInt = 0 := (by decide); omega) (by have zc0 : (0 : Int32).toInt = 0 := (by decide); omega) (by have zc0 : (0 : Int32).toInt = 0 := (by decide); omega) (by have zc0 : (0 : Int32).toInt = 0 := (by decide); omega) (by have zc0 : (0 : Int32).toInt = 0 := (by decide); omega) (hP.sub (ws' := [(h0, .inr (3, [.ref h2, .ref h3, .ref h4, .ref h5, .ref h6, .ref h7, .int x8, .int x9])), (h2, .inr (8, [.int x10, .int x11, .int x12, .ref h13, .ref h14, .ref h15, .ref h16, .ref h17, .ref h18, .ref h19, .ref h20, .ref h21, .ref h22, .int x23, .int x24, .int x25, .int x26, .int x27])), (h5, .inl (cI, 7, .inl f28))]) [0, 1, 2] rfl) (hD.sub (ws' := [(h0, .inr (3, [.ref h2, .ref h3, .ref h4, .ref h5, .ref h6, .ref h7, .int x8, .int x9])), (h2, .inr (8, [.int x10, .int x11, .int x12, .ref h13, .ref h14, .ref h15, .ref h16, .ref h17, .ref h18, .ref h19, .ref h20, .ref h21, .ref h22, .int x23, .int x24, .int x25, .int x26, .int x27])), (h5, .inl (cI, 7, .inl f28))]) [0, 1, 2] (by decide) rfl) hS (lv_sub hl [0, 1, 2, 3] rfl)
theorem dX3_growersOf_0 : decode cX3_growersOf 0 = .ok (.iconst 0, 1) := by decide +kernel
theorem dX3_growersOf_1 : decode cX3_growersOf 1 = .ok (.istore_n 2, 1) := by decide +kernel
theorem dX3_growersOf_2 : decode cX3_growersOf 2 = .ok (.iconst 0, 1) := by decide +kernel
theorem dX3_growersOf_3 : decode cX3_growersOf 3 = .ok (.istore_n 3, 1) := by decide +kernel
theorem dX3_growersOf_4 : decode cX3_growersOf 4 = .ok (.iload_n 3, 1) := by decide +kernel
theorem dX3_growersOf_5 : decode cX3_growersOf 5 = .ok (.aload_n 0, 1) := by decide +kernel
theorem dX3_growersOf_6 : decode cX3_growersOf 6 = .ok (.getfield 33, 3) := by decide +kernel
theorem dX3_growersOf_9 : decode cX3_growersOf 9 = .ok (.getfield 59, 3) := by decide +kernel
theorem dX3_growersOf_12 : decode cX3_growersOf 12 = .ok (.if_icmp .ge 30, 3) := by decide +kernel
theorem dX3_growersOf_42 : decode cX3_growersOf 42 = .ok (.iload_n 2, 1) := by decide +kernel
theorem dX3_growersOf_43 : decode cX3_growersOf 43 = .ok (.ireturn, 1) := by decide +kernel
theorem dX3_growersOf_15 : decode cX3_growersOf 15 = .ok (.aload_n 0, 1) := by decide +kernel
theorem dX3_growersOf_16 : decode cX3_growersOf 16 = .ok (.getfield 18, 3) := by decide +kernel
theorem dX3_growersOf_19 : decode cX3_growersOf 19 = .ok (.iload_n 3, 1) := by decide +kernel
theorem dX3_growersOf_20 : decode cX3_growersOf 20 = .ok (.iaload, 1) := by decide +kernel
theorem dX3_growersOf_21 : decode cX3_growersOf 21 = .ok (.iload_n 1, 1) := by decide +kernel
theorem dX3_growersOf_22 : decode cX3_growersOf 22 = .ok (.if_icmp .ne 14, 3) := by decide +kernel
theorem dX3_growersOf_36 : decode cX3_growersOf 36 = .ok (.iinc 3 1, 3) := by decide +kernel
theorem dX3_growersOf_39 : decode cX3_growersOf 39 = .ok (.goto (-35), 3) := by decide +kernel
theorem dX3_growersOf_25 : decode cX3_growersOf 25 = .ok (.iload_n 2, 1) := by decide +kernel
theorem dX3_growersOf_26 : decode cX3_growersOf 26 = .ok (.iconst 1, 1) := by decide +kernel
theorem dX3_growersOf_27 : decode cX3_growersOf 27 = .ok (.aload_n 0, 1) := by decide +kernel
theorem dX3_growersOf_28 : decode cX3_growersOf 28 = .ok (.getfield 11, 3) := by decide +kernel
theorem dX3_growersOf_31 : decode cX3_growersOf 31 = .ok (.iload_n 3, 1) := by decide +kernel
theorem dX3_growersOf_32 : decode cX3_growersOf 32 = .ok (.iaload, 1) := by decide +kernel
theorem dX3_growersOf_33 : decode cX3_growersOf 33 = .ok (.ishl, 1) := by decide +kernel
theorem dX3_growersOf_34 : decode cX3_growersOf 34 = .ok (.ior, 1) := by decide +kernel
theorem dX3_growersOf_35 : decode cX3_growersOf 35 = .ok (.istore_n 2, 1) := by decide +kernel
set_option maxHeartbeats 4000000 in
set_option maxRecDepth 100000 in
theorem sX3_growersOf_1 (l : Launch) (D : va_G) (cB cI cJ cZ : ClassId) (aK aV : Nat → Nat) (h0 : Nat) (x1 : Int32) (h2 : Nat) (h3 : Nat) (h4 : Nat) (h5 : Nat) (h6 : Nat) (h7 : Nat) (x8 : Int32) (x9 : Int32) (x10 : Int32) (x11 : Int32) (x12 : Int32) (h13 : Nat) (h14 : Nat) (h15 : Nat) (h16 : Nat) (h17 : Nat) (h18 : Nat) (h19 : Nat) (h20 : Nat) (h21 : Nat) (h22 : Nat) (x23 : Int32) (x24 : Int32) (x25 : Int32) (x26 : Int32) (x27 : Int32) (f28 : Nat → Int32) (f29 : Nat → Int32) (gh0 : 0 ≤ x9.toInt) (gh1 : 0 ≤ -x9.toInt + 999) (gh2 : 0 ≤ x10.toInt) (gh3 : 0 ≤ -x10.toInt + 4) (gh4 : 0 ≤ x11.toInt) (gh5 : 0 ≤ -x11.toInt + 3) (gh6 : 0 ≤ x12.toInt) (gh7 : 0 ≤ -x12.toInt + 7) (gh8 : 0 ≤ x26.toInt + 1) (gh9 : 0 ≤ -x26.toInt + 999) (ga0 : AR f29 (0) (3) (x12.toInt)) : MX l yX3_growersOf cX3_growersOf 4 (some .int) (rmL 1 0 0) D cB cI cJ cZ aK aV [.ref h0, .int x1] [(h0, .inr (3, [.ref h2, .ref h3, .ref h4, .ref h5, .ref h6, .ref h7, .int x8, .int x9])), (h2, .inr (8, [.int x10, .int x11, .int x12, .ref h13, .ref h14, .ref h15, .ref h16, .ref h17, .ref h18, .ref h19, .ref h20, .ref h21, .ref h22, .int x23, .int x24, .int x25, .int x26, .int x27])), (h5, .inl (cI, 7, .inl f28)), (h3, .inl (cI, 7, .inl f29))] (fun r w1 => ∃ z1 : Int32, 0 ≤ z1.toInt ∧ 0 ≤ -z1.toInt + 127 ∧ r = some (.int z1) ∧ w1 = [(h0, .inr (3, [.ref h2, .ref h3, .ref h4, .ref h5, .ref h6, .ref h7, .int x8, .int x9])), (h2, .inr (8, [.int x10, .int x11, .int x12, .ref h13, .ref h14, .ref h15, .ref h16, .ref h17, .ref h18, .ref h19, .ref h20, .ref h21, .ref h22, .int x23, .int x24, .int x25, .int x26, .int x27])), (h5, .inl (cI, 7, .inl f28)), (h3, .inl (cI, 7, .inl f29))]) := by
  refine MX.intro (by decide) (Nat.le_of_ble_eq_true rfl) ?_
  intro p e s m below meth c A ls hx hb hr hml hown hlocks hnm hts hG hE hA hS hP hD hl hAe
  have hl : lv_has ls 4 [(0, .ref h0), (1, .int x1)] := hl
  have hown : s.vm.findClass RX3 = some m.cls := hown
  refine lv_iconst (v := 0) hx hb dX3_growersOf_0 (by decide +kernel) ?_
  refine lv_istore_n (lv' := [(2, .int 0), (0, .ref h0), (1, .int x1)]) hx hb dX3_growersOf_1 rfl hl (by decide) rfl (fun ls hl => ?_)
  refine lv_iconst (v := 0) hx hb dX3_growersOf_2 (by decide +kernel) ?_
  refine lv_istore_n (lv' := [(3, .int 0), (2, .int 0), (0, .ref h0), (1, .int x1)]) hx hb dX3_growersOf_3 rfl hl (by decide) rfl (fun ls hl => ?_)
  have lp_5 : ∀ (n : Nat) (x_3 x_4 : Int32) (H : Heap) (locs : List Loc) (ls : Array Slot), 0 ≤ x_3.toInt → 0 ≤ -x_3.toInt + 127 → 0 ≤ x_4.toInt → 0 ≤ x12.toInt - x_4.toInt → -x_4.toInt + 7 < n → va_P D vwCl [(h0, .inr (3, [.ref h2, .ref h3, .ref h4, .ref h5, .ref h6, .ref h7, .int x8, .int x9])), (h2, .inr (8, [.int x10, .int x11, .int x12, .ref h13, .ref h14, .ref h15, .ref h16, .ref h17, .ref h18, .ref h19, .ref h20, .ref h21, .ref h22, .int x23, .int x24, .int x25, .int x26, .int x27])), (h5, .inl (cI, 7, .inl f28)), (h3, .inl (cI, 7, .inl f29))] H → va_D A [(h0, .inr (3, [.ref h2, .ref h3, .ref h4, .ref h5, .ref h6, .ref h7, .int x8, .int x9])), (h2, .inr (8, [.int x10, .int x11, .int x12, .ref h13, .ref h14, .ref h15, .ref h16, .ref h17, .ref h18, .ref h19, .ref h20, .ref h21, .ref h22, .int x23, .int x24, .int x25, .int x26, .int x27])), (h5, .inl (cI, 7, .inl f28)), (h3, .inl (cI, 7, .inl f29))] → va_S A s.heap H locs → lv_has ls 4 [(3, .int x_4), (2, .int x_3), (0, .ref h0), (1, .int x1)] → W p l e (rmL 1 0 0) s m [.ref h0, .int x1].toArray below meth c H locs 0 0 (ZX D below [.ref h0, .int x1] s (rmL 1 0 0) [(h0, .inr (3, [.ref h2, .ref h3, .ref h4, .ref h5, .ref h6, .ref h7, .int x8, .int x9])), (h2, .inr (8, [.int x10, .int x11, .int x12, .ref h13, .ref h14, .ref h15, .ref h16, .ref h17, .ref h18, .ref h19, .ref h20, .ref h21, .ref h22, .int x23, .int x24, .int x25, .int x26, .int x27])), (h5, .inl (cI, 7, .inl f28)), (h3, .inl (cI, 7, .inl f29))] (fun r w1 => ∃ z1 : Int32, 0 ≤ z1.toInt ∧ 0 ≤ -z1.toInt + 127 ∧ r = some (.int z1) ∧ w1 = [(h0, .inr (3, [.ref h2, .ref h3, .ref h4, .ref h5, .ref h6, .ref h7, .int x8, .int x9])), (h2, .inr (8, [.int x10, .int x11, .int x12, .ref h13, .ref h14, .ref h15, .ref h16, .ref h17, .ref h18, .ref h19, .ref h20, .ref h21, .ref h22, .int x23, .int x24, .int x25, .int x26, .int x27])), (h5, .inl (cI, 7, .inl f28)), (h3, .inl (cI, 7, .inl f29))])) (F0 m 4 ls []) := by
    intro n
    induction n with
    | zero => intro x_3 x_4 H locs ls g_6 g_7 g_8 g_9 g_10; omega
    | succ n ihlp_5 =>
      intro x_3 x_4 H locs ls g_6 g_7 g_8 g_9 g_10 hP hD hS hl
      refine lv_iload_n hx hb dX3_growersOf_4 rfl (lv_at hl 0 rfl) ?_
      refine lv_aload_n hx hb dX3_growersOf_5 rfl (lv_at hl 2 rfl) ?_
      refine va_get (D := D) (ci := 3) (v := .ref h2) (C := RX3) (T := TX3) (N := 8) hx hb hts inX3 hown hG.1 hP 0 rfl rfl 0 (by decide) (hts _ kw425) (fun _ h9 => h9) rfl dX3_growersOf_6 ?_
      refine va_get (D := D) (ci := 8) (v := .int x12) (C := RX8) (T := TX8) (N := 18) hx hb hts inX8 hown hG.1 hP 1 rfl rfl 2 (by decide) (hts _ kw211) (fun _ h9 => h9) rfl dX3_growersOf_9 ?_
      refine lv_icmp_ge (tgt := 42) hx hb dX3_growersOf_12 (by decide) (fun c_11 => ?_) (fun c_11 => ?_)
      · have fc_11 : x12.toInt ≤ x_4.toInt := i_le rfl rfl c_11
        refine lv_iload_n hx hb dX3_growersOf_42 rfl (lv_at hl 1 rfl) ?_
        have hP9 := hP.sub (ws' := [(h0, .inr (3, [.ref h2, .ref h3, .ref h4, .ref h5, .ref h6, .ref h7, .int x8, .int x9])), (h2, .inr (8, [.int x10, .int x11, .int x12, .ref h13, .ref h14, .ref h15, .ref h16, .ref h17, .ref h18, .ref h19, .ref h20, .ref h21, .ref h22, .int x23, .int x24, .int x25, .int x26, .int x27])), (h5, .inl (cI, 7, .inl f28)), (h3, .inl (cI, 7, .inl f29))]) [0, 1, 2, 3] rfl
        have hD9 := hD.sub (ws' := [(h0, .inr (3, [.ref h2, .ref h3, .ref h4, .ref h5, .ref h6, .ref h7, .int x8, .int x9])), (h2, .inr (8, [.int x10, .int x11, .int x12, .ref h13, .ref h14, .ref h15, .ref h16, .ref h17, .ref h18, .ref h19, .ref h20, .ref h21, .ref h22, .int x23, .int x24, .int x25, .int x26, .int x27])), (h5, .inl (cI, 7, .inl f28)), (h3, .inl (cI, 7, .inl f29))]) [0, 1, 2, 3] (by decide) rfl
        exact xr_i (rm := (rmL 1 0 0)) hx hb hr hlocks hAe hS hP9 hD9 rfl (Nat.le_of_ble_eq_true rfl) (Nat.le_of_ble_eq_true rfl) dX3_growersOf_43 ⟨x_3, by omega, by omega, rfl, rfl⟩
      · have fc_11 : x_4.toInt < x12.toInt := i_nle rfl rfl c_11
        refine lv_aload_n hx hb dX3_growersOf_15 rfl (lv_at hl 2 rfl) ?_
        refine va_get (D := D) (ci := 3) (v := .ref h5) (C := RX3) (T := TX3) (N := 8) hx hb hts inX3 hown hG.1 hP 0 rfl rfl 3 (by decide) (hts _ kw435) (fun _ h9 => h9) rfl dX3_growersOf_16 ?_
        refine lv_iload_n hx hb dX3_growersOf_19 rfl (lv_at hl 0 rfl) ?_
        refine xa_ildU hx hb hG hP 2 rfl (vp_in_iff.mpr ⟨by omega, by omega⟩) dX3_growersOf_20 (fun v_12 => ?_)
        refine lv_iload_n hx hb dX3_growersOf_21 rfl (lv_at hl 3 rfl) ?_
        refine lv_icmp_ne (tgt := 36) hx hb dX3_growersOf_22 (by decide) (fun c_13 => ?_) (fun c_13 => ?_)
        · have fc_13 : v_12.toInt ≠ x1.toInt := i_ne rfl rfl c_13
          obtain ⟨v_14, ev_14⟩ : ∃ y : Int32, y = x_4 + 1 := ⟨_, rfl⟩
          have gv_14 : v_14.toInt = x_4.toInt + 1 := by
            have zy : (1 : Int32).toInt = 1 := by decide
            rw [ev_14, i32_add (by rw [zy]; omega) (by rw [zy]; omega), zy]
          refine lv_iinc (v := v_14) (lv' := [(3, .int v_14), (2, .int x_3), (0, .ref h0), (1, .int x1)]) hx hb dX3_growersOf_36 hl (k := 0) rfl (by rw [ev_14]; rfl) (by decide) rfl (fun ls hl => ?_)
          refine lv_goto (tgt := 4) hx hb dX3_growersOf_39 (by decide) ?_
          exact ihlp_5  x_3 v_14 _ _ _ (by omega) (by omega) (by omega) (by omega) (by omega) (hP.sub (ws' := [(h0, .inr (3, [.ref h2, .ref h3, .ref h4, .ref h5, .ref h6, .ref h7, .int x8, .int x9])), (h2, .inr (8, [.int x10, .int x11, .int x12, .ref h13, .ref h14, .ref h15, .ref h16, .ref h17, .ref h18, .ref h19, .ref h20, .ref h21, .ref h22, .int x23, .int x24, .int x25, .int x26, .int x27])), (h5, .inl (cI, 7, .inl f28)), (h3, .inl (cI, 7, .inl f29))]) [0, 1, 2, 3] rfl) (hD.sub (ws' := [(h0, .inr (3, [.ref h2, .ref h3, .ref h4, .ref h5, .ref h6, .ref h7, .int x8, .int x9])), (h2, .inr (8, [.int x10, .int x11, .int x12, .ref h13, .ref h14, .ref h15, .ref h16, .ref h17, .ref h18, .ref h19, .ref h20, .ref h21, .ref h22, .int x23, .int x24, .int x25, .int x26, .int x27])), (h5, .inl (cI, 7, .inl f28)), (h3, .inl (cI, 7, .inl f29))]) [0, 1, 2, 3] (by decide) rfl) hS (lv_sub hl [0, 1, 2, 3] rfl)
        · have fc_13 : v_12.toInt = x1.toInt := i_eq rfl rfl c_13
          refine lv_iload_n hx hb dX3_growersOf_25 rfl (lv_at hl 1 rfl) ?_
          refine lv_iconst (v := 1) hx hb dX3_growersOf_26 (by decide +kernel) ?_
          refine lv_aload_n hx hb dX3_growersOf_27 rfl (lv_at hl 2 rfl) ?_
          refine va_get (D := D) (ci := 3) (v := .ref h3) (C := RX3) (T := TX3) (N := 8) hx hb hts inX3 hown hG.1 hP 0 rfl rfl 1 (by decide) (hts _ kw428) (fun _ h9 => h9) rfl dX3_growersOf_28 ?_
          refine lv_iload_n hx hb dX3_growersOf_31 rfl (lv_at hl 0 rfl) ?_
          refine xa_ildR hx hb hG hP 3 rfl (vp_in_iff.mpr ⟨by omega, by omega⟩) dX3_growersOf_32 (fun v_15 hv => ?_)
          have g_16 := hv _ _ _ ga0 (by omega)
          refine lv_ishl hx hb dX3_growersOf_33 ?_
          refine lv_topi (fun v_17 ev_17 => ?_)
          have gv_17 : 1 ≤ v_17.toInt ∧ v_17.toInt ≤ 64 := by rw [ev_17]; exact i32_shl1 (by omega) (by omega)
          refine lv_ior hx hb dX3_growersOf_34 ?_
          refine lv_topi (fun v_18 ev_18 => ?_)
          have gv_18 : 0 ≤ v_18.toInt ∧ v_18.toInt ≤ 127 := by rw [ev_18]; exact i32_or (by omega) (by omega) (by omega) (by omega)
          refine lv_istore_n (lv' := [(2, .int v_18), (3, .int x_4), (0, .ref h0), (1, .int x1)]) hx hb dX3_growersOf_35 rfl hl (by decide) rfl (fun ls hl => ?_)
          obtain ⟨v_19, ev_19⟩ : ∃ y : Int32, y = x_4 + 1 := ⟨_, rfl⟩
          have gv_19 : v_19.toInt = x_4.toInt + 1 := by
            have zy : (1 : Int32).toInt = 1 := by decide
            rw [ev_19, i32_add (by rw [zy]; omega) (by rw [zy]; omega), zy]
          refine lv_iinc (v := v_19) (lv' := [(3, .int v_19), (2, .int v_18), (0, .ref h0), (1, .int x1)]) hx hb dX3_growersOf_36 hl (k := 1) rfl (by rw [ev_19]; rfl) (by decide) rfl (fun ls hl => ?_)
          refine lv_goto (tgt := 4) hx hb dX3_growersOf_39 (by decide) ?_
          exact ihlp_5  v_18 v_19 _ _ _ (by omega) (by omega) (by omega) (by omega) (by omega) (hP.sub (ws' := [(h0, .inr (3, [.ref h2, .ref h3, .ref h4, .ref h5, .ref h6, .ref h7, .int x8, .int x9])), (h2, .inr (8, [.int x10, .int x11, .int x12, .ref h13, .ref h14, .ref h15, .ref h16, .ref h17, .ref h18, .ref h19, .ref h20, .ref h21, .ref h22, .int x23, .int x24, .int x25, .int x26, .int x27])), (h5, .inl (cI, 7, .inl f28)), (h3, .inl (cI, 7, .inl f29))]) [0, 1, 2, 3] rfl) (hD.sub (ws' := [(h0, .inr (3, [.ref h2, .ref h3, .ref h4, .ref h5, .ref h6, .ref h7, .int x8, .int x9])), (h2, .inr (8, [.int x10, .int x11, .int x12, .ref h13, .ref h14, .ref h15, .ref h16, .ref h17, .ref h18, .ref h19, .ref h20, .ref h21, .ref h22, .int x23, .int x24, .int x25, .int x26, .int x27])), (h5, .inl (cI, 7, .inl f28)), (h3, .inl (cI, 7, .inl f29))]) [0, 1, 2, 3] (by decide) rfl) hS (lv_sub hl [0, 1, 2, 3] rfl)
  exact lp_5 9 0 0 _ _ _ (by have zc0 : (0 : Int32).toInt = 0 := (by decide); omega) (by have zc0 : (0 : Int32).toInt = 0 := (by decide); omega) (by have zc0 : (0 : Int32).toInt = 0 := (by decide); omega) (by have zc0 : (0 : Int32).toInt = 0 := (by decide); omega) (by have zc0 : (0 : Int32).toInt = 0 := (by decide); omega) (hP.sub (ws' := [(h0, .inr (3, [.ref h2, .ref h3, .ref h4, .ref h5, .ref h6, .ref h7, .int x8, .int x9])), (h2, .inr (8, [.int x10, .int x11, .int x12, .ref h13, .ref h14, .ref h15, .ref h16, .ref h17, .ref h18, .ref h19, .ref h20, .ref h21, .ref h22, .int x23, .int x24, .int x25, .int x26, .int x27])), (h5, .inl (cI, 7, .inl f28)), (h3, .inl (cI, 7, .inl f29))]) [0, 1, 2, 3] rfl) (hD.sub (ws' := [(h0, .inr (3, [.ref h2, .ref h3, .ref h4, .ref h5, .ref h6, .ref h7, .int x8, .int x9])), (h2, .inr (8, [.int x10, .int x11, .int x12, .ref h13, .ref h14, .ref h15, .ref h16, .ref h17, .ref h18, .ref h19, .ref h20, .ref h21, .ref h22, .int x23, .int x24, .int x25, .int x26, .int x27])), (h5, .inl (cI, 7, .inl f28)), (h3, .inl (cI, 7, .inl f29))]) [0, 1, 2, 3] (by decide) rfl) hS (lv_sub hl [0, 1, 2, 3] rfl)
theorem dX3_priceAt_0 : decode cX3_priceAt 0 = .ok (.aload_n 0, 1) := by decide +kernel
theorem dX3_priceAt_1 : decode cX3_priceAt 1 = .ok (.getfield 18, 3) := by decide +kernel
theorem dX3_priceAt_4 : decode cX3_priceAt 4 = .ok (.iload_n 1, 1) := by decide +kernel
theorem dX3_priceAt_5 : decode cX3_priceAt 5 = .ok (.iaload, 1) := by decide +kernel
theorem dX3_priceAt_6 : decode cX3_priceAt 6 = .ok (.istore_n 2, 1) := by decide +kernel
theorem dX3_priceAt_7 : decode cX3_priceAt 7 = .ok (.iload_n 2, 1) := by decide +kernel
theorem dX3_priceAt_8 : decode cX3_priceAt 8 = .ok (.ifCond .lt 26, 3) := by decide +kernel
theorem dX3_priceAt_34 : decode cX3_priceAt 34 = .ok (.iconst 1, 1) := by decide +kernel
theorem dX3_priceAt_35 : decode cX3_priceAt 35 = .ok (.ireturn, 1) := by decide +kernel
theorem dX3_priceAt_11 : decode cX3_priceAt 11 = .ok (.iload_n 2, 1) := by decide +kernel
theorem dX3_priceAt_12 : decode cX3_priceAt 12 = .ok (.aload_n 0, 1) := by decide +kernel
theorem dX3_priceAt_13 : decode cX3_priceAt 13 = .ok (.getfield 33, 3) := by decide +kernel
theorem kw204 : (.fieldLink RX3 62 "SpiceSwaps$Told" "crops" "I" : Cond) ∈ gT := gT_of 204 (by decide +kernel) (by decide +kernel)
theorem dX3_priceAt_16 : decode cX3_priceAt 16 = .ok (.getfield 62, 3) := by decide +kernel
theorem dX3_priceAt_19 : decode cX3_priceAt 19 = .ok (.if_icmp .ge 15, 3) := by decide +kernel
theorem dX3_priceAt_22 : decode cX3_priceAt 22 = .ok (.aload_n 0, 1) := by decide +kernel
theorem dX3_priceAt_23 : decode cX3_priceAt 23 = .ok (.getfield 33, 3) := by decide +kernel
theorem kw218 : (.fieldLink RX3 65 "SpiceSwaps$Told" "priceOf" "[I" : Cond) ∈ gT := gT_of 218 (by decide +kernel) (by decide +kernel)
theorem dX3_priceAt_26 : decode cX3_priceAt 26 = .ok (.getfield 65, 3) := by decide +kernel
theorem dX3_priceAt_29 : decode cX3_priceAt 29 = .ok (.iload_n 2, 1) := by decide +kernel
theorem dX3_priceAt_30 : decode cX3_priceAt 30 = .ok (.iaload, 1) := by decide +kernel
theorem dX3_priceAt_31 : decode cX3_priceAt 31 = .ok (.goto 4, 3) := by decide +kernel
set_option maxHeartbeats 4000000 in
set_option maxRecDepth 100000 in
theorem sX3_priceAt_1 (l : Launch) (D : va_G) (cB cI cJ cZ : ClassId) (aK aV : Nat → Nat) (h0 : Nat) (x1 : Int32) (h2 : Nat) (h3 : Nat) (h4 : Nat) (h5 : Nat) (h6 : Nat) (h7 : Nat) (x8 : Int32) (x9 : Int32) (f10 : Nat → Int32) (x11 : Int32) (x12 : Int32) (x13 : Int32) (h14 : Nat) (h15 : Nat) (h16 : Nat) (h17 : Nat) (h18 : Nat) (h19 : Nat) (h20 : Nat) (h21 : Nat) (h22 : Nat) (h23 : Nat) (x24 : Int32) (x25 : Int32) (x26 : Int32) (x27 : Int32) (x28 : Int32) (f29 : Nat → Int32) (gh0 : 0 ≤ x1.toInt) (gh1 : 0 ≤ -x1.toInt + 6) (gh2 : 0 ≤ x9.toInt) (gh3 : 0 ≤ -x9.toInt + 999) (gh4 : 0 ≤ x11.toInt) (gh5 : 0 ≤ -x11.toInt + 4) (gh6 : 0 ≤ x12.toInt) (gh7 : 0 ≤ -x12.toInt + 3) (gh8 : 0 ≤ x13.toInt) (gh9 : 0 ≤ -x13.toInt + 7) (gh10 : 0 ≤ x27.toInt + 1) (gh11 : 0 ≤ -x27.toInt + 999) : MX l yX3_priceAt cX3_priceAt 3 (some .int) (rmL 1 0 0) D cB cI cJ cZ aK aV [.ref h0, .int x1] [(h0, .inr (3, [.ref h2, .ref h3, .ref h4, .ref h5, .ref h6, .ref h7, .int x8, .int x9])), (h5, .inl (cI, 7, .inl f10)), (h2, .inr (8, [.int x11, .int x12, .int x13, .ref h14, .ref h15, .ref h16, .ref h17, .ref h18, .ref h19, .ref h20, .ref h21, .ref h22, .ref h23, .int x24, .int x25, .int x26, .int x27, .int x28])), (h15, .inl (cI, 3, .inl f29))] (fun r w1 => ∃ z1 : Int32, r = some (.int z1) ∧ w1 = [(h0, .inr (3, [.ref h2, .ref h3, .ref h4, .ref h5, .ref h6, .ref h7, .int x8, .int x9])), (h5, .inl (cI, 7, .inl f10)), (h2, .inr (8, [.int x11, .int x12, .int x13, .ref h14, .ref h15, .ref h16, .ref h17, .ref h18, .ref h19, .ref h20, .ref h21, .ref h22, .ref h23, .int x24, .int x25, .int x26, .int x27, .int x28])), (h15, .inl (cI, 3, .inl f29))]) := by
  refine MX.intro (by decide) (Nat.le_of_ble_eq_true rfl) ?_
  intro p e s m below meth c A ls hx hb hr hml hown hlocks hnm hts hG hE hA hS hP hD hl hAe
  have hl : lv_has ls 3 [(0, .ref h0), (1, .int x1)] := hl
  have hown : s.vm.findClass RX3 = some m.cls := hown
  refine lv_aload_n hx hb dX3_priceAt_0 rfl (lv_at hl 0 rfl) ?_
  refine va_get (D := D) (ci := 3) (v := .ref h5) (C := RX3) (T := TX3) (N := 8) hx hb hts inX3 hown hG.1 hP 0 rfl rfl 3 (by decide) (hts _ kw435) (fun _ h9 => h9) rfl dX3_priceAt_1 ?_
  refine lv_iload_n hx hb dX3_priceAt_4 rfl (lv_at hl 1 rfl) ?_
  refine xa_ildU hx hb hG hP 1 rfl (vp_in_iff.mpr ⟨by omega, by omega⟩) dX3_priceAt_5 (fun v_1 => ?_)
  refine lv_istore_n (lv' := [(2, .int v_1), (0, .ref h0), (1, .int x1)]) hx hb dX3_priceAt_6 rfl hl (by decide) rfl (fun ls hl => ?_)
  refine lv_iload_n hx hb dX3_priceAt_7 rfl (lv_at hl 0 rfl) ?_
  refine lv_if_lt (tgt := 34) hx hb dX3_priceAt_8 (by decide) (fun c_2 => ?_) (fun c_2 => ?_)
  · have fc_2 : v_1.toInt < (0 : Int) := i_lt rfl (by decide) c_2
    refine lv_iconst (v := 1) hx hb dX3_priceAt_34 (by decide +kernel) ?_
    have hP9 := hP.sub (ws' := [(h0, .inr (3, [.ref h2, .ref h3, .ref h4, .ref h5, .ref h6, .ref h7, .int x8, .int x9])), (h5, .inl (cI, 7, .inl f10)), (h2, .inr (8, [.int x11, .int x12, .int x13, .ref h14, .ref h15, .ref h16, .ref h17, .ref h18, .ref h19, .ref h20, .ref h21, .ref h22, .ref h23, .int x24, .int x25, .int x26, .int x27, .int x28])), (h15, .inl (cI, 3, .inl f29))]) [0, 1, 2, 3] rfl
    have hD9 := hD.sub (ws' := [(h0, .inr (3, [.ref h2, .ref h3, .ref h4, .ref h5, .ref h6, .ref h7, .int x8, .int x9])), (h5, .inl (cI, 7, .inl f10)), (h2, .inr (8, [.int x11, .int x12, .int x13, .ref h14, .ref h15, .ref h16, .ref h17, .ref h18, .ref h19, .ref h20, .ref h21, .ref h22, .ref h23, .int x24, .int x25, .int x26, .int x27, .int x28])), (h15, .inl (cI, 3, .inl f29))]) [0, 1, 2, 3] (by decide) rfl
    exact xr_i (rm := (rmL 1 0 0)) hx hb hr hlocks hAe hS hP9 hD9 rfl (Nat.le_of_ble_eq_true rfl) (Nat.le_of_ble_eq_true rfl) dX3_priceAt_35 ⟨1, rfl, rfl⟩
  · have fc_2 : (0 : Int) ≤ v_1.toInt := i_nlt rfl (by decide) c_2
    refine lv_iload_n hx hb dX3_priceAt_11 rfl (lv_at hl 0 rfl) ?_
    refine lv_aload_n hx hb dX3_priceAt_12 rfl (lv_at hl 1 rfl) ?_
    refine va_get (D := D) (ci := 3) (v := .ref h2) (C := RX3) (T := TX3) (N := 8) hx hb hts inX3 hown hG.1 hP 0 rfl rfl 0 (by decide) (hts _ kw425) (fun _ h9 => h9) rfl dX3_priceAt_13 ?_
    refine va_get (D := D) (ci := 8) (v := .int x12) (C := RX8) (T := TX8) (N := 18) hx hb hts inX8 hown hG.1 hP 2 rfl rfl 1 (by decide) (hts _ kw204) (fun _ h9 => h9) rfl dX3_priceAt_16 ?_
    refine lv_icmp_ge (tgt := 34) hx hb dX3_priceAt_19 (by decide) (fun c_3 => ?_) (fun c_3 => ?_)
    · have fc_3 : x12.toInt ≤ v_1.toInt := i_le rfl rfl c_3
      refine lv_iconst (v := 1) hx hb dX3_priceAt_34 (by decide +kernel) ?_
      have hP9 := hP.sub (ws' := [(h0, .inr (3, [.ref h2, .ref h3, .ref h4, .ref h5, .ref h6, .ref h7, .int x8, .int x9])), (h5, .inl (cI, 7, .inl f10)), (h2, .inr (8, [.int x11, .int x12, .int x13, .ref h14, .ref h15, .ref h16, .ref h17, .ref h18, .ref h19, .ref h20, .ref h21, .ref h22, .ref h23, .int x24, .int x25, .int x26, .int x27, .int x28])), (h15, .inl (cI, 3, .inl f29))]) [0, 1, 2, 3] rfl
      have hD9 := hD.sub (ws' := [(h0, .inr (3, [.ref h2, .ref h3, .ref h4, .ref h5, .ref h6, .ref h7, .int x8, .int x9])), (h5, .inl (cI, 7, .inl f10)), (h2, .inr (8, [.int x11, .int x12, .int x13, .ref h14, .ref h15, .ref h16, .ref h17, .ref h18, .ref h19, .ref h20, .ref h21, .ref h22, .ref h23, .int x24, .int x25, .int x26, .int x27, .int x28])), (h15, .inl (cI, 3, .inl f29))]) [0, 1, 2, 3] (by decide) rfl
      exact xr_i (rm := (rmL 1 0 0)) hx hb hr hlocks hAe hS hP9 hD9 rfl (Nat.le_of_ble_eq_true rfl) (Nat.le_of_ble_eq_true rfl) dX3_priceAt_35 ⟨1, rfl, rfl⟩
    · have fc_3 : v_1.toInt < x12.toInt := i_nle rfl rfl c_3
      refine lv_aload_n hx hb dX3_priceAt_22 rfl (lv_at hl 1 rfl) ?_
      refine va_get (D := D) (ci := 3) (v := .ref h2) (C := RX3) (T := TX3) (N := 8) hx hb hts inX3 hown hG.1 hP 0 rfl rfl 0 (by decide) (hts _ kw425) (fun _ h9 => h9) rfl dX3_priceAt_23 ?_
      refine va_get (D := D) (ci := 8) (v := .ref h15) (C := RX8) (T := TX8) (N := 18) hx hb hts inX8 hown hG.1 hP 2 rfl rfl 4 (by decide) (hts _ kw218) (fun _ h9 => h9) rfl dX3_priceAt_26 ?_
      refine lv_iload_n hx hb dX3_priceAt_29 rfl (lv_at hl 0 rfl) ?_
      refine xa_ildU hx hb hG hP 3 rfl (vp_in_iff.mpr ⟨by omega, by omega⟩) dX3_priceAt_30 (fun v_4 => ?_)
      refine lv_goto (tgt := 35) hx hb dX3_priceAt_31 (by decide) ?_
      have hP9 := hP.sub (ws' := [(h0, .inr (3, [.ref h2, .ref h3, .ref h4, .ref h5, .ref h6, .ref h7, .int x8, .int x9])), (h5, .inl (cI, 7, .inl f10)), (h2, .inr (8, [.int x11, .int x12, .int x13, .ref h14, .ref h15, .ref h16, .ref h17, .ref h18, .ref h19, .ref h20, .ref h21, .ref h22, .ref h23, .int x24, .int x25, .int x26, .int x27, .int x28])), (h15, .inl (cI, 3, .inl f29))]) [0, 1, 2, 3] rfl
      have hD9 := hD.sub (ws' := [(h0, .inr (3, [.ref h2, .ref h3, .ref h4, .ref h5, .ref h6, .ref h7, .int x8, .int x9])), (h5, .inl (cI, 7, .inl f10)), (h2, .inr (8, [.int x11, .int x12, .int x13, .ref h14, .ref h15, .ref h16, .ref h17, .ref h18, .ref h19, .ref h20, .ref h21, .ref h22, .ref h23, .int x24, .int x25, .int x26, .int x27, .int x28])), (h15, .inl (cI, 3, .inl f29))]) [0, 1, 2, 3] (by decide) rfl
      exact xr_i (rm := (rmL 1 0 0)) hx hb hr hlocks hAe hS hP9 hD9 rfl (Nat.le_of_ble_eq_true rfl) (Nat.le_of_ble_eq_true rfl) dX3_priceAt_35 ⟨v_4, rfl, rfl⟩
theorem dJ6_bitCount_0f7a4_0 : decode cJ6_bitCount_0f7a4 0 = .ok (.iload_n 0, 1) := by decide +kernel
theorem dJ6_bitCount_0f7a4_1 : decode cJ6_bitCount_0f7a4 1 = .ok (.iload_n 0, 1) := by decide +kernel
theorem dJ6_bitCount_0f7a4_2 : decode cJ6_bitCount_0f7a4 2 = .ok (.iconst 1, 1) := by decide +kernel
theorem dJ6_bitCount_0f7a4_3 : decode cJ6_bitCount_0f7a4 3 = .ok (.iushr, 1) := by decide +kernel
theorem kw847 : (.constant RJ6 265 1431655765 : Cond) ∈ gT := gT_of 847 (by decide +kernel) (by decide +kernel)
theorem dJ6_bitCount_0f7a4_4 : decode cJ6_bitCount_0f7a4 4 = .ok (.ldc_w 265, 3) := by decide +kernel
theorem dJ6_bitCount_0f7a4_7 : decode cJ6_bitCount_0f7a4 7 = .ok (.iand, 1) := by decide +kernel
theorem dJ6_bitCount_0f7a4_8 : decode cJ6_bitCount_0f7a4 8 = .ok (.isub, 1) := by decide +kernel
theorem dJ6_bitCount_0f7a4_9 : decode cJ6_bitCount_0f7a4 9 = .ok (.istore_n 0, 1) := by decide +kernel
theorem dJ6_bitCount_0f7a4_10 : decode cJ6_bitCount_0f7a4 10 = .ok (.iload_n 0, 1) := by decide +kernel
theorem kw848 : (.constant RJ6 266 858993459 : Cond) ∈ gT := gT_of 848 (by decide +kernel) (by decide +kernel)
theorem dJ6_bitCount_0f7a4_11 : decode cJ6_bitCount_0f7a4 11 = .ok (.ldc_w 266, 3) := by decide +kernel
theorem dJ6_bitCount_0f7a4_14 : decode cJ6_bitCount_0f7a4 14 = .ok (.iand, 1) := by decide +kernel
theorem dJ6_bitCount_0f7a4_15 : decode cJ6_bitCount_0f7a4 15 = .ok (.iload_n 0, 1) := by decide +kernel
theorem dJ6_bitCount_0f7a4_16 : decode cJ6_bitCount_0f7a4 16 = .ok (.iconst 2, 1) := by decide +kernel
theorem dJ6_bitCount_0f7a4_17 : decode cJ6_bitCount_0f7a4 17 = .ok (.iushr, 1) := by decide +kernel
theorem dJ6_bitCount_0f7a4_18 : decode cJ6_bitCount_0f7a4 18 = .ok (.ldc_w 266, 3) := by decide +kernel
theorem dJ6_bitCount_0f7a4_21 : decode cJ6_bitCount_0f7a4 21 = .ok (.iand, 1) := by decide +kernel
theorem dJ6_bitCount_0f7a4_22 : decode cJ6_bitCount_0f7a4 22 = .ok (.iadd, 1) := by decide +kernel
theorem dJ6_bitCount_0f7a4_23 : decode cJ6_bitCount_0f7a4 23 = .ok (.istore_n 0, 1) := by decide +kernel
theorem dJ6_bitCount_0f7a4_24 : decode cJ6_bitCount_0f7a4 24 = .ok (.iload_n 0, 1) := by decide +kernel
theorem dJ6_bitCount_0f7a4_25 : decode cJ6_bitCount_0f7a4 25 = .ok (.iload_n 0, 1) := by decide +kernel
theorem dJ6_bitCount_0f7a4_26 : decode cJ6_bitCount_0f7a4 26 = .ok (.iconst 4, 1) := by decide +kernel
theorem dJ6_bitCount_0f7a4_27 : decode cJ6_bitCount_0f7a4 27 = .ok (.iushr, 1) := by decide +kernel
theorem dJ6_bitCount_0f7a4_28 : decode cJ6_bitCount_0f7a4 28 = .ok (.iadd, 1) := by decide +kernel
theorem kw849 : (.constant RJ6 267 252645135 : Cond) ∈ gT := gT_of 849 (by decide +kernel) (by decide +kernel)
theorem dJ6_bitCount_0f7a4_29 : decode cJ6_bitCount_0f7a4 29 = .ok (.ldc_w 267, 3) := by decide +kernel
theorem dJ6_bitCount_0f7a4_32 : decode cJ6_bitCount_0f7a4 32 = .ok (.iand, 1) := by decide +kernel
theorem dJ6_bitCount_0f7a4_33 : decode cJ6_bitCount_0f7a4 33 = .ok (.istore_n 0, 1) := by decide +kernel
theorem dJ6_bitCount_0f7a4_34 : decode cJ6_bitCount_0f7a4 34 = .ok (.iload_n 0, 1) := by decide +kernel
theorem dJ6_bitCount_0f7a4_35 : decode cJ6_bitCount_0f7a4 35 = .ok (.iload_n 0, 1) := by decide +kernel
theorem dJ6_bitCount_0f7a4_36 : decode cJ6_bitCount_0f7a4 36 = .ok (.bipush 8, 2) := by decide +kernel
theorem dJ6_bitCount_0f7a4_38 : decode cJ6_bitCount_0f7a4 38 = .ok (.iushr, 1) := by decide +kernel
theorem dJ6_bitCount_0f7a4_39 : decode cJ6_bitCount_0f7a4 39 = .ok (.iadd, 1) := by decide +kernel
theorem dJ6_bitCount_0f7a4_40 : decode cJ6_bitCount_0f7a4 40 = .ok (.istore_n 0, 1) := by decide +kernel
theorem dJ6_bitCount_0f7a4_41 : decode cJ6_bitCount_0f7a4 41 = .ok (.iload_n 0, 1) := by decide +kernel
theorem dJ6_bitCount_0f7a4_42 : decode cJ6_bitCount_0f7a4 42 = .ok (.iload_n 0, 1) := by decide +kernel
theorem dJ6_bitCount_0f7a4_43 : decode cJ6_bitCount_0f7a4 43 = .ok (.bipush 16, 2) := by decide +kernel
theorem dJ6_bitCount_0f7a4_45 : decode cJ6_bitCount_0f7a4 45 = .ok (.iushr, 1) := by decide +kernel
theorem dJ6_bitCount_0f7a4_46 : decode cJ6_bitCount_0f7a4 46 = .ok (.iadd, 1) := by decide +kernel
theorem dJ6_bitCount_0f7a4_47 : decode cJ6_bitCount_0f7a4 47 = .ok (.istore_n 0, 1) := by decide +kernel
theorem dJ6_bitCount_0f7a4_48 : decode cJ6_bitCount_0f7a4 48 = .ok (.iload_n 0, 1) := by decide +kernel
theorem dJ6_bitCount_0f7a4_49 : decode cJ6_bitCount_0f7a4 49 = .ok (.bipush 63, 2) := by decide +kernel
theorem dJ6_bitCount_0f7a4_51 : decode cJ6_bitCount_0f7a4 51 = .ok (.iand, 1) := by decide +kernel
theorem dJ6_bitCount_0f7a4_52 : decode cJ6_bitCount_0f7a4 52 = .ok (.ireturn, 1) := by decide +kernel
set_option maxHeartbeats 4000000 in
set_option maxRecDepth 100000 in
theorem sJ6_bitCount_0f7a4_1 (l : Launch) (D : va_G) (cB cI cJ cZ : ClassId) (aK aV : Nat → Nat) (x0 : Int32) : MX l yJ6_bitCount_0f7a4 cJ6_bitCount_0f7a4 1 (some .int) (rmL 1 0 0) D cB cI cJ cZ aK aV [.int x0] [] (fun r w1 => ∃ z1 : Int32, 0 ≤ z1.toInt ∧ 0 ≤ -z1.toInt + 63 ∧ r = some (.int z1) ∧ w1 = []) := by
  refine MX.intro (by decide) (Nat.le_of_ble_eq_true rfl) ?_
  intro p e s m below meth c A ls hx hb hr hml hown hlocks hnm hts hG hE hA hS hP hD hl hAe
  have hl : lv_has ls 1 [(0, .int x0)] := hl
  have hown : s.vm.findClass RJ6 = some m.cls := hown
  refine lv_iload_n hx hb dJ6_bitCount_0f7a4_0 rfl (lv_at hl 0 rfl) ?_
  refine lv_iload_n hx hb dJ6_bitCount_0f7a4_1 rfl (lv_at hl 0 rfl) ?_
  refine lv_iconst (v := 1) hx hb dJ6_bitCount_0f7a4_2 (by decide +kernel) ?_
  refine lv_iushr hx hb dJ6_bitCount_0f7a4_3 rfl ?_
  refine xt_any (fun v_1 => ?_)
  refine lv_ldcw (v := 1431655765) hx hb hown (hts _ kw847) dJ6_bitCount_0f7a4_4 ?_
  refine lv_iand hx hb dJ6_bitCount_0f7a4_7 ?_
  refine lv_topi (fun v_2 ev_2 => ?_)
  have gv_2 := i32_andle (x := v_1) (y := 1431655765) (show (1431655765 : Int32).toInt = 1431655765 from by decide) (by omega) ev_2
  refine lv_isub hx hb dJ6_bitCount_0f7a4_8 ?_
  refine xt_any (fun v_3 => ?_)
  refine lv_istore_n (lv' := [(0, .int v_3)]) hx hb dJ6_bitCount_0f7a4_9 rfl hl (by decide) rfl (fun ls hl => ?_)
  refine lv_iload_n hx hb dJ6_bitCount_0f7a4_10 rfl (lv_at hl 0 rfl) ?_
  refine lv_ldcw (v := 858993459) hx hb hown (hts _ kw848) dJ6_bitCount_0f7a4_11 ?_
  refine lv_iand hx hb dJ6_bitCount_0f7a4_14 ?_
  refine lv_topi (fun v_4 ev_4 => ?_)
  have gv_4 := i32_andle (x := v_3) (y := 858993459) (show (858993459 : Int32).toInt = 858993459 from by decide) (by omega) ev_4
  refine lv_iload_n hx hb dJ6_bitCount_0f7a4_15 rfl (lv_at hl 0 rfl) ?_
  refine lv_iconst (v := 2) hx hb dJ6_bitCount_0f7a4_16 (by decide +kernel) ?_
  refine lv_iushr hx hb dJ6_bitCount_0f7a4_17 rfl ?_
  refine xt_any (fun v_5 => ?_)
  refine lv_ldcw (v := 858993459) hx hb hown (hts _ kw848) dJ6_bitCount_0f7a4_18 ?_
  refine lv_iand hx hb dJ6_bitCount_0f7a4_21 ?_
  refine lv_topi (fun v_6 ev_6 => ?_)
  have gv_6 := i32_andle (x := v_5) (y := 858993459) (show (858993459 : Int32).toInt = 858993459 from by decide) (by omega) ev_6
  refine lv_iadd hx hb dJ6_bitCount_0f7a4_22 ?_
  refine lv_topi (fun v_7 ev_7 => ?_)
  have gv_7 : v_7.toInt = v_4.toInt + v_6.toInt := by
    have zx : (v_4 : Int32).toInt = v_4.toInt := rfl
    have zy : (v_6 : Int32).toInt = v_6.toInt := rfl
    rw [ev_7, i32_add (by rw [zx, zy]; omega) (by rw [zx, zy]; omega), zx, zy]
  refine lv_istore_n (lv' := [(0, .int v_7)]) hx hb dJ6_bitCount_0f7a4_23 rfl hl (by decide) rfl (fun ls hl => ?_)
  refine lv_iload_n hx hb dJ6_bitCount_0f7a4_24 rfl (lv_at hl 0 rfl) ?_
  refine lv_iload_n hx hb dJ6_bitCount_0f7a4_25 rfl (lv_at hl 0 rfl) ?_
  refine lv_iconst (v := 4) hx hb dJ6_bitCount_0f7a4_26 (by decide +kernel) ?_
  refine lv_iushr hx hb dJ6_bitCount_0f7a4_27 rfl ?_
  refine xt_any (fun v_8 => ?_)
  refine lv_iadd hx hb dJ6_bitCount_0f7a4_28 ?_
  refine xt_any (fun v_9 => ?_)
  refine lv_ldcw (v := 252645135) hx hb hown (hts _ kw849) dJ6_bitCount_0f7a4_29 ?_
  refine lv_iand hx hb dJ6_bitCount_0f7a4_32 ?_
  refine lv_topi (fun v_10 ev_10 => ?_)
  have gv_10 := i32_andle (x := v_9) (y := 252645135) (show (252645135 : Int32).toInt = 252645135 from by decide) (by omega) ev_10
  refine lv_istore_n (lv' := [(0, .int v_10)]) hx hb dJ6_bitCount_0f7a4_33 rfl hl (by decide) rfl (fun ls hl => ?_)
  refine lv_iload_n hx hb dJ6_bitCount_0f7a4_34 rfl (lv_at hl 0 rfl) ?_
  refine lv_iload_n hx hb dJ6_bitCount_0f7a4_35 rfl (lv_at hl 0 rfl) ?_
  refine lv_bipush (v := 8) hx hb dJ6_bitCount_0f7a4_36 (by decide +kernel) ?_
  refine lv_iushr hx hb dJ6_bitCount_0f7a4_38 rfl ?_
  refine xt_any (fun v_11 => ?_)
  refine lv_iadd hx hb dJ6_bitCount_0f7a4_39 ?_
  refine xt_any (fun v_12 => ?_)
  refine lv_istore_n (lv' := [(0, .int v_12)]) hx hb dJ6_bitCount_0f7a4_40 rfl hl (by decide) rfl (fun ls hl => ?_)
  refine lv_iload_n hx hb dJ6_bitCount_0f7a4_41 rfl (lv_at hl 0 rfl) ?_
  refine lv_iload_n hx hb dJ6_bitCount_0f7a4_42 rfl (lv_at hl 0 rfl) ?_
  refine lv_bipush (v := 16) hx hb dJ6_bitCount_0f7a4_43 (by decide +kernel) ?_
  refine lv_iushr hx hb dJ6_bitCount_0f7a4_45 rfl ?_
  refine xt_any (fun v_13 => ?_)
  refine lv_iadd hx hb dJ6_bitCount_0f7a4_46 ?_
  refine xt_any (fun v_14 => ?_)
  refine lv_istore_n (lv' := [(0, .int v_14)]) hx hb dJ6_bitCount_0f7a4_47 rfl hl (by decide) rfl (fun ls hl => ?_)
  refine lv_iload_n hx hb dJ6_bitCount_0f7a4_48 rfl (lv_at hl 0 rfl) ?_
  refine lv_bipush (v := 63) hx hb dJ6_bitCount_0f7a4_49 (by decide +kernel) ?_
  refine lv_iand hx hb dJ6_bitCount_0f7a4_51 ?_
  refine lv_topi (fun v_15 ev_15 => ?_)
  have gv_15 : 0 ≤ v_15.toInt ∧ v_15.toInt < 64 := by rw [ev_15]; exact i32_and (m := 63) 6 (by decide) (by decide)
  have hP9 := hP.sub (ws' := []) [] rfl
  have hD9 := hD.sub (ws' := []) [] (by decide) rfl
  exact xr_i (rm := (rmL 1 0 0)) hx hb hr hlocks hAe hS hP9 hD9 rfl (Nat.le_of_ble_eq_true rfl) (Nat.le_of_ble_eq_true rfl) dJ6_bitCount_0f7a4_52 ⟨v_15, by omega, by omega, rfl, rfl⟩
theorem dX3_earnedAt_0 : decode cX3_earnedAt 0 = .ok (.aload_n 0, 1) := by decide +kernel
theorem kw432 : (.fieldLink RX3 15 "SpiceSwaps$Moment" "yieldOf" "[I" : Cond) ∈ gT := gT_of 432 (by decide +kernel) (by decide +kernel)
theorem dX3_earnedAt_1 : decode cX3_earnedAt 1 = .ok (.getfield 15, 3) := by decide +kernel
theorem dX3_earnedAt_4 : decode cX3_earnedAt 4 = .ok (.iload_n 1, 1) := by decide +kernel
theorem dX3_earnedAt_5 : decode cX3_earnedAt 5 = .ok (.iaload, 1) := by decide +kernel
theorem dX3_earnedAt_6 : decode cX3_earnedAt 6 = .ok (.istore_n 2, 1) := by decide +kernel
theorem dX3_earnedAt_7 : decode cX3_earnedAt 7 = .ok (.aload_n 0, 1) := by decide +kernel
theorem dX3_earnedAt_8 : decode cX3_earnedAt 8 = .ok (.getfield 18, 3) := by decide +kernel
theorem dX3_earnedAt_11 : decode cX3_earnedAt 11 = .ok (.iload_n 1, 1) := by decide +kernel
theorem dX3_earnedAt_12 : decode cX3_earnedAt 12 = .ok (.iaload, 1) := by decide +kernel
theorem dX3_earnedAt_13 : decode cX3_earnedAt 13 = .ok (.iconst (-1), 1) := by decide +kernel
theorem dX3_earnedAt_14 : decode cX3_earnedAt 14 = .ok (.if_icmp .eq 31, 3) := by decide +kernel
theorem dX3_earnedAt_45 : decode cX3_earnedAt 45 = .ok (.iload_n 2, 1) := by decide +kernel
theorem dX3_earnedAt_46 : decode cX3_earnedAt 46 = .ok (.aload_n 0, 1) := by decide +kernel
theorem dX3_earnedAt_47 : decode cX3_earnedAt 47 = .ok (.getfield 33, 3) := by decide +kernel
theorem kw236 : (.fieldLink RX3 86 "SpiceSwaps$Told" "garrisonOf" "[I" : Cond) ∈ gT := gT_of 236 (by decide +kernel) (by decide +kernel)
theorem dX3_earnedAt_50 : decode cX3_earnedAt 50 = .ok (.getfield 86, 3) := by decide +kernel
theorem dX3_earnedAt_53 : decode cX3_earnedAt 53 = .ok (.iload_n 1, 1) := by decide +kernel
theorem dX3_earnedAt_54 : decode cX3_earnedAt 54 = .ok (.iaload, 1) := by decide +kernel
theorem dX3_earnedAt_55 : decode cX3_earnedAt 55 = .ok (.isub, 1) := by decide +kernel
theorem dX3_earnedAt_56 : decode cX3_earnedAt 56 = .ok (.ireturn, 1) := by decide +kernel
theorem dX3_earnedAt_17 : decode cX3_earnedAt 17 = .ok (.aload_n 0, 1) := by decide +kernel
theorem dX3_earnedAt_18 : decode cX3_earnedAt 18 = .ok (.aload_n 0, 1) := by decide +kernel
theorem dX3_earnedAt_19 : decode cX3_earnedAt 19 = .ok (.getfield 18, 3) := by decide +kernel
theorem dX3_earnedAt_22 : decode cX3_earnedAt 22 = .ok (.iload_n 1, 1) := by decide +kernel
theorem dX3_earnedAt_23 : decode cX3_earnedAt 23 = .ok (.iaload, 1) := by decide +kernel
theorem kw840 : (.methodLink RX3 68 yX3_growersOf : Cond) ∈ gT := gT_of 840 (by decide +kernel) (by decide +kernel)
theorem kw843 : (.code yX3_growersOf cX3_growersOf 4 (some .int) : Cond) ∈ gT := gT_of 843 (by decide +kernel) (by decide +kernel)
theorem kw841 : (.instanceMethod yX3_growersOf : Cond) ∈ gT := gT_of 841 (by decide +kernel) (by decide +kernel)
theorem kw842 : (.selects RX3 yX3_growersOf yX3_growersOf : Cond) ∈ gT := gT_of 842 (by decide +kernel) (by decide +kernel)
theorem kw121 : (.initialized RX3 : Cond) ∈ gT := gT_of 121 (by decide +kernel) (by decide +kernel)
theorem dX3_earnedAt_24 : decode cX3_earnedAt 24 = .ok (.invokevirtual 68, 3) := by decide +kernel
theorem kw844 : (.methodLink RX3 72 yJ6_bitCount_0f7a4 : Cond) ∈ gT := gT_of 844 (by decide +kernel) (by decide +kernel)
theorem kw846 : (.code yJ6_bitCount_0f7a4 cJ6_bitCount_0f7a4 1 (some .int) : Cond) ∈ gT := gT_of 846 (by decide +kernel) (by decide +kernel)
theorem kw845 : (.static yJ6_bitCount_0f7a4 : Cond) ∈ gT := gT_of 845 (by decide +kernel) (by decide +kernel)
theorem kw130 : (.initialized RJ6 : Cond) ∈ gT := gT_of 130 (by decide +kernel) (by decide +kernel)
theorem dX3_earnedAt_27 : decode cX3_earnedAt 27 = .ok (.invokestatic 72, 3) := by decide +kernel
theorem dX3_earnedAt_30 : decode cX3_earnedAt 30 = .ok (.istore_n 3, 1) := by decide +kernel
theorem dX3_earnedAt_31 : decode cX3_earnedAt 31 = .ok (.iload_n 2, 1) := by decide +kernel
theorem dX3_earnedAt_32 : decode cX3_earnedAt 32 = .ok (.aload_n 0, 1) := by decide +kernel
theorem dX3_earnedAt_33 : decode cX3_earnedAt 33 = .ok (.iload_n 1, 1) := by decide +kernel
theorem kw850 : (.methodLink RX3 77 yX3_priceAt : Cond) ∈ gT := gT_of 850 (by decide +kernel) (by decide +kernel)
theorem kw853 : (.code yX3_priceAt cX3_priceAt 3 (some .int) : Cond) ∈ gT := gT_of 853 (by decide +kernel) (by decide +kernel)
theorem kw851 : (.instanceMethod yX3_priceAt : Cond) ∈ gT := gT_of 851 (by decide +kernel) (by decide +kernel)
theorem kw852 : (.selects RX3 yX3_priceAt yX3_priceAt : Cond) ∈ gT := gT_of 852 (by decide +kernel) (by decide +kernel)
theorem dX3_earnedAt_34 : decode cX3_earnedAt 34 = .ok (.invokevirtual 77, 3) := by decide +kernel
theorem dX3_earnedAt_37 : decode cX3_earnedAt 37 = .ok (.imul, 1) := by decide +kernel
theorem dX3_earnedAt_38 : decode cX3_earnedAt 38 = .ok (.iconst 1, 1) := by decide +kernel
theorem dX3_earnedAt_39 : decode cX3_earnedAt 39 = .ok (.iload_n 3, 1) := by decide +kernel
theorem kw854 : (.methodLink RX3 80 Lib.Math.max.name : Cond) ∈ gT := gT_of 854 (by decide +kernel) (by decide +kernel)
theorem kw683 : (.static Lib.Math.max.name : Cond) ∈ gT := gT_of 683 (by decide +kernel) (by decide +kernel)
theorem kw128 : (.initialized RJ9 : Cond) ∈ gT := gT_of 128 (by decide +kernel) (by decide +kernel)
theorem kw684 : (.code Lib.Math.max.name Lib.Math.max.code 2 (some .int) : Cond) ∈ gT := gT_of 684 (by decide +kernel) (by decide +kernel)
theorem dX3_earnedAt_40 : decode cX3_earnedAt 40 = .ok (.invokestatic 80, 3) := by decide +kernel
theorem dX3_earnedAt_43 : decode cX3_earnedAt 43 = .ok (.idiv, 1) := by decide +kernel
theorem dX3_earnedAt_44 : decode cX3_earnedAt 44 = .ok (.istore_n 2, 1) := by decide +kernel
set_option maxHeartbeats 4000000 in
set_option maxRecDepth 100000 in
theorem sX3_earnedAt_1 (l : Launch) (D : va_G) (cB cI cJ cZ : ClassId) (aK aV : Nat → Nat) (h0 : Nat) (x1 : Int32) (h2 : Nat) (h3 : Nat) (h4 : Nat) (h5 : Nat) (h6 : Nat) (h7 : Nat) (x8 : Int32) (x9 : Int32) (f10 : Nat → Int32) (f11 : Nat → Int32) (x12 : Int32) (x13 : Int32) (x14 : Int32) (h15 : Nat) (h16 : Nat) (h17 : Nat) (h18 : Nat) (h19 : Nat) (h20 : Nat) (h21 : Nat) (h22 : Nat) (h23 : Nat) (h24 : Nat) (x25 : Int32) (x26 : Int32) (x27 : Int32) (x28 : Int32) (x29 : Int32) (f30 : Nat → Int32) (f31 : Nat → Int32) (f32 : Nat → Int32) (gh0 : 0 ≤ x1.toInt) (gh1 : 0 ≤ -x1.toInt + 6) (gh2 : 0 ≤ x9.toInt) (gh3 : 0 ≤ -x9.toInt + 999) (gh4 : 0 ≤ x12.toInt) (gh5 : 0 ≤ -x12.toInt + 4) (gh6 : 0 ≤ x13.toInt) (gh7 : 0 ≤ -x13.toInt + 3) (gh8 : 0 ≤ x14.toInt) (gh9 : 0 ≤ -x14.toInt + 7) (gh10 : 0 ≤ x28.toInt + 1) (gh11 : 0 ≤ -x28.toInt + 999) (ga0 : AR f31 (0) (3) (x14.toInt)) : MX l yX3_earnedAt cX3_earnedAt 4 (some .int) (rmL 2 0 0) D cB cI cJ cZ aK aV [.ref h0, .int x1] [(h0, .inr (3, [.ref h2, .ref h3, .ref h4, .ref h5, .ref h6, .ref h7, .int x8, .int x9])), (h4, .inl (cI, 7, .inl f10)), (h5, .inl (cI, 7, .inl f11)), (h2, .inr (8, [.int x12, .int x13, .int x14, .ref h15, .ref h16, .ref h17, .ref h18, .ref h19, .ref h20, .ref h21, .ref h22, .ref h23, .ref h24, .int x25, .int x26, .int x27, .int x28, .int x29])), (h21, .inl (cI, 7, .inl f30)), (h3, .inl (cI, 7, .inl f31)), (h16, .inl (cI, 3, .inl f32))] (fun r w1 => ∃ z1 : Int32, r = some (.int z1) ∧ w1 = [(h0, .inr (3, [.ref h2, .ref h3, .ref h4, .ref h5, .ref h6, .ref h7, .int x8, .int x9])), (h4, .inl (cI, 7, .inl f10)), (h5, .inl (cI, 7, .inl f11)), (h2, .inr (8, [.int x12, .int x13, .int x14, .ref h15, .ref h16, .ref h17, .ref h18, .ref h19, .ref h20, .ref h21, .ref h22, .ref h23, .ref h24, .int x25, .int x26, .int x27, .int x28, .int x29])), (h21, .inl (cI, 7, .inl f30)), (h3, .inl (cI, 7, .inl f31)), (h16, .inl (cI, 3, .inl f32))]) := by
  refine MX.intro (by decide) (Nat.le_of_ble_eq_true rfl) ?_
  intro p e s m below meth c A ls hx hb hr hml hown hlocks hnm hts hG hE hA hS hP hD hl hAe
  have hl : lv_has ls 4 [(0, .ref h0), (1, .int x1)] := hl
  have hown : s.vm.findClass RX3 = some m.cls := hown
  refine lv_aload_n hx hb dX3_earnedAt_0 rfl (lv_at hl 0 rfl) ?_
  refine va_get (D := D) (ci := 3) (v := .ref h4) (C := RX3) (T := TX3) (N := 8) hx hb hts inX3 hown hG.1 hP 0 rfl rfl 2 (by decide) (hts _ kw432) (fun _ h9 => h9) rfl dX3_earnedAt_1 ?_
  refine lv_iload_n hx hb dX3_earnedAt_4 rfl (lv_at hl 1 rfl) ?_
  refine xa_ildU hx hb hG hP 1 rfl (vp_in_iff.mpr ⟨by omega, by omega⟩) dX3_earnedAt_5 (fun v_1 => ?_)
  refine lv_istore_n (lv' := [(2, .int v_1), (0, .ref h0), (1, .int x1)]) hx hb dX3_earnedAt_6 rfl hl (by decide) rfl (fun ls hl => ?_)
  refine lv_aload_n hx hb dX3_earnedAt_7 rfl (lv_at hl 1 rfl) ?_
  refine va_get (D := D) (ci := 3) (v := .ref h5) (C := RX3) (T := TX3) (N := 8) hx hb hts inX3 hown hG.1 hP 0 rfl rfl 3 (by decide) (hts _ kw435) (fun _ h9 => h9) rfl dX3_earnedAt_8 ?_
  refine lv_iload_n hx hb dX3_earnedAt_11 rfl (lv_at hl 2 rfl) ?_
  refine xa_ildU hx hb hG hP 2 rfl (vp_in_iff.mpr ⟨by omega, by omega⟩) dX3_earnedAt_12 (fun v_2 => ?_)
  refine lv_iconst (v := (-1)) hx hb dX3_earnedAt_13 (by decide +kernel) ?_
  refine lv_icmp_eq (tgt := 45) hx hb dX3_earnedAt_14 (by decide) (fun c_3 => ?_) (fun c_3 => ?_)
  · have fc_3 : v_2.toInt = ((-1) : Int) := i_eq rfl (by decide) c_3
    refine lv_iload_n hx hb dX3_earnedAt_45 rfl (lv_at hl 0 rfl) ?_
    refine lv_aload_n hx hb dX3_earnedAt_46 rfl (lv_at hl 1 rfl) ?_
    refine va_get (D := D) (ci := 3) (v := .ref h2) (C := RX3) (T := TX3) (N := 8) hx hb hts inX3 hown hG.1 hP 0 rfl rfl 0 (by decide) (hts _ kw425) (fun _ h9 => h9) rfl dX3_earnedAt_47 ?_
    refine va_get (D := D) (ci := 8) (v := .ref h21) (C := RX8) (T := TX8) (N := 18) hx hb hts inX8 hown hG.1 hP 3 rfl rfl 9 (by decide) (hts _ kw236) (fun _ h9 => h9) rfl dX3_earnedAt_50 ?_
    refine lv_iload_n hx hb dX3_earnedAt_53 rfl (lv_at hl 2 rfl) ?_
    refine xa_ildU hx hb hG hP 4 rfl (vp_in_iff.mpr ⟨by omega, by omega⟩) dX3_earnedAt_54 (fun v_4 => ?_)
    refine lv_isub hx hb dX3_earnedAt_55 ?_
    refine xt_any (fun v_5 => ?_)
    have hP9 := hP.sub (ws' := [(h0, .inr (3, [.ref h2, .ref h3, .ref h4, .ref h5, .ref h6, .ref h7, .int x8, .int x9])), (h4, .inl (cI, 7, .inl f10)), (h5, .inl (cI, 7, .inl f11)), (h2, .inr (8, [.int x12, .int x13, .int x14, .ref h15, .ref h16, .ref h17, .ref h18, .ref h19, .ref h20, .ref h21, .ref h22, .ref h23, .ref h24, .int x25, .int x26, .int x27, .int x28, .int x29])), (h21, .inl (cI, 7, .inl f30)), (h3, .inl (cI, 7, .inl f31)), (h16, .inl (cI, 3, .inl f32))]) [0, 1, 2, 3, 4, 5, 6] rfl
    have hD9 := hD.sub (ws' := [(h0, .inr (3, [.ref h2, .ref h3, .ref h4, .ref h5, .ref h6, .ref h7, .int x8, .int x9])), (h4, .inl (cI, 7, .inl f10)), (h5, .inl (cI, 7, .inl f11)), (h2, .inr (8, [.int x12, .int x13, .int x14, .ref h15, .ref h16, .ref h17, .ref h18, .ref h19, .ref h20, .ref h21, .ref h22, .ref h23, .ref h24, .int x25, .int x26, .int x27, .int x28, .int x29])), (h21, .inl (cI, 7, .inl f30)), (h3, .inl (cI, 7, .inl f31)), (h16, .inl (cI, 3, .inl f32))]) [0, 1, 2, 3, 4, 5, 6] (by decide) rfl
    exact xr_i (rm := (rmL 2 0 0)) hx hb hr hlocks hAe hS hP9 hD9 rfl (Nat.le_of_ble_eq_true rfl) (Nat.le_of_ble_eq_true rfl) dX3_earnedAt_56 ⟨v_5, rfl, rfl⟩
  · have fc_3 : v_2.toInt ≠ ((-1) : Int) := i_ne rfl (by decide) c_3
    refine lv_aload_n hx hb dX3_earnedAt_17 rfl (lv_at hl 1 rfl) ?_
    refine lv_aload_n hx hb dX3_earnedAt_18 rfl (lv_at hl 1 rfl) ?_
    refine va_get (D := D) (ci := 3) (v := .ref h5) (C := RX3) (T := TX3) (N := 8) hx hb hts inX3 hown hG.1 hP 0 rfl rfl 3 (by decide) (hts _ kw435) (fun _ h9 => h9) rfl dX3_earnedAt_19 ?_
    refine lv_iload_n hx hb dX3_earnedAt_22 rfl (lv_at hl 2 rfl) ?_
    refine xa_ildU hx hb hG hP 2 rfl (vp_in_iff.mpr ⟨by omega, by omega⟩) dX3_earnedAt_23 (fun v_6 => ?_)
    refine xc_core (wr := [(h4, .inl (cI, 7, .inl f10)), (h21, .inl (cI, 7, .inl f30)), (h16, .inl (cI, 3, .inl f32))]) (k := 0) (n := 0) (xc_runV (As := [.int v_6]) (rest := []) hx hb hml hown hts hG hE hP hD hS hA [0, 3, 2, 5] (by decide) rfl (sX3_growersOf_1 l D cB cI cJ cZ aK aV h0 v_6 h2 h3 h4 h5 h6 h7 x8 x9 x12 x13 x14 h15 h16 h17 h18 h19 h20 h21 h22 h23 h24 x25 x26 x27 x28 x29 f11 f31 (by omega) (by omega) (by omega) (by omega) (by omega) (by omega) (by omega) (by omega) (by omega) (by omega) (ga0.mono (by omega) (by omega) (by omega))) kw843 kw840 kw841 kw842 kw121 (show XD yX3_growersOf 1 from by decide +kernel) (by decide) rfl rfl 0 rfl hl.1 rfl (Nat.le_of_ble_eq_true rfl) dX3_earnedAt_24 (by decide)) hP hD hS hA [0, 3, 2, 5] [1, 4, 6] rfl rfl (by decide) (by decide) (Nat.le_of_ble_eq_true rfl) (Nat.le_of_ble_eq_true rfl) (fun r w1 H locs hpost hP hD hS => ?_)
    obtain ⟨v_7, g_8, g_9, rfl, rfl⟩ := hpost
    have hP : va_P D vwCl [(h4, .inl (cI, 7, .inl f10)), (h21, .inl (cI, 7, .inl f30)), (h16, .inl (cI, 3, .inl f32)), (h0, .inr (3, [.ref h2, .ref h3, .ref h4, .ref h5, .ref h6, .ref h7, .int x8, .int x9])), (h2, .inr (8, [.int x12, .int x13, .int x14, .ref h15, .ref h16, .ref h17, .ref h18, .ref h19, .ref h20, .ref h21, .ref h22, .ref h23, .ref h24, .int x25, .int x26, .int x27, .int x28, .int x29])), (h5, .inl (cI, 7, .inl f11)), (h3, .inl (cI, 7, .inl f31))] H := hP
    have hD : va_D A [(h4, .inl (cI, 7, .inl f10)), (h21, .inl (cI, 7, .inl f30)), (h16, .inl (cI, 3, .inl f32)), (h0, .inr (3, [.ref h2, .ref h3, .ref h4, .ref h5, .ref h6, .ref h7, .int x8, .int x9])), (h2, .inr (8, [.int x12, .int x13, .int x14, .ref h15, .ref h16, .ref h17, .ref h18, .ref h19, .ref h20, .ref h21, .ref h22, .ref h23, .ref h24, .int x25, .int x26, .int x27, .int x28, .int x29])), (h5, .inl (cI, 7, .inl f11)), (h3, .inl (cI, 7, .inl f31))] := hD
    refine xc_core (wr := [(h4, .inl (cI, 7, .inl f10)), (h21, .inl (cI, 7, .inl f30)), (h16, .inl (cI, 3, .inl f32)), (h0, .inr (3, [.ref h2, .ref h3, .ref h4, .ref h5, .ref h6, .ref h7, .int x8, .int x9])), (h2, .inr (8, [.int x12, .int x13, .int x14, .ref h15, .ref h16, .ref h17, .ref h18, .ref h19, .ref h20, .ref h21, .ref h22, .ref h23, .ref h24, .int x25, .int x26, .int x27, .int x28, .int x29])), (h5, .inl (cI, 7, .inl f11)), (h3, .inl (cI, 7, .inl f31))]) (k := 0) (n := 0) (xc_runS (As := [.int v_7]) (rest := []) hx hb hml hown hts hG hE hP hD hS hA [] (by decide) rfl (sJ6_bitCount_0f7a4_1 l D cB cI cJ cZ aK aV v_7) kw846 kw844 kw845 kw130 (show XD yJ6_bitCount_0f7a4 1 from by decide +kernel) (by decide) hl.1 rfl (Nat.le_of_ble_eq_true rfl) dX3_earnedAt_27 (by decide)) hP hD hS hA [] [0, 1, 2, 3, 4, 5, 6] rfl rfl (by decide) (by decide) (Nat.le_of_ble_eq_true rfl) (Nat.le_of_ble_eq_true rfl) (fun r w1 H locs hpost hP hD hS => ?_)
    obtain ⟨v_10, g_11, g_12, rfl, rfl⟩ := hpost
    have hP : va_P D vwCl [(h4, .inl (cI, 7, .inl f10)), (h21, .inl (cI, 7, .inl f30)), (h16, .inl (cI, 3, .inl f32)), (h0, .inr (3, [.ref h2, .ref h3, .ref h4, .ref h5, .ref h6, .ref h7, .int x8, .int x9])), (h2, .inr (8, [.int x12, .int x13, .int x14, .ref h15, .ref h16, .ref h17, .ref h18, .ref h19, .ref h20, .ref h21, .ref h22, .ref h23, .ref h24, .int x25, .int x26, .int x27, .int x28, .int x29])), (h5, .inl (cI, 7, .inl f11)), (h3, .inl (cI, 7, .inl f31))] H := hP
    have hD : va_D A [(h4, .inl (cI, 7, .inl f10)), (h21, .inl (cI, 7, .inl f30)), (h16, .inl (cI, 3, .inl f32)), (h0, .inr (3, [.ref h2, .ref h3, .ref h4, .ref h5, .ref h6, .ref h7, .int x8, .int x9])), (h2, .inr (8, [.int x12, .int x13, .int x14, .ref h15, .ref h16, .ref h17, .ref h18, .ref h19, .ref h20, .ref h21, .ref h22, .ref h23, .ref h24, .int x25, .int x26, .int x27, .int x28, .int x29])), (h5, .inl (cI, 7, .inl f11)), (h3, .inl (cI, 7, .inl f31))] := hD
    refine lv_istore_n (lv' := [(3, .int v_10), (2, .int v_1), (0, .ref h0), (1, .int x1)]) hx hb dX3_earnedAt_30 rfl hl (by decide) rfl (fun ls hl => ?_)
    refine lv_iload_n hx hb dX3_earnedAt_31 rfl (lv_at hl 1 rfl) ?_
    refine lv_aload_n hx hb dX3_earnedAt_32 rfl (lv_at hl 2 rfl) ?_
    refine lv_iload_n hx hb dX3_earnedAt_33 rfl (lv_at hl 3 rfl) ?_
    refine xc_core (wr := [(h4, .inl (cI, 7, .inl f10)), (h21, .inl (cI, 7, .inl f30)), (h3, .inl (cI, 7, .inl f31))]) (k := 0) (n := 0) (xc_runV (As := [.int x1]) (rest := [.int v_1]) hx hb hml hown hts hG hE hP hD hS hA [3, 5, 4, 2] (by decide) rfl (sX3_priceAt_1 l D cB cI cJ cZ aK aV h0 x1 h2 h3 h4 h5 h6 h7 x8 x9 f11 x12 x13 x14 h15 h16 h17 h18 h19 h20 h21 h22 h23 h24 x25 x26 x27 x28 x29 f32 (by omega) (by omega) (by omega) (by omega) (by omega) (by omega) (by omega) (by omega) (by omega) (by omega) (by omega) (by omega)) kw853 kw850 kw851 kw852 kw121 (show XD yX3_priceAt 1 from by decide +kernel) (by decide) rfl rfl 3 rfl hl.1 rfl (Nat.le_of_ble_eq_true rfl) dX3_earnedAt_34 (by decide)) hP hD hS hA [3, 5, 4, 2] [0, 1, 6] rfl rfl (by decide) (by decide) (Nat.le_of_ble_eq_true rfl) (Nat.le_of_ble_eq_true rfl) (fun r w1 H locs hpost hP hD hS => ?_)
    obtain ⟨v_13, rfl, rfl⟩ := hpost
    have hP : va_P D vwCl [(h4, .inl (cI, 7, .inl f10)), (h21, .inl (cI, 7, .inl f30)), (h3, .inl (cI, 7, .inl f31)), (h0, .inr (3, [.ref h2, .ref h3, .ref h4, .ref h5, .ref h6, .ref h7, .int x8, .int x9])), (h5, .inl (cI, 7, .inl f11)), (h2, .inr (8, [.int x12, .int x13, .int x14, .ref h15, .ref h16, .ref h17, .ref h18, .ref h19, .ref h20, .ref h21, .ref h22, .ref h23, .ref h24, .int x25, .int x26, .int x27, .int x28, .int x29])), (h16, .inl (cI, 3, .inl f32))] H := hP
    have hD : va_D A [(h4, .inl (cI, 7, .inl f10)), (h21, .inl (cI, 7, .inl f30)), (h3, .inl (cI, 7, .inl f31)), (h0, .inr (3, [.ref h2, .ref h3, .ref h4, .ref h5, .ref h6, .ref h7, .int x8, .int x9])), (h5, .inl (cI, 7, .inl f11)), (h2, .inr (8, [.int x12, .int x13, .int x14, .ref h15, .ref h16, .ref h17, .ref h18, .ref h19, .ref h20, .ref h21, .ref h22, .ref h23, .ref h24, .int x25, .int x26, .int x27, .int x28, .int x29])), (h16, .inl (cI, 3, .inl f32))] := hD
    refine lv_imul hx hb dX3_earnedAt_37 ?_
    refine xt_any (fun v_14 => ?_)
    refine lv_iconst (v := 1) hx hb dX3_earnedAt_38 (by decide +kernel) ?_
    refine lv_iload_n hx hb dX3_earnedAt_39 rfl (lv_at hl 0 rfl) ?_
    refine va_mmax hx hb (hml.trans hl.1.symm) hown (hts _ kw854) (hts _ kw683) (hts _ kw128) (hts _ kw684) (Nat.le_of_ble_eq_true rfl) (Nat.le_of_ble_eq_true rfl) (Nat.le_of_ble_eq_true rfl) (Nat.le_of_ble_eq_true rfl) dX3_earnedAt_40 ?_
    refine lv_topi (fun v_15 ev_15 => ?_)
    have g_16 := i32_max (show (1 : Int32).toInt = 1 from by decide) rfl ev_15
    refine lv_idiv hx hb dX3_earnedAt_43 (i_nz (by omega)) ?_
    refine xt_any (fun v_17 => ?_)
    refine lv_istore_n (lv' := [(2, .int v_17), (3, .int v_10), (0, .ref h0), (1, .int x1)]) hx hb dX3_earnedAt_44 rfl hl (by decide) rfl (fun ls hl => ?_)
    refine lv_iload_n hx hb dX3_earnedAt_45 rfl (lv_at hl 0 rfl) ?_
    refine lv_aload_n hx hb dX3_earnedAt_46 rfl (lv_at hl 2 rfl) ?_
    refine va_get (D := D) (ci := 3) (v := .ref h2) (C := RX3) (T := TX3) (N := 8) hx hb hts inX3 hown hG.1 hP 3 rfl rfl 0 (by decide) (hts _ kw425) (fun _ h9 => h9) rfl dX3_earnedAt_47 ?_
    refine va_get (D := D) (ci := 8) (v := .ref h21) (C := RX8) (T := TX8) (N := 18) hx hb hts inX8 hown hG.1 hP 5 rfl rfl 9 (by decide) (hts _ kw236) (fun _ h9 => h9) rfl dX3_earnedAt_50 ?_
    refine lv_iload_n hx hb dX3_earnedAt_53 rfl (lv_at hl 3 rfl) ?_
    refine xa_ildU hx hb hG hP 1 rfl (vp_in_iff.mpr ⟨by omega, by omega⟩) dX3_earnedAt_54 (fun v_18 => ?_)
    refine lv_isub hx hb dX3_earnedAt_55 ?_
    refine xt_any (fun v_19 => ?_)
    have hP9 := hP.sub (ws' := [(h0, .inr (3, [.ref h2, .ref h3, .ref h4, .ref h5, .ref h6, .ref h7, .int x8, .int x9])), (h4, .inl (cI, 7, .inl f10)), (h5, .inl (cI, 7, .inl f11)), (h2, .inr (8, [.int x12, .int x13, .int x14, .ref h15, .ref h16, .ref h17, .ref h18, .ref h19, .ref h20, .ref h21, .ref h22, .ref h23, .ref h24, .int x25, .int x26, .int x27, .int x28, .int x29])), (h21, .inl (cI, 7, .inl f30)), (h3, .inl (cI, 7, .inl f31)), (h16, .inl (cI, 3, .inl f32))]) [3, 0, 4, 5, 1, 2, 6] rfl
    have hD9 := hD.sub (ws' := [(h0, .inr (3, [.ref h2, .ref h3, .ref h4, .ref h5, .ref h6, .ref h7, .int x8, .int x9])), (h4, .inl (cI, 7, .inl f10)), (h5, .inl (cI, 7, .inl f11)), (h2, .inr (8, [.int x12, .int x13, .int x14, .ref h15, .ref h16, .ref h17, .ref h18, .ref h19, .ref h20, .ref h21, .ref h22, .ref h23, .ref h24, .int x25, .int x26, .int x27, .int x28, .int x29])), (h21, .inl (cI, 7, .inl f30)), (h3, .inl (cI, 7, .inl f31)), (h16, .inl (cI, 3, .inl f32))]) [3, 0, 4, 5, 1, 2, 6] (by decide) rfl
    exact xr_i (rm := (rmL 2 0 0)) hx hb hr hlocks hAe hS hP9 hD9 rfl (Nat.le_of_ble_eq_true rfl) (Nat.le_of_ble_eq_true rfl) dX3_earnedAt_56 ⟨v_19, rfl, rfl⟩
theorem dX3_earnedBy_0 : decode cX3_earnedBy 0 = .ok (.iconst 0, 1) := by decide +kernel
theorem dX3_earnedBy_1 : decode cX3_earnedBy 1 = .ok (.istore_n 2, 1) := by decide +kernel
theorem dX3_earnedBy_2 : decode cX3_earnedBy 2 = .ok (.iconst 0, 1) := by decide +kernel
theorem dX3_earnedBy_3 : decode cX3_earnedBy 3 = .ok (.istore_n 3, 1) := by decide +kernel
theorem dX3_earnedBy_4 : decode cX3_earnedBy 4 = .ok (.iload_n 3, 1) := by decide +kernel
theorem dX3_earnedBy_5 : decode cX3_earnedBy 5 = .ok (.aload_n 0, 1) := by decide +kernel
theorem dX3_earnedBy_6 : decode cX3_earnedBy 6 = .ok (.getfield 33, 3) := by decide +kernel
theorem dX3_earnedBy_9 : decode cX3_earnedBy 9 = .ok (.getfield 59, 3) := by decide +kernel
theorem dX3_earnedBy_12 : decode cX3_earnedBy 12 = .ok (.if_icmp .ge 27, 3) := by decide +kernel
theorem dX3_earnedBy_39 : decode cX3_earnedBy 39 = .ok (.iload_n 2, 1) := by decide +kernel
theorem dX3_earnedBy_40 : decode cX3_earnedBy 40 = .ok (.ireturn, 1) := by decide +kernel
theorem dX3_earnedBy_15 : decode cX3_earnedBy 15 = .ok (.aload_n 0, 1) := by decide +kernel
theorem dX3_earnedBy_16 : decode cX3_earnedBy 16 = .ok (.getfield 11, 3) := by decide +kernel
theorem dX3_earnedBy_19 : decode cX3_earnedBy 19 = .ok (.iload_n 3, 1) := by decide +kernel
theorem dX3_earnedBy_20 : decode cX3_earnedBy 20 = .ok (.iaload, 1) := by decide +kernel
theorem dX3_earnedBy_21 : decode cX3_earnedBy 21 = .ok (.iload_n 1, 1) := by decide +kernel
theorem dX3_earnedBy_22 : decode cX3_earnedBy 22 = .ok (.if_icmp .ne 11, 3) := by decide +kernel
theorem dX3_earnedBy_33 : decode cX3_earnedBy 33 = .ok (.iinc 3 1, 3) := by decide +kernel
theorem dX3_earnedBy_36 : decode cX3_earnedBy 36 = .ok (.goto (-32), 3) := by decide +kernel
theorem dX3_earnedBy_25 : decode cX3_earnedBy 25 = .ok (.iload_n 2, 1) := by decide +kernel
theorem dX3_earnedBy_26 : decode cX3_earnedBy 26 = .ok (.aload_n 0, 1) := by decide +kernel
theorem dX3_earnedBy_27 : decode cX3_earnedBy 27 = .ok (.iload_n 3, 1) := by decide +kernel
theorem kw871 : (.methodLink RX3 89 yX3_earnedAt : Cond) ∈ gT := gT_of 871 (by decide +kernel) (by decide +kernel)
theorem kw839 : (.code yX3_earnedAt cX3_earnedAt 4 (some .int) : Cond) ∈ gT := gT_of 839 (by decide +kernel) (by decide +kernel)
theorem kw837 : (.instanceMethod yX3_earnedAt : Cond) ∈ gT := gT_of 837 (by decide +kernel) (by decide +kernel)
theorem kw838 : (.selects RX3 yX3_earnedAt yX3_earnedAt : Cond) ∈ gT := gT_of 838 (by decide +kernel) (by decide +kernel)
theorem dX3_earnedBy_28 : decode cX3_earnedBy 28 = .ok (.invokevirtual 89, 3) := by decide +kernel
theorem dX3_earnedBy_31 : decode cX3_earnedBy 31 = .ok (.iadd, 1) := by decide +kernel
theorem dX3_earnedBy_32 : decode cX3_earnedBy 32 = .ok (.istore_n 2, 1) := by decide +kernel
set_option maxHeartbeats 4000000 in
set_option maxRecDepth 100000 in
theorem sX3_earnedBy_1 (l : Launch) (D : va_G) (cB cI cJ cZ : ClassId) (aK aV : Nat → Nat) (h0 : Nat) (x1 : Int32) (h2 : Nat) (h3 : Nat) (h4 : Nat) (h5 : Nat) (h6 : Nat) (h7 : Nat) (x8 : Int32) (x9 : Int32) (x10 : Int32) (x11 : Int32) (x12 : Int32) (h13 : Nat) (h14 : Nat) (h15 : Nat) (h16 : Nat) (h17 : Nat) (h18 : Nat) (h19 : Nat) (h20 : Nat) (h21 : Nat) (h22 : Nat) (x23 : Int32) (x24 : Int32) (x25 : Int32) (x26 : Int32) (x27 : Int32) (f28 : Nat → Int32) (f29 : Nat → Int32) (f30 : Nat → Int32) (f31 : Nat → Int32) (f32 : Nat → Int32) (gh0 : 0 ≤ x9.toInt) (gh1 : 0 ≤ -x9.toInt + 999) (gh2 : 0 ≤ x10.toInt) (gh3 : 0 ≤ -x10.toInt + 4) (gh4 : 0 ≤ x11.toInt) (gh5 : 0 ≤ -x11.toInt + 3) (gh6 : 0 ≤ x12.toInt) (gh7 : 0 ≤ -x12.toInt + 7) (gh8 : 0 ≤ x26.toInt + 1) (gh9 : 0 ≤ -x26.toInt + 999) (ga0 : AR f28 (0) (3) (x12.toInt)) : MX l yX3_earnedBy cX3_earnedBy 4 (some .int) (rmL 3 0 0) D cB cI cJ cZ aK aV [.ref h0, .int x1] [(h0, .inr (3, [.ref h2, .ref h3, .ref h4, .ref h5, .ref h6, .ref h7, .int x8, .int x9])), (h2, .inr (8, [.int x10, .int x11, .int x12, .ref h13, .ref h14, .ref h15, .ref h16, .ref h17, .ref h18, .ref h19, .ref h20, .ref h21, .ref h22, .int x23, .int x24, .int x25, .int x26, .int x27])), (h3, .inl (cI, 7, .inl f28)), (h4, .inl (cI, 7, .inl f29)), (h5, .inl (cI, 7, .inl f30)), (h19, .inl (cI, 7, .inl f31)), (h14, .inl (cI, 3, .inl f32))] (fun r w1 => ∃ z1 : Int32, r = some (.int z1) ∧ w1 = [(h0, .inr (3, [.ref h2, .ref h3, .ref h4, .ref h5, .ref h6, .ref h7, .int x8, .int x9])), (h2, .inr (8, [.int x10, .int x11, .int x12, .ref h13, .ref h14, .ref h15, .ref h16, .ref h17, .ref h18, .ref h19, .ref h20, .ref h21, .ref h22, .int x23, .int x24, .int x25, .int x26, .int x27])), (h3, .inl (cI, 7, .inl f28)), (h4, .inl (cI, 7, .inl f29)), (h5, .inl (cI, 7, .inl f30)), (h19, .inl (cI, 7, .inl f31)), (h14, .inl (cI, 3, .inl f32))]) := by
  refine MX.intro (by decide) (Nat.le_of_ble_eq_true rfl) ?_
  intro p e s m below meth c A ls hx hb hr hml hown hlocks hnm hts hG hE hA hS hP hD hl hAe
  have hl : lv_has ls 4 [(0, .ref h0), (1, .int x1)] := hl
  have hown : s.vm.findClass RX3 = some m.cls := hown
  refine lv_iconst (v := 0) hx hb dX3_earnedBy_0 (by decide +kernel) ?_
  refine lv_istore_n (lv' := [(2, .int 0), (0, .ref h0), (1, .int x1)]) hx hb dX3_earnedBy_1 rfl hl (by decide) rfl (fun ls hl => ?_)
  refine lv_iconst (v := 0) hx hb dX3_earnedBy_2 (by decide +kernel) ?_
  refine lv_istore_n (lv' := [(3, .int 0), (2, .int 0), (0, .ref h0), (1, .int x1)]) hx hb dX3_earnedBy_3 rfl hl (by decide) rfl (fun ls hl => ?_)
  have lp_5 : ∀ (n : Nat) (x_3 x_4 : Int32) (H : Heap) (locs : List Loc) (ls : Array Slot), 0 ≤ x_4.toInt → 0 ≤ x12.toInt - x_4.toInt → -x_4.toInt + 7 < n → va_P D vwCl [(h0, .inr (3, [.ref h2, .ref h3, .ref h4, .ref h5, .ref h6, .ref h7, .int x8, .int x9])), (h2, .inr (8, [.int x10, .int x11, .int x12, .ref h13, .ref h14, .ref h15, .ref h16, .ref h17, .ref h18, .ref h19, .ref h20, .ref h21, .ref h22, .int x23, .int x24, .int x25, .int x26, .int x27])), (h3, .inl (cI, 7, .inl f28)), (h4, .inl (cI, 7, .inl f29)), (h5, .inl (cI, 7, .inl f30)), (h19, .inl (cI, 7, .inl f31)), (h14, .inl (cI, 3, .inl f32))] H → va_D A [(h0, .inr (3, [.ref h2, .ref h3, .ref h4, .ref h5, .ref h6, .ref h7, .int x8, .int x9])), (h2, .inr (8, [.int x10, .int x11, .int x12, .ref h13, .ref h14, .ref h15, .ref h16, .ref h17, .ref h18, .ref h19, .ref h20, .ref h21, .ref h22, .int x23, .int x24, .int x25, .int x26, .int x27])), (h3, .inl (cI, 7, .inl f28)), (h4, .inl (cI, 7, .inl f29)), (h5, .inl (cI, 7, .inl f30)), (h19, .inl (cI, 7, .inl f31)), (h14, .inl (cI, 3, .inl f32))] → va_S A s.heap H locs → lv_has ls 4 [(3, .int x_4), (2, .int x_3), (0, .ref h0), (1, .int x1)] → W p l e (rmL 3 0 0) s m [.ref h0, .int x1].toArray below meth c H locs 0 0 (ZX D below [.ref h0, .int x1] s (rmL 3 0 0) [(h0, .inr (3, [.ref h2, .ref h3, .ref h4, .ref h5, .ref h6, .ref h7, .int x8, .int x9])), (h2, .inr (8, [.int x10, .int x11, .int x12, .ref h13, .ref h14, .ref h15, .ref h16, .ref h17, .ref h18, .ref h19, .ref h20, .ref h21, .ref h22, .int x23, .int x24, .int x25, .int x26, .int x27])), (h3, .inl (cI, 7, .inl f28)), (h4, .inl (cI, 7, .inl f29)), (h5, .inl (cI, 7, .inl f30)), (h19, .inl (cI, 7, .inl f31)), (h14, .inl (cI, 3, .inl f32))] (fun r w1 => ∃ z1 : Int32, r = some (.int z1) ∧ w1 = [(h0, .inr (3, [.ref h2, .ref h3, .ref h4, .ref h5, .ref h6, .ref h7, .int x8, .int x9])), (h2, .inr (8, [.int x10, .int x11, .int x12, .ref h13, .ref h14, .ref h15, .ref h16, .ref h17, .ref h18, .ref h19, .ref h20, .ref h21, .ref h22, .int x23, .int x24, .int x25, .int x26, .int x27])), (h3, .inl (cI, 7, .inl f28)), (h4, .inl (cI, 7, .inl f29)), (h5, .inl (cI, 7, .inl f30)), (h19, .inl (cI, 7, .inl f31)), (h14, .inl (cI, 3, .inl f32))])) (F0 m 4 ls []) := by
    intro n
    induction n with
    | zero => intro x_3 x_4 H locs ls g_6 g_7 g_8; omega
    | succ n ihlp_5 =>
      intro x_3 x_4 H locs ls g_6 g_7 g_8 hP hD hS hl
      refine lv_iload_n hx hb dX3_earnedBy_4 rfl (lv_at hl 0 rfl) ?_
      refine lv_aload_n hx hb dX3_earnedBy_5 rfl (lv_at hl 2 rfl) ?_
      refine va_get (D := D) (ci := 3) (v := .ref h2) (C := RX3) (T := TX3) (N := 8) hx hb hts inX3 hown hG.1 hP 0 rfl rfl 0 (by decide) (hts _ kw425) (fun _ h9 => h9) rfl dX3_earnedBy_6 ?_
      refine va_get (D := D) (ci := 8) (v := .int x12) (C := RX8) (T := TX8) (N := 18) hx hb hts inX8 hown hG.1 hP 1 rfl rfl 2 (by decide) (hts _ kw211) (fun _ h9 => h9) rfl dX3_earnedBy_9 ?_
      refine lv_icmp_ge (tgt := 39) hx hb dX3_earnedBy_12 (by decide) (fun c_9 => ?_) (fun c_9 => ?_)
      · have fc_9 : x12.toInt ≤ x_4.toInt := i_le rfl rfl c_9
        refine lv_iload_n hx hb dX3_earnedBy_39 rfl (lv_at hl 1 rfl) ?_
        have hP9 := hP.sub (ws' := [(h0, .inr (3, [.ref h2, .ref h3, .ref h4, .ref h5, .ref h6, .ref h7, .int x8, .int x9])), (h2, .inr (8, [.int x10, .int x11, .int x12, .ref h13, .ref h14, .ref h15, .ref h16, .ref h17, .ref h18, .ref h19, .ref h20, .ref h21, .ref h22, .int x23, .int x24, .int x25, .int x26, .int x27])), (h3, .inl (cI, 7, .inl f28)), (h4, .inl (cI, 7, .inl f29)), (h5, .inl (cI, 7, .inl f30)), (h19, .inl (cI, 7, .inl f31)), (h14, .inl (cI, 3, .inl f32))]) [0, 1, 2, 3, 4, 5, 6] rfl
        have hD9 := hD.sub (ws' := [(h0, .inr (3, [.ref h2, .ref h3, .ref h4, .ref h5, .ref h6, .ref h7, .int x8, .int x9])), (h2, .inr (8, [.int x10, .int x11, .int x12, .ref h13, .ref h14, .ref h15, .ref h16, .ref h17, .ref h18, .ref h19, .ref h20, .ref h21, .ref h22, .int x23, .int x24, .int x25, .int x26, .int x27])), (h3, .inl (cI, 7, .inl f28)), (h4, .inl (cI, 7, .inl f29)), (h5, .inl (cI, 7, .inl f30)), (h19, .inl (cI, 7, .inl f31)), (h14, .inl (cI, 3, .inl f32))]) [0, 1, 2, 3, 4, 5, 6] (by decide) rfl
        exact xr_i (rm := (rmL 3 0 0)) hx hb hr hlocks hAe hS hP9 hD9 rfl (Nat.le_of_ble_eq_true rfl) (Nat.le_of_ble_eq_true rfl) dX3_earnedBy_40 ⟨x_3, rfl, rfl⟩
      · have fc_9 : x_4.toInt < x12.toInt := i_nle rfl rfl c_9
        refine lv_aload_n hx hb dX3_earnedBy_15 rfl (lv_at hl 2 rfl) ?_
        refine va_get (D := D) (ci := 3) (v := .ref h3) (C := RX3) (T := TX3) (N := 8) hx hb hts inX3 hown hG.1 hP 0 rfl rfl 1 (by decide) (hts _ kw428) (fun _ h9 => h9) rfl dX3_earnedBy_16 ?_
        refine lv_iload_n hx hb dX3_earnedBy_19 rfl (lv_at hl 0 rfl) ?_
        refine xa_ildR hx hb hG hP 2 rfl (vp_in_iff.mpr ⟨by omega, by omega⟩) dX3_earnedBy_20 (fun v_10 hv => ?_)
        have g_11 := hv _ _ _ ga0 (by omega)
        refine lv_iload_n hx hb dX3_earnedBy_21 rfl (lv_at hl 3 rfl) ?_
        refine lv_icmp_ne (tgt := 33) hx hb dX3_earnedBy_22 (by decide) (fun c_12 => ?_) (fun c_12 => ?_)
        · have fc_12 : v_10.toInt ≠ x1.toInt := i_ne rfl rfl c_12
          obtain ⟨v_13, ev_13⟩ : ∃ y : Int32, y = x_4 + 1 := ⟨_, rfl⟩
          have gv_13 : v_13.toInt = x_4.toInt + 1 := by
            have zy : (1 : Int32).toInt = 1 := by decide
            rw [ev_13, i32_add (by rw [zy]; omega) (by rw [zy]; omega), zy]
          refine lv_iinc (v := v_13) (lv' := [(3, .int v_13), (2, .int x_3), (0, .ref h0), (1, .int x1)]) hx hb dX3_earnedBy_33 hl (k := 0) rfl (by rw [ev_13]; rfl) (by decide) rfl (fun ls hl => ?_)
          refine lv_goto (tgt := 4) hx hb dX3_earnedBy_36 (by decide) ?_
          exact ihlp_5  x_3 v_13 _ _ _ (by omega) (by omega) (by omega) (hP.sub (ws' := [(h0, .inr (3, [.ref h2, .ref h3, .ref h4, .ref h5, .ref h6, .ref h7, .int x8, .int x9])), (h2, .inr (8, [.int x10, .int x11, .int x12, .ref h13, .ref h14, .ref h15, .ref h16, .ref h17, .ref h18, .ref h19, .ref h20, .ref h21, .ref h22, .int x23, .int x24, .int x25, .int x26, .int x27])), (h3, .inl (cI, 7, .inl f28)), (h4, .inl (cI, 7, .inl f29)), (h5, .inl (cI, 7, .inl f30)), (h19, .inl (cI, 7, .inl f31)), (h14, .inl (cI, 3, .inl f32))]) [0, 1, 2, 3, 4, 5, 6] rfl) (hD.sub (ws' := [(h0, .inr (3, [.ref h2, .ref h3, .ref h4, .ref h5, .ref h6, .ref h7, .int x8, .int x9])), (h2, .inr (8, [.int x10, .int x11, .int x12, .ref h13, .ref h14, .ref h15, .ref h16, .ref h17, .ref h18, .ref h19, .ref h20, .ref h21, .ref h22, .int x23, .int x24, .int x25, .int x26, .int x27])), (h3, .inl (cI, 7, .inl f28)), (h4, .inl (cI, 7, .inl f29)), (h5, .inl (cI, 7, .inl f30)), (h19, .inl (cI, 7, .inl f31)), (h14, .inl (cI, 3, .inl f32))]) [0, 1, 2, 3, 4, 5, 6] (by decide) rfl) hS (lv_sub hl [0, 1, 2, 3] rfl)
        · have fc_12 : v_10.toInt = x1.toInt := i_eq rfl rfl c_12
          refine lv_iload_n hx hb dX3_earnedBy_25 rfl (lv_at hl 1 rfl) ?_
          refine lv_aload_n hx hb dX3_earnedBy_26 rfl (lv_at hl 2 rfl) ?_
          refine lv_iload_n hx hb dX3_earnedBy_27 rfl (lv_at hl 0 rfl) ?_
          refine xc_core (wr := []) (k := 0) (n := 0) (xc_runV (As := [.int x_4]) (rest := [.int x_3]) hx hb hml hown hts hG hE hP hD hS hA [0, 3, 4, 1, 5, 2, 6] (by decide) rfl (sX3_earnedAt_1 l D cB cI cJ cZ aK aV h0 x_4 h2 h3 h4 h5 h6 h7 x8 x9 f29 f30 x10 x11 x12 h13 h14 h15 h16 h17 h18 h19 h20 h21 h22 x23 x24 x25 x26 x27 f31 f28 f32 (by omega) (by omega) (by omega) (by omega) (by omega) (by omega) (by omega) (by omega) (by omega) (by omega) (by omega) (by omega) (ga0.mono (by omega) (by omega) (by omega))) kw839 kw871 kw837 kw838 kw121 (show XD yX3_earnedAt 1 from by decide +kernel) (by decide) rfl rfl 0 rfl hl.1 rfl (Nat.le_of_ble_eq_true rfl) dX3_earnedBy_28 (by decide)) hP hD hS hA [0, 3, 4, 1, 5, 2, 6] [] rfl rfl (by decide) (by decide) (Nat.le_of_ble_eq_true rfl) (Nat.le_of_ble_eq_true rfl) (fun r w1 H locs hpost hP hD hS => ?_)
          obtain ⟨v_14, rfl, rfl⟩ := hpost
          have hP : va_P D vwCl [(h0, .inr (3, [.ref h2, .ref h3, .ref h4, .ref h5, .ref h6, .ref h7, .int x8, .int x9])), (h4, .inl (cI, 7, .inl f29)), (h5, .inl (cI, 7, .inl f30)), (h2, .inr (8, [.int x10, .int x11, .int x12, .ref h13, .ref h14, .ref h15, .ref h16, .ref h17, .ref h18, .ref h19, .ref h20, .ref h21, .ref h22, .int x23, .int x24, .int x25, .int x26, .int x27])), (h19, .inl (cI, 7, .inl f31)), (h3, .inl (cI, 7, .inl f28)), (h14, .inl (cI, 3, .inl f32))] H := hP
          have hD : va_D A [(h0, .inr (3, [.ref h2, .ref h3, .ref h4, .ref h5, .ref h6, .ref h7, .int x8, .int x9])), (h4, .inl (cI, 7, .inl f29)), (h5, .inl (cI, 7, .inl f30)), (h2, .inr (8, [.int x10, .int x11, .int x12, .ref h13, .ref h14, .ref h15, .ref h16, .ref h17, .ref h18, .ref h19, .ref h20, .ref h21, .ref h22, .int x23, .int x24, .int x25, .int x26, .int x27])), (h19, .inl (cI, 7, .inl f31)), (h3, .inl (cI, 7, .inl f28)), (h14, .inl (cI, 3, .inl f32))] := hD
          refine lv_iadd hx hb dX3_earnedBy_31 ?_
          refine xt_any (fun v_15 => ?_)
          refine lv_istore_n (lv' := [(2, .int v_15), (3, .int x_4), (0, .ref h0), (1, .int x1)]) hx hb dX3_earnedBy_32 rfl hl (by decide) rfl (fun ls hl => ?_)
          obtain ⟨v_16, ev_16⟩ : ∃ y : Int32, y = x_4 + 1 := ⟨_, rfl⟩
          have gv_16 : v_16.toInt = x_4.toInt + 1 := by
            have zy : (1 : Int32).toInt = 1 := by decide
            rw [ev_16, i32_add (by rw [zy]; omega) (by rw [zy]; omega), zy]
          refine lv_iinc (v := v_16) (lv' := [(3, .int v_16), (2, .int v_15), (0, .ref h0), (1, .int x1)]) hx hb dX3_earnedBy_33 hl (k := 1) rfl (by rw [ev_16]; rfl) (by decide) rfl (fun ls hl => ?_)
          refine lv_goto (tgt := 4) hx hb dX3_earnedBy_36 (by decide) ?_
          exact ihlp_5  v_15 v_16 _ _ _ (by omega) (by omega) (by omega) (hP.sub (ws' := [(h0, .inr (3, [.ref h2, .ref h3, .ref h4, .ref h5, .ref h6, .ref h7, .int x8, .int x9])), (h2, .inr (8, [.int x10, .int x11, .int x12, .ref h13, .ref h14, .ref h15, .ref h16, .ref h17, .ref h18, .ref h19, .ref h20, .ref h21, .ref h22, .int x23, .int x24, .int x25, .int x26, .int x27])), (h3, .inl (cI, 7, .inl f28)), (h4, .inl (cI, 7, .inl f29)), (h5, .inl (cI, 7, .inl f30)), (h19, .inl (cI, 7, .inl f31)), (h14, .inl (cI, 3, .inl f32))]) [0, 3, 5, 1, 2, 4, 6] rfl) (hD.sub (ws' := [(h0, .inr (3, [.ref h2, .ref h3, .ref h4, .ref h5, .ref h6, .ref h7, .int x8, .int x9])), (h2, .inr (8, [.int x10, .int x11, .int x12, .ref h13, .ref h14, .ref h15, .ref h16, .ref h17, .ref h18, .ref h19, .ref h20, .ref h21, .ref h22, .int x23, .int x24, .int x25, .int x26, .int x27])), (h3, .inl (cI, 7, .inl f28)), (h4, .inl (cI, 7, .inl f29)), (h5, .inl (cI, 7, .inl f30)), (h19, .inl (cI, 7, .inl f31)), (h14, .inl (cI, 3, .inl f32))]) [0, 3, 5, 1, 2, 4, 6] (by decide) rfl) hS (lv_sub hl [0, 1, 2, 3] rfl)
  exact lp_5 9 0 0 _ _ _ (by have zc0 : (0 : Int32).toInt = 0 := (by decide); omega) (by have zc0 : (0 : Int32).toInt = 0 := (by decide); omega) (by have zc0 : (0 : Int32).toInt = 0 := (by decide); omega) (hP.sub (ws' := [(h0, .inr (3, [.ref h2, .ref h3, .ref h4, .ref h5, .ref h6, .ref h7, .int x8, .int x9])), (h2, .inr (8, [.int x10, .int x11, .int x12, .ref h13, .ref h14, .ref h15, .ref h16, .ref h17, .ref h18, .ref h19, .ref h20, .ref h21, .ref h22, .int x23, .int x24, .int x25, .int x26, .int x27])), (h3, .inl (cI, 7, .inl f28)), (h4, .inl (cI, 7, .inl f29)), (h5, .inl (cI, 7, .inl f30)), (h19, .inl (cI, 7, .inl f31)), (h14, .inl (cI, 3, .inl f32))]) [0, 1, 2, 3, 4, 5, 6] rfl) (hD.sub (ws' := [(h0, .inr (3, [.ref h2, .ref h3, .ref h4, .ref h5, .ref h6, .ref h7, .int x8, .int x9])), (h2, .inr (8, [.int x10, .int x11, .int x12, .ref h13, .ref h14, .ref h15, .ref h16, .ref h17, .ref h18, .ref h19, .ref h20, .ref h21, .ref h22, .int x23, .int x24, .int x25, .int x26, .int x27])), (h3, .inl (cI, 7, .inl f28)), (h4, .inl (cI, 7, .inl f29)), (h5, .inl (cI, 7, .inl f30)), (h19, .inl (cI, 7, .inl f31)), (h14, .inl (cI, 3, .inl f32))]) [0, 1, 2, 3, 4, 5, 6] (by decide) rfl) hS (lv_sub hl [0, 1, 2, 3] rfl)
theorem dX3_allYields_0 : decode cX3_allYields 0 = .ok (.iconst 0, 1) := by decide +kernel
theorem dX3_allYields_1 : decode cX3_allYields 1 = .ok (.istore_n 1, 1) := by decide +kernel
theorem dX3_allYields_2 : decode cX3_allYields 2 = .ok (.iconst 0, 1) := by decide +kernel
theorem dX3_allYields_3 : decode cX3_allYields 3 = .ok (.istore_n 2, 1) := by decide +kernel
theorem dX3_allYields_4 : decode cX3_allYields 4 = .ok (.iload_n 2, 1) := by decide +kernel
theorem dX3_allYields_5 : decode cX3_allYields 5 = .ok (.aload_n 0, 1) := by decide +kernel
theorem dX3_allYields_6 : decode cX3_allYields 6 = .ok (.getfield 33, 3) := by decide +kernel
theorem dX3_allYields_9 : decode cX3_allYields 9 = .ok (.getfield 59, 3) := by decide +kernel
theorem dX3_allYields_12 : decode cX3_allYields 12 = .ok (.if_icmp .ge 18, 3) := by decide +kernel
theorem dX3_allYields_30 : decode cX3_allYields 30 = .ok (.iload_n 1, 1) := by decide +kernel
theorem dX3_allYields_31 : decode cX3_allYields 31 = .ok (.ireturn, 1) := by decide +kernel
theorem dX3_allYields_15 : decode cX3_allYields 15 = .ok (.iload_n 1, 1) := by decide +kernel
theorem dX3_allYields_16 : decode cX3_allYields 16 = .ok (.aload_n 0, 1) := by decide +kernel
theorem dX3_allYields_17 : decode cX3_allYields 17 = .ok (.getfield 15, 3) := by decide +kernel
theorem dX3_allYields_20 : decode cX3_allYields 20 = .ok (.iload_n 2, 1) := by decide +kernel
theorem dX3_allYields_21 : decode cX3_allYields 21 = .ok (.iaload, 1) := by decide +kernel
theorem dX3_allYields_22 : decode cX3_allYields 22 = .ok (.iadd, 1) := by decide +kernel
theorem dX3_allYields_23 : decode cX3_allYields 23 = .ok (.istore_n 1, 1) := by decide +kernel
theorem dX3_allYields_24 : decode cX3_allYields 24 = .ok (.iinc 2 1, 3) := by decide +kernel
theorem dX3_allYields_27 : decode cX3_allYields 27 = .ok (.goto (-23), 3) := by decide +kernel
set_option maxHeartbeats 4000000 in
set_option maxRecDepth 100000 in
theorem sX3_allYields_1 (l : Launch) (D : va_G) (cB cI cJ cZ : ClassId) (aK aV : Nat → Nat) (h0 : Nat) (h1 : Nat) (h2 : Nat) (h3 : Nat) (h4 : Nat) (h5 : Nat) (h6 : Nat) (x7 : Int32) (x8 : Int32) (x9 : Int32) (x10 : Int32) (x11 : Int32) (h12 : Nat) (h13 : Nat) (h14 : Nat) (h15 : Nat) (h16 : Nat) (h17 : Nat) (h18 : Nat) (h19 : Nat) (h20 : Nat) (h21 : Nat) (x22 : Int32) (x23 : Int32) (x24 : Int32) (x25 : Int32) (x26 : Int32) (f27 : Nat → Int32) (gh0 : 0 ≤ x8.toInt) (gh1 : 0 ≤ -x8.toInt + 999) (gh2 : 0 ≤ x9.toInt) (gh3 : 0 ≤ -x9.toInt + 4) (gh4 : 0 ≤ x10.toInt) (gh5 : 0 ≤ -x10.toInt + 3) (gh6 : 0 ≤ x11.toInt) (gh7 : 0 ≤ -x11.toInt + 7) (gh8 : 0 ≤ x25.toInt + 1) (gh9 : 0 ≤ -x25.toInt + 999) : MX l yX3_allYields cX3_allYields 3 (some .int) (rmL 1 0 0) D cB cI cJ cZ aK aV [.ref h0] [(h0, .inr (3, [.ref h1, .ref h2, .ref h3, .ref h4, .ref h5, .ref h6, .int x7, .int x8])), (h1, .inr (8, [.int x9, .int x10, .int x11, .ref h12, .ref h13, .ref h14, .ref h15, .ref h16, .ref h17, .ref h18, .ref h19, .ref h20, .ref h21, .int x22, .int x23, .int x24, .int x25, .int x26])), (h3, .inl (cI, 7, .inl f27))] (fun r w1 => ∃ z1 : Int32, r = some (.int z1) ∧ w1 = [(h0, .inr (3, [.ref h1, .ref h2, .ref h3, .ref h4, .ref h5, .ref h6, .int x7, .int x8])), (h1, .inr (8, [.int x9, .int x10, .int x11, .ref h12, .ref h13, .ref h14, .ref h15, .ref h16, .ref h17, .ref h18, .ref h19, .ref h20, .ref h21, .int x22, .int x23, .int x24, .int x25, .int x26])), (h3, .inl (cI, 7, .inl f27))]) := by
  refine MX.intro (by decide) (Nat.le_of_ble_eq_true rfl) ?_
  intro p e s m below meth c A ls hx hb hr hml hown hlocks hnm hts hG hE hA hS hP hD hl hAe
  have hl : lv_has ls 3 [(0, .ref h0)] := hl
  have hown : s.vm.findClass RX3 = some m.cls := hown
  refine lv_iconst (v := 0) hx hb dX3_allYields_0 (by decide +kernel) ?_
  refine lv_istore_n (lv' := [(1, .int 0), (0, .ref h0)]) hx hb dX3_allYields_1 rfl hl (by decide) rfl (fun ls hl => ?_)
  refine lv_iconst (v := 0) hx hb dX3_allYields_2 (by decide +kernel) ?_
  refine lv_istore_n (lv' := [(2, .int 0), (1, .int 0), (0, .ref h0)]) hx hb dX3_allYields_3 rfl hl (by decide) rfl (fun ls hl => ?_)
  have lp_5 : ∀ (n : Nat) (x_3 x_4 : Int32) (H : Heap) (locs : List Loc) (ls : Array Slot), 0 ≤ x_4.toInt → 0 ≤ x11.toInt - x_4.toInt → -x_4.toInt + 7 < n → va_P D vwCl [(h0, .inr (3, [.ref h1, .ref h2, .ref h3, .ref h4, .ref h5, .ref h6, .int x7, .int x8])), (h1, .inr (8, [.int x9, .int x10, .int x11, .ref h12, .ref h13, .ref h14, .ref h15, .ref h16, .ref h17, .ref h18, .ref h19, .ref h20, .ref h21, .int x22, .int x23, .int x24, .int x25, .int x26])), (h3, .inl (cI, 7, .inl f27))] H → va_D A [(h0, .inr (3, [.ref h1, .ref h2, .ref h3, .ref h4, .ref h5, .ref h6, .int x7, .int x8])), (h1, .inr (8, [.int x9, .int x10, .int x11, .ref h12, .ref h13, .ref h14, .ref h15, .ref h16, .ref h17, .ref h18, .ref h19, .ref h20, .ref h21, .int x22, .int x23, .int x24, .int x25, .int x26])), (h3, .inl (cI, 7, .inl f27))] → va_S A s.heap H locs → lv_has ls 3 [(2, .int x_4), (1, .int x_3), (0, .ref h0)] → W p l e (rmL 1 0 0) s m [.ref h0].toArray below meth c H locs 0 0 (ZX D below [.ref h0] s (rmL 1 0 0) [(h0, .inr (3, [.ref h1, .ref h2, .ref h3, .ref h4, .ref h5, .ref h6, .int x7, .int x8])), (h1, .inr (8, [.int x9, .int x10, .int x11, .ref h12, .ref h13, .ref h14, .ref h15, .ref h16, .ref h17, .ref h18, .ref h19, .ref h20, .ref h21, .int x22, .int x23, .int x24, .int x25, .int x26])), (h3, .inl (cI, 7, .inl f27))] (fun r w1 => ∃ z1 : Int32, r = some (.int z1) ∧ w1 = [(h0, .inr (3, [.ref h1, .ref h2, .ref h3, .ref h4, .ref h5, .ref h6, .int x7, .int x8])), (h1, .inr (8, [.int x9, .int x10, .int x11, .ref h12, .ref h13, .ref h14, .ref h15, .ref h16, .ref h17, .ref h18, .ref h19, .ref h20, .ref h21, .int x22, .int x23, .int x24, .int x25, .int x26])), (h3, .inl (cI, 7, .inl f27))])) (F0 m 4 ls []) := by
    intro n
    induction n with
    | zero => intro x_3 x_4 H locs ls g_6 g_7 g_8; omega
    | succ n ihlp_5 =>
      intro x_3 x_4 H locs ls g_6 g_7 g_8 hP hD hS hl
      refine lv_iload_n hx hb dX3_allYields_4 rfl (lv_at hl 0 rfl) ?_
      refine lv_aload_n hx hb dX3_allYields_5 rfl (lv_at hl 2 rfl) ?_
      refine va_get (D := D) (ci := 3) (v := .ref h1) (C := RX3) (T := TX3) (N := 8) hx hb hts inX3 hown hG.1 hP 0 rfl rfl 0 (by decide) (hts _ kw425) (fun _ h9 => h9) rfl dX3_allYields_6 ?_
      refine va_get (D := D) (ci := 8) (v := .int x11) (C := RX8) (T := TX8) (N := 18) hx hb hts inX8 hown hG.1 hP 1 rfl rfl 2 (by decide) (hts _ kw211) (fun _ h9 => h9) rfl dX3_allYields_9 ?_
      refine lv_icmp_ge (tgt := 30) hx hb dX3_allYields_12 (by decide) (fun c_9 => ?_) (fun c_9 => ?_)
      · have fc_9 : x11.toInt ≤ x_4.toInt := i_le rfl rfl c_9
        refine lv_iload_n hx hb dX3_allYields_30 rfl (lv_at hl 1 rfl) ?_
        have hP9 := hP.sub (ws' := [(h0, .inr (3, [.ref h1, .ref h2, .ref h3, .ref h4, .ref h5, .ref h6, .int x7, .int x8])), (h1, .inr (8, [.int x9, .int x10, .int x11, .ref h12, .ref h13, .ref h14, .ref h15, .ref h16, .ref h17, .ref h18, .ref h19, .ref h20, .ref h21, .int x22, .int x23, .int x24, .int x25, .int x26])), (h3, .inl (cI, 7, .inl f27))]) [0, 1, 2] rfl
        have hD9 := hD.sub (ws' := [(h0, .inr (3, [.ref h1, .ref h2, .ref h3, .ref h4, .ref h5, .ref h6, .int x7, .int x8])), (h1, .inr (8, [.int x9, .int x10, .int x11, .ref h12, .ref h13, .ref h14, .ref h15, .ref h16, .ref h17, .ref h18, .ref h19, .ref h20, .ref h21, .int x22, .int x23, .int x24, .int x25, .int x26])), (h3, .inl (cI, 7, .inl f27))]) [0, 1, 2] (by decide) rfl
        exact xr_i (rm := (rmL 1 0 0)) hx hb hr hlocks hAe hS hP9 hD9 rfl (Nat.le_of_ble_eq_true rfl) (Nat.le_of_ble_eq_true rfl) dX3_allYields_31 ⟨x_3, rfl, rfl⟩
      · have fc_9 : x_4.toInt < x11.toInt := i_nle rfl rfl c_9
        refine lv_iload_n hx hb dX3_allYields_15 rfl (lv_at hl 1 rfl) ?_
        refine lv_aload_n hx hb dX3_allYields_16 rfl (lv_at hl 2 rfl) ?_
        refine va_get (D := D) (ci := 3) (v := .ref h3) (C := RX3) (T := TX3) (N := 8) hx hb hts inX3 hown hG.1 hP 0 rfl rfl 2 (by decide) (hts _ kw432) (fun _ h9 => h9) rfl dX3_allYields_17 ?_
        refine lv_iload_n hx hb dX3_allYields_20 rfl (lv_at hl 0 rfl) ?_
        refine xa_ildU hx hb hG hP 2 rfl (vp_in_iff.mpr ⟨by omega, by omega⟩) dX3_allYields_21 (fun v_10 => ?_)
        refine lv_iadd hx hb dX3_allYields_22 ?_
        refine xt_any (fun v_11 => ?_)
        refine lv_istore_n (lv' := [(1, .int v_11), (2, .int x_4), (0, .ref h0)]) hx hb dX3_allYields_23 rfl hl (by decide) rfl (fun ls hl => ?_)
        obtain ⟨v_12, ev_12⟩ : ∃ y : Int32, y = x_4 + 1 := ⟨_, rfl⟩
        have gv_12 : v_12.toInt = x_4.toInt + 1 := by
          have zy : (1 : Int32).toInt = 1 := by decide
          rw [ev_12, i32_add (by rw [zy]; omega) (by rw [zy]; omega), zy]
        refine lv_iinc (v := v_12) (lv' := [(2, .int v_12), (1, .int v_11), (0, .ref h0)]) hx hb dX3_allYields_24 hl (k := 1) rfl (by rw [ev_12]; rfl) (by decide) rfl (fun ls hl => ?_)
        refine lv_goto (tgt := 4) hx hb dX3_allYields_27 (by decide) ?_
        exact ihlp_5  v_11 v_12 _ _ _ (by omega) (by omega) (by omega) (hP.sub (ws' := [(h0, .inr (3, [.ref h1, .ref h2, .ref h3, .ref h4, .ref h5, .ref h6, .int x7, .int x8])), (h1, .inr (8, [.int x9, .int x10, .int x11, .ref h12, .ref h13, .ref h14, .ref h15, .ref h16, .ref h17, .ref h18, .ref h19, .ref h20, .ref h21, .int x22, .int x23, .int x24, .int x25, .int x26])), (h3, .inl (cI, 7, .inl f27))]) [0, 1, 2] rfl) (hD.sub (ws' := [(h0, .inr (3, [.ref h1, .ref h2, .ref h3, .ref h4, .ref h5, .ref h6, .int x7, .int x8])), (h1, .inr (8, [.int x9, .int x10, .int x11, .ref h12, .ref h13, .ref h14, .ref h15, .ref h16, .ref h17, .ref h18, .ref h19, .ref h20, .ref h21, .int x22, .int x23, .int x24, .int x25, .int x26])), (h3, .inl (cI, 7, .inl f27))]) [0, 1, 2] (by decide) rfl) hS (lv_sub hl [0, 1, 2] rfl)
  exact lp_5 9 0 0 _ _ _ (by have zc0 : (0 : Int32).toInt = 0 := (by decide); omega) (by have zc0 : (0 : Int32).toInt = 0 := (by decide); omega) (by have zc0 : (0 : Int32).toInt = 0 := (by decide); omega) (hP.sub (ws' := [(h0, .inr (3, [.ref h1, .ref h2, .ref h3, .ref h4, .ref h5, .ref h6, .int x7, .int x8])), (h1, .inr (8, [.int x9, .int x10, .int x11, .ref h12, .ref h13, .ref h14, .ref h15, .ref h16, .ref h17, .ref h18, .ref h19, .ref h20, .ref h21, .int x22, .int x23, .int x24, .int x25, .int x26])), (h3, .inl (cI, 7, .inl f27))]) [0, 1, 2] rfl) (hD.sub (ws' := [(h0, .inr (3, [.ref h1, .ref h2, .ref h3, .ref h4, .ref h5, .ref h6, .int x7, .int x8])), (h1, .inr (8, [.int x9, .int x10, .int x11, .ref h12, .ref h13, .ref h14, .ref h15, .ref h16, .ref h17, .ref h18, .ref h19, .ref h20, .ref h21, .int x22, .int x23, .int x24, .int x25, .int x26])), (h3, .inl (cI, 7, .inl f27))]) [0, 1, 2] (by decide) rfl) hS (lv_sub hl [0, 1, 2] rfl)
theorem dX3_setLights_0 : decode cX3_setLights 0 = .ok (.aload_n 0, 1) := by decide +kernel
theorem kw440 : (.fieldLink RX3 26 "SpiceSwaps$Moment" "lights" "[I" : Cond) ∈ gT := gT_of 440 (by decide +kernel) (by decide +kernel)
theorem dX3_setLights_1 : decode cX3_setLights 1 = .ok (.getfield 26, 3) := by decide +kernel
theorem dX3_setLights_4 : decode cX3_setLights 4 = .ok (.iconst 0, 1) := by decide +kernel
theorem dX3_setLights_5 : decode cX3_setLights 5 = .ok (.aload_n 0, 1) := by decide +kernel
theorem dX3_setLights_6 : decode cX3_setLights 6 = .ok (.getfield 15, 3) := by decide +kernel
theorem dX3_setLights_9 : decode cX3_setLights 9 = .ok (.iload_n 2, 1) := by decide +kernel
theorem dX3_setLights_10 : decode cX3_setLights 10 = .ok (.iaload, 1) := by decide +kernel
theorem dX3_setLights_11 : decode cX3_setLights 11 = .ok (.iastore, 1) := by decide +kernel
theorem dX3_setLights_12 : decode cX3_setLights 12 = .ok (.aload_n 0, 1) := by decide +kernel
theorem dX3_setLights_13 : decode cX3_setLights 13 = .ok (.getfield 26, 3) := by decide +kernel
theorem dX3_setLights_16 : decode cX3_setLights 16 = .ok (.iconst 1, 1) := by decide +kernel
theorem dX3_setLights_17 : decode cX3_setLights 17 = .ok (.iload_n 3, 1) := by decide +kernel
theorem dX3_setLights_18 : decode cX3_setLights 18 = .ok (.iastore, 1) := by decide +kernel
theorem dX3_setLights_19 : decode cX3_setLights 19 = .ok (.aload_n 0, 1) := by decide +kernel
theorem dX3_setLights_20 : decode cX3_setLights 20 = .ok (.getfield 26, 3) := by decide +kernel
theorem dX3_setLights_23 : decode cX3_setLights 23 = .ok (.iconst 2, 1) := by decide +kernel
theorem dX3_setLights_24 : decode cX3_setLights 24 = .ok (.aload_n 0, 1) := by decide +kernel
theorem dX3_setLights_25 : decode cX3_setLights 25 = .ok (.getfield 33, 3) := by decide +kernel
theorem kw232 : (.fieldLink RX3 138 "SpiceSwaps$Told" "harbourOf" "[I" : Cond) ∈ gT := gT_of 232 (by decide +kernel) (by decide +kernel)
theorem dX3_setLights_28 : decode cX3_setLights 28 = .ok (.getfield 138, 3) := by decide +kernel
theorem dX3_setLights_31 : decode cX3_setLights 31 = .ok (.iload_n 2, 1) := by decide +kernel
theorem dX3_setLights_32 : decode cX3_setLights 32 = .ok (.iaload, 1) := by decide +kernel
theorem dX3_setLights_33 : decode cX3_setLights 33 = .ok (.iastore, 1) := by decide +kernel
theorem dX3_setLights_34 : decode cX3_setLights 34 = .ok (.aload_n 0, 1) := by decide +kernel
theorem dX3_setLights_35 : decode cX3_setLights 35 = .ok (.getfield 26, 3) := by decide +kernel
theorem dX3_setLights_38 : decode cX3_setLights 38 = .ok (.iconst 3, 1) := by decide +kernel
theorem dX3_setLights_39 : decode cX3_setLights 39 = .ok (.aload_n 0, 1) := by decide +kernel
theorem dX3_setLights_40 : decode cX3_setLights 40 = .ok (.getfield 33, 3) := by decide +kernel
theorem dX3_setLights_43 : decode cX3_setLights 43 = .ok (.getfield 86, 3) := by decide +kernel
theorem dX3_setLights_46 : decode cX3_setLights 46 = .ok (.iload_n 2, 1) := by decide +kernel
theorem dX3_setLights_47 : decode cX3_setLights 47 = .ok (.iaload, 1) := by decide +kernel
theorem dX3_setLights_48 : decode cX3_setLights 48 = .ok (.iastore, 1) := by decide +kernel
theorem dX3_setLights_49 : decode cX3_setLights 49 = .ok (.aload_n 0, 1) := by decide +kernel
theorem dX3_setLights_50 : decode cX3_setLights 50 = .ok (.getfield 26, 3) := by decide +kernel
theorem dX3_setLights_53 : decode cX3_setLights 53 = .ok (.iconst 4, 1) := by decide +kernel
theorem dX3_setLights_54 : decode cX3_setLights 54 = .ok (.aload_n 0, 1) := by decide +kernel
theorem dX3_setLights_55 : decode cX3_setLights 55 = .ok (.iload_n 2, 1) := by decide +kernel
theorem dX3_setLights_56 : decode cX3_setLights 56 = .ok (.invokevirtual 77, 3) := by decide +kernel
theorem dX3_setLights_59 : decode cX3_setLights 59 = .ok (.iastore, 1) := by decide +kernel
theorem dX3_setLights_60 : decode cX3_setLights 60 = .ok (.aload_n 0, 1) := by decide +kernel
theorem dX3_setLights_61 : decode cX3_setLights 61 = .ok (.getfield 26, 3) := by decide +kernel
theorem dX3_setLights_64 : decode cX3_setLights 64 = .ok (.iconst 5, 1) := by decide +kernel
theorem dX3_setLights_65 : decode cX3_setLights 65 = .ok (.aload_n 0, 1) := by decide +kernel
theorem dX3_setLights_66 : decode cX3_setLights 66 = .ok (.iload_n 1, 1) := by decide +kernel
theorem kw889 : (.methodLink RX3 141 yX3_placesOf : Cond) ∈ gT := gT_of 889 (by decide +kernel) (by decide +kernel)
theorem kw866 : (.code yX3_placesOf cX3_placesOf 4 (some .int) : Cond) ∈ gT := gT_of 866 (by decide +kernel) (by decide +kernel)
theorem kw864 : (.instanceMethod yX3_placesOf : Cond) ∈ gT := gT_of 864 (by decide +kernel) (by decide +kernel)
theorem kw865 : (.selects RX3 yX3_placesOf yX3_placesOf : Cond) ∈ gT := gT_of 865 (by decide +kernel) (by decide +kernel)
theorem dX3_setLights_67 : decode cX3_setLights 67 = .ok (.invokevirtual 141, 3) := by decide +kernel
theorem dX3_setLights_70 : decode cX3_setLights 70 = .ok (.invokestatic 72, 3) := by decide +kernel
theorem dX3_setLights_73 : decode cX3_setLights 73 = .ok (.iastore, 1) := by decide +kernel
theorem dX3_setLights_74 : decode cX3_setLights 74 = .ok (.aload_n 0, 1) := by decide +kernel
theorem dX3_setLights_75 : decode cX3_setLights 75 = .ok (.getfield 26, 3) := by decide +kernel
theorem dX3_setLights_78 : decode cX3_setLights 78 = .ok (.bipush 6, 2) := by decide +kernel
theorem dX3_setLights_80 : decode cX3_setLights 80 = .ok (.aload_n 0, 1) := by decide +kernel
theorem kw441 : (.fieldLink RX3 49 "SpiceSwaps$Moment" "year" "I" : Cond) ∈ gT := gT_of 441 (by decide +kernel) (by decide +kernel)
theorem dX3_setLights_81 : decode cX3_setLights 81 = .ok (.getfield 49, 3) := by decide +kernel
theorem dX3_setLights_84 : decode cX3_setLights 84 = .ok (.iastore, 1) := by decide +kernel
theorem dX3_setLights_85 : decode cX3_setLights 85 = .ok (.return_, 1) := by decide +kernel
set_option maxHeartbeats 4000000 in
set_option maxRecDepth 100000 in
theorem sX3_setLights_1 (l : Launch) (D : va_G) (cB cI cJ cZ : ClassId) (aK aV : Nat → Nat) (h0 : Nat) (x1 : Int32) (x2 : Int32) (x3 : Int32) (h4 : Nat) (h5 : Nat) (h6 : Nat) (h7 : Nat) (h8 : Nat) (h9 : Nat) (x10 : Int32) (x11 : Int32) (f12 : Nat → Int32) (f13 : Nat → Int32) (x14 : Int32) (x15 : Int32) (x16 : Int32) (h17 : Nat) (h18 : Nat) (h19 : Nat) (h20 : Nat) (h21 : Nat) (h22 : Nat) (h23 : Nat) (h24 : Nat) (h25 : Nat) (h26 : Nat) (x27 : Int32) (x28 : Int32) (x29 : Int32) (x30 : Int32) (x31 : Int32) (f32 : Nat → Int32) (f33 : Nat → Int32) (f34 : Nat → Int32) (f35 : Nat → Int32) (f36 : Nat → Int32) (gh0 : 0 ≤ x2.toInt) (gh1 : 0 ≤ -x2.toInt + 6) (gh2 : 0 ≤ x11.toInt) (gh3 : 0 ≤ -x11.toInt + 999) (gh4 : 0 ≤ x14.toInt) (gh5 : 0 ≤ -x14.toInt + 4) (gh6 : 0 ≤ x15.toInt) (gh7 : 0 ≤ -x15.toInt + 3) (gh8 : 0 ≤ x16.toInt) (gh9 : 0 ≤ -x16.toInt + 7) (gh10 : 0 ≤ x30.toInt + 1) (gh11 : 0 ≤ -x30.toInt + 999) (ga0 : AR f36 (0) (3) (x16.toInt)) : MX l yX3_setLights cX3_setLights 4 none (rmL 2 0 0) D cB cI cJ cZ aK aV [.ref h0, .int x1, .int x2, .int x3] [(h0, .inr (3, [.ref h4, .ref h5, .ref h6, .ref h7, .ref h8, .ref h9, .int x10, .int x11])), (h6, .inl (cI, 7, .inl f12)), (h9, .inl (cI, 7, .inl f13)), (h4, .inr (8, [.int x14, .int x15, .int x16, .ref h17, .ref h18, .ref h19, .ref h20, .ref h21, .ref h22, .ref h23, .ref h24, .ref h25, .ref h26, .int x27, .int x28, .int x29, .int x30, .int x31])), (h22, .inl (cI, 7, .inl f32)), (h23, .inl (cI, 7, .inl f33)), (h7, .inl (cI, 7, .inl f34)), (h18, .inl (cI, 3, .inl f35)), (h5, .inl (cI, 7, .inl f36))] (fun r w1 => ∃ z1 : Nat → Int32, r = none ∧ w1 = [(h0, .inr (3, [.ref h4, .ref h5, .ref h6, .ref h7, .ref h8, .ref h9, .int x10, .int x11])), (h6, .inl (cI, 7, .inl f12)), (h9, .inl (cI, 7, .inl z1)), (h4, .inr (8, [.int x14, .int x15, .int x16, .ref h17, .ref h18, .ref h19, .ref h20, .ref h21, .ref h22, .ref h23, .ref h24, .ref h25, .ref h26, .int x27, .int x28, .int x29, .int x30, .int x31])), (h22, .inl (cI, 7, .inl f32)), (h23, .inl (cI, 7, .inl f33)), (h7, .inl (cI, 7, .inl f34)), (h18, .inl (cI, 3, .inl f35)), (h5, .inl (cI, 7, .inl f36))]) := by
  refine MX.intro (by decide) (Nat.le_of_ble_eq_true rfl) ?_
  intro p e s m below meth c A ls hx hb hr hml hown hlocks hnm hts hG hE hA hS hP hD hl hAe
  have hl : lv_has ls 4 [(0, .ref h0), (1, .int x1), (2, .int x2), (3, .int x3)] := hl
  have hown : s.vm.findClass RX3 = some m.cls := hown
  refine lv_aload_n hx hb dX3_setLights_0 rfl (lv_at hl 0 rfl) ?_
  refine va_get (D := D) (ci := 3) (v := .ref h9) (C := RX3) (T := TX3) (N := 8) hx hb hts inX3 hown hG.1 hP 0 rfl rfl 5 (by decide) (hts _ kw440) (fun _ h9 => h9) rfl dX3_setLights_1 ?_
  refine lv_iconst (v := 0) hx hb dX3_setLights_4 (by decide +kernel) ?_
  refine lv_aload_n hx hb dX3_setLights_5 rfl (lv_at hl 0 rfl) ?_
  refine va_get (D := D) (ci := 3) (v := .ref h6) (C := RX3) (T := TX3) (N := 8) hx hb hts inX3 hown hG.1 hP 0 rfl rfl 2 (by decide) (hts _ kw432) (fun _ h9 => h9) rfl dX3_setLights_6 ?_
  refine lv_iload_n hx hb dX3_setLights_9 rfl (lv_at hl 2 rfl) ?_
  refine xa_ildU hx hb hG hP 1 rfl (vp_in_iff.mpr ⟨by omega, by omega⟩) dX3_setLights_10 (fun v_1 => ?_)
  refine xa_istU hx hb hG hP hD hS 2 rfl (vin (by decide +kernel)) dX3_setLights_11 (fun f_2 H locs hP hD hS => ?_)
  have hP : va_P D vwCl [(h0, .inr (3, [.ref h4, .ref h5, .ref h6, .ref h7, .ref h8, .ref h9, .int x10, .int x11])), (h6, .inl (cI, 7, .inl f12)), (h9, .inl (cI, 7, .inl f_2)), (h4, .inr (8, [.int x14, .int x15, .int x16, .ref h17, .ref h18, .ref h19, .ref h20, .ref h21, .ref h22, .ref h23, .ref h24, .ref h25, .ref h26, .int x27, .int x28, .int x29, .int x30, .int x31])), (h22, .inl (cI, 7, .inl f32)), (h23, .inl (cI, 7, .inl f33)), (h7, .inl (cI, 7, .inl f34)), (h18, .inl (cI, 3, .inl f35)), (h5, .inl (cI, 7, .inl f36))] H := hP
  have hD : va_D A [(h0, .inr (3, [.ref h4, .ref h5, .ref h6, .ref h7, .ref h8, .ref h9, .int x10, .int x11])), (h6, .inl (cI, 7, .inl f12)), (h9, .inl (cI, 7, .inl f_2)), (h4, .inr (8, [.int x14, .int x15, .int x16, .ref h17, .ref h18, .ref h19, .ref h20, .ref h21, .ref h22, .ref h23, .ref h24, .ref h25, .ref h26, .int x27, .int x28, .int x29, .int x30, .int x31])), (h22, .inl (cI, 7, .inl f32)), (h23, .inl (cI, 7, .inl f33)), (h7, .inl (cI, 7, .inl f34)), (h18, .inl (cI, 3, .inl f35)), (h5, .inl (cI, 7, .inl f36))] := hD
  refine lv_aload_n hx hb dX3_setLights_12 rfl (lv_at hl 0 rfl) ?_
  refine va_get (D := D) (ci := 3) (v := .ref h9) (C := RX3) (T := TX3) (N := 8) hx hb hts inX3 hown hG.1 hP 0 rfl rfl 5 (by decide) (hts _ kw440) (fun _ h9 => h9) rfl dX3_setLights_13 ?_
  refine lv_iconst (v := 1) hx hb dX3_setLights_16 (by decide +kernel) ?_
  refine lv_iload_n hx hb dX3_setLights_17 rfl (lv_at hl 3 rfl) ?_
  refine xa_istU hx hb hG hP hD hS 2 rfl (vin (by decide +kernel)) dX3_setLights_18 (fun f_3 H locs hP hD hS => ?_)
  have hP : va_P D vwCl [(h0, .inr (3, [.ref h4, .ref h5, .ref h6, .ref h7, .ref h8, .ref h9, .int x10, .int x11])), (h6, .inl (cI, 7, .inl f12)), (h9, .inl (cI, 7, .inl f_3)), (h4, .inr (8, [.int x14, .int x15, .int x16, .ref h17, .ref h18, .ref h19, .ref h20, .ref h21, .ref h22, .ref h23, .ref h24, .ref h25, .ref h26, .int x27, .int x28, .int x29, .int x30, .int x31])), (h22, .inl (cI, 7, .inl f32)), (h23, .inl (cI, 7, .inl f33)), (h7, .inl (cI, 7, .inl f34)), (h18, .inl (cI, 3, .inl f35)), (h5, .inl (cI, 7, .inl f36))] H := hP
  have hD : va_D A [(h0, .inr (3, [.ref h4, .ref h5, .ref h6, .ref h7, .ref h8, .ref h9, .int x10, .int x11])), (h6, .inl (cI, 7, .inl f12)), (h9, .inl (cI, 7, .inl f_3)), (h4, .inr (8, [.int x14, .int x15, .int x16, .ref h17, .ref h18, .ref h19, .ref h20, .ref h21, .ref h22, .ref h23, .ref h24, .ref h25, .ref h26, .int x27, .int x28, .int x29, .int x30, .int x31])), (h22, .inl (cI, 7, .inl f32)), (h23, .inl (cI, 7, .inl f33)), (h7, .inl (cI, 7, .inl f34)), (h18, .inl (cI, 3, .inl f35)), (h5, .inl (cI, 7, .inl f36))] := hD
  refine lv_aload_n hx hb dX3_setLights_19 rfl (lv_at hl 0 rfl) ?_
  refine va_get (D := D) (ci := 3) (v := .ref h9) (C := RX3) (T := TX3) (N := 8) hx hb hts inX3 hown hG.1 hP 0 rfl rfl 5 (by decide) (hts _ kw440) (fun _ h9 => h9) rfl dX3_setLights_20 ?_
  refine lv_iconst (v := 2) hx hb dX3_setLights_23 (by decide +kernel) ?_
  refine lv_aload_n hx hb dX3_setLights_24 rfl (lv_at hl 0 rfl) ?_
  refine va_get (D := D) (ci := 3) (v := .ref h4) (C := RX3) (T := TX3) (N := 8) hx hb hts inX3 hown hG.1 hP 0 rfl rfl 0 (by decide) (hts _ kw425) (fun _ h9 => h9) rfl dX3_setLights_25 ?_
  refine va_get (D := D) (ci := 8) (v := .ref h22) (C := RX8) (T := TX8) (N := 18) hx hb hts inX8 hown hG.1 hP 3 rfl rfl 8 (by decide) (hts _ kw232) (fun _ h9 => h9) rfl dX3_setLights_28 ?_
  refine lv_iload_n hx hb dX3_setLights_31 rfl (lv_at hl 2 rfl) ?_
  refine xa_ildU hx hb hG hP 4 rfl (vp_in_iff.mpr ⟨by omega, by omega⟩) dX3_setLights_32 (fun v_4 => ?_)
  refine xa_istU hx hb hG hP hD hS 2 rfl (vin (by decide +kernel)) dX3_setLights_33 (fun f_5 H locs hP hD hS => ?_)
  have hP : va_P D vwCl [(h0, .inr (3, [.ref h4, .ref h5, .ref h6, .ref h7, .ref h8, .ref h9, .int x10, .int x11])), (h6, .inl (cI, 7, .inl f12)), (h9, .inl (cI, 7, .inl f_5)), (h4, .inr (8, [.int x14, .int x15, .int x16, .ref h17, .ref h18, .ref h19, .ref h20, .ref h21, .ref h22, .ref h23, .ref h24, .ref h25, .ref h26, .int x27, .int x28, .int x29, .int x30, .int x31])), (h22, .inl (cI, 7, .inl f32)), (h23, .inl (cI, 7, .inl f33)), (h7, .inl (cI, 7, .inl f34)), (h18, .inl (cI, 3, .inl f35)), (h5, .inl (cI, 7, .inl f36))] H := hP
  have hD : va_D A [(h0, .inr (3, [.ref h4, .ref h5, .ref h6, .ref h7, .ref h8, .ref h9, .int x10, .int x11])), (h6, .inl (cI, 7, .inl f12)), (h9, .inl (cI, 7, .inl f_5)), (h4, .inr (8, [.int x14, .int x15, .int x16, .ref h17, .ref h18, .ref h19, .ref h20, .ref h21, .ref h22, .ref h23, .ref h24, .ref h25, .ref h26, .int x27, .int x28, .int x29, .int x30, .int x31])), (h22, .inl (cI, 7, .inl f32)), (h23, .inl (cI, 7, .inl f33)), (h7, .inl (cI, 7, .inl f34)), (h18, .inl (cI, 3, .inl f35)), (h5, .inl (cI, 7, .inl f36))] := hD
  refine lv_aload_n hx hb dX3_setLights_34 rfl (lv_at hl 0 rfl) ?_
  refine va_get (D := D) (ci := 3) (v := .ref h9) (C := RX3) (T := TX3) (N := 8) hx hb hts inX3 hown hG.1 hP 0 rfl rfl 5 (by decide) (hts _ kw440) (fun _ h9 => h9) rfl dX3_setLights_35 ?_
  refine lv_iconst (v := 3) hx hb dX3_setLights_38 (by decide +kernel) ?_
  refine lv_aload_n hx hb dX3_setLights_39 rfl (lv_at hl 0 rfl) ?_
  refine va_get (D := D) (ci := 3) (v := .ref h4) (C := RX3) (T := TX3) (N := 8) hx hb hts inX3 hown hG.1 hP 0 rfl rfl 0 (by decide) (hts _ kw425) (fun _ h9 => h9) rfl dX3_setLights_40 ?_
  refine va_get (D := D) (ci := 8) (v := .ref h23) (C := RX8) (T := TX8) (N := 18) hx hb hts inX8 hown hG.1 hP 3 rfl rfl 9 (by decide) (hts _ kw236) (fun _ h9 => h9) rfl dX3_setLights_43 ?_
  refine lv_iload_n hx hb dX3_setLights_46 rfl (lv_at hl 2 rfl) ?_
  refine xa_ildU hx hb hG hP 5 rfl (vp_in_iff.mpr ⟨by omega, by omega⟩) dX3_setLights_47 (fun v_6 => ?_)
  refine xa_istU hx hb hG hP hD hS 2 rfl (vin (by decide +kernel)) dX3_setLights_48 (fun f_7 H locs hP hD hS => ?_)
  have hP : va_P D vwCl [(h0, .inr (3, [.ref h4, .ref h5, .ref h6, .ref h7, .ref h8, .ref h9, .int x10, .int x11])), (h6, .inl (cI, 7, .inl f12)), (h9, .inl (cI, 7, .inl f_7)), (h4, .inr (8, [.int x14, .int x15, .int x16, .ref h17, .ref h18, .ref h19, .ref h20, .ref h21, .ref h22, .ref h23, .ref h24, .ref h25, .ref h26, .int x27, .int x28, .int x29, .int x30, .int x31])), (h22, .inl (cI, 7, .inl f32)), (h23, .inl (cI, 7, .inl f33)), (h7, .inl (cI, 7, .inl f34)), (h18, .inl (cI, 3, .inl f35)), (h5, .inl (cI, 7, .inl f36))] H := hP
  have hD : va_D A [(h0, .inr (3, [.ref h4, .ref h5, .ref h6, .ref h7, .ref h8, .ref h9, .int x10, .int x11])), (h6, .inl (cI, 7, .inl f12)), (h9, .inl (cI, 7, .inl f_7)), (h4, .inr (8, [.int x14, .int x15, .int x16, .ref h17, .ref h18, .ref h19, .ref h20, .ref h21, .ref h22, .ref h23, .ref h24, .ref h25, .ref h26, .int x27, .int x28, .int x29, .int x30, .int x31])), (h22, .inl (cI, 7, .inl f32)), (h23, .inl (cI, 7, .inl f33)), (h7, .inl (cI, 7, .inl f34)), (h18, .inl (cI, 3, .inl f35)), (h5, .inl (cI, 7, .inl f36))] := hD
  refine lv_aload_n hx hb dX3_setLights_49 rfl (lv_at hl 0 rfl) ?_
  refine va_get (D := D) (ci := 3) (v := .ref h9) (C := RX3) (T := TX3) (N := 8) hx hb hts inX3 hown hG.1 hP 0 rfl rfl 5 (by decide) (hts _ kw440) (fun _ h9 => h9) rfl dX3_setLights_50 ?_
  refine lv_iconst (v := 4) hx hb dX3_setLights_53 (by decide +kernel) ?_
  refine lv_aload_n hx hb dX3_setLights_54 rfl (lv_at hl 0 rfl) ?_
  refine lv_iload_n hx hb dX3_setLights_55 rfl (lv_at hl 2 rfl) ?_
  refine xc_core (wr := [(h6, .inl (cI, 7, .inl f12)), (h9, .inl (cI, 7, .inl f_7)), (h22, .inl (cI, 7, .inl f32)), (h23, .inl (cI, 7, .inl f33)), (h5, .inl (cI, 7, .inl f36))]) (k := 0) (n := 0) (xc_runV (As := [.int x2]) (rest := [.int 4, .ref h9]) hx hb hml hown hts hG hE hP hD hS hA [0, 6, 3, 7] (by decide) rfl (sX3_priceAt_1 l D cB cI cJ cZ aK aV h0 x2 h4 h5 h6 h7 h8 h9 x10 x11 f34 x14 x15 x16 h17 h18 h19 h20 h21 h22 h23 h24 h25 h26 x27 x28 x29 x30 x31 f35 (by omega) (by omega) (by omega) (by omega) (by omega) (by omega) (by omega) (by omega) (by omega) (by omega) (by omega) (by omega)) kw853 kw850 kw851 kw852 kw121 (show XD yX3_priceAt 1 from by decide +kernel) (by decide) rfl rfl 0 rfl hl.1 rfl (Nat.le_of_ble_eq_true rfl) dX3_setLights_56 (by decide)) hP hD hS hA [0, 6, 3, 7] [1, 2, 4, 5, 8] rfl rfl (by decide) (by decide) (Nat.le_of_ble_eq_true rfl) (Nat.le_of_ble_eq_true rfl) (fun r w1 H locs hpost hP hD hS => ?_)
  obtain ⟨v_8, rfl, rfl⟩ := hpost
  have hP : va_P D vwCl [(h6, .inl (cI, 7, .inl f12)), (h9, .inl (cI, 7, .inl f_7)), (h22, .inl (cI, 7, .inl f32)), (h23, .inl (cI, 7, .inl f33)), (h5, .inl (cI, 7, .inl f36)), (h0, .inr (3, [.ref h4, .ref h5, .ref h6, .ref h7, .ref h8, .ref h9, .int x10, .int x11])), (h7, .inl (cI, 7, .inl f34)), (h4, .inr (8, [.int x14, .int x15, .int x16, .ref h17, .ref h18, .ref h19, .ref h20, .ref h21, .ref h22, .ref h23, .ref h24, .ref h25, .ref h26, .int x27, .int x28, .int x29, .int x30, .int x31])), (h18, .inl (cI, 3, .inl f35))] H := hP
  have hD : va_D A [(h6, .inl (cI, 7, .inl f12)), (h9, .inl (cI, 7, .inl f_7)), (h22, .inl (cI, 7, .inl f32)), (h23, .inl (cI, 7, .inl f33)), (h5, .inl (cI, 7, .inl f36)), (h0, .inr (3, [.ref h4, .ref h5, .ref h6, .ref h7, .ref h8, .ref h9, .int x10, .int x11])), (h7, .inl (cI, 7, .inl f34)), (h4, .inr (8, [.int x14, .int x15, .int x16, .ref h17, .ref h18, .ref h19, .ref h20, .ref h21, .ref h22, .ref h23, .ref h24, .ref h25, .ref h26, .int x27, .int x28, .int x29, .int x30, .int x31])), (h18, .inl (cI, 3, .inl f35))] := hD
  refine xa_istU hx hb hG hP hD hS 1 rfl (vin (by decide +kernel)) dX3_setLights_59 (fun f_9 H locs hP hD hS => ?_)
  have hP : va_P D vwCl [(h6, .inl (cI, 7, .inl f12)), (h9, .inl (cI, 7, .inl f_9)), (h22, .inl (cI, 7, .inl f32)), (h23, .inl (cI, 7, .inl f33)), (h5, .inl (cI, 7, .inl f36)), (h0, .inr (3, [.ref h4, .ref h5, .ref h6, .ref h7, .ref h8, .ref h9, .int x10, .int x11])), (h7, .inl (cI, 7, .inl f34)), (h4, .inr (8, [.int x14, .int x15, .int x16, .ref h17, .ref h18, .ref h19, .ref h20, .ref h21, .ref h22, .ref h23, .ref h24, .ref h25, .ref h26, .int x27, .int x28, .int x29, .int x30, .int x31])), (h18, .inl (cI, 3, .inl f35))] H := hP
  have hD : va_D A [(h6, .inl (cI, 7, .inl f12)), (h9, .inl (cI, 7, .inl f_9)), (h22, .inl (cI, 7, .inl f32)), (h23, .inl (cI, 7, .inl f33)), (h5, .inl (cI, 7, .inl f36)), (h0, .inr (3, [.ref h4, .ref h5, .ref h6, .ref h7, .ref h8, .ref h9, .int x10, .int x11])), (h7, .inl (cI, 7, .inl f34)), (h4, .inr (8, [.int x14, .int x15, .int x16, .ref h17, .ref h18, .ref h19, .ref h20, .ref h21, .ref h22, .ref h23, .ref h24, .ref h25, .ref h26, .int x27, .int x28, .int x29, .int x30, .int x31])), (h18, .inl (cI, 3, .inl f35))] := hD
  refine lv_aload_n hx hb dX3_setLights_60 rfl (lv_at hl 0 rfl) ?_
  refine va_get (D := D) (ci := 3) (v := .ref h9) (C := RX3) (T := TX3) (N := 8) hx hb hts inX3 hown hG.1 hP 5 rfl rfl 5 (by decide) (hts _ kw440) (fun _ h9 => h9) rfl dX3_setLights_61 ?_
  refine lv_iconst (v := 5) hx hb dX3_setLights_64 (by decide +kernel) ?_
  refine lv_aload_n hx hb dX3_setLights_65 rfl (lv_at hl 0 rfl) ?_
  refine lv_iload_n hx hb dX3_setLights_66 rfl (lv_at hl 1 rfl) ?_
  refine xc_core (wr := [(h6, .inl (cI, 7, .inl f12)), (h9, .inl (cI, 7, .inl f_9)), (h22, .inl (cI, 7, .inl f32)), (h23, .inl (cI, 7, .inl f33)), (h7, .inl (cI, 7, .inl f34)), (h18, .inl (cI, 3, .inl f35))]) (k := 0) (n := 0) (xc_runV (As := [.int x1]) (rest := [.int 5, .ref h9]) hx hb hml hown hts hG hE hP hD hS hA [5, 7, 4] (by decide) rfl (sX3_placesOf_1 l D cB cI cJ cZ aK aV h0 x1 h4 h5 h6 h7 h8 h9 x10 x11 x14 x15 x16 h17 h18 h19 h20 h21 h22 h23 h24 h25 h26 x27 x28 x29 x30 x31 f36 (by omega) (by omega) (by omega) (by omega) (by omega) (by omega) (by omega) (by omega) (by omega) (by omega) (ga0.mono (by omega) (by omega) (by omega))) kw866 kw889 kw864 kw865 kw121 (show XD yX3_placesOf 1 from by decide +kernel) (by decide) rfl rfl 5 rfl hl.1 rfl (Nat.le_of_ble_eq_true rfl) dX3_setLights_67 (by decide)) hP hD hS hA [5, 7, 4] [0, 1, 2, 3, 6, 8] rfl rfl (by decide) (by decide) (Nat.le_of_ble_eq_true rfl) (Nat.le_of_ble_eq_true rfl) (fun r w1 H locs hpost hP hD hS => ?_)
  obtain ⟨v_10, g_11, g_12, rfl, rfl⟩ := hpost
  have hP : va_P D vwCl [(h6, .inl (cI, 7, .inl f12)), (h9, .inl (cI, 7, .inl f_9)), (h22, .inl (cI, 7, .inl f32)), (h23, .inl (cI, 7, .inl f33)), (h7, .inl (cI, 7, .inl f34)), (h18, .inl (cI, 3, .inl f35)), (h0, .inr (3, [.ref h4, .ref h5, .ref h6, .ref h7, .ref h8, .ref h9, .int x10, .int x11])), (h4, .inr (8, [.int x14, .int x15, .int x16, .ref h17, .ref h18, .ref h19, .ref h20, .ref h21, .ref h22, .ref h23, .ref h24, .ref h25, .ref h26, .int x27, .int x28, .int x29, .int x30, .int x31])), (h5, .inl (cI, 7, .inl f36))] H := hP
  have hD : va_D A [(h6, .inl (cI, 7, .inl f12)), (h9, .inl (cI, 7, .inl f_9)), (h22, .inl (cI, 7, .inl f32)), (h23, .inl (cI, 7, .inl f33)), (h7, .inl (cI, 7, .inl f34)), (h18, .inl (cI, 3, .inl f35)), (h0, .inr (3, [.ref h4, .ref h5, .ref h6, .ref h7, .ref h8, .ref h9, .int x10, .int x11])), (h4, .inr (8, [.int x14, .int x15, .int x16, .ref h17, .ref h18, .ref h19, .ref h20, .ref h21, .ref h22, .ref h23, .ref h24, .ref h25, .ref h26, .int x27, .int x28, .int x29, .int x30, .int x31])), (h5, .inl (cI, 7, .inl f36))] := hD
  refine xc_core (wr := [(h6, .inl (cI, 7, .inl f12)), (h9, .inl (cI, 7, .inl f_9)), (h22, .inl (cI, 7, .inl f32)), (h23, .inl (cI, 7, .inl f33)), (h7, .inl (cI, 7, .inl f34)), (h18, .inl (cI, 3, .inl f35)), (h0, .inr (3, [.ref h4, .ref h5, .ref h6, .ref h7, .ref h8, .ref h9, .int x10, .int x11])), (h4, .inr (8, [.int x14, .int x15, .int x16, .ref h17, .ref h18, .ref h19, .ref h20, .ref h21, .ref h22, .ref h23, .ref h24, .ref h25, .ref h26, .int x27, .int x28, .int x29, .int x30, .int x31])), (h5, .inl (cI, 7, .inl f36))]) (k := 0) (n := 0) (xc_runS (As := [.int v_10]) (rest := [.int 5, .ref h9]) hx hb hml hown hts hG hE hP hD hS hA [] (by decide) rfl (sJ6_bitCount_0f7a4_1 l D cB cI cJ cZ aK aV v_10) kw846 kw844 kw845 kw130 (show XD yJ6_bitCount_0f7a4 1 from by decide +kernel) (by decide) hl.1 rfl (Nat.le_of_ble_eq_true rfl) dX3_setLights_70 (by decide)) hP hD hS hA [] [0, 1, 2, 3, 4, 5, 6, 7, 8] rfl rfl (by decide) (by decide) (Nat.le_of_ble_eq_true rfl) (Nat.le_of_ble_eq_true rfl) (fun r w1 H locs hpost hP hD hS => ?_)
  obtain ⟨v_13, g_14, g_15, rfl, rfl⟩ := hpost
  have hP : va_P D vwCl [(h6, .inl (cI, 7, .inl f12)), (h9, .inl (cI, 7, .inl f_9)), (h22, .inl (cI, 7, .inl f32)), (h23, .inl (cI, 7, .inl f33)), (h7, .inl (cI, 7, .inl f34)), (h18, .inl (cI, 3, .inl f35)), (h0, .inr (3, [.ref h4, .ref h5, .ref h6, .ref h7, .ref h8, .ref h9, .int x10, .int x11])), (h4, .inr (8, [.int x14, .int x15, .int x16, .ref h17, .ref h18, .ref h19, .ref h20, .ref h21, .ref h22, .ref h23, .ref h24, .ref h25, .ref h26, .int x27, .int x28, .int x29, .int x30, .int x31])), (h5, .inl (cI, 7, .inl f36))] H := hP
  have hD : va_D A [(h6, .inl (cI, 7, .inl f12)), (h9, .inl (cI, 7, .inl f_9)), (h22, .inl (cI, 7, .inl f32)), (h23, .inl (cI, 7, .inl f33)), (h7, .inl (cI, 7, .inl f34)), (h18, .inl (cI, 3, .inl f35)), (h0, .inr (3, [.ref h4, .ref h5, .ref h6, .ref h7, .ref h8, .ref h9, .int x10, .int x11])), (h4, .inr (8, [.int x14, .int x15, .int x16, .ref h17, .ref h18, .ref h19, .ref h20, .ref h21, .ref h22, .ref h23, .ref h24, .ref h25, .ref h26, .int x27, .int x28, .int x29, .int x30, .int x31])), (h5, .inl (cI, 7, .inl f36))] := hD
  refine xa_istU hx hb hG hP hD hS 1 rfl (vin (by decide +kernel)) dX3_setLights_73 (fun f_16 H locs hP hD hS => ?_)
  have hP : va_P D vwCl [(h6, .inl (cI, 7, .inl f12)), (h9, .inl (cI, 7, .inl f_16)), (h22, .inl (cI, 7, .inl f32)), (h23, .inl (cI, 7, .inl f33)), (h7, .inl (cI, 7, .inl f34)), (h18, .inl (cI, 3, .inl f35)), (h0, .inr (3, [.ref h4, .ref h5, .ref h6, .ref h7, .ref h8, .ref h9, .int x10, .int x11])), (h4, .inr (8, [.int x14, .int x15, .int x16, .ref h17, .ref h18, .ref h19, .ref h20, .ref h21, .ref h22, .ref h23, .ref h24, .ref h25, .ref h26, .int x27, .int x28, .int x29, .int x30, .int x31])), (h5, .inl (cI, 7, .inl f36))] H := hP
  have hD : va_D A [(h6, .inl (cI, 7, .inl f12)), (h9, .inl (cI, 7, .inl f_16)), (h22, .inl (cI, 7, .inl f32)), (h23, .inl (cI, 7, .inl f33)), (h7, .inl (cI, 7, .inl f34)), (h18, .inl (cI, 3, .inl f35)), (h0, .inr (3, [.ref h4, .ref h5, .ref h6, .ref h7, .ref h8, .ref h9, .int x10, .int x11])), (h4, .inr (8, [.int x14, .int x15, .int x16, .ref h17, .ref h18, .ref h19, .ref h20, .ref h21, .ref h22, .ref h23, .ref h24, .ref h25, .ref h26, .int x27, .int x28, .int x29, .int x30, .int x31])), (h5, .inl (cI, 7, .inl f36))] := hD
  refine lv_aload_n hx hb dX3_setLights_74 rfl (lv_at hl 0 rfl) ?_
  refine va_get (D := D) (ci := 3) (v := .ref h9) (C := RX3) (T := TX3) (N := 8) hx hb hts inX3 hown hG.1 hP 6 rfl rfl 5 (by decide) (hts _ kw440) (fun _ h9 => h9) rfl dX3_setLights_75 ?_
  refine lv_bipush (v := 6) hx hb dX3_setLights_78 (by decide +kernel) ?_
  refine lv_aload_n hx hb dX3_setLights_80 rfl (lv_at hl 0 rfl) ?_
  refine va_get (D := D) (ci := 3) (v := .int x10) (C := RX3) (T := TX3) (N := 8) hx hb hts inX3 hown hG.1 hP 6 rfl rfl 6 (by decide) (hts _ kw441) (fun _ h9 => h9) rfl dX3_setLights_81 ?_
  refine xa_istU hx hb hG hP hD hS 1 rfl (vin (by decide +kernel)) dX3_setLights_84 (fun f_17 H locs hP hD hS => ?_)
  have hP : va_P D vwCl [(h6, .inl (cI, 7, .inl f12)), (h9, .inl (cI, 7, .inl f_17)), (h22, .inl (cI, 7, .inl f32)), (h23, .inl (cI, 7, .inl f33)), (h7, .inl (cI, 7, .inl f34)), (h18, .inl (cI, 3, .inl f35)), (h0, .inr (3, [.ref h4, .ref h5, .ref h6, .ref h7, .ref h8, .ref h9, .int x10, .int x11])), (h4, .inr (8, [.int x14, .int x15, .int x16, .ref h17, .ref h18, .ref h19, .ref h20, .ref h21, .ref h22, .ref h23, .ref h24, .ref h25, .ref h26, .int x27, .int x28, .int x29, .int x30, .int x31])), (h5, .inl (cI, 7, .inl f36))] H := hP
  have hD : va_D A [(h6, .inl (cI, 7, .inl f12)), (h9, .inl (cI, 7, .inl f_17)), (h22, .inl (cI, 7, .inl f32)), (h23, .inl (cI, 7, .inl f33)), (h7, .inl (cI, 7, .inl f34)), (h18, .inl (cI, 3, .inl f35)), (h0, .inr (3, [.ref h4, .ref h5, .ref h6, .ref h7, .ref h8, .ref h9, .int x10, .int x11])), (h4, .inr (8, [.int x14, .int x15, .int x16, .ref h17, .ref h18, .ref h19, .ref h20, .ref h21, .ref h22, .ref h23, .ref h24, .ref h25, .ref h26, .int x27, .int x28, .int x29, .int x30, .int x31])), (h5, .inl (cI, 7, .inl f36))] := hD
  have hP9 := hP.sub (ws' := [(h0, .inr (3, [.ref h4, .ref h5, .ref h6, .ref h7, .ref h8, .ref h9, .int x10, .int x11])), (h6, .inl (cI, 7, .inl f12)), (h9, .inl (cI, 7, .inl f_17)), (h4, .inr (8, [.int x14, .int x15, .int x16, .ref h17, .ref h18, .ref h19, .ref h20, .ref h21, .ref h22, .ref h23, .ref h24, .ref h25, .ref h26, .int x27, .int x28, .int x29, .int x30, .int x31])), (h22, .inl (cI, 7, .inl f32)), (h23, .inl (cI, 7, .inl f33)), (h7, .inl (cI, 7, .inl f34)), (h18, .inl (cI, 3, .inl f35)), (h5, .inl (cI, 7, .inl f36))]) [6, 0, 1, 7, 2, 3, 4, 5, 8] rfl
  have hD9 := hD.sub (ws' := [(h0, .inr (3, [.ref h4, .ref h5, .ref h6, .ref h7, .ref h8, .ref h9, .int x10, .int x11])), (h6, .inl (cI, 7, .inl f12)), (h9, .inl (cI, 7, .inl f_17)), (h4, .inr (8, [.int x14, .int x15, .int x16, .ref h17, .ref h18, .ref h19, .ref h20, .ref h21, .ref h22, .ref h23, .ref h24, .ref h25, .ref h26, .int x27, .int x28, .int x29, .int x30, .int x31])), (h22, .inl (cI, 7, .inl f32)), (h23, .inl (cI, 7, .inl f33)), (h7, .inl (cI, 7, .inl f34)), (h18, .inl (cI, 3, .inl f35)), (h5, .inl (cI, 7, .inl f36))]) [6, 0, 1, 7, 2, 3, 4, 5, 8] (by decide) rfl
  exact xr_v (rm := (rmL 2 0 0)) hx hb hr hlocks hAe hS hP9 hD9 (Nat.le_of_ble_eq_true rfl) (Nat.le_of_ble_eq_true rfl) dX3_setLights_85 ⟨f_17, rfl, rfl⟩
theorem dX9_within_0 : decode cX9_within 0 = .ok (.iload_n 0, 1) := by decide +kernel
theorem dX9_within_1 : decode cX9_within 1 = .ok (.iload_n 2, 1) := by decide +kernel
theorem dX9_within_2 : decode cX9_within 2 = .ok (.iload_n 1, 1) := by decide +kernel
theorem kw908 : (.methodLink RX9 356 Lib.Math.min.name : Cond) ∈ gT := gT_of 908 (by decide +kernel) (by decide +kernel)
theorem kw651 : (.static Lib.Math.min.name : Cond) ∈ gT := gT_of 651 (by decide +kernel) (by decide +kernel)
theorem kw652 : (.code Lib.Math.min.name Lib.Math.min.code 2 (some .int) : Cond) ∈ gT := gT_of 652 (by decide +kernel) (by decide +kernel)
theorem dX9_within_3 : decode cX9_within 3 = .ok (.invokestatic 356, 3) := by decide +kernel
theorem kw909 : (.methodLink RX9 294 Lib.Math.max.name : Cond) ∈ gT := gT_of 909 (by decide +kernel) (by decide +kernel)
theorem dX9_within_6 : decode cX9_within 6 = .ok (.invokestatic 294, 3) := by decide +kernel
theorem dX9_within_9 : decode cX9_within 9 = .ok (.ireturn, 1) := by decide +kernel
set_option maxHeartbeats 4000000 in
set_option maxRecDepth 100000 in
theorem sX9_within_1 (l : Launch) (D : va_G) (cB cI cJ cZ : ClassId) (aK aV : Nat → Nat) (x0 : Int32) (x1 : Int32) (x2 : Int32) : MX l yX9_within cX9_within 3 (some .int) (rmL 2 0 0) D cB cI cJ cZ aK aV [.int x0, .int x1, .int x2] [] (fun r w1 => ∃ z1 : Int32, r = some (.int z1) ∧ w1 = []) := by
  refine MX.intro (by decide) (Nat.le_of_ble_eq_true rfl) ?_
  intro p e s m below meth c A ls hx hb hr hml hown hlocks hnm hts hG hE hA hS hP hD hl hAe
  have hl : lv_has ls 3 [(0, .int x0), (1, .int x1), (2, .int x2)] := hl
  have hown : s.vm.findClass RX9 = some m.cls := hown
  refine lv_iload_n hx hb dX9_within_0 rfl (lv_at hl 0 rfl) ?_
  refine lv_iload_n hx hb dX9_within_1 rfl (lv_at hl 2 rfl) ?_
  refine lv_iload_n hx hb dX9_within_2 rfl (lv_at hl 1 rfl) ?_
  refine va_mmin hx hb (hml.trans hl.1.symm) hown (hts _ kw908) (hts _ kw651) (hts _ kw128) (hts _ kw652) (Nat.le_of_ble_eq_true rfl) (Nat.le_of_ble_eq_true rfl) (Nat.le_of_ble_eq_true rfl) (Nat.le_of_ble_eq_true rfl) dX9_within_3 ?_
  refine lv_topi (fun v_1 ev_1 => ?_)
  have g_2 := i32_min rfl rfl ev_1
  refine va_mmax hx hb (hml.trans hl.1.symm) hown (hts _ kw909) (hts _ kw683) (hts _ kw128) (hts _ kw684) (Nat.le_of_ble_eq_true rfl) (Nat.le_of_ble_eq_true rfl) (Nat.le_of_ble_eq_true rfl) (Nat.le_of_ble_eq_true rfl) dX9_within_6 ?_
  refine lv_topi (fun v_3 ev_3 => ?_)
  have g_4 := i32_max rfl rfl ev_3
  have hP9 := hP.sub (ws' := []) [] rfl
  have hD9 := hD.sub (ws' := []) [] (by decide) rfl
  exact xr_i (rm := (rmL 2 0 0)) hx hb hr hlocks hAe hS hP9 hD9 rfl (Nat.le_of_ble_eq_true rfl) (Nat.le_of_ble_eq_true rfl) dX9_within_9 ⟨v_3, rfl, rfl⟩
theorem dX3_worthTo_0 : decode cX3_worthTo 0 = .ok (.aload_n 0, 1) := by decide +kernel
theorem dX3_worthTo_1 : decode cX3_worthTo 1 = .ok (.getfield 33, 3) := by decide +kernel
theorem dX3_worthTo_4 : decode cX3_worthTo 4 = .ok (.iload_n 1, 1) := by decide +kernel
theorem dX3_worthTo_5 : decode cX3_worthTo 5 = .ok (.iload_n 2, 1) := by decide +kernel
theorem kw880 : (.methodLink RX3 92 yX8_believed : Cond) ∈ gT := gT_of 880 (by decide +kernel) (by decide +kernel)
theorem kw883 : (.code yX8_believed cX8_believed 3 (some .int) : Cond) ∈ gT := gT_of 883 (by decide +kernel) (by decide +kernel)
theorem kw881 : (.instanceMethod yX8_believed : Cond) ∈ gT := gT_of 881 (by decide +kernel) (by decide +kernel)
theorem kw882 : (.selects RX8 yX8_believed yX8_believed : Cond) ∈ gT := gT_of 882 (by decide +kernel) (by decide +kernel)
theorem dX3_worthTo_6 : decode cX3_worthTo 6 = .ok (.invokevirtual 92, 3) := by decide +kernel
theorem dX3_worthTo_9 : decode cX3_worthTo 9 = .ok (.istore_n 3, 1) := by decide +kernel
theorem dX3_worthTo_10 : decode cX3_worthTo 10 = .ok (.aload_n 0, 1) := by decide +kernel
theorem dX3_worthTo_11 : decode cX3_worthTo 11 = .ok (.getfield 33, 3) := by decide +kernel
theorem kw240 : (.fieldLink RX3 95 "SpiceSwaps$Told" "worthBy" "LSpiceSwaps$Formula;" : Cond) ∈ gT := gT_of 240 (by decide +kernel) (by decide +kernel)
theorem dX3_worthTo_14 : decode cX3_worthTo 14 = .ok (.getfield 95, 3) := by decide +kernel
theorem kw176 : (.fieldLink RX3 99 "SpiceSwaps$Formula" "isTold" "Z" : Cond) ∈ gT := gT_of 176 (by decide +kernel) (by decide +kernel)
theorem dX3_worthTo_17 : decode cX3_worthTo 17 = .ok (.getfield 99, 3) := by decide +kernel
theorem dX3_worthTo_20 : decode cX3_worthTo 20 = .ok (.ifCond .ne 15, 3) := by decide +kernel
theorem dX3_worthTo_35 : decode cX3_worthTo 35 = .ok (.aload_n 0, 1) := by decide +kernel
theorem dX3_worthTo_36 : decode cX3_worthTo 36 = .ok (.iload_n 1, 1) := by decide +kernel
theorem dX3_worthTo_37 : decode cX3_worthTo 37 = .ok (.iload_n 2, 1) := by decide +kernel
theorem dX3_worthTo_38 : decode cX3_worthTo 38 = .ok (.iload_n 3, 1) := by decide +kernel
theorem kw885 : (.methodLink RX3 103 yX3_setLights : Cond) ∈ gT := gT_of 885 (by decide +kernel) (by decide +kernel)
theorem kw888 : (.code yX3_setLights cX3_setLights 4 none : Cond) ∈ gT := gT_of 888 (by decide +kernel) (by decide +kernel)
theorem kw887 : (.instanceMethod yX3_setLights : Cond) ∈ gT := gT_of 887 (by decide +kernel) (by decide +kernel)
theorem kw22 : (.selects RX3 yX3_setLights yX3_setLights : Cond) ∈ gT := gT_of 22 (by decide +kernel) (by decide +kernel)
theorem dX3_worthTo_39 : decode cX3_worthTo 39 = .ok (.invokevirtual 103, 3) := by decide +kernel
theorem kw890 : (.constant RX3 107 (-99999) : Cond) ∈ gT := gT_of 890 (by decide +kernel) (by decide +kernel)
theorem dX3_worthTo_42 : decode cX3_worthTo 42 = .ok (.ldc 107, 2) := by decide +kernel
theorem dX3_worthTo_44 : decode cX3_worthTo 44 = .ok (.aload_n 0, 1) := by decide +kernel
theorem dX3_worthTo_45 : decode cX3_worthTo 45 = .ok (.getfield 33, 3) := by decide +kernel
theorem dX3_worthTo_48 : decode cX3_worthTo 48 = .ok (.getfield 95, 3) := by decide +kernel
theorem dX3_worthTo_51 : decode cX3_worthTo 51 = .ok (.aload_n 0, 1) := by decide +kernel
theorem dX3_worthTo_52 : decode cX3_worthTo 52 = .ok (.getfield 26, 3) := by decide +kernel
theorem kw891 : (.methodLink RX3 108 yX1_reckon : Cond) ∈ gT := gT_of 891 (by decide +kernel) (by decide +kernel)
theorem kw894 : (.code yX1_reckon cX1_reckon 5 (some .int) : Cond) ∈ gT := gT_of 894 (by decide +kernel) (by decide +kernel)
theorem kw892 : (.instanceMethod yX1_reckon : Cond) ∈ gT := gT_of 892 (by decide +kernel) (by decide +kernel)
theorem kw893 : (.selects RX1 yX1_reckon yX1_reckon : Cond) ∈ gT := gT_of 893 (by decide +kernel) (by decide +kernel)
theorem dX3_worthTo_55 : decode cX3_worthTo 55 = .ok (.invokevirtual 108, 3) := by decide +kernel
theorem kw904 : (.constant RX3 112 99999 : Cond) ∈ gT := gT_of 904 (by decide +kernel) (by decide +kernel)
theorem dX3_worthTo_58 : decode cX3_worthTo 58 = .ok (.ldc 112, 2) := by decide +kernel
theorem kw907 : (.code yX9_within cX9_within 3 (some .int) : Cond) ∈ gT := gT_of 907 (by decide +kernel) (by decide +kernel)
theorem kw906 : (.static yX9_within : Cond) ∈ gT := gT_of 906 (by decide +kernel) (by decide +kernel)
theorem kw112 : (.initialized RX9 : Cond) ∈ gT := gT_of 112 (by decide +kernel) (by decide +kernel)
theorem dX3_worthTo_60 : decode cX3_worthTo 60 = .ok (.invokestatic 113, 3) := by decide +kernel
theorem dX3_worthTo_63 : decode cX3_worthTo 63 = .ok (.ireturn, 1) := by decide +kernel
theorem dX3_worthTo_23 : decode cX3_worthTo 23 = .ok (.aload_n 0, 1) := by decide +kernel
theorem dX3_worthTo_24 : decode cX3_worthTo 24 = .ok (.getfield 15, 3) := by decide +kernel
theorem dX3_worthTo_27 : decode cX3_worthTo 27 = .ok (.iload_n 2, 1) := by decide +kernel
theorem dX3_worthTo_28 : decode cX3_worthTo 28 = .ok (.iaload, 1) := by decide +kernel
theorem dX3_worthTo_29 : decode cX3_worthTo 29 = .ok (.iload_n 3, 1) := by decide +kernel
theorem dX3_worthTo_30 : decode cX3_worthTo 30 = .ok (.imul, 1) := by decide +kernel
theorem dX3_worthTo_31 : decode cX3_worthTo 31 = .ok (.bipush 100, 2) := by decide +kernel
theorem dX3_worthTo_33 : decode cX3_worthTo 33 = .ok (.idiv, 1) := by decide +kernel
theorem dX3_worthTo_34 : decode cX3_worthTo 34 = .ok (.ireturn, 1) := by decide +kernel
set_option maxHeartbeats 4000000 in
set_option maxRecDepth 100000 in
theorem sX3_worthTo_1 (l : Launch) (D : va_G) (cB cI cJ cZ : ClassId) (aK aV : Nat → Nat) (h0 : Nat) (x1 : Int32) (x2 : Int32) (h3 : Nat) (h4 : Nat) (h5 : Nat) (h6 : Nat) (h7 : Nat) (h8 : Nat) (x9 : Int32) (x10 : Int32) (x11 : Int32) (x12 : Int32) (x13 : Int32) (h14 : Nat) (h15 : Nat) (h16 : Nat) (h17 : Nat) (h18 : Nat) (h19 : Nat) (h20 : Nat) (h21 : Nat) (h22 : Nat) (h23 : Nat) (x24 : Int32) (x25 : Int32) (x26 : Int32) (x27 : Int32) (x28 : Int32) (f29 : Nat → Int32) (h30 : Nat) (h31 : Nat) (x32 : Int32) (x33 : Int32) (x34 : Int32) (f35 : Nat → Int32) (f36 : Nat → Int32) (f37 : Nat → Int32) (f38 : Nat → Int32) (f39 : Nat → Int32) (f40 : Nat → Int32) (f41 : Nat → Int32) (f42 : Nat → Int32) (f43 : Nat → Int32) (gh0 : 0 ≤ x1.toInt) (gh1 : 0 ≤ -x1.toInt + 3) (gh2 : 0 ≤ x2.toInt) (gh3 : 0 ≤ -x2.toInt + 6) (gh4 : 0 ≤ x10.toInt) (gh5 : 0 ≤ -x10.toInt + 999) (gh6 : 0 ≤ x11.toInt) (gh7 : 0 ≤ -x11.toInt + 4) (gh8 : 0 ≤ x12.toInt) (gh9 : 0 ≤ -x12.toInt + 3) (gh10 : 0 ≤ x13.toInt) (gh11 : 0 ≤ -x13.toInt + 7) (gh12 : 0 ≤ x27.toInt + 1) (gh13 : 0 ≤ -x27.toInt + 999) (gh14 : 0 ≤ x32.toInt) (gh15 : 0 ≤ -x32.toInt + 272) (ga0 : AR f41 (0) (3) (x13.toInt)) : MX l yX3_worthTo cX3_worthTo 4 (some .int) (rmL 4 0 0) D cB cI cJ cZ aK aV [.ref h0, .int x1, .int x2] [(h0, .inr (3, [.ref h3, .ref h4, .ref h5, .ref h6, .ref h7, .ref h8, .int x9, .int x10])), (h3, .inr (8, [.int x11, .int x12, .int x13, .ref h14, .ref h15, .ref h16, .ref h17, .ref h18, .ref h19, .ref h20, .ref h21, .ref h22, .ref h23, .int x24, .int x25, .int x26, .int x27, .int x28])), (h21, .inl (cI, 28, .inl f29)), (h22, .inr (1, [.ref h30, .ref h31, .int x32, .int x33, .int x34])), (h5, .inl (cI, 7, .inl f35)), (h8, .inl (cI, 7, .inl f36)), (h19, .inl (cI, 7, .inl f37)), (h20, .inl (cI, 7, .inl f38)), (h6, .inl (cI, 7, .inl f39)), (h15, .inl (cI, 3, .inl f40)), (h4, .inl (cI, 7, .inl f41)), (h30, .inl (cI, 272, .inl f42)), (h31, .inl (cI, 30, .inl f43))] (fun r w1 => ∃ z1 : Nat → Int32, ∃ z2 : Nat → Int32, ∃ z3 : Int32, r = some (.int z3) ∧ w1 = [(h0, .inr (3, [.ref h3, .ref h4, .ref h5, .ref h6, .ref h7, .ref h8, .int x9, .int x10])), (h3, .inr (8, [.int x11, .int x12, .int x13, .ref h14, .ref h15, .ref h16, .ref h17, .ref h18, .ref h19, .ref h20, .ref h21, .ref h22, .ref h23, .int x24, .int x25, .int x26, .int x27, .int x28])), (h21, .inl (cI, 28, .inl f29)), (h22, .inr (1, [.ref h30, .ref h31, .int x32, .int x33, .int x34])), (h5, .inl (cI, 7, .inl f35)), (h8, .inl (cI, 7, .inl z1)), (h19, .inl (cI, 7, .inl f37)), (h20, .inl (cI, 7, .inl f38)), (h6, .inl (cI, 7, .inl f39)), (h15, .inl (cI, 3, .inl f40)), (h4, .inl (cI, 7, .inl f41)), (h30, .inl (cI, 272, .inl f42)), (h31, .inl (cI, 30, .inl z2))]) := by
  refine MX.intro (by decide) (Nat.le_of_ble_eq_true rfl) ?_
  intro p e s m below meth c A ls hx hb hr hml hown hlocks hnm hts hG hE hA hS hP hD hl hAe
  have hl : lv_has ls 4 [(0, .ref h0), (1, .int x1), (2, .int x2)] := hl
  have hown : s.vm.findClass RX3 = some m.cls := hown
  refine lv_aload_n hx hb dX3_worthTo_0 rfl (lv_at hl 0 rfl) ?_
  refine va_get (D := D) (ci := 3) (v := .ref h3) (C := RX3) (T := TX3) (N := 8) hx hb hts inX3 hown hG.1 hP 0 rfl rfl 0 (by decide) (hts _ kw425) (fun _ h9 => h9) rfl dX3_worthTo_1 ?_
  refine lv_iload_n hx hb dX3_worthTo_4 rfl (lv_at hl 1 rfl) ?_
  refine lv_iload_n hx hb dX3_worthTo_5 rfl (lv_at hl 2 rfl) ?_
  refine xc_core (wr := [(h0, .inr (3, [.ref h3, .ref h4, .ref h5, .ref h6, .ref h7, .ref h8, .int x9, .int x10])), (h22, .inr (1, [.ref h30, .ref h31, .int x32, .int x33, .int x34])), (h5, .inl (cI, 7, .inl f35)), (h8, .inl (cI, 7, .inl f36)), (h19, .inl (cI, 7, .inl f37)), (h20, .inl (cI, 7, .inl f38)), (h6, .inl (cI, 7, .inl f39)), (h15, .inl (cI, 3, .inl f40)), (h4, .inl (cI, 7, .inl f41)), (h30, .inl (cI, 272, .inl f42)), (h31, .inl (cI, 30, .inl f43))]) (k := 0) (n := 0) (xc_runV (As := [.int x1, .int x2]) (rest := []) hx hb hml hown hts hG hE hP hD hS hA [1, 2] (by decide) rfl (sX8_believed_1 l D cB cI cJ cZ aK aV h3 x1 x2 x11 x12 x13 h14 h15 h16 h17 h18 h19 h20 h21 h22 h23 x24 x25 x26 x27 x28 f29 (by omega) (by omega) (by omega) (by omega) (by omega) (by omega) (by omega) (by omega) (by omega) (by omega) (by omega) (by omega)) kw883 kw880 kw881 kw882 kw114 (show XD yX8_believed 2 from by decide +kernel) (by decide) rfl rfl 1 rfl hl.1 rfl (Nat.le_of_ble_eq_true rfl) dX3_worthTo_6 (by decide)) hP hD hS hA [1, 2] [0, 3, 4, 5, 6, 7, 8, 9, 10, 11, 12] rfl rfl (by decide) (by decide) (Nat.le_of_ble_eq_true rfl) (Nat.le_of_ble_eq_true rfl) (fun r w1 H locs hpost hP hD hS => ?_)
  obtain ⟨v_1, rfl, rfl⟩ := hpost
  have hP : va_P D vwCl [(h0, .inr (3, [.ref h3, .ref h4, .ref h5, .ref h6, .ref h7, .ref h8, .int x9, .int x10])), (h22, .inr (1, [.ref h30, .ref h31, .int x32, .int x33, .int x34])), (h5, .inl (cI, 7, .inl f35)), (h8, .inl (cI, 7, .inl f36)), (h19, .inl (cI, 7, .inl f37)), (h20, .inl (cI, 7, .inl f38)), (h6, .inl (cI, 7, .inl f39)), (h15, .inl (cI, 3, .inl f40)), (h4, .inl (cI, 7, .inl f41)), (h30, .inl (cI, 272, .inl f42)), (h31, .inl (cI, 30, .inl f43)), (h3, .inr (8, [.int x11, .int x12, .int x13, .ref h14, .ref h15, .ref h16, .ref h17, .ref h18, .ref h19, .ref h20, .ref h21, .ref h22, .ref h23, .int x24, .int x25, .int x26, .int x27, .int x28])), (h21, .inl (cI, 28, .inl f29))] H := hP
  have hD : va_D A [(h0, .inr (3, [.ref h3, .ref h4, .ref h5, .ref h6, .ref h7, .ref h8, .int x9, .int x10])), (h22, .inr (1, [.ref h30, .ref h31, .int x32, .int x33, .int x34])), (h5, .inl (cI, 7, .inl f35)), (h8, .inl (cI, 7, .inl f36)), (h19, .inl (cI, 7, .inl f37)), (h20, .inl (cI, 7, .inl f38)), (h6, .inl (cI, 7, .inl f39)), (h15, .inl (cI, 3, .inl f40)), (h4, .inl (cI, 7, .inl f41)), (h30, .inl (cI, 272, .inl f42)), (h31, .inl (cI, 30, .inl f43)), (h3, .inr (8, [.int x11, .int x12, .int x13, .ref h14, .ref h15, .ref h16, .ref h17, .ref h18, .ref h19, .ref h20, .ref h21, .ref h22, .ref h23, .int x24, .int x25, .int x26, .int x27, .int x28])), (h21, .inl (cI, 28, .inl f29))] := hD
  refine lv_istore_n (lv' := [(3, .int v_1), (0, .ref h0), (1, .int x1), (2, .int x2)]) hx hb dX3_worthTo_9 rfl hl (by decide) rfl (fun ls hl => ?_)
  refine lv_aload_n hx hb dX3_worthTo_10 rfl (lv_at hl 1 rfl) ?_
  refine va_get (D := D) (ci := 3) (v := .ref h3) (C := RX3) (T := TX3) (N := 8) hx hb hts inX3 hown hG.1 hP 0 rfl rfl 0 (by decide) (hts _ kw425) (fun _ h9 => h9) rfl dX3_worthTo_11 ?_
  refine va_get (D := D) (ci := 8) (v := .ref h22) (C := RX8) (T := TX8) (N := 18) hx hb hts inX8 hown hG.1 hP 11 rfl rfl 11 (by decide) (hts _ kw240) (fun _ h9 => h9) rfl dX3_worthTo_14 ?_
  refine va_get (D := D) (ci := 1) (v := .int x34) (C := RX1) (T := TX1) (N := 5) hx hb hts inX1 hown hG.1 hP 1 rfl rfl 4 (by decide) (hts _ kw176) (fun _ h9 => h9) rfl dX3_worthTo_17 ?_
  refine lv_if_ne (tgt := 35) hx hb dX3_worthTo_20 (by decide) (fun c_2 => ?_) (fun c_2 => ?_)
  · have fc_2 : x34.toInt ≠ (0 : Int) := i_ne rfl (by decide) c_2
    refine lv_aload_n hx hb dX3_worthTo_35 rfl (lv_at hl 1 rfl) ?_
    refine lv_iload_n hx hb dX3_worthTo_36 rfl (lv_at hl 2 rfl) ?_
    refine lv_iload_n hx hb dX3_worthTo_37 rfl (lv_at hl 3 rfl) ?_
    refine lv_iload_n hx hb dX3_worthTo_38 rfl (lv_at hl 0 rfl) ?_
    refine xc_core (wr := [(h22, .inr (1, [.ref h30, .ref h31, .int x32, .int x33, .int x34])), (h30, .inl (cI, 272, .inl f42)), (h31, .inl (cI, 30, .inl f43)), (h21, .inl (cI, 28, .inl f29))]) (k := 0) (n := 0) (xc_runV (As := [.int x1, .int x2, .int v_1]) (rest := []) hx hb hml hown hts hG hE hP hD hS hA [0, 2, 3, 11, 4, 5, 6, 7, 8] (by decide) rfl (sX3_setLights_1 l D cB cI cJ cZ aK aV h0 x1 x2 v_1 h3 h4 h5 h6 h7 h8 x9 x10 f35 f36 x11 x12 x13 h14 h15 h16 h17 h18 h19 h20 h21 h22 h23 x24 x25 x26 x27 x28 f37 f38 f39 f40 f41 (by omega) (by omega) (by omega) (by omega) (by omega) (by omega) (by omega) (by omega) (by omega) (by omega) (by omega) (by omega) (ga0.mono (by omega) (by omega) (by omega))) kw888 kw885 kw887 kw22 kw121 (show XD yX3_setLights 3 from by decide +kernel) (by decide) rfl rfl 0 rfl hl.1 rfl (Nat.le_of_ble_eq_true rfl) dX3_worthTo_39 (by decide)) hP hD hS hA [0, 2, 3, 11, 4, 5, 6, 7, 8] [1, 9, 10, 12] rfl rfl (by decide) (by decide) (Nat.le_of_ble_eq_true rfl) (Nat.le_of_ble_eq_true rfl) (fun r w1 H locs hpost hP hD hS => ?_)
    obtain ⟨f_3, rfl, rfl⟩ := hpost
    have hP : va_P D vwCl [(h22, .inr (1, [.ref h30, .ref h31, .int x32, .int x33, .int x34])), (h30, .inl (cI, 272, .inl f42)), (h31, .inl (cI, 30, .inl f43)), (h21, .inl (cI, 28, .inl f29)), (h0, .inr (3, [.ref h3, .ref h4, .ref h5, .ref h6, .ref h7, .ref h8, .int x9, .int x10])), (h5, .inl (cI, 7, .inl f35)), (h8, .inl (cI, 7, .inl f_3)), (h3, .inr (8, [.int x11, .int x12, .int x13, .ref h14, .ref h15, .ref h16, .ref h17, .ref h18, .ref h19, .ref h20, .ref h21, .ref h22, .ref h23, .int x24, .int x25, .int x26, .int x27, .int x28])), (h19, .inl (cI, 7, .inl f37)), (h20, .inl (cI, 7, .inl f38)), (h6, .inl (cI, 7, .inl f39)), (h15, .inl (cI, 3, .inl f40)), (h4, .inl (cI, 7, .inl f41))] H := hP
    have hD : va_D A [(h22, .inr (1, [.ref h30, .ref h31, .int x32, .int x33, .int x34])), (h30, .inl (cI, 272, .inl f42)), (h31, .inl (cI, 30, .inl f43)), (h21, .inl (cI, 28, .inl f29)), (h0, .inr (3, [.ref h3, .ref h4, .ref h5, .ref h6, .ref h7, .ref h8, .int x9, .int x10])), (h5, .inl (cI, 7, .inl f35)), (h8, .inl (cI, 7, .inl f_3)), (h3, .inr (8, [.int x11, .int x12, .int x13, .ref h14, .ref h15, .ref h16, .ref h17, .ref h18, .ref h19, .ref h20, .ref h21, .ref h22, .ref h23, .int x24, .int x25, .int x26, .int x27, .int x28])), (h19, .inl (cI, 7, .inl f37)), (h20, .inl (cI, 7, .inl f38)), (h6, .inl (cI, 7, .inl f39)), (h15, .inl (cI, 3, .inl f40)), (h4, .inl (cI, 7, .inl f41))] := hD
    refine lv_ldc (v := (-99999)) hx hb hown (hts _ kw890) dX3_worthTo_42 ?_
    refine lv_aload_n hx hb dX3_worthTo_44 rfl (lv_at hl 1 rfl) ?_
    refine va_get (D := D) (ci := 3) (v := .ref h3) (C := RX3) (T := TX3) (N := 8) hx hb hts inX3 hown hG.1 hP 4 rfl rfl 0 (by decide) (hts _ kw425) (fun _ h9 => h9) rfl dX3_worthTo_45 ?_
    refine va_get (D := D) (ci := 8) (v := .ref h22) (C := RX8) (T := TX8) (N := 18) hx hb hts inX8 hown hG.1 hP 7 rfl rfl 11 (by decide) (hts _ kw240) (fun _ h9 => h9) rfl dX3_worthTo_48 ?_
    refine lv_aload_n hx hb dX3_worthTo_51 rfl (lv_at hl 1 rfl) ?_
    refine va_get (D := D) (ci := 3) (v := .ref h8) (C := RX3) (T := TX3) (N := 8) hx hb hts inX3 hown hG.1 hP 4 rfl rfl 5 (by decide) (hts _ kw440) (fun _ h9 => h9) rfl dX3_worthTo_52 ?_
    refine xc_core (wr := [(h21, .inl (cI, 28, .inl f29)), (h0, .inr (3, [.ref h3, .ref h4, .ref h5, .ref h6, .ref h7, .ref h8, .int x9, .int x10])), (h5, .inl (cI, 7, .inl f35)), (h3, .inr (8, [.int x11, .int x12, .int x13, .ref h14, .ref h15, .ref h16, .ref h17, .ref h18, .ref h19, .ref h20, .ref h21, .ref h22, .ref h23, .int x24, .int x25, .int x26, .int x27, .int x28])), (h19, .inl (cI, 7, .inl f37)), (h20, .inl (cI, 7, .inl f38)), (h6, .inl (cI, 7, .inl f39)), (h15, .inl (cI, 3, .inl f40)), (h4, .inl (cI, 7, .inl f41))]) (k := 0) (n := 0) (xc_runV (As := [.ref h8]) (rest := [.int (-99999)]) hx hb hml hown hts hG hE hP hD hS hA [0, 1, 2, 6] (by decide) rfl (sX1_reckon_1 l D cB cI cJ cZ aK aV h22 h8 h30 h31 x32 x33 x34 f42 f43 f_3 (by omega) (by omega)) kw894 kw891 kw892 kw893 kw115 (show XD yX1_reckon 1 from by decide +kernel) (by decide) rfl rfl 0 rfl hl.1 rfl (Nat.le_of_ble_eq_true rfl) dX3_worthTo_55 (by decide)) hP hD hS hA [0, 1, 2, 6] [3, 4, 5, 7, 8, 9, 10, 11, 12] rfl rfl (by decide) (by decide) (Nat.le_of_ble_eq_true rfl) (Nat.le_of_ble_eq_true rfl) (fun r w1 H locs hpost hP hD hS => ?_)
    obtain ⟨f_4, v_5, rfl, rfl⟩ := hpost
    have hP : va_P D vwCl [(h21, .inl (cI, 28, .inl f29)), (h0, .inr (3, [.ref h3, .ref h4, .ref h5, .ref h6, .ref h7, .ref h8, .int x9, .int x10])), (h5, .inl (cI, 7, .inl f35)), (h3, .inr (8, [.int x11, .int x12, .int x13, .ref h14, .ref h15, .ref h16, .ref h17, .ref h18, .ref h19, .ref h20, .ref h21, .ref h22, .ref h23, .int x24, .int x25, .int x26, .int x27, .int x28])), (h19, .inl (cI, 7, .inl f37)), (h20, .inl (cI, 7, .inl f38)), (h6, .inl (cI, 7, .inl f39)), (h15, .inl (cI, 3, .inl f40)), (h4, .inl (cI, 7, .inl f41)), (h22, .inr (1, [.ref h30, .ref h31, .int x32, .int x33, .int x34])), (h30, .inl (cI, 272, .inl f42)), (h31, .inl (cI, 30, .inl f_4)), (h8, .inl (cI, 7, .inl f_3))] H := hP
    have hD : va_D A [(h21, .inl (cI, 28, .inl f29)), (h0, .inr (3, [.ref h3, .ref h4, .ref h5, .ref h6, .ref h7, .ref h8, .int x9, .int x10])), (h5, .inl (cI, 7, .inl f35)), (h3, .inr (8, [.int x11, .int x12, .int x13, .ref h14, .ref h15, .ref h16, .ref h17, .ref h18, .ref h19, .ref h20, .ref h21, .ref h22, .ref h23, .int x24, .int x25, .int x26, .int x27, .int x28])), (h19, .inl (cI, 7, .inl f37)), (h20, .inl (cI, 7, .inl f38)), (h6, .inl (cI, 7, .inl f39)), (h15, .inl (cI, 3, .inl f40)), (h4, .inl (cI, 7, .inl f41)), (h22, .inr (1, [.ref h30, .ref h31, .int x32, .int x33, .int x34])), (h30, .inl (cI, 272, .inl f42)), (h31, .inl (cI, 30, .inl f_4)), (h8, .inl (cI, 7, .inl f_3))] := hD
    refine lv_ldc (v := 99999) hx hb hown (hts _ kw904) dX3_worthTo_58 ?_
    refine xc_core (wr := [(h21, .inl (cI, 28, .inl f29)), (h0, .inr (3, [.ref h3, .ref h4, .ref h5, .ref h6, .ref h7, .ref h8, .int x9, .int x10])), (h5, .inl (cI, 7, .inl f35)), (h3, .inr (8, [.int x11, .int x12, .int x13, .ref h14, .ref h15, .ref h16, .ref h17, .ref h18, .ref h19, .ref h20, .ref h21, .ref h22, .ref h23, .int x24, .int x25, .int x26, .int x27, .int x28])), (h19, .inl (cI, 7, .inl f37)), (h20, .inl (cI, 7, .inl f38)), (h6, .inl (cI, 7, .inl f39)), (h15, .inl (cI, 3, .inl f40)), (h4, .inl (cI, 7, .inl f41)), (h22, .inr (1, [.ref h30, .ref h31, .int x32, .int x33, .int x34])), (h30, .inl (cI, 272, .inl f42)), (h31, .inl (cI, 30, .inl f_4)), (h8, .inl (cI, 7, .inl f_3))]) (k := 0) (n := 0) (xc_runSN (As := [.int (-99999), .int v_5, .int 99999]) (rest := []) hx hb hml hown hts hG hE hP hD hS hA [] (by decide) rfl (sX9_within_1 l D cB cI cJ cZ aK aV (-99999) v_5 99999) kw907 (by decide +kernel) kw906 kw112 (show XD yX9_within 3 from by decide +kernel) (by decide) hl.1 rfl (Nat.le_of_ble_eq_true rfl) dX3_worthTo_60 (by decide)) hP hD hS hA [] [0, 1, 2, 3, 4, 5, 6, 7, 8, 9, 10, 11, 12] rfl rfl (by decide) (by decide) (Nat.le_of_ble_eq_true rfl) (Nat.le_of_ble_eq_true rfl) (fun r w1 H locs hpost hP hD hS => ?_)
    obtain ⟨v_6, rfl, rfl⟩ := hpost
    have hP : va_P D vwCl [(h21, .inl (cI, 28, .inl f29)), (h0, .inr (3, [.ref h3, .ref h4, .ref h5, .ref h6, .ref h7, .ref h8, .int x9, .int x10])), (h5, .inl (cI, 7, .inl f35)), (h3, .inr (8, [.int x11, .int x12, .int x13, .ref h14, .ref h15, .ref h16, .ref h17, .ref h18, .ref h19, .ref h20, .ref h21, .ref h22, .ref h23, .int x24, .int x25, .int x26, .int x27, .int x28])), (h19, .inl (cI, 7, .inl f37)), (h20, .inl (cI, 7, .inl f38)), (h6, .inl (cI, 7, .inl f39)), (h15, .inl (cI, 3, .inl f40)), (h4, .inl (cI, 7, .inl f41)), (h22, .inr (1, [.ref h30, .ref h31, .int x32, .int x33, .int x34])), (h30, .inl (cI, 272, .inl f42)), (h31, .inl (cI, 30, .inl f_4)), (h8, .inl (cI, 7, .inl f_3))] H := hP
    have hD : va_D A [(h21, .inl (cI, 28, .inl f29)), (h0, .inr (3, [.ref h3, .ref h4, .ref h5, .ref h6, .ref h7, .ref h8, .int x9, .int x10])), (h5, .inl (cI, 7, .inl f35)), (h3, .inr (8, [.int x11, .int x12, .int x13, .ref h14, .ref h15, .ref h16, .ref h17, .ref h18, .ref h19, .ref h20, .ref h21, .ref h22, .ref h23, .int x24, .int x25, .int x26, .int x27, .int x28])), (h19, .inl (cI, 7, .inl f37)), (h20, .inl (cI, 7, .inl f38)), (h6, .inl (cI, 7, .inl f39)), (h15, .inl (cI, 3, .inl f40)), (h4, .inl (cI, 7, .inl f41)), (h22, .inr (1, [.ref h30, .ref h31, .int x32, .int x33, .int x34])), (h30, .inl (cI, 272, .inl f42)), (h31, .inl (cI, 30, .inl f_4)), (h8, .inl (cI, 7, .inl f_3))] := hD
    have hP9 := hP.sub (ws' := [(h0, .inr (3, [.ref h3, .ref h4, .ref h5, .ref h6, .ref h7, .ref h8, .int x9, .int x10])), (h3, .inr (8, [.int x11, .int x12, .int x13, .ref h14, .ref h15, .ref h16, .ref h17, .ref h18, .ref h19, .ref h20, .ref h21, .ref h22, .ref h23, .int x24, .int x25, .int x26, .int x27, .int x28])), (h21, .inl (cI, 28, .inl f29)), (h22, .inr (1, [.ref h30, .ref h31, .int x32, .int x33, .int x34])), (h5, .inl (cI, 7, .inl f35)), (h8, .inl (cI, 7, .inl f_3)), (h19, .inl (cI, 7, .inl f37)), (h20, .inl (cI, 7, .inl f38)), (h6, .inl (cI, 7, .inl f39)), (h15, .inl (cI, 3, .inl f40)), (h4, .inl (cI, 7, .inl f41)), (h30, .inl (cI, 272, .inl f42)), (h31, .inl (cI, 30, .inl f_4))]) [1, 3, 0, 9, 2, 12, 4, 5, 6, 7, 8, 10, 11] rfl
    have hD9 := hD.sub (ws' := [(h0, .inr (3, [.ref h3, .ref h4, .ref h5, .ref h6, .ref h7, .ref h8, .int x9, .int x10])), (h3, .inr (8, [.int x11, .int x12, .int x13, .ref h14, .ref h15, .ref h16, .ref h17, .ref h18, .ref h19, .ref h20, .ref h21, .ref h22, .ref h23, .int x24, .int x25, .int x26, .int x27, .int x28])), (h21, .inl (cI, 28, .inl f29)), (h22, .inr (1, [.ref h30, .ref h31, .int x32, .int x33, .int x34])), (h5, .inl (cI, 7, .inl f35)), (h8, .inl (cI, 7, .inl f_3)), (h19, .inl (cI, 7, .inl f37)), (h20, .inl (cI, 7, .inl f38)), (h6, .inl (cI, 7, .inl f39)), (h15, .inl (cI, 3, .inl f40)), (h4, .inl (cI, 7, .inl f41)), (h30, .inl (cI, 272, .inl f42)), (h31, .inl (cI, 30, .inl f_4))]) [1, 3, 0, 9, 2, 12, 4, 5, 6, 7, 8, 10, 11] (by decide) rfl
    exact xr_i (rm := (rmL 4 0 0)) hx hb hr hlocks hAe hS hP9 hD9 rfl (Nat.le_of_ble_eq_true rfl) (Nat.le_of_ble_eq_true rfl) dX3_worthTo_63 ⟨f_3, f_4, v_6, rfl, rfl⟩
  · have fc_2 : x34.toInt = (0 : Int) := i_eq rfl (by decide) c_2
    refine lv_aload_n hx hb dX3_worthTo_23 rfl (lv_at hl 1 rfl) ?_
    refine va_get (D := D) (ci := 3) (v := .ref h5) (C := RX3) (T := TX3) (N := 8) hx hb hts inX3 hown hG.1 hP 0 rfl rfl 2 (by decide) (hts _ kw432) (fun _ h9 => h9) rfl dX3_worthTo_24 ?_
    refine lv_iload_n hx hb dX3_worthTo_27 rfl (lv_at hl 3 rfl) ?_
    refine xa_ildU hx hb hG hP 2 rfl (vp_in_iff.mpr ⟨by omega, by omega⟩) dX3_worthTo_28 (fun v_7 => ?_)
    refine lv_iload_n hx hb dX3_worthTo_29 rfl (lv_at hl 0 rfl) ?_
    refine lv_imul hx hb dX3_worthTo_30 ?_
    refine xt_any (fun v_8 => ?_)
    refine lv_bipush (v := 100) hx hb dX3_worthTo_31 (by decide +kernel) ?_
    refine lv_idiv hx hb dX3_worthTo_33 (by decide +kernel) ?_
    refine xt_any (fun v_9 => ?_)
    have hP9 := hP.sub (ws' := [(h0, .inr (3, [.ref h3, .ref h4, .ref h5, .ref h6, .ref h7, .ref h8, .int x9, .int x10])), (h3, .inr (8, [.int x11, .int x12, .int x13, .ref h14, .ref h15, .ref h16, .ref h17, .ref h18, .ref h19, .ref h20, .ref h21, .ref h22, .ref h23, .int x24, .int x25, .int x26, .int x27, .int x28])), (h21, .inl (cI, 28, .inl f29)), (h22, .inr (1, [.ref h30, .ref h31, .int x32, .int x33, .int x34])), (h5, .inl (cI, 7, .inl f35)), (h8, .inl (cI, 7, .inl f36)), (h19, .inl (cI, 7, .inl f37)), (h20, .inl (cI, 7, .inl f38)), (h6, .inl (cI, 7, .inl f39)), (h15, .inl (cI, 3, .inl f40)), (h4, .inl (cI, 7, .inl f41)), (h30, .inl (cI, 272, .inl f42)), (h31, .inl (cI, 30, .inl f43))]) [0, 11, 12, 1, 2, 3, 4, 5, 6, 7, 8, 9, 10] rfl
    have hD9 := hD.sub (ws' := [(h0, .inr (3, [.ref h3, .ref h4, .ref h5, .ref h6, .ref h7, .ref h8, .int x9, .int x10])), (h3, .inr (8, [.int x11, .int x12, .int x13, .ref h14, .ref h15, .ref h16, .ref h17, .ref h18, .ref h19, .ref h20, .ref h21, .ref h22, .ref h23, .int x24, .int x25, .int x26, .int x27, .int x28])), (h21, .inl (cI, 28, .inl f29)), (h22, .inr (1, [.ref h30, .ref h31, .int x32, .int x33, .int x34])), (h5, .inl (cI, 7, .inl f35)), (h8, .inl (cI, 7, .inl f36)), (h19, .inl (cI, 7, .inl f37)), (h20, .inl (cI, 7, .inl f38)), (h6, .inl (cI, 7, .inl f39)), (h15, .inl (cI, 3, .inl f40)), (h4, .inl (cI, 7, .inl f41)), (h30, .inl (cI, 272, .inl f42)), (h31, .inl (cI, 30, .inl f43))]) [0, 11, 12, 1, 2, 3, 4, 5, 6, 7, 8, 9, 10] (by decide) rfl
    exact xr_i (rm := (rmL 4 0 0)) hx hb hr hlocks hAe hS hP9 hD9 rfl (Nat.le_of_ble_eq_true rfl) (Nat.le_of_ble_eq_true rfl) dX3_worthTo_34 ⟨f36, f43, v_9, rfl, rfl⟩
theorem dX3_growthAt_0 : decode cX3_growthAt 0 = .ok (.aload_n 0, 1) := by decide +kernel
theorem dX3_growthAt_1 : decode cX3_growthAt 1 = .ok (.getfield 33, 3) := by decide +kernel
theorem kw244 : (.fieldLink RX3 129 "SpiceSwaps$Told" "growBy" "LSpiceSwaps$Formula;" : Cond) ∈ gT := gT_of 244 (by decide +kernel) (by decide +kernel)
theorem dX3_growthAt_4 : decode cX3_growthAt 4 = .ok (.getfield 129, 3) := by decide +kernel
theorem dX3_growthAt_7 : decode cX3_growthAt 7 = .ok (.getfield 99, 3) := by decide +kernel
theorem dX3_growthAt_10 : decode cX3_growthAt 10 = .ok (.ifCond .ne 5, 3) := by decide +kernel
theorem dX3_growthAt_15 : decode cX3_growthAt 15 = .ok (.aload_n 0, 1) := by decide +kernel
theorem dX3_growthAt_16 : decode cX3_growthAt 16 = .ok (.aload_n 0, 1) := by decide +kernel
theorem dX3_growthAt_17 : decode cX3_growthAt 17 = .ok (.getfield 11, 3) := by decide +kernel
theorem dX3_growthAt_20 : decode cX3_growthAt 20 = .ok (.iload_n 1, 1) := by decide +kernel
theorem dX3_growthAt_21 : decode cX3_growthAt 21 = .ok (.iaload, 1) := by decide +kernel
theorem dX3_growthAt_22 : decode cX3_growthAt 22 = .ok (.iload_n 1, 1) := by decide +kernel
theorem dX3_growthAt_23 : decode cX3_growthAt 23 = .ok (.bipush 100, 2) := by decide +kernel
theorem dX3_growthAt_25 : decode cX3_growthAt 25 = .ok (.invokevirtual 103, 3) := by decide +kernel
theorem dX3_growthAt_28 : decode cX3_growthAt 28 = .ok (.aload_n 0, 1) := by decide +kernel
theorem dX3_growthAt_29 : decode cX3_growthAt 29 = .ok (.getfield 33, 3) := by decide +kernel
theorem dX3_growthAt_32 : decode cX3_growthAt 32 = .ok (.getfield 129, 3) := by decide +kernel
theorem dX3_growthAt_35 : decode cX3_growthAt 35 = .ok (.aload_n 0, 1) := by decide +kernel
theorem dX3_growthAt_36 : decode cX3_growthAt 36 = .ok (.getfield 26, 3) := by decide +kernel
theorem dX3_growthAt_39 : decode cX3_growthAt 39 = .ok (.invokevirtual 108, 3) := by decide +kernel
theorem dX3_growthAt_42 : decode cX3_growthAt 42 = .ok (.ireturn, 1) := by decide +kernel
theorem dX3_growthAt_13 : decode cX3_growthAt 13 = .ok (.iconst 0, 1) := by decide +kernel
theorem dX3_growthAt_14 : decode cX3_growthAt 14 = .ok (.ireturn, 1) := by decide +kernel
set_option maxHeartbeats 4000000 in
set_option maxRecDepth 100000 in
theorem sX3_growthAt_1 (l : Launch) (D : va_G) (cB cI cJ cZ : ClassId) (aK aV : Nat → Nat) (h0 : Nat) (x1 : Int32) (h2 : Nat) (h3 : Nat) (h4 : Nat) (h5 : Nat) (h6 : Nat) (h7 : Nat) (x8 : Int32) (x9 : Int32) (x10 : Int32) (x11 : Int32) (x12 : Int32) (h13 : Nat) (h14 : Nat) (h15 : Nat) (h16 : Nat) (h17 : Nat) (h18 : Nat) (h19 : Nat) (h20 : Nat) (h21 : Nat) (h22 : Nat) (x23 : Int32) (x24 : Int32) (x25 : Int32) (x26 : Int32) (x27 : Int32) (h28 : Nat) (h29 : Nat) (x30 : Int32) (x31 : Int32) (x32 : Int32) (f33 : Nat → Int32) (f34 : Nat → Int32) (f35 : Nat → Int32) (f36 : Nat → Int32) (f37 : Nat → Int32) (f38 : Nat → Int32) (f39 : Nat → Int32) (f40 : Nat → Int32) (f41 : Nat → Int32) (gh0 : 0 ≤ x1.toInt) (gh1 : 0 ≤ -x1.toInt + 6) (gh2 : 0 ≤ x9.toInt) (gh3 : 0 ≤ -x9.toInt + 999) (gh4 : 0 ≤ x10.toInt) (gh5 : 0 ≤ -x10.toInt + 4) (gh6 : 0 ≤ x11.toInt) (gh7 : 0 ≤ -x11.toInt + 3) (gh8 : 0 ≤ x12.toInt) (gh9 : 0 ≤ -x12.toInt + 7) (gh10 : 0 ≤ x26.toInt + 1) (gh11 : 0 ≤ -x26.toInt + 999) (gh12 : 0 ≤ x30.toInt) (gh13 : 0 ≤ -x30.toInt + 272) (ga0 : AR f33 (0) (3) (x12.toInt)) : MX l yX3_growthAt cX3_growthAt 2 (some .int) (rmL 4 0 0) D cB cI cJ cZ aK aV [.ref h0, .int x1] [(h0, .inr (3, [.ref h2, .ref h3, .ref h4, .ref h5, .ref h6, .ref h7, .int x8, .int x9])), (h2, .inr (8, [.int x10, .int x11, .int x12, .ref h13, .ref h14, .ref h15, .ref h16, .ref h17, .ref h18, .ref h19, .ref h20, .ref h21, .ref h22, .int x23, .int x24, .int x25, .int x26, .int x27])), (h22, .inr (1, [.ref h28, .ref h29, .int x30, .int x31, .int x32])), (h3, .inl (cI, 7, .inl f33)), (h4, .inl (cI, 7, .inl f34)), (h7, .inl (cI, 7, .inl f35)), (h18, .inl (cI, 7, .inl f36)), (h19, .inl (cI, 7, .inl f37)), (h5, .inl (cI, 7, .inl f38)), (h14, .inl (cI, 3, .inl f39)), (h28, .inl (cI, 272, .inl f40)), (h29, .inl (cI, 30, .inl f41))] (fun r w1 => ∃ z1 : Nat → Int32, ∃ z2 : Nat → Int32, ∃ z3 : Int32, r = some (.int z3) ∧ w1 = [(h0, .inr (3, [.ref h2, .ref h3, .ref h4, .ref h5, .ref h6, .ref h7, .int x8, .int x9])), (h2, .inr (8, [.int x10, .int x11, .int x12, .ref h13, .ref h14, .ref h15, .ref h16, .ref h17, .ref h18, .ref h19, .ref h20, .ref h21, .ref h22, .int x23, .int x24, .int x25, .int x26, .int x27])), (h22, .inr (1, [.ref h28, .ref h29, .int x30, .int x31, .int x32])), (h3, .inl (cI, 7, .inl f33)), (h4, .inl (cI, 7, .inl f34)), (h7, .inl (cI, 7, .inl z1)), (h18, .inl (cI, 7, .inl f36)), (h19, .inl (cI, 7, .inl f37)), (h5, .inl (cI, 7, .inl f38)), (h14, .inl (cI, 3, .inl f39)), (h28, .inl (cI, 272, .inl f40)), (h29, .inl (cI, 30, .inl z2))]) := by
  refine MX.intro (by decide) (Nat.le_of_ble_eq_true rfl) ?_
  intro p e s m below meth c A ls hx hb hr hml hown hlocks hnm hts hG hE hA hS hP hD hl hAe
  have hl : lv_has ls 2 [(0, .ref h0), (1, .int x1)] := hl
  have hown : s.vm.findClass RX3 = some m.cls := hown
  refine lv_aload_n hx hb dX3_growthAt_0 rfl (lv_at hl 0 rfl) ?_
  refine va_get (D := D) (ci := 3) (v := .ref h2) (C := RX3) (T := TX3) (N := 8) hx hb hts inX3 hown hG.1 hP 0 rfl rfl 0 (by decide) (hts _ kw425) (fun _ h9 => h9) rfl dX3_growthAt_1 ?_
  refine va_get (D := D) (ci := 8) (v := .ref h22) (C := RX8) (T := TX8) (N := 18) hx hb hts inX8 hown hG.1 hP 1 rfl rfl 12 (by decide) (hts _ kw244) (fun _ h9 => h9) rfl dX3_growthAt_4 ?_
  refine va_get (D := D) (ci := 1) (v := .int x32) (C := RX1) (T := TX1) (N := 5) hx hb hts inX1 hown hG.1 hP 2 rfl rfl 4 (by decide) (hts _ kw176) (fun _ h9 => h9) rfl dX3_growthAt_7 ?_
  refine lv_if_ne (tgt := 15) hx hb dX3_growthAt_10 (by decide) (fun c_1 => ?_) (fun c_1 => ?_)
  · have fc_1 : x32.toInt ≠ (0 : Int) := i_ne rfl (by decide) c_1
    refine lv_aload_n hx hb dX3_growthAt_15 rfl (lv_at hl 0 rfl) ?_
    refine lv_aload_n hx hb dX3_growthAt_16 rfl (lv_at hl 0 rfl) ?_
    refine va_get (D := D) (ci := 3) (v := .ref h3) (C := RX3) (T := TX3) (N := 8) hx hb hts inX3 hown hG.1 hP 0 rfl rfl 1 (by decide) (hts _ kw428) (fun _ h9 => h9) rfl dX3_growthAt_17 ?_
    refine lv_iload_n hx hb dX3_growthAt_20 rfl (lv_at hl 1 rfl) ?_
    refine xa_ildR hx hb hG hP 3 rfl (vp_in_iff.mpr ⟨by omega, by omega⟩) dX3_growthAt_21 (fun v_2 hv => ?_)
    refine lv_iload_n hx hb dX3_growthAt_22 rfl (lv_at hl 1 rfl) ?_
    refine lv_bipush (v := 100) hx hb dX3_growthAt_23 (by decide +kernel) ?_
    refine xc_core (wr := [(h22, .inr (1, [.ref h28, .ref h29, .int x30, .int x31, .int x32])), (h28, .inl (cI, 272, .inl f40)), (h29, .inl (cI, 30, .inl f41))]) (k := 0) (n := 0) (xc_runV (As := [.int v_2, .int x1, .int 100]) (rest := []) hx hb hml hown hts hG hE hP hD hS hA [0, 4, 5, 1, 6, 7, 8, 9, 3] (by decide) rfl (sX3_setLights_1 l D cB cI cJ cZ aK aV h0 v_2 x1 100 h2 h3 h4 h5 h6 h7 x8 x9 f34 f35 x10 x11 x12 h13 h14 h15 h16 h17 h18 h19 h20 h21 h22 x23 x24 x25 x26 x27 f36 f37 f38 f39 f33 (by have zc100 : (100 : Int32).toInt = 100 := (by decide); omega) (by have zc100 : (100 : Int32).toInt = 100 := (by decide); omega) (by have zc100 : (100 : Int32).toInt = 100 := (by decide); omega) (by have zc100 : (100 : Int32).toInt = 100 := (by decide); omega) (by have zc100 : (100 : Int32).toInt = 100 := (by decide); omega) (by have zc100 : (100 : Int32).toInt = 100 := (by decide); omega) (by have zc100 : (100 : Int32).toInt = 100 := (by decide); omega) (by have zc100 : (100 : Int32).toInt = 100 := (by decide); omega) (by have zc100 : (100 : Int32).toInt = 100 := (by decide); omega) (by have zc100 : (100 : Int32).toInt = 100 := (by decide); omega) (by have zc100 : (100 : Int32).toInt = 100 := (by decide); omega) (by have zc100 : (100 : Int32).toInt = 100 := (by decide); omega) (ga0.mono (by have zc100 : (100 : Int32).toInt = 100 := (by decide); omega) (by have zc100 : (100 : Int32).toInt = 100 := (by decide); omega) (by have zc100 : (100 : Int32).toInt = 100 := (by decide); omega))) kw888 kw885 kw887 kw22 kw121 (show XD yX3_setLights 3 from by decide +kernel) (by decide) rfl rfl 0 rfl hl.1 rfl (Nat.le_of_ble_eq_true rfl) dX3_growthAt_25 (by decide)) hP hD hS hA [0, 4, 5, 1, 6, 7, 8, 9, 3] [2, 10, 11] rfl rfl (by decide) (by decide) (Nat.le_of_ble_eq_true rfl) (Nat.le_of_ble_eq_true rfl) (fun r w1 H locs hpost hP hD hS => ?_)
    obtain ⟨f_3, rfl, rfl⟩ := hpost
    have hP : va_P D vwCl [(h22, .inr (1, [.ref h28, .ref h29, .int x30, .int x31, .int x32])), (h28, .inl (cI, 272, .inl f40)), (h29, .inl (cI, 30, .inl f41)), (h0, .inr (3, [.ref h2, .ref h3, .ref h4, .ref h5, .ref h6, .ref h7, .int x8, .int x9])), (h4, .inl (cI, 7, .inl f34)), (h7, .inl (cI, 7, .inl f_3)), (h2, .inr (8, [.int x10, .int x11, .int x12, .ref h13, .ref h14, .ref h15, .ref h16, .ref h17, .ref h18, .ref h19, .ref h20, .ref h21, .ref h22, .int x23, .int x24, .int x25, .int x26, .int x27])), (h18, .inl (cI, 7, .inl f36)), (h19, .inl (cI, 7, .inl f37)), (h5, .inl (cI, 7, .inl f38)), (h14, .inl (cI, 3, .inl f39)), (h3, .inl (cI, 7, .inl f33))] H := hP
    have hD : va_D A [(h22, .inr (1, [.ref h28, .ref h29, .int x30, .int x31, .int x32])), (h28, .inl (cI, 272, .inl f40)), (h29, .inl (cI, 30, .inl f41)), (h0, .inr (3, [.ref h2, .ref h3, .ref h4, .ref h5, .ref h6, .ref h7, .int x8, .int x9])), (h4, .inl (cI, 7, .inl f34)), (h7, .inl (cI, 7, .inl f_3)), (h2, .inr (8, [.int x10, .int x11, .int x12, .ref h13, .ref h14, .ref h15, .ref h16, .ref h17, .ref h18, .ref h19, .ref h20, .ref h21, .ref h22, .int x23, .int x24, .int x25, .int x26, .int x27])), (h18, .inl (cI, 7, .inl f36)), (h19, .inl (cI, 7, .inl f37)), (h5, .inl (cI, 7, .inl f38)), (h14, .inl (cI, 3, .inl f39)), (h3, .inl (cI, 7, .inl f33))] := hD
    refine lv_aload_n hx hb dX3_growthAt_28 rfl (lv_at hl 0 rfl) ?_
    refine va_get (D := D) (ci := 3) (v := .ref h2) (C := RX3) (T := TX3) (N := 8) hx hb hts inX3 hown hG.1 hP 3 rfl rfl 0 (by decide) (hts _ kw425) (fun _ h9 => h9) rfl dX3_growthAt_29 ?_
    refine va_get (D := D) (ci := 8) (v := .ref h22) (C := RX8) (T := TX8) (N := 18) hx hb hts inX8 hown hG.1 hP 6 rfl rfl 12 (by decide) (hts _ kw244) (fun _ h9 => h9) rfl dX3_growthAt_32 ?_
    refine lv_aload_n hx hb dX3_growthAt_35 rfl (lv_at hl 0 rfl) ?_
    refine va_get (D := D) (ci := 3) (v := .ref h7) (C := RX3) (T := TX3) (N := 8) hx hb hts inX3 hown hG.1 hP 3 rfl rfl 5 (by decide) (hts _ kw440) (fun _ h9 => h9) rfl dX3_growthAt_36 ?_
    refine xc_core (wr := [(h0, .inr (3, [.ref h2, .ref h3, .ref h4, .ref h5, .ref h6, .ref h7, .int x8, .int x9])), (h4, .inl (cI, 7, .inl f34)), (h2, .inr (8, [.int x10, .int x11, .int x12, .ref h13, .ref h14, .ref h15, .ref h16, .ref h17, .ref h18, .ref h19, .ref h20, .ref h21, .ref h22, .int x23, .int x24, .int x25, .int x26, .int x27])), (h18, .inl (cI, 7, .inl f36)), (h19, .inl (cI, 7, .inl f37)), (h5, .inl (cI, 7, .inl f38)), (h14, .inl (cI, 3, .inl f39)), (h3, .inl (cI, 7, .inl f33))]) (k := 0) (n := 0) (xc_runV (As := [.ref h7]) (rest := []) hx hb hml hown hts hG hE hP hD hS hA [0, 1, 2, 5] (by decide) rfl (sX1_reckon_1 l D cB cI cJ cZ aK aV h22 h7 h28 h29 x30 x31 x32 f40 f41 f_3 (by omega) (by omega)) kw894 kw891 kw892 kw893 kw115 (show XD yX1_reckon 1 from by decide +kernel) (by decide) rfl rfl 0 rfl hl.1 rfl (Nat.le_of_ble_eq_true rfl) dX3_growthAt_39 (by decide)) hP hD hS hA [0, 1, 2, 5] [3, 4, 6, 7, 8, 9, 10, 11] rfl rfl (by decide) (by decide) (Nat.le_of_ble_eq_true rfl) (Nat.le_of_ble_eq_true rfl) (fun r w1 H locs hpost hP hD hS => ?_)
    obtain ⟨f_4, v_5, rfl, rfl⟩ := hpost
    have hP : va_P D vwCl [(h0, .inr (3, [.ref h2, .ref h3, .ref h4, .ref h5, .ref h6, .ref h7, .int x8, .int x9])), (h4, .inl (cI, 7, .inl f34)), (h2, .inr (8, [.int x10, .int x11, .int x12, .ref h13, .ref h14, .ref h15, .ref h16, .ref h17, .ref h18, .ref h19, .ref h20, .ref h21, .ref h22, .int x23, .int x24, .int x25, .int x26, .int x27])), (h18, .inl (cI, 7, .inl f36)), (h19, .inl (cI, 7, .inl f37)), (h5, .inl (cI, 7, .inl f38)), (h14, .inl (cI, 3, .inl f39)), (h3, .inl (cI, 7, .inl f33)), (h22, .inr (1, [.ref h28, .ref h29, .int x30, .int x31, .int x32])), (h28, .inl (cI, 272, .inl f40)), (h29, .inl (cI, 30, .inl f_4)), (h7, .inl (cI, 7, .inl f_3))] H := hP
    have hD : va_D A [(h0, .inr (3, [.ref h2, .ref h3, .ref h4, .ref h5, .ref h6, .ref h7, .int x8, .int x9])), (h4, .inl (cI, 7, .inl f34)), (h2, .inr (8, [.int x10, .int x11, .int x12, .ref h13, .ref h14, .ref h15, .ref h16, .ref h17, .ref h18, .ref h19, .ref h20, .ref h21, .ref h22, .int x23, .int x24, .int x25, .int x26, .int x27])), (h18, .inl (cI, 7, .inl f36)), (h19, .inl (cI, 7, .inl f37)), (h5, .inl (cI, 7, .inl f38)), (h14, .inl (cI, 3, .inl f39)), (h3, .inl (cI, 7, .inl f33)), (h22, .inr (1, [.ref h28, .ref h29, .int x30, .int x31, .int x32])), (h28, .inl (cI, 272, .inl f40)), (h29, .inl (cI, 30, .inl f_4)), (h7, .inl (cI, 7, .inl f_3))] := hD
    have hP9 := hP.sub (ws' := [(h0, .inr (3, [.ref h2, .ref h3, .ref h4, .ref h5, .ref h6, .ref h7, .int x8, .int x9])), (h2, .inr (8, [.int x10, .int x11, .int x12, .ref h13, .ref h14, .ref h15, .ref h16, .ref h17, .ref h18, .ref h19, .ref h20, .ref h21, .ref h22, .int x23, .int x24, .int x25, .int x26, .int x27])), (h22, .inr (1, [.ref h28, .ref h29, .int x30, .int x31, .int x32])), (h3, .inl (cI, 7, .inl f33)), (h4, .inl (cI, 7, .inl f34)), (h7, .inl (cI, 7, .inl f_3)), (h18, .inl (cI, 7, .inl f36)), (h19, .inl (cI, 7, .inl f37)), (h5, .inl (cI, 7, .inl f38)), (h14, .inl (cI, 3, .inl f39)), (h28, .inl (cI, 272, .inl f40)), (h29, .inl (cI, 30, .inl f_4))]) [0, 2, 8, 7, 1, 11, 3, 4, 5, 6, 9, 10] rfl
    have hD9 := hD.sub (ws' := [(h0, .inr (3, [.ref h2, .ref h3, .ref h4, .ref h5, .ref h6, .ref h7, .int x8, .int x9])), (h2, .inr (8, [.int x10, .int x11, .int x12, .ref h13, .ref h14, .ref h15, .ref h16, .ref h17, .ref h18, .ref h19, .ref h20, .ref h21, .ref h22, .int x23, .int x24, .int x25, .int x26, .int x27])), (h22, .inr (1, [.ref h28, .ref h29, .int x30, .int x31, .int x32])), (h3, .inl (cI, 7, .inl f33)), (h4, .inl (cI, 7, .inl f34)), (h7, .inl (cI, 7, .inl f_3)), (h18, .inl (cI, 7, .inl f36)), (h19, .inl (cI, 7, .inl f37)), (h5, .inl (cI, 7, .inl f38)), (h14, .inl (cI, 3, .inl f39)), (h28, .inl (cI, 272, .inl f40)), (h29, .inl (cI, 30, .inl f_4))]) [0, 2, 8, 7, 1, 11, 3, 4, 5, 6, 9, 10] (by decide) rfl
    exact xr_i (rm := (rmL 4 0 0)) hx hb hr hlocks hAe hS hP9 hD9 rfl (Nat.le_of_ble_eq_true rfl) (Nat.le_of_ble_eq_true rfl) dX3_growthAt_42 ⟨f_3, f_4, v_5, rfl, rfl⟩
  · have fc_1 : x32.toInt = (0 : Int) := i_eq rfl (by decide) c_1
    refine lv_iconst (v := 0) hx hb dX3_growthAt_13 (by decide +kernel) ?_
    have hP9 := hP.sub (ws' := [(h0, .inr (3, [.ref h2, .ref h3, .ref h4, .ref h5, .ref h6, .ref h7, .int x8, .int x9])), (h2, .inr (8, [.int x10, .int x11, .int x12, .ref h13, .ref h14, .ref h15, .ref h16, .ref h17, .ref h18, .ref h19, .ref h20, .ref h21, .ref h22, .int x23, .int x24, .int x25, .int x26, .int x27])), (h22, .inr (1, [.ref h28, .ref h29, .int x30, .int x31, .int x32])), (h3, .inl (cI, 7, .inl f33)), (h4, .inl (cI, 7, .inl f34)), (h7, .inl (cI, 7, .inl f35)), (h18, .inl (cI, 7, .inl f36)), (h19, .inl (cI, 7, .inl f37)), (h5, .inl (cI, 7, .inl f38)), (h14, .inl (cI, 3, .inl f39)), (h28, .inl (cI, 272, .inl f40)), (h29, .inl (cI, 30, .inl f41))]) [0, 1, 2, 3, 4, 5, 6, 7, 8, 9, 10, 11] rfl
    have hD9 := hD.sub (ws' := [(h0, .inr (3, [.ref h2, .ref h3, .ref h4, .ref h5, .ref h6, .ref h7, .int x8, .int x9])), (h2, .inr (8, [.int x10, .int x11, .int x12, .ref h13, .ref h14, .ref h15, .ref h16, .ref h17, .ref h18, .ref h19, .ref h20, .ref h21, .ref h22, .int x23, .int x24, .int x25, .int x26, .int x27])), (h22, .inr (1, [.ref h28, .ref h29, .int x30, .int x31, .int x32])), (h3, .inl (cI, 7, .inl f33)), (h4, .inl (cI, 7, .inl f34)), (h7, .inl (cI, 7, .inl f35)), (h18, .inl (cI, 7, .inl f36)), (h19, .inl (cI, 7, .inl f37)), (h5, .inl (cI, 7, .inl f38)), (h14, .inl (cI, 3, .inl f39)), (h28, .inl (cI, 272, .inl f40)), (h29, .inl (cI, 30, .inl f41))]) [0, 1, 2, 3, 4, 5, 6, 7, 8, 9, 10, 11] (by decide) rfl
    exact xr_i (rm := (rmL 4 0 0)) hx hb hr hlocks hAe hS hP9 hD9 rfl (Nat.le_of_ble_eq_true rfl) (Nat.le_of_ble_eq_true rfl) dX3_growthAt_14 ⟨f35, f41, 0, rfl, rfl⟩
theorem dX3_strike_0 : decode cX3_strike 0 = .ok (.aload_n 0, 1) := by decide +kernel
theorem dX3_strike_1 : decode cX3_strike 1 = .ok (.getfield 33, 3) := by decide +kernel
theorem dX3_strike_4 : decode cX3_strike 4 = .ok (.getfield 59, 3) := by decide +kernel
theorem dX3_strike_7 : decode cX3_strike 7 = .ok (.ifCond .le 57, 3) := by decide +kernel
theorem dX3_strike_64 : decode cX3_strike 64 = .ok (.return_, 1) := by decide +kernel
theorem dX3_strike_10 : decode cX3_strike 10 = .ok (.aload_n 0, 1) := by decide +kernel
theorem kw443 : (.fieldLink RX3 56 "SpiceSwaps$Moment" "seed" "I" : Cond) ∈ gT := gT_of 443 (by decide +kernel) (by decide +kernel)
theorem dX3_strike_11 : decode cX3_strike 11 = .ok (.getfield 56, 3) := by decide +kernel
theorem dX3_strike_14 : decode cX3_strike 14 = .ok (.bipush 100, 2) := by decide +kernel
theorem dX3_strike_16 : decode cX3_strike 16 = .ok (.irem, 1) := by decide +kernel
theorem dX3_strike_17 : decode cX3_strike 17 = .ok (.aload_n 0, 1) := by decide +kernel
theorem dX3_strike_18 : decode cX3_strike 18 = .ok (.getfield 33, 3) := by decide +kernel
theorem kw248 : (.fieldLink RX3 132 "SpiceSwaps$Told" "storm" "I" : Cond) ∈ gT := gT_of 248 (by decide +kernel) (by decide +kernel)
theorem dX3_strike_21 : decode cX3_strike 21 = .ok (.getfield 132, 3) := by decide +kernel
theorem dX3_strike_24 : decode cX3_strike 24 = .ok (.if_icmp .ge 40, 3) := by decide +kernel
theorem dX3_strike_27 : decode cX3_strike 27 = .ok (.aload_n 0, 1) := by decide +kernel
theorem dX3_strike_28 : decode cX3_strike 28 = .ok (.getfield 56, 3) := by decide +kernel
theorem dX3_strike_31 : decode cX3_strike 31 = .ok (.aload_n 0, 1) := by decide +kernel
theorem dX3_strike_32 : decode cX3_strike 32 = .ok (.getfield 33, 3) := by decide +kernel
theorem dX3_strike_35 : decode cX3_strike 35 = .ok (.getfield 59, 3) := by decide +kernel
theorem dX3_strike_38 : decode cX3_strike 38 = .ok (.irem, 1) := by decide +kernel
theorem dX3_strike_39 : decode cX3_strike 39 = .ok (.istore_n 1, 1) := by decide +kernel
theorem dX3_strike_40 : decode cX3_strike 40 = .ok (.aload_n 0, 1) := by decide +kernel
theorem dX3_strike_41 : decode cX3_strike 41 = .ok (.getfield 15, 3) := by decide +kernel
theorem dX3_strike_44 : decode cX3_strike 44 = .ok (.iload_n 1, 1) := by decide +kernel
theorem dX3_strike_45 : decode cX3_strike 45 = .ok (.iconst 0, 1) := by decide +kernel
theorem dX3_strike_46 : decode cX3_strike 46 = .ok (.aload_n 0, 1) := by decide +kernel
theorem dX3_strike_47 : decode cX3_strike 47 = .ok (.getfield 15, 3) := by decide +kernel
theorem dX3_strike_50 : decode cX3_strike 50 = .ok (.iload_n 1, 1) := by decide +kernel
theorem dX3_strike_51 : decode cX3_strike 51 = .ok (.iaload, 1) := by decide +kernel
theorem dX3_strike_52 : decode cX3_strike 52 = .ok (.aload_n 0, 1) := by decide +kernel
theorem dX3_strike_53 : decode cX3_strike 53 = .ok (.getfield 33, 3) := by decide +kernel
theorem kw252 : (.fieldLink RX3 135 "SpiceSwaps$Told" "stormLoss" "I" : Cond) ∈ gT := gT_of 252 (by decide +kernel) (by decide +kernel)
theorem dX3_strike_56 : decode cX3_strike 56 = .ok (.getfield 135, 3) := by decide +kernel
theorem dX3_strike_59 : decode cX3_strike 59 = .ok (.isub, 1) := by decide +kernel
theorem dX3_strike_60 : decode cX3_strike 60 = .ok (.invokestatic 80, 3) := by decide +kernel
theorem dX3_strike_63 : decode cX3_strike 63 = .ok (.iastore, 1) := by decide +kernel
set_option maxHeartbeats 4000000 in
set_option maxRecDepth 100000 in
theorem sX3_strike_1 (l : Launch) (D : va_G) (cB cI cJ cZ : ClassId) (aK aV : Nat → Nat) (h0 : Nat) (h1 : Nat) (h2 : Nat) (h3 : Nat) (h4 : Nat) (h5 : Nat) (h6 : Nat) (x7 : Int32) (x8 : Int32) (x9 : Int32) (x10 : Int32) (x11 : Int32) (h12 : Nat) (h13 : Nat) (h14 : Nat) (h15 : Nat) (h16 : Nat) (h17 : Nat) (h18 : Nat) (h19 : Nat) (h20 : Nat) (h21 : Nat) (x22 : Int32) (x23 : Int32) (x24 : Int32) (x25 : Int32) (x26 : Int32) (f27 : Nat → Int32) (gh0 : 0 ≤ x8.toInt) (gh1 : 0 ≤ -x8.toInt + 999) (gh2 : 0 ≤ x9.toInt) (gh3 : 0 ≤ -x9.toInt + 4) (gh4 : 0 ≤ x10.toInt) (gh5 : 0 ≤ -x10.toInt + 3) (gh6 : 0 ≤ x11.toInt) (gh7 : 0 ≤ -x11.toInt + 7) (gh8 : 0 ≤ x25.toInt + 1) (gh9 : 0 ≤ -x25.toInt + 999) : MX l yX3_strike cX3_strike 2 none (rmL 2 0 0) D cB cI cJ cZ aK aV [.ref h0] [(h0, .inr (3, [.ref h1, .ref h2, .ref h3, .ref h4, .ref h5, .ref h6, .int x7, .int x8])), (h1, .inr (8, [.int x9, .int x10, .int x11, .ref h12, .ref h13, .ref h14, .ref h15, .ref h16, .ref h17, .ref h18, .ref h19, .ref h20, .ref h21, .int x22, .int x23, .int x24, .int x25, .int x26])), (h3, .inl (cI, 7, .inl f27))] (fun r w1 => ∃ z1 : Nat → Int32, r = none ∧ w1 = [(h0, .inr (3, [.ref h1, .ref h2, .ref h3, .ref h4, .ref h5, .ref h6, .int x7, .int x8])), (h1, .inr (8, [.int x9, .int x10, .int x11, .ref h12, .ref h13, .ref h14, .ref h15, .ref h16, .ref h17, .ref h18, .ref h19, .ref h20, .ref h21, .int x22, .int x23, .int x24, .int x25, .int x26])), (h3, .inl (cI, 7, .inl z1))]) := by
  refine MX.intro (by decide) (Nat.le_of_ble_eq_true rfl) ?_
  intro p e s m below meth c A ls hx hb hr hml hown hlocks hnm hts hG hE hA hS hP hD hl hAe
  have hl : lv_has ls 2 [(0, .ref h0)] := hl
  have hown : s.vm.findClass RX3 = some m.cls := hown
  refine lv_aload_n hx hb dX3_strike_0 rfl (lv_at hl 0 rfl) ?_
  refine va_get (D := D) (ci := 3) (v := .ref h1) (C := RX3) (T := TX3) (N := 8) hx hb hts inX3 hown hG.1 hP 0 rfl rfl 0 (by decide) (hts _ kw425) (fun _ h9 => h9) rfl dX3_strike_1 ?_
  refine va_get (D := D) (ci := 8) (v := .int x11) (C := RX8) (T := TX8) (N := 18) hx hb hts inX8 hown hG.1 hP 1 rfl rfl 2 (by decide) (hts _ kw211) (fun _ h9 => h9) rfl dX3_strike_4 ?_
  refine lv_if_le (tgt := 64) hx hb dX3_strike_7 (by decide) (fun c_1 => ?_) (fun c_1 => ?_)
  · have fc_1 : x11.toInt ≤ (0 : Int) := i_le rfl (by decide) c_1
    have hP9 := hP.sub (ws' := [(h0, .inr (3, [.ref h1, .ref h2, .ref h3, .ref h4, .ref h5, .ref h6, .int x7, .int x8])), (h1, .inr (8, [.int x9, .int x10, .int x11, .ref h12, .ref h13, .ref h14, .ref h15, .ref h16, .ref h17, .ref h18, .ref h19, .ref h20, .ref h21, .int x22, .int x23, .int x24, .int x25, .int x26])), (h3, .inl (cI, 7, .inl f27))]) [0, 1, 2] rfl
    have hD9 := hD.sub (ws' := [(h0, .inr (3, [.ref h1, .ref h2, .ref h3, .ref h4, .ref h5, .ref h6, .int x7, .int x8])), (h1, .inr (8, [.int x9, .int x10, .int x11, .ref h12, .ref h13, .ref h14, .ref h15, .ref h16, .ref h17, .ref h18, .ref h19, .ref h20, .ref h21, .int x22, .int x23, .int x24, .int x25, .int x26])), (h3, .inl (cI, 7, .inl f27))]) [0, 1, 2] (by decide) rfl
    exact xr_v (rm := (rmL 2 0 0)) hx hb hr hlocks hAe hS hP9 hD9 (Nat.le_of_ble_eq_true rfl) (Nat.le_of_ble_eq_true rfl) dX3_strike_64 ⟨f27, rfl, rfl⟩
  · have fc_1 : (0 : Int) < x11.toInt := i_nle rfl (by decide) c_1
    refine lv_aload_n hx hb dX3_strike_10 rfl (lv_at hl 0 rfl) ?_
    refine va_get (D := D) (ci := 3) (v := .int x8) (C := RX3) (T := TX3) (N := 8) hx hb hts inX3 hown hG.1 hP 0 rfl rfl 7 (by decide) (hts _ kw443) (fun _ h9 => h9) rfl dX3_strike_11 ?_
    refine lv_bipush (v := 100) hx hb dX3_strike_14 (by decide +kernel) ?_
    refine lv_irem hx hb dX3_strike_16 (by decide +kernel) ?_
    refine lv_topi (fun v_2 ev_2 => ?_)
    have gv_2 : 0 ≤ v_2.toInt ∧ v_2.toInt < (100 : Int) := by rw [ev_2]; exact i32_rem rfl (by decide) (by omega) (by omega)
    refine lv_aload_n hx hb dX3_strike_17 rfl (lv_at hl 0 rfl) ?_
    refine va_get (D := D) (ci := 3) (v := .ref h1) (C := RX3) (T := TX3) (N := 8) hx hb hts inX3 hown hG.1 hP 0 rfl rfl 0 (by decide) (hts _ kw425) (fun _ h9 => h9) rfl dX3_strike_18 ?_
    refine va_get (D := D) (ci := 8) (v := .int x22) (C := RX8) (T := TX8) (N := 18) hx hb hts inX8 hown hG.1 hP 1 rfl rfl 13 (by decide) (hts _ kw248) (fun _ h9 => h9) rfl dX3_strike_21 ?_
    refine lv_icmp_ge (tgt := 64) hx hb dX3_strike_24 (by decide) (fun c_3 => ?_) (fun c_3 => ?_)
    · have fc_3 : x22.toInt ≤ v_2.toInt := i_le rfl rfl c_3
      have hP9 := hP.sub (ws' := [(h0, .inr (3, [.ref h1, .ref h2, .ref h3, .ref h4, .ref h5, .ref h6, .int x7, .int x8])), (h1, .inr (8, [.int x9, .int x10, .int x11, .ref h12, .ref h13, .ref h14, .ref h15, .ref h16, .ref h17, .ref h18, .ref h19, .ref h20, .ref h21, .int x22, .int x23, .int x24, .int x25, .int x26])), (h3, .inl (cI, 7, .inl f27))]) [0, 1, 2] rfl
      have hD9 := hD.sub (ws' := [(h0, .inr (3, [.ref h1, .ref h2, .ref h3, .ref h4, .ref h5, .ref h6, .int x7, .int x8])), (h1, .inr (8, [.int x9, .int x10, .int x11, .ref h12, .ref h13, .ref h14, .ref h15, .ref h16, .ref h17, .ref h18, .ref h19, .ref h20, .ref h21, .int x22, .int x23, .int x24, .int x25, .int x26])), (h3, .inl (cI, 7, .inl f27))]) [0, 1, 2] (by decide) rfl
      exact xr_v (rm := (rmL 2 0 0)) hx hb hr hlocks hAe hS hP9 hD9 (Nat.le_of_ble_eq_true rfl) (Nat.le_of_ble_eq_true rfl) dX3_strike_64 ⟨f27, rfl, rfl⟩
    · have fc_3 : v_2.toInt < x22.toInt := i_nle rfl rfl c_3
      refine lv_aload_n hx hb dX3_strike_27 rfl (lv_at hl 0 rfl) ?_
      refine va_get (D := D) (ci := 3) (v := .int x8) (C := RX3) (T := TX3) (N := 8) hx hb hts inX3 hown hG.1 hP 0 rfl rfl 7 (by decide) (hts _ kw443) (fun _ h9 => h9) rfl dX3_strike_28 ?_
      refine lv_aload_n hx hb dX3_strike_31 rfl (lv_at hl 0 rfl) ?_
      refine va_get (D := D) (ci := 3) (v := .ref h1) (C := RX3) (T := TX3) (N := 8) hx hb hts inX3 hown hG.1 hP 0 rfl rfl 0 (by decide) (hts _ kw425) (fun _ h9 => h9) rfl dX3_strike_32 ?_
      refine va_get (D := D) (ci := 8) (v := .int x11) (C := RX8) (T := TX8) (N := 18) hx hb hts inX8 hown hG.1 hP 1 rfl rfl 2 (by decide) (hts _ kw211) (fun _ h9 => h9) rfl dX3_strike_35 ?_
      refine lv_irem hx hb dX3_strike_38 (i_nz (by omega)) ?_
      refine lv_topi (fun v_4 ev_4 => ?_)
      have gv_4 : 0 ≤ v_4.toInt ∧ v_4.toInt < x11.toInt := by rw [ev_4]; exact i32_rem rfl rfl (by omega) (by omega)
      refine lv_istore_n (lv' := [(1, .int v_4), (0, .ref h0)]) hx hb dX3_strike_39 rfl hl (by decide) rfl (fun ls hl => ?_)
      refine lv_aload_n hx hb dX3_strike_40 rfl (lv_at hl 1 rfl) ?_
      refine va_get (D := D) (ci := 3) (v := .ref h3) (C := RX3) (T := TX3) (N := 8) hx hb hts inX3 hown hG.1 hP 0 rfl rfl 2 (by decide) (hts _ kw432) (fun _ h9 => h9) rfl dX3_strike_41 ?_
      refine lv_iload_n hx hb dX3_strike_44 rfl (lv_at hl 0 rfl) ?_
      refine lv_iconst (v := 0) hx hb dX3_strike_45 (by decide +kernel) ?_
      refine lv_aload_n hx hb dX3_strike_46 rfl (lv_at hl 1 rfl) ?_
      refine va_get (D := D) (ci := 3) (v := .ref h3) (C := RX3) (T := TX3) (N := 8) hx hb hts inX3 hown hG.1 hP 0 rfl rfl 2 (by decide) (hts _ kw432) (fun _ h9 => h9) rfl dX3_strike_47 ?_
      refine lv_iload_n hx hb dX3_strike_50 rfl (lv_at hl 0 rfl) ?_
      refine xa_ildU hx hb hG hP 2 rfl (vp_in_iff.mpr ⟨by omega, by omega⟩) dX3_strike_51 (fun v_5 => ?_)
      refine lv_aload_n hx hb dX3_strike_52 rfl (lv_at hl 1 rfl) ?_
      refine va_get (D := D) (ci := 3) (v := .ref h1) (C := RX3) (T := TX3) (N := 8) hx hb hts inX3 hown hG.1 hP 0 rfl rfl 0 (by decide) (hts _ kw425) (fun _ h9 => h9) rfl dX3_strike_53 ?_
      refine va_get (D := D) (ci := 8) (v := .int x23) (C := RX8) (T := TX8) (N := 18) hx hb hts inX8 hown hG.1 hP 1 rfl rfl 14 (by decide) (hts _ kw252) (fun _ h9 => h9) rfl dX3_strike_56 ?_
      refine lv_isub hx hb dX3_strike_59 ?_
      refine xt_any (fun v_6 => ?_)
      refine va_mmax hx hb (hml.trans hl.1.symm) hown (hts _ kw854) (hts _ kw683) (hts _ kw128) (hts _ kw684) (Nat.le_of_ble_eq_true rfl) (Nat.le_of_ble_eq_true rfl) (Nat.le_of_ble_eq_true rfl) (Nat.le_of_ble_eq_true rfl) dX3_strike_60 ?_
      refine lv_topi (fun v_7 ev_7 => ?_)
      have g_8 := i32_max (show (0 : Int32).toInt = 0 from by decide) rfl ev_7
      refine xa_istU hx hb hG hP hD hS 2 rfl (vp_in_iff.mpr ⟨by omega, by omega⟩) dX3_strike_63 (fun f_9 H locs hP hD hS => ?_)
      have hP : va_P D vwCl [(h0, .inr (3, [.ref h1, .ref h2, .ref h3, .ref h4, .ref h5, .ref h6, .int x7, .int x8])), (h1, .inr (8, [.int x9, .int x10, .int x11, .ref h12, .ref h13, .ref h14, .ref h15, .ref h16, .ref h17, .ref h18, .ref h19, .ref h20, .ref h21, .int x22, .int x23, .int x24, .int x25, .int x26])), (h3, .inl (cI, 7, .inl f_9))] H := hP
      have hD : va_D A [(h0, .inr (3, [.ref h1, .ref h2, .ref h3, .ref h4, .ref h5, .ref h6, .int x7, .int x8])), (h1, .inr (8, [.int x9, .int x10, .int x11, .ref h12, .ref h13, .ref h14, .ref h15, .ref h16, .ref h17, .ref h18, .ref h19, .ref h20, .ref h21, .int x22, .int x23, .int x24, .int x25, .int x26])), (h3, .inl (cI, 7, .inl f_9))] := hD
      have hP9 := hP.sub (ws' := [(h0, .inr (3, [.ref h1, .ref h2, .ref h3, .ref h4, .ref h5, .ref h6, .int x7, .int x8])), (h1, .inr (8, [.int x9, .int x10, .int x11, .ref h12, .ref h13, .ref h14, .ref h15, .ref h16, .ref h17, .ref h18, .ref h19, .ref h20, .ref h21, .int x22, .int x23, .int x24, .int x25, .int x26])), (h3, .inl (cI, 7, .inl f_9))]) [0, 1, 2] rfl
      have hD9 := hD.sub (ws' := [(h0, .inr (3, [.ref h1, .ref h2, .ref h3, .ref h4, .ref h5, .ref h6, .int x7, .int x8])), (h1, .inr (8, [.int x9, .int x10, .int x11, .ref h12, .ref h13, .ref h14, .ref h15, .ref h16, .ref h17, .ref h18, .ref h19, .ref h20, .ref h21, .int x22, .int x23, .int x24, .int x25, .int x26])), (h3, .inl (cI, 7, .inl f_9))]) [0, 1, 2] (by decide) rfl
      exact xr_v (rm := (rmL 2 0 0)) hx hb hr hlocks hAe hS hP9 hD9 (Nat.le_of_ble_eq_true rfl) (Nat.le_of_ble_eq_true rfl) dX3_strike_64 ⟨f_9, rfl, rfl⟩
theorem dX3_passYear_0 : decode cX3_passYear 0 = .ok (.iconst 0, 1) := by decide +kernel
theorem dX3_passYear_1 : decode cX3_passYear 1 = .ok (.istore_n 1, 1) := by decide +kernel
theorem dX3_passYear_2 : decode cX3_passYear 2 = .ok (.iconst 0, 1) := by decide +kernel
theorem dX3_passYear_3 : decode cX3_passYear 3 = .ok (.istore_n 2, 1) := by decide +kernel
theorem dX3_passYear_4 : decode cX3_passYear 4 = .ok (.iload_n 2, 1) := by decide +kernel
theorem dX3_passYear_5 : decode cX3_passYear 5 = .ok (.aload_n 0, 1) := by decide +kernel
theorem dX3_passYear_6 : decode cX3_passYear 6 = .ok (.getfield 33, 3) := by decide +kernel
theorem kw200 : (.fieldLink RX3 117 "SpiceSwaps$Told" "courts" "I" : Cond) ∈ gT := gT_of 200 (by decide +kernel) (by decide +kernel)
theorem dX3_passYear_9 : decode cX3_passYear 9 = .ok (.getfield 117, 3) := by decide +kernel
theorem dX3_passYear_12 : decode cX3_passYear 12 = .ok (.if_icmp .ge 29, 3) := by decide +kernel
theorem dX3_passYear_41 : decode cX3_passYear 41 = .ok (.iconst 0, 1) := by decide +kernel
theorem dX3_passYear_42 : decode cX3_passYear 42 = .ok (.istore_n 2, 1) := by decide +kernel
theorem dX3_passYear_43 : decode cX3_passYear 43 = .ok (.iload_n 2, 1) := by decide +kernel
theorem dX3_passYear_44 : decode cX3_passYear 44 = .ok (.aload_n 0, 1) := by decide +kernel
theorem dX3_passYear_45 : decode cX3_passYear 45 = .ok (.getfield 33, 3) := by decide +kernel
theorem dX3_passYear_48 : decode cX3_passYear 48 = .ok (.getfield 59, 3) := by decide +kernel
theorem dX3_passYear_51 : decode cX3_passYear 51 = .ok (.if_icmp .ge 42, 3) := by decide +kernel
theorem dX3_passYear_93 : decode cX3_passYear 93 = .ok (.aload_n 0, 1) := by decide +kernel
theorem dX3_passYear_94 : decode cX3_passYear 94 = .ok (.aload_n 0, 1) := by decide +kernel
theorem dX3_passYear_95 : decode cX3_passYear 95 = .ok (.getfield 56, 3) := by decide +kernel
theorem dX3_passYear_98 : decode cX3_passYear 98 = .ok (.sipush 137, 3) := by decide +kernel
theorem dX3_passYear_101 : decode cX3_passYear 101 = .ok (.imul, 1) := by decide +kernel
theorem dX3_passYear_102 : decode cX3_passYear 102 = .ok (.bipush 71, 2) := by decide +kernel
theorem dX3_passYear_104 : decode cX3_passYear 104 = .ok (.iadd, 1) := by decide +kernel
theorem dX3_passYear_105 : decode cX3_passYear 105 = .ok (.sipush 1000, 3) := by decide +kernel
theorem dX3_passYear_108 : decode cX3_passYear 108 = .ok (.irem, 1) := by decide +kernel
theorem dX3_passYear_109 : decode cX3_passYear 109 = .ok (.putfield 56, 3) := by decide +kernel
theorem dX3_passYear_112 : decode cX3_passYear 112 = .ok (.aload_n 0, 1) := by decide +kernel
theorem kw983 : (.methodLink RX3 126 yX3_strike : Cond) ∈ gT := gT_of 983 (by decide +kernel) (by decide +kernel)
theorem kw986 : (.code yX3_strike cX3_strike 2 none : Cond) ∈ gT := gT_of 986 (by decide +kernel) (by decide +kernel)
theorem kw985 : (.instanceMethod yX3_strike : Cond) ∈ gT := gT_of 985 (by decide +kernel) (by decide +kernel)
theorem kw27 : (.selects RX3 yX3_strike yX3_strike : Cond) ∈ gT := gT_of 27 (by decide +kernel) (by decide +kernel)
theorem dX3_passYear_113 : decode cX3_passYear 113 = .ok (.invokevirtual 126, 3) := by decide +kernel
theorem dX3_passYear_116 : decode cX3_passYear 116 = .ok (.aload_n 0, 1) := by decide +kernel
theorem dX3_passYear_117 : decode cX3_passYear 117 = .ok (.dup, 1) := by decide +kernel
theorem dX3_passYear_118 : decode cX3_passYear 118 = .ok (.getfield 49, 3) := by decide +kernel
theorem dX3_passYear_121 : decode cX3_passYear 121 = .ok (.iconst 1, 1) := by decide +kernel
theorem dX3_passYear_122 : decode cX3_passYear 122 = .ok (.iadd, 1) := by decide +kernel
theorem dX3_passYear_123 : decode cX3_passYear 123 = .ok (.putfield 49, 3) := by decide +kernel
theorem dX3_passYear_126 : decode cX3_passYear 126 = .ok (.iload_n 1, 1) := by decide +kernel
theorem dX3_passYear_127 : decode cX3_passYear 127 = .ok (.ireturn, 1) := by decide +kernel
theorem dX3_passYear_54 : decode cX3_passYear 54 = .ok (.bipush (-9), 2) := by decide +kernel
theorem dX3_passYear_56 : decode cX3_passYear 56 = .ok (.aload_n 0, 1) := by decide +kernel
theorem dX3_passYear_57 : decode cX3_passYear 57 = .ok (.iload_n 2, 1) := by decide +kernel
theorem kw979 : (.methodLink RX3 123 yX3_growthAt : Cond) ∈ gT := gT_of 979 (by decide +kernel) (by decide +kernel)
theorem kw982 : (.code yX3_growthAt cX3_growthAt 2 (some .int) : Cond) ∈ gT := gT_of 982 (by decide +kernel) (by decide +kernel)
theorem kw981 : (.instanceMethod yX3_growthAt : Cond) ∈ gT := gT_of 981 (by decide +kernel) (by decide +kernel)
theorem kw26 : (.selects RX3 yX3_growthAt yX3_growthAt : Cond) ∈ gT := gT_of 26 (by decide +kernel) (by decide +kernel)
theorem dX3_passYear_58 : decode cX3_passYear 58 = .ok (.invokevirtual 123, 3) := by decide +kernel
theorem dX3_passYear_61 : decode cX3_passYear 61 = .ok (.bipush 9, 2) := by decide +kernel
theorem dX3_passYear_63 : decode cX3_passYear 63 = .ok (.invokestatic 113, 3) := by decide +kernel
theorem dX3_passYear_66 : decode cX3_passYear 66 = .ok (.istore_n 3, 1) := by decide +kernel
theorem dX3_passYear_67 : decode cX3_passYear 67 = .ok (.aload_n 0, 1) := by decide +kernel
theorem dX3_passYear_68 : decode cX3_passYear 68 = .ok (.getfield 15, 3) := by decide +kernel
theorem dX3_passYear_71 : decode cX3_passYear 71 = .ok (.iload_n 2, 1) := by decide +kernel
theorem dX3_passYear_72 : decode cX3_passYear 72 = .ok (.iconst 0, 1) := by decide +kernel
theorem dX3_passYear_73 : decode cX3_passYear 73 = .ok (.aload_n 0, 1) := by decide +kernel
theorem dX3_passYear_74 : decode cX3_passYear 74 = .ok (.getfield 15, 3) := by decide +kernel
theorem dX3_passYear_77 : decode cX3_passYear 77 = .ok (.iload_n 2, 1) := by decide +kernel
theorem dX3_passYear_78 : decode cX3_passYear 78 = .ok (.iaload, 1) := by decide +kernel
theorem dX3_passYear_79 : decode cX3_passYear 79 = .ok (.iload_n 3, 1) := by decide +kernel
theorem dX3_passYear_80 : decode cX3_passYear 80 = .ok (.iadd, 1) := by decide +kernel
theorem dX3_passYear_81 : decode cX3_passYear 81 = .ok (.bipush 99, 2) := by decide +kernel
theorem dX3_passYear_83 : decode cX3_passYear 83 = .ok (.invokestatic 113, 3) := by decide +kernel
theorem dX3_passYear_86 : decode cX3_passYear 86 = .ok (.iastore, 1) := by decide +kernel
theorem dX3_passYear_87 : decode cX3_passYear 87 = .ok (.iinc 2 1, 3) := by decide +kernel
theorem dX3_passYear_90 : decode cX3_passYear 90 = .ok (.goto (-47), 3) := by decide +kernel
theorem dX3_passYear_15 : decode cX3_passYear 15 = .ok (.aload_n 0, 1) := by decide +kernel
theorem dX3_passYear_16 : decode cX3_passYear 16 = .ok (.iload_n 2, 1) := by decide +kernel
theorem kw978 : (.methodLink RX3 120 yX3_earnedBy : Cond) ∈ gT := gT_of 978 (by decide +kernel) (by decide +kernel)
theorem kw870 : (.code yX3_earnedBy cX3_earnedBy 4 (some .int) : Cond) ∈ gT := gT_of 870 (by decide +kernel) (by decide +kernel)
theorem kw868 : (.instanceMethod yX3_earnedBy : Cond) ∈ gT := gT_of 868 (by decide +kernel) (by decide +kernel)
theorem kw869 : (.selects RX3 yX3_earnedBy yX3_earnedBy : Cond) ∈ gT := gT_of 869 (by decide +kernel) (by decide +kernel)
theorem dX3_passYear_17 : decode cX3_passYear 17 = .ok (.invokevirtual 120, 3) := by decide +kernel
theorem dX3_passYear_20 : decode cX3_passYear 20 = .ok (.istore_n 3, 1) := by decide +kernel
theorem dX3_passYear_21 : decode cX3_passYear 21 = .ok (.aload_n 0, 1) := by decide +kernel
theorem kw438 : (.fieldLink RX3 21 "SpiceSwaps$Moment" "goldOf" "[I" : Cond) ∈ gT := gT_of 438 (by decide +kernel) (by decide +kernel)
theorem dX3_passYear_22 : decode cX3_passYear 22 = .ok (.getfield 21, 3) := by decide +kernel
theorem dX3_passYear_25 : decode cX3_passYear 25 = .ok (.iload_n 2, 1) := by decide +kernel
theorem dX3_passYear_26 : decode cX3_passYear 26 = .ok (.dup2, 1) := by decide +kernel
theorem dX3_passYear_27 : decode cX3_passYear 27 = .ok (.iaload, 1) := by decide +kernel
theorem dX3_passYear_28 : decode cX3_passYear 28 = .ok (.iload_n 3, 1) := by decide +kernel
theorem dX3_passYear_29 : decode cX3_passYear 29 = .ok (.iadd, 1) := by decide +kernel
theorem dX3_passYear_30 : decode cX3_passYear 30 = .ok (.iastore, 1) := by decide +kernel
theorem dX3_passYear_31 : decode cX3_passYear 31 = .ok (.iload_n 1, 1) := by decide +kernel
theorem dX3_passYear_32 : decode cX3_passYear 32 = .ok (.iload_n 3, 1) := by decide +kernel
theorem dX3_passYear_33 : decode cX3_passYear 33 = .ok (.iadd, 1) := by decide +kernel
theorem dX3_passYear_34 : decode cX3_passYear 34 = .ok (.istore_n 1, 1) := by decide +kernel
theorem dX3_passYear_35 : decode cX3_passYear 35 = .ok (.iinc 2 1, 3) := by decide +kernel
theorem dX3_passYear_38 : decode cX3_passYear 38 = .ok (.goto (-34), 3) := by decide +kernel
set_option maxHeartbeats 4000000 in
set_option maxRecDepth 100000 in
theorem sX3_passYear_1 (l : Launch) (D : va_G) (cB cI cJ cZ : ClassId) (aK aV : Nat → Nat) (h0 : Nat) (h1 : Nat) (h2 : Nat) (h3 : Nat) (h4 : Nat) (h5 : Nat) (h6 : Nat) (x7 : Int32) (x8 : Int32) (x9 : Int32) (x10 : Int32) (x11 : Int32) (h12 : Nat) (h13 : Nat) (h14 : Nat) (h15 : Nat) (h16 : Nat) (h17 : Nat) (h18 : Nat) (h19 : Nat) (h20 : Nat) (h21 : Nat) (x22 : Int32) (x23 : Int32) (x24 : Int32) (x25 : Int32) (x26 : Int32) (f27 : Nat → Int32) (f28 : Nat → Int32) (f29 : Nat → Int32) (f30 : Nat → Int32) (f31 : Nat → Int32) (f32 : Nat → Int32) (h33 : Nat) (h34 : Nat) (x35 : Int32) (x36 : Int32) (x37 : Int32) (f38 : Nat → Int32) (f39 : Nat → Int32) (f40 : Nat → Int32) (f41 : Nat → Int32) (gh0 : 0 ≤ x8.toInt) (gh1 : 0 ≤ -x8.toInt + 999) (gh2 : 0 ≤ x9.toInt) (gh3 : 0 ≤ -x9.toInt + 4) (gh4 : 0 ≤ x10.toInt) (gh5 : 0 ≤ -x10.toInt + 3) (gh6 : 0 ≤ x11.toInt) (gh7 : 0 ≤ -x11.toInt + 7) (gh8 : 0 ≤ x25.toInt + 1) (gh9 : 0 ≤ -x25.toInt + 999) (gh10 : 0 ≤ x35.toInt) (gh11 : 0 ≤ -x35.toInt + 272) (ga0 : AR f27 (0) (3) (x11.toInt)) : MX l yX3_passYear cX3_passYear 4 (some .int) (rmL 5 0 0) D cB cI cJ cZ aK aV [.ref h0] [(h0, .inr (3, [.ref h1, .ref h2, .ref h3, .ref h4, .ref h5, .ref h6, .int x7, .int x8])), (h1, .inr (8, [.int x9, .int x10, .int x11, .ref h12, .ref h13, .ref h14, .ref h15, .ref h16, .ref h17, .ref h18, .ref h19, .ref h20, .ref h21, .int x22, .int x23, .int x24, .int x25, .int x26])), (h2, .inl (cI, 7, .inl f27)), (h3, .inl (cI, 7, .inl f28)), (h4, .inl (cI, 7, .inl f29)), (h18, .inl (cI, 7, .inl f30)), (h13, .inl (cI, 3, .inl f31)), (h5, .inl (cI, 4, .inl f32)), (h21, .inr (1, [.ref h33, .ref h34, .int x35, .int x36, .int x37])), (h6, .inl (cI, 7, .inl f38)), (h17, .inl (cI, 7, .inl f39)), (h33, .inl (cI, 272, .inl f40)), (h34, .inl (cI, 30, .inl f41))] (fun r w1 => ∃ z1 : Int32, ∃ z2 : Int32, ∃ z3 : Nat → Int32, ∃ z4 : Nat → Int32, ∃ z5 : Nat → Int32, ∃ z6 : Nat → Int32, ∃ z7 : Int32, 0 ≤ z2.toInt ∧ 0 ≤ -z2.toInt + 999 ∧ r = some (.int z7) ∧ w1 = [(h0, .inr (3, [.ref h1, .ref h2, .ref h3, .ref h4, .ref h5, .ref h6, .int z1, .int z2])), (h1, .inr (8, [.int x9, .int x10, .int x11, .ref h12, .ref h13, .ref h14, .ref h15, .ref h16, .ref h17, .ref h18, .ref h19, .ref h20, .ref h21, .int x22, .int x23, .int x24, .int x25, .int x26])), (h2, .inl (cI, 7, .inl f27)), (h3, .inl (cI, 7, .inl z3)), (h4, .inl (cI, 7, .inl f29)), (h18, .inl (cI, 7, .inl f30)), (h13, .inl (cI, 3, .inl f31)), (h5, .inl (cI, 4, .inl z4)), (h21, .inr (1, [.ref h33, .ref h34, .int x35, .int x36, .int x37])), (h6, .inl (cI, 7, .inl z5)), (h17, .inl (cI, 7, .inl f39)), (h33, .inl (cI, 272, .inl f40)), (h34, .inl (cI, 30, .inl z6))]) := by
  refine MX.intro (by decide) (Nat.le_of_ble_eq_true rfl) ?_
  intro p e s m below meth c A ls hx hb hr hml hown hlocks hnm hts hG hE hA hS hP hD hl hAe
  have hl : lv_has ls 4 [(0, .ref h0)] := hl
  have hown : s.vm.findClass RX3 = some m.cls := hown
  refine lv_iconst (v := 0) hx hb dX3_passYear_0 (by decide +kernel) ?_
  refine lv_istore_n (lv' := [(1, .int 0), (0, .ref h0)]) hx hb dX3_passYear_1 rfl hl (by decide) rfl (fun ls hl => ?_)
  refine lv_iconst (v := 0) hx hb dX3_passYear_2 (by decide +kernel) ?_
  refine lv_istore_n (lv' := [(2, .int 0), (1, .int 0), (0, .ref h0)]) hx hb dX3_passYear_3 rfl hl (by decide) rfl (fun ls hl => ?_)
  have lp_7 : ∀ (n : Nat) (x_4 x_5 : Int32) (f_6 : Nat → Int32) (H : Heap) (locs : List Loc) (ls : Array Slot), 0 ≤ x_5.toInt → 0 ≤ x9.toInt - x_5.toInt → -x_5.toInt + 4 < n → va_P D vwCl [(h0, .inr (3, [.ref h1, .ref h2, .ref h3, .ref h4, .ref h5, .ref h6, .int x7, .int x8])), (h1, .inr (8, [.int x9, .int x10, .int x11, .ref h12, .ref h13, .ref h14, .ref h15, .ref h16, .ref h17, .ref h18, .ref h19, .ref h20, .ref h21, .int x22, .int x23, .int x24, .int x25, .int x26])), (h2, .inl (cI, 7, .inl f27)), (h3, .inl (cI, 7, .inl f28)), (h4, .inl (cI, 7, .inl f29)), (h18, .inl (cI, 7, .inl f30)), (h13, .inl (cI, 3, .inl f31)), (h5, .inl (cI, 4, .inl f_6)), (h21, .inr (1, [.ref h33, .ref h34, .int x35, .int x36, .int x37])), (h6, .inl (cI, 7, .inl f38)), (h17, .inl (cI, 7, .inl f39)), (h33, .inl (cI, 272, .inl f40)), (h34, .inl (cI, 30, .inl f41))] H → va_D A [(h0, .inr (3, [.ref h1, .ref h2, .ref h3, .ref h4, .ref h5, .ref h6, .int x7, .int x8])), (h1, .inr (8, [.int x9, .int x10, .int x11, .ref h12, .ref h13, .ref h14, .ref h15, .ref h16, .ref h17, .ref h18, .ref h19, .ref h20, .ref h21, .int x22, .int x23, .int x24, .int x25, .int x26])), (h2, .inl (cI, 7, .inl f27)), (h3, .inl (cI, 7, .inl f28)), (h4, .inl (cI, 7, .inl f29)), (h18, .inl (cI, 7, .inl f30)), (h13, .inl (cI, 3, .inl f31)), (h5, .inl (cI, 4, .inl f_6)), (h21, .inr (1, [.ref h33, .ref h34, .int x35, .int x36, .int x37])), (h6, .inl (cI, 7, .inl f38)), (h17, .inl (cI, 7, .inl f39)), (h33, .inl (cI, 272, .inl f40)), (h34, .inl (cI, 30, .inl f41))] → va_S A s.heap H locs → lv_has ls 4 [(2, .int x_5), (1, .int x_4), (0, .ref h0)] → W p l e (rmL 5 0 0) s m [.ref h0].toArray below meth c H locs 0 0 (ZX D below [.ref h0] s (rmL 5 0 0) [(h0, .inr (3, [.ref h1, .ref h2, .ref h3, .ref h4, .ref h5, .ref h6, .int x7, .int x8])), (h1, .inr (8, [.int x9, .int x10, .int x11, .ref h12, .ref h13, .ref h14, .ref h15, .ref h16, .ref h17, .ref h18, .ref h19, .ref h20, .ref h21, .int x22, .int x23, .int x24, .int x25, .int x26])), (h2, .inl (cI, 7, .inl f27)), (h3, .inl (cI, 7, .inl f28)), (h4, .inl (cI, 7, .inl f29)), (h18, .inl (cI, 7, .inl f30)), (h13, .inl (cI, 3, .inl f31)), (h5, .inl (cI, 4, .inl f32)), (h21, .inr (1, [.ref h33, .ref h34, .int x35, .int x36, .int x37])), (h6, .inl (cI, 7, .inl f38)), (h17, .inl (cI, 7, .inl f39)), (h33, .inl (cI, 272, .inl f40)), (h34, .inl (cI, 30, .inl f41))] (fun r w1 => ∃ z1 : Int32, ∃ z2 : Int32, ∃ z3 : Nat → Int32, ∃ z4 : Nat → Int32, ∃ z5 : Nat → Int32, ∃ z6 : Nat → Int32, ∃ z7 : Int32, 0 ≤ z2.toInt ∧ 0 ≤ -z2.toInt + 999 ∧ r = some (.int z7) ∧ w1 = [(h0, .inr (3, [.ref h1, .ref h2, .ref h3, .ref h4, .ref h5, .ref h6, .int z1, .int z2])), (h1, .inr (8, [.int x9, .int x10, .int x11, .ref h12, .ref h13, .ref h14, .ref h15, .ref h16, .ref h17, .ref h18, .ref h19, .ref h20, .ref h21, .int x22, .int x23, .int x24, .int x25, .int x26])), (h2, .inl (cI, 7, .inl f27)), (h3, .inl (cI, 7, .inl z3)), (h4, .inl (cI, 7, .inl f29)), (h18, .inl (cI, 7, .inl f30)), (h13, .inl (cI, 3, .inl f31)), (h5, .inl (cI, 4, .inl z4)), (h21, .inr (1, [.ref h33, .ref h34, .int x35, .int x36, .int x37])), (h6, .inl (cI, 7, .inl z5)), (h17, .inl (cI, 7, .inl f39)), (h33, .inl (cI, 272, .inl f40)), (h34, .inl (cI, 30, .inl z6))])) (F0 m 4 ls []) := by
    intro n
    induction n with
    | zero => intro x_4 x_5 f_6 H locs ls g_8 g_9 g_10; omega
    | succ n ihlp_7 =>
      intro x_4 x_5 f_6 H locs ls g_8 g_9 g_10 hP hD hS hl
      refine lv_iload_n hx hb dX3_passYear_4 rfl (lv_at hl 0 rfl) ?_
      refine lv_aload_n hx hb dX3_passYear_5 rfl (lv_at hl 2 rfl) ?_
      refine va_get (D := D) (ci := 3) (v := .ref h1) (C := RX3) (T := TX3) (N := 8) hx hb hts inX3 hown hG.1 hP 0 rfl rfl 0 (by decide) (hts _ kw425) (fun _ h9 => h9) rfl dX3_passYear_6 ?_
      refine va_get (D := D) (ci := 8) (v := .int x9) (C := RX8) (T := TX8) (N := 18) hx hb hts inX8 hown hG.1 hP 1 rfl rfl 0 (by decide) (hts _ kw200) (fun _ h9 => h9) rfl dX3_passYear_9 ?_
      refine lv_icmp_ge (tgt := 41) hx hb dX3_passYear_12 (by decide) (fun c_11 => ?_) (fun c_11 => ?_)
      · have fc_11 : x9.toInt ≤ x_5.toInt := i_le rfl rfl c_11
        refine lv_iconst (v := 0) hx hb dX3_passYear_41 (by decide +kernel) ?_
        refine lv_istore_n (lv' := [(2, .int 0), (1, .int x_4), (0, .ref h0)]) hx hb dX3_passYear_42 rfl hl (by decide) rfl (fun ls hl => ?_)
        have lp_20 : ∀ (n : Nat) (x_16 : Int32) (f_17 : Nat → Int32) (f_18 : Nat → Int32) (f_19 : Nat → Int32) (H : Heap) (locs : List Loc) (ls : Array Slot), 0 ≤ x_16.toInt → 0 ≤ x11.toInt - x_16.toInt → -x_16.toInt + 7 < n → va_P D vwCl [(h0, .inr (3, [.ref h1, .ref h2, .ref h3, .ref h4, .ref h5, .ref h6, .int x7, .int x8])), (h1, .inr (8, [.int x9, .int x10, .int x11, .ref h12, .ref h13, .ref h14, .ref h15, .ref h16, .ref h17, .ref h18, .ref h19, .ref h20, .ref h21, .int x22, .int x23, .int x24, .int x25, .int x26])), (h2, .inl (cI, 7, .inl f27)), (h3, .inl (cI, 7, .inl f_17)), (h4, .inl (cI, 7, .inl f29)), (h18, .inl (cI, 7, .inl f30)), (h13, .inl (cI, 3, .inl f31)), (h5, .inl (cI, 4, .inl f_6)), (h21, .inr (1, [.ref h33, .ref h34, .int x35, .int x36, .int x37])), (h6, .inl (cI, 7, .inl f_19)), (h17, .inl (cI, 7, .inl f39)), (h33, .inl (cI, 272, .inl f40)), (h34, .inl (cI, 30, .inl f_18))] H → va_D A [(h0, .inr (3, [.ref h1, .ref h2, .ref h3, .ref h4, .ref h5, .ref h6, .int x7, .int x8])), (h1, .inr (8, [.int x9, .int x10, .int x11, .ref h12, .ref h13, .ref h14, .ref h15, .ref h16, .ref h17, .ref h18, .ref h19, .ref h20, .ref h21, .int x22, .int x23, .int x24, .int x25, .int x26])), (h2, .inl (cI, 7, .inl f27)), (h3, .inl (cI, 7, .inl f_17)), (h4, .inl (cI, 7, .inl f29)), (h18, .inl (cI, 7, .inl f30)), (h13, .inl (cI, 3, .inl f31)), (h5, .inl (cI, 4, .inl f_6)), (h21, .inr (1, [.ref h33, .ref h34, .int x35, .int x36, .int x37])), (h6, .inl (cI, 7, .inl f_19)), (h17, .inl (cI, 7, .inl f39)), (h33, .inl (cI, 272, .inl f40)), (h34, .inl (cI, 30, .inl f_18))] → va_S A s.heap H locs → lv_has ls 4 [(2, .int x_16), (1, .int x_4), (0, .ref h0)] → W p l e (rmL 5 0 0) s m [.ref h0].toArray below meth c H locs 0 0 (ZX D below [.ref h0] s (rmL 5 0 0) [(h0, .inr (3, [.ref h1, .ref h2, .ref h3, .ref h4, .ref h5, .ref h6, .int x7, .int x8])), (h1, .inr (8, [.int x9, .int x10, .int x11, .ref h12, .ref h13, .ref h14, .ref h15, .ref h16, .ref h17, .ref h18, .ref h19, .ref h20, .ref h21, .int x22, .int x23, .int x24, .int x25, .int x26])), (h2, .inl (cI, 7, .inl f27)), (h3, .inl (cI, 7, .inl f28)), (h4, .inl (cI, 7, .inl f29)), (h18, .inl (cI, 7, .inl f30)), (h13, .inl (cI, 3, .inl f31)), (h5, .inl (cI, 4, .inl f32)), (h21, .inr (1, [.ref h33, .ref h34, .int x35, .int x36, .int x37])), (h6, .inl (cI, 7, .inl f38)), (h17, .inl (cI, 7, .inl f39)), (h33, .inl (cI, 272, .inl f40)), (h34, .inl (cI, 30, .inl f41))] (fun r w1 => ∃ z1 : Int32, ∃ z2 : Int32, ∃ z3 : Nat → Int32, ∃ z4 : Nat → Int32, ∃ z5 : Nat → Int32, ∃ z6 : Nat → Int32, ∃ z7 : Int32, 0 ≤ z2.toInt ∧ 0 ≤ -z2.toInt + 999 ∧ r = some (.int z7) ∧ w1 = [(h0, .inr (3, [.ref h1, .ref h2, .ref h3, .ref h4, .ref h5, .ref h6, .int z1, .int z2])), (h1, .inr (8, [.int x9, .int x10, .int x11, .ref h12, .ref h13, .ref h14, .ref h15, .ref h16, .ref h17, .ref h18, .ref h19, .ref h20, .ref h21, .int x22, .int x23, .int x24, .int x25, .int x26])), (h2, .inl (cI, 7, .inl f27)), (h3, .inl (cI, 7, .inl z3)), (h4, .inl (cI, 7, .inl f29)), (h18, .inl (cI, 7, .inl f30)), (h13, .inl (cI, 3, .inl f31)), (h5, .inl (cI, 4, .inl z4)), (h21, .inr (1, [.ref h33, .ref h34, .int x35, .int x36, .int x37])), (h6, .inl (cI, 7, .inl z5)), (h17, .inl (cI, 7, .inl f39)), (h33, .inl (cI, 272, .inl f40)), (h34, .inl (cI, 30, .inl z6))])) (F0 m 43 ls []) := by
          intro n
          induction n with
          | zero => intro x_16 f_17 f_18 f_19 H locs ls g_21 g_22 g_23; omega
          | succ n ihlp_20 =>
            intro x_16 f_17 f_18 f_19 H locs ls g_21 g_22 g_23 hP hD hS hl
            refine lv_iload_n hx hb dX3_passYear_43 rfl (lv_at hl 0 rfl) ?_
            refine lv_aload_n hx hb dX3_passYear_44 rfl (lv_at hl 2 rfl) ?_
            refine va_get (D := D) (ci := 3) (v := .ref h1) (C := RX3) (T := TX3) (N := 8) hx hb hts inX3 hown hG.1 hP 0 rfl rfl 0 (by decide) (hts _ kw425) (fun _ h9 => h9) rfl dX3_passYear_45 ?_
            refine va_get (D := D) (ci := 8) (v := .int x11) (C := RX8) (T := TX8) (N := 18) hx hb hts inX8 hown hG.1 hP 1 rfl rfl 2 (by decide) (hts _ kw211) (fun _ h9 => h9) rfl dX3_passYear_48 ?_
            refine lv_icmp_ge (tgt := 93) hx hb dX3_passYear_51 (by decide) (fun c_24 => ?_) (fun c_24 => ?_)
            · have fc_24 : x11.toInt ≤ x_16.toInt := i_le rfl rfl c_24
              refine lv_aload_n hx hb dX3_passYear_93 rfl (lv_at hl 2 rfl) ?_
              refine lv_aload_n hx hb dX3_passYear_94 rfl (lv_at hl 2 rfl) ?_
              refine va_get (D := D) (ci := 3) (v := .int x8) (C := RX3) (T := TX3) (N := 8) hx hb hts inX3 hown hG.1 hP 0 rfl rfl 7 (by decide) (hts _ kw443) (fun _ h9 => h9) rfl dX3_passYear_95 ?_
              refine lv_sipush (v := 137) hx hb dX3_passYear_98 (by decide +kernel) ?_
              refine lv_imul hx hb dX3_passYear_101 ?_
              refine lv_topi (fun v_25 ev_25 => ?_)
              have gv_25 : v_25.toInt = x8.toInt * (137 : Int) := by
                have zx : (x8 : Int32).toInt = x8.toInt := rfl
                have zy : (137 : Int32).toInt = (137 : Int) := (by decide)
                rw [ev_25, i32_mul (by rw [zx, zy]; omega) (by rw [zx, zy]; omega), zx, zy]
              refine lv_bipush (v := 71) hx hb dX3_passYear_102 (by decide +kernel) ?_
              refine lv_iadd hx hb dX3_passYear_104 ?_
              refine lv_topi (fun v_26 ev_26 => ?_)
              have gv_26 : v_26.toInt = v_25.toInt + (71 : Int) := by
                have zx : (v_25 : Int32).toInt = v_25.toInt := rfl
                have zy : (71 : Int32).toInt = (71 : Int) := (by decide)
                rw [ev_26, i32_add (by rw [zx, zy]; omega) (by rw [zx, zy]; omega), zx, zy]
              refine lv_sipush (v := 1000) hx hb dX3_passYear_105 (by decide +kernel) ?_
              refine lv_irem hx hb dX3_passYear_108 (by decide +kernel) ?_
              refine lv_topi (fun v_27 ev_27 => ?_)
              have gv_27 : 0 ≤ v_27.toInt ∧ v_27.toInt < (1000 : Int) := by rw [ev_27]; exact i32_rem rfl (by decide) (by omega) (by omega)
              refine va_put (D := D) (ci := 3) (v := .int v_27) (ty := .int) (C := RX3) (T := TX3) (N := 8) hx hb hts inX3 tyX3 tyX3_ok nmX3 hown hG.1 hP hD hS 0 rfl rfl 7 (by decide) (hts _ kw443) (fun _ h9 => h9) rfl (by decide +kernel) rfl rfl (Nat.le_of_ble_eq_true rfl) dX3_passYear_109 (fun H locs hP hD hS => ?_)
              have hP : va_P D vwCl [(h0, .inr (3, [.ref h1, .ref h2, .ref h3, .ref h4, .ref h5, .ref h6, .int x7, .int v_27])), (h1, .inr (8, [.int x9, .int x10, .int x11, .ref h12, .ref h13, .ref h14, .ref h15, .ref h16, .ref h17, .ref h18, .ref h19, .ref h20, .ref h21, .int x22, .int x23, .int x24, .int x25, .int x26])), (h2, .inl (cI, 7, .inl f27)), (h3, .inl (cI, 7, .inl f_17)), (h4, .inl (cI, 7, .inl f29)), (h18, .inl (cI, 7, .inl f30)), (h13, .inl (cI, 3, .inl f31)), (h5, .inl (cI, 4, .inl f_6)), (h21, .inr (1, [.ref h33, .ref h34, .int x35, .int x36, .int x37])), (h6, .inl (cI, 7, .inl f_19)), (h17, .inl (cI, 7, .inl f39)), (h33, .inl (cI, 272, .inl f40)), (h34, .inl (cI, 30, .inl f_18))] H := hP
              have hD : va_D A [(h0, .inr (3, [.ref h1, .ref h2, .ref h3, .ref h4, .ref h5, .ref h6, .int x7, .int v_27])), (h1, .inr (8, [.int x9, .int x10, .int x11, .ref h12, .ref h13, .ref h14, .ref h15, .ref h16, .ref h17, .ref h18, .ref h19, .ref h20, .ref h21, .int x22, .int x23, .int x24, .int x25, .int x26])), (h2, .inl (cI, 7, .inl f27)), (h3, .inl (cI, 7, .inl f_17)), (h4, .inl (cI, 7, .inl f29)), (h18, .inl (cI, 7, .inl f30)), (h13, .inl (cI, 3, .inl f31)), (h5, .inl (cI, 4, .inl f_6)), (h21, .inr (1, [.ref h33, .ref h34, .int x35, .int x36, .int x37])), (h6, .inl (cI, 7, .inl f_19)), (h17, .inl (cI, 7, .inl f39)), (h33, .inl (cI, 272, .inl f40)), (h34, .inl (cI, 30, .inl f_18))] := hD
              refine lv_aload_n hx hb dX3_passYear_112 rfl (lv_at hl 2 rfl) ?_
              refine xc_core (wr := [(h2, .inl (cI, 7, .inl f27)), (h4, .inl (cI, 7, .inl f29)), (h18, .inl (cI, 7, .inl f30)), (h13, .inl (cI, 3, .inl f31)), (h5, .inl (cI, 4, .inl f_6)), (h21, .inr (1, [.ref h33, .ref h34, .int x35, .int x36, .int x37])), (h6, .inl (cI, 7, .inl f_19)), (h17, .inl (cI, 7, .inl f39)), (h33, .inl (cI, 272, .inl f40)), (h34, .inl (cI, 30, .inl f_18))]) (k := 0) (n := 0) (xc_runV (As := []) (rest := []) hx hb hml hown hts hG hE hP hD hS hA [0, 1, 3] (by decide) rfl (sX3_strike_1 l D cB cI cJ cZ aK aV h0 h1 h2 h3 h4 h5 h6 x7 v_27 x9 x10 x11 h12 h13 h14 h15 h16 h17 h18 h19 h20 h21 x22 x23 x24 x25 x26 f_17 (by omega) (by omega) (by omega) (by omega) (by omega) (by omega) (by omega) (by omega) (by omega) (by omega)) kw986 kw983 kw985 kw27 kw121 (show XD yX3_strike 0 from by decide +kernel) (by decide) rfl rfl 0 rfl hl.1 rfl (Nat.le_of_ble_eq_true rfl) dX3_passYear_113 (by decide)) hP hD hS hA [0, 1, 3] [2, 4, 5, 6, 7, 8, 9, 10, 11, 12] rfl rfl (by decide) (by decide) (Nat.le_of_ble_eq_true rfl) (Nat.le_of_ble_eq_true rfl) (fun r w1 H locs hpost hP hD hS => ?_)
              obtain ⟨f_28, rfl, rfl⟩ := hpost
              have hP : va_P D vwCl [(h2, .inl (cI, 7, .inl f27)), (h4, .inl (cI, 7, .inl f29)), (h18, .inl (cI, 7, .inl f30)), (h13, .inl (cI, 3, .inl f31)), (h5, .inl (cI, 4, .inl f_6)), (h21, .inr (1, [.ref h33, .ref h34, .int x35, .int x36, .int x37])), (h6, .inl (cI, 7, .inl f_19)), (h17, .inl (cI, 7, .inl f39)), (h33, .inl (cI, 272, .inl f40)), (h34, .inl (cI, 30, .inl f_18)), (h0, .inr (3, [.ref h1, .ref h2, .ref h3, .ref h4, .ref h5, .ref h6, .int x7, .int v_27])), (h1, .inr (8, [.int x9, .int x10, .int x11, .ref h12, .ref h13, .ref h14, .ref h15, .ref h16, .ref h17, .ref h18, .ref h19, .ref h20, .ref h21, .int x22, .int x23, .int x24, .int x25, .int x26])), (h3, .inl (cI, 7, .inl f_28))] H := hP
              have hD : va_D A [(h2, .inl (cI, 7, .inl f27)), (h4, .inl (cI, 7, .inl f29)), (h18, .inl (cI, 7, .inl f30)), (h13, .inl (cI, 3, .inl f31)), (h5, .inl (cI, 4, .inl f_6)), (h21, .inr (1, [.ref h33, .ref h34, .int x35, .int x36, .int x37])), (h6, .inl (cI, 7, .inl f_19)), (h17, .inl (cI, 7, .inl f39)), (h33, .inl (cI, 272, .inl f40)), (h34, .inl (cI, 30, .inl f_18)), (h0, .inr (3, [.ref h1, .ref h2, .ref h3, .ref h4, .ref h5, .ref h6, .int x7, .int v_27])), (h1, .inr (8, [.int x9, .int x10, .int x11, .ref h12, .ref h13, .ref h14, .ref h15, .ref h16, .ref h17, .ref h18, .ref h19, .ref h20, .ref h21, .int x22, .int x23, .int x24, .int x25, .int x26])), (h3, .inl (cI, 7, .inl f_28))] := hD
              refine lv_aload_n hx hb dX3_passYear_116 rfl (lv_at hl 2 rfl) ?_
              refine lv_dup hx hb dX3_passYear_117 rfl ?_
              refine va_get (D := D) (ci := 3) (v := .int x7) (C := RX3) (T := TX3) (N := 8) hx hb hts inX3 hown hG.1 hP 10 rfl rfl 6 (by decide) (hts _ kw441) (fun _ h9 => h9) rfl dX3_passYear_118 ?_
              refine lv_iconst (v := 1) hx hb dX3_passYear_121 (by decide +kernel) ?_
              refine lv_iadd hx hb dX3_passYear_122 ?_
              refine xt_any (fun v_29 => ?_)
              refine va_put (D := D) (ci := 3) (v := .int v_29) (ty := .int) (C := RX3) (T := TX3) (N := 8) hx hb hts inX3 tyX3 tyX3_ok nmX3 hown hG.1 hP hD hS 10 rfl rfl 6 (by decide) (hts _ kw441) (fun _ h9 => h9) rfl (by decide +kernel) rfl rfl (Nat.le_of_ble_eq_true rfl) dX3_passYear_123 (fun H locs hP hD hS => ?_)
              have hP : va_P D vwCl [(h2, .inl (cI, 7, .inl f27)), (h4, .inl (cI, 7, .inl f29)), (h18, .inl (cI, 7, .inl f30)), (h13, .inl (cI, 3, .inl f31)), (h5, .inl (cI, 4, .inl f_6)), (h21, .inr (1, [.ref h33, .ref h34, .int x35, .int x36, .int x37])), (h6, .inl (cI, 7, .inl f_19)), (h17, .inl (cI, 7, .inl f39)), (h33, .inl (cI, 272, .inl f40)), (h34, .inl (cI, 30, .inl f_18)), (h0, .inr (3, [.ref h1, .ref h2, .ref h3, .ref h4, .ref h5, .ref h6, .int v_29, .int v_27])), (h1, .inr (8, [.int x9, .int x10, .int x11, .ref h12, .ref h13, .ref h14, .ref h15, .ref h16, .ref h17, .ref h18, .ref h19, .ref h20, .ref h21, .int x22, .int x23, .int x24, .int x25, .int x26])), (h3, .inl (cI, 7, .inl f_28))] H := hP
              have hD : va_D A [(h2, .inl (cI, 7, .inl f27)), (h4, .inl (cI, 7, .inl f29)), (h18, .inl (cI, 7, .inl f30)), (h13, .inl (cI, 3, .inl f31)), (h5, .inl (cI, 4, .inl f_6)), (h21, .inr (1, [.ref h33, .ref h34, .int x35, .int x36, .int x37])), (h6, .inl (cI, 7, .inl f_19)), (h17, .inl (cI, 7, .inl f39)), (h33, .inl (cI, 272, .inl f40)), (h34, .inl (cI, 30, .inl f_18)), (h0, .inr (3, [.ref h1, .ref h2, .ref h3, .ref h4, .ref h5, .ref h6, .int v_29, .int v_27])), (h1, .inr (8, [.int x9, .int x10, .int x11, .ref h12, .ref h13, .ref h14, .ref h15, .ref h16, .ref h17, .ref h18, .ref h19, .ref h20, .ref h21, .int x22, .int x23, .int x24, .int x25, .int x26])), (h3, .inl (cI, 7, .inl f_28))] := hD
              refine lv_iload_n hx hb dX3_passYear_126 rfl (lv_at hl 1 rfl) ?_
              have hP9 := hP.sub (ws' := [(h0, .inr (3, [.ref h1, .ref h2, .ref h3, .ref h4, .ref h5, .ref h6, .int v_29, .int v_27])), (h1, .inr (8, [.int x9, .int x10, .int x11, .ref h12, .ref h13, .ref h14, .ref h15, .ref h16, .ref h17, .ref h18, .ref h19, .ref h20, .ref h21, .int x22, .int x23, .int x24, .int x25, .int x26])), (h2, .inl (cI, 7, .inl f27)), (h3, .inl (cI, 7, .inl f_28)), (h4, .inl (cI, 7, .inl f29)), (h18, .inl (cI, 7, .inl f30)), (h13, .inl (cI, 3, .inl f31)), (h5, .inl (cI, 4, .inl f_6)), (h21, .inr (1, [.ref h33, .ref h34, .int x35, .int x36, .int x37])), (h6, .inl (cI, 7, .inl f_19)), (h17, .inl (cI, 7, .inl f39)), (h33, .inl (cI, 272, .inl f40)), (h34, .inl (cI, 30, .inl f_18))]) [10, 11, 0, 12, 1, 2, 3, 4, 5, 6, 7, 8, 9] rfl
              have hD9 := hD.sub (ws' := [(h0, .inr (3, [.ref h1, .ref h2, .ref h3, .ref h4, .ref h5, .ref h6, .int v_29, .int v_27])), (h1, .inr (8, [.int x9, .int x10, .int x11, .ref h12, .ref h13, .ref h14, .ref h15, .ref h16, .ref h17, .ref h18, .ref h19, .ref h20, .ref h21, .int x22, .int x23, .int x24, .int x25, .int x26])), (h2, .inl (cI, 7, .inl f27)), (h3, .inl (cI, 7, .inl f_28)), (h4, .inl (cI, 7, .inl f29)), (h18, .inl (cI, 7, .inl f30)), (h13, .inl (cI, 3, .inl f31)), (h5, .inl (cI, 4, .inl f_6)), (h21, .inr (1, [.ref h33, .ref h34, .int x35, .int x36, .int x37])), (h6, .inl (cI, 7, .inl f_19)), (h17, .inl (cI, 7, .inl f39)), (h33, .inl (cI, 272, .inl f40)), (h34, .inl (cI, 30, .inl f_18))]) [10, 11, 0, 12, 1, 2, 3, 4, 5, 6, 7, 8, 9] (by decide) rfl
              exact xr_i (rm := (rmL 5 0 0)) hx hb hr hlocks hAe hS hP9 hD9 rfl (Nat.le_of_ble_eq_true rfl) (Nat.le_of_ble_eq_true rfl) dX3_passYear_127 ⟨v_29, v_27, f_28, f_6, f_19, f_18, x_4, by omega, by omega, rfl, rfl⟩
            · have fc_24 : x_16.toInt < x11.toInt := i_nle rfl rfl c_24
              refine lv_bipush (v := (-9)) hx hb dX3_passYear_54 (by decide +kernel) ?_
              refine lv_aload_n hx hb dX3_passYear_56 rfl (lv_at hl 2 rfl) ?_
              refine lv_iload_n hx hb dX3_passYear_57 rfl (lv_at hl 0 rfl) ?_
              refine xc_core (wr := [(h5, .inl (cI, 4, .inl f_6))]) (k := 0) (n := 0) (xc_runV (As := [.int x_16]) (rest := [.int (-9)]) hx hb hml hown hts hG hE hP hD hS hA [0, 1, 8, 2, 3, 9, 10, 5, 4, 6, 11, 12] (by decide) rfl (sX3_growthAt_1 l D cB cI cJ cZ aK aV h0 x_16 h1 h2 h3 h4 h5 h6 x7 x8 x9 x10 x11 h12 h13 h14 h15 h16 h17 h18 h19 h20 h21 x22 x23 x24 x25 x26 h33 h34 x35 x36 x37 f27 f_17 f_19 f39 f30 f29 f31 f40 f_18 (by omega) (by omega) (by omega) (by omega) (by omega) (by omega) (by omega) (by omega) (by omega) (by omega) (by omega) (by omega) (by omega) (by omega) (ga0.mono (by omega) (by omega) (by omega))) kw982 kw979 kw981 kw26 kw121 (show XD yX3_growthAt 1 from by decide +kernel) (by decide) rfl rfl 0 rfl hl.1 rfl (Nat.le_of_ble_eq_true rfl) dX3_passYear_58 (by decide)) hP hD hS hA [0, 1, 8, 2, 3, 9, 10, 5, 4, 6, 11, 12] [7] rfl rfl (by decide) (by decide) (Nat.le_of_ble_eq_true rfl) (Nat.le_of_ble_eq_true rfl) (fun r w1 H locs hpost hP hD hS => ?_)
              obtain ⟨f_30, f_31, v_32, rfl, rfl⟩ := hpost
              have hP : va_P D vwCl [(h5, .inl (cI, 4, .inl f_6)), (h0, .inr (3, [.ref h1, .ref h2, .ref h3, .ref h4, .ref h5, .ref h6, .int x7, .int x8])), (h1, .inr (8, [.int x9, .int x10, .int x11, .ref h12, .ref h13, .ref h14, .ref h15, .ref h16, .ref h17, .ref h18, .ref h19, .ref h20, .ref h21, .int x22, .int x23, .int x24, .int x25, .int x26])), (h21, .inr (1, [.ref h33, .ref h34, .int x35, .int x36, .int x37])), (h2, .inl (cI, 7, .inl f27)), (h3, .inl (cI, 7, .inl f_17)), (h6, .inl (cI, 7, .inl f_30)), (h17, .inl (cI, 7, .inl f39)), (h18, .inl (cI, 7, .inl f30)), (h4, .inl (cI, 7, .inl f29)), (h13, .inl (cI, 3, .inl f31)), (h33, .inl (cI, 272, .inl f40)), (h34, .inl (cI, 30, .inl f_31))] H := hP
              have hD : va_D A [(h5, .inl (cI, 4, .inl f_6)), (h0, .inr (3, [.ref h1, .ref h2, .ref h3, .ref h4, .ref h5, .ref h6, .int x7, .int x8])), (h1, .inr (8, [.int x9, .int x10, .int x11, .ref h12, .ref h13, .ref h14, .ref h15, .ref h16, .ref h17, .ref h18, .ref h19, .ref h20, .ref h21, .int x22, .int x23, .int x24, .int x25, .int x26])), (h21, .inr (1, [.ref h33, .ref h34, .int x35, .int x36, .int x37])), (h2, .inl (cI, 7, .inl f27)), (h3, .inl (cI, 7, .inl f_17)), (h6, .inl (cI, 7, .inl f_30)), (h17, .inl (cI, 7, .inl f39)), (h18, .inl (cI, 7, .inl f30)), (h4, .inl (cI, 7, .inl f29)), (h13, .inl (cI, 3, .inl f31)), (h33, .inl (cI, 272, .inl f40)), (h34, .inl (cI, 30, .inl f_31))] := hD
              refine lv_bipush (v := 9) hx hb dX3_passYear_61 (by decide +kernel) ?_
              refine xc_core (wr := [(h5, .inl (cI, 4, .inl f_6)), (h0, .inr (3, [.ref h1, .ref h2, .ref h3, .ref h4, .ref h5, .ref h6, .int x7, .int x8])), (h1, .inr (8, [.int x9, .int x10, .int x11, .ref h12, .ref h13, .ref h14, .ref h15, .ref h16, .ref h17, .ref h18, .ref h19, .ref h20, .ref h21, .int x22, .int x23, .int x24, .int x25, .int x26])), (h21, .inr (1, [.ref h33, .ref h34, .int x35, .int x36, .int x37])), (h2, .inl (cI, 7, .inl f27)), (h3, .inl (cI, 7, .inl f_17)), (h6, .inl (cI, 7, .inl f_30)), (h17, .inl (cI, 7, .inl f39)), (h18, .inl (cI, 7, .inl f30)), (h4, .inl (cI, 7, .inl f29)), (h13, .inl (cI, 3, .inl f31)), (h33, .inl (cI, 272, .inl f40)), (h34, .inl (cI, 30, .inl f_31))]) (k := 0) (n := 0) (xc_runSN (As := [.int (-9), .int v_32, .int 9]) (rest := []) hx hb hml hown hts hG hE hP hD hS hA [] (by decide) rfl (sX9_within_1 l D cB cI cJ cZ aK aV (-9) v_32 9) kw907 (by decide +kernel) kw906 kw112 (show XD yX9_within 3 from by decide +kernel) (by decide) hl.1 rfl (Nat.le_of_ble_eq_true rfl) dX3_passYear_63 (by decide)) hP hD hS hA [] [0, 1, 2, 3, 4, 5, 6, 7, 8, 9, 10, 11, 12] rfl rfl (by decide) (by decide) (Nat.le_of_ble_eq_true rfl) (Nat.le_of_ble_eq_true rfl) (fun r w1 H locs hpost hP hD hS => ?_)
              obtain ⟨v_33, rfl, rfl⟩ := hpost
              have hP : va_P D vwCl [(h5, .inl (cI, 4, .inl f_6)), (h0, .inr (3, [.ref h1, .ref h2, .ref h3, .ref h4, .ref h5, .ref h6, .int x7, .int x8])), (h1, .inr (8, [.int x9, .int x10, .int x11, .ref h12, .ref h13, .ref h14, .ref h15, .ref h16, .ref h17, .ref h18, .ref h19, .ref h20, .ref h21, .int x22, .int x23, .int x24, .int x25, .int x26])), (h21, .inr (1, [.ref h33, .ref h34, .int x35, .int x36, .int x37])), (h2, .inl (cI, 7, .inl f27)), (h3, .inl (cI, 7, .inl f_17)), (h6, .inl (cI, 7, .inl f_30)), (h17, .inl (cI, 7, .inl f39)), (h18, .inl (cI, 7, .inl f30)), (h4, .inl (cI, 7, .inl f29)), (h13, .inl (cI, 3, .inl f31)), (h33, .inl (cI, 272, .inl f40)), (h34, .inl (cI, 30, .inl f_31))] H := hP
              have hD : va_D A [(h5, .inl (cI, 4, .inl f_6)), (h0, .inr (3, [.ref h1, .ref h2, .ref h3, .ref h4, .ref h5, .ref h6, .int x7, .int x8])), (h1, .inr (8, [.int x9, .int x10, .int x11, .ref h12, .ref h13, .ref h14, .ref h15, .ref h16, .ref h17, .ref h18, .ref h19, .ref h20, .ref h21, .int x22, .int x23, .int x24, .int x25, .int x26])), (h21, .inr (1, [.ref h33, .ref h34, .int x35, .int x36, .int x37])), (h2, .inl (cI, 7, .inl f27)), (h3, .inl (cI, 7, .inl f_17)), (h6, .inl (cI, 7, .inl f_30)), (h17, .inl (cI, 7, .inl f39)), (h18, .inl (cI, 7, .inl f30)), (h4, .inl (cI, 7, .inl f29)), (h13, .inl (cI, 3, .inl f31)), (h33, .inl (cI, 272, .inl f40)), (h34, .inl (cI, 30, .inl f_31))] := hD
              refine lv_istore_n (lv' := [(3, .int v_33), (2, .int x_16), (1, .int x_4), (0, .ref h0)]) hx hb dX3_passYear_66 rfl hl (by decide) rfl (fun ls hl => ?_)
              refine lv_aload_n hx hb dX3_passYear_67 rfl (lv_at hl 3 rfl) ?_
              refine va_get (D := D) (ci := 3) (v := .ref h3) (C := RX3) (T := TX3) (N := 8) hx hb hts inX3 hown hG.1 hP 1 rfl rfl 2 (by decide) (hts _ kw432) (fun _ h9 => h9) rfl dX3_passYear_68 ?_
              refine lv_iload_n hx hb dX3_passYear_71 rfl (lv_at hl 1 rfl) ?_
              refine lv_iconst (v := 0) hx hb dX3_passYear_72 (by decide +kernel) ?_
              refine lv_aload_n hx hb dX3_passYear_73 rfl (lv_at hl 3 rfl) ?_
              refine va_get (D := D) (ci := 3) (v := .ref h3) (C := RX3) (T := TX3) (N := 8) hx hb hts inX3 hown hG.1 hP 1 rfl rfl 2 (by decide) (hts _ kw432) (fun _ h9 => h9) rfl dX3_passYear_74 ?_
              refine lv_iload_n hx hb dX3_passYear_77 rfl (lv_at hl 1 rfl) ?_
              refine xa_ildU hx hb hG hP 5 rfl (vp_in_iff.mpr ⟨by omega, by omega⟩) dX3_passYear_78 (fun v_34 => ?_)
              refine lv_iload_n hx hb dX3_passYear_79 rfl (lv_at hl 0 rfl) ?_
              refine lv_iadd hx hb dX3_passYear_80 ?_
              refine xt_any (fun v_35 => ?_)
              refine lv_bipush (v := 99) hx hb dX3_passYear_81 (by decide +kernel) ?_
              refine xc_core (wr := [(h5, .inl (cI, 4, .inl f_6)), (h0, .inr (3, [.ref h1, .ref h2, .ref h3, .ref h4, .ref h5, .ref h6, .int x7, .int x8])), (h1, .inr (8, [.int x9, .int x10, .int x11, .ref h12, .ref h13, .ref h14, .ref h15, .ref h16, .ref h17, .ref h18, .ref h19, .ref h20, .ref h21, .int x22, .int x23, .int x24, .int x25, .int x26])), (h21, .inr (1, [.ref h33, .ref h34, .int x35, .int x36, .int x37])), (h2, .inl (cI, 7, .inl f27)), (h3, .inl (cI, 7, .inl f_17)), (h6, .inl (cI, 7, .inl f_30)), (h17, .inl (cI, 7, .inl f39)), (h18, .inl (cI, 7, .inl f30)), (h4, .inl (cI, 7, .inl f29)), (h13, .inl (cI, 3, .inl f31)), (h33, .inl (cI, 272, .inl f40)), (h34, .inl (cI, 30, .inl f_31))]) (k := 0) (n := 0) (xc_runSN (As := [.int 0, .int v_35, .int 99]) (rest := [.int x_16, .ref h3]) hx hb hml hown hts hG hE hP hD hS hA [] (by decide) rfl (sX9_within_1 l D cB cI cJ cZ aK aV 0 v_35 99) kw907 (by decide +kernel) kw906 kw112 (show XD yX9_within 3 from by decide +kernel) (by decide) hl.1 rfl (Nat.le_of_ble_eq_true rfl) dX3_passYear_83 (by decide)) hP hD hS hA [] [0, 1, 2, 3, 4, 5, 6, 7, 8, 9, 10, 11, 12] rfl rfl (by decide) (by decide) (Nat.le_of_ble_eq_true rfl) (Nat.le_of_ble_eq_true rfl) (fun r w1 H locs hpost hP hD hS => ?_)
              obtain ⟨v_36, rfl, rfl⟩ := hpost
              have hP : va_P D vwCl [(h5, .inl (cI, 4, .inl f_6)), (h0, .inr (3, [.ref h1, .ref h2, .ref h3, .ref h4, .ref h5, .ref h6, .int x7, .int x8])), (h1, .inr (8, [.int x9, .int x10, .int x11, .ref h12, .ref h13, .ref h14, .ref h15, .ref h16, .ref h17, .ref h18, .ref h19, .ref h20, .ref h21, .int x22, .int x23, .int x24, .int x25, .int x26])), (h21, .inr (1, [.ref h33, .ref h34, .int x35, .int x36, .int x37])), (h2, .inl (cI, 7, .inl f27)), (h3, .inl (cI, 7, .inl f_17)), (h6, .inl (cI, 7, .inl f_30)), (h17, .inl (cI, 7, .inl f39)), (h18, .inl (cI, 7, .inl f30)), (h4, .inl (cI, 7, .inl f29)), (h13, .inl (cI, 3, .inl f31)), (h33, .inl (cI, 272, .inl f40)), (h34, .inl (cI, 30, .inl f_31))] H := hP
              have hD : va_D A [(h5, .inl (cI, 4, .inl f_6)), (h0, .inr (3, [.ref h1, .ref h2, .ref h3, .ref h4, .ref h5, .ref h6, .int x7, .int x8])), (h1, .inr (8, [.int x9, .int x10, .int x11, .ref h12, .ref h13, .ref h14, .ref h15, .ref h16, .ref h17, .ref h18, .ref h19, .ref h20, .ref h21, .int x22, .int x23, .int x24, .int x25, .int x26])), (h21, .inr (1, [.ref h33, .ref h34, .int x35, .int x36, .int x37])), (h2, .inl (cI, 7, .inl f27)), (h3, .inl (cI, 7, .inl f_17)), (h6, .inl (cI, 7, .inl f_30)), (h17, .inl (cI, 7, .inl f39)), (h18, .inl (cI, 7, .inl f30)), (h4, .inl (cI, 7, .inl f29)), (h13, .inl (cI, 3, .inl f31)), (h33, .inl (cI, 272, .inl f40)), (h34, .inl (cI, 30, .inl f_31))] := hD
              refine xa_istU hx hb hG hP hD hS 5 rfl (vp_in_iff.mpr ⟨by omega, by omega⟩) dX3_passYear_86 (fun f_37 H locs hP hD hS => ?_)
              have hP : va_P D vwCl [(h5, .inl (cI, 4, .inl f_6)), (h0, .inr (3, [.ref h1, .ref h2, .ref h3, .ref h4, .ref h5, .ref h6, .int x7, .int x8])), (h1, .inr (8, [.int x9, .int x10, .int x11, .ref h12, .ref h13, .ref h14, .ref h15, .ref h16, .ref h17, .ref h18, .ref h19, .ref h20, .ref h21, .int x22, .int x23, .int x24, .int x25, .int x26])), (h21, .inr (1, [.ref h33, .ref h34, .int x35, .int x36, .int x37])), (h2, .inl (cI, 7, .inl f27)), (h3, .inl (cI, 7, .inl f_37)), (h6, .inl (cI, 7, .inl f_30)), (h17, .inl (cI, 7, .inl f39)), (h18, .inl (cI, 7, .inl f30)), (h4, .inl (cI, 7, .inl f29)), (h13, .inl (cI, 3, .inl f31)), (h33, .inl (cI, 272, .inl f40)), (h34, .inl (cI, 30, .inl f_31))] H := hP
              have hD : va_D A [(h5, .inl (cI, 4, .inl f_6)), (h0, .inr (3, [.ref h1, .ref h2, .ref h3, .ref h4, .ref h5, .ref h6, .int x7, .int x8])), (h1, .inr (8, [.int x9, .int x10, .int x11, .ref h12, .ref h13, .ref h14, .ref h15, .ref h16, .ref h17, .ref h18, .ref h19, .ref h20, .ref h21, .int x22, .int x23, .int x24, .int x25, .int x26])), (h21, .inr (1, [.ref h33, .ref h34, .int x35, .int x36, .int x37])), (h2, .inl (cI, 7, .inl f27)), (h3, .inl (cI, 7, .inl f_37)), (h6, .inl (cI, 7, .inl f_30)), (h17, .inl (cI, 7, .inl f39)), (h18, .inl (cI, 7, .inl f30)), (h4, .inl (cI, 7, .inl f29)), (h13, .inl (cI, 3, .inl f31)), (h33, .inl (cI, 272, .inl f40)), (h34, .inl (cI, 30, .inl f_31))] := hD
              obtain ⟨v_38, ev_38⟩ : ∃ y : Int32, y = x_16 + 1 := ⟨_, rfl⟩
              have gv_38 : v_38.toInt = x_16.toInt + 1 := by
                have zy : (1 : Int32).toInt = 1 := by decide
                rw [ev_38, i32_add (by rw [zy]; omega) (by rw [zy]; omega), zy]
              refine lv_iinc (v := v_38) (lv' := [(2, .int v_38), (3, .int v_33), (1, .int x_4), (0, .ref h0)]) hx hb dX3_passYear_87 hl (k := 1) rfl (by rw [ev_38]; rfl) (by decide) rfl (fun ls hl => ?_)
              refine lv_goto (tgt := 43) hx hb dX3_passYear_90 (by decide) ?_
              exact ihlp_20  v_38 f_37 f_31 f_30 _ _ _ (by omega) (by omega) (by omega) (hP.sub (ws' := [(h0, .inr (3, [.ref h1, .ref h2, .ref h3, .ref h4, .ref h5, .ref h6, .int x7, .int x8])), (h1, .inr (8, [.int x9, .int x10, .int x11, .ref h12, .ref h13, .ref h14, .ref h15, .ref h16, .ref h17, .ref h18, .ref h19, .ref h20, .ref h21, .int x22, .int x23, .int x24, .int x25, .int x26])), (h2, .inl (cI, 7, .inl f27)), (h3, .inl (cI, 7, .inl f_37)), (h4, .inl (cI, 7, .inl f29)), (h18, .inl (cI, 7, .inl f30)), (h13, .inl (cI, 3, .inl f31)), (h5, .inl (cI, 4, .inl f_6)), (h21, .inr (1, [.ref h33, .ref h34, .int x35, .int x36, .int x37])), (h6, .inl (cI, 7, .inl f_30)), (h17, .inl (cI, 7, .inl f39)), (h33, .inl (cI, 272, .inl f40)), (h34, .inl (cI, 30, .inl f_31))]) [1, 2, 4, 5, 9, 8, 10, 0, 3, 6, 7, 11, 12] rfl) (hD.sub (ws' := [(h0, .inr (3, [.ref h1, .ref h2, .ref h3, .ref h4, .ref h5, .ref h6, .int x7, .int x8])), (h1, .inr (8, [.int x9, .int x10, .int x11, .ref h12, .ref h13, .ref h14, .ref h15, .ref h16, .ref h17, .ref h18, .ref h19, .ref h20, .ref h21, .int x22, .int x23, .int x24, .int x25, .int x26])), (h2, .inl (cI, 7, .inl f27)), (h3, .inl (cI, 7, .inl f_37)), (h4, .inl (cI, 7, .inl f29)), (h18, .inl (cI, 7, .inl f30)), (h13, .inl (cI, 3, .inl f31)), (h5, .inl (cI, 4, .inl f_6)), (h21, .inr (1, [.ref h33, .ref h34, .int x35, .int x36, .int x37])), (h6, .inl (cI, 7, .inl f_30)), (h17, .inl (cI, 7, .inl f39)), (h33, .inl (cI, 272, .inl f40)), (h34, .inl (cI, 30, .inl f_31))]) [1, 2, 4, 5, 9, 8, 10, 0, 3, 6, 7, 11, 12] (by decide) rfl) hS (lv_sub hl [0, 2, 3] rfl)
        exact lp_20 9 0 f28 f41 f38 _ _ _ (by have zc0 : (0 : Int32).toInt = 0 := (by decide); omega) (by have zc0 : (0 : Int32).toInt = 0 := (by decide); omega) (by have zc0 : (0 : Int32).toInt = 0 := (by decide); omega) (hP.sub (ws' := [(h0, .inr (3, [.ref h1, .ref h2, .ref h3, .ref h4, .ref h5, .ref h6, .int x7, .int x8])), (h1, .inr (8, [.int x9, .int x10, .int x11, .ref h12, .ref h13, .ref h14, .ref h15, .ref h16, .ref h17, .ref h18, .ref h19, .ref h20, .ref h21, .int x22, .int x23, .int x24, .int x25, .int x26])), (h2, .inl (cI, 7, .inl f27)), (h3, .inl (cI, 7, .inl f28)), (h4, .inl (cI, 7, .inl f29)), (h18, .inl (cI, 7, .inl f30)), (h13, .inl (cI, 3, .inl f31)), (h5, .inl (cI, 4, .inl f_6)), (h21, .inr (1, [.ref h33, .ref h34, .int x35, .int x36, .int x37])), (h6, .inl (cI, 7, .inl f38)), (h17, .inl (cI, 7, .inl f39)), (h33, .inl (cI, 272, .inl f40)), (h34, .inl (cI, 30, .inl f41))]) [0, 1, 2, 3, 4, 5, 6, 7, 8, 9, 10, 11, 12] rfl) (hD.sub (ws' := [(h0, .inr (3, [.ref h1, .ref h2, .ref h3, .ref h4, .ref h5, .ref h6, .int x7, .int x8])), (h1, .inr (8, [.int x9, .int x10, .int x11, .ref h12, .ref h13, .ref h14, .ref h15, .ref h16, .ref h17, .ref h18, .ref h19, .ref h20, .ref h21, .int x22, .int x23, .int x24, .int x25, .int x26])), (h2, .inl (cI, 7, .inl f27)), (h3, .inl (cI, 7, .inl f28)), (h4, .inl (cI, 7, .inl f29)), (h18, .inl (cI, 7, .inl f30)), (h13, .inl (cI, 3, .inl f31)), (h5, .inl (cI, 4, .inl f_6)), (h21, .inr (1, [.ref h33, .ref h34, .int x35, .int x36, .int x37])), (h6, .inl (cI, 7, .inl f38)), (h17, .inl (cI, 7, .inl f39)), (h33, .inl (cI, 272, .inl f40)), (h34, .inl (cI, 30, .inl f41))]) [0, 1, 2, 3, 4, 5, 6, 7, 8, 9, 10, 11, 12] (by decide) rfl) hS (lv_sub hl [0, 1, 2] rfl)
      · have fc_11 : x_5.toInt < x9.toInt := i_nle rfl rfl c_11
        refine lv_aload_n hx hb dX3_passYear_15 rfl (lv_at hl 2 rfl) ?_
        refine lv_iload_n hx hb dX3_passYear_16 rfl (lv_at hl 0 rfl) ?_
        refine xc_core (wr := [(h5, .inl (cI, 4, .inl f_6)), (h21, .inr (1, [.ref h33, .ref h34, .int x35, .int x36, .int x37])), (h6, .inl (cI, 7, .inl f38)), (h17, .inl (cI, 7, .inl f39)), (h33, .inl (cI, 272, .inl f40)), (h34, .inl (cI, 30, .inl f41))]) (k := 0) (n := 0) (xc_runV (As := [.int x_5]) (rest := []) hx hb hml hown hts hG hE hP hD hS hA [0, 1, 2, 3, 4, 5, 6] (by decide) rfl (sX3_earnedBy_1 l D cB cI cJ cZ aK aV h0 x_5 h1 h2 h3 h4 h5 h6 x7 x8 x9 x10 x11 h12 h13 h14 h15 h16 h17 h18 h19 h20 h21 x22 x23 x24 x25 x26 f27 f28 f29 f30 f31 (by omega) (by omega) (by omega) (by omega) (by omega) (by omega) (by omega) (by omega) (by omega) (by omega) (ga0.mono (by omega) (by omega) (by omega))) kw870 kw978 kw868 kw869 kw121 (show XD yX3_earnedBy 1 from by decide +kernel) (by decide) rfl rfl 0 rfl hl.1 rfl (Nat.le_of_ble_eq_true rfl) dX3_passYear_17 (by decide)) hP hD hS hA [0, 1, 2, 3, 4, 5, 6] [7, 8, 9, 10, 11, 12] rfl rfl (by decide) (by decide) (Nat.le_of_ble_eq_true rfl) (Nat.le_of_ble_eq_true rfl) (fun r w1 H locs hpost hP hD hS => ?_)
        obtain ⟨v_39, rfl, rfl⟩ := hpost
        have hP : va_P D vwCl [(h5, .inl (cI, 4, .inl f_6)), (h21, .inr (1, [.ref h33, .ref h34, .int x35, .int x36, .int x37])), (h6, .inl (cI, 7, .inl f38)), (h17, .inl (cI, 7, .inl f39)), (h33, .inl (cI, 272, .inl f40)), (h34, .inl (cI, 30, .inl f41)), (h0, .inr (3, [.ref h1, .ref h2, .ref h3, .ref h4, .ref h5, .ref h6, .int x7, .int x8])), (h1, .inr (8, [.int x9, .int x10, .int x11, .ref h12, .ref h13, .ref h14, .ref h15, .ref h16, .ref h17, .ref h18, .ref h19, .ref h20, .ref h21, .int x22, .int x23, .int x24, .int x25, .int x26])), (h2, .inl (cI, 7, .inl f27)), (h3, .inl (cI, 7, .inl f28)), (h4, .inl (cI, 7, .inl f29)), (h18, .inl (cI, 7, .inl f30)), (h13, .inl (cI, 3, .inl f31))] H := hP
        have hD : va_D A [(h5, .inl (cI, 4, .inl f_6)), (h21, .inr (1, [.ref h33, .ref h34, .int x35, .int x36, .int x37])), (h6, .inl (cI, 7, .inl f38)), (h17, .inl (cI, 7, .inl f39)), (h33, .inl (cI, 272, .inl f40)), (h34, .inl (cI, 30, .inl f41)), (h0, .inr (3, [.ref h1, .ref h2, .ref h3, .ref h4, .ref h5, .ref h6, .int x7, .int x8])), (h1, .inr (8, [.int x9, .int x10, .int x11, .ref h12, .ref h13, .ref h14, .ref h15, .ref h16, .ref h17, .ref h18, .ref h19, .ref h20, .ref h21, .int x22, .int x23, .int x24, .int x25, .int x26])), (h2, .inl (cI, 7, .inl f27)), (h3, .inl (cI, 7, .inl f28)), (h4, .inl (cI, 7, .inl f29)), (h18, .inl (cI, 7, .inl f30)), (h13, .inl (cI, 3, .inl f31))] := hD
        refine lv_istore_n (lv' := [(3, .int v_39), (2, .int x_5), (1, .int x_4), (0, .ref h0)]) hx hb dX3_passYear_20 rfl hl (by decide) rfl (fun ls hl => ?_)
        refine lv_aload_n hx hb dX3_passYear_21 rfl (lv_at hl 3 rfl) ?_
        refine va_get (D := D) (ci := 3) (v := .ref h5) (C := RX3) (T := TX3) (N := 8) hx hb hts inX3 hown hG.1 hP 6 rfl rfl 4 (by decide) (hts _ kw438) (fun _ h9 => h9) rfl dX3_passYear_22 ?_
        refine lv_iload_n hx hb dX3_passYear_25 rfl (lv_at hl 1 rfl) ?_
        refine lv_dup2_11 hx hb dX3_passYear_26 rfl rfl ?_
        refine xa_ildU hx hb hG hP 0 rfl (vp_in_iff.mpr ⟨by omega, by omega⟩) dX3_passYear_27 (fun v_40 => ?_)
        refine lv_iload_n hx hb dX3_passYear_28 rfl (lv_at hl 0 rfl) ?_
        refine lv_iadd hx hb dX3_passYear_29 ?_
        refine xt_any (fun v_41 => ?_)
        refine xa_istU hx hb hG hP hD hS 0 rfl (vp_in_iff.mpr ⟨by omega, by omega⟩) dX3_passYear_30 (fun f_42 H locs hP hD hS => ?_)
        have hP : va_P D vwCl [(h5, .inl (cI, 4, .inl f_42)), (h21, .inr (1, [.ref h33, .ref h34, .int x35, .int x36, .int x37])), (h6, .inl (cI, 7, .inl f38)), (h17, .inl (cI, 7, .inl f39)), (h33, .inl (cI, 272, .inl f40)), (h34, .inl (cI, 30, .inl f41)), (h0, .inr (3, [.ref h1, .ref h2, .ref h3, .ref h4, .ref h5, .ref h6, .int x7, .int x8])), (h1, .inr (8, [.int x9, .int x10, .int x11, .ref h12, .ref h13, .ref h14, .ref h15, .ref h16, .ref h17, .ref h18, .ref h19, .ref h20, .ref h21, .int x22, .int x23, .int x24, .int x25, .int x26])), (h2, .inl (cI, 7, .inl f27)), (h3, .inl (cI, 7, .inl f28)), (h4, .inl (cI, 7, .inl f29)), (h18, .inl (cI, 7, .inl f30)), (h13, .inl (cI, 3, .inl f31))] H := hP
        have hD : va_D A [(h5, .inl (cI, 4, .inl f_42)), (h21, .inr (1, [.ref h33, .ref h34, .int x35, .int x36, .int x37])), (h6, .inl (cI, 7, .inl f38)), (h17, .inl (cI, 7, .inl f39)), (h33, .inl (cI, 272, .inl f40)), (h34, .inl (cI, 30, .inl f41)), (h0, .inr (3, [.ref h1, .ref h2, .ref h3, .ref h4, .ref h5, .ref h6, .int x7, .int x8])), (h1, .inr (8, [.int x9, .int x10, .int x11, .ref h12, .ref h13, .ref h14, .ref h15, .ref h16, .ref h17, .ref h18, .ref h19, .ref h20, .ref h21, .int x22, .int x23, .int x24, .int x25, .int x26])), (h2, .inl (cI, 7, .inl f27)), (h3, .inl (cI, 7, .inl f28)), (h4, .inl (cI, 7, .inl f29)), (h18, .inl (cI, 7, .inl f30)), (h13, .inl (cI, 3, .inl f31))] := hD
        refine lv_iload_n hx hb dX3_passYear_31 rfl (lv_at hl 2 rfl) ?_
        refine lv_iload_n hx hb dX3_passYear_32 rfl (lv_at hl 0 rfl) ?_
        refine lv_iadd hx hb dX3_passYear_33 ?_
        refine xt_any (fun v_43 => ?_)
        refine lv_istore_n (lv' := [(1, .int v_43), (3, .int v_39), (2, .int x_5), (0, .ref h0)]) hx hb dX3_passYear_34 rfl hl (by decide) rfl (fun ls hl => ?_)
        obtain ⟨v_44, ev_44⟩ : ∃ y : Int32, y = x_5 + 1 := ⟨_, rfl⟩
        have gv_44 : v_44.toInt = x_5.toInt + 1 := by
          have zy : (1 : Int32).toInt = 1 := by decide
          rw [ev_44, i32_add (by rw [zy]; omega) (by rw [zy]; omega), zy]
        refine lv_iinc (v := v_44) (lv' := [(2, .int v_44), (1, .int v_43), (3, .int v_39), (0, .ref h0)]) hx hb dX3_passYear_35 hl (k := 2) rfl (by rw [ev_44]; rfl) (by decide) rfl (fun ls hl => ?_)
        refine lv_goto (tgt := 4) hx hb dX3_passYear_38 (by decide) ?_
        exact ihlp_7  v_43 v_44 f_42 _ _ _ (by omega) (by omega) (by omega) (hP.sub (ws' := [(h0, .inr (3, [.ref h1, .ref h2, .ref h3, .ref h4, .ref h5, .ref h6, .int x7, .int x8])), (h1, .inr (8, [.int x9, .int x10, .int x11, .ref h12, .ref h13, .ref h14, .ref h15, .ref h16, .ref h17, .ref h18, .ref h19, .ref h20, .ref h21, .int x22, .int x23, .int x24, .int x25, .int x26])), (h2, .inl (cI, 7, .inl f27)), (h3, .inl (cI, 7, .inl f28)), (h4, .inl (cI, 7, .inl f29)), (h18, .inl (cI, 7, .inl f30)), (h13, .inl (cI, 3, .inl f31)), (h5, .inl (cI, 4, .inl f_42)), (h21, .inr (1, [.ref h33, .ref h34, .int x35, .int x36, .int x37])), (h6, .inl (cI, 7, .inl f38)), (h17, .inl (cI, 7, .inl f39)), (h33, .inl (cI, 272, .inl f40)), (h34, .inl (cI, 30, .inl f41))]) [6, 7, 8, 9, 10, 11, 12, 0, 1, 2, 3, 4, 5] rfl) (hD.sub (ws' := [(h0, .inr (3, [.ref h1, .ref h2, .ref h3, .ref h4, .ref h5, .ref h6, .int x7, .int x8])), (h1, .inr (8, [.int x9, .int x10, .int x11, .ref h12, .ref h13, .ref h14, .ref h15, .ref h16, .ref h17, .ref h18, .ref h19, .ref h20, .ref h21, .int x22, .int x23, .int x24, .int x25, .int x26])), (h2, .inl (cI, 7, .inl f27)), (h3, .inl (cI, 7, .inl f28)), (h4, .inl (cI, 7, .inl f29)), (h18, .inl (cI, 7, .inl f30)), (h13, .inl (cI, 3, .inl f31)), (h5, .inl (cI, 4, .inl f_42)), (h21, .inr (1, [.ref h33, .ref h34, .int x35, .int x36, .int x37])), (h6, .inl (cI, 7, .inl f38)), (h17, .inl (cI, 7, .inl f39)), (h33, .inl (cI, 272, .inl f40)), (h34, .inl (cI, 30, .inl f41))]) [6, 7, 8, 9, 10, 11, 12, 0, 1, 2, 3, 4, 5] (by decide) rfl) hS (lv_sub hl [0, 1, 3] rfl)
  exact lp_7 6 0 0 f32 _ _ _ (by have zc0 : (0 : Int32).toInt = 0 := (by decide); omega) (by have zc0 : (0 : Int32).toInt = 0 := (by decide); omega) (by have zc0 : (0 : Int32).toInt = 0 := (by decide); omega) (hP.sub (ws' := [(h0, .inr (3, [.ref h1, .ref h2, .ref h3, .ref h4, .ref h5, .ref h6, .int x7, .int x8])), (h1, .inr (8, [.int x9, .int x10, .int x11, .ref h12, .ref h13, .ref h14, .ref h15, .ref h16, .ref h17, .ref h18, .ref h19, .ref h20, .ref h21, .int x22, .int x23, .int x24, .int x25, .int x26])), (h2, .inl (cI, 7, .inl f27)), (h3, .inl (cI, 7, .inl f28)), (h4, .inl (cI, 7, .inl f29)), (h18, .inl (cI, 7, .inl f30)), (h13, .inl (cI, 3, .inl f31)), (h5, .inl (cI, 4, .inl f32)), (h21, .inr (1, [.ref h33, .ref h34, .int x35, .int x36, .int x37])), (h6, .inl (cI, 7, .inl f38)), (h17, .inl (cI, 7, .inl f39)), (h33, .inl (cI, 272, .inl f40)), (h34, .inl (cI, 30, .inl f41))]) [0, 1, 2, 3, 4, 5, 6, 7, 8, 9, 10, 11, 12] rfl) (hD.sub (ws' := [(h0, .inr (3, [.ref h1, .ref h2, .ref h3, .ref h4, .ref h5, .ref h6, .int x7, .int x8])), (h1, .inr (8, [.int x9, .int x10, .int x11, .ref h12, .ref h13, .ref h14, .ref h15, .ref h16, .ref h17, .ref h18, .ref h19, .ref h20, .ref h21, .int x22, .int x23, .int x24, .int x25, .int x26])), (h2, .inl (cI, 7, .inl f27)), (h3, .inl (cI, 7, .inl f28)), (h4, .inl (cI, 7, .inl f29)), (h18, .inl (cI, 7, .inl f30)), (h13, .inl (cI, 3, .inl f31)), (h5, .inl (cI, 4, .inl f32)), (h21, .inr (1, [.ref h33, .ref h34, .int x35, .int x36, .int x37])), (h6, .inl (cI, 7, .inl f38)), (h17, .inl (cI, 7, .inl f39)), (h33, .inl (cI, 272, .inl f40)), (h34, .inl (cI, 30, .inl f41))]) [0, 1, 2, 3, 4, 5, 6, 7, 8, 9, 10, 11, 12] (by decide) rfl) hS (lv_sub hl [0, 1, 2] rfl)
theorem dX3_begin_0 : decode cX3_begin 0 = .ok (.aload_n 0, 1) := by decide +kernel
theorem dX3_begin_1 : decode cX3_begin 1 = .ok (.aload_n 1, 1) := by decide +kernel
theorem dX3_begin_2 : decode cX3_begin 2 = .ok (.putfield 33, 3) := by decide +kernel
theorem dX3_begin_5 : decode cX3_begin 5 = .ok (.aload_n 1, 1) := by decide +kernel
theorem kw220 : (.fieldLink RX3 37 "SpiceSwaps$Told" "holderOf" "[I" : Cond) ∈ gT := gT_of 220 (by decide +kernel) (by decide +kernel)
theorem dX3_begin_6 : decode cX3_begin 6 = .ok (.getfield 37, 3) := by decide +kernel
theorem dX3_begin_9 : decode cX3_begin 9 = .ok (.iconst 0, 1) := by decide +kernel
theorem dX3_begin_10 : decode cX3_begin 10 = .ok (.aload_n 0, 1) := by decide +kernel
theorem dX3_begin_11 : decode cX3_begin 11 = .ok (.getfield 11, 3) := by decide +kernel
theorem dX3_begin_14 : decode cX3_begin 14 = .ok (.iconst 0, 1) := by decide +kernel
theorem dX3_begin_15 : decode cX3_begin 15 = .ok (.bipush 7, 2) := by decide +kernel
theorem kw422 : (.methodLink RX3 40 arraycopyName : Cond) ∈ gT := gT_of 422 (by decide +kernel) (by decide +kernel)
theorem kw424 : (.native arraycopyName : Cond) ∈ gT := gT_of 424 (by decide +kernel) (by decide +kernel)
theorem kw423 : (.static arraycopyName : Cond) ∈ gT := gT_of 423 (by decide +kernel) (by decide +kernel)
theorem kw122 : (.initialized RJ10 : Cond) ∈ gT := gT_of 122 (by decide +kernel) (by decide +kernel)
theorem dX3_begin_17 : decode cX3_begin 17 = .ok (.invokestatic 40, 3) := by decide +kernel
theorem dX3_begin_20 : decode cX3_begin 20 = .ok (.aload_n 1, 1) := by decide +kernel
theorem kw223 : (.fieldLink RX3 46 "SpiceSwaps$Told" "yieldOf" "[I" : Cond) ∈ gT := gT_of 223 (by decide +kernel) (by decide +kernel)
theorem dX3_begin_21 : decode cX3_begin 21 = .ok (.getfield 46, 3) := by decide +kernel
theorem dX3_begin_24 : decode cX3_begin 24 = .ok (.iconst 0, 1) := by decide +kernel
theorem dX3_begin_25 : decode cX3_begin 25 = .ok (.aload_n 0, 1) := by decide +kernel
theorem dX3_begin_26 : decode cX3_begin 26 = .ok (.getfield 15, 3) := by decide +kernel
theorem dX3_begin_29 : decode cX3_begin 29 = .ok (.iconst 0, 1) := by decide +kernel
theorem dX3_begin_30 : decode cX3_begin 30 = .ok (.bipush 7, 2) := by decide +kernel
theorem dX3_begin_32 : decode cX3_begin 32 = .ok (.invokestatic 40, 3) := by decide +kernel
theorem dX3_begin_35 : decode cX3_begin 35 = .ok (.aload_n 1, 1) := by decide +kernel
theorem kw226 : (.fieldLink RX3 47 "SpiceSwaps$Told" "cropOf" "[I" : Cond) ∈ gT := gT_of 226 (by decide +kernel) (by decide +kernel)
theorem dX3_begin_36 : decode cX3_begin 36 = .ok (.getfield 47, 3) := by decide +kernel
theorem dX3_begin_39 : decode cX3_begin 39 = .ok (.iconst 0, 1) := by decide +kernel
theorem dX3_begin_40 : decode cX3_begin 40 = .ok (.aload_n 0, 1) := by decide +kernel
theorem dX3_begin_41 : decode cX3_begin 41 = .ok (.getfield 18, 3) := by decide +kernel
theorem dX3_begin_44 : decode cX3_begin 44 = .ok (.iconst 0, 1) := by decide +kernel
theorem dX3_begin_45 : decode cX3_begin 45 = .ok (.bipush 7, 2) := by decide +kernel
theorem dX3_begin_47 : decode cX3_begin 47 = .ok (.invokestatic 40, 3) := by decide +kernel
theorem dX3_begin_50 : decode cX3_begin 50 = .ok (.aload_n 1, 1) := by decide +kernel
theorem kw213 : (.fieldLink RX3 48 "SpiceSwaps$Told" "goldOf" "[I" : Cond) ∈ gT := gT_of 213 (by decide +kernel) (by decide +kernel)
theorem dX3_begin_51 : decode cX3_begin 51 = .ok (.getfield 48, 3) := by decide +kernel
theorem dX3_begin_54 : decode cX3_begin 54 = .ok (.iconst 0, 1) := by decide +kernel
theorem dX3_begin_55 : decode cX3_begin 55 = .ok (.aload_n 0, 1) := by decide +kernel
theorem dX3_begin_56 : decode cX3_begin 56 = .ok (.getfield 21, 3) := by decide +kernel
theorem dX3_begin_59 : decode cX3_begin 59 = .ok (.iconst 0, 1) := by decide +kernel
theorem dX3_begin_60 : decode cX3_begin 60 = .ok (.iconst 4, 1) := by decide +kernel
theorem dX3_begin_61 : decode cX3_begin 61 = .ok (.invokestatic 40, 3) := by decide +kernel
theorem dX3_begin_64 : decode cX3_begin 64 = .ok (.aload_n 0, 1) := by decide +kernel
theorem dX3_begin_65 : decode cX3_begin 65 = .ok (.iconst 0, 1) := by decide +kernel
theorem dX3_begin_66 : decode cX3_begin 66 = .ok (.putfield 49, 3) := by decide +kernel
theorem dX3_begin_69 : decode cX3_begin 69 = .ok (.aload_n 0, 1) := by decide +kernel
theorem dX3_begin_70 : decode cX3_begin 70 = .ok (.aload_n 1, 1) := by decide +kernel
theorem kw256 : (.fieldLink RX3 53 "SpiceSwaps$Told" "draw" "I" : Cond) ∈ gT := gT_of 256 (by decide +kernel) (by decide +kernel)
theorem dX3_begin_71 : decode cX3_begin 71 = .ok (.getfield 53, 3) := by decide +kernel
theorem dX3_begin_74 : decode cX3_begin 74 = .ok (.putfield 56, 3) := by decide +kernel
theorem dX3_begin_77 : decode cX3_begin 77 = .ok (.return_, 1) := by decide +kernel
set_option maxHeartbeats 4000000 in
set_option maxRecDepth 100000 in
theorem sX3_begin_1 (l : Launch) (D : va_G) (cB cI cJ cZ : ClassId) (aK aV : Nat → Nat) (h0 : Nat) (h1 : Nat) (h2 : Nat) (h3 : Nat) (h4 : Nat) (h5 : Nat) (h6 : Nat) (h7 : Nat) (x8 : Int32) (x9 : Int32) (x10 : Int32) (x11 : Int32) (x12 : Int32) (h13 : Nat) (h14 : Nat) (h15 : Nat) (h16 : Nat) (h17 : Nat) (h18 : Nat) (h19 : Nat) (h20 : Nat) (h21 : Nat) (h22 : Nat) (x23 : Int32) (x24 : Int32) (x25 : Int32) (x26 : Int32) (x27 : Int32) (f28 : Nat → Int32) (f29 : Nat → Int32) (x30 : Int32) (x31 : Int32) (x32 : Int32) (h33 : Nat) (h34 : Nat) (h35 : Nat) (h36 : Nat) (h37 : Nat) (h38 : Nat) (h39 : Nat) (h40 : Nat) (h41 : Nat) (h42 : Nat) (x43 : Int32) (x44 : Int32) (x45 : Int32) (x46 : Int32) (x47 : Int32) (f48 : Nat → Int32) (f49 : Nat → Int32) (f50 : Nat → Int32) (f51 : Nat → Int32) (f52 : Nat → Int32) (f53 : Nat → Int32) (gh0 : 0 ≤ x9.toInt) (gh1 : 0 ≤ -x9.toInt + 999) (gh2 : 0 ≤ x10.toInt) (gh3 : 0 ≤ -x10.toInt + 4) (gh4 : 0 ≤ x11.toInt) (gh5 : 0 ≤ -x11.toInt + 3) (gh6 : 0 ≤ x12.toInt) (gh7 : 0 ≤ -x12.toInt + 7) (gh8 : 0 ≤ x26.toInt + 1) (gh9 : 0 ≤ -x26.toInt + 999) (gh10 : 0 ≤ x26.toInt) (gh11 : 0 ≤ -x26.toInt + 999) (gh12 : 0 ≤ x30.toInt) (gh13 : 0 ≤ -x30.toInt + 4) (gh14 : 0 ≤ x31.toInt) (gh15 : 0 ≤ -x31.toInt + 3) (gh16 : 0 ≤ x32.toInt) (gh17 : 0 ≤ -x32.toInt + 7) (gh18 : 0 ≤ x46.toInt + 1) (gh19 : 0 ≤ -x46.toInt + 999) (ga0 : AR f28 (0) (3) (x12.toInt)) (ga1 : AR f29 (0) (3) (x32.toInt)) : MX l yX3_begin cX3_begin 2 none (rmL 1 0 0) D cB cI cJ cZ aK aV [.ref h0, .ref h1] [(h0, .inr (3, [.ref h2, .ref h3, .ref h4, .ref h5, .ref h6, .ref h7, .int x8, .int x9])), (h1, .inr (8, [.int x10, .int x11, .int x12, .ref h13, .ref h14, .ref h15, .ref h16, .ref h17, .ref h18, .ref h19, .ref h20, .ref h21, .ref h22, .int x23, .int x24, .int x25, .int x26, .int x27])), (h15, .inl (cI, 7, .inl f28)), (h2, .inr (8, [.int x30, .int x31, .int x32, .ref h33, .ref h34, .ref h35, .ref h36, .ref h37, .ref h38, .ref h39, .ref h40, .ref h41, .ref h42, .int x43, .int x44, .int x45, .int x46, .int x47])), (h3, .inl (cI, 7, .inl f29)), (h16, .inl (cI, 7, .inl f48)), (h4, .inl (cI, 7, .inl f49)), (h17, .inl (cI, 7, .inl f50)), (h5, .inl (cI, 7, .inl f51)), (h13, .inl (cI, 4, .inl f52)), (h6, .inl (cI, 4, .inl f53))] (fun r w1 => ∃ z1 : Nat → Int32, ∃ z2 : Nat → Int32, ∃ z3 : Nat → Int32, ∃ z4 : Nat → Int32, AR z1 (0) (3) (x12.toInt) ∧ r = none ∧ w1 = [(h0, .inr (3, [.ref h1, .ref h3, .ref h4, .ref h5, .ref h6, .ref h7, .int 0, .int x26])), (h1, .inr (8, [.int x10, .int x11, .int x12, .ref h13, .ref h14, .ref h15, .ref h16, .ref h17, .ref h18, .ref h19, .ref h20, .ref h21, .ref h22, .int x23, .int x24, .int x25, .int x26, .int x27])), (h15, .inl (cI, 7, .inl f28)), (h2, .inr (8, [.int x30, .int x31, .int x32, .ref h33, .ref h34, .ref h35, .ref h36, .ref h37, .ref h38, .ref h39, .ref h40, .ref h41, .ref h42, .int x43, .int x44, .int x45, .int x46, .int x47])), (h3, .inl (cI, 7, .inl z1)), (h16, .inl (cI, 7, .inl f48)), (h4, .inl (cI, 7, .inl z2)), (h17, .inl (cI, 7, .inl f50)), (h5, .inl (cI, 7, .inl z3)), (h13, .inl (cI, 4, .inl f52)), (h6, .inl (cI, 4, .inl z4))]) := by
  refine MX.intro (by decide) (Nat.le_of_ble_eq_true rfl) ?_
  intro p e s m below meth c A ls hx hb hr hml hown hlocks hnm hts hG hE hA hS hP hD hl hAe
  have hl : lv_has ls 2 [(0, .ref h0), (1, .ref h1)] := hl
  have hown : s.vm.findClass RX3 = some m.cls := hown
  refine lv_aload_n hx hb dX3_begin_0 rfl (lv_at hl 0 rfl) ?_
  refine lv_aload_n hx hb dX3_begin_1 rfl (lv_at hl 1 rfl) ?_
  refine va_put (D := D) (ci := 3) (v := .ref h1) (ty := .object "SpiceSwaps$Told") (C := RX3) (T := TX3) (N := 8) hx hb hts inX3 tyX3 tyX3_ok nmX3 hown hG.1 hP hD hS 0 rfl rfl 0 (by decide) (hts _ kw425) (fun _ h9 => h9) rfl (by decide +kernel) rfl rfl (Nat.le_of_ble_eq_true rfl) dX3_begin_2 (fun H locs hP hD hS => ?_)
  have hP : va_P D vwCl [(h0, .inr (3, [.ref h1, .ref h3, .ref h4, .ref h5, .ref h6, .ref h7, .int x8, .int x9])), (h1, .inr (8, [.int x10, .int x11, .int x12, .ref h13, .ref h14, .ref h15, .ref h16, .ref h17, .ref h18, .ref h19, .ref h20, .ref h21, .ref h22, .int x23, .int x24, .int x25, .int x26, .int x27])), (h15, .inl (cI, 7, .inl f28)), (h2, .inr (8, [.int x30, .int x31, .int x32, .ref h33, .ref h34, .ref h35, .ref h36, .ref h37, .ref h38, .ref h39, .ref h40, .ref h41, .ref h42, .int x43, .int x44, .int x45, .int x46, .int x47])), (h3, .inl (cI, 7, .inl f29)), (h16, .inl (cI, 7, .inl f48)), (h4, .inl (cI, 7, .inl f49)), (h17, .inl (cI, 7, .inl f50)), (h5, .inl (cI, 7, .inl f51)), (h13, .inl (cI, 4, .inl f52)), (h6, .inl (cI, 4, .inl f53))] H := hP
  have hD : va_D A [(h0, .inr (3, [.ref h1, .ref h3, .ref h4, .ref h5, .ref h6, .ref h7, .int x8, .int x9])), (h1, .inr (8, [.int x10, .int x11, .int x12, .ref h13, .ref h14, .ref h15, .ref h16, .ref h17, .ref h18, .ref h19, .ref h20, .ref h21, .ref h22, .int x23, .int x24, .int x25, .int x26, .int x27])), (h15, .inl (cI, 7, .inl f28)), (h2, .inr (8, [.int x30, .int x31, .int x32, .ref h33, .ref h34, .ref h35, .ref h36, .ref h37, .ref h38, .ref h39, .ref h40, .ref h41, .ref h42, .int x43, .int x44, .int x45, .int x46, .int x47])), (h3, .inl (cI, 7, .inl f29)), (h16, .inl (cI, 7, .inl f48)), (h4, .inl (cI, 7, .inl f49)), (h17, .inl (cI, 7, .inl f50)), (h5, .inl (cI, 7, .inl f51)), (h13, .inl (cI, 4, .inl f52)), (h6, .inl (cI, 4, .inl f53))] := hD
  refine lv_aload_n hx hb dX3_begin_5 rfl (lv_at hl 1 rfl) ?_
  refine va_get (D := D) (ci := 8) (v := .ref h15) (C := RX8) (T := TX8) (N := 18) hx hb hts inX8 hown hG.1 hP 1 rfl rfl 5 (by decide) (hts _ kw220) (fun _ h9 => h9) rfl dX3_begin_6 ?_
  refine lv_iconst (v := 0) hx hb dX3_begin_9 (by decide +kernel) ?_
  refine lv_aload_n hx hb dX3_begin_10 rfl (lv_at hl 0 rfl) ?_
  refine va_get (D := D) (ci := 3) (v := .ref h3) (C := RX3) (T := TX3) (N := 8) hx hb hts inX3 hown hG.1 hP 0 rfl rfl 1 (by decide) (hts _ kw428) (fun _ h9 => h9) rfl dX3_begin_11 ?_
  refine lv_iconst (v := 0) hx hb dX3_begin_14 (by decide +kernel) ?_
  refine lv_bipush (v := 7) hx hb dX3_begin_15 (by decide +kernel) ?_
  refine xa_cpyR (k := 7) hx hb hml hl.1 hown hts kw422 kw424 kw423 kw122 hG hP hD hS 2 4 rfl rfl (by decide +kernel) (by decide +kernel) (by decide +kernel) (by decide +kernel) (by decide +kernel) (by decide +kernel) (by decide +kernel) (by decide +kernel) (Nat.le_of_ble_eq_true rfl) (Nat.le_of_ble_eq_true rfl) dX3_begin_17 (fun f_1 H locs hu hP hD hS => ?_)
  have a_2 := hu _ _ _ (by omega) ga0
  have hP : va_P D vwCl [(h0, .inr (3, [.ref h1, .ref h3, .ref h4, .ref h5, .ref h6, .ref h7, .int x8, .int x9])), (h1, .inr (8, [.int x10, .int x11, .int x12, .ref h13, .ref h14, .ref h15, .ref h16, .ref h17, .ref h18, .ref h19, .ref h20, .ref h21, .ref h22, .int x23, .int x24, .int x25, .int x26, .int x27])), (h15, .inl (cI, 7, .inl f28)), (h2, .inr (8, [.int x30, .int x31, .int x32, .ref h33, .ref h34, .ref h35, .ref h36, .ref h37, .ref h38, .ref h39, .ref h40, .ref h41, .ref h42, .int x43, .int x44, .int x45, .int x46, .int x47])), (h3, .inl (cI, 7, .inl f_1)), (h16, .inl (cI, 7, .inl f48)), (h4, .inl (cI, 7, .inl f49)), (h17, .inl (cI, 7, .inl f50)), (h5, .inl (cI, 7, .inl f51)), (h13, .inl (cI, 4, .inl f52)), (h6, .inl (cI, 4, .inl f53))] H := hP
  have hD : va_D A [(h0, .inr (3, [.ref h1, .ref h3, .ref h4, .ref h5, .ref h6, .ref h7, .int x8, .int x9])), (h1, .inr (8, [.int x10, .int x11, .int x12, .ref h13, .ref h14, .ref h15, .ref h16, .ref h17, .ref h18, .ref h19, .ref h20, .ref h21, .ref h22, .int x23, .int x24, .int x25, .int x26, .int x27])), (h15, .inl (cI, 7, .inl f28)), (h2, .inr (8, [.int x30, .int x31, .int x32, .ref h33, .ref h34, .ref h35, .ref h36, .ref h37, .ref h38, .ref h39, .ref h40, .ref h41, .ref h42, .int x43, .int x44, .int x45, .int x46, .int x47])), (h3, .inl (cI, 7, .inl f_1)), (h16, .inl (cI, 7, .inl f48)), (h4, .inl (cI, 7, .inl f49)), (h17, .inl (cI, 7, .inl f50)), (h5, .inl (cI, 7, .inl f51)), (h13, .inl (cI, 4, .inl f52)), (h6, .inl (cI, 4, .inl f53))] := hD
  refine lv_aload_n hx hb dX3_begin_20 rfl (lv_at hl 1 rfl) ?_
  refine va_get (D := D) (ci := 8) (v := .ref h16) (C := RX8) (T := TX8) (N := 18) hx hb hts inX8 hown hG.1 hP 1 rfl rfl 6 (by decide) (hts _ kw223) (fun _ h9 => h9) rfl dX3_begin_21 ?_
  refine lv_iconst (v := 0) hx hb dX3_begin_24 (by decide +kernel) ?_
  refine lv_aload_n hx hb dX3_begin_25 rfl (lv_at hl 0 rfl) ?_
  refine va_get (D := D) (ci := 3) (v := .ref h4) (C := RX3) (T := TX3) (N := 8) hx hb hts inX3 hown hG.1 hP 0 rfl rfl 2 (by decide) (hts _ kw432) (fun _ h9 => h9) rfl dX3_begin_26 ?_
  refine lv_iconst (v := 0) hx hb dX3_begin_29 (by decide +kernel) ?_
  refine lv_bipush (v := 7) hx hb dX3_begin_30 (by decide +kernel) ?_
  refine xa_cpyR (k := 7) hx hb hml hl.1 hown hts kw422 kw424 kw423 kw122 hG hP hD hS 5 6 rfl rfl (by decide +kernel) (by decide +kernel) (by decide +kernel) (by decide +kernel) (by decide +kernel) (by decide +kernel) (by decide +kernel) (by decide +kernel) (Nat.le_of_ble_eq_true rfl) (Nat.le_of_ble_eq_true rfl) dX3_begin_32 (fun f_3 H locs hu hP hD hS => ?_)
  have hP : va_P D vwCl [(h0, .inr (3, [.ref h1, .ref h3, .ref h4, .ref h5, .ref h6, .ref h7, .int x8, .int x9])), (h1, .inr (8, [.int x10, .int x11, .int x12, .ref h13, .ref h14, .ref h15, .ref h16, .ref h17, .ref h18, .ref h19, .ref h20, .ref h21, .ref h22, .int x23, .int x24, .int x25, .int x26, .int x27])), (h15, .inl (cI, 7, .inl f28)), (h2, .inr (8, [.int x30, .int x31, .int x32, .ref h33, .ref h34, .ref h35, .ref h36, .ref h37, .ref h38, .ref h39, .ref h40, .ref h41, .ref h42, .int x43, .int x44, .int x45, .int x46, .int x47])), (h3, .inl (cI, 7, .inl f_1)), (h16, .inl (cI, 7, .inl f48)), (h4, .inl (cI, 7, .inl f_3)), (h17, .inl (cI, 7, .inl f50)), (h5, .inl (cI, 7, .inl f51)), (h13, .inl (cI, 4, .inl f52)), (h6, .inl (cI, 4, .inl f53))] H := hP
  have hD : va_D A [(h0, .inr (3, [.ref h1, .ref h3, .ref h4, .ref h5, .ref h6, .ref h7, .int x8, .int x9])), (h1, .inr (8, [.int x10, .int x11, .int x12, .ref h13, .ref h14, .ref h15, .ref h16, .ref h17, .ref h18, .ref h19, .ref h20, .ref h21, .ref h22, .int x23, .int x24, .int x25, .int x26, .int x27])), (h15, .inl (cI, 7, .inl f28)), (h2, .inr (8, [.int x30, .int x31, .int x32, .ref h33, .ref h34, .ref h35, .ref h36, .ref h37, .ref h38, .ref h39, .ref h40, .ref h41, .ref h42, .int x43, .int x44, .int x45, .int x46, .int x47])), (h3, .inl (cI, 7, .inl f_1)), (h16, .inl (cI, 7, .inl f48)), (h4, .inl (cI, 7, .inl f_3)), (h17, .inl (cI, 7, .inl f50)), (h5, .inl (cI, 7, .inl f51)), (h13, .inl (cI, 4, .inl f52)), (h6, .inl (cI, 4, .inl f53))] := hD
  refine lv_aload_n hx hb dX3_begin_35 rfl (lv_at hl 1 rfl) ?_
  refine va_get (D := D) (ci := 8) (v := .ref h17) (C := RX8) (T := TX8) (N := 18) hx hb hts inX8 hown hG.1 hP 1 rfl rfl 7 (by decide) (hts _ kw226) (fun _ h9 => h9) rfl dX3_begin_36 ?_
  refine lv_iconst (v := 0) hx hb dX3_begin_39 (by decide +kernel) ?_
  refine lv_aload_n hx hb dX3_begin_40 rfl (lv_at hl 0 rfl) ?_
  refine va_get (D := D) (ci := 3) (v := .ref h5) (C := RX3) (T := TX3) (N := 8) hx hb hts inX3 hown hG.1 hP 0 rfl rfl 3 (by decide) (hts _ kw435) (fun _ h9 => h9) rfl dX3_begin_41 ?_
  refine lv_iconst (v := 0) hx hb dX3_begin_44 (by decide +kernel) ?_
  refine lv_bipush (v := 7) hx hb dX3_begin_45 (by decide +kernel) ?_
  refine xa_cpyR (k := 7) hx hb hml hl.1 hown hts kw422 kw424 kw423 kw122 hG hP hD hS 7 8 rfl rfl (by decide +kernel) (by decide +kernel) (by decide +kernel) (by decide +kernel) (by decide +kernel) (by decide +kernel) (by decide +kernel) (by decide +kernel) (Nat.le_of_ble_eq_true rfl) (Nat.le_of_ble_eq_true rfl) dX3_begin_47 (fun f_4 H locs hu hP hD hS => ?_)
  have hP : va_P D vwCl [(h0, .inr (3, [.ref h1, .ref h3, .ref h4, .ref h5, .ref h6, .ref h7, .int x8, .int x9])), (h1, .inr (8, [.int x10, .int x11, .int x12, .ref h13, .ref h14, .ref h15, .ref h16, .ref h17, .ref h18, .ref h19, .ref h20, .ref h21, .ref h22, .int x23, .int x24, .int x25, .int x26, .int x27])), (h15, .inl (cI, 7, .inl f28)), (h2, .inr (8, [.int x30, .int x31, .int x32, .ref h33, .ref h34, .ref h35, .ref h36, .ref h37, .ref h38, .ref h39, .ref h40, .ref h41, .ref h42, .int x43, .int x44, .int x45, .int x46, .int x47])), (h3, .inl (cI, 7, .inl f_1)), (h16, .inl (cI, 7, .inl f48)), (h4, .inl (cI, 7, .inl f_3)), (h17, .inl (cI, 7, .inl f50)), (h5, .inl (cI, 7, .inl f_4)), (h13, .inl (cI, 4, .inl f52)), (h6, .inl (cI, 4, .inl f53))] H := hP
  have hD : va_D A [(h0, .inr (3, [.ref h1, .ref h3, .ref h4, .ref h5, .ref h6, .ref h7, .int x8, .int x9])), (h1, .inr (8, [.int x10, .int x11, .int x12, .ref h13, .ref h14, .ref h15, .ref h16, .ref h17, .ref h18, .ref h19, .ref h20, .ref h21, .ref h22, .int x23, .int x24, .int x25, .int x26, .int x27])), (h15, .inl (cI, 7, .inl f28)), (h2, .inr (8, [.int x30, .int x31, .int x32, .ref h33, .ref h34, .ref h35, .ref h36, .ref h37, .ref h38, .ref h39, .ref h40, .ref h41, .ref h42, .int x43, .int x44, .int x45, .int x46, .int x47])), (h3, .inl (cI, 7, .inl f_1)), (h16, .inl (cI, 7, .inl f48)), (h4, .inl (cI, 7, .inl f_3)), (h17, .inl (cI, 7, .inl f50)), (h5, .inl (cI, 7, .inl f_4)), (h13, .inl (cI, 4, .inl f52)), (h6, .inl (cI, 4, .inl f53))] := hD
  refine lv_aload_n hx hb dX3_begin_50 rfl (lv_at hl 1 rfl) ?_
  refine va_get (D := D) (ci := 8) (v := .ref h13) (C := RX8) (T := TX8) (N := 18) hx hb hts inX8 hown hG.1 hP 1 rfl rfl 3 (by decide) (hts _ kw213) (fun _ h9 => h9) rfl dX3_begin_51 ?_
  refine lv_iconst (v := 0) hx hb dX3_begin_54 (by decide +kernel) ?_
  refine lv_aload_n hx hb dX3_begin_55 rfl (lv_at hl 0 rfl) ?_
  refine va_get (D := D) (ci := 3) (v := .ref h6) (C := RX3) (T := TX3) (N := 8) hx hb hts inX3 hown hG.1 hP 0 rfl rfl 4 (by decide) (hts _ kw438) (fun _ h9 => h9) rfl dX3_begin_56 ?_
  refine lv_iconst (v := 0) hx hb dX3_begin_59 (by decide +kernel) ?_
  refine lv_iconst (v := 4) hx hb dX3_begin_60 (by decide +kernel) ?_
  refine xa_cpyR (k := 4) hx hb hml hl.1 hown hts kw422 kw424 kw423 kw122 hG hP hD hS 9 10 rfl rfl (by decide +kernel) (by decide +kernel) (by decide +kernel) (by decide +kernel) (by decide +kernel) (by decide +kernel) (by decide +kernel) (by decide +kernel) (Nat.le_of_ble_eq_true rfl) (Nat.le_of_ble_eq_true rfl) dX3_begin_61 (fun f_5 H locs hu hP hD hS => ?_)
  have hP : va_P D vwCl [(h0, .inr (3, [.ref h1, .ref h3, .ref h4, .ref h5, .ref h6, .ref h7, .int x8, .int x9])), (h1, .inr (8, [.int x10, .int x11, .int x12, .ref h13, .ref h14, .ref h15, .ref h16, .ref h17, .ref h18, .ref h19, .ref h20, .ref h21, .ref h22, .int x23, .int x24, .int x25, .int x26, .int x27])), (h15, .inl (cI, 7, .inl f28)), (h2, .inr (8, [.int x30, .int x31, .int x32, .ref h33, .ref h34, .ref h35, .ref h36, .ref h37, .ref h38, .ref h39, .ref h40, .ref h41, .ref h42, .int x43, .int x44, .int x45, .int x46, .int x47])), (h3, .inl (cI, 7, .inl f_1)), (h16, .inl (cI, 7, .inl f48)), (h4, .inl (cI, 7, .inl f_3)), (h17, .inl (cI, 7, .inl f50)), (h5, .inl (cI, 7, .inl f_4)), (h13, .inl (cI, 4, .inl f52)), (h6, .inl (cI, 4, .inl f_5))] H := hP
  have hD : va_D A [(h0, .inr (3, [.ref h1, .ref h3, .ref h4, .ref h5, .ref h6, .ref h7, .int x8, .int x9])), (h1, .inr (8, [.int x10, .int x11, .int x12, .ref h13, .ref h14, .ref h15, .ref h16, .ref h17, .ref h18, .ref h19, .ref h20, .ref h21, .ref h22, .int x23, .int x24, .int x25, .int x26, .int x27])), (h15, .inl (cI, 7, .inl f28)), (h2, .inr (8, [.int x30, .int x31, .int x32, .ref h33, .ref h34, .ref h35, .ref h36, .ref h37, .ref h38, .ref h39, .ref h40, .ref h41, .ref h42, .int x43, .int x44, .int x45, .int x46, .int x47])), (h3, .inl (cI, 7, .inl f_1)), (h16, .inl (cI, 7, .inl f48)), (h4, .inl (cI, 7, .inl f_3)), (h17, .inl (cI, 7, .inl f50)), (h5, .inl (cI, 7, .inl f_4)), (h13, .inl (cI, 4, .inl f52)), (h6, .inl (cI, 4, .inl f_5))] := hD
  refine lv_aload_n hx hb dX3_begin_64 rfl (lv_at hl 0 rfl) ?_
  refine lv_iconst (v := 0) hx hb dX3_begin_65 (by decide +kernel) ?_
  refine va_put (D := D) (ci := 3) (v := .int 0) (ty := .int) (C := RX3) (T := TX3) (N := 8) hx hb hts inX3 tyX3 tyX3_ok nmX3 hown hG.1 hP hD hS 0 rfl rfl 6 (by decide) (hts _ kw441) (fun _ h9 => h9) rfl (by decide +kernel) rfl rfl (Nat.le_of_ble_eq_true rfl) dX3_begin_66 (fun H locs hP hD hS => ?_)
  have hP : va_P D vwCl [(h0, .inr (3, [.ref h1, .ref h3, .ref h4, .ref h5, .ref h6, .ref h7, .int 0, .int x9])), (h1, .inr (8, [.int x10, .int x11, .int x12, .ref h13, .ref h14, .ref h15, .ref h16, .ref h17, .ref h18, .ref h19, .ref h20, .ref h21, .ref h22, .int x23, .int x24, .int x25, .int x26, .int x27])), (h15, .inl (cI, 7, .inl f28)), (h2, .inr (8, [.int x30, .int x31, .int x32, .ref h33, .ref h34, .ref h35, .ref h36, .ref h37, .ref h38, .ref h39, .ref h40, .ref h41, .ref h42, .int x43, .int x44, .int x45, .int x46, .int x47])), (h3, .inl (cI, 7, .inl f_1)), (h16, .inl (cI, 7, .inl f48)), (h4, .inl (cI, 7, .inl f_3)), (h17, .inl (cI, 7, .inl f50)), (h5, .inl (cI, 7, .inl f_4)), (h13, .inl (cI, 4, .inl f52)), (h6, .inl (cI, 4, .inl f_5))] H := hP
  have hD : va_D A [(h0, .inr (3, [.ref h1, .ref h3, .ref h4, .ref h5, .ref h6, .ref h7, .int 0, .int x9])), (h1, .inr (8, [.int x10, .int x11, .int x12, .ref h13, .ref h14, .ref h15, .ref h16, .ref h17, .ref h18, .ref h19, .ref h20, .ref h21, .ref h22, .int x23, .int x24, .int x25, .int x26, .int x27])), (h15, .inl (cI, 7, .inl f28)), (h2, .inr (8, [.int x30, .int x31, .int x32, .ref h33, .ref h34, .ref h35, .ref h36, .ref h37, .ref h38, .ref h39, .ref h40, .ref h41, .ref h42, .int x43, .int x44, .int x45, .int x46, .int x47])), (h3, .inl (cI, 7, .inl f_1)), (h16, .inl (cI, 7, .inl f48)), (h4, .inl (cI, 7, .inl f_3)), (h17, .inl (cI, 7, .inl f50)), (h5, .inl (cI, 7, .inl f_4)), (h13, .inl (cI, 4, .inl f52)), (h6, .inl (cI, 4, .inl f_5))] := hD
  refine lv_aload_n hx hb dX3_begin_69 rfl (lv_at hl 0 rfl) ?_
  refine lv_aload_n hx hb dX3_begin_70 rfl (lv_at hl 1 rfl) ?_
  refine va_get (D := D) (ci := 8) (v := .int x26) (C := RX8) (T := TX8) (N := 18) hx hb hts inX8 hown hG.1 hP 1 rfl rfl 16 (by decide) (hts _ kw256) (fun _ h9 => h9) rfl dX3_begin_71 ?_
  refine va_put (D := D) (ci := 3) (v := .int x26) (ty := .int) (C := RX3) (T := TX3) (N := 8) hx hb hts inX3 tyX3 tyX3_ok nmX3 hown hG.1 hP hD hS 0 rfl rfl 7 (by decide) (hts _ kw443) (fun _ h9 => h9) rfl (by decide +kernel) rfl rfl (Nat.le_of_ble_eq_true rfl) dX3_begin_74 (fun H locs hP hD hS => ?_)
  have hP : va_P D vwCl [(h0, .inr (3, [.ref h1, .ref h3, .ref h4, .ref h5, .ref h6, .ref h7, .int 0, .int x26])), (h1, .inr (8, [.int x10, .int x11, .int x12, .ref h13, .ref h14, .ref h15, .ref h16, .ref h17, .ref h18, .ref h19, .ref h20, .ref h21, .ref h22, .int x23, .int x24, .int x25, .int x26, .int x27])), (h15, .inl (cI, 7, .inl f28)), (h2, .inr (8, [.int x30, .int x31, .int x32, .ref h33, .ref h34, .ref h35, .ref h36, .ref h37, .ref h38, .ref h39, .ref h40, .ref h41, .ref h42, .int x43, .int x44, .int x45, .int x46, .int x47])), (h3, .inl (cI, 7, .inl f_1)), (h16, .inl (cI, 7, .inl f48)), (h4, .inl (cI, 7, .inl f_3)), (h17, .inl (cI, 7, .inl f50)), (h5, .inl (cI, 7, .inl f_4)), (h13, .inl (cI, 4, .inl f52)), (h6, .inl (cI, 4, .inl f_5))] H := hP
  have hD : va_D A [(h0, .inr (3, [.ref h1, .ref h3, .ref h4, .ref h5, .ref h6, .ref h7, .int 0, .int x26])), (h1, .inr (8, [.int x10, .int x11, .int x12, .ref h13, .ref h14, .ref h15, .ref h16, .ref h17, .ref h18, .ref h19, .ref h20, .ref h21, .ref h22, .int x23, .int x24, .int x25, .int x26, .int x27])), (h15, .inl (cI, 7, .inl f28)), (h2, .inr (8, [.int x30, .int x31, .int x32, .ref h33, .ref h34, .ref h35, .ref h36, .ref h37, .ref h38, .ref h39, .ref h40, .ref h41, .ref h42, .int x43, .int x44, .int x45, .int x46, .int x47])), (h3, .inl (cI, 7, .inl f_1)), (h16, .inl (cI, 7, .inl f48)), (h4, .inl (cI, 7, .inl f_3)), (h17, .inl (cI, 7, .inl f50)), (h5, .inl (cI, 7, .inl f_4)), (h13, .inl (cI, 4, .inl f52)), (h6, .inl (cI, 4, .inl f_5))] := hD
  have hP9 := hP.sub (ws' := [(h0, .inr (3, [.ref h1, .ref h3, .ref h4, .ref h5, .ref h6, .ref h7, .int 0, .int x26])), (h1, .inr (8, [.int x10, .int x11, .int x12, .ref h13, .ref h14, .ref h15, .ref h16, .ref h17, .ref h18, .ref h19, .ref h20, .ref h21, .ref h22, .int x23, .int x24, .int x25, .int x26, .int x27])), (h15, .inl (cI, 7, .inl f28)), (h2, .inr (8, [.int x30, .int x31, .int x32, .ref h33, .ref h34, .ref h35, .ref h36, .ref h37, .ref h38, .ref h39, .ref h40, .ref h41, .ref h42, .int x43, .int x44, .int x45, .int x46, .int x47])), (h3, .inl (cI, 7, .inl f_1)), (h16, .inl (cI, 7, .inl f48)), (h4, .inl (cI, 7, .inl f_3)), (h17, .inl (cI, 7, .inl f50)), (h5, .inl (cI, 7, .inl f_4)), (h13, .inl (cI, 4, .inl f52)), (h6, .inl (cI, 4, .inl f_5))]) [0, 1, 2, 3, 4, 5, 6, 7, 8, 9, 10] rfl
  have hD9 := hD.sub (ws' := [(h0, .inr (3, [.ref h1, .ref h3, .ref h4, .ref h5, .ref h6, .ref h7, .int 0, .int x26])), (h1, .inr (8, [.int x10, .int x11, .int x12, .ref h13, .ref h14, .ref h15, .ref h16, .ref h17, .ref h18, .ref h19, .ref h20, .ref h21, .ref h22, .int x23, .int x24, .int x25, .int x26, .int x27])), (h15, .inl (cI, 7, .inl f28)), (h2, .inr (8, [.int x30, .int x31, .int x32, .ref h33, .ref h34, .ref h35, .ref h36, .ref h37, .ref h38, .ref h39, .ref h40, .ref h41, .ref h42, .int x43, .int x44, .int x45, .int x46, .int x47])), (h3, .inl (cI, 7, .inl f_1)), (h16, .inl (cI, 7, .inl f48)), (h4, .inl (cI, 7, .inl f_3)), (h17, .inl (cI, 7, .inl f50)), (h5, .inl (cI, 7, .inl f_4)), (h13, .inl (cI, 4, .inl f52)), (h6, .inl (cI, 4, .inl f_5))]) [0, 1, 2, 3, 4, 5, 6, 7, 8, 9, 10] (by decide) rfl
  exact xr_v (rm := (rmL 1 0 0)) hx hb hr hlocks hAe hS hP9 hD9 (Nat.le_of_ble_eq_true rfl) (Nat.le_of_ble_eq_true rfl) dX3_begin_77 ⟨f_1, f_3, f_4, f_5, a_2.mono (by omega) (by omega) (by omega), rfl, rfl⟩
theorem dX3_copyFrom_0 : decode cX3_copyFrom 0 = .ok (.aload_n 0, 1) := by decide +kernel
theorem dX3_copyFrom_1 : decode cX3_copyFrom 1 = .ok (.aload_n 1, 1) := by decide +kernel
theorem dX3_copyFrom_2 : decode cX3_copyFrom 2 = .ok (.getfield 33, 3) := by decide +kernel
theorem dX3_copyFrom_5 : decode cX3_copyFrom 5 = .ok (.putfield 33, 3) := by decide +kernel
theorem dX3_copyFrom_8 : decode cX3_copyFrom 8 = .ok (.aload_n 1, 1) := by decide +kernel
theorem dX3_copyFrom_9 : decode cX3_copyFrom 9 = .ok (.getfield 11, 3) := by decide +kernel
theorem dX3_copyFrom_12 : decode cX3_copyFrom 12 = .ok (.iconst 0, 1) := by decide +kernel
theorem dX3_copyFrom_13 : decode cX3_copyFrom 13 = .ok (.aload_n 0, 1) := by decide +kernel
theorem dX3_copyFrom_14 : decode cX3_copyFrom 14 = .ok (.getfield 11, 3) := by decide +kernel
theorem dX3_copyFrom_17 : decode cX3_copyFrom 17 = .ok (.iconst 0, 1) := by decide +kernel
theorem dX3_copyFrom_18 : decode cX3_copyFrom 18 = .ok (.bipush 7, 2) := by decide +kernel
theorem dX3_copyFrom_20 : decode cX3_copyFrom 20 = .ok (.invokestatic 40, 3) := by decide +kernel
theorem dX3_copyFrom_23 : decode cX3_copyFrom 23 = .ok (.aload_n 1, 1) := by decide +kernel
theorem dX3_copyFrom_24 : decode cX3_copyFrom 24 = .ok (.getfield 15, 3) := by decide +kernel
theorem dX3_copyFrom_27 : decode cX3_copyFrom 27 = .ok (.iconst 0, 1) := by decide +kernel
theorem dX3_copyFrom_28 : decode cX3_copyFrom 28 = .ok (.aload_n 0, 1) := by decide +kernel
theorem dX3_copyFrom_29 : decode cX3_copyFrom 29 = .ok (.getfield 15, 3) := by decide +kernel
theorem dX3_copyFrom_32 : decode cX3_copyFrom 32 = .ok (.iconst 0, 1) := by decide +kernel
theorem dX3_copyFrom_33 : decode cX3_copyFrom 33 = .ok (.bipush 7, 2) := by decide +kernel
theorem dX3_copyFrom_35 : decode cX3_copyFrom 35 = .ok (.invokestatic 40, 3) := by decide +kernel
theorem dX3_copyFrom_38 : decode cX3_copyFrom 38 = .ok (.aload_n 1, 1) := by decide +kernel
theorem dX3_copyFrom_39 : decode cX3_copyFrom 39 = .ok (.getfield 18, 3) := by decide +kernel
theorem dX3_copyFrom_42 : decode cX3_copyFrom 42 = .ok (.iconst 0, 1) := by decide +kernel
theorem dX3_copyFrom_43 : decode cX3_copyFrom 43 = .ok (.aload_n 0, 1) := by decide +kernel
theorem dX3_copyFrom_44 : decode cX3_copyFrom 44 = .ok (.getfield 18, 3) := by decide +kernel
theorem dX3_copyFrom_47 : decode cX3_copyFrom 47 = .ok (.iconst 0, 1) := by decide +kernel
theorem dX3_copyFrom_48 : decode cX3_copyFrom 48 = .ok (.bipush 7, 2) := by decide +kernel
theorem dX3_copyFrom_50 : decode cX3_copyFrom 50 = .ok (.invokestatic 40, 3) := by decide +kernel
theorem dX3_copyFrom_53 : decode cX3_copyFrom 53 = .ok (.aload_n 1, 1) := by decide +kernel
theorem dX3_copyFrom_54 : decode cX3_copyFrom 54 = .ok (.getfield 21, 3) := by decide +kernel
theorem dX3_copyFrom_57 : decode cX3_copyFrom 57 = .ok (.iconst 0, 1) := by decide +kernel
theorem dX3_copyFrom_58 : decode cX3_copyFrom 58 = .ok (.aload_n 0, 1) := by decide +kernel
theorem dX3_copyFrom_59 : decode cX3_copyFrom 59 = .ok (.getfield 21, 3) := by decide +kernel
theorem dX3_copyFrom_62 : decode cX3_copyFrom 62 = .ok (.iconst 0, 1) := by decide +kernel
theorem dX3_copyFrom_63 : decode cX3_copyFrom 63 = .ok (.iconst 4, 1) := by decide +kernel
theorem dX3_copyFrom_64 : decode cX3_copyFrom 64 = .ok (.invokestatic 40, 3) := by decide +kernel
theorem dX3_copyFrom_67 : decode cX3_copyFrom 67 = .ok (.aload_n 0, 1) := by decide +kernel
theorem dX3_copyFrom_68 : decode cX3_copyFrom 68 = .ok (.aload_n 1, 1) := by decide +kernel
theorem dX3_copyFrom_69 : decode cX3_copyFrom 69 = .ok (.getfield 49, 3) := by decide +kernel
theorem dX3_copyFrom_72 : decode cX3_copyFrom 72 = .ok (.putfield 49, 3) := by decide +kernel
theorem dX3_copyFrom_75 : decode cX3_copyFrom 75 = .ok (.aload_n 0, 1) := by decide +kernel
theorem dX3_copyFrom_76 : decode cX3_copyFrom 76 = .ok (.aload_n 1, 1) := by decide +kernel
theorem dX3_copyFrom_77 : decode cX3_copyFrom 77 = .ok (.getfield 56, 3) := by decide +kernel
theorem dX3_copyFrom_80 : decode cX3_copyFrom 80 = .ok (.putfield 56, 3) := by decide +kernel
theorem dX3_copyFrom_83 : decode cX3_copyFrom 83 = .ok (.return_, 1) := by decide +kernel
set_option maxHeartbeats 4000000 in
set_option maxRecDepth 100000 in
theorem sX3_copyFrom_1 (l : Launch) (D : va_G) (cB cI cJ cZ : ClassId) (aK aV : Nat → Nat) (h0 : Nat) (h1 : Nat) (h2 : Nat) (h3 : Nat) (h4 : Nat) (h5 : Nat) (h6 : Nat) (h7 : Nat) (x8 : Int32) (x9 : Int32) (h10 : Nat) (h11 : Nat) (h12 : Nat) (h13 : Nat) (h14 : Nat) (h15 : Nat) (x16 : Int32) (x17 : Int32) (f18 : Nat → Int32) (x19 : Int32) (x20 : Int32) (x21 : Int32) (h22 : Nat) (h23 : Nat) (h24 : Nat) (h25 : Nat) (h26 : Nat) (h27 : Nat) (h28 : Nat) (h29 : Nat) (h30 : Nat) (h31 : Nat) (x32 : Int32) (x33 : Int32) (x34 : Int32) (x35 : Int32) (x36 : Int32) (f37 : Nat → Int32) (x38 : Int32) (x39 : Int32) (x40 : Int32) (h41 : Nat) (h42 : Nat) (h43 : Nat) (h44 : Nat) (h45 : Nat) (h46 : Nat) (h47 : Nat) (h48 : Nat) (h49 : Nat) (h50 : Nat) (x51 : Int32) (x52 : Int32) (x53 : Int32) (x54 : Int32) (x55 : Int32) (f56 : Nat → Int32) (f57 : Nat → Int32) (f58 : Nat → Int32) (f59 : Nat → Int32) (f60 : Nat → Int32) (f61 : Nat → Int32) (gh0 : 0 ≤ x9.toInt) (gh1 : 0 ≤ -x9.toInt + 999) (gh2 : 0 ≤ x17.toInt) (gh3 : 0 ≤ -x17.toInt + 999) (gh4 : 0 ≤ x19.toInt) (gh5 : 0 ≤ -x19.toInt + 4) (gh6 : 0 ≤ x20.toInt) (gh7 : 0 ≤ -x20.toInt + 3) (gh8 : 0 ≤ x21.toInt) (gh9 : 0 ≤ -x21.toInt + 7) (gh10 : 0 ≤ x35.toInt + 1) (gh11 : 0 ≤ -x35.toInt + 999) (gh12 : 0 ≤ x38.toInt) (gh13 : 0 ≤ -x38.toInt + 4) (gh14 : 0 ≤ x39.toInt) (gh15 : 0 ≤ -x39.toInt + 3) (gh16 : 0 ≤ x40.toInt) (gh17 : 0 ≤ -x40.toInt + 7) (gh18 : 0 ≤ x54.toInt + 1) (gh19 : 0 ≤ -x54.toInt + 999) (ga0 : AR f18 (0) (3) (x21.toInt)) (ga1 : AR f37 (0) (3) (x40.toInt)) : MX l yX3_copyFrom cX3_copyFrom 2 none (rmL 1 0 0) D cB cI cJ cZ aK aV [.ref h0, .ref h1] [(h1, .inr (3, [.ref h2, .ref h3, .ref h4, .ref h5, .ref h6, .ref h7, .int x8, .int x9])), (h0, .inr (3, [.ref h10, .ref h11, .ref h12, .ref h13, .ref h14, .ref h15, .int x16, .int x17])), (h2, .inr (8, [.int x19, .int x20, .int x21, .ref h22, .ref h23, .ref h24, .ref h25, .ref h26, .ref h27, .ref h28, .ref h29, .ref h30, .ref h31, .int x32, .int x33, .int x34, .int x35, .int x36])), (h3, .inl (cI, 7, .inl f18)), (h10, .inr (8, [.int x38, .int x39, .int x40, .ref h41, .ref h42, .ref h43, .ref h44, .ref h45, .ref h46, .ref h47, .ref h48, .ref h49, .ref h50, .int x51, .int x52, .int x53, .int x54, .int x55])), (h11, .inl (cI, 7, .inl f37)), (h4, .inl (cI, 7, .inl f56)), (h12, .inl (cI, 7, .inl f57)), (h5, .inl (cI, 7, .inl f58)), (h13, .inl (cI, 7, .inl f59)), (h6, .inl (cI, 4, .inl f60)), (h14, .inl (cI, 4, .inl f61))] (fun r w1 => ∃ z1 : Nat → Int32, ∃ z2 : Nat → Int32, ∃ z3 : Nat → Int32, ∃ z4 : Nat → Int32, AR z1 (0) (3) (x21.toInt) ∧ r = none ∧ w1 = [(h1, .inr (3, [.ref h2, .ref h3, .ref h4, .ref h5, .ref h6, .ref h7, .int x8, .int x9])), (h0, .inr (3, [.ref h2, .ref h11, .ref h12, .ref h13, .ref h14, .ref h15, .int x8, .int x9])), (h2, .inr (8, [.int x19, .int x20, .int x21, .ref h22, .ref h23, .ref h24, .ref h25, .ref h26, .ref h27, .ref h28, .ref h29, .ref h30, .ref h31, .int x32, .int x33, .int x34, .int x35, .int x36])), (h3, .inl (cI, 7, .inl f18)), (h10, .inr (8, [.int x38, .int x39, .int x40, .ref h41, .ref h42, .ref h43, .ref h44, .ref h45, .ref h46, .ref h47, .ref h48, .ref h49, .ref h50, .int x51, .int x52, .int x53, .int x54, .int x55])), (h11, .inl (cI, 7, .inl z1)), (h4, .inl (cI, 7, .inl f56)), (h12, .inl (cI, 7, .inl z2)), (h5, .inl (cI, 7, .inl f58)), (h13, .inl (cI, 7, .inl z3)), (h6, .inl (cI, 4, .inl f60)), (h14, .inl (cI, 4, .inl z4))]) := by
  refine MX.intro (by decide) (Nat.le_of_ble_eq_true rfl) ?_
  intro p e s m below meth c A ls hx hb hr hml hown hlocks hnm hts hG hE hA hS hP hD hl hAe
  have hl : lv_has ls 2 [(0, .ref h0), (1, .ref h1)] := hl
  have hown : s.vm.findClass RX3 = some m.cls := hown
  refine lv_aload_n hx hb dX3_copyFrom_0 rfl (lv_at hl 0 rfl) ?_
  refine lv_aload_n hx hb dX3_copyFrom_1 rfl (lv_at hl 1 rfl) ?_
  refine va_get (D := D) (ci := 3) (v := .ref h2) (C := RX3) (T := TX3) (N := 8) hx hb hts inX3 hown hG.1 hP 0 rfl rfl 0 (by decide) (hts _ kw425) (fun _ h9 => h9) rfl dX3_copyFrom_2 ?_
  refine va_put (D := D) (ci := 3) (v := .ref h2) (ty := .object "SpiceSwaps$Told") (C := RX3) (T := TX3) (N := 8) hx hb hts inX3 tyX3 tyX3_ok nmX3 hown hG.1 hP hD hS 1 rfl rfl 0 (by decide) (hts _ kw425) (fun _ h9 => h9) rfl (by decide +kernel) rfl rfl (Nat.le_of_ble_eq_true rfl) dX3_copyFrom_5 (fun H locs hP hD hS => ?_)
  have hP : va_P D vwCl [(h1, .inr (3, [.ref h2, .ref h3, .ref h4, .ref h5, .ref h6, .ref h7, .int x8, .int x9])), (h0, .inr (3, [.ref h2, .ref h11, .ref h12, .ref h13, .ref h14, .ref h15, .int x16, .int x17])), (h2, .inr (8, [.int x19, .int x20, .int x21, .ref h22, .ref h23, .ref h24, .ref h25, .ref h26, .ref h27, .ref h28, .ref h29, .ref h30, .ref h31, .int x32, .int x33, .int x34, .int x35, .int x36])), (h3, .inl (cI, 7, .inl f18)), (h10, .inr (8, [.int x38, .int x39, .int x40, .ref h41, .ref h42, .ref h43, .ref h44, .ref h45, .ref h46, .ref h47, .ref h48, .ref h49, .ref h50, .int x51, .int x52, .int x53, .int x54, .int x55])), (h11, .inl (cI, 7, .inl f37)), (h4, .inl (cI, 7, .inl f56)), (h12, .inl (cI, 7, .inl f57)), (h5, .inl (cI, 7, .inl f58)), (h13, .inl (cI, 7, .inl f59)), (h6, .inl (cI, 4, .inl f60)), (h14, .inl (cI, 4, .inl f61))] H := hP
  have hD : va_D A [(h1, .inr (3, [.ref h2, .ref h3, .ref h4, .ref h5, .ref h6, .ref h7, .int x8, .int x9])), (h0, .inr (3, [.ref h2, .ref h11, .ref h12, .ref h13, .ref h14, .ref h15, .int x16, .int x17])), (h2, .inr (8, [.int x19, .int x20, .int x21, .ref h22, .ref h23, .ref h24, .ref h25, .ref h26, .ref h27, .ref h28, .ref h29, .ref h30, .ref h31, .int x32, .int x33, .int x34, .int x35, .int x36])), (h3, .inl (cI, 7, .inl f18)), (h10, .inr (8, [.int x38, .int x39, .int x40, .ref h41, .ref h42, .ref h43, .ref h44, .ref h45, .ref h46, .ref h47, .ref h48, .ref h49, .ref h50, .int x51, .int x52, .int x53, .int x54, .int x55])), (h11, .inl (cI, 7, .inl f37)), (h4, .inl (cI, 7, .inl f56)), (h12, .inl (cI, 7, .inl f57)), (h5, .inl (cI, 7, .inl f58)), (h13, .inl (cI, 7, .inl f59)), (h6, .inl (cI, 4, .inl f60)), (h14, .inl (cI, 4, .inl f61))] := hD
  refine lv_aload_n hx hb dX3_copyFrom_8 rfl (lv_at hl 1 rfl) ?_
  refine va_get (D := D) (ci := 3) (v := .ref h3) (C := RX3) (T := TX3) (N := 8) hx hb hts inX3 hown hG.1 hP 0 rfl rfl 1 (by decide) (hts _ kw428) (fun _ h9 => h9) rfl dX3_copyFrom_9 ?_
  refine lv_iconst (v := 0) hx hb dX3_copyFrom_12 (by decide +kernel) ?_
  refine lv_aload_n hx hb dX3_copyFrom_13 rfl (lv_at hl 0 rfl) ?_
  refine va_get (D := D) (ci := 3) (v := .ref h11) (C := RX3) (T := TX3) (N := 8) hx hb hts inX3 hown hG.1 hP 1 rfl rfl 1 (by decide) (hts _ kw428) (fun _ h9 => h9) rfl dX3_copyFrom_14 ?_
  refine lv_iconst (v := 0) hx hb dX3_copyFrom_17 (by decide +kernel) ?_
  refine lv_bipush (v := 7) hx hb dX3_copyFrom_18 (by decide +kernel) ?_
  refine xa_cpyR (k := 7) hx hb hml hl.1 hown hts kw422 kw424 kw423 kw122 hG hP hD hS 3 5 rfl rfl (by decide +kernel) (by decide +kernel) (by decide +kernel) (by decide +kernel) (by decide +kernel) (by decide +kernel) (by decide +kernel) (by decide +kernel) (Nat.le_of_ble_eq_true rfl) (Nat.le_of_ble_eq_true rfl) dX3_copyFrom_20 (fun f_1 H locs hu hP hD hS => ?_)
  have a_2 := hu _ _ _ (by omega) ga0
  have hP : va_P D vwCl [(h1, .inr (3, [.ref h2, .ref h3, .ref h4, .ref h5, .ref h6, .ref h7, .int x8, .int x9])), (h0, .inr (3, [.ref h2, .ref h11, .ref h12, .ref h13, .ref h14, .ref h15, .int x16, .int x17])), (h2, .inr (8, [.int x19, .int x20, .int x21, .ref h22, .ref h23, .ref h24, .ref h25, .ref h26, .ref h27, .ref h28, .ref h29, .ref h30, .ref h31, .int x32, .int x33, .int x34, .int x35, .int x36])), (h3, .inl (cI, 7, .inl f18)), (h10, .inr (8, [.int x38, .int x39, .int x40, .ref h41, .ref h42, .ref h43, .ref h44, .ref h45, .ref h46, .ref h47, .ref h48, .ref h49, .ref h50, .int x51, .int x52, .int x53, .int x54, .int x55])), (h11, .inl (cI, 7, .inl f_1)), (h4, .inl (cI, 7, .inl f56)), (h12, .inl (cI, 7, .inl f57)), (h5, .inl (cI, 7, .inl f58)), (h13, .inl (cI, 7, .inl f59)), (h6, .inl (cI, 4, .inl f60)), (h14, .inl (cI, 4, .inl f61))] H := hP
  have hD : va_D A [(h1, .inr (3, [.ref h2, .ref h3, .ref h4, .ref h5, .ref h6, .ref h7, .int x8, .int x9])), (h0, .inr (3, [.ref h2, .ref h11, .ref h12, .ref h13, .ref h14, .ref h15, .int x16, .int x17])), (h2, .inr (8, [.int x19, .int x20, .int x21, .ref h22, .ref h23, .ref h24, .ref h25, .ref h26, .ref h27, .ref h28, .ref h29, .ref h30, .ref h31, .int x32, .int x33, .int x34, .int x35, .int x36])), (h3, .inl (cI, 7, .inl f18)), (h10, .inr (8, [.int x38, .int x39, .int x40, .ref h41, .ref h42, .ref h43, .ref h44, .ref h45, .ref h46, .ref h47, .ref h48, .ref h49, .ref h50, .int x51, .int x52, .int x53, .int x54, .int x55])), (h11, .inl (cI, 7, .inl f_1)), (h4, .inl (cI, 7, .inl f56)), (h12, .inl (cI, 7, .inl f57)), (h5, .inl (cI, 7, .inl f58)), (h13, .inl (cI, 7, .inl f59)), (h6, .inl (cI, 4, .inl f60)), (h14, .inl (cI, 4, .inl f61))] := hD
  refine lv_aload_n hx hb dX3_copyFrom_23 rfl (lv_at hl 1 rfl) ?_
  refine va_get (D := D) (ci := 3) (v := .ref h4) (C := RX3) (T := TX3) (N := 8) hx hb hts inX3 hown hG.1 hP 0 rfl rfl 2 (by decide) (hts _ kw432) (fun _ h9 => h9) rfl dX3_copyFrom_24 ?_
  refine lv_iconst (v := 0) hx hb dX3_copyFrom_27 (by decide +kernel) ?_
  refine lv_aload_n hx hb dX3_copyFrom_28 rfl (lv_at hl 0 rfl) ?_
  refine va_get (D := D) (ci := 3) (v := .ref h12) (C := RX3) (T := TX3) (N := 8) hx hb hts inX3 hown hG.1 hP 1 rfl rfl 2 (by decide) (hts _ kw432) (fun _ h9 => h9) rfl dX3_copyFrom_29 ?_
  refine lv_iconst (v := 0) hx hb dX3_copyFrom_32 (by decide +kernel) ?_
  refine lv_bipush (v := 7) hx hb dX3_copyFrom_33 (by decide +kernel) ?_
  refine xa_cpyR (k := 7) hx hb hml hl.1 hown hts kw422 kw424 kw423 kw122 hG hP hD hS 6 7 rfl rfl (by decide +kernel) (by decide +kernel) (by decide +kernel) (by decide +kernel) (by decide +kernel) (by decide +kernel) (by decide +kernel) (by decide +kernel) (Nat.le_of_ble_eq_true rfl) (Nat.le_of_ble_eq_true rfl) dX3_copyFrom_35 (fun f_3 H locs hu hP hD hS => ?_)
  have hP : va_P D vwCl [(h1, .inr (3, [.ref h2, .ref h3, .ref h4, .ref h5, .ref h6, .ref h7, .int x8, .int x9])), (h0, .inr (3, [.ref h2, .ref h11, .ref h12, .ref h13, .ref h14, .ref h15, .int x16, .int x17])), (h2, .inr (8, [.int x19, .int x20, .int x21, .ref h22, .ref h23, .ref h24, .ref h25, .ref h26, .ref h27, .ref h28, .ref h29, .ref h30, .ref h31, .int x32, .int x33, .int x34, .int x35, .int x36])), (h3, .inl (cI, 7, .inl f18)), (h10, .inr (8, [.int x38, .int x39, .int x40, .ref h41, .ref h42, .ref h43, .ref h44, .ref h45, .ref h46, .ref h47, .ref h48, .ref h49, .ref h50, .int x51, .int x52, .int x53, .int x54, .int x55])), (h11, .inl (cI, 7, .inl f_1)), (h4, .inl (cI, 7, .inl f56)), (h12, .inl (cI, 7, .inl f_3)), (h5, .inl (cI, 7, .inl f58)), (h13, .inl (cI, 7, .inl f59)), (h6, .inl (cI, 4, .inl f60)), (h14, .inl (cI, 4, .inl f61))] H := hP
  have hD : va_D A [(h1, .inr (3, [.ref h2, .ref h3, .ref h4, .ref h5, .ref h6, .ref h7, .int x8, .int x9])), (h0, .inr (3, [.ref h2, .ref h11, .ref h12, .ref h13, .ref h14, .ref h15, .int x16, .int x17])), (h2, .inr (8, [.int x19, .int x20, .int x21, .ref h22, .ref h23, .ref h24, .ref h25, .ref h26, .ref h27, .ref h28, .ref h29, .ref h30, .ref h31, .int x32, .int x33, .int x34, .int x35, .int x36])), (h3, .inl (cI, 7, .inl f18)), (h10, .inr (8, [.int x38, .int x39, .int x40, .ref h41, .ref h42, .ref h43, .ref h44, .ref h45, .ref h46, .ref h47, .ref h48, .ref h49, .ref h50, .int x51, .int x52, .int x53, .int x54, .int x55])), (h11, .inl (cI, 7, .inl f_1)), (h4, .inl (cI, 7, .inl f56)), (h12, .inl (cI, 7, .inl f_3)), (h5, .inl (cI, 7, .inl f58)), (h13, .inl (cI, 7, .inl f59)), (h6, .inl (cI, 4, .inl f60)), (h14, .inl (cI, 4, .inl f61))] := hD
  refine lv_aload_n hx hb dX3_copyFrom_38 rfl (lv_at hl 1 rfl) ?_
  refine va_get (D := D) (ci := 3) (v := .ref h5) (C := RX3) (T := TX3) (N := 8) hx hb hts inX3 hown hG.1 hP 0 rfl rfl 3 (by decide) (hts _ kw435) (fun _ h9 => h9) rfl dX3_copyFrom_39 ?_
  refine lv_iconst (v := 0) hx hb dX3_copyFrom_42 (by decide +kernel) ?_
  refine lv_aload_n hx hb dX3_copyFrom_43 rfl (lv_at hl 0 rfl) ?_
  refine va_get (D := D) (ci := 3) (v := .ref h13) (C := RX3) (T := TX3) (N := 8) hx hb hts inX3 hown hG.1 hP 1 rfl rfl 3 (by decide) (hts _ kw435) (fun _ h9 => h9) rfl dX3_copyFrom_44 ?_
  refine lv_iconst (v := 0) hx hb dX3_copyFrom_47 (by decide +kernel) ?_
  refine lv_bipush (v := 7) hx hb dX3_copyFrom_48 (by decide +kernel) ?_
  refine xa_cpyR (k := 7) hx hb hml hl.1 hown hts kw422 kw424 kw423 kw122 hG hP hD hS 8 9 rfl rfl (by decide +kernel) (by decide +kernel) (by decide +kernel) (by decide +kernel) (by decide +kernel) (by decide +kernel) (by decide +kernel) (by decide +kernel) (Nat.le_of_ble_eq_true rfl) (Nat.le_of_ble_eq_true rfl) dX3_copyFrom_50 (fun f_4 H locs hu hP hD hS => ?_)
  have hP : va_P D vwCl [(h1, .inr (3, [.ref h2, .ref h3, .ref h4, .ref h5, .ref h6, .ref h7, .int x8, .int x9])), (h0, .inr (3, [.ref h2, .ref h11, .ref h12, .ref h13, .ref h14, .ref h15, .int x16, .int x17])), (h2, .inr (8, [.int x19, .int x20, .int x21, .ref h22, .ref h23, .ref h24, .ref h25, .ref h26, .ref h27, .ref h28, .ref h29, .ref h30, .ref h31, .int x32, .int x33, .int x34, .int x35, .int x36])), (h3, .inl (cI, 7, .inl f18)), (h10, .inr (8, [.int x38, .int x39, .int x40, .ref h41, .ref h42, .ref h43, .ref h44, .ref h45, .ref h46, .ref h47, .ref h48, .ref h49, .ref h50, .int x51, .int x52, .int x53, .int x54, .int x55])), (h11, .inl (cI, 7, .inl f_1)), (h4, .inl (cI, 7, .inl f56)), (h12, .inl (cI, 7, .inl f_3)), (h5, .inl (cI, 7, .inl f58)), (h13, .inl (cI, 7, .inl f_4)), (h6, .inl (cI, 4, .inl f60)), (h14, .inl (cI, 4, .inl f61))] H := hP
  have hD : va_D A [(h1, .inr (3, [.ref h2, .ref h3, .ref h4, .ref h5, .ref h6, .ref h7, .int x8, .int x9])), (h0, .inr (3, [.ref h2, .ref h11, .ref h12, .ref h13, .ref h14, .ref h15, .int x16, .int x17])), (h2, .inr (8, [.int x19, .int x20, .int x21, .ref h22, .ref h23, .ref h24, .ref h25, .ref h26, .ref h27, .ref h28, .ref h29, .ref h30, .ref h31, .int x32, .int x33, .int x34, .int x35, .int x36])), (h3, .inl (cI, 7, .inl f18)), (h10, .inr (8, [.int x38, .int x39, .int x40, .ref h41, .ref h42, .ref h43, .ref h44, .ref h45, .ref h46, .ref h47, .ref h48, .ref h49, .ref h50, .int x51, .int x52, .int x53, .int x54, .int x55])), (h11, .inl (cI, 7, .inl f_1)), (h4, .inl (cI, 7, .inl f56)), (h12, .inl (cI, 7, .inl f_3)), (h5, .inl (cI, 7, .inl f58)), (h13, .inl (cI, 7, .inl f_4)), (h6, .inl (cI, 4, .inl f60)), (h14, .inl (cI, 4, .inl f61))] := hD
  refine lv_aload_n hx hb dX3_copyFrom_53 rfl (lv_at hl 1 rfl) ?_
  refine va_get (D := D) (ci := 3) (v := .ref h6) (C := RX3) (T := TX3) (N := 8) hx hb hts inX3 hown hG.1 hP 0 rfl rfl 4 (by decide) (hts _ kw438) (fun _ h9 => h9) rfl dX3_copyFrom_54 ?_
  refine lv_iconst (v := 0) hx hb dX3_copyFrom_57 (by decide +kernel) ?_
  refine lv_aload_n hx hb dX3_copyFrom_58 rfl (lv_at hl 0 rfl) ?_
  refine va_get (D := D) (ci := 3) (v := .ref h14) (C := RX3) (T := TX3) (N := 8) hx hb hts inX3 hown hG.1 hP 1 rfl rfl 4 (by decide) (hts _ kw438) (fun _ h9 => h9) rfl dX3_copyFrom_59 ?_
  refine lv_iconst (v := 0) hx hb dX3_copyFrom_62 (by decide +kernel) ?_
  refine lv_iconst (v := 4) hx hb dX3_copyFrom_63 (by decide +kernel) ?_
  refine xa_cpyR (k := 4) hx hb hml hl.1 hown hts kw422 kw424 kw423 kw122 hG hP hD hS 10 11 rfl rfl (by decide +kernel) (by decide +kernel) (by decide +kernel) (by decide +kernel) (by decide +kernel) (by decide +kernel) (by decide +kernel) (by decide +kernel) (Nat.le_of_ble_eq_true rfl) (Nat.le_of_ble_eq_true rfl) dX3_copyFrom_64 (fun f_5 H locs hu hP hD hS => ?_)
  have hP : va_P D vwCl [(h1, .inr (3, [.ref h2, .ref h3, .ref h4, .ref h5, .ref h6, .ref h7, .int x8, .int x9])), (h0, .inr (3, [.ref h2, .ref h11, .ref h12, .ref h13, .ref h14, .ref h15, .int x16, .int x17])), (h2, .inr (8, [.int x19, .int x20, .int x21, .ref h22, .ref h23, .ref h24, .ref h25, .ref h26, .ref h27, .ref h28, .ref h29, .ref h30, .ref h31, .int x32, .int x33, .int x34, .int x35, .int x36])), (h3, .inl (cI, 7, .inl f18)), (h10, .inr (8, [.int x38, .int x39, .int x40, .ref h41, .ref h42, .ref h43, .ref h44, .ref h45, .ref h46, .ref h47, .ref h48, .ref h49, .ref h50, .int x51, .int x52, .int x53, .int x54, .int x55])), (h11, .inl (cI, 7, .inl f_1)), (h4, .inl (cI, 7, .inl f56)), (h12, .inl (cI, 7, .inl f_3)), (h5, .inl (cI, 7, .inl f58)), (h13, .inl (cI, 7, .inl f_4)), (h6, .inl (cI, 4, .inl f60)), (h14, .inl (cI, 4, .inl f_5))] H := hP
  have hD : va_D A [(h1, .inr (3, [.ref h2, .ref h3, .ref h4, .ref h5, .ref h6, .ref h7, .int x8, .int x9])), (h0, .inr (3, [.ref h2, .ref h11, .ref h12, .ref h13, .ref h14, .ref h15, .int x16, .int x17])), (h2, .inr (8, [.int x19, .int x20, .int x21, .ref h22, .ref h23, .ref h24, .ref h25, .ref h26, .ref h27, .ref h28, .ref h29, .ref h30, .ref h31, .int x32, .int x33, .int x34, .int x35, .int x36])), (h3, .inl (cI, 7, .inl f18)), (h10, .inr (8, [.int x38, .int x39, .int x40, .ref h41, .ref h42, .ref h43, .ref h44, .ref h45, .ref h46, .ref h47, .ref h48, .ref h49, .ref h50, .int x51, .int x52, .int x53, .int x54, .int x55])), (h11, .inl (cI, 7, .inl f_1)), (h4, .inl (cI, 7, .inl f56)), (h12, .inl (cI, 7, .inl f_3)), (h5, .inl (cI, 7, .inl f58)), (h13, .inl (cI, 7, .inl f_4)), (h6, .inl (cI, 4, .inl f60)), (h14, .inl (cI, 4, .inl f_5))] := hD
  refine lv_aload_n hx hb dX3_copyFrom_67 rfl (lv_at hl 0 rfl) ?_
  refine lv_aload_n hx hb dX3_copyFrom_68 rfl (lv_at hl 1 rfl) ?_
  refine va_get (D := D) (ci := 3) (v := .int x8) (C := RX3) (T := TX3) (N := 8) hx hb hts inX3 hown hG.1 hP 0 rfl rfl 6 (by decide) (hts _ kw441) (fun _ h9 => h9) rfl dX3_copyFrom_69 ?_
  refine va_put (D := D) (ci := 3) (v := .int x8) (ty := .int) (C := RX3) (T := TX3) (N := 8) hx hb hts inX3 tyX3 tyX3_ok nmX3 hown hG.1 hP hD hS 1 rfl rfl 6 (by decide) (hts _ kw441) (fun _ h9 => h9) rfl (by decide +kernel) rfl rfl (Nat.le_of_ble_eq_true rfl) dX3_copyFrom_72 (fun H locs hP hD hS => ?_)
  have hP : va_P D vwCl [(h1, .inr (3, [.ref h2, .ref h3, .ref h4, .ref h5, .ref h6, .ref h7, .int x8, .int x9])), (h0, .inr (3, [.ref h2, .ref h11, .ref h12, .ref h13, .ref h14, .ref h15, .int x8, .int x17])), (h2, .inr (8, [.int x19, .int x20, .int x21, .ref h22, .ref h23, .ref h24, .ref h25, .ref h26, .ref h27, .ref h28, .ref h29, .ref h30, .ref h31, .int x32, .int x33, .int x34, .int x35, .int x36])), (h3, .inl (cI, 7, .inl f18)), (h10, .inr (8, [.int x38, .int x39, .int x40, .ref h41, .ref h42, .ref h43, .ref h44, .ref h45, .ref h46, .ref h47, .ref h48, .ref h49, .ref h50, .int x51, .int x52, .int x53, .int x54, .int x55])), (h11, .inl (cI, 7, .inl f_1)), (h4, .inl (cI, 7, .inl f56)), (h12, .inl (cI, 7, .inl f_3)), (h5, .inl (cI, 7, .inl f58)), (h13, .inl (cI, 7, .inl f_4)), (h6, .inl (cI, 4, .inl f60)), (h14, .inl (cI, 4, .inl f_5))] H := hP
  have hD : va_D A [(h1, .inr (3, [.ref h2, .ref h3, .ref h4, .ref h5, .ref h6, .ref h7, .int x8, .int x9])), (h0, .inr (3, [.ref h2, .ref h11, .ref h12, .ref h13, .ref h14, .ref h15, .int x8, .int x17])), (h2, .inr (8, [.int x19, .int x20, .int x21, .ref h22, .ref h23, .ref h24, .ref h25, .ref h26, .ref h27, .ref h28, .ref h29, .ref h30, .ref h31, .int x32, .int x33, .int x34, .int x35, .int x36])), (h3, .inl (cI, 7, .inl f18)), (h10, .inr (8, [.int x38, .int x39, .int x40, .ref h41, .ref h42, .ref h43, .ref h44, .ref h45, .ref h46, .ref h47, .ref h48, .ref h49, .ref h50, .int x51, .int x52, .int x53, .int x54, .int x55])), (h11, .inl (cI, 7, .inl f_1)), (h4, .inl (cI, 7, .inl f56)), (h12, .inl (cI, 7, .inl f_3)), (h5, .inl (cI, 7, .inl f58)), (h13, .inl (cI, 7, .inl f_4)), (h6, .inl (cI, 4, .inl f60)), (h14, .inl (cI, 4, .inl f_5))] := hD
  refine lv_aload_n hx hb dX3_copyFrom_75 rfl (lv_at hl 0 rfl) ?_
  refine lv_aload_n hx hb dX3_copyFrom_76 rfl (lv_at hl 1 rfl) ?_
  refine va_get (D := D) (ci := 3) (v := .int x9) (C := RX3) (T := TX3) (N := 8) hx hb hts inX3 hown hG.1 hP 0 rfl rfl 7 (by decide) (hts _ kw443) (fun _ h9 => h9) rfl dX3_copyFrom_77 ?_
  refine va_put (D := D) (ci := 3) (v := .int x9) (ty := .int) (C := RX3) (T := TX3) (N := 8) hx hb hts inX3 tyX3 tyX3_ok nmX3 hown hG.1 hP hD hS 1 rfl rfl 7 (by decide) (hts _ kw443) (fun _ h9 => h9) rfl (by decide +kernel) rfl rfl (Nat.le_of_ble_eq_true rfl) dX3_copyFrom_80 (fun H locs hP hD hS => ?_)
  have hP : va_P D vwCl [(h1, .inr (3, [.ref h2, .ref h3, .ref h4, .ref h5, .ref h6, .ref h7, .int x8, .int x9])), (h0, .inr (3, [.ref h2, .ref h11, .ref h12, .ref h13, .ref h14, .ref h15, .int x8, .int x9])), (h2, .inr (8, [.int x19, .int x20, .int x21, .ref h22, .ref h23, .ref h24, .ref h25, .ref h26, .ref h27, .ref h28, .ref h29, .ref h30, .ref h31, .int x32, .int x33, .int x34, .int x35, .int x36])), (h3, .inl (cI, 7, .inl f18)), (h10, .inr (8, [.int x38, .int x39, .int x40, .ref h41, .ref h42, .ref h43, .ref h44, .ref h45, .ref h46, .ref h47, .ref h48, .ref h49, .ref h50, .int x51, .int x52, .int x53, .int x54, .int x55])), (h11, .inl (cI, 7, .inl f_1)), (h4, .inl (cI, 7, .inl f56)), (h12, .inl (cI, 7, .inl f_3)), (h5, .inl (cI, 7, .inl f58)), (h13, .inl (cI, 7, .inl f_4)), (h6, .inl (cI, 4, .inl f60)), (h14, .inl (cI, 4, .inl f_5))] H := hP
  have hD : va_D A [(h1, .inr (3, [.ref h2, .ref h3, .ref h4, .ref h5, .ref h6, .ref h7, .int x8, .int x9])), (h0, .inr (3, [.ref h2, .ref h11, .ref h12, .ref h13, .ref h14, .ref h15, .int x8, .int x9])), (h2, .inr (8, [.int x19, .int x20, .int x21, .ref h22, .ref h23, .ref h24, .ref h25, .ref h26, .ref h27, .ref h28, .ref h29, .ref h30, .ref h31, .int x32, .int x33, .int x34, .int x35, .int x36])), (h3, .inl (cI, 7, .inl f18)), (h10, .inr (8, [.int x38, .int x39, .int x40, .ref h41, .ref h42, .ref h43, .ref h44, .ref h45, .ref h46, .ref h47, .ref h48, .ref h49, .ref h50, .int x51, .int x52, .int x53, .int x54, .int x55])), (h11, .inl (cI, 7, .inl f_1)), (h4, .inl (cI, 7, .inl f56)), (h12, .inl (cI, 7, .inl f_3)), (h5, .inl (cI, 7, .inl f58)), (h13, .inl (cI, 7, .inl f_4)), (h6, .inl (cI, 4, .inl f60)), (h14, .inl (cI, 4, .inl f_5))] := hD
  have hP9 := hP.sub (ws' := [(h1, .inr (3, [.ref h2, .ref h3, .ref h4, .ref h5, .ref h6, .ref h7, .int x8, .int x9])), (h0, .inr (3, [.ref h2, .ref h11, .ref h12, .ref h13, .ref h14, .ref h15, .int x8, .int x9])), (h2, .inr (8, [.int x19, .int x20, .int x21, .ref h22, .ref h23, .ref h24, .ref h25, .ref h26, .ref h27, .ref h28, .ref h29, .ref h30, .ref h31, .int x32, .int x33, .int x34, .int x35, .int x36])), (h3, .inl (cI, 7, .inl f18)), (h10, .inr (8, [.int x38, .int x39, .int x40, .ref h41, .ref h42, .ref h43, .ref h44, .ref h45, .ref h46, .ref h47, .ref h48, .ref h49, .ref h50, .int x51, .int x52, .int x53, .int x54, .int x55])), (h11, .inl (cI, 7, .inl f_1)), (h4, .inl (cI, 7, .inl f56)), (h12, .inl (cI, 7, .inl f_3)), (h5, .inl (cI, 7, .inl f58)), (h13, .inl (cI, 7, .inl f_4)), (h6, .inl (cI, 4, .inl f60)), (h14, .inl (cI, 4, .inl f_5))]) [0, 1, 2, 3, 4, 5, 6, 7, 8, 9, 10, 11] rfl
  have hD9 := hD.sub (ws' := [(h1, .inr (3, [.ref h2, .ref h3, .ref h4, .ref h5, .ref h6, .ref h7, .int x8, .int x9])), (h0, .inr (3, [.ref h2, .ref h11, .ref h12, .ref h13, .ref h14, .ref h15, .int x8, .int x9])), (h2, .inr (8, [.int x19, .int x20, .int x21, .ref h22, .ref h23, .ref h24, .ref h25, .ref h26, .ref h27, .ref h28, .ref h29, .ref h30, .ref h31, .int x32, .int x33, .int x34, .int x35, .int x36])), (h3, .inl (cI, 7, .inl f18)), (h10, .inr (8, [.int x38, .int x39, .int x40, .ref h41, .ref h42, .ref h43, .ref h44, .ref h45, .ref h46, .ref h47, .ref h48, .ref h49, .ref h50, .int x51, .int x52, .int x53, .int x54, .int x55])), (h11, .inl (cI, 7, .inl f_1)), (h4, .inl (cI, 7, .inl f56)), (h12, .inl (cI, 7, .inl f_3)), (h5, .inl (cI, 7, .inl f58)), (h13, .inl (cI, 7, .inl f_4)), (h6, .inl (cI, 4, .inl f60)), (h14, .inl (cI, 4, .inl f_5))]) [0, 1, 2, 3, 4, 5, 6, 7, 8, 9, 10, 11] (by decide) rfl
  exact xr_v (rm := (rmL 1 0 0)) hx hb hr hlocks hAe hS hP9 hD9 (Nat.le_of_ble_eq_true rfl) (Nat.le_of_ble_eq_true rfl) dX3_copyFrom_83 ⟨f_1, f_3, f_4, f_5, a_2.mono (by omega) (by omega) (by omega), rfl, rfl⟩
