-- ===== PART A: goes FIRST, ahead of the names: the tables' words, and 'selects' of the private methods out of them =====
/-- a private method of a class that the tables say can be made, by its rows of tables_1 -/
def lw_okq (q : MethodName × Nat) : Prop := (q.1.cls ≠ "java/lang/invoke/MethodHandle" ∧ q.1.cls ≠ "java/lang/invoke/VarHandle") ∧ Cond.instantiable q.1.cls q.2 ∈ tables_1 ∧ Cond.privateMethod q.1 ∈ tables_1 ∧ Cond.instanceMethod q.1 ∈ tables_1
theorem lw_p0 : lw_okq (⟨"SpiceSwaps$Reader", "step", "()V"⟩, 16) := ⟨⟨by decide +kernel, by decide +kernel⟩, List.mem_of_getElem? (i := 187) (by decide +kernel), List.mem_of_getElem? (i := 544) (by decide +kernel), List.mem_of_getElem? (i := 545) (by decide +kernel)⟩
theorem lw_p1 : lw_okq (⟨"SpiceSwaps$Reader", "stepOverWord", "()V"⟩, 16) := ⟨⟨by decide +kernel, by decide +kernel⟩, List.mem_of_getElem? (i := 187) (by decide +kernel), List.mem_of_getElem? (i := 548) (by decide +kernel), List.mem_of_getElem? (i := 549) (by decide +kernel)⟩
theorem lw_p2 : lw_okq (⟨"SpiceSwaps$Reader", "stepOverNumber", "()V"⟩, 16) := ⟨⟨by decide +kernel, by decide +kernel⟩, List.mem_of_getElem? (i := 187) (by decide +kernel), List.mem_of_getElem? (i := 552) (by decide +kernel), List.mem_of_getElem? (i := 553) (by decide +kernel)⟩
theorem lw_p3 : lw_okq (⟨"SpiceSwaps$Reader", "readCourt", "()V"⟩, 16) := ⟨⟨by decide +kernel, by decide +kernel⟩, List.mem_of_getElem? (i := 187) (by decide +kernel), List.mem_of_getElem? (i := 614) (by decide +kernel), List.mem_of_getElem? (i := 615) (by decide +kernel)⟩
theorem lw_p4 : lw_okq (⟨"SpiceSwaps$Reader", "fail", "(I)V"⟩, 16) := ⟨⟨by decide +kernel, by decide +kernel⟩, List.mem_of_getElem? (i := 187) (by decide +kernel), List.mem_of_getElem? (i := 618) (by decide +kernel), List.mem_of_getElem? (i := 619) (by decide +kernel)⟩
theorem lw_p5 : lw_okq (⟨"SpiceSwaps$Reader", "takeNewName", "([JI)V"⟩, 16) := ⟨⟨by decide +kernel, by decide +kernel⟩, List.mem_of_getElem? (i := 187) (by decide +kernel), List.mem_of_getElem? (i := 622) (by decide +kernel), List.mem_of_getElem? (i := 623) (by decide +kernel)⟩
theorem lw_p6 : lw_okq (⟨"SpiceSwaps$Reader", "findName", "([JI)I"⟩, 16) := ⟨⟨by decide +kernel, by decide +kernel⟩, List.mem_of_getElem? (i := 187) (by decide +kernel), List.mem_of_getElem? (i := 626) (by decide +kernel), List.mem_of_getElem? (i := 627) (by decide +kernel)⟩
theorem lw_p7 : lw_okq (⟨"SpiceSwaps$Reader", "take", "(I)V"⟩, 16) := ⟨⟨by decide +kernel, by decide +kernel⟩, List.mem_of_getElem? (i := 187) (by decide +kernel), List.mem_of_getElem? (i := 630) (by decide +kernel), List.mem_of_getElem? (i := 631) (by decide +kernel)⟩
theorem lw_p8 : lw_okq (⟨"SpiceSwaps$Reader", "takeNumber", "(II)I"⟩, 16) := ⟨⟨by decide +kernel, by decide +kernel⟩, List.mem_of_getElem? (i := 187) (by decide +kernel), List.mem_of_getElem? (i := 634) (by decide +kernel), List.mem_of_getElem? (i := 635) (by decide +kernel)⟩
theorem lw_p9 : lw_okq (⟨"SpiceSwaps$Reader", "readCrop", "()V"⟩, 16) := ⟨⟨by decide +kernel, by decide +kernel⟩, List.mem_of_getElem? (i := 187) (by decide +kernel), List.mem_of_getElem? (i := 638) (by decide +kernel), List.mem_of_getElem? (i := 639) (by decide +kernel)⟩
theorem lw_p10 : lw_okq (⟨"SpiceSwaps$Reader", "readPlace", "()V"⟩, 16) := ⟨⟨by decide +kernel, by decide +kernel⟩, List.mem_of_getElem? (i := 187) (by decide +kernel), List.mem_of_getElem? (i := 642) (by decide +kernel), List.mem_of_getElem? (i := 643) (by decide +kernel)⟩
theorem lw_p11 : lw_okq (⟨"SpiceSwaps$Reader", "takeKnownName", "([JI)I"⟩, 16) := ⟨⟨by decide +kernel, by decide +kernel⟩, List.mem_of_getElem? (i := 187) (by decide +kernel), List.mem_of_getElem? (i := 646) (by decide +kernel), List.mem_of_getElem? (i := 647) (by decide +kernel)⟩
theorem lw_p12 : lw_okq (⟨"SpiceSwaps$Reader", "takeIfThere", "(I)Z"⟩, 16) := ⟨⟨by decide +kernel, by decide +kernel⟩, List.mem_of_getElem? (i := 187) (by decide +kernel), List.mem_of_getElem? (i := 650) (by decide +kernel), List.mem_of_getElem? (i := 651) (by decide +kernel)⟩
theorem lw_p13 : lw_okq (⟨"SpiceSwaps$Reader", "readBelief", "()V"⟩, 16) := ⟨⟨by decide +kernel, by decide +kernel⟩, List.mem_of_getElem? (i := 187) (by decide +kernel), List.mem_of_getElem? (i := 654) (by decide +kernel), List.mem_of_getElem? (i := 655) (by decide +kernel)⟩
theorem lw_p14 : lw_okq (⟨"SpiceSwaps$Reader", "readFormula", "(LSpiceSwaps$Formula;)V"⟩, 16) := ⟨⟨by decide +kernel, by decide +kernel⟩, List.mem_of_getElem? (i := 187) (by decide +kernel), List.mem_of_getElem? (i := 666) (by decide +kernel), List.mem_of_getElem? (i := 667) (by decide +kernel)⟩
theorem lw_p15 : lw_okq (⟨"SpiceSwaps$Reader", "readJoined", "(II)V"⟩, 16) := ⟨⟨by decide +kernel, by decide +kernel⟩, List.mem_of_getElem? (i := 187) (by decide +kernel), List.mem_of_getElem? (i := 670) (by decide +kernel), List.mem_of_getElem? (i := 671) (by decide +kernel)⟩
def lw_privs_1 : List (MethodName × Nat) := [(⟨"SpiceSwaps$Reader", "step", "()V"⟩, 16), (⟨"SpiceSwaps$Reader", "stepOverWord", "()V"⟩, 16), (⟨"SpiceSwaps$Reader", "stepOverNumber", "()V"⟩, 16), (⟨"SpiceSwaps$Reader", "readCourt", "()V"⟩, 16), (⟨"SpiceSwaps$Reader", "fail", "(I)V"⟩, 16), (⟨"SpiceSwaps$Reader", "takeNewName", "([JI)V"⟩, 16), (⟨"SpiceSwaps$Reader", "findName", "([JI)I"⟩, 16), (⟨"SpiceSwaps$Reader", "take", "(I)V"⟩, 16), (⟨"SpiceSwaps$Reader", "takeNumber", "(II)I"⟩, 16), (⟨"SpiceSwaps$Reader", "readCrop", "()V"⟩, 16), (⟨"SpiceSwaps$Reader", "readPlace", "()V"⟩, 16), (⟨"SpiceSwaps$Reader", "takeKnownName", "([JI)I"⟩, 16), (⟨"SpiceSwaps$Reader", "takeIfThere", "(I)Z"⟩, 16), (⟨"SpiceSwaps$Reader", "readBelief", "()V"⟩, 16), (⟨"SpiceSwaps$Reader", "readFormula", "(LSpiceSwaps$Formula;)V"⟩, 16), (⟨"SpiceSwaps$Reader", "readJoined", "(II)V"⟩, 16)]
theorem lw_r1 : ∀ q ∈ lw_privs_1, lw_okq q := List.forall_mem_cons.mpr ⟨lw_p0, List.forall_mem_cons.mpr ⟨lw_p1, List.forall_mem_cons.mpr ⟨lw_p2, List.forall_mem_cons.mpr ⟨lw_p3, List.forall_mem_cons.mpr ⟨lw_p4, List.forall_mem_cons.mpr ⟨lw_p5, List.forall_mem_cons.mpr ⟨lw_p6, List.forall_mem_cons.mpr ⟨lw_p7, List.forall_mem_cons.mpr ⟨lw_p8, List.forall_mem_cons.mpr ⟨lw_p9, List.forall_mem_cons.mpr ⟨lw_p10, List.forall_mem_cons.mpr ⟨lw_p11, List.forall_mem_cons.mpr ⟨lw_p12, List.forall_mem_cons.mpr ⟨lw_p13, List.forall_mem_cons.mpr ⟨lw_p14, List.forall_mem_cons.mpr ⟨lw_p15, fun _ h => absurd h List.not_mem_nil⟩⟩⟩⟩⟩⟩⟩⟩⟩⟩⟩⟩⟩⟩⟩⟩
theorem lw_p16 : lw_okq (⟨"SpiceSwaps$Reader", "readUnit", "(I)V"⟩, 16) := ⟨⟨by decide +kernel, by decide +kernel⟩, List.mem_of_getElem? (i := 187) (by decide +kernel), List.mem_of_getElem? (i := 674) (by decide +kernel), List.mem_of_getElem? (i := 675) (by decide +kernel)⟩
theorem lw_p17 : lw_okq (⟨"SpiceSwaps$Reader", "readNegated", "(I)V"⟩, 16) := ⟨⟨by decide +kernel, by decide +kernel⟩, List.mem_of_getElem? (i := 187) (by decide +kernel), List.mem_of_getElem? (i := 682) (by decide +kernel), List.mem_of_getElem? (i := 683) (by decide +kernel)⟩
theorem lw_p18 : lw_okq (⟨"SpiceSwaps$Reader", "readStorm", "()V"⟩, 16) := ⟨⟨by decide +kernel, by decide +kernel⟩, List.mem_of_getElem? (i := 187) (by decide +kernel), List.mem_of_getElem? (i := 692) (by decide +kernel), List.mem_of_getElem? (i := 693) (by decide +kernel)⟩
theorem lw_p19 : lw_okq (⟨"SpiceSwaps$Reader", "readDraw", "()V"⟩, 16) := ⟨⟨by decide +kernel, by decide +kernel⟩, List.mem_of_getElem? (i := 187) (by decide +kernel), List.mem_of_getElem? (i := 696) (by decide +kernel), List.mem_of_getElem? (i := 697) (by decide +kernel)⟩
theorem lw_p20 : lw_okq (⟨"SpiceSwaps", "isPlace", "(I)Z"⟩, 13) := ⟨⟨by decide +kernel, by decide +kernel⟩, List.mem_of_getElem? (i := 21) (by decide +kernel), List.mem_of_getElem? (i := 721) (by decide +kernel), List.mem_of_getElem? (i := 722) (by decide +kernel)⟩
theorem lw_p21 : lw_okq (⟨"SpiceSwaps", "isCourt", "(I)Z"⟩, 13) := ⟨⟨by decide +kernel, by decide +kernel⟩, List.mem_of_getElem? (i := 21) (by decide +kernel), List.mem_of_getElem? (i := 749) (by decide +kernel), List.mem_of_getElem? (i := 750) (by decide +kernel)⟩
theorem lw_p22 : lw_okq (⟨"SpiceSwaps$Moment", "setLights", "(III)V"⟩, 8) := ⟨⟨by decide +kernel, by decide +kernel⟩, List.mem_of_getElem? (i := 302) (by decide +kernel), List.mem_of_getElem? (i := 775) (by decide +kernel), List.mem_of_getElem? (i := 776) (by decide +kernel)⟩
theorem lw_p23 : lw_okq (⟨"SpiceSwaps", "isCrop", "(I)Z"⟩, 13) := ⟨⟨by decide +kernel, by decide +kernel⟩, List.mem_of_getElem? (i := 21) (by decide +kernel), List.mem_of_getElem? (i := 812) (by decide +kernel), List.mem_of_getElem? (i := 813) (by decide +kernel)⟩
theorem lw_p24 : lw_okq (⟨"SpiceSwaps", "areOfUnlikeCourts", "(II)Z"⟩, 13) := ⟨⟨by decide +kernel, by decide +kernel⟩, List.mem_of_getElem? (i := 21) (by decide +kernel), List.mem_of_getElem? (i := 835) (by decide +kernel), List.mem_of_getElem? (i := 836) (by decide +kernel)⟩
theorem lw_p25 : lw_okq (⟨"SpiceSwaps$History", "rowAt", "(I)I"⟩, 4) := ⟨⟨by decide +kernel, by decide +kernel⟩, List.mem_of_getElem? (i := 352) (by decide +kernel), List.mem_of_getElem? (i := 843) (by decide +kernel), List.mem_of_getElem? (i := 844) (by decide +kernel)⟩
theorem lw_p26 : lw_okq (⟨"SpiceSwaps$Moment", "growthAt", "(I)I"⟩, 8) := ⟨⟨by decide +kernel, by decide +kernel⟩, List.mem_of_getElem? (i := 302) (by decide +kernel), List.mem_of_getElem? (i := 869) (by decide +kernel), List.mem_of_getElem? (i := 870) (by decide +kernel)⟩
theorem lw_p27 : lw_okq (⟨"SpiceSwaps$Moment", "strike", "()V"⟩, 8) := ⟨⟨by decide +kernel, by decide +kernel⟩, List.mem_of_getElem? (i := 302) (by decide +kernel), List.mem_of_getElem? (i := 873) (by decide +kernel), List.mem_of_getElem? (i := 874) (by decide +kernel)⟩
theorem lw_p28 : lw_okq (⟨"SpiceSwaps$Bargains", "harmsNone", "(II)Z"⟩, 14) := ⟨⟨by decide +kernel, by decide +kernel⟩, List.mem_of_getElem? (i := 373) (by decide +kernel), List.mem_of_getElem? (i := 909) (by decide +kernel), List.mem_of_getElem? (i := 910) (by decide +kernel)⟩
theorem lw_p29 : lw_okq (⟨"SpiceSwaps$Bargains", "swapGain", "(II)I"⟩, 14) := ⟨⟨by decide +kernel, by decide +kernel⟩, List.mem_of_getElem? (i := 373) (by decide +kernel), List.mem_of_getElem? (i := 913) (by decide +kernel), List.mem_of_getElem? (i := 914) (by decide +kernel)⟩
theorem lw_p30 : lw_okq (⟨"SpiceSwaps$Bargains", "chooseGifts", "(II)V"⟩, 14) := ⟨⟨by decide +kernel, by decide +kernel⟩, List.mem_of_getElem? (i := 373) (by decide +kernel), List.mem_of_getElem? (i := 960) (by decide +kernel), List.mem_of_getElem? (i := 961) (by decide +kernel)⟩
theorem lw_p31 : lw_okq (⟨"SpiceSwaps$Bargains", "tryGifts", "(I)V"⟩, 14) := ⟨⟨by decide +kernel, by decide +kernel⟩, List.mem_of_getElem? (i := 373) (by decide +kernel), List.mem_of_getElem? (i := 964) (by decide +kernel), List.mem_of_getElem? (i := 965) (by decide +kernel)⟩
def lw_privs_2 : List (MethodName × Nat) := [(⟨"SpiceSwaps$Reader", "readUnit", "(I)V"⟩, 16), (⟨"SpiceSwaps$Reader", "readNegated", "(I)V"⟩, 16), (⟨"SpiceSwaps$Reader", "readStorm", "()V"⟩, 16), (⟨"SpiceSwaps$Reader", "readDraw", "()V"⟩, 16), (⟨"SpiceSwaps", "isPlace", "(I)Z"⟩, 13), (⟨"SpiceSwaps", "isCourt", "(I)Z"⟩, 13), (⟨"SpiceSwaps$Moment", "setLights", "(III)V"⟩, 8), (⟨"SpiceSwaps", "isCrop", "(I)Z"⟩, 13), (⟨"SpiceSwaps", "areOfUnlikeCourts", "(II)Z"⟩, 13), (⟨"SpiceSwaps$History", "rowAt", "(I)I"⟩, 4), (⟨"SpiceSwaps$Moment", "growthAt", "(I)I"⟩, 8), (⟨"SpiceSwaps$Moment", "strike", "()V"⟩, 8), (⟨"SpiceSwaps$Bargains", "harmsNone", "(II)Z"⟩, 14), (⟨"SpiceSwaps$Bargains", "swapGain", "(II)I"⟩, 14), (⟨"SpiceSwaps$Bargains", "chooseGifts", "(II)V"⟩, 14), (⟨"SpiceSwaps$Bargains", "tryGifts", "(I)V"⟩, 14)]
theorem lw_r2 : ∀ q ∈ lw_privs_2, lw_okq q := List.forall_mem_cons.mpr ⟨lw_p16, List.forall_mem_cons.mpr ⟨lw_p17, List.forall_mem_cons.mpr ⟨lw_p18, List.forall_mem_cons.mpr ⟨lw_p19, List.forall_mem_cons.mpr ⟨lw_p20, List.forall_mem_cons.mpr ⟨lw_p21, List.forall_mem_cons.mpr ⟨lw_p22, List.forall_mem_cons.mpr ⟨lw_p23, List.forall_mem_cons.mpr ⟨lw_p24, List.forall_mem_cons.mpr ⟨lw_p25, List.forall_mem_cons.mpr ⟨lw_p26, List.forall_mem_cons.mpr ⟨lw_p27, List.forall_mem_cons.mpr ⟨lw_p28, List.forall_mem_cons.mpr ⟨lw_p29, List.forall_mem_cons.mpr ⟨lw_p30, List.forall_mem_cons.mpr ⟨lw_p31, fun _ h => absurd h List.not_mem_nil⟩⟩⟩⟩⟩⟩⟩⟩⟩⟩⟩⟩⟩⟩⟩⟩
theorem lw_p32 : lw_okq (⟨"SpiceSwaps$Bargains", "closeRound", "(III)I"⟩, 14) := ⟨⟨by decide +kernel, by decide +kernel⟩, List.mem_of_getElem? (i := 373) (by decide +kernel), List.mem_of_getElem? (i := 968) (by decide +kernel), List.mem_of_getElem? (i := 969) (by decide +kernel)⟩
theorem lw_p33 : lw_okq (⟨"SpiceSwaps$Bargains", "gainByGift", "(II)I"⟩, 14) := ⟨⟨by decide +kernel, by decide +kernel⟩, List.mem_of_getElem? (i := 373) (by decide +kernel), List.mem_of_getElem? (i := 972) (by decide +kernel), List.mem_of_getElem? (i := 973) (by decide +kernel)⟩
theorem lw_p34 : lw_okq (⟨"SpiceSwaps", "areTwoCourts", "(II)Z"⟩, 13) := ⟨⟨by decide +kernel, by decide +kernel⟩, List.mem_of_getElem? (i := 21) (by decide +kernel), List.mem_of_getElem? (i := 996) (by decide +kernel), List.mem_of_getElem? (i := 997) (by decide +kernel)⟩
theorem lw_p35 : lw_okq (⟨"SpiceSwaps", "plantAhead", "(II)V"⟩, 13) := ⟨⟨by decide +kernel, by decide +kernel⟩, List.mem_of_getElem? (i := 21) (by decide +kernel), List.mem_of_getElem? (i := 1019) (by decide +kernel), List.mem_of_getElem? (i := 1020) (by decide +kernel)⟩
theorem lw_p36 : lw_okq (⟨"SpiceSwaps", "isFarYear", "(I)Z"⟩, 13) := ⟨⟨by decide +kernel, by decide +kernel⟩, List.mem_of_getElem? (i := 21) (by decide +kernel), List.mem_of_getElem? (i := 1035) (by decide +kernel), List.mem_of_getElem? (i := 1036) (by decide +kernel)⟩
theorem lw_p37 : lw_okq (⟨"SpiceSwaps", "lookAhead", "(I)V"⟩, 13) := ⟨⟨by decide +kernel, by decide +kernel⟩, List.mem_of_getElem? (i := 21) (by decide +kernel), List.mem_of_getElem? (i := 1039) (by decide +kernel), List.mem_of_getElem? (i := 1040) (by decide +kernel)⟩
theorem lw_p38 : lw_okq (⟨"SpiceSwaps$Secrets", "fitsAll", "(LSpiceSwaps$Moment;II)Z"⟩, 6) := ⟨⟨by decide +kernel, by decide +kernel⟩, List.mem_of_getElem? (i := 430) (by decide +kernel), List.mem_of_getElem? (i := 1107) (by decide +kernel), List.mem_of_getElem? (i := 1108) (by decide +kernel)⟩
theorem lw_p39 : lw_okq (⟨"SpiceSwaps$Secrets", "counts", "(II)Z"⟩, 6) := ⟨⟨by decide +kernel, by decide +kernel⟩, List.mem_of_getElem? (i := 430) (by decide +kernel), List.mem_of_getElem? (i := 1111) (by decide +kernel), List.mem_of_getElem? (i := 1112) (by decide +kernel)⟩
theorem lw_p40 : lw_okq (⟨"SpiceSwaps$Secrets", "isSo", "(ILSpiceSwaps$Moment;I)Z"⟩, 6) := ⟨⟨by decide +kernel, by decide +kernel⟩, List.mem_of_getElem? (i := 430) (by decide +kernel), List.mem_of_getElem? (i := 1115) (by decide +kernel), List.mem_of_getElem? (i := 1116) (by decide +kernel)⟩
theorem lw_p41 : lw_okq (⟨"SpiceSwapsModel", "clearBank", "()V"⟩, 76) := ⟨⟨by decide +kernel, by decide +kernel⟩, List.mem_of_getElem? (i := 1151) (by decide +kernel), List.mem_of_getElem? (i := 1157) (by decide +kernel), List.mem_of_getElem? (i := 1158) (by decide +kernel)⟩
theorem lw_p42 : lw_okq (⟨"SpiceSwapsModel", "startAnew", "()V"⟩, 76) := ⟨⟨by decide +kernel, by decide +kernel⟩, List.mem_of_getElem? (i := 1151) (by decide +kernel), List.mem_of_getElem? (i := 1161) (by decide +kernel), List.mem_of_getElem? (i := 1162) (by decide +kernel)⟩
theorem lw_p43 : lw_okq (⟨"SpiceSwapsModel", "many", "()I"⟩, 76) := ⟨⟨by decide +kernel, by decide +kernel⟩, List.mem_of_getElem? (i := 1151) (by decide +kernel), List.mem_of_getElem? (i := 1165) (by decide +kernel), List.mem_of_getElem? (i := 1166) (by decide +kernel)⟩
theorem lw_p44 : lw_okq (⟨"SpiceSwapsModel", "goOn", "()V"⟩, 76) := ⟨⟨by decide +kernel, by decide +kernel⟩, List.mem_of_getElem? (i := 1151) (by decide +kernel), List.mem_of_getElem? (i := 1402) (by decide +kernel), List.mem_of_getElem? (i := 1403) (by decide +kernel)⟩
theorem lw_p45 : lw_okq (⟨"SpiceSwapsModel", "sign", "(I)I"⟩, 76) := ⟨⟨by decide +kernel, by decide +kernel⟩, List.mem_of_getElem? (i := 1151) (by decide +kernel), List.mem_of_getElem? (i := 1406) (by decide +kernel), List.mem_of_getElem? (i := 1407) (by decide +kernel)⟩
theorem lw_p46 : lw_okq (⟨"SpiceSwapsModel", "isGood", "()Z"⟩, 76) := ⟨⟨by decide +kernel, by decide +kernel⟩, List.mem_of_getElem? (i := 1151) (by decide +kernel), List.mem_of_getElem? (i := 1443) (by decide +kernel), List.mem_of_getElem? (i := 1444) (by decide +kernel)⟩
theorem lw_p47 : lw_okq (⟨"SpiceSwapsModel", "readLine", "()V"⟩, 76) := ⟨⟨by decide +kernel, by decide +kernel⟩, List.mem_of_getElem? (i := 1151) (by decide +kernel), List.mem_of_getElem? (i := 1447) (by decide +kernel), List.mem_of_getElem? (i := 1448) (by decide +kernel)⟩
def lw_privs_3 : List (MethodName × Nat) := [(⟨"SpiceSwaps$Bargains", "closeRound", "(III)I"⟩, 14), (⟨"SpiceSwaps$Bargains", "gainByGift", "(II)I"⟩, 14), (⟨"SpiceSwaps", "areTwoCourts", "(II)Z"⟩, 13), (⟨"SpiceSwaps", "plantAhead", "(II)V"⟩, 13), (⟨"SpiceSwaps", "isFarYear", "(I)Z"⟩, 13), (⟨"SpiceSwaps", "lookAhead", "(I)V"⟩, 13), (⟨"SpiceSwaps$Secrets", "fitsAll", "(LSpiceSwaps$Moment;II)Z"⟩, 6), (⟨"SpiceSwaps$Secrets", "counts", "(II)Z"⟩, 6), (⟨"SpiceSwaps$Secrets", "isSo", "(ILSpiceSwaps$Moment;I)Z"⟩, 6), (⟨"SpiceSwapsModel", "clearBank", "()V"⟩, 76), (⟨"SpiceSwapsModel", "startAnew", "()V"⟩, 76), (⟨"SpiceSwapsModel", "many", "()I"⟩, 76), (⟨"SpiceSwapsModel", "goOn", "()V"⟩, 76), (⟨"SpiceSwapsModel", "sign", "(I)I"⟩, 76), (⟨"SpiceSwapsModel", "isGood", "()Z"⟩, 76), (⟨"SpiceSwapsModel", "readLine", "()V"⟩, 76)]
theorem lw_r3 : ∀ q ∈ lw_privs_3, lw_okq q := List.forall_mem_cons.mpr ⟨lw_p32, List.forall_mem_cons.mpr ⟨lw_p33, List.forall_mem_cons.mpr ⟨lw_p34, List.forall_mem_cons.mpr ⟨lw_p35, List.forall_mem_cons.mpr ⟨lw_p36, List.forall_mem_cons.mpr ⟨lw_p37, List.forall_mem_cons.mpr ⟨lw_p38, List.forall_mem_cons.mpr ⟨lw_p39, List.forall_mem_cons.mpr ⟨lw_p40, List.forall_mem_cons.mpr ⟨lw_p41, List.forall_mem_cons.mpr ⟨lw_p42, List.forall_mem_cons.mpr ⟨lw_p43, List.forall_mem_cons.mpr ⟨lw_p44, List.forall_mem_cons.mpr ⟨lw_p45, List.forall_mem_cons.mpr ⟨lw_p46, List.forall_mem_cons.mpr ⟨lw_p47, fun _ h => absurd h List.not_mem_nil⟩⟩⟩⟩⟩⟩⟩⟩⟩⟩⟩⟩⟩⟩⟩⟩
theorem lw_p48 : lw_okq (⟨"SpiceSwapsModel", "isFull", "()Z"⟩, 76) := ⟨⟨by decide +kernel, by decide +kernel⟩, List.mem_of_getElem? (i := 1151) (by decide +kernel), List.mem_of_getElem? (i := 1451) (by decide +kernel), List.mem_of_getElem? (i := 1452) (by decide +kernel)⟩
theorem lw_p49 : lw_okq (⟨"SpiceSwapsModel", "isWord", "(J)Z"⟩, 76) := ⟨⟨by decide +kernel, by decide +kernel⟩, List.mem_of_getElem? (i := 1151) (by decide +kernel), List.mem_of_getElem? (i := 1455) (by decide +kernel), List.mem_of_getElem? (i := 1456) (by decide +kernel)⟩
theorem lw_p50 : lw_okq (⟨"SpiceSwapsModel", "misplaced", "()V"⟩, 76) := ⟨⟨by decide +kernel, by decide +kernel⟩, List.mem_of_getElem? (i := 1151) (by decide +kernel), List.mem_of_getElem? (i := 1459) (by decide +kernel), List.mem_of_getElem? (i := 1460) (by decide +kernel)⟩
theorem lw_p51 : lw_okq (⟨"SpiceSwapsModel", "fails", "(II)V"⟩, 76) := ⟨⟨by decide +kernel, by decide +kernel⟩, List.mem_of_getElem? (i := 1151) (by decide +kernel), List.mem_of_getElem? (i := 1463) (by decide +kernel), List.mem_of_getElem? (i := 1464) (by decide +kernel)⟩
theorem lw_p52 : lw_okq (⟨"SpiceSwapsModel", "readCourt", "()V"⟩, 76) := ⟨⟨by decide +kernel, by decide +kernel⟩, List.mem_of_getElem? (i := 1151) (by decide +kernel), List.mem_of_getElem? (i := 1467) (by decide +kernel), List.mem_of_getElem? (i := 1468) (by decide +kernel)⟩
theorem lw_p53 : lw_okq (⟨"SpiceSwapsModel", "courtHere", "()I"⟩, 76) := ⟨⟨by decide +kernel, by decide +kernel⟩, List.mem_of_getElem? (i := 1151) (by decide +kernel), List.mem_of_getElem? (i := 1471) (by decide +kernel), List.mem_of_getElem? (i := 1472) (by decide +kernel)⟩
theorem lw_p54 : lw_okq (⟨"SpiceSwapsModel", "here", "([JII)I"⟩, 76) := ⟨⟨by decide +kernel, by decide +kernel⟩, List.mem_of_getElem? (i := 1151) (by decide +kernel), List.mem_of_getElem? (i := 1475) (by decide +kernel), List.mem_of_getElem? (i := 1476) (by decide +kernel)⟩
theorem lw_p55 : lw_okq (⟨"SpiceSwapsModel", "fresh", "(I)J"⟩, 76) := ⟨⟨by decide +kernel, by decide +kernel⟩, List.mem_of_getElem? (i := 1151) (by decide +kernel), List.mem_of_getElem? (i := 1479) (by decide +kernel), List.mem_of_getElem? (i := 1480) (by decide +kernel)⟩
theorem lw_p56 : lw_okq (⟨"SpiceSwapsModel", "after", "(JII)I"⟩, 76) := ⟨⟨by decide +kernel, by decide +kernel⟩, List.mem_of_getElem? (i := 1151) (by decide +kernel), List.mem_of_getElem? (i := 1483) (by decide +kernel), List.mem_of_getElem? (i := 1484) (by decide +kernel)⟩
theorem lw_p57 : lw_okq (⟨"SpiceSwapsModel", "must", "(Z)V"⟩, 76) := ⟨⟨by decide +kernel, by decide +kernel⟩, List.mem_of_getElem? (i := 1151) (by decide +kernel), List.mem_of_getElem? (i := 1487) (by decide +kernel), List.mem_of_getElem? (i := 1488) (by decide +kernel)⟩
theorem lw_p58 : lw_okq (⟨"SpiceSwapsModel", "numeral", "(II)I"⟩, 76) := ⟨⟨by decide +kernel, by decide +kernel⟩, List.mem_of_getElem? (i := 1151) (by decide +kernel), List.mem_of_getElem? (i := 1491) (by decide +kernel), List.mem_of_getElem? (i := 1492) (by decide +kernel)⟩
theorem lw_p59 : lw_okq (⟨"SpiceSwapsModel", "readCrop", "()V"⟩, 76) := ⟨⟨by decide +kernel, by decide +kernel⟩, List.mem_of_getElem? (i := 1151) (by decide +kernel), List.mem_of_getElem? (i := 1495) (by decide +kernel), List.mem_of_getElem? (i := 1496) (by decide +kernel)⟩
theorem lw_p60 : lw_okq (⟨"SpiceSwapsModel", "cropHere", "()I"⟩, 76) := ⟨⟨by decide +kernel, by decide +kernel⟩, List.mem_of_getElem? (i := 1151) (by decide +kernel), List.mem_of_getElem? (i := 1499) (by decide +kernel), List.mem_of_getElem? (i := 1500) (by decide +kernel)⟩
theorem lw_p61 : lw_okq (⟨"SpiceSwapsModel", "readPlace", "()V"⟩, 76) := ⟨⟨by decide +kernel, by decide +kernel⟩, List.mem_of_getElem? (i := 1151) (by decide +kernel), List.mem_of_getElem? (i := 1503) (by decide +kernel), List.mem_of_getElem? (i := 1504) (by decide +kernel)⟩
theorem lw_p62 : lw_okq (⟨"SpiceSwapsModel", "placeHere", "()I"⟩, 76) := ⟨⟨by decide +kernel, by decide +kernel⟩, List.mem_of_getElem? (i := 1151) (by decide +kernel), List.mem_of_getElem? (i := 1507) (by decide +kernel), List.mem_of_getElem? (i := 1508) (by decide +kernel)⟩
theorem lw_p63 : lw_okq (⟨"SpiceSwapsModel", "known", "(I)I"⟩, 76) := ⟨⟨by decide +kernel, by decide +kernel⟩, List.mem_of_getElem? (i := 1151) (by decide +kernel), List.mem_of_getElem? (i := 1511) (by decide +kernel), List.mem_of_getElem? (i := 1512) (by decide +kernel)⟩
def lw_privs_4 : List (MethodName × Nat) := [(⟨"SpiceSwapsModel", "isFull", "()Z"⟩, 76), (⟨"SpiceSwapsModel", "isWord", "(J)Z"⟩, 76), (⟨"SpiceSwapsModel", "misplaced", "()V"⟩, 76), (⟨"SpiceSwapsModel", "fails", "(II)V"⟩, 76), (⟨"SpiceSwapsModel", "readCourt", "()V"⟩, 76), (⟨"SpiceSwapsModel", "courtHere", "()I"⟩, 76), (⟨"SpiceSwapsModel", "here", "([JII)I"⟩, 76), (⟨"SpiceSwapsModel", "fresh", "(I)J"⟩, 76), (⟨"SpiceSwapsModel", "after", "(JII)I"⟩, 76), (⟨"SpiceSwapsModel", "must", "(Z)V"⟩, 76), (⟨"SpiceSwapsModel", "numeral", "(II)I"⟩, 76), (⟨"SpiceSwapsModel", "readCrop", "()V"⟩, 76), (⟨"SpiceSwapsModel", "cropHere", "()I"⟩, 76), (⟨"SpiceSwapsModel", "readPlace", "()V"⟩, 76), (⟨"SpiceSwapsModel", "placeHere", "()I"⟩, 76), (⟨"SpiceSwapsModel", "known", "(I)I"⟩, 76)]
theorem lw_r4 : ∀ q ∈ lw_privs_4, lw_okq q := List.forall_mem_cons.mpr ⟨lw_p48, List.forall_mem_cons.mpr ⟨lw_p49, List.forall_mem_cons.mpr ⟨lw_p50, List.forall_mem_cons.mpr ⟨lw_p51, List.forall_mem_cons.mpr ⟨lw_p52, List.forall_mem_cons.mpr ⟨lw_p53, List.forall_mem_cons.mpr ⟨lw_p54, List.forall_mem_cons.mpr ⟨lw_p55, List.forall_mem_cons.mpr ⟨lw_p56, List.forall_mem_cons.mpr ⟨lw_p57, List.forall_mem_cons.mpr ⟨lw_p58, List.forall_mem_cons.mpr ⟨lw_p59, List.forall_mem_cons.mpr ⟨lw_p60, List.forall_mem_cons.mpr ⟨lw_p61, List.forall_mem_cons.mpr ⟨lw_p62, List.forall_mem_cons.mpr ⟨lw_p63, fun _ h => absurd h List.not_mem_nil⟩⟩⟩⟩⟩⟩⟩⟩⟩⟩⟩⟩⟩⟩⟩⟩
theorem lw_p64 : lw_okq (⟨"SpiceSwapsModel", "readBelief", "()V"⟩, 76) := ⟨⟨by decide +kernel, by decide +kernel⟩, List.mem_of_getElem? (i := 1151) (by decide +kernel), List.mem_of_getElem? (i := 1515) (by decide +kernel), List.mem_of_getElem? (i := 1516) (by decide +kernel)⟩
theorem lw_p65 : lw_okq (⟨"SpiceSwapsModel", "readRule", "(I)V"⟩, 76) := ⟨⟨by decide +kernel, by decide +kernel⟩, List.mem_of_getElem? (i := 1151) (by decide +kernel), List.mem_of_getElem? (i := 1519) (by decide +kernel), List.mem_of_getElem? (i := 1520) (by decide +kernel)⟩
theorem lw_p66 : lw_okq (⟨"SpiceSwapsModel", "e", "()V"⟩, 76) := ⟨⟨by decide +kernel, by decide +kernel⟩, List.mem_of_getElem? (i := 1151) (by decide +kernel), List.mem_of_getElem? (i := 1523) (by decide +kernel), List.mem_of_getElem? (i := 1524) (by decide +kernel)⟩
theorem lw_p67 : lw_okq (⟨"SpiceSwapsModel", "pushE", "(II)V"⟩, 76) := ⟨⟨by decide +kernel, by decide +kernel⟩, List.mem_of_getElem? (i := 1151) (by decide +kernel), List.mem_of_getElem? (i := 1527) (by decide +kernel), List.mem_of_getElem? (i := 1528) (by decide +kernel)⟩
theorem lw_p68 : lw_okq (⟨"SpiceSwapsModel", "unit", "()Z"⟩, 76) := ⟨⟨by decide +kernel, by decide +kernel⟩, List.mem_of_getElem? (i := 1151) (by decide +kernel), List.mem_of_getElem? (i := 1531) (by decide +kernel), List.mem_of_getElem? (i := 1532) (by decide +kernel)⟩
theorem lw_p69 : lw_okq (⟨"SpiceSwapsModel", "isSignHere", "(I)Z"⟩, 76) := ⟨⟨by decide +kernel, by decide +kernel⟩, List.mem_of_getElem? (i := 1151) (by decide +kernel), List.mem_of_getElem? (i := 1535) (by decide +kernel), List.mem_of_getElem? (i := 1536) (by decide +kernel)⟩
theorem lw_p70 : lw_okq (⟨"SpiceSwapsModel", "wordHere", "()I"⟩, 76) := ⟨⟨by decide +kernel, by decide +kernel⟩, List.mem_of_getElem? (i := 1151) (by decide +kernel), List.mem_of_getElem? (i := 1539) (by decide +kernel), List.mem_of_getElem? (i := 1540) (by decide +kernel)⟩
theorem lw_p71 : lw_okq (⟨"SpiceSwapsModel", "emit", "(II)V"⟩, 76) := ⟨⟨by decide +kernel, by decide +kernel⟩, List.mem_of_getElem? (i := 1151) (by decide +kernel), List.mem_of_getElem? (i := 1543) (by decide +kernel), List.mem_of_getElem? (i := 1544) (by decide +kernel)⟩
theorem lw_p72 : lw_okq (⟨"SpiceSwapsModel", "behindUnit", "()Z"⟩, 76) := ⟨⟨by decide +kernel, by decide +kernel⟩, List.mem_of_getElem? (i := 1151) (by decide +kernel), List.mem_of_getElem? (i := 1547) (by decide +kernel), List.mem_of_getElem? (i := 1548) (by decide +kernel)⟩
theorem lw_p73 : lw_okq (⟨"SpiceSwapsModel", "rankHere", "()I"⟩, 76) := ⟨⟨by decide +kernel, by decide +kernel⟩, List.mem_of_getElem? (i := 1151) (by decide +kernel), List.mem_of_getElem? (i := 1551) (by decide +kernel), List.mem_of_getElem? (i := 1552) (by decide +kernel)⟩
theorem lw_p74 : lw_okq (⟨"SpiceSwapsModel", "isCompared", "()Z"⟩, 76) := ⟨⟨by decide +kernel, by decide +kernel⟩, List.mem_of_getElem? (i := 1151) (by decide +kernel), List.mem_of_getElem? (i := 1555) (by decide +kernel), List.mem_of_getElem? (i := 1556) (by decide +kernel)⟩
theorem lw_p75 : lw_okq (⟨"SpiceSwapsModel", "isPlace", "(I)Z"⟩, 76) := ⟨⟨by decide +kernel, by decide +kernel⟩, List.mem_of_getElem? (i := 1151) (by decide +kernel), List.mem_of_getElem? (i := 1567) (by decide +kernel), List.mem_of_getElem? (i := 1568) (by decide +kernel)⟩
theorem lw_p76 : lw_okq (⟨"SpiceSwapsModel", "earnedAt", "(I)I"⟩, 76) := ⟨⟨by decide +kernel, by decide +kernel⟩, List.mem_of_getElem? (i := 1151) (by decide +kernel), List.mem_of_getElem? (i := 1575) (by decide +kernel), List.mem_of_getElem? (i := 1576) (by decide +kernel)⟩
theorem lw_p77 : lw_okq (⟨"SpiceSwapsModel", "priceAt", "(I)I"⟩, 76) := ⟨⟨by decide +kernel, by decide +kernel⟩, List.mem_of_getElem? (i := 1151) (by decide +kernel), List.mem_of_getElem? (i := 1579) (by decide +kernel), List.mem_of_getElem? (i := 1580) (by decide +kernel)⟩
theorem lw_p78 : lw_okq (⟨"SpiceSwapsModel", "growersOf", "(I)I"⟩, 76) := ⟨⟨by decide +kernel, by decide +kernel⟩, List.mem_of_getElem? (i := 1151) (by decide +kernel), List.mem_of_getElem? (i := 1583) (by decide +kernel), List.mem_of_getElem? (i := 1584) (by decide +kernel)⟩
theorem lw_p79 : lw_okq (⟨"SpiceSwapsModel", "isCourt", "(I)Z"⟩, 76) := ⟨⟨by decide +kernel, by decide +kernel⟩, List.mem_of_getElem? (i := 1151) (by decide +kernel), List.mem_of_getElem? (i := 1594) (by decide +kernel), List.mem_of_getElem? (i := 1595) (by decide +kernel)⟩
def lw_privs_5 : List (MethodName × Nat) := [(⟨"SpiceSwapsModel", "readBelief", "()V"⟩, 76), (⟨"SpiceSwapsModel", "readRule", "(I)V"⟩, 76), (⟨"SpiceSwapsModel", "e", "()V"⟩, 76), (⟨"SpiceSwapsModel", "pushE", "(II)V"⟩, 76), (⟨"SpiceSwapsModel", "unit", "()Z"⟩, 76), (⟨"SpiceSwapsModel", "isSignHere", "(I)Z"⟩, 76), (⟨"SpiceSwapsModel", "wordHere", "()I"⟩, 76), (⟨"SpiceSwapsModel", "emit", "(II)V"⟩, 76), (⟨"SpiceSwapsModel", "behindUnit", "()Z"⟩, 76), (⟨"SpiceSwapsModel", "rankHere", "()I"⟩, 76), (⟨"SpiceSwapsModel", "isCompared", "()Z"⟩, 76), (⟨"SpiceSwapsModel", "isPlace", "(I)Z"⟩, 76), (⟨"SpiceSwapsModel", "earnedAt", "(I)I"⟩, 76), (⟨"SpiceSwapsModel", "priceAt", "(I)I"⟩, 76), (⟨"SpiceSwapsModel", "growersOf", "(I)I"⟩, 76), (⟨"SpiceSwapsModel", "isCourt", "(I)Z"⟩, 76)]
theorem lw_r5 : ∀ q ∈ lw_privs_5, lw_okq q := List.forall_mem_cons.mpr ⟨lw_p64, List.forall_mem_cons.mpr ⟨lw_p65, List.forall_mem_cons.mpr ⟨lw_p66, List.forall_mem_cons.mpr ⟨lw_p67, List.forall_mem_cons.mpr ⟨lw_p68, List.forall_mem_cons.mpr ⟨lw_p69, List.forall_mem_cons.mpr ⟨lw_p70, List.forall_mem_cons.mpr ⟨lw_p71, List.forall_mem_cons.mpr ⟨lw_p72, List.forall_mem_cons.mpr ⟨lw_p73, List.forall_mem_cons.mpr ⟨lw_p74, List.forall_mem_cons.mpr ⟨lw_p75, List.forall_mem_cons.mpr ⟨lw_p76, List.forall_mem_cons.mpr ⟨lw_p77, List.forall_mem_cons.mpr ⟨lw_p78, List.forall_mem_cons.mpr ⟨lw_p79, fun _ h => absurd h List.not_mem_nil⟩⟩⟩⟩⟩⟩⟩⟩⟩⟩⟩⟩⟩⟩⟩⟩
theorem lw_p80 : lw_okq (⟨"SpiceSwapsModel", "heldBy", "(I)I"⟩, 76) := ⟨⟨by decide +kernel, by decide +kernel⟩, List.mem_of_getElem? (i := 1151) (by decide +kernel), List.mem_of_getElem? (i := 1598) (by decide +kernel), List.mem_of_getElem? (i := 1599) (by decide +kernel)⟩
theorem lw_p81 : lw_okq (⟨"SpiceSwapsModel", "earnedBy", "(I)I"⟩, 76) := ⟨⟨by decide +kernel, by decide +kernel⟩, List.mem_of_getElem? (i := 1151) (by decide +kernel), List.mem_of_getElem? (i := 1602) (by decide +kernel), List.mem_of_getElem? (i := 1603) (by decide +kernel)⟩
theorem lw_p82 : lw_okq (⟨"SpiceSwapsModel", "worthsTo", "(II)I"⟩, 76) := ⟨⟨by decide +kernel, by decide +kernel⟩, List.mem_of_getElem? (i := 1151) (by decide +kernel), List.mem_of_getElem? (i := 1606) (by decide +kernel), List.mem_of_getElem? (i := 1607) (by decide +kernel)⟩
theorem lw_p83 : lw_okq (⟨"SpiceSwapsModel", "worthTo", "(II)I"⟩, 76) := ⟨⟨by decide +kernel, by decide +kernel⟩, List.mem_of_getElem? (i := 1151) (by decide +kernel), List.mem_of_getElem? (i := 1613) (by decide +kernel), List.mem_of_getElem? (i := 1614) (by decide +kernel)⟩
theorem lw_p84 : lw_okq (⟨"SpiceSwapsModel", "comes", "(I)I"⟩, 76) := ⟨⟨by decide +kernel, by decide +kernel⟩, List.mem_of_getElem? (i := 1151) (by decide +kernel), List.mem_of_getElem? (i := 1617) (by decide +kernel), List.mem_of_getElem? (i := 1618) (by decide +kernel)⟩
theorem lw_p85 : lw_okq (⟨"SpiceSwapsModel", "asked", "(II)I"⟩, 76) := ⟨⟨by decide +kernel, by decide +kernel⟩, List.mem_of_getElem? (i := 1151) (by decide +kernel), List.mem_of_getElem? (i := 1621) (by decide +kernel), List.mem_of_getElem? (i := 1622) (by decide +kernel)⟩
theorem lw_p86 : lw_okq (⟨"SpiceSwapsModel", "isCrop", "(I)Z"⟩, 76) := ⟨⟨by decide +kernel, by decide +kernel⟩, List.mem_of_getElem? (i := 1151) (by decide +kernel), List.mem_of_getElem? (i := 1637) (by decide +kernel), List.mem_of_getElem? (i := 1638) (by decide +kernel)⟩
theorem lw_p87 : lw_okq (⟨"SpiceSwapsModel", "placesOf", "(I)I"⟩, 76) := ⟨⟨by decide +kernel, by decide +kernel⟩, List.mem_of_getElem? (i := 1151) (by decide +kernel), List.mem_of_getElem? (i := 1641) (by decide +kernel), List.mem_of_getElem? (i := 1642) (by decide +kernel)⟩
theorem lw_p88 : lw_okq (⟨"SpiceSwapsModel", "canSwap", "(II)Z"⟩, 76) := ⟨⟨by decide +kernel, by decide +kernel⟩, List.mem_of_getElem? (i := 1151) (by decide +kernel), List.mem_of_getElem? (i := 1669) (by decide +kernel), List.mem_of_getElem? (i := 1670) (by decide +kernel)⟩
theorem lw_p89 : lw_okq (⟨"SpiceSwapsModel", "keepAct", "()V"⟩, 76) := ⟨⟨by decide +kernel, by decide +kernel⟩, List.mem_of_getElem? (i := 1151) (by decide +kernel), List.mem_of_getElem? (i := 1673) (by decide +kernel), List.mem_of_getElem? (i := 1674) (by decide +kernel)⟩
theorem lw_p90 : lw_okq (⟨"SpiceSwapsModel", "swapBoth", "(II)V"⟩, 76) := ⟨⟨by decide +kernel, by decide +kernel⟩, List.mem_of_getElem? (i := 1151) (by decide +kernel), List.mem_of_getElem? (i := 1677) (by decide +kernel), List.mem_of_getElem? (i := 1678) (by decide +kernel)⟩
theorem lw_p91 : lw_okq (⟨"SpiceSwapsModel", "goYear", "()V"⟩, 76) := ⟨⟨by decide +kernel, by decide +kernel⟩, List.mem_of_getElem? (i := 1151) (by decide +kernel), List.mem_of_getElem? (i := 1693) (by decide +kernel), List.mem_of_getElem? (i := 1694) (by decide +kernel)⟩
theorem lw_p92 : lw_okq (⟨"SpiceSwapsModel", "layGrowing", "()V"⟩, 76) := ⟨⟨by decide +kernel, by decide +kernel⟩, List.mem_of_getElem? (i := 1151) (by decide +kernel), List.mem_of_getElem? (i := 1697) (by decide +kernel), List.mem_of_getElem? (i := 1698) (by decide +kernel)⟩
theorem lw_p93 : lw_okq (⟨"SpiceSwapsModel", "exchange", "()V"⟩, 76) := ⟨⟨by decide +kernel, by decide +kernel⟩, List.mem_of_getElem? (i := 1151) (by decide +kernel), List.mem_of_getElem? (i := 1705) (by decide +kernel), List.mem_of_getElem? (i := 1706) (by decide +kernel)⟩
theorem lw_p94 : lw_okq (⟨"SpiceSwapsModel", "gainOf", "(II)I"⟩, 76) := ⟨⟨by decide +kernel, by decide +kernel⟩, List.mem_of_getElem? (i := 1151) (by decide +kernel), List.mem_of_getElem? (i := 1717) (by decide +kernel), List.mem_of_getElem? (i := 1718) (by decide +kernel)⟩
theorem lw_p95 : lw_okq (⟨"SpiceSwapsModel", "findSwap", "()V"⟩, 76) := ⟨⟨by decide +kernel, by decide +kernel⟩, List.mem_of_getElem? (i := 1151) (by decide +kernel), List.mem_of_getElem? (i := 1725) (by decide +kernel), List.mem_of_getElem? (i := 1726) (by decide +kernel)⟩
def lw_privs_6 : List (MethodName × Nat) := [(⟨"SpiceSwapsModel", "heldBy", "(I)I"⟩, 76), (⟨"SpiceSwapsModel", "earnedBy", "(I)I"⟩, 76), (⟨"SpiceSwapsModel", "worthsTo", "(II)I"⟩, 76), (⟨"SpiceSwapsModel", "worthTo", "(II)I"⟩, 76), (⟨"SpiceSwapsModel", "comes", "(I)I"⟩, 76), (⟨"SpiceSwapsModel", "asked", "(II)I"⟩, 76), (⟨"SpiceSwapsModel", "isCrop", "(I)Z"⟩, 76), (⟨"SpiceSwapsModel", "placesOf", "(I)I"⟩, 76), (⟨"SpiceSwapsModel", "canSwap", "(II)Z"⟩, 76), (⟨"SpiceSwapsModel", "keepAct", "()V"⟩, 76), (⟨"SpiceSwapsModel", "swapBoth", "(II)V"⟩, 76), (⟨"SpiceSwapsModel", "goYear", "()V"⟩, 76), (⟨"SpiceSwapsModel", "layGrowing", "()V"⟩, 76), (⟨"SpiceSwapsModel", "exchange", "()V"⟩, 76), (⟨"SpiceSwapsModel", "gainOf", "(II)I"⟩, 76), (⟨"SpiceSwapsModel", "findSwap", "()V"⟩, 76)]
theorem lw_r6 : ∀ q ∈ lw_privs_6, lw_okq q := List.forall_mem_cons.mpr ⟨lw_p80, List.forall_mem_cons.mpr ⟨lw_p81, List.forall_mem_cons.mpr ⟨lw_p82, List.forall_mem_cons.mpr ⟨lw_p83, List.forall_mem_cons.mpr ⟨lw_p84, List.forall_mem_cons.mpr ⟨lw_p85, List.forall_mem_cons.mpr ⟨lw_p86, List.forall_mem_cons.mpr ⟨lw_p87, List.forall_mem_cons.mpr ⟨lw_p88, List.forall_mem_cons.mpr ⟨lw_p89, List.forall_mem_cons.mpr ⟨lw_p90, List.forall_mem_cons.mpr ⟨lw_p91, List.forall_mem_cons.mpr ⟨lw_p92, List.forall_mem_cons.mpr ⟨lw_p93, List.forall_mem_cons.mpr ⟨lw_p94, List.forall_mem_cons.mpr ⟨lw_p95, fun _ h => absurd h List.not_mem_nil⟩⟩⟩⟩⟩⟩⟩⟩⟩⟩⟩⟩⟩⟩⟩⟩
theorem lw_p96 : lw_okq (⟨"SpiceSwapsModel", "keepNow", "()V"⟩, 76) := ⟨⟨by decide +kernel, by decide +kernel⟩, List.mem_of_getElem? (i := 1151) (by decide +kernel), List.mem_of_getElem? (i := 1741) (by decide +kernel), List.mem_of_getElem? (i := 1742) (by decide +kernel)⟩
theorem lw_p97 : lw_okq (⟨"SpiceSwapsModel", "bringBack", "()V"⟩, 76) := ⟨⟨by decide +kernel, by decide +kernel⟩, List.mem_of_getElem? (i := 1151) (by decide +kernel), List.mem_of_getElem? (i := 1745) (by decide +kernel), List.mem_of_getElem? (i := 1746) (by decide +kernel)⟩
theorem lw_p98 : lw_okq (⟨"SpiceSwapsModel", "layGifts", "(I)Z"⟩, 76) := ⟨⟨by decide +kernel, by decide +kernel⟩, List.mem_of_getElem? (i := 1151) (by decide +kernel), List.mem_of_getElem? (i := 1753) (by decide +kernel), List.mem_of_getElem? (i := 1754) (by decide +kernel)⟩
theorem lw_p99 : lw_okq (⟨"SpiceSwapsModel", "giversInRing", "()I"⟩, 76) := ⟨⟨by decide +kernel, by decide +kernel⟩, List.mem_of_getElem? (i := 1151) (by decide +kernel), List.mem_of_getElem? (i := 1757) (by decide +kernel), List.mem_of_getElem? (i := 1758) (by decide +kernel)⟩
theorem lw_p100 : lw_okq (⟨"SpiceSwapsModel", "gainsOfRing", "(I)I"⟩, 76) := ⟨⟨by decide +kernel, by decide +kernel⟩, List.mem_of_getElem? (i := 1151) (by decide +kernel), List.mem_of_getElem? (i := 1761) (by decide +kernel), List.mem_of_getElem? (i := 1762) (by decide +kernel)⟩
theorem lw_p101 : lw_okq (⟨"SpiceSwapsModel", "layRound", "(II)Z"⟩, 76) := ⟨⟨by decide +kernel, by decide +kernel⟩, List.mem_of_getElem? (i := 1151) (by decide +kernel), List.mem_of_getElem? (i := 1765) (by decide +kernel), List.mem_of_getElem? (i := 1766) (by decide +kernel)⟩
theorem lw_p102 : lw_okq (⟨"SpiceSwapsModel", "gainsOfRound", "(I)I"⟩, 76) := ⟨⟨by decide +kernel, by decide +kernel⟩, List.mem_of_getElem? (i := 1151) (by decide +kernel), List.mem_of_getElem? (i := 1769) (by decide +kernel), List.mem_of_getElem? (i := 1770) (by decide +kernel)⟩
theorem lw_p103 : lw_okq (⟨"SpiceSwapsModel", "areTwo", "(II)Z"⟩, 76) := ⟨⟨by decide +kernel, by decide +kernel⟩, List.mem_of_getElem? (i := 1151) (by decide +kernel), List.mem_of_getElem? (i := 1781) (by decide +kernel), List.mem_of_getElem? (i := 1782) (by decide +kernel)⟩
theorem lw_p104 : lw_okq (⟨"SpiceSwapsModel", "earnedButBy", "(I)I"⟩, 76) := ⟨⟨by decide +kernel, by decide +kernel⟩, List.mem_of_getElem? (i := 1151) (by decide +kernel), List.mem_of_getElem? (i := 1800) (by decide +kernel), List.mem_of_getElem? (i := 1801) (by decide +kernel)⟩
theorem lw_p105 : lw_okq (⟨"SpiceSwapsModel", "goYears", "(I)V"⟩, 76) := ⟨⟨by decide +kernel, by decide +kernel⟩, List.mem_of_getElem? (i := 1151) (by decide +kernel), List.mem_of_getElem? (i := 1811) (by decide +kernel), List.mem_of_getElem? (i := 1812) (by decide +kernel)⟩
theorem lw_p106 : lw_okq (⟨"SpiceSwapsModel", "tell", "(IIZ)I"⟩, 76) := ⟨⟨by decide +kernel, by decide +kernel⟩, List.mem_of_getElem? (i := 1151) (by decide +kernel), List.mem_of_getElem? (i := 1838) (by decide +kernel), List.mem_of_getElem? (i := 1839) (by decide +kernel)⟩
theorem lw_p107 : lw_okq (⟨"SpiceSwapsModel", "doesFit", "(II)Z"⟩, 76) := ⟨⟨by decide +kernel, by decide +kernel⟩, List.mem_of_getElem? (i := 1151) (by decide +kernel), List.mem_of_getElem? (i := 1867) (by decide +kernel), List.mem_of_getElem? (i := 1868) (by decide +kernel)⟩
theorem lw_p108 : lw_okq (⟨"SpiceSwapsModel", "isSo", "(II)Z"⟩, 76) := ⟨⟨by decide +kernel, by decide +kernel⟩, List.mem_of_getElem? (i := 1151) (by decide +kernel), List.mem_of_getElem? (i := 1871) (by decide +kernel), List.mem_of_getElem? (i := 1872) (by decide +kernel)⟩
theorem lw_p109 : lw_okq (⟨"SpiceSwapsModel", "mostAlike", "(II)I"⟩, 76) := ⟨⟨by decide +kernel, by decide +kernel⟩, List.mem_of_getElem? (i := 1151) (by decide +kernel), List.mem_of_getElem? (i := 1880) (by decide +kernel), List.mem_of_getElem? (i := 1881) (by decide +kernel)⟩
theorem lw_p110 : lw_okq (⟨"SpiceSwapsModel", "allYields", "()I"⟩, 76) := ⟨⟨by decide +kernel, by decide +kernel⟩, List.mem_of_getElem? (i := 1151) (by decide +kernel), List.mem_of_getElem? (i := 1896) (by decide +kernel), List.mem_of_getElem? (i := 1897) (by decide +kernel)⟩
def lw_privs_7 : List (MethodName × Nat) := [(⟨"SpiceSwapsModel", "keepNow", "()V"⟩, 76), (⟨"SpiceSwapsModel", "bringBack", "()V"⟩, 76), (⟨"SpiceSwapsModel", "layGifts", "(I)Z"⟩, 76), (⟨"SpiceSwapsModel", "giversInRing", "()I"⟩, 76), (⟨"SpiceSwapsModel", "gainsOfRing", "(I)I"⟩, 76), (⟨"SpiceSwapsModel", "layRound", "(II)Z"⟩, 76), (⟨"SpiceSwapsModel", "gainsOfRound", "(I)I"⟩, 76), (⟨"SpiceSwapsModel", "areTwo", "(II)Z"⟩, 76), (⟨"SpiceSwapsModel", "earnedButBy", "(I)I"⟩, 76), (⟨"SpiceSwapsModel", "goYears", "(I)V"⟩, 76), (⟨"SpiceSwapsModel", "tell", "(IIZ)I"⟩, 76), (⟨"SpiceSwapsModel", "doesFit", "(II)Z"⟩, 76), (⟨"SpiceSwapsModel", "isSo", "(II)Z"⟩, 76), (⟨"SpiceSwapsModel", "mostAlike", "(II)I"⟩, 76), (⟨"SpiceSwapsModel", "allYields", "()I"⟩, 76)]
theorem lw_r7 : ∀ q ∈ lw_privs_7, lw_okq q := List.forall_mem_cons.mpr ⟨lw_p96, List.forall_mem_cons.mpr ⟨lw_p97, List.forall_mem_cons.mpr ⟨lw_p98, List.forall_mem_cons.mpr ⟨lw_p99, List.forall_mem_cons.mpr ⟨lw_p100, List.forall_mem_cons.mpr ⟨lw_p101, List.forall_mem_cons.mpr ⟨lw_p102, List.forall_mem_cons.mpr ⟨lw_p103, List.forall_mem_cons.mpr ⟨lw_p104, List.forall_mem_cons.mpr ⟨lw_p105, List.forall_mem_cons.mpr ⟨lw_p106, List.forall_mem_cons.mpr ⟨lw_p107, List.forall_mem_cons.mpr ⟨lw_p108, List.forall_mem_cons.mpr ⟨lw_p109, List.forall_mem_cons.mpr ⟨lw_p110, fun _ h => absurd h List.not_mem_nil⟩⟩⟩⟩⟩⟩⟩⟩⟩⟩⟩⟩⟩⟩⟩
def lw_privs : List (MethodName × Nat) := lw_privs_1 ++ (lw_privs_2 ++ (lw_privs_3 ++ (lw_privs_4 ++ (lw_privs_5 ++ (lw_privs_6 ++ (lw_privs_7))))))
def lw_tbl : List Cond := k2_sels lw_privs ++ tables_1
theorem lw_privs_ok : ∀ q ∈ lw_privs, lw_okq q := by
  show ∀ q ∈ lw_privs_1 ++ (lw_privs_2 ++ (lw_privs_3 ++ (lw_privs_4 ++ (lw_privs_5 ++ (lw_privs_6 ++ (lw_privs_7)))))), lw_okq q
  exact List.forall_mem_append.mpr ⟨lw_r1, List.forall_mem_append.mpr ⟨lw_r2, List.forall_mem_append.mpr ⟨lw_r3, List.forall_mem_append.mpr ⟨lw_r4, List.forall_mem_append.mpr ⟨lw_r5, List.forall_mem_append.mpr ⟨lw_r6, lw_r7⟩⟩⟩⟩⟩⟩
def RX0 : String := "SpiceSwaps$Bargains"
def TX0 : u_T := fun k => match k with
  | 0 => ("SpiceSwaps$Bargains", "courts", "I", false)
  | 1 => ("SpiceSwaps$Bargains", "places", "I", false)
  | 2 => ("SpiceSwaps$Bargains", "worths", "[I", true)
  | 3 => ("SpiceSwaps$Bargains", "holders", "[I", true)
  | 4 => ("SpiceSwaps$Bargains", "swapGains", "I", false)
  | 5 => ("SpiceSwaps$Bargains", "swapLow", "I", false)
  | 6 => ("SpiceSwaps$Bargains", "swapHigh", "I", false)
  | 7 => ("SpiceSwaps$Bargains", "gifts", "[I", true)
  | 8 => ("SpiceSwaps$Bargains", "ringGifts", "[I", true)
  | 9 => ("SpiceSwaps$Bargains", "ringGains", "I", false)
  | 10 => ("SpiceSwaps$Bargains", "ringSize", "I", false)
  | 11 => ("SpiceSwaps$Bargains", "part", "I", false)
  | 12 => ("SpiceSwaps$Bargains", "lesserWorth", "I", false)
  | _ => ("SpiceSwaps$Bargains", "bothWorth", "I", false)
def tyX0 : Nat → FieldType := fun k => match k with
  | 0 => .int
  | 1 => .int
  | 2 => .array .int
  | 3 => .array .int
  | 4 => .int
  | 5 => .int
  | 6 => .int
  | 7 => .array .int
  | 8 => .array .int
  | 9 => .int
  | 10 => .int
  | 11 => .int
  | 12 => .int
  | _ => .int
abbrev wsX00 : List Cond := u_ws RX0 TX0 14
theorem nmX0 : ∀ a, a < 14 → ∀ b, b < 14 → a ≠ b → (TX0 a).2.1 ≠ (TX0 b).2.1 := by decide +kernel
theorem tyX0_ok : ∀ k, k < 14 → parseFieldDescriptor (TX0 k).2.2.1 = some (tyX0 k) := by decide +kernel
abbrev cX0_init : ByteArray := prog_2_method_1_code
def yX0_init : MethodName := ⟨RX0, "<init>", "()V"⟩
abbrev cX0_weigh : ByteArray := prog_2_method_2_code
def yX0_weigh : MethodName := ⟨RX0, "weigh", "(LSpiceSwaps$Moment;)V"⟩
abbrev cX0_worthOf : ByteArray := prog_2_method_3_code
def yX0_worthOf : MethodName := ⟨RX0, "worthOf", "(II)I"⟩
abbrev cX0_worthOfSet : ByteArray := prog_2_method_4_code
def yX0_worthOfSet : MethodName := ⟨RX0, "worthOfSet", "(II)I"⟩
abbrev cX0_dearestCourt : ByteArray := prog_2_method_5_code
def yX0_dearestCourt : MethodName := ⟨RX0, "dearestCourt", "(I)I"⟩
abbrev cX0_findSwap : ByteArray := prog_2_method_6_code
def yX0_findSwap : MethodName := ⟨RX0, "findSwap", "()Z"⟩
abbrev cX0_countSwaps : ByteArray := prog_2_method_7_code
def yX0_countSwaps : MethodName := ⟨RX0, "countSwaps", "()I"⟩
abbrev cX0_settle : ByteArray := prog_2_method_8_code
def yX0_settle : MethodName := ⟨RX0, "settle", "()I"⟩
abbrev cX0_harmsNone : ByteArray := prog_2_method_9_code
def yX0_harmsNone : MethodName := ⟨RX0, "harmsNone", "(II)Z"⟩
abbrev cX0_swapGain : ByteArray := prog_2_method_10_code
def yX0_swapGain : MethodName := ⟨RX0, "swapGain", "(II)I"⟩
abbrev cX0_findRing : ByteArray := prog_2_method_11_code
def yX0_findRing : MethodName := ⟨RX0, "findRing", "()I"⟩
abbrev cX0_chooseGifts : ByteArray := prog_2_method_12_code
def yX0_chooseGifts : MethodName := ⟨RX0, "chooseGifts", "(II)V"⟩
abbrev cX0_tryGifts : ByteArray := prog_2_method_13_code
def yX0_tryGifts : MethodName := ⟨RX0, "tryGifts", "(I)V"⟩
abbrev cX0_closeRound : ByteArray := prog_2_method_14_code
def yX0_closeRound : MethodName := ⟨RX0, "closeRound", "(III)I"⟩
abbrev cX0_gainByGift : ByteArray := prog_2_method_15_code
def yX0_gainByGift : MethodName := ⟨RX0, "gainByGift", "(II)I"⟩
abbrev cX0_divideSet : ByteArray := prog_2_method_16_code
def yX0_divideSet : MethodName := ⟨RX0, "divideSet", "(III)V"⟩
abbrev cX0_findLots : ByteArray := prog_2_method_17_code
def yX0_findLots : MethodName := ⟨RX0, "findLots", "(III)Z"⟩
def RX1 : String := "SpiceSwaps$Formula"
def TX1 : u_T := fun k => match k with
  | 0 => ("SpiceSwaps$Formula", "steps", "[I", true)
  | 1 => ("SpiceSwaps$Formula", "stack", "[I", true)
  | 2 => ("SpiceSwaps$Formula", "size", "I", false)
  | 3 => ("SpiceSwaps$Formula", "units", "I", false)
  | _ => ("SpiceSwaps$Formula", "isTold", "Z", false)
def tyX1 : Nat → FieldType := fun k => match k with
  | 0 => .array .int
  | 1 => .array .int
  | 2 => .int
  | 3 => .int
  | _ => .boolean
abbrev wsX10 : List Cond := u_ws RX1 TX1 5
theorem nmX1 : ∀ a, a < 5 → ∀ b, b < 5 → a ≠ b → (TX1 a).2.1 ≠ (TX1 b).2.1 := by decide +kernel
theorem tyX1_ok : ∀ k, k < 5 → parseFieldDescriptor (TX1 k).2.2.1 = some (tyX1 k) := by decide +kernel
abbrev cX1_init : ByteArray := prog_3_method_1_code
def yX1_init : MethodName := ⟨RX1, "<init>", "()V"⟩
abbrev cX1_forget : ByteArray := prog_3_method_2_code
def yX1_forget : MethodName := ⟨RX1, "forget", "()V"⟩
abbrev cX1_add : ByteArray := prog_3_method_3_code
def yX1_add : MethodName := ⟨RX1, "add", "(I)V"⟩
abbrev cX1_reckon : ByteArray := prog_3_method_4_code
def yX1_reckon : MethodName := ⟨RX1, "reckon", "([I)I"⟩
abbrev cX1_lightAt : ByteArray := prog_3_method_5_code
def yX1_lightAt : MethodName := ⟨RX1, "lightAt", "([II)I"⟩
abbrev cX1_join : ByteArray := prog_3_method_6_code
def yX1_join : MethodName := ⟨RX1, "join", "(III)I"⟩
abbrev cX1_bit : ByteArray := prog_3_method_7_code
def yX1_bit : MethodName := ⟨RX1, "bit", "(Z)I"⟩
def RX2 : String := "SpiceSwaps$History"
def TX2 : u_T := fun k => match k with
  | 0 => ("SpiceSwaps$History", "rows", "[I", true)
  | 1 => ("SpiceSwaps$History", "first", "I", false)
  | 2 => ("SpiceSwaps$History", "done", "I", false)
  | _ => ("SpiceSwaps$History", "undone", "I", false)
def tyX2 : Nat → FieldType := fun k => match k with
  | 0 => .array .int
  | 1 => .int
  | 2 => .int
  | _ => .int
abbrev wsX20 : List Cond := u_ws RX2 TX2 4
theorem nmX2 : ∀ a, a < 4 → ∀ b, b < 4 → a ≠ b → (TX2 a).2.1 ≠ (TX2 b).2.1 := by decide +kernel
theorem tyX2_ok : ∀ k, k < 4 → parseFieldDescriptor (TX2 k).2.2.1 = some (tyX2 k) := by decide +kernel
abbrev cX2_init : ByteArray := prog_4_method_1_code
def yX2_init : MethodName := ⟨RX2, "<init>", "()V"⟩
abbrev cX2_forget : ByteArray := prog_4_method_2_code
def yX2_forget : MethodName := ⟨RX2, "forget", "()V"⟩
abbrev cX2_keep : ByteArray := prog_4_method_3_code
def yX2_keep : MethodName := ⟨RX2, "keep", "(LSpiceSwaps$Moment;)V"⟩
abbrev cX2_takeBack : ByteArray := prog_4_method_4_code
def yX2_takeBack : MethodName := ⟨RX2, "takeBack", "(LSpiceSwaps$Moment;)Z"⟩
abbrev cX2_doAgain : ByteArray := prog_4_method_5_code
def yX2_doAgain : MethodName := ⟨RX2, "doAgain", "(LSpiceSwaps$Moment;)Z"⟩
abbrev cX2_rowAt : ByteArray := prog_4_method_6_code
def yX2_rowAt : MethodName := ⟨RX2, "rowAt", "(I)I"⟩
def RX3 : String := "SpiceSwaps$Moment"
def TX3 : u_T := fun k => match k with
  | 0 => ("SpiceSwaps$Moment", "told", "LSpiceSwaps$Told;", false)
  | 1 => ("SpiceSwaps$Moment", "holderOf", "[I", true)
  | 2 => ("SpiceSwaps$Moment", "yieldOf", "[I", true)
  | 3 => ("SpiceSwaps$Moment", "cropOf", "[I", true)
  | 4 => ("SpiceSwaps$Moment", "goldOf", "[I", true)
  | 5 => ("SpiceSwaps$Moment", "lights", "[I", true)
  | 6 => ("SpiceSwaps$Moment", "year", "I", false)
  | _ => ("SpiceSwaps$Moment", "seed", "I", false)
def tyX3 : Nat → FieldType := fun k => match k with
  | 0 => .object "SpiceSwaps$Told"
  | 1 => .array .int
  | 2 => .array .int
  | 3 => .array .int
  | 4 => .array .int
  | 5 => .array .int
  | 6 => .int
  | _ => .int
abbrev wsX30 : List Cond := u_ws RX3 TX3 8
theorem nmX3 : ∀ a, a < 8 → ∀ b, b < 8 → a ≠ b → (TX3 a).2.1 ≠ (TX3 b).2.1 := by decide +kernel
theorem tyX3_ok : ∀ k, k < 8 → parseFieldDescriptor (TX3 k).2.2.1 = some (tyX3 k) := by decide +kernel
abbrev cX3_init : ByteArray := prog_5_method_1_code
def yX3_init : MethodName := ⟨RX3, "<init>", "(LSpiceSwaps$Told;)V"⟩
abbrev cX3_begin : ByteArray := prog_5_method_2_code
def yX3_begin : MethodName := ⟨RX3, "begin", "(LSpiceSwaps$Told;)V"⟩
abbrev cX3_copyFrom : ByteArray := prog_5_method_3_code
def yX3_copyFrom : MethodName := ⟨RX3, "copyFrom", "(LSpiceSwaps$Moment;)V"⟩
abbrev cX3_writeTo : ByteArray := prog_5_method_4_code
def yX3_writeTo : MethodName := ⟨RX3, "writeTo", "([II)V"⟩
abbrev cX3_readFrom : ByteArray := prog_5_method_5_code
def yX3_readFrom : MethodName := ⟨RX3, "readFrom", "([II)V"⟩
abbrev cX3_placesOf : ByteArray := prog_5_method_6_code
def yX3_placesOf : MethodName := ⟨RX3, "placesOf", "(I)I"⟩
abbrev cX3_plantedWith : ByteArray := prog_5_method_7_code
def yX3_plantedWith : MethodName := ⟨RX3, "plantedWith", "(I)I"⟩
abbrev cX3_growersOf : ByteArray := prog_5_method_8_code
def yX3_growersOf : MethodName := ⟨RX3, "growersOf", "(I)I"⟩
abbrev cX3_priceAt : ByteArray := prog_5_method_9_code
def yX3_priceAt : MethodName := ⟨RX3, "priceAt", "(I)I"⟩
abbrev cX3_earnedAt : ByteArray := prog_5_method_10_code
def yX3_earnedAt : MethodName := ⟨RX3, "earnedAt", "(I)I"⟩
abbrev cX3_earnedBy : ByteArray := prog_5_method_11_code
def yX3_earnedBy : MethodName := ⟨RX3, "earnedBy", "(I)I"⟩
abbrev cX3_allYields : ByteArray := prog_5_method_12_code
def yX3_allYields : MethodName := ⟨RX3, "allYields", "()I"⟩
abbrev cX3_worthTo : ByteArray := prog_5_method_13_code
def yX3_worthTo : MethodName := ⟨RX3, "worthTo", "(II)I"⟩
abbrev cX3_passYear : ByteArray := prog_5_method_14_code
def yX3_passYear : MethodName := ⟨RX3, "passYear", "()I"⟩
abbrev cX3_growthAt : ByteArray := prog_5_method_15_code
def yX3_growthAt : MethodName := ⟨RX3, "growthAt", "(I)I"⟩
abbrev cX3_strike : ByteArray := prog_5_method_16_code
def yX3_strike : MethodName := ⟨RX3, "strike", "()V"⟩
abbrev cX3_setLights : ByteArray := prog_5_method_17_code
def yX3_setLights : MethodName := ⟨RX3, "setLights", "(III)V"⟩
def RX4 : String := "SpiceSwaps$Reader"
def TX4 : u_T := fun k => match k with
  | 0 => ("SpiceSwaps$Reader", "words", "[J", true)
  | 1 => ("SpiceSwaps$Reader", "courtNames", "[J", true)
  | 2 => ("SpiceSwaps$Reader", "cropNames", "[J", true)
  | 3 => ("SpiceSwaps$Reader", "placeNames", "[J", true)
  | 4 => ("SpiceSwaps$Reader", "tape", "LSpiceSwaps$Tape;", true)
  | 5 => ("SpiceSwaps$Reader", "bytes", "[B", true)
  | 6 => ("SpiceSwaps$Reader", "end", "I", false)
  | 7 => ("SpiceSwaps$Reader", "into", "LSpiceSwaps$Told;", false)
  | 8 => ("SpiceSwaps$Reader", "formula", "LSpiceSwaps$Formula;", false)
  | 9 => ("SpiceSwaps$Reader", "next", "I", false)
  | 10 => ("SpiceSwaps$Reader", "at", "I", false)
  | 11 => ("SpiceSwaps$Reader", "kind", "I", false)
  | 12 => ("SpiceSwaps$Reader", "word", "J", false)
  | 13 => ("SpiceSwaps$Reader", "number", "I", false)
  | 14 => ("SpiceSwaps$Reader", "fault", "I", false)
  | _ => ("SpiceSwaps$Reader", "faultAt", "I", false)
def tyX4 : Nat → FieldType := fun k => match k with
  | 0 => .array .long
  | 1 => .array .long
  | 2 => .array .long
  | 3 => .array .long
  | 4 => .object "SpiceSwaps$Tape"
  | 5 => .array .byte
  | 6 => .int
  | 7 => .object "SpiceSwaps$Told"
  | 8 => .object "SpiceSwaps$Formula"
  | 9 => .int
  | 10 => .int
  | 11 => .int
  | 12 => .long
  | 13 => .int
  | 14 => .int
  | _ => .int
abbrev wsX40 : List Cond := u_ws RX4 TX4 16
theorem nmX4 : ∀ a, a < 16 → ∀ b, b < 16 → a ≠ b → (TX4 a).2.1 ≠ (TX4 b).2.1 := by decide +kernel
theorem tyX4_ok : ∀ k, k < 16 → parseFieldDescriptor (TX4 k).2.2.1 = some (tyX4 k) := by decide +kernel
abbrev cX4_init : ByteArray := prog_6_method_1_code
def yX4_init : MethodName := ⟨RX4, "<init>", "(LSpiceSwaps$Tape;LSpiceSwaps$Told;)V"⟩
abbrev cX4_read : ByteArray := prog_6_method_2_code
def yX4_read : MethodName := ⟨RX4, "read", "(LSpiceSwaps$Told;)Z"⟩
abbrev cX4_readCourt : ByteArray := prog_6_method_3_code
def yX4_readCourt : MethodName := ⟨RX4, "readCourt", "()V"⟩
abbrev cX4_readCrop : ByteArray := prog_6_method_4_code
def yX4_readCrop : MethodName := ⟨RX4, "readCrop", "()V"⟩
abbrev cX4_readPlace : ByteArray := prog_6_method_5_code
def yX4_readPlace : MethodName := ⟨RX4, "readPlace", "()V"⟩
abbrev cX4_readBelief : ByteArray := prog_6_method_6_code
def yX4_readBelief : MethodName := ⟨RX4, "readBelief", "()V"⟩
abbrev cX4_readStorm : ByteArray := prog_6_method_7_code
def yX4_readStorm : MethodName := ⟨RX4, "readStorm", "()V"⟩
abbrev cX4_readDraw : ByteArray := prog_6_method_8_code
def yX4_readDraw : MethodName := ⟨RX4, "readDraw", "()V"⟩
abbrev cX4_readFormula : ByteArray := prog_6_method_9_code
def yX4_readFormula : MethodName := ⟨RX4, "readFormula", "(LSpiceSwaps$Formula;)V"⟩
abbrev cX4_readJoined : ByteArray := prog_6_method_10_code
def yX4_readJoined : MethodName := ⟨RX4, "readJoined", "(II)V"⟩
abbrev cX4_readNegated : ByteArray := prog_6_method_11_code
def yX4_readNegated : MethodName := ⟨RX4, "readNegated", "(I)V"⟩
abbrev cX4_readUnit : ByteArray := prog_6_method_12_code
def yX4_readUnit : MethodName := ⟨RX4, "readUnit", "(I)V"⟩
abbrev cX4_levelOf : ByteArray := prog_6_method_13_code
def yX4_levelOf : MethodName := ⟨RX4, "levelOf", "(I)I"⟩
abbrev cX4_jointOf : ByteArray := prog_6_method_14_code
def yX4_jointOf : MethodName := ⟨RX4, "jointOf", "(I)I"⟩
abbrev cX4_take : ByteArray := prog_6_method_15_code
def yX4_take : MethodName := ⟨RX4, "take", "(I)V"⟩
abbrev cX4_takeIfThere : ByteArray := prog_6_method_16_code
def yX4_takeIfThere : MethodName := ⟨RX4, "takeIfThere", "(I)Z"⟩
abbrev cX4_takeNumber : ByteArray := prog_6_method_17_code
def yX4_takeNumber : MethodName := ⟨RX4, "takeNumber", "(II)I"⟩
abbrev cX4_takeNewName : ByteArray := prog_6_method_18_code
def yX4_takeNewName : MethodName := ⟨RX4, "takeNewName", "([JI)V"⟩
abbrev cX4_takeKnownName : ByteArray := prog_6_method_19_code
def yX4_takeKnownName : MethodName := ⟨RX4, "takeKnownName", "([JI)I"⟩
abbrev cX4_findName : ByteArray := prog_6_method_20_code
def yX4_findName : MethodName := ⟨RX4, "findName", "([JI)I"⟩
abbrev cX4_fail : ByteArray := prog_6_method_21_code
def yX4_fail : MethodName := ⟨RX4, "fail", "(I)V"⟩
abbrev cX4_step : ByteArray := prog_6_method_22_code
def yX4_step : MethodName := ⟨RX4, "step", "()V"⟩
abbrev cX4_stepOverWord : ByteArray := prog_6_method_23_code
def yX4_stepOverWord : MethodName := ⟨RX4, "stepOverWord", "()V"⟩
abbrev cX4_stepOverNumber : ByteArray := prog_6_method_24_code
def yX4_stepOverNumber : MethodName := ⟨RX4, "stepOverNumber", "()V"⟩
abbrev cX4_packed : ByteArray := prog_6_method_25_code
def yX4_packed : MethodName := ⟨RX4, "packed", "(JI)J"⟩
abbrev cX4_packAll : ByteArray := prog_6_method_26_code
def yX4_packAll : MethodName := ⟨RX4, "packAll", "(Ljava/lang/String;)[J"⟩
def RX5 : String := "SpiceSwaps$Row"
def TX5 : u_T := fun k => match k with
  | 0 => ("SpiceSwaps$Row", "numbers", "[I", true)
  | _ => ("SpiceSwaps$Row", "size", "I", false)
def tyX5 : Nat → FieldType := fun k => match k with
  | 0 => .array .int
  | _ => .int
abbrev wsX50 : List Cond := u_ws RX5 TX5 2
theorem nmX5 : ∀ a, a < 2 → ∀ b, b < 2 → a ≠ b → (TX5 a).2.1 ≠ (TX5 b).2.1 := by decide +kernel
theorem tyX5_ok : ∀ k, k < 2 → parseFieldDescriptor (TX5 k).2.2.1 = some (tyX5 k) := by decide +kernel
abbrev cX5_init : ByteArray := prog_7_method_1_code
def yX5_init : MethodName := ⟨RX5, "<init>", "()V"⟩
abbrev cX5_empty : ByteArray := prog_7_method_2_code
def yX5_empty : MethodName := ⟨RX5, "empty", "()V"⟩
abbrev cX5_add : ByteArray := prog_7_method_3_code
def yX5_add : MethodName := ⟨RX5, "add", "(I)V"⟩
abbrev cX5_fill : ByteArray := prog_7_method_4_code
def yX5_fill : MethodName := ⟨RX5, "fill", "([II)V"⟩
def RX6 : String := "SpiceSwaps$Secrets"
def TX6 : u_T := fun k => match k with
  | 0 => ("SpiceSwaps$Secrets", "sorts", "[I", true)
  | 1 => ("SpiceSwaps$Secrets", "values", "[I", true)
  | 2 => ("SpiceSwaps$Secrets", "truths", "[Z", true)
  | 3 => ("SpiceSwaps$Secrets", "toldAt", "[I", true)
  | 4 => ("SpiceSwaps$Secrets", "untoldAt", "[I", true)
  | _ => ("SpiceSwaps$Secrets", "size", "I", false)
def tyX6 : Nat → FieldType := fun k => match k with
  | 0 => .array .int
  | 1 => .array .int
  | 2 => .array .boolean
  | 3 => .array .int
  | 4 => .array .int
  | _ => .int
abbrev wsX60 : List Cond := u_ws RX6 TX6 6
theorem nmX6 : ∀ a, a < 6 → ∀ b, b < 6 → a ≠ b → (TX6 a).2.1 ≠ (TX6 b).2.1 := by decide +kernel
theorem tyX6_ok : ∀ k, k < 6 → parseFieldDescriptor (TX6 k).2.2.1 = some (tyX6 k) := by decide +kernel
abbrev cX6_init : ByteArray := prog_8_method_1_code
def yX6_init : MethodName := ⟨RX6, "<init>", "()V"⟩
abbrev cX6_forget : ByteArray := prog_8_method_2_code
def yX6_forget : MethodName := ⟨RX6, "forget", "()V"⟩
abbrev cX6_tell : ByteArray := prog_8_method_3_code
def yX6_tell : MethodName := ⟨RX6, "tell", "(IIZI)I"⟩
abbrev cX6_takeAway : ByteArray := prog_8_method_4_code
def yX6_takeAway : MethodName := ⟨RX6, "takeAway", "(II)Z"⟩
abbrev cX6_fitting : ByteArray := prog_8_method_5_code
def yX6_fitting : MethodName := ⟨RX6, "fitting", "(LSpiceSwaps$Moment;I)I"⟩
abbrev cX6_fitsAll : ByteArray := prog_8_method_6_code
def yX6_fitsAll : MethodName := ⟨RX6, "fitsAll", "(LSpiceSwaps$Moment;II)Z"⟩
abbrev cX6_counts : ByteArray := prog_8_method_7_code
def yX6_counts : MethodName := ⟨RX6, "counts", "(II)Z"⟩
abbrev cX6_isSo : ByteArray := prog_8_method_8_code
def yX6_isSo : MethodName := ⟨RX6, "isSo", "(ILSpiceSwaps$Moment;I)Z"⟩
abbrev cX6_answerOf : ByteArray := prog_8_method_9_code
def yX6_answerOf : MethodName := ⟨RX6, "answerOf", "(ILSpiceSwaps$Moment;I)I"⟩
abbrev cX6_mostLeft : ByteArray := prog_8_method_10_code
def yX6_mostLeft : MethodName := ⟨RX6, "mostLeft", "(LSpiceSwaps$Moment;II)I"⟩
def RX7 : String := "SpiceSwaps$Tape"
def TX7 : u_T := fun k => match k with
  | 0 => ("SpiceSwaps$Tape", "bytes", "[B", true)
  | _ => ("SpiceSwaps$Tape", "size", "I", false)
def tyX7 : Nat → FieldType := fun k => match k with
  | 0 => .array .byte
  | _ => .int
abbrev wsX70 : List Cond := u_ws RX7 TX7 2
theorem nmX7 : ∀ a, a < 2 → ∀ b, b < 2 → a ≠ b → (TX7 a).2.1 ≠ (TX7 b).2.1 := by decide +kernel
theorem tyX7_ok : ∀ k, k < 2 → parseFieldDescriptor (TX7 k).2.2.1 = some (tyX7 k) := by decide +kernel
abbrev cX7_init : ByteArray := prog_9_method_1_code
def yX7_init : MethodName := ⟨RX7, "<init>", "()V"⟩
abbrev cX7_hasRoomFor : ByteArray := prog_9_method_2_code
def yX7_hasRoomFor : MethodName := ⟨RX7, "hasRoomFor", "(I)Z"⟩
abbrev cX7_put : ByteArray := prog_9_method_3_code
def yX7_put : MethodName := ⟨RX7, "put", "(I)V"⟩
abbrev cX7_cutTo : ByteArray := prog_9_method_4_code
def yX7_cutTo : MethodName := ⟨RX7, "cutTo", "(I)Z"⟩
def RX8 : String := "SpiceSwaps$Told"
def TX8 : u_T := fun k => match k with
  | 0 => ("SpiceSwaps$Told", "courts", "I", false)
  | 1 => ("SpiceSwaps$Told", "crops", "I", false)
  | 2 => ("SpiceSwaps$Told", "places", "I", false)
  | 3 => ("SpiceSwaps$Told", "goldOf", "[I", true)
  | 4 => ("SpiceSwaps$Told", "priceOf", "[I", true)
  | 5 => ("SpiceSwaps$Told", "holderOf", "[I", true)
  | 6 => ("SpiceSwaps$Told", "yieldOf", "[I", true)
  | 7 => ("SpiceSwaps$Told", "cropOf", "[I", true)
  | 8 => ("SpiceSwaps$Told", "harbourOf", "[I", true)
  | 9 => ("SpiceSwaps$Told", "garrisonOf", "[I", true)
  | 10 => ("SpiceSwaps$Told", "beliefOf", "[I", true)
  | 11 => ("SpiceSwaps$Told", "worthBy", "LSpiceSwaps$Formula;", true)
  | 12 => ("SpiceSwaps$Told", "growBy", "LSpiceSwaps$Formula;", true)
  | 13 => ("SpiceSwaps$Told", "storm", "I", false)
  | 14 => ("SpiceSwaps$Told", "stormLoss", "I", false)
  | 15 => ("SpiceSwaps$Told", "stormIsTold", "Z", false)
  | 16 => ("SpiceSwaps$Told", "draw", "I", false)
  | _ => ("SpiceSwaps$Told", "drawIsTold", "Z", false)
def tyX8 : Nat → FieldType := fun k => match k with
  | 0 => .int
  | 1 => .int
  | 2 => .int
  | 3 => .array .int
  | 4 => .array .int
  | 5 => .array .int
  | 6 => .array .int
  | 7 => .array .int
  | 8 => .array .int
  | 9 => .array .int
  | 10 => .array .int
  | 11 => .object "SpiceSwaps$Formula"
  | 12 => .object "SpiceSwaps$Formula"
  | 13 => .int
  | 14 => .int
  | 15 => .boolean
  | 16 => .int
  | _ => .boolean
abbrev wsX80 : List Cond := u_ws RX8 TX8 18
theorem nmX8 : ∀ a, a < 18 → ∀ b, b < 18 → a ≠ b → (TX8 a).2.1 ≠ (TX8 b).2.1 := by decide +kernel
theorem tyX8_ok : ∀ k, k < 18 → parseFieldDescriptor (TX8 k).2.2.1 = some (tyX8 k) := by decide +kernel
abbrev cX8_init : ByteArray := prog_10_method_1_code
def yX8_init : MethodName := ⟨RX8, "<init>", "()V"⟩
abbrev cX8_forget : ByteArray := prog_10_method_2_code
def yX8_forget : MethodName := ⟨RX8, "forget", "()V"⟩
abbrev cX8_isBelieved : ByteArray := prog_10_method_3_code
def yX8_isBelieved : MethodName := ⟨RX8, "isBelieved", "(II)Z"⟩
abbrev cX8_believe : ByteArray := prog_10_method_4_code
def yX8_believe : MethodName := ⟨RX8, "believe", "(III)V"⟩
abbrev cX8_believed : ByteArray := prog_10_method_5_code
def yX8_believed : MethodName := ⟨RX8, "believed", "(II)I"⟩
def RX9 : String := "SpiceSwaps"
def TX9 : u_T := fun k => match k with
  | 0 => ("SpiceSwaps", "tape", "LSpiceSwaps$Tape;", true)
  | 1 => ("SpiceSwaps", "reader", "LSpiceSwaps$Reader;", true)
  | 2 => ("SpiceSwaps", "told", "LSpiceSwaps$Told;", false)
  | 3 => ("SpiceSwaps", "spare", "LSpiceSwaps$Told;", false)
  | 4 => ("SpiceSwaps", "now", "LSpiceSwaps$Moment;", true)
  | 5 => ("SpiceSwaps", "ahead", "LSpiceSwaps$Moment;", true)
  | 6 => ("SpiceSwaps", "history", "LSpiceSwaps$History;", true)
  | 7 => ("SpiceSwaps", "bargains", "LSpiceSwaps$Bargains;", true)
  | 8 => ("SpiceSwaps", "secrets", "LSpiceSwaps$Secrets;", true)
  | 9 => ("SpiceSwaps", "lying", "LSpiceSwaps$Row;", true)
  | 10 => ("SpiceSwaps", "boxRows", "[I", true)
  | 11 => ("SpiceSwaps", "boxFull", "[Z", true)
  | _ => ("SpiceSwaps", "time", "I", false)
def tyX9 : Nat → FieldType := fun k => match k with
  | 0 => .object "SpiceSwaps$Tape"
  | 1 => .object "SpiceSwaps$Reader"
  | 2 => .object "SpiceSwaps$Told"
  | 3 => .object "SpiceSwaps$Told"
  | 4 => .object "SpiceSwaps$Moment"
  | 5 => .object "SpiceSwaps$Moment"
  | 6 => .object "SpiceSwaps$History"
  | 7 => .object "SpiceSwaps$Bargains"
  | 8 => .object "SpiceSwaps$Secrets"
  | 9 => .object "SpiceSwaps$Row"
  | 10 => .array .int
  | 11 => .array .boolean
  | _ => .int
abbrev wsX90 : List Cond := u_ws RX9 TX9 13
theorem nmX9 : ∀ a, a < 13 → ∀ b, b < 13 → a ≠ b → (TX9 a).2.1 ≠ (TX9 b).2.1 := by decide +kernel
theorem tyX9_ok : ∀ k, k < 13 → parseFieldDescriptor (TX9 k).2.2.1 = some (tyX9 k) := by decide +kernel
abbrev cX9_init : ByteArray := prog_1_method_1_code
def yX9_init : MethodName := ⟨RX9, "<init>", "()V"⟩
abbrev cX9_feed : ByteArray := prog_1_method_2_code
def yX9_feed : MethodName := ⟨RX9, "feed", "(IIIII)I"⟩
abbrev cX9_end : ByteArray := prog_1_method_3_code
def yX9_end : MethodName := ⟨RX9, "end", "(I)I"⟩
abbrev cX9_world : ByteArray := prog_1_method_4_code
def yX9_world : MethodName := ⟨RX9, "world", "()I"⟩
abbrev cX9_fault : ByteArray := prog_1_method_5_code
def yX9_fault : MethodName := ⟨RX9, "fault", "(I)I"⟩
abbrev cX9_place : ByteArray := prog_1_method_6_code
def yX9_place : MethodName := ⟨RX9, "place", "(II)I"⟩
abbrev cX9_court : ByteArray := prog_1_method_7_code
def yX9_court : MethodName := ⟨RX9, "court", "(II)I"⟩
abbrev cX9_crop : ByteArray := prog_1_method_8_code
def yX9_crop : MethodName := ⟨RX9, "crop", "(II)I"⟩
abbrev cX9_belief : ByteArray := prog_1_method_9_code
def yX9_belief : MethodName := ⟨RX9, "belief", "(II)I"⟩
abbrev cX9_worth : ByteArray := prog_1_method_10_code
def yX9_worth : MethodName := ⟨RX9, "worth", "(II)I"⟩
abbrev cX9_swap : ByteArray := prog_1_method_11_code
def yX9_swap : MethodName := ⟨RX9, "swap", "(II)Z"⟩
abbrev cX9_cede : ByteArray := prog_1_method_12_code
def yX9_cede : MethodName := ⟨RX9, "cede", "(II)I"⟩
abbrev cX9_carry : ByteArray := prog_1_method_13_code
def yX9_carry : MethodName := ⟨RX9, "carry", "(II)I"⟩
abbrev cX9_year : ByteArray := prog_1_method_14_code
def yX9_year : MethodName := ⟨RX9, "year", "()I"⟩
abbrev cX9_undo : ByteArray := prog_1_method_15_code
def yX9_undo : MethodName := ⟨RX9, "undo", "()Z"⟩
abbrev cX9_redo : ByteArray := prog_1_method_16_code
def yX9_redo : MethodName := ⟨RX9, "redo", "()Z"⟩
abbrev cX9_gain : ByteArray := prog_1_method_17_code
def yX9_gain : MethodName := ⟨RX9, "gain", "(II)I"⟩
abbrev cX9_best : ByteArray := prog_1_method_18_code
def yX9_best : MethodName := ⟨RX9, "best", "(I)I"⟩
abbrev cX9_swaps : ByteArray := prog_1_method_19_code
def yX9_swaps : MethodName := ⟨RX9, "swaps", "()I"⟩
abbrev cX9_haggle : ByteArray := prog_1_method_20_code
def yX9_haggle : MethodName := ⟨RX9, "haggle", "()I"⟩
abbrev cX9_envies : ByteArray := prog_1_method_21_code
def yX9_envies : MethodName := ⟨RX9, "envies", "(I)I"⟩
abbrev cX9_ports : ByteArray := prog_1_method_22_code
def yX9_ports : MethodName := ⟨RX9, "ports", "(I)I"⟩
abbrev cX9_ring : ByteArray := prog_1_method_23_code
def yX9_ring : MethodName := ⟨RX9, "ring", "()I"⟩
abbrev cX9_dear : ByteArray := prog_1_method_24_code
def yX9_dear : MethodName := ⟨RX9, "dear", "()I"⟩
abbrev cX9_misheld : ByteArray := prog_1_method_25_code
def yX9_misheld : MethodName := ⟨RX9, "misheld", "()I"⟩
abbrev cX9_divide : ByteArray := prog_1_method_26_code
def yX9_divide : MethodName := ⟨RX9, "divide", "(IIII)I"⟩
abbrev cX9_lots : ByteArray := prog_1_method_27_code
def yX9_lots : MethodName := ⟨RX9, "lots", "(IIII)I"⟩
abbrev cX9_seeds : ByteArray := prog_1_method_28_code
def yX9_seeds : MethodName := ⟨RX9, "seeds", "(III)I"⟩
abbrev cX9_leak : ByteArray := prog_1_method_29_code
def yX9_leak : MethodName := ⟨RX9, "leak", "(II)I"⟩
abbrev cX9_will : ByteArray := prog_1_method_30_code
def yX9_will : MethodName := ⟨RX9, "will", "(II)I"⟩
abbrev cX9_ruin : ByteArray := prog_1_method_31_code
def yX9_ruin : MethodName := ⟨RX9, "ruin", "(I)I"⟩
abbrev cX9_grown : ByteArray := prog_1_method_32_code
def yX9_grown : MethodName := ⟨RX9, "grown", "(II)I"⟩
abbrev cX9_richest : ByteArray := prog_1_method_33_code
def yX9_richest : MethodName := ⟨RX9, "richest", "(I)I"⟩
abbrev cX9_odds : ByteArray := prog_1_method_34_code
def yX9_odds : MethodName := ⟨RX9, "odds", "(II)I"⟩
abbrev cX9_lies : ByteArray := prog_1_method_35_code
def yX9_lies : MethodName := ⟨RX9, "lies", "(I)I"⟩
abbrev cX9_yields : ByteArray := prog_1_method_36_code
def yX9_yields : MethodName := ⟨RX9, "yields", "(IZ)I"⟩
abbrev cX9_harbours : ByteArray := prog_1_method_37_code
def yX9_harbours : MethodName := ⟨RX9, "harbours", "(Z)I"⟩
abbrev cX9_holds : ByteArray := prog_1_method_38_code
def yX9_holds : MethodName := ⟨RX9, "holds", "(IZ)I"⟩
abbrev cX9_grows : ByteArray := prog_1_method_39_code
def yX9_grows : MethodName := ⟨RX9, "grows", "(IZ)I"⟩
abbrev cX9_untell : ByteArray := prog_1_method_40_code
def yX9_untell : MethodName := ⟨RX9, "untell", "(I)Z"⟩
abbrev cX9_later : ByteArray := prog_1_method_41_code
def yX9_later : MethodName := ⟨RX9, "later", "(I)I"⟩
abbrev cX9_fits : ByteArray := prog_1_method_42_code
def yX9_fits : MethodName := ⟨RX9, "fits", "(I)I"⟩
abbrev cX9_ask : ByteArray := prog_1_method_43_code
def yX9_ask : MethodName := ⟨RX9, "ask", "(II)I"⟩
abbrev cX9_image : ByteArray := prog_1_method_44_code
def yX9_image : MethodName := ⟨RX9, "image", "(I)I"⟩
abbrev cX9_back : ByteArray := prog_1_method_45_code
def yX9_back : MethodName := ⟨RX9, "back", "(I)I"⟩
abbrev cX9_about : ByteArray := prog_1_method_46_code
def yX9_about : MethodName := ⟨RX9, "about", "(I)I"⟩
abbrev cX9_isPlace : ByteArray := prog_1_method_47_code
def yX9_isPlace : MethodName := ⟨RX9, "isPlace", "(I)Z"⟩
abbrev cX9_isCourt : ByteArray := prog_1_method_48_code
def yX9_isCourt : MethodName := ⟨RX9, "isCourt", "(I)Z"⟩
abbrev cX9_isCrop : ByteArray := prog_1_method_49_code
def yX9_isCrop : MethodName := ⟨RX9, "isCrop", "(I)Z"⟩
abbrev cX9_isFarYear : ByteArray := prog_1_method_50_code
def yX9_isFarYear : MethodName := ⟨RX9, "isFarYear", "(I)Z"⟩
abbrev cX9_areTwoCourts : ByteArray := prog_1_method_51_code
def yX9_areTwoCourts : MethodName := ⟨RX9, "areTwoCourts", "(II)Z"⟩
abbrev cX9_areOfUnlikeCourts : ByteArray := prog_1_method_52_code
def yX9_areOfUnlikeCourts : MethodName := ⟨RX9, "areOfUnlikeCourts", "(II)Z"⟩
abbrev cX9_lookAhead : ByteArray := prog_1_method_53_code
def yX9_lookAhead : MethodName := ⟨RX9, "lookAhead", "(I)V"⟩
abbrev cX9_plantAhead : ByteArray := prog_1_method_54_code
def yX9_plantAhead : MethodName := ⟨RX9, "plantAhead", "(II)V"⟩
abbrev cX9_commonDivisor : ByteArray := prog_1_method_55_code
def yX9_commonDivisor : MethodName := ⟨RX9, "commonDivisor", "(II)I"⟩
abbrev cX9_within : ByteArray := prog_1_method_56_code
def yX9_within : MethodName := ⟨RX9, "within", "(III)I"⟩
def RX10 : String := "SpiceSwapsModel"
def TX10 : u_T := fun k => match k with
  | 0 => ("SpiceSwapsModel", "tape", "[B", true)
  | 1 => ("SpiceSwapsModel", "text", "[B", true)
  | 2 => ("SpiceSwapsModel", "taped", "I", false)
  | 3 => ("SpiceSwapsModel", "size", "I", false)
  | 4 => ("SpiceSwapsModel", "faultKind", "I", false)
  | 5 => ("SpiceSwapsModel", "faultPlace", "I", false)
  | 6 => ("SpiceSwapsModel", "at", "I", false)
  | 7 => ("SpiceSwapsModel", "end", "I", false)
  | 8 => ("SpiceSwapsModel", "token", "I", false)
  | 9 => ("SpiceSwapsModel", "number", "I", false)
  | 10 => ("SpiceSwapsModel", "name", "J", false)
  | 11 => ("SpiceSwapsModel", "courts", "[I", true)
  | 12 => ("SpiceSwapsModel", "crops", "[I", true)
  | 13 => ("SpiceSwapsModel", "places", "[I", true)
  | 14 => ("SpiceSwapsModel", "units", "[I", true)
  | 15 => ("SpiceSwapsModel", "storm", "[I", true)
  | 16 => ("SpiceSwapsModel", "loss", "[I", true)
  | 17 => ("SpiceSwapsModel", "draw", "[I", true)
  | 18 => ("SpiceSwapsModel", "harbour", "[I", true)
  | 19 => ("SpiceSwapsModel", "goldTold", "[I", true)
  | 20 => ("SpiceSwapsModel", "price", "[I", true)
  | 21 => ("SpiceSwapsModel", "heldTold", "[I", true)
  | 22 => ("SpiceSwapsModel", "yieldTold", "[I", true)
  | 23 => ("SpiceSwapsModel", "cropTold", "[I", true)
  | 24 => ("SpiceSwapsModel", "garrison", "[I", true)
  | 25 => ("SpiceSwapsModel", "beliefOf", "[I", true)
  | 26 => ("SpiceSwapsModel", "isBelief", "[I", true)
  | 27 => ("SpiceSwapsModel", "ruleFrom", "[I", true)
  | 28 => ("SpiceSwapsModel", "ruleTo", "[I", true)
  | 29 => ("SpiceSwapsModel", "hasWorth", "[Z", true)
  | 30 => ("SpiceSwapsModel", "hasGrow", "[Z", true)
  | 31 => ("SpiceSwapsModel", "hasStorm", "[Z", true)
  | 32 => ("SpiceSwapsModel", "isDraw", "[Z", true)
  | 33 => ("SpiceSwapsModel", "cName", "[J", true)
  | 34 => ("SpiceSwapsModel", "kName", "[J", true)
  | 35 => ("SpiceSwapsModel", "pName", "[J", true)
  | 36 => ("SpiceSwapsModel", "code", "[I", true)
  | 37 => ("SpiceSwapsModel", "codeNumber", "[I", true)
  | 38 => ("SpiceSwapsModel", "eWhat", "[I", true)
  | 39 => ("SpiceSwapsModel", "eSign", "[I", true)
  | 40 => ("SpiceSwapsModel", "pile", "[I", true)
  | 41 => ("SpiceSwapsModel", "bank", "I", false)
  | 42 => ("SpiceSwapsModel", "rb", "I", false)
  | 43 => ("SpiceSwapsModel", "codes", "I", false)
  | 44 => ("SpiceSwapsModel", "within", "I", false)
  | 45 => ("SpiceSwapsModel", "piled", "I", false)
  | 46 => ("SpiceSwapsModel", "unitsInRule", "I", false)
  | 47 => ("SpiceSwapsModel", "askPlace", "I", false)
  | 48 => ("SpiceSwapsModel", "askBelief", "I", false)
  | 49 => ("SpiceSwapsModel", "askCourt", "I", false)
  | 50 => ("SpiceSwapsModel", "all", "[I", true)
  | 51 => ("SpiceSwapsModel", "more", "[I", true)
  | 52 => ("SpiceSwapsModel", "earned", "I", false)
  | 53 => ("SpiceSwapsModel", "was", "[I", true)
  | 54 => ("SpiceSwapsModel", "acts", "I", false)
  | 55 => ("SpiceSwapsModel", "undone", "I", false)
  | 56 => ("SpiceSwapsModel", "bestLow", "I", false)
  | 57 => ("SpiceSwapsModel", "bestHigh", "I", false)
  | 58 => ("SpiceSwapsModel", "bestGain", "I", false)
  | 59 => ("SpiceSwapsModel", "good", "I", false)
  | 60 => ("SpiceSwapsModel", "laidRow", "[I", true)
  | 61 => ("SpiceSwapsModel", "laid", "I", false)
  | 62 => ("SpiceSwapsModel", "kept", "[I", true)
  | 63 => ("SpiceSwapsModel", "gives", "[I", true)
  | 64 => ("SpiceSwapsModel", "inRing", "[I", true)
  | 65 => ("SpiceSwapsModel", "round", "[I", true)
  | 66 => ("SpiceSwapsModel", "sSort", "[I", true)
  | 67 => ("SpiceSwapsModel", "sOf", "[I", true)
  | 68 => ("SpiceSwapsModel", "sIs", "[I", true)
  | 69 => ("SpiceSwapsModel", "sTold", "[I", true)
  | 70 => ("SpiceSwapsModel", "sUntold", "[I", true)
  | 71 => ("SpiceSwapsModel", "parts", "[I", true)
  | 72 => ("SpiceSwapsModel", "saids", "I", false)
  | 73 => ("SpiceSwapsModel", "time", "I", false)
  | 74 => ("SpiceSwapsModel", "boxAll", "[I", true)
  | _ => ("SpiceSwapsModel", "isBoxed", "[Z", true)
def tyX10 : Nat → FieldType := fun k => match k with
  | 0 => .array .byte
  | 1 => .array .byte
  | 2 => .int
  | 3 => .int
  | 4 => .int
  | 5 => .int
  | 6 => .int
  | 7 => .int
  | 8 => .int
  | 9 => .int
  | 10 => .long
  | 11 => .array .int
  | 12 => .array .int
  | 13 => .array .int
  | 14 => .array .int
  | 15 => .array .int
  | 16 => .array .int
  | 17 => .array .int
  | 18 => .array .int
  | 19 => .array .int
  | 20 => .array .int
  | 21 => .array .int
  | 22 => .array .int
  | 23 => .array .int
  | 24 => .array .int
  | 25 => .array .int
  | 26 => .array .int
  | 27 => .array .int
  | 28 => .array .int
  | 29 => .array .boolean
  | 30 => .array .boolean
  | 31 => .array .boolean
  | 32 => .array .boolean
  | 33 => .array .long
  | 34 => .array .long
  | 35 => .array .long
  | 36 => .array .int
  | 37 => .array .int
  | 38 => .array .int
  | 39 => .array .int
  | 40 => .array .int
  | 41 => .int
  | 42 => .int
  | 43 => .int
  | 44 => .int
  | 45 => .int
  | 46 => .int
  | 47 => .int
  | 48 => .int
  | 49 => .int
  | 50 => .array .int
  | 51 => .array .int
  | 52 => .int
  | 53 => .array .int
  | 54 => .int
  | 55 => .int
  | 56 => .int
  | 57 => .int
  | 58 => .int
  | 59 => .int
  | 60 => .array .int
  | 61 => .int
  | 62 => .array .int
  | 63 => .array .int
  | 64 => .array .int
  | 65 => .array .int
  | 66 => .array .int
  | 67 => .array .int
  | 68 => .array .int
  | 69 => .array .int
  | 70 => .array .int
  | 71 => .array .int
  | 72 => .int
  | 73 => .int
  | 74 => .array .int
  | _ => .array .boolean
abbrev wsX100 : List Cond := u_ws RX10 TX10 76
theorem nmX10 : ∀ a, a < 76 → ∀ b, b < 76 → a ≠ b → (TX10 a).2.1 ≠ (TX10 b).2.1 := by decide +kernel
theorem tyX10_ok : ∀ k, k < 76 → parseFieldDescriptor (TX10 k).2.2.1 = some (tyX10 k) := by decide +kernel
abbrev cX10_init : ByteArray := prog_12_method_1_code
def yX10_init : MethodName := ⟨RX10, "<init>", "()V"⟩
abbrev cX10_sign : ByteArray := prog_12_method_2_code
def yX10_sign : MethodName := ⟨RX10, "sign", "(I)I"⟩
abbrev cX10_isLetter : ByteArray := prog_12_method_3_code
def yX10_isLetter : MethodName := ⟨RX10, "isLetter", "(I)Z"⟩
abbrev cX10_isDigit : ByteArray := prog_12_method_4_code
def yX10_isDigit : MethodName := ⟨RX10, "isDigit", "(I)Z"⟩
abbrev cX10_fails : ByteArray := prog_12_method_5_code
def yX10_fails : MethodName := ⟨RX10, "fails", "(II)V"⟩
abbrev cX10_isGood : ByteArray := prog_12_method_6_code
def yX10_isGood : MethodName := ⟨RX10, "isGood", "()Z"⟩
abbrev cX10_isKept : ByteArray := prog_12_method_7_code
def yX10_isKept : MethodName := ⟨RX10, "isKept", "(J)Z"⟩
abbrev cX10_isSign : ByteArray := prog_12_method_8_code
def yX10_isSign : MethodName := ⟨RX10, "isSign", "(I)Z"⟩
abbrev cX10_goOn : ByteArray := prog_12_method_9_code
def yX10_goOn : MethodName := ⟨RX10, "goOn", "()V"⟩
abbrev cX10_isSignHere : ByteArray := prog_12_method_10_code
def yX10_isSignHere : MethodName := ⟨RX10, "isSignHere", "(I)Z"⟩
abbrev cX10_isWord : ByteArray := prog_12_method_11_code
def yX10_isWord : MethodName := ⟨RX10, "isWord", "(J)Z"⟩
abbrev cX10_misplaced : ByteArray := prog_12_method_12_code
def yX10_misplaced : MethodName := ⟨RX10, "misplaced", "()V"⟩
abbrev cX10_must : ByteArray := prog_12_method_13_code
def yX10_must : MethodName := ⟨RX10, "must", "(Z)V"⟩
abbrev cX10_numeral : ByteArray := prog_12_method_14_code
def yX10_numeral : MethodName := ⟨RX10, "numeral", "(II)I"⟩
abbrev cX10_after : ByteArray := prog_12_method_15_code
def yX10_after : MethodName := ⟨RX10, "after", "(JII)I"⟩
abbrev cX10_clearBank : ByteArray := prog_12_method_16_code
def yX10_clearBank : MethodName := ⟨RX10, "clearBank", "()V"⟩
abbrev cX10_world : ByteArray := prog_12_method_17_code
def yX10_world : MethodName := ⟨RX10, "world", "()I"⟩
abbrev cX10_isFull : ByteArray := prog_12_method_18_code
def yX10_isFull : MethodName := ⟨RX10, "isFull", "()Z"⟩
abbrev cX10_readLine : ByteArray := prog_12_method_19_code
def yX10_readLine : MethodName := ⟨RX10, "readLine", "()V"⟩
abbrev cX10_here : ByteArray := prog_12_method_20_code
def yX10_here : MethodName := ⟨RX10, "here", "([JII)I"⟩
abbrev cX10_courtHere : ByteArray := prog_12_method_21_code
def yX10_courtHere : MethodName := ⟨RX10, "courtHere", "()I"⟩
abbrev cX10_cropHere : ByteArray := prog_12_method_22_code
def yX10_cropHere : MethodName := ⟨RX10, "cropHere", "()I"⟩
abbrev cX10_placeHere : ByteArray := prog_12_method_23_code
def yX10_placeHere : MethodName := ⟨RX10, "placeHere", "()I"⟩
abbrev cX10_fresh : ByteArray := prog_12_method_24_code
def yX10_fresh : MethodName := ⟨RX10, "fresh", "(I)J"⟩
abbrev cX10_known : ByteArray := prog_12_method_25_code
def yX10_known : MethodName := ⟨RX10, "known", "(I)I"⟩
abbrev cX10_readCourt : ByteArray := prog_12_method_26_code
def yX10_readCourt : MethodName := ⟨RX10, "readCourt", "()V"⟩
abbrev cX10_readCrop : ByteArray := prog_12_method_27_code
def yX10_readCrop : MethodName := ⟨RX10, "readCrop", "()V"⟩
abbrev cX10_readPlace : ByteArray := prog_12_method_28_code
def yX10_readPlace : MethodName := ⟨RX10, "readPlace", "()V"⟩
abbrev cX10_readBelief : ByteArray := prog_12_method_29_code
def yX10_readBelief : MethodName := ⟨RX10, "readBelief", "()V"⟩
abbrev cX10_readRule : ByteArray := prog_12_method_30_code
def yX10_readRule : MethodName := ⟨RX10, "readRule", "(I)V"⟩
abbrev cX10_emit : ByteArray := prog_12_method_31_code
def yX10_emit : MethodName := ⟨RX10, "emit", "(II)V"⟩
abbrev cX10_pushE : ByteArray := prog_12_method_32_code
def yX10_pushE : MethodName := ⟨RX10, "pushE", "(II)V"⟩
abbrev cX10_e : ByteArray := prog_12_method_33_code
def yX10_e : MethodName := ⟨RX10, "e", "()V"⟩
abbrev cX10_wordHere : ByteArray := prog_12_method_34_code
def yX10_wordHere : MethodName := ⟨RX10, "wordHere", "()I"⟩
abbrev cX10_unit : ByteArray := prog_12_method_35_code
def yX10_unit : MethodName := ⟨RX10, "unit", "()Z"⟩
abbrev cX10_rankHere : ByteArray := prog_12_method_36_code
def yX10_rankHere : MethodName := ⟨RX10, "rankHere", "()I"⟩
abbrev cX10_isCompared : ByteArray := prog_12_method_37_code
def yX10_isCompared : MethodName := ⟨RX10, "isCompared", "()Z"⟩
abbrev cX10_behindUnit : ByteArray := prog_12_method_38_code
def yX10_behindUnit : MethodName := ⟨RX10, "behindUnit", "()Z"⟩
abbrev cX10_two : ByteArray := prog_12_method_39_code
def yX10_two : MethodName := ⟨RX10, "two", "(III)I"⟩
abbrev cX10_asked : ByteArray := prog_12_method_40_code
def yX10_asked : MethodName := ⟨RX10, "asked", "(II)I"⟩
abbrev cX10_comes : ByteArray := prog_12_method_41_code
def yX10_comes : MethodName := ⟨RX10, "comes", "(I)I"⟩
abbrev cX10_fault : ByteArray := prog_12_method_42_code
def yX10_fault : MethodName := ⟨RX10, "fault", "(I)I"⟩
abbrev cX10_isIn : ByteArray := prog_12_method_43_code
def yX10_isIn : MethodName := ⟨RX10, "isIn", "(III)Z"⟩
abbrev cX10_bound : ByteArray := prog_12_method_44_code
def yX10_bound : MethodName := ⟨RX10, "bound", "(III)I"⟩
abbrev cX10_has : ByteArray := prog_12_method_45_code
def yX10_has : MethodName := ⟨RX10, "has", "(II)Z"⟩
abbrev cX10_bitsOf : ByteArray := prog_12_method_46_code
def yX10_bitsOf : MethodName := ⟨RX10, "bitsOf", "(I)I"⟩
abbrev cX10_divisor : ByteArray := prog_12_method_47_code
def yX10_divisor : MethodName := ⟨RX10, "divisor", "(II)I"⟩
abbrev cX10_many : ByteArray := prog_12_method_48_code
def yX10_many : MethodName := ⟨RX10, "many", "()I"⟩
abbrev cX10_isPlace : ByteArray := prog_12_method_49_code
def yX10_isPlace : MethodName := ⟨RX10, "isPlace", "(I)Z"⟩
abbrev cX10_isCourt : ByteArray := prog_12_method_50_code
def yX10_isCourt : MethodName := ⟨RX10, "isCourt", "(I)Z"⟩
abbrev cX10_isCrop : ByteArray := prog_12_method_51_code
def yX10_isCrop : MethodName := ⟨RX10, "isCrop", "(I)Z"⟩
abbrev cX10_areTwo : ByteArray := prog_12_method_52_code
def yX10_areTwo : MethodName := ⟨RX10, "areTwo", "(II)Z"⟩
abbrev cX10_startAnew : ByteArray := prog_12_method_53_code
def yX10_startAnew : MethodName := ⟨RX10, "startAnew", "()V"⟩
abbrev cX10_heldBy : ByteArray := prog_12_method_54_code
def yX10_heldBy : MethodName := ⟨RX10, "heldBy", "(I)I"⟩
abbrev cX10_priceAt : ByteArray := prog_12_method_55_code
def yX10_priceAt : MethodName := ⟨RX10, "priceAt", "(I)I"⟩
abbrev cX10_growersOf : ByteArray := prog_12_method_56_code
def yX10_growersOf : MethodName := ⟨RX10, "growersOf", "(I)I"⟩
abbrev cX10_earnedAt : ByteArray := prog_12_method_57_code
def yX10_earnedAt : MethodName := ⟨RX10, "earnedAt", "(I)I"⟩
abbrev cX10_earnedBy : ByteArray := prog_12_method_58_code
def yX10_earnedBy : MethodName := ⟨RX10, "earnedBy", "(I)I"⟩
abbrev cX10_worthTo : ByteArray := prog_12_method_59_code
def yX10_worthTo : MethodName := ⟨RX10, "worthTo", "(II)I"⟩
abbrev cX10_worthsTo : ByteArray := prog_12_method_60_code
def yX10_worthsTo : MethodName := ⟨RX10, "worthsTo", "(II)I"⟩
abbrev cX10_layGrowing : ByteArray := prog_12_method_61_code
def yX10_layGrowing : MethodName := ⟨RX10, "layGrowing", "()V"⟩
abbrev cX10_goYear : ByteArray := prog_12_method_62_code
def yX10_goYear : MethodName := ⟨RX10, "goYear", "()V"⟩
abbrev cX10_place : ByteArray := prog_12_method_63_code
def yX10_place : MethodName := ⟨RX10, "place", "(II)I"⟩
abbrev cX10_court : ByteArray := prog_12_method_64_code
def yX10_court : MethodName := ⟨RX10, "court", "(II)I"⟩
abbrev cX10_placesOf : ByteArray := prog_12_method_65_code
def yX10_placesOf : MethodName := ⟨RX10, "placesOf", "(I)I"⟩
abbrev cX10_crop : ByteArray := prog_12_method_66_code
def yX10_crop : MethodName := ⟨RX10, "crop", "(II)I"⟩
abbrev cX10_belief : ByteArray := prog_12_method_67_code
def yX10_belief : MethodName := ⟨RX10, "belief", "(II)I"⟩
abbrev cX10_worth : ByteArray := prog_12_method_68_code
def yX10_worth : MethodName := ⟨RX10, "worth", "(II)I"⟩
abbrev cX10_ports : ByteArray := prog_12_method_69_code
def yX10_ports : MethodName := ⟨RX10, "ports", "(I)I"⟩
abbrev cX10_envies : ByteArray := prog_12_method_70_code
def yX10_envies : MethodName := ⟨RX10, "envies", "(I)I"⟩
abbrev cX10_misheld : ByteArray := prog_12_method_71_code
def yX10_misheld : MethodName := ⟨RX10, "misheld", "()I"⟩
abbrev cX10_keepAct : ByteArray := prog_12_method_72_code
def yX10_keepAct : MethodName := ⟨RX10, "keepAct", "()V"⟩
abbrev cX10_exchange : ByteArray := prog_12_method_73_code
def yX10_exchange : MethodName := ⟨RX10, "exchange", "()V"⟩
abbrev cX10_canSwap : ByteArray := prog_12_method_74_code
def yX10_canSwap : MethodName := ⟨RX10, "canSwap", "(II)Z"⟩
abbrev cX10_swapBoth : ByteArray := prog_12_method_75_code
def yX10_swapBoth : MethodName := ⟨RX10, "swapBoth", "(II)V"⟩
abbrev cX10_swap : ByteArray := prog_12_method_76_code
def yX10_swap : MethodName := ⟨RX10, "swap", "(II)Z"⟩
abbrev cX10_cede : ByteArray := prog_12_method_77_code
def yX10_cede : MethodName := ⟨RX10, "cede", "(II)I"⟩
abbrev cX10_carry : ByteArray := prog_12_method_78_code
def yX10_carry : MethodName := ⟨RX10, "carry", "(II)I"⟩
abbrev cX10_year : ByteArray := prog_12_method_79_code
def yX10_year : MethodName := ⟨RX10, "year", "()I"⟩
abbrev cX10_undo : ByteArray := prog_12_method_80_code
def yX10_undo : MethodName := ⟨RX10, "undo", "()Z"⟩
abbrev cX10_redo : ByteArray := prog_12_method_81_code
def yX10_redo : MethodName := ⟨RX10, "redo", "()Z"⟩
abbrev cX10_gainOf : ByteArray := prog_12_method_82_code
def yX10_gainOf : MethodName := ⟨RX10, "gainOf", "(II)I"⟩
abbrev cX10_gain : ByteArray := prog_12_method_83_code
def yX10_gain : MethodName := ⟨RX10, "gain", "(II)I"⟩
abbrev cX10_findSwap : ByteArray := prog_12_method_84_code
def yX10_findSwap : MethodName := ⟨RX10, "findSwap", "()V"⟩
abbrev cX10_best : ByteArray := prog_12_method_85_code
def yX10_best : MethodName := ⟨RX10, "best", "(I)I"⟩
abbrev cX10_swaps : ByteArray := prog_12_method_86_code
def yX10_swaps : MethodName := ⟨RX10, "swaps", "()I"⟩
abbrev cX10_lies : ByteArray := prog_12_method_87_code
def yX10_lies : MethodName := ⟨RX10, "lies", "(I)I"⟩
abbrev cX10_keepNow : ByteArray := prog_12_method_88_code
def yX10_keepNow : MethodName := ⟨RX10, "keepNow", "()V"⟩
abbrev cX10_bringBack : ByteArray := prog_12_method_89_code
def yX10_bringBack : MethodName := ⟨RX10, "bringBack", "()V"⟩
abbrev cX10_haggle : ByteArray := prog_12_method_90_code
def yX10_haggle : MethodName := ⟨RX10, "haggle", "()I"⟩
abbrev cX10_layGifts : ByteArray := prog_12_method_91_code
def yX10_layGifts : MethodName := ⟨RX10, "layGifts", "(I)Z"⟩
abbrev cX10_giversInRing : ByteArray := prog_12_method_92_code
def yX10_giversInRing : MethodName := ⟨RX10, "giversInRing", "()I"⟩
abbrev cX10_layRound : ByteArray := prog_12_method_93_code
def yX10_layRound : MethodName := ⟨RX10, "layRound", "(II)Z"⟩
abbrev cX10_gainsOfRound : ByteArray := prog_12_method_94_code
def yX10_gainsOfRound : MethodName := ⟨RX10, "gainsOfRound", "(I)I"⟩
abbrev cX10_gainsOfRing : ByteArray := prog_12_method_95_code
def yX10_gainsOfRing : MethodName := ⟨RX10, "gainsOfRing", "(I)I"⟩
abbrev cX10_ring : ByteArray := prog_12_method_96_code
def yX10_ring : MethodName := ⟨RX10, "ring", "()I"⟩
abbrev cX10_dear : ByteArray := prog_12_method_97_code
def yX10_dear : MethodName := ⟨RX10, "dear", "()I"⟩
abbrev cX10_lesser : ByteArray := prog_12_method_98_code
def yX10_lesser : MethodName := ⟨RX10, "lesser", "(II)I"⟩
abbrev cX10_divide : ByteArray := prog_12_method_99_code
def yX10_divide : MethodName := ⟨RX10, "divide", "(IIII)I"⟩
abbrev cX10_lots : ByteArray := prog_12_method_100_code
def yX10_lots : MethodName := ⟨RX10, "lots", "(IIII)I"⟩
abbrev cX10_seeds : ByteArray := prog_12_method_101_code
def yX10_seeds : MethodName := ⟨RX10, "seeds", "(III)I"⟩
abbrev cX10_earnedButBy : ByteArray := prog_12_method_102_code
def yX10_earnedButBy : MethodName := ⟨RX10, "earnedButBy", "(I)I"⟩
abbrev cX10_leak : ByteArray := prog_12_method_103_code
def yX10_leak : MethodName := ⟨RX10, "leak", "(II)I"⟩
abbrev cX10_isAhead : ByteArray := prog_12_method_104_code
def yX10_isAhead : MethodName := ⟨RX10, "isAhead", "(I)Z"⟩
abbrev cX10_goYears : ByteArray := prog_12_method_105_code
def yX10_goYears : MethodName := ⟨RX10, "goYears", "(I)V"⟩
abbrev cX10_will : ByteArray := prog_12_method_106_code
def yX10_will : MethodName := ⟨RX10, "will", "(II)I"⟩
abbrev cX10_ruin : ByteArray := prog_12_method_107_code
def yX10_ruin : MethodName := ⟨RX10, "ruin", "(I)I"⟩
abbrev cX10_grown : ByteArray := prog_12_method_108_code
def yX10_grown : MethodName := ⟨RX10, "grown", "(II)I"⟩
abbrev cX10_richest : ByteArray := prog_12_method_109_code
def yX10_richest : MethodName := ⟨RX10, "richest", "(I)I"⟩
abbrev cX10_odds : ByteArray := prog_12_method_110_code
def yX10_odds : MethodName := ⟨RX10, "odds", "(II)I"⟩
abbrev cX10_tell : ByteArray := prog_12_method_111_code
def yX10_tell : MethodName := ⟨RX10, "tell", "(IIZ)I"⟩
abbrev cX10_yields : ByteArray := prog_12_method_112_code
def yX10_yields : MethodName := ⟨RX10, "yields", "(IZ)I"⟩
abbrev cX10_harbours : ByteArray := prog_12_method_113_code
def yX10_harbours : MethodName := ⟨RX10, "harbours", "(Z)I"⟩
abbrev cX10_holds : ByteArray := prog_12_method_114_code
def yX10_holds : MethodName := ⟨RX10, "holds", "(IZ)I"⟩
abbrev cX10_grows : ByteArray := prog_12_method_115_code
def yX10_grows : MethodName := ⟨RX10, "grows", "(IZ)I"⟩
abbrev cX10_untell : ByteArray := prog_12_method_116_code
def yX10_untell : MethodName := ⟨RX10, "untell", "(I)Z"⟩
abbrev cX10_later : ByteArray := prog_12_method_117_code
def yX10_later : MethodName := ⟨RX10, "later", "(I)I"⟩
abbrev cX10_isSo : ByteArray := prog_12_method_118_code
def yX10_isSo : MethodName := ⟨RX10, "isSo", "(II)Z"⟩
abbrev cX10_doesFit : ByteArray := prog_12_method_119_code
def yX10_doesFit : MethodName := ⟨RX10, "doesFit", "(II)Z"⟩
abbrev cX10_fits : ByteArray := prog_12_method_120_code
def yX10_fits : MethodName := ⟨RX10, "fits", "(I)I"⟩
abbrev cX10_mostAlike : ByteArray := prog_12_method_121_code
def yX10_mostAlike : MethodName := ⟨RX10, "mostAlike", "(II)I"⟩
abbrev cX10_ask : ByteArray := prog_12_method_122_code
def yX10_ask : MethodName := ⟨RX10, "ask", "(II)I"⟩
abbrev cX10_image : ByteArray := prog_12_method_123_code
def yX10_image : MethodName := ⟨RX10, "image", "(I)I"⟩
abbrev cX10_back : ByteArray := prog_12_method_124_code
def yX10_back : MethodName := ⟨RX10, "back", "(I)I"⟩
abbrev cX10_allYields : ByteArray := prog_12_method_125_code
def yX10_allYields : MethodName := ⟨RX10, "allYields", "()I"⟩
abbrev cX10_about : ByteArray := prog_12_method_126_code
def yX10_about : MethodName := ⟨RX10, "about", "(I)I"⟩
abbrev cX10_feed : ByteArray := prog_12_method_127_code
def yX10_feed : MethodName := ⟨RX10, "feed", "(IIIII)I"⟩
abbrev cX10_end : ByteArray := prog_12_method_128_code
def yX10_end : MethodName := ⟨RX10, "end", "(I)I"⟩
def RJ11 : String := "java/lang/Character"
def TJ11 : u_T := fun k => match k with
  | _ => ("", "", "", false)
def tyJ11 : Nat → FieldType := fun k => match k with
  | _ => .int
abbrev wsJ110 : List Cond := u_ws RJ11 TJ11 0
theorem nmJ11 : ∀ a, a < 0 → ∀ b, b < 0 → a ≠ b → (TJ11 a).2.1 ≠ (TJ11 b).2.1 := by decide +kernel
theorem tyJ11_ok : ∀ k, k < 0 → parseFieldDescriptor (TJ11 k).2.2.1 = some (tyJ11 k) := by decide +kernel
abbrev cJ11_isValidCodePoint_9a6ad : ByteArray := prog_13_method_11_code
def yJ11_isValidCodePoint_9a6ad : MethodName := ⟨RJ11, "isValidCodePoint", "(I)Z"⟩
abbrev cJ11_highSurrogate_5068e : ByteArray := prog_13_method_28_code
def yJ11_highSurrogate_5068e : MethodName := ⟨RJ11, "highSurrogate", "(I)C"⟩
abbrev cJ11_lowSurrogate_5068e : ByteArray := prog_13_method_29_code
def yJ11_lowSurrogate_5068e : MethodName := ⟨RJ11, "lowSurrogate", "(I)C"⟩
def RJ6 : String := "java/lang/Integer"
def TJ6 : u_T := fun k => match k with
  | _ => ("", "", "", false)
def tyJ6 : Nat → FieldType := fun k => match k with
  | _ => .int
abbrev wsJ60 : List Cond := u_ws RJ6 TJ6 0
theorem nmJ6 : ∀ a, a < 0 → ∀ b, b < 0 → a ≠ b → (TJ6 a).2.1 ≠ (TJ6 b).2.1 := by decide +kernel
theorem tyJ6_ok : ∀ k, k < 0 → parseFieldDescriptor (TJ6 k).2.2.1 = some (tyJ6 k) := by decide +kernel
abbrev cJ6_bitCount_0f7a4 : ByteArray := prog_14_method_49_code
def yJ6_bitCount_0f7a4 : MethodName := ⟨RJ6, "bitCount", "(I)I"⟩
def RJ9 : String := "java/lang/Math"
def TJ9 : u_T := fun k => match k with
  | _ => ("", "", "", false)
def tyJ9 : Nat → FieldType := fun k => match k with
  | _ => .int
abbrev wsJ90 : List Cond := u_ws RJ9 TJ9 0
theorem nmJ9 : ∀ a, a < 0 → ∀ b, b < 0 → a ≠ b → (TJ9 a).2.1 ≠ (TJ9 b).2.1 := by decide +kernel
theorem tyJ9_ok : ∀ k, k < 0 → parseFieldDescriptor (TJ9 k).2.2.1 = some (tyJ9 k) := by decide +kernel
abbrev cJ9_max_7cf53 : ByteArray := prog_15_method_65_code
def yJ9_max_7cf53 : MethodName := ⟨RJ9, "max", "(II)I"⟩
abbrev cJ9_min_7cf53 : ByteArray := prog_15_method_69_code
def yJ9_min_7cf53 : MethodName := ⟨RJ9, "min", "(II)I"⟩
def RJ0 : String := "java/lang/String"
def TJ0 : u_T := fun k => match k with
  | _ => ("", "", "", false)
def tyJ0 : Nat → FieldType := fun k => match k with
  | _ => .int
abbrev wsJ00 : List Cond := u_ws RJ0 TJ0 0
theorem nmJ0 : ∀ a, a < 0 → ∀ b, b < 0 → a ≠ b → (TJ0 a).2.1 ≠ (TJ0 b).2.1 := by decide +kernel
theorem tyJ0_ok : ∀ k, k < 0 → parseFieldDescriptor (TJ0 k).2.2.1 = some (tyJ0 k) := by decide +kernel
abbrev cJ0_length_8abf5 : ByteArray := prog_16_method_54_code
def yJ0_length_8abf5 : MethodName := ⟨RJ0, "length", "()I"⟩
abbrev cJ0_charAt_5068e : ByteArray := prog_16_method_56_code
def yJ0_charAt_5068e : MethodName := ⟨RJ0, "charAt", "(I)C"⟩
abbrev cJ0_indexOf_0f7a4 : ByteArray := prog_16_method_79_code
def yJ0_indexOf_0f7a4 : MethodName := ⟨RJ0, "indexOf", "(I)I"⟩
abbrev cJ0_indexOf_7cf53 : ByteArray := prog_16_method_80_code
def yJ0_indexOf_7cf53 : MethodName := ⟨RJ0, "indexOf", "(II)I"⟩
abbrev cJ0_coder_7d493 : ByteArray := prog_16_method_152_code
def yJ0_coder_7d493 : MethodName := ⟨RJ0, "coder", "()B"⟩
abbrev cJ0_isLatin1_aae02 : ByteArray := prog_16_method_154_code
def yJ0_isLatin1_aae02 : MethodName := ⟨RJ0, "isLatin1", "()Z"⟩
abbrev cJ0_checkIndex_df160 : ByteArray := prog_16_method_155_code
def yJ0_checkIndex_df160 : MethodName := ⟨RJ0, "checkIndex", "(II)V"⟩
abbrev cJ0_checkBoundsBeginEnd_23922 : ByteArray := prog_16_method_158_code
def yJ0_checkBoundsBeginEnd_23922 : MethodName := ⟨RJ0, "checkBoundsBeginEnd", "(III)V"⟩
def RJ1 : String := "java/lang/StringLatin1"
def TJ1 : u_T := fun k => match k with
  | _ => ("", "", "", false)
def tyJ1 : Nat → FieldType := fun k => match k with
  | _ => .int
abbrev wsJ10 : List Cond := u_ws RJ1 TJ1 0
theorem nmJ1 : ∀ a, a < 0 → ∀ b, b < 0 → a ≠ b → (TJ1 a).2.1 ≠ (TJ1 b).2.1 := by decide +kernel
theorem tyJ1_ok : ∀ k, k < 0 → parseFieldDescriptor (TJ1 k).2.2.1 = some (tyJ1 k) := by decide +kernel
abbrev cJ1_charAt_3b067 : ByteArray := prog_17_method_2_code
def yJ1_charAt_3b067 : MethodName := ⟨RJ1, "charAt", "([BI)C"⟩
abbrev cJ1_canEncode_9a6ad : ByteArray := prog_17_method_4_code
def yJ1_canEncode_9a6ad : MethodName := ⟨RJ1, "canEncode", "(I)Z"⟩
abbrev cJ1_indexOf_4cfef : ByteArray := prog_17_method_22_code
def yJ1_indexOf_4cfef : MethodName := ⟨RJ1, "indexOf", "([BIII)I"⟩
abbrev cJ1_indexOfChar_4cfef : ByteArray := prog_17_method_23_code
def yJ1_indexOfChar_4cfef : MethodName := ⟨RJ1, "indexOfChar", "([BIII)I"⟩
def RJ2 : String := "java/lang/StringUTF16"
def TJ2 : u_T := fun k => match k with
  | _ => ("", "", "", false)
def tyJ2 : Nat → FieldType := fun k => match k with
  | _ => .int
abbrev wsJ20 : List Cond := u_ws RJ2 TJ2 0
theorem nmJ2 : ∀ a, a < 0 → ∀ b, b < 0 → a ≠ b → (TJ2 a).2.1 ≠ (TJ2 b).2.1 := by decide +kernel
theorem tyJ2_ok : ∀ k, k < 0 → parseFieldDescriptor (TJ2 k).2.2.1 = some (tyJ2 k) := by decide +kernel
abbrev cJ2_getChar_3b067 : ByteArray := prog_18_method_5_code
def yJ2_getChar_3b067 : MethodName := ⟨RJ2, "getChar", "([BI)C"⟩
abbrev cJ2_length_9d52b : ByteArray := prog_18_method_6_code
def yJ2_length_9d52b : MethodName := ⟨RJ2, "length", "([B)I"⟩
abbrev cJ2_indexOf_4cfef : ByteArray := prog_18_method_40_code
def yJ2_indexOf_4cfef : MethodName := ⟨RJ2, "indexOf", "([BIII)I"⟩
abbrev cJ2_indexOfChar_4cfef : ByteArray := prog_18_method_47_code
def yJ2_indexOfChar_4cfef : MethodName := ⟨RJ2, "indexOfChar", "([BIII)I"⟩
abbrev cJ2_indexOfCharUnsafe_4cfef : ByteArray := prog_18_method_48_code
def yJ2_indexOfCharUnsafe_4cfef : MethodName := ⟨RJ2, "indexOfCharUnsafe", "([BIII)I"⟩
abbrev cJ2_indexOfSupplementary_4cfef : ByteArray := prog_18_method_49_code
def yJ2_indexOfSupplementary_4cfef : MethodName := ⟨RJ2, "indexOfSupplementary", "([BIII)I"⟩
abbrev cJ2_charAt_3b067 : ByteArray := prog_18_method_83_code
def yJ2_charAt_3b067 : MethodName := ⟨RJ2, "charAt", "([BI)C"⟩
abbrev cJ2_checkIndex_2214a : ByteArray := prog_18_method_91_code
def yJ2_checkIndex_2214a : MethodName := ⟨RJ2, "checkIndex", "(I[B)V"⟩
abbrev cJ2_checkBoundsBeginEnd_d044e : ByteArray := prog_18_method_93_code
def yJ2_checkBoundsBeginEnd_d044e : MethodName := ⟨RJ2, "checkBoundsBeginEnd", "(II[B)V"⟩
def RJ10 : String := "java/lang/System"
def TJ10 : u_T := fun k => match k with
  | _ => ("", "", "", false)
def tyJ10 : Nat → FieldType := fun k => match k with
  | _ => .int
abbrev wsJ100 : List Cond := u_ws RJ10 TJ10 0
theorem nmJ10 : ∀ a, a < 0 → ∀ b, b < 0 → a ≠ b → (TJ10 a).2.1 ≠ (TJ10 b).2.1 := by decide +kernel
theorem tyJ10_ok : ∀ k, k < 0 → parseFieldDescriptor (TJ10 k).2.2.1 = some (tyJ10 k) := by decide +kernel
def RJ3 : String := "jdk/internal/util/Preconditions"
def TJ3 : u_T := fun k => match k with
  | _ => ("", "", "", false)
def tyJ3 : Nat → FieldType := fun k => match k with
  | _ => .int
abbrev wsJ30 : List Cond := u_ws RJ3 TJ3 0
theorem nmJ3 : ∀ a, a < 0 → ∀ b, b < 0 → a ≠ b → (TJ3 a).2.1 ≠ (TJ3 b).2.1 := by decide +kernel
theorem tyJ3_ok : ∀ k, k < 0 → parseFieldDescriptor (TJ3 k).2.2.1 = some (tyJ3 k) := by decide +kernel
abbrev cJ3_checkIndex_8e157 : ByteArray := prog_20_method_11_code
def yJ3_checkIndex_8e157 : MethodName := ⟨RJ3, "checkIndex", "(IILjava/util/function/BiFunction;)I"⟩
abbrev cJ3_checkFromToIndex_8c36e : ByteArray := prog_20_method_12_code
def yJ3_checkFromToIndex_8c36e : MethodName := ⟨RJ3, "checkFromToIndex", "(IIILjava/util/function/BiFunction;)I"⟩
def RL : String := "SpiceSwapsLaw"
abbrev vwCl : List vw_C := [(RX0, TX0, 14), (RX1, TX1, 5), (RX2, TX2, 4), (RX3, TX3, 8), (RX4, TX4, 16), (RX5, TX5, 2), (RX6, TX6, 6), (RX7, TX7, 2), (RX8, TX8, 18), (RX9, TX9, 13), (RX10, TX10, 76)]
def gT : List Cond := lw_tbl.filter goodWord
theorem gT_of (i : Nat) {w : Cond} (h : lw_tbl[i]? = some w) (hg : goodWord w = true) : w ∈ gT := List.mem_filter.mpr ⟨List.mem_of_getElem? h, hg⟩
theorem gT_in {w : Cond} (h : w ∈ gT) : w ∈ lw_tbl := (List.mem_filter.mp h).1
theorem gT_GoodIn {big : List Cond} {w0 : Cond} (hb : ∀ w ∈ gT, w ∈ big) (h0 : w0 ∈ gT) : GoodIn big (w0 :: gT) := fun w h => by
  have h1 : w ∈ gT := by
    rcases List.mem_cons.mp h with e | e
    · rw [e]; exact h0
    · exact e
  exact ⟨hb w h1, good_of_word (List.mem_filter.mp h1).2⟩
theorem gT_by {ws : List Cond} (ps : List Nat) (hp : ws = ps.filterMap (fun i => lw_tbl[i]?)) (h : ws.all goodWord = true) : ∀ w ∈ ws, w ∈ gT := by
  intro w hw
  have h1 := List.all_eq_true.mp h w hw
  rw [hp] at hw
  obtain ⟨i, -, hi⟩ := List.mem_filterMap.mp hw
  exact gT_of i hi h1
theorem inX0 : ∀ w ∈ wsX00, w ∈ gT := gT_by [511, 513, 515, 517, 519, 521, 523, 525, 527, 529, 531, 533, 535, 537] (by decide +kernel) (by decide +kernel)
theorem inX1 : ∀ w ∈ wsX10, w ∈ gT := gT_by [177, 179, 181, 183, 185] (by decide +kernel) (by decide +kernel)
theorem inX2 : ∀ w ∈ wsX20, w ∈ gT := gT_by [474, 476, 478, 480] (by decide +kernel) (by decide +kernel)
theorem inX3 : ∀ w ∈ wsX30, w ∈ gT := gT_by [445, 447, 449, 451, 453, 455, 457, 459] (by decide +kernel) (by decide +kernel)
theorem inX4 : ∀ w ∈ wsX40, w ∈ gT := gT_by [378, 380, 382, 384, 386, 388, 390, 392, 394, 396, 398, 400, 402, 404, 406, 408] (by decide +kernel) (by decide +kernel)
theorem inX5 : ∀ w ∈ wsX50, w ∈ gT := gT_by [577, 579] (by decide +kernel) (by decide +kernel)
theorem inX6 : ∀ w ∈ wsX60, w ∈ gT := gT_by [553, 555, 557, 559, 561, 563] (by decide +kernel) (by decide +kernel)
theorem inX7 : ∀ w ∈ wsX70, w ∈ gT := gT_by [150, 152] (by decide +kernel) (by decide +kernel)
theorem inX8 : ∀ w ∈ wsX80, w ∈ gT := gT_by [260, 262, 264, 266, 268, 270, 272, 274, 276, 278, 280, 282, 284, 286, 288, 290, 292, 294] (by decide +kernel) (by decide +kernel)
theorem inX9 : ∀ w ∈ wsX90, w ∈ gT := gT_by [595, 597, 599, 601, 603, 605, 607, 609, 611, 613, 615, 617, 619] (by decide +kernel) (by decide +kernel)
theorem inX10 : ∀ w ∈ wsX100, w ∈ gT := gT_by [1355, 1357, 1359, 1361, 1363, 1365, 1367, 1369, 1371, 1373, 1375, 1377, 1379, 1381, 1383, 1385, 1387, 1389, 1391, 1393, 1395, 1397, 1399, 1401, 1403, 1405, 1407, 1409, 1411, 1413, 1415, 1417, 1419, 1421, 1423, 1425, 1427, 1429, 1431, 1433, 1435, 1437, 1439, 1441, 1443, 1445, 1447, 1449, 1451, 1453, 1455, 1457, 1459, 1461, 1463, 1465, 1467, 1469, 1471, 1473, 1475, 1477, 1479, 1481, 1483, 1485, 1487, 1489, 1491, 1493, 1495, 1497, 1499, 1501, 1503, 1505] (by decide +kernel) (by decide +kernel)
