/-! contracts over the good words, one form for all methods -/
abbrev ty4 (cB cI cJ cZ : ClassId) : List (ClassId × FieldType) := [(cB, .byte), (cI, .int), (cJ, .long), (cZ, .boolean)]
def nestW : List (String × Nat × MethodName) := [(RX9, 9, yX7_init), (RX8, 38, yX1_init), (RX9, 49, yX2_init), (RX9, 56, yX0_init), (RX9, 63, yX6_init), (RX9, 70, yX5_init), (RX3, 113, yX9_within)]
def GE (D : va_G) (cB cI cJ cZ : ClassId) (U : State) : Prop := va_K D vwCl (ty4 cB cI cJ cZ) U ∧ ∀ q ∈ nestW, va_Nw (.methodLinkNest q.1 q.2.1 q.2.2 RX9) U
theorem GE.warm {D : va_G} {cB cI cJ cZ : ClassId} {s U : State} (hW : s.WarmedH U.vm) (h : GE D cB cI cJ cZ s) : GE D cB cI cJ cZ U := ⟨va_K.moved hW.alike h.1, fun q hq => va_Nw.warmM hW (h.2 q hq)⟩
theorem GE.calling {D : va_G} {cB cI cJ cZ : ClassId} {U : State} {g : JFrame} {mk : MethodId} {a : Array Value} (h : GE D cB cI cJ cZ U) : GE D cB cI cJ cZ (U.calling g mk a) :=
  ⟨va_K.moved (u := U) (U := U.calling g mk a) (Vm.Alike.refl U.vm) h.1, fun q hq => va_Nw.same (u := U) (U := U.calling g mk a) rfl rfl (h.2 q hq)⟩
def lenS : List Nat := [119, 11]
def bytS : List (List Int32) := [[121, 105, 101, 108, 100, 32, 98, 101, 108, 105, 101, 102, 32, 104, 97, 114, 98, 111, 117, 114, 32, 103, 97, 114, 114, 105, 115, 111, 110, 32, 112, 114, 105, 99, 101, 32, 104, 101, 108, 100, 32, 121, 101, 97, 114, 32, 99, 111, 117, 114, 116, 32, 99, 114, 111, 112, 32, 112, 108, 97, 99, 101, 32, 98, 101, 108, 105, 101, 118, 101, 115, 32, 119, 111, 114, 116, 104, 32, 103, 114, 111, 119, 32, 115, 116, 111, 114, 109, 32, 100, 114, 97, 119, 32, 103, 111, 108, 100, 32, 111, 102, 32, 103, 114, 111, 119, 115, 32, 111, 114, 32, 97, 110, 100, 32, 110, 111, 116, 32], [59, 40, 41, 60, 62, 61, 43, 45, 42, 47, 37]]
def tx0 : String := "yield belief harbour garrison price held year court crop place believes worth grow storm draw gold of grows or and not "
def tx1 : String := ";()<>=+-*/%"
/-- what the String constants hold, and COMPACT_STRINGS -/
def SE (aK aV : Nat → Nat) (A : Nat → Prop) (U : State) (H : Heap) : Prop := vk_S 2 lenS bytS aK aV A U H ∧ va_Z "java/lang/String" "COMPACT_STRINGS" "Z" (.int 1) A U H ∧ vk_R RX4 35 tx0 (aK 0) U ∧ vk_R RX4 234 tx1 (aK 1) U ∧ (∃ r : Option Nat, va_Z "jdk/internal/util/Preconditions" "SIOOBE_FORMATTER" "Ljava/util/function/BiFunction;" (va_rf r) A U H) ∧ ∃ q : Nat, va_Z "SpiceSwaps$Secrets" "QUESTIONS" "[I" (.ref q) A U H ∧ va_T .int q 3 (fun j => .int (Int32.ofNat (j + 1))) A U H
theorem SE.kept {aK aV : Nat → Nat} {A : Nat → Prop} {U : State} {H H1 : Heap} (h : SE aK aV A U H) (hq : ∀ a : Nat, a < H.size → ¬ A a → H1[a]? = H[a]?) : SE aK aV A U H1 := ⟨h.1.kept hq, h.2.1.kept hq, h.2.2.1, h.2.2.2.1, h.2.2.2.2.1.elim (fun r z => ⟨r, z.kept hq⟩), h.2.2.2.2.2.elim (fun r z => ⟨r, z.1.kept hq, z.2.kept hq⟩)⟩
theorem SE.narrow {aK aV : Nat → Nat} {A B : Nat → Prop} {U : State} {H : Heap} (h : SE aK aV A U H) (hAB : ∀ q, B q → A q) : SE aK aV B U H := ⟨h.1.narrow hAB, h.2.1.narrow hAB, h.2.2.1, h.2.2.2.1, h.2.2.2.2.1.elim (fun r z => ⟨r, z.narrow hAB⟩), h.2.2.2.2.2.elim (fun r z => ⟨r, z.1.narrow hAB, z.2.narrow hAB⟩)⟩
theorem SE.warm {aK aV : Nat → Nat} {A : Nat → Prop} {s U : State} {H : Heap} (hW : s.WarmedH U.vm) (h : SE aK aV A s H) : SE aK aV A U H := ⟨h.1.moved hW.alike, h.2.1.moved hW.alike, h.2.2.1.warm hW, h.2.2.2.1.warm hW, h.2.2.2.2.1.elim (fun r z => ⟨r, z.moved hW.alike⟩), h.2.2.2.2.2.elim (fun r z => ⟨r, z.1.moved hW.alike, z.2.moved hW.alike⟩)⟩
theorem SE.calling {aK aV : Nat → Nat} {A : Nat → Prop} {U : State} {H : Heap} {g : JFrame} {mk : MethodId} {a : Array Value} (h : SE aK aV A U H) : SE aK aV A (U.calling g mk a) H :=
  ⟨vk_S.moved (u := U) (U := U.calling g mk a) (Vm.Alike.refl U.vm) h.1, va_Z.moved (u := U) (U := U.calling g mk a) (Vm.Alike.refl U.vm) h.2.1, vk_R.same (u := U) (U := U.calling g mk a) rfl h.2.2.1, vk_R.same (u := U) (U := U.calling g mk a) rfl h.2.2.2.1, h.2.2.2.2.1.elim (fun r z => ⟨r, va_Z.moved (u := U) (U := U.calling g mk a) (Vm.Alike.refl U.vm) z⟩), h.2.2.2.2.2.elim (fun r z => ⟨r, va_Z.moved (u := U) (U := U.calling g mk a) (Vm.Alike.refl U.vm) z.1, va_T.moved (u := U) (U := U.calling g mk a) (Vm.Alike.refl U.vm) z.2⟩)⟩
def PX (D : va_G) (cB cI cJ cZ : ClassId) (aK aV : Nat → Nat) (as : List Value) (wc : va_W) (sz : Nat) : Array Value → State → Prop :=
  fun v U => v = as.toArray ∧ U.heap.size = sz ∧ va_P D vwCl wc U.heap ∧ GE D cB cI cJ cZ U ∧ SE aK aV (va_A wc sz) U U.heap ∧ va_D (fun _ => True) wc
def QX (D : va_G) (wc : va_W) (sz : Nat) (Post : Option Value → va_W → Prop) : Array Value → State → Outcome → State → Prop :=
  fun _ st oc t => (∃ (r : Option Value) (w1 : va_W), oc = .returned r ∧ Post r w1 ∧ va_P D vwCl w1 t.heap ∧ va_D (va_A wc sz) w1) ∧ va_F (va_A wc sz) st t
def MX (l : Launch) (y : MethodName) (cc : ByteArray) (maxL : Nat) (ret : Option FieldType) (rm : Room) (D : va_G) (cB cI cJ cZ : ClassId) (aK aV : Nat → Nat) (as : List Value) (wc : va_W) (Post : Option Value → va_W → Prop) : Prop :=
  ∀ sz : Nat, Met l y (Cond.code y cc maxL ret :: gT) rm (PX D cB cI cJ cZ aK aV as wc sz) (QX D wc sz Post) rm.cells rm.slots (va_A wc sz)
def ZX (D : va_G) (below : List Frame) (as : List Value) (s : State) (rm : Room) (wc : va_W) (Post : Option Value → va_W → Prop) : State → Prop :=
  MQ below (QX D wc s.heap.size Post) as.toArray s rm.cells rm.slots (va_A wc s.heap.size)
theorem PX.blind {D : va_G} {cB cI cJ cZ : ClassId} {aK aV : Nat → Nat} {as : List Value} {wc : va_W} {sz : Nat} : FrameBlind (PX D cB cI cJ cZ aK aV as wc sz) :=
  fun _ _ _ _ q => ⟨q.1, q.2.1, q.2.2.1, q.2.2.2.1.calling, q.2.2.2.2.1.calling, q.2.2.2.2.2⟩
theorem MX.intro {l : Launch} {y : MethodName} {cc : ByteArray} {maxL : Nat} {ret : Option FieldType} {rm : Room} {D : va_G} {cB cI cJ cZ : ClassId} {aK aV : Nat → Nat} {as : List Value} {wc : va_W} {Post : Option Value → va_W → Prop}
    (hy : plainName y.cls = true) (hn : (lg_sl as).length ≤ maxL)
    (body : ∀ (p : Program) (e : Env) (s : State) (m : MethodId) (below : List Frame) (meth : Method) (c : Code) (A : Nat → Prop) (ls : Array Slot), p.tables.exec = Jvm.exec → c.code = cc → meth.sig.returnType = ret → c.maxLocals = maxL → s.vm.findClass y.cls = some m.cls → meth.locks = false → meth.name = y.name →
      (∀ w ∈ gT, w.before as.toArray s = true) → GE D cB cI cJ cZ s → SE aK aV A s s.heap → (∀ q : Nat, s.heap.size ≤ q → A q) → va_S A s.heap s.heap [] → va_P D vwCl wc s.heap → va_D A wc → lv_has ls maxL (lv_args 0 as) → A = va_A wc s.heap.size →
      W p l e rm s m as.toArray below meth c s.heap [] 0 0 (ZX D below as s rm wc Post) (F0 m 0 ls [])) : MX l y cc maxL ret rm D cB cI cJ cZ aK aV as wc Post := by
  intro sz
  refine Met.ofW (cc := cc) (maxL := maxL) (ret := ret) hy rfl ?_
  intro p e s m args below meth c s₁ B hml hv
  obtain ⟨rfl, hsz, hP, hG, hE, hD0⟩ := hv
  subst hsz
  have hl := lv_entry as (n := maxL) hn
  have hts := atoms_spec (ws := Cond.code y cc maxL ret :: gT) B.pre
  rw [lg_entry_eq]
  exact body p e s m below meth c _ _ B.exec B.bytes B.returns hml (findClass_of_methodNamed B.named) B.notSynchronized (name_of_methodNamed B.named B.method).1 (fun w h => hts w (List.mem_cons_of_mem _ h)) hG hE (fun q h => Or.inr h) va_S.rf hP hD0.self hl rfl
section XR
variable {p : Program} {l : Launch} {e : Env} {R : Room} {s : State} {m : MethodId} {below : List Frame} {meth : Method} {c : Code} {H : Heap} {locs : List Loc} {cells slots : Nat}
variable {cc : ByteArray} {pc : Nat} {ls : Array Slot} {D : va_G} {A : Nat → Prop} {as : List Value} {rm : Room} {wc w1 : va_W} {Post : Option Value → va_W → Prop}
theorem xr_i {ty : FieldType} {v : Int32} (hx : p.tables.exec = Jvm.exec) (hb : c.code = cc) (hr : meth.sig.returnType = some ty) (hlocks : meth.locks = false) (hAe : A = va_A wc s.heap.size) (hS : va_S A s.heap H locs) (hP : va_P D vwCl w1 H) (hD : va_D A w1) (hn : narrow ty (.int v) = .int v) (hc : cells ≤ rm.cells) (hs : slots ≤ rm.slots) (hdg : decode cc pc = .ok (.ireturn, 1)) (hp : Post (some (.int v)) w1) :
    W p l e R s m as.toArray below meth c H locs cells slots (ZX D below as s rm wc Post) (F0 m pc ls [.int v]) := by
  subst hAe
  refine W.widen hc hs ?_
  exact W.zret hx hb hr hn (fun t ht _ => ⟨⟨_, w1, rfl, hp, by rw [ht]; exact hP, hD⟩, hS.F ht⟩) hS.2.2 hdg (hlocks := hlocks)
theorem xr_l {v : Int64} (hx : p.tables.exec = Jvm.exec) (hb : c.code = cc) (hr : meth.sig.returnType = some .long) (hlocks : meth.locks = false) (hAe : A = va_A wc s.heap.size) (hS : va_S A s.heap H locs) (hP : va_P D vwCl w1 H) (hD : va_D A w1) (hc : cells ≤ rm.cells) (hs : slots ≤ rm.slots) (hdg : decode cc pc = .ok (.lreturn, 1)) (hp : Post (some (.long v)) w1) :
    W p l e R s m as.toArray below meth c H locs cells slots (ZX D below as s rm wc Post) (F0 m pc ls [.long v]) := by
  subst hAe
  refine W.widen hc hs ?_
  exact W.lret hx hb hr (fun t ht _ => ⟨⟨_, w1, rfl, hp, by rw [ht]; exact hP, hD⟩, hS.F ht⟩) hS.2.2 hdg (hlocks := hlocks)
theorem xr_v (hx : p.tables.exec = Jvm.exec) (hb : c.code = cc) (hr : meth.sig.returnType = none) (hlocks : meth.locks = false) (hAe : A = va_A wc s.heap.size) (hS : va_S A s.heap H locs) (hP : va_P D vwCl w1 H) (hD : va_D A w1) (hc : cells ≤ rm.cells) (hs : slots ≤ rm.slots) (hdg : decode cc pc = .ok (.return_, 1)) (hp : Post none w1) :
    W p l e R s m as.toArray below meth c H locs cells slots (ZX D below as s rm wc Post) (F0 m pc ls []) := by
  subst hAe
  refine W.widen hc hs ?_
  exact W.vret hx hb hr (fun t ht _ => ⟨⟨_, w1, rfl, hp, by rw [ht]; exact hP, hD⟩, hS.F ht⟩) hS.2.2 hdg (hlocks := hlocks)
theorem xr_a {q : Nat} {rt : FieldType} (hx : p.tables.exec = Jvm.exec) (hb : c.code = cc) (hr : meth.sig.returnType = some (.array rt)) (hlocks : meth.locks = false) (hAe : A = va_A wc s.heap.size) (hS : va_S A s.heap H locs) (hP : va_P D vwCl w1 H) (hD : va_D A w1) (hc : cells ≤ rm.cells) (hs : slots ≤ rm.slots) (hdg : decode cc pc = .ok (.areturn, 1)) (hp : Post (some (.ref q)) w1) :
    W p l e R s m as.toArray below meth c H locs cells slots (ZX D below as s rm wc Post) (F0 m pc ls [.ref q]) := by
  subst hAe
  refine W.widen hc hs ?_
  exact W.aret hx hb hr (Or.inr ⟨_, rfl⟩) (Or.inr ⟨_, rfl⟩) (fun t ht _ => ⟨⟨_, w1, rfl, hp, by rw [ht]; exact hP, hD⟩, hS.F ht⟩) hS.2.2 hdg (hlocks := hlocks)
end XR
section XC
variable {p : Program} {l : Launch} {e : Env} {R : Room} {s : State} {m : MethodId} {args : Array Value} {below : List Frame} {meth : Method} {c : Code} {H : Heap} {locs : List Loc} {cells slots : Nat} {Q : State → Prop}
variable {cc : ByteArray} {pc : Nat} {ls : Array Slot} {rest st0 : List Value} {D : va_G} {cB cI cJ cZ : ClassId} {aK aV : Nat → Nat} {A : Nat → Prop} {wc wr ws : va_W} {Post : Option Value → va_W → Prop}
theorem xc_core {a1 : Array Value} {mc ms : Nat} (hr : va_Run p l e R s m args below meth c H locs cells slots mc ms (F0 m pc ls st0) rest (QX D wc H.size Post a1) (va_A wc H.size))
    (hP : va_P D vwCl ws H) (hD : va_D A ws) (hS : va_S A s.heap H locs) (hA : ∀ q : Nat, s.heap.size ≤ q → A q) (isC isR : List Nat) (hC : isC.map (fun i => ws[i]?) = wc.map some) (hR : isR.map (fun i => ws[i]?) = wr.map some) (hn : va_nd isR = true) (hdis : ∀ i ∈ isR, i ∉ isC) {k n : Nat} (hk : cells + mc ≤ k) (hn2 : slots + ms ≤ n)
    (kk : ∀ (r : Option Value) (w1 : va_W) (H1 : Heap) (locs1 : List Loc), Post r w1 → va_P D vwCl (wr ++ w1) H1 → va_D A (wr ++ w1) → va_S A s.heap H1 locs1 → W p l e R s m args below meth c H1 locs1 k n Q (F0 m (pc + 3) ls (r.toList ++ rest))) : W p l e R s m args below meth c H locs cells slots Q (F0 m pc ls st0) := by
  intro T hT X
  obtain ⟨v, st₀, t, T', L, h0, X', hL, e1, e2, ⟨⟨r, w1, hv, hp, hP1, hD1⟩, hz, hk1⟩, st⟩ := hr T hT X
  cases hv
  rw [h0] at hz hk1
  have hFc := va_free (wc := wc) hD hS hA isC hC
  obtain ⟨jP, jD⟩ := va_join hP hD isC isR hC hR hn hdis (H1 := T'.heap) (fun q h1 h2 => by rw [e1]; exact hk1 q h1 h2) hFc (by rw [e1]; exact hP1) hD1
  obtain ⟨t2, b1, b2⟩ := kk v w1 T'.heap (locs ++ L) hp jP jD
    ⟨Nat.le_trans hS.1 (by rw [e1]; exact hz), fun q h1 h2 => by rw [e1, hk1 q (Nat.lt_of_lt_of_le h1 hS.1) (fun z => h2 (hFc q z))]; exact hS.2.1 q h1 h2, fun q hq => by
      rcases List.mem_append.mp hq with h | h
      · exact hS.2.2 q h
      · exact hFc _ (hL q h)⟩ T' rfl (stand_widen X' hk hn2)
  exact ⟨t2, st t2 b1, b2⟩
variable {y : MethodName} {cc2 : ByteArray} {maxL nL index ci : Nat} {ret : Option FieldType} {rm : Room} {As : List Value} {own : String} {b : Nat} {cq : vw_C} {fs : List Value}
abbrev XD (y : MethodName) (n : Nat) : Prop := y.cls ≠ "java/lang/invoke/MethodHandle" ∧ y.cls ≠ "java/lang/invoke/VarHandle" ∧ (parseMethodDescriptor y.desc).map (fun d => d.parameters.length) = some n
theorem xc_pre {as : List Value} (hG : GE D cB cI cJ cZ s) (hE : SE aK aV A s s.heap) (hP : va_P D vwCl ws H) (hD : va_D A ws) (hS : va_S A s.heap H locs) (hA : ∀ q : Nat, s.heap.size ≤ q → A q) (isC : List Nat) (hnC : va_nd isC = true) (hC : isC.map (fun i => ws[i]?) = wc.map some) (U : State) (hU : U.heap = H) (hW : s.WarmedH U.vm) : PX D cB cI cJ cZ aK aV as wc H.size as.toArray U := by
  have hP2 : va_P D vwCl wc H := by
    intro k q hq
    have h1 : (isC.map (fun i => ws[i]?))[k]? = some (some q) := by rw [hC, List.getElem?_map, hq]; rfl
    rw [List.getElem?_map] at h1
    cases hi : isC[k]? with
    | none => rw [hi] at h1; cases h1
    | some i => rw [hi] at h1; exact hP i q (Option.some.inj h1)
  exact ⟨rfl, by rw [hU], by rw [hU]; exact hP2, hG.warm hW, by rw [hU]; exact ((hE.kept hS.2.1).narrow (va_free (wc := wc) hD hS hA isC hC)).warm hW, (hD.sub isC hnC hC).weaken (fun _ _ _ _ => trivial)⟩
theorem xc_runV (hx : p.tables.exec = Jvm.exec) (hb : c.code = cc) (hml : c.maxLocals = nL) (hown : s.vm.findClass own = some m.cls) (hts : ∀ w ∈ gT, w.before args s = true) (hG : GE D cB cI cJ cZ s) (hE : SE aK aV A s s.heap) (hP : va_P D vwCl ws H) (hD : va_D A ws) (hS : va_S A s.heap H locs) (hA : ∀ q : Nat, s.heap.size ≤ q → A q) (isC : List Nat) (hnC : va_nd isC = true) (hC : isC.map (fun i => ws[i]?) = wc.map some)
    (hM : MX l y cc2 maxL ret rm D cB cI cJ cZ aK aV (.ref b :: As) wc Post) (hcode : Cond.code y cc2 maxL ret ∈ gT) (hlink : Cond.methodLink own index y ∈ gT) (hinst : Cond.instanceMethod y ∈ gT) (hsel : Cond.selects y.cls y y ∈ gT) (hini : Cond.initialized y.cls ∈ gT) (hd : XD y As.length) (hR : rm.frames + 1 ≤ R.frames ∧ 8 + (maxL + 11) + rm.locals ≤ R.locals)
    (hci : vwCl[ci]? = some cq) (hcy : cq.1 = y.cls) (q0 : Nat) (he : ws[q0]? = some (b, .inr (ci, fs))) (hsize : ls.size = nL) (hstk : st0 = As.reverse ++ .ref b :: rest) (hst : (rest.map fun v => v.category).sum ≤ 8) (hdg : decode cc pc = .ok (.invokevirtual index, 3)) (hf : cells + rm.cells ≤ R.cells ∧ slots + rm.slots ≤ R.slots) :
    va_Run p l e R s m args below meth c H locs cells slots rm.cells rm.slots (F0 m pc ls st0) rest (QX D wc H.size Post (Value.ref b :: As).toArray) (va_A wc H.size) := by
  subst hstk
  refine va_runV (n := As.length) (As := As) (b := b) (C := y.cls) ⟨hx, hb, hml, hown, hts⟩ (hM H.size) ⟨callB_of As.length hts (gT_GoodIn (fun w h => h) hcode) rfl rfl rfl (hts _ hini) (hts _ hlink) hd hR, hts _ hinst, hts _ hsel⟩ ⟨PX.blind, ?_, fun U hU hW => xc_pre hG hE hP hD hS hA isC hnC hC U hU hW⟩ rfl rfl hsize rfl (lv_room hst) hdg hf
  obtain ⟨cell, h1, h2, h3⟩ := va_recv hG.1 hP hci he
  exact ⟨cell, h1, h2, by rw [← hcy]; exact h3⟩
theorem xc_runVK (hx : p.tables.exec = Jvm.exec) (hb : c.code = cc) (hml : c.maxLocals = nL) (hown : s.vm.findClass own = some m.cls) (hts : ∀ w ∈ gT, w.before args s = true) (hG : GE D cB cI cJ cZ s) (hE : SE aK aV A s s.heap) (hP : va_P D vwCl ws H) (hD : va_D A ws) (hS : va_S A s.heap H locs) (hA : ∀ q : Nat, s.heap.size ≤ q → A q) (isC : List Nat) (hnC : va_nd isC = true) (hC : isC.map (fun i => ws[i]?) = wc.map some)
    (hM : MX l y cc2 maxL ret rm D cB cI cJ cZ aK aV (.ref b :: As) wc Post) (hcode : Cond.code y cc2 maxL ret ∈ gT) (hlink : Cond.methodLink own index y ∈ gT) (hinst : Cond.instanceMethod y ∈ gT) (hsel : Cond.selects y.cls y y ∈ gT) (hini : Cond.initialized y.cls ∈ gT) (hd : XD y As.length) (hR : rm.frames + 1 ≤ R.frames ∧ 8 + (maxL + 11) + rm.locals ≤ R.locals)
    (hrv : ∃ cell : Cell, H[b]? = some cell ∧ cell.vm.isStatics = false ∧ s.vm.findClass y.cls = some cell.cls) (hsize : ls.size = nL) (hstk : st0 = As.reverse ++ .ref b :: rest) (hst : (rest.map fun v => v.category).sum ≤ 8) (hdg : decode cc pc = .ok (.invokevirtual index, 3)) (hf : cells + rm.cells ≤ R.cells ∧ slots + rm.slots ≤ R.slots) :
    va_Run p l e R s m args below meth c H locs cells slots rm.cells rm.slots (F0 m pc ls st0) rest (QX D wc H.size Post (Value.ref b :: As).toArray) (va_A wc H.size) := by
  subst hstk
  exact va_runV (n := As.length) (As := As) (b := b) (C := y.cls) ⟨hx, hb, hml, hown, hts⟩ (hM H.size) ⟨callB_of As.length hts (gT_GoodIn (fun w h => h) hcode) rfl rfl rfl (hts _ hini) (hts _ hlink) hd hR, hts _ hinst, hts _ hsel⟩ ⟨PX.blind, hrv, fun U hU hW => xc_pre hG hE hP hD hS hA isC hnC hC U hU hW⟩ rfl rfl hsize rfl (lv_room hst) hdg hf
theorem xc_runS (hx : p.tables.exec = Jvm.exec) (hb : c.code = cc) (hml : c.maxLocals = nL) (hown : s.vm.findClass own = some m.cls) (hts : ∀ w ∈ gT, w.before args s = true) (hG : GE D cB cI cJ cZ s) (hE : SE aK aV A s s.heap) (hP : va_P D vwCl ws H) (hD : va_D A ws) (hS : va_S A s.heap H locs) (hA : ∀ q : Nat, s.heap.size ≤ q → A q) (isC : List Nat) (hnC : va_nd isC = true) (hC : isC.map (fun i => ws[i]?) = wc.map some)
    (hM : MX l y cc2 maxL ret rm D cB cI cJ cZ aK aV As wc Post) (hcode : Cond.code y cc2 maxL ret ∈ gT) (hlink : Cond.methodLink own index y ∈ gT) (hstat : Cond.static y ∈ gT) (hini : Cond.initialized y.cls ∈ gT) (hd : XD y As.length) (hR : rm.frames + 1 ≤ R.frames ∧ 8 + (maxL + 11) + rm.locals ≤ R.locals)
    (hsize : ls.size = nL) (hstk : st0 = As.reverse ++ rest) (hst : (rest.map fun v => v.category).sum ≤ 8) (hdg : decode cc pc = .ok (.invokestatic index, 3)) (hf : cells + rm.cells ≤ R.cells ∧ slots + rm.slots ≤ R.slots) :
    va_Run p l e R s m args below meth c H locs cells slots rm.cells rm.slots (F0 m pc ls st0) rest (QX D wc H.size Post As.toArray) (va_A wc H.size) := by
  subst hstk
  exact va_runS (n := As.length) (As := As) ⟨hx, hb, hml, hown, hts⟩ (hM H.size) ⟨callB_of As.length hts (gT_GoodIn (fun w h => h) hcode) rfl rfl rfl (hts _ hini) (hts _ hlink) hd hR, hts _ hstat⟩ ⟨PX.blind, fun U hU hW => xc_pre hG hE hP hD hS hA isC hnC hC U hU hW⟩ rfl rfl hsize rfl (lv_room hst) hdg hf
theorem xc_runSN (hx : p.tables.exec = Jvm.exec) (hb : c.code = cc) (hml : c.maxLocals = nL) (hown : s.vm.findClass own = some m.cls) (hts : ∀ w ∈ gT, w.before args s = true) (hG : GE D cB cI cJ cZ s) (hE : SE aK aV A s s.heap) (hP : va_P D vwCl ws H) (hD : va_D A ws) (hS : va_S A s.heap H locs) (hA : ∀ q : Nat, s.heap.size ≤ q → A q) (isC : List Nat) (hnC : va_nd isC = true) (hC : isC.map (fun i => ws[i]?) = wc.map some)
    (hM : MX l y cc2 maxL ret rm D cB cI cJ cZ aK aV As wc Post) (hcode : Cond.code y cc2 maxL ret ∈ gT) (hlink : (own, index, y) ∈ nestW) (hstat : Cond.static y ∈ gT) (hini : Cond.initialized y.cls ∈ gT) (hd : XD y As.length) (hR : rm.frames + 1 ≤ R.frames ∧ 8 + (maxL + 11) + rm.locals ≤ R.locals)
    (hsize : ls.size = nL) (hstk : st0 = As.reverse ++ rest) (hst : (rest.map fun v => v.category).sum ≤ 8) (hdg : decode cc pc = .ok (.invokestatic index, 3)) (hf : cells + rm.cells ≤ R.cells ∧ slots + rm.slots ≤ R.slots) :
    va_Run p l e R s m args below meth c H locs cells slots rm.cells rm.slots (F0 m pc ls st0) rest (QX D wc H.size Post As.toArray) (va_A wc H.size) := by
  subst hstk
  exact va_runSN (n := As.length) (As := As) (host := RX9) (index := index) (own := own) ⟨hx, hb, hml, hown, hts⟩ (hM H.size) ⟨va_cnB As.length hts (gT_GoodIn (fun w h => h) hcode) rfl rfl rfl (hG.2 (own, index, y) hlink) (hts _ hini) hd hR, hts _ hstat, trivial⟩ ⟨PX.blind, fun U hU hW => xc_pre hG hE hP hD hS hA isC hnC hC U hU hW⟩ rfl rfl hsize rfl (lv_room hst) hdg hf
theorem xc_runI (hx : p.tables.exec = Jvm.exec) (hb : c.code = cc) (hml : c.maxLocals = nL) (hown : s.vm.findClass own = some m.cls) (hts : ∀ w ∈ gT, w.before args s = true) (hG : GE D cB cI cJ cZ s) (hE : SE aK aV A s s.heap) (hP : va_P D vwCl ws H) (hD : va_D A ws) (hS : va_S A s.heap H locs) (hA : ∀ q : Nat, s.heap.size ≤ q → A q) (isC : List Nat) (hnC : va_nd isC = true) (hC : isC.map (fun i => ws[i]?) = wc.map some)
    (hM : MX l y cc2 maxL none rm D cB cI cJ cZ aK aV (.ref b :: As) wc Post) (hcode : Cond.code y cc2 maxL none ∈ gT) (hlink : Cond.methodLink own index y ∈ gT) (hinst : Cond.instanceMethod y ∈ gT) (hini : Cond.initialized y.cls ∈ gT) (hnm : y.name = "<init>") (hd : XD y As.length) (hR : rm.frames + 1 ≤ R.frames ∧ 8 + (maxL + 11) + rm.locals ≤ R.locals)
    (hsize : ls.size = nL) (hstk : st0 = As.reverse ++ .ref b :: rest) (hst : (rest.map fun v => v.category).sum ≤ 8) (hdg : decode cc pc = .ok (.invokespecial index, 3)) (hf : cells + rm.cells ≤ R.cells ∧ slots + rm.slots ≤ R.slots) :
    va_Run p l e R s m args below meth c H locs cells slots rm.cells rm.slots (F0 m pc ls st0) rest (QX D wc H.size Post (Value.ref b :: As).toArray) (va_A wc H.size) := by
  subst hstk
  exact va_runI (n := As.length) (As := As) (b := b) ⟨hx, hb, hml, hown, hts⟩ (hM H.size) ⟨callB_of As.length hts (gT_GoodIn (fun w h => h) hcode) rfl rfl rfl (hts _ hini) (hts _ hlink) hd hR, hnm, hts _ hinst⟩ ⟨PX.blind, fun U hU hW => xc_pre hG hE hP hD hS hA isC hnC hC U hU hW⟩ rfl rfl hsize rfl (lv_room hst) hdg hf
theorem xc_runIN (hx : p.tables.exec = Jvm.exec) (hb : c.code = cc) (hml : c.maxLocals = nL) (hown : s.vm.findClass own = some m.cls) (hts : ∀ w ∈ gT, w.before args s = true) (hG : GE D cB cI cJ cZ s) (hE : SE aK aV A s s.heap) (hP : va_P D vwCl ws H) (hD : va_D A ws) (hS : va_S A s.heap H locs) (hA : ∀ q : Nat, s.heap.size ≤ q → A q) (isC : List Nat) (hnC : va_nd isC = true) (hC : isC.map (fun i => ws[i]?) = wc.map some)
    (hM : MX l y cc2 maxL none rm D cB cI cJ cZ aK aV (.ref b :: As) wc Post) (hcode : Cond.code y cc2 maxL none ∈ gT) (hlink : (own, index, y) ∈ nestW) (hinst : Cond.instanceMethod y ∈ gT) (hini : Cond.initialized y.cls ∈ gT) (hnm : y.name = "<init>") (hd : XD y As.length) (hR : rm.frames + 1 ≤ R.frames ∧ 8 + (maxL + 11) + rm.locals ≤ R.locals)
    (hsize : ls.size = nL) (hstk : st0 = As.reverse ++ .ref b :: rest) (hst : (rest.map fun v => v.category).sum ≤ 8) (hdg : decode cc pc = .ok (.invokespecial index, 3)) (hf : cells + rm.cells ≤ R.cells ∧ slots + rm.slots ≤ R.slots) :
    va_Run p l e R s m args below meth c H locs cells slots rm.cells rm.slots (F0 m pc ls st0) rest (QX D wc H.size Post (Value.ref b :: As).toArray) (va_A wc H.size) := by
  subst hstk
  exact va_runIN (n := As.length) (As := As) (b := b) (host := RX9) (index := index) (own := own) ⟨hx, hb, hml, hown, hts⟩ (hM H.size) ⟨va_cnB As.length hts (gT_GoodIn (fun w h => h) hcode) rfl rfl rfl (hG.2 (own, index, y) hlink) (hts _ hini) hd hR, hnm, hts _ hinst⟩ ⟨PX.blind, fun U hU hW => xc_pre hG hE hP hD hS hA isC hnC hC U hU hW⟩ rfl rfl hsize rfl (lv_room hst) hdg hf
end XC
section XA
variable {p : Program} {l : Launch} {e : Env} {R : Room} {s : State} {m : MethodId} {args : Array Value} {below : List Frame} {meth : Method} {c : Code} {H : Heap} {locs : List Loc} {cells slots : Nat} {Q : State → Prop}
variable {cc : ByteArray} {pc : Nat} {ls : Array Slot} {rest : List Value} {D : va_G} {cB cI cJ cZ : ClassId} {A : Nat → Prop} {a : Nat} {ws : va_W} {H0 : Heap}
/-- a known array: its places as a list -/
def lst (L : List Int32) : Nat → Int32 := fun j => L.getD j 0
theorem lst_rep (n : Nat) : lst (List.replicate n 0) = fun _ => 0 := by
  funext j
  simp only [lst, List.getD_eq_getElem?_getD, List.getElem?_replicate]
  by_cases h : j < n
  · rw [if_pos h]; rfl
  · rw [if_neg h]; rfl
theorem lst_set {L : List Int32} {k : Nat} (x : Int32) (h : k < L.length) : upd (lst L) k x = lst (L.set k x) := by
  funext j
  by_cases hj : j = k
  · subst hj
    simp [upd, lst, List.getD_eq_getElem?_getD, h]
  · have hk : ¬ k = j := fun z => hj z.symm
    simp [upd, lst, List.getD_eq_getElem?_getD, hj, List.getElem?_set, hk]
theorem xt_i {x v : Int32} (h : x = v) (k : W p l e R s m args below meth c H locs cells slots Q (F0 m pc ls (.int v :: rest))) : W p l e R s m args below meth c H locs cells slots Q (F0 m pc ls (.int x :: rest)) := by rw [h]; exact k
theorem xt_l {x v : Int64} (h : x = v) (k : W p l e R s m args below meth c H locs cells slots Q (F0 m pc ls (.long v :: rest))) : W p l e R s m args below meth c H locs cells slots Q (F0 m pc ls (.long x :: rest)) := by rw [h]; exact k
theorem xt_any {x : Int32} (k : ∀ v : Int32, W p l e R s m args below meth c H locs cells slots Q (F0 m pc ls (.int v :: rest))) : W p l e R s m args below meth c H locs cells slots Q (F0 m pc ls (.int x :: rest)) := k x
theorem xt_anyL {x : Int64} (k : ∀ v : Int64, W p l e R s m args below meth c H locs cells slots Q (F0 m pc ls (.long v :: rest))) : W p l e R s m args below meth c H locs cells slots Q (F0 m pc ls (.long x :: rest)) := k x
theorem xn_prim {ty : FieldType} {c1 c2 : ClassId} (hp : ∀ c : ClassId, va_RA s c ty → s.vm.findClass ("[" ++ ty.toString) = some c) (h1 : va_RA s c1 ty) (h2 : va_RA s c2 ty) : c1 = c2 := Option.some.inj ((hp c1 h1).symm.trans (hp c2 h2))
theorem xn_newa (hx : p.tables.exec = Jvm.exec) (hb : c.code = cc) {atype : ArrayType} {ty : FieldType} (hty : newarray.typeOf atype = ty) (hts : ∀ w ∈ gT, w.before args s = true) (harr : Cond.arrayClass ty ∈ gT) (hG : GE D cB cI cJ cZ s) (hP : va_P D vwCl ws H) (hD : va_D A ws) (hS : va_S A H0 H locs) (hA : ∀ q, H0.size ≤ q → A q)
    (t0 : Nat) {cA : ClassId} (ht0 : (ty4 cB cI cJ cZ)[t0]? = some (cA, ty)) (hpr : ∀ c : ClassId, va_RA s c ty → s.vm.findClass ("[" ++ ty.toString) = some c)
    {n : Int32} {N' : Nat} {a0 : vp_A} (ha : ∀ cA : ClassId, vp_cell cA a0 = arrV cA N' (fun _ => defaultValue ty)) (hn : ¬ n < 0) (hN : n.toNatClampNeg = N') (hbytes : N' * componentBytes ty ≤ 536870912) {k1 n1 : Nat} (hk : cells + 1 ≤ k1) (hs : slots + N' ≤ n1) (hkR : k1 ≤ R.cells) (hsR : n1 ≤ R.slots) (hdg : decode cc pc = .ok (.newarray atype, 2))
    (kk : ∀ (q : Nat) (H1 : Heap), va_P D vwCl (ws ++ [(q, .inl (cA, a0))]) H1 → va_D A (ws ++ [(q, .inl (cA, a0))]) → va_S A H0 H1 locs →
      W p l e R s m args below meth c H1 locs k1 n1 Q (F0 m (pc + 2) ls (.ref q :: rest))) : W p l e R s m args below meth c H locs cells slots Q (F0 m pc ls (.int n :: rest)) := by
  refine va_newa hx hb (by rw [hty]; exact hts _ harr) hty hG.1 hP hD hS hA ha hn hN hbytes (Nat.le_trans hk hkR) (Nat.le_trans hs hsR) hdg (fun q cA2 H1 hK1 hP1 hD1 hS1 => ?_)
  have e1 : cA2 = cA := xn_prim hpr (hK1.2 (ty4 cB cI cJ cZ).length (cA2, ty) (by rw [List.getElem?_append_right (Nat.le_refl _), Nat.sub_self]; rfl)).2 (hG.1.2 t0 _ ht0).2
  subst e1
  exact W.widen hk hs (kk q H1 hP1 hD1 hS1)
theorem xn_new (hx : p.tables.exec = Jvm.exec) (hb : c.code = cc) {own C : String} {T : u_T} {N ci index : Nat} (hts : ∀ w ∈ gT, w.before args s = true) (hin : ∀ w ∈ u_ws C T N, w ∈ gT) (ty : Nat → FieldType) (hty : ∀ k, k < N → parseFieldDescriptor (T k).2.2.1 = some (ty k)) (hown : s.vm.findClass own = some m.cls) (hcl : Cond.classLink own index C ∈ gT) (hinst : Cond.instantiable C N ∈ gT) (hini : Cond.initialized C ∈ gT)
    (hG : GE D cB cI cJ cZ s) (hP : va_P D vwCl ws H) (hD : va_D A ws) (hS : va_S A H0 H locs) (hA : ∀ q, H0.size ≤ q → A q) (hc : vwCl[ci]? = some (C, T, N)) {fs : List Value} (hfs : (List.range N).all (fun j => decide (defaultValue (ty j) = vp_V fs j)) = true) {k1 n1 : Nat} (hk : cells + 1 ≤ k1) (hs : slots + N ≤ n1) (hkR : k1 ≤ R.cells) (hsR : n1 ≤ R.slots) (hdg : decode cc pc = .ok (.new index, 3))
    (kk : ∀ (q : Nat) (H1 : Heap), va_P D vwCl (ws ++ [(q, .inr (ci, fs))]) H1 → va_D A (ws ++ [(q, .inr (ci, fs))]) → va_S A H0 H1 locs →
      W p l e R s m args below meth c H1 locs k1 n1 Q (F0 m (pc + 3) ls (.ref q :: rest))) : W p l e R s m args below meth c H locs cells slots Q (F0 m pc ls rest) :=
  va_new hx hb hts hin ty hty hown (hts _ hcl) (hts _ hinst) (hts _ hini) hG.1 hP hD hS hA hc (fun j hj => of_decide_eq_true (List.all_eq_true.mp hfs j (List.mem_range.mpr hj))) (Nat.le_trans hk hkR) (Nat.le_trans hs hsR) hdg (fun q H1 h1 h2 h3 => W.widen hk hs (kk q H1 h1 h2 h3))
end XA
abbrev rmL (k c n : Nat) : Room := { frames := 2 * k, cells := c, slots := n, locals := 100 * k }
theorem vin {i : Int32} {n : Nat} (h : decide (¬ (i < 0 ∨ n ≤ i.toNatClampNeg)) = true) : vp_in i n := show ¬ (i < 0 ∨ n ≤ i.toNatClampNeg) from of_decide_eq_true h
section XB
variable {p : Program} {l : Launch} {e : Env} {R : Room} {s : State} {m : MethodId} {args : Array Value} {below : List Frame} {meth : Method} {c : Code} {H : Heap} {locs : List Loc} {cells slots : Nat} {Q : State → Prop}
variable {cc : ByteArray} {pc : Nat} {ls : Array Slot} {rest : List Value} {D : va_G} {cB cI cJ cZ : ClassId} {A : Nat → Prop} {a : Nat} {ws : va_W} {H0 : Heap}
theorem xa_ild (hx : p.tables.exec = Jvm.exec) (hb : c.code = cc) (hG : GE D cB cI cJ cZ s) (hP : va_P D vwCl ws H) (q0 : Nat) {n : Nat} {L : List Int32} (ha : ws[q0]? = some (a, .inl (cI, n, .inl (lst L)))) {i v : Int32} (hin : vp_in i n) (hv : L.getD i.toNatClampNeg 0 = v) (hdg : decode cc pc = .ok (.iaload, 1))
    (kk : W p l e R s m args below meth c H locs cells slots Q (F0 m (pc + 1) ls (.int v :: rest))) : W p l e R s m args below meth c H locs cells slots Q (F0 m pc ls (.int i :: .ref a :: rest)) := by
  subst hv
  exact va_iald hx hb hG.1 hP q0 1 ha rfl hin hdg kk
theorem xa_ildU (hx : p.tables.exec = Jvm.exec) (hb : c.code = cc) (hG : GE D cB cI cJ cZ s) (hP : va_P D vwCl ws H) (q0 : Nat) {n : Nat} {f : Nat → Int32} (ha : ws[q0]? = some (a, .inl (cI, n, .inl f))) {i : Int32} (hin : vp_in i n) (hdg : decode cc pc = .ok (.iaload, 1))
    (kk : ∀ v : Int32, W p l e R s m args below meth c H locs cells slots Q (F0 m (pc + 1) ls (.int v :: rest))) : W p l e R s m args below meth c H locs cells slots Q (F0 m pc ls (.int i :: .ref a :: rest)) :=
  va_iald hx hb hG.1 hP q0 1 ha rfl hin hdg (kk _)
theorem xa_zld (hx : p.tables.exec = Jvm.exec) (hb : c.code = cc) (hG : GE D cB cI cJ cZ s) (hP : va_P D vwCl ws H) (q0 : Nat) {n : Nat} {L : List Int32} (ha : ws[q0]? = some (a, .inl (cZ, n, .inl (lst L)))) {i v : Int32} (hin : vp_in i n) (hv : L.getD i.toNatClampNeg 0 = v) (hdg : decode cc pc = .ok (.baload, 1))
    (kk : W p l e R s m args below meth c H locs cells slots Q (F0 m (pc + 1) ls (.int v :: rest))) : W p l e R s m args below meth c H locs cells slots Q (F0 m pc ls (.int i :: .ref a :: rest)) := by
  subst hv
  exact va_zald hx hb hG.1 hP q0 3 ha rfl hin hdg kk
theorem xa_bldU (hx : p.tables.exec = Jvm.exec) (hb : c.code = cc) (hG : GE D cB cI cJ cZ s) (hP : va_P D vwCl ws H) (q0 : Nat) {n : Nat} {f : Nat → Int32} (ha : ws[q0]? = some (a, .inl (cB, n, .inl f))) {i : Int32} (hin : vp_in i n) (hdg : decode cc pc = .ok (.baload, 1))
    (kk : ∀ v : Int32, W p l e R s m args below meth c H locs cells slots Q (F0 m (pc + 1) ls (.int v :: rest))) : W p l e R s m args below meth c H locs cells slots Q (F0 m pc ls (.int i :: .ref a :: rest)) :=
  va_bald hx hb hG.1 hP q0 0 ha rfl hin hdg (kk _)
theorem xa_lldU (hx : p.tables.exec = Jvm.exec) (hb : c.code = cc) (hG : GE D cB cI cJ cZ s) (hP : va_P D vwCl ws H) (q0 : Nat) {n : Nat} {f : Nat → Int64} (ha : ws[q0]? = some (a, .inl (cJ, n, .inr (.inl f)))) {i : Int32} (hin : vp_in i n) (hdg : decode cc pc = .ok (.laload, 1))
    (kk : ∀ v : Int64, W p l e R s m args below meth c H locs cells slots Q (F0 m (pc + 1) ls (.long v :: rest))) : W p l e R s m args below meth c H locs cells slots Q (F0 m pc ls (.int i :: .ref a :: rest)) :=
  va_lald hx hb hG.1 hP q0 2 ha rfl hin hdg (kk _)
theorem xa_ist (hx : p.tables.exec = Jvm.exec) (hb : c.code = cc) (hG : GE D cB cI cJ cZ s) (hP : va_P D vwCl ws H) (hD : va_D A ws) (hS : va_S A H0 H locs) (q0 : Nat) {n : Nat} {L : List Int32} (ha : ws[q0]? = some (a, .inl (cI, n, .inl (lst L)))) {i x : Int32} {k : Nat} (hin : vp_in i n) (hk : i.toNatClampNeg = k) (hkL : k < L.length) (hdg : decode cc pc = .ok (.iastore, 1))
    (kk : ∀ (H1 : Heap) (locs1 : List Loc), va_P D vwCl (ws.set q0 (a, .inl (cI, n, .inl (lst (L.set k x))))) H1 → va_D A (ws.set q0 (a, .inl (cI, n, .inl (lst (L.set k x))))) → va_S A H0 H1 locs1 → W p l e R s m args below meth c H1 locs1 cells slots Q (F0 m (pc + 1) ls rest)) : W p l e R s m args below meth c H locs cells slots Q (F0 m pc ls (.int x :: .int i :: .ref a :: rest)) := by
  subst hk
  refine va_iast hx hb hG.1 hP hD hS q0 1 ha rfl hin hdg (fun H1 locs1 h1 h2 h3 => ?_)
  rw [lst_set x hkL] at h1 h2
  exact kk H1 locs1 h1 h2 h3
theorem xa_istU (hx : p.tables.exec = Jvm.exec) (hb : c.code = cc) (hG : GE D cB cI cJ cZ s) (hP : va_P D vwCl ws H) (hD : va_D A ws) (hS : va_S A H0 H locs) (q0 : Nat) {n : Nat} {f : Nat → Int32} (ha : ws[q0]? = some (a, .inl (cI, n, .inl f))) {i x : Int32} (hin : vp_in i n) (hdg : decode cc pc = .ok (.iastore, 1))
    (kk : ∀ (f' : Nat → Int32) (H1 : Heap) (locs1 : List Loc), va_P D vwCl (ws.set q0 (a, .inl (cI, n, .inl f'))) H1 → va_D A (ws.set q0 (a, .inl (cI, n, .inl f'))) → va_S A H0 H1 locs1 → W p l e R s m args below meth c H1 locs1 cells slots Q (F0 m (pc + 1) ls rest)) : W p l e R s m args below meth c H locs cells slots Q (F0 m pc ls (.int x :: .int i :: .ref a :: rest)) :=
  va_iast hx hb hG.1 hP hD hS q0 1 ha rfl hin hdg (fun H1 locs1 h1 h2 h3 => kk _ H1 locs1 h1 h2 h3)
theorem xa_bstU (hx : p.tables.exec = Jvm.exec) (hb : c.code = cc) (hG : GE D cB cI cJ cZ s) (hP : va_P D vwCl ws H) (hD : va_D A ws) (hS : va_S A H0 H locs) (q0 : Nat) {n : Nat} {f : Nat → Int32} (ha : ws[q0]? = some (a, .inl (cB, n, .inl f))) {i x : Int32} (hin : vp_in i n) (hdg : decode cc pc = .ok (.bastore, 1))
    (kk : ∀ (f' : Nat → Int32) (H1 : Heap) (locs1 : List Loc), va_P D vwCl (ws.set q0 (a, .inl (cB, n, .inl f'))) H1 → va_D A (ws.set q0 (a, .inl (cB, n, .inl f'))) → va_S A H0 H1 locs1 → W p l e R s m args below meth c H1 locs1 cells slots Q (F0 m (pc + 1) ls rest)) : W p l e R s m args below meth c H locs cells slots Q (F0 m pc ls (.int x :: .int i :: .ref a :: rest)) :=
  va_bast hx hb hG.1 hP hD hS q0 0 ha rfl hin hdg (fun H1 locs1 h1 h2 h3 => kk _ H1 locs1 h1 h2 h3)
theorem xa_zstU (hx : p.tables.exec = Jvm.exec) (hb : c.code = cc) (hG : GE D cB cI cJ cZ s) (hP : va_P D vwCl ws H) (hD : va_D A ws) (hS : va_S A H0 H locs) (q0 : Nat) {n : Nat} {f : Nat → Int32} (ha : ws[q0]? = some (a, .inl (cZ, n, .inl f))) {i x : Int32} (hin : vp_in i n) (hdg : decode cc pc = .ok (.bastore, 1))
    (kk : ∀ (f' : Nat → Int32) (H1 : Heap) (locs1 : List Loc), va_P D vwCl (ws.set q0 (a, .inl (cZ, n, .inl f'))) H1 → va_D A (ws.set q0 (a, .inl (cZ, n, .inl f'))) → va_S A H0 H1 locs1 → W p l e R s m args below meth c H1 locs1 cells slots Q (F0 m (pc + 1) ls rest)) : W p l e R s m args below meth c H locs cells slots Q (F0 m pc ls (.int x :: .int i :: .ref a :: rest)) :=
  va_zast hx hb hG.1 hP hD hS q0 3 ha rfl hin hdg (fun H1 locs1 h1 h2 h3 => kk _ H1 locs1 h1 h2 h3)
theorem xa_zst (hx : p.tables.exec = Jvm.exec) (hb : c.code = cc) (hG : GE D cB cI cJ cZ s) (hP : va_P D vwCl ws H) (hD : va_D A ws) (hS : va_S A H0 H locs) (q0 : Nat) {n : Nat} {L : List Int32} (ha : ws[q0]? = some (a, .inl (cZ, n, .inl (lst L)))) {i x : Int32} {k : Nat} (hin : vp_in i n) (hk : i.toNatClampNeg = k) (hkL : k < L.length) (hxn : vp_nar .boolean x = x) (hdg : decode cc pc = .ok (.bastore, 1))
    (kk : ∀ (H1 : Heap) (locs1 : List Loc), va_P D vwCl (ws.set q0 (a, .inl (cZ, n, .inl (lst (L.set k x))))) H1 → va_D A (ws.set q0 (a, .inl (cZ, n, .inl (lst (L.set k x))))) → va_S A H0 H1 locs1 → W p l e R s m args below meth c H1 locs1 cells slots Q (F0 m (pc + 1) ls rest)) : W p l e R s m args below meth c H locs cells slots Q (F0 m pc ls (.int x :: .int i :: .ref a :: rest)) := by
  subst hk
  refine va_zast hx hb hG.1 hP hD hS q0 3 ha rfl hin hdg (fun H1 locs1 h1 h2 h3 => ?_)
  rw [hxn, lst_set x hkL] at h1 h2
  exact kk H1 locs1 h1 h2 h3
theorem xa_lstU (hx : p.tables.exec = Jvm.exec) (hb : c.code = cc) (hG : GE D cB cI cJ cZ s) (hP : va_P D vwCl ws H) (hD : va_D A ws) (hS : va_S A H0 H locs) (q0 : Nat) {n : Nat} {f : Nat → Int64} (ha : ws[q0]? = some (a, .inl (cJ, n, .inr (.inl f)))) {i : Int32} {x : Int64} (hin : vp_in i n) (hdg : decode cc pc = .ok (.lastore, 1))
    (kk : ∀ (f' : Nat → Int64) (H1 : Heap) (locs1 : List Loc), va_P D vwCl (ws.set q0 (a, .inl (cJ, n, .inr (.inl f')))) H1 → va_D A (ws.set q0 (a, .inl (cJ, n, .inr (.inl f')))) → va_S A H0 H1 locs1 → W p l e R s m args below meth c H1 locs1 cells slots Q (F0 m (pc + 1) ls rest)) : W p l e R s m args below meth c H locs cells slots Q (F0 m pc ls (.long x :: .int i :: .ref a :: rest)) :=
  va_last hx hb hG.1 hP hD hS q0 2 ha rfl hin hdg (fun H1 locs1 h1 h2 h3 => kk _ H1 locs1 h1 h2 h3)
theorem xa_alen (hx : p.tables.exec = Jvm.exec) (hb : c.code = cc) (hG : GE D cB cI cJ cZ s) (hP : va_P D vwCl ws H) (q0 t0 : Nat) {cA : ClassId} {x : vp_A} (ha : ws[q0]? = some (a, .inl (cA, x))) {ty : FieldType} (ht : (ty4 cB cI cJ cZ)[t0]? = some (cA, ty)) {v : Int32} (hv : Int32.ofNat x.1 = v) (hdg : decode cc pc = .ok (.arraylength, 1))
    (kk : W p l e R s m args below meth c H locs cells slots Q (F0 m (pc + 1) ls (.int v :: rest))) : W p l e R s m args below meth c H locs cells slots Q (F0 m pc ls (.ref a :: rest)) :=
  va_alen hx hb hG.1 hP q0 t0 ha ht hv hdg kk
theorem xa_cpyU (hx : p.tables.exec = Jvm.exec) (hb : c.code = cc) {nL : Nat} (hml : c.maxLocals = nL) (hsz : ls.size = nL) {own : String} {index : Nat} (hown : s.vm.findClass own = some m.cls) (hts : ∀ w ∈ gT, w.before args s = true) (hlink : Cond.methodLink own index arraycopyName ∈ gT) (hnat : Cond.native arraycopyName ∈ gT) (hstat : Cond.static arraycopyName ∈ gT) (hini : Cond.initialized "java/lang/System" ∈ gT)
    (hG : GE D cB cI cJ cZ s) (hP : va_P D vwCl ws H) (hD : va_D A ws) (hS : va_S A H0 H locs) (q0 q1 : Nat) {a0 n0 n1 : Nat} {f g : Nat → Int32} (ha0 : ws[q0]? = some (a0, .inl (cI, n0, .inl f))) (ha1 : ws[q1]? = some (a, .inl (cI, n1, .inl g)))
    {sp dp n : Int32} (h1 : ¬ sp < 0) (h2 : ¬ dp < 0) (h3 : ¬ n < 0) (h4 : sp.toNatClampNeg + n.toNatClampNeg ≤ n0) (h5 : dp.toNatClampNeg + n.toNatClampNeg ≤ n1)
    (hframes : 1 ≤ R.frames) (hlocals : (rest.map fun v => v.category).sum + (nativeFrameWords "java/lang/System" "arraycopy" 5 + 11) ≤ R.locals) (hdg : decode cc pc = .ok (.invokestatic index, 3))
    (kk : ∀ (f' : Nat → Int32) (H1 : Heap) (locs1 : List Loc), va_P D vwCl (ws.set q1 (a, .inl (cI, n1, .inl f'))) H1 → va_D A (ws.set q1 (a, .inl (cI, n1, .inl f'))) → va_S A H0 H1 locs1 → W p l e R s m args below meth c H1 locs1 cells slots Q (F0 m (pc + 3) ls rest)) : W p l e R s m args below meth c H locs cells slots Q (F0 m pc ls (.int n :: .int dp :: .ref a :: .int sp :: .ref a0 :: rest)) :=
  va_copyi hx hb (hml.trans hsz.symm) hown (hts _ hlink) (hts _ hnat) (hts _ hstat) (hts _ hini) hG.1 hP hD hS q0 q1 1 1 ha0 ha1 rfl rfl rfl h1 h2 h3 h4 h5 (fun _ _ => rfl) hframes hlocals hdg (fun H1 locs1 g1 g2 g3 => kk _ H1 locs1 g1 g2 g3)
end XB
theorem lst_new {ty : FieldType} (hd : defaultValue ty = .int 0) (n : Nat) (cA : ClassId) : vp_cell cA (n, .inl (lst (List.replicate n 0))) = arrV cA n (fun _ => defaultValue ty) := by
  rw [vp_cell_i, lst_rep, hd]
theorem i32_add1 {x : Int32} (h : x.toInt < 2147483647) : (x + 1).toInt = x.toInt + 1 := by
  have h1 := Int32.le_toInt x
  rw [Int32.toInt_add, show (1 : Int32).toInt = 1 from by decide]
  show (if (x.toInt + 1) % 4294967296 < (4294967296 + 1) / 2 then (x.toInt + 1) % 4294967296 else (x.toInt + 1) % 4294967296 - 4294967296) = x.toInt + 1
  split <;> omega
theorem sp_pos {c : Prop} [Decidable c] {a b : Int32} (h : c) : some (Value.int a) = some (Value.int (if c then a else b)) := by rw [if_pos h]
theorem sp_neg {c : Prop} [Decidable c] {a b : Int32} (h : ¬ c) : some (Value.int b) = some (Value.int (if c then a else b)) := by rw [if_neg h]
theorem i32_add {x y : Int32} (h1 : -2147483648 ≤ x.toInt + y.toInt) (h2 : x.toInt + y.toInt ≤ 2147483647) : (x + y).toInt = x.toInt + y.toInt := by
  rw [Int32.toInt_add]
  show (if (x.toInt + y.toInt) % 4294967296 < (4294967296 + 1) / 2 then (x.toInt + y.toInt) % 4294967296 else (x.toInt + y.toInt) % 4294967296 - 4294967296) = x.toInt + y.toInt
  split <;> omega
/-! safety: contents of arrays within bounds, ranges of what is computed -/
def AR (f : Nat → Int32) (lo hi b : Int) : Prop := ∀ j : Nat, (j : Int) < b → lo ≤ (f j).toInt ∧ (f j).toInt ≤ hi
theorem AR.mono {f : Nat → Int32} {lo hi b lo' hi' b' : Int} (h : AR f lo hi b) (h1 : lo' ≤ lo) (h2 : hi ≤ hi') (h3 : b' ≤ b) : AR f lo' hi' b' := fun j hj => by
  have z := h j (by omega)
  omega
theorem AR.upd {f : Nat → Int32} {lo hi b : Int} {k : Nat} {x : Int32} (h : AR f lo hi b) (h1 : (k : Int) < b → lo ≤ x.toInt ∧ x.toInt ≤ hi) : AR (upd f k x) lo hi b := fun j hj => by
  by_cases e : j = k
  · subst e
    rw [pk_us]
    exact h1 hj
  · rw [pk_un e]
    exact h j hj
theorem AR.zero {lo hi b : Int} (h1 : lo ≤ 0) (h2 : 0 ≤ hi) : AR (fun _ => 0) lo hi b := fun j _ => by
  show lo ≤ (0 : Int32).toInt ∧ (0 : Int32).toInt ≤ hi
  rw [show (0 : Int32).toInt = 0 from by decide]
  exact ⟨h1, h2⟩
theorem AR.at {f : Nat → Int32} {lo hi b : Int} {i : Int32} (h : AR f lo hi b) (h0 : 0 ≤ i.toInt) (h1 : i.toInt < b) : lo ≤ (f i.toNatClampNeg).toInt ∧ (f i.toNatClampNeg).toInt ≤ hi := h _ (by
  show ((i.toInt.toNat : Nat) : Int) < b
  omega)
theorem i32_bmod (z : Int) (h1 : -2147483648 ≤ z) (h2 : z ≤ 2147483647) : z.bmod (2 ^ 32) = z := by
  show (if z % 4294967296 < (4294967296 + 1) / 2 then z % 4294967296 else z % 4294967296 - 4294967296) = z
  split <;> omega
theorem i32_sub {x y : Int32} (h1 : -2147483648 ≤ x.toInt - y.toInt) (h2 : x.toInt - y.toInt ≤ 2147483647) : (x - y).toInt = x.toInt - y.toInt := by
  rw [Int32.toInt_sub]
  exact i32_bmod _ h1 h2
theorem i32_mul {x y : Int32} (h1 : -2147483648 ≤ x.toInt * y.toInt) (h2 : x.toInt * y.toInt ≤ 2147483647) : (x * y).toInt = x.toInt * y.toInt := by
  rw [Int32.toInt_mul]
  exact i32_bmod _ h1 h2
theorem i32_rng (x : Int32) : -2147483648 ≤ x.toInt ∧ x.toInt ≤ 2147483647 := by
  have h1 := Int32.le_toInt x
  have h2 := Int32.toInt_lt x
  omega
theorem i32_of {x : Int32} {n : Nat} (h0 : 0 ≤ x.toInt) (h1 : x.toInt ≤ n) (hn : n < 2 ^ 31) : ∃ j : Nat, j ≤ n ∧ x = nI j := by
  refine ⟨x.toInt.toNat, by omega, ?_⟩
  apply Int32.toInt_inj.mp
  rw [nI_toInt (by omega)]
  omega
theorem i32_and {x m : Int32} (k : Nat) (hm : m.toBitVec.toNat = 2 ^ k - 1) (hk : k ≤ 30) : 0 ≤ (x &&& m).toInt ∧ (x &&& m).toInt < 2 ^ k := by
  obtain ⟨j, hj, e⟩ := pk_andE x (m := m) k hm
  have h2 : 2 ^ k ≤ 2 ^ 30 := Nat.pow_le_pow_right (by decide) hk
  rw [e, nI_toInt (by omega)]
  constructor
  · omega
  · exact_mod_cast hj
theorem i32_shl1 {p : Int32} (h0 : 0 ≤ p.toInt) (h1 : p.toInt ≤ 6) : 1 ≤ ((1 : Int32) <<< (p &&& 31)).toInt ∧ ((1 : Int32) <<< (p &&& 31)).toInt ≤ 64 := by
  obtain ⟨j, hj, rfl⟩ := i32_of (n := 6) h0 h1 (by decide)
  have all : ∀ j, j ≤ 6 → 1 ≤ ((1 : Int32) <<< (nI j &&& 31)).toInt ∧ ((1 : Int32) <<< (nI j &&& 31)).toInt ≤ 64 := by decide +kernel
  exact all j hj
theorem i32_or {x y : Int32} (h0 : 0 ≤ x.toInt) (h1 : x.toInt ≤ 127) (h2 : 0 ≤ y.toInt) (h3 : y.toInt ≤ 127) : 0 ≤ (x ||| y).toInt ∧ (x ||| y).toInt ≤ 127 := by
  obtain ⟨j, hj, rfl⟩ := i32_of (n := 127) h0 h1 (by decide)
  obtain ⟨k, hk, rfl⟩ := i32_of (n := 127) h2 h3 (by decide)
  have all : ∀ j, j ≤ 127 → ∀ k, k ≤ 127 → 0 ≤ (nI j ||| nI k).toInt ∧ (nI j ||| nI k).toInt ≤ 127 := by decide +kernel
  exact all j hj k hk
theorem i_lt {x y : Int32} {a b : Int} (hx : x.toInt = a) (hy : y.toInt = b) (h : x < y) : a < b := by
  have z := Int32.lt_iff_toInt_lt.mp h
  rw [hx, hy] at z
  exact z
theorem i_le {x y : Int32} {a b : Int} (hx : x.toInt = a) (hy : y.toInt = b) (h : x ≤ y) : a ≤ b := by
  have z := Int32.le_iff_toInt_le.mp h
  rw [hx, hy] at z
  exact z
theorem i_nlt {x y : Int32} {a b : Int} (hx : x.toInt = a) (hy : y.toInt = b) (h : ¬ x < y) : b ≤ a := i_le hy hx (Int32.not_lt.mp h)
theorem i_nle {x y : Int32} {a b : Int} (hx : x.toInt = a) (hy : y.toInt = b) (h : ¬ x ≤ y) : b < a := i_lt hy hx (Int32.not_le.mp h)
theorem i_eq {x y : Int32} {a b : Int} (hx : x.toInt = a) (hy : y.toInt = b) (h : x = y) : a = b := by
  rw [← hx, ← hy, h]
theorem i_ne {x y : Int32} {a b : Int} (hx : x.toInt = a) (hy : y.toInt = b) (h : ¬ x = y) : a ≠ b := fun e => h (Int32.toInt_inj.mp (by rw [hx, hy, e]))
theorem i_nz {y : Int32} (h : y.toInt ≠ 0) : ¬ y = 0 := fun e => h (by rw [e]; decide)
theorem i32_rem {x y : Int32} {a b : Int} (hx : x.toInt = a) (hy : y.toInt = b) (h0 : 0 ≤ a) (h1 : 0 < b) : 0 ≤ (x - x / y * y).toInt ∧ (x - x / y * y).toInt < b := by
  have rx := i32_rng x
  have ry := i32_rng y
  obtain ⟨j, hj, rfl⟩ := i32_of (n := 2147483647) (x := x) (by omega) (by omega) (by decide)
  obtain ⟨k, hk, rfl⟩ := i32_of (n := 2147483647) (x := y) (by omega) (by omega) (by decide)
  rw [nI_toInt (by omega)] at hy
  have hk0 : 0 < k := by omega
  rw [pk_rem (by omega) hk0 (by omega)]
  have hm : j % k < k := Nat.mod_lt _ hk0
  rw [nI_toInt (by omega)]
  omega
section XS
variable {p : Program} {l : Launch} {e : Env} {R : Room} {s : State} {m : MethodId} {args : Array Value} {below : List Frame} {meth : Method} {c : Code} {H : Heap} {locs : List Loc} {cells slots : Nat} {Q : State → Prop}
variable {cc : ByteArray} {pc : Nat} {ls : Array Slot} {rest : List Value} {D : va_G} {cB cI cJ cZ : ClassId} {A : Nat → Prop} {a : Nat} {ws : va_W} {H0 : Heap}
theorem xa_zldU (hx : p.tables.exec = Jvm.exec) (hb : c.code = cc) (hG : GE D cB cI cJ cZ s) (hP : va_P D vwCl ws H) (q0 : Nat) {n : Nat} {f : Nat → Int32} (ha : ws[q0]? = some (a, .inl (cZ, n, .inl f))) {i : Int32} (hin : vp_in i n) (hdg : decode cc pc = .ok (.baload, 1))
    (kk : ∀ v : Int32, W p l e R s m args below meth c H locs cells slots Q (F0 m (pc + 1) ls (.int v :: rest))) : W p l e R s m args below meth c H locs cells slots Q (F0 m pc ls (.int i :: .ref a :: rest)) :=
  va_zald hx hb hG.1 hP q0 3 ha rfl hin hdg (kk _)
theorem xa_ildR (hx : p.tables.exec = Jvm.exec) (hb : c.code = cc) (hG : GE D cB cI cJ cZ s) (hP : va_P D vwCl ws H) (q0 : Nat) {n : Nat} {f : Nat → Int32} (ha : ws[q0]? = some (a, .inl (cI, n, .inl f))) {i : Int32} (hin : vp_in i n) (hdg : decode cc pc = .ok (.iaload, 1))
    (kk : ∀ v : Int32, (∀ lo hi b : Int, AR f lo hi b → i.toInt < b → lo ≤ v.toInt ∧ v.toInt ≤ hi) → W p l e R s m args below meth c H locs cells slots Q (F0 m (pc + 1) ls (.int v :: rest))) : W p l e R s m args below meth c H locs cells slots Q (F0 m pc ls (.int i :: .ref a :: rest)) :=
  va_iald hx hb hG.1 hP q0 1 ha rfl hin hdg (kk _ (fun lo hi b h h1 => h.at (vp_in_iff.mp hin).1 h1))
theorem xa_istR (hx : p.tables.exec = Jvm.exec) (hb : c.code = cc) (hG : GE D cB cI cJ cZ s) (hP : va_P D vwCl ws H) (hD : va_D A ws) (hS : va_S A H0 H locs) (q0 : Nat) {n : Nat} {f : Nat → Int32} (ha : ws[q0]? = some (a, .inl (cI, n, .inl f))) {i x : Int32} (hin : vp_in i n) (hdg : decode cc pc = .ok (.iastore, 1))
    (kk : ∀ (f' : Nat → Int32) (H1 : Heap) (locs1 : List Loc), (∀ lo hi b : Int, AR f lo hi b → (i.toInt < b → lo ≤ x.toInt ∧ x.toInt ≤ hi) → AR f' lo hi b) → va_P D vwCl (ws.set q0 (a, .inl (cI, n, .inl f'))) H1 → va_D A (ws.set q0 (a, .inl (cI, n, .inl f'))) → va_S A H0 H1 locs1 → W p l e R s m args below meth c H1 locs1 cells slots Q (F0 m (pc + 1) ls rest)) : W p l e R s m args below meth c H locs cells slots Q (F0 m pc ls (.int x :: .int i :: .ref a :: rest)) :=
  va_iast hx hb hG.1 hP hD hS q0 1 ha rfl hin hdg (fun H1 locs1 h1 h2 h3 => kk _ H1 locs1 (fun lo hi b h hr => h.upd (fun hk => hr (by
    have z := (vp_in_iff.mp hin).1
    have z2 : ((i.toInt.toNat : Nat) : Int) < b := hk
    omega))) h1 h2 h3)
end XS
theorem i32_max {x y r : Int32} {a b : Int} (hx : x.toInt = a) (hy : y.toInt = b) (h : r = if x < y then y else x) : a ≤ r.toInt ∧ b ≤ r.toInt ∧ (r.toInt = a ∨ r.toInt = b) := by
  by_cases c : x < y
  · rw [if_pos c] at h
    have z := i_lt hx hy c
    rw [h]
    omega
  · rw [if_neg c] at h
    have z := i_nlt hx hy c
    rw [h]
    omega
theorem i32_min {x y r : Int32} {a b : Int} (hx : x.toInt = a) (hy : y.toInt = b) (h : r = if y < x then y else x) : r.toInt ≤ a ∧ r.toInt ≤ b ∧ (r.toInt = a ∨ r.toInt = b) := by
  by_cases c : y < x
  · rw [if_pos c] at h
    have z := i_lt hy hx c
    rw [h]
    omega
  · rw [if_neg c] at h
    have z := i_nlt hy hx c
    rw [h]
    omega
theorem i32_andle {x y r : Int32} {b : Int} (hy : y.toInt = b) (h0 : 0 ≤ b) (h : r = x &&& y) : 0 ≤ r.toInt ∧ r.toInt ≤ b := by
  have ry := i32_rng y
  have h1 : (x &&& y).toBitVec.toNat ≤ y.toBitVec.toNat := by
    show (x.toBitVec &&& y.toBitVec).toNat ≤ y.toBitVec.toNat
    rw [BitVec.toNat_and]
    exact Nat.and_le_right
  obtain ⟨k, hk, rfl⟩ := i32_of (n := 2147483647) (x := y) (by omega) (by omega) (by decide)
  rw [pk_tn (by omega)] at h1
  rw [nI_toInt (by omega)] at hy
  have h2 : (x &&& nI k) = nI (x &&& nI k).toBitVec.toNat := by
    apply Int32.toBitVec_inj.mp
    apply BitVec.eq_of_toNat_eq
    rw [pk_tn (by omega)]
  rw [h, h2, nI_toInt (by omega)]
  omega
theorem nar_z {v : Int32} (h0 : 0 ≤ v.toInt) (h1 : v.toInt ≤ 1) : narrow .boolean (.int v) = .int v := by
  obtain ⟨j, hj, rfl⟩ := i32_of (n := 1) h0 h1 (by decide)
  have all : ∀ j, j ≤ 1 → narrow .boolean (.int (nI j)) = .int (nI j) := by decide +kernel
  exact all j hj
theorem AR.nil {f : Nat → Int32} {lo hi b : Int} (h : b ≤ 0) : AR f lo hi b := fun j hj => absurd hj (by omega)
theorem ar_ext {f : Nat → Int32} {lo hi b : Int} {k : Nat} {x : Int32} (h : AR f lo hi b) (hb : (k : Int) ≤ b) (h1 : lo ≤ x.toInt ∧ x.toInt ≤ hi) : AR (upd f k x) lo hi ((k : Int) + 1) := fun j hj => by
  by_cases e : j = k
  · subst e
    rw [pk_us]
    exact h1
  · rw [pk_un e]
    exact h j (by omega)
section XT
variable {p : Program} {l : Launch} {e : Env} {R : Room} {s : State} {m : MethodId} {args : Array Value} {below : List Frame} {meth : Method} {c : Code} {H : Heap} {locs : List Loc} {cells slots : Nat} {Q : State → Prop}
variable {cc : ByteArray} {pc : Nat} {ls : Array Slot} {rest : List Value} {D : va_G} {cB cI cJ cZ : ClassId} {A : Nat → Prop} {a : Nat} {ws : va_W} {H0 : Heap}
theorem xa_istS (hx : p.tables.exec = Jvm.exec) (hb : c.code = cc) (hG : GE D cB cI cJ cZ s) (hP : va_P D vwCl ws H) (hD : va_D A ws) (hS : va_S A H0 H locs) (q0 : Nat) {n : Nat} {f : Nat → Int32} (ha : ws[q0]? = some (a, .inl (cI, n, .inl f))) {i x : Int32} (hin : vp_in i n) (hdg : decode cc pc = .ok (.iastore, 1))
    (kk : ∀ (f' : Nat → Int32) (H1 : Heap) (locs1 : List Loc), (∀ lo hi b : Int, AR f lo hi b → (i.toInt < b → lo ≤ x.toInt ∧ x.toInt ≤ hi) → AR f' lo hi b) → (∀ lo hi b : Int, AR f lo hi b → i.toInt ≤ b → lo ≤ x.toInt ∧ x.toInt ≤ hi → AR f' lo hi (i.toInt + 1)) → va_P D vwCl (ws.set q0 (a, .inl (cI, n, .inl f'))) H1 → va_D A (ws.set q0 (a, .inl (cI, n, .inl f'))) → va_S A H0 H1 locs1 → W p l e R s m args below meth c H1 locs1 cells slots Q (F0 m (pc + 1) ls rest)) : W p l e R s m args below meth c H locs cells slots Q (F0 m pc ls (.int x :: .int i :: .ref a :: rest)) := by
  have z := (vp_in_iff.mp hin).1
  have z2 : ((i.toNatClampNeg : Nat) : Int) = i.toInt := by
    show ((i.toInt.toNat : Nat) : Int) = i.toInt
    omega
  exact va_iast hx hb hG.1 hP hD hS q0 1 ha rfl hin hdg (fun H1 locs1 h1 h2 h3 => kk _ H1 locs1 (fun lo hi b h hr => h.upd (fun hk => hr (by omega))) (fun lo hi b h hr hr2 => by
    have y := ar_ext h (k := i.toNatClampNeg) (x := x) (by omega) hr2
    rw [z2] at y
    exact y) h1 h2 h3)
theorem xa_cpyR (hx : p.tables.exec = Jvm.exec) (hb : c.code = cc) {nL : Nat} (hml : c.maxLocals = nL) (hsz : ls.size = nL) {own : String} {index : Nat} (hown : s.vm.findClass own = some m.cls) (hts : ∀ w ∈ gT, w.before args s = true) (hlink : Cond.methodLink own index arraycopyName ∈ gT) (hnat : Cond.native arraycopyName ∈ gT) (hstat : Cond.static arraycopyName ∈ gT) (hini : Cond.initialized "java/lang/System" ∈ gT)
    (hG : GE D cB cI cJ cZ s) (hP : va_P D vwCl ws H) (hD : va_D A ws) (hS : va_S A H0 H locs) (q0 q1 : Nat) {a0 n0 n1 : Nat} {f g : Nat → Int32} (ha0 : ws[q0]? = some (a0, .inl (cI, n0, .inl f))) (ha1 : ws[q1]? = some (a, .inl (cI, n1, .inl g)))
    {sp dp n : Int32} {k : Nat} (h1 : ¬ sp < 0) (h2 : ¬ dp < 0) (h3 : ¬ n < 0) (h4 : sp.toNatClampNeg + n.toNatClampNeg ≤ n0) (h5 : dp.toNatClampNeg + n.toNatClampNeg ≤ n1) (e1 : sp.toNatClampNeg = 0) (e2 : dp.toNatClampNeg = 0) (e3 : n.toNatClampNeg = k)
    (hframes : 1 ≤ R.frames) (hlocals : (rest.map fun v => v.category).sum + (nativeFrameWords "java/lang/System" "arraycopy" 5 + 11) ≤ R.locals) (hdg : decode cc pc = .ok (.invokestatic index, 3))
    (kk : ∀ (f' : Nat → Int32) (H1 : Heap) (locs1 : List Loc), (∀ lo hi b : Int, b ≤ k → AR f lo hi b → AR f' lo hi b) → va_P D vwCl (ws.set q1 (a, .inl (cI, n1, .inl f'))) H1 → va_D A (ws.set q1 (a, .inl (cI, n1, .inl f'))) → va_S A H0 H1 locs1 → W p l e R s m args below meth c H1 locs1 cells slots Q (F0 m (pc + 3) ls rest)) : W p l e R s m args below meth c H locs cells slots Q (F0 m pc ls (.int n :: .int dp :: .ref a :: .int sp :: .ref a0 :: rest)) :=
  va_copyi hx hb (hml.trans hsz.symm) hown (hts _ hlink) (hts _ hnat) (hts _ hstat) (hts _ hini) hG.1 hP hD hS q0 q1 1 1 ha0 ha1 rfl rfl rfl h1 h2 h3 h4 h5 (fun _ _ => rfl) hframes hlocals hdg (fun H1 locs1 g1 g2 g3 => kk _ H1 locs1 (fun lo hi b hbk h j hj => by
    rw [e1, e2, e3, pk_cpy_in (Nat.zero_le _) (by omega), Nat.zero_add, Nat.sub_zero]
    exact h j hj) g1 g2 g3)
end XT
