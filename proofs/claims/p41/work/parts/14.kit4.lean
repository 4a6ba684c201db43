def RW (f : Nat → Int32) (a M : Int) : Prop := (∀ p : Nat, (p : Int) < M → 0 ≤ (f (a.toNat + p)).toInt ∧ (f (a.toNat + p)).toInt ≤ 3) ∧ 0 ≤ (f (a.toNat + 26)).toInt ∧ (f (a.toNat + 26)).toInt ≤ 999
theorem RW.c {f : Nat → Int32} {a M a' M' : Int} (h : RW f a M) (e1 : a' = a) (e2 : M' = M) : RW f a' M' := by
  subst e1
  subst e2
  exact h
def WR (f f' : Nat → Int32) (a M : Int) : Prop := RW f' a M ∧ ∀ j : Nat, ((j : Int) < a ∨ a + 27 ≤ (j : Int)) → f' j = f j
theorem WR.c {f f' : Nat → Int32} {a M a' M' : Int} (h : WR f f' a M) (e1 : a' = a) (e2 : M' = M) : WR f f' a' M' := by
  subst e1
  subst e2
  exact h
theorem rw_of {f f' : Nat → Int32} {a b M : Int} (hw : WR f f' a M) (h : RW f b M) (hb : 0 ≤ b) (hM : M ≤ 7) (hd : b + 27 ≤ a ∨ a + 27 ≤ b) : RW f' b M := by
  have z : ∀ p : Nat, p < 27 → f' (b.toNat + p) = f (b.toNat + p) := fun p hp => hw.2 _ (by omega)
  refine ⟨fun p hp => ?_, ?_⟩
  · rw [z p (by omega)]
    exact h.1 p hp
  · rw [z 26 (by omega)]
    exact h.2
theorem cp_in {f g f' : Nat → Int32} {s d n : Nat} (e : f' = va_cpy f g s d n) (p : Nat) (hp : p < n) : f' (d + p) = f (s + p) := by
  rw [e, pk_cpy_in (by omega) (by omega)]
  congr 1
  omega
theorem cp_out {f g f' : Nat → Int32} {s d n : Nat} (e : f' = va_cpy f g s d n) (j : Nat) (h : j < d ∨ d + n ≤ j) : f' j = g j := by
  rw [e, pk_cpy_out h]
theorem up_out {f f' : Nat → Int32} {i x : Int32} (e : f' = upd f i.toNatClampNeg x) (j : Nat) (h : j ≠ i.toInt.toNat) : f' j = f j := by
  rw [e, pk_un (by rw [tnc]; exact h)]
theorem up_in {f f' : Nat → Int32} {i x : Int32} (e : f' = upd f i.toNatClampNeg x) (j : Nat) (h : j = i.toInt.toNat) : f' j = x := by
  rw [e, h, ← tnc, pk_us]
theorem wr_all {h y k g f0 f1 f2 f3 f4 f5 f6 : Nat → Int32} {a d1 d2 d3 i5 i6 yr sd : Int32} {M : Int}
    (e1 : f1 = va_cpy h f0 0 a.toInt.toNat 7) (e2 : f2 = va_cpy y f1 0 d1.toInt.toNat 7) (e3 : f3 = va_cpy k f2 0 d2.toInt.toNat 7) (e4 : f4 = va_cpy g f3 0 d3.toInt.toNat 4) (e5 : f5 = upd f4 i5.toNatClampNeg yr) (e6 : f6 = upd f5 i6.toNatClampNeg sd)
    (h0 : 0 ≤ a.toInt) (h1 : d1.toInt = a.toInt + 7) (h2 : d2.toInt = a.toInt + 14) (h3 : d3.toInt = a.toInt + 21) (h5 : i5.toInt = a.toInt + 25) (h6 : i6.toInt = a.toInt + 26) (hM : M ≤ 7) (hA : AR h 0 3 M) (hs : 0 ≤ sd.toInt) (hs2 : sd.toInt ≤ 999) : WR f0 f6 a.toInt M := by
  refine ⟨⟨fun p hp => ?_, ?_⟩, fun j hj => ?_⟩
  · rw [up_out e6 _ (by omega), up_out e5 _ (by omega), cp_out e4 _ (by omega), cp_out e3 _ (by omega), cp_out e2 _ (by omega), cp_in e1 p (by omega), Nat.zero_add]
    exact hA p hp
  · rw [up_in e6 _ (by omega)]
    exact ⟨hs, hs2⟩
  · rw [up_out e6 _ (by omega), up_out e5 _ (by omega), cp_out e4 _ (by omega), cp_out e3 _ (by omega), cp_out e2 _ (by omega), cp_out e1 _ (by omega)]
theorem rf_ar {r h h' : Nat → Int32} {a : Int32} {M : Int} (e : h' = va_cpy r h a.toInt.toNat 0 7) (hr : RW r a.toInt M) (hM : M ≤ 7) : AR h' 0 3 M := fun j hj => by
  have z := cp_in e j (by omega)
  rw [Nat.zero_add] at z
  rw [z]
  exact hr.1 j hj
theorem rf_seed {r : Nat → Int32} {a i v : Int32} {M : Int} (hr : RW r a.toInt M) (e : v = r i.toNatClampNeg) (h0 : 0 ≤ a.toInt) (hi : i.toInt = a.toInt + 26) : 0 ≤ v.toInt ∧ v.toInt ≤ 999 := by
  rw [e, tnc, show i.toInt.toNat = a.toInt.toNat + 26 from by omega]
  exact hr.2
def RA (r a i : Int) : Prop := r = 27 * ((a + i) % 41)
theorem RA.c {r a i r' a' i' : Int} (h : RA r a i) (e1 : r' = r) (e2 : a' = a) (e3 : i' = i) : RA r' a' i' := by
  subst e1
  subst e2
  subst e3
  exact h
theorem i32_remE {x y r : Int32} {b : Int} (hy : y.toInt = b) (h0 : 0 ≤ x.toInt) (hb : 0 < b) (e : r = x - x / y * y) : r.toInt = x.toInt % b := by
  have rx := i32_rng x
  have ry := i32_rng y
  obtain ⟨j, hj, rfl⟩ := i32_of (n := 2147483647) (x := x) (by omega) (by omega) (by decide)
  obtain ⟨k, hk, rfl⟩ := i32_of (n := 2147483647) (x := y) (by omega) (by omega) (by decide)
  rw [nI_toInt (by omega)] at hy
  have hk0 : 0 < k := by omega
  rw [pk_rem (by omega) hk0 (by omega)] at e
  have hm : j % k < k := Nat.mod_lt _ hk0
  rw [e, nI_toInt (by omega), nI_toInt (by omega), ← hy]
  omega
def HL (f : Nat → Int32) (a d u M : Int) : Prop := ∀ j : Int, 0 ≤ j → (j < d ∨ (0 < u ∧ j ≤ d + u)) → RW f (27 * ((a + j) % 41)) M
theorem HL.c {f : Nat → Int32} {a d u M a' d' u' M' : Int} (h : HL f a d u M) (e1 : a' = a) (e2 : d' = d) (e3 : u' = u) (e4 : M' = M) : HL f a' d' u' M' := by
  subst e1
  subst e2
  subst e3
  subst e4
  exact h
theorem hl_nil {f : Nat → Int32} {a d u M : Int} (h1 : d ≤ 0) (h2 : u ≤ 0) : HL f a d u M := fun j h0 hj => by omega
theorem hl_shift {f : Nat → Int32} {a a' d u M : Int} (h : HL f a d u M) (hd : 40 ≤ d) (ha : a' = (a + 1) % 41) : HL f a' 39 0 M := fun j h0 hj => by
  have z := h (j + 1) (by omega) (Or.inl (by omega))
  exact z.c (by omega) rfl
theorem hl_keep {f f' : Nat → Int32} {a d u r M : Int} (h : HL f a d u M) (hw : WR f f' r M) (hr : RA r a d) (ha : 0 ≤ a) (h0 : 0 ≤ d) (hd : d ≤ 39) (hM : M ≤ 7) : HL f' a (d + 1) 0 M := fun j hj hjd => by
  unfold RA at hr
  by_cases q : j = d
  · exact hw.1.c (by rw [hr, q]) rfl
  · exact rw_of hw (h j hj (Or.inl (by omega))) (by omega) hM (by omega)
theorem hl_row {f f' : Nat → Int32} {a d u r r2 M : Int} (h : HL f a d u M) (hw : WR f f' r M) (hr : RA r a d) (hr2 : RA r2 a (d - 1)) (ha : 0 ≤ a) (h1 : 1 ≤ d) (hd : d ≤ 40) (hM : M ≤ 7) : RW f' r2 M := by
  unfold RA at hr hr2
  exact (rw_of hw (h (d - 1) (by omega) (Or.inl (by omega))) (by omega) hM (by omega)).c hr2 rfl
theorem hl_back {f f' : Nat → Int32} {a d u r M : Int} (h : HL f a d u M) (hw : WR f f' r M) (hr : RA r a d) (ha : 0 ≤ a) (h1 : 1 ≤ d) (h0 : 0 ≤ u) (hd : d + u ≤ 40) (hM : M ≤ 7) : HL f' a (d - 1) (u + 1) M := fun j hj hjd => by
  unfold RA at hr
  by_cases q : j = d
  · exact hw.1.c (by rw [hr, q]) rfl
  · exact rw_of hw (h j hj (by omega)) (by omega) hM (by omega)
theorem hl_next {f : Nat → Int32} {a d u r M : Int} (h : HL f a d u M) (hr : RA r a (d + 1)) (h0 : 0 ≤ d) (h1 : 1 ≤ u) : RW f r M := by
  unfold RA at hr
  exact (h (d + 1) (by omega) (Or.inr (by omega))).c hr rfl
theorem hl_again {f : Nat → Int32} {a d u M : Int} (h : HL f a d u M) (h1 : 1 ≤ u) : HL f a (d + 1) (u - 1) M := fun j hj hjd => h j hj (by omega)
def BX (f b : Nat → Int32) (M : Int) : Prop := ∀ k : Nat, k < 3 → (b k).toInt ≠ 0 → RW f (27 * (k : Int)) M
theorem BX.c {f b : Nat → Int32} {M M' : Int} (h : BX f b M) (e : M' = M) : BX f b M' := by
  subst e
  exact h
theorem bx_nil {f b : Nat → Int32} {M : Int} (h : AR b 0 0 3) : BX f b M := fun k hk hz => absurd (h k (by omega)) (by omega)
theorem bx_put {f f' b b' : Nat → Int32} {i x : Int32} {a M : Int} (h : BX f b M) (hw : WR f f' a M) (e : b' = upd b i.toNatClampNeg x) (h0 : 0 ≤ i.toInt) (ha : a = 27 * i.toInt) (hM : M ≤ 7) : BX f' b' M := fun k hk hz => by
  by_cases q : k = i.toInt.toNat
  · exact hw.1.c (by omega) rfl
  · rw [up_out e k q] at hz
    exact rw_of hw (h k hk hz) (by omega) hM (by omega)
theorem bx_get {f b : Nat → Int32} {i v : Int32} {M : Int} (h : BX f b M) (e : v = b i.toNatClampNeg) (hv : v.toInt ≠ 0) (h0 : 0 ≤ i.toInt) (h2 : i.toInt ≤ 2) : RW f (27 * i.toInt) M := by
  rw [e, tnc] at hv
  exact (h i.toInt.toNat (by omega) hv).c (by omega) rfl
theorem i_nn {x : Int32} (h : 0 ≤ x.toInt) : ¬ x < 0 := fun q => by
  have z := i_lt rfl (show (0 : Int32).toInt = 0 from by decide) q
  omega
theorem cpy_le {x n : Int32} {k N : Nat} (hn : n.toNatClampNeg = k) (h0 : 0 ≤ x.toInt) (h : x.toInt + (k : Int) ≤ (N : Int)) : x.toNatClampNeg + n.toNatClampNeg ≤ N := by
  rw [hn, tnc]
  omega
section XF
variable {p : Program} {l : Launch} {e : Env} {R : Room} {s : State} {m : MethodId} {args : Array Value} {below : List Frame} {meth : Method} {c : Code} {H : Heap} {locs : List Loc} {cells slots : Nat} {Q : State → Prop}
variable {cc : ByteArray} {pc : Nat} {ls : Array Slot} {rest : List Value} {D : va_G} {cB cI cJ cZ : ClassId} {A : Nat → Prop} {a : Nat} {ws : va_W} {H0 : Heap}
theorem xa_cpyE (hx : p.tables.exec = Jvm.exec) (hb : c.code = cc) {nL : Nat} (hml : c.maxLocals = nL) (hsz : ls.size = nL) {own : String} {index : Nat} (hown : s.vm.findClass own = some m.cls) (hts : ∀ w ∈ gT, w.before args s = true) (hlink : Cond.methodLink own index arraycopyName ∈ gT) (hnat : Cond.native arraycopyName ∈ gT) (hstat : Cond.static arraycopyName ∈ gT) (hini : Cond.initialized "java/lang/System" ∈ gT)
    (hG : GE D cB cI cJ cZ s) (hP : va_P D vwCl ws H) (hD : va_D A ws) (hS : va_S A H0 H locs) (q0 q1 : Nat) {a0 n0 n1 : Nat} {f g : Nat → Int32} (ha0 : ws[q0]? = some (a0, .inl (cI, n0, .inl f))) (ha1 : ws[q1]? = some (a, .inl (cI, n1, .inl g)))
    {sp dp n : Int32} {sN dN kN : Nat} (h1 : ¬ sp < 0) (h2 : ¬ dp < 0) (h3 : ¬ n < 0) (h4 : sp.toNatClampNeg + n.toNatClampNeg ≤ n0) (h5 : dp.toNatClampNeg + n.toNatClampNeg ≤ n1) (e1 : sp.toNatClampNeg = sN) (e2 : dp.toNatClampNeg = dN) (e3 : n.toNatClampNeg = kN)
    (hframes : 1 ≤ R.frames) (hlocals : (rest.map fun v => v.category).sum + (nativeFrameWords "java/lang/System" "arraycopy" 5 + 11) ≤ R.locals) (hdg : decode cc pc = .ok (.invokestatic index, 3))
    (kk : ∀ (f' : Nat → Int32) (H1 : Heap) (locs1 : List Loc), f' = va_cpy f g sN dN kN → va_P D vwCl (ws.set q1 (a, .inl (cI, n1, .inl f'))) H1 → va_D A (ws.set q1 (a, .inl (cI, n1, .inl f'))) → va_S A H0 H1 locs1 → W p l e R s m args below meth c H1 locs1 cells slots Q (F0 m (pc + 3) ls rest)) : W p l e R s m args below meth c H locs cells slots Q (F0 m pc ls (.int n :: .int dp :: .ref a :: .int sp :: .ref a0 :: rest)) :=
  va_copyi hx hb (hml.trans hsz.symm) hown (hts _ hlink) (hts _ hnat) (hts _ hstat) (hts _ hini) hG.1 hP hD hS q0 q1 1 1 ha0 ha1 rfl rfl rfl h1 h2 h3 h4 h5 (fun _ _ => rfl) hframes hlocals hdg (fun H1 locs1 g1 g2 g3 => kk _ H1 locs1 (by rw [e1, e2, e3]) g1 g2 g3)
end XF
theorem as_ext {f f' : Nat → Int32} {i x : Int32} {b : Int} (e : f' = upd f i.toNatClampNeg x) (hx : x.toInt = 0) (h : AS f 0 0 0 b) (hb : b = i.toInt := by omega) : AS f' 0 0 0 (i.toInt + 1) := fun j h1 h2 => by
  by_cases q : j = i.toInt.toNat
  · rw [up_in e j q, hx]
    omega
  · rw [up_out e j q]
    exact h j h1 (by omega)
theorem bx_all {f b : Nat → Int32} {M : Int} (h : AS b 0 0 0 3) : BX f b M := fun k hk hz => absurd (h k (by omega) (by omega)) (by omega)
theorem i32_shl7 {p : Int32} (h0 : 0 ≤ p.toInt) (h1 : p.toInt ≤ 7) : 1 ≤ ((1 : Int32) <<< (p &&& 31)).toInt ∧ ((1 : Int32) <<< (p &&& 31)).toInt ≤ 128 := by
  obtain ⟨j, hj, rfl⟩ := i32_of (n := 7) h0 h1 (by decide)
  have all : ∀ j, j ≤ 7 → 1 ≤ ((1 : Int32) <<< (nI j &&& 31)).toInt ∧ ((1 : Int32) <<< (nI j &&& 31)).toInt ≤ 128 := by decide +kernel
  exact all j hj
