def PT (f : Nat → Int32) (i v : Int) : Prop := (f i.toNat).toInt = v
def AS (f : Nat → Int32) (lo hi a b : Int) : Prop := ∀ j : Nat, a ≤ (j : Int) → (j : Int) < b → lo ≤ (f j).toInt ∧ (f j).toInt ≤ hi
theorem PT.c {f : Nat → Int32} {i v i' v' : Int} (h : PT f i v) (e1 : i' = i) (e2 : v' = v) : PT f i' v' := by
  subst e1
  subst e2
  exact h
theorem AS.c {f : Nat → Int32} {lo hi a b lo' hi' a' b' : Int} (h : AS f lo hi a b) (e1 : lo' = lo) (e2 : hi' = hi) (e3 : a' = a) (e4 : b' = b) : AS f lo' hi' a' b' := by
  subst e1
  subst e2
  subst e3
  subst e4
  exact h
theorem AS.mono {f : Nat → Int32} {lo hi a b lo' hi' a' b' : Int} (h : AS f lo hi a b) (e1 : lo' ≤ lo) (e2 : hi ≤ hi') (e3 : a ≤ a') (e4 : b' ≤ b) : AS f lo' hi' a' b' := fun j h1 h2 => by
  have z := h j (by omega) (by omega)
  omega
theorem AS.nil {f : Nat → Int32} {lo hi a b : Int} (h : b ≤ a) : AS f lo hi a b := fun j h1 h2 => absurd h2 (by omega)
theorem tnc (i : Int32) : i.toNatClampNeg = i.toInt.toNat := rfl
theorem rd_ar {f : Nat → Int32} {lo hi b : Int} {i v : Int32} (h : AR f lo hi b) (e : v = f i.toNatClampNeg) (h0 : 0 ≤ i.toInt) (h1 : i.toInt < b) : lo ≤ v.toInt ∧ v.toInt ≤ hi := by
  rw [e]
  exact h.at h0 h1
theorem rd_as {f : Nat → Int32} {lo hi a b : Int} {i v : Int32} (h : AS f lo hi a b) (e : v = f i.toNatClampNeg) (h0 : 0 ≤ i.toInt) (h2 : a ≤ i.toInt) (h1 : i.toInt < b) : lo ≤ v.toInt ∧ v.toInt ≤ hi := by
  rw [e, tnc]
  exact h _ (by omega) (by omega)
theorem rd_pt {f : Nat → Int32} {j w : Int} {i v : Int32} (h : PT f j w) (e : v = f i.toNatClampNeg) (h0 : 0 ≤ i.toInt) (h1 : j = i.toInt) : v.toInt = w := by
  subst h1
  rw [e, tnc]
  exact h
theorem mk_pt {f : Nat → Int32} {i v : Int32} (e : v = f i.toNatClampNeg) : PT f i.toInt v.toInt := by
  rw [e]
  exact rfl
theorem mk_ptc {f : Nat → Int32} {i v : Int32} {k : Int} (e : v = f i.toNatClampNeg) (h : i.toInt = k) : PT f k v.toInt := by
  subst h
  rw [e]
  exact rfl
theorem st_ar {f f' : Nat → Int32} {i x : Int32} {lo hi b : Int} (e : f' = upd f i.toNatClampNeg x) (h0 : 0 ≤ i.toInt) (h : AR f lo hi b) (hr : i.toInt < b → lo ≤ x.toInt ∧ x.toInt ≤ hi) : AR f' lo hi b := by
  rw [e]
  exact h.upd (fun hk => hr (by rw [tnc] at hk; omega))
theorem st_ar2 {f f' : Nat → Int32} {i x : Int32} {lo hi b : Int} (e : f' = upd f i.toNatClampNeg x) (h0 : 0 ≤ i.toInt) (h : AR f lo hi b) (h1 : i.toInt ≤ b) (hr : lo ≤ x.toInt ∧ x.toInt ≤ hi) : AR f' lo hi (i.toInt + 1) := by
  rw [e]
  have y := ar_ext h (k := i.toNatClampNeg) (x := x) (by rw [tnc]; omega) hr
  have z2 : ((i.toNatClampNeg : Nat) : Int) = i.toInt := by
    rw [tnc]
    omega
  rw [z2] at y
  exact y
theorem st_as {f f' : Nat → Int32} {i x : Int32} {lo hi a b : Int} (e : f' = upd f i.toNatClampNeg x) (h0 : 0 ≤ i.toInt) (h : AS f lo hi a b) (hr : a ≤ i.toInt → i.toInt < b → lo ≤ x.toInt ∧ x.toInt ≤ hi) : AS f' lo hi a b := fun j h1 h2 => by
  rw [e]
  by_cases q : j = i.toNatClampNeg
  · rw [q, pk_us]
    rw [q, tnc] at h1 h2
    exact hr (by omega) (by omega)
  · rw [pk_un q]
    exact h j h1 h2
theorem st_pt {f f' : Nat → Int32} {i x : Int32} {j w : Int} (e : f' = upd f i.toNatClampNeg x) (h0 : 0 ≤ i.toInt) (h : PT f j w) (h1 : j ≠ i.toInt) (h2 : 0 ≤ j) : PT f' j w := by
  show (f' j.toNat).toInt = w
  rw [e, pk_un (by rw [tnc]; omega)]
  exact h
theorem st_ptn {f f' : Nat → Int32} {i x : Int32} {k w : Int} (e : f' = upd f i.toNatClampNeg x) (h0 : 0 ≤ i.toInt) (hi : i.toInt = k) (hw : x.toInt = w) : PT f' k w := by
  show (f' k.toNat).toInt = w
  rw [e, ← hi, ← tnc, pk_us]
  exact hw
theorem pt_ar {f : Nat → Int32} {i v lo hi b : Int} (h : PT f i v) (ha : AR f lo hi b) (h0 : 0 ≤ i) (h1 : i < b) : lo ≤ v ∧ v ≤ hi := by
  have z := ha i.toNat (by omega)
  rw [show (f i.toNat).toInt = v from h] at z
  exact z
theorem pt_as {f : Nat → Int32} {i v lo hi a b : Int} (h : PT f i v) (ha : AS f lo hi a b) (h0 : 0 ≤ i) (h1 : a ≤ i) (h2 : i < b) : lo ≤ v ∧ v ≤ hi := by
  have z := ha i.toNat (by omega) (by omega)
  rw [show (f i.toNat).toInt = v from h] at z
  exact z
theorem lc_ne {x y : Int64} {v : Int32} (e : v = lg_cmp x y) (h : v.toInt ≠ 0) : x ≠ y := fun q => h (by
  rw [e, q]
  unfold lg_cmp
  rw [if_neg (Int64.lt_irrefl), if_pos rfl]
  decide)
theorem lc_eq {x y : Int64} {v : Int32} (e : v = lg_cmp x y) (h : v.toInt = 0) : x = y := by
  unfold lg_cmp at e
  by_cases c1 : x > y
  · rw [if_pos c1] at e
    rw [e] at h
    exact absurd h (by decide)
  · rw [if_neg c1] at e
    by_cases c2 : x = y
    · exact c2
    · rw [if_neg c2] at e
      rw [e] at h
      exact absurd h (by decide)
def NF (f : Nat → Int64) (k : Int) (w : Int64) (n : Int) : Prop := ∀ j : Nat, (j : Int) < n → ¬ (k = 3 ∧ f j = w)
def FN (f : Nat → Int64) (k : Int) (w : Int64) (n r : Int) : Prop := (r < 0 → NF f k w n) ∧ (0 ≤ r → r < n ∧ k = 3 ∧ f r.toNat = w)
theorem NF.c {f : Nat → Int64} {k n k' n' : Int} {w : Int64} (h : NF f k w n) (e1 : k' = k) (e2 : n' = n) : NF f k' w n' := by
  subst e1
  subst e2
  exact h
theorem FN.c {f : Nat → Int64} {k n r k' n' r' : Int} {w : Int64} (h : FN f k w n r) (e1 : k' = k) (e2 : n' = n) (e3 : r' = r) : FN f k' w n' r' := by
  subst e1
  subst e2
  subst e3
  exact h
theorem nf_nil {f : Nat → Int64} {k n : Int} {w : Int64} (h : n ≤ 0) : NF f k w n := fun j hj => absurd hj (by omega)
theorem nf_kind {f : Nat → Int64} {k n : Int} {w : Int64} (h : NF f k w n) (hk : k ≠ 3) : NF f k w (n + 1) := fun j _ hz => hk hz.1
theorem nf_ne {f : Nat → Int64} {k : Int} {w x : Int64} {i v : Int32} (h : NF f k w i.toInt) (e : v = lg_cmp x w) (ex : x = f i.toNatClampNeg) (h0 : 0 ≤ i.toInt) (hv : v.toInt ≠ 0) : NF f k w (i.toInt + 1) := fun j hj hz => by
  by_cases q : j = i.toNatClampNeg
  · rw [q] at hz
    exact lc_ne e hv (ex.trans hz.2)
  · rw [tnc] at q
    exact h j (by omega) hz
theorem fn_hit {f : Nat → Int64} {k n : Int} {w x : Int64} {i v : Int32} (e : v = lg_cmp x w) (ex : x = f i.toNatClampNeg) (h0 : 0 ≤ i.toInt) (hn : i.toInt < n) (hk : k = 3) (hv : v.toInt = 0) : FN f k w n i.toInt :=
  ⟨fun h => absurd h (by omega), fun _ => ⟨hn, hk, by rw [← tnc, ← ex]; exact lc_eq e hv⟩⟩
theorem fn_miss {f : Nat → Int64} {k n i : Int} {w : Int64} (h : NF f k w i) (hn : n ≤ i) : FN f k w n (-1) :=
  ⟨fun _ j hj => h j (by omega), fun h => absurd h (by omega)⟩
theorem fn_two {f : Nat → Int64} {k n a b : Int} {w : Int64} (ha : FN f k w n a) (hb : FN f k w n b) (h : 0 ≤ b) : 0 ≤ a := by
  by_cases q : 0 ≤ a
  · exact q
  · obtain ⟨h1, h2⟩ := hb.2 h
    exact absurd h2 (ha.1 (by omega) b.toNat (by omega))
section XE
variable {p : Program} {l : Launch} {e : Env} {R : Room} {s : State} {m : MethodId} {args : Array Value} {below : List Frame} {meth : Method} {c : Code} {H : Heap} {locs : List Loc} {cells slots : Nat} {Q : State → Prop}
variable {cc : ByteArray} {pc : Nat} {ls : Array Slot} {rest : List Value} {D : va_G} {cB cI cJ cZ : ClassId} {A : Nat → Prop} {a : Nat} {ws : va_W} {H0 : Heap}
theorem xa_ildE (hx : p.tables.exec = Jvm.exec) (hb : c.code = cc) (hG : GE D cB cI cJ cZ s) (hP : va_P D vwCl ws H) (q0 : Nat) {n : Nat} {f : Nat → Int32} (ha : ws[q0]? = some (a, .inl (cI, n, .inl f))) {i : Int32} (hin : vp_in i n) (hdg : decode cc pc = .ok (.iaload, 1))
    (kk : ∀ v : Int32, v = f i.toNatClampNeg → W p l e R s m args below meth c H locs cells slots Q (F0 m (pc + 1) ls (.int v :: rest))) : W p l e R s m args below meth c H locs cells slots Q (F0 m pc ls (.int i :: .ref a :: rest)) :=
  va_iald hx hb hG.1 hP q0 1 ha rfl hin hdg (kk _ rfl)
theorem xa_zldE (hx : p.tables.exec = Jvm.exec) (hb : c.code = cc) (hG : GE D cB cI cJ cZ s) (hP : va_P D vwCl ws H) (q0 : Nat) {n : Nat} {f : Nat → Int32} (ha : ws[q0]? = some (a, .inl (cZ, n, .inl f))) {i : Int32} (hin : vp_in i n) (hdg : decode cc pc = .ok (.baload, 1))
    (kk : ∀ v : Int32, v = f i.toNatClampNeg → W p l e R s m args below meth c H locs cells slots Q (F0 m (pc + 1) ls (.int v :: rest))) : W p l e R s m args below meth c H locs cells slots Q (F0 m pc ls (.int i :: .ref a :: rest)) :=
  va_zald hx hb hG.1 hP q0 3 ha rfl hin hdg (kk _ rfl)
theorem xa_lldE (hx : p.tables.exec = Jvm.exec) (hb : c.code = cc) (hG : GE D cB cI cJ cZ s) (hP : va_P D vwCl ws H) (q0 : Nat) {n : Nat} {f : Nat → Int64} (ha : ws[q0]? = some (a, .inl (cJ, n, .inr (.inl f)))) {i : Int32} (hin : vp_in i n) (hdg : decode cc pc = .ok (.laload, 1))
    (kk : ∀ v : Int64, v = f i.toNatClampNeg → W p l e R s m args below meth c H locs cells slots Q (F0 m (pc + 1) ls (.long v :: rest))) : W p l e R s m args below meth c H locs cells slots Q (F0 m pc ls (.int i :: .ref a :: rest)) :=
  va_lald hx hb hG.1 hP q0 2 ha rfl hin hdg (kk _ rfl)
theorem xa_istE (hx : p.tables.exec = Jvm.exec) (hb : c.code = cc) (hG : GE D cB cI cJ cZ s) (hP : va_P D vwCl ws H) (hD : va_D A ws) (hS : va_S A H0 H locs) (q0 : Nat) {n : Nat} {f : Nat → Int32} (ha : ws[q0]? = some (a, .inl (cI, n, .inl f))) {i x : Int32} (hin : vp_in i n) (hdg : decode cc pc = .ok (.iastore, 1))
    (kk : ∀ (f' : Nat → Int32) (H1 : Heap) (locs1 : List Loc), f' = upd f i.toNatClampNeg x → va_P D vwCl (ws.set q0 (a, .inl (cI, n, .inl f'))) H1 → va_D A (ws.set q0 (a, .inl (cI, n, .inl f'))) → va_S A H0 H1 locs1 → W p l e R s m args below meth c H1 locs1 cells slots Q (F0 m (pc + 1) ls rest)) : W p l e R s m args below meth c H locs cells slots Q (F0 m pc ls (.int x :: .int i :: .ref a :: rest)) :=
  va_iast hx hb hG.1 hP hD hS q0 1 ha rfl hin hdg (fun H1 locs1 h1 h2 h3 => kk _ H1 locs1 rfl h1 h2 h3)
theorem xa_zstE (hx : p.tables.exec = Jvm.exec) (hb : c.code = cc) (hG : GE D cB cI cJ cZ s) (hP : va_P D vwCl ws H) (hD : va_D A ws) (hS : va_S A H0 H locs) (q0 : Nat) {n : Nat} {f : Nat → Int32} (ha : ws[q0]? = some (a, .inl (cZ, n, .inl f))) {i x : Int32} (hin : vp_in i n) (hn : vp_nar .boolean x = x) (hdg : decode cc pc = .ok (.bastore, 1))
    (kk : ∀ (f' : Nat → Int32) (H1 : Heap) (locs1 : List Loc), f' = upd f i.toNatClampNeg x → va_P D vwCl (ws.set q0 (a, .inl (cZ, n, .inl f'))) H1 → va_D A (ws.set q0 (a, .inl (cZ, n, .inl f'))) → va_S A H0 H1 locs1 → W p l e R s m args below meth c H1 locs1 cells slots Q (F0 m (pc + 1) ls rest)) : W p l e R s m args below meth c H locs cells slots Q (F0 m pc ls (.int x :: .int i :: .ref a :: rest)) :=
  va_zast hx hb hG.1 hP hD hS q0 3 ha rfl hin hdg (fun H1 locs1 h1 h2 h3 => kk _ H1 locs1 (by rw [hn]) h1 h2 h3)
theorem xa_lstE (hx : p.tables.exec = Jvm.exec) (hb : c.code = cc) (hG : GE D cB cI cJ cZ s) (hP : va_P D vwCl ws H) (hD : va_D A ws) (hS : va_S A H0 H locs) (q0 : Nat) {n : Nat} {f : Nat → Int64} (ha : ws[q0]? = some (a, .inl (cJ, n, .inr (.inl f)))) {i : Int32} {x : Int64} (hin : vp_in i n) (hdg : decode cc pc = .ok (.lastore, 1))
    (kk : ∀ (f' : Nat → Int64) (H1 : Heap) (locs1 : List Loc), f' = vp_updL f i.toNatClampNeg x → va_P D vwCl (ws.set q0 (a, .inl (cJ, n, .inr (.inl f')))) H1 → va_D A (ws.set q0 (a, .inl (cJ, n, .inr (.inl f')))) → va_S A H0 H1 locs1 → W p l e R s m args below meth c H1 locs1 cells slots Q (F0 m (pc + 1) ls rest)) : W p l e R s m args below meth c H locs cells slots Q (F0 m pc ls (.long x :: .int i :: .ref a :: rest)) :=
  va_last hx hb hG.1 hP hD hS q0 2 ha rfl hin hdg (fun H1 locs1 h1 h2 h3 => kk _ H1 locs1 rfl h1 h2 h3)
end XE
