def bt4 (n : Nat) : Int := (n % 2 + n / 2 % 2 + n / 4 % 2 + n / 8 % 2 : Nat)
def BC (x d : Int) : Prop := 0 ≤ x ∧ x ≤ 15 ∧ d ≤ bt4 x.toNat
theorem BC.c {x d x' d' : Int} (h : BC x d) (e1 : x' = x) (e2 : d' = d) : BC x' d' := by
  subst e1
  subst e2
  exact h
theorem bc_le {x d : Int} (h : BC x d) : 0 ≤ x ∧ x ≤ 15 := ⟨h.1, h.2.1⟩
theorem bc_tab : ∀ j, j ≤ 15 → ∀ k, k ≤ 3 → ((nI j >>> (nI k &&& 31)) &&& 1).toInt = 0 → 0 ≤ (nI j ||| ((1 : Int32) <<< (nI k &&& 31))).toInt ∧ (nI j ||| ((1 : Int32) <<< (nI k &&& 31))).toInt ≤ 15 ∧ bt4 j + 1 ≤ bt4 (nI j ||| ((1 : Int32) <<< (nI k &&& 31))).toInt.toNat := by decide +kernel
theorem bc_tab1 : ∀ k, k ≤ 3 → 0 ≤ ((1 : Int32) <<< (nI k &&& 31)).toInt ∧ ((1 : Int32) <<< (nI k &&& 31)).toInt ≤ 15 ∧ 1 ≤ bt4 ((1 : Int32) <<< (nI k &&& 31)).toInt.toNat := by decide +kernel
theorem bc_tab2 : ∀ j, j ≤ 15 → ∀ k, k ≤ 3 → 4 ≤ bt4 j → ((nI j >>> (nI k &&& 31)) &&& 1).toInt = 0 → False := by decide +kernel
theorem bc_or {x c a b s r : Int32} {d : Int} (h : BC x.toInt d) (ea : a = x >>> (c &&& 31)) (eb : b = a &&& 1) (hb : b.toInt = 0) (es : s = 1 <<< (c &&& 31)) (er : r = x ||| s) (h0 : 0 ≤ c.toInt) (h1 : c.toInt ≤ 3) : BC r.toInt (d + 1) := by
  obtain ⟨g0, g1, g2⟩ := h
  obtain ⟨j, hj, rfl⟩ := i32_of (n := 15) g0 g1 (by decide)
  obtain ⟨k, hk, rfl⟩ := i32_of (n := 3) h0 h1 (by decide)
  rw [nI_toInt (by omega)] at g2
  rw [eb, ea] at hb
  have z := bc_tab j hj k hk hb
  rw [er, es]
  exact ⟨z.1, z.2.1, by have z3 := z.2.2; have z4 : d ≤ bt4 j := g2; omega⟩
theorem bc_one {c s : Int32} (es : s = 1 <<< (c &&& 31)) (h0 : 0 ≤ c.toInt) (h1 : c.toInt ≤ 3) : BC s.toInt 1 := by
  obtain ⟨k, hk, rfl⟩ := i32_of (n := 3) h0 h1 (by decide)
  rw [es]
  exact bc_tab1 k hk
theorem bc_full {x c a b : Int32} (h : BC x.toInt 4) (ea : a = x >>> (c &&& 31)) (eb : b = a &&& 1) (hb : b.toInt = 0) (h0 : 0 ≤ c.toInt) (h1 : c.toInt ≤ 3) : (1 : Int) = 2 := by
  obtain ⟨g0, g1, g2⟩ := h
  obtain ⟨j, hj, rfl⟩ := i32_of (n := 15) g0 g1 (by decide)
  obtain ⟨k, hk, rfl⟩ := i32_of (n := 3) h0 h1 (by decide)
  rw [nI_toInt (by omega)] at g2
  rw [eb, ea] at hb
  exact (bc_tab2 j hj k hk g2 hb).elim
def EG (f : Nat → Int32) (n : Int) : Prop := ∃ j : Nat, (j : Int) < n ∧ 0 ≤ (f j).toInt
theorem EG.c {f : Nat → Int32} {n n' : Int} (h : EG f n) (e : n' = n) : EG f n' := by
  subst e
  exact h
def TG (f : Nat → Int32) (c a n : Int) : Prop := 0 ≤ (f a.toNat).toInt ∨ ∀ j : Nat, c < (j : Int) → (j : Int) < n → (f j).toInt < 0
theorem TG.c {f : Nat → Int32} {c a n c' a' n' : Int} (h : TG f c a n) (e1 : c' = c) (e2 : a' = a) (e3 : n' = n) : TG f c' a' n' := by
  subst e1
  subst e2
  subst e3
  exact h
theorem tg_nil {f : Nat → Int32} {c a n : Int} (h : n ≤ c + 1) : TG f c a n := Or.inr fun j h1 h2 => absurd h2 (by omega)
theorem tg_take {f : Nat → Int32} {c v n : Int} (h : PT f c v) (hv : 0 ≤ v) : TG f (c - 1) c n := Or.inl (by
  rw [show (f c.toNat).toInt = v from h]
  exact hv)
theorem tg_skip {f : Nat → Int32} {c a n v : Int} (h : TG f c a n) (hp : PT f c v) (hv : v < 0) : TG f (c - 1) a n := by
  rcases h with h | h
  · exact Or.inl h
  · refine Or.inr fun j h1 h2 => ?_
    by_cases q : (j : Int) = c
    · have e : j = c.toNat := by omega
      rw [e, show (f c.toNat).toInt = v from hp]
      exact hv
    · exact h j (by omega) h2
theorem tg_end {f : Nat → Int32} {c a n : Int} (h : TG f c a n) (he : EG f n) (hc : c < 0) : ∃ y : Int32, PT f a y.toInt ∧ 0 ≤ y.toInt := by
  rcases h with h | h
  · exact ⟨_, rfl, h⟩
  · obtain ⟨j, h1, h2⟩ := he
    have z := h j (by omega) h1
    omega
def GV (f : Nat → Int32) (c g : Int) : Prop := 1 ≤ g → EG f c
theorem GV.c {f : Nat → Int32} {c g c' g' : Int} (h : GV f c g) (e1 : c' = c) (e2 : g' = g) : GV f c' g' := by
  subst e1
  subst e2
  exact h
theorem gv_nil {f : Nat → Int32} {c g : Int} (h : g ≤ 0) : GV f c g := fun h1 => absurd h1 (by omega)
def KP (f f' : Nat → Int32) (c : Int) : Prop := ∀ j : Nat, (j : Int) < c → f' j = f j
theorem KP.c {f f' : Nat → Int32} {c c' : Int} (h : KP f f' c) (e : c' = c) : KP f f' c' := by
  subst e
  exact h
theorem kp_rf {f : Nat → Int32} {c : Int} : KP f f c := fun _ _ => rfl
theorem kp_st {f f' : Nat → Int32} {i x : Int32} {c : Int} (e : f' = upd f i.toNatClampNeg x) (h : i.toInt = c) : KP f f' c := fun j hj => by
  rw [e, pk_un (by rw [tnc]; omega)]
theorem kp_tr {f g h : Nat → Int32} {a b c : Int} (h1 : KP f g a) (h2 : KP g h b) (ha : c ≤ a) (hb : c ≤ b) : KP f h c := fun j hj => (h2 j (by omega)).trans (h1 j (by omega))
theorem eg_of {f : Nat → Int32} {c g n : Int} (h : GV f c g) (hg : 1 ≤ g) (hc : c ≤ n) : EG f n := by
  obtain ⟨j, h1, h2⟩ := h hg
  exact ⟨j, by omega, h2⟩
theorem gv_keep {f f' : Nat → Int32} {c c' g : Int} (h : GV f c g) (k : KP f f' c) (hc : c ≤ c') : GV f' c' g := fun hg => by
  obtain ⟨j, h1, h2⟩ := h hg
  exact ⟨j, by omega, by rw [k j h1]; exact h2⟩
theorem gv_new {f f' : Nat → Int32} {i x : Int32} {c g : Int} (e : f' = upd f i.toNatClampNeg x) (h : i.toInt + 1 = c) (h0 : 0 ≤ i.toInt) (hx : 0 ≤ x.toInt) : GV f' c g := fun _ => ⟨i.toNatClampNeg, by rw [tnc]; omega, by rw [e, pk_us]; exact hx⟩
