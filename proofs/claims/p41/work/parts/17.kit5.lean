theorem i32_mulR {x y r : Int32} {a b c d : Int} (e : r = x * y) (h0 : 0 ≤ a) (h1 : a ≤ x.toInt) (h2 : x.toInt ≤ b) (h3 : 0 ≤ c) (h4 : c ≤ y.toInt) (h5 : y.toInt ≤ d) (h6 : b * d ≤ 2147483647) : a * c ≤ r.toInt ∧ r.toInt ≤ b * d := by
  have z1 : a * c ≤ x.toInt * y.toInt := Int.mul_le_mul h1 h4 h3 (by omega)
  have z2 : x.toInt * y.toInt ≤ b * d := Int.mul_le_mul h2 h5 (by omega) (by omega)
  have z0 : 0 ≤ a * c := Int.mul_nonneg h0 h3
  rw [e, i32_mul (by omega) (by omega)]
  exact ⟨z1, z2⟩
theorem i32_andle2 {x y r : Int32} {b : Int} (hx : x.toInt = b) (h0 : 0 ≤ b) (h : r = x &&& y) : 0 ≤ r.toInt ∧ r.toInt ≤ b := by
  have e : x &&& y = y &&& x := by
    apply Int32.toBitVec_inj.mp
    exact BitVec.and_comm _ _
  exact i32_andle hx h0 (h.trans e)
theorem i32_divR {x y r : Int32} {a b : Int} (hx : x.toInt = a) (hy : y.toInt = b) (h0 : 0 ≤ a) (h1 : 1 ≤ b) (e : r = x / y) : 0 ≤ r.toInt ∧ r.toInt ≤ a := by
  have hd : r.toInt = a / b := by
    rw [e, Int32.toInt_div, hx, hy]
    have rx := i32_rng x
    rw [Int.tdiv_eq_ediv_of_nonneg h0]
    have z1 : 0 ≤ a / b := Int.ediv_nonneg h0 (by omega)
    have z2 : a / b ≤ a := Int.ediv_le_self b h0
    exact i32_bmod _ (by omega) (by omega)
  have z1 : 0 ≤ a / b := Int.ediv_nonneg h0 (by omega)
  have z2 : a / b ≤ a := Int.ediv_le_self b h0
  omega
theorem i32_orle {x y : Int32} {a b : Int} (hx : x.toInt = a) (hy : y.toInt = b) (h0 : 0 ≤ x.toInt) (h1 : x.toInt ≤ 127) (h2 : 0 ≤ y.toInt) (h3 : y.toInt ≤ 127) : a ≤ (x ||| y).toInt ∧ b ≤ (x ||| y).toInt := by
  subst hx
  subst hy
  obtain ⟨j, hj, rfl⟩ := i32_of (n := 127) h0 h1 (by decide)
  obtain ⟨k, hk, rfl⟩ := i32_of (n := 127) h2 h3 (by decide)
  have all : ∀ j, j ≤ 127 → ∀ k, k ≤ 127 → (nI j).toInt ≤ (nI j ||| nI k).toInt ∧ (nI k).toInt ≤ (nI j ||| nI k).toInt := by decide +kernel
  exact all j hj k hk
theorem st_as2 {f f' : Nat → Int32} {i x : Int32} {lo hi a b : Int} (e : f' = upd f i.toNatClampNeg x) (h0 : 0 ≤ i.toInt) (h : AS f lo hi a b) (hib : i.toInt = b) (hr : lo ≤ x.toInt ∧ x.toInt ≤ hi) : AS f' lo hi a (b + 1) := fun j h1 h2 => by
  by_cases q : j = i.toInt.toNat
  · rw [up_in e j q]
    exact hr
  · rw [up_out e j q]
    exact h j h1 (by omega)
def GX (f : Nat → Int32) (G c : Int) : Prop := ∃ p : Nat, (p : Int) < G ∧ (f (14 + p)).toInt = c
theorem GX.c {f : Nat → Int32} {G c G' c' : Int} (h : GX f G c) (e1 : G' = G) (e2 : c' = c) : GX f G' c' := by
  subst e1
  subst e2
  exact h
theorem gx_of {f : Nat → Int32} {p G c : Int} (h : PT f (14 + p) c) (h0 : 0 ≤ p) (h1 : p < G) : GX f G c := ⟨p.toNat, by omega, by
  rw [show 14 + p.toNat = (14 + p).toNat from by omega]
  exact h⟩
def GL (f : Nat → Int32) (p G c s : Int) : Prop := 1 ≤ s ∨ ∃ q : Nat, p ≤ (q : Int) ∧ (q : Int) < G ∧ (f (14 + q)).toInt = c
theorem GL.c {f : Nat → Int32} {p G c s p' G' c' s' : Int} (h : GL f p G c s) (e1 : p' = p) (e2 : G' = G) (e3 : c' = c) (e4 : s' = s) : GL f p' G' c' s' := by
  subst e1
  subst e2
  subst e3
  subst e4
  exact h
theorem gl_yes {f : Nat → Int32} {p G c s : Int} (h : 1 ≤ s) : GL f p G c s := Or.inl h
theorem gl_start {f : Nat → Int32} {p G c s : Int} (h : GX f G c) (hp : p ≤ 0) : GL f p G c s := by
  obtain ⟨q, h1, h2⟩ := h
  exact Or.inr ⟨q, by omega, h1, h2⟩
theorem gl_no {f : Nat → Int32} {p G c s v : Int} (h : GL f p G c s) (hp : PT f (14 + p) v) (hv : v ≠ c) (h0 : 0 ≤ p) : GL f (p + 1) G c s := by
  rcases h with h | ⟨q, h1, h2, h3⟩
  · exact Or.inl h
  · refine Or.inr ⟨q, ?_, h2, h3⟩
    by_cases e : (q : Int) = p
    · exfalso
      apply hv
      rw [← h3, ← hp]
      rw [show 14 + q = (14 + p).toNat from by omega]
    · omega
theorem gl_end {f : Nat → Int32} {p G c s : Int} (h : GL f p G c s) (hp : G ≤ p) : 1 ≤ s := by
  rcases h with h | ⟨q, h1, h2, h3⟩
  · exact h
  · omega
def GR (g r : Nat → Int32) (n : Int) : Prop := ∀ j : Nat, (j : Int) < n → 0 ≤ (g (r j).toInt.toNat).toInt
theorem GR.c {g r : Nat → Int32} {n n' : Int} (h : GR g r n) (e : n' = n) : GR g r n' := by
  subst e
  exact h
theorem gr_nil {g r : Nat → Int32} {n : Int} (h : n ≤ 0) : GR g r n := fun j hj => absurd hj (by omega)
theorem gz_add {g r r' : Nat → Int32} {i x : Int32} {n v : Int} (e : r' = upd r i.toNatClampNeg x) (h : GR g r n) (hp : PT g x.toInt v) (hv : 0 ≤ v) (hi : i.toInt = n) (h0 : 0 ≤ n) : GR g r' (n + 1) := fun j hj => by
  by_cases q : j = i.toInt.toNat
  · rw [up_in e j q, show (g x.toInt.toNat).toInt = v from hp]
    exact hv
  · rw [up_out e j q]
    exact h j (by omega)
theorem gr_cp {g r r' t : Nat → Int32} {i x k : Int32} {n m : Int} (e : r' = upd r k.toNatClampNeg x) (h : GR g r n) (ht : GR g t m) (ex : x = t i.toNatClampNeg) (h0 : 0 ≤ i.toInt) (h1 : i.toInt < m) (hk : k.toInt = n) (hn : 0 ≤ n) : GR g r' (n + 1) := fun j hj => by
  by_cases q : j = k.toInt.toNat
  · rw [up_in e j q, ex, tnc]
    exact ht _ (by omega)
  · rw [up_out e j q]
    exact h j (by omega)
theorem gr_at {g r : Nat → Int32} {n j w x : Int} (h : GR g r n) (h1 : PT r j w) (h2 : PT g w x) (h0 : 0 ≤ j) (hj : j < n) : 0 ≤ x := by
  have z := h j.toNat (by omega)
  rw [show (r j.toNat).toInt = w from h1, show (g w.toNat).toInt = x from h2] at z
  exact z
def RX (f : Nat → Int32) (a M : Int) : Prop := (∀ p : Nat, (p : Int) < M → 0 ≤ (f (a.toNat + p)).toInt ∧ (f (a.toNat + p)).toInt ≤ 3) ∧ (∀ p : Nat, p < 7 → -1 ≤ (f (a.toNat + (14 + p))).toInt ∧ (f (a.toNat + (14 + p))).toInt ≤ 2) ∧ 0 ≤ (f (a.toNat + 26)).toInt ∧ (f (a.toNat + 26)).toInt ≤ 999
theorem RX.c {f : Nat → Int32} {a M a' M' : Int} (h : RX f a M) (e1 : a' = a) (e2 : M' = M) : RX f a' M' := by
  subst e1
  subst e2
  exact h
theorem rx_of {f : Nat → Int32} {M : Int} (h1 : AS f 0 3 0 M) (h2 : AS f (-1) 2 14 21) (h3 : AS f 0 999 26 27) : RX f 0 M := by
  refine ⟨fun p hp => ?_, fun p hp => ?_, ?_⟩
  · have z := h1 p (by omega) hp
    rw [show (0 : Int).toNat + p = p from by omega]
    exact z
  · have z := h2 (14 + p) (by omega) (by omega)
    rw [show (0 : Int).toNat + (14 + p) = 14 + p from by omega]
    exact z
  · exact h3 26 (by decide) (by decide)
theorem rx_as0 {f : Nat → Int32} {M : Int} (h : RX f 0 M) : AS f 0 3 0 M := fun j _ h2 => by
  have z := h.1 j h2
  rw [show (0 : Int).toNat + j = j from by omega] at z
  exact z
theorem rx_as1 {f : Nat → Int32} {M : Int} (h : RX f 0 M) : AS f (-1) 2 14 21 := fun j h1 h2 => by
  have z := h.2.1 (j - 14) (by omega)
  rw [show (0 : Int).toNat + (14 + (j - 14)) = j from by omega] at z
  exact z
theorem rx_as2 {f : Nat → Int32} {M : Int} (h : RX f 0 M) : AS f 0 999 26 27 := fun j h1 h2 => by
  have e : j = 26 := by omega
  rw [e]
  exact h.2.2
theorem rx_eq {f g : Nat → Int32} {a b M : Int} (h : RX g b M) (hM : M ≤ 7) (e : ∀ j : Nat, j < 27 → f (a.toNat + j) = g (b.toNat + j)) : RX f a M := by
  refine ⟨fun p hp => ?_, fun p hp => ?_, ?_⟩
  · rw [e p (by omega)]
    exact h.1 p hp
  · rw [e (14 + p) (by omega)]
    exact h.2.1 p hp
  · rw [e 26 (by omega)]
    exact h.2.2
def CP (g f f' : Nat → Int32) (b a k : Int) : Prop := (∀ j : Nat, (j : Int) < k → f' (a.toNat + j) = g (b.toNat + j)) ∧ ∀ j : Nat, ((j : Int) < a ∨ a + k ≤ (j : Int)) → f' j = f j
theorem CP.c {g f f' : Nat → Int32} {b a k b' a' k' : Int} (h : CP g f f' b a k) (e1 : b' = b) (e2 : a' = a) (e3 : k' = k) : CP g f f' b' a' k' := by
  subst e1
  subst e2
  subst e3
  exact h
theorem cp_nil {g f : Nat → Int32} {b a k : Int} (h : k ≤ 0) : CP g f f b a k := ⟨fun j hj => absurd hj (by omega), fun _ _ => rfl⟩
theorem cp_step {g f f' f2 : Nat → Int32} {i v q : Int32} {b a k : Int} (e : f2 = upd f' i.toNatClampNeg v) (ev : v = g q.toNatClampNeg) (h : CP g f f' b a k) (ha : 0 ≤ a) (hb : 0 ≤ b) (hk : 0 ≤ k) (hi : i.toInt = a + k) (hq : q.toInt = b + k) : CP g f f2 b a (k + 1) := by
  refine ⟨fun j hj => ?_, fun j hj => ?_⟩
  · by_cases c : (j : Int) = k
    · rw [up_in e _ (by omega), ev, tnc]
      congr 1
      omega
    · rw [up_out e _ (by omega)]
      exact h.1 j (by omega)
  · rw [up_out e _ (by omega)]
    exact h.2 j (by omega)
theorem cp_as {g f f' : Nat → Int32} {k lo hi a b : Int} (h : CP g f f' 0 0 k) (hs : AS g lo hi a b) (hb : b ≤ 27) (h0 : 0 ≤ a) (hk : 27 ≤ k) (_h : 0 ≤ k) : AS f' lo hi a b := fun j h1 h2 => by
  have z := h.1 j (by omega)
  rw [show (0 : Int).toNat + j = j from by omega] at z
  rw [z]
  exact hs j h1 h2
def LR (f : Nat → Int32) (n M : Int) : Prop := ∀ r : Int, 0 ≤ r → r < n → RX f (27 * r) M
theorem LR.c {f : Nat → Int32} {n M n' M' : Int} (h : LR f n M) (e1 : n' = n) (e2 : M' = M) : LR f n' M' := by
  subst e1
  subst e2
  exact h
theorem lr_nil {f : Nat → Int32} {n M : Int} (h : n ≤ 0) : LR f n M := fun r h0 h1 => absurd h1 (by omega)
def SH (f f' : Nat → Int32) (k : Int) : Prop := (∀ j : Nat, (j : Int) < k → f' j = f (j + 27)) ∧ ∀ j : Nat, k ≤ (j : Int) → f' j = f j
theorem SH.c {f f' : Nat → Int32} {k k' : Int} (h : SH f f' k) (e : k' = k) : SH f f' k' := by
  subst e
  exact h
theorem sh_nil {f : Nat → Int32} {k : Int} (h : k ≤ 0) : SH f f k := ⟨fun j hj => absurd hj (by omega), fun _ _ => rfl⟩
theorem sh_step {f f' f2 : Nat → Int32} {i v q : Int32} {k : Int} (e : f2 = upd f' i.toNatClampNeg v) (ev : v = f' q.toNatClampNeg) (h : SH f f' k) (h0 : 0 ≤ k) (hi : i.toInt = k) (hq : q.toInt = k + 27) : SH f f2 (k + 1) := by
  refine ⟨fun j hj => ?_, fun j hj => ?_⟩
  · by_cases c : (j : Int) = k
    · rw [up_in e _ (by omega), ev, tnc, h.2 _ (by omega)]
      congr 1
      omega
    · rw [up_out e _ (by omega)]
      exact h.1 j (by omega)
  · rw [up_out e _ (by omega)]
    exact h.2 j (by omega)
theorem lr_shift {f f' : Nat → Int32} {n k M : Int} (h : LR f n M) (hs : SH f f' k) (hn : 40 ≤ n) (hk : 1080 ≤ k) (hM : M ≤ 7) : LR f' 39 M := fun r h0 h1 => by
  refine rx_eq (h (r + 1) (by omega) (by omega)) hM (fun j hj => ?_)
  rw [hs.1 _ (by omega)]
  congr 1
  omega
theorem lr_put {g f f' : Nat → Int32} {n r a k M : Int} (h : LR f n M) (hc : CP g f f' 0 a k) (hg : RX g 0 M) (ha : a = 27 * r) (h0 : 0 ≤ r) (hn : r ≤ n) (hk : k = 27) (hM : M ≤ 7) : LR f' (r + 1) M := fun q q0 q1 => by
  subst ha
  subst hk
  by_cases c : q = r
  · subst c
    exact rx_eq hg hM (fun j hj => hc.1 j (by omega))
  · exact rx_eq (h q q0 (by omega)) hM (fun j hj => hc.2 _ (by omega))
def XC (f a f' a' : Nat → Int32) (r k : Int) : Prop := (∀ j : Nat, (j : Int) < k → f' (r.toNat + j) = a j ∧ a' j = f (r.toNat + j)) ∧ (∀ j : Nat, k ≤ (j : Int) → a' j = a j) ∧ ∀ j : Nat, ((j : Int) < r ∨ r + k ≤ (j : Int)) → f' j = f j
theorem XC.c {f a f' a' : Nat → Int32} {r k r' k' : Int} (h : XC f a f' a' r k) (e1 : r' = r) (e2 : k' = k) : XC f a f' a' r' k' := by
  subst e1
  subst e2
  exact h
theorem xc_nil {f a : Nat → Int32} {r k : Int} (h : k ≤ 0) : XC f a f a r k := ⟨fun j hj => absurd hj (by omega), fun _ _ => rfl, fun _ _ => rfl⟩
theorem xc_step {f a f' a' f2 a2 : Nat → Int32} {wi ai v u wq aq : Int32} {r k : Int} (ew : f2 = upd f' wi.toNatClampNeg u) (ea : a2 = upd a' ai.toNatClampNeg v) (ev : v = f' wq.toNatClampNeg) (eu : u = a' aq.toNatClampNeg) (h : XC f a f' a' r k)
    (h0 : 0 ≤ r ∧ 0 ≤ k) (h1 : wi.toInt = r + k) (h2 : ai.toInt = k) (h3 : wq.toInt = r + k) (h4 : aq.toInt = k) : XC f a f2 a2 r (k + 1) := by
  obtain ⟨h0a, h0b⟩ := h0
  refine ⟨fun j hj => ?_, fun j hj => ?_, fun j hj => ?_⟩
  · by_cases c : (j : Int) = k
    · refine ⟨?_, ?_⟩
      · rw [up_in ew _ (by omega), eu, tnc, h.2.1 _ (by omega)]
        congr 1
        omega
      · rw [up_in ea _ (by omega), ev, tnc, h.2.2 _ (by omega)]
        congr 1
        omega
    · rw [up_out ew _ (by omega), up_out ea _ (by omega)]
      exact h.1 j (by omega)
  · rw [up_out ea _ (by omega)]
    exact h.2.1 j (by omega)
  · rw [up_out ew _ (by omega)]
    exact h.2.2 j (by omega)
theorem xc_lr {f a f' a' : Nat → Int32} {n r q k M : Int} (hx : XC f a f' a' q k) (h : LR f n M) (ha : RX a 0 M) (hq : q = 27 * r) (h0 : 0 ≤ r) (hn : r < n) (hk : k = 27) (hM : M ≤ 7) : LR f' n M := fun p p0 p1 => by
  subst hq
  subst hk
  by_cases c : p = r
  · subst c
    refine rx_eq ha hM (fun j hj => ?_)
    rw [(hx.1 j (by omega)).1]
    congr 1
    omega
  · exact rx_eq (h p p0 p1) hM (fun j hj => hx.2.2 _ (by omega))
theorem xc_rx {f a f' a' : Nat → Int32} {n r q k M : Int} (hx : XC f a f' a' q k) (h : LR f n M) (hq : q = 27 * r) (h0 : 0 ≤ r) (hn : r < n) (hk : k = 27) (hM : M ≤ 7) : RX a' 0 M := by
  subst hq
  subst hk
  refine rx_eq (h r h0 hn) hM (fun j hj => ?_)
  rw [show (0 : Int).toNat + j = j from by omega]
  exact (hx.1 j (by omega)).2
def BR (f b : Nat → Int32) (M : Int) : Prop := ∀ k : Nat, k < 3 → (b k).toInt ≠ 0 → RX f (27 * (k : Int)) M
theorem BR.c {f b : Nat → Int32} {M M' : Int} (h : BR f b M) (e : M' = M) : BR f b M' := by
  subst e
  exact h
theorem br_all {f b : Nat → Int32} {M : Int} (h : AS b 0 0 0 3) : BR f b M := fun k hk hz => absurd (h k (by omega) (by omega)) (by omega)
theorem br_put {g f f' b b' : Nat → Int32} {i x : Int32} {a k M : Int} (h : BR f b M) (hc : CP g f f' 0 a k) (hg : RX g 0 M) (e : b' = upd b i.toNatClampNeg x) (h0 : 0 ≤ i.toInt) (ha : a = 27 * i.toInt) (hk : k = 27) (hM : M ≤ 7) : BR f' b' M := fun q hq hz => by
  subst ha
  subst hk
  by_cases c : q = i.toInt.toNat
  · refine rx_eq hg hM (fun j hj => ?_)
    rw [show (27 * (q : Int)).toNat = (27 * i.toInt).toNat from by omega]
    exact hc.1 j (by omega)
  · rw [up_out e q c] at hz
    exact rx_eq (h q hq hz) hM (fun j hj => hc.2 _ (by omega))
theorem br_get {f b a a' : Nat → Int32} {i v : Int32} {q k M : Int} (h : BR f b M) (hc : CP f a a' q 0 k) (e : v = b i.toNatClampNeg) (hv : v.toInt ≠ 0) (h0 : 0 ≤ i.toInt) (h2 : i.toInt ≤ 2) (hq : q = 27 * i.toInt) (hk : k = 27) (hM : M ≤ 7) : RX a' 0 M := by
  subst hq
  subst hk
  rw [e, tnc] at hv
  refine rx_eq (h i.toInt.toNat (by omega) hv) hM (fun j hj => ?_)
  rw [hc.1 j (by omega)]
  congr 1
  omega
def AM (f : Nat → Int32) (p M : Int) : Prop := ∀ j : Nat, (j : Int) < p → (j : Int) < M → 0 ≤ (f j).toInt ∧ (f j).toInt ≤ 3
theorem AM.c {f : Nat → Int32} {p M p' M' : Int} (h : AM f p M) (e1 : p' = p) (e2 : M' = M) : AM f p' M' := by
  subst e1
  subst e2
  exact h
theorem am_nil {f : Nat → Int32} {p M : Int} (h : p ≤ 0) : AM f p M := fun j hj => absurd hj (by omega)
theorem am_out {f f' : Nat → Int32} {i x : Int32} {p M : Int} (e : f' = upd f i.toNatClampNeg x) (h0 : 0 ≤ i.toInt) (h : AM f p M) (hi : i.toInt = p) (hM : M ≤ p) : AM f' (p + 1) M := fun j h1 h2 => by
  rw [up_out e j (by omega)]
  exact h j (by omega) h2
theorem am_in {f f' : Nat → Int32} {i x : Int32} {p M : Int} (e : f' = upd f i.toNatClampNeg x) (h0 : 0 ≤ i.toInt) (h : AM f p M) (hi : i.toInt = p) (hx : 0 ≤ x.toInt) (hx3 : x.toInt ≤ 3) : AM f' (p + 1) M := fun j h1 h2 => by
  by_cases q : j = i.toInt.toNat
  · rw [up_in e j q]
    exact ⟨hx, hx3⟩
  · rw [up_out e j q]
    exact h j (by omega) h2
theorem am_keep {f f' : Nat → Int32} {i x : Int32} {p M : Int} (e : f' = upd f i.toNatClampNeg x) (h0 : 0 ≤ i.toInt) (h : AM f p M) (hi : p ≤ i.toInt) : AM f' p M := fun j h1 h2 => by
  rw [up_out e j (by omega)]
  exact h j h1 h2
theorem am_as {f : Nat → Int32} {p M : Int} (h : AM f p M) (hp : M ≤ p) : AS f 0 3 0 M := fun j _ h2 => h j (by omega) h2
