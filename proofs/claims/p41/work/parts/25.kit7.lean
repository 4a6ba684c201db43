abbrev UP (f f' : Nat → Int32) (i x : Int32) : Prop := f' = upd f i.toNatClampNeg x
abbrev EQ (a b : Int64) : Prop := a = b
def SG (f : Nat → Int32) (k v : Int) : Prop := (f k.toNat &&& 255).toInt = v
theorem SG.c {f : Nat → Int32} {k v k' v' : Int} (h : SG f k v) (e1 : k' = k) (e2 : v' = v) : SG f k' v' := by
  subst e1
  subst e2
  exact h
theorem sg_of {f : Nat → Int32} {k x r : Int32} (ex : x = f k.toNatClampNeg) (er : r = x &&& 255) : SG f k.toInt r.toInt := by
  rw [er, ex]
  exact rfl
def TS (f : Nat → Int32) (a t : Int) : Prop := t = 5 → (f a.toNat &&& 255).toInt ≤ 62
theorem TS.c {f : Nat → Int32} {a t a' t' : Int} (h : TS f a t) (e1 : a' = a) (e2 : t' = t) : TS f a' t' := by
  subst e1
  subst e2
  exact h
theorem ts_no {f : Nat → Int32} {a t : Int} (h : t ≤ 4) : TS f a t := fun e => absurd e (by omega)
theorem ts_yes {f : Nat → Int32} {a t v : Int} (h : SG f a v) (hv : v ≤ 62) : TS f a t := fun _ => by
  rw [show (f a.toNat &&& 255).toInt = v from h]
  exact hv
theorem ts_use {f : Nat → Int32} {a t v : Int} (h : TS f a t) (hs : SG f a v) (ht : t = 5) : v ≤ 62 := by
  have z := h ht
  rw [show (f a.toNat &&& 255).toInt = v from hs] at z
  exact z
def ND (c : Int) : Prop := ¬ (48 ≤ c ∧ c ≤ 57)
theorem ND.c {c c' : Int} (h : ND c) (e : c' = c) : ND c' := by
  subst e
  exact h
theorem nd_of {c : Int} (h : ¬ (48 ≤ c ∧ c ≤ 57)) : ND c := h
theorem sg_ne {f : Nat → Int32} {a e c v : Int} (h1 : SG f a c) (h2 : SG f e v) (hn : ND v) (h3 : 48 ≤ c) (h4 : c ≤ 57) : e ≠ a := fun q => by
  subst q
  have z : c = v := (show _ = c from h1).symm.trans h2
  rw [z] at h3 h4
  exact hn ⟨h3, h4⟩
theorem lc_nq {x w y : Int64} {v : Int32} (e : v = lg_cmp x y) (h : EQ x w) (hne : w ≠ y) : v.toInt ≠ 0 := fun z => hne (h.symm.trans (lc_eq e z))
def FU (n : Int64) (c k p r : Int) : Prop := r = 0 → (n = 427071730292 → c ≤ 3) ∧ (n = 1668444016 → k ≤ 2) ∧ (n = 482854658917 → p ≤ 6)
theorem FU.c {n : Int64} {c k p r c' k' p' r' : Int} (h : FU n c k p r) (e1 : c' = c) (e2 : k' = k) (e3 : p' = p) (e4 : r' = r) : FU n c' k' p' r' := by
  subst e1
  subst e2
  subst e3
  subst e4
  exact h
theorem fu_one {n : Int64} {c k p r : Int} (h : 1 ≤ r) : FU n c k p r := fun e => absurd e (by omega)
theorem fu_court {n : Int64} {c k p r : Int} (e : EQ n 427071730292) (h : c ≤ 3) : FU n c k p r := fun _ => ⟨fun _ => h, fun q => absurd (e.symm.trans q) (by decide +kernel), fun q => absurd (e.symm.trans q) (by decide +kernel)⟩
theorem fu_crop {n : Int64} {c k p r : Int} (e : EQ n 1668444016) (h : k ≤ 2) : FU n c k p r := fun _ => ⟨fun q => absurd (e.symm.trans q) (by decide +kernel), fun _ => h, fun q => absurd (e.symm.trans q) (by decide +kernel)⟩
theorem fu_place {n : Int64} {c k p r : Int} (e : EQ n 482854658917) (h : p ≤ 6) : FU n c k p r := fun _ => ⟨fun q => absurd (e.symm.trans q) (by decide +kernel), fun q => absurd (e.symm.trans q) (by decide +kernel), fun _ => h⟩
theorem fu_other {n w : Int64} {c k p r : Int} (e : EQ n w) (h1 : w ≠ 427071730292) (h2 : w ≠ 1668444016) (h3 : w ≠ 482854658917) : FU n c k p r := fun _ => ⟨fun q => absurd (e.symm.trans q) h1, fun q => absurd (e.symm.trans q) h2, fun q => absurd (e.symm.trans q) h3⟩
theorem fu_c {n : Int64} {c k p r : Int} (h : FU n c k p r) (e : EQ n 427071730292) (hr : r = 0) : c ≤ 3 := (h hr).1 e
theorem fu_k {n : Int64} {c k p r : Int} (h : FU n c k p r) (e : EQ n 1668444016) (hr : r = 0) : k ≤ 2 := (h hr).2.1 e
theorem fu_p {n : Int64} {c k p r : Int} (h : FU n c k p r) (e : EQ n 482854658917) (hr : r = 0) : p ≤ 6 := (h hr).2.2 e
def WH (c : Int) : Prop := c = 0 ∨ (98 ≤ c ∧ c ≤ 121)
theorem WH.c {c c' : Int} (h : WH c) (e : c' = c) : WH c' := by
  subst e
  exact h
theorem wh_of {c : Int} (h : c = 0 ∨ (98 ≤ c ∧ c ≤ 121)) : WH c := h
theorem wh_use {c : Int} (h : WH c) (hc : c ≠ 0) : 98 ≤ c ∧ c ≤ 121 := h.resolve_left hc
def RK (r t : Int) : Prop := (0 ≤ r ∧ r ≤ 2) ∨ (4 ≤ r ∧ r ≤ 6 ∧ t = 5)
theorem RK.c {r t r' t' : Int} (h : RK r t) (e1 : r' = r) (e2 : t' = t) : RK r' t' := by
  subst e1
  subst e2
  exact h
theorem rk_of {r t : Int} (h : (0 ≤ r ∧ r ≤ 2) ∨ (4 ≤ r ∧ r ≤ 6 ∧ t = 5)) : RK r t := h
theorem rk_tok {r t : Int} (h : RK r t) (h1 : r ≠ 1) (h2 : r ≠ 2) (h3 : 0 < r) : t = 5 := by
  rcases h with h | h
  · omega
  · exact h.2.2
theorem rk_val {r t : Int} (h : RK r t) : 0 ≤ r ∧ r ≤ 6 ∧ r ≠ 3 := by
  rcases h with h | h <;> omega
theorem st_ruc {f f' rf rt has : Nat → Int32} {i x : Int32} {b r lim fk : Int} (e : f' = upd f i.toNatClampNeg x) (h : RU f rf rt has b r lim fk) (h0 : 0 ≤ i.toInt) (hd : i.toInt < 560 * b ∨ lim ≤ i.toInt) : RU f' rf rt has b r lim fk := fun hf hh => by
  obtain ⟨dp, g0, g1, g2, g3, g4⟩ := h hf hh
  refine ⟨dp, g0, g1, g2, g3, fun k q1 q2 => ?_⟩
  rw [up_out e k (by omega)]
  exact g4 k q1 q2
theorem st_ruf {f rf rf' rt has : Nat → Int32} {i x : Int32} {b r lim fk : Int} (e : rf' = upd rf i.toNatClampNeg x) (h : RU f rf rt has b r lim fk) (h0 : 0 ≤ i.toInt) (hd : i.toInt ≠ 2 * b + r) (hb : 0 ≤ 2 * b + r) : RU f rf' rt has b r lim fk := fun hf hh => by
  have z : rf' (2 * b + r).toNat = rf (2 * b + r).toNat := up_out e _ (by omega)
  show RQ f rf' rt (2 * b + r) (560 * b) lim
  unfold RQ
  rw [z]
  exact h hf hh
theorem st_rut {f rf rt rt' has : Nat → Int32} {i x : Int32} {b r lim fk : Int} (e : rt' = upd rt i.toNatClampNeg x) (h : RU f rf rt has b r lim fk) (h0 : 0 ≤ i.toInt) (hd : i.toInt ≠ 2 * b + r) (hb : 0 ≤ 2 * b + r) : RU f rf rt' has b r lim fk := fun hf hh => by
  have z : rt' (2 * b + r).toNat = rt (2 * b + r).toNat := up_out e _ (by omega)
  show RQ f rf rt' (2 * b + r) (560 * b) lim
  unfold RQ
  rw [z]
  exact h hf hh
theorem st_ruh {f rf rt has has' : Nat → Int32} {i x : Int32} {b r lim fk : Int} (e : has' = upd has i.toNatClampNeg x) (h : RU f rf rt has b r lim fk) (h0 : 0 ≤ i.toInt) (hd : i.toInt ≠ b) (hb : 0 ≤ b) : RU f rf rt has' b r lim fk := fun hf hh => h hf (by
  rw [up_out e b.toNat (by omega)] at hh
  exact hh)
theorem ru_bad {f rf rt has : Nat → Int32} {b r lim fk : Int} (h : 1 ≤ fk) : RU f rf rt has b r lim fk := fun hf => absurd hf (by omega)
theorem ru_mono {f rf rt has : Nat → Int32} {b r lim fk lim' fk' : Int} (h : RU f rf rt has b r lim fk) (h1 : lim ≤ lim') (h2 : 0 ≤ fk) (h3 : fk ≤ fk') : RU f rf rt has b r lim' fk' := fun hf hh => by
  obtain ⟨dp, g0, g1, g2, g3, g4⟩ := h (by omega) hh
  exact ⟨dp, g0, g1, g2, by omega, g4⟩
theorem ru_zero {f rf rt has : Nat → Int32} {b r lim fk : Int} (h : PT has b 0) : RU f rf rt has b r lim fk := fun _ hh => absurd h hh
def FR (f f' : Nat → Int32) (a b : Int) : Prop := ∀ j : Nat, ((j : Int) < a ∨ b ≤ (j : Int)) → f' j = f j
theorem FR.c {f f' : Nat → Int32} {a b a' b' : Int} (h : FR f f' a b) (e1 : a' = a) (e2 : b' = b) : FR f f' a' b' := by
  subst e1
  subst e2
  exact h
theorem fr_rf {f : Nat → Int32} {a b : Int} : FR f f a b := fun _ _ => rfl
theorem fr_one {f f' : Nat → Int32} {i x : Int32} (e : f' = upd f i.toNatClampNeg x) (h0 : 0 ≤ i.toInt) : FR f f' i.toInt (i.toInt + 1) := fun j hj => up_out e j (by omega)
theorem fr_add {f f' f2 : Nat → Int32} {i x : Int32} {a b : Int} (e : f2 = upd f' i.toNatClampNeg x) (h : FR f f' a b) (hi : i.toInt = b ∧ 0 ≤ b) (hab : a ≤ b) : FR f f2 a (b + 1) := fun j hj => by
  rw [up_out e j (by omega)]
  exact h j (by omega)
theorem fr_tr {f g h : Nat → Int32} {a b c d : Int} (h1 : FR f g a b) (h2 : FR g h c d) (e : c = b) (hab : a ≤ b) (hbd : b ≤ d) : FR f h a d := fun j hj => (h2 j (by omega)).trans (h1 j (by omega))
theorem ru_frame {f f' rf rt has : Nat → Int32} {b r lim fk a c : Int} (h : RU f rf rt has b r lim fk) (hf : FR f f' a c) (hd : c ≤ 560 * b ∨ lim ≤ a) : RU f' rf rt has b r lim fk := fun h1 h2 => by
  obtain ⟨dp, g0, g1, g2, g3, g4⟩ := h h1 h2
  refine ⟨dp, g0, g1, g2, g3, fun k q1 q2 => ?_⟩
  rw [hf k (by omega)]
  exact g4 k q1 q2
def RP (f : Nat → Int32) (a b d fk n : Int) : Prop := fk = 0 → ∃ dp : Nat → Int, dp a.toNat = 0 ∧ (1 ≤ n → dp b.toNat = d) ∧ ∀ k : Nat, a ≤ (k : Int) → (k : Int) < b → LG (f k).toInt (dp k) (dp (k + 1))
theorem RP.c {f : Nat → Int32} {a b d fk n a' b' d' fk' n' : Int} (h : RP f a b d fk n) (e1 : a' = a) (e2 : b' = b) (e3 : d' = d) (e4 : fk' = fk) (e5 : n' = n) : RP f a' b' d' fk' n' := by
  subst e1
  subst e2
  subst e3
  subst e4
  subst e5
  exact h
theorem rp_bad {f : Nat → Int32} {a b d fk n : Int} (h : 1 ≤ fk) : RP f a b d fk n := fun e => absurd e (by omega)
theorem rp_nil {f : Nat → Int32} {a b d fk n : Int} (h : b = a) (hd : d = 0) : RP f a b d fk n := fun _ => ⟨fun _ => 0, rfl, fun _ => hd.symm, fun k q1 q2 => absurd q2 (by omega)⟩
theorem rp_end {f : Nat → Int32} {a b d fk n d' fk' n' : Int} (h : RP f a b d fk n) (h1 : 0 ≤ fk) (h2 : fk ≤ fk') (h3 : n' ≤ 0) : RP f a b d' fk' n' := fun e => by
  obtain ⟨dp, g0, g1, g2⟩ := h (by omega)
  exact ⟨dp, g0, fun q => absurd q (by omega), g2⟩
theorem rp_weak {f : Nat → Int32} {a b d fk n fk' n' : Int} (h : RP f a b d fk n) (h1 : 0 ≤ fk) (h2 : fk ≤ fk') (h3 : 1 ≤ n) : RP f a b d fk' n' := fun e => by
  obtain ⟨dp, g0, g1, g2⟩ := h (by omega)
  exact ⟨dp, g0, fun _ => g1 h3, g2⟩
theorem rp_add {f f' : Nat → Int32} {i x : Int32} {a b d e fk n : Int} (ef : f' = upd f i.toNatClampNeg x) (h : RP f a b d fk n) (hl : LG x.toInt d e) (h0 : 0 ≤ a) (hab : a ≤ b) (hi : i.toInt = b) (hn : 1 ≤ n) : RP f' a (b + 1) e fk n := fun hf => by
  obtain ⟨dp, g0, g1, g2⟩ := h hf
  refine ⟨fun k => if (k : Int) = b + 1 then e else dp k, ?_, ?_, ?_⟩
  · show (if ((a.toNat : Nat) : Int) = b + 1 then e else dp a.toNat) = 0
    rw [if_neg (by omega)]
    exact g0
  · intro _
    show (if (((b + 1).toNat : Nat) : Int) = b + 1 then e else dp (b + 1).toNat) = e
    rw [if_pos (by omega)]
  · intro k q1 q2
    show LG (f' k).toInt (if (k : Int) = b + 1 then e else dp k) (if ((k + 1 : Nat) : Int) = b + 1 then e else dp (k + 1))
    rw [if_neg (by omega)]
    by_cases c : (k : Int) = b
    · have ek : k = b.toNat := by omega
      rw [if_pos (by omega), up_in ef k (by omega), ek, g1 hn]
      exact hl
    · rw [if_neg (by omega), up_out ef k (by omega)]
      exact g2 k q1 (by omega)
theorem lg_l {c d e : Int} (h1 : 97 ≤ c) (h2 : c ≤ 122) (h3 : 0 ≤ d) (h4 : d ≤ 59) (h5 : e = d + 1) : LG c d e := Or.inr (Or.inl ⟨by omega, h1, h2, h3, h4, h5⟩)
theorem lg_n {c d e : Int} (h1 : c = 126) (h3 : 1 ≤ d) (h4 : d ≤ 60) (h5 : e = d) : LG c d e := Or.inl ⟨h1, h3, h4, h5⟩
theorem lg_o {c d e : Int} (h1 : c ≠ 126) (h2 : NL c) (h3 : 2 ≤ d) (h4 : d ≤ 60) (h5 : e = d - 1) : LG c d e := Or.inr (Or.inr ⟨h1, h2, h3, h4, h5⟩)
theorem ru_new {code rf rt has : Nat → Int32} {a c d fk n b r lim : Int} (h : RP code a c d fk n) (h1 : PT rf (2 * b + r) a) (h2 : PT rt (2 * b + r) c) (g1 : 560 * b ≤ a) (g2 : a ≤ c) (g3 : c ≤ lim) (g4 : 0 ≤ a) : RU code rf rt has b r lim fk := fun hf _ => by
  obtain ⟨dp, q0, q1, q2⟩ := h hf
  have e1 : (rf (2 * b + r).toNat).toInt = a := h1
  have e2 : (rt (2 * b + r).toNat).toInt = c := h2
  unfold RQ
  rw [e1, e2]
  exact ⟨dp, q0, g1, g2, g3, q2⟩
def cn (f : Nat → Int32) : Nat → Int
  | 0 => 0
  | n + 1 => cn f n + (if 1 ≤ n ∧ ((f n).toInt = 3 ∨ (f n).toInt = 7) then 1 else 0)
theorem cn_le (f : Nat → Int32) : ∀ n : Nat, 0 ≤ cn f n ∧ cn f n ≤ n ∧ (1 ≤ n → cn f n ≤ (n : Int) - 1)
  | 0 => ⟨by show (0 : Int) ≤ 0; omega, by show (0 : Int) ≤ 0; omega, fun h => absurd h (by omega)⟩
  | n + 1 => by
    have z := cn_le f n
    show 0 ≤ cn f n + (if 1 ≤ n ∧ ((f n).toInt = 3 ∨ (f n).toInt = 7) then 1 else 0) ∧ _
    refine ⟨?_, ?_, ?_⟩
    · split <;> omega
    · show cn f n + (if 1 ≤ n ∧ ((f n).toInt = 3 ∨ (f n).toInt = 7) then 1 else 0) ≤ ((n + 1 : Nat) : Int)
      split <;> omega
    · intro _
      show cn f n + (if 1 ≤ n ∧ ((f n).toInt = 3 ∨ (f n).toInt = 7) then 1 else 0) ≤ ((n + 1 : Nat) : Int) - 1
      split <;> omega
theorem cn_eq {f g : Nat → Int32} : ∀ n : Nat, (∀ j : Nat, j < n → f j = g j) → cn f n = cn g n
  | 0, _ => rfl
  | n + 1, h => by
    have z := cn_eq n (fun j hj => h j (by omega))
    show cn f n + (if 1 ≤ n ∧ ((f n).toInt = 3 ∨ (f n).toInt = 7) then 1 else 0) = cn g n + (if 1 ≤ n ∧ ((g n).toInt = 3 ∨ (g n).toInt = 7) then 1 else 0)
    rw [z, h n (by omega)]
def SK (f g : Nat → Int32) (n w : Int) : Prop := 0 ≤ n ∧ (1 ≤ n → (f 0).toInt = 8) ∧ (∀ j : Nat, 1 ≤ j → (j : Int) < n → 1 ≤ (f j).toInt ∧ (f j).toInt ≤ 7 ∧ ((f j).toInt = 3 → (g j).toInt = 126) ∧ ((f j).toInt ≠ 3 → (f j).toInt ≠ 7 → (g j).toInt ≠ 126 ∧ NL (g j).toInt)) ∧ cn f n.toNat = w
theorem SK.c {f g : Nat → Int32} {n w n' w' : Int} (h : SK f g n w) (e1 : n' = n) (e2 : w' = w) : SK f g n' w' := by
  subst e1
  subst e2
  exact h
theorem sk_le {f g : Nat → Int32} {n w : Int} (h : SK f g n w) (hn : 1 ≤ n) : 0 ≤ w ∧ w ≤ n - 1 := by
  have z := cn_le f n.toNat
  rw [h.2.2.2] at z
  have z3 := z.2.2 (by omega)
  omega
theorem sk_rd {f g : Nat → Int32} {n w : Int} {i v : Int32} (h : SK f g n w) (e : v = f i.toNatClampNeg) (h0 : 0 ≤ i.toInt) (h1 : i.toInt < n) (h2 : i.toInt ≤ 89) : 1 ≤ v.toInt ∧ v.toInt ≤ 8 ∧ 8 ≤ v.toInt + 7 * i.toInt ∧ 90 * v.toInt + i.toInt ≤ 720 := by
  rw [tnc] at e
  by_cases c : i.toInt = 0
  · rw [c] at e
    have z := h.2.1 (by omega)
    rw [← show v = f 0 from e] at z
    omega
  · have z := h.2.2.1 i.toInt.toNat (by omega) (by omega)
    rw [← e] at z
    omega
theorem sk_push {f g f' g' : Nat → Int32} {i j x y : Int32} {n w : Int} (e : f' = upd f i.toNatClampNeg x) (e2 : g' = upd g j.toNatClampNeg y) (h : SK f g n w) (h1 : 1 ≤ n) (hi : i.toInt = n) (hj : j.toInt = n) (hx : 1 ≤ x.toInt ∧ x.toInt ≤ 7 ∧ (x.toInt = 3 → y.toInt = 126) ∧ (x.toInt ≠ 3 → x.toInt ≠ 7 → y.toInt ≠ 126 ∧ NL y.toInt)) : SK f' g' (n + 1) (w + (if x.toInt = 3 ∨ x.toInt = 7 then 1 else 0)) := by
  obtain ⟨a0, a1, a2, a3⟩ := h
  have en : (n + 1).toNat = n.toNat + 1 := by omega
  have ex : f' n.toNat = x := up_in e _ (by omega)
  refine ⟨by omega, fun _ => ?_, fun q q1 q2 => ?_, ?_⟩
  · rw [up_out e 0 (by omega)]
    exact a1 h1
  · by_cases c : (q : Int) = n
    · rw [up_in e q (by omega), up_in e2 q (by omega)]
      exact hx
    · rw [up_out e q (by omega), up_out e2 q (by omega)]
      exact a2 q q1 (by omega)
  · rw [en]
    show cn f' n.toNat + (if 1 ≤ n.toNat ∧ ((f' n.toNat).toInt = 3 ∨ (f' n.toNat).toInt = 7) then 1 else 0) = _
    rw [ex, cn_eq n.toNat (f := f') (g := f) (fun q hq => up_out e q (by omega)), a3]
    by_cases c : x.toInt = 3 ∨ x.toInt = 7
    · rw [if_pos c, if_pos ⟨by omega, c⟩]
    · rw [if_neg c, if_neg (fun z => c z.2)]
theorem sk_push3 {f g f' g' : Nat → Int32} {i j x y : Int32} {n w : Int} (e : f' = upd f i.toNatClampNeg x) (e2 : g' = upd g j.toNatClampNeg y) (h : SK f g n w) (h1 : 1 ≤ n) (hi : i.toInt = n) (hj : j.toInt = n) (hx : x.toInt = 3) (hy : y.toInt = 126) : SK f' g' (n + 1) (w + 1) := by
  have z := sk_push e e2 h h1 hi hj ⟨by omega, by omega, fun _ => hy, fun q => absurd hx q⟩
  rw [if_pos (Or.inl hx)] at z
  exact z
theorem sk_push7 {f g f' g' : Nat → Int32} {i j x y : Int32} {n w : Int} (e : f' = upd f i.toNatClampNeg x) (e2 : g' = upd g j.toNatClampNeg y) (h : SK f g n w) (h1 : 1 ≤ n) (hi : i.toInt = n) (hj : j.toInt = n) (hx : x.toInt = 7) : SK f' g' (n + 1) (w + 1) := by
  have z := sk_push e e2 h h1 hi hj ⟨by omega, by omega, fun q => absurd q (by omega), fun _ q => absurd hx q⟩
  rw [if_pos (Or.inr hx)] at z
  exact z
theorem sk_pusho {f g f' g' : Nat → Int32} {i j x y : Int32} {n w : Int} (e : f' = upd f i.toNatClampNeg x) (e2 : g' = upd g j.toNatClampNeg y) (h : SK f g n w) (h1 : 1 ≤ n) (hi : i.toInt = n) (hj : j.toInt = n) (hx : 1 ≤ x.toInt ∧ x.toInt ≤ 6) (hx3 : x.toInt ≠ 3) (hy : y.toInt ≤ 96 ∨ y.toInt = 124) : SK f' g' (n + 1) w := by
  have z := sk_push e e2 h h1 hi hj ⟨by omega, by omega, fun q => absurd q hx3, fun _ _ => ⟨by omega, fun q => by omega⟩⟩
  rw [if_neg (by omega)] at z
  exact z.c rfl (by omega)
theorem sk_push8 {f f' g' : Nat → Int32} {i x : Int32} (e : f' = upd f i.toNatClampNeg x) (hi : i.toInt = 0) (hx : x.toInt = 8) : SK f' g' 1 0 := by
  refine ⟨by omega, fun _ => ?_, fun q q1 q2 => absurd q2 (by omega), rfl⟩
  rw [up_in e 0 (by omega)]
  exact hx
theorem sk_pop {f g : Nat → Int32} {n w : Int} {i v : Int32} (h : SK f g n w) (e : v = f i.toNatClampNeg) (hi : i.toInt = n - 1) (hn : 2 ≤ n) : SK f g (n - 1) (w - (if v.toInt = 3 ∨ v.toInt = 7 then 1 else 0)) := by
  obtain ⟨a0, a1, a2, a3⟩ := h
  rw [tnc] at e
  have en : n.toNat = (n - 1).toNat + 1 := by omega
  have ev : f (n - 1).toNat = v := by
    rw [e, hi]
  refine ⟨by omega, fun _ => a1 (by omega), fun q q1 q2 => a2 q q1 (by omega), ?_⟩
  rw [en] at a3
  have a4 : cn f (n - 1).toNat + (if 1 ≤ (n - 1).toNat ∧ ((f (n - 1).toNat).toInt = 3 ∨ (f (n - 1).toNat).toInt = 7) then 1 else 0) = w := a3
  rw [ev] at a4
  by_cases c : v.toInt = 3 ∨ v.toInt = 7
  · rw [if_pos ⟨by omega, c⟩] at a4
    rw [if_pos c]
    omega
  · rw [if_neg (fun z => c z.2)] at a4
    rw [if_neg c]
    omega
theorem sk_w3 {f g : Nat → Int32} {n w : Int} {i v : Int32} (h : SK f g n w) (e : v = f i.toNatClampNeg) (hi : i.toInt = n - 1) (hn : 2 ≤ n) (hv : v.toInt = 3) : 1 ≤ w := by
  have z := sk_pop h e hi hn
  rw [if_pos (Or.inl hv)] at z
  have y := sk_le z (by omega)
  omega
theorem sk_pop3 {f g : Nat → Int32} {n w : Int} {i j v x : Int32} (h : SK f g n w) (e : v = f i.toNatClampNeg) (ex : x = g j.toNatClampNeg) (hi : i.toInt = n - 1) (hj : j.toInt = n - 1) (hn : 2 ≤ n) (hv : v.toInt = 3) : SK f g (n - 1) (w - 1) ∧ x.toInt = 126 ∧ 1 ≤ w := by
  have z := sk_pop h e hi hn
  rw [if_pos (Or.inl hv)] at z
  have y := sk_le z (by omega)
  refine ⟨z, ?_, by omega⟩
  have q := (h.2.2.1 (n - 1).toNat (by omega) (by omega)).2.2.1
  rw [tnc, hi] at e
  rw [tnc, hj] at ex
  rw [← e, ← ex] at q
  exact q hv
theorem sk_popo {f g : Nat → Int32} {n w : Int} {i j v x : Int32} (h : SK f g n w) (e : v = f i.toNatClampNeg) (ex : x = g j.toNatClampNeg) (hi : i.toInt = n - 1) (hj : j.toInt = n - 1) (hn : 2 ≤ n) (hv : v.toInt ≠ 3) (hv7 : v.toInt ≠ 7) : SK f g (n - 1) w ∧ x.toInt ≠ 126 ∧ NL x.toInt ∧ w ≤ n - 2 := by
  have z := sk_pop h e hi hn
  rw [if_neg (by omega)] at z
  have y := sk_le z (by omega)
  have q := (h.2.2.1 (n - 1).toNat (by omega) (by omega)).2.2.2
  rw [tnc, hi] at e
  rw [tnc, hj] at ex
  rw [← e, ← ex] at q
  exact ⟨z.c rfl (by omega), (q hv hv7).1, (q hv hv7).2, by omega⟩
theorem sk_pop7 {f g : Nat → Int32} {n w : Int} {i v : Int32} (h : SK f g n w) (e : v = f i.toNatClampNeg) (hi : i.toInt = n - 1) (h0 : 0 ≤ i.toInt) (hn : 2 ≤ n) (hv : v.toInt = 7) : SK f g (n - 1) (w - 1) ∧ 1 ≤ w := by
  have z := sk_pop h e hi hn
  rw [if_pos (Or.inr hv)] at z
  have y := sk_le z (by omega)
  exact ⟨z, by omega⟩
theorem sk_pop8 {f g : Nat → Int32} {n w : Int} {i v : Int32} (h : SK f g n w) (e : v = f i.toNatClampNeg) (hi : i.toInt = n - 1) (h0 : 0 ≤ i.toInt) (hn : 1 ≤ n) (hv : 8 ≤ v.toInt) : SK f g (n - 1) w ∧ n ≤ 1 ∧ w ≤ 0 := by
  have e' := e
  rw [tnc, hi] at e'
  have n1 : n = 1 := by
    by_cases c : n = 1
    · exact c
    · have z := (h.2.2.1 (n - 1).toNat (by omega) (by omega)).2.1
      rw [← e'] at z
      omega
  have y := sk_le h hn
  have w0 : w = 0 := by omega
  subst n1
  refine ⟨⟨by omega, fun q => absurd q (by omega), fun q q1 q2 => absurd q2 (by omega), w0.symm⟩, by omega, by omega⟩
section XG
variable {p : Program} {l : Launch} {e : Env} {R : Room} {s : State} {m : MethodId} {args : Array Value} {below : List Frame} {meth : Method} {c : Code} {H : Heap} {locs : List Loc} {cells slots : Nat} {Q : State → Prop}
variable {cc : ByteArray} {pc : Nat} {ls : Array Slot} {rest : List Value} {D : va_G} {cB cI cJ cZ : ClassId} {A : Nat → Prop} {a : Nat} {ws : va_W} {H0 : Heap}
theorem xa_bldE (hx : p.tables.exec = Jvm.exec) (hb : c.code = cc) (hG : GE D cB cI cJ cZ s) (hP : va_P D vwCl ws H) (q0 : Nat) {n : Nat} {f : Nat → Int32} (ha : ws[q0]? = some (a, .inl (cB, n, .inl f))) {i : Int32} (hin : vp_in i n) (hdg : decode cc pc = .ok (.baload, 1))
    (kk : ∀ v : Int32, v = f i.toNatClampNeg → W p l e R s m args below meth c H locs cells slots Q (F0 m (pc + 1) ls (.int v :: rest))) : W p l e R s m args below meth c H locs cells slots Q (F0 m pc ls (.int i :: .ref a :: rest)) :=
  va_bald hx hb hG.1 hP q0 0 ha rfl hin hdg (kk _ rfl)
end XG
