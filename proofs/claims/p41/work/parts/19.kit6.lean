def LG (c n m : Int) : Prop := (c = 126 ∧ 1 ≤ n ∧ n ≤ 60 ∧ m = n) ∨ (c ≠ 126 ∧ 97 ≤ c ∧ c ≤ 122 ∧ 0 ≤ n ∧ n ≤ 59 ∧ m = n + 1) ∨ (c ≠ 126 ∧ ¬ (97 ≤ c ∧ c ≤ 122) ∧ 2 ≤ n ∧ n ≤ 60 ∧ m = n - 1)
def RQ (code rf rt : Nat → Int32) (i lo hi : Int) : Prop := ∃ dp : Nat → Int, dp (rf i.toNat).toInt.toNat = 0 ∧ lo ≤ (rf i.toNat).toInt ∧ (rf i.toNat).toInt ≤ (rt i.toNat).toInt ∧ (rt i.toNat).toInt ≤ hi ∧ ∀ k : Nat, (rf i.toNat).toInt ≤ (k : Int) → (k : Int) < (rt i.toNat).toInt → LG (code k).toInt (dp k) (dp (k + 1))
theorem RQ.c {code rf rt : Nat → Int32} {i lo hi i' lo' hi' : Int} (h : RQ code rf rt i lo hi) (e1 : i' = i) (e2 : lo' = lo) (e3 : hi' = hi) : RQ code rf rt i' lo' hi' := by
  subst e1
  subst e2
  subst e3
  exact h
def RU (code rf rt has : Nat → Int32) (b r lim fk : Int) : Prop := fk = 0 → (has b.toNat).toInt ≠ 0 → RQ code rf rt (2 * b + r) (560 * b) lim
theorem RU.c {code rf rt has : Nat → Int32} {b r lim fk b' r' lim' fk' : Int} (h : RU code rf rt has b r lim fk) (e1 : b' = b) (e2 : r' = r) (e3 : lim' = lim) (e4 : fk' = fk) : RU code rf rt has b' r' lim' fk' := by
  subst e1
  subst e2
  subst e3
  subst e4
  exact h
theorem ru_get {code rf rt has : Nat → Int32} {i v : Int32} {r lim fk : Int} (h : RU code rf rt has i.toInt r lim fk) (e : v = has i.toNatClampNeg) (hv : v.toInt ≠ 0) (hf : fk = 0) : RQ code rf rt (2 * i.toInt + r) (560 * i.toInt) lim := h hf (by
  rw [← tnc, ← e]
  exact hv)
def DP (dp : Nat → Int) (k n : Int) : Prop := dp k.toNat = n
theorem DP.c {dp : Nat → Int} {k n k' n' : Int} (h : DP dp k n) (e1 : k' = k) (e2 : n' = n) : DP dp k' n' := by
  subst e1
  subst e2
  exact h
def NL (c : Int) : Prop := ¬ (97 ≤ c ∧ c ≤ 122)
theorem NL.c {c c' : Int} (h : NL c) (e : c' = c) : NL c' := by
  subst e
  exact h
theorem nl_of {c : Int} (h : ¬ (97 ≤ c ∧ c ≤ 122)) : NL c := h
theorem rq_open {code rf rt : Nat → Int32} {i lo hi a : Int} (h : RQ code rf rt i lo hi) (ha : PT rf i a) (_h : 0 ≤ i) : ∃ dp : Nat → Int, DP dp a 0 ∧ ∃ b : Int32, PT rt i b.toInt ∧ lo ≤ a ∧ (a ≤ b.toInt ∧ b.toInt ≤ hi) ∧ ∀ k : Nat, a ≤ (k : Int) → (k : Int) < b.toInt → LG (code k).toInt (dp k) (dp (k + 1)) := by
  obtain ⟨dp, h0, h1, h2, h3, h4⟩ := h
  have e : (rf i.toNat).toInt = a := ha
  rw [e] at h0 h1 h2
  refine ⟨dp, h0, rt i.toNat, rfl, h1, ⟨h2, h3⟩, fun k q1 q2 => h4 k (by rw [e]; exact q1) q2⟩
theorem lg_step {code : Nat → Int32} {dp : Nat → Int} {a b n : Int} {k c : Int32} (hst : ∀ k : Nat, a ≤ (k : Int) → (k : Int) < b → LG (code k).toInt (dp k) (dp (k + 1))) (ec : c = code k.toNatClampNeg) (hd : DP dp k.toInt n) (h0 : 0 ≤ k.toInt) (h1 : a ≤ k.toInt) (h2 : k.toInt < b) : LG c.toInt n (dp (k.toInt + 1).toNat) := by
  have z := hst k.toInt.toNat (by omega) (by omega)
  rw [show dp k.toInt.toNat = n from hd, ← tnc, ← ec, tnc, show k.toInt.toNat + 1 = (k.toInt + 1).toNat from by omega] at z
  exact z
theorem lg_not {code : Nat → Int32} {dp : Nat → Int} {a b n : Int} {k c : Int32} (hst : ∀ k : Nat, a ≤ (k : Int) → (k : Int) < b → LG (code k).toInt (dp k) (dp (k + 1))) (ec : c = code k.toNatClampNeg) (hd : DP dp k.toInt n) (h0 : 0 ≤ k.toInt) (h1 : a ≤ k.toInt) (h2 : k.toInt < b) (hc : c.toInt = 126) : (1 ≤ n ∧ n ≤ 60) ∧ DP dp (k.toInt + 1) (n + 0) := by
  rcases lg_step hst ec hd h0 h1 h2 with z | z | z
  · exact ⟨⟨z.2.1, z.2.2.1⟩, by show dp _ = _; rw [z.2.2.2]; omega⟩
  · exact absurd hc z.1
  · exact absurd hc z.1
theorem lg_let {code : Nat → Int32} {dp : Nat → Int} {a b n : Int} {k c : Int32} (hst : ∀ k : Nat, a ≤ (k : Int) → (k : Int) < b → LG (code k).toInt (dp k) (dp (k + 1))) (ec : c = code k.toNatClampNeg) (hd : DP dp k.toInt n) (h0 : 0 ≤ k.toInt) (h1 : a ≤ k.toInt) (h2 : k.toInt < b) (hc : c.toInt ≠ 126) (hc1 : 97 ≤ c.toInt) (hc2 : c.toInt ≤ 122) : (0 ≤ n ∧ n ≤ 59) ∧ DP dp (k.toInt + 1) (n + 1) := by
  rcases lg_step hst ec hd h0 h1 h2 with z | z | z
  · exact absurd z.1 hc
  · exact ⟨⟨z.2.2.2.1, z.2.2.2.2.1⟩, z.2.2.2.2.2⟩
  · exact absurd ⟨hc1, hc2⟩ z.2.1
theorem lg_bin {code : Nat → Int32} {dp : Nat → Int} {a b n : Int} {k c : Int32} (hst : ∀ k : Nat, a ≤ (k : Int) → (k : Int) < b → LG (code k).toInt (dp k) (dp (k + 1))) (ec : c = code k.toNatClampNeg) (hd : DP dp k.toInt n) (h0 : 0 ≤ k.toInt) (h1 : a ≤ k.toInt) (h2 : k.toInt < b) (hc : c.toInt ≠ 126) (hl : NL c.toInt) : (2 ≤ n ∧ n ≤ 60) ∧ DP dp (k.toInt + 1) (n - 1) := by
  rcases lg_step hst ec hd h0 h1 h2 with z | z | z
  · exact absurd z.1 hc
  · exact absurd ⟨z.2.1, z.2.2.1⟩ hl
  · exact ⟨⟨z.2.2.1, z.2.2.2.1⟩, z.2.2.2.2⟩
