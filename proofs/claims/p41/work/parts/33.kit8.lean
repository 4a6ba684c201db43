def LN (b t : Int) : Prop := ¬ (0 ≤ b ∧ b ≤ 1000 ∧ t + b ≤ 100000)
theorem LN.c {b t b' t' : Int} (h : LN b t) (e1 : b' = b) (e2 : t' = t) : LN b' t' := by
  subst e1
  subst e2
  exact h
theorem ln_of {b t : Int} (h : ¬ (0 ≤ b ∧ b ≤ 1000 ∧ t + b ≤ 100000)) : LN b t := h
def NI (v lo hi : Int) : Prop := ¬ (lo ≤ v ∧ v ≤ hi)
theorem NI.c {v lo hi v' lo' hi' : Int} (h : NI v lo hi) (e1 : v' = v) (e2 : lo' = lo) (e3 : hi' = hi) : NI v' lo' hi' := by
  subst e1
  subst e2
  subst e3
  exact h
theorem ni_of {v lo hi : Int} (h : ¬ (lo ≤ v ∧ v ≤ hi)) : NI v lo hi := h
theorem ln_ni {b t : Int} (h : NI b 0 1000) : LN b t := fun z => h ⟨z.1, z.2.1⟩
theorem scr_eq {xs : Nat → Int32} {v w i j : Int32} (e1 : v = xs i.toNatClampNeg) (e2 : w = xs j.toNatClampNeg) (h : i.toInt = j.toInt) : v.toInt = w.toInt := by
  rw [e1, e2, Int32.toInt_inj.mp h]
theorem lst_at {L : List Int32} {j : Nat} (h : j < L.length) : lst L j ∈ L := by
  show L.getD j 0 ∈ L
  rw [List.getD_eq_getElem?_getD, List.getElem?_eq_getElem h]
  exact List.getElem_mem h
theorem ar_lst {L : List Int32} {lo hi b : Int} (h : ∀ x ∈ L, lo ≤ x.toInt ∧ x.toInt ≤ hi) (hb : b ≤ (L.length : Int)) : AR (lst L) lo hi b := fun j hj => h _ (lst_at (by omega))
theorem as_zero3 {L : List Int32} (h : ∀ x ∈ L, x.toInt = 0) (hb : 3 ≤ L.length) : AS (lst L) 0 0 0 3 := fun j _ hj => by
  have z := h _ (lst_at (L := L) (j := j) (by omega))
  omega
theorem as_lst {L : List Int32} {lo hi : Int} (a b : Nat) (h : ∀ j, j < b → a ≤ j → lo ≤ (lst L j).toInt ∧ (lst L j).toInt ≤ hi) : AS (lst L) lo hi (a : Int) (b : Int) := fun j h1 h2 => h j (by omega) (by omega)
