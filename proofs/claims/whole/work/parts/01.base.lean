/-! numbers and stores (the rows pk_ are pasted from the kit's rows) -/
theorem pk_us {f : Nat → Int32} {k : Nat} {x : Int32} : upd f k x k = x := if_pos rfl
theorem pk_un {f : Nat → Int32} {k j : Nat} {x : Int32} (h : j ≠ k) : upd f k x j = f j := if_neg h
theorem pk_ix (x : Int32) {n : Nat} (hn : n < 2 ^ 31) : x < 0 ∨ nI n ≤ x ∨ ∃ j : Nat, j < n ∧ x = nI j := by
  by_cases h : x < 0
  · exact Or.inl h
  · obtain ⟨j, hj, rfl⟩ := nI_of h
    by_cases h2 : j < n
    · exact Or.inr (Or.inr ⟨j, h2, rfl⟩)
    · exact Or.inr (Or.inl (nI_le (by omega) hj))
theorem kr_c {n : Nat} (h : n < 17) : (nI n).toNatClampNeg = n := nI_clamp (by omega)
theorem kr_in {n : Nat} (h : n < 16) : vp_in (nI n) 16 := vp_in_nI h (by decide)
theorem kr_le {a b : Nat} (h : a ≤ b) (hb : b < 100) : nI a ≤ nI b := nI_le h (by omega)
theorem kr_nle {a b : Nat} (h : a < b) (hb : b < 100) : ¬ nI b ≤ nI a := nI_ge h (by omega)
theorem kr_n1 {a : Nat} (h : a < 100) : ¬ nI a = -1 := by
  intro e
  have h2 := nI_pos (n := a) (by omega)
  rw [e] at h2
  exact h2 (by decide)
theorem kr_pos {a : Nat} (h : a < 100) : ¬ nI a < 0 := nI_pos (by omega)
theorem kr_nn {a : Nat} (h : a < 100) : 0 ≤ nI a := nI_pos' (by omega)
theorem kr_inj {a b : Nat} (h : nI a = nI b) (ha : a < 100) (hb : b < 100) : a = b := (nI_eq (by omega) (by omega)).mp h
/-- an array whose first n cells have been written from f -/
def kr_gl (f h : Nat → Int32) : Nat → Nat → Int32
  | 0 => h
  | n + 1 => upd (kr_gl f h n) n (f n)
theorem kr_glc {f h : Nat → Int32} {j q : Nat} {x : Int32} (hq : q = j) (hx : x = f j) : upd (kr_gl f h j) q x = kr_gl f h (j + 1) := by
  subst hq hx
  rfl
theorem kr_gl_lt (f h : Nat → Int32) : ∀ n q, q < n → kr_gl f h n q = f q := by
  intro n
  induction n with
  | zero => intro q hq; omega
  | succ n ih =>
    intro q hq
    show upd (kr_gl f h n) n (f n) q = f q
    by_cases e : q = n
    · subst e; exact pk_us
    · rw [pk_un e]; exact ih q (by omega)
/-- a tree by its parents: the first node has none, every other stands behind its parent -/
def kr_T (p : Nat → Int32) (n : Nat) : Prop := ∀ i, i < n → (i = 0 ∧ p i = -1) ∨ (∃ j, j < i ∧ p i = nI j)
/-- o nodes stand unclosed, the last of them is x -/
def kr_C (p : Nat → Int32) (n : Nat) : Nat → Int32 → Prop
  | 0, x => x = -1
  | o + 1, x => ∃ l, l < n ∧ x = nI l ∧ kr_C p n o (p l)
theorem kr_C_up {p : Nat → Int32} {n : Nat} (y : Int32) : ∀ (o : Nat) (x : Int32), kr_C p n o x → kr_C (upd p n y) (n + 1) o x := by
  intro o
  induction o with
  | zero => intro x h; exact h
  | succ o ih =>
    intro x h
    obtain ⟨l, hl, e, h2⟩ := h
    refine ⟨l, by omega, e, ?_⟩
    rw [pk_un (by omega)]
    exact ih _ h2
theorem kr_T_up {p : Nat → Int32} {n : Nat} {y : Int32} (h : kr_T p n) (hy : (n = 0 ∧ y = -1) ∨ (∃ j, j < n ∧ y = nI j)) : kr_T (upd p n y) (n + 1) := by
  intro i hi
  by_cases e : i = n
  · subst e; rw [pk_us]; exact hy
  · rw [pk_un e]; exact h i (by omega)
theorem kr_T_eq {p p' : Nat → Int32} {n : Nat} (h : kr_T p n) (he : ∀ q, q < n → p' q = p q) : kr_T p' n := by
  intro i hi
  rw [he i hi]
  exact h i hi
theorem kr_T_gl {p p' : Nat → Int32} {n : Nat} (h : kr_T p n) : kr_T (kr_gl p p' n) n := kr_T_eq h (fun q hq => kr_gl_lt p p' n q hq)
theorem kr_T0 (p : Nat → Int32) : kr_T p 0 := fun i hi => absurd hi (Nat.not_lt_zero i)
/-- what holds of the numbers, the parents and the last unclosed node -/
def kr_I (dN sN oN : Nat) (lst : Int32) (dp sp : Nat → Int32) : Prop :=
  dN ≤ 16 ∧ sN ≤ 16 ∧ oN ≤ dN ∧ kr_T dp dN ∧ kr_T sp sN ∧ kr_C dp dN oN lst
/-- the relation: the same arrays, the same numbers; what serves one call alone is free -/
def kr_R (u : SX) (v : SY) : Prop :=
  ∃ (dN sN oN : Nat) (lst g ke gn mv : Int32) (dt dk dp st sk sp si ss ko oo ni ns oi os ro be : Nat → Int32), u = (nI dN, nI oN, lst, nI sN, g, ke, gn, mv, dt, dk, dp, st, sk, sp, si, ss, ko, oo, ni, ns) ∧ v = (nI sN, nI dN, lst, nI oN, g, ke, gn, mv, st, sk, sp, si, ss, dt, dk, dp, ko, oi, os, ro, be) ∧ kr_I dN sN oN lst dp sp
theorem kr_mk {dN sN oN : Nat} {lst g ke gn mv : Int32} {dt dk dp st sk sp si ss ko oo ni ns oi os ro be : Nat → Int32} (h : kr_I dN sN oN lst dp sp) : kr_R (nI dN, nI oN, lst, nI sN, g, ke, gn, mv, dt, dk, dp, st, sk, sp, si, ss, ko, oo, ni, ns) (nI sN, nI dN, lst, nI oN, g, ke, gn, mv, st, sk, sp, si, ss, dt, dk, dp, ko, oi, os, ro, be) :=
  ⟨dN, sN, oN, lst, g, ke, gn, mv, dt, dk, dp, st, sk, sp, si, ss, ko, oo, ni, ns, oi, os, ro, be, rfl, rfl, h⟩
