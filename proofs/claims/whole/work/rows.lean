section
/-! numbers and stores (the rows pk_ are pasted from the kit's rows) -/
theorem pk_us {f : Nat → Int32} {k : Nat} {x : Int32} : upd f k x k = x := if_pos rfl
theorem pk_un {f : Nat → Int32} {k j : Nat} {x : Int32} (h : j ≠ k) : upd f k x j = f j := if_neg h
theorem pk_ix (x : Int32) {n : Nat} (hn : n < 2 ^ 31) : x < 0 ∨ nI n ≤ x ∨ ∃ j : Nat, j < n ∧ x = nI j := by
  by_cases h : x < 0
  · exact Or.inl h
  · obtain ⟨j, hj, rfl⟩ := nI_of h
    by_cases h2 : j < n
    · exact Or.inr (Or.inr ⟨j, h2, rfl⟩)
    · exact Or.inr (Or.inl (nI_le (by omega) hj))
theorem kr_c {n : Nat} (h : n < 17) : (nI n).toNatClampNeg = n := nI_clamp (by omega)
theorem kr_in {n : Nat} (h : n < 16) : vp_in (nI n) 16 := vp_in_nI h (by decide)
theorem kr_le {a b : Nat} (h : a ≤ b) (hb : b < 100) : nI a ≤ nI b := nI_le h (by omega)
theorem kr_nle {a b : Nat} (h : a < b) (hb : b < 100) : ¬ nI b ≤ nI a := nI_ge h (by omega)
theorem kr_n1 {a : Nat} (h : a < 100) : ¬ nI a = -1 := by
  intro e
  have h2 := nI_pos (n := a) (by omega)
  rw [e] at h2
  exact h2 (by decide)
theorem kr_pos {a : Nat} (h : a < 100) : ¬ nI a < 0 := nI_pos (by omega)
theorem kr_nn {a : Nat} (h : a < 100) : 0 ≤ nI a := nI_pos' (by omega)
theorem kr_inj {a b : Nat} (h : nI a = nI b) (ha : a < 100) (hb : b < 100) : a = b := (nI_eq (by omega) (by omega)).mp h
/-- an array whose first n cells have been written from f -/
def kr_gl (f h : Nat → Int32) : Nat → Nat → Int32
  | 0 => h
  | n + 1 => upd (kr_gl f h n) n (f n)
theorem kr_glc {f h : Nat → Int32} {j q : Nat} {x : Int32} (hq : q = j) (hx : x = f j) : upd (kr_gl f h j) q x = kr_gl f h (j + 1) := by
  subst hq hx
  rfl
theorem kr_gl_lt (f h : Nat → Int32) : ∀ n q, q < n → kr_gl f h n q = f q := by
  intro n
  induction n with
  | zero => intro q hq; omega
  | succ n ih =>
    intro q hq
    show upd (kr_gl f h n) n (f n) q = f q
    by_cases e : q = n
    · subst e; exact pk_us
    · rw [pk_un e]; exact ih q (by omega)
/-- a tree by its parents: the first node has none, every other stands behind its parent -/
def kr_T (p : Nat → Int32) (n : Nat) : Prop := ∀ i, i < n → (i = 0 ∧ p i = -1) ∨ (∃ j, j < i ∧ p i = nI j)
/-- o nodes stand unclosed, the last of them is x -/
def kr_C (p : Nat → Int32) (n : Nat) : Nat → Int32 → Prop
  | 0, x => x = -1
  | o + 1, x => ∃ l, l < n ∧ x = nI l ∧ kr_C p n o (p l)
theorem kr_C_up {p : Nat → Int32} {n : Nat} (y : Int32) : ∀ (o : Nat) (x : Int32), kr_C p n o x → kr_C (upd p n y) (n + 1) o x := by
  intro o
  induction o with
  | zero => intro x h; exact h
  | succ o ih =>
    intro x h
    obtain ⟨l, hl, e, h2⟩ := h
    refine ⟨l, by omega, e, ?_⟩
    rw [pk_un (by omega)]
    exact ih _ h2
theorem kr_T_up {p : Nat → Int32} {n : Nat} {y : Int32} (h : kr_T p n) (hy : (n = 0 ∧ y = -1) ∨ (∃ j, j < n ∧ y = nI j)) : kr_T (upd p n y) (n + 1) := by
  intro i hi
  by_cases e : i = n
  · subst e; rw [pk_us]; exact hy
  · rw [pk_un e]; exact h i (by omega)
theorem kr_T_eq {p p' : Nat → Int32} {n : Nat} (h : kr_T p n) (he : ∀ q, q < n → p' q = p q) : kr_T p' n := by
  intro i hi
  rw [he i hi]
  exact h i hi
theorem kr_T_gl {p p' : Nat → Int32} {n : Nat} (h : kr_T p n) : kr_T (kr_gl p p' n) n := kr_T_eq h (fun q hq => kr_gl_lt p p' n q hq)
theorem kr_T0 (p : Nat → Int32) : kr_T p 0 := fun i hi => absurd hi (Nat.not_lt_zero i)
/-- what holds of the numbers, the parents and the last unclosed node -/
def kr_I (dN sN oN : Nat) (lst : Int32) (dp sp : Nat → Int32) : Prop :=
  dN ≤ 16 ∧ sN ≤ 16 ∧ oN ≤ dN ∧ kr_T dp dN ∧ kr_T sp sN ∧ kr_C dp dN oN lst
/-- the relation: the same arrays, the same numbers; what serves one call alone is free -/
def kr_R (u : SX) (v : SY) : Prop :=
  ∃ (dN sN oN : Nat) (lst g ke gn mv : Int32) (dt dk dp st sk sp si ss ko oo ni ns oi os ro be : Nat → Int32), u = (nI dN, nI oN, lst, nI sN, g, ke, gn, mv, dt, dk, dp, st, sk, sp, si, ss, ko, oo, ni, ns) ∧ v = (nI sN, nI dN, lst, nI oN, g, ke, gn, mv, st, sk, sp, si, ss, dt, dk, dp, ko, oi, os, ro, be) ∧ kr_I dN sN oN lst dp sp
theorem kr_mk {dN sN oN : Nat} {lst g ke gn mv : Int32} {dt dk dp st sk sp si ss ko oo ni ns oi os ro be : Nat → Int32} (h : kr_I dN sN oN lst dp sp) : kr_R (nI dN, nI oN, lst, nI sN, g, ke, gn, mv, dt, dk, dp, st, sk, sp, si, ss, ko, oo, ni, ns) (nI sN, nI dN, lst, nI oN, g, ke, gn, mv, st, sk, sp, si, ss, dt, dk, dp, ko, oi, os, ro, be) :=
  ⟨dN, sN, oN, lst, g, ke, gn, mv, dt, dk, dp, st, sk, sp, si, ss, ko, oo, ni, ns, oi, os, ro, be, rfl, rfl, h⟩
end
section
/-! the draft -/
theorem kr_has (dN sN : Nat) (op lst g ke gn mv : Int32) (dt dk dp st sk sp si ss ko oo ni ns oi os ro be : Nat → Int32) (hd : dN ≤ 16) (key : Int32) : ∀ d j : Nat, j + d = dN → ∃ r : Int32, (∀ post : Int32 → Prop, post r → wX_lastOpenHasChild_2 post key (nI dN) op lst (nI sN) g ke gn mv dt dk dp st sk sp si ss ko oo ni ns (d + 1) (nI j)) ∧ (∀ post : Int32 → Prop, post r → wY_hasChild_2 post lst key (nI sN) (nI dN) lst op g ke gn mv st sk sp si ss dt dk dp ko oi os ro be (d + 1) (nI j)) := by
  intro d
  induction d with
  | zero =>
    intro j hj
    have h : nI dN ≤ nI j := kr_le (by omega) (by omega)
    exact ⟨0, fun _ hp => br_t h hp, fun _ hp => br_t h hp⟩
  | succ d ih =>
    intro j hj
    have h : ¬ nI dN ≤ nI j := kr_nle (by omega) (by omega)
    have hi : vp_in (nI j) 16 := kr_in (by omega)
    obtain ⟨r, hX, hY⟩ := ih (j + 1) (by omega)
    by_cases z : dp (nI j).toNatClampNeg = lst
    · by_cases z2 : dk (nI j).toNatClampNeg = key
      · exact ⟨1, fun _ hp => br_f h ⟨hi, br_t z ⟨hi, br_t z2 hp⟩⟩, fun _ hp => br_f h ⟨hi, br_t z ⟨hi, br_t z2 hp⟩⟩⟩
      · exact ⟨r, fun post hp => br_f h ⟨hi, br_t z ⟨hi, br_f z2 (nm_r (nI_1 j) (hX post hp))⟩⟩, fun post hp => br_f h ⟨hi, br_t z ⟨hi, br_f z2 (nm_r (nI_1 j) (hY post hp))⟩⟩⟩
    · exact ⟨r, fun post hp => br_f h ⟨hi, br_f z (nm_r (nI_1 j) (hX post hp))⟩, fun post hp => br_f h ⟨hi, br_f z (nm_r (nI_1 j) (hY post hp))⟩⟩
theorem kr_C_ne {p : Nat → Int32} {n o : Nat} {x : Int32} (h : kr_C p n o x) (hn : n ≤ 16) (hx : ¬ x = -1) : ∃ (o' l : Nat), o = o' + 1 ∧ l < n ∧ x = nI l ∧ kr_C p n o' (p l) := by
  cases o with
  | zero => exact absurd h hx
  | succ o => obtain ⟨l, hl, e, h2⟩ := h; exact ⟨o, l, rfl, hl, e, h2⟩
theorem kr_C_m1 {p : Nat → Int32} {n o : Nat} (h : kr_C p n o (-1)) (hn : n ≤ 16) : o = 0 := by
  cases o with
  | zero => rfl
  | succ o => obtain ⟨l, hl, e, h2⟩ := h; exact absurd e.symm (kr_n1 (by omega))
theorem kr_refuse (oN : Nat) (dN sN : Nat) (op lst g ke gn mv : Int32) (dt dk dp st sk sp si ss ko oo ni ns oi os ro be : Nat → Int32) (hI : kr_I dN sN oN lst dp sp) (t key : Int32) : ∃ r : Int32, (∀ post : Int32 → Prop, post r → wpX_refusalToOpen post (nI dN, op, lst, nI sN, g, ke, gn, mv, dt, dk, dp, st, sk, sp, si, ss, ko, oo, ni, ns) t key) ∧ ((r = 0 ∧ dN < 16 ∧ ((dN = 0 ∧ lst = -1) ∨ ∃ j, j < dN ∧ lst = nI j) ∧ ∀ post : Int32 → SY → Prop, wY_open_62 post t key (nI sN) (nI dN) lst op g ke gn mv st sk sp si ss dt dk dp ko oi os ro be → wpY_open post (nI sN, nI dN, lst, op, g, ke, gn, mv, st, sk, sp, si, ss, dt, dk, dp, ko, oi, os, ro, be) t key) ∨ (r < 0 ∧ ∀ post : Int32 → SY → Prop, post r (nI sN, nI dN, lst, op, g, ke, gn, mv, st, sk, sp, si, ss, dt, dk, dp, ko, oi, os, ro, be) → wpY_open post (nI sN, nI dN, lst, op, g, ke, gn, mv, st, sk, sp, si, ss, dt, dk, dp, ko, oi, os, ro, be) t key)) := by
  obtain ⟨hd, hs, ho, hT, hT2, hC⟩ := hI
  by_cases h1 : t < 0
  · exact ⟨-1, fun _ hp => br_t h1 hp, Or.inr ⟨by decide, fun _ hp => br_t h1 hp⟩⟩
  by_cases h2 : 3 < t
  · exact ⟨-1, fun _ hp => br_f h1 (br_t h2 hp), Or.inr ⟨by decide, fun _ hp => br_f h1 (br_t h2 hp)⟩⟩
  by_cases h3 : key < 0
  · exact ⟨-1, fun _ hp => br_f h1 (br_f h2 (br_t h3 hp)), Or.inr ⟨by decide, fun _ hp => br_f h1 (br_f h2 (br_t h3 hp))⟩⟩
  by_cases h4 : key ≤ 9
  case neg =>
    exact ⟨-1, fun _ hp => br_f h1 (br_f h2 (br_f h3 (br_f h4 hp))), Or.inr ⟨by decide, fun _ hp => br_f h1 (br_f h2 (br_f h3 (br_f h4 hp)))⟩⟩
  by_cases h5 : dN < 16
  case neg =>
    have e5 : dN = 16 := by omega
    have hx : ¬ nI dN < 16 := nI_nlt (b := 16) (by omega) (by omega)
    have hy : nI dN = 16 := by rw [e5]; rfl
    exact ⟨-2, fun _ hp => br_f h1 (br_f h2 (br_f h3 (br_t h4 (br_f hx hp)))), Or.inr ⟨by decide, fun _ hp => br_f h1 (br_f h2 (br_f h3 (br_t h4 (br_t hy hp))))⟩⟩
  have hx : nI dN < 16 := nI_lt (b := 16) h5 (by omega)
  have hy : ¬ nI dN = 16 := fun e => by have := kr_inj (b := 16) e (by omega) (by omega); omega
  by_cases h6 : dN = 0
  · have e0 : oN = 0 := by omega
    rw [e0] at hC
    have e6 : lst = -1 := hC
    have hy6 : nI dN ≤ 0 := kr_le (b := 0) (by omega) (by omega)
    have hx6 : nI dN = 0 := by rw [h6]; rfl
    exact ⟨0, fun _ hp => br_f h1 (br_f h2 (br_f h3 (br_t h4 (br_t hx (br_t e6 (br_t hx6 hp)))))), Or.inl ⟨rfl, h5, Or.inl ⟨h6, e6⟩, fun _ hp => br_f h1 (br_f h2 (br_f h3 (br_t h4 (br_f hy (br_t hy6 hp)))))⟩⟩
  have hy6 : ¬ nI dN ≤ 0 := kr_nle (a := 0) (by omega) (by omega)
  have hx6 : ¬ nI dN = 0 := nI_ne0 (by omega) (by omega)
  by_cases h7 : lst = -1
  · have hy7 : lst < 0 := by rw [h7]; decide
    exact ⟨-4, fun _ hp => br_f h1 (br_f h2 (br_f h3 (br_t h4 (br_t hx (br_t h7 (br_f hx6 hp)))))), Or.inr ⟨by decide, fun _ hp => br_f h1 (br_f h2 (br_f h3 (br_t h4 (br_f hy (br_f hy6 (br_t hy7 hp))))))⟩⟩
  obtain ⟨o', l, eo, hl, el, hC2⟩ := kr_C_ne hC hd h7
  have hy7 : ¬ lst < 0 := by rw [el]; exact kr_pos (by omega)
  obtain ⟨r, hX, hY⟩ := kr_has dN sN op lst g ke gn mv dt dk dp st sk sp si ss ko oo ni ns oi os ro be hd key dN 0 (by omega)
  by_cases hr : r = 0
  · exact ⟨0, fun post hp => br_f h1 (br_f h2 (br_f h3 (br_t h4 (br_t hx (br_f h7 ⟨_, hX _ (br_t hr hp)⟩))))), Or.inl ⟨rfl, h5, Or.inr ⟨l, hl, el⟩, fun post hp => br_f h1 (br_f h2 (br_f h3 (br_t h4 (br_f hy (br_f hy6 (br_f hy7 ⟨_, hY _ (br_t hr hp)⟩))))))⟩⟩
  · exact ⟨-4, fun post hp => br_f h1 (br_f h2 (br_f h3 (br_t h4 (br_t hx (br_f h7 ⟨_, hX _ (br_f hr hp)⟩))))), Or.inr ⟨by decide, fun post hp => br_f h1 (br_f h2 (br_f h3 (br_t h4 (br_f hy (br_f hy6 (br_f hy7 ⟨_, hY _ (br_f hr hp)⟩))))))⟩⟩
theorem kr_open {u : SX} {v : SY} (I : kr_R u v) (t key : Int32) : ∃ (r : Int32) (u' : SX) (v' : SY), kr_R u' v' ∧ (∀ post : Int32 → SX → Prop, post r u' → wpX_open post u t key) ∧ (∀ post : Int32 → SY → Prop, post r v' → wpY_open post v t key) := by
  obtain ⟨dN, sN, oN, lst, g, ke, gn, mv, dt, dk, dp, st, sk, sp, si, ss, ko, oo, ni, ns, oi, os, ro, be, rfl, rfl, hI⟩ := I
  obtain ⟨r, hX, hr⟩ := kr_refuse oN dN sN (nI oN) lst g ke gn mv dt dk dp st sk sp si ss ko oo ni ns oi os ro be hI t key
  rcases hr with ⟨r0, h16, hl, hY⟩ | ⟨rn, hY⟩
  · obtain ⟨hd, hs, ho, hT, hT2, hC⟩ := hI
    have hc : (nI dN).toNatClampNeg = dN := kr_c (by omega)
    have hi : vp_in (nI dN) 16 := kr_in h16
    refine ⟨nI (oN + 1), (nI (dN + 1), nI (oN + 1), nI dN, nI sN, g, ke, gn, mv, upd dt dN t, upd dk dN key, upd dp dN lst, st, sk, sp, si, ss, ko, oo, ni, ns), (nI sN, nI (dN + 1), nI dN, nI (oN + 1), g, ke, gn, mv, st, sk, sp, si, ss, upd dt dN t, upd dk dN key, upd dp dN lst, ko, oi, os, ro, be), ?_, ?_, ?_⟩
    · exact kr_mk ⟨by omega, hs, by omega, kr_T_up hT hl, hT2, dN, by omega, rfl, by rw [pk_us]; exact kr_C_up lst oN lst hC⟩
    · intro post hp
      unfold wpX_open
      refine hX _ ?_
      refine br_t r0 ?_
      exact ⟨hi, nm_r (by rw [hc]) ⟨hi, nm_r (by rw [hc]) ⟨hi, nm_r (by rw [hc]) (nm_r (nI_1 dN) (nm_r (nI_1 oN) hp))⟩⟩⟩
    · intro post hp
      refine hY _ ?_
      exact ⟨hi, nm_r (by rw [hc]) ⟨hi, nm_r (by rw [hc]) ⟨hi, nm_r (by rw [hc]) (nm_r (nI_1 dN) (nm_r (nI_1 oN) hp))⟩⟩⟩
  · have r0 : ¬ r = 0 := fun e => by rw [e] at rn; exact absurd rn (by decide)
    refine ⟨r, (nI dN, nI oN, lst, nI sN, g, ke, gn, mv, dt, dk, dp, st, sk, sp, si, ss, ko, oo, ni, ns), (nI sN, nI dN, lst, nI oN, g, ke, gn, mv, st, sk, sp, si, ss, dt, dk, dp, ko, oi, os, ro, be), kr_mk hI, fun post hp => ?_, fun post hp => hY _ hp⟩
    unfold wpX_open
    refine hX _ ?_
    exact br_f r0 hp
theorem kr_close {u : SX} {v : SY} (I : kr_R u v) : ∃ (r : Int32) (u' : SX) (v' : SY), kr_R u' v' ∧ (∀ post : Int32 → SX → Prop, post r u' → wpX_close post u) ∧ (∀ post : Int32 → SY → Prop, post r v' → wpY_close post v) := by
  obtain ⟨dN, sN, oN, lst, g, ke, gn, mv, dt, dk, dp, st, sk, sp, si, ss, ko, oo, ni, ns, oi, os, ro, be, rfl, rfl, hI⟩ := I
  have hI' := hI
  obtain ⟨hd, hs, ho, hT, hT2, hC⟩ := hI'
  by_cases h : lst = -1
  · have e0 : oN = 0 := kr_C_m1 (h ▸ hC) hd
    have e : nI oN = 0 := by rw [e0]; rfl
    exact ⟨-4, _, _, kr_mk hI, fun post hp => br_t h hp, fun post hp => br_t e hp⟩
  · obtain ⟨o', l, eo, hl, el, hC2⟩ := kr_C_ne hC hd h
    have e : ¬ nI oN = 0 := nI_ne0 (by omega) (by omega)
    have hc : lst.toNatClampNeg = l := by rw [el]; exact kr_c (by omega)
    have hi : vp_in lst 16 := by rw [el]; exact kr_in (by omega)
    have ep : nI oN - 1 = nI o' := by rw [eo]; exact nI_pred o'
    refine ⟨nI o', (nI dN, nI o', dp l, nI sN, g, ke, gn, mv, dt, dk, dp, st, sk, sp, si, ss, ko, oo, ni, ns), (nI sN, nI dN, dp l, nI o', g, ke, gn, mv, st, sk, sp, si, ss, dt, dk, dp, ko, oi, os, ro, be), ?_, ?_, ?_⟩
    · exact kr_mk ⟨hd, hs, by omega, hT, hT2, hC2⟩
    · intro post hp
      exact br_f h ⟨hi, nm_r (by rw [hc]) (nm_r ep hp)⟩
    · intro post hp
      exact br_f e ⟨hi, nm_r (by rw [hc]) (nm_r ep hp)⟩
theorem kr_xrec (dN sN : Nat) (op lst g ke gn mv : Int32) (dt dk dp st sk sp si ss ko oo ni ns oi os ro be : Nat → Int32) (hs : sN ≤ 16) (post : Int32 → SX → Prop) (hp : post (nI sN) (nI sN, op, lst, nI sN, g, ke, gn, mv, kr_gl st dt sN, kr_gl sk dk sN, kr_gl sp dp sN, st, sk, sp, si, ss, ko, oo, ni, ns)) : ∀ d j : Nat, j + d = sN → wX_recall_6 post (nI dN) op lst (nI sN) g ke gn mv (d + 1) (nI j) (kr_gl st dt j) (kr_gl sk dk j) (kr_gl sp dp j) st sk sp si ss ko oo ni ns := by
  intro d
  induction d with
  | zero =>
    intro j hj
    have e : j = sN := by omega
    subst e
    exact br_t (kr_le (by omega) (by omega)) hp
  | succ d ih =>
    intro j hj
    have h : ¬ nI sN ≤ nI j := kr_nle (by omega) (by omega)
    have hi : vp_in (nI j) 16 := kr_in (by omega)
    have hc : (nI j).toNatClampNeg = j := kr_c (by omega)
    exact br_f h ⟨hi, hi, nm_r (kr_glc hc (by rw [hc])) ⟨hi, hi, nm_r (kr_glc hc (by rw [hc])) ⟨hi, hi, nm_r (kr_glc hc (by rw [hc])) (nm_r (nI_1 j) (ih (j + 1) (by omega)))⟩⟩⟩
theorem kr_yrec (dN sN : Nat) (op lst g ke gn mv : Int32) (dt dk dp st sk sp si ss ko oo ni ns oi os ro be : Nat → Int32) (hs : sN ≤ 16) (post : Int32 → SY → Prop) (hp : post (nI sN) (nI sN, nI sN, lst, op, g, ke, gn, mv, st, sk, sp, si, ss, kr_gl st dt sN, kr_gl sk dk sN, kr_gl sp dp sN, ko, oi, os, ro, be)) : ∀ d j : Nat, j + d = sN → wY_recall_6 post (nI sN) (nI dN) lst op g ke gn mv (d + 1) (nI j) st sk sp si ss (kr_gl st dt j) (kr_gl sk dk j) (kr_gl sp dp j) ko oi os ro be := by
  intro d
  induction d with
  | zero =>
    intro j hj
    have e : j = sN := by omega
    subst e
    exact br_t (kr_le (by omega) (by omega)) hp
  | succ d ih =>
    intro j hj
    have h : ¬ nI sN ≤ nI j := kr_nle (by omega) (by omega)
    have hi : vp_in (nI j) 16 := kr_in (by omega)
    have hc : (nI j).toNatClampNeg = j := kr_c (by omega)
    exact br_f h ⟨hi, hi, nm_r (kr_glc hc (by rw [hc])) ⟨hi, hi, nm_r (kr_glc hc (by rw [hc])) ⟨hi, hi, nm_r (kr_glc hc (by rw [hc])) (nm_r (nI_1 j) (ih (j + 1) (by omega)))⟩⟩⟩
theorem kr_recall {u : SX} {v : SY} (I : kr_R u v) : ∃ (r : Int32) (u' : SX) (v' : SY), kr_R u' v' ∧ (∀ post : Int32 → SX → Prop, post r u' → wpX_recall post u) ∧ (∀ post : Int32 → SY → Prop, post r v' → wpY_recall post v) := by
  obtain ⟨dN, sN, oN, lst, g, ke, gn, mv, dt, dk, dp, st, sk, sp, si, ss, ko, oo, ni, ns, oi, os, ro, be, rfl, rfl, hI⟩ := I
  obtain ⟨hd, hs, ho, hT, hT2, hC⟩ := hI
  refine ⟨nI sN, (nI sN, nI 0, -1, nI sN, g, ke, gn, mv, kr_gl st dt sN, kr_gl sk dk sN, kr_gl sp dp sN, st, sk, sp, si, ss, ko, oo, ni, ns), (nI sN, nI sN, -1, nI 0, g, ke, gn, mv, st, sk, sp, si, ss, kr_gl st dt sN, kr_gl sk dk sN, kr_gl sp dp sN, ko, oi, os, ro, be), ?_, ?_, ?_⟩
  · exact kr_mk ⟨hs, hs, by omega, kr_T_gl hT2, hT2, rfl⟩
  · intro post hp
    exact ⟨sN + 1, kr_xrec 0 sN (nI 0) (-1) g ke gn mv dt dk dp st sk sp si ss ko oo ni ns oi os ro be hs post hp sN 0 (by omega)⟩
  · intro post hp
    exact ⟨sN + 1, kr_yrec 0 sN (nI 0) (-1) g ke gn mv dt dk dp st sk sp si ss ko oo ni ns oi os ro be hs post hp sN 0 (by omega)⟩
end
section
/-! the showing: which nodes are kept -/
theorem kr_look (i j : Nat) (dN sN : Nat) (op lst g ke gn mv : Int32) (dt dk dp st sk sp si ss ko oo ni ns oi os ro be : Nat → Int32) (hi : i < 16) (hj : j < 16) (post : Int32 → Prop) (h1 : dt i = st j → dk i = sk j → post 1) (h0 : ¬ (dt i = st j ∧ dk i = sk j) → post 0) : wpX_looksLike post (nI dN, op, lst, nI sN, g, ke, gn, mv, dt, dk, dp, st, sk, sp, si, ss, ko, oo, ni, ns) (nI i) (nI j) := by
  have ii : vp_in (nI i) 16 := kr_in hi
  have ij : vp_in (nI j) 16 := kr_in hj
  have ci : (nI i).toNatClampNeg = i := kr_c (by omega)
  have cj : (nI j).toNatClampNeg = j := kr_c (by omega)
  unfold wpX_looksLike
  refine ⟨ii, ij, ?_⟩
  rw [ci, cj]
  exact br_c (fun e1 => ⟨ii, ij, br_c (fun e2 => h1 e1 e2) (fun e2 => h0 (fun z => e2 z.2))⟩) (fun e1 => h0 (fun z => e1 z.1))
theorem kr_srch (i a : Nat) (ky my : Int32) (dN sN : Nat) (op lst g ke gn mv : Int32) (dt dk dp st sk sp si ss ko oo ni ns oi os ro be : Nat → Int32) (hs : sN ≤ 16) (hi : i < 16) : ∀ d j : Nat, j + d = sN → ∃ r : Int32, (r = -1 ∨ ∃ q, q < sN ∧ r = nI q) ∧ (∀ post : Int32 → Prop, post r → wX_shownChildLike_4 post (nI i) (nI a) (nI dN) op lst (nI sN) g ke gn mv dt dk dp st sk sp si ss ko oo ni ns (d + 1) (nI j)) ∧ (∀ post : Int32 → Prop, post r → wY_originOf_40 post (nI i) (nI a) (nI sN) (nI dN) lst op g ky gn my st sk sp si ss dt dk dp ko oi os ro be (d + 1) (nI j)) := by
  have ii : vp_in (nI i) 16 := kr_in hi
  have ci : (nI i).toNatClampNeg = i := kr_c (by omega)
  intro d
  induction d with
  | zero =>
    intro j hj
    have h : nI sN ≤ nI j := kr_le (by omega) (by omega)
    exact ⟨-1, Or.inl rfl, fun _ hp => br_t h hp, fun _ hp => br_t h hp⟩
  | succ d ih =>
    intro j hj
    have h : ¬ nI sN ≤ nI j := kr_nle (by omega) (by omega)
    have ij : vp_in (nI j) 16 := kr_in (by omega)
    have cj : (nI j).toNatClampNeg = j := kr_c (by omega)
    obtain ⟨r, hr, hX, hY⟩ := ih (j + 1) (by omega)
    by_cases z : sp (nI j).toNatClampNeg = nI a
    · by_cases z2 : dt i = st j ∧ dk i = sk j
      · refine ⟨nI j, Or.inr ⟨j, by omega, rfl⟩, fun post hp => br_f h ⟨ij, br_t z ?_⟩, fun post hp => br_f h ⟨ij, br_t z ⟨ij, ii, br_t (by rw [ci, cj]; exact z2.2.symm) ⟨ij, ii, br_t (by rw [ci, cj]; exact z2.1.symm) hp⟩⟩⟩⟩
        exact kr_look i j dN sN op lst g ke gn mv dt dk dp st sk sp si ss ko oo ni ns oi os ro be hi (by omega) _ (fun _ _ => br_f (by decide) hp) (fun n => absurd z2 n)
      · refine ⟨r, hr, fun post hp => br_f h ⟨ij, br_t z ?_⟩, fun post hp => br_f h ⟨ij, br_t z ⟨ij, ii, ?_⟩⟩⟩
        · exact kr_look i j dN sN op lst g ke gn mv dt dk dp st sk sp si ss ko oo ni ns oi os ro be hi (by omega) _ (fun e1 e2 => absurd ⟨e1, e2⟩ z2) (fun _ => br_t rfl (nm_r (nI_1 j) (hX post hp)))
        · refine br_c (fun e2 => ⟨ij, ii, br_f (fun e1 => z2 ?_) (nm_r (nI_1 j) (hY post hp))⟩) (fun _ => nm_r (nI_1 j) (hY post hp))
          rw [ci, cj] at e1 e2
          exact ⟨e1.symm, e2.symm⟩
    · exact ⟨r, hr, fun post hp => br_f h ⟨ij, br_f z (nm_r (nI_1 j) (hX post hp))⟩, fun post hp => br_f h ⟨ij, br_f z (nm_r (nI_1 j) (hY post hp))⟩⟩
theorem kr_yskip (i m n : Nat) (x : Int32) (dN sN : Nat) (op lst g ke gn mv : Int32) (dt dk dp st sk sp si ss ko oo ni ns oi os ro be : Nat → Int32) (hs : sN ≤ 16) (hi : i < 16) (post : Int32 → Prop) (hm : m ≤ sN) (hne : ∀ q, q < m → ¬ sp q = x) (h : wY_originOf_40 post (nI i) x (nI sN) (nI dN) lst op g ke gn mv st sk sp si ss dt dk dp ko oi os ro be n (nI m)) : ∀ d, d ≤ m → wY_originOf_40 post (nI i) x (nI sN) (nI dN) lst op g ke gn mv st sk sp si ss dt dk dp ko oi os ro be (n + d) (nI (m - d)) := by
  intro d
  induction d with
  | zero => intro _; exact h
  | succ d ih =>
    intro hd
    have h1 := ih (by omega)
    have e : m - d = (m - (d + 1)) + 1 := by omega
    rw [e] at h1
    have hl : ¬ nI sN ≤ nI (m - (d + 1)) := kr_nle (by omega) (by omega)
    have ij : vp_in (nI (m - (d + 1))) 16 := kr_in (by omega)
    have cj : (nI (m - (d + 1))).toNatClampNeg = m - (d + 1) := kr_c (by omega)
    exact br_f hl ⟨ij, br_f (by rw [cj]; exact hne _ (by omega)) (nm_r (nI_1 _) h1)⟩
theorem kr_yend (i a : Nat) (x : Int32) (dN sN : Nat) (op lst g ke gn mv : Int32) (dt dk dp st sk sp si ss ko oo ni ns oi os ro be : Nat → Int32) (hs : sN ≤ 16) (hi : i < 16) (post : Int32 → Prop) (hne : ∀ q, a ≤ q → q < sN → ¬ sp q = x) (hp : post (-1)) : ∀ d j : Nat, a ≤ j → j + d = sN → wY_originOf_40 post (nI i) x (nI sN) (nI dN) lst op g ke gn mv st sk sp si ss dt dk dp ko oi os ro be (d + 1) (nI j) := by
  intro d
  induction d with
  | zero =>
    intro j _ hj
    exact br_t (kr_le (by omega) (by omega)) hp
  | succ d ih =>
    intro j ha hj
    have hl : ¬ nI sN ≤ nI j := kr_nle (by omega) (by omega)
    have ij : vp_in (nI j) 16 := kr_in (by omega)
    have cj : (nI j).toNatClampNeg = j := kr_c (by omega)
    exact br_f hl ⟨ij, br_f (by rw [cj]; exact hne j ha (by omega)) (nm_r (nI_1 _) (ih (j + 1) (by omega) (by omega)))⟩
theorem kr_T_nr {p : Nat → Int32} {n q : Nat} (h : kr_T p n) (hn : n ≤ 16) (hq : q < n) (h0 : 1 ≤ q) : ¬ p q = -1 := by
  rcases h q hq with ⟨e, _⟩ | ⟨j, hj, e⟩
  · omega
  · rw [e]; exact kr_n1 (by omega)
theorem kr_T_nb {p : Nat → Int32} {n q a : Nat} (h : kr_T p n) (hn : n ≤ 16) (hq : q < n) (h0 : q ≤ a) (ha : a < 100) : ¬ p q = nI a := by
  rcases h q hq with ⟨_, e⟩ | ⟨j, hj, e⟩
  · rw [e]; exact fun z => kr_n1 ha z.symm
  · rw [e]; intro z
    have := kr_inj z (by omega) ha
    omega
theorem kr_node (i : Nat) (ky my : Int32) (dN sN : Nat) (op lst g ke gn mv : Int32) (dt dk dp st sk sp si ss ko oo ni ns oi os ro be : Nat → Int32) (hd : dN ≤ 16) (hs : sN ≤ 16) (hi : i < dN) (hT : kr_T dp dN) (hT2 : kr_T sp sN) (hk : ∀ q, q < i → ko q = -1 ∨ ∃ j, j < sN ∧ ko q = nI j) : ∃ r : Int32, (r = -1 ∨ ∃ q, q < sN ∧ r = nI q) ∧ (∀ post : Int32 → Prop, post r → wpX_shownNodeLike post (nI dN, op, lst, nI sN, g, ke, gn, mv, dt, dk, dp, st, sk, sp, si, ss, ko, oo, ni, ns) (nI i)) ∧ (∀ post : Int32 → Prop, post r → wpY_originOf post (nI sN, nI dN, lst, op, g, ky, gn, my, st, sk, sp, si, ss, dt, dk, dp, ko, oi, os, ro, be) (nI i)) := by
  have ii : vp_in (nI i) 16 := kr_in (by omega)
  have ci : (nI i).toNatClampNeg = i := kr_c (by omega)
  rcases hT i hi with ⟨e0, e⟩ | ⟨j, hj, e⟩
  · have ex : dp (nI i).toNatClampNeg = -1 := by rw [ci]; exact e
    have m1 : (-1 : Int32) < 0 := by decide
    have m2 : ¬ (0 : Int32) ≤ -1 := by decide
    by_cases h0 : sN = 0
    · have hl : nI sN ≤ 0 := kr_le (b := 0) (by omega) (by omega)
      exact ⟨-1, Or.inl rfl, fun _ hp => ⟨ii, nm_r ex (br_t rfl (br_t hl hp))⟩, fun _ hp => ⟨ii, nm_r ex (br_t m1 (br_f m2 ⟨1, br_t hl hp⟩))⟩⟩
    · have hl : ¬ nI sN ≤ 0 := kr_nle (a := 0) (by omega) (by omega)
      have i0 : vp_in (nI 0) 16 := kr_in (by omega)
      have c0' : (nI 0).toNatClampNeg = 0 := kr_c (by omega)
      have es : sp (nI 0).toNatClampNeg = -1 := by
        rw [c0']
        rcases hT2 0 (by omega) with ⟨_, e⟩ | ⟨j, hj, _⟩
        · exact e
        · omega
      have hne : ∀ q, 1 ≤ q → q < sN → ¬ sp q = -1 := fun q h1 h2 => kr_T_nr hT2 hs h2 h1
      by_cases z2 : dt i = st 0 ∧ dk i = sk 0
      · refine ⟨nI 0, Or.inr ⟨0, by omega, rfl⟩, fun post hp => ⟨ii, nm_r ex (br_t rfl (br_f hl ?_))⟩, fun post hp => ⟨ii, nm_r ex (br_t m1 (br_f m2 ⟨1, ?_⟩))⟩⟩
        · exact kr_look i 0 dN sN op lst g ke gn mv dt dk dp st sk sp si ss ko oo ni ns oi os ro be (by omega) (by omega) _ (fun _ _ => br_f (by decide) hp) (fun n => absurd z2 n)
        · exact br_f hl ⟨i0, br_t es ⟨i0, ii, br_t (by rw [ci]; exact z2.2.symm) ⟨i0, ii, br_t (by rw [ci]; exact z2.1.symm) hp⟩⟩⟩
      · refine ⟨-1, Or.inl rfl, fun post hp => ⟨ii, nm_r ex (br_t rfl (br_f hl ?_))⟩, fun post hp => ⟨ii, nm_r ex (br_t m1 (br_f m2 ⟨(sN - 1 + 1) + 1, ?_⟩))⟩⟩
        · exact kr_look i 0 dN sN op lst g ke gn mv dt dk dp st sk sp si ss ko oo ni ns oi os ro be (by omega) (by omega) _ (fun e1 e2 => absurd ⟨e1, e2⟩ z2) (fun _ => br_t rfl hp)
        · have hY := kr_yend i 1 (-1) dN sN op lst g ky gn my dt dk dp st sk sp si ss ko oo ni ns oi os ro be hs (by omega) post hne hp (sN - 1) 1 (by omega) (by omega)
          refine br_f hl ⟨i0, br_t es ⟨i0, ii, br_c (fun e2 => ⟨i0, ii, br_f (fun e1 => z2 ?_) (nm_e hY)⟩) (fun _ => nm_e hY)⟩⟩
          rw [ci] at e1 e2
          exact ⟨e1.symm, e2.symm⟩
  · have ex : dp (nI i).toNatClampNeg = nI j := by rw [ci]; exact e
    have n1 : ¬ nI j = -1 := kr_n1 (by omega)
    have n2 : ¬ nI j < 0 := kr_pos (by omega)
    have n3 : 0 ≤ nI j := kr_nn (by omega)
    have ij : vp_in (nI j) 16 := kr_in (by omega)
    have cj : (nI j).toNatClampNeg = j := kr_c (by omega)
    rcases hk j (by omega) with ek | ⟨a, ha, ek⟩
    · have ek' : ko (nI j).toNatClampNeg = -1 := by rw [cj]; exact ek
      have m2 : ¬ 0 ≤ ko (nI j).toNatClampNeg := by rw [ek']; decide
      exact ⟨-1, Or.inl rfl, fun _ hp => ⟨ii, nm_r ex (br_f n1 ⟨ij, nm_r ek' (br_t rfl hp)⟩)⟩, fun _ hp => ⟨ii, nm_r ex (br_f n2 ⟨ij, br_f m2 hp⟩)⟩⟩
    · have ek' : ko (nI j).toNatClampNeg = nI a := by rw [cj]; exact ek
      have m2 : 0 ≤ ko (nI j).toNatClampNeg := by rw [ek']; exact kr_nn (by omega)
      obtain ⟨r, hr, hX, hY⟩ := kr_srch i a ky my dN sN op lst g ke gn mv dt dk dp st sk sp si ss ko oo ni ns oi os ro be hs (by omega) (sN - (a + 1)) (a + 1) (by omega)
      refine ⟨r, hr, fun post hp => ⟨ii, nm_r ex (br_f n1 ⟨ij, nm_r ek' (br_f (kr_n1 (by omega)) (nm_r (nI_1 a) ⟨_, hX _ hp⟩))⟩)⟩, fun post hp => ⟨ii, nm_r ex (br_f n2 ⟨ij, br_t m2 (br_t n3 ⟨ij, nm_r ek' ⟨(sN - (a + 1) + 1) + (a + 1), ?_⟩⟩)⟩)⟩⟩
      have hz := kr_yskip i (a + 1) _ (nI a) dN sN op lst g ky gn my dt dk dp st sk sp si ss ko oo ni ns oi os ro be hs (by omega) post (by omega) (fun q hq => kr_T_nb hT2 hs (by omega) (by omega) (by omega)) (hY post hp) (a + 1) (by omega)
      rw [Nat.sub_self] at hz
      exact hz
/-- both walks over the draft, and the count -/
theorem kr_find (my : Int32) (dN sN : Nat) (op lst g ke gn mv : Int32) (dt dk dp st sk sp si ss ko oo ni ns oi os ro be : Nat → Int32) (hd : dN ≤ 16) (hs : sN ≤ 16) (hT : kr_T dp dN) (hT2 : kr_T sp sN) : ∀ d i : Nat, i + d = dN → ∀ (ko : Nat → Int32) (c : Int32), (∀ q, q < i → ko q = -1 ∨ ∃ j, j < sN ∧ ko q = nI j) →
    ∃ (k' : Nat → Int32) (c' : Int32), (∀ q, q < i → k' q = ko q) ∧ (∀ q, q < dN → k' q = -1 ∨ ∃ j, j < sN ∧ k' q = nI j) ∧
    (∀ post : SX → Prop, post (nI dN, op, lst, nI sN, g, ke, gn, mv, dt, dk, dp, st, sk, sp, si, ss, k', oo, ni, ns) → wX_findKeptNodes_2 post (nI dN) op lst (nI sN) g ke gn mv (d + 1) (nI i) dt dk dp st sk sp si ss ko oo ni ns) ∧
    (∀ post : Int32 → Prop, post c' → wX_countKeptNodes_4 post (nI dN) op lst (nI sN) g ke gn mv dt dk dp st sk sp si ss k' oo ni ns (d + 1) c (nI i)) ∧
    (∀ post : Int32 → SY → Prop, (∃ n82 : Nat, wY_show_82 post n82 0 (nI sN) (nI dN) lst op g c' gn my st sk sp si ss dt dk dp k' oi os ro be) → wY_show_29 post (nI sN) (nI dN) lst op g gn my (d + 1) (nI i) c st sk sp si ss dt dk dp ko oi os ro be) := by
  intro d
  induction d with
  | zero =>
    intro i hi ko c hk
    have h : nI dN ≤ nI i := kr_le (by omega) (by omega)
    exact ⟨ko, c, fun _ _ => rfl, fun q hq => hk q (by omega), fun _ hp => br_t h hp, fun _ hp => br_t h hp, fun _ hp => br_t h hp⟩
  | succ d ih =>
    intro i hi ko c hk
    have h : ¬ nI dN ≤ nI i := kr_nle (by omega) (by omega)
    have ii : vp_in (nI i) 16 := kr_in (by omega)
    have ci : (nI i).toNatClampNeg = i := kr_c (by omega)
    obtain ⟨r, hr, hX, hY⟩ := kr_node i c my dN sN op lst g ke gn mv dt dk dp st sk sp si ss ko oo ni ns oi os ro be hd hs (by omega) hT hT2 hk
    have hk1 : ∀ q, q < i + 1 → upd ko i r q = -1 ∨ ∃ j, j < sN ∧ upd ko i r q = nI j := by
      intro q hq
      by_cases e : q = i
      · subst e; rw [pk_us]; exact hr
      · rw [pk_un e]; exact hk q (by omega)
    by_cases hr1 : r = -1
    · obtain ⟨k', c', h1, h2, h3, h4, h5⟩ := ih (i + 1) (by omega) (upd ko i r) c hk1
      have eki : k' i = r := by rw [h1 i (by omega), pk_us]
      refine ⟨k', c', fun q hq => by rw [h1 q (by omega), pk_un (by omega)], h2, ?_, ?_, ?_⟩
      · intro post hp
        refine br_f h (hX _ ?_)
        exact ⟨ii, nm_r (by rw [ci]) (nm_r (nI_1 i) (h3 post hp))⟩
      · intro post hp
        exact br_f h ⟨ii, br_t (by rw [ci, eki]; exact hr1) (nm_r (nI_1 i) (h4 post hp))⟩
      · intro post hp
        refine br_f h (hY _ ?_)
        exact ⟨ii, nm_r (e' := upd ko i r) (by rw [ci]) ⟨ii, br_t (by rw [ci, pk_us, hr1]; decide) (nm_r (nI_1 i) (h5 post hp))⟩⟩
    · obtain ⟨k', c', h1, h2, h3, h4, h5⟩ := ih (i + 1) (by omega) (upd ko i r) (c + 1) hk1
      have eki : k' i = r := by rw [h1 i (by omega), pk_us]
      have hrp : ¬ r < 0 := by
        rcases hr with e | ⟨q, hq, e⟩
        · exact absurd e hr1
        · rw [e]; exact kr_pos (by omega)
      refine ⟨k', c', fun q hq => by rw [h1 q (by omega), pk_un (by omega)], h2, ?_, ?_, ?_⟩
      · intro post hp
        refine br_f h (hX _ ?_)
        exact ⟨ii, nm_r (by rw [ci]) (nm_r (nI_1 i) (h3 post hp))⟩
      · intro post hp
        exact br_f h ⟨ii, br_f (by rw [ci, eki]; exact hr1) (nm_e (nm_r (nI_1 i) (h4 post hp)))⟩
      · intro post hp
        refine br_f h (hY _ ?_)
        exact ⟨ii, nm_r (e' := upd ko i r) (by rw [ci]) ⟨ii, br_f (by rw [ci, pk_us]; exact hrp) (nm_e (nm_r (nI_1 i) (h5 post hp)))⟩⟩
end
section
/-! pure: counting, and the longest rising run, over the places of a row -/
def kr_n (K : Nat → Bool) : Nat → Nat
  | 0 => 0
  | q + 1 => if K q = true then kr_n K q + 1 else kr_n K q
def kr_m (K : Nat → Bool) (k : Nat → Int32) (O : Nat → Nat) (v : Int32) : Nat → Nat
  | 0 => 0
  | q + 1 => if K q = true ∧ k q < v ∧ kr_m K k O v q < O q then O q else kr_m K k O v q
def kr_l (K : Nat → Bool) (O : Nat → Nat) : Nat → Nat
  | 0 => 0
  | q + 1 => if K q = true ∧ kr_l K O q < O q then O q else kr_l K O q
theorem kr_n_t {K : Nat → Bool} {q : Nat} (h : K q = true) : kr_n K (q + 1) = kr_n K q + 1 := if_pos h
theorem kr_n_f {K : Nat → Bool} {q : Nat} (h : K q = false) : kr_n K (q + 1) = kr_n K q := if_neg (by rw [h]; decide)
theorem kr_m_t {K : Nat → Bool} {k : Nat → Int32} {O : Nat → Nat} {v : Int32} {q : Nat} (h : K q = true ∧ k q < v ∧ kr_m K k O v q < O q) : kr_m K k O v (q + 1) = O q := if_pos h
theorem kr_m_f {K : Nat → Bool} {k : Nat → Int32} {O : Nat → Nat} {v : Int32} {q : Nat} (h : ¬ (K q = true ∧ k q < v ∧ kr_m K k O v q < O q)) : kr_m K k O v (q + 1) = kr_m K k O v q := if_neg h
theorem kr_l_t {K : Nat → Bool} {O : Nat → Nat} {q : Nat} (h : K q = true ∧ kr_l K O q < O q) : kr_l K O (q + 1) = O q := if_pos h
theorem kr_l_f {K : Nat → Bool} {O : Nat → Nat} {q : Nat} (h : ¬ (K q = true ∧ kr_l K O q < O q)) : kr_l K O (q + 1) = kr_l K O q := if_neg h
theorem kr_n_s (K : Nat → Bool) (q : Nat) : kr_n K q ≤ kr_n K (q + 1) ∧ kr_n K (q + 1) ≤ kr_n K q + 1 := by
  cases h : K q with
  | true => rw [kr_n_t h]; omega
  | false => rw [kr_n_f h]; omega
theorem kr_n_le (K : Nat → Bool) : ∀ q, kr_n K q ≤ q := by
  intro q
  induction q with
  | zero => exact Nat.le_refl 0
  | succ q ih => have := kr_n_s K q; omega
theorem kr_n_mono (K : Nat → Bool) {p : Nat} : ∀ q, p ≤ q → kr_n K p ≤ kr_n K q := by
  intro q
  induction q with
  | zero => intro h; have e : p = 0 := by omega
            rw [e]; exact Nat.le_refl _
  | succ q ih =>
    intro h
    by_cases e : p = q + 1
    · rw [e]; exact Nat.le_refl _
    · have h1 := ih (by omega)
      have h2 := kr_n_s K q
      omega
theorem kr_n_lt {K : Nat → Bool} {p q : Nat} (hp : K p = true) (h : p < q) : kr_n K p < kr_n K q := by
  have h1 := kr_n_mono K (p := p + 1) q (by omega)
  rw [kr_n_t hp] at h1
  omega
theorem kr_cst (K : Nat → Bool) (k : Nat → Int32) (O : Nat → Nat) {x : Nat} : ∀ y, x ≤ y → (∀ q, x ≤ q → q < y → K q = false) → kr_n K y = kr_n K x ∧ kr_l K O y = kr_l K O x ∧ ∀ v, kr_m K k O v y = kr_m K k O v x := by
  intro y
  induction y with
  | zero => intro h _; have e : x = 0 := by omega
            subst e; exact ⟨rfl, rfl, fun _ => rfl⟩
  | succ y ih =>
    intro h hf
    by_cases e : x = y + 1
    · subst e; exact ⟨rfl, rfl, fun _ => rfl⟩
    · obtain ⟨h1, h2, h3⟩ := ih (by omega) (fun q a b => hf q a (by omega))
      have hy := hf y (by omega) (by omega)
      have hy2 : ¬ K y = true := by rw [hy]; decide
      refine ⟨by rw [kr_n_f hy, h1], by rw [kr_l_f (fun z => hy2 z.1), h2], fun v => ?_⟩
      rw [kr_m_f (fun z => hy2 z.1), h3]
theorem kr_no {K : Nat → Bool} {x n : Nat} (h : kr_n K x = kr_n K n) : ∀ q, x ≤ q → q < n → K q = false := by
  intro q h1 h2
  cases hq : K q with
  | false => rfl
  | true =>
    have a := kr_n_lt hq h2
    have b := kr_n_mono K (p := x) q h1
    omega
theorem kr_next (K : Nat → Bool) {x : Nat} : ∀ n, x ≤ n → kr_n K x < kr_n K n → ∃ p, x ≤ p ∧ p < n ∧ K p = true ∧ ∀ q, x ≤ q → q < p → K q = false := by
  intro n
  induction n with
  | zero => intro h h1; have e : x = 0 := by omega
            subst e; omega
  | succ n ih =>
    intro h h1
    by_cases e : x = n + 1
    · subst e; omega
    · by_cases h2 : kr_n K x < kr_n K n
      · obtain ⟨p, a, b, c, d⟩ := ih (by omega) h2
        exact ⟨p, a, by omega, c, d⟩
      · have h3 := kr_n_mono K (p := x) n (by omega)
        refine ⟨n, by omega, by omega, ?_, kr_no (by omega)⟩
        cases hq : K n with
        | true => rfl
        | false => rw [kr_n_f hq] at h1; omega
theorem kr_m_congr {K : Nat → Bool} {k : Nat → Int32} {O O' : Nat → Nat} {v : Int32} : ∀ p, (∀ q, q < p → O' q = O q) → kr_m K k O' v p = kr_m K k O v p := by
  intro p
  induction p with
  | zero => intro _; rfl
  | succ p ih =>
    intro h
    have h1 := ih (fun q hq => h q (by omega))
    show (if K p = true ∧ k p < v ∧ kr_m K k O' v p < O' p then O' p else kr_m K k O' v p) = (if K p = true ∧ k p < v ∧ kr_m K k O v p < O p then O p else kr_m K k O v p)
    rw [h1, h p (by omega)]
theorem kr_m_le {K : Nat → Bool} {k : Nat → Int32} {O : Nat → Nat} {v : Int32} : ∀ p, (∀ q, q < p → O q ≤ q + 1) → kr_m K k O v p ≤ p := by
  intro p
  induction p with
  | zero => intro _; exact Nat.le_refl 0
  | succ p ih =>
    intro h
    have h1 := ih (fun q hq => h q (by omega))
    have h2 := h p (by omega)
    by_cases z : K p = true ∧ k p < v ∧ kr_m K k O v p < O p
    · rw [kr_m_t z]; exact h2
    · rw [kr_m_f z]; omega
theorem kr_l_le {K : Nat → Bool} {O : Nat → Nat} : ∀ p, (∀ q, q < p → O q ≤ q + 1) → kr_l K O p ≤ p := by
  intro p
  induction p with
  | zero => intro _; exact Nat.le_refl 0
  | succ p ih =>
    intro h
    have h1 := ih (fun q hq => h q (by omega))
    have h2 := h p (by omega)
    by_cases z : K p = true ∧ kr_l K O p < O p
    · rw [kr_l_t z]; exact h2
    · rw [kr_l_f z]; omega
theorem kr_O (K : Nat → Bool) (k : Nat → Int32) : ∀ n, ∃ O : Nat → Nat, (∀ p, p < n → O p = kr_m K k O (k p) p + 1) ∧ (∀ p, p < n → O p ≤ p + 1) := by
  intro n
  induction n with
  | zero => exact ⟨fun _ => 0, fun p hp => absurd hp (Nat.not_lt_zero p), fun p hp => absurd hp (Nat.not_lt_zero p)⟩
  | succ n ih =>
    obtain ⟨O, h1, h2⟩ := ih
    have hlt : ∀ q, q < n → (fun q => if q = n then kr_m K k O (k n) n + 1 else O q) q = O q := fun q hq => if_neg (by omega)
    have hn : (fun q => if q = n then kr_m K k O (k n) n + 1 else O q) n = kr_m K k O (k n) n + 1 := if_pos rfl
    refine ⟨fun q => if q = n then kr_m K k O (k n) n + 1 else O q, fun p hp => ?_, fun p hp => ?_⟩
    · rw [kr_m_congr p (fun q hq => hlt q (by omega))]
      by_cases e : p = n
      · subst e; exact hn
      · rw [hlt p (by omega)]; exact h1 p (by omega)
    · by_cases e : p = n
      · subst e; rw [hn]; have := kr_m_le (K := K) (k := k) (v := k p) p h2; omega
      · rw [hlt p (by omega)]; exact h2 p (by omega)
/-- q is a kept child of a -/
def kr_K (dp ko : Nat → Int32) (a q : Nat) : Bool := decide (dp q = nI a ∧ ¬ ko q = -1)
theorem kr_K_t {dp ko : Nat → Int32} {a q : Nat} (h1 : dp q = nI a) (h2 : ¬ ko q = -1) : kr_K dp ko a q = true := decide_eq_true ⟨h1, h2⟩
theorem kr_K_f {dp ko : Nat → Int32} {a q : Nat} (h : ¬ (dp q = nI a ∧ ¬ ko q = -1)) : kr_K dp ko a q = false := decide_eq_false h
theorem kr_K_o {dp ko : Nat → Int32} {a q : Nat} (h : kr_K dp ko a q = true) : dp q = nI a ∧ ¬ ko q = -1 := of_decide_eq_true h
end
section
/-! the moves -/
theorem kr_isK (a q : Nat) (dN sN : Nat) (op lst g ke gn mv : Int32) (dt dk dp st sk sp si ss ko oo ni ns oi os ro be : Nat → Int32) (hq : q < 16) (post : Int32 → Prop) (h1 : kr_K dp ko a q = true → post 1) (h0 : kr_K dp ko a q = false → post 0) : wpX_isKeptChild post (nI dN, op, lst, nI sN, g, ke, gn, mv, dt, dk, dp, st, sk, sp, si, ss, ko, oo, ni, ns) (nI q) (nI a) := by
  have iq : vp_in (nI q) 16 := kr_in hq
  have cq : (nI q).toNatClampNeg = q := kr_c (by omega)
  unfold wpX_isKeptChild
  refine ⟨iq, ?_⟩
  rw [cq]
  exact br_c (fun e1 => ⟨iq, br_c (fun e2 => h0 (kr_K_f (fun z => z.2 e2))) (fun e2 => h1 (kr_K_t e1 e2))⟩) (fun e1 => h0 (kr_K_f (fun z => e1 z.1)))
theorem kr_lob (a p : Nat) (O : Nat → Nat) (dN sN : Nat) (op lst g ke gn mv : Int32) (dt dk dp st sk sp si ss ko oo ni ns oi os ro be : Nat → Int32) (hp : p < 16) (hO : ∀ q, q < p → O q ≤ q + 1) (ho : ∀ q, q < p → kr_K dp ko a q = true → oo q = nI (O q)) (post : Int32 → Prop) (hpost : post (nI (kr_m (kr_K dp ko a) ko O (ko p) p))) : ∀ d q : Nat, q + d = p → wX_longestOrderBefore_7 post (nI p) (nI a) (nI dN) op lst (nI sN) g ke gn mv dt dk dp st sk sp si ss ko oo ni ns (d + 1) (nI (kr_m (kr_K dp ko a) ko O (ko p) q)) (nI q) := by
  have ip : vp_in (nI p) 16 := kr_in hp
  have cp : (nI p).toNatClampNeg = p := kr_c (by omega)
  intro d
  induction d with
  | zero =>
    intro q hq
    have e : q = p := by omega
    subst e
    exact br_t (kr_le (Nat.le_refl _) (by omega)) hpost
  | succ d ih =>
    intro q hq
    have h : ¬ nI p ≤ nI q := kr_nle (by omega) (by omega)
    have iq : vp_in (nI q) 16 := kr_in (by omega)
    have cq : (nI q).toNatClampNeg = q := kr_c (by omega)
    have hn := ih (q + 1) (by omega)
    refine br_f h (kr_isK a q dN sN op lst g ke gn mv dt dk dp st sk sp si ss ko oo ni ns oi os ro be (by omega) _ (fun hk => br_f (by decide) ⟨iq, ip, ?_⟩) (fun hk => br_t rfl (nm_r (nI_1 q) ?_)))
    · rw [cp, cq]
      by_cases z : ko p ≤ ko q
      · have z2 : ¬ ko q < ko p := Int32.not_lt.mpr z
        rw [kr_m_f (fun y => z2 y.2.1)] at hn
        exact br_t z (nm_r (nI_1 q) hn)
      · have z2 : ko q < ko p := Int32.not_le.mp z
        refine br_f z ⟨iq, ?_⟩
        rw [ho q (by omega) hk]
        have hm : kr_m (kr_K dp ko a) ko O (ko p) q ≤ q := kr_m_le q (fun r hr => hO r (by omega))
        have hOq := hO q (by omega)
        by_cases w : O q ≤ kr_m (kr_K dp ko a) ko O (ko p) q
        · rw [kr_m_f (fun y => by have := y.2.2; omega)] at hn
          exact br_t (kr_le w (by omega)) (nm_r (nI_1 q) hn)
        · rw [kr_m_t ⟨hk, z2, by omega⟩] at hn
          exact br_f (kr_nle (by omega) (by omega)) ⟨iq, nm_e (nm_r (nI_1 q) hn)⟩
    · rw [kr_m_f (fun y => by rw [hk] at y; exact absurd y.1 (by decide))] at hn
      exact hn
theorem kr_x9 (a : Nat) (O : Nat → Nat) (dN sN : Nat) (op lst g ke gn mv : Int32) (dt dk dp st sk sp si ss ko oo ni ns oi os ro be : Nat → Int32) (hd : dN ≤ 16) (hO : ∀ q, q < dN → O q = kr_m (kr_K dp ko a) ko O (ko q) q + 1) (hO2 : ∀ q, q < dN → O q ≤ q + 1) (hz : ∀ v, kr_m (kr_K dp ko a) ko O v (a + 1) = 0) (post : Int32 → SX → Prop) (hp : ∀ o', post (nI (kr_n (kr_K dp ko a) dN) - nI (kr_l (kr_K dp ko a) O dN)) (nI dN, op, lst, nI sN, g, ke, gn, mv, dt, dk, dp, st, sk, sp, si, ss, ko, o', ni, ns)) : ∀ d q : Nat, q + d = dN → a + 1 ≤ q → ∀ oo : Nat → Int32, (∀ r, r < q → kr_K dp ko a r = true → oo r = nI (O r)) → wX_movesAt_9 post (nI a) (nI dN) op lst (nI sN) g ke gn mv (d + 1) (nI (kr_n (kr_K dp ko a) q)) (nI (kr_l (kr_K dp ko a) O q)) (nI q) dt dk dp st sk sp si ss ko oo ni ns := by
  intro d
  induction d with
  | zero =>
    intro q hq _ oo _
    have e : q = dN := by omega
    subst e
    exact br_t (kr_le (Nat.le_refl _) (by omega)) (hp oo)
  | succ d ih =>
    intro q hq ha oo ho
    have h : ¬ nI dN ≤ nI q := kr_nle (by omega) (by omega)
    have iq : vp_in (nI q) 16 := kr_in (by omega)
    have cq : (nI q).toNatClampNeg = q := kr_c (by omega)
    refine br_f h (kr_isK a q dN sN op lst g ke gn mv dt dk dp st sk sp si ss ko oo ni ns oi os ro be (by omega) _ (fun hk => br_f (by decide) ?_) (fun hk => br_t rfl (nm_r (nI_1 q) ?_)))
    · have hl : ∀ post : Int32 → Prop, post (nI (kr_m (kr_K dp ko a) ko O (ko q) q)) → wX_longestOrderBefore_7 post (nI q) (nI a) (nI dN) op lst (nI sN) g ke gn mv dt dk dp st sk sp si ss ko oo ni ns (q - (a + 1) + 1) 0 (nI (a + 1)) := by
        intro post hp
        have h2 := kr_lob a q O dN sN op lst g ke gn mv dt dk dp st sk sp si ss ko oo ni ns oi os ro be (by omega) (fun r hr => hO2 r (by omega)) ho post hp (q - (a + 1)) (a + 1) (by omega)
        rw [hz] at h2
        exact h2
      have hn := ih (q + 1) (by omega) (by omega) (upd oo q (nI (O q))) (fun r hr hkr => by
        by_cases e : r = q
        · subst e; exact pk_us
        · rw [pk_un e]; exact ho r (by omega) hkr)
      rw [kr_n_t hk] at hn
      have hOq := hO2 q (by omega)
      have hlq : kr_l (kr_K dp ko a) O q ≤ q := kr_l_le q (fun r hr => hO2 r (by omega))
      refine nm_r (nI_1 a) ⟨q - (a + 1) + 1, hl _ ?_⟩
      refine ⟨iq, nm_r (e' := upd oo q (nI (O q))) (by rw [cq, nI_1, ← hO q (by omega)]) (nm_r (nI_1 _) ⟨iq, ?_⟩)⟩
      rw [cq, pk_us]
      by_cases w : O q ≤ kr_l (kr_K dp ko a) O q
      · rw [kr_l_f (fun y => by have := y.2; omega)] at hn
        exact br_t (kr_le w (by omega)) (nm_r (nI_1 q) hn)
      · rw [kr_l_t ⟨hk, by omega⟩] at hn
        exact br_f (kr_nle (by omega) (by omega)) ⟨iq, nm_e (nm_r (nI_1 q) hn)⟩
    · have hn := ih (q + 1) (by omega) (by omega) oo (fun r hr hkr => by
        by_cases e : r = q
        · subst e; rw [hk] at hkr; exact absurd hkr (by decide)
        · exact ho r (by omega) hkr)
      rw [kr_n_f hk, kr_l_f (fun y => by rw [hk] at y; exact absurd y.1 (by decide))] at hn
      exact hn
theorem kr_y4 (a : Nat) (dN sN : Nat) (op lst g ke gn mv : Int32) (dt dk dp st sk sp si ss ko oo ni ns oi os ro be : Nat → Int32) (hd : dN ≤ 16) (hs : sN ≤ 16) (hk : ∀ q, q < dN → ko q = -1 ∨ ∃ j, j < sN ∧ ko q = nI j) (post : Int32 → SY → Prop) (hp : ∀ ro : Nat → Int32, (∀ q, q < dN → kr_K dp ko a q = true → ro (kr_n (kr_K dp ko a) q) = ko q) → ∃ n57 : Nat, wY_movesAt_57 post (nI (kr_n (kr_K dp ko a) dN)) (nI sN) (nI dN) lst op g ke gn mv n57 0 0 st sk sp si ss dt dk dp ko oi os ro be) : ∀ d q : Nat, q + d = dN → ∀ ro : Nat → Int32, (∀ r, r < q → kr_K dp ko a r = true → ro (kr_n (kr_K dp ko a) r) = ko r) → wY_movesAt_4 post (nI a) (nI sN) (nI dN) lst op g ke gn mv (d + 1) (nI (kr_n (kr_K dp ko a) q)) (nI q) st sk sp si ss dt dk dp ko oi os ro be := by
  intro d
  induction d with
  | zero =>
    intro q hq ro hr
    have e : q = dN := by omega
    subst e
    exact br_t (kr_le (Nat.le_refl _) (by omega)) (hp ro hr)
  | succ d ih =>
    intro q hq ro hr
    have h : ¬ nI dN ≤ nI q := kr_nle (by omega) (by omega)
    have iq : vp_in (nI q) 16 := kr_in (by omega)
    have cq : (nI q).toNatClampNeg = q := kr_c (by omega)
    have skip : kr_K dp ko a q = false → wY_movesAt_4 post (nI a) (nI sN) (nI dN) lst op g ke gn mv (d + 1) (nI (kr_n (kr_K dp ko a) q)) (nI (q + 1)) st sk sp si ss dt dk dp ko oi os ro be := by
      intro hf
      have hn := ih (q + 1) (by omega) ro (fun r hr1 hkr => by
        by_cases e : r = q
        · subst e; rw [hf] at hkr; exact absurd hkr (by decide)
        · exact hr r (by omega) hkr)
      rw [kr_n_f hf] at hn
      exact hn
    refine br_f h ⟨iq, ?_⟩
    rw [cq]
    by_cases z : dp q = nI a
    · refine br_t z ⟨iq, ?_⟩
      by_cases z2 : ko q = -1
      · exact br_t (by rw [z2]; decide) (nm_r (nI_1 q) (skip (kr_K_f (fun y => y.2 z2))))
      · have hkq := kr_K_t z z2
        have hnn : ¬ ko q < 0 := by
          rcases hk q (by omega) with e | ⟨j, hj, e⟩
          · exact absurd e z2
          · rw [e]; exact kr_pos (by omega)
        have hle := kr_n_le (kr_K dp ko a) q
        have hn := ih (q + 1) (by omega) (upd ro (kr_n (kr_K dp ko a) q) (ko q)) (fun r hr1 hkr => by
          by_cases e : r = q
          · subst e; exact pk_us
          · have hlt := kr_n_lt hkr (show r < q by omega)
            rw [pk_un (by omega)]; exact hr r (by omega) hkr)
        rw [kr_n_t hkq] at hn
        exact br_f hnn ⟨iq, kr_in (by omega), nm_r (by rw [kr_c (by omega)]) (nm_r (nI_1 _) (nm_r (nI_1 q) hn))⟩
    · exact br_f z (nm_r (nI_1 q) (skip (kr_K_f (fun y => z y.1))))
theorem kr_y74 (a p : Nat) (O : Nat → Nat) (dN sN : Nat) (op lst g ke gn mv : Int32) (dt dk dp st sk sp si ss ko oo ni ns oi os ro be : Nat → Int32) (hd : dN ≤ 16) (hpd : p < dN) (hkp : kr_K dp ko a p = true) (hO : ∀ q, q < dN → O q = kr_m (kr_K dp ko a) ko O (ko q) q + 1) (hO2 : ∀ q, q < dN → O q ≤ q + 1) (hr : ∀ q, q < dN → kr_K dp ko a q = true → ro (kr_n (kr_K dp ko a) q) = ko q) (post : Int32 → SY → Prop) (x2 : Int32)
    (J : Int32 → Int32 → (Nat → Int32) → (Nat → Int32) → (Nat → Int32) → (Nat → Int32) → (Nat → Int32) → (Nat → Int32) → (Nat → Int32) → (Nat → Int32) → (Nat → Int32) → (Nat → Int32) → (Nat → Int32) → (Nat → Int32) → (Nat → Int32) → Prop)
    (hJ : ∀ be : Nat → Int32, (∀ q, q < p + 1 → kr_K dp ko a q = true → be (kr_n (kr_K dp ko a) q) = nI (O q)) → J (nI (kr_l (kr_K dp ko a) O (p + 1))) (nI (kr_n (kr_K dp ko a) p + 1)) st sk sp si ss dt dk dp ko oi os ro be) :
    ∀ d j y : Nat, j + d = kr_n (kr_K dp ko a) p → y ≤ p → kr_n (kr_K dp ko a) y = j → ∀ be : Nat → Int32, (∀ q, q < p → kr_K dp ko a q = true → be (kr_n (kr_K dp ko a) q) = nI (O q)) → be (kr_n (kr_K dp ko a) p) = nI (kr_m (kr_K dp ko a) ko O (ko p) y + 1) → wY_movesAt_74 post J x2 (nI (kr_l (kr_K dp ko a) O p)) (nI (kr_n (kr_K dp ko a) p)) (nI sN) (nI dN) lst op g ke gn mv (d + 1) (nI j) st sk sp si ss dt dk dp ko oi os ro be := by
  have hle := kr_n_le (kr_K dp ko a) p
  have im : vp_in (nI (kr_n (kr_K dp ko a) p)) 16 := kr_in (by omega)
  have cm : (nI (kr_n (kr_K dp ko a) p)).toNatClampNeg = kr_n (kr_K dp ko a) p := kr_c (by omega)
  intro d
  induction d with
  | zero =>
    intro j y hj hy hyj be hb hbm
    have hc := (kr_cst (kr_K dp ko a) ko O p hy (kr_no (by omega))).2.2 (ko p)
    rw [← hc, ← hO p hpd] at hbm
    have hOp := hO2 p hpd
    have hlp : kr_l (kr_K dp ko a) O p ≤ p := kr_l_le p (fun r hr => hO2 r (by omega))
    have hn := hJ be (fun q hq hkq => by
      by_cases e : q = p
      · subst e; exact hbm
      · exact hb q (by omega) hkq)
    refine br_t (kr_le (by omega) (by omega)) ⟨im, ?_⟩
    rw [cm, hbm]
    by_cases w : O p ≤ kr_l (kr_K dp ko a) O p
    · rw [kr_l_f (fun z => by have := z.2; omega)] at hn
      exact br_t (kr_le w (by omega)) (nm_r (nI_1 _) hn)
    · rw [kr_l_t ⟨hkp, by omega⟩] at hn
      exact br_f (kr_nle (by omega) (by omega)) ⟨im, nm_e (nm_r (nI_1 _) hn)⟩
  | succ d ih =>
    intro j y hj hy hyj be hb hbm
    obtain ⟨p', h1, h2, h3, h4⟩ := kr_next (kr_K dp ko a) p hy (by omega)
    have hc := kr_cst (kr_K dp ko a) ko O p' h1 h4
    have hjn : kr_n (kr_K dp ko a) p' = j := by rw [hc.1]; exact hyj
    have hm' := hc.2.2 (ko p)
    rw [← hm'] at hbm
    have ij : vp_in (nI j) 16 := kr_in (by omega)
    have cj : (nI j).toNatClampNeg = j := kr_c (by omega)
    have erj : ro j = ko p' := by rw [← hjn]; exact hr p' (by omega) h3
    have erm : ro (kr_n (kr_K dp ko a) p) = ko p := hr p hpd hkp
    have ebj : be j = nI (O p') := by rw [← hjn]; exact hb p' h2 h3
    have hOp := hO2 p' (by omega)
    have hmp : kr_m (kr_K dp ko a) ko O (ko p) p' ≤ p' := kr_m_le p' (fun r hr => hO2 r (by omega))
    have go : ∀ x : Nat, kr_m (kr_K dp ko a) ko O (ko p) (p' + 1) = x → wY_movesAt_74 post J x2 (nI (kr_l (kr_K dp ko a) O p)) (nI (kr_n (kr_K dp ko a) p)) (nI sN) (nI dN) lst op g ke gn mv (d + 1) (nI (j + 1)) st sk sp si ss dt dk dp ko oi os ro (upd be (kr_n (kr_K dp ko a) p) (nI (x + 1))) := by
      intro x hx
      refine ih (j + 1) (p' + 1) (by omega) (by omega) (by rw [kr_n_t h3, hjn]) _ (fun q hq hkq => ?_) ?_
      · have hlt := kr_n_lt hkq hq
        rw [pk_un (by omega)]; exact hb q hq hkq
      · rw [pk_us, hx]
    refine br_f (kr_nle (by omega) (by omega)) ⟨ij, im, ?_⟩
    rw [cm, cj, erj, erm]
    by_cases z : ko p ≤ ko p'
    · have z2 : ¬ ko p' < ko p := Int32.not_lt.mpr z
      exact br_t z ⟨im, im, nm_r (by rw [hbm]) (nm_r (nI_1 j) (go _ (kr_m_f (fun y => z2 y.2.1))))⟩
    · have z2 : ko p' < ko p := Int32.not_le.mp z
      refine br_f z ⟨ij, im, ?_⟩
      rw [ebj, hbm, nI_1]
      by_cases w : O p' ≤ kr_m (kr_K dp ko a) ko O (ko p) p'
      · exact br_t (kr_le (by omega) (by omega)) ⟨im, im, nm_e (nm_r (nI_1 j) (go _ (kr_m_f (fun y => by have := y.2.2; omega))))⟩
      · exact br_f (kr_nle (by omega) (by omega)) ⟨ij, im, nm_e (nm_r (nI_1 j) (go _ (kr_m_t ⟨h3, z2, by omega⟩)))⟩
theorem kr_y57 (a : Nat) (O : Nat → Nat) (dN sN : Nat) (op lst g ke gn mv : Int32) (dt dk dp st sk sp si ss ko oo ni ns oi os ro be : Nat → Int32) (hd : dN ≤ 16) (hO : ∀ q, q < dN → O q = kr_m (kr_K dp ko a) ko O (ko q) q + 1) (hO2 : ∀ q, q < dN → O q ≤ q + 1) (hr : ∀ q, q < dN → kr_K dp ko a q = true → ro (kr_n (kr_K dp ko a) q) = ko q) (post : Int32 → SY → Prop) (hp : ∀ b', post (nI (kr_n (kr_K dp ko a) dN) - nI (kr_l (kr_K dp ko a) O dN)) (nI sN, nI dN, lst, op, g, ke, gn, mv, st, sk, sp, si, ss, dt, dk, dp, ko, oi, os, ro, b')) : ∀ d m x : Nat, m + d = kr_n (kr_K dp ko a) dN → x ≤ dN → kr_n (kr_K dp ko a) x = m → ∀ be : Nat → Int32, (∀ q, q < x → kr_K dp ko a q = true → be (kr_n (kr_K dp ko a) q) = nI (O q)) → wY_movesAt_57 post (nI (kr_n (kr_K dp ko a) dN)) (nI sN) (nI dN) lst op g ke gn mv (d + 1) (nI (kr_l (kr_K dp ko a) O x)) (nI m) st sk sp si ss dt dk dp ko oi os ro be := by
  have hle := kr_n_le (kr_K dp ko a) dN
  intro d
  induction d with
  | zero =>
    intro m x hm hx hxm be hb
    have hc := (kr_cst (kr_K dp ko a) ko O dN hx (kr_no (by omega))).2.1
    rw [← hc]
    exact br_t (kr_le (by omega) (by omega)) (hp be)
  | succ d ih =>
    intro m x hm hx hxm be hb
    obtain ⟨p, h1, h2, h3, h4⟩ := kr_next (kr_K dp ko a) dN hx (by omega)
    have hc := kr_cst (kr_K dp ko a) ko O p h1 h4
    have hmn : kr_n (kr_K dp ko a) p = m := by rw [hc.1]; exact hxm
    have im : vp_in (nI m) 16 := kr_in (by omega)
    have cm : (nI m).toNatClampNeg = m := kr_c (by omega)
    rw [← hc.2.1]
    refine br_f (kr_nle (by omega) (by omega)) ⟨im, nm_r (e' := upd be m (nI 1)) (by rw [cm]; rfl) ⟨m + 1, ?_⟩⟩
    have h7 := kr_y74 a p O dN sN op lst g ke gn mv dt dk dp st sk sp si ss ko oo ni ns oi os ro be hd h2 h3 hO hO2 hr post (nI (kr_n (kr_K dp ko a) dN)) (wY_movesAt_57 post (nI (kr_n (kr_K dp ko a) dN)) (nI sN) (nI dN) lst op g ke gn mv (d + 1)) (fun be hb => ih _ (p + 1) (by omega) (by omega) (kr_n_t h3) be hb) m 0 0 (by omega) (by omega) rfl (upd be m (nI 1)) (fun q hq hkq => by
      have hlt := kr_n_lt hkq hq
      rw [pk_un (by omega)]
      refine hb q ?_ hkq
      apply Classical.byContradiction
      intro hn
      have := h4 q (by omega) hq
      rw [this] at hkq
      exact absurd hkq (by decide)) (by rw [hmn, pk_us]; rfl)
    rw [hmn] at h7
    exact h7
theorem kr_moves (a dN sN : Nat) (dp ko : Nat → Int32) (hd : dN ≤ 16) (hs : sN ≤ 16) (ha : a < dN) (hT : kr_T dp dN) (hk : ∀ q, q < dN → ko q = -1 ∨ ∃ j, j < sN ∧ ko q = nI j) : ∃ r : Int32,
    (∀ (op lst g ke gn mv : Int32) (dt dk st sk sp si ss oo ni ns : Nat → Int32) (post : Int32 → SX → Prop), (∀ oo : Nat → Int32, post r (nI dN, op, lst, nI sN, g, ke, gn, mv, dt, dk, dp, st, sk, sp, si, ss, ko, oo, ni, ns)) → wpX_movesAt post (nI dN, op, lst, nI sN, g, ke, gn, mv, dt, dk, dp, st, sk, sp, si, ss, ko, oo, ni, ns) (nI a)) ∧
    (∀ (op lst g ke gn mv : Int32) (dt dk st sk sp si ss oi os ro be : Nat → Int32) (post : Int32 → SY → Prop), (∀ ro be : Nat → Int32, post r (nI sN, nI dN, lst, op, g, ke, gn, mv, st, sk, sp, si, ss, dt, dk, dp, ko, oi, os, ro, be)) → wpY_movesAt post (nI sN, nI dN, lst, op, g, ke, gn, mv, st, sk, sp, si, ss, dt, dk, dp, ko, oi, os, ro, be) (nI a)) := by
  obtain ⟨O, hO, hO2⟩ := kr_O (kr_K dp ko a) ko dN
  have h0 := kr_cst (kr_K dp ko a) ko O (x := 0) (a + 1) (by omega) (fun q _ hq => kr_K_f (fun z => kr_T_nb hT hd (show q < dN by omega) (show q ≤ a by omega) (by omega) z.1))
  refine ⟨nI (kr_n (kr_K dp ko a) dN) - nI (kr_l (kr_K dp ko a) O dN), ?_, ?_⟩
  · intro op lst g ke gn mv dt dk st sk sp si ss oo ni ns post hp
    have h := kr_x9 a O dN sN op lst g ke gn mv dt dk dp st sk sp si ss ko oo ni ns oo oo oo oo hd hO hO2 (fun v => h0.2.2 v) post hp (dN - (a + 1)) (a + 1) (by omega) (by omega) oo (fun r hr hkr => by
      rw [kr_K_f (fun z => kr_T_nb hT hd (show r < dN by omega) (show r ≤ a by omega) (by omega) z.1)] at hkr
      exact absurd hkr (by decide))
    rw [h0.1, h0.2.1] at h
    exact nm_r (nI_1 a) ⟨_, h⟩
  · intro op lst g ke gn mv dt dk st sk sp si ss oi os ro be post hp
    refine ⟨dN + 1, ?_⟩
    refine kr_y4 a dN sN op lst g ke gn mv dt dk dp st sk sp si ss ko be be be oi os ro be hd hs hk post (fun ro hr => ⟨kr_n (kr_K dp ko a) dN + 1, ?_⟩) dN 0 (by omega) ro (fun r hr _ => absurd hr (Nat.not_lt_zero r))
    exact kr_y57 a O dN sN op lst g ke gn mv dt dk dp st sk sp si ss ko be be be oi os ro be hd hO hO2 hr post (fun b' => hp ro b') _ 0 0 (by omega) (by omega) rfl be (fun q hq _ => absurd hq (Nat.not_lt_zero q))
end
section
/-! the showing: the sum of the moves, the names, the new tree -/
theorem kr_cm (dN sN : Nat) (dp ko : Nat → Int32) (hd : dN ≤ 16) (hs : sN ≤ 16) (hT : kr_T dp dN) (hk : ∀ q, q < dN → ko q = -1 ∨ ∃ j, j < sN ∧ ko q = nI j) : ∀ d i : Nat, i + d = dN → ∀ s : Int32, ∃ s' : Int32,
    (∀ (op lst g ke gn mv : Int32) (dt dk st sk sp si ss oo ni ns : Nat → Int32) (post : Int32 → SX → Prop), (∀ oo : Nat → Int32, post s' (nI dN, op, lst, nI sN, g, ke, gn, mv, dt, dk, dp, st, sk, sp, si, ss, ko, oo, ni, ns)) → wX_countMoves_4 post (d + 1) s (nI i) (nI dN) op lst (nI sN) g ke gn mv dt dk dp st sk sp si ss ko oo ni ns) ∧
    (∀ (op lst g ke gn : Int32) (dt dk st sk sp si ss oi os ro be : Nat → Int32) (post : Int32 → SY → Prop), (∀ ro be : Nat → Int32, ∃ n125 : Nat, wY_show_125 post (nI sN) (nI dN) lst op g ke (nI sN - ke) s' n125 0 st sk sp si ss dt dk dp ko oi os ro be) → wY_show_82 post (d + 1) (nI i) (nI sN) (nI dN) lst op g ke gn s st sk sp si ss dt dk dp ko oi os ro be) := by
  intro d
  induction d with
  | zero =>
    intro i hi s
    have h : nI dN ≤ nI i := kr_le (by omega) (by omega)
    refine ⟨s, ?_, ?_⟩
    · intro op lst g ke gn mv dt dk st sk sp si ss oo ni ns post hp
      exact br_t h (hp oo)
    · intro op lst g ke gn dt dk st sk sp si ss oi os ro be post hp
      exact br_t h (nm_e (hp ro be))
  | succ d ih =>
    intro i hi s
    have h : ¬ nI dN ≤ nI i := kr_nle (by omega) (by omega)
    obtain ⟨r, hX, hY⟩ := kr_moves i dN sN dp ko hd hs (by omega) hT hk
    obtain ⟨s', hX2, hY2⟩ := ih (i + 1) (by omega) (s + r)
    refine ⟨s', ?_, ?_⟩
    · intro op lst g ke gn mv dt dk st sk sp si ss oo ni ns post hp
      refine br_f h (hX op lst g ke gn mv dt dk st sk sp si ss oo ni ns _ ?_)
      intro oo
      exact nm_e (nm_r (nI_1 i) (hX2 op lst g ke gn mv dt dk st sk sp si ss oo ni ns post hp))
    · intro op lst g ke gn dt dk st sk sp si ss oi os ro be post hp
      refine br_f h (hY op lst g ke gn s dt dk st sk sp si ss oi os ro be _ ?_)
      intro ro be
      exact nm_e (nm_r (nI_1 i) (hY2 op lst g ke gn dt dk st sk sp si ss oi os ro be post hp))
/-- the ids given before place i -/
def kr_g (ko : Nat → Int32) (g : Int32) : Nat → Int32
  | 0 => g
  | i + 1 => if ko i = -1 then kr_g ko g i + 1 else kr_g ko g i
def kr_id (ko si : Nat → Int32) (g : Int32) (i : Nat) : Int32 := if ko i = -1 then kr_g ko g i else si (ko i).toNatClampNeg
def kr_sv (ko ss : Nat → Int32) (i : Nat) : Int32 := if ko i = -1 then 0 else ss (ko i).toNatClampNeg
theorem kr_g_t {ko : Nat → Int32} {g : Int32} {i : Nat} (h : ko i = -1) : kr_g ko g i + 1 = kr_g ko g (i + 1) := (if_pos h).symm
theorem kr_g_f {ko : Nat → Int32} {g : Int32} {i : Nat} (h : ¬ ko i = -1) : kr_g ko g (i + 1) = kr_g ko g i := if_neg h
theorem kr_id_t {ko si : Nat → Int32} {g : Int32} {i : Nat} (h : ko i = -1) : kr_g ko g i = kr_id ko si g i := (if_pos h).symm
theorem kr_id_f {ko si : Nat → Int32} {g : Int32} {i : Nat} (h : ¬ ko i = -1) : si (ko i).toNatClampNeg = kr_id ko si g i := (if_neg h).symm
theorem kr_sv_t {ko ss : Nat → Int32} {i : Nat} (h : ko i = -1) : 0 = kr_sv ko ss i := (if_pos h).symm
theorem kr_sv_f {ko ss : Nat → Int32} {i : Nat} (h : ¬ ko i = -1) : ss (ko i).toNatClampNeg = kr_sv ko ss i := (if_neg h).symm
theorem kr_xname (dN sN : Nat) (op lst g ke gn mv : Int32) (dt dk dp st sk sp si ss ko oo ni ns oi os ro be : Nat → Int32) (hd : dN ≤ 16) (hs : sN ≤ 16) (hk : ∀ q, q < dN → ko q = -1 ∨ ∃ j, j < sN ∧ ko q = nI j) (post : SX → Prop) (hp : post (nI dN, op, lst, nI sN, kr_g ko g dN, ke, gn, mv, dt, dk, dp, st, sk, sp, si, ss, ko, oo, kr_gl (kr_id ko si g) ni dN, kr_gl (kr_sv ko ss) ns dN)) : ∀ d i : Nat, i + d = dN → wX_nameNodes_2 post (nI dN) op lst (nI sN) ke gn mv (d + 1) (nI i) (kr_g ko g i) dt dk dp st sk sp si ss ko oo (kr_gl (kr_id ko si g) ni i) (kr_gl (kr_sv ko ss) ns i) := by
  intro d
  induction d with
  | zero =>
    intro i hi
    have e : i = dN := by omega
    subst e
    exact br_t (kr_le (Nat.le_refl _) (by omega)) hp
  | succ d ih =>
    intro i hi
    have h : ¬ nI dN ≤ nI i := kr_nle (by omega) (by omega)
    have ii : vp_in (nI i) 16 := kr_in (by omega)
    have ci : (nI i).toNatClampNeg = i := kr_c (by omega)
    have hn := ih (i + 1) (by omega)
    refine br_f h ⟨ii, nm_r (e' := ko i) (by rw [ci]) ?_⟩
    by_cases z : ko i = -1
    · exact br_t z ⟨ii, nm_r (kr_glc ci (kr_id_t z)) ⟨ii, nm_r (kr_glc ci (kr_sv_t z)) (nm_r (kr_g_t z) (nm_r (nI_1 i) hn))⟩⟩
    · have ik : vp_in (ko i) 16 := by
        rcases hk i (by omega) with e | ⟨j, hj, e⟩
        · exact absurd e z
        · rw [e]; exact kr_in (by omega)
      rw [kr_g_f z] at hn
      exact br_f z ⟨ik, ii, nm_r (kr_glc ci (kr_id_f z)) ⟨ik, ii, nm_r (kr_glc ci (kr_sv_f z)) (nm_r (nI_1 i) hn)⟩⟩
theorem kr_xrep (ID SV : Nat → Int32) (dN sN : Nat) (op lst g ke gn mv : Int32) (dt dk dp st sk sp si ss ko oo ni ns oi os ro be : Nat → Int32) (hd : dN ≤ 16) (hid : ∀ q, q < dN → ni q = ID q) (hsv : ∀ q, q < dN → ns q = SV q) (post : SX → Prop) (hp : post (nI dN, op, lst, nI dN, g, ke, gn, mv, dt, dk, dp, kr_gl dt st dN, kr_gl dk sk dN, kr_gl dp sp dN, kr_gl ID si dN, kr_gl SV ss dN, ko, oo, ni, ns)) : ∀ d i : Nat, i + d = dN → wX_replaceShownTree_2 post (nI dN) op lst (nI sN) g ke gn mv (d + 1) (nI i) dt dk dp (kr_gl dt st i) (kr_gl dk sk i) (kr_gl dp sp i) (kr_gl ID si i) (kr_gl SV ss i) ko oo ni ns := by
  intro d
  induction d with
  | zero =>
    intro i hi
    have e : i = dN := by omega
    subst e
    exact br_t (kr_le (Nat.le_refl _) (by omega)) hp
  | succ d ih =>
    intro i hi
    have h : ¬ nI dN ≤ nI i := kr_nle (by omega) (by omega)
    have ii : vp_in (nI i) 16 := kr_in (by omega)
    have ci : (nI i).toNatClampNeg = i := kr_c (by omega)
    have hn := ih (i + 1) (by omega)
    exact br_f h ⟨ii, ii, nm_r (kr_glc ci (by rw [ci])) ⟨ii, ii, nm_r (kr_glc ci (by rw [ci])) ⟨ii, ii, nm_r (kr_glc ci (by rw [ci])) ⟨ii, ii, nm_r (kr_glc ci (by rw [ci]; exact hid i (by omega))) ⟨ii, ii, nm_r (kr_glc ci (by rw [ci]; exact hsv i (by omega))) (nm_r (nI_1 i) hn)⟩⟩⟩⟩⟩
theorem kr_y125 (dN sN : Nat) (op lst g ke gn mv : Int32) (dt dk dp st sk sp si ss ko oo ni ns oi os ro be : Nat → Int32) (hs : sN ≤ 16) (post : Int32 → SY → Prop) (hp : ∃ n173 : Nat, wY_show_173 post (nI dN) (nI dN) lst op ke gn mv n173 0 g st sk sp si ss dt dk dp ko (kr_gl si oi sN) (kr_gl ss os sN) ro be) : ∀ d i : Nat, i + d = sN → wY_show_125 post (nI sN) (nI dN) lst op g ke gn mv (d + 1) (nI i) st sk sp si ss dt dk dp ko (kr_gl si oi i) (kr_gl ss os i) ro be := by
  intro d
  induction d with
  | zero =>
    intro i hi
    have e : i = sN := by omega
    subst e
    exact br_t (kr_le (Nat.le_refl _) (by omega)) hp
  | succ d ih =>
    intro i hi
    have h : ¬ nI sN ≤ nI i := kr_nle (by omega) (by omega)
    have ii : vp_in (nI i) 16 := kr_in (by omega)
    have ci : (nI i).toNatClampNeg = i := kr_c (by omega)
    have hn := ih (i + 1) (by omega)
    exact br_f h ⟨ii, ii, nm_r (kr_glc ci (by rw [ci])) ⟨ii, ii, nm_r (kr_glc ci (by rw [ci])) (nm_r (nI_1 i) hn)⟩⟩
theorem kr_y173 (dN sN : Nat) (op lst g ke gn mv : Int32) (dt dk dp st sk sp si ss ko oo ni ns oi os ro be : Nat → Int32) (hd : dN ≤ 16) (hs : sN ≤ 16) (hk : ∀ q, q < dN → ko q = -1 ∨ ∃ j, j < sN ∧ ko q = nI j) (hoi : ∀ q, q < sN → oi q = si q) (hos : ∀ q, q < sN → os q = ss q) (post : Int32 → SY → Prop) (hp : post (nI dN - ke) (nI dN, nI 0, -1, nI 0, kr_g ko g dN, ke, gn, mv, kr_gl dt st dN, kr_gl dk sk dN, kr_gl dp sp dN, kr_gl (kr_id ko si g) si dN, kr_gl (kr_sv ko ss) ss dN, dt, dk, dp, ko, oi, os, ro, be)) : ∀ d i : Nat, i + d = dN → wY_show_173 post (nI dN) (nI dN) lst op ke gn mv (d + 1) (nI i) (kr_g ko g i) (kr_gl dt st i) (kr_gl dk sk i) (kr_gl dp sp i) (kr_gl (kr_id ko si g) si i) (kr_gl (kr_sv ko ss) ss i) dt dk dp ko oi os ro be := by
  intro d
  induction d with
  | zero =>
    intro i hi
    have e : i = dN := by omega
    subst e
    exact br_t (kr_le (Nat.le_refl _) (by omega)) hp
  | succ d ih =>
    intro i hi
    have h : ¬ nI dN ≤ nI i := kr_nle (by omega) (by omega)
    have ii : vp_in (nI i) 16 := kr_in (by omega)
    have ci : (nI i).toNatClampNeg = i := kr_c (by omega)
    have hn := ih (i + 1) (by omega)
    refine br_f h ⟨ii, ii, nm_r (kr_glc ci (by rw [ci])) ⟨ii, ii, nm_r (kr_glc ci (by rw [ci])) ⟨ii, ii, nm_r (kr_glc ci (by rw [ci])) ⟨ii, ?_⟩⟩⟩⟩
    by_cases z : ko i = -1
    · have z0 : ko (nI i).toNatClampNeg < 0 := by rw [ci, z]; decide
      exact br_t z0 ⟨ii, nm_r (kr_glc ci (kr_id_t z)) ⟨ii, br_t z0 ⟨ii, nm_r (kr_glc ci (kr_sv_t z)) ⟨ii, br_t z0 (nm_r (kr_g_t z) (nm_r (nI_1 i) hn))⟩⟩⟩⟩
    · rcases hk i (by omega) with e | ⟨j, hj, e⟩
      · exact absurd e z
      · have z0 : ¬ ko (nI i).toNatClampNeg < 0 := by rw [ci, e]; exact kr_pos (by omega)
        have ik : vp_in (ko (nI i).toNatClampNeg) 16 := by rw [ci, e]; exact kr_in (by omega)
        have cj : (nI j).toNatClampNeg = j := kr_c (by omega)
        have e1 : oi (ko (nI i).toNatClampNeg).toNatClampNeg = kr_id ko si g i := by rw [ci, ← kr_id_f z, e, cj]; exact hoi j hj
        have e2 : os (ko (nI i).toNatClampNeg).toNatClampNeg = kr_sv ko ss i := by rw [ci, ← kr_sv_f z, e, cj]; exact hos j hj
        rw [kr_g_f z] at hn
        exact br_f z0 ⟨ii, ik, ii, nm_r (kr_glc ci e1) ⟨ii, br_f z0 ⟨ii, ik, ii, nm_r (kr_glc ci e2) ⟨ii, br_f z0 (nm_r (nI_1 i) hn)⟩⟩⟩⟩
theorem kr_show {u : SX} {v : SY} (I : kr_R u v) : ∃ (r : Int32) (U : SX → Prop) (V : SY → Prop), (∀ u' v', U u' → V v' → kr_R u' v') ∧ (∀ post : Int32 → SX → Prop, (∀ u', U u' → post r u') → wpX_show post u) ∧ (∀ post : Int32 → SY → Prop, (∀ v', V v' → post r v') → wpY_show post v) := by
  obtain ⟨dN, sN, oN, lst, g, ke, gn, mv, dt, dk, dp, st, sk, sp, si, ss, ko, oo, ni, ns, oi, os, ro, be, rfl, rfl, hI⟩ := I
  have hI' := hI
  obtain ⟨hd, hs, ho, hT, hT2, hC⟩ := hI'
  by_cases h0 : dN = 0
  · have e0 : nI dN = 0 := by rw [h0]; rfl
    exact ⟨-4, fun u' => u' = (nI dN, nI oN, lst, nI sN, g, ke, gn, mv, dt, dk, dp, st, sk, sp, si, ss, ko, oo, ni, ns), fun v' => v' = (nI sN, nI dN, lst, nI oN, g, ke, gn, mv, st, sk, sp, si, ss, dt, dk, dp, ko, oi, os, ro, be), fun u' v' eu ev => by rw [eu, ev]; exact kr_mk hI, fun post hp => br_t e0 (hp _ rfl), fun post hp => br_t e0 (hp _ rfl)⟩
  have e0 : ¬ nI dN = 0 := nI_ne0 (by omega) (by omega)
  by_cases hl : lst = -1
  case neg =>
    obtain ⟨o', l, eo, hl2, el, hC2⟩ := kr_C_ne hC hd hl
    have e1 : ¬ nI oN ≤ 0 := kr_nle (a := 0) (by omega) (by omega)
    exact ⟨-4, fun u' => u' = (nI dN, nI oN, lst, nI sN, g, ke, gn, mv, dt, dk, dp, st, sk, sp, si, ss, ko, oo, ni, ns), fun v' => v' = (nI sN, nI dN, lst, nI oN, g, ke, gn, mv, st, sk, sp, si, ss, dt, dk, dp, ko, oi, os, ro, be), fun u' v' eu ev => by rw [eu, ev]; exact kr_mk hI, fun post hp => br_f e0 (br_f hl (hp _ rfl)), fun post hp => br_f e0 (br_f e1 (hp _ rfl))⟩
  have eo : oN = 0 := kr_C_m1 (hl ▸ hC) hd
  have e1 : nI oN ≤ 0 := kr_le (b := 0) (by omega) (by omega)
  obtain ⟨k', c', _, hk, hXf, hXc, hYf⟩ := kr_find 0 dN sN (nI oN) lst g ke gn mv dt dk dp st sk sp si ss ko oo ni ns oi os ro be hd hs hT hT2 dN 0 (by omega) ko 0 (fun q hq => absurd hq (Nat.not_lt_zero q))
  obtain ⟨s', hXm, hYm⟩ := kr_cm dN sN dp k' hd hs hT hk dN 0 (by omega) 0
  refine ⟨nI dN - c', fun u' => ∃ oo : Nat → Int32, u' = (nI 0, nI 0, -1, nI dN, kr_g k' g dN, c', nI sN - c', s', dt, dk, dp, kr_gl dt st dN, kr_gl dk sk dN, kr_gl dp sp dN, kr_gl (kr_id k' si g) si dN, kr_gl (kr_sv k' ss) ss dN, k', oo, kr_gl (kr_id k' si g) ni dN, kr_gl (kr_sv k' ss) ns dN),
    fun v' => ∃ ro be : Nat → Int32, v' = (nI dN, nI 0, -1, nI 0, kr_g k' g dN, c', nI sN - c', s', kr_gl dt st dN, kr_gl dk sk dN, kr_gl dp sp dN, kr_gl (kr_id k' si g) si dN, kr_gl (kr_sv k' ss) ss dN, dt, dk, dp, k', kr_gl si oi sN, kr_gl ss os sN, ro, be), ?_, ?_, ?_⟩
  · intro u' v' hu hv
    obtain ⟨oo', rfl⟩ := hu
    obtain ⟨ro', be', rfl⟩ := hv
    exact kr_mk ⟨by omega, hd, by omega, kr_T0 _, kr_T_gl hT, rfl⟩
  · intro post hp
    refine br_f e0 (br_t hl ⟨_, hXf _ ?_⟩)
    refine ⟨_, hXc _ ?_⟩
    refine nm_e (nm_e ⟨_, hXm (nI oN) lst g c' (nI sN - c') mv dt dk st sk sp si ss oo ni ns _ ?_⟩)
    intro oo
    refine ⟨_, kr_xname dN sN (nI oN) lst g c' (nI sN - c') s' dt dk dp st sk sp si ss k' oo ni ns oi os ro be hd hs hk _ ?_ dN 0 (by omega)⟩
    refine ⟨_, kr_xrep (kr_id k' si g) (kr_sv k' ss) dN sN (nI oN) lst (kr_g k' g dN) c' (nI sN - c') s' dt dk dp st sk sp si ss k' oo (kr_gl (kr_id k' si g) ni dN) (kr_gl (kr_sv k' ss) ns dN) oi os ro be hd (fun q hq => kr_gl_lt _ _ _ _ hq) (fun q hq => kr_gl_lt _ _ _ _ hq) _ ?_ dN 0 (by omega)⟩
    exact hp _ ⟨oo, rfl⟩
  · intro post hp
    refine br_f e0 (br_t e1 ⟨_, hYf _ ⟨_, hYm (nI oN) lst g c' gn dt dk st sk sp si ss oi os ro be _ ?_⟩⟩)
    intro ro be
    refine ⟨_, kr_y125 dN sN (nI oN) lst g c' (nI sN - c') s' dt dk dp st sk sp si ss k' oo ni ns oi os ro be hs post ⟨dN + 1, ?_⟩ sN 0 (by omega)⟩
    exact kr_y173 dN sN (nI oN) lst g c' (nI sN - c') s' dt dk dp st sk sp si ss k' oo ni ns (kr_gl si oi sN) (kr_gl ss os sN) ro be hd hs hk (fun q hq => kr_gl_lt _ _ _ _ hq) (fun q hq => kr_gl_lt _ _ _ _ hq) post (hp _ ⟨ro, be, rfl⟩) dN 0 (by omega)
end
section
/-! leaf, and the methods that read -/
theorem kr_leaf {u : SX} {v : SY} (I : kr_R u v) (t key : Int32) : ∃ (r : Int32) (u' : SX) (v' : SY), kr_R u' v' ∧ (∀ post : Int32 → SX → Prop, post r u' → wpX_leaf post u t key) ∧ (∀ post : Int32 → SY → Prop, post r v' → wpY_leaf post v t key) := by
  obtain ⟨dN, sN, oN, lst, g, ke, gn, mv, dt, dk, dp, st, sk, sp, si, ss, ko, oo, ni, ns, oi, os, ro, be, rfl, rfl, hI⟩ := I
  obtain ⟨r, u', v', R, hX, hY⟩ := kr_open (kr_mk (g := g) (ke := ke) (gn := gn) (mv := mv) (dt := dt) (dk := dk) (st := st) (sk := sk) (si := si) (ss := ss) (ko := ko) (oo := oo) (ni := ni) (ns := ns) (oi := oi) (os := os) (ro := ro) (be := be) hI) t key
  by_cases h : 0 ≤ r
  · obtain ⟨r2, u2, v2, R2, hX2, hY2⟩ := kr_close R
    obtain ⟨dN1, sN1, oN1, lst1, g1, ke1, gn1, mv1, dt1, dk1, dp1, st1, sk1, sp1, si1, ss1, ko1, oo1, ni1, ns1, oi1, os1, ro1, be1, rfl, rfl, hI1⟩ := R
    obtain ⟨dN2, sN2, oN2, lst2, g2, ke2, gn2, mv2, dt2, dk2, dp2, st2, sk2, sp2, si2, ss2, ko2, oo2, ni2, ns2, oi2, os2, ro2, be2, rfl, rfl, hI2⟩ := R2
    refine ⟨r2, (nI dN2, nI oN2, lst2, nI sN2, g2, ke2, gn2, mv2, dt2, dk2, dp2, st2, sk2, sp2, si2, ss2, ko2, oo2, ni2, ns2), (nI sN2, nI dN2, lst2, nI oN2, g2, ke2, gn2, mv2, st2, sk2, sp2, si2, ss2, dt2, dk2, dp2, ko2, oi2, os2, ro2, be2), kr_mk hI2, ?_, ?_⟩
    · intro post hp
      unfold wpX_leaf
      refine hX _ ?_
      refine br_t h ?_
      refine hX2 _ ?_
      exact hp
    · intro post hp
      unfold wpY_leaf
      refine hY _ ?_
      refine br_t h ?_
      refine hY2 _ ?_
      exact hp
  · obtain ⟨dN1, sN1, oN1, lst1, g1, ke1, gn1, mv1, dt1, dk1, dp1, st1, sk1, sp1, si1, ss1, ko1, oo1, ni1, ns1, oi1, os1, ro1, be1, rfl, rfl, hI1⟩ := R
    refine ⟨r, (nI dN1, nI oN1, lst1, nI sN1, g1, ke1, gn1, mv1, dt1, dk1, dp1, st1, sk1, sp1, si1, ss1, ko1, oo1, ni1, ns1), (nI sN1, nI dN1, lst1, nI oN1, g1, ke1, gn1, mv1, st1, sk1, sp1, si1, ss1, dt1, dk1, dp1, ko1, oi1, os1, ro1, be1), kr_mk hI1, ?_, ?_⟩
    · intro post hp
      unfold wpX_leaf
      refine hX _ ?_
      exact br_f h hp
    · intro post hp
      unfold wpY_leaf
      refine hY _ ?_
      exact br_f h hp
theorem kr_p3 (x : Int32) {n : Nat} (hn : n ≤ 16) : (x < 0 ∨ (¬ x < 0 ∧ nI n ≤ x)) ∨ ∃ j, j < n ∧ x = nI j := by
  by_cases h : x < 0
  · exact Or.inl (Or.inl h)
  · rcases pk_ix x (n := n) (by omega) with h1 | h1 | h1
    · exact absurd h1 h
    · exact Or.inl (Or.inr ⟨h, h1⟩)
    · exact Or.inr h1
theorem kr_xno (x : Int32) (dN sN : Nat) (op lst g ke gn mv : Int32) (dt dk dp st sk sp si ss ko oo ni ns oi os ro be : Nat → Int32) (h : x < 0 ∨ (¬ x < 0 ∧ nI sN ≤ x)) (post : Int32 → Prop) (hp : post 0) : wpX_isPlace post (nI dN, op, lst, nI sN, g, ke, gn, mv, dt, dk, dp, st, sk, sp, si, ss, ko, oo, ni, ns) x := by
  rcases h with h | ⟨h1, h2⟩
  · exact br_t h hp
  · exact br_f h1 (br_t h2 hp)
theorem kr_yno (x : Int32) (dN sN : Nat) (op lst g ke gn mv : Int32) (dt dk dp st sk sp si ss ko oo ni ns oi os ro be : Nat → Int32) (h : x < 0 ∨ (¬ x < 0 ∧ nI sN ≤ x)) (post : Int32 → Prop) (hp : post 0) : wpY_isPlace post (nI sN, nI dN, lst, op, g, ke, gn, mv, st, sk, sp, si, ss, dt, dk, dp, ko, oi, os, ro, be) x := by
  rcases h with h | ⟨h1, h2⟩
  · exact br_t h hp
  · exact br_f h1 (br_t h2 hp)
theorem kr_xyes (j : Nat) (dN sN : Nat) (op lst g ke gn mv : Int32) (dt dk dp st sk sp si ss ko oo ni ns oi os ro be : Nat → Int32) (hs : sN ≤ 16) (hj : j < sN) (post : Int32 → Prop) (hp : post 1) : wpX_isPlace post (nI dN, op, lst, nI sN, g, ke, gn, mv, dt, dk, dp, st, sk, sp, si, ss, ko, oo, ni, ns) (nI j) :=
  br_f (kr_pos (by omega)) (br_f (kr_nle hj (by omega)) hp)
theorem kr_yyes (j : Nat) (dN sN : Nat) (op lst g ke gn mv : Int32) (dt dk dp st sk sp si ss ko oo ni ns oi os ro be : Nat → Int32) (hs : sN ≤ 16) (hj : j < sN) (post : Int32 → Prop) (hp : post 1) : wpY_isPlace post (nI sN, nI dN, lst, op, g, ke, gn, mv, st, sk, sp, si, ss, dt, dk, dp, ko, oi, os, ro, be) (nI j) :=
  br_f (kr_pos (by omega)) (br_f (kr_nle hj (by omega)) hp)
theorem kr_plc (x : Int32) (dN sN : Nat) (op lst g ke gn mv : Int32) (dt dk dp st sk sp si ss ko oo ni ns oi os ro be : Nat → Int32) (hs : sN ≤ 16) : ∀ d j : Nat, j + d = sN → ∃ r : Int32, (∀ post : Int32 → Prop, post r → wX_place_2 post x (nI dN) op lst (nI sN) g ke gn mv dt dk dp st sk sp si ss ko oo ni ns (d + 1) (nI j)) ∧ (∀ post : Int32 → Prop, post r → wY_place_2 post x (nI sN) (nI dN) lst op g ke gn mv st sk sp si ss dt dk dp ko oi os ro be (d + 1) (nI j)) := by
  intro d
  induction d with
  | zero =>
    intro j hj
    have h : nI sN ≤ nI j := kr_le (by omega) (by omega)
    exact ⟨-4, fun _ hp => br_t h hp, fun _ hp => br_t h hp⟩
  | succ d ih =>
    intro j hj
    have h : ¬ nI sN ≤ nI j := kr_nle (by omega) (by omega)
    have hi : vp_in (nI j) 16 := kr_in (by omega)
    obtain ⟨r, hX, hY⟩ := ih (j + 1) (by omega)
    by_cases z : si (nI j).toNatClampNeg = x
    · exact ⟨nI j, fun _ hp => br_f h ⟨hi, br_t z hp⟩, fun _ hp => br_f h ⟨hi, br_t z hp⟩⟩
    · exact ⟨r, fun post hp => br_f h ⟨hi, br_f z (nm_r (nI_1 j) (hX post hp))⟩, fun post hp => br_f h ⟨hi, br_f z (nm_r (nI_1 j) (hY post hp))⟩⟩
theorem kr_chl (x : Int32) (dN sN : Nat) (op lst g ke gn mv : Int32) (dt dk dp st sk sp si ss ko oo ni ns oi os ro be : Nat → Int32) (hs : sN ≤ 16) : ∀ d j : Nat, j + d = sN → ∀ c : Int32, ∃ r : Int32, (∀ post : Int32 → Prop, post r → wX_children_17 post x (nI dN) op lst (nI sN) g ke gn mv dt dk dp st sk sp si ss ko oo ni ns (d + 1) c (nI j)) ∧ (∀ post : Int32 → Prop, post r → wY_children_15 post x (nI sN) (nI dN) lst op g ke gn mv st sk sp si ss dt dk dp ko oi os ro be (d + 1) c (nI j)) := by
  intro d
  induction d with
  | zero =>
    intro j hj c
    have h : nI sN ≤ nI j := kr_le (by omega) (by omega)
    exact ⟨c, fun _ hp => br_t h hp, fun _ hp => br_t h hp⟩
  | succ d ih =>
    intro j hj c
    have h : ¬ nI sN ≤ nI j := kr_nle (by omega) (by omega)
    have hi : vp_in (nI j) 16 := kr_in (by omega)
    by_cases z : sp (nI j).toNatClampNeg = x
    · obtain ⟨r, hX, hY⟩ := ih (j + 1) (by omega) (c + 1)
      exact ⟨r, fun post hp => br_f h ⟨hi, br_t z (nm_e (nm_r (nI_1 j) (hX post hp)))⟩, fun post hp => br_f h ⟨hi, br_t z (nm_e (nm_r (nI_1 j) (hY post hp)))⟩⟩
    · obtain ⟨r, hX, hY⟩ := ih (j + 1) (by omega) c
      exact ⟨r, fun post hp => br_f h ⟨hi, br_f z (nm_r (nI_1 j) (hX post hp))⟩, fun post hp => br_f h ⟨hi, br_f z (nm_r (nI_1 j) (hY post hp))⟩⟩
theorem kr_chs (x : Int32) (m n : Nat) (c : Int32) (dN sN : Nat) (op lst g ke gn mv : Int32) (dt dk dp st sk sp si ss ko oo ni ns oi os ro be : Nat → Int32) (hs : sN ≤ 16) (post : Int32 → Prop) (hm : m ≤ sN) (hne : ∀ q, q < m → ¬ sp q = x) (h : wY_children_15 post x (nI sN) (nI dN) lst op g ke gn mv st sk sp si ss dt dk dp ko oi os ro be n c (nI m)) : ∀ d, d ≤ m → wY_children_15 post x (nI sN) (nI dN) lst op g ke gn mv st sk sp si ss dt dk dp ko oi os ro be (n + d) c (nI (m - d)) := by
  intro d
  induction d with
  | zero => intro _; exact h
  | succ d ih =>
    intro hd
    have h1 := ih (by omega)
    have e : m - d = (m - (d + 1)) + 1 := by omega
    rw [e] at h1
    have hl : ¬ nI sN ≤ nI (m - (d + 1)) := kr_nle (by omega) (by omega)
    have ij : vp_in (nI (m - (d + 1))) 16 := kr_in (by omega)
    have cj : (nI (m - (d + 1))).toNatClampNeg = m - (d + 1) := kr_c (by omega)
    exact br_f hl ⟨ij, br_f (by rw [cj]; exact hne _ (by omega)) (nm_r (nI_1 _) h1)⟩
theorem kr_dig (dN sN : Nat) (op lst g ke gn mv : Int32) (dt dk dp st sk sp si ss ko oo ni ns oi os ro be : Nat → Int32) (hs : sN ≤ 16) : ∀ d j : Nat, j + d = sN → ∀ c : Int32, ∃ r : Int32, (∀ post : Int32 → Prop, post r → wX_digest_4 post (nI dN) op lst (nI sN) g ke gn mv dt dk dp st sk sp si ss ko oo ni ns (d + 1) c (nI j)) ∧ (∀ post : Int32 → Prop, post r → wY_digest_4 post (nI sN) (nI dN) lst op g ke gn mv st sk sp si ss dt dk dp ko oi os ro be (d + 1) c (nI j)) := by
  intro d
  induction d with
  | zero =>
    intro j hj c
    have h : nI sN ≤ nI j := kr_le (by omega) (by omega)
    exact ⟨c, fun _ hp => br_t h hp, fun _ hp => br_t h hp⟩
  | succ d ih =>
    intro j hj c
    have h : ¬ nI sN ≤ nI j := kr_nle (by omega) (by omega)
    have hi : vp_in (nI j) 16 := kr_in (by omega)
    obtain ⟨r, hX, hY⟩ := ih (j + 1) (by omega) (c + (((nI j + 1) * (si (nI j).toNatClampNeg + 1)) * (ss (nI j).toNatClampNeg + 1)))
    exact ⟨r, fun post hp => br_f h ⟨hi, hi, nm_e (nm_r (nI_1 j) (hX post hp))⟩, fun post hp => br_f h ⟨hi, hi, nm_e (nm_r (nI_1 j) (hY post hp))⟩⟩
end
section
/-! what is owed (the heads are the owed ones) -/
def i_Rel (k : Nat) (u : SX) (v : SY) : Prop := kr_R u v
theorem i_up {k : Nat} {u : SX} {v : SY} (h : i_Rel k u v) : i_Rel (k + 3) u v := h
theorem i_vc0 : wpX_init (fun u => wpY_init (fun v => i_Rel 0 u v)) := kr_mk (dN := 0) (sN := 0) (oN := 0) ⟨by decide, by decide, by decide, kr_T0 _, kr_T0 _, rfl⟩
theorem i_vc_open {k : Nat} {u : SX} {v : SY} (I : i_Rel k u v) (hk : k + 3 ≤ 1536) (v1 : Int32) (v2 : Int32) : wpX_open (fun r u' => wpY_open (fun r' v' => r' = r ∧ i_Rel (k + 3) u' v') v v1 v2) u v1 v2 := by
  obtain ⟨r, u', v', R, hX, hY⟩ := kr_open I v1 v2
  exact hX _ (hY _ ⟨rfl, R⟩)
theorem i_vc_close {k : Nat} {u : SX} {v : SY} (I : i_Rel k u v) (hk : k + 3 ≤ 1536) : wpX_close (fun r u' => wpY_close (fun r' v' => r' = r ∧ i_Rel (k + 3) u' v') v) u := by
  obtain ⟨r, u', v', R, hX, hY⟩ := kr_close I
  exact hX _ (hY _ ⟨rfl, R⟩)
theorem i_vc_leaf {k : Nat} {u : SX} {v : SY} (I : i_Rel k u v) (hk : k + 3 ≤ 1536) (v1 : Int32) (v2 : Int32) : wpX_leaf (fun r u' => wpY_leaf (fun r' v' => r' = r ∧ i_Rel (k + 3) u' v') v v1 v2) u v1 v2 := by
  obtain ⟨r, u', v', R, hX, hY⟩ := kr_leaf I v1 v2
  exact hX _ (hY _ ⟨rfl, R⟩)
theorem i_vc_scrap {k : Nat} {u : SX} {v : SY} (I : i_Rel k u v) (hk : k + 3 ≤ 1536) : wpX_scrap (fun u' => wpY_scrap (fun v' => i_Rel (k + 3) u' v') v) u := by
  obtain ⟨dN, sN, oN, lst, g, ke, gn, mv, dt, dk, dp, st, sk, sp, si, ss, ko, oo, ni, ns, oi, os, ro, be, rfl, rfl, hI⟩ := I
  obtain ⟨hd, hs, ho, hT, hT2, hC⟩ := hI
  exact kr_mk (dN := 0) (oN := 0) ⟨by omega, hs, by omega, kr_T0 _, hT2, rfl⟩
theorem i_vc_drafted {k : Nat} {u : SX} {v : SY} (I : i_Rel k u v) (hk : k + 3 ≤ 1536) : wpX_drafted (fun r => wpY_drafted (fun r' => r' = r ∧ i_Rel (k + 3) u v) v) u := by
  obtain ⟨dN, sN, oN, lst, g, ke, gn, mv, dt, dk, dp, st, sk, sp, si, ss, ko, oo, ni, ns, oi, os, ro, be, rfl, rfl, hI⟩ := I
  exact ⟨rfl, kr_mk hI⟩
theorem i_vc_recall {k : Nat} {u : SX} {v : SY} (I : i_Rel k u v) (hk : k + 3 ≤ 1536) : wpX_recall (fun r u' => wpY_recall (fun r' v' => r' = r ∧ i_Rel (k + 3) u' v') v) u := by
  obtain ⟨r, u', v', R, hX, hY⟩ := kr_recall I
  exact hX _ (hY _ ⟨rfl, R⟩)
theorem i_vc_show {k : Nat} {u : SX} {v : SY} (I : i_Rel k u v) (hk : k + 3 ≤ 1536) : wpX_show (fun r u' => wpY_show (fun r' v' => r' = r ∧ i_Rel (k + 3) u' v') v) u := by
  obtain ⟨r, U, V, R, hX, hY⟩ := kr_show I
  exact hX _ (fun u' hu => hY _ (fun v' hv => ⟨rfl, R u' v' hu hv⟩))
theorem i_vc_kept {k : Nat} {u : SX} {v : SY} (I : i_Rel k u v) (hk : k + 3 ≤ 1536) : wpX_kept (fun r => wpY_kept (fun r' => r' = r ∧ i_Rel (k + 3) u v) v) u := by
  obtain ⟨dN, sN, oN, lst, g, ke, gn, mv, dt, dk, dp, st, sk, sp, si, ss, ko, oo, ni, ns, oi, os, ro, be, rfl, rfl, hI⟩ := I
  exact ⟨rfl, kr_mk hI⟩
theorem i_vc_gone {k : Nat} {u : SX} {v : SY} (I : i_Rel k u v) (hk : k + 3 ≤ 1536) : wpX_gone (fun r => wpY_gone (fun r' => r' = r ∧ i_Rel (k + 3) u v) v) u := by
  obtain ⟨dN, sN, oN, lst, g, ke, gn, mv, dt, dk, dp, st, sk, sp, si, ss, ko, oo, ni, ns, oi, os, ro, be, rfl, rfl, hI⟩ := I
  exact ⟨rfl, kr_mk hI⟩
theorem i_vc_moves {k : Nat} {u : SX} {v : SY} (I : i_Rel k u v) (hk : k + 3 ≤ 1536) : wpX_moves (fun r => wpY_moves (fun r' => r' = r ∧ i_Rel (k + 3) u v) v) u := by
  obtain ⟨dN, sN, oN, lst, g, ke, gn, mv, dt, dk, dp, st, sk, sp, si, ss, ko, oo, ni, ns, oi, os, ro, be, rfl, rfl, hI⟩ := I
  exact ⟨rfl, kr_mk hI⟩
theorem i_vc_size {k : Nat} {u : SX} {v : SY} (I : i_Rel k u v) (hk : k + 3 ≤ 1536) : wpX_size (fun r => wpY_size (fun r' => r' = r ∧ i_Rel (k + 3) u v) v) u := by
  obtain ⟨dN, sN, oN, lst, g, ke, gn, mv, dt, dk, dp, st, sk, sp, si, ss, ko, oo, ni, ns, oi, os, ro, be, rfl, rfl, hI⟩ := I
  exact ⟨rfl, kr_mk hI⟩
theorem i_vc_id {k : Nat} {u : SX} {v : SY} (I : i_Rel k u v) (hk : k + 3 ≤ 1536) (v1 : Int32) : wpX_id (fun r => wpY_id (fun r' => r' = r ∧ i_Rel (k + 3) u v) v v1) u v1 := by
  obtain ⟨dN, sN, oN, lst, g, ke, gn, mv, dt, dk, dp, st, sk, sp, si, ss, ko, oo, ni, ns, oi, os, ro, be, rfl, rfl, hI⟩ := I
  have hs := hI.2.1
  rcases kr_p3 v1 hs with h | ⟨j, hj, rfl⟩
  · unfold wpX_id
    refine kr_xno v1 dN sN (nI oN) lst g ke gn mv dt dk dp st sk sp si ss ko oo ni ns oi os ro be h _ ?_
    refine br_t rfl ?_
    unfold wpY_id
    refine kr_yno v1 dN sN (nI oN) lst g ke gn mv dt dk dp st sk sp si ss ko oo ni ns oi os ro be h _ ?_
    exact br_t rfl ⟨rfl, kr_mk hI⟩
  · have ij : vp_in (nI j) 16 := kr_in (by omega)
    unfold wpX_id
    refine kr_xyes j dN sN (nI oN) lst g ke gn mv dt dk dp st sk sp si ss ko oo ni ns oi os ro be hs hj _ ?_
    refine br_f (by decide) ?_
    refine ⟨ij, ?_⟩
    unfold wpY_id
    refine kr_yyes j dN sN (nI oN) lst g ke gn mv dt dk dp st sk sp si ss ko oo ni ns oi os ro be hs hj _ ?_
    refine br_f (by decide) ?_
    exact ⟨ij, rfl, kr_mk hI⟩
theorem i_vc_kind {k : Nat} {u : SX} {v : SY} (I : i_Rel k u v) (hk : k + 3 ≤ 1536) (v1 : Int32) : wpX_kind (fun r => wpY_kind (fun r' => r' = r ∧ i_Rel (k + 3) u v) v v1) u v1 := by
  obtain ⟨dN, sN, oN, lst, g, ke, gn, mv, dt, dk, dp, st, sk, sp, si, ss, ko, oo, ni, ns, oi, os, ro, be, rfl, rfl, hI⟩ := I
  have hs := hI.2.1
  rcases kr_p3 v1 hs with h | ⟨j, hj, rfl⟩
  · unfold wpX_kind
    refine kr_xno v1 dN sN (nI oN) lst g ke gn mv dt dk dp st sk sp si ss ko oo ni ns oi os ro be h _ ?_
    refine br_t rfl ?_
    unfold wpY_kind
    refine kr_yno v1 dN sN (nI oN) lst g ke gn mv dt dk dp st sk sp si ss ko oo ni ns oi os ro be h _ ?_
    exact br_t rfl ⟨rfl, kr_mk hI⟩
  · have ij : vp_in (nI j) 16 := kr_in (by omega)
    unfold wpX_kind
    refine kr_xyes j dN sN (nI oN) lst g ke gn mv dt dk dp st sk sp si ss ko oo ni ns oi os ro be hs hj _ ?_
    refine br_f (by decide) ?_
    refine ⟨ij, ij, ?_⟩
    unfold wpY_kind
    refine kr_yyes j dN sN (nI oN) lst g ke gn mv dt dk dp st sk sp si ss ko oo ni ns oi os ro be hs hj _ ?_
    refine br_f (by decide) ?_
    exact ⟨ij, ij, rfl, kr_mk hI⟩
theorem i_vc_state {k : Nat} {u : SX} {v : SY} (I : i_Rel k u v) (hk : k + 3 ≤ 1536) (v1 : Int32) : wpX_state (fun r => wpY_state (fun r' => r' = r ∧ i_Rel (k + 3) u v) v v1) u v1 := by
  obtain ⟨dN, sN, oN, lst, g, ke, gn, mv, dt, dk, dp, st, sk, sp, si, ss, ko, oo, ni, ns, oi, os, ro, be, rfl, rfl, hI⟩ := I
  have hs := hI.2.1
  rcases kr_p3 v1 hs with h | ⟨j, hj, rfl⟩
  · unfold wpX_state
    refine kr_xno v1 dN sN (nI oN) lst g ke gn mv dt dk dp st sk sp si ss ko oo ni ns oi os ro be h _ ?_
    refine br_t rfl ?_
    unfold wpY_state
    refine kr_yno v1 dN sN (nI oN) lst g ke gn mv dt dk dp st sk sp si ss ko oo ni ns oi os ro be h _ ?_
    exact br_t rfl ⟨rfl, kr_mk hI⟩
  · have ij : vp_in (nI j) 16 := kr_in (by omega)
    unfold wpX_state
    refine kr_xyes j dN sN (nI oN) lst g ke gn mv dt dk dp st sk sp si ss ko oo ni ns oi os ro be hs hj _ ?_
    refine br_f (by decide) ?_
    refine ⟨ij, ?_⟩
    unfold wpY_state
    refine kr_yyes j dN sN (nI oN) lst g ke gn mv dt dk dp st sk sp si ss ko oo ni ns oi os ro be hs hj _ ?_
    refine br_f (by decide) ?_
    exact ⟨ij, rfl, kr_mk hI⟩
theorem i_vc_put {k : Nat} {u : SX} {v : SY} (I : i_Rel k u v) (hk : k + 3 ≤ 1536) (v1 : Int32) (v2 : Int32) : wpX_put (fun r u' => wpY_put (fun r' v' => r' = r ∧ i_Rel (k + 3) u' v') v v1 v2) u v1 v2 := by
  obtain ⟨dN, sN, oN, lst, g, ke, gn, mv, dt, dk, dp, st, sk, sp, si, ss, ko, oo, ni, ns, oi, os, ro, be, rfl, rfl, hI⟩ := I
  have hs := hI.2.1
  rcases kr_p3 v1 hs with h | ⟨j, hj, rfl⟩
  · unfold wpX_put
    refine kr_xno v1 dN sN (nI oN) lst g ke gn mv dt dk dp st sk sp si ss ko oo ni ns oi os ro be h _ ?_
    refine br_t rfl ?_
    unfold wpY_put
    refine kr_yno v1 dN sN (nI oN) lst g ke gn mv dt dk dp st sk sp si ss ko oo ni ns oi os ro be h _ ?_
    exact br_t rfl ⟨rfl, kr_mk hI⟩
  · have ij : vp_in (nI j) 16 := kr_in (by omega)
    by_cases h2 : 0 ≤ v2
    · unfold wpX_put
      refine kr_xyes j dN sN (nI oN) lst g ke gn mv dt dk dp st sk sp si ss ko oo ni ns oi os ro be hs hj _ ?_
      refine br_f (by decide) (br_t h2 ⟨ij, nm_e ⟨ij, nm_e ?_⟩⟩)
      unfold wpY_put
      refine kr_yyes j dN sN (nI oN) lst g ke gn mv dt dk dp st sk sp si ss ko oo ni ns oi os ro be hs hj _ ?_
      exact br_f (by decide) (br_t h2 ⟨ij, nm_e ⟨ij, nm_e ⟨rfl, kr_mk hI⟩⟩⟩)
    · unfold wpX_put
      refine kr_xyes j dN sN (nI oN) lst g ke gn mv dt dk dp st sk sp si ss ko oo ni ns oi os ro be hs hj _ ?_
      refine br_f (by decide) (br_f h2 ?_)
      unfold wpY_put
      refine kr_yyes j dN sN (nI oN) lst g ke gn mv dt dk dp st sk sp si ss ko oo ni ns oi os ro be hs hj _ ?_
      exact br_f (by decide) (br_f h2 ⟨rfl, kr_mk hI⟩)
theorem i_vc_place {k : Nat} {u : SX} {v : SY} (I : i_Rel k u v) (hk : k + 3 ≤ 1536) (v1 : Int32) : wpX_place (fun r => wpY_place (fun r' => r' = r ∧ i_Rel (k + 3) u v) v v1) u v1 := by
  obtain ⟨dN, sN, oN, lst, g, ke, gn, mv, dt, dk, dp, st, sk, sp, si, ss, ko, oo, ni, ns, oi, os, ro, be, rfl, rfl, hI⟩ := I
  obtain ⟨r, hX, hY⟩ := kr_plc v1 dN sN (nI oN) lst g ke gn mv dt dk dp st sk sp si ss ko oo ni ns oi os ro be hI.2.1 sN 0 (by omega)
  exact ⟨_, hX _ ⟨_, hY _ ⟨rfl, kr_mk hI⟩⟩⟩
theorem i_vc_parent {k : Nat} {u : SX} {v : SY} (I : i_Rel k u v) (hk : k + 3 ≤ 1536) (v1 : Int32) : wpX_parent (fun r => wpY_parent (fun r' => r' = r ∧ i_Rel (k + 3) u v) v v1) u v1 := by
  obtain ⟨dN, sN, oN, lst, g, ke, gn, mv, dt, dk, dp, st, sk, sp, si, ss, ko, oo, ni, ns, oi, os, ro, be, rfl, rfl, hI⟩ := I
  have hs := hI.2.1
  rcases kr_p3 v1 hs with h | ⟨j, hj, rfl⟩
  · unfold wpX_parent
    refine kr_xno v1 dN sN (nI oN) lst g ke gn mv dt dk dp st sk sp si ss ko oo ni ns oi os ro be h _ ?_
    refine br_t rfl ?_
    unfold wpY_parent
    refine kr_yno v1 dN sN (nI oN) lst g ke gn mv dt dk dp st sk sp si ss ko oo ni ns oi os ro be h _ ?_
    exact br_t rfl ⟨rfl, kr_mk hI⟩
  · have ij : vp_in (nI j) 16 := kr_in (by omega)
    by_cases h2 : j = 0
    · have e1 : nI j = 0 := by rw [h2]; rfl
      have e2 : nI j ≤ 0 := kr_le (b := 0) (by omega) (by omega)
      unfold wpX_parent
      refine kr_xyes j dN sN (nI oN) lst g ke gn mv dt dk dp st sk sp si ss ko oo ni ns oi os ro be hs hj _ ?_
      refine br_f (by decide) (br_t e1 ?_)
      unfold wpY_parent
      refine kr_yyes j dN sN (nI oN) lst g ke gn mv dt dk dp st sk sp si ss ko oo ni ns oi os ro be hs hj _ ?_
      exact br_f (by decide) (br_t e2 ⟨rfl, kr_mk hI⟩)
    · have e1 : ¬ nI j = 0 := nI_ne0 (by omega) (by omega)
      have e2 : ¬ nI j ≤ 0 := kr_nle (a := 0) (by omega) (by omega)
      unfold wpX_parent
      refine kr_xyes j dN sN (nI oN) lst g ke gn mv dt dk dp st sk sp si ss ko oo ni ns oi os ro be hs hj _ ?_
      refine br_f (by decide) (br_f e1 ⟨ij, ?_⟩)
      unfold wpY_parent
      refine kr_yyes j dN sN (nI oN) lst g ke gn mv dt dk dp st sk sp si ss ko oo ni ns oi os ro be hs hj _ ?_
      exact br_f (by decide) (br_f e2 ⟨ij, rfl, kr_mk hI⟩)
theorem i_vc_children {k : Nat} {u : SX} {v : SY} (I : i_Rel k u v) (hk : k + 3 ≤ 1536) (v1 : Int32) : wpX_children (fun r => wpY_children (fun r' => r' = r ∧ i_Rel (k + 3) u v) v v1) u v1 := by
  obtain ⟨dN, sN, oN, lst, g, ke, gn, mv, dt, dk, dp, st, sk, sp, si, ss, ko, oo, ni, ns, oi, os, ro, be, rfl, rfl, hI⟩ := I
  have hs := hI.2.1
  rcases kr_p3 v1 hs with h | ⟨j, hj, rfl⟩
  · unfold wpX_children
    refine kr_xno v1 dN sN (nI oN) lst g ke gn mv dt dk dp st sk sp si ss ko oo ni ns oi os ro be h _ ?_
    refine br_t rfl ?_
    unfold wpY_children
    refine kr_yno v1 dN sN (nI oN) lst g ke gn mv dt dk dp st sk sp si ss ko oo ni ns oi os ro be h _ ?_
    exact br_t rfl ⟨rfl, kr_mk hI⟩
  · obtain ⟨r, hX, hY⟩ := kr_chl (nI j) dN sN (nI oN) lst g ke gn mv dt dk dp st sk sp si ss ko oo ni ns oi os ro be hs (sN - (j + 1)) (j + 1) (by omega) 0
    unfold wpX_children
    refine kr_xyes j dN sN (nI oN) lst g ke gn mv dt dk dp st sk sp si ss ko oo ni ns oi os ro be hs hj _ ?_
    refine br_f (by decide) (nm_r (nI_1 j) ⟨_, hX _ ?_⟩)
    unfold wpY_children
    refine kr_yyes j dN sN (nI oN) lst g ke gn mv dt dk dp st sk sp si ss ko oo ni ns oi os ro be hs hj _ ?_
    refine br_f (by decide) ⟨(sN - (j + 1) + 1) + (j + 1), ?_⟩
    have hz := kr_chs (nI j) (j + 1) _ 0 dN sN (nI oN) lst g ke gn mv dt dk dp st sk sp si ss ko oo ni ns oi os ro be hs _ (by omega) (fun q hq => kr_T_nb hI.2.2.2.2.1 hs (by omega) (by omega) (by omega)) (hY (fun r' => r' = r ∧ i_Rel (k + 3) (nI dN, nI oN, lst, nI sN, g, ke, gn, mv, dt, dk, dp, st, sk, sp, si, ss, ko, oo, ni, ns) (nI sN, nI dN, lst, nI oN, g, ke, gn, mv, st, sk, sp, si, ss, dt, dk, dp, ko, oi, os, ro, be)) ⟨rfl, kr_mk hI⟩) (j + 1) (by omega)
    rw [Nat.sub_self] at hz
    exact hz
theorem i_vc_digest {k : Nat} {u : SX} {v : SY} (I : i_Rel k u v) (hk : k + 3 ≤ 1536) : wpX_digest (fun r => wpY_digest (fun r' => r' = r ∧ i_Rel (k + 3) u v) v) u := by
  obtain ⟨dN, sN, oN, lst, g, ke, gn, mv, dt, dk, dp, st, sk, sp, si, ss, ko, oo, ni, ns, oi, os, ro, be, rfl, rfl, hI⟩ := I
  obtain ⟨r, hX, hY⟩ := kr_dig dN sN (nI oN) lst g ke gn mv dt dk dp st sk sp si ss ko oo ni ns oi os ro be hI.2.1 sN 0 (by omega) 0
  exact ⟨_, hX _ ⟨_, hY _ ⟨rfl, kr_mk hI⟩⟩⟩
end
