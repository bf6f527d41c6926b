/-! leaf, and the methods that read -/
theorem kr_leaf {u : SX} {v : SY} (I : kr_R u v) (t key : Int32) : ∃ (r : Int32) (u' : SX) (v' : SY), kr_R u' v' ∧ (∀ post : Int32 → SX → Prop, post r u' → wpX_leaf post u t key) ∧ (∀ post : Int32 → SY → Prop, post r v' → wpY_leaf post v t key) := by
  obtain ⟨dN, sN, oN, lst, g, ke, gn, mv, dt, dk, dp, st, sk, sp, si, ss, ko, oo, ni, ns, oi, os, ro, be, rfl, rfl, hI⟩ := I
  obtain ⟨r, u', v', R, hX, hY⟩ := kr_open (kr_mk (g := g) (ke := ke) (gn := gn) (mv := mv) (dt := dt) (dk := dk) (st := st) (sk := sk) (si := si) (ss := ss) (ko := ko) (oo := oo) (ni := ni) (ns := ns) (oi := oi) (os := os) (ro := ro) (be := be) hI) t key
  by_cases h : 0 ≤ r
  · obtain ⟨r2, u2, v2, R2, hX2, hY2⟩ := kr_close R
    obtain ⟨dN1, sN1, oN1, lst1, g1, ke1, gn1, mv1, dt1, dk1, dp1, st1, sk1, sp1, si1, ss1, ko1, oo1, ni1, ns1, oi1, os1, ro1, be1, rfl, rfl, hI1⟩ := R
    obtain ⟨dN2, sN2, oN2, lst2, g2, ke2, gn2, mv2, dt2, dk2, dp2, st2, sk2, sp2, si2, ss2, ko2, oo2, ni2, ns2, oi2, os2, ro2, be2, rfl, rfl, hI2⟩ := R2
    refine ⟨r2, (nI dN2, nI oN2, lst2, nI sN2, g2, ke2, gn2, mv2, dt2, dk2, dp2, st2, sk2, sp2, si2, ss2, ko2, oo2, ni2, ns2), (nI sN2, nI dN2, lst2, nI oN2, g2, ke2, gn2, mv2, st2, sk2, sp2, si2, ss2, dt2, dk2, dp2, ko2, oi2, os2, ro2, be2), kr_mk hI2, ?_, ?_⟩
    · intro post hp
      unfold wpX_leaf
      refine hX _ ?_
      refine br_t h ?_
      refine hX2 _ ?_
      exact hp
    · intro post hp
      unfold wpY_leaf
      refine hY _ ?_
      refine br_t h ?_
      refine hY2 _ ?_
      exact hp
  · obtain ⟨dN1, sN1, oN1, lst1, g1, ke1, gn1, mv1, dt1, dk1, dp1, st1, sk1, sp1, si1, ss1, ko1, oo1, ni1, ns1, oi1, os1, ro1, be1, rfl, rfl, hI1⟩ := R
    refine ⟨r, (nI dN1, nI oN1, lst1, nI sN1, g1, ke1, gn1, mv1, dt1, dk1, dp1, st1, sk1, sp1, si1, ss1, ko1, oo1, ni1, ns1), (nI sN1, nI dN1, lst1, nI oN1, g1, ke1, gn1, mv1, st1, sk1, sp1, si1, ss1, dt1, dk1, dp1, ko1, oi1, os1, ro1, be1), kr_mk hI1, ?_, ?_⟩
    · intro post hp
      unfold wpX_leaf
      refine hX _ ?_
      exact br_f h hp
    · intro post hp
      unfold wpY_leaf
      refine hY _ ?_
      exact br_f h hp
theorem kr_p3 (x : Int32) {n : Nat} (hn : n ≤ 16) : (x < 0 ∨ (¬ x < 0 ∧ nI n ≤ x)) ∨ ∃ j, j < n ∧ x = nI j := by
  by_cases h : x < 0
  · exact Or.inl (Or.inl h)
  · rcases pk_ix x (n := n) (by omega) with h1 | h1 | h1
    · exact absurd h1 h
    · exact Or.inl (Or.inr ⟨h, h1⟩)
    · exact Or.inr h1
theorem kr_xno (x : Int32) (dN sN : Nat) (op lst g ke gn mv : Int32) (dt dk dp st sk sp si ss ko oo ni ns oi os ro be : Nat → Int32) (h : x < 0 ∨ (¬ x < 0 ∧ nI sN ≤ x)) (post : Int32 → Prop) (hp : post 0) : wpX_isPlace post (nI dN, op, lst, nI sN, g, ke, gn, mv, dt, dk, dp, st, sk, sp, si, ss, ko, oo, ni, ns) x := by
  rcases h with h | ⟨h1, h2⟩
  · exact br_t h hp
  · exact br_f h1 (br_t h2 hp)
theorem kr_yno (x : Int32) (dN sN : Nat) (op lst g ke gn mv : Int32) (dt dk dp st sk sp si ss ko oo ni ns oi os ro be : Nat → Int32) (h : x < 0 ∨ (¬ x < 0 ∧ nI sN ≤ x)) (post : Int32 → Prop) (hp : post 0) : wpY_isPlace post (nI sN, nI dN, lst, op, g, ke, gn, mv, st, sk, sp, si, ss, dt, dk, dp, ko, oi, os, ro, be) x := by
  rcases h with h | ⟨h1, h2⟩
  · exact br_t h hp
  · exact br_f h1 (br_t h2 hp)
theorem kr_xyes (j : Nat) (dN sN : Nat) (op lst g ke gn mv : Int32) (dt dk dp st sk sp si ss ko oo ni ns oi os ro be : Nat → Int32) (hs : sN ≤ 16) (hj : j < sN) (post : Int32 → Prop) (hp : post 1) : wpX_isPlace post (nI dN, op, lst, nI sN, g, ke, gn, mv, dt, dk, dp, st, sk, sp, si, ss, ko, oo, ni, ns) (nI j) :=
  br_f (kr_pos (by omega)) (br_f (kr_nle hj (by omega)) hp)
theorem kr_yyes (j : Nat) (dN sN : Nat) (op lst g ke gn mv : Int32) (dt dk dp st sk sp si ss ko oo ni ns oi os ro be : Nat → Int32) (hs : sN ≤ 16) (hj : j < sN) (post : Int32 → Prop) (hp : post 1) : wpY_isPlace post (nI sN, nI dN, lst, op, g, ke, gn, mv, st, sk, sp, si, ss, dt, dk, dp, ko, oi, os, ro, be) (nI j) :=
  br_f (kr_pos (by omega)) (br_f (kr_nle hj (by omega)) hp)
theorem kr_plc (x : Int32) (dN sN : Nat) (op lst g ke gn mv : Int32) (dt dk dp st sk sp si ss ko oo ni ns oi os ro be : Nat → Int32) (hs : sN ≤ 16) : ∀ d j : Nat, j + d = sN → ∃ r : Int32, (∀ post : Int32 → Prop, post r → wX_place_2 post x (nI dN) op lst (nI sN) g ke gn mv dt dk dp st sk sp si ss ko oo ni ns (d + 1) (nI j)) ∧ (∀ post : Int32 → Prop, post r → wY_place_2 post x (nI sN) (nI dN) lst op g ke gn mv st sk sp si ss dt dk dp ko oi os ro be (d + 1) (nI j)) := by
  intro d
  induction d with
  | zero =>
    intro j hj
    have h : nI sN ≤ nI j := kr_le (by omega) (by omega)
    exact ⟨-4, fun _ hp => br_t h hp, fun _ hp => br_t h hp⟩
  | succ d ih =>
    intro j hj
    have h : ¬ nI sN ≤ nI j := kr_nle (by omega) (by omega)
    have hi : vp_in (nI j) 16 := kr_in (by omega)
    obtain ⟨r, hX, hY⟩ := ih (j + 1) (by omega)
    by_cases z : si (nI j).toNatClampNeg = x
    · exact ⟨nI j, fun _ hp => br_f h ⟨hi, br_t z hp⟩, fun _ hp => br_f h ⟨hi, br_t z hp⟩⟩
    · exact ⟨r, fun post hp => br_f h ⟨hi, br_f z (nm_r (nI_1 j) (hX post hp))⟩, fun post hp => br_f h ⟨hi, br_f z (nm_r (nI_1 j) (hY post hp))⟩⟩
theorem kr_chl (x : Int32) (dN sN : Nat) (op lst g ke gn mv : Int32) (dt dk dp st sk sp si ss ko oo ni ns oi os ro be : Nat → Int32) (hs : sN ≤ 16) : ∀ d j : Nat, j + d = sN → ∀ c : Int32, ∃ r : Int32, (∀ post : Int32 → Prop, post r → wX_children_17 post x (nI dN) op lst (nI sN) g ke gn mv dt dk dp st sk sp si ss ko oo ni ns (d + 1) c (nI j)) ∧ (∀ post : Int32 → Prop, post r → wY_children_15 post x (nI sN) (nI dN) lst op g ke gn mv st sk sp si ss dt dk dp ko oi os ro be (d + 1) c (nI j)) := by
  intro d
  induction d with
  | zero =>
    intro j hj c
    have h : nI sN ≤ nI j := kr_le (by omega) (by omega)
    exact ⟨c, fun _ hp => br_t h hp, fun _ hp => br_t h hp⟩
  | succ d ih =>
    intro j hj c
    have h : ¬ nI sN ≤ nI j := kr_nle (by omega) (by omega)
    have hi : vp_in (nI j) 16 := kr_in (by omega)
    by_cases z : sp (nI j).toNatClampNeg = x
    · obtain ⟨r, hX, hY⟩ := ih (j + 1) (by omega) (c + 1)
      exact ⟨r, fun post hp => br_f h ⟨hi, br_t z (nm_e (nm_r (nI_1 j) (hX post hp)))⟩, fun post hp => br_f h ⟨hi, br_t z (nm_e (nm_r (nI_1 j) (hY post hp)))⟩⟩
    · obtain ⟨r, hX, hY⟩ := ih (j + 1) (by omega) c
      exact ⟨r, fun post hp => br_f h ⟨hi, br_f z (nm_r (nI_1 j) (hX post hp))⟩, fun post hp => br_f h ⟨hi, br_f z (nm_r (nI_1 j) (hY post hp))⟩⟩
theorem kr_chs (x : Int32) (m n : Nat) (c : Int32) (dN sN : Nat) (op lst g ke gn mv : Int32) (dt dk dp st sk sp si ss ko oo ni ns oi os ro be : Nat → Int32) (hs : sN ≤ 16) (post : Int32 → Prop) (hm : m ≤ sN) (hne : ∀ q, q < m → ¬ sp q = x) (h : wY_children_15 post x (nI sN) (nI dN) lst op g ke gn mv st sk sp si ss dt dk dp ko oi os ro be n c (nI m)) : ∀ d, d ≤ m → wY_children_15 post x (nI sN) (nI dN) lst op g ke gn mv st sk sp si ss dt dk dp ko oi os ro be (n + d) c (nI (m - d)) := by
  intro d
  induction d with
  | zero => intro _; exact h
  | succ d ih =>
    intro hd
    have h1 := ih (by omega)
    have e : m - d = (m - (d + 1)) + 1 := by omega
    rw [e] at h1
    have hl : ¬ nI sN ≤ nI (m - (d + 1)) := kr_nle (by omega) (by omega)
    have ij : vp_in (nI (m - (d + 1))) 16 := kr_in (by omega)
    have cj : (nI (m - (d + 1))).toNatClampNeg = m - (d + 1) := kr_c (by omega)
    exact br_f hl ⟨ij, br_f (by rw [cj]; exact hne _ (by omega)) (nm_r (nI_1 _) h1)⟩
theorem kr_dig (dN sN : Nat) (op lst g ke gn mv : Int32) (dt dk dp st sk sp si ss ko oo ni ns oi os ro be : Nat → Int32) (hs : sN ≤ 16) : ∀ d j : Nat, j + d = sN → ∀ c : Int32, ∃ r : Int32, (∀ post : Int32 → Prop, post r → wX_digest_4 post (nI dN) op lst (nI sN) g ke gn mv dt dk dp st sk sp si ss ko oo ni ns (d + 1) c (nI j)) ∧ (∀ post : Int32 → Prop, post r → wY_digest_4 post (nI sN) (nI dN) lst op g ke gn mv st sk sp si ss dt dk dp ko oi os ro be (d + 1) c (nI j)) := by
  intro d
  induction d with
  | zero =>
    intro j hj c
    have h : nI sN ≤ nI j := kr_le (by omega) (by omega)
    exact ⟨c, fun _ hp => br_t h hp, fun _ hp => br_t h hp⟩
  | succ d ih =>
    intro j hj c
    have h : ¬ nI sN ≤ nI j := kr_nle (by omega) (by omega)
    have hi : vp_in (nI j) 16 := kr_in (by omega)
    obtain ⟨r, hX, hY⟩ := ih (j + 1) (by omega) (c + (((nI j + 1) * (si (nI j).toNatClampNeg + 1)) * (ss (nI j).toNatClampNeg + 1)))
    exact ⟨r, fun post hp => br_f h ⟨hi, hi, nm_e (nm_r (nI_1 j) (hX post hp))⟩, fun post hp => br_f h ⟨hi, hi, nm_e (nm_r (nI_1 j) (hY post hp))⟩⟩
