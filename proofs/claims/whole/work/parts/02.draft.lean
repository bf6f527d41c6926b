/-! the draft -/
theorem kr_has (dN sN : Nat) (op lst g ke gn mv : Int32) (dt dk dp st sk sp si ss ko oo ni ns oi os ro be : Nat → Int32) (hd : dN ≤ 16) (key : Int32) : ∀ d j : Nat, j + d = dN → ∃ r : Int32, (∀ post : Int32 → Prop, post r → wX_lastOpenHasChild_2 post key (nI dN) op lst (nI sN) g ke gn mv dt dk dp st sk sp si ss ko oo ni ns (d + 1) (nI j)) ∧ (∀ post : Int32 → Prop, post r → wY_hasChild_2 post lst key (nI sN) (nI dN) lst op g ke gn mv st sk sp si ss dt dk dp ko oi os ro be (d + 1) (nI j)) := by
  intro d
  induction d with
  | zero =>
    intro j hj
    have h : nI dN ≤ nI j := kr_le (by omega) (by omega)
    exact ⟨0, fun _ hp => br_t h hp, fun _ hp => br_t h hp⟩
  | succ d ih =>
    intro j hj
    have h : ¬ nI dN ≤ nI j := kr_nle (by omega) (by omega)
    have hi : vp_in (nI j) 16 := kr_in (by omega)
    obtain ⟨r, hX, hY⟩ := ih (j + 1) (by omega)
    by_cases z : dp (nI j).toNatClampNeg = lst
    · by_cases z2 : dk (nI j).toNatClampNeg = key
      · exact ⟨1, fun _ hp => br_f h ⟨hi, br_t z ⟨hi, br_t z2 hp⟩⟩, fun _ hp => br_f h ⟨hi, br_t z ⟨hi, br_t z2 hp⟩⟩⟩
      · exact ⟨r, fun post hp => br_f h ⟨hi, br_t z ⟨hi, br_f z2 (nm_r (nI_1 j) (hX post hp))⟩⟩, fun post hp => br_f h ⟨hi, br_t z ⟨hi, br_f z2 (nm_r (nI_1 j) (hY post hp))⟩⟩⟩
    · exact ⟨r, fun post hp => br_f h ⟨hi, br_f z (nm_r (nI_1 j) (hX post hp))⟩, fun post hp => br_f h ⟨hi, br_f z (nm_r (nI_1 j) (hY post hp))⟩⟩
theorem kr_C_ne {p : Nat → Int32} {n o : Nat} {x : Int32} (h : kr_C p n o x) (hn : n ≤ 16) (hx : ¬ x = -1) : ∃ (o' l : Nat), o = o' + 1 ∧ l < n ∧ x = nI l ∧ kr_C p n o' (p l) := by
  cases o with
  | zero => exact absurd h hx
  | succ o => obtain ⟨l, hl, e, h2⟩ := h; exact ⟨o, l, rfl, hl, e, h2⟩
theorem kr_C_m1 {p : Nat → Int32} {n o : Nat} (h : kr_C p n o (-1)) (hn : n ≤ 16) : o = 0 := by
  cases o with
  | zero => rfl
  | succ o => obtain ⟨l, hl, e, h2⟩ := h; exact absurd e.symm (kr_n1 (by omega))
theorem kr_refuse (oN : Nat) (dN sN : Nat) (op lst g ke gn mv : Int32) (dt dk dp st sk sp si ss ko oo ni ns oi os ro be : Nat → Int32) (hI : kr_I dN sN oN lst dp sp) (t key : Int32) : ∃ r : Int32, (∀ post : Int32 → Prop, post r → wpX_refusalToOpen post (nI dN, op, lst, nI sN, g, ke, gn, mv, dt, dk, dp, st, sk, sp, si, ss, ko, oo, ni, ns) t key) ∧ ((r = 0 ∧ dN < 16 ∧ ((dN = 0 ∧ lst = -1) ∨ ∃ j, j < dN ∧ lst = nI j) ∧ ∀ post : Int32 → SY → Prop, wY_open_62 post t key (nI sN) (nI dN) lst op g ke gn mv st sk sp si ss dt dk dp ko oi os ro be → wpY_open post (nI sN, nI dN, lst, op, g, ke, gn, mv, st, sk, sp, si, ss, dt, dk, dp, ko, oi, os, ro, be) t key) ∨ (r < 0 ∧ ∀ post : Int32 → SY → Prop, post r (nI sN, nI dN, lst, op, g, ke, gn, mv, st, sk, sp, si, ss, dt, dk, dp, ko, oi, os, ro, be) → wpY_open post (nI sN, nI dN, lst, op, g, ke, gn, mv, st, sk, sp, si, ss, dt, dk, dp, ko, oi, os, ro, be) t key)) := by
  obtain ⟨hd, hs, ho, hT, hT2, hC⟩ := hI
  by_cases h1 : t < 0
  · exact ⟨-1, fun _ hp => br_t h1 hp, Or.inr ⟨by decide, fun _ hp => br_t h1 hp⟩⟩
  by_cases h2 : 3 < t
  · exact ⟨-1, fun _ hp => br_f h1 (br_t h2 hp), Or.inr ⟨by decide, fun _ hp => br_f h1 (br_t h2 hp)⟩⟩
  by_cases h3 : key < 0
  · exact ⟨-1, fun _ hp => br_f h1 (br_f h2 (br_t h3 hp)), Or.inr ⟨by decide, fun _ hp => br_f h1 (br_f h2 (br_t h3 hp))⟩⟩
  by_cases h4 : key ≤ 9
  case neg =>
    exact ⟨-1, fun _ hp => br_f h1 (br_f h2 (br_f h3 (br_f h4 hp))), Or.inr ⟨by decide, fun _ hp => br_f h1 (br_f h2 (br_f h3 (br_f h4 hp)))⟩⟩
  by_cases h5 : dN < 16
  case neg =>
    have e5 : dN = 16 := by omega
    have hx : ¬ nI dN < 16 := nI_nlt (b := 16) (by omega) (by omega)
    have hy : nI dN = 16 := by rw [e5]; rfl
    exact ⟨-2, fun _ hp => br_f h1 (br_f h2 (br_f h3 (br_t h4 (br_f hx hp)))), Or.inr ⟨by decide, fun _ hp => br_f h1 (br_f h2 (br_f h3 (br_t h4 (br_t hy hp))))⟩⟩
  have hx : nI dN < 16 := nI_lt (b := 16) h5 (by omega)
  have hy : ¬ nI dN = 16 := fun e => by have := kr_inj (b := 16) e (by omega) (by omega); omega
  by_cases h6 : dN = 0
  · have e0 : oN = 0 := by omega
    rw [e0] at hC
    have e6 : lst = -1 := hC
    have hy6 : nI dN ≤ 0 := kr_le (b := 0) (by omega) (by omega)
    have hx6 : nI dN = 0 := by rw [h6]; rfl
    exact ⟨0, fun _ hp => br_f h1 (br_f h2 (br_f h3 (br_t h4 (br_t hx (br_t e6 (br_t hx6 hp)))))), Or.inl ⟨rfl, h5, Or.inl ⟨h6, e6⟩, fun _ hp => br_f h1 (br_f h2 (br_f h3 (br_t h4 (br_f hy (br_t hy6 hp)))))⟩⟩
  have hy6 : ¬ nI dN ≤ 0 := kr_nle (a := 0) (by omega) (by omega)
  have hx6 : ¬ nI dN = 0 := nI_ne0 (by omega) (by omega)
  by_cases h7 : lst = -1
  · have hy7 : lst < 0 := by rw [h7]; decide
    exact ⟨-4, fun _ hp => br_f h1 (br_f h2 (br_f h3 (br_t h4 (br_t hx (br_t h7 (br_f hx6 hp)))))), Or.inr ⟨by decide, fun _ hp => br_f h1 (br_f h2 (br_f h3 (br_t h4 (br_f hy (br_f hy6 (br_t hy7 hp))))))⟩⟩
  obtain ⟨o', l, eo, hl, el, hC2⟩ := kr_C_ne hC hd h7
  have hy7 : ¬ lst < 0 := by rw [el]; exact kr_pos (by omega)
  obtain ⟨r, hX, hY⟩ := kr_has dN sN op lst g ke gn mv dt dk dp st sk sp si ss ko oo ni ns oi os ro be hd key dN 0 (by omega)
  by_cases hr : r = 0
  · exact ⟨0, fun post hp => br_f h1 (br_f h2 (br_f h3 (br_t h4 (br_t hx (br_f h7 ⟨_, hX _ (br_t hr hp)⟩))))), Or.inl ⟨rfl, h5, Or.inr ⟨l, hl, el⟩, fun post hp => br_f h1 (br_f h2 (br_f h3 (br_t h4 (br_f hy (br_f hy6 (br_f hy7 ⟨_, hY _ (br_t hr hp)⟩))))))⟩⟩
  · exact ⟨-4, fun post hp => br_f h1 (br_f h2 (br_f h3 (br_t h4 (br_t hx (br_f h7 ⟨_, hX _ (br_f hr hp)⟩))))), Or.inr ⟨by decide, fun post hp => br_f h1 (br_f h2 (br_f h3 (br_t h4 (br_f hy (br_f hy6 (br_f hy7 ⟨_, hY _ (br_f hr hp)⟩))))))⟩⟩
theorem kr_open {u : SX} {v : SY} (I : kr_R u v) (t key : Int32) : ∃ (r : Int32) (u' : SX) (v' : SY), kr_R u' v' ∧ (∀ post : Int32 → SX → Prop, post r u' → wpX_open post u t key) ∧ (∀ post : Int32 → SY → Prop, post r v' → wpY_open post v t key) := by
  obtain ⟨dN, sN, oN, lst, g, ke, gn, mv, dt, dk, dp, st, sk, sp, si, ss, ko, oo, ni, ns, oi, os, ro, be, rfl, rfl, hI⟩ := I
  obtain ⟨r, hX, hr⟩ := kr_refuse oN dN sN (nI oN) lst g ke gn mv dt dk dp st sk sp si ss ko oo ni ns oi os ro be hI t key
  rcases hr with ⟨r0, h16, hl, hY⟩ | ⟨rn, hY⟩
  · obtain ⟨hd, hs, ho, hT, hT2, hC⟩ := hI
    have hc : (nI dN).toNatClampNeg = dN := kr_c (by omega)
    have hi : vp_in (nI dN) 16 := kr_in h16
    refine ⟨nI (oN + 1), (nI (dN + 1), nI (oN + 1), nI dN, nI sN, g, ke, gn, mv, upd dt dN t, upd dk dN key, upd dp dN lst, st, sk, sp, si, ss, ko, oo, ni, ns), (nI sN, nI (dN + 1), nI dN, nI (oN + 1), g, ke, gn, mv, st, sk, sp, si, ss, upd dt dN t, upd dk dN key, upd dp dN lst, ko, oi, os, ro, be), ?_, ?_, ?_⟩
    · exact kr_mk ⟨by omega, hs, by omega, kr_T_up hT hl, hT2, dN, by omega, rfl, by rw [pk_us]; exact kr_C_up lst oN lst hC⟩
    · intro post hp
      unfold wpX_open
      refine hX _ ?_
      refine br_t r0 ?_
      exact ⟨hi, nm_r (by rw [hc]) ⟨hi, nm_r (by rw [hc]) ⟨hi, nm_r (by rw [hc]) (nm_r (nI_1 dN) (nm_r (nI_1 oN) hp))⟩⟩⟩
    · intro post hp
      refine hY _ ?_
      exact ⟨hi, nm_r (by rw [hc]) ⟨hi, nm_r (by rw [hc]) ⟨hi, nm_r (by rw [hc]) (nm_r (nI_1 dN) (nm_r (nI_1 oN) hp))⟩⟩⟩
  · have r0 : ¬ r = 0 := fun e => by rw [e] at rn; exact absurd rn (by decide)
    refine ⟨r, (nI dN, nI oN, lst, nI sN, g, ke, gn, mv, dt, dk, dp, st, sk, sp, si, ss, ko, oo, ni, ns), (nI sN, nI dN, lst, nI oN, g, ke, gn, mv, st, sk, sp, si, ss, dt, dk, dp, ko, oi, os, ro, be), kr_mk hI, fun post hp => ?_, fun post hp => hY _ hp⟩
    unfold wpX_open
    refine hX _ ?_
    exact br_f r0 hp
theorem kr_close {u : SX} {v : SY} (I : kr_R u v) : ∃ (r : Int32) (u' : SX) (v' : SY), kr_R u' v' ∧ (∀ post : Int32 → SX → Prop, post r u' → wpX_close post u) ∧ (∀ post : Int32 → SY → Prop, post r v' → wpY_close post v) := by
  obtain ⟨dN, sN, oN, lst, g, ke, gn, mv, dt, dk, dp, st, sk, sp, si, ss, ko, oo, ni, ns, oi, os, ro, be, rfl, rfl, hI⟩ := I
  have hI' := hI
  obtain ⟨hd, hs, ho, hT, hT2, hC⟩ := hI'
  by_cases h : lst = -1
  · have e0 : oN = 0 := kr_C_m1 (h ▸ hC) hd
    have e : nI oN = 0 := by rw [e0]; rfl
    exact ⟨-4, _, _, kr_mk hI, fun post hp => br_t h hp, fun post hp => br_t e hp⟩
  · obtain ⟨o', l, eo, hl, el, hC2⟩ := kr_C_ne hC hd h
    have e : ¬ nI oN = 0 := nI_ne0 (by omega) (by omega)
    have hc : lst.toNatClampNeg = l := by rw [el]; exact kr_c (by omega)
    have hi : vp_in lst 16 := by rw [el]; exact kr_in (by omega)
    have ep : nI oN - 1 = nI o' := by rw [eo]; exact nI_pred o'
    refine ⟨nI o', (nI dN, nI o', dp l, nI sN, g, ke, gn, mv, dt, dk, dp, st, sk, sp, si, ss, ko, oo, ni, ns), (nI sN, nI dN, dp l, nI o', g, ke, gn, mv, st, sk, sp, si, ss, dt, dk, dp, ko, oi, os, ro, be), ?_, ?_, ?_⟩
    · exact kr_mk ⟨hd, hs, by omega, hT, hT2, hC2⟩
    · intro post hp
      exact br_f h ⟨hi, nm_r (by rw [hc]) (nm_r ep hp)⟩
    · intro post hp
      exact br_f e ⟨hi, nm_r (by rw [hc]) (nm_r ep hp)⟩
theorem kr_xrec (dN sN : Nat) (op lst g ke gn mv : Int32) (dt dk dp st sk sp si ss ko oo ni ns oi os ro be : Nat → Int32) (hs : sN ≤ 16) (post : Int32 → SX → Prop) (hp : post (nI sN) (nI sN, op, lst, nI sN, g, ke, gn, mv, kr_gl st dt sN, kr_gl sk dk sN, kr_gl sp dp sN, st, sk, sp, si, ss, ko, oo, ni, ns)) : ∀ d j : Nat, j + d = sN → wX_recall_6 post (nI dN) op lst (nI sN) g ke gn mv (d + 1) (nI j) (kr_gl st dt j) (kr_gl sk dk j) (kr_gl sp dp j) st sk sp si ss ko oo ni ns := by
  intro d
  induction d with
  | zero =>
    intro j hj
    have e : j = sN := by omega
    subst e
    exact br_t (kr_le (by omega) (by omega)) hp
  | succ d ih =>
    intro j hj
    have h : ¬ nI sN ≤ nI j := kr_nle (by omega) (by omega)
    have hi : vp_in (nI j) 16 := kr_in (by omega)
    have hc : (nI j).toNatClampNeg = j := kr_c (by omega)
    exact br_f h ⟨hi, hi, nm_r (kr_glc hc (by rw [hc])) ⟨hi, hi, nm_r (kr_glc hc (by rw [hc])) ⟨hi, hi, nm_r (kr_glc hc (by rw [hc])) (nm_r (nI_1 j) (ih (j + 1) (by omega)))⟩⟩⟩
theorem kr_yrec (dN sN : Nat) (op lst g ke gn mv : Int32) (dt dk dp st sk sp si ss ko oo ni ns oi os ro be : Nat → Int32) (hs : sN ≤ 16) (post : Int32 → SY → Prop) (hp : post (nI sN) (nI sN, nI sN, lst, op, g, ke, gn, mv, st, sk, sp, si, ss, kr_gl st dt sN, kr_gl sk dk sN, kr_gl sp dp sN, ko, oi, os, ro, be)) : ∀ d j : Nat, j + d = sN → wY_recall_6 post (nI sN) (nI dN) lst op g ke gn mv (d + 1) (nI j) st sk sp si ss (kr_gl st dt j) (kr_gl sk dk j) (kr_gl sp dp j) ko oi os ro be := by
  intro d
  induction d with
  | zero =>
    intro j hj
    have e : j = sN := by omega
    subst e
    exact br_t (kr_le (by omega) (by omega)) hp
  | succ d ih =>
    intro j hj
    have h : ¬ nI sN ≤ nI j := kr_nle (by omega) (by omega)
    have hi : vp_in (nI j) 16 := kr_in (by omega)
    have hc : (nI j).toNatClampNeg = j := kr_c (by omega)
    exact br_f h ⟨hi, hi, nm_r (kr_glc hc (by rw [hc])) ⟨hi, hi, nm_r (kr_glc hc (by rw [hc])) ⟨hi, hi, nm_r (kr_glc hc (by rw [hc])) (nm_r (nI_1 j) (ih (j + 1) (by omega)))⟩⟩⟩
theorem kr_recall {u : SX} {v : SY} (I : kr_R u v) : ∃ (r : Int32) (u' : SX) (v' : SY), kr_R u' v' ∧ (∀ post : Int32 → SX → Prop, post r u' → wpX_recall post u) ∧ (∀ post : Int32 → SY → Prop, post r v' → wpY_recall post v) := by
  obtain ⟨dN, sN, oN, lst, g, ke, gn, mv, dt, dk, dp, st, sk, sp, si, ss, ko, oo, ni, ns, oi, os, ro, be, rfl, rfl, hI⟩ := I
  obtain ⟨hd, hs, ho, hT, hT2, hC⟩ := hI
  refine ⟨nI sN, (nI sN, nI 0, -1, nI sN, g, ke, gn, mv, kr_gl st dt sN, kr_gl sk dk sN, kr_gl sp dp sN, st, sk, sp, si, ss, ko, oo, ni, ns), (nI sN, nI sN, -1, nI 0, g, ke, gn, mv, st, sk, sp, si, ss, kr_gl st dt sN, kr_gl sk dk sN, kr_gl sp dp sN, ko, oi, os, ro, be), ?_, ?_, ?_⟩
  · exact kr_mk ⟨hs, hs, by omega, kr_T_gl hT2, hT2, rfl⟩
  · intro post hp
    exact ⟨sN + 1, kr_xrec 0 sN (nI 0) (-1) g ke gn mv dt dk dp st sk sp si ss ko oo ni ns oi os ro be hs post hp sN 0 (by omega)⟩
  · intro post hp
    exact ⟨sN + 1, kr_yrec 0 sN (nI 0) (-1) g ke gn mv dt dk dp st sk sp si ss ko oo ni ns oi os ro be hs post hp sN 0 (by omega)⟩
