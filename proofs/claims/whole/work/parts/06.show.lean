/-! the showing: the sum of the moves, the names, the new tree -/
theorem kr_cm (dN sN : Nat) (dp ko : Nat → Int32) (hd : dN ≤ 16) (hs : sN ≤ 16) (hT : kr_T dp dN) (hk : ∀ q, q < dN → ko q = -1 ∨ ∃ j, j < sN ∧ ko q = nI j) : ∀ d i : Nat, i + d = dN → ∀ s : Int32, ∃ s' : Int32,
    (∀ (op lst g ke gn mv : Int32) (dt dk st sk sp si ss oo ni ns : Nat → Int32) (post : Int32 → SX → Prop), (∀ oo : Nat → Int32, post s' (nI dN, op, lst, nI sN, g, ke, gn, mv, dt, dk, dp, st, sk, sp, si, ss, ko, oo, ni, ns)) → wX_countMoves_4 post (d + 1) s (nI i) (nI dN) op lst (nI sN) g ke gn mv dt dk dp st sk sp si ss ko oo ni ns) ∧
    (∀ (op lst g ke gn : Int32) (dt dk st sk sp si ss oi os ro be : Nat → Int32) (post : Int32 → SY → Prop), (∀ ro be : Nat → Int32, ∃ n125 : Nat, wY_show_125 post (nI sN) (nI dN) lst op g ke (nI sN - ke) s' n125 0 st sk sp si ss dt dk dp ko oi os ro be) → wY_show_82 post (d + 1) (nI i) (nI sN) (nI dN) lst op g ke gn s st sk sp si ss dt dk dp ko oi os ro be) := by
  intro d
  induction d with
  | zero =>
    intro i hi s
    have h : nI dN ≤ nI i := kr_le (by omega) (by omega)
    refine ⟨s, ?_, ?_⟩
    · intro op lst g ke gn mv dt dk st sk sp si ss oo ni ns post hp
      exact br_t h (hp oo)
    · intro op lst g ke gn dt dk st sk sp si ss oi os ro be post hp
      exact br_t h (nm_e (hp ro be))
  | succ d ih =>
    intro i hi s
    have h : ¬ nI dN ≤ nI i := kr_nle (by omega) (by omega)
    obtain ⟨r, hX, hY⟩ := kr_moves i dN sN dp ko hd hs (by omega) hT hk
    obtain ⟨s', hX2, hY2⟩ := ih (i + 1) (by omega) (s + r)
    refine ⟨s', ?_, ?_⟩
    · intro op lst g ke gn mv dt dk st sk sp si ss oo ni ns post hp
      refine br_f h (hX op lst g ke gn mv dt dk st sk sp si ss oo ni ns _ ?_)
      intro oo
      exact nm_e (nm_r (nI_1 i) (hX2 op lst g ke gn mv dt dk st sk sp si ss oo ni ns post hp))
    · intro op lst g ke gn dt dk st sk sp si ss oi os ro be post hp
      refine br_f h (hY op lst g ke gn s dt dk st sk sp si ss oi os ro be _ ?_)
      intro ro be
      exact nm_e (nm_r (nI_1 i) (hY2 op lst g ke gn dt dk st sk sp si ss oi os ro be post hp))
/-- the ids given before place i -/
def kr_g (ko : Nat → Int32) (g : Int32) : Nat → Int32
  | 0 => g
  | i + 1 => if ko i = -1 then kr_g ko g i + 1 else kr_g ko g i
def kr_id (ko si : Nat → Int32) (g : Int32) (i : Nat) : Int32 := if ko i = -1 then kr_g ko g i else si (ko i).toNatClampNeg
def kr_sv (ko ss : Nat → Int32) (i : Nat) : Int32 := if ko i = -1 then 0 else ss (ko i).toNatClampNeg
theorem kr_g_t {ko : Nat → Int32} {g : Int32} {i : Nat} (h : ko i = -1) : kr_g ko g i + 1 = kr_g ko g (i + 1) := (if_pos h).symm
theorem kr_g_f {ko : Nat → Int32} {g : Int32} {i : Nat} (h : ¬ ko i = -1) : kr_g ko g (i + 1) = kr_g ko g i := if_neg h
theorem kr_id_t {ko si : Nat → Int32} {g : Int32} {i : Nat} (h : ko i = -1) : kr_g ko g i = kr_id ko si g i := (if_pos h).symm
theorem kr_id_f {ko si : Nat → Int32} {g : Int32} {i : Nat} (h : ¬ ko i = -1) : si (ko i).toNatClampNeg = kr_id ko si g i := (if_neg h).symm
theorem kr_sv_t {ko ss : Nat → Int32} {i : Nat} (h : ko i = -1) : 0 = kr_sv ko ss i := (if_pos h).symm
theorem kr_sv_f {ko ss : Nat → Int32} {i : Nat} (h : ¬ ko i = -1) : ss (ko i).toNatClampNeg = kr_sv ko ss i := (if_neg h).symm
theorem kr_xname (dN sN : Nat) (op lst g ke gn mv : Int32) (dt dk dp st sk sp si ss ko oo ni ns oi os ro be : Nat → Int32) (hd : dN ≤ 16) (hs : sN ≤ 16) (hk : ∀ q, q < dN → ko q = -1 ∨ ∃ j, j < sN ∧ ko q = nI j) (post : SX → Prop) (hp : post (nI dN, op, lst, nI sN, kr_g ko g dN, ke, gn, mv, dt, dk, dp, st, sk, sp, si, ss, ko, oo, kr_gl (kr_id ko si g) ni dN, kr_gl (kr_sv ko ss) ns dN)) : ∀ d i : Nat, i + d = dN → wX_nameNodes_2 post (nI dN) op lst (nI sN) ke gn mv (d + 1) (nI i) (kr_g ko g i) dt dk dp st sk sp si ss ko oo (kr_gl (kr_id ko si g) ni i) (kr_gl (kr_sv ko ss) ns i) := by
  intro d
  induction d with
  | zero =>
    intro i hi
    have e : i = dN := by omega
    subst e
    exact br_t (kr_le (Nat.le_refl _) (by omega)) hp
  | succ d ih =>
    intro i hi
    have h : ¬ nI dN ≤ nI i := kr_nle (by omega) (by omega)
    have ii : vp_in (nI i) 16 := kr_in (by omega)
    have ci : (nI i).toNatClampNeg = i := kr_c (by omega)
    have hn := ih (i + 1) (by omega)
    refine br_f h ⟨ii, nm_r (e' := ko i) (by rw [ci]) ?_⟩
    by_cases z : ko i = -1
    · exact br_t z ⟨ii, nm_r (kr_glc ci (kr_id_t z)) ⟨ii, nm_r (kr_glc ci (kr_sv_t z)) (nm_r (kr_g_t z) (nm_r (nI_1 i) hn))⟩⟩
    · have ik : vp_in (ko i) 16 := by
        rcases hk i (by omega) with e | ⟨j, hj, e⟩
        · exact absurd e z
        · rw [e]; exact kr_in (by omega)
      rw [kr_g_f z] at hn
      exact br_f z ⟨ik, ii, nm_r (kr_glc ci (kr_id_f z)) ⟨ik, ii, nm_r (kr_glc ci (kr_sv_f z)) (nm_r (nI_1 i) hn)⟩⟩
theorem kr_xrep (ID SV : Nat → Int32) (dN sN : Nat) (op lst g ke gn mv : Int32) (dt dk dp st sk sp si ss ko oo ni ns oi os ro be : Nat → Int32) (hd : dN ≤ 16) (hid : ∀ q, q < dN → ni q = ID q) (hsv : ∀ q, q < dN → ns q = SV q) (post : SX → Prop) (hp : post (nI dN, op, lst, nI dN, g, ke, gn, mv, dt, dk, dp, kr_gl dt st dN, kr_gl dk sk dN, kr_gl dp sp dN, kr_gl ID si dN, kr_gl SV ss dN, ko, oo, ni, ns)) : ∀ d i : Nat, i + d = dN → wX_replaceShownTree_2 post (nI dN) op lst (nI sN) g ke gn mv (d + 1) (nI i) dt dk dp (kr_gl dt st i) (kr_gl dk sk i) (kr_gl dp sp i) (kr_gl ID si i) (kr_gl SV ss i) ko oo ni ns := by
  intro d
  induction d with
  | zero =>
    intro i hi
    have e : i = dN := by omega
    subst e
    exact br_t (kr_le (Nat.le_refl _) (by omega)) hp
  | succ d ih =>
    intro i hi
    have h : ¬ nI dN ≤ nI i := kr_nle (by omega) (by omega)
    have ii : vp_in (nI i) 16 := kr_in (by omega)
    have ci : (nI i).toNatClampNeg = i := kr_c (by omega)
    have hn := ih (i + 1) (by omega)
    exact br_f h ⟨ii, ii, nm_r (kr_glc ci (by rw [ci])) ⟨ii, ii, nm_r (kr_glc ci (by rw [ci])) ⟨ii, ii, nm_r (kr_glc ci (by rw [ci])) ⟨ii, ii, nm_r (kr_glc ci (by rw [ci]; exact hid i (by omega))) ⟨ii, ii, nm_r (kr_glc ci (by rw [ci]; exact hsv i (by omega))) (nm_r (nI_1 i) hn)⟩⟩⟩⟩⟩
theorem kr_y125 (dN sN : Nat) (op lst g ke gn mv : Int32) (dt dk dp st sk sp si ss ko oo ni ns oi os ro be : Nat → Int32) (hs : sN ≤ 16) (post : Int32 → SY → Prop) (hp : ∃ n173 : Nat, wY_show_173 post (nI dN) (nI dN) lst op ke gn mv n173 0 g st sk sp si ss dt dk dp ko (kr_gl si oi sN) (kr_gl ss os sN) ro be) : ∀ d i : Nat, i + d = sN → wY_show_125 post (nI sN) (nI dN) lst op g ke gn mv (d + 1) (nI i) st sk sp si ss dt dk dp ko (kr_gl si oi i) (kr_gl ss os i) ro be := by
  intro d
  induction d with
  | zero =>
    intro i hi
    have e : i = sN := by omega
    subst e
    exact br_t (kr_le (Nat.le_refl _) (by omega)) hp
  | succ d ih =>
    intro i hi
    have h : ¬ nI sN ≤ nI i := kr_nle (by omega) (by omega)
    have ii : vp_in (nI i) 16 := kr_in (by omega)
    have ci : (nI i).toNatClampNeg = i := kr_c (by omega)
    have hn := ih (i + 1) (by omega)
    exact br_f h ⟨ii, ii, nm_r (kr_glc ci (by rw [ci])) ⟨ii, ii, nm_r (kr_glc ci (by rw [ci])) (nm_r (nI_1 i) hn)⟩⟩
theorem kr_y173 (dN sN : Nat) (op lst g ke gn mv : Int32) (dt dk dp st sk sp si ss ko oo ni ns oi os ro be : Nat → Int32) (hd : dN ≤ 16) (hs : sN ≤ 16) (hk : ∀ q, q < dN → ko q = -1 ∨ ∃ j, j < sN ∧ ko q = nI j) (hoi : ∀ q, q < sN → oi q = si q) (hos : ∀ q, q < sN → os q = ss q) (post : Int32 → SY → Prop) (hp : post (nI dN - ke) (nI dN, nI 0, -1, nI 0, kr_g ko g dN, ke, gn, mv, kr_gl dt st dN, kr_gl dk sk dN, kr_gl dp sp dN, kr_gl (kr_id ko si g) si dN, kr_gl (kr_sv ko ss) ss dN, dt, dk, dp, ko, oi, os, ro, be)) : ∀ d i : Nat, i + d = dN → wY_show_173 post (nI dN) (nI dN) lst op ke gn mv (d + 1) (nI i) (kr_g ko g i) (kr_gl dt st i) (kr_gl dk sk i) (kr_gl dp sp i) (kr_gl (kr_id ko si g) si i) (kr_gl (kr_sv ko ss) ss i) dt dk dp ko oi os ro be := by
  intro d
  induction d with
  | zero =>
    intro i hi
    have e : i = dN := by omega
    subst e
    exact br_t (kr_le (Nat.le_refl _) (by omega)) hp
  | succ d ih =>
    intro i hi
    have h : ¬ nI dN ≤ nI i := kr_nle (by omega) (by omega)
    have ii : vp_in (nI i) 16 := kr_in (by omega)
    have ci : (nI i).toNatClampNeg = i := kr_c (by omega)
    have hn := ih (i + 1) (by omega)
    refine br_f h ⟨ii, ii, nm_r (kr_glc ci (by rw [ci])) ⟨ii, ii, nm_r (kr_glc ci (by rw [ci])) ⟨ii, ii, nm_r (kr_glc ci (by rw [ci])) ⟨ii, ?_⟩⟩⟩⟩
    by_cases z : ko i = -1
    · have z0 : ko (nI i).toNatClampNeg < 0 := by rw [ci, z]; decide
      exact br_t z0 ⟨ii, nm_r (kr_glc ci (kr_id_t z)) ⟨ii, br_t z0 ⟨ii, nm_r (kr_glc ci (kr_sv_t z)) ⟨ii, br_t z0 (nm_r (kr_g_t z) (nm_r (nI_1 i) hn))⟩⟩⟩⟩
    · rcases hk i (by omega) with e | ⟨j, hj, e⟩
      · exact absurd e z
      · have z0 : ¬ ko (nI i).toNatClampNeg < 0 := by rw [ci, e]; exact kr_pos (by omega)
        have ik : vp_in (ko (nI i).toNatClampNeg) 16 := by rw [ci, e]; exact kr_in (by omega)
        have cj : (nI j).toNatClampNeg = j := kr_c (by omega)
        have e1 : oi (ko (nI i).toNatClampNeg).toNatClampNeg = kr_id ko si g i := by rw [ci, ← kr_id_f z, e, cj]; exact hoi j hj
        have e2 : os (ko (nI i).toNatClampNeg).toNatClampNeg = kr_sv ko ss i := by rw [ci, ← kr_sv_f z, e, cj]; exact hos j hj
        rw [kr_g_f z] at hn
        exact br_f z0 ⟨ii, ik, ii, nm_r (kr_glc ci e1) ⟨ii, br_f z0 ⟨ii, ik, ii, nm_r (kr_glc ci e2) ⟨ii, br_f z0 (nm_r (nI_1 i) hn)⟩⟩⟩⟩
theorem kr_show {u : SX} {v : SY} (I : kr_R u v) : ∃ (r : Int32) (U : SX → Prop) (V : SY → Prop), (∀ u' v', U u' → V v' → kr_R u' v') ∧ (∀ post : Int32 → SX → Prop, (∀ u', U u' → post r u') → wpX_show post u) ∧ (∀ post : Int32 → SY → Prop, (∀ v', V v' → post r v') → wpY_show post v) := by
  obtain ⟨dN, sN, oN, lst, g, ke, gn, mv, dt, dk, dp, st, sk, sp, si, ss, ko, oo, ni, ns, oi, os, ro, be, rfl, rfl, hI⟩ := I
  have hI' := hI
  obtain ⟨hd, hs, ho, hT, hT2, hC⟩ := hI'
  by_cases h0 : dN = 0
  · have e0 : nI dN = 0 := by rw [h0]; rfl
    exact ⟨-4, fun u' => u' = (nI dN, nI oN, lst, nI sN, g, ke, gn, mv, dt, dk, dp, st, sk, sp, si, ss, ko, oo, ni, ns), fun v' => v' = (nI sN, nI dN, lst, nI oN, g, ke, gn, mv, st, sk, sp, si, ss, dt, dk, dp, ko, oi, os, ro, be), fun u' v' eu ev => by rw [eu, ev]; exact kr_mk hI, fun post hp => br_t e0 (hp _ rfl), fun post hp => br_t e0 (hp _ rfl)⟩
  have e0 : ¬ nI dN = 0 := nI_ne0 (by omega) (by omega)
  by_cases hl : lst = -1
  case neg =>
    obtain ⟨o', l, eo, hl2, el, hC2⟩ := kr_C_ne hC hd hl
    have e1 : ¬ nI oN ≤ 0 := kr_nle (a := 0) (by omega) (by omega)
    exact ⟨-4, fun u' => u' = (nI dN, nI oN, lst, nI sN, g, ke, gn, mv, dt, dk, dp, st, sk, sp, si, ss, ko, oo, ni, ns), fun v' => v' = (nI sN, nI dN, lst, nI oN, g, ke, gn, mv, st, sk, sp, si, ss, dt, dk, dp, ko, oi, os, ro, be), fun u' v' eu ev => by rw [eu, ev]; exact kr_mk hI, fun post hp => br_f e0 (br_f hl (hp _ rfl)), fun post hp => br_f e0 (br_f e1 (hp _ rfl))⟩
  have eo : oN = 0 := kr_C_m1 (hl ▸ hC) hd
  have e1 : nI oN ≤ 0 := kr_le (b := 0) (by omega) (by omega)
  obtain ⟨k', c', _, hk, hXf, hXc, hYf⟩ := kr_find 0 dN sN (nI oN) lst g ke gn mv dt dk dp st sk sp si ss ko oo ni ns oi os ro be hd hs hT hT2 dN 0 (by omega) ko 0 (fun q hq => absurd hq (Nat.not_lt_zero q))
  obtain ⟨s', hXm, hYm⟩ := kr_cm dN sN dp k' hd hs hT hk dN 0 (by omega) 0
  refine ⟨nI dN - c', fun u' => ∃ oo : Nat → Int32, u' = (nI 0, nI 0, -1, nI dN, kr_g k' g dN, c', nI sN - c', s', dt, dk, dp, kr_gl dt st dN, kr_gl dk sk dN, kr_gl dp sp dN, kr_gl (kr_id k' si g) si dN, kr_gl (kr_sv k' ss) ss dN, k', oo, kr_gl (kr_id k' si g) ni dN, kr_gl (kr_sv k' ss) ns dN),
    fun v' => ∃ ro be : Nat → Int32, v' = (nI dN, nI 0, -1, nI 0, kr_g k' g dN, c', nI sN - c', s', kr_gl dt st dN, kr_gl dk sk dN, kr_gl dp sp dN, kr_gl (kr_id k' si g) si dN, kr_gl (kr_sv k' ss) ss dN, dt, dk, dp, k', kr_gl si oi sN, kr_gl ss os sN, ro, be), ?_, ?_, ?_⟩
  · intro u' v' hu hv
    obtain ⟨oo', rfl⟩ := hu
    obtain ⟨ro', be', rfl⟩ := hv
    exact kr_mk ⟨by omega, hd, by omega, kr_T0 _, kr_T_gl hT, rfl⟩
  · intro post hp
    refine br_f e0 (br_t hl ⟨_, hXf _ ?_⟩)
    refine ⟨_, hXc _ ?_⟩
    refine nm_e (nm_e ⟨_, hXm (nI oN) lst g c' (nI sN - c') mv dt dk st sk sp si ss oo ni ns _ ?_⟩)
    intro oo
    refine ⟨_, kr_xname dN sN (nI oN) lst g c' (nI sN - c') s' dt dk dp st sk sp si ss k' oo ni ns oi os ro be hd hs hk _ ?_ dN 0 (by omega)⟩
    refine ⟨_, kr_xrep (kr_id k' si g) (kr_sv k' ss) dN sN (nI oN) lst (kr_g k' g dN) c' (nI sN - c') s' dt dk dp st sk sp si ss k' oo (kr_gl (kr_id k' si g) ni dN) (kr_gl (kr_sv k' ss) ns dN) oi os ro be hd (fun q hq => kr_gl_lt _ _ _ _ hq) (fun q hq => kr_gl_lt _ _ _ _ hq) _ ?_ dN 0 (by omega)⟩
    exact hp _ ⟨oo, rfl⟩
  · intro post hp
    refine br_f e0 (br_t e1 ⟨_, hYf _ ⟨_, hYm (nI oN) lst g c' gn dt dk st sk sp si ss oi os ro be _ ?_⟩⟩)
    intro ro be
    refine ⟨_, kr_y125 dN sN (nI oN) lst g c' (nI sN - c') s' dt dk dp st sk sp si ss k' oo ni ns oi os ro be hs post ⟨dN + 1, ?_⟩ sN 0 (by omega)⟩
    exact kr_y173 dN sN (nI oN) lst g c' (nI sN - c') s' dt dk dp st sk sp si ss k' oo ni ns (kr_gl si oi sN) (kr_gl ss os sN) ro be hd hs hk (fun q hq => kr_gl_lt _ _ _ _ hq) (fun q hq => kr_gl_lt _ _ _ _ hq) post (hp _ ⟨ro, be, rfl⟩) dN 0 (by omega)
