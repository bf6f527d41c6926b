/-! the moves -/
theorem kr_isK (a q : Nat) (dN sN : Nat) (op lst g ke gn mv : Int32) (dt dk dp st sk sp si ss ko oo ni ns oi os ro be : Nat → Int32) (hq : q < 16) (post : Int32 → Prop) (h1 : kr_K dp ko a q = true → post 1) (h0 : kr_K dp ko a q = false → post 0) : wpX_isKeptChild post (nI dN, op, lst, nI sN, g, ke, gn, mv, dt, dk, dp, st, sk, sp, si, ss, ko, oo, ni, ns) (nI q) (nI a) := by
  have iq : vp_in (nI q) 16 := kr_in hq
  have cq : (nI q).toNatClampNeg = q := kr_c (by omega)
  unfold wpX_isKeptChild
  refine ⟨iq, ?_⟩
  rw [cq]
  exact br_c (fun e1 => ⟨iq, br_c (fun e2 => h0 (kr_K_f (fun z => z.2 e2))) (fun e2 => h1 (kr_K_t e1 e2))⟩) (fun e1 => h0 (kr_K_f (fun z => e1 z.1)))
theorem kr_lob (a p : Nat) (O : Nat → Nat) (dN sN : Nat) (op lst g ke gn mv : Int32) (dt dk dp st sk sp si ss ko oo ni ns oi os ro be : Nat → Int32) (hp : p < 16) (hO : ∀ q, q < p → O q ≤ q + 1) (ho : ∀ q, q < p → kr_K dp ko a q = true → oo q = nI (O q)) (post : Int32 → Prop) (hpost : post (nI (kr_m (kr_K dp ko a) ko O (ko p) p))) : ∀ d q : Nat, q + d = p → wX_longestOrderBefore_7 post (nI p) (nI a) (nI dN) op lst (nI sN) g ke gn mv dt dk dp st sk sp si ss ko oo ni ns (d + 1) (nI (kr_m (kr_K dp ko a) ko O (ko p) q)) (nI q) := by
  have ip : vp_in (nI p) 16 := kr_in hp
  have cp : (nI p).toNatClampNeg = p := kr_c (by omega)
  intro d
  induction d with
  | zero =>
    intro q hq
    have e : q = p := by omega
    subst e
    exact br_t (kr_le (Nat.le_refl _) (by omega)) hpost
  | succ d ih =>
    intro q hq
    have h : ¬ nI p ≤ nI q := kr_nle (by omega) (by omega)
    have iq : vp_in (nI q) 16 := kr_in (by omega)
    have cq : (nI q).toNatClampNeg = q := kr_c (by omega)
    have hn := ih (q + 1) (by omega)
    refine br_f h (kr_isK a q dN sN op lst g ke gn mv dt dk dp st sk sp si ss ko oo ni ns oi os ro be (by omega) _ (fun hk => br_f (by decide) ⟨iq, ip, ?_⟩) (fun hk => br_t rfl (nm_r (nI_1 q) ?_)))
    · rw [cp, cq]
      by_cases z : ko p ≤ ko q
      · have z2 : ¬ ko q < ko p := Int32.not_lt.mpr z
        rw [kr_m_f (fun y => z2 y.2.1)] at hn
        exact br_t z (nm_r (nI_1 q) hn)
      · have z2 : ko q < ko p := Int32.not_le.mp z
        refine br_f z ⟨iq, ?_⟩
        rw [ho q (by omega) hk]
        have hm : kr_m (kr_K dp ko a) ko O (ko p) q ≤ q := kr_m_le q (fun r hr => hO r (by omega))
        have hOq := hO q (by omega)
        by_cases w : O q ≤ kr_m (kr_K dp ko a) ko O (ko p) q
        · rw [kr_m_f (fun y => by have := y.2.2; omega)] at hn
          exact br_t (kr_le w (by omega)) (nm_r (nI_1 q) hn)
        · rw [kr_m_t ⟨hk, z2, by omega⟩] at hn
          exact br_f (kr_nle (by omega) (by omega)) ⟨iq, nm_e (nm_r (nI_1 q) hn)⟩
    · rw [kr_m_f (fun y => by rw [hk] at y; exact absurd y.1 (by decide))] at hn
      exact hn
theorem kr_x9 (a : Nat) (O : Nat → Nat) (dN sN : Nat) (op lst g ke gn mv : Int32) (dt dk dp st sk sp si ss ko oo ni ns oi os ro be : Nat → Int32) (hd : dN ≤ 16) (hO : ∀ q, q < dN → O q = kr_m (kr_K dp ko a) ko O (ko q) q + 1) (hO2 : ∀ q, q < dN → O q ≤ q + 1) (hz : ∀ v, kr_m (kr_K dp ko a) ko O v (a + 1) = 0) (post : Int32 → SX → Prop) (hp : ∀ o', post (nI (kr_n (kr_K dp ko a) dN) - nI (kr_l (kr_K dp ko a) O dN)) (nI dN, op, lst, nI sN, g, ke, gn, mv, dt, dk, dp, st, sk, sp, si, ss, ko, o', ni, ns)) : ∀ d q : Nat, q + d = dN → a + 1 ≤ q → ∀ oo : Nat → Int32, (∀ r, r < q → kr_K dp ko a r = true → oo r = nI (O r)) → wX_movesAt_9 post (nI a) (nI dN) op lst (nI sN) g ke gn mv (d + 1) (nI (kr_n (kr_K dp ko a) q)) (nI (kr_l (kr_K dp ko a) O q)) (nI q) dt dk dp st sk sp si ss ko oo ni ns := by
  intro d
  induction d with
  | zero =>
    intro q hq _ oo _
    have e : q = dN := by omega
    subst e
    exact br_t (kr_le (Nat.le_refl _) (by omega)) (hp oo)
  | succ d ih =>
    intro q hq ha oo ho
    have h : ¬ nI dN ≤ nI q := kr_nle (by omega) (by omega)
    have iq : vp_in (nI q) 16 := kr_in (by omega)
    have cq : (nI q).toNatClampNeg = q := kr_c (by omega)
    refine br_f h (kr_isK a q dN sN op lst g ke gn mv dt dk dp st sk sp si ss ko oo ni ns oi os ro be (by omega) _ (fun hk => br_f (by decide) ?_) (fun hk => br_t rfl (nm_r (nI_1 q) ?_)))
    · have hl : ∀ post : Int32 → Prop, post (nI (kr_m (kr_K dp ko a) ko O (ko q) q)) → wX_longestOrderBefore_7 post (nI q) (nI a) (nI dN) op lst (nI sN) g ke gn mv dt dk dp st sk sp si ss ko oo ni ns (q - (a + 1) + 1) 0 (nI (a + 1)) := by
        intro post hp
        have h2 := kr_lob a q O dN sN op lst g ke gn mv dt dk dp st sk sp si ss ko oo ni ns oi os ro be (by omega) (fun r hr => hO2 r (by omega)) ho post hp (q - (a + 1)) (a + 1) (by omega)
        rw [hz] at h2
        exact h2
      have hn := ih (q + 1) (by omega) (by omega) (upd oo q (nI (O q))) (fun r hr hkr => by
        by_cases e : r = q
        · subst e; exact pk_us
        · rw [pk_un e]; exact ho r (by omega) hkr)
      rw [kr_n_t hk] at hn
      have hOq := hO2 q (by omega)
      have hlq : kr_l (kr_K dp ko a) O q ≤ q := kr_l_le q (fun r hr => hO2 r (by omega))
      refine nm_r (nI_1 a) ⟨q - (a + 1) + 1, hl _ ?_⟩
      refine ⟨iq, nm_r (e' := upd oo q (nI (O q))) (by rw [cq, nI_1, ← hO q (by omega)]) (nm_r (nI_1 _) ⟨iq, ?_⟩)⟩
      rw [cq, pk_us]
      by_cases w : O q ≤ kr_l (kr_K dp ko a) O q
      · rw [kr_l_f (fun y => by have := y.2; omega)] at hn
        exact br_t (kr_le w (by omega)) (nm_r (nI_1 q) hn)
      · rw [kr_l_t ⟨hk, by omega⟩] at hn
        exact br_f (kr_nle (by omega) (by omega)) ⟨iq, nm_e (nm_r (nI_1 q) hn)⟩
    · have hn := ih (q + 1) (by omega) (by omega) oo (fun r hr hkr => by
        by_cases e : r = q
        · subst e; rw [hk] at hkr; exact absurd hkr (by decide)
        · exact ho r (by omega) hkr)
      rw [kr_n_f hk, kr_l_f (fun y => by rw [hk] at y; exact absurd y.1 (by decide))] at hn
      exact hn
theorem kr_y4 (a : Nat) (dN sN : Nat) (op lst g ke gn mv : Int32) (dt dk dp st sk sp si ss ko oo ni ns oi os ro be : Nat → Int32) (hd : dN ≤ 16) (hs : sN ≤ 16) (hk : ∀ q, q < dN → ko q = -1 ∨ ∃ j, j < sN ∧ ko q = nI j) (post : Int32 → SY → Prop) (hp : ∀ ro : Nat → Int32, (∀ q, q < dN → kr_K dp ko a q = true → ro (kr_n (kr_K dp ko a) q) = ko q) → ∃ n57 : Nat, wY_movesAt_57 post (nI (kr_n (kr_K dp ko a) dN)) (nI sN) (nI dN) lst op g ke gn mv n57 0 0 st sk sp si ss dt dk dp ko oi os ro be) : ∀ d q : Nat, q + d = dN → ∀ ro : Nat → Int32, (∀ r, r < q → kr_K dp ko a r = true → ro (kr_n (kr_K dp ko a) r) = ko r) → wY_movesAt_4 post (nI a) (nI sN) (nI dN) lst op g ke gn mv (d + 1) (nI (kr_n (kr_K dp ko a) q)) (nI q) st sk sp si ss dt dk dp ko oi os ro be := by
  intro d
  induction d with
  | zero =>
    intro q hq ro hr
    have e : q = dN := by omega
    subst e
    exact br_t (kr_le (Nat.le_refl _) (by omega)) (hp ro hr)
  | succ d ih =>
    intro q hq ro hr
    have h : ¬ nI dN ≤ nI q := kr_nle (by omega) (by omega)
    have iq : vp_in (nI q) 16 := kr_in (by omega)
    have cq : (nI q).toNatClampNeg = q := kr_c (by omega)
    have skip : kr_K dp ko a q = false → wY_movesAt_4 post (nI a) (nI sN) (nI dN) lst op g ke gn mv (d + 1) (nI (kr_n (kr_K dp ko a) q)) (nI (q + 1)) st sk sp si ss dt dk dp ko oi os ro be := by
      intro hf
      have hn := ih (q + 1) (by omega) ro (fun r hr1 hkr => by
        by_cases e : r = q
        · subst e; rw [hf] at hkr; exact absurd hkr (by decide)
        · exact hr r (by omega) hkr)
      rw [kr_n_f hf] at hn
      exact hn
    refine br_f h ⟨iq, ?_⟩
    rw [cq]
    by_cases z : dp q = nI a
    · refine br_t z ⟨iq, ?_⟩
      by_cases z2 : ko q = -1
      · exact br_t (by rw [z2]; decide) (nm_r (nI_1 q) (skip (kr_K_f (fun y => y.2 z2))))
      · have hkq := kr_K_t z z2
        have hnn : ¬ ko q < 0 := by
          rcases hk q (by omega) with e | ⟨j, hj, e⟩
          · exact absurd e z2
          · rw [e]; exact kr_pos (by omega)
        have hle := kr_n_le (kr_K dp ko a) q
        have hn := ih (q + 1) (by omega) (upd ro (kr_n (kr_K dp ko a) q) (ko q)) (fun r hr1 hkr => by
          by_cases e : r = q
          · subst e; exact pk_us
          · have hlt := kr_n_lt hkr (show r < q by omega)
            rw [pk_un (by omega)]; exact hr r (by omega) hkr)
        rw [kr_n_t hkq] at hn
        exact br_f hnn ⟨iq, kr_in (by omega), nm_r (by rw [kr_c (by omega)]) (nm_r (nI_1 _) (nm_r (nI_1 q) hn))⟩
    · exact br_f z (nm_r (nI_1 q) (skip (kr_K_f (fun y => z y.1))))
theorem kr_y74 (a p : Nat) (O : Nat → Nat) (dN sN : Nat) (op lst g ke gn mv : Int32) (dt dk dp st sk sp si ss ko oo ni ns oi os ro be : Nat → Int32) (hd : dN ≤ 16) (hpd : p < dN) (hkp : kr_K dp ko a p = true) (hO : ∀ q, q < dN → O q = kr_m (kr_K dp ko a) ko O (ko q) q + 1) (hO2 : ∀ q, q < dN → O q ≤ q + 1) (hr : ∀ q, q < dN → kr_K dp ko a q = true → ro (kr_n (kr_K dp ko a) q) = ko q) (post : Int32 → SY → Prop) (x2 : Int32)
    (J : Int32 → Int32 → (Nat → Int32) → (Nat → Int32) → (Nat → Int32) → (Nat → Int32) → (Nat → Int32) → (Nat → Int32) → (Nat → Int32) → (Nat → Int32) → (Nat → Int32) → (Nat → Int32) → (Nat → Int32) → (Nat → Int32) → (Nat → Int32) → Prop)
    (hJ : ∀ be : Nat → Int32, (∀ q, q < p + 1 → kr_K dp ko a q = true → be (kr_n (kr_K dp ko a) q) = nI (O q)) → J (nI (kr_l (kr_K dp ko a) O (p + 1))) (nI (kr_n (kr_K dp ko a) p + 1)) st sk sp si ss dt dk dp ko oi os ro be) :
    ∀ d j y : Nat, j + d = kr_n (kr_K dp ko a) p → y ≤ p → kr_n (kr_K dp ko a) y = j → ∀ be : Nat → Int32, (∀ q, q < p → kr_K dp ko a q = true → be (kr_n (kr_K dp ko a) q) = nI (O q)) → be (kr_n (kr_K dp ko a) p) = nI (kr_m (kr_K dp ko a) ko O (ko p) y + 1) → wY_movesAt_74 post J x2 (nI (kr_l (kr_K dp ko a) O p)) (nI (kr_n (kr_K dp ko a) p)) (nI sN) (nI dN) lst op g ke gn mv (d + 1) (nI j) st sk sp si ss dt dk dp ko oi os ro be := by
  have hle := kr_n_le (kr_K dp ko a) p
  have im : vp_in (nI (kr_n (kr_K dp ko a) p)) 16 := kr_in (by omega)
  have cm : (nI (kr_n (kr_K dp ko a) p)).toNatClampNeg = kr_n (kr_K dp ko a) p := kr_c (by omega)
  intro d
  induction d with
  | zero =>
    intro j y hj hy hyj be hb hbm
    have hc := (kr_cst (kr_K dp ko a) ko O p hy (kr_no (by omega))).2.2 (ko p)
    rw [← hc, ← hO p hpd] at hbm
    have hOp := hO2 p hpd
    have hlp : kr_l (kr_K dp ko a) O p ≤ p := kr_l_le p (fun r hr => hO2 r (by omega))
    have hn := hJ be (fun q hq hkq => by
      by_cases e : q = p
      · subst e; exact hbm
      · exact hb q (by omega) hkq)
    refine br_t (kr_le (by omega) (by omega)) ⟨im, ?_⟩
    rw [cm, hbm]
    by_cases w : O p ≤ kr_l (kr_K dp ko a) O p
    · rw [kr_l_f (fun z => by have := z.2; omega)] at hn
      exact br_t (kr_le w (by omega)) (nm_r (nI_1 _) hn)
    · rw [kr_l_t ⟨hkp, by omega⟩] at hn
      exact br_f (kr_nle (by omega) (by omega)) ⟨im, nm_e (nm_r (nI_1 _) hn)⟩
  | succ d ih =>
    intro j y hj hy hyj be hb hbm
    obtain ⟨p', h1, h2, h3, h4⟩ := kr_next (kr_K dp ko a) p hy (by omega)
    have hc := kr_cst (kr_K dp ko a) ko O p' h1 h4
    have hjn : kr_n (kr_K dp ko a) p' = j := by rw [hc.1]; exact hyj
    have hm' := hc.2.2 (ko p)
    rw [← hm'] at hbm
    have ij : vp_in (nI j) 16 := kr_in (by omega)
    have cj : (nI j).toNatClampNeg = j := kr_c (by omega)
    have erj : ro j = ko p' := by rw [← hjn]; exact hr p' (by omega) h3
    have erm : ro (kr_n (kr_K dp ko a) p) = ko p := hr p hpd hkp
    have ebj : be j = nI (O p') := by rw [← hjn]; exact hb p' h2 h3
    have hOp := hO2 p' (by omega)
    have hmp : kr_m (kr_K dp ko a) ko O (ko p) p' ≤ p' := kr_m_le p' (fun r hr => hO2 r (by omega))
    have go : ∀ x : Nat, kr_m (kr_K dp ko a) ko O (ko p) (p' + 1) = x → wY_movesAt_74 post J x2 (nI (kr_l (kr_K dp ko a) O p)) (nI (kr_n (kr_K dp ko a) p)) (nI sN) (nI dN) lst op g ke gn mv (d + 1) (nI (j + 1)) st sk sp si ss dt dk dp ko oi os ro (upd be (kr_n (kr_K dp ko a) p) (nI (x + 1))) := by
      intro x hx
      refine ih (j + 1) (p' + 1) (by omega) (by omega) (by rw [kr_n_t h3, hjn]) _ (fun q hq hkq => ?_) ?_
      · have hlt := kr_n_lt hkq hq
        rw [pk_un (by omega)]; exact hb q hq hkq
      · rw [pk_us, hx]
    refine br_f (kr_nle (by omega) (by omega)) ⟨ij, im, ?_⟩
    rw [cm, cj, erj, erm]
    by_cases z : ko p ≤ ko p'
    · have z2 : ¬ ko p' < ko p := Int32.not_lt.mpr z
      exact br_t z ⟨im, im, nm_r (by rw [hbm]) (nm_r (nI_1 j) (go _ (kr_m_f (fun y => z2 y.2.1))))⟩
    · have z2 : ko p' < ko p := Int32.not_le.mp z
      refine br_f z ⟨ij, im, ?_⟩
      rw [ebj, hbm, nI_1]
      by_cases w : O p' ≤ kr_m (kr_K dp ko a) ko O (ko p) p'
      · exact br_t (kr_le (by omega) (by omega)) ⟨im, im, nm_e (nm_r (nI_1 j) (go _ (kr_m_f (fun y => by have := y.2.2; omega))))⟩
      · exact br_f (kr_nle (by omega) (by omega)) ⟨ij, im, nm_e (nm_r (nI_1 j) (go _ (kr_m_t ⟨h3, z2, by omega⟩)))⟩
theorem kr_y57 (a : Nat) (O : Nat → Nat) (dN sN : Nat) (op lst g ke gn mv : Int32) (dt dk dp st sk sp si ss ko oo ni ns oi os ro be : Nat → Int32) (hd : dN ≤ 16) (hO : ∀ q, q < dN → O q = kr_m (kr_K dp ko a) ko O (ko q) q + 1) (hO2 : ∀ q, q < dN → O q ≤ q + 1) (hr : ∀ q, q < dN → kr_K dp ko a q = true → ro (kr_n (kr_K dp ko a) q) = ko q) (post : Int32 → SY → Prop) (hp : ∀ b', post (nI (kr_n (kr_K dp ko a) dN) - nI (kr_l (kr_K dp ko a) O dN)) (nI sN, nI dN, lst, op, g, ke, gn, mv, st, sk, sp, si, ss, dt, dk, dp, ko, oi, os, ro, b')) : ∀ d m x : Nat, m + d = kr_n (kr_K dp ko a) dN → x ≤ dN → kr_n (kr_K dp ko a) x = m → ∀ be : Nat → Int32, (∀ q, q < x → kr_K dp ko a q = true → be (kr_n (kr_K dp ko a) q) = nI (O q)) → wY_movesAt_57 post (nI (kr_n (kr_K dp ko a) dN)) (nI sN) (nI dN) lst op g ke gn mv (d + 1) (nI (kr_l (kr_K dp ko a) O x)) (nI m) st sk sp si ss dt dk dp ko oi os ro be := by
  have hle := kr_n_le (kr_K dp ko a) dN
  intro d
  induction d with
  | zero =>
    intro m x hm hx hxm be hb
    have hc := (kr_cst (kr_K dp ko a) ko O dN hx (kr_no (by omega))).2.1
    rw [← hc]
    exact br_t (kr_le (by omega) (by omega)) (hp be)
  | succ d ih =>
    intro m x hm hx hxm be hb
    obtain ⟨p, h1, h2, h3, h4⟩ := kr_next (kr_K dp ko a) dN hx (by omega)
    have hc := kr_cst (kr_K dp ko a) ko O p h1 h4
    have hmn : kr_n (kr_K dp ko a) p = m := by rw [hc.1]; exact hxm
    have im : vp_in (nI m) 16 := kr_in (by omega)
    have cm : (nI m).toNatClampNeg = m := kr_c (by omega)
    rw [← hc.2.1]
    refine br_f (kr_nle (by omega) (by omega)) ⟨im, nm_r (e' := upd be m (nI 1)) (by rw [cm]; rfl) ⟨m + 1, ?_⟩⟩
    have h7 := kr_y74 a p O dN sN op lst g ke gn mv dt dk dp st sk sp si ss ko oo ni ns oi os ro be hd h2 h3 hO hO2 hr post (nI (kr_n (kr_K dp ko a) dN)) (wY_movesAt_57 post (nI (kr_n (kr_K dp ko a) dN)) (nI sN) (nI dN) lst op g ke gn mv (d + 1)) (fun be hb => ih _ (p + 1) (by omega) (by omega) (kr_n_t h3) be hb) m 0 0 (by omega) (by omega) rfl (upd be m (nI 1)) (fun q hq hkq => by
      have hlt := kr_n_lt hkq hq
      rw [pk_un (by omega)]
      refine hb q ?_ hkq
      apply Classical.byContradiction
      intro hn
      have := h4 q (by omega) hq
      rw [this] at hkq
      exact absurd hkq (by decide)) (by rw [hmn, pk_us]; rfl)
    rw [hmn] at h7
    exact h7
theorem kr_moves (a dN sN : Nat) (dp ko : Nat → Int32) (hd : dN ≤ 16) (hs : sN ≤ 16) (ha : a < dN) (hT : kr_T dp dN) (hk : ∀ q, q < dN → ko q = -1 ∨ ∃ j, j < sN ∧ ko q = nI j) : ∃ r : Int32,
    (∀ (op lst g ke gn mv : Int32) (dt dk st sk sp si ss oo ni ns : Nat → Int32) (post : Int32 → SX → Prop), (∀ oo : Nat → Int32, post r (nI dN, op, lst, nI sN, g, ke, gn, mv, dt, dk, dp, st, sk, sp, si, ss, ko, oo, ni, ns)) → wpX_movesAt post (nI dN, op, lst, nI sN, g, ke, gn, mv, dt, dk, dp, st, sk, sp, si, ss, ko, oo, ni, ns) (nI a)) ∧
    (∀ (op lst g ke gn mv : Int32) (dt dk st sk sp si ss oi os ro be : Nat → Int32) (post : Int32 → SY → Prop), (∀ ro be : Nat → Int32, post r (nI sN, nI dN, lst, op, g, ke, gn, mv, st, sk, sp, si, ss, dt, dk, dp, ko, oi, os, ro, be)) → wpY_movesAt post (nI sN, nI dN, lst, op, g, ke, gn, mv, st, sk, sp, si, ss, dt, dk, dp, ko, oi, os, ro, be) (nI a)) := by
  obtain ⟨O, hO, hO2⟩ := kr_O (kr_K dp ko a) ko dN
  have h0 := kr_cst (kr_K dp ko a) ko O (x := 0) (a + 1) (by omega) (fun q _ hq => kr_K_f (fun z => kr_T_nb hT hd (show q < dN by omega) (show q ≤ a by omega) (by omega) z.1))
  refine ⟨nI (kr_n (kr_K dp ko a) dN) - nI (kr_l (kr_K dp ko a) O dN), ?_, ?_⟩
  · intro op lst g ke gn mv dt dk st sk sp si ss oo ni ns post hp
    have h := kr_x9 a O dN sN op lst g ke gn mv dt dk dp st sk sp si ss ko oo ni ns oo oo oo oo hd hO hO2 (fun v => h0.2.2 v) post hp (dN - (a + 1)) (a + 1) (by omega) (by omega) oo (fun r hr hkr => by
      rw [kr_K_f (fun z => kr_T_nb hT hd (show r < dN by omega) (show r ≤ a by omega) (by omega) z.1)] at hkr
      exact absurd hkr (by decide))
    rw [h0.1, h0.2.1] at h
    exact nm_r (nI_1 a) ⟨_, h⟩
  · intro op lst g ke gn mv dt dk st sk sp si ss oi os ro be post hp
    refine ⟨dN + 1, ?_⟩
    refine kr_y4 a dN sN op lst g ke gn mv dt dk dp st sk sp si ss ko be be be oi os ro be hd hs hk post (fun ro hr => ⟨kr_n (kr_K dp ko a) dN + 1, ?_⟩) dN 0 (by omega) ro (fun r hr _ => absurd hr (Nat.not_lt_zero r))
    exact kr_y57 a O dN sN op lst g ke gn mv dt dk dp st sk sp si ss ko be be be oi os ro be hd hO hO2 hr post (fun b' => hp ro b') _ 0 0 (by omega) (by omega) rfl be (fun q hq _ => absurd hq (Nat.not_lt_zero q))
