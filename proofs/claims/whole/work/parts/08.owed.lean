/-! what is owed (the heads are the owed ones) -/
def i_Rel (k : Nat) (u : SX) (v : SY) : Prop := kr_R u v
theorem i_up {k : Nat} {u : SX} {v : SY} (h : i_Rel k u v) : i_Rel (k + 3) u v := h
theorem i_vc0 : wpX_init (fun u => wpY_init (fun v => i_Rel 0 u v)) := kr_mk (dN := 0) (sN := 0) (oN := 0) ⟨by decide, by decide, by decide, kr_T0 _, kr_T0 _, rfl⟩
theorem i_vc_open {k : Nat} {u : SX} {v : SY} (I : i_Rel k u v) (hk : k + 3 ≤ 1536) (v1 : Int32) (v2 : Int32) : wpX_open (fun r u' => wpY_open (fun r' v' => r' = r ∧ i_Rel (k + 3) u' v') v v1 v2) u v1 v2 := by
  obtain ⟨r, u', v', R, hX, hY⟩ := kr_open I v1 v2
  exact hX _ (hY _ ⟨rfl, R⟩)
theorem i_vc_close {k : Nat} {u : SX} {v : SY} (I : i_Rel k u v) (hk : k + 3 ≤ 1536) : wpX_close (fun r u' => wpY_close (fun r' v' => r' = r ∧ i_Rel (k + 3) u' v') v) u := by
  obtain ⟨r, u', v', R, hX, hY⟩ := kr_close I
  exact hX _ (hY _ ⟨rfl, R⟩)
theorem i_vc_leaf {k : Nat} {u : SX} {v : SY} (I : i_Rel k u v) (hk : k + 3 ≤ 1536) (v1 : Int32) (v2 : Int32) : wpX_leaf (fun r u' => wpY_leaf (fun r' v' => r' = r ∧ i_Rel (k + 3) u' v') v v1 v2) u v1 v2 := by
  obtain ⟨r, u', v', R, hX, hY⟩ := kr_leaf I v1 v2
  exact hX _ (hY _ ⟨rfl, R⟩)
theorem i_vc_scrap {k : Nat} {u : SX} {v : SY} (I : i_Rel k u v) (hk : k + 3 ≤ 1536) : wpX_scrap (fun u' => wpY_scrap (fun v' => i_Rel (k + 3) u' v') v) u := by
  obtain ⟨dN, sN, oN, lst, g, ke, gn, mv, dt, dk, dp, st, sk, sp, si, ss, ko, oo, ni, ns, oi, os, ro, be, rfl, rfl, hI⟩ := I
  obtain ⟨hd, hs, ho, hT, hT2, hC⟩ := hI
  exact kr_mk (dN := 0) (oN := 0) ⟨by omega, hs, by omega, kr_T0 _, hT2, rfl⟩
theorem i_vc_drafted {k : Nat} {u : SX} {v : SY} (I : i_Rel k u v) (hk : k + 3 ≤ 1536) : wpX_drafted (fun r => wpY_drafted (fun r' => r' = r ∧ i_Rel (k + 3) u v) v) u := by
  obtain ⟨dN, sN, oN, lst, g, ke, gn, mv, dt, dk, dp, st, sk, sp, si, ss, ko, oo, ni, ns, oi, os, ro, be, rfl, rfl, hI⟩ := I
  exact ⟨rfl, kr_mk hI⟩
theorem i_vc_recall {k : Nat} {u : SX} {v : SY} (I : i_Rel k u v) (hk : k + 3 ≤ 1536) : wpX_recall (fun r u' => wpY_recall (fun r' v' => r' = r ∧ i_Rel (k + 3) u' v') v) u := by
  obtain ⟨r, u', v', R, hX, hY⟩ := kr_recall I
  exact hX _ (hY _ ⟨rfl, R⟩)
theorem i_vc_show {k : Nat} {u : SX} {v : SY} (I : i_Rel k u v) (hk : k + 3 ≤ 1536) : wpX_show (fun r u' => wpY_show (fun r' v' => r' = r ∧ i_Rel (k + 3) u' v') v) u := by
  obtain ⟨r, U, V, R, hX, hY⟩ := kr_show I
  exact hX _ (fun u' hu => hY _ (fun v' hv => ⟨rfl, R u' v' hu hv⟩))
theorem i_vc_kept {k : Nat} {u : SX} {v : SY} (I : i_Rel k u v) (hk : k + 3 ≤ 1536) : wpX_kept (fun r => wpY_kept (fun r' => r' = r ∧ i_Rel (k + 3) u v) v) u := by
  obtain ⟨dN, sN, oN, lst, g, ke, gn, mv, dt, dk, dp, st, sk, sp, si, ss, ko, oo, ni, ns, oi, os, ro, be, rfl, rfl, hI⟩ := I
  exact ⟨rfl, kr_mk hI⟩
theorem i_vc_gone {k : Nat} {u : SX} {v : SY} (I : i_Rel k u v) (hk : k + 3 ≤ 1536) : wpX_gone (fun r => wpY_gone (fun r' => r' = r ∧ i_Rel (k + 3) u v) v) u := by
  obtain ⟨dN, sN, oN, lst, g, ke, gn, mv, dt, dk, dp, st, sk, sp, si, ss, ko, oo, ni, ns, oi, os, ro, be, rfl, rfl, hI⟩ := I
  exact ⟨rfl, kr_mk hI⟩
theorem i_vc_moves {k : Nat} {u : SX} {v : SY} (I : i_Rel k u v) (hk : k + 3 ≤ 1536) : wpX_moves (fun r => wpY_moves (fun r' => r' = r ∧ i_Rel (k + 3) u v) v) u := by
  obtain ⟨dN, sN, oN, lst, g, ke, gn, mv, dt, dk, dp, st, sk, sp, si, ss, ko, oo, ni, ns, oi, os, ro, be, rfl, rfl, hI⟩ := I
  exact ⟨rfl, kr_mk hI⟩
theorem i_vc_size {k : Nat} {u : SX} {v : SY} (I : i_Rel k u v) (hk : k + 3 ≤ 1536) : wpX_size (fun r => wpY_size (fun r' => r' = r ∧ i_Rel (k + 3) u v) v) u := by
  obtain ⟨dN, sN, oN, lst, g, ke, gn, mv, dt, dk, dp, st, sk, sp, si, ss, ko, oo, ni, ns, oi, os, ro, be, rfl, rfl, hI⟩ := I
  exact ⟨rfl, kr_mk hI⟩
theorem i_vc_id {k : Nat} {u : SX} {v : SY} (I : i_Rel k u v) (hk : k + 3 ≤ 1536) (v1 : Int32) : wpX_id (fun r => wpY_id (fun r' => r' = r ∧ i_Rel (k + 3) u v) v v1) u v1 := by
  obtain ⟨dN, sN, oN, lst, g, ke, gn, mv, dt, dk, dp, st, sk, sp, si, ss, ko, oo, ni, ns, oi, os, ro, be, rfl, rfl, hI⟩ := I
  have hs := hI.2.1
  rcases kr_p3 v1 hs with h | ⟨j, hj, rfl⟩
  · unfold wpX_id
    refine kr_xno v1 dN sN (nI oN) lst g ke gn mv dt dk dp st sk sp si ss ko oo ni ns oi os ro be h _ ?_
    refine br_t rfl ?_
    unfold wpY_id
    refine kr_yno v1 dN sN (nI oN) lst g ke gn mv dt dk dp st sk sp si ss ko oo ni ns oi os ro be h _ ?_
    exact br_t rfl ⟨rfl, kr_mk hI⟩
  · have ij : vp_in (nI j) 16 := kr_in (by omega)
    unfold wpX_id
    refine kr_xyes j dN sN (nI oN) lst g ke gn mv dt dk dp st sk sp si ss ko oo ni ns oi os ro be hs hj _ ?_
    refine br_f (by decide) ?_
    refine ⟨ij, ?_⟩
    unfold wpY_id
    refine kr_yyes j dN sN (nI oN) lst g ke gn mv dt dk dp st sk sp si ss ko oo ni ns oi os ro be hs hj _ ?_
    refine br_f (by decide) ?_
    exact ⟨ij, rfl, kr_mk hI⟩
theorem i_vc_kind {k : Nat} {u : SX} {v : SY} (I : i_Rel k u v) (hk : k + 3 ≤ 1536) (v1 : Int32) : wpX_kind (fun r => wpY_kind (fun r' => r' = r ∧ i_Rel (k + 3) u v) v v1) u v1 := by
  obtain ⟨dN, sN, oN, lst, g, ke, gn, mv, dt, dk, dp, st, sk, sp, si, ss, ko, oo, ni, ns, oi, os, ro, be, rfl, rfl, hI⟩ := I
  have hs := hI.2.1
  rcases kr_p3 v1 hs with h | ⟨j, hj, rfl⟩
  · unfold wpX_kind
    refine kr_xno v1 dN sN (nI oN) lst g ke gn mv dt dk dp st sk sp si ss ko oo ni ns oi os ro be h _ ?_
    refine br_t rfl ?_
    unfold wpY_kind
    refine kr_yno v1 dN sN (nI oN) lst g ke gn mv dt dk dp st sk sp si ss ko oo ni ns oi os ro be h _ ?_
    exact br_t rfl ⟨rfl, kr_mk hI⟩
  · have ij : vp_in (nI j) 16 := kr_in (by omega)
    unfold wpX_kind
    refine kr_xyes j dN sN (nI oN) lst g ke gn mv dt dk dp st sk sp si ss ko oo ni ns oi os ro be hs hj _ ?_
    refine br_f (by decide) ?_
    refine ⟨ij, ij, ?_⟩
    unfold wpY_kind
    refine kr_yyes j dN sN (nI oN) lst g ke gn mv dt dk dp st sk sp si ss ko oo ni ns oi os ro be hs hj _ ?_
    refine br_f (by decide) ?_
    exact ⟨ij, ij, rfl, kr_mk hI⟩
theorem i_vc_state {k : Nat} {u : SX} {v : SY} (I : i_Rel k u v) (hk : k + 3 ≤ 1536) (v1 : Int32) : wpX_state (fun r => wpY_state (fun r' => r' = r ∧ i_Rel (k + 3) u v) v v1) u v1 := by
  obtain ⟨dN, sN, oN, lst, g, ke, gn, mv, dt, dk, dp, st, sk, sp, si, ss, ko, oo, ni, ns, oi, os, ro, be, rfl, rfl, hI⟩ := I
  have hs := hI.2.1
  rcases kr_p3 v1 hs with h | ⟨j, hj, rfl⟩
  · unfold wpX_state
    refine kr_xno v1 dN sN (nI oN) lst g ke gn mv dt dk dp st sk sp si ss ko oo ni ns oi os ro be h _ ?_
    refine br_t rfl ?_
    unfold wpY_state
    refine kr_yno v1 dN sN (nI oN) lst g ke gn mv dt dk dp st sk sp si ss ko oo ni ns oi os ro be h _ ?_
    exact br_t rfl ⟨rfl, kr_mk hI⟩
  · have ij : vp_in (nI j) 16 := kr_in (by omega)
    unfold wpX_state
    refine kr_xyes j dN sN (nI oN) lst g ke gn mv dt dk dp st sk sp si ss ko oo ni ns oi os ro be hs hj _ ?_
    refine br_f (by decide) ?_
    refine ⟨ij, ?_⟩
    unfold wpY_state
    refine kr_yyes j dN sN (nI oN) lst g ke gn mv dt dk dp st sk sp si ss ko oo ni ns oi os ro be hs hj _ ?_
    refine br_f (by decide) ?_
    exact ⟨ij, rfl, kr_mk hI⟩
theorem i_vc_put {k : Nat} {u : SX} {v : SY} (I : i_Rel k u v) (hk : k + 3 ≤ 1536) (v1 : Int32) (v2 : Int32) : wpX_put (fun r u' => wpY_put (fun r' v' => r' = r ∧ i_Rel (k + 3) u' v') v v1 v2) u v1 v2 := by
  obtain ⟨dN, sN, oN, lst, g, ke, gn, mv, dt, dk, dp, st, sk, sp, si, ss, ko, oo, ni, ns, oi, os, ro, be, rfl, rfl, hI⟩ := I
  have hs := hI.2.1
  rcases kr_p3 v1 hs with h | ⟨j, hj, rfl⟩
  · unfold wpX_put
    refine kr_xno v1 dN sN (nI oN) lst g ke gn mv dt dk dp st sk sp si ss ko oo ni ns oi os ro be h _ ?_
    refine br_t rfl ?_
    unfold wpY_put
    refine kr_yno v1 dN sN (nI oN) lst g ke gn mv dt dk dp st sk sp si ss ko oo ni ns oi os ro be h _ ?_
    exact br_t rfl ⟨rfl, kr_mk hI⟩
  · have ij : vp_in (nI j) 16 := kr_in (by omega)
    by_cases h2 : 0 ≤ v2
    · unfold wpX_put
      refine kr_xyes j dN sN (nI oN) lst g ke gn mv dt dk dp st sk sp si ss ko oo ni ns oi os ro be hs hj _ ?_
      refine br_f (by decide) (br_t h2 ⟨ij, nm_e ⟨ij, nm_e ?_⟩⟩)
      unfold wpY_put
      refine kr_yyes j dN sN (nI oN) lst g ke gn mv dt dk dp st sk sp si ss ko oo ni ns oi os ro be hs hj _ ?_
      exact br_f (by decide) (br_t h2 ⟨ij, nm_e ⟨ij, nm_e ⟨rfl, kr_mk hI⟩⟩⟩)
    · unfold wpX_put
      refine kr_xyes j dN sN (nI oN) lst g ke gn mv dt dk dp st sk sp si ss ko oo ni ns oi os ro be hs hj _ ?_
      refine br_f (by decide) (br_f h2 ?_)
      unfold wpY_put
      refine kr_yyes j dN sN (nI oN) lst g ke gn mv dt dk dp st sk sp si ss ko oo ni ns oi os ro be hs hj _ ?_
      exact br_f (by decide) (br_f h2 ⟨rfl, kr_mk hI⟩)
theorem i_vc_place {k : Nat} {u : SX} {v : SY} (I : i_Rel k u v) (hk : k + 3 ≤ 1536) (v1 : Int32) : wpX_place (fun r => wpY_place (fun r' => r' = r ∧ i_Rel (k + 3) u v) v v1) u v1 := by
  obtain ⟨dN, sN, oN, lst, g, ke, gn, mv, dt, dk, dp, st, sk, sp, si, ss, ko, oo, ni, ns, oi, os, ro, be, rfl, rfl, hI⟩ := I
  obtain ⟨r, hX, hY⟩ := kr_plc v1 dN sN (nI oN) lst g ke gn mv dt dk dp st sk sp si ss ko oo ni ns oi os ro be hI.2.1 sN 0 (by omega)
  exact ⟨_, hX _ ⟨_, hY _ ⟨rfl, kr_mk hI⟩⟩⟩
theorem i_vc_parent {k : Nat} {u : SX} {v : SY} (I : i_Rel k u v) (hk : k + 3 ≤ 1536) (v1 : Int32) : wpX_parent (fun r => wpY_parent (fun r' => r' = r ∧ i_Rel (k + 3) u v) v v1) u v1 := by
  obtain ⟨dN, sN, oN, lst, g, ke, gn, mv, dt, dk, dp, st, sk, sp, si, ss, ko, oo, ni, ns, oi, os, ro, be, rfl, rfl, hI⟩ := I
  have hs := hI.2.1
  rcases kr_p3 v1 hs with h | ⟨j, hj, rfl⟩
  · unfold wpX_parent
    refine kr_xno v1 dN sN (nI oN) lst g ke gn mv dt dk dp st sk sp si ss ko oo ni ns oi os ro be h _ ?_
    refine br_t rfl ?_
    unfold wpY_parent
    refine kr_yno v1 dN sN (nI oN) lst g ke gn mv dt dk dp st sk sp si ss ko oo ni ns oi os ro be h _ ?_
    exact br_t rfl ⟨rfl, kr_mk hI⟩
  · have ij : vp_in (nI j) 16 := kr_in (by omega)
    by_cases h2 : j = 0
    · have e1 : nI j = 0 := by rw [h2]; rfl
      have e2 : nI j ≤ 0 := kr_le (b := 0) (by omega) (by omega)
      unfold wpX_parent
      refine kr_xyes j dN sN (nI oN) lst g ke gn mv dt dk dp st sk sp si ss ko oo ni ns oi os ro be hs hj _ ?_
      refine br_f (by decide) (br_t e1 ?_)
      unfold wpY_parent
      refine kr_yyes j dN sN (nI oN) lst g ke gn mv dt dk dp st sk sp si ss ko oo ni ns oi os ro be hs hj _ ?_
      exact br_f (by decide) (br_t e2 ⟨rfl, kr_mk hI⟩)
    · have e1 : ¬ nI j = 0 := nI_ne0 (by omega) (by omega)
      have e2 : ¬ nI j ≤ 0 := kr_nle (a := 0) (by omega) (by omega)
      unfold wpX_parent
      refine kr_xyes j dN sN (nI oN) lst g ke gn mv dt dk dp st sk sp si ss ko oo ni ns oi os ro be hs hj _ ?_
      refine br_f (by decide) (br_f e1 ⟨ij, ?_⟩)
      unfold wpY_parent
      refine kr_yyes j dN sN (nI oN) lst g ke gn mv dt dk dp st sk sp si ss ko oo ni ns oi os ro be hs hj _ ?_
      exact br_f (by decide) (br_f e2 ⟨ij, rfl, kr_mk hI⟩)
theorem i_vc_children {k : Nat} {u : SX} {v : SY} (I : i_Rel k u v) (hk : k + 3 ≤ 1536) (v1 : Int32) : wpX_children (fun r => wpY_children (fun r' => r' = r ∧ i_Rel (k + 3) u v) v v1) u v1 := by
  obtain ⟨dN, sN, oN, lst, g, ke, gn, mv, dt, dk, dp, st, sk, sp, si, ss, ko, oo, ni, ns, oi, os, ro, be, rfl, rfl, hI⟩ := I
  have hs := hI.2.1
  rcases kr_p3 v1 hs with h | ⟨j, hj, rfl⟩
  · unfold wpX_children
    refine kr_xno v1 dN sN (nI oN) lst g ke gn mv dt dk dp st sk sp si ss ko oo ni ns oi os ro be h _ ?_
    refine br_t rfl ?_
    unfold wpY_children
    refine kr_yno v1 dN sN (nI oN) lst g ke gn mv dt dk dp st sk sp si ss ko oo ni ns oi os ro be h _ ?_
    exact br_t rfl ⟨rfl, kr_mk hI⟩
  · obtain ⟨r, hX, hY⟩ := kr_chl (nI j) dN sN (nI oN) lst g ke gn mv dt dk dp st sk sp si ss ko oo ni ns oi os ro be hs (sN - (j + 1)) (j + 1) (by omega) 0
    unfold wpX_children
    refine kr_xyes j dN sN (nI oN) lst g ke gn mv dt dk dp st sk sp si ss ko oo ni ns oi os ro be hs hj _ ?_
    refine br_f (by decide) (nm_r (nI_1 j) ⟨_, hX _ ?_⟩)
    unfold wpY_children
    refine kr_yyes j dN sN (nI oN) lst g ke gn mv dt dk dp st sk sp si ss ko oo ni ns oi os ro be hs hj _ ?_
    refine br_f (by decide) ⟨(sN - (j + 1) + 1) + (j + 1), ?_⟩
    have hz := kr_chs (nI j) (j + 1) _ 0 dN sN (nI oN) lst g ke gn mv dt dk dp st sk sp si ss ko oo ni ns oi os ro be hs _ (by omega) (fun q hq => kr_T_nb hI.2.2.2.2.1 hs (by omega) (by omega) (by omega)) (hY (fun r' => r' = r ∧ i_Rel (k + 3) (nI dN, nI oN, lst, nI sN, g, ke, gn, mv, dt, dk, dp, st, sk, sp, si, ss, ko, oo, ni, ns) (nI sN, nI dN, lst, nI oN, g, ke, gn, mv, st, sk, sp, si, ss, dt, dk, dp, ko, oi, os, ro, be)) ⟨rfl, kr_mk hI⟩) (j + 1) (by omega)
    rw [Nat.sub_self] at hz
    exact hz
theorem i_vc_digest {k : Nat} {u : SX} {v : SY} (I : i_Rel k u v) (hk : k + 3 ≤ 1536) : wpX_digest (fun r => wpY_digest (fun r' => r' = r ∧ i_Rel (k + 3) u v) v) u := by
  obtain ⟨dN, sN, oN, lst, g, ke, gn, mv, dt, dk, dp, st, sk, sp, si, ss, ko, oo, ni, ns, oi, os, ro, be, rfl, rfl, hI⟩ := I
  obtain ⟨r, hX, hY⟩ := kr_dig dN sN (nI oN) lst g ke gn mv dt dk dp st sk sp si ss ko oo ni ns oi os ro be hI.2.1 sN 0 (by omega) 0
  exact ⟨_, hX _ ⟨_, hY _ ⟨rfl, kr_mk hI⟩⟩⟩
