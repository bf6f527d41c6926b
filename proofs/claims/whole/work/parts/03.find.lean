/-! the showing: which nodes are kept -/
theorem kr_look (i j : Nat) (dN sN : Nat) (op lst g ke gn mv : Int32) (dt dk dp st sk sp si ss ko oo ni ns oi os ro be : Nat → Int32) (hi : i < 16) (hj : j < 16) (post : Int32 → Prop) (h1 : dt i = st j → dk i = sk j → post 1) (h0 : ¬ (dt i = st j ∧ dk i = sk j) → post 0) : wpX_looksLike post (nI dN, op, lst, nI sN, g, ke, gn, mv, dt, dk, dp, st, sk, sp, si, ss, ko, oo, ni, ns) (nI i) (nI j) := by
  have ii : vp_in (nI i) 16 := kr_in hi
  have ij : vp_in (nI j) 16 := kr_in hj
  have ci : (nI i).toNatClampNeg = i := kr_c (by omega)
  have cj : (nI j).toNatClampNeg = j := kr_c (by omega)
  unfold wpX_looksLike
  refine ⟨ii, ij, ?_⟩
  rw [ci, cj]
  exact br_c (fun e1 => ⟨ii, ij, br_c (fun e2 => h1 e1 e2) (fun e2 => h0 (fun z => e2 z.2))⟩) (fun e1 => h0 (fun z => e1 z.1))
theorem kr_srch (i a : Nat) (ky my : Int32) (dN sN : Nat) (op lst g ke gn mv : Int32) (dt dk dp st sk sp si ss ko oo ni ns oi os ro be : Nat → Int32) (hs : sN ≤ 16) (hi : i < 16) : ∀ d j : Nat, j + d = sN → ∃ r : Int32, (r = -1 ∨ ∃ q, q < sN ∧ r = nI q) ∧ (∀ post : Int32 → Prop, post r → wX_shownChildLike_4 post (nI i) (nI a) (nI dN) op lst (nI sN) g ke gn mv dt dk dp st sk sp si ss ko oo ni ns (d + 1) (nI j)) ∧ (∀ post : Int32 → Prop, post r → wY_originOf_40 post (nI i) (nI a) (nI sN) (nI dN) lst op g ky gn my st sk sp si ss dt dk dp ko oi os ro be (d + 1) (nI j)) := by
  have ii : vp_in (nI i) 16 := kr_in hi
  have ci : (nI i).toNatClampNeg = i := kr_c (by omega)
  intro d
  induction d with
  | zero =>
    intro j hj
    have h : nI sN ≤ nI j := kr_le (by omega) (by omega)
    exact ⟨-1, Or.inl rfl, fun _ hp => br_t h hp, fun _ hp => br_t h hp⟩
  | succ d ih =>
    intro j hj
    have h : ¬ nI sN ≤ nI j := kr_nle (by omega) (by omega)
    have ij : vp_in (nI j) 16 := kr_in (by omega)
    have cj : (nI j).toNatClampNeg = j := kr_c (by omega)
    obtain ⟨r, hr, hX, hY⟩ := ih (j + 1) (by omega)
    by_cases z : sp (nI j).toNatClampNeg = nI a
    · by_cases z2 : dt i = st j ∧ dk i = sk j
      · refine ⟨nI j, Or.inr ⟨j, by omega, rfl⟩, fun post hp => br_f h ⟨ij, br_t z ?_⟩, fun post hp => br_f h ⟨ij, br_t z ⟨ij, ii, br_t (by rw [ci, cj]; exact z2.2.symm) ⟨ij, ii, br_t (by rw [ci, cj]; exact z2.1.symm) hp⟩⟩⟩⟩
        exact kr_look i j dN sN op lst g ke gn mv dt dk dp st sk sp si ss ko oo ni ns oi os ro be hi (by omega) _ (fun _ _ => br_f (by decide) hp) (fun n => absurd z2 n)
      · refine ⟨r, hr, fun post hp => br_f h ⟨ij, br_t z ?_⟩, fun post hp => br_f h ⟨ij, br_t z ⟨ij, ii, ?_⟩⟩⟩
        · exact kr_look i j dN sN op lst g ke gn mv dt dk dp st sk sp si ss ko oo ni ns oi os ro be hi (by omega) _ (fun e1 e2 => absurd ⟨e1, e2⟩ z2) (fun _ => br_t rfl (nm_r (nI_1 j) (hX post hp)))
        · refine br_c (fun e2 => ⟨ij, ii, br_f (fun e1 => z2 ?_) (nm_r (nI_1 j) (hY post hp))⟩) (fun _ => nm_r (nI_1 j) (hY post hp))
          rw [ci, cj] at e1 e2
          exact ⟨e1.symm, e2.symm⟩
    · exact ⟨r, hr, fun post hp => br_f h ⟨ij, br_f z (nm_r (nI_1 j) (hX post hp))⟩, fun post hp => br_f h ⟨ij, br_f z (nm_r (nI_1 j) (hY post hp))⟩⟩
theorem kr_yskip (i m n : Nat) (x : Int32) (dN sN : Nat) (op lst g ke gn mv : Int32) (dt dk dp st sk sp si ss ko oo ni ns oi os ro be : Nat → Int32) (hs : sN ≤ 16) (hi : i < 16) (post : Int32 → Prop) (hm : m ≤ sN) (hne : ∀ q, q < m → ¬ sp q = x) (h : wY_originOf_40 post (nI i) x (nI sN) (nI dN) lst op g ke gn mv st sk sp si ss dt dk dp ko oi os ro be n (nI m)) : ∀ d, d ≤ m → wY_originOf_40 post (nI i) x (nI sN) (nI dN) lst op g ke gn mv st sk sp si ss dt dk dp ko oi os ro be (n + d) (nI (m - d)) := by
  intro d
  induction d with
  | zero => intro _; exact h
  | succ d ih =>
    intro hd
    have h1 := ih (by omega)
    have e : m - d = (m - (d + 1)) + 1 := by omega
    rw [e] at h1
    have hl : ¬ nI sN ≤ nI (m - (d + 1)) := kr_nle (by omega) (by omega)
    have ij : vp_in (nI (m - (d + 1))) 16 := kr_in (by omega)
    have cj : (nI (m - (d + 1))).toNatClampNeg = m - (d + 1) := kr_c (by omega)
    exact br_f hl ⟨ij, br_f (by rw [cj]; exact hne _ (by omega)) (nm_r (nI_1 _) h1)⟩
theorem kr_yend (i a : Nat) (x : Int32) (dN sN : Nat) (op lst g ke gn mv : Int32) (dt dk dp st sk sp si ss ko oo ni ns oi os ro be : Nat → Int32) (hs : sN ≤ 16) (hi : i < 16) (post : Int32 → Prop) (hne : ∀ q, a ≤ q → q < sN → ¬ sp q = x) (hp : post (-1)) : ∀ d j : Nat, a ≤ j → j + d = sN → wY_originOf_40 post (nI i) x (nI sN) (nI dN) lst op g ke gn mv st sk sp si ss dt dk dp ko oi os ro be (d + 1) (nI j) := by
  intro d
  induction d with
  | zero =>
    intro j _ hj
    exact br_t (kr_le (by omega) (by omega)) hp
  | succ d ih =>
    intro j ha hj
    have hl : ¬ nI sN ≤ nI j := kr_nle (by omega) (by omega)
    have ij : vp_in (nI j) 16 := kr_in (by omega)
    have cj : (nI j).toNatClampNeg = j := kr_c (by omega)
    exact br_f hl ⟨ij, br_f (by rw [cj]; exact hne j ha (by omega)) (nm_r (nI_1 _) (ih (j + 1) (by omega) (by omega)))⟩
theorem kr_T_nr {p : Nat → Int32} {n q : Nat} (h : kr_T p n) (hn : n ≤ 16) (hq : q < n) (h0 : 1 ≤ q) : ¬ p q = -1 := by
  rcases h q hq with ⟨e, _⟩ | ⟨j, hj, e⟩
  · omega
  · rw [e]; exact kr_n1 (by omega)
theorem kr_T_nb {p : Nat → Int32} {n q a : Nat} (h : kr_T p n) (hn : n ≤ 16) (hq : q < n) (h0 : q ≤ a) (ha : a < 100) : ¬ p q = nI a := by
  rcases h q hq with ⟨_, e⟩ | ⟨j, hj, e⟩
  · rw [e]; exact fun z => kr_n1 ha z.symm
  · rw [e]; intro z
    have := kr_inj z (by omega) ha
    omega
theorem kr_node (i : Nat) (ky my : Int32) (dN sN : Nat) (op lst g ke gn mv : Int32) (dt dk dp st sk sp si ss ko oo ni ns oi os ro be : Nat → Int32) (hd : dN ≤ 16) (hs : sN ≤ 16) (hi : i < dN) (hT : kr_T dp dN) (hT2 : kr_T sp sN) (hk : ∀ q, q < i → ko q = -1 ∨ ∃ j, j < sN ∧ ko q = nI j) : ∃ r : Int32, (r = -1 ∨ ∃ q, q < sN ∧ r = nI q) ∧ (∀ post : Int32 → Prop, post r → wpX_shownNodeLike post (nI dN, op, lst, nI sN, g, ke, gn, mv, dt, dk, dp, st, sk, sp, si, ss, ko, oo, ni, ns) (nI i)) ∧ (∀ post : Int32 → Prop, post r → wpY_originOf post (nI sN, nI dN, lst, op, g, ky, gn, my, st, sk, sp, si, ss, dt, dk, dp, ko, oi, os, ro, be) (nI i)) := by
  have ii : vp_in (nI i) 16 := kr_in (by omega)
  have ci : (nI i).toNatClampNeg = i := kr_c (by omega)
  rcases hT i hi with ⟨e0, e⟩ | ⟨j, hj, e⟩
  · have ex : dp (nI i).toNatClampNeg = -1 := by rw [ci]; exact e
    have m1 : (-1 : Int32) < 0 := by decide
    have m2 : ¬ (0 : Int32) ≤ -1 := by decide
    by_cases h0 : sN = 0
    · have hl : nI sN ≤ 0 := kr_le (b := 0) (by omega) (by omega)
      exact ⟨-1, Or.inl rfl, fun _ hp => ⟨ii, nm_r ex (br_t rfl (br_t hl hp))⟩, fun _ hp => ⟨ii, nm_r ex (br_t m1 (br_f m2 ⟨1, br_t hl hp⟩))⟩⟩
    · have hl : ¬ nI sN ≤ 0 := kr_nle (a := 0) (by omega) (by omega)
      have i0 : vp_in (nI 0) 16 := kr_in (by omega)
      have c0' : (nI 0).toNatClampNeg = 0 := kr_c (by omega)
      have es : sp (nI 0).toNatClampNeg = -1 := by
        rw [c0']
        rcases hT2 0 (by omega) with ⟨_, e⟩ | ⟨j, hj, _⟩
        · exact e
        · omega
      have hne : ∀ q, 1 ≤ q → q < sN → ¬ sp q = -1 := fun q h1 h2 => kr_T_nr hT2 hs h2 h1
      by_cases z2 : dt i = st 0 ∧ dk i = sk 0
      · refine ⟨nI 0, Or.inr ⟨0, by omega, rfl⟩, fun post hp => ⟨ii, nm_r ex (br_t rfl (br_f hl ?_))⟩, fun post hp => ⟨ii, nm_r ex (br_t m1 (br_f m2 ⟨1, ?_⟩))⟩⟩
        · exact kr_look i 0 dN sN op lst g ke gn mv dt dk dp st sk sp si ss ko oo ni ns oi os ro be (by omega) (by omega) _ (fun _ _ => br_f (by decide) hp) (fun n => absurd z2 n)
        · exact br_f hl ⟨i0, br_t es ⟨i0, ii, br_t (by rw [ci]; exact z2.2.symm) ⟨i0, ii, br_t (by rw [ci]; exact z2.1.symm) hp⟩⟩⟩
      · refine ⟨-1, Or.inl rfl, fun post hp => ⟨ii, nm_r ex (br_t rfl (br_f hl ?_))⟩, fun post hp => ⟨ii, nm_r ex (br_t m1 (br_f m2 ⟨(sN - 1 + 1) + 1, ?_⟩))⟩⟩
        · exact kr_look i 0 dN sN op lst g ke gn mv dt dk dp st sk sp si ss ko oo ni ns oi os ro be (by omega) (by omega) _ (fun e1 e2 => absurd ⟨e1, e2⟩ z2) (fun _ => br_t rfl hp)
        · have hY := kr_yend i 1 (-1) dN sN op lst g ky gn my dt dk dp st sk sp si ss ko oo ni ns oi os ro be hs (by omega) post hne hp (sN - 1) 1 (by omega) (by omega)
          refine br_f hl ⟨i0, br_t es ⟨i0, ii, br_c (fun e2 => ⟨i0, ii, br_f (fun e1 => z2 ?_) (nm_e hY)⟩) (fun _ => nm_e hY)⟩⟩
          rw [ci] at e1 e2
          exact ⟨e1.symm, e2.symm⟩
  · have ex : dp (nI i).toNatClampNeg = nI j := by rw [ci]; exact e
    have n1 : ¬ nI j = -1 := kr_n1 (by omega)
    have n2 : ¬ nI j < 0 := kr_pos (by omega)
    have n3 : 0 ≤ nI j := kr_nn (by omega)
    have ij : vp_in (nI j) 16 := kr_in (by omega)
    have cj : (nI j).toNatClampNeg = j := kr_c (by omega)
    rcases hk j (by omega) with ek | ⟨a, ha, ek⟩
    · have ek' : ko (nI j).toNatClampNeg = -1 := by rw [cj]; exact ek
      have m2 : ¬ 0 ≤ ko (nI j).toNatClampNeg := by rw [ek']; decide
      exact ⟨-1, Or.inl rfl, fun _ hp => ⟨ii, nm_r ex (br_f n1 ⟨ij, nm_r ek' (br_t rfl hp)⟩)⟩, fun _ hp => ⟨ii, nm_r ex (br_f n2 ⟨ij, br_f m2 hp⟩)⟩⟩
    · have ek' : ko (nI j).toNatClampNeg = nI a := by rw [cj]; exact ek
      have m2 : 0 ≤ ko (nI j).toNatClampNeg := by rw [ek']; exact kr_nn (by omega)
      obtain ⟨r, hr, hX, hY⟩ := kr_srch i a ky my dN sN op lst g ke gn mv dt dk dp st sk sp si ss ko oo ni ns oi os ro be hs (by omega) (sN - (a + 1)) (a + 1) (by omega)
      refine ⟨r, hr, fun post hp => ⟨ii, nm_r ex (br_f n1 ⟨ij, nm_r ek' (br_f (kr_n1 (by omega)) (nm_r (nI_1 a) ⟨_, hX _ hp⟩))⟩)⟩, fun post hp => ⟨ii, nm_r ex (br_f n2 ⟨ij, br_t m2 (br_t n3 ⟨ij, nm_r ek' ⟨(sN - (a + 1) + 1) + (a + 1), ?_⟩⟩)⟩)⟩⟩
      have hz := kr_yskip i (a + 1) _ (nI a) dN sN op lst g ky gn my dt dk dp st sk sp si ss ko oo ni ns oi os ro be hs (by omega) post (by omega) (fun q hq => kr_T_nb hT2 hs (by omega) (by omega) (by omega)) (hY post hp) (a + 1) (by omega)
      rw [Nat.sub_self] at hz
      exact hz
/-- both walks over the draft, and the count -/
theorem kr_find (my : Int32) (dN sN : Nat) (op lst g ke gn mv : Int32) (dt dk dp st sk sp si ss ko oo ni ns oi os ro be : Nat → Int32) (hd : dN ≤ 16) (hs : sN ≤ 16) (hT : kr_T dp dN) (hT2 : kr_T sp sN) : ∀ d i : Nat, i + d = dN → ∀ (ko : Nat → Int32) (c : Int32), (∀ q, q < i → ko q = -1 ∨ ∃ j, j < sN ∧ ko q = nI j) →
    ∃ (k' : Nat → Int32) (c' : Int32), (∀ q, q < i → k' q = ko q) ∧ (∀ q, q < dN → k' q = -1 ∨ ∃ j, j < sN ∧ k' q = nI j) ∧
    (∀ post : SX → Prop, post (nI dN, op, lst, nI sN, g, ke, gn, mv, dt, dk, dp, st, sk, sp, si, ss, k', oo, ni, ns) → wX_findKeptNodes_2 post (nI dN) op lst (nI sN) g ke gn mv (d + 1) (nI i) dt dk dp st sk sp si ss ko oo ni ns) ∧
    (∀ post : Int32 → Prop, post c' → wX_countKeptNodes_4 post (nI dN) op lst (nI sN) g ke gn mv dt dk dp st sk sp si ss k' oo ni ns (d + 1) c (nI i)) ∧
    (∀ post : Int32 → SY → Prop, (∃ n82 : Nat, wY_show_82 post n82 0 (nI sN) (nI dN) lst op g c' gn my st sk sp si ss dt dk dp k' oi os ro be) → wY_show_29 post (nI sN) (nI dN) lst op g gn my (d + 1) (nI i) c st sk sp si ss dt dk dp ko oi os ro be) := by
  intro d
  induction d with
  | zero =>
    intro i hi ko c hk
    have h : nI dN ≤ nI i := kr_le (by omega) (by omega)
    exact ⟨ko, c, fun _ _ => rfl, fun q hq => hk q (by omega), fun _ hp => br_t h hp, fun _ hp => br_t h hp, fun _ hp => br_t h hp⟩
  | succ d ih =>
    intro i hi ko c hk
    have h : ¬ nI dN ≤ nI i := kr_nle (by omega) (by omega)
    have ii : vp_in (nI i) 16 := kr_in (by omega)
    have ci : (nI i).toNatClampNeg = i := kr_c (by omega)
    obtain ⟨r, hr, hX, hY⟩ := kr_node i c my dN sN op lst g ke gn mv dt dk dp st sk sp si ss ko oo ni ns oi os ro be hd hs (by omega) hT hT2 hk
    have hk1 : ∀ q, q < i + 1 → upd ko i r q = -1 ∨ ∃ j, j < sN ∧ upd ko i r q = nI j := by
      intro q hq
      by_cases e : q = i
      · subst e; rw [pk_us]; exact hr
      · rw [pk_un e]; exact hk q (by omega)
    by_cases hr1 : r = -1
    · obtain ⟨k', c', h1, h2, h3, h4, h5⟩ := ih (i + 1) (by omega) (upd ko i r) c hk1
      have eki : k' i = r := by rw [h1 i (by omega), pk_us]
      refine ⟨k', c', fun q hq => by rw [h1 q (by omega), pk_un (by omega)], h2, ?_, ?_, ?_⟩
      · intro post hp
        refine br_f h (hX _ ?_)
        exact ⟨ii, nm_r (by rw [ci]) (nm_r (nI_1 i) (h3 post hp))⟩
      · intro post hp
        exact br_f h ⟨ii, br_t (by rw [ci, eki]; exact hr1) (nm_r (nI_1 i) (h4 post hp))⟩
      · intro post hp
        refine br_f h (hY _ ?_)
        exact ⟨ii, nm_r (e' := upd ko i r) (by rw [ci]) ⟨ii, br_t (by rw [ci, pk_us, hr1]; decide) (nm_r (nI_1 i) (h5 post hp))⟩⟩
    · obtain ⟨k', c', h1, h2, h3, h4, h5⟩ := ih (i + 1) (by omega) (upd ko i r) (c + 1) hk1
      have eki : k' i = r := by rw [h1 i (by omega), pk_us]
      have hrp : ¬ r < 0 := by
        rcases hr with e | ⟨q, hq, e⟩
        · exact absurd e hr1
        · rw [e]; exact kr_pos (by omega)
      refine ⟨k', c', fun q hq => by rw [h1 q (by omega), pk_un (by omega)], h2, ?_, ?_, ?_⟩
      · intro post hp
        refine br_f h (hX _ ?_)
        exact ⟨ii, nm_r (by rw [ci]) (nm_r (nI_1 i) (h3 post hp))⟩
      · intro post hp
        exact br_f h ⟨ii, br_f (by rw [ci, eki]; exact hr1) (nm_e (nm_r (nI_1 i) (h4 post hp)))⟩
      · intro post hp
        refine br_f h (hY _ ?_)
        exact ⟨ii, nm_r (e' := upd ko i r) (by rw [ci]) ⟨ii, br_f (by rw [ci, pk_us]; exact hrp) (nm_e (nm_r (nI_1 i) (h5 post hp)))⟩⟩
