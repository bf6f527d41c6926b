/-! pure: counting, and the longest rising run, over the places of a row -/
def kr_n (K : Nat → Bool) : Nat → Nat
  | 0 => 0
  | q + 1 => if K q = true then kr_n K q + 1 else kr_n K q
def kr_m (K : Nat → Bool) (k : Nat → Int32) (O : Nat → Nat) (v : Int32) : Nat → Nat
  | 0 => 0
  | q + 1 => if K q = true ∧ k q < v ∧ kr_m K k O v q < O q then O q else kr_m K k O v q
def kr_l (K : Nat → Bool) (O : Nat → Nat) : Nat → Nat
  | 0 => 0
  | q + 1 => if K q = true ∧ kr_l K O q < O q then O q else kr_l K O q
theorem kr_n_t {K : Nat → Bool} {q : Nat} (h : K q = true) : kr_n K (q + 1) = kr_n K q + 1 := if_pos h
theorem kr_n_f {K : Nat → Bool} {q : Nat} (h : K q = false) : kr_n K (q + 1) = kr_n K q := if_neg (by rw [h]; decide)
theorem kr_m_t {K : Nat → Bool} {k : Nat → Int32} {O : Nat → Nat} {v : Int32} {q : Nat} (h : K q = true ∧ k q < v ∧ kr_m K k O v q < O q) : kr_m K k O v (q + 1) = O q := if_pos h
theorem kr_m_f {K : Nat → Bool} {k : Nat → Int32} {O : Nat → Nat} {v : Int32} {q : Nat} (h : ¬ (K q = true ∧ k q < v ∧ kr_m K k O v q < O q)) : kr_m K k O v (q + 1) = kr_m K k O v q := if_neg h
theorem kr_l_t {K : Nat → Bool} {O : Nat → Nat} {q : Nat} (h : K q = true ∧ kr_l K O q < O q) : kr_l K O (q + 1) = O q := if_pos h
theorem kr_l_f {K : Nat → Bool} {O : Nat → Nat} {q : Nat} (h : ¬ (K q = true ∧ kr_l K O q < O q)) : kr_l K O (q + 1) = kr_l K O q := if_neg h
theorem kr_n_s (K : Nat → Bool) (q : Nat) : kr_n K q ≤ kr_n K (q + 1) ∧ kr_n K (q + 1) ≤ kr_n K q + 1 := by
  cases h : K q with
  | true => rw [kr_n_t h]; omega
  | false => rw [kr_n_f h]; omega
theorem kr_n_le (K : Nat → Bool) : ∀ q, kr_n K q ≤ q := by
  intro q
  induction q with
  | zero => exact Nat.le_refl 0
  | succ q ih => have := kr_n_s K q; omega
theorem kr_n_mono (K : Nat → Bool) {p : Nat} : ∀ q, p ≤ q → kr_n K p ≤ kr_n K q := by
  intro q
  induction q with
  | zero => intro h; have e : p = 0 := by omega
            rw [e]; exact Nat.le_refl _
  | succ q ih =>
    intro h
    by_cases e : p = q + 1
    · rw [e]; exact Nat.le_refl _
    · have h1 := ih (by omega)
      have h2 := kr_n_s K q
      omega
theorem kr_n_lt {K : Nat → Bool} {p q : Nat} (hp : K p = true) (h : p < q) : kr_n K p < kr_n K q := by
  have h1 := kr_n_mono K (p := p + 1) q (by omega)
  rw [kr_n_t hp] at h1
  omega
theorem kr_cst (K : Nat → Bool) (k : Nat → Int32) (O : Nat → Nat) {x : Nat} : ∀ y, x ≤ y → (∀ q, x ≤ q → q < y → K q = false) → kr_n K y = kr_n K x ∧ kr_l K O y = kr_l K O x ∧ ∀ v, kr_m K k O v y = kr_m K k O v x := by
  intro y
  induction y with
  | zero => intro h _; have e : x = 0 := by omega
            subst e; exact ⟨rfl, rfl, fun _ => rfl⟩
  | succ y ih =>
    intro h hf
    by_cases e : x = y + 1
    · subst e; exact ⟨rfl, rfl, fun _ => rfl⟩
    · obtain ⟨h1, h2, h3⟩ := ih (by omega) (fun q a b => hf q a (by omega))
      have hy := hf y (by omega) (by omega)
      have hy2 : ¬ K y = true := by rw [hy]; decide
      refine ⟨by rw [kr_n_f hy, h1], by rw [kr_l_f (fun z => hy2 z.1), h2], fun v => ?_⟩
      rw [kr_m_f (fun z => hy2 z.1), h3]
theorem kr_no {K : Nat → Bool} {x n : Nat} (h : kr_n K x = kr_n K n) : ∀ q, x ≤ q → q < n → K q = false := by
  intro q h1 h2
  cases hq : K q with
  | false => rfl
  | true =>
    have a := kr_n_lt hq h2
    have b := kr_n_mono K (p := x) q h1
    omega
theorem kr_next (K : Nat → Bool) {x : Nat} : ∀ n, x ≤ n → kr_n K x < kr_n K n → ∃ p, x ≤ p ∧ p < n ∧ K p = true ∧ ∀ q, x ≤ q → q < p → K q = false := by
  intro n
  induction n with
  | zero => intro h h1; have e : x = 0 := by omega
            subst e; omega
  | succ n ih =>
    intro h h1
    by_cases e : x = n + 1
    · subst e; omega
    · by_cases h2 : kr_n K x < kr_n K n
      · obtain ⟨p, a, b, c, d⟩ := ih (by omega) h2
        exact ⟨p, a, by omega, c, d⟩
      · have h3 := kr_n_mono K (p := x) n (by omega)
        refine ⟨n, by omega, by omega, ?_, kr_no (by omega)⟩
        cases hq : K n with
        | true => rfl
        | false => rw [kr_n_f hq] at h1; omega
theorem kr_m_congr {K : Nat → Bool} {k : Nat → Int32} {O O' : Nat → Nat} {v : Int32} : ∀ p, (∀ q, q < p → O' q = O q) → kr_m K k O' v p = kr_m K k O v p := by
  intro p
  induction p with
  | zero => intro _; rfl
  | succ p ih =>
    intro h
    have h1 := ih (fun q hq => h q (by omega))
    show (if K p = true ∧ k p < v ∧ kr_m K k O' v p < O' p then O' p else kr_m K k O' v p) = (if K p = true ∧ k p < v ∧ kr_m K k O v p < O p then O p else kr_m K k O v p)
    rw [h1, h p (by omega)]
theorem kr_m_le {K : Nat → Bool} {k : Nat → Int32} {O : Nat → Nat} {v : Int32} : ∀ p, (∀ q, q < p → O q ≤ q + 1) → kr_m K k O v p ≤ p := by
  intro p
  induction p with
  | zero => intro _; exact Nat.le_refl 0
  | succ p ih =>
    intro h
    have h1 := ih (fun q hq => h q (by omega))
    have h2 := h p (by omega)
    by_cases z : K p = true ∧ k p < v ∧ kr_m K k O v p < O p
    · rw [kr_m_t z]; exact h2
    · rw [kr_m_f z]; omega
theorem kr_l_le {K : Nat → Bool} {O : Nat → Nat} : ∀ p, (∀ q, q < p → O q ≤ q + 1) → kr_l K O p ≤ p := by
  intro p
  induction p with
  | zero => intro _; exact Nat.le_refl 0
  | succ p ih =>
    intro h
    have h1 := ih (fun q hq => h q (by omega))
    have h2 := h p (by omega)
    by_cases z : K p = true ∧ kr_l K O p < O p
    · rw [kr_l_t z]; exact h2
    · rw [kr_l_f z]; omega
theorem kr_O (K : Nat → Bool) (k : Nat → Int32) : ∀ n, ∃ O : Nat → Nat, (∀ p, p < n → O p = kr_m K k O (k p) p + 1) ∧ (∀ p, p < n → O p ≤ p + 1) := by
  intro n
  induction n with
  | zero => exact ⟨fun _ => 0, fun p hp => absurd hp (Nat.not_lt_zero p), fun p hp => absurd hp (Nat.not_lt_zero p)⟩
  | succ n ih =>
    obtain ⟨O, h1, h2⟩ := ih
    have hlt : ∀ q, q < n → (fun q => if q = n then kr_m K k O (k n) n + 1 else O q) q = O q := fun q hq => if_neg (by omega)
    have hn : (fun q => if q = n then kr_m K k O (k n) n + 1 else O q) n = kr_m K k O (k n) n + 1 := if_pos rfl
    refine ⟨fun q => if q = n then kr_m K k O (k n) n + 1 else O q, fun p hp => ?_, fun p hp => ?_⟩
    · rw [kr_m_congr p (fun q hq => hlt q (by omega))]
      by_cases e : p = n
      · subst e; exact hn
      · rw [hlt p (by omega)]; exact h1 p (by omega)
    · by_cases e : p = n
      · subst e; rw [hn]; have := kr_m_le (K := K) (k := k) (v := k p) p h2; omega
      · rw [hlt p (by omega)]; exact h2 p (by omega)
/-- q is a kept child of a -/
def kr_K (dp ko : Nat → Int32) (a q : Nat) : Bool := decide (dp q = nI a ∧ ¬ ko q = -1)
theorem kr_K_t {dp ko : Nat → Int32} {a q : Nat} (h1 : dp q = nI a) (h2 : ¬ ko q = -1) : kr_K dp ko a q = true := decide_eq_true ⟨h1, h2⟩
theorem kr_K_f {dp ko : Nat → Int32} {a q : Nat} (h : ¬ (dp q = nI a ∧ ¬ ko q = -1)) : kr_K dp ko a q = false := decide_eq_false h
theorem kr_K_o {dp ko : Nat → Int32} {a q : Nat} (h : kr_K dp ko a q = true) : dp q = nI a ∧ ¬ ko q = -1 := of_decide_eq_true h
