/-! the loop upwards: a printed loop whose state is a function of the index -/
theorem lup {R : Type} (Lf : Nat → Nat → Option R) (e : Nat) (r : Option R) (hend : ∀ n, Lf (n + 1) e = r) (hstep : ∀ n i, i < e → Lf (n + 1) i = Lf n (i + 1)) : ∀ d i n, e = i + d → d < n → Lf n i = r := by
  intro d
  induction d with
  | zero =>
    intro i n h1 h2
    obtain ⟨q, rfl⟩ : ∃ q, n = q + 1 := ⟨n - 1, by omega⟩
    rw [show i = e by omega]
    exact hend q
  | succ d ih =>
    intro i n h1 h2
    obtain ⟨q, rfl⟩ : ∃ q, n = q + 1 := ⟨n - 1, by omega⟩
    rw [hstep q i (by omega)]
    exact ih (i + 1) q (by omega) (by omega)
theorem lup0 {R : Type} (Lf : Nat → Nat → Option R) (e : Nat) (r : Option R) (n : Nat) (hn : e < n) (hend : ∀ n, Lf (n + 1) e = r) (hstep : ∀ n i, i < e → Lf (n + 1) i = Lf n (i + 1)) : Lf n 0 = r := lup Lf e r hend hstep e 0 n (by omega) hn
/-- how many i below n have P -/
def cnt (P : Nat → Bool) : Nat → Nat
  | 0 => 0
  | n + 1 => cnt P n + (if P n then 1 else 0)
theorem cnt_le (P : Nat → Bool) (n : Nat) : cnt P n ≤ n := by
  induction n with
  | zero => exact Nat.le_refl 0
  | succ n ih => simp only [cnt]; split <;> omega
theorem cnt_ext {P Q : Nat → Bool} {n : Nat} (h : ∀ i, i < n → P i = Q i) : cnt P n = cnt Q n := by
  induction n with
  | zero => rfl
  | succ n ih => simp only [cnt]; rw [ih (fun i hi => h i (by omega)), h n (by omega)]
/-- a search upwards -/
theorem lsr {R : Type} (Lf : Nat → Nat → Option R) (e : Nat) (P : Nat → Prop) (hit : Nat → Option R) (miss : Option R) (hend : ∀ n, (∀ k, k < e → ¬ P k) → Lf (n + 1) e = miss) (hhit : ∀ n i, i < e → (∀ k, k < i → ¬ P k) → P i → Lf (n + 1) i = hit i) (hno : ∀ n i, i < e → (∀ k, k ≤ i → ¬ P k) → Lf (n + 1) i = Lf n (i + 1)) : ∀ d i n, e = i + d → d < n → (∀ k, k < i → ¬ P k) → (∃ j, j < e ∧ P j ∧ (∀ k, k < j → ¬ P k) ∧ Lf n i = hit j) ∨ ((∀ k, k < e → ¬ P k) ∧ Lf n i = miss) := by
  intro d
  induction d with
  | zero =>
    intro i n h1 h2 h3
    obtain ⟨q, rfl⟩ : ∃ q, n = q + 1 := ⟨n - 1, by omega⟩
    have : i = e := by omega
    subst this
    exact Or.inr ⟨h3, hend q h3⟩
  | succ d ih =>
    intro i n h1 h2 h3
    obtain ⟨q, rfl⟩ : ∃ q, n = q + 1 := ⟨n - 1, by omega⟩
    by_cases hP : P i
    · exact Or.inl ⟨i, by omega, hP, h3, hhit q i (by omega) h3 hP⟩
    · have h4 : ∀ k, k ≤ i → ¬ P k := fun k hk => by
        rcases Nat.lt_or_ge k i with q | q
        · exact h3 k q
        · rw [show k = i by omega]; exact hP
      rw [hno q i (by omega) h4]
      exact ih (i + 1) q (by omega) (by omega) (fun k hk => h4 k (by omega))
theorem lsr0 {R : Type} (Lf : Nat → Nat → Option R) (e : Nat) (P : Nat → Prop) (hit : Nat → Option R) (miss : Option R) (n : Nat) (hn : e < n) (hend : ∀ n, (∀ k, k < e → ¬ P k) → Lf (n + 1) e = miss) (hhit : ∀ n i, i < e → (∀ k, k < i → ¬ P k) → P i → Lf (n + 1) i = hit i) (hno : ∀ n i, i < e → (∀ k, k ≤ i → ¬ P k) → Lf (n + 1) i = Lf n (i + 1)) : (∃ j, j < e ∧ P j ∧ (∀ k, k < j → ¬ P k) ∧ Lf n 0 = hit j) ∨ ((∀ k, k < e → ¬ P k) ∧ Lf n 0 = miss) := lsr Lf e P hit miss hend hhit hno e 0 n (by omega) hn (fun k hk => absurd hk (by omega))
theorem least_eq {P : Nat → Prop} {i j : Nat} (hi : P i) (hi' : ∀ k, k < i → ¬ P k) (hj : P j) (hj' : ∀ k, k < j → ¬ P k) : i = j := by
  rcases Nat.lt_trichotomy i j with h | h | h
  · exact absurd hi (hj' i h)
  · exact h
  · exact absurd hj (hi' j h)
theorem cnt_first {Q : Nat → Bool} {c : Nat} : ∀ i, (∀ k, k < i → ¬ (Q k = true ∧ cnt Q k = c)) → cnt Q i ≤ c := by
  intro i
  induction i with
  | zero => intro _; exact Nat.zero_le _
  | succ i ih =>
    intro h
    have h1 := ih (fun k hk => h k (by omega))
    have h2 := h i (by omega)
    simp only [cnt]
    by_cases hq : Q i = true
    · rw [if_pos hq]
      have : cnt Q i ≠ c := fun e => h2 ⟨hq, e⟩
      omega
    · rw [if_neg hq]; omega
theorem gz {x : Int32} (h : ¬ x ≤ 0) : 0 < x := Int32.not_le.mp h
/-! small ones of the reference -/
theorem eR_isNode {b : Nat} {g : Nat → Nat → Int32} {f0 : jM} {N : Nat} {x : Int32} (hN : g 0 1 = nI N) (hN5 : N ≤ 5) : mX6_isNode (mkR b g f0) b x = some (if 0 ≤ x ∧ x < nI N then 1 else 0, mkR b g f0) := by
  unfold mX6_isNode
  simp only [rI1, hN, Option.bind_some]
  by_cases h1 : x < 0
  · rw [if_pos h1, if_neg (by intro q; exact absurd h1 (Int32.not_lt.mpr q.1))]
  · rw [if_neg h1]
    by_cases h2 : nI N ≤ x
    · rw [if_pos h2, if_neg (by intro q; exact absurd h2 (Int32.not_le.mpr q.2))]
    · rw [if_neg h2, if_pos ⟨Int32.not_lt.mp h1, Int32.not_le.mp h2⟩]
theorem eR_importsOf {b fu n : Nat} {g : Nat → Nat → Int32} {f0 : jM} (hn : n < 5) (hfu : 120 < fu) : mX6_importsOf fu (mkR b g f0) b (nI n) = some (nI (cnt (fun o => decide (0 < g 9 (120 * n + o))) 120), mkR b g f0) := by
  unfold mX6_importsOf
  refine lup0 (fun k i => mX6_importsOf_L4 fu b (nI n) k (nI (cnt (fun o => decide (0 < g 9 (120 * n + o))) i)) (nI i) (mkR b g f0)) 120 _ fu hfu ?_ ?_
  · intro k
    rw [mX6_importsOf_L4]
    rfl
  · intro k i hi
    rw [mX6_importsOf_L4]
    simp (disch := omega) only [i120, nI_leq, rR10, rl9, Option.bind_some, nI_mul, nI_add, gl_nI, i1]
    rw [if_neg (by omega)]
    by_cases h : g 9 (120 * n + i) ≤ 0
    · rw [if_pos h]
      have : ¬ 0 < g 9 (120 * n + i) := Int32.not_lt.mpr h
      simp only [cnt, this, decide_false, if_false, Nat.add_zero]
      rfl
    · rw [if_neg h]
      simp only [cnt, gz h, decide_true, if_true]
