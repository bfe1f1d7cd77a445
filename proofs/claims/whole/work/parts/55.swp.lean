/-! the kept ones, in their order -/
section KP
variable (mk : Nat → Bool) (od : Nat → Nat)
def kp (i : Nat) : Nat := cnt (fun j => mk (od j)) i
def ixn : Nat → Nat → Nat
  | 0 => fun j => j
  | i + 1 => if mk (od i) then upP (ixn i) (kp mk od i) i else ixn i
theorem kp_le (i : Nat) : kp mk od i ≤ i := cnt_le _ _
theorem kp_s {i : Nat} (h : mk (od i) = true) : kp mk od (i + 1) = kp mk od i + 1 := by
  show cnt _ (i + 1) = _
  simp only [cnt, h, if_true]
  rfl
theorem kp_n {i : Nat} (h : mk (od i) = false) : kp mk od (i + 1) = kp mk od i := by
  show cnt _ (i + 1) = _
  simp only [cnt, h]
  rfl
theorem kp_mono {a b : Nat} (h : a ≤ b) : kp mk od a ≤ kp mk od b := by
  induction b with
  | zero => rw [show a = 0 by omega]; exact Nat.le_refl _
  | succ b ih =>
    by_cases c : a = b + 1
    · rw [c]; exact Nat.le_refl _
    · have := ih (by omega)
      cases hm : mk (od b) with
      | true => rw [kp_s mk od hm]; omega
      | false => rw [kp_n mk od hm]; exact this
theorem ix_all : ∀ i, (∀ t, t < kp mk od i → ixn mk od i t < i ∧ mk (od (ixn mk od i t)) = true ∧ kp mk od (ixn mk od i t) = t) ∧ ∀ j, i ≤ j → ixn mk od i j = j := by
  intro i
  induction i with
  | zero => exact ⟨fun t ht => absurd ht (by have := kp_le mk od 0; omega), fun j _ => rfl⟩
  | succ i ih =>
    have hk := kp_le mk od i
    cases hm : mk (od i) with
    | true =>
      have e : ixn mk od (i + 1) = upP (ixn mk od i) (kp mk od i) i := by simp only [ixn, hm, if_true]
      rw [e, kp_s mk od hm]
      refine ⟨fun t ht => ?_, fun j hj => ?_⟩
      · simp only [upP]
        by_cases c : t = kp mk od i
        · rw [if_pos c]; exact ⟨by omega, hm, c.symm⟩
        · rw [if_neg c]
          have := ih.1 t (by omega)
          exact ⟨by omega, this.2⟩
      · simp only [upP]
        rw [if_neg (by omega)]
        exact ih.2 j (by omega)
    | false =>
      have e : ixn mk od (i + 1) = ixn mk od i := by simp only [ixn, hm]; rfl
      rw [e, kp_n mk od hm]
      exact ⟨fun t ht => by have := ih.1 t ht; exact ⟨by omega, this.2⟩, fun j hj => ih.2 j (by omega)⟩
theorem ix_stab {i i' t : Nat} (h : i ≤ i') (ht : t < kp mk od i) : ixn mk od i' t = ixn mk od i t := by
  induction i' with
  | zero => rw [show i = 0 by omega]
  | succ j ih =>
    by_cases c : i = j + 1
    · rw [c]
    · have h1 := ih (by omega)
      have h2 := kp_mono mk od (show i ≤ j by omega)
      rw [← h1]
      cases hm : mk (od j) with
      | true =>
        simp only [ixn, hm, if_true, upP]
        rw [if_neg (by omega)]
      | false => simp only [ixn, hm]; rfl
theorem ix_at {i i' : Nat} (h : i' < i) (hm : mk (od i') = true) : ixn mk od i (kp mk od i') = i' ∧ kp mk od i' < kp mk od i := by
  have h1 := kp_s mk od hm
  have h2 := kp_mono mk od (show i' + 1 ≤ i by omega)
  refine ⟨?_, by omega⟩
  rw [ix_stab mk od (show i' + 1 ≤ i by omega) (by omega)]
  simp only [ixn, hm, if_true, upP]
theorem ix_lt {i t t' : Nat} (h : t < t') (ht : t' < kp mk od i) : ixn mk od i t < ixn mk od i t' := by
  have h1 := (ix_all mk od i).1 t (by omega)
  have h2 := (ix_all mk od i).1 t' ht
  apply Classical.byContradiction
  intro hn
  have := kp_mono mk od (show ixn mk od i t' ≤ ixn mk od i t by omega)
  omega
end KP
section CL
variable (mk : Nat → Bool) (od : Nat → Nat) (q : Nat) (sz ad : Nat → Nat)
/-- the t-th kept one -/
def ko (t : Nat) : Nat := od (ixn mk od q t)
/-- its new address -/
def ca (t : Nat) : Nat := sm (fun t => sz (ko mk od q t) + 1) t
def mv (v : Int32) : Nat → Int32
  | 0 => v
  | t + 1 => if ad (ko mk od q t) = ca mk od q sz t then mv v t else mv v t + nI (sz (ko mk od q t) + 1)
theorem ko_at {i : Nat} (hi : i < q) (hm : mk (od i) = true) : ko mk od q (kp mk od i) = od i := by
  unfold ko
  rw [(ix_at mk od hi hm).1]
theorem ca_le {i : Nat} (hi : i ≤ q) : ca mk od q sz (kp mk od i) ≤ sm (fun j => sz (od j) + 1) i := by
  induction i with
  | zero => exact Nat.le_refl _
  | succ i ih =>
    have := ih (by omega)
    cases hm : mk (od i) with
    | true =>
      rw [kp_s mk od hm]
      show ca mk od q sz (kp mk od i) + (sz (ko mk od q (kp mk od i)) + 1) ≤ sm _ i + (sz (od i) + 1)
      rw [ko_at mk od q (by omega) hm]
      omega
    | false =>
      rw [kp_n mk od hm]
      show _ ≤ sm _ i + (sz (od i) + 1)
      omega
end CL
theorem cnt_inj {od : Nat → Nat} {n : Nat} : ∀ {q : Nat} {P Q : Nat → Bool}, (∀ i, i < q → od i < n) → (∀ i j, i < q → j < q → od i = od j → i = j) → (∀ k, k < n → (P k = true ↔ ∃ i, i < q ∧ od i = k ∧ Q i = true)) → cnt P n = cnt Q q := by
  intro q
  induction q with
  | zero =>
    intro P Q h1 h2 h3
    rw [cnt_ext (Q := fun _ => false) (fun k hk => by
      cases hP : P k with
      | false => rfl
      | true => obtain ⟨i, hi, -⟩ := (h3 k hk).mp hP; omega)]
    have h2 : ∀ k, cnt (fun _ => false) k = 0 := by
      intro k
      induction k with
      | zero => rfl
      | succ k ih => simp [cnt, ih]
    exact h2 n
  | succ q ih =>
    intro P Q h1 h2 h3
    cases hQ : Q q with
    | false =>
      have := ih (P := P) (Q := Q) (fun i hi => h1 i (by omega)) (fun i j hi hj => h2 i j (by omega) (by omega)) (fun k hk => by
        rw [h3 k hk]
        constructor
        · rintro ⟨i, a, b, c⟩
          refine ⟨i, ?_, b, c⟩
          have : i ≠ q := fun w => by subst w; rw [hQ] at c; exact absurd c (by decide)
          omega
        · rintro ⟨i, a, b, c⟩
          exact ⟨i, by omega, b, c⟩)
      rw [this]
      show _ = cnt Q q + _
      rw [hQ]
      rfl
    | true =>
      have := ih (P := fun k => if k = od q then false else P k) (Q := Q) (fun i hi => h1 i (by omega)) (fun i j hi hj => h2 i j (by omega) (by omega)) (fun k hk => by
        by_cases c : k = od q
        · rw [if_pos c]
          refine ⟨fun w => absurd w (by decide), ?_⟩
          rintro ⟨i, a, b, -⟩
          have := h2 i q (by omega) (by omega) (by omega)
          omega
        · rw [if_neg c, h3 k hk]
          constructor
          · rintro ⟨i, a, b, d⟩
            refine ⟨i, ?_, b, d⟩
            have : i ≠ q := fun w => by subst w; exact c b.symm
            omega
          · rintro ⟨i, a, b, d⟩
            exact ⟨i, by omega, b, d⟩)
      have h4 := cnt_set (P := fun k => if k = od q then false else P k) (Q := P) (h1 q (by omega)) (by simp) ((h3 _ (h1 q (by omega))).mpr ⟨q, by omega, rfl, hQ⟩) (fun i hi => by rw [if_neg hi])
      rw [h4, this]
      show _ = cnt Q q + _
      rw [hQ]
      rfl
theorem cnt_split {P Q : Nat → Bool} : ∀ {n : Nat}, cnt P n = cnt (fun k => P k && Q k) n + cnt (fun k => P k && !Q k) n := by
  intro n
  induction n with
  | zero => rfl
  | succ n ih =>
    simp only [cnt]
    rw [ih]
    have h1 : ∀ a b : Bool, (if a = true then 1 else 0 : Nat) = (if (a && b) = true then 1 else 0) + (if (a && !b) = true then 1 else 0) := by decide
    have := h1 (P n) (Q n)
    omega
/-- a node's order behind a sweep -/
theorem lay_swp {A A' : tA} {n q : Nat} {od : Nat → Nat} {mk : Nat → Bool} (h : lay1 A n od q) (h1 : ∀ k, k < 24 → A' 1 (24 * n + k) = A 1 (24 * n + k)) (h4 : ∀ k, k < 24 → A' 4 (24 * n + k) = if mk k then A 4 (24 * n + k) else 0) (h2 : ∀ t, t < kp mk od q → A' 2 (24 * n + ko mk od q t) = ca mk od q (fun k => A 1 (24 * n + k)) t) (h10 : A' 10 n = ca mk od q (fun k => A 1 (24 * n + k)) (kp mk od q)) : lay1 A' n (ko mk od q) (kp mk od q) := by
  obtain ⟨q1, q2, q3, q4, q5, q6, q7⟩ := h
  have hlt : ∀ t, t < kp mk od q → ixn mk od q t < q := fun t ht => ((ix_all mk od q).1 t ht).1
  have hmk : ∀ t, t < kp mk od q → mk (ko mk od q t) = true := fun t ht => ((ix_all mk od q).1 t ht).2.1
  have hko : ∀ t, t < kp mk od q → ko mk od q t < 24 := fun t ht => (q2 _ (hlt t ht)).1
  have hsum : ∀ t, t ≤ kp mk od q → sm (fun j => A' 1 (24 * n + ko mk od q j) + 1) t = ca mk od q (fun k => A 1 (24 * n + k)) t := fun t ht => sm_ext (fun i hi => by rw [h1 _ (hko i (by omega))])
  refine ⟨by have := kp_le mk od q; omega, fun t ht => ⟨hko t ht, ?_, ?_⟩, fun t t' ht ht' he => ?_, fun k hk hth => ?_, ?_, ?_, ?_⟩
  · rw [h4 _ (hko t ht), hmk t ht, if_pos rfl]
    exact (q2 _ (hlt t ht)).2.1
  · rw [h2 t ht, hsum t (by omega)]
  · have := q3 _ _ (hlt t ht) (hlt t' ht') he
    have a := ((ix_all mk od q).1 t ht).2.2
    have b := ((ix_all mk od q).1 t' ht').2.2
    rw [this] at a
    omega
  · rw [h4 k hk] at hth
    cases hm : mk k with
    | false => rw [hm] at hth; simp at hth
    | true =>
      rw [hm, if_pos rfl] at hth
      obtain ⟨i, hi, hik⟩ := q4 k hk hth
      have hm' : mk (od i) = true := by rw [hik]; exact hm
      exact ⟨kp mk od i, (ix_at mk od hi hm').2, by rw [ko_at mk od q hi hm', hik]⟩
  · rw [h10, hsum _ (Nat.le_refl _)]
  · rw [h10]
    have := ca_le mk od q (fun k => A 1 (24 * n + k)) (Nat.le_refl q)
    omega
  · symm
    refine cnt_inj (fun i hi => (q2 i hi).1) (fun i j hi hj => q3 i j hi hj) (fun k hk => ?_)
    simp only [beq_iff_eq]
    rw [h4 k hk]
    constructor
    · intro hth
      cases hm : mk k with
      | false => rw [hm] at hth; simp at hth
      | true =>
        rw [hm, if_pos rfl] at hth
        obtain ⟨i, hi, hik⟩ := q4 k hk hth
        exact ⟨i, hi, hik, by rw [hik]; exact hm⟩
    · rintro ⟨i, hi, hik, hm⟩
      rw [hik] at hm
      rw [hm, if_pos rfl, ← hik]
      exact (q2 i hi).2.1
