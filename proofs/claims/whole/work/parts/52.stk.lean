/-! the reference's rows of marks, and its stack -/
def bl (A : tA) (row : Nat) : Prop := ∀ x, x < 120 → A row x ≤ 1
def inS (row : Nat) (im : Nat → Prop) (A : tA) (x : Nat) : Prop := (im x → A 19 x = 1) ∧ (¬ im x → A row x = 1)
def cr (A : tA) (row : Nat) : Nat := cnt (fun x => A row x == 1) 120
def Psh (row : Nat) (im Y : Nat → Prop) (A A' : tA) : Prop :=
  scr A A' ∧ (∀ x, x < 120 → inS row im A x → inS row im A' x) ∧ (∀ x, x < 120 → inS row im A' x → inS row im A x ∨ Y x) ∧ (A 0 3 ≤ A' 0 3 ∧ ∀ j, j < A 0 3 → A' 20 j = A 20 j) ∧
  (∀ x, x < 120 → A' row x = 1 → A row x = 1 ∨ ∃ j, A 0 3 ≤ j ∧ j < A' 0 3 ∧ A' 20 j = x) ∧
  (∀ j, A 0 3 ≤ j → j < A' 0 3 → A' 20 j < 120 ∧ ¬ im (A' 20 j) ∧ A' row (A' 20 j) = 1) ∧
  cr A' row + A 0 3 = cr A row + A' 0 3 ∧ (bl A row → bl A' row) ∧ (∀ j, j ≠ row → j ≠ 19 → j ≠ 20 → j ≠ 0 → A' j = A j) ∧ (bl A 19 → bl A' 19)
theorem Psh_refl {row : Nat} {im Y : Nat → Prop} (A : tA) : Psh row im Y A A := ⟨scr_refl A, fun _ _ h => h, fun _ _ h => Or.inl h, ⟨Nat.le_refl _, fun _ _ => rfl⟩, fun _ _ h => Or.inl h, fun j h1 h2 => absurd h2 (by omega), rfl, fun h => h, fun _ _ _ _ _ => rfl, fun h => h⟩
theorem Psh_trans {row : Nat} {im Y Y' Y2 : Nat → Prop} {A B C : tA} (h : Psh row im Y A B) (h' : Psh row im Y' B C) (hY : ∀ x, Y x → Y2 x) (hY' : ∀ x, Y' x → Y2 x) : Psh row im Y2 A C := by
  obtain ⟨a1, a2, a3, a4, a5, a6, a7, a8, a9, a10⟩ := h
  obtain ⟨b1, b2, b3, b4, b5, b6, b7, b8, b9, b10⟩ := h'
  refine ⟨scr_trans a1 b1, fun x hx h => b2 x hx (a2 x hx h), fun x hx h => ?_, ⟨by omega, fun j hj => (b4.2 j (by omega)).trans (a4.2 j hj)⟩, fun x hx h => ?_, fun j h1 h2 => ?_, by omega, fun h => b8 (a8 h), fun j h1 h2 h3 h4 => (b9 j h1 h2 h3 h4).trans (a9 j h1 h2 h3 h4), fun h => b10 (a10 h)⟩
  · rcases b3 x hx h with q | q
    · rcases a3 x hx q with q | q
      · exact Or.inl q
      · exact Or.inr (hY x q)
    · exact Or.inr (hY' x q)
  · rcases b5 x hx h with q | ⟨j, q1, q2, q3⟩
    · rcases a5 x hx q with q | ⟨j, q1, q2, q3⟩
      · exact Or.inl q
      · exact Or.inr ⟨j, q1, by omega, by rw [b4.2 j q2]; exact q3⟩
    · exact Or.inr ⟨j, by omega, q2, q3⟩
  · by_cases c : j < B 0 3
    · rw [b4.2 j c]
      have q := a6 j h1 c
      refine ⟨q.1, q.2.1, ?_⟩
      exact (b2 _ q.1 ⟨fun w => absurd w q.2.1, fun _ => q.2.2⟩).2 q.2.1
    · exact b6 j (by omega) h2
theorem Psh_mono {row : Nat} {im Y Y' : Nat → Prop} {A B : tA} (h : Psh row im Y A B) (hY : ∀ x, Y x → Y' x) : Psh row im Y' A B := Psh_trans (Psh_refl (Y := Y) A) h hY hY
theorem cr_lt {A : tA} {row x : Nat} (hx : x < 120) (h : A row x ≠ 1) : cr A row < 120 := by
  have : ∀ n, x < n → cnt (fun x => A row x == 1) n < n := by
    intro n
    induction n with
    | zero => intro q; omega
    | succ n ih =>
      intro q
      simp only [cnt]
      by_cases c : x = n
      · subst c
        have := cnt_le (fun x => A row x == 1) x
        rw [if_neg (by simp [h])]
        omega
      · have := ih (by omega)
        split <;> omega
  exact this 120 hx
theorem cr_new {A : tA} {row x : Nat} (hx : x < 120) (h : A row x ≠ 1) : cr (upA A row x 1) row = cr A row + 1 := by
  refine cnt_set hx (by simp [h]) (by simp [upA_s]) (fun i hi => ?_)
  rw [upA_n _ _ (Or.inr hi)]
def isB (row : Nat) : Prop := row = 18 ∨ row = 21 ∨ row = 24
theorem Psh_push {row : Nat} {im : Nat → Prop} {A : tA} {x : Nat} (hr : isB row) (hi : ¬ im x) (h0 : A row x = 0) (hx : x < 120) : Psh row im (fun y => y = x) A (upA (upA (upA A row x 1) 20 (A 0 3) x) 0 3 (A 0 3 + 1)) ∧ inS row im (upA (upA (upA A row x 1) 20 (A 0 3) x) 0 3 (A 0 3 + 1)) x := by
  have hr' : 18 ≤ row ∧ row ≠ 20 ∧ row ≠ 19 := by rcases hr with rfl | rfl | rfl <;> omega
  generalize hB : upA (upA (upA A row x 1) 20 (A 0 3) x) 0 3 (A 0 3 + 1) = B
  have e3 : B 0 3 = A 0 3 + 1 := by rw [← hB, upA_s]
  have e20 : ∀ j, B 20 j = if j = A 0 3 then x else A 20 j := by
    intro j
    rw [← hB, upA_n _ _ (by omega), upA_if, upA_n _ _ (by omega)]
  have er : ∀ y, B row y = if y = x then 1 else A row y := by
    intro y
    rw [← hB, upA_n _ _ (by omega), upA_n _ _ (by omega), upA_if]
  have e19 : ∀ y, B 19 y = A 19 y := by
    intro y
    rw [← hB, upA_n _ _ (by omega), upA_n _ _ (by omega), upA_n _ _ (by omega)]
  have hin : inS row im B x := ⟨fun w => absurd w hi, fun _ => by rw [er, if_pos rfl]⟩
  refine ⟨⟨?_, fun y hy h => ⟨fun w => by rw [e19]; exact h.1 w, fun w => ?_⟩, fun y hy h => ?_, ⟨by omega, fun j hj => ?_⟩, fun y hy h => ?_, fun j h1 h2 => ?_, ?_, fun h y hy => ?_, fun j h1 h2 h3 h4 => ?_, fun h y hy => by rw [e19]; exact h y hy⟩, hin⟩
  · rw [← hB]; exact scr_up (scr_up (scr_up (scr_refl A) (by omega)) (by omega)) (by omega)
  · rw [er]; split
    · rfl
    · exact h.2 w
  · by_cases c : y = x
    · exact Or.inr c
    · refine Or.inl ⟨fun w => by rw [← e19]; exact h.1 w, fun w => ?_⟩
      have := h.2 w
      rw [er, if_neg c] at this
      exact this
  · rw [e20, if_neg (by omega)]
  · rw [er] at h
    by_cases c : y = x
    · exact Or.inr ⟨A 0 3, by omega, by omega, by rw [e20, if_pos rfl, c]⟩
    · rw [if_neg c] at h; exact Or.inl h
  · have : j = A 0 3 := by omega
    subst this
    rw [e20, if_pos rfl, er, if_pos rfl]
    exact ⟨hx, hi, rfl⟩
  · have h1 : cr B row = cr (upA A row x 1) row := by
      unfold cr
      exact cnt_ext (fun y _ => by rw [er, upA_if])
    rw [h1, cr_new hx (by omega), e3]
    omega
  · rw [er]; split
    · omega
    · exact h y hy
  · rw [← hB]
    funext i
    rw [upA_n _ _ (by omega), upA_n _ _ (by omega), upA_n _ _ (by omega)]
theorem Psh_imp {row : Nat} {im : Nat → Prop} {A : tA} {x : Nat} (hr : isB row) (hi : im x) : Psh row im (fun y => y = x) A (upA A 19 x 1) ∧ inS row im (upA A 19 x 1) x := by
  have hr' : 18 ≤ row ∧ row ≠ 20 ∧ row ≠ 19 := by rcases hr with rfl | rfl | rfl <;> omega
  have er : ∀ j y, j ≠ 19 → upA A 19 x 1 j y = A j y := fun j y h => upA_n _ _ (Or.inl h)
  have e19 : ∀ y, upA A 19 x 1 19 y = if y = x then 1 else A 19 y := fun y => upA_if
  refine ⟨⟨scr_up (scr_refl A) (by omega), fun y hy h => ⟨fun w => ?_, fun w => by rw [er _ _ hr'.2.2]; exact h.2 w⟩, fun y hy h => ?_, ⟨by rw [er _ _ (by omega)]; omega, fun j _ => er _ _ (by omega)⟩, fun y hy h => ?_, fun j h1 h2 => ?_, ?_, fun h y hy => by rw [er _ _ hr'.2.2]; exact h y hy, fun j h1 h2 h3 h4 => funext (fun i => er _ _ h2), fun h y hy => by rw [e19]; split <;> first | omega | exact h y hy⟩, ⟨fun _ => by rw [e19, if_pos rfl], fun w => absurd hi w⟩⟩
  · rw [e19]; split
    · rfl
    · exact h.1 w
  · by_cases c : y = x
    · exact Or.inr c
    · refine Or.inl ⟨fun w => ?_, fun w => by rw [← er row y hr'.2.2]; exact h.2 w⟩
      have := h.1 w
      rw [e19, if_neg c] at this
      exact this
  · rw [er _ _ hr'.2.2] at h; exact Or.inl h
  · rw [er _ _ (by omega)] at h2; omega
  · have h1 : cr (upA A 19 x 1) row = cr A row := by
      unfold cr
      exact cnt_ext (fun y _ => by rw [er _ _ hr'.2.2])
    rw [h1, er _ _ (by omega)]
/-- the stack, gone through till it is empty -/
theorem stk {T : Type} {row : Nat} {im : Nat → Prop} {E : Nat → Nat → Prop} {G : Nat → Prop} {out : Nat → tA → T} {K : tA → T} (A0 : tA) (hr : isB row) (hG : ∀ x, G x → x < 120) (hE : ∀ x y, G x → ¬ im x → E x y → G y)
    (hend : ∀ n A, scr A0 A → A 0 3 = 0 → out (n + 1) A = K A)
    (hpop : ∀ n A, scr A0 A → bl A row → 0 < A 0 3 → A 0 3 ≤ cr A row → G (A 20 (A 0 3 - 1)) → ¬ im (A 20 (A 0 3 - 1)) → ∃ A', out (n + 1) A = out n A' ∧ Psh row im (E (A 20 (A 0 3 - 1))) (upA A 0 3 (A 0 3 - 1)) A' ∧ ∀ y, E (A 20 (A 0 3 - 1)) y → inS row im A' y) :
    ∀ n c A, scr A0 A → bl A row → A 0 3 + c = cr A row → (∀ x, x < 120 → inS row im A x → G x) → (∀ j, j < A 0 3 → A 20 j < 120 ∧ ¬ im (A 20 j) ∧ A row (A 20 j) = 1) → (∀ x, x < 120 → ¬ im x → A row x = 1 → (∃ j, j < A 0 3 ∧ A 20 j = x) ∨ ∀ y, E x y → inS row im A y) → 120 < n + c →
    ∃ A', out n A = K A' ∧ scr A0 A' ∧ bl A' row ∧ (∀ x, x < 120 → inS row im A x → inS row im A' x) ∧ (∀ x, x < 120 → ¬ im x → A' row x = 1 → ∀ y, E x y → inS row im A' y) ∧ (∀ P : Nat → Prop, (∀ x, x < 120 → inS row im A x → P x) → (∀ x y, ¬ im x → P x → E x y → P y) → ∀ x, x < 120 → inS row im A' x → P x) ∧ (∀ j, j ≠ row → j ≠ 19 → j ≠ 20 → j ≠ 0 → A' j = A j) ∧ (∀ x, x < 120 → inS row im A' x → G x) ∧ (bl A 19 → bl A' 19) := by
  have hr' : 18 ≤ row ∧ row ≠ 20 ∧ row ≠ 19 := by rcases hr with rfl | rfl | rfl <;> omega
  intro n
  induction n with
  | zero =>
    intro c A _ _ h _ _ _ h2
    have := cnt_le (fun x => A row x == 1) 120
    unfold cr at h
    omega
  | succ n ih =>
    intro c A h1 h2 h3 h4 h5 h6 h7
    rcases Nat.eq_zero_or_pos (A 0 3) with h0 | h0
    · refine ⟨A, hend n A h1 h0, h1, h2, fun _ _ h => h, fun x hx hi h y hy => ?_, fun P p1 _ x hx h => p1 x hx h, fun _ _ _ _ _ => rfl, h4, fun h => h⟩
      rcases h6 x hx hi h with ⟨j, hj, -⟩ | q
      · omega
      · exact q y hy
    · have ht := h5 (A 0 3 - 1) (by omega)
      have hGt : G (A 20 (A 0 3 - 1)) := h4 _ ht.1 ⟨fun w => absurd w ht.2.1, fun _ => ht.2.2⟩
      obtain ⟨A', q1, ⟨a1, a2, a3, a4, a5, a6, a7, a8, a9, a10⟩, q3⟩ := hpop n A h1 h2 h0 (by omega) hGt ht.2.1
      have e3 : upA A 0 3 (A 0 3 - 1) 0 3 = A 0 3 - 1 := upA_s _ _ _ _
      have ej : ∀ j i, j ≠ 0 → upA A 0 3 (A 0 3 - 1) j i = A j i := fun j i h => upA_n _ _ (Or.inl h)
      have eS : ∀ x, inS row im (upA A 0 3 (A 0 3 - 1)) x ↔ inS row im A x := fun x => by
        unfold inS
        rw [ej _ _ (by omega), ej _ _ (by omega)]
      have ecr : cr (upA A 0 3 (A 0 3 - 1)) row = cr A row := by
        unfold cr
        exact cnt_ext (fun y _ => by rw [ej _ _ (by omega)])
      rw [e3] at a4 a5 a6 a7
      rw [ecr] at a7
      have hmono : ∀ x, x < 120 → inS row im A x → inS row im A' x := fun x hx h => a2 x hx ((eS x).mpr h)
      have hnew : ∀ x, x < 120 → inS row im A' x → inS row im A x ∨ E (A 20 (A 0 3 - 1)) x := fun x hx h => by
        rcases a3 x hx h with q | q
        · exact Or.inl ((eS x).mp q)
        · exact Or.inr q
      have hG' : ∀ x, x < 120 → inS row im A' x → G x := fun x hx h => by
        rcases hnew x hx h with q | q
        · exact h4 x hx q
        · exact hE _ _ hGt ht.2.1 q
      obtain ⟨A2, r1, r2, r3, r4, r5, r6, r7, r8, r9⟩ := ih (c + 1) A' (scr_trans h1 (scr_trans (scr_up (scr_refl A) (by omega)) a1)) (a8 (fun x hx => by rw [ej _ _ (by omega)]; exact h2 x hx)) (by omega) hG' (fun j hj => by
        by_cases d : j < A 0 3 - 1
        · rw [a4.2 j d, ej _ _ (by omega)]
          have := h5 j (by omega)
          exact ⟨this.1, this.2.1, (hmono _ this.1 ⟨fun w => absurd w this.2.1, fun _ => this.2.2⟩).2 this.2.1⟩
        · exact a6 j (by omega) hj) (fun x hx hi h => by
        rcases a5 x hx h with q | ⟨j, p1, p2, p3⟩
        · rw [ej _ _ (by omega)] at q
          rcases h6 x hx hi q with ⟨j, p1, p2⟩ | p
          · by_cases d : j = A 0 3 - 1
            · right
              intro y hy
              rw [← p2, d] at hy
              exact q3 y hy
            · left
              exact ⟨j, by omega, by rw [a4.2 j (by omega), ej _ _ (by omega)]; exact p2⟩
          · right
            intro y hy
            have hgx := h4 x hx ⟨fun w => absurd w hi, fun _ => q⟩
            exact hmono y (hG _ (hE _ _ hgx hi hy)) (p y hy)
        · left
          exact ⟨j, p2, p3⟩) (by omega)
      refine ⟨A2, q1.trans r1, r2, r3, fun x hx h => r4 x hx (hmono x hx h), r5, fun P p1 p2 => r6 P (fun x hx h => ?_) p2, fun j d1 d2 d3 d4 => ?_, r8, fun h => r9 (a10 (fun x hx => by rw [ej _ _ (by omega)]; exact h x hx))⟩
      · rcases hnew x hx h with q | q
        · exact p1 x hx q
        · exact p2 _ x ht.2.1 (p1 _ ht.1 ⟨fun w => absurd w ht.2.1, fun _ => ht.2.2⟩) q
      · rw [r7 j d1 d2 d3 d4, a9 j d1 d2 d3 d4]
        funext i
        exact ej _ _ d4
section RS
variable {M : Nat} {A : tA} {V : tV}
theorem eR_reaches {x : Nat} (hx : x < 120) (hb : bl A 24) (hw : A 0 3 ≤ cr A 24) : ∃ A', (∀ f2, mX6_reaches (mkR M (toR A V) f2) M (nI x) = some (mkR M (toR A' V) f2)) ∧ Psh 24 (fun _ => False) (fun y => y = x) A A' ∧ inS 24 (fun _ => False) A' x := by
  by_cases h0 : A 24 x = 0
  · have hlt := cr_lt (row := 24) hx (show A 24 x ≠ 1 by omega)
    obtain ⟨q1, q2⟩ := Psh_push (row := 24) (im := fun _ => False) (A := A) (Or.inr (Or.inr rfl)) (fun h => h) h0 hx
    refine ⟨_, fun f2 => ?_, q1, q2⟩
    unfold mX6_reaches
    have e3 : upA A 24 x 1 0 3 = A 0 3 := rfl
    have e4 : ∀ y z, upA (upA A 24 x 1) 20 y z 0 3 = A 0 3 := fun _ _ => rfl
    simp (disch := omega) only [rR27, rl24, gl_nI, tR24, h0, Option.bind_some, rs24, nar1, gs_nI, i1, uR24, rR23, rI22, tR0, e3, rs20, uR20, e4, rW22, nI_add, uR0]
    rw [if_pos (by decide)]
    rw [← i1, nar1, i1]
    simp (disch := omega) only [uR24, uR20, rR23, rI22, tR0, e3, rs20, gs_nI, Option.bind_some, e4, rW22, nI_add, uR0]
  · have h1 : A 24 x = 1 := by have := hb x hx; omega
    refine ⟨A, fun f2 => ?_, Psh_refl A, ⟨fun w => absurd w (fun h => h), fun _ => h1⟩⟩
    unfold mX6_reaches
    simp (disch := omega) only [rR27, rl24, gl_nI, tR24, h1, Option.bind_some]
    rw [if_neg (by decide)]
theorem eR_grays {x : Nat} (hx : x < 120) (hb : bl A 21) (hw : A 0 3 ≤ cr A 21) : ∃ A', (∀ f2, mX6_grays (mkR M (toR A V) f2) M (nI x) = some (mkR M (toR A' V) f2)) ∧ Psh 21 (fun _ => False) (fun y => y = x) A A' ∧ inS 21 (fun _ => False) A' x := by
  by_cases h0 : A 21 x = 0
  · have hlt := cr_lt (row := 21) hx (show A 21 x ≠ 1 by omega)
    obtain ⟨q1, q2⟩ := Psh_push (row := 21) (im := fun _ => False) (A := A) (Or.inr (Or.inl rfl)) (fun h => h) h0 hx
    refine ⟨_, fun f2 => ?_, q1, q2⟩
    unfold mX6_grays
    have e3 : upA A 21 x 1 0 3 = A 0 3 := rfl
    have e4 : ∀ y z, upA (upA A 21 x 1) 20 y z 0 3 = A 0 3 := fun _ _ => rfl
    simp (disch := omega) only [rR24, rl21, gl_nI, tR21, h0, Option.bind_some, rs21, nar1, gs_nI, i1, uR21, rR23, rI22, tR0, e3, rs20, uR20, e4, rW22, nI_add, uR0]
    rw [if_pos (by decide)]
    rw [← i1, nar1, i1]
    simp (disch := omega) only [uR21, uR20, rR23, rI22, tR0, e3, rs20, gs_nI, Option.bind_some, e4, rW22, nI_add, uR0]
  · have h1 : A 21 x = 1 := by have := hb x hx; omega
    refine ⟨A, fun f2 => ?_, Psh_refl A, ⟨fun w => absurd w (fun h => h), fun _ => h1⟩⟩
    unfold mX6_grays
    simp (disch := omega) only [rR24, rl21, gl_nI, tR21, h1, Option.bind_some]
    rw [if_neg (by decide)]
theorem eR_marks {x n : Nat} (hn : n < 5) (hx : x < 120) (hb : bl A 18) (hw : A 0 3 ≤ cr A 18) : ∃ A', (∀ f2, mX6_marks (mkR M (toR A V) f2) M (nI n) (nI 2) (nI x) = some (mkR M (toR A' V) f2)) ∧ Psh 18 (fun y => y / 24 ≠ n) (fun y => y = x) A A' ∧ inS 18 (fun y => y / 24 ≠ n) A' x := by
  by_cases hl : x / 24 = n
  · have hd : nI x / 24 = nI n := by rw [i24, nI_div (by omega) (by omega) (by omega), hl]
    by_cases h0 : A 18 x = 0
    · have hlt := cr_lt (row := 18) hx (show A 18 x ≠ 1 by omega)
      obtain ⟨q1, q2⟩ := Psh_push (row := 18) (im := fun y => y / 24 ≠ n) (A := A) (Or.inl rfl) (fun h => h hl) h0 hx
      refine ⟨_, fun f2 => ?_, q1, q2⟩
      unfold mX6_marks
      rw [if_pos (by decide), if_pos hd]
      have e3 : upA A 18 x 1 0 3 = A 0 3 := rfl
      have e4 : ∀ y z, upA (upA A 18 x 1) 20 y z 0 3 = A 0 3 := fun _ _ => rfl
      simp (disch := omega) only [rR20, rl18, gl_nI, tR18, h0, Option.bind_some, rs18, nar1, gs_nI, i1, uR18, rR23, rI22, tR0, e3, rs20, uR20, e4, rW22, nI_add, uR0]
      rw [if_pos (by decide)]
      rw [← i1, nar1, i1]
      simp (disch := omega) only [uR18, uR20, rR23, rI22, tR0, e3, rs20, gs_nI, Option.bind_some, e4, rW22, nI_add, uR0]
    · have h1 : A 18 x = 1 := by have := hb x hx; omega
      refine ⟨A, fun f2 => ?_, Psh_refl A, ⟨fun w => absurd hl w, fun _ => h1⟩⟩
      unfold mX6_marks
      rw [if_pos (by decide), if_pos hd]
      simp (disch := omega) only [rR20, rl18, gl_nI, tR18, h1, Option.bind_some]
      rw [if_neg (by decide)]
  · have hd : ¬ nI x / 24 = nI n := by
      rw [i24, nI_div (by omega) (by omega) (by omega)]
      exact fun q => hl ((nI_eq (by omega) (by omega)).mp q)
    obtain ⟨q1, q2⟩ := Psh_imp (row := 18) (im := fun y => y / 24 ≠ n) (A := A) (x := x) (Or.inl rfl) hl
    refine ⟨_, fun f2 => ?_, q1, q2⟩
    unfold mX6_marks
    rw [if_pos (by decide), if_neg hd]
    simp (disch := omega) only [rR21, rs19, nar1, gs_nI, Option.bind_some]
    rw [i1, uR19]
theorem eR_marksX {n k : Nat} {v : Int32} (hk : k < 3) (h : k ≠ 2) (f2 : jM) : mX6_marks (mkR M (toR A V) f2) M (nI n) (nI k) v = some (mkR M (toR A V) f2) := by
  unfold mX6_marks
  rw [if_neg (by rw [i2]; exact fun q => h ((nI_eq (by omega) (by omega)).mp q))]
end RS
