/-! the reference judges -/
def JT (P : Nat → Prop) (a : tA) : Prop := ∀ i, i < 600 → (a 22 i = 1 ∧ P i) ∨ (a 22 i = 0 ∧ ¬ P i)
theorem JT_congr {P Q : Nat → Prop} {a : tA} (h : JT P a) (hq : ∀ i, i < 600 → (P i ↔ Q i)) : JT Q a := fun i hi => by
  rw [← hq i hi]; exact h i hi
theorem JT_1 {P : Nat → Prop} {a : tA} {k : Nat} (h : JT P a) : JT (fun i => P i ∨ i = k) (upA a 22 k 1) := fun i hi => by
  rw [upA_if]
  by_cases c : i = k
  · rw [if_pos c]; exact Or.inl ⟨rfl, Or.inr c⟩
  · rw [if_neg c]
    rcases h i hi with ⟨w1, w2⟩ | ⟨w1, w2⟩
    · exact Or.inl ⟨w1, Or.inl w2⟩
    · exact Or.inr ⟨w1, fun w => w.elim w2 c⟩
theorem JT_0 {P : Nat → Prop} {a : tA} {k : Nat} (h : JT P a) : JT (fun i => P i ∧ i ≠ k) (upA a 22 k 0) := fun i hi => by
  rw [upA_if]
  by_cases c : i = k
  · rw [if_pos c]; exact Or.inr ⟨rfl, fun w => w.2 c⟩
  · rw [if_neg c]
    rcases h i hi with ⟨w1, w2⟩ | ⟨w1, w2⟩
    · exact Or.inl ⟨w1, w2, c⟩
    · exact Or.inr ⟨w1, fun w => w2 w.1⟩
section JU
variable {M N : Nat} {V : tV}
theorem eR_judges {fu cl : Nat} {A : tA} {Gr : Nat → Prop} (hfu : 2000 ≤ fu) (hWf : WF A V N cl) (h21 : bl A 21) (h23 : bl A 23) (gG : ∀ x, x < 120 → (A 21 x = 1 ↔ Gr x)) :
    ∃ A', (∀ f2, mX6_judges fu (mkR M (toR A V) f2) M = some (mkR M (toR A' V) f2)) ∧ (∀ j, j ≠ 22 → A' j = A j) ∧ ∀ m x, m < 5 → x < 120 → A' 22 (120 * m + x) ≤ 1 ∧ (A' 22 (120 * m + x) = 1 ↔ inr A V N Gr (fun y => A 23 y = 1) m x) := by
  obtain ⟨⟨h11, hN1, hN5⟩, wR, wF, wT, wW, wE, wM, wTo, wI⟩ := hWf
  -- cleared
  obtain ⟨A1, a1, b1⟩ := lupI (S := tA) (T := jM → Option jM) (fun n i a f2 => mX6_judges_L2 fu M n (nI i) (mkR M (toR a V) f2)) (fun a f2 => mX6_judges_L24 fu M fu (nI 0) (mkR M (toR a V) f2)) 600 (fun i a => (∀ j, j ≠ 22 → a j = A j) ∧ ∀ x, x < i → a 22 x = 0)
    (by
      intro n a _
      funext f2
      rw [mX6_judges_L2, i600, if_pos (nI_le (Nat.le_refl _) (by omega)), i0])
    (by
      intro n i a hi ⟨a1, a2⟩
      refine ⟨upA a 22 i 0, ⟨fun j hj => ?_, fun x hx => ?_⟩, ?_⟩
      · funext y; rw [upA_n _ _ (by omega), a1 j hj]
      · rw [upA_if]; split
        · rfl
        · exact a2 x (by omega)
      · funext f2
        show mX6_judges_L2 fu M (n + 1) (nI i) (mkR M (toR a V) f2) = _
        rw [mX6_judges_L2, i600, if_neg (nI_ge hi (by omega))]
        simp (disch := omega) only [rR25, rs22, nar0, gs_nI, Option.bind_some, nI_1]
        rw [i0, uR22])
    fu A (by omega) ⟨fun _ _ => rfl, fun x hx => absurd hx (by omega)⟩
  obtain ⟨f1, z1⟩ := a1
  have J1 : JT (fun _ => False) A1 := fun i hi => Or.inr ⟨z1 i hi, fun w => w⟩
  -- what rows a state has
  have rr : ∀ a : tA, (∀ j, j ≠ 22 → a j = A j) → a 0 1 = N ∧ a 1 = A 1 ∧ a 4 = A 4 ∧ a 5 = A 5 ∧ a 7 = A 7 ∧ a 21 = A 21 ∧ a 23 = A 23 := fun a h => ⟨by rw [h 0 (by omega)]; exact h11, h 1 (by omega), h 4 (by omega), h 5 (by omega), h 7 (by omega), h 21 (by omega), h 23 (by omega)⟩
  have th : ∀ o, o < 120 → (A 4 o = 1 ∧ gd A N o) ∨ (A 4 o = 0 ∧ ¬ gd A N o) := fun o ho => by
    rcases wT o ho with w | w
    · exact Or.inl ⟨w.1, w.2, w.1⟩
    · exact Or.inr ⟨w.1, fun q => by have := q.2; omega⟩
  have gdo : ∀ o, o < 120 → A 4 o = 1 → gd A N o := fun o ho h => by
    rcases th o ho with w | w
    · exact w.2
    · omega
  -- let go: set
  obtain ⟨A2, a2, b2⟩ := lupI (S := tA) (T := jM → Option jM) (fun n o a f2 => mX6_judges_L24 fu M n (nI o) (mkR M (toR a V) f2)) (fun a f2 => mX6_judges_L147 fu M fu (nI 0) (mkR M (toR a V) f2)) 120 (fun k a => (∀ j, j ≠ 22 → a j = A j) ∧ JT (fun i => ∃ o, o < k ∧ gd A N o ∧ (Gr o ∧ ¬ A 23 o = 1) ∧ o / 24 = i / 120 ∧ fH A V o (i % 120) ∧ i % 120 / 24 ≠ i / 120) a)
    (by
      intro n a _
      funext f2
      rw [mX6_judges_L24, i120, if_pos (nI_le (Nat.le_refl _) (by omega)), i0])
    (by
      intro n o a ho ⟨a1, a2⟩
      obtain ⟨e01, e1, e4, e5, e7, e21, e23⟩ := rr a a1
      have ev : ∀ f2, mX6_judges_L24 fu M (n + 1) (nI o) (mkR M (toR a V) f2) = if A 4 o = 1 ∧ A 21 o = 1 ∧ ¬ A 23 o = 1 then mX6_judges_L62 fu (mX6_judges_L24 fu M n) M (nI o) fu (nI 0) (mkR M (toR a V) f2) else mX6_judges_L24 fu M n (nI (o + 1)) (mkR M (toR a V) f2) := by
        intro f2
        rw [mX6_judges_L24, i120, if_neg (nI_ge ho (by omega))]
        simp (disch := omega) only [rR5, rl4, gl_nI, tR4, Option.bind_some, e4, rR24, rl21, tR21, e21, rR26, rl23, tR23, e23, nI_1]
        rcases th o ho with ⟨w1, w2⟩ | ⟨w1, w2⟩
        · rw [w1, if_neg (by decide)]
          have q1 := h21 o ho
          by_cases c : A 21 o = 1
          · rw [c, if_neg (by decide)]
            have q2 := h23 o ho
            by_cases d : A 23 o = 1
            · rw [d, if_neg (by decide), if_neg (fun w => w.2.2 rfl)]
            · have d0 : A 23 o = 0 := by omega
              rw [d0, if_pos (by decide), if_pos ⟨rfl, rfl, by decide⟩, i0]
          · have c0 : A 21 o = 0 := by omega
            rw [c0, if_pos (by decide), if_neg (fun w => absurd w.2.1 (by decide))]
        · rw [w1, if_pos (by decide), if_neg (fun w => absurd w.1 (by decide))]
      by_cases c' : A 4 o = 1 ∧ A 21 o = 1 ∧ ¬ A 23 o = 1
      · have c : gd A N o ∧ A 21 o = 1 ∧ ¬ A 23 o = 1 := ⟨gdo o ho c'.1, c'.2⟩
        obtain ⟨z1, z2, -⟩ := wF o c.1.1 c.1.2
        have hlg : Gr o ∧ ¬ A 23 o = 1 := ⟨(gG o ho).mp c.2.1, c.2.2⟩
        obtain ⟨a', t1, t2⟩ := lupI (S := tA) (T := jM → Option jM) (fun n2 f a f2 => mX6_judges_L62 fu (mX6_judges_L24 fu M n) M (nI o) n2 (nI f) (mkR M (toR a V) f2)) (fun a f2 => mX6_judges_L24 fu M n (nI (o + 1)) (mkR M (toR a V) f2)) (A 1 o) (fun k a' => (∀ j, j ≠ 22 → a' j = A j) ∧ JT (fun i => (∃ o', o' < o ∧ gd A N o' ∧ (Gr o' ∧ ¬ A 23 o' = 1) ∧ o' / 24 = i / 120 ∧ fH A V o' (i % 120) ∧ i % 120 / 24 ≠ i / 120) ∨ ∃ f, f < k ∧ A 5 (12 * o + f) = 2 ∧ V 6 (12 * o + f) = nI (i % 120) ∧ o / 24 = i / 120 ∧ i % 120 / 24 ≠ i / 120) a')
          (by
            intro n2 a' ⟨d1, _⟩
            obtain ⟨e01, e1, e4, e5, e7, e21, e23⟩ := rr a' d1
            funext f2
            rw [mX6_judges_L62]
            simp (disch := omega) only [rR2, rl1, gl_nI, tR1, Option.bind_some, e1, nI_1]
            rw [if_pos (nI_le (Nat.le_refl _) (by omega))])
          (by
            intro n2 f a' hf ⟨d1, d2⟩
            obtain ⟨e01, e1, e4, e5, e7, e21, e23⟩ := rr a' d1
            have hv := z2 f hf
            have ho24 : o < 24 * N := c.1.1
            by_cases c2 : A 5 (12 * o + f) = 2
            · rw [c2] at hv
              obtain ⟨y, hy, hvy, -⟩ := okv_obj hv
              by_cases c3 : y / 24 = o / 24
              · refine ⟨a', ⟨d1, JT_congr d2 (fun i hi => ?_)⟩, ?_⟩
                · constructor
                  · rintro (w | ⟨g, w1, w2⟩)
                    · exact Or.inl w
                    · exact Or.inr ⟨g, by omega, w2⟩
                  · rintro (w | ⟨g, w1, w2, w3, w4, w5⟩)
                    · exact Or.inl w
                    · by_cases e : g = f
                      · subst e
                        rw [hvy] at w3
                        have : y = i % 120 := (nI_eq (by omega) (by omega)).mp w3
                        omega
                      · exact Or.inr ⟨g, by omega, w2, w3, w4, w5⟩
                · funext f2
                  show mX6_judges_L62 fu (mX6_judges_L24 fu M n) M (nI o) (n2 + 1) (nI f) (mkR M (toR a' V) f2) = _
                  rw [mX6_judges_L62]
                  simp (disch := omega) only [rR2, rl1, gl_nI, tR1, Option.bind_some, e1, i12, nI_mul, nI_add, rR6, rl5, tR5, e5, c2, rR7, rl6, tR6, hvy, i24, nI_div, nI_1]
                  rw [if_neg (nI_ge hf (by omega)), if_pos (by decide), if_pos (by rw [c3])]
              · refine ⟨upA a' 22 (120 * (o / 24) + y) 1, ⟨fun j hj => ?_, JT_congr (JT_1 d2) (fun i hi => ?_)⟩, ?_⟩
                · funext i; rw [upA_n _ _ (by omega), d1 j hj]
                · constructor
                  · rintro ((w | ⟨g, w1, w2⟩) | w)
                    · exact Or.inl w
                    · exact Or.inr ⟨g, by omega, w2⟩
                    · refine Or.inr ⟨f, by omega, c2, ?_, by omega, by omega⟩
                      rw [hvy, show y = i % 120 by omega]
                  · rintro (w | ⟨g, w1, w2, w3, w4, w5⟩)
                    · exact Or.inl (Or.inl w)
                    · by_cases e : g = f
                      · subst e
                        rw [hvy] at w3
                        have : y = i % 120 := (nI_eq (by omega) (by omega)).mp w3
                        exact Or.inr (by omega)
                      · exact Or.inl (Or.inr ⟨g, by omega, w2, w3, w4, w5⟩)
                · funext f2
                  show mX6_judges_L62 fu (mX6_judges_L24 fu M n) M (nI o) (n2 + 1) (nI f) (mkR M (toR a' V) f2) = _
                  rw [mX6_judges_L62]
                  simp (disch := omega) only [rR2, rl1, gl_nI, tR1, Option.bind_some, e1, i12, nI_mul, nI_add, rR6, rl5, tR5, e5, c2, rR7, rl6, tR6, hvy, i24, nI_div, i120, rR25, rs22, gs_nI, nI_1]
                  rw [if_neg (nI_ge hf (by omega)), if_pos (by decide), if_neg (fun w => c3 ((nI_eq (by omega) (by omega)).mp w)), nar1, i1, uR22]
            · refine ⟨a', ⟨d1, JT_congr d2 (fun i hi => ?_)⟩, ?_⟩
              · constructor
                · rintro (w | ⟨g, w1, w2⟩)
                  · exact Or.inl w
                  · exact Or.inr ⟨g, by omega, w2⟩
                · rintro (w | ⟨g, w1, w2, w3⟩)
                  · exact Or.inl w
                  · by_cases e : g = f
                    · subst e; exact absurd w2 c2
                    · exact Or.inr ⟨g, by omega, w2, w3⟩
              · funext f2
                show mX6_judges_L62 fu (mX6_judges_L24 fu M n) M (nI o) (n2 + 1) (nI f) (mkR M (toR a' V) f2) = _
                rw [mX6_judges_L62]
                simp (disch := omega) only [rR2, rl1, gl_nI, tR1, Option.bind_some, e1, i12, nI_mul, nI_add, rR6, rl5, tR5, e5, nI_1]
                rw [if_neg (nI_ge hf (by omega)), if_neg (by rw [i2]; exact fun w => c2 ((nI_eq (by have := okv_lt hv; omega) (by omega)).mp w))])
          fu a (by omega) ⟨a1, JT_congr a2 (fun i _ => ⟨Or.inl, fun w => w.resolve_right (fun ⟨f, hf, _⟩ => absurd hf (by omega))⟩)⟩
        refine ⟨a', ⟨t1.1, JT_congr t1.2 (fun i hi => ?_)⟩, ?_⟩
        · constructor
          · rintro (⟨o', w1, w2⟩ | ⟨f, w1, w2, w3, w4, w5⟩)
            · exact ⟨o', by omega, w2⟩
            · exact ⟨o, by omega, c.1, hlg, w4, ⟨by omega, f, w1, w2, w3⟩, w5⟩
          · rintro ⟨o', w1, w2, w3, w4, w5, w6⟩
            by_cases e : o' = o
            · subst e
              obtain ⟨-, f, v1, v2, v3⟩ := w5
              exact Or.inr ⟨f, v1, v2, v3, w4, w6⟩
            · exact Or.inl ⟨o', by omega, w2, w3, w4, w5, w6⟩
        · funext f2
          show mX6_judges_L24 fu M (n + 1) (nI o) (mkR M (toR a V) f2) = _
          rw [ev, if_pos c']
          exact congrFun t2 f2
      · refine ⟨a, ⟨a1, JT_congr a2 (fun i hi => ?_)⟩, ?_⟩
        · constructor
          · rintro ⟨o', w1, w2⟩
            exact ⟨o', by omega, w2⟩
          · rintro ⟨o', w1, w2, w3, w4⟩
            by_cases e : o' = o
            · subst e; exact absurd ⟨w2.2, (gG o' ho).mpr w3.1, w3.2⟩ c'
            · exact ⟨o', by omega, w2, w3, w4⟩
        · funext f2
          show mX6_judges_L24 fu M (n + 1) (nI o) (mkR M (toR a V) f2) = _
          rw [ev, if_neg c'])
    fu A1 (by omega) ⟨f1, JT_congr J1 (fun i _ => ⟨False.elim, fun ⟨o, ho, _⟩ => absurd ho (by omega)⟩)⟩
  obtain ⟨f2', J2⟩ := a2
  generalize hP1 : (fun i => ∃ o, o < 120 ∧ gd A N o ∧ (Gr o ∧ ¬ A 23 o = 1) ∧ o / 24 = i / 120 ∧ fH A V o (i % 120) ∧ i % 120 / 24 ≠ i / 120) = P1 at J2
  -- the others: unset
  obtain ⟨A3, a3, b3⟩ := lupI (S := tA) (T := jM → Option jM) (fun n o a f2 => mX6_judges_L147 fu M n (nI o) (mkR M (toR a V) f2)) (fun a f2 => mX6_judges_L249 fu M fu (nI 0) (mkR M (toR a V) f2)) 120 (fun k a => (∀ j, j ≠ 22 → a j = A j) ∧ JT (fun i => P1 i ∧ ¬ ∃ o, o < k ∧ gd A N o ∧ ¬ (Gr o ∧ ¬ A 23 o = 1) ∧ o / 24 = i / 120 ∧ fH A V o (i % 120)) a)
    (by
      intro n a _
      funext f2
      rw [mX6_judges_L147, i120, if_pos (nI_le (Nat.le_refl _) (by omega)), i0])
    (by
      intro n o a ho ⟨a1, a2⟩
      obtain ⟨e01, e1, e4, e5, e7, e21, e23⟩ := rr a a1
      have ev : ∀ f2, mX6_judges_L147 fu M (n + 1) (nI o) (mkR M (toR a V) f2) = if A 4 o = 1 ∧ ¬ (A 21 o = 1 ∧ ¬ A 23 o = 1) then mX6_judges_L185 fu (mX6_judges_L147 fu M n) M (nI o) fu (nI 0) (mkR M (toR a V) f2) else mX6_judges_L147 fu M n (nI (o + 1)) (mkR M (toR a V) f2) := by
        intro f2
        rw [mX6_judges_L147, i120, if_neg (nI_ge ho (by omega))]
        unfold mX6_judges_B183
        simp (disch := omega) only [rR5, rl4, gl_nI, tR4, Option.bind_some, e4, rR24, rl21, tR21, e21, rR26, rl23, tR23, e23, nI_1]
        rcases th o ho with ⟨w1, w2⟩ | ⟨w1, w2⟩
        · rw [w1, if_neg (by decide)]
          have q1 := h21 o ho
          by_cases c : A 21 o = 1
          · rw [c, if_neg (by decide)]
            have q2 := h23 o ho
            by_cases d : A 23 o = 1
            · rw [d, if_neg (by decide), if_pos ⟨rfl, fun w => w.2 rfl⟩, i0]
            · have d0 : A 23 o = 0 := by omega
              rw [d0, if_pos (by decide), if_neg (fun w => w.2 ⟨rfl, by decide⟩)]
          · have c0 : A 21 o = 0 := by omega
            rw [c0, if_pos (by decide), if_pos ⟨rfl, fun w => absurd w.1 (by decide)⟩, i0]
        · rw [w1, if_pos (by decide), if_neg (fun w => absurd w.1 (by decide))]
      by_cases c' : A 4 o = 1 ∧ ¬ (A 21 o = 1 ∧ ¬ A 23 o = 1)
      · have c : gd A N o ∧ ¬ (A 21 o = 1 ∧ ¬ A 23 o = 1) := ⟨gdo o ho c'.1, c'.2⟩
        obtain ⟨z1, z2, -⟩ := wF o c.1.1 c.1.2
        have hlg : ¬ (Gr o ∧ ¬ A 23 o = 1) := fun w => c.2 ⟨(gG o ho).mpr w.1, w.2⟩
        obtain ⟨a', t1, t2⟩ := lupI (S := tA) (T := jM → Option jM) (fun n2 f a f2 => mX6_judges_L185 fu (mX6_judges_L147 fu M n) M (nI o) n2 (nI f) (mkR M (toR a V) f2)) (fun a f2 => mX6_judges_L147 fu M n (nI (o + 1)) (mkR M (toR a V) f2)) (A 1 o) (fun k a' => (∀ j, j ≠ 22 → a' j = A j) ∧ JT (fun i => (P1 i ∧ ¬ ∃ o', o' < o ∧ gd A N o' ∧ ¬ (Gr o' ∧ ¬ A 23 o' = 1) ∧ o' / 24 = i / 120 ∧ fH A V o' (i % 120)) ∧ ¬ ∃ f, f < k ∧ A 5 (12 * o + f) = 2 ∧ V 6 (12 * o + f) = nI (i % 120) ∧ o / 24 = i / 120) a')
          (by
            intro n2 a' ⟨d1, _⟩
            obtain ⟨e01, e1, e4, e5, e7, e21, e23⟩ := rr a' d1
            funext f2
            rw [mX6_judges_L185]
            simp (disch := omega) only [rR2, rl1, gl_nI, tR1, Option.bind_some, e1, nI_1]
            rw [if_pos (nI_le (Nat.le_refl _) (by omega))])
          (by
            intro n2 f a' hf ⟨d1, d2⟩
            obtain ⟨e01, e1, e4, e5, e7, e21, e23⟩ := rr a' d1
            have hv := z2 f hf
            have ho24 : o < 24 * N := c.1.1
            by_cases c2 : A 5 (12 * o + f) = 2
            · rw [c2] at hv
              obtain ⟨y, hy, hvy, -⟩ := okv_obj hv
              refine ⟨upA a' 22 (120 * (o / 24) + y) 0, ⟨fun j hj => ?_, JT_congr (JT_0 d2) (fun i hi => ?_)⟩, ?_⟩
              · funext i; rw [upA_n _ _ (by omega), d1 j hj]
              · constructor
                · rintro ⟨⟨w1, w2⟩, w3⟩
                  refine ⟨w1, fun ⟨g, v1, v2, v3, v4⟩ => ?_⟩
                  by_cases e : g = f
                  · subst e
                    rw [hvy] at v3
                    have : y = i % 120 := (nI_eq (by omega) (by omega)).mp v3
                    exact w3 (by omega)
                  · exact w2 ⟨g, by omega, v2, v3, v4⟩
                · rintro ⟨w1, w2⟩
                  refine ⟨⟨w1, fun ⟨g, v1, v2⟩ => w2 ⟨g, by omega, v2⟩⟩, fun w3 => w2 ⟨f, by omega, c2, ?_, by omega⟩⟩
                  rw [hvy, show y = i % 120 by omega]
              · funext f2
                show mX6_judges_L185 fu (mX6_judges_L147 fu M n) M (nI o) (n2 + 1) (nI f) (mkR M (toR a' V) f2) = _
                rw [mX6_judges_L185]
                simp (disch := omega) only [rR2, rl1, gl_nI, tR1, Option.bind_some, e1, i12, nI_mul, nI_add, rR6, rl5, tR5, e5, c2, rR7, rl6, tR6, hvy, i24, nI_div, i120, rR25, rs22, gs_nI, nI_1]
                rw [if_neg (nI_ge hf (by omega)), if_pos (by decide), nar0, i0, uR22]
            · refine ⟨a', ⟨d1, JT_congr d2 (fun i hi => ?_)⟩, ?_⟩
              · constructor
                · rintro ⟨w1, w2⟩
                  refine ⟨w1, fun ⟨g, v1, v2, v3⟩ => ?_⟩
                  by_cases e : g = f
                  · subst e; exact c2 v2
                  · exact w2 ⟨g, by omega, v2, v3⟩
                · rintro ⟨w1, w2⟩
                  exact ⟨w1, fun ⟨g, v1, v2⟩ => w2 ⟨g, by omega, v2⟩⟩
              · funext f2
                show mX6_judges_L185 fu (mX6_judges_L147 fu M n) M (nI o) (n2 + 1) (nI f) (mkR M (toR a' V) f2) = _
                rw [mX6_judges_L185]
                simp (disch := omega) only [rR2, rl1, gl_nI, tR1, Option.bind_some, e1, i12, nI_mul, nI_add, rR6, rl5, tR5, e5, nI_1]
                rw [if_neg (nI_ge hf (by omega)), if_neg (by rw [i2]; exact fun w => c2 ((nI_eq (by have := okv_lt hv; omega) (by omega)).mp w))])
          fu a (by omega) ⟨a1, JT_congr a2 (fun i _ => ⟨fun w => ⟨w, fun ⟨f, hf, _⟩ => absurd hf (by omega)⟩, fun w => w.1⟩)⟩
        refine ⟨a', ⟨t1.1, JT_congr t1.2 (fun i hi => ?_)⟩, ?_⟩
        · constructor
          · rintro ⟨⟨w1, w2⟩, w3⟩
            refine ⟨w1, fun ⟨o', v1, v2, v3, v4, v5⟩ => ?_⟩
            by_cases e : o' = o
            · subst e
              obtain ⟨-, f, u1, u2, u3⟩ := v5
              exact w3 ⟨f, u1, u2, u3, v4⟩
            · exact w2 ⟨o', by omega, v2, v3, v4, v5⟩
          · rintro ⟨w1, w2⟩
            refine ⟨⟨w1, fun ⟨o', v1, v2⟩ => w2 ⟨o', by omega, v2⟩⟩, fun ⟨f, v1, v2, v3, v4⟩ => w2 ⟨o, by omega, c.1, hlg, v4, by omega, f, v1, v2, v3⟩⟩
        · funext f2
          show mX6_judges_L147 fu M (n + 1) (nI o) (mkR M (toR a V) f2) = _
          rw [ev, if_pos c']
          exact congrFun t2 f2
      · refine ⟨a, ⟨a1, JT_congr a2 (fun i hi => ?_)⟩, ?_⟩
        · constructor
          · rintro ⟨w1, w2⟩
            refine ⟨w1, fun ⟨o', v1, v2, v3, v4⟩ => ?_⟩
            by_cases e : o' = o
            · subst e; exact c' ⟨v2.2, fun w => v3 ⟨(gG o' ho).mp w.1, w.2⟩⟩
            · exact w2 ⟨o', by omega, v2, v3, v4⟩
          · rintro ⟨w1, w2⟩
            exact ⟨w1, fun ⟨o', v1, v2⟩ => w2 ⟨o', by omega, v2⟩⟩
        · funext f2
          show mX6_judges_L147 fu M (n + 1) (nI o) (mkR M (toR a V) f2) = _
          rw [ev, if_neg c'])
    fu A2 (by omega) ⟨f2', JT_congr J2 (fun i _ => ⟨fun w => ⟨w, fun ⟨o, ho, _⟩ => absurd ho (by omega)⟩, fun w => w.1⟩)⟩
  obtain ⟨f3, J3⟩ := a3
  generalize hP2 : (fun i => P1 i ∧ ¬ ∃ o, o < 120 ∧ gd A N o ∧ ¬ (Gr o ∧ ¬ A 23 o = 1) ∧ o / 24 = i / 120 ∧ fH A V o (i % 120)) = P2 at J3
  -- registers: unset
  obtain ⟨A4, a4, b4⟩ := lupI (S := tA) (T := jM → Option jM) (fun n r a f2 => mX6_judges_L249 fu M n (nI r) (mkR M (toR a V) f2)) (fun a f2 => some (mkR M (toR a V) f2)) (6 * N) (fun k a => (∀ j, j ≠ 22 → a j = A j) ∧ JT (fun i => P2 i ∧ ¬ ∃ r, r < k ∧ A 7 r = 2 ∧ V 8 r = nI (i % 120) ∧ r / 6 = i / 120) a)
    (by
      intro n a ⟨a1, _⟩
      obtain ⟨e01, e1, e4, e5, e7, e21, e23⟩ := rr a a1
      funext f2
      rw [mX6_judges_L249]
      simp only [rI1, tR0, Option.bind_some, e01, i6, nI_mul]
      rw [if_pos (nI_le (Nat.le_refl _) (by omega))])
    (by
      intro n r a hi ⟨a1, a2⟩
      obtain ⟨e01, e1, e4, e5, e7, e21, e23⟩ := rr a a1
      have hv := wR (r / 6) (r % 6) (by omega) (by omega)
      rw [show 6 * (r / 6) + r % 6 = r by omega] at hv
      by_cases c : A 7 r = 2
      · rw [c] at hv
        obtain ⟨y, hy, hvy, -⟩ := okv_obj hv
        refine ⟨upA a 22 (120 * (r / 6) + y) 0, ⟨fun j hj => ?_, JT_congr (JT_0 a2) (fun i hi => ?_)⟩, ?_⟩
        · funext i; rw [upA_n _ _ (by omega), a1 j hj]
        · constructor
          · rintro ⟨⟨w1, w2⟩, w3⟩
            refine ⟨w1, fun ⟨g, v1, v2, v3, v4⟩ => ?_⟩
            by_cases e : g = r
            · subst e
              rw [hvy] at v3
              have : y = i % 120 := (nI_eq (by omega) (by omega)).mp v3
              exact w3 (by omega)
            · exact w2 ⟨g, by omega, v2, v3, v4⟩
          · rintro ⟨w1, w2⟩
            refine ⟨⟨w1, fun ⟨g, v1, v2⟩ => w2 ⟨g, by omega, v2⟩⟩, fun w3 => w2 ⟨r, by omega, c, ?_, by omega⟩⟩
            rw [hvy, show y = i % 120 by omega]
        · funext f2
          show mX6_judges_L249 fu M (n + 1) (nI r) (mkR M (toR a V) f2) = _
          rw [mX6_judges_L249]
          simp (disch := omega) only [rI1, tR0, Option.bind_some, e01, i6, nI_mul, rR8, rl7, gl_nI, tR7, e7, c, rR9, rl8, tR8, hvy, nI_div, i120, nI_add, rR25, rs22, gs_nI, nI_1]
          rw [if_neg (nI_ge hi (by omega)), if_pos (by decide), nar0, i0, uR22]
      · refine ⟨a, ⟨a1, JT_congr a2 (fun i hi => ?_)⟩, ?_⟩
        · constructor
          · rintro ⟨w1, w2⟩
            refine ⟨w1, fun ⟨g, v1, v2, v3⟩ => ?_⟩
            by_cases e : g = r
            · subst e; exact c v2
            · exact w2 ⟨g, by omega, v2, v3⟩
          · rintro ⟨w1, w2⟩
            exact ⟨w1, fun ⟨g, v1, v2⟩ => w2 ⟨g, by omega, v2⟩⟩
        · funext f2
          show mX6_judges_L249 fu M (n + 1) (nI r) (mkR M (toR a V) f2) = _
          rw [mX6_judges_L249]
          simp (disch := omega) only [rI1, tR0, Option.bind_some, e01, i6, nI_mul, rR8, rl7, gl_nI, tR7, e7, nI_1]
          rw [if_neg (nI_ge hi (by omega)), if_neg (by rw [i2]; exact fun w => c ((nI_eq (by have := okv_lt hv; omega) (by omega)).mp w))])
    fu A3 (by omega) ⟨f3, JT_congr J3 (fun i _ => ⟨fun w => ⟨w, fun ⟨o, ho, _⟩ => absurd ho (by omega)⟩, fun w => w.1⟩)⟩
  obtain ⟨f4, J4⟩ := a4
  refine ⟨A4, fun f2 => ?_, f4, fun m x hm hx => ?_⟩
  · unfold mX6_judges
    have q1 := congrFun b1 f2
    have q2 := congrFun b2 f2
    have q3 := congrFun b3 f2
    have q4 := congrFun b4 f2
    rw [i0, q1, q2, q3, q4]
  · have key : (P2 (120 * m + x) ∧ ¬ ∃ r, r < 6 * N ∧ A 7 r = 2 ∧ V 8 r = nI ((120 * m + x) % 120) ∧ r / 6 = (120 * m + x) / 120) ↔ inr A V N Gr (fun y => A 23 y = 1) m x := by
      rw [← hP2, ← hP1]
      dsimp only
      rw [show (120 * m + x) % 120 = x by omega, show (120 * m + x) / 120 = m by omega]
      constructor
      · rintro ⟨⟨⟨o, w1, w2, w3, w4, w5, w6⟩, w7⟩, w8⟩
        refine ⟨⟨hx, w6, o, w2, w4, w3.1, w3.2, w5⟩, fun ⟨_, _, w⟩ => ?_⟩
        rcases w with ⟨-, a, v1, v2, v3⟩ | ⟨o', v1, v2, v3, v4⟩
        · have hmN : m < N := by have := w2.1; omega
          exact w8 ⟨6 * m + a, by omega, v2, v3, by omega⟩
        · exact w7 ⟨o', by have := v1.1; omega, v1, v3, v2, v4⟩
      · rintro ⟨⟨-, w6, o, w2, w4, w3, w3', w5⟩, w⟩
        refine ⟨⟨⟨o, by have := w2.1; omega, w2, ⟨w3, w3'⟩, w4, w5, w6⟩, fun ⟨o', v0, v1, v3, v2, v4⟩ => w ⟨hx, w6, Or.inr ⟨o', v1, v2, v3, v4⟩⟩⟩, fun ⟨r, v1, v2, v3, v4⟩ => w ⟨hx, w6, Or.inl ⟨hx, r % 6, by omega, ?_⟩⟩⟩
        rw [show 6 * m + r % 6 = r by omega]
        exact ⟨v2, v3⟩
    rcases J4 (120 * m + x) (by omega) with ⟨w1, w2⟩ | ⟨w1, w2⟩
    · exact ⟨by omega, ⟨fun _ => key.mp w2, fun _ => w1⟩⟩
    · exact ⟨by omega, ⟨fun w => absurd w (by omega), fun w => absurd (key.mpr w) w2⟩⟩
end JU
