/-! the reference: WITHOUT grows -/
section GW
variable {M N : Nat} {V : tV} {A : tA} {Gr : Nat → Prop}
def GI (A : tA) (V : tV) (N : Nat) (Gr : Nat → Prop) (B : tA) (v : Int32) (a : tA) : Prop :=
  (∀ j, j ≠ 23 → a j = B j) ∧ bl a 23 ∧ (∀ x, x < 120 → B 23 x = 1 → a 23 x = 1) ∧ ((v = 0 ∧ a = B) ∨ (v = 1 ∧ cr B 23 < cr a 23)) ∧ ∀ P, Cld A V N Gr P → (∀ x, x < 120 → B 23 x = 1 → P x) → ∀ x, x < 120 → a 23 x = 1 → P x
theorem cr_mono {a B : tA} {row : Nat} (h : ∀ x, x < 120 → B row x = 1 → a row x = 1) : cr B row ≤ cr a row := by
  unfold cr
  rw [cnt_sm, cnt_sm]
  have : ∀ n, n ≤ 120 → sm (fun i => if (B row i == 1) = true then 1 else 0) n ≤ sm (fun i => if (a row i == 1) = true then 1 else 0) n := by
    intro n
    induction n with
    | zero => intro _; exact Nat.le_refl _
    | succ n ih =>
      intro hn
      have h1 := ih (by omega)
      show _ + (if (B row n == 1) = true then 1 else 0) ≤ _ + (if (a row n == 1) = true then 1 else 0)
      by_cases c : B row n = 1
      · have := h n (by omega) c
        rw [if_pos (by simp [c]), if_pos (by simp [this])]
        omega
      · rw [if_neg (by simp [c])]
        omega
  exact this 120 (Nat.le_refl _)
theorem eR_goesOut {B a : tA} {v : Int32} {x : Nat} (hI : GI A V N Gr B v a) (hx : x < 120) (h21 : bl B 21) (gG : ∀ x, x < 120 → (B 21 x = 1 ↔ Gr x)) (hj : Gr x → ∀ P, Cld A V N Gr P → (∀ y, y < 120 → a 23 y = 1 → P y) → P x) : ∃ r a', (∀ f2, mX6_goesOut (mkR M (toR a V) f2) M (nI x) = some (r, mkR M (toR a' V) f2)) ∧ ((r = 0 ∧ a' = a ∧ (Gr x → a 23 x = 1)) ∨ (r = 1 ∧ GI A V N Gr B 1 a')) := by
  obtain ⟨g1, g2, g3, g4, g5⟩ := hI
  have e21 : a 21 = B 21 := g1 21 (by omega)
  have b21 := h21 x hx
  by_cases c : B 21 x = 1
  · by_cases d : a 23 x = 1
    · refine ⟨0, a, fun f2 => ?_, Or.inl ⟨rfl, rfl, fun _ => d⟩⟩
      unfold mX6_goesOut
      simp (disch := omega) only [rR24, rl21, gl_nI, tR21, e21, c, Option.bind_some, rR26, rl23, tR23, d]
      rw [if_neg (by decide), if_neg (by decide)]
    · have d0 : a 23 x = 0 := by have := g2 x hx; omega
      have hg := (gG x hx).mp c
      refine ⟨1, upA a 23 x 1, fun f2 => ?_, Or.inr ⟨rfl, fun j hj' => ?_, fun y hy => ?_, fun y hy w => ?_, Or.inr ⟨rfl, ?_⟩, fun P hP hB y hy w => ?_⟩⟩
      · unfold mX6_goesOut
        simp (disch := omega) only [rR24, rl21, gl_nI, tR21, e21, c, Option.bind_some, rR26, rl23, tR23, d0, rs23, nar1, gs_nI]
        rw [if_neg (by decide), if_pos (by decide), i1, uR23]
      · funext y; rw [upA_n _ _ (by omega), g1 j hj']
      · rw [upA_if]; split
        · omega
        · exact g2 y hy
      · rw [upA_if]; split
        · rfl
        · exact g3 y hy w
      · have h1 := cr_mono g3
        rw [cr_new hx d]
        omega
      · rw [upA_if] at w
        by_cases e : y = x
        · rw [e]
          exact hj hg P hP (fun z hz wz => g5 P hP hB z hz wz)
        · rw [if_neg e] at w
          exact g5 P hP hB y hy w
  · have c0 : B 21 x = 0 := by omega
    refine ⟨0, a, fun f2 => ?_, Or.inl ⟨rfl, rfl, fun w => absurd ((gG x hx).mpr w) c⟩⟩
    unfold mX6_goesOut
    simp (disch := omega) only [rR24, rl21, gl_nI, tR21, e21, c0, Option.bind_some]
    rw [if_pos (by decide)]
/-- what is left of the flag -/
theorem GI_01 {B a : tA} {v : Int32} (h : GI A V N Gr B v a) : v = 0 ∨ v = 1 := by
  rcases h.2.2.2.1 with w | w
  · exact Or.inl w.1
  · exact Or.inr w.1
theorem GI_0 {B a : tA} (h : GI A V N Gr B 0 a) : a = B := by
  rcases h.2.2.2.1 with w | w
  · exact w.2
  · exact absurd w.1 (by decide)
theorem eR_grows {fu cl : Nat} {B : tA} (hfu : 2000 ≤ fu) (hWf : WF A V N cl) (h0 : A 0 2 = 0) (hB : ∀ j, 0 < j → j < 18 → B j = A j) (hB1 : B 0 1 = N) (h21 : bl B 21) (h23 : bl B 23) (gG : ∀ x, x < 120 → (B 21 x = 1 ↔ Gr x)) (hGd : ∀ x, Gr x → gd A N x) (hcl : ∀ o y, gd A N o → Gr o → fH A V o y → Gr y) (h22 : ∀ m x, m < 5 → x < 120 → B 22 (120 * m + x) ≤ 1 ∧ (B 22 (120 * m + x) = 1 ↔ inr A V N Gr (fun y => B 23 y = 1) m x)) :
    ∃ v a, (∀ f2, mX6_grows fu (mkR M (toR B V) f2) M = some (v, mkR M (toR a V) f2)) ∧ GI A V N Gr B v a ∧ (v = 0 → Cld A V N Gr (fun x => x < 120 ∧ B 23 x = 1)) := by
  have hW0 := hWf
  obtain ⟨⟨h11, hN1, hN5⟩, wR, wF, wT, wW, wE, wM, wTo, wI⟩ := hWf
  have g0 : GI A V N Gr B 0 B := ⟨fun _ _ => rfl, h23, fun _ _ w => w, Or.inl ⟨rfl, rfl⟩, fun P _ hB x hx w => hB x hx w⟩
  have rr : ∀ a : tA, (∀ j, j ≠ 23 → a j = B j) → a 0 1 = N ∧ a 1 = A 1 ∧ a 3 = A 3 ∧ a 4 = A 4 ∧ a 5 = A 5 ∧ a 7 = A 7 ∧ a 9 = A 9 ∧ a 21 = B 21 ∧ a 22 = B 22 := fun a h => ⟨by rw [h 0 (by omega)]; exact hB1, by rw [h 1 (by omega), hB 1 (by omega) (by omega)], by rw [h 3 (by omega), hB 3 (by omega) (by omega)], by rw [h 4 (by omega), hB 4 (by omega) (by omega)], by rw [h 5 (by omega), hB 5 (by omega) (by omega)], by rw [h 7 (by omega), hB 7 (by omega) (by omega)], by rw [h 9 (by omega), hB 9 (by omega) (by omega)], h 21 (by omega), h 22 (by omega)⟩
  -- the registers
  obtain ⟨⟨v1, a1⟩, p1, b1⟩ := lupI (S := Int32 × tA) (T := jM → Option (Int32 × jM)) (fun n r s f2 => mX6_grows_L4 fu M n s.1 (nI r) (mkR M (toR s.2 V) f2)) (fun s f2 => mX6_grows_L72 fu M fu s.1 (nI 0) (mkR M (toR s.2 V) f2)) (6 * N) (fun i s => GI A V N Gr B s.1 s.2 ∧ (s.1 = 0 → ∀ r y, r < i → y < 120 → A 7 r = 2 → V 8 r = nI y → y / 24 = r / 6 → Gr y → B 23 y = 1))
    (by
      intro n s ⟨q1, _⟩
      obtain ⟨e01, e1, e3, e4, e5, e7, e9, e21, e22⟩ := rr s.2 q1.1
      funext f2
      rw [mX6_grows_L4]
      simp only [rI1, tR0, Option.bind_some, e01, i6, nI_mul]
      rw [if_pos (nI_le (Nat.le_refl _) (by omega)), i0])
    (by
      intro n r s hr ⟨q1, q2⟩
      obtain ⟨v, a⟩ := s
      dsimp only at q1 q2
      obtain ⟨e01, e1, e3, e4, e5, e7, e9, e21, e22⟩ := rr a q1.1
      have hv := wR (r / 6) (r % 6) (by omega) (by omega)
      rw [show 6 * (r / 6) + r % 6 = r by omega] at hv
      by_cases c : A 7 r = 2 ∧ ∃ y, y < 120 ∧ V 8 r = nI y ∧ y / 24 = r / 6
      · obtain ⟨c1, y, hy, hvy, hl⟩ := c
        obtain ⟨rr', a', t1, t2⟩ := eR_goesOut (M := M) q1 hy h21 gG (fun hg P hP _ => hP.1 y ⟨hy, hg, Or.inl ⟨r / 6, by omega, ⟨hy, r % 6, by omega, by rw [show 6 * (r / 6) + r % 6 = r by omega]; exact ⟨c1, hvy⟩⟩, hl⟩⟩)
        have ev : ∀ f2, mX6_grows_L4 fu M (n + 1) v (nI r) (mkR M (toR a V) f2) = if rr' = 0 then (if v = 0 then mX6_grows_L4 fu M n 0 (nI (r + 1)) (mkR M (toR a' V) f2) else mX6_grows_L4 fu M n 1 (nI (r + 1)) (mkR M (toR a' V) f2)) else mX6_grows_L4 fu M n 1 (nI (r + 1)) (mkR M (toR a' V) f2) := by
          intro f2
          rw [mX6_grows_L4]
          simp (disch := omega) only [rI1, tR0, Option.bind_some, e01, i6, nI_mul, rR8, rl7, gl_nI, tR7, e7, c1, rR9, rl8, tR8, hvy, i24, nI_div, rchk, t1, nI_1]
          rw [if_neg (nI_ge hr (by omega)), if_pos (by decide), if_pos (by rw [hl])]
        rcases t2 with ⟨w1, w2, w3⟩ | ⟨w1, w2⟩
        · subst w2
          refine ⟨(v, a'), ⟨q1, fun hv0 r' y' hr' hy' x1 x2 x3 x4 => ?_⟩, ?_⟩
          · by_cases e : r' = r
            · subst e
              rw [hvy] at x2
              have : y = y' := (nI_eq (by omega) (by omega)).mp x2
              subst this
              have ha := w3 x4
              have hv0' : v = 0 := hv0
              rw [hv0'] at q1
              rw [GI_0 q1] at ha
              exact ha
            · exact q2 hv0 r' y' (by omega) hy' x1 x2 x3 x4
          · funext f2
            show mX6_grows_L4 fu M (n + 1) v (nI r) (mkR M (toR a' V) f2) = mX6_grows_L4 fu M n v (nI (r + 1)) (mkR M (toR a' V) f2)
            rw [ev, if_pos w1]
            rcases GI_01 q1 with z | z
            · rw [z, if_pos rfl]
            · rw [z, if_neg (by decide)]
        · refine ⟨(1, a'), ⟨w2, fun w => absurd w (show ¬ (1 : Int32) = 0 by decide)⟩, ?_⟩
          funext f2
          show mX6_grows_L4 fu M (n + 1) v (nI r) (mkR M (toR a V) f2) = mX6_grows_L4 fu M n 1 (nI (r + 1)) (mkR M (toR a' V) f2)
          rw [ev, w1, if_neg (by decide)]
      · refine ⟨(v, a), ⟨q1, fun hv0 r' y' hr' hy' x1 x2 x3 x4 => ?_⟩, ?_⟩
        · by_cases e : r' = r
          · subst e; exact absurd ⟨x1, y', hy', x2, x3⟩ c
          · exact q2 hv0 r' y' (by omega) hy' x1 x2 x3 x4
        · funext f2
          show mX6_grows_L4 fu M (n + 1) v (nI r) (mkR M (toR a V) f2) = mX6_grows_L4 fu M n v (nI (r + 1)) (mkR M (toR a V) f2)
          rw [mX6_grows_L4]
          simp (disch := omega) only [rI1, tR0, Option.bind_some, e01, i6, nI_mul, rR8, rl7, gl_nI, tR7, e7, rR9, rl8, tR8, nI_1]
          rw [if_neg (nI_ge hr (by omega))]
          by_cases c1 : A 7 r = 2
          · rw [c1] at hv
            obtain ⟨y, hy, hvy, -⟩ := okv_obj hv
            rw [c1, if_pos (by decide), hvy]
            simp (disch := omega) only [i24, nI_div]
            rw [if_neg (fun w => c ⟨c1, y, by omega, hvy, (nI_eq (by omega) (by omega)).mp w⟩)]
          · rw [if_neg (by rw [i2]; exact fun w => c1 ((nI_eq (by have := okv_lt hv; omega) (by omega)).mp w))])
    fu (0, B) (by omega) ⟨g0, fun _ r y hr => absurd hr (by omega)⟩
  obtain ⟨p11, p12⟩ := p1
  dsimp only at p11 p12
  -- the objects
  obtain ⟨⟨v2, a2⟩, p2, b2⟩ := lupI (S := Int32 × tA) (T := jM → Option (Int32 × jM)) (fun n o s f2 => mX6_grows_L72 fu M n s.1 (nI o) (mkR M (toR s.2 V) f2)) (fun s f2 => (jbl s.1).bind fun _ => some (s.1, mkR M (toR s.2 V) f2)) 120 (fun i s => GI A V N Gr B s.1 s.2 ∧ (s.1 = 0 → v1 = 0 ∧ ∀ o, o < i → gd A N o → (∀ y, fH A V o y → (Gr o ∧ B 23 o = 1) ∨ (¬ Gr o ∧ y / 24 = o / 24) → Gr y → B 23 y = 1) ∧ (0 < A 3 o → A 3 o ≠ sm (fun m => if pB (inr A V N Gr (fun y => B 23 y = 1) m o) then A 9 (120 * m + o) else 0) N → Gr o → B 23 o = 1)))
    (by
      intro n s _
      funext f2
      rw [mX6_grows_L72, i120, if_pos (nI_le (Nat.le_refl _) (by omega))])
    (by
      intro n o s ho ⟨q1, q2⟩
      obtain ⟨v, a⟩ := s
      dsimp only at q1 q2
      obtain ⟨e01, e1, e3, e4, e5, e7, e9, e21, e22⟩ := rr a q1.1
      rcases wT o ho with ⟨ht, ho24⟩ | ⟨ht, ht3⟩
      · have hgd : gd A N o := ⟨ho24, ht⟩
        obtain ⟨z1, z2, -⟩ := wF o ho24 ht
        -- its fields
        obtain ⟨⟨v', a'⟩, p3, b3⟩ := lupI (S := Int32 × tA) (T := jM → Option (Int32 × jM)) (fun n2 f s f2 => mX6_grows_L92 fu (mX6_grows_L72 fu M n) M (nI o) n2 s.1 (nI f) (mkR M (toR s.2 V) f2)) (fun s f2 => mX6_grows_L205 fu (mX6_grows_L72 fu M n) M s.1 (nI o) fu (nI 0) (nI 0) (mkR M (toR s.2 V) f2)) (A 1 o) (fun i s => GI A V N Gr B s.1 s.2 ∧ (s.1 = 0 → v = 0 ∧ ∀ f y, f < i → y < 120 → A 5 (12 * o + f) = 2 → V 6 (12 * o + f) = nI y → (Gr o ∧ B 23 o = 1) ∨ (¬ Gr o ∧ y / 24 = o / 24) → Gr y → B 23 y = 1))
          (by
            intro n2 s ⟨d1, _⟩
            obtain ⟨e01, e1, e3, e4, e5, e7, e9, e21, e22⟩ := rr s.2 d1.1
            funext f2
            rw [mX6_grows_L92]
            simp (disch := omega) only [rR2, rl1, gl_nI, tR1, Option.bind_some, e1]
            rw [if_pos (nI_le (Nat.le_refl _) (by omega)), i0])
          (by
            intro n2 f s hf ⟨d1, d2⟩
            obtain ⟨w, c⟩ := s
            dsimp only at d1 d2
            obtain ⟨e01, e1, e3, e4, e5, e7, e9, e21, e22⟩ := rr c d1.1
            have hv := z2 f hf
            have b21 := h21 o ho
            have b23 := d1.2.1 o ho
            by_cases c2 : A 5 (12 * o + f) = 2
            · rw [c2] at hv
              obtain ⟨y, hy, hvy, -⟩ := okv_obj hv
              have hy120 : y < 120 := by omega
              have hfh : fH A V o y := ⟨hy120, f, hf, c2, hvy⟩
              have ev : ∀ f2, mX6_grows_L92 fu (mX6_grows_L72 fu M n) M (nI o) (n2 + 1) w (nI f) (mkR M (toR c V) f2) = mX6_grows_B168 fu (mX6_grows_L72 fu M n) (mX6_grows_L92 fu (mX6_grows_L72 fu M n) M (nI o) n2) M w (nI o) (nI f) (nI y) (if B 21 o = 0 then (if y / 24 = o / 24 then 1 else 0) else nI (c 23 o)) (mkR M (toR c V) f2) := by
                intro f2
                rw [mX6_grows_L92]
                simp (disch := omega) only [rR2, rl1, gl_nI, tR1, Option.bind_some, e1, i12, nI_mul, nI_add, rR6, rl5, tR5, e5, c2, rR7, rl6, tR6, hvy, rR24, rl21, tR21, e21, i24, nI_div, rR26, rl23, tR23]
                rw [if_neg (nI_ge hf (by omega)), if_pos (by decide)]
                by_cases g : B 21 o = 0
                · rw [if_pos g, g, if_pos (by decide)]
                  by_cases g2 : y / 24 = o / 24
                  · rw [if_pos (by rw [g2]), if_pos g2]
                  · rw [if_neg (fun q => g2 ((nI_eq (by omega) (by omega)).mp q)), if_neg g2]
                · have g1 : B 21 o = 1 := by omega
                  rw [if_neg g, g1, if_neg (by decide)]
              by_cases by1 : (B 21 o = 1 ∧ c 23 o = 1) ∨ (B 21 o = 0 ∧ y / 24 = o / 24)
              · -- it goes out, if gray
                have hs : (if B 21 o = 0 then (if y / 24 = o / 24 then 1 else 0) else nI (c 23 o) : Int32) = 1 := by
                  rcases by1 with ⟨g1, g2⟩ | ⟨g1, g2⟩
                  · rw [if_neg (by omega), g2]; rfl
                  · rw [if_pos g1, if_pos g2]
                have hjust : Gr y → ∀ P, Cld A V N Gr P → (∀ z, z < 120 → c 23 z = 1 → P z) → P y := by
                  intro hg P hP hc
                  rcases by1 with ⟨g1, g2⟩ | ⟨g1, g2⟩
                  · exact hP.2.1 o y hgd ((gG o ho).mp g1) (hc o ho g2) hfh
                  · exact hP.1 y ⟨hy120, hg, Or.inr ⟨o, hgd, fun q => by have := (gG o ho).mpr q; omega, hfh, g2⟩⟩
                obtain ⟨r', c', t1, t2⟩ := eR_goesOut (M := M) d1 hy120 h21 gG hjust
                have ev2 : ∀ f2, mX6_grows_L92 fu (mX6_grows_L72 fu M n) M (nI o) (n2 + 1) w (nI f) (mkR M (toR c V) f2) = if r' = 0 then (if w = 0 then mX6_grows_L92 fu (mX6_grows_L72 fu M n) M (nI o) n2 0 (nI (f + 1)) (mkR M (toR c' V) f2) else mX6_grows_L92 fu (mX6_grows_L72 fu M n) M (nI o) n2 1 (nI (f + 1)) (mkR M (toR c' V) f2)) else mX6_grows_L92 fu (mX6_grows_L72 fu M n) M (nI o) n2 1 (nI (f + 1)) (mkR M (toR c' V) f2) := by
                  intro f2
                  rw [ev, hs]
                  unfold mX6_grows_B168
                  simp only [rchk, Option.bind_some, t1, nI_1]
                  rw [if_neg (by decide)]
                rcases t2 with ⟨w1, w2, w3⟩ | ⟨w1, w2⟩
                · subst w2
                  refine ⟨(w, c'), ⟨d1, fun hv0 => ?_⟩, ?_⟩
                  · have hv0' : w = 0 := hv0
                    obtain ⟨u1, u2⟩ := d2 hv0'
                    refine ⟨u1, fun f' y' hf' hy' x1 x2 x3 x4 => ?_⟩
                    by_cases e : f' = f
                    · subst e
                      rw [hvy] at x2
                      have : y = y' := (nI_eq (by omega) (by omega)).mp x2
                      subst this
                      have ha := w3 x4
                      rw [hv0'] at d1
                      rw [GI_0 d1] at ha
                      exact ha
                    · exact u2 f' y' (by omega) hy' x1 x2 x3 x4
                  · funext f2
                    show mX6_grows_L92 fu (mX6_grows_L72 fu M n) M (nI o) (n2 + 1) w (nI f) (mkR M (toR c' V) f2) = mX6_grows_L92 fu (mX6_grows_L72 fu M n) M (nI o) n2 w (nI (f + 1)) (mkR M (toR c' V) f2)
                    rw [ev2, if_pos w1]
                    rcases GI_01 d1 with z | z
                    · rw [z, if_pos rfl]
                    · rw [z, if_neg (by decide)]
                · refine ⟨(1, c'), ⟨w2, fun w => absurd w (show ¬ (1 : Int32) = 0 by decide)⟩, ?_⟩
                  funext f2
                  show mX6_grows_L92 fu (mX6_grows_L72 fu M n) M (nI o) (n2 + 1) w (nI f) (mkR M (toR c V) f2) = mX6_grows_L92 fu (mX6_grows_L72 fu M n) M (nI o) n2 1 (nI (f + 1)) (mkR M (toR c' V) f2)
                  rw [ev2, w1, if_neg (by decide)]
              · have hs : (if B 21 o = 0 then (if y / 24 = o / 24 then 1 else 0) else nI (c 23 o) : Int32) = 0 := by
                  by_cases g : B 21 o = 0
                  · rw [if_pos g, if_neg (fun q => by1 (Or.inr ⟨g, q⟩))]
                  · have g2 : c 23 o ≠ 1 := fun q => by1 (Or.inl ⟨by omega, q⟩)
                    rw [if_neg g, show c 23 o = 0 by omega]; rfl
                refine ⟨(w, c), ⟨d1, fun hv0 => ?_⟩, ?_⟩
                · have hv0' : w = 0 := hv0
                  obtain ⟨u1, u2⟩ := d2 hv0'
                  refine ⟨u1, fun f' y' hf' hy' x1 x2 x3 x4 => ?_⟩
                  by_cases e : f' = f
                  · subst e
                    rw [hvy] at x2
                    have : y = y' := (nI_eq (by omega) (by omega)).mp x2
                    subst this
                    rw [hv0'] at d1
                    have hcB := GI_0 d1
                    rw [hcB] at by1
                    rcases x3 with ⟨x5, x6⟩ | ⟨x5, x6⟩
                    · exact absurd (Or.inl ⟨(gG o ho).mpr x5, x6⟩) by1
                    · have hng : B 21 o ≠ 1 := fun q => x5 ((gG o ho).mp q)
                      exact absurd (Or.inr ⟨by omega, x6⟩) by1
                  · exact u2 f' y' (by omega) hy' x1 x2 x3 x4
                · funext f2
                  show mX6_grows_L92 fu (mX6_grows_L72 fu M n) M (nI o) (n2 + 1) w (nI f) (mkR M (toR c V) f2) = mX6_grows_L92 fu (mX6_grows_L72 fu M n) M (nI o) n2 w (nI (f + 1)) (mkR M (toR c V) f2)
                  rw [ev, hs]
                  unfold mX6_grows_B168
                  rw [if_pos rfl, nI_1]
            · refine ⟨(w, c), ⟨d1, fun hv0 => ?_⟩, ?_⟩
              · obtain ⟨u1, u2⟩ := d2 hv0
                refine ⟨u1, fun f' y' hf' hy' x1 x2 x3 x4 => ?_⟩
                by_cases e : f' = f
                · subst e; exact absurd x1 c2
                · exact u2 f' y' (by omega) hy' x1 x2 x3 x4
              · funext f2
                show mX6_grows_L92 fu (mX6_grows_L72 fu M n) M (nI o) (n2 + 1) w (nI f) (mkR M (toR c V) f2) = mX6_grows_L92 fu (mX6_grows_L72 fu M n) M (nI o) n2 w (nI (f + 1)) (mkR M (toR c V) f2)
                rw [mX6_grows_L92]
                simp (disch := omega) only [rR2, rl1, gl_nI, tR1, Option.bind_some, e1, i12, nI_mul, nI_add, rR6, rl5, tR5, e5, nI_1]
                rw [if_neg (nI_ge hf (by omega)), if_neg (by rw [i2]; exact fun q => c2 ((nI_eq (by have := okv_lt hv; omega) (by omega)).mp q))])
          fu (v, a) (by omega) ⟨q1, fun hv0 => ⟨hv0, fun f y hf => absurd hf (by omega)⟩⟩
        obtain ⟨p31, p32⟩ := p3
        dsimp only at p31 p32
        obtain ⟨e01', e1', e3', e4', e5', e7', e9', e21', e22'⟩ := rr a' p31.1
        have hb3 := bndT wTo ho
        have htot := tot_inr (V := V) (Gr := Gr) (O := fun y => B 23 y = 1) hW0 h0 ho
        -- the sum
        have hsum : ∀ f2, mX6_grows_L205 fu (mX6_grows_L72 fu M n) M v' (nI o) fu (nI 0) (nI 0) (mkR M (toR a' V) f2) = mX6_grows_L205 fu (mX6_grows_L72 fu M n) M v' (nI o) 1 (nI (sm (fun m => if pB (inr A V N Gr (fun y => B 23 y = 1) m o) then A 9 (120 * m + o) else 0) N)) (nI N) (mkR M (toR a' V) f2) := by
          intro f2
          refine lup0 (fun n2 m => mX6_grows_L205 fu (mX6_grows_L72 fu M n) M v' (nI o) n2 (nI (sm (fun m => if pB (inr A V N Gr (fun y => B 23 y = 1) m o) then A 9 (120 * m + o) else 0) m)) (nI m) (mkR M (toR a' V) f2)) N _ fu (by omega) ?_ ?_
          · intro n2
            rw [mX6_grows_L205, mX6_grows_L205]
            simp only [rI1, tR0, Option.bind_some, e01']
            rw [if_pos (nI_le (Nat.le_refl _) (by omega)), if_pos (nI_le (Nat.le_refl _) (by omega))]
          · intro n2 m hm
            obtain ⟨u1, u2⟩ := h22 m o (by omega) ho
            rw [mX6_grows_L205]
            simp (disch := omega) only [rI1, tR0, Option.bind_some, e01', i120, nI_mul, nI_add, rR25, rl22, gl_nI, tR22, e22', rR10, rl9, tR9, e9', nI_1]
            rw [if_neg (nI_ge hm (by omega))]
            by_cases g : B 22 (120 * m + o) = 1
            · rw [g, if_neg (by decide)]
              show _ = mX6_grows_L205 fu (mX6_grows_L72 fu M n) M v' (nI o) n2 (nI (sm _ m + (if pB (inr A V N Gr (fun y => B 23 y = 1) m o) = true then A 9 (120 * m + o) else 0))) (nI (m + 1)) (mkR M (toR a' V) f2)
              rw [if_pos (pB_iff.mpr (u2.mp g))]
            · rw [show B 22 (120 * m + o) = 0 by omega, if_pos (by decide)]
              show _ = mX6_grows_L205 fu (mX6_grows_L72 fu M n) M v' (nI o) n2 (nI (sm _ m + (if pB (inr A V N Gr (fun y => B 23 y = 1) m o) = true then A 9 (120 * m + o) else 0))) (nI (m + 1)) (mkR M (toR a' V) f2)
              rw [if_neg (fun q => g (u2.mpr (pB_iff.mp q)))]
              rfl
        have evh : ∀ f2, mX6_grows_L72 fu M (n + 1) v (nI o) (mkR M (toR a V) f2) = mX6_grows_L205 fu (mX6_grows_L72 fu M n) M v' (nI o) 1 (nI (sm (fun m => if pB (inr A V N Gr (fun y => B 23 y = 1) m o) then A 9 (120 * m + o) else 0) N)) (nI N) (mkR M (toR a' V) f2) := by
          intro f2
          rw [mX6_grows_L72, i120, if_neg (nI_ge ho (by omega))]
          simp (disch := omega) only [rR5, rl4, gl_nI, tR4, Option.bind_some, e4, ht]
          rw [if_neg (by decide), i0]
          have := congrFun b3 f2
          rw [this, hsum]
        generalize hSS : sm (fun m => if pB (inr A V N Gr (fun y => B 23 y = 1) m o) then A 9 (120 * m + o) else 0) N = SS at *
        by_cases c3 : 0 < A 3 o ∧ A 3 o ≠ SS
        · have hjust : Gr o → ∀ P, Cld A V N Gr P → (∀ z, z < 120 → a' 23 z = 1 → P z) → P o := by
            intro hg P hP hc
            obtain ⟨m, m1, m2, m3⟩ := htot.1.mp c3.2
            exact hP.2.2 o m ho m1 hg m2 (fun q => m3 (inr_anti (fun y hy hy2 => hc y (by have := hy.1; omega) (p31.2.2.1 y (by have := hy.1; omega) hy2)) q))
          obtain ⟨r', c', t1, t2⟩ := eR_goesOut (M := M) p31 ho h21 gG hjust
          have ev2 : ∀ f2, mX6_grows_L72 fu M (n + 1) v (nI o) (mkR M (toR a V) f2) = if r' = 0 then (if v' = 0 then mX6_grows_L72 fu M n 0 (nI (o + 1)) (mkR M (toR c' V) f2) else mX6_grows_L72 fu M n 1 (nI (o + 1)) (mkR M (toR c' V) f2)) else mX6_grows_L72 fu M n 1 (nI (o + 1)) (mkR M (toR c' V) f2) := by
            intro f2
            rw [evh, mX6_grows_L205]
            simp (disch := omega) only [rI1, tR0, Option.bind_some, e01', rR4, rl3, gl_nI, tR3, e3', rchk, t1, nI_1]
            rw [if_pos (nI_le (Nat.le_refl _) (by omega)), if_neg (nI_nle c3.1 (by omega)), if_neg (fun q => c3.2 ((nI_eq (by omega) (by omega)).mp q))]
          rcases t2 with ⟨w1, w2, w3⟩ | ⟨w1, w2⟩
          · subst w2
            refine ⟨(v', c'), ⟨p31, fun hv0 => ?_⟩, ?_⟩
            · have hv0' : v' = 0 := hv0
              obtain ⟨u1, u2⟩ := p32 hv0'
              obtain ⟨u3, u4⟩ := q2 u1
              refine ⟨u3, fun o' ho' hg' => ?_⟩
              by_cases e : o' = o
              · subst e
                refine ⟨fun y hy x3 x4 => ?_, fun _ _ x4 => ?_⟩
                · obtain ⟨hy1, f, x5, x6, x7⟩ := hy
                  exact u2 f y x5 hy1 x6 x7 x3 x4
                · have ha := w3 x4
                  rw [hv0'] at p31
                  rw [GI_0 p31] at ha
                  exact ha
              · exact u4 o' (by omega) hg'
            · funext f2
              show mX6_grows_L72 fu M (n + 1) v (nI o) (mkR M (toR a V) f2) = mX6_grows_L72 fu M n v' (nI (o + 1)) (mkR M (toR c' V) f2)
              rw [ev2, if_pos w1]
              rcases GI_01 p31 with z | z
              · rw [z, if_pos rfl]
              · rw [z, if_neg (by decide)]
          · refine ⟨(1, c'), ⟨w2, fun w => absurd w (show ¬ (1 : Int32) = 0 by decide)⟩, ?_⟩
            funext f2
            show mX6_grows_L72 fu M (n + 1) v (nI o) (mkR M (toR a V) f2) = mX6_grows_L72 fu M n 1 (nI (o + 1)) (mkR M (toR c' V) f2)
            rw [ev2, w1, if_neg (by decide)]
        · refine ⟨(v', a'), ⟨p31, fun hv0 => ?_⟩, ?_⟩
          · have hv0' : v' = 0 := hv0
            obtain ⟨u1, u2⟩ := p32 hv0'
            obtain ⟨u3, u4⟩ := q2 u1
            refine ⟨u3, fun o' ho' hg' => ?_⟩
            by_cases e : o' = o
            · subst e
              refine ⟨fun y hy x3 x4 => ?_, fun x5 x6 _ => ?_⟩
              · obtain ⟨hy1, f, x5, x6, x7⟩ := hy
                exact u2 f y x5 hy1 x6 x7 x3 x4
              · rw [hSS] at x6
                exact absurd ⟨x5, x6⟩ c3
            · exact u4 o' (by omega) hg'
          · funext f2
            show mX6_grows_L72 fu M (n + 1) v (nI o) (mkR M (toR a V) f2) = mX6_grows_L72 fu M n v' (nI (o + 1)) (mkR M (toR a' V) f2)
            rw [evh, mX6_grows_L205]
            simp (disch := omega) only [rI1, tR0, Option.bind_some, e01', rR4, rl3, gl_nI, tR3, e3', nI_1]
            rw [if_pos (nI_le (Nat.le_refl _) (by omega))]
            by_cases c4 : 0 < A 3 o
            · have c5 : A 3 o = SS := Classical.byContradiction (fun q => c3 ⟨c4, q⟩)
              rw [if_neg (nI_nle c4 (by omega)), if_pos (by rw [c5])]
            · rw [if_pos (by rw [show A 3 o = 0 by omega]; decide)]
      · refine ⟨(v, a), ⟨q1, fun hv0 => ?_⟩, ?_⟩
        · obtain ⟨u3, u4⟩ := q2 hv0
          refine ⟨u3, fun o' ho' hg' => ?_⟩
          by_cases e : o' = o
          · subst e
            have := hg'.2
            omega
          · exact u4 o' (by omega) hg'
        · funext f2
          show mX6_grows_L72 fu M (n + 1) v (nI o) (mkR M (toR a V) f2) = mX6_grows_L72 fu M n v (nI (o + 1)) (mkR M (toR a V) f2)
          rw [mX6_grows_L72, i120, if_neg (nI_ge ho (by omega))]
          simp (disch := omega) only [rR5, rl4, gl_nI, tR4, Option.bind_some, e4, ht, nI_1]
          rw [if_pos (by decide)])
    fu (v1, a1) (by omega) ⟨p11, fun hv0 => ⟨hv0, fun o ho => absurd ho (by omega)⟩⟩
  obtain ⟨p21, p22⟩ := p2
  dsimp only at p21 p22
  refine ⟨v2, a2, fun f2 => ?_, p21, fun hv0 => ?_⟩
  · unfold mX6_grows
    have q1 := congrFun b1 f2
    have q2 := congrFun b2 f2
    dsimp only at q1 q2
    rw [i0]
    rw [i0] at q1
    rw [q1, q2]
    rcases GI_01 p21 with z | z
    · rw [z]; rfl
    · rw [z]; rfl
  · obtain ⟨u1, u2⟩ := p22 hv0
    have u3 := p12 u1
    refine ⟨fun x hx => ⟨hx.1, ?_⟩, fun o x ho hg hw hf => ⟨hf.1, ?_⟩, fun x m hx hm hg hw hi => ⟨hx, ?_⟩⟩
    · obtain ⟨w1, w2, w3⟩ := hx
      rcases w3 with ⟨n, x1, ⟨-, a, x2, x3, x4⟩, x5⟩ | ⟨o, x1, x2, x3, x4⟩
      · exact u3 (6 * n + a) x (by omega) w1 x3 x4 (by omega) w2
      · exact (u2 o (by have := x1.1; omega) x1).1 x x3 (Or.inr ⟨x2, x4⟩) w2
    · exact (u2 o hw.1 ho).1 x hf (Or.inl ⟨hg, hw.2⟩) (hcl o x ho hg hf)
    · have hb := bndW (n := m) wE wTo hm hx
      refine (u2 x hx (hGd x hg)).2 (by omega) ?_ hg
      refine (tot_inr (V := V) (Gr := Gr) (O := fun y => B 23 y = 1) hW0 h0 hx).1.mpr ⟨m, hm, hw, fun q => hi (inr_anti (fun y _ hy2 => hy2.2) q)⟩
end GW
