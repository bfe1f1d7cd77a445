/-! the reference's hold -/
section HO
variable {M N : Nat} {V : tV}
/-- what the rows that the model works in don't change -/
theorem scr_fH {A A' : tA} (h : scr A A') (o y : Nat) : fH A' V o y ↔ fH A V o y := by
  unfold fH
  have e1 : A' 1 o = A 1 o := h 1 o (by omega) (by omega)
  have e5 : ∀ i, A' 5 i = A 5 i := fun i => h 5 i (by omega) (by omega)
  simp only [e1, e5]
theorem scr_gd {A A' : tA} (h : scr A A') (x : Nat) : gd A' N x ↔ gd A N x := by
  unfold gd
  rw [h 4 x (by omega) (by omega)]
def noI : Nat → Prop := fun _ => False
theorem noI_in {row x : Nat} {A : tA} : inS row noI A x ↔ A row x = 1 := ⟨fun h => h.2 (fun w => w), fun h => ⟨fun w => absurd w (fun w => w), fun _ => h⟩⟩
theorem eR_hold {fu cl : Nat} {A : tA} (hfu : 2000 ≤ fu) (hW : WF A V N cl) :
    ∃ A', (∀ f2, mX6_hold fu (mkR M (toR A V) f2) M = some (mkR M (toR A' V) f2)) ∧ scr A A' ∧ bl A' 24 ∧ ∀ x, x < 120 → (A' 24 x = 1 ↔ Rch (hRt A V N) (fH A V) x) := by
  have hW0 := hW
  obtain ⟨⟨h11, hN1, hN5⟩, wR, wF, wT, wW, wE, wM, wTo, wI⟩ := hW
  have hms := wM.1
  -- cleared
  obtain ⟨A1, h1, h2⟩ := lupI (T := jM → Option jM) (fun n i a f2 => mX6_hold_L2 fu M n (nI i) (mkR M (toR a V) f2)) (fun a f2 => mX6_hold_L28 fu M fu (nI 0) (mkR M (toR (upA a 0 3 0) V) f2)) 120 (fun i a => scr A a ∧ ∀ x, x < i → a 24 x = 0)
    (by
      intro n a _
      funext f2
      rw [mX6_hold_L2, i120, if_pos (nI_le (Nat.le_refl _) (by omega))]
      simp only [i0, rW22, uR0, Option.bind_some])
    (by
      intro n i a hi ⟨a1, a2⟩
      refine ⟨upA a 24 i 0, ⟨scr_up a1 (by omega), fun x hx => ?_⟩, ?_⟩
      · rw [upA_if]; split
        · rfl
        · exact a2 x (by omega)
      · funext f2
        show mX6_hold_L2 fu M (n + 1) (nI i) (mkR M (toR a V) f2) = _
        rw [mX6_hold_L2, i120, if_neg (nI_ge hi (by omega))]
        simp (disch := omega) only [rR27, rs24, nar0, gs_nI, Option.bind_some, nI_1]
        rw [i0, uR24])
    fu A (by omega) ⟨scr_refl A, fun x hx => absurd hx (by omega)⟩
  obtain ⟨s1, z1⟩ := h1
  generalize hA2 : upA A1 0 3 0 = A2 at *
  have s2 : scr A A2 := by rw [← hA2]; exact scr_up s1 (by omega)
  have z2 : ∀ x, x < 120 → A2 24 x = 0 := fun x hx => by rw [← hA2, upA_n _ _ (by omega)]; exact z1 x hx
  have w2 : A2 0 3 = 0 := by rw [← hA2, upA_s]
  have c2 := cr0 z2
  have bl2 : bl A2 24 := fun x hx => by rw [z2 x hx]; omega
  -- what Psh gives
  have hpre : ∀ Y a, Psh 24 noI Y A2 a → scr A a ∧ bl a 24 ∧ a 0 3 ≤ cr a 24 := fun Y a h => ⟨scr_trans s2 h.1, h.2.2.2.2.2.2.2.1 bl2, by have := h.2.2.2.2.2.2.1; omega⟩
  have eN : ∀ a, scr A a → a 0 1 = N := fun a h => (h 0 1 (by omega) (by omega)).trans h11
  have eMs : ∀ a, scr A a → a 0 2 = A 0 2 := fun a h => h 0 2 (by omega) (by omega)
  have e7 : ∀ a, scr A a → ∀ i, a 7 i = A 7 i := fun a h i => h 7 i (by omega) (by omega)
  have e14 : ∀ a, scr A a → ∀ i, a 14 i = A 14 i := fun a h i => h 14 i (by omega) (by omega)
  have e15 : ∀ a, scr A a → ∀ i, a 15 i = A 15 i := fun a h i => h 15 i (by omega) (by omega)
  -- registers
  obtain ⟨A3, h3, h4⟩ := lupI (T := jM → Option jM) (fun n i a f2 => mX6_hold_L28 fu M n (nI i) (mkR M (toR a V) f2)) (fun a f2 => mX6_hold_L67 fu M fu (nI 0) (mkR M (toR a V) f2)) (6 * N) (fun i a => Psh 24 noI (hRt A V N) A2 a ∧ ∀ j, j < i → ∀ y, y < 120 → A 7 j = 2 → V 8 j = nI y → a 24 y = 1)
    (by
      intro n a ⟨a1, _⟩
      obtain ⟨q1, q2, q3⟩ := hpre _ a a1
      funext f2
      rw [mX6_hold_L28]
      simp only [rI1, tR0, Option.bind_some, eN a q1, i6, nI_mul]
      rw [if_pos (nI_le (Nat.le_refl _) (by omega)), i0])
    (by
      intro n i a hi ⟨a1, a2⟩
      obtain ⟨q1, q2, q3⟩ := hpre _ a a1
      have hv := wR (i / 6) (i % 6) (by omega) (by omega)
      rw [show 6 * (i / 6) + i % 6 = i by omega] at hv
      have ev : ∀ f2, mX6_hold_L28 fu M (n + 1) (nI i) (mkR M (toR a V) f2) = if A 7 i = 2 then (mX6_reaches (mkR M (toR a V) f2) M (V 8 i)).bind fun f13 => mX6_hold_L28 fu M n (nI (i + 1)) f13 else mX6_hold_L28 fu M n (nI (i + 1)) (mkR M (toR a V) f2) := by
        intro f2
        rw [mX6_hold_L28]
        simp (disch := omega) only [rI1, tR0, Option.bind_some, eN a q1, i6, nI_mul, rR8, rl7, gl_nI, tR7, e7 a q1, rR9, rl8, tR8, rchk, nI_1]
        rw [if_neg (nI_ge hi (by omega))]
        by_cases c : A 7 i = 2
        · rw [if_pos (by rw [c]; decide), if_pos c]
        · rw [if_neg (by rw [i2]; exact fun w => c ((nI_eq (by have := okv_lt hv; omega) (by omega)).mp w)), if_neg c]
      by_cases c : A 7 i = 2
      · rw [c] at hv
        obtain ⟨o, ho, hvo, -⟩ := okv_obj hv
        obtain ⟨a', b1, b2, b3⟩ := eR_reaches (M := M) (V := V) (A := a) (show o < 120 by omega) q2 q3
        refine ⟨a', ⟨Psh_trans a1 b2 (fun _ w => w) (fun x w => by subst w; exact Or.inl ⟨i / 6, by omega, by omega, i % 6, by omega, by rw [show 6 * (i / 6) + i % 6 = i by omega]; exact ⟨c, hvo⟩⟩), fun j hj y hy w1 w2 => ?_⟩, ?_⟩
        · by_cases d : j = i
          · subst d
            rw [hvo] at w2
            have : o = y := (nI_eq (by omega) (by omega)).mp w2
            subst this
            exact noI_in.mp b3
          · exact noI_in.mp (b2.2.1 y hy (noI_in.mpr (a2 j (by omega) y hy w1 w2)))
        · funext f2
          show mX6_hold_L28 fu M (n + 1) (nI i) (mkR M (toR a V) f2) = _
          rw [ev, if_pos c, hvo, b1]
          rfl
      · refine ⟨a, ⟨a1, fun j hj y hy w1 w2 => ?_⟩, ?_⟩
        · by_cases d : j = i
          · subst d; exact absurd w1 c
          · exact a2 j (by omega) y hy w1 w2
        · funext f2
          show mX6_hold_L28 fu M (n + 1) (nI i) (mkR M (toR a V) f2) = _
          rw [ev, if_neg c])
    fu A2 (by omega) ⟨Psh_refl A2, fun j hj => absurd hj (by omega)⟩
  obtain ⟨a3, b3⟩ := h3
  -- letters
  obtain ⟨A4, h5, h6⟩ := lupI (T := jM → Option jM) (fun n i a f2 => mX6_hold_L67 fu M n (nI i) (mkR M (toR a V) f2)) (fun a f2 => mX6_hold_L101 fu M fu (mkR M (toR a V) f2)) (A 0 2) (fun i a => Psh 24 noI (hRt A V N) A3 a ∧ ∀ j, j < i → A 14 j = 1 → a 24 (A 15 j) = 1)
    (by
      intro n a ⟨a1, _⟩
      obtain ⟨q1, q2, q3⟩ := hpre _ a (Psh_trans a3 a1 (fun _ w => w) (fun _ w => w) : Psh 24 noI (hRt A V N) A2 a)
      funext f2
      rw [mX6_hold_L67]
      simp only [rI13, tR0, Option.bind_some, eMs a q1]
      rw [if_pos (nI_le (Nat.le_refl _) (by omega))])
    (by
      intro n i a hi ⟨a1, a2⟩
      obtain ⟨q1, q2, q3⟩ := hpre _ a (Psh_trans a3 a1 (fun _ w => w) (fun _ w => w) : Psh 24 noI (hRt A V N) A2 a)
      obtain ⟨m1, m2, m3, ho, m5⟩ := wM.2 i hi
      have ev : ∀ f2, mX6_hold_L67 fu M (n + 1) (nI i) (mkR M (toR a V) f2) = if A 14 i = 1 then (mX6_reaches (mkR M (toR a V) f2) M (nI (A 15 i))).bind fun f13 => mX6_hold_L67 fu M n (nI (i + 1)) f13 else mX6_hold_L67 fu M n (nI (i + 1)) (mkR M (toR a V) f2) := by
        intro f2
        rw [mX6_hold_L67]
        simp (disch := omega) only [rI13, tR0, Option.bind_some, eMs a q1, rR16, rl14, gl_nI, tR14, e14 a q1, rR17, rl15, tR15, e15 a q1, rchk, nI_1]
        rw [if_neg (nI_ge hi (by omega))]
        by_cases c : A 14 i = 1
        · rw [if_pos (by rw [c]; decide), if_pos c]
        · rw [if_neg (by rw [i1]; exact fun w => c ((nI_eq (by rcases m5 with m5 | m5 | m5 | m5 <;> omega) (by omega)).mp w)), if_neg c]
      by_cases c : A 14 i = 1
      · obtain ⟨a', d1, d2, d3⟩ := eR_reaches (M := M) (V := V) (A := a) (show A 15 i < 120 by omega) q2 q3
        refine ⟨a', ⟨Psh_trans a1 d2 (fun _ w => w) (fun x w => Or.inr ⟨i, hi, c, w.symm⟩), fun j hj w1 => ?_⟩, ?_⟩
        · by_cases d : j = i
          · subst d; exact noI_in.mp d3
          · have := (wM.2 j (by omega)).2.2.2.1
            exact noI_in.mp (d2.2.1 _ (by omega) (noI_in.mpr (a2 j (by omega) w1)))
        · funext f2
          show mX6_hold_L67 fu M (n + 1) (nI i) (mkR M (toR a V) f2) = _
          rw [ev, if_pos c, d1]
          rfl
      · refine ⟨a, ⟨a1, fun j hj w1 => ?_⟩, ?_⟩
        · by_cases d : j = i
          · subst d; exact absurd w1 c
          · exact a2 j (by omega) w1
        · funext f2
          show mX6_hold_L67 fu M (n + 1) (nI i) (mkR M (toR a V) f2) = _
          rw [ev, if_neg c])
    fu A3 (by omega) ⟨Psh_refl A3, fun j hj => absurd hj (by omega)⟩
  obtain ⟨a4, b4⟩ := h5
  have a24 : Psh 24 noI (hRt A V N) A2 A4 := Psh_trans a3 a4 (fun _ w => w) (fun _ w => w)
  -- the stack
  obtain ⟨A5, r1, r2, r3, r4, r5, r6⟩ := stk0 (T := jM → Option jM) (row := 24) (im := noI) (E := fun x y => gd A N x ∧ fH A V x y) (R := hRt A V N) (G := gd A N) (out := fun n a f2 => mX6_hold_L101 fu M n (mkR M (toR a V) f2)) (K := fun a f2 => some (mkR M (toR a V) f2)) (A2 := A2) (A' := A4) (Or.inr (Or.inr rfl)) (fun x hx => by have := hx.1; omega) (fun x y hx _ hy => (fH_gd hN5 wF hx hy.2).1)
    (by
      intro n a _ h0
      funext f2
      show mX6_hold_L101 fu M (n + 1) (mkR M (toR a V) f2) = _
      rw [mX6_hold_L101]
      simp only [rI22, tR0, Option.bind_some, h0]
      rw [if_pos (by decide)])
    (by
      intro n a q1 q2 q3 q4 q5 _
      have s : scr A a := scr_trans s2 q1
      have hcr : cr a 24 ≤ 120 := cnt_le _ _
      generalize ho : a 20 (a 0 3 - 1) = o at *
      have ho1 := q5.1
      obtain ⟨z1, z2, -⟩ := wF o q5.1 q5.2
      generalize hB : upA a 0 3 (a 0 3 - 1) = B at *
      have sB : scr A B := by rw [← hB]; exact scr_up s (by omega)
      have crB : cr B 24 = cr a 24 := by rw [← hB]; rfl
      have wB : B 0 3 = a 0 3 - 1 := by rw [← hB, upA_s]
      have blB : bl B 24 := by rw [← hB]; exact q2
      obtain ⟨a', t1, t2⟩ := lupI (T := jM → Option jM) (fun n' i c f2 => mX6_hold_L130 fu (mX6_hold_L101 fu M n) M (nI o) n' (nI i) (mkR M (toR c V) f2)) (fun c f2 => mX6_hold_L101 fu M n (mkR M (toR c V) f2)) (A 1 o) (fun i c => Psh 24 noI (fun y => gd A N o ∧ fH A V o y) B c ∧ ∀ f, f < i → ∀ y, y < 120 → A 5 (12 * o + f) = 2 → V 6 (12 * o + f) = nI y → c 24 y = 1)
        (by
          intro n' c ⟨c1, _⟩
          have sc := scr_trans sB c1.1
          funext f2
          rw [mX6_hold_L130]
          simp (disch := omega) only [rR2, rl1, gl_nI, tR1, Option.bind_some, sc 1 o (by omega) (by omega)]
          rw [if_pos (nI_le (Nat.le_refl _) (by omega))])
        (by
          intro n' i c hi ⟨c1, c2⟩
          have sc := scr_trans sB c1.1
          have hv := z2 i hi
          have ev : ∀ f2, mX6_hold_L130 fu (mX6_hold_L101 fu M n) M (nI o) (n' + 1) (nI i) (mkR M (toR c V) f2) = if A 5 (12 * o + i) = 2 then (mX6_reaches (mkR M (toR c V) f2) M (V 6 (12 * o + i))).bind fun f13 => mX6_hold_L130 fu (mX6_hold_L101 fu M n) M (nI o) n' (nI (i + 1)) f13 else mX6_hold_L130 fu (mX6_hold_L101 fu M n) M (nI o) n' (nI (i + 1)) (mkR M (toR c V) f2) := by
            intro f2
            rw [mX6_hold_L130]
            simp (disch := omega) only [rR2, rl1, gl_nI, tR1, Option.bind_some, sc 1 o (by omega) (by omega), i12, nI_mul, nI_add, rR6, rl5, tR5, sc 5 (12 * o + i) (by omega) (by omega), rR7, rl6, tR6, rchk, nI_1]
            rw [if_neg (nI_ge hi (by omega))]
            by_cases c : A 5 (12 * o + i) = 2
            · rw [if_pos (by rw [c]; decide), if_pos c]
            · rw [if_neg (by rw [i2]; exact fun w => c ((nI_eq (by have := okv_lt hv; omega) (by omega)).mp w)), if_neg c]
          by_cases cc : A 5 (12 * o + i) = 2
          · rw [cc] at hv
            obtain ⟨y0, hy0, hvo, -⟩ := okv_obj hv
            obtain ⟨c', d1, d2, d3⟩ := eR_reaches (M := M) (V := V) (A := c) (show y0 < 120 by omega) (c1.2.2.2.2.2.2.2.1 blB) (by have := c1.2.2.2.2.2.2.1; omega)
            refine ⟨c', ⟨Psh_trans c1 d2 (fun _ w => w) (fun x w => by subst w; exact ⟨q5, by omega, i, hi, cc, hvo⟩), fun f hf y hy w1 w2 => ?_⟩, ?_⟩
            · by_cases d : f = i
              · subst d
                rw [hvo] at w2
                have : y0 = y := (nI_eq (by omega) (by omega)).mp w2
                subst this
                exact noI_in.mp d3
              · exact noI_in.mp (d2.2.1 y hy (noI_in.mpr (c2 f (by omega) y hy w1 w2)))
            · funext f2
              show mX6_hold_L130 fu (mX6_hold_L101 fu M n) M (nI o) (n' + 1) (nI i) (mkR M (toR c V) f2) = _
              rw [ev, if_pos cc, hvo, d1]
              rfl
          · refine ⟨c, ⟨c1, fun f hf y hy w1 w2 => ?_⟩, ?_⟩
            · by_cases d : f = i
              · subst d; exact absurd w1 cc
              · exact c2 f (by omega) y hy w1 w2
            · funext f2
              show mX6_hold_L130 fu (mX6_hold_L101 fu M n) M (nI o) (n' + 1) (nI i) (mkR M (toR c V) f2) = _
              rw [ev, if_neg cc])
        fu B (by omega) ⟨Psh_refl B, fun f hf => absurd hf (by omega)⟩
      refine ⟨a', ?_, t1.1, fun y hy => noI_in.mpr ?_⟩
      · funext f2
        show mX6_hold_L101 fu M (n + 1) (mkR M (toR a V) f2) = _
        rw [mX6_hold_L101]
        simp (disch := omega) only [rI22, tR0, Option.bind_some, i1, nI_sub, rW22, uR0, rR23, upA_s, rl20, gl_nI, tR20]
        have e20 : upA a 0 3 (a 0 3 - 1) 20 (a 0 3 - 1) = o := by rw [upA_n _ _ (by omega)]; exact ho
        rw [e20, hB, if_neg (nI_nle (by omega) (by omega)), i0]
        exact congrFun t2 f2
      · obtain ⟨-, hy1, f, w1, w2, w3⟩ := hy
        exact t1.2 f w1 y hy1 w2 w3)
    z2 w2 (fun x _ w => absurd w (fun w => w)) a24 (fun x hx => noI_in.mpr (by
      rcases hx with ⟨n, hn, hy, a, ha, w1, w2⟩ | ⟨i, hi, w1, w2⟩
      · exact noI_in.mp (a4.2.1 x hy (noI_in.mpr (b3 (6 * n + a) (by omega) x hy w1 w2)))
      · rw [← w2]; exact b4 i hi w1)) (fun x hx => hRt_gd hW0 hx) (show 120 < fu by omega)
  refine ⟨A5, fun f2 => ?_, scr_trans s2 r2, r3, fun x hx => ?_⟩
  · unfold mX6_hold
    have e2 := congrFun h2 f2
    have e4 := congrFun h4 f2
    have e6 := congrFun h6 f2
    have e8 := congrFun r1 f2
    rw [← i0] at e2
    rw [e2, i0, e4, e6, e8]
  · rw [← noI_in, r4 x hx]
    constructor
    · intro h P p1 p2
      exact h P p1 (fun y z w1 w2 => p2 y z w1 w2.2.2)
    · intro h
      have := h (fun y => gd A N y ∧ Rch (hRt A V N) (fun x y => ¬ noI x ∧ gd A N x ∧ fH A V x y) y) (fun y hy => ⟨hRt_gd hW0 hy, Rch_root hy⟩) (fun y z w1 w2 => ⟨(fH_gd hN5 wF w1.1 w2).1, Rch_step w1.2 ⟨fun w => w, w1.1, w2⟩⟩)
      exact this.2
end HO
