/-! what lives in a node: both sides -/
def lRt (A : tA) (V : tV) (n x : Nat) : Prop := rH A V n x ∨ (x < 120 ∧ x / 24 = n ∧ 0 < A 3 x)
def lE (A : tA) (V : tV) (n x y : Nat) : Prop := x / 24 = n ∧ fH A V x y
theorem lRt_gd {A : tA} {V : tV} {N cl n x : Nat} (hW : WF A V N cl) (hn : n < N) (h : lRt A V n x) : gd A N x := by
  obtain ⟨⟨h11, hN1, hN5⟩, wR, wF, wT, wW, wE, wM, wTo, wI⟩ := hW
  rcases h with h | ⟨h1, h2, h3⟩
  · exact (rH_gd hN5 wR hn h).1
  · exact ⟨by omega, tot_there wT h1 h3⟩
section LI
variable {b p N : Nat} {gn : tN} {pi : Nat → Nat} {A : tA} {V : tV} {od : Nat → Nat → Nat} {q : Nat → Nat}
theorem eC_live {fu cl n : Nat} {gp : tV} (hfu : 2000 ≤ fu) (hp : b + 2 + 8 * N ≤ p) (hS : SIM A V N gn gp pi od q) (hW : WF A V N cl) (hn : n < N) :
    ∃ gp' m e, (∀ f1, mX2_markLive fu (mkC b p N gn gp pi f1) (b + 2 + 8 * n) (p + 62) = some (mkC b p N gn gp' pi f1)) ∧ MK gp' 62 m e ∧ (∀ j, j < 62 → gp' j = gp j) ∧ SM gp' ∧ ∀ x, x < 120 → (inM gp' 62 x ↔ Rch (lRt A V n) (lE A V n) x) := by
  have hW0 := hW
  obtain ⟨⟨h11, hN1, hN5⟩, wR, wF, wT, wW, wE, wM, wTo, wI⟩ := hW
  have hr : isM 62 := Or.inl rfl
  obtain ⟨hSn, -, hSM⟩ := hS
  obtain ⟨g1, c1, c2, c3, c4⟩ := eC_clear (b := b) (p := p) (N := N) (gn := gn) (pi := pi) hr hfu hSM
  obtain ⟨g2, m2, e2, d1, d2, d3⟩ := eC_markRegs (b := b) (pi := pi) hfu hp hN5 hn hr (hSn n hn) wR c2
  obtain ⟨g3, h8, h9⟩ := lupI (T := jM → Option jM) (fun n' i g f1 => mX2_markLive_L11 fu (b + 2 + 8 * n) (p + 62) n' (nI i) (mkC b p N gn g pi f1)) (fun g f1 => mX2_markLive_L46 fu (b + 2 + 8 * n) (p + 62) fu (nI 0) (mkC b p N gn g pi f1)) 24 (fun i g => ∃ m e, Ext 62 (lRt A V n) g2 m2 e2 g m e ∧ ∀ k, k < i → 0 < A 3 (24 * n + k) → inM g 62 (24 * n + k))
    (by
      intro n' g _
      funext f1
      rw [mX2_markLive_L11, i24, if_pos (nI_le (Nat.le_refl _) (by omega)), i0])
    (by
      intro n' i g hi ⟨m, e, q1, q2⟩
      have h5 := ((hSn n hn).2.2.2.1 i hi).2.2
      have hb := bndT wTo (show 24 * n + i < 120 by omega)
      have ev : ∀ f1, mX2_markLive_L11 fu (b + 2 + 8 * n) (p + 62) (n' + 1) (nI i) (mkC b p N gn g pi f1) = if 0 < A 3 (24 * n + i) then (mX1_add (mkC b p N gn g pi f1) (p + 62) (nI (24 * n + i))).bind fun f11 => mX2_markLive_L11 fu (b + 2 + 8 * n) (p + 62) n' (nI (i + 1)) f11 else mX2_markLive_L11 fu (b + 2 + 8 * n) (p + 62) n' (nI (i + 1)) (mkC b p N gn g pi f1) := by
        intro f1
        rw [mX2_markLive_L11, i24, if_neg (nI_ge hi (by omega))]
        simp (disch := omega) only [cNr5, cNl5, gl_nI, Option.bind_some, h5, cNi, eC_idOf, cMchk hr, nI_1]
        by_cases c : 0 < A 3 (24 * n + i)
        · rw [if_neg (nI_nle c (by omega)), if_pos c, show n * 24 + i = 24 * n + i by omega]
        · rw [show A 3 (24 * n + i) = 0 by omega, if_pos (by decide), if_neg (by omega)]
      by_cases c : 0 < A 3 (24 * n + i)
      · obtain ⟨g', m', e', b1, b2, b3⟩ := eC_add (b := b) (p := p) (N := N) (gn := gn) (pi := pi) hr q1.1 (show 24 * n + i < 120 by omega)
        refine ⟨g', ⟨m', e', Ext_trans q1 b2 (fun _ w => w) (fun x w => by subst w; exact Or.inr ⟨by omega, by omega, c⟩), fun j hj hj1 => ?_⟩, ?_⟩
        · by_cases d : j = i
          · subst d; exact b3
          · exact Ext_in q1.1 b2 (by omega) (q2 j (by omega) hj1)
        · funext f1
          show mX2_markLive_L11 fu (b + 2 + 8 * n) (p + 62) (n' + 1) (nI i) (mkC b p N gn g pi f1) = _
          rw [ev, if_pos c, b1]
          rfl
      · refine ⟨g, ⟨m, e, q1, fun j hj hj1 => ?_⟩, ?_⟩
        · by_cases d : j = i
          · subst d; exact absurd hj1 c
          · exact q2 j (by omega) hj1
        · funext f1
          show mX2_markLive_L11 fu (b + 2 + 8 * n) (p + 62) (n' + 1) (nI i) (mkC b p N gn g pi f1) = _
          rw [ev, if_neg c])
    fu g2 (by omega) ⟨m2, e2, Ext_refl d2.1, fun j hj => absurd hj (by omega)⟩
  obtain ⟨m3, e3, b1, b2⟩ := h8
  have hx3 : Ext 62 (lRt A V n) g1 0 (fun _ => 0) g3 m3 e3 := Ext_trans d2 b1 (fun _ w => Or.inl w) (fun _ w => w)
  have hin3 : ∀ x, x < 120 → inM g3 62 x → lRt A V n x := fun x hx hi => by
    rcases Ext_out c2 hx3 hx hi with w | w
    · obtain ⟨i, hi, -⟩ := (MK_in c2 hx).mp w
      omega
    · exact w
  obtain ⟨g4, m4, e4, r1, r2, r3, r4⟩ := wl (T := jM → Option jM) (r := 62) (E := fun x y => gd A N x ∧ lE A V n x y) (G := gd A N) (out := fun n' i g f1 => mX2_markLive_L46 fu (b + 2 + 8 * n) (p + 62) n' (nI i) (mkC b p N gn g pi f1)) (K := fun g f1 => some (mkC b p N gn g pi f1)) g3 (fun x hx => by have := hx.1; omega) (fun x y hx hy => (fH_gd hN5 wF hx hy.2.2).1)
    (by
      intro n' i g m e g1 g2
      refine ⟨fun hi => ?_, fun hi hGi => ?_⟩
      · funext f1
        have := g2.1
        show mX2_markLive_L46 fu (b + 2 + 8 * n) (p + 62) (n' + 1) (nI i) (mkC b p N gn g pi f1) = _
        rw [mX2_markLive_L46]
        simp only [cM2 hr, Option.bind_some, g2.2.1]
        rw [if_pos (nI_le (by omega) (by omega))]
      · have h120 := (g2.2.2.1 i hi).1
        have hm := g2.1
        have ev : ∀ f1, mX2_markLive_L46 fu (b + 2 + 8 * n) (p + 62) (n' + 1) (nI i) (mkC b p N gn g pi f1) = if e i / 24 = n then (mX2_markFields fu (mkC b p N gn g pi f1) (b + 2 + 8 * n) (nI (e i % 24)) (p + 62)).bind fun f21 => mX2_markLive_L46 fu (b + 2 + 8 * n) (p + 62) n' (nI (i + 1)) f21 else mX2_markLive_L46 fu (b + 2 + 8 * n) (p + 62) n' (nI (i + 1)) (mkC b p N gn g pi f1) := by
          intro f1
          rw [mX2_markLive_L46]
          simp (disch := omega) only [cM2 hr, Option.bind_some, g2.2.1, cM1 hr, cMl2 hr, gl_nI, (g2.2.2.1 i hi).2, eC_nodeOf, cNi, eC_numberOf, cchk2, nI_1]
          rw [if_neg (nI_ge hi (by omega)), i120, if_neg (nI_ge (by omega) (by omega))]
          by_cases c : e i / 24 = n
          · rw [if_pos (by rw [c]), if_pos c]
          · rw [if_neg (fun w => c ((nI_eq (by omega) (by omega)).mp w)), if_neg c]
        by_cases c : e i / 24 = n
        · obtain ⟨g', m', e', q1, q2, q3⟩ := eC_markFields (b := b) (pi := pi) (k := e i % 24) (n := n) hfu hp hN5 hn (by omega) hr (hSn n hn) wF (by rw [show 24 * n + e i % 24 = e i by omega]; exact hGi.2) g2
          rw [show 24 * n + e i % 24 = e i by omega] at q2 q3
          refine ⟨g', m', e', ?_, Ext_trans (Ext_refl g2) q2 (fun _ w => w) (fun x w => ⟨hGi, c, w⟩), fun y hy => q3 y hy.2.2⟩
          funext f1
          show mX2_markLive_L46 fu (b + 2 + 8 * n) (p + 62) (n' + 1) (nI i) (mkC b p N gn g pi f1) = _
          rw [ev, if_pos c, q1]
          rfl
        · refine ⟨g, m, e, ?_, Ext_refl g2, fun y hy => absurd hy.2.1 c⟩
          funext f1
          show mX2_markLive_L46 fu (b + 2 + 8 * n) (p + 62) (n' + 1) (nI i) (mkC b p N gn g pi f1) = _
          rw [ev, if_neg c])
    fu 0 g3 m3 e3 (by omega) (frM_refl 62 g3) b1.1 (by omega) (MK_G b1.1 (fun x hx hi => lRt_gd hW0 hn (hin3 x hx hi))) (fun j hj => absurd hj (by omega))
  have hfr : ∀ j, j ≠ 62 → j ≠ 62 + 1 → j ≠ 62 + 2 → g4 j = gp j := fun j d1 d2 d3 => by
    rw [r2.2.2.2.2.1 j d1 d2 d3, hx3.2.2.2.2.1 j d1 d2 d3, c4 j d1 d2 d3]
  have hg4 : ∀ x, x < 120 → inM g4 62 x → gd A N x := fun x hx hi => by
    rcases Ext_out b1.1 r2 hx hi with w | w
    · exact lRt_gd hW0 hn (hin3 x hx w)
    · exact w
  refine ⟨g4, m4, e4, fun f1 => ?_, r2.1, fun j hj => hfr j (by omega) (by omega) (by omega), SM_part hSM hr r2.1 hfr, fun x hx => ⟨fun hi P q1 q2 => ?_, fun hi => ?_⟩⟩
  · unfold mX2_markLive
    simp only [cMchk hr, Option.bind_some, c1, cchk2 hp hn, d1]
    rw [i0]
    have e9 := congrFun h9 f1
    have e10 := congrFun r1 f1
    rw [e9, e10]
  · exact r4 P (fun y hy w => q1 y (hin3 y hy w)) (fun y z w1 w2 => q2 y z w1 w2.2) x hx hi
  · have := hi (fun y => y < 120 ∧ inM g4 62 y) (fun y hy => ?_) (fun y z w1 w2 => ⟨w2.2.1, r3 y w1.1 w1.2 z ⟨hg4 y w1.1 w1.2, w2⟩⟩)
    · exact this.2
    · have hy2 : y < 120 := by have := (lRt_gd hW0 hn hy).1; omega
      refine ⟨hy2, Ext_in b1.1 r2 hy2 ?_⟩
      rcases hy with hy | ⟨w1, w2, w3⟩
      · exact Ext_in d2.1 b1 hy2 (d3 y hy)
      · have := b2 (y % 24) (by omega) (by rw [show 24 * n + y % 24 = y by omega]; exact w3)
        rw [show 24 * n + y % 24 = y by omega] at this
        exact this
end LI
section LR
variable {M N : Nat} {V : tV}
theorem eR_live {fu cl n : Nat} {A : tA} (hfu : 2000 ≤ fu) (hW : WF A V N cl) (hn : n < N) :
    ∃ A', (∀ f2, mX6_collects fu (mkR M (toR A V) f2) M (nI n) = mX6_collects_L207 fu M (nI n) fu (nI 0) (nI 0) (mkR M (toR A' V) f2)) ∧ scr A A' ∧ bl A' 18 ∧ bl A' 19 ∧ ∀ x, x < 120 → (inS 18 (fun y => y / 24 ≠ n) A' x ↔ Rch (lRt A V n) (lE A V n) x) := by
  have hW0 := hW
  obtain ⟨⟨h11, hN1, hN5⟩, wR, wF, wT, wW, wE, wM, wTo, wI⟩ := hW
  -- cleared
  obtain ⟨A1, h1, h2⟩ := lupI (T := jM → Option (Int32 × jM)) (fun n' i a f2 => mX6_collects_L2 fu M (nI n) n' (nI i) (mkR M (toR a V) f2)) (fun a f2 => mX6_collects_L35 fu M (nI n) fu (nI 0) (mkR M (toR (upA a 0 3 0) V) f2)) 120 (fun i a => scr A a ∧ ∀ x, x < i → a 18 x = 0 ∧ a 19 x = 0)
    (by
      intro n' a _
      funext f2
      rw [mX6_collects_L2, i120, if_pos (nI_le (Nat.le_refl _) (by omega))]
      simp only [i0, rW22, uR0, Option.bind_some])
    (by
      intro n' i a hi ⟨a1, a2⟩
      refine ⟨upA (upA a 18 i 0) 19 i 0, ⟨scr_up (scr_up a1 (by omega)) (by omega), fun x hx => ?_⟩, ?_⟩
      · rw [upA_n _ _ (by omega), upA_if, upA_if]
        by_cases c : x = i
        · rw [if_pos c, if_pos c]; exact ⟨rfl, rfl⟩
        · rw [if_neg c, if_neg c, upA_n _ _ (by omega)]
          exact a2 x (by omega)
      · funext f2
        show mX6_collects_L2 fu M (nI n) (n' + 1) (nI i) (mkR M (toR a V) f2) = _
        rw [mX6_collects_L2, i120, if_neg (nI_ge hi (by omega))]
        simp (disch := omega) only [rR20, rs18, nar0, gs_nI, Option.bind_some, nI_1, i0, uR18, rR21, rs19, uR19]
        rw [← i0, nar0, i0]
        simp (disch := omega) only [uR18, uR19, rR21, rs19, gs_nI, Option.bind_some])
    fu A (by omega) ⟨scr_refl A, fun x hx => absurd hx (by omega)⟩
  obtain ⟨s1, z1⟩ := h1
  generalize hA2 : upA A1 0 3 0 = A2 at *
  have s2 : scr A A2 := by rw [← hA2]; exact scr_up s1 (by omega)
  have z2 : ∀ x, x < 120 → A2 18 x = 0 := fun x hx => by rw [← hA2, upA_n _ _ (by omega)]; exact (z1 x hx).1
  have z3 : ∀ x, x < 120 → A2 19 x = 0 := fun x hx => by rw [← hA2, upA_n _ _ (by omega)]; exact (z1 x hx).2
  have w2 : A2 0 3 = 0 := by rw [← hA2, upA_s]
  have c2 := cr0 z2
  have bl2 : bl A2 18 := fun x hx => by rw [z2 x hx]; omega
  have hpre : ∀ Y a, Psh 18 (fun y => y / 24 ≠ n) Y A2 a → scr A a ∧ bl a 18 ∧ a 0 3 ≤ cr a 18 := fun Y a h => ⟨scr_trans s2 h.1, h.2.2.2.2.2.2.2.1 bl2, by have := h.2.2.2.2.2.2.1; omega⟩
  have e7 : ∀ a, scr A a → ∀ i, a 7 i = A 7 i := fun a h i => h 7 i (by omega) (by omega)
  -- registers
  obtain ⟨A3, h3, h4⟩ := lupI (T := jM → Option (Int32 × jM)) (fun n' i a f2 => mX6_collects_L35 fu M (nI n) n' (nI i) (mkR M (toR a V) f2)) (fun a f2 => mX6_collects_L76 fu M (nI n) fu (nI 0) (mkR M (toR a V) f2)) 6 (fun i a => Psh 18 (fun y => y / 24 ≠ n) (lRt A V n) A2 a ∧ ∀ j, j < i → ∀ y, y < 120 → A 7 (6 * n + j) = 2 → V 8 (6 * n + j) = nI y → inS 18 (fun y => y / 24 ≠ n) a y)
    (by
      intro n' a _
      funext f2
      rw [mX6_collects_L35, i6, if_pos (nI_le (Nat.le_refl _) (by omega)), i0])
    (by
      intro n' i a hi ⟨a1, a2⟩
      obtain ⟨q1, q2, q3⟩ := hpre _ a a1
      have hv := wR n i hn hi
      have ev : ∀ f2, mX6_collects_L35 fu M (nI n) (n' + 1) (nI i) (mkR M (toR a V) f2) = (mX6_marks (mkR M (toR a V) f2) M (nI n) (nI (A 7 (6 * n + i))) (V 8 (6 * n + i))).bind fun f13 => mX6_collects_L35 fu M (nI n) n' (nI (i + 1)) f13 := by
        intro f2
        rw [mX6_collects_L35, i6, if_neg (nI_ge hi (by omega))]
        simp (disch := omega) only [Option.bind_some, nI_mul, nI_add, rR8, rl7, gl_nI, tR7, e7 a q1, rR9, rl8, tR8, rchk, nI_1]
      by_cases c : A 7 (6 * n + i) = 2
      · rw [c] at hv
        obtain ⟨o, ho, hvo, -⟩ := okv_obj hv
        obtain ⟨a', b1, b2, b3⟩ := eR_marks (M := M) (V := V) (A := a) (n := n) (by omega) (show o < 120 by omega) q2 q3
        refine ⟨a', ⟨Psh_trans a1 b2 (fun _ w => w) (fun x w => by subst w; exact Or.inl ⟨by omega, i, hi, c, hvo⟩), fun j hj y hy w1 w2 => ?_⟩, ?_⟩
        · by_cases d : j = i
          · subst d
            rw [hvo] at w2
            have : o = y := (nI_eq (by omega) (by omega)).mp w2
            subst this
            exact b3
          · exact b2.2.1 y hy (a2 j (by omega) y hy w1 w2)
        · funext f2
          show mX6_collects_L35 fu M (nI n) (n' + 1) (nI i) (mkR M (toR a V) f2) = _
          rw [ev, c, hvo, b1]
          rfl
      · refine ⟨a, ⟨a1, fun j hj y hy w1 w2 => ?_⟩, ?_⟩
        · by_cases d : j = i
          · subst d; exact absurd w1 c
          · exact a2 j (by omega) y hy w1 w2
        · funext f2
          show mX6_collects_L35 fu M (nI n) (n' + 1) (nI i) (mkR M (toR a V) f2) = _
          rw [ev, eR_marksX (okv_lt hv) c]
          rfl)
    fu A2 (by omega) ⟨Psh_refl A2, fun j hj => absurd hj (by omega)⟩
  obtain ⟨a3, b3⟩ := h3
  -- totals
  obtain ⟨A4, h5, h6⟩ := lupI (T := jM → Option (Int32 × jM)) (fun n' i a f2 => mX6_collects_L76 fu M (nI n) n' (nI i) (mkR M (toR a V) f2)) (fun a f2 => mX6_collects_L128 fu M (nI n) fu (mkR M (toR a V) f2)) 24 (fun i a => Psh 18 (fun y => y / 24 ≠ n) (lRt A V n) A3 a ∧ ∀ k, k < i → 0 < A 3 (24 * n + k) → inS 18 (fun y => y / 24 ≠ n) a (24 * n + k))
    (by
      intro n' a _
      funext f2
      rw [mX6_collects_L76, i24, if_pos (nI_le (Nat.le_refl _) (by omega))])
    (by
      intro n' i a hi ⟨a1, a2⟩
      obtain ⟨q1, q2, q3⟩ := hpre _ a (Psh_trans a3 a1 (fun _ w => w) (fun _ w => w) : Psh 18 (fun y => y / 24 ≠ n) (lRt A V n) A2 a)
      have hb := bndT wTo (show 24 * n + i < 120 by omega)
      have ht := wT (24 * n + i) (by omega)
      have ev : ∀ f2, mX6_collects_L76 fu M (nI n) (n' + 1) (nI i) (mkR M (toR a V) f2) = if 0 < A 3 (24 * n + i) then (mX6_marks (mkR M (toR a V) f2) M (nI n) (nI 2) (nI (24 * n + i))).bind fun f13 => mX6_collects_L76 fu M (nI n) n' (nI (i + 1)) f13 else mX6_collects_L76 fu M (nI n) n' (nI (i + 1)) (mkR M (toR a V) f2) := by
        intro f2
        rw [mX6_collects_L76, i24, if_neg (nI_ge hi (by omega))]
        simp (disch := omega) only [Option.bind_some, nI_mul, nI_add, rR5, rl4, gl_nI, tR4, q1 4 (24 * n + i) (by omega) (by omega), rR4, rl3, tR3, q1 3 (24 * n + i) (by omega) (by omega), rchk, nI_1, i2]
        by_cases c : 0 < A 3 (24 * n + i)
        · have h4 : A 4 (24 * n + i) = 1 := by rcases ht with w | w <;> omega
          rw [h4, if_neg (by decide), if_neg (nI_nle c (by omega)), if_pos c]
        · rw [if_neg c, show A 3 (24 * n + i) = 0 by omega]
          split
          · rfl
          · rw [if_pos (by decide)]
      by_cases c : 0 < A 3 (24 * n + i)
      · obtain ⟨a', d1, d2, d3⟩ := eR_marks (M := M) (V := V) (A := a) (n := n) (by omega) (show 24 * n + i < 120 by omega) q2 q3
        refine ⟨a', ⟨Psh_trans a1 d2 (fun _ w => w) (fun x w => by subst w; exact Or.inr ⟨by omega, by omega, c⟩), fun j hj w1 => ?_⟩, ?_⟩
        · by_cases d : j = i
          · subst d; exact d3
          · exact d2.2.1 _ (by omega) (a2 j (by omega) w1)
        · funext f2
          show mX6_collects_L76 fu M (nI n) (n' + 1) (nI i) (mkR M (toR a V) f2) = _
          rw [ev, if_pos c, d1]
          rfl
      · refine ⟨a, ⟨a1, fun j hj w1 => ?_⟩, ?_⟩
        · by_cases d : j = i
          · subst d; exact absurd w1 c
          · exact a2 j (by omega) w1
        · funext f2
          show mX6_collects_L76 fu M (nI n) (n' + 1) (nI i) (mkR M (toR a V) f2) = _
          rw [ev, if_neg c])
    fu A3 (by omega) ⟨Psh_refl A3, fun j hj => absurd hj (by omega)⟩
  obtain ⟨a4, b4⟩ := h5
  have a24 : Psh 18 (fun y => y / 24 ≠ n) (lRt A V n) A2 A4 := Psh_trans a3 a4 (fun _ w => w) (fun _ w => w)
  -- the stack
  obtain ⟨A5, r1, r2, r3, r4, r5, r6⟩ := stk0 (T := jM → Option (Int32 × jM)) (row := 18) (im := fun y => y / 24 ≠ n) (E := fun x y => gd A N x ∧ fH A V x y) (R := lRt A V n) (G := gd A N) (out := fun n' a f2 => mX6_collects_L128 fu M (nI n) n' (mkR M (toR a V) f2)) (K := fun a f2 => mX6_collects_L207 fu M (nI n) fu (nI 0) (nI 0) (mkR M (toR a V) f2)) (A2 := A2) (A' := A4) (Or.inl rfl) (fun x hx => by have := hx.1; omega) (fun x y hx _ hy => (fH_gd hN5 wF hx hy.2).1)
    (by
      intro n' a _ h0
      funext f2
      show mX6_collects_L128 fu M (nI n) (n' + 1) (mkR M (toR a V) f2) = _
      rw [mX6_collects_L128]
      simp only [rI22, tR0, Option.bind_some, h0]
      rw [if_pos (by decide), i0])
    (by
      intro n' a q1 q2 q3 q4 q5 _
      have s : scr A a := scr_trans s2 q1
      have hcr : cr a 18 ≤ 120 := cnt_le _ _
      generalize ho : a 20 (a 0 3 - 1) = o at *
      have ho1 := q5.1
      obtain ⟨z1, z2, -⟩ := wF o q5.1 q5.2
      generalize hB : upA a 0 3 (a 0 3 - 1) = B at *
      have sB : scr A B := by rw [← hB]; exact scr_up s (by omega)
      have crB : cr B 18 = cr a 18 := by rw [← hB]; rfl
      have wB : B 0 3 = a 0 3 - 1 := by rw [← hB, upA_s]
      have blB : bl B 18 := by rw [← hB]; exact q2
      obtain ⟨a', t1, t2⟩ := lupI (T := jM → Option (Int32 × jM)) (fun n2 i c f2 => mX6_collects_L157 fu (mX6_collects_L128 fu M (nI n) n') M (nI n) (nI o) n2 (nI i) (mkR M (toR c V) f2)) (fun c f2 => mX6_collects_L128 fu M (nI n) n' (mkR M (toR c V) f2)) (A 1 o) (fun i c => Psh 18 (fun y => y / 24 ≠ n) (fun y => gd A N o ∧ fH A V o y) B c ∧ ∀ f, f < i → ∀ y, y < 120 → A 5 (12 * o + f) = 2 → V 6 (12 * o + f) = nI y → inS 18 (fun y => y / 24 ≠ n) c y)
        (by
          intro n2 c ⟨c1, _⟩
          have sc := scr_trans sB c1.1
          funext f2
          rw [mX6_collects_L157]
          simp (disch := omega) only [rR2, rl1, gl_nI, tR1, Option.bind_some, sc 1 o (by omega) (by omega)]
          rw [if_pos (nI_le (Nat.le_refl _) (by omega))])
        (by
          intro n2 i c hi ⟨c1, c2⟩
          have sc := scr_trans sB c1.1
          have hv := z2 i hi
          have ev : ∀ f2, mX6_collects_L157 fu (mX6_collects_L128 fu M (nI n) n') M (nI n) (nI o) (n2 + 1) (nI i) (mkR M (toR c V) f2) = (mX6_marks (mkR M (toR c V) f2) M (nI n) (nI (A 5 (12 * o + i))) (V 6 (12 * o + i))).bind fun f13 => mX6_collects_L157 fu (mX6_collects_L128 fu M (nI n) n') M (nI n) (nI o) n2 (nI (i + 1)) f13 := by
            intro f2
            rw [mX6_collects_L157]
            simp (disch := omega) only [rR2, rl1, gl_nI, tR1, Option.bind_some, sc 1 o (by omega) (by omega), i12, nI_mul, nI_add, rR6, rl5, tR5, sc 5 (12 * o + i) (by omega) (by omega), rR7, rl6, tR6, rchk, nI_1]
            rw [if_neg (nI_ge hi (by omega))]
          by_cases cc : A 5 (12 * o + i) = 2
          · rw [cc] at hv
            obtain ⟨y0, hy0, hvo, -⟩ := okv_obj hv
            obtain ⟨c', d1, d2, d3⟩ := eR_marks (M := M) (V := V) (A := c) (n := n) (by omega) (show y0 < 120 by omega) (c1.2.2.2.2.2.2.2.1 blB) (by have := c1.2.2.2.2.2.2.1; omega)
            refine ⟨c', ⟨Psh_trans c1 d2 (fun _ w => w) (fun x w => by subst w; exact ⟨q5, by omega, i, hi, cc, hvo⟩), fun f hf y hy w1 w2 => ?_⟩, ?_⟩
            · by_cases d : f = i
              · subst d
                rw [hvo] at w2
                have : y0 = y := (nI_eq (by omega) (by omega)).mp w2
                subst this
                exact d3
              · exact d2.2.1 y hy (c2 f (by omega) y hy w1 w2)
            · funext f2
              show mX6_collects_L157 fu (mX6_collects_L128 fu M (nI n) n') M (nI n) (nI o) (n2 + 1) (nI i) (mkR M (toR c V) f2) = _
              rw [ev, cc, hvo, d1]
              rfl
          · refine ⟨c, ⟨c1, fun f hf y hy w1 w2 => ?_⟩, ?_⟩
            · by_cases d : f = i
              · subst d; exact absurd w1 cc
              · exact c2 f (by omega) y hy w1 w2
            · funext f2
              show mX6_collects_L157 fu (mX6_collects_L128 fu M (nI n) n') M (nI n) (nI o) (n2 + 1) (nI i) (mkR M (toR c V) f2) = _
              rw [ev, eR_marksX (okv_lt hv) cc]
              rfl)
        fu B (by omega) ⟨Psh_refl B, fun f hf => absurd hf (by omega)⟩
      refine ⟨a', ?_, t1.1, fun y hy => ?_⟩
      · funext f2
        show mX6_collects_L128 fu M (nI n) (n' + 1) (mkR M (toR a V) f2) = _
        rw [mX6_collects_L128]
        simp (disch := omega) only [rI22, tR0, Option.bind_some, i1, nI_sub, rW22, uR0, rR23, upA_s, rl20, gl_nI, tR20]
        have e20 : upA a 0 3 (a 0 3 - 1) 20 (a 0 3 - 1) = o := by rw [upA_n _ _ (by omega)]; exact ho
        rw [e20, hB, if_neg (nI_nle (by omega) (by omega)), i0]
        exact congrFun t2 f2
      · obtain ⟨-, hy1, f, w1, w2, w3⟩ := hy
        exact t1.2 f w1 y hy1 w2 w3)
    z2 w2 (fun x hx _ => z3 x hx) a24 (fun x hx => by
      rcases hx with ⟨hy, a, ha, w1, w2⟩ | ⟨w1, w2, w3⟩
      · exact a4.2.1 x hy (b3 a ha x hy w1 w2)
      · have := b4 (x % 24) (by omega) (by rw [show 24 * n + x % 24 = x by omega]; exact w3)
        rw [show 24 * n + x % 24 = x by omega] at this
        exact this) (fun x hx => lRt_gd hW0 hn hx) (show 120 < fu by omega)
  refine ⟨A5, fun f2 => ?_, scr_trans s2 r2, r3, ?_, fun x hx => ?_⟩
  · unfold mX6_collects
    have e2 := congrFun h2 f2
    have e4 := congrFun h4 f2
    have e6 := congrFun h6 f2
    have e8 := congrFun r1 f2
    rw [← i0] at e2
    rw [e2, i0, e4, e6, e8, ← i0]
  · exact r6.2 (fun x hx => by rw [z3 x hx]; omega)
  · rw [r4 x hx]
    constructor
    · intro h P p1 p2
      exact h P p1 (fun y z w1 w2 => p2 y z w1 ⟨Classical.not_not.mp w2.1, w2.2.2⟩)
    · intro h
      have := h (fun y => gd A N y ∧ Rch (lRt A V n) (fun x y => ¬ x / 24 ≠ n ∧ gd A N x ∧ fH A V x y) y) (fun y hy => ⟨lRt_gd hW0 hn hy, Rch_root hy⟩) (fun y z w1 w2 => ⟨(fH_gd hN5 wF w1.1 w2.2).1, Rch_step w1.2 ⟨fun w => w w2.1, w1.1, w2.2⟩⟩)
      exact this.2
end LR
