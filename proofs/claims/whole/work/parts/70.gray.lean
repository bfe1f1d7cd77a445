/-! GRAY: both sides -/
def vv (fu n : Nat) : Int32 := nI fu - nI n
theorem vv_s {fu n : Nat} : vv fu (n + 1) + 1 = vv fu n := by
  unfold vv
  rw [← nI_1, Int32.sub_eq_add_neg, Int32.sub_eq_add_neg, Int32.neg_add, Int32.add_assoc, Int32.sub_eq_add_neg, Int32.add_assoc, Int32.add_left_neg, Int32.add_zero]
theorem vv_0 {fu : Nat} : vv fu fu = 0 := by
  unfold vv
  rw [Int32.sub_self]
theorem nI_s1 {n : Nat} (h : 1 ≤ n) : nI n - 1 = nI (n - 1) := by rw [i1, nI_sub h]
def gE (A : tA) (V : tV) (id x : Nat) : Prop := Rch (fun y => y = id) (fH A V) x
section GR
variable {b p N : Nat} {gn : tN} {pi : Nat → Nat} {A : tA} {V : tV} {od : Nat → Nat → Nat} {q : Nat → Nat}
theorem gE_gd {cl id x : Nat} (hW : WF A V N cl) (hid : gd A N id) (h : gE A V id x) : gd A N x := by
  obtain ⟨⟨h11, hN1, hN5⟩, wR, wF, wT, wW, wE, wM, wTo, wI⟩ := hW
  exact h (fun y => gd A N y) (fun y hy => by rw [hy]; exact hid) (fun y z h1 h2 => (fH_gd hN5 wF h1 h2).1)
theorem eC_gray {fu cl id : Nat} {gp : tV} (hfu : 2000 ≤ fu) (hp : b + 2 + 8 * N ≤ p) (hS : SIM A V N gn gp pi od q) (hW : WF A V N cl) (hid : gd A N id) :
    ∃ g1 g2 gp' m e, (∀ f1, mX1_clear fu (mkC b p N gn gp pi f1) (p + 66) = some (mkC b p N gn g1 pi f1)) ∧ (∀ f1, mX1_add (mkC b p N gn g1 pi f1) (p + 66) (nI id) = some (mkC b p N gn g2 pi f1)) ∧ (∀ f1, mX1_spread fu (mkC b p N gn g2 pi f1) (p + 66) (b + 1) = some (mkC b p N gn gp' pi f1)) ∧ MK gp' 66 m e ∧ (∀ j, j ≠ 66 → j ≠ 66 + 1 → j ≠ 66 + 2 → gp' j = gp j) ∧ SM gp' ∧ ∀ x, x < 120 → (inM gp' 66 x ↔ gE A V id x) := by
  have hW0 := hW
  obtain ⟨⟨h11, hN1, hN5⟩, wR, wF, wT, wW, wE, wM, wTo, wI⟩ := hW
  have hr : isM 66 := Or.inr (Or.inl rfl)
  have hid1 := hid.1
  obtain ⟨g1, c1, c2, c3, c4⟩ := eC_clear (b := b) (p := p) (N := N) (gn := gn) (pi := pi) hr hfu hS.2.2
  obtain ⟨g2, m2, e2, d1, d2, d3⟩ := eC_add (b := b) (p := p) (N := N) (gn := gn) (pi := pi) hr c2 (show id < 120 by omega)
  have hin : ∀ x, x < 120 → inM g2 66 x → x = id := fun x hx hi => by
    rcases Ext_out c2 d2 hx hi with w | w
    · obtain ⟨i, hi, -⟩ := (MK_in c2 hx).mp w
      omega
    · exact w
  obtain ⟨g4, m4, e4, s1, s2, s3, s4, s5, s6, s7, s8, s9⟩ := eC_spread (b := b) (pi := pi) (c := 0) hfu hp hN5 hr hS.1 wF d2.1 (by rw [d2.2.2.2.2.2, c3]; rfl) (by omega) (fun x hx hi => by rw [hin x hx hi]; exact hid) (fun j hj => absurd hj (by omega))
  have hfr : ∀ j, j ≠ 66 → j ≠ 66 + 1 → j ≠ 66 + 2 → g4 j = gp j := fun j a1 a2 a3 => by
    rw [s5 j a1 a2 a3, d2.2.2.2.2.1 j a1 a2 a3, c4 j a1 a2 a3]
  refine ⟨g1, g2, g4, m4, e4, c1, d1, s1, s2, hfr, SM_part hS.2.2 hr s2 hfr, fun x hx => ⟨fun hi P q1 q2 => ?_, fun hi => ?_⟩⟩
  · exact s9 P (fun y hy w => q1 y (hin y hy w)) (fun y z _ w1 w2 => q2 y z w1 w2) x hx hi
  · exact (hi (fun y => y < 120 ∧ inM g4 66 y) (fun y hy => by rw [hy]; exact ⟨by omega, s6 id (by omega) d3⟩) (fun y z w1 w2 => ⟨w2.1, s8 y w1.1 w1.2 z w2⟩)).2
end GR
section GF
variable {M N : Nat} {V : tV}
theorem eR_gray {fu cl id : Nat} {A : tA} (hfu : 2000 ≤ fu) (hW : WF A V N cl) (hid : gd A N id) :
    ∃ A', (∀ f2, mX6_tries fu (mkR M (toR A V) f2) M (nI id) = mX6_tries_L120 fu M (nI id) fu 0 (mkR M (toR A' V) f2)) ∧ scr A A' ∧ bl A' 21 ∧ ∀ x, x < 120 → (A' 21 x = 1 ↔ gE A V id x) := by
  have hW0 := hW
  obtain ⟨⟨h11, hN1, hN5⟩, wR, wF, wT, wW, wE, wM, wTo, wI⟩ := hW
  have hid1 := hid.1
  obtain ⟨A1, h1, h2⟩ := lupI (T := jM → Option (Int32 × jM)) (fun n i a f2 => mX6_tries_L2 fu M (nI id) n (nI i) (mkR M (toR a V) f2)) (fun a f2 => (mX6_grays (mkR M (toR (upA a 0 3 0) V) f2) M (nI id)).bind fun f4 => mX6_tries_L33 fu M (nI id) fu 0 f4) 120 (fun i a => scr A a ∧ ∀ x, x < i → a 21 x = 0)
    (by
      intro n a _
      funext f2
      rw [mX6_tries_L2, i120, if_pos (nI_le (Nat.le_refl _) (by omega))]
      simp only [i0, rW22, uR0, Option.bind_some, rchk])
    (by
      intro n i a hi ⟨a1, a2⟩
      refine ⟨upA a 21 i 0, ⟨scr_up a1 (by omega), fun x hx => ?_⟩, ?_⟩
      · rw [upA_if]; split
        · rfl
        · exact a2 x (by omega)
      · funext f2
        show mX6_tries_L2 fu M (nI id) (n + 1) (nI i) (mkR M (toR a V) f2) = _
        rw [mX6_tries_L2, i120, if_neg (nI_ge hi (by omega))]
        simp (disch := omega) only [rR24, rs21, nar0, gs_nI, Option.bind_some, nI_1]
        rw [i0, uR21])
    fu A (by omega) ⟨scr_refl A, fun x hx => absurd hx (by omega)⟩
  obtain ⟨s1, z1⟩ := h1
  generalize hA2 : upA A1 0 3 0 = A2 at *
  have s2 : scr A A2 := by rw [← hA2]; exact scr_up s1 (by omega)
  have z2 : ∀ x, x < 120 → A2 21 x = 0 := fun x hx => by rw [← hA2, upA_n _ _ (by omega)]; exact z1 x hx
  have w2 : A2 0 3 = 0 := by rw [← hA2, upA_s]
  have c2 := cr0 z2
  have bl2 : bl A2 21 := fun x hx => by rw [z2 x hx]; omega
  obtain ⟨A4, h5, a4, b4⟩ := eR_grays (M := M) (V := V) (A := A2) (show id < 120 by omega) bl2 (by omega)
  -- the stack
  obtain ⟨A5, r1, r2, r3, r4, r5, r6⟩ := stk0 (T := jM → Option (Int32 × jM)) (row := 21) (im := noI) (E := fun x y => gd A N x ∧ fH A V x y) (R := fun x => x = id) (G := gd A N) (out := fun n a f2 => mX6_tries_L33 fu M (nI id) n (vv fu n) (mkR M (toR a V) f2)) (K := fun a f2 => mX6_tries_L120 fu M (nI id) fu 0 (mkR M (toR a V) f2)) (A2 := A2) (A' := A4) (Or.inr (Or.inl rfl)) (fun x hx => by have := hx.1; omega) (fun x y hx _ hy => (fH_gd hN5 wF hx hy.2).1)
    (by
      intro n a _ h0
      funext f2
      show mX6_tries_L33 fu M (nI id) (n + 1) (vv fu (n + 1)) (mkR M (toR a V) f2) = _
      rw [mX6_tries_L33]
      simp only [rI22, tR0, Option.bind_some, h0]
      rw [if_pos (by decide)])
    (by
      intro n a q1 q2 q3 q4 q5 _
      have s : scr A a := scr_trans s2 q1
      have hcr : cr a 21 ≤ 120 := cnt_le _ _
      generalize ho : a 20 (a 0 3 - 1) = o at *
      have ho1 := q5.1
      obtain ⟨z1, z2, -⟩ := wF o q5.1 q5.2
      generalize hB : upA a 0 3 (a 0 3 - 1) = B at *
      have sB : scr A B := by rw [← hB]; exact scr_up s (by omega)
      have crB : cr B 21 = cr a 21 := by rw [← hB]; rfl
      have wB : B 0 3 = a 0 3 - 1 := by rw [← hB, upA_s]
      have blB : bl B 21 := by rw [← hB]; exact q2
      obtain ⟨a', t1, t2⟩ := lupI (T := jM → Option (Int32 × jM)) (fun n' i c f2 => mX6_tries_L66 fu (mX6_tries_L33 fu M (nI id) n) M (nI id) (vv fu n) (nI o) n' (nI i) (mkR M (toR c V) f2)) (fun c f2 => mX6_tries_L33 fu M (nI id) n (vv fu n) (mkR M (toR c V) f2)) (A 1 o) (fun i c => Psh 21 noI (fun y => gd A N o ∧ fH A V o y) B c ∧ ∀ f, f < i → ∀ y, y < 120 → A 5 (12 * o + f) = 2 → V 6 (12 * o + f) = nI y → c 21 y = 1)
        (by
          intro n' c ⟨c1, _⟩
          have sc := scr_trans sB c1.1
          funext f2
          rw [mX6_tries_L66]
          simp (disch := omega) only [rR2, rl1, gl_nI, tR1, Option.bind_some, sc 1 o (by omega) (by omega)]
          rw [if_pos (nI_le (Nat.le_refl _) (by omega))])
        (by
          intro n' i c hi ⟨c1, c2⟩
          have sc := scr_trans sB c1.1
          have hv := z2 i hi
          have ev : ∀ f2, mX6_tries_L66 fu (mX6_tries_L33 fu M (nI id) n) M (nI id) (vv fu n) (nI o) (n' + 1) (nI i) (mkR M (toR c V) f2) = if A 5 (12 * o + i) = 2 then (mX6_grays (mkR M (toR c V) f2) M (V 6 (12 * o + i))).bind fun f13 => mX6_tries_L66 fu (mX6_tries_L33 fu M (nI id) n) M (nI id) (vv fu n) (nI o) n' (nI (i + 1)) f13 else mX6_tries_L66 fu (mX6_tries_L33 fu M (nI id) n) M (nI id) (vv fu n) (nI o) n' (nI (i + 1)) (mkR M (toR c V) f2) := by
            intro f2
            rw [mX6_tries_L66]
            simp (disch := omega) only [rR2, rl1, gl_nI, tR1, Option.bind_some, sc 1 o (by omega) (by omega), i12, nI_mul, nI_add, rR6, rl5, tR5, sc 5 (12 * o + i) (by omega) (by omega), rR7, rl6, tR6, rchk, nI_1]
            rw [if_neg (nI_ge hi (by omega))]
            by_cases c : A 5 (12 * o + i) = 2
            · rw [if_pos (by rw [c]; decide), if_pos c]
            · rw [if_neg (by rw [i2]; exact fun w => c ((nI_eq (by have := okv_lt hv; omega) (by omega)).mp w)), if_neg c]
          by_cases cc : A 5 (12 * o + i) = 2
          · rw [cc] at hv
            obtain ⟨y0, hy0, hvo, -⟩ := okv_obj hv
            obtain ⟨c', d1, d2, d3⟩ := eR_grays (M := M) (V := V) (A := c) (show y0 < 120 by omega) (c1.2.2.2.2.2.2.2.1 blB) (by have := c1.2.2.2.2.2.2.1; omega)
            refine ⟨c', ⟨Psh_trans c1 d2 (fun _ w => w) (fun x w => by subst w; exact ⟨q5, by omega, i, hi, cc, hvo⟩), fun f hf y hy w1 w2 => ?_⟩, ?_⟩
            · by_cases d : f = i
              · subst d
                rw [hvo] at w2
                have : y0 = y := (nI_eq (by omega) (by omega)).mp w2
                subst this
                exact noI_in.mp d3
              · exact noI_in.mp (d2.2.1 y hy (noI_in.mpr (c2 f (by omega) y hy w1 w2)))
            · funext f2
              show mX6_tries_L66 fu (mX6_tries_L33 fu M (nI id) n) M (nI id) (vv fu n) (nI o) (n' + 1) (nI i) (mkR M (toR c V) f2) = _
              rw [ev, if_pos cc, hvo, d1]
              rfl
          · refine ⟨c, ⟨c1, fun f hf y hy w1 w2 => ?_⟩, ?_⟩
            · by_cases d : f = i
              · subst d; exact absurd w1 cc
              · exact c2 f (by omega) y hy w1 w2
            · funext f2
              show mX6_tries_L66 fu (mX6_tries_L33 fu M (nI id) n) M (nI id) (vv fu n) (nI o) (n' + 1) (nI i) (mkR M (toR c V) f2) = _
              rw [ev, if_neg cc])
        fu B (by omega) ⟨Psh_refl B, fun f hf => absurd hf (by omega)⟩
      refine ⟨a', ?_, t1.1, fun y hy => noI_in.mpr ?_⟩
      · funext f2
        show mX6_tries_L33 fu M (nI id) (n + 1) (vv fu (n + 1)) (mkR M (toR a V) f2) = _
        rw [mX6_tries_L33]
        simp (disch := omega) only [rI22, tR0, Option.bind_some, nI_s1, rW22, uR0, rR23, upA_s, rl20, gl_nI, tR20]
        have e20 : upA a 0 3 (a 0 3 - 1) 20 (a 0 3 - 1) = o := by rw [upA_n _ _ (by omega)]; exact ho
        rw [e20, hB, if_neg (nI_nle (by omega) (by omega)), vv_s, i0]
        exact congrFun t2 f2
      · obtain ⟨-, hy1, f, w1, w2, w3⟩ := hy
        exact t1.2 f w1 y hy1 w2 w3)
    z2 w2 (fun x _ w => absurd w (fun w => w)) a4 (fun x hx => by rw [hx]; exact b4) (fun x hx => by rw [hx]; exact hid) (show 120 < fu by omega)
  refine ⟨A5, fun f2 => ?_, scr_trans s2 r2, r3, fun x hx => ?_⟩
  · unfold mX6_tries
    have e2 := congrFun h2 f2
    have e8 := congrFun r1 f2
    rw [← i0] at e2
    rw [e2, h5]
    show mX6_tries_L33 fu M (nI id) fu 0 (mkR M (toR A4 V) f2) = _
    rw [vv_0] at e8
    exact e8
  · rw [← noI_in, r4 x hx]
    constructor
    · intro h P p1 p2
      exact h P p1 (fun y z w1 w2 => p2 y z w1 w2.2.2)
    · intro h
      have := h (fun y => gd A N y ∧ Rch (fun x => x = id) (fun x y => ¬ noI x ∧ gd A N x ∧ fH A V x y) y) (fun y hy => ⟨by rw [hy]; exact hid, Rch_root hy⟩) (fun y z w1 w2 => ⟨(fH_gd hN5 wF w1.1 w2).1, Rch_step w1.2 ⟨fun w => w, w1.1, w2⟩⟩)
      exact this.2
end GF
