/-! what holds what -/
def fH (A : tA) (V : tV) (o y : Nat) : Prop := y < 120 ∧ ∃ f, f < A 1 o ∧ A 5 (12 * o + f) = 2 ∧ V 6 (12 * o + f) = nI y
def rH (A : tA) (V : tV) (n y : Nat) : Prop := y < 120 ∧ ∃ a, a < 6 ∧ A 7 (6 * n + a) = 2 ∧ V 8 (6 * n + a) = nI y
def gd (A : tA) (N x : Nat) : Prop := x < 24 * N ∧ A 4 x = 1
theorem fH_gd {A : tA} {V : tV} {N o y : Nat} (hN : N ≤ 5) (h : wFld A V N) (ho : gd A N o) (hy : fH A V o y) : gd A N y ∧ (y / 24 = o / 24 ∨ 0 < A 9 (120 * (o / 24) + y)) := by
  obtain ⟨h1, f, h2, h3, h4⟩ := hy
  have := (h o ho.1 ho.2).2.1 f h2
  rw [h3] at this
  obtain ⟨o', q1, q2, q3, q4⟩ := okv_obj this
  rw [h4] at q2
  have : y = o' := (nI_eq (by omega) (by omega)).mp q2
  subst this
  exact ⟨⟨q1, q3⟩, q4⟩
theorem rH_gd {A : tA} {V : tV} {N n y : Nat} (hN : N ≤ 5) (h : wReg A V N) (hn : n < N) (hy : rH A V n y) : gd A N y ∧ (y / 24 = n ∨ 0 < A 9 (120 * n + y)) := by
  obtain ⟨h1, f, h2, h3, h4⟩ := hy
  have := h n f hn h2
  rw [h3] at this
  obtain ⟨o', q1, q2, q3, q4⟩ := okv_obj this
  rw [h4] at q2
  have : y = o' := (nI_eq (by omega) (by omega)).mp q2
  subst this
  exact ⟨⟨q1, q3⟩, q4⟩
section WL
variable {b p N : Nat} {gn : tN} {gp : tV} {pi : Nat → Nat} {A : tA} {V : tV}
theorem eC_markFields {fu n k r m q : Nat} {e od : Nat → Nat} (hfu : 2000 ≤ fu) (hp : b + 2 + 8 * N ≤ p) (hN : N ≤ 5) (hn : n < N) (hk : k < 24) (hr : isM r) (hS : SN A V n gn od q) (hF : wFld A V N) (ht : A 4 (24 * n + k) = 1) (h : MK gp r m e) : ∃ gp' m' e', (∀ f1, mX2_markFields fu (mkC b p N gn gp pi f1) (b + 2 + 8 * n) (nI k) (p + r) = some (mkC b p N gn gp' pi f1)) ∧ Ext r (fH A V (24 * n + k)) gp m e gp' m' e' ∧ ∀ y, fH A V (24 * n + k) y → inM gp' r y := by
  obtain ⟨z1, z2, -⟩ := hF (24 * n + k) (by omega) ht
  have hs := ((hS.2.2.2.1 k hk).1 ht).1
  obtain ⟨gp', h6, h7⟩ := lupI (T := jM → Option jM) (fun n' i g f1 => mX2_markFields_L2 fu (b + 2 + 8 * n) (nI k) (p + r) n' (nI i) (mkC b p N gn g pi f1)) (fun g f1 => some (mkC b p N gn g pi f1)) (A 1 (24 * n + k)) (fun i g => ∃ m' e', Ext r (fH A V (24 * n + k)) gp m e g m' e' ∧ ∀ f, f < i → ∀ y, y < 120 → A 5 (12 * (24 * n + k) + f) = 2 → V 6 (12 * (24 * n + k) + f) = nI y → inM g r y)
    (by
      intro n' g _
      funext f1
      rw [mX2_markFields_L2]
      simp (disch := omega) only [cNr3, cNl3, gl_nI, Option.bind_some, hs]
      rw [if_pos (nI_le (Nat.le_refl _) (by omega))])
    (by
      intro n' i g hi ⟨m', e', g1, g2⟩
      have hv := z2 i hi
      have hsl := hS.2.1 k i hk (by omega) ht
      have hval := ckd_obj hv hN
      rw [show (24 * n + k) / 24 = n by omega] at hval
      rw [← hsl.1] at hval
      have ev : ∀ f1, mX2_markFields_L2 fu (b + 2 + 8 * n) (nI k) (p + r) (n' + 1) (nI i) (mkC b p N gn g pi f1) = if A 5 (12 * (24 * n + k) + i) = 2 then (mX1_add (mkC b p N gn g pi f1) (p + r) (V 6 (12 * (24 * n + k) + i))).bind fun f11 => mX2_markFields_L2 fu (b + 2 + 8 * n) (nI k) (p + r) n' (nI (i + 1)) f11 else mX2_markFields_L2 fu (b + 2 + 8 * n) (nI k) (p + r) n' (nI (i + 1)) (mkC b p N gn g pi f1) := by
        intro f1
        rw [mX2_markFields_L2]
        simp (disch := omega) only [cNr3, cNl3, gl_nI, Option.bind_some, hs, eC_fieldSlot, cchk2, eC_holdsObject, cNr2, cNl2, cMchk hr, nI_1]
        rw [if_neg (nI_ge hi (by omega)), show 6 + k * 12 + i = 6 + 12 * k + i by omega, hsl.2]
        by_cases c : A 5 (12 * (24 * n + k) + i) = 2
        · rw [if_pos (hval.mpr c), if_neg (by decide), if_pos c]
        · rw [if_neg (fun w => c (hval.mp w)), if_pos rfl, if_neg c]
      by_cases c : A 5 (12 * (24 * n + k) + i) = 2
      · rw [c] at hv
        obtain ⟨o, ho, hvo, -⟩ := okv_obj hv
        obtain ⟨g', m2, e2, a1, a2, a3⟩ := eC_add (b := b) (p := p) (N := N) (gn := gn) (pi := pi) hr g1.1 (show o < 120 by omega)
        refine ⟨g', ⟨m2, e2, Ext_trans g1 a2 (fun _ q => q) (fun x q => by subst q; exact ⟨by omega, i, hi, c, hvo⟩), fun f hf y hy q1 q2 => ?_⟩, ?_⟩
        · by_cases d : f = i
          · subst d
            rw [hvo] at q2
            have : o = y := (nI_eq (by omega) (by omega)).mp q2
            subst this
            exact a3
          · exact Ext_in g1.1 a2 hy (g2 f (by omega) y hy q1 q2)
        · funext f1
          show mX2_markFields_L2 fu (b + 2 + 8 * n) (nI k) (p + r) (n' + 1) (nI i) (mkC b p N gn g pi f1) = _
          rw [ev, if_pos c, hvo, a1]
          rfl
      · refine ⟨g, ⟨m', e', g1, fun f hf y hy q1 q2 => ?_⟩, ?_⟩
        · by_cases d : f = i
          · subst d; exact absurd q1 c
          · exact g2 f (by omega) y hy q1 q2
        · funext f1
          show mX2_markFields_L2 fu (b + 2 + 8 * n) (nI k) (p + r) (n' + 1) (nI i) (mkC b p N gn g pi f1) = _
          rw [ev, if_neg c])
    fu gp (by omega) ⟨m, e, Ext_refl h, fun f hf => absurd hf (by omega)⟩
  obtain ⟨m', e', g1, g2⟩ := h6
  refine ⟨gp', m', e', fun f1 => ?_, g1, fun y ⟨hy, f, q1, q2, q3⟩ => g2 f q1 y hy q2 q3⟩
  unfold mX2_markFields
  rw [i0]
  exact congrFun h7 f1
theorem eC_markRegs {fu n r m q : Nat} {e od : Nat → Nat} (hfu : 2000 ≤ fu) (hp : b + 2 + 8 * N ≤ p) (hN : N ≤ 5) (hn : n < N) (hr : isM r) (hS : SN A V n gn od q) (hR : wReg A V N) (h : MK gp r m e) : ∃ gp' m' e', (∀ f1, mX2_markRegisters fu (mkC b p N gn gp pi f1) (b + 2 + 8 * n) (p + r) = some (mkC b p N gn gp' pi f1)) ∧ Ext r (rH A V n) gp m e gp' m' e' ∧ ∀ y, rH A V n y → inM gp' r y := by
  obtain ⟨gp', h6, h7⟩ := lupI (T := jM → Option jM) (fun n' i g f1 => mX2_markRegisters_L2 fu (b + 2 + 8 * n) (p + r) n' (nI i) (mkC b p N gn g pi f1)) (fun g f1 => some (mkC b p N gn g pi f1)) 6 (fun i g => ∃ m' e', Ext r (rH A V n) gp m e g m' e' ∧ ∀ f, f < i → ∀ y, y < 120 → A 7 (6 * n + f) = 2 → V 8 (6 * n + f) = nI y → inM g r y)
    (by
      intro n' g _
      funext f1
      rw [mX2_markRegisters_L2, i6]
      rw [if_pos (nI_le (Nat.le_refl _) (by omega))])
    (by
      intro n' i g hi ⟨m', e', g1, g2⟩
      have hv := hR n i hn hi
      have hsl := hS.1 i hi
      have hval := ckd_obj hv hN
      rw [← hsl.1] at hval
      have ev : ∀ f1, mX2_markRegisters_L2 fu (b + 2 + 8 * n) (p + r) (n' + 1) (nI i) (mkC b p N gn g pi f1) = if A 7 (6 * n + i) = 2 then (mX1_add (mkC b p N gn g pi f1) (p + r) (V 8 (6 * n + i))).bind fun f11 => mX2_markRegisters_L2 fu (b + 2 + 8 * n) (p + r) n' (nI (i + 1)) f11 else mX2_markRegisters_L2 fu (b + 2 + 8 * n) (p + r) n' (nI (i + 1)) (mkC b p N gn g pi f1) := by
        intro f1
        rw [mX2_markRegisters_L2, i6]
        simp (disch := omega) only [gl_nI, Option.bind_some, cchk2, eC_holdsObject, cNr2, cNl2, cMchk hr, nI_1]
        rw [if_neg (nI_ge hi (by omega)), hsl.2]
        by_cases c : A 7 (6 * n + i) = 2
        · rw [if_pos (hval.mpr c), if_neg (by decide), if_pos c]
        · rw [if_neg (fun w => c (hval.mp w)), if_pos rfl, if_neg c]
      by_cases c : A 7 (6 * n + i) = 2
      · rw [c] at hv
        obtain ⟨o, ho, hvo, -⟩ := okv_obj hv
        obtain ⟨g', m2, e2, a1, a2, a3⟩ := eC_add (b := b) (p := p) (N := N) (gn := gn) (pi := pi) hr g1.1 (show o < 120 by omega)
        refine ⟨g', ⟨m2, e2, Ext_trans g1 a2 (fun _ q => q) (fun x q => by subst q; exact ⟨by omega, i, hi, c, hvo⟩), fun f hf y hy q1 q2 => ?_⟩, ?_⟩
        · by_cases d : f = i
          · subst d
            rw [hvo] at q2
            have : o = y := (nI_eq (by omega) (by omega)).mp q2
            subst this
            exact a3
          · exact Ext_in g1.1 a2 hy (g2 f (by omega) y hy q1 q2)
        · funext f1
          show mX2_markRegisters_L2 fu (b + 2 + 8 * n) (p + r) (n' + 1) (nI i) (mkC b p N gn g pi f1) = _
          rw [ev, if_pos c, hvo, a1]
          rfl
      · refine ⟨g, ⟨m', e', g1, fun f hf y hy q1 q2 => ?_⟩, ?_⟩
        · by_cases d : f = i
          · subst d; exact absurd q1 c
          · exact g2 f (by omega) y hy q1 q2
        · funext f1
          show mX2_markRegisters_L2 fu (b + 2 + 8 * n) (p + r) (n' + 1) (nI i) (mkC b p N gn g pi f1) = _
          rw [ev, if_neg c])
    fu gp (by omega) ⟨m, e, Ext_refl h, fun f hf => absurd hf (by omega)⟩
  obtain ⟨m', e', g1, g2⟩ := h6
  refine ⟨gp', m', e', fun f1 => ?_, g1, fun y ⟨hy, f, q1, q2, q3⟩ => g2 f q1 y hy q2 q3⟩
  unfold mX2_markRegisters
  rw [i0]
  exact congrFun h7 f1
end WL
/-- the class's row of marks, gone through while it grows -/
theorem wl {T : Type} {r : Nat} {E : Nat → Nat → Prop} {G : Nat → Prop} {out : Nat → Nat → tV → T} {K : tV → T} (g0 : tV) (hG : ∀ x, G x → x < 120) (hE : ∀ x y, G x → E x y → G y)
    (hstep : ∀ n i g m e, frM r g0 g → MK g r m e → (i = m → out (n + 1) i g = K g) ∧ (i < m → G (e i) → ∃ g' m' e', out (n + 1) i g = out n (i + 1) g' ∧ Ext r (E (e i)) g m e g' m' e' ∧ ∀ y, E (e i) y → inM g' r y)) :
    ∀ n i g m e, 120 < n + i → frM r g0 g → MK g r m e → i ≤ m → (∀ j, j < m → G (e j)) → (∀ j, j < i → ∀ y, E (e j) y → inM g r y) → ∃ g' m' e', out n i g = K g' ∧ Ext r G g m e g' m' e' ∧ (∀ x, x < 120 → inM g' r x → ∀ y, E x y → inM g' r y) ∧ ∀ P : Nat → Prop, (∀ x, x < 120 → inM g r x → P x) → (∀ x y, P x → E x y → P y) → ∀ x, x < 120 → inM g' r x → P x := by
  intro n
  induction n with
  | zero =>
    intro i g m e h1 _ h2 h3
    have := h2.1
    omega
  | succ n ih =>
    intro i g m e h1 h2 h3 h4 h5 h6
    obtain ⟨s1, s2⟩ := hstep n i g m e h2 h3
    by_cases c : m ≤ i
    · refine ⟨g, m, e, s1 (by omega), Ext_refl h3, fun x hx hi y hy => ?_, fun P p1 p2 x hx hi => p1 x hx hi⟩
      obtain ⟨j, hj, hjx⟩ := (MK_in h3 hx).mp hi
      subst hjx
      exact h6 j (by omega) y hy
    · obtain ⟨g', m', e', q1, q2, q3⟩ := s2 (by omega) (h5 i (by omega))
      have hG' : ∀ j, j < m' → G (e' j) := fun j hj => by
        by_cases d : j < m
        · rw [q2.2.2.1 j d]; exact h5 j d
        · exact hE _ _ (h5 i (by omega)) (q2.2.2.2.1 j (by omega) hj)
      obtain ⟨g2, m2, e2, r1, r2, r3, r4⟩ := ih (i + 1) g' m' e' (by omega) (frM_trans h2 q2.2.2.2.2) q2.1 (by have := q2.2.1; omega) hG' (fun j hj y hy => by
        rw [q2.2.2.1 j (by omega)] at hy
        by_cases d : j = i
        · subst d; exact q3 y hy
        · exact Ext_in h3 q2 (hG _ (hE _ _ (h5 j (by omega)) hy)) (h6 j (by omega) y hy))
      refine ⟨g2, m2, e2, q1.trans r1, ?_, r3, fun P p1 p2 => r4 P (fun x hx hi => ?_) p2⟩
      · exact Ext_trans (Y2 := G) q2 r2 (fun x hx => hE _ _ (h5 i (by omega)) hx) (fun x hx => hx)
      · rcases Ext_out h3 q2 hx hi with d | d
        · exact p1 x hx d
        · exact p2 (e i) x (p1 _ (hG _ (h5 i (by omega))) ((MK_in h3 (hG _ (h5 i (by omega)))).mpr ⟨i, by omega, rfl⟩)) d
