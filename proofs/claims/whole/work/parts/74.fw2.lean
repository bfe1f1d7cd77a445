/-! the class finds WITHOUT: from outside, then in rounds -/
def sL (gn : tN) (n s x : Nat) : Prop := gn n 1 s = 2 ∧ gn n 2 s = nI x
def lOn (A : tA) (V : tV) (N : Nat) (Gr : Nat → Prop) (n x : Nat) : Prop := x < 120 ∧ Gr x ∧ x / 24 = n ∧ (rH A V n x ∨ ∃ o, gd A N o ∧ o / 24 = n ∧ ¬ Gr o ∧ fH A V o x)
theorem lO_n {A : tA} {V : tV} {N : Nat} {Gr : Nat → Prop} {x : Nat} : lO A V N Gr x ↔ ∃ n, n < N ∧ lOn A V N Gr n x := by
  constructor
  · rintro ⟨h1, h2, h3⟩
    rcases h3 with ⟨n, w1, w2, w3⟩ | ⟨o, w1, w2, w3, w4⟩
    · exact ⟨n, w1, h1, h2, w3, Or.inl w2⟩
    · exact ⟨o / 24, by have := w1.1; omega, h1, h2, w4, Or.inr ⟨o, w1, rfl, w2, w3⟩⟩
  · rintro ⟨n, hn, h1, h2, h3, h4⟩
    refine ⟨h1, h2, ?_⟩
    rcases h4 with w | ⟨o, w1, w2, w3, w4⟩
    · exact Or.inl ⟨n, hn, w, h3⟩
    · exact Or.inr ⟨o, w1, w3, w4, by omega⟩
section F2
variable {b p N : Nat} {gn : tN} {pi : Nat → Nat} {A : tA} {V : tV}
theorem sL_reg {n a x : Nat} (hN : N ≤ 5) (hS : SLT A V n gn) (hR : wReg A V N) (hn : n < N) (ha : a < 6) (hx : x < 120) : sL gn n a x ↔ (A 7 (6 * n + a) = 2 ∧ V 8 (6 * n + a) = nI x) ∧ x / 24 = n := by
  unfold sL
  rw [(hS.1 a ha).1, (hS.1 a ha).2, ckd2 (hR n a hn ha) hN]
  constructor
  · rintro ⟨⟨y, h1, h2, h3, h4⟩, h5⟩
    rw [h3] at h5
    have : y = x := (nI_eq (by omega) (by omega)).mp h5
    subst this
    exact ⟨⟨h2, h3⟩, h4⟩
  · rintro ⟨⟨h1, h2⟩, h3⟩
    exact ⟨⟨x, hx, h1, h2, h3⟩, h2⟩
theorem sL_fld {n k f x : Nat} (hN : N ≤ 5) (hS : SLT A V n gn) (hF : wFld A V N) (hn : n < N) (hk : k < 24) (ht : A 4 (24 * n + k) = 1) (hf : f < A 1 (24 * n + k)) (hx : x < 120) : sL gn n (6 + 12 * k + f) x ↔ (A 5 (12 * (24 * n + k) + f) = 2 ∧ V 6 (12 * (24 * n + k) + f) = nI x) ∧ x / 24 = n := by
  have h12 := hF (24 * n + k) (by omega) ht
  unfold sL
  have hsl := hS.2.1 k f hk (by omega) ht
  have hv := h12.2.1 f hf
  rw [show (24 * n + k) / 24 = n by omega] at hv
  rw [hsl.1, hsl.2, ckd2 hv hN]
  constructor
  · rintro ⟨⟨y, h1, h2, h3, h4⟩, h5⟩
    rw [h3] at h5
    have : y = x := (nI_eq (by omega) (by omega)).mp h5
    subst this
    exact ⟨⟨h2, h3⟩, h4⟩
  · rintro ⟨⟨h1, h2⟩, h3⟩
    exact ⟨⟨x, hx, h1, h2, h3⟩, h2⟩
theorem sL_v {n s : Nat} (h : ∃ N' k v, N' ≤ 5 ∧ okv A N' n k v ∧ gn n 1 s = ckd n k v ∧ gn n 2 s = v) : gn n 1 s = 2 → ∃ y, y < 120 ∧ gn n 2 s = nI y := by
  obtain ⟨N', k, v, hN, h1, h2, h3⟩ := h
  intro w
  rw [h2, ckd2 h1 hN] at w
  obtain ⟨y, a, -, b, -⟩ := w
  exact ⟨y, a, by rw [h3]; exact b⟩
/-- one node -/
theorem eC_mho {fu n mg mo : Nat} {eg eo : Nat → Nat} {gp : tV} {Gr : Nat → Prop} (hfu : 2000 ≤ fu) (hp : b + 2 + 8 * N ≤ p) (hN : N ≤ 5) (hn : n < N) (hS : SLT A V n gn) (hR : wReg A V N) (hF : wFld A V N) (hG : MK gp 66 mg eg) (hO : MK gp 69 mo eo) (gG : ∀ x, x < 120 → (inM gp 66 x ↔ Gr x)) : ∃ gp' mo' eo', (∀ f1, mX4_markHeldFromOutside fu (mkC b p N gn gp pi f1) (p + 65) (b + 2 + 8 * n) = some (mkC b p N gn gp' pi f1)) ∧ Ext 69 (lOn A V N Gr n) gp mo eo gp' mo' eo' ∧ ∀ x, lOn A V N Gr n x → inM gp' 69 x := by
  have hr : isM 66 := Or.inr (Or.inl rfl)
  have hGk : ∀ g, frM 69 gp g → MK g 66 mg eg := fun g hg => MK_ext hG (hg.1 _ (by omega) (by omega) (by omega)) (hg.1 _ (by omega) (by omega) (by omega)) (hg.1 _ (by omega) (by omega) (by omega))
  have hGi : ∀ g, frM 69 gp g → ∀ x, x < 120 → (inM g 66 x ↔ Gr x) := fun g hg x hx => by
    rw [← gG x hx]
    unfold inM
    rw [hg.1 (66 + 1) (by omega) (by omega) (by omega)]
  obtain ⟨g2, h6, h7⟩ := lupI (S := tV) (T := jM → Option jM) (fun n' i g f1 => mX4_markHeldFromOutside_L2 fu (p + 65) (b + 2 + 8 * n) n' (nI i) (mkC b p N gn g pi f1)) (fun g f1 => mX4_markHeldFromOutside_L22 fu (p + 65) (b + 2 + 8 * n) fu (nI 0) (mkC b p N gn g pi f1)) 6 (fun i g => ∃ m e, Ext 69 (lOn A V N Gr n) gp mo eo g m e ∧ ∀ a x, a < i → x < 120 → sL gn n a x → Gr x → inM g 69 x)
    (by
      intro n' g _
      funext f1
      rw [mX4_markHeldFromOutside_L2, i6, if_pos (nI_le (Nat.le_refl _) (by omega)), i0])
    (by
      intro n' i g hi ⟨m, e, a1, a2⟩
      have hf := a1.2.2.2.2
      obtain ⟨g', m', e', t1, t2, t3⟩ := eC_mlg (b := b) (p := p) (N := N) (gn := gn) (pi := pi) (s := i) hp hn (by omega) (sL_v ⟨N, _, _, hN, hR n i hn hi, (hS.1 i hi).1, (hS.1 i hi).2⟩) (hGk g hf) a1.1
      refine ⟨g', ⟨m', e', Ext_trans a1 t2 (fun _ w => w) (fun x w => ?_), fun a x ha hx hs hg => ?_⟩, ?_⟩
      · have := (sL_reg hN hS hR hn hi w.1).mp ⟨w.2.1, w.2.2.1⟩
        exact ⟨w.1, (hGi g hf x w.1).mp w.2.2.2, this.2, Or.inl ⟨w.1, i, hi, this.1⟩⟩
      · by_cases c : a = i
        · subst c; exact t3 x hx hs.1 hs.2 ((hGi g hf x hx).mpr hg)
        · exact Ext_in a1.1 t2 hx (a2 a x (by omega) hx hs hg)
      · funext f1
        show mX4_markHeldFromOutside_L2 fu (p + 65) (b + 2 + 8 * n) (n' + 1) (nI i) (mkC b p N gn g pi f1) = _
        rw [mX4_markHeldFromOutside_L2, i6, if_neg (nI_ge hi (by omega))]
        simp only [cTchk, Option.bind_some, t1, nI_1])
    fu gp (by omega) ⟨mo, eo, Ext_refl hO, fun a x ha => absurd ha (by omega)⟩
  obtain ⟨m2, e2, b1, b2⟩ := h6
  obtain ⟨g3, h8, h9⟩ := lupI (S := tV) (T := jM → Option jM) (fun n' i g f1 => mX4_markHeldFromOutside_L22 fu (p + 65) (b + 2 + 8 * n) n' (nI i) (mkC b p N gn g pi f1)) (fun g f1 => some (mkC b p N gn g pi f1)) 24 (fun i g => ∃ m e, Ext 69 (lOn A V N Gr n) g2 m2 e2 g m e ∧ ∀ k x, k < i → x < 120 → gd A N (24 * n + k) → ¬ Gr (24 * n + k) → fH A V (24 * n + k) x → x / 24 = n → Gr x → inM g 69 x)
    (by
      intro n' g _
      funext f1
      rw [mX4_markHeldFromOutside_L22, i24, if_pos (nI_le (Nat.le_refl _) (by omega))])
    (by
      intro n' k g hk ⟨m, e, a1, a2⟩
      have hf : frM 69 gp g := frM_trans b1.2.2.2.2 a1.2.2.2.2
      have hx : 24 * n + k < 120 := by omega
      have ev : ∀ f1, mX4_markHeldFromOutside_L22 fu (p + 65) (b + 2 + 8 * n) (n' + 1) (nI k) (mkC b p N gn g pi f1) = if g (66 + 1) (24 * n + k) = 0 then mX4_markHeldFromOutside_L48 fu (mX4_markHeldFromOutside_L22 fu (p + 65) (b + 2 + 8 * n) n') (p + 65) (b + 2 + 8 * n) (nI k) fu (nI 0) (mkC b p N gn g pi f1) else mX4_markHeldFromOutside_L22 fu (p + 65) (b + 2 + 8 * n) n' (nI (k + 1)) (mkC b p N gn g pi f1) := by
        intro f1
        rw [mX4_markHeldFromOutside_L22, i24, if_neg (nI_ge hk (by omega))]
        simp (disch := omega) only [cT0, cNi, Option.bind_some, eC_idOf, cMchk hr, nI_1]
        rw [show n * 24 + k = 24 * n + k by omega, eC_has hr (hGk g hf) hx, i0]
        rfl
      by_cases c : g (66 + 1) (24 * n + k) = 0
      · have hng : ¬ Gr (24 * n + k) := fun w => by
          have := (hGi g hf _ hx).mpr w
          unfold inM at this
          rw [c] at this
          exact absurd this (by decide)
        by_cases ht : A 4 (24 * n + k) = 1
        · have h12 := hF (24 * n + k) (by omega) ht
          have hs := (hS.2.2 k hk).1 ht
          obtain ⟨g', h6, h7⟩ := lupI (S := tV) (T := jM → Option jM) (fun n2 i g f1 => mX4_markHeldFromOutside_L48 fu (mX4_markHeldFromOutside_L22 fu (p + 65) (b + 2 + 8 * n) n') (p + 65) (b + 2 + 8 * n) (nI k) n2 (nI i) (mkC b p N gn g pi f1)) (fun g f1 => mX4_markHeldFromOutside_L22 fu (p + 65) (b + 2 + 8 * n) n' (nI (k + 1)) (mkC b p N gn g pi f1)) (A 1 (24 * n + k)) (fun i g' => ∃ m' e', Ext 69 (lOn A V N Gr n) g m e g' m' e' ∧ ∀ f x, f < i → x < 120 → sL gn n (6 + 12 * k + f) x → Gr x → inM g' 69 x)
            (by
              intro n2 g' _
              funext f1
              rw [mX4_markHeldFromOutside_L48]
              simp (disch := omega) only [cNr3, cNl3, gl_nI, Option.bind_some, hs, nI_1]
              rw [if_pos (nI_le (Nat.le_refl _) (by omega))])
            (by
              intro n2 i g' hi ⟨m', e', d1, d2⟩
              have hf' : frM 69 gp g' := frM_trans hf d1.2.2.2.2
              have hsl := hS.2.1 k i hk (by omega) ht
              have hv := h12.2.1 i hi
              rw [show (24 * n + k) / 24 = n by omega] at hv
              obtain ⟨g2, m2, e2, t1, t2, t3⟩ := eC_mlg (b := b) (p := p) (N := N) (gn := gn) (pi := pi) (s := 6 + 12 * k + i) hp hn (by omega) (sL_v ⟨N, _, _, hN, hv, hsl.1, hsl.2⟩) (hGk g' hf') d1.1
              refine ⟨g2, ⟨m2, e2, Ext_trans d1 t2 (fun _ w => w) (fun x w => ?_), fun f x ha hx hs hg => ?_⟩, ?_⟩
              · have := (sL_fld hN hS hF hn hk ht hi w.1).mp ⟨w.2.1, w.2.2.1⟩
                exact ⟨w.1, (hGi g' hf' x w.1).mp w.2.2.2, this.2, Or.inr ⟨24 * n + k, ⟨by omega, ht⟩, by omega, hng, w.1, i, hi, this.1⟩⟩
              · by_cases c : f = i
                · subst c; exact t3 x hx hs.1 hs.2 ((hGi g' hf' x hx).mpr hg)
                · exact Ext_in d1.1 t2 hx (d2 f x (by omega) hx hs hg)
              · funext f1
                show mX4_markHeldFromOutside_L48 fu (mX4_markHeldFromOutside_L22 fu (p + 65) (b + 2 + 8 * n) n') (p + 65) (b + 2 + 8 * n) (nI k) (n2 + 1) (nI i) (mkC b p N gn g' pi f1) = _
                rw [mX4_markHeldFromOutside_L48]
                simp (disch := omega) only [cNr3, cNl3, gl_nI, Option.bind_some, hs, eC_fieldSlot, cTchk, nI_1]
                rw [if_neg (nI_ge hi (by omega)), show 6 + k * 12 + i = 6 + 12 * k + i by omega, t1]
                rfl)
            fu g (by omega) ⟨m, e, Ext_refl a1.1, fun f x hf => absurd hf (by omega)⟩
          obtain ⟨m', e', d1, d2⟩ := h6
          refine ⟨g', ⟨m', e', Ext_trans a1 d1 (fun _ w => w) (fun _ w => w), fun k' x hk' hx' w1 w2 w3 w4 w5 => ?_⟩, ?_⟩
          · by_cases c' : k' = k
            · subst c'
              obtain ⟨-, f, v1, v2⟩ := w3
              exact d2 f x v1 hx' ((sL_fld hN hS hF hn hk ht v1 hx').mpr ⟨v2, w4⟩) w5
            · exact Ext_in a1.1 d1 hx' (a2 k' x (by omega) hx' w1 w2 w3 w4 w5)
          · funext f1
            show mX4_markHeldFromOutside_L22 fu (p + 65) (b + 2 + 8 * n) (n' + 1) (nI k) (mkC b p N gn g pi f1) = _
            rw [ev, if_pos c]
            exact congrFun h7 f1
        · have hs := (hS.2.2 k hk).2 ht
          refine ⟨g, ⟨m, e, a1, fun k' x hk' hx' w1 w2 w3 w4 w5 => ?_⟩, ?_⟩
          · by_cases c' : k' = k
            · subst c'; exact absurd w1.2 ht
            · exact a2 k' x (by omega) hx' w1 w2 w3 w4 w5
          · funext f1
            show mX4_markHeldFromOutside_L22 fu (p + 65) (b + 2 + 8 * n) (n' + 1) (nI k) (mkC b p N gn g pi f1) = _
            rw [ev, if_pos c]
            have : ∀ m, mX4_markHeldFromOutside_L48 fu (mX4_markHeldFromOutside_L22 fu (p + 65) (b + 2 + 8 * n) n') (p + 65) (b + 2 + 8 * n) (nI k) (m + 1) (nI 0) (mkC b p N gn g pi f1) = mX4_markHeldFromOutside_L22 fu (p + 65) (b + 2 + 8 * n) n' (nI (k + 1)) (mkC b p N gn g pi f1) := by
              intro m
              rw [mX4_markHeldFromOutside_L48]
              simp (disch := omega) only [cNr3, cNl3, gl_nI, Option.bind_some, hs, nI_1]
              rw [if_pos (by decide)]
            obtain ⟨fu', hfu'⟩ : ∃ n, fu = n + 1 := ⟨fu - 1, by omega⟩
            have h2 := this fu'
            rw [← hfu'] at h2
            exact h2
      · have hg : Gr (24 * n + k) := (hGi g hf _ hx).mp ((MK_01 (hGk g hf) hx).resolve_right c)
        refine ⟨g, ⟨m, e, a1, fun k' x hk' hx' w1 w2 w3 w4 w5 => ?_⟩, ?_⟩
        · by_cases c' : k' = k
          · subst c'; exact absurd hg w2
          · exact a2 k' x (by omega) hx' w1 w2 w3 w4 w5
        · funext f1
          show mX4_markHeldFromOutside_L22 fu (p + 65) (b + 2 + 8 * n) (n' + 1) (nI k) (mkC b p N gn g pi f1) = _
          rw [ev, if_neg c])
    fu g2 (by omega) ⟨m2, e2, Ext_refl b1.1, fun k x hk => absurd hk (by omega)⟩
  obtain ⟨m3, e3, d1, d2⟩ := h8
  refine ⟨g3, m3, e3, fun f1 => ?_, Ext_trans b1 d1 (fun _ w => w) (fun _ w => w), fun x hx => ?_⟩
  · unfold mX4_markHeldFromOutside
    have e7 := congrFun h7 f1
    have e9 := congrFun h9 f1
    rw [i0, e7, e9]
  · obtain ⟨w1, w2, w3, w4⟩ := hx
    rcases w4 with ⟨-, a, v1, v2⟩ | ⟨o, v1, v2, v3, v4⟩
    · exact Ext_in b1.1 d1 w1 (b2 a x v1 w1 ((sL_reg hN hS hR hn v1 w1).mpr ⟨v2, w3⟩) w2)
    · have := d2 (o % 24) x (by omega) w1
      rw [show 24 * n + o % 24 = o by omega] at this
      exact this v1 v3 v4 w3 w2
/-- those that inner IMPORTS don't make up -/
theorem eC_unc {fu mg mo : Nat} {eg eo : Nat → Nat} {gp : tV} {S : Nat → Nat} (hfu : 2000 ≤ fu) (hp : b + 2 + 8 * N ≤ p) (hN : N ≤ 5) (h5 : ∀ x, x < 24 * N → gn (x / 24) 5 (x % 24) = nI (A 3 x)) (hb : ∀ x, x < 120 → A 3 x < 2 ^ 31 ∧ S x < 2 ^ 31) (hS : ∀ x, x < 120 → gp 73 x = nI (S x)) (hG : MK gp 66 mg eg) (hgd : ∀ x, x < 120 → inM gp 66 x → x < 24 * N) (hO : MK gp 69 mo eo) : ∃ gp' mo' eo', (∀ f1, mX4_markUncovered fu (mkC b p N gn gp pi f1) (p + 65) (b + 1) = some (if mo' ≤ mo then 0 else 1, mkC b p N gn gp' pi f1)) ∧ Ext 69 (fun x => x < 120 ∧ inM gp 66 x ∧ 0 < A 3 x ∧ A 3 x ≠ S x) gp mo eo gp' mo' eo' ∧ ∀ x, x < 120 → inM gp 66 x → 0 < A 3 x → A 3 x ≠ S x → inM gp' 69 x := by
  have hr : isM 66 := Or.inr (Or.inl rfl)
  have hr' : isM 69 := Or.inr (Or.inr rfl)
  obtain ⟨gp', h6, h7⟩ := lupI (S := tV) (T := jM → Option (Int32 × jM)) (fun n' i g f1 => mX4_markUncovered_L10 fu (p + 65) (b + 1) (nI mo) n' (nI i) (mkC b p N gn g pi f1)) (fun g f1 => if g 69 0 ≤ nI mo then some ((0 : Int32), mkC b p N gn g pi f1) else some ((1 : Int32), mkC b p N gn g pi f1)) N (fun i g => ∃ m e, Ext 69 (fun x => x < 120 ∧ inM gp 66 x ∧ 0 < A 3 x ∧ A 3 x ≠ S x) gp mo eo g m e ∧ ∀ x, x < 24 * i → inM gp 66 x → 0 < A 3 x → A 3 x ≠ S x → inM g 69 x)
    (by
      intro n' g _
      funext f1
      rw [mX4_markUncovered_L10]
      simp only [cLen hp, Option.bind_some]
      rw [if_pos (nI_le (Nat.le_refl _) (by omega))]
      simp only [cT1, Option.bind_some, cM2 hr'])
    (by
      intro n0 n g hn ⟨m1, e1, a1, a2⟩
      obtain ⟨g', h6, h7⟩ := lupI (S := tV) (T := jM → Option (Int32 × jM)) (fun n' k g f1 => mX4_markUncovered_L19 fu (mX4_markUncovered_L10 fu (p + 65) (b + 1) (nI mo) n0) (p + 65) (b + 1) (nI mo) (nI n) n' (nI k) (mkC b p N gn g pi f1)) (fun g f1 => mX4_markUncovered_L10 fu (p + 65) (b + 1) (nI mo) n0 (nI (n + 1)) (mkC b p N gn g pi f1)) 24 (fun k g => ∃ m e, Ext 69 (fun x => x < 120 ∧ inM gp 66 x ∧ 0 < A 3 x ∧ A 3 x ≠ S x) gp mo eo g m e ∧ ∀ x, x < 24 * n + k → inM gp 66 x → 0 < A 3 x → A 3 x ≠ S x → inM g 69 x)
        (by
          intro n' g _
          funext f1
          rw [mX4_markUncovered_L19, i24, if_pos (nI_le (Nat.le_refl _) (by omega)), nI_1])
        (by
          intro n' k g hk ⟨m, e, a1, a2⟩
          have hfr := a1.2.2.2.2.1
          have hx : n * 24 + k < 120 := by omega
          have hx24 : n * 24 + k = 24 * n + k := by omega
          have e0 : g 66 = gp 66 := hfr 66 (by omega) (by omega) (by omega)
          have e1 : g (66 + 1) = gp (66 + 1) := hfr (66 + 1) (by omega) (by omega) (by omega)
          have e2 : g (66 + 2) = gp (66 + 2) := hfr (66 + 2) (by omega) (by omega) (by omega)
          have hGg : MK g 66 mg eg := by
            unfold MK
            rw [e0, e1, e2]
            exact hG
          have e5 : gn n 5 k = nI (A 3 (n * 24 + k)) := by
            have := h5 (n * 24 + k) (by omega)
            rw [show (n * 24 + k) / 24 = n by omega, show (n * 24 + k) % 24 = k by omega] at this
            exact this
          have e73 : g 73 (n * 24 + k) = nI (S (n * 24 + k)) := by rw [hfr 73 (by omega) (by omega) (by omega)]; exact hS _ hx
          obtain ⟨b1, b2⟩ := hb _ hx
          have ev : ∀ f1, mX4_markUncovered_L19 fu (mX4_markUncovered_L10 fu (p + 65) (b + 1) (nI mo) n0) (p + 65) (b + 1) (nI mo) (nI n) (n' + 1) (nI k) (mkC b p N gn g pi f1) = if gp (66 + 1) (n * 24 + k) = 1 ∧ 0 < A 3 (n * 24 + k) ∧ A 3 (n * 24 + k) ≠ S (n * 24 + k) then (mX1_add (mkC b p N gn g pi f1) (p + 69) (nI (n * 24 + k))).bind fun f21 => mX4_markUncovered_L19 fu (mX4_markUncovered_L10 fu (p + 65) (b + 1) (nI mo) n0) (p + 65) (b + 1) (nI mo) (nI n) n' (nI (k + 1)) f21 else mX4_markUncovered_L19 fu (mX4_markUncovered_L10 fu (p + 65) (b + 1) (nI mo) n0) (p + 65) (b + 1) (nI mo) (nI n) n' (nI (k + 1)) (mkC b p N gn g pi f1) := by
            intro f1
            rw [mX4_markUncovered_L19, i24, if_neg (nI_ge hk (by omega))]
            simp (disch := omega) only [eC_idOf, Option.bind_some, cNod, cNr5, cNl5, gl_nI, e5, cT0, cMchk hr, eC_has hr hGg hx, nI_1]
            rcases MK_01 hG hx with w | w
            · rw [e1, w, if_neg (by decide)]
              by_cases c : 0 < A 3 (n * 24 + k)
              · rw [if_neg (nI_nle c b1)]
                simp (disch := omega) only [cT3, cTl73, gl_nI, e73, cT1, cMchk hr', Option.bind_some]
                by_cases d : A 3 (n * 24 + k) = S (n * 24 + k)
                · rw [if_pos (by rw [d]), if_neg (fun w => w.2.2 d)]
                · rw [if_neg (fun w => d ((nI_eq b1 b2).mp w)), if_pos ⟨trivial, c, d⟩]
              · have hz : A 3 (n * 24 + k) = 0 := by omega
                rw [if_pos (by rw [hz]; decide), if_neg (fun w => c w.2.1)]
            · rw [e1, w, if_pos rfl, if_neg (fun v => absurd v.1 (by decide))]
          by_cases c : gp (66 + 1) (n * 24 + k) = 1 ∧ 0 < A 3 (n * 24 + k) ∧ A 3 (n * 24 + k) ≠ S (n * 24 + k)
          · obtain ⟨g', m', e', t1, t2, t3⟩ := eC_add (b := b) (p := p) (N := N) (gn := gn) (pi := pi) hr' a1.1 hx
            refine ⟨g', ⟨m', e', Ext_trans a1 t2 (fun _ w => w) (fun x w => by subst w; exact ⟨hx, c⟩), fun x hx' w0 w1 w2 => ?_⟩, ?_⟩
            · by_cases d : x = n * 24 + k
              · subst d; exact t3
              · exact Ext_in a1.1 t2 (by omega) (a2 x (by omega) w0 w1 w2)
            · funext f1
              show mX4_markUncovered_L19 fu (mX4_markUncovered_L10 fu (p + 65) (b + 1) (nI mo) n0) (p + 65) (b + 1) (nI mo) (nI n) (n' + 1) (nI k) (mkC b p N gn g pi f1) = _
              rw [ev, if_pos c, t1]
              rfl
          · refine ⟨g, ⟨m, e, a1, fun x hx' w0 w1 w2 => ?_⟩, ?_⟩
            · by_cases d : x = n * 24 + k
              · subst d; exact absurd ⟨w0, w1, w2⟩ c
              · exact a2 x (by omega) w0 w1 w2
            · funext f1
              show mX4_markUncovered_L19 fu (mX4_markUncovered_L10 fu (p + 65) (b + 1) (nI mo) n0) (p + 65) (b + 1) (nI mo) (nI n) (n' + 1) (nI k) (mkC b p N gn g pi f1) = _
              rw [ev, if_neg c])
        fu g (by omega) ⟨m1, e1, a1, fun x hx => a2 x (by omega)⟩
      obtain ⟨m3, e3, d1, d2⟩ := h6
      refine ⟨g', ⟨m3, e3, d1, fun x hx => d2 x (by omega)⟩, ?_⟩
      funext f1
      show mX4_markUncovered_L10 fu (p + 65) (b + 1) (nI mo) (n0 + 1) (nI n) (mkC b p N gn g pi f1) = _
      rw [mX4_markUncovered_L10]
      simp only [cLen hp, Option.bind_some]
      rw [if_neg (nI_ge hn (by omega)), i0]
      exact congrFun h7 f1)
    fu gp (by omega) ⟨mo, eo, Ext_refl hO, fun j hj => absurd hj (by omega)⟩
  obtain ⟨m', e', d1, d2⟩ := h6
  have hm1 := hO.1
  have hm2 := d1.1.1
  refine ⟨gp', m', e', fun f1 => ?_, d1, fun x hx hi w1 w2 => d2 x (hgd x hx hi) hi w1 w2⟩
  unfold mX4_markUncovered
  simp only [cT1, Option.bind_some, cM2 hr', hO.2.1]
  have e7 := congrFun h7 f1
  rw [i0, e7, d1.1.2.1]
  by_cases c : m' ≤ mo
  · rw [if_pos (nI_le c (by omega)), if_pos c]
    rfl
  · rw [if_neg (nI_ge (by omega) (by omega)), if_neg c]
end F2
