/-! the class finds WITHOUT -/
section FW
variable {b p N : Nat} {gn : tN} {pi : Nat → Nat} {A : tA} {V : tV}
/-- the weights of the holders that are let go -/
theorem eC_sumInner {fu mg mo : Nat} {eg eo : Nat → Nat} {gp : tV} {Gr O : Nat → Prop} {I : Nat → Nat → Bool} (hfu : 2000 ≤ fu) (hp : b + 2 + 8 * N ≤ p) (hN : N ≤ 5) (hS : ∀ n, n < N → SLT A V n gn ∧ ∀ x, x < 120 → gn n 6 x = nI (A 9 (120 * n + x))) (hR : wReg A V N) (hF : wFld A V N) (hG : MK gp 66 mg eg) (hO : MK gp 69 mo eo) (gG : ∀ x, x < 120 → (inM gp 66 x ↔ Gr x)) (gO : ∀ x, x < 120 → (inM gp 69 x ↔ O x)) (hI : ∀ m x, m < N → x < 120 → (I m x = true ↔ inr A V N Gr O m x)) :
    ∃ gp', (∀ f1, mX4_sumInnerWeights fu (mkC b p N gn gp pi f1) (p + 65) (b + 1) = some (mkC b p N gn gp' pi f1)) ∧ (∀ x, x < 120 → gp' 73 x = nI (sm (fun m => if I m x then A 9 (120 * m + x) else 0) N)) ∧ ∀ j, j ≠ 72 → j ≠ 73 → gp' j = gp j := by
  obtain ⟨g1, c1, c2, c3⟩ := eC_fill0 (b := b) (p := p) (N := N) (gn := gn) (pi := pi) (gp := gp) (r := 73) hfu (Or.inr rfl)
  obtain ⟨g2, h6, h7⟩ := lupI (S := tV) (T := jM → Option jM) (fun n' i g f1 => mX4_sumInnerWeights_L10 fu (p + 65) (b + 1) n' (nI i) (mkC b p N gn g pi f1)) (fun g f1 => some (mkC b p N gn g pi f1)) N (fun i g => (∀ x, x < 120 → g 73 x = nI (sm (fun m => if I m x then A 9 (120 * m + x) else 0) i)) ∧ ∀ j, j ≠ 72 → j ≠ 73 → g j = gp j)
    (by
      intro n' g _
      funext f1
      rw [mX4_sumInnerWeights_L10]
      simp only [cLen hp, Option.bind_some]
      rw [if_pos (nI_le (Nat.le_refl _) (by omega))])
    (by
      intro n' i g hi ⟨a1, a2⟩
      obtain ⟨s1, s2⟩ := hS i hi
      obtain ⟨g', t1, t2, t3⟩ := eC_holders (b := b) (p := p) (N := N) (gn := gn) (pi := pi) (Gr := Gr) (O := O) hfu hp hN hi s1 hR hF (MK_ext hG (a2 _ (by omega) (by omega)) (a2 _ (by omega) (by omega)) (a2 _ (by omega) (by omega))) (MK_ext hO (a2 _ (by omega) (by omega)) (a2 _ (by omega) (by omega)) (a2 _ (by omega) (by omega))) (fun x hx => by unfold inM; rw [a2 _ (by omega) (by omega)]; exact gG x hx) (fun x hx => by unfold inM; rw [a2 _ (by omega) (by omega)]; exact gO x hx)
      obtain ⟨g2, h6, h7⟩ := lupI (S := tV) (T := jM → Option jM) (fun n2 x g f1 => mX4_sumInnerWeights_L25 fu (mX4_sumInnerWeights_L10 fu (p + 65) (b + 1) n') (p + 65) (b + 1) (nI i) n2 (nI x) (mkC b p N gn g pi f1)) (fun g f1 => mX4_sumInnerWeights_L10 fu (p + 65) (b + 1) n' (nI (i + 1)) (mkC b p N gn g pi f1)) 120 (fun x0 g2 => (∀ x, x < 120 → g2 73 x = nI (sm (fun m => if I m x then A 9 (120 * m + x) else 0) (if x < x0 then i + 1 else i))) ∧ ∀ j, j ≠ 73 → g2 j = g' j)
        (by
          intro n2 g2 _
          funext f1
          rw [mX4_sumInnerWeights_L25, i120, if_pos (nI_le (Nat.le_refl _) (by omega)), nI_1])
        (by
          intro n2 x g2 hx ⟨b1, b2⟩
          have e73 := b1 x hx
          rw [if_neg (by omega)] at e73
          have e72 : g2 72 x = g' 72 x := by rw [b2 72 (by omega)]
          have hgoal : ∀ f1, mX4_sumInnerWeights_L25 fu (mX4_sumInnerWeights_L10 fu (p + 65) (b + 1) n') (p + 65) (b + 1) (nI i) (n2 + 1) (nI x) (mkC b p N gn g2 pi f1) = if g' 72 x = 1 then mX4_sumInnerWeights_L25 fu (mX4_sumInnerWeights_L10 fu (p + 65) (b + 1) n') (p + 65) (b + 1) (nI i) n2 (nI (x + 1)) (mkC b p N gn (up2 g2 73 x (nI (sm (fun m => if I m x then A 9 (120 * m + x) else 0) i + A 9 (120 * i + x)))) pi f1) else mX4_sumInnerWeights_L25 fu (mX4_sumInnerWeights_L10 fu (p + 65) (b + 1) n') (p + 65) (b + 1) (nI i) n2 (nI (x + 1)) (mkC b p N gn g2 pi f1) := by
            intro f1
            rw [mX4_sumInnerWeights_L25, i120, if_neg (nI_ge hx (by omega))]
            simp (disch := omega) only [cT2, cTl72, gl_nI, Option.bind_some, e72, cT3, cTl73, e73, cNod hp hi (show N < 2 ^ 31 by omega), cNr6, cNl6, s2 x hx, cTs73, gs_nI, nI_add, nI_1]
          by_cases c : I i x = true
          · have hin := (hI i x hi hx).mp c
            have h1 : g' 72 x = 1 := by
              rcases t2 x hx with ⟨w1, w2⟩ | ⟨w1, w2, w3⟩ | ⟨w1, w2, w3⟩
              · exact absurd w2 hin.2
              · exact w1
              · exact absurd hin.1 w3
            refine ⟨up2 g2 73 x (nI (sm (fun m => if I m x then A 9 (120 * m + x) else 0) i + A 9 (120 * i + x))), ⟨fun y hy => ?_, fun j hj => ?_⟩, ?_⟩
            · by_cases d : y = x
              · subst d
                rw [up2_s, if_pos (by omega)]
                show _ = nI (sm (fun m => if I m y then A 9 (120 * m + y) else 0) i + (if I i y then A 9 (120 * i + y) else 0))
                rw [if_pos c]
              · rw [up2_n _ _ (by omega), b1 y hy]
                by_cases d' : y < x
                · rw [if_pos d', if_pos (by omega)]
                · rw [if_neg d', if_neg (by omega)]
            · rw [up2_other _ _ _ hj]; exact b2 j hj
            · funext f1
              show mX4_sumInnerWeights_L25 fu (mX4_sumInnerWeights_L10 fu (p + 65) (b + 1) n') (p + 65) (b + 1) (nI i) (n2 + 1) (nI x) (mkC b p N gn g2 pi f1) = _
              rw [hgoal, if_pos h1]
          · have hnin : ¬ inr A V N Gr O i x := fun w => c ((hI i x hi hx).mpr w)
            have h1 : ¬ g' 72 x = 1 := by
              rcases t2 x hx with ⟨w1, w2⟩ | ⟨w1, w2, w3⟩ | ⟨w1, w2, w3⟩
              · rw [w1]; decide
              · exact absurd ⟨w3, w2⟩ hnin
              · rw [w1]; decide
            refine ⟨g2, ⟨fun y hy => ?_, b2⟩, ?_⟩
            · by_cases d : y = x
              · subst d
                rw [b1 y hy, if_neg (by omega), if_pos (by omega)]
                show _ = nI (sm (fun m => if I m y then A 9 (120 * m + y) else 0) i + (if I i y then A 9 (120 * i + y) else 0))
                rw [if_neg c]
                rfl
              · rw [b1 y hy]
                by_cases d' : y < x
                · rw [if_pos d', if_pos (by omega)]
                · rw [if_neg d', if_neg (by omega)]
            · funext f1
              show mX4_sumInnerWeights_L25 fu (mX4_sumInnerWeights_L10 fu (p + 65) (b + 1) n') (p + 65) (b + 1) (nI i) (n2 + 1) (nI x) (mkC b p N gn g2 pi f1) = _
              rw [hgoal, if_neg h1])
        fu g' (by omega) ⟨fun x hx => by rw [if_neg (by omega), t3 73 (by omega)]; exact a1 x hx, fun _ _ => rfl⟩
      refine ⟨g2, ⟨fun x hx => ?_, fun j j1 j2 => ?_⟩, ?_⟩
      · rw [h6.1 x hx, if_pos hx]
      · rw [h6.2 j j2, t3 j j1, a2 j j1 j2]
      · funext f1
        show mX4_sumInnerWeights_L10 fu (p + 65) (b + 1) (n' + 1) (nI i) (mkC b p N gn g pi f1) = _
        rw [mX4_sumInnerWeights_L10]
        simp only [cLen hp, Option.bind_some, cNod hp hi (show N < 2 ^ 31 by omega), cTchk, t1]
        rw [if_neg (nI_ge hi (by omega)), i0]
        exact congrFun h7 f1)
    fu g1 (by omega) ⟨fun x hx => by rw [c2 x hx]; rfl, fun j _ hj => c3 j hj⟩
  refine ⟨g2, fun f1 => ?_, h6.1, h6.2⟩
  unfold mX4_sumInnerWeights
  simp only [cT3, Option.bind_some, c1]
  rw [i0]
  exact congrFun h7 f1
/-- how many of them there are -/
theorem eC_cntInner {fu mg mo : Nat} {eg eo : Nat → Nat} {gp : tV} {Gr O : Nat → Prop} {U : Nat → Bool} (hfu : 2000 ≤ fu) (hp : b + 2 + 8 * N ≤ p) (hN : N ≤ 5) (hS : ∀ n, n < N → SLT A V n gn) (hR : wReg A V N) (hF : wFld A V N) (hG : MK gp 66 mg eg) (hO : MK gp 69 mo eo) (gG : ∀ x, x < 120 → (inM gp 66 x ↔ Gr x)) (gO : ∀ x, x < 120 → (inM gp 69 x ↔ O x)) (hI : ∀ m x, m < N → x < 120 → (U (120 * m + x) = true ↔ inr A V N Gr O m x)) :
    ∃ gp', (∀ f1, mX4_countInner fu (mkC b p N gn gp pi f1) (p + 65) (b + 1) = some (nI (cnt U (120 * N)), mkC b p N gn gp' pi f1)) ∧ ∀ j, j ≠ 72 → gp' j = gp j := by
  obtain ⟨g2, h6, h7⟩ := lupI (S := tV) (T := jM → Option (Int32 × jM)) (fun n' i g f1 => mX4_countInner_L4 fu (p + 65) (b + 1) n' (nI (cnt U (120 * i))) (nI i) (mkC b p N gn g pi f1)) (fun g f1 => some (nI (cnt U (120 * N)), mkC b p N gn g pi f1)) N (fun i g => ∀ j, j ≠ 72 → g j = gp j)
    (by
      intro n' g _
      funext f1
      rw [mX4_countInner_L4]
      simp only [cLen hp, Option.bind_some]
      rw [if_pos (nI_le (Nat.le_refl _) (by omega))])
    (by
      intro n' i g hi a2
      obtain ⟨g', t1, t2, t3⟩ := eC_holders (b := b) (p := p) (N := N) (gn := gn) (pi := pi) (Gr := Gr) (O := O) hfu hp hN hi (hS i hi) hR hF (MK_ext hG (a2 _ (by omega)) (a2 _ (by omega)) (a2 _ (by omega))) (MK_ext hO (a2 _ (by omega)) (a2 _ (by omega)) (a2 _ (by omega))) (fun x hx => by unfold inM; rw [a2 _ (by omega)]; exact gG x hx) (fun x hx => by unfold inM; rw [a2 _ (by omega)]; exact gO x hx)
      refine ⟨g', fun j j1 => (t3 j j1).trans (a2 j j1), ?_⟩
      funext f1
      show mX4_countInner_L4 fu (p + 65) (b + 1) (n' + 1) (nI (cnt U (120 * i))) (nI i) (mkC b p N gn g pi f1) = _
      rw [mX4_countInner_L4]
      simp only [cLen hp, Option.bind_some, cNod hp hi (show N < 2 ^ 31 by omega), cTchk, t1]
      rw [if_neg (nI_ge hi (by omega)), i0]
      have key := lup0 (fun n2 x => mX4_countInner_L20 fu (mX4_countInner_L4 fu (p + 65) (b + 1) n') (p + 65) (b + 1) (nI i) n2 (nI (cnt U (120 * i + x))) (nI x) (mkC b p N gn g' pi f1)) 120 (mX4_countInner_L4 fu (p + 65) (b + 1) n' (nI (cnt U (120 * (i + 1)))) (nI (i + 1)) (mkC b p N gn g' pi f1)) fu (by omega)
        (by
          intro n2
          rw [mX4_countInner_L20, i120, if_pos (nI_le (Nat.le_refl _) (by omega)), nI_1]
          rfl)
        (by
          intro n2 x hx
          show mX4_countInner_L20 fu (mX4_countInner_L4 fu (p + 65) (b + 1) n') (p + 65) (b + 1) (nI i) (n2 + 1) (nI (cnt U (120 * i + x))) (nI x) (mkC b p N gn g' pi f1) = _
          rw [mX4_countInner_L20, i120, if_neg (nI_ge hx (by omega))]
          simp (disch := omega) only [cT2, cTl72, gl_nI, Option.bind_some, nI_1]
          have hu := hI i x hi hx
          by_cases c : U (120 * i + x) = true
          · have hin := hu.mp c
            have h1 : g' 72 x = 1 := by
              rcases t2 x hx with ⟨w1, w2⟩ | ⟨w1, w2, w3⟩ | ⟨w1, w2, w3⟩
              · exact absurd w2 hin.2
              · exact w1
              · exact absurd hin.1 w3
            rw [if_pos h1]
            have : cnt U (120 * i + (x + 1)) = cnt U (120 * i + x) + 1 := by
              show cnt U (120 * i + x + 1) = _
              simp only [cnt, c, if_true]
            rw [this]
          · have h1 : ¬ g' 72 x = 1 := by
              rcases t2 x hx with ⟨w1, w2⟩ | ⟨w1, w2, w3⟩ | ⟨w1, w2, w3⟩
              · rw [w1]; decide
              · exact absurd (hu.mpr ⟨w3, w2⟩) c
              · rw [w1]; decide
            rw [if_neg h1]
            have : cnt U (120 * i + (x + 1)) = cnt U (120 * i + x) := by
              show cnt U (120 * i + x + 1) = _
              simp only [cnt, c]
              rfl
            rw [this])
      exact key)
    fu gp (by omega) (fun _ _ => rfl)
  refine ⟨g2, fun f1 => ?_, h6⟩
  unfold mX4_countInner
  rw [i0]
  exact congrFun h7 f1
/-- what is held from outside, in one slot -/
theorem eC_mlg {n s mg mo : Nat} {eg eo : Nat → Nat} {gp : tV} (hp : b + 2 + 8 * N ≤ p) (hn : n < N) (hs : s < 294) (hv : gn n 1 s = 2 → ∃ y, y < 120 ∧ gn n 2 s = nI y) (hG : MK gp 66 mg eg) (hO : MK gp 69 mo eo) : ∃ gp' mo' eo', (∀ f1, mX4_markLocalGray (mkC b p N gn gp pi f1) (p + 65) (b + 2 + 8 * n) (nI s) = some (mkC b p N gn gp' pi f1)) ∧ Ext 69 (fun x => x < 120 ∧ gn n 1 s = 2 ∧ gn n 2 s = nI x ∧ inM gp 66 x) gp mo eo gp' mo' eo' ∧ ∀ x, x < 120 → gn n 1 s = 2 → gn n 2 s = nI x → inM gp 66 x → inM gp' 69 x := by
  have hr : isM 66 := Or.inr (Or.inl rfl)
  have hr' : isM 69 := Or.inr (Or.inr rfl)
  by_cases c : gn n 1 s = 2
  · obtain ⟨y, hy, hy2⟩ := hv c
    have key : ∀ x, x < 120 → gn n 2 s = nI x → x = y := fun x hx q => by
      rw [hy2] at q
      exact ((nI_eq (by omega) (by omega)).mp q).symm
    by_cases d : inM gp 66 y
    · obtain ⟨g', m', e', t1, t2, t3⟩ := eC_add (b := b) (p := p) (N := N) (gn := gn) (pi := pi) hr' hO hy
      refine ⟨g', m', e', fun f1 => ?_, Ext_trans (Ext_refl hO) t2 (fun _ w => w) (fun x w => by subst w; exact ⟨hy, c, hy2, d⟩), fun x hx _ w1 w2 => by rw [key x hx w1]; exact t3⟩
      unfold mX4_markLocalGray
      have d' : gp (66 + 1) y = 1 := d
      simp (disch := omega) only [cNr1, cNl1, gl_nI, Option.bind_some, c, cT0, cT1, cNr2, cNl2, hy2, cMchk hr, cMchk hr', eC_has hr hG hy, d', t1]
      rw [if_pos trivial, if_neg (by decide)]
    · refine ⟨gp, mo, eo, fun f1 => ?_, Ext_refl hO, fun x hx _ w1 w2 => absurd (by rw [← key x hx w1]; exact w2) d⟩
      unfold mX4_markLocalGray
      have d' : gp (66 + 1) y = 0 := (MK_01 hG hy).resolve_left d
      simp (disch := omega) only [cNr1, cNl1, gl_nI, Option.bind_some, c, cT0, cT1, cNr2, cNl2, hy2, cMchk hr, cMchk hr', eC_has hr hG hy, d']
      rw [if_pos trivial, if_pos trivial]
  · refine ⟨gp, mo, eo, fun f1 => ?_, Ext_refl hO, fun x hx w => absurd w c⟩
    unfold mX4_markLocalGray
    simp (disch := omega) only [cNr1, cNl1, gl_nI, Option.bind_some]
    rw [if_neg c]
end FW
