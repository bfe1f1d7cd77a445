/-! the class: holders, inner weights -/
def SLT (A : tA) (V : tV) (n : Nat) (gn : tN) : Prop := (∀ a, a < 6 → gn n 1 a = ckd n (A 7 (6 * n + a)) (V 8 (6 * n + a)) ∧ gn n 2 a = V 8 (6 * n + a)) ∧ (∀ k f, k < 24 → f < 12 → A 4 (24 * n + k) = 1 → gn n 1 (6 + 12 * k + f) = ckd n (A 5 (12 * (24 * n + k) + f)) (V 6 (12 * (24 * n + k) + f)) ∧ gn n 2 (6 + 12 * k + f) = V 6 (12 * (24 * n + k) + f)) ∧ ∀ k, k < 24 → (A 4 (24 * n + k) = 1 → gn n 3 k = nI (A 1 (24 * n + k))) ∧ (A 4 (24 * n + k) ≠ 1 → gn n 3 k = -1)
theorem SN_SLT {A : tA} {V : tV} {n q : Nat} {gn : tN} {od : Nat → Nat} (h : SN A V n gn od q) : SLT A V n gn := ⟨h.1, h.2.1, fun k hk => ⟨fun ht => ((h.2.2.2.1 k hk).1 ht).1, fun ht => (h.2.2.2.1 k hk).2.1 ht⟩⟩
section HO
variable {b p N : Nat} {gn : tN} {pi : Nat → Nat} {A : tA} {V : tV}
theorem eC_fill0 {fu r : Nat} {gp : tV} (hfu : 2000 ≤ fu) (hr : r = 72 ∨ r = 73) : ∃ gp', (∀ f1, mJ7_fill_53178 fu (mkC b p N gn gp pi f1) (p + r) 0 = some (mkC b p N gn gp' pi f1)) ∧ (∀ x, x < 120 → gp' r x = 0) ∧ ∀ j, j ≠ r → gp' j = gp j := by
  obtain ⟨gp', h6, h7⟩ := lupI (S := tV) (T := jM → Option jM) (fun n i g f1 => mJ7_fill_53178_L5 fu (p + r) 0 (nI 120) n (nI i) (mkC b p N gn g pi f1)) (fun g f1 => some (mkC b p N gn g pi f1)) 120 (fun i g => (∀ x, x < i → g r x = 0) ∧ ∀ j, j ≠ r → g j = gp j)
    (by
      intro n g _
      funext f1
      rw [mJ7_fill_53178_L5, if_pos (nI_le (Nat.le_refl _) (by omega))])
    (by
      intro n i g hi ⟨g1, g2⟩
      refine ⟨up2 g r i 0, ⟨fun x hx => ?_, fun j hj => ?_⟩, ?_⟩
      · rw [up2_if]; split
        · rfl
        · exact g1 x (by omega)
      · rw [up2_other _ _ _ hj]; exact g2 j hj
      · funext f1
        show mJ7_fill_53178_L5 fu (p + r) 0 (nI 120) (n + 1) (nI i) (mkC b p N gn g pi f1) = _
        rw [mJ7_fill_53178_L5, if_neg (nI_ge hi (by omega))]
        rcases hr with rfl | rfl
        · simp (disch := omega) only [cTs72, gs_nI, Option.bind_some, nI_1]
        · simp (disch := omega) only [cTs73, gs_nI, Option.bind_some, nI_1])
    fu gp (by omega) ⟨fun x hx => absurd hx (by omega), fun _ _ => rfl⟩
  refine ⟨gp', fun f1 => ?_, h6.1, h6.2⟩
  unfold mJ7_fill_53178
  have := congrFun h7 f1
  rw [← i0] at this
  rcases hr with rfl | rfl
  · simp only [cTa72, Option.bind_some]
    exact this
  · simp only [cTa73, Option.bind_some]
    exact this
theorem eC_isLetGo {n k mg mo : Nat} {eg eo : Nat → Nat} {gp : tV} {f1 : jM} (hp : b + 2 + 8 * N ≤ p) (hN : N ≤ 5) (hn : n < N) (hk : k < 24) (hG : MK gp 66 mg eg) (hO : MK gp 69 mo eo) : mX4_isLetGo (mkC b p N gn gp pi f1) (p + 65) (b + 2 + 8 * n) (nI k) = some (if gp (66 + 1) (24 * n + k) = 1 ∧ ¬ gp (69 + 1) (24 * n + k) = 1 then 1 else 0, mkC b p N gn gp pi f1) := by
  have hr : isM 66 := Or.inr (Or.inl rfl)
  have hr' : isM 69 := Or.inr (Or.inr rfl)
  unfold mX4_isLetGo
  simp (disch := omega) only [cNi, Option.bind_some, eC_idOf, cT0, cT1, cMchk hr, cMchk hr']
  rw [show n * 24 + k = 24 * n + k by omega, eC_has hr hG (show 24 * n + k < 120 by omega)]
  simp only [Option.bind_some, cT1, cMchk hr', eC_has hr' hO (show 24 * n + k < 120 by omega)]
  rcases MK_01 hG (show 24 * n + k < 120 by omega) with c | c
  · rw [c, if_neg (by decide)]
    rcases MK_01 hO (show 24 * n + k < 120 by omega) with d | d
    · rw [d, if_neg (by decide), if_neg (fun w => w.2 rfl)]
    · rw [d, if_pos rfl, if_pos ⟨rfl, by decide⟩]
  · rw [c, if_pos rfl, if_neg (fun w => absurd w.1 (by decide))]
/-- the slots of a node that hold x far -/
def sF (gn : tN) (n s x : Nat) : Prop := gn n 1 s = 3 ∧ gn n 2 s = nI x
theorem sF_reg {n a x : Nat} (hN : N ≤ 5) (hS : SLT A V n gn) (hR : wReg A V N) (hn : n < N) (ha : a < 6) (hx : x < 120) : sF gn n a x ↔ (A 7 (6 * n + a) = 2 ∧ V 8 (6 * n + a) = nI x) ∧ x / 24 ≠ n := by
  unfold sF
  rw [(hS.1 a ha).1, (hS.1 a ha).2, ckd3 (hR n a hn ha) hN]
  constructor
  · rintro ⟨⟨y, h1, h2, h3, h4⟩, h5⟩
    rw [h3] at h5
    have : y = x := (nI_eq (by omega) (by omega)).mp h5
    subst this
    exact ⟨⟨h2, h3⟩, h4⟩
  · rintro ⟨⟨h1, h2⟩, h3⟩
    exact ⟨⟨x, hx, h1, h2, h3⟩, h2⟩
theorem sF_fld {n k f x : Nat} (hN : N ≤ 5) (hS : SLT A V n gn) (hF : wFld A V N) (hn : n < N) (hk : k < 24) (ht : A 4 (24 * n + k) = 1) (hf : f < A 1 (24 * n + k)) (hx : x < 120) : sF gn n (6 + 12 * k + f) x ↔ (A 5 (12 * (24 * n + k) + f) = 2 ∧ V 6 (12 * (24 * n + k) + f) = nI x) ∧ x / 24 ≠ n := by
  have h12 := hF (24 * n + k) (by omega) ht
  unfold sF
  have hsl := hS.2.1 k f hk (by omega) ht
  have hv := h12.2.1 f hf
  rw [show (24 * n + k) / 24 = n by omega] at hv
  rw [hsl.1, hsl.2, ckd3 hv hN]
  constructor
  · rintro ⟨⟨y, h1, h2, h3, h4⟩, h5⟩
    rw [h3] at h5
    have : y = x := (nI_eq (by omega) (by omega)).mp h5
    subst this
    exact ⟨⟨h2, h3⟩, h4⟩
  · rintro ⟨⟨h1, h2⟩, h3⟩
    exact ⟨⟨x, hx, h1, h2, h3⟩, h2⟩
theorem sF_v {n s : Nat} (h : ∃ N' k v, N' ≤ 5 ∧ okv A N' n k v ∧ gn n 1 s = ckd n k v ∧ gn n 2 s = v) : gn n 1 s = 3 → ∃ y, y < 120 ∧ gn n 2 s = nI y := by
  obtain ⟨N', k, v, hN, h1, h2, h3⟩ := h
  intro w
  rw [h2, ckd3 h1 hN] at w
  obtain ⟨y, a, -, b, -⟩ := w
  exact ⟨y, a, by rw [h3]; exact b⟩
theorem eC_holdK {fu n k h : Nat} {gp : tV} {E2 E1 : Nat → Prop} {k31 : Int32 → jM → Option jM} (hfu : 2000 ≤ fu) (hp : b + 2 + 8 * N ≤ p) (hN : N ≤ 5) (hn : n < N) (hk : k < 24) (hh : h = 1 ∨ h = 2) (hS : SLT A V n gn) (hF : wFld A V N) (hT : HT E2 E1 gp) : ∃ gp', (∀ f1, mX4_findHolders_L55 fu k31 (p + 65) (b + 2 + 8 * n) (nI k) (nI h) fu (nI 0) (mkC b p N gn gp pi f1) = k31 (nI (k + 1)) (mkC b p N gn gp' pi f1)) ∧ HT (fun x => E2 x ∨ (h = 2 ∧ gd A N (24 * n + k) ∧ fH A V (24 * n + k) x ∧ x / 24 ≠ n)) (fun x => E1 x ∨ (h = 1 ∧ gd A N (24 * n + k) ∧ fH A V (24 * n + k) x ∧ x / 24 ≠ n)) gp' ∧ ∀ j, j ≠ 72 → gp' j = gp j := by
  by_cases ht : A 4 (24 * n + k) = 1
  · have h12 := hF (24 * n + k) (by omega) ht
    have hs := (hS.2.2 k hk).1 ht
    obtain ⟨gp', h6, h7⟩ := lupI (S := tV) (T := jM → Option jM) (fun n' i g f1 => mX4_findHolders_L55 fu k31 (p + 65) (b + 2 + 8 * n) (nI k) (nI h) n' (nI i) (mkC b p N gn g pi f1)) (fun g f1 => k31 (nI (k + 1)) (mkC b p N gn g pi f1)) (A 1 (24 * n + k)) (fun i g => HT (fun x => E2 x ∨ (h = 2 ∧ ∃ f, f < i ∧ sF gn n (6 + 12 * k + f) x)) (fun x => E1 x ∨ (h = 1 ∧ ∃ f, f < i ∧ sF gn n (6 + 12 * k + f) x)) g ∧ ∀ j, j ≠ 72 → g j = gp j)
      (by
        intro n' g _
        funext f1
        rw [mX4_findHolders_L55]
        simp (disch := omega) only [cNr3, cNl3, gl_nI, Option.bind_some, hs, nI_1]
        rw [if_pos (nI_le (Nat.le_refl _) (by omega))])
      (by
        intro n' i g hi ⟨g1, g2⟩
        have hsl := hS.2.1 k i hk (by omega) ht
        have hv := h12.2.1 i hi
        rw [show (24 * n + k) / 24 = n by omega] at hv
        obtain ⟨g', t1, t2, t3⟩ := eC_note (b := b) (p := p) (N := N) (gn := gn) (pi := pi) (s := 6 + 12 * k + i) hp hn (by omega) hh (sF_v ⟨N, _, _, hN, hv, hsl.1, hsl.2⟩) g1
        refine ⟨g', ⟨HT_congr t2 (fun x _ => ?_) (fun x _ => ?_), fun j hj => (t3 j hj).trans (g2 j hj)⟩, ?_⟩
        · constructor
          · rintro ((w | ⟨w1, f, w2, w3⟩) | ⟨w1, w2, w3⟩)
            · exact Or.inl w
            · exact Or.inr ⟨w1, f, by omega, w3⟩
            · exact Or.inr ⟨w1, i, by omega, w2, w3⟩
          · rintro (w | ⟨w1, f, w2, w3⟩)
            · exact Or.inl (Or.inl w)
            · by_cases c : f = i
              · subst c; exact Or.inr ⟨w1, w3⟩
              · exact Or.inl (Or.inr ⟨w1, f, by omega, w3⟩)
        · constructor
          · rintro ((w | ⟨w1, f, w2, w3⟩) | ⟨w1, w2, w3⟩)
            · exact Or.inl w
            · exact Or.inr ⟨w1, f, by omega, w3⟩
            · exact Or.inr ⟨w1, i, by omega, w2, w3⟩
          · rintro (w | ⟨w1, f, w2, w3⟩)
            · exact Or.inl (Or.inl w)
            · by_cases c : f = i
              · subst c; exact Or.inr ⟨w1, w3⟩
              · exact Or.inl (Or.inr ⟨w1, f, by omega, w3⟩)
        · funext f1
          show mX4_findHolders_L55 fu k31 (p + 65) (b + 2 + 8 * n) (nI k) (nI h) (n' + 1) (nI i) (mkC b p N gn g pi f1) = _
          rw [mX4_findHolders_L55]
          simp (disch := omega) only [cNr3, cNl3, gl_nI, Option.bind_some, hs, eC_fieldSlot, cTchk, nI_1]
          rw [if_neg (nI_ge hi (by omega)), show 6 + k * 12 + i = 6 + 12 * k + i by omega, t1]
          rfl)
      fu gp (by omega) ⟨HT_congr hT (fun x _ => ⟨Or.inl, fun w => w.resolve_right (fun ⟨_, f, hf, _⟩ => absurd hf (by omega))⟩) (fun x _ => ⟨Or.inl, fun w => w.resolve_right (fun ⟨_, f, hf, _⟩ => absurd hf (by omega))⟩), fun _ _ => rfl⟩
    have conv : ∀ x, x < 120 → ((∃ f, f < A 1 (24 * n + k) ∧ sF gn n (6 + 12 * k + f) x) ↔ (gd A N (24 * n + k) ∧ fH A V (24 * n + k) x ∧ x / 24 ≠ n)) := fun x hx => by
      constructor
      · rintro ⟨f, w1, w2⟩
        have := (sF_fld hN hS hF hn hk ht w1 hx).mp w2
        exact ⟨⟨by omega, ht⟩, ⟨hx, f, w1, this.1⟩, this.2⟩
      · rintro ⟨-, ⟨-, f, w1, w2⟩, w3⟩
        exact ⟨f, w1, (sF_fld hN hS hF hn hk ht w1 hx).mpr ⟨w2, w3⟩⟩
    refine ⟨gp', fun f1 => congrFun h7 f1, HT_congr h6.1 (fun x hx => ?_) (fun x hx => ?_), h6.2⟩
    · rw [conv x hx]
    · rw [conv x hx]
  · have hs := (hS.2.2 k hk).2 ht
    refine ⟨gp, fun f1 => ?_, HT_congr hT (fun x _ => ⟨Or.inl, fun w => w.resolve_right (fun q => ht q.2.1.2)⟩) (fun x _ => ⟨Or.inl, fun w => w.resolve_right (fun q => ht q.2.1.2)⟩), fun _ _ => rfl⟩
    obtain ⟨fu', hfu'⟩ : ∃ n, fu = n + 1 := ⟨fu - 1, by omega⟩
    show mX4_findHolders_L55 fu k31 (p + 65) (b + 2 + 8 * n) (nI k) (nI h) fu (nI 0) (mkC b p N gn gp pi f1) = _
    have : ∀ m, mX4_findHolders_L55 fu k31 (p + 65) (b + 2 + 8 * n) (nI k) (nI h) (m + 1) (nI 0) (mkC b p N gn gp pi f1) = k31 (nI (k + 1)) (mkC b p N gn gp pi f1) := by
      intro m
      rw [mX4_findHolders_L55]
      simp (disch := omega) only [cNr3, cNl3, gl_nI, Option.bind_some, hs, nI_1]
      rw [if_pos (by decide)]
    have h2 := this fu'
    rw [← hfu'] at h2
    exact h2
theorem eC_holders {fu n mg mo : Nat} {eg eo : Nat → Nat} {gp : tV} {Gr O : Nat → Prop} (hfu : 2000 ≤ fu) (hp : b + 2 + 8 * N ≤ p) (hN : N ≤ 5) (hn : n < N) (hS : SLT A V n gn) (hR : wReg A V N) (hF : wFld A V N) (hG : MK gp 66 mg eg) (hO : MK gp 69 mo eo) (gG : ∀ x, x < 120 → (inM gp 66 x ↔ Gr x)) (gO : ∀ x, x < 120 → (inM gp 69 x ↔ O x)) : ∃ gp', (∀ f1, mX4_findHolders fu (mkC b p N gn gp pi f1) (p + 65) (b + 2 + 8 * n) = some (mkC b p N gn gp' pi f1)) ∧ HT (hE A V N Gr O n) (hW A V N Gr O n) gp' ∧ ∀ j, j ≠ 72 → gp' j = gp j := by
  obtain ⟨g1, c1, c2, c3⟩ := eC_fill0 (b := b) (p := p) (N := N) (gn := gn) (pi := pi) (gp := gp) (r := 72) hfu (Or.inl rfl)
  have hT1 : HT (fun _ => False) (fun _ => False) g1 := fun x hx => Or.inr (Or.inr ⟨c2 x hx, fun w => w, fun w => w⟩)
  obtain ⟨g2, h6, h7⟩ := lupI (S := tV) (T := jM → Option jM) (fun n' i g f1 => mX4_findHolders_L10 fu (p + 65) (b + 2 + 8 * n) n' (nI i) (mkC b p N gn g pi f1)) (fun g f1 => mX4_findHolders_L31 fu (p + 65) (b + 2 + 8 * n) fu (nI 0) (mkC b p N gn g pi f1)) 6 (fun i g => HT (fun x => ∃ a, a < i ∧ sF gn n a x) (fun _ => False) g ∧ ∀ j, j ≠ 72 → g j = gp j)
    (by
      intro n' g _
      funext f1
      rw [mX4_findHolders_L10, i6, if_pos (nI_le (Nat.le_refl _) (by omega)), i0])
    (by
      intro n' i g hi ⟨a1, a2⟩
      obtain ⟨g', t1, t2, t3⟩ := eC_note (b := b) (p := p) (N := N) (gn := gn) (pi := pi) (s := i) (h := 2) hp hn (by omega) (Or.inr rfl) (sF_v ⟨N, _, _, hN, hR n i hn hi, (hS.1 i hi).1, (hS.1 i hi).2⟩) a1
      refine ⟨g', ⟨HT_congr t2 (fun x _ => ?_) (fun x _ => ?_), fun j hj => (t3 j hj).trans (a2 j hj)⟩, ?_⟩
      · constructor
        · rintro (⟨f, w2, w3⟩ | ⟨w1, w2, w3⟩)
          · exact ⟨f, by omega, w3⟩
          · exact ⟨i, by omega, w2, w3⟩
        · rintro ⟨f, w2, w3⟩
          by_cases c : f = i
          · subst c; exact Or.inr ⟨rfl, w3⟩
          · exact Or.inl ⟨f, by omega, w3⟩
      · constructor
        · rintro (w | ⟨w1, -⟩)
          · exact w
          · omega
        · exact Or.inl
      · funext f1
        show mX4_findHolders_L10 fu (p + 65) (b + 2 + 8 * n) (n' + 1) (nI i) (mkC b p N gn g pi f1) = _
        rw [mX4_findHolders_L10, i6, if_neg (nI_ge hi (by omega)), i2]
        simp only [cTchk, Option.bind_some, t1, nI_1])
    fu g1 (by omega) ⟨HT_congr hT1 (fun x _ => ⟨False.elim, fun ⟨a, ha, _⟩ => absurd ha (by omega)⟩) (fun x _ => Iff.rfl), c3⟩
  obtain ⟨a1, a2⟩ := h6
  obtain ⟨g3, h8, h9⟩ := lupI (S := tV) (T := jM → Option jM) (fun n' i g f1 => mX4_findHolders_L31 fu (p + 65) (b + 2 + 8 * n) n' (nI i) (mkC b p N gn g pi f1)) (fun g f1 => some (mkC b p N gn g pi f1)) 24 (fun i g => HT (fun x => (∃ a, a < 6 ∧ sF gn n a x) ∨ ∃ k, k < i ∧ gd A N (24 * n + k) ∧ ¬ (Gr (24 * n + k) ∧ ¬ O (24 * n + k)) ∧ fH A V (24 * n + k) x ∧ x / 24 ≠ n) (fun x => ∃ k, k < i ∧ gd A N (24 * n + k) ∧ (Gr (24 * n + k) ∧ ¬ O (24 * n + k)) ∧ fH A V (24 * n + k) x ∧ x / 24 ≠ n) g ∧ ∀ j, j ≠ 72 → g j = gp j)
    (by
      intro n' g _
      funext f1
      rw [mX4_findHolders_L31, i24, if_pos (nI_le (Nat.le_refl _) (by omega))])
    (by
      intro n' i g hi ⟨b1, b2⟩
      have hx : 24 * n + i < 120 := by omega
      have hG' : MK g 66 mg eg := MK_ext hG (b2 _ (by omega)) (b2 _ (by omega)) (b2 _ (by omega))
      have hO' : MK g 69 mo eo := MK_ext hO (b2 _ (by omega)) (b2 _ (by omega)) (b2 _ (by omega))
      have ev : ∀ f1, mX4_findHolders_L31 fu (p + 65) (b + 2 + 8 * n) (n' + 1) (nI i) (mkC b p N gn g pi f1) = if gp (66 + 1) (24 * n + i) = 1 ∧ ¬ gp (69 + 1) (24 * n + i) = 1 then mX4_findHolders_L55 fu (mX4_findHolders_L31 fu (p + 65) (b + 2 + 8 * n) n') (p + 65) (b + 2 + 8 * n) (nI i) (nI 1) fu (nI 0) (mkC b p N gn g pi f1) else mX4_findHolders_L55 fu (mX4_findHolders_L31 fu (p + 65) (b + 2 + 8 * n) n') (p + 65) (b + 2 + 8 * n) (nI i) (nI 2) fu (nI 0) (mkC b p N gn g pi f1) := by
        intro f1
        rw [mX4_findHolders_L31, i24, if_neg (nI_ge hi (by omega))]
        unfold mX4_findHolders_B51
        simp only [cTchk, Option.bind_some, eC_isLetGo hp hN hn hi hG' hO']
        rw [b2 (66 + 1) (by omega), b2 (69 + 1) (by omega), i0, i2, i1]
        by_cases c : gp (66 + 1) (24 * n + i) = nI 1 ∧ ¬ gp (69 + 1) (24 * n + i) = nI 1
        · rw [if_pos c, if_neg (by decide), if_pos c]
        · rw [if_neg c, if_pos rfl, if_neg c]
      by_cases c : gp (66 + 1) (24 * n + i) = 1 ∧ ¬ gp (69 + 1) (24 * n + i) = 1
      · have lg : Gr (24 * n + i) ∧ ¬ O (24 * n + i) := ⟨(gG _ hx).mp c.1, fun w => c.2 ((gO _ hx).mpr w)⟩
        obtain ⟨g', t1, t2, t3⟩ := eC_holdK (b := b) (p := p) (N := N) (gn := gn) (pi := pi) (k31 := mX4_findHolders_L31 fu (p + 65) (b + 2 + 8 * n) n') (h := 1) hfu hp hN hn hi (Or.inl rfl) hS hF b1
        refine ⟨g', ⟨HT_congr t2 (fun x _ => ?_) (fun x _ => ?_), fun j hj => (t3 j hj).trans (b2 j hj)⟩, ?_⟩
        · constructor
          · rintro ((w | ⟨k, w1, w2⟩) | ⟨w1, -⟩)
            · exact Or.inl w
            · exact Or.inr ⟨k, by omega, w2⟩
            · omega
          · rintro (w | ⟨k, w1, w2⟩)
            · exact Or.inl (Or.inl w)
            · by_cases d : k = i
              · subst d; exact absurd lg w2.2.1
              · exact Or.inl (Or.inr ⟨k, by omega, w2⟩)
        · constructor
          · rintro (⟨k, w1, w2⟩ | ⟨-, w2, w3⟩)
            · exact ⟨k, by omega, w2⟩
            · exact ⟨i, by omega, w2, lg, w3⟩
          · rintro ⟨k, w1, w2⟩
            by_cases d : k = i
            · subst d; exact Or.inr ⟨rfl, w2.1, w2.2.2⟩
            · exact Or.inl ⟨k, by omega, w2⟩
        · funext f1
          show mX4_findHolders_L31 fu (p + 65) (b + 2 + 8 * n) (n' + 1) (nI i) (mkC b p N gn g pi f1) = _
          rw [ev, if_pos c, t1]
      · have lg : ¬ (Gr (24 * n + i) ∧ ¬ O (24 * n + i)) := fun w => c ⟨(gG _ hx).mpr w.1, fun w' => w.2 ((gO _ hx).mp w')⟩
        obtain ⟨g', t1, t2, t3⟩ := eC_holdK (b := b) (p := p) (N := N) (gn := gn) (pi := pi) (k31 := mX4_findHolders_L31 fu (p + 65) (b + 2 + 8 * n) n') (h := 2) hfu hp hN hn hi (Or.inr rfl) hS hF b1
        refine ⟨g', ⟨HT_congr t2 (fun x _ => ?_) (fun x _ => ?_), fun j hj => (t3 j hj).trans (b2 j hj)⟩, ?_⟩
        · constructor
          · rintro ((w | ⟨k, w1, w2⟩) | ⟨-, w2, w3⟩)
            · exact Or.inl w
            · exact Or.inr ⟨k, by omega, w2⟩
            · exact Or.inr ⟨i, by omega, w2, lg, w3⟩
          · rintro (w | ⟨k, w1, w2⟩)
            · exact Or.inl (Or.inl w)
            · by_cases d : k = i
              · subst d; exact Or.inr ⟨rfl, w2.1, w2.2.2⟩
              · exact Or.inl (Or.inr ⟨k, by omega, w2⟩)
        · constructor
          · rintro (⟨k, w1, w2⟩ | ⟨w1, -⟩)
            · exact ⟨k, by omega, w2⟩
            · omega
          · rintro ⟨k, w1, w2⟩
            by_cases d : k = i
            · subst d; exact absurd w2.2.1 lg
            · exact Or.inl ⟨k, by omega, w2⟩
        · funext f1
          show mX4_findHolders_L31 fu (p + 65) (b + 2 + 8 * n) (n' + 1) (nI i) (mkC b p N gn g pi f1) = _
          rw [ev, if_neg c, t1])
    fu g2 (by omega) ⟨HT_congr a1 (fun x _ => ⟨Or.inl, fun w => w.resolve_right (fun ⟨k, hk, _⟩ => absurd hk (by omega))⟩) (fun x _ => ⟨False.elim, fun ⟨k, hk, _⟩ => absurd hk (by omega)⟩), a2⟩
  refine ⟨g3, fun f1 => ?_, HT_congr h8.1 (fun x hx => ?_) (fun x hx => ?_), h8.2⟩
  · unfold mX4_findHolders
    simp only [cT2, Option.bind_some, c1]
    have e7 := congrFun h7 f1
    have e9 := congrFun h9 f1
    rw [i0, e7, e9]
  · constructor
    · rintro (⟨a, ha, w⟩ | ⟨k, w1, w2, w3, w4, w5⟩)
      · have := (sF_reg hN hS hR hn ha hx).mp w
        exact ⟨hx, this.2, Or.inl ⟨hx, a, ha, this.1⟩⟩
      · exact ⟨hx, w5, Or.inr ⟨24 * n + k, w2, by omega, w3, w4⟩⟩
    · rintro ⟨-, w5, w⟩
      rcases w with ⟨-, a, ha, w⟩ | ⟨o, w2, w3, w4, w6⟩
      · exact Or.inl ⟨a, ha, (sF_reg hN hS hR hn ha hx).mpr ⟨w, w5⟩⟩
      · refine Or.inr ⟨o % 24, by omega, ?_⟩
        rw [show 24 * n + o % 24 = o by omega]
        exact ⟨w2, w4, w6, w5⟩
  · constructor
    · rintro ⟨k, w1, w2, w3, w4, w5⟩
      exact ⟨hx, w5, 24 * n + k, w2, by omega, w3.1, w3.2, w4⟩
    · rintro ⟨-, w5, o, w2, w3, w4, w4', w6⟩
      refine ⟨o % 24, by omega, ?_⟩
      rw [show 24 * n + o % 24 = o by omega]
      exact ⟨w2, ⟨w4, w4'⟩, w6, w5⟩
end HO
