/-! sets of ids: the class's marks, the reference's rows -/
/-- how many at most -/
theorem pig : ∀ (k m : Nat) (e : Nat → Nat), (∀ i, i < m → e i < k) → (∀ i j, i < m → j < m → e i = e j → i = j) → m ≤ k := by
  intro k
  induction k with
  | zero =>
    intro m e h1 _
    rcases Nat.eq_zero_or_pos m with h | h
    · omega
    · have := h1 0 h; omega
  | succ k ih =>
    intro m e h1 h2
    by_cases hx : ∃ i, i < m ∧ e i = k
    · obtain ⟨i0, hi0, he⟩ := hx
      have := ih (m - 1) (fun i => if i < i0 then e i else e (i + 1)) (fun i hi => by
        by_cases c : i < i0
        · rw [if_pos c]
          have a := h1 i (by omega)
          have b := fun q => h2 i i0 (by omega) hi0 q
          have : e i ≠ k := fun q => by have := b (q.trans he.symm); omega
          omega
        · rw [if_neg c]
          have a := h1 (i + 1) (by omega)
          have b := fun q => h2 (i + 1) i0 (by omega) hi0 q
          have : e (i + 1) ≠ k := fun q => by have := b (q.trans he.symm); omega
          omega) (fun i j hi hj => by
        intro q
        by_cases c : i < i0 <;> by_cases d : j < i0
        · rw [if_pos c, if_pos d] at q; exact h2 i j (by omega) (by omega) q
        · rw [if_pos c, if_neg d] at q; have := h2 i (j + 1) (by omega) (by omega) q; omega
        · rw [if_neg c, if_pos d] at q; have := h2 (i + 1) j (by omega) (by omega) q; omega
        · rw [if_neg c, if_neg d] at q; have := h2 (i + 1) (j + 1) (by omega) (by omega) q; omega)
      omega
    · have := ih m e (fun i hi => by
        have a := h1 i hi
        have : e i ≠ k := fun q => hx ⟨i, hi, q⟩
        omega) h2
      omega
theorem pig1 {k m x : Nat} {e : Nat → Nat} (h1 : ∀ i, i < m → e i < k) (h2 : ∀ i j, i < m → j < m → e i = e j → i = j) (hx : x < k) (h3 : ∀ i, i < m → e i ≠ x) : m < k := by
  have := pig k (m + 1) (fun i => if i < m then e i else x) (fun i hi => by
    split
    · next c => exact h1 i c
    · exact hx) (fun i j hi hj => by
    intro q
    by_cases c : i < m <;> by_cases d : j < m
    · rw [if_pos c, if_pos d] at q; exact h2 i j c d q
    · rw [if_pos c, if_neg d] at q; exact absurd q (h3 i c)
    · rw [if_neg c, if_pos d] at q; exact absurd q.symm (h3 j d)
    · omega)
  omega
/-! loops with an invariant -/
theorem lupI {S T : Type} (Lf : Nat → Nat → S → T) (K : S → T) (e : Nat) (I : Nat → S → Prop) (hend : ∀ n s, I e s → Lf (n + 1) e s = K s) (hstep : ∀ n i s, i < e → I i s → ∃ s', I (i + 1) s' ∧ Lf (n + 1) i s = Lf n (i + 1) s') : ∀ n s, e < n → I 0 s → ∃ s', I e s' ∧ Lf n 0 s = K s' := by
  have main : ∀ d i n s, e = i + d → d < n → I i s → ∃ s', I e s' ∧ Lf n i s = K s' := by
    intro d
    induction d with
    | zero =>
      intro i n s h1 h2 h3
      obtain ⟨n, rfl⟩ : ∃ q, n = q + 1 := ⟨n - 1, by omega⟩
      have : i = e := by omega
      subst this
      exact ⟨s, h3, hend n s h3⟩
    | succ d ih =>
      intro i n s h1 h2 h3
      obtain ⟨n, rfl⟩ : ∃ q, n = q + 1 := ⟨n - 1, by omega⟩
      obtain ⟨s', h4, h5⟩ := hstep n i s (by omega) h3
      obtain ⟨s2, h6, h7⟩ := ih (i + 1) n s' (by omega) (by omega) h4
      exact ⟨s2, h6, h5.trans h7⟩
  intro n s h1 h2
  exact main e 0 n s (by omega) h1 h2
theorem lupW {S T : Type} (Lf : Nat → Nat → S → T) (K : S → T) (B : Nat) (I : Nat → S → Prop) (D : Nat → S → Prop) (hstep : ∀ n i s, I i s → (D i s ∧ Lf (n + 1) i s = K s) ∨ (i < B ∧ ∃ s', I (i + 1) s' ∧ Lf (n + 1) i s = Lf n (i + 1) s')) : ∀ d i n s, B ≤ i + d → d < n → I i s → ∃ i' s', I i' s' ∧ D i' s' ∧ Lf n i s = K s' := by
  intro d
  induction d with
  | zero =>
    intro i n s h1 h2 h3
    obtain ⟨n, rfl⟩ : ∃ q, n = q + 1 := ⟨n - 1, by omega⟩
    rcases hstep n i s h3 with ⟨h4, h5⟩ | ⟨h4, -⟩
    · exact ⟨i, s, h3, h4, h5⟩
    · omega
  | succ d ih =>
    intro i n s h1 h2 h3
    obtain ⟨n, rfl⟩ : ∃ q, n = q + 1 := ⟨n - 1, by omega⟩
    rcases hstep n i s h3 with ⟨h4, h5⟩ | ⟨h4, s', h5, h6⟩
    · exact ⟨i, s, h3, h4, h5⟩
    · obtain ⟨i2, s2, q1, q2, q3⟩ := ih (i + 1) n s' (by omega) (by omega) h5
      exact ⟨i2, s2, q1, q2, h6.trans q3⟩
/-! what the reference's working rows don't touch -/
def scr (A A' : tA) : Prop := ∀ j i, j < 18 → ¬ (j = 0 ∧ i = 3) → A' j i = A j i
theorem scr_refl (A : tA) : scr A A := fun _ _ _ _ => rfl
theorem scr_trans {A B C : tA} (h : scr A B) (h' : scr B C) : scr A C := fun j i h1 h2 => (h' j i h1 h2).trans (h j i h1 h2)
theorem scr_up {A B : tA} (h : scr A B) {j i x : Nat} (hj : 18 ≤ j ∨ (j = 0 ∧ i = 3)) : scr A (upA B j i x) := fun j' i' h1 h2 => by
  rw [upA_n _ _ (by omega)]
  exact h j' i' h1 h2
def rho (A : tA) : tA := fun j i => if j < 18 ∧ ¬ (j = 0 ∧ i = 3) then A j i else 0
theorem scr_rho {A A' : tA} (h : scr A A') : rho A' = rho A := by
  funext j i
  unfold rho
  by_cases c : j < 18 ∧ ¬ (j = 0 ∧ i = 3)
  · rw [if_pos c, if_pos c, h j i c.1 c.2]
  · rw [if_neg c, if_neg c]
theorem scr_WF {A A' : tA} {V : tV} {N cl : Nat} (h : scr A A') (hW : WF A V N cl) : WF A' V N cl := by
  have h1 : WF (rho A) V N cl := hW
  rw [← scr_rho h] at h1
  exact h1
theorem scr_lay {A A' : tA} {N : Nat} {od : Nat → Nat → Nat} {q : Nat → Nat} (h : scr A A') (hW : wLay A N od q) : wLay A' N od q := by
  have h1 : wLay (rho A) N od q := hW
  rw [← scr_rho h] at h1
  exact h1
theorem scr_SN {A A' : tA} {V : tV} {n : Nat} {gn : tN} {od : Nat → Nat} {q : Nat} (h : scr A A') (hW : SN A V n gn od q) : SN A' V n gn od q := by
  have h1 : SN (rho A) V n gn od q := hW
  rw [← scr_rho h] at h1
  exact h1
theorem scr_SP {A A' : tA} {V : tV} {gp : tV} {pi : Nat → Nat} (h : scr A A') (hW : SP A V gp pi) : SP A' V gp pi := by
  have h1 : SP (rho A) V gp pi := hW
  rw [← scr_rho h] at h1
  exact h1
theorem scr_SIM {A A' : tA} {V : tV} {N : Nat} {gn : tN} {gp gp' : tV} {pi : Nat → Nat} {od : Nat → Nat → Nat} {q : Nat → Nat} (h : scr A A') (hms : A 0 2 ≤ 60) (hg : ∀ j, j < 62 → gp' j = gp j) (hm : SM gp') (hW : SIM A V N gn gp pi od q) : SIM A' V N gn gp' pi od q := by
  obtain ⟨h1, ⟨p1, p2, p3, p4⟩, -⟩ := hW
  refine ⟨fun n hn => scr_SN h (h1 n hn), scr_SP h ⟨?_, p2, p3, fun i hi => ?_⟩, hm⟩
  · rw [hg 0 (by omega), p1]
  · rw [hg _ (by have := p2 i (by omega); omega)]
    exact p4 i hi
theorem scr_sOk {A A' : tA} {V : tV} {N cl : Nat} {gn : tN} {gp gp' : tV} {pi : Nat → Nat} {od : Nat → Nat → Nat} {q : Nat → Nat} (h : scr A A') (hg : ∀ j, j < 62 → gp' j = gp j) (hm : SM gp') (hs : sOk N cl (A, V, gn, gp, pi, od, q)) : sOk N cl (A', V, gn, gp', pi, od, q) :=
  ⟨scr_SIM h hs.2.1.2.2.2.2.2.2.1.1 hg hm hs.1, scr_WF h hs.2.1, scr_lay h hs.2.2⟩
theorem scr_Phi {A A' : tA} (h : scr A A') : Phi A' = Phi A := by
  have h1 : Phi (rho A') = Phi (rho A) := by rw [scr_rho h]
  exact h1
/-! the class's marks -/
def frM (r : Nat) (gp gp' : tV) : Prop := (∀ j, j ≠ r → j ≠ r + 1 → j ≠ r + 2 → gp' j = gp j) ∧ gp' r 1 = gp r 1
theorem frM_refl (r : Nat) (gp : tV) : frM r gp gp := ⟨fun _ _ _ _ => rfl, rfl⟩
theorem frM_trans {r : Nat} {a b c : tV} (h : frM r a b) (h' : frM r b c) : frM r a c := ⟨fun j h1 h2 h3 => (h'.1 j h1 h2 h3).trans (h.1 j h1 h2 h3), h'.2.trans h.2⟩
theorem frM_up {r j i : Nat} {x : Int32} {a b : tV} (h : frM r a b) (hj : j = r ∨ j = r + 1 ∨ j = r + 2) (hn : ¬ (j = r ∧ i = 1)) : frM r a (up2 b j i x) := by
  refine ⟨fun j' h1 h2 h3 => ?_, ?_⟩
  · rw [up2_other _ _ _ (by omega)]; exact h.1 j' h1 h2 h3
  · rw [up2_n _ _ (by omega)]; exact h.2
def inM (gp : tV) (r x : Nat) : Prop := gp (r + 1) x = 1
theorem MK_in {gp : tV} {r m x : Nat} {e : Nat → Nat} (h : MK gp r m e) (hx : x < 120) : inM gp r x ↔ ∃ i, i < m ∧ e i = x := by
  rcases h.2.2.2.2 x hx with ⟨h1, h2⟩ | ⟨h1, h2⟩
  · exact ⟨fun _ => h2, fun _ => h1⟩
  · refine ⟨fun q => ?_, fun ⟨i, hi, q⟩ => absurd q (h2 i hi)⟩
    unfold inM at q
    rw [h1] at q
    exact absurd q (by decide)
theorem MK_01 {gp : tV} {r m x : Nat} {e : Nat → Nat} (h : MK gp r m e) (hx : x < 120) : gp (r + 1) x = 1 ∨ gp (r + 1) x = 0 := by
  rcases h.2.2.2.2 x hx with ⟨h1, h2⟩ | ⟨h1, h2⟩
  · exact Or.inl h1
  · exact Or.inr h1
/-- more ids, of a kind, behind the others -/
def Ext (r : Nat) (Y : Nat → Prop) (gp : tV) (m : Nat) (e : Nat → Nat) (gp' : tV) (m' : Nat) (e' : Nat → Nat) : Prop := MK gp' r m' e' ∧ m ≤ m' ∧ (∀ i, i < m → e' i = e i) ∧ (∀ i, m ≤ i → i < m' → Y (e' i)) ∧ frM r gp gp'
theorem Ext_refl {r m : Nat} {Y : Nat → Prop} {gp : tV} {e : Nat → Nat} (h : MK gp r m e) : Ext r Y gp m e gp m e := ⟨h, Nat.le_refl _, fun _ _ => rfl, fun i h1 h2 => absurd h2 (by omega), frM_refl r gp⟩
theorem Ext_trans {r m1 m2 m3 : Nat} {Y Y' Y2 : Nat → Prop} {g1 g2 g3 : tV} {e1 e2 e3 : Nat → Nat} (h : Ext r Y g1 m1 e1 g2 m2 e2) (h' : Ext r Y' g2 m2 e2 g3 m3 e3) (hY : ∀ x, Y x → Y2 x) (hY' : ∀ x, Y' x → Y2 x) : Ext r Y2 g1 m1 e1 g3 m3 e3 := by
  obtain ⟨a1, a2, a3, a4, a5⟩ := h
  obtain ⟨b1, b2, b3, b4, b5⟩ := h'
  refine ⟨b1, by omega, fun i hi => (b3 i (by omega)).trans (a3 i hi), fun i h1 h2 => ?_, frM_trans a5 b5⟩
  by_cases c : i < m2
  · rw [b3 i c]; exact hY _ (a4 i h1 c)
  · exact hY' _ (b4 i (by omega) h2)
theorem Ext_in {r m m' x : Nat} {Y : Nat → Prop} {gp gp' : tV} {e e' : Nat → Nat} (h0 : MK gp r m e) (h : Ext r Y gp m e gp' m' e') (hx : x < 120) (hi : inM gp r x) : inM gp' r x := by
  obtain ⟨i, hi, he⟩ := (MK_in h0 hx).mp hi
  exact (MK_in h.1 hx).mpr ⟨i, by have := h.2.1; omega, (h.2.2.1 i hi).trans he⟩
theorem Ext_out {r m m' x : Nat} {Y : Nat → Prop} {gp gp' : tV} {e e' : Nat → Nat} (h0 : MK gp r m e) (h : Ext r Y gp m e gp' m' e') (hx : x < 120) (hi : inM gp' r x) : inM gp r x ∨ Y x := by
  obtain ⟨i, hi, he⟩ := (MK_in h.1 hx).mp hi
  by_cases c : i < m
  · exact Or.inl ((MK_in h0 hx).mpr ⟨i, c, (h.2.2.1 i c).symm.trans he⟩)
  · rw [← he]; exact Or.inr (h.2.2.2.1 i (by omega) hi)
section MM
variable {b p N : Nat} {gn : tN} {gp : tV} {pi : Nat → Nat}
theorem eC_add {r m x : Nat} {e : Nat → Nat} (hr : isM r) (h : MK gp r m e) (hx : x < 120) : ∃ gp' m' e', (∀ f1, mX1_add (mkC b p N gn gp pi f1) (p + r) (nI x) = some (mkC b p N gn gp' pi f1)) ∧ Ext r (fun y => y = x) gp m e gp' m' e' ∧ inM gp' r x := by
  have h0 := h
  obtain ⟨h1, h2, h3, h4, h5⟩ := h
  rcases h5 x hx with ⟨q1, q2⟩ | ⟨q1, q2⟩
  · refine ⟨gp, m, e, fun f1 => ?_, Ext_refl h0, q1⟩
    unfold mX1_add
    rw [if_neg (nI_pos (by omega)), i120, if_neg (nI_ge hx (by omega))]
    simp (disch := omega) only [cM0 hr, cMl1 hr, gl_nI, Option.bind_some, q1]
    rw [if_neg (by decide)]
  · have hm : m < 120 := pig1 (fun i hi => (h3 i hi).1) h4 hx q2
    have hr2 : 62 ≤ r := by rcases hr with rfl | rfl | rfl <;> omega
    refine ⟨up2 (up2 (up2 gp (r + 1) x 1) (r + 2) m (nI x)) r 0 (nI (m + 1)), m + 1, fun i => if i = m then x else e i, fun f1 => ?_, ⟨⟨by omega, ?_, fun i hi => ?_, fun i j hi hj => ?_, fun y hy => ?_⟩, by omega, fun i hi => ?_, fun i h1 h2 => ?_, ?_⟩, ?_⟩
    · unfold mX1_add
      rw [if_neg (nI_pos (by omega)), i120, if_neg (nI_ge hx (by omega))]
      have e1 : up2 gp (r + 1) x 1 r 0 = nI m := by rw [up2_n _ _ (by omega)]; exact h2
      have e2 : up2 (up2 gp (r + 1) x 1) (r + 2) m (nI x) r 0 = nI m := by rw [up2_n _ _ (by omega)]; exact e1
      simp (disch := omega) only [cM0 hr, cMl1 hr, gl_nI, Option.bind_some, q1, cM2 hr, h2, cMs1 hr, nar1, gs_nI, cM1 hr, cMs2 hr, e1, e2, cMw2 hr, i1, nI_add]
      rw [if_pos trivial, if_neg (nI_ge hm (by omega))]
      rw [← i1, nar1, e1]
      simp (disch := omega) only [gs_nI, Option.bind_some, cM2 hr, e2, cMw2 hr, nI_1]
    · rw [up2_s]
    · dsimp only
      by_cases c : i = m
      · rw [if_pos c]
        refine ⟨hx, ?_⟩
        rw [up2_n _ _ (by omega), c, up2_s]
      · rw [if_neg c, up2_n _ _ (by omega), up2_n _ _ (by omega), up2_n _ _ (by omega)]
        exact h3 i (by omega)
    · dsimp only
      intro q
      by_cases c : i = m <;> by_cases d : j = m
      · omega
      · rw [if_pos c, if_neg d] at q; exact absurd q.symm (q2 j (by omega))
      · rw [if_neg c, if_pos d] at q; exact absurd q (q2 i (by omega))
      · rw [if_neg c, if_neg d] at q; exact h4 i j (by omega) (by omega) q
    · rw [up2_n _ _ (by omega), up2_n _ _ (by omega)]
      by_cases c : y = x
      · rw [c, up2_s]
        exact Or.inl ⟨rfl, m, by omega, by dsimp only; rw [if_pos rfl]⟩
      · rw [up2_n _ _ (by omega)]
        rcases h5 y hy with ⟨g1, i, g2, g3⟩ | ⟨g1, g2⟩
        · exact Or.inl ⟨g1, i, by omega, by dsimp only; rw [if_neg (by omega)]; exact g3⟩
        · refine Or.inr ⟨g1, fun i hi => ?_⟩
          dsimp only
          by_cases d : i = m
          · rw [if_pos d]; omega
          · rw [if_neg d]; exact g2 i (by omega)
    · dsimp only
      rw [if_neg (by omega)]
    · dsimp only
      rw [if_pos (by omega)]
    · exact frM_up (frM_up (frM_up (frM_refl r gp) (by omega) (by omega)) (by omega) (by omega)) (by omega) (by omega)
    · unfold inM
      rw [up2_n _ _ (by omega), up2_n _ _ (by omega), up2_s]
theorem eC_has {r m x : Nat} {e : Nat → Nat} {f1 : jM} (hr : isM r) (h : MK gp r m e) (hx : x < 120) : mX1_has (mkC b p N gn gp pi f1) (p + r) (nI x) = some (gp (r + 1) x, mkC b p N gn gp pi f1) := by
  unfold mX1_has
  rw [if_neg (nI_pos (by omega)), i120, if_neg (nI_ge hx (by omega))]
  simp (disch := omega) only [cM0 hr, cMl1 hr, gl_nI, Option.bind_some]
  rcases MK_01 h hx with q | q
  · rw [q, if_neg (by decide)]
  · rw [q, if_pos rfl]
theorem eC_clear {r fu : Nat} (hr : isM r) (hfu : 2000 ≤ fu) (hM : SM gp) : ∃ gp', (∀ f1, mX1_clear fu (mkC b p N gn gp pi f1) (p + r) = some (mkC b p N gn gp' pi f1)) ∧ MK gp' r 0 (fun _ => 0) ∧ gp' r 1 = 0 ∧ ∀ j, j ≠ r → j ≠ r + 1 → j ≠ r + 2 → gp' j = gp j := by
  obtain ⟨gp', h6, h7⟩ := lupI (T := jM → Option jM) (fun n i g f1 => mX1_clear_L2 fu (p + r) n (nI i) (mkC b p N gn g pi f1)) (fun g f1 => some (mkC b p N gn (up2 (up2 g r 0 0) r 1 0) pi f1)) 120 (fun i g => frM r gp g ∧ ∀ x, x < i → g (r + 1) x = 0)
    (by
      intro n g _
      funext f1
      rw [mX1_clear_L2, i120, if_pos (nI_le (Nat.le_refl _) (by omega))]
      simp only [cMw2 hr, cMw3 hr, Option.bind_some])
    (by
      intro n i g hi ⟨g1, g4⟩
      refine ⟨up2 g (r + 1) i 0, ⟨frM_up g1 (by omega) (by omega), fun x hx => ?_⟩, ?_⟩
      · by_cases c : x = i
        · rw [c, up2_s]
        · rw [up2_n _ _ (by omega)]
          exact g4 x (by omega)
      · funext f1
        show mX1_clear_L2 fu (p + r) (n + 1) (nI i) (mkC b p N gn g pi f1) = _
        rw [mX1_clear_L2, i120, if_neg (nI_ge hi (by omega))]
        simp (disch := omega) only [cM0 hr, cMs1 hr, nar0, gs_nI, Option.bind_some, nI_1])
    fu gp (by omega) ⟨frM_refl r gp, fun x hx => absurd hx (by omega)⟩
  obtain ⟨g1, g4⟩ := h6
  refine ⟨up2 (up2 gp' r 0 0) r 1 0, fun f1 => ?_, ⟨by omega, ?_, fun i hi => absurd hi (by omega), fun i j hi => absurd hi (by omega), fun x hx => Or.inr ⟨?_, fun i hi => absurd hi (by omega)⟩⟩, up2_s _ _ _ _, fun j q1 q2 q3 => ?_⟩
  · unfold mX1_clear
    have := congrFun h7 f1
    rw [← i0] at this
    exact this
  · rw [up2_n _ _ (by omega), up2_s]; rfl
  · rw [up2_n _ _ (by omega), up2_n _ _ (by omega)]
    exact g4 x hx
  · rw [up2_other _ _ _ (by omega), up2_other _ _ _ (by omega)]
    exact g1.1 j q1 q2 q3
end MM
