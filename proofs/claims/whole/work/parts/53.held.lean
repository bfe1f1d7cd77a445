/-! what is reached -/
def Rch (R : Nat → Prop) (E : Nat → Nat → Prop) (x : Nat) : Prop := ∀ P : Nat → Prop, (∀ y, R y → P y) → (∀ y z, P y → E y z → P z) → P x
theorem Rch_root {R : Nat → Prop} {E : Nat → Nat → Prop} {x : Nat} (h : R x) : Rch R E x := fun _ p1 _ => p1 x h
theorem Rch_step {R : Nat → Prop} {E : Nat → Nat → Prop} {x y : Nat} (h : Rch R E x) (he : E x y) : Rch R E y := fun P p1 p2 => p2 x y (h P p1 p2) he
theorem cr0 {A : tA} {row : Nat} (h : ∀ x, x < 120 → A row x = 0) : cr A row = 0 := by
  unfold cr
  rw [cnt_ext (Q := fun _ => false) (fun x hx => by rw [h x hx]; rfl)]
  have h2 : ∀ k, cnt (fun _ => false) k = 0 := by
    intro k
    induction k with
    | zero => rfl
    | succ k ih => simp [cnt, ih]
  exact h2 120
theorem stk0 {T : Type} {row : Nat} {im : Nat → Prop} {E : Nat → Nat → Prop} {R G : Nat → Prop} {out : Nat → tA → T} {K : tA → T} {A2 A' : tA} (hr : isB row) (hG : ∀ x, G x → x < 120) (hE : ∀ x y, G x → ¬ im x → E x y → G y)
    (hend : ∀ n A, scr A2 A → A 0 3 = 0 → out (n + 1) A = K A)
    (hpop : ∀ n A, scr A2 A → bl A row → 0 < A 0 3 → A 0 3 ≤ cr A row → G (A 20 (A 0 3 - 1)) → ¬ im (A 20 (A 0 3 - 1)) → ∃ A', out (n + 1) A = out n A' ∧ Psh row im (E (A 20 (A 0 3 - 1))) (upA A 0 3 (A 0 3 - 1)) A' ∧ ∀ y, E (A 20 (A 0 3 - 1)) y → inS row im A' y)
    (hz : ∀ x, x < 120 → A2 row x = 0) (h3 : A2 0 3 = 0) (h19 : ∀ x, x < 120 → im x → A2 19 x = 0) (h : Psh row im R A2 A') (hR : ∀ x, R x → inS row im A' x) (hRG : ∀ x, R x → G x) {n : Nat} (hn : 120 < n) :
    ∃ A3, out n A' = K A3 ∧ scr A2 A3 ∧ bl A3 row ∧ (∀ x, x < 120 → (inS row im A3 x ↔ Rch R (fun x y => ¬ im x ∧ E x y) x)) ∧ (∀ j, j ≠ row → j ≠ 19 → j ≠ 20 → j ≠ 0 → A3 j = A2 j) ∧ (∀ x, x < 120 → inS row im A3 x → G x) ∧ (bl A2 19 → bl A3 19) := by
  obtain ⟨a1, a2, a3, a4, a5, a6, a7, a8, a9, a10⟩ := h
  have hno : ∀ x, x < 120 → ¬ inS row im A2 x := fun x hx q => by
    by_cases c : im x
    · have := q.1 c; rw [h19 x hx c] at this; omega
    · have := q.2 c; rw [hz x hx] at this; omega
  have hroot : ∀ x, x < 120 → inS row im A' x → R x := fun x hx q => (a3 x hx q).resolve_left (hno x hx)
  rw [h3] at a4 a5 a6 a7
  have c0 := cr0 hz
  obtain ⟨A3, q1, q2, q3, q4, q5, q6, q7, q8, q9⟩ := stk A2 hr hG hE hend hpop n 0 A' a1 (a8 (fun x hx => by rw [hz x hx]; omega)) (by omega) (fun x hx q => hRG x (hroot x hx q)) (fun j hj => a6 j (by omega) hj) (fun x hx hi q => Or.inl (by
    rcases a5 x hx q with w | ⟨j, -, w1, w2⟩
    · rw [hz x hx] at w; omega
    · exact ⟨j, w1, w2⟩)) (by omega)
  refine ⟨A3, q1, q2, q3, fun x hx => ⟨fun q P p1 p2 => q6 P (fun y hy w => p1 y (hroot y hy w)) (fun y z w1 w2 w3 => p2 y z w2 ⟨w1, w3⟩) x hx q, fun q => ?_⟩, fun j d1 d2 d3 d4 => (q7 j d1 d2 d3 d4).trans (a9 j d1 d2 d3 d4), q8, fun h => q9 (a10 h)⟩
  exact (q (fun y => y < 120 ∧ inS row im A3 y) (fun y hy => ⟨hG _ (hRG y hy), q4 y (hG _ (hRG y hy)) (hR y hy)⟩) (fun y z ⟨w1, w2⟩ ⟨w3, w4⟩ => ⟨hG _ (hE _ _ (q8 y w1 w2) w3 w4), q5 y w1 w3 (w2.2 w3) z w4⟩)).2
theorem MK_G {gp : tV} {r m : Nat} {e : Nat → Nat} {G : Nat → Prop} (h : MK gp r m e) (hG : ∀ x, x < 120 → inM gp r x → G x) : ∀ j, j < m → G (e j) := fun j hj => hG _ (h.2.2.1 j hj).1 ((MK_in h (h.2.2.1 j hj).1).mpr ⟨j, hj, rfl⟩)
section HE
variable {b p N : Nat} {gn : tN} {pi : Nat → Nat} {A : tA} {V : tV} {od : Nat → Nat → Nat} {q : Nat → Nat}
/-- spread: all that FIELDS of the marked hold -/
theorem eC_spread {fu r m c : Nat} {gp : tV} {e : Nat → Nat} (hfu : 2000 ≤ fu) (hp : b + 2 + 8 * N ≤ p) (hN : N ≤ 5) (hr : isM r) (hS : ∀ n, n < N → SN A V n gn (od n) (q n)) (hF : wFld A V N) (h : MK gp r m e) (hc : gp r 1 = nI c) (hcm : c ≤ m) (hG : ∀ x, x < 120 → inM gp r x → gd A N x) (hcl : ∀ j, j < c → ∀ y, fH A V (e j) y → inM gp r y) :
    ∃ gp' m' e', (∀ f1, mX1_spread fu (mkC b p N gn gp pi f1) (p + r) (b + 1) = some (mkC b p N gn gp' pi f1)) ∧ MK gp' r m' e' ∧ m ≤ m' ∧ gp' r 1 = nI m' ∧ (∀ j, j ≠ r → j ≠ r + 1 → j ≠ r + 2 → gp' j = gp j) ∧ (∀ x, x < 120 → inM gp r x → inM gp' r x) ∧ (∀ x, x < 120 → inM gp' r x → gd A N x) ∧ (∀ x, x < 120 → inM gp' r x → ∀ y, fH A V x y → inM gp' r y) ∧ ∀ P : Nat → Prop, (∀ x, x < 120 → inM gp r x → P x) → (∀ x y, gd A N x → P x → fH A V x y → P y) → ∀ x, x < 120 → inM gp' r x → P x := by
  have hGe := MK_G h hG
  obtain ⟨g', m', e', r1, r2, r3, r4⟩ := wl (T := jM → Option jM) (r := r) (E := fun x y => gd A N x ∧ fH A V x y) (G := gd A N) (out := fun n i g f1 => mX1_spread_L5 fu (p + r) (b + 1) n (nI i) (mkC b p N gn g pi f1)) (K := fun g f1 => mX1_spread_B61 fu (p + r) (mkC b p N gn g pi f1)) gp (fun x hx => by have := hx.1; omega) (fun x y hx hy => (fH_gd hN hF hx hy.2).1)
    (by
      intro n i g m e g1 g2
      refine ⟨fun hi => ?_, fun hi hGi => ?_⟩
      · funext f1
        have := g2.1
        show mX1_spread_L5 fu (p + r) (b + 1) (n + 1) (nI i) (mkC b p N gn g pi f1) = _
        rw [mX1_spread_L5]
        simp only [cM2 hr, Option.bind_some, g2.2.1]
        rw [if_pos (nI_le (by omega) (by omega))]
      · have h120 := (g2.2.2.1 i hi).1
        have hm := g2.1
        obtain ⟨g', m', e', q1, q2, q3⟩ := eC_markFields (b := b) (pi := pi) (k := e i % 24) (n := e i / 24) hfu hp hN (by have := hGi.1; omega) (by omega) hr (hS (e i / 24) (by have := hGi.1; omega)) hF (by rw [show 24 * (e i / 24) + e i % 24 = e i by omega]; exact hGi.2) g2
        rw [show 24 * (e i / 24) + e i % 24 = e i by omega] at q2 q3
        refine ⟨g', m', e', ?_, Ext_trans (Ext_refl g2) q2 (fun _ w => w) (fun x w => ⟨hGi, w⟩), fun y hy => q3 y hy.2⟩
        funext f1
        show mX1_spread_L5 fu (p + r) (b + 1) (n + 1) (nI i) (mkC b p N gn g pi f1) = _
        have hlt : e i / 24 < N := by have := hGi.1; omega
        rw [mX1_spread_L5]
        simp (disch := omega) only [cM2 hr, Option.bind_some, g2.2.1, cM1 hr, cMl2 hr, gl_nI, (g2.2.2.1 i hi).2, eC_nodeOf, cLen hp, cNod, eC_numberOf, cchk2, q1, nI_1]
        rw [if_neg (nI_ge hi (by omega)), i120, if_neg (nI_ge (by omega) (by omega)), if_neg (nI_pos (by omega)), if_neg (nI_ge hlt (by omega))])
    fu c gp m e (by omega) (frM_refl r gp) h hcm hGe (fun j hj y hy => hcl j hj y hy.2)
  refine ⟨up2 g' r 1 (nI m'), m', e', fun f1 => ?_, ?_, r2.2.1, up2_s _ _ _ _, fun j h1 h2 h3 => ?_, fun x hx hi => ?_, fun x hx hi => ?_, fun x hx hi y hy => ?_, fun P p1 p2 x hx hi => ?_⟩
  · unfold mX1_spread
    simp only [cM3 hr, Option.bind_some, hc]
    have := congrFun r1 f1
    rw [this]
    unfold mX1_spread_B61
    simp only [cM2 hr, Option.bind_some, r2.1.2.1, cMw3 hr]
  · obtain ⟨a1, a2, a3, a4, a5⟩ := r2.1
    refine ⟨a1, by rw [up2_n _ _ (by omega)]; exact a2, fun i hi => by rw [up2_n _ _ (by omega)]; exact a3 i hi, a4, fun x hx => by rw [up2_n _ _ (by omega)]; exact a5 x hx⟩
  · rw [up2_other _ _ _ (by omega)]; exact r2.2.2.2.2.1 j h1 h2 h3
  · have := Ext_in h r2 hx hi
    unfold inM
    rw [up2_n _ _ (by omega)]; exact this
  · unfold inM at hi
    rw [up2_n _ _ (by omega)] at hi
    rcases Ext_out h r2 hx hi with w | w
    · exact hG x hx w
    · exact w
  · have hi' : inM g' r x := by unfold inM at hi ⊢; rw [up2_n _ _ (by omega)] at hi; exact hi
    have hg : gd A N x := by
      rcases Ext_out h r2 hx hi' with w | w
      · exact hG x hx w
      · exact w
    have := r3 x hx hi' y ⟨hg, hy⟩
    unfold inM
    rw [up2_n _ _ (by omega)]; exact this
  · have hi' : inM g' r x := by unfold inM at hi ⊢; rw [up2_n _ _ (by omega)] at hi; exact hi
    exact r4 P p1 (fun x y w1 w2 => p2 x y w2.1 w1 w2.2) x hx hi'
/-- the class's HELD -/
def hRt (A : tA) (V : tV) (N x : Nat) : Prop := (∃ n, n < N ∧ rH A V n x) ∨ ∃ i, i < A 0 2 ∧ A 14 i = 1 ∧ A 15 i = x
theorem hRt_gd {cl x : Nat} (hW : WF A V N cl) (h : hRt A V N x) : gd A N x := by
  obtain ⟨⟨h11, hN1, hN5⟩, wR, wF, wT, wW, wE, wM, wTo, wI⟩ := hW
  rcases h with ⟨n, hn, h⟩ | ⟨i, hi, h1, rfl⟩
  · exact (rH_gd hN5 wR hn h).1
  · obtain ⟨m1, m2, m3, ho, m5⟩ := wM.2 i hi
    have hb := bndM hN5 wM wE wTo hi
    have : 0 < A 16 i := by
      rcases m5 with m5 | m5 | m5 | m5
      · exact m5.2.1
      · exact m5.2.1
      · omega
      · exact m5.2.1
    exact ⟨ho, tot_there wT (by omega) (by omega)⟩
theorem SM_part {gp gp' : tV} {r m : Nat} {e : Nat → Nat} (h : SM gp) (hr : isM r) (hm : MK gp' r m e) (hf : ∀ j, j ≠ r → j ≠ r + 1 → j ≠ r + 2 → gp' j = gp j) : SM gp' := by
  intro r' hr'
  by_cases c : r' = r
  · subst c; exact ⟨m, e, hm⟩
  · obtain ⟨m', e', h'⟩ := h r' hr'
    refine ⟨m', e', MK_ext h' ?_ ?_ ?_⟩ <;> refine hf _ ?_ ?_ ?_ <;> rcases hr with rfl | rfl | rfl <;> rcases hr' with rfl | rfl | rfl <;> omega
theorem eC_held {fu cl : Nat} {gp : tV} (hfu : 2000 ≤ fu) (hp : b + 2 + 8 * N ≤ p) (hS : SIM A V N gn gp pi od q) (hW : WF A V N cl) :
    ∃ gp' m e, (∀ f1, mX5_markHeld fu (mkC b p N gn gp pi f1) b = some (mkC b p N gn gp' pi f1)) ∧ MK gp' 62 m e ∧ (∀ j, j < 62 → gp' j = gp j) ∧ SM gp' ∧ ∀ x, x < 120 → (inM gp' 62 x ↔ Rch (hRt A V N) (fH A V) x) := by
  have hW0 := hW
  obtain ⟨⟨h11, hN1, hN5⟩, wR, wF, wT, wW, wE, wM, wTo, wI⟩ := hW
  have hr : isM 62 := Or.inl rfl
  obtain ⟨hSn, ⟨p1, p2, p3, p4⟩, hSM⟩ := hS
  have hms := wM.1
  obtain ⟨g1, c1, c2, c3, c4⟩ := eC_clear (b := b) (p := p) (N := N) (gn := gn) (pi := pi) hr hfu hSM
  -- the registers
  obtain ⟨g2, h6, h7⟩ := lupI (T := jM → Option jM) (fun n i g f1 => mX5_markHeld_L9 fu b n (nI i) (mkC b p N gn g pi f1)) (fun g f1 => (mX3_markRefs fu (mkC b p N gn g pi f1) p (p + 62)).bind fun f7 => (rdR 5 f7 b 2).bind fun x8 => (rdR 5 f7 b 0).bind fun x9 => (chk 1 f7 x8).bind fun _ => (mX1_spread fu f7 x8 x9).bind fun f11 => some f11) N (fun i g => ∃ m e, Ext 62 (hRt A V N) g1 0 (fun _ => 0) g m e ∧ ∀ n y, n < i → rH A V n y → inM g 62 y)
    (by
      intro n g _
      funext f1
      rw [mX5_markHeld_L9]
      simp only [cF0 hp, cLen hp, Option.bind_some, cF1 hp, cF2 hp, cPchk]
      rw [if_pos (nI_le (Nat.le_refl _) (by omega))])
    (by
      intro n i g hi ⟨m, e, a1, a2⟩
      obtain ⟨g', m', e', q1, q2, q3⟩ := eC_markRegs (b := b) (pi := pi) hfu hp hN5 hi hr (hSn i hi) wR a1.1
      refine ⟨g', ⟨m', e', Ext_trans a1 q2 (fun _ w => w) (fun x w => Or.inl ⟨i, hi, w⟩), fun n' y hn' hy => ?_⟩, ?_⟩
      · by_cases c : n' = i
        · subst c; exact q3 y hy
        · exact Ext_in a1.1 q2 hy.1 (a2 n' y (by omega) hy)
      · funext f1
        show mX5_markHeld_L9 fu b (n + 1) (nI i) (mkC b p N gn g pi f1) = _
        rw [mX5_markHeld_L9]
        simp only [cF0 hp, cLen hp, Option.bind_some, cF2 hp, cNod hp hi (show N < 2 ^ 31 by omega), cchk2 hp hi, q1, nI_1]
        rw [if_neg (nI_ge hi (by omega))])
    fu g1 (by omega) ⟨0, fun _ => 0, Ext_refl c2, fun n y hn => absurd hn (by omega)⟩
  obtain ⟨m2, e2, a1, a2⟩ := h6
  have g20 : g2 0 0 = nI (A 0 2) := by rw [a1.2.2.2.2.1 0 (by omega) (by omega) (by omega), c4 0 (by omega) (by omega) (by omega), p1]
  have g2l : ∀ g, frM 62 g2 g → ∀ j, j < 62 → g j = gp j := fun g hg j hj => by
    rw [hg.1 j (by omega) (by omega) (by omega), a1.2.2.2.2.1 j (by omega) (by omega) (by omega), c4 j (by omega) (by omega) (by omega)]
  -- the letters
  obtain ⟨g3, h8, h9⟩ := lupI (T := jM → Option jM) (fun n i g f1 => mX3_markRefs_L2 fu p (p + 62) n (nI i) (mkC b p N gn g pi f1)) (fun g f1 => some (mkC b p N gn g pi f1)) (A 0 2) (fun i g => ∃ m e, Ext 62 (hRt A V N) g2 m2 e2 g m e ∧ ∀ j, j < i → A 14 j = 1 → inM g 62 (A 15 j))
    (by
      intro n g ⟨m, e, q1, _⟩
      funext f1
      rw [mX3_markRefs_L2]
      simp only [cP1, Option.bind_some, g2l g q1.2.2.2.2 0 (by omega), p1]
      rw [if_pos (nI_le (Nat.le_refl _) (by omega))])
    (by
      intro n i g hi ⟨m, e, q1, q2⟩
      obtain ⟨m1, m2', m3, ho, m5⟩ := wM.2 i hi
      have hpi := p2 i (by omega)
      have hl := g2l g q1.2.2.2.2 (2 + pi i) (by omega)
      obtain ⟨l0, l1, l2, l3, l4, l5⟩ := p4 i hi
      have ev : ∀ f1, mX3_markRefs_L2 fu p (p + 62) (n + 1) (nI i) (mkC b p N gn g pi f1) = if A 14 i = 1 then (mX1_add (mkC b p N gn g pi f1) (p + 62) (nI (A 15 i))).bind fun f11 => mX3_markRefs_L2 fu p (p + 62) n (nI (i + 1)) f11 else mX3_markRefs_L2 fu p (p + 62) n (nI (i + 1)) (mkC b p N gn g pi f1) := by
        intro f1
        rw [mX3_markRefs_L2]
        simp only [cP1, Option.bind_some, g2l g q1.2.2.2.2 0 (by omega), p1]
        rw [if_neg (nI_ge hi (by omega))]
        simp (disch := omega) only [cP0, cLat, cLg0, cLg3, Option.bind_some, hl, l0, l3, cMchk hr, nI_1]
        by_cases c : A 14 i = 1
        · rw [if_pos (by rw [c]; decide), if_pos c]
        · rw [if_neg (by rw [i1]; exact fun w => c ((nI_eq (by rcases m5 with m5 | m5 | m5 | m5 <;> omega) (by omega)).mp w)), if_neg c]
      by_cases c : A 14 i = 1
      · obtain ⟨g', m', e', b1, b2, b3⟩ := eC_add (b := b) (p := p) (N := N) (gn := gn) (pi := pi) hr q1.1 (show A 15 i < 120 by omega)
        refine ⟨g', ⟨m', e', Ext_trans q1 b2 (fun _ w => w) (fun x w => Or.inr ⟨i, hi, c, w.symm⟩), fun j hj hj1 => ?_⟩, ?_⟩
        · by_cases d : j = i
          · subst d; exact b3
          · have := (wM.2 j (by omega)).2.2.2.1
            exact Ext_in q1.1 b2 (by omega) (q2 j (by omega) hj1)
        · funext f1
          show mX3_markRefs_L2 fu p (p + 62) (n + 1) (nI i) (mkC b p N gn g pi f1) = _
          rw [ev, if_pos c, b1]
          rfl
      · refine ⟨g, ⟨m, e, q1, fun j hj hj1 => ?_⟩, ?_⟩
        · by_cases d : j = i
          · subst d; exact absurd hj1 c
          · exact q2 j (by omega) hj1
        · funext f1
          show mX3_markRefs_L2 fu p (p + 62) (n + 1) (nI i) (mkC b p N gn g pi f1) = _
          rw [ev, if_neg c])
    fu g2 (by omega) ⟨m2, e2, Ext_refl a1.1, fun j hj => absurd hj (by omega)⟩
  obtain ⟨m3, e3, b1, b2⟩ := h8
  have hx3 : Ext 62 (hRt A V N) g1 0 (fun _ => 0) g3 m3 e3 := Ext_trans a1 b1 (fun _ w => w) (fun _ w => w)
  have hin3 : ∀ x, x < 120 → inM g3 62 x → hRt A V N x := fun x hx hi => by
    rcases Ext_out c2 hx3 hx hi with w | w
    · obtain ⟨i, hi, -⟩ := (MK_in c2 hx).mp w
      omega
    · exact w
  obtain ⟨g4, m4, e4, s1, s2, s3, s4, s5, s6, s7, s8, s9⟩ := eC_spread (b := b) (pi := pi) (c := 0) hfu hp hN5 hr hSn wF b1.1 (by rw [hx3.2.2.2.2.2, c3]; rfl) (by omega) (fun x hx hi => hRt_gd hW0 (hin3 x hx hi)) (fun j hj => absurd hj (by omega))
  have hfr : ∀ j, j ≠ 62 → j ≠ 62 + 1 → j ≠ 62 + 2 → g4 j = gp j := fun j d1 d2 d3 => by
    rw [s5 j d1 d2 d3, hx3.2.2.2.2.1 j d1 d2 d3, c4 j d1 d2 d3]
  refine ⟨g4, m4, e4, fun f1 => ?_, s2, fun j hj => hfr j (by omega) (by omega) (by omega), SM_part hSM hr s2 hfr, fun x hx => ⟨fun hi P q1 q2 => ?_, fun hi => ?_⟩⟩
  · unfold mX5_markHeld
    simp only [cF2 hp, Option.bind_some, cMchk hr, c1]
    rw [i0]
    have e7 := congrFun h7 f1
    rw [e7]
    have e9 := congrFun h9 f1
    have e9' : mX3_markRefs fu (mkC b p N gn g2 pi f1) p (p + 62) = some (mkC b p N gn g3 pi f1) := by
      unfold mX3_markRefs
      rw [i0]
      exact e9
    simp only [e9', Option.bind_some, cF2 hp, cF0 hp, cMchk hr, s1]
  · exact s9 P (fun y hy w => q1 y (hin3 y hy w)) (fun y z _ w1 w2 => q2 y z w1 w2) x hx hi
  · have := hi (fun y => y < 120 ∧ inM g4 62 y) (fun y hy => ?_) (fun y z w1 w2 => ⟨w2.1, s8 y w1.1 w1.2 z w2⟩)
    · exact this.2
    · have hy2 : y < 120 := by have := (hRt_gd hW0 hy).1; omega
      refine ⟨hy2, s6 y hy2 ?_⟩
      rcases hy with ⟨n, hn, hy⟩ | ⟨i, hi, w1, w2⟩
      · exact Ext_in a1.1 b1 hy2 (a2 n y hn hy)
      · rw [← w2]; exact b2 i hi w1
end HE
