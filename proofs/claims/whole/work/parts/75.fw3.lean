theorem lupX {S T : Type} (Lf : Nat → Nat → S → T) (B : Nat) (I : Nat → S → Prop) (D : T → Prop) (hstep : ∀ n i s, I i s → D (Lf (n + 1) i s) ∨ (i < B ∧ ∃ s', I (i + 1) s' ∧ Lf (n + 1) i s = Lf n (i + 1) s')) : ∀ d i n s, B ≤ i + d → d < n → I i s → D (Lf n i s) := by
  intro d
  induction d with
  | zero =>
    intro i n s h1 h2 h3
    obtain ⟨n, rfl⟩ : ∃ q, n = q + 1 := ⟨n - 1, by omega⟩
    rcases hstep n i s h3 with h4 | ⟨h4, -⟩
    · exact h4
    · omega
  | succ d ih =>
    intro i n s h1 h2 h3
    obtain ⟨n, rfl⟩ : ∃ q, n = q + 1 := ⟨n - 1, by omega⟩
    rcases hstep n i s h3 with h4 | ⟨h4, s', h5, h6⟩
    · exact h4
    · rw [h6]
      exact ih (i + 1) n s' (by omega) (by omega) h5
theorem sm_tail {f : Nat → Nat} {N : Nat} : ∀ {K : Nat}, N ≤ K → (∀ m, N ≤ m → m < K → f m = 0) → sm f K = sm f N := by
  intro K
  induction K with
  | zero => intro h _; rw [show N = 0 by omega]
  | succ K ih =>
    intro h h0
    by_cases c : N = K + 1
    · rw [c]
    · show sm f K + f K = _
      rw [ih (by omega) (fun m h1 h2 => h0 m h1 (by omega)), h0 K (by omega) (by omega)]
      omega
noncomputable def pB (P : Prop) : Bool := @decide P (Classical.propDecidable P)
theorem pB_iff {P : Prop} : pB P = true ↔ P := by
  unfold pB
  exact @decide_eq_true_iff P (Classical.propDecidable P)
/-- the inner IMPORTS make up the total just when all IMPORTS are inner -/
theorem tot_inr {A : tA} {V : tV} {N cl x : Nat} {Gr O : Nat → Prop} (hW : WF A V N cl) (h0 : A 0 2 = 0) (hx : x < 120) : (A 3 x ≠ sm (fun m => if pB (inr A V N Gr O m x) then A 9 (120 * m + x) else 0) N ↔ ∃ m, m < 5 ∧ 0 < A 9 (120 * m + x) ∧ ¬ inr A V N Gr O m x) ∧ sm (fun m => if pB (inr A V N Gr O m x) then A 9 (120 * m + x) else 0) N ≤ A 3 x := by
  obtain ⟨⟨h11, hN1, hN5⟩, wR, wF, wT, wW, wE, wM, wTo, wI⟩ := hW
  have e1 := wE x hx
  rw [h0] at e1
  have e2 : sm (msW A x) 0 = 0 := rfl
  have e3 : sm (fun m => if pB (inr A V N Gr O m x) then A 9 (120 * m + x) else 0) 5 = sm (fun m => if pB (inr A V N Gr O m x) then A 9 (120 * m + x) else 0) N := sm_tail hN5 (fun m h1 h2 => by
    split
    · rcases Nat.eq_zero_or_pos (A 9 (120 * m + x)) with w | w
      · exact w
      · have := (wW m x h2 hx w).1
        omega
    · rfl)
  obtain ⟨p1, p2⟩ := sm_part (w := fun m => A 9 (120 * m + x)) (I := fun m => pB (inr A V N Gr O m x)) (n := 5)
  rw [e3] at p1 p2
  refine ⟨⟨fun h => ?_, fun ⟨m, m1, m2, m3⟩ h => ?_⟩, by omega⟩
  · apply Classical.byContradiction
    intro hn
    have : sm (fun m => if pB (inr A V N Gr O m x) then A 9 (120 * m + x) else 0) N = sm (fun m => A 9 (120 * m + x)) 5 := p1.mpr (fun m m1 m2 => pB_iff.mpr (Classical.byContradiction (fun w => hn ⟨m, m1, m2, w⟩)))
    omega
  · exact m3 (pB_iff.mp (p1.mp (by omega) m m1 m2))
section F3
variable {b p N : Nat} {gn : tN} {pi : Nat → Nat} {A : tA} {V : tV} {od : Nat → Nat → Nat} {q : Nat → Nat}
theorem eC_fw {fu cl id mg : Nat} {eg : Nat → Nat} {gp : tV} {Gr : Nat → Prop} (hfu : 2000 ≤ fu) (hp : b + 2 + 8 * N ≤ p) (hS : SIM A V N gn gp pi od q) (hW : WF A V N cl) (h0 : A 0 2 = 0) (hid : id < 120) (hG : MK gp 66 mg eg) (gG : ∀ x, x < 120 → (inM gp 66 x ↔ Gr x)) (hGd : ∀ x, Gr x → gd A N x) (hcl : ∀ o y, gd A N o → Gr o → fH A V o y → Gr y) :
    ∃ gp' mo eo, (∀ f1, mX4_findWithout fu (mkC b p N gn gp pi f1) (p + 65) (b + 1) (nI id) = some (mkC b p N gn gp' pi f1)) ∧ MK gp' 69 mo eo ∧ (∀ j, j < 69 → gp' j = gp j) ∧ (∀ x, x < 120 → inM gp' 69 x → Wo A V N Gr x) ∧ (¬ inM gp' 69 id → ∀ x, x < 120 → Wo A V N Gr x → inM gp' 69 x) := by
  have hW0 := hW
  obtain ⟨⟨h11, hN1, hN5⟩, wR, wF, wT, wW, wE, wM, wTo, wI⟩ := hW
  have hr : isM 66 := Or.inr (Or.inl rfl)
  have hr' : isM 69 := Or.inr (Or.inr rfl)
  have hSLT : ∀ n, n < N → SLT A V n gn := fun n hn => SN_SLT (hS.1 n hn)
  obtain ⟨g1, c1, c2, c3, c4⟩ := eC_clear (b := b) (p := p) (N := N) (gn := gn) (pi := pi) hr' hfu hS.2.2
  have gk : ∀ g, (∀ j, j < 69 → g j = gp j) → MK g 66 mg eg := fun g hg => MK_ext hG (hg _ (by omega)) (hg _ (by omega)) (hg _ (by omega))
  have gi : ∀ g, (∀ j, j < 69 → g j = gp j) → ∀ x, x < 120 → (inM g 66 x ↔ Gr x) := fun g hg x hx => by
    rw [← gG x hx]
    unfold inM
    rw [hg (66 + 1) (by omega)]
  -- from outside
  obtain ⟨g2, h6, h7⟩ := lupI (S := tV) (T := jM → Option jM) (fun n' i g f1 => mX4_findWithout_L9 fu (p + 65) (b + 1) (nI id) n' (nI i) (mkC b p N gn g pi f1)) (fun g f1 => mX4_findWithout_L30 fu (p + 65) (b + 1) (nI id) fu (nI 0) (mkC b p N gn g pi f1)) N (fun i g => ∃ m e, Ext 69 (lO A V N Gr) g1 0 (fun _ => 0) g m e ∧ ∀ n x, n < i → lOn A V N Gr n x → inM g 69 x)
    (by
      intro n' g _
      funext f1
      rw [mX4_findWithout_L9]
      simp only [cLen hp, Option.bind_some]
      rw [if_pos (nI_le (Nat.le_refl _) (by omega)), i0])
    (by
      intro n' i g hi ⟨m, e, a1, a2⟩
      have hlow : ∀ j, j < 69 → g j = gp j := fun j hj => by rw [a1.2.2.2.2.1 j (by omega) (by omega) (by omega), c4 j (by omega) (by omega) (by omega)]
      obtain ⟨g', m', e', t1, t2, t3⟩ := eC_mho (b := b) (p := p) (N := N) (gn := gn) (pi := pi) (Gr := Gr) hfu hp hN5 hi (hSLT i hi) wR wF (gk g hlow) a1.1 (gi g hlow)
      refine ⟨g', ⟨m', e', Ext_trans a1 t2 (fun _ w => w) (fun x w => lO_n.mpr ⟨i, hi, w⟩), fun n x hn hx => ?_⟩, ?_⟩
      · by_cases c : n = i
        · subst c; exact t3 x hx
        · exact Ext_in a1.1 t2 hx.1 (a2 n x (by omega) hx)
      · funext f1
        show mX4_findWithout_L9 fu (p + 65) (b + 1) (nI id) (n' + 1) (nI i) (mkC b p N gn g pi f1) = _
        rw [mX4_findWithout_L9]
        simp only [cLen hp, Option.bind_some, cNod hp hi (show N < 2 ^ 31 by omega), cTchk, t1, nI_1]
        rw [if_neg (nI_ge hi (by omega))])
    fu g1 (by omega) ⟨0, fun _ => 0, Ext_refl c2, fun n x hn => absurd hn (by omega)⟩
  obtain ⟨m2, e2, a1, a2⟩ := h6
  have hlow2 : ∀ j, j < 69 → g2 j = gp j := fun j hj => by rw [a1.2.2.2.2.1 j (by omega) (by omega) (by omega), c4 j (by omega) (by omega) (by omega)]
  -- the rounds
  have fin := lupX (S := tV) (T := jM → Option jM) (fun n' i g f1 => mX4_findWithout_L30 fu (p + 65) (b + 1) (nI id) n' (nI i) (mkC b p N gn g pi f1)) 121 (fun i g => ∃ mo eo c, MK g 69 mo eo ∧ g 69 1 = nI c ∧ c ≤ mo ∧ (∀ j, j < c → ∀ y, fH A V (eo j) y → inM g 69 y) ∧ (∀ x, x < 120 → inM g 69 x → Gr x ∧ Wo A V N Gr x) ∧ (∀ x, lO A V N Gr x → inM g 69 x) ∧ i ≤ mo ∧ ∀ j, j < 69 → g j = gp j)
    (fun t => ∃ gp' mo eo, t = (fun f1 => some (mkC b p N gn gp' pi f1)) ∧ MK gp' 69 mo eo ∧ (∀ j, j < 69 → gp' j = gp j) ∧ (∀ x, x < 120 → inM gp' 69 x → Wo A V N Gr x) ∧ (¬ inM gp' 69 id → ∀ x, x < 120 → Wo A V N Gr x → inM gp' 69 x))
    (by
      intro n' i g ⟨mo, eo, c, k1, k2, k3, k4, k5, k6, k7, k8⟩
      have hmo := k1.1
      by_cases hin : inM g 69 id
      · left
        refine ⟨g, mo, eo, ?_, k1, k8, fun x hx w => (k5 x hx w).2, fun w => absurd hin w⟩
        funext f1
        show mX4_findWithout_L30 fu (p + 65) (b + 1) (nI id) (n' + 1) (nI i) (mkC b p N gn g pi f1) = _
        have hin' : g (69 + 1) id = 1 := hin
        rw [mX4_findWithout_L30, i120, if_neg (nI_nlt (by omega) (by omega))]
        simp only [cT1, Option.bind_some, cMchk hr', eC_has hr' k1 hid, hin']
        rw [if_neg (by decide)]
      · have hin' : g (69 + 1) id = 0 := (MK_01 k1 hid).resolve_left hin
        -- spread
        obtain ⟨g3, m3, e3, s1, s2, s3, s4, s5, s6, s7, s8, s9⟩ := eC_spread (b := b) (pi := pi) (c := c) hfu hp hN5 hr' hS.1 wF k1 k2 k3 (fun x hx w => hGd x (k5 x hx w).1) k4
        have low3 : ∀ j, j < 69 → g3 j = gp j := fun j hj => by rw [s5 j (by omega) (by omega) (by omega), k8 j hj]
        have snd3 : ∀ x, x < 120 → inM g3 69 x → Gr x ∧ Wo A V N Gr x := fun x hx w => by
          refine s9 (fun x => Gr x ∧ Wo A V N Gr x) k5 (fun x y w1 w2 w3 => ⟨hcl x y w1 w2.1 w3, Wo_Cld.2.1 x y w1 w2.1 w2.2 w3⟩) x hx w
        -- the inner weights
        obtain ⟨g4, t1, t2, t3⟩ := eC_sumInner (b := b) (p := p) (N := N) (gn := gn) (pi := pi) (Gr := Gr) (O := fun x => inM g3 69 x) (I := fun m x => pB (inr A V N Gr (fun x => inM g3 69 x) m x)) hfu hp hN5 (fun n hn => ⟨hSLT n hn, fun x hx => (hS.1 n hn).2.2.2.2.1 x hx⟩) wR wF (gk g3 low3) s2 (gi g3 low3) (fun x _ => Iff.rfl) (fun m x _ _ => pB_iff)
        have low4 : ∀ j, j < 69 → g4 j = gp j := fun j hj => by rw [t3 j (by omega) (by omega), low3 j hj]
        have in4 : ∀ x, inM g4 69 x ↔ inM g3 69 x := fun x => by unfold inM; rw [t3 (69 + 1) (by omega) (by omega)]
        have mk4 : MK g4 69 m3 e3 := MK_ext s2 (t3 _ (by omega) (by omega)) (t3 _ (by omega) (by omega)) (t3 _ (by omega) (by omega))
        -- the uncovered
        obtain ⟨g5, m5, e5, u1, u2, u3⟩ := eC_unc (b := b) (p := p) (N := N) (gn := gn) (pi := pi) (A := A) (S := fun x => sm (fun m => if pB (inr A V N Gr (fun x => inM g3 69 x) m x) then A 9 (120 * m + x) else 0) N) hfu hp hN5 (fun x hx => by
          have := ((hS.1 (x / 24) (by omega)).2.2.2.1 (x % 24) (by omega)).2.2
          rw [show 24 * (x / 24) + x % 24 = x by omega] at this
          exact this) (fun x hx => by
          have a := bndT wTo hx
          have b := (tot_inr (V := V) (Gr := Gr) (O := fun x => inM g3 69 x) hW0 h0 hx).2
          exact ⟨by omega, by omega⟩) t2 (gk g4 low4) (fun x hx w => (hGd x ((gi g4 low4 x hx).mp w)).1) mk4
        have low5 : ∀ j, j < 69 → g5 j = gp j := fun j hj => by rw [u2.2.2.2.2.1 j (by omega) (by omega) (by omega), low4 j hj]
        have snd5 : ∀ x, x < 120 → inM g5 69 x → Gr x ∧ Wo A V N Gr x := fun x hx w => by
          rcases Ext_out mk4 u2 hx w with w | ⟨-, w1, w2, w3⟩
          · exact snd3 x hx ((in4 x).mp w)
          · have hg := (gi g4 low4 x hx).mp w1
            refine ⟨hg, ?_⟩
            obtain ⟨m, m1, m2, m3⟩ := (tot_inr (V := V) (Gr := Gr) (O := fun x => inM g3 69 x) hW0 h0 hx).1.mp w3
            exact Wo_Cld.2.2 x m hx m1 hg m2 (fun q => m3 (inr_anti (fun y hy hy2 => (snd3 y (by have := hy.1; omega) hy2).2) q))
        have mono35 : ∀ x, x < 120 → inM g3 69 x → inM g5 69 x := fun x hx w => Ext_in mk4 u2 hx ((in4 x).mpr w)
        have ev : ∀ f1, mX4_findWithout_L30 fu (p + 65) (b + 1) (nI id) (n' + 1) (nI i) (mkC b p N gn g pi f1) = if m5 ≤ m3 then some (mkC b p N gn g5 pi f1) else mX4_findWithout_L30 fu (p + 65) (b + 1) (nI id) n' (nI (i + 1)) (mkC b p N gn g5 pi f1) := by
          intro f1
          rw [mX4_findWithout_L30, i120, if_neg (nI_nlt (by omega) (by omega))]
          simp only [cT1, Option.bind_some, cMchk hr', eC_has hr' k1 hid, hin', s1, cTchk, t1, u1, nI_1]
          rw [if_pos trivial]
          by_cases c : m5 ≤ m3
          · rw [if_pos c, if_pos c, if_pos rfl]
          · rw [if_neg c, if_neg c, if_neg (by decide)]
        by_cases c5 : m5 ≤ m3
        · left
          have heq : m5 = m3 := by have := u2.2.1; omega
          have same : ∀ x, x < 120 → inM g5 69 x → inM g3 69 x := fun x hx w => by
            obtain ⟨j, hj, he⟩ := (MK_in u2.1 hx).mp w
            exact (MK_in s2 hx).mpr ⟨j, by omega, by rw [← u2.2.2.1 j (by omega)]; exact he⟩
          refine ⟨g5, m5, e5, ?_, u2.1, low5, fun x hx w => (snd5 x hx w).2, fun _ x hx w => ?_⟩
          · funext f1
            show mX4_findWithout_L30 fu (p + 65) (b + 1) (nI id) (n' + 1) (nI i) (mkC b p N gn g pi f1) = _
            rw [ev, if_pos c5]
          · refine (w (fun x => x < 120 ∧ inM g5 69 x) ⟨fun y hy => ⟨hy.1, mono35 y hy.1 (s6 y hy.1 (k6 y hy))⟩, fun o y ho hg w1 w2 => ⟨w2.1, mono35 y w2.1 (s8 o w1.1 (same o w1.1 w1.2) y w2)⟩, fun y m hy hm hg hw hi => ⟨hy, ?_⟩⟩).2
            refine u3 y hy ((gi g4 low4 y hy).mpr hg) ?_ ?_
            · have := bndW (n := m) wE wTo hm hy
              omega
            · refine (tot_inr (V := V) (Gr := Gr) (O := fun x => inM g3 69 x) hW0 h0 hy).1.mpr ⟨m, hm, hw, fun q => hi (inr_anti (fun z hz hz2 => same z hz2.1 hz2.2) q)⟩
        · right
          refine ⟨by omega, g5, ⟨m5, e5, m3, u2.1, ?_, by omega, fun j hj y hy => ?_, snd5, fun x hx => mono35 x hx.1 (s6 x hx.1 (k6 x hx)), by omega, low5⟩, ?_⟩
          · rw [u2.2.2.2.2.2, t3 69 (by omega) (by omega), s4]
          · rw [u2.2.2.1 j hj] at hy
            have hj3 := (s2.2.2.1 j hj).1
            exact mono35 y hy.1 (s8 (e3 j) hj3 ((MK_in s2 hj3).mpr ⟨j, hj, rfl⟩) y hy)
          · funext f1
            show mX4_findWithout_L30 fu (p + 65) (b + 1) (nI id) (n' + 1) (nI i) (mkC b p N gn g pi f1) = _
            rw [ev, if_neg c5])
    121 0 fu g2 (by omega) (by omega) ⟨m2, e2, 0, a1.1, by rw [a1.2.2.2.2.2, c3]; rfl, by omega, fun j hj => absurd hj (by omega), fun x hx w => by
      rcases Ext_out c2 a1 hx w with w | w
      · obtain ⟨i, hi, -⟩ := (MK_in c2 hx).mp w
        omega
      · exact ⟨w.2.1, Wo_Cld.1 x w⟩, fun x hx => by
      obtain ⟨n, hn, hx'⟩ := lO_n.mp hx
      exact a2 n x hn hx', by omega, hlow2⟩
  obtain ⟨gp', mo, eo, z1, z2, z3, z4, z5⟩ := fin
  refine ⟨gp', mo, eo, fun f1 => ?_, z2, z3, z4, z5⟩
  unfold mX4_findWithout
  simp only [cT1, Option.bind_some, cMchk hr', c1]
  have e7 := congrFun h7 f1
  have e9 := congrFun z1 f1
  rw [i0, e7, e9]
end F3
