/-! collect: the class sweeps -/
section SW
variable {b p N : Nat} {gn : tN} {gp : tV} {pi : Nat → Nat} {A : tA} {V : tV} {od : Nat → Nat} {q : Nat} {mkd : Nat → Bool}
theorem eC_sweep {fu n m : Nat} {e : Nat → Nat} (hfu : 2000 ≤ fu) (hp : b + 2 + 8 * N ≤ p) (hN : N ≤ 5) (hn : n < N) (hS : SN A V n gn od q) (hL : lay1 A n od q) (hF : ∀ k, k < 24 → A 4 (24 * n + k) = 1 → A 1 (24 * n + k) ≤ 12 ∧ ∀ f, A 1 (24 * n + k) ≤ f → f < 12 → A 5 (12 * (24 * n + k) + f) = 0 ∧ V 6 (12 * (24 * n + k) + f) = 0) (hM : MK gp 62 m e) (hk : ∀ x, x < 120 → (inM gp 62 x ↔ mkd x = true)) :
    ∃ gn', (∀ f1, mX2_sweep fu (mkC b p N gn gp pi f1) (b + 2 + 8 * n) (p + 62) = some (nI (q - kp (fun k => mkd (24 * n + k)) od q), mkC b p N gn' gp pi f1)) ∧ (∀ m, m ≠ n → gn' m = gn m) ∧
    ∀ (A' : tA) (V' : tV), A' 1 = A 1 → A' 3 = A 3 → A' 5 = A 5 → A' 7 = A 7 → A' 9 = A 9 → (∀ k, k < 24 → A' 4 (24 * n + k) = if mkd (24 * n + k) then A 4 (24 * n + k) else 0) → (∀ t, t < kp (fun k => mkd (24 * n + k)) od q → A' 2 (24 * n + ko (fun k => mkd (24 * n + k)) od q t) = ca (fun k => mkd (24 * n + k)) od q (fun k => A 1 (24 * n + k)) t) → A' 10 n = ca (fun k => mkd (24 * n + k)) od q (fun k => A 1 (24 * n + k)) (kp (fun k => mkd (24 * n + k)) od q) → V' 6 = V 6 → V' 8 = V 8 → V' 11 n = mv (fun k => mkd (24 * n + k)) od q (fun k => A 1 (24 * n + k)) (fun k => A 2 (24 * n + k)) (V 11 n) (kp (fun k => mkd (24 * n + k)) od q) → SN A' V' n gn' (ko (fun k => mkd (24 * n + k)) od q) (kp (fun k => mkd (24 * n + k)) od q) := by
  have hr : isM 62 := Or.inl rfl
  obtain ⟨q1, q2, q3, q4, q5, q6, q7⟩ := hL
  generalize hmk : (fun k => mkd (24 * n + k)) = mk
  have hmk' : ∀ k, mkd (24 * n + k) = mk k := fun k => by rw [← hmk]
  generalize hsz : (fun k => A 1 (24 * n + k)) = sz
  have hsz' : ∀ k, A 1 (24 * n + k) = sz k := fun k => by rw [← hsz]
  generalize had : (fun k => A 2 (24 * n + k)) = ad
  have had' : ∀ k, A 2 (24 * n + k) = ad k := fun k => by rw [← had]
  obtain ⟨s1, s2, s3, s4, s5, s6, s7⟩ := hS
  have hcab : ∀ i, i ≤ q → ca mk od q sz (kp mk od i) ≤ 160 := fun i hi => by
    have h1 := ca_le mk od q sz hi
    have h2 := sm_mono (f := fun j => sz (od j) + 1) hi
    have h3 : sm (fun j => A 1 (24 * n + od j) + 1) q = sm (fun j => sz (od j) + 1) q := by simp only [hsz']
    omega
  have hadb : ∀ i, i < q → ad (od i) ≤ 160 := fun i hi => by
    have h1 := (q2 i hi).2.2
    have h2 := sm_mono (f := fun j => A 1 (24 * n + od j) + 1) (show i ≤ q by omega)
    rw [had'] at h1
    omega
  have hszb : ∀ i, i < q → sz (od i) ≤ 12 := fun i hi => by
    have := (hF (od i) (q2 i hi).1 (q2 i hi).2.1).1
    rw [hsz'] at this
    exact this
  obtain ⟨gn', h6, h7⟩ := lupI (S := tN) (T := jM → Option (Int32 × jM)) (fun n' i g f1 => mX2_sweep_L13 fu (b + 2 + 8 * n) (p + 62) (nI q) n' (nI (kp mk od i)) (nI (ca mk od q sz (kp mk od i))) (nI i) (mkC b p N g gp pi f1)) (fun g f1 => some (nI q - nI (kp mk od q), mkC b p N (up3 (up3 g n 0 0 (nI (kp mk od q))) n 0 2 (nI (ca mk od q sz (kp mk od q)))) gp pi f1)) q (fun i g => (∀ m, m ≠ n → g m = gn m) ∧ g n 5 = gn n 5 ∧ g n 6 = gn n 6 ∧ g n 0 1 = gn n 0 1 ∧ (∀ a, a < 6 → g n 1 a = gn n 1 a ∧ g n 2 a = gn n 2 a) ∧ g n 0 3 = mv mk od q sz ad (V 11 n) (kp mk od i) ∧ (∀ j, j < q → g n 7 j = nI (od (ixn mk od i j))) ∧ (∀ i', i' < q → (i' < i → mk (od i') = true → g n 4 (od i') = nI (ca mk od q sz (kp mk od i')) ∧ g n 3 (od i') = gn n 3 (od i') ∧ ∀ f, f < 12 → g n 1 (6 + 12 * od i' + f) = gn n 1 (6 + 12 * od i' + f) ∧ g n 2 (6 + 12 * od i' + f) = gn n 2 (6 + 12 * od i' + f)) ∧ (i' < i → mk (od i') = false → g n 3 (od i') = -1 ∧ ∀ f, f < 12 → g n 1 (6 + 12 * od i' + f) = 0 ∧ g n 2 (6 + 12 * od i' + f) = 0) ∧ (i ≤ i' → g n 3 (od i') = gn n 3 (od i') ∧ g n 4 (od i') = gn n 4 (od i') ∧ ∀ f, f < 12 → g n 1 (6 + 12 * od i' + f) = gn n 1 (6 + 12 * od i' + f) ∧ g n 2 (6 + 12 * od i' + f) = gn n 2 (6 + 12 * od i' + f))) ∧ ∀ k, k < 24 → (∀ i', i' < q → od i' ≠ k) → g n 3 k = gn n 3 k ∧ ∀ f, f < 12 → g n 1 (6 + 12 * k + f) = gn n 1 (6 + 12 * k + f) ∧ g n 2 (6 + 12 * k + f) = gn n 2 (6 + 12 * k + f))
    (by
      intro n' g _
      funext f1
      rw [mX2_sweep_L13, if_pos (nI_le (Nat.le_refl _) (by omega))]
      simp only [cNw0 hp hn, cNw2 hp hn, Option.bind_some])
    (by
      intro n' i g hi ⟨g1, g2, g3, g4, g5, g6, g7, g8, g9⟩
      have hki := kp_le mk od i
      have ho := (q2 i hi).1
      have hth := (q2 i hi).2.1
      have e7 : g n 7 i = nI (od i) := by rw [g7 i hi, (ix_all mk od i).2 i (Nat.le_refl _)]
      obtain ⟨c3, c4, cf⟩ := (g8 i hi).2.2 (Nat.le_refl _)
      have c3' : g n 3 (od i) = nI (sz (od i)) := by rw [c3, ((s4 (od i) ho).1 hth).1, hsz']
      have c4' : g n 4 (od i) = nI (ad (od i)) := by rw [c4, ((s4 (od i) ho).1 hth).2, had']
      have hb1 := hcab i (by omega)
      have hb2 := hadb i hi
      have hb3 := hszb i hi
      have hx : 24 * n + od i < 120 := by omega
      cases hm : mk (od i) with
      | false =>
        have hhas : gp (62 + 1) (24 * n + od i) = 0 := (MK_01 hM hx).resolve_left (fun w => by
          have := (hk _ hx).mp w
          rw [hmk', hm] at this
          exact absurd this (by decide))
        obtain ⟨g', t1, t2, t3⟩ := eC_emptyFields (b := b) (gp := gp) (pi := pi) (gn := g) hfu hp hn ho hb3 c3'
        have hfz : ∀ f, f < 12 → g' n 1 (6 + 12 * od i + f) = 0 ∧ g' n 2 (6 + 12 * od i + f) = 0 := fun f hf => by
          by_cases c : f < sz (od i)
          · exact t3 f c
          · rw [t2 n 1 _ (by omega), t2 n 2 _ (by omega), (cf f hf).1, (cf f hf).2, (s2 (od i) f ho hf hth).1, (s2 (od i) f ho hf hth).2]
            have := (hF (od i) ho hth).2 f (by rw [hsz']; omega) hf
            rw [this.1, this.2, ckd0]
            exact ⟨rfl, rfl⟩
        refine ⟨up3 g' n 3 (od i) (-1), ⟨fun m hm' => ?_, ?_, ?_, ?_, fun a ha => ?_, ?_, fun j hj => ?_, fun i' hi' => ⟨fun w1 w2 => ?_, fun w1 w2 => ?_, fun w1 => ?_⟩, fun k hk1 hk2 => ?_⟩, ?_⟩
        · rw [← g1 m hm']
          funext j i'
          rw [up3_n _ _ (by omega), t2 m j i' (by omega)]
        · rw [← g2]; funext i'; rw [up3_n _ _ (by omega), t2 n 5 i' (by omega)]
        · rw [← g3]; funext i'; rw [up3_n _ _ (by omega), t2 n 6 i' (by omega)]
        · rw [up3_n _ _ (by omega), t2 n 0 1 (by omega)]; exact g4
        · rw [up3_n _ _ (by omega), up3_n _ _ (by omega), t2 n 1 a (by omega), t2 n 2 a (by omega)]; exact g5 a ha
        · rw [up3_n _ _ (by omega), t2 n 0 3 (by omega), kp_n mk od hm]; exact g6
        · rw [up3_n _ _ (by omega), t2 n 7 j (by omega)]
          have : ixn mk od (i + 1) = ixn mk od i := by simp only [ixn, hm]; rfl
          rw [this]; exact g7 j hj
        · have hne : i' ≠ i := fun w => by subst w; rw [hm] at w2; exact absurd w2 (by decide)
          have hoo : od i' ≠ od i := fun w => hne (q3 i' i hi' hi w)
          have hoi := (q2 i' hi').1
          obtain ⟨d1, d2, d3⟩ := (g8 i' hi').1 (by omega) w2
          refine ⟨?_, ?_, fun f hf => ?_⟩
          · rw [up3_n _ _ (by omega), t2 n 4 _ (by omega)]; exact d1
          · rw [up3_n _ _ (by omega), t2 n 3 _ (by omega)]; exact d2
          · rw [up3_n _ _ (by omega), up3_n _ _ (by omega), t2 n 1 _ (by omega), t2 n 2 _ (by omega)]; exact d3 f hf
        · by_cases hne : i' = i
          · subst hne
            refine ⟨up3_s _ _ _ _ _, fun f hf => ?_⟩
            rw [up3_n _ _ (by omega), up3_n _ _ (by omega)]
            exact hfz f hf
          · have hoo : od i' ≠ od i := fun w => hne (q3 i' i hi' hi w)
            obtain ⟨d1, d2⟩ := (g8 i' hi').2.1 (by omega) w2
            refine ⟨?_, fun f hf => ?_⟩
            · rw [up3_n _ _ (by omega), t2 n 3 _ (by omega)]; exact d1
            · rw [up3_n _ _ (by omega), up3_n _ _ (by omega), t2 n 1 _ (by omega), t2 n 2 _ (by omega)]; exact d2 f hf
        · have hoo : od i' ≠ od i := fun w => by have := q3 i' i hi' hi w; omega
          obtain ⟨d1, d2, d3⟩ := (g8 i' hi').2.2 (by omega)
          refine ⟨?_, ?_, fun f hf => ?_⟩
          · rw [up3_n _ _ (by omega), t2 n 3 _ (by omega)]; exact d1
          · rw [up3_n _ _ (by omega), t2 n 4 _ (by omega)]; exact d2
          · rw [up3_n _ _ (by omega), up3_n _ _ (by omega), t2 n 1 _ (by omega), t2 n 2 _ (by omega)]; exact d3 f hf
        · have hoo := hk2 i hi
          obtain ⟨d1, d2⟩ := g9 k hk1 hk2
          refine ⟨?_, fun f hf => ?_⟩
          · rw [up3_n _ _ (by omega), t2 n 3 _ (by omega)]; exact d1
          · rw [up3_n _ _ (by omega), up3_n _ _ (by omega), t2 n 1 _ (by omega), t2 n 2 _ (by omega)]; exact d2 f hf
        · funext f1
          show mX2_sweep_L13 fu (b + 2 + 8 * n) (p + 62) (nI q) (n' + 1) (nI (kp mk od i)) (nI (ca mk od q sz (kp mk od i))) (nI i) (mkC b p N g gp pi f1) = _
          rw [mX2_sweep_L13, if_neg (nI_ge hi (by omega))]
          simp (disch := omega) only [cNr7, cNl7, gl_nI, Option.bind_some, e7, cNi, eC_idOf, cMchk hr, nI_1]
          rw [show n * 24 + od i = 24 * n + od i by omega, eC_has hr hM hx, hhas]
          simp (disch := omega) only [Option.bind_some, cchk2, t1, cNr3, cNs3, gs_nI]
          rw [if_pos trivial, kp_n mk od hm]
      | true =>
        have hhas : gp (62 + 1) (24 * n + od i) = 1 := (hk _ hx).mpr (by rw [hmk']; exact hm)
        have hko := ko_at mk od q hi hm
        -- moved or not
        obtain ⟨g', t1, t2, t3, t4⟩ : ∃ g', (∀ f1, mX2_moveTo (mkC b p N g gp pi f1) (b + 2 + 8 * n) (nI (od i)) (nI (ca mk od q sz (kp mk od i))) = some (mkC b p N g' gp pi f1)) ∧ g' n 4 (od i) = nI (ca mk od q sz (kp mk od i)) ∧ g' n 0 3 = mv mk od q sz ad (V 11 n) (kp mk od i + 1) ∧ ∀ m j i', ¬ (m = n ∧ j = 4 ∧ i' = od i) → ¬ (m = n ∧ j = 0 ∧ i' = 3) → g' m j i' = g m j i' := by
          by_cases c : ad (od i) = ca mk od q sz (kp mk od i)
          · refine ⟨g, fun f1 => ?_, by rw [c4', c], ?_, fun _ _ _ _ _ => rfl⟩
            · unfold mX2_moveTo
              simp (disch := omega) only [cNr4, cNl4, gl_nI, Option.bind_some, c4']
              rw [if_pos (by rw [c])]
            · rw [g6]
              simp only [mv]
              rw [hko, if_pos c]
          · refine ⟨up3 (up3 g n 4 (od i) (nI (ca mk od q sz (kp mk od i)))) n 0 3 (mv mk od q sz ad (V 11 n) (kp mk od i + 1)), fun f1 => ?_, ?_, up3_s _ _ _ _ _, fun m j i' w1 w2 => ?_⟩
            · unfold mX2_moveTo
              have e3 : up3 g n 4 (od i) (nI (ca mk od q sz (kp mk od i))) n 0 3 = mv mk od q sz ad (V 11 n) (kp mk od i) := by rw [up3_n _ _ (by omega)]; exact g6
              have e4 : up3 g n 4 (od i) (nI (ca mk od q sz (kp mk od i))) n 3 (od i) = nI (sz (od i)) := by rw [up3_n _ _ (by omega)]; exact c3'
              simp (disch := omega) only [cNr4, cNl4, gl_nI, Option.bind_some, c4', cNs4, gs_nI, cNg3, e3, cNr3, cNl3, e4, cNw3, nI_1]
              rw [if_neg (fun w => c ((nI_eq (by omega) (by omega)).mp w))]
              simp only [mv]
              rw [hko, if_neg c]
            · rw [up3_n _ _ (by omega), up3_s]
            · rw [up3_n _ _ (by omega), up3_n _ _ (by omega)]
        refine ⟨up3 g' n 7 (kp mk od i) (nI (od i)), ⟨fun m hm' => ?_, ?_, ?_, ?_, fun a ha => ?_, ?_, fun j hj => ?_, fun i' hi' => ⟨fun w1 w2 => ?_, fun w1 w2 => ?_, fun w1 => ?_⟩, fun k hk1 hk2 => ?_⟩, ?_⟩
        · rw [← g1 m hm']
          funext j i'
          rw [up3_n _ _ (by omega), t4 m j i' (by omega) (by omega)]
        · rw [← g2]; funext i'; rw [up3_n _ _ (by omega), t4 n 5 i' (by omega) (by omega)]
        · rw [← g3]; funext i'; rw [up3_n _ _ (by omega), t4 n 6 i' (by omega) (by omega)]
        · rw [up3_n _ _ (by omega), t4 n 0 1 (by omega) (by omega)]; exact g4
        · rw [up3_n _ _ (by omega), up3_n _ _ (by omega), t4 n 1 a (by omega) (by omega), t4 n 2 a (by omega) (by omega)]; exact g5 a ha
        · rw [up3_n _ _ (by omega), kp_s mk od hm]; exact t3
        · have e : ixn mk od (i + 1) = upP (ixn mk od i) (kp mk od i) i := by simp only [ixn, hm, if_true]
          rw [e]
          simp only [upP]
          by_cases c : j = kp mk od i
          · rw [if_pos c, c, up3_s]
          · rw [if_neg c, up3_n _ _ (by omega), t4 n 7 j (by omega) (by omega)]
            exact g7 j hj
        · by_cases hne : i' = i
          · subst hne
            refine ⟨?_, ?_, fun f hf => ?_⟩
            · rw [up3_n _ _ (by omega)]; exact t2
            · rw [up3_n _ _ (by omega), t4 n 3 _ (by omega) (by omega)]; exact c3
            · rw [up3_n _ _ (by omega), up3_n _ _ (by omega), t4 n 1 _ (by omega) (by omega), t4 n 2 _ (by omega) (by omega)]; exact cf f hf
          · have hoo : od i' ≠ od i := fun w => hne (q3 i' i hi' hi w)
            obtain ⟨d1, d2, d3⟩ := (g8 i' hi').1 (by omega) w2
            refine ⟨?_, ?_, fun f hf => ?_⟩
            · rw [up3_n _ _ (by omega), t4 n 4 _ (by omega) (by omega)]; exact d1
            · rw [up3_n _ _ (by omega), t4 n 3 _ (by omega) (by omega)]; exact d2
            · rw [up3_n _ _ (by omega), up3_n _ _ (by omega), t4 n 1 _ (by omega) (by omega), t4 n 2 _ (by omega) (by omega)]; exact d3 f hf
        · have hne : i' ≠ i := fun w => by subst w; rw [hm] at w2; exact absurd w2 (by decide)
          obtain ⟨d1, d2⟩ := (g8 i' hi').2.1 (by omega) w2
          refine ⟨?_, fun f hf => ?_⟩
          · rw [up3_n _ _ (by omega), t4 n 3 _ (by omega) (by omega)]; exact d1
          · rw [up3_n _ _ (by omega), up3_n _ _ (by omega), t4 n 1 _ (by omega) (by omega), t4 n 2 _ (by omega) (by omega)]; exact d2 f hf
        · have hoo : od i' ≠ od i := fun w => by have := q3 i' i hi' hi w; omega
          obtain ⟨d1, d2, d3⟩ := (g8 i' hi').2.2 (by omega)
          refine ⟨?_, ?_, fun f hf => ?_⟩
          · rw [up3_n _ _ (by omega), t4 n 3 _ (by omega) (by omega)]; exact d1
          · rw [up3_n _ _ (by omega), t4 n 4 _ (by omega) (by omega)]; exact d2
          · rw [up3_n _ _ (by omega), up3_n _ _ (by omega), t4 n 1 _ (by omega) (by omega), t4 n 2 _ (by omega) (by omega)]; exact d3 f hf
        · obtain ⟨d1, d2⟩ := g9 k hk1 hk2
          refine ⟨?_, fun f hf => ?_⟩
          · rw [up3_n _ _ (by omega), t4 n 3 _ (by omega) (by omega)]; exact d1
          · rw [up3_n _ _ (by omega), up3_n _ _ (by omega), t4 n 1 _ (by omega) (by omega), t4 n 2 _ (by omega) (by omega)]; exact d2 f hf
        · funext f1
          show mX2_sweep_L13 fu (b + 2 + 8 * n) (p + 62) (nI q) (n' + 1) (nI (kp mk od i)) (nI (ca mk od q sz (kp mk od i))) (nI i) (mkC b p N g gp pi f1) = _
          have e3 : g' n 3 (od i) = nI (sz (od i)) := by rw [t4 n 3 _ (by omega) (by omega)]; exact c3'
          rw [mX2_sweep_L13, if_neg (nI_ge hi (by omega))]
          simp (disch := omega) only [cNr7, cNl7, gl_nI, Option.bind_some, e7, cNi, eC_idOf, cMchk hr, nI_1]
          rw [show n * 24 + od i = 24 * n + od i by omega, eC_has hr hM hx, hhas]
          simp (disch := omega) only [Option.bind_some, cchk2, t1, cNr3, cNl3, gl_nI, e3, cNr7, cNs7, gs_nI, nI_1, nI_add]
          rw [if_neg (by decide), kp_s mk od hm]
          show mX2_sweep_L13 fu (b + 2 + 8 * n) (p + 62) (nI q) n' (nI (kp mk od i + 1)) (nI (ca mk od q sz (kp mk od i) + (sz (od i) + 1))) (nI (i + 1)) _ = mX2_sweep_L13 fu (b + 2 + 8 * n) (p + 62) (nI q) n' (nI (kp mk od i + 1)) (nI (ca mk od q sz (kp mk od i) + (sz (ko mk od q (kp mk od i)) + 1))) (nI (i + 1)) _
          rw [hko])
    fu gn (by omega) ⟨fun _ _ => rfl, rfl, rfl, rfl, fun _ _ => ⟨rfl, rfl⟩, s7.2.2.2, fun j hj => by rw [s6 j hj]; rfl, fun i' hi' => ⟨fun w => absurd w (by omega), fun w => absurd w (by omega), fun _ => ⟨rfl, rfl, fun _ _ => ⟨rfl, rfl⟩⟩⟩, fun k _ _ => ⟨rfl, fun _ _ => ⟨rfl, rfl⟩⟩⟩
  obtain ⟨g1, g2, g3, g4, g5, g6, g7, g8, g9⟩ := h6
  refine ⟨up3 (up3 gn' n 0 0 (nI (kp mk od q))) n 0 2 (nI (ca mk od q sz (kp mk od q))), fun f1 => ?_, fun m hm => ?_, fun A' V' a1 a3 a5 a7 a9 a4 a2 a10 v6 v8 v11 => ?_⟩
  · unfold mX2_sweep
    simp only [cNg0 hp hn, Option.bind_some, s7.1]
    have := congrFun h7 f1
    rw [show kp mk od 0 = 0 from rfl, show ca mk od q sz 0 = 0 from rfl, ← i0] at this
    rw [this, nI_sub (kp_le mk od q)]
  · rw [← g1 m hm]
    funext j i
    rw [up3_n _ _ (by omega), up3_n _ _ (by omega)]
  · have hup : ∀ j i, j ≠ 0 → up3 (up3 gn' n 0 0 (nI (kp mk od q))) n 0 2 (nI (ca mk od q sz (kp mk od q))) n j i = gn' n j i := fun j i hj => by
      rw [up3_n _ _ (by omega), up3_n _ _ (by omega)]
    have hcase : ∀ k, k < 24 → A 4 (24 * n + k) = 1 → ∃ i, i < q ∧ od i = k := fun k hk' ht => q4 k hk' ht
    simp only [hmk'] at a4
    refine ⟨fun a ha => ?_, fun k f hk1 hf ht => ?_, fun k f hk1 hf ht => ?_, fun k hk1 => ⟨fun ht => ?_, fun ht => ?_, ?_⟩, fun o ho => ?_, fun t ht => ?_, ?_⟩
    · rw [hup _ _ (by omega), hup _ _ (by omega), (g5 a ha).1, (g5 a ha).2, a7, v8]
      exact s1 a ha
    · rw [a4 k hk1] at ht
      cases hm : mk k with
      | false => rw [hm] at ht; simp at ht
      | true =>
        rw [hm, if_pos rfl] at ht
        obtain ⟨i, hi, hik⟩ := hcase k hk1 ht
        have := ((g8 i hi).1 hi (by rw [hik]; exact hm)).2.2 f hf
        rw [hik] at this
        rw [hup _ _ (by omega), hup _ _ (by omega), this.1, this.2, a5, v6]
        exact s2 k f hk1 hf ht
    · rw [hup _ _ (by omega), hup _ _ (by omega)]
      rw [a4 k hk1] at ht
      by_cases hth : A 4 (24 * n + k) = 1
      · obtain ⟨i, hi, hik⟩ := hcase k hk1 hth
        cases hm : mk k with
        | true => rw [hm, if_pos rfl] at ht; exact absurd hth ht
        | false =>
          have := ((g8 i hi).2.1 hi (by rw [hik]; exact hm)).2 f hf
          rw [hik] at this
          exact this
      · have := (g9 k hk1 (fun i hi w => hth (by rw [← w]; exact (q2 i hi).2.1))).2 f hf
        rw [this.1, this.2]
        exact s3 k f hk1 hf hth
    · rw [a4 k hk1] at ht
      cases hm : mk k with
      | false => rw [hm] at ht; simp at ht
      | true =>
        rw [hm, if_pos rfl] at ht
        obtain ⟨i, hi, hik⟩ := hcase k hk1 ht
        have hm' : mk (od i) = true := by rw [hik]; exact hm
        obtain ⟨d1, d2, -⟩ := (g8 i hi).1 hi hm'
        rw [hik] at d1 d2
        rw [hup _ _ (by omega), hup _ _ (by omega), d1, d2, a1]
        refine ⟨((s4 k hk1).1 ht).1, ?_⟩
        have := a2 (kp mk od i) (ix_at mk od hi hm').2
        rw [ko_at mk od q hi hm', hik] at this
        rw [this]
    · rw [hup _ _ (by omega)]
      rw [a4 k hk1] at ht
      by_cases hth : A 4 (24 * n + k) = 1
      · obtain ⟨i, hi, hik⟩ := hcase k hk1 hth
        cases hm : mk k with
        | true => rw [hm, if_pos rfl] at ht; exact absurd hth ht
        | false =>
          have := ((g8 i hi).2.1 hi (by rw [hik]; exact hm)).1
          rw [hik] at this
          exact this
      · rw [(g9 k hk1 (fun i hi w => hth (by rw [← w]; exact (q2 i hi).2.1))).1]
        exact (s4 k hk1).2.1 hth
    · rw [hup _ _ (by omega), g2, a3]
      exact (s4 k hk1).2.2
    · rw [hup _ _ (by omega), g3, a9]
      exact s5 o ho
    · rw [hup _ _ (by omega), g7 t (by have := kp_le mk od q; omega)]
      rfl
    · refine ⟨?_, ?_, ?_, ?_⟩
      · rw [up3_n _ _ (by omega), up3_s]
      · rw [up3_n _ _ (by omega), up3_n _ _ (by omega), g4]
        have : imp A' n = imp A n := by unfold imp; rw [a9]
        rw [this]
        exact s7.2.1
      · rw [up3_s, a10]
      · rw [up3_n _ _ (by omega), up3_n _ _ (by omega), g6, v11]
end SW
