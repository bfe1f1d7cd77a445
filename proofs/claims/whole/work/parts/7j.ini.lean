/-! the class's constructor -/
def cm (b N : Nat) (f0 : jM) (n : Nat) : jM := fun a => if b + 2 ≤ a ∧ a < b + 2 + 8 * n then some (nodeC b gn0 ((a - (b + 2)) / 8) ((a - (b + 2)) % 8)) else if a = b then some (.inr (5, [.ref (b + 1), .null, .null, .null])) else if a = b + 1 then some (.inl (2, N, .inr (.inr (.inr (.inr (fun i => if i < n then some (b + 2 + 8 * i) else none)))))) else f0 a
section CMS
variable {b N : Nat} {f0 : jM} {n : Nat}
theorem cm_b : cm b N f0 n b = some (.inr (5, [.ref (b + 1), .null, .null, .null])) := by
  unfold cm
  rw [if_neg (by omega), if_pos rfl]
theorem cm_b1 : cm b N f0 n (b + 1) = some (.inl (2, N, .inr (.inr (.inr (.inr (fun i => if i < n then some (b + 2 + 8 * i) else none)))))) := by
  unfold cm
  rw [if_neg (by omega), if_neg (by omega), if_pos rfl]
theorem cm_len (hN : N ≤ 5) : alen (cm b N f0 n) (b + 1) = some (nI N) := by
  unfold alen
  rw [cm_b1]
  rfl
theorem nm_b1 : nm b (cm b N f0 n) n (b + 1) = some (.inl (2, N, .inr (.inr (.inr (.inr (fun i => if i < n then some (b + 2 + 8 * i) else none)))))) := by
  unfold nm
  rw [if_neg (by omega), cm_b1]
theorem nm_chk : chk 2 (nm b (cm b N f0 n) n) (b + 2 + 8 * n) = some () := by
  have h : nm b (cm b N f0 n) n (b + 2 + 8 * n) = some (nodeC b gn0 n 0) := by
    unfold nm
    rw [if_pos (by omega), show b + 2 + 8 * n - (b + 2 + 8 * n) = 0 by omega]
  exact chk_of h
theorem cm_next : va_up (nm b (cm b N f0 n) n) (b + 1) (some (.inl (2, N, .inr (.inr (.inr (.inr (va_up (fun i => if i < n then some (b + 2 + 8 * i) else none) n (some (b + 2 + 8 * n))))))))) = cm b N f0 (n + 1) := by
  funext x
  by_cases x1 : x = b + 1
  · subst x1
    rw [va_up_self, cm_b1]
    have : va_up (fun i => if i < n then some (b + 2 + 8 * i) else none) n (some (b + 2 + 8 * n)) = fun i => if i < n + 1 then some (b + 2 + 8 * i) else none := by
      funext z
      by_cases c : z = n
      · subst c
        rw [va_up_self, if_pos (by omega)]
      · rw [va_up_ne _ _ c]
        by_cases c2 : z < n
        · rw [if_pos c2, if_pos (by omega)]
        · rw [if_neg c2, if_neg (by omega)]
    rw [this]
  · rw [va_up_ne _ _ x1]
    unfold nm cm
    by_cases c : b + 2 + 8 * n ≤ x ∧ x < b + 2 + 8 * n + 8
    · rw [if_pos c, if_pos (by omega), show (x - (b + 2)) / 8 = n by omega, show (x - (b + 2)) % 8 = x - (b + 2 + 8 * n) by omega]
    · rw [if_neg c]
      by_cases c2 : b + 2 ≤ x ∧ x < b + 2 + 8 * n
      · rw [if_pos c2, if_pos (by omega)]
      · rw [if_neg c2, if_neg (show ¬ (b + 2 ≤ x ∧ x < b + 2 + 8 * (n + 1)) by omega)]
        by_cases x0 : x = b
        · rw [if_pos x0, if_pos x0]
        · rw [if_neg x0, if_neg x0, if_neg x1, if_neg x1]
end CMS
theorem init5_fin {b p N : Nat} {f0 : jM} (hp : p = b + 2 + 8 * N) (l1 l2 l3 : List Value) (h3 : l3 = [.ref (b + 1), .ref p, .ref (p + 62), .ref (p + 65)]) : va_up (tm (p + 65) (va_up (km (p + 62) (va_up (pl p (cm b N f0 N) 60) b (some (.inr (5, l1))))) b (some (.inr (5, l2))))) b (some (.inr (5, l3))) = mkC b p N gn0 V0 (fun i => i) f0 := by
  have hp' : b + 2 + 8 * N ≤ p := by omega
  funext x
  by_cases x0 : x = b
  · subst x0
    rw [va_up_self, mkC_b hp', h3]
  · rw [va_up_ne _ _ x0]
    by_cases c : p ≤ x ∧ x < p + 74
    · obtain ⟨r, rfl⟩ : ∃ r, x = p + r := ⟨x - p, by omega⟩
      rw [mkC_m (by omega)]
      by_cases r65 : 65 ≤ r
      · unfold tm
        by_cases e1 : r = 65
        · subst e1
          rw [if_pos rfl]
          rfl
        · rw [if_neg (by omega)]
          by_cases e2 : r = 72 ∨ r = 73
          · rw [if_pos (by omega)]
            rcases e2 with e2 | e2
            · subst e2; rfl
            · subst e2; rfl
          · rw [if_neg (by omega)]
            unfold km
            by_cases e3 : r = 69
            · subst e3
              rw [if_pos (by omega)]
              rfl
            · rw [if_neg (by omega)]
              by_cases e4 : r = 70
              · subst e4
                rw [if_pos (by omega)]
                rfl
              · rw [if_neg (by omega)]
                by_cases e5 : r = 71
                · subst e5
                  rw [if_pos (by omega)]
                  rfl
                · rw [if_neg (by omega)]
                  by_cases e6 : r = 66
                  · subst e6
                    rw [if_pos (by omega)]
                    rfl
                  · rw [if_neg (by omega)]
                    by_cases e7 : r = 67
                    · subst e7
                      rw [if_pos (by omega)]
                      rfl
                    · rw [if_neg (by omega)]
                      have e8 : r = 68 := by omega
                      subst e8
                      rw [if_pos (by omega)]
                      rfl
      · have t1 : ∀ f : jM, tm (p + 65) f (p + r) = f (p + r) := fun f => by
          unfold tm
          rw [if_neg (by omega), if_neg (by omega), km_o (by omega), km_o (by omega)]
        rw [t1, va_up_ne _ _ x0]
        by_cases r62 : 62 ≤ r
        · unfold km
          by_cases e1 : r = 62
          · subst e1
            rw [if_pos rfl]
            rfl
          · rw [if_neg (by omega)]
            by_cases e2 : r = 63
            · subst e2
              rw [if_pos rfl]
              rfl
            · rw [if_neg (by omega)]
              have e3 : r = 64 := by omega
              subst e3
              rw [if_pos rfl]
              rfl
        · rw [km_o (by omega), va_up_ne _ _ x0]
          unfold pl
          by_cases e1 : r = 0
          · subst e1
            rw [if_pos (by omega)]
            rfl
          · rw [if_neg (by omega)]
            by_cases e2 : r = 1
            · subst e2
              rw [if_pos rfl]
              rfl
            · rw [if_neg (by omega), if_pos (by omega)]
              unfold miscC
              rw [if_neg e1, if_neg e2, if_pos (by omega)]
              rfl
    · have t1 : ∀ f : jM, tm (p + 65) f x = f x := fun f => by
        unfold tm
        rw [if_neg (by omega), if_neg (by omega), km_o (by omega), km_o (by omega)]
      rw [t1, va_up_ne _ _ x0, km_o (by omega), va_up_ne _ _ x0]
      unfold pl
      rw [if_neg (by omega), if_neg (by omega), if_neg (by omega)]
      unfold cm mkC
      rw [if_neg c]
      by_cases c2 : b + 2 ≤ x ∧ x < b + 2 + 8 * N
      · rw [if_pos c2, if_pos c2]
      · rw [if_neg c2, if_neg c2, if_neg x0, if_neg x0]
        rfl
def b5 : List Value := [.null, .null, .null, .null]
theorem init5_end {b p N fu k : Nat} {f0 : jM} (hfu : 2000 ≤ fu) (hN : N ≤ 5) (hp : p = b + 2 + 8 * N) : ∃ r, mX5_init_L22 fu b (k + 1) (nI N) (cm b N f0 N) p = some r ∧ r.1 = mkC b p N gn0 V0 (fun i => i) f0 ∧ r.2.1 = p + 74 ∧ r.2.2.1 ≤ 200 ∧ r.2.2.2 ≤ 5000 := by
  rw [mX5_init_L22, rdR_of cm_b rfl, Option.bind_some, cm_len hN, Option.bind_some, if_pos (nI_le (Nat.le_refl _) (by omega))]
  refine mapE ?_
  refine bindE (show nwO 3 _ _ _ = some _ from rfl) ?_
  obtain ⟨⟨F1, S1, c1, k1⟩, hr1, h1, h2, h3, h4⟩ := init3 (fu := fu) (p := p) (f := cm b N f0 N) hfu
  dsimp only at h1 h2 h3 h4
  subst h1 h2
  refine bindE hr1 ?_
  refine mapE ?_
  dsimp only
  have pb : ∀ f : jM, pl p f 60 b = f b := fun f => by
    unfold pl
    rw [if_neg (by omega), if_neg (by omega), if_neg (by omega)]
  refine bindE (wrV_of (fs := [.ref (b + 1), .null, .null, .null]) (by rw [pb, cm_b]) (Nat.le_of_ble_eq_true rfl)) ?_
  refine mapE ?_
  refine bindE (show nwO 1 b4 _ _ = some _ from rfl) ?_
  obtain ⟨⟨F2, S2, c2, k2⟩, hr2, g1, g2, g3, g4⟩ := init1 (a := p + 62) (f := va_up (pl p (cm b N f0 N) 60) b (some (.inr (5, ([.ref (b + 1), .null, .null, .null] : List Value).set 1 (.ref p)))))
  dsimp only at g1 g2 g3 g4
  subst g1 g2
  refine bindE hr2 ?_
  refine mapE ?_
  dsimp only
  refine bindE (wrV_of (fs := ([.ref (b + 1), .null, .null, .null] : List Value).set 1 (.ref p)) (by rw [km_o (by omega), va_up_self]) (Nat.le_of_ble_eq_true rfl)) ?_
  refine mapE ?_
  refine bindE (show nwO 4 t4 _ _ = some _ from rfl) ?_
  obtain ⟨⟨F3, S3, c3, k3⟩, hr3, q1, q2, q3, q4⟩ := init4 (a := p + 62 + 3) (f := va_up (km (p + 62) (va_up (pl p (cm b N f0 N) 60) b (some (.inr (5, ([.ref (b + 1), .null, .null, .null] : List Value).set 1 (.ref p)))))) b (some (.inr (5, (([.ref (b + 1), .null, .null, .null] : List Value).set 1 (.ref p)).set 2 (.ref (p + 62))))))
  dsimp only at q1 q2 q3 q4
  subst q1 q2
  refine bindE hr3 ?_
  refine mapE ?_
  dsimp only
  have tb : ∀ f : jM, tm (p + 62 + 3) f b = f b := fun f => by
    unfold tm
    rw [if_neg (by omega), if_neg (by omega), km_o (by omega), km_o (by omega)]
  refine bindE (wrV_of (fs := (([.ref (b + 1), .null, .null, .null] : List Value).set 1 (.ref p)).set 2 (.ref (p + 62))) (by rw [tb, va_up_self]) (Nat.le_of_ble_eq_true rfl)) ?_
  refine ⟨_, rfl, ?_, rfl, ?_, ?_⟩
  · simp only [jcnt]
    exact init5_fin hp _ _ _ rfl
  · simp only [jcnt]
    omega
  · simp only [jcnt]
    omega
theorem init5_loop {b p N fu : Nat} {f0 : jM} (hfu : 2000 ≤ fu) (hN : N ≤ 5) (hp : p = b + 2 + 8 * N) : ∀ d n k, N = n + d → d < k → ∃ r, mX5_init_L22 fu b k (nI n) (cm b N f0 n) (b + 2 + 8 * n) = some r ∧ r.1 = mkC b p N gn0 V0 (fun i => i) f0 ∧ r.2.1 = p + 74 ∧ r.2.2.1 ≤ 200 + 20 * d ∧ r.2.2.2 ≤ 5000 + 3000 * d := by
  intro d
  induction d with
  | zero =>
    intro n k h1 h2
    obtain ⟨k, rfl⟩ : ∃ n, k = n + 1 := ⟨k - 1, by omega⟩
    have : n = N := by omega
    subst this
    rw [← hp]
    exact init5_end hfu hN hp
  | succ d ih =>
    intro n k h1 h2
    obtain ⟨k, rfl⟩ : ∃ n, k = n + 1 := ⟨k - 1, by omega⟩
    rw [mX5_init_L22, rdR_of cm_b rfl, Option.bind_some, cm_len hN, Option.bind_some, if_neg (nI_ge (by omega) (by omega)), Option.bind_some]
    refine mapE ?_
    refine bindE (show nwO 2 b12 _ _ = some _ from rfl) ?_
    obtain ⟨⟨F1, S1, c1, k1⟩, hr1, g1, g2, g3, g4⟩ := init2 (n := n) (a := b + 2 + 8 * n) (b := b) (f := cm b N f0 n) hfu rfl
    dsimp only at g1 g2 g3 g4
    subst g1 g2
    refine bindE hr1 ?_
    refine mapE ?_
    dsimp only
    refine bindE (stR_of nm_b1 (by omega) (by omega) nm_chk) ?_
    rw [cm_next, nI_1, show b + 2 + 8 * n + 8 = b + 2 + 8 * (n + 1) by omega]
    obtain ⟨r, r1, r2, r3, r4, r5⟩ := ih (n + 1) k (by omega) (by omega)
    refine ⟨r, r1, r2, r3, ?_, ?_⟩
    · simp only [jcnt]; omega
    · simp only [jcnt]; omega
theorem clN_E {v : Int32} {N : Nat} (h : clN v N) : (if (1 : Int32) < (if v < (5 : Int32) then v else (5 : Int32)) then (if v < (5 : Int32) then v else (5 : Int32)) else (1 : Int32)) = nI N := by
  obtain ⟨h1, h5, h | h | h⟩ := h
  · obtain ⟨-, -, rfl⟩ := h
    rcases (show N = 1 ∨ N = 2 ∨ N = 3 ∨ N = 4 ∨ N = 5 by omega) with rfl | rfl | rfl | rfl | rfl <;> decide
  · obtain ⟨-, u, rfl⟩ := h
    rw [if_neg (fun w => u (Int32.le_of_lt w))]
    decide
  · obtain ⟨u, rfl⟩ := h
    have u' : v < 1 := Int32.not_le.mp u
    rw [if_pos (Int32.lt_trans u' (by decide)), if_neg (fun w => absurd (Int32.lt_trans w u') (by decide))]
    rfl
theorem init5 {b N fu : Nat} {v : Int32} {f0 : jM} (hfu : 2000 ≤ fu) (hv : clN v N) : ∃ r, mX5_init fu (va_up f0 b (some (.inr (5, b5)))) (b + 1) b v = some r ∧ r.1 = mkC b (b + 2 + 8 * N) N gn0 V0 (fun i => i) f0 ∧ r.2.1 = b + 2 + 8 * N + 74 ∧ r.2.2.1 ≤ 1000 ∧ r.2.2.2 ≤ 50000 := by
  have hN : N ≤ 5 := hv.2.1
  unfold mX5_init
  rw [clN_E hv]
  have hcl : (nI N).toNatClampNeg = N := nI_clamp (by omega)
  refine mapE ?_
  refine bindE (x := va_up (va_up f0 b (some (.inr (5, b5)))) (b + 1) (some (.inl (2, N, .inr (.inr (.inr (.inr (fun _ => none)))))))) (by
    unfold nwR
    rw [hcl, if_neg (fun u => u.elim (nI_pos (by omega)) (fun u => by omega))]) ?_
  refine bindE (wrV_of (fs := b5) (by rw [va_up_ne _ _ (by omega), va_up_self]) (by decide)) ?_
  have e : va_up (va_up (va_up f0 b (some (.inr (5, b5)))) (b + 1) (some (.inl (2, N, .inr (.inr (.inr (.inr (fun _ => none)))))))) b (some (.inr (5, b5.set 0 (.ref (b + 1))))) = cm b N f0 0 := by
    funext x
    by_cases x0 : x = b
    · subst x0
      rw [va_up_self, cm_b]
      rfl
    · rw [va_up_ne _ _ x0]
      by_cases x1 : x = b + 1
      · subst x1
        rw [va_up_self, cm_b1]
        have : (fun i => if i < 0 then some (b + 2 + 8 * i) else none) = fun _ => none := by
          funext z
          rw [if_neg (by omega)]
        rw [this]
      · rw [va_up_ne _ _ x1, va_up_ne _ _ x0]
        unfold cm
        rw [if_neg (by omega), if_neg x0, if_neg x1]
  rw [e]
  obtain ⟨r, r1, r2, r3, r4, r5⟩ := init5_loop (b := b) (f0 := f0) (fu := fu) (N := N) hfu hN rfl N 0 fu (by omega) (by omega)
  refine ⟨r, r1, r2, r3, ?_, ?_⟩
  · simp only [jcnt]; omega
  · simp only [jcnt]; omega
/-! the first state -/
theorem sm_0 : ∀ n, sm (fun _ => 0) n = 0 := by
  intro n
  induction n with
  | zero => rfl
  | succ n ih => simp only [sm, ih]
theorem cnt_0 {P : Nat → Bool} : ∀ {n : Nat}, (∀ i, i < n → P i = false) → cnt P n = 0 := by
  intro n
  induction n with
  | zero => intro _; rfl
  | succ n ih =>
    intro h
    simp only [cnt, ih (fun i hi => h i (by omega)), h n (by omega)]
    rfl
theorem A0_0 {N j i : Nat} (h : ¬ (j = 0 ∧ i = 1)) : A0 N j i = 0 := by
  unfold A0
  rw [if_neg h]
theorem Inv_0 {b p M N : Nat} {f0 : jM} (h1 : 1 ≤ N) (h5 : N ≤ 5) : Inv b p M N 0 f0 (mkC b p N gn0 V0 (fun i => i) (mkR M (toR (A0 N) V0) f0)) := by
  have z : ∀ {j i : Nat}, j ≠ 0 → A0 N j i = 0 := fun h => A0_0 (fun u => h u.1)
  have z02 : A0 N 0 2 = 0 := A0_0 (by omega)
  have g0 : ∀ n j i, j ≠ 3 → gn0 n j i = 0 := fun n j i h => by
    unfold gn0
    rw [if_neg (fun u => h u.1)]
  have im0 : ∀ n, imp (A0 N) n = 0 := fun n => cnt_0 (fun i _ => by rw [z (by omega)]; rfl)
  refine ⟨A0 N, V0, gn0, V0, fun i => i, fun _ _ => 0, fun _ => 0, rfl, ⟨fun n hn => ⟨?_, ?_, ?_, ?_, ?_, ?_, ?_⟩, ⟨?_, ?_, ?_, ?_⟩, ?_⟩, ⟨⟨?_, h1, h5⟩, ?_, ?_, ?_, ?_, ?_, ⟨?_, ?_⟩, ⟨?_, ?_⟩, ?_⟩, ?_⟩
  · intro a ha
    rw [g0 _ _ _ (by omega), g0 _ _ _ (by omega), z (by omega)]
    exact ⟨ckd0.symm, rfl⟩
  · intro k f hk hf h
    rw [z (by omega)] at h
    exact absurd h (by omega)
  · intro k f hk hf h
    exact ⟨g0 _ _ _ (by omega), g0 _ _ _ (by omega)⟩
  · intro k hk
    refine ⟨fun h => ?_, fun _ => ?_, ?_⟩
    · rw [z (by omega)] at h
      exact absurd h (by omega)
    · unfold gn0
      rw [if_pos ⟨rfl, hk⟩]
    · rw [g0 _ _ _ (by omega), z (by omega)]
      rfl
  · intro o ho
    rw [g0 _ _ _ (by omega), z (by omega)]
    rfl
  · intro i hi
    exact absurd hi (Nat.not_lt_zero i)
  · refine ⟨?_, ?_, ?_, ?_⟩
    · rw [g0 _ _ _ (by omega)]
      rfl
    · rw [g0 _ _ _ (by omega), im0]
      rfl
    · rw [g0 _ _ _ (by omega), z (by omega)]
      rfl
    · rw [g0 _ _ _ (by omega)]
      rfl
  · rw [z02]
    rfl
  · intro i hi
    exact hi
  · intro i j hi hj h
    exact h
  · intro i hi
    rw [z02] at hi
    exact absurd hi (by omega)
  · intro r hr
    exact ⟨0, fun _ => 0, by omega, rfl, fun i hi => absurd hi (by omega), fun i j hi => absurd hi (by omega), fun x hx => Or.inr ⟨rfl, fun i hi => absurd hi (by omega)⟩⟩
  · unfold A0
    rw [if_pos ⟨rfl, rfl⟩]
  · intro n a hn ha
    exact Or.inl ⟨z (by omega), rfl⟩
  · intro o ho h
    rw [z (by omega)] at h
    exact absurd h (by omega)
  · intro o ho
    exact Or.inr ⟨z (by omega), z (by omega)⟩
  · intro n o hn ho h
    rw [z (by omega)] at h
    exact absurd h (by omega)
  · intro o ho
    rw [z (by omega), z02, sm_ext (g := fun _ => 0) (fun i _ => z (by omega)), sm_0]
    rfl
  · rw [z02]
    omega
  · intro i hi
    rw [z02] at hi
    exact absurd hi (by omega)
  · rw [z02, sm_ext (g := fun _ => 0) (fun i _ => z (by omega)), sm_0]
    exact Nat.le_refl _
  · omega
  · intro n hn
    rw [im0]
    omega
  · intro n hn
    have c0 : cnt (fun k => A0 N 4 (24 * n + k) == 1) 24 = 0 := cnt_0 (fun i _ => by rw [z (by omega)]; rfl)
    refine ⟨Nat.zero_le _, fun i hi => absurd hi (Nat.not_lt_zero i), fun i j hi => absurd hi (Nat.not_lt_zero i), fun k hk h => ?_, ?_, ?_, c0.symm⟩
    · rw [z (by omega)] at h
      exact absurd h (by omega)
    · rw [z (by omega)]
      rfl
    · rw [z (by omega)]
      omega
