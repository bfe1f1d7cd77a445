/-! the law's loop -/
theorem chkB {f : jM} {a : Nat} {α : Type} {K : Unit → Option α} {r : α} (h : (chk 6 f a).bind K = some r) : chk 6 f a = some () := by
  cases h' : chk 6 f a with
  | none => rw [h'] at h; cases h
  | some u => rfl
theorem rdI_chk {f : jM} {a ci k : Nat} {x : Int32} (h : rdI ci f a k = some x) : chk ci f a = some () := by
  unfold rdI rdV at h
  unfold chk
  split at h
  · next y hy =>
    split at hy
    · next o ho =>
      split at hy
      · next hc => simp only [hc, if_true]
      · cases hy
    · cases hy
  · cases h
theorem Inv_c5 {b p M N cl : Nat} {f0 f : jM} (hl : Lay b p M N) (h : Inv b p M N cl f0 f) : chk 5 f b = some () := by
  obtain ⟨A, V, gn, gp, pi, od, q, rfl, -⟩ := h
  exact cchk5 hl.1
theorem Inv_c6 {b p M N cl : Nat} {f0 f : jM} (hl : Lay b p M N) (h : Inv b p M N cl f0 f) : chk 6 f M = some () := by
  obtain ⟨A, V, gn, gp, pi, od, q, rfl, -⟩ := h
  rw [swapCR hl]
  exact rchk
theorem drain_c {fu M : Nat} {f1 f2 : jM} {x r : Int32} (h : mX6_drain fu f1 M x = some (r, f2)) (h2 : chk 6 f2 M = some ()) : chk 6 f1 M = some () := by
  unfold mX6_drain at h
  by_cases c : x < 0
  · rw [if_pos c] at h
    cases h
    exact h2
  · rw [if_neg c] at h
    by_cases c2 : x ≤ 1000
    · rw [if_pos c2] at h
      exact chkB h
    · rw [if_neg c2] at h
      cases h
      exact h2
theorem count_c {fu M : Nat} {f1 f2 : jM} {x y r : Int32} (h : mX6_count fu f1 M x y = some (r, f2)) (h2 : chk 6 f2 M = some ()) : chk 6 f1 M = some () := by
  unfold mX6_count at h
  by_cases c : x < -1
  · rw [if_pos c] at h
    cases h
    exact h2
  · rw [if_neg c] at h
    cases e : rdI 6 f1 M 1 with
    | none => rw [e] at h; cases h
    | some u => exact rdI_chk e
theorem jsl_nI {L k : Nat} {xs : Nat → Int32} (h : k < L) (hL : L ≤ 2561) : jsl L xs (nI k) = some (xs k) := by
  unfold jsl
  rw [if_neg (nI_in h (by omega)), nI_clamp (by omega)]
theorem end_iff {L k : Nat} (hL : L ≤ 2561) (hk : k ≤ 5000) : ((Int32.ofNat L) - (5 : Int32) < nI k) ↔ L < k + 5 := by
  have h1 : ((Int32.ofNat L) - (5 : Int32)).toInt = (L : Int) - 5 := pk_sub_toInt (a := L) (b := 5) (by omega) (by omega)
  rw [Int32.lt_iff_toInt_lt, h1, nI_toInt (by omega)]
  omega
set_option maxHeartbeats 4000000 in
theorem law_loop {b p M N fu L sz : Nat} {xs : Nat → Int32} {f0 : jM} (hfu' : 100000 ≤ fu) (hl : Lay b p M N) (hL : L ≤ 2561) : ∀ d c n f, 512 = c + d → d < n → Inv b p M N c f0 f → mL_law_L28 fu L xs b M n (nI (1 + 5 * c)) f sz = some (1, sz, 0, 0) := by
  have hfu : 2000 ≤ fu := by omega
  intro d
  induction d with
  | zero =>
    intro c n f h1 h2 hI
    obtain ⟨n, rfl⟩ : ∃ m, n = m + 1 := ⟨n - 1, by omega⟩
    rw [mL_law_L28, if_pos ((end_iff hL (by omega)).mpr (by omega))]
  | succ d ih =>
    intro c n f h1 h2 hI
    obtain ⟨n, rfl⟩ : ∃ m, n = m + 1 := ⟨n - 1, by omega⟩
    rw [mL_law_L28]
    by_cases he : L < 1 + 5 * c + 5
    · rw [if_pos ((end_iff hL (by omega)).mpr he)]
    · rw [if_neg (fun u => he ((end_iff hL (by omega)).mp u))]
      have hc : c < 512 := by omega
      have j0 : jsl L xs (nI (1 + 5 * c)) = some (xs (1 + 5 * c)) := jsl_nI (by omega) hL
      have j1 : jsl L xs (nI (1 + 5 * c) + 1) = some (xs (1 + 5 * c + 1)) := by rw [i1, nI_add]; exact jsl_nI (by omega) hL
      have j2 : jsl L xs (nI (1 + 5 * c) + 2) = some (xs (1 + 5 * c + 2)) := by rw [i2, nI_add]; exact jsl_nI (by omega) hL
      have j3 : jsl L xs (nI (1 + 5 * c) + 3) = some (xs (1 + 5 * c + 3)) := by rw [i3, nI_add]; exact jsl_nI (by omega) hL
      have j4 : jsl L xs (nI (1 + 5 * c) + 4) = some (xs (1 + 5 * c + 4)) := by rw [i4, nI_add]; exact jsl_nI (by omega) hL
      have c5 := Inv_c5 hl hI
      have c6 := Inv_c6 hl hI
      have hn : ∀ f2, Inv b p M N (c + 1) f0 f2 → mL_law_L28 fu L xs b M n (nI (1 + 5 * c) + 5) f2 sz = some (1, sz, 0, 0) := fun f2 h => by
        rw [i5, nI_add, show 1 + 5 * c + 5 = 1 + 5 * (c + 1) by omega]
        exact ih (c + 1) n f2 (by omega) (by omega) h
      rw [j0, Option.bind_some]
      generalize xs (1 + 5 * c) &&& (31 : Int32) = op
      by_cases k0 : op = 0
      · rw [if_pos k0]
        obtain ⟨r, f1, f2, h5, h6, hI'⟩ := o_make hfu hl hI hc (xs (1 + 5 * c + 1)) (xs (1 + 5 * c + 2)) (xs (1 + 5 * c + 3))
        have h7 : chk 6 f1 M = some () := by
          unfold mX6_make at h6
          exact chkB h6
        simp only [j1, j2, j3, c5, h5, h7, h6, Option.bind_some, if_true]
        exact hn f2 hI'
      · rw [if_neg k0]
        by_cases k1 : op = 1
        · rw [if_pos k1]
          obtain ⟨r, f1, f2, h5, h6, hI'⟩ := o_set hl hI hc (xs (1 + 5 * c + 1)) (xs (1 + 5 * c + 2)) (xs (1 + 5 * c + 3)) (xs (1 + 5 * c + 4))
          have h7 : chk 6 f1 M = some () := by
            unfold mX6_set at h6
            exact chkB h6
          simp only [j1, j2, j3, j4, c5, h5, h7, h6, Option.bind_some, if_true]
          exact hn f2 hI'
        · rw [if_neg k1]
          by_cases k2 : op = 2
          · rw [if_pos k2]
            obtain ⟨r, f1, f2, h5, h6, hI'⟩ := o_get hl hI hc (xs (1 + 5 * c + 1)) (xs (1 + 5 * c + 2)) (xs (1 + 5 * c + 3)) (xs (1 + 5 * c + 4))
            have h7 : chk 6 f1 M = some () := by
              unfold mX6_get at h6
              exact chkB h6
            simp only [j1, j2, j3, j4, c5, h5, h7, h6, Option.bind_some, if_true]
            exact hn f2 hI'
          · rw [if_neg k2]
            by_cases k3 : op = 3
            · rw [if_pos k3]
              obtain ⟨r, f1, f2, h5, h6, hI'⟩ := o_number hl hI hc (xs (1 + 5 * c + 1)) (xs (1 + 5 * c + 2)) (xs (1 + 5 * c + 3))
              have h7 : chk 6 f1 M = some () := by
                unfold mX6_number at h6
                exact chkB h6
              simp only [j1, j2, j3, c5, h5, h7, h6, Option.bind_some, if_true]
              exact hn f2 hI'
            · rw [if_neg k3]
              by_cases k4 : op = 4
              · rw [if_pos k4]
                obtain ⟨r, f1, f2, h5, h6, hI'⟩ := o_drop hl hI hc (xs (1 + 5 * c + 1)) (xs (1 + 5 * c + 2))
                have h7 : chk 6 f1 M = some () := by
                  unfold mX6_drop at h6
                  exact chkB h6
                simp only [j1, j2, c5, h5, h7, h6, Option.bind_some, if_true]
                exact hn f2 hI'
              · rw [if_neg k4]
                by_cases k5 : op = 5
                · rw [if_pos k5]
                  obtain ⟨r, f1, f2, h5, h6, hI'⟩ := o_send hl hI hc (xs (1 + 5 * c + 1)) (xs (1 + 5 * c + 2)) (xs (1 + 5 * c + 3)) (xs (1 + 5 * c + 4))
                  have h7 : chk 6 f1 M = some () := by
                    unfold mX6_send at h6
                    exact chkB h6
                  simp only [j1, j2, j3, j4, c5, h5, h7, h6, Option.bind_some, if_true]
                  exact hn f2 hI'
                · rw [if_neg k5]
                  by_cases k6 : op = 6
                  · rw [if_pos k6]
                    obtain ⟨r, f1, f2, h5, h6, hI'⟩ := o_ask hl hI hc (xs (1 + 5 * c + 1)) (xs (1 + 5 * c + 2))
                    have h7 : chk 6 f1 M = some () := by
                      unfold mX6_ask at h6
                      exact chkB h6
                    simp only [j1, j2, c5, h5, h7, h6, Option.bind_some, if_true]
                    exact hn f2 hI'
                  · rw [if_neg k6]
                    by_cases k7 : op = 7
                    · rw [if_pos k7]
                      obtain ⟨r, f1, f2, h5, h6, hI'⟩ := o_come hfu hl hI hc (xs (1 + 5 * c + 1)) (xs (1 + 5 * c + 2))
                      have h7 : chk 6 f1 M = some () := by
                        unfold mX6_come at h6
                        exact chkB h6
                      simp only [j1, j2, c5, h5, h7, h6, Option.bind_some, if_true]
                      exact hn f2 hI'
                    · rw [if_neg k7]
                      by_cases k8 : op = 8
                      · rw [if_pos k8]
                        obtain ⟨r, f1, f2, h5, h6, hI'⟩ := o_drain hfu hl hI hc (xs (1 + 5 * c + 1))
                        have h7 : chk 6 f1 M = some () := drain_c h6 (Inv_c6 hl hI')
                        simp only [j1, c5, h5, h7, h6, Option.bind_some, if_true]
                        exact hn f2 hI'
                      · rw [if_neg k8]
                        by_cases k9 : op = 9
                        · rw [if_pos k9]
                          obtain ⟨r, f1, f2, h5, h6, hI'⟩ := o_collect hfu hl hI hc (xs (1 + 5 * c + 1))
                          have h7 : chk 6 f1 M = some () := by
                            unfold mX6_collect at h6
                            exact chkB h6
                          simp only [j1, c5, h5, h7, h6, Option.bind_some, if_true]
                          exact hn f2 hI'
                        · rw [if_neg k9]
                          by_cases k10 : op = 10
                          · rw [if_pos k10]
                            obtain ⟨r, f1, f2, h5, h6, hI'⟩ := o_trial hfu hl hI hc (xs (1 + 5 * c + 1)) (xs (1 + 5 * c + 2))
                            have h7 : chk 6 f1 M = some () := by
                              unfold mX6_trial at h6
                              exact chkB h6
                            simp only [j1, j2, c5, h5, h7, h6, Option.bind_some, if_true]
                            exact hn f2 hI'
                          · rw [if_neg k10]
                            by_cases k11 : op = 11
                            · rw [if_pos k11]
                              obtain ⟨r, f1, f2, h5, h6, hI'⟩ := o_settle hfu hl hI hc
                              have h7 : chk 6 f1 M = some () := by
                                unfold mX6_settle at h6
                                exact chkB h6
                              simp only [c5, h5, h7, h6, Option.bind_some, if_true]
                              exact hn f2 hI'
                            · rw [if_neg k11]
                              by_cases k12 : op = 12
                              · rw [if_pos k12]
                                obtain ⟨r, f1, f2, h5, h6, hI'⟩ := o_pass hfu' hl hI hc
                                have h7 : chk 6 f1 M = some () := by
                                  unfold mX6_pass at h6
                                  exact chkB h6
                                simp only [c5, h5, h7, h6, Option.bind_some, if_true]
                                exact hn f2 hI'
                              · rw [if_neg k12]
                                by_cases k13 : op = 13
                                · rw [if_pos k13]
                                  obtain ⟨r, h5, h6⟩ := q_register hl hI (xs (1 + 5 * c + 1)) (xs (1 + 5 * c + 2)) (xs (1 + 5 * c + 3))
                                  simp only [j1, j2, j3, c5, h5, c6, h6, Option.bind_some, if_true]
                                  exact hn f (hI.more hc)
                                · rw [if_neg k13]
                                  by_cases k14 : op = 14
                                  · rw [if_pos k14]
                                    obtain ⟨r, h5, h6⟩ := q_field hl hI (xs (1 + 5 * c + 1)) (xs (1 + 5 * c + 2)) (xs (1 + 5 * c + 3)) (xs (1 + 5 * c + 4))
                                    simp only [j1, j2, j3, j4, c5, h5, c6, h6, Option.bind_some, if_true]
                                    exact hn f (hI.more hc)
                                  · rw [if_neg k14]
                                    by_cases k15 : op = 15
                                    · rw [if_pos k15]
                                      obtain ⟨r, h5, h6⟩ := q_cell hfu hl hI (xs (1 + 5 * c + 1)) (xs (1 + 5 * c + 2)) (xs (1 + 5 * c + 3))
                                      simp only [j1, j2, j3, c5, h5, c6, h6, Option.bind_some, if_true]
                                      exact hn f (hI.more hc)
                                    · rw [if_neg k15]
                                      by_cases k16 : op = 16
                                      · rw [if_pos k16]
                                        obtain ⟨r, f1, f2, h5, h6, hI'⟩ := o_object hfu hl hI hc (xs (1 + 5 * c + 1)) (xs (1 + 5 * c + 2)) (xs (1 + 5 * c + 3))
                                        have h7 : chk 6 f1 M = some () := by
                                          unfold mX6_object at h6
                                          exact chkB h6
                                        simp only [j1, j2, j3, c5, h5, h7, h6, Option.bind_some, if_true]
                                        exact hn f2 hI'
                                      · rw [if_neg k16]
                                        by_cases k17 : op = 17
                                        · rw [if_pos k17]
                                          obtain ⟨r, h5, h6⟩ := q_weight hl hI (xs (1 + 5 * c + 1)) (xs (1 + 5 * c + 2)) (xs (1 + 5 * c + 3))
                                          simp only [j1, j2, j3, c5, h5, c6, h6, Option.bind_some, if_true]
                                          exact hn f (hI.more hc)
                                        · rw [if_neg k17]
                                          by_cases k18 : op = 18
                                          · rw [if_pos k18]
                                            obtain ⟨r, h5, h6⟩ := q_message hfu hl hI (xs (1 + 5 * c + 1)) (xs (1 + 5 * c + 2)) (xs (1 + 5 * c + 3)) (xs (1 + 5 * c + 4))
                                            simp only [j1, j2, j3, j4, c5, h5, c6, h6, Option.bind_some, if_true]
                                            exact hn f (hI.more hc)
                                          · rw [if_neg k18]
                                            by_cases k19 : op = 19
                                            · rw [if_pos k19]
                                              obtain ⟨r, f1, f2, h5, h6, hI'⟩ := o_count hfu hl hI hc (xs (1 + 5 * c + 1)) (xs (1 + 5 * c + 2))
                                              have h7 : chk 6 f1 M = some () := count_c h6 (Inv_c6 hl hI')
                                              simp only [j1, j2, c5, h5, h7, h6, Option.bind_some, if_true]
                                              exact hn f2 hI'
                                            · rw [if_neg k19]
                                              by_cases k20 : op = 20
                                              · rw [if_pos k20]
                                                obtain ⟨r, h5, h6⟩ := q_isEven hfu hl hI
                                                simp only [c5, h5, c6, h6, Option.bind_some, if_true]
                                                exact hn f (hI.more hc)
                                              · rw [if_neg k20]
                                                exact hn f (hI.more hc)
theorem pure_law (L : Nat) (xs : Nat → Int32) (sz : Nat) (hL : L ≤ 2561) : ∃ (fu : Nat) (res : jRL), mL_law fu L xs (fun _ => none) sz = some res ∧ res.1 = 1 ∧ res.2.2.1 ≤ 600000 ∧ res.2.2.2 ≤ 7302250 := by
  obtain ⟨fu, hfu⟩ : ∃ fu : Nat, fu = 100000 := ⟨_, rfl⟩
  refine ⟨fu, ?_⟩
  obtain ⟨N, hv⟩ := clN_ex (jscr L xs)
  unfold mL_law
  refine mapE ?_
  refine bindE (show nwO 5 b5 _ _ = some _ from rfl) ?_
  obtain ⟨⟨F1, S1, c1, k1⟩, hr1, h1, h2, h3, h4⟩ := init5 (b := sz) (fu := fu) (f0 := fun _ => none) (by omega) hv
  dsimp only at h1 h2 h3 h4
  subst h1 h2
  refine bindE hr1 ?_
  refine mapE ?_
  dsimp only
  refine mapE ?_
  refine bindE (show nwO 6 b28 _ _ = some _ from rfl) ?_
  obtain ⟨⟨F2, S2, c2, k2⟩, hr2, g1, g3, g4⟩ := init6 (M := sz + 2 + 8 * N + 74) (f0 := mkC sz (sz + 2 + 8 * N) N gn0 V0 (fun i => i) (fun _ => none)) hv
  dsimp only at g1 g3 g4
  subst g1
  refine bindE hr2 ?_
  refine mapE ?_
  dsimp only
  have hl : Lay sz (sz + 2 + 8 * N) (sz + 2 + 8 * N + 74) N := ⟨Nat.le_refl _, Nat.le_refl _, hv.1, hv.2.1⟩
  have hI := Inv_0 (b := sz) (p := sz + 2 + 8 * N) (M := sz + 2 + 8 * N + 74) (f0 := fun _ => none) hv.1 hv.2.1
  rw [swapCR hl] at hI
  have h := law_loop (fu := fu) (L := L) (xs := xs) (sz := S2) (by omega) hl hL 512 0 fu _ (by omega) (by omega) hI
  refine ⟨_, h, rfl, ?_, ?_⟩
  · simp only [jcnt]; omega
  · simp only [jcnt]; omega
