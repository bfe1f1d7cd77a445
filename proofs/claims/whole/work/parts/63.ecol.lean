/-! collect: both sides -/
theorem cnt_blk {R : Nat → Bool} {n : Nat} (hn : n < 5) : cnt (fun x => R x && decide (x / 24 = n)) 120 = cnt (fun k => R (24 * n + k)) 24 := by
  refine cnt_inj (od := fun i => 24 * n + i) (fun i hi => by omega) (fun i j hi hj h => by omega) (fun k hk => ?_)
  constructor
  · intro h
    simp at h
    exact ⟨k % 24, by omega, by omega, by rw [show 24 * n + k % 24 = k by omega]; exact h.1⟩
  · rintro ⟨i, h1, h2, h3⟩
    have h4 : k / 24 = n := by omega
    simp only [h4, decide_true, Bool.and_true]
    rw [← h2]; exact h3
theorem ite_mk {b : Bool} {P : Prop} [Decidable P] (hP : P) {a : Nat} : (if P ∧ b = false then 0 else a) = if b = true then a else 0 := by cases b <;> simp [hP]
theorem ev_collect {b p M N cl fu n : Nat} {s : sT} (hfu : 2000 ≤ fu) (hp : b + 2 + 8 * N ≤ p) (h : sOk N cl s) (hn : n < N) :
    (∃ s', (∀ f1, mX5_collect fu (sC b p N s f1) b (nI n) = some (-2, sC b p N s' f1)) ∧ (∀ f2, mX6_collects fu (sR M s f2) M (nI n) = some (-2, sR M s' f2)) ∧ sOk N cl s' ∧ Phi s'.1 = Phi s.1) ∨
    (∃ s' w g, (∀ f1, mX5_collect fu (sC b p N s f1) b (nI n) = some (nI w, sC b p N s' f1)) ∧ (∀ f2, mX6_collects fu (sR M s f2) M (nI n) = some (nI w, sR M s' f2)) ∧ sOk N cl s' ∧ w ≤ 24 ∧ s'.1 0 2 = s.1 0 2 + g ∧ Phi s'.1 + g + w = Phi s.1) := by
  have h0 := h
  obtain ⟨A, V, gn, gp, pi, od, q⟩ := s
  obtain ⟨hS, hW, wL⟩ := h
  dsimp only at *
  have hW0 := hW
  obtain ⟨⟨h11, hN1, hN5⟩, wR, wF, wT, wW, wE, wM, wTo, wI⟩ := hW
  have hms := wM.1
  have hr : isM 62 := Or.inl rfl
  obtain ⟨gp1, m, e, c1, c2, c3, c4, c5⟩ := eC_live (b := b) (p := p) (fu := fu) hfu hp hS hW0 hn
  obtain ⟨A1, r1, r2, r3, r4, r5⟩ := eR_live (M := M) hfu hW0 hn
  -- the marks, as one function
  obtain ⟨mkd, hmk⟩ : ∃ mkd : Nat → Bool, ∀ x, x < 120 → (inM gp1 62 x ↔ mkd x = true) := ⟨fun x => decide (gp1 (62 + 1) x = 1), fun x _ => by unfold inM; simp⟩
  have hmR : ∀ x, x < 120 → (Rch (lRt A V n) (lE A V n) x ↔ mkd x = true) := fun x hx => (c5 x hx).symm.trans (hmk x hx)
  have hm1 : ∀ x, x < 120 → (inS 18 (fun y => y / 24 ≠ n) A1 x ↔ mkd x = true) := fun x hx => (r5 x hx).trans (hmR x hx)
  have hm18 : ∀ x, x < 120 → x / 24 = n → (A1 18 x = 1 ↔ mkd x = true) := fun x hx he => by
    rw [← hm1 x hx]
    exact ⟨fun w => ⟨fun w' => absurd he w', fun _ => w⟩, fun w => w.2 (fun w' => w' he)⟩
  have hm19 : ∀ x, x < 120 → x / 24 ≠ n → (A1 19 x = 1 ↔ mkd x = true) := fun x hx he => by
    rw [← hm1 x hx]
    exact ⟨fun w => ⟨fun _ => w, fun w' => absurd he w'⟩, fun w => w.1 he⟩
  have hS1 : SIM A V N gn gp1 pi od q := scr_SIM (scr_refl A) hms c3 c4 hS
  have hW1 : WF A1 V N cl := scr_WF r2 hW0
  have row : ∀ j, 0 < j → j < 18 → A1 j = A j := fun j h1 h2 => funext (fun i => r2 j i h2 (by omega))
  have e02 : A1 0 2 = A 0 2 := r2 0 2 (by omega) (by omega)
  have hwb : ∀ x, x < 120 → A 9 (120 * n + x) < 2 ^ 31 ∧ (0 < A 9 (120 * n + x) → x / 24 ≠ n) := fun x hx => by
    have a := bndW (n := n) wE wTo (by omega) hx
    have b := bndT wTo hx
    exact ⟨by omega, fun w => (wW n x (by omega) hx w).2.2⟩
  have hum : um A1 n mkd = um A n mkd := by
    funext i
    unfold um
    rw [row 9 (by omega) (by omega)]
  have c6 : ∀ f1, mX5_collect fu (mkC b p N gn gp pi f1) b (nI n) = if A 0 2 + cnt (fun x => um A n mkd (120 * n + x)) 120 ≤ 60 then ((mX2_giveBackUnmarked fu (mkC b p N gn gp1 pi f1) (b + 2 + 8 * n) (p + 62) p).bind fun f18 => (rdR 5 f18 b 2).bind fun x19 => (chk 2 f18 (b + 2 + 8 * n)).bind fun _ => (mX2_sweep fu f18 (b + 2 + 8 * n) x19).bind fun r21 => some (r21.1, r21.2)) else some (-2, mkC b p N gn gp1 pi f1) := by
    intro f1
    have hc := cnt_le (fun x => um A n mkd (120 * n + x)) 120
    unfold mX5_collect
    have hcnt := eC_cntU (b := b) (p := p) (N := N) (gn := gn) (gp := gp1) (pi := pi) (A := A) (mkd := mkd) (f1 := f1) hfu hp hn (fun x hx => ⟨(hS.1 n hn).2.2.2.2.1 x hx, (hwb x hx).1⟩) c2 hmk
    have g0 : gp1 0 0 = nI (A 0 2) := by rw [c3 0 (by omega)]; exact hS.2.1.1
    simp only [cchk5 hp, Option.bind_some, eC_isNode hp hN5 hn, cF0 hp, cNod hp hn (show N < 2 ^ 31 by omega), cF2 hp, cchk2 hp hn, c1, hcnt, cF1 hp, cP1, g0, nI_add, i60]
    rw [if_neg (by decide)]
    by_cases c : A 0 2 + cnt (fun x => um A n mkd (120 * n + x)) 120 ≤ 60
    · rw [if_pos (nI_le (by omega) (by omega)), if_pos c]
    · rw [if_neg (nI_ge (by omega) (by omega)), if_neg c]
  have c7 : ∀ f2, mX6_collects fu (mkR M (toR A V) f2) M (nI n) = if A 0 2 + cnt (fun x => um A n mkd (120 * n + x)) 120 ≤ 60 then mX6_collects_L264 fu M (nI n) fu (nI 0) (nI 0) (mkR M (toR A1 V) f2) else some (-2, mkR M (toR A1 V) f2) := by
    intro f2
    rw [r1, eR_cntU (mkd := mkd) hfu (by omega) r4 hm19 (fun x hx => by rw [row 9 (by omega) (by omega)]; exact hwb x hx) (by omega), e02, hum]
  by_cases h60 : A 0 2 + cnt (fun x => um A n mkd (120 * n + x)) 120 ≤ 60
  · right
    -- the class gives back, then sweeps
    obtain ⟨gn2, gp2, d1, d2, d3⟩ := eC_gvU (b := b) (p := p) (fu := fu) hfu hp hn hS1 hW0 c2 hmk h60
    generalize hB : gvp (um A n mkd) (120 * n) 120 (A, V) = B at *
    have hBo : ∀ j, ¬ (12 ≤ j ∧ j ≤ 16) → j ≠ 0 → j ≠ 9 → B.1 j = A j := fun j a1 a2 a3 => by rw [← hB]; exact gvp_o a1 a2 a3 120
    have hBV : ∀ j, j ≠ 17 → B.2 j = V j := fun j a1 => by rw [← hB]; exact gvp_V a1 120
    have hM2 : MK gp2 62 m e := MK_ext c2 (d3 _ (by omega)) (d3 _ (by omega)) (d3 _ (by omega))
    have hmk2 : ∀ x, x < 120 → (inM gp2 62 x ↔ mkd x = true) := fun x hx => by
      unfold inM
      rw [d3 _ (by omega)]
      exact hmk x hx
    have hLB : lay1 B.1 n (od n) (q n) := lay1_ext (wL n hn) (fun k _ => by rw [hBo 1 (by omega) (by omega) (by omega)]) (fun k _ => by rw [hBo 2 (by omega) (by omega) (by omega)]) (fun k _ => by rw [hBo 4 (by omega) (by omega) (by omega)]) (by rw [hBo 10 (by omega) (by omega) (by omega)])
    obtain ⟨gn3, t1, t2, t3⟩ := eC_sweep (b := b) (p := p) (gp := gp2) (pi := pi) (fu := fu) hfu hp hN5 hn (d2.1 n hn) hLB (fun k hk ht => by
      rw [hBo 4 (by omega) (by omega) (by omega)] at ht
      rw [hBo 1 (by omega) (by omega) (by omega), hBo 5 (by omega) (by omega) (by omega), hBV 6 (by omega)]
      have := wF (24 * n + k) (by omega) ht
      exact ⟨this.1, this.2.2⟩) hM2 hmk2
    rw [hBo 1 (by omega) (by omega) (by omega), hBo 2 (by omega) (by omega) (by omega)] at t3
    have hv11 : B.2 11 n = V 11 n := by rw [hBV 11 (by omega)]
    rw [hv11] at t3
    generalize hmkn : (fun k => mkd (24 * n + k)) = mk at *
    generalize hqq : kp mk (od n) (q n) = qq at *
    generalize hsz : (fun k => A 1 (24 * n + k)) = sz at *
    generalize had : (fun k => A 2 (24 * n + k)) = ad at *
    -- the reference frees, slides, gives back
    have hL1 : lay1 A1 n (od n) (q n) := scr_lay r2 wL n hn
    have h41 : ∀ k, k < 24 → A1 4 (24 * n + k) ≤ 1 := fun k hk => by
      rw [row 4 (by omega) (by omega)]
      rcases wT (24 * n + k) (by omega) with w | w <;> omega
    generalize hA3 : upA (slA (frA A1 n mkd 24) n (ko mk (od n) (q n)) (ca mk (od n) (q n) sz) qq) 10 n (ca mk (od n) (q n) sz qq) = A3
    generalize hV3 : up2 V 11 n (mv mk (od n) (q n) sz ad (V 11 n) qq) = V3
    have hsl : ∀ f2, mX6_slides fu (mkR M (toR (frA A1 n mkd 24) V) f2) M (nI n) = some (mkR M (toR A3 V3) f2) := fun f2 => by
      have := eR_slides (M := M) (V := V) (mkd := mkd) (f2 := f2) hfu (by omega) hL1 h41
      rw [row 1 (by omega) (by omega), row 2 (by omega) (by omega), hmkn, hsz, had, hqq, hA3, hV3] at this
      exact this
    have h3o : ∀ j, j ≠ 4 → j ≠ 2 → j ≠ 10 → A3 j = A1 j := fun j a1 a2 a3 => by
      funext i
      rw [← hA3, upA_n _ _ (by omega), slA_o a2]
      unfold frA
      rw [if_neg (by omega)]
    have h34 : ∀ x, A3 4 x = if x / 24 = n ∧ mkd x = false then 0 else A1 4 x := fun x => by
      rw [← hA3, upA_n _ _ (by omega), slA_o (by omega)]
      unfold frA
      by_cases c : x / 24 = n ∧ mkd x = false
      · rw [if_pos ⟨rfl, c.1, by omega, c.2⟩, if_pos c]
      · rw [if_neg (fun w => c ⟨w.2.1, w.2.2.2⟩), if_neg c]
    have h310 : ∀ i, A3 10 i = if i = n then ca mk (od n) (q n) sz qq else A1 10 i := fun i => by
      rw [← hA3, upA_if]
      split
      · rfl
      · rw [slA_o (by omega)]
        unfold frA
        rw [if_neg (by omega)]
    obtain ⟨l1, l2, l3, l4, l5, l6, l7⟩ := wL n hn
    have hixq : ∀ t, t < qq → ixn mk (od n) (q n) t < q n := fun t ht => ((ix_all mk (od n) (q n)).1 t (by omega)).1
    have hinj : ∀ a b, a < qq → b < qq → ko mk (od n) (q n) a = ko mk (od n) (q n) b → a = b := fun a b ha hb he => by
      have := l3 _ _ (hixq a ha) (hixq b hb) he
      have x := ((ix_all mk (od n) (q n)).1 a (by omega)).2.2
      have y := ((ix_all mk (od n) (q n)).1 b (by omega)).2.2
      rw [this] at x
      omega
    have h32 : ∀ t, t < qq → A3 2 (24 * n + ko mk (od n) (q n) t) = ca mk (od n) (q n) sz t := fun t ht => by
      rw [← hA3, upA_n _ _ (by omega)]
      exact slA_at hinj qq (Nat.le_refl _) t ht
    have h32o : ∀ x, x / 24 ≠ n → A3 2 x = A1 2 x := fun x hx => by
      rw [← hA3, upA_n _ _ (by omega), slA_2 _ _ (fun t ht w => hx (by
        have := (l2 _ (hixq t ht)).1
        unfold ko at w
        omega))]
      unfold frA
      rw [if_neg (by omega)]
    have hV3o : ∀ j, j ≠ 11 → V3 j = V j := fun j hj => by rw [← hV3]; exact up2_other _ _ _ hj
    have h302 : A3 0 2 = A 0 2 := by rw [h3o 0 (by omega) (by omega) (by omega), e02]
    -- one abstract state
    generalize hC : gvp (um A n mkd) (120 * n) 120 (A3, V3) = C
    have hCo : ∀ j, ¬ (12 ≤ j ∧ j ≤ 16) → j ≠ 0 → j ≠ 9 → C.1 j = A3 j := fun j a1 a2 a3 => by rw [← hC]; exact gvp_o a1 a2 a3 120
    have hCV : ∀ j, j ≠ 17 → C.2 j = V3 j := fun j a1 => by rw [← hC]; exact gvp_V a1 120
    have hmsE : msE B C := by
      rw [← hB, ← hC]
      refine gvp_msE ⟨h302, ?_, ?_, ?_, ?_, ?_, ?_, hV3o 17 (by omega)⟩ 120
      · show A3 9 = A 9
        rw [h3o 9 (by omega) (by omega) (by omega), row 9 (by omega) (by omega)]
      · show A3 12 = A 12
        rw [h3o 12 (by omega) (by omega) (by omega), row 12 (by omega) (by omega)]
      · show A3 13 = A 13
        rw [h3o 13 (by omega) (by omega) (by omega), row 13 (by omega) (by omega)]
      · show A3 14 = A 14
        rw [h3o 14 (by omega) (by omega) (by omega), row 14 (by omega) (by omega)]
      · show A3 15 = A 15
        rw [h3o 15 (by omega) (by omega) (by omega), row 15 (by omega) (by omega)]
      · show A3 16 = A 16
        rw [h3o 16 (by omega) (by omega) (by omega), row 16 (by omega) (by omega)]
    have rC : ∀ j, ¬ (12 ≤ j ∧ j ≤ 16) → j ≠ 0 → j ≠ 9 → j ≠ 4 → j ≠ 2 → j ≠ 10 → j < 18 → C.1 j = A j := fun j a1 a2 a3 a4 a5 a6 a7 => by
      rw [hCo j a1 a2 a3, h3o j a4 a5 a6, row j (by omega) a7]
    have kpq : q n - qq = cnt (fun k => (A1 4 (24 * n + k) == 1) && !(mkd (24 * n + k))) 24 := by
      have a1 := cnt_split (P := fun k => A 4 (24 * n + k) == 1) (Q := mk) (n := 24)
      have a2 : cnt (fun k => (A 4 (24 * n + k) == 1) && mk k) 24 = qq := by
        rw [← hqq]
        refine cnt_inj (fun i hi => (l2 i hi).1) (fun i j hi hj => l3 i j hi hj) (fun k hk => ?_)
        constructor
        · intro w
          simp at w
          obtain ⟨i, hi, hik⟩ := l4 k hk w.1
          exact ⟨i, hi, hik, by rw [hik]; exact w.2⟩
        · rintro ⟨i, w1, w2, w3⟩
          rw [← w2, w3, (l2 i w1).2.1]
          rfl
      have a3 : (fun k => (A1 4 (24 * n + k) == 1) && !(mkd (24 * n + k))) = fun k => (A 4 (24 * n + k) == 1) && !(mk k) := by
        rw [row 4 (by omega) (by omega), ← hmkn]
      rw [a3]
      omega
    have hWo : WF A3 V3 N cl := by
      rw [ov_eq h3o]
      refine WF_free (mkd := mkd) hW1 hn (fun x hx => ?_) (fun x y hg hx hy => ?_) (fun x hx => h34 x) (hV3o 6 (by omega)) (hV3o 8 (by omega)) (hV3o 17 (by omega))
      · have : lRt A V n x := by
          unfold lRt rH at hx ⊢
          rw [row 7 (by omega) (by omega), row 3 (by omega) (by omega)] at hx
          exact hx
        exact (hmR x (by have := (lRt_gd hW0 hn this).1; omega)).mp (Rch_root this)
      · have hy' : lE A V n x y := ⟨hy.1, (scr_fH r2 x y).mp hy.2⟩
        have := hg.1
        exact (hmR y hy'.2.1).mp (Rch_step ((hmR x (by omega)).mpr hx) hy')
    have hgv := gvp_WF (U := um A n mkd) (c := 120 * n) (s := (A3, V3)) hWo (fun i hi hU => by
      dsimp only
      have hU' := hU
      unfold um at hU'
      simp at hU'
      obtain ⟨⟨u1, u2⟩, u3⟩ := hU'
      have e9 : A3 9 = A 9 := by rw [h3o 9 (by omega) (by omega) (by omega), row 9 (by omega) (by omega)]
      refine ⟨by omega, by rw [e9]; exact u2, fun w => ?_, fun o w1 w2 w3 => ?_⟩
      · have : rH A V n (i % 120) := by
          unfold rH at w ⊢
          rw [h3o 7 (by omega) (by omega) (by omega), row 7 (by omega) (by omega), hV3o 8 (by omega), u1] at w
          exact w
        have := (hmR _ (by omega)).mp (Rch_root (Or.inl this))
        rw [u3] at this
        exact absurd this (by decide)
      · have hf : fH A V o (i % 120) := by
          unfold fH at w3 ⊢
          rw [h3o 1 (by omega) (by omega) (by omega), row 1 (by omega) (by omega), h3o 5 (by omega) (by omega) (by omega), row 5 (by omega) (by omega), hV3o 6 (by omega)] at w3
          exact w3
        have ho := w1.1
        have ho4 := w1.2
        rw [h34] at ho4
        have hmo : mkd o = true := by
          cases hm : mkd o with
          | true => rfl
          | false => rw [if_pos ⟨by omega, hm⟩] at ho4; omega
        have := (hmR _ (by omega)).mp (Rch_step ((hmR o (by omega)).mpr hmo) ⟨by omega, hf⟩)
        rw [u3] at this
        exact absurd this (by decide)) 120 (by omega) (by dsimp only; rw [h302]; exact h60)
    refine ⟨(C.1, C.2, gn3, gp2, pi, fun i => if i = n then ko mk (od n) (q n) else od i, fun i => if i = n then qq else q i), q n - qq, cnt (fun x => um A n mkd (120 * n + x)) 120, fun f1 => ?_, fun f2 => ?_, ⟨⟨fun i hi => ?_, ?_, d2.2.2⟩, ?_, fun i hi => ?_⟩, by omega, ?_, ?_⟩
    · show mX5_collect fu (mkC b p N gn gp pi f1) b (nI n) = _
      rw [c6, if_pos h60, d1]
      simp only [Option.bind_some, cF2 hp, cchk2 hp hn, t1]
    · show mX6_collects fu (mkR M (toR A V) f2) M (nI n) = _
      rw [c7, if_pos h60, eR_free (mkd := mkd) hfu (by omega) r3 hm18 h41, hsl, ← kpq]
      have e19 : A3 19 = A1 19 := h3o 19 (by omega) (by omega) (by omega)
      have e9 : A3 9 = A 9 := by rw [h3o 9 (by omega) (by omega) (by omega), row 9 (by omega) (by omega)]
      have := eR_gvU (M := M) (V := V3) (A := A3) (A0 := A) (mkd := mkd) (n := n) (f2 := f2) (v := nI (q n - qq)) hfu (by omega) (by unfold bl; rw [e19]; exact r4) (by rw [e19]; exact hm19) (by rw [e9]; exact hwb) e9.symm (by rw [h302]; exact h60)
      rw [hC] at this
      exact this
    · show SN C.1 C.2 i gn3 (if i = n then ko mk (od n) (q n) else od i) (if i = n then qq else q i)
      by_cases c : i = n
      · rw [if_pos c, if_pos c, c]
        refine t3 C.1 C.2 ?_ ?_ ?_ ?_ hmsE.2.1 ?_ ?_ ?_ ?_ ?_ ?_
        · exact rC 1 (by omega) (by omega) (by omega) (by omega) (by omega) (by omega) (by omega)
        · rw [rC 3 (by omega) (by omega) (by omega) (by omega) (by omega) (by omega) (by omega), hBo 3 (by omega) (by omega) (by omega)]
        · rw [rC 5 (by omega) (by omega) (by omega) (by omega) (by omega) (by omega) (by omega), hBo 5 (by omega) (by omega) (by omega)]
        · rw [rC 7 (by omega) (by omega) (by omega) (by omega) (by omega) (by omega) (by omega), hBo 7 (by omega) (by omega) (by omega)]
        · intro k hk
          rw [hCo 4 (by omega) (by omega) (by omega), h34, hBo 4 (by omega) (by omega) (by omega), row 4 (by omega) (by omega)]
          exact ite_mk (by omega)
        · intro t ht
          rw [hCo 2 (by omega) (by omega) (by omega)]
          exact h32 t ht
        · rw [hCo 10 (by omega) (by omega) (by omega), h310, if_pos rfl]
        · rw [hCV 6 (by omega), hV3o 6 (by omega), hBV 6 (by omega)]
        · rw [hCV 8 (by omega), hV3o 8 (by omega), hBV 8 (by omega)]
        · rw [hCV 11 (by omega), ← hV3, up2_s]
      · rw [if_neg c, if_neg c]
        refine SN_ext (d2.1 i hi) (t2 i c) (fun k hk => ?_) (fun k hk => ?_) ?_ (fun k hk => ?_) (fun k f hk hf ht => ?_) ?_ hmsE.2.1 ?_ ?_ ?_
        · rw [rC 1 (by omega) (by omega) (by omega) (by omega) (by omega) (by omega) (by omega), hBo 1 (by omega) (by omega) (by omega)]
        · rw [hCo 2 (by omega) (by omega) (by omega), h32o _ (by omega), row 2 (by omega) (by omega), hBo 2 (by omega) (by omega) (by omega)]
        · rw [rC 3 (by omega) (by omega) (by omega) (by omega) (by omega) (by omega) (by omega), hBo 3 (by omega) (by omega) (by omega)]
        · rw [hCo 4 (by omega) (by omega) (by omega), h34, if_neg (by omega), row 4 (by omega) (by omega), hBo 4 (by omega) (by omega) (by omega)]
        · rw [rC 5 (by omega) (by omega) (by omega) (by omega) (by omega) (by omega) (by omega), hBo 5 (by omega) (by omega) (by omega), hCV 6 (by omega), hV3o 6 (by omega), hBV 6 (by omega)]
          exact ⟨rfl, rfl⟩
        · rw [rC 7 (by omega) (by omega) (by omega) (by omega) (by omega) (by omega) (by omega), hBo 7 (by omega) (by omega) (by omega)]
        · rw [hCo 10 (by omega) (by omega) (by omega), h310, if_neg c, row 10 (by omega) (by omega), hBo 10 (by omega) (by omega) (by omega)]
        · rw [hCV 8 (by omega), hV3o 8 (by omega), hBV 8 (by omega)]
        · rw [hCV 11 (by omega), ← hV3, up2_n _ _ (by omega), hBV 11 (by omega)]
    · exact SP_ext d2.2.1 hmsE
    · have := hgv.1
      rw [hC] at this
      exact this
    · show lay1 C.1 i (if i = n then ko mk (od n) (q n) else od i) (if i = n then qq else q i)
      by_cases c : i = n
      · rw [if_pos c, if_pos c, c, ← hqq]
        refine lay_swp (mk := mk) (wL n hn) (fun k hk => ?_) (fun k hk => ?_) (fun t ht => ?_) ?_
        · rw [rC 1 (by omega) (by omega) (by omega) (by omega) (by omega) (by omega) (by omega)]
        · rw [hCo 4 (by omega) (by omega) (by omega), h34, row 4 (by omega) (by omega), ← hmkn]
          dsimp only
          exact ite_mk (by omega)
        · rw [hCo 2 (by omega) (by omega) (by omega), hsz]
          exact h32 t (by omega)
        · rw [hCo 10 (by omega) (by omega) (by omega), h310, if_pos rfl, hsz, hqq]
      · rw [if_neg c, if_neg c]
        refine lay1_ext (wL i hi) (fun k hk => ?_) (fun k hk => ?_) (fun k hk => ?_) ?_
        · rw [rC 1 (by omega) (by omega) (by omega) (by omega) (by omega) (by omega) (by omega)]
        · rw [hCo 2 (by omega) (by omega) (by omega), h32o _ (by omega), row 2 (by omega) (by omega)]
        · rw [hCo 4 (by omega) (by omega) (by omega), h34, if_neg (by omega), row 4 (by omega) (by omega)]
        · rw [hCo 10 (by omega) (by omega) (by omega), h310, if_neg c, row 10 (by omega) (by omega)]
    · show C.1 0 2 = A 0 2 + _
      rw [← hC, gvp_0]
      show A3 0 2 + _ = _
      rw [h302]
    · show Phi C.1 + cnt (fun x => um A n mkd (120 * n + x)) 120 + (q n - qq) = Phi A
      have e9 : A3 9 = A 9 := by rw [h3o 9 (by omega) (by omega) (by omega), row 9 (by omega) (by omega)]
      have e14 : A3 14 = A 14 := by rw [h3o 14 (by omega) (by omega) (by omega), row 14 (by omega) (by omega)]
      have p1 : Phi C.1 + cnt (fun x => um A n mkd (120 * n + x)) 120 = Phi A3 := by
        rw [← hC]
        exact hgv.2
      have p2 : Phi A3 + (q n - qq) = Phi A := by
        have a1 := cnt_split (P := fun x => A 4 x == 1) (Q := fun x => mkd x || decide (x / 24 ≠ n)) (n := 120)
        have a2 : cnt (fun x => (A 4 x == 1) && (mkd x || decide (x / 24 ≠ n))) 120 = cnt (fun x => A3 4 x == 1) 120 := cnt_ext (fun x hx => by
          rw [h34, row 4 (by omega) (by omega)]
          by_cases c1 : x / 24 = n
          · by_cases c2 : mkd x = true
            · rw [if_neg (by simp [c2])]; simp [c2]
            · have c2' : mkd x = false := by simpa using c2
              rw [if_pos ⟨c1, c2'⟩]; simp [c1, c2']
          · rw [if_neg (by simp [c1])]; simp [c1])
        have a3 : cnt (fun x => (A 4 x == 1) && !(mkd x || decide (x / 24 ≠ n))) 120 = cnt (fun x => ((A 4 x == 1) && !(mkd x)) && decide (x / 24 = n)) 120 := cnt_ext (fun x hx => by
          by_cases c1 : x / 24 = n <;> simp [c1])
        have a4 := cnt_blk (R := fun x => (A 4 x == 1) && !(mkd x)) (n := n) (by omega)
        rw [row 4 (by omega) (by omega)] at kpq
        have e3 : imp A3 = imp A := by
          funext m
          unfold imp
          rw [e9]
        unfold Phi
        rw [h302, e14, e3]
        omega
      omega
  · left
    refine ⟨(A1, V, gn, gp1, pi, od, q), fun f1 => ?_, fun f2 => ?_, scr_sOk r2 c3 c4 h0, scr_Phi r2⟩
    · show mX5_collect fu (mkC b p N gn gp pi f1) b (nI n) = _
      rw [c6, if_neg h60]
    · show mX6_collects fu (mkR M (toR A V) f2) M (nI n) = _
      rw [c7, if_neg h60]
