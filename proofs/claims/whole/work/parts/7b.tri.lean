/-! a trial: both sides -/
theorem sm_pos {f : Nat → Nat} : ∀ {n : Nat}, 0 < sm f n → ∃ i, i < n ∧ 0 < f i := by
  intro n
  induction n with
  | zero => intro h; exact absurd h (by simp [sm])
  | succ n ih =>
    intro h
    by_cases c : 0 < f n
    · exact ⟨n, by omega, c⟩
    · have h' : 0 < sm f n + f n := h
      obtain ⟨i, h1, h2⟩ := ih (by omega)
      exact ⟨i, by omega, h2⟩
theorem cnt_pos {P : Nat → Bool} {n i : Nat} (hi : i < n) (h : P i = true) : 1 ≤ cnt P n := by
  rw [cnt_sm]
  have := sm_le (f := fun i => if P i then 1 else 0) hi
  simp only [h, if_true] at this
  exact this
theorem cnt_t : ∀ n, cnt (fun _ => true) n = n := by
  intro n
  induction n with
  | zero => rfl
  | succ n ih => simp [cnt, ih]
theorem MK_cnt {gp : tV} {r m : Nat} {e : Nat → Nat} {P : Nat → Bool} (h : MK gp r m e) (hP : ∀ x, x < 120 → (P x = true ↔ inM gp r x)) : cnt P 120 = m := by
  rw [cnt_inj (od := e) (q := m) (Q := fun _ => true) (fun i hi => (h.2.2.1 i hi).1) (fun i j hi hj => h.2.2.2.1 i j hi hj) (fun k hk => ?_), cnt_t]
  rw [hP k hk, MK_in h hk]
  constructor
  · rintro ⟨i, h1, h2⟩
    exact ⟨i, h1, h2, rfl⟩
  · rintro ⟨i, h1, h2, -⟩
    exact ⟨i, h1, h2⟩
theorem cnt_tail {P : Nat → Bool} {N : Nat} : ∀ {K : Nat}, N ≤ K → (∀ m, N ≤ m → m < K → P m = false) → cnt P K = cnt P N := by
  intro K h h0
  rw [cnt_sm, cnt_sm]
  exact sm_tail h (fun m h1 h2 => by rw [h0 m h1 h2]; rfl)
set_option maxHeartbeats 1000000 in
theorem ev_tries {b p M N cl fu id : Nat} {s : sT} (hfu : 2000 ≤ fu) (hp : b + 2 + 8 * N ≤ p) (h : sOk N cl s) (h0 : s.1 0 2 = 0) (hid : gd s.1 N id) (htot : 0 < s.1 3 id) :
    ∃ r s', (∀ f1, mX4_run fu (sC b p N s f1) (p + 65) (b + 1) (nI id) p = some (nI r, sC b p N s' f1)) ∧ (∀ f2, mX6_tries fu (sR M s f2) M (nI id) = some (nI r, sR M s' f2)) ∧ sOk N cl s' ∧ r ≤ 120 ∧ ((r = 0 ∧ scr s.1 s'.1) ∨ (0 < r ∧ Phi s'.1 < Phi s.1)) := by
  have hs0 := h
  obtain ⟨A, V, gn, gp, pi, od, q⟩ := s
  obtain ⟨hS, hW, wL⟩ := h
  dsimp only at *
  have hW0 := hW
  obtain ⟨⟨h11, hN1, hN5⟩, wR, wF, wT, wW, wE, wM, wTo, wI⟩ := hW
  have hms := wM.1
  have hid1 := hid.1
  have hid120 : id < 120 := by omega
  have hr6 : isM 66 := Or.inr (Or.inl rfl)
  have hr9 : isM 69 := Or.inr (Or.inr rfl)
  -- gray
  obtain ⟨g1, g2, gp1, mg, eg, a1, a2, a3, a4, a5, a6, a7⟩ := eC_gray (b := b) (p := p) (fu := fu) hfu hp hS hW0 hid
  obtain ⟨A1, b1, b2, b3, b4⟩ := eR_gray (M := M) hfu hW0 hid
  have hGd : ∀ x, gE A V id x → gd A N x := fun x hx => gE_gd hW0 hid hx
  have hcl : ∀ o y, gd A N o → gE A V id o → fH A V o y → gE A V id y := fun o y _ h1 h2 => Rch_step h1 h2
  have hS1 : SIM A V N gn gp1 pi od q := scr_SIM (scr_refl A) hms (fun j hj => a5 j (by omega) (by omega) (by omega)) a6 hS
  -- without
  obtain ⟨gp2, mo, eo, c1, c2, c3, c4, c5⟩ := eC_fw (b := b) (p := p) (fu := fu) (gp := gp1) (Gr := gE A V id) hfu hp hS1 hW0 h0 hid120 a4 a7 hGd hcl
  obtain ⟨A2, d1, d2, d3, d4, d5, d6⟩ := eR_wo (M := M) (Gr := gE A V id) hfu hW0 h0 hid120 b2 b3 b4 hGd hcl
  have mk2 : MK gp2 66 mg eg := MK_ext a4 (c3 _ (by omega)) (c3 _ (by omega)) (c3 _ (by omega))
  have hSM2 : SM gp2 := by
    intro r hr
    rcases hr with rfl | rfl | rfl
    · obtain ⟨m', e', h'⟩ := a6 62 (Or.inl rfl)
      exact ⟨m', e', MK_ext h' (c3 _ (by omega)) (c3 _ (by omega)) (c3 _ (by omega))⟩
    · exact ⟨mg, eg, mk2⟩
    · exact ⟨mo, eo, c2⟩
  have low2 : ∀ j, j < 62 → gp2 j = gp j := fun j hj => by rw [c3 j (by omega), a5 j (by omega) (by omega) (by omega)]
  have g00 : gp2 0 0 = nI 0 := by rw [low2 0 (by omega), hS.2.1.1, h0]
  have crun : ∀ f1, mX4_run fu (mkC b p N gn gp pi f1) (p + 65) (b + 1) (nI id) p = if gp2 (69 + 1) id = 0 then ((mX4_countInner fu (mkC b p N gn gp2 pi f1) (p + 65) (b + 1)).bind fun r26 => (rdI 3 r26.2 p 1).bind fun x27 => if (r26.1 + x27) ≤ (60 : Int32) then mX4_run_L60 fu (p + 65) (b + 1) p fu (nI 0) r26.2 else some ((0 : Int32), r26.2)) else some ((0 : Int32), mkC b p N gn gp2 pi f1) := by
    intro f1
    unfold mX4_run
    simp only [cT0, Option.bind_some, cMchk hr6, a1, a2, a3, cTchk, c1, cT1, cMchk hr9, eC_has hr9 c2 hid120]
    rw [← i0]
  have rrun : ∀ f2, mX6_tries fu (mkR M (toR A V) f2) M (nI id) = if A2 23 id = 1 then some (0, mkR M (toR A2 V) f2) else mX6_tries_L174 fu M fu (nI 0) (nI 0) (mkR M (toR A2 V) f2) := fun f2 => by rw [b1, d1]
  by_cases hwo : Wo A V N (gE A V id) id
  · -- without: nothing comes of it
    have hin : inM gp2 69 id := Classical.byContradiction (fun w => w (c5 w id hid120 hwo))
    have hin' : gp2 (69 + 1) id = 1 := hin
    refine ⟨0, (A2, V, gn, gp2, pi, od, q), fun f1 => ?_, fun f2 => ?_, scr_sOk d2 low2 hSM2 hs0, by omega, Or.inl ⟨rfl, d2⟩⟩
    · show mX4_run fu (mkC b p N gn gp pi f1) (p + 65) (b + 1) (nI id) p = _
      rw [crun, hin', if_neg (by decide)]
      rfl
    · show mX6_tries fu (mkR M (toR A V) f2) M (nI id) = _
      rw [rrun, if_pos ((d5 id hid120).mpr hwo)]
      rfl
  · have hnin : ¬ inM gp2 69 id := fun w => hwo (c4 id hid120 w)
    have hnin' : gp2 (69 + 1) id = 0 := (MK_01 c2 hid120).resolve_left hnin
    have hO : ∀ x, x < 120 → (inM gp2 69 x ↔ Wo A V N (gE A V id) x) := fun x hx => ⟨c4 x hx, c5 hnin x hx⟩
    have hG : ∀ x, x < 120 → (inM gp2 66 x ↔ gE A V id x) := fun x hx => by
      rw [← a7 x hx]
      unfold inM
      rw [c3 (66 + 1) (by omega)]
    have hn23 : ¬ A2 23 id = 1 := fun w => hwo ((d5 id hid120).mp w)
    -- the inner ones
    obtain ⟨U, hU22⟩ : ∃ U : Nat → Bool, ∀ i, U i = true ↔ A2 22 i = 1 := ⟨fun i => A2 22 i == 1, fun i => by simp⟩
    have hU : ∀ m x, m < 5 → x < 120 → (U (120 * m + x) = true ↔ inr A V N (gE A V id) (Wo A V N (gE A V id)) m x) := fun m x hm hx => (hU22 _).trans (d6 m x hm hx).2
    have hUN : ∀ i, 120 * N ≤ i → i < 600 → U i = false := fun i h1 h2 => by
      cases hh : U i with
      | false => rfl
      | true =>
        have := hU (i / 120) (i % 120) (by omega) (by omega)
        rw [show 120 * (i / 120) + i % 120 = i by omega] at this
        obtain ⟨⟨-, -, o, w1, w2, -⟩, -⟩ := this.mp hh
        have := w1.1
        omega
    have hcN : cnt U 600 = cnt U (120 * N) := cnt_tail (by omega) hUN
    obtain ⟨gp3, t1, t2⟩ := eC_cntInner (b := b) (p := p) (N := N) (gn := gn) (pi := pi) (Gr := gE A V id) (O := Wo A V N (gE A V id)) (U := U) hfu hp hN5 (fun n hn => SN_SLT (hS.1 n hn)) wR wF mk2 c2 hG hO (fun m x hm hx => hU m x (by omega) hx)
    have low3 : ∀ j, j < 62 → gp3 j = gp j := fun j hj => by rw [t2 j (by omega), low2 j hj]
    have hSM3 : SM gp3 := SM_ext hSM2 (fun r _ h2 => t2 r (by omega))
    have hcle := cnt_le U (120 * N)
    have h22 : ∀ i, i < 600 → A2 22 i ≤ 1 ∧ (U i = true ↔ A2 22 i = 1) := fun i hi => ⟨by
      have := (d6 (i / 120) (i % 120) (by omega) (by omega)).1
      rw [show 120 * (i / 120) + i % 120 = i by omega] at this
      exact this, hU22 i⟩
    have e302 : gp3 0 0 = nI 0 := by rw [t2 0 (by omega)]; exact g00
    have crun2 : ∀ f1, mX4_run fu (mkC b p N gn gp pi f1) (p + 65) (b + 1) (nI id) p = if cnt U 600 ≤ 60 then mX4_run_L60 fu (p + 65) (b + 1) p fu (nI 0) (mkC b p N gn gp3 pi f1) else some ((0 : Int32), mkC b p N gn gp3 pi f1) := by
      intro f1
      rw [crun, hnin', if_pos rfl]
      simp only [t1, Option.bind_some, cP1, e302, nI_add, Nat.add_zero, i60]
      rw [hcN]
      by_cases c : cnt U (120 * N) ≤ 60
      · rw [if_pos (nI_le c (by omega)), if_pos c]
      · rw [if_neg (nI_ge (by omega) (by omega)), if_neg c]
    have rrun2 : ∀ f2, mX6_tries fu (mkR M (toR A V) f2) M (nI id) = if cnt U 600 ≤ 60 then mX6_tries_L215 fu M fu (nI 0) (nI 0) (mkR M (toR A2 V) f2) else some (0, mkR M (toR A2 V) f2) := by
      intro f2
      rw [rrun, if_neg hn23, eR_cntI hfu h22]
    by_cases h60 : cnt U 600 ≤ 60
    · -- it succeeds
      have hW2 : WF A2 V N cl := scr_WF d2 hW0
      have row : ∀ j, 0 < j → j < 18 → A2 j = A j := fun j j1 j2 => funext (fun i => d2 j i j2 (by omega))
      have e02 : A2 0 2 = 0 := by rw [d2 0 2 (by omega) (by omega)]; exact h0
      have bl21 : bl A2 21 := by unfold bl; rw [d3]; exact b3
      have g21 : ∀ x, x < 120 → (A2 21 x = 1 ↔ gE A V id x) := by rw [d3]; exact b4
      obtain ⟨L, hL⟩ : ∃ L : Nat → Bool, ∀ o, L o = true ↔ (A2 4 o = 1 ∧ A2 21 o = 1 ∧ ¬ A2 23 o = 1) ∧ o < 120 := ⟨fun o => decide ((A2 4 o = 1 ∧ A2 21 o = 1 ∧ ¬ A2 23 o = 1) ∧ o < 120), fun o => by simp⟩
      have hL' : ∀ o, o < 120 → (L o = true ↔ A2 4 o = 1 ∧ gE A V id o ∧ ¬ Wo A V N (gE A V id) o) := fun o ho => by
        rw [hL o, g21 o ho, d5 o ho]
        exact ⟨fun w => w.1, fun w => ⟨w, ho⟩⟩
      have hGd2 : ∀ x, gE A V id x → gd A2 N x := fun x hx => (scr_gd d2 x).mpr (hGd x hx)
      have hU2 : ∀ m x, m < 5 → x < 120 → (U (120 * m + x) = true ↔ inr A2 V N (gE A V id) (Wo A V N (gE A V id)) m x) := fun m x hm hx => (hU m x hm hx).trans (scr_inr d2 m x).symm
      have hS3 : SIM A2 V N gn gp3 pi od q := scr_SIM d2 hms low3 hSM3 hS
      have hmk3G : MK gp3 66 mg eg := MK_ext mk2 (t2 _ (by omega)) (t2 _ (by omega)) (t2 _ (by omega))
      have hmk3O : MK gp3 69 mo eo := MK_ext c2 (t2 _ (by omega)) (t2 _ (by omega)) (t2 _ (by omega))
      have z0 : emq L 5 (24 * 0) 0 0 (gvp U 0 (120 * 0) (A2, V)).1 = A2 := by
        funext j i
        unfold emq
        rw [if_neg (by omega)]
        rfl
      have z0' : emw L 6 (24 * 0) 0 0 (gvp U 0 (120 * 0) (A2, V)).2 = V := by
        funext j i
        unfold emw
        rw [if_neg (by omega)]
        rfl
      obtain ⟨⟨gn4, gp4⟩, k1, k2⟩ := lupI (S := tN × tV) (T := jM → Option (Int32 × jM)) (fun n' n s f1 => mX4_run_L60 fu (p + 65) (b + 1) p n' (nI n) (mkC b p N s.1 s.2 pi f1)) (fun s f1 => some (nI mg - nI mo, mkC b p N s.1 s.2 pi f1)) N (fun n s => SIM (emq L 5 (24 * n) 0 0 (gvp U 0 (120 * n) (A2, V)).1) (emw L 6 (24 * n) 0 0 (gvp U 0 (120 * n) (A2, V)).2) N s.1 s.2 pi od q ∧ ∀ j, 62 ≤ j → j < 72 → s.2 j = gp3 j)
        (by
          intro n' s ⟨u1, u2⟩
          funext f1
          have e66 : s.2 66 0 = nI mg := by rw [u2 66 (by omega) (by omega)]; exact hmk3G.2.1
          have e69 : s.2 69 0 = nI mo := by rw [u2 69 (by omega) (by omega)]; exact hmk3O.2.1
          rw [mX4_run_L60]
          simp only [cLen hp, Option.bind_some, cT0, cT1, cM2 hr6, cM2 hr9, e66, e69]
          rw [if_pos (nI_le (Nat.le_refl _) (by omega))])
        (by
          intro n' n s hn ⟨u1, u2⟩
          obtain ⟨g', gq', v1, v2, v3⟩ := eC_letGo (b := b) (p := p) (fu := fu) (gn := s.1) (gp := s.2) (pi := pi) (od := od) (q := q) (Gr := gE A V id) (O := Wo A V N (gE A V id)) (L := L) (U := U) hfu hp hn hW2 (MK_ext hmk3G (u2 _ (by omega) (by omega)) (u2 _ (by omega) (by omega)) (u2 _ (by omega) (by omega))) (MK_ext hmk3O (u2 _ (by omega) (by omega)) (u2 _ (by omega) (by omega)) (u2 _ (by omega) (by omega))) (fun x hx => by unfold inM; rw [u2 (66 + 1) (by omega) (by omega), t2 (66 + 1) (by omega)]; exact hG x hx) (fun x hx => by unfold inM; rw [u2 (69 + 1) (by omega) (by omega), t2 (69 + 1) (by omega)]; exact hO x hx) hL' hGd2 hU2 (by omega) u1
          refine ⟨(g', gq'), ⟨v2, fun j j1 j2 => (v3 j j1 j2).trans (u2 j j1 j2)⟩, ?_⟩
          funext f1
          show mX4_run_L60 fu (p + 65) (b + 1) p (n' + 1) (nI n) (mkC b p N s.1 s.2 pi f1) = _
          rw [mX4_run_L60]
          simp only [cLen hp, Option.bind_some, cNod hp hn (show N < 2 ^ 31 by omega), cTchk, v1, nI_1]
          rw [if_neg (nI_ge hn (by omega))])
        fu (gn, gp3) (by omega) ⟨by rw [z0, z0']; exact hS3, fun _ _ _ => rfl⟩
      obtain ⟨k3, k4⟩ := k1
      dsimp only at k3 k4 k2
      -- the same state
      have hLN : ∀ o, 24 * N ≤ o → o < 120 → L o = false := fun o h1 h2 => by
        cases hh : L o with
        | false => rfl
        | true =>
          have := ((hL' o h2).mp hh).2.1
          have := (hGd o this).1
          omega
      have eE : emq L 5 120 0 0 A2 = emq L 5 (24 * N) 0 0 A2 := by
        have := emq_le (L := L) (row := 5) (k := 24 * N) (A := A2) (120 - 24 * N) (fun o h1 h2 => hLN o h1 (by omega))
        rw [this, show 24 * N + (120 - 24 * N) = 120 by omega]
      have eW : emw L 6 120 0 0 V = emw L 6 (24 * N) 0 0 V := by
        have := emw_le (L := L) (row := 6) (k := 24 * N) (V := V) (120 - 24 * N) (fun o h1 h2 => hLN o h1 (by omega))
        rw [this, show 24 * N + (120 - 24 * N) = 120 by omega]
      have eC : gvp U 0 600 (emq L 5 120 0 0 A2, emw L 6 120 0 0 V) = (emq L 5 (24 * N) 0 0 (gvp U 0 (120 * N) (A2, V)).1, emw L 6 (24 * N) 0 0 (gvp U 0 (120 * N) (A2, V)).2) := by
        rw [eE, eW, show 600 = 120 * N + (600 - 120 * N) by omega, gvp_add, em_gvp]
        exact gvp_none _ (fun i h1 h2 => hUN i (by omega) (by omega))
      generalize hC : gvp U 0 600 (emq L 5 120 0 0 A2, emw L 6 120 0 0 V) = C at eC
      have hmany : cnt L 120 = mg - mo := by
        have m1 := MK_cnt (P := fun x => A2 21 x == 1) hmk3G (fun x hx => by
          rw [beq_iff_eq, g21 x hx, ← hG x hx]
          unfold inM
          rw [t2 (66 + 1) (by omega)])
        have m2 := MK_cnt (P := fun x => A2 23 x == 1) hmk3O (fun x hx => by
          rw [beq_iff_eq, d5 x hx, ← hO x hx]
          unfold inM
          rw [t2 (69 + 1) (by omega)])
        have m3 := cnt_split (P := fun x => A2 21 x == 1) (Q := fun x => A2 23 x == 1) (n := 120)
        have m4 : cnt (fun x => (A2 21 x == 1) && (A2 23 x == 1)) 120 = cnt (fun x => A2 23 x == 1) 120 := cnt_ext (fun x hx => by
          by_cases c : A2 23 x = 1
          · have hg := Wo_Gr hcl ((d5 x hx).mp c)
            have := (g21 x hx).mpr hg
            simp [c, this]
          · simp [c])
        have m5 : cnt (fun x => (A2 21 x == 1) && !(A2 23 x == 1)) 120 = cnt L 120 := cnt_ext (fun x hx => by
          rw [Bool.eq_iff_iff, hL x]
          constructor
          · intro w
            simp at w
            exact ⟨⟨(hGd2 x ((g21 x hx).mp w.1)).2, w.1, w.2⟩, hx⟩
          · intro w
            simp [w.1.2.1, w.1.2.2])
        omega
      have hmgo : mo ≤ mg := by
        have m1 := MK_cnt (P := fun x => A2 21 x == 1) hmk3G (fun x hx => by
          rw [beq_iff_eq, g21 x hx, ← hG x hx]
          unfold inM
          rw [t2 (66 + 1) (by omega)])
        have m2 := MK_cnt (P := fun x => A2 23 x == 1) hmk3O (fun x hx => by
          rw [beq_iff_eq, d5 x hx, ← hO x hx]
          unfold inM
          rw [t2 (69 + 1) (by omega)])
        have m3 := cr_mono (a := fun _ => A2 21) (B := fun _ => A2 23) (row := 0) (fun x hx w => (g21 x hx).mpr (Wo_Gr hcl ((d5 x hx).mp w)))
        have m3' : cnt (fun x => A2 23 x == 1) 120 ≤ cnt (fun x => A2 21 x == 1) 120 := m3
        omega
      have hLid : L id = true := (hL' id hid120).mpr ⟨by rw [row 4 (by omega) (by omega)]; exact hid.2, Rch_root rfl, hwo⟩
      have hrpos : 1 ≤ cnt L 120 := cnt_pos hid120 hLid
      -- some weight is given back
      have hUpos : 1 ≤ cnt U 600 := by
        have e3 := wE id hid120
        rw [h0] at e3
        have e4 : sm (msW A id) 0 = 0 := rfl
        obtain ⟨m, m1, m2⟩ := sm_pos (f := fun m => A 9 (120 * m + id)) (n := 5) (by omega)
        have hin : inr A V N (gE A V id) (Wo A V N (gE A V id)) m id := Classical.byContradiction (fun w => hwo (Wo_Cld.2.2 id m hid120 m1 (Rch_root rfl) m2 w))
        exact cnt_pos (show 120 * m + id < 600 by omega) ((hU m id m1 hid120).mpr hin)
      have eX9 : ∀ i, emq L 5 120 0 0 A2 9 i = A 9 i := fun i => by rw [emq_o (by omega), row 9 (by omega) (by omega)]
      have hgvp := gvp_WF (U := U) (c := 0) (s := (emq L 5 120 0 0 A2, emw L 6 120 0 0 V)) (N := N) (cl := cl) (WF_em hW2) (fun i hi hUi => by
        have hin := hU (i / 120) (i % 120) (by omega) (by omega)
        rw [show 120 * (i / 120) + i % 120 = i by omega] at hin
        obtain ⟨⟨w0, w1, o, w2, w3, w4, w5, w6⟩, w7⟩ := hin.mp hUi
        have h9 := (fH_gd hN5 wF w2 w6).2
        rw [w3, show 120 * (i / 120) + i % 120 = i by omega] at h9
        refine ⟨by have := w2.1; omega, by dsimp only; rw [eX9]; exact h9.resolve_left w1, fun w => w7 ⟨w0, w1, Or.inl ?_⟩, fun o' x1 x2 x3 => ?_⟩
        · obtain ⟨y1, a, y2, y3, y4⟩ := w
          refine ⟨y1, a, y2, ?_, ?_⟩
          · have y3' : emq L 5 120 0 0 A2 7 (6 * (i / 120) + a) = 2 := y3
            rw [emq_o (by omega), row 7 (by omega) (by omega)] at y3'
            exact y3'
          · have y4' : emw L 6 120 0 0 V 8 (6 * (i / 120) + a) = nI (i % 120) := y4
            rw [emw_o (by omega)] at y4'
            exact y4'
        · have x1' : gd A N o' := by
            obtain ⟨u1, u2⟩ := x1
            have u2' : emq L 5 120 0 0 A2 4 o' = 1 := u2
            rw [emq_o (by omega), row 4 (by omega) (by omega)] at u2'
            exact ⟨u1, u2'⟩
          have ho' : o' < 120 := by have := x1'.1; omega
          obtain ⟨y1, f, y2, y3, y4⟩ := x3
          have y2' : f < A 1 o' := by
            have y2' : f < emq L 5 120 0 0 A2 1 o' := y2
            rw [emq_o (by omega), row 1 (by omega) (by omega)] at y2'
            exact y2'
          have hf12 : f < 12 := Nat.lt_of_lt_of_le y2' (wF o' x1'.1 x1'.2).1
          by_cases hLo : L o' = true
          · have y3' : emq L 5 120 0 0 A2 5 (12 * o' + f) = 2 := y3
            unfold emq at y3'
            rw [if_pos ⟨rfl, Or.inl (by rw [show (12 * o' + f) / 12 = o' by omega]; exact ⟨hLo, ho'⟩)⟩] at y3'
            omega
          · have hn1 : ¬ ((L ((12 * o' + f) / 12) = true ∧ (12 * o' + f) / 12 < 120) ∨ ((12 * o' + f) / 12 = 0 ∧ (12 * o' + f) % 12 < 0)) := by
              rw [show (12 * o' + f) / 12 = o' by omega]
              rintro (w | w)
              · exact hLo w.1
              · omega
            have y3' : emq L 5 120 0 0 A2 5 (12 * o' + f) = 2 := y3
            have y4' : emw L 6 120 0 0 V 6 (12 * o' + f) = nI (i % 120) := y4
            unfold emq at y3'
            unfold emw at y4'
            rw [if_neg (fun w => hn1 w.2), row 5 (by omega) (by omega)] at y3'
            rw [if_neg (fun w => hn1 w.2)] at y4'
            refine w7 ⟨w0, w1, Or.inr ⟨o', x1', x2, fun w => hLo ((hL' o' ho').mpr ⟨by rw [row 4 (by omega) (by omega)]; exact x1'.2, w⟩), y1, f, y2', y3', y4'⟩⟩) 600 (by omega) (by
          dsimp only
          rw [emq_o (by omega), e02, cnt_ext (Q := U) (fun x _ => by rw [Nat.zero_add])]
          omega)
      rw [hC] at hgvp
      have hcU : cnt (fun i => U (0 + i)) 600 = cnt U 600 := cnt_ext (fun x _ => by rw [Nat.zero_add])
      rw [hcU] at hgvp
      have hPhi : Phi (emq L 5 120 0 0 A2) = Phi A := by
        have e1 : Phi (emq L 5 120 0 0 A2) = Phi A2 := by
          unfold Phi
          have r14 : ∀ i, emq L 5 120 0 0 A2 14 i = A2 14 i := fun i => emq_o (by omega)
          have r4 : ∀ i, emq L 5 120 0 0 A2 4 i = A2 4 i := fun i => emq_o (by omega)
          have r9 : imp (emq L 5 120 0 0 A2) = imp A2 := by
            funext m
            unfold imp
            exact cnt_ext (fun x _ => by rw [emq_o (by omega)])
          simp only [r14, r4, r9]
          rw [emq_o (by omega)]
        rw [e1]
        exact scr_Phi d2
      have rC : ∀ j, ¬ (12 ≤ j ∧ j ≤ 16) → j ≠ 0 → j ≠ 9 → j ≠ 5 → j < 18 → C.1 j = A j := fun j x1 x2 x3 x4 x5 => by
        rw [← hC, gvp_o x1 x2 x3 600]
        funext i
        show emq L 5 120 0 0 A2 j i = _
        rw [emq_o x4, row j (by omega) x5]
      refine ⟨mg - mo, (C.1, C.2, gn4, gp4, pi, od, q), fun f1 => ?_, fun f2 => ?_, ⟨?_, hgvp.1, fun n hn => ?_⟩, by have := hmk3G.1; omega, Or.inr ⟨by omega, ?_⟩⟩
      · show mX4_run fu (mkC b p N gn gp pi f1) (p + 65) (b + 1) (nI id) p = _
        rw [crun2, if_pos h60]
        have := congrFun k2 f1
        rw [this, nI_sub hmgo]
      · show mX6_tries fu (mkR M (toR A V) f2) M (nI id) = _
        rw [rrun2, if_pos h60, eR_empt (L := L) hfu hW2 bl21 d4 (fun o ho => by rw [hL o]; exact ⟨fun w => w.1, fun w => ⟨w, ho⟩⟩)]
        have := eR_gvI (M := M) (U := U) (v := nI (cnt L 120)) (W := emw L 6 120 0 0 V) (B := emq L 5 120 0 0 A2) (f2 := f2) hfu (fun i hi => by rw [emq_o (by omega)]; exact h22 i hi) (by rw [emq_o (by omega), e02]; omega)
        rw [this, hC, hmany]
      · show SIM C.1 C.2 N gn4 gp4 pi od q
        rw [eC]
        exact k3
      · exact lay1_ext (wL n hn) (fun k _ => by rw [rC 1 (by omega) (by omega) (by omega) (by omega) (by omega)]) (fun k _ => by rw [rC 2 (by omega) (by omega) (by omega) (by omega) (by omega)]) (fun k _ => by rw [rC 4 (by omega) (by omega) (by omega) (by omega) (by omega)]) (by rw [rC 10 (by omega) (by omega) (by omega) (by omega) (by omega)])
      · show Phi C.1 < Phi A
        have := hgvp.2
        dsimp only at this
        omega
    · refine ⟨0, (A2, V, gn, gp3, pi, od, q), fun f1 => ?_, fun f2 => ?_, scr_sOk d2 low3 hSM3 hs0, by omega, Or.inl ⟨rfl, d2⟩⟩
      · show mX4_run fu (mkC b p N gn gp pi f1) (p + 65) (b + 1) (nI id) p = _
        rw [crun2, if_neg h60]
        rfl
      · show mX6_tries fu (mkR M (toR A V) f2) M (nI id) = _
        rw [rrun2, if_neg h60]
        rfl
