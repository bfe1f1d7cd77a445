/-! a message comes: both sides -/
abbrev sT : Type := tA × tV × tN × tV × (Nat → Nat) × (Nat → Nat → Nat) × (Nat → Nat)
abbrev sC (b p N : Nat) (s : sT) (f : jM) : jM := mkC b p N s.2.2.1 s.2.2.2.1 s.2.2.2.2.1 f
abbrev sR (M : Nat) (s : sT) (f : jM) : jM := mkR M (toR s.1 s.2.1) f
def sOk (N cl : Nat) (s : sT) : Prop := SIM s.1 s.2.1 N s.2.2.1 s.2.2.2.1 s.2.2.2.2.1 s.2.2.2.2.2.1 s.2.2.2.2.2.2 ∧ WF s.1 s.2.1 N cl ∧ wLay s.1 N s.2.2.2.2.2.1 s.2.2.2.2.2.2
theorem eC_incW {b p N n o w0 w c : Nat} {gn : tN} {gp : tV} {pi : Nat → Nat} {f0 : jM} (hp : b + 2 + 8 * N ≤ p) (hn : n < N) (ho : o < 120) (h : gn n 6 o = nI w0) (hc : gn n 0 1 = nI c) (hw : 0 < w) (hb : w0 + w < 2 ^ 31) : mX2_changeWeight (mkC b p N gn gp pi f0) (b + 2 + 8 * n) (nI o) (nI w) = some (mkC b p N (up3 (up3 gn n 6 o (nI (w0 + w))) n 0 1 (nI (if w0 = 0 then c + 1 else c))) gp pi f0) := by
  unfold mX2_changeWeight mX2_changeWeight_B45
  simp only [eC_isId ho, Option.bind_some]
  rw [if_neg (by decide)]
  simp (disch := omega) only [cNr6, cNl6, cNs6, gl_nI, gs_nI, Option.bind_some, h, nI_add]
  have hg : up3 gn n 6 o (nI (w0 + w)) n 0 1 = nI c := by rw [up3_n _ _ (by omega), hc]
  by_cases e : w0 = 0
  · rw [e, if_pos (by decide), if_neg (nI_ne0 hw (by omega)), if_pos rfl]
    rw [e] at hg
    simp (disch := omega) only [cNg1, cNw1, Option.bind_some, hg, nI_1]
  · rw [if_neg (nI_ne0 (by omega) (by omega)), if_neg (nI_ne0 (by omega) (by omega)), if_neg (nI_ne0 (by omega) (by omega)), if_neg e, up3_id hg]
theorem eC_canTake {b p N n o w c : Nat} {gn : tN} {gp : tV} {pi : Nat → Nat} {f0 : jM} (hp : b + 2 + 8 * N ≤ p) (hn : n < N) (hN : N ≤ 5) (ho : o < 120) (h : gn n 6 o = nI w) (hc : gn n 0 1 = nI c) (hw : w < 2 ^ 31) (hcb : c ≤ 30) : mX2_canTake (mkC b p N gn gp pi f0) (b + 2 + 8 * n) (nI o) = some (if o / 24 ≠ n ∧ w = 0 ∧ c = 30 then 0 else 1, mkC b p N gn gp pi f0) := by
  unfold mX2_canTake
  simp (disch := omega) only [eC_nodeOf, Option.bind_some, cNi]
  by_cases e : o / 24 = n
  · rw [if_pos (by rw [e]), if_neg (by omega)]
  · rw [if_neg (fun q => e ((nI_eq (by omega) (by omega)).mp q))]
    simp (disch := omega) only [cchk2, eC_wOI, Option.bind_some, h]
    by_cases e2 : w = 0
    · rw [e2, if_neg (by decide)]
      simp only [cNg1 hp hn, Option.bind_some, hc, i30]
      by_cases e3 : c = 30
      · rw [if_pos (nI_le (by omega) (by omega)), if_pos ⟨e, trivial, e3⟩]
      · rw [if_neg (nI_ge (by omega) (by omega)), if_neg (by omega)]
    · rw [i0, if_pos (nI_lt (by omega) hw), if_neg (by omega)]
theorem eR_stays {M fu i : Nat} {A : tA} {V : tV} {f0 : jM} (hfu : 2000 ≤ fu) (hi : i < 60) (hk : A 14 i < 5) (ho : A 15 i < 120) (hn : A 13 i < 5) (hw : ∀ o, o < 120 → A 9 (120 * A 13 i + o) < 2 ^ 31) : mX6_stays fu (mkR M (toR A V) f0) M (nI i) = some (if A 14 i = 1 ∧ A 15 i / 24 ≠ A 13 i ∧ A 9 (120 * A 13 i + A 15 i) = 0 ∧ imp A (A 13 i) = 30 then 1 else 0, mkR M (toR A V) f0) := by
  unfold mX6_stays
  simp (disch := omega) only [rR15, rR16, rR17, rl13, rl14, rl15, gl_nI, tR13, tR14, tR15, Option.bind_some]
  by_cases e1 : A 14 i = 1
  · rw [if_pos (by rw [e1]; decide)]
    simp (disch := omega) only [i24, nI_div]
    by_cases e2 : A 15 i / 24 = A 13 i
    · rw [if_pos (by rw [e2]), if_neg (by omega)]
    · rw [if_neg (fun q => e2 ((nI_eq (by omega) (by omega)).mp q))]
      simp (disch := omega) only [rR10, rl9, i120, nI_mul, nI_add, gl_nI, tR9, Option.bind_some]
      by_cases e3 : A 9 (120 * A 13 i + A 15 i) = 0
      · rw [if_pos (by rw [e3]; decide)]
        have himp := eR_importsOf (b := M) (g := toR A V) (f0 := f0) (n := A 13 i) hn (show 120 < fu by omega)
        have hcnt : cnt (fun o => decide (0 < toR A V 9 (120 * A 13 i + o))) 120 = imp A (A 13 i) := cnt_ext (fun o ho => by
          rw [tR9, i0]
          exact decide_eq_decide.mpr (nI_ltI (by omega) (hw o ho)))
        have hle : imp A (A 13 i) ≤ 120 := cnt_le _ _
        rw [hcnt] at himp
        simp only [rchk, Option.bind_some, himp, i30]
        by_cases e4 : imp A (A 13 i) = 30
        · rw [if_pos (by rw [e4]), if_pos ⟨e1, e2, e3, e4⟩]
        · rw [if_neg (fun q => e4 ((nI_eq (by omega) (by omega)).mp q)), if_neg (fun q => e4 q.2.2.2)]
      · rw [if_neg (by rw [i0]; exact fun q => e3 ((nI_eq (hw _ ho) (by omega)).mp q)), if_neg (by omega)]
  · rw [if_neg (by rw [i1]; exact fun q => e1 ((nI_eq (by omega) (by omega)).mp q)), if_neg (fun q => e1 q.1)]
theorem first {b p M N fu : Nat} {A : tA} {V : tV} {gn : tN} {gp : tV} {pi : Nat → Nat} {m n : Nat} (hfu : 2000 ≤ fu) (hP : SP A V gp pi) (hms : A 0 2 ≤ 60) (hb : ∀ i, i < A 0 2 → A 12 i < 5 ∧ A 13 i < 5) (hm : m < 5) (hn : n < 5) :
    (∃ i, i < A 0 2 ∧ A 12 i = m ∧ A 13 i = n ∧ (∀ y, y < i → ¬ (A 12 y = m ∧ A 13 y = n)) ∧ (∀ f1, mX3_find fu (mkC b p N gn gp pi f1) p (nI m) (nI n) 0 = some (some (p + 2 + pi i), mkC b p N gn gp pi f1)) ∧ ∀ f2, mX6_firstOf fu (mkR M (toR A V) f2) M (nI m) (nI n) = some (nI i, mkR M (toR A V) f2)) ∨
    ((∀ y, y < A 0 2 → ¬ (A 12 y = m ∧ A 13 y = n)) ∧ (∀ f1, mX3_find fu (mkC b p N gn gp pi f1) p (nI m) (nI n) 0 = some (none, mkC b p N gn gp pi f1)) ∧ ∀ f2, mX6_firstOf fu (mkR M (toR A V) f2) M (nI m) (nI n) = some (-1, mkR M (toR A V) f2)) := by
  obtain ⟨p1, p2, p3, p4⟩ := hP
  have c5 := fun f1 => lsr0 (fun k i => mX3_find_L6 fu p (nI m) (nI n) 0 k 0 (nI i) (mkC b p N gn gp pi f1)) (A 0 2) (fun y => A 12 y = m ∧ A 13 y = n) (fun i => some (some (p + 2 + pi i), mkC b p N gn gp pi f1)) (some (none, mkC b p N gn gp pi f1)) fu (by omega)
    (by
      intro k _
      rw [mX3_find_L6]
      simp only [cP1, Option.bind_some, p1]
      rw [if_pos (nI_le (Nat.le_refl _) (by omega))])
    (by
      intro k i hi _ hP
      have hb' := hb i hi
      rw [mX3_find_L6]
      simp (disch := omega) only [cP1, cP0, cLat, Option.bind_some, p1]
      rw [if_neg (nI_ge hi (by omega))]
      have hpi := p2 i (by omega)
      simp only [cLg1 hpi, cLg2 hpi, Option.bind_some, (p4 i hi).2.1, (p4 i hi).2.2.1, hP.1, hP.2, if_true])
    (by
      intro k i hi hP
      have hP := hP i (Nat.le_refl _)
      have hb' := hb i hi
      rw [mX3_find_L6]
      simp (disch := omega) only [cP1, cP0, cLat, Option.bind_some, p1]
      rw [if_neg (nI_ge hi (by omega))]
      have hpi := p2 i (by omega)
      simp only [cLg1 hpi, cLg2 hpi, Option.bind_some, (p4 i hi).2.1, (p4 i hi).2.2.1, nI_1]
      by_cases e : A 12 i = m
      · rw [if_pos (by rw [e]), if_neg (fun q => hP ⟨e, (nI_eq (by omega) (by omega)).mp q⟩)]
      · rw [if_neg (fun q => e ((nI_eq (by omega) (by omega)).mp q))])
  have c6 := fun f2 => lsr0 (fun k i => mX6_firstOf_L2 fu M (nI m) (nI n) k (nI i) (mkR M (toR A V) f2)) (A 0 2) (fun y => A 12 y = m ∧ A 13 y = n) (fun i => some (nI i, mkR M (toR A V) f2)) (some (-1, mkR M (toR A V) f2)) fu (by omega)
    (by
      intro k _
      rw [mX6_firstOf_L2]
      simp only [rI13, tR0, Option.bind_some]
      rw [if_pos (nI_le (Nat.le_refl _) (by omega))])
    (by
      intro k i hi _ hP
      rw [mX6_firstOf_L2]
      simp (disch := omega) only [rI13, tR0, rR14, rR15, rl12, rl13, gl_nI, tR12, tR13, Option.bind_some, hP.1, hP.2, if_true]
      rw [if_neg (nI_ge hi (by omega))])
    (by
      intro k i hi hP
      have hP := hP i (Nat.le_refl _)
      have hb' := hb i hi
      rw [mX6_firstOf_L2]
      simp (disch := omega) only [rI13, tR0, rR14, rR15, rl12, rl13, gl_nI, tR12, tR13, Option.bind_some]
      rw [if_neg (nI_ge hi (by omega)), nI_1]
      by_cases e : A 12 i = m
      · rw [if_pos (by rw [e]), if_neg (fun q => hP ⟨e, (nI_eq (by omega) (by omega)).mp q⟩)]
      · rw [if_neg (fun q => e ((nI_eq (by omega) (by omega)).mp q))])
  have e0 : (0 : Int32) = nI 0 := i0
  have d5 : ∀ f1, mX3_find fu (mkC b p N gn gp pi f1) p (nI m) (nI n) 0 = mX3_find_L6 fu p (nI m) (nI n) 0 fu 0 (nI 0) (mkC b p N gn gp pi f1) := fun f1 => rfl
  have d6 : ∀ f2, mX6_firstOf fu (mkR M (toR A V) f2) M (nI m) (nI n) = mX6_firstOf_L2 fu M (nI m) (nI n) fu (nI 0) (mkR M (toR A V) f2) := fun f2 => rfl
  by_cases hex : ∃ i, i < A 0 2 ∧ (A 12 i = m ∧ A 13 i = n) ∧ ∀ y, y < i → ¬ (A 12 y = m ∧ A 13 y = n)
  · obtain ⟨i, hi, hPi, hmin⟩ := hex
    refine Or.inl ⟨i, hi, hPi.1, hPi.2, hmin, fun f1 => ?_, fun f2 => ?_⟩
    · rcases c5 f1 with ⟨j, hj, hPj, hminj, h⟩ | ⟨hno, -⟩
      · have : i = j := least_eq (P := fun y => A 12 y = m ∧ A 13 y = n) hPi hmin hPj hminj
        rw [d5, h, this]
      · exact absurd hPi (hno i hi)
    · rcases c6 f2 with ⟨j, hj, hPj, hminj, h⟩ | ⟨hno, -⟩
      · have : i = j := least_eq (P := fun y => A 12 y = m ∧ A 13 y = n) hPi hmin hPj hminj
        rw [d6, h, this]
      · exact absurd hPi (hno i hi)
  · have hno : ∀ y, y < A 0 2 → ¬ (A 12 y = m ∧ A 13 y = n) := by
      rcases c6 (fun _ => none) with ⟨j, hj, hPj, hminj, -⟩ | ⟨hno, -⟩
      · exact absurd ⟨j, hj, hPj, hminj⟩ hex
      · exact hno
    refine Or.inr ⟨hno, fun f1 => ?_, fun f2 => ?_⟩
    · rcases c5 f1 with ⟨j, hj, hPj, -, -⟩ | ⟨-, h⟩
      · exact absurd hPj (hno j hj)
      · rw [d5, h]
    · rcases c6 f2 with ⟨j, hj, hPj, -, -⟩ | ⟨-, h⟩
      · exact absurd hPj (hno j hj)
      · rw [d6, h]
/-- a message comes: from the letter on -/
theorem ev_come {b p M N cl fu i : Nat} {s : sT} (hfu : 2000 ≤ fu) (hp : b + 2 + 8 * N ≤ p) (h : sOk N cl s) (hi : i < s.1 0 2) (hf : ∀ y, y < i → ¬ (s.1 12 y = s.1 12 i ∧ s.1 13 y = s.1 13 i)) (hst : ¬ (s.1 14 i = 1 ∧ s.1 15 i / 24 ≠ s.1 13 i ∧ s.1 9 (120 * s.1 13 i + s.1 15 i) = 0 ∧ imp s.1 (s.1 13 i) = 30)) :
    ∃ s', (∀ f1, mX5_come_B67 fu b (nI (s.1 12 i)) (nI (s.1 13 i)) (p + 2 + s.2.2.2.2.1 i) (sC b p N s f1) = some (nI (s.1 14 i), sC b p N s' f1)) ∧ (∀ f2, mX6_comes fu (sR M s f2) M (nI i) = some (sR M s' f2)) ∧ sOk N cl s' ∧ s'.1 4 = s.1 4 ∧ Phi s'.1 < Phi s.1 := by
  obtain ⟨A, V, gn, gp, pi, od, q⟩ := s
  obtain ⟨hS, hW, wL⟩ := h
  dsimp only at *
  have hW0 := hW
  obtain ⟨⟨h11, hN1, hN5⟩, wR, wF, wT, wW, wE, wM, wTo, wI⟩ := hW
  obtain ⟨m1, m2, m3, ho, m5⟩ := wM.2 i hi
  have hms := wM.1
  have hbm := bndM hN5 wM wE wTo hi
  have hbt := bndT wTo (show A 15 i < 120 by omega)
  have hbw := bndW (n := A 13 i) wE wTo (by omega) (show A 15 i < 120 by omega)
  have hP := hS.2.1
  have hpi := hP.2.1 i (by omega)
  obtain ⟨l0, l1, l2, l3, l4, l5⟩ := hP.2.2.2 i hi
  have hSr := SIM_rm hS hms hi
  have c5 : ∀ f1, mX5_come_B67 fu b (nI (A 12 i)) (nI (A 13 i)) (p + 2 + pi i) (mkC b p N gn gp pi f1) = (if nI (A 14 i) = (1 : Int32) then ((mX2_takeRef (mkC b p N gn (up2 gp 0 0 (nI (A 0 2 - 1))) (upP (rmP pi i (A 0 2 - 1)) (A 0 2 - 1) (pi i)) f1) (b + 2 + 8 * A 13 i) (nI (A 15 i)) (nI (A 16 i)) (V 17 i)).bind fun f27 => some (nI (A 14 i), f27)) else (if nI (A 14 i) = (2 : Int32) then ((mX2_changeTotal (mkC b p N gn (up2 gp 0 0 (nI (A 0 2 - 1))) (upP (rmP pi i (A 0 2 - 1)) (A 0 2 - 1) (pi i)) f1) (b + 2 + 8 * A 13 i) (nI (A 15 i)) (-nI (A 16 i))).bind fun f23 => some (nI (A 14 i), f23)) else (if nI (A 14 i) = (3 : Int32) then ((mX2_changeTotal (mkC b p N gn (up2 gp 0 0 (nI (A 0 2 - 1))) (upP (rmP pi i (A 0 2 - 1)) (A 0 2 - 1) (pi i)) f1) (b + 2 + 8 * A 13 i) (nI (A 15 i)) (64 : Int32)).bind fun f16 => (rdR 5 f16 b 1).bind fun x17 => (chk 3 f16 x17).bind fun _ => (mX3_put f16 x17 (4 : Int32) (nI (A 13 i)) (nI (A 12 i)) (nI (A 15 i)) (64 : Int32) (-1 : Int32)).bind fun f19 => some (nI (A 14 i), f19)) else ((mX5_takeGrant (mkC b p N gn (up2 gp 0 0 (nI (A 0 2 - 1))) (upP (rmP pi i (A 0 2 - 1)) (A 0 2 - 1) (pi i)) f1) b (nI (A 13 i)) (nI (A 15 i)) (nI (A 16 i))).bind fun f12 => some (nI (A 14 i), f12))))) := by
    intro f1
    unfold mX5_come_B67
    simp only [cLg0 hpi, cLg3 hpi, cLg4 hpi, cLg5 hpi, l0, l3, l4, l5, Option.bind_some, cF1 hp, cPchk, eC_remove hfu hms hi hP.1 hP.2.1 hP.2.2.1, cF0 hp, cNod hp m2 (show N < 2 ^ 31 by omega), cchk2 hp m2, cchk5 hp]
  have c6 : ∀ f2, mX6_comes fu (mkR M (toR A V) f2) M (nI i) = (if nI (A 14 i) = (1 : Int32) then ((mX6_holds (mkR M (toR (rmA A i) (rmV A V i)) f2) M (nI (A 13 i)) (V 17 i) (2 : Int32) (nI (A 15 i))).bind fun f17 => if (nI (A 15 i) / (24 : Int32)) = nI (A 13 i) then ((rdR 6 f17 M 4).bind fun x22 => (ldI 0 f17 x22 (nI (A 15 i))).bind fun x23 => (stI 0 f17 x22 (nI (A 15 i)) (x23 - nI (A 16 i))).bind fun f24 => some f24) else ((rdR 6 f17 M 10).bind fun x19 => (ldI 0 f17 x19 (((120 : Int32) * nI (A 13 i)) + nI (A 15 i))).bind fun x20 => (stI 0 f17 x19 (((120 : Int32) * nI (A 13 i)) + nI (A 15 i)) (x20 + nI (A 16 i))).bind fun f21 => some f21)) else (if nI (A 14 i) = (2 : Int32) then ((ldI 0 (mkR M (toR (rmA A i) (rmV A V i)) f2) (M + 3) (nI (A 15 i))).bind fun x27 => (stI 0 (mkR M (toR (rmA A i) (rmV A V i)) f2) (M + 3) (nI (A 15 i)) (x27 - nI (A 16 i))).bind fun f28 => some f28) else (if nI (A 14 i) = (3 : Int32) then ((ldI 0 (mkR M (toR (rmA A i) (rmV A V i)) f2) (M + 3) (nI (A 15 i))).bind fun x31 => (stI 0 (mkR M (toR (rmA A i) (rmV A V i)) f2) (M + 3) (nI (A 15 i)) (x31 + (64 : Int32))).bind fun f32 => (chk 6 f32 M).bind fun _ => (mX6_sends f32 M (nI (A 13 i)) (nI (A 12 i)) (4 : Int32) (nI (A 15 i)) (64 : Int32) (-1 : Int32)).bind fun f34 => some f34) else ((ldI 0 (mkR M (toR (rmA A i) (rmV A V i)) f2) (M + 9) (((120 : Int32) * nI (A 13 i)) + nI (A 15 i))).bind fun x36 => if x36 ≤ 0 then ((mX6_sends (mkR M (toR (rmA A i) (rmV A V i)) f2) M (nI (A 13 i)) (nI (A 15 i) / (24 : Int32)) (2 : Int32) (nI (A 15 i)) (nI (A 16 i)) (-1 : Int32)).bind fun f39 => some f39) else ((ldI 0 (mkR M (toR (rmA A i) (rmV A V i)) f2) (M + 9) (((120 : Int32) * nI (A 13 i)) + nI (A 15 i))).bind fun x41 => (stI 0 (mkR M (toR (rmA A i) (rmV A V i)) f2) (M + 9) (((120 : Int32) * nI (A 13 i)) + nI (A 15 i)) (x41 + nI (A 16 i))).bind fun f42 => some f42))))) := by
    intro f2
    unfold mX6_comes
    simp (disch := omega) only [rR14, rR15, rR16, rR17, rR18, rR19, rl12, rl13, rl14, rl15, rl16, rl17, gl_nI, tR12, tR13, tR14, tR15, tR16, tR17, Option.bind_some, rchk, eR_takes hfu hms hi, rR4, rR10]
  have hSn := hS.1 (A 13 i) m2
  have h5 : A 15 i / 24 = A 13 i → gn (A 13 i) 5 (A 15 i % 24) = nI (A 3 (A 15 i)) := fun e => by
    have := (hSn.2.2.2.1 (A 15 i % 24) (by omega)).2.2
    rw [show 24 * A 13 i + A 15 i % 24 = A 15 i by omega] at this
    exact this
  have h6 := hSn.2.2.2.2.1 (A 15 i) (by omega)
  have h7 := hSn.2.2.2.2.2.2.2.1
  have r3 : rmA A i 3 (A 15 i) = A 3 (A 15 i) := rfl
  have r9 : rmA A i 9 (120 * A 13 i + A 15 i) = A 9 (120 * A 13 i + A 15 i) := rfl
  have hphi := Phi_rm hi
  rcases m5 with ⟨hk, hw, r, hr, hvr⟩ | ⟨hk, hw, hto, hv17⟩ | ⟨hk, hw, hto, hv17, -⟩ | ⟨hk, hw, hfr, hv17⟩
  · by_cases e : A 15 i / 24 = A 13 i
    · have ht := tot_there wT (show A 15 i < 120 by omega) (by omega)
      refine ⟨(upA (upA (rmA A i) 7 (6 * A 13 i + r) 2) 3 (A 15 i) (A 3 (A 15 i) - A 16 i), up2 (rmV A V i) 8 (6 * A 13 i + r) (nI (A 15 i)), up3 (up3 (up3 gn (A 13 i) 1 r 2) (A 13 i) 2 r (nI (A 15 i))) (A 13 i) 5 (A 15 i % 24) (nI (A 3 (A 15 i) - A 16 i)), up2 gp 0 0 (nI (A 0 2 - 1)), upP (rmP pi i (A 0 2 - 1)) (A 0 2 - 1) (pi i), od, q), fun f1 => ?_, fun f2 => ?_, ⟨?_, ?_, wL⟩, rfl, by show Phi (rmA A i) < Phi A; rw [hk] at hphi; simp only [pk_1, pk_2, pk_3, pk_4] at hphi; omega⟩
      · rw [c5, hk, if_pos (by decide), hvr]
        unfold mX2_takeRef
        simp (disch := omega) only [eC_nodeOf, Option.bind_some, cNi, e, if_true, cchk2, eC_fill]
        rw [eC_changeTotal (t := A 3 (A 15 i)) (t' := A 3 (A 15 i) - A 16 i) hp m2 (by omega) (by rw [up3_n _ _ (by omega), up3_n _ _ (by omega)]; exact h5 e) (nI_addneg hbm)]
        rfl
      · rw [c6, hk, if_pos (by decide), hvr, i2]
        simp (disch := omega) only [eR_holds, Option.bind_some, i24, nI_div, e, if_true, rR4, rl3, gl_nI, tR3]
        have e3 : upA (rmA A i) 7 (6 * A 13 i + r) 2 3 (A 15 i) = A 3 (A 15 i) := rfl
        simp (disch := omega) only [e3, nI_sub, rs3, gs_nI, uR3, Option.bind_some]
      · have := SIM_tot (o := A 15 i) (x := A 3 (A 15 i) - A 16 i) (SIM_reg (k := 2) (v := nI (A 15 i)) hSr m2 hr) (by omega)
        rw [e, ckdL (by omega) e] at this
        exact this
      · have := WF_reg (k := 2) (v := nI (A 15 i)) (WF_dec hW0 hi hf (by omega)) m2 hr (Or.inr (Or.inr ⟨rfl, A 15 i, ho, rfl, ht, Or.inl e⟩))
        rw [upA_comm (by decide)] at this
        exact this
    · refine ⟨(upA (upA (rmA A i) 7 (6 * A 13 i + r) 2) 9 (120 * A 13 i + A 15 i) (A 9 (120 * A 13 i + A 15 i) + A 16 i), up2 (rmV A V i) 8 (6 * A 13 i + r) (nI (A 15 i)), up3 (up3 (up3 (up3 gn (A 13 i) 1 r 3) (A 13 i) 2 r (nI (A 15 i))) (A 13 i) 6 (A 15 i) (nI (A 9 (120 * A 13 i + A 15 i) + A 16 i))) (A 13 i) 0 1 (nI (if A 9 (120 * A 13 i + A 15 i) = 0 then imp A (A 13 i) + 1 else imp A (A 13 i))), up2 gp 0 0 (nI (A 0 2 - 1)), upP (rmP pi i (A 0 2 - 1)) (A 0 2 - 1) (pi i), od, q), fun f1 => ?_, fun f2 => ?_, ⟨?_, ?_, wL⟩, rfl, by
        rw [hk] at hphi
        simp only [pk_1, pk_2, pk_3, pk_4] at hphi
        by_cases hz : A 9 (120 * A 13 i + A 15 i) = 0
        · have := Phi_9n (A := upA (rmA A i) 7 (6 * A 13 i + r) 2) (n := A 13 i) (o := A 15 i) (x := A 9 (120 * A 13 i + A 15 i) + A 16 i) (by omega) (by omega) hz (by omega)
          have e7 : Phi (upA (rmA A i) 7 (6 * A 13 i + r) 2) = Phi (rmA A i) := rfl
          dsimp only
          omega
        · have := Phi_9k (A := upA (rmA A i) 7 (6 * A 13 i + r) 2) (n := A 13 i) (o := A 15 i) (x := A 9 (120 * A 13 i + A 15 i) + A 16 i) (by omega) (by show _ ↔ 0 < A 9 (120 * A 13 i + A 15 i); omega)
          have e7 : Phi (upA (rmA A i) 7 (6 * A 13 i + r) 2) = Phi (rmA A i) := rfl
          dsimp only
          omega⟩
      · rw [c5, hk, if_pos (by decide), hvr]
        unfold mX2_takeRef
        simp (disch := omega) only [eC_nodeOf, Option.bind_some, cNi]
        rw [if_neg (fun q => e ((nI_eq (by omega) (by omega)).mp q))]
        simp (disch := omega) only [Option.bind_some, cchk2, eC_fill]
        rw [eC_incW (w0 := A 9 (120 * A 13 i + A 15 i)) (c := imp A (A 13 i)) hp m2 (by omega) (by rw [up3_n _ _ (by omega), up3_n _ _ (by omega)]; exact h6) (by rw [up3_n _ _ (by omega), up3_n _ _ (by omega)]; exact h7) hw (by omega)]
        rfl
      · rw [c6, hk, if_pos (by decide), hvr, i2]
        simp (disch := omega) only [eR_holds, Option.bind_some, i24, nI_div]
        rw [if_neg (fun q => e ((nI_eq (by omega) (by omega)).mp q))]
        have e9 : upA (rmA A i) 7 (6 * A 13 i + r) 2 9 (120 * A 13 i + A 15 i) = A 9 (120 * A 13 i + A 15 i) := rfl
        simp (disch := omega) only [rR10, rl9, i120, nI_mul, nI_add, gl_nI, tR9, e9, rs9, gs_nI, uR9, Option.bind_some]
      · have h1 := SIM_reg (k := 2) (v := nI (A 15 i)) hSr m2 hr
        rw [ckdF (by omega) e] at h1
        refine SIM_w h1 m2 (by omega) _ (fun m hm => ?_)
        have hir : imp (upA (rmA A i) 7 (6 * A 13 i + r) 2) = imp A := rfl
        have h9r : upA (rmA A i) 7 (6 * A 13 i + r) 2 9 (120 * A 13 i + A 15 i) = A 9 (120 * A 13 i + A 15 i) := rfl
        by_cases em : m = A 13 i
        · rw [if_pos em, em]
          by_cases hz : A 9 (120 * A 13 i + A 15 i) = 0
          · rw [if_pos hz, imp_new (by omega) (h9r.trans hz) (by omega), hir]
          · rw [if_neg hz, imp_keep (by omega) (by rw [h9r]; omega), hir]
        · rw [if_neg em, imp_other em (by omega), hir, up3_n _ _ (by omega), up3_n _ _ (by omega)]
          exact (hS.1 m hm).2.2.2.2.2.2.2.1
      · have hw1 := WF_inc hW0 hi hf (Or.inl hk) e (by
          by_cases hz : A 9 (120 * A 13 i + A 15 i) = 0
          · have := wI (A 13 i) m2
            exact Or.inr (by
              have : ¬ imp A (A 13 i) = 30 := fun q => hst ⟨hk, e, hz, q⟩
              omega)
          · exact Or.inl (by omega))
        have hb0 : 0 < A 3 (A 15 i) := by omega
        have := WF_reg (k := 2) (v := nI (A 15 i)) hw1 m2 hr (Or.inr (Or.inr ⟨rfl, A 15 i, ho, rfl, tot_there wT (by omega) hb0, Or.inr (by rw [upA_s]; omega)⟩))
        rw [upA_comm (by decide)] at this
        exact this
  · have e : A 15 i / 24 = A 13 i := hto.symm
    refine ⟨(upA (rmA A i) 3 (A 15 i) (A 3 (A 15 i) - A 16 i), rmV A V i, up3 gn (A 13 i) 5 (A 15 i % 24) (nI (A 3 (A 15 i) - A 16 i)), up2 gp 0 0 (nI (A 0 2 - 1)), upP (rmP pi i (A 0 2 - 1)) (A 0 2 - 1) (pi i), od, q), fun f1 => ?_, fun f2 => ?_, ⟨?_, ?_, wL⟩, rfl, by show Phi (rmA A i) < Phi A; rw [hk] at hphi; simp only [pk_1, pk_2, pk_3, pk_4] at hphi; omega⟩
    · rw [c5, hk, if_neg (by decide), if_pos (by decide), eC_changeTotal (t := A 3 (A 15 i)) (t' := A 3 (A 15 i) - A 16 i) hp m2 (by omega) (h5 e) (nI_addneg hbm)]
      rfl
    · rw [c6, hk, if_neg (by decide), if_pos (by decide)]
      simp (disch := omega) only [rl3, gl_nI, tR3, r3, nI_sub, rs3, gs_nI, uR3, Option.bind_some]
    · have := SIM_tot (o := A 15 i) (x := A 3 (A 15 i) - A 16 i) hSr (by omega)
      rw [e] at this
      exact this
    · exact WF_dec hW0 hi hf (by omega)
  · have e : A 15 i / 24 = A 13 i := hto.symm
    have hpi1 : upP (rmP pi i (A 0 2 - 1)) (A 0 2 - 1) (pi i) (A 0 2 - 1) < 60 := by
      rw [piR hi]; exact hP.2.1 _ (tau_lt hms hi (by omega))
    refine ⟨(apA (upA (rmA A i) 3 (A 15 i) (A 3 (A 15 i) + 64)) (A 13 i) (A 12 i) 4 (A 15 i) 64, up2 (rmV A V i) 17 (A 0 2 - 1) (-1), up3 gn (A 13 i) 5 (A 15 i % 24) (nI (A 3 (A 15 i) + 64)), gput (up2 gp 0 0 (nI (A 0 2 - 1))) (2 + upP (rmP pi i (A 0 2 - 1)) (A 0 2 - 1) (pi i) (A 0 2 - 1)) (nI 4) (nI (A 13 i)) (nI (A 12 i)) (nI (A 15 i)) (nI 64) (-1) (nI (A 0 2 - 1 + 1)), upP (rmP pi i (A 0 2 - 1)) (A 0 2 - 1) (pi i), od, q), fun f1 => ?_, fun f2 => ?_, ⟨?_, ?_, wL⟩, rfl, by
      rw [hk] at hphi
      simp only [pk_1, pk_2, pk_3, pk_4] at hphi
      have := Phi_ap (A := upA (rmA A i) 3 (A 15 i) (A 3 (A 15 i) + 64)) (fr := A 13 i) (to := A 12 i) (k := 4) (o := A 15 i) (w := 64)
      have e3 : Phi (upA (rmA A i) 3 (A 15 i) (A 3 (A 15 i) + 64)) = Phi (rmA A i) := rfl
      simp only [pk_1, pk_2, pk_3, pk_4] at this
      dsimp only
      omega⟩
    · rw [c5, hk, if_neg (by decide), if_neg (by decide), if_pos (by decide), eC_changeTotal (t := A 3 (A 15 i)) (t' := A 3 (A 15 i) + 64) hp m2 (by omega) (h5 e) (by rw [i64, nI_add])]
      simp only [Option.bind_some, cF1 hp, cPchk, eC_put (ms := A 0 2 - 1) (up2_s _ 0 0 _) (show A 0 2 - 1 < 60 by omega) hpi1, i64, i4]
    · rw [c6, hk, if_neg (by decide), if_neg (by decide), if_pos (by decide)]
      simp (disch := omega) only [rl3, gl_nI, tR3, r3, i64, nI_add, rs3, gs_nI, uR3, Option.bind_some, rchk, i4]
      have := eR_sends (A := upA (rmA A i) 3 (A 15 i) (A 3 (A 15 i) + 64)) (V := rmV A V i) (M := M) (f0 := f2) (fr := A 13 i) (to := A 12 i) (k := 4) (o := A 15 i) (w := 64) (r := -1) (show A 0 2 - 1 < 64 by omega)
      rw [this]
      rfl
    · have h1 := SIM_tot (o := A 15 i) (x := A 3 (A 15 i) + 64) hSr (by omega)
      rw [e] at h1
      exact SIM_put h1 (show A 0 2 - 1 < 60 by omega)
    · exact WF_asked hW0 hi hf hk
  · have hne : A 15 i / 24 ≠ A 13 i := by omega
    by_cases hz : A 9 (120 * A 13 i + A 15 i) = 0
    · have hpi1 : upP (rmP pi i (A 0 2 - 1)) (A 0 2 - 1) (pi i) (A 0 2 - 1) < 60 := by
        rw [piR hi]; exact hP.2.1 _ (tau_lt hms hi (by omega))
      refine ⟨(apA (rmA A i) (A 13 i) (A 15 i / 24) 2 (A 15 i) (A 16 i), up2 (rmV A V i) 17 (A 0 2 - 1) (-1), gn, gput (up2 gp 0 0 (nI (A 0 2 - 1))) (2 + upP (rmP pi i (A 0 2 - 1)) (A 0 2 - 1) (pi i) (A 0 2 - 1)) (nI 2) (nI (A 13 i)) (nI (A 15 i / 24)) (nI (A 15 i)) (nI (A 16 i)) (-1) (nI (A 0 2 - 1 + 1)), upP (rmP pi i (A 0 2 - 1)) (A 0 2 - 1) (pi i), od, q), fun f1 => ?_, fun f2 => ?_, ⟨?_, ?_, wL⟩, rfl, by
        rw [hk] at hphi
        simp only [pk_1, pk_2, pk_3, pk_4] at hphi
        have := Phi_ap (A := rmA A i) (fr := A 13 i) (to := A 15 i / 24) (k := 2) (o := A 15 i) (w := A 16 i)
        simp only [pk_1, pk_2, pk_3, pk_4] at this
        dsimp only
        omega⟩
      · rw [c5, hk, if_neg (by decide), if_neg (by decide), if_neg (by decide)]
        unfold mX5_takeGrant
        simp (disch := omega) only [cF0, cNod, cchk2, eC_wOI, Option.bind_some, h6, hz]
        rw [if_pos (by decide)]
        simp (disch := omega) only [cF1, eC_nodeOf, Option.bind_some, cPchk, eC_put (ms := A 0 2 - 1) (up2_s _ 0 0 _) (show A 0 2 - 1 < 60 by omega) hpi1]
        rfl
      · rw [c6, hk, if_neg (by decide), if_neg (by decide), if_neg (by decide)]
        simp (disch := omega) only [rl9, i120, nI_mul, nI_add, gl_nI, tR9, r9, hz, Option.bind_some, i24, nI_div, i2]
        rw [if_pos (by decide)]
        have := eR_sends (A := rmA A i) (V := rmV A V i) (M := M) (f0 := f2) (fr := A 13 i) (to := A 15 i / 24) (k := 2) (o := A 15 i) (w := A 16 i) (r := -1) (show A 0 2 - 1 < 64 by omega)
        rw [this]
        rfl
      · exact SIM_put hSr (show A 0 2 - 1 < 60 by omega)
      · exact WF_back hW0 hi hf hk
    · refine ⟨(upA (rmA A i) 9 (120 * A 13 i + A 15 i) (A 9 (120 * A 13 i + A 15 i) + A 16 i), rmV A V i, up3 (up3 gn (A 13 i) 6 (A 15 i) (nI (A 9 (120 * A 13 i + A 15 i) + A 16 i))) (A 13 i) 0 1 (nI (if A 9 (120 * A 13 i + A 15 i) = 0 then imp A (A 13 i) + 1 else imp A (A 13 i))), up2 gp 0 0 (nI (A 0 2 - 1)), upP (rmP pi i (A 0 2 - 1)) (A 0 2 - 1) (pi i), od, q), fun f1 => ?_, fun f2 => ?_, ⟨?_, ?_, wL⟩, rfl, by
        rw [hk] at hphi
        simp only [pk_1, pk_2, pk_3, pk_4] at hphi
        have := Phi_9k (A := rmA A i) (n := A 13 i) (o := A 15 i) (x := A 9 (120 * A 13 i + A 15 i) + A 16 i) (by omega) (by show _ ↔ 0 < A 9 (120 * A 13 i + A 15 i); omega)
        dsimp only
        omega⟩
      · rw [c5, hk, if_neg (by decide), if_neg (by decide), if_neg (by decide)]
        unfold mX5_takeGrant
        simp (disch := omega) only [cF0, cNod, cchk2, eC_wOI, Option.bind_some, h6]
        rw [if_neg (nI_nle (by omega) (by omega))]
        rw [eC_incW (w0 := A 9 (120 * A 13 i + A 15 i)) (c := imp A (A 13 i)) hp m2 (by omega) h6 h7 hw (by omega)]
        rfl
      · rw [c6, hk, if_neg (by decide), if_neg (by decide), if_neg (by decide)]
        simp (disch := omega) only [rl9, i120, nI_mul, nI_add, gl_nI, tR9, r9, Option.bind_some]
        rw [if_neg (nI_nle (by omega) (by omega))]
        simp (disch := omega) only [rs9, gs_nI, uR9, Option.bind_some]
      · refine SIM_w hSr m2 (by omega) _ (fun m hm => ?_)
        have hir : imp (rmA A i) = imp A := rfl
        by_cases em : m = A 13 i
        · rw [if_pos em, em, if_neg hz, imp_keep (by omega) (by rw [r9]; omega), hir]
        · rw [if_neg em, imp_other em (by omega), hir]
          exact (hS.1 m hm).2.2.2.2.2.2.2.1
      · exact WF_inc hW0 hi hf (Or.inr hk) hne (Or.inl (by omega))
