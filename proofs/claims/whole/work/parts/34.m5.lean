/-! send, ask -/
theorem nI_addneg {w h : Nat} (hh : h ≤ w) : nI w + -nI h = nI (w - h) := by
  rw [← nI_sub hh, Int32.sub_eq_add_neg]
theorem nI_z {w : Nat} (hw : w < 2 ^ 31) : (nI w = 0) = (w = 0) := by
  rw [i0]; exact nI_eqq hw (by decide)
theorem bndT {A : tA} {cl o : Nat} (h : wTot A cl) (ho : o < 120) : A 3 o ≤ 32768 := by
  have h1 := sm_le (f := A 3) ho
  have := h.1
  have := h.2
  omega
theorem bndW {A : tA} {cl n o : Nat} (hE : wEve A) (h : wTot A cl) (hn : n < 5) (ho : o < 120) : A 9 (120 * n + o) ≤ A 3 o := by
  have h1 := sm_le (f := fun m => A 9 (120 * m + o)) hn
  have h2 := hE o ho
  omega
theorem bndM {A : tA} {V : tV} {N cl i : Nat} (hN : N ≤ 5) (hM : wMsg A V N) (hE : wEve A) (h : wTot A cl) (hi : i < A 0 2) : A 16 i ≤ A 3 (A 15 i) := by
  have ho := (hM.2 i hi).2.2.2.1
  have h1 := sm_le (f := msW A (A 15 i)) hi
  have h2 := hE (A 15 i) (by omega)
  simp only [msW, if_true] at h1
  omega
theorem eC_splitL {b p N n o t : Nat} {gn : tN} {gp : tV} {pi : Nat → Nat} {f0 : jM} (hp : b + 2 + 8 * N ≤ p) (hn : n < N) (hN : N ≤ 5) (ho : o < 120) (hon : o / 24 = n) (h : gn n 5 (o % 24) = nI t) : mX2_splitOff (mkC b p N gn gp pi f0) (b + 2 + 8 * n) (nI o) = some (64, mkC b p N (up3 gn n 5 (o % 24) (nI (t + 64))) gp pi f0) := by
  unfold mX2_splitOff
  simp (disch := omega) only [eC_nodeOf, Option.bind_some, cNi]
  rw [if_pos (by rw [hon])]
  simp only [cchk2 hp hn, Option.bind_some, eC_changeTotal (t' := t + 64) (y := 64) hp hn ho h (by rw [i64, nI_add])]
theorem eC_splitF {b p N n o w : Nat} {gn : tN} {gp : tV} {pi : Nat → Nat} {f0 : jM} (hp : b + 2 + 8 * N ≤ p) (hn : n < N) (hN : N ≤ 5) (ho : o < 120) (hon : o / 24 ≠ n) (h : gn n 6 o = nI w) (hw : w < 2 ^ 31) : mX2_splitOff (mkC b p N gn gp pi f0) (b + 2 + 8 * n) (nI o) = some (nI (w / 2), if w / 2 = 0 then mkC b p N gn gp pi f0 else mkC b p N (up3 gn n 6 o (nI (w - w / 2))) gp pi f0) := by
  unfold mX2_splitOff
  simp (disch := omega) only [eC_nodeOf, Option.bind_some, cNi]
  rw [if_neg (fun q => hon ((nI_eq (by omega) (by omega)).mp q))]
  simp (disch := omega) only [cchk2, eC_wOI, Option.bind_some, h, i2, nI_div]
  by_cases hz : w / 2 = 0
  · rw [hz, if_pos (by decide), if_pos rfl]
  · rw [if_neg (nI_nle (by omega) (by omega)), if_neg hz]
    unfold mX2_changeWeight mX2_changeWeight_B45
    simp only [eC_isId ho, Option.bind_some]
    rw [if_neg (by decide)]
    simp (disch := omega) only [cNr6, cNl6, cNs6, gl_nI, gs_nI, Option.bind_some, h, nI_addneg]
    rw [if_neg (nI_ne0 (by omega) (by omega)), if_neg (nI_ne0 (by omega) (by omega)), if_neg (nI_ne0 (by omega) (by omega))]
    rfl
theorem SIM_w {A : tA} {V : tV} {N n o x : Nat} {gn : tN} {gp : tV} {pi : Nat → Nat} {od : Nat → Nat → Nat} {q : Nat → Nat} (h : SIM A V N gn gp pi od q) (hn : n < N) (ho : o < 120) (y : Int32) (hy : ∀ m, m < N → (if m = n then y else gn m 0 1) = nI (imp (upA A 9 (120 * n + o) x) m)) : SIM (upA A 9 (120 * n + o) x) V N (up3 (up3 gn n 6 o (nI x)) n 0 1 y) gp pi od q := by
  obtain ⟨hN, hP, hM⟩ := h
  refine ⟨fun m hm => ?_, hP, hM⟩
  obtain ⟨h1, h2, h3, h4, h5, h6, h7⟩ := hN m hm
  refine ⟨fun c hc => ?_, fun k' f hk hf ht' => ?_, fun k' f hk hf ht' => ?_, fun k' hk => ?_, fun o' ho' => ?_, fun i hi => ?_, ?_⟩
  · rw [up3_n _ _ (by omega), up3_n _ _ (by omega), up3_n _ _ (by omega), up3_n _ _ (by omega)]; exact h1 c hc
  · rw [up3_n _ _ (by omega), up3_n _ _ (by omega), up3_n _ _ (by omega), up3_n _ _ (by omega)]; exact h2 k' f hk hf ht'
  · rw [up3_n _ _ (by omega), up3_n _ _ (by omega), up3_n _ _ (by omega), up3_n _ _ (by omega)]; exact h3 k' f hk hf ht'
  · rw [up3_n _ _ (by omega), up3_n _ _ (by omega), up3_n _ _ (by omega), up3_n _ _ (by omega), up3_n _ _ (by omega), up3_n _ _ (by omega)]; exact h4 k' hk
  · rw [up3_n _ _ (by omega)]
    by_cases e : m = n ∧ o' = o
    · rw [e.1, e.2, up3_s, upA_s]
    · rw [up3_n _ _ (by omega), upA_n _ _ (by omega)]
      exact h5 o' ho'
  · rw [up3_n _ _ (by omega), up3_n _ _ (by omega)]; exact h6 i hi
  · have := hy m hm
    refine ⟨?_, ?_, ?_, ?_⟩
    · rw [up3_n _ _ (by omega), up3_n _ _ (by omega)]; exact h7.1
    · by_cases e : m = n
      · rw [if_pos e] at this
        rw [← this, e, up3_s]
      · rw [if_neg e] at this
        rw [up3_n _ _ (by omega), up3_n _ _ (by omega), this]
    · rw [up3_n _ _ (by omega), up3_n _ _ (by omega)]; exact h7.2.2.1
    · rw [up3_n _ _ (by omega), up3_n _ _ (by omega)]; exact h7.2.2.2
theorem up3_id {g : tN} {n j i : Nat} {x : Int32} (h : g n j i = x) : up3 g n j i x = g := by
  funext a c d
  by_cases e : a = n ∧ c = j ∧ d = i
  · obtain ⟨rfl, rfl, rfl⟩ := e
    rw [up3_s, h]
  · rw [up3_n _ _ (by omega)]
theorem imp_keep {A : tA} {n o x m : Nat} (ho : o < 120) (h : 0 < x ↔ 0 < A 9 (120 * n + o)) : imp (upA A 9 (120 * n + o) x) m = imp A m := by
  refine cnt_ext (fun i hi => ?_)
  by_cases e : 120 * m + i = 120 * n + o
  · rw [e, upA_s]
    simp [h]
  · rw [upA_n _ _ (Or.inr e)]
theorem okm_mono {A A' : tA} {V : tV} {N i : Nat} (h : okm A V N i) (h0 : A' 0 2 = A 0 2) (hr : ∀ j, 12 ≤ j → j ≤ 16 → A' j = A j) (h9 : ∀ m o, 0 < A 9 (120 * m + o) → 0 < A' 9 (120 * m + o)) : okm A' V N i := by
  unfold okm
  rw [h0, hr 12 (by decide) (by decide), hr 13 (by decide) (by decide), hr 14 (by decide) (by decide), hr 15 (by decide) (by decide), hr 16 (by decide) (by decide)]
  obtain ⟨n1, n2, n3, n4, n5⟩ := h
  refine ⟨n1, n2, n3, n4, ?_⟩
  rcases n5 with n5 | n5 | ⟨q1, q2, q3, q4, q5⟩ | n5
  · exact Or.inl n5
  · exact Or.inr (Or.inl n5)
  · exact Or.inr (Or.inr (Or.inl ⟨q1, q2, q3, q4, q5.imp (h9 _ _) id⟩))
  · exact Or.inr (Or.inr (Or.inr n5))
theorem WF_sendL {A : tA} {V : tV} {N cl n m o a : Nat} (h : WF A V N cl) (hc : cl < 512) (hms : A 0 2 < 60) (hn : n < N) (hm : m < N) (hnm : n ≠ m) (ho : o < 24 * N) (hon : o / 24 = n) (ht : A 4 o = 1) (ha : a < 6) : WF (apA (upA A 3 o (A 3 o + 64)) n m 1 o 64) (up2 V 17 (A 0 2) (nI a)) N (cl + 1) := by
  obtain ⟨h1, wR, wF, wT, wW, wE, wM, wTo, wI⟩ := h
  refine ⟨h1, wR, wF, ?_, wW, ?_, ?_, ?_, wI⟩
  · intro o' ho'
    show (A 4 o' = 1 ∧ o' < 24 * N) ∨ (A 4 o' = 0 ∧ upA A 3 o (A 3 o + 64) 3 o' = 0)
    by_cases e : o' = o
    · subst e; exact Or.inl ⟨ht, ho⟩
    · rw [upA_n _ _ (Or.inr e)]; exact wT o' ho'
  · intro o' ho'
    rw [ap0]
    show upA A 3 o (A 3 o + 64) 3 o' = sm (fun m => A 9 (120 * m + o')) 5 + _
    have := ap_sum (A := upA A 3 o (A 3 o + 64)) (fr := n) (to := m) (k := 1) (o := o) (w := 64) o'
    rw [this]
    show upA A 3 o (A 3 o + 64) 3 o' = sm (fun m => A 9 (120 * m + o')) 5 + (sm (msW A o') (A 0 2) + _)
    have hE := wE o' ho'
    by_cases e : o = o'
    · subst e
      rw [upA_s, if_pos rfl]; omega
    · rw [upA_n _ _ (Or.inr (fun q => e q.symm)), if_neg e]; omega
  · exact wMsg_ap (A := upA A 3 o (A 3 o + 64)) wM hms ⟨hn, hm, hnm, ho, Or.inl ⟨rfl, by decide, a, ha, rfl⟩⟩
  · refine ⟨?_, by omega⟩
    rw [ap0]
    have e1 := ap_cnt (A := upA A 3 o (A 3 o + 64)) (fr := n) (to := m) (k := 1) (o := o) (w := 64)
    rw [e1]
    have e2 := sm_set (f := A 3) (g := upA A 3 o (A 3 o + 64) 3) (k := o) (n := 120) (by omega) (fun i hi => upA_n _ _ (Or.inr hi))
    rw [upA_s] at e2
    have e3 : sm (apA (upA A 3 o (A 3 o + 64)) n m 1 o 64 3) 120 = sm (upA A 3 o (A 3 o + 64) 3) 120 := rfl
    rw [e3, if_neg (by decide)]
    have := wTo.1
    show sm (upA A 3 o (A 3 o + 64) 3) 120 + 64 * (cnt (fun i => A 14 i == 3) (A 0 2) + 0) ≤ _
    omega
theorem WF_sendF {A : tA} {V : tV} {N cl n m o a : Nat} (h : WF A V N cl) (hc : cl < 512) (hms : A 0 2 < 60) (hn : n < N) (hm : m < N) (hnm : n ≠ m) (ho : o < 24 * N) (hon : o / 24 ≠ n) (hw : 2 ≤ A 9 (120 * n + o)) (ha : a < 6) : WF (apA (upA A 9 (120 * n + o) (A 9 (120 * n + o) - A 9 (120 * n + o) / 2)) n m 1 o (A 9 (120 * n + o) / 2)) (up2 V 17 (A 0 2) (nI a)) N (cl + 1) := by
  obtain ⟨h1, wR, wF, wT, wW, wE, wM, wTo, wI⟩ := h
  obtain ⟨h11, hN1, hN5⟩ := h1
  have h9 : ∀ i, 0 < A 9 i → 0 < upA A 9 (120 * n + o) (A 9 (120 * n + o) - A 9 (120 * n + o) / 2) 9 i := by
    intro i hi
    by_cases e : i = 120 * n + o
    · rw [e, upA_s]; omega
    · rw [upA_n _ _ (Or.inr e)]; exact hi
  have h9' : ∀ i, 0 < upA A 9 (120 * n + o) (A 9 (120 * n + o) - A 9 (120 * n + o) / 2) 9 i → 0 < A 9 i := by
    intro i hi
    by_cases e : i = 120 * n + o
    · rw [e]; omega
    · rw [upA_n _ _ (Or.inr e)] at hi; exact hi
  refine ⟨⟨h11, hN1, hN5⟩, fun x c hx hc => okv_mono (wR x c hx hc) (fun _ h => h) (fun o _ h => h9 _ h), fun o' ho' ht' => ?_, wT, fun x o' hx ho' hp => wW x o' hx ho' (h9' _ hp), ?_, ?_, ?_, fun x hx => ?_⟩
  · obtain ⟨q1, q2, q3⟩ := wF o' ho' ht'
    exact ⟨q1, fun f hf => okv_mono (q2 f hf) (fun _ h => h) (fun o _ h => h9 _ h), q3⟩
  · intro o' ho'
    rw [ap0]
    have e1 := ap_sum (A := upA A 9 (120 * n + o) (A 9 (120 * n + o) - A 9 (120 * n + o) / 2)) (fr := n) (to := m) (k := 1) (o := o) (w := A 9 (120 * n + o) / 2) o'
    rw [e1]
    show A 3 o' = sm (fun x => upA A 9 (120 * n + o) (A 9 (120 * n + o) - A 9 (120 * n + o) / 2) 9 (120 * x + o')) 5 + (sm (msW A o') (A 0 2) + _)
    have hE := wE o' ho'
    by_cases e : o = o'
    · subst e
      have e2 := sm_set (f := fun x => A 9 (120 * x + o)) (g := fun x => upA A 9 (120 * n + o) (A 9 (120 * n + o) - A 9 (120 * n + o) / 2) 9 (120 * x + o)) (k := n) (n := 5) (by omega) (fun i hi => upA_n _ _ (Or.inr (by omega)))
      rw [upA_s] at e2
      rw [if_pos rfl]
      omega
    · have e2 : sm (fun x => upA A 9 (120 * n + o) (A 9 (120 * n + o) - A 9 (120 * n + o) / 2) 9 (120 * x + o')) 5 = sm (fun x => A 9 (120 * x + o')) 5 := sm_ext (fun i hi => upA_n _ _ (Or.inr (by omega)))
      rw [e2, if_neg e]; omega
  · refine wMsg_ap (A := upA A 9 (120 * n + o) (A 9 (120 * n + o) - A 9 (120 * n + o) / 2)) ⟨wM.1, fun i hi => okm_mono (wM.2 i hi) rfl ?_ (fun _ _ h => h9 _ h)⟩ hms ⟨hn, hm, hnm, ho, Or.inl ⟨rfl, by omega, a, ha, rfl⟩⟩
    intro j h1 h2
    funext i
    exact upA_n _ _ (Or.inl (by omega))
  · refine ⟨?_, by omega⟩
    rw [ap0]
    have e1 := ap_cnt (A := upA A 9 (120 * n + o) (A 9 (120 * n + o) - A 9 (120 * n + o) / 2)) (fr := n) (to := m) (k := 1) (o := o) (w := A 9 (120 * n + o) / 2)
    rw [e1, if_neg (by decide)]
    have := wTo.1
    show sm (A 3) 120 + 64 * (cnt (fun i => A 14 i == 3) (A 0 2) + 0) ≤ _
    omega
  · show imp (upA A 9 (120 * n + o) _) x ≤ 30
    rw [imp_keep (by omega) (by omega)]
    exact wI x hx
theorem WF_ask {A : tA} {V : tV} {N cl n o : Nat} (h : WF A V N cl) (hc : cl < 512) (hms : A 0 2 < 60) (hn : n < N) (ho : o < 24 * N) (hon : o / 24 ≠ n) (hw : 0 < A 9 (120 * n + o)) : WF (apA A n (o / 24) 3 o 0) (up2 V 17 (A 0 2) (-1)) N (cl + 1) := by
  obtain ⟨h1, wR, wF, wT, wW, wE, wM, wTo, wI⟩ := h
  refine ⟨h1, wR, wF, wT, wW, ?_, ?_, ?_, wI⟩
  · intro o' ho'
    rw [ap0, ap_sum]
    show A 3 o' = sm (fun m => A 9 (120 * m + o')) 5 + _
    have hE := wE o' ho'
    have : (if o = o' then 0 else 0) = 0 := by split <;> rfl
    omega
  · exact wMsg_ap wM hms ⟨hn, by omega, fun q => hon q.symm, ho, Or.inr (Or.inr (Or.inl ⟨rfl, rfl, rfl, rfl, hw⟩))⟩
  · refine ⟨?_, by omega⟩
    rw [ap0, ap_cnt, if_pos rfl]
    have := wTo.1
    show sm (A 3) 120 + _ ≤ _
    omega
theorem eC_isFull {b p N ms : Nat} {gn : tN} {gp : tV} {pi : Nat → Nat} {f0 : jM} (h : gp 0 0 = nI ms) (hms : ms ≤ 60) : mX3_isFull (mkC b p N gn gp pi f0) p = some (if ms = 60 then 1 else 0, mkC b p N gn gp pi f0) := by
  unfold mX3_isFull
  simp only [cP1, Option.bind_some, h, i60]
  by_cases e : ms = 60
  · rw [if_neg (nI_nlt (by omega) (by omega)), if_pos e]
  · rw [if_pos (nI_lt (by omega) (by omega)), if_neg e]
theorem o_send {b p M N cl : Nat} {f0 f : jM} (hl : Lay b p M N) (hI : Inv b p M N cl f0 f) (hc : cl < 512) (x y u z : Int32) : ∃ r f1 f2, mX5_send f b x y u z = some (r, f1) ∧ mX6_send f1 M x y u z = some (r, f2) ∧ Inv b p M N (cl + 1) f0 f2 := by
  have hI0 := hI.more hc
  obtain ⟨A, V, gn, gp, pi, od, q, rfl, hS, hW, wL⟩ := hI
  obtain ⟨hA, hN1, hN5⟩ := hW.1
  have hp := hl.1
  have same : ∀ r : Int32, mX5_send (mkC b p N gn gp pi (mkR M (toR A V) f0)) b x y u z = some (r, (mkC b p N gn gp pi (mkR M (toR A V) f0))) → mX6_send (mkR M (toR A V) (mkC b p N gn gp pi f0)) M x y u z = some (r, (mkR M (toR A V) (mkC b p N gn gp pi f0))) → ∃ r f1 f2, mX5_send (mkC b p N gn gp pi (mkR M (toR A V) f0)) b x y u z = some (r, f1) ∧ mX6_send f1 M x y u z = some (r, f2) ∧ Inv b p M N (cl + 1) f0 f2 := fun r h h' => ⟨r, (mkC b p N gn gp pi (mkR M (toR A V) f0)), (mkC b p N gn gp pi (mkR M (toR A V) f0)), h, by rw [swapCR hl]; exact h', hI0⟩
  rcases idx x (n := N) (by omega) with ⟨n, hn, rfl⟩ | hx
  · rcases idx y (n := 6) (by omega) with ⟨a, ha, rfl⟩ | hy
    · rcases idx u (n := N) (by omega) with ⟨m, hm, rfl⟩ | hu
      · rcases idx z (n := 6) (by omega) with ⟨c, hc6, rfl⟩ | hz
        · by_cases hnm : m = n
          · subst hnm
            refine same (-1) ?_ ?_
            · unfold mX5_send
              simp only [cchk5 hp, Option.bind_some, eC_isNode hp hN5 hn, eC_isRegister ha, eC_isRegister hc6, if_true]
              rw [if_neg (by decide), if_neg (by decide), if_neg (by decide), if_neg (by decide)]
            · unfold mX6_send
              simp only [rchk, Option.bind_some, eR_isReg hA hN5 hn ha, eR_isReg hA hN5 hn hc6, if_true]
              rw [if_neg (by decide), if_neg (by decide)]
          · have hmn : ¬ nI m = nI n := fun q => hnm ((nI_eq (by omega) (by omega)).mp q)
            have hSn := hS.1 n hn
            have hv := hW.2.1 n a hn ha
            have hs := hSn.1 a ha
            have hms := hW.2.2.2.2.2.2.1.1
            have hP := hS.2.1
            have c5 : mX5_send (mkC b p N gn gp pi (mkR M (toR A V) f0)) b (nI n) (nI a) (nI m) (nI c) = (if (if gn n 1 a = 2 ∨ gn n 1 a = 3 then (1 : Int32) else 0) = 0 then some ((-1 : Int32), (mkC b p N gn gp pi (mkR M (toR A V) f0))) else if (if A 0 2 = 60 then (1 : Int32) else 0) = 0 then ((mX2_splitOff (mkC b p N gn gp pi (mkR M (toR A V) f0)) (b + 2 + 8 * n) (gn n 2 a)).bind fun r24 => if r24.1 = 0 then some ((-2 : Int32), r24.2) else (rdR 5 r24.2 b 1).bind fun x26 => (chk 3 r24.2 x26).bind fun _ => (mX3_put r24.2 x26 (1 : Int32) (nI n) (nI m) (gn n 2 a) r24.1 (nI c)).bind fun f28 => some (r24.1, f28)) else some ((-1 : Int32), (mkC b p N gn gp pi (mkR M (toR A V) f0)))) := by
              unfold mX5_send
              simp only [cchk5 hp, Option.bind_some, eC_isNode hp hN5 hn, eC_isRegister ha]
              rw [if_neg (by decide), if_neg (by decide)]
              simp only [eC_isNode hp hN5 hm, Option.bind_some, eC_isRegister hc6]
              rw [if_neg (by decide), if_neg (by decide), if_neg hmn]
              simp only [cF0 hp, cNod hp hn (show N < 2 ^ 31 by omega), cchk2 hp hn, eC_holdsObject hp hn (show a < 294 by omega), Option.bind_some, cF1 hp, cPchk, eC_isFull hP.1 hms, cNr2 hp hn, cNl2 hp hn, gl_nI (show a < 294 by omega) (show 294 < 2 ^ 31 by decide)]
            have c6 : ∀ g0, mX6_send (mkR M (toR A V) g0) M (nI n) (nI a) (nI m) (nI c) = (if nI (A 7 (6 * n + a)) = (2 : Int32) then (if nI (A 0 2) = (60 : Int32) then some ((-1 : Int32), mkR M (toR A V) g0) else (if (V 8 (6 * n + a) / (24 : Int32)) = nI n then ((gl 120 (toR A V 3) (V 8 (6 * n + a))).bind fun x27 => (stI 0 (mkR M (toR A V) g0) (M + 3) (V 8 (6 * n + a)) (x27 + (64 : Int32))).bind fun f28 => mX6_send_B137 M (nI n) (nI m) (nI c) (V 8 (6 * n + a)) (64 : Int32) f28) else ((gl 600 (toR A V 9) (((120 : Int32) * nI n) + V 8 (6 * n + a))).bind fun x19 => if x19 = (1 : Int32) then some ((-2 : Int32), mkR M (toR A V) g0) else ((gl 600 (toR A V 9) (((120 : Int32) * nI n) + V 8 (6 * n + a))).bind fun x22 => (gl 600 (toR A V 9) (((120 : Int32) * nI n) + V 8 (6 * n + a))).bind fun x24 => (stI 0 (mkR M (toR A V) g0) (M + 9) (((120 : Int32) * nI n) + V 8 (6 * n + a)) (x24 - (x22 / (2 : Int32)))).bind fun f25 => mX6_send_B137 M (nI n) (nI m) (nI c) (V 8 (6 * n + a)) (x22 / (2 : Int32)) f25)))) else some ((-1 : Int32), mkR M (toR A V) g0)) := by
              intro g0
              unfold mX6_send
              simp only [rchk, Option.bind_some, eR_isReg hA hN5 hn ha, eR_isReg hA hN5 hm hc6]
              rw [if_neg (by decide), if_neg (by decide), if_neg hmn]
              simp (disch := omega) only [rR8, rR9, rR4, rR10, rI13, rl7, rl8, rl3, rl9, i6, nI_mul, nI_add, gl_nI, tR7, tR8, tR0, Option.bind_some]
            have B137 : ∀ (A' : tA) (V' : tV) g0 o w, A' 0 2 < 60 → mX6_send_B137 M (nI n) (nI m) (nI c) (nI o) (nI w) (mkR M (toR A' V') g0) = some (nI w, mkR M (toR (apA A' n m 1 o w) (up2 V' 17 (A' 0 2) (nI c))) g0) := by
              intro A' V' g0 o w h
              unfold mX6_send_B137
              simp only [rchk, Option.bind_some, i1, eR_sends (show A' 0 2 < 64 by omega)]
            by_cases h2 : A 7 (6 * n + a) = 2
            · have hk := (ckd_obj hv hN5).mpr h2
              rw [← hs.1] at hk
              by_cases h60 : A 0 2 = 60
              · refine same (-1) ?_ ?_
                · rw [c5, if_pos hk, if_neg (by decide), if_pos h60, if_neg (by decide)]
                · rw [c6, h2, if_pos (by decide), h60, if_pos (by decide)]
              · rw [h2] at hv
                obtain ⟨o, ho, hvo, hto, hor⟩ := okv_obj hv
                have hpi := hP.2.1 (A 0 2) (by omega)
                by_cases hon : o / 24 = n
                · have h5 := (hSn.2.2.2.1 (o % 24) (by omega)).2.2
                  rw [show 24 * n + o % 24 = o by omega] at h5
                  refine ⟨64, mkC b p N (up3 gn n 5 (o % 24) (nI (A 3 o + 64))) (gput gp (2 + pi (A 0 2)) 1 (nI n) (nI m) (nI o) 64 (nI c) (nI (A 0 2 + 1))) pi (mkR M (toR A V) f0), mkC b p N (up3 gn n 5 (o % 24) (nI (A 3 o + 64))) (gput gp (2 + pi (A 0 2)) 1 (nI n) (nI m) (nI o) 64 (nI c) (nI (A 0 2 + 1))) pi (mkR M (toR (apA (upA A 3 o (A 3 o + 64)) n m 1 o 64) (up2 V 17 (A 0 2) (nI c))) f0), ?_, ?_, ?_⟩
                  · rw [c5, if_pos hk, if_neg (by decide), if_neg h60, if_pos rfl, hs.2, hvo]
                    simp only [eC_splitL hp hn hN5 (show o < 120 by omega) hon h5, Option.bind_some]
                    rw [if_neg (by decide)]
                    simp only [cF1 hp, cPchk, Option.bind_some, eC_put hP.1 (show A 0 2 < 60 by omega) hpi]
                  · rw [swapCR hl, swapCR hl, c6, h2, if_pos (by decide), if_neg (by rw [i60]; exact fun q => h60 ((nI_eq (by omega) (by omega)).mp q)), hvo]
                    have hb := bndT hW.2.2.2.2.2.2.2.1 (show o < 120 by omega)
                    simp (disch := omega) only [i24, nI_div]
                    rw [if_pos (by rw [hon])]
                    simp (disch := omega) only [gl_nI, tR3, Option.bind_some, rs3, gs_nI, i64, nI_add, uR3]
                    have := B137 (upA A 3 o (A 3 o + 64)) V (mkC b p N (up3 gn n 5 (o % 24) (nI (A 3 o + 64))) (gput gp (2 + pi (A 0 2)) 1 (nI n) (nI m) (nI o) (nI 64) (nI c) (nI (A 0 2 + 1))) pi f0) o 64 (show A 0 2 < 60 by omega)
                    exact this
                  · have h1 := SIM_put (fr := n) (to := m) (k := 1) (o := o) (w := 64) (rg := nI c) (SIM_tot (x := A 3 o + 64) hS (show o < 120 by omega)) (show A 0 2 < 60 by omega)
                    rw [hon] at h1
                    exact ⟨_, _, _, _, pi, od, q, rfl, h1, WF_sendL hW hc (by omega) hn hm (fun q => hnm q.symm) ho hon hto hc6, wL⟩
                · have hw0 := hor.resolve_left hon
                  have h6 := hSn.2.2.2.2.1 o (by omega)
                  have hb := bndW (n := n) hW.2.2.2.2.2.1 hW.2.2.2.2.2.2.2.1 (by omega) (show o < 120 by omega)
                  have hb2 := bndT hW.2.2.2.2.2.2.2.1 (show o < 120 by omega)
                  have hr : ∀ g0, mX6_send (mkR M (toR A V) g0) M (nI n) (nI a) (nI m) (nI c) = if A 9 (120 * n + o) = 1 then some ((-2 : Int32), mkR M (toR A V) g0) else some (nI (A 9 (120 * n + o) / 2), mkR M (toR (apA (upA A 9 (120 * n + o) (A 9 (120 * n + o) - A 9 (120 * n + o) / 2)) n m 1 o (A 9 (120 * n + o) / 2)) (up2 V 17 (A 0 2) (nI c))) g0) := by
                    intro g0
                    rw [c6, h2, if_pos (by decide), if_neg (by rw [i60]; exact fun q => h60 ((nI_eq (by omega) (by omega)).mp q)), hvo]
                    simp (disch := omega) only [i24, nI_div]
                    rw [if_neg (fun q => hon ((nI_eq (by omega) (by omega)).mp q))]
                    simp (disch := omega) only [i120, nI_mul, nI_add, gl_nI, tR9, Option.bind_some, i2, nI_div, nI_sub, rs9, gs_nI, uR9]
                    by_cases h1 : A 9 (120 * n + o) = 1
                    · rw [if_pos h1, if_pos (by rw [h1]; decide)]
                    · rw [if_neg h1, if_neg (by rw [i1]; exact fun q => h1 ((nI_eq (by omega) (by omega)).mp q))]
                      exact B137 (upA A 9 (120 * n + o) (A 9 (120 * n + o) - A 9 (120 * n + o) / 2)) V g0 o (A 9 (120 * n + o) / 2) (show A 0 2 < 60 by omega)
                  by_cases h1 : A 9 (120 * n + o) = 1
                  · refine same (-2) ?_ ?_
                    · rw [c5, if_pos hk, if_neg (by decide), if_neg h60, if_pos rfl, hs.2, hvo]
                      simp only [eC_splitF hp hn hN5 (show o < 120 by omega) hon h6 (by omega), Option.bind_some, h1]
                      rfl
                    · rw [hr, if_pos h1]
                  · have hhalf : ¬ A 9 (120 * n + o) / 2 = 0 := by omega
                    refine ⟨nI (A 9 (120 * n + o) / 2), mkC b p N (up3 gn n 6 o (nI (A 9 (120 * n + o) - A 9 (120 * n + o) / 2))) (gput gp (2 + pi (A 0 2)) 1 (nI n) (nI m) (nI o) (nI (A 9 (120 * n + o) / 2)) (nI c) (nI (A 0 2 + 1))) pi (mkR M (toR A V) f0), mkC b p N (up3 gn n 6 o (nI (A 9 (120 * n + o) - A 9 (120 * n + o) / 2))) (gput gp (2 + pi (A 0 2)) 1 (nI n) (nI m) (nI o) (nI (A 9 (120 * n + o) / 2)) (nI c) (nI (A 0 2 + 1))) pi (mkR M (toR (apA (upA A 9 (120 * n + o) (A 9 (120 * n + o) - A 9 (120 * n + o) / 2)) n m 1 o (A 9 (120 * n + o) / 2)) (up2 V 17 (A 0 2) (nI c))) f0), ?_, ?_, ?_⟩
                    · rw [c5, if_pos hk, if_neg (by decide), if_neg h60, if_pos rfl, hs.2, hvo]
                      simp only [eC_splitF hp hn hN5 (show o < 120 by omega) hon h6 (by omega), Option.bind_some]
                      rw [if_neg hhalf, if_neg (nI_ne0 (by omega) (by omega))]
                      simp only [cF1 hp, cPchk, Option.bind_some, eC_put hP.1 (show A 0 2 < 60 by omega) hpi]
                    · rw [swapCR hl, swapCR hl, hr, if_neg h1]
                    · have hsw := SIM_w (x := A 9 (120 * n + o) - A 9 (120 * n + o) / 2) hS hn (show o < 120 by omega) (gn n 0 1) (fun m' hm' => by
                        rw [imp_keep (by omega) (by omega)]
                        have := (hS.1 m' hm').2.2.2.2.2.2.2.1
                        split
                        · next e => rw [← e]; exact this
                        · exact this)
                      rw [up3_id (by rw [up3_n _ _ (by omega)])] at hsw
                      have h1' := SIM_put (fr := n) (to := m) (k := 1) (o := o) (w := A 9 (120 * n + o) / 2) (rg := nI c) hsw (show A 0 2 < 60 by omega)
                      exact ⟨_, _, _, _, pi, od, q, rfl, h1', WF_sendF hW hc (by omega) hn hm (fun q => hnm q.symm) ho hon (by omega) hc6, wL⟩
            · have hk : ¬ (gn n 1 a = 2 ∨ gn n 1 a = 3) := by rw [hs.1, ckd_obj hv hN5]; exact h2
              refine same (-1) ?_ ?_
              · rw [c5, if_neg hk, if_pos rfl]
              · rw [c6, if_neg (by rw [i2]; exact fun q => h2 ((nI_eq (by have := okv_lt hv; omega) (by omega)).mp q))]
        · refine same (-1) ?_ ?_
          · unfold mX5_send
            simp only [cchk5 hp, Option.bind_some, eC_isNode hp hN5 hn, eC_isNode hp hN5 hm, eC_isRegister ha, eC_isRegisterX hz]
            rw [if_neg (by decide), if_neg (by decide), if_neg (by decide)]
            rfl
          · unfold mX6_send
            simp only [rchk, Option.bind_some, eR_isReg hA hN5 hn ha, eR_isRegX hA hN5 (x := nI m) (Or.inr hz)]
            rw [if_neg (by decide)]
            rfl
      · refine same (-1) ?_ ?_
        · unfold mX5_send
          simp only [cchk5 hp, Option.bind_some, eC_isNode hp hN5 hn, eC_isRegister ha, eC_isNodeX hp hu]
          rw [if_neg (by decide), if_neg (by decide)]
          rfl
        · unfold mX6_send
          simp only [rchk, Option.bind_some, eR_isReg hA hN5 hn ha, eR_isRegX hA hN5 (Or.inl hu)]
          rw [if_neg (by decide)]
          rfl
    · refine same (-1) ?_ ?_
      · unfold mX5_send
        simp only [cchk5 hp, Option.bind_some, eC_isNode hp hN5 hn, eC_isRegisterX hy]
        rfl
      · unfold mX6_send
        simp only [rchk, Option.bind_some, eR_isRegX hA hN5 (Or.inr hy)]
        rfl
  · refine same (-1) ?_ ?_
    · unfold mX5_send
      simp only [cchk5 hp, Option.bind_some, eC_isNodeX hp hx]
      rfl
    · unfold mX6_send
      simp only [rchk, Option.bind_some, eR_isRegX hA hN5 (Or.inl hx)]
      rfl
theorem o_ask {b p M N cl : Nat} {f0 f : jM} (hl : Lay b p M N) (hI : Inv b p M N cl f0 f) (hc : cl < 512) (x y : Int32) : ∃ r f1 f2, mX5_ask f b x y = some (r, f1) ∧ mX6_ask f1 M x y = some (r, f2) ∧ Inv b p M N (cl + 1) f0 f2 := by
  have hI0 := hI.more hc
  obtain ⟨A, V, gn, gp, pi, od, q, rfl, hS, hW, wL⟩ := hI
  obtain ⟨hA, hN1, hN5⟩ := hW.1
  have hp := hl.1
  have same : ∀ r : Int32, mX5_ask (mkC b p N gn gp pi (mkR M (toR A V) f0)) b x y = some (r, (mkC b p N gn gp pi (mkR M (toR A V) f0))) → mX6_ask (mkR M (toR A V) (mkC b p N gn gp pi f0)) M x y = some (r, (mkR M (toR A V) (mkC b p N gn gp pi f0))) → ∃ r f1 f2, mX5_ask (mkC b p N gn gp pi (mkR M (toR A V) f0)) b x y = some (r, f1) ∧ mX6_ask f1 M x y = some (r, f2) ∧ Inv b p M N (cl + 1) f0 f2 := fun r h h' => ⟨r, (mkC b p N gn gp pi (mkR M (toR A V) f0)), (mkC b p N gn gp pi (mkR M (toR A V) f0)), h, by rw [swapCR hl]; exact h', hI0⟩
  rcases idx x (n := N) (by omega) with ⟨n, hn, rfl⟩ | hx
  · rcases idx y (n := 6) (by omega) with ⟨a, ha, rfl⟩ | hy
    · have hSn := hS.1 n hn
      have hv := hW.2.1 n a hn ha
      have hs := hSn.1 a ha
      have hms := hW.2.2.2.2.2.2.1.1
      have hP := hS.2.1
      have c5 : mX5_ask (mkC b p N gn gp pi (mkR M (toR A V) f0)) b (nI n) (nI a) = (if gn n 1 a = (3 : Int32) then (if (if A 0 2 = 60 then (1 : Int32) else 0) = 0 then ((mX5_nodeOf (mkC b p N gn gp pi (mkR M (toR A V) f0)) (gn n 2 a)).bind fun r20 => (chk 3 r20.2 p).bind fun _ => (mX3_put r20.2 p (3 : Int32) (nI n) r20.1 (gn n 2 a) (0 : Int32) (-1 : Int32)).bind fun f22 => some ((1 : Int32), f22)) else some ((0 : Int32), (mkC b p N gn gp pi (mkR M (toR A V) f0)))) else some ((0 : Int32), (mkC b p N gn gp pi (mkR M (toR A V) f0)))) := by
        unfold mX5_ask
        simp (disch := omega) only [cchk5, Option.bind_some, eC_isNode, eC_isRegister, cF0, cF1, cNod, cPchk, eC_isFull hP.1 hms, cNr1, cNl1, cNr2, cNl2, gl_nI]
        rw [if_neg (by decide), if_neg (by decide)]
      have c6 : ∀ g0, mX6_ask (mkR M (toR A V) g0) M (nI n) (nI a) = (if nI (A 7 (6 * n + a)) = (2 : Int32) then (if nI (A 0 2) = (60 : Int32) then some ((0 : Int32), mkR M (toR A V) g0) else (if (V 8 (6 * n + a) / (24 : Int32)) = nI n then some ((0 : Int32), mkR M (toR A V) g0) else ((mX6_sends (mkR M (toR A V) g0) M (nI n) (V 8 (6 * n + a) / (24 : Int32)) (3 : Int32) (V 8 (6 * n + a)) (0 : Int32) (-1 : Int32)).bind fun f13 => some ((1 : Int32), f13)))) else some ((0 : Int32), mkR M (toR A V) g0)) := by
        intro g0
        unfold mX6_ask
        simp only [rchk, Option.bind_some, eR_isReg hA hN5 hn ha]
        rw [if_neg (by decide)]
        simp (disch := omega) only [rR8, rR9, rI13, rl7, rl8, i6, nI_mul, nI_add, gl_nI, tR7, tR8, tR0, Option.bind_some]
      by_cases h3 : gn n 1 a = 3
      · have hk : A 7 (6 * n + a) = 2 := (ckd_obj hv hN5).mp (by rw [← hs.1]; exact Or.inr h3)
        rw [hk] at hv
        obtain ⟨o, ho, hvo, hto, hor⟩ := okv_obj hv
        have hon : o / 24 ≠ n := by
          intro e
          rw [hs.1, hk, hvo, ckdL (by omega) e] at h3
          exact absurd h3 (by decide)
        have hw0 := hor.resolve_left hon
        by_cases h60 : A 0 2 = 60
        · refine same 0 ?_ ?_
          · rw [c5, if_pos h3, if_pos h60, if_neg (by decide)]
          · rw [c6, hk, if_pos (by decide), h60, if_pos (by decide)]
        · have hpi := hP.2.1 (A 0 2) (by omega)
          refine ⟨1, mkC b p N gn (gput gp (2 + pi (A 0 2)) (nI 3) (nI n) (nI (o / 24)) (nI o) (nI 0) (-1) (nI (A 0 2 + 1))) pi (mkR M (toR A V) f0), mkC b p N gn (gput gp (2 + pi (A 0 2)) (nI 3) (nI n) (nI (o / 24)) (nI o) (nI 0) (-1) (nI (A 0 2 + 1))) pi (mkR M (toR (apA A n (o / 24) 3 o 0) (up2 V 17 (A 0 2) (-1))) f0), ?_, ?_, ?_⟩
          · rw [c5, if_pos h3, if_neg h60, if_pos rfl, hs.2, hvo]
            simp (disch := omega) only [eC_nodeOf, Option.bind_some, cPchk, eC_put hP.1 (show A 0 2 < 60 by omega) hpi]
            rfl
          · rw [swapCR hl, swapCR hl, c6, hk, if_pos (by decide), if_neg (by rw [i60]; exact fun q => h60 ((nI_eq (by omega) (by omega)).mp q)), hvo]
            simp (disch := omega) only [i24, nI_div]
            rw [if_neg (fun q => hon ((nI_eq (by omega) (by omega)).mp q))]
            have := eR_sends (A := A) (V := V) (M := M) (f0 := mkC b p N gn (gput gp (2 + pi (A 0 2)) (nI 3) (nI n) (nI (o / 24)) (nI o) (nI 0) (-1) (nI (A 0 2 + 1))) pi f0) (fr := n) (to := o / 24) (k := 3) (o := o) (w := 0) (r := -1) (show A 0 2 < 64 by omega)
            exact congrArg (fun o => o.bind fun f13 => some ((1 : Int32), f13)) this
          · exact ⟨_, _, _, _, pi, od, q, rfl, SIM_put hS (show A 0 2 < 60 by omega), WF_ask hW hc (by omega) hn ho hon hw0, wL⟩
      · refine same 0 ?_ ?_
        · rw [c5, if_neg h3]
        · rw [c6]
          by_cases hk : A 7 (6 * n + a) = 2
          · have hv' := hv
            rw [hk] at hv'
            obtain ⟨o, ho, hvo, hto, hor⟩ := okv_obj hv'
            have hon : o / 24 = n := by
              apply Classical.byContradiction
              intro e
              rw [hs.1, hk, hvo, ckdF (by omega) e] at h3
              exact h3 rfl
            rw [hk, if_pos (by decide), hvo]
            simp (disch := omega) only [i24, nI_div]
            by_cases h60 : nI (A 0 2) = 60
            · rw [if_pos h60]
            · rw [if_neg h60, if_pos (by rw [hon])]
          · rw [if_neg (by rw [i2]; exact fun q => hk ((nI_eq (by have := okv_lt hv; omega) (by omega)).mp q))]
    · refine same 0 ?_ ?_
      · unfold mX5_ask
        simp only [cchk5 hp, Option.bind_some, eC_isNode hp hN5 hn, eC_isRegisterX hy]
        rfl
      · unfold mX6_ask
        simp only [rchk, Option.bind_some, eR_isRegX hA hN5 (Or.inr hy)]
        rfl
  · refine same 0 ?_ ?_
    · unfold mX5_ask
      simp only [cchk5 hp, Option.bind_some, eC_isNodeX hp hx]
      rfl
    · unfold mX6_ask
      simp only [rchk, Option.bind_some, eR_isRegX hA hN5 (Or.inl hx)]
      rfl
